theorem ev_M_read_176_v {n0 : Nat} {ou : Mou} {va : Mva} {nu : Mnu} {th : Mth} {tx : Mtx} {ds : Mds} {nw : Mnw} {ps : Mps} {nd : Mnd} {us : Mus} {re : Mre} {res : Int32 × Mth × Mtx × Mds × Mnw × Mps × Mnd × Mus × Mre} (h : fn_M_read_176 th tx ds nw ps nd us re = some res) : am_Ev (tb_M_read (am_run rPT rML (n0 + 6))) (176, [(0, .ref 0)], [], (hr th tx ds nw ou ps nd us re va nu)) (some (.int res.1), (hr res.2.1 res.2.2.1 res.2.2.2.1 res.2.2.2.2.1 ou res.2.2.2.2.2.1 res.2.2.2.2.2.2.1 res.2.2.2.2.2.2.2.1 res.2.2.2.2.2.2.2.2 va nu)) := by
  unfold fn_M_read_176 at h
  refine am_Ev.fork (b := decide (ps.2.1 = (-1 : Int32))) (s1 := (189, [(0, .ref 0)], [], (hr th (tx.1, 0) ds nw ou ps nd us re va nu))) (s2 := (193, [(0, .ref 0)], [], (hr th (tx.1, 0) ds nw ou ps nd us re va nu))) 7 (fun _ => rfl) (fun hc => ?_) (fun hc => ?_)
  · have h := (am_ift hc).symm.trans h
    obtain ⟨q1, hq, h⟩ := Option.bind_eq_some_iff.mp h
    refine am_Ev.go 1 (st' := (190, [(0, .ref 0)], [.ref 0], (hr th (tx.1, 0) ds nw ou ps nd us re va nu))) (fun _ => rfl) ?_
    refine am_Ev.call (o := am_run rPT rML (n0 + 6) 17 [.ref 0] (hr th (tx.1, 0) ds nw ou ps nd us re va nu)) (kk := fun q => (193, [(0, .ref 0)], q.1.toList ++ [], q.2)) (q := (none, (hr q1.1 (tx.1, 0) q1.2.1 q1.2.2 ou ps nd us re va nu))) 1 (fun _ => rfl) (ev_M_takeOver_v hq) ?_
    cases h
    exact am_Ev.done 3 rfl
  · have h := (am_iff hc).symm.trans h
    cases h
    exact am_Ev.done 3 rfl
theorem ev_M_read_160_v {n0 : Nat} {ou : Mou} {va : Mva} {nu : Mnu} {x1 : Int32} {th : Mth} {tx : Mtx} {ds : Mds} {nw : Mnw} {ps : Mps} {nd : Mnd} {us : Mus} {re : Mre} {res : Int32 × Mth × Mtx × Mds × Mnw × Mps × Mnd × Mus × Mre} (h : fn_M_read_160 x1 th tx ds nw ps nd us re = some res) : am_Ev (tb_M_read (am_run rPT rML (n0 + 6))) (160, [(0, .ref 0), (1, .int x1)], [], (hr th tx ds nw ou ps nd us re va nu)) (some (.int res.1), (hr res.2.1 res.2.2.1 res.2.2.2.1 res.2.2.2.2.1 ou res.2.2.2.2.2.1 res.2.2.2.2.2.2.1 res.2.2.2.2.2.2.2.1 res.2.2.2.2.2.2.2.2 va nu)) := by
  unfold fn_M_read_160 at h
  refine am_Ev.fork (b := decide (ps.2.1 = (-1 : Int32))) (s1 := (168, [(0, .ref 0), (1, .int x1)], [], (hr th tx ds nw ou ps nd us re va nu))) (s2 := (176, [(0, .ref 0), (1, .int x1)], [], (hr th tx ds nw ou ps nd us re va nu))) 4 (fun _ => rfl) (fun hc => ?_) (fun hc => ?_)
  · have h := (am_ift hc).symm.trans h
    refine am_Ev.fork (b := decide (x1 = 0)) (s1 := (172, [(0, .ref 0), (1, .int x1)], [], (hr th tx ds nw ou ps nd us re va nu))) (s2 := (176, [(0, .ref 0), (1, .int x1)], [], (hr th tx ds nw ou ps nd us re va nu))) 2 (fun _ => rfl) (fun hc => ?_) (fun hc => ?_)
    · have h := (am_ift hc).symm.trans h
      obtain ⟨q2, hq, h⟩ := Option.bind_eq_some_iff.mp h
      refine am_Ev.go 1 (st' := (173, [(0, .ref 0), (1, .int x1)], [.ref 0], (hr th tx ds nw ou ps nd us re va nu))) (fun _ => rfl) ?_
      refine am_Ev.call (o := am_run rPT rML (n0 + 6) 15 [.ref 0] (hr th tx ds nw ou ps nd us re va nu)) (kk := fun q => (176, [(0, .ref 0), (1, .int x1)], q.1.toList ++ [], q.2)) (q := (none, (hr th tx ds nw ou q2.1 nd us q2.2 va nu))) 1 (fun _ => rfl) (ev_M_findResting_v hq) ?_
      refine am_Ev.same (st' := (176, [(0, .ref 0)], [], (hr th tx ds nw ou q2.1 nd us q2.2 va nu))) (fun _ => rfl) ?_
      exact ev_M_read_176_v h
    · have h := (am_iff hc).symm.trans h
      refine am_Ev.same (st' := (176, [(0, .ref 0)], [], (hr th tx ds nw ou ps nd us re va nu))) (fun _ => rfl) ?_
      exact ev_M_read_176_v h
  · have h := (am_iff hc).symm.trans h
    refine am_Ev.same (st' := (176, [(0, .ref 0)], [], (hr th tx ds nw ou ps nd us re va nu))) (fun _ => rfl) ?_
    exact ev_M_read_176_v h
theorem ev_M_read_144_v {n0 : Nat} {ou : Mou} {va : Mva} {nu : Mnu} {x1 : Int32} {th : Mth} {tx : Mtx} {ds : Mds} {nw : Mnw} {ps : Mps} {nd : Mnd} {us : Mus} {re : Mre} {res : Int32 × Mth × Mtx × Mds × Mnw × Mps × Mnd × Mus × Mre} (h : fn_M_read_144 x1 th tx ds nw ps nd us re = some res) : am_Ev (tb_M_read (am_run rPT rML (n0 + 6))) (144, [(0, .ref 0), (1, .int x1)], [], (hr th tx ds nw ou ps nd us re va nu)) (some (.int res.1), (hr res.2.1 res.2.2.1 res.2.2.2.1 res.2.2.2.2.1 ou res.2.2.2.2.2.1 res.2.2.2.2.2.2.1 res.2.2.2.2.2.2.2.1 res.2.2.2.2.2.2.2.2 va nu)) := by
  unfold fn_M_read_144 at h
  refine am_Ev.fork (b := decide (ps.2.1 = (-1 : Int32))) (s1 := (152, [(0, .ref 0), (1, .int x1)], [], (hr th tx ds nw ou ps nd us re va nu))) (s2 := (160, [(0, .ref 0), (1, .int x1)], [], (hr th tx ds nw ou ps nd us re va nu))) 4 (fun _ => rfl) (fun hc => ?_) (fun hc => ?_)
  · have h := (am_ift hc).symm.trans h
    refine am_Ev.fork (b := decide (x1 = 0)) (s1 := (156, [(0, .ref 0), (1, .int x1)], [], (hr th tx ds nw ou ps nd us re va nu))) (s2 := (160, [(0, .ref 0), (1, .int x1)], [], (hr th tx ds nw ou ps nd us re va nu))) 2 (fun _ => rfl) (fun hc => ?_) (fun hc => ?_)
    · have h := (am_ift hc).symm.trans h
      obtain ⟨q3, hq, h⟩ := Option.bind_eq_some_iff.mp h
      refine am_Ev.go 1 (st' := (157, [(0, .ref 0), (1, .int x1)], [.ref 0], (hr th tx ds nw ou ps nd us re va nu))) (fun _ => rfl) ?_
      refine am_Ev.call (o := am_run rPT rML (n0 + 6) 14 [.ref 0] (hr th tx ds nw ou ps nd us re va nu)) (kk := fun q => (160, [(0, .ref 0), (1, .int x1)], q.1.toList ++ [], q.2)) (q := (none, (hr th tx ds nw ou q3 nd us re va nu))) 1 (fun _ => rfl) (ev_M_findUndefined_v hq) ?_
      exact ev_M_read_160_v h
    · have h := (am_iff hc).symm.trans h
      exact ev_M_read_160_v h
  · have h := (am_iff hc).symm.trans h
    exact ev_M_read_160_v h
theorem ev_M_read_103_v {n0 : Nat} {ou : Mou} {va : Mva} {nu : Mnu} {x1 : Int32} {th : Mth} {tx : Mtx} {ds : Mds} {nw : Mnw} {ps : Mps} {nd : Mnd} {us : Mus} {re : Mre} {res : Int32 × Mth × Mtx × Mds × Mnw × Mps × Mnd × Mus × Mre} (h : fn_M_read_103 x1 th tx ds nw ps nd us re = some res) : am_Ev (tb_M_read (am_run rPT rML (n0 + 6))) (103, [(0, .ref 0), (1, .int x1)], [], (hr th tx ds nw ou ps nd us re va nu)) (some (.int res.1), (hr res.2.1 res.2.2.1 res.2.2.2.1 res.2.2.2.2.1 ou res.2.2.2.2.2.1 res.2.2.2.2.2.2.1 res.2.2.2.2.2.2.2.1 res.2.2.2.2.2.2.2.2 va nu)) := by
  unfold fn_M_read_103 at h
  refine am_Ev.fork (b := decide (ps.2.1 = (-1 : Int32))) (s1 := (111, [(0, .ref 0), (1, .int x1)], [], (hr th tx ds nw ou ps nd us re va nu))) (s2 := (144, [(0, .ref 0), (1, .int x1)], [], (hr th tx ds nw ou ps nd us re va nu))) 4 (fun _ => rfl) (fun hc => ?_) (fun hc => ?_)
  · have h := (am_ift hc).symm.trans h
    refine am_Ev.fork (b := decide (tx.2 ≤ ps.1)) (s1 := (144, [(0, .ref 0), (1, .int x1)], [], (hr th tx ds nw ou ps nd us re va nu))) (s2 := (122, [(0, .ref 0), (1, .int x1)], [], (hr th tx ds nw ou ps nd us re va nu))) 5 (fun _ => rfl) (fun hc => ?_) (fun hc => ?_)
    · have h := (am_ift hc).symm.trans h
      exact ev_M_read_144_v h
    · have h := (am_iff hc).symm.trans h
      obtain ⟨hc, h⟩ := am_ifn h
      refine am_Ev.guard (b := decide (0 ≤ ps.1.toInt ∧ ps.1.toInt < (1500 : Int))) (s1 := (131, [(0, .ref 0), (1, .int x1)], [.int (tx.1 ps.1.toNatClampNeg)], (hr th tx ds nw ou ps nd us re va nu))) 5 (fun _ => rfl) hc ?_
      refine am_Ev.fork (b := decide ((tx.1 ps.1.toNatClampNeg) = (99 : Int32))) (s1 := (144, [(0, .ref 0), (1, .int x1)], [], (hr th tx ds nw ou ps nd us re va nu))) (s2 := (136, [(0, .ref 0), (1, .int x1)], [], (hr th tx ds nw ou ps nd us re va nu))) 2 (fun _ => rfl) (fun hc => ?_) (fun hc => ?_)
      · have h := (am_ift hc).symm.trans h
        exact ev_M_read_144_v h
      · have h := (am_iff hc).symm.trans h
        obtain ⟨q4, hq, h⟩ := Option.bind_eq_some_iff.mp h
        refine am_Ev.go 3 (st' := (141, [(0, .ref 0), (1, .int x1)], [.int ps.1, .ref 0], (hr th tx ds nw ou ps nd us re va nu))) (fun _ => rfl) ?_
        refine am_Ev.call (o := am_run rPT rML (n0 + 6) 2 [.ref 0, .int ps.1] (hr th tx ds nw ou ps nd us re va nu)) (kk := fun q => (144, [(0, .ref 0), (1, .int x1)], q.1.toList ++ [], q.2)) (q := (none, (hr th tx ds nw ou q4 nd us re va nu))) 1 (fun _ => rfl) (ev_M_bad_v hq) ?_
        exact ev_M_read_144_v h
  · have h := (am_iff hc).symm.trans h
    exact ev_M_read_144_v h
theorem ev_M_read_91_v {n0 : Nat} {ou : Mou} {va : Mva} {nu : Mnu} {x1 : Int32} {th : Mth} {tx : Mtx} {ds : Mds} {nw : Mnw} {ps : Mps} {nd : Mnd} {us : Mus} {re : Mre} {res : Int32 × Mth × Mtx × Mds × Mnw × Mps × Mnd × Mus × Mre} (h : fn_M_read_91 x1 th tx ds nw ps nd us re = some res) : am_Ev (tb_M_read (am_run rPT rML (n0 + 6))) (91, [(0, .ref 0), (1, .int x1)], [], (hr th tx ds nw ou ps nd us re va nu)) (some (.int res.1), (hr res.2.1 res.2.2.1 res.2.2.2.1 res.2.2.2.2.1 ou res.2.2.2.2.2.1 res.2.2.2.2.2.2.1 res.2.2.2.2.2.2.2.1 res.2.2.2.2.2.2.2.2 va nu)) := by
  unfold fn_M_read_91 at h
  refine am_Ev.fork (b := decide (ps.2.1 = (-1 : Int32))) (s1 := (99, [(0, .ref 0), (1, .int x1)], [], (hr th tx ds nw ou ps nd us re va nu))) (s2 := (103, [(0, .ref 0), (1, .int x1)], [], (hr th tx ds nw ou ps nd us re va nu))) 4 (fun _ => rfl) (fun hc => ?_) (fun hc => ?_)
  · have h := (am_ift hc).symm.trans h
    obtain ⟨q5, hq, h⟩ := Option.bind_eq_some_iff.mp h
    refine am_Ev.go 1 (st' := (100, [(0, .ref 0), (1, .int x1)], [.ref 0], (hr th tx ds nw ou ps nd us re va nu))) (fun _ => rfl) ?_
    refine am_Ev.call (o := am_run rPT rML (n0 + 6) 10 [.ref 0] (hr th tx ds nw ou ps nd us re va nu)) (kk := fun q => (103, [(0, .ref 0), (1, .int x1)], q.1.toList ++ [], q.2)) (q := (none, (hr th tx ds nw ou q5.1 q5.2.1 q5.2.2 re va nu))) 1 (fun _ => rfl) (ev_M_plainBody_v hq) ?_
    exact ev_M_read_103_v h
  · have h := (am_iff hc).symm.trans h
    exact ev_M_read_103_v h
theorem ev_M_read_48_v {n0 : Nat} {ou : Mou} {va : Mva} {nu : Mnu} {x1 : Int32} {κ : Mth → Mtx → Mds → Mnw → Mps → Mnd → Mus → Mre → Option (Int32 × Mth × Mtx × Mds × Mnw × Mps × Mnd × Mus × Mre)} (hκ : ∀ (th : Mth) (tx : Mtx) (ds : Mds) (nw : Mnw) (ps : Mps) (nd : Mnd) (us : Mus) (re : Mre) (res : Int32 × Mth × Mtx × Mds × Mnw × Mps × Mnd × Mus × Mre), κ th tx ds nw ps nd us re = some res → am_Ev (tb_M_read (am_run rPT rML (n0 + 6))) (67, [(0, .ref 0), (1, .int x1)], [], (hr th tx ds nw ou ps nd us re va nu)) (some (.int res.1), (hr res.2.1 res.2.2.1 res.2.2.2.1 res.2.2.2.2.1 ou res.2.2.2.2.2.1 res.2.2.2.2.2.2.1 res.2.2.2.2.2.2.2.1 res.2.2.2.2.2.2.2.2 va nu))) : ∀ (n : Nat) (x2 : Int32) (th : Mth) (tx : Mtx) (ds : Mds) (nw : Mnw) (ps : Mps) (nd : Mnd) (us : Mus) (re : Mre) (res : Int32 × Mth × Mtx × Mds × Mnw × Mps × Mnd × Mus × Mre), fn_M_read_48 x1 κ n x2 th tx ds nw ps nd us re = some res → am_Ev (tb_M_read (am_run rPT rML (n0 + 6))) (48, [(0, .ref 0), (1, .int x1), (2, .int x2)], [], (hr th tx ds nw ou ps nd us re va nu)) (some (.int res.1), (hr res.2.1 res.2.2.1 res.2.2.2.1 res.2.2.2.2.1 ou res.2.2.2.2.2.1 res.2.2.2.2.2.2.1 res.2.2.2.2.2.2.2.1 res.2.2.2.2.2.2.2.2 va nu)) := by
  intro n
  induction n with
  | zero => intro x2 th tx ds nw ps nd us re res h; unfold fn_M_read_48 at h; cases h
  | succ n ih =>
    intro x2 th tx ds nw ps nd us re res h
    unfold fn_M_read_48 at h
    refine am_Ev.fork (b := decide ((100 : Int32) ≤ x2)) (s1 := (67, [(0, .ref 0), (1, .int x1), (2, .int x2)], [], (hr th tx ds nw ou ps nd us re va nu))) (s2 := (54, [(0, .ref 0), (1, .int x1), (2, .int x2)], [], (hr th tx ds nw ou ps nd us re va nu))) 3 (fun _ => rfl) (fun hc => ?_) (fun hc => ?_)
    · have h := (am_ift hc).symm.trans h
      refine am_Ev.same (st' := (67, [(0, .ref 0), (1, .int x1)], [], (hr th tx ds nw ou ps nd us re va nu))) (fun _ => rfl) ?_
      exact hκ _ _ _ _ _ _ _ _ _ h
    · have h := (am_iff hc).symm.trans h
      obtain ⟨hc, h⟩ := am_ifn h
      refine am_Ev.guard (b := decide (0 ≤ x2.toInt ∧ x2.toInt < (100 : Int))) (s1 := (61, [(0, .ref 0), (1, .int x1), (2, .int x2)], [], (hr th tx ds nw ou ps nd (us.1, upd us.2.1 x2.toNatClampNeg (vp_nar .boolean (0 : Int32)), us.2.2.1, us.2.2.2.1, us.2.2.2.2) re va nu))) 5 (fun _ => rfl) hc ?_
      refine am_Ev.go 2 (st' := (48, [(0, .ref 0), (1, .int x1), (2, .int (x2 + 1))], [], (hr th tx ds nw ou ps nd (us.1, upd us.2.1 x2.toNatClampNeg (vp_nar .boolean (0 : Int32)), us.2.2.1, us.2.2.2.1, us.2.2.2.2) re va nu))) (fun _ => rfl) ?_
      exact ih _ _ _ _ _ _ _ _ _ _ h
theorem ev_M_read_30_v {n0 : Nat} {ou : Mou} {va : Mva} {nu : Mnu} {s0 : Int32} {th : Mth} {tx : Mtx} {ds : Mds} {nw : Mnw} {ps : Mps} {nd : Mnd} {us : Mus} {re : Mre} {res : Int32 × Mth × Mtx × Mds × Mnw × Mps × Mnd × Mus × Mre} (h : fn_M_read_30 s0 th tx ds nw ps nd us re = some res) : am_Ev (tb_M_read (am_run rPT rML (n0 + 6))) (30, [(0, .ref 0)], [.int s0], (hr th tx ds nw ou ps nd us re va nu)) (some (.int res.1), (hr res.2.1 res.2.2.1 res.2.2.2.1 res.2.2.2.2.1 ou res.2.2.2.2.2.1 res.2.2.2.2.2.2.1 res.2.2.2.2.2.2.2.1 res.2.2.2.2.2.2.2.2 va nu)) := by
  unfold fn_M_read_30 at h
  refine am_Ev.go 12 (st' := (48, [(0, .ref 0), (1, .int s0), (2, .int 0)], [], (hr th tx ds nw ou (0, (-1), ps.2.2) nd (us.1, us.2.1, us.2.2.1, us.2.2.2.1, 0) re va nu))) (fun _ => rfl) ?_
  refine ev_M_read_48_v ?_ _ _ _ _ _ _ _ _ _ _ _ h
  intro th_7 tx_7 ds_7 nw_7 ps_7 nd_7 us_7 re_7 res h
  try dsimp only at h
  obtain ⟨q7, hq, h⟩ := Option.bind_eq_some_iff.mp h
  refine am_Ev.go 2 (st' := (69, [(0, .ref 0), (1, .int s0)], [.int s0, .ref 0], (hr th_7 tx_7 ds_7 nw_7 ou ps_7 nd_7 us_7 re_7 va nu))) (fun _ => rfl) ?_
  refine am_Ev.call (o := am_run rPT rML (n0 + 6) 8 [.ref 0, .int s0] (hr th_7 tx_7 ds_7 nw_7 ou ps_7 nd_7 us_7 re_7 va nu)) (kk := fun q => (72, [(0, .ref 0), (1, .int s0)], q.1.toList ++ [], q.2)) (q := (none, (hr th_7 tx_7 ds_7 nw_7 ou q7.1 q7.2 us_7 re_7 va nu))) 1 (fun _ => rfl) (ev_M_header_v hq) ?_
  refine am_Ev.fork (b := decide (q7.1.2.1 = (-1 : Int32))) (s1 := (80, [(0, .ref 0), (1, .int s0)], [], (hr th_7 tx_7 ds_7 nw_7 ou q7.1 q7.2 us_7 re_7 va nu))) (s2 := (91, [(0, .ref 0), (1, .int s0)], [], (hr th_7 tx_7 ds_7 nw_7 ou q7.1 q7.2 us_7 re_7 va nu))) 4 (fun _ => rfl) (fun hc => ?_) (fun hc => ?_)
  · have h := (am_ift hc).symm.trans h
    refine am_Ev.fork (b := decide (s0 = 0)) (s1 := (91, [(0, .ref 0), (1, .int s0)], [], (hr th_7 tx_7 ds_7 nw_7 ou q7.1 q7.2 us_7 re_7 va nu))) (s2 := (84, [(0, .ref 0), (1, .int s0)], [], (hr th_7 tx_7 ds_7 nw_7 ou q7.1 q7.2 us_7 re_7 va nu))) 2 (fun _ => rfl) (fun hc => ?_) (fun hc => ?_)
    · have h := (am_ift hc).symm.trans h
      exact ev_M_read_91_v h
    · have h := (am_iff hc).symm.trans h
      obtain ⟨q8, hq, h⟩ := Option.bind_eq_some_iff.mp h
      refine am_Ev.go 1 (st' := (85, [(0, .ref 0), (1, .int s0)], [.ref 0], (hr th_7 tx_7 ds_7 nw_7 ou q7.1 q7.2 us_7 re_7 va nu))) (fun _ => rfl) ?_
      refine am_Ev.call (o := am_run rPT rML (n0 + 6) 12 [.ref 0] (hr th_7 tx_7 ds_7 nw_7 ou q7.1 q7.2 us_7 re_7 va nu)) (kk := fun q => (88, [(0, .ref 0), (1, .int s0)], q.1.toList ++ [], q.2)) (q := (none, (hr th_7 tx_7 ds_7 nw_7 ou q8.1 q8.2.1 q8.2.2 re_7 va nu))) 1 (fun _ => rfl) (ev_M_packedBody_v hq) ?_
      refine am_Ev.go 1 (st' := (103, [(0, .ref 0), (1, .int s0)], [], (hr th_7 tx_7 ds_7 nw_7 ou q8.1 q8.2.1 q8.2.2 re_7 va nu))) (fun _ => rfl) ?_
      exact ev_M_read_103_v h
  · have h := (am_iff hc).symm.trans h
    exact ev_M_read_91_v h
theorem ev_M_read_29_v {n0 : Nat} {ou : Mou} {va : Mva} {nu : Mnu} {th : Mth} {tx : Mtx} {ds : Mds} {nw : Mnw} {ps : Mps} {nd : Mnd} {us : Mus} {re : Mre} {res : Int32 × Mth × Mtx × Mds × Mnw × Mps × Mnd × Mus × Mre} (h : fn_M_read_29 th tx ds nw ps nd us re = some res) : am_Ev (tb_M_read (am_run rPT rML (n0 + 6))) (29, [(0, .ref 0)], [], (hr th tx ds nw ou ps nd us re va nu)) (some (.int res.1), (hr res.2.1 res.2.2.1 res.2.2.2.1 res.2.2.2.2.1 ou res.2.2.2.2.2.1 res.2.2.2.2.2.2.1 res.2.2.2.2.2.2.2.1 res.2.2.2.2.2.2.2.2 va nu)) := by
  unfold fn_M_read_29 at h
  refine am_Ev.go 1 (st' := (30, [(0, .ref 0)], [.int 0], (hr th tx ds nw ou ps nd us re va nu))) (fun _ => rfl) ?_
  exact ev_M_read_30_v h
theorem ev_M_read_v {n0 : Nat} {ou : Mou} {va : Mva} {nu : Mnu} {th : Mth} {tx : Mtx} {ds : Mds} {nw : Mnw} {ps : Mps} {nd : Mnd} {us : Mus} {re : Mre} {res : Int32 × Mth × Mtx × Mds × Mnw × Mps × Mnd × Mus × Mre} (h : fn_M_read th tx ds nw ps nd us re = some res) : am_run rPT rML (n0 + 7) 16 [.ref 0] (hr th tx ds nw ou ps nd us re va nu) = some (some (.int res.1), (hr res.2.1 res.2.2.1 res.2.2.2.1 res.2.2.2.2.1 ou res.2.2.2.2.2.1 res.2.2.2.2.2.2.1 res.2.2.2.2.2.2.2.1 res.2.2.2.2.2.2.2.2 va nu)) := by
  refine am_run_of (d := n0 + 6) rfl ?_
  show am_Ev (tb_M_read (am_run rPT rML (n0 + 6))) (0, [(0, .ref 0)], [], (hr th tx ds nw ou ps nd us re va nu)) (some (.int res.1), (hr res.2.1 res.2.2.1 res.2.2.2.1 res.2.2.2.2.1 ou res.2.2.2.2.2.1 res.2.2.2.2.2.2.1 res.2.2.2.2.2.2.2.1 res.2.2.2.2.2.2.2.2 va nu))
  unfold fn_M_read at h
  obtain ⟨q9, hq, h⟩ := Option.bind_eq_some_iff.mp h
  refine am_Ev.go 5 (st' := (7, [(0, .ref 0)], [.int 1, .ref 0], (hr 0 tx ds nw ou ps nd us re va nu))) (fun _ => rfl) ?_
  refine am_Ev.call (o := am_run rPT rML (n0 + 6) 1 [.ref 0, .int 1] (hr 0 tx ds nw ou ps nd us re va nu)) (kk := fun q => (10, [(0, .ref 0)], q.1.toList ++ [], q.2)) (q := (some (.int q9), (hr 0 tx ds nw ou ps nd us re va nu))) 1 (fun _ => rfl) (ev_M_byteAt_v hq) ?_
  refine am_Ev.fork (b := decide (q9 = (105 : Int32))) (s1 := (15, [(0, .ref 0)], [], (hr 0 tx ds nw ou ps nd us re va nu))) (s2 := (29, [(0, .ref 0)], [], (hr 0 tx ds nw ou ps nd us re va nu))) 2 (fun _ => rfl) (fun hc => ?_) (fun hc => ?_)
  · have h := (am_ift hc).symm.trans h
    obtain ⟨q10, hq, h⟩ := Option.bind_eq_some_iff.mp h
    refine am_Ev.go 2 (st' := (17, [(0, .ref 0)], [.int 2, .ref 0], (hr 0 tx ds nw ou ps nd us re va nu))) (fun _ => rfl) ?_
    refine am_Ev.call (o := am_run rPT rML (n0 + 6) 1 [.ref 0, .int 2] (hr 0 tx ds nw ou ps nd us re va nu)) (kk := fun q => (20, [(0, .ref 0)], q.1.toList ++ [], q.2)) (q := (some (.int q10), (hr 0 tx ds nw ou ps nd us re va nu))) 1 (fun _ => rfl) (ev_M_byteAt_v hq) ?_
    refine am_Ev.fork (b := decide (q10 = (103 : Int32))) (s1 := (25, [(0, .ref 0)], [], (hr 0 tx ds nw ou ps nd us re va nu))) (s2 := (29, [(0, .ref 0)], [], (hr 0 tx ds nw ou ps nd us re va nu))) 2 (fun _ => rfl) (fun hc => ?_) (fun hc => ?_)
    · have h := (am_ift hc).symm.trans h
      refine am_Ev.go 2 (st' := (30, [(0, .ref 0)], [.int 1], (hr 0 tx ds nw ou ps nd us re va nu))) (fun _ => rfl) ?_
      exact ev_M_read_30_v h
    · have h := (am_iff hc).symm.trans h
      exact ev_M_read_29_v h
  · have h := (am_iff hc).symm.trans h
    exact ev_M_read_29_v h
