theorem ev_M_put_46_v {n0 : Nat} {ds : Mds} {nw : Mnw} {ou : Mou} {ps : Mps} {nd : Mnd} {us : Mus} {re : Mre} {va : Mva} {nu : Mnu} {x1 : Int32} {x2 : Int32} {κ : Mth → Mtx → Option (Int32 × Mth × Mtx)} (hκ : ∀ (th : Mth) (tx : Mtx) (res : Int32 × Mth × Mtx), κ th tx = some res → am_Ev (tb_M_put (am_run rPT rML (n0 + 0))) (86, [(0, .ref 0)], [], (hr th tx ds nw ou ps nd us re va nu)) (some (.int res.1), (hr res.2.1 res.2.2 ds nw ou ps nd us re va nu))) : ∀ (n : Nat) (x3 : Int32) (th : Mth) (tx : Mtx) (res : Int32 × Mth × Mtx), fn_M_put_46 x1 x2 κ n x3 th tx = some res → am_Ev (tb_M_put (am_run rPT rML (n0 + 0))) (46, [(0, .ref 0), (1, .int x1), (2, .int x2), (3, .int x3)], [], (hr th tx ds nw ou ps nd us re va nu)) (some (.int res.1), (hr res.2.1 res.2.2 ds nw ou ps nd us re va nu)) := by
  intro n
  induction n with
  | zero => intro x3 th tx res h; unfold fn_M_put_46 at h; cases h
  | succ n ih =>
    intro x3 th tx res h
    unfold fn_M_put_46 at h
    refine am_Ev.fork (b := decide (x1 ≤ x3)) (s1 := (86, [(0, .ref 0), (1, .int x1), (2, .int x2), (3, .int x3)], [], (hr th tx ds nw ou ps nd us re va nu))) (s2 := (51, [(0, .ref 0), (1, .int x1), (2, .int x2), (3, .int x3)], [], (hr th tx ds nw ou ps nd us re va nu))) 3 (fun _ => rfl) (fun hc => ?_) (fun hc => ?_)
    · have h := (am_ift hc).symm.trans h
      refine am_Ev.same (st' := (86, [(0, .ref 0)], [], (hr th tx ds nw ou ps nd us re va nu))) (fun _ => rfl) ?_
      exact hκ _ _ _ h
    · have h := (am_iff hc).symm.trans h
      obtain ⟨hc, h⟩ := am_ifn h
      refine am_Ev.guard (b := decide (0 ≤ tx.2.toInt ∧ tx.2.toInt < (1500 : Int))) (s1 := (70, [(0, .ref 0), (1, .int x1), (2, .int x2), (3, .int x3)], [], (hr th (upd tx.1 tx.2.toNatClampNeg (((x2 >>> (((8 : Int32) * x3) &&& 31)) &&& (255 : Int32))), tx.2) ds nw ou ps nd us re va nu))) 12 (fun _ => rfl) hc ?_
      refine am_Ev.go 8 (st' := (46, [(0, .ref 0), (1, .int x1), (2, .int x2), (3, .int (x3 + 1))], [], (hr th (upd tx.1 tx.2.toNatClampNeg (((x2 >>> (((8 : Int32) * x3) &&& 31)) &&& (255 : Int32))), tx.2 + (1 : Int32)) ds nw ou ps nd us re va nu))) (fun _ => rfl) ?_
      exact ih _ _ _ _ h
theorem ev_M_put_32_v {n0 : Nat} {ds : Mds} {nw : Mnw} {ou : Mou} {ps : Mps} {nd : Mnd} {us : Mus} {re : Mre} {va : Mva} {nu : Mnu} {s1 : Int32} {x1 : Int32} {x2 : Int32} {th : Mth} {tx : Mtx} {res : Int32 × Mth × Mtx} (h : fn_M_put_32 s1 x1 x2 th tx = some res) : am_Ev (tb_M_put (am_run rPT rML (n0 + 0))) (32, [(0, .ref 0), (1, .int x1), (2, .int x2)], [.int s1, .ref 0], (hr th tx ds nw ou ps nd us re va nu)) (some (.int res.1), (hr res.2.1 res.2.2 ds nw ou ps nd us re va nu)) := by
  unfold fn_M_put_32 at h
  refine am_Ev.fork (b := decide (s1 ≤ 0)) (s1 := (44, [(0, .ref 0), (1, .int x1), (2, .int x2)], [], (hr s1 tx ds nw ou ps nd us re va nu))) (s2 := (42, [(0, .ref 0), (1, .int x1), (2, .int x2)], [], (hr s1 tx ds nw ou ps nd us re va nu))) 4 (fun _ => rfl) (fun hc => ?_) (fun hc => ?_)
  · have h := (am_ift hc).symm.trans h
    refine am_Ev.go 2 (st' := (46, [(0, .ref 0), (1, .int x1), (2, .int x2), (3, .int 0)], [], (hr s1 tx ds nw ou ps nd us re va nu))) (fun _ => rfl) ?_
    refine ev_M_put_46_v ?_ _ _ _ _ _ h
    intro th_2 tx_2 res h
    try dsimp only at h
    cases h
    exact am_Ev.done 3 rfl
  · have h := (am_iff hc).symm.trans h
    cases h
    exact am_Ev.done 2 rfl
theorem ev_M_put_11_v {n0 : Nat} {ds : Mds} {nw : Mnw} {ou : Mou} {ps : Mps} {nd : Mnd} {us : Mus} {re : Mre} {va : Mva} {nu : Mnu} {x1 : Int32} {x2 : Int32} {th : Mth} {tx : Mtx} {res : Int32 × Mth × Mtx} (h : fn_M_put_11 x1 x2 th tx = some res) : am_Ev (tb_M_put (am_run rPT rML (n0 + 0))) (11, [(0, .ref 0), (1, .int x1), (2, .int x2)], [.ref 0], (hr th tx ds nw ou ps nd us re va nu)) (some (.int res.1), (hr res.2.1 res.2.2 ds nw ou ps nd us re va nu)) := by
  unfold fn_M_put_11 at h
  refine am_Ev.go 2 (st' := (32, [(0, .ref 0), (1, .int x1), (2, .int x2)], [.int 1, .ref 0], (hr th tx ds nw ou ps nd us re va nu))) (fun _ => rfl) ?_
  exact ev_M_put_32_v h
theorem ev_M_put_v {n0 : Nat} {ds : Mds} {nw : Mnw} {ou : Mou} {ps : Mps} {nd : Mnd} {us : Mus} {re : Mre} {va : Mva} {nu : Mnu} {x1 : Int32} {x2 : Int32} {th : Mth} {tx : Mtx} {res : Int32 × Mth × Mtx} (h : fn_M_put x1 x2 th tx = some res) : am_run rPT rML (n0 + 1) 0 [.ref 0, .int x1, .int x2] (hr th tx ds nw ou ps nd us re va nu) = some (some (.int res.1), (hr res.2.1 res.2.2 ds nw ou ps nd us re va nu)) := by
  refine am_run_of (d := n0 + 0) rfl ?_
  show am_Ev (tb_M_put (am_run rPT rML (n0 + 0))) (0, [(0, .ref 0), (1, .int x1), (2, .int x2)], [], (hr th tx ds nw ou ps nd us re va nu)) (some (.int res.1), (hr res.2.1 res.2.2 ds nw ou ps nd us re va nu))
  unfold fn_M_put at h
  refine am_Ev.fork (b := decide (x1 < (1 : Int32))) (s1 := (11, [(0, .ref 0), (1, .int x1), (2, .int x2)], [.ref 0], (hr th tx ds nw ou ps nd us re va nu))) (s2 := (6, [(0, .ref 0), (1, .int x1), (2, .int x2)], [.ref 0], (hr th tx ds nw ou ps nd us re va nu))) 4 (fun _ => rfl) (fun hc => ?_) (fun hc => ?_)
  · have h := (am_ift hc).symm.trans h
    exact ev_M_put_11_v h
  · have h := (am_iff hc).symm.trans h
    refine am_Ev.fork (b := decide (x1 ≤ (4 : Int32))) (s1 := (15, [(0, .ref 0), (1, .int x1), (2, .int x2)], [.ref 0], (hr th tx ds nw ou ps nd us re va nu))) (s2 := (11, [(0, .ref 0), (1, .int x1), (2, .int x2)], [.ref 0], (hr th tx ds nw ou ps nd us re va nu))) 3 (fun _ => rfl) (fun hc => ?_) (fun hc => ?_)
    · have h := (am_ift hc).symm.trans h
      refine am_Ev.fork (b := decide ((tx.2 + x1) ≤ (1500 : Int32))) (s1 := (31, [(0, .ref 0), (1, .int x1), (2, .int x2)], [.ref 0], (hr th tx ds nw ou ps nd us re va nu))) (s2 := (27, [(0, .ref 0), (1, .int x1), (2, .int x2)], [.ref 0], (hr th tx ds nw ou ps nd us re va nu))) 6 (fun _ => rfl) (fun hc => ?_) (fun hc => ?_)
      · have h := (am_ift hc).symm.trans h
        refine am_Ev.go 1 (st' := (32, [(0, .ref 0), (1, .int x1), (2, .int x2)], [.int 0, .ref 0], (hr th tx ds nw ou ps nd us re va nu))) (fun _ => rfl) ?_
        exact ev_M_put_32_v h
      · have h := (am_iff hc).symm.trans h
        refine am_Ev.go 2 (st' := (32, [(0, .ref 0), (1, .int x1), (2, .int x2)], [.int 2, .ref 0], (hr th tx ds nw ou ps nd us re va nu))) (fun _ => rfl) ?_
        exact ev_M_put_32_v h
    · have h := (am_iff hc).symm.trans h
      exact ev_M_put_11_v h
theorem ev_M_byteAt_v {n0 : Nat} {th : Mth} {ds : Mds} {nw : Mnw} {ou : Mou} {ps : Mps} {nd : Mnd} {us : Mus} {re : Mre} {va : Mva} {nu : Mnu} {x1 : Int32} {tx : Mtx} {res : Int32} (h : fn_M_byteAt x1 tx = some res) : am_run rPT rML (n0 + 1) 1 [.ref 0, .int x1] (hr th tx ds nw ou ps nd us re va nu) = some (some (.int res), (hr th tx ds nw ou ps nd us re va nu)) := by
  refine am_run_of (d := n0 + 0) rfl ?_
  show am_Ev (tb_M_byteAt (am_run rPT rML (n0 + 0))) (0, [(0, .ref 0), (1, .int x1)], [], (hr th tx ds nw ou ps nd us re va nu)) (some (.int res), (hr th tx ds nw ou ps nd us re va nu))
  unfold fn_M_byteAt at h
  refine am_Ev.fork (b := decide (tx.2 ≤ x1)) (s1 := (17, [(0, .ref 0), (1, .int x1)], [], (hr th tx ds nw ou ps nd us re va nu))) (s2 := (8, [(0, .ref 0), (1, .int x1)], [], (hr th tx ds nw ou ps nd us re va nu))) 4 (fun _ => rfl) (fun hc => ?_) (fun hc => ?_)
  · have h := (am_ift hc).symm.trans h
    cases h
    exact am_Ev.done 2 rfl
  · have h := (am_iff hc).symm.trans h
    obtain ⟨hc, h⟩ := am_ifn h
    refine am_Ev.guard (b := decide (0 ≤ x1.toInt ∧ x1.toInt < (1500 : Int))) (s1 := (14, [(0, .ref 0), (1, .int x1)], [.int (tx.1 x1.toNatClampNeg)], (hr th tx ds nw ou ps nd us re va nu))) 4 (fun _ => rfl) hc ?_
    cases h
    exact am_Ev.done 2 rfl
theorem ev_M_bad_v {n0 : Nat} {th : Mth} {tx : Mtx} {ds : Mds} {nw : Mnw} {ou : Mou} {nd : Mnd} {us : Mus} {re : Mre} {va : Mva} {nu : Mnu} {x1 : Int32} {ps : Mps} {res : Mps} (h : fn_M_bad x1 ps = some res) : am_run rPT rML (n0 + 1) 2 [.ref 0, .int x1] (hr th tx ds nw ou ps nd us re va nu) = some (none, (hr th tx ds nw ou res nd us re va nu)) := by
  refine am_run_of (d := n0 + 0) rfl ?_
  show am_Ev (tb_M_bad (am_run rPT rML (n0 + 0))) (0, [(0, .ref 0), (1, .int x1)], [], (hr th tx ds nw ou ps nd us re va nu)) (none, (hr th tx ds nw ou res nd us re va nu))
  unfold fn_M_bad at h
  refine am_Ev.fork (b := decide (ps.2.1 = (-1 : Int32))) (s1 := (8, [(0, .ref 0), (1, .int x1)], [], (hr th tx ds nw ou ps nd us re va nu))) (s2 := (13, [(0, .ref 0), (1, .int x1)], [], (hr th tx ds nw ou ps nd us re va nu))) 4 (fun _ => rfl) (fun hc => ?_) (fun hc => ?_)
  · have h := (am_ift hc).symm.trans h
    cases h
    exact am_Ev.done 4 rfl
  · have h := (am_iff hc).symm.trans h
    cases h
    exact am_Ev.done 1 rfl
theorem ev_M_gateOf_2_v {n0 : Nat} {th : Mth} {tx : Mtx} {ds : Mds} {nw : Mnw} {ou : Mou} {ps : Mps} {us : Mus} {re : Mre} {va : Mva} {nu : Mnu} {x1 : Int32} {nd : Mnd} {κ : Option (Int32)} (hκ : ∀ (res : Int32), κ = some res → am_Ev (tb_M_gateOf (am_run rPT rML (n0 + 0))) (32, [], [], (hr th tx ds nw ou ps nd us re va nu)) (some (.int res), (hr th tx ds nw ou ps nd us re va nu))) : ∀ (n : Nat) (x2 : Int32) (res : Int32), fn_M_gateOf_2 x1 nd κ n x2 = some res → am_Ev (tb_M_gateOf (am_run rPT rML (n0 + 0))) (2, [(0, .ref 0), (1, .int x1), (2, .int x2)], [], (hr th tx ds nw ou ps nd us re va nu)) (some (.int res), (hr th tx ds nw ou ps nd us re va nu)) := by
  intro n
  induction n with
  | zero => intro x2 res h; unfold fn_M_gateOf_2 at h; cases h
  | succ n ih =>
    intro x2 res h
    unfold fn_M_gateOf_2 at h
    obtain ⟨hc, h⟩ := am_ifn h
    refine am_Ev.guard (b := decide (0 ≤ (3 : Int32).toInt ∧ (3 : Int32).toInt < (4 : Int))) (s1 := (9, [(0, .ref 0), (1, .int x1), (2, .int x2)], [.int (nd.2.1 ((3 : Int32).toNatClampNeg)), .int x2], (hr th tx ds nw ou ps nd us re va nu))) 5 (fun _ => rfl) hc ?_
    refine am_Ev.fork (b := decide ((nd.2.1 ((3 : Int32).toNatClampNeg)) ≤ x2)) (s1 := (32, [(0, .ref 0), (1, .int x1), (2, .int x2)], [], (hr th tx ds nw ou ps nd us re va nu))) (s2 := (12, [(0, .ref 0), (1, .int x1), (2, .int x2)], [], (hr th tx ds nw ou ps nd us re va nu))) 1 (fun _ => rfl) (fun hc => ?_) (fun hc => ?_)
    · have h := (am_ift hc).symm.trans h
      refine am_Ev.same (st' := (32, [], [], (hr th tx ds nw ou ps nd us re va nu))) (fun _ => rfl) ?_
      exact hκ _ h
    · have h := (am_iff hc).symm.trans h
      obtain ⟨hc, h⟩ := am_ifn h
      refine am_Ev.guard (b := decide (0 ≤ x2.toInt ∧ x2.toInt < (60 : Int))) (s1 := (18, [(0, .ref 0), (1, .int x1), (2, .int x2)], [.int (nd.2.2.2.2.2.2.2.1 x2.toNatClampNeg)], (hr th tx ds nw ou ps nd us re va nu))) 4 (fun _ => rfl) hc ?_
      obtain ⟨hc, h⟩ := am_ifn h
      refine am_Ev.guard (b := decide (¬ (2 : Int32) = 0)) (s1 := (20, [(0, .ref 0), (1, .int x1), (2, .int x2)], [.int ((nd.2.2.2.2.2.2.2.1 x2.toNatClampNeg) / (2 : Int32))], (hr th tx ds nw ou ps nd us re va nu))) 2 (fun _ => rfl) hc ?_
      refine am_Ev.fork (b := decide (((nd.2.2.2.2.2.2.2.1 x2.toNatClampNeg) / (2 : Int32)) = x1)) (s1 := (24, [(0, .ref 0), (1, .int x1), (2, .int x2)], [], (hr th tx ds nw ou ps nd us re va nu))) (s2 := (26, [(0, .ref 0), (1, .int x1), (2, .int x2)], [], (hr th tx ds nw ou ps nd us re va nu))) 2 (fun _ => rfl) (fun hc => ?_) (fun hc => ?_)
      · have h := (am_ift hc).symm.trans h
        cases h
        exact am_Ev.done 2 rfl
      · have h := (am_iff hc).symm.trans h
        refine am_Ev.go 2 (st' := (2, [(0, .ref 0), (1, .int x1), (2, .int (x2 + 1))], [], (hr th tx ds nw ou ps nd us re va nu))) (fun _ => rfl) ?_
        exact ih _ _ h
theorem ev_M_gateOf_v {n0 : Nat} {th : Mth} {tx : Mtx} {ds : Mds} {nw : Mnw} {ou : Mou} {ps : Mps} {us : Mus} {re : Mre} {va : Mva} {nu : Mnu} {x1 : Int32} {nd : Mnd} {res : Int32} (h : fn_M_gateOf x1 nd = some res) : am_run rPT rML (n0 + 1) 13 [.ref 0, .int x1] (hr th tx ds nw ou ps nd us re va nu) = some (some (.int res), (hr th tx ds nw ou ps nd us re va nu)) := by
  refine am_run_of (d := n0 + 0) rfl ?_
  show am_Ev (tb_M_gateOf (am_run rPT rML (n0 + 0))) (0, [(0, .ref 0), (1, .int x1)], [], (hr th tx ds nw ou ps nd us re va nu)) (some (.int res), (hr th tx ds nw ou ps nd us re va nu))
  unfold fn_M_gateOf at h
  refine am_Ev.go 2 (st' := (2, [(0, .ref 0), (1, .int x1), (2, .int 0)], [], (hr th tx ds nw ou ps nd us re va nu))) (fun _ => rfl) ?_
  refine ev_M_gateOf_2_v ?_ _ _ _ h
  intro res h
  try dsimp only at h
  cases h
  exact am_Ev.done 2 rfl
theorem ev_M_isOrdered_88_v {n0 : Nat} {th : Mth} {tx : Mtx} {nw : Mnw} {ou : Mou} {ps : Mps} {nd : Mnd} {us : Mus} {re : Mre} {va : Mva} {nu : Mnu} {ds : Mds} {κ : Int32 → Int32 → Option (Int32)} (hκ : ∀ (x1 : Int32) (x2 : Int32) (res : Int32), κ x1 x2 = some res → am_Ev (tb_M_isOrdered (am_run rPT rML (n0 + 0))) (152, [(0, .ref 0), (1, .int x1), (2, .int x2)], [], (hr th tx ds nw ou ps nd us re va nu)) (some (.int res), (hr th tx ds nw ou ps nd us re va nu))) : ∀ (n : Nat) (x1 : Int32) (x2 : Int32) (x3 : Int32) (res : Int32), fn_M_isOrdered_88 ds κ n x1 x2 x3 = some res → am_Ev (tb_M_isOrdered (am_run rPT rML (n0 + 0))) (88, [(0, .ref 0), (1, .int x1), (2, .int x2), (3, .int x3)], [], (hr th tx ds nw ou ps nd us re va nu)) (some (.int res), (hr th tx ds nw ou ps nd us re va nu)) := by
  intro n
  induction n with
  | zero => intro x1 x2 x3 res h; unfold fn_M_isOrdered_88 at h; cases h
  | succ n ih =>
    intro x1 x2 x3 res h
    unfold fn_M_isOrdered_88 at h
    obtain ⟨hc, h⟩ := am_ifn h
    refine am_Ev.guard (b := decide (0 ≤ (3 : Int32).toInt ∧ (3 : Int32).toInt < (4 : Int))) (s1 := (95, [(0, .ref 0), (1, .int x1), (2, .int x2), (3, .int x3)], [.int (ds.2.1 ((3 : Int32).toNatClampNeg)), .int x3], (hr th tx ds nw ou ps nd us re va nu))) 5 (fun _ => rfl) hc ?_
    refine am_Ev.fork (b := decide ((ds.2.1 ((3 : Int32).toNatClampNeg)) ≤ x3)) (s1 := (152, [(0, .ref 0), (1, .int x1), (2, .int x2), (3, .int x3)], [], (hr th tx ds nw ou ps nd us re va nu))) (s2 := (98, [(0, .ref 0), (1, .int x1), (2, .int x2), (3, .int x3)], [], (hr th tx ds nw ou ps nd us re va nu))) 1 (fun _ => rfl) (fun hc => ?_) (fun hc => ?_)
    · have h := (am_ift hc).symm.trans h
      refine am_Ev.same (st' := (152, [(0, .ref 0), (1, .int x1), (2, .int x2)], [], (hr th tx ds nw ou ps nd us re va nu))) (fun _ => rfl) ?_
      exact hκ _ _ _ h
    · have h := (am_iff hc).symm.trans h
      refine am_Ev.fork (b := decide (x2 = 0)) (s1 := (144, [(0, .ref 0), (1, .int (x1 + 2)), (2, .int x2), (3, .int x3)], [], (hr th tx ds nw ou ps nd us re va nu))) (s2 := (105, [(0, .ref 0), (1, .int (x1 + 2)), (2, .int x2), (3, .int x3)], [], (hr th tx ds nw ou ps nd us re va nu))) 3 (fun _ => rfl) (fun hc => ?_) (fun hc => ?_)
      · have h := (am_ift hc).symm.trans h
        refine am_Ev.go 4 (st' := (88, [(0, .ref 0), (1, .int (x1 + 2)), (2, .int 0), (3, .int (x3 + 1))], [], (hr th tx ds nw ou ps nd us re va nu))) (fun _ => rfl) ?_
        exact ih _ _ _ _ h
      · have h := (am_iff hc).symm.trans h
        obtain ⟨hc, h⟩ := am_ifn h
        refine am_Ev.guard (b := decide (0 ≤ x3.toInt ∧ x3.toInt < (60 : Int))) (s1 := (111, [(0, .ref 0), (1, .int (x1 + 2)), (2, .int x2), (3, .int x3)], [.int (ds.2.2.2.2.2.2.2.1 x3.toNatClampNeg)], (hr th tx ds nw ou ps nd us re va nu))) 4 (fun _ => rfl) hc ?_
        refine am_Ev.fork (b := decide ((ds.2.2.2.2.2.2.2.1 x3.toNatClampNeg) = (x1 + 2))) (s1 := (115, [(0, .ref 0), (1, .int (x1 + 2)), (2, .int x2), (3, .int x3)], [], (hr th tx ds nw ou ps nd us re va nu))) (s2 := (144, [(0, .ref 0), (1, .int (x1 + 2)), (2, .int x2), (3, .int x3)], [], (hr th tx ds nw ou ps nd us re va nu))) 2 (fun _ => rfl) (fun hc => ?_) (fun hc => ?_)
        · have h := (am_ift hc).symm.trans h
          obtain ⟨hc, h⟩ := am_ifn h
          refine am_Ev.guard (b := decide (0 ≤ x3.toInt ∧ x3.toInt < (60 : Int))) (s1 := (121, [(0, .ref 0), (1, .int (x1 + 2)), (2, .int x2), (3, .int x3)], [.int (ds.2.2.2.2.2.2.2.2.1 x3.toNatClampNeg)], (hr th tx ds nw ou ps nd us re va nu))) 4 (fun _ => rfl) hc ?_
          refine am_Ev.fork (b := decide ((x1 + 2) ≤ (ds.2.2.2.2.2.2.2.2.1 x3.toNatClampNeg))) (s1 := (144, [(0, .ref 0), (1, .int (x1 + 2)), (2, .int x2), (3, .int x3)], [], (hr th tx ds nw ou ps nd us re va nu))) (s2 := (125, [(0, .ref 0), (1, .int (x1 + 2)), (2, .int x2), (3, .int x3)], [], (hr th tx ds nw ou ps nd us re va nu))) 2 (fun _ => rfl) (fun hc => ?_) (fun hc => ?_)
          · have h := (am_ift hc).symm.trans h
            refine am_Ev.go 4 (st' := (88, [(0, .ref 0), (1, .int (x1 + 2)), (2, .int 0), (3, .int (x3 + 1))], [], (hr th tx ds nw ou ps nd us re va nu))) (fun _ => rfl) ?_
            exact ih _ _ _ _ h
          · have h := (am_iff hc).symm.trans h
            obtain ⟨hc, h⟩ := am_ifn h
            refine am_Ev.guard (b := decide (0 ≤ x3.toInt ∧ x3.toInt < (60 : Int))) (s1 := (131, [(0, .ref 0), (1, .int (x1 + 2)), (2, .int x2), (3, .int x3)], [.int (ds.2.2.2.2.2.2.2.2.1 x3.toNatClampNeg)], (hr th tx ds nw ou ps nd us re va nu))) 4 (fun _ => rfl) hc ?_
            obtain ⟨hc, h⟩ := am_ifn h
            refine am_Ev.guard (b := decide (0 ≤ x3.toInt ∧ x3.toInt < (60 : Int))) (s1 := (137, [(0, .ref 0), (1, .int (x1 + 2)), (2, .int x2), (3, .int x3)], [.int (ds.2.2.2.2.2.2.2.2.2 x3.toNatClampNeg), .int (ds.2.2.2.2.2.2.2.2.1 x3.toNatClampNeg)], (hr th tx ds nw ou ps nd us re va nu))) 4 (fun _ => rfl) hc ?_
            refine am_Ev.fork (b := decide ((ds.2.2.2.2.2.2.2.2.1 x3.toNatClampNeg) < (ds.2.2.2.2.2.2.2.2.2 x3.toNatClampNeg))) (s1 := (144, [(0, .ref 0), (1, .int (x1 + 2)), (2, .int x2), (3, .int x3)], [], (hr th tx ds nw ou ps nd us re va nu))) (s2 := (140, [(0, .ref 0), (1, .int (x1 + 2)), (2, .int x2), (3, .int x3)], [], (hr th tx ds nw ou ps nd us re va nu))) 1 (fun _ => rfl) (fun hc => ?_) (fun hc => ?_)
            · have h := (am_ift hc).symm.trans h
              refine am_Ev.go 4 (st' := (88, [(0, .ref 0), (1, .int (x1 + 2)), (2, .int 0), (3, .int (x3 + 1))], [], (hr th tx ds nw ou ps nd us re va nu))) (fun _ => rfl) ?_
              exact ih _ _ _ _ h
            · have h := (am_iff hc).symm.trans h
              refine am_Ev.go 5 (st' := (88, [(0, .ref 0), (1, .int (x1 + 2)), (2, .int 1), (3, .int (x3 + 1))], [], (hr th tx ds nw ou ps nd us re va nu))) (fun _ => rfl) ?_
              exact ih _ _ _ _ h
        · have h := (am_iff hc).symm.trans h
          refine am_Ev.go 4 (st' := (88, [(0, .ref 0), (1, .int (x1 + 2)), (2, .int 0), (3, .int (x3 + 1))], [], (hr th tx ds nw ou ps nd us re va nu))) (fun _ => rfl) ?_
          exact ih _ _ _ _ h
theorem ev_M_isOrdered_47_v {n0 : Nat} {th : Mth} {tx : Mtx} {nw : Mnw} {ou : Mou} {ps : Mps} {nd : Mnd} {us : Mus} {re : Mre} {va : Mva} {nu : Mnu} {ds : Mds} {κ : Int32 → Int32 → Option (Int32)} (hκ : ∀ (x1 : Int32) (x2 : Int32) (res : Int32), κ x1 x2 = some res → am_Ev (tb_M_isOrdered (am_run rPT rML (n0 + 0))) (86, [(0, .ref 0), (1, .int x1), (2, .int x2)], [], (hr th tx ds nw ou ps nd us re va nu)) (some (.int res), (hr th tx ds nw ou ps nd us re va nu))) : ∀ (n : Nat) (x1 : Int32) (x2 : Int32) (x3 : Int32) (res : Int32), fn_M_isOrdered_47 ds κ n x1 x2 x3 = some res → am_Ev (tb_M_isOrdered (am_run rPT rML (n0 + 0))) (47, [(0, .ref 0), (1, .int x1), (2, .int x2), (3, .int x3)], [], (hr th tx ds nw ou ps nd us re va nu)) (some (.int res), (hr th tx ds nw ou ps nd us re va nu)) := by
  intro n
  induction n with
  | zero => intro x1 x2 x3 res h; unfold fn_M_isOrdered_47 at h; cases h
  | succ n ih =>
    intro x1 x2 x3 res h
    unfold fn_M_isOrdered_47 at h
    obtain ⟨hc, h⟩ := am_ifn h
    refine am_Ev.guard (b := decide (0 ≤ (1 : Int32).toInt ∧ (1 : Int32).toInt < (4 : Int))) (s1 := (54, [(0, .ref 0), (1, .int x1), (2, .int x2), (3, .int x3)], [.int (ds.2.1 ((1 : Int32).toNatClampNeg)), .int x3], (hr th tx ds nw ou ps nd us re va nu))) 5 (fun _ => rfl) hc ?_
    refine am_Ev.fork (b := decide ((ds.2.1 ((1 : Int32).toNatClampNeg)) ≤ x3)) (s1 := (86, [(0, .ref 0), (1, .int x1), (2, .int x2), (3, .int x3)], [], (hr th tx ds nw ou ps nd us re va nu))) (s2 := (57, [(0, .ref 0), (1, .int x1), (2, .int x2), (3, .int x3)], [], (hr th tx ds nw ou ps nd us re va nu))) 1 (fun _ => rfl) (fun hc => ?_) (fun hc => ?_)
    · have h := (am_ift hc).symm.trans h
      refine am_Ev.same (st' := (86, [(0, .ref 0), (1, .int x1), (2, .int x2)], [], (hr th tx ds nw ou ps nd us re va nu))) (fun _ => rfl) ?_
      exact hκ _ _ _ h
    · have h := (am_iff hc).symm.trans h
      refine am_Ev.fork (b := decide (x2 = 0)) (s1 := (78, [(0, .ref 0), (1, .int (x1 + 2)), (2, .int x2), (3, .int x3)], [], (hr th tx ds nw ou ps nd us re va nu))) (s2 := (64, [(0, .ref 0), (1, .int (x1 + 2)), (2, .int x2), (3, .int x3)], [], (hr th tx ds nw ou ps nd us re va nu))) 3 (fun _ => rfl) (fun hc => ?_) (fun hc => ?_)
      · have h := (am_ift hc).symm.trans h
        refine am_Ev.go 4 (st' := (47, [(0, .ref 0), (1, .int (x1 + 2)), (2, .int 0), (3, .int (x3 + 1))], [], (hr th tx ds nw ou ps nd us re va nu))) (fun _ => rfl) ?_
        exact ih _ _ _ _ h
      · have h := (am_iff hc).symm.trans h
        obtain ⟨hc, h⟩ := am_ifn h
        refine am_Ev.guard (b := decide (0 ≤ x3.toInt ∧ x3.toInt < (8 : Int))) (s1 := (70, [(0, .ref 0), (1, .int (x1 + 2)), (2, .int x2), (3, .int x3)], [.int (ds.2.2.2.1 x3.toNatClampNeg)], (hr th tx ds nw ou ps nd us re va nu))) 4 (fun _ => rfl) hc ?_
        refine am_Ev.fork (b := decide ((ds.2.2.2.1 x3.toNatClampNeg) = (x1 + 2))) (s1 := (74, [(0, .ref 0), (1, .int (x1 + 2)), (2, .int x2), (3, .int x3)], [], (hr th tx ds nw ou ps nd us re va nu))) (s2 := (78, [(0, .ref 0), (1, .int (x1 + 2)), (2, .int x2), (3, .int x3)], [], (hr th tx ds nw ou ps nd us re va nu))) 2 (fun _ => rfl) (fun hc => ?_) (fun hc => ?_)
        · have h := (am_ift hc).symm.trans h
          refine am_Ev.go 5 (st' := (47, [(0, .ref 0), (1, .int (x1 + 2)), (2, .int 1), (3, .int (x3 + 1))], [], (hr th tx ds nw ou ps nd us re va nu))) (fun _ => rfl) ?_
          exact ih _ _ _ _ h
        · have h := (am_iff hc).symm.trans h
          refine am_Ev.go 4 (st' := (47, [(0, .ref 0), (1, .int (x1 + 2)), (2, .int 0), (3, .int (x3 + 1))], [], (hr th tx ds nw ou ps nd us re va nu))) (fun _ => rfl) ?_
          exact ih _ _ _ _ h
theorem ev_M_isOrdered_6_v {n0 : Nat} {th : Mth} {tx : Mtx} {nw : Mnw} {ou : Mou} {ps : Mps} {nd : Mnd} {us : Mus} {re : Mre} {va : Mva} {nu : Mnu} {ds : Mds} {κ : Int32 → Int32 → Option (Int32)} (hκ : ∀ (x1 : Int32) (x2 : Int32) (res : Int32), κ x1 x2 = some res → am_Ev (tb_M_isOrdered (am_run rPT rML (n0 + 0))) (45, [(0, .ref 0), (1, .int x1), (2, .int x2)], [], (hr th tx ds nw ou ps nd us re va nu)) (some (.int res), (hr th tx ds nw ou ps nd us re va nu))) : ∀ (n : Nat) (x1 : Int32) (x2 : Int32) (x3 : Int32) (res : Int32), fn_M_isOrdered_6 ds κ n x1 x2 x3 = some res → am_Ev (tb_M_isOrdered (am_run rPT rML (n0 + 0))) (6, [(0, .ref 0), (1, .int x1), (2, .int x2), (3, .int x3)], [], (hr th tx ds nw ou ps nd us re va nu)) (some (.int res), (hr th tx ds nw ou ps nd us re va nu)) := by
  intro n
  induction n with
  | zero => intro x1 x2 x3 res h; unfold fn_M_isOrdered_6 at h; cases h
  | succ n ih =>
    intro x1 x2 x3 res h
    unfold fn_M_isOrdered_6 at h
    obtain ⟨hc, h⟩ := am_ifn h
    refine am_Ev.guard (b := decide (0 ≤ (0 : Int32).toInt ∧ (0 : Int32).toInt < (4 : Int))) (s1 := (13, [(0, .ref 0), (1, .int x1), (2, .int x2), (3, .int x3)], [.int (ds.2.1 ((0 : Int32).toNatClampNeg)), .int x3], (hr th tx ds nw ou ps nd us re va nu))) 5 (fun _ => rfl) hc ?_
    refine am_Ev.fork (b := decide ((ds.2.1 ((0 : Int32).toNatClampNeg)) ≤ x3)) (s1 := (45, [(0, .ref 0), (1, .int x1), (2, .int x2), (3, .int x3)], [], (hr th tx ds nw ou ps nd us re va nu))) (s2 := (16, [(0, .ref 0), (1, .int x1), (2, .int x2), (3, .int x3)], [], (hr th tx ds nw ou ps nd us re va nu))) 1 (fun _ => rfl) (fun hc => ?_) (fun hc => ?_)
    · have h := (am_ift hc).symm.trans h
      refine am_Ev.same (st' := (45, [(0, .ref 0), (1, .int x1), (2, .int x2)], [], (hr th tx ds nw ou ps nd us re va nu))) (fun _ => rfl) ?_
      exact hκ _ _ _ h
    · have h := (am_iff hc).symm.trans h
      refine am_Ev.fork (b := decide (x2 = 0)) (s1 := (37, [(0, .ref 0), (1, .int (x1 + 2)), (2, .int x2), (3, .int x3)], [], (hr th tx ds nw ou ps nd us re va nu))) (s2 := (23, [(0, .ref 0), (1, .int (x1 + 2)), (2, .int x2), (3, .int x3)], [], (hr th tx ds nw ou ps nd us re va nu))) 3 (fun _ => rfl) (fun hc => ?_) (fun hc => ?_)
      · have h := (am_ift hc).symm.trans h
        refine am_Ev.go 4 (st' := (6, [(0, .ref 0), (1, .int (x1 + 2)), (2, .int 0), (3, .int (x3 + 1))], [], (hr th tx ds nw ou ps nd us re va nu))) (fun _ => rfl) ?_
        exact ih _ _ _ _ h
      · have h := (am_iff hc).symm.trans h
        obtain ⟨hc, h⟩ := am_ifn h
        refine am_Ev.guard (b := decide (0 ≤ x3.toInt ∧ x3.toInt < (8 : Int))) (s1 := (29, [(0, .ref 0), (1, .int (x1 + 2)), (2, .int x2), (3, .int x3)], [.int (ds.2.2.1 x3.toNatClampNeg)], (hr th tx ds nw ou ps nd us re va nu))) 4 (fun _ => rfl) hc ?_
        refine am_Ev.fork (b := decide ((ds.2.2.1 x3.toNatClampNeg) = (x1 + 2))) (s1 := (33, [(0, .ref 0), (1, .int (x1 + 2)), (2, .int x2), (3, .int x3)], [], (hr th tx ds nw ou ps nd us re va nu))) (s2 := (37, [(0, .ref 0), (1, .int (x1 + 2)), (2, .int x2), (3, .int x3)], [], (hr th tx ds nw ou ps nd us re va nu))) 2 (fun _ => rfl) (fun hc => ?_) (fun hc => ?_)
        · have h := (am_ift hc).symm.trans h
          refine am_Ev.go 5 (st' := (6, [(0, .ref 0), (1, .int (x1 + 2)), (2, .int 1), (3, .int (x3 + 1))], [], (hr th tx ds nw ou ps nd us re va nu))) (fun _ => rfl) ?_
          exact ih _ _ _ _ h
        · have h := (am_iff hc).symm.trans h
          refine am_Ev.go 4 (st' := (6, [(0, .ref 0), (1, .int (x1 + 2)), (2, .int 0), (3, .int (x3 + 1))], [], (hr th tx ds nw ou ps nd us re va nu))) (fun _ => rfl) ?_
          exact ih _ _ _ _ h
theorem ev_M_isOrdered_v {n0 : Nat} {th : Mth} {tx : Mtx} {nw : Mnw} {ou : Mou} {ps : Mps} {nd : Mnd} {us : Mus} {re : Mre} {va : Mva} {nu : Mnu} {ds : Mds} {res : Int32} (h : fn_M_isOrdered ds = some res) : am_run rPT rML (n0 + 1) 18 [.ref 0] (hr th tx ds nw ou ps nd us re va nu) = some (some (.int res), (hr th tx ds nw ou ps nd us re va nu)) := by
  refine am_run_of (d := n0 + 0) rfl ?_
  show am_Ev (tb_M_isOrdered (am_run rPT rML (n0 + 0))) (0, [(0, .ref 0)], [], (hr th tx ds nw ou ps nd us re va nu)) (some (.int res), (hr th tx ds nw ou ps nd us re va nu))
  unfold fn_M_isOrdered at h
  refine am_Ev.go 6 (st' := (6, [(0, .ref 0), (1, .int 0), (2, .int 1), (3, .int 0)], [], (hr th tx ds nw ou ps nd us re va nu))) (fun _ => rfl) ?_
  refine ev_M_isOrdered_6_v ?_ _ _ _ _ _ h
  intro x1_2 x2_2 res h
  try dsimp only at h
  refine am_Ev.go 2 (st' := (47, [(0, .ref 0), (1, .int x1_2), (2, .int x2_2), (3, .int 0)], [], (hr th tx ds nw ou ps nd us re va nu))) (fun _ => rfl) ?_
  refine ev_M_isOrdered_47_v ?_ _ _ _ _ _ h
  intro x1_3 x2_3 res h
  try dsimp only at h
  refine am_Ev.go 2 (st' := (88, [(0, .ref 0), (1, .int x1_3), (2, .int x2_3), (3, .int 0)], [], (hr th tx ds nw ou ps nd us re va nu))) (fun _ => rfl) ?_
  refine ev_M_isOrdered_88_v ?_ _ _ _ _ _ h
  intro x1_4 x2_4 res h
  try dsimp only at h
  refine am_Ev.fork (b := decide (x2_4 = 0)) (s1 := (170, [(0, .ref 0), (1, .int x1_4), (2, .int x2_4)], [], (hr th tx ds nw ou ps nd us re va nu))) (s2 := (156, [(0, .ref 0), (1, .int x1_4), (2, .int x2_4)], [], (hr th tx ds nw ou ps nd us re va nu))) 2 (fun _ => rfl) (fun hc => ?_) (fun hc => ?_)
  · have h := (am_ift hc).symm.trans h
    cases h
    exact am_Ev.done 2 rfl
  · have h := (am_iff hc).symm.trans h
    refine am_Ev.fork (b := decide (x1_4 = ((2 : Int32) * ds.1))) (s1 := (166, [(0, .ref 0), (1, .int x1_4), (2, .int x2_4)], [], (hr th tx ds nw ou ps nd us re va nu))) (s2 := (170, [(0, .ref 0), (1, .int x1_4), (2, .int x2_4)], [], (hr th tx ds nw ou ps nd us re va nu))) 6 (fun _ => rfl) (fun hc => ?_) (fun hc => ?_)
    · have h := (am_ift hc).symm.trans h
      cases h
      exact am_Ev.done 3 rfl
    · have h := (am_iff hc).symm.trans h
      cases h
      exact am_Ev.done 2 rfl
theorem ev_M_has_69_v {n0 : Nat} {tx : Mtx} {nw : Mnw} {ou : Mou} {ps : Mps} {nd : Mnd} {us : Mus} {re : Mre} {va : Mva} {nu : Mnu} {s1 : Int32} {x1 : Int32} {x2 : Int32} {th : Mth} {ds : Mds} {res : Int32 × Mth} (h : fn_M_has_69 s1 x1 x2 th ds = some res) : am_Ev (tb_M_has (am_run rPT rML (n0 + 0))) (69, [(0, .ref 0), (1, .int x1), (2, .int x2)], [.int s1, .ref 0], (hr th tx ds nw ou ps nd us re va nu)) (some (.int res.1), (hr res.2 tx ds nw ou ps nd us re va nu)) := by
  unfold fn_M_has_69 at h
  refine am_Ev.fork (b := decide (s1 ≤ 0)) (s1 := (81, [(0, .ref 0), (1, .int x1), (2, .int x2)], [], (hr s1 tx ds nw ou ps nd us re va nu))) (s2 := (79, [(0, .ref 0), (1, .int x1), (2, .int x2)], [], (hr s1 tx ds nw ou ps nd us re va nu))) 4 (fun _ => rfl) (fun hc => ?_) (fun hc => ?_)
  · have h := (am_ift hc).symm.trans h
    refine am_Ev.multi (bs := [(decide (x1 = 0), (124, [(0, .ref 0), (1, .int x1), (2, .int x2)], [], (hr s1 tx ds nw ou ps nd us re va nu))), (decide (x1 = 1), (131, [(0, .ref 0), (1, .int x1), (2, .int x2)], [], (hr s1 tx ds nw ou ps nd us re va nu))), (decide (x1 = 2), (138, [(0, .ref 0), (1, .int x1), (2, .int x2)], [], (hr s1 tx ds nw ou ps nd us re va nu))), (decide (x1 = 3), (145, [(0, .ref 0), (1, .int x1), (2, .int x2)], [], (hr s1 tx ds nw ou ps nd us re va nu))), (decide (x1 = 4), (152, [(0, .ref 0), (1, .int x1), (2, .int x2)], [], (hr s1 tx ds nw ou ps nd us re va nu))), (decide (x1 = 5), (159, [(0, .ref 0), (1, .int x1), (2, .int x2)], [], (hr s1 tx ds nw ou ps nd us re va nu))), (decide (x1 = 6), (166, [(0, .ref 0), (1, .int x1), (2, .int x2)], [], (hr s1 tx ds nw ou ps nd us re va nu)))]) (s := (173, [(0, .ref 0), (1, .int x1), (2, .int x2)], [], (hr s1 tx ds nw ou ps nd us re va nu))) 2 (fun _ => rfl) ?_
    refine am_Ev.sw1 (fun hc => ?_) (fun hc => ?_)
    · have h := (am_ift hc).symm.trans h
      obtain ⟨hc, h⟩ := am_ifn h
      refine am_Ev.guard (b := decide (0 ≤ x2.toInt ∧ x2.toInt < (8 : Int))) (s1 := (130, [(0, .ref 0), (1, .int x1), (2, .int x2)], [.int (ds.2.2.1 x2.toNatClampNeg)], (hr s1 tx ds nw ou ps nd us re va nu))) 4 (fun _ => rfl) hc ?_
      cases h
      exact am_Ev.done 1 rfl
    have h := (am_iff hc).symm.trans h
    refine am_Ev.sw1 (fun hc => ?_) (fun hc => ?_)
    · have h := (am_ift hc).symm.trans h
      obtain ⟨hc, h⟩ := am_ifn h
      refine am_Ev.guard (b := decide (0 ≤ x2.toInt ∧ x2.toInt < (8 : Int))) (s1 := (137, [(0, .ref 0), (1, .int x1), (2, .int x2)], [.int (ds.2.2.2.1 x2.toNatClampNeg)], (hr s1 tx ds nw ou ps nd us re va nu))) 4 (fun _ => rfl) hc ?_
      cases h
      exact am_Ev.done 1 rfl
    have h := (am_iff hc).symm.trans h
    refine am_Ev.sw1 (fun hc => ?_) (fun hc => ?_)
    · have h := (am_ift hc).symm.trans h
      obtain ⟨hc, h⟩ := am_ifn h
      refine am_Ev.guard (b := decide (0 ≤ x2.toInt ∧ x2.toInt < (8 : Int))) (s1 := (144, [(0, .ref 0), (1, .int x1), (2, .int x2)], [.int (ds.2.2.2.2.2.2.1 x2.toNatClampNeg)], (hr s1 tx ds nw ou ps nd us re va nu))) 4 (fun _ => rfl) hc ?_
      cases h
      exact am_Ev.done 1 rfl
    have h := (am_iff hc).symm.trans h
    refine am_Ev.sw1 (fun hc => ?_) (fun hc => ?_)
    · have h := (am_ift hc).symm.trans h
      obtain ⟨hc, h⟩ := am_ifn h
      refine am_Ev.guard (b := decide (0 ≤ x2.toInt ∧ x2.toInt < (60 : Int))) (s1 := (151, [(0, .ref 0), (1, .int x1), (2, .int x2)], [.int (ds.2.2.2.2.2.2.2.1 x2.toNatClampNeg)], (hr s1 tx ds nw ou ps nd us re va nu))) 4 (fun _ => rfl) hc ?_
      cases h
      exact am_Ev.done 1 rfl
    have h := (am_iff hc).symm.trans h
    refine am_Ev.sw1 (fun hc => ?_) (fun hc => ?_)
    · have h := (am_ift hc).symm.trans h
      obtain ⟨hc, h⟩ := am_ifn h
      refine am_Ev.guard (b := decide (0 ≤ x2.toInt ∧ x2.toInt < (8 : Int))) (s1 := (158, [(0, .ref 0), (1, .int x1), (2, .int x2)], [.int (ds.2.2.2.2.1 x2.toNatClampNeg)], (hr s1 tx ds nw ou ps nd us re va nu))) 4 (fun _ => rfl) hc ?_
      cases h
      exact am_Ev.done 1 rfl
    have h := (am_iff hc).symm.trans h
    refine am_Ev.sw1 (fun hc => ?_) (fun hc => ?_)
    · have h := (am_ift hc).symm.trans h
      obtain ⟨hc, h⟩ := am_ifn h
      refine am_Ev.guard (b := decide (0 ≤ x2.toInt ∧ x2.toInt < (8 : Int))) (s1 := (165, [(0, .ref 0), (1, .int x1), (2, .int x2)], [.int (ds.2.2.2.2.2.1 x2.toNatClampNeg)], (hr s1 tx ds nw ou ps nd us re va nu))) 4 (fun _ => rfl) hc ?_
      cases h
      exact am_Ev.done 1 rfl
    have h := (am_iff hc).symm.trans h
    refine am_Ev.sw1 (fun hc => ?_) (fun hc => ?_)
    · have h := (am_ift hc).symm.trans h
      obtain ⟨hc, h⟩ := am_ifn h
      refine am_Ev.guard (b := decide (0 ≤ x2.toInt ∧ x2.toInt < (60 : Int))) (s1 := (172, [(0, .ref 0), (1, .int x1), (2, .int x2)], [.int (ds.2.2.2.2.2.2.2.2.1 x2.toNatClampNeg)], (hr s1 tx ds nw ou ps nd us re va nu))) 4 (fun _ => rfl) hc ?_
      cases h
      exact am_Ev.done 1 rfl
    have h := (am_iff hc).symm.trans h
    refine am_Ev.sw0 ?_
    obtain ⟨hc, h⟩ := am_ifn h
    refine am_Ev.guard (b := decide (0 ≤ x2.toInt ∧ x2.toInt < (60 : Int))) (s1 := (179, [(0, .ref 0), (1, .int x1), (2, .int x2)], [.int (ds.2.2.2.2.2.2.2.2.2 x2.toNatClampNeg)], (hr s1 tx ds nw ou ps nd us re va nu))) 4 (fun _ => rfl) hc ?_
    cases h
    exact am_Ev.done 1 rfl
  · have h := (am_iff hc).symm.trans h
    cases h
    exact am_Ev.done 2 rfl
theorem ev_M_has_64_v {n0 : Nat} {tx : Mtx} {nw : Mnw} {ou : Mou} {ps : Mps} {nd : Mnd} {us : Mus} {re : Mre} {va : Mva} {nu : Mnu} {x1 : Int32} {x2 : Int32} {th : Mth} {ds : Mds} {res : Int32 × Mth} (h : fn_M_has_64 x1 x2 th ds = some res) : am_Ev (tb_M_has (am_run rPT rML (n0 + 0))) (64, [(0, .ref 0), (1, .int x1), (2, .int x2)], [.ref 0], (hr th tx ds nw ou ps nd us re va nu)) (some (.int res.1), (hr res.2 tx ds nw ou ps nd us re va nu)) := by
  unfold fn_M_has_64 at h
  refine am_Ev.go 2 (st' := (69, [(0, .ref 0), (1, .int x1), (2, .int x2)], [.int 2, .ref 0], (hr th tx ds nw ou ps nd us re va nu))) (fun _ => rfl) ?_
  exact ev_M_has_69_v h
theorem ev_M_has_52_v {n0 : Nat} {tx : Mtx} {nw : Mnw} {ou : Mou} {ps : Mps} {nd : Mnd} {us : Mus} {re : Mre} {va : Mva} {nu : Mnu} {s1 : Int32} {x1 : Int32} {x2 : Int32} {th : Mth} {ds : Mds} {res : Int32 × Mth} (h : fn_M_has_52 s1 x1 x2 th ds = some res) : am_Ev (tb_M_has (am_run rPT rML (n0 + 0))) (52, [(0, .ref 0), (1, .int x1), (2, .int x2)], [.int s1, .ref 2], (hr th tx ds nw ou ps nd us re va nu)) (some (.int res.1), (hr res.2 tx ds nw ou ps nd us re va nu)) := by
  unfold fn_M_has_52 at h
  obtain ⟨hc, h⟩ := am_ifn h
  refine am_Ev.guard (b := decide (0 ≤ s1.toInt ∧ s1.toInt < (4 : Int))) (s1 := (53, [(0, .ref 0), (1, .int x1), (2, .int x2)], [.int (ds.2.1 s1.toNatClampNeg)], (hr th tx ds nw ou ps nd us re va nu))) 1 (fun _ => rfl) hc ?_
  refine am_Ev.fork (b := decide (x2 < 0)) (s1 := (64, [(0, .ref 0), (1, .int x1), (2, .int x2), (3, .int (ds.2.1 s1.toNatClampNeg))], [.ref 0], (hr th tx ds nw ou ps nd us re va nu))) (s2 := (59, [(0, .ref 0), (1, .int x1), (2, .int x2), (3, .int (ds.2.1 s1.toNatClampNeg))], [.ref 0], (hr th tx ds nw ou ps nd us re va nu))) 4 (fun _ => rfl) (fun hc => ?_) (fun hc => ?_)
  · have h := (am_ift hc).symm.trans h
    refine am_Ev.same (st' := (64, [(0, .ref 0), (1, .int x1), (2, .int x2)], [.ref 0], (hr th tx ds nw ou ps nd us re va nu))) (fun _ => rfl) ?_
    exact ev_M_has_64_v h
  · have h := (am_iff hc).symm.trans h
    refine am_Ev.fork (b := decide (x2 < (ds.2.1 s1.toNatClampNeg))) (s1 := (68, [(0, .ref 0), (1, .int x1), (2, .int x2), (3, .int (ds.2.1 s1.toNatClampNeg))], [.ref 0], (hr th tx ds nw ou ps nd us re va nu))) (s2 := (64, [(0, .ref 0), (1, .int x1), (2, .int x2), (3, .int (ds.2.1 s1.toNatClampNeg))], [.ref 0], (hr th tx ds nw ou ps nd us re va nu))) 3 (fun _ => rfl) (fun hc => ?_) (fun hc => ?_)
    · have h := (am_ift hc).symm.trans h
      refine am_Ev.go 1 (st' := (69, [(0, .ref 0), (1, .int x1), (2, .int x2), (3, .int (ds.2.1 s1.toNatClampNeg))], [.int 0, .ref 0], (hr th tx ds nw ou ps nd us re va nu))) (fun _ => rfl) ?_
      refine am_Ev.same (st' := (69, [(0, .ref 0), (1, .int x1), (2, .int x2)], [.int 0, .ref 0], (hr th tx ds nw ou ps nd us re va nu))) (fun _ => rfl) ?_
      exact ev_M_has_69_v h
    · have h := (am_iff hc).symm.trans h
      refine am_Ev.same (st' := (64, [(0, .ref 0), (1, .int x1), (2, .int x2)], [.ref 0], (hr th tx ds nw ou ps nd us re va nu))) (fun _ => rfl) ?_
      exact ev_M_has_64_v h
theorem ev_M_has_16_v {n0 : Nat} {tx : Mtx} {nw : Mnw} {ou : Mou} {ps : Mps} {nd : Mnd} {us : Mus} {re : Mre} {va : Mva} {nu : Mnu} {s1 : Int32} {x1 : Int32} {x2 : Int32} {th : Mth} {ds : Mds} {res : Int32 × Mth} (h : fn_M_has_16 s1 x1 x2 th ds = some res) : am_Ev (tb_M_has (am_run rPT rML (n0 + 0))) (16, [(0, .ref 0), (1, .int x1), (2, .int x2)], [.int s1, .ref 0], (hr th tx ds nw ou ps nd us re va nu)) (some (.int res.1), (hr res.2 tx ds nw ou ps nd us re va nu)) := by
  unfold fn_M_has_16 at h
  refine am_Ev.fork (b := decide (s1 ≤ 0)) (s1 := (28, [(0, .ref 0), (1, .int x1), (2, .int x2)], [], (hr s1 tx ds nw ou ps nd us re va nu))) (s2 := (26, [(0, .ref 0), (1, .int x1), (2, .int x2)], [], (hr s1 tx ds nw ou ps nd us re va nu))) 4 (fun _ => rfl) (fun hc => ?_) (fun hc => ?_)
  · have h := (am_ift hc).symm.trans h
    refine am_Ev.fork (b := decide ((4 : Int32) ≤ x1)) (s1 := (41, [(0, .ref 0), (1, .int x1), (2, .int x2)], [.ref 2], (hr s1 tx ds nw ou ps nd us re va nu))) (s2 := (37, [(0, .ref 0), (1, .int x1), (2, .int x2)], [.ref 2], (hr s1 tx ds nw ou ps nd us re va nu))) 5 (fun _ => rfl) (fun hc => ?_) (fun hc => ?_)
    · have h := (am_ift hc).symm.trans h
      refine am_Ev.fork (b := decide ((6 : Int32) ≤ x1)) (s1 := (51, [(0, .ref 0), (1, .int x1), (2, .int x2)], [.ref 2], (hr s1 tx ds nw ou ps nd us re va nu))) (s2 := (47, [(0, .ref 0), (1, .int x1), (2, .int x2)], [.ref 2], (hr s1 tx ds nw ou ps nd us re va nu))) 3 (fun _ => rfl) (fun hc => ?_) (fun hc => ?_)
      · have h := (am_ift hc).symm.trans h
        refine am_Ev.go 1 (st' := (52, [(0, .ref 0), (1, .int x1), (2, .int x2)], [.int 3, .ref 2], (hr s1 tx ds nw ou ps nd us re va nu))) (fun _ => rfl) ?_
        exact ev_M_has_52_v h
      · have h := (am_iff hc).symm.trans h
        refine am_Ev.go 2 (st' := (52, [(0, .ref 0), (1, .int x1), (2, .int x2)], [.int 1, .ref 2], (hr s1 tx ds nw ou ps nd us re va nu))) (fun _ => rfl) ?_
        exact ev_M_has_52_v h
    · have h := (am_iff hc).symm.trans h
      refine am_Ev.go 2 (st' := (52, [(0, .ref 0), (1, .int x1), (2, .int x2)], [.int x1, .ref 2], (hr s1 tx ds nw ou ps nd us re va nu))) (fun _ => rfl) ?_
      exact ev_M_has_52_v h
  · have h := (am_iff hc).symm.trans h
    cases h
    exact am_Ev.done 2 rfl
theorem ev_M_has_11_v {n0 : Nat} {tx : Mtx} {nw : Mnw} {ou : Mou} {ps : Mps} {nd : Mnd} {us : Mus} {re : Mre} {va : Mva} {nu : Mnu} {x1 : Int32} {x2 : Int32} {th : Mth} {ds : Mds} {res : Int32 × Mth} (h : fn_M_has_11 x1 x2 th ds = some res) : am_Ev (tb_M_has (am_run rPT rML (n0 + 0))) (11, [(0, .ref 0), (1, .int x1), (2, .int x2)], [.ref 0], (hr th tx ds nw ou ps nd us re va nu)) (some (.int res.1), (hr res.2 tx ds nw ou ps nd us re va nu)) := by
  unfold fn_M_has_11 at h
  refine am_Ev.go 2 (st' := (16, [(0, .ref 0), (1, .int x1), (2, .int x2)], [.int 1, .ref 0], (hr th tx ds nw ou ps nd us re va nu))) (fun _ => rfl) ?_
  exact ev_M_has_16_v h
theorem ev_M_has_v {n0 : Nat} {tx : Mtx} {nw : Mnw} {ou : Mou} {ps : Mps} {nd : Mnd} {us : Mus} {re : Mre} {va : Mva} {nu : Mnu} {x1 : Int32} {x2 : Int32} {th : Mth} {ds : Mds} {res : Int32 × Mth} (h : fn_M_has x1 x2 th ds = some res) : am_run rPT rML (n0 + 1) 20 [.ref 0, .int x1, .int x2] (hr th tx ds nw ou ps nd us re va nu) = some (some (.int res.1), (hr res.2 tx ds nw ou ps nd us re va nu)) := by
  refine am_run_of (d := n0 + 0) rfl ?_
  show am_Ev (tb_M_has (am_run rPT rML (n0 + 0))) (0, [(0, .ref 0), (1, .int x1), (2, .int x2)], [], (hr th tx ds nw ou ps nd us re va nu)) (some (.int res.1), (hr res.2 tx ds nw ou ps nd us re va nu))
  unfold fn_M_has at h
  refine am_Ev.fork (b := decide (x1 < 0)) (s1 := (11, [(0, .ref 0), (1, .int x1), (2, .int x2)], [.ref 0], (hr th tx ds nw ou ps nd us re va nu))) (s2 := (5, [(0, .ref 0), (1, .int x1), (2, .int x2)], [.ref 0], (hr th tx ds nw ou ps nd us re va nu))) 3 (fun _ => rfl) (fun hc => ?_) (fun hc => ?_)
  · have h := (am_ift hc).symm.trans h
    exact ev_M_has_11_v h
  · have h := (am_iff hc).symm.trans h
    refine am_Ev.fork (b := decide (x1 ≤ (7 : Int32))) (s1 := (15, [(0, .ref 0), (1, .int x1), (2, .int x2)], [.ref 0], (hr th tx ds nw ou ps nd us re va nu))) (s2 := (11, [(0, .ref 0), (1, .int x1), (2, .int x2)], [.ref 0], (hr th tx ds nw ou ps nd us re va nu))) 3 (fun _ => rfl) (fun hc => ?_) (fun hc => ?_)
    · have h := (am_ift hc).symm.trans h
      refine am_Ev.go 1 (st' := (16, [(0, .ref 0), (1, .int x1), (2, .int x2)], [.int 0, .ref 0], (hr th tx ds nw ou ps nd us re va nu))) (fun _ => rfl) ?_
      exact ev_M_has_16_v h
    · have h := (am_iff hc).symm.trans h
      exact ev_M_has_11_v h
theorem ev_M_anew_v {n0 : Nat} {th : Mth} {tx : Mtx} {ds : Mds} {nw : Mnw} {ou : Mou} {ps : Mps} {nd : Mnd} {us : Mus} {re : Mre} {va : Mva} {x1 : Int32} {nu : Mnu} {res : Int32} (h : fn_M_anew x1 nu = some res) : am_run rPT rML (n0 + 1) 21 [.ref 0, .int x1] (hr th tx ds nw ou ps nd us re va nu) = some (some (.int res), (hr th tx ds nw ou ps nd us re va nu)) := by
  refine am_run_of (d := n0 + 0) rfl ?_
  show am_Ev (tb_M_anew (am_run rPT rML (n0 + 0))) (0, [(0, .ref 0), (1, .int x1)], [], (hr th tx ds nw ou ps nd us re va nu)) (some (.int res), (hr th tx ds nw ou ps nd us re va nu))
  unfold fn_M_anew at h
  obtain ⟨hc, h⟩ := am_ifn h
  refine am_Ev.guard (b := decide (¬ (2 : Int32) = 0)) (s1 := (8, [(0, .ref 0), (1, .int x1)], [.int (x1 / (2 : Int32)), .ref 28, .int 2], (hr th tx ds nw ou ps nd us re va nu))) 6 (fun _ => rfl) hc ?_
  obtain ⟨hc, h⟩ := am_ifn h
  refine am_Ev.guard (b := decide (0 ≤ (x1 / (2 : Int32)).toInt ∧ (x1 / (2 : Int32)).toInt < (100 : Int))) (s1 := (9, [(0, .ref 0), (1, .int x1)], [.int (nu.1 ((x1 / (2 : Int32)).toNatClampNeg)), .int 2], (hr th tx ds nw ou ps nd us re va nu))) 1 (fun _ => rfl) hc ?_
  obtain ⟨hc, h⟩ := am_ifn h
  refine am_Ev.guard (b := decide (¬ (2 : Int32) = 0)) (s1 := (13, [(0, .ref 0), (1, .int x1)], [.int (x1 - x1 / (2 : Int32) * (2 : Int32)), .int ((2 : Int32) * (nu.1 ((x1 / (2 : Int32)).toNatClampNeg)))], (hr th tx ds nw ou ps nd us re va nu))) 4 (fun _ => rfl) hc ?_
  cases h
  exact am_Ev.done 2 rfl
theorem ev_M_ready_2_v {n0 : Nat} {th : Mth} {tx : Mtx} {nw : Mnw} {ou : Mou} {ps : Mps} {nd : Mnd} {us : Mus} {re : Mre} {va : Mva} {ds : Mds} {nu : Mnu} {κ : Option (Int32)} (hκ : ∀ (res : Int32), κ = some res → am_Ev (tb_M_ready (am_run rPT rML (n0 + 0))) (71, [], [], (hr th tx ds nw ou ps nd us re va nu)) (some (.int res), (hr th tx ds nw ou ps nd us re va nu))) : ∀ (n : Nat) (x1 : Int32) (res : Int32), fn_M_ready_2 ds nu κ n x1 = some res → am_Ev (tb_M_ready (am_run rPT rML (n0 + 0))) (2, [(0, .ref 0), (1, .int x1)], [], (hr th tx ds nw ou ps nd us re va nu)) (some (.int res), (hr th tx ds nw ou ps nd us re va nu)) := by
  intro n
  induction n with
  | zero => intro x1 res h; unfold fn_M_ready_2 at h; cases h
  | succ n ih =>
    intro x1 res h
    unfold fn_M_ready_2 at h
    obtain ⟨hc, h⟩ := am_ifn h
    refine am_Ev.guard (b := decide (0 ≤ (3 : Int32).toInt ∧ (3 : Int32).toInt < (4 : Int))) (s1 := (9, [(0, .ref 0), (1, .int x1)], [.int (ds.2.1 ((3 : Int32).toNatClampNeg)), .int x1], (hr th tx ds nw ou ps nd us re va nu))) 5 (fun _ => rfl) hc ?_
    refine am_Ev.fork (b := decide ((ds.2.1 ((3 : Int32).toNatClampNeg)) ≤ x1)) (s1 := (71, [(0, .ref 0), (1, .int x1)], [], (hr th tx ds nw ou ps nd us re va nu))) (s2 := (12, [(0, .ref 0), (1, .int x1)], [], (hr th tx ds nw ou ps nd us re va nu))) 1 (fun _ => rfl) (fun hc => ?_) (fun hc => ?_)
    · have h := (am_ift hc).symm.trans h
      refine am_Ev.same (st' := (71, [], [], (hr th tx ds nw ou ps nd us re va nu))) (fun _ => rfl) ?_
      exact hκ _ h
    · have h := (am_iff hc).symm.trans h
      obtain ⟨hc, h⟩ := am_ifn h
      refine am_Ev.guard (b := decide (0 ≤ x1.toInt ∧ x1.toInt < (60 : Int))) (s1 := (22, [(0, .ref 0), (1, .int x1)], [.int (ds.2.2.2.2.2.2.2.1 x1.toNatClampNeg), .ref 28], (hr th tx ds nw ou ps nd us re va nu))) 6 (fun _ => rfl) hc ?_
      obtain ⟨hc, h⟩ := am_ifn h
      refine am_Ev.guard (b := decide (¬ (2 : Int32) = 0)) (s1 := (24, [(0, .ref 0), (1, .int x1)], [.int ((ds.2.2.2.2.2.2.2.1 x1.toNatClampNeg) / (2 : Int32)), .ref 28], (hr th tx ds nw ou ps nd us re va nu))) 2 (fun _ => rfl) hc ?_
      obtain ⟨hc, h⟩ := am_ifn h
      refine am_Ev.guard (b := decide (0 ≤ ((ds.2.2.2.2.2.2.2.1 x1.toNatClampNeg) / (2 : Int32)).toInt ∧ ((ds.2.2.2.2.2.2.2.1 x1.toNatClampNeg) / (2 : Int32)).toInt < (100 : Int))) (s1 := (25, [(0, .ref 0), (1, .int x1)], [.int (nu.1 (((ds.2.2.2.2.2.2.2.1 x1.toNatClampNeg) / (2 : Int32)).toNatClampNeg))], (hr th tx ds nw ou ps nd us re va nu))) 1 (fun _ => rfl) hc ?_
      refine am_Ev.fork (b := decide ((nu.1 (((ds.2.2.2.2.2.2.2.1 x1.toNatClampNeg) / (2 : Int32)).toNatClampNeg)) = (-1 : Int32))) (s1 := (29, [(0, .ref 0), (1, .int x1)], [], (hr th tx ds nw ou ps nd us re va nu))) (s2 := (65, [(0, .ref 0), (1, .int x1)], [], (hr th tx ds nw ou ps nd us re va nu))) 2 (fun _ => rfl) (fun hc => ?_) (fun hc => ?_)
      · have h := (am_ift hc).symm.trans h
        obtain ⟨hc, h⟩ := am_ifn h
        refine am_Ev.guard (b := decide (0 ≤ x1.toInt ∧ x1.toInt < (60 : Int))) (s1 := (39, [(0, .ref 0), (1, .int x1)], [.int (ds.2.2.2.2.2.2.2.2.1 x1.toNatClampNeg), .ref 28], (hr th tx ds nw ou ps nd us re va nu))) 6 (fun _ => rfl) hc ?_
        obtain ⟨hc, h⟩ := am_ifn h
        refine am_Ev.guard (b := decide (¬ (2 : Int32) = 0)) (s1 := (41, [(0, .ref 0), (1, .int x1)], [.int ((ds.2.2.2.2.2.2.2.2.1 x1.toNatClampNeg) / (2 : Int32)), .ref 28], (hr th tx ds nw ou ps nd us re va nu))) 2 (fun _ => rfl) hc ?_
        obtain ⟨hc, h⟩ := am_ifn h
        refine am_Ev.guard (b := decide (0 ≤ ((ds.2.2.2.2.2.2.2.2.1 x1.toNatClampNeg) / (2 : Int32)).toInt ∧ ((ds.2.2.2.2.2.2.2.2.1 x1.toNatClampNeg) / (2 : Int32)).toInt < (100 : Int))) (s1 := (42, [(0, .ref 0), (1, .int x1)], [.int (nu.1 (((ds.2.2.2.2.2.2.2.2.1 x1.toNatClampNeg) / (2 : Int32)).toNatClampNeg))], (hr th tx ds nw ou ps nd us re va nu))) 1 (fun _ => rfl) hc ?_
        refine am_Ev.fork (b := decide ((nu.1 (((ds.2.2.2.2.2.2.2.2.1 x1.toNatClampNeg) / (2 : Int32)).toNatClampNeg)) = (-1 : Int32))) (s1 := (65, [(0, .ref 0), (1, .int x1)], [], (hr th tx ds nw ou ps nd us re va nu))) (s2 := (46, [(0, .ref 0), (1, .int x1)], [], (hr th tx ds nw ou ps nd us re va nu))) 2 (fun _ => rfl) (fun hc => ?_) (fun hc => ?_)
        · have h := (am_ift hc).symm.trans h
          refine am_Ev.go 2 (st' := (2, [(0, .ref 0), (1, .int (x1 + 1))], [], (hr th tx ds nw ou ps nd us re va nu))) (fun _ => rfl) ?_
          exact ih _ _ h
        · have h := (am_iff hc).symm.trans h
          obtain ⟨hc, h⟩ := am_ifn h
          refine am_Ev.guard (b := decide (0 ≤ x1.toInt ∧ x1.toInt < (60 : Int))) (s1 := (56, [(0, .ref 0), (1, .int x1)], [.int (ds.2.2.2.2.2.2.2.2.2 x1.toNatClampNeg), .ref 28], (hr th tx ds nw ou ps nd us re va nu))) 6 (fun _ => rfl) hc ?_
          obtain ⟨hc, h⟩ := am_ifn h
          refine am_Ev.guard (b := decide (¬ (2 : Int32) = 0)) (s1 := (58, [(0, .ref 0), (1, .int x1)], [.int ((ds.2.2.2.2.2.2.2.2.2 x1.toNatClampNeg) / (2 : Int32)), .ref 28], (hr th tx ds nw ou ps nd us re va nu))) 2 (fun _ => rfl) hc ?_
          obtain ⟨hc, h⟩ := am_ifn h
          refine am_Ev.guard (b := decide (0 ≤ ((ds.2.2.2.2.2.2.2.2.2 x1.toNatClampNeg) / (2 : Int32)).toInt ∧ ((ds.2.2.2.2.2.2.2.2.2 x1.toNatClampNeg) / (2 : Int32)).toInt < (100 : Int))) (s1 := (59, [(0, .ref 0), (1, .int x1)], [.int (nu.1 (((ds.2.2.2.2.2.2.2.2.2 x1.toNatClampNeg) / (2 : Int32)).toNatClampNeg))], (hr th tx ds nw ou ps nd us re va nu))) 1 (fun _ => rfl) hc ?_
          refine am_Ev.fork (b := decide ((nu.1 (((ds.2.2.2.2.2.2.2.2.2 x1.toNatClampNeg) / (2 : Int32)).toNatClampNeg)) = (-1 : Int32))) (s1 := (65, [(0, .ref 0), (1, .int x1)], [], (hr th tx ds nw ou ps nd us re va nu))) (s2 := (63, [(0, .ref 0), (1, .int x1)], [], (hr th tx ds nw ou ps nd us re va nu))) 2 (fun _ => rfl) (fun hc => ?_) (fun hc => ?_)
          · have h := (am_ift hc).symm.trans h
            refine am_Ev.go 2 (st' := (2, [(0, .ref 0), (1, .int (x1 + 1))], [], (hr th tx ds nw ou ps nd us re va nu))) (fun _ => rfl) ?_
            exact ih _ _ h
          · have h := (am_iff hc).symm.trans h
            cases h
            exact am_Ev.done 2 rfl
      · have h := (am_iff hc).symm.trans h
        refine am_Ev.go 2 (st' := (2, [(0, .ref 0), (1, .int (x1 + 1))], [], (hr th tx ds nw ou ps nd us re va nu))) (fun _ => rfl) ?_
        exact ih _ _ h
theorem ev_M_ready_v {n0 : Nat} {th : Mth} {tx : Mtx} {nw : Mnw} {ou : Mou} {ps : Mps} {nd : Mnd} {us : Mus} {re : Mre} {va : Mva} {ds : Mds} {nu : Mnu} {res : Int32} (h : fn_M_ready ds nu = some res) : am_run rPT rML (n0 + 1) 22 [.ref 0] (hr th tx ds nw ou ps nd us re va nu) = some (some (.int res), (hr th tx ds nw ou ps nd us re va nu)) := by
  refine am_run_of (d := n0 + 0) rfl ?_
  show am_Ev (tb_M_ready (am_run rPT rML (n0 + 0))) (0, [(0, .ref 0)], [], (hr th tx ds nw ou ps nd us re va nu)) (some (.int res), (hr th tx ds nw ou ps nd us re va nu))
  unfold fn_M_ready at h
  refine am_Ev.go 2 (st' := (2, [(0, .ref 0), (1, .int 0)], [], (hr th tx ds nw ou ps nd us re va nu))) (fun _ => rfl) ?_
  refine ev_M_ready_2_v ?_ _ _ _ h
  intro res h
  try dsimp only at h
  cases h
  exact am_Ev.done 2 rfl
theorem ev_M_add_v {n0 : Nat} {th : Mth} {tx : Mtx} {ds : Mds} {nw : Mnw} {ps : Mps} {nd : Mnd} {us : Mus} {re : Mre} {va : Mva} {nu : Mnu} {x1 : Int32} {ou : Mou} {res : Mou} (h : fn_M_add x1 ou = some res) : am_run rPT rML (n0 + 1) 24 [.ref 0, .int x1] (hr th tx ds nw ou ps nd us re va nu) = some (none, (hr th tx ds nw res ps nd us re va nu)) := by
  refine am_run_of (d := n0 + 0) rfl ?_
  show am_Ev (tb_M_add (am_run rPT rML (n0 + 0))) (0, [(0, .ref 0), (1, .int x1)], [], (hr th tx ds nw ou ps nd us re va nu)) (none, (hr th tx ds nw res ps nd us re va nu))
  unfold fn_M_add at h
  obtain ⟨hc, h⟩ := am_ifn h
  refine am_Ev.guard (b := decide (0 ≤ ou.2.toInt ∧ ou.2.toInt < (1500 : Int))) (s1 := (10, [(0, .ref 0), (1, .int x1)], [], (hr th tx ds nw (upd ou.1 ou.2.toNatClampNeg x1, ou.2) ps nd us re va nu))) 6 (fun _ => rfl) hc ?_
  cases h
  exact am_Ev.done 7 rfl
theorem ev_M_written_10_v {n0 : Nat} {tx : Mtx} {ds : Mds} {nw : Mnw} {ps : Mps} {nd : Mnd} {us : Mus} {re : Mre} {va : Mva} {nu : Mnu} {s1 : Int32} {x1 : Int32} {th : Mth} {ou : Mou} {res : Int32 × Mth} (h : fn_M_written_10 s1 x1 th ou = some res) : am_Ev (tb_M_written (am_run rPT rML (n0 + 0))) (10, [(0, .ref 0), (1, .int x1)], [.int s1, .ref 0], (hr th tx ds nw ou ps nd us re va nu)) (some (.int res.1), (hr res.2 tx ds nw ou ps nd us re va nu)) := by
  unfold fn_M_written_10 at h
  refine am_Ev.fork (b := decide (s1 ≤ 0)) (s1 := (24, [(0, .ref 0), (1, .int x1)], [], (hr s1 tx ds nw ou ps nd us re va nu))) (s2 := (20, [(0, .ref 0), (1, .int x1)], [], (hr s1 tx ds nw ou ps nd us re va nu))) 4 (fun _ => rfl) (fun hc => ?_) (fun hc => ?_)
  · have h := (am_ift hc).symm.trans h
    refine am_Ev.fork (b := decide (ou.2 ≤ x1)) (s1 := (41, [(0, .ref 0), (1, .int x1)], [], (hr s1 tx ds nw ou ps nd us re va nu))) (s2 := (32, [(0, .ref 0), (1, .int x1)], [], (hr s1 tx ds nw ou ps nd us re va nu))) 4 (fun _ => rfl) (fun hc => ?_) (fun hc => ?_)
    · have h := (am_ift hc).symm.trans h
      cases h
      exact am_Ev.done 2 rfl
    · have h := (am_iff hc).symm.trans h
      obtain ⟨hc, h⟩ := am_ifn h
      refine am_Ev.guard (b := decide (0 ≤ x1.toInt ∧ x1.toInt < (1500 : Int))) (s1 := (38, [(0, .ref 0), (1, .int x1)], [.int (ou.1 x1.toNatClampNeg)], (hr s1 tx ds nw ou ps nd us re va nu))) 4 (fun _ => rfl) hc ?_
      cases h
      exact am_Ev.done 2 rfl
  · have h := (am_iff hc).symm.trans h
    cases h
    exact am_Ev.done 3 rfl
theorem ev_M_written_v {n0 : Nat} {tx : Mtx} {ds : Mds} {nw : Mnw} {ps : Mps} {nd : Mnd} {us : Mus} {re : Mre} {va : Mva} {nu : Mnu} {x1 : Int32} {th : Mth} {ou : Mou} {res : Int32 × Mth} (h : fn_M_written x1 th ou = some res) : am_run rPT rML (n0 + 1) 29 [.ref 0, .int x1] (hr th tx ds nw ou ps nd us re va nu) = some (some (.int res.1), (hr res.2 tx ds nw ou ps nd us re va nu)) := by
  refine am_run_of (d := n0 + 0) rfl ?_
  show am_Ev (tb_M_written (am_run rPT rML (n0 + 0))) (0, [(0, .ref 0), (1, .int x1)], [], (hr th tx ds nw ou ps nd us re va nu)) (some (.int res.1), (hr res.2 tx ds nw ou ps nd us re va nu))
  unfold fn_M_written at h
  refine am_Ev.fork (b := decide (0 ≤ x1)) (s1 := (9, [(0, .ref 0), (1, .int x1)], [.ref 0], (hr th tx ds nw ou ps nd us re va nu))) (s2 := (5, [(0, .ref 0), (1, .int x1)], [.ref 0], (hr th tx ds nw ou ps nd us re va nu))) 3 (fun _ => rfl) (fun hc => ?_) (fun hc => ?_)
  · have h := (am_ift hc).symm.trans h
    refine am_Ev.go 1 (st' := (10, [(0, .ref 0), (1, .int x1)], [.int 0, .ref 0], (hr th tx ds nw ou ps nd us re va nu))) (fun _ => rfl) ?_
    exact ev_M_written_10_v h
  · have h := (am_iff hc).symm.trans h
    refine am_Ev.go 2 (st' := (10, [(0, .ref 0), (1, .int x1)], [.int 1, .ref 0], (hr th tx ds nw ou ps nd us re va nu))) (fun _ => rfl) ?_
    exact ev_M_written_10_v h
theorem ev_M_reset_7_v {n0 : Nat} {tx : Mtx} {ou : Mou} {ps : Mps} {nd : Mnd} {us : Mus} {re : Mre} {va : Mva} {nu : Mnu} {ds : Mds} {κ : Mth → Mnw → Option (Mth × Mnw)} (hκ : ∀ (th : Mth) (nw : Mnw) (res : Mth × Mnw), κ th nw = some res → am_Ev (tb_M_reset (am_run rPT rML (n0 + 0))) (31, [], [], (hr th tx ds nw ou ps nd us re va nu)) (none, (hr res.1 tx ds res.2 ou ps nd us re va nu))) : ∀ (n : Nat) (x1 : Int32) (th : Mth) (nw : Mnw) (res : Mth × Mnw), fn_M_reset_7 ds κ n x1 th nw = some res → am_Ev (tb_M_reset (am_run rPT rML (n0 + 0))) (7, [(0, .ref 0), (1, .int x1)], [], (hr th tx ds nw ou ps nd us re va nu)) (none, (hr res.1 tx ds res.2 ou ps nd us re va nu)) := by
  intro n
  induction n with
  | zero => intro x1 th nw res h; unfold fn_M_reset_7 at h; cases h
  | succ n ih =>
    intro x1 th nw res h
    unfold fn_M_reset_7 at h
    refine am_Ev.fork (b := decide ((8 : Int32) ≤ x1)) (s1 := (31, [(0, .ref 0), (1, .int x1)], [], (hr th tx ds nw ou ps nd us re va nu))) (s2 := (13, [(0, .ref 0), (1, .int x1)], [], (hr th tx ds nw ou ps nd us re va nu))) 3 (fun _ => rfl) (fun hc => ?_) (fun hc => ?_)
    · have h := (am_ift hc).symm.trans h
      refine am_Ev.same (st' := (31, [], [], (hr th tx ds nw ou ps nd us re va nu))) (fun _ => rfl) ?_
      exact hκ _ _ _ h
    · have h := (am_iff hc).symm.trans h
      obtain ⟨hc, h⟩ := am_ifn h
      refine am_Ev.guard (b := decide (0 ≤ x1.toInt ∧ x1.toInt < (8 : Int))) (s1 := (24, [(0, .ref 0), (1, .int x1)], [.int (ds.2.2.2.2.2.1 x1.toNatClampNeg), .int x1, .ref 11], (hr th tx ds nw ou ps nd us re va nu))) 7 (fun _ => rfl) hc ?_
      obtain ⟨hc, h⟩ := am_ifn h
      refine am_Ev.guard (b := decide (0 ≤ x1.toInt ∧ x1.toInt < (8 : Int))) (s1 := (25, [(0, .ref 0), (1, .int x1)], [], (hr th tx ds (upd nw x1.toNatClampNeg ((ds.2.2.2.2.2.1 x1.toNatClampNeg))) ou ps nd us re va nu))) 1 (fun _ => rfl) hc ?_
      refine am_Ev.go 2 (st' := (7, [(0, .ref 0), (1, .int (x1 + 1))], [], (hr th tx ds (upd nw x1.toNatClampNeg ((ds.2.2.2.2.2.1 x1.toNatClampNeg))) ou ps nd us re va nu))) (fun _ => rfl) ?_
      exact ih _ _ _ _ h
theorem ev_M_reset_v {n0 : Nat} {tx : Mtx} {ou : Mou} {ps : Mps} {nd : Mnd} {us : Mus} {re : Mre} {va : Mva} {nu : Mnu} {th : Mth} {ds : Mds} {nw : Mnw} {res : Mth × Mnw} (h : fn_M_reset th ds nw = some res) : am_run rPT rML (n0 + 1) 30 [.ref 0] (hr th tx ds nw ou ps nd us re va nu) = some (none, (hr res.1 tx ds res.2 ou ps nd us re va nu)) := by
  refine am_run_of (d := n0 + 0) rfl ?_
  show am_Ev (tb_M_reset (am_run rPT rML (n0 + 0))) (0, [(0, .ref 0)], [], (hr th tx ds nw ou ps nd us re va nu)) (none, (hr res.1 tx ds res.2 ou ps nd us re va nu))
  unfold fn_M_reset at h
  refine am_Ev.go 5 (st' := (7, [(0, .ref 0), (1, .int 0)], [], (hr 0 tx ds nw ou ps nd us re va nu))) (fun _ => rfl) ?_
  refine ev_M_reset_7_v ?_ _ _ _ _ _ h
  intro th_2 nw_2 res h
  try dsimp only at h
  cases h
  exact am_Ev.done 1 rfl
theorem ev_M_valueOf_v {n0 : Nat} {th : Mth} {tx : Mtx} {ds : Mds} {nw : Mnw} {ou : Mou} {ps : Mps} {nd : Mnd} {us : Mus} {re : Mre} {nu : Mnu} {x1 : Int32} {va : Mva} {res : Int32} (h : fn_M_valueOf x1 va = some res) : am_run rPT rML (n0 + 1) 31 [.ref 0, .int x1] (hr th tx ds nw ou ps nd us re va nu) = some (some (.int res), (hr th tx ds nw ou ps nd us re va nu)) := by
  refine am_run_of (d := n0 + 0) rfl ?_
  show am_Ev (tb_M_valueOf (am_run rPT rML (n0 + 0))) (0, [(0, .ref 0), (1, .int x1)], [], (hr th tx ds nw ou ps nd us re va nu)) (some (.int res), (hr th tx ds nw ou ps nd us re va nu))
  unfold fn_M_valueOf at h
  obtain ⟨hc, h⟩ := am_ifn h
  refine am_Ev.guard (b := decide (¬ (2 : Int32) = 0)) (s1 := (7, [(0, .ref 0), (1, .int x1)], [.int (x1 / (2 : Int32)), .ref 27], (hr th tx ds nw ou ps nd us re va nu))) 5 (fun _ => rfl) hc ?_
  obtain ⟨hc, h⟩ := am_ifn h
  refine am_Ev.guard (b := decide (0 ≤ (x1 / (2 : Int32)).toInt ∧ (x1 / (2 : Int32)).toInt < (100 : Int))) (s1 := (8, [(0, .ref 0), (1, .int x1)], [.int (va ((x1 / (2 : Int32)).toNatClampNeg))], (hr th tx ds nw ou ps nd us re va nu))) 1 (fun _ => rfl) hc ?_
  refine am_Ev.fork (b := decide ((va ((x1 / (2 : Int32)).toNatClampNeg)) = (-1 : Int32))) (s1 := (14, [(0, .ref 0), (1, .int x1), (2, .int (va ((x1 / (2 : Int32)).toNatClampNeg)))], [], (hr th tx ds nw ou ps nd us re va nu))) (s2 := (18, [(0, .ref 0), (1, .int x1), (2, .int (va ((x1 / (2 : Int32)).toNatClampNeg)))], [], (hr th tx ds nw ou ps nd us re va nu))) 4 (fun _ => rfl) (fun hc => ?_) (fun hc => ?_)
  · have h := (am_ift hc).symm.trans h
    cases h
    exact am_Ev.done 3 rfl
  · have h := (am_iff hc).symm.trans h
    obtain ⟨hc, h⟩ := am_ifn h
    refine am_Ev.guard (b := decide (¬ (2 : Int32) = 0)) (s1 := (22, [(0, .ref 0), (1, .int x1), (2, .int (va ((x1 / (2 : Int32)).toNatClampNeg)))], [.int (x1 - x1 / (2 : Int32) * (2 : Int32)), .int (va ((x1 / (2 : Int32)).toNatClampNeg))], (hr th tx ds nw ou ps nd us re va nu))) 4 (fun _ => rfl) hc ?_
    cases h
    exact am_Ev.done 2 rfl
theorem ev_M_latches_9_v {n0 : Nat} {tx : Mtx} {ou : Mou} {ps : Mps} {nd : Mnd} {us : Mus} {re : Mre} {va : Mva} {nu : Mnu} {ds : Mds} {nw : Mnw} {κ : Int32 → Mth → Option (Int32 × Mth)} (hκ : ∀ (x1 : Int32) (th : Mth) (res : Int32 × Mth), κ x1 th = some res → am_Ev (tb_M_latches (am_run rPT rML (n0 + 0))) (36, [(1, .int x1)], [], (hr th tx ds nw ou ps nd us re va nu)) (some (.int res.1), (hr res.2 tx ds nw ou ps nd us re va nu))) : ∀ (n : Nat) (x1 : Int32) (x2 : Int32) (th : Mth) (res : Int32 × Mth), fn_M_latches_9 ds nw κ n x1 x2 th = some res → am_Ev (tb_M_latches (am_run rPT rML (n0 + 0))) (9, [(0, .ref 0), (1, .int x1), (2, .int x2)], [], (hr th tx ds nw ou ps nd us re va nu)) (some (.int res.1), (hr res.2 tx ds nw ou ps nd us re va nu)) := by
  intro n
  induction n with
  | zero => intro x1 x2 th res h; unfold fn_M_latches_9 at h; cases h
  | succ n ih =>
    intro x1 x2 th res h
    unfold fn_M_latches_9 at h
    obtain ⟨hc, h⟩ := am_ifn h
    refine am_Ev.guard (b := decide (0 ≤ (1 : Int32).toInt ∧ (1 : Int32).toInt < (4 : Int))) (s1 := (16, [(0, .ref 0), (1, .int x1), (2, .int x2)], [.int (ds.2.1 ((1 : Int32).toNatClampNeg)), .int x2], (hr th tx ds nw ou ps nd us re va nu))) 5 (fun _ => rfl) hc ?_
    refine am_Ev.fork (b := decide ((ds.2.1 ((1 : Int32).toNatClampNeg)) ≤ x2)) (s1 := (36, [(0, .ref 0), (1, .int x1), (2, .int x2)], [], (hr th tx ds nw ou ps nd us re va nu))) (s2 := (19, [(0, .ref 0), (1, .int x1), (2, .int x2)], [], (hr th tx ds nw ou ps nd us re va nu))) 1 (fun _ => rfl) (fun hc => ?_) (fun hc => ?_)
    · have h := (am_ift hc).symm.trans h
      refine am_Ev.same (st' := (36, [(1, .int x1)], [], (hr th tx ds nw ou ps nd us re va nu))) (fun _ => rfl) ?_
      exact hκ _ _ _ h
    · have h := (am_iff hc).symm.trans h
      obtain ⟨hc, h⟩ := am_ifn h
      refine am_Ev.guard (b := decide (0 ≤ x2.toInt ∧ x2.toInt < (8 : Int))) (s1 := (26, [(0, .ref 0), (1, .int x1), (2, .int x2)], [.int (nw x2.toNatClampNeg), .int x1], (hr th tx ds nw ou ps nd us re va nu))) 5 (fun _ => rfl) hc ?_
      refine am_Ev.go 6 (st' := (9, [(0, .ref 0), (1, .int (x1 ||| ((nw x2.toNatClampNeg) <<< (x2 &&& 31)))), (2, .int (x2 + 1))], [], (hr th tx ds nw ou ps nd us re va nu))) (fun _ => rfl) ?_
      exact ih _ _ _ _ h
theorem ev_M_latches_v {n0 : Nat} {tx : Mtx} {ou : Mou} {ps : Mps} {nd : Mnd} {us : Mus} {re : Mre} {va : Mva} {nu : Mnu} {th : Mth} {ds : Mds} {nw : Mnw} {res : Int32 × Mth} (h : fn_M_latches th ds nw = some res) : am_run rPT rML (n0 + 1) 33 [.ref 0] (hr th tx ds nw ou ps nd us re va nu) = some (some (.int res.1), (hr res.2 tx ds nw ou ps nd us re va nu)) := by
  refine am_run_of (d := n0 + 0) rfl ?_
  show am_Ev (tb_M_latches (am_run rPT rML (n0 + 0))) (0, [(0, .ref 0)], [], (hr th tx ds nw ou ps nd us re va nu)) (some (.int res.1), (hr res.2 tx ds nw ou ps nd us re va nu))
  unfold fn_M_latches at h
  refine am_Ev.go 7 (st' := (9, [(0, .ref 0), (1, .int 0), (2, .int 0)], [], (hr 0 tx ds nw ou ps nd us re va nu))) (fun _ => rfl) ?_
  refine ev_M_latches_9_v ?_ _ _ _ _ _ h
  intro x1_2 th_2 res h
  try dsimp only at h
  cases h
  exact am_Ev.done 2 rfl
theorem ev_M_take_v {n0 : Nat} {th : Mth} {ds : Mds} {nw : Mnw} {ou : Mou} {nd : Mnd} {us : Mus} {re : Mre} {va : Mva} {nu : Mnu} {x1 : Int32} {tx : Mtx} {ps : Mps} {res : Mps} (h : fn_M_take x1 tx ps = some res) : am_run rPT rML (n0 + 2) 3 [.ref 0, .int x1] (hr th tx ds nw ou ps nd us re va nu) = some (none, (hr th tx ds nw ou res nd us re va nu)) := by
  refine am_run_of (d := n0 + 1) rfl ?_
  show am_Ev (tb_M_take (am_run rPT rML (n0 + 1))) (0, [(0, .ref 0), (1, .int x1)], [], (hr th tx ds nw ou ps nd us re va nu)) (none, (hr th tx ds nw ou res nd us re va nu))
  unfold fn_M_take at h
  refine am_Ev.fork (b := decide (ps.2.1 = (-1 : Int32))) (s1 := (9, [(0, .ref 0), (1, .int x1)], [], (hr th tx ds nw ou ps nd us re va nu))) (s2 := (8, [(0, .ref 0), (1, .int x1)], [], (hr th tx ds nw ou ps nd us re va nu))) 4 (fun _ => rfl) (fun hc => ?_) (fun hc => ?_)
  · have h := (am_ift hc).symm.trans h
    obtain ⟨q1, hq, h⟩ := Option.bind_eq_some_iff.mp h
    refine am_Ev.go 3 (st' := (14, [(0, .ref 0), (1, .int x1)], [.int ps.1, .ref 0], (hr th tx ds nw ou ps nd us re va nu))) (fun _ => rfl) ?_
    refine am_Ev.call (o := am_run rPT rML (n0 + 1) 1 [.ref 0, .int ps.1] (hr th tx ds nw ou ps nd us re va nu)) (kk := fun q => (17, [(0, .ref 0), (1, .int x1)], q.1.toList ++ [], q.2)) (q := (some (.int q1), (hr th tx ds nw ou ps nd us re va nu))) 1 (fun _ => rfl) (ev_M_byteAt_v hq) ?_
    refine am_Ev.fork (b := decide (q1 = x1)) (s1 := (30, [(0, .ref 0), (1, .int x1)], [], (hr th tx ds nw ou ps nd us re va nu))) (s2 := (21, [(0, .ref 0), (1, .int x1)], [], (hr th tx ds nw ou ps nd us re va nu))) 2 (fun _ => rfl) (fun hc => ?_) (fun hc => ?_)
    · have h := (am_ift hc).symm.trans h
      cases h
      exact am_Ev.done 7 rfl
    · have h := (am_iff hc).symm.trans h
      obtain ⟨q2, hq, h⟩ := Option.bind_eq_some_iff.mp h
      refine am_Ev.go 3 (st' := (26, [(0, .ref 0), (1, .int x1)], [.int ps.1, .ref 0], (hr th tx ds nw ou ps nd us re va nu))) (fun _ => rfl) ?_
      refine am_Ev.call (o := am_run rPT rML (n0 + 1) 2 [.ref 0, .int ps.1] (hr th tx ds nw ou ps nd us re va nu)) (kk := fun q => (29, [(0, .ref 0), (1, .int x1)], q.1.toList ++ [], q.2)) (q := (none, (hr th tx ds nw ou q2 nd us re va nu))) 1 (fun _ => rfl) (ev_M_bad_v hq) ?_
      cases h
      exact am_Ev.done 1 rfl
  · have h := (am_iff hc).symm.trans h
    cases h
    exact am_Ev.done 1 rfl
theorem ev_M_isDigit_v {n0 : Nat} {th : Mth} {ds : Mds} {nw : Mnw} {ou : Mou} {ps : Mps} {nd : Mnd} {us : Mus} {re : Mre} {va : Mva} {nu : Mnu} {x1 : Int32} {tx : Mtx} {res : Int32} (h : fn_M_isDigit x1 tx = some res) : am_run rPT rML (n0 + 2) 4 [.ref 0, .int x1] (hr th tx ds nw ou ps nd us re va nu) = some (some (.int res), (hr th tx ds nw ou ps nd us re va nu)) := by
  refine am_run_of (d := n0 + 1) rfl ?_
  show am_Ev (tb_M_isDigit (am_run rPT rML (n0 + 1))) (0, [(0, .ref 0), (1, .int x1)], [], (hr th tx ds nw ou ps nd us re va nu)) (some (.int res), (hr th tx ds nw ou ps nd us re va nu))
  unfold fn_M_isDigit at h
  obtain ⟨q1, hq, h⟩ := Option.bind_eq_some_iff.mp h
  refine am_Ev.go 2 (st' := (2, [(0, .ref 0), (1, .int x1)], [.int x1, .ref 0], (hr th tx ds nw ou ps nd us re va nu))) (fun _ => rfl) ?_
  refine am_Ev.call (o := am_run rPT rML (n0 + 1) 1 [.ref 0, .int x1] (hr th tx ds nw ou ps nd us re va nu)) (kk := fun q => (5, [(0, .ref 0), (1, .int x1)], q.1.toList ++ [], q.2)) (q := (some (.int q1), (hr th tx ds nw ou ps nd us re va nu))) 1 (fun _ => rfl) (ev_M_byteAt_v hq) ?_
  refine am_Ev.fork (b := decide (q1 < (48 : Int32))) (s1 := (24, [(0, .ref 0), (1, .int x1)], [], (hr th tx ds nw ou ps nd us re va nu))) (s2 := (10, [(0, .ref 0), (1, .int x1)], [], (hr th tx ds nw ou ps nd us re va nu))) 2 (fun _ => rfl) (fun hc => ?_) (fun hc => ?_)
  · have h := (am_ift hc).symm.trans h
    cases h
    exact am_Ev.done 2 rfl
  · have h := (am_iff hc).symm.trans h
    obtain ⟨q2, hq, h⟩ := Option.bind_eq_some_iff.mp h
    refine am_Ev.go 2 (st' := (12, [(0, .ref 0), (1, .int x1)], [.int x1, .ref 0], (hr th tx ds nw ou ps nd us re va nu))) (fun _ => rfl) ?_
    refine am_Ev.call (o := am_run rPT rML (n0 + 1) 1 [.ref 0, .int x1] (hr th tx ds nw ou ps nd us re va nu)) (kk := fun q => (15, [(0, .ref 0), (1, .int x1)], q.1.toList ++ [], q.2)) (q := (some (.int q2), (hr th tx ds nw ou ps nd us re va nu))) 1 (fun _ => rfl) (ev_M_byteAt_v hq) ?_
    refine am_Ev.fork (b := decide ((57 : Int32) < q2)) (s1 := (24, [(0, .ref 0), (1, .int x1)], [], (hr th tx ds nw ou ps nd us re va nu))) (s2 := (20, [(0, .ref 0), (1, .int x1)], [], (hr th tx ds nw ou ps nd us re va nu))) 2 (fun _ => rfl) (fun hc => ?_) (fun hc => ?_)
    · have h := (am_ift hc).symm.trans h
      cases h
      exact am_Ev.done 2 rfl
    · have h := (am_iff hc).symm.trans h
      cases h
      exact am_Ev.done 3 rfl
theorem ev_M_difference_131_v {n0 : Nat} {th : Mth} {ds : Mds} {nw : Mnw} {ou : Mou} {nd : Mnd} {us : Mus} {re : Mre} {va : Mva} {nu : Mnu} {x3 : Int32} {x5 : Int32} {tx : Mtx} {ps : Mps} {res : Int32 × Mps} (h : fn_M_difference_131 x3 x5 tx ps = some res) : am_Ev (tb_M_difference (am_run rPT rML (n0 + 1))) (131, [(0, .ref 0), (3, .int x3), (5, .int x5)], [], (hr th tx ds nw ou ps nd us re va nu)) (some (.int res.1), (hr th tx ds nw ou res.2 nd us re va nu)) := by
  unfold fn_M_difference_131 at h
  obtain ⟨q1, hq, h⟩ := Option.bind_eq_some_iff.mp h
  refine am_Ev.go 2 (st' := (133, [(0, .ref 0), (3, .int x3), (5, .int x5)], [.int x3, .ref 0], (hr th tx ds nw ou ps nd us re va nu))) (fun _ => rfl) ?_
  refine am_Ev.call (o := am_run rPT rML (n0 + 1) 2 [.ref 0, .int x3] (hr th tx ds nw ou ps nd us re va nu)) (kk := fun q => (136, [(0, .ref 0), (3, .int x3), (5, .int x5)], q.1.toList ++ [], q.2)) (q := (none, (hr th tx ds nw ou q1 nd us re va nu))) 1 (fun _ => rfl) (ev_M_bad_v hq) ?_
  cases h
  exact am_Ev.done 2 rfl
theorem ev_M_difference_119_v {n0 : Nat} {th : Mth} {ds : Mds} {nw : Mnw} {ou : Mou} {nd : Mnd} {us : Mus} {re : Mre} {va : Mva} {nu : Mnu} {x1 : Int32} {x2 : Int32} {x3 : Int32} {x5 : Int32} {tx : Mtx} {ps : Mps} {res : Int32 × Mps} (h : fn_M_difference_119 x1 x2 x3 x5 tx ps = some res) : am_Ev (tb_M_difference (am_run rPT rML (n0 + 1))) (119, [(0, .ref 0), (1, .int x1), (2, .int x2), (3, .int x3), (5, .int x5)], [], (hr th tx ds nw ou ps nd us re va nu)) (some (.int res.1), (hr th tx ds nw ou res.2 nd us re va nu)) := by
  unfold fn_M_difference_119 at h
  refine am_Ev.fork (b := decide (x5 < x1)) (s1 := (131, [(0, .ref 0), (1, .int x1), (2, .int x2), (3, .int x3), (5, .int x5)], [], (hr th tx ds nw ou ps nd us re va nu))) (s2 := (125, [(0, .ref 0), (1, .int x1), (2, .int x2), (3, .int x3), (5, .int x5)], [], (hr th tx ds nw ou ps nd us re va nu))) 3 (fun _ => rfl) (fun hc => ?_) (fun hc => ?_)
  · have h := (am_ift hc).symm.trans h
    refine am_Ev.same (st' := (131, [(0, .ref 0), (3, .int x3), (5, .int x5)], [], (hr th tx ds nw ou ps nd us re va nu))) (fun _ => rfl) ?_
    exact ev_M_difference_131_v h
  · have h := (am_iff hc).symm.trans h
    refine am_Ev.fork (b := decide (x5 ≤ x2)) (s1 := (136, [(0, .ref 0), (1, .int x1), (2, .int x2), (3, .int x3), (5, .int x5)], [], (hr th tx ds nw ou ps nd us re va nu))) (s2 := (131, [(0, .ref 0), (1, .int x1), (2, .int x2), (3, .int x3), (5, .int x5)], [], (hr th tx ds nw ou ps nd us re va nu))) 3 (fun _ => rfl) (fun hc => ?_) (fun hc => ?_)
    · have h := (am_ift hc).symm.trans h
      cases h
      exact am_Ev.done 2 rfl
    · have h := (am_iff hc).symm.trans h
      refine am_Ev.same (st' := (131, [(0, .ref 0), (3, .int x3), (5, .int x5)], [], (hr th tx ds nw ou ps nd us re va nu))) (fun _ => rfl) ?_
      exact ev_M_difference_131_v h
theorem ev_M_difference_88_v {n0 : Nat} {th : Mth} {ds : Mds} {nw : Mnw} {ou : Mou} {nd : Mnd} {us : Mus} {re : Mre} {va : Mva} {nu : Mnu} {tx : Mtx} {ps : Mps} {res : Int32 × Mps} (h : fn_M_difference_88 tx ps = some res) : am_Ev (tb_M_difference (am_run rPT rML (n0 + 1))) (88, [(0, .ref 0)], [], (hr th tx ds nw ou ps nd us re va nu)) (some (.int res.1), (hr th tx ds nw ou res.2 nd us re va nu)) := by
  unfold fn_M_difference_88 at h
  obtain ⟨q2, hq, h⟩ := Option.bind_eq_some_iff.mp h
  refine am_Ev.go 3 (st' := (93, [(0, .ref 0)], [.int ps.1, .ref 0], (hr th tx ds nw ou ps nd us re va nu))) (fun _ => rfl) ?_
  refine am_Ev.call (o := am_run rPT rML (n0 + 1) 2 [.ref 0, .int ps.1] (hr th tx ds nw ou ps nd us re va nu)) (kk := fun q => (96, [(0, .ref 0)], q.1.toList ++ [], q.2)) (q := (none, (hr th tx ds nw ou q2 nd us re va nu))) 1 (fun _ => rfl) (ev_M_bad_v hq) ?_
  cases h
  exact am_Ev.done 2 rfl
theorem ev_M_difference_v {n0 : Nat} {th : Mth} {ds : Mds} {nw : Mnw} {ou : Mou} {nd : Mnd} {us : Mus} {re : Mre} {va : Mva} {nu : Mnu} {x1 : Int32} {x2 : Int32} {tx : Mtx} {ps : Mps} {res : Int32 × Mps} (h : fn_M_difference x1 x2 tx ps = some res) : am_run rPT rML (n0 + 2) 11 [.ref 0, .int x1, .int x2] (hr th tx ds nw ou ps nd us re va nu) = some (some (.int res.1), (hr th tx ds nw ou res.2 nd us re va nu)) := by
  refine am_run_of (d := n0 + 1) rfl ?_
  show am_Ev (tb_M_difference (am_run rPT rML (n0 + 1))) (0, [(0, .ref 0), (1, .int x1), (2, .int x2)], [], (hr th tx ds nw ou ps nd us re va nu)) (some (.int res.1), (hr th tx ds nw ou res.2 nd us re va nu))
  unfold fn_M_difference at h
  refine am_Ev.fork (b := decide (ps.2.1 = (-1 : Int32))) (s1 := (10, [(0, .ref 0), (1, .int x1), (2, .int x2)], [], (hr th tx ds nw ou ps nd us re va nu))) (s2 := (8, [(0, .ref 0), (1, .int x1), (2, .int x2)], [], (hr th tx ds nw ou ps nd us re va nu))) 4 (fun _ => rfl) (fun hc => ?_) (fun hc => ?_)
  · have h := (am_ift hc).symm.trans h
    obtain ⟨q3, hq, h⟩ := Option.bind_eq_some_iff.mp h
    refine am_Ev.go 6 (st' := (20, [(0, .ref 0), (1, .int x1), (2, .int x2), (3, .int ps.1)], [.int ps.1, .ref 0], (hr th tx ds nw ou ps nd us re va nu))) (fun _ => rfl) ?_
    refine am_Ev.call (o := am_run rPT rML (n0 + 1) 1 [.ref 0, .int ps.1] (hr th tx ds nw ou ps nd us re va nu)) (kk := fun q => (23, [(0, .ref 0), (1, .int x1), (2, .int x2), (3, .int ps.1)], q.1.toList ++ [], q.2)) (q := (some (.int q3), (hr th tx ds nw ou ps nd us re va nu))) 1 (fun _ => rfl) (ev_M_byteAt_v hq) ?_
    refine am_Ev.fork (b := decide (q3 = (-1 : Int32))) (s1 := (31, [(0, .ref 0), (1, .int x1), (2, .int x2), (3, .int ps.1), (4, .int q3)], [], (hr th tx ds nw ou ps nd us re va nu))) (s2 := (41, [(0, .ref 0), (1, .int x1), (2, .int x2), (3, .int ps.1), (4, .int q3)], [], (hr th tx ds nw ou ps nd us re va nu))) 4 (fun _ => rfl) (fun hc => ?_) (fun hc => ?_)
    · have h := (am_ift hc).symm.trans h
      obtain ⟨q4, hq, h⟩ := Option.bind_eq_some_iff.mp h
      refine am_Ev.go 3 (st' := (36, [(0, .ref 0), (1, .int x1), (2, .int x2), (3, .int ps.1), (4, .int q3)], [.int ps.1, .ref 0], (hr th tx ds nw ou ps nd us re va nu))) (fun _ => rfl) ?_
      refine am_Ev.call (o := am_run rPT rML (n0 + 1) 2 [.ref 0, .int ps.1] (hr th tx ds nw ou ps nd us re va nu)) (kk := fun q => (39, [(0, .ref 0), (1, .int x1), (2, .int x2), (3, .int ps.1), (4, .int q3)], q.1.toList ++ [], q.2)) (q := (none, (hr th tx ds nw ou q4 nd us re va nu))) 1 (fun _ => rfl) (ev_M_bad_v hq) ?_
      cases h
      exact am_Ev.done 2 rfl
    · have h := (am_iff hc).symm.trans h
      refine am_Ev.fork (b := decide (q3 ≤ (127 : Int32))) (s1 := (119, [(0, .ref 0), (1, .int x1), (2, .int x2), (3, .int ps.1), (4, .int q3), (5, .int (q3 &&& (127 : Int32)))], [], (hr th tx ds nw ou (ps.1 + (1 : Int32), ps.2.1, ps.2.2) nd us re va nu))) (s2 := (65, [(0, .ref 0), (1, .int x1), (2, .int x2), (3, .int ps.1), (4, .int q3), (5, .int (q3 &&& (127 : Int32)))], [], (hr th tx ds nw ou (ps.1 + (1 : Int32), ps.2.1, ps.2.2) nd us re va nu))) 13 (fun _ => rfl) (fun hc => ?_) (fun hc => ?_)
      · have h := (am_ift hc).symm.trans h
        refine am_Ev.same (st' := (119, [(0, .ref 0), (1, .int x1), (2, .int x2), (3, .int ps.1), (5, .int (q3 &&& (127 : Int32)))], [], (hr th tx ds nw ou (ps.1 + (1 : Int32), ps.2.1, ps.2.2) nd us re va nu))) (fun _ => rfl) ?_
        exact ev_M_difference_119_v h
      · have h := (am_iff hc).symm.trans h
        obtain ⟨q5, hq, h⟩ := Option.bind_eq_some_iff.mp h
        refine am_Ev.go 3 (st' := (70, [(0, .ref 0), (1, .int x1), (2, .int x2), (3, .int ps.1), (4, .int q3), (5, .int (q3 &&& (127 : Int32)))], [.int (ps.1 + (1 : Int32)), .ref 0], (hr th tx ds nw ou (ps.1 + (1 : Int32), ps.2.1, ps.2.2) nd us re va nu))) (fun _ => rfl) ?_
        refine am_Ev.call (o := am_run rPT rML (n0 + 1) 1 [.ref 0, .int (ps.1 + (1 : Int32))] (hr th tx ds nw ou (ps.1 + (1 : Int32), ps.2.1, ps.2.2) nd us re va nu)) (kk := fun q => (73, [(0, .ref 0), (1, .int x1), (2, .int x2), (3, .int ps.1), (4, .int q3), (5, .int (q3 &&& (127 : Int32)))], q.1.toList ++ [], q.2)) (q := (some (.int q5), (hr th tx ds nw ou (ps.1 + (1 : Int32), ps.2.1, ps.2.2) nd us re va nu))) 1 (fun _ => rfl) (ev_M_byteAt_v hq) ?_
        refine am_Ev.fork (b := decide (q5 < (1 : Int32))) (s1 := (88, [(0, .ref 0), (1, .int x1), (2, .int x2), (3, .int ps.1), (4, .int q3), (5, .int (q3 &&& (127 : Int32))), (6, .int q5)], [], (hr th tx ds nw ou (ps.1 + (1 : Int32), ps.2.1, ps.2.2) nd us re va nu))) (s2 := (81, [(0, .ref 0), (1, .int x1), (2, .int x2), (3, .int ps.1), (4, .int q3), (5, .int (q3 &&& (127 : Int32))), (6, .int q5)], [], (hr th tx ds nw ou (ps.1 + (1 : Int32), ps.2.1, ps.2.2) nd us re va nu))) 4 (fun _ => rfl) (fun hc => ?_) (fun hc => ?_)
        · have h := (am_ift hc).symm.trans h
          refine am_Ev.same (st' := (88, [(0, .ref 0)], [], (hr th tx ds nw ou (ps.1 + (1 : Int32), ps.2.1, ps.2.2) nd us re va nu))) (fun _ => rfl) ?_
          exact ev_M_difference_88_v h
        · have h := (am_iff hc).symm.trans h
          refine am_Ev.fork (b := decide (q5 ≤ (127 : Int32))) (s1 := (98, [(0, .ref 0), (1, .int x1), (2, .int x2), (3, .int ps.1), (4, .int q3), (5, .int (q3 &&& (127 : Int32))), (6, .int q5)], [], (hr th tx ds nw ou (ps.1 + (1 : Int32), ps.2.1, ps.2.2) nd us re va nu))) (s2 := (88, [(0, .ref 0), (1, .int x1), (2, .int x2), (3, .int ps.1), (4, .int q3), (5, .int (q3 &&& (127 : Int32))), (6, .int q5)], [], (hr th tx ds nw ou (ps.1 + (1 : Int32), ps.2.1, ps.2.2) nd us re va nu))) 3 (fun _ => rfl) (fun hc => ?_) (fun hc => ?_)
          · have h := (am_ift hc).symm.trans h
            refine am_Ev.go 12 (st' := (119, [(0, .ref 0), (1, .int x1), (2, .int x2), (3, .int ps.1), (4, .int q3), (5, .int ((q3 &&& (127 : Int32)) + ((128 : Int32) * q5))), (6, .int q5)], [], (hr th tx ds nw ou ((ps.1 + (1 : Int32)) + (1 : Int32), ps.2.1, ps.2.2) nd us re va nu))) (fun _ => rfl) ?_
            refine am_Ev.same (st' := (119, [(0, .ref 0), (1, .int x1), (2, .int x2), (3, .int ps.1), (5, .int ((q3 &&& (127 : Int32)) + ((128 : Int32) * q5)))], [], (hr th tx ds nw ou ((ps.1 + (1 : Int32)) + (1 : Int32), ps.2.1, ps.2.2) nd us re va nu))) (fun _ => rfl) ?_
            exact ev_M_difference_119_v h
          · have h := (am_iff hc).symm.trans h
            refine am_Ev.same (st' := (88, [(0, .ref 0)], [], (hr th tx ds nw ou (ps.1 + (1 : Int32), ps.2.1, ps.2.2) nd us re va nu))) (fun _ => rfl) ?_
            exact ev_M_difference_88_v h
  · have h := (am_iff hc).symm.trans h
    cases h
    exact am_Ev.done 2 rfl
theorem ev_M_findUndefined_2_v {n0 : Nat} {th : Mth} {tx : Mtx} {ds : Mds} {nw : Mnw} {ou : Mou} {nd : Mnd} {re : Mre} {va : Mva} {nu : Mnu} {us : Mus} {κ : Mps → Option (Mps)} (hκ : ∀ (ps : Mps) (res : Mps), κ ps = some res → am_Ev (tb_M_findUndefined (am_run rPT rML (n0 + 1))) (52, [], [], (hr th tx ds nw ou ps nd us re va nu)) (none, (hr th tx ds nw ou res nd us re va nu))) : ∀ (n : Nat) (x1 : Int32) (ps : Mps) (res : Mps), fn_M_findUndefined_2 us κ n x1 ps = some res → am_Ev (tb_M_findUndefined (am_run rPT rML (n0 + 1))) (2, [(0, .ref 0), (1, .int x1)], [], (hr th tx ds nw ou ps nd us re va nu)) (none, (hr th tx ds nw ou res nd us re va nu)) := by
  intro n
  induction n with
  | zero => intro x1 ps res h; unfold fn_M_findUndefined_2 at h; cases h
  | succ n ih =>
    intro x1 ps res h
    unfold fn_M_findUndefined_2 at h
    refine am_Ev.fork (b := decide (us.2.2.2.2 ≤ x1)) (s1 := (52, [(0, .ref 0), (1, .int x1)], [], (hr th tx ds nw ou ps nd us re va nu))) (s2 := (10, [(0, .ref 0), (1, .int x1)], [], (hr th tx ds nw ou ps nd us re va nu))) 4 (fun _ => rfl) (fun hc => ?_) (fun hc => ?_)
    · have h := (am_ift hc).symm.trans h
      refine am_Ev.same (st' := (52, [], [], (hr th tx ds nw ou ps nd us re va nu))) (fun _ => rfl) ?_
      exact hκ _ _ h
    · have h := (am_iff hc).symm.trans h
      obtain ⟨hc, h⟩ := am_ifn h
      refine am_Ev.guard (b := decide (0 ≤ x1.toInt ∧ x1.toInt < (140 : Int))) (s1 := (16, [(0, .ref 0), (1, .int x1)], [.int (us.2.2.1 x1.toNatClampNeg)], (hr th tx ds nw ou ps nd us re va nu))) 4 (fun _ => rfl) hc ?_
      refine am_Ev.fork (b := decide ((us.2.2.1 x1.toNatClampNeg) ≤ (1 : Int32))) (s1 := (46, [(0, .ref 0), (1, .int x1)], [], (hr th tx ds nw ou ps nd us re va nu))) (s2 := (20, [(0, .ref 0), (1, .int x1)], [], (hr th tx ds nw ou ps nd us re va nu))) 2 (fun _ => rfl) (fun hc => ?_) (fun hc => ?_)
      · have h := (am_ift hc).symm.trans h
        refine am_Ev.go 2 (st' := (2, [(0, .ref 0), (1, .int (x1 + 1))], [], (hr th tx ds nw ou ps nd us re va nu))) (fun _ => rfl) ?_
        exact ih _ _ _ h
      · have h := (am_iff hc).symm.trans h
        obtain ⟨hc, h⟩ := am_ifn h
        refine am_Ev.guard (b := decide (0 ≤ x1.toInt ∧ x1.toInt < (140 : Int))) (s1 := (30, [(0, .ref 0), (1, .int x1)], [.int (us.2.2.1 x1.toNatClampNeg), .ref 23], (hr th tx ds nw ou ps nd us re va nu))) 6 (fun _ => rfl) hc ?_
        obtain ⟨hc, h⟩ := am_ifn h
        refine am_Ev.guard (b := decide (¬ (2 : Int32) = 0)) (s1 := (32, [(0, .ref 0), (1, .int x1)], [.int ((us.2.2.1 x1.toNatClampNeg) / (2 : Int32)), .ref 23], (hr th tx ds nw ou ps nd us re va nu))) 2 (fun _ => rfl) hc ?_
        obtain ⟨hc, h⟩ := am_ifn h
        refine am_Ev.guard (b := decide (0 ≤ ((us.2.2.1 x1.toNatClampNeg) / (2 : Int32)).toInt ∧ ((us.2.2.1 x1.toNatClampNeg) / (2 : Int32)).toInt < (100 : Int))) (s1 := (33, [(0, .ref 0), (1, .int x1)], [.int (us.2.1 (((us.2.2.1 x1.toNatClampNeg) / (2 : Int32)).toNatClampNeg))], (hr th tx ds nw ou ps nd us re va nu))) 1 (fun _ => rfl) hc ?_
        refine am_Ev.fork (b := decide ((us.2.1 (((us.2.2.1 x1.toNatClampNeg) / (2 : Int32)).toNatClampNeg)) = 0)) (s1 := (36, [(0, .ref 0), (1, .int x1)], [], (hr th tx ds nw ou ps nd us re va nu))) (s2 := (46, [(0, .ref 0), (1, .int x1)], [], (hr th tx ds nw ou ps nd us re va nu))) 1 (fun _ => rfl) (fun hc => ?_) (fun hc => ?_)
        · have h := (am_ift hc).symm.trans h
          obtain ⟨hc, h⟩ := am_ifn h
          refine am_Ev.guard (b := decide (0 ≤ x1.toInt ∧ x1.toInt < (140 : Int))) (s1 := (43, [(0, .ref 0), (1, .int x1)], [.int (us.2.2.2.1 x1.toNatClampNeg), .ref 0], (hr th tx ds nw ou ps nd us re va nu))) 5 (fun _ => rfl) hc ?_
          obtain ⟨q1, hq, h⟩ := Option.bind_eq_some_iff.mp h
          refine am_Ev.call (o := am_run rPT rML (n0 + 1) 2 [.ref 0, .int (us.2.2.2.1 x1.toNatClampNeg)] (hr th tx ds nw ou ps nd us re va nu)) (kk := fun q => (46, [(0, .ref 0), (1, .int x1)], q.1.toList ++ [], q.2)) (q := (none, (hr th tx ds nw ou q1 nd us re va nu))) 1 (fun _ => rfl) (ev_M_bad_v hq) ?_
          refine am_Ev.go 2 (st' := (2, [(0, .ref 0), (1, .int (x1 + 1))], [], (hr th tx ds nw ou q1 nd us re va nu))) (fun _ => rfl) ?_
          exact ih _ _ _ h
        · have h := (am_iff hc).symm.trans h
          refine am_Ev.go 2 (st' := (2, [(0, .ref 0), (1, .int (x1 + 1))], [], (hr th tx ds nw ou ps nd us re va nu))) (fun _ => rfl) ?_
          exact ih _ _ _ h
theorem ev_M_findUndefined_v {n0 : Nat} {th : Mth} {tx : Mtx} {ds : Mds} {nw : Mnw} {ou : Mou} {nd : Mnd} {re : Mre} {va : Mva} {nu : Mnu} {ps : Mps} {us : Mus} {res : Mps} (h : fn_M_findUndefined ps us = some res) : am_run rPT rML (n0 + 2) 14 [.ref 0] (hr th tx ds nw ou ps nd us re va nu) = some (none, (hr th tx ds nw ou res nd us re va nu)) := by
  refine am_run_of (d := n0 + 1) rfl ?_
  show am_Ev (tb_M_findUndefined (am_run rPT rML (n0 + 1))) (0, [(0, .ref 0)], [], (hr th tx ds nw ou ps nd us re va nu)) (none, (hr th tx ds nw ou res nd us re va nu))
  unfold fn_M_findUndefined at h
  refine am_Ev.go 2 (st' := (2, [(0, .ref 0), (1, .int 0)], [], (hr th tx ds nw ou ps nd us re va nu))) (fun _ => rfl) ?_
  refine ev_M_findUndefined_2_v ?_ _ _ _ _ h
  intro ps_3 res h
  try dsimp only at h
  cases h
  exact am_Ev.done 1 rfl
theorem ev_M_findResting_209_v {n0 : Nat} {th : Mth} {tx : Mtx} {ds : Mds} {nw : Mnw} {ou : Mou} {va : Mva} {nu : Mnu} {x1 : Int32} {nd : Mnd} {us : Mus} {κ : Mps → Mre → Option (Mps × Mre)} (hκ : ∀ (ps : Mps) (re : Mre) (res : Mps × Mre), κ ps re = some res → am_Ev (tb_M_findResting (am_run rPT rML (n0 + 1))) (244, [], [], (hr th tx ds nw ou ps nd us re va nu)) (none, (hr th tx ds nw ou res.1 nd us res.2 va nu))) : ∀ (n : Nat) (x2 : Int32) (ps : Mps) (re : Mre) (res : Mps × Mre), fn_M_findResting_209 x1 nd us κ n x2 ps re = some res → am_Ev (tb_M_findResting (am_run rPT rML (n0 + 1))) (209, [(0, .ref 0), (1, .int x1), (2, .int x2)], [], (hr th tx ds nw ou ps nd us re va nu)) (none, (hr th tx ds nw ou res.1 nd us res.2 va nu)) := by
  intro n
  induction n with
  | zero => intro x2 ps re res h; unfold fn_M_findResting_209 at h; cases h
  | succ n ih =>
    intro x2 ps re res h
    unfold fn_M_findResting_209 at h
    refine am_Ev.fork (b := decide (x1 ≤ x2)) (s1 := (244, [(0, .ref 0), (1, .int x1), (2, .int x2)], [], (hr th tx ds nw ou ps nd us re va nu))) (s2 := (214, [(0, .ref 0), (1, .int x1), (2, .int x2)], [], (hr th tx ds nw ou ps nd us re va nu))) 3 (fun _ => rfl) (fun hc => ?_) (fun hc => ?_)
    · have h := (am_ift hc).symm.trans h
      refine am_Ev.same (st' := (244, [], [], (hr th tx ds nw ou ps nd us re va nu))) (fun _ => rfl) ?_
      exact hκ _ _ _ h
    · have h := (am_iff hc).symm.trans h
      obtain ⟨hc, h⟩ := am_ifn h
      refine am_Ev.guard (b := decide (0 ≤ (((60 : Int32) * x2) + x2).toInt ∧ (((60 : Int32) * x2) + x2).toInt < (3600 : Int))) (s1 := (225, [(0, .ref 0), (1, .int x1), (2, .int x2)], [.int (re ((((60 : Int32) * x2) + x2).toNatClampNeg))], (hr th tx ds nw ou ps nd us re va nu))) 8 (fun _ => rfl) hc ?_
      refine am_Ev.fork (b := decide ((re ((((60 : Int32) * x2) + x2).toNatClampNeg)) = 0)) (s1 := (238, [(0, .ref 0), (1, .int x1), (2, .int x2)], [], (hr th tx ds nw ou ps nd us re va nu))) (s2 := (228, [(0, .ref 0), (1, .int x1), (2, .int x2)], [], (hr th tx ds nw ou ps nd us re va nu))) 1 (fun _ => rfl) (fun hc => ?_) (fun hc => ?_)
      · have h := (am_ift hc).symm.trans h
        refine am_Ev.go 2 (st' := (209, [(0, .ref 0), (1, .int x1), (2, .int (x2 + 1))], [], (hr th tx ds nw ou ps nd us re va nu))) (fun _ => rfl) ?_
        exact ih _ _ _ _ h
      · have h := (am_iff hc).symm.trans h
        obtain ⟨hc, h⟩ := am_ifn h
        refine am_Ev.guard (b := decide (0 ≤ x2.toInt ∧ x2.toInt < (60 : Int))) (s1 := (235, [(0, .ref 0), (1, .int x1), (2, .int x2)], [.int (us.1 x2.toNatClampNeg), .ref 0], (hr th tx ds nw ou ps nd us re va nu))) 5 (fun _ => rfl) hc ?_
        obtain ⟨q1, hq, h⟩ := Option.bind_eq_some_iff.mp h
        refine am_Ev.call (o := am_run rPT rML (n0 + 1) 2 [.ref 0, .int (us.1 x2.toNatClampNeg)] (hr th tx ds nw ou ps nd us re va nu)) (kk := fun q => (238, [(0, .ref 0), (1, .int x1), (2, .int x2)], q.1.toList ++ [], q.2)) (q := (none, (hr th tx ds nw ou q1 nd us re va nu))) 1 (fun _ => rfl) (ev_M_bad_v hq) ?_
        refine am_Ev.go 2 (st' := (209, [(0, .ref 0), (1, .int x1), (2, .int (x2 + 1))], [], (hr th tx ds nw ou q1 nd us re va nu))) (fun _ => rfl) ?_
        exact ih _ _ _ _ h
theorem ev_M_findResting_122_v {n0 : Nat} {th : Mth} {tx : Mtx} {ds : Mds} {nw : Mnw} {ou : Mou} {va : Mva} {nu : Mnu} {x1 : Int32} {x2 : Int32} {x3 : Int32} {nd : Mnd} {us : Mus} {κ : Mps → Mre → Option (Mps × Mre)} (hκ : ∀ (ps : Mps) (re : Mre) (res : Mps × Mre), κ ps re = some res → am_Ev (tb_M_findResting (am_run rPT rML (n0 + 1))) (195, [(0, .ref 0), (1, .int x1), (2, .int x2), (3, .int x3)], [], (hr th tx ds nw ou ps nd us re va nu)) (none, (hr th tx ds nw ou res.1 nd us res.2 va nu))) : ∀ (n : Nat) (x4 : Int32) (ps : Mps) (re : Mre) (res : Mps × Mre), fn_M_findResting_122 x1 x2 x3 nd us κ n x4 ps re = some res → am_Ev (tb_M_findResting (am_run rPT rML (n0 + 1))) (122, [(0, .ref 0), (1, .int x1), (2, .int x2), (3, .int x3), (4, .int x4)], [], (hr th tx ds nw ou ps nd us re va nu)) (none, (hr th tx ds nw ou res.1 nd us res.2 va nu)) := by
  intro n
  induction n with
  | zero => intro x4 ps re res h; unfold fn_M_findResting_122 at h; cases h
  | succ n ih =>
    intro x4 ps re res h
    unfold fn_M_findResting_122 at h
    refine am_Ev.fork (b := decide (x1 ≤ x4)) (s1 := (195, [(0, .ref 0), (1, .int x1), (2, .int x2), (3, .int x3), (4, .int x4)], [], (hr th tx ds nw ou ps nd us re va nu))) (s2 := (128, [(0, .ref 0), (1, .int x1), (2, .int x2), (3, .int x3), (4, .int x4)], [], (hr th tx ds nw ou ps nd us re va nu))) 3 (fun _ => rfl) (fun hc => ?_) (fun hc => ?_)
    · have h := (am_ift hc).symm.trans h
      refine am_Ev.same (st' := (195, [(0, .ref 0), (1, .int x1), (2, .int x2), (3, .int x3)], [], (hr th tx ds nw ou ps nd us re va nu))) (fun _ => rfl) ?_
      exact hκ _ _ _ h
    · have h := (am_iff hc).symm.trans h
      obtain ⟨hc, h⟩ := am_ifn h
      refine am_Ev.guard (b := decide (0 ≤ (((60 : Int32) * x3) + x4).toInt ∧ (((60 : Int32) * x3) + x4).toInt < (3600 : Int))) (s1 := (151, [(0, .ref 0), (1, .int x1), (2, .int x2), (3, .int x3), (4, .int x4)], [.int (re ((((60 : Int32) * x3) + x4).toNatClampNeg)), .int (((60 : Int32) * x3) + x4), .ref 26], (hr th tx ds nw ou ps nd us re va nu))) 15 (fun _ => rfl) hc ?_
      refine am_Ev.fork (b := decide ((re ((((60 : Int32) * x3) + x4).toNatClampNeg)) = 0)) (s1 := (154, [(0, .ref 0), (1, .int x1), (2, .int x2), (3, .int x3), (4, .int x4)], [.int (((60 : Int32) * x3) + x4), .ref 26], (hr th tx ds nw ou ps nd us re va nu))) (s2 := (183, [(0, .ref 0), (1, .int x1), (2, .int x2), (3, .int x3), (4, .int x4)], [.int (((60 : Int32) * x3) + x4), .ref 26], (hr th tx ds nw ou ps nd us re va nu))) 1 (fun _ => rfl) (fun hc => ?_) (fun hc => ?_)
      · have h := (am_ift hc).symm.trans h
        obtain ⟨hc, h⟩ := am_ifn h
        refine am_Ev.guard (b := decide (0 ≤ (((60 : Int32) * x3) + x2).toInt ∧ (((60 : Int32) * x3) + x2).toInt < (3600 : Int))) (s1 := (165, [(0, .ref 0), (1, .int x1), (2, .int x2), (3, .int x3), (4, .int x4)], [.int (re ((((60 : Int32) * x3) + x2).toNatClampNeg)), .int (((60 : Int32) * x3) + x4), .ref 26], (hr th tx ds nw ou ps nd us re va nu))) 8 (fun _ => rfl) hc ?_
        refine am_Ev.fork (b := decide ((re ((((60 : Int32) * x3) + x2).toNatClampNeg)) = 0)) (s1 := (187, [(0, .ref 0), (1, .int x1), (2, .int x2), (3, .int x3), (4, .int x4)], [.int (((60 : Int32) * x3) + x4), .ref 26], (hr th tx ds nw ou ps nd us re va nu))) (s2 := (168, [(0, .ref 0), (1, .int x1), (2, .int x2), (3, .int x3), (4, .int x4)], [.int (((60 : Int32) * x3) + x4), .ref 26], (hr th tx ds nw ou ps nd us re va nu))) 1 (fun _ => rfl) (fun hc => ?_) (fun hc => ?_)
        · have h := (am_ift hc).symm.trans h
          obtain ⟨hc, h⟩ := am_ifn h
          refine am_Ev.guard (b := decide (0 ≤ (((60 : Int32) * x3) + x4).toInt ∧ (((60 : Int32) * x3) + x4).toInt < (3600 : Int))) (s1 := (189, [(0, .ref 0), (1, .int x1), (2, .int x2), (3, .int x3), (4, .int x4)], [], (hr th tx ds nw ou ps nd us (upd re (((60 : Int32) * x3) + x4).toNatClampNeg (vp_nar .boolean (0 : Int32))) va nu))) 2 (fun _ => rfl) hc ?_
          refine am_Ev.go 2 (st' := (122, [(0, .ref 0), (1, .int x1), (2, .int x2), (3, .int x3), (4, .int (x4 + 1))], [], (hr th tx ds nw ou ps nd us (upd re (((60 : Int32) * x3) + x4).toNatClampNeg (vp_nar .boolean (0 : Int32))) va nu))) (fun _ => rfl) ?_
          exact ih _ _ _ _ h
        · have h := (am_iff hc).symm.trans h
          obtain ⟨hc, h⟩ := am_ifn h
          refine am_Ev.guard (b := decide (0 ≤ (((60 : Int32) * x2) + x4).toInt ∧ (((60 : Int32) * x2) + x4).toInt < (3600 : Int))) (s1 := (180, [(0, .ref 0), (1, .int x1), (2, .int x2), (3, .int x3), (4, .int x4)], [.int (re ((((60 : Int32) * x2) + x4).toNatClampNeg)), .int (((60 : Int32) * x3) + x4), .ref 26], (hr th tx ds nw ou ps nd us re va nu))) 8 (fun _ => rfl) hc ?_
          refine am_Ev.fork (b := decide ((re ((((60 : Int32) * x2) + x4).toNatClampNeg)) = 0)) (s1 := (187, [(0, .ref 0), (1, .int x1), (2, .int x2), (3, .int x3), (4, .int x4)], [.int (((60 : Int32) * x3) + x4), .ref 26], (hr th tx ds nw ou ps nd us re va nu))) (s2 := (183, [(0, .ref 0), (1, .int x1), (2, .int x2), (3, .int x3), (4, .int x4)], [.int (((60 : Int32) * x3) + x4), .ref 26], (hr th tx ds nw ou ps nd us re va nu))) 1 (fun _ => rfl) (fun hc => ?_) (fun hc => ?_)
          · have h := (am_ift hc).symm.trans h
            obtain ⟨hc, h⟩ := am_ifn h
            refine am_Ev.guard (b := decide (0 ≤ (((60 : Int32) * x3) + x4).toInt ∧ (((60 : Int32) * x3) + x4).toInt < (3600 : Int))) (s1 := (189, [(0, .ref 0), (1, .int x1), (2, .int x2), (3, .int x3), (4, .int x4)], [], (hr th tx ds nw ou ps nd us (upd re (((60 : Int32) * x3) + x4).toNatClampNeg (vp_nar .boolean (0 : Int32))) va nu))) 2 (fun _ => rfl) hc ?_
            refine am_Ev.go 2 (st' := (122, [(0, .ref 0), (1, .int x1), (2, .int x2), (3, .int x3), (4, .int (x4 + 1))], [], (hr th tx ds nw ou ps nd us (upd re (((60 : Int32) * x3) + x4).toNatClampNeg (vp_nar .boolean (0 : Int32))) va nu))) (fun _ => rfl) ?_
            exact ih _ _ _ _ h
          · have h := (am_iff hc).symm.trans h
            obtain ⟨hc, h⟩ := am_ifn h
            refine am_Ev.guard (b := decide (0 ≤ (((60 : Int32) * x3) + x4).toInt ∧ (((60 : Int32) * x3) + x4).toInt < (3600 : Int))) (s1 := (189, [(0, .ref 0), (1, .int x1), (2, .int x2), (3, .int x3), (4, .int x4)], [], (hr th tx ds nw ou ps nd us (upd re (((60 : Int32) * x3) + x4).toNatClampNeg (vp_nar .boolean (1 : Int32))) va nu))) 3 (fun _ => rfl) hc ?_
            refine am_Ev.go 2 (st' := (122, [(0, .ref 0), (1, .int x1), (2, .int x2), (3, .int x3), (4, .int (x4 + 1))], [], (hr th tx ds nw ou ps nd us (upd re (((60 : Int32) * x3) + x4).toNatClampNeg (vp_nar .boolean (1 : Int32))) va nu))) (fun _ => rfl) ?_
            exact ih _ _ _ _ h
      · have h := (am_iff hc).symm.trans h
        obtain ⟨hc, h⟩ := am_ifn h
        refine am_Ev.guard (b := decide (0 ≤ (((60 : Int32) * x3) + x4).toInt ∧ (((60 : Int32) * x3) + x4).toInt < (3600 : Int))) (s1 := (189, [(0, .ref 0), (1, .int x1), (2, .int x2), (3, .int x3), (4, .int x4)], [], (hr th tx ds nw ou ps nd us (upd re (((60 : Int32) * x3) + x4).toNatClampNeg (vp_nar .boolean (1 : Int32))) va nu))) 3 (fun _ => rfl) hc ?_
        refine am_Ev.go 2 (st' := (122, [(0, .ref 0), (1, .int x1), (2, .int x2), (3, .int x3), (4, .int (x4 + 1))], [], (hr th tx ds nw ou ps nd us (upd re (((60 : Int32) * x3) + x4).toNatClampNeg (vp_nar .boolean (1 : Int32))) va nu))) (fun _ => rfl) ?_
        exact ih _ _ _ _ h
theorem ev_M_findResting_114_v {n0 : Nat} {th : Mth} {tx : Mtx} {ds : Mds} {nw : Mnw} {ou : Mou} {va : Mva} {nu : Mnu} {x1 : Int32} {x2 : Int32} {nd : Mnd} {us : Mus} {κ : Mps → Mre → Option (Mps × Mre)} (hκ : ∀ (ps : Mps) (re : Mre) (res : Mps × Mre), κ ps re = some res → am_Ev (tb_M_findResting (am_run rPT rML (n0 + 1))) (201, [(0, .ref 0), (1, .int x1), (2, .int x2)], [], (hr th tx ds nw ou ps nd us re va nu)) (none, (hr th tx ds nw ou res.1 nd us res.2 va nu))) : ∀ (n : Nat) (x3 : Int32) (ps : Mps) (re : Mre) (res : Mps × Mre), fn_M_findResting_114 x1 x2 nd us κ n x3 ps re = some res → am_Ev (tb_M_findResting (am_run rPT rML (n0 + 1))) (114, [(0, .ref 0), (1, .int x1), (2, .int x2), (3, .int x3)], [], (hr th tx ds nw ou ps nd us re va nu)) (none, (hr th tx ds nw ou res.1 nd us res.2 va nu)) := by
  intro n
  induction n with
  | zero => intro x3 ps re res h; unfold fn_M_findResting_114 at h; cases h
  | succ n ih =>
    intro x3 ps re res h
    unfold fn_M_findResting_114 at h
    refine am_Ev.fork (b := decide (x1 ≤ x3)) (s1 := (201, [(0, .ref 0), (1, .int x1), (2, .int x2), (3, .int x3)], [], (hr th tx ds nw ou ps nd us re va nu))) (s2 := (119, [(0, .ref 0), (1, .int x1), (2, .int x2), (3, .int x3)], [], (hr th tx ds nw ou ps nd us re va nu))) 3 (fun _ => rfl) (fun hc => ?_) (fun hc => ?_)
    · have h := (am_ift hc).symm.trans h
      refine am_Ev.same (st' := (201, [(0, .ref 0), (1, .int x1), (2, .int x2)], [], (hr th tx ds nw ou ps nd us re va nu))) (fun _ => rfl) ?_
      exact hκ _ _ _ h
    · have h := (am_iff hc).symm.trans h
      refine am_Ev.go 2 (st' := (122, [(0, .ref 0), (1, .int x1), (2, .int x2), (3, .int x3), (4, .int 0)], [], (hr th tx ds nw ou ps nd us re va nu))) (fun _ => rfl) ?_
      refine ev_M_findResting_122_v ?_ _ _ _ _ _ h
      intro ps_3 re_3 res h
      try dsimp only at h
      refine am_Ev.go 2 (st' := (114, [(0, .ref 0), (1, .int x1), (2, .int x2), (3, .int (x3 + 1))], [], (hr th tx ds nw ou ps_3 nd us re_3 va nu))) (fun _ => rfl) ?_
      exact ih _ _ _ _ h
theorem ev_M_findResting_107_v {n0 : Nat} {th : Mth} {tx : Mtx} {ds : Mds} {nw : Mnw} {ou : Mou} {va : Mva} {nu : Mnu} {x1 : Int32} {nd : Mnd} {us : Mus} {κ : Mps → Mre → Option (Mps × Mre)} (hκ : ∀ (ps : Mps) (re : Mre) (res : Mps × Mre), κ ps re = some res → am_Ev (tb_M_findResting (am_run rPT rML (n0 + 1))) (207, [(0, .ref 0), (1, .int x1)], [], (hr th tx ds nw ou ps nd us re va nu)) (none, (hr th tx ds nw ou res.1 nd us res.2 va nu))) : ∀ (n : Nat) (x2 : Int32) (ps : Mps) (re : Mre) (res : Mps × Mre), fn_M_findResting_107 x1 nd us κ n x2 ps re = some res → am_Ev (tb_M_findResting (am_run rPT rML (n0 + 1))) (107, [(0, .ref 0), (1, .int x1), (2, .int x2)], [], (hr th tx ds nw ou ps nd us re va nu)) (none, (hr th tx ds nw ou res.1 nd us res.2 va nu)) := by
  intro n
  induction n with
  | zero => intro x2 ps re res h; unfold fn_M_findResting_107 at h; cases h
  | succ n ih =>
    intro x2 ps re res h
    unfold fn_M_findResting_107 at h
    refine am_Ev.fork (b := decide (x1 ≤ x2)) (s1 := (207, [(0, .ref 0), (1, .int x1), (2, .int x2)], [], (hr th tx ds nw ou ps nd us re va nu))) (s2 := (112, [(0, .ref 0), (1, .int x1), (2, .int x2)], [], (hr th tx ds nw ou ps nd us re va nu))) 3 (fun _ => rfl) (fun hc => ?_) (fun hc => ?_)
    · have h := (am_ift hc).symm.trans h
      refine am_Ev.same (st' := (207, [(0, .ref 0), (1, .int x1)], [], (hr th tx ds nw ou ps nd us re va nu))) (fun _ => rfl) ?_
      exact hκ _ _ _ h
    · have h := (am_iff hc).symm.trans h
      refine am_Ev.go 2 (st' := (114, [(0, .ref 0), (1, .int x1), (2, .int x2), (3, .int 0)], [], (hr th tx ds nw ou ps nd us re va nu))) (fun _ => rfl) ?_
      refine ev_M_findResting_114_v ?_ _ _ _ _ _ h
      intro ps_4 re_4 res h
      try dsimp only at h
      refine am_Ev.go 2 (st' := (107, [(0, .ref 0), (1, .int x1), (2, .int (x2 + 1))], [], (hr th tx ds nw ou ps_4 nd us re_4 va nu))) (fun _ => rfl) ?_
      exact ih _ _ _ _ h
theorem ev_M_findResting_31_v {n0 : Nat} {th : Mth} {tx : Mtx} {ds : Mds} {nw : Mnw} {ou : Mou} {va : Mva} {nu : Mnu} {x1 : Int32} {nd : Mnd} {us : Mus} {κ : Mps → Mre → Option (Mps × Mre)} (hκ : ∀ (ps : Mps) (re : Mre) (res : Mps × Mre), κ ps re = some res → am_Ev (tb_M_findResting (am_run rPT rML (n0 + 1))) (105, [(0, .ref 0), (1, .int x1)], [], (hr th tx ds nw ou ps nd us re va nu)) (none, (hr th tx ds nw ou res.1 nd us res.2 va nu))) : ∀ (n : Nat) (x2 : Int32) (ps : Mps) (re : Mre) (res : Mps × Mre), fn_M_findResting_31 x1 nd us κ n x2 ps re = some res → am_Ev (tb_M_findResting (am_run rPT rML (n0 + 1))) (31, [(0, .ref 0), (1, .int x1), (2, .int x2)], [], (hr th tx ds nw ou ps nd us re va nu)) (none, (hr th tx ds nw ou res.1 nd us res.2 va nu)) := by
  intro n
  induction n with
  | zero => intro x2 ps re res h; unfold fn_M_findResting_31 at h; cases h
  | succ n ih =>
    intro x2 ps re res h
    unfold fn_M_findResting_31 at h
    refine am_Ev.fork (b := decide (x1 ≤ x2)) (s1 := (105, [(0, .ref 0), (1, .int x1), (2, .int x2)], [], (hr th tx ds nw ou ps nd us re va nu))) (s2 := (36, [(0, .ref 0), (1, .int x1), (2, .int x2)], [], (hr th tx ds nw ou ps nd us re va nu))) 3 (fun _ => rfl) (fun hc => ?_) (fun hc => ?_)
    · have h := (am_ift hc).symm.trans h
      refine am_Ev.same (st' := (105, [(0, .ref 0), (1, .int x1)], [], (hr th tx ds nw ou ps nd us re va nu))) (fun _ => rfl) ?_
      exact hκ _ _ _ h
    · have h := (am_iff hc).symm.trans h
      obtain ⟨hc, h⟩ := am_ifn h
      refine am_Ev.guard (b := decide (0 ≤ x2.toInt ∧ x2.toInt < (60 : Int))) (s1 := (43, [(0, .ref 0), (1, .int x1), (2, .int x2)], [.int (nd.2.2.2.2.2.2.2.2.1 x2.toNatClampNeg), .ref 0], (hr th tx ds nw ou ps nd us re va nu))) 5 (fun _ => rfl) hc ?_
      obtain ⟨hc, h⟩ := am_ifn h
      refine am_Ev.guard (b := decide (¬ (2 : Int32) = 0)) (s1 := (45, [(0, .ref 0), (1, .int x1), (2, .int x2)], [.int ((nd.2.2.2.2.2.2.2.2.1 x2.toNatClampNeg) / (2 : Int32)), .ref 0], (hr th tx ds nw ou ps nd us re va nu))) 2 (fun _ => rfl) hc ?_
      obtain ⟨q4, hq, h⟩ := Option.bind_eq_some_iff.mp h
      refine am_Ev.call (o := am_run rPT rML (n0 + 1) 13 [.ref 0, .int ((nd.2.2.2.2.2.2.2.2.1 x2.toNatClampNeg) / (2 : Int32))] (hr th tx ds nw ou ps nd us re va nu)) (kk := fun q => (48, [(0, .ref 0), (1, .int x1), (2, .int x2)], q.1.toList ++ [], q.2)) (q := (some (.int q4), (hr th tx ds nw ou ps nd us re va nu))) 1 (fun _ => rfl) (ev_M_gateOf_v hq) ?_
      obtain ⟨hc, h⟩ := am_ifn h
      refine am_Ev.guard (b := decide (0 ≤ x2.toInt ∧ x2.toInt < (60 : Int))) (s1 := (56, [(0, .ref 0), (1, .int x1), (2, .int x2), (3, .int q4)], [.int (nd.2.2.2.2.2.2.2.2.2 x2.toNatClampNeg), .ref 0], (hr th tx ds nw ou ps nd us re va nu))) 6 (fun _ => rfl) hc ?_
      obtain ⟨hc, h⟩ := am_ifn h
      refine am_Ev.guard (b := decide (¬ (2 : Int32) = 0)) (s1 := (58, [(0, .ref 0), (1, .int x1), (2, .int x2), (3, .int q4)], [.int ((nd.2.2.2.2.2.2.2.2.2 x2.toNatClampNeg) / (2 : Int32)), .ref 0], (hr th tx ds nw ou ps nd us re va nu))) 2 (fun _ => rfl) hc ?_
      obtain ⟨q5, hq, h⟩ := Option.bind_eq_some_iff.mp h
      refine am_Ev.call (o := am_run rPT rML (n0 + 1) 13 [.ref 0, .int ((nd.2.2.2.2.2.2.2.2.2 x2.toNatClampNeg) / (2 : Int32))] (hr th tx ds nw ou ps nd us re va nu)) (kk := fun q => (61, [(0, .ref 0), (1, .int x1), (2, .int x2), (3, .int q4)], q.1.toList ++ [], q.2)) (q := (some (.int q5), (hr th tx ds nw ou ps nd us re va nu))) 1 (fun _ => rfl) (ev_M_gateOf_v hq) ?_
      refine am_Ev.fork (b := decide (q4 = (-1 : Int32))) (s1 := (80, [(0, .ref 0), (1, .int x1), (2, .int x2), (3, .int q4), (4, .int q5)], [], (hr th tx ds nw ou ps nd us re va nu))) (s2 := (68, [(0, .ref 0), (1, .int x1), (2, .int x2), (3, .int q4), (4, .int q5)], [], (hr th tx ds nw ou ps nd us re va nu))) 4 (fun _ => rfl) (fun hc => ?_) (fun hc => ?_)
      · have h := (am_ift hc).symm.trans h
        refine am_Ev.fork (b := decide (q5 = (-1 : Int32))) (s1 := (99, [(0, .ref 0), (1, .int x1), (2, .int x2), (3, .int q4), (4, .int q5)], [], (hr th tx ds nw ou ps nd us re va nu))) (s2 := (86, [(0, .ref 0), (1, .int x1), (2, .int x2), (3, .int q4), (4, .int q5)], [], (hr th tx ds nw ou ps nd us re va nu))) 3 (fun _ => rfl) (fun hc => ?_) (fun hc => ?_)
        · have h := (am_ift hc).symm.trans h
          refine am_Ev.go 2 (st' := (31, [(0, .ref 0), (1, .int x1), (2, .int (x2 + 1)), (3, .int q4), (4, .int q5)], [], (hr th tx ds nw ou ps nd us re va nu))) (fun _ => rfl) ?_
          refine am_Ev.same (st' := (31, [(0, .ref 0), (1, .int x1), (2, .int (x2 + 1))], [], (hr th tx ds nw ou ps nd us re va nu))) (fun _ => rfl) ?_
          exact ih _ _ _ _ h
        · have h := (am_iff hc).symm.trans h
          obtain ⟨hc, h⟩ := am_ifn h
          refine am_Ev.guard (b := decide (0 ≤ (((60 : Int32) * x2) + q5).toInt ∧ (((60 : Int32) * x2) + q5).toInt < (3600 : Int))) (s1 := (99, [(0, .ref 0), (1, .int x1), (2, .int x2), (3, .int q4), (4, .int q5)], [], (hr th tx ds nw ou ps nd us (upd re (((60 : Int32) * x2) + q5).toNatClampNeg (vp_nar .boolean (1 : Int32))) va nu))) 9 (fun _ => rfl) hc ?_
          refine am_Ev.go 2 (st' := (31, [(0, .ref 0), (1, .int x1), (2, .int (x2 + 1)), (3, .int q4), (4, .int q5)], [], (hr th tx ds nw ou ps nd us (upd re (((60 : Int32) * x2) + q5).toNatClampNeg (vp_nar .boolean (1 : Int32))) va nu))) (fun _ => rfl) ?_
          refine am_Ev.same (st' := (31, [(0, .ref 0), (1, .int x1), (2, .int (x2 + 1))], [], (hr th tx ds nw ou ps nd us (upd re (((60 : Int32) * x2) + q5).toNatClampNeg (vp_nar .boolean (1 : Int32))) va nu))) (fun _ => rfl) ?_
          exact ih _ _ _ _ h
      · have h := (am_iff hc).symm.trans h
        obtain ⟨hc, h⟩ := am_ifn h
        refine am_Ev.guard (b := decide (0 ≤ (((60 : Int32) * x2) + q4).toInt ∧ (((60 : Int32) * x2) + q4).toInt < (3600 : Int))) (s1 := (80, [(0, .ref 0), (1, .int x1), (2, .int x2), (3, .int q4), (4, .int q5)], [], (hr th tx ds nw ou ps nd us (upd re (((60 : Int32) * x2) + q4).toNatClampNeg (vp_nar .boolean (1 : Int32))) va nu))) 9 (fun _ => rfl) hc ?_
        refine am_Ev.fork (b := decide (q5 = (-1 : Int32))) (s1 := (99, [(0, .ref 0), (1, .int x1), (2, .int x2), (3, .int q4), (4, .int q5)], [], (hr th tx ds nw ou ps nd us (upd re (((60 : Int32) * x2) + q4).toNatClampNeg (vp_nar .boolean (1 : Int32))) va nu))) (s2 := (86, [(0, .ref 0), (1, .int x1), (2, .int x2), (3, .int q4), (4, .int q5)], [], (hr th tx ds nw ou ps nd us (upd re (((60 : Int32) * x2) + q4).toNatClampNeg (vp_nar .boolean (1 : Int32))) va nu))) 3 (fun _ => rfl) (fun hc => ?_) (fun hc => ?_)
        · have h := (am_ift hc).symm.trans h
          refine am_Ev.go 2 (st' := (31, [(0, .ref 0), (1, .int x1), (2, .int (x2 + 1)), (3, .int q4), (4, .int q5)], [], (hr th tx ds nw ou ps nd us (upd re (((60 : Int32) * x2) + q4).toNatClampNeg (vp_nar .boolean (1 : Int32))) va nu))) (fun _ => rfl) ?_
          refine am_Ev.same (st' := (31, [(0, .ref 0), (1, .int x1), (2, .int (x2 + 1))], [], (hr th tx ds nw ou ps nd us (upd re (((60 : Int32) * x2) + q4).toNatClampNeg (vp_nar .boolean (1 : Int32))) va nu))) (fun _ => rfl) ?_
          exact ih _ _ _ _ h
        · have h := (am_iff hc).symm.trans h
          obtain ⟨hc, h⟩ := am_ifn h
          refine am_Ev.guard (b := decide (0 ≤ (((60 : Int32) * x2) + q5).toInt ∧ (((60 : Int32) * x2) + q5).toInt < (3600 : Int))) (s1 := (99, [(0, .ref 0), (1, .int x1), (2, .int x2), (3, .int q4), (4, .int q5)], [], (hr th tx ds nw ou ps nd us (upd (upd re (((60 : Int32) * x2) + q4).toNatClampNeg (vp_nar .boolean (1 : Int32))) (((60 : Int32) * x2) + q5).toNatClampNeg (vp_nar .boolean (1 : Int32))) va nu))) 9 (fun _ => rfl) hc ?_
          refine am_Ev.go 2 (st' := (31, [(0, .ref 0), (1, .int x1), (2, .int (x2 + 1)), (3, .int q4), (4, .int q5)], [], (hr th tx ds nw ou ps nd us (upd (upd re (((60 : Int32) * x2) + q4).toNatClampNeg (vp_nar .boolean (1 : Int32))) (((60 : Int32) * x2) + q5).toNatClampNeg (vp_nar .boolean (1 : Int32))) va nu))) (fun _ => rfl) ?_
          refine am_Ev.same (st' := (31, [(0, .ref 0), (1, .int x1), (2, .int (x2 + 1))], [], (hr th tx ds nw ou ps nd us (upd (upd re (((60 : Int32) * x2) + q4).toNatClampNeg (vp_nar .boolean (1 : Int32))) (((60 : Int32) * x2) + q5).toNatClampNeg (vp_nar .boolean (1 : Int32))) va nu))) (fun _ => rfl) ?_
          exact ih _ _ _ _ h
theorem ev_M_findResting_9_v {n0 : Nat} {th : Mth} {tx : Mtx} {ds : Mds} {nw : Mnw} {ou : Mou} {va : Mva} {nu : Mnu} {x1 : Int32} {nd : Mnd} {us : Mus} {κ : Mps → Mre → Option (Mps × Mre)} (hκ : ∀ (ps : Mps) (re : Mre) (res : Mps × Mre), κ ps re = some res → am_Ev (tb_M_findResting (am_run rPT rML (n0 + 1))) (29, [(0, .ref 0), (1, .int x1)], [], (hr th tx ds nw ou ps nd us re va nu)) (none, (hr th tx ds nw ou res.1 nd us res.2 va nu))) : ∀ (n : Nat) (x2 : Int32) (ps : Mps) (re : Mre) (res : Mps × Mre), fn_M_findResting_9 x1 nd us κ n x2 ps re = some res → am_Ev (tb_M_findResting (am_run rPT rML (n0 + 1))) (9, [(0, .ref 0), (1, .int x1), (2, .int x2)], [], (hr th tx ds nw ou ps nd us re va nu)) (none, (hr th tx ds nw ou res.1 nd us res.2 va nu)) := by
  intro n
  induction n with
  | zero => intro x2 ps re res h; unfold fn_M_findResting_9 at h; cases h
  | succ n ih =>
    intro x2 ps re res h
    unfold fn_M_findResting_9 at h
    refine am_Ev.fork (b := decide ((3600 : Int32) ≤ x2)) (s1 := (29, [(0, .ref 0), (1, .int x1), (2, .int x2)], [], (hr th tx ds nw ou ps nd us re va nu))) (s2 := (16, [(0, .ref 0), (1, .int x1), (2, .int x2)], [], (hr th tx ds nw ou ps nd us re va nu))) 3 (fun _ => rfl) (fun hc => ?_) (fun hc => ?_)
    · have h := (am_ift hc).symm.trans h
      refine am_Ev.same (st' := (29, [(0, .ref 0), (1, .int x1)], [], (hr th tx ds nw ou ps nd us re va nu))) (fun _ => rfl) ?_
      exact hκ _ _ _ h
    · have h := (am_iff hc).symm.trans h
      obtain ⟨hc, h⟩ := am_ifn h
      refine am_Ev.guard (b := decide (0 ≤ x2.toInt ∧ x2.toInt < (3600 : Int))) (s1 := (23, [(0, .ref 0), (1, .int x1), (2, .int x2)], [], (hr th tx ds nw ou ps nd us (upd re x2.toNatClampNeg (vp_nar .boolean (0 : Int32))) va nu))) 5 (fun _ => rfl) hc ?_
      refine am_Ev.go 2 (st' := (9, [(0, .ref 0), (1, .int x1), (2, .int (x2 + 1))], [], (hr th tx ds nw ou ps nd us (upd re x2.toNatClampNeg (vp_nar .boolean (0 : Int32))) va nu))) (fun _ => rfl) ?_
      exact ih _ _ _ _ h
theorem ev_M_findResting_v {n0 : Nat} {th : Mth} {tx : Mtx} {ds : Mds} {nw : Mnw} {ou : Mou} {va : Mva} {nu : Mnu} {ps : Mps} {nd : Mnd} {us : Mus} {re : Mre} {res : Mps × Mre} (h : fn_M_findResting ps nd us re = some res) : am_run rPT rML (n0 + 2) 15 [.ref 0] (hr th tx ds nw ou ps nd us re va nu) = some (none, (hr th tx ds nw ou res.1 nd us res.2 va nu)) := by
  refine am_run_of (d := n0 + 1) rfl ?_
  show am_Ev (tb_M_findResting (am_run rPT rML (n0 + 1))) (0, [(0, .ref 0)], [], (hr th tx ds nw ou ps nd us re va nu)) (none, (hr th tx ds nw ou res.1 nd us res.2 va nu))
  unfold fn_M_findResting at h
  obtain ⟨hc, h⟩ := am_ifn h
  refine am_Ev.guard (b := decide (0 ≤ (3 : Int32).toInt ∧ (3 : Int32).toInt < (4 : Int))) (s1 := (6, [(0, .ref 0)], [.int (nd.2.1 ((3 : Int32).toNatClampNeg))], (hr th tx ds nw ou ps nd us re va nu))) 4 (fun _ => rfl) hc ?_
  refine am_Ev.go 3 (st' := (9, [(0, .ref 0), (1, .int (nd.2.1 ((3 : Int32).toNatClampNeg))), (2, .int 0)], [], (hr th tx ds nw ou ps nd us re va nu))) (fun _ => rfl) ?_
  refine ev_M_findResting_9_v ?_ _ _ _ _ _ h
  intro ps_7 re_7 res h
  try dsimp only at h
  refine am_Ev.go 2 (st' := (31, [(0, .ref 0), (1, .int (nd.2.1 ((3 : Int32).toNatClampNeg))), (2, .int 0)], [], (hr th tx ds nw ou ps_7 nd us re_7 va nu))) (fun _ => rfl) ?_
  refine ev_M_findResting_31_v ?_ _ _ _ _ _ h
  intro ps_8 re_8 res h
  try dsimp only at h
  refine am_Ev.go 2 (st' := (107, [(0, .ref 0), (1, .int (nd.2.1 ((3 : Int32).toNatClampNeg))), (2, .int 0)], [], (hr th tx ds nw ou ps_8 nd us re_8 va nu))) (fun _ => rfl) ?_
  refine ev_M_findResting_107_v ?_ _ _ _ _ _ h
  intro ps_9 re_9 res h
  try dsimp only at h
  refine am_Ev.go 2 (st' := (209, [(0, .ref 0), (1, .int (nd.2.1 ((3 : Int32).toNatClampNeg))), (2, .int 0)], [], (hr th tx ds nw ou ps_9 nd us re_9 va nu))) (fun _ => rfl) ?_
  refine ev_M_findResting_209_v ?_ _ _ _ _ _ h
  intro ps_10 re_10 res h
  try dsimp only at h
  cases h
  exact am_Ev.done 1 rfl
theorem ev_M_takeOver_109_v {n0 : Nat} {tx : Mtx} {ou : Mou} {ps : Mps} {us : Mus} {re : Mre} {va : Mva} {nu : Mnu} {nd : Mnd} {κ : Mth → Mds → Mnw → Option (Mth × Mds × Mnw)} (hκ : ∀ (th : Mth) (ds : Mds) (nw : Mnw) (res : Mth × Mds × Mnw), κ th ds nw = some res → am_Ev (tb_M_takeOver (am_run rPT rML (n0 + 1))) (157, [(0, .ref 0)], [], (hr th tx ds nw ou ps nd us re va nu)) (none, (hr res.1 tx res.2.1 res.2.2 ou ps nd us re va nu))) : ∀ (n : Nat) (x1 : Int32) (th : Mth) (ds : Mds) (nw : Mnw) (res : Mth × Mds × Mnw), fn_M_takeOver_109 nd κ n x1 th ds nw = some res → am_Ev (tb_M_takeOver (am_run rPT rML (n0 + 1))) (109, [(0, .ref 0), (1, .int x1)], [], (hr th tx ds nw ou ps nd us re va nu)) (none, (hr res.1 tx res.2.1 res.2.2 ou ps nd us re va nu)) := by
  intro n
  induction n with
  | zero => intro x1 th ds nw res h; unfold fn_M_takeOver_109 at h; cases h
  | succ n ih =>
    intro x1 th ds nw res h
    unfold fn_M_takeOver_109 at h
    refine am_Ev.fork (b := decide ((60 : Int32) ≤ x1)) (s1 := (157, [(0, .ref 0), (1, .int x1)], [], (hr th tx ds nw ou ps nd us re va nu))) (s2 := (115, [(0, .ref 0), (1, .int x1)], [], (hr th tx ds nw ou ps nd us re va nu))) 3 (fun _ => rfl) (fun hc => ?_) (fun hc => ?_)
    · have h := (am_ift hc).symm.trans h
      refine am_Ev.same (st' := (157, [(0, .ref 0)], [], (hr th tx ds nw ou ps nd us re va nu))) (fun _ => rfl) ?_
      exact hκ _ _ _ _ h
    · have h := (am_iff hc).symm.trans h
      obtain ⟨hc, h⟩ := am_ifn h
      refine am_Ev.guard (b := decide (0 ≤ x1.toInt ∧ x1.toInt < (60 : Int))) (s1 := (126, [(0, .ref 0), (1, .int x1)], [.int (nd.2.2.2.2.2.2.2.1 x1.toNatClampNeg), .int x1, .ref 8], (hr th tx ds nw ou ps nd us re va nu))) 7 (fun _ => rfl) hc ?_
      obtain ⟨hc, h⟩ := am_ifn h
      refine am_Ev.guard (b := decide (0 ≤ x1.toInt ∧ x1.toInt < (60 : Int))) (s1 := (127, [(0, .ref 0), (1, .int x1)], [], (hr th tx (ds.1, ds.2.1, ds.2.2.1, ds.2.2.2.1, ds.2.2.2.2.1, ds.2.2.2.2.2.1, ds.2.2.2.2.2.2.1, upd ds.2.2.2.2.2.2.2.1 x1.toNatClampNeg ((nd.2.2.2.2.2.2.2.1 x1.toNatClampNeg)), ds.2.2.2.2.2.2.2.2.1, ds.2.2.2.2.2.2.2.2.2) nw ou ps nd us re va nu))) 1 (fun _ => rfl) hc ?_
      obtain ⟨hc, h⟩ := am_ifn h
      refine am_Ev.guard (b := decide (0 ≤ x1.toInt ∧ x1.toInt < (60 : Int))) (s1 := (138, [(0, .ref 0), (1, .int x1)], [.int (nd.2.2.2.2.2.2.2.2.1 x1.toNatClampNeg), .int x1, .ref 9], (hr th tx (ds.1, ds.2.1, ds.2.2.1, ds.2.2.2.1, ds.2.2.2.2.1, ds.2.2.2.2.2.1, ds.2.2.2.2.2.2.1, upd ds.2.2.2.2.2.2.2.1 x1.toNatClampNeg ((nd.2.2.2.2.2.2.2.1 x1.toNatClampNeg)), ds.2.2.2.2.2.2.2.2.1, ds.2.2.2.2.2.2.2.2.2) nw ou ps nd us re va nu))) 7 (fun _ => rfl) hc ?_
      obtain ⟨hc, h⟩ := am_ifn h
      refine am_Ev.guard (b := decide (0 ≤ x1.toInt ∧ x1.toInt < (60 : Int))) (s1 := (139, [(0, .ref 0), (1, .int x1)], [], (hr th tx (ds.1, ds.2.1, ds.2.2.1, ds.2.2.2.1, ds.2.2.2.2.1, ds.2.2.2.2.2.1, ds.2.2.2.2.2.2.1, upd ds.2.2.2.2.2.2.2.1 x1.toNatClampNeg ((nd.2.2.2.2.2.2.2.1 x1.toNatClampNeg)), upd ds.2.2.2.2.2.2.2.2.1 x1.toNatClampNeg ((nd.2.2.2.2.2.2.2.2.1 x1.toNatClampNeg)), ds.2.2.2.2.2.2.2.2.2) nw ou ps nd us re va nu))) 1 (fun _ => rfl) hc ?_
      obtain ⟨hc, h⟩ := am_ifn h
      refine am_Ev.guard (b := decide (0 ≤ x1.toInt ∧ x1.toInt < (60 : Int))) (s1 := (150, [(0, .ref 0), (1, .int x1)], [.int (nd.2.2.2.2.2.2.2.2.2 x1.toNatClampNeg), .int x1, .ref 10], (hr th tx (ds.1, ds.2.1, ds.2.2.1, ds.2.2.2.1, ds.2.2.2.2.1, ds.2.2.2.2.2.1, ds.2.2.2.2.2.2.1, upd ds.2.2.2.2.2.2.2.1 x1.toNatClampNeg ((nd.2.2.2.2.2.2.2.1 x1.toNatClampNeg)), upd ds.2.2.2.2.2.2.2.2.1 x1.toNatClampNeg ((nd.2.2.2.2.2.2.2.2.1 x1.toNatClampNeg)), ds.2.2.2.2.2.2.2.2.2) nw ou ps nd us re va nu))) 7 (fun _ => rfl) hc ?_
      obtain ⟨hc, h⟩ := am_ifn h
      refine am_Ev.guard (b := decide (0 ≤ x1.toInt ∧ x1.toInt < (60 : Int))) (s1 := (151, [(0, .ref 0), (1, .int x1)], [], (hr th tx (ds.1, ds.2.1, ds.2.2.1, ds.2.2.2.1, ds.2.2.2.2.1, ds.2.2.2.2.2.1, ds.2.2.2.2.2.2.1, upd ds.2.2.2.2.2.2.2.1 x1.toNatClampNeg ((nd.2.2.2.2.2.2.2.1 x1.toNatClampNeg)), upd ds.2.2.2.2.2.2.2.2.1 x1.toNatClampNeg ((nd.2.2.2.2.2.2.2.2.1 x1.toNatClampNeg)), upd ds.2.2.2.2.2.2.2.2.2 x1.toNatClampNeg ((nd.2.2.2.2.2.2.2.2.2 x1.toNatClampNeg))) nw ou ps nd us re va nu))) 1 (fun _ => rfl) hc ?_
      refine am_Ev.go 2 (st' := (109, [(0, .ref 0), (1, .int (x1 + 1))], [], (hr th tx (ds.1, ds.2.1, ds.2.2.1, ds.2.2.2.1, ds.2.2.2.2.1, ds.2.2.2.2.2.1, ds.2.2.2.2.2.2.1, upd ds.2.2.2.2.2.2.2.1 x1.toNatClampNeg ((nd.2.2.2.2.2.2.2.1 x1.toNatClampNeg)), upd ds.2.2.2.2.2.2.2.2.1 x1.toNatClampNeg ((nd.2.2.2.2.2.2.2.2.1 x1.toNatClampNeg)), upd ds.2.2.2.2.2.2.2.2.2 x1.toNatClampNeg ((nd.2.2.2.2.2.2.2.2.2 x1.toNatClampNeg))) nw ou ps nd us re va nu))) (fun _ => rfl) ?_
      exact ih _ _ _ _ _ h
theorem ev_M_takeOver_35_v {n0 : Nat} {tx : Mtx} {ou : Mou} {ps : Mps} {us : Mus} {re : Mre} {va : Mva} {nu : Mnu} {nd : Mnd} {κ : Mth → Mds → Mnw → Option (Mth × Mds × Mnw)} (hκ : ∀ (th : Mth) (ds : Mds) (nw : Mnw) (res : Mth × Mds × Mnw), κ th ds nw = some res → am_Ev (tb_M_takeOver (am_run rPT rML (n0 + 1))) (107, [(0, .ref 0)], [], (hr th tx ds nw ou ps nd us re va nu)) (none, (hr res.1 tx res.2.1 res.2.2 ou ps nd us re va nu))) : ∀ (n : Nat) (x1 : Int32) (th : Mth) (ds : Mds) (nw : Mnw) (res : Mth × Mds × Mnw), fn_M_takeOver_35 nd κ n x1 th ds nw = some res → am_Ev (tb_M_takeOver (am_run rPT rML (n0 + 1))) (35, [(0, .ref 0), (1, .int x1)], [], (hr th tx ds nw ou ps nd us re va nu)) (none, (hr res.1 tx res.2.1 res.2.2 ou ps nd us re va nu)) := by
  intro n
  induction n with
  | zero => intro x1 th ds nw res h; unfold fn_M_takeOver_35 at h; cases h
  | succ n ih =>
    intro x1 th ds nw res h
    unfold fn_M_takeOver_35 at h
    refine am_Ev.fork (b := decide ((8 : Int32) ≤ x1)) (s1 := (107, [(0, .ref 0), (1, .int x1)], [], (hr th tx ds nw ou ps nd us re va nu))) (s2 := (41, [(0, .ref 0), (1, .int x1)], [], (hr th tx ds nw ou ps nd us re va nu))) 3 (fun _ => rfl) (fun hc => ?_) (fun hc => ?_)
    · have h := (am_ift hc).symm.trans h
      refine am_Ev.same (st' := (107, [(0, .ref 0)], [], (hr th tx ds nw ou ps nd us re va nu))) (fun _ => rfl) ?_
      exact hκ _ _ _ _ h
    · have h := (am_iff hc).symm.trans h
      obtain ⟨hc, h⟩ := am_ifn h
      refine am_Ev.guard (b := decide (0 ≤ x1.toInt ∧ x1.toInt < (8 : Int))) (s1 := (52, [(0, .ref 0), (1, .int x1)], [.int (nd.2.2.1 x1.toNatClampNeg), .int x1, .ref 3], (hr th tx ds nw ou ps nd us re va nu))) 7 (fun _ => rfl) hc ?_
      obtain ⟨hc, h⟩ := am_ifn h
      refine am_Ev.guard (b := decide (0 ≤ x1.toInt ∧ x1.toInt < (8 : Int))) (s1 := (53, [(0, .ref 0), (1, .int x1)], [], (hr th tx (ds.1, ds.2.1, upd ds.2.2.1 x1.toNatClampNeg ((nd.2.2.1 x1.toNatClampNeg)), ds.2.2.2.1, ds.2.2.2.2.1, ds.2.2.2.2.2.1, ds.2.2.2.2.2.2.1, ds.2.2.2.2.2.2.2.1, ds.2.2.2.2.2.2.2.2.1, ds.2.2.2.2.2.2.2.2.2) nw ou ps nd us re va nu))) 1 (fun _ => rfl) hc ?_
      obtain ⟨hc, h⟩ := am_ifn h
      refine am_Ev.guard (b := decide (0 ≤ x1.toInt ∧ x1.toInt < (8 : Int))) (s1 := (64, [(0, .ref 0), (1, .int x1)], [.int (nd.2.2.2.1 x1.toNatClampNeg), .int x1, .ref 4], (hr th tx (ds.1, ds.2.1, upd ds.2.2.1 x1.toNatClampNeg ((nd.2.2.1 x1.toNatClampNeg)), ds.2.2.2.1, ds.2.2.2.2.1, ds.2.2.2.2.2.1, ds.2.2.2.2.2.2.1, ds.2.2.2.2.2.2.2.1, ds.2.2.2.2.2.2.2.2.1, ds.2.2.2.2.2.2.2.2.2) nw ou ps nd us re va nu))) 7 (fun _ => rfl) hc ?_
      obtain ⟨hc, h⟩ := am_ifn h
      refine am_Ev.guard (b := decide (0 ≤ x1.toInt ∧ x1.toInt < (8 : Int))) (s1 := (65, [(0, .ref 0), (1, .int x1)], [], (hr th tx (ds.1, ds.2.1, upd ds.2.2.1 x1.toNatClampNeg ((nd.2.2.1 x1.toNatClampNeg)), upd ds.2.2.2.1 x1.toNatClampNeg ((nd.2.2.2.1 x1.toNatClampNeg)), ds.2.2.2.2.1, ds.2.2.2.2.2.1, ds.2.2.2.2.2.2.1, ds.2.2.2.2.2.2.2.1, ds.2.2.2.2.2.2.2.2.1, ds.2.2.2.2.2.2.2.2.2) nw ou ps nd us re va nu))) 1 (fun _ => rfl) hc ?_
      obtain ⟨hc, h⟩ := am_ifn h
      refine am_Ev.guard (b := decide (0 ≤ x1.toInt ∧ x1.toInt < (8 : Int))) (s1 := (76, [(0, .ref 0), (1, .int x1)], [.int (nd.2.2.2.2.1 x1.toNatClampNeg), .int x1, .ref 5], (hr th tx (ds.1, ds.2.1, upd ds.2.2.1 x1.toNatClampNeg ((nd.2.2.1 x1.toNatClampNeg)), upd ds.2.2.2.1 x1.toNatClampNeg ((nd.2.2.2.1 x1.toNatClampNeg)), ds.2.2.2.2.1, ds.2.2.2.2.2.1, ds.2.2.2.2.2.2.1, ds.2.2.2.2.2.2.2.1, ds.2.2.2.2.2.2.2.2.1, ds.2.2.2.2.2.2.2.2.2) nw ou ps nd us re va nu))) 7 (fun _ => rfl) hc ?_
      obtain ⟨hc, h⟩ := am_ifn h
      refine am_Ev.guard (b := decide (0 ≤ x1.toInt ∧ x1.toInt < (8 : Int))) (s1 := (77, [(0, .ref 0), (1, .int x1)], [], (hr th tx (ds.1, ds.2.1, upd ds.2.2.1 x1.toNatClampNeg ((nd.2.2.1 x1.toNatClampNeg)), upd ds.2.2.2.1 x1.toNatClampNeg ((nd.2.2.2.1 x1.toNatClampNeg)), upd ds.2.2.2.2.1 x1.toNatClampNeg ((nd.2.2.2.2.1 x1.toNatClampNeg)), ds.2.2.2.2.2.1, ds.2.2.2.2.2.2.1, ds.2.2.2.2.2.2.2.1, ds.2.2.2.2.2.2.2.2.1, ds.2.2.2.2.2.2.2.2.2) nw ou ps nd us re va nu))) 1 (fun _ => rfl) hc ?_
      obtain ⟨hc, h⟩ := am_ifn h
      refine am_Ev.guard (b := decide (0 ≤ x1.toInt ∧ x1.toInt < (8 : Int))) (s1 := (88, [(0, .ref 0), (1, .int x1)], [.int (nd.2.2.2.2.2.1 x1.toNatClampNeg), .int x1, .ref 6], (hr th tx (ds.1, ds.2.1, upd ds.2.2.1 x1.toNatClampNeg ((nd.2.2.1 x1.toNatClampNeg)), upd ds.2.2.2.1 x1.toNatClampNeg ((nd.2.2.2.1 x1.toNatClampNeg)), upd ds.2.2.2.2.1 x1.toNatClampNeg ((nd.2.2.2.2.1 x1.toNatClampNeg)), ds.2.2.2.2.2.1, ds.2.2.2.2.2.2.1, ds.2.2.2.2.2.2.2.1, ds.2.2.2.2.2.2.2.2.1, ds.2.2.2.2.2.2.2.2.2) nw ou ps nd us re va nu))) 7 (fun _ => rfl) hc ?_
      obtain ⟨hc, h⟩ := am_ifn h
      refine am_Ev.guard (b := decide (0 ≤ x1.toInt ∧ x1.toInt < (8 : Int))) (s1 := (89, [(0, .ref 0), (1, .int x1)], [], (hr th tx (ds.1, ds.2.1, upd ds.2.2.1 x1.toNatClampNeg ((nd.2.2.1 x1.toNatClampNeg)), upd ds.2.2.2.1 x1.toNatClampNeg ((nd.2.2.2.1 x1.toNatClampNeg)), upd ds.2.2.2.2.1 x1.toNatClampNeg ((nd.2.2.2.2.1 x1.toNatClampNeg)), upd ds.2.2.2.2.2.1 x1.toNatClampNeg ((nd.2.2.2.2.2.1 x1.toNatClampNeg)), ds.2.2.2.2.2.2.1, ds.2.2.2.2.2.2.2.1, ds.2.2.2.2.2.2.2.2.1, ds.2.2.2.2.2.2.2.2.2) nw ou ps nd us re va nu))) 1 (fun _ => rfl) hc ?_
      obtain ⟨hc, h⟩ := am_ifn h
      refine am_Ev.guard (b := decide (0 ≤ x1.toInt ∧ x1.toInt < (8 : Int))) (s1 := (100, [(0, .ref 0), (1, .int x1)], [.int (nd.2.2.2.2.2.2.1 x1.toNatClampNeg), .int x1, .ref 7], (hr th tx (ds.1, ds.2.1, upd ds.2.2.1 x1.toNatClampNeg ((nd.2.2.1 x1.toNatClampNeg)), upd ds.2.2.2.1 x1.toNatClampNeg ((nd.2.2.2.1 x1.toNatClampNeg)), upd ds.2.2.2.2.1 x1.toNatClampNeg ((nd.2.2.2.2.1 x1.toNatClampNeg)), upd ds.2.2.2.2.2.1 x1.toNatClampNeg ((nd.2.2.2.2.2.1 x1.toNatClampNeg)), ds.2.2.2.2.2.2.1, ds.2.2.2.2.2.2.2.1, ds.2.2.2.2.2.2.2.2.1, ds.2.2.2.2.2.2.2.2.2) nw ou ps nd us re va nu))) 7 (fun _ => rfl) hc ?_
      obtain ⟨hc, h⟩ := am_ifn h
      refine am_Ev.guard (b := decide (0 ≤ x1.toInt ∧ x1.toInt < (8 : Int))) (s1 := (101, [(0, .ref 0), (1, .int x1)], [], (hr th tx (ds.1, ds.2.1, upd ds.2.2.1 x1.toNatClampNeg ((nd.2.2.1 x1.toNatClampNeg)), upd ds.2.2.2.1 x1.toNatClampNeg ((nd.2.2.2.1 x1.toNatClampNeg)), upd ds.2.2.2.2.1 x1.toNatClampNeg ((nd.2.2.2.2.1 x1.toNatClampNeg)), upd ds.2.2.2.2.2.1 x1.toNatClampNeg ((nd.2.2.2.2.2.1 x1.toNatClampNeg)), upd ds.2.2.2.2.2.2.1 x1.toNatClampNeg ((nd.2.2.2.2.2.2.1 x1.toNatClampNeg)), ds.2.2.2.2.2.2.2.1, ds.2.2.2.2.2.2.2.2.1, ds.2.2.2.2.2.2.2.2.2) nw ou ps nd us re va nu))) 1 (fun _ => rfl) hc ?_
      refine am_Ev.go 2 (st' := (35, [(0, .ref 0), (1, .int (x1 + 1))], [], (hr th tx (ds.1, ds.2.1, upd ds.2.2.1 x1.toNatClampNeg ((nd.2.2.1 x1.toNatClampNeg)), upd ds.2.2.2.1 x1.toNatClampNeg ((nd.2.2.2.1 x1.toNatClampNeg)), upd ds.2.2.2.2.1 x1.toNatClampNeg ((nd.2.2.2.2.1 x1.toNatClampNeg)), upd ds.2.2.2.2.2.1 x1.toNatClampNeg ((nd.2.2.2.2.2.1 x1.toNatClampNeg)), upd ds.2.2.2.2.2.2.1 x1.toNatClampNeg ((nd.2.2.2.2.2.2.1 x1.toNatClampNeg)), ds.2.2.2.2.2.2.2.1, ds.2.2.2.2.2.2.2.2.1, ds.2.2.2.2.2.2.2.2.2) nw ou ps nd us re va nu))) (fun _ => rfl) ?_
      exact ih _ _ _ _ _ h
theorem ev_M_takeOver_10_v {n0 : Nat} {tx : Mtx} {ou : Mou} {ps : Mps} {us : Mus} {re : Mre} {va : Mva} {nu : Mnu} {nd : Mnd} {κ : Mth → Mds → Mnw → Option (Mth × Mds × Mnw)} (hκ : ∀ (th : Mth) (ds : Mds) (nw : Mnw) (res : Mth × Mds × Mnw), κ th ds nw = some res → am_Ev (tb_M_takeOver (am_run rPT rML (n0 + 1))) (33, [(0, .ref 0)], [], (hr th tx ds nw ou ps nd us re va nu)) (none, (hr res.1 tx res.2.1 res.2.2 ou ps nd us re va nu))) : ∀ (n : Nat) (x1 : Int32) (th : Mth) (ds : Mds) (nw : Mnw) (res : Mth × Mds × Mnw), fn_M_takeOver_10 nd κ n x1 th ds nw = some res → am_Ev (tb_M_takeOver (am_run rPT rML (n0 + 1))) (10, [(0, .ref 0), (1, .int x1)], [], (hr th tx ds nw ou ps nd us re va nu)) (none, (hr res.1 tx res.2.1 res.2.2 ou ps nd us re va nu)) := by
  intro n
  induction n with
  | zero => intro x1 th ds nw res h; unfold fn_M_takeOver_10 at h; cases h
  | succ n ih =>
    intro x1 th ds nw res h
    unfold fn_M_takeOver_10 at h
    refine am_Ev.fork (b := decide ((4 : Int32) ≤ x1)) (s1 := (33, [(0, .ref 0), (1, .int x1)], [], (hr th tx ds nw ou ps nd us re va nu))) (s2 := (15, [(0, .ref 0), (1, .int x1)], [], (hr th tx ds nw ou ps nd us re va nu))) 3 (fun _ => rfl) (fun hc => ?_) (fun hc => ?_)
    · have h := (am_ift hc).symm.trans h
      refine am_Ev.same (st' := (33, [(0, .ref 0)], [], (hr th tx ds nw ou ps nd us re va nu))) (fun _ => rfl) ?_
      exact hκ _ _ _ _ h
    · have h := (am_iff hc).symm.trans h
      obtain ⟨hc, h⟩ := am_ifn h
      refine am_Ev.guard (b := decide (0 ≤ x1.toInt ∧ x1.toInt < (4 : Int))) (s1 := (26, [(0, .ref 0), (1, .int x1)], [.int (nd.2.1 x1.toNatClampNeg), .int x1, .ref 2], (hr th tx ds nw ou ps nd us re va nu))) 7 (fun _ => rfl) hc ?_
      obtain ⟨hc, h⟩ := am_ifn h
      refine am_Ev.guard (b := decide (0 ≤ x1.toInt ∧ x1.toInt < (4 : Int))) (s1 := (27, [(0, .ref 0), (1, .int x1)], [], (hr th tx (ds.1, upd ds.2.1 x1.toNatClampNeg ((nd.2.1 x1.toNatClampNeg)), ds.2.2.1, ds.2.2.2.1, ds.2.2.2.2.1, ds.2.2.2.2.2.1, ds.2.2.2.2.2.2.1, ds.2.2.2.2.2.2.2.1, ds.2.2.2.2.2.2.2.2.1, ds.2.2.2.2.2.2.2.2.2) nw ou ps nd us re va nu))) 1 (fun _ => rfl) hc ?_
      refine am_Ev.go 2 (st' := (10, [(0, .ref 0), (1, .int (x1 + 1))], [], (hr th tx (ds.1, upd ds.2.1 x1.toNatClampNeg ((nd.2.1 x1.toNatClampNeg)), ds.2.2.1, ds.2.2.2.1, ds.2.2.2.2.1, ds.2.2.2.2.2.1, ds.2.2.2.2.2.2.1, ds.2.2.2.2.2.2.2.1, ds.2.2.2.2.2.2.2.2.1, ds.2.2.2.2.2.2.2.2.2) nw ou ps nd us re va nu))) (fun _ => rfl) ?_
      exact ih _ _ _ _ _ h
theorem ev_M_takeOver_v {n0 : Nat} {tx : Mtx} {ou : Mou} {ps : Mps} {us : Mus} {re : Mre} {va : Mva} {nu : Mnu} {th : Mth} {ds : Mds} {nw : Mnw} {nd : Mnd} {res : Mth × Mds × Mnw} (h : fn_M_takeOver th ds nw nd = some res) : am_run rPT rML (n0 + 2) 17 [.ref 0] (hr th tx ds nw ou ps nd us re va nu) = some (none, (hr res.1 tx res.2.1 res.2.2 ou ps nd us re va nu)) := by
  refine am_run_of (d := n0 + 1) rfl ?_
  show am_Ev (tb_M_takeOver (am_run rPT rML (n0 + 1))) (0, [(0, .ref 0)], [], (hr th tx ds nw ou ps nd us re va nu)) (none, (hr res.1 tx res.2.1 res.2.2 ou ps nd us re va nu))
  unfold fn_M_takeOver at h
  refine am_Ev.go 6 (st' := (10, [(0, .ref 0), (1, .int 0)], [], (hr th tx (nd.1, ds.2.1, ds.2.2.1, ds.2.2.2.1, ds.2.2.2.2.1, ds.2.2.2.2.2.1, ds.2.2.2.2.2.2.1, ds.2.2.2.2.2.2.2.1, ds.2.2.2.2.2.2.2.2.1, ds.2.2.2.2.2.2.2.2.2) nw ou ps nd us re va nu))) (fun _ => rfl) ?_
  refine ev_M_takeOver_10_v ?_ _ _ _ _ _ _ h
  intro th_2 ds_2 nw_2 res h
  try dsimp only at h
  refine am_Ev.go 2 (st' := (35, [(0, .ref 0), (1, .int 0)], [], (hr th_2 tx ds_2 nw_2 ou ps nd us re va nu))) (fun _ => rfl) ?_
  refine ev_M_takeOver_35_v ?_ _ _ _ _ _ _ h
  intro th_3 ds_3 nw_3 res h
  try dsimp only at h
  refine am_Ev.go 2 (st' := (109, [(0, .ref 0), (1, .int 0)], [], (hr th_3 tx ds_3 nw_3 ou ps nd us re va nu))) (fun _ => rfl) ?_
  refine ev_M_takeOver_109_v ?_ _ _ _ _ _ _ h
  intro th_4 ds_4 nw_4 res h
  try dsimp only at h
  obtain ⟨q4, hq, h⟩ := Option.bind_eq_some_iff.mp h
  refine am_Ev.go 1 (st' := (158, [(0, .ref 0)], [.ref 0], (hr th_4 tx ds_4 nw_4 ou ps nd us re va nu))) (fun _ => rfl) ?_
  refine am_Ev.call (o := am_run rPT rML (n0 + 1) 30 [.ref 0] (hr th_4 tx ds_4 nw_4 ou ps nd us re va nu)) (kk := fun q => (161, [(0, .ref 0)], q.1.toList ++ [], q.2)) (q := (none, (hr q4.1 tx ds_4 q4.2 ou ps nd us re va nu))) 1 (fun _ => rfl) (ev_M_reset_v hq) ?_
  cases h
  exact am_Ev.done 1 rfl
theorem ev_M_about_v {n0 : Nat} {nw : Mnw} {ou : Mou} {ps : Mps} {nd : Mnd} {us : Mus} {re : Mre} {va : Mva} {nu : Mnu} {x1 : Int32} {th : Mth} {tx : Mtx} {ds : Mds} {res : Int32 × Mth} (h : fn_M_about x1 th tx ds = some res) : am_run rPT rML (n0 + 2) 19 [.ref 0, .int x1] (hr th tx ds nw ou ps nd us re va nu) = some (some (.int res.1), (hr res.2 tx ds nw ou ps nd us re va nu)) := by
  refine am_run_of (d := n0 + 1) rfl ?_
  show am_Ev (tb_M_about (am_run rPT rML (n0 + 1))) (0, [(0, .ref 0), (1, .int x1)], [], (hr th tx ds nw ou ps nd us re va nu)) (some (.int res.1), (hr res.2 tx ds nw ou ps nd us re va nu))
  unfold fn_M_about at h
  refine am_Ev.multi (bs := [(decide (x1 = 0), (48, [(0, .ref 0), (1, .int x1)], [], (hr 0 tx ds nw ou ps nd us re va nu))), (decide (x1 = 1), (53, [(0, .ref 0), (1, .int x1)], [], (hr 0 tx ds nw ou ps nd us re va nu))), (decide (x1 = 2), (53, [(0, .ref 0), (1, .int x1)], [], (hr 0 tx ds nw ou ps nd us re va nu))), (decide (x1 = 3), (53, [(0, .ref 0), (1, .int x1)], [], (hr 0 tx ds nw ou ps nd us re va nu))), (decide (x1 = 4), (53, [(0, .ref 0), (1, .int x1)], [], (hr 0 tx ds nw ou ps nd us re va nu))), (decide (x1 = 5), (62, [(0, .ref 0), (1, .int x1)], [], (hr 0 tx ds nw ou ps nd us re va nu))), (decide (x1 = 6), (67, [(0, .ref 0), (1, .int x1)], [], (hr 0 tx ds nw ou ps nd us re va nu)))]) (s := (80, [(0, .ref 0), (1, .int x1)], [], (hr 0 tx ds nw ou ps nd us re va nu))) 5 (fun _ => rfl) ?_
  refine am_Ev.sw1 (fun hc => ?_) (fun hc => ?_)
  · have h := (am_ift hc).symm.trans h
    cases h
    exact am_Ev.done 3 rfl
  have h := (am_iff hc).symm.trans h
  refine am_Ev.sw1 (fun hc => ?_) (fun hc => ?_)
  · have h := (am_ift hc).symm.trans h
    obtain ⟨hc, h⟩ := am_ifn h
    refine am_Ev.guard (b := decide (0 ≤ (x1 - (1 : Int32)).toInt ∧ (x1 - (1 : Int32)).toInt < (4 : Int))) (s1 := (61, [(0, .ref 0), (1, .int x1)], [.int (ds.2.1 ((x1 - (1 : Int32)).toNatClampNeg))], (hr 0 tx ds nw ou ps nd us re va nu))) 6 (fun _ => rfl) hc ?_
    cases h
    exact am_Ev.done 1 rfl
  have h := (am_iff hc).symm.trans h
  refine am_Ev.sw1 (fun hc => ?_) (fun hc => ?_)
  · have h := (am_ift hc).symm.trans h
    obtain ⟨hc, h⟩ := am_ifn h
    refine am_Ev.guard (b := decide (0 ≤ (x1 - (1 : Int32)).toInt ∧ (x1 - (1 : Int32)).toInt < (4 : Int))) (s1 := (61, [(0, .ref 0), (1, .int x1)], [.int (ds.2.1 ((x1 - (1 : Int32)).toNatClampNeg))], (hr 0 tx ds nw ou ps nd us re va nu))) 6 (fun _ => rfl) hc ?_
    cases h
    exact am_Ev.done 1 rfl
  have h := (am_iff hc).symm.trans h
  refine am_Ev.sw1 (fun hc => ?_) (fun hc => ?_)
  · have h := (am_ift hc).symm.trans h
    obtain ⟨hc, h⟩ := am_ifn h
    refine am_Ev.guard (b := decide (0 ≤ (x1 - (1 : Int32)).toInt ∧ (x1 - (1 : Int32)).toInt < (4 : Int))) (s1 := (61, [(0, .ref 0), (1, .int x1)], [.int (ds.2.1 ((x1 - (1 : Int32)).toNatClampNeg))], (hr 0 tx ds nw ou ps nd us re va nu))) 6 (fun _ => rfl) hc ?_
    cases h
    exact am_Ev.done 1 rfl
  have h := (am_iff hc).symm.trans h
  refine am_Ev.sw1 (fun hc => ?_) (fun hc => ?_)
  · have h := (am_ift hc).symm.trans h
    obtain ⟨hc, h⟩ := am_ifn h
    refine am_Ev.guard (b := decide (0 ≤ (x1 - (1 : Int32)).toInt ∧ (x1 - (1 : Int32)).toInt < (4 : Int))) (s1 := (61, [(0, .ref 0), (1, .int x1)], [.int (ds.2.1 ((x1 - (1 : Int32)).toNatClampNeg))], (hr 0 tx ds nw ou ps nd us re va nu))) 6 (fun _ => rfl) hc ?_
    cases h
    exact am_Ev.done 1 rfl
  have h := (am_iff hc).symm.trans h
  refine am_Ev.sw1 (fun hc => ?_) (fun hc => ?_)
  · have h := (am_ift hc).symm.trans h
    cases h
    exact am_Ev.done 3 rfl
  have h := (am_iff hc).symm.trans h
  refine am_Ev.sw1 (fun hc => ?_) (fun hc => ?_)
  · have h := (am_ift hc).symm.trans h
    obtain ⟨q1, hq, h⟩ := Option.bind_eq_some_iff.mp h
    refine am_Ev.go 1 (st' := (68, [(0, .ref 0), (1, .int x1)], [.ref 0], (hr 0 tx ds nw ou ps nd us re va nu))) (fun _ => rfl) ?_
    refine am_Ev.call (o := am_run rPT rML (n0 + 1) 18 [.ref 0] (hr 0 tx ds nw ou ps nd us re va nu)) (kk := fun q => (71, [(0, .ref 0), (1, .int x1)], q.1.toList ++ [], q.2)) (q := (some (.int q1), (hr 0 tx ds nw ou ps nd us re va nu))) 1 (fun _ => rfl) (ev_M_isOrdered_v hq) ?_
    refine am_Ev.fork (b := decide (q1 = 0)) (s1 := (78, [(0, .ref 0), (1, .int x1)], [], (hr 0 tx ds nw ou ps nd us re va nu))) (s2 := (74, [(0, .ref 0), (1, .int x1)], [], (hr 0 tx ds nw ou ps nd us re va nu))) 1 (fun _ => rfl) (fun hc => ?_) (fun hc => ?_)
    · have h := (am_ift hc).symm.trans h
      cases h
      exact am_Ev.done 2 rfl
    · have h := (am_iff hc).symm.trans h
      cases h
      exact am_Ev.done 3 rfl
  have h := (am_iff hc).symm.trans h
  refine am_Ev.sw0 ?_
  cases h
  exact am_Ev.done 2 rfl
theorem ev_M_order_403_v {n0 : Nat} {tx : Mtx} {nw : Mnw} {ou : Mou} {ps : Mps} {us : Mus} {re : Mre} {va : Mva} {x1 : Int32} {κ : Mth → Mds → Mnd → Mnu → Option (Mth × Mds × Mnd × Mnu)} (hκ : ∀ (th : Mth) (ds : Mds) (nd : Mnd) (nu : Mnu) (res : Mth × Mds × Mnd × Mnu), κ th ds nd nu = some res → am_Ev (tb_M_order (am_run rPT rML (n0 + 1))) (435, [(0, .ref 0), (1, .int x1)], [], (hr th tx ds nw ou ps nd us re va nu)) (none, (hr res.1 tx res.2.1 nw ou ps res.2.2.1 us re va res.2.2.2))) : ∀ (n : Nat) (x3 : Int32) (th : Mth) (ds : Mds) (nd : Mnd) (nu : Mnu) (res : Mth × Mds × Mnd × Mnu), fn_M_order_403 x1 κ n x3 th ds nd nu = some res → am_Ev (tb_M_order (am_run rPT rML (n0 + 1))) (403, [(0, .ref 0), (1, .int x1), (3, .int x3)], [], (hr th tx ds nw ou ps nd us re va nu)) (none, (hr res.1 tx res.2.1 nw ou ps res.2.2.1 us re va res.2.2.2)) := by
  intro n
  induction n with
  | zero => intro x3 th ds nd nu res h; unfold fn_M_order_403 at h; cases h
  | succ n ih =>
    intro x3 th ds nd nu res h
    unfold fn_M_order_403 at h
    obtain ⟨hc, h⟩ := am_ifn h
    refine am_Ev.guard (b := decide (0 ≤ (0 : Int32).toInt ∧ (0 : Int32).toInt < (4 : Int))) (s1 := (410, [(0, .ref 0), (1, .int x1), (3, .int x3)], [.int (ds.2.1 ((0 : Int32).toNatClampNeg)), .int x3], (hr th tx ds nw ou ps nd us re va nu))) 5 (fun _ => rfl) hc ?_
    refine am_Ev.fork (b := decide ((ds.2.1 ((0 : Int32).toNatClampNeg)) ≤ x3)) (s1 := (435, [(0, .ref 0), (1, .int x1), (3, .int x3)], [], (hr th tx ds nw ou ps nd us re va nu))) (s2 := (413, [(0, .ref 0), (1, .int x1), (3, .int x3)], [], (hr th tx ds nw ou ps nd us re va nu))) 1 (fun _ => rfl) (fun hc => ?_) (fun hc => ?_)
    · have h := (am_ift hc).symm.trans h
      refine am_Ev.same (st' := (435, [(0, .ref 0), (1, .int x1)], [], (hr th tx ds nw ou ps nd us re va nu))) (fun _ => rfl) ?_
      exact hκ _ _ _ _ _ h
    · have h := (am_iff hc).symm.trans h
      obtain ⟨hc, h⟩ := am_ifn h
      refine am_Ev.guard (b := decide (0 ≤ x3.toInt ∧ x3.toInt < (8 : Int))) (s1 := (425, [(0, .ref 0), (1, .int x1), (3, .int x3)], [.int (ds.2.2.1 x3.toNatClampNeg), .ref 0, .int x3, .ref 3], (hr th tx ds nw ou ps nd us re va nu))) 8 (fun _ => rfl) hc ?_
      obtain ⟨q1, hq, h⟩ := Option.bind_eq_some_iff.mp h
      refine am_Ev.call (o := am_run rPT rML (n0 + 1) 21 [.ref 0, .int (ds.2.2.1 x3.toNatClampNeg)] (hr th tx ds nw ou ps nd us re va nu)) (kk := fun q => (428, [(0, .ref 0), (1, .int x1), (3, .int x3)], q.1.toList ++ [.int x3, .ref 3], q.2)) (q := (some (.int q1), (hr th tx ds nw ou ps nd us re va nu))) 1 (fun _ => rfl) (ev_M_anew_v hq) ?_
      obtain ⟨hc, h⟩ := am_ifn h
      refine am_Ev.guard (b := decide (0 ≤ x3.toInt ∧ x3.toInt < (8 : Int))) (s1 := (429, [(0, .ref 0), (1, .int x1), (3, .int x3)], [], (hr th tx (ds.1, ds.2.1, upd ds.2.2.1 x3.toNatClampNeg q1, ds.2.2.2.1, ds.2.2.2.2.1, ds.2.2.2.2.2.1, ds.2.2.2.2.2.2.1, ds.2.2.2.2.2.2.2.1, ds.2.2.2.2.2.2.2.2.1, ds.2.2.2.2.2.2.2.2.2) nw ou ps nd us re va nu))) 1 (fun _ => rfl) hc ?_
      refine am_Ev.go 2 (st' := (403, [(0, .ref 0), (1, .int x1), (3, .int (x3 + 1))], [], (hr th tx (ds.1, ds.2.1, upd ds.2.2.1 x3.toNatClampNeg q1, ds.2.2.2.1, ds.2.2.2.2.1, ds.2.2.2.2.2.1, ds.2.2.2.2.2.2.1, ds.2.2.2.2.2.2.2.1, ds.2.2.2.2.2.2.2.2.1, ds.2.2.2.2.2.2.2.2.2) nw ou ps nd us re va nu))) (fun _ => rfl) ?_
      exact ih _ _ _ _ _ _ h
theorem ev_M_order_353_v {n0 : Nat} {tx : Mtx} {nw : Mnw} {ou : Mou} {ps : Mps} {us : Mus} {re : Mre} {va : Mva} {x1 : Int32} {κ : Mth → Mds → Mnd → Mnu → Option (Mth × Mds × Mnd × Mnu)} (hκ : ∀ (th : Mth) (ds : Mds) (nd : Mnd) (nu : Mnu) (res : Mth × Mds × Mnd × Mnu), κ th ds nd nu = some res → am_Ev (tb_M_order (am_run rPT rML (n0 + 1))) (401, [(0, .ref 0), (1, .int x1)], [], (hr th tx ds nw ou ps nd us re va nu)) (none, (hr res.1 tx res.2.1 nw ou ps res.2.2.1 us re va res.2.2.2))) : ∀ (n : Nat) (x3 : Int32) (th : Mth) (ds : Mds) (nd : Mnd) (nu : Mnu) (res : Mth × Mds × Mnd × Mnu), fn_M_order_353 x1 κ n x3 th ds nd nu = some res → am_Ev (tb_M_order (am_run rPT rML (n0 + 1))) (353, [(0, .ref 0), (1, .int x1), (3, .int x3)], [], (hr th tx ds nw ou ps nd us re va nu)) (none, (hr res.1 tx res.2.1 nw ou ps res.2.2.1 us re va res.2.2.2)) := by
  intro n
  induction n with
  | zero => intro x3 th ds nd nu res h; unfold fn_M_order_353 at h; cases h
  | succ n ih =>
    intro x3 th ds nd nu res h
    unfold fn_M_order_353 at h
    obtain ⟨hc, h⟩ := am_ifn h
    refine am_Ev.guard (b := decide (0 ≤ (1 : Int32).toInt ∧ (1 : Int32).toInt < (4 : Int))) (s1 := (360, [(0, .ref 0), (1, .int x1), (3, .int x3)], [.int (ds.2.1 ((1 : Int32).toNatClampNeg)), .int x3], (hr th tx ds nw ou ps nd us re va nu))) 5 (fun _ => rfl) hc ?_
    refine am_Ev.fork (b := decide ((ds.2.1 ((1 : Int32).toNatClampNeg)) ≤ x3)) (s1 := (401, [(0, .ref 0), (1, .int x1), (3, .int x3)], [], (hr th tx ds nw ou ps nd us re va nu))) (s2 := (363, [(0, .ref 0), (1, .int x1), (3, .int x3)], [], (hr th tx ds nw ou ps nd us re va nu))) 1 (fun _ => rfl) (fun hc => ?_) (fun hc => ?_)
    · have h := (am_ift hc).symm.trans h
      refine am_Ev.same (st' := (401, [(0, .ref 0), (1, .int x1)], [], (hr th tx ds nw ou ps nd us re va nu))) (fun _ => rfl) ?_
      exact hκ _ _ _ _ _ h
    · have h := (am_iff hc).symm.trans h
      obtain ⟨hc, h⟩ := am_ifn h
      refine am_Ev.guard (b := decide (0 ≤ x3.toInt ∧ x3.toInt < (8 : Int))) (s1 := (375, [(0, .ref 0), (1, .int x1), (3, .int x3)], [.int (ds.2.2.2.2.1 x3.toNatClampNeg), .ref 0, .int x3, .ref 5], (hr th tx ds nw ou ps nd us re va nu))) 8 (fun _ => rfl) hc ?_
      obtain ⟨q2, hq, h⟩ := Option.bind_eq_some_iff.mp h
      refine am_Ev.call (o := am_run rPT rML (n0 + 1) 21 [.ref 0, .int (ds.2.2.2.2.1 x3.toNatClampNeg)] (hr th tx ds nw ou ps nd us re va nu)) (kk := fun q => (378, [(0, .ref 0), (1, .int x1), (3, .int x3)], q.1.toList ++ [.int x3, .ref 5], q.2)) (q := (some (.int q2), (hr th tx ds nw ou ps nd us re va nu))) 1 (fun _ => rfl) (ev_M_anew_v hq) ?_
      obtain ⟨hc, h⟩ := am_ifn h
      refine am_Ev.guard (b := decide (0 ≤ x3.toInt ∧ x3.toInt < (8 : Int))) (s1 := (379, [(0, .ref 0), (1, .int x1), (3, .int x3)], [], (hr th tx (ds.1, ds.2.1, ds.2.2.1, ds.2.2.2.1, upd ds.2.2.2.2.1 x3.toNatClampNeg q2, ds.2.2.2.2.2.1, ds.2.2.2.2.2.2.1, ds.2.2.2.2.2.2.2.1, ds.2.2.2.2.2.2.2.2.1, ds.2.2.2.2.2.2.2.2.2) nw ou ps nd us re va nu))) 1 (fun _ => rfl) hc ?_
      obtain ⟨hc, h⟩ := am_ifn h
      refine am_Ev.guard (b := decide (0 ≤ x3.toInt ∧ x3.toInt < (8 : Int))) (s1 := (391, [(0, .ref 0), (1, .int x1), (3, .int x3)], [.int (ds.2.2.2.1 x3.toNatClampNeg), .ref 0, .int x3, .ref 4], (hr th tx (ds.1, ds.2.1, ds.2.2.1, ds.2.2.2.1, upd ds.2.2.2.2.1 x3.toNatClampNeg q2, ds.2.2.2.2.2.1, ds.2.2.2.2.2.2.1, ds.2.2.2.2.2.2.2.1, ds.2.2.2.2.2.2.2.2.1, ds.2.2.2.2.2.2.2.2.2) nw ou ps nd us re va nu))) 8 (fun _ => rfl) hc ?_
      obtain ⟨q3, hq, h⟩ := Option.bind_eq_some_iff.mp h
      refine am_Ev.call (o := am_run rPT rML (n0 + 1) 21 [.ref 0, .int (ds.2.2.2.1 x3.toNatClampNeg)] (hr th tx (ds.1, ds.2.1, ds.2.2.1, ds.2.2.2.1, upd ds.2.2.2.2.1 x3.toNatClampNeg q2, ds.2.2.2.2.2.1, ds.2.2.2.2.2.2.1, ds.2.2.2.2.2.2.2.1, ds.2.2.2.2.2.2.2.2.1, ds.2.2.2.2.2.2.2.2.2) nw ou ps nd us re va nu)) (kk := fun q => (394, [(0, .ref 0), (1, .int x1), (3, .int x3)], q.1.toList ++ [.int x3, .ref 4], q.2)) (q := (some (.int q3), (hr th tx (ds.1, ds.2.1, ds.2.2.1, ds.2.2.2.1, upd ds.2.2.2.2.1 x3.toNatClampNeg q2, ds.2.2.2.2.2.1, ds.2.2.2.2.2.2.1, ds.2.2.2.2.2.2.2.1, ds.2.2.2.2.2.2.2.2.1, ds.2.2.2.2.2.2.2.2.2) nw ou ps nd us re va nu))) 1 (fun _ => rfl) (ev_M_anew_v hq) ?_
      obtain ⟨hc, h⟩ := am_ifn h
      refine am_Ev.guard (b := decide (0 ≤ x3.toInt ∧ x3.toInt < (8 : Int))) (s1 := (395, [(0, .ref 0), (1, .int x1), (3, .int x3)], [], (hr th tx (ds.1, ds.2.1, ds.2.2.1, upd ds.2.2.2.1 x3.toNatClampNeg q3, upd ds.2.2.2.2.1 x3.toNatClampNeg q2, ds.2.2.2.2.2.1, ds.2.2.2.2.2.2.1, ds.2.2.2.2.2.2.2.1, ds.2.2.2.2.2.2.2.2.1, ds.2.2.2.2.2.2.2.2.2) nw ou ps nd us re va nu))) 1 (fun _ => rfl) hc ?_
      refine am_Ev.go 2 (st' := (353, [(0, .ref 0), (1, .int x1), (3, .int (x3 + 1))], [], (hr th tx (ds.1, ds.2.1, ds.2.2.1, upd ds.2.2.2.1 x3.toNatClampNeg q3, upd ds.2.2.2.2.1 x3.toNatClampNeg q2, ds.2.2.2.2.2.1, ds.2.2.2.2.2.2.1, ds.2.2.2.2.2.2.2.1, ds.2.2.2.2.2.2.2.2.1, ds.2.2.2.2.2.2.2.2.2) nw ou ps nd us re va nu))) (fun _ => rfl) ?_
      exact ih _ _ _ _ _ _ h
theorem ev_M_order_319_v {n0 : Nat} {tx : Mtx} {nw : Mnw} {ou : Mou} {ps : Mps} {us : Mus} {re : Mre} {va : Mva} {x1 : Int32} {κ : Mth → Mds → Mnd → Mnu → Option (Mth × Mds × Mnd × Mnu)} (hκ : ∀ (th : Mth) (ds : Mds) (nd : Mnd) (nu : Mnu) (res : Mth × Mds × Mnd × Mnu), κ th ds nd nu = some res → am_Ev (tb_M_order (am_run rPT rML (n0 + 1))) (351, [(0, .ref 0), (1, .int x1)], [], (hr th tx ds nw ou ps nd us re va nu)) (none, (hr res.1 tx res.2.1 nw ou ps res.2.2.1 us re va res.2.2.2))) : ∀ (n : Nat) (x3 : Int32) (th : Mth) (ds : Mds) (nd : Mnd) (nu : Mnu) (res : Mth × Mds × Mnd × Mnu), fn_M_order_319 x1 κ n x3 th ds nd nu = some res → am_Ev (tb_M_order (am_run rPT rML (n0 + 1))) (319, [(0, .ref 0), (1, .int x1), (3, .int x3)], [], (hr th tx ds nw ou ps nd us re va nu)) (none, (hr res.1 tx res.2.1 nw ou ps res.2.2.1 us re va res.2.2.2)) := by
  intro n
  induction n with
  | zero => intro x3 th ds nd nu res h; unfold fn_M_order_319 at h; cases h
  | succ n ih =>
    intro x3 th ds nd nu res h
    unfold fn_M_order_319 at h
    obtain ⟨hc, h⟩ := am_ifn h
    refine am_Ev.guard (b := decide (0 ≤ (2 : Int32).toInt ∧ (2 : Int32).toInt < (4 : Int))) (s1 := (326, [(0, .ref 0), (1, .int x1), (3, .int x3)], [.int (ds.2.1 ((2 : Int32).toNatClampNeg)), .int x3], (hr th tx ds nw ou ps nd us re va nu))) 5 (fun _ => rfl) hc ?_
    refine am_Ev.fork (b := decide ((ds.2.1 ((2 : Int32).toNatClampNeg)) ≤ x3)) (s1 := (351, [(0, .ref 0), (1, .int x1), (3, .int x3)], [], (hr th tx ds nw ou ps nd us re va nu))) (s2 := (329, [(0, .ref 0), (1, .int x1), (3, .int x3)], [], (hr th tx ds nw ou ps nd us re va nu))) 1 (fun _ => rfl) (fun hc => ?_) (fun hc => ?_)
    · have h := (am_ift hc).symm.trans h
      refine am_Ev.same (st' := (351, [(0, .ref 0), (1, .int x1)], [], (hr th tx ds nw ou ps nd us re va nu))) (fun _ => rfl) ?_
      exact hκ _ _ _ _ _ h
    · have h := (am_iff hc).symm.trans h
      obtain ⟨hc, h⟩ := am_ifn h
      refine am_Ev.guard (b := decide (0 ≤ x3.toInt ∧ x3.toInt < (8 : Int))) (s1 := (341, [(0, .ref 0), (1, .int x1), (3, .int x3)], [.int (ds.2.2.2.2.2.2.1 x3.toNatClampNeg), .ref 0, .int x3, .ref 7], (hr th tx ds nw ou ps nd us re va nu))) 8 (fun _ => rfl) hc ?_
      obtain ⟨q4, hq, h⟩ := Option.bind_eq_some_iff.mp h
      refine am_Ev.call (o := am_run rPT rML (n0 + 1) 21 [.ref 0, .int (ds.2.2.2.2.2.2.1 x3.toNatClampNeg)] (hr th tx ds nw ou ps nd us re va nu)) (kk := fun q => (344, [(0, .ref 0), (1, .int x1), (3, .int x3)], q.1.toList ++ [.int x3, .ref 7], q.2)) (q := (some (.int q4), (hr th tx ds nw ou ps nd us re va nu))) 1 (fun _ => rfl) (ev_M_anew_v hq) ?_
      obtain ⟨hc, h⟩ := am_ifn h
      refine am_Ev.guard (b := decide (0 ≤ x3.toInt ∧ x3.toInt < (8 : Int))) (s1 := (345, [(0, .ref 0), (1, .int x1), (3, .int x3)], [], (hr th tx (ds.1, ds.2.1, ds.2.2.1, ds.2.2.2.1, ds.2.2.2.2.1, ds.2.2.2.2.2.1, upd ds.2.2.2.2.2.2.1 x3.toNatClampNeg q4, ds.2.2.2.2.2.2.2.1, ds.2.2.2.2.2.2.2.2.1, ds.2.2.2.2.2.2.2.2.2) nw ou ps nd us re va nu))) 1 (fun _ => rfl) hc ?_
      refine am_Ev.go 2 (st' := (319, [(0, .ref 0), (1, .int x1), (3, .int (x3 + 1))], [], (hr th tx (ds.1, ds.2.1, ds.2.2.1, ds.2.2.2.1, ds.2.2.2.2.1, ds.2.2.2.2.2.1, upd ds.2.2.2.2.2.2.1 x3.toNatClampNeg q4, ds.2.2.2.2.2.2.2.1, ds.2.2.2.2.2.2.2.2.1, ds.2.2.2.2.2.2.2.2.2) nw ou ps nd us re va nu))) (fun _ => rfl) ?_
      exact ih _ _ _ _ _ _ h
theorem ev_M_order_265_v {n0 : Nat} {tx : Mtx} {nw : Mnw} {ou : Mou} {ps : Mps} {us : Mus} {re : Mre} {va : Mva} {x1 : Int32} {κ : Mth → Mds → Mnd → Mnu → Option (Mth × Mds × Mnd × Mnu)} (hκ : ∀ (th : Mth) (ds : Mds) (nd : Mnd) (nu : Mnu) (res : Mth × Mds × Mnd × Mnu), κ th ds nd nu = some res → am_Ev (tb_M_order (am_run rPT rML (n0 + 1))) (317, [(0, .ref 0), (1, .int x1)], [], (hr th tx ds nw ou ps nd us re va nu)) (none, (hr res.1 tx res.2.1 nw ou ps res.2.2.1 us re va res.2.2.2))) : ∀ (n : Nat) (x3 : Int32) (th : Mth) (ds : Mds) (nd : Mnd) (nu : Mnu) (res : Mth × Mds × Mnd × Mnu), fn_M_order_265 x1 κ n x3 th ds nd nu = some res → am_Ev (tb_M_order (am_run rPT rML (n0 + 1))) (265, [(0, .ref 0), (1, .int x1), (3, .int x3)], [], (hr th tx ds nw ou ps nd us re va nu)) (none, (hr res.1 tx res.2.1 nw ou ps res.2.2.1 us re va res.2.2.2)) := by
  intro n
  induction n with
  | zero => intro x3 th ds nd nu res h; unfold fn_M_order_265 at h; cases h
  | succ n ih =>
    intro x3 th ds nd nu res h
    unfold fn_M_order_265 at h
    obtain ⟨hc, h⟩ := am_ifn h
    refine am_Ev.guard (b := decide (0 ≤ (3 : Int32).toInt ∧ (3 : Int32).toInt < (4 : Int))) (s1 := (272, [(0, .ref 0), (1, .int x1), (3, .int x3)], [.int (ds.2.1 ((3 : Int32).toNatClampNeg)), .int x3], (hr th tx ds nw ou ps nd us re va nu))) 5 (fun _ => rfl) hc ?_
    refine am_Ev.fork (b := decide ((ds.2.1 ((3 : Int32).toNatClampNeg)) ≤ x3)) (s1 := (317, [(0, .ref 0), (1, .int x1), (3, .int x3)], [], (hr th tx ds nw ou ps nd us re va nu))) (s2 := (275, [(0, .ref 0), (1, .int x1), (3, .int x3)], [], (hr th tx ds nw ou ps nd us re va nu))) 1 (fun _ => rfl) (fun hc => ?_) (fun hc => ?_)
    · have h := (am_ift hc).symm.trans h
      refine am_Ev.same (st' := (317, [(0, .ref 0), (1, .int x1)], [], (hr th tx ds nw ou ps nd us re va nu))) (fun _ => rfl) ?_
      exact hκ _ _ _ _ _ h
    · have h := (am_iff hc).symm.trans h
      obtain ⟨hc, h⟩ := am_ifn h
      refine am_Ev.guard (b := decide (0 ≤ x3.toInt ∧ x3.toInt < (60 : Int))) (s1 := (286, [(0, .ref 0), (1, .int x1), (3, .int x3)], [.int (nd.2.2.2.2.2.2.2.1 x3.toNatClampNeg), .int x3, .ref 8], (hr th tx ds nw ou ps nd us re va nu))) 7 (fun _ => rfl) hc ?_
      obtain ⟨hc, h⟩ := am_ifn h
      refine am_Ev.guard (b := decide (0 ≤ x3.toInt ∧ x3.toInt < (60 : Int))) (s1 := (287, [(0, .ref 0), (1, .int x1), (3, .int x3)], [], (hr th tx (ds.1, ds.2.1, ds.2.2.1, ds.2.2.2.1, ds.2.2.2.2.1, ds.2.2.2.2.2.1, ds.2.2.2.2.2.2.1, upd ds.2.2.2.2.2.2.2.1 x3.toNatClampNeg ((nd.2.2.2.2.2.2.2.1 x3.toNatClampNeg)), ds.2.2.2.2.2.2.2.2.1, ds.2.2.2.2.2.2.2.2.2) nw ou ps nd us re va nu))) 1 (fun _ => rfl) hc ?_
      obtain ⟨hc, h⟩ := am_ifn h
      refine am_Ev.guard (b := decide (0 ≤ x3.toInt ∧ x3.toInt < (60 : Int))) (s1 := (298, [(0, .ref 0), (1, .int x1), (3, .int x3)], [.int (nd.2.2.2.2.2.2.2.2.1 x3.toNatClampNeg), .int x3, .ref 9], (hr th tx (ds.1, ds.2.1, ds.2.2.1, ds.2.2.2.1, ds.2.2.2.2.1, ds.2.2.2.2.2.1, ds.2.2.2.2.2.2.1, upd ds.2.2.2.2.2.2.2.1 x3.toNatClampNeg ((nd.2.2.2.2.2.2.2.1 x3.toNatClampNeg)), ds.2.2.2.2.2.2.2.2.1, ds.2.2.2.2.2.2.2.2.2) nw ou ps nd us re va nu))) 7 (fun _ => rfl) hc ?_
      obtain ⟨hc, h⟩ := am_ifn h
      refine am_Ev.guard (b := decide (0 ≤ x3.toInt ∧ x3.toInt < (60 : Int))) (s1 := (299, [(0, .ref 0), (1, .int x1), (3, .int x3)], [], (hr th tx (ds.1, ds.2.1, ds.2.2.1, ds.2.2.2.1, ds.2.2.2.2.1, ds.2.2.2.2.2.1, ds.2.2.2.2.2.2.1, upd ds.2.2.2.2.2.2.2.1 x3.toNatClampNeg ((nd.2.2.2.2.2.2.2.1 x3.toNatClampNeg)), upd ds.2.2.2.2.2.2.2.2.1 x3.toNatClampNeg ((nd.2.2.2.2.2.2.2.2.1 x3.toNatClampNeg)), ds.2.2.2.2.2.2.2.2.2) nw ou ps nd us re va nu))) 1 (fun _ => rfl) hc ?_
      obtain ⟨hc, h⟩ := am_ifn h
      refine am_Ev.guard (b := decide (0 ≤ x3.toInt ∧ x3.toInt < (60 : Int))) (s1 := (310, [(0, .ref 0), (1, .int x1), (3, .int x3)], [.int (nd.2.2.2.2.2.2.2.2.2 x3.toNatClampNeg), .int x3, .ref 10], (hr th tx (ds.1, ds.2.1, ds.2.2.1, ds.2.2.2.1, ds.2.2.2.2.1, ds.2.2.2.2.2.1, ds.2.2.2.2.2.2.1, upd ds.2.2.2.2.2.2.2.1 x3.toNatClampNeg ((nd.2.2.2.2.2.2.2.1 x3.toNatClampNeg)), upd ds.2.2.2.2.2.2.2.2.1 x3.toNatClampNeg ((nd.2.2.2.2.2.2.2.2.1 x3.toNatClampNeg)), ds.2.2.2.2.2.2.2.2.2) nw ou ps nd us re va nu))) 7 (fun _ => rfl) hc ?_
      obtain ⟨hc, h⟩ := am_ifn h
      refine am_Ev.guard (b := decide (0 ≤ x3.toInt ∧ x3.toInt < (60 : Int))) (s1 := (311, [(0, .ref 0), (1, .int x1), (3, .int x3)], [], (hr th tx (ds.1, ds.2.1, ds.2.2.1, ds.2.2.2.1, ds.2.2.2.2.1, ds.2.2.2.2.2.1, ds.2.2.2.2.2.2.1, upd ds.2.2.2.2.2.2.2.1 x3.toNatClampNeg ((nd.2.2.2.2.2.2.2.1 x3.toNatClampNeg)), upd ds.2.2.2.2.2.2.2.2.1 x3.toNatClampNeg ((nd.2.2.2.2.2.2.2.2.1 x3.toNatClampNeg)), upd ds.2.2.2.2.2.2.2.2.2 x3.toNatClampNeg ((nd.2.2.2.2.2.2.2.2.2 x3.toNatClampNeg))) nw ou ps nd us re va nu))) 1 (fun _ => rfl) hc ?_
      refine am_Ev.go 2 (st' := (265, [(0, .ref 0), (1, .int x1), (3, .int (x3 + 1))], [], (hr th tx (ds.1, ds.2.1, ds.2.2.1, ds.2.2.2.1, ds.2.2.2.2.1, ds.2.2.2.2.2.1, ds.2.2.2.2.2.2.1, upd ds.2.2.2.2.2.2.2.1 x3.toNatClampNeg ((nd.2.2.2.2.2.2.2.1 x3.toNatClampNeg)), upd ds.2.2.2.2.2.2.2.2.1 x3.toNatClampNeg ((nd.2.2.2.2.2.2.2.2.1 x3.toNatClampNeg)), upd ds.2.2.2.2.2.2.2.2.2 x3.toNatClampNeg ((nd.2.2.2.2.2.2.2.2.2 x3.toNatClampNeg))) nw ou ps nd us re va nu))) (fun _ => rfl) ?_
      exact ih _ _ _ _ _ _ h
theorem ev_M_order_162_v {n0 : Nat} {tx : Mtx} {nw : Mnw} {ou : Mou} {ps : Mps} {us : Mus} {re : Mre} {va : Mva} {x1 : Int32} {x2 : Int32} {κ : Mth → Mds → Mnd → Mnu → Option (Mth × Mds × Mnd × Mnu)} (hκ : ∀ (th : Mth) (ds : Mds) (nd : Mnd) (nu : Mnu) (res : Mth × Mds × Mnd × Mnu), κ th ds nd nu = some res → am_Ev (tb_M_order (am_run rPT rML (n0 + 1))) (263, [(0, .ref 0), (1, .int x1)], [], (hr th tx ds nw ou ps nd us re va nu)) (none, (hr res.1 tx res.2.1 nw ou ps res.2.2.1 us re va res.2.2.2))) : ∀ (n : Nat) (x3 : Int32) (th : Mth) (ds : Mds) (nd : Mnd) (nu : Mnu) (res : Mth × Mds × Mnd × Mnu), fn_M_order_162 x1 x2 κ n x3 th ds nd nu = some res → am_Ev (tb_M_order (am_run rPT rML (n0 + 1))) (162, [(0, .ref 0), (1, .int x1), (2, .int x2), (3, .int x3)], [], (hr th tx ds nw ou ps nd us re va nu)) (none, (hr res.1 tx res.2.1 nw ou ps res.2.2.1 us re va res.2.2.2)) := by
  intro n
  induction n with
  | zero => intro x3 th ds nd nu res h; unfold fn_M_order_162 at h; cases h
  | succ n ih =>
    intro x3 th ds nd nu res h
    unfold fn_M_order_162 at h
    obtain ⟨hc, h⟩ := am_ifn h
    refine am_Ev.guard (b := decide (0 ≤ (3 : Int32).toInt ∧ (3 : Int32).toInt < (4 : Int))) (s1 := (169, [(0, .ref 0), (1, .int x1), (2, .int x2), (3, .int x3)], [.int (ds.2.1 ((3 : Int32).toNatClampNeg)), .int x3], (hr th tx ds nw ou ps nd us re va nu))) 5 (fun _ => rfl) hc ?_
    refine am_Ev.fork (b := decide ((ds.2.1 ((3 : Int32).toNatClampNeg)) ≤ x3)) (s1 := (263, [(0, .ref 0), (1, .int x1), (2, .int x2), (3, .int x3)], [], (hr th tx ds nw ou ps nd us re va nu))) (s2 := (172, [(0, .ref 0), (1, .int x1), (2, .int x2), (3, .int x3)], [], (hr th tx ds nw ou ps nd us re va nu))) 1 (fun _ => rfl) (fun hc => ?_) (fun hc => ?_)
    · have h := (am_ift hc).symm.trans h
      refine am_Ev.same (st' := (263, [(0, .ref 0), (1, .int x1)], [], (hr th tx ds nw ou ps nd us re va nu))) (fun _ => rfl) ?_
      exact hκ _ _ _ _ _ h
    · have h := (am_iff hc).symm.trans h
      obtain ⟨hc, h⟩ := am_ifn h
      refine am_Ev.guard (b := decide (0 ≤ x3.toInt ∧ x3.toInt < (60 : Int))) (s1 := (183, [(0, .ref 0), (1, .int x1), (2, .int x2), (3, .int x3)], [.int (nu.2 x3.toNatClampNeg), .ref 9, .ref 0], (hr th tx ds nw ou ps nd us re va nu))) 7 (fun _ => rfl) hc ?_
      obtain ⟨hc, h⟩ := am_ifn h
      refine am_Ev.guard (b := decide (0 ≤ (nu.2 x3.toNatClampNeg).toInt ∧ (nu.2 x3.toNatClampNeg).toInt < (60 : Int))) (s1 := (184, [(0, .ref 0), (1, .int x1), (2, .int x2), (3, .int x3)], [.int (ds.2.2.2.2.2.2.2.2.1 ((nu.2 x3.toNatClampNeg).toNatClampNeg)), .ref 0], (hr th tx ds nw ou ps nd us re va nu))) 1 (fun _ => rfl) hc ?_
      obtain ⟨q5, hq, h⟩ := Option.bind_eq_some_iff.mp h
      refine am_Ev.call (o := am_run rPT rML (n0 + 1) 21 [.ref 0, .int (ds.2.2.2.2.2.2.2.2.1 ((nu.2 x3.toNatClampNeg).toNatClampNeg))] (hr th tx ds nw ou ps nd us re va nu)) (kk := fun q => (187, [(0, .ref 0), (1, .int x1), (2, .int x2), (3, .int x3)], q.1.toList ++ [], q.2)) (q := (some (.int q5), (hr th tx ds nw ou ps nd us re va nu))) 1 (fun _ => rfl) (ev_M_anew_v hq) ?_
      obtain ⟨hc, h⟩ := am_ifn h
      refine am_Ev.guard (b := decide (0 ≤ x3.toInt ∧ x3.toInt < (60 : Int))) (s1 := (200, [(0, .ref 0), (1, .int x1), (2, .int x2), (3, .int x3), (4, .int q5)], [.int (nu.2 x3.toNatClampNeg), .ref 10, .ref 0], (hr th tx ds nw ou ps nd us re va nu))) 8 (fun _ => rfl) hc ?_
      obtain ⟨hc, h⟩ := am_ifn h
      refine am_Ev.guard (b := decide (0 ≤ (nu.2 x3.toNatClampNeg).toInt ∧ (nu.2 x3.toNatClampNeg).toInt < (60 : Int))) (s1 := (201, [(0, .ref 0), (1, .int x1), (2, .int x2), (3, .int x3), (4, .int q5)], [.int (ds.2.2.2.2.2.2.2.2.2 ((nu.2 x3.toNatClampNeg).toNatClampNeg)), .ref 0], (hr th tx ds nw ou ps nd us re va nu))) 1 (fun _ => rfl) hc ?_
      obtain ⟨q6, hq, h⟩ := Option.bind_eq_some_iff.mp h
      refine am_Ev.call (o := am_run rPT rML (n0 + 1) 21 [.ref 0, .int (ds.2.2.2.2.2.2.2.2.2 ((nu.2 x3.toNatClampNeg).toNatClampNeg))] (hr th tx ds nw ou ps nd us re va nu)) (kk := fun q => (204, [(0, .ref 0), (1, .int x1), (2, .int x2), (3, .int x3), (4, .int q5)], q.1.toList ++ [], q.2)) (q := (some (.int q6), (hr th tx ds nw ou ps nd us re va nu))) 1 (fun _ => rfl) (ev_M_anew_v hq) ?_
      obtain ⟨hc, h⟩ := am_ifn h
      refine am_Ev.guard (b := decide (0 ≤ x3.toInt ∧ x3.toInt < (60 : Int))) (s1 := (217, [(0, .ref 0), (1, .int x1), (2, .int x2), (3, .int x3), (4, .int q5), (5, .int q6)], [], (hr th tx ds nw ou ps (nd.1, nd.2.1, nd.2.2.1, nd.2.2.2.1, nd.2.2.2.2.1, nd.2.2.2.2.2.1, nd.2.2.2.2.2.2.1, upd nd.2.2.2.2.2.2.2.1 x3.toNatClampNeg (((2 : Int32) * (x2 + x3))), nd.2.2.2.2.2.2.2.2.1, nd.2.2.2.2.2.2.2.2.2) us re va nu))) 10 (fun _ => rfl) hc ?_
      refine am_Ev.fork (b := decide (q5 ≤ q6)) (s1 := (234, [(0, .ref 0), (1, .int x1), (2, .int x2), (3, .int x3), (4, .int q5), (5, .int q6)], [.int x3, .ref 20], (hr th tx ds nw ou ps (nd.1, nd.2.1, nd.2.2.1, nd.2.2.2.1, nd.2.2.2.2.1, nd.2.2.2.2.2.1, nd.2.2.2.2.2.2.1, upd nd.2.2.2.2.2.2.2.1 x3.toNatClampNeg (((2 : Int32) * (x2 + x3))), nd.2.2.2.2.2.2.2.2.1, nd.2.2.2.2.2.2.2.2.2) us re va nu))) (s2 := (229, [(0, .ref 0), (1, .int x1), (2, .int x2), (3, .int x3), (4, .int q5), (5, .int q6)], [.int x3, .ref 20], (hr th tx ds nw ou ps (nd.1, nd.2.1, nd.2.2.1, nd.2.2.2.1, nd.2.2.2.2.1, nd.2.2.2.2.2.1, nd.2.2.2.2.2.2.1, upd nd.2.2.2.2.2.2.2.1 x3.toNatClampNeg (((2 : Int32) * (x2 + x3))), nd.2.2.2.2.2.2.2.2.1, nd.2.2.2.2.2.2.2.2.2) us re va nu))) 6 (fun _ => rfl) (fun hc => ?_) (fun hc => ?_)
      · have h := (am_ift hc).symm.trans h
        obtain ⟨hc, h⟩ := am_ifn h
        refine am_Ev.guard (b := decide (0 ≤ x3.toInt ∧ x3.toInt < (60 : Int))) (s1 := (237, [(0, .ref 0), (1, .int x1), (2, .int x2), (3, .int x3), (4, .int q5), (5, .int q6)], [], (hr th tx ds nw ou ps (nd.1, nd.2.1, nd.2.2.1, nd.2.2.2.1, nd.2.2.2.2.1, nd.2.2.2.2.2.1, nd.2.2.2.2.2.2.1, upd nd.2.2.2.2.2.2.2.1 x3.toNatClampNeg (((2 : Int32) * (x2 + x3))), upd nd.2.2.2.2.2.2.2.2.1 x3.toNatClampNeg q6, nd.2.2.2.2.2.2.2.2.2) us re va nu))) 2 (fun _ => rfl) hc ?_
        refine am_Ev.fork (b := decide (q5 ≤ q6)) (s1 := (254, [(0, .ref 0), (1, .int x1), (2, .int x2), (3, .int x3), (4, .int q5), (5, .int q6)], [.int x3, .ref 21], (hr th tx ds nw ou ps (nd.1, nd.2.1, nd.2.2.1, nd.2.2.2.1, nd.2.2.2.2.1, nd.2.2.2.2.2.1, nd.2.2.2.2.2.2.1, upd nd.2.2.2.2.2.2.2.1 x3.toNatClampNeg (((2 : Int32) * (x2 + x3))), upd nd.2.2.2.2.2.2.2.2.1 x3.toNatClampNeg q6, nd.2.2.2.2.2.2.2.2.2) us re va nu))) (s2 := (249, [(0, .ref 0), (1, .int x1), (2, .int x2), (3, .int x3), (4, .int q5), (5, .int q6)], [.int x3, .ref 21], (hr th tx ds nw ou ps (nd.1, nd.2.1, nd.2.2.1, nd.2.2.2.1, nd.2.2.2.2.1, nd.2.2.2.2.2.1, nd.2.2.2.2.2.2.1, upd nd.2.2.2.2.2.2.2.1 x3.toNatClampNeg (((2 : Int32) * (x2 + x3))), upd nd.2.2.2.2.2.2.2.2.1 x3.toNatClampNeg q6, nd.2.2.2.2.2.2.2.2.2) us re va nu))) 6 (fun _ => rfl) (fun hc => ?_) (fun hc => ?_)
        · have h := (am_ift hc).symm.trans h
          obtain ⟨hc, h⟩ := am_ifn h
          refine am_Ev.guard (b := decide (0 ≤ x3.toInt ∧ x3.toInt < (60 : Int))) (s1 := (257, [(0, .ref 0), (1, .int x1), (2, .int x2), (3, .int x3), (4, .int q5), (5, .int q6)], [], (hr th tx ds nw ou ps (nd.1, nd.2.1, nd.2.2.1, nd.2.2.2.1, nd.2.2.2.2.1, nd.2.2.2.2.2.1, nd.2.2.2.2.2.2.1, upd nd.2.2.2.2.2.2.2.1 x3.toNatClampNeg (((2 : Int32) * (x2 + x3))), upd nd.2.2.2.2.2.2.2.2.1 x3.toNatClampNeg q6, upd nd.2.2.2.2.2.2.2.2.2 x3.toNatClampNeg q5) us re va nu))) 2 (fun _ => rfl) hc ?_
          refine am_Ev.go 2 (st' := (162, [(0, .ref 0), (1, .int x1), (2, .int x2), (3, .int (x3 + 1)), (4, .int q5), (5, .int q6)], [], (hr th tx ds nw ou ps (nd.1, nd.2.1, nd.2.2.1, nd.2.2.2.1, nd.2.2.2.2.1, nd.2.2.2.2.2.1, nd.2.2.2.2.2.2.1, upd nd.2.2.2.2.2.2.2.1 x3.toNatClampNeg (((2 : Int32) * (x2 + x3))), upd nd.2.2.2.2.2.2.2.2.1 x3.toNatClampNeg q6, upd nd.2.2.2.2.2.2.2.2.2 x3.toNatClampNeg q5) us re va nu))) (fun _ => rfl) ?_
          refine am_Ev.same (st' := (162, [(0, .ref 0), (1, .int x1), (2, .int x2), (3, .int (x3 + 1))], [], (hr th tx ds nw ou ps (nd.1, nd.2.1, nd.2.2.1, nd.2.2.2.1, nd.2.2.2.2.1, nd.2.2.2.2.2.1, nd.2.2.2.2.2.2.1, upd nd.2.2.2.2.2.2.2.1 x3.toNatClampNeg (((2 : Int32) * (x2 + x3))), upd nd.2.2.2.2.2.2.2.2.1 x3.toNatClampNeg q6, upd nd.2.2.2.2.2.2.2.2.2 x3.toNatClampNeg q5) us re va nu))) (fun _ => rfl) ?_
          exact ih _ _ _ _ _ _ h
        · have h := (am_iff hc).symm.trans h
          obtain ⟨hc, h⟩ := am_ifn h
          refine am_Ev.guard (b := decide (0 ≤ x3.toInt ∧ x3.toInt < (60 : Int))) (s1 := (257, [(0, .ref 0), (1, .int x1), (2, .int x2), (3, .int x3), (4, .int q5), (5, .int q6)], [], (hr th tx ds nw ou ps (nd.1, nd.2.1, nd.2.2.1, nd.2.2.2.1, nd.2.2.2.2.1, nd.2.2.2.2.2.1, nd.2.2.2.2.2.2.1, upd nd.2.2.2.2.2.2.2.1 x3.toNatClampNeg (((2 : Int32) * (x2 + x3))), upd nd.2.2.2.2.2.2.2.2.1 x3.toNatClampNeg q6, upd nd.2.2.2.2.2.2.2.2.2 x3.toNatClampNeg q6) us re va nu))) 3 (fun _ => rfl) hc ?_
          refine am_Ev.go 2 (st' := (162, [(0, .ref 0), (1, .int x1), (2, .int x2), (3, .int (x3 + 1)), (4, .int q5), (5, .int q6)], [], (hr th tx ds nw ou ps (nd.1, nd.2.1, nd.2.2.1, nd.2.2.2.1, nd.2.2.2.2.1, nd.2.2.2.2.2.1, nd.2.2.2.2.2.2.1, upd nd.2.2.2.2.2.2.2.1 x3.toNatClampNeg (((2 : Int32) * (x2 + x3))), upd nd.2.2.2.2.2.2.2.2.1 x3.toNatClampNeg q6, upd nd.2.2.2.2.2.2.2.2.2 x3.toNatClampNeg q6) us re va nu))) (fun _ => rfl) ?_
          refine am_Ev.same (st' := (162, [(0, .ref 0), (1, .int x1), (2, .int x2), (3, .int (x3 + 1))], [], (hr th tx ds nw ou ps (nd.1, nd.2.1, nd.2.2.1, nd.2.2.2.1, nd.2.2.2.2.1, nd.2.2.2.2.2.1, nd.2.2.2.2.2.2.1, upd nd.2.2.2.2.2.2.2.1 x3.toNatClampNeg (((2 : Int32) * (x2 + x3))), upd nd.2.2.2.2.2.2.2.2.1 x3.toNatClampNeg q6, upd nd.2.2.2.2.2.2.2.2.2 x3.toNatClampNeg q6) us re va nu))) (fun _ => rfl) ?_
          exact ih _ _ _ _ _ _ h
      · have h := (am_iff hc).symm.trans h
        obtain ⟨hc, h⟩ := am_ifn h
        refine am_Ev.guard (b := decide (0 ≤ x3.toInt ∧ x3.toInt < (60 : Int))) (s1 := (237, [(0, .ref 0), (1, .int x1), (2, .int x2), (3, .int x3), (4, .int q5), (5, .int q6)], [], (hr th tx ds nw ou ps (nd.1, nd.2.1, nd.2.2.1, nd.2.2.2.1, nd.2.2.2.2.1, nd.2.2.2.2.2.1, nd.2.2.2.2.2.2.1, upd nd.2.2.2.2.2.2.2.1 x3.toNatClampNeg (((2 : Int32) * (x2 + x3))), upd nd.2.2.2.2.2.2.2.2.1 x3.toNatClampNeg q5, nd.2.2.2.2.2.2.2.2.2) us re va nu))) 3 (fun _ => rfl) hc ?_
        refine am_Ev.fork (b := decide (q5 ≤ q6)) (s1 := (254, [(0, .ref 0), (1, .int x1), (2, .int x2), (3, .int x3), (4, .int q5), (5, .int q6)], [.int x3, .ref 21], (hr th tx ds nw ou ps (nd.1, nd.2.1, nd.2.2.1, nd.2.2.2.1, nd.2.2.2.2.1, nd.2.2.2.2.2.1, nd.2.2.2.2.2.2.1, upd nd.2.2.2.2.2.2.2.1 x3.toNatClampNeg (((2 : Int32) * (x2 + x3))), upd nd.2.2.2.2.2.2.2.2.1 x3.toNatClampNeg q5, nd.2.2.2.2.2.2.2.2.2) us re va nu))) (s2 := (249, [(0, .ref 0), (1, .int x1), (2, .int x2), (3, .int x3), (4, .int q5), (5, .int q6)], [.int x3, .ref 21], (hr th tx ds nw ou ps (nd.1, nd.2.1, nd.2.2.1, nd.2.2.2.1, nd.2.2.2.2.1, nd.2.2.2.2.2.1, nd.2.2.2.2.2.2.1, upd nd.2.2.2.2.2.2.2.1 x3.toNatClampNeg (((2 : Int32) * (x2 + x3))), upd nd.2.2.2.2.2.2.2.2.1 x3.toNatClampNeg q5, nd.2.2.2.2.2.2.2.2.2) us re va nu))) 6 (fun _ => rfl) (fun hc => ?_) (fun hc => ?_)
        · have h := (am_ift hc).symm.trans h
          obtain ⟨hc, h⟩ := am_ifn h
          refine am_Ev.guard (b := decide (0 ≤ x3.toInt ∧ x3.toInt < (60 : Int))) (s1 := (257, [(0, .ref 0), (1, .int x1), (2, .int x2), (3, .int x3), (4, .int q5), (5, .int q6)], [], (hr th tx ds nw ou ps (nd.1, nd.2.1, nd.2.2.1, nd.2.2.2.1, nd.2.2.2.2.1, nd.2.2.2.2.2.1, nd.2.2.2.2.2.2.1, upd nd.2.2.2.2.2.2.2.1 x3.toNatClampNeg (((2 : Int32) * (x2 + x3))), upd nd.2.2.2.2.2.2.2.2.1 x3.toNatClampNeg q5, upd nd.2.2.2.2.2.2.2.2.2 x3.toNatClampNeg q5) us re va nu))) 2 (fun _ => rfl) hc ?_
          refine am_Ev.go 2 (st' := (162, [(0, .ref 0), (1, .int x1), (2, .int x2), (3, .int (x3 + 1)), (4, .int q5), (5, .int q6)], [], (hr th tx ds nw ou ps (nd.1, nd.2.1, nd.2.2.1, nd.2.2.2.1, nd.2.2.2.2.1, nd.2.2.2.2.2.1, nd.2.2.2.2.2.2.1, upd nd.2.2.2.2.2.2.2.1 x3.toNatClampNeg (((2 : Int32) * (x2 + x3))), upd nd.2.2.2.2.2.2.2.2.1 x3.toNatClampNeg q5, upd nd.2.2.2.2.2.2.2.2.2 x3.toNatClampNeg q5) us re va nu))) (fun _ => rfl) ?_
          refine am_Ev.same (st' := (162, [(0, .ref 0), (1, .int x1), (2, .int x2), (3, .int (x3 + 1))], [], (hr th tx ds nw ou ps (nd.1, nd.2.1, nd.2.2.1, nd.2.2.2.1, nd.2.2.2.2.1, nd.2.2.2.2.2.1, nd.2.2.2.2.2.2.1, upd nd.2.2.2.2.2.2.2.1 x3.toNatClampNeg (((2 : Int32) * (x2 + x3))), upd nd.2.2.2.2.2.2.2.2.1 x3.toNatClampNeg q5, upd nd.2.2.2.2.2.2.2.2.2 x3.toNatClampNeg q5) us re va nu))) (fun _ => rfl) ?_
          exact ih _ _ _ _ _ _ h
        · have h := (am_iff hc).symm.trans h
          obtain ⟨hc, h⟩ := am_ifn h
          refine am_Ev.guard (b := decide (0 ≤ x3.toInt ∧ x3.toInt < (60 : Int))) (s1 := (257, [(0, .ref 0), (1, .int x1), (2, .int x2), (3, .int x3), (4, .int q5), (5, .int q6)], [], (hr th tx ds nw ou ps (nd.1, nd.2.1, nd.2.2.1, nd.2.2.2.1, nd.2.2.2.2.1, nd.2.2.2.2.2.1, nd.2.2.2.2.2.2.1, upd nd.2.2.2.2.2.2.2.1 x3.toNatClampNeg (((2 : Int32) * (x2 + x3))), upd nd.2.2.2.2.2.2.2.2.1 x3.toNatClampNeg q5, upd nd.2.2.2.2.2.2.2.2.2 x3.toNatClampNeg q6) us re va nu))) 3 (fun _ => rfl) hc ?_
          refine am_Ev.go 2 (st' := (162, [(0, .ref 0), (1, .int x1), (2, .int x2), (3, .int (x3 + 1)), (4, .int q5), (5, .int q6)], [], (hr th tx ds nw ou ps (nd.1, nd.2.1, nd.2.2.1, nd.2.2.2.1, nd.2.2.2.2.1, nd.2.2.2.2.2.1, nd.2.2.2.2.2.2.1, upd nd.2.2.2.2.2.2.2.1 x3.toNatClampNeg (((2 : Int32) * (x2 + x3))), upd nd.2.2.2.2.2.2.2.2.1 x3.toNatClampNeg q5, upd nd.2.2.2.2.2.2.2.2.2 x3.toNatClampNeg q6) us re va nu))) (fun _ => rfl) ?_
          refine am_Ev.same (st' := (162, [(0, .ref 0), (1, .int x1), (2, .int x2), (3, .int (x3 + 1))], [], (hr th tx ds nw ou ps (nd.1, nd.2.1, nd.2.2.1, nd.2.2.2.1, nd.2.2.2.2.1, nd.2.2.2.2.2.1, nd.2.2.2.2.2.2.1, upd nd.2.2.2.2.2.2.2.1 x3.toNatClampNeg (((2 : Int32) * (x2 + x3))), upd nd.2.2.2.2.2.2.2.2.1 x3.toNatClampNeg q5, upd nd.2.2.2.2.2.2.2.2.2 x3.toNatClampNeg q6) us re va nu))) (fun _ => rfl) ?_
          exact ih _ _ _ _ _ _ h
theorem ev_M_order_112_v {n0 : Nat} {tx : Mtx} {nw : Mnw} {ou : Mou} {ps : Mps} {us : Mus} {re : Mre} {va : Mva} {x2 : Int32} {κ : Int32 → Mth → Mds → Mnd → Mnu → Option (Mth × Mds × Mnd × Mnu)} (hκ : ∀ (x1 : Int32) (th : Mth) (ds : Mds) (nd : Mnd) (nu : Mnu) (res : Mth × Mds × Mnd × Mnu), κ x1 th ds nd nu = some res → am_Ev (tb_M_order (am_run rPT rML (n0 + 1))) (160, [(0, .ref 0), (1, .int x1), (2, .int x2)], [], (hr th tx ds nw ou ps nd us re va nu)) (none, (hr res.1 tx res.2.1 nw ou ps res.2.2.1 us re va res.2.2.2))) : ∀ (n : Nat) (x1 : Int32) (x3 : Int32) (th : Mth) (ds : Mds) (nd : Mnd) (nu : Mnu) (res : Mth × Mds × Mnd × Mnu), fn_M_order_112 x2 κ n x1 x3 th ds nd nu = some res → am_Ev (tb_M_order (am_run rPT rML (n0 + 1))) (112, [(0, .ref 0), (1, .int x1), (2, .int x2), (3, .int x3)], [], (hr th tx ds nw ou ps nd us re va nu)) (none, (hr res.1 tx res.2.1 nw ou ps res.2.2.1 us re va res.2.2.2)) := by
  intro n
  induction n with
  | zero => intro x1 x3 th ds nd nu res h; unfold fn_M_order_112 at h; cases h
  | succ n ih =>
    intro x1 x3 th ds nd nu res h
    unfold fn_M_order_112 at h
    obtain ⟨hc, h⟩ := am_ifn h
    refine am_Ev.guard (b := decide (0 ≤ (3 : Int32).toInt ∧ (3 : Int32).toInt < (4 : Int))) (s1 := (119, [(0, .ref 0), (1, .int x1), (2, .int x2), (3, .int x3)], [.int (ds.2.1 ((3 : Int32).toNatClampNeg)), .int x3], (hr th tx ds nw ou ps nd us re va nu))) 5 (fun _ => rfl) hc ?_
    refine am_Ev.fork (b := decide ((ds.2.1 ((3 : Int32).toNatClampNeg)) ≤ x3)) (s1 := (160, [(0, .ref 0), (1, .int x1), (2, .int x2), (3, .int x3)], [], (hr th tx ds nw ou ps nd us re va nu))) (s2 := (122, [(0, .ref 0), (1, .int x1), (2, .int x2), (3, .int x3)], [], (hr th tx ds nw ou ps nd us re va nu))) 1 (fun _ => rfl) (fun hc => ?_) (fun hc => ?_)
    · have h := (am_ift hc).symm.trans h
      refine am_Ev.same (st' := (160, [(0, .ref 0), (1, .int x1), (2, .int x2)], [], (hr th tx ds nw ou ps nd us re va nu))) (fun _ => rfl) ?_
      exact hκ _ _ _ _ _ _ h
    · have h := (am_iff hc).symm.trans h
      obtain ⟨q7, hq, h⟩ := Option.bind_eq_some_iff.mp h
      refine am_Ev.go 4 (st' := (128, [(0, .ref 0), (1, .int x1), (2, .int x2), (3, .int x3)], [.ref 0, .int x3, .ref 29], (hr th tx ds nw ou ps nd us re va nu))) (fun _ => rfl) ?_
      refine am_Ev.call (o := am_run rPT rML (n0 + 1) 22 [.ref 0] (hr th tx ds nw ou ps nd us re va nu)) (kk := fun q => (131, [(0, .ref 0), (1, .int x1), (2, .int x2), (3, .int x3)], q.1.toList ++ [.int x3, .ref 29], q.2)) (q := (some (.int q7), (hr th tx ds nw ou ps nd us re va nu))) 1 (fun _ => rfl) (ev_M_ready_v hq) ?_
      obtain ⟨hc, h⟩ := am_ifn h
      refine am_Ev.guard (b := decide (0 ≤ x3.toInt ∧ x3.toInt < (60 : Int))) (s1 := (132, [(0, .ref 0), (1, .int x1), (2, .int x2), (3, .int x3)], [], (hr th tx ds nw ou ps nd us re va (nu.1, upd nu.2 x3.toNatClampNeg q7)))) 1 (fun _ => rfl) hc ?_
      obtain ⟨hc, h⟩ := am_ifn h
      refine am_Ev.guard (b := decide (0 ≤ x3.toInt ∧ x3.toInt < (60 : Int))) (s1 := (149, [(0, .ref 0), (1, .int (x1 + 1)), (2, .int x2), (3, .int x3)], [.int ((upd nu.2 x3.toNatClampNeg q7) x3.toNatClampNeg), .ref 8, .ref 28], (hr th tx ds nw ou ps nd us re va (nu.1, upd nu.2 x3.toNatClampNeg q7)))) 9 (fun _ => rfl) hc ?_
      obtain ⟨hc, h⟩ := am_ifn h
      refine am_Ev.guard (b := decide (0 ≤ ((upd nu.2 x3.toNatClampNeg q7) x3.toNatClampNeg).toInt ∧ ((upd nu.2 x3.toNatClampNeg q7) x3.toNatClampNeg).toInt < (60 : Int))) (s1 := (150, [(0, .ref 0), (1, .int (x1 + 1)), (2, .int x2), (3, .int x3)], [.int (ds.2.2.2.2.2.2.2.1 (((upd nu.2 x3.toNatClampNeg q7) x3.toNatClampNeg).toNatClampNeg)), .ref 28], (hr th tx ds nw ou ps nd us re va (nu.1, upd nu.2 x3.toNatClampNeg q7)))) 1 (fun _ => rfl) hc ?_
      obtain ⟨hc, h⟩ := am_ifn h
      refine am_Ev.guard (b := decide (¬ (2 : Int32) = 0)) (s1 := (152, [(0, .ref 0), (1, .int (x1 + 1)), (2, .int x2), (3, .int x3)], [.int ((ds.2.2.2.2.2.2.2.1 (((upd nu.2 x3.toNatClampNeg q7) x3.toNatClampNeg).toNatClampNeg)) / (2 : Int32)), .ref 28], (hr th tx ds nw ou ps nd us re va (nu.1, upd nu.2 x3.toNatClampNeg q7)))) 2 (fun _ => rfl) hc ?_
      obtain ⟨hc, h⟩ := am_ifn h
      refine am_Ev.guard (b := decide (0 ≤ ((ds.2.2.2.2.2.2.2.1 (((upd nu.2 x3.toNatClampNeg q7) x3.toNatClampNeg).toNatClampNeg)) / (2 : Int32)).toInt ∧ ((ds.2.2.2.2.2.2.2.1 (((upd nu.2 x3.toNatClampNeg q7) x3.toNatClampNeg).toNatClampNeg)) / (2 : Int32)).toInt < (100 : Int))) (s1 := (154, [(0, .ref 0), (1, .int (x1 + 1)), (2, .int x2), (3, .int x3)], [], (hr th tx ds nw ou ps nd us re va (upd nu.1 ((ds.2.2.2.2.2.2.2.1 (((upd nu.2 x3.toNatClampNeg q7) x3.toNatClampNeg).toNatClampNeg)) / (2 : Int32)).toNatClampNeg ((x1 + 1)), upd nu.2 x3.toNatClampNeg q7)))) 2 (fun _ => rfl) hc ?_
      refine am_Ev.go 2 (st' := (112, [(0, .ref 0), (1, .int (x1 + 1)), (2, .int x2), (3, .int (x3 + 1))], [], (hr th tx ds nw ou ps nd us re va (upd nu.1 ((ds.2.2.2.2.2.2.2.1 (((upd nu.2 x3.toNatClampNeg q7) x3.toNatClampNeg).toNatClampNeg)) / (2 : Int32)).toNatClampNeg ((x1 + 1)), upd nu.2 x3.toNatClampNeg q7)))) (fun _ => rfl) ?_
      exact ih _ _ _ _ _ _ _ h
theorem ev_M_order_73_v {n0 : Nat} {tx : Mtx} {nw : Mnw} {ou : Mou} {ps : Mps} {us : Mus} {re : Mre} {va : Mva} {κ : Int32 → Mth → Mds → Mnd → Mnu → Option (Mth × Mds × Mnd × Mnu)} (hκ : ∀ (x1 : Int32) (th : Mth) (ds : Mds) (nd : Mnd) (nu : Mnu) (res : Mth × Mds × Mnd × Mnu), κ x1 th ds nd nu = some res → am_Ev (tb_M_order (am_run rPT rML (n0 + 1))) (106, [(0, .ref 0), (1, .int x1)], [], (hr th tx ds nw ou ps nd us re va nu)) (none, (hr res.1 tx res.2.1 nw ou ps res.2.2.1 us re va res.2.2.2))) : ∀ (n : Nat) (x1 : Int32) (x2 : Int32) (th : Mth) (ds : Mds) (nd : Mnd) (nu : Mnu) (res : Mth × Mds × Mnd × Mnu), fn_M_order_73 κ n x1 x2 th ds nd nu = some res → am_Ev (tb_M_order (am_run rPT rML (n0 + 1))) (73, [(0, .ref 0), (1, .int x1), (2, .int x2)], [], (hr th tx ds nw ou ps nd us re va nu)) (none, (hr res.1 tx res.2.1 nw ou ps res.2.2.1 us re va res.2.2.2)) := by
  intro n
  induction n with
  | zero => intro x1 x2 th ds nd nu res h; unfold fn_M_order_73 at h; cases h
  | succ n ih =>
    intro x1 x2 th ds nd nu res h
    unfold fn_M_order_73 at h
    obtain ⟨hc, h⟩ := am_ifn h
    refine am_Ev.guard (b := decide (0 ≤ (1 : Int32).toInt ∧ (1 : Int32).toInt < (4 : Int))) (s1 := (80, [(0, .ref 0), (1, .int x1), (2, .int x2)], [.int (ds.2.1 ((1 : Int32).toNatClampNeg)), .int x2], (hr th tx ds nw ou ps nd us re va nu))) 5 (fun _ => rfl) hc ?_
    refine am_Ev.fork (b := decide ((ds.2.1 ((1 : Int32).toNatClampNeg)) ≤ x2)) (s1 := (106, [(0, .ref 0), (1, .int x1), (2, .int x2)], [], (hr th tx ds nw ou ps nd us re va nu))) (s2 := (83, [(0, .ref 0), (1, .int x1), (2, .int x2)], [], (hr th tx ds nw ou ps nd us re va nu))) 1 (fun _ => rfl) (fun hc => ?_) (fun hc => ?_)
    · have h := (am_ift hc).symm.trans h
      refine am_Ev.same (st' := (106, [(0, .ref 0), (1, .int x1)], [], (hr th tx ds nw ou ps nd us re va nu))) (fun _ => rfl) ?_
      exact hκ _ _ _ _ _ _ h
    · have h := (am_iff hc).symm.trans h
      obtain ⟨hc, h⟩ := am_ifn h
      refine am_Ev.guard (b := decide (0 ≤ x2.toInt ∧ x2.toInt < (8 : Int))) (s1 := (96, [(0, .ref 0), (1, .int (x1 + 1)), (2, .int x2)], [.int (ds.2.2.2.1 x2.toNatClampNeg), .ref 28], (hr th tx ds nw ou ps nd us re va nu))) 7 (fun _ => rfl) hc ?_
      obtain ⟨hc, h⟩ := am_ifn h
      refine am_Ev.guard (b := decide (¬ (2 : Int32) = 0)) (s1 := (98, [(0, .ref 0), (1, .int (x1 + 1)), (2, .int x2)], [.int ((ds.2.2.2.1 x2.toNatClampNeg) / (2 : Int32)), .ref 28], (hr th tx ds nw ou ps nd us re va nu))) 2 (fun _ => rfl) hc ?_
      obtain ⟨hc, h⟩ := am_ifn h
      refine am_Ev.guard (b := decide (0 ≤ ((ds.2.2.2.1 x2.toNatClampNeg) / (2 : Int32)).toInt ∧ ((ds.2.2.2.1 x2.toNatClampNeg) / (2 : Int32)).toInt < (100 : Int))) (s1 := (100, [(0, .ref 0), (1, .int (x1 + 1)), (2, .int x2)], [], (hr th tx ds nw ou ps nd us re va (upd nu.1 ((ds.2.2.2.1 x2.toNatClampNeg) / (2 : Int32)).toNatClampNeg ((x1 + 1)), nu.2)))) 2 (fun _ => rfl) hc ?_
      refine am_Ev.go 2 (st' := (73, [(0, .ref 0), (1, .int (x1 + 1)), (2, .int (x2 + 1))], [], (hr th tx ds nw ou ps nd us re va (upd nu.1 ((ds.2.2.2.1 x2.toNatClampNeg) / (2 : Int32)).toNatClampNeg ((x1 + 1)), nu.2)))) (fun _ => rfl) ?_
      exact ih _ _ _ _ _ _ _ h
theorem ev_M_order_38_v {n0 : Nat} {tx : Mtx} {nw : Mnw} {ou : Mou} {ps : Mps} {us : Mus} {re : Mre} {va : Mva} {κ : Int32 → Mth → Mds → Mnd → Mnu → Option (Mth × Mds × Mnd × Mnu)} (hκ : ∀ (x1 : Int32) (th : Mth) (ds : Mds) (nd : Mnd) (nu : Mnu) (res : Mth × Mds × Mnd × Mnu), κ x1 th ds nd nu = some res → am_Ev (tb_M_order (am_run rPT rML (n0 + 1))) (71, [(0, .ref 0), (1, .int x1)], [], (hr th tx ds nw ou ps nd us re va nu)) (none, (hr res.1 tx res.2.1 nw ou ps res.2.2.1 us re va res.2.2.2))) : ∀ (n : Nat) (x1 : Int32) (x2 : Int32) (th : Mth) (ds : Mds) (nd : Mnd) (nu : Mnu) (res : Mth × Mds × Mnd × Mnu), fn_M_order_38 κ n x1 x2 th ds nd nu = some res → am_Ev (tb_M_order (am_run rPT rML (n0 + 1))) (38, [(0, .ref 0), (1, .int x1), (2, .int x2)], [], (hr th tx ds nw ou ps nd us re va nu)) (none, (hr res.1 tx res.2.1 nw ou ps res.2.2.1 us re va res.2.2.2)) := by
  intro n
  induction n with
  | zero => intro x1 x2 th ds nd nu res h; unfold fn_M_order_38 at h; cases h
  | succ n ih =>
    intro x1 x2 th ds nd nu res h
    unfold fn_M_order_38 at h
    obtain ⟨hc, h⟩ := am_ifn h
    refine am_Ev.guard (b := decide (0 ≤ (0 : Int32).toInt ∧ (0 : Int32).toInt < (4 : Int))) (s1 := (45, [(0, .ref 0), (1, .int x1), (2, .int x2)], [.int (ds.2.1 ((0 : Int32).toNatClampNeg)), .int x2], (hr th tx ds nw ou ps nd us re va nu))) 5 (fun _ => rfl) hc ?_
    refine am_Ev.fork (b := decide ((ds.2.1 ((0 : Int32).toNatClampNeg)) ≤ x2)) (s1 := (71, [(0, .ref 0), (1, .int x1), (2, .int x2)], [], (hr th tx ds nw ou ps nd us re va nu))) (s2 := (48, [(0, .ref 0), (1, .int x1), (2, .int x2)], [], (hr th tx ds nw ou ps nd us re va nu))) 1 (fun _ => rfl) (fun hc => ?_) (fun hc => ?_)
    · have h := (am_ift hc).symm.trans h
      refine am_Ev.same (st' := (71, [(0, .ref 0), (1, .int x1)], [], (hr th tx ds nw ou ps nd us re va nu))) (fun _ => rfl) ?_
      exact hκ _ _ _ _ _ _ h
    · have h := (am_iff hc).symm.trans h
      obtain ⟨hc, h⟩ := am_ifn h
      refine am_Ev.guard (b := decide (0 ≤ x2.toInt ∧ x2.toInt < (8 : Int))) (s1 := (61, [(0, .ref 0), (1, .int (x1 + 1)), (2, .int x2)], [.int (ds.2.2.1 x2.toNatClampNeg), .ref 28], (hr th tx ds nw ou ps nd us re va nu))) 7 (fun _ => rfl) hc ?_
      obtain ⟨hc, h⟩ := am_ifn h
      refine am_Ev.guard (b := decide (¬ (2 : Int32) = 0)) (s1 := (63, [(0, .ref 0), (1, .int (x1 + 1)), (2, .int x2)], [.int ((ds.2.2.1 x2.toNatClampNeg) / (2 : Int32)), .ref 28], (hr th tx ds nw ou ps nd us re va nu))) 2 (fun _ => rfl) hc ?_
      obtain ⟨hc, h⟩ := am_ifn h
      refine am_Ev.guard (b := decide (0 ≤ ((ds.2.2.1 x2.toNatClampNeg) / (2 : Int32)).toInt ∧ ((ds.2.2.1 x2.toNatClampNeg) / (2 : Int32)).toInt < (100 : Int))) (s1 := (65, [(0, .ref 0), (1, .int (x1 + 1)), (2, .int x2)], [], (hr th tx ds nw ou ps nd us re va (upd nu.1 ((ds.2.2.1 x2.toNatClampNeg) / (2 : Int32)).toNatClampNeg ((x1 + 1)), nu.2)))) 2 (fun _ => rfl) hc ?_
      refine am_Ev.go 2 (st' := (38, [(0, .ref 0), (1, .int (x1 + 1)), (2, .int (x2 + 1))], [], (hr th tx ds nw ou ps nd us re va (upd nu.1 ((ds.2.2.1 x2.toNatClampNeg) / (2 : Int32)).toNatClampNeg ((x1 + 1)), nu.2)))) (fun _ => rfl) ?_
      exact ih _ _ _ _ _ _ _ h
theorem ev_M_order_7_v {n0 : Nat} {tx : Mtx} {nw : Mnw} {ou : Mou} {ps : Mps} {us : Mus} {re : Mre} {va : Mva} {κ : Mth → Mds → Mnd → Mnu → Option (Mth × Mds × Mnd × Mnu)} (hκ : ∀ (th : Mth) (ds : Mds) (nd : Mnd) (nu : Mnu) (res : Mth × Mds × Mnd × Mnu), κ th ds nd nu = some res → am_Ev (tb_M_order (am_run rPT rML (n0 + 1))) (34, [(0, .ref 0)], [], (hr th tx ds nw ou ps nd us re va nu)) (none, (hr res.1 tx res.2.1 nw ou ps res.2.2.1 us re va res.2.2.2))) : ∀ (n : Nat) (x1 : Int32) (th : Mth) (ds : Mds) (nd : Mnd) (nu : Mnu) (res : Mth × Mds × Mnd × Mnu), fn_M_order_7 κ n x1 th ds nd nu = some res → am_Ev (tb_M_order (am_run rPT rML (n0 + 1))) (7, [(0, .ref 0), (1, .int x1)], [], (hr th tx ds nw ou ps nd us re va nu)) (none, (hr res.1 tx res.2.1 nw ou ps res.2.2.1 us re va res.2.2.2)) := by
  intro n
  induction n with
  | zero => intro x1 th ds nd nu res h; unfold fn_M_order_7 at h; cases h
  | succ n ih =>
    intro x1 th ds nd nu res h
    unfold fn_M_order_7 at h
    refine am_Ev.fork (b := decide ((100 : Int32) ≤ x1)) (s1 := (34, [(0, .ref 0), (1, .int x1)], [], (hr th tx ds nw ou ps nd us re va nu))) (s2 := (13, [(0, .ref 0), (1, .int x1)], [], (hr th tx ds nw ou ps nd us re va nu))) 3 (fun _ => rfl) (fun hc => ?_) (fun hc => ?_)
    · have h := (am_ift hc).symm.trans h
      refine am_Ev.same (st' := (34, [(0, .ref 0)], [], (hr th tx ds nw ou ps nd us re va nu))) (fun _ => rfl) ?_
      exact hκ _ _ _ _ _ h
    · have h := (am_iff hc).symm.trans h
      refine am_Ev.fork (b := decide (x1 = 0)) (s1 := (22, [(0, .ref 0), (1, .int x1)], [.int x1, .ref 28], (hr th tx ds nw ou ps nd us re va nu))) (s2 := (26, [(0, .ref 0), (1, .int x1)], [.int x1, .ref 28], (hr th tx ds nw ou ps nd us re va nu))) 5 (fun _ => rfl) (fun hc => ?_) (fun hc => ?_)
      · have h := (am_ift hc).symm.trans h
        obtain ⟨hc, h⟩ := am_ifn h
        refine am_Ev.guard (b := decide (0 ≤ x1.toInt ∧ x1.toInt < (100 : Int))) (s1 := (28, [(0, .ref 0), (1, .int x1)], [], (hr th tx ds nw ou ps nd us re va (upd nu.1 x1.toNatClampNeg ((0 : Int32)), nu.2)))) 3 (fun _ => rfl) hc ?_
        refine am_Ev.go 2 (st' := (7, [(0, .ref 0), (1, .int (x1 + 1))], [], (hr th tx ds nw ou ps nd us re va (upd nu.1 x1.toNatClampNeg ((0 : Int32)), nu.2)))) (fun _ => rfl) ?_
        exact ih _ _ _ _ _ _ h
      · have h := (am_iff hc).symm.trans h
        obtain ⟨hc, h⟩ := am_ifn h
        refine am_Ev.guard (b := decide (0 ≤ x1.toInt ∧ x1.toInt < (100 : Int))) (s1 := (28, [(0, .ref 0), (1, .int x1)], [], (hr th tx ds nw ou ps nd us re va (upd nu.1 x1.toNatClampNeg ((-1 : Int32)), nu.2)))) 2 (fun _ => rfl) hc ?_
        refine am_Ev.go 2 (st' := (7, [(0, .ref 0), (1, .int (x1 + 1))], [], (hr th tx ds nw ou ps nd us re va (upd nu.1 x1.toNatClampNeg ((-1 : Int32)), nu.2)))) (fun _ => rfl) ?_
        exact ih _ _ _ _ _ _ h
theorem ev_M_order_v {n0 : Nat} {tx : Mtx} {nw : Mnw} {ou : Mou} {ps : Mps} {us : Mus} {re : Mre} {va : Mva} {th : Mth} {ds : Mds} {nd : Mnd} {nu : Mnu} {res : Mth × Mds × Mnd × Mnu} (h : fn_M_order th ds nd nu = some res) : am_run rPT rML (n0 + 2) 23 [.ref 0] (hr th tx ds nw ou ps nd us re va nu) = some (none, (hr res.1 tx res.2.1 nw ou ps res.2.2.1 us re va res.2.2.2)) := by
  refine am_run_of (d := n0 + 1) rfl ?_
  show am_Ev (tb_M_order (am_run rPT rML (n0 + 1))) (0, [(0, .ref 0)], [], (hr th tx ds nw ou ps nd us re va nu)) (none, (hr res.1 tx res.2.1 nw ou ps res.2.2.1 us re va res.2.2.2))
  unfold fn_M_order at h
  refine am_Ev.go 5 (st' := (7, [(0, .ref 0), (1, .int 0)], [], (hr 0 tx ds nw ou ps nd us re va nu))) (fun _ => rfl) ?_
  refine ev_M_order_7_v ?_ _ _ _ _ _ _ _ h
  intro th_9 ds_9 nd_9 nu_9 res h
  try dsimp only at h
  refine am_Ev.go 4 (st' := (38, [(0, .ref 0), (1, .int 0), (2, .int 0)], [], (hr th_9 tx ds_9 nw ou ps nd_9 us re va nu_9))) (fun _ => rfl) ?_
  refine ev_M_order_38_v ?_ _ _ _ _ _ _ _ _ h
  intro x1_10 th_10 ds_10 nd_10 nu_10 res h
  try dsimp only at h
  refine am_Ev.go 2 (st' := (73, [(0, .ref 0), (1, .int x1_10), (2, .int 0)], [], (hr th_10 tx ds_10 nw ou ps nd_10 us re va nu_10))) (fun _ => rfl) ?_
  refine ev_M_order_73_v ?_ _ _ _ _ _ _ _ _ h
  intro x1_11 th_11 ds_11 nd_11 nu_11 res h
  try dsimp only at h
  refine am_Ev.go 6 (st' := (112, [(0, .ref 0), (1, .int x1_11), (2, .int (x1_11 + (1 : Int32))), (3, .int 0)], [], (hr th_11 tx ds_11 nw ou ps nd_11 us re va nu_11))) (fun _ => rfl) ?_
  refine ev_M_order_112_v ?_ _ _ _ _ _ _ _ _ h
  intro x1_12 th_12 ds_12 nd_12 nu_12 res h
  try dsimp only at h
  refine am_Ev.go 2 (st' := (162, [(0, .ref 0), (1, .int x1_12), (2, .int (x1_11 + (1 : Int32))), (3, .int 0)], [], (hr th_12 tx ds_12 nw ou ps nd_12 us re va nu_12))) (fun _ => rfl) ?_
  refine ev_M_order_162_v ?_ _ _ _ _ _ _ _ h
  intro th_13 ds_13 nd_13 nu_13 res h
  try dsimp only at h
  refine am_Ev.go 2 (st' := (265, [(0, .ref 0), (1, .int x1_12), (3, .int 0)], [], (hr th_13 tx ds_13 nw ou ps nd_13 us re va nu_13))) (fun _ => rfl) ?_
  refine ev_M_order_265_v ?_ _ _ _ _ _ _ _ h
  intro th_14 ds_14 nd_14 nu_14 res h
  try dsimp only at h
  refine am_Ev.go 2 (st' := (319, [(0, .ref 0), (1, .int x1_12), (3, .int 0)], [], (hr th_14 tx ds_14 nw ou ps nd_14 us re va nu_14))) (fun _ => rfl) ?_
  refine ev_M_order_319_v ?_ _ _ _ _ _ _ _ h
  intro th_15 ds_15 nd_15 nu_15 res h
  try dsimp only at h
  refine am_Ev.go 2 (st' := (353, [(0, .ref 0), (1, .int x1_12), (3, .int 0)], [], (hr th_15 tx ds_15 nw ou ps nd_15 us re va nu_15))) (fun _ => rfl) ?_
  refine ev_M_order_353_v ?_ _ _ _ _ _ _ _ h
  intro th_16 ds_16 nd_16 nu_16 res h
  try dsimp only at h
  refine am_Ev.go 2 (st' := (403, [(0, .ref 0), (1, .int x1_12), (3, .int 0)], [], (hr th_16 tx ds_16 nw ou ps nd_16 us re va nu_16))) (fun _ => rfl) ?_
  refine ev_M_order_403_v ?_ _ _ _ _ _ _ _ h
  intro th_17 ds_17 nd_17 nu_17 res h
  try dsimp only at h
  cases h
  exact am_Ev.done 4 rfl
