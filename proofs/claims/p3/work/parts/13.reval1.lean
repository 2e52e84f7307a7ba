theorem ev_M_addNumber_37_v {n0 : Nat} {th : Mth} {tx : Mtx} {ds : Mds} {nw : Mnw} {ps : Mps} {nd : Mnd} {us : Mus} {re : Mre} {va : Mva} {nu : Mnu} {x1 : Int32} {κ : Mou → Option (Mou)} (hκ : ∀ (ou : Mou) (res : Mou), κ ou = some res → am_Ev (tb_M_addNumber (am_run rPT rML (n0 + 1))) (62, [], [], (hr th tx ds nw ou ps nd us re va nu)) (none, (hr th tx ds nw res ps nd us re va nu))) : ∀ (n : Nat) (x2 : Int32) (ou : Mou) (res : Mou), fn_M_addNumber_37 x1 κ n x2 ou = some res → am_Ev (tb_M_addNumber (am_run rPT rML (n0 + 1))) (37, [(0, .ref 0), (1, .int x1), (2, .int x2)], [], (hr th tx ds nw ou ps nd us re va nu)) (none, (hr th tx ds nw res ps nd us re va nu)) := by
  intro n
  induction n with
  | zero => intro x2 ou res h; unfold fn_M_addNumber_37 at h; cases h
  | succ n ih =>
    intro x2 ou res h
    unfold fn_M_addNumber_37 at h
    refine am_Ev.fork (b := decide (x2 ≤ 0)) (s1 := (62, [(0, .ref 0), (1, .int x1), (2, .int x2)], [], (hr th tx ds nw ou ps nd us re va nu))) (s2 := (41, [(0, .ref 0), (1, .int x1), (2, .int x2)], [], (hr th tx ds nw ou ps nd us re va nu))) 2 (fun _ => rfl) (fun hc => ?_) (fun hc => ?_)
    · have h := (am_ift hc).symm.trans h
      refine am_Ev.same (st' := (62, [], [], (hr th tx ds nw ou ps nd us re va nu))) (fun _ => rfl) ?_
      exact hκ _ _ h
    · have h := (am_iff hc).symm.trans h
      obtain ⟨hc, h⟩ := am_ifn h
      refine am_Ev.guard (b := decide (¬ x2 = 0)) (s1 := (47, [(0, .ref 0), (1, .int x1), (2, .int x2)], [.int (x1 / x2), .int 48, .ref 0], (hr th tx ds nw ou ps nd us re va nu))) 5 (fun _ => rfl) hc ?_
      obtain ⟨hc, h⟩ := am_ifn h
      refine am_Ev.guard (b := decide (¬ (10 : Int32) = 0)) (s1 := (50, [(0, .ref 0), (1, .int x1), (2, .int x2)], [.int ((x1 / x2) - (x1 / x2) / (10 : Int32) * (10 : Int32)), .int 48, .ref 0], (hr th tx ds nw ou ps nd us re va nu))) 2 (fun _ => rfl) hc ?_
      obtain ⟨q1, hq, h⟩ := Option.bind_eq_some_iff.mp h
      refine am_Ev.go 1 (st' := (51, [(0, .ref 0), (1, .int x1), (2, .int x2)], [.int ((48 : Int32) + ((x1 / x2) - (x1 / x2) / (10 : Int32) * (10 : Int32))), .ref 0], (hr th tx ds nw ou ps nd us re va nu))) (fun _ => rfl) ?_
      refine am_Ev.call (o := am_run rPT rML (n0 + 1) 24 [.ref 0, .int ((48 : Int32) + ((x1 / x2) - (x1 / x2) / (10 : Int32) * (10 : Int32)))] (hr th tx ds nw ou ps nd us re va nu)) (kk := fun q => (54, [(0, .ref 0), (1, .int x1), (2, .int x2)], q.1.toList ++ [], q.2)) (q := (none, (hr th tx ds nw q1 ps nd us re va nu))) 1 (fun _ => rfl) (ev_M_add_v hq) ?_
      obtain ⟨hc, h⟩ := am_ifn h
      refine am_Ev.guard (b := decide (¬ (10 : Int32) = 0)) (s1 := (58, [(0, .ref 0), (1, .int x1), (2, .int x2)], [.int (x2 / (10 : Int32))], (hr th tx ds nw q1 ps nd us re va nu))) 3 (fun _ => rfl) hc ?_
      refine am_Ev.go 2 (st' := (37, [(0, .ref 0), (1, .int x1), (2, .int (x2 / (10 : Int32)))], [], (hr th tx ds nw q1 ps nd us re va nu))) (fun _ => rfl) ?_
      exact ih _ _ _ h
theorem ev_M_addNumber_v {n0 : Nat} {th : Mth} {tx : Mtx} {ds : Mds} {nw : Mnw} {ps : Mps} {nd : Mnd} {us : Mus} {re : Mre} {va : Mva} {nu : Mnu} {x1 : Int32} {ou : Mou} {res : Mou} (h : fn_M_addNumber x1 ou = some res) : am_run rPT rML (n0 + 2) 25 [.ref 0, .int x1] (hr th tx ds nw ou ps nd us re va nu) = some (none, (hr th tx ds nw res ps nd us re va nu)) := by
  refine am_run_of (d := n0 + 1) rfl ?_
  show am_Ev (tb_M_addNumber (am_run rPT rML (n0 + 1))) (0, [(0, .ref 0), (1, .int x1)], [], (hr th tx ds nw ou ps nd us re va nu)) (none, (hr th tx ds nw res ps nd us re va nu))
  unfold fn_M_addNumber at h
  refine am_Ev.fork (b := decide (x1 ≤ (999 : Int32))) (s1 := (13, [(0, .ref 0), (1, .int x1)], [], (hr th tx ds nw ou ps nd us re va nu))) (s2 := (7, [(0, .ref 0), (1, .int x1)], [], (hr th tx ds nw ou ps nd us re va nu))) 3 (fun _ => rfl) (fun hc => ?_) (fun hc => ?_)
  · have h := (am_ift hc).symm.trans h
    refine am_Ev.fork (b := decide (x1 ≤ (99 : Int32))) (s1 := (24, [(0, .ref 0), (1, .int x1)], [], (hr th tx ds nw ou ps nd us re va nu))) (s2 := (19, [(0, .ref 0), (1, .int x1)], [], (hr th tx ds nw ou ps nd us re va nu))) 3 (fun _ => rfl) (fun hc => ?_) (fun hc => ?_)
    · have h := (am_ift hc).symm.trans h
      refine am_Ev.fork (b := decide (x1 ≤ (9 : Int32))) (s1 := (35, [(0, .ref 0), (1, .int x1)], [], (hr th tx ds nw ou ps nd us re va nu))) (s2 := (30, [(0, .ref 0), (1, .int x1)], [], (hr th tx ds nw ou ps nd us re va nu))) 3 (fun _ => rfl) (fun hc => ?_) (fun hc => ?_)
      · have h := (am_ift hc).symm.trans h
        refine am_Ev.go 2 (st' := (37, [(0, .ref 0), (1, .int x1), (2, .int 1)], [], (hr th tx ds nw ou ps nd us re va nu))) (fun _ => rfl) ?_
        refine ev_M_addNumber_37_v ?_ _ _ _ _ h
        intro ou_3 res h
        try dsimp only at h
        cases h
        exact am_Ev.done 1 rfl
      · have h := (am_iff hc).symm.trans h
        refine am_Ev.go 3 (st' := (37, [(0, .ref 0), (1, .int x1), (2, .int 10)], [], (hr th tx ds nw ou ps nd us re va nu))) (fun _ => rfl) ?_
        refine ev_M_addNumber_37_v ?_ _ _ _ _ h
        intro ou_4 res h
        try dsimp only at h
        cases h
        exact am_Ev.done 1 rfl
    · have h := (am_iff hc).symm.trans h
      refine am_Ev.go 3 (st' := (37, [(0, .ref 0), (1, .int x1), (2, .int 100)], [], (hr th tx ds nw ou ps nd us re va nu))) (fun _ => rfl) ?_
      refine ev_M_addNumber_37_v ?_ _ _ _ _ h
      intro ou_5 res h
      try dsimp only at h
      cases h
      exact am_Ev.done 1 rfl
  · have h := (am_iff hc).symm.trans h
    refine am_Ev.go 3 (st' := (37, [(0, .ref 0), (1, .int x1), (2, .int 1000)], [], (hr th tx ds nw ou ps nd us re va nu))) (fun _ => rfl) ?_
    refine ev_M_addNumber_37_v ?_ _ _ _ _ h
    intro ou_6 res h
    try dsimp only at h
    cases h
    exact am_Ev.done 1 rfl
theorem ev_M_addDifference_v {n0 : Nat} {th : Mth} {tx : Mtx} {ds : Mds} {nw : Mnw} {ps : Mps} {nd : Mnd} {us : Mus} {re : Mre} {va : Mva} {nu : Mnu} {x1 : Int32} {ou : Mou} {res : Mou} (h : fn_M_addDifference x1 ou = some res) : am_run rPT rML (n0 + 2) 27 [.ref 0, .int x1] (hr th tx ds nw ou ps nd us re va nu) = some (none, (hr th tx ds nw res ps nd us re va nu)) := by
  refine am_run_of (d := n0 + 1) rfl ?_
  show am_Ev (tb_M_addDifference (am_run rPT rML (n0 + 1))) (0, [(0, .ref 0), (1, .int x1)], [], (hr th tx ds nw ou ps nd us re va nu)) (none, (hr th tx ds nw res ps nd us re va nu))
  unfold fn_M_addDifference at h
  refine am_Ev.fork (b := decide (x1 ≤ (127 : Int32))) (s1 := (31, [(0, .ref 0), (1, .int x1)], [], (hr th tx ds nw ou ps nd us re va nu))) (s2 := (6, [(0, .ref 0), (1, .int x1)], [], (hr th tx ds nw ou ps nd us re va nu))) 3 (fun _ => rfl) (fun hc => ?_) (fun hc => ?_)
  · have h := (am_ift hc).symm.trans h
    obtain ⟨q1, hq, h⟩ := Option.bind_eq_some_iff.mp h
    refine am_Ev.go 2 (st' := (33, [(0, .ref 0), (1, .int x1)], [.int x1, .ref 0], (hr th tx ds nw ou ps nd us re va nu))) (fun _ => rfl) ?_
    refine am_Ev.call (o := am_run rPT rML (n0 + 1) 24 [.ref 0, .int x1] (hr th tx ds nw ou ps nd us re va nu)) (kk := fun q => (36, [(0, .ref 0), (1, .int x1)], q.1.toList ++ [], q.2)) (q := (none, (hr th tx ds nw q1 ps nd us re va nu))) 1 (fun _ => rfl) (ev_M_add_v hq) ?_
    cases h
    exact am_Ev.done 1 rfl
  · have h := (am_iff hc).symm.trans h
    obtain ⟨hc, h⟩ := am_ifn h
    refine am_Ev.guard (b := decide (¬ (128 : Int32) = 0)) (s1 := (12, [(0, .ref 0), (1, .int x1)], [.int (x1 - x1 / (128 : Int32) * (128 : Int32)), .ref 0], (hr th tx ds nw ou ps nd us re va nu))) 4 (fun _ => rfl) hc ?_
    obtain ⟨q2, hq, h⟩ := Option.bind_eq_some_iff.mp h
    refine am_Ev.go 2 (st' := (16, [(0, .ref 0), (1, .int x1)], [.int ((x1 - x1 / (128 : Int32) * (128 : Int32)) + (128 : Int32)), .ref 0], (hr th tx ds nw ou ps nd us re va nu))) (fun _ => rfl) ?_
    refine am_Ev.call (o := am_run rPT rML (n0 + 1) 24 [.ref 0, .int ((x1 - x1 / (128 : Int32) * (128 : Int32)) + (128 : Int32))] (hr th tx ds nw ou ps nd us re va nu)) (kk := fun q => (19, [(0, .ref 0), (1, .int x1)], q.1.toList ++ [], q.2)) (q := (none, (hr th tx ds nw q2 ps nd us re va nu))) 1 (fun _ => rfl) (ev_M_add_v hq) ?_
    obtain ⟨hc, h⟩ := am_ifn h
    refine am_Ev.guard (b := decide (¬ (128 : Int32) = 0)) (s1 := (25, [(0, .ref 0), (1, .int x1)], [.int (x1 / (128 : Int32)), .ref 0], (hr th tx ds nw q2 ps nd us re va nu))) 4 (fun _ => rfl) hc ?_
    obtain ⟨q3, hq, h⟩ := Option.bind_eq_some_iff.mp h
    refine am_Ev.call (o := am_run rPT rML (n0 + 1) 24 [.ref 0, .int (x1 / (128 : Int32))] (hr th tx ds nw q2 ps nd us re va nu)) (kk := fun q => (28, [(0, .ref 0), (1, .int x1)], q.1.toList ++ [], q.2)) (q := (none, (hr th tx ds nw q3 ps nd us re va nu))) 1 (fun _ => rfl) (ev_M_add_v hq) ?_
    cases h
    exact am_Ev.done 2 rfl
theorem ev_M_cycle_251_v {n0 : Nat} {tx : Mtx} {ou : Mou} {ps : Mps} {nd : Mnd} {us : Mus} {re : Mre} {nu : Mnu} {x3 : Int32} {ds : Mds} {κ : Mth → Mnw → Mva → Option (Int32 × Mth × Mnw × Mva)} (hκ : ∀ (th : Mth) (nw : Mnw) (va : Mva) (res : Int32 × Mth × Mnw × Mva), κ th nw va = some res → am_Ev (tb_M_cycle (am_run rPT rML (n0 + 1))) (286, [(3, .int x3)], [], (hr th tx ds nw ou ps nd us re va nu)) (some (.int res.1), (hr res.2.1 tx ds res.2.2.1 ou ps nd us re res.2.2.2 nu))) : ∀ (n : Nat) (x4 : Int32) (th : Mth) (nw : Mnw) (va : Mva) (res : Int32 × Mth × Mnw × Mva), fn_M_cycle_251 x3 ds κ n x4 th nw va = some res → am_Ev (tb_M_cycle (am_run rPT rML (n0 + 1))) (251, [(0, .ref 0), (3, .int x3), (4, .int x4)], [], (hr th tx ds nw ou ps nd us re va nu)) (some (.int res.1), (hr res.2.1 tx ds res.2.2.1 ou ps nd us re res.2.2.2 nu)) := by
  intro n
  induction n with
  | zero => intro x4 th nw va res h; unfold fn_M_cycle_251 at h; cases h
  | succ n ih =>
    intro x4 th nw va res h
    unfold fn_M_cycle_251 at h
    obtain ⟨hc, h⟩ := am_ifn h
    refine am_Ev.guard (b := decide (0 ≤ (1 : Int32).toInt ∧ (1 : Int32).toInt < (4 : Int))) (s1 := (259, [(0, .ref 0), (3, .int x3), (4, .int x4)], [.int (ds.2.1 ((1 : Int32).toNatClampNeg)), .int x4], (hr th tx ds nw ou ps nd us re va nu))) 5 (fun _ => rfl) hc ?_
    refine am_Ev.fork (b := decide ((ds.2.1 ((1 : Int32).toNatClampNeg)) ≤ x4)) (s1 := (286, [(0, .ref 0), (3, .int x3), (4, .int x4)], [], (hr th tx ds nw ou ps nd us re va nu))) (s2 := (262, [(0, .ref 0), (3, .int x3), (4, .int x4)], [], (hr th tx ds nw ou ps nd us re va nu))) 1 (fun _ => rfl) (fun hc => ?_) (fun hc => ?_)
    · have h := (am_ift hc).symm.trans h
      refine am_Ev.same (st' := (286, [(3, .int x3)], [], (hr th tx ds nw ou ps nd us re va nu))) (fun _ => rfl) ?_
      exact hκ _ _ _ _ h
    · have h := (am_iff hc).symm.trans h
      obtain ⟨hc, h⟩ := am_ifn h
      refine am_Ev.guard (b := decide (0 ≤ x4.toInt ∧ x4.toInt < (8 : Int))) (s1 := (276, [(0, .ref 0), (3, .int x3), (4, .int x4)], [.int (ds.2.2.2.2.1 x4.toNatClampNeg), .ref 0, .int x4, .ref 11], (hr th tx ds nw ou ps nd us re va nu))) 8 (fun _ => rfl) hc ?_
      obtain ⟨q1, hq, h⟩ := Option.bind_eq_some_iff.mp h
      refine am_Ev.call (o := am_run rPT rML (n0 + 1) 31 [.ref 0, .int (ds.2.2.2.2.1 x4.toNatClampNeg)] (hr th tx ds nw ou ps nd us re va nu)) (kk := fun q => (279, [(0, .ref 0), (3, .int x3), (4, .int x4)], q.1.toList ++ [.int x4, .ref 11], q.2)) (q := (some (.int q1), (hr th tx ds nw ou ps nd us re va nu))) 1 (fun _ => rfl) (ev_M_valueOf_v hq) ?_
      obtain ⟨hc, h⟩ := am_ifn h
      refine am_Ev.guard (b := decide (0 ≤ x4.toInt ∧ x4.toInt < (8 : Int))) (s1 := (280, [(0, .ref 0), (3, .int x3), (4, .int x4)], [], (hr th tx ds (upd nw x4.toNatClampNeg q1) ou ps nd us re va nu))) 1 (fun _ => rfl) hc ?_
      refine am_Ev.go 2 (st' := (251, [(0, .ref 0), (3, .int x3), (4, .int (x4 + 1))], [], (hr th tx ds (upd nw x4.toNatClampNeg q1) ou ps nd us re va nu))) (fun _ => rfl) ?_
      exact ih _ _ _ _ _ h
theorem ev_M_cycle_214_v {n0 : Nat} {tx : Mtx} {ou : Mou} {ps : Mps} {nd : Mnd} {us : Mus} {re : Mre} {nu : Mnu} {ds : Mds} {κ : Int32 → Mth → Mnw → Mva → Option (Int32 × Mth × Mnw × Mva)} (hκ : ∀ (x3 : Int32) (th : Mth) (nw : Mnw) (va : Mva) (res : Int32 × Mth × Mnw × Mva), κ x3 th nw va = some res → am_Ev (tb_M_cycle (am_run rPT rML (n0 + 1))) (248, [(0, .ref 0), (3, .int x3)], [], (hr th tx ds nw ou ps nd us re va nu)) (some (.int res.1), (hr res.2.1 tx ds res.2.2.1 ou ps nd us re res.2.2.2 nu))) : ∀ (n : Nat) (x3 : Int32) (x4 : Int32) (th : Mth) (nw : Mnw) (va : Mva) (res : Int32 × Mth × Mnw × Mva), fn_M_cycle_214 ds κ n x3 x4 th nw va = some res → am_Ev (tb_M_cycle (am_run rPT rML (n0 + 1))) (214, [(0, .ref 0), (3, .int x3), (4, .int x4)], [], (hr th tx ds nw ou ps nd us re va nu)) (some (.int res.1), (hr res.2.1 tx ds res.2.2.1 ou ps nd us re res.2.2.2 nu)) := by
  intro n
  induction n with
  | zero => intro x3 x4 th nw va res h; unfold fn_M_cycle_214 at h; cases h
  | succ n ih =>
    intro x3 x4 th nw va res h
    unfold fn_M_cycle_214 at h
    obtain ⟨hc, h⟩ := am_ifn h
    refine am_Ev.guard (b := decide (0 ≤ (2 : Int32).toInt ∧ (2 : Int32).toInt < (4 : Int))) (s1 := (222, [(0, .ref 0), (3, .int x3), (4, .int x4)], [.int (ds.2.1 ((2 : Int32).toNatClampNeg)), .int x4], (hr th tx ds nw ou ps nd us re va nu))) 5 (fun _ => rfl) hc ?_
    refine am_Ev.fork (b := decide ((ds.2.1 ((2 : Int32).toNatClampNeg)) ≤ x4)) (s1 := (248, [(0, .ref 0), (3, .int x3), (4, .int x4)], [], (hr th tx ds nw ou ps nd us re va nu))) (s2 := (225, [(0, .ref 0), (3, .int x3), (4, .int x4)], [], (hr th tx ds nw ou ps nd us re va nu))) 1 (fun _ => rfl) (fun hc => ?_) (fun hc => ?_)
    · have h := (am_ift hc).symm.trans h
      refine am_Ev.same (st' := (248, [(0, .ref 0), (3, .int x3)], [], (hr th tx ds nw ou ps nd us re va nu))) (fun _ => rfl) ?_
      exact hκ _ _ _ _ _ h
    · have h := (am_iff hc).symm.trans h
      obtain ⟨hc, h⟩ := am_ifn h
      refine am_Ev.guard (b := decide (0 ≤ x4.toInt ∧ x4.toInt < (8 : Int))) (s1 := (234, [(0, .ref 0), (3, .int x3), (4, .int x4)], [.int (ds.2.2.2.2.2.2.1 x4.toNatClampNeg), .ref 0, .int x3], (hr th tx ds nw ou ps nd us re va nu))) 6 (fun _ => rfl) hc ?_
      obtain ⟨q2, hq, h⟩ := Option.bind_eq_some_iff.mp h
      refine am_Ev.call (o := am_run rPT rML (n0 + 1) 31 [.ref 0, .int (ds.2.2.2.2.2.2.1 x4.toNatClampNeg)] (hr th tx ds nw ou ps nd us re va nu)) (kk := fun q => (237, [(0, .ref 0), (3, .int x3), (4, .int x4)], q.1.toList ++ [.int x3], q.2)) (q := (some (.int q2), (hr th tx ds nw ou ps nd us re va nu))) 1 (fun _ => rfl) (ev_M_valueOf_v hq) ?_
      refine am_Ev.go 6 (st' := (214, [(0, .ref 0), (3, .int (x3 ||| (q2 <<< (x4 &&& 31)))), (4, .int (x4 + 1))], [], (hr th tx ds nw ou ps nd us re va nu))) (fun _ => rfl) ?_
      exact ih _ _ _ _ _ _ h
theorem ev_M_cycle_117_v {n0 : Nat} {tx : Mtx} {ou : Mou} {ps : Mps} {nd : Mnd} {us : Mus} {re : Mre} {nu : Mnu} {ds : Mds} {κ : Int32 → Mth → Mnw → Mva → Option (Int32 × Mth × Mnw × Mva)} (hκ : ∀ (x2 : Int32) (th : Mth) (nw : Mnw) (va : Mva) (res : Int32 × Mth × Mnw × Mva), κ x2 th nw va = some res → am_Ev (tb_M_cycle (am_run rPT rML (n0 + 1))) (206, [(0, .ref 0), (2, .int x2)], [], (hr th tx ds nw ou ps nd us re va nu)) (some (.int res.1), (hr res.2.1 tx ds res.2.2.1 ou ps nd us re res.2.2.2 nu))) : ∀ (n : Nat) (x2 : Int32) (x3 : Int32) (th : Mth) (nw : Mnw) (va : Mva) (res : Int32 × Mth × Mnw × Mva), fn_M_cycle_117 ds κ n x2 x3 th nw va = some res → am_Ev (tb_M_cycle (am_run rPT rML (n0 + 1))) (117, [(0, .ref 0), (2, .int x2), (3, .int x3)], [], (hr th tx ds nw ou ps nd us re va nu)) (some (.int res.1), (hr res.2.1 tx ds res.2.2.1 ou ps nd us re res.2.2.2 nu)) := by
  intro n
  induction n with
  | zero => intro x2 x3 th nw va res h; unfold fn_M_cycle_117 at h; cases h
  | succ n ih =>
    intro x2 x3 th nw va res h
    unfold fn_M_cycle_117 at h
    obtain ⟨hc, h⟩ := am_ifn h
    refine am_Ev.guard (b := decide (0 ≤ (3 : Int32).toInt ∧ (3 : Int32).toInt < (4 : Int))) (s1 := (124, [(0, .ref 0), (2, .int x2), (3, .int x3)], [.int (ds.2.1 ((3 : Int32).toNatClampNeg)), .int x3], (hr th tx ds nw ou ps nd us re va nu))) 5 (fun _ => rfl) hc ?_
    refine am_Ev.fork (b := decide ((ds.2.1 ((3 : Int32).toNatClampNeg)) ≤ x3)) (s1 := (206, [(0, .ref 0), (2, .int x2), (3, .int x3)], [], (hr th tx ds nw ou ps nd us re va nu))) (s2 := (127, [(0, .ref 0), (2, .int x2), (3, .int x3)], [], (hr th tx ds nw ou ps nd us re va nu))) 1 (fun _ => rfl) (fun hc => ?_) (fun hc => ?_)
    · have h := (am_ift hc).symm.trans h
      refine am_Ev.same (st' := (206, [(0, .ref 0), (2, .int x2)], [], (hr th tx ds nw ou ps nd us re va nu))) (fun _ => rfl) ?_
      exact hκ _ _ _ _ _ h
    · have h := (am_iff hc).symm.trans h
      obtain ⟨hc, h⟩ := am_ifn h
      refine am_Ev.guard (b := decide (0 ≤ x3.toInt ∧ x3.toInt < (60 : Int))) (s1 := (134, [(0, .ref 0), (2, .int x2), (3, .int x3)], [.int (ds.2.2.2.2.2.2.2.2.1 x3.toNatClampNeg), .ref 0], (hr th tx ds nw ou ps nd us re va nu))) 5 (fun _ => rfl) hc ?_
      obtain ⟨q3, hq, h⟩ := Option.bind_eq_some_iff.mp h
      refine am_Ev.call (o := am_run rPT rML (n0 + 1) 31 [.ref 0, .int (ds.2.2.2.2.2.2.2.2.1 x3.toNatClampNeg)] (hr th tx ds nw ou ps nd us re va nu)) (kk := fun q => (137, [(0, .ref 0), (2, .int x2), (3, .int x3)], q.1.toList ++ [], q.2)) (q := (some (.int q3), (hr th tx ds nw ou ps nd us re va nu))) 1 (fun _ => rfl) (ev_M_valueOf_v hq) ?_
      obtain ⟨hc, h⟩ := am_ifn h
      refine am_Ev.guard (b := decide (0 ≤ x3.toInt ∧ x3.toInt < (60 : Int))) (s1 := (146, [(0, .ref 0), (2, .int x2), (3, .int x3), (4, .int q3)], [.int (ds.2.2.2.2.2.2.2.2.2 x3.toNatClampNeg), .ref 0], (hr th tx ds nw ou ps nd us re va nu))) 6 (fun _ => rfl) hc ?_
      obtain ⟨q4, hq, h⟩ := Option.bind_eq_some_iff.mp h
      refine am_Ev.call (o := am_run rPT rML (n0 + 1) 31 [.ref 0, .int (ds.2.2.2.2.2.2.2.2.2 x3.toNatClampNeg)] (hr th tx ds nw ou ps nd us re va nu)) (kk := fun q => (149, [(0, .ref 0), (2, .int x2), (3, .int x3), (4, .int q3)], q.1.toList ++ [], q.2)) (q := (some (.int q4), (hr th tx ds nw ou ps nd us re va nu))) 1 (fun _ => rfl) (ev_M_valueOf_v hq) ?_
      obtain ⟨hc, h⟩ := am_ifn h
      refine am_Ev.guard (b := decide (0 ≤ x3.toInt ∧ x3.toInt < (60 : Int))) (s1 := (161, [(0, .ref 0), (2, .int x2), (3, .int x3), (4, .int q3), (5, .int q4)], [.int (ds.2.2.2.2.2.2.2.1 x3.toNatClampNeg), .ref 27], (hr th tx ds nw ou ps nd us re va nu))) 7 (fun _ => rfl) hc ?_
      obtain ⟨hc, h⟩ := am_ifn h
      refine am_Ev.guard (b := decide (¬ (2 : Int32) = 0)) (s1 := (163, [(0, .ref 0), (2, .int x2), (3, .int x3), (4, .int q3), (5, .int q4)], [.int ((ds.2.2.2.2.2.2.2.1 x3.toNatClampNeg) / (2 : Int32)), .ref 27], (hr th tx ds nw ou ps nd us re va nu))) 2 (fun _ => rfl) hc ?_
      obtain ⟨hc, h⟩ := am_ifn h
      refine am_Ev.guard (b := decide (0 ≤ ((ds.2.2.2.2.2.2.2.1 x3.toNatClampNeg) / (2 : Int32)).toInt ∧ ((ds.2.2.2.2.2.2.2.1 x3.toNatClampNeg) / (2 : Int32)).toInt < (100 : Int))) (s1 := (164, [(0, .ref 0), (2, .int x2), (3, .int x3), (4, .int q3), (5, .int q4)], [.int (va (((ds.2.2.2.2.2.2.2.1 x3.toNatClampNeg) / (2 : Int32)).toNatClampNeg))], (hr th tx ds nw ou ps nd us re va nu))) 1 (fun _ => rfl) hc ?_
      refine am_Ev.fork (b := decide ((va (((ds.2.2.2.2.2.2.2.1 x3.toNatClampNeg) / (2 : Int32)).toNatClampNeg)) = (-1 : Int32))) (s1 := (168, [(0, .ref 0), (2, .int x2), (3, .int x3), (4, .int q3), (5, .int q4)], [], (hr th tx ds nw ou ps nd us re va nu))) (s2 := (200, [(0, .ref 0), (2, .int x2), (3, .int x3), (4, .int q3), (5, .int q4)], [], (hr th tx ds nw ou ps nd us re va nu))) 2 (fun _ => rfl) (fun hc => ?_) (fun hc => ?_)
      · have h := (am_ift hc).symm.trans h
        refine am_Ev.fork (b := decide (q3 = (-1 : Int32))) (s1 := (200, [(0, .ref 0), (2, .int x2), (3, .int x3), (4, .int q3), (5, .int q4)], [], (hr th tx ds nw ou ps nd us re va nu))) (s2 := (174, [(0, .ref 0), (2, .int x2), (3, .int x3), (4, .int q3), (5, .int q4)], [], (hr th tx ds nw ou ps nd us re va nu))) 3 (fun _ => rfl) (fun hc => ?_) (fun hc => ?_)
        · have h := (am_ift hc).symm.trans h
          refine am_Ev.go 2 (st' := (117, [(0, .ref 0), (2, .int x2), (3, .int (x3 + 1)), (4, .int q3), (5, .int q4)], [], (hr th tx ds nw ou ps nd us re va nu))) (fun _ => rfl) ?_
          refine am_Ev.same (st' := (117, [(0, .ref 0), (2, .int x2), (3, .int (x3 + 1))], [], (hr th tx ds nw ou ps nd us re va nu))) (fun _ => rfl) ?_
          exact ih _ _ _ _ _ _ h
        · have h := (am_iff hc).symm.trans h
          refine am_Ev.fork (b := decide (q4 = (-1 : Int32))) (s1 := (200, [(0, .ref 0), (2, .int x2), (3, .int x3), (4, .int q3), (5, .int q4)], [], (hr th tx ds nw ou ps nd us re va nu))) (s2 := (180, [(0, .ref 0), (2, .int x2), (3, .int x3), (4, .int q3), (5, .int q4)], [], (hr th tx ds nw ou ps nd us re va nu))) 3 (fun _ => rfl) (fun hc => ?_) (fun hc => ?_)
          · have h := (am_ift hc).symm.trans h
            refine am_Ev.go 2 (st' := (117, [(0, .ref 0), (2, .int x2), (3, .int (x3 + 1)), (4, .int q3), (5, .int q4)], [], (hr th tx ds nw ou ps nd us re va nu))) (fun _ => rfl) ?_
            refine am_Ev.same (st' := (117, [(0, .ref 0), (2, .int x2), (3, .int (x3 + 1))], [], (hr th tx ds nw ou ps nd us re va nu))) (fun _ => rfl) ?_
            exact ih _ _ _ _ _ _ h
          · have h := (am_iff hc).symm.trans h
            obtain ⟨hc, h⟩ := am_ifn h
            refine am_Ev.guard (b := decide (0 ≤ x3.toInt ∧ x3.toInt < (60 : Int))) (s1 := (190, [(0, .ref 0), (2, .int x2), (3, .int x3), (4, .int q3), (5, .int q4)], [.int (ds.2.2.2.2.2.2.2.1 x3.toNatClampNeg), .ref 27], (hr th tx ds nw ou ps nd us re va nu))) 6 (fun _ => rfl) hc ?_
            obtain ⟨hc, h⟩ := am_ifn h
            refine am_Ev.guard (b := decide (¬ (2 : Int32) = 0)) (s1 := (192, [(0, .ref 0), (2, .int x2), (3, .int x3), (4, .int q3), (5, .int q4)], [.int ((ds.2.2.2.2.2.2.2.1 x3.toNatClampNeg) / (2 : Int32)), .ref 27], (hr th tx ds nw ou ps nd us re va nu))) 2 (fun _ => rfl) hc ?_
            obtain ⟨hc, h⟩ := am_ifn h
            refine am_Ev.guard (b := decide (0 ≤ ((ds.2.2.2.2.2.2.2.1 x3.toNatClampNeg) / (2 : Int32)).toInt ∧ ((ds.2.2.2.2.2.2.2.1 x3.toNatClampNeg) / (2 : Int32)).toInt < (100 : Int))) (s1 := (198, [(0, .ref 0), (2, .int x2), (3, .int x3), (4, .int q3), (5, .int q4)], [], (hr th tx ds nw ou ps nd us re (upd va ((ds.2.2.2.2.2.2.2.1 x3.toNatClampNeg) / (2 : Int32)).toNatClampNeg ((q3 &&& q4))) nu))) 4 (fun _ => rfl) hc ?_
            refine am_Ev.go 4 (st' := (117, [(0, .ref 0), (2, .int 1), (3, .int (x3 + 1)), (4, .int q3), (5, .int q4)], [], (hr th tx ds nw ou ps nd us re (upd va ((ds.2.2.2.2.2.2.2.1 x3.toNatClampNeg) / (2 : Int32)).toNatClampNeg ((q3 &&& q4))) nu))) (fun _ => rfl) ?_
            refine am_Ev.same (st' := (117, [(0, .ref 0), (2, .int 1), (3, .int (x3 + 1))], [], (hr th tx ds nw ou ps nd us re (upd va ((ds.2.2.2.2.2.2.2.1 x3.toNatClampNeg) / (2 : Int32)).toNatClampNeg ((q3 &&& q4))) nu))) (fun _ => rfl) ?_
            exact ih _ _ _ _ _ _ h
      · have h := (am_iff hc).symm.trans h
        refine am_Ev.go 2 (st' := (117, [(0, .ref 0), (2, .int x2), (3, .int (x3 + 1)), (4, .int q3), (5, .int q4)], [], (hr th tx ds nw ou ps nd us re va nu))) (fun _ => rfl) ?_
        refine am_Ev.same (st' := (117, [(0, .ref 0), (2, .int x2), (3, .int (x3 + 1))], [], (hr th tx ds nw ou ps nd us re va nu))) (fun _ => rfl) ?_
        exact ih _ _ _ _ _ _ h
theorem ev_M_cycle_109_v {n0 : Nat} {tx : Mtx} {ou : Mou} {ps : Mps} {nd : Mnd} {us : Mus} {re : Mre} {nu : Mnu} {ds : Mds} {κ : Mth → Mnw → Mva → Option (Int32 × Mth × Mnw × Mva)} (hκ : ∀ (th : Mth) (nw : Mnw) (va : Mva) (res : Int32 × Mth × Mnw × Mva), κ th nw va = some res → am_Ev (tb_M_cycle (am_run rPT rML (n0 + 1))) (209, [(0, .ref 0)], [], (hr th tx ds nw ou ps nd us re va nu)) (some (.int res.1), (hr res.2.1 tx ds res.2.2.1 ou ps nd us re res.2.2.2 nu))) : ∀ (n : Nat) (x2 : Int32) (th : Mth) (nw : Mnw) (va : Mva) (res : Int32 × Mth × Mnw × Mva), fn_M_cycle_109 ds κ n x2 th nw va = some res → am_Ev (tb_M_cycle (am_run rPT rML (n0 + 1))) (109, [(0, .ref 0), (2, .int x2)], [], (hr th tx ds nw ou ps nd us re va nu)) (some (.int res.1), (hr res.2.1 tx ds res.2.2.1 ou ps nd us re res.2.2.2 nu)) := by
  intro n
  induction n with
  | zero => intro x2 th nw va res h; unfold fn_M_cycle_109 at h; cases h
  | succ n ih =>
    intro x2 th nw va res h
    unfold fn_M_cycle_109 at h
    refine am_Ev.fork (b := decide (x2 = 0)) (s1 := (209, [(0, .ref 0), (2, .int x2)], [], (hr th tx ds nw ou ps nd us re va nu))) (s2 := (113, [(0, .ref 0), (2, .int x2)], [], (hr th tx ds nw ou ps nd us re va nu))) 2 (fun _ => rfl) (fun hc => ?_) (fun hc => ?_)
    · have h := (am_ift hc).symm.trans h
      refine am_Ev.same (st' := (209, [(0, .ref 0)], [], (hr th tx ds nw ou ps nd us re va nu))) (fun _ => rfl) ?_
      exact hκ _ _ _ _ h
    · have h := (am_iff hc).symm.trans h
      refine am_Ev.go 4 (st' := (117, [(0, .ref 0), (2, .int 0), (3, .int 0)], [], (hr th tx ds nw ou ps nd us re va nu))) (fun _ => rfl) ?_
      refine ev_M_cycle_117_v ?_ _ _ _ _ _ _ _ h
      intro x2_6 th_6 nw_6 va_6 res h
      try dsimp only at h
      refine am_Ev.go 1 (st' := (109, [(0, .ref 0), (2, .int x2_6)], [], (hr th_6 tx ds nw_6 ou ps nd us re va_6 nu))) (fun _ => rfl) ?_
      exact ih _ _ _ _ _ h
theorem ev_M_cycle_72_v {n0 : Nat} {tx : Mtx} {ou : Mou} {ps : Mps} {nd : Mnd} {us : Mus} {re : Mre} {nu : Mnu} {ds : Mds} {κ : Mth → Mnw → Mva → Option (Int32 × Mth × Mnw × Mva)} (hκ : ∀ (th : Mth) (nw : Mnw) (va : Mva) (res : Int32 × Mth × Mnw × Mva), κ th nw va = some res → am_Ev (tb_M_cycle (am_run rPT rML (n0 + 1))) (107, [(0, .ref 0)], [], (hr th tx ds nw ou ps nd us re va nu)) (some (.int res.1), (hr res.2.1 tx ds res.2.2.1 ou ps nd us re res.2.2.2 nu))) : ∀ (n : Nat) (x2 : Int32) (th : Mth) (nw : Mnw) (va : Mva) (res : Int32 × Mth × Mnw × Mva), fn_M_cycle_72 ds κ n x2 th nw va = some res → am_Ev (tb_M_cycle (am_run rPT rML (n0 + 1))) (72, [(0, .ref 0), (2, .int x2)], [], (hr th tx ds nw ou ps nd us re va nu)) (some (.int res.1), (hr res.2.1 tx ds res.2.2.1 ou ps nd us re res.2.2.2 nu)) := by
  intro n
  induction n with
  | zero => intro x2 th nw va res h; unfold fn_M_cycle_72 at h; cases h
  | succ n ih =>
    intro x2 th nw va res h
    unfold fn_M_cycle_72 at h
    obtain ⟨hc, h⟩ := am_ifn h
    refine am_Ev.guard (b := decide (0 ≤ (1 : Int32).toInt ∧ (1 : Int32).toInt < (4 : Int))) (s1 := (79, [(0, .ref 0), (2, .int x2)], [.int (ds.2.1 ((1 : Int32).toNatClampNeg)), .int x2], (hr th tx ds nw ou ps nd us re va nu))) 5 (fun _ => rfl) hc ?_
    refine am_Ev.fork (b := decide ((ds.2.1 ((1 : Int32).toNatClampNeg)) ≤ x2)) (s1 := (107, [(0, .ref 0), (2, .int x2)], [], (hr th tx ds nw ou ps nd us re va nu))) (s2 := (82, [(0, .ref 0), (2, .int x2)], [], (hr th tx ds nw ou ps nd us re va nu))) 1 (fun _ => rfl) (fun hc => ?_) (fun hc => ?_)
    · have h := (am_ift hc).symm.trans h
      refine am_Ev.same (st' := (107, [(0, .ref 0)], [], (hr th tx ds nw ou ps nd us re va nu))) (fun _ => rfl) ?_
      exact hκ _ _ _ _ h
    · have h := (am_iff hc).symm.trans h
      obtain ⟨hc, h⟩ := am_ifn h
      refine am_Ev.guard (b := decide (0 ≤ x2.toInt ∧ x2.toInt < (8 : Int))) (s1 := (92, [(0, .ref 0), (2, .int x2)], [.int (ds.2.2.2.1 x2.toNatClampNeg), .ref 27], (hr th tx ds nw ou ps nd us re va nu))) 6 (fun _ => rfl) hc ?_
      obtain ⟨hc, h⟩ := am_ifn h
      refine am_Ev.guard (b := decide (¬ (2 : Int32) = 0)) (s1 := (94, [(0, .ref 0), (2, .int x2)], [.int ((ds.2.2.2.1 x2.toNatClampNeg) / (2 : Int32)), .ref 27], (hr th tx ds nw ou ps nd us re va nu))) 2 (fun _ => rfl) hc ?_
      obtain ⟨hc, h⟩ := am_ifn h
      refine am_Ev.guard (b := decide (0 ≤ x2.toInt ∧ x2.toInt < (8 : Int))) (s1 := (100, [(0, .ref 0), (2, .int x2)], [.int (nw x2.toNatClampNeg), .int ((ds.2.2.2.1 x2.toNatClampNeg) / (2 : Int32)), .ref 27], (hr th tx ds nw ou ps nd us re va nu))) 4 (fun _ => rfl) hc ?_
      obtain ⟨hc, h⟩ := am_ifn h
      refine am_Ev.guard (b := decide (0 ≤ ((ds.2.2.2.1 x2.toNatClampNeg) / (2 : Int32)).toInt ∧ ((ds.2.2.2.1 x2.toNatClampNeg) / (2 : Int32)).toInt < (100 : Int))) (s1 := (101, [(0, .ref 0), (2, .int x2)], [], (hr th tx ds nw ou ps nd us re (upd va ((ds.2.2.2.1 x2.toNatClampNeg) / (2 : Int32)).toNatClampNeg ((nw x2.toNatClampNeg))) nu))) 1 (fun _ => rfl) hc ?_
      refine am_Ev.go 2 (st' := (72, [(0, .ref 0), (2, .int (x2 + 1))], [], (hr th tx ds nw ou ps nd us re (upd va ((ds.2.2.2.1 x2.toNatClampNeg) / (2 : Int32)).toNatClampNeg ((nw x2.toNatClampNeg))) nu))) (fun _ => rfl) ?_
      exact ih _ _ _ _ _ h
theorem ev_M_cycle_36_v {n0 : Nat} {tx : Mtx} {ou : Mou} {ps : Mps} {nd : Mnd} {us : Mus} {re : Mre} {nu : Mnu} {x1 : Int32} {ds : Mds} {κ : Mth → Mnw → Mva → Option (Int32 × Mth × Mnw × Mva)} (hκ : ∀ (th : Mth) (nw : Mnw) (va : Mva) (res : Int32 × Mth × Mnw × Mva), κ th nw va = some res → am_Ev (tb_M_cycle (am_run rPT rML (n0 + 1))) (70, [(0, .ref 0)], [], (hr th tx ds nw ou ps nd us re va nu)) (some (.int res.1), (hr res.2.1 tx ds res.2.2.1 ou ps nd us re res.2.2.2 nu))) : ∀ (n : Nat) (x2 : Int32) (th : Mth) (nw : Mnw) (va : Mva) (res : Int32 × Mth × Mnw × Mva), fn_M_cycle_36 x1 ds κ n x2 th nw va = some res → am_Ev (tb_M_cycle (am_run rPT rML (n0 + 1))) (36, [(0, .ref 0), (1, .int x1), (2, .int x2)], [], (hr th tx ds nw ou ps nd us re va nu)) (some (.int res.1), (hr res.2.1 tx ds res.2.2.1 ou ps nd us re res.2.2.2 nu)) := by
  intro n
  induction n with
  | zero => intro x2 th nw va res h; unfold fn_M_cycle_36 at h; cases h
  | succ n ih =>
    intro x2 th nw va res h
    unfold fn_M_cycle_36 at h
    obtain ⟨hc, h⟩ := am_ifn h
    refine am_Ev.guard (b := decide (0 ≤ (0 : Int32).toInt ∧ (0 : Int32).toInt < (4 : Int))) (s1 := (43, [(0, .ref 0), (1, .int x1), (2, .int x2)], [.int (ds.2.1 ((0 : Int32).toNatClampNeg)), .int x2], (hr th tx ds nw ou ps nd us re va nu))) 5 (fun _ => rfl) hc ?_
    refine am_Ev.fork (b := decide ((ds.2.1 ((0 : Int32).toNatClampNeg)) ≤ x2)) (s1 := (70, [(0, .ref 0), (1, .int x1), (2, .int x2)], [], (hr th tx ds nw ou ps nd us re va nu))) (s2 := (46, [(0, .ref 0), (1, .int x1), (2, .int x2)], [], (hr th tx ds nw ou ps nd us re va nu))) 1 (fun _ => rfl) (fun hc => ?_) (fun hc => ?_)
    · have h := (am_ift hc).symm.trans h
      refine am_Ev.same (st' := (70, [(0, .ref 0)], [], (hr th tx ds nw ou ps nd us re va nu))) (fun _ => rfl) ?_
      exact hκ _ _ _ _ h
    · have h := (am_iff hc).symm.trans h
      obtain ⟨hc, h⟩ := am_ifn h
      refine am_Ev.guard (b := decide (0 ≤ x2.toInt ∧ x2.toInt < (8 : Int))) (s1 := (56, [(0, .ref 0), (1, .int x1), (2, .int x2)], [.int (ds.2.2.1 x2.toNatClampNeg), .ref 27], (hr th tx ds nw ou ps nd us re va nu))) 6 (fun _ => rfl) hc ?_
      obtain ⟨hc, h⟩ := am_ifn h
      refine am_Ev.guard (b := decide (¬ (2 : Int32) = 0)) (s1 := (58, [(0, .ref 0), (1, .int x1), (2, .int x2)], [.int ((ds.2.2.1 x2.toNatClampNeg) / (2 : Int32)), .ref 27], (hr th tx ds nw ou ps nd us re va nu))) 2 (fun _ => rfl) hc ?_
      obtain ⟨hc, h⟩ := am_ifn h
      refine am_Ev.guard (b := decide (0 ≤ ((ds.2.2.1 x2.toNatClampNeg) / (2 : Int32)).toInt ∧ ((ds.2.2.1 x2.toNatClampNeg) / (2 : Int32)).toInt < (100 : Int))) (s1 := (64, [(0, .ref 0), (1, .int x1), (2, .int x2)], [], (hr th tx ds nw ou ps nd us re (upd va ((ds.2.2.1 x2.toNatClampNeg) / (2 : Int32)).toNatClampNeg (((x1 >>> (x2 &&& 31)) &&& (1 : Int32)))) nu))) 6 (fun _ => rfl) hc ?_
      refine am_Ev.go 2 (st' := (36, [(0, .ref 0), (1, .int x1), (2, .int (x2 + 1))], [], (hr th tx ds nw ou ps nd us re (upd va ((ds.2.2.1 x2.toNatClampNeg) / (2 : Int32)).toNatClampNeg (((x1 >>> (x2 &&& 31)) &&& (1 : Int32)))) nu))) (fun _ => rfl) ?_
      exact ih _ _ _ _ _ h
theorem ev_M_cycle_7_v {n0 : Nat} {tx : Mtx} {ou : Mou} {ps : Mps} {nd : Mnd} {us : Mus} {re : Mre} {nu : Mnu} {x1 : Int32} {ds : Mds} {κ : Mth → Mnw → Mva → Option (Int32 × Mth × Mnw × Mva)} (hκ : ∀ (th : Mth) (nw : Mnw) (va : Mva) (res : Int32 × Mth × Mnw × Mva), κ th nw va = some res → am_Ev (tb_M_cycle (am_run rPT rML (n0 + 1))) (34, [(0, .ref 0), (1, .int x1)], [], (hr th tx ds nw ou ps nd us re va nu)) (some (.int res.1), (hr res.2.1 tx ds res.2.2.1 ou ps nd us re res.2.2.2 nu))) : ∀ (n : Nat) (x2 : Int32) (th : Mth) (nw : Mnw) (va : Mva) (res : Int32 × Mth × Mnw × Mva), fn_M_cycle_7 x1 ds κ n x2 th nw va = some res → am_Ev (tb_M_cycle (am_run rPT rML (n0 + 1))) (7, [(0, .ref 0), (1, .int x1), (2, .int x2)], [], (hr th tx ds nw ou ps nd us re va nu)) (some (.int res.1), (hr res.2.1 tx ds res.2.2.1 ou ps nd us re res.2.2.2 nu)) := by
  intro n
  induction n with
  | zero => intro x2 th nw va res h; unfold fn_M_cycle_7 at h; cases h
  | succ n ih =>
    intro x2 th nw va res h
    unfold fn_M_cycle_7 at h
    refine am_Ev.fork (b := decide ((100 : Int32) ≤ x2)) (s1 := (34, [(0, .ref 0), (1, .int x1), (2, .int x2)], [], (hr th tx ds nw ou ps nd us re va nu))) (s2 := (13, [(0, .ref 0), (1, .int x1), (2, .int x2)], [], (hr th tx ds nw ou ps nd us re va nu))) 3 (fun _ => rfl) (fun hc => ?_) (fun hc => ?_)
    · have h := (am_ift hc).symm.trans h
      refine am_Ev.same (st' := (34, [(0, .ref 0), (1, .int x1)], [], (hr th tx ds nw ou ps nd us re va nu))) (fun _ => rfl) ?_
      exact hκ _ _ _ _ h
    · have h := (am_iff hc).symm.trans h
      refine am_Ev.fork (b := decide (x2 = 0)) (s1 := (22, [(0, .ref 0), (1, .int x1), (2, .int x2)], [.int x2, .ref 27], (hr th tx ds nw ou ps nd us re va nu))) (s2 := (26, [(0, .ref 0), (1, .int x1), (2, .int x2)], [.int x2, .ref 27], (hr th tx ds nw ou ps nd us re va nu))) 5 (fun _ => rfl) (fun hc => ?_) (fun hc => ?_)
      · have h := (am_ift hc).symm.trans h
        obtain ⟨hc, h⟩ := am_ifn h
        refine am_Ev.guard (b := decide (0 ≤ x2.toInt ∧ x2.toInt < (100 : Int))) (s1 := (28, [(0, .ref 0), (1, .int x1), (2, .int x2)], [], (hr th tx ds nw ou ps nd us re (upd va x2.toNatClampNeg ((0 : Int32))) nu))) 3 (fun _ => rfl) hc ?_
        refine am_Ev.go 2 (st' := (7, [(0, .ref 0), (1, .int x1), (2, .int (x2 + 1))], [], (hr th tx ds nw ou ps nd us re (upd va x2.toNatClampNeg ((0 : Int32))) nu))) (fun _ => rfl) ?_
        exact ih _ _ _ _ _ h
      · have h := (am_iff hc).symm.trans h
        obtain ⟨hc, h⟩ := am_ifn h
        refine am_Ev.guard (b := decide (0 ≤ x2.toInt ∧ x2.toInt < (100 : Int))) (s1 := (28, [(0, .ref 0), (1, .int x1), (2, .int x2)], [], (hr th tx ds nw ou ps nd us re (upd va x2.toNatClampNeg ((-1 : Int32))) nu))) 2 (fun _ => rfl) hc ?_
        refine am_Ev.go 2 (st' := (7, [(0, .ref 0), (1, .int x1), (2, .int (x2 + 1))], [], (hr th tx ds nw ou ps nd us re (upd va x2.toNatClampNeg ((-1 : Int32))) nu))) (fun _ => rfl) ?_
        exact ih _ _ _ _ _ h
theorem ev_M_cycle_v {n0 : Nat} {tx : Mtx} {ou : Mou} {ps : Mps} {nd : Mnd} {us : Mus} {re : Mre} {nu : Mnu} {x1 : Int32} {th : Mth} {ds : Mds} {nw : Mnw} {va : Mva} {res : Int32 × Mth × Mnw × Mva} (h : fn_M_cycle x1 th ds nw va = some res) : am_run rPT rML (n0 + 2) 32 [.ref 0, .int x1] (hr th tx ds nw ou ps nd us re va nu) = some (some (.int res.1), (hr res.2.1 tx ds res.2.2.1 ou ps nd us re res.2.2.2 nu)) := by
  refine am_run_of (d := n0 + 1) rfl ?_
  show am_Ev (tb_M_cycle (am_run rPT rML (n0 + 1))) (0, [(0, .ref 0), (1, .int x1)], [], (hr th tx ds nw ou ps nd us re va nu)) (some (.int res.1), (hr res.2.1 tx ds res.2.2.1 ou ps nd us re res.2.2.2 nu))
  unfold fn_M_cycle at h
  refine am_Ev.go 5 (st' := (7, [(0, .ref 0), (1, .int x1), (2, .int 0)], [], (hr 0 tx ds nw ou ps nd us re va nu))) (fun _ => rfl) ?_
  refine ev_M_cycle_7_v ?_ _ _ _ _ _ _ h
  intro th_7 nw_7 va_7 res h
  try dsimp only at h
  refine am_Ev.go 2 (st' := (36, [(0, .ref 0), (1, .int x1), (2, .int 0)], [], (hr th_7 tx ds nw_7 ou ps nd us re va_7 nu))) (fun _ => rfl) ?_
  refine ev_M_cycle_36_v ?_ _ _ _ _ _ _ h
  intro th_8 nw_8 va_8 res h
  try dsimp only at h
  refine am_Ev.go 2 (st' := (72, [(0, .ref 0), (2, .int 0)], [], (hr th_8 tx ds nw_8 ou ps nd us re va_8 nu))) (fun _ => rfl) ?_
  refine ev_M_cycle_72_v ?_ _ _ _ _ _ _ h
  intro th_9 nw_9 va_9 res h
  try dsimp only at h
  refine am_Ev.go 2 (st' := (109, [(0, .ref 0), (2, .int 1)], [], (hr th_9 tx ds nw_9 ou ps nd us re va_9 nu))) (fun _ => rfl) ?_
  refine ev_M_cycle_109_v ?_ _ _ _ _ _ _ h
  intro th_10 nw_10 va_10 res h
  try dsimp only at h
  refine am_Ev.go 4 (st' := (214, [(0, .ref 0), (3, .int 0), (4, .int 0)], [], (hr th_10 tx ds nw_10 ou ps nd us re va_10 nu))) (fun _ => rfl) ?_
  refine ev_M_cycle_214_v ?_ _ _ _ _ _ _ _ h
  intro x3_11 th_11 nw_11 va_11 res h
  try dsimp only at h
  refine am_Ev.go 2 (st' := (251, [(0, .ref 0), (3, .int x3_11), (4, .int 0)], [], (hr th_11 tx ds nw_11 ou ps nd us re va_11 nu))) (fun _ => rfl) ?_
  refine ev_M_cycle_251_v ?_ _ _ _ _ _ _ h
  intro th_12 nw_12 va_12 res h
  try dsimp only at h
  cases h
  exact am_Ev.done 2 rfl
theorem ev_M_number_131_v {n0 : Nat} {th : Mth} {ds : Mds} {nw : Mnw} {ou : Mou} {nd : Mnd} {us : Mus} {re : Mre} {va : Mva} {nu : Mnu} {x1 : Int32} {x2 : Int32} {tx : Mtx} {ps : Mps} {res : Int32 × Mps} (h : fn_M_number_131 x1 x2 tx ps = some res) : am_Ev (tb_M_number (am_run rPT rML (n0 + 2))) (131, [(0, .ref 0), (1, .int x1), (2, .int x2)], [], (hr th tx ds nw ou ps nd us re va nu)) (some (.int res.1), (hr th tx ds nw ou res.2 nd us re va nu)) := by
  unfold fn_M_number_131 at h
  refine am_Ev.fork (b := decide (x2 ≤ x1)) (s1 := (144, [(0, .ref 0), (1, .int x1), (2, .int x2)], [], (hr th tx ds nw ou ps nd us re va nu))) (s2 := (136, [(0, .ref 0), (1, .int x1), (2, .int x2)], [], (hr th tx ds nw ou ps nd us re va nu))) 3 (fun _ => rfl) (fun hc => ?_) (fun hc => ?_)
  · have h := (am_ift hc).symm.trans h
    cases h
    exact am_Ev.done 2 rfl
  · have h := (am_iff hc).symm.trans h
    obtain ⟨q1, hq, h⟩ := Option.bind_eq_some_iff.mp h
    refine am_Ev.go 3 (st' := (141, [(0, .ref 0), (1, .int x1), (2, .int x2)], [.int ps.2.2, .ref 0], (hr th tx ds nw ou ps nd us re va nu))) (fun _ => rfl) ?_
    refine am_Ev.call (o := am_run rPT rML (n0 + 2) 2 [.ref 0, .int ps.2.2] (hr th tx ds nw ou ps nd us re va nu)) (kk := fun q => (144, [(0, .ref 0), (1, .int x1), (2, .int x2)], q.1.toList ++ [], q.2)) (q := (none, (hr th tx ds nw ou q1 nd us re va nu))) 1 (fun _ => rfl) (ev_M_bad_v hq) ?_
    cases h
    exact am_Ev.done 2 rfl
theorem ev_M_number_41_v {n0 : Nat} {th : Mth} {ds : Mds} {nw : Mnw} {ou : Mou} {nd : Mnd} {us : Mus} {re : Mre} {va : Mva} {nu : Mnu} {x1 : Int32} {tx : Mtx} {κ : Int32 → Mps → Option (Int32 × Mps)} (hκ : ∀ (x2 : Int32) (ps : Mps) (res : Int32 × Mps), κ x2 ps = some res → am_Ev (tb_M_number (am_run rPT rML (n0 + 2))) (131, [(0, .ref 0), (1, .int x1), (2, .int x2)], [], (hr th tx ds nw ou ps nd us re va nu)) (some (.int res.1), (hr th tx ds nw ou res.2 nd us re va nu))) : ∀ (n : Nat) (x2 : Int32) (ps : Mps) (res : Int32 × Mps), fn_M_number_41 x1 tx κ n x2 ps = some res → am_Ev (tb_M_number (am_run rPT rML (n0 + 2))) (41, [(0, .ref 0), (1, .int x1), (2, .int x2)], [], (hr th tx ds nw ou ps nd us re va nu)) (some (.int res.1), (hr th tx ds nw ou res.2 nd us re va nu)) := by
  intro n
  induction n with
  | zero => intro x2 ps res h; unfold fn_M_number_41 at h; cases h
  | succ n ih =>
    intro x2 ps res h
    unfold fn_M_number_41 at h
    obtain ⟨q2, hq, h⟩ := Option.bind_eq_some_iff.mp h
    refine am_Ev.go 3 (st' := (46, [(0, .ref 0), (1, .int x1), (2, .int x2)], [.int ps.1, .ref 0], (hr th tx ds nw ou ps nd us re va nu))) (fun _ => rfl) ?_
    refine am_Ev.call (o := am_run rPT rML (n0 + 2) 4 [.ref 0, .int ps.1] (hr th tx ds nw ou ps nd us re va nu)) (kk := fun q => (49, [(0, .ref 0), (1, .int x1), (2, .int x2)], q.1.toList ++ [], q.2)) (q := (some (.int q2), (hr th tx ds nw ou ps nd us re va nu))) 1 (fun _ => rfl) (ev_M_isDigit_v hq) ?_
    refine am_Ev.fork (b := decide (q2 = 0)) (s1 := (131, [(0, .ref 0), (1, .int x1), (2, .int x2)], [], (hr th tx ds nw ou ps nd us re va nu))) (s2 := (52, [(0, .ref 0), (1, .int x1), (2, .int x2)], [], (hr th tx ds nw ou ps nd us re va nu))) 1 (fun _ => rfl) (fun hc => ?_) (fun hc => ?_)
    · have h := (am_ift hc).symm.trans h
      exact hκ _ _ _ h
    · have h := (am_iff hc).symm.trans h
      refine am_Ev.fork (b := decide (ps.1 = ps.2.2)) (s1 := (77, [(0, .ref 0), (1, .int x1), (2, .int x2)], [], (hr th tx ds nw ou ps nd us re va nu))) (s2 := (63, [(0, .ref 0), (1, .int x1), (2, .int x2)], [], (hr th tx ds nw ou ps nd us re va nu))) 5 (fun _ => rfl) (fun hc => ?_) (fun hc => ?_)
      · have h := (am_ift hc).symm.trans h
        refine am_Ev.fork (b := decide ((ps.1 - ps.2.2) = (4 : Int32))) (s1 := (90, [(0, .ref 0), (1, .int x1), (2, .int x2)], [], (hr th tx ds nw ou ps nd us re va nu))) (s2 := (100, [(0, .ref 0), (1, .int x1), (2, .int x2)], [], (hr th tx ds nw ou ps nd us re va nu))) 7 (fun _ => rfl) (fun hc => ?_) (fun hc => ?_)
        · have h := (am_ift hc).symm.trans h
          obtain ⟨q3, hq, h⟩ := Option.bind_eq_some_iff.mp h
          refine am_Ev.go 3 (st' := (95, [(0, .ref 0), (1, .int x1), (2, .int x2)], [.int ps.1, .ref 0], (hr th tx ds nw ou ps nd us re va nu))) (fun _ => rfl) ?_
          refine am_Ev.call (o := am_run rPT rML (n0 + 2) 2 [.ref 0, .int ps.1] (hr th tx ds nw ou ps nd us re va nu)) (kk := fun q => (98, [(0, .ref 0), (1, .int x1), (2, .int x2)], q.1.toList ++ [], q.2)) (q := (none, (hr th tx ds nw ou q3 nd us re va nu))) 1 (fun _ => rfl) (ev_M_bad_v hq) ?_
          cases h
          exact am_Ev.done 2 rfl
        · have h := (am_iff hc).symm.trans h
          obtain ⟨hc, h⟩ := am_ifn h
          refine am_Ev.guard (b := decide (0 ≤ ps.1.toInt ∧ ps.1.toInt < (1500 : Int))) (s1 := (113, [(0, .ref 0), (1, .int x1), (2, .int x2)], [.int (tx.1 ps.1.toNatClampNeg), .int ((10 : Int32) * x2)], (hr th tx ds nw ou ps nd us re va nu))) 8 (fun _ => rfl) hc ?_
          refine am_Ev.go 11 (st' := (41, [(0, .ref 0), (1, .int x1), (2, .int ((((10 : Int32) * x2) + (tx.1 ps.1.toNatClampNeg)) - (48 : Int32)))], [], (hr th tx ds nw ou (ps.1 + (1 : Int32), ps.2.1, ps.2.2) nd us re va nu))) (fun _ => rfl) ?_
          exact ih _ _ _ h
      · have h := (am_iff hc).symm.trans h
        obtain ⟨hc, h⟩ := am_ifn h
        refine am_Ev.guard (b := decide (0 ≤ ps.2.2.toInt ∧ ps.2.2.toInt < (1500 : Int))) (s1 := (72, [(0, .ref 0), (1, .int x1), (2, .int x2)], [.int (tx.1 ps.2.2.toNatClampNeg)], (hr th tx ds nw ou ps nd us re va nu))) 5 (fun _ => rfl) hc ?_
        refine am_Ev.fork (b := decide ((tx.1 ps.2.2.toNatClampNeg) = (48 : Int32))) (s1 := (131, [(0, .ref 0), (1, .int x1), (2, .int x2)], [], (hr th tx ds nw ou ps nd us re va nu))) (s2 := (77, [(0, .ref 0), (1, .int x1), (2, .int x2)], [], (hr th tx ds nw ou ps nd us re va nu))) 2 (fun _ => rfl) (fun hc => ?_) (fun hc => ?_)
        · have h := (am_ift hc).symm.trans h
          exact hκ _ _ _ h
        · have h := (am_iff hc).symm.trans h
          refine am_Ev.fork (b := decide ((ps.1 - ps.2.2) = (4 : Int32))) (s1 := (90, [(0, .ref 0), (1, .int x1), (2, .int x2)], [], (hr th tx ds nw ou ps nd us re va nu))) (s2 := (100, [(0, .ref 0), (1, .int x1), (2, .int x2)], [], (hr th tx ds nw ou ps nd us re va nu))) 7 (fun _ => rfl) (fun hc => ?_) (fun hc => ?_)
          · have h := (am_ift hc).symm.trans h
            obtain ⟨q4, hq, h⟩ := Option.bind_eq_some_iff.mp h
            refine am_Ev.go 3 (st' := (95, [(0, .ref 0), (1, .int x1), (2, .int x2)], [.int ps.1, .ref 0], (hr th tx ds nw ou ps nd us re va nu))) (fun _ => rfl) ?_
            refine am_Ev.call (o := am_run rPT rML (n0 + 2) 2 [.ref 0, .int ps.1] (hr th tx ds nw ou ps nd us re va nu)) (kk := fun q => (98, [(0, .ref 0), (1, .int x1), (2, .int x2)], q.1.toList ++ [], q.2)) (q := (none, (hr th tx ds nw ou q4 nd us re va nu))) 1 (fun _ => rfl) (ev_M_bad_v hq) ?_
            cases h
            exact am_Ev.done 2 rfl
          · have h := (am_iff hc).symm.trans h
            obtain ⟨hc, h⟩ := am_ifn h
            refine am_Ev.guard (b := decide (0 ≤ ps.1.toInt ∧ ps.1.toInt < (1500 : Int))) (s1 := (113, [(0, .ref 0), (1, .int x1), (2, .int x2)], [.int (tx.1 ps.1.toNatClampNeg), .int ((10 : Int32) * x2)], (hr th tx ds nw ou ps nd us re va nu))) 8 (fun _ => rfl) hc ?_
            refine am_Ev.go 11 (st' := (41, [(0, .ref 0), (1, .int x1), (2, .int ((((10 : Int32) * x2) + (tx.1 ps.1.toNatClampNeg)) - (48 : Int32)))], [], (hr th tx ds nw ou (ps.1 + (1 : Int32), ps.2.1, ps.2.2) nd us re va nu))) (fun _ => rfl) ?_
            exact ih _ _ _ h
theorem ev_M_number_v {n0 : Nat} {th : Mth} {ds : Mds} {nw : Mnw} {ou : Mou} {nd : Mnd} {us : Mus} {re : Mre} {va : Mva} {nu : Mnu} {x1 : Int32} {tx : Mtx} {ps : Mps} {res : Int32 × Mps} (h : fn_M_number x1 tx ps = some res) : am_run rPT rML (n0 + 3) 5 [.ref 0, .int x1] (hr th tx ds nw ou ps nd us re va nu) = some (some (.int res.1), (hr th tx ds nw ou res.2 nd us re va nu)) := by
  refine am_run_of (d := n0 + 2) rfl ?_
  show am_Ev (tb_M_number (am_run rPT rML (n0 + 2))) (0, [(0, .ref 0), (1, .int x1)], [], (hr th tx ds nw ou ps nd us re va nu)) (some (.int res.1), (hr th tx ds nw ou res.2 nd us re va nu))
  unfold fn_M_number at h
  refine am_Ev.fork (b := decide (ps.2.1 = (-1 : Int32))) (s1 := (10, [(0, .ref 0), (1, .int x1)], [], (hr th tx ds nw ou ps nd us re va nu))) (s2 := (8, [(0, .ref 0), (1, .int x1)], [], (hr th tx ds nw ou ps nd us re va nu))) 4 (fun _ => rfl) (fun hc => ?_) (fun hc => ?_)
  · have h := (am_ift hc).symm.trans h
    obtain ⟨q5, hq, h⟩ := Option.bind_eq_some_iff.mp h
    refine am_Ev.go 7 (st' := (23, [(0, .ref 0), (1, .int x1)], [.int ps.1, .ref 0], (hr th tx ds nw ou (ps.1, ps.2.1, ps.1) nd us re va nu))) (fun _ => rfl) ?_
    refine am_Ev.call (o := am_run rPT rML (n0 + 2) 4 [.ref 0, .int ps.1] (hr th tx ds nw ou (ps.1, ps.2.1, ps.1) nd us re va nu)) (kk := fun q => (26, [(0, .ref 0), (1, .int x1)], q.1.toList ++ [], q.2)) (q := (some (.int q5), (hr th tx ds nw ou (ps.1, ps.2.1, ps.1) nd us re va nu))) 1 (fun _ => rfl) (ev_M_isDigit_v hq) ?_
    refine am_Ev.fork (b := decide (q5 = 0)) (s1 := (29, [(0, .ref 0), (1, .int x1)], [], (hr th tx ds nw ou (ps.1, ps.2.1, ps.1) nd us re va nu))) (s2 := (39, [(0, .ref 0), (1, .int x1)], [], (hr th tx ds nw ou (ps.1, ps.2.1, ps.1) nd us re va nu))) 1 (fun _ => rfl) (fun hc => ?_) (fun hc => ?_)
    · have h := (am_ift hc).symm.trans h
      obtain ⟨q6, hq, h⟩ := Option.bind_eq_some_iff.mp h
      refine am_Ev.go 3 (st' := (34, [(0, .ref 0), (1, .int x1)], [.int ps.1, .ref 0], (hr th tx ds nw ou (ps.1, ps.2.1, ps.1) nd us re va nu))) (fun _ => rfl) ?_
      refine am_Ev.call (o := am_run rPT rML (n0 + 2) 2 [.ref 0, .int ps.1] (hr th tx ds nw ou (ps.1, ps.2.1, ps.1) nd us re va nu)) (kk := fun q => (37, [(0, .ref 0), (1, .int x1)], q.1.toList ++ [], q.2)) (q := (none, (hr th tx ds nw ou q6 nd us re va nu))) 1 (fun _ => rfl) (ev_M_bad_v hq) ?_
      cases h
      exact am_Ev.done 2 rfl
    · have h := (am_iff hc).symm.trans h
      refine am_Ev.go 2 (st' := (41, [(0, .ref 0), (1, .int x1), (2, .int 0)], [], (hr th tx ds nw ou (ps.1, ps.2.1, ps.1) nd us re va nu))) (fun _ => rfl) ?_
      refine ev_M_number_41_v ?_ _ _ _ _ h
      intro x2_8 ps_8 res h
      try dsimp only at h
      exact ev_M_number_131_v h
  · have h := (am_iff hc).symm.trans h
    cases h
    exact am_Ev.done 2 rfl
theorem ev_M_addNext_32_v {n0 : Nat} {th : Mth} {tx : Mtx} {nw : Mnw} {ps : Mps} {nd : Mnd} {us : Mus} {re : Mre} {va : Mva} {nu : Mnu} {ds : Mds} {ou : Mou} {res : Mou} (h : fn_M_addNext_32 ds ou = some res) : am_Ev (tb_M_addNext (am_run rPT rML (n0 + 2))) (32, [(0, .ref 0)], [], (hr th tx ds nw ou ps nd us re va nu)) (none, (hr th tx ds nw res ps nd us re va nu)) := by
  unfold fn_M_addNext_32 at h
  obtain ⟨q1, hq, h⟩ := Option.bind_eq_some_iff.mp h
  refine am_Ev.go 2 (st' := (35, [(0, .ref 0)], [.int 10, .ref 0], (hr th tx ds nw ou ps nd us re va nu))) (fun _ => rfl) ?_
  refine am_Ev.call (o := am_run rPT rML (n0 + 2) 24 [.ref 0, .int 10] (hr th tx ds nw ou ps nd us re va nu)) (kk := fun q => (38, [(0, .ref 0)], q.1.toList ++ [], q.2)) (q := (none, (hr th tx ds nw q1 ps nd us re va nu))) 1 (fun _ => rfl) (ev_M_add_v hq) ?_
  cases h
  exact am_Ev.done 1 rfl
theorem ev_M_addNext_v {n0 : Nat} {th : Mth} {tx : Mtx} {nw : Mnw} {ps : Mps} {nd : Mnd} {us : Mus} {re : Mre} {va : Mva} {nu : Mnu} {x1 : Int32} {ds : Mds} {ou : Mou} {res : Mou} (h : fn_M_addNext x1 ds ou = some res) : am_run rPT rML (n0 + 3) 26 [.ref 0, .int x1] (hr th tx ds nw ou ps nd us re va nu) = some (none, (hr th tx ds nw res ps nd us re va nu)) := by
  refine am_run_of (d := n0 + 2) rfl ?_
  show am_Ev (tb_M_addNext (am_run rPT rML (n0 + 2))) (0, [(0, .ref 0), (1, .int x1)], [], (hr th tx ds nw ou ps nd us re va nu)) (none, (hr th tx ds nw res ps nd us re va nu))
  unfold fn_M_addNext at h
  obtain ⟨hc, h⟩ := am_ifn h
  refine am_Ev.guard (b := decide (0 ≤ x1.toInt ∧ x1.toInt < (8 : Int))) (s1 := (7, [(0, .ref 0), (1, .int x1)], [.int (ds.2.2.2.2.1 x1.toNatClampNeg), .ref 0], (hr th tx ds nw ou ps nd us re va nu))) 5 (fun _ => rfl) hc ?_
  obtain ⟨q2, hq, h⟩ := Option.bind_eq_some_iff.mp h
  refine am_Ev.call (o := am_run rPT rML (n0 + 2) 25 [.ref 0, .int (ds.2.2.2.2.1 x1.toNatClampNeg)] (hr th tx ds nw ou ps nd us re va nu)) (kk := fun q => (10, [(0, .ref 0), (1, .int x1)], q.1.toList ++ [], q.2)) (q := (none, (hr th tx ds nw q2 ps nd us re va nu))) 1 (fun _ => rfl) (ev_M_addNumber_v hq) ?_
  obtain ⟨hc, h⟩ := am_ifn h
  refine am_Ev.guard (b := decide (0 ≤ x1.toInt ∧ x1.toInt < (8 : Int))) (s1 := (16, [(0, .ref 0), (1, .int x1)], [.int (ds.2.2.2.2.2.1 x1.toNatClampNeg)], (hr th tx ds nw q2 ps nd us re va nu))) 4 (fun _ => rfl) hc ?_
  refine am_Ev.fork (b := decide ((ds.2.2.2.2.2.1 x1.toNatClampNeg) = (1 : Int32))) (s1 := (20, [(0, .ref 0), (1, .int x1)], [], (hr th tx ds nw q2 ps nd us re va nu))) (s2 := (32, [(0, .ref 0), (1, .int x1)], [], (hr th tx ds nw q2 ps nd us re va nu))) 2 (fun _ => rfl) (fun hc => ?_) (fun hc => ?_)
  · have h := (am_ift hc).symm.trans h
    obtain ⟨q3, hq, h⟩ := Option.bind_eq_some_iff.mp h
    refine am_Ev.go 2 (st' := (23, [(0, .ref 0), (1, .int x1)], [.int 32, .ref 0], (hr th tx ds nw q2 ps nd us re va nu))) (fun _ => rfl) ?_
    refine am_Ev.call (o := am_run rPT rML (n0 + 2) 24 [.ref 0, .int 32] (hr th tx ds nw q2 ps nd us re va nu)) (kk := fun q => (26, [(0, .ref 0), (1, .int x1)], q.1.toList ++ [], q.2)) (q := (none, (hr th tx ds nw q3 ps nd us re va nu))) 1 (fun _ => rfl) (ev_M_add_v hq) ?_
    obtain ⟨q4, hq, h⟩ := Option.bind_eq_some_iff.mp h
    refine am_Ev.go 2 (st' := (29, [(0, .ref 0), (1, .int x1)], [.int 49, .ref 0], (hr th tx ds nw q3 ps nd us re va nu))) (fun _ => rfl) ?_
    refine am_Ev.call (o := am_run rPT rML (n0 + 2) 24 [.ref 0, .int 49] (hr th tx ds nw q3 ps nd us re va nu)) (kk := fun q => (32, [(0, .ref 0), (1, .int x1)], q.1.toList ++ [], q.2)) (q := (none, (hr th tx ds nw q4 ps nd us re va nu))) 1 (fun _ => rfl) (ev_M_add_v hq) ?_
    refine am_Ev.same (st' := (32, [(0, .ref 0)], [], (hr th tx ds nw q4 ps nd us re va nu))) (fun _ => rfl) ?_
    exact ev_M_addNext_32_v h
  · have h := (am_iff hc).symm.trans h
    refine am_Ev.same (st' := (32, [(0, .ref 0)], [], (hr th tx ds nw q2 ps nd us re va nu))) (fun _ => rfl) ?_
    exact ev_M_addNext_32_v h
theorem ev_M_literal_v {n0 : Nat} {th : Mth} {ds : Mds} {nw : Mnw} {ou : Mou} {re : Mre} {va : Mva} {nu : Mnu} {x1 : Int32} {tx : Mtx} {ps : Mps} {nd : Mnd} {us : Mus} {res : Int32 × Mps × Mus} (h : fn_M_literal x1 tx ps nd us = some res) : am_run rPT rML (n0 + 4) 6 [.ref 0, .int x1] (hr th tx ds nw ou ps nd us re va nu) = some (some (.int res.1), (hr th tx ds nw ou res.2.1 nd res.2.2 re va nu)) := by
  refine am_run_of (d := n0 + 3) rfl ?_
  show am_Ev (tb_M_literal (am_run rPT rML (n0 + 3))) (0, [(0, .ref 0), (1, .int x1)], [], (hr th tx ds nw ou ps nd us re va nu)) (some (.int res.1), (hr th tx ds nw ou res.2.1 nd res.2.2 re va nu))
  unfold fn_M_literal at h
  obtain ⟨q1, hq, h⟩ := Option.bind_eq_some_iff.mp h
  refine am_Ev.go 7 (st' := (9, [(0, .ref 0), (1, .int x1)], [.int (((2 : Int32) * nd.1) + (1 : Int32)), .ref 0], (hr th tx ds nw ou ps nd us re va nu))) (fun _ => rfl) ?_
  refine am_Ev.call (o := am_run rPT rML (n0 + 3) 5 [.ref 0, .int (((2 : Int32) * nd.1) + (1 : Int32))] (hr th tx ds nw ou ps nd us re va nu)) (kk := fun q => (12, [(0, .ref 0), (1, .int x1)], q.1.toList ++ [], q.2)) (q := (some (.int q1.1), (hr th tx ds nw ou q1.2 nd us re va nu))) 1 (fun _ => rfl) (ev_M_number_v hq) ?_
  refine am_Ev.fork (b := decide (q1.2.2.1 = (-1 : Int32))) (s1 := (21, [(0, .ref 0), (1, .int x1), (2, .int q1.1)], [], (hr th tx ds nw ou q1.2 nd us re va nu))) (s2 := (58, [(0, .ref 0), (1, .int x1), (2, .int q1.1)], [], (hr th tx ds nw ou q1.2 nd us re va nu))) 5 (fun _ => rfl) (fun hc => ?_) (fun hc => ?_)
  · have h := (am_ift hc).symm.trans h
    refine am_Ev.fork (b := decide (x1 = 0)) (s1 := (58, [(0, .ref 0), (1, .int x1), (2, .int q1.1)], [], (hr th tx ds nw ou q1.2 nd us re va nu))) (s2 := (25, [(0, .ref 0), (1, .int x1), (2, .int q1.1)], [], (hr th tx ds nw ou q1.2 nd us re va nu))) 2 (fun _ => rfl) (fun hc => ?_) (fun hc => ?_)
    · have h := (am_ift hc).symm.trans h
      cases h
      exact am_Ev.done 2 rfl
    · have h := (am_iff hc).symm.trans h
      obtain ⟨hc, h⟩ := am_ifn h
      refine am_Ev.guard (b := decide (0 ≤ us.2.2.2.2.toInt ∧ us.2.2.2.2.toInt < (140 : Int))) (s1 := (35, [(0, .ref 0), (1, .int x1), (2, .int q1.1)], [], (hr th tx ds nw ou q1.2 nd (us.1, us.2.1, upd us.2.2.1 us.2.2.2.2.toNatClampNeg q1.1, us.2.2.2.1, us.2.2.2.2) re va nu))) 6 (fun _ => rfl) hc ?_
      obtain ⟨hc, h⟩ := am_ifn h
      refine am_Ev.guard (b := decide (0 ≤ us.2.2.2.2.toInt ∧ us.2.2.2.2.toInt < (140 : Int))) (s1 := (48, [(0, .ref 0), (1, .int x1), (2, .int q1.1)], [], (hr th tx ds nw ou q1.2 nd (us.1, us.2.1, upd us.2.2.1 us.2.2.2.2.toNatClampNeg q1.1, upd us.2.2.2.1 us.2.2.2.2.toNatClampNeg q1.2.2.2, us.2.2.2.2) re va nu))) 7 (fun _ => rfl) hc ?_
      cases h
      exact am_Ev.done 8 rfl
  · have h := (am_iff hc).symm.trans h
    cases h
    exact am_Ev.done 2 rfl
theorem ev_M_header_144_v {n0 : Nat} {th : Mth} {ds : Mds} {nw : Mnw} {ou : Mou} {us : Mus} {re : Mre} {va : Mva} {nu : Mnu} {tx : Mtx} {ps : Mps} {nd : Mnd} {res : Mps × Mnd} (h : fn_M_header_144 tx ps nd = some res) : am_Ev (tb_M_header (am_run rPT rML (n0 + 3))) (144, [(0, .ref 0)], [], (hr th tx ds nw ou ps nd us re va nu)) (none, (hr th tx ds nw ou res.1 res.2 us re va nu)) := by
  unfold fn_M_header_144 at h
  obtain ⟨q1, hq, h⟩ := Option.bind_eq_some_iff.mp h
  refine am_Ev.go 2 (st' := (147, [(0, .ref 0)], [.int 10, .ref 0], (hr th tx ds nw ou ps nd us re va nu))) (fun _ => rfl) ?_
  refine am_Ev.call (o := am_run rPT rML (n0 + 3) 3 [.ref 0, .int 10] (hr th tx ds nw ou ps nd us re va nu)) (kk := fun q => (150, [(0, .ref 0)], q.1.toList ++ [], q.2)) (q := (none, (hr th tx ds nw ou q1 nd us re va nu))) 1 (fun _ => rfl) (ev_M_take_v hq) ?_
  cases h
  exact am_Ev.done 1 rfl
theorem ev_M_header_136_v {n0 : Nat} {th : Mth} {ds : Mds} {nw : Mnw} {ou : Mou} {us : Mus} {re : Mre} {va : Mva} {nu : Mnu} {tx : Mtx} {ps : Mps} {nd : Mnd} {res : Mps × Mnd} (h : fn_M_header_136 tx ps nd = some res) : am_Ev (tb_M_header (am_run rPT rML (n0 + 3))) (136, [(0, .ref 0)], [], (hr th tx ds nw ou ps nd us re va nu)) (none, (hr th tx ds nw ou res.1 res.2 us re va nu)) := by
  unfold fn_M_header_136 at h
  obtain ⟨q2, hq, h⟩ := Option.bind_eq_some_iff.mp h
  refine am_Ev.go 3 (st' := (141, [(0, .ref 0)], [.int ps.2.2, .ref 0], (hr th tx ds nw ou ps nd us re va nu))) (fun _ => rfl) ?_
  refine am_Ev.call (o := am_run rPT rML (n0 + 3) 2 [.ref 0, .int ps.2.2] (hr th tx ds nw ou ps nd us re va nu)) (kk := fun q => (144, [(0, .ref 0)], q.1.toList ++ [], q.2)) (q := (none, (hr th tx ds nw ou q2 nd us re va nu))) 1 (fun _ => rfl) (ev_M_bad_v hq) ?_
  exact ev_M_header_144_v h
theorem ev_M_header_45_v {n0 : Nat} {th : Mth} {ds : Mds} {nw : Mnw} {ou : Mou} {us : Mus} {re : Mre} {va : Mva} {nu : Mnu} {x1 : Int32} {tx : Mtx} {κ : Mps → Mnd → Option (Mps × Mnd)} (hκ : ∀ (ps : Mps) (nd : Mnd) (res : Mps × Mnd), κ ps nd = some res → am_Ev (tb_M_header (am_run rPT rML (n0 + 3))) (84, [(0, .ref 0), (1, .int x1)], [], (hr th tx ds nw ou ps nd us re va nu)) (none, (hr th tx ds nw ou res.1 res.2 us re va nu))) : ∀ (n : Nat) (x2 : Int32) (ps : Mps) (nd : Mnd) (res : Mps × Mnd), fn_M_header_45 x1 tx κ n x2 ps nd = some res → am_Ev (tb_M_header (am_run rPT rML (n0 + 3))) (45, [(0, .ref 0), (1, .int x1), (2, .int x2)], [], (hr th tx ds nw ou ps nd us re va nu)) (none, (hr th tx ds nw ou res.1 res.2 us re va nu)) := by
  intro n
  induction n with
  | zero => intro x2 ps nd res h; unfold fn_M_header_45 at h; cases h
  | succ n ih =>
    intro x2 ps nd res h
    unfold fn_M_header_45 at h
    refine am_Ev.fork (b := decide ((4 : Int32) ≤ x2)) (s1 := (84, [(0, .ref 0), (1, .int x1), (2, .int x2)], [], (hr th tx ds nw ou ps nd us re va nu))) (s2 := (50, [(0, .ref 0), (1, .int x1), (2, .int x2)], [], (hr th tx ds nw ou ps nd us re va nu))) 3 (fun _ => rfl) (fun hc => ?_) (fun hc => ?_)
    · have h := (am_ift hc).symm.trans h
      refine am_Ev.same (st' := (84, [(0, .ref 0), (1, .int x1)], [], (hr th tx ds nw ou ps nd us re va nu))) (fun _ => rfl) ?_
      exact hκ _ _ _ h
    · have h := (am_iff hc).symm.trans h
      obtain ⟨q3, hq, h⟩ := Option.bind_eq_some_iff.mp h
      refine am_Ev.go 2 (st' := (53, [(0, .ref 0), (1, .int x1), (2, .int x2)], [.int 32, .ref 0], (hr th tx ds nw ou ps nd us re va nu))) (fun _ => rfl) ?_
      refine am_Ev.call (o := am_run rPT rML (n0 + 3) 3 [.ref 0, .int 32] (hr th tx ds nw ou ps nd us re va nu)) (kk := fun q => (56, [(0, .ref 0), (1, .int x1), (2, .int x2)], q.1.toList ++ [], q.2)) (q := (none, (hr th tx ds nw ou q3 nd us re va nu))) 1 (fun _ => rfl) (ev_M_take_v hq) ?_
      refine am_Ev.fork (b := decide ((3 : Int32) ≤ x2)) (s1 := (72, [(0, .ref 0), (1, .int x1), (2, .int x2)], [.ref 0, .int x2, .ref 13], (hr th tx ds nw ou q3 nd us re va nu))) (s2 := (67, [(0, .ref 0), (1, .int x1), (2, .int x2)], [.ref 0, .int x2, .ref 13], (hr th tx ds nw ou q3 nd us re va nu))) 7 (fun _ => rfl) (fun hc => ?_) (fun hc => ?_)
      · have h := (am_ift hc).symm.trans h
        obtain ⟨q4, hq, h⟩ := Option.bind_eq_some_iff.mp h
        refine am_Ev.go 1 (st' := (74, [(0, .ref 0), (1, .int x1), (2, .int x2)], [.int 60, .ref 0, .int x2, .ref 13], (hr th tx ds nw ou q3 nd us re va nu))) (fun _ => rfl) ?_
        refine am_Ev.call (o := am_run rPT rML (n0 + 3) 5 [.ref 0, .int 60] (hr th tx ds nw ou q3 nd us re va nu)) (kk := fun q => (77, [(0, .ref 0), (1, .int x1), (2, .int x2)], q.1.toList ++ [.int x2, .ref 13], q.2)) (q := (some (.int q4.1), (hr th tx ds nw ou q4.2 nd us re va nu))) 1 (fun _ => rfl) (ev_M_number_v hq) ?_
        obtain ⟨hc, h⟩ := am_ifn h
        refine am_Ev.guard (b := decide (0 ≤ x2.toInt ∧ x2.toInt < (4 : Int))) (s1 := (78, [(0, .ref 0), (1, .int x1), (2, .int x2)], [], (hr th tx ds nw ou q4.2 (nd.1, upd nd.2.1 x2.toNatClampNeg q4.1, nd.2.2.1, nd.2.2.2.1, nd.2.2.2.2.1, nd.2.2.2.2.2.1, nd.2.2.2.2.2.2.1, nd.2.2.2.2.2.2.2.1, nd.2.2.2.2.2.2.2.2.1, nd.2.2.2.2.2.2.2.2.2) us re va nu))) 1 (fun _ => rfl) hc ?_
        refine am_Ev.go 2 (st' := (45, [(0, .ref 0), (1, .int x1), (2, .int (x2 + 1))], [], (hr th tx ds nw ou q4.2 (nd.1, upd nd.2.1 x2.toNatClampNeg q4.1, nd.2.2.1, nd.2.2.2.1, nd.2.2.2.2.1, nd.2.2.2.2.2.1, nd.2.2.2.2.2.2.1, nd.2.2.2.2.2.2.2.1, nd.2.2.2.2.2.2.2.2.1, nd.2.2.2.2.2.2.2.2.2) us re va nu))) (fun _ => rfl) ?_
        exact ih _ _ _ _ h
      · have h := (am_iff hc).symm.trans h
        obtain ⟨q5, hq, h⟩ := Option.bind_eq_some_iff.mp h
        refine am_Ev.go 2 (st' := (74, [(0, .ref 0), (1, .int x1), (2, .int x2)], [.int 8, .ref 0, .int x2, .ref 13], (hr th tx ds nw ou q3 nd us re va nu))) (fun _ => rfl) ?_
        refine am_Ev.call (o := am_run rPT rML (n0 + 3) 5 [.ref 0, .int 8] (hr th tx ds nw ou q3 nd us re va nu)) (kk := fun q => (77, [(0, .ref 0), (1, .int x1), (2, .int x2)], q.1.toList ++ [.int x2, .ref 13], q.2)) (q := (some (.int q5.1), (hr th tx ds nw ou q5.2 nd us re va nu))) 1 (fun _ => rfl) (ev_M_number_v hq) ?_
        obtain ⟨hc, h⟩ := am_ifn h
        refine am_Ev.guard (b := decide (0 ≤ x2.toInt ∧ x2.toInt < (4 : Int))) (s1 := (78, [(0, .ref 0), (1, .int x1), (2, .int x2)], [], (hr th tx ds nw ou q5.2 (nd.1, upd nd.2.1 x2.toNatClampNeg q5.1, nd.2.2.1, nd.2.2.2.1, nd.2.2.2.2.1, nd.2.2.2.2.2.1, nd.2.2.2.2.2.2.1, nd.2.2.2.2.2.2.2.1, nd.2.2.2.2.2.2.2.2.1, nd.2.2.2.2.2.2.2.2.2) us re va nu))) 1 (fun _ => rfl) hc ?_
        refine am_Ev.go 2 (st' := (45, [(0, .ref 0), (1, .int x1), (2, .int (x2 + 1))], [], (hr th tx ds nw ou q5.2 (nd.1, upd nd.2.1 x2.toNatClampNeg q5.1, nd.2.2.1, nd.2.2.2.1, nd.2.2.2.2.1, nd.2.2.2.2.2.1, nd.2.2.2.2.2.2.1, nd.2.2.2.2.2.2.2.1, nd.2.2.2.2.2.2.2.2.1, nd.2.2.2.2.2.2.2.2.2) us re va nu))) (fun _ => rfl) ?_
        exact ih _ _ _ _ h
theorem ev_M_header_18_v {n0 : Nat} {th : Mth} {ds : Mds} {nw : Mnw} {ou : Mou} {us : Mus} {re : Mre} {va : Mva} {nu : Mnu} {s1 : Int32} {x1 : Int32} {tx : Mtx} {ps : Mps} {nd : Mnd} {res : Mps × Mnd} (h : fn_M_header_18 s1 x1 tx ps nd = some res) : am_Ev (tb_M_header (am_run rPT rML (n0 + 3))) (18, [(0, .ref 0), (1, .int x1)], [.int s1, .ref 0], (hr th tx ds nw ou ps nd us re va nu)) (none, (hr th tx ds nw ou res.1 res.2 us re va nu)) := by
  unfold fn_M_header_18 at h
  obtain ⟨q6, hq, h⟩ := Option.bind_eq_some_iff.mp h
  refine am_Ev.call (o := am_run rPT rML (n0 + 3) 3 [.ref 0, .int s1] (hr th tx ds nw ou ps nd us re va nu)) (kk := fun q => (21, [(0, .ref 0), (1, .int x1)], q.1.toList ++ [], q.2)) (q := (none, (hr th tx ds nw ou q6 nd us re va nu))) 1 (fun _ => rfl) (ev_M_take_v hq) ?_
  obtain ⟨q7, hq, h⟩ := Option.bind_eq_some_iff.mp h
  refine am_Ev.go 2 (st' := (24, [(0, .ref 0), (1, .int x1)], [.int 103, .ref 0], (hr th tx ds nw ou q6 nd us re va nu))) (fun _ => rfl) ?_
  refine am_Ev.call (o := am_run rPT rML (n0 + 3) 3 [.ref 0, .int 103] (hr th tx ds nw ou q6 nd us re va nu)) (kk := fun q => (27, [(0, .ref 0), (1, .int x1)], q.1.toList ++ [], q.2)) (q := (none, (hr th tx ds nw ou q7 nd us re va nu))) 1 (fun _ => rfl) (ev_M_take_v hq) ?_
  obtain ⟨q8, hq, h⟩ := Option.bind_eq_some_iff.mp h
  refine am_Ev.go 2 (st' := (30, [(0, .ref 0), (1, .int x1)], [.int 32, .ref 0], (hr th tx ds nw ou q7 nd us re va nu))) (fun _ => rfl) ?_
  refine am_Ev.call (o := am_run rPT rML (n0 + 3) 3 [.ref 0, .int 32] (hr th tx ds nw ou q7 nd us re va nu)) (kk := fun q => (33, [(0, .ref 0), (1, .int x1)], q.1.toList ++ [], q.2)) (q := (none, (hr th tx ds nw ou q8 nd us re va nu))) 1 (fun _ => rfl) (ev_M_take_v hq) ?_
  obtain ⟨q9, hq, h⟩ := Option.bind_eq_some_iff.mp h
  refine am_Ev.go 3 (st' := (37, [(0, .ref 0), (1, .int x1)], [.int 99, .ref 0, .ref 0], (hr th tx ds nw ou q8 nd us re va nu))) (fun _ => rfl) ?_
  refine am_Ev.call (o := am_run rPT rML (n0 + 3) 5 [.ref 0, .int 99] (hr th tx ds nw ou q8 nd us re va nu)) (kk := fun q => (40, [(0, .ref 0), (1, .int x1)], q.1.toList ++ [.ref 0], q.2)) (q := (some (.int q9.1), (hr th tx ds nw ou q9.2 nd us re va nu))) 1 (fun _ => rfl) (ev_M_number_v hq) ?_
  refine am_Ev.go 3 (st' := (45, [(0, .ref 0), (1, .int x1), (2, .int 0)], [], (hr th tx ds nw ou q9.2 (q9.1, nd.2.1, nd.2.2.1, nd.2.2.2.1, nd.2.2.2.2.1, nd.2.2.2.2.2.1, nd.2.2.2.2.2.2.1, nd.2.2.2.2.2.2.2.1, nd.2.2.2.2.2.2.2.2.1, nd.2.2.2.2.2.2.2.2.2) us re va nu))) (fun _ => rfl) ?_
  refine ev_M_header_45_v ?_ _ _ _ _ _ h
  intro ps_11 nd_11 res h
  try dsimp only at h
  obtain ⟨hc, h⟩ := am_ifn h
  refine am_Ev.guard (b := decide (0 ≤ (0 : Int32).toInt ∧ (0 : Int32).toInt < (4 : Int))) (s1 := (90, [(0, .ref 0), (1, .int x1)], [.int (nd_11.2.1 ((0 : Int32).toNatClampNeg))], (hr th tx ds nw ou ps_11 nd_11 us re va nu))) 4 (fun _ => rfl) hc ?_
  obtain ⟨hc, h⟩ := am_ifn h
  refine am_Ev.guard (b := decide (0 ≤ (1 : Int32).toInt ∧ (1 : Int32).toInt < (4 : Int))) (s1 := (96, [(0, .ref 0), (1, .int x1)], [.int (nd_11.2.1 ((1 : Int32).toNatClampNeg)), .int (nd_11.2.1 ((0 : Int32).toNatClampNeg))], (hr th tx ds nw ou ps_11 nd_11 us re va nu))) 4 (fun _ => rfl) hc ?_
  obtain ⟨hc, h⟩ := am_ifn h
  refine am_Ev.guard (b := decide (0 ≤ (3 : Int32).toInt ∧ (3 : Int32).toInt < (4 : Int))) (s1 := (103, [(0, .ref 0), (1, .int x1)], [.int (nd_11.2.1 ((3 : Int32).toNatClampNeg)), .int ((nd_11.2.1 ((0 : Int32).toNatClampNeg)) + (nd_11.2.1 ((1 : Int32).toNatClampNeg)))], (hr th tx ds nw ou ps_11 nd_11 us re va nu))) 5 (fun _ => rfl) hc ?_
  refine am_Ev.fork (b := decide (ps_11.2.1 = (-1 : Int32))) (s1 := (113, [(0, .ref 0), (1, .int x1), (2, .int (((nd_11.2.1 ((0 : Int32).toNatClampNeg)) + (nd_11.2.1 ((1 : Int32).toNatClampNeg))) + (nd_11.2.1 ((3 : Int32).toNatClampNeg))))], [], (hr th tx ds nw ou ps_11 nd_11 us re va nu))) (s2 := (144, [(0, .ref 0), (1, .int x1), (2, .int (((nd_11.2.1 ((0 : Int32).toNatClampNeg)) + (nd_11.2.1 ((1 : Int32).toNatClampNeg))) + (nd_11.2.1 ((3 : Int32).toNatClampNeg))))], [], (hr th tx ds nw ou ps_11 nd_11 us re va nu))) 6 (fun _ => rfl) (fun hc => ?_) (fun hc => ?_)
  · have h := (am_ift hc).symm.trans h
    refine am_Ev.fork (b := decide (x1 = 0)) (s1 := (128, [(0, .ref 0), (1, .int x1), (2, .int (((nd_11.2.1 ((0 : Int32).toNatClampNeg)) + (nd_11.2.1 ((1 : Int32).toNatClampNeg))) + (nd_11.2.1 ((3 : Int32).toNatClampNeg))))], [], (hr th tx ds nw ou ps_11 nd_11 us re va nu))) (s2 := (117, [(0, .ref 0), (1, .int x1), (2, .int (((nd_11.2.1 ((0 : Int32).toNatClampNeg)) + (nd_11.2.1 ((1 : Int32).toNatClampNeg))) + (nd_11.2.1 ((3 : Int32).toNatClampNeg))))], [], (hr th tx ds nw ou ps_11 nd_11 us re va nu))) 2 (fun _ => rfl) (fun hc => ?_) (fun hc => ?_)
    · have h := (am_ift hc).symm.trans h
      refine am_Ev.fork (b := decide ((((nd_11.2.1 ((0 : Int32).toNatClampNeg)) + (nd_11.2.1 ((1 : Int32).toNatClampNeg))) + (nd_11.2.1 ((3 : Int32).toNatClampNeg))) ≤ nd_11.1)) (s1 := (144, [(0, .ref 0), (1, .int x1), (2, .int (((nd_11.2.1 ((0 : Int32).toNatClampNeg)) + (nd_11.2.1 ((1 : Int32).toNatClampNeg))) + (nd_11.2.1 ((3 : Int32).toNatClampNeg))))], [], (hr th tx ds nw ou ps_11 nd_11 us re va nu))) (s2 := (136, [(0, .ref 0), (1, .int x1), (2, .int (((nd_11.2.1 ((0 : Int32).toNatClampNeg)) + (nd_11.2.1 ((1 : Int32).toNatClampNeg))) + (nd_11.2.1 ((3 : Int32).toNatClampNeg))))], [], (hr th tx ds nw ou ps_11 nd_11 us re va nu))) 4 (fun _ => rfl) (fun hc => ?_) (fun hc => ?_)
      · have h := (am_ift hc).symm.trans h
        refine am_Ev.same (st' := (144, [(0, .ref 0)], [], (hr th tx ds nw ou ps_11 nd_11 us re va nu))) (fun _ => rfl) ?_
        exact ev_M_header_144_v h
      · have h := (am_iff hc).symm.trans h
        refine am_Ev.same (st' := (136, [(0, .ref 0)], [], (hr th tx ds nw ou ps_11 nd_11 us re va nu))) (fun _ => rfl) ?_
        exact ev_M_header_136_v h
    · have h := (am_iff hc).symm.trans h
      refine am_Ev.fork (b := decide ((((nd_11.2.1 ((0 : Int32).toNatClampNeg)) + (nd_11.2.1 ((1 : Int32).toNatClampNeg))) + (nd_11.2.1 ((3 : Int32).toNatClampNeg))) = nd_11.1)) (s1 := (144, [(0, .ref 0), (1, .int x1), (2, .int (((nd_11.2.1 ((0 : Int32).toNatClampNeg)) + (nd_11.2.1 ((1 : Int32).toNatClampNeg))) + (nd_11.2.1 ((3 : Int32).toNatClampNeg))))], [], (hr th tx ds nw ou ps_11 nd_11 us re va nu))) (s2 := (125, [(0, .ref 0), (1, .int x1), (2, .int (((nd_11.2.1 ((0 : Int32).toNatClampNeg)) + (nd_11.2.1 ((1 : Int32).toNatClampNeg))) + (nd_11.2.1 ((3 : Int32).toNatClampNeg))))], [], (hr th tx ds nw ou ps_11 nd_11 us re va nu))) 4 (fun _ => rfl) (fun hc => ?_) (fun hc => ?_)
      · have h := (am_ift hc).symm.trans h
        refine am_Ev.same (st' := (144, [(0, .ref 0)], [], (hr th tx ds nw ou ps_11 nd_11 us re va nu))) (fun _ => rfl) ?_
        exact ev_M_header_144_v h
      · have h := (am_iff hc).symm.trans h
        refine am_Ev.go 1 (st' := (136, [(0, .ref 0), (1, .int x1), (2, .int (((nd_11.2.1 ((0 : Int32).toNatClampNeg)) + (nd_11.2.1 ((1 : Int32).toNatClampNeg))) + (nd_11.2.1 ((3 : Int32).toNatClampNeg))))], [], (hr th tx ds nw ou ps_11 nd_11 us re va nu))) (fun _ => rfl) ?_
        refine am_Ev.same (st' := (136, [(0, .ref 0)], [], (hr th tx ds nw ou ps_11 nd_11 us re va nu))) (fun _ => rfl) ?_
        exact ev_M_header_136_v h
  · have h := (am_iff hc).symm.trans h
    refine am_Ev.same (st' := (144, [(0, .ref 0)], [], (hr th tx ds nw ou ps_11 nd_11 us re va nu))) (fun _ => rfl) ?_
    exact ev_M_header_144_v h
theorem ev_M_header_v {n0 : Nat} {th : Mth} {ds : Mds} {nw : Mnw} {ou : Mou} {us : Mus} {re : Mre} {va : Mva} {nu : Mnu} {x1 : Int32} {tx : Mtx} {ps : Mps} {nd : Mnd} {res : Mps × Mnd} (h : fn_M_header x1 tx ps nd = some res) : am_run rPT rML (n0 + 4) 8 [.ref 0, .int x1] (hr th tx ds nw ou ps nd us re va nu) = some (none, (hr th tx ds nw ou res.1 res.2 us re va nu)) := by
  refine am_run_of (d := n0 + 3) rfl ?_
  show am_Ev (tb_M_header (am_run rPT rML (n0 + 3))) (0, [(0, .ref 0), (1, .int x1)], [], (hr th tx ds nw ou ps nd us re va nu)) (none, (hr th tx ds nw ou res.1 res.2 us re va nu))
  unfold fn_M_header at h
  obtain ⟨q11, hq, h⟩ := Option.bind_eq_some_iff.mp h
  refine am_Ev.go 2 (st' := (3, [(0, .ref 0), (1, .int x1)], [.int 97, .ref 0], (hr th tx ds nw ou ps nd us re va nu))) (fun _ => rfl) ?_
  refine am_Ev.call (o := am_run rPT rML (n0 + 3) 3 [.ref 0, .int 97] (hr th tx ds nw ou ps nd us re va nu)) (kk := fun q => (6, [(0, .ref 0), (1, .int x1)], q.1.toList ++ [], q.2)) (q := (none, (hr th tx ds nw ou q11 nd us re va nu))) 1 (fun _ => rfl) (ev_M_take_v hq) ?_
  refine am_Ev.fork (b := decide (x1 = 0)) (s1 := (16, [(0, .ref 0), (1, .int x1)], [.ref 0], (hr th tx ds nw ou q11 nd us re va nu))) (s2 := (11, [(0, .ref 0), (1, .int x1)], [.ref 0], (hr th tx ds nw ou q11 nd us re va nu))) 3 (fun _ => rfl) (fun hc => ?_) (fun hc => ?_)
  · have h := (am_ift hc).symm.trans h
    refine am_Ev.go 1 (st' := (18, [(0, .ref 0), (1, .int x1)], [.int 97, .ref 0], (hr th tx ds nw ou q11 nd us re va nu))) (fun _ => rfl) ?_
    exact ev_M_header_18_v h
  · have h := (am_iff hc).symm.trans h
    refine am_Ev.go 2 (st' := (18, [(0, .ref 0), (1, .int x1)], [.int 105, .ref 0], (hr th tx ds nw ou q11 nd us re va nu))) (fun _ => rfl) ?_
    exact ev_M_header_18_v h
theorem ev_M_write_241_v {n0 : Nat} {tx : Mtx} {nw : Mnw} {ps : Mps} {nd : Mnd} {us : Mus} {re : Mre} {va : Mva} {nu : Mnu} {x1 : Int32} {ds : Mds} {κ : Mth → Mou → Option (Int32 × Mth × Mou)} (hκ : ∀ (th : Mth) (ou : Mou) (res : Int32 × Mth × Mou), κ th ou = some res → am_Ev (tb_M_write (am_run rPT rML (n0 + 3))) (347, [(0, .ref 0)], [], (hr th tx ds nw ou ps nd us re va nu)) (some (.int res.1), (hr res.2.1 tx ds nw res.2.2 ps nd us re va nu))) : ∀ (n : Nat) (x2 : Int32) (th : Mth) (ou : Mou) (res : Int32 × Mth × Mou), fn_M_write_241 x1 ds κ n x2 th ou = some res → am_Ev (tb_M_write (am_run rPT rML (n0 + 3))) (241, [(0, .ref 0), (1, .int x1), (2, .int x2)], [], (hr th tx ds nw ou ps nd us re va nu)) (some (.int res.1), (hr res.2.1 tx ds nw res.2.2 ps nd us re va nu)) := by
  intro n
  induction n with
  | zero => intro x2 th ou res h; unfold fn_M_write_241 at h; cases h
  | succ n ih =>
    intro x2 th ou res h
    unfold fn_M_write_241 at h
    obtain ⟨hc, h⟩ := am_ifn h
    refine am_Ev.guard (b := decide (0 ≤ (3 : Int32).toInt ∧ (3 : Int32).toInt < (4 : Int))) (s1 := (248, [(0, .ref 0), (1, .int x1), (2, .int x2)], [.int (ds.2.1 ((3 : Int32).toNatClampNeg)), .int x2], (hr th tx ds nw ou ps nd us re va nu))) 5 (fun _ => rfl) hc ?_
    refine am_Ev.fork (b := decide ((ds.2.1 ((3 : Int32).toNatClampNeg)) ≤ x2)) (s1 := (347, [(0, .ref 0), (1, .int x1), (2, .int x2)], [], (hr th tx ds nw ou ps nd us re va nu))) (s2 := (251, [(0, .ref 0), (1, .int x1), (2, .int x2)], [], (hr th tx ds nw ou ps nd us re va nu))) 1 (fun _ => rfl) (fun hc => ?_) (fun hc => ?_)
    · have h := (am_ift hc).symm.trans h
      refine am_Ev.same (st' := (347, [(0, .ref 0)], [], (hr th tx ds nw ou ps nd us re va nu))) (fun _ => rfl) ?_
      exact hκ _ _ _ h
    · have h := (am_iff hc).symm.trans h
      refine am_Ev.fork (b := decide (x1 = (1 : Int32))) (s1 := (256, [(0, .ref 0), (1, .int x1), (2, .int x2)], [], (hr th tx ds nw ou ps nd us re va nu))) (s2 := (293, [(0, .ref 0), (1, .int x1), (2, .int x2)], [], (hr th tx ds nw ou ps nd us re va nu))) 3 (fun _ => rfl) (fun hc => ?_) (fun hc => ?_)
      · have h := (am_ift hc).symm.trans h
        obtain ⟨hc, h⟩ := am_ifn h
        refine am_Ev.guard (b := decide (0 ≤ x2.toInt ∧ x2.toInt < (60 : Int))) (s1 := (263, [(0, .ref 0), (1, .int x1), (2, .int x2)], [.int (ds.2.2.2.2.2.2.2.1 x2.toNatClampNeg), .ref 0], (hr th tx ds nw ou ps nd us re va nu))) 5 (fun _ => rfl) hc ?_
        obtain ⟨hc, h⟩ := am_ifn h
        refine am_Ev.guard (b := decide (0 ≤ x2.toInt ∧ x2.toInt < (60 : Int))) (s1 := (269, [(0, .ref 0), (1, .int x1), (2, .int x2)], [.int (ds.2.2.2.2.2.2.2.2.1 x2.toNatClampNeg), .int (ds.2.2.2.2.2.2.2.1 x2.toNatClampNeg), .ref 0], (hr th tx ds nw ou ps nd us re va nu))) 4 (fun _ => rfl) hc ?_
        obtain ⟨q1, hq, h⟩ := Option.bind_eq_some_iff.mp h
        refine am_Ev.go 1 (st' := (270, [(0, .ref 0), (1, .int x1), (2, .int x2)], [.int ((ds.2.2.2.2.2.2.2.1 x2.toNatClampNeg) - (ds.2.2.2.2.2.2.2.2.1 x2.toNatClampNeg)), .ref 0], (hr th tx ds nw ou ps nd us re va nu))) (fun _ => rfl) ?_
        refine am_Ev.call (o := am_run rPT rML (n0 + 3) 27 [.ref 0, .int ((ds.2.2.2.2.2.2.2.1 x2.toNatClampNeg) - (ds.2.2.2.2.2.2.2.2.1 x2.toNatClampNeg))] (hr th tx ds nw ou ps nd us re va nu)) (kk := fun q => (273, [(0, .ref 0), (1, .int x1), (2, .int x2)], q.1.toList ++ [], q.2)) (q := (none, (hr th tx ds nw q1 ps nd us re va nu))) 1 (fun _ => rfl) (ev_M_addDifference_v hq) ?_
        obtain ⟨hc, h⟩ := am_ifn h
        refine am_Ev.guard (b := decide (0 ≤ x2.toInt ∧ x2.toInt < (60 : Int))) (s1 := (280, [(0, .ref 0), (1, .int x1), (2, .int x2)], [.int (ds.2.2.2.2.2.2.2.2.1 x2.toNatClampNeg), .ref 0], (hr th tx ds nw q1 ps nd us re va nu))) 5 (fun _ => rfl) hc ?_
        obtain ⟨hc, h⟩ := am_ifn h
        refine am_Ev.guard (b := decide (0 ≤ x2.toInt ∧ x2.toInt < (60 : Int))) (s1 := (286, [(0, .ref 0), (1, .int x1), (2, .int x2)], [.int (ds.2.2.2.2.2.2.2.2.2 x2.toNatClampNeg), .int (ds.2.2.2.2.2.2.2.2.1 x2.toNatClampNeg), .ref 0], (hr th tx ds nw q1 ps nd us re va nu))) 4 (fun _ => rfl) hc ?_
        obtain ⟨q2, hq, h⟩ := Option.bind_eq_some_iff.mp h
        refine am_Ev.go 1 (st' := (287, [(0, .ref 0), (1, .int x1), (2, .int x2)], [.int ((ds.2.2.2.2.2.2.2.2.1 x2.toNatClampNeg) - (ds.2.2.2.2.2.2.2.2.2 x2.toNatClampNeg)), .ref 0], (hr th tx ds nw q1 ps nd us re va nu))) (fun _ => rfl) ?_
        refine am_Ev.call (o := am_run rPT rML (n0 + 3) 27 [.ref 0, .int ((ds.2.2.2.2.2.2.2.2.1 x2.toNatClampNeg) - (ds.2.2.2.2.2.2.2.2.2 x2.toNatClampNeg))] (hr th tx ds nw q1 ps nd us re va nu)) (kk := fun q => (290, [(0, .ref 0), (1, .int x1), (2, .int x2)], q.1.toList ++ [], q.2)) (q := (none, (hr th tx ds nw q2 ps nd us re va nu))) 1 (fun _ => rfl) (ev_M_addDifference_v hq) ?_
        refine am_Ev.go 3 (st' := (241, [(0, .ref 0), (1, .int x1), (2, .int (x2 + 1))], [], (hr th tx ds nw q2 ps nd us re va nu))) (fun _ => rfl) ?_
        exact ih _ _ _ _ h
      · have h := (am_iff hc).symm.trans h
        obtain ⟨hc, h⟩ := am_ifn h
        refine am_Ev.guard (b := decide (0 ≤ x2.toInt ∧ x2.toInt < (60 : Int))) (s1 := (300, [(0, .ref 0), (1, .int x1), (2, .int x2)], [.int (ds.2.2.2.2.2.2.2.1 x2.toNatClampNeg), .ref 0], (hr th tx ds nw ou ps nd us re va nu))) 5 (fun _ => rfl) hc ?_
        obtain ⟨q3, hq, h⟩ := Option.bind_eq_some_iff.mp h
        refine am_Ev.call (o := am_run rPT rML (n0 + 3) 25 [.ref 0, .int (ds.2.2.2.2.2.2.2.1 x2.toNatClampNeg)] (hr th tx ds nw ou ps nd us re va nu)) (kk := fun q => (303, [(0, .ref 0), (1, .int x1), (2, .int x2)], q.1.toList ++ [], q.2)) (q := (none, (hr th tx ds nw q3 ps nd us re va nu))) 1 (fun _ => rfl) (ev_M_addNumber_v hq) ?_
        obtain ⟨q4, hq, h⟩ := Option.bind_eq_some_iff.mp h
        refine am_Ev.go 2 (st' := (306, [(0, .ref 0), (1, .int x1), (2, .int x2)], [.int 32, .ref 0], (hr th tx ds nw q3 ps nd us re va nu))) (fun _ => rfl) ?_
        refine am_Ev.call (o := am_run rPT rML (n0 + 3) 24 [.ref 0, .int 32] (hr th tx ds nw q3 ps nd us re va nu)) (kk := fun q => (309, [(0, .ref 0), (1, .int x1), (2, .int x2)], q.1.toList ++ [], q.2)) (q := (none, (hr th tx ds nw q4 ps nd us re va nu))) 1 (fun _ => rfl) (ev_M_add_v hq) ?_
        obtain ⟨hc, h⟩ := am_ifn h
        refine am_Ev.guard (b := decide (0 ≤ x2.toInt ∧ x2.toInt < (60 : Int))) (s1 := (316, [(0, .ref 0), (1, .int x1), (2, .int x2)], [.int (ds.2.2.2.2.2.2.2.2.1 x2.toNatClampNeg), .ref 0], (hr th tx ds nw q4 ps nd us re va nu))) 5 (fun _ => rfl) hc ?_
        obtain ⟨q5, hq, h⟩ := Option.bind_eq_some_iff.mp h
        refine am_Ev.call (o := am_run rPT rML (n0 + 3) 25 [.ref 0, .int (ds.2.2.2.2.2.2.2.2.1 x2.toNatClampNeg)] (hr th tx ds nw q4 ps nd us re va nu)) (kk := fun q => (319, [(0, .ref 0), (1, .int x1), (2, .int x2)], q.1.toList ++ [], q.2)) (q := (none, (hr th tx ds nw q5 ps nd us re va nu))) 1 (fun _ => rfl) (ev_M_addNumber_v hq) ?_
        obtain ⟨q6, hq, h⟩ := Option.bind_eq_some_iff.mp h
        refine am_Ev.go 2 (st' := (322, [(0, .ref 0), (1, .int x1), (2, .int x2)], [.int 32, .ref 0], (hr th tx ds nw q5 ps nd us re va nu))) (fun _ => rfl) ?_
        refine am_Ev.call (o := am_run rPT rML (n0 + 3) 24 [.ref 0, .int 32] (hr th tx ds nw q5 ps nd us re va nu)) (kk := fun q => (325, [(0, .ref 0), (1, .int x1), (2, .int x2)], q.1.toList ++ [], q.2)) (q := (none, (hr th tx ds nw q6 ps nd us re va nu))) 1 (fun _ => rfl) (ev_M_add_v hq) ?_
        obtain ⟨hc, h⟩ := am_ifn h
        refine am_Ev.guard (b := decide (0 ≤ x2.toInt ∧ x2.toInt < (60 : Int))) (s1 := (332, [(0, .ref 0), (1, .int x1), (2, .int x2)], [.int (ds.2.2.2.2.2.2.2.2.2 x2.toNatClampNeg), .ref 0], (hr th tx ds nw q6 ps nd us re va nu))) 5 (fun _ => rfl) hc ?_
        obtain ⟨q7, hq, h⟩ := Option.bind_eq_some_iff.mp h
        refine am_Ev.call (o := am_run rPT rML (n0 + 3) 25 [.ref 0, .int (ds.2.2.2.2.2.2.2.2.2 x2.toNatClampNeg)] (hr th tx ds nw q6 ps nd us re va nu)) (kk := fun q => (335, [(0, .ref 0), (1, .int x1), (2, .int x2)], q.1.toList ++ [], q.2)) (q := (none, (hr th tx ds nw q7 ps nd us re va nu))) 1 (fun _ => rfl) (ev_M_addNumber_v hq) ?_
        obtain ⟨q8, hq, h⟩ := Option.bind_eq_some_iff.mp h
        refine am_Ev.go 2 (st' := (338, [(0, .ref 0), (1, .int x1), (2, .int x2)], [.int 10, .ref 0], (hr th tx ds nw q7 ps nd us re va nu))) (fun _ => rfl) ?_
        refine am_Ev.call (o := am_run rPT rML (n0 + 3) 24 [.ref 0, .int 10] (hr th tx ds nw q7 ps nd us re va nu)) (kk := fun q => (341, [(0, .ref 0), (1, .int x1), (2, .int x2)], q.1.toList ++ [], q.2)) (q := (none, (hr th tx ds nw q8 ps nd us re va nu))) 1 (fun _ => rfl) (ev_M_add_v hq) ?_
        refine am_Ev.go 2 (st' := (241, [(0, .ref 0), (1, .int x1), (2, .int (x2 + 1))], [], (hr th tx ds nw q8 ps nd us re va nu))) (fun _ => rfl) ?_
        exact ih _ _ _ _ h
theorem ev_M_write_207_v {n0 : Nat} {tx : Mtx} {nw : Mnw} {ps : Mps} {nd : Mnd} {us : Mus} {re : Mre} {va : Mva} {nu : Mnu} {x1 : Int32} {ds : Mds} {κ : Mth → Mou → Option (Int32 × Mth × Mou)} (hκ : ∀ (th : Mth) (ou : Mou) (res : Int32 × Mth × Mou), κ th ou = some res → am_Ev (tb_M_write (am_run rPT rML (n0 + 3))) (239, [(0, .ref 0), (1, .int x1)], [], (hr th tx ds nw ou ps nd us re va nu)) (some (.int res.1), (hr res.2.1 tx ds nw res.2.2 ps nd us re va nu))) : ∀ (n : Nat) (x2 : Int32) (th : Mth) (ou : Mou) (res : Int32 × Mth × Mou), fn_M_write_207 x1 ds κ n x2 th ou = some res → am_Ev (tb_M_write (am_run rPT rML (n0 + 3))) (207, [(0, .ref 0), (1, .int x1), (2, .int x2)], [], (hr th tx ds nw ou ps nd us re va nu)) (some (.int res.1), (hr res.2.1 tx ds nw res.2.2 ps nd us re va nu)) := by
  intro n
  induction n with
  | zero => intro x2 th ou res h; unfold fn_M_write_207 at h; cases h
  | succ n ih =>
    intro x2 th ou res h
    unfold fn_M_write_207 at h
    obtain ⟨hc, h⟩ := am_ifn h
    refine am_Ev.guard (b := decide (0 ≤ (2 : Int32).toInt ∧ (2 : Int32).toInt < (4 : Int))) (s1 := (214, [(0, .ref 0), (1, .int x1), (2, .int x2)], [.int (ds.2.1 ((2 : Int32).toNatClampNeg)), .int x2], (hr th tx ds nw ou ps nd us re va nu))) 5 (fun _ => rfl) hc ?_
    refine am_Ev.fork (b := decide ((ds.2.1 ((2 : Int32).toNatClampNeg)) ≤ x2)) (s1 := (239, [(0, .ref 0), (1, .int x1), (2, .int x2)], [], (hr th tx ds nw ou ps nd us re va nu))) (s2 := (217, [(0, .ref 0), (1, .int x1), (2, .int x2)], [], (hr th tx ds nw ou ps nd us re va nu))) 1 (fun _ => rfl) (fun hc => ?_) (fun hc => ?_)
    · have h := (am_ift hc).symm.trans h
      refine am_Ev.same (st' := (239, [(0, .ref 0), (1, .int x1)], [], (hr th tx ds nw ou ps nd us re va nu))) (fun _ => rfl) ?_
      exact hκ _ _ _ h
    · have h := (am_iff hc).symm.trans h
      obtain ⟨hc, h⟩ := am_ifn h
      refine am_Ev.guard (b := decide (0 ≤ x2.toInt ∧ x2.toInt < (8 : Int))) (s1 := (224, [(0, .ref 0), (1, .int x1), (2, .int x2)], [.int (ds.2.2.2.2.2.2.1 x2.toNatClampNeg), .ref 0], (hr th tx ds nw ou ps nd us re va nu))) 5 (fun _ => rfl) hc ?_
      obtain ⟨q9, hq, h⟩ := Option.bind_eq_some_iff.mp h
      refine am_Ev.call (o := am_run rPT rML (n0 + 3) 25 [.ref 0, .int (ds.2.2.2.2.2.2.1 x2.toNatClampNeg)] (hr th tx ds nw ou ps nd us re va nu)) (kk := fun q => (227, [(0, .ref 0), (1, .int x1), (2, .int x2)], q.1.toList ++ [], q.2)) (q := (none, (hr th tx ds nw q9 ps nd us re va nu))) 1 (fun _ => rfl) (ev_M_addNumber_v hq) ?_
      obtain ⟨q10, hq, h⟩ := Option.bind_eq_some_iff.mp h
      refine am_Ev.go 2 (st' := (230, [(0, .ref 0), (1, .int x1), (2, .int x2)], [.int 10, .ref 0], (hr th tx ds nw q9 ps nd us re va nu))) (fun _ => rfl) ?_
      refine am_Ev.call (o := am_run rPT rML (n0 + 3) 24 [.ref 0, .int 10] (hr th tx ds nw q9 ps nd us re va nu)) (kk := fun q => (233, [(0, .ref 0), (1, .int x1), (2, .int x2)], q.1.toList ++ [], q.2)) (q := (none, (hr th tx ds nw q10 ps nd us re va nu))) 1 (fun _ => rfl) (ev_M_add_v hq) ?_
      refine am_Ev.go 2 (st' := (207, [(0, .ref 0), (1, .int x1), (2, .int (x2 + 1))], [], (hr th tx ds nw q10 ps nd us re va nu))) (fun _ => rfl) ?_
      exact ih _ _ _ _ h
theorem ev_M_write_164_v {n0 : Nat} {tx : Mtx} {nw : Mnw} {ps : Mps} {nd : Mnd} {us : Mus} {re : Mre} {va : Mva} {nu : Mnu} {x1 : Int32} {ds : Mds} {κ : Mth → Mou → Option (Int32 × Mth × Mou)} (hκ : ∀ (th : Mth) (ou : Mou) (res : Int32 × Mth × Mou), κ th ou = some res → am_Ev (tb_M_write (am_run rPT rML (n0 + 3))) (205, [(0, .ref 0), (1, .int x1)], [], (hr th tx ds nw ou ps nd us re va nu)) (some (.int res.1), (hr res.2.1 tx ds nw res.2.2 ps nd us re va nu))) : ∀ (n : Nat) (x2 : Int32) (th : Mth) (ou : Mou) (res : Int32 × Mth × Mou), fn_M_write_164 x1 ds κ n x2 th ou = some res → am_Ev (tb_M_write (am_run rPT rML (n0 + 3))) (164, [(0, .ref 0), (1, .int x1), (2, .int x2)], [], (hr th tx ds nw ou ps nd us re va nu)) (some (.int res.1), (hr res.2.1 tx ds nw res.2.2 ps nd us re va nu)) := by
  intro n
  induction n with
  | zero => intro x2 th ou res h; unfold fn_M_write_164 at h; cases h
  | succ n ih =>
    intro x2 th ou res h
    unfold fn_M_write_164 at h
    obtain ⟨hc, h⟩ := am_ifn h
    refine am_Ev.guard (b := decide (0 ≤ (1 : Int32).toInt ∧ (1 : Int32).toInt < (4 : Int))) (s1 := (171, [(0, .ref 0), (1, .int x1), (2, .int x2)], [.int (ds.2.1 ((1 : Int32).toNatClampNeg)), .int x2], (hr th tx ds nw ou ps nd us re va nu))) 5 (fun _ => rfl) hc ?_
    refine am_Ev.fork (b := decide ((ds.2.1 ((1 : Int32).toNatClampNeg)) ≤ x2)) (s1 := (205, [(0, .ref 0), (1, .int x1), (2, .int x2)], [], (hr th tx ds nw ou ps nd us re va nu))) (s2 := (174, [(0, .ref 0), (1, .int x1), (2, .int x2)], [], (hr th tx ds nw ou ps nd us re va nu))) 1 (fun _ => rfl) (fun hc => ?_) (fun hc => ?_)
    · have h := (am_ift hc).symm.trans h
      refine am_Ev.same (st' := (205, [(0, .ref 0), (1, .int x1)], [], (hr th tx ds nw ou ps nd us re va nu))) (fun _ => rfl) ?_
      exact hκ _ _ _ h
    · have h := (am_iff hc).symm.trans h
      refine am_Ev.fork (b := decide (x1 = 0)) (s1 := (178, [(0, .ref 0), (1, .int x1), (2, .int x2)], [], (hr th tx ds nw ou ps nd us re va nu))) (s2 := (194, [(0, .ref 0), (1, .int x1), (2, .int x2)], [], (hr th tx ds nw ou ps nd us re va nu))) 2 (fun _ => rfl) (fun hc => ?_) (fun hc => ?_)
      · have h := (am_ift hc).symm.trans h
        obtain ⟨hc, h⟩ := am_ifn h
        refine am_Ev.guard (b := decide (0 ≤ x2.toInt ∧ x2.toInt < (8 : Int))) (s1 := (185, [(0, .ref 0), (1, .int x1), (2, .int x2)], [.int (ds.2.2.2.1 x2.toNatClampNeg), .ref 0], (hr th tx ds nw ou ps nd us re va nu))) 5 (fun _ => rfl) hc ?_
        obtain ⟨q11, hq, h⟩ := Option.bind_eq_some_iff.mp h
        refine am_Ev.call (o := am_run rPT rML (n0 + 3) 25 [.ref 0, .int (ds.2.2.2.1 x2.toNatClampNeg)] (hr th tx ds nw ou ps nd us re va nu)) (kk := fun q => (188, [(0, .ref 0), (1, .int x1), (2, .int x2)], q.1.toList ++ [], q.2)) (q := (none, (hr th tx ds nw q11 ps nd us re va nu))) 1 (fun _ => rfl) (ev_M_addNumber_v hq) ?_
        obtain ⟨q12, hq, h⟩ := Option.bind_eq_some_iff.mp h
        refine am_Ev.go 2 (st' := (191, [(0, .ref 0), (1, .int x1), (2, .int x2)], [.int 32, .ref 0], (hr th tx ds nw q11 ps nd us re va nu))) (fun _ => rfl) ?_
        refine am_Ev.call (o := am_run rPT rML (n0 + 3) 24 [.ref 0, .int 32] (hr th tx ds nw q11 ps nd us re va nu)) (kk := fun q => (194, [(0, .ref 0), (1, .int x1), (2, .int x2)], q.1.toList ++ [], q.2)) (q := (none, (hr th tx ds nw q12 ps nd us re va nu))) 1 (fun _ => rfl) (ev_M_add_v hq) ?_
        obtain ⟨q13, hq, h⟩ := Option.bind_eq_some_iff.mp h
        refine am_Ev.go 2 (st' := (196, [(0, .ref 0), (1, .int x1), (2, .int x2)], [.int x2, .ref 0], (hr th tx ds nw q12 ps nd us re va nu))) (fun _ => rfl) ?_
        refine am_Ev.call (o := am_run rPT rML (n0 + 3) 26 [.ref 0, .int x2] (hr th tx ds nw q12 ps nd us re va nu)) (kk := fun q => (199, [(0, .ref 0), (1, .int x1), (2, .int x2)], q.1.toList ++ [], q.2)) (q := (none, (hr th tx ds nw q13 ps nd us re va nu))) 1 (fun _ => rfl) (ev_M_addNext_v hq) ?_
        refine am_Ev.go 2 (st' := (164, [(0, .ref 0), (1, .int x1), (2, .int (x2 + 1))], [], (hr th tx ds nw q13 ps nd us re va nu))) (fun _ => rfl) ?_
        exact ih _ _ _ _ h
      · have h := (am_iff hc).symm.trans h
        obtain ⟨q14, hq, h⟩ := Option.bind_eq_some_iff.mp h
        refine am_Ev.go 2 (st' := (196, [(0, .ref 0), (1, .int x1), (2, .int x2)], [.int x2, .ref 0], (hr th tx ds nw ou ps nd us re va nu))) (fun _ => rfl) ?_
        refine am_Ev.call (o := am_run rPT rML (n0 + 3) 26 [.ref 0, .int x2] (hr th tx ds nw ou ps nd us re va nu)) (kk := fun q => (199, [(0, .ref 0), (1, .int x1), (2, .int x2)], q.1.toList ++ [], q.2)) (q := (none, (hr th tx ds nw q14 ps nd us re va nu))) 1 (fun _ => rfl) (ev_M_addNext_v hq) ?_
        refine am_Ev.go 2 (st' := (164, [(0, .ref 0), (1, .int x1), (2, .int (x2 + 1))], [], (hr th tx ds nw q14 ps nd us re va nu))) (fun _ => rfl) ?_
        exact ih _ _ _ _ h
theorem ev_M_write_126_v {n0 : Nat} {tx : Mtx} {nw : Mnw} {ps : Mps} {nd : Mnd} {us : Mus} {re : Mre} {va : Mva} {nu : Mnu} {x1 : Int32} {ds : Mds} {κ : Mth → Mou → Option (Int32 × Mth × Mou)} (hκ : ∀ (th : Mth) (ou : Mou) (res : Int32 × Mth × Mou), κ th ou = some res → am_Ev (tb_M_write (am_run rPT rML (n0 + 3))) (162, [(0, .ref 0), (1, .int x1)], [], (hr th tx ds nw ou ps nd us re va nu)) (some (.int res.1), (hr res.2.1 tx ds nw res.2.2 ps nd us re va nu))) : ∀ (n : Nat) (x2 : Int32) (th : Mth) (ou : Mou) (res : Int32 × Mth × Mou), fn_M_write_126 x1 ds κ n x2 th ou = some res → am_Ev (tb_M_write (am_run rPT rML (n0 + 3))) (126, [(0, .ref 0), (1, .int x1), (2, .int x2)], [], (hr th tx ds nw ou ps nd us re va nu)) (some (.int res.1), (hr res.2.1 tx ds nw res.2.2 ps nd us re va nu)) := by
  intro n
  induction n with
  | zero => intro x2 th ou res h; unfold fn_M_write_126 at h; cases h
  | succ n ih =>
    intro x2 th ou res h
    unfold fn_M_write_126 at h
    obtain ⟨hc, h⟩ := am_ifn h
    refine am_Ev.guard (b := decide (0 ≤ (0 : Int32).toInt ∧ (0 : Int32).toInt < (4 : Int))) (s1 := (133, [(0, .ref 0), (1, .int x1), (2, .int x2)], [.int (ds.2.1 ((0 : Int32).toNatClampNeg)), .int x2], (hr th tx ds nw ou ps nd us re va nu))) 5 (fun _ => rfl) hc ?_
    refine am_Ev.fork (b := decide ((ds.2.1 ((0 : Int32).toNatClampNeg)) ≤ x2)) (s1 := (162, [(0, .ref 0), (1, .int x1), (2, .int x2)], [], (hr th tx ds nw ou ps nd us re va nu))) (s2 := (136, [(0, .ref 0), (1, .int x1), (2, .int x2)], [], (hr th tx ds nw ou ps nd us re va nu))) 1 (fun _ => rfl) (fun hc => ?_) (fun hc => ?_)
    · have h := (am_ift hc).symm.trans h
      refine am_Ev.same (st' := (162, [(0, .ref 0), (1, .int x1)], [], (hr th tx ds nw ou ps nd us re va nu))) (fun _ => rfl) ?_
      exact hκ _ _ _ h
    · have h := (am_iff hc).symm.trans h
      refine am_Ev.fork (b := decide (x1 = 0)) (s1 := (140, [(0, .ref 0), (1, .int x1), (2, .int x2)], [], (hr th tx ds nw ou ps nd us re va nu))) (s2 := (162, [(0, .ref 0), (1, .int x1), (2, .int x2)], [], (hr th tx ds nw ou ps nd us re va nu))) 2 (fun _ => rfl) (fun hc => ?_) (fun hc => ?_)
      · have h := (am_ift hc).symm.trans h
        obtain ⟨hc, h⟩ := am_ifn h
        refine am_Ev.guard (b := decide (0 ≤ x2.toInt ∧ x2.toInt < (8 : Int))) (s1 := (147, [(0, .ref 0), (1, .int x1), (2, .int x2)], [.int (ds.2.2.1 x2.toNatClampNeg), .ref 0], (hr th tx ds nw ou ps nd us re va nu))) 5 (fun _ => rfl) hc ?_
        obtain ⟨q15, hq, h⟩ := Option.bind_eq_some_iff.mp h
        refine am_Ev.call (o := am_run rPT rML (n0 + 3) 25 [.ref 0, .int (ds.2.2.1 x2.toNatClampNeg)] (hr th tx ds nw ou ps nd us re va nu)) (kk := fun q => (150, [(0, .ref 0), (1, .int x1), (2, .int x2)], q.1.toList ++ [], q.2)) (q := (none, (hr th tx ds nw q15 ps nd us re va nu))) 1 (fun _ => rfl) (ev_M_addNumber_v hq) ?_
        obtain ⟨q16, hq, h⟩ := Option.bind_eq_some_iff.mp h
        refine am_Ev.go 2 (st' := (153, [(0, .ref 0), (1, .int x1), (2, .int x2)], [.int 10, .ref 0], (hr th tx ds nw q15 ps nd us re va nu))) (fun _ => rfl) ?_
        refine am_Ev.call (o := am_run rPT rML (n0 + 3) 24 [.ref 0, .int 10] (hr th tx ds nw q15 ps nd us re va nu)) (kk := fun q => (156, [(0, .ref 0), (1, .int x1), (2, .int x2)], q.1.toList ++ [], q.2)) (q := (none, (hr th tx ds nw q16 ps nd us re va nu))) 1 (fun _ => rfl) (ev_M_add_v hq) ?_
        refine am_Ev.go 2 (st' := (126, [(0, .ref 0), (1, .int x1), (2, .int (x2 + 1))], [], (hr th tx ds nw q16 ps nd us re va nu))) (fun _ => rfl) ?_
        exact ih _ _ _ _ h
      · have h := (am_iff hc).symm.trans h
        refine am_Ev.same (st' := (162, [(0, .ref 0), (1, .int x1)], [], (hr th tx ds nw ou ps nd us re va nu))) (fun _ => rfl) ?_
        exact hκ _ _ _ h
theorem ev_M_write_91_v {n0 : Nat} {tx : Mtx} {nw : Mnw} {ps : Mps} {nd : Mnd} {us : Mus} {re : Mre} {va : Mva} {nu : Mnu} {x1 : Int32} {ds : Mds} {κ : Mth → Mou → Option (Int32 × Mth × Mou)} (hκ : ∀ (th : Mth) (ou : Mou) (res : Int32 × Mth × Mou), κ th ou = some res → am_Ev (tb_M_write (am_run rPT rML (n0 + 3))) (118, [(0, .ref 0), (1, .int x1)], [], (hr th tx ds nw ou ps nd us re va nu)) (some (.int res.1), (hr res.2.1 tx ds nw res.2.2 ps nd us re va nu))) : ∀ (n : Nat) (x2 : Int32) (th : Mth) (ou : Mou) (res : Int32 × Mth × Mou), fn_M_write_91 x1 ds κ n x2 th ou = some res → am_Ev (tb_M_write (am_run rPT rML (n0 + 3))) (91, [(0, .ref 0), (1, .int x1), (2, .int x2)], [], (hr th tx ds nw ou ps nd us re va nu)) (some (.int res.1), (hr res.2.1 tx ds nw res.2.2 ps nd us re va nu)) := by
  intro n
  induction n with
  | zero => intro x2 th ou res h; unfold fn_M_write_91 at h; cases h
  | succ n ih =>
    intro x2 th ou res h
    unfold fn_M_write_91 at h
    refine am_Ev.fork (b := decide ((4 : Int32) ≤ x2)) (s1 := (118, [(0, .ref 0), (1, .int x1), (2, .int x2)], [], (hr th tx ds nw ou ps nd us re va nu))) (s2 := (96, [(0, .ref 0), (1, .int x1), (2, .int x2)], [], (hr th tx ds nw ou ps nd us re va nu))) 3 (fun _ => rfl) (fun hc => ?_) (fun hc => ?_)
    · have h := (am_ift hc).symm.trans h
      refine am_Ev.same (st' := (118, [(0, .ref 0), (1, .int x1)], [], (hr th tx ds nw ou ps nd us re va nu))) (fun _ => rfl) ?_
      exact hκ _ _ _ h
    · have h := (am_iff hc).symm.trans h
      obtain ⟨q17, hq, h⟩ := Option.bind_eq_some_iff.mp h
      refine am_Ev.go 2 (st' := (99, [(0, .ref 0), (1, .int x1), (2, .int x2)], [.int 32, .ref 0], (hr th tx ds nw ou ps nd us re va nu))) (fun _ => rfl) ?_
      refine am_Ev.call (o := am_run rPT rML (n0 + 3) 24 [.ref 0, .int 32] (hr th tx ds nw ou ps nd us re va nu)) (kk := fun q => (102, [(0, .ref 0), (1, .int x1), (2, .int x2)], q.1.toList ++ [], q.2)) (q := (none, (hr th tx ds nw q17 ps nd us re va nu))) 1 (fun _ => rfl) (ev_M_add_v hq) ?_
      obtain ⟨hc, h⟩ := am_ifn h
      refine am_Ev.guard (b := decide (0 ≤ x2.toInt ∧ x2.toInt < (4 : Int))) (s1 := (109, [(0, .ref 0), (1, .int x1), (2, .int x2)], [.int (ds.2.1 x2.toNatClampNeg), .ref 0], (hr th tx ds nw q17 ps nd us re va nu))) 5 (fun _ => rfl) hc ?_
      obtain ⟨q18, hq, h⟩ := Option.bind_eq_some_iff.mp h
      refine am_Ev.call (o := am_run rPT rML (n0 + 3) 25 [.ref 0, .int (ds.2.1 x2.toNatClampNeg)] (hr th tx ds nw q17 ps nd us re va nu)) (kk := fun q => (112, [(0, .ref 0), (1, .int x1), (2, .int x2)], q.1.toList ++ [], q.2)) (q := (none, (hr th tx ds nw q18 ps nd us re va nu))) 1 (fun _ => rfl) (ev_M_addNumber_v hq) ?_
      refine am_Ev.go 2 (st' := (91, [(0, .ref 0), (1, .int x1), (2, .int (x2 + 1))], [], (hr th tx ds nw q18 ps nd us re va nu))) (fun _ => rfl) ?_
      exact ih _ _ _ _ h
theorem ev_M_write_66_v {n0 : Nat} {tx : Mtx} {nw : Mnw} {ps : Mps} {nd : Mnd} {us : Mus} {re : Mre} {va : Mva} {nu : Mnu} {s1 : Int32} {x1 : Int32} {th : Mth} {ds : Mds} {ou : Mou} {res : Int32 × Mth × Mou} (h : fn_M_write_66 s1 x1 th ds ou = some res) : am_Ev (tb_M_write (am_run rPT rML (n0 + 3))) (66, [(0, .ref 0), (1, .int x1)], [.int s1, .ref 0], (hr th tx ds nw ou ps nd us re va nu)) (some (.int res.1), (hr res.2.1 tx ds nw res.2.2 ps nd us re va nu)) := by
  unfold fn_M_write_66 at h
  obtain ⟨q19, hq, h⟩ := Option.bind_eq_some_iff.mp h
  refine am_Ev.call (o := am_run rPT rML (n0 + 3) 24 [.ref 0, .int s1] (hr th tx ds nw ou ps nd us re va nu)) (kk := fun q => (69, [(0, .ref 0), (1, .int x1)], q.1.toList ++ [], q.2)) (q := (none, (hr th tx ds nw q19 ps nd us re va nu))) 1 (fun _ => rfl) (ev_M_add_v hq) ?_
  obtain ⟨q20, hq, h⟩ := Option.bind_eq_some_iff.mp h
  refine am_Ev.go 2 (st' := (72, [(0, .ref 0), (1, .int x1)], [.int 103, .ref 0], (hr th tx ds nw q19 ps nd us re va nu))) (fun _ => rfl) ?_
  refine am_Ev.call (o := am_run rPT rML (n0 + 3) 24 [.ref 0, .int 103] (hr th tx ds nw q19 ps nd us re va nu)) (kk := fun q => (75, [(0, .ref 0), (1, .int x1)], q.1.toList ++ [], q.2)) (q := (none, (hr th tx ds nw q20 ps nd us re va nu))) 1 (fun _ => rfl) (ev_M_add_v hq) ?_
  obtain ⟨q21, hq, h⟩ := Option.bind_eq_some_iff.mp h
  refine am_Ev.go 2 (st' := (78, [(0, .ref 0), (1, .int x1)], [.int 32, .ref 0], (hr th tx ds nw q20 ps nd us re va nu))) (fun _ => rfl) ?_
  refine am_Ev.call (o := am_run rPT rML (n0 + 3) 24 [.ref 0, .int 32] (hr th tx ds nw q20 ps nd us re va nu)) (kk := fun q => (81, [(0, .ref 0), (1, .int x1)], q.1.toList ++ [], q.2)) (q := (none, (hr th tx ds nw q21 ps nd us re va nu))) 1 (fun _ => rfl) (ev_M_add_v hq) ?_
  obtain ⟨q22, hq, h⟩ := Option.bind_eq_some_iff.mp h
  refine am_Ev.go 3 (st' := (86, [(0, .ref 0), (1, .int x1)], [.int ds.1, .ref 0], (hr th tx ds nw q21 ps nd us re va nu))) (fun _ => rfl) ?_
  refine am_Ev.call (o := am_run rPT rML (n0 + 3) 25 [.ref 0, .int ds.1] (hr th tx ds nw q21 ps nd us re va nu)) (kk := fun q => (89, [(0, .ref 0), (1, .int x1)], q.1.toList ++ [], q.2)) (q := (none, (hr th tx ds nw q22 ps nd us re va nu))) 1 (fun _ => rfl) (ev_M_addNumber_v hq) ?_
  refine am_Ev.go 2 (st' := (91, [(0, .ref 0), (1, .int x1), (2, .int 0)], [], (hr th tx ds nw q22 ps nd us re va nu))) (fun _ => rfl) ?_
  refine ev_M_write_91_v ?_ _ _ _ _ _ h
  intro th_24 ou_24 res h
  try dsimp only at h
  obtain ⟨q24, hq, h⟩ := Option.bind_eq_some_iff.mp h
  refine am_Ev.go 2 (st' := (121, [(0, .ref 0), (1, .int x1)], [.int 10, .ref 0], (hr th_24 tx ds nw ou_24 ps nd us re va nu))) (fun _ => rfl) ?_
  refine am_Ev.call (o := am_run rPT rML (n0 + 3) 24 [.ref 0, .int 10] (hr th_24 tx ds nw ou_24 ps nd us re va nu)) (kk := fun q => (124, [(0, .ref 0), (1, .int x1)], q.1.toList ++ [], q.2)) (q := (none, (hr th_24 tx ds nw q24 ps nd us re va nu))) 1 (fun _ => rfl) (ev_M_add_v hq) ?_
  refine am_Ev.go 2 (st' := (126, [(0, .ref 0), (1, .int x1), (2, .int 0)], [], (hr th_24 tx ds nw q24 ps nd us re va nu))) (fun _ => rfl) ?_
  refine ev_M_write_126_v ?_ _ _ _ _ _ h
  intro th_26 ou_26 res h
  try dsimp only at h
  refine am_Ev.go 2 (st' := (164, [(0, .ref 0), (1, .int x1), (2, .int 0)], [], (hr th_26 tx ds nw ou_26 ps nd us re va nu))) (fun _ => rfl) ?_
  refine ev_M_write_164_v ?_ _ _ _ _ _ h
  intro th_27 ou_27 res h
  try dsimp only at h
  refine am_Ev.go 2 (st' := (207, [(0, .ref 0), (1, .int x1), (2, .int 0)], [], (hr th_27 tx ds nw ou_27 ps nd us re va nu))) (fun _ => rfl) ?_
  refine ev_M_write_207_v ?_ _ _ _ _ _ h
  intro th_28 ou_28 res h
  try dsimp only at h
  refine am_Ev.go 2 (st' := (241, [(0, .ref 0), (1, .int x1), (2, .int 0)], [], (hr th_28 tx ds nw ou_28 ps nd us re va nu))) (fun _ => rfl) ?_
  refine ev_M_write_241_v ?_ _ _ _ _ _ h
  intro th_29 ou_29 res h
  try dsimp only at h
  cases h
  exact am_Ev.done 3 rfl
theorem ev_M_write_31_v {n0 : Nat} {tx : Mtx} {nw : Mnw} {ps : Mps} {nd : Mnd} {us : Mus} {re : Mre} {va : Mva} {nu : Mnu} {s1 : Int32} {x1 : Int32} {th : Mth} {ds : Mds} {ou : Mou} {res : Int32 × Mth × Mou} (h : fn_M_write_31 s1 x1 th ds ou = some res) : am_Ev (tb_M_write (am_run rPT rML (n0 + 3))) (31, [(0, .ref 0), (1, .int x1)], [.int s1, .ref 0], (hr th tx ds nw ou ps nd us re va nu)) (some (.int res.1), (hr res.2.1 tx ds nw res.2.2 ps nd us re va nu)) := by
  unfold fn_M_write_31 at h
  refine am_Ev.fork (b := decide (s1 ≤ 0)) (s1 := (43, [(0, .ref 0), (1, .int x1)], [], (hr s1 tx ds nw ou ps nd us re va nu))) (s2 := (41, [(0, .ref 0), (1, .int x1)], [], (hr s1 tx ds nw ou ps nd us re va nu))) 4 (fun _ => rfl) (fun hc => ?_) (fun hc => ?_)
  · have h := (am_ift hc).symm.trans h
    obtain ⟨q29, hq, h⟩ := Option.bind_eq_some_iff.mp h
    refine am_Ev.go 5 (st' := (51, [(0, .ref 0), (1, .int x1)], [.int 97, .ref 0], (hr s1 tx ds nw (ou.1, 0) ps nd us re va nu))) (fun _ => rfl) ?_
    refine am_Ev.call (o := am_run rPT rML (n0 + 3) 24 [.ref 0, .int 97] (hr s1 tx ds nw (ou.1, 0) ps nd us re va nu)) (kk := fun q => (54, [(0, .ref 0), (1, .int x1)], q.1.toList ++ [], q.2)) (q := (none, (hr s1 tx ds nw q29 ps nd us re va nu))) 1 (fun _ => rfl) (ev_M_add_v hq) ?_
    refine am_Ev.fork (b := decide (x1 = 0)) (s1 := (59, [(0, .ref 0), (1, .int x1)], [.ref 0], (hr s1 tx ds nw q29 ps nd us re va nu))) (s2 := (64, [(0, .ref 0), (1, .int x1)], [.ref 0], (hr s1 tx ds nw q29 ps nd us re va nu))) 3 (fun _ => rfl) (fun hc => ?_) (fun hc => ?_)
    · have h := (am_ift hc).symm.trans h
      refine am_Ev.go 2 (st' := (66, [(0, .ref 0), (1, .int x1)], [.int 97, .ref 0], (hr s1 tx ds nw q29 ps nd us re va nu))) (fun _ => rfl) ?_
      exact ev_M_write_66_v h
    · have h := (am_iff hc).symm.trans h
      refine am_Ev.go 1 (st' := (66, [(0, .ref 0), (1, .int x1)], [.int 105, .ref 0], (hr s1 tx ds nw q29 ps nd us re va nu))) (fun _ => rfl) ?_
      exact ev_M_write_66_v h
  · have h := (am_iff hc).symm.trans h
    cases h
    exact am_Ev.done 2 rfl
theorem ev_M_write_30_v {n0 : Nat} {tx : Mtx} {nw : Mnw} {ps : Mps} {nd : Mnd} {us : Mus} {re : Mre} {va : Mva} {nu : Mnu} {x1 : Int32} {th : Mth} {ds : Mds} {ou : Mou} {res : Int32 × Mth × Mou} (h : fn_M_write_30 x1 th ds ou = some res) : am_Ev (tb_M_write (am_run rPT rML (n0 + 3))) (30, [(0, .ref 0), (1, .int x1)], [.ref 0], (hr th tx ds nw ou ps nd us re va nu)) (some (.int res.1), (hr res.2.1 tx ds nw res.2.2 ps nd us re va nu)) := by
  unfold fn_M_write_30 at h
  refine am_Ev.go 1 (st' := (31, [(0, .ref 0), (1, .int x1)], [.int 0, .ref 0], (hr th tx ds nw ou ps nd us re va nu))) (fun _ => rfl) ?_
  exact ev_M_write_31_v h
theorem ev_M_write_10_v {n0 : Nat} {tx : Mtx} {nw : Mnw} {ps : Mps} {nd : Mnd} {us : Mus} {re : Mre} {va : Mva} {nu : Mnu} {x1 : Int32} {th : Mth} {ds : Mds} {ou : Mou} {res : Int32 × Mth × Mou} (h : fn_M_write_10 x1 th ds ou = some res) : am_Ev (tb_M_write (am_run rPT rML (n0 + 3))) (10, [(0, .ref 0), (1, .int x1)], [.ref 0], (hr th tx ds nw ou ps nd us re va nu)) (some (.int res.1), (hr res.2.1 tx ds nw res.2.2 ps nd us re va nu)) := by
  unfold fn_M_write_10 at h
  refine am_Ev.go 2 (st' := (31, [(0, .ref 0), (1, .int x1)], [.int 1, .ref 0], (hr th tx ds nw ou ps nd us re va nu))) (fun _ => rfl) ?_
  exact ev_M_write_31_v h
theorem ev_M_write_v {n0 : Nat} {tx : Mtx} {nw : Mnw} {ps : Mps} {nd : Mnd} {us : Mus} {re : Mre} {va : Mva} {nu : Mnu} {x1 : Int32} {th : Mth} {ds : Mds} {ou : Mou} {res : Int32 × Mth × Mou} (h : fn_M_write x1 th ds ou = some res) : am_run rPT rML (n0 + 4) 28 [.ref 0, .int x1] (hr th tx ds nw ou ps nd us re va nu) = some (some (.int res.1), (hr res.2.1 tx ds nw res.2.2 ps nd us re va nu)) := by
  refine am_run_of (d := n0 + 3) rfl ?_
  show am_Ev (tb_M_write (am_run rPT rML (n0 + 3))) (0, [(0, .ref 0), (1, .int x1)], [], (hr th tx ds nw ou ps nd us re va nu)) (some (.int res.1), (hr res.2.1 tx ds nw res.2.2 ps nd us re va nu))
  unfold fn_M_write at h
  refine am_Ev.fork (b := decide (x1 < 0)) (s1 := (10, [(0, .ref 0), (1, .int x1)], [.ref 0], (hr th tx ds nw ou ps nd us re va nu))) (s2 := (5, [(0, .ref 0), (1, .int x1)], [.ref 0], (hr th tx ds nw ou ps nd us re va nu))) 3 (fun _ => rfl) (fun hc => ?_) (fun hc => ?_)
  · have h := (am_ift hc).symm.trans h
    exact ev_M_write_10_v h
  · have h := (am_iff hc).symm.trans h
    refine am_Ev.fork (b := decide (x1 ≤ (1 : Int32))) (s1 := (14, [(0, .ref 0), (1, .int x1)], [.ref 0], (hr th tx ds nw ou ps nd us re va nu))) (s2 := (10, [(0, .ref 0), (1, .int x1)], [.ref 0], (hr th tx ds nw ou ps nd us re va nu))) 3 (fun _ => rfl) (fun hc => ?_) (fun hc => ?_)
    · have h := (am_ift hc).symm.trans h
      refine am_Ev.fork (b := decide (x1 = (1 : Int32))) (s1 := (19, [(0, .ref 0), (1, .int x1)], [.ref 0], (hr th tx ds nw ou ps nd us re va nu))) (s2 := (30, [(0, .ref 0), (1, .int x1)], [.ref 0], (hr th tx ds nw ou ps nd us re va nu))) 3 (fun _ => rfl) (fun hc => ?_) (fun hc => ?_)
      · have h := (am_ift hc).symm.trans h
        obtain ⟨q30, hq, h⟩ := Option.bind_eq_some_iff.mp h
        refine am_Ev.go 1 (st' := (20, [(0, .ref 0), (1, .int x1)], [.ref 0, .ref 0], (hr th tx ds nw ou ps nd us re va nu))) (fun _ => rfl) ?_
        refine am_Ev.call (o := am_run rPT rML (n0 + 3) 18 [.ref 0] (hr th tx ds nw ou ps nd us re va nu)) (kk := fun q => (23, [(0, .ref 0), (1, .int x1)], q.1.toList ++ [.ref 0], q.2)) (q := (some (.int q30), (hr th tx ds nw ou ps nd us re va nu))) 1 (fun _ => rfl) (ev_M_isOrdered_v hq) ?_
        refine am_Ev.fork (b := decide (q30 = 0)) (s1 := (26, [(0, .ref 0), (1, .int x1)], [.ref 0], (hr th tx ds nw ou ps nd us re va nu))) (s2 := (30, [(0, .ref 0), (1, .int x1)], [.ref 0], (hr th tx ds nw ou ps nd us re va nu))) 1 (fun _ => rfl) (fun hc => ?_) (fun hc => ?_)
        · have h := (am_ift hc).symm.trans h
          refine am_Ev.go 2 (st' := (31, [(0, .ref 0), (1, .int x1)], [.int 2, .ref 0], (hr th tx ds nw ou ps nd us re va nu))) (fun _ => rfl) ?_
          exact ev_M_write_31_v h
        · have h := (am_iff hc).symm.trans h
          exact ev_M_write_30_v h
      · have h := (am_iff hc).symm.trans h
        exact ev_M_write_30_v h
    · have h := (am_iff hc).symm.trans h
      exact ev_M_write_10_v h
theorem ev_M_define_38_v {n0 : Nat} {th : Mth} {ds : Mds} {nw : Mnw} {ou : Mou} {re : Mre} {va : Mva} {nu : Mnu} {tx : Mtx} {ps : Mps} {nd : Mnd} {us : Mus} {res : Int32 × Mps × Mus} (h : fn_M_define_38 tx ps nd us = some res) : am_Ev (tb_M_define (am_run rPT rML (n0 + 4))) (38, [(0, .ref 0)], [], (hr th tx ds nw ou ps nd us re va nu)) (some (.int res.1), (hr th tx ds nw ou res.2.1 nd res.2.2 re va nu)) := by
  unfold fn_M_define_38 at h
  obtain ⟨q1, hq, h⟩ := Option.bind_eq_some_iff.mp h
  refine am_Ev.go 3 (st' := (43, [(0, .ref 0)], [.int ps.2.2, .ref 0], (hr th tx ds nw ou ps nd us re va nu))) (fun _ => rfl) ?_
  refine am_Ev.call (o := am_run rPT rML (n0 + 4) 2 [.ref 0, .int ps.2.2] (hr th tx ds nw ou ps nd us re va nu)) (kk := fun q => (46, [(0, .ref 0)], q.1.toList ++ [], q.2)) (q := (none, (hr th tx ds nw ou q1 nd us re va nu))) 1 (fun _ => rfl) (ev_M_bad_v hq) ?_
  cases h
  exact am_Ev.done 2 rfl
theorem ev_M_define_v {n0 : Nat} {th : Mth} {ds : Mds} {nw : Mnw} {ou : Mou} {re : Mre} {va : Mva} {nu : Mnu} {tx : Mtx} {ps : Mps} {nd : Mnd} {us : Mus} {res : Int32 × Mps × Mus} (h : fn_M_define tx ps nd us = some res) : am_run rPT rML (n0 + 5) 7 [.ref 0] (hr th tx ds nw ou ps nd us re va nu) = some (some (.int res.1), (hr th tx ds nw ou res.2.1 nd res.2.2 re va nu)) := by
  refine am_run_of (d := n0 + 4) rfl ?_
  show am_Ev (tb_M_define (am_run rPT rML (n0 + 4))) (0, [(0, .ref 0)], [], (hr th tx ds nw ou ps nd us re va nu)) (some (.int res.1), (hr th tx ds nw ou res.2.1 nd res.2.2 re va nu))
  unfold fn_M_define at h
  obtain ⟨q2, hq, h⟩ := Option.bind_eq_some_iff.mp h
  refine am_Ev.go 2 (st' := (2, [(0, .ref 0)], [.int 0, .ref 0], (hr th tx ds nw ou ps nd us re va nu))) (fun _ => rfl) ?_
  refine am_Ev.call (o := am_run rPT rML (n0 + 4) 6 [.ref 0, .int 0] (hr th tx ds nw ou ps nd us re va nu)) (kk := fun q => (5, [(0, .ref 0)], q.1.toList ++ [], q.2)) (q := (some (.int q2.1), (hr th tx ds nw ou q2.2.1 nd q2.2.2 re va nu))) 1 (fun _ => rfl) (ev_M_literal_v hq) ?_
  refine am_Ev.fork (b := decide (q2.2.1.2.1 = (-1 : Int32))) (s1 := (16, [(0, .ref 0), (1, .int q2.1)], [], (hr th tx ds nw ou q2.2.1 nd q2.2.2 re va nu))) (s2 := (14, [(0, .ref 0), (1, .int q2.1)], [], (hr th tx ds nw ou q2.2.1 nd q2.2.2 re va nu))) 5 (fun _ => rfl) (fun hc => ?_) (fun hc => ?_)
  · have h := (am_ift hc).symm.trans h
    obtain ⟨hc, h⟩ := am_ifn h
    refine am_Ev.guard (b := decide (¬ (2 : Int32) = 0)) (s1 := (19, [(0, .ref 0), (1, .int q2.1)], [.int (q2.1 - q2.1 / (2 : Int32) * (2 : Int32))], (hr th tx ds nw ou q2.2.1 nd q2.2.2 re va nu))) 3 (fun _ => rfl) hc ?_
    refine am_Ev.fork (b := decide ((q2.1 - q2.1 / (2 : Int32) * (2 : Int32)) = (1 : Int32))) (s1 := (38, [(0, .ref 0), (1, .int q2.1)], [], (hr th tx ds nw ou q2.2.1 nd q2.2.2 re va nu))) (s2 := (23, [(0, .ref 0), (1, .int q2.1)], [], (hr th tx ds nw ou q2.2.1 nd q2.2.2 re va nu))) 2 (fun _ => rfl) (fun hc => ?_) (fun hc => ?_)
    · have h := (am_ift hc).symm.trans h
      refine am_Ev.same (st' := (38, [(0, .ref 0)], [], (hr th tx ds nw ou q2.2.1 nd q2.2.2 re va nu))) (fun _ => rfl) ?_
      exact ev_M_define_38_v h
    · have h := (am_iff hc).symm.trans h
      refine am_Ev.fork (b := decide (q2.1 = 0)) (s1 := (38, [(0, .ref 0), (1, .int q2.1)], [], (hr th tx ds nw ou q2.2.1 nd q2.2.2 re va nu))) (s2 := (27, [(0, .ref 0), (1, .int q2.1)], [], (hr th tx ds nw ou q2.2.1 nd q2.2.2 re va nu))) 2 (fun _ => rfl) (fun hc => ?_) (fun hc => ?_)
      · have h := (am_ift hc).symm.trans h
        refine am_Ev.same (st' := (38, [(0, .ref 0)], [], (hr th tx ds nw ou q2.2.1 nd q2.2.2 re va nu))) (fun _ => rfl) ?_
        exact ev_M_define_38_v h
      · have h := (am_iff hc).symm.trans h
        obtain ⟨hc, h⟩ := am_ifn h
        refine am_Ev.guard (b := decide (¬ (2 : Int32) = 0)) (s1 := (34, [(0, .ref 0), (1, .int q2.1)], [.int (q2.1 / (2 : Int32)), .ref 23], (hr th tx ds nw ou q2.2.1 nd q2.2.2 re va nu))) 5 (fun _ => rfl) hc ?_
        obtain ⟨hc, h⟩ := am_ifn h
        refine am_Ev.guard (b := decide (0 ≤ (q2.1 / (2 : Int32)).toInt ∧ (q2.1 / (2 : Int32)).toInt < (100 : Int))) (s1 := (35, [(0, .ref 0), (1, .int q2.1)], [.int (q2.2.2.2.1 ((q2.1 / (2 : Int32)).toNatClampNeg))], (hr th tx ds nw ou q2.2.1 nd q2.2.2 re va nu))) 1 (fun _ => rfl) hc ?_
        refine am_Ev.fork (b := decide ((q2.2.2.2.1 ((q2.1 / (2 : Int32)).toNatClampNeg)) = 0)) (s1 := (48, [(0, .ref 0), (1, .int q2.1)], [], (hr th tx ds nw ou q2.2.1 nd q2.2.2 re va nu))) (s2 := (38, [(0, .ref 0), (1, .int q2.1)], [], (hr th tx ds nw ou q2.2.1 nd q2.2.2 re va nu))) 1 (fun _ => rfl) (fun hc => ?_) (fun hc => ?_)
        · have h := (am_ift hc).symm.trans h
          obtain ⟨hc, h⟩ := am_ifn h
          refine am_Ev.guard (b := decide (¬ (2 : Int32) = 0)) (s1 := (55, [(0, .ref 0), (1, .int q2.1)], [.int (q2.1 / (2 : Int32)), .ref 23], (hr th tx ds nw ou q2.2.1 nd q2.2.2 re va nu))) 5 (fun _ => rfl) hc ?_
          obtain ⟨hc, h⟩ := am_ifn h
          refine am_Ev.guard (b := decide (0 ≤ (q2.1 / (2 : Int32)).toInt ∧ (q2.1 / (2 : Int32)).toInt < (100 : Int))) (s1 := (57, [(0, .ref 0), (1, .int q2.1)], [], (hr th tx ds nw ou q2.2.1 nd (q2.2.2.1, upd q2.2.2.2.1 (q2.1 / (2 : Int32)).toNatClampNeg (vp_nar .boolean (1 : Int32)), q2.2.2.2.2.1, q2.2.2.2.2.2.1, q2.2.2.2.2.2.2) re va nu))) 2 (fun _ => rfl) hc ?_
          cases h
          exact am_Ev.done 2 rfl
        · have h := (am_iff hc).symm.trans h
          refine am_Ev.same (st' := (38, [(0, .ref 0)], [], (hr th tx ds nw ou q2.2.1 nd q2.2.2 re va nu))) (fun _ => rfl) ?_
          exact ev_M_define_38_v h
  · have h := (am_iff hc).symm.trans h
    cases h
    exact am_Ev.done 2 rfl
theorem ev_M_latchRest_60_v {n0 : Nat} {th : Mth} {ds : Mds} {nw : Mnw} {ou : Mou} {re : Mre} {va : Mva} {nu : Mnu} {tx : Mtx} {ps : Mps} {nd : Mnd} {us : Mus} {res : Mps × Mnd × Mus} (h : fn_M_latchRest_60 tx ps nd us = some res) : am_Ev (tb_M_latchRest (am_run rPT rML (n0 + 4))) (60, [(0, .ref 0)], [], (hr th tx ds nw ou ps nd us re va nu)) (none, (hr th tx ds nw ou res.1 res.2.1 res.2.2 re va nu)) := by
  unfold fn_M_latchRest_60 at h
  obtain ⟨q1, hq, h⟩ := Option.bind_eq_some_iff.mp h
  refine am_Ev.go 2 (st' := (63, [(0, .ref 0)], [.int 10, .ref 0], (hr th tx ds nw ou ps nd us re va nu))) (fun _ => rfl) ?_
  refine am_Ev.call (o := am_run rPT rML (n0 + 4) 3 [.ref 0, .int 10] (hr th tx ds nw ou ps nd us re va nu)) (kk := fun q => (66, [(0, .ref 0)], q.1.toList ++ [], q.2)) (q := (none, (hr th tx ds nw ou q1 nd us re va nu))) 1 (fun _ => rfl) (ev_M_take_v hq) ?_
  cases h
  exact am_Ev.done 1 rfl
theorem ev_M_latchRest_v {n0 : Nat} {th : Mth} {ds : Mds} {nw : Mnw} {ou : Mou} {re : Mre} {va : Mva} {nu : Mnu} {x1 : Int32} {tx : Mtx} {ps : Mps} {nd : Mnd} {us : Mus} {res : Mps × Mnd × Mus} (h : fn_M_latchRest x1 tx ps nd us = some res) : am_run rPT rML (n0 + 5) 9 [.ref 0, .int x1] (hr th tx ds nw ou ps nd us re va nu) = some (none, (hr th tx ds nw ou res.1 res.2.1 res.2.2 re va nu)) := by
  refine am_run_of (d := n0 + 4) rfl ?_
  show am_Ev (tb_M_latchRest (am_run rPT rML (n0 + 4))) (0, [(0, .ref 0), (1, .int x1)], [], (hr th tx ds nw ou ps nd us re va nu)) (none, (hr th tx ds nw ou res.1 res.2.1 res.2.2 re va nu))
  unfold fn_M_latchRest at h
  obtain ⟨q2, hq, h⟩ := Option.bind_eq_some_iff.mp h
  refine am_Ev.go 5 (st' := (7, [(0, .ref 0), (1, .int x1)], [.int 1, .ref 0, .int x1, .ref 16], (hr th tx ds nw ou ps nd us re va nu))) (fun _ => rfl) ?_
  refine am_Ev.call (o := am_run rPT rML (n0 + 4) 6 [.ref 0, .int 1] (hr th tx ds nw ou ps nd us re va nu)) (kk := fun q => (10, [(0, .ref 0), (1, .int x1)], q.1.toList ++ [.int x1, .ref 16], q.2)) (q := (some (.int q2.1), (hr th tx ds nw ou q2.2.1 nd q2.2.2 re va nu))) 1 (fun _ => rfl) (ev_M_literal_v hq) ?_
  obtain ⟨hc, h⟩ := am_ifn h
  refine am_Ev.guard (b := decide (0 ≤ x1.toInt ∧ x1.toInt < (8 : Int))) (s1 := (11, [(0, .ref 0), (1, .int x1)], [], (hr th tx ds nw ou q2.2.1 (nd.1, nd.2.1, nd.2.2.1, nd.2.2.2.1, upd nd.2.2.2.2.1 x1.toNatClampNeg q2.1, nd.2.2.2.2.2.1, nd.2.2.2.2.2.2.1, nd.2.2.2.2.2.2.2.1, nd.2.2.2.2.2.2.2.2.1, nd.2.2.2.2.2.2.2.2.2) q2.2.2 re va nu))) 1 (fun _ => rfl) hc ?_
  obtain ⟨hc, h⟩ := am_ifn h
  refine am_Ev.guard (b := decide (0 ≤ x1.toInt ∧ x1.toInt < (8 : Int))) (s1 := (18, [(0, .ref 0), (1, .int x1)], [], (hr th tx ds nw ou q2.2.1 (nd.1, nd.2.1, nd.2.2.1, nd.2.2.2.1, upd nd.2.2.2.2.1 x1.toNatClampNeg q2.1, upd nd.2.2.2.2.2.1 x1.toNatClampNeg ((0 : Int32)), nd.2.2.2.2.2.2.1, nd.2.2.2.2.2.2.2.1, nd.2.2.2.2.2.2.2.2.1, nd.2.2.2.2.2.2.2.2.2) q2.2.2 re va nu))) 5 (fun _ => rfl) hc ?_
  refine am_Ev.fork (b := decide (q2.2.1.2.1 = (-1 : Int32))) (s1 := (26, [(0, .ref 0), (1, .int x1)], [], (hr th tx ds nw ou q2.2.1 (nd.1, nd.2.1, nd.2.2.1, nd.2.2.2.1, upd nd.2.2.2.2.1 x1.toNatClampNeg q2.1, upd nd.2.2.2.2.2.1 x1.toNatClampNeg ((0 : Int32)), nd.2.2.2.2.2.2.1, nd.2.2.2.2.2.2.2.1, nd.2.2.2.2.2.2.2.2.1, nd.2.2.2.2.2.2.2.2.2) q2.2.2 re va nu))) (s2 := (60, [(0, .ref 0), (1, .int x1)], [], (hr th tx ds nw ou q2.2.1 (nd.1, nd.2.1, nd.2.2.1, nd.2.2.2.1, upd nd.2.2.2.2.1 x1.toNatClampNeg q2.1, upd nd.2.2.2.2.2.1 x1.toNatClampNeg ((0 : Int32)), nd.2.2.2.2.2.2.1, nd.2.2.2.2.2.2.2.1, nd.2.2.2.2.2.2.2.2.1, nd.2.2.2.2.2.2.2.2.2) q2.2.2 re va nu))) 4 (fun _ => rfl) (fun hc => ?_) (fun hc => ?_)
  · have h := (am_ift hc).symm.trans h
    obtain ⟨q3, hq, h⟩ := Option.bind_eq_some_iff.mp h
    refine am_Ev.go 3 (st' := (31, [(0, .ref 0), (1, .int x1)], [.int q2.2.1.1, .ref 0], (hr th tx ds nw ou q2.2.1 (nd.1, nd.2.1, nd.2.2.1, nd.2.2.2.1, upd nd.2.2.2.2.1 x1.toNatClampNeg q2.1, upd nd.2.2.2.2.2.1 x1.toNatClampNeg ((0 : Int32)), nd.2.2.2.2.2.2.1, nd.2.2.2.2.2.2.2.1, nd.2.2.2.2.2.2.2.2.1, nd.2.2.2.2.2.2.2.2.2) q2.2.2 re va nu))) (fun _ => rfl) ?_
    refine am_Ev.call (o := am_run rPT rML (n0 + 4) 1 [.ref 0, .int q2.2.1.1] (hr th tx ds nw ou q2.2.1 (nd.1, nd.2.1, nd.2.2.1, nd.2.2.2.1, upd nd.2.2.2.2.1 x1.toNatClampNeg q2.1, upd nd.2.2.2.2.2.1 x1.toNatClampNeg ((0 : Int32)), nd.2.2.2.2.2.2.1, nd.2.2.2.2.2.2.2.1, nd.2.2.2.2.2.2.2.2.1, nd.2.2.2.2.2.2.2.2.2) q2.2.2 re va nu)) (kk := fun q => (34, [(0, .ref 0), (1, .int x1)], q.1.toList ++ [], q.2)) (q := (some (.int q3), (hr th tx ds nw ou q2.2.1 (nd.1, nd.2.1, nd.2.2.1, nd.2.2.2.1, upd nd.2.2.2.2.1 x1.toNatClampNeg q2.1, upd nd.2.2.2.2.2.1 x1.toNatClampNeg ((0 : Int32)), nd.2.2.2.2.2.2.1, nd.2.2.2.2.2.2.2.1, nd.2.2.2.2.2.2.2.2.1, nd.2.2.2.2.2.2.2.2.2) q2.2.2 re va nu))) 1 (fun _ => rfl) (ev_M_byteAt_v hq) ?_
    refine am_Ev.fork (b := decide (q3 = (32 : Int32))) (s1 := (39, [(0, .ref 0), (1, .int x1)], [], (hr th tx ds nw ou q2.2.1 (nd.1, nd.2.1, nd.2.2.1, nd.2.2.2.1, upd nd.2.2.2.2.1 x1.toNatClampNeg q2.1, upd nd.2.2.2.2.2.1 x1.toNatClampNeg ((0 : Int32)), nd.2.2.2.2.2.2.1, nd.2.2.2.2.2.2.2.1, nd.2.2.2.2.2.2.2.2.1, nd.2.2.2.2.2.2.2.2.2) q2.2.2 re va nu))) (s2 := (60, [(0, .ref 0), (1, .int x1)], [], (hr th tx ds nw ou q2.2.1 (nd.1, nd.2.1, nd.2.2.1, nd.2.2.2.1, upd nd.2.2.2.2.1 x1.toNatClampNeg q2.1, upd nd.2.2.2.2.2.1 x1.toNatClampNeg ((0 : Int32)), nd.2.2.2.2.2.2.1, nd.2.2.2.2.2.2.2.1, nd.2.2.2.2.2.2.2.2.1, nd.2.2.2.2.2.2.2.2.2) q2.2.2 re va nu))) 2 (fun _ => rfl) (fun hc => ?_) (fun hc => ?_)
    · have h := (am_ift hc).symm.trans h
      obtain ⟨q4, hq, h⟩ := Option.bind_eq_some_iff.mp h
      refine am_Ev.go 11 (st' := (56, [(0, .ref 0), (1, .int x1)], [.int 1, .ref 0, .int x1, .ref 17], (hr th tx ds nw ou (q2.2.1.1 + (1 : Int32), q2.2.1.2.1, q2.2.1.2.2) (nd.1, nd.2.1, nd.2.2.1, nd.2.2.2.1, upd nd.2.2.2.2.1 x1.toNatClampNeg q2.1, upd nd.2.2.2.2.2.1 x1.toNatClampNeg ((0 : Int32)), nd.2.2.2.2.2.2.1, nd.2.2.2.2.2.2.2.1, nd.2.2.2.2.2.2.2.2.1, nd.2.2.2.2.2.2.2.2.2) q2.2.2 re va nu))) (fun _ => rfl) ?_
      refine am_Ev.call (o := am_run rPT rML (n0 + 4) 5 [.ref 0, .int 1] (hr th tx ds nw ou (q2.2.1.1 + (1 : Int32), q2.2.1.2.1, q2.2.1.2.2) (nd.1, nd.2.1, nd.2.2.1, nd.2.2.2.1, upd nd.2.2.2.2.1 x1.toNatClampNeg q2.1, upd nd.2.2.2.2.2.1 x1.toNatClampNeg ((0 : Int32)), nd.2.2.2.2.2.2.1, nd.2.2.2.2.2.2.2.1, nd.2.2.2.2.2.2.2.2.1, nd.2.2.2.2.2.2.2.2.2) q2.2.2 re va nu)) (kk := fun q => (59, [(0, .ref 0), (1, .int x1)], q.1.toList ++ [.int x1, .ref 17], q.2)) (q := (some (.int q4.1), (hr th tx ds nw ou q4.2 (nd.1, nd.2.1, nd.2.2.1, nd.2.2.2.1, upd nd.2.2.2.2.1 x1.toNatClampNeg q2.1, upd nd.2.2.2.2.2.1 x1.toNatClampNeg ((0 : Int32)), nd.2.2.2.2.2.2.1, nd.2.2.2.2.2.2.2.1, nd.2.2.2.2.2.2.2.2.1, nd.2.2.2.2.2.2.2.2.2) q2.2.2 re va nu))) 1 (fun _ => rfl) (ev_M_number_v hq) ?_
      obtain ⟨hc, h⟩ := am_ifn h
      refine am_Ev.guard (b := decide (0 ≤ x1.toInt ∧ x1.toInt < (8 : Int))) (s1 := (60, [(0, .ref 0), (1, .int x1)], [], (hr th tx ds nw ou q4.2 (nd.1, nd.2.1, nd.2.2.1, nd.2.2.2.1, upd nd.2.2.2.2.1 x1.toNatClampNeg q2.1, upd (upd nd.2.2.2.2.2.1 x1.toNatClampNeg ((0 : Int32))) x1.toNatClampNeg q4.1, nd.2.2.2.2.2.2.1, nd.2.2.2.2.2.2.2.1, nd.2.2.2.2.2.2.2.2.1, nd.2.2.2.2.2.2.2.2.2) q2.2.2 re va nu))) 1 (fun _ => rfl) hc ?_
      refine am_Ev.same (st' := (60, [(0, .ref 0)], [], (hr th tx ds nw ou q4.2 (nd.1, nd.2.1, nd.2.2.1, nd.2.2.2.1, upd nd.2.2.2.2.1 x1.toNatClampNeg q2.1, upd (upd nd.2.2.2.2.2.1 x1.toNatClampNeg ((0 : Int32))) x1.toNatClampNeg q4.1, nd.2.2.2.2.2.2.1, nd.2.2.2.2.2.2.2.1, nd.2.2.2.2.2.2.2.2.1, nd.2.2.2.2.2.2.2.2.2) q2.2.2 re va nu))) (fun _ => rfl) ?_
      exact ev_M_latchRest_60_v h
    · have h := (am_iff hc).symm.trans h
      refine am_Ev.same (st' := (60, [(0, .ref 0)], [], (hr th tx ds nw ou q2.2.1 (nd.1, nd.2.1, nd.2.2.1, nd.2.2.2.1, upd nd.2.2.2.2.1 x1.toNatClampNeg q2.1, upd nd.2.2.2.2.2.1 x1.toNatClampNeg ((0 : Int32)), nd.2.2.2.2.2.2.1, nd.2.2.2.2.2.2.2.1, nd.2.2.2.2.2.2.2.2.1, nd.2.2.2.2.2.2.2.2.2) q2.2.2 re va nu))) (fun _ => rfl) ?_
      exact ev_M_latchRest_60_v h
  · have h := (am_iff hc).symm.trans h
    refine am_Ev.same (st' := (60, [(0, .ref 0)], [], (hr th tx ds nw ou q2.2.1 (nd.1, nd.2.1, nd.2.2.1, nd.2.2.2.1, upd nd.2.2.2.2.1 x1.toNatClampNeg q2.1, upd nd.2.2.2.2.2.1 x1.toNatClampNeg ((0 : Int32)), nd.2.2.2.2.2.2.1, nd.2.2.2.2.2.2.2.1, nd.2.2.2.2.2.2.2.2.1, nd.2.2.2.2.2.2.2.2.2) q2.2.2 re va nu))) (fun _ => rfl) ?_
    exact ev_M_latchRest_60_v h
theorem ev_M_plainBody_134_v {n0 : Nat} {th : Mth} {ds : Mds} {nw : Mnw} {ou : Mou} {re : Mre} {va : Mva} {nu : Mnu} {tx : Mtx} {κ : Mps → Mnd → Mus → Option (Mps × Mnd × Mus)} (hκ : ∀ (ps : Mps) (nd : Mnd) (us : Mus) (res : Mps × Mnd × Mus), κ ps nd us = some res → am_Ev (tb_M_plainBody (am_run rPT rML (n0 + 5))) (218, [], [], (hr th tx ds nw ou ps nd us re va nu)) (none, (hr th tx ds nw ou res.1 res.2.1 res.2.2 re va nu))) : ∀ (n : Nat) (x1 : Int32) (ps : Mps) (nd : Mnd) (us : Mus) (res : Mps × Mnd × Mus), fn_M_plainBody_134 tx κ n x1 ps nd us = some res → am_Ev (tb_M_plainBody (am_run rPT rML (n0 + 5))) (134, [(0, .ref 0), (1, .int x1)], [], (hr th tx ds nw ou ps nd us re va nu)) (none, (hr th tx ds nw ou res.1 res.2.1 res.2.2 re va nu)) := by
  intro n
  induction n with
  | zero => intro x1 ps nd us res h; unfold fn_M_plainBody_134 at h; cases h
  | succ n ih =>
    intro x1 ps nd us res h
    unfold fn_M_plainBody_134 at h
    obtain ⟨hc, h⟩ := am_ifn h
    refine am_Ev.guard (b := decide (0 ≤ (3 : Int32).toInt ∧ (3 : Int32).toInt < (4 : Int))) (s1 := (141, [(0, .ref 0), (1, .int x1)], [.int (nd.2.1 ((3 : Int32).toNatClampNeg)), .int x1], (hr th tx ds nw ou ps nd us re va nu))) 5 (fun _ => rfl) hc ?_
    refine am_Ev.fork (b := decide ((nd.2.1 ((3 : Int32).toNatClampNeg)) ≤ x1)) (s1 := (218, [(0, .ref 0), (1, .int x1)], [], (hr th tx ds nw ou ps nd us re va nu))) (s2 := (144, [(0, .ref 0), (1, .int x1)], [], (hr th tx ds nw ou ps nd us re va nu))) 1 (fun _ => rfl) (fun hc => ?_) (fun hc => ?_)
    · have h := (am_ift hc).symm.trans h
      refine am_Ev.same (st' := (218, [], [], (hr th tx ds nw ou ps nd us re va nu))) (fun _ => rfl) ?_
      exact hκ _ _ _ _ h
    · have h := (am_iff hc).symm.trans h
      refine am_Ev.fork (b := decide (ps.2.1 = (-1 : Int32))) (s1 := (152, [(0, .ref 0), (1, .int x1)], [], (hr th tx ds nw ou ps nd us re va nu))) (s2 := (218, [(0, .ref 0), (1, .int x1)], [], (hr th tx ds nw ou ps nd us re va nu))) 4 (fun _ => rfl) (fun hc => ?_) (fun hc => ?_)
      · have h := (am_ift hc).symm.trans h
        obtain ⟨q1, hq, h⟩ := Option.bind_eq_some_iff.mp h
        refine am_Ev.go 4 (st' := (158, [(0, .ref 0), (1, .int x1)], [.ref 0, .int x1, .ref 19], (hr th tx ds nw ou ps nd us re va nu))) (fun _ => rfl) ?_
        refine am_Ev.call (o := am_run rPT rML (n0 + 5) 7 [.ref 0] (hr th tx ds nw ou ps nd us re va nu)) (kk := fun q => (161, [(0, .ref 0), (1, .int x1)], q.1.toList ++ [.int x1, .ref 19], q.2)) (q := (some (.int q1.1), (hr th tx ds nw ou q1.2.1 nd q1.2.2 re va nu))) 1 (fun _ => rfl) (ev_M_define_v hq) ?_
        obtain ⟨hc, h⟩ := am_ifn h
        refine am_Ev.guard (b := decide (0 ≤ x1.toInt ∧ x1.toInt < (60 : Int))) (s1 := (162, [(0, .ref 0), (1, .int x1)], [], (hr th tx ds nw ou q1.2.1 (nd.1, nd.2.1, nd.2.2.1, nd.2.2.2.1, nd.2.2.2.2.1, nd.2.2.2.2.2.1, nd.2.2.2.2.2.2.1, upd nd.2.2.2.2.2.2.2.1 x1.toNatClampNeg q1.1, nd.2.2.2.2.2.2.2.2.1, nd.2.2.2.2.2.2.2.2.2) q1.2.2 re va nu))) 1 (fun _ => rfl) hc ?_
        obtain ⟨hc, h⟩ := am_ifn h
        refine am_Ev.guard (b := decide (0 ≤ x1.toInt ∧ x1.toInt < (60 : Int))) (s1 := (172, [(0, .ref 0), (1, .int x1)], [], (hr th tx ds nw ou q1.2.1 (nd.1, nd.2.1, nd.2.2.1, nd.2.2.2.1, nd.2.2.2.2.1, nd.2.2.2.2.2.1, nd.2.2.2.2.2.2.1, upd nd.2.2.2.2.2.2.2.1 x1.toNatClampNeg q1.1, nd.2.2.2.2.2.2.2.2.1, nd.2.2.2.2.2.2.2.2.2) (upd q1.2.2.1 x1.toNatClampNeg q1.2.1.2.2, q1.2.2.2.1, q1.2.2.2.2.1, q1.2.2.2.2.2.1, q1.2.2.2.2.2.2) re va nu))) 6 (fun _ => rfl) hc ?_
        obtain ⟨q2, hq, h⟩ := Option.bind_eq_some_iff.mp h
        refine am_Ev.go 2 (st' := (175, [(0, .ref 0), (1, .int x1)], [.int 32, .ref 0], (hr th tx ds nw ou q1.2.1 (nd.1, nd.2.1, nd.2.2.1, nd.2.2.2.1, nd.2.2.2.2.1, nd.2.2.2.2.2.1, nd.2.2.2.2.2.2.1, upd nd.2.2.2.2.2.2.2.1 x1.toNatClampNeg q1.1, nd.2.2.2.2.2.2.2.2.1, nd.2.2.2.2.2.2.2.2.2) (upd q1.2.2.1 x1.toNatClampNeg q1.2.1.2.2, q1.2.2.2.1, q1.2.2.2.2.1, q1.2.2.2.2.2.1, q1.2.2.2.2.2.2) re va nu))) (fun _ => rfl) ?_
        refine am_Ev.call (o := am_run rPT rML (n0 + 5) 3 [.ref 0, .int 32] (hr th tx ds nw ou q1.2.1 (nd.1, nd.2.1, nd.2.2.1, nd.2.2.2.1, nd.2.2.2.2.1, nd.2.2.2.2.2.1, nd.2.2.2.2.2.2.1, upd nd.2.2.2.2.2.2.2.1 x1.toNatClampNeg q1.1, nd.2.2.2.2.2.2.2.2.1, nd.2.2.2.2.2.2.2.2.2) (upd q1.2.2.1 x1.toNatClampNeg q1.2.1.2.2, q1.2.2.2.1, q1.2.2.2.2.1, q1.2.2.2.2.2.1, q1.2.2.2.2.2.2) re va nu)) (kk := fun q => (178, [(0, .ref 0), (1, .int x1)], q.1.toList ++ [], q.2)) (q := (none, (hr th tx ds nw ou q2 (nd.1, nd.2.1, nd.2.2.1, nd.2.2.2.1, nd.2.2.2.2.1, nd.2.2.2.2.2.1, nd.2.2.2.2.2.2.1, upd nd.2.2.2.2.2.2.2.1 x1.toNatClampNeg q1.1, nd.2.2.2.2.2.2.2.2.1, nd.2.2.2.2.2.2.2.2.2) (upd q1.2.2.1 x1.toNatClampNeg q1.2.1.2.2, q1.2.2.2.1, q1.2.2.2.2.1, q1.2.2.2.2.2.1, q1.2.2.2.2.2.2) re va nu))) 1 (fun _ => rfl) (ev_M_take_v hq) ?_
        obtain ⟨q3, hq, h⟩ := Option.bind_eq_some_iff.mp h
        refine am_Ev.go 5 (st' := (185, [(0, .ref 0), (1, .int x1)], [.int 1, .ref 0, .int x1, .ref 20], (hr th tx ds nw ou q2 (nd.1, nd.2.1, nd.2.2.1, nd.2.2.2.1, nd.2.2.2.2.1, nd.2.2.2.2.2.1, nd.2.2.2.2.2.2.1, upd nd.2.2.2.2.2.2.2.1 x1.toNatClampNeg q1.1, nd.2.2.2.2.2.2.2.2.1, nd.2.2.2.2.2.2.2.2.2) (upd q1.2.2.1 x1.toNatClampNeg q1.2.1.2.2, q1.2.2.2.1, q1.2.2.2.2.1, q1.2.2.2.2.2.1, q1.2.2.2.2.2.2) re va nu))) (fun _ => rfl) ?_
        refine am_Ev.call (o := am_run rPT rML (n0 + 5) 6 [.ref 0, .int 1] (hr th tx ds nw ou q2 (nd.1, nd.2.1, nd.2.2.1, nd.2.2.2.1, nd.2.2.2.2.1, nd.2.2.2.2.2.1, nd.2.2.2.2.2.2.1, upd nd.2.2.2.2.2.2.2.1 x1.toNatClampNeg q1.1, nd.2.2.2.2.2.2.2.2.1, nd.2.2.2.2.2.2.2.2.2) (upd q1.2.2.1 x1.toNatClampNeg q1.2.1.2.2, q1.2.2.2.1, q1.2.2.2.2.1, q1.2.2.2.2.2.1, q1.2.2.2.2.2.2) re va nu)) (kk := fun q => (188, [(0, .ref 0), (1, .int x1)], q.1.toList ++ [.int x1, .ref 20], q.2)) (q := (some (.int q3.1), (hr th tx ds nw ou q3.2.1 (nd.1, nd.2.1, nd.2.2.1, nd.2.2.2.1, nd.2.2.2.2.1, nd.2.2.2.2.2.1, nd.2.2.2.2.2.2.1, upd nd.2.2.2.2.2.2.2.1 x1.toNatClampNeg q1.1, nd.2.2.2.2.2.2.2.2.1, nd.2.2.2.2.2.2.2.2.2) q3.2.2 re va nu))) 1 (fun _ => rfl) (ev_M_literal_v hq) ?_
        obtain ⟨hc, h⟩ := am_ifn h
        refine am_Ev.guard (b := decide (0 ≤ x1.toInt ∧ x1.toInt < (60 : Int))) (s1 := (189, [(0, .ref 0), (1, .int x1)], [], (hr th tx ds nw ou q3.2.1 (nd.1, nd.2.1, nd.2.2.1, nd.2.2.2.1, nd.2.2.2.2.1, nd.2.2.2.2.2.1, nd.2.2.2.2.2.2.1, upd nd.2.2.2.2.2.2.2.1 x1.toNatClampNeg q1.1, upd nd.2.2.2.2.2.2.2.2.1 x1.toNatClampNeg q3.1, nd.2.2.2.2.2.2.2.2.2) q3.2.2 re va nu))) 1 (fun _ => rfl) hc ?_
        obtain ⟨q4, hq, h⟩ := Option.bind_eq_some_iff.mp h
        refine am_Ev.go 2 (st' := (192, [(0, .ref 0), (1, .int x1)], [.int 32, .ref 0], (hr th tx ds nw ou q3.2.1 (nd.1, nd.2.1, nd.2.2.1, nd.2.2.2.1, nd.2.2.2.2.1, nd.2.2.2.2.2.1, nd.2.2.2.2.2.2.1, upd nd.2.2.2.2.2.2.2.1 x1.toNatClampNeg q1.1, upd nd.2.2.2.2.2.2.2.2.1 x1.toNatClampNeg q3.1, nd.2.2.2.2.2.2.2.2.2) q3.2.2 re va nu))) (fun _ => rfl) ?_
        refine am_Ev.call (o := am_run rPT rML (n0 + 5) 3 [.ref 0, .int 32] (hr th tx ds nw ou q3.2.1 (nd.1, nd.2.1, nd.2.2.1, nd.2.2.2.1, nd.2.2.2.2.1, nd.2.2.2.2.2.1, nd.2.2.2.2.2.2.1, upd nd.2.2.2.2.2.2.2.1 x1.toNatClampNeg q1.1, upd nd.2.2.2.2.2.2.2.2.1 x1.toNatClampNeg q3.1, nd.2.2.2.2.2.2.2.2.2) q3.2.2 re va nu)) (kk := fun q => (195, [(0, .ref 0), (1, .int x1)], q.1.toList ++ [], q.2)) (q := (none, (hr th tx ds nw ou q4 (nd.1, nd.2.1, nd.2.2.1, nd.2.2.2.1, nd.2.2.2.2.1, nd.2.2.2.2.2.1, nd.2.2.2.2.2.2.1, upd nd.2.2.2.2.2.2.2.1 x1.toNatClampNeg q1.1, upd nd.2.2.2.2.2.2.2.2.1 x1.toNatClampNeg q3.1, nd.2.2.2.2.2.2.2.2.2) q3.2.2 re va nu))) 1 (fun _ => rfl) (ev_M_take_v hq) ?_
        obtain ⟨q5, hq, h⟩ := Option.bind_eq_some_iff.mp h
        refine am_Ev.go 5 (st' := (202, [(0, .ref 0), (1, .int x1)], [.int 1, .ref 0, .int x1, .ref 21], (hr th tx ds nw ou q4 (nd.1, nd.2.1, nd.2.2.1, nd.2.2.2.1, nd.2.2.2.2.1, nd.2.2.2.2.2.1, nd.2.2.2.2.2.2.1, upd nd.2.2.2.2.2.2.2.1 x1.toNatClampNeg q1.1, upd nd.2.2.2.2.2.2.2.2.1 x1.toNatClampNeg q3.1, nd.2.2.2.2.2.2.2.2.2) q3.2.2 re va nu))) (fun _ => rfl) ?_
        refine am_Ev.call (o := am_run rPT rML (n0 + 5) 6 [.ref 0, .int 1] (hr th tx ds nw ou q4 (nd.1, nd.2.1, nd.2.2.1, nd.2.2.2.1, nd.2.2.2.2.1, nd.2.2.2.2.2.1, nd.2.2.2.2.2.2.1, upd nd.2.2.2.2.2.2.2.1 x1.toNatClampNeg q1.1, upd nd.2.2.2.2.2.2.2.2.1 x1.toNatClampNeg q3.1, nd.2.2.2.2.2.2.2.2.2) q3.2.2 re va nu)) (kk := fun q => (205, [(0, .ref 0), (1, .int x1)], q.1.toList ++ [.int x1, .ref 21], q.2)) (q := (some (.int q5.1), (hr th tx ds nw ou q5.2.1 (nd.1, nd.2.1, nd.2.2.1, nd.2.2.2.1, nd.2.2.2.2.1, nd.2.2.2.2.2.1, nd.2.2.2.2.2.2.1, upd nd.2.2.2.2.2.2.2.1 x1.toNatClampNeg q1.1, upd nd.2.2.2.2.2.2.2.2.1 x1.toNatClampNeg q3.1, nd.2.2.2.2.2.2.2.2.2) q5.2.2 re va nu))) 1 (fun _ => rfl) (ev_M_literal_v hq) ?_
        obtain ⟨hc, h⟩ := am_ifn h
        refine am_Ev.guard (b := decide (0 ≤ x1.toInt ∧ x1.toInt < (60 : Int))) (s1 := (206, [(0, .ref 0), (1, .int x1)], [], (hr th tx ds nw ou q5.2.1 (nd.1, nd.2.1, nd.2.2.1, nd.2.2.2.1, nd.2.2.2.2.1, nd.2.2.2.2.2.1, nd.2.2.2.2.2.2.1, upd nd.2.2.2.2.2.2.2.1 x1.toNatClampNeg q1.1, upd nd.2.2.2.2.2.2.2.2.1 x1.toNatClampNeg q3.1, upd nd.2.2.2.2.2.2.2.2.2 x1.toNatClampNeg q5.1) q5.2.2 re va nu))) 1 (fun _ => rfl) hc ?_
        obtain ⟨q6, hq, h⟩ := Option.bind_eq_some_iff.mp h
        refine am_Ev.go 2 (st' := (209, [(0, .ref 0), (1, .int x1)], [.int 10, .ref 0], (hr th tx ds nw ou q5.2.1 (nd.1, nd.2.1, nd.2.2.1, nd.2.2.2.1, nd.2.2.2.2.1, nd.2.2.2.2.2.1, nd.2.2.2.2.2.2.1, upd nd.2.2.2.2.2.2.2.1 x1.toNatClampNeg q1.1, upd nd.2.2.2.2.2.2.2.2.1 x1.toNatClampNeg q3.1, upd nd.2.2.2.2.2.2.2.2.2 x1.toNatClampNeg q5.1) q5.2.2 re va nu))) (fun _ => rfl) ?_
        refine am_Ev.call (o := am_run rPT rML (n0 + 5) 3 [.ref 0, .int 10] (hr th tx ds nw ou q5.2.1 (nd.1, nd.2.1, nd.2.2.1, nd.2.2.2.1, nd.2.2.2.2.1, nd.2.2.2.2.2.1, nd.2.2.2.2.2.2.1, upd nd.2.2.2.2.2.2.2.1 x1.toNatClampNeg q1.1, upd nd.2.2.2.2.2.2.2.2.1 x1.toNatClampNeg q3.1, upd nd.2.2.2.2.2.2.2.2.2 x1.toNatClampNeg q5.1) q5.2.2 re va nu)) (kk := fun q => (212, [(0, .ref 0), (1, .int x1)], q.1.toList ++ [], q.2)) (q := (none, (hr th tx ds nw ou q6 (nd.1, nd.2.1, nd.2.2.1, nd.2.2.2.1, nd.2.2.2.2.1, nd.2.2.2.2.2.1, nd.2.2.2.2.2.2.1, upd nd.2.2.2.2.2.2.2.1 x1.toNatClampNeg q1.1, upd nd.2.2.2.2.2.2.2.2.1 x1.toNatClampNeg q3.1, upd nd.2.2.2.2.2.2.2.2.2 x1.toNatClampNeg q5.1) q5.2.2 re va nu))) 1 (fun _ => rfl) (ev_M_take_v hq) ?_
        refine am_Ev.go 2 (st' := (134, [(0, .ref 0), (1, .int (x1 + 1))], [], (hr th tx ds nw ou q6 (nd.1, nd.2.1, nd.2.2.1, nd.2.2.2.1, nd.2.2.2.2.1, nd.2.2.2.2.2.1, nd.2.2.2.2.2.2.1, upd nd.2.2.2.2.2.2.2.1 x1.toNatClampNeg q1.1, upd nd.2.2.2.2.2.2.2.2.1 x1.toNatClampNeg q3.1, upd nd.2.2.2.2.2.2.2.2.2 x1.toNatClampNeg q5.1) q5.2.2 re va nu))) (fun _ => rfl) ?_
        exact ih _ _ _ _ _ h
      · have h := (am_iff hc).symm.trans h
        refine am_Ev.same (st' := (218, [], [], (hr th tx ds nw ou ps nd us re va nu))) (fun _ => rfl) ?_
        exact hκ _ _ _ _ h
theorem ev_M_plainBody_91_v {n0 : Nat} {th : Mth} {ds : Mds} {nw : Mnw} {ou : Mou} {re : Mre} {va : Mva} {nu : Mnu} {tx : Mtx} {κ : Mps → Mnd → Mus → Option (Mps × Mnd × Mus)} (hκ : ∀ (ps : Mps) (nd : Mnd) (us : Mus) (res : Mps × Mnd × Mus), κ ps nd us = some res → am_Ev (tb_M_plainBody (am_run rPT rML (n0 + 5))) (132, [(0, .ref 0)], [], (hr th tx ds nw ou ps nd us re va nu)) (none, (hr th tx ds nw ou res.1 res.2.1 res.2.2 re va nu))) : ∀ (n : Nat) (x1 : Int32) (ps : Mps) (nd : Mnd) (us : Mus) (res : Mps × Mnd × Mus), fn_M_plainBody_91 tx κ n x1 ps nd us = some res → am_Ev (tb_M_plainBody (am_run rPT rML (n0 + 5))) (91, [(0, .ref 0), (1, .int x1)], [], (hr th tx ds nw ou ps nd us re va nu)) (none, (hr th tx ds nw ou res.1 res.2.1 res.2.2 re va nu)) := by
  intro n
  induction n with
  | zero => intro x1 ps nd us res h; unfold fn_M_plainBody_91 at h; cases h
  | succ n ih =>
    intro x1 ps nd us res h
    unfold fn_M_plainBody_91 at h
    obtain ⟨hc, h⟩ := am_ifn h
    refine am_Ev.guard (b := decide (0 ≤ (2 : Int32).toInt ∧ (2 : Int32).toInt < (4 : Int))) (s1 := (98, [(0, .ref 0), (1, .int x1)], [.int (nd.2.1 ((2 : Int32).toNatClampNeg)), .int x1], (hr th tx ds nw ou ps nd us re va nu))) 5 (fun _ => rfl) hc ?_
    refine am_Ev.fork (b := decide ((nd.2.1 ((2 : Int32).toNatClampNeg)) ≤ x1)) (s1 := (132, [(0, .ref 0), (1, .int x1)], [], (hr th tx ds nw ou ps nd us re va nu))) (s2 := (101, [(0, .ref 0), (1, .int x1)], [], (hr th tx ds nw ou ps nd us re va nu))) 1 (fun _ => rfl) (fun hc => ?_) (fun hc => ?_)
    · have h := (am_ift hc).symm.trans h
      refine am_Ev.same (st' := (132, [(0, .ref 0)], [], (hr th tx ds nw ou ps nd us re va nu))) (fun _ => rfl) ?_
      exact hκ _ _ _ _ h
    · have h := (am_iff hc).symm.trans h
      refine am_Ev.fork (b := decide (ps.2.1 = (-1 : Int32))) (s1 := (109, [(0, .ref 0), (1, .int x1)], [], (hr th tx ds nw ou ps nd us re va nu))) (s2 := (132, [(0, .ref 0), (1, .int x1)], [], (hr th tx ds nw ou ps nd us re va nu))) 4 (fun _ => rfl) (fun hc => ?_) (fun hc => ?_)
      · have h := (am_ift hc).symm.trans h
        obtain ⟨q7, hq, h⟩ := Option.bind_eq_some_iff.mp h
        refine am_Ev.go 5 (st' := (116, [(0, .ref 0), (1, .int x1)], [.int 1, .ref 0, .int x1, .ref 18], (hr th tx ds nw ou ps nd us re va nu))) (fun _ => rfl) ?_
        refine am_Ev.call (o := am_run rPT rML (n0 + 5) 6 [.ref 0, .int 1] (hr th tx ds nw ou ps nd us re va nu)) (kk := fun q => (119, [(0, .ref 0), (1, .int x1)], q.1.toList ++ [.int x1, .ref 18], q.2)) (q := (some (.int q7.1), (hr th tx ds nw ou q7.2.1 nd q7.2.2 re va nu))) 1 (fun _ => rfl) (ev_M_literal_v hq) ?_
        obtain ⟨hc, h⟩ := am_ifn h
        refine am_Ev.guard (b := decide (0 ≤ x1.toInt ∧ x1.toInt < (8 : Int))) (s1 := (120, [(0, .ref 0), (1, .int x1)], [], (hr th tx ds nw ou q7.2.1 (nd.1, nd.2.1, nd.2.2.1, nd.2.2.2.1, nd.2.2.2.2.1, nd.2.2.2.2.2.1, upd nd.2.2.2.2.2.2.1 x1.toNatClampNeg q7.1, nd.2.2.2.2.2.2.2.1, nd.2.2.2.2.2.2.2.2.1, nd.2.2.2.2.2.2.2.2.2) q7.2.2 re va nu))) 1 (fun _ => rfl) hc ?_
        obtain ⟨q8, hq, h⟩ := Option.bind_eq_some_iff.mp h
        refine am_Ev.go 2 (st' := (123, [(0, .ref 0), (1, .int x1)], [.int 10, .ref 0], (hr th tx ds nw ou q7.2.1 (nd.1, nd.2.1, nd.2.2.1, nd.2.2.2.1, nd.2.2.2.2.1, nd.2.2.2.2.2.1, upd nd.2.2.2.2.2.2.1 x1.toNatClampNeg q7.1, nd.2.2.2.2.2.2.2.1, nd.2.2.2.2.2.2.2.2.1, nd.2.2.2.2.2.2.2.2.2) q7.2.2 re va nu))) (fun _ => rfl) ?_
        refine am_Ev.call (o := am_run rPT rML (n0 + 5) 3 [.ref 0, .int 10] (hr th tx ds nw ou q7.2.1 (nd.1, nd.2.1, nd.2.2.1, nd.2.2.2.1, nd.2.2.2.2.1, nd.2.2.2.2.2.1, upd nd.2.2.2.2.2.2.1 x1.toNatClampNeg q7.1, nd.2.2.2.2.2.2.2.1, nd.2.2.2.2.2.2.2.2.1, nd.2.2.2.2.2.2.2.2.2) q7.2.2 re va nu)) (kk := fun q => (126, [(0, .ref 0), (1, .int x1)], q.1.toList ++ [], q.2)) (q := (none, (hr th tx ds nw ou q8 (nd.1, nd.2.1, nd.2.2.1, nd.2.2.2.1, nd.2.2.2.2.1, nd.2.2.2.2.2.1, upd nd.2.2.2.2.2.2.1 x1.toNatClampNeg q7.1, nd.2.2.2.2.2.2.2.1, nd.2.2.2.2.2.2.2.2.1, nd.2.2.2.2.2.2.2.2.2) q7.2.2 re va nu))) 1 (fun _ => rfl) (ev_M_take_v hq) ?_
        refine am_Ev.go 2 (st' := (91, [(0, .ref 0), (1, .int (x1 + 1))], [], (hr th tx ds nw ou q8 (nd.1, nd.2.1, nd.2.2.1, nd.2.2.2.1, nd.2.2.2.2.1, nd.2.2.2.2.2.1, upd nd.2.2.2.2.2.2.1 x1.toNatClampNeg q7.1, nd.2.2.2.2.2.2.2.1, nd.2.2.2.2.2.2.2.2.1, nd.2.2.2.2.2.2.2.2.2) q7.2.2 re va nu))) (fun _ => rfl) ?_
        exact ih _ _ _ _ _ h
      · have h := (am_iff hc).symm.trans h
        refine am_Ev.same (st' := (132, [(0, .ref 0)], [], (hr th tx ds nw ou ps nd us re va nu))) (fun _ => rfl) ?_
        exact hκ _ _ _ _ h
theorem ev_M_plainBody_44_v {n0 : Nat} {th : Mth} {ds : Mds} {nw : Mnw} {ou : Mou} {re : Mre} {va : Mva} {nu : Mnu} {tx : Mtx} {κ : Mps → Mnd → Mus → Option (Mps × Mnd × Mus)} (hκ : ∀ (ps : Mps) (nd : Mnd) (us : Mus) (res : Mps × Mnd × Mus), κ ps nd us = some res → am_Ev (tb_M_plainBody (am_run rPT rML (n0 + 5))) (89, [(0, .ref 0)], [], (hr th tx ds nw ou ps nd us re va nu)) (none, (hr th tx ds nw ou res.1 res.2.1 res.2.2 re va nu))) : ∀ (n : Nat) (x1 : Int32) (ps : Mps) (nd : Mnd) (us : Mus) (res : Mps × Mnd × Mus), fn_M_plainBody_44 tx κ n x1 ps nd us = some res → am_Ev (tb_M_plainBody (am_run rPT rML (n0 + 5))) (44, [(0, .ref 0), (1, .int x1)], [], (hr th tx ds nw ou ps nd us re va nu)) (none, (hr th tx ds nw ou res.1 res.2.1 res.2.2 re va nu)) := by
  intro n
  induction n with
  | zero => intro x1 ps nd us res h; unfold fn_M_plainBody_44 at h; cases h
  | succ n ih =>
    intro x1 ps nd us res h
    unfold fn_M_plainBody_44 at h
    obtain ⟨hc, h⟩ := am_ifn h
    refine am_Ev.guard (b := decide (0 ≤ (1 : Int32).toInt ∧ (1 : Int32).toInt < (4 : Int))) (s1 := (51, [(0, .ref 0), (1, .int x1)], [.int (nd.2.1 ((1 : Int32).toNatClampNeg)), .int x1], (hr th tx ds nw ou ps nd us re va nu))) 5 (fun _ => rfl) hc ?_
    refine am_Ev.fork (b := decide ((nd.2.1 ((1 : Int32).toNatClampNeg)) ≤ x1)) (s1 := (89, [(0, .ref 0), (1, .int x1)], [], (hr th tx ds nw ou ps nd us re va nu))) (s2 := (54, [(0, .ref 0), (1, .int x1)], [], (hr th tx ds nw ou ps nd us re va nu))) 1 (fun _ => rfl) (fun hc => ?_) (fun hc => ?_)
    · have h := (am_ift hc).symm.trans h
      refine am_Ev.same (st' := (89, [(0, .ref 0)], [], (hr th tx ds nw ou ps nd us re va nu))) (fun _ => rfl) ?_
      exact hκ _ _ _ _ h
    · have h := (am_iff hc).symm.trans h
      refine am_Ev.fork (b := decide (ps.2.1 = (-1 : Int32))) (s1 := (62, [(0, .ref 0), (1, .int x1)], [], (hr th tx ds nw ou ps nd us re va nu))) (s2 := (89, [(0, .ref 0), (1, .int x1)], [], (hr th tx ds nw ou ps nd us re va nu))) 4 (fun _ => rfl) (fun hc => ?_) (fun hc => ?_)
      · have h := (am_ift hc).symm.trans h
        obtain ⟨q9, hq, h⟩ := Option.bind_eq_some_iff.mp h
        refine am_Ev.go 4 (st' := (68, [(0, .ref 0), (1, .int x1)], [.ref 0, .int x1, .ref 15], (hr th tx ds nw ou ps nd us re va nu))) (fun _ => rfl) ?_
        refine am_Ev.call (o := am_run rPT rML (n0 + 5) 7 [.ref 0] (hr th tx ds nw ou ps nd us re va nu)) (kk := fun q => (71, [(0, .ref 0), (1, .int x1)], q.1.toList ++ [.int x1, .ref 15], q.2)) (q := (some (.int q9.1), (hr th tx ds nw ou q9.2.1 nd q9.2.2 re va nu))) 1 (fun _ => rfl) (ev_M_define_v hq) ?_
        obtain ⟨hc, h⟩ := am_ifn h
        refine am_Ev.guard (b := decide (0 ≤ x1.toInt ∧ x1.toInt < (8 : Int))) (s1 := (72, [(0, .ref 0), (1, .int x1)], [], (hr th tx ds nw ou q9.2.1 (nd.1, nd.2.1, nd.2.2.1, upd nd.2.2.2.1 x1.toNatClampNeg q9.1, nd.2.2.2.2.1, nd.2.2.2.2.2.1, nd.2.2.2.2.2.2.1, nd.2.2.2.2.2.2.2.1, nd.2.2.2.2.2.2.2.2.1, nd.2.2.2.2.2.2.2.2.2) q9.2.2 re va nu))) 1 (fun _ => rfl) hc ?_
        obtain ⟨q10, hq, h⟩ := Option.bind_eq_some_iff.mp h
        refine am_Ev.go 2 (st' := (75, [(0, .ref 0), (1, .int x1)], [.int 32, .ref 0], (hr th tx ds nw ou q9.2.1 (nd.1, nd.2.1, nd.2.2.1, upd nd.2.2.2.1 x1.toNatClampNeg q9.1, nd.2.2.2.2.1, nd.2.2.2.2.2.1, nd.2.2.2.2.2.2.1, nd.2.2.2.2.2.2.2.1, nd.2.2.2.2.2.2.2.2.1, nd.2.2.2.2.2.2.2.2.2) q9.2.2 re va nu))) (fun _ => rfl) ?_
        refine am_Ev.call (o := am_run rPT rML (n0 + 5) 3 [.ref 0, .int 32] (hr th tx ds nw ou q9.2.1 (nd.1, nd.2.1, nd.2.2.1, upd nd.2.2.2.1 x1.toNatClampNeg q9.1, nd.2.2.2.2.1, nd.2.2.2.2.2.1, nd.2.2.2.2.2.2.1, nd.2.2.2.2.2.2.2.1, nd.2.2.2.2.2.2.2.2.1, nd.2.2.2.2.2.2.2.2.2) q9.2.2 re va nu)) (kk := fun q => (78, [(0, .ref 0), (1, .int x1)], q.1.toList ++ [], q.2)) (q := (none, (hr th tx ds nw ou q10 (nd.1, nd.2.1, nd.2.2.1, upd nd.2.2.2.1 x1.toNatClampNeg q9.1, nd.2.2.2.2.1, nd.2.2.2.2.2.1, nd.2.2.2.2.2.2.1, nd.2.2.2.2.2.2.2.1, nd.2.2.2.2.2.2.2.2.1, nd.2.2.2.2.2.2.2.2.2) q9.2.2 re va nu))) 1 (fun _ => rfl) (ev_M_take_v hq) ?_
        obtain ⟨q11, hq, h⟩ := Option.bind_eq_some_iff.mp h
        refine am_Ev.go 2 (st' := (80, [(0, .ref 0), (1, .int x1)], [.int x1, .ref 0], (hr th tx ds nw ou q10 (nd.1, nd.2.1, nd.2.2.1, upd nd.2.2.2.1 x1.toNatClampNeg q9.1, nd.2.2.2.2.1, nd.2.2.2.2.2.1, nd.2.2.2.2.2.2.1, nd.2.2.2.2.2.2.2.1, nd.2.2.2.2.2.2.2.2.1, nd.2.2.2.2.2.2.2.2.2) q9.2.2 re va nu))) (fun _ => rfl) ?_
        refine am_Ev.call (o := am_run rPT rML (n0 + 5) 9 [.ref 0, .int x1] (hr th tx ds nw ou q10 (nd.1, nd.2.1, nd.2.2.1, upd nd.2.2.2.1 x1.toNatClampNeg q9.1, nd.2.2.2.2.1, nd.2.2.2.2.2.1, nd.2.2.2.2.2.2.1, nd.2.2.2.2.2.2.2.1, nd.2.2.2.2.2.2.2.2.1, nd.2.2.2.2.2.2.2.2.2) q9.2.2 re va nu)) (kk := fun q => (83, [(0, .ref 0), (1, .int x1)], q.1.toList ++ [], q.2)) (q := (none, (hr th tx ds nw ou q11.1 q11.2.1 q11.2.2 re va nu))) 1 (fun _ => rfl) (ev_M_latchRest_v hq) ?_
        refine am_Ev.go 2 (st' := (44, [(0, .ref 0), (1, .int (x1 + 1))], [], (hr th tx ds nw ou q11.1 q11.2.1 q11.2.2 re va nu))) (fun _ => rfl) ?_
        exact ih _ _ _ _ _ h
      · have h := (am_iff hc).symm.trans h
        refine am_Ev.same (st' := (89, [(0, .ref 0)], [], (hr th tx ds nw ou ps nd us re va nu))) (fun _ => rfl) ?_
        exact hκ _ _ _ _ h
theorem ev_M_plainBody_2_v {n0 : Nat} {th : Mth} {ds : Mds} {nw : Mnw} {ou : Mou} {re : Mre} {va : Mva} {nu : Mnu} {tx : Mtx} {κ : Mps → Mnd → Mus → Option (Mps × Mnd × Mus)} (hκ : ∀ (ps : Mps) (nd : Mnd) (us : Mus) (res : Mps × Mnd × Mus), κ ps nd us = some res → am_Ev (tb_M_plainBody (am_run rPT rML (n0 + 5))) (42, [(0, .ref 0)], [], (hr th tx ds nw ou ps nd us re va nu)) (none, (hr th tx ds nw ou res.1 res.2.1 res.2.2 re va nu))) : ∀ (n : Nat) (x1 : Int32) (ps : Mps) (nd : Mnd) (us : Mus) (res : Mps × Mnd × Mus), fn_M_plainBody_2 tx κ n x1 ps nd us = some res → am_Ev (tb_M_plainBody (am_run rPT rML (n0 + 5))) (2, [(0, .ref 0), (1, .int x1)], [], (hr th tx ds nw ou ps nd us re va nu)) (none, (hr th tx ds nw ou res.1 res.2.1 res.2.2 re va nu)) := by
  intro n
  induction n with
  | zero => intro x1 ps nd us res h; unfold fn_M_plainBody_2 at h; cases h
  | succ n ih =>
    intro x1 ps nd us res h
    unfold fn_M_plainBody_2 at h
    obtain ⟨hc, h⟩ := am_ifn h
    refine am_Ev.guard (b := decide (0 ≤ (0 : Int32).toInt ∧ (0 : Int32).toInt < (4 : Int))) (s1 := (9, [(0, .ref 0), (1, .int x1)], [.int (nd.2.1 ((0 : Int32).toNatClampNeg)), .int x1], (hr th tx ds nw ou ps nd us re va nu))) 5 (fun _ => rfl) hc ?_
    refine am_Ev.fork (b := decide ((nd.2.1 ((0 : Int32).toNatClampNeg)) ≤ x1)) (s1 := (42, [(0, .ref 0), (1, .int x1)], [], (hr th tx ds nw ou ps nd us re va nu))) (s2 := (12, [(0, .ref 0), (1, .int x1)], [], (hr th tx ds nw ou ps nd us re va nu))) 1 (fun _ => rfl) (fun hc => ?_) (fun hc => ?_)
    · have h := (am_ift hc).symm.trans h
      refine am_Ev.same (st' := (42, [(0, .ref 0)], [], (hr th tx ds nw ou ps nd us re va nu))) (fun _ => rfl) ?_
      exact hκ _ _ _ _ h
    · have h := (am_iff hc).symm.trans h
      refine am_Ev.fork (b := decide (ps.2.1 = (-1 : Int32))) (s1 := (20, [(0, .ref 0), (1, .int x1)], [], (hr th tx ds nw ou ps nd us re va nu))) (s2 := (42, [(0, .ref 0), (1, .int x1)], [], (hr th tx ds nw ou ps nd us re va nu))) 4 (fun _ => rfl) (fun hc => ?_) (fun hc => ?_)
      · have h := (am_ift hc).symm.trans h
        obtain ⟨q12, hq, h⟩ := Option.bind_eq_some_iff.mp h
        refine am_Ev.go 4 (st' := (26, [(0, .ref 0), (1, .int x1)], [.ref 0, .int x1, .ref 14], (hr th tx ds nw ou ps nd us re va nu))) (fun _ => rfl) ?_
        refine am_Ev.call (o := am_run rPT rML (n0 + 5) 7 [.ref 0] (hr th tx ds nw ou ps nd us re va nu)) (kk := fun q => (29, [(0, .ref 0), (1, .int x1)], q.1.toList ++ [.int x1, .ref 14], q.2)) (q := (some (.int q12.1), (hr th tx ds nw ou q12.2.1 nd q12.2.2 re va nu))) 1 (fun _ => rfl) (ev_M_define_v hq) ?_
        obtain ⟨hc, h⟩ := am_ifn h
        refine am_Ev.guard (b := decide (0 ≤ x1.toInt ∧ x1.toInt < (8 : Int))) (s1 := (30, [(0, .ref 0), (1, .int x1)], [], (hr th tx ds nw ou q12.2.1 (nd.1, nd.2.1, upd nd.2.2.1 x1.toNatClampNeg q12.1, nd.2.2.2.1, nd.2.2.2.2.1, nd.2.2.2.2.2.1, nd.2.2.2.2.2.2.1, nd.2.2.2.2.2.2.2.1, nd.2.2.2.2.2.2.2.2.1, nd.2.2.2.2.2.2.2.2.2) q12.2.2 re va nu))) 1 (fun _ => rfl) hc ?_
        obtain ⟨q13, hq, h⟩ := Option.bind_eq_some_iff.mp h
        refine am_Ev.go 2 (st' := (33, [(0, .ref 0), (1, .int x1)], [.int 10, .ref 0], (hr th tx ds nw ou q12.2.1 (nd.1, nd.2.1, upd nd.2.2.1 x1.toNatClampNeg q12.1, nd.2.2.2.1, nd.2.2.2.2.1, nd.2.2.2.2.2.1, nd.2.2.2.2.2.2.1, nd.2.2.2.2.2.2.2.1, nd.2.2.2.2.2.2.2.2.1, nd.2.2.2.2.2.2.2.2.2) q12.2.2 re va nu))) (fun _ => rfl) ?_
        refine am_Ev.call (o := am_run rPT rML (n0 + 5) 3 [.ref 0, .int 10] (hr th tx ds nw ou q12.2.1 (nd.1, nd.2.1, upd nd.2.2.1 x1.toNatClampNeg q12.1, nd.2.2.2.1, nd.2.2.2.2.1, nd.2.2.2.2.2.1, nd.2.2.2.2.2.2.1, nd.2.2.2.2.2.2.2.1, nd.2.2.2.2.2.2.2.2.1, nd.2.2.2.2.2.2.2.2.2) q12.2.2 re va nu)) (kk := fun q => (36, [(0, .ref 0), (1, .int x1)], q.1.toList ++ [], q.2)) (q := (none, (hr th tx ds nw ou q13 (nd.1, nd.2.1, upd nd.2.2.1 x1.toNatClampNeg q12.1, nd.2.2.2.1, nd.2.2.2.2.1, nd.2.2.2.2.2.1, nd.2.2.2.2.2.2.1, nd.2.2.2.2.2.2.2.1, nd.2.2.2.2.2.2.2.2.1, nd.2.2.2.2.2.2.2.2.2) q12.2.2 re va nu))) 1 (fun _ => rfl) (ev_M_take_v hq) ?_
        refine am_Ev.go 2 (st' := (2, [(0, .ref 0), (1, .int (x1 + 1))], [], (hr th tx ds nw ou q13 (nd.1, nd.2.1, upd nd.2.2.1 x1.toNatClampNeg q12.1, nd.2.2.2.1, nd.2.2.2.2.1, nd.2.2.2.2.2.1, nd.2.2.2.2.2.2.1, nd.2.2.2.2.2.2.2.1, nd.2.2.2.2.2.2.2.2.1, nd.2.2.2.2.2.2.2.2.2) q12.2.2 re va nu))) (fun _ => rfl) ?_
        exact ih _ _ _ _ _ h
      · have h := (am_iff hc).symm.trans h
        refine am_Ev.same (st' := (42, [(0, .ref 0)], [], (hr th tx ds nw ou ps nd us re va nu))) (fun _ => rfl) ?_
        exact hκ _ _ _ _ h
theorem ev_M_plainBody_v {n0 : Nat} {th : Mth} {ds : Mds} {nw : Mnw} {ou : Mou} {re : Mre} {va : Mva} {nu : Mnu} {tx : Mtx} {ps : Mps} {nd : Mnd} {us : Mus} {res : Mps × Mnd × Mus} (h : fn_M_plainBody tx ps nd us = some res) : am_run rPT rML (n0 + 6) 10 [.ref 0] (hr th tx ds nw ou ps nd us re va nu) = some (none, (hr th tx ds nw ou res.1 res.2.1 res.2.2 re va nu)) := by
  refine am_run_of (d := n0 + 5) rfl ?_
  show am_Ev (tb_M_plainBody (am_run rPT rML (n0 + 5))) (0, [(0, .ref 0)], [], (hr th tx ds nw ou ps nd us re va nu)) (none, (hr th tx ds nw ou res.1 res.2.1 res.2.2 re va nu))
  unfold fn_M_plainBody at h
  refine am_Ev.go 2 (st' := (2, [(0, .ref 0), (1, .int 0)], [], (hr th tx ds nw ou ps nd us re va nu))) (fun _ => rfl) ?_
  refine ev_M_plainBody_2_v ?_ _ _ _ _ _ _ h
  intro ps_15 nd_15 us_15 res h
  try dsimp only at h
  refine am_Ev.go 2 (st' := (44, [(0, .ref 0), (1, .int 0)], [], (hr th tx ds nw ou ps_15 nd_15 us_15 re va nu))) (fun _ => rfl) ?_
  refine ev_M_plainBody_44_v ?_ _ _ _ _ _ _ h
  intro ps_16 nd_16 us_16 res h
  try dsimp only at h
  refine am_Ev.go 2 (st' := (91, [(0, .ref 0), (1, .int 0)], [], (hr th tx ds nw ou ps_16 nd_16 us_16 re va nu))) (fun _ => rfl) ?_
  refine ev_M_plainBody_91_v ?_ _ _ _ _ _ _ h
  intro ps_17 nd_17 us_17 res h
  try dsimp only at h
  refine am_Ev.go 2 (st' := (134, [(0, .ref 0), (1, .int 0)], [], (hr th tx ds nw ou ps_17 nd_17 us_17 re va nu))) (fun _ => rfl) ?_
  refine ev_M_plainBody_134_v ?_ _ _ _ _ _ _ h
  intro ps_18 nd_18 us_18 res h
  try dsimp only at h
  cases h
  exact am_Ev.done 1 rfl
theorem ev_M_packedBody_116_v {n0 : Nat} {th : Mth} {ds : Mds} {nw : Mnw} {ou : Mou} {re : Mre} {va : Mva} {nu : Mnu} {tx : Mtx} {κ : Mps → Mnd → Mus → Option (Mps × Mnd × Mus)} (hκ : ∀ (ps : Mps) (nd : Mnd) (us : Mus) (res : Mps × Mnd × Mus), κ ps nd us = some res → am_Ev (tb_M_packedBody (am_run rPT rML (n0 + 5))) (188, [], [], (hr th tx ds nw ou ps nd us re va nu)) (none, (hr th tx ds nw ou res.1 res.2.1 res.2.2 re va nu))) : ∀ (n : Nat) (x1 : Int32) (x2 : Int32) (ps : Mps) (nd : Mnd) (us : Mus) (res : Mps × Mnd × Mus), fn_M_packedBody_116 tx κ n x1 x2 ps nd us = some res → am_Ev (tb_M_packedBody (am_run rPT rML (n0 + 5))) (116, [(0, .ref 0), (1, .int x1), (2, .int x2)], [], (hr th tx ds nw ou ps nd us re va nu)) (none, (hr th tx ds nw ou res.1 res.2.1 res.2.2 re va nu)) := by
  intro n
  induction n with
  | zero => intro x1 x2 ps nd us res h; unfold fn_M_packedBody_116 at h; cases h
  | succ n ih =>
    intro x1 x2 ps nd us res h
    unfold fn_M_packedBody_116 at h
    obtain ⟨hc, h⟩ := am_ifn h
    refine am_Ev.guard (b := decide (0 ≤ (3 : Int32).toInt ∧ (3 : Int32).toInt < (4 : Int))) (s1 := (123, [(0, .ref 0), (1, .int x1), (2, .int x2)], [.int (nd.2.1 ((3 : Int32).toNatClampNeg)), .int x2], (hr th tx ds nw ou ps nd us re va nu))) 5 (fun _ => rfl) hc ?_
    refine am_Ev.fork (b := decide ((nd.2.1 ((3 : Int32).toNatClampNeg)) ≤ x2)) (s1 := (188, [(0, .ref 0), (1, .int x1), (2, .int x2)], [], (hr th tx ds nw ou ps nd us re va nu))) (s2 := (126, [(0, .ref 0), (1, .int x1), (2, .int x2)], [], (hr th tx ds nw ou ps nd us re va nu))) 1 (fun _ => rfl) (fun hc => ?_) (fun hc => ?_)
    · have h := (am_ift hc).symm.trans h
      refine am_Ev.same (st' := (188, [], [], (hr th tx ds nw ou ps nd us re va nu))) (fun _ => rfl) ?_
      exact hκ _ _ _ _ h
    · have h := (am_iff hc).symm.trans h
      refine am_Ev.fork (b := decide (ps.2.1 = (-1 : Int32))) (s1 := (134, [(0, .ref 0), (1, .int x1), (2, .int x2)], [], (hr th tx ds nw ou ps nd us re va nu))) (s2 := (188, [(0, .ref 0), (1, .int x1), (2, .int x2)], [], (hr th tx ds nw ou ps nd us re va nu))) 4 (fun _ => rfl) (fun hc => ?_) (fun hc => ?_)
      · have h := (am_ift hc).symm.trans h
        obtain ⟨hc, h⟩ := am_ifn h
        refine am_Ev.guard (b := decide (0 ≤ x2.toInt ∧ x2.toInt < (60 : Int))) (s1 := (141, [(0, .ref 0), (1, .int x1), (2, .int x2)], [], (hr th tx ds nw ou ps (nd.1, nd.2.1, nd.2.2.1, nd.2.2.2.1, nd.2.2.2.2.1, nd.2.2.2.2.2.1, nd.2.2.2.2.2.2.1, upd nd.2.2.2.2.2.2.2.1 x2.toNatClampNeg x1, nd.2.2.2.2.2.2.2.2.1, nd.2.2.2.2.2.2.2.2.2) us re va nu))) 5 (fun _ => rfl) hc ?_
        obtain ⟨q1, hq, h⟩ := Option.bind_eq_some_iff.mp h
        refine am_Ev.go 7 (st' := (150, [(0, .ref 0), (1, .int x1), (2, .int x2)], [.int x1, .int 1, .ref 0, .int x1, .int x2, .ref 20], (hr th tx ds nw ou ps (nd.1, nd.2.1, nd.2.2.1, nd.2.2.2.1, nd.2.2.2.2.1, nd.2.2.2.2.2.1, nd.2.2.2.2.2.2.1, upd nd.2.2.2.2.2.2.2.1 x2.toNatClampNeg x1, nd.2.2.2.2.2.2.2.2.1, nd.2.2.2.2.2.2.2.2.2) us re va nu))) (fun _ => rfl) ?_
        refine am_Ev.call (o := am_run rPT rML (n0 + 5) 11 [.ref 0, .int 1, .int x1] (hr th tx ds nw ou ps (nd.1, nd.2.1, nd.2.2.1, nd.2.2.2.1, nd.2.2.2.2.1, nd.2.2.2.2.2.1, nd.2.2.2.2.2.2.1, upd nd.2.2.2.2.2.2.2.1 x2.toNatClampNeg x1, nd.2.2.2.2.2.2.2.2.1, nd.2.2.2.2.2.2.2.2.2) us re va nu)) (kk := fun q => (153, [(0, .ref 0), (1, .int x1), (2, .int x2)], q.1.toList ++ [.int x1, .int x2, .ref 20], q.2)) (q := (some (.int q1.1), (hr th tx ds nw ou q1.2 (nd.1, nd.2.1, nd.2.2.1, nd.2.2.2.1, nd.2.2.2.2.1, nd.2.2.2.2.2.1, nd.2.2.2.2.2.2.1, upd nd.2.2.2.2.2.2.2.1 x2.toNatClampNeg x1, nd.2.2.2.2.2.2.2.2.1, nd.2.2.2.2.2.2.2.2.2) us re va nu))) 1 (fun _ => rfl) (ev_M_difference_v hq) ?_
        obtain ⟨hc, h⟩ := am_ifn h
        refine am_Ev.guard (b := decide (0 ≤ x2.toInt ∧ x2.toInt < (60 : Int))) (s1 := (155, [(0, .ref 0), (1, .int x1), (2, .int x2)], [], (hr th tx ds nw ou q1.2 (nd.1, nd.2.1, nd.2.2.1, nd.2.2.2.1, nd.2.2.2.2.1, nd.2.2.2.2.2.1, nd.2.2.2.2.2.2.1, upd nd.2.2.2.2.2.2.2.1 x2.toNatClampNeg x1, upd nd.2.2.2.2.2.2.2.2.1 x2.toNatClampNeg ((x1 - q1.1)), nd.2.2.2.2.2.2.2.2.2) us re va nu))) 2 (fun _ => rfl) hc ?_
        obtain ⟨hc, h⟩ := am_ifn h
        refine am_Ev.guard (b := decide (0 ≤ x2.toInt ∧ x2.toInt < (60 : Int))) (s1 := (166, [(0, .ref 0), (1, .int x1), (2, .int x2)], [.int ((upd nd.2.2.2.2.2.2.2.2.1 x2.toNatClampNeg ((x1 - q1.1))) x2.toNatClampNeg), .int x2, .ref 21], (hr th tx ds nw ou q1.2 (nd.1, nd.2.1, nd.2.2.1, nd.2.2.2.1, nd.2.2.2.2.1, nd.2.2.2.2.2.1, nd.2.2.2.2.2.2.1, upd nd.2.2.2.2.2.2.2.1 x2.toNatClampNeg x1, upd nd.2.2.2.2.2.2.2.2.1 x2.toNatClampNeg ((x1 - q1.1)), nd.2.2.2.2.2.2.2.2.2) us re va nu))) 7 (fun _ => rfl) hc ?_
        obtain ⟨hc, h⟩ := am_ifn h
        refine am_Ev.guard (b := decide (0 ≤ x2.toInt ∧ x2.toInt < (60 : Int))) (s1 := (174, [(0, .ref 0), (1, .int x1), (2, .int x2)], [.int ((upd nd.2.2.2.2.2.2.2.2.1 x2.toNatClampNeg ((x1 - q1.1))) x2.toNatClampNeg), .int 0, .ref 0, .int ((upd nd.2.2.2.2.2.2.2.2.1 x2.toNatClampNeg ((x1 - q1.1))) x2.toNatClampNeg), .int x2, .ref 21], (hr th tx ds nw ou q1.2 (nd.1, nd.2.1, nd.2.2.1, nd.2.2.2.1, nd.2.2.2.2.1, nd.2.2.2.2.2.1, nd.2.2.2.2.2.2.1, upd nd.2.2.2.2.2.2.2.1 x2.toNatClampNeg x1, upd nd.2.2.2.2.2.2.2.2.1 x2.toNatClampNeg ((x1 - q1.1)), nd.2.2.2.2.2.2.2.2.2) us re va nu))) 6 (fun _ => rfl) hc ?_
        obtain ⟨q2, hq, h⟩ := Option.bind_eq_some_iff.mp h
        refine am_Ev.call (o := am_run rPT rML (n0 + 5) 11 [.ref 0, .int 0, .int ((upd nd.2.2.2.2.2.2.2.2.1 x2.toNatClampNeg ((x1 - q1.1))) x2.toNatClampNeg)] (hr th tx ds nw ou q1.2 (nd.1, nd.2.1, nd.2.2.1, nd.2.2.2.1, nd.2.2.2.2.1, nd.2.2.2.2.2.1, nd.2.2.2.2.2.2.1, upd nd.2.2.2.2.2.2.2.1 x2.toNatClampNeg x1, upd nd.2.2.2.2.2.2.2.2.1 x2.toNatClampNeg ((x1 - q1.1)), nd.2.2.2.2.2.2.2.2.2) us re va nu)) (kk := fun q => (177, [(0, .ref 0), (1, .int x1), (2, .int x2)], q.1.toList ++ [.int ((upd nd.2.2.2.2.2.2.2.2.1 x2.toNatClampNeg ((x1 - q1.1))) x2.toNatClampNeg), .int x2, .ref 21], q.2)) (q := (some (.int q2.1), (hr th tx ds nw ou q2.2 (nd.1, nd.2.1, nd.2.2.1, nd.2.2.2.1, nd.2.2.2.2.1, nd.2.2.2.2.2.1, nd.2.2.2.2.2.2.1, upd nd.2.2.2.2.2.2.2.1 x2.toNatClampNeg x1, upd nd.2.2.2.2.2.2.2.2.1 x2.toNatClampNeg ((x1 - q1.1)), nd.2.2.2.2.2.2.2.2.2) us re va nu))) 1 (fun _ => rfl) (ev_M_difference_v hq) ?_
        obtain ⟨hc, h⟩ := am_ifn h
        refine am_Ev.guard (b := decide (0 ≤ x2.toInt ∧ x2.toInt < (60 : Int))) (s1 := (179, [(0, .ref 0), (1, .int x1), (2, .int x2)], [], (hr th tx ds nw ou q2.2 (nd.1, nd.2.1, nd.2.2.1, nd.2.2.2.1, nd.2.2.2.2.1, nd.2.2.2.2.2.1, nd.2.2.2.2.2.2.1, upd nd.2.2.2.2.2.2.2.1 x2.toNatClampNeg x1, upd nd.2.2.2.2.2.2.2.2.1 x2.toNatClampNeg ((x1 - q1.1)), upd nd.2.2.2.2.2.2.2.2.2 x2.toNatClampNeg ((((upd nd.2.2.2.2.2.2.2.2.1 x2.toNatClampNeg ((x1 - q1.1))) x2.toNatClampNeg) - q2.1))) us re va nu))) 2 (fun _ => rfl) hc ?_
        refine am_Ev.go 3 (st' := (116, [(0, .ref 0), (1, .int (x1 + 2)), (2, .int (x2 + 1))], [], (hr th tx ds nw ou q2.2 (nd.1, nd.2.1, nd.2.2.1, nd.2.2.2.1, nd.2.2.2.2.1, nd.2.2.2.2.2.1, nd.2.2.2.2.2.2.1, upd nd.2.2.2.2.2.2.2.1 x2.toNatClampNeg x1, upd nd.2.2.2.2.2.2.2.2.1 x2.toNatClampNeg ((x1 - q1.1)), upd nd.2.2.2.2.2.2.2.2.2 x2.toNatClampNeg ((((upd nd.2.2.2.2.2.2.2.2.1 x2.toNatClampNeg ((x1 - q1.1))) x2.toNatClampNeg) - q2.1))) us re va nu))) (fun _ => rfl) ?_
        exact ih _ _ _ _ _ _ h
      · have h := (am_iff hc).symm.trans h
        refine am_Ev.same (st' := (188, [], [], (hr th tx ds nw ou ps nd us re va nu))) (fun _ => rfl) ?_
        exact hκ _ _ _ _ h
theorem ev_M_packedBody_73_v {n0 : Nat} {th : Mth} {ds : Mds} {nw : Mnw} {ou : Mou} {re : Mre} {va : Mva} {nu : Mnu} {x1 : Int32} {tx : Mtx} {κ : Mps → Mnd → Mus → Option (Mps × Mnd × Mus)} (hκ : ∀ (ps : Mps) (nd : Mnd) (us : Mus) (res : Mps × Mnd × Mus), κ ps nd us = some res → am_Ev (tb_M_packedBody (am_run rPT rML (n0 + 5))) (114, [(0, .ref 0), (1, .int x1)], [], (hr th tx ds nw ou ps nd us re va nu)) (none, (hr th tx ds nw ou res.1 res.2.1 res.2.2 re va nu))) : ∀ (n : Nat) (x2 : Int32) (ps : Mps) (nd : Mnd) (us : Mus) (res : Mps × Mnd × Mus), fn_M_packedBody_73 x1 tx κ n x2 ps nd us = some res → am_Ev (tb_M_packedBody (am_run rPT rML (n0 + 5))) (73, [(0, .ref 0), (1, .int x1), (2, .int x2)], [], (hr th tx ds nw ou ps nd us re va nu)) (none, (hr th tx ds nw ou res.1 res.2.1 res.2.2 re va nu)) := by
  intro n
  induction n with
  | zero => intro x2 ps nd us res h; unfold fn_M_packedBody_73 at h; cases h
  | succ n ih =>
    intro x2 ps nd us res h
    unfold fn_M_packedBody_73 at h
    obtain ⟨hc, h⟩ := am_ifn h
    refine am_Ev.guard (b := decide (0 ≤ (2 : Int32).toInt ∧ (2 : Int32).toInt < (4 : Int))) (s1 := (80, [(0, .ref 0), (1, .int x1), (2, .int x2)], [.int (nd.2.1 ((2 : Int32).toNatClampNeg)), .int x2], (hr th tx ds nw ou ps nd us re va nu))) 5 (fun _ => rfl) hc ?_
    refine am_Ev.fork (b := decide ((nd.2.1 ((2 : Int32).toNatClampNeg)) ≤ x2)) (s1 := (114, [(0, .ref 0), (1, .int x1), (2, .int x2)], [], (hr th tx ds nw ou ps nd us re va nu))) (s2 := (83, [(0, .ref 0), (1, .int x1), (2, .int x2)], [], (hr th tx ds nw ou ps nd us re va nu))) 1 (fun _ => rfl) (fun hc => ?_) (fun hc => ?_)
    · have h := (am_ift hc).symm.trans h
      refine am_Ev.same (st' := (114, [(0, .ref 0), (1, .int x1)], [], (hr th tx ds nw ou ps nd us re va nu))) (fun _ => rfl) ?_
      exact hκ _ _ _ _ h
    · have h := (am_iff hc).symm.trans h
      refine am_Ev.fork (b := decide (ps.2.1 = (-1 : Int32))) (s1 := (91, [(0, .ref 0), (1, .int x1), (2, .int x2)], [], (hr th tx ds nw ou ps nd us re va nu))) (s2 := (114, [(0, .ref 0), (1, .int x1), (2, .int x2)], [], (hr th tx ds nw ou ps nd us re va nu))) 4 (fun _ => rfl) (fun hc => ?_) (fun hc => ?_)
      · have h := (am_ift hc).symm.trans h
        obtain ⟨q3, hq, h⟩ := Option.bind_eq_some_iff.mp h
        refine am_Ev.go 5 (st' := (98, [(0, .ref 0), (1, .int x1), (2, .int x2)], [.int 1, .ref 0, .int x2, .ref 18], (hr th tx ds nw ou ps nd us re va nu))) (fun _ => rfl) ?_
        refine am_Ev.call (o := am_run rPT rML (n0 + 5) 6 [.ref 0, .int 1] (hr th tx ds nw ou ps nd us re va nu)) (kk := fun q => (101, [(0, .ref 0), (1, .int x1), (2, .int x2)], q.1.toList ++ [.int x2, .ref 18], q.2)) (q := (some (.int q3.1), (hr th tx ds nw ou q3.2.1 nd q3.2.2 re va nu))) 1 (fun _ => rfl) (ev_M_literal_v hq) ?_
        obtain ⟨hc, h⟩ := am_ifn h
        refine am_Ev.guard (b := decide (0 ≤ x2.toInt ∧ x2.toInt < (8 : Int))) (s1 := (102, [(0, .ref 0), (1, .int x1), (2, .int x2)], [], (hr th tx ds nw ou q3.2.1 (nd.1, nd.2.1, nd.2.2.1, nd.2.2.2.1, nd.2.2.2.2.1, nd.2.2.2.2.2.1, upd nd.2.2.2.2.2.2.1 x2.toNatClampNeg q3.1, nd.2.2.2.2.2.2.2.1, nd.2.2.2.2.2.2.2.2.1, nd.2.2.2.2.2.2.2.2.2) q3.2.2 re va nu))) 1 (fun _ => rfl) hc ?_
        obtain ⟨q4, hq, h⟩ := Option.bind_eq_some_iff.mp h
        refine am_Ev.go 2 (st' := (105, [(0, .ref 0), (1, .int x1), (2, .int x2)], [.int 10, .ref 0], (hr th tx ds nw ou q3.2.1 (nd.1, nd.2.1, nd.2.2.1, nd.2.2.2.1, nd.2.2.2.2.1, nd.2.2.2.2.2.1, upd nd.2.2.2.2.2.2.1 x2.toNatClampNeg q3.1, nd.2.2.2.2.2.2.2.1, nd.2.2.2.2.2.2.2.2.1, nd.2.2.2.2.2.2.2.2.2) q3.2.2 re va nu))) (fun _ => rfl) ?_
        refine am_Ev.call (o := am_run rPT rML (n0 + 5) 3 [.ref 0, .int 10] (hr th tx ds nw ou q3.2.1 (nd.1, nd.2.1, nd.2.2.1, nd.2.2.2.1, nd.2.2.2.2.1, nd.2.2.2.2.2.1, upd nd.2.2.2.2.2.2.1 x2.toNatClampNeg q3.1, nd.2.2.2.2.2.2.2.1, nd.2.2.2.2.2.2.2.2.1, nd.2.2.2.2.2.2.2.2.2) q3.2.2 re va nu)) (kk := fun q => (108, [(0, .ref 0), (1, .int x1), (2, .int x2)], q.1.toList ++ [], q.2)) (q := (none, (hr th tx ds nw ou q4 (nd.1, nd.2.1, nd.2.2.1, nd.2.2.2.1, nd.2.2.2.2.1, nd.2.2.2.2.2.1, upd nd.2.2.2.2.2.2.1 x2.toNatClampNeg q3.1, nd.2.2.2.2.2.2.2.1, nd.2.2.2.2.2.2.2.2.1, nd.2.2.2.2.2.2.2.2.2) q3.2.2 re va nu))) 1 (fun _ => rfl) (ev_M_take_v hq) ?_
        refine am_Ev.go 2 (st' := (73, [(0, .ref 0), (1, .int x1), (2, .int (x2 + 1))], [], (hr th tx ds nw ou q4 (nd.1, nd.2.1, nd.2.2.1, nd.2.2.2.1, nd.2.2.2.2.1, nd.2.2.2.2.2.1, upd nd.2.2.2.2.2.2.1 x2.toNatClampNeg q3.1, nd.2.2.2.2.2.2.2.1, nd.2.2.2.2.2.2.2.2.1, nd.2.2.2.2.2.2.2.2.2) q3.2.2 re va nu))) (fun _ => rfl) ?_
        exact ih _ _ _ _ _ h
      · have h := (am_iff hc).symm.trans h
        refine am_Ev.same (st' := (114, [(0, .ref 0), (1, .int x1)], [], (hr th tx ds nw ou ps nd us re va nu))) (fun _ => rfl) ?_
        exact hκ _ _ _ _ h
theorem ev_M_packedBody_32_v {n0 : Nat} {th : Mth} {ds : Mds} {nw : Mnw} {ou : Mou} {re : Mre} {va : Mva} {nu : Mnu} {tx : Mtx} {κ : Int32 → Mps → Mnd → Mus → Option (Mps × Mnd × Mus)} (hκ : ∀ (x1 : Int32) (ps : Mps) (nd : Mnd) (us : Mus) (res : Mps × Mnd × Mus), κ x1 ps nd us = some res → am_Ev (tb_M_packedBody (am_run rPT rML (n0 + 5))) (71, [(0, .ref 0), (1, .int x1)], [], (hr th tx ds nw ou ps nd us re va nu)) (none, (hr th tx ds nw ou res.1 res.2.1 res.2.2 re va nu))) : ∀ (n : Nat) (x1 : Int32) (x2 : Int32) (ps : Mps) (nd : Mnd) (us : Mus) (res : Mps × Mnd × Mus), fn_M_packedBody_32 tx κ n x1 x2 ps nd us = some res → am_Ev (tb_M_packedBody (am_run rPT rML (n0 + 5))) (32, [(0, .ref 0), (1, .int x1), (2, .int x2)], [], (hr th tx ds nw ou ps nd us re va nu)) (none, (hr th tx ds nw ou res.1 res.2.1 res.2.2 re va nu)) := by
  intro n
  induction n with
  | zero => intro x1 x2 ps nd us res h; unfold fn_M_packedBody_32 at h; cases h
  | succ n ih =>
    intro x1 x2 ps nd us res h
    unfold fn_M_packedBody_32 at h
    obtain ⟨hc, h⟩ := am_ifn h
    refine am_Ev.guard (b := decide (0 ≤ (1 : Int32).toInt ∧ (1 : Int32).toInt < (4 : Int))) (s1 := (39, [(0, .ref 0), (1, .int x1), (2, .int x2)], [.int (nd.2.1 ((1 : Int32).toNatClampNeg)), .int x2], (hr th tx ds nw ou ps nd us re va nu))) 5 (fun _ => rfl) hc ?_
    refine am_Ev.fork (b := decide ((nd.2.1 ((1 : Int32).toNatClampNeg)) ≤ x2)) (s1 := (71, [(0, .ref 0), (1, .int x1), (2, .int x2)], [], (hr th tx ds nw ou ps nd us re va nu))) (s2 := (42, [(0, .ref 0), (1, .int x1), (2, .int x2)], [], (hr th tx ds nw ou ps nd us re va nu))) 1 (fun _ => rfl) (fun hc => ?_) (fun hc => ?_)
    · have h := (am_ift hc).symm.trans h
      refine am_Ev.same (st' := (71, [(0, .ref 0), (1, .int x1)], [], (hr th tx ds nw ou ps nd us re va nu))) (fun _ => rfl) ?_
      exact hκ _ _ _ _ _ h
    · have h := (am_iff hc).symm.trans h
      refine am_Ev.fork (b := decide (ps.2.1 = (-1 : Int32))) (s1 := (50, [(0, .ref 0), (1, .int x1), (2, .int x2)], [], (hr th tx ds nw ou ps nd us re va nu))) (s2 := (71, [(0, .ref 0), (1, .int x1), (2, .int x2)], [], (hr th tx ds nw ou ps nd us re va nu))) 4 (fun _ => rfl) (fun hc => ?_) (fun hc => ?_)
      · have h := (am_ift hc).symm.trans h
        obtain ⟨hc, h⟩ := am_ifn h
        refine am_Ev.guard (b := decide (0 ≤ x2.toInt ∧ x2.toInt < (8 : Int))) (s1 := (57, [(0, .ref 0), (1, .int x1), (2, .int x2)], [], (hr th tx ds nw ou ps (nd.1, nd.2.1, nd.2.2.1, upd nd.2.2.2.1 x2.toNatClampNeg x1, nd.2.2.2.2.1, nd.2.2.2.2.2.1, nd.2.2.2.2.2.2.1, nd.2.2.2.2.2.2.2.1, nd.2.2.2.2.2.2.2.2.1, nd.2.2.2.2.2.2.2.2.2) us re va nu))) 5 (fun _ => rfl) hc ?_
        obtain ⟨q5, hq, h⟩ := Option.bind_eq_some_iff.mp h
        refine am_Ev.go 3 (st' := (62, [(0, .ref 0), (1, .int (x1 + 2)), (2, .int x2)], [.int x2, .ref 0], (hr th tx ds nw ou ps (nd.1, nd.2.1, nd.2.2.1, upd nd.2.2.2.1 x2.toNatClampNeg x1, nd.2.2.2.2.1, nd.2.2.2.2.2.1, nd.2.2.2.2.2.2.1, nd.2.2.2.2.2.2.2.1, nd.2.2.2.2.2.2.2.2.1, nd.2.2.2.2.2.2.2.2.2) us re va nu))) (fun _ => rfl) ?_
        refine am_Ev.call (o := am_run rPT rML (n0 + 5) 9 [.ref 0, .int x2] (hr th tx ds nw ou ps (nd.1, nd.2.1, nd.2.2.1, upd nd.2.2.2.1 x2.toNatClampNeg x1, nd.2.2.2.2.1, nd.2.2.2.2.2.1, nd.2.2.2.2.2.2.1, nd.2.2.2.2.2.2.2.1, nd.2.2.2.2.2.2.2.2.1, nd.2.2.2.2.2.2.2.2.2) us re va nu)) (kk := fun q => (65, [(0, .ref 0), (1, .int (x1 + 2)), (2, .int x2)], q.1.toList ++ [], q.2)) (q := (none, (hr th tx ds nw ou q5.1 q5.2.1 q5.2.2 re va nu))) 1 (fun _ => rfl) (ev_M_latchRest_v hq) ?_
        refine am_Ev.go 2 (st' := (32, [(0, .ref 0), (1, .int (x1 + 2)), (2, .int (x2 + 1))], [], (hr th tx ds nw ou q5.1 q5.2.1 q5.2.2 re va nu))) (fun _ => rfl) ?_
        exact ih _ _ _ _ _ _ h
      · have h := (am_iff hc).symm.trans h
        refine am_Ev.same (st' := (71, [(0, .ref 0), (1, .int x1)], [], (hr th tx ds nw ou ps nd us re va nu))) (fun _ => rfl) ?_
        exact hκ _ _ _ _ _ h
theorem ev_M_packedBody_4_v {n0 : Nat} {th : Mth} {ds : Mds} {nw : Mnw} {ou : Mou} {re : Mre} {va : Mva} {nu : Mnu} {tx : Mtx} {κ : Int32 → Mps → Mnd → Mus → Option (Mps × Mnd × Mus)} (hκ : ∀ (x1 : Int32) (ps : Mps) (nd : Mnd) (us : Mus) (res : Mps × Mnd × Mus), κ x1 ps nd us = some res → am_Ev (tb_M_packedBody (am_run rPT rML (n0 + 5))) (30, [(0, .ref 0), (1, .int x1)], [], (hr th tx ds nw ou ps nd us re va nu)) (none, (hr th tx ds nw ou res.1 res.2.1 res.2.2 re va nu))) : ∀ (n : Nat) (x1 : Int32) (x2 : Int32) (ps : Mps) (nd : Mnd) (us : Mus) (res : Mps × Mnd × Mus), fn_M_packedBody_4 tx κ n x1 x2 ps nd us = some res → am_Ev (tb_M_packedBody (am_run rPT rML (n0 + 5))) (4, [(0, .ref 0), (1, .int x1), (2, .int x2)], [], (hr th tx ds nw ou ps nd us re va nu)) (none, (hr th tx ds nw ou res.1 res.2.1 res.2.2 re va nu)) := by
  intro n
  induction n with
  | zero => intro x1 x2 ps nd us res h; unfold fn_M_packedBody_4 at h; cases h
  | succ n ih =>
    intro x1 x2 ps nd us res h
    unfold fn_M_packedBody_4 at h
    obtain ⟨hc, h⟩ := am_ifn h
    refine am_Ev.guard (b := decide (0 ≤ (0 : Int32).toInt ∧ (0 : Int32).toInt < (4 : Int))) (s1 := (11, [(0, .ref 0), (1, .int x1), (2, .int x2)], [.int (nd.2.1 ((0 : Int32).toNatClampNeg)), .int x2], (hr th tx ds nw ou ps nd us re va nu))) 5 (fun _ => rfl) hc ?_
    refine am_Ev.fork (b := decide ((nd.2.1 ((0 : Int32).toNatClampNeg)) ≤ x2)) (s1 := (30, [(0, .ref 0), (1, .int x1), (2, .int x2)], [], (hr th tx ds nw ou ps nd us re va nu))) (s2 := (14, [(0, .ref 0), (1, .int x1), (2, .int x2)], [], (hr th tx ds nw ou ps nd us re va nu))) 1 (fun _ => rfl) (fun hc => ?_) (fun hc => ?_)
    · have h := (am_ift hc).symm.trans h
      refine am_Ev.same (st' := (30, [(0, .ref 0), (1, .int x1)], [], (hr th tx ds nw ou ps nd us re va nu))) (fun _ => rfl) ?_
      exact hκ _ _ _ _ _ h
    · have h := (am_iff hc).symm.trans h
      obtain ⟨hc, h⟩ := am_ifn h
      refine am_Ev.guard (b := decide (0 ≤ x2.toInt ∧ x2.toInt < (8 : Int))) (s1 := (21, [(0, .ref 0), (1, .int x1), (2, .int x2)], [], (hr th tx ds nw ou ps (nd.1, nd.2.1, upd nd.2.2.1 x2.toNatClampNeg x1, nd.2.2.2.1, nd.2.2.2.2.1, nd.2.2.2.2.2.1, nd.2.2.2.2.2.2.1, nd.2.2.2.2.2.2.2.1, nd.2.2.2.2.2.2.2.2.1, nd.2.2.2.2.2.2.2.2.2) us re va nu))) 5 (fun _ => rfl) hc ?_
      refine am_Ev.go 3 (st' := (4, [(0, .ref 0), (1, .int (x1 + 2)), (2, .int (x2 + 1))], [], (hr th tx ds nw ou ps (nd.1, nd.2.1, upd nd.2.2.1 x2.toNatClampNeg x1, nd.2.2.2.1, nd.2.2.2.2.1, nd.2.2.2.2.2.1, nd.2.2.2.2.2.2.1, nd.2.2.2.2.2.2.2.1, nd.2.2.2.2.2.2.2.2.1, nd.2.2.2.2.2.2.2.2.2) us re va nu))) (fun _ => rfl) ?_
      exact ih _ _ _ _ _ _ h
theorem ev_M_packedBody_v {n0 : Nat} {th : Mth} {ds : Mds} {nw : Mnw} {ou : Mou} {re : Mre} {va : Mva} {nu : Mnu} {tx : Mtx} {ps : Mps} {nd : Mnd} {us : Mus} {res : Mps × Mnd × Mus} (h : fn_M_packedBody tx ps nd us = some res) : am_run rPT rML (n0 + 6) 12 [.ref 0] (hr th tx ds nw ou ps nd us re va nu) = some (none, (hr th tx ds nw ou res.1 res.2.1 res.2.2 re va nu)) := by
  refine am_run_of (d := n0 + 5) rfl ?_
  show am_Ev (tb_M_packedBody (am_run rPT rML (n0 + 5))) (0, [(0, .ref 0)], [], (hr th tx ds nw ou ps nd us re va nu)) (none, (hr th tx ds nw ou res.1 res.2.1 res.2.2 re va nu))
  unfold fn_M_packedBody at h
  refine am_Ev.go 4 (st' := (4, [(0, .ref 0), (1, .int 2), (2, .int 0)], [], (hr th tx ds nw ou ps nd us re va nu))) (fun _ => rfl) ?_
  refine ev_M_packedBody_4_v ?_ _ _ _ _ _ _ _ h
  intro x1_7 ps_7 nd_7 us_7 res h
  try dsimp only at h
  refine am_Ev.go 2 (st' := (32, [(0, .ref 0), (1, .int x1_7), (2, .int 0)], [], (hr th tx ds nw ou ps_7 nd_7 us_7 re va nu))) (fun _ => rfl) ?_
  refine ev_M_packedBody_32_v ?_ _ _ _ _ _ _ _ h
  intro x1_8 ps_8 nd_8 us_8 res h
  try dsimp only at h
  refine am_Ev.go 2 (st' := (73, [(0, .ref 0), (1, .int x1_8), (2, .int 0)], [], (hr th tx ds nw ou ps_8 nd_8 us_8 re va nu))) (fun _ => rfl) ?_
  refine ev_M_packedBody_73_v ?_ _ _ _ _ _ _ h
  intro ps_9 nd_9 us_9 res h
  try dsimp only at h
  refine am_Ev.go 2 (st' := (116, [(0, .ref 0), (1, .int x1_8), (2, .int 0)], [], (hr th tx ds nw ou ps_9 nd_9 us_9 re va nu))) (fun _ => rfl) ?_
  refine ev_M_packedBody_116_v ?_ _ _ _ _ _ _ _ h
  intro ps_10 nd_10 us_10 res h
  try dsimp only at h
  cases h
  exact am_Ev.done 1 rfl
