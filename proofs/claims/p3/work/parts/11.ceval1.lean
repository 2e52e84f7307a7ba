theorem ev_R_number_107_v {n0 : Nat} {pg : SB} {a : SD} {b : SD} {sw : Bool} {x2 : Int32} {tx : SB} {rd : SR} {res : Int32 × SR} (h : fn_R_number_107 x2 tx rd = some res) : am_Ev (tb_R_number (am_run cPT cML (n0 + 1))) (107, [(0, .ref 5), (2, .int x2)], [], (hp tx pg rd a b sw)) (some (.int res.1), (hp tx pg res.2 a b sw)) := by
  unfold fn_R_number_107 at h
  obtain ⟨q1, hq, h⟩ := Option.bind_eq_some_iff.mp h
  refine am_Ev.go 2 (st' := (109, [(0, .ref 5), (2, .int x2)], [.int x2, .ref 5], (hp tx pg rd a b sw))) (fun _ => rfl) ?_
  refine am_Ev.call (o := am_run cPT cML (n0 + 1) 60 [.ref 5, .int x2] (hp tx pg rd a b sw)) (kk := fun q => (112, [(0, .ref 5), (2, .int x2)], q.1.toList ++ [], q.2)) (q := (none, (hp tx pg q1 a b sw))) 1 (fun _ => rfl) (ev_R_fail_v hq) ?_
  cases h
  exact am_Ev.done 2 rfl
theorem ev_R_number_94_v {n0 : Nat} {pg : SB} {a : SD} {b : SD} {sw : Bool} {x1 : Int32} {x2 : Int32} {x3 : Int32} {tx : SB} {rd : SR} {res : Int32 × SR} (h : fn_R_number_94 x1 x2 x3 tx rd = some res) : am_Ev (tb_R_number (am_run cPT cML (n0 + 1))) (94, [(0, .ref 5), (1, .int x1), (2, .int x2), (3, .int x3)], [], (hp tx pg rd a b sw)) (some (.int res.1), (hp tx pg res.2 a b sw)) := by
  unfold fn_R_number_94 at h
  refine am_Ev.fork (b := decide (rd.2.2.2.2.2.2.2.1 = x2)) (s1 := (107, [(0, .ref 5), (1, .int x1), (2, .int x2), (3, .int x3)], [], (hp tx pg rd a b sw))) (s2 := (102, [(0, .ref 5), (1, .int x1), (2, .int x2), (3, .int x3)], [], (hp tx pg rd a b sw))) 4 (fun _ => rfl) (fun hc => ?_) (fun hc => ?_)
  · have h := (am_ift hc).symm.trans h
    refine am_Ev.same (st' := (107, [(0, .ref 5), (2, .int x2)], [], (hp tx pg rd a b sw))) (fun _ => rfl) ?_
    exact ev_R_number_107_v h
  · have h := (am_iff hc).symm.trans h
    refine am_Ev.fork (b := decide (x3 ≤ x1)) (s1 := (114, [(0, .ref 5), (1, .int x1), (2, .int x2), (3, .int x3)], [], (hp tx pg rd a b sw))) (s2 := (107, [(0, .ref 5), (1, .int x1), (2, .int x2), (3, .int x3)], [], (hp tx pg rd a b sw))) 3 (fun _ => rfl) (fun hc => ?_) (fun hc => ?_)
    · have h := (am_ift hc).symm.trans h
      cases h
      exact am_Ev.done 2 rfl
    · have h := (am_iff hc).symm.trans h
      refine am_Ev.same (st' := (107, [(0, .ref 5), (2, .int x2)], [], (hp tx pg rd a b sw))) (fun _ => rfl) ?_
      exact ev_R_number_107_v h
theorem ev_R_number_10_v {n0 : Nat} {pg : SB} {a : SD} {b : SD} {sw : Bool} {x1 : Int32} {x2 : Int32} {tx : SB} {κ : Int32 → SR → Option (Int32 × SR)} (hκ : ∀ (x3 : Int32) (rd : SR) (res : Int32 × SR), κ x3 rd = some res → am_Ev (tb_R_number (am_run cPT cML (n0 + 1))) (94, [(0, .ref 5), (1, .int x1), (2, .int x2), (3, .int x3)], [], (hp tx pg rd a b sw)) (some (.int res.1), (hp tx pg res.2 a b sw))) : ∀ (n : Nat) (x3 : Int32) (x4 : Int32) (rd : SR) (res : Int32 × SR), fn_R_number_10 x1 x2 tx κ n x3 x4 rd = some res → am_Ev (tb_R_number (am_run cPT cML (n0 + 1))) (10, [(0, .ref 5), (1, .int x1), (2, .int x2), (3, .int x3), (4, .int x4)], [], (hp tx pg rd a b sw)) (some (.int res.1), (hp tx pg res.2 a b sw)) := by
  intro n
  induction n with
  | zero => intro x3 x4 rd res h; unfold fn_R_number_10 at h; cases h
  | succ n ih =>
    intro x3 x4 rd res h
    unfold fn_R_number_10 at h
    refine am_Ev.fork (b := decide ((4 : Int32) < x4)) (s1 := (94, [(0, .ref 5), (1, .int x1), (2, .int x2), (3, .int x3), (4, .int x4)], [], (hp tx pg rd a b sw))) (s2 := (16, [(0, .ref 5), (1, .int x1), (2, .int x2), (3, .int x3), (4, .int x4)], [], (hp tx pg rd a b sw))) 3 (fun _ => rfl) (fun hc => ?_) (fun hc => ?_)
    · have h := (am_ift hc).symm.trans h
      refine am_Ev.same (st' := (94, [(0, .ref 5), (1, .int x1), (2, .int x2), (3, .int x3)], [], (hp tx pg rd a b sw))) (fun _ => rfl) ?_
      exact hκ _ _ _ h
    · have h := (am_iff hc).symm.trans h
      obtain ⟨q2, hq, h⟩ := Option.bind_eq_some_iff.mp h
      refine am_Ev.go 4 (st' := (24, [(0, .ref 5), (1, .int x1), (2, .int x2), (3, .int x3), (4, .int x4)], [.int rd.2.2.2.2.2.2.2.1, .ref 1], (hp tx pg rd a b sw))) (fun _ => rfl) ?_
      refine am_Ev.call (o := am_run cPT cML (n0 + 1) 3 [.ref 1, .int rd.2.2.2.2.2.2.2.1] (hp tx pg rd a b sw)) (kk := fun q => (27, [(0, .ref 5), (1, .int x1), (2, .int x2), (3, .int x3), (4, .int x4)], q.1.toList ++ [], q.2)) (q := (some (.int q2), (hp tx pg rd a b sw))) 1 (fun _ => rfl) (ev_B_at_t hq) ?_
      obtain ⟨q3, hq, h⟩ := Option.bind_eq_some_iff.mp h
      refine am_Ev.call (o := am_run cPT cML (n0 + 1) 57 [.int q2] (hp tx pg rd a b sw)) (kk := fun q => (30, [(0, .ref 5), (1, .int x1), (2, .int x2), (3, .int x3), (4, .int x4)], q.1.toList ++ [], q.2)) (q := (some (.int q3), (hp tx pg rd a b sw))) 1 (fun _ => rfl) (ev_R_isDigit_v hq) ?_
      refine am_Ev.fork (b := decide (q3 = 0)) (s1 := (94, [(0, .ref 5), (1, .int x1), (2, .int x2), (3, .int x3), (4, .int x4)], [], (hp tx pg rd a b sw))) (s2 := (33, [(0, .ref 5), (1, .int x1), (2, .int x2), (3, .int x3), (4, .int x4)], [], (hp tx pg rd a b sw))) 1 (fun _ => rfl) (fun hc => ?_) (fun hc => ?_)
      · have h := (am_ift hc).symm.trans h
        refine am_Ev.same (st' := (94, [(0, .ref 5), (1, .int x1), (2, .int x2), (3, .int x3)], [], (hp tx pg rd a b sw))) (fun _ => rfl) ?_
        exact hκ _ _ _ h
      · have h := (am_iff hc).symm.trans h
        refine am_Ev.fork (b := decide (x4 = (4 : Int32))) (s1 := (48, [(0, .ref 5), (1, .int x1), (2, .int x2), (3, .int x3), (4, .int x4)], [], (hp tx pg rd a b sw))) (s2 := (39, [(0, .ref 5), (1, .int x1), (2, .int x2), (3, .int x3), (4, .int x4)], [], (hp tx pg rd a b sw))) 3 (fun _ => rfl) (fun hc => ?_) (fun hc => ?_)
        · have h := (am_ift hc).symm.trans h
          obtain ⟨q4, hq, h⟩ := Option.bind_eq_some_iff.mp h
          refine am_Ev.go 3 (st' := (53, [(0, .ref 5), (1, .int x1), (2, .int x2), (3, .int x3), (4, .int x4)], [.int rd.2.2.2.2.2.2.2.1, .ref 5], (hp tx pg rd a b sw))) (fun _ => rfl) ?_
          refine am_Ev.call (o := am_run cPT cML (n0 + 1) 60 [.ref 5, .int rd.2.2.2.2.2.2.2.1] (hp tx pg rd a b sw)) (kk := fun q => (56, [(0, .ref 5), (1, .int x1), (2, .int x2), (3, .int x3), (4, .int x4)], q.1.toList ++ [], q.2)) (q := (none, (hp tx pg q4 a b sw))) 1 (fun _ => rfl) (ev_R_fail_v hq) ?_
          cases h
          exact am_Ev.done 2 rfl
        · have h := (am_iff hc).symm.trans h
          refine am_Ev.fork (b := decide (x4 ≤ 0)) (s1 := (58, [(0, .ref 5), (1, .int x1), (2, .int x2), (3, .int x3), (4, .int x4)], [], (hp tx pg rd a b sw))) (s2 := (44, [(0, .ref 5), (1, .int x1), (2, .int x2), (3, .int x3), (4, .int x4)], [], (hp tx pg rd a b sw))) 2 (fun _ => rfl) (fun hc => ?_) (fun hc => ?_)
          · have h := (am_ift hc).symm.trans h
            obtain ⟨q5, hq, h⟩ := Option.bind_eq_some_iff.mp h
            refine am_Ev.go 7 (st' := (70, [(0, .ref 5), (1, .int x1), (2, .int x2), (3, .int x3), (4, .int x4)], [.int rd.2.2.2.2.2.2.2.1, .ref 1, .int ((10 : Int32) * x3)], (hp tx pg rd a b sw))) (fun _ => rfl) ?_
            refine am_Ev.call (o := am_run cPT cML (n0 + 1) 3 [.ref 1, .int rd.2.2.2.2.2.2.2.1] (hp tx pg rd a b sw)) (kk := fun q => (73, [(0, .ref 5), (1, .int x1), (2, .int x2), (3, .int x3), (4, .int x4)], q.1.toList ++ [.int ((10 : Int32) * x3)], q.2)) (q := (some (.int q5), (hp tx pg rd a b sw))) 1 (fun _ => rfl) (ev_B_at_t hq) ?_
            refine am_Ev.go 12 (st' := (10, [(0, .ref 5), (1, .int x1), (2, .int x2), (3, .int ((((10 : Int32) * x3) + q5) - (48 : Int32))), (4, .int (x4 + 1))], [], (hp tx pg (rd.1, rd.2.1, rd.2.2.1, rd.2.2.2.1, rd.2.2.2.2.1, rd.2.2.2.2.2.1, rd.2.2.2.2.2.2.1, rd.2.2.2.2.2.2.2.1 + (1 : Int32), rd.2.2.2.2.2.2.2.2) a b sw))) (fun _ => rfl) ?_
            exact ih _ _ _ _ h
          · have h := (am_iff hc).symm.trans h
            refine am_Ev.fork (b := decide (x3 = 0)) (s1 := (48, [(0, .ref 5), (1, .int x1), (2, .int x2), (3, .int x3), (4, .int x4)], [], (hp tx pg rd a b sw))) (s2 := (58, [(0, .ref 5), (1, .int x1), (2, .int x2), (3, .int x3), (4, .int x4)], [], (hp tx pg rd a b sw))) 2 (fun _ => rfl) (fun hc => ?_) (fun hc => ?_)
            · have h := (am_ift hc).symm.trans h
              obtain ⟨q6, hq, h⟩ := Option.bind_eq_some_iff.mp h
              refine am_Ev.go 3 (st' := (53, [(0, .ref 5), (1, .int x1), (2, .int x2), (3, .int x3), (4, .int x4)], [.int rd.2.2.2.2.2.2.2.1, .ref 5], (hp tx pg rd a b sw))) (fun _ => rfl) ?_
              refine am_Ev.call (o := am_run cPT cML (n0 + 1) 60 [.ref 5, .int rd.2.2.2.2.2.2.2.1] (hp tx pg rd a b sw)) (kk := fun q => (56, [(0, .ref 5), (1, .int x1), (2, .int x2), (3, .int x3), (4, .int x4)], q.1.toList ++ [], q.2)) (q := (none, (hp tx pg q6 a b sw))) 1 (fun _ => rfl) (ev_R_fail_v hq) ?_
              cases h
              exact am_Ev.done 2 rfl
            · have h := (am_iff hc).symm.trans h
              obtain ⟨q7, hq, h⟩ := Option.bind_eq_some_iff.mp h
              refine am_Ev.go 7 (st' := (70, [(0, .ref 5), (1, .int x1), (2, .int x2), (3, .int x3), (4, .int x4)], [.int rd.2.2.2.2.2.2.2.1, .ref 1, .int ((10 : Int32) * x3)], (hp tx pg rd a b sw))) (fun _ => rfl) ?_
              refine am_Ev.call (o := am_run cPT cML (n0 + 1) 3 [.ref 1, .int rd.2.2.2.2.2.2.2.1] (hp tx pg rd a b sw)) (kk := fun q => (73, [(0, .ref 5), (1, .int x1), (2, .int x2), (3, .int x3), (4, .int x4)], q.1.toList ++ [.int ((10 : Int32) * x3)], q.2)) (q := (some (.int q7), (hp tx pg rd a b sw))) 1 (fun _ => rfl) (ev_B_at_t hq) ?_
              refine am_Ev.go 12 (st' := (10, [(0, .ref 5), (1, .int x1), (2, .int x2), (3, .int ((((10 : Int32) * x3) + q7) - (48 : Int32))), (4, .int (x4 + 1))], [], (hp tx pg (rd.1, rd.2.1, rd.2.2.1, rd.2.2.2.1, rd.2.2.2.2.1, rd.2.2.2.2.2.1, rd.2.2.2.2.2.2.1, rd.2.2.2.2.2.2.2.1 + (1 : Int32), rd.2.2.2.2.2.2.2.2) a b sw))) (fun _ => rfl) ?_
              exact ih _ _ _ _ h
theorem ev_R_number_v {n0 : Nat} {pg : SB} {a : SD} {b : SD} {sw : Bool} {x1 : Int32} {tx : SB} {rd : SR} {res : Int32 × SR} (h : fn_R_number x1 tx rd = some res) : am_run cPT cML (n0 + 2) 56 [.ref 5, .int x1] (hp tx pg rd a b sw) = some (some (.int res.1), (hp tx pg res.2 a b sw)) := by
  refine am_run_of (d := n0 + 1) rfl ?_
  show am_Ev (tb_R_number (am_run cPT cML (n0 + 1))) (0, [(0, .ref 5), (1, .int x1)], [], (hp tx pg rd a b sw)) (some (.int res.1), (hp tx pg res.2 a b sw))
  unfold fn_R_number at h
  refine am_Ev.go 7 (st' := (10, [(0, .ref 5), (1, .int x1), (2, .int rd.2.2.2.2.2.2.2.1), (3, .int 0), (4, .int 0)], [], (hp tx pg rd a b sw))) (fun _ => rfl) ?_
  refine ev_R_number_10_v ?_ _ _ _ _ _ h
  intro x3_9 rd_9 res h
  try dsimp only at h
  exact ev_R_number_94_v h
theorem ev_R_difference_124_v {n0 : Nat} {pg : SB} {a : SD} {b : SD} {sw : Bool} {x1 : Int32} {x3 : Int32} {tx : SB} {rd : SR} {res : Int32 × SR} (h : fn_R_difference_124 x1 x3 tx rd = some res) : am_Ev (tb_R_difference (am_run cPT cML (n0 + 1))) (124, [(0, .ref 5), (1, .int x1), (3, .int x3)], [], (hp tx pg rd a b sw)) (some (.int res.1), (hp tx pg res.2 a b sw)) := by
  unfold fn_R_difference_124 at h
  obtain ⟨q1, hq, h⟩ := Option.bind_eq_some_iff.mp h
  refine am_Ev.go 2 (st' := (126, [(0, .ref 5), (1, .int x1), (3, .int x3)], [.int x3, .ref 5], (hp tx pg rd a b sw))) (fun _ => rfl) ?_
  refine am_Ev.call (o := am_run cPT cML (n0 + 1) 60 [.ref 5, .int x3] (hp tx pg rd a b sw)) (kk := fun q => (129, [(0, .ref 5), (1, .int x1), (3, .int x3)], q.1.toList ++ [], q.2)) (q := (none, (hp tx pg q1 a b sw))) 1 (fun _ => rfl) (ev_R_fail_v hq) ?_
  cases h
  exact am_Ev.done 2 rfl
theorem ev_R_difference_112_v {n0 : Nat} {pg : SB} {a : SD} {b : SD} {sw : Bool} {x1 : Int32} {x2 : Int32} {x3 : Int32} {x4 : Int32} {tx : SB} {rd : SR} {res : Int32 × SR} (h : fn_R_difference_112 x1 x2 x3 x4 tx rd = some res) : am_Ev (tb_R_difference (am_run cPT cML (n0 + 1))) (112, [(0, .ref 5), (1, .int x1), (2, .int x2), (3, .int x3), (4, .int x4)], [], (hp tx pg rd a b sw)) (some (.int res.1), (hp tx pg res.2 a b sw)) := by
  unfold fn_R_difference_112 at h
  refine am_Ev.fork (b := decide (x4 < x1)) (s1 := (124, [(0, .ref 5), (1, .int x1), (2, .int x2), (3, .int x3), (4, .int x4)], [], (hp tx pg rd a b sw))) (s2 := (118, [(0, .ref 5), (1, .int x1), (2, .int x2), (3, .int x3), (4, .int x4)], [], (hp tx pg rd a b sw))) 3 (fun _ => rfl) (fun hc => ?_) (fun hc => ?_)
  · have h := (am_ift hc).symm.trans h
    refine am_Ev.same (st' := (124, [(0, .ref 5), (1, .int x1), (3, .int x3)], [], (hp tx pg rd a b sw))) (fun _ => rfl) ?_
    exact ev_R_difference_124_v h
  · have h := (am_iff hc).symm.trans h
    refine am_Ev.fork (b := decide (x4 ≤ x2)) (s1 := (131, [(0, .ref 5), (1, .int x1), (2, .int x2), (3, .int x3), (4, .int x4)], [], (hp tx pg rd a b sw))) (s2 := (124, [(0, .ref 5), (1, .int x1), (2, .int x2), (3, .int x3), (4, .int x4)], [], (hp tx pg rd a b sw))) 3 (fun _ => rfl) (fun hc => ?_) (fun hc => ?_)
    · have h := (am_ift hc).symm.trans h
      cases h
      exact am_Ev.done 2 rfl
    · have h := (am_iff hc).symm.trans h
      refine am_Ev.same (st' := (124, [(0, .ref 5), (1, .int x1), (3, .int x3)], [], (hp tx pg rd a b sw))) (fun _ => rfl) ?_
      exact ev_R_difference_124_v h
theorem ev_R_difference_79_v {n0 : Nat} {pg : SB} {a : SD} {b : SD} {sw : Bool} {x1 : Int32} {tx : SB} {rd : SR} {res : Int32 × SR} (h : fn_R_difference_79 x1 tx rd = some res) : am_Ev (tb_R_difference (am_run cPT cML (n0 + 1))) (79, [(0, .ref 5), (1, .int x1)], [], (hp tx pg rd a b sw)) (some (.int res.1), (hp tx pg res.2 a b sw)) := by
  unfold fn_R_difference_79 at h
  obtain ⟨q2, hq, h⟩ := Option.bind_eq_some_iff.mp h
  refine am_Ev.go 3 (st' := (84, [(0, .ref 5), (1, .int x1)], [.int rd.2.2.2.2.2.2.2.1, .ref 5], (hp tx pg rd a b sw))) (fun _ => rfl) ?_
  refine am_Ev.call (o := am_run cPT cML (n0 + 1) 60 [.ref 5, .int rd.2.2.2.2.2.2.2.1] (hp tx pg rd a b sw)) (kk := fun q => (87, [(0, .ref 5), (1, .int x1)], q.1.toList ++ [], q.2)) (q := (none, (hp tx pg q2 a b sw))) 1 (fun _ => rfl) (ev_R_fail_v hq) ?_
  cases h
  exact am_Ev.done 2 rfl
theorem ev_R_difference_v {n0 : Nat} {pg : SB} {a : SD} {b : SD} {sw : Bool} {x1 : Int32} {x2 : Int32} {tx : SB} {rd : SR} {res : Int32 × SR} (h : fn_R_difference x1 x2 tx rd = some res) : am_run cPT cML (n0 + 2) 58 [.ref 5, .int x1, .int x2] (hp tx pg rd a b sw) = some (some (.int res.1), (hp tx pg res.2 a b sw)) := by
  refine am_run_of (d := n0 + 1) rfl ?_
  show am_Ev (tb_R_difference (am_run cPT cML (n0 + 1))) (0, [(0, .ref 5), (1, .int x1), (2, .int x2)], [], (hp tx pg rd a b sw)) (some (.int res.1), (hp tx pg res.2 a b sw))
  unfold fn_R_difference at h
  obtain ⟨q3, hq, h⟩ := Option.bind_eq_some_iff.mp h
  refine am_Ev.go 7 (st' := (13, [(0, .ref 5), (1, .int x1), (2, .int x2), (3, .int rd.2.2.2.2.2.2.2.1)], [.int rd.2.2.2.2.2.2.2.1, .ref 1], (hp tx pg rd a b sw))) (fun _ => rfl) ?_
  refine am_Ev.call (o := am_run cPT cML (n0 + 1) 3 [.ref 1, .int rd.2.2.2.2.2.2.2.1] (hp tx pg rd a b sw)) (kk := fun q => (16, [(0, .ref 5), (1, .int x1), (2, .int x2), (3, .int rd.2.2.2.2.2.2.2.1)], q.1.toList ++ [], q.2)) (q := (some (.int q3), (hp tx pg rd a b sw))) 1 (fun _ => rfl) (ev_B_at_t hq) ?_
  refine am_Ev.fork (b := decide (q3 = (-1 : Int32))) (s1 := (24, [(0, .ref 5), (1, .int x1), (2, .int x2), (3, .int rd.2.2.2.2.2.2.2.1), (4, .int q3)], [], (hp tx pg rd a b sw))) (s2 := (34, [(0, .ref 5), (1, .int x1), (2, .int x2), (3, .int rd.2.2.2.2.2.2.2.1), (4, .int q3)], [], (hp tx pg rd a b sw))) 4 (fun _ => rfl) (fun hc => ?_) (fun hc => ?_)
  · have h := (am_ift hc).symm.trans h
    obtain ⟨q4, hq, h⟩ := Option.bind_eq_some_iff.mp h
    refine am_Ev.go 3 (st' := (29, [(0, .ref 5), (1, .int x1), (2, .int x2), (3, .int rd.2.2.2.2.2.2.2.1), (4, .int q3)], [.int rd.2.2.2.2.2.2.2.1, .ref 5], (hp tx pg rd a b sw))) (fun _ => rfl) ?_
    refine am_Ev.call (o := am_run cPT cML (n0 + 1) 60 [.ref 5, .int rd.2.2.2.2.2.2.2.1] (hp tx pg rd a b sw)) (kk := fun q => (32, [(0, .ref 5), (1, .int x1), (2, .int x2), (3, .int rd.2.2.2.2.2.2.2.1), (4, .int q3)], q.1.toList ++ [], q.2)) (q := (none, (hp tx pg q4 a b sw))) 1 (fun _ => rfl) (ev_R_fail_v hq) ?_
    cases h
    exact am_Ev.done 2 rfl
  · have h := (am_iff hc).symm.trans h
    refine am_Ev.fork (b := decide (q3 < (128 : Int32))) (s1 := (112, [(0, .ref 5), (1, .int x1), (2, .int x2), (3, .int rd.2.2.2.2.2.2.2.1), (4, .int q3)], [], (hp tx pg (rd.1, rd.2.1, rd.2.2.1, rd.2.2.2.1, rd.2.2.2.2.1, rd.2.2.2.2.2.1, rd.2.2.2.2.2.2.1, rd.2.2.2.2.2.2.2.1 + (1 : Int32), rd.2.2.2.2.2.2.2.2) a b sw))) (s2 := (52, [(0, .ref 5), (1, .int x1), (2, .int x2), (3, .int rd.2.2.2.2.2.2.2.1), (4, .int q3)], [], (hp tx pg (rd.1, rd.2.1, rd.2.2.1, rd.2.2.2.1, rd.2.2.2.2.1, rd.2.2.2.2.2.1, rd.2.2.2.2.2.2.1, rd.2.2.2.2.2.2.2.1 + (1 : Int32), rd.2.2.2.2.2.2.2.2) a b sw))) 9 (fun _ => rfl) (fun hc => ?_) (fun hc => ?_)
    · have h := (am_ift hc).symm.trans h
      exact ev_R_difference_112_v h
    · have h := (am_iff hc).symm.trans h
      obtain ⟨q5, hq, h⟩ := Option.bind_eq_some_iff.mp h
      refine am_Ev.go 4 (st' := (60, [(0, .ref 5), (1, .int x1), (2, .int x2), (3, .int rd.2.2.2.2.2.2.2.1), (4, .int q3)], [.int (rd.2.2.2.2.2.2.2.1 + (1 : Int32)), .ref 1], (hp tx pg (rd.1, rd.2.1, rd.2.2.1, rd.2.2.2.1, rd.2.2.2.2.1, rd.2.2.2.2.2.1, rd.2.2.2.2.2.2.1, rd.2.2.2.2.2.2.2.1 + (1 : Int32), rd.2.2.2.2.2.2.2.2) a b sw))) (fun _ => rfl) ?_
      refine am_Ev.call (o := am_run cPT cML (n0 + 1) 3 [.ref 1, .int (rd.2.2.2.2.2.2.2.1 + (1 : Int32))] (hp tx pg (rd.1, rd.2.1, rd.2.2.1, rd.2.2.2.1, rd.2.2.2.2.1, rd.2.2.2.2.2.1, rd.2.2.2.2.2.2.1, rd.2.2.2.2.2.2.2.1 + (1 : Int32), rd.2.2.2.2.2.2.2.2) a b sw)) (kk := fun q => (63, [(0, .ref 5), (1, .int x1), (2, .int x2), (3, .int rd.2.2.2.2.2.2.2.1), (4, .int q3)], q.1.toList ++ [], q.2)) (q := (some (.int q5), (hp tx pg (rd.1, rd.2.1, rd.2.2.1, rd.2.2.2.1, rd.2.2.2.2.1, rd.2.2.2.2.2.1, rd.2.2.2.2.2.2.1, rd.2.2.2.2.2.2.2.1 + (1 : Int32), rd.2.2.2.2.2.2.2.2) a b sw))) 1 (fun _ => rfl) (ev_B_at_t hq) ?_
      refine am_Ev.fork (b := decide (q5 < (1 : Int32))) (s1 := (79, [(0, .ref 5), (1, .int x1), (2, .int x2), (3, .int rd.2.2.2.2.2.2.2.1), (4, .int q3), (5, .int q5)], [], (hp tx pg (rd.1, rd.2.1, rd.2.2.1, rd.2.2.2.1, rd.2.2.2.2.1, rd.2.2.2.2.2.1, rd.2.2.2.2.2.2.1, rd.2.2.2.2.2.2.2.1 + (1 : Int32), rd.2.2.2.2.2.2.2.2) a b sw))) (s2 := (71, [(0, .ref 5), (1, .int x1), (2, .int x2), (3, .int rd.2.2.2.2.2.2.2.1), (4, .int q3), (5, .int q5)], [], (hp tx pg (rd.1, rd.2.1, rd.2.2.1, rd.2.2.2.1, rd.2.2.2.2.1, rd.2.2.2.2.2.1, rd.2.2.2.2.2.2.1, rd.2.2.2.2.2.2.2.1 + (1 : Int32), rd.2.2.2.2.2.2.2.2) a b sw))) 4 (fun _ => rfl) (fun hc => ?_) (fun hc => ?_)
      · have h := (am_ift hc).symm.trans h
        refine am_Ev.same (st' := (79, [(0, .ref 5), (1, .int x1)], [], (hp tx pg (rd.1, rd.2.1, rd.2.2.1, rd.2.2.2.1, rd.2.2.2.2.1, rd.2.2.2.2.2.1, rd.2.2.2.2.2.2.1, rd.2.2.2.2.2.2.2.1 + (1 : Int32), rd.2.2.2.2.2.2.2.2) a b sw))) (fun _ => rfl) ?_
        exact ev_R_difference_79_v h
      · have h := (am_iff hc).symm.trans h
        refine am_Ev.fork (b := decide (q5 < (128 : Int32))) (s1 := (89, [(0, .ref 5), (1, .int x1), (2, .int x2), (3, .int rd.2.2.2.2.2.2.2.1), (4, .int q3), (5, .int q5)], [], (hp tx pg (rd.1, rd.2.1, rd.2.2.1, rd.2.2.2.1, rd.2.2.2.2.1, rd.2.2.2.2.2.1, rd.2.2.2.2.2.2.1, rd.2.2.2.2.2.2.2.1 + (1 : Int32), rd.2.2.2.2.2.2.2.2) a b sw))) (s2 := (79, [(0, .ref 5), (1, .int x1), (2, .int x2), (3, .int rd.2.2.2.2.2.2.2.1), (4, .int q3), (5, .int q5)], [], (hp tx pg (rd.1, rd.2.1, rd.2.2.1, rd.2.2.2.1, rd.2.2.2.2.1, rd.2.2.2.2.2.1, rd.2.2.2.2.2.2.1, rd.2.2.2.2.2.2.2.1 + (1 : Int32), rd.2.2.2.2.2.2.2.2) a b sw))) 3 (fun _ => rfl) (fun hc => ?_) (fun hc => ?_)
        · have h := (am_ift hc).symm.trans h
          refine am_Ev.go 14 (st' := (112, [(0, .ref 5), (1, .int x1), (2, .int x2), (3, .int rd.2.2.2.2.2.2.2.1), (4, .int (q3 + ((128 : Int32) * (q5 - (1 : Int32))))), (5, .int q5)], [], (hp tx pg (rd.1, rd.2.1, rd.2.2.1, rd.2.2.2.1, rd.2.2.2.2.1, rd.2.2.2.2.2.1, rd.2.2.2.2.2.2.1, (rd.2.2.2.2.2.2.2.1 + (1 : Int32)) + (1 : Int32), rd.2.2.2.2.2.2.2.2) a b sw))) (fun _ => rfl) ?_
          refine am_Ev.same (st' := (112, [(0, .ref 5), (1, .int x1), (2, .int x2), (3, .int rd.2.2.2.2.2.2.2.1), (4, .int (q3 + ((128 : Int32) * (q5 - (1 : Int32)))))], [], (hp tx pg (rd.1, rd.2.1, rd.2.2.1, rd.2.2.2.1, rd.2.2.2.2.1, rd.2.2.2.2.2.1, rd.2.2.2.2.2.2.1, (rd.2.2.2.2.2.2.2.1 + (1 : Int32)) + (1 : Int32), rd.2.2.2.2.2.2.2.2) a b sw))) (fun _ => rfl) ?_
          exact ev_R_difference_112_v h
        · have h := (am_iff hc).symm.trans h
          refine am_Ev.same (st' := (79, [(0, .ref 5), (1, .int x1)], [], (hp tx pg (rd.1, rd.2.1, rd.2.2.1, rd.2.2.2.1, rd.2.2.2.2.1, rd.2.2.2.2.2.1, rd.2.2.2.2.2.2.1, rd.2.2.2.2.2.2.2.1 + (1 : Int32), rd.2.2.2.2.2.2.2.2) a b sw))) (fun _ => rfl) ?_
          exact ev_R_difference_79_v h
theorem ev_R_expect_v {n0 : Nat} {pg : SB} {a : SD} {b : SD} {sw : Bool} {x1 : Int32} {tx : SB} {rd : SR} {res : SR} (h : fn_R_expect x1 tx rd = some res) : am_run cPT cML (n0 + 2) 59 [.ref 5, .int x1] (hp tx pg rd a b sw) = some (none, (hp tx pg res a b sw)) := by
  refine am_run_of (d := n0 + 1) rfl ?_
  show am_Ev (tb_R_expect (am_run cPT cML (n0 + 1))) (0, [(0, .ref 5), (1, .int x1)], [], (hp tx pg rd a b sw)) (none, (hp tx pg res a b sw))
  unfold fn_R_expect at h
  obtain ⟨q1, hq, h⟩ := Option.bind_eq_some_iff.mp h
  refine am_Ev.go 4 (st' := (8, [(0, .ref 5), (1, .int x1)], [.int rd.2.2.2.2.2.2.2.1, .ref 1], (hp tx pg rd a b sw))) (fun _ => rfl) ?_
  refine am_Ev.call (o := am_run cPT cML (n0 + 1) 3 [.ref 1, .int rd.2.2.2.2.2.2.2.1] (hp tx pg rd a b sw)) (kk := fun q => (11, [(0, .ref 5), (1, .int x1)], q.1.toList ++ [], q.2)) (q := (some (.int q1), (hp tx pg rd a b sw))) 1 (fun _ => rfl) (ev_B_at_t hq) ?_
  refine am_Ev.fork (b := decide (q1 = x1)) (s1 := (15, [(0, .ref 5), (1, .int x1)], [], (hp tx pg rd a b sw))) (s2 := (28, [(0, .ref 5), (1, .int x1)], [], (hp tx pg rd a b sw))) 2 (fun _ => rfl) (fun hc => ?_) (fun hc => ?_)
  · have h := (am_ift hc).symm.trans h
    cases h
    exact am_Ev.done 8 rfl
  · have h := (am_iff hc).symm.trans h
    obtain ⟨q2, hq, h⟩ := Option.bind_eq_some_iff.mp h
    refine am_Ev.go 3 (st' := (33, [(0, .ref 5), (1, .int x1)], [.int rd.2.2.2.2.2.2.2.1, .ref 5], (hp tx pg rd a b sw))) (fun _ => rfl) ?_
    refine am_Ev.call (o := am_run cPT cML (n0 + 1) 60 [.ref 5, .int rd.2.2.2.2.2.2.2.1] (hp tx pg rd a b sw)) (kk := fun q => (36, [(0, .ref 5), (1, .int x1)], q.1.toList ++ [], q.2)) (q := (none, (hp tx pg q2 a b sw))) 1 (fun _ => rfl) (ev_R_fail_v hq) ?_
    cases h
    exact am_Ev.done 1 rfl
theorem ev_T_latches_A {n0 : Nat} {tx : SB} {pg : SB} {rd : SR} {e : SD} {d : SD} {res : Int32} (h : fn_T_latches d = some res) : am_run cPT cML (n0 + 2) 66 [.ref 0] (hp tx pg rd d e false) = some (some (.int res), (hp tx pg rd d e false)) := by
  refine am_run_of (d := n0 + 1) rfl ?_
  show am_Ev (tb_T_latches (am_run cPT cML (n0 + 1))) (0, [(0, .ref 0)], [], (hp tx pg rd d e false)) (some (.int res), (hp tx pg rd d e false))
  unfold fn_T_latches at h
  obtain ⟨q1, hq, h⟩ := Option.bind_eq_some_iff.mp h
  refine am_Ev.go 2 (st' := (4, [(0, .ref 0)], [.ref 13], (hp tx pg rd d e false))) (fun _ => rfl) ?_
  refine am_Ev.call (o := am_run cPT cML (n0 + 1) 6 [.ref 13] (hp tx pg rd d e false)) (kk := fun q => (7, [(0, .ref 0)], q.1.toList ++ [], q.2)) (q := (some (.int q1), (hp tx pg rd d e false))) 1 (fun _ => rfl) (ev_D_latchBits_A hq) ?_
  cases h
  exact am_Ev.done 1 rfl
theorem ev_T_latches_B {n0 : Nat} {tx : SB} {pg : SB} {rd : SR} {e : SD} {d : SD} {res : Int32} (h : fn_T_latches d = some res) : am_run cPT cML (n0 + 2) 66 [.ref 0] (hp tx pg rd e d true) = some (some (.int res), (hp tx pg rd e d true)) := by
  refine am_run_of (d := n0 + 1) rfl ?_
  show am_Ev (tb_T_latches (am_run cPT cML (n0 + 1))) (0, [(0, .ref 0)], [], (hp tx pg rd e d true)) (some (.int res), (hp tx pg rd e d true))
  unfold fn_T_latches at h
  obtain ⟨q1, hq, h⟩ := Option.bind_eq_some_iff.mp h
  refine am_Ev.go 2 (st' := (4, [(0, .ref 0)], [.ref 26], (hp tx pg rd e d true))) (fun _ => rfl) ?_
  refine am_Ev.call (o := am_run cPT cML (n0 + 1) 6 [.ref 26] (hp tx pg rd e d true)) (kk := fun q => (7, [(0, .ref 0)], q.1.toList ++ [], q.2)) (q := (some (.int q1), (hp tx pg rd e d true))) 1 (fun _ => rfl) (ev_D_latchBits_B hq) ?_
  cases h
  exact am_Ev.done 1 rfl
theorem ev_D_inOrder_A {n0 : Nat} {tx : SB} {pg : SB} {rd : SR} {e : SD} {sw : Bool} {d : SD} {res : Int32} (h : fn_D_inOrder d = some res) : am_run cPT cML (n0 + 3) 13 [.ref 13] (hp tx pg rd d e sw) = some (some (.int res), (hp tx pg rd d e sw)) := by
  refine am_run_of (d := n0 + 2) rfl ?_
  show am_Ev (tb_D_inOrder (am_run cPT cML (n0 + 2))) (0, [(0, .ref 13)], [], (hp tx pg rd d e sw)) (some (.int res), (hp tx pg rd d e sw))
  unfold fn_D_inOrder at h
  obtain ⟨q1, hq, h⟩ := Option.bind_eq_some_iff.mp h
  refine am_Ev.go 2 (st' := (2, [(0, .ref 13)], [.int 0, .ref 13], (hp tx pg rd d e sw))) (fun _ => rfl) ?_
  refine am_Ev.call (o := am_run cPT cML (n0 + 2) 7 [.ref 13, .int 0] (hp tx pg rd d e sw)) (kk := fun q => (5, [(0, .ref 13)], q.1.toList ++ [], q.2)) (q := (some (.int q1), (hp tx pg rd d e sw))) 1 (fun _ => rfl) (ev_D_many_A hq) ?_
  obtain ⟨q2, hq, h⟩ := Option.bind_eq_some_iff.mp h
  refine am_Ev.go 4 (st' := (9, [(0, .ref 13), (1, .int q1)], [.int 1, .ref 13, .int q1], (hp tx pg rd d e sw))) (fun _ => rfl) ?_
  refine am_Ev.call (o := am_run cPT cML (n0 + 2) 7 [.ref 13, .int 1] (hp tx pg rd d e sw)) (kk := fun q => (12, [(0, .ref 13), (1, .int q1)], q.1.toList ++ [.int q1], q.2)) (q := (some (.int q2), (hp tx pg rd d e sw))) 1 (fun _ => rfl) (ev_D_many_A hq) ?_
  obtain ⟨q3, hq, h⟩ := Option.bind_eq_some_iff.mp h
  refine am_Ev.go 7 (st' := (21, [(0, .ref 13), (1, .int q1), (2, .int (q1 + q2))], [.int 3, .ref 13, .int (q1 + q2), .int d.2.2.2.2.1], (hp tx pg rd d e sw))) (fun _ => rfl) ?_
  refine am_Ev.call (o := am_run cPT cML (n0 + 2) 7 [.ref 13, .int 3] (hp tx pg rd d e sw)) (kk := fun q => (24, [(0, .ref 13), (1, .int q1), (2, .int (q1 + q2))], q.1.toList ++ [.int (q1 + q2), .int d.2.2.2.2.1], q.2)) (q := (some (.int q3), (hp tx pg rd d e sw))) 1 (fun _ => rfl) (ev_D_many_A hq) ?_
  refine am_Ev.fork (b := decide (d.2.2.2.2.1 = ((q1 + q2) + q3))) (s1 := (28, [(0, .ref 13), (1, .int q1), (2, .int (q1 + q2))], [], (hp tx pg rd d e sw))) (s2 := (66, [(0, .ref 13), (1, .int q1), (2, .int (q1 + q2))], [], (hp tx pg rd d e sw))) 2 (fun _ => rfl) (fun hc => ?_) (fun hc => ?_)
  · have h := (am_ift hc).symm.trans h
    obtain ⟨q4, hq, h⟩ := Option.bind_eq_some_iff.mp h
    refine am_Ev.go 3 (st' := (31, [(0, .ref 13), (1, .int q1), (2, .int (q1 + q2))], [.int 0, .int 0, .ref 13], (hp tx pg rd d e sw))) (fun _ => rfl) ?_
    refine am_Ev.call (o := am_run cPT cML (n0 + 2) 14 [.ref 13, .int 0, .int 0] (hp tx pg rd d e sw)) (kk := fun q => (34, [(0, .ref 13), (1, .int q1), (2, .int (q1 + q2))], q.1.toList ++ [], q.2)) (q := (some (.int q4), (hp tx pg rd d e sw))) 1 (fun _ => rfl) (ev_D_countsUp_A hq) ?_
    refine am_Ev.fork (b := decide (q4 = 0)) (s1 := (66, [(0, .ref 13), (1, .int q1), (2, .int (q1 + q2))], [], (hp tx pg rd d e sw))) (s2 := (37, [(0, .ref 13), (1, .int q1), (2, .int (q1 + q2))], [], (hp tx pg rd d e sw))) 1 (fun _ => rfl) (fun hc => ?_) (fun hc => ?_)
    · have h := (am_ift hc).symm.trans h
      cases h
      exact am_Ev.done 2 rfl
    · have h := (am_iff hc).symm.trans h
      obtain ⟨q5, hq, h⟩ := Option.bind_eq_some_iff.mp h
      refine am_Ev.go 3 (st' := (40, [(0, .ref 13), (1, .int q1), (2, .int (q1 + q2))], [.int q1, .int 1, .ref 13], (hp tx pg rd d e sw))) (fun _ => rfl) ?_
      refine am_Ev.call (o := am_run cPT cML (n0 + 2) 14 [.ref 13, .int 1, .int q1] (hp tx pg rd d e sw)) (kk := fun q => (43, [(0, .ref 13), (1, .int q1), (2, .int (q1 + q2))], q.1.toList ++ [], q.2)) (q := (some (.int q5), (hp tx pg rd d e sw))) 1 (fun _ => rfl) (ev_D_countsUp_A hq) ?_
      refine am_Ev.fork (b := decide (q5 = 0)) (s1 := (66, [(0, .ref 13), (1, .int q1), (2, .int (q1 + q2))], [], (hp tx pg rd d e sw))) (s2 := (46, [(0, .ref 13), (1, .int q1), (2, .int (q1 + q2))], [], (hp tx pg rd d e sw))) 1 (fun _ => rfl) (fun hc => ?_) (fun hc => ?_)
      · have h := (am_ift hc).symm.trans h
        cases h
        exact am_Ev.done 2 rfl
      · have h := (am_iff hc).symm.trans h
        obtain ⟨q6, hq, h⟩ := Option.bind_eq_some_iff.mp h
        refine am_Ev.go 3 (st' := (49, [(0, .ref 13), (1, .int q1), (2, .int (q1 + q2))], [.int (q1 + q2), .int 3, .ref 13], (hp tx pg rd d e sw))) (fun _ => rfl) ?_
        refine am_Ev.call (o := am_run cPT cML (n0 + 2) 14 [.ref 13, .int 3, .int (q1 + q2)] (hp tx pg rd d e sw)) (kk := fun q => (52, [(0, .ref 13), (1, .int q1), (2, .int (q1 + q2))], q.1.toList ++ [], q.2)) (q := (some (.int q6), (hp tx pg rd d e sw))) 1 (fun _ => rfl) (ev_D_countsUp_A hq) ?_
        refine am_Ev.fork (b := decide (q6 = 0)) (s1 := (66, [(0, .ref 13), (1, .int q1), (2, .int (q1 + q2))], [], (hp tx pg rd d e sw))) (s2 := (55, [(0, .ref 13), (1, .int q1), (2, .int (q1 + q2))], [], (hp tx pg rd d e sw))) 1 (fun _ => rfl) (fun hc => ?_) (fun hc => ?_)
        · have h := (am_ift hc).symm.trans h
          cases h
          exact am_Ev.done 2 rfl
        · have h := (am_iff hc).symm.trans h
          obtain ⟨q7, hq, h⟩ := Option.bind_eq_some_iff.mp h
          refine am_Ev.go 1 (st' := (56, [(0, .ref 13), (1, .int q1), (2, .int (q1 + q2))], [.ref 13], (hp tx pg rd d e sw))) (fun _ => rfl) ?_
          refine am_Ev.call (o := am_run cPT cML (n0 + 2) 15 [.ref 13] (hp tx pg rd d e sw)) (kk := fun q => (59, [(0, .ref 13), (1, .int q1), (2, .int (q1 + q2))], q.1.toList ++ [], q.2)) (q := (some (.int q7), (hp tx pg rd d e sw))) 1 (fun _ => rfl) (ev_D_gatesLookBack_A hq) ?_
          refine am_Ev.fork (b := decide (q7 = 0)) (s1 := (66, [(0, .ref 13), (1, .int q1), (2, .int (q1 + q2))], [], (hp tx pg rd d e sw))) (s2 := (62, [(0, .ref 13), (1, .int q1), (2, .int (q1 + q2))], [], (hp tx pg rd d e sw))) 1 (fun _ => rfl) (fun hc => ?_) (fun hc => ?_)
          · have h := (am_ift hc).symm.trans h
            cases h
            exact am_Ev.done 2 rfl
          · have h := (am_iff hc).symm.trans h
            cases h
            exact am_Ev.done 3 rfl
  · have h := (am_iff hc).symm.trans h
    cases h
    exact am_Ev.done 2 rfl
theorem ev_D_inOrder_B {n0 : Nat} {tx : SB} {pg : SB} {rd : SR} {e : SD} {sw : Bool} {d : SD} {res : Int32} (h : fn_D_inOrder d = some res) : am_run cPT cML (n0 + 3) 13 [.ref 26] (hp tx pg rd e d sw) = some (some (.int res), (hp tx pg rd e d sw)) := by
  refine am_run_of (d := n0 + 2) rfl ?_
  show am_Ev (tb_D_inOrder (am_run cPT cML (n0 + 2))) (0, [(0, .ref 26)], [], (hp tx pg rd e d sw)) (some (.int res), (hp tx pg rd e d sw))
  unfold fn_D_inOrder at h
  obtain ⟨q1, hq, h⟩ := Option.bind_eq_some_iff.mp h
  refine am_Ev.go 2 (st' := (2, [(0, .ref 26)], [.int 0, .ref 26], (hp tx pg rd e d sw))) (fun _ => rfl) ?_
  refine am_Ev.call (o := am_run cPT cML (n0 + 2) 7 [.ref 26, .int 0] (hp tx pg rd e d sw)) (kk := fun q => (5, [(0, .ref 26)], q.1.toList ++ [], q.2)) (q := (some (.int q1), (hp tx pg rd e d sw))) 1 (fun _ => rfl) (ev_D_many_B hq) ?_
  obtain ⟨q2, hq, h⟩ := Option.bind_eq_some_iff.mp h
  refine am_Ev.go 4 (st' := (9, [(0, .ref 26), (1, .int q1)], [.int 1, .ref 26, .int q1], (hp tx pg rd e d sw))) (fun _ => rfl) ?_
  refine am_Ev.call (o := am_run cPT cML (n0 + 2) 7 [.ref 26, .int 1] (hp tx pg rd e d sw)) (kk := fun q => (12, [(0, .ref 26), (1, .int q1)], q.1.toList ++ [.int q1], q.2)) (q := (some (.int q2), (hp tx pg rd e d sw))) 1 (fun _ => rfl) (ev_D_many_B hq) ?_
  obtain ⟨q3, hq, h⟩ := Option.bind_eq_some_iff.mp h
  refine am_Ev.go 7 (st' := (21, [(0, .ref 26), (1, .int q1), (2, .int (q1 + q2))], [.int 3, .ref 26, .int (q1 + q2), .int d.2.2.2.2.1], (hp tx pg rd e d sw))) (fun _ => rfl) ?_
  refine am_Ev.call (o := am_run cPT cML (n0 + 2) 7 [.ref 26, .int 3] (hp tx pg rd e d sw)) (kk := fun q => (24, [(0, .ref 26), (1, .int q1), (2, .int (q1 + q2))], q.1.toList ++ [.int (q1 + q2), .int d.2.2.2.2.1], q.2)) (q := (some (.int q3), (hp tx pg rd e d sw))) 1 (fun _ => rfl) (ev_D_many_B hq) ?_
  refine am_Ev.fork (b := decide (d.2.2.2.2.1 = ((q1 + q2) + q3))) (s1 := (28, [(0, .ref 26), (1, .int q1), (2, .int (q1 + q2))], [], (hp tx pg rd e d sw))) (s2 := (66, [(0, .ref 26), (1, .int q1), (2, .int (q1 + q2))], [], (hp tx pg rd e d sw))) 2 (fun _ => rfl) (fun hc => ?_) (fun hc => ?_)
  · have h := (am_ift hc).symm.trans h
    obtain ⟨q4, hq, h⟩ := Option.bind_eq_some_iff.mp h
    refine am_Ev.go 3 (st' := (31, [(0, .ref 26), (1, .int q1), (2, .int (q1 + q2))], [.int 0, .int 0, .ref 26], (hp tx pg rd e d sw))) (fun _ => rfl) ?_
    refine am_Ev.call (o := am_run cPT cML (n0 + 2) 14 [.ref 26, .int 0, .int 0] (hp tx pg rd e d sw)) (kk := fun q => (34, [(0, .ref 26), (1, .int q1), (2, .int (q1 + q2))], q.1.toList ++ [], q.2)) (q := (some (.int q4), (hp tx pg rd e d sw))) 1 (fun _ => rfl) (ev_D_countsUp_B hq) ?_
    refine am_Ev.fork (b := decide (q4 = 0)) (s1 := (66, [(0, .ref 26), (1, .int q1), (2, .int (q1 + q2))], [], (hp tx pg rd e d sw))) (s2 := (37, [(0, .ref 26), (1, .int q1), (2, .int (q1 + q2))], [], (hp tx pg rd e d sw))) 1 (fun _ => rfl) (fun hc => ?_) (fun hc => ?_)
    · have h := (am_ift hc).symm.trans h
      cases h
      exact am_Ev.done 2 rfl
    · have h := (am_iff hc).symm.trans h
      obtain ⟨q5, hq, h⟩ := Option.bind_eq_some_iff.mp h
      refine am_Ev.go 3 (st' := (40, [(0, .ref 26), (1, .int q1), (2, .int (q1 + q2))], [.int q1, .int 1, .ref 26], (hp tx pg rd e d sw))) (fun _ => rfl) ?_
      refine am_Ev.call (o := am_run cPT cML (n0 + 2) 14 [.ref 26, .int 1, .int q1] (hp tx pg rd e d sw)) (kk := fun q => (43, [(0, .ref 26), (1, .int q1), (2, .int (q1 + q2))], q.1.toList ++ [], q.2)) (q := (some (.int q5), (hp tx pg rd e d sw))) 1 (fun _ => rfl) (ev_D_countsUp_B hq) ?_
      refine am_Ev.fork (b := decide (q5 = 0)) (s1 := (66, [(0, .ref 26), (1, .int q1), (2, .int (q1 + q2))], [], (hp tx pg rd e d sw))) (s2 := (46, [(0, .ref 26), (1, .int q1), (2, .int (q1 + q2))], [], (hp tx pg rd e d sw))) 1 (fun _ => rfl) (fun hc => ?_) (fun hc => ?_)
      · have h := (am_ift hc).symm.trans h
        cases h
        exact am_Ev.done 2 rfl
      · have h := (am_iff hc).symm.trans h
        obtain ⟨q6, hq, h⟩ := Option.bind_eq_some_iff.mp h
        refine am_Ev.go 3 (st' := (49, [(0, .ref 26), (1, .int q1), (2, .int (q1 + q2))], [.int (q1 + q2), .int 3, .ref 26], (hp tx pg rd e d sw))) (fun _ => rfl) ?_
        refine am_Ev.call (o := am_run cPT cML (n0 + 2) 14 [.ref 26, .int 3, .int (q1 + q2)] (hp tx pg rd e d sw)) (kk := fun q => (52, [(0, .ref 26), (1, .int q1), (2, .int (q1 + q2))], q.1.toList ++ [], q.2)) (q := (some (.int q6), (hp tx pg rd e d sw))) 1 (fun _ => rfl) (ev_D_countsUp_B hq) ?_
        refine am_Ev.fork (b := decide (q6 = 0)) (s1 := (66, [(0, .ref 26), (1, .int q1), (2, .int (q1 + q2))], [], (hp tx pg rd e d sw))) (s2 := (55, [(0, .ref 26), (1, .int q1), (2, .int (q1 + q2))], [], (hp tx pg rd e d sw))) 1 (fun _ => rfl) (fun hc => ?_) (fun hc => ?_)
        · have h := (am_ift hc).symm.trans h
          cases h
          exact am_Ev.done 2 rfl
        · have h := (am_iff hc).symm.trans h
          obtain ⟨q7, hq, h⟩ := Option.bind_eq_some_iff.mp h
          refine am_Ev.go 1 (st' := (56, [(0, .ref 26), (1, .int q1), (2, .int (q1 + q2))], [.ref 26], (hp tx pg rd e d sw))) (fun _ => rfl) ?_
          refine am_Ev.call (o := am_run cPT cML (n0 + 2) 15 [.ref 26] (hp tx pg rd e d sw)) (kk := fun q => (59, [(0, .ref 26), (1, .int q1), (2, .int (q1 + q2))], q.1.toList ++ [], q.2)) (q := (some (.int q7), (hp tx pg rd e d sw))) 1 (fun _ => rfl) (ev_D_gatesLookBack_B hq) ?_
          refine am_Ev.fork (b := decide (q7 = 0)) (s1 := (66, [(0, .ref 26), (1, .int q1), (2, .int (q1 + q2))], [], (hp tx pg rd e d sw))) (s2 := (62, [(0, .ref 26), (1, .int q1), (2, .int (q1 + q2))], [], (hp tx pg rd e d sw))) 1 (fun _ => rfl) (fun hc => ?_) (fun hc => ?_)
          · have h := (am_ift hc).symm.trans h
            cases h
            exact am_Ev.done 2 rfl
          · have h := (am_iff hc).symm.trans h
            cases h
            exact am_Ev.done 3 rfl
  · have h := (am_iff hc).symm.trans h
    cases h
    exact am_Ev.done 2 rfl
theorem ev_D_truths_4_A {n0 : Nat} {tx : SB} {pg : SB} {rd : SR} {e : SD} {sw : Bool} {x1 : Int32} {d : SD} {κ : Int32 → Option (Int32)} (hκ : ∀ (x2 : Int32) (res : Int32), κ x2 = some res → am_Ev (tb_D_truths (am_run cPT cML (n0 + 2))) (34, [(2, .int x2)], [], (hp tx pg rd d e sw)) (some (.int res), (hp tx pg rd d e sw))) : ∀ (n : Nat) (x2 : Int32) (x3 : Int32) (res : Int32), fn_D_truths_4 x1 d κ n x2 x3 = some res → am_Ev (tb_D_truths (am_run cPT cML (n0 + 2))) (4, [(0, .ref 13), (1, .int x1), (2, .int x2), (3, .int x3)], [], (hp tx pg rd d e sw)) (some (.int res), (hp tx pg rd d e sw)) := by
  intro n
  induction n with
  | zero => intro x2 x3 res h; unfold fn_D_truths_4 at h; cases h
  | succ n ih =>
    intro x2 x3 res h
    unfold fn_D_truths_4 at h
    obtain ⟨q1, hq, h⟩ := Option.bind_eq_some_iff.mp h
    refine am_Ev.go 3 (st' := (7, [(0, .ref 13), (1, .int x1), (2, .int x2), (3, .int x3)], [.int x1, .ref 13, .int x3], (hp tx pg rd d e sw))) (fun _ => rfl) ?_
    refine am_Ev.call (o := am_run cPT cML (n0 + 2) 7 [.ref 13, .int x1] (hp tx pg rd d e sw)) (kk := fun q => (10, [(0, .ref 13), (1, .int x1), (2, .int x2), (3, .int x3)], q.1.toList ++ [.int x3], q.2)) (q := (some (.int q1), (hp tx pg rd d e sw))) 1 (fun _ => rfl) (ev_D_many_A hq) ?_
    refine am_Ev.fork (b := decide (q1 ≤ x3)) (s1 := (34, [(0, .ref 13), (1, .int x1), (2, .int x2), (3, .int x3)], [], (hp tx pg rd d e sw))) (s2 := (13, [(0, .ref 13), (1, .int x1), (2, .int x2), (3, .int x3)], [], (hp tx pg rd d e sw))) 1 (fun _ => rfl) (fun hc => ?_) (fun hc => ?_)
    · have h := (am_ift hc).symm.trans h
      refine am_Ev.same (st' := (34, [(2, .int x2)], [], (hp tx pg rd d e sw))) (fun _ => rfl) ?_
      exact hκ _ _ h
    · have h := (am_iff hc).symm.trans h
      obtain ⟨q2, hq, h⟩ := Option.bind_eq_some_iff.mp h
      refine am_Ev.go 5 (st' := (18, [(0, .ref 13), (1, .int x1), (2, .int x2), (3, .int x3)], [.int x3, .int x1, .ref 13, .ref 13, .int x2], (hp tx pg rd d e sw))) (fun _ => rfl) ?_
      refine am_Ev.call (o := am_run cPT cML (n0 + 2) 10 [.ref 13, .int x1, .int x3] (hp tx pg rd d e sw)) (kk := fun q => (21, [(0, .ref 13), (1, .int x1), (2, .int x2), (3, .int x3)], q.1.toList ++ [.ref 13, .int x2], q.2)) (q := (some (.int q2), (hp tx pg rd d e sw))) 1 (fun _ => rfl) (ev_D_get_A hq) ?_
      obtain ⟨q3, hq, h⟩ := Option.bind_eq_some_iff.mp h
      refine am_Ev.call (o := am_run cPT cML (n0 + 2) 18 [.ref 13, .int q2] (hp tx pg rd d e sw)) (kk := fun q => (24, [(0, .ref 13), (1, .int x1), (2, .int x2), (3, .int x3)], q.1.toList ++ [.int x2], q.2)) (q := (some (.int q3), (hp tx pg rd d e sw))) 1 (fun _ => rfl) (ev_D_truth_A hq) ?_
      refine am_Ev.go 6 (st' := (4, [(0, .ref 13), (1, .int x1), (2, .int (x2 ||| (q3 <<< (x3 &&& 31)))), (3, .int (x3 + 1))], [], (hp tx pg rd d e sw))) (fun _ => rfl) ?_
      exact ih _ _ _ h
theorem ev_D_truths_A {n0 : Nat} {tx : SB} {pg : SB} {rd : SR} {e : SD} {sw : Bool} {x1 : Int32} {d : SD} {res : Int32} (h : fn_D_truths x1 d = some res) : am_run cPT cML (n0 + 3) 17 [.ref 13, .int x1] (hp tx pg rd d e sw) = some (some (.int res), (hp tx pg rd d e sw)) := by
  refine am_run_of (d := n0 + 2) rfl ?_
  show am_Ev (tb_D_truths (am_run cPT cML (n0 + 2))) (0, [(0, .ref 13), (1, .int x1)], [], (hp tx pg rd d e sw)) (some (.int res), (hp tx pg rd d e sw))
  unfold fn_D_truths at h
  refine am_Ev.go 4 (st' := (4, [(0, .ref 13), (1, .int x1), (2, .int 0), (3, .int 0)], [], (hp tx pg rd d e sw))) (fun _ => rfl) ?_
  refine ev_D_truths_4_A ?_ _ _ _ _ h
  intro x2_5 res h
  try dsimp only at h
  cases h
  exact am_Ev.done 2 rfl
theorem ev_D_truths_4_B {n0 : Nat} {tx : SB} {pg : SB} {rd : SR} {e : SD} {sw : Bool} {x1 : Int32} {d : SD} {κ : Int32 → Option (Int32)} (hκ : ∀ (x2 : Int32) (res : Int32), κ x2 = some res → am_Ev (tb_D_truths (am_run cPT cML (n0 + 2))) (34, [(2, .int x2)], [], (hp tx pg rd e d sw)) (some (.int res), (hp tx pg rd e d sw))) : ∀ (n : Nat) (x2 : Int32) (x3 : Int32) (res : Int32), fn_D_truths_4 x1 d κ n x2 x3 = some res → am_Ev (tb_D_truths (am_run cPT cML (n0 + 2))) (4, [(0, .ref 26), (1, .int x1), (2, .int x2), (3, .int x3)], [], (hp tx pg rd e d sw)) (some (.int res), (hp tx pg rd e d sw)) := by
  intro n
  induction n with
  | zero => intro x2 x3 res h; unfold fn_D_truths_4 at h; cases h
  | succ n ih =>
    intro x2 x3 res h
    unfold fn_D_truths_4 at h
    obtain ⟨q1, hq, h⟩ := Option.bind_eq_some_iff.mp h
    refine am_Ev.go 3 (st' := (7, [(0, .ref 26), (1, .int x1), (2, .int x2), (3, .int x3)], [.int x1, .ref 26, .int x3], (hp tx pg rd e d sw))) (fun _ => rfl) ?_
    refine am_Ev.call (o := am_run cPT cML (n0 + 2) 7 [.ref 26, .int x1] (hp tx pg rd e d sw)) (kk := fun q => (10, [(0, .ref 26), (1, .int x1), (2, .int x2), (3, .int x3)], q.1.toList ++ [.int x3], q.2)) (q := (some (.int q1), (hp tx pg rd e d sw))) 1 (fun _ => rfl) (ev_D_many_B hq) ?_
    refine am_Ev.fork (b := decide (q1 ≤ x3)) (s1 := (34, [(0, .ref 26), (1, .int x1), (2, .int x2), (3, .int x3)], [], (hp tx pg rd e d sw))) (s2 := (13, [(0, .ref 26), (1, .int x1), (2, .int x2), (3, .int x3)], [], (hp tx pg rd e d sw))) 1 (fun _ => rfl) (fun hc => ?_) (fun hc => ?_)
    · have h := (am_ift hc).symm.trans h
      refine am_Ev.same (st' := (34, [(2, .int x2)], [], (hp tx pg rd e d sw))) (fun _ => rfl) ?_
      exact hκ _ _ h
    · have h := (am_iff hc).symm.trans h
      obtain ⟨q2, hq, h⟩ := Option.bind_eq_some_iff.mp h
      refine am_Ev.go 5 (st' := (18, [(0, .ref 26), (1, .int x1), (2, .int x2), (3, .int x3)], [.int x3, .int x1, .ref 26, .ref 26, .int x2], (hp tx pg rd e d sw))) (fun _ => rfl) ?_
      refine am_Ev.call (o := am_run cPT cML (n0 + 2) 10 [.ref 26, .int x1, .int x3] (hp tx pg rd e d sw)) (kk := fun q => (21, [(0, .ref 26), (1, .int x1), (2, .int x2), (3, .int x3)], q.1.toList ++ [.ref 26, .int x2], q.2)) (q := (some (.int q2), (hp tx pg rd e d sw))) 1 (fun _ => rfl) (ev_D_get_B hq) ?_
      obtain ⟨q3, hq, h⟩ := Option.bind_eq_some_iff.mp h
      refine am_Ev.call (o := am_run cPT cML (n0 + 2) 18 [.ref 26, .int q2] (hp tx pg rd e d sw)) (kk := fun q => (24, [(0, .ref 26), (1, .int x1), (2, .int x2), (3, .int x3)], q.1.toList ++ [.int x2], q.2)) (q := (some (.int q3), (hp tx pg rd e d sw))) 1 (fun _ => rfl) (ev_D_truth_B hq) ?_
      refine am_Ev.go 6 (st' := (4, [(0, .ref 26), (1, .int x1), (2, .int (x2 ||| (q3 <<< (x3 &&& 31)))), (3, .int (x3 + 1))], [], (hp tx pg rd e d sw))) (fun _ => rfl) ?_
      exact ih _ _ _ h
theorem ev_D_truths_B {n0 : Nat} {tx : SB} {pg : SB} {rd : SR} {e : SD} {sw : Bool} {x1 : Int32} {d : SD} {res : Int32} (h : fn_D_truths x1 d = some res) : am_run cPT cML (n0 + 3) 17 [.ref 26, .int x1] (hp tx pg rd e d sw) = some (some (.int res), (hp tx pg rd e d sw)) := by
  refine am_run_of (d := n0 + 2) rfl ?_
  show am_Ev (tb_D_truths (am_run cPT cML (n0 + 2))) (0, [(0, .ref 26), (1, .int x1)], [], (hp tx pg rd e d sw)) (some (.int res), (hp tx pg rd e d sw))
  unfold fn_D_truths at h
  refine am_Ev.go 4 (st' := (4, [(0, .ref 26), (1, .int x1), (2, .int 0), (3, .int 0)], [], (hp tx pg rd e d sw))) (fun _ => rfl) ?_
  refine ev_D_truths_4_B ?_ _ _ _ _ h
  intro x2_5 res h
  try dsimp only at h
  cases h
  exact am_Ev.done 2 rfl
theorem ev_D_arrange_22_A {n0 : Nat} {tx : SB} {pg : SB} {rd : SR} {e : SD} {sw : Bool} {κ : SD → Option (SD)} (hκ : ∀ (d : SD) (res : SD), κ d = some res → am_Ev (tb_D_arrange (am_run cPT cML (n0 + 2))) (69, [], [], (hp tx pg rd d e sw)) (none, (hp tx pg rd res e sw))) : ∀ (n : Nat) (x1 : Int32) (d : SD) (res : SD), fn_D_arrange_22 κ n x1 d = some res → am_Ev (tb_D_arrange (am_run cPT cML (n0 + 2))) (22, [(0, .ref 13), (1, .int x1)], [], (hp tx pg rd d e sw)) (none, (hp tx pg rd res e sw)) := by
  intro n
  induction n with
  | zero => intro x1 d res h; unfold fn_D_arrange_22 at h; cases h
  | succ n ih =>
    intro x1 d res h
    unfold fn_D_arrange_22 at h
    obtain ⟨q1, hq, h⟩ := Option.bind_eq_some_iff.mp h
    refine am_Ev.go 3 (st' := (25, [(0, .ref 13), (1, .int x1)], [.int 3, .ref 13, .int x1], (hp tx pg rd d e sw))) (fun _ => rfl) ?_
    refine am_Ev.call (o := am_run cPT cML (n0 + 2) 7 [.ref 13, .int 3] (hp tx pg rd d e sw)) (kk := fun q => (28, [(0, .ref 13), (1, .int x1)], q.1.toList ++ [.int x1], q.2)) (q := (some (.int q1), (hp tx pg rd d e sw))) 1 (fun _ => rfl) (ev_D_many_A hq) ?_
    refine am_Ev.fork (b := decide (q1 ≤ x1)) (s1 := (69, [(0, .ref 13), (1, .int x1)], [], (hp tx pg rd d e sw))) (s2 := (31, [(0, .ref 13), (1, .int x1)], [], (hp tx pg rd d e sw))) 1 (fun _ => rfl) (fun hc => ?_) (fun hc => ?_)
    · have h := (am_ift hc).symm.trans h
      refine am_Ev.same (st' := (69, [], [], (hp tx pg rd d e sw))) (fun _ => rfl) ?_
      exact hκ _ _ h
    · have h := (am_iff hc).symm.trans h
      obtain ⟨q2, hq, h⟩ := Option.bind_eq_some_iff.mp h
      refine am_Ev.go 1 (st' := (32, [(0, .ref 13), (1, .int x1)], [.ref 13], (hp tx pg rd d e sw))) (fun _ => rfl) ?_
      refine am_Ev.call (o := am_run cPT cML (n0 + 2) 22 [.ref 13] (hp tx pg rd d e sw)) (kk := fun q => (35, [(0, .ref 13), (1, .int x1)], q.1.toList ++ [], q.2)) (q := (some (.int q2), (hp tx pg rd d e sw))) 1 (fun _ => rfl) (ev_D_firstReady_A hq) ?_
      refine am_Ev.fork (b := decide ((60 : Int32) ≤ x1)) (s1 := (52, [(0, .ref 13), (1, .int x1), (2, .int q2)], [], (hp tx pg rd d e sw))) (s2 := (45, [(0, .ref 13), (1, .int x1), (2, .int q2)], [], (hp tx pg rd d e sw))) 6 (fun _ => rfl) (fun hc => ?_) (fun hc => ?_)
      · have h := (am_ift hc).symm.trans h
        obtain ⟨q3, hq, h⟩ := Option.bind_eq_some_iff.mp h
        refine am_Ev.go 4 (st' := (56, [(0, .ref 13), (1, .int x1), (2, .int q2)], [.int q2, .int 3, .ref 13, .ref 13], (hp tx pg rd d e sw))) (fun _ => rfl) ?_
        refine am_Ev.call (o := am_run cPT cML (n0 + 2) 10 [.ref 13, .int 3, .int q2] (hp tx pg rd d e sw)) (kk := fun q => (59, [(0, .ref 13), (1, .int x1), (2, .int q2)], q.1.toList ++ [.ref 13], q.2)) (q := (some (.int q3), (hp tx pg rd d e sw))) 1 (fun _ => rfl) (ev_D_get_A hq) ?_
        obtain ⟨q4, hq, h⟩ := Option.bind_eq_some_iff.mp h
        refine am_Ev.go 1 (st' := (60, [(0, .ref 13), (1, .int x1), (2, .int q2)], [.int 1, .int q3, .ref 13], (hp tx pg rd d e sw))) (fun _ => rfl) ?_
        refine am_Ev.call (o := am_run cPT cML (n0 + 2) 30 [.ref 13, .int q3, .int 1] (hp tx pg rd d e sw)) (kk := fun q => (63, [(0, .ref 13), (1, .int x1), (2, .int q2)], q.1.toList ++ [], q.2)) (q := (none, (hp tx pg rd q4 e sw))) 1 (fun _ => rfl) (ev_D_mark_A hq) ?_
        refine am_Ev.go 2 (st' := (22, [(0, .ref 13), (1, .int (x1 + 1)), (2, .int q2)], [], (hp tx pg rd q4 e sw))) (fun _ => rfl) ?_
        refine am_Ev.same (st' := (22, [(0, .ref 13), (1, .int (x1 + 1))], [], (hp tx pg rd q4 e sw))) (fun _ => rfl) ?_
        exact ih _ _ _ h
      · have h := (am_iff hc).symm.trans h
        obtain ⟨hc, h⟩ := am_ifn h
        refine am_Ev.guard (b := decide (0 ≤ x1.toInt ∧ x1.toInt < (60 : Int))) (s1 := (52, [(0, .ref 13), (1, .int x1), (2, .int q2)], [], (hp tx pg rd (d.1, d.2.1, upd d.2.2.1 x1.toNatClampNeg q2, d.2.2.2.1, d.2.2.2.2.1, d.2.2.2.2.2) e sw))) 5 (fun _ => rfl) hc ?_
        obtain ⟨q5, hq, h⟩ := Option.bind_eq_some_iff.mp h
        refine am_Ev.go 4 (st' := (56, [(0, .ref 13), (1, .int x1), (2, .int q2)], [.int q2, .int 3, .ref 13, .ref 13], (hp tx pg rd (d.1, d.2.1, upd d.2.2.1 x1.toNatClampNeg q2, d.2.2.2.1, d.2.2.2.2.1, d.2.2.2.2.2) e sw))) (fun _ => rfl) ?_
        refine am_Ev.call (o := am_run cPT cML (n0 + 2) 10 [.ref 13, .int 3, .int q2] (hp tx pg rd (d.1, d.2.1, upd d.2.2.1 x1.toNatClampNeg q2, d.2.2.2.1, d.2.2.2.2.1, d.2.2.2.2.2) e sw)) (kk := fun q => (59, [(0, .ref 13), (1, .int x1), (2, .int q2)], q.1.toList ++ [.ref 13], q.2)) (q := (some (.int q5), (hp tx pg rd (d.1, d.2.1, upd d.2.2.1 x1.toNatClampNeg q2, d.2.2.2.1, d.2.2.2.2.1, d.2.2.2.2.2) e sw))) 1 (fun _ => rfl) (ev_D_get_A hq) ?_
        obtain ⟨q6, hq, h⟩ := Option.bind_eq_some_iff.mp h
        refine am_Ev.go 1 (st' := (60, [(0, .ref 13), (1, .int x1), (2, .int q2)], [.int 1, .int q5, .ref 13], (hp tx pg rd (d.1, d.2.1, upd d.2.2.1 x1.toNatClampNeg q2, d.2.2.2.1, d.2.2.2.2.1, d.2.2.2.2.2) e sw))) (fun _ => rfl) ?_
        refine am_Ev.call (o := am_run cPT cML (n0 + 2) 30 [.ref 13, .int q5, .int 1] (hp tx pg rd (d.1, d.2.1, upd d.2.2.1 x1.toNatClampNeg q2, d.2.2.2.1, d.2.2.2.2.1, d.2.2.2.2.2) e sw)) (kk := fun q => (63, [(0, .ref 13), (1, .int x1), (2, .int q2)], q.1.toList ++ [], q.2)) (q := (none, (hp tx pg rd q6 e sw))) 1 (fun _ => rfl) (ev_D_mark_A hq) ?_
        refine am_Ev.go 2 (st' := (22, [(0, .ref 13), (1, .int (x1 + 1)), (2, .int q2)], [], (hp tx pg rd q6 e sw))) (fun _ => rfl) ?_
        refine am_Ev.same (st' := (22, [(0, .ref 13), (1, .int (x1 + 1))], [], (hp tx pg rd q6 e sw))) (fun _ => rfl) ?_
        exact ih _ _ _ h
theorem ev_D_arrange_A {n0 : Nat} {tx : SB} {pg : SB} {rd : SR} {e : SD} {sw : Bool} {d : SD} {res : SD} (h : fn_D_arrange d = some res) : am_run cPT cML (n0 + 3) 19 [.ref 13] (hp tx pg rd d e sw) = some (none, (hp tx pg rd res e sw)) := by
  refine am_run_of (d := n0 + 2) rfl ?_
  show am_Ev (tb_D_arrange (am_run cPT cML (n0 + 2))) (0, [(0, .ref 13)], [], (hp tx pg rd d e sw)) (none, (hp tx pg rd res e sw))
  unfold fn_D_arrange at h
  obtain ⟨q7, hq, h⟩ := Option.bind_eq_some_iff.mp h
  refine am_Ev.go 1 (st' := (1, [(0, .ref 13)], [.ref 13], (hp tx pg rd d e sw))) (fun _ => rfl) ?_
  refine am_Ev.call (o := am_run cPT cML (n0 + 2) 20 [.ref 13] (hp tx pg rd d e sw)) (kk := fun q => (4, [(0, .ref 13)], q.1.toList ++ [], q.2)) (q := (none, (hp tx pg rd q7 e sw))) 1 (fun _ => rfl) (ev_D_forget_A hq) ?_
  obtain ⟨q8, hq, h⟩ := Option.bind_eq_some_iff.mp h
  refine am_Ev.go 3 (st' := (7, [(0, .ref 13)], [.int 1, .int 0, .ref 13], (hp tx pg rd q7 e sw))) (fun _ => rfl) ?_
  refine am_Ev.call (o := am_run cPT cML (n0 + 2) 30 [.ref 13, .int 0, .int 1] (hp tx pg rd q7 e sw)) (kk := fun q => (10, [(0, .ref 13)], q.1.toList ++ [], q.2)) (q := (none, (hp tx pg rd q8 e sw))) 1 (fun _ => rfl) (ev_D_mark_A hq) ?_
  obtain ⟨q9, hq, h⟩ := Option.bind_eq_some_iff.mp h
  refine am_Ev.go 2 (st' := (12, [(0, .ref 13)], [.int 0, .ref 13], (hp tx pg rd q8 e sw))) (fun _ => rfl) ?_
  refine am_Ev.call (o := am_run cPT cML (n0 + 2) 21 [.ref 13, .int 0] (hp tx pg rd q8 e sw)) (kk := fun q => (15, [(0, .ref 13)], q.1.toList ++ [], q.2)) (q := (none, (hp tx pg rd q9 e sw))) 1 (fun _ => rfl) (ev_D_markAll_A hq) ?_
  obtain ⟨q10, hq, h⟩ := Option.bind_eq_some_iff.mp h
  refine am_Ev.go 2 (st' := (17, [(0, .ref 13)], [.int 1, .ref 13], (hp tx pg rd q9 e sw))) (fun _ => rfl) ?_
  refine am_Ev.call (o := am_run cPT cML (n0 + 2) 21 [.ref 13, .int 1] (hp tx pg rd q9 e sw)) (kk := fun q => (20, [(0, .ref 13)], q.1.toList ++ [], q.2)) (q := (none, (hp tx pg rd q10 e sw))) 1 (fun _ => rfl) (ev_D_markAll_A hq) ?_
  refine am_Ev.go 2 (st' := (22, [(0, .ref 13), (1, .int 0)], [], (hp tx pg rd q10 e sw))) (fun _ => rfl) ?_
  refine ev_D_arrange_22_A ?_ _ _ _ _ h
  intro d_12 res h
  try dsimp only at h
  cases h
  exact am_Ev.done 1 rfl
theorem ev_D_arrange_22_B {n0 : Nat} {tx : SB} {pg : SB} {rd : SR} {e : SD} {sw : Bool} {κ : SD → Option (SD)} (hκ : ∀ (d : SD) (res : SD), κ d = some res → am_Ev (tb_D_arrange (am_run cPT cML (n0 + 2))) (69, [], [], (hp tx pg rd e d sw)) (none, (hp tx pg rd e res sw))) : ∀ (n : Nat) (x1 : Int32) (d : SD) (res : SD), fn_D_arrange_22 κ n x1 d = some res → am_Ev (tb_D_arrange (am_run cPT cML (n0 + 2))) (22, [(0, .ref 26), (1, .int x1)], [], (hp tx pg rd e d sw)) (none, (hp tx pg rd e res sw)) := by
  intro n
  induction n with
  | zero => intro x1 d res h; unfold fn_D_arrange_22 at h; cases h
  | succ n ih =>
    intro x1 d res h
    unfold fn_D_arrange_22 at h
    obtain ⟨q1, hq, h⟩ := Option.bind_eq_some_iff.mp h
    refine am_Ev.go 3 (st' := (25, [(0, .ref 26), (1, .int x1)], [.int 3, .ref 26, .int x1], (hp tx pg rd e d sw))) (fun _ => rfl) ?_
    refine am_Ev.call (o := am_run cPT cML (n0 + 2) 7 [.ref 26, .int 3] (hp tx pg rd e d sw)) (kk := fun q => (28, [(0, .ref 26), (1, .int x1)], q.1.toList ++ [.int x1], q.2)) (q := (some (.int q1), (hp tx pg rd e d sw))) 1 (fun _ => rfl) (ev_D_many_B hq) ?_
    refine am_Ev.fork (b := decide (q1 ≤ x1)) (s1 := (69, [(0, .ref 26), (1, .int x1)], [], (hp tx pg rd e d sw))) (s2 := (31, [(0, .ref 26), (1, .int x1)], [], (hp tx pg rd e d sw))) 1 (fun _ => rfl) (fun hc => ?_) (fun hc => ?_)
    · have h := (am_ift hc).symm.trans h
      refine am_Ev.same (st' := (69, [], [], (hp tx pg rd e d sw))) (fun _ => rfl) ?_
      exact hκ _ _ h
    · have h := (am_iff hc).symm.trans h
      obtain ⟨q2, hq, h⟩ := Option.bind_eq_some_iff.mp h
      refine am_Ev.go 1 (st' := (32, [(0, .ref 26), (1, .int x1)], [.ref 26], (hp tx pg rd e d sw))) (fun _ => rfl) ?_
      refine am_Ev.call (o := am_run cPT cML (n0 + 2) 22 [.ref 26] (hp tx pg rd e d sw)) (kk := fun q => (35, [(0, .ref 26), (1, .int x1)], q.1.toList ++ [], q.2)) (q := (some (.int q2), (hp tx pg rd e d sw))) 1 (fun _ => rfl) (ev_D_firstReady_B hq) ?_
      refine am_Ev.fork (b := decide ((60 : Int32) ≤ x1)) (s1 := (52, [(0, .ref 26), (1, .int x1), (2, .int q2)], [], (hp tx pg rd e d sw))) (s2 := (45, [(0, .ref 26), (1, .int x1), (2, .int q2)], [], (hp tx pg rd e d sw))) 6 (fun _ => rfl) (fun hc => ?_) (fun hc => ?_)
      · have h := (am_ift hc).symm.trans h
        obtain ⟨q3, hq, h⟩ := Option.bind_eq_some_iff.mp h
        refine am_Ev.go 4 (st' := (56, [(0, .ref 26), (1, .int x1), (2, .int q2)], [.int q2, .int 3, .ref 26, .ref 26], (hp tx pg rd e d sw))) (fun _ => rfl) ?_
        refine am_Ev.call (o := am_run cPT cML (n0 + 2) 10 [.ref 26, .int 3, .int q2] (hp tx pg rd e d sw)) (kk := fun q => (59, [(0, .ref 26), (1, .int x1), (2, .int q2)], q.1.toList ++ [.ref 26], q.2)) (q := (some (.int q3), (hp tx pg rd e d sw))) 1 (fun _ => rfl) (ev_D_get_B hq) ?_
        obtain ⟨q4, hq, h⟩ := Option.bind_eq_some_iff.mp h
        refine am_Ev.go 1 (st' := (60, [(0, .ref 26), (1, .int x1), (2, .int q2)], [.int 1, .int q3, .ref 26], (hp tx pg rd e d sw))) (fun _ => rfl) ?_
        refine am_Ev.call (o := am_run cPT cML (n0 + 2) 30 [.ref 26, .int q3, .int 1] (hp tx pg rd e d sw)) (kk := fun q => (63, [(0, .ref 26), (1, .int x1), (2, .int q2)], q.1.toList ++ [], q.2)) (q := (none, (hp tx pg rd e q4 sw))) 1 (fun _ => rfl) (ev_D_mark_B hq) ?_
        refine am_Ev.go 2 (st' := (22, [(0, .ref 26), (1, .int (x1 + 1)), (2, .int q2)], [], (hp tx pg rd e q4 sw))) (fun _ => rfl) ?_
        refine am_Ev.same (st' := (22, [(0, .ref 26), (1, .int (x1 + 1))], [], (hp tx pg rd e q4 sw))) (fun _ => rfl) ?_
        exact ih _ _ _ h
      · have h := (am_iff hc).symm.trans h
        obtain ⟨hc, h⟩ := am_ifn h
        refine am_Ev.guard (b := decide (0 ≤ x1.toInt ∧ x1.toInt < (60 : Int))) (s1 := (52, [(0, .ref 26), (1, .int x1), (2, .int q2)], [], (hp tx pg rd e (d.1, d.2.1, upd d.2.2.1 x1.toNatClampNeg q2, d.2.2.2.1, d.2.2.2.2.1, d.2.2.2.2.2) sw))) 5 (fun _ => rfl) hc ?_
        obtain ⟨q5, hq, h⟩ := Option.bind_eq_some_iff.mp h
        refine am_Ev.go 4 (st' := (56, [(0, .ref 26), (1, .int x1), (2, .int q2)], [.int q2, .int 3, .ref 26, .ref 26], (hp tx pg rd e (d.1, d.2.1, upd d.2.2.1 x1.toNatClampNeg q2, d.2.2.2.1, d.2.2.2.2.1, d.2.2.2.2.2) sw))) (fun _ => rfl) ?_
        refine am_Ev.call (o := am_run cPT cML (n0 + 2) 10 [.ref 26, .int 3, .int q2] (hp tx pg rd e (d.1, d.2.1, upd d.2.2.1 x1.toNatClampNeg q2, d.2.2.2.1, d.2.2.2.2.1, d.2.2.2.2.2) sw)) (kk := fun q => (59, [(0, .ref 26), (1, .int x1), (2, .int q2)], q.1.toList ++ [.ref 26], q.2)) (q := (some (.int q5), (hp tx pg rd e (d.1, d.2.1, upd d.2.2.1 x1.toNatClampNeg q2, d.2.2.2.1, d.2.2.2.2.1, d.2.2.2.2.2) sw))) 1 (fun _ => rfl) (ev_D_get_B hq) ?_
        obtain ⟨q6, hq, h⟩ := Option.bind_eq_some_iff.mp h
        refine am_Ev.go 1 (st' := (60, [(0, .ref 26), (1, .int x1), (2, .int q2)], [.int 1, .int q5, .ref 26], (hp tx pg rd e (d.1, d.2.1, upd d.2.2.1 x1.toNatClampNeg q2, d.2.2.2.1, d.2.2.2.2.1, d.2.2.2.2.2) sw))) (fun _ => rfl) ?_
        refine am_Ev.call (o := am_run cPT cML (n0 + 2) 30 [.ref 26, .int q5, .int 1] (hp tx pg rd e (d.1, d.2.1, upd d.2.2.1 x1.toNatClampNeg q2, d.2.2.2.1, d.2.2.2.2.1, d.2.2.2.2.2) sw)) (kk := fun q => (63, [(0, .ref 26), (1, .int x1), (2, .int q2)], q.1.toList ++ [], q.2)) (q := (none, (hp tx pg rd e q6 sw))) 1 (fun _ => rfl) (ev_D_mark_B hq) ?_
        refine am_Ev.go 2 (st' := (22, [(0, .ref 26), (1, .int (x1 + 1)), (2, .int q2)], [], (hp tx pg rd e q6 sw))) (fun _ => rfl) ?_
        refine am_Ev.same (st' := (22, [(0, .ref 26), (1, .int (x1 + 1))], [], (hp tx pg rd e q6 sw))) (fun _ => rfl) ?_
        exact ih _ _ _ h
theorem ev_D_arrange_B {n0 : Nat} {tx : SB} {pg : SB} {rd : SR} {e : SD} {sw : Bool} {d : SD} {res : SD} (h : fn_D_arrange d = some res) : am_run cPT cML (n0 + 3) 19 [.ref 26] (hp tx pg rd e d sw) = some (none, (hp tx pg rd e res sw)) := by
  refine am_run_of (d := n0 + 2) rfl ?_
  show am_Ev (tb_D_arrange (am_run cPT cML (n0 + 2))) (0, [(0, .ref 26)], [], (hp tx pg rd e d sw)) (none, (hp tx pg rd e res sw))
  unfold fn_D_arrange at h
  obtain ⟨q7, hq, h⟩ := Option.bind_eq_some_iff.mp h
  refine am_Ev.go 1 (st' := (1, [(0, .ref 26)], [.ref 26], (hp tx pg rd e d sw))) (fun _ => rfl) ?_
  refine am_Ev.call (o := am_run cPT cML (n0 + 2) 20 [.ref 26] (hp tx pg rd e d sw)) (kk := fun q => (4, [(0, .ref 26)], q.1.toList ++ [], q.2)) (q := (none, (hp tx pg rd e q7 sw))) 1 (fun _ => rfl) (ev_D_forget_B hq) ?_
  obtain ⟨q8, hq, h⟩ := Option.bind_eq_some_iff.mp h
  refine am_Ev.go 3 (st' := (7, [(0, .ref 26)], [.int 1, .int 0, .ref 26], (hp tx pg rd e q7 sw))) (fun _ => rfl) ?_
  refine am_Ev.call (o := am_run cPT cML (n0 + 2) 30 [.ref 26, .int 0, .int 1] (hp tx pg rd e q7 sw)) (kk := fun q => (10, [(0, .ref 26)], q.1.toList ++ [], q.2)) (q := (none, (hp tx pg rd e q8 sw))) 1 (fun _ => rfl) (ev_D_mark_B hq) ?_
  obtain ⟨q9, hq, h⟩ := Option.bind_eq_some_iff.mp h
  refine am_Ev.go 2 (st' := (12, [(0, .ref 26)], [.int 0, .ref 26], (hp tx pg rd e q8 sw))) (fun _ => rfl) ?_
  refine am_Ev.call (o := am_run cPT cML (n0 + 2) 21 [.ref 26, .int 0] (hp tx pg rd e q8 sw)) (kk := fun q => (15, [(0, .ref 26)], q.1.toList ++ [], q.2)) (q := (none, (hp tx pg rd e q9 sw))) 1 (fun _ => rfl) (ev_D_markAll_B hq) ?_
  obtain ⟨q10, hq, h⟩ := Option.bind_eq_some_iff.mp h
  refine am_Ev.go 2 (st' := (17, [(0, .ref 26)], [.int 1, .ref 26], (hp tx pg rd e q9 sw))) (fun _ => rfl) ?_
  refine am_Ev.call (o := am_run cPT cML (n0 + 2) 21 [.ref 26, .int 1] (hp tx pg rd e q9 sw)) (kk := fun q => (20, [(0, .ref 26)], q.1.toList ++ [], q.2)) (q := (none, (hp tx pg rd e q10 sw))) 1 (fun _ => rfl) (ev_D_markAll_B hq) ?_
  refine am_Ev.go 2 (st' := (22, [(0, .ref 26), (1, .int 0)], [], (hp tx pg rd e q10 sw))) (fun _ => rfl) ?_
  refine ev_D_arrange_22_B ?_ _ _ _ _ h
  intro d_12 res h
  try dsimp only at h
  cases h
  exact am_Ev.done 1 rfl
theorem ev_D_copyInputsAndOutputs_55_A {n0 : Nat} {tx : SB} {pg : SB} {rd : SR} {sw : Bool} {e : SD} {κ : SD → Option (SD)} (hκ : ∀ (d : SD) (res : SD), κ d = some res → am_Ev (tb_D_copyInputsAndOutputs (am_run cPT cML (n0 + 2))) (86, [], [], (hp tx pg rd d e sw)) (none, (hp tx pg rd res e sw))) : ∀ (n : Nat) (x2 : Int32) (d : SD) (res : SD), fn_D_copyInputsAndOutputs_55 e κ n x2 d = some res → am_Ev (tb_D_copyInputsAndOutputs (am_run cPT cML (n0 + 2))) (55, [(0, .ref 13), (1, .ref 26), (2, .int x2)], [], (hp tx pg rd d e sw)) (none, (hp tx pg rd res e sw)) := by
  intro n
  induction n with
  | zero => intro x2 d res h; unfold fn_D_copyInputsAndOutputs_55 at h; cases h
  | succ n ih =>
    intro x2 d res h
    unfold fn_D_copyInputsAndOutputs_55 at h
    obtain ⟨q1, hq, h⟩ := Option.bind_eq_some_iff.mp h
    refine am_Ev.go 3 (st' := (58, [(0, .ref 13), (1, .ref 26), (2, .int x2)], [.int 2, .ref 13, .int x2], (hp tx pg rd d e sw))) (fun _ => rfl) ?_
    refine am_Ev.call (o := am_run cPT cML (n0 + 2) 7 [.ref 13, .int 2] (hp tx pg rd d e sw)) (kk := fun q => (61, [(0, .ref 13), (1, .ref 26), (2, .int x2)], q.1.toList ++ [.int x2], q.2)) (q := (some (.int q1), (hp tx pg rd d e sw))) 1 (fun _ => rfl) (ev_D_many_A hq) ?_
    refine am_Ev.fork (b := decide (q1 ≤ x2)) (s1 := (86, [(0, .ref 13), (1, .ref 26), (2, .int x2)], [], (hp tx pg rd d e sw))) (s2 := (64, [(0, .ref 13), (1, .ref 26), (2, .int x2)], [], (hp tx pg rd d e sw))) 1 (fun _ => rfl) (fun hc => ?_) (fun hc => ?_)
    · have h := (am_ift hc).symm.trans h
      refine am_Ev.same (st' := (86, [], [], (hp tx pg rd d e sw))) (fun _ => rfl) ?_
      exact hκ _ _ h
    · have h := (am_iff hc).symm.trans h
      obtain ⟨q2, hq, h⟩ := Option.bind_eq_some_iff.mp h
      refine am_Ev.go 7 (st' := (71, [(0, .ref 13), (1, .ref 26), (2, .int x2)], [.int x2, .int 2, .ref 26, .ref 13, .int x2, .int 2, .ref 13], (hp tx pg rd d e sw))) (fun _ => rfl) ?_
      refine am_Ev.call (o := am_run cPT cML (n0 + 2) 10 [.ref 26, .int 2, .int x2] (hp tx pg rd d e sw)) (kk := fun q => (74, [(0, .ref 13), (1, .ref 26), (2, .int x2)], q.1.toList ++ [.ref 13, .int x2, .int 2, .ref 13], q.2)) (q := (some (.int q2), (hp tx pg rd d e sw))) 1 (fun _ => rfl) (ev_D_get_B hq) ?_
      obtain ⟨q3, hq, h⟩ := Option.bind_eq_some_iff.mp h
      refine am_Ev.call (o := am_run cPT cML (n0 + 2) 29 [.ref 13, .int q2] (hp tx pg rd d e sw)) (kk := fun q => (77, [(0, .ref 13), (1, .ref 26), (2, .int x2)], q.1.toList ++ [.int x2, .int 2, .ref 13], q.2)) (q := (some (.int q3), (hp tx pg rd d e sw))) 1 (fun _ => rfl) (ev_D_renumbered_A hq) ?_
      obtain ⟨q4, hq, h⟩ := Option.bind_eq_some_iff.mp h
      refine am_Ev.call (o := am_run cPT cML (n0 + 2) 11 [.ref 13, .int 2, .int x2, .int q3] (hp tx pg rd d e sw)) (kk := fun q => (80, [(0, .ref 13), (1, .ref 26), (2, .int x2)], q.1.toList ++ [], q.2)) (q := (none, (hp tx pg rd q4 e sw))) 1 (fun _ => rfl) (ev_D_set_A hq) ?_
      refine am_Ev.go 2 (st' := (55, [(0, .ref 13), (1, .ref 26), (2, .int (x2 + 1))], [], (hp tx pg rd q4 e sw))) (fun _ => rfl) ?_
      exact ih _ _ _ h
theorem ev_D_copyInputsAndOutputs_12_A {n0 : Nat} {tx : SB} {pg : SB} {rd : SR} {sw : Bool} {e : SD} {κ : SD → Option (SD)} (hκ : ∀ (d : SD) (res : SD), κ d = some res → am_Ev (tb_D_copyInputsAndOutputs (am_run cPT cML (n0 + 2))) (43, [(0, .ref 13), (1, .ref 26)], [], (hp tx pg rd d e sw)) (none, (hp tx pg rd res e sw))) : ∀ (n : Nat) (x2 : Int32) (d : SD) (res : SD), fn_D_copyInputsAndOutputs_12 e κ n x2 d = some res → am_Ev (tb_D_copyInputsAndOutputs (am_run cPT cML (n0 + 2))) (12, [(0, .ref 13), (1, .ref 26), (2, .int x2)], [], (hp tx pg rd d e sw)) (none, (hp tx pg rd res e sw)) := by
  intro n
  induction n with
  | zero => intro x2 d res h; unfold fn_D_copyInputsAndOutputs_12 at h; cases h
  | succ n ih =>
    intro x2 d res h
    unfold fn_D_copyInputsAndOutputs_12 at h
    obtain ⟨q5, hq, h⟩ := Option.bind_eq_some_iff.mp h
    refine am_Ev.go 3 (st' := (15, [(0, .ref 13), (1, .ref 26), (2, .int x2)], [.int 0, .ref 13, .int x2], (hp tx pg rd d e sw))) (fun _ => rfl) ?_
    refine am_Ev.call (o := am_run cPT cML (n0 + 2) 7 [.ref 13, .int 0] (hp tx pg rd d e sw)) (kk := fun q => (18, [(0, .ref 13), (1, .ref 26), (2, .int x2)], q.1.toList ++ [.int x2], q.2)) (q := (some (.int q5), (hp tx pg rd d e sw))) 1 (fun _ => rfl) (ev_D_many_A hq) ?_
    refine am_Ev.fork (b := decide (q5 ≤ x2)) (s1 := (43, [(0, .ref 13), (1, .ref 26), (2, .int x2)], [], (hp tx pg rd d e sw))) (s2 := (21, [(0, .ref 13), (1, .ref 26), (2, .int x2)], [], (hp tx pg rd d e sw))) 1 (fun _ => rfl) (fun hc => ?_) (fun hc => ?_)
    · have h := (am_ift hc).symm.trans h
      refine am_Ev.same (st' := (43, [(0, .ref 13), (1, .ref 26)], [], (hp tx pg rd d e sw))) (fun _ => rfl) ?_
      exact hκ _ _ h
    · have h := (am_iff hc).symm.trans h
      obtain ⟨q6, hq, h⟩ := Option.bind_eq_some_iff.mp h
      refine am_Ev.go 7 (st' := (28, [(0, .ref 13), (1, .ref 26), (2, .int x2)], [.int x2, .int 0, .ref 26, .ref 13, .int x2, .int 0, .ref 13], (hp tx pg rd d e sw))) (fun _ => rfl) ?_
      refine am_Ev.call (o := am_run cPT cML (n0 + 2) 10 [.ref 26, .int 0, .int x2] (hp tx pg rd d e sw)) (kk := fun q => (31, [(0, .ref 13), (1, .ref 26), (2, .int x2)], q.1.toList ++ [.ref 13, .int x2, .int 0, .ref 13], q.2)) (q := (some (.int q6), (hp tx pg rd d e sw))) 1 (fun _ => rfl) (ev_D_get_B hq) ?_
      obtain ⟨q7, hq, h⟩ := Option.bind_eq_some_iff.mp h
      refine am_Ev.call (o := am_run cPT cML (n0 + 2) 29 [.ref 13, .int q6] (hp tx pg rd d e sw)) (kk := fun q => (34, [(0, .ref 13), (1, .ref 26), (2, .int x2)], q.1.toList ++ [.int x2, .int 0, .ref 13], q.2)) (q := (some (.int q7), (hp tx pg rd d e sw))) 1 (fun _ => rfl) (ev_D_renumbered_A hq) ?_
      obtain ⟨q8, hq, h⟩ := Option.bind_eq_some_iff.mp h
      refine am_Ev.call (o := am_run cPT cML (n0 + 2) 11 [.ref 13, .int 0, .int x2, .int q7] (hp tx pg rd d e sw)) (kk := fun q => (37, [(0, .ref 13), (1, .ref 26), (2, .int x2)], q.1.toList ++ [], q.2)) (q := (none, (hp tx pg rd q8 e sw))) 1 (fun _ => rfl) (ev_D_set_A hq) ?_
      refine am_Ev.go 2 (st' := (12, [(0, .ref 13), (1, .ref 26), (2, .int (x2 + 1))], [], (hp tx pg rd q8 e sw))) (fun _ => rfl) ?_
      exact ih _ _ _ h
theorem ev_D_copyInputsAndOutputs_A {n0 : Nat} {tx : SB} {pg : SB} {rd : SR} {sw : Bool} {d : SD} {e : SD} {res : SD} (h : fn_D_copyInputsAndOutputs d e = some res) : am_run cPT cML (n0 + 3) 26 [.ref 13, .ref 26] (hp tx pg rd d e sw) = some (none, (hp tx pg rd res e sw)) := by
  refine am_run_of (d := n0 + 2) rfl ?_
  show am_Ev (tb_D_copyInputsAndOutputs (am_run cPT cML (n0 + 2))) (0, [(0, .ref 13), (1, .ref 26)], [], (hp tx pg rd d e sw)) (none, (hp tx pg rd res e sw))
  unfold fn_D_copyInputsAndOutputs at h
  obtain ⟨q9, hq, h⟩ := Option.bind_eq_some_iff.mp h
  refine am_Ev.go 4 (st' := (4, [(0, .ref 13), (1, .ref 26)], [.int 0, .ref 26, .int 0, .ref 13], (hp tx pg rd d e sw))) (fun _ => rfl) ?_
  refine am_Ev.call (o := am_run cPT cML (n0 + 2) 7 [.ref 26, .int 0] (hp tx pg rd d e sw)) (kk := fun q => (7, [(0, .ref 13), (1, .ref 26)], q.1.toList ++ [.int 0, .ref 13], q.2)) (q := (some (.int q9), (hp tx pg rd d e sw))) 1 (fun _ => rfl) (ev_D_many_B hq) ?_
  obtain ⟨q10, hq, h⟩ := Option.bind_eq_some_iff.mp h
  refine am_Ev.call (o := am_run cPT cML (n0 + 2) 8 [.ref 13, .int 0, .int q9] (hp tx pg rd d e sw)) (kk := fun q => (10, [(0, .ref 13), (1, .ref 26)], q.1.toList ++ [], q.2)) (q := (none, (hp tx pg rd q10 e sw))) 1 (fun _ => rfl) (ev_D_setMany_A hq) ?_
  refine am_Ev.go 2 (st' := (12, [(0, .ref 13), (1, .ref 26), (2, .int 0)], [], (hp tx pg rd q10 e sw))) (fun _ => rfl) ?_
  refine ev_D_copyInputsAndOutputs_12_A ?_ _ _ _ _ h
  intro d_12 res h
  try dsimp only at h
  obtain ⟨q12, hq, h⟩ := Option.bind_eq_some_iff.mp h
  refine am_Ev.go 4 (st' := (47, [(0, .ref 13), (1, .ref 26)], [.int 2, .ref 26, .int 2, .ref 13], (hp tx pg rd d_12 e sw))) (fun _ => rfl) ?_
  refine am_Ev.call (o := am_run cPT cML (n0 + 2) 7 [.ref 26, .int 2] (hp tx pg rd d_12 e sw)) (kk := fun q => (50, [(0, .ref 13), (1, .ref 26)], q.1.toList ++ [.int 2, .ref 13], q.2)) (q := (some (.int q12), (hp tx pg rd d_12 e sw))) 1 (fun _ => rfl) (ev_D_many_B hq) ?_
  obtain ⟨q13, hq, h⟩ := Option.bind_eq_some_iff.mp h
  refine am_Ev.call (o := am_run cPT cML (n0 + 2) 8 [.ref 13, .int 2, .int q12] (hp tx pg rd d_12 e sw)) (kk := fun q => (53, [(0, .ref 13), (1, .ref 26)], q.1.toList ++ [], q.2)) (q := (none, (hp tx pg rd q13 e sw))) 1 (fun _ => rfl) (ev_D_setMany_A hq) ?_
  refine am_Ev.go 2 (st' := (55, [(0, .ref 13), (1, .ref 26), (2, .int 0)], [], (hp tx pg rd q13 e sw))) (fun _ => rfl) ?_
  refine ev_D_copyInputsAndOutputs_55_A ?_ _ _ _ _ h
  intro d_15 res h
  try dsimp only at h
  cases h
  exact am_Ev.done 1 rfl
theorem ev_D_copyInputsAndOutputs_55_B {n0 : Nat} {tx : SB} {pg : SB} {rd : SR} {sw : Bool} {e : SD} {κ : SD → Option (SD)} (hκ : ∀ (d : SD) (res : SD), κ d = some res → am_Ev (tb_D_copyInputsAndOutputs (am_run cPT cML (n0 + 2))) (86, [], [], (hp tx pg rd e d sw)) (none, (hp tx pg rd e res sw))) : ∀ (n : Nat) (x2 : Int32) (d : SD) (res : SD), fn_D_copyInputsAndOutputs_55 e κ n x2 d = some res → am_Ev (tb_D_copyInputsAndOutputs (am_run cPT cML (n0 + 2))) (55, [(0, .ref 26), (1, .ref 13), (2, .int x2)], [], (hp tx pg rd e d sw)) (none, (hp tx pg rd e res sw)) := by
  intro n
  induction n with
  | zero => intro x2 d res h; unfold fn_D_copyInputsAndOutputs_55 at h; cases h
  | succ n ih =>
    intro x2 d res h
    unfold fn_D_copyInputsAndOutputs_55 at h
    obtain ⟨q1, hq, h⟩ := Option.bind_eq_some_iff.mp h
    refine am_Ev.go 3 (st' := (58, [(0, .ref 26), (1, .ref 13), (2, .int x2)], [.int 2, .ref 26, .int x2], (hp tx pg rd e d sw))) (fun _ => rfl) ?_
    refine am_Ev.call (o := am_run cPT cML (n0 + 2) 7 [.ref 26, .int 2] (hp tx pg rd e d sw)) (kk := fun q => (61, [(0, .ref 26), (1, .ref 13), (2, .int x2)], q.1.toList ++ [.int x2], q.2)) (q := (some (.int q1), (hp tx pg rd e d sw))) 1 (fun _ => rfl) (ev_D_many_B hq) ?_
    refine am_Ev.fork (b := decide (q1 ≤ x2)) (s1 := (86, [(0, .ref 26), (1, .ref 13), (2, .int x2)], [], (hp tx pg rd e d sw))) (s2 := (64, [(0, .ref 26), (1, .ref 13), (2, .int x2)], [], (hp tx pg rd e d sw))) 1 (fun _ => rfl) (fun hc => ?_) (fun hc => ?_)
    · have h := (am_ift hc).symm.trans h
      refine am_Ev.same (st' := (86, [], [], (hp tx pg rd e d sw))) (fun _ => rfl) ?_
      exact hκ _ _ h
    · have h := (am_iff hc).symm.trans h
      obtain ⟨q2, hq, h⟩ := Option.bind_eq_some_iff.mp h
      refine am_Ev.go 7 (st' := (71, [(0, .ref 26), (1, .ref 13), (2, .int x2)], [.int x2, .int 2, .ref 13, .ref 26, .int x2, .int 2, .ref 26], (hp tx pg rd e d sw))) (fun _ => rfl) ?_
      refine am_Ev.call (o := am_run cPT cML (n0 + 2) 10 [.ref 13, .int 2, .int x2] (hp tx pg rd e d sw)) (kk := fun q => (74, [(0, .ref 26), (1, .ref 13), (2, .int x2)], q.1.toList ++ [.ref 26, .int x2, .int 2, .ref 26], q.2)) (q := (some (.int q2), (hp tx pg rd e d sw))) 1 (fun _ => rfl) (ev_D_get_A hq) ?_
      obtain ⟨q3, hq, h⟩ := Option.bind_eq_some_iff.mp h
      refine am_Ev.call (o := am_run cPT cML (n0 + 2) 29 [.ref 26, .int q2] (hp tx pg rd e d sw)) (kk := fun q => (77, [(0, .ref 26), (1, .ref 13), (2, .int x2)], q.1.toList ++ [.int x2, .int 2, .ref 26], q.2)) (q := (some (.int q3), (hp tx pg rd e d sw))) 1 (fun _ => rfl) (ev_D_renumbered_B hq) ?_
      obtain ⟨q4, hq, h⟩ := Option.bind_eq_some_iff.mp h
      refine am_Ev.call (o := am_run cPT cML (n0 + 2) 11 [.ref 26, .int 2, .int x2, .int q3] (hp tx pg rd e d sw)) (kk := fun q => (80, [(0, .ref 26), (1, .ref 13), (2, .int x2)], q.1.toList ++ [], q.2)) (q := (none, (hp tx pg rd e q4 sw))) 1 (fun _ => rfl) (ev_D_set_B hq) ?_
      refine am_Ev.go 2 (st' := (55, [(0, .ref 26), (1, .ref 13), (2, .int (x2 + 1))], [], (hp tx pg rd e q4 sw))) (fun _ => rfl) ?_
      exact ih _ _ _ h
theorem ev_D_copyInputsAndOutputs_12_B {n0 : Nat} {tx : SB} {pg : SB} {rd : SR} {sw : Bool} {e : SD} {κ : SD → Option (SD)} (hκ : ∀ (d : SD) (res : SD), κ d = some res → am_Ev (tb_D_copyInputsAndOutputs (am_run cPT cML (n0 + 2))) (43, [(0, .ref 26), (1, .ref 13)], [], (hp tx pg rd e d sw)) (none, (hp tx pg rd e res sw))) : ∀ (n : Nat) (x2 : Int32) (d : SD) (res : SD), fn_D_copyInputsAndOutputs_12 e κ n x2 d = some res → am_Ev (tb_D_copyInputsAndOutputs (am_run cPT cML (n0 + 2))) (12, [(0, .ref 26), (1, .ref 13), (2, .int x2)], [], (hp tx pg rd e d sw)) (none, (hp tx pg rd e res sw)) := by
  intro n
  induction n with
  | zero => intro x2 d res h; unfold fn_D_copyInputsAndOutputs_12 at h; cases h
  | succ n ih =>
    intro x2 d res h
    unfold fn_D_copyInputsAndOutputs_12 at h
    obtain ⟨q5, hq, h⟩ := Option.bind_eq_some_iff.mp h
    refine am_Ev.go 3 (st' := (15, [(0, .ref 26), (1, .ref 13), (2, .int x2)], [.int 0, .ref 26, .int x2], (hp tx pg rd e d sw))) (fun _ => rfl) ?_
    refine am_Ev.call (o := am_run cPT cML (n0 + 2) 7 [.ref 26, .int 0] (hp tx pg rd e d sw)) (kk := fun q => (18, [(0, .ref 26), (1, .ref 13), (2, .int x2)], q.1.toList ++ [.int x2], q.2)) (q := (some (.int q5), (hp tx pg rd e d sw))) 1 (fun _ => rfl) (ev_D_many_B hq) ?_
    refine am_Ev.fork (b := decide (q5 ≤ x2)) (s1 := (43, [(0, .ref 26), (1, .ref 13), (2, .int x2)], [], (hp tx pg rd e d sw))) (s2 := (21, [(0, .ref 26), (1, .ref 13), (2, .int x2)], [], (hp tx pg rd e d sw))) 1 (fun _ => rfl) (fun hc => ?_) (fun hc => ?_)
    · have h := (am_ift hc).symm.trans h
      refine am_Ev.same (st' := (43, [(0, .ref 26), (1, .ref 13)], [], (hp tx pg rd e d sw))) (fun _ => rfl) ?_
      exact hκ _ _ h
    · have h := (am_iff hc).symm.trans h
      obtain ⟨q6, hq, h⟩ := Option.bind_eq_some_iff.mp h
      refine am_Ev.go 7 (st' := (28, [(0, .ref 26), (1, .ref 13), (2, .int x2)], [.int x2, .int 0, .ref 13, .ref 26, .int x2, .int 0, .ref 26], (hp tx pg rd e d sw))) (fun _ => rfl) ?_
      refine am_Ev.call (o := am_run cPT cML (n0 + 2) 10 [.ref 13, .int 0, .int x2] (hp tx pg rd e d sw)) (kk := fun q => (31, [(0, .ref 26), (1, .ref 13), (2, .int x2)], q.1.toList ++ [.ref 26, .int x2, .int 0, .ref 26], q.2)) (q := (some (.int q6), (hp tx pg rd e d sw))) 1 (fun _ => rfl) (ev_D_get_A hq) ?_
      obtain ⟨q7, hq, h⟩ := Option.bind_eq_some_iff.mp h
      refine am_Ev.call (o := am_run cPT cML (n0 + 2) 29 [.ref 26, .int q6] (hp tx pg rd e d sw)) (kk := fun q => (34, [(0, .ref 26), (1, .ref 13), (2, .int x2)], q.1.toList ++ [.int x2, .int 0, .ref 26], q.2)) (q := (some (.int q7), (hp tx pg rd e d sw))) 1 (fun _ => rfl) (ev_D_renumbered_B hq) ?_
      obtain ⟨q8, hq, h⟩ := Option.bind_eq_some_iff.mp h
      refine am_Ev.call (o := am_run cPT cML (n0 + 2) 11 [.ref 26, .int 0, .int x2, .int q7] (hp tx pg rd e d sw)) (kk := fun q => (37, [(0, .ref 26), (1, .ref 13), (2, .int x2)], q.1.toList ++ [], q.2)) (q := (none, (hp tx pg rd e q8 sw))) 1 (fun _ => rfl) (ev_D_set_B hq) ?_
      refine am_Ev.go 2 (st' := (12, [(0, .ref 26), (1, .ref 13), (2, .int (x2 + 1))], [], (hp tx pg rd e q8 sw))) (fun _ => rfl) ?_
      exact ih _ _ _ h
theorem ev_D_copyInputsAndOutputs_B {n0 : Nat} {tx : SB} {pg : SB} {rd : SR} {sw : Bool} {d : SD} {e : SD} {res : SD} (h : fn_D_copyInputsAndOutputs d e = some res) : am_run cPT cML (n0 + 3) 26 [.ref 26, .ref 13] (hp tx pg rd e d sw) = some (none, (hp tx pg rd e res sw)) := by
  refine am_run_of (d := n0 + 2) rfl ?_
  show am_Ev (tb_D_copyInputsAndOutputs (am_run cPT cML (n0 + 2))) (0, [(0, .ref 26), (1, .ref 13)], [], (hp tx pg rd e d sw)) (none, (hp tx pg rd e res sw))
  unfold fn_D_copyInputsAndOutputs at h
  obtain ⟨q9, hq, h⟩ := Option.bind_eq_some_iff.mp h
  refine am_Ev.go 4 (st' := (4, [(0, .ref 26), (1, .ref 13)], [.int 0, .ref 13, .int 0, .ref 26], (hp tx pg rd e d sw))) (fun _ => rfl) ?_
  refine am_Ev.call (o := am_run cPT cML (n0 + 2) 7 [.ref 13, .int 0] (hp tx pg rd e d sw)) (kk := fun q => (7, [(0, .ref 26), (1, .ref 13)], q.1.toList ++ [.int 0, .ref 26], q.2)) (q := (some (.int q9), (hp tx pg rd e d sw))) 1 (fun _ => rfl) (ev_D_many_A hq) ?_
  obtain ⟨q10, hq, h⟩ := Option.bind_eq_some_iff.mp h
  refine am_Ev.call (o := am_run cPT cML (n0 + 2) 8 [.ref 26, .int 0, .int q9] (hp tx pg rd e d sw)) (kk := fun q => (10, [(0, .ref 26), (1, .ref 13)], q.1.toList ++ [], q.2)) (q := (none, (hp tx pg rd e q10 sw))) 1 (fun _ => rfl) (ev_D_setMany_B hq) ?_
  refine am_Ev.go 2 (st' := (12, [(0, .ref 26), (1, .ref 13), (2, .int 0)], [], (hp tx pg rd e q10 sw))) (fun _ => rfl) ?_
  refine ev_D_copyInputsAndOutputs_12_B ?_ _ _ _ _ h
  intro d_12 res h
  try dsimp only at h
  obtain ⟨q12, hq, h⟩ := Option.bind_eq_some_iff.mp h
  refine am_Ev.go 4 (st' := (47, [(0, .ref 26), (1, .ref 13)], [.int 2, .ref 13, .int 2, .ref 26], (hp tx pg rd e d_12 sw))) (fun _ => rfl) ?_
  refine am_Ev.call (o := am_run cPT cML (n0 + 2) 7 [.ref 13, .int 2] (hp tx pg rd e d_12 sw)) (kk := fun q => (50, [(0, .ref 26), (1, .ref 13)], q.1.toList ++ [.int 2, .ref 26], q.2)) (q := (some (.int q12), (hp tx pg rd e d_12 sw))) 1 (fun _ => rfl) (ev_D_many_A hq) ?_
  obtain ⟨q13, hq, h⟩ := Option.bind_eq_some_iff.mp h
  refine am_Ev.call (o := am_run cPT cML (n0 + 2) 8 [.ref 26, .int 2, .int q12] (hp tx pg rd e d_12 sw)) (kk := fun q => (53, [(0, .ref 26), (1, .ref 13)], q.1.toList ++ [], q.2)) (q := (none, (hp tx pg rd e q13 sw))) 1 (fun _ => rfl) (ev_D_setMany_B hq) ?_
  refine am_Ev.go 2 (st' := (55, [(0, .ref 26), (1, .ref 13), (2, .int 0)], [], (hp tx pg rd e q13 sw))) (fun _ => rfl) ?_
  refine ev_D_copyInputsAndOutputs_55_B ?_ _ _ _ _ h
  intro d_15 res h
  try dsimp only at h
  cases h
  exact am_Ev.done 1 rfl
theorem ev_D_copyLatches_12_A {n0 : Nat} {tx : SB} {pg : SB} {rd : SR} {sw : Bool} {e : SD} {κ : SD → Option (SD)} (hκ : ∀ (d : SD) (res : SD), κ d = some res → am_Ev (tb_D_copyLatches (am_run cPT cML (n0 + 2))) (71, [], [], (hp tx pg rd d e sw)) (none, (hp tx pg rd res e sw))) : ∀ (n : Nat) (x2 : Int32) (d : SD) (res : SD), fn_D_copyLatches_12 e κ n x2 d = some res → am_Ev (tb_D_copyLatches (am_run cPT cML (n0 + 2))) (12, [(0, .ref 13), (1, .ref 26), (2, .int x2)], [], (hp tx pg rd d e sw)) (none, (hp tx pg rd res e sw)) := by
  intro n
  induction n with
  | zero => intro x2 d res h; unfold fn_D_copyLatches_12 at h; cases h
  | succ n ih =>
    intro x2 d res h
    unfold fn_D_copyLatches_12 at h
    obtain ⟨q1, hq, h⟩ := Option.bind_eq_some_iff.mp h
    refine am_Ev.go 3 (st' := (15, [(0, .ref 13), (1, .ref 26), (2, .int x2)], [.int 1, .ref 13, .int x2], (hp tx pg rd d e sw))) (fun _ => rfl) ?_
    refine am_Ev.call (o := am_run cPT cML (n0 + 2) 7 [.ref 13, .int 1] (hp tx pg rd d e sw)) (kk := fun q => (18, [(0, .ref 13), (1, .ref 26), (2, .int x2)], q.1.toList ++ [.int x2], q.2)) (q := (some (.int q1), (hp tx pg rd d e sw))) 1 (fun _ => rfl) (ev_D_many_A hq) ?_
    refine am_Ev.fork (b := decide (q1 ≤ x2)) (s1 := (71, [(0, .ref 13), (1, .ref 26), (2, .int x2)], [], (hp tx pg rd d e sw))) (s2 := (21, [(0, .ref 13), (1, .ref 26), (2, .int x2)], [], (hp tx pg rd d e sw))) 1 (fun _ => rfl) (fun hc => ?_) (fun hc => ?_)
    · have h := (am_ift hc).symm.trans h
      refine am_Ev.same (st' := (71, [], [], (hp tx pg rd d e sw))) (fun _ => rfl) ?_
      exact hκ _ _ h
    · have h := (am_iff hc).symm.trans h
      obtain ⟨q2, hq, h⟩ := Option.bind_eq_some_iff.mp h
      refine am_Ev.go 7 (st' := (28, [(0, .ref 13), (1, .ref 26), (2, .int x2)], [.int x2, .int 1, .ref 26, .ref 13, .int x2, .int 1, .ref 13], (hp tx pg rd d e sw))) (fun _ => rfl) ?_
      refine am_Ev.call (o := am_run cPT cML (n0 + 2) 10 [.ref 26, .int 1, .int x2] (hp tx pg rd d e sw)) (kk := fun q => (31, [(0, .ref 13), (1, .ref 26), (2, .int x2)], q.1.toList ++ [.ref 13, .int x2, .int 1, .ref 13], q.2)) (q := (some (.int q2), (hp tx pg rd d e sw))) 1 (fun _ => rfl) (ev_D_get_B hq) ?_
      obtain ⟨q3, hq, h⟩ := Option.bind_eq_some_iff.mp h
      refine am_Ev.call (o := am_run cPT cML (n0 + 2) 29 [.ref 13, .int q2] (hp tx pg rd d e sw)) (kk := fun q => (34, [(0, .ref 13), (1, .ref 26), (2, .int x2)], q.1.toList ++ [.int x2, .int 1, .ref 13], q.2)) (q := (some (.int q3), (hp tx pg rd d e sw))) 1 (fun _ => rfl) (ev_D_renumbered_A hq) ?_
      obtain ⟨q4, hq, h⟩ := Option.bind_eq_some_iff.mp h
      refine am_Ev.call (o := am_run cPT cML (n0 + 2) 11 [.ref 13, .int 1, .int x2, .int q3] (hp tx pg rd d e sw)) (kk := fun q => (37, [(0, .ref 13), (1, .ref 26), (2, .int x2)], q.1.toList ++ [], q.2)) (q := (none, (hp tx pg rd q4 e sw))) 1 (fun _ => rfl) (ev_D_set_A hq) ?_
      obtain ⟨q5, hq, h⟩ := Option.bind_eq_some_iff.mp h
      refine am_Ev.go 7 (st' := (44, [(0, .ref 13), (1, .ref 26), (2, .int x2)], [.int x2, .int 4, .ref 26, .ref 13, .int x2, .int 4, .ref 13], (hp tx pg rd q4 e sw))) (fun _ => rfl) ?_
      refine am_Ev.call (o := am_run cPT cML (n0 + 2) 10 [.ref 26, .int 4, .int x2] (hp tx pg rd q4 e sw)) (kk := fun q => (47, [(0, .ref 13), (1, .ref 26), (2, .int x2)], q.1.toList ++ [.ref 13, .int x2, .int 4, .ref 13], q.2)) (q := (some (.int q5), (hp tx pg rd q4 e sw))) 1 (fun _ => rfl) (ev_D_get_B hq) ?_
      obtain ⟨q6, hq, h⟩ := Option.bind_eq_some_iff.mp h
      refine am_Ev.call (o := am_run cPT cML (n0 + 2) 29 [.ref 13, .int q5] (hp tx pg rd q4 e sw)) (kk := fun q => (50, [(0, .ref 13), (1, .ref 26), (2, .int x2)], q.1.toList ++ [.int x2, .int 4, .ref 13], q.2)) (q := (some (.int q6), (hp tx pg rd q4 e sw))) 1 (fun _ => rfl) (ev_D_renumbered_A hq) ?_
      obtain ⟨q7, hq, h⟩ := Option.bind_eq_some_iff.mp h
      refine am_Ev.call (o := am_run cPT cML (n0 + 2) 11 [.ref 13, .int 4, .int x2, .int q6] (hp tx pg rd q4 e sw)) (kk := fun q => (53, [(0, .ref 13), (1, .ref 26), (2, .int x2)], q.1.toList ++ [], q.2)) (q := (none, (hp tx pg rd q7 e sw))) 1 (fun _ => rfl) (ev_D_set_A hq) ?_
      obtain ⟨q8, hq, h⟩ := Option.bind_eq_some_iff.mp h
      refine am_Ev.go 6 (st' := (59, [(0, .ref 13), (1, .ref 26), (2, .int x2)], [.int x2, .int 5, .ref 26, .int x2, .int 5, .ref 13], (hp tx pg rd q7 e sw))) (fun _ => rfl) ?_
      refine am_Ev.call (o := am_run cPT cML (n0 + 2) 10 [.ref 26, .int 5, .int x2] (hp tx pg rd q7 e sw)) (kk := fun q => (62, [(0, .ref 13), (1, .ref 26), (2, .int x2)], q.1.toList ++ [.int x2, .int 5, .ref 13], q.2)) (q := (some (.int q8), (hp tx pg rd q7 e sw))) 1 (fun _ => rfl) (ev_D_get_B hq) ?_
      obtain ⟨q9, hq, h⟩ := Option.bind_eq_some_iff.mp h
      refine am_Ev.call (o := am_run cPT cML (n0 + 2) 11 [.ref 13, .int 5, .int x2, .int q8] (hp tx pg rd q7 e sw)) (kk := fun q => (65, [(0, .ref 13), (1, .ref 26), (2, .int x2)], q.1.toList ++ [], q.2)) (q := (none, (hp tx pg rd q9 e sw))) 1 (fun _ => rfl) (ev_D_set_A hq) ?_
      refine am_Ev.go 2 (st' := (12, [(0, .ref 13), (1, .ref 26), (2, .int (x2 + 1))], [], (hp tx pg rd q9 e sw))) (fun _ => rfl) ?_
      exact ih _ _ _ h
theorem ev_D_copyLatches_A {n0 : Nat} {tx : SB} {pg : SB} {rd : SR} {sw : Bool} {d : SD} {e : SD} {res : SD} (h : fn_D_copyLatches d e = some res) : am_run cPT cML (n0 + 3) 27 [.ref 13, .ref 26] (hp tx pg rd d e sw) = some (none, (hp tx pg rd res e sw)) := by
  refine am_run_of (d := n0 + 2) rfl ?_
  show am_Ev (tb_D_copyLatches (am_run cPT cML (n0 + 2))) (0, [(0, .ref 13), (1, .ref 26)], [], (hp tx pg rd d e sw)) (none, (hp tx pg rd res e sw))
  unfold fn_D_copyLatches at h
  obtain ⟨q10, hq, h⟩ := Option.bind_eq_some_iff.mp h
  refine am_Ev.go 4 (st' := (4, [(0, .ref 13), (1, .ref 26)], [.int 1, .ref 26, .int 1, .ref 13], (hp tx pg rd d e sw))) (fun _ => rfl) ?_
  refine am_Ev.call (o := am_run cPT cML (n0 + 2) 7 [.ref 26, .int 1] (hp tx pg rd d e sw)) (kk := fun q => (7, [(0, .ref 13), (1, .ref 26)], q.1.toList ++ [.int 1, .ref 13], q.2)) (q := (some (.int q10), (hp tx pg rd d e sw))) 1 (fun _ => rfl) (ev_D_many_B hq) ?_
  obtain ⟨q11, hq, h⟩ := Option.bind_eq_some_iff.mp h
  refine am_Ev.call (o := am_run cPT cML (n0 + 2) 8 [.ref 13, .int 1, .int q10] (hp tx pg rd d e sw)) (kk := fun q => (10, [(0, .ref 13), (1, .ref 26)], q.1.toList ++ [], q.2)) (q := (none, (hp tx pg rd q11 e sw))) 1 (fun _ => rfl) (ev_D_setMany_A hq) ?_
  refine am_Ev.go 2 (st' := (12, [(0, .ref 13), (1, .ref 26), (2, .int 0)], [], (hp tx pg rd q11 e sw))) (fun _ => rfl) ?_
  refine ev_D_copyLatches_12_A ?_ _ _ _ _ h
  intro d_13 res h
  try dsimp only at h
  cases h
  exact am_Ev.done 1 rfl
theorem ev_D_copyLatches_12_B {n0 : Nat} {tx : SB} {pg : SB} {rd : SR} {sw : Bool} {e : SD} {κ : SD → Option (SD)} (hκ : ∀ (d : SD) (res : SD), κ d = some res → am_Ev (tb_D_copyLatches (am_run cPT cML (n0 + 2))) (71, [], [], (hp tx pg rd e d sw)) (none, (hp tx pg rd e res sw))) : ∀ (n : Nat) (x2 : Int32) (d : SD) (res : SD), fn_D_copyLatches_12 e κ n x2 d = some res → am_Ev (tb_D_copyLatches (am_run cPT cML (n0 + 2))) (12, [(0, .ref 26), (1, .ref 13), (2, .int x2)], [], (hp tx pg rd e d sw)) (none, (hp tx pg rd e res sw)) := by
  intro n
  induction n with
  | zero => intro x2 d res h; unfold fn_D_copyLatches_12 at h; cases h
  | succ n ih =>
    intro x2 d res h
    unfold fn_D_copyLatches_12 at h
    obtain ⟨q1, hq, h⟩ := Option.bind_eq_some_iff.mp h
    refine am_Ev.go 3 (st' := (15, [(0, .ref 26), (1, .ref 13), (2, .int x2)], [.int 1, .ref 26, .int x2], (hp tx pg rd e d sw))) (fun _ => rfl) ?_
    refine am_Ev.call (o := am_run cPT cML (n0 + 2) 7 [.ref 26, .int 1] (hp tx pg rd e d sw)) (kk := fun q => (18, [(0, .ref 26), (1, .ref 13), (2, .int x2)], q.1.toList ++ [.int x2], q.2)) (q := (some (.int q1), (hp tx pg rd e d sw))) 1 (fun _ => rfl) (ev_D_many_B hq) ?_
    refine am_Ev.fork (b := decide (q1 ≤ x2)) (s1 := (71, [(0, .ref 26), (1, .ref 13), (2, .int x2)], [], (hp tx pg rd e d sw))) (s2 := (21, [(0, .ref 26), (1, .ref 13), (2, .int x2)], [], (hp tx pg rd e d sw))) 1 (fun _ => rfl) (fun hc => ?_) (fun hc => ?_)
    · have h := (am_ift hc).symm.trans h
      refine am_Ev.same (st' := (71, [], [], (hp tx pg rd e d sw))) (fun _ => rfl) ?_
      exact hκ _ _ h
    · have h := (am_iff hc).symm.trans h
      obtain ⟨q2, hq, h⟩ := Option.bind_eq_some_iff.mp h
      refine am_Ev.go 7 (st' := (28, [(0, .ref 26), (1, .ref 13), (2, .int x2)], [.int x2, .int 1, .ref 13, .ref 26, .int x2, .int 1, .ref 26], (hp tx pg rd e d sw))) (fun _ => rfl) ?_
      refine am_Ev.call (o := am_run cPT cML (n0 + 2) 10 [.ref 13, .int 1, .int x2] (hp tx pg rd e d sw)) (kk := fun q => (31, [(0, .ref 26), (1, .ref 13), (2, .int x2)], q.1.toList ++ [.ref 26, .int x2, .int 1, .ref 26], q.2)) (q := (some (.int q2), (hp tx pg rd e d sw))) 1 (fun _ => rfl) (ev_D_get_A hq) ?_
      obtain ⟨q3, hq, h⟩ := Option.bind_eq_some_iff.mp h
      refine am_Ev.call (o := am_run cPT cML (n0 + 2) 29 [.ref 26, .int q2] (hp tx pg rd e d sw)) (kk := fun q => (34, [(0, .ref 26), (1, .ref 13), (2, .int x2)], q.1.toList ++ [.int x2, .int 1, .ref 26], q.2)) (q := (some (.int q3), (hp tx pg rd e d sw))) 1 (fun _ => rfl) (ev_D_renumbered_B hq) ?_
      obtain ⟨q4, hq, h⟩ := Option.bind_eq_some_iff.mp h
      refine am_Ev.call (o := am_run cPT cML (n0 + 2) 11 [.ref 26, .int 1, .int x2, .int q3] (hp tx pg rd e d sw)) (kk := fun q => (37, [(0, .ref 26), (1, .ref 13), (2, .int x2)], q.1.toList ++ [], q.2)) (q := (none, (hp tx pg rd e q4 sw))) 1 (fun _ => rfl) (ev_D_set_B hq) ?_
      obtain ⟨q5, hq, h⟩ := Option.bind_eq_some_iff.mp h
      refine am_Ev.go 7 (st' := (44, [(0, .ref 26), (1, .ref 13), (2, .int x2)], [.int x2, .int 4, .ref 13, .ref 26, .int x2, .int 4, .ref 26], (hp tx pg rd e q4 sw))) (fun _ => rfl) ?_
      refine am_Ev.call (o := am_run cPT cML (n0 + 2) 10 [.ref 13, .int 4, .int x2] (hp tx pg rd e q4 sw)) (kk := fun q => (47, [(0, .ref 26), (1, .ref 13), (2, .int x2)], q.1.toList ++ [.ref 26, .int x2, .int 4, .ref 26], q.2)) (q := (some (.int q5), (hp tx pg rd e q4 sw))) 1 (fun _ => rfl) (ev_D_get_A hq) ?_
      obtain ⟨q6, hq, h⟩ := Option.bind_eq_some_iff.mp h
      refine am_Ev.call (o := am_run cPT cML (n0 + 2) 29 [.ref 26, .int q5] (hp tx pg rd e q4 sw)) (kk := fun q => (50, [(0, .ref 26), (1, .ref 13), (2, .int x2)], q.1.toList ++ [.int x2, .int 4, .ref 26], q.2)) (q := (some (.int q6), (hp tx pg rd e q4 sw))) 1 (fun _ => rfl) (ev_D_renumbered_B hq) ?_
      obtain ⟨q7, hq, h⟩ := Option.bind_eq_some_iff.mp h
      refine am_Ev.call (o := am_run cPT cML (n0 + 2) 11 [.ref 26, .int 4, .int x2, .int q6] (hp tx pg rd e q4 sw)) (kk := fun q => (53, [(0, .ref 26), (1, .ref 13), (2, .int x2)], q.1.toList ++ [], q.2)) (q := (none, (hp tx pg rd e q7 sw))) 1 (fun _ => rfl) (ev_D_set_B hq) ?_
      obtain ⟨q8, hq, h⟩ := Option.bind_eq_some_iff.mp h
      refine am_Ev.go 6 (st' := (59, [(0, .ref 26), (1, .ref 13), (2, .int x2)], [.int x2, .int 5, .ref 13, .int x2, .int 5, .ref 26], (hp tx pg rd e q7 sw))) (fun _ => rfl) ?_
      refine am_Ev.call (o := am_run cPT cML (n0 + 2) 10 [.ref 13, .int 5, .int x2] (hp tx pg rd e q7 sw)) (kk := fun q => (62, [(0, .ref 26), (1, .ref 13), (2, .int x2)], q.1.toList ++ [.int x2, .int 5, .ref 26], q.2)) (q := (some (.int q8), (hp tx pg rd e q7 sw))) 1 (fun _ => rfl) (ev_D_get_A hq) ?_
      obtain ⟨q9, hq, h⟩ := Option.bind_eq_some_iff.mp h
      refine am_Ev.call (o := am_run cPT cML (n0 + 2) 11 [.ref 26, .int 5, .int x2, .int q8] (hp tx pg rd e q7 sw)) (kk := fun q => (65, [(0, .ref 26), (1, .ref 13), (2, .int x2)], q.1.toList ++ [], q.2)) (q := (none, (hp tx pg rd e q9 sw))) 1 (fun _ => rfl) (ev_D_set_B hq) ?_
      refine am_Ev.go 2 (st' := (12, [(0, .ref 26), (1, .ref 13), (2, .int (x2 + 1))], [], (hp tx pg rd e q9 sw))) (fun _ => rfl) ?_
      exact ih _ _ _ h
theorem ev_D_copyLatches_B {n0 : Nat} {tx : SB} {pg : SB} {rd : SR} {sw : Bool} {d : SD} {e : SD} {res : SD} (h : fn_D_copyLatches d e = some res) : am_run cPT cML (n0 + 3) 27 [.ref 26, .ref 13] (hp tx pg rd e d sw) = some (none, (hp tx pg rd e res sw)) := by
  refine am_run_of (d := n0 + 2) rfl ?_
  show am_Ev (tb_D_copyLatches (am_run cPT cML (n0 + 2))) (0, [(0, .ref 26), (1, .ref 13)], [], (hp tx pg rd e d sw)) (none, (hp tx pg rd e res sw))
  unfold fn_D_copyLatches at h
  obtain ⟨q10, hq, h⟩ := Option.bind_eq_some_iff.mp h
  refine am_Ev.go 4 (st' := (4, [(0, .ref 26), (1, .ref 13)], [.int 1, .ref 13, .int 1, .ref 26], (hp tx pg rd e d sw))) (fun _ => rfl) ?_
  refine am_Ev.call (o := am_run cPT cML (n0 + 2) 7 [.ref 13, .int 1] (hp tx pg rd e d sw)) (kk := fun q => (7, [(0, .ref 26), (1, .ref 13)], q.1.toList ++ [.int 1, .ref 26], q.2)) (q := (some (.int q10), (hp tx pg rd e d sw))) 1 (fun _ => rfl) (ev_D_many_A hq) ?_
  obtain ⟨q11, hq, h⟩ := Option.bind_eq_some_iff.mp h
  refine am_Ev.call (o := am_run cPT cML (n0 + 2) 8 [.ref 26, .int 1, .int q10] (hp tx pg rd e d sw)) (kk := fun q => (10, [(0, .ref 26), (1, .ref 13)], q.1.toList ++ [], q.2)) (q := (none, (hp tx pg rd e q11 sw))) 1 (fun _ => rfl) (ev_D_setMany_B hq) ?_
  refine am_Ev.go 2 (st' := (12, [(0, .ref 26), (1, .ref 13), (2, .int 0)], [], (hp tx pg rd e q11 sw))) (fun _ => rfl) ?_
  refine ev_D_copyLatches_12_B ?_ _ _ _ _ h
  intro d_13 res h
  try dsimp only at h
  cases h
  exact am_Ev.done 1 rfl
theorem ev_D_copyGates_12_A {n0 : Nat} {tx : SB} {pg : SB} {rd : SR} {sw : Bool} {e : SD} {κ : SD → Option (SD)} (hκ : ∀ (d : SD) (res : SD), κ d = some res → am_Ev (tb_D_copyGates (am_run cPT cML (n0 + 2))) (103, [], [], (hp tx pg rd d e sw)) (none, (hp tx pg rd res e sw))) : ∀ (n : Nat) (x2 : Int32) (d : SD) (res : SD), fn_D_copyGates_12 e κ n x2 d = some res → am_Ev (tb_D_copyGates (am_run cPT cML (n0 + 2))) (12, [(0, .ref 13), (1, .ref 26), (2, .int x2)], [], (hp tx pg rd d e sw)) (none, (hp tx pg rd res e sw)) := by
  intro n
  induction n with
  | zero => intro x2 d res h; unfold fn_D_copyGates_12 at h; cases h
  | succ n ih =>
    intro x2 d res h
    unfold fn_D_copyGates_12 at h
    obtain ⟨q1, hq, h⟩ := Option.bind_eq_some_iff.mp h
    refine am_Ev.go 3 (st' := (15, [(0, .ref 13), (1, .ref 26), (2, .int x2)], [.int 3, .ref 13, .int x2], (hp tx pg rd d e sw))) (fun _ => rfl) ?_
    refine am_Ev.call (o := am_run cPT cML (n0 + 2) 7 [.ref 13, .int 3] (hp tx pg rd d e sw)) (kk := fun q => (18, [(0, .ref 13), (1, .ref 26), (2, .int x2)], q.1.toList ++ [.int x2], q.2)) (q := (some (.int q1), (hp tx pg rd d e sw))) 1 (fun _ => rfl) (ev_D_many_A hq) ?_
    refine am_Ev.fork (b := decide (q1 ≤ x2)) (s1 := (103, [(0, .ref 13), (1, .ref 26), (2, .int x2)], [], (hp tx pg rd d e sw))) (s2 := (21, [(0, .ref 13), (1, .ref 26), (2, .int x2)], [], (hp tx pg rd d e sw))) 1 (fun _ => rfl) (fun hc => ?_) (fun hc => ?_)
    · have h := (am_ift hc).symm.trans h
      refine am_Ev.same (st' := (103, [], [], (hp tx pg rd d e sw))) (fun _ => rfl) ?_
      exact hκ _ _ h
    · have h := (am_iff hc).symm.trans h
      obtain ⟨q2, hq, h⟩ := Option.bind_eq_some_iff.mp h
      refine am_Ev.go 2 (st' := (23, [(0, .ref 13), (1, .ref 26), (2, .int x2)], [.int x2, .ref 26], (hp tx pg rd d e sw))) (fun _ => rfl) ?_
      refine am_Ev.call (o := am_run cPT cML (n0 + 2) 23 [.ref 26, .int x2] (hp tx pg rd d e sw)) (kk := fun q => (26, [(0, .ref 13), (1, .ref 26), (2, .int x2)], q.1.toList ++ [], q.2)) (q := (some (.int q2), (hp tx pg rd d e sw))) 1 (fun _ => rfl) (ev_D_inSequence_B hq) ?_
      obtain ⟨q3, hq, h⟩ := Option.bind_eq_some_iff.mp h
      refine am_Ev.go 5 (st' := (32, [(0, .ref 13), (1, .ref 26), (2, .int x2), (3, .int q2)], [.int q2, .int 6, .ref 26, .ref 13], (hp tx pg rd d e sw))) (fun _ => rfl) ?_
      refine am_Ev.call (o := am_run cPT cML (n0 + 2) 10 [.ref 26, .int 6, .int q2] (hp tx pg rd d e sw)) (kk := fun q => (35, [(0, .ref 13), (1, .ref 26), (2, .int x2), (3, .int q2)], q.1.toList ++ [.ref 13], q.2)) (q := (some (.int q3), (hp tx pg rd d e sw))) 1 (fun _ => rfl) (ev_D_get_B hq) ?_
      obtain ⟨q4, hq, h⟩ := Option.bind_eq_some_iff.mp h
      refine am_Ev.call (o := am_run cPT cML (n0 + 2) 29 [.ref 13, .int q3] (hp tx pg rd d e sw)) (kk := fun q => (38, [(0, .ref 13), (1, .ref 26), (2, .int x2), (3, .int q2)], q.1.toList ++ [], q.2)) (q := (some (.int q4), (hp tx pg rd d e sw))) 1 (fun _ => rfl) (ev_D_renumbered_A hq) ?_
      obtain ⟨q5, hq, h⟩ := Option.bind_eq_some_iff.mp h
      refine am_Ev.go 5 (st' := (45, [(0, .ref 13), (1, .ref 26), (2, .int x2), (3, .int q2), (4, .int q4)], [.int q2, .int 7, .ref 26, .ref 13], (hp tx pg rd d e sw))) (fun _ => rfl) ?_
      refine am_Ev.call (o := am_run cPT cML (n0 + 2) 10 [.ref 26, .int 7, .int q2] (hp tx pg rd d e sw)) (kk := fun q => (48, [(0, .ref 13), (1, .ref 26), (2, .int x2), (3, .int q2), (4, .int q4)], q.1.toList ++ [.ref 13], q.2)) (q := (some (.int q5), (hp tx pg rd d e sw))) 1 (fun _ => rfl) (ev_D_get_B hq) ?_
      obtain ⟨q6, hq, h⟩ := Option.bind_eq_some_iff.mp h
      refine am_Ev.call (o := am_run cPT cML (n0 + 2) 29 [.ref 13, .int q5] (hp tx pg rd d e sw)) (kk := fun q => (51, [(0, .ref 13), (1, .ref 26), (2, .int x2), (3, .int q2), (4, .int q4)], q.1.toList ++ [], q.2)) (q := (some (.int q6), (hp tx pg rd d e sw))) 1 (fun _ => rfl) (ev_D_renumbered_A hq) ?_
      obtain ⟨q7, hq, h⟩ := Option.bind_eq_some_iff.mp h
      refine am_Ev.go 8 (st' := (60, [(0, .ref 13), (1, .ref 26), (2, .int x2), (3, .int q2), (4, .int q4), (5, .int q6)], [.int q2, .int 3, .ref 26, .ref 13, .int x2, .int 3, .ref 13], (hp tx pg rd d e sw))) (fun _ => rfl) ?_
      refine am_Ev.call (o := am_run cPT cML (n0 + 2) 10 [.ref 26, .int 3, .int q2] (hp tx pg rd d e sw)) (kk := fun q => (63, [(0, .ref 13), (1, .ref 26), (2, .int x2), (3, .int q2), (4, .int q4), (5, .int q6)], q.1.toList ++ [.ref 13, .int x2, .int 3, .ref 13], q.2)) (q := (some (.int q7), (hp tx pg rd d e sw))) 1 (fun _ => rfl) (ev_D_get_B hq) ?_
      obtain ⟨q8, hq, h⟩ := Option.bind_eq_some_iff.mp h
      refine am_Ev.call (o := am_run cPT cML (n0 + 2) 29 [.ref 13, .int q7] (hp tx pg rd d e sw)) (kk := fun q => (66, [(0, .ref 13), (1, .ref 26), (2, .int x2), (3, .int q2), (4, .int q4), (5, .int q6)], q.1.toList ++ [.int x2, .int 3, .ref 13], q.2)) (q := (some (.int q8), (hp tx pg rd d e sw))) 1 (fun _ => rfl) (ev_D_renumbered_A hq) ?_
      obtain ⟨q9, hq, h⟩ := Option.bind_eq_some_iff.mp h
      refine am_Ev.call (o := am_run cPT cML (n0 + 2) 11 [.ref 13, .int 3, .int x2, .int q8] (hp tx pg rd d e sw)) (kk := fun q => (69, [(0, .ref 13), (1, .ref 26), (2, .int x2), (3, .int q2), (4, .int q4), (5, .int q6)], q.1.toList ++ [], q.2)) (q := (none, (hp tx pg rd q9 e sw))) 1 (fun _ => rfl) (ev_D_set_A hq) ?_
      obtain ⟨q10, hq, h⟩ := Option.bind_eq_some_iff.mp h
      refine am_Ev.go 6 (st' := (80, [(0, .ref 13), (1, .ref 26), (2, .int x2), (3, .int q2), (4, .int q4), (5, .int q6)], [.int (if q4 < q6 then q6 else q4), .int x2, .int 6, .ref 13], (hp tx pg rd q9 e sw))) (fun _ => rfl) ?_
      refine am_Ev.call (o := am_run cPT cML (n0 + 2) 11 [.ref 13, .int 6, .int x2, .int (if q4 < q6 then q6 else q4)] (hp tx pg rd q9 e sw)) (kk := fun q => (83, [(0, .ref 13), (1, .ref 26), (2, .int x2), (3, .int q2), (4, .int q4), (5, .int q6)], q.1.toList ++ [], q.2)) (q := (none, (hp tx pg rd q10 e sw))) 1 (fun _ => rfl) (ev_D_set_A hq) ?_
      obtain ⟨q11, hq, h⟩ := Option.bind_eq_some_iff.mp h
      refine am_Ev.go 6 (st' := (94, [(0, .ref 13), (1, .ref 26), (2, .int x2), (3, .int q2), (4, .int q4), (5, .int q6)], [.int (if q6 < q4 then q6 else q4), .int x2, .int 7, .ref 13], (hp tx pg rd q10 e sw))) (fun _ => rfl) ?_
      refine am_Ev.call (o := am_run cPT cML (n0 + 2) 11 [.ref 13, .int 7, .int x2, .int (if q6 < q4 then q6 else q4)] (hp tx pg rd q10 e sw)) (kk := fun q => (97, [(0, .ref 13), (1, .ref 26), (2, .int x2), (3, .int q2), (4, .int q4), (5, .int q6)], q.1.toList ++ [], q.2)) (q := (none, (hp tx pg rd q11 e sw))) 1 (fun _ => rfl) (ev_D_set_A hq) ?_
      refine am_Ev.go 2 (st' := (12, [(0, .ref 13), (1, .ref 26), (2, .int (x2 + 1)), (3, .int q2), (4, .int q4), (5, .int q6)], [], (hp tx pg rd q11 e sw))) (fun _ => rfl) ?_
      refine am_Ev.same (st' := (12, [(0, .ref 13), (1, .ref 26), (2, .int (x2 + 1))], [], (hp tx pg rd q11 e sw))) (fun _ => rfl) ?_
      exact ih _ _ _ h
theorem ev_D_copyGates_A {n0 : Nat} {tx : SB} {pg : SB} {rd : SR} {sw : Bool} {d : SD} {e : SD} {res : SD} (h : fn_D_copyGates d e = some res) : am_run cPT cML (n0 + 3) 28 [.ref 13, .ref 26] (hp tx pg rd d e sw) = some (none, (hp tx pg rd res e sw)) := by
  refine am_run_of (d := n0 + 2) rfl ?_
  show am_Ev (tb_D_copyGates (am_run cPT cML (n0 + 2))) (0, [(0, .ref 13), (1, .ref 26)], [], (hp tx pg rd d e sw)) (none, (hp tx pg rd res e sw))
  unfold fn_D_copyGates at h
  obtain ⟨q12, hq, h⟩ := Option.bind_eq_some_iff.mp h
  refine am_Ev.go 4 (st' := (4, [(0, .ref 13), (1, .ref 26)], [.int 3, .ref 26, .int 3, .ref 13], (hp tx pg rd d e sw))) (fun _ => rfl) ?_
  refine am_Ev.call (o := am_run cPT cML (n0 + 2) 7 [.ref 26, .int 3] (hp tx pg rd d e sw)) (kk := fun q => (7, [(0, .ref 13), (1, .ref 26)], q.1.toList ++ [.int 3, .ref 13], q.2)) (q := (some (.int q12), (hp tx pg rd d e sw))) 1 (fun _ => rfl) (ev_D_many_B hq) ?_
  obtain ⟨q13, hq, h⟩ := Option.bind_eq_some_iff.mp h
  refine am_Ev.call (o := am_run cPT cML (n0 + 2) 8 [.ref 13, .int 3, .int q12] (hp tx pg rd d e sw)) (kk := fun q => (10, [(0, .ref 13), (1, .ref 26)], q.1.toList ++ [], q.2)) (q := (none, (hp tx pg rd q13 e sw))) 1 (fun _ => rfl) (ev_D_setMany_A hq) ?_
  refine am_Ev.go 2 (st' := (12, [(0, .ref 13), (1, .ref 26), (2, .int 0)], [], (hp tx pg rd q13 e sw))) (fun _ => rfl) ?_
  refine ev_D_copyGates_12_A ?_ _ _ _ _ h
  intro d_15 res h
  try dsimp only at h
  cases h
  exact am_Ev.done 1 rfl
theorem ev_D_copyGates_12_B {n0 : Nat} {tx : SB} {pg : SB} {rd : SR} {sw : Bool} {e : SD} {κ : SD → Option (SD)} (hκ : ∀ (d : SD) (res : SD), κ d = some res → am_Ev (tb_D_copyGates (am_run cPT cML (n0 + 2))) (103, [], [], (hp tx pg rd e d sw)) (none, (hp tx pg rd e res sw))) : ∀ (n : Nat) (x2 : Int32) (d : SD) (res : SD), fn_D_copyGates_12 e κ n x2 d = some res → am_Ev (tb_D_copyGates (am_run cPT cML (n0 + 2))) (12, [(0, .ref 26), (1, .ref 13), (2, .int x2)], [], (hp tx pg rd e d sw)) (none, (hp tx pg rd e res sw)) := by
  intro n
  induction n with
  | zero => intro x2 d res h; unfold fn_D_copyGates_12 at h; cases h
  | succ n ih =>
    intro x2 d res h
    unfold fn_D_copyGates_12 at h
    obtain ⟨q1, hq, h⟩ := Option.bind_eq_some_iff.mp h
    refine am_Ev.go 3 (st' := (15, [(0, .ref 26), (1, .ref 13), (2, .int x2)], [.int 3, .ref 26, .int x2], (hp tx pg rd e d sw))) (fun _ => rfl) ?_
    refine am_Ev.call (o := am_run cPT cML (n0 + 2) 7 [.ref 26, .int 3] (hp tx pg rd e d sw)) (kk := fun q => (18, [(0, .ref 26), (1, .ref 13), (2, .int x2)], q.1.toList ++ [.int x2], q.2)) (q := (some (.int q1), (hp tx pg rd e d sw))) 1 (fun _ => rfl) (ev_D_many_B hq) ?_
    refine am_Ev.fork (b := decide (q1 ≤ x2)) (s1 := (103, [(0, .ref 26), (1, .ref 13), (2, .int x2)], [], (hp tx pg rd e d sw))) (s2 := (21, [(0, .ref 26), (1, .ref 13), (2, .int x2)], [], (hp tx pg rd e d sw))) 1 (fun _ => rfl) (fun hc => ?_) (fun hc => ?_)
    · have h := (am_ift hc).symm.trans h
      refine am_Ev.same (st' := (103, [], [], (hp tx pg rd e d sw))) (fun _ => rfl) ?_
      exact hκ _ _ h
    · have h := (am_iff hc).symm.trans h
      obtain ⟨q2, hq, h⟩ := Option.bind_eq_some_iff.mp h
      refine am_Ev.go 2 (st' := (23, [(0, .ref 26), (1, .ref 13), (2, .int x2)], [.int x2, .ref 13], (hp tx pg rd e d sw))) (fun _ => rfl) ?_
      refine am_Ev.call (o := am_run cPT cML (n0 + 2) 23 [.ref 13, .int x2] (hp tx pg rd e d sw)) (kk := fun q => (26, [(0, .ref 26), (1, .ref 13), (2, .int x2)], q.1.toList ++ [], q.2)) (q := (some (.int q2), (hp tx pg rd e d sw))) 1 (fun _ => rfl) (ev_D_inSequence_A hq) ?_
      obtain ⟨q3, hq, h⟩ := Option.bind_eq_some_iff.mp h
      refine am_Ev.go 5 (st' := (32, [(0, .ref 26), (1, .ref 13), (2, .int x2), (3, .int q2)], [.int q2, .int 6, .ref 13, .ref 26], (hp tx pg rd e d sw))) (fun _ => rfl) ?_
      refine am_Ev.call (o := am_run cPT cML (n0 + 2) 10 [.ref 13, .int 6, .int q2] (hp tx pg rd e d sw)) (kk := fun q => (35, [(0, .ref 26), (1, .ref 13), (2, .int x2), (3, .int q2)], q.1.toList ++ [.ref 26], q.2)) (q := (some (.int q3), (hp tx pg rd e d sw))) 1 (fun _ => rfl) (ev_D_get_A hq) ?_
      obtain ⟨q4, hq, h⟩ := Option.bind_eq_some_iff.mp h
      refine am_Ev.call (o := am_run cPT cML (n0 + 2) 29 [.ref 26, .int q3] (hp tx pg rd e d sw)) (kk := fun q => (38, [(0, .ref 26), (1, .ref 13), (2, .int x2), (3, .int q2)], q.1.toList ++ [], q.2)) (q := (some (.int q4), (hp tx pg rd e d sw))) 1 (fun _ => rfl) (ev_D_renumbered_B hq) ?_
      obtain ⟨q5, hq, h⟩ := Option.bind_eq_some_iff.mp h
      refine am_Ev.go 5 (st' := (45, [(0, .ref 26), (1, .ref 13), (2, .int x2), (3, .int q2), (4, .int q4)], [.int q2, .int 7, .ref 13, .ref 26], (hp tx pg rd e d sw))) (fun _ => rfl) ?_
      refine am_Ev.call (o := am_run cPT cML (n0 + 2) 10 [.ref 13, .int 7, .int q2] (hp tx pg rd e d sw)) (kk := fun q => (48, [(0, .ref 26), (1, .ref 13), (2, .int x2), (3, .int q2), (4, .int q4)], q.1.toList ++ [.ref 26], q.2)) (q := (some (.int q5), (hp tx pg rd e d sw))) 1 (fun _ => rfl) (ev_D_get_A hq) ?_
      obtain ⟨q6, hq, h⟩ := Option.bind_eq_some_iff.mp h
      refine am_Ev.call (o := am_run cPT cML (n0 + 2) 29 [.ref 26, .int q5] (hp tx pg rd e d sw)) (kk := fun q => (51, [(0, .ref 26), (1, .ref 13), (2, .int x2), (3, .int q2), (4, .int q4)], q.1.toList ++ [], q.2)) (q := (some (.int q6), (hp tx pg rd e d sw))) 1 (fun _ => rfl) (ev_D_renumbered_B hq) ?_
      obtain ⟨q7, hq, h⟩ := Option.bind_eq_some_iff.mp h
      refine am_Ev.go 8 (st' := (60, [(0, .ref 26), (1, .ref 13), (2, .int x2), (3, .int q2), (4, .int q4), (5, .int q6)], [.int q2, .int 3, .ref 13, .ref 26, .int x2, .int 3, .ref 26], (hp tx pg rd e d sw))) (fun _ => rfl) ?_
      refine am_Ev.call (o := am_run cPT cML (n0 + 2) 10 [.ref 13, .int 3, .int q2] (hp tx pg rd e d sw)) (kk := fun q => (63, [(0, .ref 26), (1, .ref 13), (2, .int x2), (3, .int q2), (4, .int q4), (5, .int q6)], q.1.toList ++ [.ref 26, .int x2, .int 3, .ref 26], q.2)) (q := (some (.int q7), (hp tx pg rd e d sw))) 1 (fun _ => rfl) (ev_D_get_A hq) ?_
      obtain ⟨q8, hq, h⟩ := Option.bind_eq_some_iff.mp h
      refine am_Ev.call (o := am_run cPT cML (n0 + 2) 29 [.ref 26, .int q7] (hp tx pg rd e d sw)) (kk := fun q => (66, [(0, .ref 26), (1, .ref 13), (2, .int x2), (3, .int q2), (4, .int q4), (5, .int q6)], q.1.toList ++ [.int x2, .int 3, .ref 26], q.2)) (q := (some (.int q8), (hp tx pg rd e d sw))) 1 (fun _ => rfl) (ev_D_renumbered_B hq) ?_
      obtain ⟨q9, hq, h⟩ := Option.bind_eq_some_iff.mp h
      refine am_Ev.call (o := am_run cPT cML (n0 + 2) 11 [.ref 26, .int 3, .int x2, .int q8] (hp tx pg rd e d sw)) (kk := fun q => (69, [(0, .ref 26), (1, .ref 13), (2, .int x2), (3, .int q2), (4, .int q4), (5, .int q6)], q.1.toList ++ [], q.2)) (q := (none, (hp tx pg rd e q9 sw))) 1 (fun _ => rfl) (ev_D_set_B hq) ?_
      obtain ⟨q10, hq, h⟩ := Option.bind_eq_some_iff.mp h
      refine am_Ev.go 6 (st' := (80, [(0, .ref 26), (1, .ref 13), (2, .int x2), (3, .int q2), (4, .int q4), (5, .int q6)], [.int (if q4 < q6 then q6 else q4), .int x2, .int 6, .ref 26], (hp tx pg rd e q9 sw))) (fun _ => rfl) ?_
      refine am_Ev.call (o := am_run cPT cML (n0 + 2) 11 [.ref 26, .int 6, .int x2, .int (if q4 < q6 then q6 else q4)] (hp tx pg rd e q9 sw)) (kk := fun q => (83, [(0, .ref 26), (1, .ref 13), (2, .int x2), (3, .int q2), (4, .int q4), (5, .int q6)], q.1.toList ++ [], q.2)) (q := (none, (hp tx pg rd e q10 sw))) 1 (fun _ => rfl) (ev_D_set_B hq) ?_
      obtain ⟨q11, hq, h⟩ := Option.bind_eq_some_iff.mp h
      refine am_Ev.go 6 (st' := (94, [(0, .ref 26), (1, .ref 13), (2, .int x2), (3, .int q2), (4, .int q4), (5, .int q6)], [.int (if q6 < q4 then q6 else q4), .int x2, .int 7, .ref 26], (hp tx pg rd e q10 sw))) (fun _ => rfl) ?_
      refine am_Ev.call (o := am_run cPT cML (n0 + 2) 11 [.ref 26, .int 7, .int x2, .int (if q6 < q4 then q6 else q4)] (hp tx pg rd e q10 sw)) (kk := fun q => (97, [(0, .ref 26), (1, .ref 13), (2, .int x2), (3, .int q2), (4, .int q4), (5, .int q6)], q.1.toList ++ [], q.2)) (q := (none, (hp tx pg rd e q11 sw))) 1 (fun _ => rfl) (ev_D_set_B hq) ?_
      refine am_Ev.go 2 (st' := (12, [(0, .ref 26), (1, .ref 13), (2, .int (x2 + 1)), (3, .int q2), (4, .int q4), (5, .int q6)], [], (hp tx pg rd e q11 sw))) (fun _ => rfl) ?_
      refine am_Ev.same (st' := (12, [(0, .ref 26), (1, .ref 13), (2, .int (x2 + 1))], [], (hp tx pg rd e q11 sw))) (fun _ => rfl) ?_
      exact ih _ _ _ h
theorem ev_D_copyGates_B {n0 : Nat} {tx : SB} {pg : SB} {rd : SR} {sw : Bool} {d : SD} {e : SD} {res : SD} (h : fn_D_copyGates d e = some res) : am_run cPT cML (n0 + 3) 28 [.ref 26, .ref 13] (hp tx pg rd e d sw) = some (none, (hp tx pg rd e res sw)) := by
  refine am_run_of (d := n0 + 2) rfl ?_
  show am_Ev (tb_D_copyGates (am_run cPT cML (n0 + 2))) (0, [(0, .ref 26), (1, .ref 13)], [], (hp tx pg rd e d sw)) (none, (hp tx pg rd e res sw))
  unfold fn_D_copyGates at h
  obtain ⟨q12, hq, h⟩ := Option.bind_eq_some_iff.mp h
  refine am_Ev.go 4 (st' := (4, [(0, .ref 26), (1, .ref 13)], [.int 3, .ref 13, .int 3, .ref 26], (hp tx pg rd e d sw))) (fun _ => rfl) ?_
  refine am_Ev.call (o := am_run cPT cML (n0 + 2) 7 [.ref 13, .int 3] (hp tx pg rd e d sw)) (kk := fun q => (7, [(0, .ref 26), (1, .ref 13)], q.1.toList ++ [.int 3, .ref 26], q.2)) (q := (some (.int q12), (hp tx pg rd e d sw))) 1 (fun _ => rfl) (ev_D_many_A hq) ?_
  obtain ⟨q13, hq, h⟩ := Option.bind_eq_some_iff.mp h
  refine am_Ev.call (o := am_run cPT cML (n0 + 2) 8 [.ref 26, .int 3, .int q12] (hp tx pg rd e d sw)) (kk := fun q => (10, [(0, .ref 26), (1, .ref 13)], q.1.toList ++ [], q.2)) (q := (none, (hp tx pg rd e q13 sw))) 1 (fun _ => rfl) (ev_D_setMany_B hq) ?_
  refine am_Ev.go 2 (st' := (12, [(0, .ref 26), (1, .ref 13), (2, .int 0)], [], (hp tx pg rd e q13 sw))) (fun _ => rfl) ?_
  refine ev_D_copyGates_12_B ?_ _ _ _ _ h
  intro d_15 res h
  try dsimp only at h
  cases h
  exact am_Ev.done 1 rfl
theorem ev_W_numberAndBlank_v {n0 : Nat} {tx : SB} {rd : SR} {a : SD} {b : SD} {sw : Bool} {x1 : Int32} {pg : SB} {res : SB} (h : fn_W_numberAndBlank x1 pg = some res) : am_run cPT cML (n0 + 3) 37 [.ref 12, .int x1] (hp tx pg rd a b sw) = some (none, (hp tx res rd a b sw)) := by
  refine am_run_of (d := n0 + 2) rfl ?_
  show am_Ev (tb_W_numberAndBlank (am_run cPT cML (n0 + 2))) (0, [(0, .ref 12), (1, .int x1)], [], (hp tx pg rd a b sw)) (none, (hp tx res rd a b sw))
  unfold fn_W_numberAndBlank at h
  obtain ⟨q1, hq, h⟩ := Option.bind_eq_some_iff.mp h
  refine am_Ev.go 2 (st' := (2, [(0, .ref 12), (1, .int x1)], [.int x1, .ref 12], (hp tx pg rd a b sw))) (fun _ => rfl) ?_
  refine am_Ev.call (o := am_run cPT cML (n0 + 2) 39 [.ref 12, .int x1] (hp tx pg rd a b sw)) (kk := fun q => (5, [(0, .ref 12), (1, .int x1)], q.1.toList ++ [], q.2)) (q := (none, (hp tx q1 rd a b sw))) 1 (fun _ => rfl) (ev_W_digits_v hq) ?_
  obtain ⟨q2, hq, h⟩ := Option.bind_eq_some_iff.mp h
  refine am_Ev.go 3 (st' := (11, [(0, .ref 12), (1, .int x1)], [.int 32, .ref 3], (hp tx q1 rd a b sw))) (fun _ => rfl) ?_
  refine am_Ev.call (o := am_run cPT cML (n0 + 2) 2 [.ref 3, .int 32] (hp tx q1 rd a b sw)) (kk := fun q => (14, [(0, .ref 12), (1, .int x1)], q.1.toList ++ [], q.2)) (q := (none, (hp tx q2 rd a b sw))) 1 (fun _ => rfl) (ev_B_add_p hq) ?_
  cases h
  exact am_Ev.done 1 rfl
theorem ev_W_lastNumber_v {n0 : Nat} {tx : SB} {rd : SR} {a : SD} {b : SD} {sw : Bool} {x1 : Int32} {pg : SB} {res : SB} (h : fn_W_lastNumber x1 pg = some res) : am_run cPT cML (n0 + 3) 38 [.ref 12, .int x1] (hp tx pg rd a b sw) = some (none, (hp tx res rd a b sw)) := by
  refine am_run_of (d := n0 + 2) rfl ?_
  show am_Ev (tb_W_lastNumber (am_run cPT cML (n0 + 2))) (0, [(0, .ref 12), (1, .int x1)], [], (hp tx pg rd a b sw)) (none, (hp tx res rd a b sw))
  unfold fn_W_lastNumber at h
  obtain ⟨q1, hq, h⟩ := Option.bind_eq_some_iff.mp h
  refine am_Ev.go 2 (st' := (2, [(0, .ref 12), (1, .int x1)], [.int x1, .ref 12], (hp tx pg rd a b sw))) (fun _ => rfl) ?_
  refine am_Ev.call (o := am_run cPT cML (n0 + 2) 39 [.ref 12, .int x1] (hp tx pg rd a b sw)) (kk := fun q => (5, [(0, .ref 12), (1, .int x1)], q.1.toList ++ [], q.2)) (q := (none, (hp tx q1 rd a b sw))) 1 (fun _ => rfl) (ev_W_digits_v hq) ?_
  obtain ⟨q2, hq, h⟩ := Option.bind_eq_some_iff.mp h
  refine am_Ev.go 3 (st' := (11, [(0, .ref 12), (1, .int x1)], [.int 10, .ref 3], (hp tx q1 rd a b sw))) (fun _ => rfl) ?_
  refine am_Ev.call (o := am_run cPT cML (n0 + 2) 2 [.ref 3, .int 10] (hp tx q1 rd a b sw)) (kk := fun q => (14, [(0, .ref 12), (1, .int x1)], q.1.toList ++ [], q.2)) (q := (none, (hp tx q2 rd a b sw))) 1 (fun _ => rfl) (ev_B_add_p hq) ?_
  cases h
  exact am_Ev.done 1 rfl
theorem ev_R_packedGates_16_A {n0 : Nat} {pg : SB} {e : SD} {sw : Bool} {tx : SB} {κ : SR → SD → Option (SR × SD)} (hκ : ∀ (rd : SR) (d : SD) (res : SR × SD), κ rd d = some res → am_Ev (tb_R_packedGates (am_run cPT cML (n0 + 2))) (89, [], [], (hp tx pg rd d e sw)) (none, (hp tx pg res.1 res.2 e sw))) : ∀ (n : Nat) (x2 : Int32) (x3 : Int32) (rd : SR) (d : SD) (res : SR × SD), fn_R_packedGates_16 tx κ n x2 x3 rd d = some res → am_Ev (tb_R_packedGates (am_run cPT cML (n0 + 2))) (16, [(0, .ref 5), (1, .ref 13), (2, .int x2), (3, .int x3)], [], (hp tx pg rd d e sw)) (none, (hp tx pg res.1 res.2 e sw)) := by
  intro n
  induction n with
  | zero => intro x2 x3 rd d res h; unfold fn_R_packedGates_16 at h; cases h
  | succ n ih =>
    intro x2 x3 rd d res h
    unfold fn_R_packedGates_16 at h
    obtain ⟨q1, hq, h⟩ := Option.bind_eq_some_iff.mp h
    refine am_Ev.go 3 (st' := (19, [(0, .ref 5), (1, .ref 13), (2, .int x2), (3, .int x3)], [.int 3, .ref 13, .int x3], (hp tx pg rd d e sw))) (fun _ => rfl) ?_
    refine am_Ev.call (o := am_run cPT cML (n0 + 2) 7 [.ref 13, .int 3] (hp tx pg rd d e sw)) (kk := fun q => (22, [(0, .ref 5), (1, .ref 13), (2, .int x2), (3, .int x3)], q.1.toList ++ [.int x3], q.2)) (q := (some (.int q1), (hp tx pg rd d e sw))) 1 (fun _ => rfl) (ev_D_many_A hq) ?_
    refine am_Ev.fork (b := decide (q1 ≤ x3)) (s1 := (89, [(0, .ref 5), (1, .ref 13), (2, .int x2), (3, .int x3)], [], (hp tx pg rd d e sw))) (s2 := (25, [(0, .ref 5), (1, .ref 13), (2, .int x2), (3, .int x3)], [], (hp tx pg rd d e sw))) 1 (fun _ => rfl) (fun hc => ?_) (fun hc => ?_)
    · have h := (am_ift hc).symm.trans h
      refine am_Ev.same (st' := (89, [], [], (hp tx pg rd d e sw))) (fun _ => rfl) ?_
      exact hκ _ _ _ h
    · have h := (am_iff hc).symm.trans h
      refine am_Ev.fork (b := decide (rd.2.2.2.2.2.2.2.2 = (-1 : Int32))) (s1 := (33, [(0, .ref 5), (1, .ref 13), (2, .int x2), (3, .int x3)], [], (hp tx pg rd d e sw))) (s2 := (89, [(0, .ref 5), (1, .ref 13), (2, .int x2), (3, .int x3)], [], (hp tx pg rd d e sw))) 4 (fun _ => rfl) (fun hc => ?_) (fun hc => ?_)
      · have h := (am_ift hc).symm.trans h
        obtain ⟨q2, hq, h⟩ := Option.bind_eq_some_iff.mp h
        refine am_Ev.go 5 (st' := (40, [(0, .ref 5), (1, .ref 13), (2, .int (x2 + 2)), (3, .int x3)], [.int (x2 + 2), .int 1, .ref 5, .int (x2 + 2)], (hp tx pg rd d e sw))) (fun _ => rfl) ?_
        refine am_Ev.call (o := am_run cPT cML (n0 + 2) 58 [.ref 5, .int 1, .int (x2 + 2)] (hp tx pg rd d e sw)) (kk := fun q => (43, [(0, .ref 5), (1, .ref 13), (2, .int (x2 + 2)), (3, .int x3)], q.1.toList ++ [.int (x2 + 2)], q.2)) (q := (some (.int q2.1), (hp tx pg q2.2 d e sw))) 1 (fun _ => rfl) (ev_R_difference_v hq) ?_
        obtain ⟨q3, hq, h⟩ := Option.bind_eq_some_iff.mp h
        refine am_Ev.go 6 (st' := (52, [(0, .ref 5), (1, .ref 13), (2, .int (x2 + 2)), (3, .int x3), (4, .int ((x2 + 2) - q2.1))], [.int ((x2 + 2) - q2.1), .int 0, .ref 5, .int ((x2 + 2) - q2.1)], (hp tx pg q2.2 d e sw))) (fun _ => rfl) ?_
        refine am_Ev.call (o := am_run cPT cML (n0 + 2) 58 [.ref 5, .int 0, .int ((x2 + 2) - q2.1)] (hp tx pg q2.2 d e sw)) (kk := fun q => (55, [(0, .ref 5), (1, .ref 13), (2, .int (x2 + 2)), (3, .int x3), (4, .int ((x2 + 2) - q2.1))], q.1.toList ++ [.int ((x2 + 2) - q2.1)], q.2)) (q := (some (.int q3.1), (hp tx pg q3.2 d e sw))) 1 (fun _ => rfl) (ev_R_difference_v hq) ?_
        obtain ⟨q4, hq, h⟩ := Option.bind_eq_some_iff.mp h
        refine am_Ev.go 6 (st' := (62, [(0, .ref 5), (1, .ref 13), (2, .int (x2 + 2)), (3, .int x3), (4, .int ((x2 + 2) - q2.1)), (5, .int (((x2 + 2) - q2.1) - q3.1))], [.int (x2 + 2), .int x3, .int 3, .ref 13], (hp tx pg q3.2 d e sw))) (fun _ => rfl) ?_
        refine am_Ev.call (o := am_run cPT cML (n0 + 2) 11 [.ref 13, .int 3, .int x3, .int (x2 + 2)] (hp tx pg q3.2 d e sw)) (kk := fun q => (65, [(0, .ref 5), (1, .ref 13), (2, .int (x2 + 2)), (3, .int x3), (4, .int ((x2 + 2) - q2.1)), (5, .int (((x2 + 2) - q2.1) - q3.1))], q.1.toList ++ [], q.2)) (q := (none, (hp tx pg q3.2 q4 e sw))) 1 (fun _ => rfl) (ev_D_set_A hq) ?_
        obtain ⟨q5, hq, h⟩ := Option.bind_eq_some_iff.mp h
        refine am_Ev.go 4 (st' := (71, [(0, .ref 5), (1, .ref 13), (2, .int (x2 + 2)), (3, .int x3), (4, .int ((x2 + 2) - q2.1)), (5, .int (((x2 + 2) - q2.1) - q3.1))], [.int ((x2 + 2) - q2.1), .int x3, .int 6, .ref 13], (hp tx pg q3.2 q4 e sw))) (fun _ => rfl) ?_
        refine am_Ev.call (o := am_run cPT cML (n0 + 2) 11 [.ref 13, .int 6, .int x3, .int ((x2 + 2) - q2.1)] (hp tx pg q3.2 q4 e sw)) (kk := fun q => (74, [(0, .ref 5), (1, .ref 13), (2, .int (x2 + 2)), (3, .int x3), (4, .int ((x2 + 2) - q2.1)), (5, .int (((x2 + 2) - q2.1) - q3.1))], q.1.toList ++ [], q.2)) (q := (none, (hp tx pg q3.2 q5 e sw))) 1 (fun _ => rfl) (ev_D_set_A hq) ?_
        obtain ⟨q6, hq, h⟩ := Option.bind_eq_some_iff.mp h
        refine am_Ev.go 4 (st' := (80, [(0, .ref 5), (1, .ref 13), (2, .int (x2 + 2)), (3, .int x3), (4, .int ((x2 + 2) - q2.1)), (5, .int (((x2 + 2) - q2.1) - q3.1))], [.int (((x2 + 2) - q2.1) - q3.1), .int x3, .int 7, .ref 13], (hp tx pg q3.2 q5 e sw))) (fun _ => rfl) ?_
        refine am_Ev.call (o := am_run cPT cML (n0 + 2) 11 [.ref 13, .int 7, .int x3, .int (((x2 + 2) - q2.1) - q3.1)] (hp tx pg q3.2 q5 e sw)) (kk := fun q => (83, [(0, .ref 5), (1, .ref 13), (2, .int (x2 + 2)), (3, .int x3), (4, .int ((x2 + 2) - q2.1)), (5, .int (((x2 + 2) - q2.1) - q3.1))], q.1.toList ++ [], q.2)) (q := (none, (hp tx pg q3.2 q6 e sw))) 1 (fun _ => rfl) (ev_D_set_A hq) ?_
        refine am_Ev.go 2 (st' := (16, [(0, .ref 5), (1, .ref 13), (2, .int (x2 + 2)), (3, .int (x3 + 1)), (4, .int ((x2 + 2) - q2.1)), (5, .int (((x2 + 2) - q2.1) - q3.1))], [], (hp tx pg q3.2 q6 e sw))) (fun _ => rfl) ?_
        refine am_Ev.same (st' := (16, [(0, .ref 5), (1, .ref 13), (2, .int (x2 + 2)), (3, .int (x3 + 1))], [], (hp tx pg q3.2 q6 e sw))) (fun _ => rfl) ?_
        exact ih _ _ _ _ _ h
      · have h := (am_iff hc).symm.trans h
        refine am_Ev.same (st' := (89, [], [], (hp tx pg rd d e sw))) (fun _ => rfl) ?_
        exact hκ _ _ _ h
theorem ev_R_packedGates_A {n0 : Nat} {pg : SB} {e : SD} {sw : Bool} {tx : SB} {rd : SR} {d : SD} {res : SR × SD} (h : fn_R_packedGates tx rd d = some res) : am_run cPT cML (n0 + 3) 46 [.ref 5, .ref 13] (hp tx pg rd d e sw) = some (none, (hp tx pg res.1 res.2 e sw)) := by
  refine am_run_of (d := n0 + 2) rfl ?_
  show am_Ev (tb_R_packedGates (am_run cPT cML (n0 + 2))) (0, [(0, .ref 5), (1, .ref 13)], [], (hp tx pg rd d e sw)) (none, (hp tx pg res.1 res.2 e sw))
  unfold fn_R_packedGates at h
  obtain ⟨q7, hq, h⟩ := Option.bind_eq_some_iff.mp h
  refine am_Ev.go 3 (st' := (3, [(0, .ref 5), (1, .ref 13)], [.int 0, .ref 13, .int 2], (hp tx pg rd d e sw))) (fun _ => rfl) ?_
  refine am_Ev.call (o := am_run cPT cML (n0 + 2) 7 [.ref 13, .int 0] (hp tx pg rd d e sw)) (kk := fun q => (6, [(0, .ref 5), (1, .ref 13)], q.1.toList ++ [.int 2], q.2)) (q := (some (.int q7), (hp tx pg rd d e sw))) 1 (fun _ => rfl) (ev_D_many_A hq) ?_
  obtain ⟨q8, hq, h⟩ := Option.bind_eq_some_iff.mp h
  refine am_Ev.go 2 (st' := (8, [(0, .ref 5), (1, .ref 13)], [.int 1, .ref 13, .int q7, .int 2], (hp tx pg rd d e sw))) (fun _ => rfl) ?_
  refine am_Ev.call (o := am_run cPT cML (n0 + 2) 7 [.ref 13, .int 1] (hp tx pg rd d e sw)) (kk := fun q => (11, [(0, .ref 5), (1, .ref 13)], q.1.toList ++ [.int q7, .int 2], q.2)) (q := (some (.int q8), (hp tx pg rd d e sw))) 1 (fun _ => rfl) (ev_D_many_A hq) ?_
  refine am_Ev.go 5 (st' := (16, [(0, .ref 5), (1, .ref 13), (2, .int ((2 : Int32) * (q7 + q8))), (3, .int 0)], [], (hp tx pg rd d e sw))) (fun _ => rfl) ?_
  refine ev_R_packedGates_16_A ?_ _ _ _ _ _ _ h
  intro rd_10 d_10 res h
  try dsimp only at h
  cases h
  exact am_Ev.done 1 rfl
theorem ev_R_packedGates_16_B {n0 : Nat} {pg : SB} {e : SD} {sw : Bool} {tx : SB} {κ : SR → SD → Option (SR × SD)} (hκ : ∀ (rd : SR) (d : SD) (res : SR × SD), κ rd d = some res → am_Ev (tb_R_packedGates (am_run cPT cML (n0 + 2))) (89, [], [], (hp tx pg rd e d sw)) (none, (hp tx pg res.1 e res.2 sw))) : ∀ (n : Nat) (x2 : Int32) (x3 : Int32) (rd : SR) (d : SD) (res : SR × SD), fn_R_packedGates_16 tx κ n x2 x3 rd d = some res → am_Ev (tb_R_packedGates (am_run cPT cML (n0 + 2))) (16, [(0, .ref 5), (1, .ref 26), (2, .int x2), (3, .int x3)], [], (hp tx pg rd e d sw)) (none, (hp tx pg res.1 e res.2 sw)) := by
  intro n
  induction n with
  | zero => intro x2 x3 rd d res h; unfold fn_R_packedGates_16 at h; cases h
  | succ n ih =>
    intro x2 x3 rd d res h
    unfold fn_R_packedGates_16 at h
    obtain ⟨q1, hq, h⟩ := Option.bind_eq_some_iff.mp h
    refine am_Ev.go 3 (st' := (19, [(0, .ref 5), (1, .ref 26), (2, .int x2), (3, .int x3)], [.int 3, .ref 26, .int x3], (hp tx pg rd e d sw))) (fun _ => rfl) ?_
    refine am_Ev.call (o := am_run cPT cML (n0 + 2) 7 [.ref 26, .int 3] (hp tx pg rd e d sw)) (kk := fun q => (22, [(0, .ref 5), (1, .ref 26), (2, .int x2), (3, .int x3)], q.1.toList ++ [.int x3], q.2)) (q := (some (.int q1), (hp tx pg rd e d sw))) 1 (fun _ => rfl) (ev_D_many_B hq) ?_
    refine am_Ev.fork (b := decide (q1 ≤ x3)) (s1 := (89, [(0, .ref 5), (1, .ref 26), (2, .int x2), (3, .int x3)], [], (hp tx pg rd e d sw))) (s2 := (25, [(0, .ref 5), (1, .ref 26), (2, .int x2), (3, .int x3)], [], (hp tx pg rd e d sw))) 1 (fun _ => rfl) (fun hc => ?_) (fun hc => ?_)
    · have h := (am_ift hc).symm.trans h
      refine am_Ev.same (st' := (89, [], [], (hp tx pg rd e d sw))) (fun _ => rfl) ?_
      exact hκ _ _ _ h
    · have h := (am_iff hc).symm.trans h
      refine am_Ev.fork (b := decide (rd.2.2.2.2.2.2.2.2 = (-1 : Int32))) (s1 := (33, [(0, .ref 5), (1, .ref 26), (2, .int x2), (3, .int x3)], [], (hp tx pg rd e d sw))) (s2 := (89, [(0, .ref 5), (1, .ref 26), (2, .int x2), (3, .int x3)], [], (hp tx pg rd e d sw))) 4 (fun _ => rfl) (fun hc => ?_) (fun hc => ?_)
      · have h := (am_ift hc).symm.trans h
        obtain ⟨q2, hq, h⟩ := Option.bind_eq_some_iff.mp h
        refine am_Ev.go 5 (st' := (40, [(0, .ref 5), (1, .ref 26), (2, .int (x2 + 2)), (3, .int x3)], [.int (x2 + 2), .int 1, .ref 5, .int (x2 + 2)], (hp tx pg rd e d sw))) (fun _ => rfl) ?_
        refine am_Ev.call (o := am_run cPT cML (n0 + 2) 58 [.ref 5, .int 1, .int (x2 + 2)] (hp tx pg rd e d sw)) (kk := fun q => (43, [(0, .ref 5), (1, .ref 26), (2, .int (x2 + 2)), (3, .int x3)], q.1.toList ++ [.int (x2 + 2)], q.2)) (q := (some (.int q2.1), (hp tx pg q2.2 e d sw))) 1 (fun _ => rfl) (ev_R_difference_v hq) ?_
        obtain ⟨q3, hq, h⟩ := Option.bind_eq_some_iff.mp h
        refine am_Ev.go 6 (st' := (52, [(0, .ref 5), (1, .ref 26), (2, .int (x2 + 2)), (3, .int x3), (4, .int ((x2 + 2) - q2.1))], [.int ((x2 + 2) - q2.1), .int 0, .ref 5, .int ((x2 + 2) - q2.1)], (hp tx pg q2.2 e d sw))) (fun _ => rfl) ?_
        refine am_Ev.call (o := am_run cPT cML (n0 + 2) 58 [.ref 5, .int 0, .int ((x2 + 2) - q2.1)] (hp tx pg q2.2 e d sw)) (kk := fun q => (55, [(0, .ref 5), (1, .ref 26), (2, .int (x2 + 2)), (3, .int x3), (4, .int ((x2 + 2) - q2.1))], q.1.toList ++ [.int ((x2 + 2) - q2.1)], q.2)) (q := (some (.int q3.1), (hp tx pg q3.2 e d sw))) 1 (fun _ => rfl) (ev_R_difference_v hq) ?_
        obtain ⟨q4, hq, h⟩ := Option.bind_eq_some_iff.mp h
        refine am_Ev.go 6 (st' := (62, [(0, .ref 5), (1, .ref 26), (2, .int (x2 + 2)), (3, .int x3), (4, .int ((x2 + 2) - q2.1)), (5, .int (((x2 + 2) - q2.1) - q3.1))], [.int (x2 + 2), .int x3, .int 3, .ref 26], (hp tx pg q3.2 e d sw))) (fun _ => rfl) ?_
        refine am_Ev.call (o := am_run cPT cML (n0 + 2) 11 [.ref 26, .int 3, .int x3, .int (x2 + 2)] (hp tx pg q3.2 e d sw)) (kk := fun q => (65, [(0, .ref 5), (1, .ref 26), (2, .int (x2 + 2)), (3, .int x3), (4, .int ((x2 + 2) - q2.1)), (5, .int (((x2 + 2) - q2.1) - q3.1))], q.1.toList ++ [], q.2)) (q := (none, (hp tx pg q3.2 e q4 sw))) 1 (fun _ => rfl) (ev_D_set_B hq) ?_
        obtain ⟨q5, hq, h⟩ := Option.bind_eq_some_iff.mp h
        refine am_Ev.go 4 (st' := (71, [(0, .ref 5), (1, .ref 26), (2, .int (x2 + 2)), (3, .int x3), (4, .int ((x2 + 2) - q2.1)), (5, .int (((x2 + 2) - q2.1) - q3.1))], [.int ((x2 + 2) - q2.1), .int x3, .int 6, .ref 26], (hp tx pg q3.2 e q4 sw))) (fun _ => rfl) ?_
        refine am_Ev.call (o := am_run cPT cML (n0 + 2) 11 [.ref 26, .int 6, .int x3, .int ((x2 + 2) - q2.1)] (hp tx pg q3.2 e q4 sw)) (kk := fun q => (74, [(0, .ref 5), (1, .ref 26), (2, .int (x2 + 2)), (3, .int x3), (4, .int ((x2 + 2) - q2.1)), (5, .int (((x2 + 2) - q2.1) - q3.1))], q.1.toList ++ [], q.2)) (q := (none, (hp tx pg q3.2 e q5 sw))) 1 (fun _ => rfl) (ev_D_set_B hq) ?_
        obtain ⟨q6, hq, h⟩ := Option.bind_eq_some_iff.mp h
        refine am_Ev.go 4 (st' := (80, [(0, .ref 5), (1, .ref 26), (2, .int (x2 + 2)), (3, .int x3), (4, .int ((x2 + 2) - q2.1)), (5, .int (((x2 + 2) - q2.1) - q3.1))], [.int (((x2 + 2) - q2.1) - q3.1), .int x3, .int 7, .ref 26], (hp tx pg q3.2 e q5 sw))) (fun _ => rfl) ?_
        refine am_Ev.call (o := am_run cPT cML (n0 + 2) 11 [.ref 26, .int 7, .int x3, .int (((x2 + 2) - q2.1) - q3.1)] (hp tx pg q3.2 e q5 sw)) (kk := fun q => (83, [(0, .ref 5), (1, .ref 26), (2, .int (x2 + 2)), (3, .int x3), (4, .int ((x2 + 2) - q2.1)), (5, .int (((x2 + 2) - q2.1) - q3.1))], q.1.toList ++ [], q.2)) (q := (none, (hp tx pg q3.2 e q6 sw))) 1 (fun _ => rfl) (ev_D_set_B hq) ?_
        refine am_Ev.go 2 (st' := (16, [(0, .ref 5), (1, .ref 26), (2, .int (x2 + 2)), (3, .int (x3 + 1)), (4, .int ((x2 + 2) - q2.1)), (5, .int (((x2 + 2) - q2.1) - q3.1))], [], (hp tx pg q3.2 e q6 sw))) (fun _ => rfl) ?_
        refine am_Ev.same (st' := (16, [(0, .ref 5), (1, .ref 26), (2, .int (x2 + 2)), (3, .int (x3 + 1))], [], (hp tx pg q3.2 e q6 sw))) (fun _ => rfl) ?_
        exact ih _ _ _ _ _ h
      · have h := (am_iff hc).symm.trans h
        refine am_Ev.same (st' := (89, [], [], (hp tx pg rd e d sw))) (fun _ => rfl) ?_
        exact hκ _ _ _ h
theorem ev_R_packedGates_B {n0 : Nat} {pg : SB} {e : SD} {sw : Bool} {tx : SB} {rd : SR} {d : SD} {res : SR × SD} (h : fn_R_packedGates tx rd d = some res) : am_run cPT cML (n0 + 3) 46 [.ref 5, .ref 26] (hp tx pg rd e d sw) = some (none, (hp tx pg res.1 e res.2 sw)) := by
  refine am_run_of (d := n0 + 2) rfl ?_
  show am_Ev (tb_R_packedGates (am_run cPT cML (n0 + 2))) (0, [(0, .ref 5), (1, .ref 26)], [], (hp tx pg rd e d sw)) (none, (hp tx pg res.1 e res.2 sw))
  unfold fn_R_packedGates at h
  obtain ⟨q7, hq, h⟩ := Option.bind_eq_some_iff.mp h
  refine am_Ev.go 3 (st' := (3, [(0, .ref 5), (1, .ref 26)], [.int 0, .ref 26, .int 2], (hp tx pg rd e d sw))) (fun _ => rfl) ?_
  refine am_Ev.call (o := am_run cPT cML (n0 + 2) 7 [.ref 26, .int 0] (hp tx pg rd e d sw)) (kk := fun q => (6, [(0, .ref 5), (1, .ref 26)], q.1.toList ++ [.int 2], q.2)) (q := (some (.int q7), (hp tx pg rd e d sw))) 1 (fun _ => rfl) (ev_D_many_B hq) ?_
  obtain ⟨q8, hq, h⟩ := Option.bind_eq_some_iff.mp h
  refine am_Ev.go 2 (st' := (8, [(0, .ref 5), (1, .ref 26)], [.int 1, .ref 26, .int q7, .int 2], (hp tx pg rd e d sw))) (fun _ => rfl) ?_
  refine am_Ev.call (o := am_run cPT cML (n0 + 2) 7 [.ref 26, .int 1] (hp tx pg rd e d sw)) (kk := fun q => (11, [(0, .ref 5), (1, .ref 26)], q.1.toList ++ [.int q7, .int 2], q.2)) (q := (some (.int q8), (hp tx pg rd e d sw))) 1 (fun _ => rfl) (ev_D_many_B hq) ?_
  refine am_Ev.go 5 (st' := (16, [(0, .ref 5), (1, .ref 26), (2, .int ((2 : Int32) * (q7 + q8))), (3, .int 0)], [], (hp tx pg rd e d sw))) (fun _ => rfl) ?_
  refine ev_R_packedGates_16_B ?_ _ _ _ _ _ _ h
  intro rd_10 d_10 res h
  try dsimp only at h
  cases h
  exact am_Ev.done 1 rfl
theorem ev_R_findRound_82_A {n0 : Nat} {tx : SB} {pg : SB} {e : SD} {sw : Bool} {x2 : Int32} {d : SD} {κ : SR → Option (SR)} (hκ : ∀ (rd : SR) (res : SR), κ rd = some res → am_Ev (tb_R_findRound (am_run cPT cML (n0 + 2))) (127, [], [], (hp tx pg rd d e sw)) (none, (hp tx pg res d e sw))) : ∀ (n : Nat) (x3 : Int32) (rd : SR) (res : SR), fn_R_findRound_82 x2 d κ n x3 rd = some res → am_Ev (tb_R_findRound (am_run cPT cML (n0 + 2))) (82, [(0, .ref 5), (2, .int x2), (3, .int x3)], [], (hp tx pg rd d e sw)) (none, (hp tx pg res d e sw)) := by
  intro n
  induction n with
  | zero => intro x3 rd res h; unfold fn_R_findRound_82 at h; cases h
  | succ n ih =>
    intro x3 rd res h
    unfold fn_R_findRound_82 at h
    refine am_Ev.fork (b := decide (x2 ≤ x3)) (s1 := (127, [(0, .ref 5), (2, .int x2), (3, .int x3)], [], (hp tx pg rd d e sw))) (s2 := (87, [(0, .ref 5), (2, .int x2), (3, .int x3)], [], (hp tx pg rd d e sw))) 3 (fun _ => rfl) (fun hc => ?_) (fun hc => ?_)
    · have h := (am_ift hc).symm.trans h
      refine am_Ev.same (st' := (127, [], [], (hp tx pg rd d e sw))) (fun _ => rfl) ?_
      exact hκ _ _ h
    · have h := (am_iff hc).symm.trans h
      refine am_Ev.fork (b := decide ((60 : Int32) ≤ x3)) (s1 := (127, [(0, .ref 5), (2, .int x2), (3, .int x3)], [], (hp tx pg rd d e sw))) (s2 := (96, [(0, .ref 5), (2, .int x2), (3, .int x3)], [], (hp tx pg rd d e sw))) 5 (fun _ => rfl) (fun hc => ?_) (fun hc => ?_)
      · have h := (am_ift hc).symm.trans h
        refine am_Ev.same (st' := (127, [], [], (hp tx pg rd d e sw))) (fun _ => rfl) ?_
        exact hκ _ _ h
      · have h := (am_iff hc).symm.trans h
        obtain ⟨hc, h⟩ := am_ifn h
        refine am_Ev.guard (b := decide (0 ≤ x3.toInt ∧ x3.toInt < (60 : Int))) (s1 := (102, [(0, .ref 5), (2, .int x2), (3, .int x3)], [.long (rd.2.2.2.2.2.1 x3.toNatClampNeg)], (hp tx pg rd d e sw))) 4 (fun _ => rfl) hc ?_
        refine am_Ev.fork (b := decide ((lg_cmp ((((rd.2.2.2.2.2.1 x3.toNatClampNeg).toUInt64 >>> (x3.toInt64.toUInt64 &&& Int64.toUInt64 63)).toInt64) &&& (1 : Int64)) (0 : Int64)) = 0)) (s1 := (121, [(0, .ref 5), (2, .int x2), (3, .int x3)], [], (hp tx pg rd d e sw))) (s2 := (111, [(0, .ref 5), (2, .int x2), (3, .int x3)], [], (hp tx pg rd d e sw))) 7 (fun _ => rfl) (fun hc => ?_) (fun hc => ?_)
        · have h := (am_ift hc).symm.trans h
          refine am_Ev.go 2 (st' := (82, [(0, .ref 5), (2, .int x2), (3, .int (x3 + 1))], [], (hp tx pg rd d e sw))) (fun _ => rfl) ?_
          exact ih _ _ _ h
        · have h := (am_iff hc).symm.trans h
          obtain ⟨hc, h⟩ := am_ifn h
          refine am_Ev.guard (b := decide (0 ≤ x3.toInt ∧ x3.toInt < (60 : Int))) (s1 := (118, [(0, .ref 5), (2, .int x2), (3, .int x3)], [.int (rd.2.2.2.1 x3.toNatClampNeg), .ref 5], (hp tx pg rd d e sw))) 5 (fun _ => rfl) hc ?_
          obtain ⟨q1, hq, h⟩ := Option.bind_eq_some_iff.mp h
          refine am_Ev.call (o := am_run cPT cML (n0 + 2) 60 [.ref 5, .int (rd.2.2.2.1 x3.toNatClampNeg)] (hp tx pg rd d e sw)) (kk := fun q => (121, [(0, .ref 5), (2, .int x2), (3, .int x3)], q.1.toList ++ [], q.2)) (q := (none, (hp tx pg q1 d e sw))) 1 (fun _ => rfl) (ev_R_fail_v hq) ?_
          refine am_Ev.go 2 (st' := (82, [(0, .ref 5), (2, .int x2), (3, .int (x3 + 1))], [], (hp tx pg q1 d e sw))) (fun _ => rfl) ?_
          exact ih _ _ _ h
theorem ev_R_findRound_30_A {n0 : Nat} {tx : SB} {pg : SB} {e : SD} {sw : Bool} {x2 : Int32} {x3 : Int32} {d : SD} {κ : SR → Option (SR)} (hκ : ∀ (rd : SR) (res : SR), κ rd = some res → am_Ev (tb_R_findRound (am_run cPT cML (n0 + 2))) (74, [(0, .ref 5), (2, .int x2), (3, .int x3)], [], (hp tx pg rd d e sw)) (none, (hp tx pg res d e sw))) : ∀ (n : Nat) (x4 : Int32) (rd : SR) (res : SR), fn_R_findRound_30 x2 x3 d κ n x4 rd = some res → am_Ev (tb_R_findRound (am_run cPT cML (n0 + 2))) (30, [(0, .ref 5), (2, .int x2), (3, .int x3), (4, .int x4)], [], (hp tx pg rd d e sw)) (none, (hp tx pg res d e sw)) := by
  intro n
  induction n with
  | zero => intro x4 rd res h; unfold fn_R_findRound_30 at h; cases h
  | succ n ih =>
    intro x4 rd res h
    unfold fn_R_findRound_30 at h
    refine am_Ev.fork (b := decide (x2 ≤ x4)) (s1 := (74, [(0, .ref 5), (2, .int x2), (3, .int x3), (4, .int x4)], [], (hp tx pg rd d e sw))) (s2 := (36, [(0, .ref 5), (2, .int x2), (3, .int x3), (4, .int x4)], [], (hp tx pg rd d e sw))) 3 (fun _ => rfl) (fun hc => ?_) (fun hc => ?_)
    · have h := (am_ift hc).symm.trans h
      refine am_Ev.same (st' := (74, [(0, .ref 5), (2, .int x2), (3, .int x3)], [], (hp tx pg rd d e sw))) (fun _ => rfl) ?_
      exact hκ _ _ h
    · have h := (am_iff hc).symm.trans h
      obtain ⟨hc, h⟩ := am_ifn h
      refine am_Ev.guard (b := decide (0 ≤ x4.toInt ∧ x4.toInt < (60 : Int))) (s1 := (43, [(0, .ref 5), (2, .int x2), (3, .int x3), (4, .int x4)], [.long (rd.2.2.2.2.2.1 x4.toNatClampNeg)], (hp tx pg rd d e sw))) 4 (fun _ => rfl) hc ?_
      refine am_Ev.fork (b := decide ((lg_cmp ((((rd.2.2.2.2.2.1 x4.toNatClampNeg).toUInt64 >>> (x3.toInt64.toUInt64 &&& Int64.toUInt64 63)).toInt64) &&& (1 : Int64)) (0 : Int64)) = 0)) (s1 := (68, [(0, .ref 5), (2, .int x2), (3, .int x3), (4, .int x4)], [], (hp tx pg rd d e sw))) (s2 := (52, [(0, .ref 5), (2, .int x2), (3, .int x3), (4, .int x4)], [], (hp tx pg rd d e sw))) 7 (fun _ => rfl) (fun hc => ?_) (fun hc => ?_)
      · have h := (am_ift hc).symm.trans h
        refine am_Ev.go 2 (st' := (30, [(0, .ref 5), (2, .int x2), (3, .int x3), (4, .int (x4 + 1))], [], (hp tx pg rd d e sw))) (fun _ => rfl) ?_
        exact ih _ _ _ h
      · have h := (am_iff hc).symm.trans h
        obtain ⟨hc, h⟩ := am_ifn h
        refine am_Ev.guard (b := decide (0 ≤ x4.toInt ∧ x4.toInt < (60 : Int))) (s1 := (60, [(0, .ref 5), (2, .int x2), (3, .int x3), (4, .int x4)], [.long (rd.2.2.2.2.2.1 x4.toNatClampNeg), .int x4, .ref 11], (hp tx pg rd d e sw))) 5 (fun _ => rfl) hc ?_
        obtain ⟨hc, h⟩ := am_ifn h
        refine am_Ev.guard (b := decide (0 ≤ x3.toInt ∧ x3.toInt < (60 : Int))) (s1 := (66, [(0, .ref 5), (2, .int x2), (3, .int x3), (4, .int x4)], [.long (rd.2.2.2.2.2.1 x3.toNatClampNeg), .long (rd.2.2.2.2.2.1 x4.toNatClampNeg), .int x4, .ref 11], (hp tx pg rd d e sw))) 4 (fun _ => rfl) hc ?_
        obtain ⟨hc, h⟩ := am_ifn h
        refine am_Ev.guard (b := decide (0 ≤ x4.toInt ∧ x4.toInt < (60 : Int))) (s1 := (68, [(0, .ref 5), (2, .int x2), (3, .int x3), (4, .int x4)], [], (hp tx pg (rd.1, rd.2.1, rd.2.2.1, rd.2.2.2.1, rd.2.2.2.2.1, vp_updL rd.2.2.2.2.2.1 x4.toNatClampNeg (((rd.2.2.2.2.2.1 x4.toNatClampNeg) ||| (rd.2.2.2.2.2.1 x3.toNatClampNeg))), rd.2.2.2.2.2.2.1, rd.2.2.2.2.2.2.2.1, rd.2.2.2.2.2.2.2.2) d e sw))) 2 (fun _ => rfl) hc ?_
        refine am_Ev.go 2 (st' := (30, [(0, .ref 5), (2, .int x2), (3, .int x3), (4, .int (x4 + 1))], [], (hp tx pg (rd.1, rd.2.1, rd.2.2.1, rd.2.2.2.1, rd.2.2.2.2.1, vp_updL rd.2.2.2.2.2.1 x4.toNatClampNeg (((rd.2.2.2.2.2.1 x4.toNatClampNeg) ||| (rd.2.2.2.2.2.1 x3.toNatClampNeg))), rd.2.2.2.2.2.2.1, rd.2.2.2.2.2.2.2.1, rd.2.2.2.2.2.2.2.2) d e sw))) (fun _ => rfl) ?_
        exact ih _ _ _ h
theorem ev_R_findRound_22_A {n0 : Nat} {tx : SB} {pg : SB} {e : SD} {sw : Bool} {x2 : Int32} {d : SD} {κ : SR → Option (SR)} (hκ : ∀ (rd : SR) (res : SR), κ rd = some res → am_Ev (tb_R_findRound (am_run cPT cML (n0 + 2))) (80, [(0, .ref 5), (2, .int x2)], [], (hp tx pg rd d e sw)) (none, (hp tx pg res d e sw))) : ∀ (n : Nat) (x3 : Int32) (rd : SR) (res : SR), fn_R_findRound_22 x2 d κ n x3 rd = some res → am_Ev (tb_R_findRound (am_run cPT cML (n0 + 2))) (22, [(0, .ref 5), (2, .int x2), (3, .int x3)], [], (hp tx pg rd d e sw)) (none, (hp tx pg res d e sw)) := by
  intro n
  induction n with
  | zero => intro x3 rd res h; unfold fn_R_findRound_22 at h; cases h
  | succ n ih =>
    intro x3 rd res h
    unfold fn_R_findRound_22 at h
    refine am_Ev.fork (b := decide (x2 ≤ x3)) (s1 := (80, [(0, .ref 5), (2, .int x2), (3, .int x3)], [], (hp tx pg rd d e sw))) (s2 := (27, [(0, .ref 5), (2, .int x2), (3, .int x3)], [], (hp tx pg rd d e sw))) 3 (fun _ => rfl) (fun hc => ?_) (fun hc => ?_)
    · have h := (am_ift hc).symm.trans h
      refine am_Ev.same (st' := (80, [(0, .ref 5), (2, .int x2)], [], (hp tx pg rd d e sw))) (fun _ => rfl) ?_
      exact hκ _ _ h
    · have h := (am_iff hc).symm.trans h
      refine am_Ev.go 2 (st' := (30, [(0, .ref 5), (2, .int x2), (3, .int x3), (4, .int 0)], [], (hp tx pg rd d e sw))) (fun _ => rfl) ?_
      refine ev_R_findRound_30_A ?_ _ _ _ _ h
      intro rd_3 res h
      try dsimp only at h
      refine am_Ev.go 2 (st' := (22, [(0, .ref 5), (2, .int x2), (3, .int (x3 + 1))], [], (hp tx pg rd_3 d e sw))) (fun _ => rfl) ?_
      exact ih _ _ _ h
theorem ev_R_findRound_A {n0 : Nat} {tx : SB} {pg : SB} {e : SD} {sw : Bool} {rd : SR} {d : SD} {res : SR} (h : fn_R_findRound rd d = some res) : am_run cPT cML (n0 + 3) 49 [.ref 5, .ref 13] (hp tx pg rd d e sw) = some (none, (hp tx pg res d e sw)) := by
  refine am_run_of (d := n0 + 2) rfl ?_
  show am_Ev (tb_R_findRound (am_run cPT cML (n0 + 2))) (0, [(0, .ref 5), (1, .ref 13)], [], (hp tx pg rd d e sw)) (none, (hp tx pg res d e sw))
  unfold fn_R_findRound at h
  obtain ⟨q3, hq, h⟩ := Option.bind_eq_some_iff.mp h
  refine am_Ev.go 2 (st' := (2, [(0, .ref 5), (1, .ref 13)], [.int 3, .ref 13], (hp tx pg rd d e sw))) (fun _ => rfl) ?_
  refine am_Ev.call (o := am_run cPT cML (n0 + 2) 7 [.ref 13, .int 3] (hp tx pg rd d e sw)) (kk := fun q => (5, [(0, .ref 5), (1, .ref 13)], q.1.toList ++ [], q.2)) (q := (some (.int q3), (hp tx pg rd d e sw))) 1 (fun _ => rfl) (ev_D_many_A hq) ?_
  obtain ⟨q4, hq, h⟩ := Option.bind_eq_some_iff.mp h
  refine am_Ev.go 8 (st' := (17, [(0, .ref 5), (1, .ref 13), (2, .int (if (60 : Int32) < q3 then (60 : Int32) else q3))], [.int (if (60 : Int32) < q3 then (60 : Int32) else q3), .ref 13, .ref 5], (hp tx pg rd d e sw))) (fun _ => rfl) ?_
  refine am_Ev.call (o := am_run cPT cML (n0 + 2) 50 [.ref 5, .ref 13, .int (if (60 : Int32) < q3 then (60 : Int32) else q3)] (hp tx pg rd d e sw)) (kk := fun q => (20, [(0, .ref 5), (1, .ref 13), (2, .int (if (60 : Int32) < q3 then (60 : Int32) else q3))], q.1.toList ++ [], q.2)) (q := (none, (hp tx pg q4 d e sw))) 1 (fun _ => rfl) (ev_R_noteWhatGatesRestOn_A hq) ?_
  refine am_Ev.go 2 (st' := (22, [(0, .ref 5), (1, .ref 13), (2, .int (if (60 : Int32) < q3 then (60 : Int32) else q3)), (3, .int 0)], [], (hp tx pg q4 d e sw))) (fun _ => rfl) ?_
  refine am_Ev.same (st' := (22, [(0, .ref 5), (2, .int (if (60 : Int32) < q3 then (60 : Int32) else q3)), (3, .int 0)], [], (hp tx pg q4 d e sw))) (fun _ => rfl) ?_
  refine ev_R_findRound_22_A ?_ _ _ _ _ h
  intro rd_6 res h
  try dsimp only at h
  refine am_Ev.go 2 (st' := (82, [(0, .ref 5), (2, .int (if (60 : Int32) < q3 then (60 : Int32) else q3)), (3, .int 0)], [], (hp tx pg rd_6 d e sw))) (fun _ => rfl) ?_
  refine ev_R_findRound_82_A ?_ _ _ _ _ h
  intro rd_7 res h
  try dsimp only at h
  cases h
  exact am_Ev.done 1 rfl
theorem ev_R_findRound_82_B {n0 : Nat} {tx : SB} {pg : SB} {e : SD} {sw : Bool} {x2 : Int32} {d : SD} {κ : SR → Option (SR)} (hκ : ∀ (rd : SR) (res : SR), κ rd = some res → am_Ev (tb_R_findRound (am_run cPT cML (n0 + 2))) (127, [], [], (hp tx pg rd e d sw)) (none, (hp tx pg res e d sw))) : ∀ (n : Nat) (x3 : Int32) (rd : SR) (res : SR), fn_R_findRound_82 x2 d κ n x3 rd = some res → am_Ev (tb_R_findRound (am_run cPT cML (n0 + 2))) (82, [(0, .ref 5), (2, .int x2), (3, .int x3)], [], (hp tx pg rd e d sw)) (none, (hp tx pg res e d sw)) := by
  intro n
  induction n with
  | zero => intro x3 rd res h; unfold fn_R_findRound_82 at h; cases h
  | succ n ih =>
    intro x3 rd res h
    unfold fn_R_findRound_82 at h
    refine am_Ev.fork (b := decide (x2 ≤ x3)) (s1 := (127, [(0, .ref 5), (2, .int x2), (3, .int x3)], [], (hp tx pg rd e d sw))) (s2 := (87, [(0, .ref 5), (2, .int x2), (3, .int x3)], [], (hp tx pg rd e d sw))) 3 (fun _ => rfl) (fun hc => ?_) (fun hc => ?_)
    · have h := (am_ift hc).symm.trans h
      refine am_Ev.same (st' := (127, [], [], (hp tx pg rd e d sw))) (fun _ => rfl) ?_
      exact hκ _ _ h
    · have h := (am_iff hc).symm.trans h
      refine am_Ev.fork (b := decide ((60 : Int32) ≤ x3)) (s1 := (127, [(0, .ref 5), (2, .int x2), (3, .int x3)], [], (hp tx pg rd e d sw))) (s2 := (96, [(0, .ref 5), (2, .int x2), (3, .int x3)], [], (hp tx pg rd e d sw))) 5 (fun _ => rfl) (fun hc => ?_) (fun hc => ?_)
      · have h := (am_ift hc).symm.trans h
        refine am_Ev.same (st' := (127, [], [], (hp tx pg rd e d sw))) (fun _ => rfl) ?_
        exact hκ _ _ h
      · have h := (am_iff hc).symm.trans h
        obtain ⟨hc, h⟩ := am_ifn h
        refine am_Ev.guard (b := decide (0 ≤ x3.toInt ∧ x3.toInt < (60 : Int))) (s1 := (102, [(0, .ref 5), (2, .int x2), (3, .int x3)], [.long (rd.2.2.2.2.2.1 x3.toNatClampNeg)], (hp tx pg rd e d sw))) 4 (fun _ => rfl) hc ?_
        refine am_Ev.fork (b := decide ((lg_cmp ((((rd.2.2.2.2.2.1 x3.toNatClampNeg).toUInt64 >>> (x3.toInt64.toUInt64 &&& Int64.toUInt64 63)).toInt64) &&& (1 : Int64)) (0 : Int64)) = 0)) (s1 := (121, [(0, .ref 5), (2, .int x2), (3, .int x3)], [], (hp tx pg rd e d sw))) (s2 := (111, [(0, .ref 5), (2, .int x2), (3, .int x3)], [], (hp tx pg rd e d sw))) 7 (fun _ => rfl) (fun hc => ?_) (fun hc => ?_)
        · have h := (am_ift hc).symm.trans h
          refine am_Ev.go 2 (st' := (82, [(0, .ref 5), (2, .int x2), (3, .int (x3 + 1))], [], (hp tx pg rd e d sw))) (fun _ => rfl) ?_
          exact ih _ _ _ h
        · have h := (am_iff hc).symm.trans h
          obtain ⟨hc, h⟩ := am_ifn h
          refine am_Ev.guard (b := decide (0 ≤ x3.toInt ∧ x3.toInt < (60 : Int))) (s1 := (118, [(0, .ref 5), (2, .int x2), (3, .int x3)], [.int (rd.2.2.2.1 x3.toNatClampNeg), .ref 5], (hp tx pg rd e d sw))) 5 (fun _ => rfl) hc ?_
          obtain ⟨q1, hq, h⟩ := Option.bind_eq_some_iff.mp h
          refine am_Ev.call (o := am_run cPT cML (n0 + 2) 60 [.ref 5, .int (rd.2.2.2.1 x3.toNatClampNeg)] (hp tx pg rd e d sw)) (kk := fun q => (121, [(0, .ref 5), (2, .int x2), (3, .int x3)], q.1.toList ++ [], q.2)) (q := (none, (hp tx pg q1 e d sw))) 1 (fun _ => rfl) (ev_R_fail_v hq) ?_
          refine am_Ev.go 2 (st' := (82, [(0, .ref 5), (2, .int x2), (3, .int (x3 + 1))], [], (hp tx pg q1 e d sw))) (fun _ => rfl) ?_
          exact ih _ _ _ h
theorem ev_R_findRound_30_B {n0 : Nat} {tx : SB} {pg : SB} {e : SD} {sw : Bool} {x2 : Int32} {x3 : Int32} {d : SD} {κ : SR → Option (SR)} (hκ : ∀ (rd : SR) (res : SR), κ rd = some res → am_Ev (tb_R_findRound (am_run cPT cML (n0 + 2))) (74, [(0, .ref 5), (2, .int x2), (3, .int x3)], [], (hp tx pg rd e d sw)) (none, (hp tx pg res e d sw))) : ∀ (n : Nat) (x4 : Int32) (rd : SR) (res : SR), fn_R_findRound_30 x2 x3 d κ n x4 rd = some res → am_Ev (tb_R_findRound (am_run cPT cML (n0 + 2))) (30, [(0, .ref 5), (2, .int x2), (3, .int x3), (4, .int x4)], [], (hp tx pg rd e d sw)) (none, (hp tx pg res e d sw)) := by
  intro n
  induction n with
  | zero => intro x4 rd res h; unfold fn_R_findRound_30 at h; cases h
  | succ n ih =>
    intro x4 rd res h
    unfold fn_R_findRound_30 at h
    refine am_Ev.fork (b := decide (x2 ≤ x4)) (s1 := (74, [(0, .ref 5), (2, .int x2), (3, .int x3), (4, .int x4)], [], (hp tx pg rd e d sw))) (s2 := (36, [(0, .ref 5), (2, .int x2), (3, .int x3), (4, .int x4)], [], (hp tx pg rd e d sw))) 3 (fun _ => rfl) (fun hc => ?_) (fun hc => ?_)
    · have h := (am_ift hc).symm.trans h
      refine am_Ev.same (st' := (74, [(0, .ref 5), (2, .int x2), (3, .int x3)], [], (hp tx pg rd e d sw))) (fun _ => rfl) ?_
      exact hκ _ _ h
    · have h := (am_iff hc).symm.trans h
      obtain ⟨hc, h⟩ := am_ifn h
      refine am_Ev.guard (b := decide (0 ≤ x4.toInt ∧ x4.toInt < (60 : Int))) (s1 := (43, [(0, .ref 5), (2, .int x2), (3, .int x3), (4, .int x4)], [.long (rd.2.2.2.2.2.1 x4.toNatClampNeg)], (hp tx pg rd e d sw))) 4 (fun _ => rfl) hc ?_
      refine am_Ev.fork (b := decide ((lg_cmp ((((rd.2.2.2.2.2.1 x4.toNatClampNeg).toUInt64 >>> (x3.toInt64.toUInt64 &&& Int64.toUInt64 63)).toInt64) &&& (1 : Int64)) (0 : Int64)) = 0)) (s1 := (68, [(0, .ref 5), (2, .int x2), (3, .int x3), (4, .int x4)], [], (hp tx pg rd e d sw))) (s2 := (52, [(0, .ref 5), (2, .int x2), (3, .int x3), (4, .int x4)], [], (hp tx pg rd e d sw))) 7 (fun _ => rfl) (fun hc => ?_) (fun hc => ?_)
      · have h := (am_ift hc).symm.trans h
        refine am_Ev.go 2 (st' := (30, [(0, .ref 5), (2, .int x2), (3, .int x3), (4, .int (x4 + 1))], [], (hp tx pg rd e d sw))) (fun _ => rfl) ?_
        exact ih _ _ _ h
      · have h := (am_iff hc).symm.trans h
        obtain ⟨hc, h⟩ := am_ifn h
        refine am_Ev.guard (b := decide (0 ≤ x4.toInt ∧ x4.toInt < (60 : Int))) (s1 := (60, [(0, .ref 5), (2, .int x2), (3, .int x3), (4, .int x4)], [.long (rd.2.2.2.2.2.1 x4.toNatClampNeg), .int x4, .ref 11], (hp tx pg rd e d sw))) 5 (fun _ => rfl) hc ?_
        obtain ⟨hc, h⟩ := am_ifn h
        refine am_Ev.guard (b := decide (0 ≤ x3.toInt ∧ x3.toInt < (60 : Int))) (s1 := (66, [(0, .ref 5), (2, .int x2), (3, .int x3), (4, .int x4)], [.long (rd.2.2.2.2.2.1 x3.toNatClampNeg), .long (rd.2.2.2.2.2.1 x4.toNatClampNeg), .int x4, .ref 11], (hp tx pg rd e d sw))) 4 (fun _ => rfl) hc ?_
        obtain ⟨hc, h⟩ := am_ifn h
        refine am_Ev.guard (b := decide (0 ≤ x4.toInt ∧ x4.toInt < (60 : Int))) (s1 := (68, [(0, .ref 5), (2, .int x2), (3, .int x3), (4, .int x4)], [], (hp tx pg (rd.1, rd.2.1, rd.2.2.1, rd.2.2.2.1, rd.2.2.2.2.1, vp_updL rd.2.2.2.2.2.1 x4.toNatClampNeg (((rd.2.2.2.2.2.1 x4.toNatClampNeg) ||| (rd.2.2.2.2.2.1 x3.toNatClampNeg))), rd.2.2.2.2.2.2.1, rd.2.2.2.2.2.2.2.1, rd.2.2.2.2.2.2.2.2) e d sw))) 2 (fun _ => rfl) hc ?_
        refine am_Ev.go 2 (st' := (30, [(0, .ref 5), (2, .int x2), (3, .int x3), (4, .int (x4 + 1))], [], (hp tx pg (rd.1, rd.2.1, rd.2.2.1, rd.2.2.2.1, rd.2.2.2.2.1, vp_updL rd.2.2.2.2.2.1 x4.toNatClampNeg (((rd.2.2.2.2.2.1 x4.toNatClampNeg) ||| (rd.2.2.2.2.2.1 x3.toNatClampNeg))), rd.2.2.2.2.2.2.1, rd.2.2.2.2.2.2.2.1, rd.2.2.2.2.2.2.2.2) e d sw))) (fun _ => rfl) ?_
        exact ih _ _ _ h
theorem ev_R_findRound_22_B {n0 : Nat} {tx : SB} {pg : SB} {e : SD} {sw : Bool} {x2 : Int32} {d : SD} {κ : SR → Option (SR)} (hκ : ∀ (rd : SR) (res : SR), κ rd = some res → am_Ev (tb_R_findRound (am_run cPT cML (n0 + 2))) (80, [(0, .ref 5), (2, .int x2)], [], (hp tx pg rd e d sw)) (none, (hp tx pg res e d sw))) : ∀ (n : Nat) (x3 : Int32) (rd : SR) (res : SR), fn_R_findRound_22 x2 d κ n x3 rd = some res → am_Ev (tb_R_findRound (am_run cPT cML (n0 + 2))) (22, [(0, .ref 5), (2, .int x2), (3, .int x3)], [], (hp tx pg rd e d sw)) (none, (hp tx pg res e d sw)) := by
  intro n
  induction n with
  | zero => intro x3 rd res h; unfold fn_R_findRound_22 at h; cases h
  | succ n ih =>
    intro x3 rd res h
    unfold fn_R_findRound_22 at h
    refine am_Ev.fork (b := decide (x2 ≤ x3)) (s1 := (80, [(0, .ref 5), (2, .int x2), (3, .int x3)], [], (hp tx pg rd e d sw))) (s2 := (27, [(0, .ref 5), (2, .int x2), (3, .int x3)], [], (hp tx pg rd e d sw))) 3 (fun _ => rfl) (fun hc => ?_) (fun hc => ?_)
    · have h := (am_ift hc).symm.trans h
      refine am_Ev.same (st' := (80, [(0, .ref 5), (2, .int x2)], [], (hp tx pg rd e d sw))) (fun _ => rfl) ?_
      exact hκ _ _ h
    · have h := (am_iff hc).symm.trans h
      refine am_Ev.go 2 (st' := (30, [(0, .ref 5), (2, .int x2), (3, .int x3), (4, .int 0)], [], (hp tx pg rd e d sw))) (fun _ => rfl) ?_
      refine ev_R_findRound_30_B ?_ _ _ _ _ h
      intro rd_3 res h
      try dsimp only at h
      refine am_Ev.go 2 (st' := (22, [(0, .ref 5), (2, .int x2), (3, .int (x3 + 1))], [], (hp tx pg rd_3 e d sw))) (fun _ => rfl) ?_
      exact ih _ _ _ h
theorem ev_R_findRound_B {n0 : Nat} {tx : SB} {pg : SB} {e : SD} {sw : Bool} {rd : SR} {d : SD} {res : SR} (h : fn_R_findRound rd d = some res) : am_run cPT cML (n0 + 3) 49 [.ref 5, .ref 26] (hp tx pg rd e d sw) = some (none, (hp tx pg res e d sw)) := by
  refine am_run_of (d := n0 + 2) rfl ?_
  show am_Ev (tb_R_findRound (am_run cPT cML (n0 + 2))) (0, [(0, .ref 5), (1, .ref 26)], [], (hp tx pg rd e d sw)) (none, (hp tx pg res e d sw))
  unfold fn_R_findRound at h
  obtain ⟨q3, hq, h⟩ := Option.bind_eq_some_iff.mp h
  refine am_Ev.go 2 (st' := (2, [(0, .ref 5), (1, .ref 26)], [.int 3, .ref 26], (hp tx pg rd e d sw))) (fun _ => rfl) ?_
  refine am_Ev.call (o := am_run cPT cML (n0 + 2) 7 [.ref 26, .int 3] (hp tx pg rd e d sw)) (kk := fun q => (5, [(0, .ref 5), (1, .ref 26)], q.1.toList ++ [], q.2)) (q := (some (.int q3), (hp tx pg rd e d sw))) 1 (fun _ => rfl) (ev_D_many_B hq) ?_
  obtain ⟨q4, hq, h⟩ := Option.bind_eq_some_iff.mp h
  refine am_Ev.go 8 (st' := (17, [(0, .ref 5), (1, .ref 26), (2, .int (if (60 : Int32) < q3 then (60 : Int32) else q3))], [.int (if (60 : Int32) < q3 then (60 : Int32) else q3), .ref 26, .ref 5], (hp tx pg rd e d sw))) (fun _ => rfl) ?_
  refine am_Ev.call (o := am_run cPT cML (n0 + 2) 50 [.ref 5, .ref 26, .int (if (60 : Int32) < q3 then (60 : Int32) else q3)] (hp tx pg rd e d sw)) (kk := fun q => (20, [(0, .ref 5), (1, .ref 26), (2, .int (if (60 : Int32) < q3 then (60 : Int32) else q3))], q.1.toList ++ [], q.2)) (q := (none, (hp tx pg q4 e d sw))) 1 (fun _ => rfl) (ev_R_noteWhatGatesRestOn_B hq) ?_
  refine am_Ev.go 2 (st' := (22, [(0, .ref 5), (1, .ref 26), (2, .int (if (60 : Int32) < q3 then (60 : Int32) else q3)), (3, .int 0)], [], (hp tx pg q4 e d sw))) (fun _ => rfl) ?_
  refine am_Ev.same (st' := (22, [(0, .ref 5), (2, .int (if (60 : Int32) < q3 then (60 : Int32) else q3)), (3, .int 0)], [], (hp tx pg q4 e d sw))) (fun _ => rfl) ?_
  refine ev_R_findRound_22_B ?_ _ _ _ _ h
  intro rd_6 res h
  try dsimp only at h
  refine am_Ev.go 2 (st' := (82, [(0, .ref 5), (2, .int (if (60 : Int32) < q3 then (60 : Int32) else q3)), (3, .int 0)], [], (hp tx pg rd_6 e d sw))) (fun _ => rfl) ?_
  refine ev_R_findRound_82_B ?_ _ _ _ _ h
  intro rd_7 res h
  try dsimp only at h
  cases h
  exact am_Ev.done 1 rfl
theorem ev_R_definition_47_v {n0 : Nat} {pg : SB} {a : SD} {b : SD} {sw : Bool} {x2 : Int32} {tx : SB} {rd : SR} {res : Int32 × SR} (h : fn_R_definition_47 x2 tx rd = some res) : am_Ev (tb_R_definition (am_run cPT cML (n0 + 2))) (47, [(0, .ref 5), (2, .int x2)], [], (hp tx pg rd a b sw)) (some (.int res.1), (hp tx pg res.2 a b sw)) := by
  unfold fn_R_definition_47 at h
  obtain ⟨q1, hq, h⟩ := Option.bind_eq_some_iff.mp h
  refine am_Ev.go 2 (st' := (49, [(0, .ref 5), (2, .int x2)], [.int x2, .ref 5], (hp tx pg rd a b sw))) (fun _ => rfl) ?_
  refine am_Ev.call (o := am_run cPT cML (n0 + 2) 60 [.ref 5, .int x2] (hp tx pg rd a b sw)) (kk := fun q => (52, [(0, .ref 5), (2, .int x2)], q.1.toList ++ [], q.2)) (q := (none, (hp tx pg q1 a b sw))) 1 (fun _ => rfl) (ev_R_fail_v hq) ?_
  cases h
  exact am_Ev.done 2 rfl
theorem ev_R_definition_v {n0 : Nat} {pg : SB} {a : SD} {b : SD} {sw : Bool} {x1 : Int32} {tx : SB} {rd : SR} {res : Int32 × SR} (h : fn_R_definition x1 tx rd = some res) : am_run cPT cML (n0 + 3) 52 [.ref 5, .int x1] (hp tx pg rd a b sw) = some (some (.int res.1), (hp tx pg res.2 a b sw)) := by
  refine am_run_of (d := n0 + 2) rfl ?_
  show am_Ev (tb_R_definition (am_run cPT cML (n0 + 2))) (0, [(0, .ref 5), (1, .int x1)], [], (hp tx pg rd a b sw)) (some (.int res.1), (hp tx pg res.2 a b sw))
  unfold fn_R_definition at h
  obtain ⟨q2, hq, h⟩ := Option.bind_eq_some_iff.mp h
  refine am_Ev.go 5 (st' := (7, [(0, .ref 5), (1, .int x1), (2, .int rd.2.2.2.2.2.2.2.1)], [.int x1, .ref 5], (hp tx pg rd a b sw))) (fun _ => rfl) ?_
  refine am_Ev.call (o := am_run cPT cML (n0 + 2) 56 [.ref 5, .int x1] (hp tx pg rd a b sw)) (kk := fun q => (10, [(0, .ref 5), (1, .int x1), (2, .int rd.2.2.2.2.2.2.2.1)], q.1.toList ++ [], q.2)) (q := (some (.int q2.1), (hp tx pg q2.2 a b sw))) 1 (fun _ => rfl) (ev_R_number_v hq) ?_
  refine am_Ev.fork (b := decide ((q2.1 >>> ((1 : Int32) &&& 31)) ≤ 0)) (s1 := (47, [(0, .ref 5), (1, .int x1), (2, .int rd.2.2.2.2.2.2.2.1), (3, .int q2.1), (4, .int (q2.1 >>> ((1 : Int32) &&& 31)))], [], (hp tx pg q2.2 a b sw))) (s2 := (21, [(0, .ref 5), (1, .int x1), (2, .int rd.2.2.2.2.2.2.2.1), (3, .int q2.1), (4, .int (q2.1 >>> ((1 : Int32) &&& 31)))], [], (hp tx pg q2.2 a b sw))) 7 (fun _ => rfl) (fun hc => ?_) (fun hc => ?_)
  · have h := (am_ift hc).symm.trans h
    refine am_Ev.same (st' := (47, [(0, .ref 5), (2, .int rd.2.2.2.2.2.2.2.1)], [], (hp tx pg q2.2 a b sw))) (fun _ => rfl) ?_
    exact ev_R_definition_47_v h
  · have h := (am_iff hc).symm.trans h
    refine am_Ev.fork (b := decide ((100 : Int32) ≤ (q2.1 >>> ((1 : Int32) &&& 31)))) (s1 := (47, [(0, .ref 5), (1, .int x1), (2, .int rd.2.2.2.2.2.2.2.1), (3, .int q2.1), (4, .int (q2.1 >>> ((1 : Int32) &&& 31)))], [], (hp tx pg q2.2 a b sw))) (s2 := (31, [(0, .ref 5), (1, .int x1), (2, .int rd.2.2.2.2.2.2.2.1), (3, .int q2.1), (4, .int (q2.1 >>> ((1 : Int32) &&& 31)))], [], (hp tx pg q2.2 a b sw))) 5 (fun _ => rfl) (fun hc => ?_) (fun hc => ?_)
    · have h := (am_ift hc).symm.trans h
      refine am_Ev.same (st' := (47, [(0, .ref 5), (2, .int rd.2.2.2.2.2.2.2.1)], [], (hp tx pg q2.2 a b sw))) (fun _ => rfl) ?_
      exact ev_R_definition_47_v h
    · have h := (am_iff hc).symm.trans h
      refine am_Ev.fork (b := decide ((q2.1 &&& (1 : Int32)) = 0)) (s1 := (37, [(0, .ref 5), (1, .int x1), (2, .int rd.2.2.2.2.2.2.2.1), (3, .int q2.1), (4, .int (q2.1 >>> ((1 : Int32) &&& 31)))], [], (hp tx pg q2.2 a b sw))) (s2 := (47, [(0, .ref 5), (1, .int x1), (2, .int rd.2.2.2.2.2.2.2.1), (3, .int q2.1), (4, .int (q2.1 >>> ((1 : Int32) &&& 31)))], [], (hp tx pg q2.2 a b sw))) 4 (fun _ => rfl) (fun hc => ?_) (fun hc => ?_)
      · have h := (am_ift hc).symm.trans h
        obtain ⟨hc, h⟩ := am_ifn h
        refine am_Ev.guard (b := decide (0 ≤ (q2.1 >>> ((1 : Int32) &&& 31)).toInt ∧ (q2.1 >>> ((1 : Int32) &&& 31)).toInt < (100 : Int))) (s1 := (44, [(0, .ref 5), (1, .int x1), (2, .int rd.2.2.2.2.2.2.2.1), (3, .int q2.1), (4, .int (q2.1 >>> ((1 : Int32) &&& 31)))], [.int (q2.2.1 ((q2.1 >>> ((1 : Int32) &&& 31)).toNatClampNeg))], (hp tx pg q2.2 a b sw))) 4 (fun _ => rfl) hc ?_
        refine am_Ev.fork (b := decide ((q2.2.1 ((q2.1 >>> ((1 : Int32) &&& 31)).toNatClampNeg)) = 0)) (s1 := (54, [(0, .ref 5), (1, .int x1), (2, .int rd.2.2.2.2.2.2.2.1), (3, .int q2.1), (4, .int (q2.1 >>> ((1 : Int32) &&& 31)))], [], (hp tx pg q2.2 a b sw))) (s2 := (47, [(0, .ref 5), (1, .int x1), (2, .int rd.2.2.2.2.2.2.2.1), (3, .int q2.1), (4, .int (q2.1 >>> ((1 : Int32) &&& 31)))], [], (hp tx pg q2.2 a b sw))) 1 (fun _ => rfl) (fun hc => ?_) (fun hc => ?_)
        · have h := (am_ift hc).symm.trans h
          obtain ⟨hc, h⟩ := am_ifn h
          refine am_Ev.guard (b := decide (0 ≤ (q2.1 >>> ((1 : Int32) &&& 31)).toInt ∧ (q2.1 >>> ((1 : Int32) &&& 31)).toInt < (100 : Int))) (s1 := (62, [(0, .ref 5), (1, .int x1), (2, .int rd.2.2.2.2.2.2.2.1), (3, .int q2.1), (4, .int (q2.1 >>> ((1 : Int32) &&& 31)))], [], (hp tx pg (upd q2.2.1 (q2.1 >>> ((1 : Int32) &&& 31)).toNatClampNeg (vp_nar .boolean (1 : Int32)), q2.2.2.1, q2.2.2.2.1, q2.2.2.2.2.1, q2.2.2.2.2.2.1, q2.2.2.2.2.2.2.1, q2.2.2.2.2.2.2.2.1, q2.2.2.2.2.2.2.2.2.1, q2.2.2.2.2.2.2.2.2.2) a b sw))) 5 (fun _ => rfl) hc ?_
          cases h
          exact am_Ev.done 2 rfl
        · have h := (am_iff hc).symm.trans h
          refine am_Ev.same (st' := (47, [(0, .ref 5), (2, .int rd.2.2.2.2.2.2.2.1)], [], (hp tx pg q2.2 a b sw))) (fun _ => rfl) ?_
          exact ev_R_definition_47_v h
      · have h := (am_iff hc).symm.trans h
        refine am_Ev.same (st' := (47, [(0, .ref 5), (2, .int rd.2.2.2.2.2.2.2.1)], [], (hp tx pg q2.2 a b sw))) (fun _ => rfl) ?_
        exact ev_R_definition_47_v h
