theorem ev_R_use_v {n0 : Nat} {pg : SB} {a : SD} {b : SD} {sw : Bool} {x1 : Int32} {tx : SB} {rd : SR} {res : Int32 × SR} (h : fn_R_use x1 tx rd = some res) : am_run cPT cML (n0 + 3) 53 [.ref 5, .int x1] (hp tx pg rd a b sw) = some (some (.int res.1), (hp tx pg res.2 a b sw)) := by
  refine am_run_of (d := n0 + 2) rfl ?_
  show am_Ev (tb_R_use (am_run cPT cML (n0 + 2))) (0, [(0, .ref 5), (1, .int x1)], [], (hp tx pg rd a b sw)) (some (.int res.1), (hp tx pg res.2 a b sw))
  unfold fn_R_use at h
  obtain ⟨q1, hq, h⟩ := Option.bind_eq_some_iff.mp h
  refine am_Ev.go 5 (st' := (7, [(0, .ref 5), (1, .int x1), (2, .int rd.2.2.2.2.2.2.2.1)], [.int x1, .ref 5], (hp tx pg rd a b sw))) (fun _ => rfl) ?_
  refine am_Ev.call (o := am_run cPT cML (n0 + 2) 56 [.ref 5, .int x1] (hp tx pg rd a b sw)) (kk := fun q => (10, [(0, .ref 5), (1, .int x1), (2, .int rd.2.2.2.2.2.2.2.1)], q.1.toList ++ [], q.2)) (q := (some (.int q1.1), (hp tx pg q1.2 a b sw))) 1 (fun _ => rfl) (ev_R_number_v hq) ?_
  refine am_Ev.fork (b := decide (q1.2.2.2.2.2.2.2.1 < 0)) (s1 := (72, [(0, .ref 5), (1, .int x1), (2, .int rd.2.2.2.2.2.2.2.1), (3, .int q1.1)], [], (hp tx pg q1.2 a b sw))) (s2 := (18, [(0, .ref 5), (1, .int x1), (2, .int rd.2.2.2.2.2.2.2.1), (3, .int q1.1)], [], (hp tx pg q1.2 a b sw))) 4 (fun _ => rfl) (fun hc => ?_) (fun hc => ?_)
  · have h := (am_ift hc).symm.trans h
    cases h
    exact am_Ev.done 2 rfl
  · have h := (am_iff hc).symm.trans h
    refine am_Ev.fork (b := decide ((136 : Int32) ≤ q1.2.2.2.2.2.2.2.1)) (s1 := (72, [(0, .ref 5), (1, .int x1), (2, .int rd.2.2.2.2.2.2.2.1), (3, .int q1.1)], [], (hp tx pg q1.2 a b sw))) (s2 := (30, [(0, .ref 5), (1, .int x1), (2, .int rd.2.2.2.2.2.2.2.1), (3, .int q1.1)], [], (hp tx pg q1.2 a b sw))) 6 (fun _ => rfl) (fun hc => ?_) (fun hc => ?_)
    · have h := (am_ift hc).symm.trans h
      cases h
      exact am_Ev.done 2 rfl
    · have h := (am_iff hc).symm.trans h
      refine am_Ev.fork (b := decide ((136 : Int32) ≤ q1.2.2.2.2.2.2.2.1)) (s1 := (72, [(0, .ref 5), (1, .int x1), (2, .int rd.2.2.2.2.2.2.2.1), (3, .int q1.1)], [], (hp tx pg q1.2 a b sw))) (s2 := (42, [(0, .ref 5), (1, .int x1), (2, .int rd.2.2.2.2.2.2.2.1), (3, .int q1.1)], [], (hp tx pg q1.2 a b sw))) 6 (fun _ => rfl) (fun hc => ?_) (fun hc => ?_)
      · have h := (am_ift hc).symm.trans h
        cases h
        exact am_Ev.done 2 rfl
      · have h := (am_iff hc).symm.trans h
        obtain ⟨hc, h⟩ := am_ifn h
        refine am_Ev.guard (b := decide (0 ≤ q1.2.2.2.2.2.2.2.1.toInt ∧ q1.2.2.2.2.2.2.2.1.toInt < (136 : Int))) (s1 := (52, [(0, .ref 5), (1, .int x1), (2, .int rd.2.2.2.2.2.2.2.1), (3, .int q1.1)], [], (hp tx pg (q1.2.1, upd q1.2.2.1 q1.2.2.2.2.2.2.2.1.toNatClampNeg q1.1, q1.2.2.2.1, q1.2.2.2.2.1, q1.2.2.2.2.2.1, q1.2.2.2.2.2.2.1, q1.2.2.2.2.2.2.2.1, q1.2.2.2.2.2.2.2.2.1, q1.2.2.2.2.2.2.2.2.2) a b sw))) 6 (fun _ => rfl) hc ?_
        obtain ⟨hc, h⟩ := am_ifn h
        refine am_Ev.guard (b := decide (0 ≤ q1.2.2.2.2.2.2.2.1.toInt ∧ q1.2.2.2.2.2.2.2.1.toInt < (136 : Int))) (s1 := (62, [(0, .ref 5), (1, .int x1), (2, .int rd.2.2.2.2.2.2.2.1), (3, .int q1.1)], [], (hp tx pg (q1.2.1, upd q1.2.2.1 q1.2.2.2.2.2.2.2.1.toNatClampNeg q1.1, upd q1.2.2.2.1 q1.2.2.2.2.2.2.2.1.toNatClampNeg rd.2.2.2.2.2.2.2.1, q1.2.2.2.2.1, q1.2.2.2.2.2.1, q1.2.2.2.2.2.2.1, q1.2.2.2.2.2.2.2.1, q1.2.2.2.2.2.2.2.2.1, q1.2.2.2.2.2.2.2.2.2) a b sw))) 6 (fun _ => rfl) hc ?_
        cases h
        exact am_Ev.done 8 rfl
theorem ev_R_blankAndNumber_v {n0 : Nat} {pg : SB} {a : SD} {b : SD} {sw : Bool} {x1 : Int32} {tx : SB} {rd : SR} {res : Int32 × SR} (h : fn_R_blankAndNumber x1 tx rd = some res) : am_run cPT cML (n0 + 3) 55 [.ref 5, .int x1] (hp tx pg rd a b sw) = some (some (.int res.1), (hp tx pg res.2 a b sw)) := by
  refine am_run_of (d := n0 + 2) rfl ?_
  show am_Ev (tb_R_blankAndNumber (am_run cPT cML (n0 + 2))) (0, [(0, .ref 5), (1, .int x1)], [], (hp tx pg rd a b sw)) (some (.int res.1), (hp tx pg res.2 a b sw))
  unfold fn_R_blankAndNumber at h
  obtain ⟨q1, hq, h⟩ := Option.bind_eq_some_iff.mp h
  refine am_Ev.go 2 (st' := (3, [(0, .ref 5), (1, .int x1)], [.int 32, .ref 5], (hp tx pg rd a b sw))) (fun _ => rfl) ?_
  refine am_Ev.call (o := am_run cPT cML (n0 + 2) 59 [.ref 5, .int 32] (hp tx pg rd a b sw)) (kk := fun q => (6, [(0, .ref 5), (1, .int x1)], q.1.toList ++ [], q.2)) (q := (none, (hp tx pg q1 a b sw))) 1 (fun _ => rfl) (ev_R_expect_v hq) ?_
  obtain ⟨q2, hq, h⟩ := Option.bind_eq_some_iff.mp h
  refine am_Ev.go 2 (st' := (8, [(0, .ref 5), (1, .int x1)], [.int x1, .ref 5], (hp tx pg q1 a b sw))) (fun _ => rfl) ?_
  refine am_Ev.call (o := am_run cPT cML (n0 + 2) 56 [.ref 5, .int x1] (hp tx pg q1 a b sw)) (kk := fun q => (11, [(0, .ref 5), (1, .int x1)], q.1.toList ++ [], q.2)) (q := (some (.int q2.1), (hp tx pg q2.2 a b sw))) 1 (fun _ => rfl) (ev_R_number_v hq) ?_
  cases h
  exact am_Ev.done 1 rfl
theorem ev_T_reset_A {n0 : Nat} {tx : SB} {pg : SB} {rd : SR} {e : SD} {d : SD} {res : SD} (h : fn_T_reset d = some res) : am_run cPT cML (n0 + 3) 64 [.ref 0] (hp tx pg rd d e false) = some (none, (hp tx pg rd res e false)) := by
  refine am_run_of (d := n0 + 2) rfl ?_
  show am_Ev (tb_T_reset (am_run cPT cML (n0 + 2))) (0, [(0, .ref 0)], [], (hp tx pg rd d e false)) (none, (hp tx pg rd res e false))
  unfold fn_T_reset at h
  obtain ⟨q1, hq, h⟩ := Option.bind_eq_some_iff.mp h
  refine am_Ev.go 2 (st' := (4, [(0, .ref 0)], [.ref 13], (hp tx pg rd d e false))) (fun _ => rfl) ?_
  refine am_Ev.call (o := am_run cPT cML (n0 + 2) 12 [.ref 13] (hp tx pg rd d e false)) (kk := fun q => (7, [(0, .ref 0)], q.1.toList ++ [], q.2)) (q := (none, (hp tx pg rd q1 e false))) 1 (fun _ => rfl) (ev_D_restart_A hq) ?_
  cases h
  exact am_Ev.done 1 rfl
theorem ev_T_reset_B {n0 : Nat} {tx : SB} {pg : SB} {rd : SR} {e : SD} {d : SD} {res : SD} (h : fn_T_reset d = some res) : am_run cPT cML (n0 + 3) 64 [.ref 0] (hp tx pg rd e d true) = some (none, (hp tx pg rd e res true)) := by
  refine am_run_of (d := n0 + 2) rfl ?_
  show am_Ev (tb_T_reset (am_run cPT cML (n0 + 2))) (0, [(0, .ref 0)], [], (hp tx pg rd e d true)) (none, (hp tx pg rd e res true))
  unfold fn_T_reset at h
  obtain ⟨q1, hq, h⟩ := Option.bind_eq_some_iff.mp h
  refine am_Ev.go 2 (st' := (4, [(0, .ref 0)], [.ref 26], (hp tx pg rd e d true))) (fun _ => rfl) ?_
  refine am_Ev.call (o := am_run cPT cML (n0 + 2) 12 [.ref 26] (hp tx pg rd e d true)) (kk := fun q => (7, [(0, .ref 0)], q.1.toList ++ [], q.2)) (q := (none, (hp tx pg rd e q1 true))) 1 (fun _ => rfl) (ev_D_restart_B hq) ?_
  cases h
  exact am_Ev.done 1 rfl
theorem ev_D_step_75_A {n0 : Nat} {tx : SB} {pg : SB} {rd : SR} {e : SD} {sw : Bool} {κ : SD → Option (Int32 × SD)} (hκ : ∀ (d : SD) (res : Int32 × SD), κ d = some res → am_Ev (tb_D_step (am_run cPT cML (n0 + 3))) (129, [(0, .ref 13)], [], (hp tx pg rd d e sw)) (some (.int res.1), (hp tx pg rd res.2 e sw))) : ∀ (n : Nat) (x2 : Int32) (d : SD) (res : Int32 × SD), fn_D_step_75 κ n x2 d = some res → am_Ev (tb_D_step (am_run cPT cML (n0 + 3))) (75, [(0, .ref 13), (2, .int x2)], [], (hp tx pg rd d e sw)) (some (.int res.1), (hp tx pg rd res.2 e sw)) := by
  intro n
  induction n with
  | zero => intro x2 d res h; unfold fn_D_step_75 at h; cases h
  | succ n ih =>
    intro x2 d res h
    unfold fn_D_step_75 at h
    obtain ⟨q1, hq, h⟩ := Option.bind_eq_some_iff.mp h
    refine am_Ev.go 3 (st' := (78, [(0, .ref 13), (2, .int x2)], [.int 3, .ref 13, .int x2], (hp tx pg rd d e sw))) (fun _ => rfl) ?_
    refine am_Ev.call (o := am_run cPT cML (n0 + 3) 7 [.ref 13, .int 3] (hp tx pg rd d e sw)) (kk := fun q => (81, [(0, .ref 13), (2, .int x2)], q.1.toList ++ [.int x2], q.2)) (q := (some (.int q1), (hp tx pg rd d e sw))) 1 (fun _ => rfl) (ev_D_many_A hq) ?_
    refine am_Ev.fork (b := decide (q1 ≤ x2)) (s1 := (129, [(0, .ref 13), (2, .int x2)], [], (hp tx pg rd d e sw))) (s2 := (84, [(0, .ref 13), (2, .int x2)], [], (hp tx pg rd d e sw))) 1 (fun _ => rfl) (fun hc => ?_) (fun hc => ?_)
    · have h := (am_ift hc).symm.trans h
      refine am_Ev.same (st' := (129, [(0, .ref 13)], [], (hp tx pg rd d e sw))) (fun _ => rfl) ?_
      exact hκ _ _ h
    · have h := (am_iff hc).symm.trans h
      obtain ⟨q2, hq, h⟩ := Option.bind_eq_some_iff.mp h
      refine am_Ev.go 2 (st' := (86, [(0, .ref 13), (2, .int x2)], [.int x2, .ref 13], (hp tx pg rd d e sw))) (fun _ => rfl) ?_
      refine am_Ev.call (o := am_run cPT cML (n0 + 3) 23 [.ref 13, .int x2] (hp tx pg rd d e sw)) (kk := fun q => (89, [(0, .ref 13), (2, .int x2)], q.1.toList ++ [], q.2)) (q := (some (.int q2), (hp tx pg rd d e sw))) 1 (fun _ => rfl) (ev_D_inSequence_A hq) ?_
      obtain ⟨q3, hq, h⟩ := Option.bind_eq_some_iff.mp h
      refine am_Ev.go 5 (st' := (94, [(0, .ref 13), (2, .int x2), (3, .int q2)], [.int q2, .int 3, .ref 13, .ref 13], (hp tx pg rd d e sw))) (fun _ => rfl) ?_
      refine am_Ev.call (o := am_run cPT cML (n0 + 3) 10 [.ref 13, .int 3, .int q2] (hp tx pg rd d e sw)) (kk := fun q => (97, [(0, .ref 13), (2, .int x2), (3, .int q2)], q.1.toList ++ [.ref 13], q.2)) (q := (some (.int q3), (hp tx pg rd d e sw))) 1 (fun _ => rfl) (ev_D_get_A hq) ?_
      obtain ⟨q4, hq, h⟩ := Option.bind_eq_some_iff.mp h
      refine am_Ev.go 4 (st' := (102, [(0, .ref 13), (2, .int x2), (3, .int q2)], [.int q2, .int 6, .ref 13, .ref 13, .int q3, .ref 13], (hp tx pg rd d e sw))) (fun _ => rfl) ?_
      refine am_Ev.call (o := am_run cPT cML (n0 + 3) 10 [.ref 13, .int 6, .int q2] (hp tx pg rd d e sw)) (kk := fun q => (105, [(0, .ref 13), (2, .int x2), (3, .int q2)], q.1.toList ++ [.ref 13, .int q3, .ref 13], q.2)) (q := (some (.int q4), (hp tx pg rd d e sw))) 1 (fun _ => rfl) (ev_D_get_A hq) ?_
      obtain ⟨q5, hq, h⟩ := Option.bind_eq_some_iff.mp h
      refine am_Ev.call (o := am_run cPT cML (n0 + 3) 18 [.ref 13, .int q4] (hp tx pg rd d e sw)) (kk := fun q => (108, [(0, .ref 13), (2, .int x2), (3, .int q2)], q.1.toList ++ [.int q3, .ref 13], q.2)) (q := (some (.int q5), (hp tx pg rd d e sw))) 1 (fun _ => rfl) (ev_D_truth_A hq) ?_
      obtain ⟨q6, hq, h⟩ := Option.bind_eq_some_iff.mp h
      refine am_Ev.go 4 (st' := (113, [(0, .ref 13), (2, .int x2), (3, .int q2)], [.int q2, .int 7, .ref 13, .ref 13, .int q5, .int q3, .ref 13], (hp tx pg rd d e sw))) (fun _ => rfl) ?_
      refine am_Ev.call (o := am_run cPT cML (n0 + 3) 10 [.ref 13, .int 7, .int q2] (hp tx pg rd d e sw)) (kk := fun q => (116, [(0, .ref 13), (2, .int x2), (3, .int q2)], q.1.toList ++ [.ref 13, .int q5, .int q3, .ref 13], q.2)) (q := (some (.int q6), (hp tx pg rd d e sw))) 1 (fun _ => rfl) (ev_D_get_A hq) ?_
      obtain ⟨q7, hq, h⟩ := Option.bind_eq_some_iff.mp h
      refine am_Ev.call (o := am_run cPT cML (n0 + 3) 18 [.ref 13, .int q6] (hp tx pg rd d e sw)) (kk := fun q => (119, [(0, .ref 13), (2, .int x2), (3, .int q2)], q.1.toList ++ [.int q5, .int q3, .ref 13], q.2)) (q := (some (.int q7), (hp tx pg rd d e sw))) 1 (fun _ => rfl) (ev_D_truth_A hq) ?_
      obtain ⟨q8, hq, h⟩ := Option.bind_eq_some_iff.mp h
      refine am_Ev.go 1 (st' := (120, [(0, .ref 13), (2, .int x2), (3, .int q2)], [.int (q5 &&& q7), .int q3, .ref 13], (hp tx pg rd d e sw))) (fun _ => rfl) ?_
      refine am_Ev.call (o := am_run cPT cML (n0 + 3) 30 [.ref 13, .int q3, .int (q5 &&& q7)] (hp tx pg rd d e sw)) (kk := fun q => (123, [(0, .ref 13), (2, .int x2), (3, .int q2)], q.1.toList ++ [], q.2)) (q := (none, (hp tx pg rd q8 e sw))) 1 (fun _ => rfl) (ev_D_mark_A hq) ?_
      refine am_Ev.go 2 (st' := (75, [(0, .ref 13), (2, .int (x2 + 1)), (3, .int q2)], [], (hp tx pg rd q8 e sw))) (fun _ => rfl) ?_
      refine am_Ev.same (st' := (75, [(0, .ref 13), (2, .int (x2 + 1))], [], (hp tx pg rd q8 e sw))) (fun _ => rfl) ?_
      exact ih _ _ _ h
theorem ev_D_step_40_A {n0 : Nat} {tx : SB} {pg : SB} {rd : SR} {e : SD} {sw : Bool} {κ : SD → Option (Int32 × SD)} (hκ : ∀ (d : SD) (res : Int32 × SD), κ d = some res → am_Ev (tb_D_step (am_run cPT cML (n0 + 3))) (73, [(0, .ref 13)], [], (hp tx pg rd d e sw)) (some (.int res.1), (hp tx pg rd res.2 e sw))) : ∀ (n : Nat) (x2 : Int32) (d : SD) (res : Int32 × SD), fn_D_step_40 κ n x2 d = some res → am_Ev (tb_D_step (am_run cPT cML (n0 + 3))) (40, [(0, .ref 13), (2, .int x2)], [], (hp tx pg rd d e sw)) (some (.int res.1), (hp tx pg rd res.2 e sw)) := by
  intro n
  induction n with
  | zero => intro x2 d res h; unfold fn_D_step_40 at h; cases h
  | succ n ih =>
    intro x2 d res h
    unfold fn_D_step_40 at h
    obtain ⟨q9, hq, h⟩ := Option.bind_eq_some_iff.mp h
    refine am_Ev.go 3 (st' := (43, [(0, .ref 13), (2, .int x2)], [.int 1, .ref 13, .int x2], (hp tx pg rd d e sw))) (fun _ => rfl) ?_
    refine am_Ev.call (o := am_run cPT cML (n0 + 3) 7 [.ref 13, .int 1] (hp tx pg rd d e sw)) (kk := fun q => (46, [(0, .ref 13), (2, .int x2)], q.1.toList ++ [.int x2], q.2)) (q := (some (.int q9), (hp tx pg rd d e sw))) 1 (fun _ => rfl) (ev_D_many_A hq) ?_
    refine am_Ev.fork (b := decide (q9 ≤ x2)) (s1 := (73, [(0, .ref 13), (2, .int x2)], [], (hp tx pg rd d e sw))) (s2 := (49, [(0, .ref 13), (2, .int x2)], [], (hp tx pg rd d e sw))) 1 (fun _ => rfl) (fun hc => ?_) (fun hc => ?_)
    · have h := (am_ift hc).symm.trans h
      refine am_Ev.same (st' := (73, [(0, .ref 13)], [], (hp tx pg rd d e sw))) (fun _ => rfl) ?_
      exact hκ _ _ h
    · have h := (am_iff hc).symm.trans h
      obtain ⟨q10, hq, h⟩ := Option.bind_eq_some_iff.mp h
      refine am_Ev.go 4 (st' := (53, [(0, .ref 13), (2, .int x2)], [.int x2, .int 1, .ref 13, .ref 13], (hp tx pg rd d e sw))) (fun _ => rfl) ?_
      refine am_Ev.call (o := am_run cPT cML (n0 + 3) 10 [.ref 13, .int 1, .int x2] (hp tx pg rd d e sw)) (kk := fun q => (56, [(0, .ref 13), (2, .int x2)], q.1.toList ++ [.ref 13], q.2)) (q := (some (.int q10), (hp tx pg rd d e sw))) 1 (fun _ => rfl) (ev_D_get_A hq) ?_
      obtain ⟨q11, hq, h⟩ := Option.bind_eq_some_iff.mp h
      refine am_Ev.go 6 (st' := (64, [(0, .ref 13), (2, .int x2)], [.int (((d.2.2.2.2.2.toUInt32 >>> (x2.toUInt32 &&& Int32.toUInt32 31)).toInt32) &&& (1 : Int32)), .int q10, .ref 13], (hp tx pg rd d e sw))) (fun _ => rfl) ?_
      refine am_Ev.call (o := am_run cPT cML (n0 + 3) 30 [.ref 13, .int q10, .int (((d.2.2.2.2.2.toUInt32 >>> (x2.toUInt32 &&& Int32.toUInt32 31)).toInt32) &&& (1 : Int32))] (hp tx pg rd d e sw)) (kk := fun q => (67, [(0, .ref 13), (2, .int x2)], q.1.toList ++ [], q.2)) (q := (none, (hp tx pg rd q11 e sw))) 1 (fun _ => rfl) (ev_D_mark_A hq) ?_
      refine am_Ev.go 2 (st' := (40, [(0, .ref 13), (2, .int (x2 + 1))], [], (hp tx pg rd q11 e sw))) (fun _ => rfl) ?_
      exact ih _ _ _ h
theorem ev_D_step_8_A {n0 : Nat} {tx : SB} {pg : SB} {rd : SR} {e : SD} {sw : Bool} {x1 : Int32} {κ : SD → Option (Int32 × SD)} (hκ : ∀ (d : SD) (res : Int32 × SD), κ d = some res → am_Ev (tb_D_step (am_run cPT cML (n0 + 3))) (38, [(0, .ref 13)], [], (hp tx pg rd d e sw)) (some (.int res.1), (hp tx pg rd res.2 e sw))) : ∀ (n : Nat) (x2 : Int32) (d : SD) (res : Int32 × SD), fn_D_step_8 x1 κ n x2 d = some res → am_Ev (tb_D_step (am_run cPT cML (n0 + 3))) (8, [(0, .ref 13), (1, .int x1), (2, .int x2)], [], (hp tx pg rd d e sw)) (some (.int res.1), (hp tx pg rd res.2 e sw)) := by
  intro n
  induction n with
  | zero => intro x2 d res h; unfold fn_D_step_8 at h; cases h
  | succ n ih =>
    intro x2 d res h
    unfold fn_D_step_8 at h
    obtain ⟨q12, hq, h⟩ := Option.bind_eq_some_iff.mp h
    refine am_Ev.go 3 (st' := (11, [(0, .ref 13), (1, .int x1), (2, .int x2)], [.int 0, .ref 13, .int x2], (hp tx pg rd d e sw))) (fun _ => rfl) ?_
    refine am_Ev.call (o := am_run cPT cML (n0 + 3) 7 [.ref 13, .int 0] (hp tx pg rd d e sw)) (kk := fun q => (14, [(0, .ref 13), (1, .int x1), (2, .int x2)], q.1.toList ++ [.int x2], q.2)) (q := (some (.int q12), (hp tx pg rd d e sw))) 1 (fun _ => rfl) (ev_D_many_A hq) ?_
    refine am_Ev.fork (b := decide (q12 ≤ x2)) (s1 := (38, [(0, .ref 13), (1, .int x1), (2, .int x2)], [], (hp tx pg rd d e sw))) (s2 := (17, [(0, .ref 13), (1, .int x1), (2, .int x2)], [], (hp tx pg rd d e sw))) 1 (fun _ => rfl) (fun hc => ?_) (fun hc => ?_)
    · have h := (am_ift hc).symm.trans h
      refine am_Ev.same (st' := (38, [(0, .ref 13)], [], (hp tx pg rd d e sw))) (fun _ => rfl) ?_
      exact hκ _ _ h
    · have h := (am_iff hc).symm.trans h
      obtain ⟨q13, hq, h⟩ := Option.bind_eq_some_iff.mp h
      refine am_Ev.go 4 (st' := (21, [(0, .ref 13), (1, .int x1), (2, .int x2)], [.int x2, .int 0, .ref 13, .ref 13], (hp tx pg rd d e sw))) (fun _ => rfl) ?_
      refine am_Ev.call (o := am_run cPT cML (n0 + 3) 10 [.ref 13, .int 0, .int x2] (hp tx pg rd d e sw)) (kk := fun q => (24, [(0, .ref 13), (1, .int x1), (2, .int x2)], q.1.toList ++ [.ref 13], q.2)) (q := (some (.int q13), (hp tx pg rd d e sw))) 1 (fun _ => rfl) (ev_D_get_A hq) ?_
      obtain ⟨q14, hq, h⟩ := Option.bind_eq_some_iff.mp h
      refine am_Ev.go 5 (st' := (29, [(0, .ref 13), (1, .int x1), (2, .int x2)], [.int (((x1.toUInt32 >>> (x2.toUInt32 &&& Int32.toUInt32 31)).toInt32) &&& (1 : Int32)), .int q13, .ref 13], (hp tx pg rd d e sw))) (fun _ => rfl) ?_
      refine am_Ev.call (o := am_run cPT cML (n0 + 3) 30 [.ref 13, .int q13, .int (((x1.toUInt32 >>> (x2.toUInt32 &&& Int32.toUInt32 31)).toInt32) &&& (1 : Int32))] (hp tx pg rd d e sw)) (kk := fun q => (32, [(0, .ref 13), (1, .int x1), (2, .int x2)], q.1.toList ++ [], q.2)) (q := (none, (hp tx pg rd q14 e sw))) 1 (fun _ => rfl) (ev_D_mark_A hq) ?_
      refine am_Ev.go 2 (st' := (8, [(0, .ref 13), (1, .int x1), (2, .int (x2 + 1))], [], (hp tx pg rd q14 e sw))) (fun _ => rfl) ?_
      exact ih _ _ _ h
theorem ev_D_step_A {n0 : Nat} {tx : SB} {pg : SB} {rd : SR} {e : SD} {sw : Bool} {x1 : Int32} {d : SD} {res : Int32 × SD} (h : fn_D_step x1 d = some res) : am_run cPT cML (n0 + 4) 16 [.ref 13, .int x1] (hp tx pg rd d e sw) = some (some (.int res.1), (hp tx pg rd res.2 e sw)) := by
  refine am_run_of (d := n0 + 3) rfl ?_
  show am_Ev (tb_D_step (am_run cPT cML (n0 + 3))) (0, [(0, .ref 13), (1, .int x1)], [], (hp tx pg rd d e sw)) (some (.int res.1), (hp tx pg rd res.2 e sw))
  unfold fn_D_step at h
  obtain ⟨q15, hq, h⟩ := Option.bind_eq_some_iff.mp h
  refine am_Ev.go 3 (st' := (3, [(0, .ref 13), (1, .int x1)], [.int 0, .int 0, .ref 13], (hp tx pg rd d e sw))) (fun _ => rfl) ?_
  refine am_Ev.call (o := am_run cPT cML (n0 + 3) 30 [.ref 13, .int 0, .int 0] (hp tx pg rd d e sw)) (kk := fun q => (6, [(0, .ref 13), (1, .int x1)], q.1.toList ++ [], q.2)) (q := (none, (hp tx pg rd q15 e sw))) 1 (fun _ => rfl) (ev_D_mark_A hq) ?_
  refine am_Ev.go 2 (st' := (8, [(0, .ref 13), (1, .int x1), (2, .int 0)], [], (hp tx pg rd q15 e sw))) (fun _ => rfl) ?_
  refine ev_D_step_8_A ?_ _ _ _ _ h
  intro d_17 res h
  try dsimp only at h
  refine am_Ev.go 2 (st' := (40, [(0, .ref 13), (2, .int 0)], [], (hp tx pg rd d_17 e sw))) (fun _ => rfl) ?_
  refine ev_D_step_40_A ?_ _ _ _ _ h
  intro d_18 res h
  try dsimp only at h
  refine am_Ev.go 2 (st' := (75, [(0, .ref 13), (2, .int 0)], [], (hp tx pg rd d_18 e sw))) (fun _ => rfl) ?_
  refine ev_D_step_75_A ?_ _ _ _ _ h
  intro d_19 res h
  try dsimp only at h
  obtain ⟨q19, hq, h⟩ := Option.bind_eq_some_iff.mp h
  refine am_Ev.go 3 (st' := (132, [(0, .ref 13)], [.int 4, .ref 13, .ref 13], (hp tx pg rd d_19 e sw))) (fun _ => rfl) ?_
  refine am_Ev.call (o := am_run cPT cML (n0 + 3) 17 [.ref 13, .int 4] (hp tx pg rd d_19 e sw)) (kk := fun q => (135, [(0, .ref 13)], q.1.toList ++ [.ref 13], q.2)) (q := (some (.int q19), (hp tx pg rd d_19 e sw))) 1 (fun _ => rfl) (ev_D_truths_A hq) ?_
  obtain ⟨q20, hq, h⟩ := Option.bind_eq_some_iff.mp h
  refine am_Ev.go 3 (st' := (140, [(0, .ref 13)], [.int 2, .ref 13], (hp tx pg rd (d_19.1, d_19.2.1, d_19.2.2.1, d_19.2.2.2.1, d_19.2.2.2.2.1, q19) e sw))) (fun _ => rfl) ?_
  refine am_Ev.call (o := am_run cPT cML (n0 + 3) 17 [.ref 13, .int 2] (hp tx pg rd (d_19.1, d_19.2.1, d_19.2.2.1, d_19.2.2.2.1, d_19.2.2.2.2.1, q19) e sw)) (kk := fun q => (143, [(0, .ref 13)], q.1.toList ++ [], q.2)) (q := (some (.int q20), (hp tx pg rd (d_19.1, d_19.2.1, d_19.2.2.1, d_19.2.2.2.1, d_19.2.2.2.2.1, q19) e sw))) 1 (fun _ => rfl) (ev_D_truths_A hq) ?_
  cases h
  exact am_Ev.done 1 rfl
theorem ev_D_step_75_B {n0 : Nat} {tx : SB} {pg : SB} {rd : SR} {e : SD} {sw : Bool} {κ : SD → Option (Int32 × SD)} (hκ : ∀ (d : SD) (res : Int32 × SD), κ d = some res → am_Ev (tb_D_step (am_run cPT cML (n0 + 3))) (129, [(0, .ref 26)], [], (hp tx pg rd e d sw)) (some (.int res.1), (hp tx pg rd e res.2 sw))) : ∀ (n : Nat) (x2 : Int32) (d : SD) (res : Int32 × SD), fn_D_step_75 κ n x2 d = some res → am_Ev (tb_D_step (am_run cPT cML (n0 + 3))) (75, [(0, .ref 26), (2, .int x2)], [], (hp tx pg rd e d sw)) (some (.int res.1), (hp tx pg rd e res.2 sw)) := by
  intro n
  induction n with
  | zero => intro x2 d res h; unfold fn_D_step_75 at h; cases h
  | succ n ih =>
    intro x2 d res h
    unfold fn_D_step_75 at h
    obtain ⟨q1, hq, h⟩ := Option.bind_eq_some_iff.mp h
    refine am_Ev.go 3 (st' := (78, [(0, .ref 26), (2, .int x2)], [.int 3, .ref 26, .int x2], (hp tx pg rd e d sw))) (fun _ => rfl) ?_
    refine am_Ev.call (o := am_run cPT cML (n0 + 3) 7 [.ref 26, .int 3] (hp tx pg rd e d sw)) (kk := fun q => (81, [(0, .ref 26), (2, .int x2)], q.1.toList ++ [.int x2], q.2)) (q := (some (.int q1), (hp tx pg rd e d sw))) 1 (fun _ => rfl) (ev_D_many_B hq) ?_
    refine am_Ev.fork (b := decide (q1 ≤ x2)) (s1 := (129, [(0, .ref 26), (2, .int x2)], [], (hp tx pg rd e d sw))) (s2 := (84, [(0, .ref 26), (2, .int x2)], [], (hp tx pg rd e d sw))) 1 (fun _ => rfl) (fun hc => ?_) (fun hc => ?_)
    · have h := (am_ift hc).symm.trans h
      refine am_Ev.same (st' := (129, [(0, .ref 26)], [], (hp tx pg rd e d sw))) (fun _ => rfl) ?_
      exact hκ _ _ h
    · have h := (am_iff hc).symm.trans h
      obtain ⟨q2, hq, h⟩ := Option.bind_eq_some_iff.mp h
      refine am_Ev.go 2 (st' := (86, [(0, .ref 26), (2, .int x2)], [.int x2, .ref 26], (hp tx pg rd e d sw))) (fun _ => rfl) ?_
      refine am_Ev.call (o := am_run cPT cML (n0 + 3) 23 [.ref 26, .int x2] (hp tx pg rd e d sw)) (kk := fun q => (89, [(0, .ref 26), (2, .int x2)], q.1.toList ++ [], q.2)) (q := (some (.int q2), (hp tx pg rd e d sw))) 1 (fun _ => rfl) (ev_D_inSequence_B hq) ?_
      obtain ⟨q3, hq, h⟩ := Option.bind_eq_some_iff.mp h
      refine am_Ev.go 5 (st' := (94, [(0, .ref 26), (2, .int x2), (3, .int q2)], [.int q2, .int 3, .ref 26, .ref 26], (hp tx pg rd e d sw))) (fun _ => rfl) ?_
      refine am_Ev.call (o := am_run cPT cML (n0 + 3) 10 [.ref 26, .int 3, .int q2] (hp tx pg rd e d sw)) (kk := fun q => (97, [(0, .ref 26), (2, .int x2), (3, .int q2)], q.1.toList ++ [.ref 26], q.2)) (q := (some (.int q3), (hp tx pg rd e d sw))) 1 (fun _ => rfl) (ev_D_get_B hq) ?_
      obtain ⟨q4, hq, h⟩ := Option.bind_eq_some_iff.mp h
      refine am_Ev.go 4 (st' := (102, [(0, .ref 26), (2, .int x2), (3, .int q2)], [.int q2, .int 6, .ref 26, .ref 26, .int q3, .ref 26], (hp tx pg rd e d sw))) (fun _ => rfl) ?_
      refine am_Ev.call (o := am_run cPT cML (n0 + 3) 10 [.ref 26, .int 6, .int q2] (hp tx pg rd e d sw)) (kk := fun q => (105, [(0, .ref 26), (2, .int x2), (3, .int q2)], q.1.toList ++ [.ref 26, .int q3, .ref 26], q.2)) (q := (some (.int q4), (hp tx pg rd e d sw))) 1 (fun _ => rfl) (ev_D_get_B hq) ?_
      obtain ⟨q5, hq, h⟩ := Option.bind_eq_some_iff.mp h
      refine am_Ev.call (o := am_run cPT cML (n0 + 3) 18 [.ref 26, .int q4] (hp tx pg rd e d sw)) (kk := fun q => (108, [(0, .ref 26), (2, .int x2), (3, .int q2)], q.1.toList ++ [.int q3, .ref 26], q.2)) (q := (some (.int q5), (hp tx pg rd e d sw))) 1 (fun _ => rfl) (ev_D_truth_B hq) ?_
      obtain ⟨q6, hq, h⟩ := Option.bind_eq_some_iff.mp h
      refine am_Ev.go 4 (st' := (113, [(0, .ref 26), (2, .int x2), (3, .int q2)], [.int q2, .int 7, .ref 26, .ref 26, .int q5, .int q3, .ref 26], (hp tx pg rd e d sw))) (fun _ => rfl) ?_
      refine am_Ev.call (o := am_run cPT cML (n0 + 3) 10 [.ref 26, .int 7, .int q2] (hp tx pg rd e d sw)) (kk := fun q => (116, [(0, .ref 26), (2, .int x2), (3, .int q2)], q.1.toList ++ [.ref 26, .int q5, .int q3, .ref 26], q.2)) (q := (some (.int q6), (hp tx pg rd e d sw))) 1 (fun _ => rfl) (ev_D_get_B hq) ?_
      obtain ⟨q7, hq, h⟩ := Option.bind_eq_some_iff.mp h
      refine am_Ev.call (o := am_run cPT cML (n0 + 3) 18 [.ref 26, .int q6] (hp tx pg rd e d sw)) (kk := fun q => (119, [(0, .ref 26), (2, .int x2), (3, .int q2)], q.1.toList ++ [.int q5, .int q3, .ref 26], q.2)) (q := (some (.int q7), (hp tx pg rd e d sw))) 1 (fun _ => rfl) (ev_D_truth_B hq) ?_
      obtain ⟨q8, hq, h⟩ := Option.bind_eq_some_iff.mp h
      refine am_Ev.go 1 (st' := (120, [(0, .ref 26), (2, .int x2), (3, .int q2)], [.int (q5 &&& q7), .int q3, .ref 26], (hp tx pg rd e d sw))) (fun _ => rfl) ?_
      refine am_Ev.call (o := am_run cPT cML (n0 + 3) 30 [.ref 26, .int q3, .int (q5 &&& q7)] (hp tx pg rd e d sw)) (kk := fun q => (123, [(0, .ref 26), (2, .int x2), (3, .int q2)], q.1.toList ++ [], q.2)) (q := (none, (hp tx pg rd e q8 sw))) 1 (fun _ => rfl) (ev_D_mark_B hq) ?_
      refine am_Ev.go 2 (st' := (75, [(0, .ref 26), (2, .int (x2 + 1)), (3, .int q2)], [], (hp tx pg rd e q8 sw))) (fun _ => rfl) ?_
      refine am_Ev.same (st' := (75, [(0, .ref 26), (2, .int (x2 + 1))], [], (hp tx pg rd e q8 sw))) (fun _ => rfl) ?_
      exact ih _ _ _ h
theorem ev_D_step_40_B {n0 : Nat} {tx : SB} {pg : SB} {rd : SR} {e : SD} {sw : Bool} {κ : SD → Option (Int32 × SD)} (hκ : ∀ (d : SD) (res : Int32 × SD), κ d = some res → am_Ev (tb_D_step (am_run cPT cML (n0 + 3))) (73, [(0, .ref 26)], [], (hp tx pg rd e d sw)) (some (.int res.1), (hp tx pg rd e res.2 sw))) : ∀ (n : Nat) (x2 : Int32) (d : SD) (res : Int32 × SD), fn_D_step_40 κ n x2 d = some res → am_Ev (tb_D_step (am_run cPT cML (n0 + 3))) (40, [(0, .ref 26), (2, .int x2)], [], (hp tx pg rd e d sw)) (some (.int res.1), (hp tx pg rd e res.2 sw)) := by
  intro n
  induction n with
  | zero => intro x2 d res h; unfold fn_D_step_40 at h; cases h
  | succ n ih =>
    intro x2 d res h
    unfold fn_D_step_40 at h
    obtain ⟨q9, hq, h⟩ := Option.bind_eq_some_iff.mp h
    refine am_Ev.go 3 (st' := (43, [(0, .ref 26), (2, .int x2)], [.int 1, .ref 26, .int x2], (hp tx pg rd e d sw))) (fun _ => rfl) ?_
    refine am_Ev.call (o := am_run cPT cML (n0 + 3) 7 [.ref 26, .int 1] (hp tx pg rd e d sw)) (kk := fun q => (46, [(0, .ref 26), (2, .int x2)], q.1.toList ++ [.int x2], q.2)) (q := (some (.int q9), (hp tx pg rd e d sw))) 1 (fun _ => rfl) (ev_D_many_B hq) ?_
    refine am_Ev.fork (b := decide (q9 ≤ x2)) (s1 := (73, [(0, .ref 26), (2, .int x2)], [], (hp tx pg rd e d sw))) (s2 := (49, [(0, .ref 26), (2, .int x2)], [], (hp tx pg rd e d sw))) 1 (fun _ => rfl) (fun hc => ?_) (fun hc => ?_)
    · have h := (am_ift hc).symm.trans h
      refine am_Ev.same (st' := (73, [(0, .ref 26)], [], (hp tx pg rd e d sw))) (fun _ => rfl) ?_
      exact hκ _ _ h
    · have h := (am_iff hc).symm.trans h
      obtain ⟨q10, hq, h⟩ := Option.bind_eq_some_iff.mp h
      refine am_Ev.go 4 (st' := (53, [(0, .ref 26), (2, .int x2)], [.int x2, .int 1, .ref 26, .ref 26], (hp tx pg rd e d sw))) (fun _ => rfl) ?_
      refine am_Ev.call (o := am_run cPT cML (n0 + 3) 10 [.ref 26, .int 1, .int x2] (hp tx pg rd e d sw)) (kk := fun q => (56, [(0, .ref 26), (2, .int x2)], q.1.toList ++ [.ref 26], q.2)) (q := (some (.int q10), (hp tx pg rd e d sw))) 1 (fun _ => rfl) (ev_D_get_B hq) ?_
      obtain ⟨q11, hq, h⟩ := Option.bind_eq_some_iff.mp h
      refine am_Ev.go 6 (st' := (64, [(0, .ref 26), (2, .int x2)], [.int (((d.2.2.2.2.2.toUInt32 >>> (x2.toUInt32 &&& Int32.toUInt32 31)).toInt32) &&& (1 : Int32)), .int q10, .ref 26], (hp tx pg rd e d sw))) (fun _ => rfl) ?_
      refine am_Ev.call (o := am_run cPT cML (n0 + 3) 30 [.ref 26, .int q10, .int (((d.2.2.2.2.2.toUInt32 >>> (x2.toUInt32 &&& Int32.toUInt32 31)).toInt32) &&& (1 : Int32))] (hp tx pg rd e d sw)) (kk := fun q => (67, [(0, .ref 26), (2, .int x2)], q.1.toList ++ [], q.2)) (q := (none, (hp tx pg rd e q11 sw))) 1 (fun _ => rfl) (ev_D_mark_B hq) ?_
      refine am_Ev.go 2 (st' := (40, [(0, .ref 26), (2, .int (x2 + 1))], [], (hp tx pg rd e q11 sw))) (fun _ => rfl) ?_
      exact ih _ _ _ h
theorem ev_D_step_8_B {n0 : Nat} {tx : SB} {pg : SB} {rd : SR} {e : SD} {sw : Bool} {x1 : Int32} {κ : SD → Option (Int32 × SD)} (hκ : ∀ (d : SD) (res : Int32 × SD), κ d = some res → am_Ev (tb_D_step (am_run cPT cML (n0 + 3))) (38, [(0, .ref 26)], [], (hp tx pg rd e d sw)) (some (.int res.1), (hp tx pg rd e res.2 sw))) : ∀ (n : Nat) (x2 : Int32) (d : SD) (res : Int32 × SD), fn_D_step_8 x1 κ n x2 d = some res → am_Ev (tb_D_step (am_run cPT cML (n0 + 3))) (8, [(0, .ref 26), (1, .int x1), (2, .int x2)], [], (hp tx pg rd e d sw)) (some (.int res.1), (hp tx pg rd e res.2 sw)) := by
  intro n
  induction n with
  | zero => intro x2 d res h; unfold fn_D_step_8 at h; cases h
  | succ n ih =>
    intro x2 d res h
    unfold fn_D_step_8 at h
    obtain ⟨q12, hq, h⟩ := Option.bind_eq_some_iff.mp h
    refine am_Ev.go 3 (st' := (11, [(0, .ref 26), (1, .int x1), (2, .int x2)], [.int 0, .ref 26, .int x2], (hp tx pg rd e d sw))) (fun _ => rfl) ?_
    refine am_Ev.call (o := am_run cPT cML (n0 + 3) 7 [.ref 26, .int 0] (hp tx pg rd e d sw)) (kk := fun q => (14, [(0, .ref 26), (1, .int x1), (2, .int x2)], q.1.toList ++ [.int x2], q.2)) (q := (some (.int q12), (hp tx pg rd e d sw))) 1 (fun _ => rfl) (ev_D_many_B hq) ?_
    refine am_Ev.fork (b := decide (q12 ≤ x2)) (s1 := (38, [(0, .ref 26), (1, .int x1), (2, .int x2)], [], (hp tx pg rd e d sw))) (s2 := (17, [(0, .ref 26), (1, .int x1), (2, .int x2)], [], (hp tx pg rd e d sw))) 1 (fun _ => rfl) (fun hc => ?_) (fun hc => ?_)
    · have h := (am_ift hc).symm.trans h
      refine am_Ev.same (st' := (38, [(0, .ref 26)], [], (hp tx pg rd e d sw))) (fun _ => rfl) ?_
      exact hκ _ _ h
    · have h := (am_iff hc).symm.trans h
      obtain ⟨q13, hq, h⟩ := Option.bind_eq_some_iff.mp h
      refine am_Ev.go 4 (st' := (21, [(0, .ref 26), (1, .int x1), (2, .int x2)], [.int x2, .int 0, .ref 26, .ref 26], (hp tx pg rd e d sw))) (fun _ => rfl) ?_
      refine am_Ev.call (o := am_run cPT cML (n0 + 3) 10 [.ref 26, .int 0, .int x2] (hp tx pg rd e d sw)) (kk := fun q => (24, [(0, .ref 26), (1, .int x1), (2, .int x2)], q.1.toList ++ [.ref 26], q.2)) (q := (some (.int q13), (hp tx pg rd e d sw))) 1 (fun _ => rfl) (ev_D_get_B hq) ?_
      obtain ⟨q14, hq, h⟩ := Option.bind_eq_some_iff.mp h
      refine am_Ev.go 5 (st' := (29, [(0, .ref 26), (1, .int x1), (2, .int x2)], [.int (((x1.toUInt32 >>> (x2.toUInt32 &&& Int32.toUInt32 31)).toInt32) &&& (1 : Int32)), .int q13, .ref 26], (hp tx pg rd e d sw))) (fun _ => rfl) ?_
      refine am_Ev.call (o := am_run cPT cML (n0 + 3) 30 [.ref 26, .int q13, .int (((x1.toUInt32 >>> (x2.toUInt32 &&& Int32.toUInt32 31)).toInt32) &&& (1 : Int32))] (hp tx pg rd e d sw)) (kk := fun q => (32, [(0, .ref 26), (1, .int x1), (2, .int x2)], q.1.toList ++ [], q.2)) (q := (none, (hp tx pg rd e q14 sw))) 1 (fun _ => rfl) (ev_D_mark_B hq) ?_
      refine am_Ev.go 2 (st' := (8, [(0, .ref 26), (1, .int x1), (2, .int (x2 + 1))], [], (hp tx pg rd e q14 sw))) (fun _ => rfl) ?_
      exact ih _ _ _ h
theorem ev_D_step_B {n0 : Nat} {tx : SB} {pg : SB} {rd : SR} {e : SD} {sw : Bool} {x1 : Int32} {d : SD} {res : Int32 × SD} (h : fn_D_step x1 d = some res) : am_run cPT cML (n0 + 4) 16 [.ref 26, .int x1] (hp tx pg rd e d sw) = some (some (.int res.1), (hp tx pg rd e res.2 sw)) := by
  refine am_run_of (d := n0 + 3) rfl ?_
  show am_Ev (tb_D_step (am_run cPT cML (n0 + 3))) (0, [(0, .ref 26), (1, .int x1)], [], (hp tx pg rd e d sw)) (some (.int res.1), (hp tx pg rd e res.2 sw))
  unfold fn_D_step at h
  obtain ⟨q15, hq, h⟩ := Option.bind_eq_some_iff.mp h
  refine am_Ev.go 3 (st' := (3, [(0, .ref 26), (1, .int x1)], [.int 0, .int 0, .ref 26], (hp tx pg rd e d sw))) (fun _ => rfl) ?_
  refine am_Ev.call (o := am_run cPT cML (n0 + 3) 30 [.ref 26, .int 0, .int 0] (hp tx pg rd e d sw)) (kk := fun q => (6, [(0, .ref 26), (1, .int x1)], q.1.toList ++ [], q.2)) (q := (none, (hp tx pg rd e q15 sw))) 1 (fun _ => rfl) (ev_D_mark_B hq) ?_
  refine am_Ev.go 2 (st' := (8, [(0, .ref 26), (1, .int x1), (2, .int 0)], [], (hp tx pg rd e q15 sw))) (fun _ => rfl) ?_
  refine ev_D_step_8_B ?_ _ _ _ _ h
  intro d_17 res h
  try dsimp only at h
  refine am_Ev.go 2 (st' := (40, [(0, .ref 26), (2, .int 0)], [], (hp tx pg rd e d_17 sw))) (fun _ => rfl) ?_
  refine ev_D_step_40_B ?_ _ _ _ _ h
  intro d_18 res h
  try dsimp only at h
  refine am_Ev.go 2 (st' := (75, [(0, .ref 26), (2, .int 0)], [], (hp tx pg rd e d_18 sw))) (fun _ => rfl) ?_
  refine ev_D_step_75_B ?_ _ _ _ _ h
  intro d_19 res h
  try dsimp only at h
  obtain ⟨q19, hq, h⟩ := Option.bind_eq_some_iff.mp h
  refine am_Ev.go 3 (st' := (132, [(0, .ref 26)], [.int 4, .ref 26, .ref 26], (hp tx pg rd e d_19 sw))) (fun _ => rfl) ?_
  refine am_Ev.call (o := am_run cPT cML (n0 + 3) 17 [.ref 26, .int 4] (hp tx pg rd e d_19 sw)) (kk := fun q => (135, [(0, .ref 26)], q.1.toList ++ [.ref 26], q.2)) (q := (some (.int q19), (hp tx pg rd e d_19 sw))) 1 (fun _ => rfl) (ev_D_truths_B hq) ?_
  obtain ⟨q20, hq, h⟩ := Option.bind_eq_some_iff.mp h
  refine am_Ev.go 3 (st' := (140, [(0, .ref 26)], [.int 2, .ref 26], (hp tx pg rd e (d_19.1, d_19.2.1, d_19.2.2.1, d_19.2.2.2.1, d_19.2.2.2.2.1, q19) sw))) (fun _ => rfl) ?_
  refine am_Ev.call (o := am_run cPT cML (n0 + 3) 17 [.ref 26, .int 2] (hp tx pg rd e (d_19.1, d_19.2.1, d_19.2.2.1, d_19.2.2.2.1, d_19.2.2.2.2.1, q19) sw)) (kk := fun q => (143, [(0, .ref 26)], q.1.toList ++ [], q.2)) (q := (some (.int q20), (hp tx pg rd e (d_19.1, d_19.2.1, d_19.2.2.1, d_19.2.2.2.1, d_19.2.2.2.2.1, q19) sw))) 1 (fun _ => rfl) (ev_D_truths_B hq) ?_
  cases h
  exact am_Ev.done 1 rfl
theorem ev_D_orderFrom_A {n0 : Nat} {tx : SB} {pg : SB} {rd : SR} {sw : Bool} {d : SD} {e : SD} {res : SD} (h : fn_D_orderFrom d e = some res) : am_run cPT cML (n0 + 4) 24 [.ref 13, .ref 26] (hp tx pg rd d e sw) = some (none, (hp tx pg rd res e sw)) := by
  refine am_run_of (d := n0 + 3) rfl ?_
  show am_Ev (tb_D_orderFrom (am_run cPT cML (n0 + 3))) (0, [(0, .ref 13), (1, .ref 26)], [], (hp tx pg rd d e sw)) (none, (hp tx pg rd res e sw))
  unfold fn_D_orderFrom at h
  obtain ⟨q1, hq, h⟩ := Option.bind_eq_some_iff.mp h
  refine am_Ev.go 2 (st' := (2, [(0, .ref 13), (1, .ref 26)], [.ref 26, .ref 13], (hp tx pg rd d e sw))) (fun _ => rfl) ?_
  refine am_Ev.call (o := am_run cPT cML (n0 + 3) 25 [.ref 13, .ref 26] (hp tx pg rd d e sw)) (kk := fun q => (5, [(0, .ref 13), (1, .ref 26)], q.1.toList ++ [], q.2)) (q := (none, (hp tx pg rd q1 e sw))) 1 (fun _ => rfl) (ev_D_numberAnew_A hq) ?_
  obtain ⟨q2, hq, h⟩ := Option.bind_eq_some_iff.mp h
  refine am_Ev.go 2 (st' := (7, [(0, .ref 13), (1, .ref 26)], [.ref 26, .ref 13], (hp tx pg rd q1 e sw))) (fun _ => rfl) ?_
  refine am_Ev.call (o := am_run cPT cML (n0 + 3) 26 [.ref 13, .ref 26] (hp tx pg rd q1 e sw)) (kk := fun q => (10, [(0, .ref 13), (1, .ref 26)], q.1.toList ++ [], q.2)) (q := (none, (hp tx pg rd q2 e sw))) 1 (fun _ => rfl) (ev_D_copyInputsAndOutputs_A hq) ?_
  obtain ⟨q3, hq, h⟩ := Option.bind_eq_some_iff.mp h
  refine am_Ev.go 2 (st' := (12, [(0, .ref 13), (1, .ref 26)], [.ref 26, .ref 13], (hp tx pg rd q2 e sw))) (fun _ => rfl) ?_
  refine am_Ev.call (o := am_run cPT cML (n0 + 3) 27 [.ref 13, .ref 26] (hp tx pg rd q2 e sw)) (kk := fun q => (15, [(0, .ref 13), (1, .ref 26)], q.1.toList ++ [], q.2)) (q := (none, (hp tx pg rd q3 e sw))) 1 (fun _ => rfl) (ev_D_copyLatches_A hq) ?_
  obtain ⟨q4, hq, h⟩ := Option.bind_eq_some_iff.mp h
  refine am_Ev.go 2 (st' := (17, [(0, .ref 13), (1, .ref 26)], [.ref 26, .ref 13], (hp tx pg rd q3 e sw))) (fun _ => rfl) ?_
  refine am_Ev.call (o := am_run cPT cML (n0 + 3) 28 [.ref 13, .ref 26] (hp tx pg rd q3 e sw)) (kk := fun q => (20, [(0, .ref 13), (1, .ref 26)], q.1.toList ++ [], q.2)) (q := (none, (hp tx pg rd q4 e sw))) 1 (fun _ => rfl) (ev_D_copyGates_A hq) ?_
  obtain ⟨q5, hq, h⟩ := Option.bind_eq_some_iff.mp h
  refine am_Ev.go 5 (st' := (29, [(0, .ref 13), (1, .ref 26)], [.ref 13], (hp tx pg rd (q4.1, q4.2.1, q4.2.2.1, q4.2.2.2.1, q4.2.2.2.2.1, e.2.2.2.2.2) e sw))) (fun _ => rfl) ?_
  refine am_Ev.call (o := am_run cPT cML (n0 + 3) 19 [.ref 13] (hp tx pg rd (q4.1, q4.2.1, q4.2.2.1, q4.2.2.2.1, q4.2.2.2.2.1, e.2.2.2.2.2) e sw)) (kk := fun q => (32, [(0, .ref 13), (1, .ref 26)], q.1.toList ++ [], q.2)) (q := (none, (hp tx pg rd q5 e sw))) 1 (fun _ => rfl) (ev_D_arrange_A hq) ?_
  cases h
  exact am_Ev.done 1 rfl
theorem ev_D_orderFrom_B {n0 : Nat} {tx : SB} {pg : SB} {rd : SR} {sw : Bool} {d : SD} {e : SD} {res : SD} (h : fn_D_orderFrom d e = some res) : am_run cPT cML (n0 + 4) 24 [.ref 26, .ref 13] (hp tx pg rd e d sw) = some (none, (hp tx pg rd e res sw)) := by
  refine am_run_of (d := n0 + 3) rfl ?_
  show am_Ev (tb_D_orderFrom (am_run cPT cML (n0 + 3))) (0, [(0, .ref 26), (1, .ref 13)], [], (hp tx pg rd e d sw)) (none, (hp tx pg rd e res sw))
  unfold fn_D_orderFrom at h
  obtain ⟨q1, hq, h⟩ := Option.bind_eq_some_iff.mp h
  refine am_Ev.go 2 (st' := (2, [(0, .ref 26), (1, .ref 13)], [.ref 13, .ref 26], (hp tx pg rd e d sw))) (fun _ => rfl) ?_
  refine am_Ev.call (o := am_run cPT cML (n0 + 3) 25 [.ref 26, .ref 13] (hp tx pg rd e d sw)) (kk := fun q => (5, [(0, .ref 26), (1, .ref 13)], q.1.toList ++ [], q.2)) (q := (none, (hp tx pg rd e q1 sw))) 1 (fun _ => rfl) (ev_D_numberAnew_B hq) ?_
  obtain ⟨q2, hq, h⟩ := Option.bind_eq_some_iff.mp h
  refine am_Ev.go 2 (st' := (7, [(0, .ref 26), (1, .ref 13)], [.ref 13, .ref 26], (hp tx pg rd e q1 sw))) (fun _ => rfl) ?_
  refine am_Ev.call (o := am_run cPT cML (n0 + 3) 26 [.ref 26, .ref 13] (hp tx pg rd e q1 sw)) (kk := fun q => (10, [(0, .ref 26), (1, .ref 13)], q.1.toList ++ [], q.2)) (q := (none, (hp tx pg rd e q2 sw))) 1 (fun _ => rfl) (ev_D_copyInputsAndOutputs_B hq) ?_
  obtain ⟨q3, hq, h⟩ := Option.bind_eq_some_iff.mp h
  refine am_Ev.go 2 (st' := (12, [(0, .ref 26), (1, .ref 13)], [.ref 13, .ref 26], (hp tx pg rd e q2 sw))) (fun _ => rfl) ?_
  refine am_Ev.call (o := am_run cPT cML (n0 + 3) 27 [.ref 26, .ref 13] (hp tx pg rd e q2 sw)) (kk := fun q => (15, [(0, .ref 26), (1, .ref 13)], q.1.toList ++ [], q.2)) (q := (none, (hp tx pg rd e q3 sw))) 1 (fun _ => rfl) (ev_D_copyLatches_B hq) ?_
  obtain ⟨q4, hq, h⟩ := Option.bind_eq_some_iff.mp h
  refine am_Ev.go 2 (st' := (17, [(0, .ref 26), (1, .ref 13)], [.ref 13, .ref 26], (hp tx pg rd e q3 sw))) (fun _ => rfl) ?_
  refine am_Ev.call (o := am_run cPT cML (n0 + 3) 28 [.ref 26, .ref 13] (hp tx pg rd e q3 sw)) (kk := fun q => (20, [(0, .ref 26), (1, .ref 13)], q.1.toList ++ [], q.2)) (q := (none, (hp tx pg rd e q4 sw))) 1 (fun _ => rfl) (ev_D_copyGates_B hq) ?_
  obtain ⟨q5, hq, h⟩ := Option.bind_eq_some_iff.mp h
  refine am_Ev.go 5 (st' := (29, [(0, .ref 26), (1, .ref 13)], [.ref 26], (hp tx pg rd e (q4.1, q4.2.1, q4.2.2.1, q4.2.2.2.1, q4.2.2.2.2.1, e.2.2.2.2.2) sw))) (fun _ => rfl) ?_
  refine am_Ev.call (o := am_run cPT cML (n0 + 3) 19 [.ref 26] (hp tx pg rd e (q4.1, q4.2.1, q4.2.2.1, q4.2.2.2.1, q4.2.2.2.2.1, e.2.2.2.2.2) sw)) (kk := fun q => (32, [(0, .ref 26), (1, .ref 13)], q.1.toList ++ [], q.2)) (q := (none, (hp tx pg rd e q5 sw))) 1 (fun _ => rfl) (ev_D_arrange_B hq) ?_
  cases h
  exact am_Ev.done 1 rfl
theorem ev_W_header_A {n0 : Nat} {tx : SB} {rd : SR} {e : SD} {sw : Bool} {x2 : Int32} {pg : SB} {d : SD} {res : SB} (h : fn_W_header x2 pg d = some res) : am_run cPT cML (n0 + 4) 34 [.ref 12, .ref 13, .int x2] (hp tx pg rd d e sw) = some (none, (hp tx res rd d e sw)) := by
  refine am_run_of (d := n0 + 3) rfl ?_
  show am_Ev (tb_W_header (am_run cPT cML (n0 + 3))) (0, [(0, .ref 12), (1, .ref 13), (2, .int x2)], [], (hp tx pg rd d e sw)) (none, (hp tx res rd d e sw))
  unfold fn_W_header at h
  obtain ⟨q1, hq, h⟩ := Option.bind_eq_some_iff.mp h
  refine am_Ev.go 3 (st' := (6, [(0, .ref 12), (1, .ref 13), (2, .int x2)], [.int 97, .ref 3], (hp tx pg rd d e sw))) (fun _ => rfl) ?_
  refine am_Ev.call (o := am_run cPT cML (n0 + 3) 2 [.ref 3, .int 97] (hp tx pg rd d e sw)) (kk := fun q => (9, [(0, .ref 12), (1, .ref 13), (2, .int x2)], q.1.toList ++ [], q.2)) (q := (none, (hp tx q1 rd d e sw))) 1 (fun _ => rfl) (ev_B_add_p hq) ?_
  obtain ⟨q2, hq, h⟩ := Option.bind_eq_some_iff.mp h
  refine am_Ev.go 3 (st' := (14, [(0, .ref 12), (1, .ref 13), (2, .int x2)], [.int x2, .ref 3], (hp tx q1 rd d e sw))) (fun _ => rfl) ?_
  refine am_Ev.call (o := am_run cPT cML (n0 + 3) 2 [.ref 3, .int x2] (hp tx q1 rd d e sw)) (kk := fun q => (17, [(0, .ref 12), (1, .ref 13), (2, .int x2)], q.1.toList ++ [], q.2)) (q := (none, (hp tx q2 rd d e sw))) 1 (fun _ => rfl) (ev_B_add_p hq) ?_
  obtain ⟨q3, hq, h⟩ := Option.bind_eq_some_iff.mp h
  refine am_Ev.go 3 (st' := (23, [(0, .ref 12), (1, .ref 13), (2, .int x2)], [.int 103, .ref 3], (hp tx q2 rd d e sw))) (fun _ => rfl) ?_
  refine am_Ev.call (o := am_run cPT cML (n0 + 3) 2 [.ref 3, .int 103] (hp tx q2 rd d e sw)) (kk := fun q => (26, [(0, .ref 12), (1, .ref 13), (2, .int x2)], q.1.toList ++ [], q.2)) (q := (none, (hp tx q3 rd d e sw))) 1 (fun _ => rfl) (ev_B_add_p hq) ?_
  obtain ⟨q4, hq, h⟩ := Option.bind_eq_some_iff.mp h
  refine am_Ev.go 3 (st' := (32, [(0, .ref 12), (1, .ref 13), (2, .int x2)], [.int 32, .ref 3], (hp tx q3 rd d e sw))) (fun _ => rfl) ?_
  refine am_Ev.call (o := am_run cPT cML (n0 + 3) 2 [.ref 3, .int 32] (hp tx q3 rd d e sw)) (kk := fun q => (35, [(0, .ref 12), (1, .ref 13), (2, .int x2)], q.1.toList ++ [], q.2)) (q := (none, (hp tx q4 rd d e sw))) 1 (fun _ => rfl) (ev_B_add_p hq) ?_
  obtain ⟨q5, hq, h⟩ := Option.bind_eq_some_iff.mp h
  refine am_Ev.go 2 (st' := (37, [(0, .ref 12), (1, .ref 13), (2, .int x2)], [.ref 13, .ref 12], (hp tx q4 rd d e sw))) (fun _ => rfl) ?_
  refine am_Ev.call (o := am_run cPT cML (n0 + 3) 4 [.ref 13] (hp tx q4 rd d e sw)) (kk := fun q => (40, [(0, .ref 12), (1, .ref 13), (2, .int x2)], q.1.toList ++ [.ref 12], q.2)) (q := (some (.int q5), (hp tx q4 rd d e sw))) 1 (fun _ => rfl) (ev_D_most_A hq) ?_
  obtain ⟨q6, hq, h⟩ := Option.bind_eq_some_iff.mp h
  refine am_Ev.call (o := am_run cPT cML (n0 + 3) 37 [.ref 12, .int q5] (hp tx q4 rd d e sw)) (kk := fun q => (43, [(0, .ref 12), (1, .ref 13), (2, .int x2)], q.1.toList ++ [], q.2)) (q := (none, (hp tx q6 rd d e sw))) 1 (fun _ => rfl) (ev_W_numberAndBlank_v hq) ?_
  obtain ⟨q7, hq, h⟩ := Option.bind_eq_some_iff.mp h
  refine am_Ev.go 3 (st' := (46, [(0, .ref 12), (1, .ref 13), (2, .int x2)], [.int 0, .ref 13, .ref 12], (hp tx q6 rd d e sw))) (fun _ => rfl) ?_
  refine am_Ev.call (o := am_run cPT cML (n0 + 3) 7 [.ref 13, .int 0] (hp tx q6 rd d e sw)) (kk := fun q => (49, [(0, .ref 12), (1, .ref 13), (2, .int x2)], q.1.toList ++ [.ref 12], q.2)) (q := (some (.int q7), (hp tx q6 rd d e sw))) 1 (fun _ => rfl) (ev_D_many_A hq) ?_
  obtain ⟨q8, hq, h⟩ := Option.bind_eq_some_iff.mp h
  refine am_Ev.call (o := am_run cPT cML (n0 + 3) 37 [.ref 12, .int q7] (hp tx q6 rd d e sw)) (kk := fun q => (52, [(0, .ref 12), (1, .ref 13), (2, .int x2)], q.1.toList ++ [], q.2)) (q := (none, (hp tx q8 rd d e sw))) 1 (fun _ => rfl) (ev_W_numberAndBlank_v hq) ?_
  obtain ⟨q9, hq, h⟩ := Option.bind_eq_some_iff.mp h
  refine am_Ev.go 3 (st' := (55, [(0, .ref 12), (1, .ref 13), (2, .int x2)], [.int 1, .ref 13, .ref 12], (hp tx q8 rd d e sw))) (fun _ => rfl) ?_
  refine am_Ev.call (o := am_run cPT cML (n0 + 3) 7 [.ref 13, .int 1] (hp tx q8 rd d e sw)) (kk := fun q => (58, [(0, .ref 12), (1, .ref 13), (2, .int x2)], q.1.toList ++ [.ref 12], q.2)) (q := (some (.int q9), (hp tx q8 rd d e sw))) 1 (fun _ => rfl) (ev_D_many_A hq) ?_
  obtain ⟨q10, hq, h⟩ := Option.bind_eq_some_iff.mp h
  refine am_Ev.call (o := am_run cPT cML (n0 + 3) 37 [.ref 12, .int q9] (hp tx q8 rd d e sw)) (kk := fun q => (61, [(0, .ref 12), (1, .ref 13), (2, .int x2)], q.1.toList ++ [], q.2)) (q := (none, (hp tx q10 rd d e sw))) 1 (fun _ => rfl) (ev_W_numberAndBlank_v hq) ?_
  obtain ⟨q11, hq, h⟩ := Option.bind_eq_some_iff.mp h
  refine am_Ev.go 3 (st' := (64, [(0, .ref 12), (1, .ref 13), (2, .int x2)], [.int 2, .ref 13, .ref 12], (hp tx q10 rd d e sw))) (fun _ => rfl) ?_
  refine am_Ev.call (o := am_run cPT cML (n0 + 3) 7 [.ref 13, .int 2] (hp tx q10 rd d e sw)) (kk := fun q => (67, [(0, .ref 12), (1, .ref 13), (2, .int x2)], q.1.toList ++ [.ref 12], q.2)) (q := (some (.int q11), (hp tx q10 rd d e sw))) 1 (fun _ => rfl) (ev_D_many_A hq) ?_
  obtain ⟨q12, hq, h⟩ := Option.bind_eq_some_iff.mp h
  refine am_Ev.call (o := am_run cPT cML (n0 + 3) 37 [.ref 12, .int q11] (hp tx q10 rd d e sw)) (kk := fun q => (70, [(0, .ref 12), (1, .ref 13), (2, .int x2)], q.1.toList ++ [], q.2)) (q := (none, (hp tx q12 rd d e sw))) 1 (fun _ => rfl) (ev_W_numberAndBlank_v hq) ?_
  obtain ⟨q13, hq, h⟩ := Option.bind_eq_some_iff.mp h
  refine am_Ev.go 3 (st' := (73, [(0, .ref 12), (1, .ref 13), (2, .int x2)], [.int 3, .ref 13, .ref 12], (hp tx q12 rd d e sw))) (fun _ => rfl) ?_
  refine am_Ev.call (o := am_run cPT cML (n0 + 3) 7 [.ref 13, .int 3] (hp tx q12 rd d e sw)) (kk := fun q => (76, [(0, .ref 12), (1, .ref 13), (2, .int x2)], q.1.toList ++ [.ref 12], q.2)) (q := (some (.int q13), (hp tx q12 rd d e sw))) 1 (fun _ => rfl) (ev_D_many_A hq) ?_
  obtain ⟨q14, hq, h⟩ := Option.bind_eq_some_iff.mp h
  refine am_Ev.call (o := am_run cPT cML (n0 + 3) 38 [.ref 12, .int q13] (hp tx q12 rd d e sw)) (kk := fun q => (79, [(0, .ref 12), (1, .ref 13), (2, .int x2)], q.1.toList ++ [], q.2)) (q := (none, (hp tx q14 rd d e sw))) 1 (fun _ => rfl) (ev_W_lastNumber_v hq) ?_
  cases h
  exact am_Ev.done 1 rfl
theorem ev_W_header_B {n0 : Nat} {tx : SB} {rd : SR} {e : SD} {sw : Bool} {x2 : Int32} {pg : SB} {d : SD} {res : SB} (h : fn_W_header x2 pg d = some res) : am_run cPT cML (n0 + 4) 34 [.ref 12, .ref 26, .int x2] (hp tx pg rd e d sw) = some (none, (hp tx res rd e d sw)) := by
  refine am_run_of (d := n0 + 3) rfl ?_
  show am_Ev (tb_W_header (am_run cPT cML (n0 + 3))) (0, [(0, .ref 12), (1, .ref 26), (2, .int x2)], [], (hp tx pg rd e d sw)) (none, (hp tx res rd e d sw))
  unfold fn_W_header at h
  obtain ⟨q1, hq, h⟩ := Option.bind_eq_some_iff.mp h
  refine am_Ev.go 3 (st' := (6, [(0, .ref 12), (1, .ref 26), (2, .int x2)], [.int 97, .ref 3], (hp tx pg rd e d sw))) (fun _ => rfl) ?_
  refine am_Ev.call (o := am_run cPT cML (n0 + 3) 2 [.ref 3, .int 97] (hp tx pg rd e d sw)) (kk := fun q => (9, [(0, .ref 12), (1, .ref 26), (2, .int x2)], q.1.toList ++ [], q.2)) (q := (none, (hp tx q1 rd e d sw))) 1 (fun _ => rfl) (ev_B_add_p hq) ?_
  obtain ⟨q2, hq, h⟩ := Option.bind_eq_some_iff.mp h
  refine am_Ev.go 3 (st' := (14, [(0, .ref 12), (1, .ref 26), (2, .int x2)], [.int x2, .ref 3], (hp tx q1 rd e d sw))) (fun _ => rfl) ?_
  refine am_Ev.call (o := am_run cPT cML (n0 + 3) 2 [.ref 3, .int x2] (hp tx q1 rd e d sw)) (kk := fun q => (17, [(0, .ref 12), (1, .ref 26), (2, .int x2)], q.1.toList ++ [], q.2)) (q := (none, (hp tx q2 rd e d sw))) 1 (fun _ => rfl) (ev_B_add_p hq) ?_
  obtain ⟨q3, hq, h⟩ := Option.bind_eq_some_iff.mp h
  refine am_Ev.go 3 (st' := (23, [(0, .ref 12), (1, .ref 26), (2, .int x2)], [.int 103, .ref 3], (hp tx q2 rd e d sw))) (fun _ => rfl) ?_
  refine am_Ev.call (o := am_run cPT cML (n0 + 3) 2 [.ref 3, .int 103] (hp tx q2 rd e d sw)) (kk := fun q => (26, [(0, .ref 12), (1, .ref 26), (2, .int x2)], q.1.toList ++ [], q.2)) (q := (none, (hp tx q3 rd e d sw))) 1 (fun _ => rfl) (ev_B_add_p hq) ?_
  obtain ⟨q4, hq, h⟩ := Option.bind_eq_some_iff.mp h
  refine am_Ev.go 3 (st' := (32, [(0, .ref 12), (1, .ref 26), (2, .int x2)], [.int 32, .ref 3], (hp tx q3 rd e d sw))) (fun _ => rfl) ?_
  refine am_Ev.call (o := am_run cPT cML (n0 + 3) 2 [.ref 3, .int 32] (hp tx q3 rd e d sw)) (kk := fun q => (35, [(0, .ref 12), (1, .ref 26), (2, .int x2)], q.1.toList ++ [], q.2)) (q := (none, (hp tx q4 rd e d sw))) 1 (fun _ => rfl) (ev_B_add_p hq) ?_
  obtain ⟨q5, hq, h⟩ := Option.bind_eq_some_iff.mp h
  refine am_Ev.go 2 (st' := (37, [(0, .ref 12), (1, .ref 26), (2, .int x2)], [.ref 26, .ref 12], (hp tx q4 rd e d sw))) (fun _ => rfl) ?_
  refine am_Ev.call (o := am_run cPT cML (n0 + 3) 4 [.ref 26] (hp tx q4 rd e d sw)) (kk := fun q => (40, [(0, .ref 12), (1, .ref 26), (2, .int x2)], q.1.toList ++ [.ref 12], q.2)) (q := (some (.int q5), (hp tx q4 rd e d sw))) 1 (fun _ => rfl) (ev_D_most_B hq) ?_
  obtain ⟨q6, hq, h⟩ := Option.bind_eq_some_iff.mp h
  refine am_Ev.call (o := am_run cPT cML (n0 + 3) 37 [.ref 12, .int q5] (hp tx q4 rd e d sw)) (kk := fun q => (43, [(0, .ref 12), (1, .ref 26), (2, .int x2)], q.1.toList ++ [], q.2)) (q := (none, (hp tx q6 rd e d sw))) 1 (fun _ => rfl) (ev_W_numberAndBlank_v hq) ?_
  obtain ⟨q7, hq, h⟩ := Option.bind_eq_some_iff.mp h
  refine am_Ev.go 3 (st' := (46, [(0, .ref 12), (1, .ref 26), (2, .int x2)], [.int 0, .ref 26, .ref 12], (hp tx q6 rd e d sw))) (fun _ => rfl) ?_
  refine am_Ev.call (o := am_run cPT cML (n0 + 3) 7 [.ref 26, .int 0] (hp tx q6 rd e d sw)) (kk := fun q => (49, [(0, .ref 12), (1, .ref 26), (2, .int x2)], q.1.toList ++ [.ref 12], q.2)) (q := (some (.int q7), (hp tx q6 rd e d sw))) 1 (fun _ => rfl) (ev_D_many_B hq) ?_
  obtain ⟨q8, hq, h⟩ := Option.bind_eq_some_iff.mp h
  refine am_Ev.call (o := am_run cPT cML (n0 + 3) 37 [.ref 12, .int q7] (hp tx q6 rd e d sw)) (kk := fun q => (52, [(0, .ref 12), (1, .ref 26), (2, .int x2)], q.1.toList ++ [], q.2)) (q := (none, (hp tx q8 rd e d sw))) 1 (fun _ => rfl) (ev_W_numberAndBlank_v hq) ?_
  obtain ⟨q9, hq, h⟩ := Option.bind_eq_some_iff.mp h
  refine am_Ev.go 3 (st' := (55, [(0, .ref 12), (1, .ref 26), (2, .int x2)], [.int 1, .ref 26, .ref 12], (hp tx q8 rd e d sw))) (fun _ => rfl) ?_
  refine am_Ev.call (o := am_run cPT cML (n0 + 3) 7 [.ref 26, .int 1] (hp tx q8 rd e d sw)) (kk := fun q => (58, [(0, .ref 12), (1, .ref 26), (2, .int x2)], q.1.toList ++ [.ref 12], q.2)) (q := (some (.int q9), (hp tx q8 rd e d sw))) 1 (fun _ => rfl) (ev_D_many_B hq) ?_
  obtain ⟨q10, hq, h⟩ := Option.bind_eq_some_iff.mp h
  refine am_Ev.call (o := am_run cPT cML (n0 + 3) 37 [.ref 12, .int q9] (hp tx q8 rd e d sw)) (kk := fun q => (61, [(0, .ref 12), (1, .ref 26), (2, .int x2)], q.1.toList ++ [], q.2)) (q := (none, (hp tx q10 rd e d sw))) 1 (fun _ => rfl) (ev_W_numberAndBlank_v hq) ?_
  obtain ⟨q11, hq, h⟩ := Option.bind_eq_some_iff.mp h
  refine am_Ev.go 3 (st' := (64, [(0, .ref 12), (1, .ref 26), (2, .int x2)], [.int 2, .ref 26, .ref 12], (hp tx q10 rd e d sw))) (fun _ => rfl) ?_
  refine am_Ev.call (o := am_run cPT cML (n0 + 3) 7 [.ref 26, .int 2] (hp tx q10 rd e d sw)) (kk := fun q => (67, [(0, .ref 12), (1, .ref 26), (2, .int x2)], q.1.toList ++ [.ref 12], q.2)) (q := (some (.int q11), (hp tx q10 rd e d sw))) 1 (fun _ => rfl) (ev_D_many_B hq) ?_
  obtain ⟨q12, hq, h⟩ := Option.bind_eq_some_iff.mp h
  refine am_Ev.call (o := am_run cPT cML (n0 + 3) 37 [.ref 12, .int q11] (hp tx q10 rd e d sw)) (kk := fun q => (70, [(0, .ref 12), (1, .ref 26), (2, .int x2)], q.1.toList ++ [], q.2)) (q := (none, (hp tx q12 rd e d sw))) 1 (fun _ => rfl) (ev_W_numberAndBlank_v hq) ?_
  obtain ⟨q13, hq, h⟩ := Option.bind_eq_some_iff.mp h
  refine am_Ev.go 3 (st' := (73, [(0, .ref 12), (1, .ref 26), (2, .int x2)], [.int 3, .ref 26, .ref 12], (hp tx q12 rd e d sw))) (fun _ => rfl) ?_
  refine am_Ev.call (o := am_run cPT cML (n0 + 3) 7 [.ref 26, .int 3] (hp tx q12 rd e d sw)) (kk := fun q => (76, [(0, .ref 12), (1, .ref 26), (2, .int x2)], q.1.toList ++ [.ref 12], q.2)) (q := (some (.int q13), (hp tx q12 rd e d sw))) 1 (fun _ => rfl) (ev_D_many_B hq) ?_
  obtain ⟨q14, hq, h⟩ := Option.bind_eq_some_iff.mp h
  refine am_Ev.call (o := am_run cPT cML (n0 + 3) 38 [.ref 12, .int q13] (hp tx q12 rd e d sw)) (kk := fun q => (79, [(0, .ref 12), (1, .ref 26), (2, .int x2)], q.1.toList ++ [], q.2)) (q := (none, (hp tx q14 rd e d sw))) 1 (fun _ => rfl) (ev_W_lastNumber_v hq) ?_
  cases h
  exact am_Ev.done 1 rfl
theorem ev_W_nextAndFirst_A {n0 : Nat} {tx : SB} {rd : SR} {e : SD} {sw : Bool} {x2 : Int32} {pg : SB} {d : SD} {res : SB} (h : fn_W_nextAndFirst x2 pg d = some res) : am_run cPT cML (n0 + 4) 35 [.ref 12, .ref 13, .int x2] (hp tx pg rd d e sw) = some (none, (hp tx res rd d e sw)) := by
  refine am_run_of (d := n0 + 3) rfl ?_
  show am_Ev (tb_W_nextAndFirst (am_run cPT cML (n0 + 3))) (0, [(0, .ref 12), (1, .ref 13), (2, .int x2)], [], (hp tx pg rd d e sw)) (none, (hp tx res rd d e sw))
  unfold fn_W_nextAndFirst at h
  obtain ⟨q1, hq, h⟩ := Option.bind_eq_some_iff.mp h
  refine am_Ev.go 3 (st' := (3, [(0, .ref 12), (1, .ref 13), (2, .int x2)], [.int x2, .int 5, .ref 13], (hp tx pg rd d e sw))) (fun _ => rfl) ?_
  refine am_Ev.call (o := am_run cPT cML (n0 + 3) 10 [.ref 13, .int 5, .int x2] (hp tx pg rd d e sw)) (kk := fun q => (6, [(0, .ref 12), (1, .ref 13), (2, .int x2)], q.1.toList ++ [], q.2)) (q := (some (.int q1), (hp tx pg rd d e sw))) 1 (fun _ => rfl) (ev_D_get_A hq) ?_
  refine am_Ev.fork (b := decide (q1 = (1 : Int32))) (s1 := (10, [(0, .ref 12), (1, .ref 13), (2, .int x2)], [], (hp tx pg rd d e sw))) (s2 := (28, [(0, .ref 12), (1, .ref 13), (2, .int x2)], [], (hp tx pg rd d e sw))) 2 (fun _ => rfl) (fun hc => ?_) (fun hc => ?_)
  · have h := (am_ift hc).symm.trans h
    obtain ⟨q2, hq, h⟩ := Option.bind_eq_some_iff.mp h
    refine am_Ev.go 4 (st' := (14, [(0, .ref 12), (1, .ref 13), (2, .int x2)], [.int x2, .int 4, .ref 13, .ref 12], (hp tx pg rd d e sw))) (fun _ => rfl) ?_
    refine am_Ev.call (o := am_run cPT cML (n0 + 3) 10 [.ref 13, .int 4, .int x2] (hp tx pg rd d e sw)) (kk := fun q => (17, [(0, .ref 12), (1, .ref 13), (2, .int x2)], q.1.toList ++ [.ref 12], q.2)) (q := (some (.int q2), (hp tx pg rd d e sw))) 1 (fun _ => rfl) (ev_D_get_A hq) ?_
    obtain ⟨q3, hq, h⟩ := Option.bind_eq_some_iff.mp h
    refine am_Ev.call (o := am_run cPT cML (n0 + 3) 37 [.ref 12, .int q2] (hp tx pg rd d e sw)) (kk := fun q => (20, [(0, .ref 12), (1, .ref 13), (2, .int x2)], q.1.toList ++ [], q.2)) (q := (none, (hp tx q3 rd d e sw))) 1 (fun _ => rfl) (ev_W_numberAndBlank_v hq) ?_
    obtain ⟨q4, hq, h⟩ := Option.bind_eq_some_iff.mp h
    refine am_Ev.go 2 (st' := (22, [(0, .ref 12), (1, .ref 13), (2, .int x2)], [.int 1, .ref 12], (hp tx q3 rd d e sw))) (fun _ => rfl) ?_
    refine am_Ev.call (o := am_run cPT cML (n0 + 3) 38 [.ref 12, .int 1] (hp tx q3 rd d e sw)) (kk := fun q => (25, [(0, .ref 12), (1, .ref 13), (2, .int x2)], q.1.toList ++ [], q.2)) (q := (none, (hp tx q4 rd d e sw))) 1 (fun _ => rfl) (ev_W_lastNumber_v hq) ?_
    cases h
    exact am_Ev.done 2 rfl
  · have h := (am_iff hc).symm.trans h
    obtain ⟨q5, hq, h⟩ := Option.bind_eq_some_iff.mp h
    refine am_Ev.go 4 (st' := (32, [(0, .ref 12), (1, .ref 13), (2, .int x2)], [.int x2, .int 4, .ref 13, .ref 12], (hp tx pg rd d e sw))) (fun _ => rfl) ?_
    refine am_Ev.call (o := am_run cPT cML (n0 + 3) 10 [.ref 13, .int 4, .int x2] (hp tx pg rd d e sw)) (kk := fun q => (35, [(0, .ref 12), (1, .ref 13), (2, .int x2)], q.1.toList ++ [.ref 12], q.2)) (q := (some (.int q5), (hp tx pg rd d e sw))) 1 (fun _ => rfl) (ev_D_get_A hq) ?_
    obtain ⟨q6, hq, h⟩ := Option.bind_eq_some_iff.mp h
    refine am_Ev.call (o := am_run cPT cML (n0 + 3) 38 [.ref 12, .int q5] (hp tx pg rd d e sw)) (kk := fun q => (38, [(0, .ref 12), (1, .ref 13), (2, .int x2)], q.1.toList ++ [], q.2)) (q := (none, (hp tx q6 rd d e sw))) 1 (fun _ => rfl) (ev_W_lastNumber_v hq) ?_
    cases h
    exact am_Ev.done 1 rfl
theorem ev_W_nextAndFirst_B {n0 : Nat} {tx : SB} {rd : SR} {e : SD} {sw : Bool} {x2 : Int32} {pg : SB} {d : SD} {res : SB} (h : fn_W_nextAndFirst x2 pg d = some res) : am_run cPT cML (n0 + 4) 35 [.ref 12, .ref 26, .int x2] (hp tx pg rd e d sw) = some (none, (hp tx res rd e d sw)) := by
  refine am_run_of (d := n0 + 3) rfl ?_
  show am_Ev (tb_W_nextAndFirst (am_run cPT cML (n0 + 3))) (0, [(0, .ref 12), (1, .ref 26), (2, .int x2)], [], (hp tx pg rd e d sw)) (none, (hp tx res rd e d sw))
  unfold fn_W_nextAndFirst at h
  obtain ⟨q1, hq, h⟩ := Option.bind_eq_some_iff.mp h
  refine am_Ev.go 3 (st' := (3, [(0, .ref 12), (1, .ref 26), (2, .int x2)], [.int x2, .int 5, .ref 26], (hp tx pg rd e d sw))) (fun _ => rfl) ?_
  refine am_Ev.call (o := am_run cPT cML (n0 + 3) 10 [.ref 26, .int 5, .int x2] (hp tx pg rd e d sw)) (kk := fun q => (6, [(0, .ref 12), (1, .ref 26), (2, .int x2)], q.1.toList ++ [], q.2)) (q := (some (.int q1), (hp tx pg rd e d sw))) 1 (fun _ => rfl) (ev_D_get_B hq) ?_
  refine am_Ev.fork (b := decide (q1 = (1 : Int32))) (s1 := (10, [(0, .ref 12), (1, .ref 26), (2, .int x2)], [], (hp tx pg rd e d sw))) (s2 := (28, [(0, .ref 12), (1, .ref 26), (2, .int x2)], [], (hp tx pg rd e d sw))) 2 (fun _ => rfl) (fun hc => ?_) (fun hc => ?_)
  · have h := (am_ift hc).symm.trans h
    obtain ⟨q2, hq, h⟩ := Option.bind_eq_some_iff.mp h
    refine am_Ev.go 4 (st' := (14, [(0, .ref 12), (1, .ref 26), (2, .int x2)], [.int x2, .int 4, .ref 26, .ref 12], (hp tx pg rd e d sw))) (fun _ => rfl) ?_
    refine am_Ev.call (o := am_run cPT cML (n0 + 3) 10 [.ref 26, .int 4, .int x2] (hp tx pg rd e d sw)) (kk := fun q => (17, [(0, .ref 12), (1, .ref 26), (2, .int x2)], q.1.toList ++ [.ref 12], q.2)) (q := (some (.int q2), (hp tx pg rd e d sw))) 1 (fun _ => rfl) (ev_D_get_B hq) ?_
    obtain ⟨q3, hq, h⟩ := Option.bind_eq_some_iff.mp h
    refine am_Ev.call (o := am_run cPT cML (n0 + 3) 37 [.ref 12, .int q2] (hp tx pg rd e d sw)) (kk := fun q => (20, [(0, .ref 12), (1, .ref 26), (2, .int x2)], q.1.toList ++ [], q.2)) (q := (none, (hp tx q3 rd e d sw))) 1 (fun _ => rfl) (ev_W_numberAndBlank_v hq) ?_
    obtain ⟨q4, hq, h⟩ := Option.bind_eq_some_iff.mp h
    refine am_Ev.go 2 (st' := (22, [(0, .ref 12), (1, .ref 26), (2, .int x2)], [.int 1, .ref 12], (hp tx q3 rd e d sw))) (fun _ => rfl) ?_
    refine am_Ev.call (o := am_run cPT cML (n0 + 3) 38 [.ref 12, .int 1] (hp tx q3 rd e d sw)) (kk := fun q => (25, [(0, .ref 12), (1, .ref 26), (2, .int x2)], q.1.toList ++ [], q.2)) (q := (none, (hp tx q4 rd e d sw))) 1 (fun _ => rfl) (ev_W_lastNumber_v hq) ?_
    cases h
    exact am_Ev.done 2 rfl
  · have h := (am_iff hc).symm.trans h
    obtain ⟨q5, hq, h⟩ := Option.bind_eq_some_iff.mp h
    refine am_Ev.go 4 (st' := (32, [(0, .ref 12), (1, .ref 26), (2, .int x2)], [.int x2, .int 4, .ref 26, .ref 12], (hp tx pg rd e d sw))) (fun _ => rfl) ?_
    refine am_Ev.call (o := am_run cPT cML (n0 + 3) 10 [.ref 26, .int 4, .int x2] (hp tx pg rd e d sw)) (kk := fun q => (35, [(0, .ref 12), (1, .ref 26), (2, .int x2)], q.1.toList ++ [.ref 12], q.2)) (q := (some (.int q5), (hp tx pg rd e d sw))) 1 (fun _ => rfl) (ev_D_get_B hq) ?_
    obtain ⟨q6, hq, h⟩ := Option.bind_eq_some_iff.mp h
    refine am_Ev.call (o := am_run cPT cML (n0 + 3) 38 [.ref 12, .int q5] (hp tx pg rd e d sw)) (kk := fun q => (38, [(0, .ref 12), (1, .ref 26), (2, .int x2)], q.1.toList ++ [], q.2)) (q := (none, (hp tx q6 rd e d sw))) 1 (fun _ => rfl) (ev_W_lastNumber_v hq) ?_
    cases h
    exact am_Ev.done 1 rfl
theorem ev_W_outputs_2_A {n0 : Nat} {tx : SB} {rd : SR} {e : SD} {sw : Bool} {d : SD} {κ : SB → Option (SB)} (hκ : ∀ (pg : SB) (res : SB), κ pg = some res → am_Ev (tb_W_outputs (am_run cPT cML (n0 + 3))) (27, [], [], (hp tx pg rd d e sw)) (none, (hp tx res rd d e sw))) : ∀ (n : Nat) (x2 : Int32) (pg : SB) (res : SB), fn_W_outputs_2 d κ n x2 pg = some res → am_Ev (tb_W_outputs (am_run cPT cML (n0 + 3))) (2, [(0, .ref 12), (1, .ref 13), (2, .int x2)], [], (hp tx pg rd d e sw)) (none, (hp tx res rd d e sw)) := by
  intro n
  induction n with
  | zero => intro x2 pg res h; unfold fn_W_outputs_2 at h; cases h
  | succ n ih =>
    intro x2 pg res h
    unfold fn_W_outputs_2 at h
    obtain ⟨q1, hq, h⟩ := Option.bind_eq_some_iff.mp h
    refine am_Ev.go 3 (st' := (5, [(0, .ref 12), (1, .ref 13), (2, .int x2)], [.int 2, .ref 13, .int x2], (hp tx pg rd d e sw))) (fun _ => rfl) ?_
    refine am_Ev.call (o := am_run cPT cML (n0 + 3) 7 [.ref 13, .int 2] (hp tx pg rd d e sw)) (kk := fun q => (8, [(0, .ref 12), (1, .ref 13), (2, .int x2)], q.1.toList ++ [.int x2], q.2)) (q := (some (.int q1), (hp tx pg rd d e sw))) 1 (fun _ => rfl) (ev_D_many_A hq) ?_
    refine am_Ev.fork (b := decide (q1 ≤ x2)) (s1 := (27, [(0, .ref 12), (1, .ref 13), (2, .int x2)], [], (hp tx pg rd d e sw))) (s2 := (11, [(0, .ref 12), (1, .ref 13), (2, .int x2)], [], (hp tx pg rd d e sw))) 1 (fun _ => rfl) (fun hc => ?_) (fun hc => ?_)
    · have h := (am_ift hc).symm.trans h
      refine am_Ev.same (st' := (27, [], [], (hp tx pg rd d e sw))) (fun _ => rfl) ?_
      exact hκ _ _ h
    · have h := (am_iff hc).symm.trans h
      obtain ⟨q2, hq, h⟩ := Option.bind_eq_some_iff.mp h
      refine am_Ev.go 4 (st' := (15, [(0, .ref 12), (1, .ref 13), (2, .int x2)], [.int x2, .int 2, .ref 13, .ref 12], (hp tx pg rd d e sw))) (fun _ => rfl) ?_
      refine am_Ev.call (o := am_run cPT cML (n0 + 3) 10 [.ref 13, .int 2, .int x2] (hp tx pg rd d e sw)) (kk := fun q => (18, [(0, .ref 12), (1, .ref 13), (2, .int x2)], q.1.toList ++ [.ref 12], q.2)) (q := (some (.int q2), (hp tx pg rd d e sw))) 1 (fun _ => rfl) (ev_D_get_A hq) ?_
      obtain ⟨q3, hq, h⟩ := Option.bind_eq_some_iff.mp h
      refine am_Ev.call (o := am_run cPT cML (n0 + 3) 38 [.ref 12, .int q2] (hp tx pg rd d e sw)) (kk := fun q => (21, [(0, .ref 12), (1, .ref 13), (2, .int x2)], q.1.toList ++ [], q.2)) (q := (none, (hp tx q3 rd d e sw))) 1 (fun _ => rfl) (ev_W_lastNumber_v hq) ?_
      refine am_Ev.go 2 (st' := (2, [(0, .ref 12), (1, .ref 13), (2, .int (x2 + 1))], [], (hp tx q3 rd d e sw))) (fun _ => rfl) ?_
      exact ih _ _ _ h
theorem ev_W_outputs_A {n0 : Nat} {tx : SB} {rd : SR} {e : SD} {sw : Bool} {pg : SB} {d : SD} {res : SB} (h : fn_W_outputs pg d = some res) : am_run cPT cML (n0 + 4) 36 [.ref 12, .ref 13] (hp tx pg rd d e sw) = some (none, (hp tx res rd d e sw)) := by
  refine am_run_of (d := n0 + 3) rfl ?_
  show am_Ev (tb_W_outputs (am_run cPT cML (n0 + 3))) (0, [(0, .ref 12), (1, .ref 13)], [], (hp tx pg rd d e sw)) (none, (hp tx res rd d e sw))
  unfold fn_W_outputs at h
  refine am_Ev.go 2 (st' := (2, [(0, .ref 12), (1, .ref 13), (2, .int 0)], [], (hp tx pg rd d e sw))) (fun _ => rfl) ?_
  refine ev_W_outputs_2_A ?_ _ _ _ _ h
  intro pg_5 res h
  try dsimp only at h
  cases h
  exact am_Ev.done 1 rfl
theorem ev_W_outputs_2_B {n0 : Nat} {tx : SB} {rd : SR} {e : SD} {sw : Bool} {d : SD} {κ : SB → Option (SB)} (hκ : ∀ (pg : SB) (res : SB), κ pg = some res → am_Ev (tb_W_outputs (am_run cPT cML (n0 + 3))) (27, [], [], (hp tx pg rd e d sw)) (none, (hp tx res rd e d sw))) : ∀ (n : Nat) (x2 : Int32) (pg : SB) (res : SB), fn_W_outputs_2 d κ n x2 pg = some res → am_Ev (tb_W_outputs (am_run cPT cML (n0 + 3))) (2, [(0, .ref 12), (1, .ref 26), (2, .int x2)], [], (hp tx pg rd e d sw)) (none, (hp tx res rd e d sw)) := by
  intro n
  induction n with
  | zero => intro x2 pg res h; unfold fn_W_outputs_2 at h; cases h
  | succ n ih =>
    intro x2 pg res h
    unfold fn_W_outputs_2 at h
    obtain ⟨q1, hq, h⟩ := Option.bind_eq_some_iff.mp h
    refine am_Ev.go 3 (st' := (5, [(0, .ref 12), (1, .ref 26), (2, .int x2)], [.int 2, .ref 26, .int x2], (hp tx pg rd e d sw))) (fun _ => rfl) ?_
    refine am_Ev.call (o := am_run cPT cML (n0 + 3) 7 [.ref 26, .int 2] (hp tx pg rd e d sw)) (kk := fun q => (8, [(0, .ref 12), (1, .ref 26), (2, .int x2)], q.1.toList ++ [.int x2], q.2)) (q := (some (.int q1), (hp tx pg rd e d sw))) 1 (fun _ => rfl) (ev_D_many_B hq) ?_
    refine am_Ev.fork (b := decide (q1 ≤ x2)) (s1 := (27, [(0, .ref 12), (1, .ref 26), (2, .int x2)], [], (hp tx pg rd e d sw))) (s2 := (11, [(0, .ref 12), (1, .ref 26), (2, .int x2)], [], (hp tx pg rd e d sw))) 1 (fun _ => rfl) (fun hc => ?_) (fun hc => ?_)
    · have h := (am_ift hc).symm.trans h
      refine am_Ev.same (st' := (27, [], [], (hp tx pg rd e d sw))) (fun _ => rfl) ?_
      exact hκ _ _ h
    · have h := (am_iff hc).symm.trans h
      obtain ⟨q2, hq, h⟩ := Option.bind_eq_some_iff.mp h
      refine am_Ev.go 4 (st' := (15, [(0, .ref 12), (1, .ref 26), (2, .int x2)], [.int x2, .int 2, .ref 26, .ref 12], (hp tx pg rd e d sw))) (fun _ => rfl) ?_
      refine am_Ev.call (o := am_run cPT cML (n0 + 3) 10 [.ref 26, .int 2, .int x2] (hp tx pg rd e d sw)) (kk := fun q => (18, [(0, .ref 12), (1, .ref 26), (2, .int x2)], q.1.toList ++ [.ref 12], q.2)) (q := (some (.int q2), (hp tx pg rd e d sw))) 1 (fun _ => rfl) (ev_D_get_B hq) ?_
      obtain ⟨q3, hq, h⟩ := Option.bind_eq_some_iff.mp h
      refine am_Ev.call (o := am_run cPT cML (n0 + 3) 38 [.ref 12, .int q2] (hp tx pg rd e d sw)) (kk := fun q => (21, [(0, .ref 12), (1, .ref 26), (2, .int x2)], q.1.toList ++ [], q.2)) (q := (none, (hp tx q3 rd e d sw))) 1 (fun _ => rfl) (ev_W_lastNumber_v hq) ?_
      refine am_Ev.go 2 (st' := (2, [(0, .ref 12), (1, .ref 26), (2, .int (x2 + 1))], [], (hp tx q3 rd e d sw))) (fun _ => rfl) ?_
      exact ih _ _ _ h
theorem ev_W_outputs_B {n0 : Nat} {tx : SB} {rd : SR} {e : SD} {sw : Bool} {pg : SB} {d : SD} {res : SB} (h : fn_W_outputs pg d = some res) : am_run cPT cML (n0 + 4) 36 [.ref 12, .ref 26] (hp tx pg rd e d sw) = some (none, (hp tx res rd e d sw)) := by
  refine am_run_of (d := n0 + 3) rfl ?_
  show am_Ev (tb_W_outputs (am_run cPT cML (n0 + 3))) (0, [(0, .ref 12), (1, .ref 26)], [], (hp tx pg rd e d sw)) (none, (hp tx res rd e d sw))
  unfold fn_W_outputs at h
  refine am_Ev.go 2 (st' := (2, [(0, .ref 12), (1, .ref 26), (2, .int 0)], [], (hp tx pg rd e d sw))) (fun _ => rfl) ?_
  refine ev_W_outputs_2_B ?_ _ _ _ _ h
  intro pg_5 res h
  try dsimp only at h
  cases h
  exact am_Ev.done 1 rfl
theorem ev_R_header_129_A {n0 : Nat} {pg : SB} {e : SD} {sw : Bool} {x5 : Int32} {tx : SB} {rd : SR} {d : SD} {res : SR × SD} (h : fn_R_header_129 x5 tx rd d = some res) : am_Ev (tb_R_header (am_run cPT cML (n0 + 3))) (129, [(0, .ref 5), (1, .ref 13), (5, .int x5)], [], (hp tx pg rd d e sw)) (none, (hp tx pg res.1 res.2 e sw)) := by
  unfold fn_R_header_129 at h
  obtain ⟨q1, hq, h⟩ := Option.bind_eq_some_iff.mp h
  refine am_Ev.go 3 (st' := (133, [(0, .ref 5), (1, .ref 13), (5, .int x5)], [.int x5, .int 3, .ref 13], (hp tx pg rd d e sw))) (fun _ => rfl) ?_
  refine am_Ev.call (o := am_run cPT cML (n0 + 3) 8 [.ref 13, .int 3, .int x5] (hp tx pg rd d e sw)) (kk := fun q => (136, [(0, .ref 5), (1, .ref 13), (5, .int x5)], q.1.toList ++ [], q.2)) (q := (none, (hp tx pg rd q1 e sw))) 1 (fun _ => rfl) (ev_D_setMany_A hq) ?_
  obtain ⟨q2, hq, h⟩ := Option.bind_eq_some_iff.mp h
  refine am_Ev.go 2 (st' := (139, [(0, .ref 5), (1, .ref 13), (5, .int x5)], [.int 10, .ref 5], (hp tx pg rd q1 e sw))) (fun _ => rfl) ?_
  refine am_Ev.call (o := am_run cPT cML (n0 + 3) 59 [.ref 5, .int 10] (hp tx pg rd q1 e sw)) (kk := fun q => (142, [(0, .ref 5), (1, .ref 13), (5, .int x5)], q.1.toList ++ [], q.2)) (q := (none, (hp tx pg q2 q1 e sw))) 1 (fun _ => rfl) (ev_R_expect_v hq) ?_
  cases h
  exact am_Ev.done 1 rfl
theorem ev_R_header_123_A {n0 : Nat} {pg : SB} {e : SD} {sw : Bool} {x4 : Int32} {x5 : Int32} {tx : SB} {rd : SR} {d : SD} {res : SR × SD} (h : fn_R_header_123 x4 x5 tx rd d = some res) : am_Ev (tb_R_header (am_run cPT cML (n0 + 3))) (123, [(0, .ref 5), (1, .ref 13), (4, .int x4), (5, .int x5)], [], (hp tx pg rd d e sw)) (none, (hp tx pg res.1 res.2 e sw)) := by
  unfold fn_R_header_123 at h
  obtain ⟨q3, hq, h⟩ := Option.bind_eq_some_iff.mp h
  refine am_Ev.go 2 (st' := (126, [(0, .ref 5), (1, .ref 13), (4, .int x4), (5, .int x5)], [.int x4, .ref 5], (hp tx pg rd d e sw))) (fun _ => rfl) ?_
  refine am_Ev.call (o := am_run cPT cML (n0 + 3) 60 [.ref 5, .int x4] (hp tx pg rd d e sw)) (kk := fun q => (129, [(0, .ref 5), (1, .ref 13), (4, .int x4), (5, .int x5)], q.1.toList ++ [], q.2)) (q := (none, (hp tx pg q3 d e sw))) 1 (fun _ => rfl) (ev_R_fail_v hq) ?_
  refine am_Ev.same (st' := (129, [(0, .ref 5), (1, .ref 13), (5, .int x5)], [], (hp tx pg q3 d e sw))) (fun _ => rfl) ?_
  exact ev_R_header_129_A h
theorem ev_R_header_18_A {n0 : Nat} {pg : SB} {e : SD} {sw : Bool} {s1 : Int32} {x2 : Int32} {tx : SB} {rd : SR} {d : SD} {res : SR × SD} (h : fn_R_header_18 s1 x2 tx rd d = some res) : am_Ev (tb_R_header (am_run cPT cML (n0 + 3))) (18, [(0, .ref 5), (1, .ref 13), (2, .int x2)], [.int s1, .ref 5], (hp tx pg rd d e sw)) (none, (hp tx pg res.1 res.2 e sw)) := by
  unfold fn_R_header_18 at h
  obtain ⟨q4, hq, h⟩ := Option.bind_eq_some_iff.mp h
  refine am_Ev.call (o := am_run cPT cML (n0 + 3) 59 [.ref 5, .int s1] (hp tx pg rd d e sw)) (kk := fun q => (21, [(0, .ref 5), (1, .ref 13), (2, .int x2)], q.1.toList ++ [], q.2)) (q := (none, (hp tx pg q4 d e sw))) 1 (fun _ => rfl) (ev_R_expect_v hq) ?_
  obtain ⟨q5, hq, h⟩ := Option.bind_eq_some_iff.mp h
  refine am_Ev.go 2 (st' := (24, [(0, .ref 5), (1, .ref 13), (2, .int x2)], [.int 103, .ref 5], (hp tx pg q4 d e sw))) (fun _ => rfl) ?_
  refine am_Ev.call (o := am_run cPT cML (n0 + 3) 59 [.ref 5, .int 103] (hp tx pg q4 d e sw)) (kk := fun q => (27, [(0, .ref 5), (1, .ref 13), (2, .int x2)], q.1.toList ++ [], q.2)) (q := (none, (hp tx pg q5 d e sw))) 1 (fun _ => rfl) (ev_R_expect_v hq) ?_
  obtain ⟨q6, hq, h⟩ := Option.bind_eq_some_iff.mp h
  refine am_Ev.go 3 (st' := (31, [(0, .ref 5), (1, .ref 13), (2, .int x2)], [.int 99, .ref 5, .ref 13], (hp tx pg q5 d e sw))) (fun _ => rfl) ?_
  refine am_Ev.call (o := am_run cPT cML (n0 + 3) 55 [.ref 5, .int 99] (hp tx pg q5 d e sw)) (kk := fun q => (34, [(0, .ref 5), (1, .ref 13), (2, .int x2)], q.1.toList ++ [.ref 13], q.2)) (q := (some (.int q6.1), (hp tx pg q6.2 d e sw))) 1 (fun _ => rfl) (ev_R_blankAndNumber_v hq) ?_
  obtain ⟨q7, hq, h⟩ := Option.bind_eq_some_iff.mp h
  refine am_Ev.call (o := am_run cPT cML (n0 + 3) 5 [.ref 13, .int q6.1] (hp tx pg q6.2 d e sw)) (kk := fun q => (37, [(0, .ref 5), (1, .ref 13), (2, .int x2)], q.1.toList ++ [], q.2)) (q := (none, (hp tx pg q6.2 q7 e sw))) 1 (fun _ => rfl) (ev_D_setMost_A hq) ?_
  obtain ⟨q8, hq, h⟩ := Option.bind_eq_some_iff.mp h
  refine am_Ev.go 4 (st' := (42, [(0, .ref 5), (1, .ref 13), (2, .int x2)], [.int 8, .ref 5, .int 0, .ref 13], (hp tx pg q6.2 q7 e sw))) (fun _ => rfl) ?_
  refine am_Ev.call (o := am_run cPT cML (n0 + 3) 55 [.ref 5, .int 8] (hp tx pg q6.2 q7 e sw)) (kk := fun q => (45, [(0, .ref 5), (1, .ref 13), (2, .int x2)], q.1.toList ++ [.int 0, .ref 13], q.2)) (q := (some (.int q8.1), (hp tx pg q8.2 q7 e sw))) 1 (fun _ => rfl) (ev_R_blankAndNumber_v hq) ?_
  obtain ⟨q9, hq, h⟩ := Option.bind_eq_some_iff.mp h
  refine am_Ev.call (o := am_run cPT cML (n0 + 3) 8 [.ref 13, .int 0, .int q8.1] (hp tx pg q8.2 q7 e sw)) (kk := fun q => (48, [(0, .ref 5), (1, .ref 13), (2, .int x2)], q.1.toList ++ [], q.2)) (q := (none, (hp tx pg q8.2 q9 e sw))) 1 (fun _ => rfl) (ev_D_setMany_A hq) ?_
  obtain ⟨q10, hq, h⟩ := Option.bind_eq_some_iff.mp h
  refine am_Ev.go 4 (st' := (53, [(0, .ref 5), (1, .ref 13), (2, .int x2)], [.int 8, .ref 5, .int 1, .ref 13], (hp tx pg q8.2 q9 e sw))) (fun _ => rfl) ?_
  refine am_Ev.call (o := am_run cPT cML (n0 + 3) 55 [.ref 5, .int 8] (hp tx pg q8.2 q9 e sw)) (kk := fun q => (56, [(0, .ref 5), (1, .ref 13), (2, .int x2)], q.1.toList ++ [.int 1, .ref 13], q.2)) (q := (some (.int q10.1), (hp tx pg q10.2 q9 e sw))) 1 (fun _ => rfl) (ev_R_blankAndNumber_v hq) ?_
  obtain ⟨q11, hq, h⟩ := Option.bind_eq_some_iff.mp h
  refine am_Ev.call (o := am_run cPT cML (n0 + 3) 8 [.ref 13, .int 1, .int q10.1] (hp tx pg q10.2 q9 e sw)) (kk := fun q => (59, [(0, .ref 5), (1, .ref 13), (2, .int x2)], q.1.toList ++ [], q.2)) (q := (none, (hp tx pg q10.2 q11 e sw))) 1 (fun _ => rfl) (ev_D_setMany_A hq) ?_
  obtain ⟨q12, hq, h⟩ := Option.bind_eq_some_iff.mp h
  refine am_Ev.go 4 (st' := (64, [(0, .ref 5), (1, .ref 13), (2, .int x2)], [.int 8, .ref 5, .int 2, .ref 13], (hp tx pg q10.2 q11 e sw))) (fun _ => rfl) ?_
  refine am_Ev.call (o := am_run cPT cML (n0 + 3) 55 [.ref 5, .int 8] (hp tx pg q10.2 q11 e sw)) (kk := fun q => (67, [(0, .ref 5), (1, .ref 13), (2, .int x2)], q.1.toList ++ [.int 2, .ref 13], q.2)) (q := (some (.int q12.1), (hp tx pg q12.2 q11 e sw))) 1 (fun _ => rfl) (ev_R_blankAndNumber_v hq) ?_
  obtain ⟨q13, hq, h⟩ := Option.bind_eq_some_iff.mp h
  refine am_Ev.call (o := am_run cPT cML (n0 + 3) 8 [.ref 13, .int 2, .int q12.1] (hp tx pg q12.2 q11 e sw)) (kk := fun q => (70, [(0, .ref 5), (1, .ref 13), (2, .int x2)], q.1.toList ++ [], q.2)) (q := (none, (hp tx pg q12.2 q13 e sw))) 1 (fun _ => rfl) (ev_D_setMany_A hq) ?_
  obtain ⟨q14, hq, h⟩ := Option.bind_eq_some_iff.mp h
  refine am_Ev.go 1 (st' := (71, [(0, .ref 5), (1, .ref 13), (2, .int x2)], [.ref 13], (hp tx pg q12.2 q13 e sw))) (fun _ => rfl) ?_
  refine am_Ev.call (o := am_run cPT cML (n0 + 3) 4 [.ref 13] (hp tx pg q12.2 q13 e sw)) (kk := fun q => (74, [(0, .ref 5), (1, .ref 13), (2, .int x2)], q.1.toList ++ [], q.2)) (q := (some (.int q14), (hp tx pg q12.2 q13 e sw))) 1 (fun _ => rfl) (ev_D_most_A hq) ?_
  obtain ⟨q15, hq, h⟩ := Option.bind_eq_some_iff.mp h
  refine am_Ev.go 2 (st' := (76, [(0, .ref 5), (1, .ref 13), (2, .int x2)], [.int 0, .ref 13, .int q14], (hp tx pg q12.2 q13 e sw))) (fun _ => rfl) ?_
  refine am_Ev.call (o := am_run cPT cML (n0 + 3) 7 [.ref 13, .int 0] (hp tx pg q12.2 q13 e sw)) (kk := fun q => (79, [(0, .ref 5), (1, .ref 13), (2, .int x2)], q.1.toList ++ [.int q14], q.2)) (q := (some (.int q15), (hp tx pg q12.2 q13 e sw))) 1 (fun _ => rfl) (ev_D_many_A hq) ?_
  obtain ⟨q16, hq, h⟩ := Option.bind_eq_some_iff.mp h
  refine am_Ev.go 3 (st' := (82, [(0, .ref 5), (1, .ref 13), (2, .int x2)], [.int 1, .ref 13, .int (q14 - q15)], (hp tx pg q12.2 q13 e sw))) (fun _ => rfl) ?_
  refine am_Ev.call (o := am_run cPT cML (n0 + 3) 7 [.ref 13, .int 1] (hp tx pg q12.2 q13 e sw)) (kk := fun q => (85, [(0, .ref 5), (1, .ref 13), (2, .int x2)], q.1.toList ++ [.int (q14 - q15)], q.2)) (q := (some (.int q16), (hp tx pg q12.2 q13 e sw))) 1 (fun _ => rfl) (ev_D_many_A hq) ?_
  obtain ⟨q17, hq, h⟩ := Option.bind_eq_some_iff.mp h
  refine am_Ev.go 4 (st' := (90, [(0, .ref 5), (1, .ref 13), (2, .int x2), (3, .int ((q14 - q15) - q16))], [.int 32, .ref 5], (hp tx pg q12.2 q13 e sw))) (fun _ => rfl) ?_
  refine am_Ev.call (o := am_run cPT cML (n0 + 3) 59 [.ref 5, .int 32] (hp tx pg q12.2 q13 e sw)) (kk := fun q => (93, [(0, .ref 5), (1, .ref 13), (2, .int x2), (3, .int ((q14 - q15) - q16))], q.1.toList ++ [], q.2)) (q := (none, (hp tx pg q17 q13 e sw))) 1 (fun _ => rfl) (ev_R_expect_v hq) ?_
  obtain ⟨q18, hq, h⟩ := Option.bind_eq_some_iff.mp h
  refine am_Ev.go 5 (st' := (102, [(0, .ref 5), (1, .ref 13), (2, .int x2), (3, .int ((q14 - q15) - q16)), (4, .int q17.2.2.2.2.2.2.2.1)], [.int 60, .ref 5], (hp tx pg q17 q13 e sw))) (fun _ => rfl) ?_
  refine am_Ev.call (o := am_run cPT cML (n0 + 3) 56 [.ref 5, .int 60] (hp tx pg q17 q13 e sw)) (kk := fun q => (105, [(0, .ref 5), (1, .ref 13), (2, .int x2), (3, .int ((q14 - q15) - q16)), (4, .int q17.2.2.2.2.2.2.2.1)], q.1.toList ++ [], q.2)) (q := (some (.int q18.1), (hp tx pg q18.2 q13 e sw))) 1 (fun _ => rfl) (ev_R_number_v hq) ?_
  refine am_Ev.fork (b := decide (((q14 - q15) - q16) < q18.1)) (s1 := (123, [(0, .ref 5), (1, .ref 13), (2, .int x2), (3, .int ((q14 - q15) - q16)), (4, .int q17.2.2.2.2.2.2.2.1), (5, .int q18.1)], [], (hp tx pg q18.2 q13 e sw))) (s2 := (113, [(0, .ref 5), (1, .ref 13), (2, .int x2), (3, .int ((q14 - q15) - q16)), (4, .int q17.2.2.2.2.2.2.2.1), (5, .int q18.1)], [], (hp tx pg q18.2 q13 e sw))) 4 (fun _ => rfl) (fun hc => ?_) (fun hc => ?_)
  · have h := (am_ift hc).symm.trans h
    refine am_Ev.same (st' := (123, [(0, .ref 5), (1, .ref 13), (4, .int q17.2.2.2.2.2.2.2.1), (5, .int q18.1)], [], (hp tx pg q18.2 q13 e sw))) (fun _ => rfl) ?_
    exact ev_R_header_123_A h
  · have h := (am_iff hc).symm.trans h
    refine am_Ev.fork (b := decide (x2 = 0)) (s1 := (129, [(0, .ref 5), (1, .ref 13), (2, .int x2), (3, .int ((q14 - q15) - q16)), (4, .int q17.2.2.2.2.2.2.2.1), (5, .int q18.1)], [], (hp tx pg q18.2 q13 e sw))) (s2 := (117, [(0, .ref 5), (1, .ref 13), (2, .int x2), (3, .int ((q14 - q15) - q16)), (4, .int q17.2.2.2.2.2.2.2.1), (5, .int q18.1)], [], (hp tx pg q18.2 q13 e sw))) 2 (fun _ => rfl) (fun hc => ?_) (fun hc => ?_)
    · have h := (am_ift hc).symm.trans h
      refine am_Ev.same (st' := (129, [(0, .ref 5), (1, .ref 13), (5, .int q18.1)], [], (hp tx pg q18.2 q13 e sw))) (fun _ => rfl) ?_
      exact ev_R_header_129_A h
    · have h := (am_iff hc).symm.trans h
      refine am_Ev.fork (b := decide (q18.1 = ((q14 - q15) - q16))) (s1 := (129, [(0, .ref 5), (1, .ref 13), (2, .int x2), (3, .int ((q14 - q15) - q16)), (4, .int q17.2.2.2.2.2.2.2.1), (5, .int q18.1)], [], (hp tx pg q18.2 q13 e sw))) (s2 := (123, [(0, .ref 5), (1, .ref 13), (2, .int x2), (3, .int ((q14 - q15) - q16)), (4, .int q17.2.2.2.2.2.2.2.1), (5, .int q18.1)], [], (hp tx pg q18.2 q13 e sw))) 3 (fun _ => rfl) (fun hc => ?_) (fun hc => ?_)
      · have h := (am_ift hc).symm.trans h
        refine am_Ev.same (st' := (129, [(0, .ref 5), (1, .ref 13), (5, .int q18.1)], [], (hp tx pg q18.2 q13 e sw))) (fun _ => rfl) ?_
        exact ev_R_header_129_A h
      · have h := (am_iff hc).symm.trans h
        refine am_Ev.same (st' := (123, [(0, .ref 5), (1, .ref 13), (4, .int q17.2.2.2.2.2.2.2.1), (5, .int q18.1)], [], (hp tx pg q18.2 q13 e sw))) (fun _ => rfl) ?_
        exact ev_R_header_123_A h
theorem ev_R_header_A {n0 : Nat} {pg : SB} {e : SD} {sw : Bool} {x2 : Int32} {tx : SB} {rd : SR} {d : SD} {res : SR × SD} (h : fn_R_header x2 tx rd d = some res) : am_run cPT cML (n0 + 4) 42 [.ref 5, .ref 13, .int x2] (hp tx pg rd d e sw) = some (none, (hp tx pg res.1 res.2 e sw)) := by
  refine am_run_of (d := n0 + 3) rfl ?_
  show am_Ev (tb_R_header (am_run cPT cML (n0 + 3))) (0, [(0, .ref 5), (1, .ref 13), (2, .int x2)], [], (hp tx pg rd d e sw)) (none, (hp tx pg res.1 res.2 e sw))
  unfold fn_R_header at h
  obtain ⟨q19, hq, h⟩ := Option.bind_eq_some_iff.mp h
  refine am_Ev.go 2 (st' := (3, [(0, .ref 5), (1, .ref 13), (2, .int x2)], [.int 97, .ref 5], (hp tx pg rd d e sw))) (fun _ => rfl) ?_
  refine am_Ev.call (o := am_run cPT cML (n0 + 3) 59 [.ref 5, .int 97] (hp tx pg rd d e sw)) (kk := fun q => (6, [(0, .ref 5), (1, .ref 13), (2, .int x2)], q.1.toList ++ [], q.2)) (q := (none, (hp tx pg q19 d e sw))) 1 (fun _ => rfl) (ev_R_expect_v hq) ?_
  refine am_Ev.fork (b := decide (x2 = 0)) (s1 := (16, [(0, .ref 5), (1, .ref 13), (2, .int x2)], [.ref 5], (hp tx pg q19 d e sw))) (s2 := (11, [(0, .ref 5), (1, .ref 13), (2, .int x2)], [.ref 5], (hp tx pg q19 d e sw))) 3 (fun _ => rfl) (fun hc => ?_) (fun hc => ?_)
  · have h := (am_ift hc).symm.trans h
    refine am_Ev.go 1 (st' := (18, [(0, .ref 5), (1, .ref 13), (2, .int x2)], [.int 97, .ref 5], (hp tx pg q19 d e sw))) (fun _ => rfl) ?_
    exact ev_R_header_18_A h
  · have h := (am_iff hc).symm.trans h
    refine am_Ev.go 2 (st' := (18, [(0, .ref 5), (1, .ref 13), (2, .int x2)], [.int 105, .ref 5], (hp tx pg q19 d e sw))) (fun _ => rfl) ?_
    exact ev_R_header_18_A h
theorem ev_R_header_129_B {n0 : Nat} {pg : SB} {e : SD} {sw : Bool} {x5 : Int32} {tx : SB} {rd : SR} {d : SD} {res : SR × SD} (h : fn_R_header_129 x5 tx rd d = some res) : am_Ev (tb_R_header (am_run cPT cML (n0 + 3))) (129, [(0, .ref 5), (1, .ref 26), (5, .int x5)], [], (hp tx pg rd e d sw)) (none, (hp tx pg res.1 e res.2 sw)) := by
  unfold fn_R_header_129 at h
  obtain ⟨q1, hq, h⟩ := Option.bind_eq_some_iff.mp h
  refine am_Ev.go 3 (st' := (133, [(0, .ref 5), (1, .ref 26), (5, .int x5)], [.int x5, .int 3, .ref 26], (hp tx pg rd e d sw))) (fun _ => rfl) ?_
  refine am_Ev.call (o := am_run cPT cML (n0 + 3) 8 [.ref 26, .int 3, .int x5] (hp tx pg rd e d sw)) (kk := fun q => (136, [(0, .ref 5), (1, .ref 26), (5, .int x5)], q.1.toList ++ [], q.2)) (q := (none, (hp tx pg rd e q1 sw))) 1 (fun _ => rfl) (ev_D_setMany_B hq) ?_
  obtain ⟨q2, hq, h⟩ := Option.bind_eq_some_iff.mp h
  refine am_Ev.go 2 (st' := (139, [(0, .ref 5), (1, .ref 26), (5, .int x5)], [.int 10, .ref 5], (hp tx pg rd e q1 sw))) (fun _ => rfl) ?_
  refine am_Ev.call (o := am_run cPT cML (n0 + 3) 59 [.ref 5, .int 10] (hp tx pg rd e q1 sw)) (kk := fun q => (142, [(0, .ref 5), (1, .ref 26), (5, .int x5)], q.1.toList ++ [], q.2)) (q := (none, (hp tx pg q2 e q1 sw))) 1 (fun _ => rfl) (ev_R_expect_v hq) ?_
  cases h
  exact am_Ev.done 1 rfl
theorem ev_R_header_123_B {n0 : Nat} {pg : SB} {e : SD} {sw : Bool} {x4 : Int32} {x5 : Int32} {tx : SB} {rd : SR} {d : SD} {res : SR × SD} (h : fn_R_header_123 x4 x5 tx rd d = some res) : am_Ev (tb_R_header (am_run cPT cML (n0 + 3))) (123, [(0, .ref 5), (1, .ref 26), (4, .int x4), (5, .int x5)], [], (hp tx pg rd e d sw)) (none, (hp tx pg res.1 e res.2 sw)) := by
  unfold fn_R_header_123 at h
  obtain ⟨q3, hq, h⟩ := Option.bind_eq_some_iff.mp h
  refine am_Ev.go 2 (st' := (126, [(0, .ref 5), (1, .ref 26), (4, .int x4), (5, .int x5)], [.int x4, .ref 5], (hp tx pg rd e d sw))) (fun _ => rfl) ?_
  refine am_Ev.call (o := am_run cPT cML (n0 + 3) 60 [.ref 5, .int x4] (hp tx pg rd e d sw)) (kk := fun q => (129, [(0, .ref 5), (1, .ref 26), (4, .int x4), (5, .int x5)], q.1.toList ++ [], q.2)) (q := (none, (hp tx pg q3 e d sw))) 1 (fun _ => rfl) (ev_R_fail_v hq) ?_
  refine am_Ev.same (st' := (129, [(0, .ref 5), (1, .ref 26), (5, .int x5)], [], (hp tx pg q3 e d sw))) (fun _ => rfl) ?_
  exact ev_R_header_129_B h
theorem ev_R_header_18_B {n0 : Nat} {pg : SB} {e : SD} {sw : Bool} {s1 : Int32} {x2 : Int32} {tx : SB} {rd : SR} {d : SD} {res : SR × SD} (h : fn_R_header_18 s1 x2 tx rd d = some res) : am_Ev (tb_R_header (am_run cPT cML (n0 + 3))) (18, [(0, .ref 5), (1, .ref 26), (2, .int x2)], [.int s1, .ref 5], (hp tx pg rd e d sw)) (none, (hp tx pg res.1 e res.2 sw)) := by
  unfold fn_R_header_18 at h
  obtain ⟨q4, hq, h⟩ := Option.bind_eq_some_iff.mp h
  refine am_Ev.call (o := am_run cPT cML (n0 + 3) 59 [.ref 5, .int s1] (hp tx pg rd e d sw)) (kk := fun q => (21, [(0, .ref 5), (1, .ref 26), (2, .int x2)], q.1.toList ++ [], q.2)) (q := (none, (hp tx pg q4 e d sw))) 1 (fun _ => rfl) (ev_R_expect_v hq) ?_
  obtain ⟨q5, hq, h⟩ := Option.bind_eq_some_iff.mp h
  refine am_Ev.go 2 (st' := (24, [(0, .ref 5), (1, .ref 26), (2, .int x2)], [.int 103, .ref 5], (hp tx pg q4 e d sw))) (fun _ => rfl) ?_
  refine am_Ev.call (o := am_run cPT cML (n0 + 3) 59 [.ref 5, .int 103] (hp tx pg q4 e d sw)) (kk := fun q => (27, [(0, .ref 5), (1, .ref 26), (2, .int x2)], q.1.toList ++ [], q.2)) (q := (none, (hp tx pg q5 e d sw))) 1 (fun _ => rfl) (ev_R_expect_v hq) ?_
  obtain ⟨q6, hq, h⟩ := Option.bind_eq_some_iff.mp h
  refine am_Ev.go 3 (st' := (31, [(0, .ref 5), (1, .ref 26), (2, .int x2)], [.int 99, .ref 5, .ref 26], (hp tx pg q5 e d sw))) (fun _ => rfl) ?_
  refine am_Ev.call (o := am_run cPT cML (n0 + 3) 55 [.ref 5, .int 99] (hp tx pg q5 e d sw)) (kk := fun q => (34, [(0, .ref 5), (1, .ref 26), (2, .int x2)], q.1.toList ++ [.ref 26], q.2)) (q := (some (.int q6.1), (hp tx pg q6.2 e d sw))) 1 (fun _ => rfl) (ev_R_blankAndNumber_v hq) ?_
  obtain ⟨q7, hq, h⟩ := Option.bind_eq_some_iff.mp h
  refine am_Ev.call (o := am_run cPT cML (n0 + 3) 5 [.ref 26, .int q6.1] (hp tx pg q6.2 e d sw)) (kk := fun q => (37, [(0, .ref 5), (1, .ref 26), (2, .int x2)], q.1.toList ++ [], q.2)) (q := (none, (hp tx pg q6.2 e q7 sw))) 1 (fun _ => rfl) (ev_D_setMost_B hq) ?_
  obtain ⟨q8, hq, h⟩ := Option.bind_eq_some_iff.mp h
  refine am_Ev.go 4 (st' := (42, [(0, .ref 5), (1, .ref 26), (2, .int x2)], [.int 8, .ref 5, .int 0, .ref 26], (hp tx pg q6.2 e q7 sw))) (fun _ => rfl) ?_
  refine am_Ev.call (o := am_run cPT cML (n0 + 3) 55 [.ref 5, .int 8] (hp tx pg q6.2 e q7 sw)) (kk := fun q => (45, [(0, .ref 5), (1, .ref 26), (2, .int x2)], q.1.toList ++ [.int 0, .ref 26], q.2)) (q := (some (.int q8.1), (hp tx pg q8.2 e q7 sw))) 1 (fun _ => rfl) (ev_R_blankAndNumber_v hq) ?_
  obtain ⟨q9, hq, h⟩ := Option.bind_eq_some_iff.mp h
  refine am_Ev.call (o := am_run cPT cML (n0 + 3) 8 [.ref 26, .int 0, .int q8.1] (hp tx pg q8.2 e q7 sw)) (kk := fun q => (48, [(0, .ref 5), (1, .ref 26), (2, .int x2)], q.1.toList ++ [], q.2)) (q := (none, (hp tx pg q8.2 e q9 sw))) 1 (fun _ => rfl) (ev_D_setMany_B hq) ?_
  obtain ⟨q10, hq, h⟩ := Option.bind_eq_some_iff.mp h
  refine am_Ev.go 4 (st' := (53, [(0, .ref 5), (1, .ref 26), (2, .int x2)], [.int 8, .ref 5, .int 1, .ref 26], (hp tx pg q8.2 e q9 sw))) (fun _ => rfl) ?_
  refine am_Ev.call (o := am_run cPT cML (n0 + 3) 55 [.ref 5, .int 8] (hp tx pg q8.2 e q9 sw)) (kk := fun q => (56, [(0, .ref 5), (1, .ref 26), (2, .int x2)], q.1.toList ++ [.int 1, .ref 26], q.2)) (q := (some (.int q10.1), (hp tx pg q10.2 e q9 sw))) 1 (fun _ => rfl) (ev_R_blankAndNumber_v hq) ?_
  obtain ⟨q11, hq, h⟩ := Option.bind_eq_some_iff.mp h
  refine am_Ev.call (o := am_run cPT cML (n0 + 3) 8 [.ref 26, .int 1, .int q10.1] (hp tx pg q10.2 e q9 sw)) (kk := fun q => (59, [(0, .ref 5), (1, .ref 26), (2, .int x2)], q.1.toList ++ [], q.2)) (q := (none, (hp tx pg q10.2 e q11 sw))) 1 (fun _ => rfl) (ev_D_setMany_B hq) ?_
  obtain ⟨q12, hq, h⟩ := Option.bind_eq_some_iff.mp h
  refine am_Ev.go 4 (st' := (64, [(0, .ref 5), (1, .ref 26), (2, .int x2)], [.int 8, .ref 5, .int 2, .ref 26], (hp tx pg q10.2 e q11 sw))) (fun _ => rfl) ?_
  refine am_Ev.call (o := am_run cPT cML (n0 + 3) 55 [.ref 5, .int 8] (hp tx pg q10.2 e q11 sw)) (kk := fun q => (67, [(0, .ref 5), (1, .ref 26), (2, .int x2)], q.1.toList ++ [.int 2, .ref 26], q.2)) (q := (some (.int q12.1), (hp tx pg q12.2 e q11 sw))) 1 (fun _ => rfl) (ev_R_blankAndNumber_v hq) ?_
  obtain ⟨q13, hq, h⟩ := Option.bind_eq_some_iff.mp h
  refine am_Ev.call (o := am_run cPT cML (n0 + 3) 8 [.ref 26, .int 2, .int q12.1] (hp tx pg q12.2 e q11 sw)) (kk := fun q => (70, [(0, .ref 5), (1, .ref 26), (2, .int x2)], q.1.toList ++ [], q.2)) (q := (none, (hp tx pg q12.2 e q13 sw))) 1 (fun _ => rfl) (ev_D_setMany_B hq) ?_
  obtain ⟨q14, hq, h⟩ := Option.bind_eq_some_iff.mp h
  refine am_Ev.go 1 (st' := (71, [(0, .ref 5), (1, .ref 26), (2, .int x2)], [.ref 26], (hp tx pg q12.2 e q13 sw))) (fun _ => rfl) ?_
  refine am_Ev.call (o := am_run cPT cML (n0 + 3) 4 [.ref 26] (hp tx pg q12.2 e q13 sw)) (kk := fun q => (74, [(0, .ref 5), (1, .ref 26), (2, .int x2)], q.1.toList ++ [], q.2)) (q := (some (.int q14), (hp tx pg q12.2 e q13 sw))) 1 (fun _ => rfl) (ev_D_most_B hq) ?_
  obtain ⟨q15, hq, h⟩ := Option.bind_eq_some_iff.mp h
  refine am_Ev.go 2 (st' := (76, [(0, .ref 5), (1, .ref 26), (2, .int x2)], [.int 0, .ref 26, .int q14], (hp tx pg q12.2 e q13 sw))) (fun _ => rfl) ?_
  refine am_Ev.call (o := am_run cPT cML (n0 + 3) 7 [.ref 26, .int 0] (hp tx pg q12.2 e q13 sw)) (kk := fun q => (79, [(0, .ref 5), (1, .ref 26), (2, .int x2)], q.1.toList ++ [.int q14], q.2)) (q := (some (.int q15), (hp tx pg q12.2 e q13 sw))) 1 (fun _ => rfl) (ev_D_many_B hq) ?_
  obtain ⟨q16, hq, h⟩ := Option.bind_eq_some_iff.mp h
  refine am_Ev.go 3 (st' := (82, [(0, .ref 5), (1, .ref 26), (2, .int x2)], [.int 1, .ref 26, .int (q14 - q15)], (hp tx pg q12.2 e q13 sw))) (fun _ => rfl) ?_
  refine am_Ev.call (o := am_run cPT cML (n0 + 3) 7 [.ref 26, .int 1] (hp tx pg q12.2 e q13 sw)) (kk := fun q => (85, [(0, .ref 5), (1, .ref 26), (2, .int x2)], q.1.toList ++ [.int (q14 - q15)], q.2)) (q := (some (.int q16), (hp tx pg q12.2 e q13 sw))) 1 (fun _ => rfl) (ev_D_many_B hq) ?_
  obtain ⟨q17, hq, h⟩ := Option.bind_eq_some_iff.mp h
  refine am_Ev.go 4 (st' := (90, [(0, .ref 5), (1, .ref 26), (2, .int x2), (3, .int ((q14 - q15) - q16))], [.int 32, .ref 5], (hp tx pg q12.2 e q13 sw))) (fun _ => rfl) ?_
  refine am_Ev.call (o := am_run cPT cML (n0 + 3) 59 [.ref 5, .int 32] (hp tx pg q12.2 e q13 sw)) (kk := fun q => (93, [(0, .ref 5), (1, .ref 26), (2, .int x2), (3, .int ((q14 - q15) - q16))], q.1.toList ++ [], q.2)) (q := (none, (hp tx pg q17 e q13 sw))) 1 (fun _ => rfl) (ev_R_expect_v hq) ?_
  obtain ⟨q18, hq, h⟩ := Option.bind_eq_some_iff.mp h
  refine am_Ev.go 5 (st' := (102, [(0, .ref 5), (1, .ref 26), (2, .int x2), (3, .int ((q14 - q15) - q16)), (4, .int q17.2.2.2.2.2.2.2.1)], [.int 60, .ref 5], (hp tx pg q17 e q13 sw))) (fun _ => rfl) ?_
  refine am_Ev.call (o := am_run cPT cML (n0 + 3) 56 [.ref 5, .int 60] (hp tx pg q17 e q13 sw)) (kk := fun q => (105, [(0, .ref 5), (1, .ref 26), (2, .int x2), (3, .int ((q14 - q15) - q16)), (4, .int q17.2.2.2.2.2.2.2.1)], q.1.toList ++ [], q.2)) (q := (some (.int q18.1), (hp tx pg q18.2 e q13 sw))) 1 (fun _ => rfl) (ev_R_number_v hq) ?_
  refine am_Ev.fork (b := decide (((q14 - q15) - q16) < q18.1)) (s1 := (123, [(0, .ref 5), (1, .ref 26), (2, .int x2), (3, .int ((q14 - q15) - q16)), (4, .int q17.2.2.2.2.2.2.2.1), (5, .int q18.1)], [], (hp tx pg q18.2 e q13 sw))) (s2 := (113, [(0, .ref 5), (1, .ref 26), (2, .int x2), (3, .int ((q14 - q15) - q16)), (4, .int q17.2.2.2.2.2.2.2.1), (5, .int q18.1)], [], (hp tx pg q18.2 e q13 sw))) 4 (fun _ => rfl) (fun hc => ?_) (fun hc => ?_)
  · have h := (am_ift hc).symm.trans h
    refine am_Ev.same (st' := (123, [(0, .ref 5), (1, .ref 26), (4, .int q17.2.2.2.2.2.2.2.1), (5, .int q18.1)], [], (hp tx pg q18.2 e q13 sw))) (fun _ => rfl) ?_
    exact ev_R_header_123_B h
  · have h := (am_iff hc).symm.trans h
    refine am_Ev.fork (b := decide (x2 = 0)) (s1 := (129, [(0, .ref 5), (1, .ref 26), (2, .int x2), (3, .int ((q14 - q15) - q16)), (4, .int q17.2.2.2.2.2.2.2.1), (5, .int q18.1)], [], (hp tx pg q18.2 e q13 sw))) (s2 := (117, [(0, .ref 5), (1, .ref 26), (2, .int x2), (3, .int ((q14 - q15) - q16)), (4, .int q17.2.2.2.2.2.2.2.1), (5, .int q18.1)], [], (hp tx pg q18.2 e q13 sw))) 2 (fun _ => rfl) (fun hc => ?_) (fun hc => ?_)
    · have h := (am_ift hc).symm.trans h
      refine am_Ev.same (st' := (129, [(0, .ref 5), (1, .ref 26), (5, .int q18.1)], [], (hp tx pg q18.2 e q13 sw))) (fun _ => rfl) ?_
      exact ev_R_header_129_B h
    · have h := (am_iff hc).symm.trans h
      refine am_Ev.fork (b := decide (q18.1 = ((q14 - q15) - q16))) (s1 := (129, [(0, .ref 5), (1, .ref 26), (2, .int x2), (3, .int ((q14 - q15) - q16)), (4, .int q17.2.2.2.2.2.2.2.1), (5, .int q18.1)], [], (hp tx pg q18.2 e q13 sw))) (s2 := (123, [(0, .ref 5), (1, .ref 26), (2, .int x2), (3, .int ((q14 - q15) - q16)), (4, .int q17.2.2.2.2.2.2.2.1), (5, .int q18.1)], [], (hp tx pg q18.2 e q13 sw))) 3 (fun _ => rfl) (fun hc => ?_) (fun hc => ?_)
      · have h := (am_ift hc).symm.trans h
        refine am_Ev.same (st' := (129, [(0, .ref 5), (1, .ref 26), (5, .int q18.1)], [], (hp tx pg q18.2 e q13 sw))) (fun _ => rfl) ?_
        exact ev_R_header_129_B h
      · have h := (am_iff hc).symm.trans h
        refine am_Ev.same (st' := (123, [(0, .ref 5), (1, .ref 26), (4, .int q17.2.2.2.2.2.2.2.1), (5, .int q18.1)], [], (hp tx pg q18.2 e q13 sw))) (fun _ => rfl) ?_
        exact ev_R_header_123_B h
theorem ev_R_header_B {n0 : Nat} {pg : SB} {e : SD} {sw : Bool} {x2 : Int32} {tx : SB} {rd : SR} {d : SD} {res : SR × SD} (h : fn_R_header x2 tx rd d = some res) : am_run cPT cML (n0 + 4) 42 [.ref 5, .ref 26, .int x2] (hp tx pg rd e d sw) = some (none, (hp tx pg res.1 e res.2 sw)) := by
  refine am_run_of (d := n0 + 3) rfl ?_
  show am_Ev (tb_R_header (am_run cPT cML (n0 + 3))) (0, [(0, .ref 5), (1, .ref 26), (2, .int x2)], [], (hp tx pg rd e d sw)) (none, (hp tx pg res.1 e res.2 sw))
  unfold fn_R_header at h
  obtain ⟨q19, hq, h⟩ := Option.bind_eq_some_iff.mp h
  refine am_Ev.go 2 (st' := (3, [(0, .ref 5), (1, .ref 26), (2, .int x2)], [.int 97, .ref 5], (hp tx pg rd e d sw))) (fun _ => rfl) ?_
  refine am_Ev.call (o := am_run cPT cML (n0 + 3) 59 [.ref 5, .int 97] (hp tx pg rd e d sw)) (kk := fun q => (6, [(0, .ref 5), (1, .ref 26), (2, .int x2)], q.1.toList ++ [], q.2)) (q := (none, (hp tx pg q19 e d sw))) 1 (fun _ => rfl) (ev_R_expect_v hq) ?_
  refine am_Ev.fork (b := decide (x2 = 0)) (s1 := (16, [(0, .ref 5), (1, .ref 26), (2, .int x2)], [.ref 5], (hp tx pg q19 e d sw))) (s2 := (11, [(0, .ref 5), (1, .ref 26), (2, .int x2)], [.ref 5], (hp tx pg q19 e d sw))) 3 (fun _ => rfl) (fun hc => ?_) (fun hc => ?_)
  · have h := (am_ift hc).symm.trans h
    refine am_Ev.go 1 (st' := (18, [(0, .ref 5), (1, .ref 26), (2, .int x2)], [.int 97, .ref 5], (hp tx pg q19 e d sw))) (fun _ => rfl) ?_
    exact ev_R_header_18_B h
  · have h := (am_iff hc).symm.trans h
    refine am_Ev.go 2 (st' := (18, [(0, .ref 5), (1, .ref 26), (2, .int x2)], [.int 105, .ref 5], (hp tx pg q19 e d sw))) (fun _ => rfl) ?_
    exact ev_R_header_18_B h
theorem ev_R_plainGates_11_A {n0 : Nat} {pg : SB} {e : SD} {sw : Bool} {x2 : Int32} {tx : SB} {κ : SR → SD → Option (SR × SD)} (hκ : ∀ (rd : SR) (d : SD) (res : SR × SD), κ rd d = some res → am_Ev (tb_R_plainGates (am_run cPT cML (n0 + 3))) (106, [], [], (hp tx pg rd d e sw)) (none, (hp tx pg res.1 res.2 e sw))) : ∀ (n : Nat) (x3 : Int32) (rd : SR) (d : SD) (res : SR × SD), fn_R_plainGates_11 x2 tx κ n x3 rd d = some res → am_Ev (tb_R_plainGates (am_run cPT cML (n0 + 3))) (11, [(0, .ref 5), (1, .ref 13), (2, .int x2), (3, .int x3)], [], (hp tx pg rd d e sw)) (none, (hp tx pg res.1 res.2 e sw)) := by
  intro n
  induction n with
  | zero => intro x3 rd d res h; unfold fn_R_plainGates_11 at h; cases h
  | succ n ih =>
    intro x3 rd d res h
    unfold fn_R_plainGates_11 at h
    obtain ⟨q1, hq, h⟩ := Option.bind_eq_some_iff.mp h
    refine am_Ev.go 3 (st' := (14, [(0, .ref 5), (1, .ref 13), (2, .int x2), (3, .int x3)], [.int 3, .ref 13, .int x3], (hp tx pg rd d e sw))) (fun _ => rfl) ?_
    refine am_Ev.call (o := am_run cPT cML (n0 + 3) 7 [.ref 13, .int 3] (hp tx pg rd d e sw)) (kk := fun q => (17, [(0, .ref 5), (1, .ref 13), (2, .int x2), (3, .int x3)], q.1.toList ++ [.int x3], q.2)) (q := (some (.int q1), (hp tx pg rd d e sw))) 1 (fun _ => rfl) (ev_D_many_A hq) ?_
    refine am_Ev.fork (b := decide (q1 ≤ x3)) (s1 := (106, [(0, .ref 5), (1, .ref 13), (2, .int x2), (3, .int x3)], [], (hp tx pg rd d e sw))) (s2 := (20, [(0, .ref 5), (1, .ref 13), (2, .int x2), (3, .int x3)], [], (hp tx pg rd d e sw))) 1 (fun _ => rfl) (fun hc => ?_) (fun hc => ?_)
    · have h := (am_ift hc).symm.trans h
      refine am_Ev.same (st' := (106, [], [], (hp tx pg rd d e sw))) (fun _ => rfl) ?_
      exact hκ _ _ _ h
    · have h := (am_iff hc).symm.trans h
      refine am_Ev.fork (b := decide (rd.2.2.2.2.2.2.2.2 = (-1 : Int32))) (s1 := (28, [(0, .ref 5), (1, .ref 13), (2, .int x2), (3, .int x3)], [], (hp tx pg rd d e sw))) (s2 := (106, [(0, .ref 5), (1, .ref 13), (2, .int x2), (3, .int x3)], [], (hp tx pg rd d e sw))) 4 (fun _ => rfl) (fun hc => ?_) (fun hc => ?_)
      · have h := (am_ift hc).symm.trans h
        refine am_Ev.fork (b := decide ((60 : Int32) ≤ x3)) (s1 := (47, [(0, .ref 5), (1, .ref 13), (2, .int x2), (3, .int x3)], [], (hp tx pg rd d e sw))) (s2 := (37, [(0, .ref 5), (1, .ref 13), (2, .int x2), (3, .int x3)], [], (hp tx pg rd d e sw))) 5 (fun _ => rfl) (fun hc => ?_) (fun hc => ?_)
        · have h := (am_ift hc).symm.trans h
          obtain ⟨q2, hq, h⟩ := Option.bind_eq_some_iff.mp h
          refine am_Ev.go 5 (st' := (52, [(0, .ref 5), (1, .ref 13), (2, .int x2), (3, .int x3)], [.int x2, .ref 5, .int x3, .int 3, .ref 13], (hp tx pg rd d e sw))) (fun _ => rfl) ?_
          refine am_Ev.call (o := am_run cPT cML (n0 + 3) 52 [.ref 5, .int x2] (hp tx pg rd d e sw)) (kk := fun q => (55, [(0, .ref 5), (1, .ref 13), (2, .int x2), (3, .int x3)], q.1.toList ++ [.int x3, .int 3, .ref 13], q.2)) (q := (some (.int q2.1), (hp tx pg q2.2 d e sw))) 1 (fun _ => rfl) (ev_R_definition_v hq) ?_
          obtain ⟨q3, hq, h⟩ := Option.bind_eq_some_iff.mp h
          refine am_Ev.call (o := am_run cPT cML (n0 + 3) 11 [.ref 13, .int 3, .int x3, .int q2.1] (hp tx pg q2.2 d e sw)) (kk := fun q => (58, [(0, .ref 5), (1, .ref 13), (2, .int x2), (3, .int x3)], q.1.toList ++ [], q.2)) (q := (none, (hp tx pg q2.2 q3 e sw))) 1 (fun _ => rfl) (ev_D_set_A hq) ?_
          obtain ⟨q4, hq, h⟩ := Option.bind_eq_some_iff.mp h
          refine am_Ev.go 2 (st' := (61, [(0, .ref 5), (1, .ref 13), (2, .int x2), (3, .int x3)], [.int 32, .ref 5], (hp tx pg q2.2 q3 e sw))) (fun _ => rfl) ?_
          refine am_Ev.call (o := am_run cPT cML (n0 + 3) 59 [.ref 5, .int 32] (hp tx pg q2.2 q3 e sw)) (kk := fun q => (64, [(0, .ref 5), (1, .ref 13), (2, .int x2), (3, .int x3)], q.1.toList ++ [], q.2)) (q := (none, (hp tx pg q4 q3 e sw))) 1 (fun _ => rfl) (ev_R_expect_v hq) ?_
          obtain ⟨q5, hq, h⟩ := Option.bind_eq_some_iff.mp h
          refine am_Ev.go 5 (st' := (70, [(0, .ref 5), (1, .ref 13), (2, .int x2), (3, .int x3)], [.int x2, .ref 5, .int x3, .int 6, .ref 13], (hp tx pg q4 q3 e sw))) (fun _ => rfl) ?_
          refine am_Ev.call (o := am_run cPT cML (n0 + 3) 53 [.ref 5, .int x2] (hp tx pg q4 q3 e sw)) (kk := fun q => (73, [(0, .ref 5), (1, .ref 13), (2, .int x2), (3, .int x3)], q.1.toList ++ [.int x3, .int 6, .ref 13], q.2)) (q := (some (.int q5.1), (hp tx pg q5.2 q3 e sw))) 1 (fun _ => rfl) (ev_R_use_v hq) ?_
          obtain ⟨q6, hq, h⟩ := Option.bind_eq_some_iff.mp h
          refine am_Ev.call (o := am_run cPT cML (n0 + 3) 11 [.ref 13, .int 6, .int x3, .int q5.1] (hp tx pg q5.2 q3 e sw)) (kk := fun q => (76, [(0, .ref 5), (1, .ref 13), (2, .int x2), (3, .int x3)], q.1.toList ++ [], q.2)) (q := (none, (hp tx pg q5.2 q6 e sw))) 1 (fun _ => rfl) (ev_D_set_A hq) ?_
          obtain ⟨q7, hq, h⟩ := Option.bind_eq_some_iff.mp h
          refine am_Ev.go 2 (st' := (79, [(0, .ref 5), (1, .ref 13), (2, .int x2), (3, .int x3)], [.int 32, .ref 5], (hp tx pg q5.2 q6 e sw))) (fun _ => rfl) ?_
          refine am_Ev.call (o := am_run cPT cML (n0 + 3) 59 [.ref 5, .int 32] (hp tx pg q5.2 q6 e sw)) (kk := fun q => (82, [(0, .ref 5), (1, .ref 13), (2, .int x2), (3, .int x3)], q.1.toList ++ [], q.2)) (q := (none, (hp tx pg q7 q6 e sw))) 1 (fun _ => rfl) (ev_R_expect_v hq) ?_
          obtain ⟨q8, hq, h⟩ := Option.bind_eq_some_iff.mp h
          refine am_Ev.go 5 (st' := (88, [(0, .ref 5), (1, .ref 13), (2, .int x2), (3, .int x3)], [.int x2, .ref 5, .int x3, .int 7, .ref 13], (hp tx pg q7 q6 e sw))) (fun _ => rfl) ?_
          refine am_Ev.call (o := am_run cPT cML (n0 + 3) 53 [.ref 5, .int x2] (hp tx pg q7 q6 e sw)) (kk := fun q => (91, [(0, .ref 5), (1, .ref 13), (2, .int x2), (3, .int x3)], q.1.toList ++ [.int x3, .int 7, .ref 13], q.2)) (q := (some (.int q8.1), (hp tx pg q8.2 q6 e sw))) 1 (fun _ => rfl) (ev_R_use_v hq) ?_
          obtain ⟨q9, hq, h⟩ := Option.bind_eq_some_iff.mp h
          refine am_Ev.call (o := am_run cPT cML (n0 + 3) 11 [.ref 13, .int 7, .int x3, .int q8.1] (hp tx pg q8.2 q6 e sw)) (kk := fun q => (94, [(0, .ref 5), (1, .ref 13), (2, .int x2), (3, .int x3)], q.1.toList ++ [], q.2)) (q := (none, (hp tx pg q8.2 q9 e sw))) 1 (fun _ => rfl) (ev_D_set_A hq) ?_
          obtain ⟨q10, hq, h⟩ := Option.bind_eq_some_iff.mp h
          refine am_Ev.go 2 (st' := (97, [(0, .ref 5), (1, .ref 13), (2, .int x2), (3, .int x3)], [.int 10, .ref 5], (hp tx pg q8.2 q9 e sw))) (fun _ => rfl) ?_
          refine am_Ev.call (o := am_run cPT cML (n0 + 3) 59 [.ref 5, .int 10] (hp tx pg q8.2 q9 e sw)) (kk := fun q => (100, [(0, .ref 5), (1, .ref 13), (2, .int x2), (3, .int x3)], q.1.toList ++ [], q.2)) (q := (none, (hp tx pg q10 q9 e sw))) 1 (fun _ => rfl) (ev_R_expect_v hq) ?_
          refine am_Ev.go 2 (st' := (11, [(0, .ref 5), (1, .ref 13), (2, .int x2), (3, .int (x3 + 1))], [], (hp tx pg q10 q9 e sw))) (fun _ => rfl) ?_
          exact ih _ _ _ _ h
        · have h := (am_iff hc).symm.trans h
          obtain ⟨hc, h⟩ := am_ifn h
          refine am_Ev.guard (b := decide (0 ≤ x3.toInt ∧ x3.toInt < (60 : Int))) (s1 := (47, [(0, .ref 5), (1, .ref 13), (2, .int x2), (3, .int x3)], [], (hp tx pg (rd.1, rd.2.1, rd.2.2.1, upd rd.2.2.2.1 x3.toNatClampNeg rd.2.2.2.2.2.2.2.1, rd.2.2.2.2.1, rd.2.2.2.2.2.1, rd.2.2.2.2.2.2.1, rd.2.2.2.2.2.2.2.1, rd.2.2.2.2.2.2.2.2) d e sw))) 6 (fun _ => rfl) hc ?_
          obtain ⟨q11, hq, h⟩ := Option.bind_eq_some_iff.mp h
          refine am_Ev.go 5 (st' := (52, [(0, .ref 5), (1, .ref 13), (2, .int x2), (3, .int x3)], [.int x2, .ref 5, .int x3, .int 3, .ref 13], (hp tx pg (rd.1, rd.2.1, rd.2.2.1, upd rd.2.2.2.1 x3.toNatClampNeg rd.2.2.2.2.2.2.2.1, rd.2.2.2.2.1, rd.2.2.2.2.2.1, rd.2.2.2.2.2.2.1, rd.2.2.2.2.2.2.2.1, rd.2.2.2.2.2.2.2.2) d e sw))) (fun _ => rfl) ?_
          refine am_Ev.call (o := am_run cPT cML (n0 + 3) 52 [.ref 5, .int x2] (hp tx pg (rd.1, rd.2.1, rd.2.2.1, upd rd.2.2.2.1 x3.toNatClampNeg rd.2.2.2.2.2.2.2.1, rd.2.2.2.2.1, rd.2.2.2.2.2.1, rd.2.2.2.2.2.2.1, rd.2.2.2.2.2.2.2.1, rd.2.2.2.2.2.2.2.2) d e sw)) (kk := fun q => (55, [(0, .ref 5), (1, .ref 13), (2, .int x2), (3, .int x3)], q.1.toList ++ [.int x3, .int 3, .ref 13], q.2)) (q := (some (.int q11.1), (hp tx pg q11.2 d e sw))) 1 (fun _ => rfl) (ev_R_definition_v hq) ?_
          obtain ⟨q12, hq, h⟩ := Option.bind_eq_some_iff.mp h
          refine am_Ev.call (o := am_run cPT cML (n0 + 3) 11 [.ref 13, .int 3, .int x3, .int q11.1] (hp tx pg q11.2 d e sw)) (kk := fun q => (58, [(0, .ref 5), (1, .ref 13), (2, .int x2), (3, .int x3)], q.1.toList ++ [], q.2)) (q := (none, (hp tx pg q11.2 q12 e sw))) 1 (fun _ => rfl) (ev_D_set_A hq) ?_
          obtain ⟨q13, hq, h⟩ := Option.bind_eq_some_iff.mp h
          refine am_Ev.go 2 (st' := (61, [(0, .ref 5), (1, .ref 13), (2, .int x2), (3, .int x3)], [.int 32, .ref 5], (hp tx pg q11.2 q12 e sw))) (fun _ => rfl) ?_
          refine am_Ev.call (o := am_run cPT cML (n0 + 3) 59 [.ref 5, .int 32] (hp tx pg q11.2 q12 e sw)) (kk := fun q => (64, [(0, .ref 5), (1, .ref 13), (2, .int x2), (3, .int x3)], q.1.toList ++ [], q.2)) (q := (none, (hp tx pg q13 q12 e sw))) 1 (fun _ => rfl) (ev_R_expect_v hq) ?_
          obtain ⟨q14, hq, h⟩ := Option.bind_eq_some_iff.mp h
          refine am_Ev.go 5 (st' := (70, [(0, .ref 5), (1, .ref 13), (2, .int x2), (3, .int x3)], [.int x2, .ref 5, .int x3, .int 6, .ref 13], (hp tx pg q13 q12 e sw))) (fun _ => rfl) ?_
          refine am_Ev.call (o := am_run cPT cML (n0 + 3) 53 [.ref 5, .int x2] (hp tx pg q13 q12 e sw)) (kk := fun q => (73, [(0, .ref 5), (1, .ref 13), (2, .int x2), (3, .int x3)], q.1.toList ++ [.int x3, .int 6, .ref 13], q.2)) (q := (some (.int q14.1), (hp tx pg q14.2 q12 e sw))) 1 (fun _ => rfl) (ev_R_use_v hq) ?_
          obtain ⟨q15, hq, h⟩ := Option.bind_eq_some_iff.mp h
          refine am_Ev.call (o := am_run cPT cML (n0 + 3) 11 [.ref 13, .int 6, .int x3, .int q14.1] (hp tx pg q14.2 q12 e sw)) (kk := fun q => (76, [(0, .ref 5), (1, .ref 13), (2, .int x2), (3, .int x3)], q.1.toList ++ [], q.2)) (q := (none, (hp tx pg q14.2 q15 e sw))) 1 (fun _ => rfl) (ev_D_set_A hq) ?_
          obtain ⟨q16, hq, h⟩ := Option.bind_eq_some_iff.mp h
          refine am_Ev.go 2 (st' := (79, [(0, .ref 5), (1, .ref 13), (2, .int x2), (3, .int x3)], [.int 32, .ref 5], (hp tx pg q14.2 q15 e sw))) (fun _ => rfl) ?_
          refine am_Ev.call (o := am_run cPT cML (n0 + 3) 59 [.ref 5, .int 32] (hp tx pg q14.2 q15 e sw)) (kk := fun q => (82, [(0, .ref 5), (1, .ref 13), (2, .int x2), (3, .int x3)], q.1.toList ++ [], q.2)) (q := (none, (hp tx pg q16 q15 e sw))) 1 (fun _ => rfl) (ev_R_expect_v hq) ?_
          obtain ⟨q17, hq, h⟩ := Option.bind_eq_some_iff.mp h
          refine am_Ev.go 5 (st' := (88, [(0, .ref 5), (1, .ref 13), (2, .int x2), (3, .int x3)], [.int x2, .ref 5, .int x3, .int 7, .ref 13], (hp tx pg q16 q15 e sw))) (fun _ => rfl) ?_
          refine am_Ev.call (o := am_run cPT cML (n0 + 3) 53 [.ref 5, .int x2] (hp tx pg q16 q15 e sw)) (kk := fun q => (91, [(0, .ref 5), (1, .ref 13), (2, .int x2), (3, .int x3)], q.1.toList ++ [.int x3, .int 7, .ref 13], q.2)) (q := (some (.int q17.1), (hp tx pg q17.2 q15 e sw))) 1 (fun _ => rfl) (ev_R_use_v hq) ?_
          obtain ⟨q18, hq, h⟩ := Option.bind_eq_some_iff.mp h
          refine am_Ev.call (o := am_run cPT cML (n0 + 3) 11 [.ref 13, .int 7, .int x3, .int q17.1] (hp tx pg q17.2 q15 e sw)) (kk := fun q => (94, [(0, .ref 5), (1, .ref 13), (2, .int x2), (3, .int x3)], q.1.toList ++ [], q.2)) (q := (none, (hp tx pg q17.2 q18 e sw))) 1 (fun _ => rfl) (ev_D_set_A hq) ?_
          obtain ⟨q19, hq, h⟩ := Option.bind_eq_some_iff.mp h
          refine am_Ev.go 2 (st' := (97, [(0, .ref 5), (1, .ref 13), (2, .int x2), (3, .int x3)], [.int 10, .ref 5], (hp tx pg q17.2 q18 e sw))) (fun _ => rfl) ?_
          refine am_Ev.call (o := am_run cPT cML (n0 + 3) 59 [.ref 5, .int 10] (hp tx pg q17.2 q18 e sw)) (kk := fun q => (100, [(0, .ref 5), (1, .ref 13), (2, .int x2), (3, .int x3)], q.1.toList ++ [], q.2)) (q := (none, (hp tx pg q19 q18 e sw))) 1 (fun _ => rfl) (ev_R_expect_v hq) ?_
          refine am_Ev.go 2 (st' := (11, [(0, .ref 5), (1, .ref 13), (2, .int x2), (3, .int (x3 + 1))], [], (hp tx pg q19 q18 e sw))) (fun _ => rfl) ?_
          exact ih _ _ _ _ h
      · have h := (am_iff hc).symm.trans h
        refine am_Ev.same (st' := (106, [], [], (hp tx pg rd d e sw))) (fun _ => rfl) ?_
        exact hκ _ _ _ h
theorem ev_R_plainGates_A {n0 : Nat} {pg : SB} {e : SD} {sw : Bool} {tx : SB} {rd : SR} {d : SD} {res : SR × SD} (h : fn_R_plainGates tx rd d = some res) : am_run cPT cML (n0 + 4) 44 [.ref 5, .ref 13] (hp tx pg rd d e sw) = some (none, (hp tx pg res.1 res.2 e sw)) := by
  refine am_run_of (d := n0 + 3) rfl ?_
  show am_Ev (tb_R_plainGates (am_run cPT cML (n0 + 3))) (0, [(0, .ref 5), (1, .ref 13)], [], (hp tx pg rd d e sw)) (none, (hp tx pg res.1 res.2 e sw))
  unfold fn_R_plainGates at h
  obtain ⟨q20, hq, h⟩ := Option.bind_eq_some_iff.mp h
  refine am_Ev.go 2 (st' := (2, [(0, .ref 5), (1, .ref 13)], [.ref 13, .int 2], (hp tx pg rd d e sw))) (fun _ => rfl) ?_
  refine am_Ev.call (o := am_run cPT cML (n0 + 3) 4 [.ref 13] (hp tx pg rd d e sw)) (kk := fun q => (5, [(0, .ref 5), (1, .ref 13)], q.1.toList ++ [.int 2], q.2)) (q := (some (.int q20), (hp tx pg rd d e sw))) 1 (fun _ => rfl) (ev_D_most_A hq) ?_
  refine am_Ev.go 6 (st' := (11, [(0, .ref 5), (1, .ref 13), (2, .int (((2 : Int32) * q20) + (1 : Int32))), (3, .int 0)], [], (hp tx pg rd d e sw))) (fun _ => rfl) ?_
  refine ev_R_plainGates_11_A ?_ _ _ _ _ _ h
  intro rd_22 d_22 res h
  try dsimp only at h
  cases h
  exact am_Ev.done 1 rfl
theorem ev_R_plainGates_11_B {n0 : Nat} {pg : SB} {e : SD} {sw : Bool} {x2 : Int32} {tx : SB} {κ : SR → SD → Option (SR × SD)} (hκ : ∀ (rd : SR) (d : SD) (res : SR × SD), κ rd d = some res → am_Ev (tb_R_plainGates (am_run cPT cML (n0 + 3))) (106, [], [], (hp tx pg rd e d sw)) (none, (hp tx pg res.1 e res.2 sw))) : ∀ (n : Nat) (x3 : Int32) (rd : SR) (d : SD) (res : SR × SD), fn_R_plainGates_11 x2 tx κ n x3 rd d = some res → am_Ev (tb_R_plainGates (am_run cPT cML (n0 + 3))) (11, [(0, .ref 5), (1, .ref 26), (2, .int x2), (3, .int x3)], [], (hp tx pg rd e d sw)) (none, (hp tx pg res.1 e res.2 sw)) := by
  intro n
  induction n with
  | zero => intro x3 rd d res h; unfold fn_R_plainGates_11 at h; cases h
  | succ n ih =>
    intro x3 rd d res h
    unfold fn_R_plainGates_11 at h
    obtain ⟨q1, hq, h⟩ := Option.bind_eq_some_iff.mp h
    refine am_Ev.go 3 (st' := (14, [(0, .ref 5), (1, .ref 26), (2, .int x2), (3, .int x3)], [.int 3, .ref 26, .int x3], (hp tx pg rd e d sw))) (fun _ => rfl) ?_
    refine am_Ev.call (o := am_run cPT cML (n0 + 3) 7 [.ref 26, .int 3] (hp tx pg rd e d sw)) (kk := fun q => (17, [(0, .ref 5), (1, .ref 26), (2, .int x2), (3, .int x3)], q.1.toList ++ [.int x3], q.2)) (q := (some (.int q1), (hp tx pg rd e d sw))) 1 (fun _ => rfl) (ev_D_many_B hq) ?_
    refine am_Ev.fork (b := decide (q1 ≤ x3)) (s1 := (106, [(0, .ref 5), (1, .ref 26), (2, .int x2), (3, .int x3)], [], (hp tx pg rd e d sw))) (s2 := (20, [(0, .ref 5), (1, .ref 26), (2, .int x2), (3, .int x3)], [], (hp tx pg rd e d sw))) 1 (fun _ => rfl) (fun hc => ?_) (fun hc => ?_)
    · have h := (am_ift hc).symm.trans h
      refine am_Ev.same (st' := (106, [], [], (hp tx pg rd e d sw))) (fun _ => rfl) ?_
      exact hκ _ _ _ h
    · have h := (am_iff hc).symm.trans h
      refine am_Ev.fork (b := decide (rd.2.2.2.2.2.2.2.2 = (-1 : Int32))) (s1 := (28, [(0, .ref 5), (1, .ref 26), (2, .int x2), (3, .int x3)], [], (hp tx pg rd e d sw))) (s2 := (106, [(0, .ref 5), (1, .ref 26), (2, .int x2), (3, .int x3)], [], (hp tx pg rd e d sw))) 4 (fun _ => rfl) (fun hc => ?_) (fun hc => ?_)
      · have h := (am_ift hc).symm.trans h
        refine am_Ev.fork (b := decide ((60 : Int32) ≤ x3)) (s1 := (47, [(0, .ref 5), (1, .ref 26), (2, .int x2), (3, .int x3)], [], (hp tx pg rd e d sw))) (s2 := (37, [(0, .ref 5), (1, .ref 26), (2, .int x2), (3, .int x3)], [], (hp tx pg rd e d sw))) 5 (fun _ => rfl) (fun hc => ?_) (fun hc => ?_)
        · have h := (am_ift hc).symm.trans h
          obtain ⟨q2, hq, h⟩ := Option.bind_eq_some_iff.mp h
          refine am_Ev.go 5 (st' := (52, [(0, .ref 5), (1, .ref 26), (2, .int x2), (3, .int x3)], [.int x2, .ref 5, .int x3, .int 3, .ref 26], (hp tx pg rd e d sw))) (fun _ => rfl) ?_
          refine am_Ev.call (o := am_run cPT cML (n0 + 3) 52 [.ref 5, .int x2] (hp tx pg rd e d sw)) (kk := fun q => (55, [(0, .ref 5), (1, .ref 26), (2, .int x2), (3, .int x3)], q.1.toList ++ [.int x3, .int 3, .ref 26], q.2)) (q := (some (.int q2.1), (hp tx pg q2.2 e d sw))) 1 (fun _ => rfl) (ev_R_definition_v hq) ?_
          obtain ⟨q3, hq, h⟩ := Option.bind_eq_some_iff.mp h
          refine am_Ev.call (o := am_run cPT cML (n0 + 3) 11 [.ref 26, .int 3, .int x3, .int q2.1] (hp tx pg q2.2 e d sw)) (kk := fun q => (58, [(0, .ref 5), (1, .ref 26), (2, .int x2), (3, .int x3)], q.1.toList ++ [], q.2)) (q := (none, (hp tx pg q2.2 e q3 sw))) 1 (fun _ => rfl) (ev_D_set_B hq) ?_
          obtain ⟨q4, hq, h⟩ := Option.bind_eq_some_iff.mp h
          refine am_Ev.go 2 (st' := (61, [(0, .ref 5), (1, .ref 26), (2, .int x2), (3, .int x3)], [.int 32, .ref 5], (hp tx pg q2.2 e q3 sw))) (fun _ => rfl) ?_
          refine am_Ev.call (o := am_run cPT cML (n0 + 3) 59 [.ref 5, .int 32] (hp tx pg q2.2 e q3 sw)) (kk := fun q => (64, [(0, .ref 5), (1, .ref 26), (2, .int x2), (3, .int x3)], q.1.toList ++ [], q.2)) (q := (none, (hp tx pg q4 e q3 sw))) 1 (fun _ => rfl) (ev_R_expect_v hq) ?_
          obtain ⟨q5, hq, h⟩ := Option.bind_eq_some_iff.mp h
          refine am_Ev.go 5 (st' := (70, [(0, .ref 5), (1, .ref 26), (2, .int x2), (3, .int x3)], [.int x2, .ref 5, .int x3, .int 6, .ref 26], (hp tx pg q4 e q3 sw))) (fun _ => rfl) ?_
          refine am_Ev.call (o := am_run cPT cML (n0 + 3) 53 [.ref 5, .int x2] (hp tx pg q4 e q3 sw)) (kk := fun q => (73, [(0, .ref 5), (1, .ref 26), (2, .int x2), (3, .int x3)], q.1.toList ++ [.int x3, .int 6, .ref 26], q.2)) (q := (some (.int q5.1), (hp tx pg q5.2 e q3 sw))) 1 (fun _ => rfl) (ev_R_use_v hq) ?_
          obtain ⟨q6, hq, h⟩ := Option.bind_eq_some_iff.mp h
          refine am_Ev.call (o := am_run cPT cML (n0 + 3) 11 [.ref 26, .int 6, .int x3, .int q5.1] (hp tx pg q5.2 e q3 sw)) (kk := fun q => (76, [(0, .ref 5), (1, .ref 26), (2, .int x2), (3, .int x3)], q.1.toList ++ [], q.2)) (q := (none, (hp tx pg q5.2 e q6 sw))) 1 (fun _ => rfl) (ev_D_set_B hq) ?_
          obtain ⟨q7, hq, h⟩ := Option.bind_eq_some_iff.mp h
          refine am_Ev.go 2 (st' := (79, [(0, .ref 5), (1, .ref 26), (2, .int x2), (3, .int x3)], [.int 32, .ref 5], (hp tx pg q5.2 e q6 sw))) (fun _ => rfl) ?_
          refine am_Ev.call (o := am_run cPT cML (n0 + 3) 59 [.ref 5, .int 32] (hp tx pg q5.2 e q6 sw)) (kk := fun q => (82, [(0, .ref 5), (1, .ref 26), (2, .int x2), (3, .int x3)], q.1.toList ++ [], q.2)) (q := (none, (hp tx pg q7 e q6 sw))) 1 (fun _ => rfl) (ev_R_expect_v hq) ?_
          obtain ⟨q8, hq, h⟩ := Option.bind_eq_some_iff.mp h
          refine am_Ev.go 5 (st' := (88, [(0, .ref 5), (1, .ref 26), (2, .int x2), (3, .int x3)], [.int x2, .ref 5, .int x3, .int 7, .ref 26], (hp tx pg q7 e q6 sw))) (fun _ => rfl) ?_
          refine am_Ev.call (o := am_run cPT cML (n0 + 3) 53 [.ref 5, .int x2] (hp tx pg q7 e q6 sw)) (kk := fun q => (91, [(0, .ref 5), (1, .ref 26), (2, .int x2), (3, .int x3)], q.1.toList ++ [.int x3, .int 7, .ref 26], q.2)) (q := (some (.int q8.1), (hp tx pg q8.2 e q6 sw))) 1 (fun _ => rfl) (ev_R_use_v hq) ?_
          obtain ⟨q9, hq, h⟩ := Option.bind_eq_some_iff.mp h
          refine am_Ev.call (o := am_run cPT cML (n0 + 3) 11 [.ref 26, .int 7, .int x3, .int q8.1] (hp tx pg q8.2 e q6 sw)) (kk := fun q => (94, [(0, .ref 5), (1, .ref 26), (2, .int x2), (3, .int x3)], q.1.toList ++ [], q.2)) (q := (none, (hp tx pg q8.2 e q9 sw))) 1 (fun _ => rfl) (ev_D_set_B hq) ?_
          obtain ⟨q10, hq, h⟩ := Option.bind_eq_some_iff.mp h
          refine am_Ev.go 2 (st' := (97, [(0, .ref 5), (1, .ref 26), (2, .int x2), (3, .int x3)], [.int 10, .ref 5], (hp tx pg q8.2 e q9 sw))) (fun _ => rfl) ?_
          refine am_Ev.call (o := am_run cPT cML (n0 + 3) 59 [.ref 5, .int 10] (hp tx pg q8.2 e q9 sw)) (kk := fun q => (100, [(0, .ref 5), (1, .ref 26), (2, .int x2), (3, .int x3)], q.1.toList ++ [], q.2)) (q := (none, (hp tx pg q10 e q9 sw))) 1 (fun _ => rfl) (ev_R_expect_v hq) ?_
          refine am_Ev.go 2 (st' := (11, [(0, .ref 5), (1, .ref 26), (2, .int x2), (3, .int (x3 + 1))], [], (hp tx pg q10 e q9 sw))) (fun _ => rfl) ?_
          exact ih _ _ _ _ h
        · have h := (am_iff hc).symm.trans h
          obtain ⟨hc, h⟩ := am_ifn h
          refine am_Ev.guard (b := decide (0 ≤ x3.toInt ∧ x3.toInt < (60 : Int))) (s1 := (47, [(0, .ref 5), (1, .ref 26), (2, .int x2), (3, .int x3)], [], (hp tx pg (rd.1, rd.2.1, rd.2.2.1, upd rd.2.2.2.1 x3.toNatClampNeg rd.2.2.2.2.2.2.2.1, rd.2.2.2.2.1, rd.2.2.2.2.2.1, rd.2.2.2.2.2.2.1, rd.2.2.2.2.2.2.2.1, rd.2.2.2.2.2.2.2.2) e d sw))) 6 (fun _ => rfl) hc ?_
          obtain ⟨q11, hq, h⟩ := Option.bind_eq_some_iff.mp h
          refine am_Ev.go 5 (st' := (52, [(0, .ref 5), (1, .ref 26), (2, .int x2), (3, .int x3)], [.int x2, .ref 5, .int x3, .int 3, .ref 26], (hp tx pg (rd.1, rd.2.1, rd.2.2.1, upd rd.2.2.2.1 x3.toNatClampNeg rd.2.2.2.2.2.2.2.1, rd.2.2.2.2.1, rd.2.2.2.2.2.1, rd.2.2.2.2.2.2.1, rd.2.2.2.2.2.2.2.1, rd.2.2.2.2.2.2.2.2) e d sw))) (fun _ => rfl) ?_
          refine am_Ev.call (o := am_run cPT cML (n0 + 3) 52 [.ref 5, .int x2] (hp tx pg (rd.1, rd.2.1, rd.2.2.1, upd rd.2.2.2.1 x3.toNatClampNeg rd.2.2.2.2.2.2.2.1, rd.2.2.2.2.1, rd.2.2.2.2.2.1, rd.2.2.2.2.2.2.1, rd.2.2.2.2.2.2.2.1, rd.2.2.2.2.2.2.2.2) e d sw)) (kk := fun q => (55, [(0, .ref 5), (1, .ref 26), (2, .int x2), (3, .int x3)], q.1.toList ++ [.int x3, .int 3, .ref 26], q.2)) (q := (some (.int q11.1), (hp tx pg q11.2 e d sw))) 1 (fun _ => rfl) (ev_R_definition_v hq) ?_
          obtain ⟨q12, hq, h⟩ := Option.bind_eq_some_iff.mp h
          refine am_Ev.call (o := am_run cPT cML (n0 + 3) 11 [.ref 26, .int 3, .int x3, .int q11.1] (hp tx pg q11.2 e d sw)) (kk := fun q => (58, [(0, .ref 5), (1, .ref 26), (2, .int x2), (3, .int x3)], q.1.toList ++ [], q.2)) (q := (none, (hp tx pg q11.2 e q12 sw))) 1 (fun _ => rfl) (ev_D_set_B hq) ?_
          obtain ⟨q13, hq, h⟩ := Option.bind_eq_some_iff.mp h
          refine am_Ev.go 2 (st' := (61, [(0, .ref 5), (1, .ref 26), (2, .int x2), (3, .int x3)], [.int 32, .ref 5], (hp tx pg q11.2 e q12 sw))) (fun _ => rfl) ?_
          refine am_Ev.call (o := am_run cPT cML (n0 + 3) 59 [.ref 5, .int 32] (hp tx pg q11.2 e q12 sw)) (kk := fun q => (64, [(0, .ref 5), (1, .ref 26), (2, .int x2), (3, .int x3)], q.1.toList ++ [], q.2)) (q := (none, (hp tx pg q13 e q12 sw))) 1 (fun _ => rfl) (ev_R_expect_v hq) ?_
          obtain ⟨q14, hq, h⟩ := Option.bind_eq_some_iff.mp h
          refine am_Ev.go 5 (st' := (70, [(0, .ref 5), (1, .ref 26), (2, .int x2), (3, .int x3)], [.int x2, .ref 5, .int x3, .int 6, .ref 26], (hp tx pg q13 e q12 sw))) (fun _ => rfl) ?_
          refine am_Ev.call (o := am_run cPT cML (n0 + 3) 53 [.ref 5, .int x2] (hp tx pg q13 e q12 sw)) (kk := fun q => (73, [(0, .ref 5), (1, .ref 26), (2, .int x2), (3, .int x3)], q.1.toList ++ [.int x3, .int 6, .ref 26], q.2)) (q := (some (.int q14.1), (hp tx pg q14.2 e q12 sw))) 1 (fun _ => rfl) (ev_R_use_v hq) ?_
          obtain ⟨q15, hq, h⟩ := Option.bind_eq_some_iff.mp h
          refine am_Ev.call (o := am_run cPT cML (n0 + 3) 11 [.ref 26, .int 6, .int x3, .int q14.1] (hp tx pg q14.2 e q12 sw)) (kk := fun q => (76, [(0, .ref 5), (1, .ref 26), (2, .int x2), (3, .int x3)], q.1.toList ++ [], q.2)) (q := (none, (hp tx pg q14.2 e q15 sw))) 1 (fun _ => rfl) (ev_D_set_B hq) ?_
          obtain ⟨q16, hq, h⟩ := Option.bind_eq_some_iff.mp h
          refine am_Ev.go 2 (st' := (79, [(0, .ref 5), (1, .ref 26), (2, .int x2), (3, .int x3)], [.int 32, .ref 5], (hp tx pg q14.2 e q15 sw))) (fun _ => rfl) ?_
          refine am_Ev.call (o := am_run cPT cML (n0 + 3) 59 [.ref 5, .int 32] (hp tx pg q14.2 e q15 sw)) (kk := fun q => (82, [(0, .ref 5), (1, .ref 26), (2, .int x2), (3, .int x3)], q.1.toList ++ [], q.2)) (q := (none, (hp tx pg q16 e q15 sw))) 1 (fun _ => rfl) (ev_R_expect_v hq) ?_
          obtain ⟨q17, hq, h⟩ := Option.bind_eq_some_iff.mp h
          refine am_Ev.go 5 (st' := (88, [(0, .ref 5), (1, .ref 26), (2, .int x2), (3, .int x3)], [.int x2, .ref 5, .int x3, .int 7, .ref 26], (hp tx pg q16 e q15 sw))) (fun _ => rfl) ?_
          refine am_Ev.call (o := am_run cPT cML (n0 + 3) 53 [.ref 5, .int x2] (hp tx pg q16 e q15 sw)) (kk := fun q => (91, [(0, .ref 5), (1, .ref 26), (2, .int x2), (3, .int x3)], q.1.toList ++ [.int x3, .int 7, .ref 26], q.2)) (q := (some (.int q17.1), (hp tx pg q17.2 e q15 sw))) 1 (fun _ => rfl) (ev_R_use_v hq) ?_
          obtain ⟨q18, hq, h⟩ := Option.bind_eq_some_iff.mp h
          refine am_Ev.call (o := am_run cPT cML (n0 + 3) 11 [.ref 26, .int 7, .int x3, .int q17.1] (hp tx pg q17.2 e q15 sw)) (kk := fun q => (94, [(0, .ref 5), (1, .ref 26), (2, .int x2), (3, .int x3)], q.1.toList ++ [], q.2)) (q := (none, (hp tx pg q17.2 e q18 sw))) 1 (fun _ => rfl) (ev_D_set_B hq) ?_
          obtain ⟨q19, hq, h⟩ := Option.bind_eq_some_iff.mp h
          refine am_Ev.go 2 (st' := (97, [(0, .ref 5), (1, .ref 26), (2, .int x2), (3, .int x3)], [.int 10, .ref 5], (hp tx pg q17.2 e q18 sw))) (fun _ => rfl) ?_
          refine am_Ev.call (o := am_run cPT cML (n0 + 3) 59 [.ref 5, .int 10] (hp tx pg q17.2 e q18 sw)) (kk := fun q => (100, [(0, .ref 5), (1, .ref 26), (2, .int x2), (3, .int x3)], q.1.toList ++ [], q.2)) (q := (none, (hp tx pg q19 e q18 sw))) 1 (fun _ => rfl) (ev_R_expect_v hq) ?_
          refine am_Ev.go 2 (st' := (11, [(0, .ref 5), (1, .ref 26), (2, .int x2), (3, .int (x3 + 1))], [], (hp tx pg q19 e q18 sw))) (fun _ => rfl) ?_
          exact ih _ _ _ _ h
      · have h := (am_iff hc).symm.trans h
        refine am_Ev.same (st' := (106, [], [], (hp tx pg rd e d sw))) (fun _ => rfl) ?_
        exact hκ _ _ _ h
theorem ev_R_plainGates_B {n0 : Nat} {pg : SB} {e : SD} {sw : Bool} {tx : SB} {rd : SR} {d : SD} {res : SR × SD} (h : fn_R_plainGates tx rd d = some res) : am_run cPT cML (n0 + 4) 44 [.ref 5, .ref 26] (hp tx pg rd e d sw) = some (none, (hp tx pg res.1 e res.2 sw)) := by
  refine am_run_of (d := n0 + 3) rfl ?_
  show am_Ev (tb_R_plainGates (am_run cPT cML (n0 + 3))) (0, [(0, .ref 5), (1, .ref 26)], [], (hp tx pg rd e d sw)) (none, (hp tx pg res.1 e res.2 sw))
  unfold fn_R_plainGates at h
  obtain ⟨q20, hq, h⟩ := Option.bind_eq_some_iff.mp h
  refine am_Ev.go 2 (st' := (2, [(0, .ref 5), (1, .ref 26)], [.ref 26, .int 2], (hp tx pg rd e d sw))) (fun _ => rfl) ?_
  refine am_Ev.call (o := am_run cPT cML (n0 + 3) 4 [.ref 26] (hp tx pg rd e d sw)) (kk := fun q => (5, [(0, .ref 5), (1, .ref 26)], q.1.toList ++ [.int 2], q.2)) (q := (some (.int q20), (hp tx pg rd e d sw))) 1 (fun _ => rfl) (ev_D_most_B hq) ?_
  refine am_Ev.go 6 (st' := (11, [(0, .ref 5), (1, .ref 26), (2, .int (((2 : Int32) * q20) + (1 : Int32))), (3, .int 0)], [], (hp tx pg rd e d sw))) (fun _ => rfl) ?_
  refine ev_R_plainGates_11_B ?_ _ _ _ _ _ h
  intro rd_22 d_22 res h
  try dsimp only at h
  cases h
  exact am_Ev.done 1 rfl
theorem ev_R_perhapsFirst_v {n0 : Nat} {pg : SB} {a : SD} {b : SD} {sw : Bool} {tx : SB} {rd : SR} {res : Int32 × SR} (h : fn_R_perhapsFirst tx rd = some res) : am_run cPT cML (n0 + 4) 54 [.ref 5] (hp tx pg rd a b sw) = some (some (.int res.1), (hp tx pg res.2 a b sw)) := by
  refine am_run_of (d := n0 + 3) rfl ?_
  show am_Ev (tb_R_perhapsFirst (am_run cPT cML (n0 + 3))) (0, [(0, .ref 5)], [], (hp tx pg rd a b sw)) (some (.int res.1), (hp tx pg res.2 a b sw))
  unfold fn_R_perhapsFirst at h
  obtain ⟨q1, hq, h⟩ := Option.bind_eq_some_iff.mp h
  refine am_Ev.go 4 (st' := (8, [(0, .ref 5)], [.int rd.2.2.2.2.2.2.2.1, .ref 1], (hp tx pg rd a b sw))) (fun _ => rfl) ?_
  refine am_Ev.call (o := am_run cPT cML (n0 + 3) 3 [.ref 1, .int rd.2.2.2.2.2.2.2.1] (hp tx pg rd a b sw)) (kk := fun q => (11, [(0, .ref 5)], q.1.toList ++ [], q.2)) (q := (some (.int q1), (hp tx pg rd a b sw))) 1 (fun _ => rfl) (ev_B_at_t hq) ?_
  refine am_Ev.fork (b := decide (q1 = (32 : Int32))) (s1 := (16, [(0, .ref 5)], [], (hp tx pg rd a b sw))) (s2 := (24, [(0, .ref 5)], [], (hp tx pg rd a b sw))) 2 (fun _ => rfl) (fun hc => ?_) (fun hc => ?_)
  · have h := (am_ift hc).symm.trans h
    obtain ⟨q2, hq, h⟩ := Option.bind_eq_some_iff.mp h
    refine am_Ev.go 2 (st' := (18, [(0, .ref 5)], [.int 1, .ref 5], (hp tx pg rd a b sw))) (fun _ => rfl) ?_
    refine am_Ev.call (o := am_run cPT cML (n0 + 3) 55 [.ref 5, .int 1] (hp tx pg rd a b sw)) (kk := fun q => (21, [(0, .ref 5)], q.1.toList ++ [], q.2)) (q := (some (.int q2.1), (hp tx pg q2.2 a b sw))) 1 (fun _ => rfl) (ev_R_blankAndNumber_v hq) ?_
    cases h
    exact am_Ev.done 2 rfl
  · have h := (am_iff hc).symm.trans h
    cases h
    exact am_Ev.done 2 rfl
theorem ev_T_about_A {n0 : Nat} {pg : SB} {rd : SR} {e : SD} {x1 : Int32} {tx : SB} {d : SD} {res : Int32} (h : fn_T_about x1 tx d = some res) : am_run cPT cML (n0 + 4) 62 [.ref 0, .int x1] (hp tx pg rd d e false) = some (some (.int res), (hp tx pg rd d e false)) := by
  refine am_run_of (d := n0 + 3) rfl ?_
  show am_Ev (tb_T_about (am_run cPT cML (n0 + 3))) (0, [(0, .ref 0), (1, .int x1)], [], (hp tx pg rd d e false)) (some (.int res), (hp tx pg rd d e false))
  unfold fn_T_about at h
  refine am_Ev.multi (bs := [(decide (x1 = 0), (44, [(0, .ref 0), (1, .int x1)], [], (hp tx pg rd d e false))), (decide (x1 = 1), (52, [(0, .ref 0), (1, .int x1)], [], (hp tx pg rd d e false))), (decide (x1 = 2), (61, [(0, .ref 0), (1, .int x1)], [], (hp tx pg rd d e false))), (decide (x1 = 3), (70, [(0, .ref 0), (1, .int x1)], [], (hp tx pg rd d e false))), (decide (x1 = 4), (79, [(0, .ref 0), (1, .int x1)], [], (hp tx pg rd d e false))), (decide (x1 = 5), (88, [(0, .ref 0), (1, .int x1)], [], (hp tx pg rd d e false))), (decide (x1 = 6), (96, [(0, .ref 0), (1, .int x1)], [], (hp tx pg rd d e false)))]) (s := (112, [(0, .ref 0), (1, .int x1)], [], (hp tx pg rd d e false))) 2 (fun _ => rfl) ?_
  refine am_Ev.sw1 (fun hc => ?_) (fun hc => ?_)
  · have h := (am_ift hc).symm.trans h
    obtain ⟨q1, hq, h⟩ := Option.bind_eq_some_iff.mp h
    refine am_Ev.go 2 (st' := (48, [(0, .ref 0), (1, .int x1)], [.ref 13], (hp tx pg rd d e false))) (fun _ => rfl) ?_
    refine am_Ev.call (o := am_run cPT cML (n0 + 3) 4 [.ref 13] (hp tx pg rd d e false)) (kk := fun q => (51, [(0, .ref 0), (1, .int x1)], q.1.toList ++ [], q.2)) (q := (some (.int q1), (hp tx pg rd d e false))) 1 (fun _ => rfl) (ev_D_most_A hq) ?_
    cases h
    exact am_Ev.done 1 rfl
  have h := (am_iff hc).symm.trans h
  refine am_Ev.sw1 (fun hc => ?_) (fun hc => ?_)
  · have h := (am_ift hc).symm.trans h
    obtain ⟨q2, hq, h⟩ := Option.bind_eq_some_iff.mp h
    refine am_Ev.go 3 (st' := (57, [(0, .ref 0), (1, .int x1)], [.int 0, .ref 13], (hp tx pg rd d e false))) (fun _ => rfl) ?_
    refine am_Ev.call (o := am_run cPT cML (n0 + 3) 7 [.ref 13, .int 0] (hp tx pg rd d e false)) (kk := fun q => (60, [(0, .ref 0), (1, .int x1)], q.1.toList ++ [], q.2)) (q := (some (.int q2), (hp tx pg rd d e false))) 1 (fun _ => rfl) (ev_D_many_A hq) ?_
    cases h
    exact am_Ev.done 1 rfl
  have h := (am_iff hc).symm.trans h
  refine am_Ev.sw1 (fun hc => ?_) (fun hc => ?_)
  · have h := (am_ift hc).symm.trans h
    obtain ⟨q3, hq, h⟩ := Option.bind_eq_some_iff.mp h
    refine am_Ev.go 3 (st' := (66, [(0, .ref 0), (1, .int x1)], [.int 1, .ref 13], (hp tx pg rd d e false))) (fun _ => rfl) ?_
    refine am_Ev.call (o := am_run cPT cML (n0 + 3) 7 [.ref 13, .int 1] (hp tx pg rd d e false)) (kk := fun q => (69, [(0, .ref 0), (1, .int x1)], q.1.toList ++ [], q.2)) (q := (some (.int q3), (hp tx pg rd d e false))) 1 (fun _ => rfl) (ev_D_many_A hq) ?_
    cases h
    exact am_Ev.done 1 rfl
  have h := (am_iff hc).symm.trans h
  refine am_Ev.sw1 (fun hc => ?_) (fun hc => ?_)
  · have h := (am_ift hc).symm.trans h
    obtain ⟨q4, hq, h⟩ := Option.bind_eq_some_iff.mp h
    refine am_Ev.go 3 (st' := (75, [(0, .ref 0), (1, .int x1)], [.int 2, .ref 13], (hp tx pg rd d e false))) (fun _ => rfl) ?_
    refine am_Ev.call (o := am_run cPT cML (n0 + 3) 7 [.ref 13, .int 2] (hp tx pg rd d e false)) (kk := fun q => (78, [(0, .ref 0), (1, .int x1)], q.1.toList ++ [], q.2)) (q := (some (.int q4), (hp tx pg rd d e false))) 1 (fun _ => rfl) (ev_D_many_A hq) ?_
    cases h
    exact am_Ev.done 1 rfl
  have h := (am_iff hc).symm.trans h
  refine am_Ev.sw1 (fun hc => ?_) (fun hc => ?_)
  · have h := (am_ift hc).symm.trans h
    obtain ⟨q5, hq, h⟩ := Option.bind_eq_some_iff.mp h
    refine am_Ev.go 3 (st' := (84, [(0, .ref 0), (1, .int x1)], [.int 3, .ref 13], (hp tx pg rd d e false))) (fun _ => rfl) ?_
    refine am_Ev.call (o := am_run cPT cML (n0 + 3) 7 [.ref 13, .int 3] (hp tx pg rd d e false)) (kk := fun q => (87, [(0, .ref 0), (1, .int x1)], q.1.toList ++ [], q.2)) (q := (some (.int q5), (hp tx pg rd d e false))) 1 (fun _ => rfl) (ev_D_many_A hq) ?_
    cases h
    exact am_Ev.done 1 rfl
  have h := (am_iff hc).symm.trans h
  refine am_Ev.sw1 (fun hc => ?_) (fun hc => ?_)
  · have h := (am_ift hc).symm.trans h
    obtain ⟨q6, hq, h⟩ := Option.bind_eq_some_iff.mp h
    refine am_Ev.go 2 (st' := (92, [(0, .ref 0), (1, .int x1)], [.ref 1], (hp tx pg rd d e false))) (fun _ => rfl) ?_
    refine am_Ev.call (o := am_run cPT cML (n0 + 3) 0 [.ref 1] (hp tx pg rd d e false)) (kk := fun q => (95, [(0, .ref 0), (1, .int x1)], q.1.toList ++ [], q.2)) (q := (some (.int q6), (hp tx pg rd d e false))) 1 (fun _ => rfl) (ev_B_size_t hq) ?_
    cases h
    exact am_Ev.done 1 rfl
  have h := (am_iff hc).symm.trans h
  refine am_Ev.sw1 (fun hc => ?_) (fun hc => ?_)
  · have h := (am_ift hc).symm.trans h
    obtain ⟨q7, hq, h⟩ := Option.bind_eq_some_iff.mp h
    refine am_Ev.go 2 (st' := (100, [(0, .ref 0), (1, .int x1)], [.ref 13], (hp tx pg rd d e false))) (fun _ => rfl) ?_
    refine am_Ev.call (o := am_run cPT cML (n0 + 3) 13 [.ref 13] (hp tx pg rd d e false)) (kk := fun q => (103, [(0, .ref 0), (1, .int x1)], q.1.toList ++ [], q.2)) (q := (some (.int q7), (hp tx pg rd d e false))) 1 (fun _ => rfl) (ev_D_inOrder_A hq) ?_
    refine am_Ev.fork (b := decide (q7 = 0)) (s1 := (110, [(0, .ref 0), (1, .int x1)], [], (hp tx pg rd d e false))) (s2 := (106, [(0, .ref 0), (1, .int x1)], [], (hp tx pg rd d e false))) 1 (fun _ => rfl) (fun hc => ?_) (fun hc => ?_)
    · have h := (am_ift hc).symm.trans h
      cases h
      exact am_Ev.done 2 rfl
    · have h := (am_iff hc).symm.trans h
      cases h
      exact am_Ev.done 3 rfl
  have h := (am_iff hc).symm.trans h
  refine am_Ev.sw0 ?_
  cases h
  exact am_Ev.done 2 rfl
theorem ev_T_about_B {n0 : Nat} {pg : SB} {rd : SR} {e : SD} {x1 : Int32} {tx : SB} {d : SD} {res : Int32} (h : fn_T_about x1 tx d = some res) : am_run cPT cML (n0 + 4) 62 [.ref 0, .int x1] (hp tx pg rd e d true) = some (some (.int res), (hp tx pg rd e d true)) := by
  refine am_run_of (d := n0 + 3) rfl ?_
  show am_Ev (tb_T_about (am_run cPT cML (n0 + 3))) (0, [(0, .ref 0), (1, .int x1)], [], (hp tx pg rd e d true)) (some (.int res), (hp tx pg rd e d true))
  unfold fn_T_about at h
  refine am_Ev.multi (bs := [(decide (x1 = 0), (44, [(0, .ref 0), (1, .int x1)], [], (hp tx pg rd e d true))), (decide (x1 = 1), (52, [(0, .ref 0), (1, .int x1)], [], (hp tx pg rd e d true))), (decide (x1 = 2), (61, [(0, .ref 0), (1, .int x1)], [], (hp tx pg rd e d true))), (decide (x1 = 3), (70, [(0, .ref 0), (1, .int x1)], [], (hp tx pg rd e d true))), (decide (x1 = 4), (79, [(0, .ref 0), (1, .int x1)], [], (hp tx pg rd e d true))), (decide (x1 = 5), (88, [(0, .ref 0), (1, .int x1)], [], (hp tx pg rd e d true))), (decide (x1 = 6), (96, [(0, .ref 0), (1, .int x1)], [], (hp tx pg rd e d true)))]) (s := (112, [(0, .ref 0), (1, .int x1)], [], (hp tx pg rd e d true))) 2 (fun _ => rfl) ?_
  refine am_Ev.sw1 (fun hc => ?_) (fun hc => ?_)
  · have h := (am_ift hc).symm.trans h
    obtain ⟨q1, hq, h⟩ := Option.bind_eq_some_iff.mp h
    refine am_Ev.go 2 (st' := (48, [(0, .ref 0), (1, .int x1)], [.ref 26], (hp tx pg rd e d true))) (fun _ => rfl) ?_
    refine am_Ev.call (o := am_run cPT cML (n0 + 3) 4 [.ref 26] (hp tx pg rd e d true)) (kk := fun q => (51, [(0, .ref 0), (1, .int x1)], q.1.toList ++ [], q.2)) (q := (some (.int q1), (hp tx pg rd e d true))) 1 (fun _ => rfl) (ev_D_most_B hq) ?_
    cases h
    exact am_Ev.done 1 rfl
  have h := (am_iff hc).symm.trans h
  refine am_Ev.sw1 (fun hc => ?_) (fun hc => ?_)
  · have h := (am_ift hc).symm.trans h
    obtain ⟨q2, hq, h⟩ := Option.bind_eq_some_iff.mp h
    refine am_Ev.go 3 (st' := (57, [(0, .ref 0), (1, .int x1)], [.int 0, .ref 26], (hp tx pg rd e d true))) (fun _ => rfl) ?_
    refine am_Ev.call (o := am_run cPT cML (n0 + 3) 7 [.ref 26, .int 0] (hp tx pg rd e d true)) (kk := fun q => (60, [(0, .ref 0), (1, .int x1)], q.1.toList ++ [], q.2)) (q := (some (.int q2), (hp tx pg rd e d true))) 1 (fun _ => rfl) (ev_D_many_B hq) ?_
    cases h
    exact am_Ev.done 1 rfl
  have h := (am_iff hc).symm.trans h
  refine am_Ev.sw1 (fun hc => ?_) (fun hc => ?_)
  · have h := (am_ift hc).symm.trans h
    obtain ⟨q3, hq, h⟩ := Option.bind_eq_some_iff.mp h
    refine am_Ev.go 3 (st' := (66, [(0, .ref 0), (1, .int x1)], [.int 1, .ref 26], (hp tx pg rd e d true))) (fun _ => rfl) ?_
    refine am_Ev.call (o := am_run cPT cML (n0 + 3) 7 [.ref 26, .int 1] (hp tx pg rd e d true)) (kk := fun q => (69, [(0, .ref 0), (1, .int x1)], q.1.toList ++ [], q.2)) (q := (some (.int q3), (hp tx pg rd e d true))) 1 (fun _ => rfl) (ev_D_many_B hq) ?_
    cases h
    exact am_Ev.done 1 rfl
  have h := (am_iff hc).symm.trans h
  refine am_Ev.sw1 (fun hc => ?_) (fun hc => ?_)
  · have h := (am_ift hc).symm.trans h
    obtain ⟨q4, hq, h⟩ := Option.bind_eq_some_iff.mp h
    refine am_Ev.go 3 (st' := (75, [(0, .ref 0), (1, .int x1)], [.int 2, .ref 26], (hp tx pg rd e d true))) (fun _ => rfl) ?_
    refine am_Ev.call (o := am_run cPT cML (n0 + 3) 7 [.ref 26, .int 2] (hp tx pg rd e d true)) (kk := fun q => (78, [(0, .ref 0), (1, .int x1)], q.1.toList ++ [], q.2)) (q := (some (.int q4), (hp tx pg rd e d true))) 1 (fun _ => rfl) (ev_D_many_B hq) ?_
    cases h
    exact am_Ev.done 1 rfl
  have h := (am_iff hc).symm.trans h
  refine am_Ev.sw1 (fun hc => ?_) (fun hc => ?_)
  · have h := (am_ift hc).symm.trans h
    obtain ⟨q5, hq, h⟩ := Option.bind_eq_some_iff.mp h
    refine am_Ev.go 3 (st' := (84, [(0, .ref 0), (1, .int x1)], [.int 3, .ref 26], (hp tx pg rd e d true))) (fun _ => rfl) ?_
    refine am_Ev.call (o := am_run cPT cML (n0 + 3) 7 [.ref 26, .int 3] (hp tx pg rd e d true)) (kk := fun q => (87, [(0, .ref 0), (1, .int x1)], q.1.toList ++ [], q.2)) (q := (some (.int q5), (hp tx pg rd e d true))) 1 (fun _ => rfl) (ev_D_many_B hq) ?_
    cases h
    exact am_Ev.done 1 rfl
  have h := (am_iff hc).symm.trans h
  refine am_Ev.sw1 (fun hc => ?_) (fun hc => ?_)
  · have h := (am_ift hc).symm.trans h
    obtain ⟨q6, hq, h⟩ := Option.bind_eq_some_iff.mp h
    refine am_Ev.go 2 (st' := (92, [(0, .ref 0), (1, .int x1)], [.ref 1], (hp tx pg rd e d true))) (fun _ => rfl) ?_
    refine am_Ev.call (o := am_run cPT cML (n0 + 3) 0 [.ref 1] (hp tx pg rd e d true)) (kk := fun q => (95, [(0, .ref 0), (1, .int x1)], q.1.toList ++ [], q.2)) (q := (some (.int q6), (hp tx pg rd e d true))) 1 (fun _ => rfl) (ev_B_size_t hq) ?_
    cases h
    exact am_Ev.done 1 rfl
  have h := (am_iff hc).symm.trans h
  refine am_Ev.sw1 (fun hc => ?_) (fun hc => ?_)
  · have h := (am_ift hc).symm.trans h
    obtain ⟨q7, hq, h⟩ := Option.bind_eq_some_iff.mp h
    refine am_Ev.go 2 (st' := (100, [(0, .ref 0), (1, .int x1)], [.ref 26], (hp tx pg rd e d true))) (fun _ => rfl) ?_
    refine am_Ev.call (o := am_run cPT cML (n0 + 3) 13 [.ref 26] (hp tx pg rd e d true)) (kk := fun q => (103, [(0, .ref 0), (1, .int x1)], q.1.toList ++ [], q.2)) (q := (some (.int q7), (hp tx pg rd e d true))) 1 (fun _ => rfl) (ev_D_inOrder_B hq) ?_
    refine am_Ev.fork (b := decide (q7 = 0)) (s1 := (110, [(0, .ref 0), (1, .int x1)], [], (hp tx pg rd e d true))) (s2 := (106, [(0, .ref 0), (1, .int x1)], [], (hp tx pg rd e d true))) 1 (fun _ => rfl) (fun hc => ?_) (fun hc => ?_)
    · have h := (am_ift hc).symm.trans h
      cases h
      exact am_Ev.done 2 rfl
    · have h := (am_iff hc).symm.trans h
      cases h
      exact am_Ev.done 3 rfl
  have h := (am_iff hc).symm.trans h
  refine am_Ev.sw0 ?_
  cases h
  exact am_Ev.done 2 rfl
theorem ev_W_plain_74_A {n0 : Nat} {tx : SB} {rd : SR} {e : SD} {sw : Bool} {d : SD} {κ : SB → Option (SB)} (hκ : ∀ (pg : SB) (res : SB), κ pg = some res → am_Ev (tb_W_plain (am_run cPT cML (n0 + 4))) (121, [], [], (hp tx pg rd d e sw)) (none, (hp tx res rd d e sw))) : ∀ (n : Nat) (x2 : Int32) (pg : SB) (res : SB), fn_W_plain_74 d κ n x2 pg = some res → am_Ev (tb_W_plain (am_run cPT cML (n0 + 4))) (74, [(0, .ref 12), (1, .ref 13), (2, .int x2)], [], (hp tx pg rd d e sw)) (none, (hp tx res rd d e sw)) := by
  intro n
  induction n with
  | zero => intro x2 pg res h; unfold fn_W_plain_74 at h; cases h
  | succ n ih =>
    intro x2 pg res h
    unfold fn_W_plain_74 at h
    obtain ⟨q1, hq, h⟩ := Option.bind_eq_some_iff.mp h
    refine am_Ev.go 3 (st' := (77, [(0, .ref 12), (1, .ref 13), (2, .int x2)], [.int 3, .ref 13, .int x2], (hp tx pg rd d e sw))) (fun _ => rfl) ?_
    refine am_Ev.call (o := am_run cPT cML (n0 + 4) 7 [.ref 13, .int 3] (hp tx pg rd d e sw)) (kk := fun q => (80, [(0, .ref 12), (1, .ref 13), (2, .int x2)], q.1.toList ++ [.int x2], q.2)) (q := (some (.int q1), (hp tx pg rd d e sw))) 1 (fun _ => rfl) (ev_D_many_A hq) ?_
    refine am_Ev.fork (b := decide (q1 ≤ x2)) (s1 := (121, [(0, .ref 12), (1, .ref 13), (2, .int x2)], [], (hp tx pg rd d e sw))) (s2 := (83, [(0, .ref 12), (1, .ref 13), (2, .int x2)], [], (hp tx pg rd d e sw))) 1 (fun _ => rfl) (fun hc => ?_) (fun hc => ?_)
    · have h := (am_ift hc).symm.trans h
      refine am_Ev.same (st' := (121, [], [], (hp tx pg rd d e sw))) (fun _ => rfl) ?_
      exact hκ _ _ h
    · have h := (am_iff hc).symm.trans h
      obtain ⟨q2, hq, h⟩ := Option.bind_eq_some_iff.mp h
      refine am_Ev.go 4 (st' := (87, [(0, .ref 12), (1, .ref 13), (2, .int x2)], [.int x2, .int 3, .ref 13, .ref 12], (hp tx pg rd d e sw))) (fun _ => rfl) ?_
      refine am_Ev.call (o := am_run cPT cML (n0 + 4) 10 [.ref 13, .int 3, .int x2] (hp tx pg rd d e sw)) (kk := fun q => (90, [(0, .ref 12), (1, .ref 13), (2, .int x2)], q.1.toList ++ [.ref 12], q.2)) (q := (some (.int q2), (hp tx pg rd d e sw))) 1 (fun _ => rfl) (ev_D_get_A hq) ?_
      obtain ⟨q3, hq, h⟩ := Option.bind_eq_some_iff.mp h
      refine am_Ev.call (o := am_run cPT cML (n0 + 4) 37 [.ref 12, .int q2] (hp tx pg rd d e sw)) (kk := fun q => (93, [(0, .ref 12), (1, .ref 13), (2, .int x2)], q.1.toList ++ [], q.2)) (q := (none, (hp tx q3 rd d e sw))) 1 (fun _ => rfl) (ev_W_numberAndBlank_v hq) ?_
      obtain ⟨q4, hq, h⟩ := Option.bind_eq_some_iff.mp h
      refine am_Ev.go 4 (st' := (98, [(0, .ref 12), (1, .ref 13), (2, .int x2)], [.int x2, .int 6, .ref 13, .ref 12], (hp tx q3 rd d e sw))) (fun _ => rfl) ?_
      refine am_Ev.call (o := am_run cPT cML (n0 + 4) 10 [.ref 13, .int 6, .int x2] (hp tx q3 rd d e sw)) (kk := fun q => (101, [(0, .ref 12), (1, .ref 13), (2, .int x2)], q.1.toList ++ [.ref 12], q.2)) (q := (some (.int q4), (hp tx q3 rd d e sw))) 1 (fun _ => rfl) (ev_D_get_A hq) ?_
      obtain ⟨q5, hq, h⟩ := Option.bind_eq_some_iff.mp h
      refine am_Ev.call (o := am_run cPT cML (n0 + 4) 37 [.ref 12, .int q4] (hp tx q3 rd d e sw)) (kk := fun q => (104, [(0, .ref 12), (1, .ref 13), (2, .int x2)], q.1.toList ++ [], q.2)) (q := (none, (hp tx q5 rd d e sw))) 1 (fun _ => rfl) (ev_W_numberAndBlank_v hq) ?_
      obtain ⟨q6, hq, h⟩ := Option.bind_eq_some_iff.mp h
      refine am_Ev.go 4 (st' := (109, [(0, .ref 12), (1, .ref 13), (2, .int x2)], [.int x2, .int 7, .ref 13, .ref 12], (hp tx q5 rd d e sw))) (fun _ => rfl) ?_
      refine am_Ev.call (o := am_run cPT cML (n0 + 4) 10 [.ref 13, .int 7, .int x2] (hp tx q5 rd d e sw)) (kk := fun q => (112, [(0, .ref 12), (1, .ref 13), (2, .int x2)], q.1.toList ++ [.ref 12], q.2)) (q := (some (.int q6), (hp tx q5 rd d e sw))) 1 (fun _ => rfl) (ev_D_get_A hq) ?_
      obtain ⟨q7, hq, h⟩ := Option.bind_eq_some_iff.mp h
      refine am_Ev.call (o := am_run cPT cML (n0 + 4) 38 [.ref 12, .int q6] (hp tx q5 rd d e sw)) (kk := fun q => (115, [(0, .ref 12), (1, .ref 13), (2, .int x2)], q.1.toList ++ [], q.2)) (q := (none, (hp tx q7 rd d e sw))) 1 (fun _ => rfl) (ev_W_lastNumber_v hq) ?_
      refine am_Ev.go 2 (st' := (74, [(0, .ref 12), (1, .ref 13), (2, .int (x2 + 1))], [], (hp tx q7 rd d e sw))) (fun _ => rfl) ?_
      exact ih _ _ _ h
theorem ev_W_plain_36_A {n0 : Nat} {tx : SB} {rd : SR} {e : SD} {sw : Bool} {d : SD} {κ : SB → Option (SB)} (hκ : ∀ (pg : SB) (res : SB), κ pg = some res → am_Ev (tb_W_plain (am_run cPT cML (n0 + 4))) (67, [(0, .ref 12), (1, .ref 13)], [], (hp tx pg rd d e sw)) (none, (hp tx res rd d e sw))) : ∀ (n : Nat) (x2 : Int32) (pg : SB) (res : SB), fn_W_plain_36 d κ n x2 pg = some res → am_Ev (tb_W_plain (am_run cPT cML (n0 + 4))) (36, [(0, .ref 12), (1, .ref 13), (2, .int x2)], [], (hp tx pg rd d e sw)) (none, (hp tx res rd d e sw)) := by
  intro n
  induction n with
  | zero => intro x2 pg res h; unfold fn_W_plain_36 at h; cases h
  | succ n ih =>
    intro x2 pg res h
    unfold fn_W_plain_36 at h
    obtain ⟨q8, hq, h⟩ := Option.bind_eq_some_iff.mp h
    refine am_Ev.go 3 (st' := (39, [(0, .ref 12), (1, .ref 13), (2, .int x2)], [.int 1, .ref 13, .int x2], (hp tx pg rd d e sw))) (fun _ => rfl) ?_
    refine am_Ev.call (o := am_run cPT cML (n0 + 4) 7 [.ref 13, .int 1] (hp tx pg rd d e sw)) (kk := fun q => (42, [(0, .ref 12), (1, .ref 13), (2, .int x2)], q.1.toList ++ [.int x2], q.2)) (q := (some (.int q8), (hp tx pg rd d e sw))) 1 (fun _ => rfl) (ev_D_many_A hq) ?_
    refine am_Ev.fork (b := decide (q8 ≤ x2)) (s1 := (67, [(0, .ref 12), (1, .ref 13), (2, .int x2)], [], (hp tx pg rd d e sw))) (s2 := (45, [(0, .ref 12), (1, .ref 13), (2, .int x2)], [], (hp tx pg rd d e sw))) 1 (fun _ => rfl) (fun hc => ?_) (fun hc => ?_)
    · have h := (am_ift hc).symm.trans h
      refine am_Ev.same (st' := (67, [(0, .ref 12), (1, .ref 13)], [], (hp tx pg rd d e sw))) (fun _ => rfl) ?_
      exact hκ _ _ h
    · have h := (am_iff hc).symm.trans h
      obtain ⟨q9, hq, h⟩ := Option.bind_eq_some_iff.mp h
      refine am_Ev.go 4 (st' := (49, [(0, .ref 12), (1, .ref 13), (2, .int x2)], [.int x2, .int 1, .ref 13, .ref 12], (hp tx pg rd d e sw))) (fun _ => rfl) ?_
      refine am_Ev.call (o := am_run cPT cML (n0 + 4) 10 [.ref 13, .int 1, .int x2] (hp tx pg rd d e sw)) (kk := fun q => (52, [(0, .ref 12), (1, .ref 13), (2, .int x2)], q.1.toList ++ [.ref 12], q.2)) (q := (some (.int q9), (hp tx pg rd d e sw))) 1 (fun _ => rfl) (ev_D_get_A hq) ?_
      obtain ⟨q10, hq, h⟩ := Option.bind_eq_some_iff.mp h
      refine am_Ev.call (o := am_run cPT cML (n0 + 4) 37 [.ref 12, .int q9] (hp tx pg rd d e sw)) (kk := fun q => (55, [(0, .ref 12), (1, .ref 13), (2, .int x2)], q.1.toList ++ [], q.2)) (q := (none, (hp tx q10 rd d e sw))) 1 (fun _ => rfl) (ev_W_numberAndBlank_v hq) ?_
      obtain ⟨q11, hq, h⟩ := Option.bind_eq_some_iff.mp h
      refine am_Ev.go 3 (st' := (58, [(0, .ref 12), (1, .ref 13), (2, .int x2)], [.int x2, .ref 13, .ref 12], (hp tx q10 rd d e sw))) (fun _ => rfl) ?_
      refine am_Ev.call (o := am_run cPT cML (n0 + 4) 35 [.ref 12, .ref 13, .int x2] (hp tx q10 rd d e sw)) (kk := fun q => (61, [(0, .ref 12), (1, .ref 13), (2, .int x2)], q.1.toList ++ [], q.2)) (q := (none, (hp tx q11 rd d e sw))) 1 (fun _ => rfl) (ev_W_nextAndFirst_A hq) ?_
      refine am_Ev.go 2 (st' := (36, [(0, .ref 12), (1, .ref 13), (2, .int (x2 + 1))], [], (hp tx q11 rd d e sw))) (fun _ => rfl) ?_
      exact ih _ _ _ h
theorem ev_W_plain_9_A {n0 : Nat} {tx : SB} {rd : SR} {e : SD} {sw : Bool} {d : SD} {κ : SB → Option (SB)} (hκ : ∀ (pg : SB) (res : SB), κ pg = some res → am_Ev (tb_W_plain (am_run cPT cML (n0 + 4))) (34, [(0, .ref 12), (1, .ref 13)], [], (hp tx pg rd d e sw)) (none, (hp tx res rd d e sw))) : ∀ (n : Nat) (x2 : Int32) (pg : SB) (res : SB), fn_W_plain_9 d κ n x2 pg = some res → am_Ev (tb_W_plain (am_run cPT cML (n0 + 4))) (9, [(0, .ref 12), (1, .ref 13), (2, .int x2)], [], (hp tx pg rd d e sw)) (none, (hp tx res rd d e sw)) := by
  intro n
  induction n with
  | zero => intro x2 pg res h; unfold fn_W_plain_9 at h; cases h
  | succ n ih =>
    intro x2 pg res h
    unfold fn_W_plain_9 at h
    obtain ⟨q12, hq, h⟩ := Option.bind_eq_some_iff.mp h
    refine am_Ev.go 3 (st' := (12, [(0, .ref 12), (1, .ref 13), (2, .int x2)], [.int 0, .ref 13, .int x2], (hp tx pg rd d e sw))) (fun _ => rfl) ?_
    refine am_Ev.call (o := am_run cPT cML (n0 + 4) 7 [.ref 13, .int 0] (hp tx pg rd d e sw)) (kk := fun q => (15, [(0, .ref 12), (1, .ref 13), (2, .int x2)], q.1.toList ++ [.int x2], q.2)) (q := (some (.int q12), (hp tx pg rd d e sw))) 1 (fun _ => rfl) (ev_D_many_A hq) ?_
    refine am_Ev.fork (b := decide (q12 ≤ x2)) (s1 := (34, [(0, .ref 12), (1, .ref 13), (2, .int x2)], [], (hp tx pg rd d e sw))) (s2 := (18, [(0, .ref 12), (1, .ref 13), (2, .int x2)], [], (hp tx pg rd d e sw))) 1 (fun _ => rfl) (fun hc => ?_) (fun hc => ?_)
    · have h := (am_ift hc).symm.trans h
      refine am_Ev.same (st' := (34, [(0, .ref 12), (1, .ref 13)], [], (hp tx pg rd d e sw))) (fun _ => rfl) ?_
      exact hκ _ _ h
    · have h := (am_iff hc).symm.trans h
      obtain ⟨q13, hq, h⟩ := Option.bind_eq_some_iff.mp h
      refine am_Ev.go 4 (st' := (22, [(0, .ref 12), (1, .ref 13), (2, .int x2)], [.int x2, .int 0, .ref 13, .ref 12], (hp tx pg rd d e sw))) (fun _ => rfl) ?_
      refine am_Ev.call (o := am_run cPT cML (n0 + 4) 10 [.ref 13, .int 0, .int x2] (hp tx pg rd d e sw)) (kk := fun q => (25, [(0, .ref 12), (1, .ref 13), (2, .int x2)], q.1.toList ++ [.ref 12], q.2)) (q := (some (.int q13), (hp tx pg rd d e sw))) 1 (fun _ => rfl) (ev_D_get_A hq) ?_
      obtain ⟨q14, hq, h⟩ := Option.bind_eq_some_iff.mp h
      refine am_Ev.call (o := am_run cPT cML (n0 + 4) 38 [.ref 12, .int q13] (hp tx pg rd d e sw)) (kk := fun q => (28, [(0, .ref 12), (1, .ref 13), (2, .int x2)], q.1.toList ++ [], q.2)) (q := (none, (hp tx q14 rd d e sw))) 1 (fun _ => rfl) (ev_W_lastNumber_v hq) ?_
      refine am_Ev.go 2 (st' := (9, [(0, .ref 12), (1, .ref 13), (2, .int (x2 + 1))], [], (hp tx q14 rd d e sw))) (fun _ => rfl) ?_
      exact ih _ _ _ h
theorem ev_W_plain_A {n0 : Nat} {tx : SB} {rd : SR} {e : SD} {sw : Bool} {pg : SB} {d : SD} {res : SB} (h : fn_W_plain pg d = some res) : am_run cPT cML (n0 + 5) 32 [.ref 12, .ref 13] (hp tx pg rd d e sw) = some (none, (hp tx res rd d e sw)) := by
  refine am_run_of (d := n0 + 4) rfl ?_
  show am_Ev (tb_W_plain (am_run cPT cML (n0 + 4))) (0, [(0, .ref 12), (1, .ref 13)], [], (hp tx pg rd d e sw)) (none, (hp tx res rd d e sw))
  unfold fn_W_plain at h
  obtain ⟨q15, hq, h⟩ := Option.bind_eq_some_iff.mp h
  refine am_Ev.go 3 (st' := (4, [(0, .ref 12), (1, .ref 13)], [.int 97, .ref 13, .ref 12], (hp tx pg rd d e sw))) (fun _ => rfl) ?_
  refine am_Ev.call (o := am_run cPT cML (n0 + 4) 34 [.ref 12, .ref 13, .int 97] (hp tx pg rd d e sw)) (kk := fun q => (7, [(0, .ref 12), (1, .ref 13)], q.1.toList ++ [], q.2)) (q := (none, (hp tx q15 rd d e sw))) 1 (fun _ => rfl) (ev_W_header_A hq) ?_
  refine am_Ev.go 2 (st' := (9, [(0, .ref 12), (1, .ref 13), (2, .int 0)], [], (hp tx q15 rd d e sw))) (fun _ => rfl) ?_
  refine ev_W_plain_9_A ?_ _ _ _ _ h
  intro pg_17 res h
  try dsimp only at h
  refine am_Ev.go 2 (st' := (36, [(0, .ref 12), (1, .ref 13), (2, .int 0)], [], (hp tx pg_17 rd d e sw))) (fun _ => rfl) ?_
  refine ev_W_plain_36_A ?_ _ _ _ _ h
  intro pg_18 res h
  try dsimp only at h
  obtain ⟨q18, hq, h⟩ := Option.bind_eq_some_iff.mp h
  refine am_Ev.go 2 (st' := (69, [(0, .ref 12), (1, .ref 13)], [.ref 13, .ref 12], (hp tx pg_18 rd d e sw))) (fun _ => rfl) ?_
  refine am_Ev.call (o := am_run cPT cML (n0 + 4) 36 [.ref 12, .ref 13] (hp tx pg_18 rd d e sw)) (kk := fun q => (72, [(0, .ref 12), (1, .ref 13)], q.1.toList ++ [], q.2)) (q := (none, (hp tx q18 rd d e sw))) 1 (fun _ => rfl) (ev_W_outputs_A hq) ?_
  refine am_Ev.go 2 (st' := (74, [(0, .ref 12), (1, .ref 13), (2, .int 0)], [], (hp tx q18 rd d e sw))) (fun _ => rfl) ?_
  refine ev_W_plain_74_A ?_ _ _ _ _ h
  intro pg_20 res h
  try dsimp only at h
  cases h
  exact am_Ev.done 1 rfl
theorem ev_W_plain_74_B {n0 : Nat} {tx : SB} {rd : SR} {e : SD} {sw : Bool} {d : SD} {κ : SB → Option (SB)} (hκ : ∀ (pg : SB) (res : SB), κ pg = some res → am_Ev (tb_W_plain (am_run cPT cML (n0 + 4))) (121, [], [], (hp tx pg rd e d sw)) (none, (hp tx res rd e d sw))) : ∀ (n : Nat) (x2 : Int32) (pg : SB) (res : SB), fn_W_plain_74 d κ n x2 pg = some res → am_Ev (tb_W_plain (am_run cPT cML (n0 + 4))) (74, [(0, .ref 12), (1, .ref 26), (2, .int x2)], [], (hp tx pg rd e d sw)) (none, (hp tx res rd e d sw)) := by
  intro n
  induction n with
  | zero => intro x2 pg res h; unfold fn_W_plain_74 at h; cases h
  | succ n ih =>
    intro x2 pg res h
    unfold fn_W_plain_74 at h
    obtain ⟨q1, hq, h⟩ := Option.bind_eq_some_iff.mp h
    refine am_Ev.go 3 (st' := (77, [(0, .ref 12), (1, .ref 26), (2, .int x2)], [.int 3, .ref 26, .int x2], (hp tx pg rd e d sw))) (fun _ => rfl) ?_
    refine am_Ev.call (o := am_run cPT cML (n0 + 4) 7 [.ref 26, .int 3] (hp tx pg rd e d sw)) (kk := fun q => (80, [(0, .ref 12), (1, .ref 26), (2, .int x2)], q.1.toList ++ [.int x2], q.2)) (q := (some (.int q1), (hp tx pg rd e d sw))) 1 (fun _ => rfl) (ev_D_many_B hq) ?_
    refine am_Ev.fork (b := decide (q1 ≤ x2)) (s1 := (121, [(0, .ref 12), (1, .ref 26), (2, .int x2)], [], (hp tx pg rd e d sw))) (s2 := (83, [(0, .ref 12), (1, .ref 26), (2, .int x2)], [], (hp tx pg rd e d sw))) 1 (fun _ => rfl) (fun hc => ?_) (fun hc => ?_)
    · have h := (am_ift hc).symm.trans h
      refine am_Ev.same (st' := (121, [], [], (hp tx pg rd e d sw))) (fun _ => rfl) ?_
      exact hκ _ _ h
    · have h := (am_iff hc).symm.trans h
      obtain ⟨q2, hq, h⟩ := Option.bind_eq_some_iff.mp h
      refine am_Ev.go 4 (st' := (87, [(0, .ref 12), (1, .ref 26), (2, .int x2)], [.int x2, .int 3, .ref 26, .ref 12], (hp tx pg rd e d sw))) (fun _ => rfl) ?_
      refine am_Ev.call (o := am_run cPT cML (n0 + 4) 10 [.ref 26, .int 3, .int x2] (hp tx pg rd e d sw)) (kk := fun q => (90, [(0, .ref 12), (1, .ref 26), (2, .int x2)], q.1.toList ++ [.ref 12], q.2)) (q := (some (.int q2), (hp tx pg rd e d sw))) 1 (fun _ => rfl) (ev_D_get_B hq) ?_
      obtain ⟨q3, hq, h⟩ := Option.bind_eq_some_iff.mp h
      refine am_Ev.call (o := am_run cPT cML (n0 + 4) 37 [.ref 12, .int q2] (hp tx pg rd e d sw)) (kk := fun q => (93, [(0, .ref 12), (1, .ref 26), (2, .int x2)], q.1.toList ++ [], q.2)) (q := (none, (hp tx q3 rd e d sw))) 1 (fun _ => rfl) (ev_W_numberAndBlank_v hq) ?_
      obtain ⟨q4, hq, h⟩ := Option.bind_eq_some_iff.mp h
      refine am_Ev.go 4 (st' := (98, [(0, .ref 12), (1, .ref 26), (2, .int x2)], [.int x2, .int 6, .ref 26, .ref 12], (hp tx q3 rd e d sw))) (fun _ => rfl) ?_
      refine am_Ev.call (o := am_run cPT cML (n0 + 4) 10 [.ref 26, .int 6, .int x2] (hp tx q3 rd e d sw)) (kk := fun q => (101, [(0, .ref 12), (1, .ref 26), (2, .int x2)], q.1.toList ++ [.ref 12], q.2)) (q := (some (.int q4), (hp tx q3 rd e d sw))) 1 (fun _ => rfl) (ev_D_get_B hq) ?_
      obtain ⟨q5, hq, h⟩ := Option.bind_eq_some_iff.mp h
      refine am_Ev.call (o := am_run cPT cML (n0 + 4) 37 [.ref 12, .int q4] (hp tx q3 rd e d sw)) (kk := fun q => (104, [(0, .ref 12), (1, .ref 26), (2, .int x2)], q.1.toList ++ [], q.2)) (q := (none, (hp tx q5 rd e d sw))) 1 (fun _ => rfl) (ev_W_numberAndBlank_v hq) ?_
      obtain ⟨q6, hq, h⟩ := Option.bind_eq_some_iff.mp h
      refine am_Ev.go 4 (st' := (109, [(0, .ref 12), (1, .ref 26), (2, .int x2)], [.int x2, .int 7, .ref 26, .ref 12], (hp tx q5 rd e d sw))) (fun _ => rfl) ?_
      refine am_Ev.call (o := am_run cPT cML (n0 + 4) 10 [.ref 26, .int 7, .int x2] (hp tx q5 rd e d sw)) (kk := fun q => (112, [(0, .ref 12), (1, .ref 26), (2, .int x2)], q.1.toList ++ [.ref 12], q.2)) (q := (some (.int q6), (hp tx q5 rd e d sw))) 1 (fun _ => rfl) (ev_D_get_B hq) ?_
      obtain ⟨q7, hq, h⟩ := Option.bind_eq_some_iff.mp h
      refine am_Ev.call (o := am_run cPT cML (n0 + 4) 38 [.ref 12, .int q6] (hp tx q5 rd e d sw)) (kk := fun q => (115, [(0, .ref 12), (1, .ref 26), (2, .int x2)], q.1.toList ++ [], q.2)) (q := (none, (hp tx q7 rd e d sw))) 1 (fun _ => rfl) (ev_W_lastNumber_v hq) ?_
      refine am_Ev.go 2 (st' := (74, [(0, .ref 12), (1, .ref 26), (2, .int (x2 + 1))], [], (hp tx q7 rd e d sw))) (fun _ => rfl) ?_
      exact ih _ _ _ h
theorem ev_W_plain_36_B {n0 : Nat} {tx : SB} {rd : SR} {e : SD} {sw : Bool} {d : SD} {κ : SB → Option (SB)} (hκ : ∀ (pg : SB) (res : SB), κ pg = some res → am_Ev (tb_W_plain (am_run cPT cML (n0 + 4))) (67, [(0, .ref 12), (1, .ref 26)], [], (hp tx pg rd e d sw)) (none, (hp tx res rd e d sw))) : ∀ (n : Nat) (x2 : Int32) (pg : SB) (res : SB), fn_W_plain_36 d κ n x2 pg = some res → am_Ev (tb_W_plain (am_run cPT cML (n0 + 4))) (36, [(0, .ref 12), (1, .ref 26), (2, .int x2)], [], (hp tx pg rd e d sw)) (none, (hp tx res rd e d sw)) := by
  intro n
  induction n with
  | zero => intro x2 pg res h; unfold fn_W_plain_36 at h; cases h
  | succ n ih =>
    intro x2 pg res h
    unfold fn_W_plain_36 at h
    obtain ⟨q8, hq, h⟩ := Option.bind_eq_some_iff.mp h
    refine am_Ev.go 3 (st' := (39, [(0, .ref 12), (1, .ref 26), (2, .int x2)], [.int 1, .ref 26, .int x2], (hp tx pg rd e d sw))) (fun _ => rfl) ?_
    refine am_Ev.call (o := am_run cPT cML (n0 + 4) 7 [.ref 26, .int 1] (hp tx pg rd e d sw)) (kk := fun q => (42, [(0, .ref 12), (1, .ref 26), (2, .int x2)], q.1.toList ++ [.int x2], q.2)) (q := (some (.int q8), (hp tx pg rd e d sw))) 1 (fun _ => rfl) (ev_D_many_B hq) ?_
    refine am_Ev.fork (b := decide (q8 ≤ x2)) (s1 := (67, [(0, .ref 12), (1, .ref 26), (2, .int x2)], [], (hp tx pg rd e d sw))) (s2 := (45, [(0, .ref 12), (1, .ref 26), (2, .int x2)], [], (hp tx pg rd e d sw))) 1 (fun _ => rfl) (fun hc => ?_) (fun hc => ?_)
    · have h := (am_ift hc).symm.trans h
      refine am_Ev.same (st' := (67, [(0, .ref 12), (1, .ref 26)], [], (hp tx pg rd e d sw))) (fun _ => rfl) ?_
      exact hκ _ _ h
    · have h := (am_iff hc).symm.trans h
      obtain ⟨q9, hq, h⟩ := Option.bind_eq_some_iff.mp h
      refine am_Ev.go 4 (st' := (49, [(0, .ref 12), (1, .ref 26), (2, .int x2)], [.int x2, .int 1, .ref 26, .ref 12], (hp tx pg rd e d sw))) (fun _ => rfl) ?_
      refine am_Ev.call (o := am_run cPT cML (n0 + 4) 10 [.ref 26, .int 1, .int x2] (hp tx pg rd e d sw)) (kk := fun q => (52, [(0, .ref 12), (1, .ref 26), (2, .int x2)], q.1.toList ++ [.ref 12], q.2)) (q := (some (.int q9), (hp tx pg rd e d sw))) 1 (fun _ => rfl) (ev_D_get_B hq) ?_
      obtain ⟨q10, hq, h⟩ := Option.bind_eq_some_iff.mp h
      refine am_Ev.call (o := am_run cPT cML (n0 + 4) 37 [.ref 12, .int q9] (hp tx pg rd e d sw)) (kk := fun q => (55, [(0, .ref 12), (1, .ref 26), (2, .int x2)], q.1.toList ++ [], q.2)) (q := (none, (hp tx q10 rd e d sw))) 1 (fun _ => rfl) (ev_W_numberAndBlank_v hq) ?_
      obtain ⟨q11, hq, h⟩ := Option.bind_eq_some_iff.mp h
      refine am_Ev.go 3 (st' := (58, [(0, .ref 12), (1, .ref 26), (2, .int x2)], [.int x2, .ref 26, .ref 12], (hp tx q10 rd e d sw))) (fun _ => rfl) ?_
      refine am_Ev.call (o := am_run cPT cML (n0 + 4) 35 [.ref 12, .ref 26, .int x2] (hp tx q10 rd e d sw)) (kk := fun q => (61, [(0, .ref 12), (1, .ref 26), (2, .int x2)], q.1.toList ++ [], q.2)) (q := (none, (hp tx q11 rd e d sw))) 1 (fun _ => rfl) (ev_W_nextAndFirst_B hq) ?_
      refine am_Ev.go 2 (st' := (36, [(0, .ref 12), (1, .ref 26), (2, .int (x2 + 1))], [], (hp tx q11 rd e d sw))) (fun _ => rfl) ?_
      exact ih _ _ _ h
theorem ev_W_plain_9_B {n0 : Nat} {tx : SB} {rd : SR} {e : SD} {sw : Bool} {d : SD} {κ : SB → Option (SB)} (hκ : ∀ (pg : SB) (res : SB), κ pg = some res → am_Ev (tb_W_plain (am_run cPT cML (n0 + 4))) (34, [(0, .ref 12), (1, .ref 26)], [], (hp tx pg rd e d sw)) (none, (hp tx res rd e d sw))) : ∀ (n : Nat) (x2 : Int32) (pg : SB) (res : SB), fn_W_plain_9 d κ n x2 pg = some res → am_Ev (tb_W_plain (am_run cPT cML (n0 + 4))) (9, [(0, .ref 12), (1, .ref 26), (2, .int x2)], [], (hp tx pg rd e d sw)) (none, (hp tx res rd e d sw)) := by
  intro n
  induction n with
  | zero => intro x2 pg res h; unfold fn_W_plain_9 at h; cases h
  | succ n ih =>
    intro x2 pg res h
    unfold fn_W_plain_9 at h
    obtain ⟨q12, hq, h⟩ := Option.bind_eq_some_iff.mp h
    refine am_Ev.go 3 (st' := (12, [(0, .ref 12), (1, .ref 26), (2, .int x2)], [.int 0, .ref 26, .int x2], (hp tx pg rd e d sw))) (fun _ => rfl) ?_
    refine am_Ev.call (o := am_run cPT cML (n0 + 4) 7 [.ref 26, .int 0] (hp tx pg rd e d sw)) (kk := fun q => (15, [(0, .ref 12), (1, .ref 26), (2, .int x2)], q.1.toList ++ [.int x2], q.2)) (q := (some (.int q12), (hp tx pg rd e d sw))) 1 (fun _ => rfl) (ev_D_many_B hq) ?_
    refine am_Ev.fork (b := decide (q12 ≤ x2)) (s1 := (34, [(0, .ref 12), (1, .ref 26), (2, .int x2)], [], (hp tx pg rd e d sw))) (s2 := (18, [(0, .ref 12), (1, .ref 26), (2, .int x2)], [], (hp tx pg rd e d sw))) 1 (fun _ => rfl) (fun hc => ?_) (fun hc => ?_)
    · have h := (am_ift hc).symm.trans h
      refine am_Ev.same (st' := (34, [(0, .ref 12), (1, .ref 26)], [], (hp tx pg rd e d sw))) (fun _ => rfl) ?_
      exact hκ _ _ h
    · have h := (am_iff hc).symm.trans h
      obtain ⟨q13, hq, h⟩ := Option.bind_eq_some_iff.mp h
      refine am_Ev.go 4 (st' := (22, [(0, .ref 12), (1, .ref 26), (2, .int x2)], [.int x2, .int 0, .ref 26, .ref 12], (hp tx pg rd e d sw))) (fun _ => rfl) ?_
      refine am_Ev.call (o := am_run cPT cML (n0 + 4) 10 [.ref 26, .int 0, .int x2] (hp tx pg rd e d sw)) (kk := fun q => (25, [(0, .ref 12), (1, .ref 26), (2, .int x2)], q.1.toList ++ [.ref 12], q.2)) (q := (some (.int q13), (hp tx pg rd e d sw))) 1 (fun _ => rfl) (ev_D_get_B hq) ?_
      obtain ⟨q14, hq, h⟩ := Option.bind_eq_some_iff.mp h
      refine am_Ev.call (o := am_run cPT cML (n0 + 4) 38 [.ref 12, .int q13] (hp tx pg rd e d sw)) (kk := fun q => (28, [(0, .ref 12), (1, .ref 26), (2, .int x2)], q.1.toList ++ [], q.2)) (q := (none, (hp tx q14 rd e d sw))) 1 (fun _ => rfl) (ev_W_lastNumber_v hq) ?_
      refine am_Ev.go 2 (st' := (9, [(0, .ref 12), (1, .ref 26), (2, .int (x2 + 1))], [], (hp tx q14 rd e d sw))) (fun _ => rfl) ?_
      exact ih _ _ _ h
theorem ev_W_plain_B {n0 : Nat} {tx : SB} {rd : SR} {e : SD} {sw : Bool} {pg : SB} {d : SD} {res : SB} (h : fn_W_plain pg d = some res) : am_run cPT cML (n0 + 5) 32 [.ref 12, .ref 26] (hp tx pg rd e d sw) = some (none, (hp tx res rd e d sw)) := by
  refine am_run_of (d := n0 + 4) rfl ?_
  show am_Ev (tb_W_plain (am_run cPT cML (n0 + 4))) (0, [(0, .ref 12), (1, .ref 26)], [], (hp tx pg rd e d sw)) (none, (hp tx res rd e d sw))
  unfold fn_W_plain at h
  obtain ⟨q15, hq, h⟩ := Option.bind_eq_some_iff.mp h
  refine am_Ev.go 3 (st' := (4, [(0, .ref 12), (1, .ref 26)], [.int 97, .ref 26, .ref 12], (hp tx pg rd e d sw))) (fun _ => rfl) ?_
  refine am_Ev.call (o := am_run cPT cML (n0 + 4) 34 [.ref 12, .ref 26, .int 97] (hp tx pg rd e d sw)) (kk := fun q => (7, [(0, .ref 12), (1, .ref 26)], q.1.toList ++ [], q.2)) (q := (none, (hp tx q15 rd e d sw))) 1 (fun _ => rfl) (ev_W_header_B hq) ?_
  refine am_Ev.go 2 (st' := (9, [(0, .ref 12), (1, .ref 26), (2, .int 0)], [], (hp tx q15 rd e d sw))) (fun _ => rfl) ?_
  refine ev_W_plain_9_B ?_ _ _ _ _ h
  intro pg_17 res h
  try dsimp only at h
  refine am_Ev.go 2 (st' := (36, [(0, .ref 12), (1, .ref 26), (2, .int 0)], [], (hp tx pg_17 rd e d sw))) (fun _ => rfl) ?_
  refine ev_W_plain_36_B ?_ _ _ _ _ h
  intro pg_18 res h
  try dsimp only at h
  obtain ⟨q18, hq, h⟩ := Option.bind_eq_some_iff.mp h
  refine am_Ev.go 2 (st' := (69, [(0, .ref 12), (1, .ref 26)], [.ref 26, .ref 12], (hp tx pg_18 rd e d sw))) (fun _ => rfl) ?_
  refine am_Ev.call (o := am_run cPT cML (n0 + 4) 36 [.ref 12, .ref 26] (hp tx pg_18 rd e d sw)) (kk := fun q => (72, [(0, .ref 12), (1, .ref 26)], q.1.toList ++ [], q.2)) (q := (none, (hp tx q18 rd e d sw))) 1 (fun _ => rfl) (ev_W_outputs_B hq) ?_
  refine am_Ev.go 2 (st' := (74, [(0, .ref 12), (1, .ref 26), (2, .int 0)], [], (hp tx q18 rd e d sw))) (fun _ => rfl) ?_
  refine ev_W_plain_74_B ?_ _ _ _ _ h
  intro pg_20 res h
  try dsimp only at h
  cases h
  exact am_Ev.done 1 rfl
