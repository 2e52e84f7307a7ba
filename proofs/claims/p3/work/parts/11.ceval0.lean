theorem ev_D_get_A {n0 : Nat} {tx : SB} {pg : SB} {rd : SR} {e : SD} {sw : Bool} {x1 : Int32} {x2 : Int32} {d : SD} {res : Int32} (h : fn_D_get x1 x2 d = some res) : am_run cPT cML (n0 + 1) 10 [.ref 13, .int x1, .int x2] (hp tx pg rd d e sw) = some (some (.int res), (hp tx pg rd d e sw)) := by
  refine am_run_of (d := n0 + 0) rfl ?_
  show am_Ev (tb_D_get (am_run cPT cML (n0 + 0))) (0, [(0, .ref 13), (1, .int x1), (2, .int x2)], [], (hp tx pg rd d e sw)) (some (.int res), (hp tx pg rd d e sw))
  unfold fn_D_get at h
  refine am_Ev.fork (b := decide (x1 < 0)) (s1 := (20, [(0, .ref 13), (1, .int x1), (2, .int x2)], [], (hp tx pg rd d e sw))) (s2 := (4, [(0, .ref 13), (1, .int x1), (2, .int x2)], [], (hp tx pg rd d e sw))) 2 (fun _ => rfl) (fun hc0 => ?_) (fun hc0 => ?_)
  · have h := (am_ift hc0).symm.trans h
    cases h
    exact am_Ev.done 2 rfl
  have h := (am_iff hc0).symm.trans h
  refine am_Ev.fork (b := decide ((8 : Int32) ≤ x1)) (s1 := (20, [(0, .ref 13), (1, .int x1), (2, .int x2)], [], (hp tx pg rd d e sw))) (s2 := (10, [(0, .ref 13), (1, .int x1), (2, .int x2)], [], (hp tx pg rd d e sw))) 3 (fun _ => rfl) (fun hc1 => ?_) (fun hc1 => ?_)
  · have h := (am_ift hc1).symm.trans h
    cases h
    exact am_Ev.done 2 rfl
  have h := (am_iff hc1).symm.trans h
  refine am_Ev.fork (b := decide (x2 < 0)) (s1 := (20, [(0, .ref 13), (1, .int x1), (2, .int x2)], [], (hp tx pg rd d e sw))) (s2 := (14, [(0, .ref 13), (1, .int x1), (2, .int x2)], [], (hp tx pg rd d e sw))) 2 (fun _ => rfl) (fun hc2 => ?_) (fun hc2 => ?_)
  · have h := (am_ift hc2).symm.trans h
    cases h
    exact am_Ev.done 2 rfl
  have h := (am_iff hc2).symm.trans h
  refine am_Ev.fork (b := decide (x2 < (60 : Int32))) (s1 := (22, [(0, .ref 13), (1, .int x1), (2, .int x2)], [], (hp tx pg rd d e sw))) (s2 := (20, [(0, .ref 13), (1, .int x1), (2, .int x2)], [], (hp tx pg rd d e sw))) 3 (fun _ => rfl) (fun hc3 => ?_) (fun hc3 => ?_)
  rotate_left
  · have h := (am_ift (decide_eq_true (Int32.not_lt.mp (of_decide_eq_false hc3)))).symm.trans h
    cases h
    exact am_Ev.done 2 rfl
  have hc3 : decide ((60 : Int32) ≤ x2) = false := decide_eq_false (Int32.not_le.mpr (of_decide_eq_true hc3))
  have h := (am_iff hc3).symm.trans h
  cases h
  have hb : decide (0 ≤ x2.toInt ∧ x2.toInt < (60 : Int)) = true := decide_eq_true (am_rng (of_decide_eq_false hc2) (of_decide_eq_false hc3) (by decide))
  obtain h | h | h | h | h | h | h | h := am_kind8 (of_decide_eq_false hc0) (of_decide_eq_false hc1) <;> subst h
  · refine am_Ev.guard (b := decide (0 ≤ x2.toInt ∧ x2.toInt < (60 : Int))) (s1 := (30, [(0, .ref 13), (1, .int 0), (2, .int x2)], [.int (d.1 0 x2.toNatClampNeg)], (hp tx pg rd d e sw))) 6 (fun _ => rfl) hb ?_
    exact am_Ev.done 1 rfl
  · refine am_Ev.guard (b := decide (0 ≤ x2.toInt ∧ x2.toInt < (60 : Int))) (s1 := (30, [(0, .ref 13), (1, .int 1), (2, .int x2)], [.int (d.1 1 x2.toNatClampNeg)], (hp tx pg rd d e sw))) 6 (fun _ => rfl) hb ?_
    exact am_Ev.done 1 rfl
  · refine am_Ev.guard (b := decide (0 ≤ x2.toInt ∧ x2.toInt < (60 : Int))) (s1 := (30, [(0, .ref 13), (1, .int 2), (2, .int x2)], [.int (d.1 2 x2.toNatClampNeg)], (hp tx pg rd d e sw))) 6 (fun _ => rfl) hb ?_
    exact am_Ev.done 1 rfl
  · refine am_Ev.guard (b := decide (0 ≤ x2.toInt ∧ x2.toInt < (60 : Int))) (s1 := (30, [(0, .ref 13), (1, .int 3), (2, .int x2)], [.int (d.1 3 x2.toNatClampNeg)], (hp tx pg rd d e sw))) 6 (fun _ => rfl) hb ?_
    exact am_Ev.done 1 rfl
  · refine am_Ev.guard (b := decide (0 ≤ x2.toInt ∧ x2.toInt < (60 : Int))) (s1 := (30, [(0, .ref 13), (1, .int 4), (2, .int x2)], [.int (d.1 4 x2.toNatClampNeg)], (hp tx pg rd d e sw))) 6 (fun _ => rfl) hb ?_
    exact am_Ev.done 1 rfl
  · refine am_Ev.guard (b := decide (0 ≤ x2.toInt ∧ x2.toInt < (60 : Int))) (s1 := (30, [(0, .ref 13), (1, .int 5), (2, .int x2)], [.int (d.1 5 x2.toNatClampNeg)], (hp tx pg rd d e sw))) 6 (fun _ => rfl) hb ?_
    exact am_Ev.done 1 rfl
  · refine am_Ev.guard (b := decide (0 ≤ x2.toInt ∧ x2.toInt < (60 : Int))) (s1 := (30, [(0, .ref 13), (1, .int 6), (2, .int x2)], [.int (d.1 6 x2.toNatClampNeg)], (hp tx pg rd d e sw))) 6 (fun _ => rfl) hb ?_
    exact am_Ev.done 1 rfl
  · refine am_Ev.guard (b := decide (0 ≤ x2.toInt ∧ x2.toInt < (60 : Int))) (s1 := (30, [(0, .ref 13), (1, .int 7), (2, .int x2)], [.int (d.1 7 x2.toNatClampNeg)], (hp tx pg rd d e sw))) 6 (fun _ => rfl) hb ?_
    exact am_Ev.done 1 rfl
theorem ev_D_set_A {n0 : Nat} {tx : SB} {pg : SB} {rd : SR} {e : SD} {sw : Bool} {x1 : Int32} {x2 : Int32} {x3 : Int32} {d : SD} {res : SD} (h : fn_D_set x1 x2 x3 d = some res) : am_run cPT cML (n0 + 1) 11 [.ref 13, .int x1, .int x2, .int x3] (hp tx pg rd d e sw) = some (none, (hp tx pg rd res e sw)) := by
  refine am_run_of (d := n0 + 0) rfl ?_
  show am_Ev (tb_D_set (am_run cPT cML (n0 + 0))) (0, [(0, .ref 13), (1, .int x1), (2, .int x2), (3, .int x3)], [], (hp tx pg rd d e sw)) (none, (hp tx pg rd res e sw))
  unfold fn_D_set at h
  refine am_Ev.fork (b := decide (x1 < 0)) (s1 := (29, [(0, .ref 13), (1, .int x1), (2, .int x2), (3, .int x3)], [], (hp tx pg rd d e sw))) (s2 := (4, [(0, .ref 13), (1, .int x1), (2, .int x2), (3, .int x3)], [], (hp tx pg rd d e sw))) 2 (fun _ => rfl) (fun hc0 => ?_) (fun hc0 => ?_)
  · have h := (am_ift hc0).symm.trans h
    cases h
    exact am_Ev.done 1 rfl
  have h := (am_iff hc0).symm.trans h
  refine am_Ev.fork (b := decide ((8 : Int32) ≤ x1)) (s1 := (29, [(0, .ref 13), (1, .int x1), (2, .int x2), (3, .int x3)], [], (hp tx pg rd d e sw))) (s2 := (10, [(0, .ref 13), (1, .int x1), (2, .int x2), (3, .int x3)], [], (hp tx pg rd d e sw))) 3 (fun _ => rfl) (fun hc1 => ?_) (fun hc1 => ?_)
  · have h := (am_ift hc1).symm.trans h
    cases h
    exact am_Ev.done 1 rfl
  have h := (am_iff hc1).symm.trans h
  refine am_Ev.fork (b := decide (x2 < 0)) (s1 := (29, [(0, .ref 13), (1, .int x1), (2, .int x2), (3, .int x3)], [], (hp tx pg rd d e sw))) (s2 := (14, [(0, .ref 13), (1, .int x1), (2, .int x2), (3, .int x3)], [], (hp tx pg rd d e sw))) 2 (fun _ => rfl) (fun hc2 => ?_) (fun hc2 => ?_)
  · have h := (am_ift hc2).symm.trans h
    cases h
    exact am_Ev.done 1 rfl
  have h := (am_iff hc2).symm.trans h
  refine am_Ev.fork (b := decide ((60 : Int32) ≤ x2)) (s1 := (29, [(0, .ref 13), (1, .int x1), (2, .int x2), (3, .int x3)], [], (hp tx pg rd d e sw))) (s2 := (20, [(0, .ref 13), (1, .int x1), (2, .int x2), (3, .int x3)], [], (hp tx pg rd d e sw))) 3 (fun _ => rfl) (fun hc3 => ?_) (fun hc3 => ?_)
  · have h := (am_ift hc3).symm.trans h
    cases h
    exact am_Ev.done 1 rfl
  have h := (am_iff hc3).symm.trans h
  cases h
  have hb : decide (0 ≤ x2.toInt ∧ x2.toInt < (60 : Int)) = true := decide_eq_true (am_rng (of_decide_eq_false hc2) (of_decide_eq_false hc3) (by decide))
  obtain h | h | h | h | h | h | h | h := am_kind8 (of_decide_eq_false hc0) (of_decide_eq_false hc1) <;> subst h
  · refine am_Ev.guard (b := decide (0 ≤ x2.toInt ∧ x2.toInt < (60 : Int))) (s1 := (29, [(0, .ref 13), (1, .int 0), (2, .int x2), (3, .int x3)], [], (hp tx pg rd (am_rset d.1 0 x2.toNatClampNeg x3, d.2) e sw))) 7 (fun _ => rfl) hb ?_
    exact am_Ev.done 1 rfl
  · refine am_Ev.guard (b := decide (0 ≤ x2.toInt ∧ x2.toInt < (60 : Int))) (s1 := (29, [(0, .ref 13), (1, .int 1), (2, .int x2), (3, .int x3)], [], (hp tx pg rd (am_rset d.1 1 x2.toNatClampNeg x3, d.2) e sw))) 7 (fun _ => rfl) hb ?_
    exact am_Ev.done 1 rfl
  · refine am_Ev.guard (b := decide (0 ≤ x2.toInt ∧ x2.toInt < (60 : Int))) (s1 := (29, [(0, .ref 13), (1, .int 2), (2, .int x2), (3, .int x3)], [], (hp tx pg rd (am_rset d.1 2 x2.toNatClampNeg x3, d.2) e sw))) 7 (fun _ => rfl) hb ?_
    exact am_Ev.done 1 rfl
  · refine am_Ev.guard (b := decide (0 ≤ x2.toInt ∧ x2.toInt < (60 : Int))) (s1 := (29, [(0, .ref 13), (1, .int 3), (2, .int x2), (3, .int x3)], [], (hp tx pg rd (am_rset d.1 3 x2.toNatClampNeg x3, d.2) e sw))) 7 (fun _ => rfl) hb ?_
    exact am_Ev.done 1 rfl
  · refine am_Ev.guard (b := decide (0 ≤ x2.toInt ∧ x2.toInt < (60 : Int))) (s1 := (29, [(0, .ref 13), (1, .int 4), (2, .int x2), (3, .int x3)], [], (hp tx pg rd (am_rset d.1 4 x2.toNatClampNeg x3, d.2) e sw))) 7 (fun _ => rfl) hb ?_
    exact am_Ev.done 1 rfl
  · refine am_Ev.guard (b := decide (0 ≤ x2.toInt ∧ x2.toInt < (60 : Int))) (s1 := (29, [(0, .ref 13), (1, .int 5), (2, .int x2), (3, .int x3)], [], (hp tx pg rd (am_rset d.1 5 x2.toNatClampNeg x3, d.2) e sw))) 7 (fun _ => rfl) hb ?_
    exact am_Ev.done 1 rfl
  · refine am_Ev.guard (b := decide (0 ≤ x2.toInt ∧ x2.toInt < (60 : Int))) (s1 := (29, [(0, .ref 13), (1, .int 6), (2, .int x2), (3, .int x3)], [], (hp tx pg rd (am_rset d.1 6 x2.toNatClampNeg x3, d.2) e sw))) 7 (fun _ => rfl) hb ?_
    exact am_Ev.done 1 rfl
  · refine am_Ev.guard (b := decide (0 ≤ x2.toInt ∧ x2.toInt < (60 : Int))) (s1 := (29, [(0, .ref 13), (1, .int 7), (2, .int x2), (3, .int x3)], [], (hp tx pg rd (am_rset d.1 7 x2.toNatClampNeg x3, d.2) e sw))) 7 (fun _ => rfl) hb ?_
    exact am_Ev.done 1 rfl
theorem ev_D_get_B {n0 : Nat} {tx : SB} {pg : SB} {rd : SR} {e : SD} {sw : Bool} {x1 : Int32} {x2 : Int32} {d : SD} {res : Int32} (h : fn_D_get x1 x2 d = some res) : am_run cPT cML (n0 + 1) 10 [.ref 26, .int x1, .int x2] (hp tx pg rd e d sw) = some (some (.int res), (hp tx pg rd e d sw)) := by
  refine am_run_of (d := n0 + 0) rfl ?_
  show am_Ev (tb_D_get (am_run cPT cML (n0 + 0))) (0, [(0, .ref 26), (1, .int x1), (2, .int x2)], [], (hp tx pg rd e d sw)) (some (.int res), (hp tx pg rd e d sw))
  unfold fn_D_get at h
  refine am_Ev.fork (b := decide (x1 < 0)) (s1 := (20, [(0, .ref 26), (1, .int x1), (2, .int x2)], [], (hp tx pg rd e d sw))) (s2 := (4, [(0, .ref 26), (1, .int x1), (2, .int x2)], [], (hp tx pg rd e d sw))) 2 (fun _ => rfl) (fun hc0 => ?_) (fun hc0 => ?_)
  · have h := (am_ift hc0).symm.trans h
    cases h
    exact am_Ev.done 2 rfl
  have h := (am_iff hc0).symm.trans h
  refine am_Ev.fork (b := decide ((8 : Int32) ≤ x1)) (s1 := (20, [(0, .ref 26), (1, .int x1), (2, .int x2)], [], (hp tx pg rd e d sw))) (s2 := (10, [(0, .ref 26), (1, .int x1), (2, .int x2)], [], (hp tx pg rd e d sw))) 3 (fun _ => rfl) (fun hc1 => ?_) (fun hc1 => ?_)
  · have h := (am_ift hc1).symm.trans h
    cases h
    exact am_Ev.done 2 rfl
  have h := (am_iff hc1).symm.trans h
  refine am_Ev.fork (b := decide (x2 < 0)) (s1 := (20, [(0, .ref 26), (1, .int x1), (2, .int x2)], [], (hp tx pg rd e d sw))) (s2 := (14, [(0, .ref 26), (1, .int x1), (2, .int x2)], [], (hp tx pg rd e d sw))) 2 (fun _ => rfl) (fun hc2 => ?_) (fun hc2 => ?_)
  · have h := (am_ift hc2).symm.trans h
    cases h
    exact am_Ev.done 2 rfl
  have h := (am_iff hc2).symm.trans h
  refine am_Ev.fork (b := decide (x2 < (60 : Int32))) (s1 := (22, [(0, .ref 26), (1, .int x1), (2, .int x2)], [], (hp tx pg rd e d sw))) (s2 := (20, [(0, .ref 26), (1, .int x1), (2, .int x2)], [], (hp tx pg rd e d sw))) 3 (fun _ => rfl) (fun hc3 => ?_) (fun hc3 => ?_)
  rotate_left
  · have h := (am_ift (decide_eq_true (Int32.not_lt.mp (of_decide_eq_false hc3)))).symm.trans h
    cases h
    exact am_Ev.done 2 rfl
  have hc3 : decide ((60 : Int32) ≤ x2) = false := decide_eq_false (Int32.not_le.mpr (of_decide_eq_true hc3))
  have h := (am_iff hc3).symm.trans h
  cases h
  have hb : decide (0 ≤ x2.toInt ∧ x2.toInt < (60 : Int)) = true := decide_eq_true (am_rng (of_decide_eq_false hc2) (of_decide_eq_false hc3) (by decide))
  obtain h | h | h | h | h | h | h | h := am_kind8 (of_decide_eq_false hc0) (of_decide_eq_false hc1) <;> subst h
  · refine am_Ev.guard (b := decide (0 ≤ x2.toInt ∧ x2.toInt < (60 : Int))) (s1 := (30, [(0, .ref 26), (1, .int 0), (2, .int x2)], [.int (d.1 0 x2.toNatClampNeg)], (hp tx pg rd e d sw))) 6 (fun _ => rfl) hb ?_
    exact am_Ev.done 1 rfl
  · refine am_Ev.guard (b := decide (0 ≤ x2.toInt ∧ x2.toInt < (60 : Int))) (s1 := (30, [(0, .ref 26), (1, .int 1), (2, .int x2)], [.int (d.1 1 x2.toNatClampNeg)], (hp tx pg rd e d sw))) 6 (fun _ => rfl) hb ?_
    exact am_Ev.done 1 rfl
  · refine am_Ev.guard (b := decide (0 ≤ x2.toInt ∧ x2.toInt < (60 : Int))) (s1 := (30, [(0, .ref 26), (1, .int 2), (2, .int x2)], [.int (d.1 2 x2.toNatClampNeg)], (hp tx pg rd e d sw))) 6 (fun _ => rfl) hb ?_
    exact am_Ev.done 1 rfl
  · refine am_Ev.guard (b := decide (0 ≤ x2.toInt ∧ x2.toInt < (60 : Int))) (s1 := (30, [(0, .ref 26), (1, .int 3), (2, .int x2)], [.int (d.1 3 x2.toNatClampNeg)], (hp tx pg rd e d sw))) 6 (fun _ => rfl) hb ?_
    exact am_Ev.done 1 rfl
  · refine am_Ev.guard (b := decide (0 ≤ x2.toInt ∧ x2.toInt < (60 : Int))) (s1 := (30, [(0, .ref 26), (1, .int 4), (2, .int x2)], [.int (d.1 4 x2.toNatClampNeg)], (hp tx pg rd e d sw))) 6 (fun _ => rfl) hb ?_
    exact am_Ev.done 1 rfl
  · refine am_Ev.guard (b := decide (0 ≤ x2.toInt ∧ x2.toInt < (60 : Int))) (s1 := (30, [(0, .ref 26), (1, .int 5), (2, .int x2)], [.int (d.1 5 x2.toNatClampNeg)], (hp tx pg rd e d sw))) 6 (fun _ => rfl) hb ?_
    exact am_Ev.done 1 rfl
  · refine am_Ev.guard (b := decide (0 ≤ x2.toInt ∧ x2.toInt < (60 : Int))) (s1 := (30, [(0, .ref 26), (1, .int 6), (2, .int x2)], [.int (d.1 6 x2.toNatClampNeg)], (hp tx pg rd e d sw))) 6 (fun _ => rfl) hb ?_
    exact am_Ev.done 1 rfl
  · refine am_Ev.guard (b := decide (0 ≤ x2.toInt ∧ x2.toInt < (60 : Int))) (s1 := (30, [(0, .ref 26), (1, .int 7), (2, .int x2)], [.int (d.1 7 x2.toNatClampNeg)], (hp tx pg rd e d sw))) 6 (fun _ => rfl) hb ?_
    exact am_Ev.done 1 rfl
theorem ev_D_set_B {n0 : Nat} {tx : SB} {pg : SB} {rd : SR} {e : SD} {sw : Bool} {x1 : Int32} {x2 : Int32} {x3 : Int32} {d : SD} {res : SD} (h : fn_D_set x1 x2 x3 d = some res) : am_run cPT cML (n0 + 1) 11 [.ref 26, .int x1, .int x2, .int x3] (hp tx pg rd e d sw) = some (none, (hp tx pg rd e res sw)) := by
  refine am_run_of (d := n0 + 0) rfl ?_
  show am_Ev (tb_D_set (am_run cPT cML (n0 + 0))) (0, [(0, .ref 26), (1, .int x1), (2, .int x2), (3, .int x3)], [], (hp tx pg rd e d sw)) (none, (hp tx pg rd e res sw))
  unfold fn_D_set at h
  refine am_Ev.fork (b := decide (x1 < 0)) (s1 := (29, [(0, .ref 26), (1, .int x1), (2, .int x2), (3, .int x3)], [], (hp tx pg rd e d sw))) (s2 := (4, [(0, .ref 26), (1, .int x1), (2, .int x2), (3, .int x3)], [], (hp tx pg rd e d sw))) 2 (fun _ => rfl) (fun hc0 => ?_) (fun hc0 => ?_)
  · have h := (am_ift hc0).symm.trans h
    cases h
    exact am_Ev.done 1 rfl
  have h := (am_iff hc0).symm.trans h
  refine am_Ev.fork (b := decide ((8 : Int32) ≤ x1)) (s1 := (29, [(0, .ref 26), (1, .int x1), (2, .int x2), (3, .int x3)], [], (hp tx pg rd e d sw))) (s2 := (10, [(0, .ref 26), (1, .int x1), (2, .int x2), (3, .int x3)], [], (hp tx pg rd e d sw))) 3 (fun _ => rfl) (fun hc1 => ?_) (fun hc1 => ?_)
  · have h := (am_ift hc1).symm.trans h
    cases h
    exact am_Ev.done 1 rfl
  have h := (am_iff hc1).symm.trans h
  refine am_Ev.fork (b := decide (x2 < 0)) (s1 := (29, [(0, .ref 26), (1, .int x1), (2, .int x2), (3, .int x3)], [], (hp tx pg rd e d sw))) (s2 := (14, [(0, .ref 26), (1, .int x1), (2, .int x2), (3, .int x3)], [], (hp tx pg rd e d sw))) 2 (fun _ => rfl) (fun hc2 => ?_) (fun hc2 => ?_)
  · have h := (am_ift hc2).symm.trans h
    cases h
    exact am_Ev.done 1 rfl
  have h := (am_iff hc2).symm.trans h
  refine am_Ev.fork (b := decide ((60 : Int32) ≤ x2)) (s1 := (29, [(0, .ref 26), (1, .int x1), (2, .int x2), (3, .int x3)], [], (hp tx pg rd e d sw))) (s2 := (20, [(0, .ref 26), (1, .int x1), (2, .int x2), (3, .int x3)], [], (hp tx pg rd e d sw))) 3 (fun _ => rfl) (fun hc3 => ?_) (fun hc3 => ?_)
  · have h := (am_ift hc3).symm.trans h
    cases h
    exact am_Ev.done 1 rfl
  have h := (am_iff hc3).symm.trans h
  cases h
  have hb : decide (0 ≤ x2.toInt ∧ x2.toInt < (60 : Int)) = true := decide_eq_true (am_rng (of_decide_eq_false hc2) (of_decide_eq_false hc3) (by decide))
  obtain h | h | h | h | h | h | h | h := am_kind8 (of_decide_eq_false hc0) (of_decide_eq_false hc1) <;> subst h
  · refine am_Ev.guard (b := decide (0 ≤ x2.toInt ∧ x2.toInt < (60 : Int))) (s1 := (29, [(0, .ref 26), (1, .int 0), (2, .int x2), (3, .int x3)], [], (hp tx pg rd e (am_rset d.1 0 x2.toNatClampNeg x3, d.2) sw))) 7 (fun _ => rfl) hb ?_
    exact am_Ev.done 1 rfl
  · refine am_Ev.guard (b := decide (0 ≤ x2.toInt ∧ x2.toInt < (60 : Int))) (s1 := (29, [(0, .ref 26), (1, .int 1), (2, .int x2), (3, .int x3)], [], (hp tx pg rd e (am_rset d.1 1 x2.toNatClampNeg x3, d.2) sw))) 7 (fun _ => rfl) hb ?_
    exact am_Ev.done 1 rfl
  · refine am_Ev.guard (b := decide (0 ≤ x2.toInt ∧ x2.toInt < (60 : Int))) (s1 := (29, [(0, .ref 26), (1, .int 2), (2, .int x2), (3, .int x3)], [], (hp tx pg rd e (am_rset d.1 2 x2.toNatClampNeg x3, d.2) sw))) 7 (fun _ => rfl) hb ?_
    exact am_Ev.done 1 rfl
  · refine am_Ev.guard (b := decide (0 ≤ x2.toInt ∧ x2.toInt < (60 : Int))) (s1 := (29, [(0, .ref 26), (1, .int 3), (2, .int x2), (3, .int x3)], [], (hp tx pg rd e (am_rset d.1 3 x2.toNatClampNeg x3, d.2) sw))) 7 (fun _ => rfl) hb ?_
    exact am_Ev.done 1 rfl
  · refine am_Ev.guard (b := decide (0 ≤ x2.toInt ∧ x2.toInt < (60 : Int))) (s1 := (29, [(0, .ref 26), (1, .int 4), (2, .int x2), (3, .int x3)], [], (hp tx pg rd e (am_rset d.1 4 x2.toNatClampNeg x3, d.2) sw))) 7 (fun _ => rfl) hb ?_
    exact am_Ev.done 1 rfl
  · refine am_Ev.guard (b := decide (0 ≤ x2.toInt ∧ x2.toInt < (60 : Int))) (s1 := (29, [(0, .ref 26), (1, .int 5), (2, .int x2), (3, .int x3)], [], (hp tx pg rd e (am_rset d.1 5 x2.toNatClampNeg x3, d.2) sw))) 7 (fun _ => rfl) hb ?_
    exact am_Ev.done 1 rfl
  · refine am_Ev.guard (b := decide (0 ≤ x2.toInt ∧ x2.toInt < (60 : Int))) (s1 := (29, [(0, .ref 26), (1, .int 6), (2, .int x2), (3, .int x3)], [], (hp tx pg rd e (am_rset d.1 6 x2.toNatClampNeg x3, d.2) sw))) 7 (fun _ => rfl) hb ?_
    exact am_Ev.done 1 rfl
  · refine am_Ev.guard (b := decide (0 ≤ x2.toInt ∧ x2.toInt < (60 : Int))) (s1 := (29, [(0, .ref 26), (1, .int 7), (2, .int x2), (3, .int x3)], [], (hp tx pg rd e (am_rset d.1 7 x2.toNatClampNeg x3, d.2) sw))) 7 (fun _ => rfl) hb ?_
    exact am_Ev.done 1 rfl
theorem ev_B_size_t {n0 : Nat} {pg : SB} {rd : SR} {a : SD} {b : SD} {sw : Bool} {y : SB} {res : Int32} (h : fn_B_size y = some res) : am_run cPT cML (n0 + 1) 0 [.ref 1] (hp y pg rd a b sw) = some (some (.int res), (hp y pg rd a b sw)) := by
  refine am_run_of (d := n0 + 0) rfl ?_
  show am_Ev (tb_B_size (am_run cPT cML (n0 + 0))) (0, [(0, .ref 1)], [], (hp y pg rd a b sw)) (some (.int res), (hp y pg rd a b sw))
  unfold fn_B_size at h
  cases h
  exact am_Ev.done 3 rfl
theorem ev_B_size_p {n0 : Nat} {tx : SB} {rd : SR} {a : SD} {b : SD} {sw : Bool} {y : SB} {res : Int32} (h : fn_B_size y = some res) : am_run cPT cML (n0 + 1) 0 [.ref 3] (hp tx y rd a b sw) = some (some (.int res), (hp tx y rd a b sw)) := by
  refine am_run_of (d := n0 + 0) rfl ?_
  show am_Ev (tb_B_size (am_run cPT cML (n0 + 0))) (0, [(0, .ref 3)], [], (hp tx y rd a b sw)) (some (.int res), (hp tx y rd a b sw))
  unfold fn_B_size at h
  cases h
  exact am_Ev.done 3 rfl
theorem ev_B_clear_t {n0 : Nat} {pg : SB} {rd : SR} {a : SD} {b : SD} {sw : Bool} {y : SB} {res : SB} (h : fn_B_clear y = some res) : am_run cPT cML (n0 + 1) 1 [.ref 1] (hp y pg rd a b sw) = some (none, (hp res pg rd a b sw)) := by
  refine am_run_of (d := n0 + 0) rfl ?_
  show am_Ev (tb_B_clear (am_run cPT cML (n0 + 0))) (0, [(0, .ref 1)], [], (hp y pg rd a b sw)) (none, (hp res pg rd a b sw))
  unfold fn_B_clear at h
  cases h
  exact am_Ev.done 4 rfl
theorem ev_B_clear_p {n0 : Nat} {tx : SB} {rd : SR} {a : SD} {b : SD} {sw : Bool} {y : SB} {res : SB} (h : fn_B_clear y = some res) : am_run cPT cML (n0 + 1) 1 [.ref 3] (hp tx y rd a b sw) = some (none, (hp tx res rd a b sw)) := by
  refine am_run_of (d := n0 + 0) rfl ?_
  show am_Ev (tb_B_clear (am_run cPT cML (n0 + 0))) (0, [(0, .ref 3)], [], (hp tx y rd a b sw)) (none, (hp tx res rd a b sw))
  unfold fn_B_clear at h
  cases h
  exact am_Ev.done 4 rfl
theorem ev_B_add_t {n0 : Nat} {pg : SB} {rd : SR} {a : SD} {b : SD} {sw : Bool} {x1 : Int32} {y : SB} {res : SB} (h : fn_B_add x1 y = some res) : am_run cPT cML (n0 + 1) 2 [.ref 1, .int x1] (hp y pg rd a b sw) = some (none, (hp res pg rd a b sw)) := by
  refine am_run_of (d := n0 + 0) rfl ?_
  show am_Ev (tb_B_add (am_run cPT cML (n0 + 0))) (0, [(0, .ref 1), (1, .int x1)], [], (hp y pg rd a b sw)) (none, (hp res pg rd a b sw))
  unfold fn_B_add at h
  refine am_Ev.fork (b := decide (y.2 < 0)) (s1 := (40, [(0, .ref 1), (1, .int x1)], [], (hp y pg rd a b sw))) (s2 := (7, [(0, .ref 1), (1, .int x1)], [], (hp y pg rd a b sw))) 3 (fun _ => rfl) (fun hc => ?_) (fun hc => ?_)
  · have h := (am_ift hc).symm.trans h
    cases h
    exact am_Ev.done 1 rfl
  · have h := (am_iff hc).symm.trans h
    refine am_Ev.fork (b := decide ((1500 : Int32) ≤ y.2)) (s1 := (40, [(0, .ref 1), (1, .int x1)], [], (hp y pg rd a b sw))) (s2 := (19, [(0, .ref 1), (1, .int x1)], [], (hp y pg rd a b sw))) 6 (fun _ => rfl) (fun hc => ?_) (fun hc => ?_)
    · have h := (am_ift hc).symm.trans h
      cases h
      exact am_Ev.done 1 rfl
    · have h := (am_iff hc).symm.trans h
      obtain ⟨hc, h⟩ := am_ifn h
      refine am_Ev.guard (b := decide (0 ≤ y.2.toInt ∧ y.2.toInt < (1500 : Int))) (s1 := (30, [(0, .ref 1), (1, .int x1)], [], (hp (upd y.1 y.2.toNatClampNeg (vp_nar .byte x1.toInt8.toInt32), y.2) pg rd a b sw))) 7 (fun _ => rfl) hc ?_
      cases h
      exact am_Ev.done 7 rfl
theorem ev_B_add_p {n0 : Nat} {tx : SB} {rd : SR} {a : SD} {b : SD} {sw : Bool} {x1 : Int32} {y : SB} {res : SB} (h : fn_B_add x1 y = some res) : am_run cPT cML (n0 + 1) 2 [.ref 3, .int x1] (hp tx y rd a b sw) = some (none, (hp tx res rd a b sw)) := by
  refine am_run_of (d := n0 + 0) rfl ?_
  show am_Ev (tb_B_add (am_run cPT cML (n0 + 0))) (0, [(0, .ref 3), (1, .int x1)], [], (hp tx y rd a b sw)) (none, (hp tx res rd a b sw))
  unfold fn_B_add at h
  refine am_Ev.fork (b := decide (y.2 < 0)) (s1 := (40, [(0, .ref 3), (1, .int x1)], [], (hp tx y rd a b sw))) (s2 := (7, [(0, .ref 3), (1, .int x1)], [], (hp tx y rd a b sw))) 3 (fun _ => rfl) (fun hc => ?_) (fun hc => ?_)
  · have h := (am_ift hc).symm.trans h
    cases h
    exact am_Ev.done 1 rfl
  · have h := (am_iff hc).symm.trans h
    refine am_Ev.fork (b := decide ((1500 : Int32) ≤ y.2)) (s1 := (40, [(0, .ref 3), (1, .int x1)], [], (hp tx y rd a b sw))) (s2 := (19, [(0, .ref 3), (1, .int x1)], [], (hp tx y rd a b sw))) 6 (fun _ => rfl) (fun hc => ?_) (fun hc => ?_)
    · have h := (am_ift hc).symm.trans h
      cases h
      exact am_Ev.done 1 rfl
    · have h := (am_iff hc).symm.trans h
      obtain ⟨hc, h⟩ := am_ifn h
      refine am_Ev.guard (b := decide (0 ≤ y.2.toInt ∧ y.2.toInt < (1500 : Int))) (s1 := (30, [(0, .ref 3), (1, .int x1)], [], (hp tx (upd y.1 y.2.toNatClampNeg (vp_nar .byte x1.toInt8.toInt32), y.2) rd a b sw))) 7 (fun _ => rfl) hc ?_
      cases h
      exact am_Ev.done 7 rfl
theorem ev_B_at_t {n0 : Nat} {pg : SB} {rd : SR} {a : SD} {b : SD} {sw : Bool} {x1 : Int32} {y : SB} {res : Int32} (h : fn_B_at x1 y = some res) : am_run cPT cML (n0 + 1) 3 [.ref 1, .int x1] (hp y pg rd a b sw) = some (some (.int res), (hp y pg rd a b sw)) := by
  refine am_run_of (d := n0 + 0) rfl ?_
  show am_Ev (tb_B_at (am_run cPT cML (n0 + 0))) (0, [(0, .ref 1), (1, .int x1)], [], (hp y pg rd a b sw)) (some (.int res), (hp y pg rd a b sw))
  unfold fn_B_at at h
  refine am_Ev.fork (b := decide (x1 < 0)) (s1 := (34, [(0, .ref 1), (1, .int x1)], [], (hp y pg rd a b sw))) (s2 := (4, [(0, .ref 1), (1, .int x1)], [], (hp y pg rd a b sw))) 2 (fun _ => rfl) (fun hc => ?_) (fun hc => ?_)
  · have h := (am_ift hc).symm.trans h
    cases h
    exact am_Ev.done 2 rfl
  · have h := (am_iff hc).symm.trans h
    refine am_Ev.fork (b := decide (y.2 ≤ x1)) (s1 := (34, [(0, .ref 1), (1, .int x1)], [], (hp y pg rd a b sw))) (s2 := (12, [(0, .ref 1), (1, .int x1)], [], (hp y pg rd a b sw))) 4 (fun _ => rfl) (fun hc => ?_) (fun hc => ?_)
    · have h := (am_ift hc).symm.trans h
      cases h
      exact am_Ev.done 2 rfl
    · have h := (am_iff hc).symm.trans h
      refine am_Ev.fork (b := decide ((1500 : Int32) ≤ x1)) (s1 := (34, [(0, .ref 1), (1, .int x1)], [], (hp y pg rd a b sw))) (s2 := (21, [(0, .ref 1), (1, .int x1)], [], (hp y pg rd a b sw))) 5 (fun _ => rfl) (fun hc => ?_) (fun hc => ?_)
      · have h := (am_ift hc).symm.trans h
        cases h
        exact am_Ev.done 2 rfl
      · have h := (am_iff hc).symm.trans h
        obtain ⟨hc, h⟩ := am_ifn h
        refine am_Ev.guard (b := decide (0 ≤ x1.toInt ∧ x1.toInt < (1500 : Int))) (s1 := (27, [(0, .ref 1), (1, .int x1)], [.int (y.1 x1.toNatClampNeg)], (hp y pg rd a b sw))) 4 (fun _ => rfl) hc ?_
        cases h
        exact am_Ev.done 4 rfl
theorem ev_B_at_p {n0 : Nat} {tx : SB} {rd : SR} {a : SD} {b : SD} {sw : Bool} {x1 : Int32} {y : SB} {res : Int32} (h : fn_B_at x1 y = some res) : am_run cPT cML (n0 + 1) 3 [.ref 3, .int x1] (hp tx y rd a b sw) = some (some (.int res), (hp tx y rd a b sw)) := by
  refine am_run_of (d := n0 + 0) rfl ?_
  show am_Ev (tb_B_at (am_run cPT cML (n0 + 0))) (0, [(0, .ref 3), (1, .int x1)], [], (hp tx y rd a b sw)) (some (.int res), (hp tx y rd a b sw))
  unfold fn_B_at at h
  refine am_Ev.fork (b := decide (x1 < 0)) (s1 := (34, [(0, .ref 3), (1, .int x1)], [], (hp tx y rd a b sw))) (s2 := (4, [(0, .ref 3), (1, .int x1)], [], (hp tx y rd a b sw))) 2 (fun _ => rfl) (fun hc => ?_) (fun hc => ?_)
  · have h := (am_ift hc).symm.trans h
    cases h
    exact am_Ev.done 2 rfl
  · have h := (am_iff hc).symm.trans h
    refine am_Ev.fork (b := decide (y.2 ≤ x1)) (s1 := (34, [(0, .ref 3), (1, .int x1)], [], (hp tx y rd a b sw))) (s2 := (12, [(0, .ref 3), (1, .int x1)], [], (hp tx y rd a b sw))) 4 (fun _ => rfl) (fun hc => ?_) (fun hc => ?_)
    · have h := (am_ift hc).symm.trans h
      cases h
      exact am_Ev.done 2 rfl
    · have h := (am_iff hc).symm.trans h
      refine am_Ev.fork (b := decide ((1500 : Int32) ≤ x1)) (s1 := (34, [(0, .ref 3), (1, .int x1)], [], (hp tx y rd a b sw))) (s2 := (21, [(0, .ref 3), (1, .int x1)], [], (hp tx y rd a b sw))) 5 (fun _ => rfl) (fun hc => ?_) (fun hc => ?_)
      · have h := (am_ift hc).symm.trans h
        cases h
        exact am_Ev.done 2 rfl
      · have h := (am_iff hc).symm.trans h
        obtain ⟨hc, h⟩ := am_ifn h
        refine am_Ev.guard (b := decide (0 ≤ x1.toInt ∧ x1.toInt < (1500 : Int))) (s1 := (27, [(0, .ref 3), (1, .int x1)], [.int (y.1 x1.toNatClampNeg)], (hp tx y rd a b sw))) 4 (fun _ => rfl) hc ?_
        cases h
        exact am_Ev.done 4 rfl
theorem ev_D_most_A {n0 : Nat} {tx : SB} {pg : SB} {rd : SR} {e : SD} {sw : Bool} {d : SD} {res : Int32} (h : fn_D_most d = some res) : am_run cPT cML (n0 + 1) 4 [.ref 13] (hp tx pg rd d e sw) = some (some (.int res), (hp tx pg rd d e sw)) := by
  refine am_run_of (d := n0 + 0) rfl ?_
  show am_Ev (tb_D_most (am_run cPT cML (n0 + 0))) (0, [(0, .ref 13)], [], (hp tx pg rd d e sw)) (some (.int res), (hp tx pg rd d e sw))
  unfold fn_D_most at h
  cases h
  exact am_Ev.done 3 rfl
theorem ev_D_most_B {n0 : Nat} {tx : SB} {pg : SB} {rd : SR} {e : SD} {sw : Bool} {d : SD} {res : Int32} (h : fn_D_most d = some res) : am_run cPT cML (n0 + 1) 4 [.ref 26] (hp tx pg rd e d sw) = some (some (.int res), (hp tx pg rd e d sw)) := by
  refine am_run_of (d := n0 + 0) rfl ?_
  show am_Ev (tb_D_most (am_run cPT cML (n0 + 0))) (0, [(0, .ref 26)], [], (hp tx pg rd e d sw)) (some (.int res), (hp tx pg rd e d sw))
  unfold fn_D_most at h
  cases h
  exact am_Ev.done 3 rfl
theorem ev_D_setMost_A {n0 : Nat} {tx : SB} {pg : SB} {rd : SR} {e : SD} {sw : Bool} {x1 : Int32} {d : SD} {res : SD} (h : fn_D_setMost x1 d = some res) : am_run cPT cML (n0 + 1) 5 [.ref 13, .int x1] (hp tx pg rd d e sw) = some (none, (hp tx pg rd res e sw)) := by
  refine am_run_of (d := n0 + 0) rfl ?_
  show am_Ev (tb_D_setMost (am_run cPT cML (n0 + 0))) (0, [(0, .ref 13), (1, .int x1)], [], (hp tx pg rd d e sw)) (none, (hp tx pg rd res e sw))
  unfold fn_D_setMost at h
  cases h
  exact am_Ev.done 4 rfl
theorem ev_D_setMost_B {n0 : Nat} {tx : SB} {pg : SB} {rd : SR} {e : SD} {sw : Bool} {x1 : Int32} {d : SD} {res : SD} (h : fn_D_setMost x1 d = some res) : am_run cPT cML (n0 + 1) 5 [.ref 26, .int x1] (hp tx pg rd e d sw) = some (none, (hp tx pg rd e res sw)) := by
  refine am_run_of (d := n0 + 0) rfl ?_
  show am_Ev (tb_D_setMost (am_run cPT cML (n0 + 0))) (0, [(0, .ref 26), (1, .int x1)], [], (hp tx pg rd e d sw)) (none, (hp tx pg rd e res sw))
  unfold fn_D_setMost at h
  cases h
  exact am_Ev.done 4 rfl
theorem ev_D_latchBits_A {n0 : Nat} {tx : SB} {pg : SB} {rd : SR} {e : SD} {sw : Bool} {d : SD} {res : Int32} (h : fn_D_latchBits d = some res) : am_run cPT cML (n0 + 1) 6 [.ref 13] (hp tx pg rd d e sw) = some (some (.int res), (hp tx pg rd d e sw)) := by
  refine am_run_of (d := n0 + 0) rfl ?_
  show am_Ev (tb_D_latchBits (am_run cPT cML (n0 + 0))) (0, [(0, .ref 13)], [], (hp tx pg rd d e sw)) (some (.int res), (hp tx pg rd d e sw))
  unfold fn_D_latchBits at h
  cases h
  exact am_Ev.done 3 rfl
theorem ev_D_latchBits_B {n0 : Nat} {tx : SB} {pg : SB} {rd : SR} {e : SD} {sw : Bool} {d : SD} {res : Int32} (h : fn_D_latchBits d = some res) : am_run cPT cML (n0 + 1) 6 [.ref 26] (hp tx pg rd e d sw) = some (some (.int res), (hp tx pg rd e d sw)) := by
  refine am_run_of (d := n0 + 0) rfl ?_
  show am_Ev (tb_D_latchBits (am_run cPT cML (n0 + 0))) (0, [(0, .ref 26)], [], (hp tx pg rd e d sw)) (some (.int res), (hp tx pg rd e d sw))
  unfold fn_D_latchBits at h
  cases h
  exact am_Ev.done 3 rfl
theorem ev_D_many_A {n0 : Nat} {tx : SB} {pg : SB} {rd : SR} {e : SD} {sw : Bool} {x1 : Int32} {d : SD} {res : Int32} (h : fn_D_many x1 d = some res) : am_run cPT cML (n0 + 1) 7 [.ref 13, .int x1] (hp tx pg rd d e sw) = some (some (.int res), (hp tx pg rd d e sw)) := by
  refine am_run_of (d := n0 + 0) rfl ?_
  show am_Ev (tb_D_many (am_run cPT cML (n0 + 0))) (0, [(0, .ref 13), (1, .int x1)], [], (hp tx pg rd d e sw)) (some (.int res), (hp tx pg rd d e sw))
  unfold fn_D_many at h
  refine am_Ev.multi (bs := [(decide (x1 = 0), (48, [(0, .ref 13), (1, .int x1)], [], (hp tx pg rd d e sw))), (decide (x1 = 1), (55, [(0, .ref 13), (1, .int x1)], [], (hp tx pg rd d e sw))), (decide (x1 = 2), (62, [(0, .ref 13), (1, .int x1)], [], (hp tx pg rd d e sw))), (decide (x1 = 3), (69, [(0, .ref 13), (1, .int x1)], [], (hp tx pg rd d e sw))), (decide (x1 = 4), (55, [(0, .ref 13), (1, .int x1)], [], (hp tx pg rd d e sw))), (decide (x1 = 5), (55, [(0, .ref 13), (1, .int x1)], [], (hp tx pg rd d e sw))), (decide (x1 = 6), (69, [(0, .ref 13), (1, .int x1)], [], (hp tx pg rd d e sw))), (decide (x1 = 7), (69, [(0, .ref 13), (1, .int x1)], [], (hp tx pg rd d e sw)))]) (s := (76, [(0, .ref 13), (1, .int x1)], [], (hp tx pg rd d e sw))) 2 (fun _ => rfl) ?_
  refine am_Ev.sw1 (fun hc => ?_) (fun hc => ?_)
  · have h := (am_ift hc).symm.trans h
    obtain ⟨hc, h⟩ := am_ifn h
    refine am_Ev.guard (b := decide (0 ≤ (0 : Int32).toInt ∧ (0 : Int32).toInt < (4 : Int))) (s1 := (54, [(0, .ref 13), (1, .int x1)], [.int (d.2.1 ((0 : Int32).toNatClampNeg))], (hp tx pg rd d e sw))) 4 (fun _ => rfl) hc ?_
    cases h
    exact am_Ev.done 1 rfl
  have h := (am_iff hc).symm.trans h
  refine am_Ev.sw1 (fun hc => ?_) (fun hc => ?_)
  · have h := (am_ift hc).symm.trans h
    obtain ⟨hc, h⟩ := am_ifn h
    refine am_Ev.guard (b := decide (0 ≤ (1 : Int32).toInt ∧ (1 : Int32).toInt < (4 : Int))) (s1 := (61, [(0, .ref 13), (1, .int x1)], [.int (d.2.1 ((1 : Int32).toNatClampNeg))], (hp tx pg rd d e sw))) 4 (fun _ => rfl) hc ?_
    cases h
    exact am_Ev.done 1 rfl
  have h := (am_iff hc).symm.trans h
  refine am_Ev.sw1 (fun hc => ?_) (fun hc => ?_)
  · have h := (am_ift hc).symm.trans h
    obtain ⟨hc, h⟩ := am_ifn h
    refine am_Ev.guard (b := decide (0 ≤ (2 : Int32).toInt ∧ (2 : Int32).toInt < (4 : Int))) (s1 := (68, [(0, .ref 13), (1, .int x1)], [.int (d.2.1 ((2 : Int32).toNatClampNeg))], (hp tx pg rd d e sw))) 4 (fun _ => rfl) hc ?_
    cases h
    exact am_Ev.done 1 rfl
  have h := (am_iff hc).symm.trans h
  refine am_Ev.sw1 (fun hc => ?_) (fun hc => ?_)
  · have h := (am_ift hc).symm.trans h
    obtain ⟨hc, h⟩ := am_ifn h
    refine am_Ev.guard (b := decide (0 ≤ (3 : Int32).toInt ∧ (3 : Int32).toInt < (4 : Int))) (s1 := (75, [(0, .ref 13), (1, .int x1)], [.int (d.2.1 ((3 : Int32).toNatClampNeg))], (hp tx pg rd d e sw))) 4 (fun _ => rfl) hc ?_
    cases h
    exact am_Ev.done 1 rfl
  have h := (am_iff hc).symm.trans h
  refine am_Ev.sw1 (fun hc => ?_) (fun hc => ?_)
  · have h := (am_ift hc).symm.trans h
    obtain ⟨hc, h⟩ := am_ifn h
    refine am_Ev.guard (b := decide (0 ≤ (1 : Int32).toInt ∧ (1 : Int32).toInt < (4 : Int))) (s1 := (61, [(0, .ref 13), (1, .int x1)], [.int (d.2.1 ((1 : Int32).toNatClampNeg))], (hp tx pg rd d e sw))) 4 (fun _ => rfl) hc ?_
    cases h
    exact am_Ev.done 1 rfl
  have h := (am_iff hc).symm.trans h
  refine am_Ev.sw1 (fun hc => ?_) (fun hc => ?_)
  · have h := (am_ift hc).symm.trans h
    obtain ⟨hc, h⟩ := am_ifn h
    refine am_Ev.guard (b := decide (0 ≤ (1 : Int32).toInt ∧ (1 : Int32).toInt < (4 : Int))) (s1 := (61, [(0, .ref 13), (1, .int x1)], [.int (d.2.1 ((1 : Int32).toNatClampNeg))], (hp tx pg rd d e sw))) 4 (fun _ => rfl) hc ?_
    cases h
    exact am_Ev.done 1 rfl
  have h := (am_iff hc).symm.trans h
  refine am_Ev.sw1 (fun hc => ?_) (fun hc => ?_)
  · have h := (am_ift hc).symm.trans h
    obtain ⟨hc, h⟩ := am_ifn h
    refine am_Ev.guard (b := decide (0 ≤ (3 : Int32).toInt ∧ (3 : Int32).toInt < (4 : Int))) (s1 := (75, [(0, .ref 13), (1, .int x1)], [.int (d.2.1 ((3 : Int32).toNatClampNeg))], (hp tx pg rd d e sw))) 4 (fun _ => rfl) hc ?_
    cases h
    exact am_Ev.done 1 rfl
  have h := (am_iff hc).symm.trans h
  refine am_Ev.sw1 (fun hc => ?_) (fun hc => ?_)
  · have h := (am_ift hc).symm.trans h
    obtain ⟨hc, h⟩ := am_ifn h
    refine am_Ev.guard (b := decide (0 ≤ (3 : Int32).toInt ∧ (3 : Int32).toInt < (4 : Int))) (s1 := (75, [(0, .ref 13), (1, .int x1)], [.int (d.2.1 ((3 : Int32).toNatClampNeg))], (hp tx pg rd d e sw))) 4 (fun _ => rfl) hc ?_
    cases h
    exact am_Ev.done 1 rfl
  have h := (am_iff hc).symm.trans h
  refine am_Ev.sw0 ?_
  cases h
  exact am_Ev.done 2 rfl
theorem ev_D_many_B {n0 : Nat} {tx : SB} {pg : SB} {rd : SR} {e : SD} {sw : Bool} {x1 : Int32} {d : SD} {res : Int32} (h : fn_D_many x1 d = some res) : am_run cPT cML (n0 + 1) 7 [.ref 26, .int x1] (hp tx pg rd e d sw) = some (some (.int res), (hp tx pg rd e d sw)) := by
  refine am_run_of (d := n0 + 0) rfl ?_
  show am_Ev (tb_D_many (am_run cPT cML (n0 + 0))) (0, [(0, .ref 26), (1, .int x1)], [], (hp tx pg rd e d sw)) (some (.int res), (hp tx pg rd e d sw))
  unfold fn_D_many at h
  refine am_Ev.multi (bs := [(decide (x1 = 0), (48, [(0, .ref 26), (1, .int x1)], [], (hp tx pg rd e d sw))), (decide (x1 = 1), (55, [(0, .ref 26), (1, .int x1)], [], (hp tx pg rd e d sw))), (decide (x1 = 2), (62, [(0, .ref 26), (1, .int x1)], [], (hp tx pg rd e d sw))), (decide (x1 = 3), (69, [(0, .ref 26), (1, .int x1)], [], (hp tx pg rd e d sw))), (decide (x1 = 4), (55, [(0, .ref 26), (1, .int x1)], [], (hp tx pg rd e d sw))), (decide (x1 = 5), (55, [(0, .ref 26), (1, .int x1)], [], (hp tx pg rd e d sw))), (decide (x1 = 6), (69, [(0, .ref 26), (1, .int x1)], [], (hp tx pg rd e d sw))), (decide (x1 = 7), (69, [(0, .ref 26), (1, .int x1)], [], (hp tx pg rd e d sw)))]) (s := (76, [(0, .ref 26), (1, .int x1)], [], (hp tx pg rd e d sw))) 2 (fun _ => rfl) ?_
  refine am_Ev.sw1 (fun hc => ?_) (fun hc => ?_)
  · have h := (am_ift hc).symm.trans h
    obtain ⟨hc, h⟩ := am_ifn h
    refine am_Ev.guard (b := decide (0 ≤ (0 : Int32).toInt ∧ (0 : Int32).toInt < (4 : Int))) (s1 := (54, [(0, .ref 26), (1, .int x1)], [.int (d.2.1 ((0 : Int32).toNatClampNeg))], (hp tx pg rd e d sw))) 4 (fun _ => rfl) hc ?_
    cases h
    exact am_Ev.done 1 rfl
  have h := (am_iff hc).symm.trans h
  refine am_Ev.sw1 (fun hc => ?_) (fun hc => ?_)
  · have h := (am_ift hc).symm.trans h
    obtain ⟨hc, h⟩ := am_ifn h
    refine am_Ev.guard (b := decide (0 ≤ (1 : Int32).toInt ∧ (1 : Int32).toInt < (4 : Int))) (s1 := (61, [(0, .ref 26), (1, .int x1)], [.int (d.2.1 ((1 : Int32).toNatClampNeg))], (hp tx pg rd e d sw))) 4 (fun _ => rfl) hc ?_
    cases h
    exact am_Ev.done 1 rfl
  have h := (am_iff hc).symm.trans h
  refine am_Ev.sw1 (fun hc => ?_) (fun hc => ?_)
  · have h := (am_ift hc).symm.trans h
    obtain ⟨hc, h⟩ := am_ifn h
    refine am_Ev.guard (b := decide (0 ≤ (2 : Int32).toInt ∧ (2 : Int32).toInt < (4 : Int))) (s1 := (68, [(0, .ref 26), (1, .int x1)], [.int (d.2.1 ((2 : Int32).toNatClampNeg))], (hp tx pg rd e d sw))) 4 (fun _ => rfl) hc ?_
    cases h
    exact am_Ev.done 1 rfl
  have h := (am_iff hc).symm.trans h
  refine am_Ev.sw1 (fun hc => ?_) (fun hc => ?_)
  · have h := (am_ift hc).symm.trans h
    obtain ⟨hc, h⟩ := am_ifn h
    refine am_Ev.guard (b := decide (0 ≤ (3 : Int32).toInt ∧ (3 : Int32).toInt < (4 : Int))) (s1 := (75, [(0, .ref 26), (1, .int x1)], [.int (d.2.1 ((3 : Int32).toNatClampNeg))], (hp tx pg rd e d sw))) 4 (fun _ => rfl) hc ?_
    cases h
    exact am_Ev.done 1 rfl
  have h := (am_iff hc).symm.trans h
  refine am_Ev.sw1 (fun hc => ?_) (fun hc => ?_)
  · have h := (am_ift hc).symm.trans h
    obtain ⟨hc, h⟩ := am_ifn h
    refine am_Ev.guard (b := decide (0 ≤ (1 : Int32).toInt ∧ (1 : Int32).toInt < (4 : Int))) (s1 := (61, [(0, .ref 26), (1, .int x1)], [.int (d.2.1 ((1 : Int32).toNatClampNeg))], (hp tx pg rd e d sw))) 4 (fun _ => rfl) hc ?_
    cases h
    exact am_Ev.done 1 rfl
  have h := (am_iff hc).symm.trans h
  refine am_Ev.sw1 (fun hc => ?_) (fun hc => ?_)
  · have h := (am_ift hc).symm.trans h
    obtain ⟨hc, h⟩ := am_ifn h
    refine am_Ev.guard (b := decide (0 ≤ (1 : Int32).toInt ∧ (1 : Int32).toInt < (4 : Int))) (s1 := (61, [(0, .ref 26), (1, .int x1)], [.int (d.2.1 ((1 : Int32).toNatClampNeg))], (hp tx pg rd e d sw))) 4 (fun _ => rfl) hc ?_
    cases h
    exact am_Ev.done 1 rfl
  have h := (am_iff hc).symm.trans h
  refine am_Ev.sw1 (fun hc => ?_) (fun hc => ?_)
  · have h := (am_ift hc).symm.trans h
    obtain ⟨hc, h⟩ := am_ifn h
    refine am_Ev.guard (b := decide (0 ≤ (3 : Int32).toInt ∧ (3 : Int32).toInt < (4 : Int))) (s1 := (75, [(0, .ref 26), (1, .int x1)], [.int (d.2.1 ((3 : Int32).toNatClampNeg))], (hp tx pg rd e d sw))) 4 (fun _ => rfl) hc ?_
    cases h
    exact am_Ev.done 1 rfl
  have h := (am_iff hc).symm.trans h
  refine am_Ev.sw1 (fun hc => ?_) (fun hc => ?_)
  · have h := (am_ift hc).symm.trans h
    obtain ⟨hc, h⟩ := am_ifn h
    refine am_Ev.guard (b := decide (0 ≤ (3 : Int32).toInt ∧ (3 : Int32).toInt < (4 : Int))) (s1 := (75, [(0, .ref 26), (1, .int x1)], [.int (d.2.1 ((3 : Int32).toNatClampNeg))], (hp tx pg rd e d sw))) 4 (fun _ => rfl) hc ?_
    cases h
    exact am_Ev.done 1 rfl
  have h := (am_iff hc).symm.trans h
  refine am_Ev.sw0 ?_
  cases h
  exact am_Ev.done 2 rfl
theorem ev_D_setMany_A {n0 : Nat} {tx : SB} {pg : SB} {rd : SR} {e : SD} {sw : Bool} {x1 : Int32} {x2 : Int32} {d : SD} {res : SD} (h : fn_D_setMany x1 x2 d = some res) : am_run cPT cML (n0 + 1) 8 [.ref 13, .int x1, .int x2] (hp tx pg rd d e sw) = some (none, (hp tx pg rd res e sw)) := by
  refine am_run_of (d := n0 + 0) rfl ?_
  show am_Ev (tb_D_setMany (am_run cPT cML (n0 + 0))) (0, [(0, .ref 13), (1, .int x1), (2, .int x2)], [], (hp tx pg rd d e sw)) (none, (hp tx pg rd res e sw))
  unfold fn_D_setMany at h
  refine am_Ev.fork (b := decide (x1 < 0)) (s1 := (29, [(0, .ref 13), (1, .int x1), (2, .int x2)], [], (hp tx pg rd d e sw))) (s2 := (4, [(0, .ref 13), (1, .int x1), (2, .int x2)], [], (hp tx pg rd d e sw))) 2 (fun _ => rfl) (fun hc => ?_) (fun hc => ?_)
  · have h := (am_ift hc).symm.trans h
    cases h
    exact am_Ev.done 1 rfl
  · have h := (am_iff hc).symm.trans h
    refine am_Ev.fork (b := decide ((4 : Int32) ≤ x1)) (s1 := (29, [(0, .ref 13), (1, .int x1), (2, .int x2)], [], (hp tx pg rd d e sw))) (s2 := (13, [(0, .ref 13), (1, .int x1), (2, .int x2)], [], (hp tx pg rd d e sw))) 5 (fun _ => rfl) (fun hc => ?_) (fun hc => ?_)
    · have h := (am_ift hc).symm.trans h
      cases h
      exact am_Ev.done 1 rfl
    · have h := (am_iff hc).symm.trans h
      obtain ⟨hc, h⟩ := am_ifn h
      refine am_Ev.guard (b := decide (0 ≤ x1.toInt ∧ x1.toInt < (4 : Int))) (s1 := (29, [(0, .ref 13), (1, .int x1), (2, .int x2)], [], (hp tx pg rd (d.1, upd d.2.1 x1.toNatClampNeg ((if (0 : Int32) < (if (60 : Int32) < x2 then (60 : Int32) else x2) then (if (60 : Int32) < x2 then (60 : Int32) else x2) else (0 : Int32))), d.2.2.1, d.2.2.2.1, d.2.2.2.2.1, d.2.2.2.2.2) e sw))) 9 (fun _ => rfl) hc ?_
      cases h
      exact am_Ev.done 1 rfl
theorem ev_D_setMany_B {n0 : Nat} {tx : SB} {pg : SB} {rd : SR} {e : SD} {sw : Bool} {x1 : Int32} {x2 : Int32} {d : SD} {res : SD} (h : fn_D_setMany x1 x2 d = some res) : am_run cPT cML (n0 + 1) 8 [.ref 26, .int x1, .int x2] (hp tx pg rd e d sw) = some (none, (hp tx pg rd e res sw)) := by
  refine am_run_of (d := n0 + 0) rfl ?_
  show am_Ev (tb_D_setMany (am_run cPT cML (n0 + 0))) (0, [(0, .ref 26), (1, .int x1), (2, .int x2)], [], (hp tx pg rd e d sw)) (none, (hp tx pg rd e res sw))
  unfold fn_D_setMany at h
  refine am_Ev.fork (b := decide (x1 < 0)) (s1 := (29, [(0, .ref 26), (1, .int x1), (2, .int x2)], [], (hp tx pg rd e d sw))) (s2 := (4, [(0, .ref 26), (1, .int x1), (2, .int x2)], [], (hp tx pg rd e d sw))) 2 (fun _ => rfl) (fun hc => ?_) (fun hc => ?_)
  · have h := (am_ift hc).symm.trans h
    cases h
    exact am_Ev.done 1 rfl
  · have h := (am_iff hc).symm.trans h
    refine am_Ev.fork (b := decide ((4 : Int32) ≤ x1)) (s1 := (29, [(0, .ref 26), (1, .int x1), (2, .int x2)], [], (hp tx pg rd e d sw))) (s2 := (13, [(0, .ref 26), (1, .int x1), (2, .int x2)], [], (hp tx pg rd e d sw))) 5 (fun _ => rfl) (fun hc => ?_) (fun hc => ?_)
    · have h := (am_ift hc).symm.trans h
      cases h
      exact am_Ev.done 1 rfl
    · have h := (am_iff hc).symm.trans h
      obtain ⟨hc, h⟩ := am_ifn h
      refine am_Ev.guard (b := decide (0 ≤ x1.toInt ∧ x1.toInt < (4 : Int))) (s1 := (29, [(0, .ref 26), (1, .int x1), (2, .int x2)], [], (hp tx pg rd e (d.1, upd d.2.1 x1.toNatClampNeg ((if (0 : Int32) < (if (60 : Int32) < x2 then (60 : Int32) else x2) then (if (60 : Int32) < x2 then (60 : Int32) else x2) else (0 : Int32))), d.2.2.1, d.2.2.2.1, d.2.2.2.2.1, d.2.2.2.2.2) sw))) 9 (fun _ => rfl) hc ?_
      cases h
      exact am_Ev.done 1 rfl
theorem ev_D_forget_2_A {n0 : Nat} {tx : SB} {pg : SB} {rd : SR} {e : SD} {sw : Bool} {κ : SD → Option (SD)} (hκ : ∀ (d : SD) (res : SD), κ d = some res → am_Ev (tb_D_forget (am_run cPT cML (n0 + 0))) (24, [], [], (hp tx pg rd d e sw)) (none, (hp tx pg rd res e sw))) : ∀ (n : Nat) (x1 : Int32) (d : SD) (res : SD), fn_D_forget_2 κ n x1 d = some res → am_Ev (tb_D_forget (am_run cPT cML (n0 + 0))) (2, [(0, .ref 13), (1, .int x1)], [], (hp tx pg rd d e sw)) (none, (hp tx pg rd res e sw)) := by
  intro n
  induction n with
  | zero => intro x1 d res h; unfold fn_D_forget_2 at h; cases h
  | succ n ih =>
    intro x1 d res h
    unfold fn_D_forget_2 at h
    refine am_Ev.fork (b := decide ((100 : Int32) ≤ x1)) (s1 := (24, [(0, .ref 13), (1, .int x1)], [], (hp tx pg rd d e sw))) (s2 := (11, [(0, .ref 13), (1, .int x1)], [], (hp tx pg rd d e sw))) 5 (fun _ => rfl) (fun hc => ?_) (fun hc => ?_)
    · have h := (am_ift hc).symm.trans h
      refine am_Ev.same (st' := (24, [], [], (hp tx pg rd d e sw))) (fun _ => rfl) ?_
      exact hκ _ _ h
    · have h := (am_iff hc).symm.trans h
      obtain ⟨hc, h⟩ := am_ifn h
      refine am_Ev.guard (b := decide (0 ≤ x1.toInt ∧ x1.toInt < (100 : Int))) (s1 := (18, [(0, .ref 13), (1, .int x1)], [], (hp tx pg rd (d.1, d.2.1, d.2.2.1, upd d.2.2.2.1 x1.toNatClampNeg ((0 : Int32)), d.2.2.2.2.1, d.2.2.2.2.2) e sw))) 5 (fun _ => rfl) hc ?_
      refine am_Ev.go 2 (st' := (2, [(0, .ref 13), (1, .int (x1 + 1))], [], (hp tx pg rd (d.1, d.2.1, d.2.2.1, upd d.2.2.2.1 x1.toNatClampNeg ((0 : Int32)), d.2.2.2.2.1, d.2.2.2.2.2) e sw))) (fun _ => rfl) ?_
      exact ih _ _ _ h
theorem ev_D_forget_A {n0 : Nat} {tx : SB} {pg : SB} {rd : SR} {e : SD} {sw : Bool} {d : SD} {res : SD} (h : fn_D_forget d = some res) : am_run cPT cML (n0 + 1) 20 [.ref 13] (hp tx pg rd d e sw) = some (none, (hp tx pg rd res e sw)) := by
  refine am_run_of (d := n0 + 0) rfl ?_
  show am_Ev (tb_D_forget (am_run cPT cML (n0 + 0))) (0, [(0, .ref 13)], [], (hp tx pg rd d e sw)) (none, (hp tx pg rd res e sw))
  unfold fn_D_forget at h
  refine am_Ev.go 2 (st' := (2, [(0, .ref 13), (1, .int 0)], [], (hp tx pg rd d e sw))) (fun _ => rfl) ?_
  refine ev_D_forget_2_A ?_ _ _ _ _ h
  intro d_2 res h
  try dsimp only at h
  cases h
  exact am_Ev.done 1 rfl
theorem ev_D_forget_2_B {n0 : Nat} {tx : SB} {pg : SB} {rd : SR} {e : SD} {sw : Bool} {κ : SD → Option (SD)} (hκ : ∀ (d : SD) (res : SD), κ d = some res → am_Ev (tb_D_forget (am_run cPT cML (n0 + 0))) (24, [], [], (hp tx pg rd e d sw)) (none, (hp tx pg rd e res sw))) : ∀ (n : Nat) (x1 : Int32) (d : SD) (res : SD), fn_D_forget_2 κ n x1 d = some res → am_Ev (tb_D_forget (am_run cPT cML (n0 + 0))) (2, [(0, .ref 26), (1, .int x1)], [], (hp tx pg rd e d sw)) (none, (hp tx pg rd e res sw)) := by
  intro n
  induction n with
  | zero => intro x1 d res h; unfold fn_D_forget_2 at h; cases h
  | succ n ih =>
    intro x1 d res h
    unfold fn_D_forget_2 at h
    refine am_Ev.fork (b := decide ((100 : Int32) ≤ x1)) (s1 := (24, [(0, .ref 26), (1, .int x1)], [], (hp tx pg rd e d sw))) (s2 := (11, [(0, .ref 26), (1, .int x1)], [], (hp tx pg rd e d sw))) 5 (fun _ => rfl) (fun hc => ?_) (fun hc => ?_)
    · have h := (am_ift hc).symm.trans h
      refine am_Ev.same (st' := (24, [], [], (hp tx pg rd e d sw))) (fun _ => rfl) ?_
      exact hκ _ _ h
    · have h := (am_iff hc).symm.trans h
      obtain ⟨hc, h⟩ := am_ifn h
      refine am_Ev.guard (b := decide (0 ≤ x1.toInt ∧ x1.toInt < (100 : Int))) (s1 := (18, [(0, .ref 26), (1, .int x1)], [], (hp tx pg rd e (d.1, d.2.1, d.2.2.1, upd d.2.2.2.1 x1.toNatClampNeg ((0 : Int32)), d.2.2.2.2.1, d.2.2.2.2.2) sw))) 5 (fun _ => rfl) hc ?_
      refine am_Ev.go 2 (st' := (2, [(0, .ref 26), (1, .int (x1 + 1))], [], (hp tx pg rd e (d.1, d.2.1, d.2.2.1, upd d.2.2.2.1 x1.toNatClampNeg ((0 : Int32)), d.2.2.2.2.1, d.2.2.2.2.2) sw))) (fun _ => rfl) ?_
      exact ih _ _ _ h
theorem ev_D_forget_B {n0 : Nat} {tx : SB} {pg : SB} {rd : SR} {e : SD} {sw : Bool} {d : SD} {res : SD} (h : fn_D_forget d = some res) : am_run cPT cML (n0 + 1) 20 [.ref 26] (hp tx pg rd e d sw) = some (none, (hp tx pg rd e res sw)) := by
  refine am_run_of (d := n0 + 0) rfl ?_
  show am_Ev (tb_D_forget (am_run cPT cML (n0 + 0))) (0, [(0, .ref 26)], [], (hp tx pg rd e d sw)) (none, (hp tx pg rd e res sw))
  unfold fn_D_forget at h
  refine am_Ev.go 2 (st' := (2, [(0, .ref 26), (1, .int 0)], [], (hp tx pg rd e d sw))) (fun _ => rfl) ?_
  refine ev_D_forget_2_B ?_ _ _ _ _ h
  intro d_2 res h
  try dsimp only at h
  cases h
  exact am_Ev.done 1 rfl
theorem ev_D_inSequence_A {n0 : Nat} {tx : SB} {pg : SB} {rd : SR} {e : SD} {sw : Bool} {x1 : Int32} {d : SD} {res : Int32} (h : fn_D_inSequence x1 d = some res) : am_run cPT cML (n0 + 1) 23 [.ref 13, .int x1] (hp tx pg rd d e sw) = some (some (.int res), (hp tx pg rd d e sw)) := by
  refine am_run_of (d := n0 + 0) rfl ?_
  show am_Ev (tb_D_inSequence (am_run cPT cML (n0 + 0))) (0, [(0, .ref 13), (1, .int x1)], [], (hp tx pg rd d e sw)) (some (.int res), (hp tx pg rd d e sw))
  unfold fn_D_inSequence at h
  refine am_Ev.fork (b := decide (x1 < 0)) (s1 := (22, [(0, .ref 13), (1, .int x1)], [], (hp tx pg rd d e sw))) (s2 := (4, [(0, .ref 13), (1, .int x1)], [], (hp tx pg rd d e sw))) 2 (fun _ => rfl) (fun hc => ?_) (fun hc => ?_)
  · have h := (am_ift hc).symm.trans h
    cases h
    exact am_Ev.done 2 rfl
  · have h := (am_iff hc).symm.trans h
    refine am_Ev.fork (b := decide ((60 : Int32) ≤ x1)) (s1 := (22, [(0, .ref 13), (1, .int x1)], [], (hp tx pg rd d e sw))) (s2 := (13, [(0, .ref 13), (1, .int x1)], [], (hp tx pg rd d e sw))) 5 (fun _ => rfl) (fun hc => ?_) (fun hc => ?_)
    · have h := (am_ift hc).symm.trans h
      cases h
      exact am_Ev.done 2 rfl
    · have h := (am_iff hc).symm.trans h
      obtain ⟨hc, h⟩ := am_ifn h
      refine am_Ev.guard (b := decide (0 ≤ x1.toInt ∧ x1.toInt < (60 : Int))) (s1 := (19, [(0, .ref 13), (1, .int x1)], [.int (d.2.2.1 x1.toNatClampNeg)], (hp tx pg rd d e sw))) 4 (fun _ => rfl) hc ?_
      cases h
      exact am_Ev.done 2 rfl
theorem ev_D_inSequence_B {n0 : Nat} {tx : SB} {pg : SB} {rd : SR} {e : SD} {sw : Bool} {x1 : Int32} {d : SD} {res : Int32} (h : fn_D_inSequence x1 d = some res) : am_run cPT cML (n0 + 1) 23 [.ref 26, .int x1] (hp tx pg rd e d sw) = some (some (.int res), (hp tx pg rd e d sw)) := by
  refine am_run_of (d := n0 + 0) rfl ?_
  show am_Ev (tb_D_inSequence (am_run cPT cML (n0 + 0))) (0, [(0, .ref 26), (1, .int x1)], [], (hp tx pg rd e d sw)) (some (.int res), (hp tx pg rd e d sw))
  unfold fn_D_inSequence at h
  refine am_Ev.fork (b := decide (x1 < 0)) (s1 := (22, [(0, .ref 26), (1, .int x1)], [], (hp tx pg rd e d sw))) (s2 := (4, [(0, .ref 26), (1, .int x1)], [], (hp tx pg rd e d sw))) 2 (fun _ => rfl) (fun hc => ?_) (fun hc => ?_)
  · have h := (am_ift hc).symm.trans h
    cases h
    exact am_Ev.done 2 rfl
  · have h := (am_iff hc).symm.trans h
    refine am_Ev.fork (b := decide ((60 : Int32) ≤ x1)) (s1 := (22, [(0, .ref 26), (1, .int x1)], [], (hp tx pg rd e d sw))) (s2 := (13, [(0, .ref 26), (1, .int x1)], [], (hp tx pg rd e d sw))) 5 (fun _ => rfl) (fun hc => ?_) (fun hc => ?_)
    · have h := (am_ift hc).symm.trans h
      cases h
      exact am_Ev.done 2 rfl
    · have h := (am_iff hc).symm.trans h
      obtain ⟨hc, h⟩ := am_ifn h
      refine am_Ev.guard (b := decide (0 ≤ x1.toInt ∧ x1.toInt < (60 : Int))) (s1 := (19, [(0, .ref 26), (1, .int x1)], [.int (d.2.2.1 x1.toNatClampNeg)], (hp tx pg rd e d sw))) 4 (fun _ => rfl) hc ?_
      cases h
      exact am_Ev.done 2 rfl
theorem ev_D_mark_A {n0 : Nat} {tx : SB} {pg : SB} {rd : SR} {e : SD} {sw : Bool} {x1 : Int32} {x2 : Int32} {d : SD} {res : SD} (h : fn_D_mark x1 x2 d = some res) : am_run cPT cML (n0 + 1) 30 [.ref 13, .int x1, .int x2] (hp tx pg rd d e sw) = some (none, (hp tx pg rd res e sw)) := by
  refine am_run_of (d := n0 + 0) rfl ?_
  show am_Ev (tb_D_mark (am_run cPT cML (n0 + 0))) (0, [(0, .ref 13), (1, .int x1), (2, .int x2)], [], (hp tx pg rd d e sw)) (none, (hp tx pg rd res e sw))
  unfold fn_D_mark at h
  refine am_Ev.fork (b := decide ((x1 >>> ((1 : Int32) &&& 31)) < 0)) (s1 := (24, [(0, .ref 13), (1, .int x1), (2, .int x2), (3, .int (x1 >>> ((1 : Int32) &&& 31)))], [], (hp tx pg rd d e sw))) (s2 := (8, [(0, .ref 13), (1, .int x1), (2, .int x2), (3, .int (x1 >>> ((1 : Int32) &&& 31)))], [], (hp tx pg rd d e sw))) 6 (fun _ => rfl) (fun hc => ?_) (fun hc => ?_)
  · have h := (am_ift hc).symm.trans h
    cases h
    exact am_Ev.done 1 rfl
  · have h := (am_iff hc).symm.trans h
    refine am_Ev.fork (b := decide ((100 : Int32) ≤ (x1 >>> ((1 : Int32) &&& 31)))) (s1 := (24, [(0, .ref 13), (1, .int x1), (2, .int x2), (3, .int (x1 >>> ((1 : Int32) &&& 31)))], [], (hp tx pg rd d e sw))) (s2 := (17, [(0, .ref 13), (1, .int x1), (2, .int x2), (3, .int (x1 >>> ((1 : Int32) &&& 31)))], [], (hp tx pg rd d e sw))) 5 (fun _ => rfl) (fun hc => ?_) (fun hc => ?_)
    · have h := (am_ift hc).symm.trans h
      cases h
      exact am_Ev.done 1 rfl
    · have h := (am_iff hc).symm.trans h
      obtain ⟨hc, h⟩ := am_ifn h
      refine am_Ev.guard (b := decide (0 ≤ (x1 >>> ((1 : Int32) &&& 31)).toInt ∧ (x1 >>> ((1 : Int32) &&& 31)).toInt < (100 : Int))) (s1 := (24, [(0, .ref 13), (1, .int x1), (2, .int x2), (3, .int (x1 >>> ((1 : Int32) &&& 31)))], [], (hp tx pg rd (d.1, d.2.1, d.2.2.1, upd d.2.2.2.1 (x1 >>> ((1 : Int32) &&& 31)).toNatClampNeg x2, d.2.2.2.2.1, d.2.2.2.2.2) e sw))) 5 (fun _ => rfl) hc ?_
      cases h
      exact am_Ev.done 1 rfl
theorem ev_D_mark_B {n0 : Nat} {tx : SB} {pg : SB} {rd : SR} {e : SD} {sw : Bool} {x1 : Int32} {x2 : Int32} {d : SD} {res : SD} (h : fn_D_mark x1 x2 d = some res) : am_run cPT cML (n0 + 1) 30 [.ref 26, .int x1, .int x2] (hp tx pg rd e d sw) = some (none, (hp tx pg rd e res sw)) := by
  refine am_run_of (d := n0 + 0) rfl ?_
  show am_Ev (tb_D_mark (am_run cPT cML (n0 + 0))) (0, [(0, .ref 26), (1, .int x1), (2, .int x2)], [], (hp tx pg rd e d sw)) (none, (hp tx pg rd e res sw))
  unfold fn_D_mark at h
  refine am_Ev.fork (b := decide ((x1 >>> ((1 : Int32) &&& 31)) < 0)) (s1 := (24, [(0, .ref 26), (1, .int x1), (2, .int x2), (3, .int (x1 >>> ((1 : Int32) &&& 31)))], [], (hp tx pg rd e d sw))) (s2 := (8, [(0, .ref 26), (1, .int x1), (2, .int x2), (3, .int (x1 >>> ((1 : Int32) &&& 31)))], [], (hp tx pg rd e d sw))) 6 (fun _ => rfl) (fun hc => ?_) (fun hc => ?_)
  · have h := (am_ift hc).symm.trans h
    cases h
    exact am_Ev.done 1 rfl
  · have h := (am_iff hc).symm.trans h
    refine am_Ev.fork (b := decide ((100 : Int32) ≤ (x1 >>> ((1 : Int32) &&& 31)))) (s1 := (24, [(0, .ref 26), (1, .int x1), (2, .int x2), (3, .int (x1 >>> ((1 : Int32) &&& 31)))], [], (hp tx pg rd e d sw))) (s2 := (17, [(0, .ref 26), (1, .int x1), (2, .int x2), (3, .int (x1 >>> ((1 : Int32) &&& 31)))], [], (hp tx pg rd e d sw))) 5 (fun _ => rfl) (fun hc => ?_) (fun hc => ?_)
    · have h := (am_ift hc).symm.trans h
      cases h
      exact am_Ev.done 1 rfl
    · have h := (am_iff hc).symm.trans h
      obtain ⟨hc, h⟩ := am_ifn h
      refine am_Ev.guard (b := decide (0 ≤ (x1 >>> ((1 : Int32) &&& 31)).toInt ∧ (x1 >>> ((1 : Int32) &&& 31)).toInt < (100 : Int))) (s1 := (24, [(0, .ref 26), (1, .int x1), (2, .int x2), (3, .int (x1 >>> ((1 : Int32) &&& 31)))], [], (hp tx pg rd e (d.1, d.2.1, d.2.2.1, upd d.2.2.2.1 (x1 >>> ((1 : Int32) &&& 31)).toNatClampNeg x2, d.2.2.2.2.1, d.2.2.2.2.2) sw))) 5 (fun _ => rfl) hc ?_
      cases h
      exact am_Ev.done 1 rfl
theorem ev_D_markOf_A {n0 : Nat} {tx : SB} {pg : SB} {rd : SR} {e : SD} {sw : Bool} {x1 : Int32} {d : SD} {res : Int32} (h : fn_D_markOf x1 d = some res) : am_run cPT cML (n0 + 1) 31 [.ref 13, .int x1] (hp tx pg rd d e sw) = some (some (.int res), (hp tx pg rd d e sw)) := by
  refine am_run_of (d := n0 + 0) rfl ?_
  show am_Ev (tb_D_markOf (am_run cPT cML (n0 + 0))) (0, [(0, .ref 13), (1, .int x1)], [], (hp tx pg rd d e sw)) (some (.int res), (hp tx pg rd d e sw))
  unfold fn_D_markOf at h
  refine am_Ev.fork (b := decide ((x1 >>> ((1 : Int32) &&& 31)) < 0)) (s1 := (26, [(0, .ref 13), (1, .int x1), (2, .int (x1 >>> ((1 : Int32) &&& 31)))], [], (hp tx pg rd d e sw))) (s2 := (8, [(0, .ref 13), (1, .int x1), (2, .int (x1 >>> ((1 : Int32) &&& 31)))], [], (hp tx pg rd d e sw))) 6 (fun _ => rfl) (fun hc => ?_) (fun hc => ?_)
  · have h := (am_ift hc).symm.trans h
    cases h
    exact am_Ev.done 2 rfl
  · have h := (am_iff hc).symm.trans h
    refine am_Ev.fork (b := decide ((100 : Int32) ≤ (x1 >>> ((1 : Int32) &&& 31)))) (s1 := (26, [(0, .ref 13), (1, .int x1), (2, .int (x1 >>> ((1 : Int32) &&& 31)))], [], (hp tx pg rd d e sw))) (s2 := (17, [(0, .ref 13), (1, .int x1), (2, .int (x1 >>> ((1 : Int32) &&& 31)))], [], (hp tx pg rd d e sw))) 5 (fun _ => rfl) (fun hc => ?_) (fun hc => ?_)
    · have h := (am_ift hc).symm.trans h
      cases h
      exact am_Ev.done 2 rfl
    · have h := (am_iff hc).symm.trans h
      obtain ⟨hc, h⟩ := am_ifn h
      refine am_Ev.guard (b := decide (0 ≤ (x1 >>> ((1 : Int32) &&& 31)).toInt ∧ (x1 >>> ((1 : Int32) &&& 31)).toInt < (100 : Int))) (s1 := (23, [(0, .ref 13), (1, .int x1), (2, .int (x1 >>> ((1 : Int32) &&& 31)))], [.int (d.2.2.2.1 ((x1 >>> ((1 : Int32) &&& 31)).toNatClampNeg))], (hp tx pg rd d e sw))) 4 (fun _ => rfl) hc ?_
      cases h
      exact am_Ev.done 2 rfl
theorem ev_D_markOf_B {n0 : Nat} {tx : SB} {pg : SB} {rd : SR} {e : SD} {sw : Bool} {x1 : Int32} {d : SD} {res : Int32} (h : fn_D_markOf x1 d = some res) : am_run cPT cML (n0 + 1) 31 [.ref 26, .int x1] (hp tx pg rd e d sw) = some (some (.int res), (hp tx pg rd e d sw)) := by
  refine am_run_of (d := n0 + 0) rfl ?_
  show am_Ev (tb_D_markOf (am_run cPT cML (n0 + 0))) (0, [(0, .ref 26), (1, .int x1)], [], (hp tx pg rd e d sw)) (some (.int res), (hp tx pg rd e d sw))
  unfold fn_D_markOf at h
  refine am_Ev.fork (b := decide ((x1 >>> ((1 : Int32) &&& 31)) < 0)) (s1 := (26, [(0, .ref 26), (1, .int x1), (2, .int (x1 >>> ((1 : Int32) &&& 31)))], [], (hp tx pg rd e d sw))) (s2 := (8, [(0, .ref 26), (1, .int x1), (2, .int (x1 >>> ((1 : Int32) &&& 31)))], [], (hp tx pg rd e d sw))) 6 (fun _ => rfl) (fun hc => ?_) (fun hc => ?_)
  · have h := (am_ift hc).symm.trans h
    cases h
    exact am_Ev.done 2 rfl
  · have h := (am_iff hc).symm.trans h
    refine am_Ev.fork (b := decide ((100 : Int32) ≤ (x1 >>> ((1 : Int32) &&& 31)))) (s1 := (26, [(0, .ref 26), (1, .int x1), (2, .int (x1 >>> ((1 : Int32) &&& 31)))], [], (hp tx pg rd e d sw))) (s2 := (17, [(0, .ref 26), (1, .int x1), (2, .int (x1 >>> ((1 : Int32) &&& 31)))], [], (hp tx pg rd e d sw))) 5 (fun _ => rfl) (fun hc => ?_) (fun hc => ?_)
    · have h := (am_ift hc).symm.trans h
      cases h
      exact am_Ev.done 2 rfl
    · have h := (am_iff hc).symm.trans h
      obtain ⟨hc, h⟩ := am_ifn h
      refine am_Ev.guard (b := decide (0 ≤ (x1 >>> ((1 : Int32) &&& 31)).toInt ∧ (x1 >>> ((1 : Int32) &&& 31)).toInt < (100 : Int))) (s1 := (23, [(0, .ref 26), (1, .int x1), (2, .int (x1 >>> ((1 : Int32) &&& 31)))], [.int (d.2.2.2.1 ((x1 >>> ((1 : Int32) &&& 31)).toNatClampNeg))], (hp tx pg rd e d sw))) 4 (fun _ => rfl) hc ?_
      cases h
      exact am_Ev.done 2 rfl
theorem ev_R_gateBit_v {n0 : Nat} {tx : SB} {pg : SB} {a : SD} {b : SD} {sw : Bool} {x1 : Int32} {rd : SR} {res : Int64} (h : fn_R_gateBit x1 rd = some res) : am_run cPT cML (n0 + 1) 51 [.ref 5, .int x1] (hp tx pg rd a b sw) = some (some (.long res), (hp tx pg rd a b sw)) := by
  refine am_run_of (d := n0 + 0) rfl ?_
  show am_Ev (tb_R_gateBit (am_run cPT cML (n0 + 0))) (0, [(0, .ref 5), (1, .int x1)], [], (hp tx pg rd a b sw)) (some (.long res), (hp tx pg rd a b sw))
  unfold fn_R_gateBit at h
  refine am_Ev.fork (b := decide ((x1 >>> ((1 : Int32) &&& 31)) < 0)) (s1 := (26, [(0, .ref 5), (1, .int x1), (2, .int (x1 >>> ((1 : Int32) &&& 31)))], [], (hp tx pg rd a b sw))) (s2 := (8, [(0, .ref 5), (1, .int x1), (2, .int (x1 >>> ((1 : Int32) &&& 31)))], [], (hp tx pg rd a b sw))) 6 (fun _ => rfl) (fun hc => ?_) (fun hc => ?_)
  · have h := (am_ift hc).symm.trans h
    cases h
    exact am_Ev.done 2 rfl
  · have h := (am_iff hc).symm.trans h
    refine am_Ev.fork (b := decide ((100 : Int32) ≤ (x1 >>> ((1 : Int32) &&& 31)))) (s1 := (26, [(0, .ref 5), (1, .int x1), (2, .int (x1 >>> ((1 : Int32) &&& 31)))], [], (hp tx pg rd a b sw))) (s2 := (17, [(0, .ref 5), (1, .int x1), (2, .int (x1 >>> ((1 : Int32) &&& 31)))], [], (hp tx pg rd a b sw))) 5 (fun _ => rfl) (fun hc => ?_) (fun hc => ?_)
    · have h := (am_ift hc).symm.trans h
      cases h
      exact am_Ev.done 2 rfl
    · have h := (am_iff hc).symm.trans h
      obtain ⟨hc, h⟩ := am_ifn h
      refine am_Ev.guard (b := decide (0 ≤ (x1 >>> ((1 : Int32) &&& 31)).toInt ∧ (x1 >>> ((1 : Int32) &&& 31)).toInt < (100 : Int))) (s1 := (23, [(0, .ref 5), (1, .int x1), (2, .int (x1 >>> ((1 : Int32) &&& 31)))], [.long (rd.2.2.2.2.1 ((x1 >>> ((1 : Int32) &&& 31)).toNatClampNeg))], (hp tx pg rd a b sw))) 4 (fun _ => rfl) hc ?_
      cases h
      exact am_Ev.done 2 rfl
theorem ev_R_isDigit_v {n0 : Nat} {tx : SB} {pg : SB} {rd : SR} {a : SD} {b : SD} {sw : Bool} {x0 : Int32} {res : Int32} (h : fn_R_isDigit x0 = some res) : am_run cPT cML (n0 + 1) 57 [.int x0] (hp tx pg rd a b sw) = some (some (.int res), (hp tx pg rd a b sw)) := by
  refine am_run_of (d := n0 + 0) rfl ?_
  show am_Ev (tb_R_isDigit (am_run cPT cML (n0 + 0))) (0, [(0, .int x0)], [], (hp tx pg rd a b sw)) (some (.int res), (hp tx pg rd a b sw))
  unfold fn_R_isDigit at h
  refine am_Ev.fork (b := decide (x0 < (48 : Int32))) (s1 := (16, [(0, .int x0)], [], (hp tx pg rd a b sw))) (s2 := (6, [(0, .int x0)], [], (hp tx pg rd a b sw))) 3 (fun _ => rfl) (fun hc => ?_) (fun hc => ?_)
  · have h := (am_ift hc).symm.trans h
    cases h
    exact am_Ev.done 2 rfl
  · have h := (am_iff hc).symm.trans h
    refine am_Ev.fork (b := decide ((57 : Int32) < x0)) (s1 := (16, [(0, .int x0)], [], (hp tx pg rd a b sw))) (s2 := (12, [(0, .int x0)], [], (hp tx pg rd a b sw))) 3 (fun _ => rfl) (fun hc => ?_) (fun hc => ?_)
    · have h := (am_ift hc).symm.trans h
      cases h
      exact am_Ev.done 2 rfl
    · have h := (am_iff hc).symm.trans h
      cases h
      exact am_Ev.done 3 rfl
theorem ev_R_fail_v {n0 : Nat} {tx : SB} {pg : SB} {a : SD} {b : SD} {sw : Bool} {x1 : Int32} {rd : SR} {res : SR} (h : fn_R_fail x1 rd = some res) : am_run cPT cML (n0 + 1) 60 [.ref 5, .int x1] (hp tx pg rd a b sw) = some (none, (hp tx pg res a b sw)) := by
  refine am_run_of (d := n0 + 0) rfl ?_
  show am_Ev (tb_R_fail (am_run cPT cML (n0 + 0))) (0, [(0, .ref 5), (1, .int x1)], [], (hp tx pg rd a b sw)) (none, (hp tx pg res a b sw))
  unfold fn_R_fail at h
  refine am_Ev.fork (b := decide (rd.2.2.2.2.2.2.2.2 = (-1 : Int32))) (s1 := (8, [(0, .ref 5), (1, .int x1)], [], (hp tx pg rd a b sw))) (s2 := (13, [(0, .ref 5), (1, .int x1)], [], (hp tx pg rd a b sw))) 4 (fun _ => rfl) (fun hc => ?_) (fun hc => ?_)
  · have h := (am_ift hc).symm.trans h
    cases h
    exact am_Ev.done 4 rfl
  · have h := (am_iff hc).symm.trans h
    cases h
    exact am_Ev.done 1 rfl
theorem ev_T_exchange_A {n0 : Nat} {tx : SB} {pg : SB} {rd : SR} {d : SD} {e : SD} {res : Unit} (h : fn_T_exchange = some res) : am_run cPT cML (n0 + 1) 67 [.ref 0] (hp tx pg rd d e false) = some (none, (hp tx pg rd d e true)) := by
  refine am_run_of (d := n0 + 0) rfl ?_
  show am_Ev (tb_T_exchange (am_run cPT cML (n0 + 0))) (0, [(0, .ref 0)], [], (hp tx pg rd d e false)) (none, (hp tx pg rd d e true))
  unfold fn_T_exchange at h
  cases h
  exact am_Ev.done 11 rfl
theorem ev_T_exchange_B {n0 : Nat} {tx : SB} {pg : SB} {rd : SR} {e : SD} {d : SD} {res : Unit} (h : fn_T_exchange = some res) : am_run cPT cML (n0 + 1) 67 [.ref 0] (hp tx pg rd e d true) = some (none, (hp tx pg rd e d false)) := by
  refine am_run_of (d := n0 + 0) rfl ?_
  show am_Ev (tb_T_exchange (am_run cPT cML (n0 + 0))) (0, [(0, .ref 0)], [], (hp tx pg rd e d true)) (none, (hp tx pg rd e d false))
  unfold fn_T_exchange at h
  cases h
  exact am_Ev.done 11 rfl
theorem ev_D_holds_A {n0 : Nat} {tx : SB} {pg : SB} {rd : SR} {e : SD} {sw : Bool} {x1 : Int32} {x2 : Int32} {d : SD} {res : Int32} (h : fn_D_holds x1 x2 d = some res) : am_run cPT cML (n0 + 2) 9 [.ref 13, .int x1, .int x2] (hp tx pg rd d e sw) = some (some (.int res), (hp tx pg rd d e sw)) := by
  refine am_run_of (d := n0 + 1) rfl ?_
  show am_Ev (tb_D_holds (am_run cPT cML (n0 + 1))) (0, [(0, .ref 13), (1, .int x1), (2, .int x2)], [], (hp tx pg rd d e sw)) (some (.int res), (hp tx pg rd d e sw))
  unfold fn_D_holds at h
  refine am_Ev.fork (b := decide (x2 < 0)) (s1 := (17, [(0, .ref 13), (1, .int x1), (2, .int x2)], [], (hp tx pg rd d e sw))) (s2 := (4, [(0, .ref 13), (1, .int x1), (2, .int x2)], [], (hp tx pg rd d e sw))) 2 (fun _ => rfl) (fun hc => ?_) (fun hc => ?_)
  · have h := (am_ift hc).symm.trans h
    cases h
    exact am_Ev.done 2 rfl
  · have h := (am_iff hc).symm.trans h
    obtain ⟨q1, hq, h⟩ := Option.bind_eq_some_iff.mp h
    refine am_Ev.go 3 (st' := (7, [(0, .ref 13), (1, .int x1), (2, .int x2)], [.int x1, .ref 13, .int x2], (hp tx pg rd d e sw))) (fun _ => rfl) ?_
    refine am_Ev.call (o := am_run cPT cML (n0 + 1) 7 [.ref 13, .int x1] (hp tx pg rd d e sw)) (kk := fun q => (10, [(0, .ref 13), (1, .int x1), (2, .int x2)], q.1.toList ++ [.int x2], q.2)) (q := (some (.int q1), (hp tx pg rd d e sw))) 1 (fun _ => rfl) (ev_D_many_A hq) ?_
    refine am_Ev.fork (b := decide (q1 ≤ x2)) (s1 := (17, [(0, .ref 13), (1, .int x1), (2, .int x2)], [], (hp tx pg rd d e sw))) (s2 := (13, [(0, .ref 13), (1, .int x1), (2, .int x2)], [], (hp tx pg rd d e sw))) 1 (fun _ => rfl) (fun hc => ?_) (fun hc => ?_)
    · have h := (am_ift hc).symm.trans h
      cases h
      exact am_Ev.done 2 rfl
    · have h := (am_iff hc).symm.trans h
      cases h
      exact am_Ev.done 3 rfl
theorem ev_D_holds_B {n0 : Nat} {tx : SB} {pg : SB} {rd : SR} {e : SD} {sw : Bool} {x1 : Int32} {x2 : Int32} {d : SD} {res : Int32} (h : fn_D_holds x1 x2 d = some res) : am_run cPT cML (n0 + 2) 9 [.ref 26, .int x1, .int x2] (hp tx pg rd e d sw) = some (some (.int res), (hp tx pg rd e d sw)) := by
  refine am_run_of (d := n0 + 1) rfl ?_
  show am_Ev (tb_D_holds (am_run cPT cML (n0 + 1))) (0, [(0, .ref 26), (1, .int x1), (2, .int x2)], [], (hp tx pg rd e d sw)) (some (.int res), (hp tx pg rd e d sw))
  unfold fn_D_holds at h
  refine am_Ev.fork (b := decide (x2 < 0)) (s1 := (17, [(0, .ref 26), (1, .int x1), (2, .int x2)], [], (hp tx pg rd e d sw))) (s2 := (4, [(0, .ref 26), (1, .int x1), (2, .int x2)], [], (hp tx pg rd e d sw))) 2 (fun _ => rfl) (fun hc => ?_) (fun hc => ?_)
  · have h := (am_ift hc).symm.trans h
    cases h
    exact am_Ev.done 2 rfl
  · have h := (am_iff hc).symm.trans h
    obtain ⟨q1, hq, h⟩ := Option.bind_eq_some_iff.mp h
    refine am_Ev.go 3 (st' := (7, [(0, .ref 26), (1, .int x1), (2, .int x2)], [.int x1, .ref 26, .int x2], (hp tx pg rd e d sw))) (fun _ => rfl) ?_
    refine am_Ev.call (o := am_run cPT cML (n0 + 1) 7 [.ref 26, .int x1] (hp tx pg rd e d sw)) (kk := fun q => (10, [(0, .ref 26), (1, .int x1), (2, .int x2)], q.1.toList ++ [.int x2], q.2)) (q := (some (.int q1), (hp tx pg rd e d sw))) 1 (fun _ => rfl) (ev_D_many_B hq) ?_
    refine am_Ev.fork (b := decide (q1 ≤ x2)) (s1 := (17, [(0, .ref 26), (1, .int x1), (2, .int x2)], [], (hp tx pg rd e d sw))) (s2 := (13, [(0, .ref 26), (1, .int x1), (2, .int x2)], [], (hp tx pg rd e d sw))) 1 (fun _ => rfl) (fun hc => ?_) (fun hc => ?_)
    · have h := (am_ift hc).symm.trans h
      cases h
      exact am_Ev.done 2 rfl
    · have h := (am_iff hc).symm.trans h
      cases h
      exact am_Ev.done 3 rfl
theorem ev_D_restart_4_A {n0 : Nat} {tx : SB} {pg : SB} {rd : SR} {e : SD} {sw : Bool} {κ : Int32 → SD → Option (SD)} (hκ : ∀ (x1 : Int32) (d : SD) (res : SD), κ x1 d = some res → am_Ev (tb_D_restart (am_run cPT cML (n0 + 1))) (30, [(0, .ref 13), (1, .int x1)], [], (hp tx pg rd d e sw)) (none, (hp tx pg rd res e sw))) : ∀ (n : Nat) (x1 : Int32) (x2 : Int32) (d : SD) (res : SD), fn_D_restart_4 κ n x1 x2 d = some res → am_Ev (tb_D_restart (am_run cPT cML (n0 + 1))) (4, [(0, .ref 13), (1, .int x1), (2, .int x2)], [], (hp tx pg rd d e sw)) (none, (hp tx pg rd res e sw)) := by
  intro n
  induction n with
  | zero => intro x1 x2 d res h; unfold fn_D_restart_4 at h; cases h
  | succ n ih =>
    intro x1 x2 d res h
    unfold fn_D_restart_4 at h
    obtain ⟨q1, hq, h⟩ := Option.bind_eq_some_iff.mp h
    refine am_Ev.go 3 (st' := (7, [(0, .ref 13), (1, .int x1), (2, .int x2)], [.int 1, .ref 13, .int x2], (hp tx pg rd d e sw))) (fun _ => rfl) ?_
    refine am_Ev.call (o := am_run cPT cML (n0 + 1) 7 [.ref 13, .int 1] (hp tx pg rd d e sw)) (kk := fun q => (10, [(0, .ref 13), (1, .int x1), (2, .int x2)], q.1.toList ++ [.int x2], q.2)) (q := (some (.int q1), (hp tx pg rd d e sw))) 1 (fun _ => rfl) (ev_D_many_A hq) ?_
    refine am_Ev.fork (b := decide (q1 ≤ x2)) (s1 := (30, [(0, .ref 13), (1, .int x1), (2, .int x2)], [], (hp tx pg rd d e sw))) (s2 := (13, [(0, .ref 13), (1, .int x1), (2, .int x2)], [], (hp tx pg rd d e sw))) 1 (fun _ => rfl) (fun hc => ?_) (fun hc => ?_)
    · have h := (am_ift hc).symm.trans h
      refine am_Ev.same (st' := (30, [(0, .ref 13), (1, .int x1)], [], (hp tx pg rd d e sw))) (fun _ => rfl) ?_
      exact hκ _ _ _ h
    · have h := (am_iff hc).symm.trans h
      obtain ⟨q2, hq, h⟩ := Option.bind_eq_some_iff.mp h
      refine am_Ev.go 4 (st' := (17, [(0, .ref 13), (1, .int x1), (2, .int x2)], [.int x2, .int 5, .ref 13, .int x1], (hp tx pg rd d e sw))) (fun _ => rfl) ?_
      refine am_Ev.call (o := am_run cPT cML (n0 + 1) 10 [.ref 13, .int 5, .int x2] (hp tx pg rd d e sw)) (kk := fun q => (20, [(0, .ref 13), (1, .int x1), (2, .int x2)], q.1.toList ++ [.int x1], q.2)) (q := (some (.int q2), (hp tx pg rd d e sw))) 1 (fun _ => rfl) (ev_D_get_A hq) ?_
      refine am_Ev.go 6 (st' := (4, [(0, .ref 13), (1, .int (x1 ||| (q2 <<< (x2 &&& 31)))), (2, .int (x2 + 1))], [], (hp tx pg rd d e sw))) (fun _ => rfl) ?_
      exact ih _ _ _ _ h
theorem ev_D_restart_A {n0 : Nat} {tx : SB} {pg : SB} {rd : SR} {e : SD} {sw : Bool} {d : SD} {res : SD} (h : fn_D_restart d = some res) : am_run cPT cML (n0 + 2) 12 [.ref 13] (hp tx pg rd d e sw) = some (none, (hp tx pg rd res e sw)) := by
  refine am_run_of (d := n0 + 1) rfl ?_
  show am_Ev (tb_D_restart (am_run cPT cML (n0 + 1))) (0, [(0, .ref 13)], [], (hp tx pg rd d e sw)) (none, (hp tx pg rd res e sw))
  unfold fn_D_restart at h
  refine am_Ev.go 4 (st' := (4, [(0, .ref 13), (1, .int 0), (2, .int 0)], [], (hp tx pg rd d e sw))) (fun _ => rfl) ?_
  refine ev_D_restart_4_A ?_ _ _ _ _ _ h
  intro x1_4 d_4 res h
  try dsimp only at h
  cases h
  exact am_Ev.done 4 rfl
theorem ev_D_restart_4_B {n0 : Nat} {tx : SB} {pg : SB} {rd : SR} {e : SD} {sw : Bool} {κ : Int32 → SD → Option (SD)} (hκ : ∀ (x1 : Int32) (d : SD) (res : SD), κ x1 d = some res → am_Ev (tb_D_restart (am_run cPT cML (n0 + 1))) (30, [(0, .ref 26), (1, .int x1)], [], (hp tx pg rd e d sw)) (none, (hp tx pg rd e res sw))) : ∀ (n : Nat) (x1 : Int32) (x2 : Int32) (d : SD) (res : SD), fn_D_restart_4 κ n x1 x2 d = some res → am_Ev (tb_D_restart (am_run cPT cML (n0 + 1))) (4, [(0, .ref 26), (1, .int x1), (2, .int x2)], [], (hp tx pg rd e d sw)) (none, (hp tx pg rd e res sw)) := by
  intro n
  induction n with
  | zero => intro x1 x2 d res h; unfold fn_D_restart_4 at h; cases h
  | succ n ih =>
    intro x1 x2 d res h
    unfold fn_D_restart_4 at h
    obtain ⟨q1, hq, h⟩ := Option.bind_eq_some_iff.mp h
    refine am_Ev.go 3 (st' := (7, [(0, .ref 26), (1, .int x1), (2, .int x2)], [.int 1, .ref 26, .int x2], (hp tx pg rd e d sw))) (fun _ => rfl) ?_
    refine am_Ev.call (o := am_run cPT cML (n0 + 1) 7 [.ref 26, .int 1] (hp tx pg rd e d sw)) (kk := fun q => (10, [(0, .ref 26), (1, .int x1), (2, .int x2)], q.1.toList ++ [.int x2], q.2)) (q := (some (.int q1), (hp tx pg rd e d sw))) 1 (fun _ => rfl) (ev_D_many_B hq) ?_
    refine am_Ev.fork (b := decide (q1 ≤ x2)) (s1 := (30, [(0, .ref 26), (1, .int x1), (2, .int x2)], [], (hp tx pg rd e d sw))) (s2 := (13, [(0, .ref 26), (1, .int x1), (2, .int x2)], [], (hp tx pg rd e d sw))) 1 (fun _ => rfl) (fun hc => ?_) (fun hc => ?_)
    · have h := (am_ift hc).symm.trans h
      refine am_Ev.same (st' := (30, [(0, .ref 26), (1, .int x1)], [], (hp tx pg rd e d sw))) (fun _ => rfl) ?_
      exact hκ _ _ _ h
    · have h := (am_iff hc).symm.trans h
      obtain ⟨q2, hq, h⟩ := Option.bind_eq_some_iff.mp h
      refine am_Ev.go 4 (st' := (17, [(0, .ref 26), (1, .int x1), (2, .int x2)], [.int x2, .int 5, .ref 26, .int x1], (hp tx pg rd e d sw))) (fun _ => rfl) ?_
      refine am_Ev.call (o := am_run cPT cML (n0 + 1) 10 [.ref 26, .int 5, .int x2] (hp tx pg rd e d sw)) (kk := fun q => (20, [(0, .ref 26), (1, .int x1), (2, .int x2)], q.1.toList ++ [.int x1], q.2)) (q := (some (.int q2), (hp tx pg rd e d sw))) 1 (fun _ => rfl) (ev_D_get_B hq) ?_
      refine am_Ev.go 6 (st' := (4, [(0, .ref 26), (1, .int (x1 ||| (q2 <<< (x2 &&& 31)))), (2, .int (x2 + 1))], [], (hp tx pg rd e d sw))) (fun _ => rfl) ?_
      exact ih _ _ _ _ h
theorem ev_D_restart_B {n0 : Nat} {tx : SB} {pg : SB} {rd : SR} {e : SD} {sw : Bool} {d : SD} {res : SD} (h : fn_D_restart d = some res) : am_run cPT cML (n0 + 2) 12 [.ref 26] (hp tx pg rd e d sw) = some (none, (hp tx pg rd e res sw)) := by
  refine am_run_of (d := n0 + 1) rfl ?_
  show am_Ev (tb_D_restart (am_run cPT cML (n0 + 1))) (0, [(0, .ref 26)], [], (hp tx pg rd e d sw)) (none, (hp tx pg rd e res sw))
  unfold fn_D_restart at h
  refine am_Ev.go 4 (st' := (4, [(0, .ref 26), (1, .int 0), (2, .int 0)], [], (hp tx pg rd e d sw))) (fun _ => rfl) ?_
  refine ev_D_restart_4_B ?_ _ _ _ _ _ h
  intro x1_4 d_4 res h
  try dsimp only at h
  cases h
  exact am_Ev.done 4 rfl
theorem ev_D_countsUp_2_A {n0 : Nat} {tx : SB} {pg : SB} {rd : SR} {e : SD} {sw : Bool} {x1 : Int32} {x2 : Int32} {d : SD} {κ : Option (Int32)} (hκ : ∀ (res : Int32), κ = some res → am_Ev (tb_D_countsUp (am_run cPT cML (n0 + 1))) (35, [], [], (hp tx pg rd d e sw)) (some (.int res), (hp tx pg rd d e sw))) : ∀ (n : Nat) (x3 : Int32) (res : Int32), fn_D_countsUp_2 x1 x2 d κ n x3 = some res → am_Ev (tb_D_countsUp (am_run cPT cML (n0 + 1))) (2, [(0, .ref 13), (1, .int x1), (2, .int x2), (3, .int x3)], [], (hp tx pg rd d e sw)) (some (.int res), (hp tx pg rd d e sw)) := by
  intro n
  induction n with
  | zero => intro x3 res h; unfold fn_D_countsUp_2 at h; cases h
  | succ n ih =>
    intro x3 res h
    unfold fn_D_countsUp_2 at h
    obtain ⟨q1, hq, h⟩ := Option.bind_eq_some_iff.mp h
    refine am_Ev.go 3 (st' := (5, [(0, .ref 13), (1, .int x1), (2, .int x2), (3, .int x3)], [.int x1, .ref 13, .int x3], (hp tx pg rd d e sw))) (fun _ => rfl) ?_
    refine am_Ev.call (o := am_run cPT cML (n0 + 1) 7 [.ref 13, .int x1] (hp tx pg rd d e sw)) (kk := fun q => (8, [(0, .ref 13), (1, .int x1), (2, .int x2), (3, .int x3)], q.1.toList ++ [.int x3], q.2)) (q := (some (.int q1), (hp tx pg rd d e sw))) 1 (fun _ => rfl) (ev_D_many_A hq) ?_
    refine am_Ev.fork (b := decide (q1 ≤ x3)) (s1 := (35, [(0, .ref 13), (1, .int x1), (2, .int x2), (3, .int x3)], [], (hp tx pg rd d e sw))) (s2 := (11, [(0, .ref 13), (1, .int x1), (2, .int x2), (3, .int x3)], [], (hp tx pg rd d e sw))) 1 (fun _ => rfl) (fun hc => ?_) (fun hc => ?_)
    · have h := (am_ift hc).symm.trans h
      refine am_Ev.same (st' := (35, [], [], (hp tx pg rd d e sw))) (fun _ => rfl) ?_
      exact hκ _ h
    · have h := (am_iff hc).symm.trans h
      obtain ⟨q2, hq, h⟩ := Option.bind_eq_some_iff.mp h
      refine am_Ev.go 3 (st' := (14, [(0, .ref 13), (1, .int x1), (2, .int x2), (3, .int x3)], [.int x3, .int x1, .ref 13], (hp tx pg rd d e sw))) (fun _ => rfl) ?_
      refine am_Ev.call (o := am_run cPT cML (n0 + 1) 10 [.ref 13, .int x1, .int x3] (hp tx pg rd d e sw)) (kk := fun q => (17, [(0, .ref 13), (1, .int x1), (2, .int x2), (3, .int x3)], q.1.toList ++ [], q.2)) (q := (some (.int q2), (hp tx pg rd d e sw))) 1 (fun _ => rfl) (ev_D_get_A hq) ?_
      refine am_Ev.fork (b := decide (q2 = ((2 : Int32) * ((x2 + x3) + (1 : Int32))))) (s1 := (29, [(0, .ref 13), (1, .int x1), (2, .int x2), (3, .int x3)], [], (hp tx pg rd d e sw))) (s2 := (27, [(0, .ref 13), (1, .int x1), (2, .int x2), (3, .int x3)], [], (hp tx pg rd d e sw))) 8 (fun _ => rfl) (fun hc => ?_) (fun hc => ?_)
      · have h := (am_ift hc).symm.trans h
        refine am_Ev.go 2 (st' := (2, [(0, .ref 13), (1, .int x1), (2, .int x2), (3, .int (x3 + 1))], [], (hp tx pg rd d e sw))) (fun _ => rfl) ?_
        exact ih _ _ h
      · have h := (am_iff hc).symm.trans h
        cases h
        exact am_Ev.done 2 rfl
theorem ev_D_countsUp_A {n0 : Nat} {tx : SB} {pg : SB} {rd : SR} {e : SD} {sw : Bool} {x1 : Int32} {x2 : Int32} {d : SD} {res : Int32} (h : fn_D_countsUp x1 x2 d = some res) : am_run cPT cML (n0 + 2) 14 [.ref 13, .int x1, .int x2] (hp tx pg rd d e sw) = some (some (.int res), (hp tx pg rd d e sw)) := by
  refine am_run_of (d := n0 + 1) rfl ?_
  show am_Ev (tb_D_countsUp (am_run cPT cML (n0 + 1))) (0, [(0, .ref 13), (1, .int x1), (2, .int x2)], [], (hp tx pg rd d e sw)) (some (.int res), (hp tx pg rd d e sw))
  unfold fn_D_countsUp at h
  refine am_Ev.go 2 (st' := (2, [(0, .ref 13), (1, .int x1), (2, .int x2), (3, .int 0)], [], (hp tx pg rd d e sw))) (fun _ => rfl) ?_
  refine ev_D_countsUp_2_A ?_ _ _ _ h
  intro res h
  try dsimp only at h
  cases h
  exact am_Ev.done 2 rfl
theorem ev_D_countsUp_2_B {n0 : Nat} {tx : SB} {pg : SB} {rd : SR} {e : SD} {sw : Bool} {x1 : Int32} {x2 : Int32} {d : SD} {κ : Option (Int32)} (hκ : ∀ (res : Int32), κ = some res → am_Ev (tb_D_countsUp (am_run cPT cML (n0 + 1))) (35, [], [], (hp tx pg rd e d sw)) (some (.int res), (hp tx pg rd e d sw))) : ∀ (n : Nat) (x3 : Int32) (res : Int32), fn_D_countsUp_2 x1 x2 d κ n x3 = some res → am_Ev (tb_D_countsUp (am_run cPT cML (n0 + 1))) (2, [(0, .ref 26), (1, .int x1), (2, .int x2), (3, .int x3)], [], (hp tx pg rd e d sw)) (some (.int res), (hp tx pg rd e d sw)) := by
  intro n
  induction n with
  | zero => intro x3 res h; unfold fn_D_countsUp_2 at h; cases h
  | succ n ih =>
    intro x3 res h
    unfold fn_D_countsUp_2 at h
    obtain ⟨q1, hq, h⟩ := Option.bind_eq_some_iff.mp h
    refine am_Ev.go 3 (st' := (5, [(0, .ref 26), (1, .int x1), (2, .int x2), (3, .int x3)], [.int x1, .ref 26, .int x3], (hp tx pg rd e d sw))) (fun _ => rfl) ?_
    refine am_Ev.call (o := am_run cPT cML (n0 + 1) 7 [.ref 26, .int x1] (hp tx pg rd e d sw)) (kk := fun q => (8, [(0, .ref 26), (1, .int x1), (2, .int x2), (3, .int x3)], q.1.toList ++ [.int x3], q.2)) (q := (some (.int q1), (hp tx pg rd e d sw))) 1 (fun _ => rfl) (ev_D_many_B hq) ?_
    refine am_Ev.fork (b := decide (q1 ≤ x3)) (s1 := (35, [(0, .ref 26), (1, .int x1), (2, .int x2), (3, .int x3)], [], (hp tx pg rd e d sw))) (s2 := (11, [(0, .ref 26), (1, .int x1), (2, .int x2), (3, .int x3)], [], (hp tx pg rd e d sw))) 1 (fun _ => rfl) (fun hc => ?_) (fun hc => ?_)
    · have h := (am_ift hc).symm.trans h
      refine am_Ev.same (st' := (35, [], [], (hp tx pg rd e d sw))) (fun _ => rfl) ?_
      exact hκ _ h
    · have h := (am_iff hc).symm.trans h
      obtain ⟨q2, hq, h⟩ := Option.bind_eq_some_iff.mp h
      refine am_Ev.go 3 (st' := (14, [(0, .ref 26), (1, .int x1), (2, .int x2), (3, .int x3)], [.int x3, .int x1, .ref 26], (hp tx pg rd e d sw))) (fun _ => rfl) ?_
      refine am_Ev.call (o := am_run cPT cML (n0 + 1) 10 [.ref 26, .int x1, .int x3] (hp tx pg rd e d sw)) (kk := fun q => (17, [(0, .ref 26), (1, .int x1), (2, .int x2), (3, .int x3)], q.1.toList ++ [], q.2)) (q := (some (.int q2), (hp tx pg rd e d sw))) 1 (fun _ => rfl) (ev_D_get_B hq) ?_
      refine am_Ev.fork (b := decide (q2 = ((2 : Int32) * ((x2 + x3) + (1 : Int32))))) (s1 := (29, [(0, .ref 26), (1, .int x1), (2, .int x2), (3, .int x3)], [], (hp tx pg rd e d sw))) (s2 := (27, [(0, .ref 26), (1, .int x1), (2, .int x2), (3, .int x3)], [], (hp tx pg rd e d sw))) 8 (fun _ => rfl) (fun hc => ?_) (fun hc => ?_)
      · have h := (am_ift hc).symm.trans h
        refine am_Ev.go 2 (st' := (2, [(0, .ref 26), (1, .int x1), (2, .int x2), (3, .int (x3 + 1))], [], (hp tx pg rd e d sw))) (fun _ => rfl) ?_
        exact ih _ _ h
      · have h := (am_iff hc).symm.trans h
        cases h
        exact am_Ev.done 2 rfl
theorem ev_D_countsUp_B {n0 : Nat} {tx : SB} {pg : SB} {rd : SR} {e : SD} {sw : Bool} {x1 : Int32} {x2 : Int32} {d : SD} {res : Int32} (h : fn_D_countsUp x1 x2 d = some res) : am_run cPT cML (n0 + 2) 14 [.ref 26, .int x1, .int x2] (hp tx pg rd e d sw) = some (some (.int res), (hp tx pg rd e d sw)) := by
  refine am_run_of (d := n0 + 1) rfl ?_
  show am_Ev (tb_D_countsUp (am_run cPT cML (n0 + 1))) (0, [(0, .ref 26), (1, .int x1), (2, .int x2)], [], (hp tx pg rd e d sw)) (some (.int res), (hp tx pg rd e d sw))
  unfold fn_D_countsUp at h
  refine am_Ev.go 2 (st' := (2, [(0, .ref 26), (1, .int x1), (2, .int x2), (3, .int 0)], [], (hp tx pg rd e d sw))) (fun _ => rfl) ?_
  refine ev_D_countsUp_2_B ?_ _ _ _ h
  intro res h
  try dsimp only at h
  cases h
  exact am_Ev.done 2 rfl
theorem ev_D_gatesLookBack_2_A {n0 : Nat} {tx : SB} {pg : SB} {rd : SR} {e : SD} {sw : Bool} {d : SD} {κ : Option (Int32)} (hκ : ∀ (res : Int32), κ = some res → am_Ev (tb_D_gatesLookBack (am_run cPT cML (n0 + 1))) (48, [], [], (hp tx pg rd d e sw)) (some (.int res), (hp tx pg rd d e sw))) : ∀ (n : Nat) (x1 : Int32) (res : Int32), fn_D_gatesLookBack_2 d κ n x1 = some res → am_Ev (tb_D_gatesLookBack (am_run cPT cML (n0 + 1))) (2, [(0, .ref 13), (1, .int x1)], [], (hp tx pg rd d e sw)) (some (.int res), (hp tx pg rd d e sw)) := by
  intro n
  induction n with
  | zero => intro x1 res h; unfold fn_D_gatesLookBack_2 at h; cases h
  | succ n ih =>
    intro x1 res h
    unfold fn_D_gatesLookBack_2 at h
    obtain ⟨q1, hq, h⟩ := Option.bind_eq_some_iff.mp h
    refine am_Ev.go 3 (st' := (5, [(0, .ref 13), (1, .int x1)], [.int 3, .ref 13, .int x1], (hp tx pg rd d e sw))) (fun _ => rfl) ?_
    refine am_Ev.call (o := am_run cPT cML (n0 + 1) 7 [.ref 13, .int 3] (hp tx pg rd d e sw)) (kk := fun q => (8, [(0, .ref 13), (1, .int x1)], q.1.toList ++ [.int x1], q.2)) (q := (some (.int q1), (hp tx pg rd d e sw))) 1 (fun _ => rfl) (ev_D_many_A hq) ?_
    refine am_Ev.fork (b := decide (q1 ≤ x1)) (s1 := (48, [(0, .ref 13), (1, .int x1)], [], (hp tx pg rd d e sw))) (s2 := (11, [(0, .ref 13), (1, .int x1)], [], (hp tx pg rd d e sw))) 1 (fun _ => rfl) (fun hc => ?_) (fun hc => ?_)
    · have h := (am_ift hc).symm.trans h
      refine am_Ev.same (st' := (48, [], [], (hp tx pg rd d e sw))) (fun _ => rfl) ?_
      exact hκ _ h
    · have h := (am_iff hc).symm.trans h
      obtain ⟨q2, hq, h⟩ := Option.bind_eq_some_iff.mp h
      refine am_Ev.go 3 (st' := (15, [(0, .ref 13), (1, .int x1)], [.int x1, .int 6, .ref 13], (hp tx pg rd d e sw))) (fun _ => rfl) ?_
      refine am_Ev.call (o := am_run cPT cML (n0 + 1) 10 [.ref 13, .int 6, .int x1] (hp tx pg rd d e sw)) (kk := fun q => (18, [(0, .ref 13), (1, .int x1)], q.1.toList ++ [], q.2)) (q := (some (.int q2), (hp tx pg rd d e sw))) 1 (fun _ => rfl) (ev_D_get_A hq) ?_
      obtain ⟨q3, hq, h⟩ := Option.bind_eq_some_iff.mp h
      refine am_Ev.go 5 (st' := (23, [(0, .ref 13), (1, .int x1), (2, .int q2)], [.int x1, .int 3, .ref 13, .int q2], (hp tx pg rd d e sw))) (fun _ => rfl) ?_
      refine am_Ev.call (o := am_run cPT cML (n0 + 1) 10 [.ref 13, .int 3, .int x1] (hp tx pg rd d e sw)) (kk := fun q => (26, [(0, .ref 13), (1, .int x1), (2, .int q2)], q.1.toList ++ [.int q2], q.2)) (q := (some (.int q3), (hp tx pg rd d e sw))) 1 (fun _ => rfl) (ev_D_get_A hq) ?_
      refine am_Ev.fork (b := decide (q3 ≤ q2)) (s1 := (40, [(0, .ref 13), (1, .int x1), (2, .int q2)], [], (hp tx pg rd d e sw))) (s2 := (29, [(0, .ref 13), (1, .int x1), (2, .int q2)], [], (hp tx pg rd d e sw))) 1 (fun _ => rfl) (fun hc => ?_) (fun hc => ?_)
      · have h := (am_ift hc).symm.trans h
        cases h
        exact am_Ev.done 2 rfl
      · have h := (am_iff hc).symm.trans h
        obtain ⟨q4, hq, h⟩ := Option.bind_eq_some_iff.mp h
        refine am_Ev.go 4 (st' := (34, [(0, .ref 13), (1, .int x1), (2, .int q2)], [.int x1, .int 7, .ref 13, .int q2], (hp tx pg rd d e sw))) (fun _ => rfl) ?_
        refine am_Ev.call (o := am_run cPT cML (n0 + 1) 10 [.ref 13, .int 7, .int x1] (hp tx pg rd d e sw)) (kk := fun q => (37, [(0, .ref 13), (1, .int x1), (2, .int q2)], q.1.toList ++ [.int q2], q.2)) (q := (some (.int q4), (hp tx pg rd d e sw))) 1 (fun _ => rfl) (ev_D_get_A hq) ?_
        refine am_Ev.fork (b := decide (q4 ≤ q2)) (s1 := (42, [(0, .ref 13), (1, .int x1), (2, .int q2)], [], (hp tx pg rd d e sw))) (s2 := (40, [(0, .ref 13), (1, .int x1), (2, .int q2)], [], (hp tx pg rd d e sw))) 1 (fun _ => rfl) (fun hc => ?_) (fun hc => ?_)
        · have h := (am_ift hc).symm.trans h
          refine am_Ev.go 2 (st' := (2, [(0, .ref 13), (1, .int (x1 + 1)), (2, .int q2)], [], (hp tx pg rd d e sw))) (fun _ => rfl) ?_
          refine am_Ev.same (st' := (2, [(0, .ref 13), (1, .int (x1 + 1))], [], (hp tx pg rd d e sw))) (fun _ => rfl) ?_
          exact ih _ _ h
        · have h := (am_iff hc).symm.trans h
          cases h
          exact am_Ev.done 2 rfl
theorem ev_D_gatesLookBack_A {n0 : Nat} {tx : SB} {pg : SB} {rd : SR} {e : SD} {sw : Bool} {d : SD} {res : Int32} (h : fn_D_gatesLookBack d = some res) : am_run cPT cML (n0 + 2) 15 [.ref 13] (hp tx pg rd d e sw) = some (some (.int res), (hp tx pg rd d e sw)) := by
  refine am_run_of (d := n0 + 1) rfl ?_
  show am_Ev (tb_D_gatesLookBack (am_run cPT cML (n0 + 1))) (0, [(0, .ref 13)], [], (hp tx pg rd d e sw)) (some (.int res), (hp tx pg rd d e sw))
  unfold fn_D_gatesLookBack at h
  refine am_Ev.go 2 (st' := (2, [(0, .ref 13), (1, .int 0)], [], (hp tx pg rd d e sw))) (fun _ => rfl) ?_
  refine ev_D_gatesLookBack_2_A ?_ _ _ _ h
  intro res h
  try dsimp only at h
  cases h
  exact am_Ev.done 2 rfl
theorem ev_D_gatesLookBack_2_B {n0 : Nat} {tx : SB} {pg : SB} {rd : SR} {e : SD} {sw : Bool} {d : SD} {κ : Option (Int32)} (hκ : ∀ (res : Int32), κ = some res → am_Ev (tb_D_gatesLookBack (am_run cPT cML (n0 + 1))) (48, [], [], (hp tx pg rd e d sw)) (some (.int res), (hp tx pg rd e d sw))) : ∀ (n : Nat) (x1 : Int32) (res : Int32), fn_D_gatesLookBack_2 d κ n x1 = some res → am_Ev (tb_D_gatesLookBack (am_run cPT cML (n0 + 1))) (2, [(0, .ref 26), (1, .int x1)], [], (hp tx pg rd e d sw)) (some (.int res), (hp tx pg rd e d sw)) := by
  intro n
  induction n with
  | zero => intro x1 res h; unfold fn_D_gatesLookBack_2 at h; cases h
  | succ n ih =>
    intro x1 res h
    unfold fn_D_gatesLookBack_2 at h
    obtain ⟨q1, hq, h⟩ := Option.bind_eq_some_iff.mp h
    refine am_Ev.go 3 (st' := (5, [(0, .ref 26), (1, .int x1)], [.int 3, .ref 26, .int x1], (hp tx pg rd e d sw))) (fun _ => rfl) ?_
    refine am_Ev.call (o := am_run cPT cML (n0 + 1) 7 [.ref 26, .int 3] (hp tx pg rd e d sw)) (kk := fun q => (8, [(0, .ref 26), (1, .int x1)], q.1.toList ++ [.int x1], q.2)) (q := (some (.int q1), (hp tx pg rd e d sw))) 1 (fun _ => rfl) (ev_D_many_B hq) ?_
    refine am_Ev.fork (b := decide (q1 ≤ x1)) (s1 := (48, [(0, .ref 26), (1, .int x1)], [], (hp tx pg rd e d sw))) (s2 := (11, [(0, .ref 26), (1, .int x1)], [], (hp tx pg rd e d sw))) 1 (fun _ => rfl) (fun hc => ?_) (fun hc => ?_)
    · have h := (am_ift hc).symm.trans h
      refine am_Ev.same (st' := (48, [], [], (hp tx pg rd e d sw))) (fun _ => rfl) ?_
      exact hκ _ h
    · have h := (am_iff hc).symm.trans h
      obtain ⟨q2, hq, h⟩ := Option.bind_eq_some_iff.mp h
      refine am_Ev.go 3 (st' := (15, [(0, .ref 26), (1, .int x1)], [.int x1, .int 6, .ref 26], (hp tx pg rd e d sw))) (fun _ => rfl) ?_
      refine am_Ev.call (o := am_run cPT cML (n0 + 1) 10 [.ref 26, .int 6, .int x1] (hp tx pg rd e d sw)) (kk := fun q => (18, [(0, .ref 26), (1, .int x1)], q.1.toList ++ [], q.2)) (q := (some (.int q2), (hp tx pg rd e d sw))) 1 (fun _ => rfl) (ev_D_get_B hq) ?_
      obtain ⟨q3, hq, h⟩ := Option.bind_eq_some_iff.mp h
      refine am_Ev.go 5 (st' := (23, [(0, .ref 26), (1, .int x1), (2, .int q2)], [.int x1, .int 3, .ref 26, .int q2], (hp tx pg rd e d sw))) (fun _ => rfl) ?_
      refine am_Ev.call (o := am_run cPT cML (n0 + 1) 10 [.ref 26, .int 3, .int x1] (hp tx pg rd e d sw)) (kk := fun q => (26, [(0, .ref 26), (1, .int x1), (2, .int q2)], q.1.toList ++ [.int q2], q.2)) (q := (some (.int q3), (hp tx pg rd e d sw))) 1 (fun _ => rfl) (ev_D_get_B hq) ?_
      refine am_Ev.fork (b := decide (q3 ≤ q2)) (s1 := (40, [(0, .ref 26), (1, .int x1), (2, .int q2)], [], (hp tx pg rd e d sw))) (s2 := (29, [(0, .ref 26), (1, .int x1), (2, .int q2)], [], (hp tx pg rd e d sw))) 1 (fun _ => rfl) (fun hc => ?_) (fun hc => ?_)
      · have h := (am_ift hc).symm.trans h
        cases h
        exact am_Ev.done 2 rfl
      · have h := (am_iff hc).symm.trans h
        obtain ⟨q4, hq, h⟩ := Option.bind_eq_some_iff.mp h
        refine am_Ev.go 4 (st' := (34, [(0, .ref 26), (1, .int x1), (2, .int q2)], [.int x1, .int 7, .ref 26, .int q2], (hp tx pg rd e d sw))) (fun _ => rfl) ?_
        refine am_Ev.call (o := am_run cPT cML (n0 + 1) 10 [.ref 26, .int 7, .int x1] (hp tx pg rd e d sw)) (kk := fun q => (37, [(0, .ref 26), (1, .int x1), (2, .int q2)], q.1.toList ++ [.int q2], q.2)) (q := (some (.int q4), (hp tx pg rd e d sw))) 1 (fun _ => rfl) (ev_D_get_B hq) ?_
        refine am_Ev.fork (b := decide (q4 ≤ q2)) (s1 := (42, [(0, .ref 26), (1, .int x1), (2, .int q2)], [], (hp tx pg rd e d sw))) (s2 := (40, [(0, .ref 26), (1, .int x1), (2, .int q2)], [], (hp tx pg rd e d sw))) 1 (fun _ => rfl) (fun hc => ?_) (fun hc => ?_)
        · have h := (am_ift hc).symm.trans h
          refine am_Ev.go 2 (st' := (2, [(0, .ref 26), (1, .int (x1 + 1)), (2, .int q2)], [], (hp tx pg rd e d sw))) (fun _ => rfl) ?_
          refine am_Ev.same (st' := (2, [(0, .ref 26), (1, .int (x1 + 1))], [], (hp tx pg rd e d sw))) (fun _ => rfl) ?_
          exact ih _ _ h
        · have h := (am_iff hc).symm.trans h
          cases h
          exact am_Ev.done 2 rfl
theorem ev_D_gatesLookBack_B {n0 : Nat} {tx : SB} {pg : SB} {rd : SR} {e : SD} {sw : Bool} {d : SD} {res : Int32} (h : fn_D_gatesLookBack d = some res) : am_run cPT cML (n0 + 2) 15 [.ref 26] (hp tx pg rd e d sw) = some (some (.int res), (hp tx pg rd e d sw)) := by
  refine am_run_of (d := n0 + 1) rfl ?_
  show am_Ev (tb_D_gatesLookBack (am_run cPT cML (n0 + 1))) (0, [(0, .ref 26)], [], (hp tx pg rd e d sw)) (some (.int res), (hp tx pg rd e d sw))
  unfold fn_D_gatesLookBack at h
  refine am_Ev.go 2 (st' := (2, [(0, .ref 26), (1, .int 0)], [], (hp tx pg rd e d sw))) (fun _ => rfl) ?_
  refine ev_D_gatesLookBack_2_B ?_ _ _ _ h
  intro res h
  try dsimp only at h
  cases h
  exact am_Ev.done 2 rfl
theorem ev_D_truth_A {n0 : Nat} {tx : SB} {pg : SB} {rd : SR} {e : SD} {sw : Bool} {x1 : Int32} {d : SD} {res : Int32} (h : fn_D_truth x1 d = some res) : am_run cPT cML (n0 + 2) 18 [.ref 13, .int x1] (hp tx pg rd d e sw) = some (some (.int res), (hp tx pg rd d e sw)) := by
  refine am_run_of (d := n0 + 1) rfl ?_
  show am_Ev (tb_D_truth (am_run cPT cML (n0 + 1))) (0, [(0, .ref 13), (1, .int x1)], [], (hp tx pg rd d e sw)) (some (.int res), (hp tx pg rd d e sw))
  unfold fn_D_truth at h
  obtain ⟨q1, hq, h⟩ := Option.bind_eq_some_iff.mp h
  refine am_Ev.go 2 (st' := (2, [(0, .ref 13), (1, .int x1)], [.int x1, .ref 13], (hp tx pg rd d e sw))) (fun _ => rfl) ?_
  refine am_Ev.call (o := am_run cPT cML (n0 + 1) 31 [.ref 13, .int x1] (hp tx pg rd d e sw)) (kk := fun q => (5, [(0, .ref 13), (1, .int x1)], q.1.toList ++ [], q.2)) (q := (some (.int q1), (hp tx pg rd d e sw))) 1 (fun _ => rfl) (ev_D_markOf_A hq) ?_
  cases h
  exact am_Ev.done 5 rfl
theorem ev_D_truth_B {n0 : Nat} {tx : SB} {pg : SB} {rd : SR} {e : SD} {sw : Bool} {x1 : Int32} {d : SD} {res : Int32} (h : fn_D_truth x1 d = some res) : am_run cPT cML (n0 + 2) 18 [.ref 26, .int x1] (hp tx pg rd e d sw) = some (some (.int res), (hp tx pg rd e d sw)) := by
  refine am_run_of (d := n0 + 1) rfl ?_
  show am_Ev (tb_D_truth (am_run cPT cML (n0 + 1))) (0, [(0, .ref 26), (1, .int x1)], [], (hp tx pg rd e d sw)) (some (.int res), (hp tx pg rd e d sw))
  unfold fn_D_truth at h
  obtain ⟨q1, hq, h⟩ := Option.bind_eq_some_iff.mp h
  refine am_Ev.go 2 (st' := (2, [(0, .ref 26), (1, .int x1)], [.int x1, .ref 26], (hp tx pg rd e d sw))) (fun _ => rfl) ?_
  refine am_Ev.call (o := am_run cPT cML (n0 + 1) 31 [.ref 26, .int x1] (hp tx pg rd e d sw)) (kk := fun q => (5, [(0, .ref 26), (1, .int x1)], q.1.toList ++ [], q.2)) (q := (some (.int q1), (hp tx pg rd e d sw))) 1 (fun _ => rfl) (ev_D_markOf_B hq) ?_
  cases h
  exact am_Ev.done 5 rfl
theorem ev_D_markAll_2_A {n0 : Nat} {tx : SB} {pg : SB} {rd : SR} {e : SD} {sw : Bool} {x1 : Int32} {κ : SD → Option (SD)} (hκ : ∀ (d : SD) (res : SD), κ d = some res → am_Ev (tb_D_markAll (am_run cPT cML (n0 + 1))) (28, [], [], (hp tx pg rd d e sw)) (none, (hp tx pg rd res e sw))) : ∀ (n : Nat) (x2 : Int32) (d : SD) (res : SD), fn_D_markAll_2 x1 κ n x2 d = some res → am_Ev (tb_D_markAll (am_run cPT cML (n0 + 1))) (2, [(0, .ref 13), (1, .int x1), (2, .int x2)], [], (hp tx pg rd d e sw)) (none, (hp tx pg rd res e sw)) := by
  intro n
  induction n with
  | zero => intro x2 d res h; unfold fn_D_markAll_2 at h; cases h
  | succ n ih =>
    intro x2 d res h
    unfold fn_D_markAll_2 at h
    obtain ⟨q1, hq, h⟩ := Option.bind_eq_some_iff.mp h
    refine am_Ev.go 3 (st' := (5, [(0, .ref 13), (1, .int x1), (2, .int x2)], [.int x1, .ref 13, .int x2], (hp tx pg rd d e sw))) (fun _ => rfl) ?_
    refine am_Ev.call (o := am_run cPT cML (n0 + 1) 7 [.ref 13, .int x1] (hp tx pg rd d e sw)) (kk := fun q => (8, [(0, .ref 13), (1, .int x1), (2, .int x2)], q.1.toList ++ [.int x2], q.2)) (q := (some (.int q1), (hp tx pg rd d e sw))) 1 (fun _ => rfl) (ev_D_many_A hq) ?_
    refine am_Ev.fork (b := decide (q1 ≤ x2)) (s1 := (28, [(0, .ref 13), (1, .int x1), (2, .int x2)], [], (hp tx pg rd d e sw))) (s2 := (11, [(0, .ref 13), (1, .int x1), (2, .int x2)], [], (hp tx pg rd d e sw))) 1 (fun _ => rfl) (fun hc => ?_) (fun hc => ?_)
    · have h := (am_ift hc).symm.trans h
      refine am_Ev.same (st' := (28, [], [], (hp tx pg rd d e sw))) (fun _ => rfl) ?_
      exact hκ _ _ h
    · have h := (am_iff hc).symm.trans h
      obtain ⟨q2, hq, h⟩ := Option.bind_eq_some_iff.mp h
      refine am_Ev.go 4 (st' := (15, [(0, .ref 13), (1, .int x1), (2, .int x2)], [.int x2, .int x1, .ref 13, .ref 13], (hp tx pg rd d e sw))) (fun _ => rfl) ?_
      refine am_Ev.call (o := am_run cPT cML (n0 + 1) 10 [.ref 13, .int x1, .int x2] (hp tx pg rd d e sw)) (kk := fun q => (18, [(0, .ref 13), (1, .int x1), (2, .int x2)], q.1.toList ++ [.ref 13], q.2)) (q := (some (.int q2), (hp tx pg rd d e sw))) 1 (fun _ => rfl) (ev_D_get_A hq) ?_
      obtain ⟨q3, hq, h⟩ := Option.bind_eq_some_iff.mp h
      refine am_Ev.go 1 (st' := (19, [(0, .ref 13), (1, .int x1), (2, .int x2)], [.int 1, .int q2, .ref 13], (hp tx pg rd d e sw))) (fun _ => rfl) ?_
      refine am_Ev.call (o := am_run cPT cML (n0 + 1) 30 [.ref 13, .int q2, .int 1] (hp tx pg rd d e sw)) (kk := fun q => (22, [(0, .ref 13), (1, .int x1), (2, .int x2)], q.1.toList ++ [], q.2)) (q := (none, (hp tx pg rd q3 e sw))) 1 (fun _ => rfl) (ev_D_mark_A hq) ?_
      refine am_Ev.go 2 (st' := (2, [(0, .ref 13), (1, .int x1), (2, .int (x2 + 1))], [], (hp tx pg rd q3 e sw))) (fun _ => rfl) ?_
      exact ih _ _ _ h
theorem ev_D_markAll_A {n0 : Nat} {tx : SB} {pg : SB} {rd : SR} {e : SD} {sw : Bool} {x1 : Int32} {d : SD} {res : SD} (h : fn_D_markAll x1 d = some res) : am_run cPT cML (n0 + 2) 21 [.ref 13, .int x1] (hp tx pg rd d e sw) = some (none, (hp tx pg rd res e sw)) := by
  refine am_run_of (d := n0 + 1) rfl ?_
  show am_Ev (tb_D_markAll (am_run cPT cML (n0 + 1))) (0, [(0, .ref 13), (1, .int x1)], [], (hp tx pg rd d e sw)) (none, (hp tx pg rd res e sw))
  unfold fn_D_markAll at h
  refine am_Ev.go 2 (st' := (2, [(0, .ref 13), (1, .int x1), (2, .int 0)], [], (hp tx pg rd d e sw))) (fun _ => rfl) ?_
  refine ev_D_markAll_2_A ?_ _ _ _ _ h
  intro d_5 res h
  try dsimp only at h
  cases h
  exact am_Ev.done 1 rfl
theorem ev_D_markAll_2_B {n0 : Nat} {tx : SB} {pg : SB} {rd : SR} {e : SD} {sw : Bool} {x1 : Int32} {κ : SD → Option (SD)} (hκ : ∀ (d : SD) (res : SD), κ d = some res → am_Ev (tb_D_markAll (am_run cPT cML (n0 + 1))) (28, [], [], (hp tx pg rd e d sw)) (none, (hp tx pg rd e res sw))) : ∀ (n : Nat) (x2 : Int32) (d : SD) (res : SD), fn_D_markAll_2 x1 κ n x2 d = some res → am_Ev (tb_D_markAll (am_run cPT cML (n0 + 1))) (2, [(0, .ref 26), (1, .int x1), (2, .int x2)], [], (hp tx pg rd e d sw)) (none, (hp tx pg rd e res sw)) := by
  intro n
  induction n with
  | zero => intro x2 d res h; unfold fn_D_markAll_2 at h; cases h
  | succ n ih =>
    intro x2 d res h
    unfold fn_D_markAll_2 at h
    obtain ⟨q1, hq, h⟩ := Option.bind_eq_some_iff.mp h
    refine am_Ev.go 3 (st' := (5, [(0, .ref 26), (1, .int x1), (2, .int x2)], [.int x1, .ref 26, .int x2], (hp tx pg rd e d sw))) (fun _ => rfl) ?_
    refine am_Ev.call (o := am_run cPT cML (n0 + 1) 7 [.ref 26, .int x1] (hp tx pg rd e d sw)) (kk := fun q => (8, [(0, .ref 26), (1, .int x1), (2, .int x2)], q.1.toList ++ [.int x2], q.2)) (q := (some (.int q1), (hp tx pg rd e d sw))) 1 (fun _ => rfl) (ev_D_many_B hq) ?_
    refine am_Ev.fork (b := decide (q1 ≤ x2)) (s1 := (28, [(0, .ref 26), (1, .int x1), (2, .int x2)], [], (hp tx pg rd e d sw))) (s2 := (11, [(0, .ref 26), (1, .int x1), (2, .int x2)], [], (hp tx pg rd e d sw))) 1 (fun _ => rfl) (fun hc => ?_) (fun hc => ?_)
    · have h := (am_ift hc).symm.trans h
      refine am_Ev.same (st' := (28, [], [], (hp tx pg rd e d sw))) (fun _ => rfl) ?_
      exact hκ _ _ h
    · have h := (am_iff hc).symm.trans h
      obtain ⟨q2, hq, h⟩ := Option.bind_eq_some_iff.mp h
      refine am_Ev.go 4 (st' := (15, [(0, .ref 26), (1, .int x1), (2, .int x2)], [.int x2, .int x1, .ref 26, .ref 26], (hp tx pg rd e d sw))) (fun _ => rfl) ?_
      refine am_Ev.call (o := am_run cPT cML (n0 + 1) 10 [.ref 26, .int x1, .int x2] (hp tx pg rd e d sw)) (kk := fun q => (18, [(0, .ref 26), (1, .int x1), (2, .int x2)], q.1.toList ++ [.ref 26], q.2)) (q := (some (.int q2), (hp tx pg rd e d sw))) 1 (fun _ => rfl) (ev_D_get_B hq) ?_
      obtain ⟨q3, hq, h⟩ := Option.bind_eq_some_iff.mp h
      refine am_Ev.go 1 (st' := (19, [(0, .ref 26), (1, .int x1), (2, .int x2)], [.int 1, .int q2, .ref 26], (hp tx pg rd e d sw))) (fun _ => rfl) ?_
      refine am_Ev.call (o := am_run cPT cML (n0 + 1) 30 [.ref 26, .int q2, .int 1] (hp tx pg rd e d sw)) (kk := fun q => (22, [(0, .ref 26), (1, .int x1), (2, .int x2)], q.1.toList ++ [], q.2)) (q := (none, (hp tx pg rd e q3 sw))) 1 (fun _ => rfl) (ev_D_mark_B hq) ?_
      refine am_Ev.go 2 (st' := (2, [(0, .ref 26), (1, .int x1), (2, .int (x2 + 1))], [], (hp tx pg rd e q3 sw))) (fun _ => rfl) ?_
      exact ih _ _ _ h
theorem ev_D_markAll_B {n0 : Nat} {tx : SB} {pg : SB} {rd : SR} {e : SD} {sw : Bool} {x1 : Int32} {d : SD} {res : SD} (h : fn_D_markAll x1 d = some res) : am_run cPT cML (n0 + 2) 21 [.ref 26, .int x1] (hp tx pg rd e d sw) = some (none, (hp tx pg rd e res sw)) := by
  refine am_run_of (d := n0 + 1) rfl ?_
  show am_Ev (tb_D_markAll (am_run cPT cML (n0 + 1))) (0, [(0, .ref 26), (1, .int x1)], [], (hp tx pg rd e d sw)) (none, (hp tx pg rd e res sw))
  unfold fn_D_markAll at h
  refine am_Ev.go 2 (st' := (2, [(0, .ref 26), (1, .int x1), (2, .int 0)], [], (hp tx pg rd e d sw))) (fun _ => rfl) ?_
  refine ev_D_markAll_2_B ?_ _ _ _ _ h
  intro d_5 res h
  try dsimp only at h
  cases h
  exact am_Ev.done 1 rfl
theorem ev_D_firstReady_2_A {n0 : Nat} {tx : SB} {pg : SB} {rd : SR} {e : SD} {sw : Bool} {d : SD} {κ : Option (Int32)} (hκ : ∀ (res : Int32), κ = some res → am_Ev (tb_D_firstReady (am_run cPT cML (n0 + 1))) (60, [], [], (hp tx pg rd d e sw)) (some (.int res), (hp tx pg rd d e sw))) : ∀ (n : Nat) (x1 : Int32) (res : Int32), fn_D_firstReady_2 d κ n x1 = some res → am_Ev (tb_D_firstReady (am_run cPT cML (n0 + 1))) (2, [(0, .ref 13), (1, .int x1)], [], (hp tx pg rd d e sw)) (some (.int res), (hp tx pg rd d e sw)) := by
  intro n
  induction n with
  | zero => intro x1 res h; unfold fn_D_firstReady_2 at h; cases h
  | succ n ih =>
    intro x1 res h
    unfold fn_D_firstReady_2 at h
    obtain ⟨q1, hq, h⟩ := Option.bind_eq_some_iff.mp h
    refine am_Ev.go 3 (st' := (5, [(0, .ref 13), (1, .int x1)], [.int 3, .ref 13, .int x1], (hp tx pg rd d e sw))) (fun _ => rfl) ?_
    refine am_Ev.call (o := am_run cPT cML (n0 + 1) 7 [.ref 13, .int 3] (hp tx pg rd d e sw)) (kk := fun q => (8, [(0, .ref 13), (1, .int x1)], q.1.toList ++ [.int x1], q.2)) (q := (some (.int q1), (hp tx pg rd d e sw))) 1 (fun _ => rfl) (ev_D_many_A hq) ?_
    refine am_Ev.fork (b := decide (q1 ≤ x1)) (s1 := (60, [(0, .ref 13), (1, .int x1)], [], (hp tx pg rd d e sw))) (s2 := (11, [(0, .ref 13), (1, .int x1)], [], (hp tx pg rd d e sw))) 1 (fun _ => rfl) (fun hc => ?_) (fun hc => ?_)
    · have h := (am_ift hc).symm.trans h
      refine am_Ev.same (st' := (60, [], [], (hp tx pg rd d e sw))) (fun _ => rfl) ?_
      exact hκ _ h
    · have h := (am_iff hc).symm.trans h
      obtain ⟨q2, hq, h⟩ := Option.bind_eq_some_iff.mp h
      refine am_Ev.go 4 (st' := (15, [(0, .ref 13), (1, .int x1)], [.int x1, .int 3, .ref 13, .ref 13], (hp tx pg rd d e sw))) (fun _ => rfl) ?_
      refine am_Ev.call (o := am_run cPT cML (n0 + 1) 10 [.ref 13, .int 3, .int x1] (hp tx pg rd d e sw)) (kk := fun q => (18, [(0, .ref 13), (1, .int x1)], q.1.toList ++ [.ref 13], q.2)) (q := (some (.int q2), (hp tx pg rd d e sw))) 1 (fun _ => rfl) (ev_D_get_A hq) ?_
      obtain ⟨q3, hq, h⟩ := Option.bind_eq_some_iff.mp h
      refine am_Ev.call (o := am_run cPT cML (n0 + 1) 31 [.ref 13, .int q2] (hp tx pg rd d e sw)) (kk := fun q => (21, [(0, .ref 13), (1, .int x1)], q.1.toList ++ [], q.2)) (q := (some (.int q3), (hp tx pg rd d e sw))) 1 (fun _ => rfl) (ev_D_markOf_A hq) ?_
      refine am_Ev.fork (b := decide (q3 = 0)) (s1 := (24, [(0, .ref 13), (1, .int x1)], [], (hp tx pg rd d e sw))) (s2 := (54, [(0, .ref 13), (1, .int x1)], [], (hp tx pg rd d e sw))) 1 (fun _ => rfl) (fun hc => ?_) (fun hc => ?_)
      · have h := (am_ift hc).symm.trans h
        obtain ⟨q4, hq, h⟩ := Option.bind_eq_some_iff.mp h
        refine am_Ev.go 4 (st' := (29, [(0, .ref 13), (1, .int x1)], [.int x1, .int 6, .ref 13, .ref 13], (hp tx pg rd d e sw))) (fun _ => rfl) ?_
        refine am_Ev.call (o := am_run cPT cML (n0 + 1) 10 [.ref 13, .int 6, .int x1] (hp tx pg rd d e sw)) (kk := fun q => (32, [(0, .ref 13), (1, .int x1)], q.1.toList ++ [.ref 13], q.2)) (q := (some (.int q4), (hp tx pg rd d e sw))) 1 (fun _ => rfl) (ev_D_get_A hq) ?_
        obtain ⟨q5, hq, h⟩ := Option.bind_eq_some_iff.mp h
        refine am_Ev.call (o := am_run cPT cML (n0 + 1) 31 [.ref 13, .int q4] (hp tx pg rd d e sw)) (kk := fun q => (35, [(0, .ref 13), (1, .int x1)], q.1.toList ++ [], q.2)) (q := (some (.int q5), (hp tx pg rd d e sw))) 1 (fun _ => rfl) (ev_D_markOf_A hq) ?_
        refine am_Ev.fork (b := decide (q5 = 0)) (s1 := (54, [(0, .ref 13), (1, .int x1)], [], (hp tx pg rd d e sw))) (s2 := (38, [(0, .ref 13), (1, .int x1)], [], (hp tx pg rd d e sw))) 1 (fun _ => rfl) (fun hc => ?_) (fun hc => ?_)
        · have h := (am_ift hc).symm.trans h
          refine am_Ev.go 2 (st' := (2, [(0, .ref 13), (1, .int (x1 + 1))], [], (hp tx pg rd d e sw))) (fun _ => rfl) ?_
          exact ih _ _ h
        · have h := (am_iff hc).symm.trans h
          obtain ⟨q6, hq, h⟩ := Option.bind_eq_some_iff.mp h
          refine am_Ev.go 4 (st' := (43, [(0, .ref 13), (1, .int x1)], [.int x1, .int 7, .ref 13, .ref 13], (hp tx pg rd d e sw))) (fun _ => rfl) ?_
          refine am_Ev.call (o := am_run cPT cML (n0 + 1) 10 [.ref 13, .int 7, .int x1] (hp tx pg rd d e sw)) (kk := fun q => (46, [(0, .ref 13), (1, .int x1)], q.1.toList ++ [.ref 13], q.2)) (q := (some (.int q6), (hp tx pg rd d e sw))) 1 (fun _ => rfl) (ev_D_get_A hq) ?_
          obtain ⟨q7, hq, h⟩ := Option.bind_eq_some_iff.mp h
          refine am_Ev.call (o := am_run cPT cML (n0 + 1) 31 [.ref 13, .int q6] (hp tx pg rd d e sw)) (kk := fun q => (49, [(0, .ref 13), (1, .int x1)], q.1.toList ++ [], q.2)) (q := (some (.int q7), (hp tx pg rd d e sw))) 1 (fun _ => rfl) (ev_D_markOf_A hq) ?_
          refine am_Ev.fork (b := decide (q7 = 0)) (s1 := (54, [(0, .ref 13), (1, .int x1)], [], (hp tx pg rd d e sw))) (s2 := (52, [(0, .ref 13), (1, .int x1)], [], (hp tx pg rd d e sw))) 1 (fun _ => rfl) (fun hc => ?_) (fun hc => ?_)
          · have h := (am_ift hc).symm.trans h
            refine am_Ev.go 2 (st' := (2, [(0, .ref 13), (1, .int (x1 + 1))], [], (hp tx pg rd d e sw))) (fun _ => rfl) ?_
            exact ih _ _ h
          · have h := (am_iff hc).symm.trans h
            cases h
            exact am_Ev.done 2 rfl
      · have h := (am_iff hc).symm.trans h
        refine am_Ev.go 2 (st' := (2, [(0, .ref 13), (1, .int (x1 + 1))], [], (hp tx pg rd d e sw))) (fun _ => rfl) ?_
        exact ih _ _ h
theorem ev_D_firstReady_A {n0 : Nat} {tx : SB} {pg : SB} {rd : SR} {e : SD} {sw : Bool} {d : SD} {res : Int32} (h : fn_D_firstReady d = some res) : am_run cPT cML (n0 + 2) 22 [.ref 13] (hp tx pg rd d e sw) = some (some (.int res), (hp tx pg rd d e sw)) := by
  refine am_run_of (d := n0 + 1) rfl ?_
  show am_Ev (tb_D_firstReady (am_run cPT cML (n0 + 1))) (0, [(0, .ref 13)], [], (hp tx pg rd d e sw)) (some (.int res), (hp tx pg rd d e sw))
  unfold fn_D_firstReady at h
  refine am_Ev.go 2 (st' := (2, [(0, .ref 13), (1, .int 0)], [], (hp tx pg rd d e sw))) (fun _ => rfl) ?_
  refine ev_D_firstReady_2_A ?_ _ _ _ h
  intro res h
  try dsimp only at h
  cases h
  exact am_Ev.done 2 rfl
theorem ev_D_firstReady_2_B {n0 : Nat} {tx : SB} {pg : SB} {rd : SR} {e : SD} {sw : Bool} {d : SD} {κ : Option (Int32)} (hκ : ∀ (res : Int32), κ = some res → am_Ev (tb_D_firstReady (am_run cPT cML (n0 + 1))) (60, [], [], (hp tx pg rd e d sw)) (some (.int res), (hp tx pg rd e d sw))) : ∀ (n : Nat) (x1 : Int32) (res : Int32), fn_D_firstReady_2 d κ n x1 = some res → am_Ev (tb_D_firstReady (am_run cPT cML (n0 + 1))) (2, [(0, .ref 26), (1, .int x1)], [], (hp tx pg rd e d sw)) (some (.int res), (hp tx pg rd e d sw)) := by
  intro n
  induction n with
  | zero => intro x1 res h; unfold fn_D_firstReady_2 at h; cases h
  | succ n ih =>
    intro x1 res h
    unfold fn_D_firstReady_2 at h
    obtain ⟨q1, hq, h⟩ := Option.bind_eq_some_iff.mp h
    refine am_Ev.go 3 (st' := (5, [(0, .ref 26), (1, .int x1)], [.int 3, .ref 26, .int x1], (hp tx pg rd e d sw))) (fun _ => rfl) ?_
    refine am_Ev.call (o := am_run cPT cML (n0 + 1) 7 [.ref 26, .int 3] (hp tx pg rd e d sw)) (kk := fun q => (8, [(0, .ref 26), (1, .int x1)], q.1.toList ++ [.int x1], q.2)) (q := (some (.int q1), (hp tx pg rd e d sw))) 1 (fun _ => rfl) (ev_D_many_B hq) ?_
    refine am_Ev.fork (b := decide (q1 ≤ x1)) (s1 := (60, [(0, .ref 26), (1, .int x1)], [], (hp tx pg rd e d sw))) (s2 := (11, [(0, .ref 26), (1, .int x1)], [], (hp tx pg rd e d sw))) 1 (fun _ => rfl) (fun hc => ?_) (fun hc => ?_)
    · have h := (am_ift hc).symm.trans h
      refine am_Ev.same (st' := (60, [], [], (hp tx pg rd e d sw))) (fun _ => rfl) ?_
      exact hκ _ h
    · have h := (am_iff hc).symm.trans h
      obtain ⟨q2, hq, h⟩ := Option.bind_eq_some_iff.mp h
      refine am_Ev.go 4 (st' := (15, [(0, .ref 26), (1, .int x1)], [.int x1, .int 3, .ref 26, .ref 26], (hp tx pg rd e d sw))) (fun _ => rfl) ?_
      refine am_Ev.call (o := am_run cPT cML (n0 + 1) 10 [.ref 26, .int 3, .int x1] (hp tx pg rd e d sw)) (kk := fun q => (18, [(0, .ref 26), (1, .int x1)], q.1.toList ++ [.ref 26], q.2)) (q := (some (.int q2), (hp tx pg rd e d sw))) 1 (fun _ => rfl) (ev_D_get_B hq) ?_
      obtain ⟨q3, hq, h⟩ := Option.bind_eq_some_iff.mp h
      refine am_Ev.call (o := am_run cPT cML (n0 + 1) 31 [.ref 26, .int q2] (hp tx pg rd e d sw)) (kk := fun q => (21, [(0, .ref 26), (1, .int x1)], q.1.toList ++ [], q.2)) (q := (some (.int q3), (hp tx pg rd e d sw))) 1 (fun _ => rfl) (ev_D_markOf_B hq) ?_
      refine am_Ev.fork (b := decide (q3 = 0)) (s1 := (24, [(0, .ref 26), (1, .int x1)], [], (hp tx pg rd e d sw))) (s2 := (54, [(0, .ref 26), (1, .int x1)], [], (hp tx pg rd e d sw))) 1 (fun _ => rfl) (fun hc => ?_) (fun hc => ?_)
      · have h := (am_ift hc).symm.trans h
        obtain ⟨q4, hq, h⟩ := Option.bind_eq_some_iff.mp h
        refine am_Ev.go 4 (st' := (29, [(0, .ref 26), (1, .int x1)], [.int x1, .int 6, .ref 26, .ref 26], (hp tx pg rd e d sw))) (fun _ => rfl) ?_
        refine am_Ev.call (o := am_run cPT cML (n0 + 1) 10 [.ref 26, .int 6, .int x1] (hp tx pg rd e d sw)) (kk := fun q => (32, [(0, .ref 26), (1, .int x1)], q.1.toList ++ [.ref 26], q.2)) (q := (some (.int q4), (hp tx pg rd e d sw))) 1 (fun _ => rfl) (ev_D_get_B hq) ?_
        obtain ⟨q5, hq, h⟩ := Option.bind_eq_some_iff.mp h
        refine am_Ev.call (o := am_run cPT cML (n0 + 1) 31 [.ref 26, .int q4] (hp tx pg rd e d sw)) (kk := fun q => (35, [(0, .ref 26), (1, .int x1)], q.1.toList ++ [], q.2)) (q := (some (.int q5), (hp tx pg rd e d sw))) 1 (fun _ => rfl) (ev_D_markOf_B hq) ?_
        refine am_Ev.fork (b := decide (q5 = 0)) (s1 := (54, [(0, .ref 26), (1, .int x1)], [], (hp tx pg rd e d sw))) (s2 := (38, [(0, .ref 26), (1, .int x1)], [], (hp tx pg rd e d sw))) 1 (fun _ => rfl) (fun hc => ?_) (fun hc => ?_)
        · have h := (am_ift hc).symm.trans h
          refine am_Ev.go 2 (st' := (2, [(0, .ref 26), (1, .int (x1 + 1))], [], (hp tx pg rd e d sw))) (fun _ => rfl) ?_
          exact ih _ _ h
        · have h := (am_iff hc).symm.trans h
          obtain ⟨q6, hq, h⟩ := Option.bind_eq_some_iff.mp h
          refine am_Ev.go 4 (st' := (43, [(0, .ref 26), (1, .int x1)], [.int x1, .int 7, .ref 26, .ref 26], (hp tx pg rd e d sw))) (fun _ => rfl) ?_
          refine am_Ev.call (o := am_run cPT cML (n0 + 1) 10 [.ref 26, .int 7, .int x1] (hp tx pg rd e d sw)) (kk := fun q => (46, [(0, .ref 26), (1, .int x1)], q.1.toList ++ [.ref 26], q.2)) (q := (some (.int q6), (hp tx pg rd e d sw))) 1 (fun _ => rfl) (ev_D_get_B hq) ?_
          obtain ⟨q7, hq, h⟩ := Option.bind_eq_some_iff.mp h
          refine am_Ev.call (o := am_run cPT cML (n0 + 1) 31 [.ref 26, .int q6] (hp tx pg rd e d sw)) (kk := fun q => (49, [(0, .ref 26), (1, .int x1)], q.1.toList ++ [], q.2)) (q := (some (.int q7), (hp tx pg rd e d sw))) 1 (fun _ => rfl) (ev_D_markOf_B hq) ?_
          refine am_Ev.fork (b := decide (q7 = 0)) (s1 := (54, [(0, .ref 26), (1, .int x1)], [], (hp tx pg rd e d sw))) (s2 := (52, [(0, .ref 26), (1, .int x1)], [], (hp tx pg rd e d sw))) 1 (fun _ => rfl) (fun hc => ?_) (fun hc => ?_)
          · have h := (am_ift hc).symm.trans h
            refine am_Ev.go 2 (st' := (2, [(0, .ref 26), (1, .int (x1 + 1))], [], (hp tx pg rd e d sw))) (fun _ => rfl) ?_
            exact ih _ _ h
          · have h := (am_iff hc).symm.trans h
            cases h
            exact am_Ev.done 2 rfl
      · have h := (am_iff hc).symm.trans h
        refine am_Ev.go 2 (st' := (2, [(0, .ref 26), (1, .int (x1 + 1))], [], (hp tx pg rd e d sw))) (fun _ => rfl) ?_
        exact ih _ _ h
theorem ev_D_firstReady_B {n0 : Nat} {tx : SB} {pg : SB} {rd : SR} {e : SD} {sw : Bool} {d : SD} {res : Int32} (h : fn_D_firstReady d = some res) : am_run cPT cML (n0 + 2) 22 [.ref 26] (hp tx pg rd e d sw) = some (some (.int res), (hp tx pg rd e d sw)) := by
  refine am_run_of (d := n0 + 1) rfl ?_
  show am_Ev (tb_D_firstReady (am_run cPT cML (n0 + 1))) (0, [(0, .ref 26)], [], (hp tx pg rd e d sw)) (some (.int res), (hp tx pg rd e d sw))
  unfold fn_D_firstReady at h
  refine am_Ev.go 2 (st' := (2, [(0, .ref 26), (1, .int 0)], [], (hp tx pg rd e d sw))) (fun _ => rfl) ?_
  refine ev_D_firstReady_2_B ?_ _ _ _ h
  intro res h
  try dsimp only at h
  cases h
  exact am_Ev.done 2 rfl
theorem ev_D_numberAnew_72_A {n0 : Nat} {tx : SB} {pg : SB} {rd : SR} {sw : Bool} {e : SD} {κ : Int32 → SD → Option (SD)} (hκ : ∀ (x2 : Int32) (d : SD) (res : SD), κ x2 d = some res → am_Ev (tb_D_numberAnew (am_run cPT cML (n0 + 1))) (105, [(0, .ref 13), (2, .int x2)], [], (hp tx pg rd d e sw)) (none, (hp tx pg rd res e sw))) : ∀ (n : Nat) (x2 : Int32) (x3 : Int32) (d : SD) (res : SD), fn_D_numberAnew_72 e κ n x2 x3 d = some res → am_Ev (tb_D_numberAnew (am_run cPT cML (n0 + 1))) (72, [(0, .ref 13), (1, .ref 26), (2, .int x2), (3, .int x3)], [], (hp tx pg rd d e sw)) (none, (hp tx pg rd res e sw)) := by
  intro n
  induction n with
  | zero => intro x2 x3 d res h; unfold fn_D_numberAnew_72 at h; cases h
  | succ n ih =>
    intro x2 x3 d res h
    unfold fn_D_numberAnew_72 at h
    obtain ⟨q1, hq, h⟩ := Option.bind_eq_some_iff.mp h
    refine am_Ev.go 3 (st' := (75, [(0, .ref 13), (1, .ref 26), (2, .int x2), (3, .int x3)], [.int 3, .ref 26, .int x3], (hp tx pg rd d e sw))) (fun _ => rfl) ?_
    refine am_Ev.call (o := am_run cPT cML (n0 + 1) 7 [.ref 26, .int 3] (hp tx pg rd d e sw)) (kk := fun q => (78, [(0, .ref 13), (1, .ref 26), (2, .int x2), (3, .int x3)], q.1.toList ++ [.int x3], q.2)) (q := (some (.int q1), (hp tx pg rd d e sw))) 1 (fun _ => rfl) (ev_D_many_B hq) ?_
    refine am_Ev.fork (b := decide (q1 ≤ x3)) (s1 := (105, [(0, .ref 13), (1, .ref 26), (2, .int x2), (3, .int x3)], [], (hp tx pg rd d e sw))) (s2 := (81, [(0, .ref 13), (1, .ref 26), (2, .int x2), (3, .int x3)], [], (hp tx pg rd d e sw))) 1 (fun _ => rfl) (fun hc => ?_) (fun hc => ?_)
    · have h := (am_ift hc).symm.trans h
      refine am_Ev.same (st' := (105, [(0, .ref 13), (2, .int x2)], [], (hp tx pg rd d e sw))) (fun _ => rfl) ?_
      exact hκ _ _ _ h
    · have h := (am_iff hc).symm.trans h
      obtain ⟨q2, hq, h⟩ := Option.bind_eq_some_iff.mp h
      refine am_Ev.go 6 (st' := (89, [(0, .ref 13), (1, .ref 26), (2, .int (x2 + 1)), (3, .int x3)], [.int x3, .ref 26, .int 3, .ref 26, .ref 13], (hp tx pg rd d e sw))) (fun _ => rfl) ?_
      refine am_Ev.call (o := am_run cPT cML (n0 + 1) 23 [.ref 26, .int x3] (hp tx pg rd d e sw)) (kk := fun q => (92, [(0, .ref 13), (1, .ref 26), (2, .int (x2 + 1)), (3, .int x3)], q.1.toList ++ [.int 3, .ref 26, .ref 13], q.2)) (q := (some (.int q2), (hp tx pg rd d e sw))) 1 (fun _ => rfl) (ev_D_inSequence_B hq) ?_
      obtain ⟨q3, hq, h⟩ := Option.bind_eq_some_iff.mp h
      refine am_Ev.call (o := am_run cPT cML (n0 + 1) 10 [.ref 26, .int 3, .int q2] (hp tx pg rd d e sw)) (kk := fun q => (95, [(0, .ref 13), (1, .ref 26), (2, .int (x2 + 1)), (3, .int x3)], q.1.toList ++ [.ref 13], q.2)) (q := (some (.int q3), (hp tx pg rd d e sw))) 1 (fun _ => rfl) (ev_D_get_B hq) ?_
      obtain ⟨q4, hq, h⟩ := Option.bind_eq_some_iff.mp h
      refine am_Ev.go 1 (st' := (96, [(0, .ref 13), (1, .ref 26), (2, .int (x2 + 1)), (3, .int x3)], [.int (x2 + 1), .int q3, .ref 13], (hp tx pg rd d e sw))) (fun _ => rfl) ?_
      refine am_Ev.call (o := am_run cPT cML (n0 + 1) 30 [.ref 13, .int q3, .int (x2 + 1)] (hp tx pg rd d e sw)) (kk := fun q => (99, [(0, .ref 13), (1, .ref 26), (2, .int (x2 + 1)), (3, .int x3)], q.1.toList ++ [], q.2)) (q := (none, (hp tx pg rd q4 e sw))) 1 (fun _ => rfl) (ev_D_mark_A hq) ?_
      refine am_Ev.go 2 (st' := (72, [(0, .ref 13), (1, .ref 26), (2, .int (x2 + 1)), (3, .int (x3 + 1))], [], (hp tx pg rd q4 e sw))) (fun _ => rfl) ?_
      exact ih _ _ _ _ h
theorem ev_D_numberAnew_41_A {n0 : Nat} {tx : SB} {pg : SB} {rd : SR} {sw : Bool} {e : SD} {κ : Int32 → SD → Option (SD)} (hκ : ∀ (x2 : Int32) (d : SD) (res : SD), κ x2 d = some res → am_Ev (tb_D_numberAnew (am_run cPT cML (n0 + 1))) (70, [(0, .ref 13), (1, .ref 26), (2, .int x2)], [], (hp tx pg rd d e sw)) (none, (hp tx pg rd res e sw))) : ∀ (n : Nat) (x2 : Int32) (x3 : Int32) (d : SD) (res : SD), fn_D_numberAnew_41 e κ n x2 x3 d = some res → am_Ev (tb_D_numberAnew (am_run cPT cML (n0 + 1))) (41, [(0, .ref 13), (1, .ref 26), (2, .int x2), (3, .int x3)], [], (hp tx pg rd d e sw)) (none, (hp tx pg rd res e sw)) := by
  intro n
  induction n with
  | zero => intro x2 x3 d res h; unfold fn_D_numberAnew_41 at h; cases h
  | succ n ih =>
    intro x2 x3 d res h
    unfold fn_D_numberAnew_41 at h
    obtain ⟨q5, hq, h⟩ := Option.bind_eq_some_iff.mp h
    refine am_Ev.go 3 (st' := (44, [(0, .ref 13), (1, .ref 26), (2, .int x2), (3, .int x3)], [.int 1, .ref 26, .int x3], (hp tx pg rd d e sw))) (fun _ => rfl) ?_
    refine am_Ev.call (o := am_run cPT cML (n0 + 1) 7 [.ref 26, .int 1] (hp tx pg rd d e sw)) (kk := fun q => (47, [(0, .ref 13), (1, .ref 26), (2, .int x2), (3, .int x3)], q.1.toList ++ [.int x3], q.2)) (q := (some (.int q5), (hp tx pg rd d e sw))) 1 (fun _ => rfl) (ev_D_many_B hq) ?_
    refine am_Ev.fork (b := decide (q5 ≤ x3)) (s1 := (70, [(0, .ref 13), (1, .ref 26), (2, .int x2), (3, .int x3)], [], (hp tx pg rd d e sw))) (s2 := (50, [(0, .ref 13), (1, .ref 26), (2, .int x2), (3, .int x3)], [], (hp tx pg rd d e sw))) 1 (fun _ => rfl) (fun hc => ?_) (fun hc => ?_)
    · have h := (am_ift hc).symm.trans h
      refine am_Ev.same (st' := (70, [(0, .ref 13), (1, .ref 26), (2, .int x2)], [], (hp tx pg rd d e sw))) (fun _ => rfl) ?_
      exact hκ _ _ _ h
    · have h := (am_iff hc).symm.trans h
      obtain ⟨q6, hq, h⟩ := Option.bind_eq_some_iff.mp h
      refine am_Ev.go 5 (st' := (57, [(0, .ref 13), (1, .ref 26), (2, .int (x2 + 1)), (3, .int x3)], [.int x3, .int 1, .ref 26, .ref 13], (hp tx pg rd d e sw))) (fun _ => rfl) ?_
      refine am_Ev.call (o := am_run cPT cML (n0 + 1) 10 [.ref 26, .int 1, .int x3] (hp tx pg rd d e sw)) (kk := fun q => (60, [(0, .ref 13), (1, .ref 26), (2, .int (x2 + 1)), (3, .int x3)], q.1.toList ++ [.ref 13], q.2)) (q := (some (.int q6), (hp tx pg rd d e sw))) 1 (fun _ => rfl) (ev_D_get_B hq) ?_
      obtain ⟨q7, hq, h⟩ := Option.bind_eq_some_iff.mp h
      refine am_Ev.go 1 (st' := (61, [(0, .ref 13), (1, .ref 26), (2, .int (x2 + 1)), (3, .int x3)], [.int (x2 + 1), .int q6, .ref 13], (hp tx pg rd d e sw))) (fun _ => rfl) ?_
      refine am_Ev.call (o := am_run cPT cML (n0 + 1) 30 [.ref 13, .int q6, .int (x2 + 1)] (hp tx pg rd d e sw)) (kk := fun q => (64, [(0, .ref 13), (1, .ref 26), (2, .int (x2 + 1)), (3, .int x3)], q.1.toList ++ [], q.2)) (q := (none, (hp tx pg rd q7 e sw))) 1 (fun _ => rfl) (ev_D_mark_A hq) ?_
      refine am_Ev.go 2 (st' := (41, [(0, .ref 13), (1, .ref 26), (2, .int (x2 + 1)), (3, .int (x3 + 1))], [], (hp tx pg rd q7 e sw))) (fun _ => rfl) ?_
      exact ih _ _ _ _ h
theorem ev_D_numberAnew_10_A {n0 : Nat} {tx : SB} {pg : SB} {rd : SR} {sw : Bool} {e : SD} {κ : Int32 → SD → Option (SD)} (hκ : ∀ (x2 : Int32) (d : SD) (res : SD), κ x2 d = some res → am_Ev (tb_D_numberAnew (am_run cPT cML (n0 + 1))) (39, [(0, .ref 13), (1, .ref 26), (2, .int x2)], [], (hp tx pg rd d e sw)) (none, (hp tx pg rd res e sw))) : ∀ (n : Nat) (x2 : Int32) (x3 : Int32) (d : SD) (res : SD), fn_D_numberAnew_10 e κ n x2 x3 d = some res → am_Ev (tb_D_numberAnew (am_run cPT cML (n0 + 1))) (10, [(0, .ref 13), (1, .ref 26), (2, .int x2), (3, .int x3)], [], (hp tx pg rd d e sw)) (none, (hp tx pg rd res e sw)) := by
  intro n
  induction n with
  | zero => intro x2 x3 d res h; unfold fn_D_numberAnew_10 at h; cases h
  | succ n ih =>
    intro x2 x3 d res h
    unfold fn_D_numberAnew_10 at h
    obtain ⟨q8, hq, h⟩ := Option.bind_eq_some_iff.mp h
    refine am_Ev.go 3 (st' := (13, [(0, .ref 13), (1, .ref 26), (2, .int x2), (3, .int x3)], [.int 0, .ref 26, .int x3], (hp tx pg rd d e sw))) (fun _ => rfl) ?_
    refine am_Ev.call (o := am_run cPT cML (n0 + 1) 7 [.ref 26, .int 0] (hp tx pg rd d e sw)) (kk := fun q => (16, [(0, .ref 13), (1, .ref 26), (2, .int x2), (3, .int x3)], q.1.toList ++ [.int x3], q.2)) (q := (some (.int q8), (hp tx pg rd d e sw))) 1 (fun _ => rfl) (ev_D_many_B hq) ?_
    refine am_Ev.fork (b := decide (q8 ≤ x3)) (s1 := (39, [(0, .ref 13), (1, .ref 26), (2, .int x2), (3, .int x3)], [], (hp tx pg rd d e sw))) (s2 := (19, [(0, .ref 13), (1, .ref 26), (2, .int x2), (3, .int x3)], [], (hp tx pg rd d e sw))) 1 (fun _ => rfl) (fun hc => ?_) (fun hc => ?_)
    · have h := (am_ift hc).symm.trans h
      refine am_Ev.same (st' := (39, [(0, .ref 13), (1, .ref 26), (2, .int x2)], [], (hp tx pg rd d e sw))) (fun _ => rfl) ?_
      exact hκ _ _ _ h
    · have h := (am_iff hc).symm.trans h
      obtain ⟨q9, hq, h⟩ := Option.bind_eq_some_iff.mp h
      refine am_Ev.go 5 (st' := (26, [(0, .ref 13), (1, .ref 26), (2, .int (x2 + 1)), (3, .int x3)], [.int x3, .int 0, .ref 26, .ref 13], (hp tx pg rd d e sw))) (fun _ => rfl) ?_
      refine am_Ev.call (o := am_run cPT cML (n0 + 1) 10 [.ref 26, .int 0, .int x3] (hp tx pg rd d e sw)) (kk := fun q => (29, [(0, .ref 13), (1, .ref 26), (2, .int (x2 + 1)), (3, .int x3)], q.1.toList ++ [.ref 13], q.2)) (q := (some (.int q9), (hp tx pg rd d e sw))) 1 (fun _ => rfl) (ev_D_get_B hq) ?_
      obtain ⟨q10, hq, h⟩ := Option.bind_eq_some_iff.mp h
      refine am_Ev.go 1 (st' := (30, [(0, .ref 13), (1, .ref 26), (2, .int (x2 + 1)), (3, .int x3)], [.int (x2 + 1), .int q9, .ref 13], (hp tx pg rd d e sw))) (fun _ => rfl) ?_
      refine am_Ev.call (o := am_run cPT cML (n0 + 1) 30 [.ref 13, .int q9, .int (x2 + 1)] (hp tx pg rd d e sw)) (kk := fun q => (33, [(0, .ref 13), (1, .ref 26), (2, .int (x2 + 1)), (3, .int x3)], q.1.toList ++ [], q.2)) (q := (none, (hp tx pg rd q10 e sw))) 1 (fun _ => rfl) (ev_D_mark_A hq) ?_
      refine am_Ev.go 2 (st' := (10, [(0, .ref 13), (1, .ref 26), (2, .int (x2 + 1)), (3, .int (x3 + 1))], [], (hp tx pg rd q10 e sw))) (fun _ => rfl) ?_
      exact ih _ _ _ _ h
theorem ev_D_numberAnew_A {n0 : Nat} {tx : SB} {pg : SB} {rd : SR} {sw : Bool} {d : SD} {e : SD} {res : SD} (h : fn_D_numberAnew d e = some res) : am_run cPT cML (n0 + 2) 25 [.ref 13, .ref 26] (hp tx pg rd d e sw) = some (none, (hp tx pg rd res e sw)) := by
  refine am_run_of (d := n0 + 1) rfl ?_
  show am_Ev (tb_D_numberAnew (am_run cPT cML (n0 + 1))) (0, [(0, .ref 13), (1, .ref 26)], [], (hp tx pg rd d e sw)) (none, (hp tx pg rd res e sw))
  unfold fn_D_numberAnew at h
  obtain ⟨q11, hq, h⟩ := Option.bind_eq_some_iff.mp h
  refine am_Ev.go 3 (st' := (3, [(0, .ref 13), (1, .ref 26)], [.int 0, .int 0, .ref 13], (hp tx pg rd d e sw))) (fun _ => rfl) ?_
  refine am_Ev.call (o := am_run cPT cML (n0 + 1) 30 [.ref 13, .int 0, .int 0] (hp tx pg rd d e sw)) (kk := fun q => (6, [(0, .ref 13), (1, .ref 26)], q.1.toList ++ [], q.2)) (q := (none, (hp tx pg rd q11 e sw))) 1 (fun _ => rfl) (ev_D_mark_A hq) ?_
  refine am_Ev.go 4 (st' := (10, [(0, .ref 13), (1, .ref 26), (2, .int 0), (3, .int 0)], [], (hp tx pg rd q11 e sw))) (fun _ => rfl) ?_
  refine ev_D_numberAnew_10_A ?_ _ _ _ _ _ h
  intro x2_13 d_13 res h
  try dsimp only at h
  refine am_Ev.go 2 (st' := (41, [(0, .ref 13), (1, .ref 26), (2, .int x2_13), (3, .int 0)], [], (hp tx pg rd d_13 e sw))) (fun _ => rfl) ?_
  refine ev_D_numberAnew_41_A ?_ _ _ _ _ _ h
  intro x2_14 d_14 res h
  try dsimp only at h
  refine am_Ev.go 2 (st' := (72, [(0, .ref 13), (1, .ref 26), (2, .int x2_14), (3, .int 0)], [], (hp tx pg rd d_14 e sw))) (fun _ => rfl) ?_
  refine ev_D_numberAnew_72_A ?_ _ _ _ _ _ h
  intro x2_15 d_15 res h
  try dsimp only at h
  cases h
  exact am_Ev.done 4 rfl
theorem ev_D_numberAnew_72_B {n0 : Nat} {tx : SB} {pg : SB} {rd : SR} {sw : Bool} {e : SD} {κ : Int32 → SD → Option (SD)} (hκ : ∀ (x2 : Int32) (d : SD) (res : SD), κ x2 d = some res → am_Ev (tb_D_numberAnew (am_run cPT cML (n0 + 1))) (105, [(0, .ref 26), (2, .int x2)], [], (hp tx pg rd e d sw)) (none, (hp tx pg rd e res sw))) : ∀ (n : Nat) (x2 : Int32) (x3 : Int32) (d : SD) (res : SD), fn_D_numberAnew_72 e κ n x2 x3 d = some res → am_Ev (tb_D_numberAnew (am_run cPT cML (n0 + 1))) (72, [(0, .ref 26), (1, .ref 13), (2, .int x2), (3, .int x3)], [], (hp tx pg rd e d sw)) (none, (hp tx pg rd e res sw)) := by
  intro n
  induction n with
  | zero => intro x2 x3 d res h; unfold fn_D_numberAnew_72 at h; cases h
  | succ n ih =>
    intro x2 x3 d res h
    unfold fn_D_numberAnew_72 at h
    obtain ⟨q1, hq, h⟩ := Option.bind_eq_some_iff.mp h
    refine am_Ev.go 3 (st' := (75, [(0, .ref 26), (1, .ref 13), (2, .int x2), (3, .int x3)], [.int 3, .ref 13, .int x3], (hp tx pg rd e d sw))) (fun _ => rfl) ?_
    refine am_Ev.call (o := am_run cPT cML (n0 + 1) 7 [.ref 13, .int 3] (hp tx pg rd e d sw)) (kk := fun q => (78, [(0, .ref 26), (1, .ref 13), (2, .int x2), (3, .int x3)], q.1.toList ++ [.int x3], q.2)) (q := (some (.int q1), (hp tx pg rd e d sw))) 1 (fun _ => rfl) (ev_D_many_A hq) ?_
    refine am_Ev.fork (b := decide (q1 ≤ x3)) (s1 := (105, [(0, .ref 26), (1, .ref 13), (2, .int x2), (3, .int x3)], [], (hp tx pg rd e d sw))) (s2 := (81, [(0, .ref 26), (1, .ref 13), (2, .int x2), (3, .int x3)], [], (hp tx pg rd e d sw))) 1 (fun _ => rfl) (fun hc => ?_) (fun hc => ?_)
    · have h := (am_ift hc).symm.trans h
      refine am_Ev.same (st' := (105, [(0, .ref 26), (2, .int x2)], [], (hp tx pg rd e d sw))) (fun _ => rfl) ?_
      exact hκ _ _ _ h
    · have h := (am_iff hc).symm.trans h
      obtain ⟨q2, hq, h⟩ := Option.bind_eq_some_iff.mp h
      refine am_Ev.go 6 (st' := (89, [(0, .ref 26), (1, .ref 13), (2, .int (x2 + 1)), (3, .int x3)], [.int x3, .ref 13, .int 3, .ref 13, .ref 26], (hp tx pg rd e d sw))) (fun _ => rfl) ?_
      refine am_Ev.call (o := am_run cPT cML (n0 + 1) 23 [.ref 13, .int x3] (hp tx pg rd e d sw)) (kk := fun q => (92, [(0, .ref 26), (1, .ref 13), (2, .int (x2 + 1)), (3, .int x3)], q.1.toList ++ [.int 3, .ref 13, .ref 26], q.2)) (q := (some (.int q2), (hp tx pg rd e d sw))) 1 (fun _ => rfl) (ev_D_inSequence_A hq) ?_
      obtain ⟨q3, hq, h⟩ := Option.bind_eq_some_iff.mp h
      refine am_Ev.call (o := am_run cPT cML (n0 + 1) 10 [.ref 13, .int 3, .int q2] (hp tx pg rd e d sw)) (kk := fun q => (95, [(0, .ref 26), (1, .ref 13), (2, .int (x2 + 1)), (3, .int x3)], q.1.toList ++ [.ref 26], q.2)) (q := (some (.int q3), (hp tx pg rd e d sw))) 1 (fun _ => rfl) (ev_D_get_A hq) ?_
      obtain ⟨q4, hq, h⟩ := Option.bind_eq_some_iff.mp h
      refine am_Ev.go 1 (st' := (96, [(0, .ref 26), (1, .ref 13), (2, .int (x2 + 1)), (3, .int x3)], [.int (x2 + 1), .int q3, .ref 26], (hp tx pg rd e d sw))) (fun _ => rfl) ?_
      refine am_Ev.call (o := am_run cPT cML (n0 + 1) 30 [.ref 26, .int q3, .int (x2 + 1)] (hp tx pg rd e d sw)) (kk := fun q => (99, [(0, .ref 26), (1, .ref 13), (2, .int (x2 + 1)), (3, .int x3)], q.1.toList ++ [], q.2)) (q := (none, (hp tx pg rd e q4 sw))) 1 (fun _ => rfl) (ev_D_mark_B hq) ?_
      refine am_Ev.go 2 (st' := (72, [(0, .ref 26), (1, .ref 13), (2, .int (x2 + 1)), (3, .int (x3 + 1))], [], (hp tx pg rd e q4 sw))) (fun _ => rfl) ?_
      exact ih _ _ _ _ h
theorem ev_D_numberAnew_41_B {n0 : Nat} {tx : SB} {pg : SB} {rd : SR} {sw : Bool} {e : SD} {κ : Int32 → SD → Option (SD)} (hκ : ∀ (x2 : Int32) (d : SD) (res : SD), κ x2 d = some res → am_Ev (tb_D_numberAnew (am_run cPT cML (n0 + 1))) (70, [(0, .ref 26), (1, .ref 13), (2, .int x2)], [], (hp tx pg rd e d sw)) (none, (hp tx pg rd e res sw))) : ∀ (n : Nat) (x2 : Int32) (x3 : Int32) (d : SD) (res : SD), fn_D_numberAnew_41 e κ n x2 x3 d = some res → am_Ev (tb_D_numberAnew (am_run cPT cML (n0 + 1))) (41, [(0, .ref 26), (1, .ref 13), (2, .int x2), (3, .int x3)], [], (hp tx pg rd e d sw)) (none, (hp tx pg rd e res sw)) := by
  intro n
  induction n with
  | zero => intro x2 x3 d res h; unfold fn_D_numberAnew_41 at h; cases h
  | succ n ih =>
    intro x2 x3 d res h
    unfold fn_D_numberAnew_41 at h
    obtain ⟨q5, hq, h⟩ := Option.bind_eq_some_iff.mp h
    refine am_Ev.go 3 (st' := (44, [(0, .ref 26), (1, .ref 13), (2, .int x2), (3, .int x3)], [.int 1, .ref 13, .int x3], (hp tx pg rd e d sw))) (fun _ => rfl) ?_
    refine am_Ev.call (o := am_run cPT cML (n0 + 1) 7 [.ref 13, .int 1] (hp tx pg rd e d sw)) (kk := fun q => (47, [(0, .ref 26), (1, .ref 13), (2, .int x2), (3, .int x3)], q.1.toList ++ [.int x3], q.2)) (q := (some (.int q5), (hp tx pg rd e d sw))) 1 (fun _ => rfl) (ev_D_many_A hq) ?_
    refine am_Ev.fork (b := decide (q5 ≤ x3)) (s1 := (70, [(0, .ref 26), (1, .ref 13), (2, .int x2), (3, .int x3)], [], (hp tx pg rd e d sw))) (s2 := (50, [(0, .ref 26), (1, .ref 13), (2, .int x2), (3, .int x3)], [], (hp tx pg rd e d sw))) 1 (fun _ => rfl) (fun hc => ?_) (fun hc => ?_)
    · have h := (am_ift hc).symm.trans h
      refine am_Ev.same (st' := (70, [(0, .ref 26), (1, .ref 13), (2, .int x2)], [], (hp tx pg rd e d sw))) (fun _ => rfl) ?_
      exact hκ _ _ _ h
    · have h := (am_iff hc).symm.trans h
      obtain ⟨q6, hq, h⟩ := Option.bind_eq_some_iff.mp h
      refine am_Ev.go 5 (st' := (57, [(0, .ref 26), (1, .ref 13), (2, .int (x2 + 1)), (3, .int x3)], [.int x3, .int 1, .ref 13, .ref 26], (hp tx pg rd e d sw))) (fun _ => rfl) ?_
      refine am_Ev.call (o := am_run cPT cML (n0 + 1) 10 [.ref 13, .int 1, .int x3] (hp tx pg rd e d sw)) (kk := fun q => (60, [(0, .ref 26), (1, .ref 13), (2, .int (x2 + 1)), (3, .int x3)], q.1.toList ++ [.ref 26], q.2)) (q := (some (.int q6), (hp tx pg rd e d sw))) 1 (fun _ => rfl) (ev_D_get_A hq) ?_
      obtain ⟨q7, hq, h⟩ := Option.bind_eq_some_iff.mp h
      refine am_Ev.go 1 (st' := (61, [(0, .ref 26), (1, .ref 13), (2, .int (x2 + 1)), (3, .int x3)], [.int (x2 + 1), .int q6, .ref 26], (hp tx pg rd e d sw))) (fun _ => rfl) ?_
      refine am_Ev.call (o := am_run cPT cML (n0 + 1) 30 [.ref 26, .int q6, .int (x2 + 1)] (hp tx pg rd e d sw)) (kk := fun q => (64, [(0, .ref 26), (1, .ref 13), (2, .int (x2 + 1)), (3, .int x3)], q.1.toList ++ [], q.2)) (q := (none, (hp tx pg rd e q7 sw))) 1 (fun _ => rfl) (ev_D_mark_B hq) ?_
      refine am_Ev.go 2 (st' := (41, [(0, .ref 26), (1, .ref 13), (2, .int (x2 + 1)), (3, .int (x3 + 1))], [], (hp tx pg rd e q7 sw))) (fun _ => rfl) ?_
      exact ih _ _ _ _ h
theorem ev_D_numberAnew_10_B {n0 : Nat} {tx : SB} {pg : SB} {rd : SR} {sw : Bool} {e : SD} {κ : Int32 → SD → Option (SD)} (hκ : ∀ (x2 : Int32) (d : SD) (res : SD), κ x2 d = some res → am_Ev (tb_D_numberAnew (am_run cPT cML (n0 + 1))) (39, [(0, .ref 26), (1, .ref 13), (2, .int x2)], [], (hp tx pg rd e d sw)) (none, (hp tx pg rd e res sw))) : ∀ (n : Nat) (x2 : Int32) (x3 : Int32) (d : SD) (res : SD), fn_D_numberAnew_10 e κ n x2 x3 d = some res → am_Ev (tb_D_numberAnew (am_run cPT cML (n0 + 1))) (10, [(0, .ref 26), (1, .ref 13), (2, .int x2), (3, .int x3)], [], (hp tx pg rd e d sw)) (none, (hp tx pg rd e res sw)) := by
  intro n
  induction n with
  | zero => intro x2 x3 d res h; unfold fn_D_numberAnew_10 at h; cases h
  | succ n ih =>
    intro x2 x3 d res h
    unfold fn_D_numberAnew_10 at h
    obtain ⟨q8, hq, h⟩ := Option.bind_eq_some_iff.mp h
    refine am_Ev.go 3 (st' := (13, [(0, .ref 26), (1, .ref 13), (2, .int x2), (3, .int x3)], [.int 0, .ref 13, .int x3], (hp tx pg rd e d sw))) (fun _ => rfl) ?_
    refine am_Ev.call (o := am_run cPT cML (n0 + 1) 7 [.ref 13, .int 0] (hp tx pg rd e d sw)) (kk := fun q => (16, [(0, .ref 26), (1, .ref 13), (2, .int x2), (3, .int x3)], q.1.toList ++ [.int x3], q.2)) (q := (some (.int q8), (hp tx pg rd e d sw))) 1 (fun _ => rfl) (ev_D_many_A hq) ?_
    refine am_Ev.fork (b := decide (q8 ≤ x3)) (s1 := (39, [(0, .ref 26), (1, .ref 13), (2, .int x2), (3, .int x3)], [], (hp tx pg rd e d sw))) (s2 := (19, [(0, .ref 26), (1, .ref 13), (2, .int x2), (3, .int x3)], [], (hp tx pg rd e d sw))) 1 (fun _ => rfl) (fun hc => ?_) (fun hc => ?_)
    · have h := (am_ift hc).symm.trans h
      refine am_Ev.same (st' := (39, [(0, .ref 26), (1, .ref 13), (2, .int x2)], [], (hp tx pg rd e d sw))) (fun _ => rfl) ?_
      exact hκ _ _ _ h
    · have h := (am_iff hc).symm.trans h
      obtain ⟨q9, hq, h⟩ := Option.bind_eq_some_iff.mp h
      refine am_Ev.go 5 (st' := (26, [(0, .ref 26), (1, .ref 13), (2, .int (x2 + 1)), (3, .int x3)], [.int x3, .int 0, .ref 13, .ref 26], (hp tx pg rd e d sw))) (fun _ => rfl) ?_
      refine am_Ev.call (o := am_run cPT cML (n0 + 1) 10 [.ref 13, .int 0, .int x3] (hp tx pg rd e d sw)) (kk := fun q => (29, [(0, .ref 26), (1, .ref 13), (2, .int (x2 + 1)), (3, .int x3)], q.1.toList ++ [.ref 26], q.2)) (q := (some (.int q9), (hp tx pg rd e d sw))) 1 (fun _ => rfl) (ev_D_get_A hq) ?_
      obtain ⟨q10, hq, h⟩ := Option.bind_eq_some_iff.mp h
      refine am_Ev.go 1 (st' := (30, [(0, .ref 26), (1, .ref 13), (2, .int (x2 + 1)), (3, .int x3)], [.int (x2 + 1), .int q9, .ref 26], (hp tx pg rd e d sw))) (fun _ => rfl) ?_
      refine am_Ev.call (o := am_run cPT cML (n0 + 1) 30 [.ref 26, .int q9, .int (x2 + 1)] (hp tx pg rd e d sw)) (kk := fun q => (33, [(0, .ref 26), (1, .ref 13), (2, .int (x2 + 1)), (3, .int x3)], q.1.toList ++ [], q.2)) (q := (none, (hp tx pg rd e q10 sw))) 1 (fun _ => rfl) (ev_D_mark_B hq) ?_
      refine am_Ev.go 2 (st' := (10, [(0, .ref 26), (1, .ref 13), (2, .int (x2 + 1)), (3, .int (x3 + 1))], [], (hp tx pg rd e q10 sw))) (fun _ => rfl) ?_
      exact ih _ _ _ _ h
theorem ev_D_numberAnew_B {n0 : Nat} {tx : SB} {pg : SB} {rd : SR} {sw : Bool} {d : SD} {e : SD} {res : SD} (h : fn_D_numberAnew d e = some res) : am_run cPT cML (n0 + 2) 25 [.ref 26, .ref 13] (hp tx pg rd e d sw) = some (none, (hp tx pg rd e res sw)) := by
  refine am_run_of (d := n0 + 1) rfl ?_
  show am_Ev (tb_D_numberAnew (am_run cPT cML (n0 + 1))) (0, [(0, .ref 26), (1, .ref 13)], [], (hp tx pg rd e d sw)) (none, (hp tx pg rd e res sw))
  unfold fn_D_numberAnew at h
  obtain ⟨q11, hq, h⟩ := Option.bind_eq_some_iff.mp h
  refine am_Ev.go 3 (st' := (3, [(0, .ref 26), (1, .ref 13)], [.int 0, .int 0, .ref 26], (hp tx pg rd e d sw))) (fun _ => rfl) ?_
  refine am_Ev.call (o := am_run cPT cML (n0 + 1) 30 [.ref 26, .int 0, .int 0] (hp tx pg rd e d sw)) (kk := fun q => (6, [(0, .ref 26), (1, .ref 13)], q.1.toList ++ [], q.2)) (q := (none, (hp tx pg rd e q11 sw))) 1 (fun _ => rfl) (ev_D_mark_B hq) ?_
  refine am_Ev.go 4 (st' := (10, [(0, .ref 26), (1, .ref 13), (2, .int 0), (3, .int 0)], [], (hp tx pg rd e q11 sw))) (fun _ => rfl) ?_
  refine ev_D_numberAnew_10_B ?_ _ _ _ _ _ h
  intro x2_13 d_13 res h
  try dsimp only at h
  refine am_Ev.go 2 (st' := (41, [(0, .ref 26), (1, .ref 13), (2, .int x2_13), (3, .int 0)], [], (hp tx pg rd e d_13 sw))) (fun _ => rfl) ?_
  refine ev_D_numberAnew_41_B ?_ _ _ _ _ _ h
  intro x2_14 d_14 res h
  try dsimp only at h
  refine am_Ev.go 2 (st' := (72, [(0, .ref 26), (1, .ref 13), (2, .int x2_14), (3, .int 0)], [], (hp tx pg rd e d_14 sw))) (fun _ => rfl) ?_
  refine ev_D_numberAnew_72_B ?_ _ _ _ _ _ h
  intro x2_15 d_15 res h
  try dsimp only at h
  cases h
  exact am_Ev.done 4 rfl
theorem ev_D_renumbered_A {n0 : Nat} {tx : SB} {pg : SB} {rd : SR} {e : SD} {sw : Bool} {x1 : Int32} {d : SD} {res : Int32} (h : fn_D_renumbered x1 d = some res) : am_run cPT cML (n0 + 2) 29 [.ref 13, .int x1] (hp tx pg rd d e sw) = some (some (.int res), (hp tx pg rd d e sw)) := by
  refine am_run_of (d := n0 + 1) rfl ?_
  show am_Ev (tb_D_renumbered (am_run cPT cML (n0 + 1))) (0, [(0, .ref 13), (1, .int x1)], [], (hp tx pg rd d e sw)) (some (.int res), (hp tx pg rd d e sw))
  unfold fn_D_renumbered at h
  obtain ⟨q1, hq, h⟩ := Option.bind_eq_some_iff.mp h
  refine am_Ev.go 3 (st' := (3, [(0, .ref 13), (1, .int x1)], [.int x1, .ref 13, .int 2], (hp tx pg rd d e sw))) (fun _ => rfl) ?_
  refine am_Ev.call (o := am_run cPT cML (n0 + 1) 31 [.ref 13, .int x1] (hp tx pg rd d e sw)) (kk := fun q => (6, [(0, .ref 13), (1, .int x1)], q.1.toList ++ [.int 2], q.2)) (q := (some (.int q1), (hp tx pg rd d e sw))) 1 (fun _ => rfl) (ev_D_markOf_A hq) ?_
  cases h
  exact am_Ev.done 6 rfl
theorem ev_D_renumbered_B {n0 : Nat} {tx : SB} {pg : SB} {rd : SR} {e : SD} {sw : Bool} {x1 : Int32} {d : SD} {res : Int32} (h : fn_D_renumbered x1 d = some res) : am_run cPT cML (n0 + 2) 29 [.ref 26, .int x1] (hp tx pg rd e d sw) = some (some (.int res), (hp tx pg rd e d sw)) := by
  refine am_run_of (d := n0 + 1) rfl ?_
  show am_Ev (tb_D_renumbered (am_run cPT cML (n0 + 1))) (0, [(0, .ref 26), (1, .int x1)], [], (hp tx pg rd e d sw)) (some (.int res), (hp tx pg rd e d sw))
  unfold fn_D_renumbered at h
  obtain ⟨q1, hq, h⟩ := Option.bind_eq_some_iff.mp h
  refine am_Ev.go 3 (st' := (3, [(0, .ref 26), (1, .int x1)], [.int x1, .ref 26, .int 2], (hp tx pg rd e d sw))) (fun _ => rfl) ?_
  refine am_Ev.call (o := am_run cPT cML (n0 + 1) 31 [.ref 26, .int x1] (hp tx pg rd e d sw)) (kk := fun q => (6, [(0, .ref 26), (1, .int x1)], q.1.toList ++ [.int 2], q.2)) (q := (some (.int q1), (hp tx pg rd e d sw))) 1 (fun _ => rfl) (ev_D_markOf_B hq) ?_
  cases h
  exact am_Ev.done 6 rfl
theorem ev_W_digits_46_v {n0 : Nat} {tx : SB} {rd : SR} {a : SD} {b : SD} {sw : Bool} {x1 : Int32} {pg : SB} {res : SB} (h : fn_W_digits_46 x1 pg = some res) : am_Ev (tb_W_digits (am_run cPT cML (n0 + 1))) (46, [(0, .ref 12), (1, .int x1)], [], (hp tx pg rd a b sw)) (none, (hp tx res rd a b sw)) := by
  unfold fn_W_digits_46 at h
  obtain ⟨hc, h⟩ := am_ifn h
  refine am_Ev.guard (b := decide (¬ (10 : Int32) = 0)) (s1 := (56, [(0, .ref 12), (1, .int x1)], [.int (x1 - x1 / (10 : Int32) * (10 : Int32)), .int 48, .ref 3], (hp tx pg rd a b sw))) 6 (fun _ => rfl) hc ?_
  obtain ⟨q1, hq, h⟩ := Option.bind_eq_some_iff.mp h
  refine am_Ev.go 1 (st' := (57, [(0, .ref 12), (1, .int x1)], [.int ((48 : Int32) + (x1 - x1 / (10 : Int32) * (10 : Int32))), .ref 3], (hp tx pg rd a b sw))) (fun _ => rfl) ?_
  refine am_Ev.call (o := am_run cPT cML (n0 + 1) 2 [.ref 3, .int ((48 : Int32) + (x1 - x1 / (10 : Int32) * (10 : Int32)))] (hp tx pg rd a b sw)) (kk := fun q => (60, [(0, .ref 12), (1, .int x1)], q.1.toList ++ [], q.2)) (q := (none, (hp tx q1 rd a b sw))) 1 (fun _ => rfl) (ev_B_add_p hq) ?_
  cases h
  exact am_Ev.done 1 rfl
theorem ev_W_digits_23_v {n0 : Nat} {tx : SB} {rd : SR} {a : SD} {b : SD} {sw : Bool} {x1 : Int32} {pg : SB} {res : SB} (h : fn_W_digits_23 x1 pg = some res) : am_Ev (tb_W_digits (am_run cPT cML (n0 + 1))) (23, [(0, .ref 12), (1, .int x1)], [], (hp tx pg rd a b sw)) (none, (hp tx res rd a b sw)) := by
  unfold fn_W_digits_23 at h
  refine am_Ev.fork (b := decide (x1 < (10 : Int32))) (s1 := (46, [(0, .ref 12), (1, .int x1)], [], (hp tx pg rd a b sw))) (s2 := (29, [(0, .ref 12), (1, .int x1)], [], (hp tx pg rd a b sw))) 3 (fun _ => rfl) (fun hc => ?_) (fun hc => ?_)
  · have h := (am_ift hc).symm.trans h
    exact ev_W_digits_46_v h
  · have h := (am_iff hc).symm.trans h
    obtain ⟨hc, h⟩ := am_ifn h
    refine am_Ev.guard (b := decide (¬ (10 : Int32) = 0)) (s1 := (39, [(0, .ref 12), (1, .int x1)], [.int (x1 / (10 : Int32)), .int 48, .ref 3], (hp tx pg rd a b sw))) 6 (fun _ => rfl) hc ?_
    obtain ⟨hc, h⟩ := am_ifn h
    refine am_Ev.guard (b := decide (¬ (10 : Int32) = 0)) (s1 := (42, [(0, .ref 12), (1, .int x1)], [.int ((x1 / (10 : Int32)) - (x1 / (10 : Int32)) / (10 : Int32) * (10 : Int32)), .int 48, .ref 3], (hp tx pg rd a b sw))) 2 (fun _ => rfl) hc ?_
    obtain ⟨q2, hq, h⟩ := Option.bind_eq_some_iff.mp h
    refine am_Ev.go 1 (st' := (43, [(0, .ref 12), (1, .int x1)], [.int ((48 : Int32) + ((x1 / (10 : Int32)) - (x1 / (10 : Int32)) / (10 : Int32) * (10 : Int32))), .ref 3], (hp tx pg rd a b sw))) (fun _ => rfl) ?_
    refine am_Ev.call (o := am_run cPT cML (n0 + 1) 2 [.ref 3, .int ((48 : Int32) + ((x1 / (10 : Int32)) - (x1 / (10 : Int32)) / (10 : Int32) * (10 : Int32)))] (hp tx pg rd a b sw)) (kk := fun q => (46, [(0, .ref 12), (1, .int x1)], q.1.toList ++ [], q.2)) (q := (none, (hp tx q2 rd a b sw))) 1 (fun _ => rfl) (ev_B_add_p hq) ?_
    exact ev_W_digits_46_v h
theorem ev_W_digits_v {n0 : Nat} {tx : SB} {rd : SR} {a : SD} {b : SD} {sw : Bool} {x1 : Int32} {pg : SB} {res : SB} (h : fn_W_digits x1 pg = some res) : am_run cPT cML (n0 + 2) 39 [.ref 12, .int x1] (hp tx pg rd a b sw) = some (none, (hp tx res rd a b sw)) := by
  refine am_run_of (d := n0 + 1) rfl ?_
  show am_Ev (tb_W_digits (am_run cPT cML (n0 + 1))) (0, [(0, .ref 12), (1, .int x1)], [], (hp tx pg rd a b sw)) (none, (hp tx res rd a b sw))
  unfold fn_W_digits at h
  refine am_Ev.fork (b := decide (x1 < (100 : Int32))) (s1 := (23, [(0, .ref 12), (1, .int x1)], [], (hp tx pg rd a b sw))) (s2 := (6, [(0, .ref 12), (1, .int x1)], [], (hp tx pg rd a b sw))) 3 (fun _ => rfl) (fun hc => ?_) (fun hc => ?_)
  · have h := (am_ift hc).symm.trans h
    exact ev_W_digits_23_v h
  · have h := (am_iff hc).symm.trans h
    obtain ⟨hc, h⟩ := am_ifn h
    refine am_Ev.guard (b := decide (¬ (100 : Int32) = 0)) (s1 := (16, [(0, .ref 12), (1, .int x1)], [.int (x1 / (100 : Int32)), .int 48, .ref 3], (hp tx pg rd a b sw))) 6 (fun _ => rfl) hc ?_
    obtain ⟨hc, h⟩ := am_ifn h
    refine am_Ev.guard (b := decide (¬ (10 : Int32) = 0)) (s1 := (19, [(0, .ref 12), (1, .int x1)], [.int ((x1 / (100 : Int32)) - (x1 / (100 : Int32)) / (10 : Int32) * (10 : Int32)), .int 48, .ref 3], (hp tx pg rd a b sw))) 2 (fun _ => rfl) hc ?_
    obtain ⟨q3, hq, h⟩ := Option.bind_eq_some_iff.mp h
    refine am_Ev.go 1 (st' := (20, [(0, .ref 12), (1, .int x1)], [.int ((48 : Int32) + ((x1 / (100 : Int32)) - (x1 / (100 : Int32)) / (10 : Int32) * (10 : Int32))), .ref 3], (hp tx pg rd a b sw))) (fun _ => rfl) ?_
    refine am_Ev.call (o := am_run cPT cML (n0 + 1) 2 [.ref 3, .int ((48 : Int32) + ((x1 / (100 : Int32)) - (x1 / (100 : Int32)) / (10 : Int32) * (10 : Int32)))] (hp tx pg rd a b sw)) (kk := fun q => (23, [(0, .ref 12), (1, .int x1)], q.1.toList ++ [], q.2)) (q := (none, (hp tx q3 rd a b sw))) 1 (fun _ => rfl) (ev_B_add_p hq) ?_
    exact ev_W_digits_23_v h
theorem ev_W_difference_v {n0 : Nat} {tx : SB} {rd : SR} {a : SD} {b : SD} {sw : Bool} {x1 : Int32} {pg : SB} {res : SB} (h : fn_W_difference x1 pg = some res) : am_run cPT cML (n0 + 2) 40 [.ref 12, .int x1] (hp tx pg rd a b sw) = some (none, (hp tx res rd a b sw)) := by
  refine am_run_of (d := n0 + 1) rfl ?_
  show am_Ev (tb_W_difference (am_run cPT cML (n0 + 1))) (0, [(0, .ref 12), (1, .int x1)], [], (hp tx pg rd a b sw)) (none, (hp tx res rd a b sw))
  unfold fn_W_difference at h
  refine am_Ev.fork (b := decide (x1 < (128 : Int32))) (s1 := (38, [(0, .ref 12), (1, .int x1)], [], (hp tx pg rd a b sw))) (s2 := (7, [(0, .ref 12), (1, .int x1)], [], (hp tx pg rd a b sw))) 3 (fun _ => rfl) (fun hc => ?_) (fun hc => ?_)
  · have h := (am_ift hc).symm.trans h
    obtain ⟨q1, hq, h⟩ := Option.bind_eq_some_iff.mp h
    refine am_Ev.go 3 (st' := (43, [(0, .ref 12), (1, .int x1)], [.int x1, .ref 3], (hp tx pg rd a b sw))) (fun _ => rfl) ?_
    refine am_Ev.call (o := am_run cPT cML (n0 + 1) 2 [.ref 3, .int x1] (hp tx pg rd a b sw)) (kk := fun q => (46, [(0, .ref 12), (1, .int x1)], q.1.toList ++ [], q.2)) (q := (none, (hp tx q1 rd a b sw))) 1 (fun _ => rfl) (ev_B_add_p hq) ?_
    cases h
    exact am_Ev.done 1 rfl
  · have h := (am_iff hc).symm.trans h
    obtain ⟨hc, h⟩ := am_ifn h
    refine am_Ev.guard (b := decide (¬ (128 : Int32) = 0)) (s1 := (16, [(0, .ref 12), (1, .int x1)], [.int (x1 - x1 / (128 : Int32) * (128 : Int32)), .ref 3], (hp tx pg rd a b sw))) 5 (fun _ => rfl) hc ?_
    obtain ⟨q2, hq, h⟩ := Option.bind_eq_some_iff.mp h
    refine am_Ev.go 2 (st' := (20, [(0, .ref 12), (1, .int x1)], [.int ((x1 - x1 / (128 : Int32) * (128 : Int32)) + (128 : Int32)), .ref 3], (hp tx pg rd a b sw))) (fun _ => rfl) ?_
    refine am_Ev.call (o := am_run cPT cML (n0 + 1) 2 [.ref 3, .int ((x1 - x1 / (128 : Int32) * (128 : Int32)) + (128 : Int32))] (hp tx pg rd a b sw)) (kk := fun q => (23, [(0, .ref 12), (1, .int x1)], q.1.toList ++ [], q.2)) (q := (none, (hp tx q2 rd a b sw))) 1 (fun _ => rfl) (ev_B_add_p hq) ?_
    obtain ⟨hc, h⟩ := am_ifn h
    refine am_Ev.guard (b := decide (¬ (128 : Int32) = 0)) (s1 := (32, [(0, .ref 12), (1, .int x1)], [.int (x1 / (128 : Int32)), .ref 3], (hp tx q2 rd a b sw))) 5 (fun _ => rfl) hc ?_
    obtain ⟨q3, hq, h⟩ := Option.bind_eq_some_iff.mp h
    refine am_Ev.call (o := am_run cPT cML (n0 + 1) 2 [.ref 3, .int (x1 / (128 : Int32))] (hp tx q2 rd a b sw)) (kk := fun q => (35, [(0, .ref 12), (1, .int x1)], q.1.toList ++ [], q.2)) (q := (none, (hp tx q3 rd a b sw))) 1 (fun _ => rfl) (ev_B_add_p hq) ?_
    cases h
    exact am_Ev.done 2 rfl
theorem ev_R_closing_v {n0 : Nat} {pg : SB} {a : SD} {b : SD} {sw : Bool} {tx : SB} {rd : SR} {res : SR} (h : fn_R_closing tx rd = some res) : am_run cPT cML (n0 + 2) 47 [.ref 5] (hp tx pg rd a b sw) = some (none, (hp tx pg res a b sw)) := by
  refine am_run_of (d := n0 + 1) rfl ?_
  show am_Ev (tb_R_closing (am_run cPT cML (n0 + 1))) (0, [(0, .ref 5)], [], (hp tx pg rd a b sw)) (none, (hp tx pg res a b sw))
  unfold fn_R_closing at h
  obtain ⟨q1, hq, h⟩ := Option.bind_eq_some_iff.mp h
  refine am_Ev.go 4 (st' := (8, [(0, .ref 5)], [.int rd.2.2.2.2.2.2.2.1, .ref 1], (hp tx pg rd a b sw))) (fun _ => rfl) ?_
  refine am_Ev.call (o := am_run cPT cML (n0 + 1) 3 [.ref 1, .int rd.2.2.2.2.2.2.2.1] (hp tx pg rd a b sw)) (kk := fun q => (11, [(0, .ref 5)], q.1.toList ++ [], q.2)) (q := (some (.int q1), (hp tx pg rd a b sw))) 1 (fun _ => rfl) (ev_B_at_t hq) ?_
  refine am_Ev.fork (b := decide (q1 = (-1 : Int32))) (s1 := (31, [(0, .ref 5), (1, .int q1)], [], (hp tx pg rd a b sw))) (s2 := (17, [(0, .ref 5), (1, .int q1)], [], (hp tx pg rd a b sw))) 4 (fun _ => rfl) (fun hc => ?_) (fun hc => ?_)
  · have h := (am_ift hc).symm.trans h
    cases h
    exact am_Ev.done 1 rfl
  · have h := (am_iff hc).symm.trans h
    refine am_Ev.fork (b := decide (q1 = (99 : Int32))) (s1 := (31, [(0, .ref 5), (1, .int q1)], [], (hp tx pg rd a b sw))) (s2 := (23, [(0, .ref 5), (1, .int q1)], [], (hp tx pg rd a b sw))) 3 (fun _ => rfl) (fun hc => ?_) (fun hc => ?_)
    · have h := (am_ift hc).symm.trans h
      cases h
      exact am_Ev.done 1 rfl
    · have h := (am_iff hc).symm.trans h
      obtain ⟨q2, hq, h⟩ := Option.bind_eq_some_iff.mp h
      refine am_Ev.go 3 (st' := (28, [(0, .ref 5), (1, .int q1)], [.int rd.2.2.2.2.2.2.2.1, .ref 5], (hp tx pg rd a b sw))) (fun _ => rfl) ?_
      refine am_Ev.call (o := am_run cPT cML (n0 + 1) 60 [.ref 5, .int rd.2.2.2.2.2.2.2.1] (hp tx pg rd a b sw)) (kk := fun q => (31, [(0, .ref 5), (1, .int q1)], q.1.toList ++ [], q.2)) (q := (none, (hp tx pg q2 a b sw))) 1 (fun _ => rfl) (ev_R_fail_v hq) ?_
      cases h
      exact am_Ev.done 1 rfl
theorem ev_R_findUndefined_2_v {n0 : Nat} {tx : SB} {pg : SB} {a : SD} {b : SD} {sw : Bool} {κ : SR → Option (SR)} (hκ : ∀ (rd : SR) (res : SR), κ rd = some res → am_Ev (tb_R_findUndefined (am_run cPT cML (n0 + 1))) (75, [], [], (hp tx pg rd a b sw)) (none, (hp tx pg res a b sw))) : ∀ (n : Nat) (x1 : Int32) (rd : SR) (res : SR), fn_R_findUndefined_2 κ n x1 rd = some res → am_Ev (tb_R_findUndefined (am_run cPT cML (n0 + 1))) (2, [(0, .ref 5), (1, .int x1)], [], (hp tx pg rd a b sw)) (none, (hp tx pg res a b sw)) := by
  intro n
  induction n with
  | zero => intro x1 rd res h; unfold fn_R_findUndefined_2 at h; cases h
  | succ n ih =>
    intro x1 rd res h
    unfold fn_R_findUndefined_2 at h
    refine am_Ev.fork (b := decide (rd.2.2.2.2.2.2.1 ≤ x1)) (s1 := (75, [(0, .ref 5), (1, .int x1)], [], (hp tx pg rd a b sw))) (s2 := (10, [(0, .ref 5), (1, .int x1)], [], (hp tx pg rd a b sw))) 4 (fun _ => rfl) (fun hc => ?_) (fun hc => ?_)
    · have h := (am_ift hc).symm.trans h
      refine am_Ev.same (st' := (75, [], [], (hp tx pg rd a b sw))) (fun _ => rfl) ?_
      exact hκ _ _ h
    · have h := (am_iff hc).symm.trans h
      refine am_Ev.fork (b := decide ((136 : Int32) ≤ x1)) (s1 := (75, [(0, .ref 5), (1, .int x1)], [], (hp tx pg rd a b sw))) (s2 := (19, [(0, .ref 5), (1, .int x1)], [], (hp tx pg rd a b sw))) 5 (fun _ => rfl) (fun hc => ?_) (fun hc => ?_)
      · have h := (am_ift hc).symm.trans h
        refine am_Ev.same (st' := (75, [], [], (hp tx pg rd a b sw))) (fun _ => rfl) ?_
        exact hκ _ _ h
      · have h := (am_iff hc).symm.trans h
        refine am_Ev.fork (b := decide ((136 : Int32) ≤ x1)) (s1 := (75, [(0, .ref 5), (1, .int x1)], [], (hp tx pg rd a b sw))) (s2 := (28, [(0, .ref 5), (1, .int x1)], [], (hp tx pg rd a b sw))) 5 (fun _ => rfl) (fun hc => ?_) (fun hc => ?_)
        · have h := (am_ift hc).symm.trans h
          refine am_Ev.same (st' := (75, [], [], (hp tx pg rd a b sw))) (fun _ => rfl) ?_
          exact hκ _ _ h
        · have h := (am_iff hc).symm.trans h
          obtain ⟨hc, h⟩ := am_ifn h
          refine am_Ev.guard (b := decide (0 ≤ x1.toInt ∧ x1.toInt < (136 : Int))) (s1 := (34, [(0, .ref 5), (1, .int x1)], [.int (rd.2.1 x1.toNatClampNeg)], (hp tx pg rd a b sw))) 4 (fun _ => rfl) hc ?_
          refine am_Ev.fork (b := decide (((rd.2.1 x1.toNatClampNeg) >>> ((1 : Int32) &&& 31)) ≤ 0)) (s1 := (69, [(0, .ref 5), (1, .int x1), (2, .int ((rd.2.1 x1.toNatClampNeg) >>> ((1 : Int32) &&& 31)))], [], (hp tx pg rd a b sw))) (s2 := (41, [(0, .ref 5), (1, .int x1), (2, .int ((rd.2.1 x1.toNatClampNeg) >>> ((1 : Int32) &&& 31)))], [], (hp tx pg rd a b sw))) 5 (fun _ => rfl) (fun hc => ?_) (fun hc => ?_)
          · have h := (am_ift hc).symm.trans h
            refine am_Ev.go 2 (st' := (2, [(0, .ref 5), (1, .int (x1 + 1)), (2, .int ((rd.2.1 x1.toNatClampNeg) >>> ((1 : Int32) &&& 31)))], [], (hp tx pg rd a b sw))) (fun _ => rfl) ?_
            refine am_Ev.same (st' := (2, [(0, .ref 5), (1, .int (x1 + 1))], [], (hp tx pg rd a b sw))) (fun _ => rfl) ?_
            exact ih _ _ _ h
          · have h := (am_iff hc).symm.trans h
            refine am_Ev.fork (b := decide ((100 : Int32) ≤ ((rd.2.1 x1.toNatClampNeg) >>> ((1 : Int32) &&& 31)))) (s1 := (69, [(0, .ref 5), (1, .int x1), (2, .int ((rd.2.1 x1.toNatClampNeg) >>> ((1 : Int32) &&& 31)))], [], (hp tx pg rd a b sw))) (s2 := (50, [(0, .ref 5), (1, .int x1), (2, .int ((rd.2.1 x1.toNatClampNeg) >>> ((1 : Int32) &&& 31)))], [], (hp tx pg rd a b sw))) 5 (fun _ => rfl) (fun hc => ?_) (fun hc => ?_)
            · have h := (am_ift hc).symm.trans h
              refine am_Ev.go 2 (st' := (2, [(0, .ref 5), (1, .int (x1 + 1)), (2, .int ((rd.2.1 x1.toNatClampNeg) >>> ((1 : Int32) &&& 31)))], [], (hp tx pg rd a b sw))) (fun _ => rfl) ?_
              refine am_Ev.same (st' := (2, [(0, .ref 5), (1, .int (x1 + 1))], [], (hp tx pg rd a b sw))) (fun _ => rfl) ?_
              exact ih _ _ _ h
            · have h := (am_iff hc).symm.trans h
              obtain ⟨hc, h⟩ := am_ifn h
              refine am_Ev.guard (b := decide (0 ≤ ((rd.2.1 x1.toNatClampNeg) >>> ((1 : Int32) &&& 31)).toInt ∧ ((rd.2.1 x1.toNatClampNeg) >>> ((1 : Int32) &&& 31)).toInt < (100 : Int))) (s1 := (56, [(0, .ref 5), (1, .int x1), (2, .int ((rd.2.1 x1.toNatClampNeg) >>> ((1 : Int32) &&& 31)))], [.int (rd.1 (((rd.2.1 x1.toNatClampNeg) >>> ((1 : Int32) &&& 31)).toNatClampNeg))], (hp tx pg rd a b sw))) 4 (fun _ => rfl) hc ?_
              refine am_Ev.fork (b := decide ((rd.1 (((rd.2.1 x1.toNatClampNeg) >>> ((1 : Int32) &&& 31)).toNatClampNeg)) = 0)) (s1 := (59, [(0, .ref 5), (1, .int x1), (2, .int ((rd.2.1 x1.toNatClampNeg) >>> ((1 : Int32) &&& 31)))], [], (hp tx pg rd a b sw))) (s2 := (69, [(0, .ref 5), (1, .int x1), (2, .int ((rd.2.1 x1.toNatClampNeg) >>> ((1 : Int32) &&& 31)))], [], (hp tx pg rd a b sw))) 1 (fun _ => rfl) (fun hc => ?_) (fun hc => ?_)
              · have h := (am_ift hc).symm.trans h
                obtain ⟨hc, h⟩ := am_ifn h
                refine am_Ev.guard (b := decide (0 ≤ x1.toInt ∧ x1.toInt < (136 : Int))) (s1 := (66, [(0, .ref 5), (1, .int x1), (2, .int ((rd.2.1 x1.toNatClampNeg) >>> ((1 : Int32) &&& 31)))], [.int (rd.2.2.1 x1.toNatClampNeg), .ref 5], (hp tx pg rd a b sw))) 5 (fun _ => rfl) hc ?_
                obtain ⟨q1, hq, h⟩ := Option.bind_eq_some_iff.mp h
                refine am_Ev.call (o := am_run cPT cML (n0 + 1) 60 [.ref 5, .int (rd.2.2.1 x1.toNatClampNeg)] (hp tx pg rd a b sw)) (kk := fun q => (69, [(0, .ref 5), (1, .int x1), (2, .int ((rd.2.1 x1.toNatClampNeg) >>> ((1 : Int32) &&& 31)))], q.1.toList ++ [], q.2)) (q := (none, (hp tx pg q1 a b sw))) 1 (fun _ => rfl) (ev_R_fail_v hq) ?_
                refine am_Ev.go 2 (st' := (2, [(0, .ref 5), (1, .int (x1 + 1)), (2, .int ((rd.2.1 x1.toNatClampNeg) >>> ((1 : Int32) &&& 31)))], [], (hp tx pg q1 a b sw))) (fun _ => rfl) ?_
                refine am_Ev.same (st' := (2, [(0, .ref 5), (1, .int (x1 + 1))], [], (hp tx pg q1 a b sw))) (fun _ => rfl) ?_
                exact ih _ _ _ h
              · have h := (am_iff hc).symm.trans h
                refine am_Ev.go 2 (st' := (2, [(0, .ref 5), (1, .int (x1 + 1)), (2, .int ((rd.2.1 x1.toNatClampNeg) >>> ((1 : Int32) &&& 31)))], [], (hp tx pg rd a b sw))) (fun _ => rfl) ?_
                refine am_Ev.same (st' := (2, [(0, .ref 5), (1, .int (x1 + 1))], [], (hp tx pg rd a b sw))) (fun _ => rfl) ?_
                exact ih _ _ _ h
theorem ev_R_findUndefined_v {n0 : Nat} {tx : SB} {pg : SB} {a : SD} {b : SD} {sw : Bool} {rd : SR} {res : SR} (h : fn_R_findUndefined rd = some res) : am_run cPT cML (n0 + 2) 48 [.ref 5] (hp tx pg rd a b sw) = some (none, (hp tx pg res a b sw)) := by
  refine am_run_of (d := n0 + 1) rfl ?_
  show am_Ev (tb_R_findUndefined (am_run cPT cML (n0 + 1))) (0, [(0, .ref 5)], [], (hp tx pg rd a b sw)) (none, (hp tx pg res a b sw))
  unfold fn_R_findUndefined at h
  refine am_Ev.go 2 (st' := (2, [(0, .ref 5), (1, .int 0)], [], (hp tx pg rd a b sw))) (fun _ => rfl) ?_
  refine ev_R_findUndefined_2_v ?_ _ _ _ _ h
  intro rd_3 res h
  try dsimp only at h
  cases h
  exact am_Ev.done 1 rfl
theorem ev_R_noteWhatGatesRestOn_74_A {n0 : Nat} {tx : SB} {pg : SB} {e : SD} {sw : Bool} {x2 : Int32} {d : SD} {κ : SR → Option (SR)} (hκ : ∀ (rd : SR) (res : SR), κ rd = some res → am_Ev (tb_R_noteWhatGatesRestOn (am_run cPT cML (n0 + 1))) (123, [], [], (hp tx pg rd d e sw)) (none, (hp tx pg res d e sw))) : ∀ (n : Nat) (x3 : Int32) (rd : SR) (res : SR), fn_R_noteWhatGatesRestOn_74 x2 d κ n x3 rd = some res → am_Ev (tb_R_noteWhatGatesRestOn (am_run cPT cML (n0 + 1))) (74, [(0, .ref 5), (1, .ref 13), (2, .int x2), (3, .int x3)], [], (hp tx pg rd d e sw)) (none, (hp tx pg res d e sw)) := by
  intro n
  induction n with
  | zero => intro x3 rd res h; unfold fn_R_noteWhatGatesRestOn_74 at h; cases h
  | succ n ih =>
    intro x3 rd res h
    unfold fn_R_noteWhatGatesRestOn_74 at h
    refine am_Ev.fork (b := decide (x2 ≤ x3)) (s1 := (123, [(0, .ref 5), (1, .ref 13), (2, .int x2), (3, .int x3)], [], (hp tx pg rd d e sw))) (s2 := (79, [(0, .ref 5), (1, .ref 13), (2, .int x2), (3, .int x3)], [], (hp tx pg rd d e sw))) 3 (fun _ => rfl) (fun hc => ?_) (fun hc => ?_)
    · have h := (am_ift hc).symm.trans h
      refine am_Ev.same (st' := (123, [], [], (hp tx pg rd d e sw))) (fun _ => rfl) ?_
      exact hκ _ _ h
    · have h := (am_iff hc).symm.trans h
      refine am_Ev.fork (b := decide ((60 : Int32) ≤ x3)) (s1 := (123, [(0, .ref 5), (1, .ref 13), (2, .int x2), (3, .int x3)], [], (hp tx pg rd d e sw))) (s2 := (88, [(0, .ref 5), (1, .ref 13), (2, .int x2), (3, .int x3)], [], (hp tx pg rd d e sw))) 5 (fun _ => rfl) (fun hc => ?_) (fun hc => ?_)
      · have h := (am_ift hc).symm.trans h
        refine am_Ev.same (st' := (123, [], [], (hp tx pg rd d e sw))) (fun _ => rfl) ?_
        exact hκ _ _ h
      · have h := (am_iff hc).symm.trans h
        obtain ⟨q1, hq, h⟩ := Option.bind_eq_some_iff.mp h
        refine am_Ev.go 7 (st' := (98, [(0, .ref 5), (1, .ref 13), (2, .int x2), (3, .int x3)], [.int x3, .int 6, .ref 13, .ref 5, .int x3, .ref 11], (hp tx pg rd d e sw))) (fun _ => rfl) ?_
        refine am_Ev.call (o := am_run cPT cML (n0 + 1) 10 [.ref 13, .int 6, .int x3] (hp tx pg rd d e sw)) (kk := fun q => (101, [(0, .ref 5), (1, .ref 13), (2, .int x2), (3, .int x3)], q.1.toList ++ [.ref 5, .int x3, .ref 11], q.2)) (q := (some (.int q1), (hp tx pg rd d e sw))) 1 (fun _ => rfl) (ev_D_get_A hq) ?_
        obtain ⟨q2, hq, h⟩ := Option.bind_eq_some_iff.mp h
        refine am_Ev.call (o := am_run cPT cML (n0 + 1) 51 [.ref 5, .int q1] (hp tx pg rd d e sw)) (kk := fun q => (104, [(0, .ref 5), (1, .ref 13), (2, .int x2), (3, .int x3)], q.1.toList ++ [.int x3, .ref 11], q.2)) (q := (some (.long q2), (hp tx pg rd d e sw))) 1 (fun _ => rfl) (ev_R_gateBit_v hq) ?_
        obtain ⟨q3, hq, h⟩ := Option.bind_eq_some_iff.mp h
        refine am_Ev.go 4 (st' := (109, [(0, .ref 5), (1, .ref 13), (2, .int x2), (3, .int x3)], [.int x3, .int 7, .ref 13, .ref 5, .long q2, .int x3, .ref 11], (hp tx pg rd d e sw))) (fun _ => rfl) ?_
        refine am_Ev.call (o := am_run cPT cML (n0 + 1) 10 [.ref 13, .int 7, .int x3] (hp tx pg rd d e sw)) (kk := fun q => (112, [(0, .ref 5), (1, .ref 13), (2, .int x2), (3, .int x3)], q.1.toList ++ [.ref 5, .long q2, .int x3, .ref 11], q.2)) (q := (some (.int q3), (hp tx pg rd d e sw))) 1 (fun _ => rfl) (ev_D_get_A hq) ?_
        obtain ⟨q4, hq, h⟩ := Option.bind_eq_some_iff.mp h
        refine am_Ev.call (o := am_run cPT cML (n0 + 1) 51 [.ref 5, .int q3] (hp tx pg rd d e sw)) (kk := fun q => (115, [(0, .ref 5), (1, .ref 13), (2, .int x2), (3, .int x3)], q.1.toList ++ [.long q2, .int x3, .ref 11], q.2)) (q := (some (.long q4), (hp tx pg rd d e sw))) 1 (fun _ => rfl) (ev_R_gateBit_v hq) ?_
        obtain ⟨hc, h⟩ := am_ifn h
        refine am_Ev.guard (b := decide (0 ≤ x3.toInt ∧ x3.toInt < (60 : Int))) (s1 := (117, [(0, .ref 5), (1, .ref 13), (2, .int x2), (3, .int x3)], [], (hp tx pg (rd.1, rd.2.1, rd.2.2.1, rd.2.2.2.1, rd.2.2.2.2.1, vp_updL rd.2.2.2.2.2.1 x3.toNatClampNeg ((q2 ||| q4)), rd.2.2.2.2.2.2.1, rd.2.2.2.2.2.2.2.1, rd.2.2.2.2.2.2.2.2) d e sw))) 2 (fun _ => rfl) hc ?_
        refine am_Ev.go 2 (st' := (74, [(0, .ref 5), (1, .ref 13), (2, .int x2), (3, .int (x3 + 1))], [], (hp tx pg (rd.1, rd.2.1, rd.2.2.1, rd.2.2.2.1, rd.2.2.2.2.1, vp_updL rd.2.2.2.2.2.1 x3.toNatClampNeg ((q2 ||| q4)), rd.2.2.2.2.2.2.1, rd.2.2.2.2.2.2.2.1, rd.2.2.2.2.2.2.2.2) d e sw))) (fun _ => rfl) ?_
        exact ih _ _ _ h
theorem ev_R_noteWhatGatesRestOn_26_A {n0 : Nat} {tx : SB} {pg : SB} {e : SD} {sw : Bool} {x2 : Int32} {d : SD} {κ : SR → Option (SR)} (hκ : ∀ (rd : SR) (res : SR), κ rd = some res → am_Ev (tb_R_noteWhatGatesRestOn (am_run cPT cML (n0 + 1))) (72, [(0, .ref 5), (1, .ref 13), (2, .int x2)], [], (hp tx pg rd d e sw)) (none, (hp tx pg res d e sw))) : ∀ (n : Nat) (x3 : Int32) (rd : SR) (res : SR), fn_R_noteWhatGatesRestOn_26 x2 d κ n x3 rd = some res → am_Ev (tb_R_noteWhatGatesRestOn (am_run cPT cML (n0 + 1))) (26, [(0, .ref 5), (1, .ref 13), (2, .int x2), (3, .int x3)], [], (hp tx pg rd d e sw)) (none, (hp tx pg res d e sw)) := by
  intro n
  induction n with
  | zero => intro x3 rd res h; unfold fn_R_noteWhatGatesRestOn_26 at h; cases h
  | succ n ih =>
    intro x3 rd res h
    unfold fn_R_noteWhatGatesRestOn_26 at h
    refine am_Ev.fork (b := decide (x2 ≤ x3)) (s1 := (72, [(0, .ref 5), (1, .ref 13), (2, .int x2), (3, .int x3)], [], (hp tx pg rd d e sw))) (s2 := (31, [(0, .ref 5), (1, .ref 13), (2, .int x2), (3, .int x3)], [], (hp tx pg rd d e sw))) 3 (fun _ => rfl) (fun hc => ?_) (fun hc => ?_)
    · have h := (am_ift hc).symm.trans h
      refine am_Ev.same (st' := (72, [(0, .ref 5), (1, .ref 13), (2, .int x2)], [], (hp tx pg rd d e sw))) (fun _ => rfl) ?_
      exact hκ _ _ h
    · have h := (am_iff hc).symm.trans h
      obtain ⟨q5, hq, h⟩ := Option.bind_eq_some_iff.mp h
      refine am_Ev.go 3 (st' := (34, [(0, .ref 5), (1, .ref 13), (2, .int x2), (3, .int x3)], [.int x3, .int 3, .ref 13], (hp tx pg rd d e sw))) (fun _ => rfl) ?_
      refine am_Ev.call (o := am_run cPT cML (n0 + 1) 10 [.ref 13, .int 3, .int x3] (hp tx pg rd d e sw)) (kk := fun q => (37, [(0, .ref 5), (1, .ref 13), (2, .int x2), (3, .int x3)], q.1.toList ++ [], q.2)) (q := (some (.int q5), (hp tx pg rd d e sw))) 1 (fun _ => rfl) (ev_D_get_A hq) ?_
      refine am_Ev.fork (b := decide ((q5 >>> ((1 : Int32) &&& 31)) < 0)) (s1 := (66, [(0, .ref 5), (1, .ref 13), (2, .int x2), (3, .int x3), (4, .int (q5 >>> ((1 : Int32) &&& 31)))], [], (hp tx pg rd d e sw))) (s2 := (46, [(0, .ref 5), (1, .ref 13), (2, .int x2), (3, .int x3), (4, .int (q5 >>> ((1 : Int32) &&& 31)))], [], (hp tx pg rd d e sw))) 5 (fun _ => rfl) (fun hc => ?_) (fun hc => ?_)
      · have h := (am_ift hc).symm.trans h
        refine am_Ev.go 2 (st' := (26, [(0, .ref 5), (1, .ref 13), (2, .int x2), (3, .int (x3 + 1)), (4, .int (q5 >>> ((1 : Int32) &&& 31)))], [], (hp tx pg rd d e sw))) (fun _ => rfl) ?_
        refine am_Ev.same (st' := (26, [(0, .ref 5), (1, .ref 13), (2, .int x2), (3, .int (x3 + 1))], [], (hp tx pg rd d e sw))) (fun _ => rfl) ?_
        exact ih _ _ _ h
      · have h := (am_iff hc).symm.trans h
        refine am_Ev.fork (b := decide ((100 : Int32) ≤ (q5 >>> ((1 : Int32) &&& 31)))) (s1 := (66, [(0, .ref 5), (1, .ref 13), (2, .int x2), (3, .int x3), (4, .int (q5 >>> ((1 : Int32) &&& 31)))], [], (hp tx pg rd d e sw))) (s2 := (56, [(0, .ref 5), (1, .ref 13), (2, .int x2), (3, .int x3), (4, .int (q5 >>> ((1 : Int32) &&& 31)))], [], (hp tx pg rd d e sw))) 5 (fun _ => rfl) (fun hc => ?_) (fun hc => ?_)
        · have h := (am_ift hc).symm.trans h
          refine am_Ev.go 2 (st' := (26, [(0, .ref 5), (1, .ref 13), (2, .int x2), (3, .int (x3 + 1)), (4, .int (q5 >>> ((1 : Int32) &&& 31)))], [], (hp tx pg rd d e sw))) (fun _ => rfl) ?_
          refine am_Ev.same (st' := (26, [(0, .ref 5), (1, .ref 13), (2, .int x2), (3, .int (x3 + 1))], [], (hp tx pg rd d e sw))) (fun _ => rfl) ?_
          exact ih _ _ _ h
        · have h := (am_iff hc).symm.trans h
          obtain ⟨hc, h⟩ := am_ifn h
          refine am_Ev.guard (b := decide (0 ≤ (q5 >>> ((1 : Int32) &&& 31)).toInt ∧ (q5 >>> ((1 : Int32) &&& 31)).toInt < (100 : Int))) (s1 := (66, [(0, .ref 5), (1, .ref 13), (2, .int x2), (3, .int x3), (4, .int (q5 >>> ((1 : Int32) &&& 31)))], [], (hp tx pg (rd.1, rd.2.1, rd.2.2.1, rd.2.2.2.1, vp_updL rd.2.2.2.2.1 (q5 >>> ((1 : Int32) &&& 31)).toNatClampNeg (((1 : Int64) <<< (x3.toInt64 &&& 63))), rd.2.2.2.2.2.1, rd.2.2.2.2.2.2.1, rd.2.2.2.2.2.2.2.1, rd.2.2.2.2.2.2.2.2) d e sw))) 7 (fun _ => rfl) hc ?_
          refine am_Ev.go 2 (st' := (26, [(0, .ref 5), (1, .ref 13), (2, .int x2), (3, .int (x3 + 1)), (4, .int (q5 >>> ((1 : Int32) &&& 31)))], [], (hp tx pg (rd.1, rd.2.1, rd.2.2.1, rd.2.2.2.1, vp_updL rd.2.2.2.2.1 (q5 >>> ((1 : Int32) &&& 31)).toNatClampNeg (((1 : Int64) <<< (x3.toInt64 &&& 63))), rd.2.2.2.2.2.1, rd.2.2.2.2.2.2.1, rd.2.2.2.2.2.2.2.1, rd.2.2.2.2.2.2.2.2) d e sw))) (fun _ => rfl) ?_
          refine am_Ev.same (st' := (26, [(0, .ref 5), (1, .ref 13), (2, .int x2), (3, .int (x3 + 1))], [], (hp tx pg (rd.1, rd.2.1, rd.2.2.1, rd.2.2.2.1, vp_updL rd.2.2.2.2.1 (q5 >>> ((1 : Int32) &&& 31)).toNatClampNeg (((1 : Int64) <<< (x3.toInt64 &&& 63))), rd.2.2.2.2.2.1, rd.2.2.2.2.2.2.1, rd.2.2.2.2.2.2.2.1, rd.2.2.2.2.2.2.2.2) d e sw))) (fun _ => rfl) ?_
          exact ih _ _ _ h
theorem ev_R_noteWhatGatesRestOn_2_A {n0 : Nat} {tx : SB} {pg : SB} {e : SD} {sw : Bool} {x2 : Int32} {d : SD} {κ : SR → Option (SR)} (hκ : ∀ (rd : SR) (res : SR), κ rd = some res → am_Ev (tb_R_noteWhatGatesRestOn (am_run cPT cML (n0 + 1))) (24, [(0, .ref 5), (1, .ref 13), (2, .int x2)], [], (hp tx pg rd d e sw)) (none, (hp tx pg res d e sw))) : ∀ (n : Nat) (x3 : Int32) (rd : SR) (res : SR), fn_R_noteWhatGatesRestOn_2 x2 d κ n x3 rd = some res → am_Ev (tb_R_noteWhatGatesRestOn (am_run cPT cML (n0 + 1))) (2, [(0, .ref 5), (1, .ref 13), (2, .int x2), (3, .int x3)], [], (hp tx pg rd d e sw)) (none, (hp tx pg res d e sw)) := by
  intro n
  induction n with
  | zero => intro x3 rd res h; unfold fn_R_noteWhatGatesRestOn_2 at h; cases h
  | succ n ih =>
    intro x3 rd res h
    unfold fn_R_noteWhatGatesRestOn_2 at h
    refine am_Ev.fork (b := decide ((100 : Int32) ≤ x3)) (s1 := (24, [(0, .ref 5), (1, .ref 13), (2, .int x2), (3, .int x3)], [], (hp tx pg rd d e sw))) (s2 := (11, [(0, .ref 5), (1, .ref 13), (2, .int x2), (3, .int x3)], [], (hp tx pg rd d e sw))) 5 (fun _ => rfl) (fun hc => ?_) (fun hc => ?_)
    · have h := (am_ift hc).symm.trans h
      refine am_Ev.same (st' := (24, [(0, .ref 5), (1, .ref 13), (2, .int x2)], [], (hp tx pg rd d e sw))) (fun _ => rfl) ?_
      exact hκ _ _ h
    · have h := (am_iff hc).symm.trans h
      obtain ⟨hc, h⟩ := am_ifn h
      refine am_Ev.guard (b := decide (0 ≤ x3.toInt ∧ x3.toInt < (100 : Int))) (s1 := (18, [(0, .ref 5), (1, .ref 13), (2, .int x2), (3, .int x3)], [], (hp tx pg (rd.1, rd.2.1, rd.2.2.1, rd.2.2.2.1, vp_updL rd.2.2.2.2.1 x3.toNatClampNeg ((0 : Int64)), rd.2.2.2.2.2.1, rd.2.2.2.2.2.2.1, rd.2.2.2.2.2.2.2.1, rd.2.2.2.2.2.2.2.2) d e sw))) 5 (fun _ => rfl) hc ?_
      refine am_Ev.go 2 (st' := (2, [(0, .ref 5), (1, .ref 13), (2, .int x2), (3, .int (x3 + 1))], [], (hp tx pg (rd.1, rd.2.1, rd.2.2.1, rd.2.2.2.1, vp_updL rd.2.2.2.2.1 x3.toNatClampNeg ((0 : Int64)), rd.2.2.2.2.2.1, rd.2.2.2.2.2.2.1, rd.2.2.2.2.2.2.2.1, rd.2.2.2.2.2.2.2.2) d e sw))) (fun _ => rfl) ?_
      exact ih _ _ _ h
theorem ev_R_noteWhatGatesRestOn_A {n0 : Nat} {tx : SB} {pg : SB} {e : SD} {sw : Bool} {x2 : Int32} {rd : SR} {d : SD} {res : SR} (h : fn_R_noteWhatGatesRestOn x2 rd d = some res) : am_run cPT cML (n0 + 2) 50 [.ref 5, .ref 13, .int x2] (hp tx pg rd d e sw) = some (none, (hp tx pg res d e sw)) := by
  refine am_run_of (d := n0 + 1) rfl ?_
  show am_Ev (tb_R_noteWhatGatesRestOn (am_run cPT cML (n0 + 1))) (0, [(0, .ref 5), (1, .ref 13), (2, .int x2)], [], (hp tx pg rd d e sw)) (none, (hp tx pg res d e sw))
  unfold fn_R_noteWhatGatesRestOn at h
  refine am_Ev.go 2 (st' := (2, [(0, .ref 5), (1, .ref 13), (2, .int x2), (3, .int 0)], [], (hp tx pg rd d e sw))) (fun _ => rfl) ?_
  refine ev_R_noteWhatGatesRestOn_2_A ?_ _ _ _ _ h
  intro rd_7 res h
  try dsimp only at h
  refine am_Ev.go 2 (st' := (26, [(0, .ref 5), (1, .ref 13), (2, .int x2), (3, .int 0)], [], (hp tx pg rd_7 d e sw))) (fun _ => rfl) ?_
  refine ev_R_noteWhatGatesRestOn_26_A ?_ _ _ _ _ h
  intro rd_8 res h
  try dsimp only at h
  refine am_Ev.go 2 (st' := (74, [(0, .ref 5), (1, .ref 13), (2, .int x2), (3, .int 0)], [], (hp tx pg rd_8 d e sw))) (fun _ => rfl) ?_
  refine ev_R_noteWhatGatesRestOn_74_A ?_ _ _ _ _ h
  intro rd_9 res h
  try dsimp only at h
  cases h
  exact am_Ev.done 1 rfl
theorem ev_R_noteWhatGatesRestOn_74_B {n0 : Nat} {tx : SB} {pg : SB} {e : SD} {sw : Bool} {x2 : Int32} {d : SD} {κ : SR → Option (SR)} (hκ : ∀ (rd : SR) (res : SR), κ rd = some res → am_Ev (tb_R_noteWhatGatesRestOn (am_run cPT cML (n0 + 1))) (123, [], [], (hp tx pg rd e d sw)) (none, (hp tx pg res e d sw))) : ∀ (n : Nat) (x3 : Int32) (rd : SR) (res : SR), fn_R_noteWhatGatesRestOn_74 x2 d κ n x3 rd = some res → am_Ev (tb_R_noteWhatGatesRestOn (am_run cPT cML (n0 + 1))) (74, [(0, .ref 5), (1, .ref 26), (2, .int x2), (3, .int x3)], [], (hp tx pg rd e d sw)) (none, (hp tx pg res e d sw)) := by
  intro n
  induction n with
  | zero => intro x3 rd res h; unfold fn_R_noteWhatGatesRestOn_74 at h; cases h
  | succ n ih =>
    intro x3 rd res h
    unfold fn_R_noteWhatGatesRestOn_74 at h
    refine am_Ev.fork (b := decide (x2 ≤ x3)) (s1 := (123, [(0, .ref 5), (1, .ref 26), (2, .int x2), (3, .int x3)], [], (hp tx pg rd e d sw))) (s2 := (79, [(0, .ref 5), (1, .ref 26), (2, .int x2), (3, .int x3)], [], (hp tx pg rd e d sw))) 3 (fun _ => rfl) (fun hc => ?_) (fun hc => ?_)
    · have h := (am_ift hc).symm.trans h
      refine am_Ev.same (st' := (123, [], [], (hp tx pg rd e d sw))) (fun _ => rfl) ?_
      exact hκ _ _ h
    · have h := (am_iff hc).symm.trans h
      refine am_Ev.fork (b := decide ((60 : Int32) ≤ x3)) (s1 := (123, [(0, .ref 5), (1, .ref 26), (2, .int x2), (3, .int x3)], [], (hp tx pg rd e d sw))) (s2 := (88, [(0, .ref 5), (1, .ref 26), (2, .int x2), (3, .int x3)], [], (hp tx pg rd e d sw))) 5 (fun _ => rfl) (fun hc => ?_) (fun hc => ?_)
      · have h := (am_ift hc).symm.trans h
        refine am_Ev.same (st' := (123, [], [], (hp tx pg rd e d sw))) (fun _ => rfl) ?_
        exact hκ _ _ h
      · have h := (am_iff hc).symm.trans h
        obtain ⟨q1, hq, h⟩ := Option.bind_eq_some_iff.mp h
        refine am_Ev.go 7 (st' := (98, [(0, .ref 5), (1, .ref 26), (2, .int x2), (3, .int x3)], [.int x3, .int 6, .ref 26, .ref 5, .int x3, .ref 11], (hp tx pg rd e d sw))) (fun _ => rfl) ?_
        refine am_Ev.call (o := am_run cPT cML (n0 + 1) 10 [.ref 26, .int 6, .int x3] (hp tx pg rd e d sw)) (kk := fun q => (101, [(0, .ref 5), (1, .ref 26), (2, .int x2), (3, .int x3)], q.1.toList ++ [.ref 5, .int x3, .ref 11], q.2)) (q := (some (.int q1), (hp tx pg rd e d sw))) 1 (fun _ => rfl) (ev_D_get_B hq) ?_
        obtain ⟨q2, hq, h⟩ := Option.bind_eq_some_iff.mp h
        refine am_Ev.call (o := am_run cPT cML (n0 + 1) 51 [.ref 5, .int q1] (hp tx pg rd e d sw)) (kk := fun q => (104, [(0, .ref 5), (1, .ref 26), (2, .int x2), (3, .int x3)], q.1.toList ++ [.int x3, .ref 11], q.2)) (q := (some (.long q2), (hp tx pg rd e d sw))) 1 (fun _ => rfl) (ev_R_gateBit_v hq) ?_
        obtain ⟨q3, hq, h⟩ := Option.bind_eq_some_iff.mp h
        refine am_Ev.go 4 (st' := (109, [(0, .ref 5), (1, .ref 26), (2, .int x2), (3, .int x3)], [.int x3, .int 7, .ref 26, .ref 5, .long q2, .int x3, .ref 11], (hp tx pg rd e d sw))) (fun _ => rfl) ?_
        refine am_Ev.call (o := am_run cPT cML (n0 + 1) 10 [.ref 26, .int 7, .int x3] (hp tx pg rd e d sw)) (kk := fun q => (112, [(0, .ref 5), (1, .ref 26), (2, .int x2), (3, .int x3)], q.1.toList ++ [.ref 5, .long q2, .int x3, .ref 11], q.2)) (q := (some (.int q3), (hp tx pg rd e d sw))) 1 (fun _ => rfl) (ev_D_get_B hq) ?_
        obtain ⟨q4, hq, h⟩ := Option.bind_eq_some_iff.mp h
        refine am_Ev.call (o := am_run cPT cML (n0 + 1) 51 [.ref 5, .int q3] (hp tx pg rd e d sw)) (kk := fun q => (115, [(0, .ref 5), (1, .ref 26), (2, .int x2), (3, .int x3)], q.1.toList ++ [.long q2, .int x3, .ref 11], q.2)) (q := (some (.long q4), (hp tx pg rd e d sw))) 1 (fun _ => rfl) (ev_R_gateBit_v hq) ?_
        obtain ⟨hc, h⟩ := am_ifn h
        refine am_Ev.guard (b := decide (0 ≤ x3.toInt ∧ x3.toInt < (60 : Int))) (s1 := (117, [(0, .ref 5), (1, .ref 26), (2, .int x2), (3, .int x3)], [], (hp tx pg (rd.1, rd.2.1, rd.2.2.1, rd.2.2.2.1, rd.2.2.2.2.1, vp_updL rd.2.2.2.2.2.1 x3.toNatClampNeg ((q2 ||| q4)), rd.2.2.2.2.2.2.1, rd.2.2.2.2.2.2.2.1, rd.2.2.2.2.2.2.2.2) e d sw))) 2 (fun _ => rfl) hc ?_
        refine am_Ev.go 2 (st' := (74, [(0, .ref 5), (1, .ref 26), (2, .int x2), (3, .int (x3 + 1))], [], (hp tx pg (rd.1, rd.2.1, rd.2.2.1, rd.2.2.2.1, rd.2.2.2.2.1, vp_updL rd.2.2.2.2.2.1 x3.toNatClampNeg ((q2 ||| q4)), rd.2.2.2.2.2.2.1, rd.2.2.2.2.2.2.2.1, rd.2.2.2.2.2.2.2.2) e d sw))) (fun _ => rfl) ?_
        exact ih _ _ _ h
theorem ev_R_noteWhatGatesRestOn_26_B {n0 : Nat} {tx : SB} {pg : SB} {e : SD} {sw : Bool} {x2 : Int32} {d : SD} {κ : SR → Option (SR)} (hκ : ∀ (rd : SR) (res : SR), κ rd = some res → am_Ev (tb_R_noteWhatGatesRestOn (am_run cPT cML (n0 + 1))) (72, [(0, .ref 5), (1, .ref 26), (2, .int x2)], [], (hp tx pg rd e d sw)) (none, (hp tx pg res e d sw))) : ∀ (n : Nat) (x3 : Int32) (rd : SR) (res : SR), fn_R_noteWhatGatesRestOn_26 x2 d κ n x3 rd = some res → am_Ev (tb_R_noteWhatGatesRestOn (am_run cPT cML (n0 + 1))) (26, [(0, .ref 5), (1, .ref 26), (2, .int x2), (3, .int x3)], [], (hp tx pg rd e d sw)) (none, (hp tx pg res e d sw)) := by
  intro n
  induction n with
  | zero => intro x3 rd res h; unfold fn_R_noteWhatGatesRestOn_26 at h; cases h
  | succ n ih =>
    intro x3 rd res h
    unfold fn_R_noteWhatGatesRestOn_26 at h
    refine am_Ev.fork (b := decide (x2 ≤ x3)) (s1 := (72, [(0, .ref 5), (1, .ref 26), (2, .int x2), (3, .int x3)], [], (hp tx pg rd e d sw))) (s2 := (31, [(0, .ref 5), (1, .ref 26), (2, .int x2), (3, .int x3)], [], (hp tx pg rd e d sw))) 3 (fun _ => rfl) (fun hc => ?_) (fun hc => ?_)
    · have h := (am_ift hc).symm.trans h
      refine am_Ev.same (st' := (72, [(0, .ref 5), (1, .ref 26), (2, .int x2)], [], (hp tx pg rd e d sw))) (fun _ => rfl) ?_
      exact hκ _ _ h
    · have h := (am_iff hc).symm.trans h
      obtain ⟨q5, hq, h⟩ := Option.bind_eq_some_iff.mp h
      refine am_Ev.go 3 (st' := (34, [(0, .ref 5), (1, .ref 26), (2, .int x2), (3, .int x3)], [.int x3, .int 3, .ref 26], (hp tx pg rd e d sw))) (fun _ => rfl) ?_
      refine am_Ev.call (o := am_run cPT cML (n0 + 1) 10 [.ref 26, .int 3, .int x3] (hp tx pg rd e d sw)) (kk := fun q => (37, [(0, .ref 5), (1, .ref 26), (2, .int x2), (3, .int x3)], q.1.toList ++ [], q.2)) (q := (some (.int q5), (hp tx pg rd e d sw))) 1 (fun _ => rfl) (ev_D_get_B hq) ?_
      refine am_Ev.fork (b := decide ((q5 >>> ((1 : Int32) &&& 31)) < 0)) (s1 := (66, [(0, .ref 5), (1, .ref 26), (2, .int x2), (3, .int x3), (4, .int (q5 >>> ((1 : Int32) &&& 31)))], [], (hp tx pg rd e d sw))) (s2 := (46, [(0, .ref 5), (1, .ref 26), (2, .int x2), (3, .int x3), (4, .int (q5 >>> ((1 : Int32) &&& 31)))], [], (hp tx pg rd e d sw))) 5 (fun _ => rfl) (fun hc => ?_) (fun hc => ?_)
      · have h := (am_ift hc).symm.trans h
        refine am_Ev.go 2 (st' := (26, [(0, .ref 5), (1, .ref 26), (2, .int x2), (3, .int (x3 + 1)), (4, .int (q5 >>> ((1 : Int32) &&& 31)))], [], (hp tx pg rd e d sw))) (fun _ => rfl) ?_
        refine am_Ev.same (st' := (26, [(0, .ref 5), (1, .ref 26), (2, .int x2), (3, .int (x3 + 1))], [], (hp tx pg rd e d sw))) (fun _ => rfl) ?_
        exact ih _ _ _ h
      · have h := (am_iff hc).symm.trans h
        refine am_Ev.fork (b := decide ((100 : Int32) ≤ (q5 >>> ((1 : Int32) &&& 31)))) (s1 := (66, [(0, .ref 5), (1, .ref 26), (2, .int x2), (3, .int x3), (4, .int (q5 >>> ((1 : Int32) &&& 31)))], [], (hp tx pg rd e d sw))) (s2 := (56, [(0, .ref 5), (1, .ref 26), (2, .int x2), (3, .int x3), (4, .int (q5 >>> ((1 : Int32) &&& 31)))], [], (hp tx pg rd e d sw))) 5 (fun _ => rfl) (fun hc => ?_) (fun hc => ?_)
        · have h := (am_ift hc).symm.trans h
          refine am_Ev.go 2 (st' := (26, [(0, .ref 5), (1, .ref 26), (2, .int x2), (3, .int (x3 + 1)), (4, .int (q5 >>> ((1 : Int32) &&& 31)))], [], (hp tx pg rd e d sw))) (fun _ => rfl) ?_
          refine am_Ev.same (st' := (26, [(0, .ref 5), (1, .ref 26), (2, .int x2), (3, .int (x3 + 1))], [], (hp tx pg rd e d sw))) (fun _ => rfl) ?_
          exact ih _ _ _ h
        · have h := (am_iff hc).symm.trans h
          obtain ⟨hc, h⟩ := am_ifn h
          refine am_Ev.guard (b := decide (0 ≤ (q5 >>> ((1 : Int32) &&& 31)).toInt ∧ (q5 >>> ((1 : Int32) &&& 31)).toInt < (100 : Int))) (s1 := (66, [(0, .ref 5), (1, .ref 26), (2, .int x2), (3, .int x3), (4, .int (q5 >>> ((1 : Int32) &&& 31)))], [], (hp tx pg (rd.1, rd.2.1, rd.2.2.1, rd.2.2.2.1, vp_updL rd.2.2.2.2.1 (q5 >>> ((1 : Int32) &&& 31)).toNatClampNeg (((1 : Int64) <<< (x3.toInt64 &&& 63))), rd.2.2.2.2.2.1, rd.2.2.2.2.2.2.1, rd.2.2.2.2.2.2.2.1, rd.2.2.2.2.2.2.2.2) e d sw))) 7 (fun _ => rfl) hc ?_
          refine am_Ev.go 2 (st' := (26, [(0, .ref 5), (1, .ref 26), (2, .int x2), (3, .int (x3 + 1)), (4, .int (q5 >>> ((1 : Int32) &&& 31)))], [], (hp tx pg (rd.1, rd.2.1, rd.2.2.1, rd.2.2.2.1, vp_updL rd.2.2.2.2.1 (q5 >>> ((1 : Int32) &&& 31)).toNatClampNeg (((1 : Int64) <<< (x3.toInt64 &&& 63))), rd.2.2.2.2.2.1, rd.2.2.2.2.2.2.1, rd.2.2.2.2.2.2.2.1, rd.2.2.2.2.2.2.2.2) e d sw))) (fun _ => rfl) ?_
          refine am_Ev.same (st' := (26, [(0, .ref 5), (1, .ref 26), (2, .int x2), (3, .int (x3 + 1))], [], (hp tx pg (rd.1, rd.2.1, rd.2.2.1, rd.2.2.2.1, vp_updL rd.2.2.2.2.1 (q5 >>> ((1 : Int32) &&& 31)).toNatClampNeg (((1 : Int64) <<< (x3.toInt64 &&& 63))), rd.2.2.2.2.2.1, rd.2.2.2.2.2.2.1, rd.2.2.2.2.2.2.2.1, rd.2.2.2.2.2.2.2.2) e d sw))) (fun _ => rfl) ?_
          exact ih _ _ _ h
theorem ev_R_noteWhatGatesRestOn_2_B {n0 : Nat} {tx : SB} {pg : SB} {e : SD} {sw : Bool} {x2 : Int32} {d : SD} {κ : SR → Option (SR)} (hκ : ∀ (rd : SR) (res : SR), κ rd = some res → am_Ev (tb_R_noteWhatGatesRestOn (am_run cPT cML (n0 + 1))) (24, [(0, .ref 5), (1, .ref 26), (2, .int x2)], [], (hp tx pg rd e d sw)) (none, (hp tx pg res e d sw))) : ∀ (n : Nat) (x3 : Int32) (rd : SR) (res : SR), fn_R_noteWhatGatesRestOn_2 x2 d κ n x3 rd = some res → am_Ev (tb_R_noteWhatGatesRestOn (am_run cPT cML (n0 + 1))) (2, [(0, .ref 5), (1, .ref 26), (2, .int x2), (3, .int x3)], [], (hp tx pg rd e d sw)) (none, (hp tx pg res e d sw)) := by
  intro n
  induction n with
  | zero => intro x3 rd res h; unfold fn_R_noteWhatGatesRestOn_2 at h; cases h
  | succ n ih =>
    intro x3 rd res h
    unfold fn_R_noteWhatGatesRestOn_2 at h
    refine am_Ev.fork (b := decide ((100 : Int32) ≤ x3)) (s1 := (24, [(0, .ref 5), (1, .ref 26), (2, .int x2), (3, .int x3)], [], (hp tx pg rd e d sw))) (s2 := (11, [(0, .ref 5), (1, .ref 26), (2, .int x2), (3, .int x3)], [], (hp tx pg rd e d sw))) 5 (fun _ => rfl) (fun hc => ?_) (fun hc => ?_)
    · have h := (am_ift hc).symm.trans h
      refine am_Ev.same (st' := (24, [(0, .ref 5), (1, .ref 26), (2, .int x2)], [], (hp tx pg rd e d sw))) (fun _ => rfl) ?_
      exact hκ _ _ h
    · have h := (am_iff hc).symm.trans h
      obtain ⟨hc, h⟩ := am_ifn h
      refine am_Ev.guard (b := decide (0 ≤ x3.toInt ∧ x3.toInt < (100 : Int))) (s1 := (18, [(0, .ref 5), (1, .ref 26), (2, .int x2), (3, .int x3)], [], (hp tx pg (rd.1, rd.2.1, rd.2.2.1, rd.2.2.2.1, vp_updL rd.2.2.2.2.1 x3.toNatClampNeg ((0 : Int64)), rd.2.2.2.2.2.1, rd.2.2.2.2.2.2.1, rd.2.2.2.2.2.2.2.1, rd.2.2.2.2.2.2.2.2) e d sw))) 5 (fun _ => rfl) hc ?_
      refine am_Ev.go 2 (st' := (2, [(0, .ref 5), (1, .ref 26), (2, .int x2), (3, .int (x3 + 1))], [], (hp tx pg (rd.1, rd.2.1, rd.2.2.1, rd.2.2.2.1, vp_updL rd.2.2.2.2.1 x3.toNatClampNeg ((0 : Int64)), rd.2.2.2.2.2.1, rd.2.2.2.2.2.2.1, rd.2.2.2.2.2.2.2.1, rd.2.2.2.2.2.2.2.2) e d sw))) (fun _ => rfl) ?_
      exact ih _ _ _ h
theorem ev_R_noteWhatGatesRestOn_B {n0 : Nat} {tx : SB} {pg : SB} {e : SD} {sw : Bool} {x2 : Int32} {rd : SR} {d : SD} {res : SR} (h : fn_R_noteWhatGatesRestOn x2 rd d = some res) : am_run cPT cML (n0 + 2) 50 [.ref 5, .ref 26, .int x2] (hp tx pg rd e d sw) = some (none, (hp tx pg res e d sw)) := by
  refine am_run_of (d := n0 + 1) rfl ?_
  show am_Ev (tb_R_noteWhatGatesRestOn (am_run cPT cML (n0 + 1))) (0, [(0, .ref 5), (1, .ref 26), (2, .int x2)], [], (hp tx pg rd e d sw)) (none, (hp tx pg res e d sw))
  unfold fn_R_noteWhatGatesRestOn at h
  refine am_Ev.go 2 (st' := (2, [(0, .ref 5), (1, .ref 26), (2, .int x2), (3, .int 0)], [], (hp tx pg rd e d sw))) (fun _ => rfl) ?_
  refine ev_R_noteWhatGatesRestOn_2_B ?_ _ _ _ _ h
  intro rd_7 res h
  try dsimp only at h
  refine am_Ev.go 2 (st' := (26, [(0, .ref 5), (1, .ref 26), (2, .int x2), (3, .int 0)], [], (hp tx pg rd_7 e d sw))) (fun _ => rfl) ?_
  refine ev_R_noteWhatGatesRestOn_26_B ?_ _ _ _ _ h
  intro rd_8 res h
  try dsimp only at h
  refine am_Ev.go 2 (st' := (74, [(0, .ref 5), (1, .ref 26), (2, .int x2), (3, .int 0)], [], (hp tx pg rd_8 e d sw))) (fun _ => rfl) ?_
  refine ev_R_noteWhatGatesRestOn_74_B ?_ _ _ _ _ h
  intro rd_9 res h
  try dsimp only at h
  cases h
  exact am_Ev.done 1 rfl
