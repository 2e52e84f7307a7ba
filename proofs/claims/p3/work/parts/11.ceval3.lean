theorem ev_W_packed_37_A {n0 : Nat} {tx : SB} {rd : SR} {e : SD} {sw : Bool} {d : SD} {κ : SB → Option (SB)} (hκ : ∀ (pg : SB) (res : SB), κ pg = some res → am_Ev (tb_W_packed (am_run cPT cML (n0 + 4))) (85, [], [], (hp tx pg rd d e sw)) (none, (hp tx res rd d e sw))) : ∀ (n : Nat) (x2 : Int32) (pg : SB) (res : SB), fn_W_packed_37 d κ n x2 pg = some res → am_Ev (tb_W_packed (am_run cPT cML (n0 + 4))) (37, [(0, .ref 12), (1, .ref 13), (2, .int x2)], [], (hp tx pg rd d e sw)) (none, (hp tx res rd d e sw)) := by
  intro n
  induction n with
  | zero => intro x2 pg res h; unfold fn_W_packed_37 at h; cases h
  | succ n ih =>
    intro x2 pg res h
    unfold fn_W_packed_37 at h
    obtain ⟨q1, hq, h⟩ := Option.bind_eq_some_iff.mp h
    refine am_Ev.go 3 (st' := (40, [(0, .ref 12), (1, .ref 13), (2, .int x2)], [.int 3, .ref 13, .int x2], (hp tx pg rd d e sw))) (fun _ => rfl) ?_
    refine am_Ev.call (o := am_run cPT cML (n0 + 4) 7 [.ref 13, .int 3] (hp tx pg rd d e sw)) (kk := fun q => (43, [(0, .ref 12), (1, .ref 13), (2, .int x2)], q.1.toList ++ [.int x2], q.2)) (q := (some (.int q1), (hp tx pg rd d e sw))) 1 (fun _ => rfl) (ev_D_many_A hq) ?_
    refine am_Ev.fork (b := decide (q1 ≤ x2)) (s1 := (85, [(0, .ref 12), (1, .ref 13), (2, .int x2)], [], (hp tx pg rd d e sw))) (s2 := (46, [(0, .ref 12), (1, .ref 13), (2, .int x2)], [], (hp tx pg rd d e sw))) 1 (fun _ => rfl) (fun hc => ?_) (fun hc => ?_)
    · have h := (am_ift hc).symm.trans h
      refine am_Ev.same (st' := (85, [], [], (hp tx pg rd d e sw))) (fun _ => rfl) ?_
      exact hκ _ _ h
    · have h := (am_iff hc).symm.trans h
      obtain ⟨q2, hq, h⟩ := Option.bind_eq_some_iff.mp h
      refine am_Ev.go 3 (st' := (50, [(0, .ref 12), (1, .ref 13), (2, .int x2)], [.int x2, .int 6, .ref 13], (hp tx pg rd d e sw))) (fun _ => rfl) ?_
      refine am_Ev.call (o := am_run cPT cML (n0 + 4) 10 [.ref 13, .int 6, .int x2] (hp tx pg rd d e sw)) (kk := fun q => (53, [(0, .ref 12), (1, .ref 13), (2, .int x2)], q.1.toList ++ [], q.2)) (q := (some (.int q2), (hp tx pg rd d e sw))) 1 (fun _ => rfl) (ev_D_get_A hq) ?_
      obtain ⟨q3, hq, h⟩ := Option.bind_eq_some_iff.mp h
      refine am_Ev.go 5 (st' := (58, [(0, .ref 12), (1, .ref 13), (2, .int x2), (3, .int q2)], [.int x2, .int 3, .ref 13, .ref 12], (hp tx pg rd d e sw))) (fun _ => rfl) ?_
      refine am_Ev.call (o := am_run cPT cML (n0 + 4) 10 [.ref 13, .int 3, .int x2] (hp tx pg rd d e sw)) (kk := fun q => (61, [(0, .ref 12), (1, .ref 13), (2, .int x2), (3, .int q2)], q.1.toList ++ [.ref 12], q.2)) (q := (some (.int q3), (hp tx pg rd d e sw))) 1 (fun _ => rfl) (ev_D_get_A hq) ?_
      obtain ⟨q4, hq, h⟩ := Option.bind_eq_some_iff.mp h
      refine am_Ev.go 2 (st' := (63, [(0, .ref 12), (1, .ref 13), (2, .int x2), (3, .int q2)], [.int (q3 - q2), .ref 12], (hp tx pg rd d e sw))) (fun _ => rfl) ?_
      refine am_Ev.call (o := am_run cPT cML (n0 + 4) 40 [.ref 12, .int (q3 - q2)] (hp tx pg rd d e sw)) (kk := fun q => (66, [(0, .ref 12), (1, .ref 13), (2, .int x2), (3, .int q2)], q.1.toList ++ [], q.2)) (q := (none, (hp tx q4 rd d e sw))) 1 (fun _ => rfl) (ev_W_difference_v hq) ?_
      obtain ⟨q5, hq, h⟩ := Option.bind_eq_some_iff.mp h
      refine am_Ev.go 5 (st' := (72, [(0, .ref 12), (1, .ref 13), (2, .int x2), (3, .int q2)], [.int x2, .int 7, .ref 13, .int q2, .ref 12], (hp tx q4 rd d e sw))) (fun _ => rfl) ?_
      refine am_Ev.call (o := am_run cPT cML (n0 + 4) 10 [.ref 13, .int 7, .int x2] (hp tx q4 rd d e sw)) (kk := fun q => (75, [(0, .ref 12), (1, .ref 13), (2, .int x2), (3, .int q2)], q.1.toList ++ [.int q2, .ref 12], q.2)) (q := (some (.int q5), (hp tx q4 rd d e sw))) 1 (fun _ => rfl) (ev_D_get_A hq) ?_
      obtain ⟨q6, hq, h⟩ := Option.bind_eq_some_iff.mp h
      refine am_Ev.go 1 (st' := (76, [(0, .ref 12), (1, .ref 13), (2, .int x2), (3, .int q2)], [.int (q2 - q5), .ref 12], (hp tx q4 rd d e sw))) (fun _ => rfl) ?_
      refine am_Ev.call (o := am_run cPT cML (n0 + 4) 40 [.ref 12, .int (q2 - q5)] (hp tx q4 rd d e sw)) (kk := fun q => (79, [(0, .ref 12), (1, .ref 13), (2, .int x2), (3, .int q2)], q.1.toList ++ [], q.2)) (q := (none, (hp tx q6 rd d e sw))) 1 (fun _ => rfl) (ev_W_difference_v hq) ?_
      refine am_Ev.go 2 (st' := (37, [(0, .ref 12), (1, .ref 13), (2, .int (x2 + 1)), (3, .int q2)], [], (hp tx q6 rd d e sw))) (fun _ => rfl) ?_
      refine am_Ev.same (st' := (37, [(0, .ref 12), (1, .ref 13), (2, .int (x2 + 1))], [], (hp tx q6 rd d e sw))) (fun _ => rfl) ?_
      exact ih _ _ _ h
theorem ev_W_packed_9_A {n0 : Nat} {tx : SB} {rd : SR} {e : SD} {sw : Bool} {d : SD} {κ : SB → Option (SB)} (hκ : ∀ (pg : SB) (res : SB), κ pg = some res → am_Ev (tb_W_packed (am_run cPT cML (n0 + 4))) (30, [(0, .ref 12), (1, .ref 13)], [], (hp tx pg rd d e sw)) (none, (hp tx res rd d e sw))) : ∀ (n : Nat) (x2 : Int32) (pg : SB) (res : SB), fn_W_packed_9 d κ n x2 pg = some res → am_Ev (tb_W_packed (am_run cPT cML (n0 + 4))) (9, [(0, .ref 12), (1, .ref 13), (2, .int x2)], [], (hp tx pg rd d e sw)) (none, (hp tx res rd d e sw)) := by
  intro n
  induction n with
  | zero => intro x2 pg res h; unfold fn_W_packed_9 at h; cases h
  | succ n ih =>
    intro x2 pg res h
    unfold fn_W_packed_9 at h
    obtain ⟨q7, hq, h⟩ := Option.bind_eq_some_iff.mp h
    refine am_Ev.go 3 (st' := (12, [(0, .ref 12), (1, .ref 13), (2, .int x2)], [.int 1, .ref 13, .int x2], (hp tx pg rd d e sw))) (fun _ => rfl) ?_
    refine am_Ev.call (o := am_run cPT cML (n0 + 4) 7 [.ref 13, .int 1] (hp tx pg rd d e sw)) (kk := fun q => (15, [(0, .ref 12), (1, .ref 13), (2, .int x2)], q.1.toList ++ [.int x2], q.2)) (q := (some (.int q7), (hp tx pg rd d e sw))) 1 (fun _ => rfl) (ev_D_many_A hq) ?_
    refine am_Ev.fork (b := decide (q7 ≤ x2)) (s1 := (30, [(0, .ref 12), (1, .ref 13), (2, .int x2)], [], (hp tx pg rd d e sw))) (s2 := (18, [(0, .ref 12), (1, .ref 13), (2, .int x2)], [], (hp tx pg rd d e sw))) 1 (fun _ => rfl) (fun hc => ?_) (fun hc => ?_)
    · have h := (am_ift hc).symm.trans h
      refine am_Ev.same (st' := (30, [(0, .ref 12), (1, .ref 13)], [], (hp tx pg rd d e sw))) (fun _ => rfl) ?_
      exact hκ _ _ h
    · have h := (am_iff hc).symm.trans h
      obtain ⟨q8, hq, h⟩ := Option.bind_eq_some_iff.mp h
      refine am_Ev.go 3 (st' := (21, [(0, .ref 12), (1, .ref 13), (2, .int x2)], [.int x2, .ref 13, .ref 12], (hp tx pg rd d e sw))) (fun _ => rfl) ?_
      refine am_Ev.call (o := am_run cPT cML (n0 + 4) 35 [.ref 12, .ref 13, .int x2] (hp tx pg rd d e sw)) (kk := fun q => (24, [(0, .ref 12), (1, .ref 13), (2, .int x2)], q.1.toList ++ [], q.2)) (q := (none, (hp tx q8 rd d e sw))) 1 (fun _ => rfl) (ev_W_nextAndFirst_A hq) ?_
      refine am_Ev.go 2 (st' := (9, [(0, .ref 12), (1, .ref 13), (2, .int (x2 + 1))], [], (hp tx q8 rd d e sw))) (fun _ => rfl) ?_
      exact ih _ _ _ h
theorem ev_W_packed_A {n0 : Nat} {tx : SB} {rd : SR} {e : SD} {sw : Bool} {pg : SB} {d : SD} {res : SB} (h : fn_W_packed pg d = some res) : am_run cPT cML (n0 + 5) 33 [.ref 12, .ref 13] (hp tx pg rd d e sw) = some (none, (hp tx res rd d e sw)) := by
  refine am_run_of (d := n0 + 4) rfl ?_
  show am_Ev (tb_W_packed (am_run cPT cML (n0 + 4))) (0, [(0, .ref 12), (1, .ref 13)], [], (hp tx pg rd d e sw)) (none, (hp tx res rd d e sw))
  unfold fn_W_packed at h
  obtain ⟨q9, hq, h⟩ := Option.bind_eq_some_iff.mp h
  refine am_Ev.go 3 (st' := (4, [(0, .ref 12), (1, .ref 13)], [.int 105, .ref 13, .ref 12], (hp tx pg rd d e sw))) (fun _ => rfl) ?_
  refine am_Ev.call (o := am_run cPT cML (n0 + 4) 34 [.ref 12, .ref 13, .int 105] (hp tx pg rd d e sw)) (kk := fun q => (7, [(0, .ref 12), (1, .ref 13)], q.1.toList ++ [], q.2)) (q := (none, (hp tx q9 rd d e sw))) 1 (fun _ => rfl) (ev_W_header_A hq) ?_
  refine am_Ev.go 2 (st' := (9, [(0, .ref 12), (1, .ref 13), (2, .int 0)], [], (hp tx q9 rd d e sw))) (fun _ => rfl) ?_
  refine ev_W_packed_9_A ?_ _ _ _ _ h
  intro pg_11 res h
  try dsimp only at h
  obtain ⟨q11, hq, h⟩ := Option.bind_eq_some_iff.mp h
  refine am_Ev.go 2 (st' := (32, [(0, .ref 12), (1, .ref 13)], [.ref 13, .ref 12], (hp tx pg_11 rd d e sw))) (fun _ => rfl) ?_
  refine am_Ev.call (o := am_run cPT cML (n0 + 4) 36 [.ref 12, .ref 13] (hp tx pg_11 rd d e sw)) (kk := fun q => (35, [(0, .ref 12), (1, .ref 13)], q.1.toList ++ [], q.2)) (q := (none, (hp tx q11 rd d e sw))) 1 (fun _ => rfl) (ev_W_outputs_A hq) ?_
  refine am_Ev.go 2 (st' := (37, [(0, .ref 12), (1, .ref 13), (2, .int 0)], [], (hp tx q11 rd d e sw))) (fun _ => rfl) ?_
  refine ev_W_packed_37_A ?_ _ _ _ _ h
  intro pg_13 res h
  try dsimp only at h
  cases h
  exact am_Ev.done 1 rfl
theorem ev_W_packed_37_B {n0 : Nat} {tx : SB} {rd : SR} {e : SD} {sw : Bool} {d : SD} {κ : SB → Option (SB)} (hκ : ∀ (pg : SB) (res : SB), κ pg = some res → am_Ev (tb_W_packed (am_run cPT cML (n0 + 4))) (85, [], [], (hp tx pg rd e d sw)) (none, (hp tx res rd e d sw))) : ∀ (n : Nat) (x2 : Int32) (pg : SB) (res : SB), fn_W_packed_37 d κ n x2 pg = some res → am_Ev (tb_W_packed (am_run cPT cML (n0 + 4))) (37, [(0, .ref 12), (1, .ref 26), (2, .int x2)], [], (hp tx pg rd e d sw)) (none, (hp tx res rd e d sw)) := by
  intro n
  induction n with
  | zero => intro x2 pg res h; unfold fn_W_packed_37 at h; cases h
  | succ n ih =>
    intro x2 pg res h
    unfold fn_W_packed_37 at h
    obtain ⟨q1, hq, h⟩ := Option.bind_eq_some_iff.mp h
    refine am_Ev.go 3 (st' := (40, [(0, .ref 12), (1, .ref 26), (2, .int x2)], [.int 3, .ref 26, .int x2], (hp tx pg rd e d sw))) (fun _ => rfl) ?_
    refine am_Ev.call (o := am_run cPT cML (n0 + 4) 7 [.ref 26, .int 3] (hp tx pg rd e d sw)) (kk := fun q => (43, [(0, .ref 12), (1, .ref 26), (2, .int x2)], q.1.toList ++ [.int x2], q.2)) (q := (some (.int q1), (hp tx pg rd e d sw))) 1 (fun _ => rfl) (ev_D_many_B hq) ?_
    refine am_Ev.fork (b := decide (q1 ≤ x2)) (s1 := (85, [(0, .ref 12), (1, .ref 26), (2, .int x2)], [], (hp tx pg rd e d sw))) (s2 := (46, [(0, .ref 12), (1, .ref 26), (2, .int x2)], [], (hp tx pg rd e d sw))) 1 (fun _ => rfl) (fun hc => ?_) (fun hc => ?_)
    · have h := (am_ift hc).symm.trans h
      refine am_Ev.same (st' := (85, [], [], (hp tx pg rd e d sw))) (fun _ => rfl) ?_
      exact hκ _ _ h
    · have h := (am_iff hc).symm.trans h
      obtain ⟨q2, hq, h⟩ := Option.bind_eq_some_iff.mp h
      refine am_Ev.go 3 (st' := (50, [(0, .ref 12), (1, .ref 26), (2, .int x2)], [.int x2, .int 6, .ref 26], (hp tx pg rd e d sw))) (fun _ => rfl) ?_
      refine am_Ev.call (o := am_run cPT cML (n0 + 4) 10 [.ref 26, .int 6, .int x2] (hp tx pg rd e d sw)) (kk := fun q => (53, [(0, .ref 12), (1, .ref 26), (2, .int x2)], q.1.toList ++ [], q.2)) (q := (some (.int q2), (hp tx pg rd e d sw))) 1 (fun _ => rfl) (ev_D_get_B hq) ?_
      obtain ⟨q3, hq, h⟩ := Option.bind_eq_some_iff.mp h
      refine am_Ev.go 5 (st' := (58, [(0, .ref 12), (1, .ref 26), (2, .int x2), (3, .int q2)], [.int x2, .int 3, .ref 26, .ref 12], (hp tx pg rd e d sw))) (fun _ => rfl) ?_
      refine am_Ev.call (o := am_run cPT cML (n0 + 4) 10 [.ref 26, .int 3, .int x2] (hp tx pg rd e d sw)) (kk := fun q => (61, [(0, .ref 12), (1, .ref 26), (2, .int x2), (3, .int q2)], q.1.toList ++ [.ref 12], q.2)) (q := (some (.int q3), (hp tx pg rd e d sw))) 1 (fun _ => rfl) (ev_D_get_B hq) ?_
      obtain ⟨q4, hq, h⟩ := Option.bind_eq_some_iff.mp h
      refine am_Ev.go 2 (st' := (63, [(0, .ref 12), (1, .ref 26), (2, .int x2), (3, .int q2)], [.int (q3 - q2), .ref 12], (hp tx pg rd e d sw))) (fun _ => rfl) ?_
      refine am_Ev.call (o := am_run cPT cML (n0 + 4) 40 [.ref 12, .int (q3 - q2)] (hp tx pg rd e d sw)) (kk := fun q => (66, [(0, .ref 12), (1, .ref 26), (2, .int x2), (3, .int q2)], q.1.toList ++ [], q.2)) (q := (none, (hp tx q4 rd e d sw))) 1 (fun _ => rfl) (ev_W_difference_v hq) ?_
      obtain ⟨q5, hq, h⟩ := Option.bind_eq_some_iff.mp h
      refine am_Ev.go 5 (st' := (72, [(0, .ref 12), (1, .ref 26), (2, .int x2), (3, .int q2)], [.int x2, .int 7, .ref 26, .int q2, .ref 12], (hp tx q4 rd e d sw))) (fun _ => rfl) ?_
      refine am_Ev.call (o := am_run cPT cML (n0 + 4) 10 [.ref 26, .int 7, .int x2] (hp tx q4 rd e d sw)) (kk := fun q => (75, [(0, .ref 12), (1, .ref 26), (2, .int x2), (3, .int q2)], q.1.toList ++ [.int q2, .ref 12], q.2)) (q := (some (.int q5), (hp tx q4 rd e d sw))) 1 (fun _ => rfl) (ev_D_get_B hq) ?_
      obtain ⟨q6, hq, h⟩ := Option.bind_eq_some_iff.mp h
      refine am_Ev.go 1 (st' := (76, [(0, .ref 12), (1, .ref 26), (2, .int x2), (3, .int q2)], [.int (q2 - q5), .ref 12], (hp tx q4 rd e d sw))) (fun _ => rfl) ?_
      refine am_Ev.call (o := am_run cPT cML (n0 + 4) 40 [.ref 12, .int (q2 - q5)] (hp tx q4 rd e d sw)) (kk := fun q => (79, [(0, .ref 12), (1, .ref 26), (2, .int x2), (3, .int q2)], q.1.toList ++ [], q.2)) (q := (none, (hp tx q6 rd e d sw))) 1 (fun _ => rfl) (ev_W_difference_v hq) ?_
      refine am_Ev.go 2 (st' := (37, [(0, .ref 12), (1, .ref 26), (2, .int (x2 + 1)), (3, .int q2)], [], (hp tx q6 rd e d sw))) (fun _ => rfl) ?_
      refine am_Ev.same (st' := (37, [(0, .ref 12), (1, .ref 26), (2, .int (x2 + 1))], [], (hp tx q6 rd e d sw))) (fun _ => rfl) ?_
      exact ih _ _ _ h
theorem ev_W_packed_9_B {n0 : Nat} {tx : SB} {rd : SR} {e : SD} {sw : Bool} {d : SD} {κ : SB → Option (SB)} (hκ : ∀ (pg : SB) (res : SB), κ pg = some res → am_Ev (tb_W_packed (am_run cPT cML (n0 + 4))) (30, [(0, .ref 12), (1, .ref 26)], [], (hp tx pg rd e d sw)) (none, (hp tx res rd e d sw))) : ∀ (n : Nat) (x2 : Int32) (pg : SB) (res : SB), fn_W_packed_9 d κ n x2 pg = some res → am_Ev (tb_W_packed (am_run cPT cML (n0 + 4))) (9, [(0, .ref 12), (1, .ref 26), (2, .int x2)], [], (hp tx pg rd e d sw)) (none, (hp tx res rd e d sw)) := by
  intro n
  induction n with
  | zero => intro x2 pg res h; unfold fn_W_packed_9 at h; cases h
  | succ n ih =>
    intro x2 pg res h
    unfold fn_W_packed_9 at h
    obtain ⟨q7, hq, h⟩ := Option.bind_eq_some_iff.mp h
    refine am_Ev.go 3 (st' := (12, [(0, .ref 12), (1, .ref 26), (2, .int x2)], [.int 1, .ref 26, .int x2], (hp tx pg rd e d sw))) (fun _ => rfl) ?_
    refine am_Ev.call (o := am_run cPT cML (n0 + 4) 7 [.ref 26, .int 1] (hp tx pg rd e d sw)) (kk := fun q => (15, [(0, .ref 12), (1, .ref 26), (2, .int x2)], q.1.toList ++ [.int x2], q.2)) (q := (some (.int q7), (hp tx pg rd e d sw))) 1 (fun _ => rfl) (ev_D_many_B hq) ?_
    refine am_Ev.fork (b := decide (q7 ≤ x2)) (s1 := (30, [(0, .ref 12), (1, .ref 26), (2, .int x2)], [], (hp tx pg rd e d sw))) (s2 := (18, [(0, .ref 12), (1, .ref 26), (2, .int x2)], [], (hp tx pg rd e d sw))) 1 (fun _ => rfl) (fun hc => ?_) (fun hc => ?_)
    · have h := (am_ift hc).symm.trans h
      refine am_Ev.same (st' := (30, [(0, .ref 12), (1, .ref 26)], [], (hp tx pg rd e d sw))) (fun _ => rfl) ?_
      exact hκ _ _ h
    · have h := (am_iff hc).symm.trans h
      obtain ⟨q8, hq, h⟩ := Option.bind_eq_some_iff.mp h
      refine am_Ev.go 3 (st' := (21, [(0, .ref 12), (1, .ref 26), (2, .int x2)], [.int x2, .ref 26, .ref 12], (hp tx pg rd e d sw))) (fun _ => rfl) ?_
      refine am_Ev.call (o := am_run cPT cML (n0 + 4) 35 [.ref 12, .ref 26, .int x2] (hp tx pg rd e d sw)) (kk := fun q => (24, [(0, .ref 12), (1, .ref 26), (2, .int x2)], q.1.toList ++ [], q.2)) (q := (none, (hp tx q8 rd e d sw))) 1 (fun _ => rfl) (ev_W_nextAndFirst_B hq) ?_
      refine am_Ev.go 2 (st' := (9, [(0, .ref 12), (1, .ref 26), (2, .int (x2 + 1))], [], (hp tx q8 rd e d sw))) (fun _ => rfl) ?_
      exact ih _ _ _ h
theorem ev_W_packed_B {n0 : Nat} {tx : SB} {rd : SR} {e : SD} {sw : Bool} {pg : SB} {d : SD} {res : SB} (h : fn_W_packed pg d = some res) : am_run cPT cML (n0 + 5) 33 [.ref 12, .ref 26] (hp tx pg rd e d sw) = some (none, (hp tx res rd e d sw)) := by
  refine am_run_of (d := n0 + 4) rfl ?_
  show am_Ev (tb_W_packed (am_run cPT cML (n0 + 4))) (0, [(0, .ref 12), (1, .ref 26)], [], (hp tx pg rd e d sw)) (none, (hp tx res rd e d sw))
  unfold fn_W_packed at h
  obtain ⟨q9, hq, h⟩ := Option.bind_eq_some_iff.mp h
  refine am_Ev.go 3 (st' := (4, [(0, .ref 12), (1, .ref 26)], [.int 105, .ref 26, .ref 12], (hp tx pg rd e d sw))) (fun _ => rfl) ?_
  refine am_Ev.call (o := am_run cPT cML (n0 + 4) 34 [.ref 12, .ref 26, .int 105] (hp tx pg rd e d sw)) (kk := fun q => (7, [(0, .ref 12), (1, .ref 26)], q.1.toList ++ [], q.2)) (q := (none, (hp tx q9 rd e d sw))) 1 (fun _ => rfl) (ev_W_header_B hq) ?_
  refine am_Ev.go 2 (st' := (9, [(0, .ref 12), (1, .ref 26), (2, .int 0)], [], (hp tx q9 rd e d sw))) (fun _ => rfl) ?_
  refine ev_W_packed_9_B ?_ _ _ _ _ h
  intro pg_11 res h
  try dsimp only at h
  obtain ⟨q11, hq, h⟩ := Option.bind_eq_some_iff.mp h
  refine am_Ev.go 2 (st' := (32, [(0, .ref 12), (1, .ref 26)], [.ref 26, .ref 12], (hp tx pg_11 rd e d sw))) (fun _ => rfl) ?_
  refine am_Ev.call (o := am_run cPT cML (n0 + 4) 36 [.ref 12, .ref 26] (hp tx pg_11 rd e d sw)) (kk := fun q => (35, [(0, .ref 12), (1, .ref 26)], q.1.toList ++ [], q.2)) (q := (none, (hp tx q11 rd e d sw))) 1 (fun _ => rfl) (ev_W_outputs_B hq) ?_
  refine am_Ev.go 2 (st' := (37, [(0, .ref 12), (1, .ref 26), (2, .int 0)], [], (hp tx q11 rd e d sw))) (fun _ => rfl) ?_
  refine ev_W_packed_37_B ?_ _ _ _ _ h
  intro pg_13 res h
  try dsimp only at h
  cases h
  exact am_Ev.done 1 rfl
theorem ev_R_plainLines_151_A {n0 : Nat} {pg : SB} {e : SD} {sw : Bool} {x2 : Int32} {tx : SB} {κ : SR → SD → Option (SR × SD)} (hκ : ∀ (rd : SR) (d : SD) (res : SR × SD), κ rd d = some res → am_Ev (tb_R_plainLines (am_run cPT cML (n0 + 4))) (191, [], [], (hp tx pg rd d e sw)) (none, (hp tx pg res.1 res.2 e sw))) : ∀ (n : Nat) (x3 : Int32) (rd : SR) (d : SD) (res : SR × SD), fn_R_plainLines_151 x2 tx κ n x3 rd d = some res → am_Ev (tb_R_plainLines (am_run cPT cML (n0 + 4))) (151, [(0, .ref 5), (1, .ref 13), (2, .int x2), (3, .int x3)], [], (hp tx pg rd d e sw)) (none, (hp tx pg res.1 res.2 e sw)) := by
  intro n
  induction n with
  | zero => intro x3 rd d res h; unfold fn_R_plainLines_151 at h; cases h
  | succ n ih =>
    intro x3 rd d res h
    unfold fn_R_plainLines_151 at h
    obtain ⟨q1, hq, h⟩ := Option.bind_eq_some_iff.mp h
    refine am_Ev.go 3 (st' := (154, [(0, .ref 5), (1, .ref 13), (2, .int x2), (3, .int x3)], [.int 2, .ref 13, .int x3], (hp tx pg rd d e sw))) (fun _ => rfl) ?_
    refine am_Ev.call (o := am_run cPT cML (n0 + 4) 7 [.ref 13, .int 2] (hp tx pg rd d e sw)) (kk := fun q => (157, [(0, .ref 5), (1, .ref 13), (2, .int x2), (3, .int x3)], q.1.toList ++ [.int x3], q.2)) (q := (some (.int q1), (hp tx pg rd d e sw))) 1 (fun _ => rfl) (ev_D_many_A hq) ?_
    refine am_Ev.fork (b := decide (q1 ≤ x3)) (s1 := (191, [(0, .ref 5), (1, .ref 13), (2, .int x2), (3, .int x3)], [], (hp tx pg rd d e sw))) (s2 := (160, [(0, .ref 5), (1, .ref 13), (2, .int x2), (3, .int x3)], [], (hp tx pg rd d e sw))) 1 (fun _ => rfl) (fun hc => ?_) (fun hc => ?_)
    · have h := (am_ift hc).symm.trans h
      refine am_Ev.same (st' := (191, [], [], (hp tx pg rd d e sw))) (fun _ => rfl) ?_
      exact hκ _ _ _ h
    · have h := (am_iff hc).symm.trans h
      refine am_Ev.fork (b := decide (rd.2.2.2.2.2.2.2.2 = (-1 : Int32))) (s1 := (168, [(0, .ref 5), (1, .ref 13), (2, .int x2), (3, .int x3)], [], (hp tx pg rd d e sw))) (s2 := (191, [(0, .ref 5), (1, .ref 13), (2, .int x2), (3, .int x3)], [], (hp tx pg rd d e sw))) 4 (fun _ => rfl) (fun hc => ?_) (fun hc => ?_)
      · have h := (am_ift hc).symm.trans h
        obtain ⟨q2, hq, h⟩ := Option.bind_eq_some_iff.mp h
        refine am_Ev.go 5 (st' := (173, [(0, .ref 5), (1, .ref 13), (2, .int x2), (3, .int x3)], [.int x2, .ref 5, .int x3, .int 2, .ref 13], (hp tx pg rd d e sw))) (fun _ => rfl) ?_
        refine am_Ev.call (o := am_run cPT cML (n0 + 4) 53 [.ref 5, .int x2] (hp tx pg rd d e sw)) (kk := fun q => (176, [(0, .ref 5), (1, .ref 13), (2, .int x2), (3, .int x3)], q.1.toList ++ [.int x3, .int 2, .ref 13], q.2)) (q := (some (.int q2.1), (hp tx pg q2.2 d e sw))) 1 (fun _ => rfl) (ev_R_use_v hq) ?_
        obtain ⟨q3, hq, h⟩ := Option.bind_eq_some_iff.mp h
        refine am_Ev.call (o := am_run cPT cML (n0 + 4) 11 [.ref 13, .int 2, .int x3, .int q2.1] (hp tx pg q2.2 d e sw)) (kk := fun q => (179, [(0, .ref 5), (1, .ref 13), (2, .int x2), (3, .int x3)], q.1.toList ++ [], q.2)) (q := (none, (hp tx pg q2.2 q3 e sw))) 1 (fun _ => rfl) (ev_D_set_A hq) ?_
        obtain ⟨q4, hq, h⟩ := Option.bind_eq_some_iff.mp h
        refine am_Ev.go 2 (st' := (182, [(0, .ref 5), (1, .ref 13), (2, .int x2), (3, .int x3)], [.int 10, .ref 5], (hp tx pg q2.2 q3 e sw))) (fun _ => rfl) ?_
        refine am_Ev.call (o := am_run cPT cML (n0 + 4) 59 [.ref 5, .int 10] (hp tx pg q2.2 q3 e sw)) (kk := fun q => (185, [(0, .ref 5), (1, .ref 13), (2, .int x2), (3, .int x3)], q.1.toList ++ [], q.2)) (q := (none, (hp tx pg q4 q3 e sw))) 1 (fun _ => rfl) (ev_R_expect_v hq) ?_
        refine am_Ev.go 2 (st' := (151, [(0, .ref 5), (1, .ref 13), (2, .int x2), (3, .int (x3 + 1))], [], (hp tx pg q4 q3 e sw))) (fun _ => rfl) ?_
        exact ih _ _ _ _ h
      · have h := (am_iff hc).symm.trans h
        refine am_Ev.same (st' := (191, [], [], (hp tx pg rd d e sw))) (fun _ => rfl) ?_
        exact hκ _ _ _ h
theorem ev_R_plainLines_82_A {n0 : Nat} {pg : SB} {e : SD} {sw : Bool} {x2 : Int32} {tx : SB} {κ : SR → SD → Option (SR × SD)} (hκ : ∀ (rd : SR) (d : SD) (res : SR × SD), κ rd d = some res → am_Ev (tb_R_plainLines (am_run cPT cML (n0 + 4))) (149, [(0, .ref 5), (1, .ref 13), (2, .int x2)], [], (hp tx pg rd d e sw)) (none, (hp tx pg res.1 res.2 e sw))) : ∀ (n : Nat) (x3 : Int32) (rd : SR) (d : SD) (res : SR × SD), fn_R_plainLines_82 x2 tx κ n x3 rd d = some res → am_Ev (tb_R_plainLines (am_run cPT cML (n0 + 4))) (82, [(0, .ref 5), (1, .ref 13), (2, .int x2), (3, .int x3)], [], (hp tx pg rd d e sw)) (none, (hp tx pg res.1 res.2 e sw)) := by
  intro n
  induction n with
  | zero => intro x3 rd d res h; unfold fn_R_plainLines_82 at h; cases h
  | succ n ih =>
    intro x3 rd d res h
    unfold fn_R_plainLines_82 at h
    obtain ⟨q5, hq, h⟩ := Option.bind_eq_some_iff.mp h
    refine am_Ev.go 3 (st' := (85, [(0, .ref 5), (1, .ref 13), (2, .int x2), (3, .int x3)], [.int 1, .ref 13, .int x3], (hp tx pg rd d e sw))) (fun _ => rfl) ?_
    refine am_Ev.call (o := am_run cPT cML (n0 + 4) 7 [.ref 13, .int 1] (hp tx pg rd d e sw)) (kk := fun q => (88, [(0, .ref 5), (1, .ref 13), (2, .int x2), (3, .int x3)], q.1.toList ++ [.int x3], q.2)) (q := (some (.int q5), (hp tx pg rd d e sw))) 1 (fun _ => rfl) (ev_D_many_A hq) ?_
    refine am_Ev.fork (b := decide (q5 ≤ x3)) (s1 := (149, [(0, .ref 5), (1, .ref 13), (2, .int x2), (3, .int x3)], [], (hp tx pg rd d e sw))) (s2 := (91, [(0, .ref 5), (1, .ref 13), (2, .int x2), (3, .int x3)], [], (hp tx pg rd d e sw))) 1 (fun _ => rfl) (fun hc => ?_) (fun hc => ?_)
    · have h := (am_ift hc).symm.trans h
      refine am_Ev.same (st' := (149, [(0, .ref 5), (1, .ref 13), (2, .int x2)], [], (hp tx pg rd d e sw))) (fun _ => rfl) ?_
      exact hκ _ _ _ h
    · have h := (am_iff hc).symm.trans h
      refine am_Ev.fork (b := decide (rd.2.2.2.2.2.2.2.2 = (-1 : Int32))) (s1 := (99, [(0, .ref 5), (1, .ref 13), (2, .int x2), (3, .int x3)], [], (hp tx pg rd d e sw))) (s2 := (149, [(0, .ref 5), (1, .ref 13), (2, .int x2), (3, .int x3)], [], (hp tx pg rd d e sw))) 4 (fun _ => rfl) (fun hc => ?_) (fun hc => ?_)
      · have h := (am_ift hc).symm.trans h
        obtain ⟨q6, hq, h⟩ := Option.bind_eq_some_iff.mp h
        refine am_Ev.go 5 (st' := (104, [(0, .ref 5), (1, .ref 13), (2, .int x2), (3, .int x3)], [.int x2, .ref 5, .int x3, .int 1, .ref 13], (hp tx pg rd d e sw))) (fun _ => rfl) ?_
        refine am_Ev.call (o := am_run cPT cML (n0 + 4) 52 [.ref 5, .int x2] (hp tx pg rd d e sw)) (kk := fun q => (107, [(0, .ref 5), (1, .ref 13), (2, .int x2), (3, .int x3)], q.1.toList ++ [.int x3, .int 1, .ref 13], q.2)) (q := (some (.int q6.1), (hp tx pg q6.2 d e sw))) 1 (fun _ => rfl) (ev_R_definition_v hq) ?_
        obtain ⟨q7, hq, h⟩ := Option.bind_eq_some_iff.mp h
        refine am_Ev.call (o := am_run cPT cML (n0 + 4) 11 [.ref 13, .int 1, .int x3, .int q6.1] (hp tx pg q6.2 d e sw)) (kk := fun q => (110, [(0, .ref 5), (1, .ref 13), (2, .int x2), (3, .int x3)], q.1.toList ++ [], q.2)) (q := (none, (hp tx pg q6.2 q7 e sw))) 1 (fun _ => rfl) (ev_D_set_A hq) ?_
        obtain ⟨q8, hq, h⟩ := Option.bind_eq_some_iff.mp h
        refine am_Ev.go 2 (st' := (113, [(0, .ref 5), (1, .ref 13), (2, .int x2), (3, .int x3)], [.int 32, .ref 5], (hp tx pg q6.2 q7 e sw))) (fun _ => rfl) ?_
        refine am_Ev.call (o := am_run cPT cML (n0 + 4) 59 [.ref 5, .int 32] (hp tx pg q6.2 q7 e sw)) (kk := fun q => (116, [(0, .ref 5), (1, .ref 13), (2, .int x2), (3, .int x3)], q.1.toList ++ [], q.2)) (q := (none, (hp tx pg q8 q7 e sw))) 1 (fun _ => rfl) (ev_R_expect_v hq) ?_
        obtain ⟨q9, hq, h⟩ := Option.bind_eq_some_iff.mp h
        refine am_Ev.go 5 (st' := (121, [(0, .ref 5), (1, .ref 13), (2, .int x2), (3, .int x3)], [.int x2, .ref 5, .int x3, .int 4, .ref 13], (hp tx pg q8 q7 e sw))) (fun _ => rfl) ?_
        refine am_Ev.call (o := am_run cPT cML (n0 + 4) 53 [.ref 5, .int x2] (hp tx pg q8 q7 e sw)) (kk := fun q => (124, [(0, .ref 5), (1, .ref 13), (2, .int x2), (3, .int x3)], q.1.toList ++ [.int x3, .int 4, .ref 13], q.2)) (q := (some (.int q9.1), (hp tx pg q9.2 q7 e sw))) 1 (fun _ => rfl) (ev_R_use_v hq) ?_
        obtain ⟨q10, hq, h⟩ := Option.bind_eq_some_iff.mp h
        refine am_Ev.call (o := am_run cPT cML (n0 + 4) 11 [.ref 13, .int 4, .int x3, .int q9.1] (hp tx pg q9.2 q7 e sw)) (kk := fun q => (127, [(0, .ref 5), (1, .ref 13), (2, .int x2), (3, .int x3)], q.1.toList ++ [], q.2)) (q := (none, (hp tx pg q9.2 q10 e sw))) 1 (fun _ => rfl) (ev_D_set_A hq) ?_
        obtain ⟨q11, hq, h⟩ := Option.bind_eq_some_iff.mp h
        refine am_Ev.go 4 (st' := (131, [(0, .ref 5), (1, .ref 13), (2, .int x2), (3, .int x3)], [.ref 5, .int x3, .int 5, .ref 13], (hp tx pg q9.2 q10 e sw))) (fun _ => rfl) ?_
        refine am_Ev.call (o := am_run cPT cML (n0 + 4) 54 [.ref 5] (hp tx pg q9.2 q10 e sw)) (kk := fun q => (134, [(0, .ref 5), (1, .ref 13), (2, .int x2), (3, .int x3)], q.1.toList ++ [.int x3, .int 5, .ref 13], q.2)) (q := (some (.int q11.1), (hp tx pg q11.2 q10 e sw))) 1 (fun _ => rfl) (ev_R_perhapsFirst_v hq) ?_
        obtain ⟨q12, hq, h⟩ := Option.bind_eq_some_iff.mp h
        refine am_Ev.call (o := am_run cPT cML (n0 + 4) 11 [.ref 13, .int 5, .int x3, .int q11.1] (hp tx pg q11.2 q10 e sw)) (kk := fun q => (137, [(0, .ref 5), (1, .ref 13), (2, .int x2), (3, .int x3)], q.1.toList ++ [], q.2)) (q := (none, (hp tx pg q11.2 q12 e sw))) 1 (fun _ => rfl) (ev_D_set_A hq) ?_
        obtain ⟨q13, hq, h⟩ := Option.bind_eq_some_iff.mp h
        refine am_Ev.go 2 (st' := (140, [(0, .ref 5), (1, .ref 13), (2, .int x2), (3, .int x3)], [.int 10, .ref 5], (hp tx pg q11.2 q12 e sw))) (fun _ => rfl) ?_
        refine am_Ev.call (o := am_run cPT cML (n0 + 4) 59 [.ref 5, .int 10] (hp tx pg q11.2 q12 e sw)) (kk := fun q => (143, [(0, .ref 5), (1, .ref 13), (2, .int x2), (3, .int x3)], q.1.toList ++ [], q.2)) (q := (none, (hp tx pg q13 q12 e sw))) 1 (fun _ => rfl) (ev_R_expect_v hq) ?_
        refine am_Ev.go 2 (st' := (82, [(0, .ref 5), (1, .ref 13), (2, .int x2), (3, .int (x3 + 1))], [], (hp tx pg q13 q12 e sw))) (fun _ => rfl) ?_
        exact ih _ _ _ _ h
      · have h := (am_iff hc).symm.trans h
        refine am_Ev.same (st' := (149, [(0, .ref 5), (1, .ref 13), (2, .int x2)], [], (hp tx pg rd d e sw))) (fun _ => rfl) ?_
        exact hκ _ _ _ h
theorem ev_R_plainLines_40_A {n0 : Nat} {pg : SB} {e : SD} {sw : Bool} {x2 : Int32} {tx : SB} {κ : SR → SD → Option (SR × SD)} (hκ : ∀ (rd : SR) (d : SD) (res : SR × SD), κ rd d = some res → am_Ev (tb_R_plainLines (am_run cPT cML (n0 + 4))) (80, [(0, .ref 5), (1, .ref 13), (2, .int x2)], [], (hp tx pg rd d e sw)) (none, (hp tx pg res.1 res.2 e sw))) : ∀ (n : Nat) (x3 : Int32) (rd : SR) (d : SD) (res : SR × SD), fn_R_plainLines_40 x2 tx κ n x3 rd d = some res → am_Ev (tb_R_plainLines (am_run cPT cML (n0 + 4))) (40, [(0, .ref 5), (1, .ref 13), (2, .int x2), (3, .int x3)], [], (hp tx pg rd d e sw)) (none, (hp tx pg res.1 res.2 e sw)) := by
  intro n
  induction n with
  | zero => intro x3 rd d res h; unfold fn_R_plainLines_40 at h; cases h
  | succ n ih =>
    intro x3 rd d res h
    unfold fn_R_plainLines_40 at h
    obtain ⟨q14, hq, h⟩ := Option.bind_eq_some_iff.mp h
    refine am_Ev.go 3 (st' := (43, [(0, .ref 5), (1, .ref 13), (2, .int x2), (3, .int x3)], [.int 0, .ref 13, .int x3], (hp tx pg rd d e sw))) (fun _ => rfl) ?_
    refine am_Ev.call (o := am_run cPT cML (n0 + 4) 7 [.ref 13, .int 0] (hp tx pg rd d e sw)) (kk := fun q => (46, [(0, .ref 5), (1, .ref 13), (2, .int x2), (3, .int x3)], q.1.toList ++ [.int x3], q.2)) (q := (some (.int q14), (hp tx pg rd d e sw))) 1 (fun _ => rfl) (ev_D_many_A hq) ?_
    refine am_Ev.fork (b := decide (q14 ≤ x3)) (s1 := (80, [(0, .ref 5), (1, .ref 13), (2, .int x2), (3, .int x3)], [], (hp tx pg rd d e sw))) (s2 := (49, [(0, .ref 5), (1, .ref 13), (2, .int x2), (3, .int x3)], [], (hp tx pg rd d e sw))) 1 (fun _ => rfl) (fun hc => ?_) (fun hc => ?_)
    · have h := (am_ift hc).symm.trans h
      refine am_Ev.same (st' := (80, [(0, .ref 5), (1, .ref 13), (2, .int x2)], [], (hp tx pg rd d e sw))) (fun _ => rfl) ?_
      exact hκ _ _ _ h
    · have h := (am_iff hc).symm.trans h
      refine am_Ev.fork (b := decide (rd.2.2.2.2.2.2.2.2 = (-1 : Int32))) (s1 := (57, [(0, .ref 5), (1, .ref 13), (2, .int x2), (3, .int x3)], [], (hp tx pg rd d e sw))) (s2 := (80, [(0, .ref 5), (1, .ref 13), (2, .int x2), (3, .int x3)], [], (hp tx pg rd d e sw))) 4 (fun _ => rfl) (fun hc => ?_) (fun hc => ?_)
      · have h := (am_ift hc).symm.trans h
        obtain ⟨q15, hq, h⟩ := Option.bind_eq_some_iff.mp h
        refine am_Ev.go 5 (st' := (62, [(0, .ref 5), (1, .ref 13), (2, .int x2), (3, .int x3)], [.int x2, .ref 5, .int x3, .int 0, .ref 13], (hp tx pg rd d e sw))) (fun _ => rfl) ?_
        refine am_Ev.call (o := am_run cPT cML (n0 + 4) 52 [.ref 5, .int x2] (hp tx pg rd d e sw)) (kk := fun q => (65, [(0, .ref 5), (1, .ref 13), (2, .int x2), (3, .int x3)], q.1.toList ++ [.int x3, .int 0, .ref 13], q.2)) (q := (some (.int q15.1), (hp tx pg q15.2 d e sw))) 1 (fun _ => rfl) (ev_R_definition_v hq) ?_
        obtain ⟨q16, hq, h⟩ := Option.bind_eq_some_iff.mp h
        refine am_Ev.call (o := am_run cPT cML (n0 + 4) 11 [.ref 13, .int 0, .int x3, .int q15.1] (hp tx pg q15.2 d e sw)) (kk := fun q => (68, [(0, .ref 5), (1, .ref 13), (2, .int x2), (3, .int x3)], q.1.toList ++ [], q.2)) (q := (none, (hp tx pg q15.2 q16 e sw))) 1 (fun _ => rfl) (ev_D_set_A hq) ?_
        obtain ⟨q17, hq, h⟩ := Option.bind_eq_some_iff.mp h
        refine am_Ev.go 2 (st' := (71, [(0, .ref 5), (1, .ref 13), (2, .int x2), (3, .int x3)], [.int 10, .ref 5], (hp tx pg q15.2 q16 e sw))) (fun _ => rfl) ?_
        refine am_Ev.call (o := am_run cPT cML (n0 + 4) 59 [.ref 5, .int 10] (hp tx pg q15.2 q16 e sw)) (kk := fun q => (74, [(0, .ref 5), (1, .ref 13), (2, .int x2), (3, .int x3)], q.1.toList ++ [], q.2)) (q := (none, (hp tx pg q17 q16 e sw))) 1 (fun _ => rfl) (ev_R_expect_v hq) ?_
        refine am_Ev.go 2 (st' := (40, [(0, .ref 5), (1, .ref 13), (2, .int x2), (3, .int (x3 + 1))], [], (hp tx pg q17 q16 e sw))) (fun _ => rfl) ?_
        exact ih _ _ _ _ h
      · have h := (am_iff hc).symm.trans h
        refine am_Ev.same (st' := (80, [(0, .ref 5), (1, .ref 13), (2, .int x2)], [], (hp tx pg rd d e sw))) (fun _ => rfl) ?_
        exact hκ _ _ _ h
theorem ev_R_plainLines_7_A {n0 : Nat} {pg : SB} {e : SD} {sw : Bool} {tx : SB} {κ : SR → SD → Option (SR × SD)} (hκ : ∀ (rd : SR) (d : SD) (res : SR × SD), κ rd d = some res → am_Ev (tb_R_plainLines (am_run cPT cML (n0 + 4))) (29, [(0, .ref 5), (1, .ref 13)], [], (hp tx pg rd d e sw)) (none, (hp tx pg res.1 res.2 e sw))) : ∀ (n : Nat) (x2 : Int32) (rd : SR) (d : SD) (res : SR × SD), fn_R_plainLines_7 tx κ n x2 rd d = some res → am_Ev (tb_R_plainLines (am_run cPT cML (n0 + 4))) (7, [(0, .ref 5), (1, .ref 13), (2, .int x2)], [], (hp tx pg rd d e sw)) (none, (hp tx pg res.1 res.2 e sw)) := by
  intro n
  induction n with
  | zero => intro x2 rd d res h; unfold fn_R_plainLines_7 at h; cases h
  | succ n ih =>
    intro x2 rd d res h
    unfold fn_R_plainLines_7 at h
    refine am_Ev.fork (b := decide ((100 : Int32) ≤ x2)) (s1 := (29, [(0, .ref 5), (1, .ref 13), (2, .int x2)], [], (hp tx pg rd d e sw))) (s2 := (16, [(0, .ref 5), (1, .ref 13), (2, .int x2)], [], (hp tx pg rd d e sw))) 5 (fun _ => rfl) (fun hc => ?_) (fun hc => ?_)
    · have h := (am_ift hc).symm.trans h
      refine am_Ev.same (st' := (29, [(0, .ref 5), (1, .ref 13)], [], (hp tx pg rd d e sw))) (fun _ => rfl) ?_
      exact hκ _ _ _ h
    · have h := (am_iff hc).symm.trans h
      obtain ⟨hc, h⟩ := am_ifn h
      refine am_Ev.guard (b := decide (0 ≤ x2.toInt ∧ x2.toInt < (100 : Int))) (s1 := (23, [(0, .ref 5), (1, .ref 13), (2, .int x2)], [], (hp tx pg (upd rd.1 x2.toNatClampNeg (vp_nar .boolean (0 : Int32)), rd.2.1, rd.2.2.1, rd.2.2.2.1, rd.2.2.2.2.1, rd.2.2.2.2.2.1, rd.2.2.2.2.2.2.1, rd.2.2.2.2.2.2.2.1, rd.2.2.2.2.2.2.2.2) d e sw))) 5 (fun _ => rfl) hc ?_
      refine am_Ev.go 2 (st' := (7, [(0, .ref 5), (1, .ref 13), (2, .int (x2 + 1))], [], (hp tx pg (upd rd.1 x2.toNatClampNeg (vp_nar .boolean (0 : Int32)), rd.2.1, rd.2.2.1, rd.2.2.2.1, rd.2.2.2.2.1, rd.2.2.2.2.2.1, rd.2.2.2.2.2.2.1, rd.2.2.2.2.2.2.2.1, rd.2.2.2.2.2.2.2.2) d e sw))) (fun _ => rfl) ?_
      exact ih _ _ _ _ h
theorem ev_R_plainLines_A {n0 : Nat} {pg : SB} {e : SD} {sw : Bool} {tx : SB} {rd : SR} {d : SD} {res : SR × SD} (h : fn_R_plainLines tx rd d = some res) : am_run cPT cML (n0 + 5) 43 [.ref 5, .ref 13] (hp tx pg rd d e sw) = some (none, (hp tx pg res.1 res.2 e sw)) := by
  refine am_run_of (d := n0 + 4) rfl ?_
  show am_Ev (tb_R_plainLines (am_run cPT cML (n0 + 4))) (0, [(0, .ref 5), (1, .ref 13)], [], (hp tx pg rd d e sw)) (none, (hp tx pg res.1 res.2 e sw))
  unfold fn_R_plainLines at h
  refine am_Ev.go 5 (st' := (7, [(0, .ref 5), (1, .ref 13), (2, .int 0)], [], (hp tx pg (rd.1, rd.2.1, rd.2.2.1, rd.2.2.2.1, rd.2.2.2.2.1, rd.2.2.2.2.2.1, 0, rd.2.2.2.2.2.2.2.1, rd.2.2.2.2.2.2.2.2) d e sw))) (fun _ => rfl) ?_
  refine ev_R_plainLines_7_A ?_ _ _ _ _ _ h
  intro rd_19 d_19 res h
  try dsimp only at h
  obtain ⟨q19, hq, h⟩ := Option.bind_eq_some_iff.mp h
  refine am_Ev.go 2 (st' := (31, [(0, .ref 5), (1, .ref 13)], [.ref 13, .int 2], (hp tx pg rd_19 d_19 e sw))) (fun _ => rfl) ?_
  refine am_Ev.call (o := am_run cPT cML (n0 + 4) 4 [.ref 13] (hp tx pg rd_19 d_19 e sw)) (kk := fun q => (34, [(0, .ref 5), (1, .ref 13)], q.1.toList ++ [.int 2], q.2)) (q := (some (.int q19), (hp tx pg rd_19 d_19 e sw))) 1 (fun _ => rfl) (ev_D_most_A hq) ?_
  refine am_Ev.go 6 (st' := (40, [(0, .ref 5), (1, .ref 13), (2, .int (((2 : Int32) * q19) + (1 : Int32))), (3, .int 0)], [], (hp tx pg rd_19 d_19 e sw))) (fun _ => rfl) ?_
  refine ev_R_plainLines_40_A ?_ _ _ _ _ _ h
  intro rd_21 d_21 res h
  try dsimp only at h
  refine am_Ev.go 2 (st' := (82, [(0, .ref 5), (1, .ref 13), (2, .int (((2 : Int32) * q19) + (1 : Int32))), (3, .int 0)], [], (hp tx pg rd_21 d_21 e sw))) (fun _ => rfl) ?_
  refine ev_R_plainLines_82_A ?_ _ _ _ _ _ h
  intro rd_22 d_22 res h
  try dsimp only at h
  refine am_Ev.go 2 (st' := (151, [(0, .ref 5), (1, .ref 13), (2, .int (((2 : Int32) * q19) + (1 : Int32))), (3, .int 0)], [], (hp tx pg rd_22 d_22 e sw))) (fun _ => rfl) ?_
  refine ev_R_plainLines_151_A ?_ _ _ _ _ _ h
  intro rd_23 d_23 res h
  try dsimp only at h
  cases h
  exact am_Ev.done 1 rfl
theorem ev_R_plainLines_151_B {n0 : Nat} {pg : SB} {e : SD} {sw : Bool} {x2 : Int32} {tx : SB} {κ : SR → SD → Option (SR × SD)} (hκ : ∀ (rd : SR) (d : SD) (res : SR × SD), κ rd d = some res → am_Ev (tb_R_plainLines (am_run cPT cML (n0 + 4))) (191, [], [], (hp tx pg rd e d sw)) (none, (hp tx pg res.1 e res.2 sw))) : ∀ (n : Nat) (x3 : Int32) (rd : SR) (d : SD) (res : SR × SD), fn_R_plainLines_151 x2 tx κ n x3 rd d = some res → am_Ev (tb_R_plainLines (am_run cPT cML (n0 + 4))) (151, [(0, .ref 5), (1, .ref 26), (2, .int x2), (3, .int x3)], [], (hp tx pg rd e d sw)) (none, (hp tx pg res.1 e res.2 sw)) := by
  intro n
  induction n with
  | zero => intro x3 rd d res h; unfold fn_R_plainLines_151 at h; cases h
  | succ n ih =>
    intro x3 rd d res h
    unfold fn_R_plainLines_151 at h
    obtain ⟨q1, hq, h⟩ := Option.bind_eq_some_iff.mp h
    refine am_Ev.go 3 (st' := (154, [(0, .ref 5), (1, .ref 26), (2, .int x2), (3, .int x3)], [.int 2, .ref 26, .int x3], (hp tx pg rd e d sw))) (fun _ => rfl) ?_
    refine am_Ev.call (o := am_run cPT cML (n0 + 4) 7 [.ref 26, .int 2] (hp tx pg rd e d sw)) (kk := fun q => (157, [(0, .ref 5), (1, .ref 26), (2, .int x2), (3, .int x3)], q.1.toList ++ [.int x3], q.2)) (q := (some (.int q1), (hp tx pg rd e d sw))) 1 (fun _ => rfl) (ev_D_many_B hq) ?_
    refine am_Ev.fork (b := decide (q1 ≤ x3)) (s1 := (191, [(0, .ref 5), (1, .ref 26), (2, .int x2), (3, .int x3)], [], (hp tx pg rd e d sw))) (s2 := (160, [(0, .ref 5), (1, .ref 26), (2, .int x2), (3, .int x3)], [], (hp tx pg rd e d sw))) 1 (fun _ => rfl) (fun hc => ?_) (fun hc => ?_)
    · have h := (am_ift hc).symm.trans h
      refine am_Ev.same (st' := (191, [], [], (hp tx pg rd e d sw))) (fun _ => rfl) ?_
      exact hκ _ _ _ h
    · have h := (am_iff hc).symm.trans h
      refine am_Ev.fork (b := decide (rd.2.2.2.2.2.2.2.2 = (-1 : Int32))) (s1 := (168, [(0, .ref 5), (1, .ref 26), (2, .int x2), (3, .int x3)], [], (hp tx pg rd e d sw))) (s2 := (191, [(0, .ref 5), (1, .ref 26), (2, .int x2), (3, .int x3)], [], (hp tx pg rd e d sw))) 4 (fun _ => rfl) (fun hc => ?_) (fun hc => ?_)
      · have h := (am_ift hc).symm.trans h
        obtain ⟨q2, hq, h⟩ := Option.bind_eq_some_iff.mp h
        refine am_Ev.go 5 (st' := (173, [(0, .ref 5), (1, .ref 26), (2, .int x2), (3, .int x3)], [.int x2, .ref 5, .int x3, .int 2, .ref 26], (hp tx pg rd e d sw))) (fun _ => rfl) ?_
        refine am_Ev.call (o := am_run cPT cML (n0 + 4) 53 [.ref 5, .int x2] (hp tx pg rd e d sw)) (kk := fun q => (176, [(0, .ref 5), (1, .ref 26), (2, .int x2), (3, .int x3)], q.1.toList ++ [.int x3, .int 2, .ref 26], q.2)) (q := (some (.int q2.1), (hp tx pg q2.2 e d sw))) 1 (fun _ => rfl) (ev_R_use_v hq) ?_
        obtain ⟨q3, hq, h⟩ := Option.bind_eq_some_iff.mp h
        refine am_Ev.call (o := am_run cPT cML (n0 + 4) 11 [.ref 26, .int 2, .int x3, .int q2.1] (hp tx pg q2.2 e d sw)) (kk := fun q => (179, [(0, .ref 5), (1, .ref 26), (2, .int x2), (3, .int x3)], q.1.toList ++ [], q.2)) (q := (none, (hp tx pg q2.2 e q3 sw))) 1 (fun _ => rfl) (ev_D_set_B hq) ?_
        obtain ⟨q4, hq, h⟩ := Option.bind_eq_some_iff.mp h
        refine am_Ev.go 2 (st' := (182, [(0, .ref 5), (1, .ref 26), (2, .int x2), (3, .int x3)], [.int 10, .ref 5], (hp tx pg q2.2 e q3 sw))) (fun _ => rfl) ?_
        refine am_Ev.call (o := am_run cPT cML (n0 + 4) 59 [.ref 5, .int 10] (hp tx pg q2.2 e q3 sw)) (kk := fun q => (185, [(0, .ref 5), (1, .ref 26), (2, .int x2), (3, .int x3)], q.1.toList ++ [], q.2)) (q := (none, (hp tx pg q4 e q3 sw))) 1 (fun _ => rfl) (ev_R_expect_v hq) ?_
        refine am_Ev.go 2 (st' := (151, [(0, .ref 5), (1, .ref 26), (2, .int x2), (3, .int (x3 + 1))], [], (hp tx pg q4 e q3 sw))) (fun _ => rfl) ?_
        exact ih _ _ _ _ h
      · have h := (am_iff hc).symm.trans h
        refine am_Ev.same (st' := (191, [], [], (hp tx pg rd e d sw))) (fun _ => rfl) ?_
        exact hκ _ _ _ h
theorem ev_R_plainLines_82_B {n0 : Nat} {pg : SB} {e : SD} {sw : Bool} {x2 : Int32} {tx : SB} {κ : SR → SD → Option (SR × SD)} (hκ : ∀ (rd : SR) (d : SD) (res : SR × SD), κ rd d = some res → am_Ev (tb_R_plainLines (am_run cPT cML (n0 + 4))) (149, [(0, .ref 5), (1, .ref 26), (2, .int x2)], [], (hp tx pg rd e d sw)) (none, (hp tx pg res.1 e res.2 sw))) : ∀ (n : Nat) (x3 : Int32) (rd : SR) (d : SD) (res : SR × SD), fn_R_plainLines_82 x2 tx κ n x3 rd d = some res → am_Ev (tb_R_plainLines (am_run cPT cML (n0 + 4))) (82, [(0, .ref 5), (1, .ref 26), (2, .int x2), (3, .int x3)], [], (hp tx pg rd e d sw)) (none, (hp tx pg res.1 e res.2 sw)) := by
  intro n
  induction n with
  | zero => intro x3 rd d res h; unfold fn_R_plainLines_82 at h; cases h
  | succ n ih =>
    intro x3 rd d res h
    unfold fn_R_plainLines_82 at h
    obtain ⟨q5, hq, h⟩ := Option.bind_eq_some_iff.mp h
    refine am_Ev.go 3 (st' := (85, [(0, .ref 5), (1, .ref 26), (2, .int x2), (3, .int x3)], [.int 1, .ref 26, .int x3], (hp tx pg rd e d sw))) (fun _ => rfl) ?_
    refine am_Ev.call (o := am_run cPT cML (n0 + 4) 7 [.ref 26, .int 1] (hp tx pg rd e d sw)) (kk := fun q => (88, [(0, .ref 5), (1, .ref 26), (2, .int x2), (3, .int x3)], q.1.toList ++ [.int x3], q.2)) (q := (some (.int q5), (hp tx pg rd e d sw))) 1 (fun _ => rfl) (ev_D_many_B hq) ?_
    refine am_Ev.fork (b := decide (q5 ≤ x3)) (s1 := (149, [(0, .ref 5), (1, .ref 26), (2, .int x2), (3, .int x3)], [], (hp tx pg rd e d sw))) (s2 := (91, [(0, .ref 5), (1, .ref 26), (2, .int x2), (3, .int x3)], [], (hp tx pg rd e d sw))) 1 (fun _ => rfl) (fun hc => ?_) (fun hc => ?_)
    · have h := (am_ift hc).symm.trans h
      refine am_Ev.same (st' := (149, [(0, .ref 5), (1, .ref 26), (2, .int x2)], [], (hp tx pg rd e d sw))) (fun _ => rfl) ?_
      exact hκ _ _ _ h
    · have h := (am_iff hc).symm.trans h
      refine am_Ev.fork (b := decide (rd.2.2.2.2.2.2.2.2 = (-1 : Int32))) (s1 := (99, [(0, .ref 5), (1, .ref 26), (2, .int x2), (3, .int x3)], [], (hp tx pg rd e d sw))) (s2 := (149, [(0, .ref 5), (1, .ref 26), (2, .int x2), (3, .int x3)], [], (hp tx pg rd e d sw))) 4 (fun _ => rfl) (fun hc => ?_) (fun hc => ?_)
      · have h := (am_ift hc).symm.trans h
        obtain ⟨q6, hq, h⟩ := Option.bind_eq_some_iff.mp h
        refine am_Ev.go 5 (st' := (104, [(0, .ref 5), (1, .ref 26), (2, .int x2), (3, .int x3)], [.int x2, .ref 5, .int x3, .int 1, .ref 26], (hp tx pg rd e d sw))) (fun _ => rfl) ?_
        refine am_Ev.call (o := am_run cPT cML (n0 + 4) 52 [.ref 5, .int x2] (hp tx pg rd e d sw)) (kk := fun q => (107, [(0, .ref 5), (1, .ref 26), (2, .int x2), (3, .int x3)], q.1.toList ++ [.int x3, .int 1, .ref 26], q.2)) (q := (some (.int q6.1), (hp tx pg q6.2 e d sw))) 1 (fun _ => rfl) (ev_R_definition_v hq) ?_
        obtain ⟨q7, hq, h⟩ := Option.bind_eq_some_iff.mp h
        refine am_Ev.call (o := am_run cPT cML (n0 + 4) 11 [.ref 26, .int 1, .int x3, .int q6.1] (hp tx pg q6.2 e d sw)) (kk := fun q => (110, [(0, .ref 5), (1, .ref 26), (2, .int x2), (3, .int x3)], q.1.toList ++ [], q.2)) (q := (none, (hp tx pg q6.2 e q7 sw))) 1 (fun _ => rfl) (ev_D_set_B hq) ?_
        obtain ⟨q8, hq, h⟩ := Option.bind_eq_some_iff.mp h
        refine am_Ev.go 2 (st' := (113, [(0, .ref 5), (1, .ref 26), (2, .int x2), (3, .int x3)], [.int 32, .ref 5], (hp tx pg q6.2 e q7 sw))) (fun _ => rfl) ?_
        refine am_Ev.call (o := am_run cPT cML (n0 + 4) 59 [.ref 5, .int 32] (hp tx pg q6.2 e q7 sw)) (kk := fun q => (116, [(0, .ref 5), (1, .ref 26), (2, .int x2), (3, .int x3)], q.1.toList ++ [], q.2)) (q := (none, (hp tx pg q8 e q7 sw))) 1 (fun _ => rfl) (ev_R_expect_v hq) ?_
        obtain ⟨q9, hq, h⟩ := Option.bind_eq_some_iff.mp h
        refine am_Ev.go 5 (st' := (121, [(0, .ref 5), (1, .ref 26), (2, .int x2), (3, .int x3)], [.int x2, .ref 5, .int x3, .int 4, .ref 26], (hp tx pg q8 e q7 sw))) (fun _ => rfl) ?_
        refine am_Ev.call (o := am_run cPT cML (n0 + 4) 53 [.ref 5, .int x2] (hp tx pg q8 e q7 sw)) (kk := fun q => (124, [(0, .ref 5), (1, .ref 26), (2, .int x2), (3, .int x3)], q.1.toList ++ [.int x3, .int 4, .ref 26], q.2)) (q := (some (.int q9.1), (hp tx pg q9.2 e q7 sw))) 1 (fun _ => rfl) (ev_R_use_v hq) ?_
        obtain ⟨q10, hq, h⟩ := Option.bind_eq_some_iff.mp h
        refine am_Ev.call (o := am_run cPT cML (n0 + 4) 11 [.ref 26, .int 4, .int x3, .int q9.1] (hp tx pg q9.2 e q7 sw)) (kk := fun q => (127, [(0, .ref 5), (1, .ref 26), (2, .int x2), (3, .int x3)], q.1.toList ++ [], q.2)) (q := (none, (hp tx pg q9.2 e q10 sw))) 1 (fun _ => rfl) (ev_D_set_B hq) ?_
        obtain ⟨q11, hq, h⟩ := Option.bind_eq_some_iff.mp h
        refine am_Ev.go 4 (st' := (131, [(0, .ref 5), (1, .ref 26), (2, .int x2), (3, .int x3)], [.ref 5, .int x3, .int 5, .ref 26], (hp tx pg q9.2 e q10 sw))) (fun _ => rfl) ?_
        refine am_Ev.call (o := am_run cPT cML (n0 + 4) 54 [.ref 5] (hp tx pg q9.2 e q10 sw)) (kk := fun q => (134, [(0, .ref 5), (1, .ref 26), (2, .int x2), (3, .int x3)], q.1.toList ++ [.int x3, .int 5, .ref 26], q.2)) (q := (some (.int q11.1), (hp tx pg q11.2 e q10 sw))) 1 (fun _ => rfl) (ev_R_perhapsFirst_v hq) ?_
        obtain ⟨q12, hq, h⟩ := Option.bind_eq_some_iff.mp h
        refine am_Ev.call (o := am_run cPT cML (n0 + 4) 11 [.ref 26, .int 5, .int x3, .int q11.1] (hp tx pg q11.2 e q10 sw)) (kk := fun q => (137, [(0, .ref 5), (1, .ref 26), (2, .int x2), (3, .int x3)], q.1.toList ++ [], q.2)) (q := (none, (hp tx pg q11.2 e q12 sw))) 1 (fun _ => rfl) (ev_D_set_B hq) ?_
        obtain ⟨q13, hq, h⟩ := Option.bind_eq_some_iff.mp h
        refine am_Ev.go 2 (st' := (140, [(0, .ref 5), (1, .ref 26), (2, .int x2), (3, .int x3)], [.int 10, .ref 5], (hp tx pg q11.2 e q12 sw))) (fun _ => rfl) ?_
        refine am_Ev.call (o := am_run cPT cML (n0 + 4) 59 [.ref 5, .int 10] (hp tx pg q11.2 e q12 sw)) (kk := fun q => (143, [(0, .ref 5), (1, .ref 26), (2, .int x2), (3, .int x3)], q.1.toList ++ [], q.2)) (q := (none, (hp tx pg q13 e q12 sw))) 1 (fun _ => rfl) (ev_R_expect_v hq) ?_
        refine am_Ev.go 2 (st' := (82, [(0, .ref 5), (1, .ref 26), (2, .int x2), (3, .int (x3 + 1))], [], (hp tx pg q13 e q12 sw))) (fun _ => rfl) ?_
        exact ih _ _ _ _ h
      · have h := (am_iff hc).symm.trans h
        refine am_Ev.same (st' := (149, [(0, .ref 5), (1, .ref 26), (2, .int x2)], [], (hp tx pg rd e d sw))) (fun _ => rfl) ?_
        exact hκ _ _ _ h
theorem ev_R_plainLines_40_B {n0 : Nat} {pg : SB} {e : SD} {sw : Bool} {x2 : Int32} {tx : SB} {κ : SR → SD → Option (SR × SD)} (hκ : ∀ (rd : SR) (d : SD) (res : SR × SD), κ rd d = some res → am_Ev (tb_R_plainLines (am_run cPT cML (n0 + 4))) (80, [(0, .ref 5), (1, .ref 26), (2, .int x2)], [], (hp tx pg rd e d sw)) (none, (hp tx pg res.1 e res.2 sw))) : ∀ (n : Nat) (x3 : Int32) (rd : SR) (d : SD) (res : SR × SD), fn_R_plainLines_40 x2 tx κ n x3 rd d = some res → am_Ev (tb_R_plainLines (am_run cPT cML (n0 + 4))) (40, [(0, .ref 5), (1, .ref 26), (2, .int x2), (3, .int x3)], [], (hp tx pg rd e d sw)) (none, (hp tx pg res.1 e res.2 sw)) := by
  intro n
  induction n with
  | zero => intro x3 rd d res h; unfold fn_R_plainLines_40 at h; cases h
  | succ n ih =>
    intro x3 rd d res h
    unfold fn_R_plainLines_40 at h
    obtain ⟨q14, hq, h⟩ := Option.bind_eq_some_iff.mp h
    refine am_Ev.go 3 (st' := (43, [(0, .ref 5), (1, .ref 26), (2, .int x2), (3, .int x3)], [.int 0, .ref 26, .int x3], (hp tx pg rd e d sw))) (fun _ => rfl) ?_
    refine am_Ev.call (o := am_run cPT cML (n0 + 4) 7 [.ref 26, .int 0] (hp tx pg rd e d sw)) (kk := fun q => (46, [(0, .ref 5), (1, .ref 26), (2, .int x2), (3, .int x3)], q.1.toList ++ [.int x3], q.2)) (q := (some (.int q14), (hp tx pg rd e d sw))) 1 (fun _ => rfl) (ev_D_many_B hq) ?_
    refine am_Ev.fork (b := decide (q14 ≤ x3)) (s1 := (80, [(0, .ref 5), (1, .ref 26), (2, .int x2), (3, .int x3)], [], (hp tx pg rd e d sw))) (s2 := (49, [(0, .ref 5), (1, .ref 26), (2, .int x2), (3, .int x3)], [], (hp tx pg rd e d sw))) 1 (fun _ => rfl) (fun hc => ?_) (fun hc => ?_)
    · have h := (am_ift hc).symm.trans h
      refine am_Ev.same (st' := (80, [(0, .ref 5), (1, .ref 26), (2, .int x2)], [], (hp tx pg rd e d sw))) (fun _ => rfl) ?_
      exact hκ _ _ _ h
    · have h := (am_iff hc).symm.trans h
      refine am_Ev.fork (b := decide (rd.2.2.2.2.2.2.2.2 = (-1 : Int32))) (s1 := (57, [(0, .ref 5), (1, .ref 26), (2, .int x2), (3, .int x3)], [], (hp tx pg rd e d sw))) (s2 := (80, [(0, .ref 5), (1, .ref 26), (2, .int x2), (3, .int x3)], [], (hp tx pg rd e d sw))) 4 (fun _ => rfl) (fun hc => ?_) (fun hc => ?_)
      · have h := (am_ift hc).symm.trans h
        obtain ⟨q15, hq, h⟩ := Option.bind_eq_some_iff.mp h
        refine am_Ev.go 5 (st' := (62, [(0, .ref 5), (1, .ref 26), (2, .int x2), (3, .int x3)], [.int x2, .ref 5, .int x3, .int 0, .ref 26], (hp tx pg rd e d sw))) (fun _ => rfl) ?_
        refine am_Ev.call (o := am_run cPT cML (n0 + 4) 52 [.ref 5, .int x2] (hp tx pg rd e d sw)) (kk := fun q => (65, [(0, .ref 5), (1, .ref 26), (2, .int x2), (3, .int x3)], q.1.toList ++ [.int x3, .int 0, .ref 26], q.2)) (q := (some (.int q15.1), (hp tx pg q15.2 e d sw))) 1 (fun _ => rfl) (ev_R_definition_v hq) ?_
        obtain ⟨q16, hq, h⟩ := Option.bind_eq_some_iff.mp h
        refine am_Ev.call (o := am_run cPT cML (n0 + 4) 11 [.ref 26, .int 0, .int x3, .int q15.1] (hp tx pg q15.2 e d sw)) (kk := fun q => (68, [(0, .ref 5), (1, .ref 26), (2, .int x2), (3, .int x3)], q.1.toList ++ [], q.2)) (q := (none, (hp tx pg q15.2 e q16 sw))) 1 (fun _ => rfl) (ev_D_set_B hq) ?_
        obtain ⟨q17, hq, h⟩ := Option.bind_eq_some_iff.mp h
        refine am_Ev.go 2 (st' := (71, [(0, .ref 5), (1, .ref 26), (2, .int x2), (3, .int x3)], [.int 10, .ref 5], (hp tx pg q15.2 e q16 sw))) (fun _ => rfl) ?_
        refine am_Ev.call (o := am_run cPT cML (n0 + 4) 59 [.ref 5, .int 10] (hp tx pg q15.2 e q16 sw)) (kk := fun q => (74, [(0, .ref 5), (1, .ref 26), (2, .int x2), (3, .int x3)], q.1.toList ++ [], q.2)) (q := (none, (hp tx pg q17 e q16 sw))) 1 (fun _ => rfl) (ev_R_expect_v hq) ?_
        refine am_Ev.go 2 (st' := (40, [(0, .ref 5), (1, .ref 26), (2, .int x2), (3, .int (x3 + 1))], [], (hp tx pg q17 e q16 sw))) (fun _ => rfl) ?_
        exact ih _ _ _ _ h
      · have h := (am_iff hc).symm.trans h
        refine am_Ev.same (st' := (80, [(0, .ref 5), (1, .ref 26), (2, .int x2)], [], (hp tx pg rd e d sw))) (fun _ => rfl) ?_
        exact hκ _ _ _ h
theorem ev_R_plainLines_7_B {n0 : Nat} {pg : SB} {e : SD} {sw : Bool} {tx : SB} {κ : SR → SD → Option (SR × SD)} (hκ : ∀ (rd : SR) (d : SD) (res : SR × SD), κ rd d = some res → am_Ev (tb_R_plainLines (am_run cPT cML (n0 + 4))) (29, [(0, .ref 5), (1, .ref 26)], [], (hp tx pg rd e d sw)) (none, (hp tx pg res.1 e res.2 sw))) : ∀ (n : Nat) (x2 : Int32) (rd : SR) (d : SD) (res : SR × SD), fn_R_plainLines_7 tx κ n x2 rd d = some res → am_Ev (tb_R_plainLines (am_run cPT cML (n0 + 4))) (7, [(0, .ref 5), (1, .ref 26), (2, .int x2)], [], (hp tx pg rd e d sw)) (none, (hp tx pg res.1 e res.2 sw)) := by
  intro n
  induction n with
  | zero => intro x2 rd d res h; unfold fn_R_plainLines_7 at h; cases h
  | succ n ih =>
    intro x2 rd d res h
    unfold fn_R_plainLines_7 at h
    refine am_Ev.fork (b := decide ((100 : Int32) ≤ x2)) (s1 := (29, [(0, .ref 5), (1, .ref 26), (2, .int x2)], [], (hp tx pg rd e d sw))) (s2 := (16, [(0, .ref 5), (1, .ref 26), (2, .int x2)], [], (hp tx pg rd e d sw))) 5 (fun _ => rfl) (fun hc => ?_) (fun hc => ?_)
    · have h := (am_ift hc).symm.trans h
      refine am_Ev.same (st' := (29, [(0, .ref 5), (1, .ref 26)], [], (hp tx pg rd e d sw))) (fun _ => rfl) ?_
      exact hκ _ _ _ h
    · have h := (am_iff hc).symm.trans h
      obtain ⟨hc, h⟩ := am_ifn h
      refine am_Ev.guard (b := decide (0 ≤ x2.toInt ∧ x2.toInt < (100 : Int))) (s1 := (23, [(0, .ref 5), (1, .ref 26), (2, .int x2)], [], (hp tx pg (upd rd.1 x2.toNatClampNeg (vp_nar .boolean (0 : Int32)), rd.2.1, rd.2.2.1, rd.2.2.2.1, rd.2.2.2.2.1, rd.2.2.2.2.2.1, rd.2.2.2.2.2.2.1, rd.2.2.2.2.2.2.2.1, rd.2.2.2.2.2.2.2.2) e d sw))) 5 (fun _ => rfl) hc ?_
      refine am_Ev.go 2 (st' := (7, [(0, .ref 5), (1, .ref 26), (2, .int (x2 + 1))], [], (hp tx pg (upd rd.1 x2.toNatClampNeg (vp_nar .boolean (0 : Int32)), rd.2.1, rd.2.2.1, rd.2.2.2.1, rd.2.2.2.2.1, rd.2.2.2.2.2.1, rd.2.2.2.2.2.2.1, rd.2.2.2.2.2.2.2.1, rd.2.2.2.2.2.2.2.2) e d sw))) (fun _ => rfl) ?_
      exact ih _ _ _ _ h
theorem ev_R_plainLines_B {n0 : Nat} {pg : SB} {e : SD} {sw : Bool} {tx : SB} {rd : SR} {d : SD} {res : SR × SD} (h : fn_R_plainLines tx rd d = some res) : am_run cPT cML (n0 + 5) 43 [.ref 5, .ref 26] (hp tx pg rd e d sw) = some (none, (hp tx pg res.1 e res.2 sw)) := by
  refine am_run_of (d := n0 + 4) rfl ?_
  show am_Ev (tb_R_plainLines (am_run cPT cML (n0 + 4))) (0, [(0, .ref 5), (1, .ref 26)], [], (hp tx pg rd e d sw)) (none, (hp tx pg res.1 e res.2 sw))
  unfold fn_R_plainLines at h
  refine am_Ev.go 5 (st' := (7, [(0, .ref 5), (1, .ref 26), (2, .int 0)], [], (hp tx pg (rd.1, rd.2.1, rd.2.2.1, rd.2.2.2.1, rd.2.2.2.2.1, rd.2.2.2.2.2.1, 0, rd.2.2.2.2.2.2.2.1, rd.2.2.2.2.2.2.2.2) e d sw))) (fun _ => rfl) ?_
  refine ev_R_plainLines_7_B ?_ _ _ _ _ _ h
  intro rd_19 d_19 res h
  try dsimp only at h
  obtain ⟨q19, hq, h⟩ := Option.bind_eq_some_iff.mp h
  refine am_Ev.go 2 (st' := (31, [(0, .ref 5), (1, .ref 26)], [.ref 26, .int 2], (hp tx pg rd_19 e d_19 sw))) (fun _ => rfl) ?_
  refine am_Ev.call (o := am_run cPT cML (n0 + 4) 4 [.ref 26] (hp tx pg rd_19 e d_19 sw)) (kk := fun q => (34, [(0, .ref 5), (1, .ref 26)], q.1.toList ++ [.int 2], q.2)) (q := (some (.int q19), (hp tx pg rd_19 e d_19 sw))) 1 (fun _ => rfl) (ev_D_most_B hq) ?_
  refine am_Ev.go 6 (st' := (40, [(0, .ref 5), (1, .ref 26), (2, .int (((2 : Int32) * q19) + (1 : Int32))), (3, .int 0)], [], (hp tx pg rd_19 e d_19 sw))) (fun _ => rfl) ?_
  refine ev_R_plainLines_40_B ?_ _ _ _ _ _ h
  intro rd_21 d_21 res h
  try dsimp only at h
  refine am_Ev.go 2 (st' := (82, [(0, .ref 5), (1, .ref 26), (2, .int (((2 : Int32) * q19) + (1 : Int32))), (3, .int 0)], [], (hp tx pg rd_21 e d_21 sw))) (fun _ => rfl) ?_
  refine ev_R_plainLines_82_B ?_ _ _ _ _ _ h
  intro rd_22 d_22 res h
  try dsimp only at h
  refine am_Ev.go 2 (st' := (151, [(0, .ref 5), (1, .ref 26), (2, .int (((2 : Int32) * q19) + (1 : Int32))), (3, .int 0)], [], (hp tx pg rd_22 e d_22 sw))) (fun _ => rfl) ?_
  refine ev_R_plainLines_151_B ?_ _ _ _ _ _ h
  intro rd_23 d_23 res h
  try dsimp only at h
  cases h
  exact am_Ev.done 1 rfl
theorem ev_R_packedLines_111_A {n0 : Nat} {pg : SB} {e : SD} {sw : Bool} {x2 : Int32} {tx : SB} {κ : SR → SD → Option (SR × SD)} (hκ : ∀ (rd : SR) (d : SD) (res : SR × SD), κ rd d = some res → am_Ev (tb_R_packedLines (am_run cPT cML (n0 + 4))) (153, [], [], (hp tx pg rd d e sw)) (none, (hp tx pg res.1 res.2 e sw))) : ∀ (n : Nat) (x4 : Int32) (rd : SR) (d : SD) (res : SR × SD), fn_R_packedLines_111 x2 tx κ n x4 rd d = some res → am_Ev (tb_R_packedLines (am_run cPT cML (n0 + 4))) (111, [(0, .ref 5), (1, .ref 13), (2, .int x2), (4, .int x4)], [], (hp tx pg rd d e sw)) (none, (hp tx pg res.1 res.2 e sw)) := by
  intro n
  induction n with
  | zero => intro x4 rd d res h; unfold fn_R_packedLines_111 at h; cases h
  | succ n ih =>
    intro x4 rd d res h
    unfold fn_R_packedLines_111 at h
    obtain ⟨q1, hq, h⟩ := Option.bind_eq_some_iff.mp h
    refine am_Ev.go 3 (st' := (115, [(0, .ref 5), (1, .ref 13), (2, .int x2), (4, .int x4)], [.int 2, .ref 13, .int x4], (hp tx pg rd d e sw))) (fun _ => rfl) ?_
    refine am_Ev.call (o := am_run cPT cML (n0 + 4) 7 [.ref 13, .int 2] (hp tx pg rd d e sw)) (kk := fun q => (118, [(0, .ref 5), (1, .ref 13), (2, .int x2), (4, .int x4)], q.1.toList ++ [.int x4], q.2)) (q := (some (.int q1), (hp tx pg rd d e sw))) 1 (fun _ => rfl) (ev_D_many_A hq) ?_
    refine am_Ev.fork (b := decide (q1 ≤ x4)) (s1 := (153, [(0, .ref 5), (1, .ref 13), (2, .int x2), (4, .int x4)], [], (hp tx pg rd d e sw))) (s2 := (121, [(0, .ref 5), (1, .ref 13), (2, .int x2), (4, .int x4)], [], (hp tx pg rd d e sw))) 1 (fun _ => rfl) (fun hc => ?_) (fun hc => ?_)
    · have h := (am_ift hc).symm.trans h
      refine am_Ev.same (st' := (153, [], [], (hp tx pg rd d e sw))) (fun _ => rfl) ?_
      exact hκ _ _ _ h
    · have h := (am_iff hc).symm.trans h
      refine am_Ev.fork (b := decide (rd.2.2.2.2.2.2.2.2 = (-1 : Int32))) (s1 := (129, [(0, .ref 5), (1, .ref 13), (2, .int x2), (4, .int x4)], [], (hp tx pg rd d e sw))) (s2 := (153, [(0, .ref 5), (1, .ref 13), (2, .int x2), (4, .int x4)], [], (hp tx pg rd d e sw))) 4 (fun _ => rfl) (fun hc => ?_) (fun hc => ?_)
      · have h := (am_ift hc).symm.trans h
        obtain ⟨q2, hq, h⟩ := Option.bind_eq_some_iff.mp h
        refine am_Ev.go 5 (st' := (135, [(0, .ref 5), (1, .ref 13), (2, .int x2), (4, .int x4)], [.int x2, .ref 5, .int x4, .int 2, .ref 13], (hp tx pg rd d e sw))) (fun _ => rfl) ?_
        refine am_Ev.call (o := am_run cPT cML (n0 + 4) 56 [.ref 5, .int x2] (hp tx pg rd d e sw)) (kk := fun q => (138, [(0, .ref 5), (1, .ref 13), (2, .int x2), (4, .int x4)], q.1.toList ++ [.int x4, .int 2, .ref 13], q.2)) (q := (some (.int q2.1), (hp tx pg q2.2 d e sw))) 1 (fun _ => rfl) (ev_R_number_v hq) ?_
        obtain ⟨q3, hq, h⟩ := Option.bind_eq_some_iff.mp h
        refine am_Ev.call (o := am_run cPT cML (n0 + 4) 11 [.ref 13, .int 2, .int x4, .int q2.1] (hp tx pg q2.2 d e sw)) (kk := fun q => (141, [(0, .ref 5), (1, .ref 13), (2, .int x2), (4, .int x4)], q.1.toList ++ [], q.2)) (q := (none, (hp tx pg q2.2 q3 e sw))) 1 (fun _ => rfl) (ev_D_set_A hq) ?_
        obtain ⟨q4, hq, h⟩ := Option.bind_eq_some_iff.mp h
        refine am_Ev.go 2 (st' := (144, [(0, .ref 5), (1, .ref 13), (2, .int x2), (4, .int x4)], [.int 10, .ref 5], (hp tx pg q2.2 q3 e sw))) (fun _ => rfl) ?_
        refine am_Ev.call (o := am_run cPT cML (n0 + 4) 59 [.ref 5, .int 10] (hp tx pg q2.2 q3 e sw)) (kk := fun q => (147, [(0, .ref 5), (1, .ref 13), (2, .int x2), (4, .int x4)], q.1.toList ++ [], q.2)) (q := (none, (hp tx pg q4 q3 e sw))) 1 (fun _ => rfl) (ev_R_expect_v hq) ?_
        refine am_Ev.go 2 (st' := (111, [(0, .ref 5), (1, .ref 13), (2, .int x2), (4, .int (x4 + 1))], [], (hp tx pg q4 q3 e sw))) (fun _ => rfl) ?_
        exact ih _ _ _ _ h
      · have h := (am_iff hc).symm.trans h
        refine am_Ev.same (st' := (153, [], [], (hp tx pg rd d e sw))) (fun _ => rfl) ?_
        exact hκ _ _ _ h
theorem ev_R_packedLines_44_A {n0 : Nat} {pg : SB} {e : SD} {sw : Bool} {x2 : Int32} {tx : SB} {κ : SR → SD → Option (SR × SD)} (hκ : ∀ (rd : SR) (d : SD) (res : SR × SD), κ rd d = some res → am_Ev (tb_R_packedLines (am_run cPT cML (n0 + 4))) (108, [(0, .ref 5), (1, .ref 13), (2, .int x2)], [], (hp tx pg rd d e sw)) (none, (hp tx pg res.1 res.2 e sw))) : ∀ (n : Nat) (x3 : Int32) (x4 : Int32) (rd : SR) (d : SD) (res : SR × SD), fn_R_packedLines_44 x2 tx κ n x3 x4 rd d = some res → am_Ev (tb_R_packedLines (am_run cPT cML (n0 + 4))) (44, [(0, .ref 5), (1, .ref 13), (2, .int x2), (3, .int x3), (4, .int x4)], [], (hp tx pg rd d e sw)) (none, (hp tx pg res.1 res.2 e sw)) := by
  intro n
  induction n with
  | zero => intro x3 x4 rd d res h; unfold fn_R_packedLines_44 at h; cases h
  | succ n ih =>
    intro x3 x4 rd d res h
    unfold fn_R_packedLines_44 at h
    obtain ⟨q5, hq, h⟩ := Option.bind_eq_some_iff.mp h
    refine am_Ev.go 3 (st' := (48, [(0, .ref 5), (1, .ref 13), (2, .int x2), (3, .int x3), (4, .int x4)], [.int 1, .ref 13, .int x4], (hp tx pg rd d e sw))) (fun _ => rfl) ?_
    refine am_Ev.call (o := am_run cPT cML (n0 + 4) 7 [.ref 13, .int 1] (hp tx pg rd d e sw)) (kk := fun q => (51, [(0, .ref 5), (1, .ref 13), (2, .int x2), (3, .int x3), (4, .int x4)], q.1.toList ++ [.int x4], q.2)) (q := (some (.int q5), (hp tx pg rd d e sw))) 1 (fun _ => rfl) (ev_D_many_A hq) ?_
    refine am_Ev.fork (b := decide (q5 ≤ x4)) (s1 := (108, [(0, .ref 5), (1, .ref 13), (2, .int x2), (3, .int x3), (4, .int x4)], [], (hp tx pg rd d e sw))) (s2 := (54, [(0, .ref 5), (1, .ref 13), (2, .int x2), (3, .int x3), (4, .int x4)], [], (hp tx pg rd d e sw))) 1 (fun _ => rfl) (fun hc => ?_) (fun hc => ?_)
    · have h := (am_ift hc).symm.trans h
      refine am_Ev.same (st' := (108, [(0, .ref 5), (1, .ref 13), (2, .int x2)], [], (hp tx pg rd d e sw))) (fun _ => rfl) ?_
      exact hκ _ _ _ h
    · have h := (am_iff hc).symm.trans h
      refine am_Ev.fork (b := decide (rd.2.2.2.2.2.2.2.2 = (-1 : Int32))) (s1 := (62, [(0, .ref 5), (1, .ref 13), (2, .int x2), (3, .int x3), (4, .int x4)], [], (hp tx pg rd d e sw))) (s2 := (108, [(0, .ref 5), (1, .ref 13), (2, .int x2), (3, .int x3), (4, .int x4)], [], (hp tx pg rd d e sw))) 4 (fun _ => rfl) (fun hc => ?_) (fun hc => ?_)
      · have h := (am_ift hc).symm.trans h
        obtain ⟨q6, hq, h⟩ := Option.bind_eq_some_iff.mp h
        refine am_Ev.go 5 (st' := (70, [(0, .ref 5), (1, .ref 13), (2, .int x2), (3, .int (x3 + 2)), (4, .int x4)], [.int (x3 + 2), .int x4, .int 1, .ref 13], (hp tx pg rd d e sw))) (fun _ => rfl) ?_
        refine am_Ev.call (o := am_run cPT cML (n0 + 4) 11 [.ref 13, .int 1, .int x4, .int (x3 + 2)] (hp tx pg rd d e sw)) (kk := fun q => (73, [(0, .ref 5), (1, .ref 13), (2, .int x2), (3, .int (x3 + 2)), (4, .int x4)], q.1.toList ++ [], q.2)) (q := (none, (hp tx pg rd q6 e sw))) 1 (fun _ => rfl) (ev_D_set_A hq) ?_
        obtain ⟨q7, hq, h⟩ := Option.bind_eq_some_iff.mp h
        refine am_Ev.go 5 (st' := (79, [(0, .ref 5), (1, .ref 13), (2, .int x2), (3, .int (x3 + 2)), (4, .int x4)], [.int x2, .ref 5, .int x4, .int 4, .ref 13], (hp tx pg rd q6 e sw))) (fun _ => rfl) ?_
        refine am_Ev.call (o := am_run cPT cML (n0 + 4) 56 [.ref 5, .int x2] (hp tx pg rd q6 e sw)) (kk := fun q => (82, [(0, .ref 5), (1, .ref 13), (2, .int x2), (3, .int (x3 + 2)), (4, .int x4)], q.1.toList ++ [.int x4, .int 4, .ref 13], q.2)) (q := (some (.int q7.1), (hp tx pg q7.2 q6 e sw))) 1 (fun _ => rfl) (ev_R_number_v hq) ?_
        obtain ⟨q8, hq, h⟩ := Option.bind_eq_some_iff.mp h
        refine am_Ev.call (o := am_run cPT cML (n0 + 4) 11 [.ref 13, .int 4, .int x4, .int q7.1] (hp tx pg q7.2 q6 e sw)) (kk := fun q => (85, [(0, .ref 5), (1, .ref 13), (2, .int x2), (3, .int (x3 + 2)), (4, .int x4)], q.1.toList ++ [], q.2)) (q := (none, (hp tx pg q7.2 q8 e sw))) 1 (fun _ => rfl) (ev_D_set_A hq) ?_
        obtain ⟨q9, hq, h⟩ := Option.bind_eq_some_iff.mp h
        refine am_Ev.go 4 (st' := (90, [(0, .ref 5), (1, .ref 13), (2, .int x2), (3, .int (x3 + 2)), (4, .int x4)], [.ref 5, .int x4, .int 5, .ref 13], (hp tx pg q7.2 q8 e sw))) (fun _ => rfl) ?_
        refine am_Ev.call (o := am_run cPT cML (n0 + 4) 54 [.ref 5] (hp tx pg q7.2 q8 e sw)) (kk := fun q => (93, [(0, .ref 5), (1, .ref 13), (2, .int x2), (3, .int (x3 + 2)), (4, .int x4)], q.1.toList ++ [.int x4, .int 5, .ref 13], q.2)) (q := (some (.int q9.1), (hp tx pg q9.2 q8 e sw))) 1 (fun _ => rfl) (ev_R_perhapsFirst_v hq) ?_
        obtain ⟨q10, hq, h⟩ := Option.bind_eq_some_iff.mp h
        refine am_Ev.call (o := am_run cPT cML (n0 + 4) 11 [.ref 13, .int 5, .int x4, .int q9.1] (hp tx pg q9.2 q8 e sw)) (kk := fun q => (96, [(0, .ref 5), (1, .ref 13), (2, .int x2), (3, .int (x3 + 2)), (4, .int x4)], q.1.toList ++ [], q.2)) (q := (none, (hp tx pg q9.2 q10 e sw))) 1 (fun _ => rfl) (ev_D_set_A hq) ?_
        obtain ⟨q11, hq, h⟩ := Option.bind_eq_some_iff.mp h
        refine am_Ev.go 2 (st' := (99, [(0, .ref 5), (1, .ref 13), (2, .int x2), (3, .int (x3 + 2)), (4, .int x4)], [.int 10, .ref 5], (hp tx pg q9.2 q10 e sw))) (fun _ => rfl) ?_
        refine am_Ev.call (o := am_run cPT cML (n0 + 4) 59 [.ref 5, .int 10] (hp tx pg q9.2 q10 e sw)) (kk := fun q => (102, [(0, .ref 5), (1, .ref 13), (2, .int x2), (3, .int (x3 + 2)), (4, .int x4)], q.1.toList ++ [], q.2)) (q := (none, (hp tx pg q11 q10 e sw))) 1 (fun _ => rfl) (ev_R_expect_v hq) ?_
        refine am_Ev.go 2 (st' := (44, [(0, .ref 5), (1, .ref 13), (2, .int x2), (3, .int (x3 + 2)), (4, .int (x4 + 1))], [], (hp tx pg q11 q10 e sw))) (fun _ => rfl) ?_
        exact ih _ _ _ _ _ h
      · have h := (am_iff hc).symm.trans h
        refine am_Ev.same (st' := (108, [(0, .ref 5), (1, .ref 13), (2, .int x2)], [], (hp tx pg rd d e sw))) (fun _ => rfl) ?_
        exact hκ _ _ _ h
theorem ev_R_packedLines_14_A {n0 : Nat} {pg : SB} {e : SD} {sw : Bool} {x2 : Int32} {tx : SB} {κ : Int32 → SR → SD → Option (SR × SD)} (hκ : ∀ (x3 : Int32) (rd : SR) (d : SD) (res : SR × SD), κ x3 rd d = some res → am_Ev (tb_R_packedLines (am_run cPT cML (n0 + 4))) (41, [(0, .ref 5), (1, .ref 13), (2, .int x2), (3, .int x3)], [], (hp tx pg rd d e sw)) (none, (hp tx pg res.1 res.2 e sw))) : ∀ (n : Nat) (x3 : Int32) (x4 : Int32) (rd : SR) (d : SD) (res : SR × SD), fn_R_packedLines_14 x2 tx κ n x3 x4 rd d = some res → am_Ev (tb_R_packedLines (am_run cPT cML (n0 + 4))) (14, [(0, .ref 5), (1, .ref 13), (2, .int x2), (3, .int x3), (4, .int x4)], [], (hp tx pg rd d e sw)) (none, (hp tx pg res.1 res.2 e sw)) := by
  intro n
  induction n with
  | zero => intro x3 x4 rd d res h; unfold fn_R_packedLines_14 at h; cases h
  | succ n ih =>
    intro x3 x4 rd d res h
    unfold fn_R_packedLines_14 at h
    obtain ⟨q12, hq, h⟩ := Option.bind_eq_some_iff.mp h
    refine am_Ev.go 3 (st' := (18, [(0, .ref 5), (1, .ref 13), (2, .int x2), (3, .int x3), (4, .int x4)], [.int 0, .ref 13, .int x4], (hp tx pg rd d e sw))) (fun _ => rfl) ?_
    refine am_Ev.call (o := am_run cPT cML (n0 + 4) 7 [.ref 13, .int 0] (hp tx pg rd d e sw)) (kk := fun q => (21, [(0, .ref 5), (1, .ref 13), (2, .int x2), (3, .int x3), (4, .int x4)], q.1.toList ++ [.int x4], q.2)) (q := (some (.int q12), (hp tx pg rd d e sw))) 1 (fun _ => rfl) (ev_D_many_A hq) ?_
    refine am_Ev.fork (b := decide (q12 ≤ x4)) (s1 := (41, [(0, .ref 5), (1, .ref 13), (2, .int x2), (3, .int x3), (4, .int x4)], [], (hp tx pg rd d e sw))) (s2 := (24, [(0, .ref 5), (1, .ref 13), (2, .int x2), (3, .int x3), (4, .int x4)], [], (hp tx pg rd d e sw))) 1 (fun _ => rfl) (fun hc => ?_) (fun hc => ?_)
    · have h := (am_ift hc).symm.trans h
      refine am_Ev.same (st' := (41, [(0, .ref 5), (1, .ref 13), (2, .int x2), (3, .int x3)], [], (hp tx pg rd d e sw))) (fun _ => rfl) ?_
      exact hκ _ _ _ _ h
    · have h := (am_iff hc).symm.trans h
      obtain ⟨q13, hq, h⟩ := Option.bind_eq_some_iff.mp h
      refine am_Ev.go 5 (st' := (32, [(0, .ref 5), (1, .ref 13), (2, .int x2), (3, .int (x3 + 2)), (4, .int x4)], [.int (x3 + 2), .int x4, .int 0, .ref 13], (hp tx pg rd d e sw))) (fun _ => rfl) ?_
      refine am_Ev.call (o := am_run cPT cML (n0 + 4) 11 [.ref 13, .int 0, .int x4, .int (x3 + 2)] (hp tx pg rd d e sw)) (kk := fun q => (35, [(0, .ref 5), (1, .ref 13), (2, .int x2), (3, .int (x3 + 2)), (4, .int x4)], q.1.toList ++ [], q.2)) (q := (none, (hp tx pg rd q13 e sw))) 1 (fun _ => rfl) (ev_D_set_A hq) ?_
      refine am_Ev.go 2 (st' := (14, [(0, .ref 5), (1, .ref 13), (2, .int x2), (3, .int (x3 + 2)), (4, .int (x4 + 1))], [], (hp tx pg rd q13 e sw))) (fun _ => rfl) ?_
      exact ih _ _ _ _ _ h
theorem ev_R_packedLines_A {n0 : Nat} {pg : SB} {e : SD} {sw : Bool} {tx : SB} {rd : SR} {d : SD} {res : SR × SD} (h : fn_R_packedLines tx rd d = some res) : am_run cPT cML (n0 + 5) 45 [.ref 5, .ref 13] (hp tx pg rd d e sw) = some (none, (hp tx pg res.1 res.2 e sw)) := by
  refine am_run_of (d := n0 + 4) rfl ?_
  show am_Ev (tb_R_packedLines (am_run cPT cML (n0 + 4))) (0, [(0, .ref 5), (1, .ref 13)], [], (hp tx pg rd d e sw)) (none, (hp tx pg res.1 res.2 e sw))
  unfold fn_R_packedLines at h
  obtain ⟨q14, hq, h⟩ := Option.bind_eq_some_iff.mp h
  refine am_Ev.go 2 (st' := (2, [(0, .ref 5), (1, .ref 13)], [.ref 13, .int 2], (hp tx pg rd d e sw))) (fun _ => rfl) ?_
  refine am_Ev.call (o := am_run cPT cML (n0 + 4) 4 [.ref 13] (hp tx pg rd d e sw)) (kk := fun q => (5, [(0, .ref 5), (1, .ref 13)], q.1.toList ++ [.int 2], q.2)) (q := (some (.int q14), (hp tx pg rd d e sw))) 1 (fun _ => rfl) (ev_D_most_A hq) ?_
  refine am_Ev.go 8 (st' := (14, [(0, .ref 5), (1, .ref 13), (2, .int (((2 : Int32) * q14) + (1 : Int32))), (3, .int 0), (4, .int 0)], [], (hp tx pg rd d e sw))) (fun _ => rfl) ?_
  refine ev_R_packedLines_14_A ?_ _ _ _ _ _ _ h
  intro x3_16 rd_16 d_16 res h
  try dsimp only at h
  refine am_Ev.go 2 (st' := (44, [(0, .ref 5), (1, .ref 13), (2, .int (((2 : Int32) * q14) + (1 : Int32))), (3, .int x3_16), (4, .int 0)], [], (hp tx pg rd_16 d_16 e sw))) (fun _ => rfl) ?_
  refine ev_R_packedLines_44_A ?_ _ _ _ _ _ _ h
  intro rd_17 d_17 res h
  try dsimp only at h
  refine am_Ev.go 2 (st' := (111, [(0, .ref 5), (1, .ref 13), (2, .int (((2 : Int32) * q14) + (1 : Int32))), (4, .int 0)], [], (hp tx pg rd_17 d_17 e sw))) (fun _ => rfl) ?_
  refine ev_R_packedLines_111_A ?_ _ _ _ _ _ h
  intro rd_18 d_18 res h
  try dsimp only at h
  cases h
  exact am_Ev.done 1 rfl
theorem ev_R_packedLines_111_B {n0 : Nat} {pg : SB} {e : SD} {sw : Bool} {x2 : Int32} {tx : SB} {κ : SR → SD → Option (SR × SD)} (hκ : ∀ (rd : SR) (d : SD) (res : SR × SD), κ rd d = some res → am_Ev (tb_R_packedLines (am_run cPT cML (n0 + 4))) (153, [], [], (hp tx pg rd e d sw)) (none, (hp tx pg res.1 e res.2 sw))) : ∀ (n : Nat) (x4 : Int32) (rd : SR) (d : SD) (res : SR × SD), fn_R_packedLines_111 x2 tx κ n x4 rd d = some res → am_Ev (tb_R_packedLines (am_run cPT cML (n0 + 4))) (111, [(0, .ref 5), (1, .ref 26), (2, .int x2), (4, .int x4)], [], (hp tx pg rd e d sw)) (none, (hp tx pg res.1 e res.2 sw)) := by
  intro n
  induction n with
  | zero => intro x4 rd d res h; unfold fn_R_packedLines_111 at h; cases h
  | succ n ih =>
    intro x4 rd d res h
    unfold fn_R_packedLines_111 at h
    obtain ⟨q1, hq, h⟩ := Option.bind_eq_some_iff.mp h
    refine am_Ev.go 3 (st' := (115, [(0, .ref 5), (1, .ref 26), (2, .int x2), (4, .int x4)], [.int 2, .ref 26, .int x4], (hp tx pg rd e d sw))) (fun _ => rfl) ?_
    refine am_Ev.call (o := am_run cPT cML (n0 + 4) 7 [.ref 26, .int 2] (hp tx pg rd e d sw)) (kk := fun q => (118, [(0, .ref 5), (1, .ref 26), (2, .int x2), (4, .int x4)], q.1.toList ++ [.int x4], q.2)) (q := (some (.int q1), (hp tx pg rd e d sw))) 1 (fun _ => rfl) (ev_D_many_B hq) ?_
    refine am_Ev.fork (b := decide (q1 ≤ x4)) (s1 := (153, [(0, .ref 5), (1, .ref 26), (2, .int x2), (4, .int x4)], [], (hp tx pg rd e d sw))) (s2 := (121, [(0, .ref 5), (1, .ref 26), (2, .int x2), (4, .int x4)], [], (hp tx pg rd e d sw))) 1 (fun _ => rfl) (fun hc => ?_) (fun hc => ?_)
    · have h := (am_ift hc).symm.trans h
      refine am_Ev.same (st' := (153, [], [], (hp tx pg rd e d sw))) (fun _ => rfl) ?_
      exact hκ _ _ _ h
    · have h := (am_iff hc).symm.trans h
      refine am_Ev.fork (b := decide (rd.2.2.2.2.2.2.2.2 = (-1 : Int32))) (s1 := (129, [(0, .ref 5), (1, .ref 26), (2, .int x2), (4, .int x4)], [], (hp tx pg rd e d sw))) (s2 := (153, [(0, .ref 5), (1, .ref 26), (2, .int x2), (4, .int x4)], [], (hp tx pg rd e d sw))) 4 (fun _ => rfl) (fun hc => ?_) (fun hc => ?_)
      · have h := (am_ift hc).symm.trans h
        obtain ⟨q2, hq, h⟩ := Option.bind_eq_some_iff.mp h
        refine am_Ev.go 5 (st' := (135, [(0, .ref 5), (1, .ref 26), (2, .int x2), (4, .int x4)], [.int x2, .ref 5, .int x4, .int 2, .ref 26], (hp tx pg rd e d sw))) (fun _ => rfl) ?_
        refine am_Ev.call (o := am_run cPT cML (n0 + 4) 56 [.ref 5, .int x2] (hp tx pg rd e d sw)) (kk := fun q => (138, [(0, .ref 5), (1, .ref 26), (2, .int x2), (4, .int x4)], q.1.toList ++ [.int x4, .int 2, .ref 26], q.2)) (q := (some (.int q2.1), (hp tx pg q2.2 e d sw))) 1 (fun _ => rfl) (ev_R_number_v hq) ?_
        obtain ⟨q3, hq, h⟩ := Option.bind_eq_some_iff.mp h
        refine am_Ev.call (o := am_run cPT cML (n0 + 4) 11 [.ref 26, .int 2, .int x4, .int q2.1] (hp tx pg q2.2 e d sw)) (kk := fun q => (141, [(0, .ref 5), (1, .ref 26), (2, .int x2), (4, .int x4)], q.1.toList ++ [], q.2)) (q := (none, (hp tx pg q2.2 e q3 sw))) 1 (fun _ => rfl) (ev_D_set_B hq) ?_
        obtain ⟨q4, hq, h⟩ := Option.bind_eq_some_iff.mp h
        refine am_Ev.go 2 (st' := (144, [(0, .ref 5), (1, .ref 26), (2, .int x2), (4, .int x4)], [.int 10, .ref 5], (hp tx pg q2.2 e q3 sw))) (fun _ => rfl) ?_
        refine am_Ev.call (o := am_run cPT cML (n0 + 4) 59 [.ref 5, .int 10] (hp tx pg q2.2 e q3 sw)) (kk := fun q => (147, [(0, .ref 5), (1, .ref 26), (2, .int x2), (4, .int x4)], q.1.toList ++ [], q.2)) (q := (none, (hp tx pg q4 e q3 sw))) 1 (fun _ => rfl) (ev_R_expect_v hq) ?_
        refine am_Ev.go 2 (st' := (111, [(0, .ref 5), (1, .ref 26), (2, .int x2), (4, .int (x4 + 1))], [], (hp tx pg q4 e q3 sw))) (fun _ => rfl) ?_
        exact ih _ _ _ _ h
      · have h := (am_iff hc).symm.trans h
        refine am_Ev.same (st' := (153, [], [], (hp tx pg rd e d sw))) (fun _ => rfl) ?_
        exact hκ _ _ _ h
theorem ev_R_packedLines_44_B {n0 : Nat} {pg : SB} {e : SD} {sw : Bool} {x2 : Int32} {tx : SB} {κ : SR → SD → Option (SR × SD)} (hκ : ∀ (rd : SR) (d : SD) (res : SR × SD), κ rd d = some res → am_Ev (tb_R_packedLines (am_run cPT cML (n0 + 4))) (108, [(0, .ref 5), (1, .ref 26), (2, .int x2)], [], (hp tx pg rd e d sw)) (none, (hp tx pg res.1 e res.2 sw))) : ∀ (n : Nat) (x3 : Int32) (x4 : Int32) (rd : SR) (d : SD) (res : SR × SD), fn_R_packedLines_44 x2 tx κ n x3 x4 rd d = some res → am_Ev (tb_R_packedLines (am_run cPT cML (n0 + 4))) (44, [(0, .ref 5), (1, .ref 26), (2, .int x2), (3, .int x3), (4, .int x4)], [], (hp tx pg rd e d sw)) (none, (hp tx pg res.1 e res.2 sw)) := by
  intro n
  induction n with
  | zero => intro x3 x4 rd d res h; unfold fn_R_packedLines_44 at h; cases h
  | succ n ih =>
    intro x3 x4 rd d res h
    unfold fn_R_packedLines_44 at h
    obtain ⟨q5, hq, h⟩ := Option.bind_eq_some_iff.mp h
    refine am_Ev.go 3 (st' := (48, [(0, .ref 5), (1, .ref 26), (2, .int x2), (3, .int x3), (4, .int x4)], [.int 1, .ref 26, .int x4], (hp tx pg rd e d sw))) (fun _ => rfl) ?_
    refine am_Ev.call (o := am_run cPT cML (n0 + 4) 7 [.ref 26, .int 1] (hp tx pg rd e d sw)) (kk := fun q => (51, [(0, .ref 5), (1, .ref 26), (2, .int x2), (3, .int x3), (4, .int x4)], q.1.toList ++ [.int x4], q.2)) (q := (some (.int q5), (hp tx pg rd e d sw))) 1 (fun _ => rfl) (ev_D_many_B hq) ?_
    refine am_Ev.fork (b := decide (q5 ≤ x4)) (s1 := (108, [(0, .ref 5), (1, .ref 26), (2, .int x2), (3, .int x3), (4, .int x4)], [], (hp tx pg rd e d sw))) (s2 := (54, [(0, .ref 5), (1, .ref 26), (2, .int x2), (3, .int x3), (4, .int x4)], [], (hp tx pg rd e d sw))) 1 (fun _ => rfl) (fun hc => ?_) (fun hc => ?_)
    · have h := (am_ift hc).symm.trans h
      refine am_Ev.same (st' := (108, [(0, .ref 5), (1, .ref 26), (2, .int x2)], [], (hp tx pg rd e d sw))) (fun _ => rfl) ?_
      exact hκ _ _ _ h
    · have h := (am_iff hc).symm.trans h
      refine am_Ev.fork (b := decide (rd.2.2.2.2.2.2.2.2 = (-1 : Int32))) (s1 := (62, [(0, .ref 5), (1, .ref 26), (2, .int x2), (3, .int x3), (4, .int x4)], [], (hp tx pg rd e d sw))) (s2 := (108, [(0, .ref 5), (1, .ref 26), (2, .int x2), (3, .int x3), (4, .int x4)], [], (hp tx pg rd e d sw))) 4 (fun _ => rfl) (fun hc => ?_) (fun hc => ?_)
      · have h := (am_ift hc).symm.trans h
        obtain ⟨q6, hq, h⟩ := Option.bind_eq_some_iff.mp h
        refine am_Ev.go 5 (st' := (70, [(0, .ref 5), (1, .ref 26), (2, .int x2), (3, .int (x3 + 2)), (4, .int x4)], [.int (x3 + 2), .int x4, .int 1, .ref 26], (hp tx pg rd e d sw))) (fun _ => rfl) ?_
        refine am_Ev.call (o := am_run cPT cML (n0 + 4) 11 [.ref 26, .int 1, .int x4, .int (x3 + 2)] (hp tx pg rd e d sw)) (kk := fun q => (73, [(0, .ref 5), (1, .ref 26), (2, .int x2), (3, .int (x3 + 2)), (4, .int x4)], q.1.toList ++ [], q.2)) (q := (none, (hp tx pg rd e q6 sw))) 1 (fun _ => rfl) (ev_D_set_B hq) ?_
        obtain ⟨q7, hq, h⟩ := Option.bind_eq_some_iff.mp h
        refine am_Ev.go 5 (st' := (79, [(0, .ref 5), (1, .ref 26), (2, .int x2), (3, .int (x3 + 2)), (4, .int x4)], [.int x2, .ref 5, .int x4, .int 4, .ref 26], (hp tx pg rd e q6 sw))) (fun _ => rfl) ?_
        refine am_Ev.call (o := am_run cPT cML (n0 + 4) 56 [.ref 5, .int x2] (hp tx pg rd e q6 sw)) (kk := fun q => (82, [(0, .ref 5), (1, .ref 26), (2, .int x2), (3, .int (x3 + 2)), (4, .int x4)], q.1.toList ++ [.int x4, .int 4, .ref 26], q.2)) (q := (some (.int q7.1), (hp tx pg q7.2 e q6 sw))) 1 (fun _ => rfl) (ev_R_number_v hq) ?_
        obtain ⟨q8, hq, h⟩ := Option.bind_eq_some_iff.mp h
        refine am_Ev.call (o := am_run cPT cML (n0 + 4) 11 [.ref 26, .int 4, .int x4, .int q7.1] (hp tx pg q7.2 e q6 sw)) (kk := fun q => (85, [(0, .ref 5), (1, .ref 26), (2, .int x2), (3, .int (x3 + 2)), (4, .int x4)], q.1.toList ++ [], q.2)) (q := (none, (hp tx pg q7.2 e q8 sw))) 1 (fun _ => rfl) (ev_D_set_B hq) ?_
        obtain ⟨q9, hq, h⟩ := Option.bind_eq_some_iff.mp h
        refine am_Ev.go 4 (st' := (90, [(0, .ref 5), (1, .ref 26), (2, .int x2), (3, .int (x3 + 2)), (4, .int x4)], [.ref 5, .int x4, .int 5, .ref 26], (hp tx pg q7.2 e q8 sw))) (fun _ => rfl) ?_
        refine am_Ev.call (o := am_run cPT cML (n0 + 4) 54 [.ref 5] (hp tx pg q7.2 e q8 sw)) (kk := fun q => (93, [(0, .ref 5), (1, .ref 26), (2, .int x2), (3, .int (x3 + 2)), (4, .int x4)], q.1.toList ++ [.int x4, .int 5, .ref 26], q.2)) (q := (some (.int q9.1), (hp tx pg q9.2 e q8 sw))) 1 (fun _ => rfl) (ev_R_perhapsFirst_v hq) ?_
        obtain ⟨q10, hq, h⟩ := Option.bind_eq_some_iff.mp h
        refine am_Ev.call (o := am_run cPT cML (n0 + 4) 11 [.ref 26, .int 5, .int x4, .int q9.1] (hp tx pg q9.2 e q8 sw)) (kk := fun q => (96, [(0, .ref 5), (1, .ref 26), (2, .int x2), (3, .int (x3 + 2)), (4, .int x4)], q.1.toList ++ [], q.2)) (q := (none, (hp tx pg q9.2 e q10 sw))) 1 (fun _ => rfl) (ev_D_set_B hq) ?_
        obtain ⟨q11, hq, h⟩ := Option.bind_eq_some_iff.mp h
        refine am_Ev.go 2 (st' := (99, [(0, .ref 5), (1, .ref 26), (2, .int x2), (3, .int (x3 + 2)), (4, .int x4)], [.int 10, .ref 5], (hp tx pg q9.2 e q10 sw))) (fun _ => rfl) ?_
        refine am_Ev.call (o := am_run cPT cML (n0 + 4) 59 [.ref 5, .int 10] (hp tx pg q9.2 e q10 sw)) (kk := fun q => (102, [(0, .ref 5), (1, .ref 26), (2, .int x2), (3, .int (x3 + 2)), (4, .int x4)], q.1.toList ++ [], q.2)) (q := (none, (hp tx pg q11 e q10 sw))) 1 (fun _ => rfl) (ev_R_expect_v hq) ?_
        refine am_Ev.go 2 (st' := (44, [(0, .ref 5), (1, .ref 26), (2, .int x2), (3, .int (x3 + 2)), (4, .int (x4 + 1))], [], (hp tx pg q11 e q10 sw))) (fun _ => rfl) ?_
        exact ih _ _ _ _ _ h
      · have h := (am_iff hc).symm.trans h
        refine am_Ev.same (st' := (108, [(0, .ref 5), (1, .ref 26), (2, .int x2)], [], (hp tx pg rd e d sw))) (fun _ => rfl) ?_
        exact hκ _ _ _ h
theorem ev_R_packedLines_14_B {n0 : Nat} {pg : SB} {e : SD} {sw : Bool} {x2 : Int32} {tx : SB} {κ : Int32 → SR → SD → Option (SR × SD)} (hκ : ∀ (x3 : Int32) (rd : SR) (d : SD) (res : SR × SD), κ x3 rd d = some res → am_Ev (tb_R_packedLines (am_run cPT cML (n0 + 4))) (41, [(0, .ref 5), (1, .ref 26), (2, .int x2), (3, .int x3)], [], (hp tx pg rd e d sw)) (none, (hp tx pg res.1 e res.2 sw))) : ∀ (n : Nat) (x3 : Int32) (x4 : Int32) (rd : SR) (d : SD) (res : SR × SD), fn_R_packedLines_14 x2 tx κ n x3 x4 rd d = some res → am_Ev (tb_R_packedLines (am_run cPT cML (n0 + 4))) (14, [(0, .ref 5), (1, .ref 26), (2, .int x2), (3, .int x3), (4, .int x4)], [], (hp tx pg rd e d sw)) (none, (hp tx pg res.1 e res.2 sw)) := by
  intro n
  induction n with
  | zero => intro x3 x4 rd d res h; unfold fn_R_packedLines_14 at h; cases h
  | succ n ih =>
    intro x3 x4 rd d res h
    unfold fn_R_packedLines_14 at h
    obtain ⟨q12, hq, h⟩ := Option.bind_eq_some_iff.mp h
    refine am_Ev.go 3 (st' := (18, [(0, .ref 5), (1, .ref 26), (2, .int x2), (3, .int x3), (4, .int x4)], [.int 0, .ref 26, .int x4], (hp tx pg rd e d sw))) (fun _ => rfl) ?_
    refine am_Ev.call (o := am_run cPT cML (n0 + 4) 7 [.ref 26, .int 0] (hp tx pg rd e d sw)) (kk := fun q => (21, [(0, .ref 5), (1, .ref 26), (2, .int x2), (3, .int x3), (4, .int x4)], q.1.toList ++ [.int x4], q.2)) (q := (some (.int q12), (hp tx pg rd e d sw))) 1 (fun _ => rfl) (ev_D_many_B hq) ?_
    refine am_Ev.fork (b := decide (q12 ≤ x4)) (s1 := (41, [(0, .ref 5), (1, .ref 26), (2, .int x2), (3, .int x3), (4, .int x4)], [], (hp tx pg rd e d sw))) (s2 := (24, [(0, .ref 5), (1, .ref 26), (2, .int x2), (3, .int x3), (4, .int x4)], [], (hp tx pg rd e d sw))) 1 (fun _ => rfl) (fun hc => ?_) (fun hc => ?_)
    · have h := (am_ift hc).symm.trans h
      refine am_Ev.same (st' := (41, [(0, .ref 5), (1, .ref 26), (2, .int x2), (3, .int x3)], [], (hp tx pg rd e d sw))) (fun _ => rfl) ?_
      exact hκ _ _ _ _ h
    · have h := (am_iff hc).symm.trans h
      obtain ⟨q13, hq, h⟩ := Option.bind_eq_some_iff.mp h
      refine am_Ev.go 5 (st' := (32, [(0, .ref 5), (1, .ref 26), (2, .int x2), (3, .int (x3 + 2)), (4, .int x4)], [.int (x3 + 2), .int x4, .int 0, .ref 26], (hp tx pg rd e d sw))) (fun _ => rfl) ?_
      refine am_Ev.call (o := am_run cPT cML (n0 + 4) 11 [.ref 26, .int 0, .int x4, .int (x3 + 2)] (hp tx pg rd e d sw)) (kk := fun q => (35, [(0, .ref 5), (1, .ref 26), (2, .int x2), (3, .int (x3 + 2)), (4, .int x4)], q.1.toList ++ [], q.2)) (q := (none, (hp tx pg rd e q13 sw))) 1 (fun _ => rfl) (ev_D_set_B hq) ?_
      refine am_Ev.go 2 (st' := (14, [(0, .ref 5), (1, .ref 26), (2, .int x2), (3, .int (x3 + 2)), (4, .int (x4 + 1))], [], (hp tx pg rd e q13 sw))) (fun _ => rfl) ?_
      exact ih _ _ _ _ _ h
theorem ev_R_packedLines_B {n0 : Nat} {pg : SB} {e : SD} {sw : Bool} {tx : SB} {rd : SR} {d : SD} {res : SR × SD} (h : fn_R_packedLines tx rd d = some res) : am_run cPT cML (n0 + 5) 45 [.ref 5, .ref 26] (hp tx pg rd e d sw) = some (none, (hp tx pg res.1 e res.2 sw)) := by
  refine am_run_of (d := n0 + 4) rfl ?_
  show am_Ev (tb_R_packedLines (am_run cPT cML (n0 + 4))) (0, [(0, .ref 5), (1, .ref 26)], [], (hp tx pg rd e d sw)) (none, (hp tx pg res.1 e res.2 sw))
  unfold fn_R_packedLines at h
  obtain ⟨q14, hq, h⟩ := Option.bind_eq_some_iff.mp h
  refine am_Ev.go 2 (st' := (2, [(0, .ref 5), (1, .ref 26)], [.ref 26, .int 2], (hp tx pg rd e d sw))) (fun _ => rfl) ?_
  refine am_Ev.call (o := am_run cPT cML (n0 + 4) 4 [.ref 26] (hp tx pg rd e d sw)) (kk := fun q => (5, [(0, .ref 5), (1, .ref 26)], q.1.toList ++ [.int 2], q.2)) (q := (some (.int q14), (hp tx pg rd e d sw))) 1 (fun _ => rfl) (ev_D_most_B hq) ?_
  refine am_Ev.go 8 (st' := (14, [(0, .ref 5), (1, .ref 26), (2, .int (((2 : Int32) * q14) + (1 : Int32))), (3, .int 0), (4, .int 0)], [], (hp tx pg rd e d sw))) (fun _ => rfl) ?_
  refine ev_R_packedLines_14_B ?_ _ _ _ _ _ _ h
  intro x3_16 rd_16 d_16 res h
  try dsimp only at h
  refine am_Ev.go 2 (st' := (44, [(0, .ref 5), (1, .ref 26), (2, .int (((2 : Int32) * q14) + (1 : Int32))), (3, .int x3_16), (4, .int 0)], [], (hp tx pg rd_16 e d_16 sw))) (fun _ => rfl) ?_
  refine ev_R_packedLines_44_B ?_ _ _ _ _ _ _ h
  intro rd_17 d_17 res h
  try dsimp only at h
  refine am_Ev.go 2 (st' := (111, [(0, .ref 5), (1, .ref 26), (2, .int (((2 : Int32) * q14) + (1 : Int32))), (4, .int 0)], [], (hp tx pg rd_17 e d_17 sw))) (fun _ => rfl) ?_
  refine ev_R_packedLines_111_B ?_ _ _ _ _ _ h
  intro rd_18 d_18 res h
  try dsimp only at h
  cases h
  exact am_Ev.done 1 rfl
theorem ev_T_order_A {n0 : Nat} {tx : SB} {pg : SB} {rd : SR} {d : SD} {e : SD} {res : SD} (h : fn_T_order d e = some res) : am_run cPT cML (n0 + 5) 63 [.ref 0] (hp tx pg rd d e false) = some (none, (hp tx pg rd d res true)) := by
  refine am_run_of (d := n0 + 4) rfl ?_
  show am_Ev (tb_T_order (am_run cPT cML (n0 + 4))) (0, [(0, .ref 0)], [], (hp tx pg rd d e false)) (none, (hp tx pg rd d res true))
  unfold fn_T_order at h
  obtain ⟨q1, hq, h⟩ := Option.bind_eq_some_iff.mp h
  refine am_Ev.go 4 (st' := (8, [(0, .ref 0)], [.ref 13, .ref 26], (hp tx pg rd d e false))) (fun _ => rfl) ?_
  refine am_Ev.call (o := am_run cPT cML (n0 + 4) 24 [.ref 26, .ref 13] (hp tx pg rd d e false)) (kk := fun q => (11, [(0, .ref 0)], q.1.toList ++ [], q.2)) (q := (none, (hp tx pg rd d q1 false))) 1 (fun _ => rfl) (ev_D_orderFrom_B hq) ?_
  obtain ⟨q2, hq, h⟩ := Option.bind_eq_some_iff.mp h
  refine am_Ev.go 1 (st' := (12, [(0, .ref 0)], [.ref 0], (hp tx pg rd d q1 false))) (fun _ => rfl) ?_
  refine am_Ev.call (o := am_run cPT cML (n0 + 4) 67 [.ref 0] (hp tx pg rd d q1 false)) (kk := fun q => (15, [(0, .ref 0)], q.1.toList ++ [], q.2)) (q := (none, (hp tx pg rd d q1 true))) 1 (fun _ => rfl) (ev_T_exchange_A hq) ?_
  cases h
  exact am_Ev.done 1 rfl
theorem ev_T_order_B {n0 : Nat} {tx : SB} {pg : SB} {rd : SR} {d : SD} {e : SD} {res : SD} (h : fn_T_order d e = some res) : am_run cPT cML (n0 + 5) 63 [.ref 0] (hp tx pg rd e d true) = some (none, (hp tx pg rd res d false)) := by
  refine am_run_of (d := n0 + 4) rfl ?_
  show am_Ev (tb_T_order (am_run cPT cML (n0 + 4))) (0, [(0, .ref 0)], [], (hp tx pg rd e d true)) (none, (hp tx pg rd res d false))
  unfold fn_T_order at h
  obtain ⟨q1, hq, h⟩ := Option.bind_eq_some_iff.mp h
  refine am_Ev.go 4 (st' := (8, [(0, .ref 0)], [.ref 26, .ref 13], (hp tx pg rd e d true))) (fun _ => rfl) ?_
  refine am_Ev.call (o := am_run cPT cML (n0 + 4) 24 [.ref 13, .ref 26] (hp tx pg rd e d true)) (kk := fun q => (11, [(0, .ref 0)], q.1.toList ++ [], q.2)) (q := (none, (hp tx pg rd q1 d true))) 1 (fun _ => rfl) (ev_D_orderFrom_A hq) ?_
  obtain ⟨q2, hq, h⟩ := Option.bind_eq_some_iff.mp h
  refine am_Ev.go 1 (st' := (12, [(0, .ref 0)], [.ref 0], (hp tx pg rd q1 d true))) (fun _ => rfl) ?_
  refine am_Ev.call (o := am_run cPT cML (n0 + 4) 67 [.ref 0] (hp tx pg rd q1 d true)) (kk := fun q => (15, [(0, .ref 0)], q.1.toList ++ [], q.2)) (q := (none, (hp tx pg rd q1 d false))) 1 (fun _ => rfl) (ev_T_exchange_B hq) ?_
  cases h
  exact am_Ev.done 1 rfl
theorem ev_T_cycle_A {n0 : Nat} {tx : SB} {pg : SB} {rd : SR} {e : SD} {x1 : Int32} {d : SD} {res : Int32 × SD} (h : fn_T_cycle x1 d = some res) : am_run cPT cML (n0 + 5) 65 [.ref 0, .int x1] (hp tx pg rd d e false) = some (some (.int res.1), (hp tx pg rd res.2 e false)) := by
  refine am_run_of (d := n0 + 4) rfl ?_
  show am_Ev (tb_T_cycle (am_run cPT cML (n0 + 4))) (0, [(0, .ref 0), (1, .int x1)], [], (hp tx pg rd d e false)) (some (.int res.1), (hp tx pg rd res.2 e false))
  unfold fn_T_cycle at h
  obtain ⟨q1, hq, h⟩ := Option.bind_eq_some_iff.mp h
  refine am_Ev.go 3 (st' := (5, [(0, .ref 0), (1, .int x1)], [.int x1, .ref 13], (hp tx pg rd d e false))) (fun _ => rfl) ?_
  refine am_Ev.call (o := am_run cPT cML (n0 + 4) 16 [.ref 13, .int x1] (hp tx pg rd d e false)) (kk := fun q => (8, [(0, .ref 0), (1, .int x1)], q.1.toList ++ [], q.2)) (q := (some (.int q1.1), (hp tx pg rd q1.2 e false))) 1 (fun _ => rfl) (ev_D_step_A hq) ?_
  cases h
  exact am_Ev.done 1 rfl
theorem ev_T_cycle_B {n0 : Nat} {tx : SB} {pg : SB} {rd : SR} {e : SD} {x1 : Int32} {d : SD} {res : Int32 × SD} (h : fn_T_cycle x1 d = some res) : am_run cPT cML (n0 + 5) 65 [.ref 0, .int x1] (hp tx pg rd e d true) = some (some (.int res.1), (hp tx pg rd e res.2 true)) := by
  refine am_run_of (d := n0 + 4) rfl ?_
  show am_Ev (tb_T_cycle (am_run cPT cML (n0 + 4))) (0, [(0, .ref 0), (1, .int x1)], [], (hp tx pg rd e d true)) (some (.int res.1), (hp tx pg rd e res.2 true))
  unfold fn_T_cycle at h
  obtain ⟨q1, hq, h⟩ := Option.bind_eq_some_iff.mp h
  refine am_Ev.go 3 (st' := (5, [(0, .ref 0), (1, .int x1)], [.int x1, .ref 26], (hp tx pg rd e d true))) (fun _ => rfl) ?_
  refine am_Ev.call (o := am_run cPT cML (n0 + 4) 16 [.ref 26, .int x1] (hp tx pg rd e d true)) (kk := fun q => (8, [(0, .ref 0), (1, .int x1)], q.1.toList ++ [], q.2)) (q := (some (.int q1.1), (hp tx pg rd e q1.2 true))) 1 (fun _ => rfl) (ev_D_step_B hq) ?_
  cases h
  exact am_Ev.done 1 rfl
theorem ev_R_fill_116_A {n0 : Nat} {pg : SB} {e : SD} {sw : Bool} {tx : SB} {rd : SR} {d : SD} {res : Int32 × SR × SD} (h : fn_R_fill_116 tx rd d = some res) : am_Ev (tb_R_fill (am_run cPT cML (n0 + 5))) (116, [(0, .ref 5), (1, .ref 13)], [], (hp tx pg rd d e sw)) (some (.int res.1), (hp tx pg res.2.1 res.2.2 e sw)) := by
  unfold fn_R_fill_116 at h
  refine am_Ev.fork (b := decide (rd.2.2.2.2.2.2.2.2 = (-1 : Int32))) (s1 := (124, [(0, .ref 5), (1, .ref 13)], [], (hp tx pg rd d e sw))) (s2 := (128, [(0, .ref 5), (1, .ref 13)], [], (hp tx pg rd d e sw))) 4 (fun _ => rfl) (fun hc => ?_) (fun hc => ?_)
  · have h := (am_ift hc).symm.trans h
    obtain ⟨q1, hq, h⟩ := Option.bind_eq_some_iff.mp h
    refine am_Ev.go 1 (st' := (125, [(0, .ref 5), (1, .ref 13)], [.ref 13], (hp tx pg rd d e sw))) (fun _ => rfl) ?_
    refine am_Ev.call (o := am_run cPT cML (n0 + 5) 19 [.ref 13] (hp tx pg rd d e sw)) (kk := fun q => (128, [(0, .ref 5), (1, .ref 13)], q.1.toList ++ [], q.2)) (q := (none, (hp tx pg rd q1 e sw))) 1 (fun _ => rfl) (ev_D_arrange_A hq) ?_
    cases h
    exact am_Ev.done 3 rfl
  · have h := (am_iff hc).symm.trans h
    cases h
    exact am_Ev.done 3 rfl
theorem ev_R_fill_91_A {n0 : Nat} {pg : SB} {e : SD} {sw : Bool} {x2 : Int32} {tx : SB} {rd : SR} {d : SD} {res : Int32 × SR × SD} (h : fn_R_fill_91 x2 tx rd d = some res) : am_Ev (tb_R_fill (am_run cPT cML (n0 + 5))) (91, [(0, .ref 5), (1, .ref 13), (2, .int x2)], [], (hp tx pg rd d e sw)) (some (.int res.1), (hp tx pg res.2.1 res.2.2 e sw)) := by
  unfold fn_R_fill_91 at h
  obtain ⟨q2, hq, h⟩ := Option.bind_eq_some_iff.mp h
  refine am_Ev.go 1 (st' := (92, [(0, .ref 5), (1, .ref 13), (2, .int x2)], [.ref 5], (hp tx pg rd d e sw))) (fun _ => rfl) ?_
  refine am_Ev.call (o := am_run cPT cML (n0 + 5) 47 [.ref 5] (hp tx pg rd d e sw)) (kk := fun q => (95, [(0, .ref 5), (1, .ref 13), (2, .int x2)], q.1.toList ++ [], q.2)) (q := (none, (hp tx pg q2 d e sw))) 1 (fun _ => rfl) (ev_R_closing_v hq) ?_
  refine am_Ev.fork (b := decide (q2.2.2.2.2.2.2.2.2 = (-1 : Int32))) (s1 := (103, [(0, .ref 5), (1, .ref 13), (2, .int x2)], [], (hp tx pg q2 d e sw))) (s2 := (116, [(0, .ref 5), (1, .ref 13), (2, .int x2)], [], (hp tx pg q2 d e sw))) 4 (fun _ => rfl) (fun hc => ?_) (fun hc => ?_)
  · have h := (am_ift hc).symm.trans h
    refine am_Ev.fork (b := decide (x2 = 0)) (s1 := (107, [(0, .ref 5), (1, .ref 13), (2, .int x2)], [], (hp tx pg q2 d e sw))) (s2 := (116, [(0, .ref 5), (1, .ref 13), (2, .int x2)], [], (hp tx pg q2 d e sw))) 2 (fun _ => rfl) (fun hc => ?_) (fun hc => ?_)
    · have h := (am_ift hc).symm.trans h
      obtain ⟨q3, hq, h⟩ := Option.bind_eq_some_iff.mp h
      refine am_Ev.go 1 (st' := (108, [(0, .ref 5), (1, .ref 13), (2, .int x2)], [.ref 5], (hp tx pg q2 d e sw))) (fun _ => rfl) ?_
      refine am_Ev.call (o := am_run cPT cML (n0 + 5) 48 [.ref 5] (hp tx pg q2 d e sw)) (kk := fun q => (111, [(0, .ref 5), (1, .ref 13), (2, .int x2)], q.1.toList ++ [], q.2)) (q := (none, (hp tx pg q3 d e sw))) 1 (fun _ => rfl) (ev_R_findUndefined_v hq) ?_
      obtain ⟨q4, hq, h⟩ := Option.bind_eq_some_iff.mp h
      refine am_Ev.go 2 (st' := (113, [(0, .ref 5), (1, .ref 13), (2, .int x2)], [.ref 13, .ref 5], (hp tx pg q3 d e sw))) (fun _ => rfl) ?_
      refine am_Ev.call (o := am_run cPT cML (n0 + 5) 49 [.ref 5, .ref 13] (hp tx pg q3 d e sw)) (kk := fun q => (116, [(0, .ref 5), (1, .ref 13), (2, .int x2)], q.1.toList ++ [], q.2)) (q := (none, (hp tx pg q4 d e sw))) 1 (fun _ => rfl) (ev_R_findRound_A hq) ?_
      refine am_Ev.same (st' := (116, [(0, .ref 5), (1, .ref 13)], [], (hp tx pg q4 d e sw))) (fun _ => rfl) ?_
      exact ev_R_fill_116_A h
    · have h := (am_iff hc).symm.trans h
      refine am_Ev.same (st' := (116, [(0, .ref 5), (1, .ref 13)], [], (hp tx pg q2 d e sw))) (fun _ => rfl) ?_
      exact ev_R_fill_116_A h
  · have h := (am_iff hc).symm.trans h
    refine am_Ev.same (st' := (116, [(0, .ref 5), (1, .ref 13)], [], (hp tx pg q2 d e sw))) (fun _ => rfl) ?_
    exact ev_R_fill_116_A h
theorem ev_R_fill_73_A {n0 : Nat} {pg : SB} {e : SD} {sw : Bool} {x2 : Int32} {tx : SB} {rd : SR} {d : SD} {res : Int32 × SR × SD} (h : fn_R_fill_73 x2 tx rd d = some res) : am_Ev (tb_R_fill (am_run cPT cML (n0 + 5))) (73, [(0, .ref 5), (1, .ref 13), (2, .int x2)], [], (hp tx pg rd d e sw)) (some (.int res.1), (hp tx pg res.2.1 res.2.2 e sw)) := by
  unfold fn_R_fill_73 at h
  refine am_Ev.fork (b := decide (rd.2.2.2.2.2.2.2.2 = (-1 : Int32))) (s1 := (81, [(0, .ref 5), (1, .ref 13), (2, .int x2)], [], (hp tx pg rd d e sw))) (s2 := (91, [(0, .ref 5), (1, .ref 13), (2, .int x2)], [], (hp tx pg rd d e sw))) 4 (fun _ => rfl) (fun hc => ?_) (fun hc => ?_)
  · have h := (am_ift hc).symm.trans h
    obtain ⟨q5, hq, h⟩ := Option.bind_eq_some_iff.mp h
    refine am_Ev.go 2 (st' := (83, [(0, .ref 5), (1, .ref 13), (2, .int x2)], [.ref 13, .ref 5], (hp tx pg rd d e sw))) (fun _ => rfl) ?_
    refine am_Ev.call (o := am_run cPT cML (n0 + 5) 43 [.ref 5, .ref 13] (hp tx pg rd d e sw)) (kk := fun q => (86, [(0, .ref 5), (1, .ref 13), (2, .int x2)], q.1.toList ++ [], q.2)) (q := (none, (hp tx pg q5.1 q5.2 e sw))) 1 (fun _ => rfl) (ev_R_plainLines_A hq) ?_
    obtain ⟨q6, hq, h⟩ := Option.bind_eq_some_iff.mp h
    refine am_Ev.go 2 (st' := (88, [(0, .ref 5), (1, .ref 13), (2, .int x2)], [.ref 13, .ref 5], (hp tx pg q5.1 q5.2 e sw))) (fun _ => rfl) ?_
    refine am_Ev.call (o := am_run cPT cML (n0 + 5) 44 [.ref 5, .ref 13] (hp tx pg q5.1 q5.2 e sw)) (kk := fun q => (91, [(0, .ref 5), (1, .ref 13), (2, .int x2)], q.1.toList ++ [], q.2)) (q := (none, (hp tx pg q6.1 q6.2 e sw))) 1 (fun _ => rfl) (ev_R_plainGates_A hq) ?_
    exact ev_R_fill_91_A h
  · have h := (am_iff hc).symm.trans h
    exact ev_R_fill_91_A h
theorem ev_R_fill_41_A {n0 : Nat} {pg : SB} {e : SD} {sw : Bool} {s0 : Int32} {tx : SB} {rd : SR} {d : SD} {res : Int32 × SR × SD} (h : fn_R_fill_41 s0 tx rd d = some res) : am_Ev (tb_R_fill (am_run cPT cML (n0 + 5))) (41, [(0, .ref 5), (1, .ref 13)], [.int s0], (hp tx pg rd d e sw)) (some (.int res.1), (hp tx pg res.2.1 res.2.2 e sw)) := by
  unfold fn_R_fill_41 at h
  obtain ⟨q7, hq, h⟩ := Option.bind_eq_some_iff.mp h
  refine am_Ev.go 4 (st' := (45, [(0, .ref 5), (1, .ref 13), (2, .int s0)], [.int s0, .ref 13, .ref 5], (hp tx pg rd d e sw))) (fun _ => rfl) ?_
  refine am_Ev.call (o := am_run cPT cML (n0 + 5) 42 [.ref 5, .ref 13, .int s0] (hp tx pg rd d e sw)) (kk := fun q => (48, [(0, .ref 5), (1, .ref 13), (2, .int s0)], q.1.toList ++ [], q.2)) (q := (none, (hp tx pg q7.1 q7.2 e sw))) 1 (fun _ => rfl) (ev_R_header_A hq) ?_
  refine am_Ev.fork (b := decide (q7.1.2.2.2.2.2.2.2.2 = (-1 : Int32))) (s1 := (56, [(0, .ref 5), (1, .ref 13), (2, .int s0)], [], (hp tx pg q7.1 q7.2 e sw))) (s2 := (73, [(0, .ref 5), (1, .ref 13), (2, .int s0)], [], (hp tx pg q7.1 q7.2 e sw))) 4 (fun _ => rfl) (fun hc => ?_) (fun hc => ?_)
  · have h := (am_ift hc).symm.trans h
    refine am_Ev.fork (b := decide (s0 = 0)) (s1 := (73, [(0, .ref 5), (1, .ref 13), (2, .int s0)], [], (hp tx pg q7.1 q7.2 e sw))) (s2 := (60, [(0, .ref 5), (1, .ref 13), (2, .int s0)], [], (hp tx pg q7.1 q7.2 e sw))) 2 (fun _ => rfl) (fun hc => ?_) (fun hc => ?_)
    · have h := (am_ift hc).symm.trans h
      exact ev_R_fill_73_A h
    · have h := (am_iff hc).symm.trans h
      obtain ⟨q8, hq, h⟩ := Option.bind_eq_some_iff.mp h
      refine am_Ev.go 2 (st' := (62, [(0, .ref 5), (1, .ref 13), (2, .int s0)], [.ref 13, .ref 5], (hp tx pg q7.1 q7.2 e sw))) (fun _ => rfl) ?_
      refine am_Ev.call (o := am_run cPT cML (n0 + 5) 45 [.ref 5, .ref 13] (hp tx pg q7.1 q7.2 e sw)) (kk := fun q => (65, [(0, .ref 5), (1, .ref 13), (2, .int s0)], q.1.toList ++ [], q.2)) (q := (none, (hp tx pg q8.1 q8.2 e sw))) 1 (fun _ => rfl) (ev_R_packedLines_A hq) ?_
      obtain ⟨q9, hq, h⟩ := Option.bind_eq_some_iff.mp h
      refine am_Ev.go 2 (st' := (67, [(0, .ref 5), (1, .ref 13), (2, .int s0)], [.ref 13, .ref 5], (hp tx pg q8.1 q8.2 e sw))) (fun _ => rfl) ?_
      refine am_Ev.call (o := am_run cPT cML (n0 + 5) 46 [.ref 5, .ref 13] (hp tx pg q8.1 q8.2 e sw)) (kk := fun q => (70, [(0, .ref 5), (1, .ref 13), (2, .int s0)], q.1.toList ++ [], q.2)) (q := (none, (hp tx pg q9.1 q9.2 e sw))) 1 (fun _ => rfl) (ev_R_packedGates_A hq) ?_
      refine am_Ev.go 1 (st' := (91, [(0, .ref 5), (1, .ref 13), (2, .int s0)], [], (hp tx pg q9.1 q9.2 e sw))) (fun _ => rfl) ?_
      exact ev_R_fill_91_A h
  · have h := (am_iff hc).symm.trans h
    exact ev_R_fill_73_A h
theorem ev_R_fill_40_A {n0 : Nat} {pg : SB} {e : SD} {sw : Bool} {tx : SB} {rd : SR} {d : SD} {res : Int32 × SR × SD} (h : fn_R_fill_40 tx rd d = some res) : am_Ev (tb_R_fill (am_run cPT cML (n0 + 5))) (40, [(0, .ref 5), (1, .ref 13)], [], (hp tx pg rd d e sw)) (some (.int res.1), (hp tx pg res.2.1 res.2.2 e sw)) := by
  unfold fn_R_fill_40 at h
  refine am_Ev.go 1 (st' := (41, [(0, .ref 5), (1, .ref 13)], [.int 0], (hp tx pg rd d e sw))) (fun _ => rfl) ?_
  exact ev_R_fill_41_A h
theorem ev_R_fill_A {n0 : Nat} {pg : SB} {e : SD} {sw : Bool} {tx : SB} {rd : SR} {d : SD} {res : Int32 × SR × SD} (h : fn_R_fill tx rd d = some res) : am_run cPT cML (n0 + 6) 41 [.ref 5, .ref 13] (hp tx pg rd d e sw) = some (some (.int res.1), (hp tx pg res.2.1 res.2.2 e sw)) := by
  refine am_run_of (d := n0 + 5) rfl ?_
  show am_Ev (tb_R_fill (am_run cPT cML (n0 + 5))) (0, [(0, .ref 5), (1, .ref 13)], [], (hp tx pg rd d e sw)) (some (.int res.1), (hp tx pg res.2.1 res.2.2 e sw))
  unfold fn_R_fill at h
  obtain ⟨q10, hq, h⟩ := Option.bind_eq_some_iff.mp h
  refine am_Ev.go 9 (st' := (15, [(0, .ref 5), (1, .ref 13)], [.int 1, .ref 1], (hp tx pg (rd.1, rd.2.1, rd.2.2.1, rd.2.2.2.1, rd.2.2.2.2.1, rd.2.2.2.2.2.1, rd.2.2.2.2.2.2.1, 0, (-1)) d e sw))) (fun _ => rfl) ?_
  refine am_Ev.call (o := am_run cPT cML (n0 + 5) 3 [.ref 1, .int 1] (hp tx pg (rd.1, rd.2.1, rd.2.2.1, rd.2.2.2.1, rd.2.2.2.2.1, rd.2.2.2.2.2.1, rd.2.2.2.2.2.2.1, 0, (-1)) d e sw)) (kk := fun q => (18, [(0, .ref 5), (1, .ref 13)], q.1.toList ++ [], q.2)) (q := (some (.int q10), (hp tx pg (rd.1, rd.2.1, rd.2.2.1, rd.2.2.2.1, rd.2.2.2.2.1, rd.2.2.2.2.2.1, rd.2.2.2.2.2.2.1, 0, (-1)) d e sw))) 1 (fun _ => rfl) (ev_B_at_t hq) ?_
  refine am_Ev.fork (b := decide (q10 = (105 : Int32))) (s1 := (23, [(0, .ref 5), (1, .ref 13)], [], (hp tx pg (rd.1, rd.2.1, rd.2.2.1, rd.2.2.2.1, rd.2.2.2.2.1, rd.2.2.2.2.2.1, rd.2.2.2.2.2.2.1, 0, (-1)) d e sw))) (s2 := (40, [(0, .ref 5), (1, .ref 13)], [], (hp tx pg (rd.1, rd.2.1, rd.2.2.1, rd.2.2.2.1, rd.2.2.2.2.1, rd.2.2.2.2.2.1, rd.2.2.2.2.2.2.1, 0, (-1)) d e sw))) 2 (fun _ => rfl) (fun hc => ?_) (fun hc => ?_)
  · have h := (am_ift hc).symm.trans h
    obtain ⟨q11, hq, h⟩ := Option.bind_eq_some_iff.mp h
    refine am_Ev.go 3 (st' := (28, [(0, .ref 5), (1, .ref 13)], [.int 2, .ref 1], (hp tx pg (rd.1, rd.2.1, rd.2.2.1, rd.2.2.2.1, rd.2.2.2.2.1, rd.2.2.2.2.2.1, rd.2.2.2.2.2.2.1, 0, (-1)) d e sw))) (fun _ => rfl) ?_
    refine am_Ev.call (o := am_run cPT cML (n0 + 5) 3 [.ref 1, .int 2] (hp tx pg (rd.1, rd.2.1, rd.2.2.1, rd.2.2.2.1, rd.2.2.2.2.1, rd.2.2.2.2.2.1, rd.2.2.2.2.2.2.1, 0, (-1)) d e sw)) (kk := fun q => (31, [(0, .ref 5), (1, .ref 13)], q.1.toList ++ [], q.2)) (q := (some (.int q11), (hp tx pg (rd.1, rd.2.1, rd.2.2.1, rd.2.2.2.1, rd.2.2.2.2.1, rd.2.2.2.2.2.1, rd.2.2.2.2.2.2.1, 0, (-1)) d e sw))) 1 (fun _ => rfl) (ev_B_at_t hq) ?_
    refine am_Ev.fork (b := decide (q11 = (103 : Int32))) (s1 := (36, [(0, .ref 5), (1, .ref 13)], [], (hp tx pg (rd.1, rd.2.1, rd.2.2.1, rd.2.2.2.1, rd.2.2.2.2.1, rd.2.2.2.2.2.1, rd.2.2.2.2.2.2.1, 0, (-1)) d e sw))) (s2 := (40, [(0, .ref 5), (1, .ref 13)], [], (hp tx pg (rd.1, rd.2.1, rd.2.2.1, rd.2.2.2.1, rd.2.2.2.2.1, rd.2.2.2.2.2.1, rd.2.2.2.2.2.2.1, 0, (-1)) d e sw))) 2 (fun _ => rfl) (fun hc => ?_) (fun hc => ?_)
    · have h := (am_ift hc).symm.trans h
      refine am_Ev.go 2 (st' := (41, [(0, .ref 5), (1, .ref 13)], [.int 1], (hp tx pg (rd.1, rd.2.1, rd.2.2.1, rd.2.2.2.1, rd.2.2.2.2.1, rd.2.2.2.2.2.1, rd.2.2.2.2.2.2.1, 0, (-1)) d e sw))) (fun _ => rfl) ?_
      exact ev_R_fill_41_A h
    · have h := (am_iff hc).symm.trans h
      exact ev_R_fill_40_A h
  · have h := (am_iff hc).symm.trans h
    exact ev_R_fill_40_A h
theorem ev_R_fill_116_B {n0 : Nat} {pg : SB} {e : SD} {sw : Bool} {tx : SB} {rd : SR} {d : SD} {res : Int32 × SR × SD} (h : fn_R_fill_116 tx rd d = some res) : am_Ev (tb_R_fill (am_run cPT cML (n0 + 5))) (116, [(0, .ref 5), (1, .ref 26)], [], (hp tx pg rd e d sw)) (some (.int res.1), (hp tx pg res.2.1 e res.2.2 sw)) := by
  unfold fn_R_fill_116 at h
  refine am_Ev.fork (b := decide (rd.2.2.2.2.2.2.2.2 = (-1 : Int32))) (s1 := (124, [(0, .ref 5), (1, .ref 26)], [], (hp tx pg rd e d sw))) (s2 := (128, [(0, .ref 5), (1, .ref 26)], [], (hp tx pg rd e d sw))) 4 (fun _ => rfl) (fun hc => ?_) (fun hc => ?_)
  · have h := (am_ift hc).symm.trans h
    obtain ⟨q1, hq, h⟩ := Option.bind_eq_some_iff.mp h
    refine am_Ev.go 1 (st' := (125, [(0, .ref 5), (1, .ref 26)], [.ref 26], (hp tx pg rd e d sw))) (fun _ => rfl) ?_
    refine am_Ev.call (o := am_run cPT cML (n0 + 5) 19 [.ref 26] (hp tx pg rd e d sw)) (kk := fun q => (128, [(0, .ref 5), (1, .ref 26)], q.1.toList ++ [], q.2)) (q := (none, (hp tx pg rd e q1 sw))) 1 (fun _ => rfl) (ev_D_arrange_B hq) ?_
    cases h
    exact am_Ev.done 3 rfl
  · have h := (am_iff hc).symm.trans h
    cases h
    exact am_Ev.done 3 rfl
theorem ev_R_fill_91_B {n0 : Nat} {pg : SB} {e : SD} {sw : Bool} {x2 : Int32} {tx : SB} {rd : SR} {d : SD} {res : Int32 × SR × SD} (h : fn_R_fill_91 x2 tx rd d = some res) : am_Ev (tb_R_fill (am_run cPT cML (n0 + 5))) (91, [(0, .ref 5), (1, .ref 26), (2, .int x2)], [], (hp tx pg rd e d sw)) (some (.int res.1), (hp tx pg res.2.1 e res.2.2 sw)) := by
  unfold fn_R_fill_91 at h
  obtain ⟨q2, hq, h⟩ := Option.bind_eq_some_iff.mp h
  refine am_Ev.go 1 (st' := (92, [(0, .ref 5), (1, .ref 26), (2, .int x2)], [.ref 5], (hp tx pg rd e d sw))) (fun _ => rfl) ?_
  refine am_Ev.call (o := am_run cPT cML (n0 + 5) 47 [.ref 5] (hp tx pg rd e d sw)) (kk := fun q => (95, [(0, .ref 5), (1, .ref 26), (2, .int x2)], q.1.toList ++ [], q.2)) (q := (none, (hp tx pg q2 e d sw))) 1 (fun _ => rfl) (ev_R_closing_v hq) ?_
  refine am_Ev.fork (b := decide (q2.2.2.2.2.2.2.2.2 = (-1 : Int32))) (s1 := (103, [(0, .ref 5), (1, .ref 26), (2, .int x2)], [], (hp tx pg q2 e d sw))) (s2 := (116, [(0, .ref 5), (1, .ref 26), (2, .int x2)], [], (hp tx pg q2 e d sw))) 4 (fun _ => rfl) (fun hc => ?_) (fun hc => ?_)
  · have h := (am_ift hc).symm.trans h
    refine am_Ev.fork (b := decide (x2 = 0)) (s1 := (107, [(0, .ref 5), (1, .ref 26), (2, .int x2)], [], (hp tx pg q2 e d sw))) (s2 := (116, [(0, .ref 5), (1, .ref 26), (2, .int x2)], [], (hp tx pg q2 e d sw))) 2 (fun _ => rfl) (fun hc => ?_) (fun hc => ?_)
    · have h := (am_ift hc).symm.trans h
      obtain ⟨q3, hq, h⟩ := Option.bind_eq_some_iff.mp h
      refine am_Ev.go 1 (st' := (108, [(0, .ref 5), (1, .ref 26), (2, .int x2)], [.ref 5], (hp tx pg q2 e d sw))) (fun _ => rfl) ?_
      refine am_Ev.call (o := am_run cPT cML (n0 + 5) 48 [.ref 5] (hp tx pg q2 e d sw)) (kk := fun q => (111, [(0, .ref 5), (1, .ref 26), (2, .int x2)], q.1.toList ++ [], q.2)) (q := (none, (hp tx pg q3 e d sw))) 1 (fun _ => rfl) (ev_R_findUndefined_v hq) ?_
      obtain ⟨q4, hq, h⟩ := Option.bind_eq_some_iff.mp h
      refine am_Ev.go 2 (st' := (113, [(0, .ref 5), (1, .ref 26), (2, .int x2)], [.ref 26, .ref 5], (hp tx pg q3 e d sw))) (fun _ => rfl) ?_
      refine am_Ev.call (o := am_run cPT cML (n0 + 5) 49 [.ref 5, .ref 26] (hp tx pg q3 e d sw)) (kk := fun q => (116, [(0, .ref 5), (1, .ref 26), (2, .int x2)], q.1.toList ++ [], q.2)) (q := (none, (hp tx pg q4 e d sw))) 1 (fun _ => rfl) (ev_R_findRound_B hq) ?_
      refine am_Ev.same (st' := (116, [(0, .ref 5), (1, .ref 26)], [], (hp tx pg q4 e d sw))) (fun _ => rfl) ?_
      exact ev_R_fill_116_B h
    · have h := (am_iff hc).symm.trans h
      refine am_Ev.same (st' := (116, [(0, .ref 5), (1, .ref 26)], [], (hp tx pg q2 e d sw))) (fun _ => rfl) ?_
      exact ev_R_fill_116_B h
  · have h := (am_iff hc).symm.trans h
    refine am_Ev.same (st' := (116, [(0, .ref 5), (1, .ref 26)], [], (hp tx pg q2 e d sw))) (fun _ => rfl) ?_
    exact ev_R_fill_116_B h
theorem ev_R_fill_73_B {n0 : Nat} {pg : SB} {e : SD} {sw : Bool} {x2 : Int32} {tx : SB} {rd : SR} {d : SD} {res : Int32 × SR × SD} (h : fn_R_fill_73 x2 tx rd d = some res) : am_Ev (tb_R_fill (am_run cPT cML (n0 + 5))) (73, [(0, .ref 5), (1, .ref 26), (2, .int x2)], [], (hp tx pg rd e d sw)) (some (.int res.1), (hp tx pg res.2.1 e res.2.2 sw)) := by
  unfold fn_R_fill_73 at h
  refine am_Ev.fork (b := decide (rd.2.2.2.2.2.2.2.2 = (-1 : Int32))) (s1 := (81, [(0, .ref 5), (1, .ref 26), (2, .int x2)], [], (hp tx pg rd e d sw))) (s2 := (91, [(0, .ref 5), (1, .ref 26), (2, .int x2)], [], (hp tx pg rd e d sw))) 4 (fun _ => rfl) (fun hc => ?_) (fun hc => ?_)
  · have h := (am_ift hc).symm.trans h
    obtain ⟨q5, hq, h⟩ := Option.bind_eq_some_iff.mp h
    refine am_Ev.go 2 (st' := (83, [(0, .ref 5), (1, .ref 26), (2, .int x2)], [.ref 26, .ref 5], (hp tx pg rd e d sw))) (fun _ => rfl) ?_
    refine am_Ev.call (o := am_run cPT cML (n0 + 5) 43 [.ref 5, .ref 26] (hp tx pg rd e d sw)) (kk := fun q => (86, [(0, .ref 5), (1, .ref 26), (2, .int x2)], q.1.toList ++ [], q.2)) (q := (none, (hp tx pg q5.1 e q5.2 sw))) 1 (fun _ => rfl) (ev_R_plainLines_B hq) ?_
    obtain ⟨q6, hq, h⟩ := Option.bind_eq_some_iff.mp h
    refine am_Ev.go 2 (st' := (88, [(0, .ref 5), (1, .ref 26), (2, .int x2)], [.ref 26, .ref 5], (hp tx pg q5.1 e q5.2 sw))) (fun _ => rfl) ?_
    refine am_Ev.call (o := am_run cPT cML (n0 + 5) 44 [.ref 5, .ref 26] (hp tx pg q5.1 e q5.2 sw)) (kk := fun q => (91, [(0, .ref 5), (1, .ref 26), (2, .int x2)], q.1.toList ++ [], q.2)) (q := (none, (hp tx pg q6.1 e q6.2 sw))) 1 (fun _ => rfl) (ev_R_plainGates_B hq) ?_
    exact ev_R_fill_91_B h
  · have h := (am_iff hc).symm.trans h
    exact ev_R_fill_91_B h
theorem ev_R_fill_41_B {n0 : Nat} {pg : SB} {e : SD} {sw : Bool} {s0 : Int32} {tx : SB} {rd : SR} {d : SD} {res : Int32 × SR × SD} (h : fn_R_fill_41 s0 tx rd d = some res) : am_Ev (tb_R_fill (am_run cPT cML (n0 + 5))) (41, [(0, .ref 5), (1, .ref 26)], [.int s0], (hp tx pg rd e d sw)) (some (.int res.1), (hp tx pg res.2.1 e res.2.2 sw)) := by
  unfold fn_R_fill_41 at h
  obtain ⟨q7, hq, h⟩ := Option.bind_eq_some_iff.mp h
  refine am_Ev.go 4 (st' := (45, [(0, .ref 5), (1, .ref 26), (2, .int s0)], [.int s0, .ref 26, .ref 5], (hp tx pg rd e d sw))) (fun _ => rfl) ?_
  refine am_Ev.call (o := am_run cPT cML (n0 + 5) 42 [.ref 5, .ref 26, .int s0] (hp tx pg rd e d sw)) (kk := fun q => (48, [(0, .ref 5), (1, .ref 26), (2, .int s0)], q.1.toList ++ [], q.2)) (q := (none, (hp tx pg q7.1 e q7.2 sw))) 1 (fun _ => rfl) (ev_R_header_B hq) ?_
  refine am_Ev.fork (b := decide (q7.1.2.2.2.2.2.2.2.2 = (-1 : Int32))) (s1 := (56, [(0, .ref 5), (1, .ref 26), (2, .int s0)], [], (hp tx pg q7.1 e q7.2 sw))) (s2 := (73, [(0, .ref 5), (1, .ref 26), (2, .int s0)], [], (hp tx pg q7.1 e q7.2 sw))) 4 (fun _ => rfl) (fun hc => ?_) (fun hc => ?_)
  · have h := (am_ift hc).symm.trans h
    refine am_Ev.fork (b := decide (s0 = 0)) (s1 := (73, [(0, .ref 5), (1, .ref 26), (2, .int s0)], [], (hp tx pg q7.1 e q7.2 sw))) (s2 := (60, [(0, .ref 5), (1, .ref 26), (2, .int s0)], [], (hp tx pg q7.1 e q7.2 sw))) 2 (fun _ => rfl) (fun hc => ?_) (fun hc => ?_)
    · have h := (am_ift hc).symm.trans h
      exact ev_R_fill_73_B h
    · have h := (am_iff hc).symm.trans h
      obtain ⟨q8, hq, h⟩ := Option.bind_eq_some_iff.mp h
      refine am_Ev.go 2 (st' := (62, [(0, .ref 5), (1, .ref 26), (2, .int s0)], [.ref 26, .ref 5], (hp tx pg q7.1 e q7.2 sw))) (fun _ => rfl) ?_
      refine am_Ev.call (o := am_run cPT cML (n0 + 5) 45 [.ref 5, .ref 26] (hp tx pg q7.1 e q7.2 sw)) (kk := fun q => (65, [(0, .ref 5), (1, .ref 26), (2, .int s0)], q.1.toList ++ [], q.2)) (q := (none, (hp tx pg q8.1 e q8.2 sw))) 1 (fun _ => rfl) (ev_R_packedLines_B hq) ?_
      obtain ⟨q9, hq, h⟩ := Option.bind_eq_some_iff.mp h
      refine am_Ev.go 2 (st' := (67, [(0, .ref 5), (1, .ref 26), (2, .int s0)], [.ref 26, .ref 5], (hp tx pg q8.1 e q8.2 sw))) (fun _ => rfl) ?_
      refine am_Ev.call (o := am_run cPT cML (n0 + 5) 46 [.ref 5, .ref 26] (hp tx pg q8.1 e q8.2 sw)) (kk := fun q => (70, [(0, .ref 5), (1, .ref 26), (2, .int s0)], q.1.toList ++ [], q.2)) (q := (none, (hp tx pg q9.1 e q9.2 sw))) 1 (fun _ => rfl) (ev_R_packedGates_B hq) ?_
      refine am_Ev.go 1 (st' := (91, [(0, .ref 5), (1, .ref 26), (2, .int s0)], [], (hp tx pg q9.1 e q9.2 sw))) (fun _ => rfl) ?_
      exact ev_R_fill_91_B h
  · have h := (am_iff hc).symm.trans h
    exact ev_R_fill_73_B h
theorem ev_R_fill_40_B {n0 : Nat} {pg : SB} {e : SD} {sw : Bool} {tx : SB} {rd : SR} {d : SD} {res : Int32 × SR × SD} (h : fn_R_fill_40 tx rd d = some res) : am_Ev (tb_R_fill (am_run cPT cML (n0 + 5))) (40, [(0, .ref 5), (1, .ref 26)], [], (hp tx pg rd e d sw)) (some (.int res.1), (hp tx pg res.2.1 e res.2.2 sw)) := by
  unfold fn_R_fill_40 at h
  refine am_Ev.go 1 (st' := (41, [(0, .ref 5), (1, .ref 26)], [.int 0], (hp tx pg rd e d sw))) (fun _ => rfl) ?_
  exact ev_R_fill_41_B h
theorem ev_R_fill_B {n0 : Nat} {pg : SB} {e : SD} {sw : Bool} {tx : SB} {rd : SR} {d : SD} {res : Int32 × SR × SD} (h : fn_R_fill tx rd d = some res) : am_run cPT cML (n0 + 6) 41 [.ref 5, .ref 26] (hp tx pg rd e d sw) = some (some (.int res.1), (hp tx pg res.2.1 e res.2.2 sw)) := by
  refine am_run_of (d := n0 + 5) rfl ?_
  show am_Ev (tb_R_fill (am_run cPT cML (n0 + 5))) (0, [(0, .ref 5), (1, .ref 26)], [], (hp tx pg rd e d sw)) (some (.int res.1), (hp tx pg res.2.1 e res.2.2 sw))
  unfold fn_R_fill at h
  obtain ⟨q10, hq, h⟩ := Option.bind_eq_some_iff.mp h
  refine am_Ev.go 9 (st' := (15, [(0, .ref 5), (1, .ref 26)], [.int 1, .ref 1], (hp tx pg (rd.1, rd.2.1, rd.2.2.1, rd.2.2.2.1, rd.2.2.2.2.1, rd.2.2.2.2.2.1, rd.2.2.2.2.2.2.1, 0, (-1)) e d sw))) (fun _ => rfl) ?_
  refine am_Ev.call (o := am_run cPT cML (n0 + 5) 3 [.ref 1, .int 1] (hp tx pg (rd.1, rd.2.1, rd.2.2.1, rd.2.2.2.1, rd.2.2.2.2.1, rd.2.2.2.2.2.1, rd.2.2.2.2.2.2.1, 0, (-1)) e d sw)) (kk := fun q => (18, [(0, .ref 5), (1, .ref 26)], q.1.toList ++ [], q.2)) (q := (some (.int q10), (hp tx pg (rd.1, rd.2.1, rd.2.2.1, rd.2.2.2.1, rd.2.2.2.2.1, rd.2.2.2.2.2.1, rd.2.2.2.2.2.2.1, 0, (-1)) e d sw))) 1 (fun _ => rfl) (ev_B_at_t hq) ?_
  refine am_Ev.fork (b := decide (q10 = (105 : Int32))) (s1 := (23, [(0, .ref 5), (1, .ref 26)], [], (hp tx pg (rd.1, rd.2.1, rd.2.2.1, rd.2.2.2.1, rd.2.2.2.2.1, rd.2.2.2.2.2.1, rd.2.2.2.2.2.2.1, 0, (-1)) e d sw))) (s2 := (40, [(0, .ref 5), (1, .ref 26)], [], (hp tx pg (rd.1, rd.2.1, rd.2.2.1, rd.2.2.2.1, rd.2.2.2.2.1, rd.2.2.2.2.2.1, rd.2.2.2.2.2.2.1, 0, (-1)) e d sw))) 2 (fun _ => rfl) (fun hc => ?_) (fun hc => ?_)
  · have h := (am_ift hc).symm.trans h
    obtain ⟨q11, hq, h⟩ := Option.bind_eq_some_iff.mp h
    refine am_Ev.go 3 (st' := (28, [(0, .ref 5), (1, .ref 26)], [.int 2, .ref 1], (hp tx pg (rd.1, rd.2.1, rd.2.2.1, rd.2.2.2.1, rd.2.2.2.2.1, rd.2.2.2.2.2.1, rd.2.2.2.2.2.2.1, 0, (-1)) e d sw))) (fun _ => rfl) ?_
    refine am_Ev.call (o := am_run cPT cML (n0 + 5) 3 [.ref 1, .int 2] (hp tx pg (rd.1, rd.2.1, rd.2.2.1, rd.2.2.2.1, rd.2.2.2.2.1, rd.2.2.2.2.2.1, rd.2.2.2.2.2.2.1, 0, (-1)) e d sw)) (kk := fun q => (31, [(0, .ref 5), (1, .ref 26)], q.1.toList ++ [], q.2)) (q := (some (.int q11), (hp tx pg (rd.1, rd.2.1, rd.2.2.1, rd.2.2.2.1, rd.2.2.2.2.1, rd.2.2.2.2.2.1, rd.2.2.2.2.2.2.1, 0, (-1)) e d sw))) 1 (fun _ => rfl) (ev_B_at_t hq) ?_
    refine am_Ev.fork (b := decide (q11 = (103 : Int32))) (s1 := (36, [(0, .ref 5), (1, .ref 26)], [], (hp tx pg (rd.1, rd.2.1, rd.2.2.1, rd.2.2.2.1, rd.2.2.2.2.1, rd.2.2.2.2.2.1, rd.2.2.2.2.2.2.1, 0, (-1)) e d sw))) (s2 := (40, [(0, .ref 5), (1, .ref 26)], [], (hp tx pg (rd.1, rd.2.1, rd.2.2.1, rd.2.2.2.1, rd.2.2.2.2.1, rd.2.2.2.2.2.1, rd.2.2.2.2.2.2.1, 0, (-1)) e d sw))) 2 (fun _ => rfl) (fun hc => ?_) (fun hc => ?_)
    · have h := (am_ift hc).symm.trans h
      refine am_Ev.go 2 (st' := (41, [(0, .ref 5), (1, .ref 26)], [.int 1], (hp tx pg (rd.1, rd.2.1, rd.2.2.1, rd.2.2.2.1, rd.2.2.2.2.1, rd.2.2.2.2.2.1, rd.2.2.2.2.2.2.1, 0, (-1)) e d sw))) (fun _ => rfl) ?_
      exact ev_R_fill_41_B h
    · have h := (am_iff hc).symm.trans h
      exact ev_R_fill_40_B h
  · have h := (am_iff hc).symm.trans h
    exact ev_R_fill_40_B h
theorem ev_T_read_A {n0 : Nat} {pg : SB} {d : SD} {tx : SB} {rd : SR} {e : SD} {res : Int32 × SB × SR × SD × Bool} (h : fn_T_read tx rd e = some res) : am_run cPT cML (n0 + 7) 61 [.ref 0] (hp tx pg rd d e false) = some (some (.int res.1), (hp res.2.1 pg res.2.2.1 d res.2.2.2.1 res.2.2.2.2)) := by
  refine am_run_of (d := n0 + 6) rfl ?_
  show am_Ev (tb_T_read (am_run cPT cML (n0 + 6))) (0, [(0, .ref 0)], [], (hp tx pg rd d e false)) (some (.int res.1), (hp res.2.1 pg res.2.2.1 d res.2.2.2.1 res.2.2.2.2))
  unfold fn_T_read at h
  obtain ⟨q1, hq, h⟩ := Option.bind_eq_some_iff.mp h
  refine am_Ev.go 4 (st' := (8, [(0, .ref 0)], [.ref 26, .ref 5], (hp tx pg rd d e false))) (fun _ => rfl) ?_
  refine am_Ev.call (o := am_run cPT cML (n0 + 6) 41 [.ref 5, .ref 26] (hp tx pg rd d e false)) (kk := fun q => (11, [(0, .ref 0)], q.1.toList ++ [], q.2)) (q := (some (.int q1.1), (hp tx pg q1.2.1 d q1.2.2 false))) 1 (fun _ => rfl) (ev_R_fill_B hq) ?_
  obtain ⟨q2, hq, h⟩ := Option.bind_eq_some_iff.mp h
  refine am_Ev.go 3 (st' := (16, [(0, .ref 0), (1, .int q1.1)], [.ref 1], (hp tx pg q1.2.1 d q1.2.2 false))) (fun _ => rfl) ?_
  refine am_Ev.call (o := am_run cPT cML (n0 + 6) 1 [.ref 1] (hp tx pg q1.2.1 d q1.2.2 false)) (kk := fun q => (19, [(0, .ref 0), (1, .int q1.1)], q.1.toList ++ [], q.2)) (q := (none, (hp q2 pg q1.2.1 d q1.2.2 false))) 1 (fun _ => rfl) (ev_B_clear_t hq) ?_
  refine am_Ev.fork (b := decide (q1.1 = (-1 : Int32))) (s1 := (24, [(0, .ref 0), (1, .int q1.1)], [], (hp q2 pg q1.2.1 d q1.2.2 false))) (s2 := (35, [(0, .ref 0), (1, .int q1.1)], [], (hp q2 pg q1.2.1 d q1.2.2 false))) 3 (fun _ => rfl) (fun hc => ?_) (fun hc => ?_)
  · have h := (am_ift hc).symm.trans h
    obtain ⟨q3, hq, h⟩ := Option.bind_eq_some_iff.mp h
    refine am_Ev.go 2 (st' := (28, [(0, .ref 0), (1, .int q1.1)], [.ref 26], (hp q2 pg q1.2.1 d q1.2.2 false))) (fun _ => rfl) ?_
    refine am_Ev.call (o := am_run cPT cML (n0 + 6) 12 [.ref 26] (hp q2 pg q1.2.1 d q1.2.2 false)) (kk := fun q => (31, [(0, .ref 0), (1, .int q1.1)], q.1.toList ++ [], q.2)) (q := (none, (hp q2 pg q1.2.1 d q3 false))) 1 (fun _ => rfl) (ev_D_restart_B hq) ?_
    obtain ⟨q4, hq, h⟩ := Option.bind_eq_some_iff.mp h
    refine am_Ev.go 1 (st' := (32, [(0, .ref 0), (1, .int q1.1)], [.ref 0], (hp q2 pg q1.2.1 d q3 false))) (fun _ => rfl) ?_
    refine am_Ev.call (o := am_run cPT cML (n0 + 6) 67 [.ref 0] (hp q2 pg q1.2.1 d q3 false)) (kk := fun q => (35, [(0, .ref 0), (1, .int q1.1)], q.1.toList ++ [], q.2)) (q := (none, (hp q2 pg q1.2.1 d q3 true))) 1 (fun _ => rfl) (ev_T_exchange_A hq) ?_
    cases h
    exact am_Ev.done 2 rfl
  · have h := (am_iff hc).symm.trans h
    cases h
    exact am_Ev.done 2 rfl
theorem ev_T_read_B {n0 : Nat} {pg : SB} {d : SD} {tx : SB} {rd : SR} {e : SD} {res : Int32 × SB × SR × SD × Bool} (h : fn_T_read tx rd e = some res) : am_run cPT cML (n0 + 7) 61 [.ref 0] (hp tx pg rd e d true) = some (some (.int res.1), (hp res.2.1 pg res.2.2.1 res.2.2.2.1 d (!res.2.2.2.2))) := by
  refine am_run_of (d := n0 + 6) rfl ?_
  show am_Ev (tb_T_read (am_run cPT cML (n0 + 6))) (0, [(0, .ref 0)], [], (hp tx pg rd e d true)) (some (.int res.1), (hp res.2.1 pg res.2.2.1 res.2.2.2.1 d (!res.2.2.2.2)))
  unfold fn_T_read at h
  obtain ⟨q1, hq, h⟩ := Option.bind_eq_some_iff.mp h
  refine am_Ev.go 4 (st' := (8, [(0, .ref 0)], [.ref 13, .ref 5], (hp tx pg rd e d true))) (fun _ => rfl) ?_
  refine am_Ev.call (o := am_run cPT cML (n0 + 6) 41 [.ref 5, .ref 13] (hp tx pg rd e d true)) (kk := fun q => (11, [(0, .ref 0)], q.1.toList ++ [], q.2)) (q := (some (.int q1.1), (hp tx pg q1.2.1 q1.2.2 d true))) 1 (fun _ => rfl) (ev_R_fill_A hq) ?_
  obtain ⟨q2, hq, h⟩ := Option.bind_eq_some_iff.mp h
  refine am_Ev.go 3 (st' := (16, [(0, .ref 0), (1, .int q1.1)], [.ref 1], (hp tx pg q1.2.1 q1.2.2 d true))) (fun _ => rfl) ?_
  refine am_Ev.call (o := am_run cPT cML (n0 + 6) 1 [.ref 1] (hp tx pg q1.2.1 q1.2.2 d true)) (kk := fun q => (19, [(0, .ref 0), (1, .int q1.1)], q.1.toList ++ [], q.2)) (q := (none, (hp q2 pg q1.2.1 q1.2.2 d true))) 1 (fun _ => rfl) (ev_B_clear_t hq) ?_
  refine am_Ev.fork (b := decide (q1.1 = (-1 : Int32))) (s1 := (24, [(0, .ref 0), (1, .int q1.1)], [], (hp q2 pg q1.2.1 q1.2.2 d true))) (s2 := (35, [(0, .ref 0), (1, .int q1.1)], [], (hp q2 pg q1.2.1 q1.2.2 d true))) 3 (fun _ => rfl) (fun hc => ?_) (fun hc => ?_)
  · have h := (am_ift hc).symm.trans h
    obtain ⟨q3, hq, h⟩ := Option.bind_eq_some_iff.mp h
    refine am_Ev.go 2 (st' := (28, [(0, .ref 0), (1, .int q1.1)], [.ref 13], (hp q2 pg q1.2.1 q1.2.2 d true))) (fun _ => rfl) ?_
    refine am_Ev.call (o := am_run cPT cML (n0 + 6) 12 [.ref 13] (hp q2 pg q1.2.1 q1.2.2 d true)) (kk := fun q => (31, [(0, .ref 0), (1, .int q1.1)], q.1.toList ++ [], q.2)) (q := (none, (hp q2 pg q1.2.1 q3 d true))) 1 (fun _ => rfl) (ev_D_restart_A hq) ?_
    obtain ⟨q4, hq, h⟩ := Option.bind_eq_some_iff.mp h
    refine am_Ev.go 1 (st' := (32, [(0, .ref 0), (1, .int q1.1)], [.ref 0], (hp q2 pg q1.2.1 q3 d true))) (fun _ => rfl) ?_
    refine am_Ev.call (o := am_run cPT cML (n0 + 6) 67 [.ref 0] (hp q2 pg q1.2.1 q3 d true)) (kk := fun q => (35, [(0, .ref 0), (1, .int q1.1)], q.1.toList ++ [], q.2)) (q := (none, (hp q2 pg q1.2.1 q3 d false))) 1 (fun _ => rfl) (ev_T_exchange_B hq) ?_
    cases h
    exact am_Ev.done 2 rfl
  · have h := (am_iff hc).symm.trans h
    cases h
    exact am_Ev.done 2 rfl
