theorem M_h45 {x1 : Int32} {mtx : Mtx} {κ : Mps → Mnd → Option (Mps × Mnd)} {N k : Nat} {ps q3 ps' : Mps} {nd : Mnd} {w : Int32} (hk : k < 3) (h1 : fn_M_take (nI 32) mtx ps = some q3) (h2 : fn_M_number (nI 8) mtx q3 = some (w, ps')) : fn_M_header_45 x1 mtx κ (N + 1) (nI k) ps nd = fn_M_header_45 x1 mtx κ N (nI (k + 1)) ps' (nd.1, upd nd.2.1 k w, nd.2.2) := by
  rw [fn_M_header_45]
  simp (disch := omega) only [z_lit, z_mm, z_eqm, z_eqm', z_ltm, z_ltm', z_lem, z_lem', nI_leI, nI_ltI, nI_eq, nI_toInt, nI_clamp, nI_add, pk_mul, pk_sub, pk_div, z_rem, z_shr1, z_and1, decide_eq_true_eq, if_pos, if_neg, Option.bind_some, ite_true, ite_false, eq_self, not_false_eq_true, not_true_eq_false, h1, h2]
theorem M_h45' {x1 : Int32} {mtx : Mtx} {κ : Mps → Mnd → Option (Mps × Mnd)} {N : Nat} {ps q3 ps' : Mps} {nd : Mnd} {w : Int32} (h1 : fn_M_take (nI 32) mtx ps = some q3) (h2 : fn_M_number (nI 60) mtx q3 = some (w, ps')) : fn_M_header_45 x1 mtx κ (N + 1) (nI 3) ps nd = fn_M_header_45 x1 mtx κ N (nI 4) ps' (nd.1, upd nd.2.1 3 w, nd.2.2) := by
  rw [fn_M_header_45]
  simp (disch := omega) only [z_lit, z_mm, z_eqm, z_eqm', z_ltm, z_ltm', z_lem, z_lem', nI_leI, nI_ltI, nI_eq, nI_toInt, nI_clamp, nI_add, pk_mul, pk_sub, pk_div, z_rem, z_shr1, z_and1, decide_eq_true_eq, if_pos, if_neg, Option.bind_some, ite_true, ite_false, eq_self, not_false_eq_true, not_true_eq_false, h1, h2, Nat.reduceAdd]
theorem M_h45e {x1 : Int32} {mtx : Mtx} {κ : Mps → Mnd → Option (Mps × Mnd)} {N : Nat} {ps : Mps} {nd : Mnd} : fn_M_header_45 x1 mtx κ (N + 1) (nI 4) ps nd = κ ps nd := by
  rw [fn_M_header_45]
  simp (disch := omega) only [z_lit, z_mm, z_eqm, z_eqm', z_ltm, z_ltm', z_lem, z_lem', nI_leI, nI_ltI, nI_eq, nI_toInt, nI_clamp, nI_add, pk_mul, pk_sub, pk_div, z_rem, z_shr1, z_and1, decide_eq_true_eq, if_pos, if_neg, Option.bind_some, ite_true, ite_false, eq_self, not_false_eq_true, not_true_eq_false]
theorem L_header {tx : SB} {mtx : Mtx} {t : Nat → Nat} {n s : Nat} {rd : SR} {ps : Mps} {d : SD} {nd : Mnd} (hT : BR tx mtx t n) (hs : s ≤ 1) (h : SS t n rd ps) :
    ∃ pl ft m c ps' mw cw, fn_R_header (nI s) tx rd d = some (sPF rd pl ft, dd d m c) ∧ fn_M_header (nI s) mtx ps nd = some (ps', (mw, cw, nd.2.2)) ∧ SS t n (sPF rd pl ft) ps' ∧
      ((∃ p', Ok n (sPF rd pl ft) ps' p') → ∃ M I L O A : Nat, m = nI M ∧ mw = nI M ∧ c 0 = nI I ∧ cw 0 = nI I ∧ c 1 = nI L ∧ cw 1 = nI L ∧ c 2 = nI O ∧ cw 2 = nI O ∧ c 3 = nI A ∧ cw 3 = nI A ∧ M ≤ 99 ∧ I ≤ 8 ∧ L ≤ 8 ∧ O ≤ 8 ∧ A ≤ 60 ∧ (s = 0 → I + L + A ≤ M) ∧ (s = 1 → I + L + A = M)) := by
  have h1500 := hT.1
  obtain ⟨l, hl, hl2, hl3⟩ : ∃ l : Nat, (57 < l ∧ l < 256) ∧ (s = 0 → l = 97) ∧ (s = 1 → l = 105) := by
    by_cases hs0 : s = 0
    · exact ⟨97, by omega, fun _ => rfl, fun h => absurd h (by omega)⟩
    · exact ⟨105, by omega, fun h => absurd h hs0, fun _ => rfl⟩
  obtain ⟨pl1, ft1, ps1, e1, f1, s1, o1⟩ := L_take (b := 97) hT (by omega) (by omega) (Or.inl h)
  obtain ⟨pl2, ft2, ps2, e2, f2, s2, o2⟩ := L_take (b := l) hT (Or.inr hl.1) hl.2 (Or.inl s1)
  rw [sPF2] at e2 s2 o2
  obtain ⟨pl3, ft3, ps3, e3, f3, s3, o3⟩ := L_take (b := 103) hT (by omega) (by omega) (Or.inl s2)
  rw [sPF2] at e3 s3 o3
  obtain ⟨v4, w4, pl4, ft4, qs4, ps4, e4, f4, g4, s4, o4⟩ := L_bn (g := 99) hT (by omega) (Or.inl s3)
  rw [sPF2] at e4 s4 o4
  have s4' := s4.imp id And.left
  obtain ⟨v5, w5, pl5, ft5, qs5, ps5, e5, f5, g5, s5, o5⟩ := L_bn (g := 8) hT (by omega) s4'
  rw [sPF2] at e5 s5 o5
  have s5' := s5.imp id And.left
  obtain ⟨y5, c5, y5'⟩ := C_setManyT (d := d) (m := v4) (x := v5) (c := d.2.1) (i := 0) (by omega)
  obtain ⟨v6, w6, pl6, ft6, qs6, ps6, e6, f6, g6, s6, o6⟩ := L_bn (g := 8) hT (by omega) s5'
  rw [sPF2] at e6 s6 o6
  have s6' := s6.imp id And.left
  obtain ⟨y6, c6, y6'⟩ := C_setManyT (d := d) (m := v4) (x := v6) (c := upd d.2.1 0 y5) (i := 1) (by omega)
  obtain ⟨v7, w7, pl7, ft7, qs7, ps7, e7, f7, g7, s7, o7⟩ := L_bn (g := 8) hT (by omega) s6'
  rw [sPF2] at e7 s7 o7
  have s7' := s7.imp id And.left
  obtain ⟨y7, c7, y7'⟩ := C_setManyT (d := d) (m := v4) (x := v7) (c := upd (upd d.2.1 0 y5) 1 y6) (i := 2) (by omega)
  obtain ⟨pl8, ft8, ps8, e8, f8, s8, o8⟩ := L_take (b := 32) hT (by omega) (by omega) s7'
  rw [sPF2] at e8 s8 o8
  obtain ⟨v9, w9, pl9, ft9, ps9, e9, f9, s9, o9⟩ := L_number (g := 60) (x := nI 60) (y := nI 60) hT (by omega) (fun _ => ⟨rfl, rfl⟩) s8
  rw [sPF2] at e9 s9 o9
  have s9' := s9.imp id And.left
  have hok : (∃ p, Ok n (sPF rd pl9 ft9) ps9 p) → ∃ M I L O A q : Nat, v4 = nI M ∧ w4 = nI M ∧ v5 = nI I ∧ w5 = nI I ∧ v6 = nI L ∧ w6 = nI L ∧ v7 = nI O ∧ w7 = nI O ∧ v9 = nI A ∧ w9 = nI A ∧ M ≤ 99 ∧ I ≤ 8 ∧ L ≤ 8 ∧ O ≤ 8 ∧ A ≤ 60 ∧ pl8 = nI q ∧ ps9.2.2 = nI q ∧ q ≤ 1501 := by
    intro ho
    obtain ⟨q, A, a1, a2, a3, a4, a5⟩ := o9 ho
    have k8 := o8 ⟨q, a1⟩
    obtain ⟨k7, O, b1, b2, b3⟩ := o7 k8
    obtain ⟨k6, L, c1, c2, c3⟩ := o6 k7
    obtain ⟨k5, I, d1, d2, d3⟩ := o5 k6
    obtain ⟨k4, M, m1', m2, m3⟩ := o4 k5
    exact ⟨M, I, L, O, A, q, m1', m2, d1, d2, c1, c2, b1, b2, a2, a3, m3, d3, c3, b3, a4, a1.1, a5, by have := a1.2.2.2.2; omega⟩
  obtain ⟨pl, ft, y, ps', eC, eM, sS, oS⟩ := L_hend (rd := sPF rd pl9 ft9) (ps := ps9) (v := v9) (x4 := pl8) (m := v4) (c := upd (upd (upd d.2.1 0 y5) 1 y6) 2 y7) (d := d) (nd := (w4, upd (upd (upd (upd nd.2.1 0 w5) 1 w6) 2 w7) 3 w9, nd.2.2)) hT hs s9' (fun ho => by
    obtain ⟨M, I, L, O, A, q, a1, a2, a3, a4, a5, a6, a7, a8, a9, a10, b1, b2, b3, b4, b5, a11, a12, b6⟩ := hok ho
    refine ⟨M, I, L, A, q, a1, a2, ?_, ?_, ?_, ?_, a9, ?_, b1, b2, b3, b5, a11, a12, b6⟩
    · rw [pk_un (by omega), pk_un (by omega), pk_us]; exact y5' I (by omega) a3
    · show upd (upd (upd (upd nd.2.1 0 w5) 1 w6) 2 w7) 3 w9 0 = _
      rw [pk_un (by omega), pk_un (by omega), pk_un (by omega), pk_us]; exact a4
    · rw [pk_un (by omega), pk_us]; exact y6' L (by omega) a5
    · show upd (upd (upd (upd nd.2.1 0 w5) 1 w6) 2 w7) 3 w9 1 = _
      rw [pk_un (by omega), pk_un (by omega), pk_us]; exact a6
    · show upd (upd (upd (upd nd.2.1 0 w5) 1 w6) 2 w7) 3 w9 3 = _
      rw [pk_us]; exact a10)
  rw [sPF2] at eC sS oS
  refine ⟨pl, ft, v4, upd (upd (upd (upd d.2.1 0 y5) 1 y6) 2 y7) 3 y, ps', w4, upd (upd (upd (upd nd.2.1 0 w5) 1 w6) 2 w7) 3 w9, ?_, ?_, sS, fun ho => ?_⟩
  · -- the class
    have h18 : fn_R_header_18 (nI l) (nI s) tx (sPF rd pl1 ft1) d = some (sPF rd pl ft, dd d v4 (upd (upd (upd (upd d.2.1 0 y5) 1 y6) 2 y7) 3 y)) := by
      unfold fn_R_header_18
      rw [e2, Option.bind_some]
      simp only [z_lit]
      rw [e3, Option.bind_some]
      have e4' : fn_R_blankAndNumber (nI 99) tx (sPF rd pl3 ft3) = some (v4, sPF rd pl4 ft4) := e4
      rw [e4', Option.bind_some]
      have em : fn_D_setMost (v4, sPF rd pl4 ft4).1 d = some (dd d v4 d.2.1) := rfl
      rw [em, Option.bind_some]
      have e5' : fn_R_blankAndNumber (nI 8) tx (v4, sPF rd pl4 ft4).2 = some (v5, sPF rd pl5 ft5) := e5
      rw [e5', Option.bind_some]
      have c5' : fn_D_setMany (nI 0) (v5, sPF rd pl5 ft5).1 (dd d v4 d.2.1) = some (dd d v4 (upd d.2.1 0 y5)) := c5
      rw [c5', Option.bind_some]
      have e6' : fn_R_blankAndNumber (nI 8) tx (v5, sPF rd pl5 ft5).2 = some (v6, sPF rd pl6 ft6) := e6
      rw [e6', Option.bind_some]
      have c6' : fn_D_setMany (nI 1) (v6, sPF rd pl6 ft6).1 (dd d v4 (upd d.2.1 0 y5)) = some (dd d v4 (upd (upd d.2.1 0 y5) 1 y6)) := c6
      rw [c6', Option.bind_some]
      have e7' : fn_R_blankAndNumber (nI 8) tx (v6, sPF rd pl6 ft6).2 = some (v7, sPF rd pl7 ft7) := e7
      rw [e7', Option.bind_some]
      have c7' : fn_D_setMany (nI 2) (v7, sPF rd pl7 ft7).1 (dd d v4 (upd (upd d.2.1 0 y5) 1 y6)) = some (dd d v4 (upd (upd (upd d.2.1 0 y5) 1 y6) 2 y7)) := c7
      rw [c7', Option.bind_some]
      have e8' : fn_R_expect (nI 32) tx (v7, sPF rd pl7 ft7).2 = some (sPF rd pl8 ft8) := e8
      have e9' : fn_R_number (nI 60) tx (sPF rd pl8 ft8) = some (v9, sPF rd pl9 ft9) := e9
      rw [C_manyG (by omega), C_manyG (by omega), e8']
      have em2 : fn_D_most (dd d v4 (upd (upd (upd d.2.1 0 y5) 1 y6) 2 y7)) = some v4 := rfl
      rw [em2]
      simp only [Option.bind_some]
      rw [e9']
      simp only [Option.bind_some]
      exact eC
    unfold fn_R_header
    have e1' : fn_R_expect (97 : Int32) tx rd = some (sPF rd pl1 ft1) := e1
    rw [e1', Option.bind_some]
    by_cases hs0 : s = 0
    · have := hl2 hs0
      subst hs0 this
      exact (am_ift (decide_eq_true (show nI 0 = (0 : Int32) from rfl))).trans h18
    · have hs1 : s = 1 := by omega
      have := hl3 hs1
      subst hs1 this
      exact (am_iff (decide_eq_false (show ¬ nI 1 = (0 : Int32) by decide))).trans h18
  · -- the reference
    have h18 : fn_M_header_18 (nI l) (nI s) mtx ps1 nd = some (ps', (w4, upd (upd (upd (upd nd.2.1 0 w5) 1 w6) 2 w7) 3 w9, nd.2.2)) := by
      unfold fn_M_header_18
      obtain ⟨N, hN⟩ : ∃ N, am_NF = N + 1 + 1 + 1 + 1 + 1 := ⟨4091, rfl⟩
      rw [f2, Option.bind_some]
      have f3' : fn_M_take (103 : Int32) mtx ps2 = some ps3 := f3
      have f4' : fn_M_take (32 : Int32) mtx ps3 = some qs4 := f4
      have g4' : fn_M_number (99 : Int32) mtx qs4 = some (w4, ps4) := g4
      rw [f3', Option.bind_some, f4', Option.bind_some, g4', Option.bind_some, hN, show (0 : Int32) = nI 0 from rfl]
      rw [M_h45 (by omega) f5 g5, M_h45 (by omega) f6 g6, M_h45 (by omega) f7 g7, M_h45' f8 f9, M_h45e]
      exact eM
    unfold fn_M_header
    have f1' : fn_M_take (97 : Int32) mtx ps = some ps1 := f1
    rw [f1', Option.bind_some]
    by_cases hs0 : s = 0
    · have := hl2 hs0
      subst hs0 this
      exact (am_ift (decide_eq_true (show nI 0 = (0 : Int32) from rfl))).trans h18
    · have hs1 : s = 1 := by omega
      have := hl3 hs1
      subst hs1 this
      exact (am_iff (decide_eq_false (show ¬ nI 1 = (0 : Int32) by decide))).trans h18
  · obtain ⟨ho9, M', I', L', A', q1, q2, q3, q4, q5, k1, k2, k3, k4, q6, q7⟩ := oS ho
    obtain ⟨M, I, L, O, A, q, a1, a2, a3, a4, a5, a6, a7, a8, a9, a10, b1, b2, b3, b4, b5, a11, a12, b6⟩ := hok ho9
    have z0 : upd (upd (upd d.2.1 0 y5) 1 y6) 2 y7 0 = nI I := by rw [pk_un (by omega), pk_un (by omega), pk_us]; exact y5' I (by omega) a3
    have z1 : upd (upd (upd d.2.1 0 y5) 1 y6) 2 y7 1 = nI L := by rw [pk_un (by omega), pk_us]; exact y6' L (by omega) a5
    have z2 : upd (upd (upd d.2.1 0 y5) 1 y6) 2 y7 2 = nI O := by rw [pk_us]; exact y7' O (by omega) a7
    have hM : M' = M := (nI_eq (by omega) (by omega)).mp (q1.symm.trans a1)
    have hI : I' = I := (nI_eq (by omega) (by omega)).mp (q2.symm.trans z0)
    have hL : L' = L := (nI_eq (by omega) (by omega)).mp (q3.symm.trans z1)
    have hA : A' = A := (nI_eq (by omega) (by omega)).mp (q4.symm.trans a9)
    subst hM hI hL hA
    refine ⟨M', I', L', O, A', a1, a2, ?_, ?_, ?_, ?_, ?_, ?_, ?_, ?_, b1, b2, b3, b4, b5, q6, q7⟩
    · rw [pk_un (by omega)]; exact z0
    · rw [pk_un (by omega), pk_un (by omega), pk_un (by omega), pk_us]; exact a4
    · rw [pk_un (by omega)]; exact z1
    · rw [pk_un (by omega), pk_un (by omega), pk_us]; exact a6
    · rw [pk_un (by omega)]; exact z2
    · rw [pk_un (by omega), pk_us]; exact a8
    · rw [pk_us]; exact q5
    · rw [pk_us]; exact a10
