/-! A PACKED TEXT, side by side -/
theorem L_plit {tx : SB} {mtx : Mtx} {t : Nat → Nat} {n M u : Nat} {rd : SR} {ps : Mps} {nd : Mnd} {us : Mus} {x : Int32} (hT : BR tx mtx t n) (hM : M ≤ 99) (hu : u < 140) (h : SS t n rd ps)
    (hok : (∃ p, Ok n rd ps p) → nd.1 = nI M ∧ x = nI (2 * M + 1) ∧ us.2.2.2.2 = nI u) :
    ∃ v pl ft w ps' us', fn_R_number x tx rd = some (v, sPF rd pl ft) ∧ fn_M_literal (nI 1) mtx ps nd us = some (w, ps', us') ∧ (SS t n (sPF rd pl ft) ps' ∨ Pd t n (sPF rd pl ft) ps') ∧
      ((∃ p', Ok n (sPF rd pl ft) ps' p') → (∃ p, Ok n rd ps p) ∧ us'.2.2.2.2 = nI (u + 1) ∧ ∃ b, v = nI b ∧ w = nI b ∧ b ≤ 2 * M + 1) := by
  have h1500 := hT.1
  rcases h with ⟨p, ho⟩ | ⟨f, g, a, b, c, d, e⟩
  · obtain ⟨k1, k2, k4⟩ := hok ⟨p, ho⟩
    have hy : ((2 : Int32) * nd.1) + (1 : Int32) = nI (2 * M + 1) := by rw [k1]; simp (disch := omega) only [z_lit, z_mm, z_eqm, z_eqm', z_ltm, z_ltm', z_lem, z_lem', nI_leI, nI_ltI, nI_eq, nI_toInt, nI_clamp, nI_add, pk_mul, pk_sub, pk_div, z_rem, z_shr1, z_and1, decide_eq_true_eq, if_pos, if_neg, Option.bind_some, ite_true, ite_false, eq_self, not_false_eq_true, not_true_eq_false]
    obtain ⟨v, w, pl, ft, ps', e1, f1, s1, o1⟩ := L_number (rd := rd) (x := x) (y := ((2 : Int32) * nd.1) + (1 : Int32)) (g := 2 * M + 1) hT (by omega) (fun _ => ⟨k2, hy⟩) (Or.inl ⟨p, ho⟩)
    by_cases hf : ps'.2.1 = m1
    · have hMl : fn_M_literal (nI 1) mtx ps nd us = some (w, ps', (us.1, us.2.1, upd us.2.2.1 u w, upd us.2.2.2.1 u ps'.2.2, nI (u + 1))) := by
        unfold fn_M_literal
        rw [f1, Option.bind_some]
        simp (disch := omega) only [z_lit, z_mm, z_eqm, z_eqm', z_ltm, z_ltm', z_lem, z_lem', nI_leI, nI_ltI, nI_eq, nI_toInt, nI_clamp, nI_add, pk_mul, pk_sub, pk_div, z_rem, z_shr1, z_and1, decide_eq_true_eq, if_pos, if_neg, Option.bind_some, ite_true, ite_false, eq_self, not_false_eq_true, not_true_eq_false, hf, k4]
      refine ⟨v, pl, ft, w, ps', _, e1, hMl, s1.imp id And.left, fun ho' => ?_⟩
      obtain ⟨q, b, b1, b2, b3, b4, b5⟩ := o1 ho'
      exact ⟨⟨q, b1⟩, rfl, b, b2, b3, b4⟩
    · have hMl : fn_M_literal (nI 1) mtx ps nd us = some (w, ps', us) := by
        unfold fn_M_literal
        rw [f1, Option.bind_some]
        exact am_iff (decide_eq_false hf)
      exact ⟨v, pl, ft, w, ps', us, e1, hMl, s1.imp id And.left, fun ⟨q, hq⟩ => absurd hq.2.2.2.1 hf⟩
  · obtain ⟨v, p', h1⟩ := R_number_bad (tx := tx) (x1 := x) a (by omega)
    exact ⟨v, p', nI f, 0, ps, us, h1, M_lit_bad b (by omega), Or.inl (Or.inr ⟨f, g, rfl, b, c, d, e⟩), fun ⟨q, hq⟩ => absurd hq.2.1 (z_m1 (by omega))⟩
def Vp (D : De) (K : Nat → Nat) : Prop := (∀ k, k < K 0 → D.2.2 0 k = 2 * (k + 1)) ∧ (∀ k, k < K 1 → D.2.2 1 k = 2 * (D.2.1 0 + k + 1) ∧ D.2.2 4 k ≤ 2 * D.1 + 1 ∧ D.2.2 5 k ≤ 1) ∧ (∀ k, k < K 2 → D.2.2 2 k ≤ 2 * D.1 + 1) ∧ ∀ k, k < K 3 → D.2.2 3 k = 2 * (D.2.1 0 + D.2.1 1 + k + 1) ∧ D.2.2 6 k < D.2.2 3 k ∧ D.2.2 7 k ≤ D.2.2 6 k
theorem Vp_line {D : De} {K : Nat → Nat} {i0 k : Nat} {r : Nat → Nat} (h : Vp D K) (hk : K i0 = k) (h0 : i0 = 0 → r 0 = 2 * (k + 1)) (h1 : i0 = 1 → r 1 = 2 * (D.2.1 0 + k + 1) ∧ r 4 ≤ 2 * D.1 + 1 ∧ r 5 ≤ 1) (h2 : i0 = 2 → r 2 ≤ 2 * D.1 + 1) (h3 : i0 = 3 → r 3 = 2 * (D.2.1 0 + D.2.1 1 + k + 1) ∧ r 6 < r 3 ∧ r 7 ≤ r 6) : Vp (ext D i0 k r) (Kx K i0 (k + 1)) := by
  have old : ∀ i j, j < K (dk i) → (ext D i0 k r).2.2 i j = D.2.2 i j := fun i j hj => ext_o (by
    by_cases z : dk i = i0
    · exact Or.inr fun z2 => by rw [z, hk] at hj; omega
    · exact Or.inl z)
  refine ⟨fun j hj => ?_, fun j hj => ?_, fun j hj => ?_, fun j hj => ?_⟩
  · rcases Kx_c hk hj with hq | ⟨e1, e2⟩
    · rw [old 0 j hq]; exact h.1 j hq
    · subst e1 e2; rw [ext_n dk0]; exact h0 rfl
  · rcases Kx_c hk hj with hq | ⟨e1, e2⟩
    · rw [old 1 j hq, old 4 j hq, old 5 j hq]; exact h.2.1 j hq
    · subst e1 e2; rw [ext_n dk1, ext_n dk4, ext_n dk5]; exact h1 rfl
  · rcases Kx_c hk hj with hq | ⟨e1, e2⟩
    · rw [old 2 j hq]; exact h.2.2.1 j hq
    · subst e1 e2; rw [ext_n dk2]; exact h2 rfl
  · rcases Kx_c hk hj with hq | ⟨e1, e2⟩
    · rw [old 3 j hq, old 6 j hq, old 7 j hq]; exact h.2.2.2 j hq
    · subst e1 e2; rw [ext_n dk3, ext_n dk6, ext_n dk7]; exact h3 rfl
def PJ (n M : Nat) (C K : Nat → Nat) (s : SR × SD) (u : Mps × Mnd × Mus) : Prop := ∃ D : De, D.1 = M ∧ D.2.1 = C ∧ (∃ p, Ok n s.1 u.1 p) ∧ Fl D K s.2 u.2.1 ∧ Vp D K ∧ u.2.2.2.2.2.2 = nI (K 1 + K 2)
theorem K_in {tx : SB} {mtx : Mtx} {n M : Nat} {C K : Nat → Nat} (hCb : Cb M C) (hK : K 0 = 0) (κ : Int32 → SR → SD → Option (SR × SD)) (κ' : Int32 → Mps → Mnd → Mus → Option (Mps × Mnd × Mus)) {x2 : Int32} {s : SR × SD} {u : Mps × Mnd × Mus} (h : PJ n M C K s u) :
    ∃ s' u', PJ n M C (Kx K 0 (C 0)) s' u' ∧ fn_R_packedLines_14 x2 tx κ am_NF (nI 0) (nI 0) s.1 s.2 = κ (nI (2 * C 0)) s'.1 s'.2 ∧ fn_M_packedBody_4 mtx κ' am_NF (nI 2) (nI 0) u.1 u.2.1 u.2.2 = κ' (nI (2 * C 0 + 2)) u'.1 u'.2.1 u'.2.2 := by
  obtain ⟨c0, c1, c2, c3, c4⟩ := id hCb
  obtain ⟨s', u', ⟨h1, h2, h3⟩, e1, e2⟩ := z_loop2 (fun N k (s : Int32 × SR × SD) => fn_R_packedLines_14 x2 tx κ N s.1 (nI k) s.2.1 s.2.2) (fun N k (u : Int32 × Mps × Mnd × Mus) => fn_M_packedBody_4 mtx κ' N u.1 (nI k) u.2.1 u.2.2.1 u.2.2.2) (fun s => κ s.1 s.2.1 s.2.2) (fun u => κ' u.1 u.2.1 u.2.2.1 u.2.2.2) (C 0) (fun k s u => s.1 = nI (2 * k) ∧ u.1 = nI (2 * k + 2) ∧ PJ n M C (Kx K 0 k) s.2 u.2)
    (fun N k s u hk ⟨h1, h2, hI⟩ => by
      obtain ⟨x3, rd, d⟩ := s
      obtain ⟨x1, ps, nd, us⟩ := u
      have h1 : x3 = nI (2 * k) := h1
      have h2 : x1 = nI (2 * k + 2) := h2
      subst h1 h2
      obtain ⟨D, hD1, hD2, hp, hFl, hVp, hus⟩ := hI
      have hFl : Fl D (Kx K 0 k) d nd := hFl
      have hm : fn_D_many (nI 0) d = some (nI (C 0)) := by rw [C_manyG (by omega)]; exact congrArg some (((hFl.2.2.1 0 (by omega)).1).trans (by rw [hD2]))
      have hmn : nd.2.1 0 = nI (C 0) := ((hFl.2.2.1 0 (by omega)).2).trans (by rw [hD2])
      refine ⟨(nI (2 * (k + 1)), rd, (am_rset d.1 0 k (nI (2 * (k + 1))), d.2)), (nI (2 * (k + 1) + 2), ps, (nd.1, nd.2.1, upd nd.2.2.1 k (nI (2 * (k + 1))), nd.2.2.2.1, nd.2.2.2.2.1, nd.2.2.2.2.2.1, nd.2.2.2.2.2.2.1, nd.2.2.2.2.2.2.2.1, nd.2.2.2.2.2.2.2.2.1, nd.2.2.2.2.2.2.2.2.2), us), ⟨rfl, rfl, ext D 0 k (fun _ => 2 * (k + 1)), hD1, hD2, hp, ?_, ?_, ?_⟩, ?_, ?_⟩
      · have := Fl_line (i0 := 0) (k := k) (r := fun _ => 2 * (k + 1)) (d' := (am_rset d.1 0 k (nI (2 * (k + 1))), d.2)) (nd' := (nd.1, nd.2.1, upd nd.2.2.1 k (nI (2 * (k + 1))), nd.2.2.2.1, nd.2.2.2.2.1, nd.2.2.2.2.2.1, nd.2.2.2.2.2.2.1, nd.2.2.2.2.2.2.2.1, nd.2.2.2.2.2.2.2.2.1, nd.2.2.2.2.2.2.2.2.2)) hFl Kx_s rfl rfl rfl rfl (fun i hi hd => by
          have i8 : i = 0 ∨ i = 1 ∨ i = 2 ∨ i = 3 ∨ i = 4 ∨ i = 5 ∨ i = 6 ∨ i = 7 := by omega
          rcases i8 with rfl | rfl | rfl | rfl | rfl | rfl | rfl | rfl
          · exact ⟨rs_e (r := d.1) (i := 0) (k := k) (x := nI (2 * (k + 1))), pk_us⟩
          all_goals exact absurd hd (by decide)) (fun i j hi hd => by
          refine ⟨rs_o (r := d.1) (i0 := 0) (k := k) (x := nI (2 * (k + 1))) (i := i) (j := j) (hd.imp (fun z y => z (by rw [y]; rfl)) id), ?_⟩
          have i8 : i = 0 ∨ i = 1 ∨ i = 2 ∨ i = 3 ∨ i = 4 ∨ i = 5 ∨ i = 6 ∨ i = 7 := by omega
          rcases i8 with rfl | rfl | rfl | rfl | rfl | rfl | rfl | rfl
          · exact pk_un (hd.resolve_left fun z => z rfl)
          all_goals rfl)
        rw [Kx_Kx] at this
        exact this
      · have := Vp_line (i0 := 0) (k := k) (r := fun _ => 2 * (k + 1)) hVp Kx_s (fun _ => rfl) (fun z => absurd z (by omega)) (fun z => absurd z (by omega)) (fun z => absurd z (by omega))
        rw [Kx_Kx] at this
        exact this
      · rw [Kx_n (by omega), Kx_n (by omega)] at hus ⊢
        exact hus
      · show fn_R_packedLines_14 _ _ _ (N + 1) _ _ _ _ = _
        rw [fn_R_packedLines_14]
        have e : 2 * k + 2 = 2 * (k + 1) := by omega
        simp (disch := omega) only [z_lit, z_mm, z_eqm, z_eqm', z_ltm, z_ltm', z_lem, z_lem', nI_leI, nI_ltI, nI_eq, nI_toInt, nI_clamp, nI_add, pk_mul, pk_sub, pk_div, z_rem, z_shr1, z_and1, decide_eq_true_eq, if_pos, if_neg, Option.bind_some, ite_true, ite_false, eq_self, not_false_eq_true, not_true_eq_false, hm, C_set, e]
      · show fn_M_packedBody_4 _ _ (N + 1) _ _ _ _ _ = _
        rw [fn_M_packedBody_4]
        have e : 2 * k + 2 = 2 * (k + 1) := by omega
        simp (disch := omega) only [z_lit, z_mm, z_eqm, z_eqm', z_ltm, z_ltm', z_lem, z_lem', nI_leI, nI_ltI, nI_eq, nI_toInt, nI_clamp, nI_add, pk_mul, pk_sub, pk_div, z_rem, z_shr1, z_and1, decide_eq_true_eq, if_pos, if_neg, Option.bind_some, ite_true, ite_false, eq_self, not_false_eq_true, not_true_eq_false, hmn, e])
    (fun N s u ⟨h1, h2, hI⟩ => by
      obtain ⟨x3, rd, d⟩ := s
      obtain ⟨x1, ps, nd, us⟩ := u
      obtain ⟨D, hD1, hD2, hp, hFl, -⟩ := hI
      have hFl : Fl D (Kx K 0 (C 0)) d nd := hFl
      have hm : fn_D_many (nI 0) d = some (nI (C 0)) := by rw [C_manyG (by omega)]; exact congrArg some (((hFl.2.2.1 0 (by omega)).1).trans (by rw [hD2]))
      have hmn : nd.2.1 0 = nI (C 0) := ((hFl.2.2.1 0 (by omega)).2).trans (by rw [hD2])
      refine ⟨?_, ?_⟩
      · show fn_R_packedLines_14 _ _ _ (N + 1) _ _ _ _ = _
        rw [fn_R_packedLines_14]
        simp (disch := omega) only [z_lit, z_mm, z_eqm, z_eqm', z_ltm, z_ltm', z_lem, z_lem', nI_leI, nI_ltI, nI_eq, nI_toInt, nI_clamp, nI_add, pk_mul, pk_sub, pk_div, z_rem, z_shr1, z_and1, decide_eq_true_eq, if_pos, if_neg, Option.bind_some, ite_true, ite_false, eq_self, not_false_eq_true, not_true_eq_false, hm]
      · show fn_M_packedBody_4 _ _ (N + 1) _ _ _ _ _ = _
        rw [fn_M_packedBody_4]
        simp (disch := omega) only [z_lit, z_mm, z_eqm, z_eqm', z_ltm, z_ltm', z_lem, z_lem', nI_leI, nI_ltI, nI_eq, nI_toInt, nI_clamp, nI_add, pk_mul, pk_sub, pk_div, z_rem, z_shr1, z_and1, decide_eq_true_eq, if_pos, if_neg, Option.bind_some, ite_true, ite_false, eq_self, not_false_eq_true, not_true_eq_false, hmn]) (N := am_NF) (k := 0) (s := (nI 0, s)) (u := (nI 2, u)) (by omega) (by rw [z_NF]; omega) ⟨rfl, rfl, by have e := Kx_id (K := K) (i0 := 0); rw [hK] at e; rw [e]; exact h⟩
  obtain ⟨y1, s'⟩ := s'
  obtain ⟨y2, u'⟩ := u'
  have h1 : y1 = nI (2 * C 0) := h1
  have h2 : y2 = nI (2 * C 0 + 2) := h2
  subst h1 h2
  exact ⟨s', u', h3, e1, e2⟩
theorem K_lat {tx : SB} {mtx : Mtx} {t : Nat → Nat} {n M : Nat} {C K : Nat → Nat} (hT : BR tx mtx t n) (hCb : Cb M C) (hK : K 1 = 0) (hK2 : K 2 = 0) (κ : SR → SD → Option (SR × SD)) (κ' : Int32 → Mps → Mnd → Mus → Option (Mps × Mnd × Mus)) {s : SR × SD} {u : Mps × Mnd × Mus} (h : PJ n M C K s u) :
    ∃ s' x' u', ((PJ n M C (Kx K 1 (C 1)) s' u' ∧ x' = nI (2 * (C 0 + C 1) + 2)) ∨ Bd t n s'.1 u'.1) ∧ fn_R_packedLines_44 (nI (2 * M + 1)) tx κ am_NF (nI (2 * C 0)) (nI 0) s.1 s.2 = κ s'.1 s'.2 ∧ fn_M_packedBody_32 mtx κ' am_NF (nI (2 * C 0 + 2)) (nI 0) u.1 u.2.1 u.2.2 = κ' x' u'.1 u'.2.1 u'.2.2 := by
  obtain ⟨c0, c1, c2, c3, c4⟩ := id hCb
  have h1500 := hT.1
  obtain ⟨s', u', h1, e1, e2⟩ := z_loop3 (fun N k (s : Int32 × SR × SD) => fn_R_packedLines_44 (nI (2 * M + 1)) tx κ N s.1 (nI k) s.2.1 s.2.2) (fun N k (u : Int32 × Mps × Mnd × Mus) => fn_M_packedBody_32 mtx κ' N u.1 (nI k) u.2.1 u.2.2.1 u.2.2.2) (fun s => κ s.2.1 s.2.2) (fun u => κ' u.1 u.2.1 u.2.2.1 u.2.2.2) (C 1) (fun k s u => s.1 = nI (2 * (C 0 + k)) ∧ u.1 = nI (2 * (C 0 + k) + 2) ∧ PJ n M C (Kx K 1 k) s.2 u.2) (fun s u => Bd t n s.2.1 u.2.1)
    (fun N k s u hk ⟨h1, h2, hI⟩ => by
      obtain ⟨x3, rd, d⟩ := s
      obtain ⟨x1, ps, nd, us⟩ := u
      have h1 : x3 = nI (2 * (C 0 + k)) := h1
      have h2 : x1 = nI (2 * (C 0 + k) + 2) := h2
      subst h1 h2
      obtain ⟨D, hD1, hD2, ⟨p, ho⟩, hFl, hVp, hus⟩ := hI
      have hD1 : D.1 = M := hD1
      have hD2 : D.2.1 = C := hD2
      have ho : Ok n rd ps p := ho
      have hFl : Fl D (Kx K 1 k) d nd := hFl
      have hus : us.2.2.2.2 = nI k := by
        have hus : us.2.2.2.2 = nI (Kx K 1 k 1 + Kx K 1 k 2) := hus
        rw [Kx_s, Kx_n (by omega), hK2] at hus
        exact hus
      have hnd1 : nd.1 = nI M := hD1 ▸ hFl.2.1
      have hm : fn_D_many (nI 1) d = some (nI (C 1)) := by rw [C_manyG (by omega)]; exact congrArg some (((hFl.2.2.1 1 (by omega)).1).trans (by rw [hD2]))
      have hmn : nd.2.1 1 = nI (C 1) := ((hFl.2.2.1 1 (by omega)).2).trans (by rw [hD2])
      have hft := ho.2.1
      have hps := ho.2.2.2.1
      have e22 : 2 * (C 0 + k) + 2 = 2 * (C 0 + k + 1) := by omega
      obtain ⟨v3, pl3, ft3, w3, ps3, us3, e3, f3, s3, o3⟩ := L_plit (rd := rd) (nd := (nd.1, nd.2.1, nd.2.2.1, upd nd.2.2.2.1 k (nI (2 * (C 0 + k + 1))), nd.2.2.2.2.1, nd.2.2.2.2.2.1, nd.2.2.2.2.2.2.1, nd.2.2.2.2.2.2.2.1, nd.2.2.2.2.2.2.2.2.1, nd.2.2.2.2.2.2.2.2.2)) (us := us) (x := nI (2 * M + 1)) (u := k) hT c0 (by omega) (Or.inl ⟨p, ho⟩) (fun _ => ⟨hnd1, rfl, hus⟩)
      obtain ⟨v5, pl5, ft5, pl6, ft6, ps6, bg, e5, e6, f6, s6, hbg, o6⟩ := L_tail (k := k) (nd := (nd.1, nd.2.1, nd.2.2.1, upd nd.2.2.2.1 k (nI (2 * (C 0 + k + 1))), nd.2.2.2.2.1, nd.2.2.2.2.2.1, nd.2.2.2.2.2.2.1, nd.2.2.2.2.2.2.2.1, nd.2.2.2.2.2.2.2.2.1, nd.2.2.2.2.2.2.2.2.2)) (nx := upd nd.2.2.2.2.1 k w3) (us := us3) hT (by omega) s3
      rw [sPF2] at e5 e6 s6 o6
      have hlr : fn_M_latchRest (nI k) mtx ps (nd.1, nd.2.1, nd.2.2.1, upd nd.2.2.2.1 k (nI (2 * (C 0 + k + 1))), nd.2.2.2.2.1, nd.2.2.2.2.2.1, nd.2.2.2.2.2.2.1, nd.2.2.2.2.2.2.2.1, nd.2.2.2.2.2.2.2.2.1, nd.2.2.2.2.2.2.2.2.2) us = some (ps6, (nd.1, nd.2.1, nd.2.2.1, upd nd.2.2.2.1 k (nI (2 * (C 0 + k + 1))), upd nd.2.2.2.2.1 k w3, bg, nd.2.2.2.2.2.2), us3) := by
        rw [M_latchRest (by omega) f3]
        exact f6
      have e6' : fn_R_expect (nI 10) tx (sPF rd pl5 ft5) = some (sPF rd pl6 ft6) := e6
      refine ⟨(nI (2 * (C 0 + (k + 1))), sPF rd pl6 ft6, (am_rset (am_rset (am_rset d.1 1 k (nI (2 * (C 0 + k + 1)))) 4 k v3) 5 k v5, d.2)), (nI (2 * (C 0 + (k + 1)) + 2), ps6, (nd.1, nd.2.1, nd.2.2.1, upd nd.2.2.2.1 k (nI (2 * (C 0 + k + 1))), upd nd.2.2.2.2.1 k w3, bg, nd.2.2.2.2.2.2), us3), ?_, ?_, ?_⟩
      · rcases s6 with ho6 | hb6
        · left
          obtain ⟨ho3, b5, q1, q2, q3⟩ := o6 ho6
          obtain ⟨_, r1, b3, r2, r3, r4⟩ := o3 ho3
          subst r2 r3 q1
          refine ⟨rfl, rfl, ext D 1 k (fun i => if i = 1 then 2 * (C 0 + k + 1) else if i = 4 then b3 else b5), hD1, hD2, ho6, ?_, ?_, ?_⟩
          · have := Fl_line (i0 := 1) (k := k) (r := fun i => if i = 1 then 2 * (C 0 + k + 1) else if i = 4 then b3 else b5) (d' := (am_rset (am_rset (am_rset d.1 1 k (nI (2 * (C 0 + k + 1)))) 4 k (nI b3)) 5 k (nI b5), d.2)) (nd' := (nd.1, nd.2.1, nd.2.2.1, upd nd.2.2.2.1 k (nI (2 * (C 0 + k + 1))), upd nd.2.2.2.2.1 k (nI b3), bg, nd.2.2.2.2.2.2)) hFl Kx_s rfl rfl rfl rfl (fun i hi hd => by
              have i8 : i = 0 ∨ i = 1 ∨ i = 2 ∨ i = 3 ∨ i = 4 ∨ i = 5 ∨ i = 6 ∨ i = 7 := by omega
              rcases i8 with rfl | rfl | rfl | rfl | rfl | rfl | rfl | rfl
              · exact absurd hd (by decide)
              · refine ⟨?_, pk_us⟩
                show am_rset (am_rset (am_rset d.1 1 k (nI (2 * (C 0 + k + 1)))) 4 k (nI b3)) 5 k (nI b5) 1 k = nI (2 * (C 0 + k + 1))
                rw [rs_o (Or.inl (by omega)), rs_o (Or.inl (by omega)), rs_e]
              · exact absurd hd (by decide)
              · exact absurd hd (by decide)
              · refine ⟨?_, pk_us⟩
                show am_rset (am_rset (am_rset d.1 1 k (nI (2 * (C 0 + k + 1)))) 4 k (nI b3)) 5 k (nI b5) 4 k = nI b3
                rw [rs_o (Or.inl (by omega)), rs_e]
              · refine ⟨?_, q2⟩
                show am_rset (am_rset (am_rset d.1 1 k (nI (2 * (C 0 + k + 1)))) 4 k (nI b3)) 5 k (nI b5) 5 k = nI b5
                rw [rs_e]
              all_goals exact absurd hd (by decide)) (fun i j hi hd => by
              have hne : ∀ i0, dk i0 = 1 → i ≠ i0 ∨ j ≠ k := fun i0 h0 => hd.imp (fun z y => z (by rw [y]; exact h0)) id
              refine ⟨?_, ?_⟩
              · show am_rset (am_rset (am_rset d.1 1 k (nI (2 * (C 0 + k + 1)))) 4 k (nI b3)) 5 k (nI b5) i j = d.1 i j
                rw [rs_o (hne 5 rfl), rs_o (hne 4 rfl), rs_o (hne 1 rfl)]
              · have i8 : i = 0 ∨ i = 1 ∨ i = 2 ∨ i = 3 ∨ i = 4 ∨ i = 5 ∨ i = 6 ∨ i = 7 := by omega
                rcases i8 with rfl | rfl | rfl | rfl | rfl | rfl | rfl | rfl
                · rfl
                · exact pk_un (hd.resolve_left fun z => z rfl)
                · rfl
                · rfl
                · exact pk_un (hd.resolve_left fun z => z rfl)
                · exact hbg j (hd.resolve_left fun z => z rfl)
                all_goals rfl)
            rw [Kx_Kx] at this
            exact this
          · have := Vp_line (i0 := 1) (k := k) (r := fun i => if i = 1 then 2 * (C 0 + k + 1) else if i = 4 then b3 else b5) hVp Kx_s (fun z => absurd z (by omega)) (fun _ => ⟨by rw [hD2]; rfl, by rw [hD1]; exact r4, q3⟩) (fun z => absurd z (by omega)) (fun z => absurd z (by omega))
            rw [Kx_Kx] at this
            exact this
          · show us3.2.2.2.2 = _
            rw [Kx_s, Kx_n (by omega), hK2]
            exact r1
        · exact Or.inr hb6
      · show fn_R_packedLines_44 _ _ _ (N + 1) _ _ _ _ = _
        rw [fn_R_packedLines_44]
        have e23 : 2 * (C 0 + k) + 2 = 2 * (C 0 + (k + 1)) := by omega
        have e24 : 2 * (C 0 + (k + 1)) = 2 * (C 0 + k + 1) := by omega
        simp (disch := omega) only [z_lit, z_mm, z_eqm, z_eqm', z_ltm, z_ltm', z_lem, z_lem', nI_leI, nI_ltI, nI_eq, nI_toInt, nI_clamp, nI_add, pk_mul, pk_sub, pk_div, z_rem, z_shr1, z_and1, decide_eq_true_eq, if_pos, if_neg, Option.bind_some, ite_true, ite_false, eq_self, not_false_eq_true, not_true_eq_false, hm, hft, C_set, e3, e5, e6', e22, e24]
      · show fn_M_packedBody_32 _ _ (N + 1) _ _ _ _ _ = _
        rw [fn_M_packedBody_32, e22]
        have e24 : 2 * (C 0 + (k + 1)) + 2 = 2 * (C 0 + k + 1) + 2 := by omega
        simp (disch := omega) only [z_lit, z_mm, z_eqm, z_eqm', z_ltm, z_ltm', z_lem, z_lem', nI_leI, nI_ltI, nI_eq, nI_toInt, nI_clamp, nI_add, pk_mul, pk_sub, pk_div, z_rem, z_shr1, z_and1, decide_eq_true_eq, if_pos, if_neg, Option.bind_some, ite_true, ite_false, eq_self, not_false_eq_true, not_true_eq_false, hmn, hps, hlr, e24])
    (fun N s u ⟨h1, h2, hI⟩ => by
      obtain ⟨x3, rd, d⟩ := s
      obtain ⟨x1, ps, nd, us⟩ := u
      obtain ⟨D, hD1, hD2, hp, hFl, -⟩ := hI
      have hFl : Fl D (Kx K 1 (C 1)) d nd := hFl
      have hm : fn_D_many (nI 1) d = some (nI (C 1)) := by rw [C_manyG (by omega)]; exact congrArg some (((hFl.2.2.1 1 (by omega)).1).trans (by rw [hD2]))
      have hmn : nd.2.1 1 = nI (C 1) := ((hFl.2.2.1 1 (by omega)).2).trans (by rw [hD2])
      refine ⟨?_, ?_⟩
      · show fn_R_packedLines_44 _ _ _ (N + 1) _ _ _ _ = _
        rw [fn_R_packedLines_44]
        simp (disch := omega) only [z_lit, z_mm, z_eqm, z_eqm', z_ltm, z_ltm', z_lem, z_lem', nI_leI, nI_ltI, nI_eq, nI_toInt, nI_clamp, nI_add, pk_mul, pk_sub, pk_div, z_rem, z_shr1, z_and1, decide_eq_true_eq, if_pos, if_neg, Option.bind_some, ite_true, ite_false, eq_self, not_false_eq_true, not_true_eq_false, hm]
      · show fn_M_packedBody_32 _ _ (N + 1) _ _ _ _ _ = _
        rw [fn_M_packedBody_32]
        simp (disch := omega) only [z_lit, z_mm, z_eqm, z_eqm', z_ltm, z_ltm', z_lem, z_lem', nI_leI, nI_ltI, nI_eq, nI_toInt, nI_clamp, nI_add, pk_mul, pk_sub, pk_div, z_rem, z_shr1, z_and1, decide_eq_true_eq, if_pos, if_neg, Option.bind_some, ite_true, ite_false, eq_self, not_false_eq_true, not_true_eq_false, hmn])
    (fun N k s u hk hB => by
      obtain ⟨x3, rd, d⟩ := s
      obtain ⟨x1, ps, nd, us⟩ := u
      obtain ⟨z1, z2⟩ := Bd_ft hB
      have z1 : ¬ rd.2.2.2.2.2.2.2.2 = (-1 : Int32) := z1
      have z2 : ¬ ps.2.1 = (-1 : Int32) := z2
      refine ⟨?_, ?_⟩
      · show fn_R_packedLines_44 _ _ _ (N + 1) _ _ _ _ = _
        rw [fn_R_packedLines_44, show (1 : Int32) = nI 1 from rfl, C_manyG (by omega), Option.bind_some]
        split
        · rfl
        · exact am_iff (decide_eq_false z1)
      · show fn_M_packedBody_32 _ _ (N + 1) _ _ _ _ _ = _
        rw [fn_M_packedBody_32]
        refine (am_ift (by decide)).trans ?_
        split
        · rfl
        · exact am_iff (decide_eq_false z2)) (N := am_NF) (k := 0) (s := (nI (2 * C 0), s)) (u := (nI (2 * C 0 + 2), u)) (by omega) (by rw [z_NF]; omega) (Or.inl ⟨rfl, rfl, by have e := Kx_id (K := K) (i0 := 1); rw [hK] at e; rw [e]; exact h⟩)
  exact ⟨s'.2, u'.1, u'.2, h1.imp (fun z => ⟨z.2.2, z.2.1⟩) id, e1, e2⟩
