/-! uses and definitions, side by side -/
theorem z_bool1 : vp_nar .boolean (1 : Int32) = nI 1 := rfl
theorem z_bool0 : vp_nar .boolean (0 : Int32) = nI 0 := rfl
theorem R_use_bad {tx : SB} {rd : SR} {x : Int32} {f : Nat} (hf : rd.2.2.2.2.2.2.2.2 = nI f) (h : f < 2 ^ 31) : ∃ v rd', fn_R_use x tx rd = some (v, rd') ∧ rd'.2.2.2.2.2.2.2.2 = nI f ∧ rd'.1 = rd.1 ∧ rd'.2.2.2.1 = rd.2.2.2.1 := by
  obtain ⟨v, p', e⟩ := R_number_bad (tx := tx) (x1 := x) hf h
  unfold fn_R_use
  rw [e, Option.bind_some]
  by_cases h0 : rd.2.2.2.2.2.2.1 < 0
  · exact ⟨_, _, am_ift (decide_eq_true h0), rfl, rfl, rfl⟩
  · by_cases h1 : (136 : Int32) ≤ rd.2.2.2.2.2.2.1
    · exact ⟨_, _, (am_iff (decide_eq_false h0)).trans (am_ift (decide_eq_true h1)), rfl, rfl, rfl⟩
    · have hr := am_rng h0 h1 (N := 136) (by decide)
      exact ⟨_, _, (am_iff (decide_eq_false h0)).trans ((am_iff (decide_eq_false h1)).trans ((am_iff (decide_eq_false h1)).trans ((am_ift (decide_eq_true hr)).trans (am_ift (decide_eq_true hr))))), rfl, rfl, rfl⟩
theorem R_def_bad {tx : SB} {rd : SR} {x : Int32} {f : Nat} (hf : rd.2.2.2.2.2.2.2.2 = nI f) (h : f < 2 ^ 31) : ∃ v rd', fn_R_definition x tx rd = some (v, rd') ∧ rd'.2.2.2.2.2.2.2.2 = nI f ∧ rd'.2.2.2.1 = rd.2.2.2.1 := by
  obtain ⟨v, p', e⟩ := R_number_bad (tx := tx) (x1 := x) hf h
  have e47 : ∀ x2, fn_R_definition_47 x2 tx (sPF rd p' (nI f)) = some (0, sPF rd p' (nI f)) := fun x2 => by
    unfold fn_R_definition_47
    rw [R_fail_bad (rd := sPF rd p' (nI f)) rfl h]
    rfl
  unfold fn_R_definition
  rw [e, Option.bind_some]
  by_cases h0 : (v >>> ((1 : Int32) &&& 31)) ≤ 0
  · exact ⟨_, _, (am_ift (decide_eq_true h0)).trans (e47 _), rfl, rfl⟩
  · by_cases h1 : (100 : Int32) ≤ (v >>> ((1 : Int32) &&& 31))
    · exact ⟨_, _, (am_iff (decide_eq_false h0)).trans ((am_ift (decide_eq_true h1)).trans (e47 _)), rfl, rfl⟩
    · have h0' : ¬ (v >>> ((1 : Int32) &&& 31)) < 0 := fun z => h0 (by
        rw [Int32.lt_iff_toInt_lt] at z
        rw [Int32.le_iff_toInt_le]
        omega)
      have hr := am_rng h0' h1 (N := 100) (by decide)
      by_cases h2 : (v &&& (1 : Int32)) = 0
      · by_cases h3 : rd.1 (v >>> ((1 : Int32) &&& 31)).toNatClampNeg = 0
        · exact ⟨_, _, (am_iff (decide_eq_false h0)).trans ((am_iff (decide_eq_false h1)).trans ((am_ift (decide_eq_true h2)).trans ((am_ift (decide_eq_true hr)).trans ((am_ift (decide_eq_true h3)).trans (am_ift (decide_eq_true hr)))))), rfl, rfl⟩
        · exact ⟨_, _, (am_iff (decide_eq_false h0)).trans ((am_iff (decide_eq_false h1)).trans ((am_ift (decide_eq_true h2)).trans ((am_ift (decide_eq_true hr)).trans ((am_iff (decide_eq_false h3)).trans (e47 _))))), rfl, rfl⟩
      · exact ⟨_, _, (am_iff (decide_eq_false h0)).trans ((am_iff (decide_eq_false h1)).trans ((am_iff (decide_eq_false h2)).trans (e47 _))), rfl, rfl⟩
theorem M_lit_bad {mtx : Mtx} {ps : Mps} {nd : Mnd} {us : Mus} {x : Int32} {g : Nat} (h : ps.2.1 = nI g) (hg : g < 2 ^ 31) : fn_M_literal x mtx ps nd us = some (0, ps, us) := by
  unfold fn_M_literal
  rw [M_number_bad h hg, Option.bind_some]
  exact am_iff (decide_eq_false (show ¬ ps.2.1 = (-1 : Int32) from fun z => z_m1 hg (h.symm.trans z)))
theorem L_use {tx : SB} {mtx : Mtx} {t : Nat → Nat} {n M u : Nat} {rd : SR} {ps : Mps} {nd : Mnd} {us : Mus} {x : Int32} (hT : BR tx mtx t n) (hM : M ≤ 99) (hu : u < 136) (h : SS t n rd ps)
    (hok : (∃ p, Ok n rd ps p) → nd.1 = nI M ∧ x = nI (2 * M + 1) ∧ rd.2.2.2.2.2.2.1 = nI u ∧ us.2.2.2.2 = nI u) :
    ∃ v rd' w ps' us', fn_R_use x tx rd = some (v, rd') ∧ fn_M_literal (nI 1) mtx ps nd us = some (w, ps', us') ∧ (SS t n rd' ps' ∨ Pd t n rd' ps') ∧ us'.1 = us.1 ∧ us'.2.1 = us.2.1 ∧ rd'.1 = rd.1 ∧ rd'.2.2.2.1 = rd.2.2.2.1 ∧
      ((∃ p', Ok n rd' ps' p') → ∃ p b, Ok n rd ps p ∧ v = nI b ∧ w = nI b ∧ b ≤ 2 * M + 1 ∧ rd'.2.1 = upd rd.2.1 u (nI b) ∧ rd'.2.2.1 = upd rd.2.2.1 u (nI p) ∧ rd'.2.2.2.2.2.2.1 = nI (u + 1) ∧ us'.2.2.1 = upd us.2.2.1 u (nI b) ∧ us'.2.2.2.1 = upd us.2.2.2.1 u (nI p) ∧ us'.2.2.2.2 = nI (u + 1)) := by
  have h1500 := hT.1
  rcases h with ⟨p, ho⟩ | ⟨f, g, a, b, c, d, e⟩
  · obtain ⟨k1, k2, k3, k4⟩ := hok ⟨p, ho⟩
    have hy : ((2 : Int32) * nd.1) + (1 : Int32) = nI (2 * M + 1) := by rw [k1]; simp (disch := omega) only [z_lit, z_mm, z_eqm, z_eqm', z_ltm, z_ltm', z_lem, z_lem', nI_leI, nI_ltI, nI_eq, nI_toInt, nI_clamp, nI_add, pk_mul, pk_sub, pk_div, z_rem, z_shr1, z_and1, decide_eq_true_eq, if_pos, if_neg, Option.bind_some, ite_true, ite_false, eq_self, not_false_eq_true, not_true_eq_false]
    obtain ⟨v, w, pl, ft, ps', e1, f1, s1, o1⟩ := L_number (rd := rd) (x := x) (y := ((2 : Int32) * nd.1) + (1 : Int32)) (g := 2 * M + 1) hT (by omega) (fun _ => ⟨k2, hy⟩) (Or.inl ⟨p, ho⟩)
    have hC : fn_R_use x tx rd = some (v, (rd.1, upd rd.2.1 u v, upd rd.2.2.1 u rd.2.2.2.2.2.2.2.1, rd.2.2.2.1, rd.2.2.2.2.1, rd.2.2.2.2.2.1, nI (u + 1), pl, ft)) := by
      unfold fn_R_use
      rw [e1, Option.bind_some]
      have e3 : (sPF rd pl ft).2.2.2.2.2.2.1 = nI u := k3
      simp (disch := omega) only [z_lit, z_mm, z_eqm, z_eqm', z_ltm, z_ltm', z_lem, z_lem', nI_leI, nI_ltI, nI_eq, nI_toInt, nI_clamp, nI_add, pk_mul, pk_sub, pk_div, z_rem, z_shr1, z_and1, decide_eq_true_eq, if_pos, if_neg, Option.bind_some, ite_true, ite_false, eq_self, not_false_eq_true, not_true_eq_false, e3]
      rfl
    by_cases hf : ps'.2.1 = m1
    · have hMl : fn_M_literal (nI 1) mtx ps nd us = some (w, ps', (us.1, us.2.1, upd us.2.2.1 u w, upd us.2.2.2.1 u ps'.2.2, nI (u + 1))) := by
        unfold fn_M_literal
        rw [f1, Option.bind_some]
        simp (disch := omega) only [z_lit, z_mm, z_eqm, z_eqm', z_ltm, z_ltm', z_lem, z_lem', nI_leI, nI_ltI, nI_eq, nI_toInt, nI_clamp, nI_add, pk_mul, pk_sub, pk_div, z_rem, z_shr1, z_and1, decide_eq_true_eq, if_pos, if_neg, Option.bind_some, ite_true, ite_false, eq_self, not_false_eq_true, not_true_eq_false, hf, k4]
      refine ⟨v, _, w, ps', _, hC, hMl, ?_, rfl, rfl, rfl, rfl, fun ho' => ?_⟩
      · rcases s1 with (⟨q, s1⟩ | s1) | ⟨s1, _⟩
        · exact Or.inl (Or.inl ⟨q, s1⟩)
        · exact Or.inl (Or.inr s1)
        · exact Or.inr s1
      · obtain ⟨q, b, b1, b2, b3, b4, b5⟩ := o1 ho'
        exact ⟨q, b, b1, b2, b3, b4, by rw [b2], by rw [b1.1], rfl, by rw [b3], by rw [b5], rfl⟩
    · have hMl : fn_M_literal (nI 1) mtx ps nd us = some (w, ps', us) := by
        unfold fn_M_literal
        rw [f1, Option.bind_some]
        exact am_iff (decide_eq_false hf)
      refine ⟨v, _, w, ps', us, hC, hMl, ?_, rfl, rfl, rfl, rfl, fun ⟨q, hq⟩ => absurd hq.2.2.2.1 hf⟩
      rcases s1 with (⟨q, s1⟩ | s1) | ⟨s1, _⟩
      · exact Or.inl (Or.inl ⟨q, s1⟩)
      · exact Or.inl (Or.inr s1)
      · exact Or.inr s1
  · obtain ⟨v, rd', h1, h2, h3, h4⟩ := R_use_bad (tx := tx) (x := x) a (by omega)
    exact ⟨v, rd', 0, ps, us, h1, M_lit_bad b (by omega), Or.inl (Or.inr ⟨f, g, h2, b, c, d, e⟩), rfl, rfl, h3, h4, fun ⟨q, hq⟩ => absurd (h2.symm.trans hq.2.1) (z_m1 (by omega))⟩
theorem L_def {tx : SB} {mtx : Mtx} {t : Nat → Nat} {n M : Nat} {rd : SR} {ps : Mps} {nd : Mnd} {us : Mus} {x : Int32} (hT : BR tx mtx t n) (hM : M ≤ 99) (h : SS t n rd ps)
    (hok : (∃ p, Ok n rd ps p) → nd.1 = nI M ∧ x = nI (2 * M + 1) ∧ ∀ v, v < 100 → (rd.1 v = nI 0 ∧ us.2.1 v = nI 0) ∨ (rd.1 v = nI 1 ∧ us.2.1 v = nI 1)) :
    ∃ v rd' w ps' us', fn_R_definition x tx rd = some (v, rd') ∧ fn_M_define mtx ps nd us = some (w, ps', us') ∧ SS t n rd' ps' ∧ us'.1 = us.1 ∧ us'.2.2 = us.2.2 ∧ rd'.2.2.2.1 = rd.2.2.2.1 ∧
      ((∃ p', Ok n rd' ps' p') → ∃ p b, Ok n rd ps p ∧ v = nI b ∧ w = nI b ∧ b ≤ 2 * M + 1 ∧ b % 2 = 0 ∧ 2 ≤ b ∧ rd.1 (b / 2) = nI 0 ∧ rd'.1 = upd rd.1 (b / 2) (nI 1) ∧ us'.2.1 = upd us.2.1 (b / 2) (nI 1) ∧ ps'.2.2 = nI p ∧ rd'.2.1 = rd.2.1 ∧ rd'.2.2.1 = rd.2.2.1 ∧ rd'.2.2.2.2.2.2.1 = rd.2.2.2.2.2.2.1) := by
  have h1500 := hT.1
  rcases h with ⟨p, ho⟩ | ⟨f, g, a, b, c, d, e⟩
  · obtain ⟨k1, k2, k3⟩ := hok ⟨p, ho⟩
    have hy : ((2 : Int32) * nd.1) + (1 : Int32) = nI (2 * M + 1) := by rw [k1]; simp (disch := omega) only [z_lit, z_mm, z_eqm, z_eqm', z_ltm, z_ltm', z_lem, z_lem', nI_leI, nI_ltI, nI_eq, nI_toInt, nI_clamp, nI_add, pk_mul, pk_sub, pk_div, z_rem, z_shr1, z_and1, decide_eq_true_eq, if_pos, if_neg, Option.bind_some, ite_true, ite_false, eq_self, not_false_eq_true, not_true_eq_false]
    obtain ⟨v, w, pl, ft, ps', e1, f1, s1, o1⟩ := L_number (rd := rd) (x := x) (y := ((2 : Int32) * nd.1) + (1 : Int32)) (g := 2 * M + 1) hT (by omega) (fun _ => ⟨k2, hy⟩) (Or.inl ⟨p, ho⟩)
    have hlit : fn_M_literal (0 : Int32) mtx ps nd us = some (w, ps', us) := by
      unfold fn_M_literal
      rw [f1, Option.bind_some]
      by_cases hf : ps'.2.1 = m1
      · exact (am_ift (decide_eq_true hf)).trans (am_ift (by decide))
      · exact am_iff (decide_eq_false hf)
    rcases s1 with (⟨q, s1⟩ | ⟨f, g, a, b, c, d, e⟩) | ⟨hpd, hw, _⟩
    · obtain ⟨p', b, b1, rfl, rfl, b4, b5⟩ := o1 ⟨q, s1⟩
      have hpp : p' = p := (nI_eq (by have := b1.2.2.2.2; omega) (by have := ho.2.2.2.2; omega)).mp (b1.1.symm.trans ho.1)
      subst hpp
      have hp1 := ho.2.2.2.2
      have hft : ft = m1 := s1.2.1
      have hpl := ho.1
      have hps := s1.2.2.2.1
      have e47 : fn_R_definition_47 (nI p') tx (sPF rd pl ft) = some (nI 0, sPF rd pl (nI p')) := by
        unfold fn_R_definition_47
        rw [R_fail_ok (rd := sPF rd pl ft) hft]
        rfl
      have e38 : fn_M_define_38 mtx ps' nd us = some (nI 0, (ps'.1, nI p', ps'.2.2), us) := by
        unfold fn_M_define_38
        rw [M_bad_ok hps, b5]
        rfl
      have bad : fn_R_definition x tx rd = some (nI 0, sPF rd pl (nI p')) → fn_M_define mtx ps nd us = some (nI 0, (ps'.1, nI p', ps'.2.2), us) → ∃ v rd' w ps' us', fn_R_definition x tx rd = some (v, rd') ∧ fn_M_define mtx ps nd us = some (w, ps', us') ∧ SS t n rd' ps' ∧ us'.1 = us.1 ∧ us'.2.2 = us.2.2 ∧ rd'.2.2.2.1 = rd.2.2.2.1 ∧
          ((∃ p', Ok n rd' ps' p') → ∃ p b, Ok n rd ps p ∧ v = nI b ∧ w = nI b ∧ b ≤ 2 * M + 1 ∧ b % 2 = 0 ∧ 2 ≤ b ∧ rd.1 (b / 2) = nI 0 ∧ rd'.1 = upd rd.1 (b / 2) (nI 1) ∧ us'.2.1 = upd us.2.1 (b / 2) (nI 1) ∧ ps'.2.2 = nI p ∧ rd'.2.1 = rd.2.1 ∧ rd'.2.2.1 = rd.2.2.1 ∧ rd'.2.2.2.2.2.2.1 = rd.2.2.2.2.2.2.1) := by
        intro hC hMd
        exact ⟨_, _, _, _, _, hC, hMd, Or.inr ⟨p', p', rfl, rfl, by omega, by omega, Or.inr rfl⟩, rfl, rfl, rfl, fun ⟨z, hz⟩ => absurd hz.2.1 (z_m1 (by omega))⟩
      unfold fn_R_definition fn_M_define at *
      rw [e1, hlit, hpl] at *
      simp only [Option.bind_some] at *
      by_cases hb0 : b / 2 = 0
      · refine bad ?_ ?_
        · simp (disch := omega) only [z_lit, z_mm, z_eqm, z_eqm', z_ltm, z_ltm', z_lem, z_lem', nI_leI, nI_ltI, nI_eq, nI_toInt, nI_clamp, nI_add, pk_mul, pk_sub, pk_div, z_rem, z_shr1, z_and1, decide_eq_true_eq, if_pos, if_neg, Option.bind_some, ite_true, ite_false, eq_self, not_false_eq_true, not_true_eq_false, hb0]
          exact e47
        · by_cases hodd : b % 2 = 1
          · simp (disch := omega) only [z_lit, z_mm, z_eqm, z_eqm', z_ltm, z_ltm', z_lem, z_lem', nI_leI, nI_ltI, nI_eq, nI_toInt, nI_clamp, nI_add, pk_mul, pk_sub, pk_div, z_rem, z_shr1, z_and1, decide_eq_true_eq, if_pos, if_neg, Option.bind_some, ite_true, ite_false, eq_self, not_false_eq_true, not_true_eq_false, hps]
            exact e38
          · have hb00 : b = 0 := by omega
            simp (disch := omega) only [z_lit, z_mm, z_eqm, z_eqm', z_ltm, z_ltm', z_lem, z_lem', nI_leI, nI_ltI, nI_eq, nI_toInt, nI_clamp, nI_add, pk_mul, pk_sub, pk_div, z_rem, z_shr1, z_and1, decide_eq_true_eq, if_pos, if_neg, Option.bind_some, ite_true, ite_false, eq_self, not_false_eq_true, not_true_eq_false, hps]
            exact e38
      · by_cases hodd : b % 2 = 1
        · refine bad ?_ ?_
          · simp (disch := omega) only [z_lit, z_mm, z_eqm, z_eqm', z_ltm, z_ltm', z_lem, z_lem', nI_leI, nI_ltI, nI_eq, nI_toInt, nI_clamp, nI_add, pk_mul, pk_sub, pk_div, z_rem, z_shr1, z_and1, decide_eq_true_eq, if_pos, if_neg, Option.bind_some, ite_true, ite_false, eq_self, not_false_eq_true, not_true_eq_false]
            exact e47
          · simp (disch := omega) only [z_lit, z_mm, z_eqm, z_eqm', z_ltm, z_ltm', z_lem, z_lem', nI_leI, nI_ltI, nI_eq, nI_toInt, nI_clamp, nI_add, pk_mul, pk_sub, pk_div, z_rem, z_shr1, z_and1, decide_eq_true_eq, if_pos, if_neg, Option.bind_some, ite_true, ite_false, eq_self, not_false_eq_true, not_true_eq_false, hps]
            exact e38
        · rcases k3 (b / 2) (by omega) with ⟨z1, z2⟩ | ⟨z1, z2⟩
          · refine ⟨nI b, (upd rd.1 (b / 2) (nI 1), (sPF rd pl ft).2), nI b, ps', (us.1, upd us.2.1 (b / 2) (nI 1), us.2.2), ?_, ?_, Or.inl ⟨q, s1⟩, rfl, rfl, rfl, fun _ => ⟨p', b, ho, rfl, rfl, b4, by omega, by omega, z1, rfl, rfl, b5, rfl, rfl, rfl⟩⟩
            · have z1' : (sPF rd pl ft).1 (b / 2) = nI 0 := z1
              have zb : vp_nar .boolean (nI 1) = nI 1 := rfl
              simp (disch := omega) only [z_lit, z_mm, z_eqm, z_eqm', z_ltm, z_ltm', z_lem, z_lem', nI_leI, nI_ltI, nI_eq, nI_toInt, nI_clamp, nI_add, pk_mul, pk_sub, pk_div, z_rem, z_shr1, z_and1, decide_eq_true_eq, if_pos, if_neg, Option.bind_some, ite_true, ite_false, eq_self, not_false_eq_true, not_true_eq_false, z1', zb]
              rfl
            · have zb : vp_nar .boolean (nI 1) = nI 1 := rfl
              simp (disch := omega) only [z_lit, z_mm, z_eqm, z_eqm', z_ltm, z_ltm', z_lem, z_lem', nI_leI, nI_ltI, nI_eq, nI_toInt, nI_clamp, nI_add, pk_mul, pk_sub, pk_div, z_rem, z_shr1, z_and1, decide_eq_true_eq, if_pos, if_neg, Option.bind_some, ite_true, ite_false, eq_self, not_false_eq_true, not_true_eq_false, hps, z2, zb]
          · refine bad ?_ ?_
            · have z1' : (sPF rd pl ft).1 (b / 2) = nI 1 := z1
              simp (disch := omega) only [z_lit, z_mm, z_eqm, z_eqm', z_ltm, z_ltm', z_lem, z_lem', nI_leI, nI_ltI, nI_eq, nI_toInt, nI_clamp, nI_add, pk_mul, pk_sub, pk_div, z_rem, z_shr1, z_and1, decide_eq_true_eq, if_pos, if_neg, Option.bind_some, ite_true, ite_false, eq_self, not_false_eq_true, not_true_eq_false, z1']
              exact e47
            · simp (disch := omega) only [z_lit, z_mm, z_eqm, z_eqm', z_ltm, z_ltm', z_lem, z_lem', nI_leI, nI_ltI, nI_eq, nI_toInt, nI_clamp, nI_add, pk_mul, pk_sub, pk_div, z_rem, z_shr1, z_and1, decide_eq_true_eq, if_pos, if_neg, Option.bind_some, ite_true, ite_false, eq_self, not_false_eq_true, not_true_eq_false, hps, z2]
              exact e38
    · -- a fault in the number
      have a : ft = nI f := a
      have e2 : ∃ v2 rd2, fn_R_definition x tx rd = some (v2, rd2) ∧ rd2.2.2.2.2.2.2.2.2 = nI f ∧ rd2.2.2.2.1 = rd.2.2.2.1 := by
        have e47 : ∀ x2, fn_R_definition_47 x2 tx (sPF rd pl ft) = some (0, sPF rd pl ft) := fun x2 => by
          unfold fn_R_definition_47
          rw [R_fail_bad (rd := sPF rd pl ft) (f := f) a (by omega), a]
          rfl
        unfold fn_R_definition
        rw [e1, Option.bind_some]
        by_cases h0 : (v >>> ((1 : Int32) &&& 31)) ≤ 0
        · exact ⟨_, _, (am_ift (decide_eq_true h0)).trans (e47 _), a, rfl⟩
        · by_cases h1 : (100 : Int32) ≤ (v >>> ((1 : Int32) &&& 31))
          · exact ⟨_, _, (am_iff (decide_eq_false h0)).trans ((am_ift (decide_eq_true h1)).trans (e47 _)), a, rfl⟩
          · have h0' : ¬ (v >>> ((1 : Int32) &&& 31)) < 0 := fun z => h0 (by
              rw [Int32.lt_iff_toInt_lt] at z
              rw [Int32.le_iff_toInt_le]
              omega)
            have hr := am_rng h0' h1 (N := 100) (by decide)
            by_cases h2 : (v &&& (1 : Int32)) = 0
            · by_cases h3 : rd.1 (v >>> ((1 : Int32) &&& 31)).toNatClampNeg = 0
              · exact ⟨_, _, (am_iff (decide_eq_false h0)).trans ((am_iff (decide_eq_false h1)).trans ((am_ift (decide_eq_true h2)).trans ((am_ift (decide_eq_true hr)).trans ((am_ift (decide_eq_true h3)).trans (am_ift (decide_eq_true hr)))))), a, rfl⟩
              · exact ⟨_, _, (am_iff (decide_eq_false h0)).trans ((am_iff (decide_eq_false h1)).trans ((am_ift (decide_eq_true h2)).trans ((am_ift (decide_eq_true hr)).trans ((am_iff (decide_eq_false h3)).trans (e47 _))))), a, rfl⟩
            · exact ⟨_, _, (am_iff (decide_eq_false h0)).trans ((am_iff (decide_eq_false h1)).trans ((am_iff (decide_eq_false h2)).trans (e47 _))), a, rfl⟩
      obtain ⟨v2, rd2, c1, c2, c3⟩ := e2
      have hMd : fn_M_define mtx ps nd us = some (0, ps', us) := by
        unfold fn_M_define
        rw [hlit, Option.bind_some]
        exact am_iff (decide_eq_false (show ¬ ps'.2.1 = (-1 : Int32) from fun z => z_m1 (by omega) (b.symm.trans z)))
      exact ⟨v2, rd2, 0, ps', us, c1, hMd, Or.inr ⟨f, g, c2, b, c, d, e⟩, rfl, rfl, c3, fun ⟨q, hq⟩ => absurd (c2.symm.trans hq.2.1) (z_m1 (by omega))⟩
    · -- a digit behind a first 0
      obtain ⟨f, p2, q2, hz, a, hf, b1, b2, b3, b4, b5⟩ := hpd
      have a : ft = nI f := a
      have e2 : ∃ v2 rd2, fn_R_definition x tx rd = some (v2, rd2) ∧ rd2.2.2.2.2.2.2.2.2 = nI f ∧ rd2.2.2.2.1 = rd.2.2.2.1 := by
        have e47 : ∀ x2, fn_R_definition_47 x2 tx (sPF rd pl ft) = some (0, sPF rd pl ft) := fun x2 => by
          unfold fn_R_definition_47
          rw [R_fail_bad (rd := sPF rd pl ft) (f := f) a (by omega), a]
          rfl
        unfold fn_R_definition
        rw [e1, Option.bind_some]
        by_cases h0 : (v >>> ((1 : Int32) &&& 31)) ≤ 0
        · exact ⟨_, _, (am_ift (decide_eq_true h0)).trans (e47 _), a, rfl⟩
        · by_cases h1 : (100 : Int32) ≤ (v >>> ((1 : Int32) &&& 31))
          · exact ⟨_, _, (am_iff (decide_eq_false h0)).trans ((am_ift (decide_eq_true h1)).trans (e47 _)), a, rfl⟩
          · have h0' : ¬ (v >>> ((1 : Int32) &&& 31)) < 0 := fun z => h0 (by
              rw [Int32.lt_iff_toInt_lt] at z
              rw [Int32.le_iff_toInt_le]
              omega)
            have hr := am_rng h0' h1 (N := 100) (by decide)
            by_cases h2 : (v &&& (1 : Int32)) = 0
            · by_cases h3 : rd.1 (v >>> ((1 : Int32) &&& 31)).toNatClampNeg = 0
              · exact ⟨_, _, (am_iff (decide_eq_false h0)).trans ((am_iff (decide_eq_false h1)).trans ((am_ift (decide_eq_true h2)).trans ((am_ift (decide_eq_true hr)).trans ((am_ift (decide_eq_true h3)).trans (am_ift (decide_eq_true hr)))))), a, rfl⟩
              · exact ⟨_, _, (am_iff (decide_eq_false h0)).trans ((am_iff (decide_eq_false h1)).trans ((am_ift (decide_eq_true h2)).trans ((am_ift (decide_eq_true hr)).trans ((am_iff (decide_eq_false h3)).trans (e47 _))))), a, rfl⟩
            · exact ⟨_, _, (am_iff (decide_eq_false h0)).trans ((am_iff (decide_eq_false h1)).trans ((am_iff (decide_eq_false h2)).trans (e47 _))), a, rfl⟩
      obtain ⟨v2, rd2, c1, c2, c3⟩ := e2
      have e38 : fn_M_define_38 mtx ps' nd us = some (nI 0, (ps'.1, nI q2, ps'.2.2), us) := by
        unfold fn_M_define_38
        rw [M_bad_ok b2, b4]
        rfl
      have hMd : fn_M_define mtx ps nd us = some (nI 0, (ps'.1, nI q2, ps'.2.2), us) := by
        unfold fn_M_define
        rw [hlit, hw, Option.bind_some]
        simp (disch := omega) only [z_lit, z_mm, z_eqm, z_eqm', z_ltm, z_ltm', z_lem, z_lem', nI_leI, nI_ltI, nI_eq, nI_toInt, nI_clamp, nI_add, pk_mul, pk_sub, pk_div, z_rem, z_shr1, z_and1, decide_eq_true_eq, if_pos, if_neg, Option.bind_some, ite_true, ite_false, eq_self, not_false_eq_true, not_true_eq_false, b2]
        exact e38
      exact ⟨v2, rd2, nI 0, _, us, c1, hMd, Or.inr ⟨f, q2, c2, rfl, hf, b5, Or.inl ⟨hz.2.1, hz.2.2, hz.1 ▸ b3⟩⟩, rfl, rfl, c3, fun ⟨q, hq⟩ => absurd (c2.symm.trans hq.2.1) (z_m1 (by omega))⟩
  · obtain ⟨v, rd', h1, h2, h3⟩ := R_def_bad (tx := tx) (x := x) a (by omega)
    have hMd : fn_M_define mtx ps nd us = some (0, ps, us) := by
      unfold fn_M_define
      rw [M_lit_bad b (by omega), Option.bind_some]
      exact am_iff (decide_eq_false (show ¬ ps.2.1 = (-1 : Int32) from fun z => z_m1 (by omega) (b.symm.trans z)))
    exact ⟨v, rd', 0, ps, us, h1, hMd, Or.inr ⟨f, g, h2, b, c, d, e⟩, rfl, rfl, h3, fun ⟨q, hq⟩ => absurd (h2.symm.trans hq.2.1) (z_m1 (by omega))⟩
