theorem K_out {tx : SB} {mtx : Mtx} {t : Nat → Nat} {n M : Nat} {C K : Nat → Nat} {x1 : Int32} (hT : BR tx mtx t n) (hCb : Cb M C) (hK : K 2 = 0) (hK1 : K 1 ≤ 8) (κ : SR → SD → Option (SR × SD)) (κ' : Mps → Mnd → Mus → Option (Mps × Mnd × Mus)) {s : SR × SD} {u : Mps × Mnd × Mus} (h : PJ n M C K s u ∨ Bd t n s.1 u.1) :
    ∃ s' u', (PJ n M C (Kx K 2 (C 2)) s' u' ∨ Bd t n s'.1 u'.1) ∧ fn_R_packedLines_111 (nI (2 * M + 1)) tx κ am_NF (nI 0) s.1 s.2 = κ s'.1 s'.2 ∧ fn_M_packedBody_73 x1 mtx κ' am_NF (nI 0) u.1 u.2.1 u.2.2 = κ' u'.1 u'.2.1 u'.2.2 := by
  obtain ⟨c0, c1, c2, c3, c4⟩ := id hCb
  have h1500 := hT.1
  refine z_loop3 (fun N k (s : SR × SD) => fn_R_packedLines_111 (nI (2 * M + 1)) tx κ N (nI k) s.1 s.2) (fun N k (u : Mps × Mnd × Mus) => fn_M_packedBody_73 x1 mtx κ' N (nI k) u.1 u.2.1 u.2.2) (fun s => κ s.1 s.2) (fun u => κ' u.1 u.2.1 u.2.2) (C 2) (fun k s u => PJ n M C (Kx K 2 k) s u) (fun s u => Bd t n s.1 u.1)
    (fun N k s u hk hI => ?_) (fun N s u hI => ?_) (fun N k s u hk hB => ?_) (by omega) (by rw [z_NF]; omega) (h.imp (fun z => by have e := Kx_id (K := K) (i0 := 2); rw [hK] at e; rw [e]; exact z) id)
  · obtain ⟨rd, d⟩ := s
    obtain ⟨ps, nd, us⟩ := u
    obtain ⟨D, hD1, hD2, ⟨p, ho⟩, hFl, hVp, hus⟩ := hI
    have hD1 : D.1 = M := hD1
    have ho : Ok n rd ps p := ho
    have hFl : Fl D (Kx K 2 k) d nd := hFl
    have hus : us.2.2.2.2 = nI (K 1 + k) := by
      have hus : us.2.2.2.2 = nI (Kx K 2 k 1 + Kx K 2 k 2) := hus
      rw [Kx_s, Kx_n (by omega)] at hus
      exact hus
    have hnd1 : nd.1 = nI M := hD1 ▸ hFl.2.1
    obtain ⟨v, pl1, ft1, w, ps1, us1, e1, f1, s1, o1⟩ := L_plit (rd := rd) (nd := nd) (us := us) (x := nI (2 * M + 1)) (u := K 1 + k) hT c0 (by omega) (Or.inl ⟨p, ho⟩) (fun _ => ⟨hnd1, rfl, hus⟩)
    obtain ⟨pl, ft, ps2, e2, f2, s2, o2⟩ := L_take (b := 10) hT (by omega) (by omega) s1
    rw [sPF2] at e2 s2 o2
    have hm : fn_D_many (nI 2) d = some (nI (C 2)) := by rw [C_manyG (by omega)]; exact congrArg some (((hFl.2.2.1 2 (by omega)).1).trans (by rw [hD2]))
    have hmn : nd.2.1 2 = nI (C 2) := ((hFl.2.2.1 2 (by omega)).2).trans (by rw [hD2])
    have hft := ho.2.1
    have hps := ho.2.2.2.1
    refine ⟨(sPF rd pl ft, (am_rset d.1 2 k v, d.2)), (ps2, (nd.1, nd.2.1, nd.2.2.1, nd.2.2.2.1, nd.2.2.2.2.1, nd.2.2.2.2.2.1, upd nd.2.2.2.2.2.2.1 k w, nd.2.2.2.2.2.2.2.1, nd.2.2.2.2.2.2.2.2.1, nd.2.2.2.2.2.2.2.2.2), us1), ?_, ?_, ?_⟩
    · rcases s2 with ho2 | hb2
      · left
        obtain ⟨_, r1, b, a2, a3, a4⟩ := o1 (o2 ho2)
        subst a2 a3
        refine ⟨ext D 2 k (fun _ => b), hD1, hD2, ho2, ?_, ?_, ?_⟩
        · have := Fl_line (i0 := 2) (k := k) (r := fun _ => b) (d' := (am_rset d.1 2 k (nI b), d.2)) (nd' := (nd.1, nd.2.1, nd.2.2.1, nd.2.2.2.1, nd.2.2.2.2.1, nd.2.2.2.2.2.1, upd nd.2.2.2.2.2.2.1 k (nI b), nd.2.2.2.2.2.2.2.1, nd.2.2.2.2.2.2.2.2.1, nd.2.2.2.2.2.2.2.2.2)) hFl Kx_s rfl rfl rfl rfl (fun i hi hd => by
            have i8 : i = 0 ∨ i = 1 ∨ i = 2 ∨ i = 3 ∨ i = 4 ∨ i = 5 ∨ i = 6 ∨ i = 7 := by omega
            rcases i8 with rfl | rfl | rfl | rfl | rfl | rfl | rfl | rfl
            · exact absurd hd (by decide)
            · exact absurd hd (by decide)
            · exact ⟨rs_e (r := d.1) (i := 2) (k := k) (x := nI b), pk_us⟩
            all_goals exact absurd hd (by decide)) (fun i j hi hd => by
            refine ⟨rs_o (r := d.1) (i0 := 2) (k := k) (x := nI b) (i := i) (j := j) (hd.imp (fun z y => z (by rw [y]; rfl)) id), ?_⟩
            have i8 : i = 0 ∨ i = 1 ∨ i = 2 ∨ i = 3 ∨ i = 4 ∨ i = 5 ∨ i = 6 ∨ i = 7 := by omega
            rcases i8 with rfl | rfl | rfl | rfl | rfl | rfl | rfl | rfl
            · rfl
            · rfl
            · exact pk_un (hd.resolve_left fun z => z rfl)
            all_goals rfl)
          rw [Kx_Kx] at this
          exact this
        · have := Vp_line (i0 := 2) (k := k) (r := fun _ => b) hVp Kx_s (fun z => absurd z (by omega)) (fun z => absurd z (by omega)) (fun _ => by rw [hD1]; exact a4) (fun z => absurd z (by omega))
          rw [Kx_Kx] at this
          exact this
        · show us1.2.2.2.2 = _
          rw [Kx_s, Kx_n (by omega)]
          exact r1
      · exact Or.inr hb2
    · show fn_R_packedLines_111 _ _ _ (N + 1) _ _ _ = _
      rw [fn_R_packedLines_111]
      simp (disch := omega) only [z_lit, z_mm, z_eqm, z_eqm', z_ltm, z_ltm', z_lem, z_lem', nI_leI, nI_ltI, nI_eq, nI_toInt, nI_clamp, nI_add, pk_mul, pk_sub, pk_div, z_rem, z_shr1, z_and1, decide_eq_true_eq, if_pos, if_neg, Option.bind_some, ite_true, ite_false, eq_self, not_false_eq_true, not_true_eq_false, hm, hft, e1, C_set, e2]
    · show fn_M_packedBody_73 _ _ _ (N + 1) _ _ _ _ = _
      rw [fn_M_packedBody_73]
      simp (disch := omega) only [z_lit, z_mm, z_eqm, z_eqm', z_ltm, z_ltm', z_lem, z_lem', nI_leI, nI_ltI, nI_eq, nI_toInt, nI_clamp, nI_add, pk_mul, pk_sub, pk_div, z_rem, z_shr1, z_and1, decide_eq_true_eq, if_pos, if_neg, Option.bind_some, ite_true, ite_false, eq_self, not_false_eq_true, not_true_eq_false, hmn, hps, f1, f2]
  · obtain ⟨rd, d⟩ := s
    obtain ⟨ps, nd, us⟩ := u
    obtain ⟨D, hD1, hD2, ⟨p, ho⟩, hFl, -⟩ := hI
    have hFl : Fl D (Kx K 2 (C 2)) d nd := hFl
    have hm : fn_D_many (nI 2) d = some (nI (C 2)) := by rw [C_manyG (by omega)]; exact congrArg some (((hFl.2.2.1 2 (by omega)).1).trans (by rw [hD2]))
    have hmn : nd.2.1 2 = nI (C 2) := ((hFl.2.2.1 2 (by omega)).2).trans (by rw [hD2])
    refine ⟨?_, ?_⟩
    · show fn_R_packedLines_111 _ _ _ (N + 1) _ _ _ = _
      rw [fn_R_packedLines_111]
      simp (disch := omega) only [z_lit, z_mm, z_eqm, z_eqm', z_ltm, z_ltm', z_lem, z_lem', nI_leI, nI_ltI, nI_eq, nI_toInt, nI_clamp, nI_add, pk_mul, pk_sub, pk_div, z_rem, z_shr1, z_and1, decide_eq_true_eq, if_pos, if_neg, Option.bind_some, ite_true, ite_false, eq_self, not_false_eq_true, not_true_eq_false, hm]
    · show fn_M_packedBody_73 _ _ _ (N + 1) _ _ _ _ = _
      rw [fn_M_packedBody_73]
      simp (disch := omega) only [z_lit, z_mm, z_eqm, z_eqm', z_ltm, z_ltm', z_lem, z_lem', nI_leI, nI_ltI, nI_eq, nI_toInt, nI_clamp, nI_add, pk_mul, pk_sub, pk_div, z_rem, z_shr1, z_and1, decide_eq_true_eq, if_pos, if_neg, Option.bind_some, ite_true, ite_false, eq_self, not_false_eq_true, not_true_eq_false, hmn]
  · obtain ⟨rd, d⟩ := s
    obtain ⟨ps, nd, us⟩ := u
    obtain ⟨z1, z2⟩ := Bd_ft hB
    have z1 : ¬ rd.2.2.2.2.2.2.2.2 = (-1 : Int32) := z1
    have z2 : ¬ ps.2.1 = (-1 : Int32) := z2
    refine ⟨?_, ?_⟩
    · show fn_R_packedLines_111 _ _ _ (N + 1) _ _ _ = _
      rw [fn_R_packedLines_111, show (2 : Int32) = nI 2 from rfl, C_manyG (by omega), Option.bind_some]
      split
      · rfl
      · exact am_iff (decide_eq_false z1)
    · show fn_M_packedBody_73 _ _ _ (N + 1) _ _ _ _ = _
      rw [fn_M_packedBody_73]
      refine (am_ift (by decide)).trans ?_
      split
      · rfl
      · exact am_iff (decide_eq_false z2)
theorem K_gat {tx : SB} {mtx : Mtx} {t : Nat → Nat} {n M : Nat} {C K : Nat → Nat} {x0 y0 : Int32} (hT : BR tx mtx t n) (hCb : Cb M C) (hK : K 3 = 0) (κ : SR → SD → Option (SR × SD)) (κ' : Mps → Mnd → Mus → Option (Mps × Mnd × Mus)) {s : SR × SD} {u : Mps × Mnd × Mus} (h : (PJ n M C K s u ∧ x0 = nI (2 * (C 0 + C 1)) ∧ y0 = nI (2 * (C 0 + C 1) + 2)) ∨ Bd t n s.1 u.1) :
    ∃ s' u', (PJ n M C (Kx K 3 (C 3)) s' u' ∨ Bd t n s'.1 u'.1) ∧ fn_R_packedGates_16 tx κ am_NF x0 (nI 0) s.1 s.2 = κ s'.1 s'.2 ∧ fn_M_packedBody_116 mtx κ' am_NF y0 (nI 0) u.1 u.2.1 u.2.2 = κ' u'.1 u'.2.1 u'.2.2 := by
  obtain ⟨c0, c1, c2, c3, c4⟩ := id hCb
  have h1500 := hT.1
  obtain ⟨s', u', h1, e1, e2⟩ := z_loop3 (fun N k (s : Int32 × SR × SD) => fn_R_packedGates_16 tx κ N s.1 (nI k) s.2.1 s.2.2) (fun N k (u : Int32 × Mps × Mnd × Mus) => fn_M_packedBody_116 mtx κ' N u.1 (nI k) u.2.1 u.2.2.1 u.2.2.2) (fun s => κ s.2.1 s.2.2) (fun u => κ' u.2.1 u.2.2.1 u.2.2.2) (C 3) (fun k s u => s.1 = nI (2 * (C 0 + C 1 + k)) ∧ u.1 = nI (2 * (C 0 + C 1 + k) + 2) ∧ PJ n M C (Kx K 3 k) s.2 u.2) (fun s u => Bd t n s.2.1 u.2.1)
    (fun N k s u hk ⟨h1, h2, hI⟩ => by
      obtain ⟨x3, rd, d⟩ := s
      obtain ⟨x1, ps, nd, us⟩ := u
      have h1 : x3 = nI (2 * (C 0 + C 1 + k)) := h1
      have h2 : x1 = nI (2 * (C 0 + C 1 + k) + 2) := h2
      subst h1 h2
      obtain ⟨D, hD1, hD2, ⟨p, ho⟩, hFl, hVp, hus⟩ := hI
      have hD1 : D.1 = M := hD1
      have hD2 : D.2.1 = C := hD2
      have ho : Ok n rd ps p := ho
      have hFl : Fl D (Kx K 3 k) d nd := hFl
      have hm : fn_D_many (nI 3) d = some (nI (C 3)) := by rw [C_manyG (by omega)]; exact congrArg some (((hFl.2.2.1 3 (by omega)).1).trans (by rw [hD2]))
      have hmn : nd.2.1 3 = nI (C 3) := ((hFl.2.2.1 3 (by omega)).2).trans (by rw [hD2])
      have hft := ho.2.1
      have hps := ho.2.2.2.1
      obtain ⟨W, hW⟩ : ∃ W, W = 2 * (C 0 + C 1 + k) + 2 := ⟨_, rfl⟩
      obtain ⟨v1, w1, pl1, ft1, ps1, e1, f1, s1, o1⟩ := L_diff (a := 1) (b := W) (rd := rd) (ps := ps) (x1 := nI 1) (x2 := nI W) (y1 := nI 1) (y2 := nI W) hT (by omega) (by omega) (fun _ => ⟨rfl, rfl, rfl, rfl⟩) (Or.inl ⟨p, ho⟩)
      obtain ⟨B, hB⟩ : ∃ B, (∃ p', Ok n (sPF rd pl1 ft1) ps1 p') → v1 = nI B ∧ w1 = nI B ∧ 1 ≤ B ∧ B ≤ W := by
        by_cases hq : ∃ p', Ok n (sPF rd pl1 ft1) ps1 p'
        · obtain ⟨_, B, q⟩ := o1 hq
          exact ⟨B, fun _ => q⟩
        · exact ⟨0, fun z => absurd z hq⟩
      obtain ⟨v2, w2, pl2, ft2, ps2, e2, f2, s2, o2⟩ := L_diff (a := 0) (b := W - B) (rd := sPF rd pl1 ft1) (ps := ps1) (x1 := nI 0) (x2 := nI W - v1) (y1 := nI 0) (y2 := nI W - w1) hT (by omega) (by omega) (fun hq => by
        obtain ⟨q1, q2, q3, q4⟩ := hB hq
        rw [q1, q2, pk_sub q4]
        exact ⟨rfl, rfl, rfl, rfl⟩) s1
      rw [sPF2] at e2 s2 o2
      refine ⟨(nI (2 * (C 0 + C 1 + (k + 1))), sPF rd pl2 ft2, (am_rset (am_rset (am_rset d.1 3 k (nI W)) 6 k (nI W - v1)) 7 k ((nI W - v1) - v2), d.2)), (nI (2 * (C 0 + C 1 + (k + 1)) + 2), ps2, (nd.1, nd.2.1, nd.2.2.1, nd.2.2.2.1, nd.2.2.2.2.1, nd.2.2.2.2.2.1, nd.2.2.2.2.2.2.1, upd nd.2.2.2.2.2.2.2.1 k (nI W), upd nd.2.2.2.2.2.2.2.2.1 k (nI W - w1), upd nd.2.2.2.2.2.2.2.2.2 k ((nI W - w1) - w2)), us), ?_, ?_, ?_⟩
      · rcases s2 with ho2 | hb2
        · left
          obtain ⟨ho1, b2, q1, q2, q3, q4⟩ := o2 ho2
          obtain ⟨r1, r2, r3, r4⟩ := hB ho1
          subst q1 q2 r1 r2
          have z6 : nI W - nI B = nI (W - B) := pk_sub r4
          have z7 : nI W - nI B - nI b2 = nI (W - B - b2) := by rw [z6, pk_sub (by omega)]
          refine ⟨rfl, rfl, ext D 3 k (fun i => if i = 3 then W else if i = 6 then W - B else W - B - b2), hD1, hD2, ho2, ?_, ?_, ?_⟩
          · rw [z7, z6]
            have := Fl_line (i0 := 3) (k := k) (r := fun i => if i = 3 then W else if i = 6 then W - B else W - B - b2) (d' := (am_rset (am_rset (am_rset d.1 3 k (nI W)) 6 k (nI (W - B))) 7 k (nI (W - B - b2)), d.2)) (nd' := (nd.1, nd.2.1, nd.2.2.1, nd.2.2.2.1, nd.2.2.2.2.1, nd.2.2.2.2.2.1, nd.2.2.2.2.2.2.1, upd nd.2.2.2.2.2.2.2.1 k (nI W), upd nd.2.2.2.2.2.2.2.2.1 k (nI (W - B)), upd nd.2.2.2.2.2.2.2.2.2 k (nI (W - B - b2)))) hFl Kx_s rfl rfl rfl rfl (fun i hi hd => by
              have i8 : i = 0 ∨ i = 1 ∨ i = 2 ∨ i = 3 ∨ i = 4 ∨ i = 5 ∨ i = 6 ∨ i = 7 := by omega
              rcases i8 with rfl | rfl | rfl | rfl | rfl | rfl | rfl | rfl
              · exact absurd hd (by decide)
              · exact absurd hd (by decide)
              · exact absurd hd (by decide)
              · refine ⟨?_, pk_us⟩
                show am_rset (am_rset (am_rset d.1 3 k (nI W)) 6 k (nI (W - B))) 7 k (nI (W - B - b2)) 3 k = nI W
                rw [rs_o (Or.inl (by omega)), rs_o (Or.inl (by omega)), rs_e]
              · exact absurd hd (by decide)
              · exact absurd hd (by decide)
              · refine ⟨?_, pk_us⟩
                show am_rset (am_rset (am_rset d.1 3 k (nI W)) 6 k (nI (W - B))) 7 k (nI (W - B - b2)) 6 k = nI (W - B)
                rw [rs_o (Or.inl (by omega)), rs_e]
              · refine ⟨?_, pk_us⟩
                show am_rset (am_rset (am_rset d.1 3 k (nI W)) 6 k (nI (W - B))) 7 k (nI (W - B - b2)) 7 k = nI (W - B - b2)
                rw [rs_e]) (fun i j hi hd => by
              have hne : ∀ i0, dk i0 = 3 → i ≠ i0 ∨ j ≠ k := fun i0 h0 => hd.imp (fun z y => z (by rw [y]; exact h0)) id
              refine ⟨?_, ?_⟩
              · show am_rset (am_rset (am_rset d.1 3 k (nI W)) 6 k (nI (W - B))) 7 k (nI (W - B - b2)) i j = d.1 i j
                rw [rs_o (hne 7 rfl), rs_o (hne 6 rfl), rs_o (hne 3 rfl)]
              · have i8 : i = 0 ∨ i = 1 ∨ i = 2 ∨ i = 3 ∨ i = 4 ∨ i = 5 ∨ i = 6 ∨ i = 7 := by omega
                rcases i8 with rfl | rfl | rfl | rfl | rfl | rfl | rfl | rfl
                · rfl
                · rfl
                · rfl
                · exact pk_un (hd.resolve_left fun z => z rfl)
                · rfl
                · rfl
                · exact pk_un (hd.resolve_left fun z => z rfl)
                · exact pk_un (hd.resolve_left fun z => z rfl))
            rw [Kx_Kx] at this
            exact this
          · have := Vp_line (i0 := 3) (k := k) (r := fun i => if i = 3 then W else if i = 6 then W - B else W - B - b2) hVp Kx_s (fun z => absurd z (by omega)) (fun z => absurd z (by omega)) (fun z => absurd z (by omega)) (fun _ => ⟨by show W = _; rw [hD2]; omega, by show W - B < W; omega, by show W - B - b2 ≤ W - B; omega⟩)
            rw [Kx_Kx] at this
            exact this
          · show us.2.2.2.2 = _
            have hus : us.2.2.2.2 = nI (Kx K 3 k 1 + Kx K 3 k 2) := hus
            rw [Kx_n (by omega), Kx_n (by omega)] at hus ⊢
            exact hus
        · exact Or.inr hb2
      · show fn_R_packedGates_16 _ _ (N + 1) _ _ _ _ = _
        rw [fn_R_packedGates_16]
        have e22 : 2 * (C 0 + C 1 + k) + 2 = W := hW.symm
        have e24 : 2 * (C 0 + C 1 + (k + 1)) = W := by omega
        simp (disch := omega) only [z_lit, z_mm, z_eqm, z_eqm', z_ltm, z_ltm', z_lem, z_lem', nI_leI, nI_ltI, nI_eq, nI_toInt, nI_clamp, nI_add, pk_mul, pk_sub, pk_div, z_rem, z_shr1, z_and1, decide_eq_true_eq, if_pos, if_neg, Option.bind_some, ite_true, ite_false, eq_self, not_false_eq_true, not_true_eq_false, hm, hft, C_set, e22, e24, e1, e2]
      · show fn_M_packedBody_116 _ _ (N + 1) _ _ _ _ _ = _
        rw [fn_M_packedBody_116, ← hW]
        have e24 : 2 * (C 0 + C 1 + (k + 1)) + 2 = W + 2 := by omega
        simp (disch := omega) only [z_lit, z_mm, z_eqm, z_eqm', z_ltm, z_ltm', z_lem, z_lem', nI_leI, nI_ltI, nI_eq, nI_toInt, nI_clamp, nI_add, pk_mul, pk_sub, pk_div, z_rem, z_shr1, z_and1, decide_eq_true_eq, if_pos, if_neg, Option.bind_some, ite_true, ite_false, eq_self, not_false_eq_true, not_true_eq_false, hmn, hps, f1, pk_us, f2, e24])
    (fun N s u ⟨h1, h2, hI⟩ => by
      obtain ⟨x3, rd, d⟩ := s
      obtain ⟨x1, ps, nd, us⟩ := u
      obtain ⟨D, hD1, hD2, hp, hFl, -⟩ := hI
      have hFl : Fl D (Kx K 3 (C 3)) d nd := hFl
      have hm : fn_D_many (nI 3) d = some (nI (C 3)) := by rw [C_manyG (by omega)]; exact congrArg some (((hFl.2.2.1 3 (by omega)).1).trans (by rw [hD2]))
      have hmn : nd.2.1 3 = nI (C 3) := ((hFl.2.2.1 3 (by omega)).2).trans (by rw [hD2])
      refine ⟨?_, ?_⟩
      · show fn_R_packedGates_16 _ _ (N + 1) _ _ _ _ = _
        rw [fn_R_packedGates_16]
        simp (disch := omega) only [z_lit, z_mm, z_eqm, z_eqm', z_ltm, z_ltm', z_lem, z_lem', nI_leI, nI_ltI, nI_eq, nI_toInt, nI_clamp, nI_add, pk_mul, pk_sub, pk_div, z_rem, z_shr1, z_and1, decide_eq_true_eq, if_pos, if_neg, Option.bind_some, ite_true, ite_false, eq_self, not_false_eq_true, not_true_eq_false, hm]
      · show fn_M_packedBody_116 _ _ (N + 1) _ _ _ _ _ = _
        rw [fn_M_packedBody_116]
        simp (disch := omega) only [z_lit, z_mm, z_eqm, z_eqm', z_ltm, z_ltm', z_lem, z_lem', nI_leI, nI_ltI, nI_eq, nI_toInt, nI_clamp, nI_add, pk_mul, pk_sub, pk_div, z_rem, z_shr1, z_and1, decide_eq_true_eq, if_pos, if_neg, Option.bind_some, ite_true, ite_false, eq_self, not_false_eq_true, not_true_eq_false, hmn])
    (fun N k s u hk hB => by
      obtain ⟨x3, rd, d⟩ := s
      obtain ⟨x1, ps, nd, us⟩ := u
      obtain ⟨z1, z2⟩ := Bd_ft hB
      have z1 : ¬ rd.2.2.2.2.2.2.2.2 = (-1 : Int32) := z1
      have z2 : ¬ ps.2.1 = (-1 : Int32) := z2
      refine ⟨?_, ?_⟩
      · show fn_R_packedGates_16 _ _ (N + 1) _ _ _ _ = _
        rw [fn_R_packedGates_16, show (3 : Int32) = nI 3 from rfl, C_manyG (by omega), Option.bind_some]
        split
        · rfl
        · exact am_iff (decide_eq_false z1)
      · show fn_M_packedBody_116 _ _ (N + 1) _ _ _ _ _ = _
        rw [fn_M_packedBody_116]
        refine (am_ift (by decide)).trans ?_
        split
        · rfl
        · exact am_iff (decide_eq_false z2)) (N := am_NF) (k := 0) (s := (x0, s)) (u := (y0, u)) (by omega) (by rw [z_NF]; omega) (h.imp (fun z => ⟨z.2.1, z.2.2, by have e := Kx_id (K := K) (i0 := 3); rw [hK] at e; rw [e]; exact z.1⟩) id)
  exact ⟨s'.2, u'.2, h1.imp (fun z => z.2.2) id, e1, e2⟩
