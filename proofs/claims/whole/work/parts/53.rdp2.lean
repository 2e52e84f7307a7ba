def ux (f : Nat → Nat) (u b : Nat) : Nat → Nat := fun j => if j = u then b else f j
theorem ux_s {f : Nat → Nat} {u b : Nat} : ux f u b u = b := if_pos rfl
theorem ux_n {f : Nat → Nat} {u b j : Nat} (h : j ≠ u) : ux f u b j = f j := if_neg h
theorem Us_one {D : De} {K : Nat → Nat} {i0 k u b p : Nat} {ul up r : Nat → Nat} {rd rd' : SR} {us us' : Mus} (h : Us D K u ul up rd us) (hk : K i0 = k) (hi0 : i0 = 1 ∨ i0 = 2) (hb : b < 200) (hp : p ≤ 1501) (hr : ∀ i, uK i → dk i = i0 → r i = b)
    (h1 : rd'.2.1 = upd rd.2.1 u (nI b)) (h2 : rd'.2.2.1 = upd rd.2.2.1 u (nI p)) (h3 : rd'.2.2.2.2.2.2.1 = nI (u + 1)) (h4 : us'.2.2.1 = upd us.2.2.1 u (nI b)) (h5 : us'.2.2.2.1 = upd us.2.2.2.1 u (nI p)) (h6 : us'.2.2.2.2 = nI (u + 1)) :
    Us (ext D i0 k r) (Kx K i0 (k + 1)) (u + 1) (ux ul u b) (ux up u p) rd' us' := by
  obtain ⟨u1, u2, u3, u4, u5⟩ := h
  refine ⟨?_, h3, h6, fun j hj => ?_, Us_cov u5 hk (by omega) (fun j hj => ux_n (by omega)) (fun i hi hd => ⟨u, by omega, by rw [hr i hi hd, ux_s]⟩)⟩
  · rcases hi0 with rfl | rfl
    · rw [Kx_s, Kx_n (by omega), Kx_n (by omega)]; omega
    · rw [Kx_s, Kx_n (by omega), Kx_n (by omega)]; omega
  · rw [h1, h2, h4, h5]
    by_cases e : j = u
    · subst e
      rw [pk_us, pk_us, pk_us, pk_us, ux_s, ux_s]
      exact ⟨⟨rfl, rfl⟩, ⟨rfl, rfl⟩, hb, hp⟩
    · rw [pk_un e, pk_un e, pk_un e, pk_un e, ux_n e, ux_n e]
      exact u4 j (by omega)
theorem L_out {tx : SB} {mtx : Mtx} {t : Nat → Nat} {n M : Nat} {C K : Nat → Nat} (hT : BR tx mtx t n) (hCb : Cb M C) (hK : K 2 = 0) (hK1 : K 1 ≤ 8) (hK3 : K 3 = 0) (κ : SR → SD → Option (SR × SD)) (κ' : Mps → Mnd → Mus → Option (Mps × Mnd × Mus)) {s : SR × SD} {u : Mps × Mnd × Mus} (h : PI n M C K s u ∨ Bd t n s.1 u.1) :
    ∃ s' u', (PI n M C (Kx K 2 (C 2)) s' u' ∨ Bd t n s'.1 u'.1) ∧ fn_R_plainLines_151 (nI (2 * M + 1)) tx κ am_NF (nI 0) s.1 s.2 = κ s'.1 s'.2 ∧ fn_M_plainBody_91 mtx κ' am_NF (nI 0) u.1 u.2.1 u.2.2 = κ' u'.1 u'.2.1 u'.2.2 := by
  obtain ⟨c0, c1, c2, c3, c4⟩ := id hCb
  have h1500 := hT.1
  refine z_loop3 (fun N k (s : SR × SD) => fn_R_plainLines_151 (nI (2 * M + 1)) tx κ N (nI k) s.1 s.2) (fun N k (u : Mps × Mnd × Mus) => fn_M_plainBody_91 mtx κ' N (nI k) u.1 u.2.1 u.2.2) (fun s => κ s.1 s.2) (fun u => κ' u.1 u.2.1 u.2.2) (C 2) (fun k s u => PI n M C (Kx K 2 k) s u) (fun s u => Bd t n s.1 u.1)
    (fun N k s u hk hI => ?_) (fun N s u hI => ?_) (fun N k s u hk hB => ?_) (by omega) (by rw [z_NF]; omega) (h.imp (fun z => by have e := Kx_id (K := K) (i0 := 2); rw [hK] at e; rw [e]; exact z) id)
  · obtain ⟨rd, d⟩ := s
    obtain ⟨ps, nd, us⟩ := u
    obtain ⟨D, hD1, hD2, ⟨p, ho⟩, hFl, hVf, hDf, ⟨uu, ul, up, hUs⟩, gp, hGp⟩ := hI
    have hD1 : D.1 = M := hD1
    have ho : Ok n rd ps p := ho
    have hFl : Fl D (Kx K 2 k) d nd := hFl
    have hDf : Df D (Kx K 2 k) rd.1 us.2.1 := hDf
    have hUs : Us D (Kx K 2 k) uu ul up rd us := hUs
    have hGp : Gp (Kx K 2 k 3) gp rd.2.2.2.1 us.1 := hGp
    have hnd1 : nd.1 = nI M := hD1 ▸ hFl.2.1
    have hu1 := hUs.1
    rw [Kx_n (show (1 : Nat) ≠ 2 by omega), Kx_s, Kx_n (show (3 : Nat) ≠ 2 by omega)] at hu1
    obtain ⟨v, rd1, w, ps1, us1, e1, f1, s1, g1, g2, g3, g4, o1⟩ := L_use (nd := nd) (us := us) (x := nI (2 * M + 1)) (u := uu) hT c0 (by omega) (Or.inl ⟨p, ho⟩) (fun _ => ⟨hnd1, rfl, hUs.2.1, hUs.2.2.1⟩)
    obtain ⟨pl, ft, ps2, e2, f2, s2, o2⟩ := L_take (b := 10) hT (by omega) (by omega) s1
    have hm : fn_D_many (nI 2) d = some (nI (C 2)) := by rw [C_manyG (by omega)]; exact congrArg some (((hFl.2.2.1 2 (by omega)).1).trans (by rw [hD2]))
    have hmn : nd.2.1 2 = nI (C 2) := ((hFl.2.2.1 2 (by omega)).2).trans (by rw [hD2])
    have hft := ho.2.1
    have hps := ho.2.2.2.1
    refine ⟨(sPF rd1 pl ft, (am_rset d.1 2 k v, d.2)), (ps2, (nd.1, nd.2.1, nd.2.2.1, nd.2.2.2.1, nd.2.2.2.2.1, nd.2.2.2.2.2.1, upd nd.2.2.2.2.2.2.1 k w, nd.2.2.2.2.2.2.2.1, nd.2.2.2.2.2.2.2.2.1, nd.2.2.2.2.2.2.2.2.2), us1), ?_, ?_, ?_⟩
    · rcases s2 with ho2 | hb2
      · left
        obtain ⟨p', b, a1, a2, a3, a4, a5, a6, a7, a8, a9, a10⟩ := o1 (o2 ho2)
        subst a2 a3
        have hp' := a1.2.2.2.2
        refine ⟨ext D 2 k (fun _ => b), hD1, hD2, ho2, ?_, ?_, ?_, ⟨uu + 1, ux ul uu b, ux up uu p', ?_⟩, gp, ?_⟩
        · have := Fl_line (i0 := 2) (k := k) (r := fun _ => b) (d' := (am_rset d.1 2 k (nI b), d.2)) (nd' := (nd.1, nd.2.1, nd.2.2.1, nd.2.2.2.1, nd.2.2.2.2.1, nd.2.2.2.2.2.1, upd nd.2.2.2.2.2.2.1 k (nI b), nd.2.2.2.2.2.2.2.1, nd.2.2.2.2.2.2.2.2.1, nd.2.2.2.2.2.2.2.2.2)) hFl Kx_s rfl rfl rfl rfl (fun i hi hd => by
            have i8 : i = 0 ∨ i = 1 ∨ i = 2 ∨ i = 3 ∨ i = 4 ∨ i = 5 ∨ i = 6 ∨ i = 7 := by omega
            rcases i8 with rfl | rfl | rfl | rfl | rfl | rfl | rfl | rfl
            · exact absurd hd (by decide)
            · exact absurd hd (by decide)
            · exact ⟨rs_e (r := d.1) (i := 2) (k := k) (x := nI b), pk_us⟩
            all_goals exact absurd hd (by decide)) (fun i j hi hd => by
            refine ⟨rs_o (r := d.1) (i0 := 2) (k := k) (x := nI b) (i := i) (j := j) (hd.imp (fun z y => z (by rw [y]; rfl)) id), ?_⟩
            have i8 : i = 0 ∨ i = 1 ∨ i = 2 ∨ i = 3 ∨ i = 4 ∨ i = 5 ∨ i = 6 ∨ i = 7 := by omega
            rcases i8 with rfl | rfl | rfl | rfl | rfl | rfl | rfl | rfl
            · rfl
            · rfl
            · exact pk_un (hd.resolve_left fun z => z rfl)
            all_goals rfl)
          rw [Kx_Kx] at this
          exact this
        · have := Vf_line (i0 := 2) (k := k) (r := fun _ => b) hVf Kx_s (fun i _ _ => by show b < 200; omega) (fun z => absurd z (by omega)) (fun z => by rcases z with z | z | z <;> omega)
          rw [Kx_Kx] at this
          exact this
        · have := Df_out (i0 := 2) (k := k) (r := fun _ => b) hDf Kx_s (fun z => by rcases z with z | z | z <;> omega)
          rw [Kx_Kx, ← g2, ← g3] at this
          exact this
        · have := Us_one (i0 := 2) (k := k) (b := b) (p := p') (r := fun _ => b) (rd' := sPF rd1 pl ft) (us' := us1) hUs Kx_s (Or.inr rfl) (by omega) (by omega) (fun _ _ _ => rfl) a5 a6 a7 a8 a9 a10
          rw [Kx_Kx] at this
          exact this
        · intro j hj
          rw [Kx_n (by omega)] at hj hGp
          have := hGp j hj
          exact ⟨(congrFun g4 j).trans this.1, (congrFun g1 j).trans this.2.1, this.2.2⟩
      · exact Or.inr hb2
    · show fn_R_plainLines_151 _ _ _ (N + 1) _ _ _ = _
      rw [fn_R_plainLines_151]
      simp (disch := omega) only [z_lit, z_mm, z_eqm, z_eqm', z_ltm, z_ltm', z_lem, z_lem', nI_leI, nI_ltI, nI_eq, nI_toInt, nI_clamp, nI_add, pk_mul, pk_sub, pk_div, z_rem, z_shr1, z_and1, decide_eq_true_eq, if_pos, if_neg, Option.bind_some, ite_true, ite_false, eq_self, not_false_eq_true, not_true_eq_false, hm, hft, e1, C_set, e2]
    · show fn_M_plainBody_91 _ _ (N + 1) _ _ _ _ = _
      rw [fn_M_plainBody_91]
      simp (disch := omega) only [z_lit, z_mm, z_eqm, z_eqm', z_ltm, z_ltm', z_lem, z_lem', nI_leI, nI_ltI, nI_eq, nI_toInt, nI_clamp, nI_add, pk_mul, pk_sub, pk_div, z_rem, z_shr1, z_and1, decide_eq_true_eq, if_pos, if_neg, Option.bind_some, ite_true, ite_false, eq_self, not_false_eq_true, not_true_eq_false, hmn, hps, f1, f2]
  · obtain ⟨rd, d⟩ := s
    obtain ⟨ps, nd, us⟩ := u
    obtain ⟨D, hD1, hD2, ⟨p, ho⟩, hFl, -⟩ := hI
    have hFl : Fl D (Kx K 2 (C 2)) d nd := hFl
    have hm : fn_D_many (nI 2) d = some (nI (C 2)) := by rw [C_manyG (by omega)]; exact congrArg some (((hFl.2.2.1 2 (by omega)).1).trans (by rw [hD2]))
    have hmn : nd.2.1 2 = nI (C 2) := ((hFl.2.2.1 2 (by omega)).2).trans (by rw [hD2])
    refine ⟨?_, ?_⟩
    · show fn_R_plainLines_151 _ _ _ (N + 1) _ _ _ = _
      rw [fn_R_plainLines_151]
      simp (disch := omega) only [z_lit, z_mm, z_eqm, z_eqm', z_ltm, z_ltm', z_lem, z_lem', nI_leI, nI_ltI, nI_eq, nI_toInt, nI_clamp, nI_add, pk_mul, pk_sub, pk_div, z_rem, z_shr1, z_and1, decide_eq_true_eq, if_pos, if_neg, Option.bind_some, ite_true, ite_false, eq_self, not_false_eq_true, not_true_eq_false, hm]
    · show fn_M_plainBody_91 _ _ (N + 1) _ _ _ _ = _
      rw [fn_M_plainBody_91]
      simp (disch := omega) only [z_lit, z_mm, z_eqm, z_eqm', z_ltm, z_ltm', z_lem, z_lem', nI_leI, nI_ltI, nI_eq, nI_toInt, nI_clamp, nI_add, pk_mul, pk_sub, pk_div, z_rem, z_shr1, z_and1, decide_eq_true_eq, if_pos, if_neg, Option.bind_some, ite_true, ite_false, eq_self, not_false_eq_true, not_true_eq_false, hmn]
  · obtain ⟨rd, d⟩ := s
    obtain ⟨ps, nd, us⟩ := u
    obtain ⟨z1, z2⟩ := Bd_ft hB
    have z1 : ¬ rd.2.2.2.2.2.2.2.2 = (-1 : Int32) := z1
    have z2 : ¬ ps.2.1 = (-1 : Int32) := z2
    refine ⟨?_, ?_⟩
    · show fn_R_plainLines_151 _ _ _ (N + 1) _ _ _ = _
      rw [fn_R_plainLines_151, show (2 : Int32) = nI 2 from rfl, C_manyG (by omega), Option.bind_some]
      split
      · rfl
      · exact am_iff (decide_eq_false z1)
    · show fn_M_plainBody_91 _ _ (N + 1) _ _ _ _ = _
      rw [fn_M_plainBody_91]
      refine (am_ift (by decide)).trans ?_
      split
      · rfl
      · exact am_iff (decide_eq_false z2)
theorem L_lat {tx : SB} {mtx : Mtx} {t : Nat → Nat} {n M : Nat} {C K : Nat → Nat} (hT : BR tx mtx t n) (hCb : Cb M C) (hK : K 1 = 0) (hK2 : K 2 = 0) (hK3 : K 3 = 0) (κ : SR → SD → Option (SR × SD)) (κ' : Mps → Mnd → Mus → Option (Mps × Mnd × Mus)) {s : SR × SD} {u : Mps × Mnd × Mus} (h : PI n M C K s u ∨ Bd t n s.1 u.1) :
    ∃ s' u', (PI n M C (Kx K 1 (C 1)) s' u' ∨ Bd t n s'.1 u'.1) ∧ fn_R_plainLines_82 (nI (2 * M + 1)) tx κ am_NF (nI 0) s.1 s.2 = κ s'.1 s'.2 ∧ fn_M_plainBody_44 mtx κ' am_NF (nI 0) u.1 u.2.1 u.2.2 = κ' u'.1 u'.2.1 u'.2.2 := by
  obtain ⟨c0, c1, c2, c3, c4⟩ := id hCb
  have h1500 := hT.1
  refine z_loop3 (fun N k (s : SR × SD) => fn_R_plainLines_82 (nI (2 * M + 1)) tx κ N (nI k) s.1 s.2) (fun N k (u : Mps × Mnd × Mus) => fn_M_plainBody_44 mtx κ' N (nI k) u.1 u.2.1 u.2.2) (fun s => κ s.1 s.2) (fun u => κ' u.1 u.2.1 u.2.2) (C 1) (fun k s u => PI n M C (Kx K 1 k) s u) (fun s u => Bd t n s.1 u.1)
    (fun N k s u hk hI => ?_) (fun N s u hI => ?_) (fun N k s u hk hB => ?_) (by omega) (by rw [z_NF]; omega) (h.imp (fun z => by have e := Kx_id (K := K) (i0 := 1); rw [hK] at e; rw [e]; exact z) id)
  · obtain ⟨rd, d⟩ := s
    obtain ⟨ps, nd, us⟩ := u
    obtain ⟨D, hD1, hD2, ⟨p, ho⟩, hFl, hVf, hDf, ⟨uu, ul, up, hUs⟩, gp, hGp⟩ := hI
    have hD1 : D.1 = M := hD1
    have ho : Ok n rd ps p := ho
    have hFl : Fl D (Kx K 1 k) d nd := hFl
    have hDf : Df D (Kx K 1 k) rd.1 us.2.1 := hDf
    have hUs : Us D (Kx K 1 k) uu ul up rd us := hUs
    have hGp : Gp (Kx K 1 k 3) gp rd.2.2.2.1 us.1 := hGp
    have hnd1 : nd.1 = nI M := hD1 ▸ hFl.2.1
    have hu1 := hUs.1
    rw [Kx_n (show (2 : Nat) ≠ 1 by omega), Kx_s, Kx_n (show (3 : Nat) ≠ 1 by omega)] at hu1
    obtain ⟨v1, rd1, w1, ps1, us1, e1, f1, s1, g1, g2, g3, o1⟩ := L_def (nd := nd) (us := us) (x := nI (2 * M + 1)) hT c0 (Or.inl ⟨p, ho⟩) (fun _ => ⟨hnd1, rfl, fun v hv => Df_c hDf hv⟩)
    obtain ⟨pl2, ft2, ps2, e2, f2, s2, o2⟩ := L_take (b := 32) hT (by omega) (by omega) (Or.inl s1)
    obtain ⟨v3, rd3, w3, ps3, us3, e3, f3, s3, h1, h2, h3, h4, o3⟩ := L_use (rd := sPF rd1 pl2 ft2) (nd := (nd.1, nd.2.1, nd.2.2.1, upd nd.2.2.2.1 k w1, nd.2.2.2.2.1, nd.2.2.2.2.2.1, nd.2.2.2.2.2.2.1, nd.2.2.2.2.2.2.2.1, nd.2.2.2.2.2.2.2.2.1, nd.2.2.2.2.2.2.2.2.2)) (us := us1) (x := nI (2 * M + 1)) (u := uu) hT c0 (by omega) s2 (fun ho2 => by
      obtain ⟨p', b, a1, a2, a3, a4, a5, a6, a7, a8, a9, a10, a11, a12, a13⟩ := o1 (o2 ho2)
      exact ⟨hnd1, rfl, a13.trans hUs.2.1, by rw [g2]; exact hUs.2.2.1⟩)
    obtain ⟨v5, pl5, ft5, pl6, ft6, ps6, bg, e5, e6, f6, s6, hbg, o6⟩ := L_tail (k := k) (nd := (nd.1, nd.2.1, nd.2.2.1, upd nd.2.2.2.1 k w1, nd.2.2.2.2.1, nd.2.2.2.2.2.1, nd.2.2.2.2.2.2.1, nd.2.2.2.2.2.2.2.1, nd.2.2.2.2.2.2.2.2.1, nd.2.2.2.2.2.2.2.2.2)) (nx := upd nd.2.2.2.2.1 k w3) (us := us3) hT (by omega) s3
    have hm : fn_D_many (nI 1) d = some (nI (C 1)) := by rw [C_manyG (by omega)]; exact congrArg some (((hFl.2.2.1 1 (by omega)).1).trans (by rw [hD2]))
    have hmn : nd.2.1 1 = nI (C 1) := ((hFl.2.2.1 1 (by omega)).2).trans (by rw [hD2])
    have hft := ho.2.1
    have hps := ho.2.2.2.1
    have hlr : fn_M_latchRest (nI k) mtx ps2 (nd.1, nd.2.1, nd.2.2.1, upd nd.2.2.2.1 k w1, nd.2.2.2.2.1, nd.2.2.2.2.2.1, nd.2.2.2.2.2.2.1, nd.2.2.2.2.2.2.2.1, nd.2.2.2.2.2.2.2.2.1, nd.2.2.2.2.2.2.2.2.2) us1 = some (ps6, (nd.1, nd.2.1, nd.2.2.1, upd nd.2.2.2.1 k w1, upd nd.2.2.2.2.1 k w3, bg, nd.2.2.2.2.2.2), us3) := by
      rw [M_latchRest (by omega) f3]
      exact f6
    refine ⟨(sPF rd3 pl6 ft6, (am_rset (am_rset (am_rset d.1 1 k v1) 4 k v3) 5 k v5, d.2)), (ps6, (nd.1, nd.2.1, nd.2.2.1, upd nd.2.2.2.1 k w1, upd nd.2.2.2.2.1 k w3, bg, nd.2.2.2.2.2.2), us3), ?_, ?_, ?_⟩
    · rcases s6 with ho6 | hb6
      · left
        obtain ⟨ho3, b5, q1, q2, q3⟩ := o6 ho6
        obtain ⟨p3, b3, r1, r2, r3, r4, r5, r6, r7, r8, r9, r10⟩ := o3 ho3
        obtain ⟨p1, b1, a1, a2, a3, a4, a5, a6, a7, a8, a9, a10, a11, a12, a13⟩ := o1 (o2 ⟨p3, r1⟩)
        subst a2 a3 r2 r3 q1
        have hp3 := r1.2.2.2.2
        refine ⟨ext D 1 k (fun i => if i = 1 then b1 else if i = 4 then b3 else b5), hD1, hD2, ho6, ?_, ?_, ?_, ⟨uu + 1, ux ul uu b3, ux up uu p3, ?_⟩, gp, ?_⟩
        · have := Fl_line (i0 := 1) (k := k) (r := fun i => if i = 1 then b1 else if i = 4 then b3 else b5) (d' := (am_rset (am_rset (am_rset d.1 1 k (nI b1)) 4 k (nI b3)) 5 k (nI b5), d.2)) (nd' := (nd.1, nd.2.1, nd.2.2.1, upd nd.2.2.2.1 k (nI b1), upd nd.2.2.2.2.1 k (nI b3), bg, nd.2.2.2.2.2.2)) hFl Kx_s rfl rfl rfl rfl (fun i hi hd => by
            have i8 : i = 0 ∨ i = 1 ∨ i = 2 ∨ i = 3 ∨ i = 4 ∨ i = 5 ∨ i = 6 ∨ i = 7 := by omega
            rcases i8 with rfl | rfl | rfl | rfl | rfl | rfl | rfl | rfl
            · exact absurd hd (by decide)
            · refine ⟨?_, pk_us⟩
              show am_rset (am_rset (am_rset d.1 1 k (nI b1)) 4 k (nI b3)) 5 k (nI b5) 1 k = nI b1
              rw [rs_o (Or.inl (by omega)), rs_o (Or.inl (by omega)), rs_e]
            · exact absurd hd (by decide)
            · exact absurd hd (by decide)
            · refine ⟨?_, pk_us⟩
              show am_rset (am_rset (am_rset d.1 1 k (nI b1)) 4 k (nI b3)) 5 k (nI b5) 4 k = nI b3
              rw [rs_o (Or.inl (by omega)), rs_e]
            · refine ⟨?_, q2⟩
              show am_rset (am_rset (am_rset d.1 1 k (nI b1)) 4 k (nI b3)) 5 k (nI b5) 5 k = nI b5
              rw [rs_e]
            all_goals exact absurd hd (by decide)) (fun i j hi hd => by
            have hne : ∀ i0, dk i0 = 1 → i ≠ i0 ∨ j ≠ k := fun i0 h0 => hd.imp (fun z y => z (by rw [y]; exact h0)) id
            refine ⟨?_, ?_⟩
            · show am_rset (am_rset (am_rset d.1 1 k (nI b1)) 4 k (nI b3)) 5 k (nI b5) i j = d.1 i j
              rw [rs_o (hne 5 rfl), rs_o (hne 4 rfl), rs_o (hne 1 rfl)]
            · have i8 : i = 0 ∨ i = 1 ∨ i = 2 ∨ i = 3 ∨ i = 4 ∨ i = 5 ∨ i = 6 ∨ i = 7 := by omega
              rcases i8 with rfl | rfl | rfl | rfl | rfl | rfl | rfl | rfl
              · rfl
              · exact pk_un (hd.resolve_left fun z => z rfl)
              · rfl
              · rfl
              · exact pk_un (hd.resolve_left fun z => z rfl)
              · exact hbg j (hd.resolve_left fun z => z rfl)
              all_goals rfl)
          rw [Kx_Kx] at this
          exact this
        · have := Vf_line (i0 := 1) (k := k) (r := fun i => if i = 1 then b1 else if i = 4 then b3 else b5) hVf Kx_s (fun i _ _ => by
            show (if i = 1 then b1 else if i = 4 then b3 else b5) < 200
            split
            · omega
            · split <;> omega) (fun _ => q3) (fun _ => ⟨a5, a6, Df_not (v := b1 / 2) hDf (by omega) a7⟩)
          rw [Kx_Kx] at this
          exact this
        · have := Df_line (i0 := 1) (k := k) (r := fun i => if i = 1 then b1 else if i = 4 then b3 else b5) hDf Kx_s (Or.inr (Or.inl rfl))
          have this : Df (ext D 1 k (fun i => if i = 1 then b1 else if i = 4 then b3 else b5)) (Kx (Kx K 1 k) 1 (k + 1)) (upd rd.1 (b1 / 2) (nI 1)) (upd us.2.1 (b1 / 2) (nI 1)) := this
          rw [Kx_Kx, ← a8, ← a9, ← h2] at this
          have h3' : rd3.1 = rd1.1 := h3
          rw [← h3'] at this
          exact this
        · have := Us_one (i0 := 1) (k := k) (b := b3) (p := p3) (r := fun i => if i = 1 then b1 else if i = 4 then b3 else b5) (rd' := sPF rd3 pl6 ft6) (us' := us3) hUs Kx_s (Or.inl rfl) (by omega) (by omega) (fun i hi hd => by
            rcases hi with rfl | rfl | rfl | rfl
            · exact absurd hd (by decide)
            · rfl
            · exact absurd hd (by decide)
            · exact absurd hd (by decide)) (by
              have r5' : rd3.2.1 = upd rd1.2.1 uu (nI b3) := r5
              rw [a11] at r5'; exact r5') (by
              have r6' : rd3.2.2.1 = upd rd1.2.2.1 uu (nI p3) := r6
              rw [a12] at r6'; exact r6') r7 (by rw [r8, g2]) (by rw [r9, g2]) r10
          rw [Kx_Kx] at this
          exact this
        · intro j hj
          rw [Kx_n (by omega)] at hj hGp
          have := hGp j hj
          have h4' : rd3.2.2.2.1 = rd.2.2.2.1 := h4.trans g3
          have h1' : us3.1 = us.1 := h1.trans g1
          exact ⟨(congrFun h4' j).trans this.1, (congrFun h1' j).trans this.2.1, this.2.2⟩
      · exact Or.inr hb6
    · show fn_R_plainLines_82 _ _ _ (N + 1) _ _ _ = _
      rw [fn_R_plainLines_82]
      simp (disch := omega) only [z_lit, z_mm, z_eqm, z_eqm', z_ltm, z_ltm', z_lem, z_lem', nI_leI, nI_ltI, nI_eq, nI_toInt, nI_clamp, nI_add, pk_mul, pk_sub, pk_div, z_rem, z_shr1, z_and1, decide_eq_true_eq, if_pos, if_neg, Option.bind_some, ite_true, ite_false, eq_self, not_false_eq_true, not_true_eq_false, hm, hft, e1, C_set, e2, e3, e5, e6]
    · show fn_M_plainBody_44 _ _ (N + 1) _ _ _ _ = _
      rw [fn_M_plainBody_44]
      simp (disch := omega) only [z_lit, z_mm, z_eqm, z_eqm', z_ltm, z_ltm', z_lem, z_lem', nI_leI, nI_ltI, nI_eq, nI_toInt, nI_clamp, nI_add, pk_mul, pk_sub, pk_div, z_rem, z_shr1, z_and1, decide_eq_true_eq, if_pos, if_neg, Option.bind_some, ite_true, ite_false, eq_self, not_false_eq_true, not_true_eq_false, hmn, hps, f1, f2, hlr]
  · obtain ⟨rd, d⟩ := s
    obtain ⟨ps, nd, us⟩ := u
    obtain ⟨D, hD1, hD2, ⟨p, ho⟩, hFl, -⟩ := hI
    have hFl : Fl D (Kx K 1 (C 1)) d nd := hFl
    have hm : fn_D_many (nI 1) d = some (nI (C 1)) := by rw [C_manyG (by omega)]; exact congrArg some (((hFl.2.2.1 1 (by omega)).1).trans (by rw [hD2]))
    have hmn : nd.2.1 1 = nI (C 1) := ((hFl.2.2.1 1 (by omega)).2).trans (by rw [hD2])
    refine ⟨?_, ?_⟩
    · show fn_R_plainLines_82 _ _ _ (N + 1) _ _ _ = _
      rw [fn_R_plainLines_82]
      simp (disch := omega) only [z_lit, z_mm, z_eqm, z_eqm', z_ltm, z_ltm', z_lem, z_lem', nI_leI, nI_ltI, nI_eq, nI_toInt, nI_clamp, nI_add, pk_mul, pk_sub, pk_div, z_rem, z_shr1, z_and1, decide_eq_true_eq, if_pos, if_neg, Option.bind_some, ite_true, ite_false, eq_self, not_false_eq_true, not_true_eq_false, hm]
    · show fn_M_plainBody_44 _ _ (N + 1) _ _ _ _ = _
      rw [fn_M_plainBody_44]
      simp (disch := omega) only [z_lit, z_mm, z_eqm, z_eqm', z_ltm, z_ltm', z_lem, z_lem', nI_leI, nI_ltI, nI_eq, nI_toInt, nI_clamp, nI_add, pk_mul, pk_sub, pk_div, z_rem, z_shr1, z_and1, decide_eq_true_eq, if_pos, if_neg, Option.bind_some, ite_true, ite_false, eq_self, not_false_eq_true, not_true_eq_false, hmn]
  · obtain ⟨rd, d⟩ := s
    obtain ⟨ps, nd, us⟩ := u
    obtain ⟨z1, z2⟩ := Bd_ft hB
    have z1 : ¬ rd.2.2.2.2.2.2.2.2 = (-1 : Int32) := z1
    have z2 : ¬ ps.2.1 = (-1 : Int32) := z2
    refine ⟨?_, ?_⟩
    · show fn_R_plainLines_82 _ _ _ (N + 1) _ _ _ = _
      rw [fn_R_plainLines_82, show (1 : Int32) = nI 1 from rfl, C_manyG (by omega), Option.bind_some]
      split
      · rfl
      · exact am_iff (decide_eq_false z1)
    · show fn_M_plainBody_44 _ _ (N + 1) _ _ _ _ = _
      rw [fn_M_plainBody_44]
      refine (am_ift (by decide)).trans ?_
      split
      · rfl
      · exact am_iff (decide_eq_false z2)
