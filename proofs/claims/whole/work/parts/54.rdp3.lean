theorem Us_two {D : De} {K : Nat → Nat} {k u b p b' p' : Nat} {ul up r : Nat → Nat} {rd rd' : SR} {us us' : Mus} (h : Us D K u ul up rd us) (hk : K 3 = k) (hb : b < 200) (hp : p ≤ 1501) (hb' : b' < 200) (hp' : p' ≤ 1501) (hr6 : r 6 = b) (hr7 : r 7 = b')
    (h1 : rd'.2.1 = upd (upd rd.2.1 u (nI b)) (u + 1) (nI b')) (h2 : rd'.2.2.1 = upd (upd rd.2.2.1 u (nI p)) (u + 1) (nI p')) (h3 : rd'.2.2.2.2.2.2.1 = nI (u + 2)) (h4 : us'.2.2.1 = upd (upd us.2.2.1 u (nI b)) (u + 1) (nI b')) (h5 : us'.2.2.2.1 = upd (upd us.2.2.2.1 u (nI p)) (u + 1) (nI p')) (h6 : us'.2.2.2.2 = nI (u + 2)) :
    Us (ext D 3 k r) (Kx K 3 (k + 1)) (u + 2) (ux (ux ul u b) (u + 1) b') (ux (ux up u p) (u + 1) p') rd' us' := by
  obtain ⟨u1, u2, u3, u4, u5⟩ := h
  refine ⟨?_, h3, h6, fun j hj => ?_, Us_cov u5 hk (by omega) (fun j hj => by rw [ux_n (by omega), ux_n (by omega)]) (fun i hi hd => ?_)⟩
  · rw [Kx_s, Kx_n (by omega), Kx_n (by omega)]; omega
  · rw [h1, h2, h4, h5]
    by_cases e1 : j = u + 1
    · subst e1
      rw [pk_us, pk_us, pk_us, pk_us, ux_s, ux_s]
      exact ⟨⟨rfl, rfl⟩, ⟨rfl, rfl⟩, hb', hp'⟩
    · rw [pk_un e1, pk_un e1, pk_un e1, pk_un e1, ux_n e1, ux_n e1]
      by_cases e : j = u
      · subst e
        rw [pk_us, pk_us, pk_us, pk_us, ux_s, ux_s]
        exact ⟨⟨rfl, rfl⟩, ⟨rfl, rfl⟩, hb, hp⟩
      · rw [pk_un e, pk_un e, pk_un e, pk_un e, ux_n e, ux_n e]
        exact u4 j (by omega)
  · rcases hi with rfl | rfl | rfl | rfl
    · exact absurd hd (by decide)
    · exact absurd hd (by decide)
    · exact ⟨u, by omega, by rw [ux_n (by omega), ux_s, hr6]⟩
    · exact ⟨u + 1, by omega, by rw [ux_s, hr7]⟩
theorem L_gat {tx : SB} {mtx : Mtx} {t : Nat → Nat} {n M : Nat} {C K : Nat → Nat} (hT : BR tx mtx t n) (hCb : Cb M C) (hK : K 3 = 0) (hK1 : K 1 ≤ 8) (hK2 : K 2 ≤ 8) (κ : SR → SD → Option (SR × SD)) (κ' : Mps → Mnd → Mus → Option (Mps × Mnd × Mus)) {s : SR × SD} {u : Mps × Mnd × Mus} (h : PI n M C K s u ∨ Bd t n s.1 u.1) :
    ∃ s' u', (PI n M C (Kx K 3 (C 3)) s' u' ∨ Bd t n s'.1 u'.1) ∧ fn_R_plainGates_11 (nI (2 * M + 1)) tx κ am_NF (nI 0) s.1 s.2 = κ s'.1 s'.2 ∧ fn_M_plainBody_134 mtx κ' am_NF (nI 0) u.1 u.2.1 u.2.2 = κ' u'.1 u'.2.1 u'.2.2 := by
  obtain ⟨c0, c1, c2, c3, c4⟩ := id hCb
  have h1500 := hT.1
  refine z_loop3 (fun N k (s : SR × SD) => fn_R_plainGates_11 (nI (2 * M + 1)) tx κ N (nI k) s.1 s.2) (fun N k (u : Mps × Mnd × Mus) => fn_M_plainBody_134 mtx κ' N (nI k) u.1 u.2.1 u.2.2) (fun s => κ s.1 s.2) (fun u => κ' u.1 u.2.1 u.2.2) (C 3) (fun k s u => PI n M C (Kx K 3 k) s u) (fun s u => Bd t n s.1 u.1)
    (fun N k s u hk hI => ?_) (fun N s u hI => ?_) (fun N k s u hk hB => ?_) (by omega) (by rw [z_NF]; omega) (h.imp (fun z => by have e := Kx_id (K := K) (i0 := 3); rw [hK] at e; rw [e]; exact z) id)
  · obtain ⟨rd, d⟩ := s
    obtain ⟨ps, nd, us⟩ := u
    obtain ⟨D, hD1, hD2, ⟨p, ho⟩, hFl, hVf, hDf, ⟨uu, ul, up, hUs⟩, gp, hGp⟩ := hI
    have hD1 : D.1 = M := hD1
    have ho : Ok n rd ps p := ho
    have hFl : Fl D (Kx K 3 k) d nd := hFl
    have hDf : Df D (Kx K 3 k) rd.1 us.2.1 := hDf
    have hUs : Us D (Kx K 3 k) uu ul up rd us := hUs
    have hGp : Gp (Kx K 3 k 3) gp rd.2.2.2.1 us.1 := hGp
    have hnd1 : nd.1 = nI M := hD1 ▸ hFl.2.1
    have hu1 := hUs.1
    rw [Kx_n (show (1 : Nat) ≠ 3 by omega), Kx_s, Kx_n (show (2 : Nat) ≠ 3 by omega)] at hu1
    obtain ⟨rd0, hrd0⟩ : ∃ rd0 : SR, rd0 = (rd.1, rd.2.1, rd.2.2.1, upd rd.2.2.2.1 k rd.2.2.2.2.2.2.2.1, rd.2.2.2.2.1, rd.2.2.2.2.2.1, rd.2.2.2.2.2.2.1, rd.2.2.2.2.2.2.2.1, rd.2.2.2.2.2.2.2.2) := ⟨_, rfl⟩
    have ho0 : Ok n rd0 ps p := by rw [hrd0]; exact ho
    have hd0 : rd0.1 = rd.1 := by rw [hrd0]
    obtain ⟨v1, rd1, w1, ps1, us1, e1, f1, s1, g1, g2, g3, o1⟩ := L_def (rd := rd0) (nd := nd) (us := us) (x := nI (2 * M + 1)) hT c0 (Or.inl ⟨p, ho0⟩) (fun _ => ⟨hnd1, rfl, fun v hv => by rw [hd0]; exact Df_c hDf hv⟩)
    obtain ⟨pl2, ft2, ps2, e2, f2, s2, o2⟩ := L_take (b := 32) hT (by omega) (by omega) (Or.inl s1)
    obtain ⟨us1', hus1⟩ : ∃ z : Mus, z = (upd us1.1 k ps1.2.2, us1.2.1, us1.2.2.1, us1.2.2.2.1, us1.2.2.2.2) := ⟨_, rfl⟩
    obtain ⟨nd3, hnd3⟩ : ∃ z : Mnd, z = (nd.1, nd.2.1, nd.2.2.1, nd.2.2.2.1, nd.2.2.2.2.1, nd.2.2.2.2.2.1, nd.2.2.2.2.2.2.1, upd nd.2.2.2.2.2.2.2.1 k w1, nd.2.2.2.2.2.2.2.2.1, nd.2.2.2.2.2.2.2.2.2) := ⟨_, rfl⟩
    obtain ⟨v3, rd3, w3, ps3, us3, e3, f3, s3, h1, h2, h3, h4, o3⟩ := L_use (rd := sPF rd1 pl2 ft2) (nd := nd3) (us := us1') (x := nI (2 * M + 1)) (u := uu) hT c0 (by omega) s2 (fun ho2 => by
      obtain ⟨p', b, a1, a2, a3, a4, a5, a6, a7, a8, a9, a10, a11, a12, a13⟩ := o1 (o2 ho2)
      refine ⟨by rw [hnd3]; exact hnd1, rfl, ?_, ?_⟩
      · refine a13.trans ?_
        rw [hrd0]; exact hUs.2.1
      · rw [hus1]
        show us1.2.2.2.2 = _
        rw [g2]; exact hUs.2.2.1)
    obtain ⟨pl4, ft4, ps4, e4, f4, s4, o4⟩ := L_take (b := 32) hT (by omega) (by omega) s3
    obtain ⟨nd5, hnd5⟩ : ∃ z : Mnd, z = (nd.1, nd.2.1, nd.2.2.1, nd.2.2.2.1, nd.2.2.2.2.1, nd.2.2.2.2.2.1, nd.2.2.2.2.2.2.1, upd nd.2.2.2.2.2.2.2.1 k w1, upd nd.2.2.2.2.2.2.2.2.1 k w3, nd.2.2.2.2.2.2.2.2.2) := ⟨_, rfl⟩
    obtain ⟨v5, rd5, w5, ps5, us5, e5, f5, s5, i1, i2, i3, i4, o5⟩ := L_use (rd := sPF rd3 pl4 ft4) (nd := nd5) (us := us3) (x := nI (2 * M + 1)) (u := uu + 1) hT c0 (by omega) s4 (fun ho4 => by
      obtain ⟨p', b, a1, a2, a3, a4, a5, a6, a7, a8, a9, a10⟩ := o3 (o4 ho4)
      exact ⟨by rw [hnd5]; exact hnd1, rfl, a7, a10⟩)
    obtain ⟨pl6, ft6, ps6, e6, f6, s6, o6⟩ := L_take (b := 10) hT (by omega) (by omega) s5
    have hm : fn_D_many (nI 3) d = some (nI (C 3)) := by rw [C_manyG (by omega)]; exact congrArg some (((hFl.2.2.1 3 (by omega)).1).trans (by rw [hD2]))
    have hmn : nd.2.1 3 = nI (C 3) := ((hFl.2.2.1 3 (by omega)).2).trans (by rw [hD2])
    have hft := ho.2.1
    have hps := ho.2.2.2.1
    refine ⟨(sPF rd5 pl6 ft6, (am_rset (am_rset (am_rset d.1 3 k v1) 6 k v3) 7 k v5, d.2)), (ps6, (nd.1, nd.2.1, nd.2.2.1, nd.2.2.2.1, nd.2.2.2.2.1, nd.2.2.2.2.2.1, nd.2.2.2.2.2.2.1, upd nd.2.2.2.2.2.2.2.1 k w1, upd nd.2.2.2.2.2.2.2.2.1 k w3, upd nd.2.2.2.2.2.2.2.2.2 k w5), us5), ?_, ?_, ?_⟩
    · rcases s6 with ho6 | hb6
      · left
        obtain ⟨p5, b5, q1, q2, q3, q4, q5, q6, q7, q8, q9, q10⟩ := o5 (o6 ho6)
        obtain ⟨p3, b3, r1, r2, r3, r4, r5, r6, r7, r8, r9, r10⟩ := o3 (o4 ⟨p5, q1⟩)
        obtain ⟨p1, b1, a1, a2, a3, a4, a5, a6, a7, a8, a9, a10, a11, a12, a13⟩ := o1 (o2 ⟨p3, r1⟩)
        subst a2 a3 r2 r3 q2 q3
        have hp3 := r1.2.2.2.2
        have hp5 := q1.2.2.2.2
        have hp1 := a1.2.2.2.2
        have hpp : p1 = p := (nI_eq (by omega) (by have := ho.2.2.2.2; omega)).mp (a1.1.symm.trans ho0.1)
        refine ⟨ext D 3 k (fun i => if i = 3 then b1 else if i = 6 then b3 else b5), hD1, hD2, ho6, ?_, ?_, ?_, ⟨uu + 2, ux (ux ul uu b3) (uu + 1) b5, ux (ux up uu p3) (uu + 1) p5, ?_⟩, ux gp k p1, ?_⟩
        · have := Fl_line (i0 := 3) (k := k) (r := fun i => if i = 3 then b1 else if i = 6 then b3 else b5) (d' := (am_rset (am_rset (am_rset d.1 3 k (nI b1)) 6 k (nI b3)) 7 k (nI b5), d.2)) (nd' := (nd.1, nd.2.1, nd.2.2.1, nd.2.2.2.1, nd.2.2.2.2.1, nd.2.2.2.2.2.1, nd.2.2.2.2.2.2.1, upd nd.2.2.2.2.2.2.2.1 k (nI b1), upd nd.2.2.2.2.2.2.2.2.1 k (nI b3), upd nd.2.2.2.2.2.2.2.2.2 k (nI b5))) hFl Kx_s rfl rfl rfl rfl (fun i hi hd => by
            have i8 : i = 0 ∨ i = 1 ∨ i = 2 ∨ i = 3 ∨ i = 4 ∨ i = 5 ∨ i = 6 ∨ i = 7 := by omega
            rcases i8 with rfl | rfl | rfl | rfl | rfl | rfl | rfl | rfl
            · exact absurd hd (by decide)
            · exact absurd hd (by decide)
            · exact absurd hd (by decide)
            · refine ⟨?_, pk_us⟩
              show am_rset (am_rset (am_rset d.1 3 k (nI b1)) 6 k (nI b3)) 7 k (nI b5) 3 k = nI b1
              rw [rs_o (Or.inl (by omega)), rs_o (Or.inl (by omega)), rs_e]
            · exact absurd hd (by decide)
            · exact absurd hd (by decide)
            · refine ⟨?_, pk_us⟩
              show am_rset (am_rset (am_rset d.1 3 k (nI b1)) 6 k (nI b3)) 7 k (nI b5) 6 k = nI b3
              rw [rs_o (Or.inl (by omega)), rs_e]
            · refine ⟨?_, pk_us⟩
              show am_rset (am_rset (am_rset d.1 3 k (nI b1)) 6 k (nI b3)) 7 k (nI b5) 7 k = nI b5
              rw [rs_e]) (fun i j hi hd => by
            have hne : ∀ i0, dk i0 = 3 → i ≠ i0 ∨ j ≠ k := fun i0 h0 => hd.imp (fun z y => z (by rw [y]; exact h0)) id
            refine ⟨?_, ?_⟩
            · show am_rset (am_rset (am_rset d.1 3 k (nI b1)) 6 k (nI b3)) 7 k (nI b5) i j = d.1 i j
              rw [rs_o (hne 7 rfl), rs_o (hne 6 rfl), rs_o (hne 3 rfl)]
            · have i8 : i = 0 ∨ i = 1 ∨ i = 2 ∨ i = 3 ∨ i = 4 ∨ i = 5 ∨ i = 6 ∨ i = 7 := by omega
              rcases i8 with rfl | rfl | rfl | rfl | rfl | rfl | rfl | rfl
              · rfl
              · rfl
              · rfl
              · exact pk_un (hd.resolve_left fun z => z rfl)
              · rfl
              · rfl
              · exact pk_un (hd.resolve_left fun z => z rfl)
              · exact pk_un (hd.resolve_left fun z => z rfl))
          rw [Kx_Kx] at this
          exact this
        · have := Vf_line (i0 := 3) (k := k) (r := fun i => if i = 3 then b1 else if i = 6 then b3 else b5) hVf Kx_s (fun i _ _ => by
            show (if i = 3 then b1 else if i = 6 then b3 else b5) < 200
            split
            · omega
            · split <;> omega) (fun z => absurd z (by omega)) (fun _ => ⟨a5, a6, Df_not (v := b1 / 2) hDf (by omega) (by rw [← hd0]; exact a7)⟩)
          rw [Kx_Kx] at this
          exact this
        · have := Df_line (i0 := 3) (k := k) (r := fun i => if i = 3 then b1 else if i = 6 then b3 else b5) hDf Kx_s (Or.inr (Or.inr rfl))
          have this : Df (ext D 3 k (fun i => if i = 3 then b1 else if i = 6 then b3 else b5)) (Kx (Kx K 3 k) 3 (k + 1)) (upd rd.1 (b1 / 2) (nI 1)) (upd us.2.1 (b1 / 2) (nI 1)) := this
          have z1 : rd5.1 = upd rd.1 (b1 / 2) (nI 1) := by
            have i3' : rd5.1 = rd3.1 := i3
            have h3' : rd3.1 = rd1.1 := h3
            rw [i3', h3', a8, hd0]
          have z2 : us5.2.1 = upd us.2.1 (b1 / 2) (nI 1) := by
            rw [i2, h2, hus1]; exact a9
          rw [Kx_Kx, ← z1, ← z2] at this
          exact this
        · have c11 : rd1.2.1 = rd.2.1 := a11.trans (by rw [hrd0])
          have c12 : rd1.2.2.1 = rd.2.2.1 := a12.trans (by rw [hrd0])
          have r5' : rd3.2.1 = upd rd1.2.1 uu (nI b3) := r5
          have r6' : rd3.2.2.1 = upd rd1.2.2.1 uu (nI p3) := r6
          have q5' : rd5.2.1 = upd rd3.2.1 (uu + 1) (nI b5) := q5
          have q6' : rd5.2.2.1 = upd rd3.2.2.1 (uu + 1) (nI p5) := q6
          have z3 : us1'.2.2.1 = us.2.2.1 := by rw [hus1]; show us1.2.2.1 = _; rw [g2]
          have z4 : us1'.2.2.2.1 = us.2.2.2.1 := by rw [hus1]; show us1.2.2.2.1 = _; rw [g2]
          have := Us_two (k := k) (b := b3) (p := p3) (b' := b5) (p' := p5) (r := fun i => if i = 3 then b1 else if i = 6 then b3 else b5) (rd' := sPF rd5 pl6 ft6) (us' := us5) hUs Kx_s (by omega) (by omega) (by omega) (by omega) rfl rfl (by show rd5.2.1 = _; rw [q5', r5', c11]) (by show rd5.2.2.1 = _; rw [q6', r6', c12]) q7 (by rw [q8, r8, z3]) (by rw [q9, r9, z4]) q10
          rw [Kx_Kx] at this
          exact this
        · intro j hj
          rw [Kx_s] at hj hGp
          have z5 : rd5.2.2.2.1 = upd rd.2.2.2.1 k (nI p) := by
            have i4' : rd5.2.2.2.1 = rd3.2.2.2.1 := i4
            have h4' : rd3.2.2.2.1 = rd1.2.2.2.1 := h4
            rw [i4', h4', g3, hrd0, ho.1]
          have z6 : us5.1 = upd us.1 k (nI p) := by
            rw [i1, h1, hus1]
            show upd us1.1 k ps1.2.2 = _
            rw [g1, a10, hpp]
          show rd5.2.2.2.1 j = _ ∧ us5.1 j = _ ∧ _
          rw [z5, z6, hpp]
          by_cases e : j = k
          · subst e
            rw [pk_us, pk_us, ux_s]
            exact ⟨rfl, rfl, by omega⟩
          · rw [pk_un e, pk_un e, ux_n e]
            exact hGp j (by omega)
      · exact Or.inr hb6
    · show fn_R_plainGates_11 _ _ _ (N + 1) _ _ _ = _
      rw [fn_R_plainGates_11]
      have hst : (rd.1, rd.2.1, rd.2.2.1, upd rd.2.2.2.1 k rd.2.2.2.2.2.2.2.1, rd.2.2.2.2.1, rd.2.2.2.2.2.1, rd.2.2.2.2.2.2.1, rd.2.2.2.2.2.2.2.1, m1) = rd0 := by rw [hrd0, hft]
      simp (disch := omega) only [z_lit, z_mm, z_eqm, z_eqm', z_ltm, z_ltm', z_lem, z_lem', nI_leI, nI_ltI, nI_eq, nI_toInt, nI_clamp, nI_add, pk_mul, pk_sub, pk_div, z_rem, z_shr1, z_and1, decide_eq_true_eq, if_pos, if_neg, Option.bind_some, ite_true, ite_false, eq_self, not_false_eq_true, not_true_eq_false, hm, hft, hst, e1, C_set, e2, e3, e4, e5, e6]
    · show fn_M_plainBody_134 _ _ (N + 1) _ _ _ _ = _
      rw [fn_M_plainBody_134]
      rw [hus1, hnd3] at f3
      rw [hnd5] at f5
      simp (disch := omega) only [z_lit, z_mm, z_eqm, z_eqm', z_ltm, z_ltm', z_lem, z_lem', nI_leI, nI_ltI, nI_eq, nI_toInt, nI_clamp, nI_add, pk_mul, pk_sub, pk_div, z_rem, z_shr1, z_and1, decide_eq_true_eq, if_pos, if_neg, Option.bind_some, ite_true, ite_false, eq_self, not_false_eq_true, not_true_eq_false, hmn, hps, f1, f2, f3, f4, f5, f6]
  · obtain ⟨rd, d⟩ := s
    obtain ⟨ps, nd, us⟩ := u
    obtain ⟨D, hD1, hD2, ⟨p, ho⟩, hFl, -⟩ := hI
    have hFl : Fl D (Kx K 3 (C 3)) d nd := hFl
    have hm : fn_D_many (nI 3) d = some (nI (C 3)) := by rw [C_manyG (by omega)]; exact congrArg some (((hFl.2.2.1 3 (by omega)).1).trans (by rw [hD2]))
    have hmn : nd.2.1 3 = nI (C 3) := ((hFl.2.2.1 3 (by omega)).2).trans (by rw [hD2])
    refine ⟨?_, ?_⟩
    · show fn_R_plainGates_11 _ _ _ (N + 1) _ _ _ = _
      rw [fn_R_plainGates_11]
      simp (disch := omega) only [z_lit, z_mm, z_eqm, z_eqm', z_ltm, z_ltm', z_lem, z_lem', nI_leI, nI_ltI, nI_eq, nI_toInt, nI_clamp, nI_add, pk_mul, pk_sub, pk_div, z_rem, z_shr1, z_and1, decide_eq_true_eq, if_pos, if_neg, Option.bind_some, ite_true, ite_false, eq_self, not_false_eq_true, not_true_eq_false, hm]
    · show fn_M_plainBody_134 _ _ (N + 1) _ _ _ _ = _
      rw [fn_M_plainBody_134]
      simp (disch := omega) only [z_lit, z_mm, z_eqm, z_eqm', z_ltm, z_ltm', z_lem, z_lem', nI_leI, nI_ltI, nI_eq, nI_toInt, nI_clamp, nI_add, pk_mul, pk_sub, pk_div, z_rem, z_shr1, z_and1, decide_eq_true_eq, if_pos, if_neg, Option.bind_some, ite_true, ite_false, eq_self, not_false_eq_true, not_true_eq_false, hmn]
  · obtain ⟨rd, d⟩ := s
    obtain ⟨ps, nd, us⟩ := u
    obtain ⟨z1, z2⟩ := Bd_ft hB
    have z1 : ¬ rd.2.2.2.2.2.2.2.2 = (-1 : Int32) := z1
    have z2 : ¬ ps.2.1 = (-1 : Int32) := z2
    refine ⟨?_, ?_⟩
    · show fn_R_plainGates_11 _ _ _ (N + 1) _ _ _ = _
      rw [fn_R_plainGates_11, show (3 : Int32) = nI 3 from rfl, C_manyG (by omega), Option.bind_some]
      split
      · rfl
      · exact am_iff (decide_eq_false z1)
    · show fn_M_plainBody_134 _ _ (N + 1) _ _ _ _ = _
      rw [fn_M_plainBody_134]
      refine (am_ift (by decide)).trans ?_
      split
      · rfl
      · exact am_iff (decide_eq_false z2)
