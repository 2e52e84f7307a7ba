/-! A PLAIN TEXT'S LINES, side by side -/
def PI (n M : Nat) (C K : Nat → Nat) (s : SR × SD) (u : Mps × Mnd × Mus) : Prop := ∃ D : De, D.1 = M ∧ D.2.1 = C ∧ PR n D K s.1 s.2 u.1 u.2.1 u.2.2
def Cb (M : Nat) (C : Nat → Nat) : Prop := M ≤ 99 ∧ C 0 ≤ 8 ∧ C 1 ≤ 8 ∧ C 2 ≤ 8 ∧ C 3 ≤ 60
theorem Bd_ft {t : Nat → Nat} {n : Nat} {rd : SR} {ps : Mps} (h : Bd t n rd ps) : ¬ rd.2.2.2.2.2.2.2.2 = (-1 : Int32) ∧ ¬ ps.2.1 = (-1 : Int32) := by
  obtain ⟨f, g, a, b, c, d, _⟩ := h
  exact ⟨fun z => z_m1 (by omega) (a.symm.trans z), fun z => z_m1 (by omega) (b.symm.trans z)⟩
theorem L_in {tx : SB} {mtx : Mtx} {t : Nat → Nat} {n M : Nat} {C K : Nat → Nat} (hT : BR tx mtx t n) (hCb : Cb M C) (hK : K 0 = 0) (κ : SR → SD → Option (SR × SD)) (κ' : Mps → Mnd → Mus → Option (Mps × Mnd × Mus)) {s : SR × SD} {u : Mps × Mnd × Mus} (h : PI n M C K s u ∨ Bd t n s.1 u.1) :
    ∃ s' u', (PI n M C (Kx K 0 (C 0)) s' u' ∨ Bd t n s'.1 u'.1) ∧ fn_R_plainLines_40 (nI (2 * M + 1)) tx κ am_NF (nI 0) s.1 s.2 = κ s'.1 s'.2 ∧ fn_M_plainBody_2 mtx κ' am_NF (nI 0) u.1 u.2.1 u.2.2 = κ' u'.1 u'.2.1 u'.2.2 := by
  obtain ⟨c0, c1, c2, c3, c4⟩ := id hCb
  refine z_loop3 (fun N k (s : SR × SD) => fn_R_plainLines_40 (nI (2 * M + 1)) tx κ N (nI k) s.1 s.2) (fun N k (u : Mps × Mnd × Mus) => fn_M_plainBody_2 mtx κ' N (nI k) u.1 u.2.1 u.2.2) (fun s => κ s.1 s.2) (fun u => κ' u.1 u.2.1 u.2.2) (C 0) (fun k s u => PI n M C (Kx K 0 k) s u) (fun s u => Bd t n s.1 u.1)
    (fun N k s u hk hI => ?_) (fun N s u hI => ?_) (fun N k s u hk hB => ?_) (by omega) (by rw [z_NF]; omega) (h.imp (fun z => by have e := Kx_id (K := K) (i0 := 0); rw [hK] at e; rw [e]; exact z) id)
  · obtain ⟨rd, d⟩ := s
    obtain ⟨ps, nd, us⟩ := u
    obtain ⟨D, hD1, hD2, ⟨p, ho⟩, hFl, hVf, hDf, ⟨uu, ul, up, hUs⟩, gp, hGp⟩ := hI
    have hD1 : D.1 = M := hD1
    have ho : Ok n rd ps p := ho
    have hFl : Fl D (Kx K 0 k) d nd := hFl
    have hDf : Df D (Kx K 0 k) rd.1 us.2.1 := hDf
    have hUs : Us D (Kx K 0 k) uu ul up rd us := hUs
    have hGp : Gp (Kx K 0 k 3) gp rd.2.2.2.1 us.1 := hGp
    have hnd1 : nd.1 = nI M := hD1 ▸ hFl.2.1
    obtain ⟨v, rd1, w, ps1, us1, e1, f1, s1, g1, g2, g3, o1⟩ := L_def (nd := nd) (us := us) (x := nI (2 * M + 1)) hT c0 (Or.inl ⟨p, ho⟩) (fun _ => ⟨hnd1, rfl, fun v hv => Df_c hDf hv⟩)
    obtain ⟨pl, ft, ps2, e2, f2, s2, o2⟩ := L_take (b := 10) hT (by omega) (by omega) (Or.inl s1)
    have hm : fn_D_many (nI 0) d = some (nI (C 0)) := by rw [C_manyG (by omega)]; exact congrArg some (((hFl.2.2.1 0 (by omega)).1).trans (by rw [hD2]))
    have hmn : nd.2.1 0 = nI (C 0) := ((hFl.2.2.1 0 (by omega)).2).trans (by rw [hD2])
    have hft := ho.2.1
    have hps := ho.2.2.2.1
    refine ⟨(sPF rd1 pl ft, (am_rset d.1 0 k v, d.2)), (ps2, (nd.1, nd.2.1, upd nd.2.2.1 k w, nd.2.2.2.1, nd.2.2.2.2.1, nd.2.2.2.2.2.1, nd.2.2.2.2.2.2.1, nd.2.2.2.2.2.2.2.1, nd.2.2.2.2.2.2.2.2.1, nd.2.2.2.2.2.2.2.2.2), us1), ?_, ?_, ?_⟩
    · rcases s2 with ho2 | hb2
      · left
        obtain ⟨p', b, a1, a2, a3, a4, a5, a6, a7, a8, a9, a10, a11, a12, a13⟩ := o1 (o2 ho2)
        subst a2 a3
        refine ⟨ext D 0 k (fun _ => b), hD1, hD2, ho2, ?_, ?_, ?_, ⟨uu, ul, up, ?_⟩, gp, ?_⟩
        · have := Fl_line (i0 := 0) (k := k) (r := fun _ => b) (d' := (am_rset d.1 0 k (nI b), d.2)) (nd' := (nd.1, nd.2.1, upd nd.2.2.1 k (nI b), nd.2.2.2.1, nd.2.2.2.2.1, nd.2.2.2.2.2.1, nd.2.2.2.2.2.2.1, nd.2.2.2.2.2.2.2.1, nd.2.2.2.2.2.2.2.2.1, nd.2.2.2.2.2.2.2.2.2)) hFl Kx_s rfl rfl rfl rfl (fun i hi hd => by
            have i8 : i = 0 ∨ i = 1 ∨ i = 2 ∨ i = 3 ∨ i = 4 ∨ i = 5 ∨ i = 6 ∨ i = 7 := by omega
            rcases i8 with rfl | rfl | rfl | rfl | rfl | rfl | rfl | rfl
            · exact ⟨rs_e (r := d.1) (i := 0) (k := k) (x := nI b), pk_us⟩
            all_goals exact absurd hd (by decide)) (fun i j hi hd => by
            refine ⟨rs_o (r := d.1) (i0 := 0) (k := k) (x := nI b) (i := i) (j := j) (hd.imp (fun z y => z (by rw [y]; rfl)) id), ?_⟩
            have i8 : i = 0 ∨ i = 1 ∨ i = 2 ∨ i = 3 ∨ i = 4 ∨ i = 5 ∨ i = 6 ∨ i = 7 := by omega
            rcases i8 with rfl | rfl | rfl | rfl | rfl | rfl | rfl | rfl
            · exact pk_un (hd.resolve_left fun z => z rfl)
            all_goals rfl)
          rw [Kx_Kx] at this
          exact this
        · have := Vf_line (i0 := 0) (k := k) (r := fun _ => b) hVf Kx_s (fun i _ _ => by show b < 200; omega) (fun z => absurd z (by omega)) (fun _ => ⟨a5, a6, Df_not hDf (by omega) a7⟩)
          rw [Kx_Kx] at this
          exact this
        · have := Df_line (i0 := 0) (k := k) (r := fun _ => b) hDf Kx_s (Or.inl rfl)
          rw [Kx_Kx, ← a8, ← a9] at this
          exact this
        · obtain ⟨u1, u2, u3, u4, u5⟩ := hUs
          have := Us_cov (i0 := 0) (k := k) (r := fun _ => b) (u' := uu) (ul' := ul) u5 Kx_s (Nat.le_refl _) (fun _ _ => rfl) (fun i hi hd => by
            rcases hi with rfl | rfl | rfl | rfl <;> exact absurd hd (by decide))
          rw [Kx_Kx] at this
          have g2' : us1.2.2.2.2 = us.2.2.2.2 := by rw [g2]
          refine ⟨?_, a13.trans u2, g2'.trans u3, fun j hj => ?_, this⟩
          · rw [Kx_n (by omega), Kx_n (by omega), Kx_n (by omega)] at u1 ⊢
            exact u1
          · have hj4 := u4 j hj
            have ga : us1.2.2.1 = us.2.2.1 := by rw [g2]
            have gb : us1.2.2.2.1 = us.2.2.2.1 := by rw [g2]
            refine ⟨⟨?_, ?_⟩, ⟨?_, ?_⟩, hj4.2.2⟩
            · exact (congrFun a11 j).trans hj4.1.1
            · exact (congrFun ga j).trans hj4.1.2
            · exact (congrFun a12 j).trans hj4.2.1.1
            · exact (congrFun gb j).trans hj4.2.1.2
        · intro j hj
          rw [Kx_n (by omega)] at hj hGp
          have := hGp j hj
          exact ⟨(congrFun g3 j).trans this.1, (congrFun g1 j).trans this.2.1, this.2.2⟩
      · exact Or.inr hb2
    · show fn_R_plainLines_40 _ _ _ (N + 1) _ _ _ = _
      rw [fn_R_plainLines_40]
      simp (disch := omega) only [z_lit, z_mm, z_eqm, z_eqm', z_ltm, z_ltm', z_lem, z_lem', nI_leI, nI_ltI, nI_eq, nI_toInt, nI_clamp, nI_add, pk_mul, pk_sub, pk_div, z_rem, z_shr1, z_and1, decide_eq_true_eq, if_pos, if_neg, Option.bind_some, ite_true, ite_false, eq_self, not_false_eq_true, not_true_eq_false, hm, hft, e1, C_set, e2]
    · show fn_M_plainBody_2 _ _ (N + 1) _ _ _ _ = _
      rw [fn_M_plainBody_2]
      simp (disch := omega) only [z_lit, z_mm, z_eqm, z_eqm', z_ltm, z_ltm', z_lem, z_lem', nI_leI, nI_ltI, nI_eq, nI_toInt, nI_clamp, nI_add, pk_mul, pk_sub, pk_div, z_rem, z_shr1, z_and1, decide_eq_true_eq, if_pos, if_neg, Option.bind_some, ite_true, ite_false, eq_self, not_false_eq_true, not_true_eq_false, hmn, hps, f1, f2]
  · obtain ⟨rd, d⟩ := s
    obtain ⟨ps, nd, us⟩ := u
    obtain ⟨D, hD1, hD2, ⟨p, ho⟩, hFl, -⟩ := hI
    have hFl : Fl D (Kx K 0 (C 0)) d nd := hFl
    have hm : fn_D_many (nI 0) d = some (nI (C 0)) := by rw [C_manyG (by omega)]; exact congrArg some (((hFl.2.2.1 0 (by omega)).1).trans (by rw [hD2]))
    have hmn : nd.2.1 0 = nI (C 0) := ((hFl.2.2.1 0 (by omega)).2).trans (by rw [hD2])
    refine ⟨?_, ?_⟩
    · show fn_R_plainLines_40 _ _ _ (N + 1) _ _ _ = _
      rw [fn_R_plainLines_40]
      simp (disch := omega) only [z_lit, z_mm, z_eqm, z_eqm', z_ltm, z_ltm', z_lem, z_lem', nI_leI, nI_ltI, nI_eq, nI_toInt, nI_clamp, nI_add, pk_mul, pk_sub, pk_div, z_rem, z_shr1, z_and1, decide_eq_true_eq, if_pos, if_neg, Option.bind_some, ite_true, ite_false, eq_self, not_false_eq_true, not_true_eq_false, hm]
    · show fn_M_plainBody_2 _ _ (N + 1) _ _ _ _ = _
      rw [fn_M_plainBody_2]
      simp (disch := omega) only [z_lit, z_mm, z_eqm, z_eqm', z_ltm, z_ltm', z_lem, z_lem', nI_leI, nI_ltI, nI_eq, nI_toInt, nI_clamp, nI_add, pk_mul, pk_sub, pk_div, z_rem, z_shr1, z_and1, decide_eq_true_eq, if_pos, if_neg, Option.bind_some, ite_true, ite_false, eq_self, not_false_eq_true, not_true_eq_false, hmn]
  · obtain ⟨rd, d⟩ := s
    obtain ⟨ps, nd, us⟩ := u
    obtain ⟨z1, z2⟩ := Bd_ft hB
    have z1 : ¬ rd.2.2.2.2.2.2.2.2 = (-1 : Int32) := z1
    have z2 : ¬ ps.2.1 = (-1 : Int32) := z2
    refine ⟨?_, ?_⟩
    · show fn_R_plainLines_40 _ _ _ (N + 1) _ _ _ = _
      rw [fn_R_plainLines_40, show (0 : Int32) = nI 0 from rfl, C_manyG (by omega), Option.bind_some]
      split
      · rfl
      · exact am_iff (decide_eq_false z1)
    · show fn_M_plainBody_2 _ _ (N + 1) _ _ _ _ = _
      rw [fn_M_plainBody_2]
      refine (am_ift (by decide)).trans ?_
      split
      · rfl
      · exact am_iff (decide_eq_false z2)
