theorem Ka {C : Nat → Nat} : ∀ i, i < 4 → Kx (Kx (Kx (Kx (fun _ => 0) 0 (C 0)) 1 (C 1)) 2 (C 2)) 3 (C 3) i = C i := by
  intro i hi
  have : i = 0 ∨ i = 1 ∨ i = 2 ∨ i = 3 := by omega
  rcases this with rfl | rfl | rfl | rfl
  · rw [Kx_n (by omega), Kx_n (by omega), Kx_n (by omega), Kx_s]
  · rw [Kx_n (by omega), Kx_n (by omega), Kx_s]
  · rw [Kx_n (by omega), Kx_s]
  · rw [Kx_s]
/-- the gates behind a fault -/
theorem C_gates_bad {tx : SB} {rd : SR} {d : SD} (h : ¬ rd.2.2.2.2.2.2.2.2 = (-1 : Int32)) : fn_R_plainGates tx rd d = some (rd, d) := by
  unfold fn_R_plainGates
  have e : fn_D_most d = some d.2.2.2.2.1 := rfl
  obtain ⟨N, hN⟩ : ∃ N, am_NF = N + 1 := ⟨4095, rfl⟩
  rw [e, Option.bind_some, hN, fn_R_plainGates_11, show (3 : Int32) = nI 3 from rfl, C_manyG (by omega), Option.bind_some]
  split
  · rfl
  · exact am_iff (decide_eq_false h)
theorem L_plain {tx : SB} {mtx : Mtx} {t : Nat → Nat} {n M : Nat} {C : Nat → Nat} {rd : SR} {d : SD} {ps : Mps} {nd : Mnd} {us : Mus} (hT : BR tx mtx t n) (hCb : Cb M C) (ho : ∃ p, Ok n rd ps p) (hd1 : d.2.2.2.2.1 = nI M) (hn1 : nd.1 = nI M) (hc : ∀ i, i < 4 → d.2.1 i = nI (C i) ∧ nd.2.1 i = nI (C i)) (hu0 : us.2.2.2.2 = nI 0) (hdf : ∀ v, v < 100 → us.2.1 v = nI 0) :
    ∃ s' u', (PI n M C (Kx (Kx (Kx (Kx (fun _ => 0) 0 (C 0)) 1 (C 1)) 2 (C 2)) 3 (C 3)) s' u' ∨ Bd t n s'.1 u'.1) ∧ ((fn_R_plainLines tx rd d).bind fun q5 => fn_R_plainGates tx q5.1 q5.2) = some s' ∧ fn_M_plainBody mtx ps nd us = some u' := by
  obtain ⟨c0, c1, c2, c3, c4⟩ := id hCb
  -- the class forgets what was defined
  obtain ⟨x, ⟨df, hx, hz⟩, e0⟩ := z_loop (fun N k (x : SR) => fn_R_plainLines_7 tx (fun rd_19 d_19 =>
    (fn_D_most d_19).bind fun q19 =>
    fn_R_plainLines_40 ((nI 2 * q19) + nI 1) tx (fun rd_21 d_21 =>
      fn_R_plainLines_82 ((nI 2 * q19) + nI 1) tx (fun rd_22 d_22 =>
        fn_R_plainLines_151 ((nI 2 * q19) + nI 1) tx (fun rd_23 d_23 =>
          some (rd_23, d_23)) am_NF (nI 0) rd_22 d_22) am_NF (nI 0) rd_21 d_21) am_NF (nI 0) rd_19 d_19) N (nI k) x d) (fun x => (fn_D_most d).bind fun q19 =>
    fn_R_plainLines_40 ((nI 2 * q19) + nI 1) tx (fun rd_21 d_21 =>
      fn_R_plainLines_82 ((nI 2 * q19) + nI 1) tx (fun rd_22 d_22 =>
        fn_R_plainLines_151 ((nI 2 * q19) + nI 1) tx (fun rd_23 d_23 =>
          some (rd_23, d_23)) am_NF (nI 0) rd_22 d_22) am_NF (nI 0) rd_21 d_21) am_NF (nI 0) x d) 100 (fun k x => ∃ df, x = (df, rd.2.1, rd.2.2.1, rd.2.2.2.1, rd.2.2.2.2.1, rd.2.2.2.2.2.1, nI 0, rd.2.2.2.2.2.2.2.1, rd.2.2.2.2.2.2.2.2) ∧ ∀ v, v < k → df v = nI 0)
    (fun N k x hk ⟨df, hx, hz⟩ => by
      subst hx
      have zb : vp_nar .boolean (nI 0) = nI 0 := rfl
      refine ⟨_, ⟨upd df k (nI 0), rfl, fun v hv => ?_⟩, ?_⟩
      · by_cases e : v = k
        · subst e; exact pk_us
        · rw [pk_un e]; exact hz v (by omega)
      · show fn_R_plainLines_7 _ _ (N + 1) _ _ _ = _
        rw [fn_R_plainLines_7]
        simp (disch := omega) only [z_lit, z_mm, z_eqm, z_eqm', z_ltm, z_ltm', z_lem, z_lem', nI_leI, nI_ltI, nI_eq, nI_toInt, nI_clamp, nI_add, pk_mul, pk_sub, pk_div, z_rem, z_shr1, z_and1, decide_eq_true_eq, if_pos, if_neg, Option.bind_some, ite_true, ite_false, eq_self, not_false_eq_true, not_true_eq_false, zb])
    (fun N x _ => by
      show fn_R_plainLines_7 _ _ (N + 1) _ _ _ = _
      rw [fn_R_plainLines_7]
      simp (disch := omega) only [z_lit, z_mm, z_eqm, z_eqm', z_ltm, z_ltm', z_lem, z_lem', nI_leI, nI_ltI, nI_eq, nI_toInt, nI_clamp, nI_add, pk_mul, pk_sub, pk_div, z_rem, z_shr1, z_and1, decide_eq_true_eq, if_pos, if_neg, Option.bind_some, ite_true, ite_false, eq_self, not_false_eq_true, not_true_eq_false]) (N := am_NF) (k := 0) (s := (rd.1, rd.2.1, rd.2.2.1, rd.2.2.2.1, rd.2.2.2.2.1, rd.2.2.2.2.2.1, nI 0, rd.2.2.2.2.2.2.2.1, rd.2.2.2.2.2.2.2.2)) (by omega) (by rw [z_NF]; omega) ⟨rd.1, rfl, fun v hv => absurd hv (by omega)⟩
  subst hx
  obtain ⟨rd1, hrd1⟩ : ∃ rd1 : SR, rd1 = (df, rd.2.1, rd.2.2.1, rd.2.2.2.1, rd.2.2.2.2.1, rd.2.2.2.2.2.1, nI 0, rd.2.2.2.2.2.2.2.1, rd.2.2.2.2.2.2.2.2) := ⟨_, rfl⟩
  rw [← hrd1] at e0
  have hemp : ∀ v, ¬ dfd ((M, C, fun _ _ => 0) : De) (fun _ => 0) v := fun v ⟨i, k, _, hk, _⟩ => absurd hk (Nat.not_lt_zero _)
  have hPI : PI n M C (fun _ => 0) (rd1, d) (ps, nd, us) := by
    refine ⟨(M, C, fun _ _ => 0), rfl, rfl, by rw [hrd1]; exact ho, ⟨hd1, hn1, hc, fun i k _ hk => absurd hk (Nat.not_lt_zero _)⟩, ⟨fun i k _ hk => absurd hk (Nat.not_lt_zero _), fun k hk => absurd hk (Nat.not_lt_zero _), fun i k _ hk => absurd hk (Nat.not_lt_zero _), fun i k i' k' _ _ hk => absurd hk (Nat.not_lt_zero _)⟩, fun v hv => ⟨fun z => absurd z (hemp v), fun _ => ⟨by rw [hrd1]; exact hz v hv, hdf v hv⟩⟩, ⟨0, fun _ => 0, fun _ => 0, rfl, by rw [hrd1], hu0, fun j hj => absurd hj (Nat.not_lt_zero _), fun i k _ hk => absurd hk (Nat.not_lt_zero _)⟩, fun _ => 0, fun k hk => absurd hk (Nat.not_lt_zero _)⟩
  obtain ⟨s1, u1, i1, a1, b1⟩ := L_in (s := (rd1, d)) (u := (ps, nd, us)) hT hCb rfl (fun rd_21 d_21 => fn_R_plainLines_82 (nI (2 * M + 1)) tx (fun rd_22 d_22 => fn_R_plainLines_151 (nI (2 * M + 1)) tx (fun rd_23 d_23 => some (rd_23, d_23)) am_NF (nI 0) rd_22 d_22) am_NF (nI 0) rd_21 d_21) (fun ps_15 nd_15 us_15 => fn_M_plainBody_44 mtx (fun ps_16 nd_16 us_16 => fn_M_plainBody_91 mtx (fun ps_17 nd_17 us_17 => fn_M_plainBody_134 mtx (fun ps_18 nd_18 us_18 => some (ps_18, nd_18, us_18)) am_NF (nI 0) ps_17 nd_17 us_17) am_NF (nI 0) ps_16 nd_16 us_16) am_NF (nI 0) ps_15 nd_15 us_15) (Or.inl hPI)
  obtain ⟨s2, u2, i2, a2, b2⟩ := L_lat hT hCb (Kx_n (by omega)) (Kx_n (by omega)) (Kx_n (by omega)) (fun rd_22 d_22 => fn_R_plainLines_151 (nI (2 * M + 1)) tx (fun rd_23 d_23 => some (rd_23, d_23)) am_NF (nI 0) rd_22 d_22) (fun ps_16 nd_16 us_16 => fn_M_plainBody_91 mtx (fun ps_17 nd_17 us_17 => fn_M_plainBody_134 mtx (fun ps_18 nd_18 us_18 => some (ps_18, nd_18, us_18)) am_NF (nI 0) ps_17 nd_17 us_17) am_NF (nI 0) ps_16 nd_16 us_16) i1
  obtain ⟨s3, u3, i3, a3, b3⟩ := L_out hT hCb (by rw [Kx_n (by omega), Kx_n (by omega)]) (by rw [Kx_s]; omega) (by rw [Kx_n (by omega), Kx_n (by omega)]) (fun rd_23 d_23 => some (rd_23, d_23)) (fun ps_17 nd_17 us_17 => fn_M_plainBody_134 mtx (fun ps_18 nd_18 us_18 => some (ps_18, nd_18, us_18)) am_NF (nI 0) ps_17 nd_17 us_17) i2
  have hlines : fn_R_plainLines tx rd d = some (s3.1, s3.2) := by
    unfold fn_R_plainLines
    simp only [z_lit]
    refine e0.trans ?_
    have em : fn_D_most d = some (nI M) := by rw [← hd1]; rfl
    rw [em, Option.bind_some, pk_mul, nI_add]
    exact (a1.trans a2).trans a3
  have hbody : fn_M_plainBody mtx ps nd us = fn_M_plainBody_134 mtx (fun ps_18 nd_18 us_18 => some (ps_18, nd_18, us_18)) am_NF (nI 0) u3.1 u3.2.1 u3.2.2 := by
    unfold fn_M_plainBody
    simp only [z_lit]
    exact (b1.trans b2).trans b3
  obtain ⟨rd3, d3⟩ := s3
  obtain ⟨ps3, nd3, us3⟩ := u3
  have hlines : fn_R_plainLines tx rd d = some (rd3, d3) := hlines
  have hbody : fn_M_plainBody mtx ps nd us = fn_M_plainBody_134 mtx (fun ps_18 nd_18 us_18 => some (ps_18, nd_18, us_18)) am_NF (nI 0) ps3 nd3 us3 := hbody
  rcases i3 with i3 | hb3
  · obtain ⟨s4, u4, i4, a4, b4⟩ := L_gat (s := (rd3, d3)) (u := (ps3, nd3, us3)) hT hCb (by rw [Kx_n (by omega), Kx_n (by omega), Kx_n (by omega)]) (by rw [Kx_n (by omega), Kx_s]; omega) (by rw [Kx_s]; omega) (fun rd_22 d_22 => some (rd_22, d_22)) (fun ps_18 nd_18 us_18 => some (ps_18, nd_18, us_18)) (Or.inl i3)
    obtain ⟨rd4, d4⟩ := s4
    obtain ⟨ps4, nd4, us4⟩ := u4
    have a4 : fn_R_plainGates_11 (nI (2 * M + 1)) tx (fun rd_22 d_22 => some (rd_22, d_22)) am_NF (nI 0) rd3 d3 = some (rd4, d4) := a4
    have b4 : fn_M_plainBody_134 mtx (fun ps_18 nd_18 us_18 => some (ps_18, nd_18, us_18)) am_NF (nI 0) ps3 nd3 us3 = some (ps4, nd4, us4) := b4
    obtain ⟨D, hD1, _, _, hFl, _⟩ := i3
    have hm3 : d3.2.2.2.2.1 = nI M := hFl.1.trans (by rw [hD1])
    have em : fn_D_most d3 = some (nI M) := by rw [← hm3]; rfl
    have hg : fn_R_plainGates tx rd3 d3 = some (rd4, d4) := by
      unfold fn_R_plainGates
      simp only [z_lit]
      rw [em, Option.bind_some, pk_mul, nI_add]
      exact a4
    refine ⟨(rd4, d4), (ps4, nd4, us4), i4, ?_, hbody.trans b4⟩
    rw [hlines, Option.bind_some]
    exact hg
  · have hb3 : Bd t n rd3 ps3 := hb3
    have hg : fn_R_plainGates tx rd3 d3 = some (rd3, d3) := C_gates_bad (Bd_ft hb3).1
    have hm : fn_M_plainBody_134 mtx (fun ps_18 nd_18 us_18 => some (ps_18, nd_18, us_18)) am_NF (nI 0) ps3 nd3 us3 = some (ps3, nd3, us3) := by
      obtain ⟨N, hN⟩ : ∃ N, am_NF = N + 1 := ⟨4095, rfl⟩
      rw [hN, fn_M_plainBody_134]
      refine (am_ift (by decide)).trans ?_
      split
      · rfl
      · exact am_iff (decide_eq_false (Bd_ft hb3).2)
    refine ⟨(rd3, d3), (ps3, nd3, us3), Or.inr hb3, ?_, hbody.trans hm⟩
    rw [hlines, Option.bind_some]
    exact hg
theorem L_packed {tx : SB} {mtx : Mtx} {t : Nat → Nat} {n M : Nat} {C : Nat → Nat} {rd : SR} {d : SD} {ps : Mps} {nd : Mnd} {us : Mus} (hT : BR tx mtx t n) (hCb : Cb M C) (ho : ∃ p, Ok n rd ps p) (hd1 : d.2.2.2.2.1 = nI M) (hn1 : nd.1 = nI M) (hc : ∀ i, i < 4 → d.2.1 i = nI (C i) ∧ nd.2.1 i = nI (C i)) (hu0 : us.2.2.2.2 = nI 0) :
    ∃ s' u', (PJ n M C (Kx (Kx (Kx (Kx (fun _ => 0) 0 (C 0)) 1 (C 1)) 2 (C 2)) 3 (C 3)) s' u' ∨ Bd t n s'.1 u'.1) ∧ ((fn_R_packedLines tx rd d).bind fun q8 => fn_R_packedGates tx q8.1 q8.2) = some s' ∧ fn_M_packedBody mtx ps nd us = some u' := by
  obtain ⟨c0, c1, c2, c3, c4⟩ := id hCb
  have hPJ : PJ n M C (fun _ => 0) (rd, d) (ps, nd, us) := ⟨(M, C, fun _ _ => 0), rfl, rfl, ho, ⟨hd1, hn1, hc, fun i k _ hk => absurd hk (Nat.not_lt_zero _)⟩, ⟨fun k hk => absurd hk (Nat.not_lt_zero _), fun k hk => absurd hk (Nat.not_lt_zero _), fun k hk => absurd hk (Nat.not_lt_zero _), fun k hk => absurd hk (Nat.not_lt_zero _)⟩, hu0⟩
  obtain ⟨s1, u1, i1, a1, b1⟩ := K_in (tx := tx) (mtx := mtx) (x2 := nI (2 * M + 1)) (s := (rd, d)) (u := (ps, nd, us)) hCb rfl (fun x3_16 rd_16 d_16 => fn_R_packedLines_44 (nI (2 * M + 1)) tx (fun rd_17 d_17 => fn_R_packedLines_111 (nI (2 * M + 1)) tx (fun rd_18 d_18 => some (rd_18, d_18)) am_NF (nI 0) rd_17 d_17) am_NF x3_16 (nI 0) rd_16 d_16) (fun x1_7 ps_7 nd_7 us_7 => fn_M_packedBody_32 mtx (fun x1_8 ps_8 nd_8 us_8 => fn_M_packedBody_73 x1_8 mtx (fun ps_9 nd_9 us_9 => fn_M_packedBody_116 mtx (fun ps_10 nd_10 us_10 => some (ps_10, nd_10, us_10)) am_NF x1_8 (nI 0) ps_9 nd_9 us_9) am_NF (nI 0) ps_8 nd_8 us_8) am_NF x1_7 (nI 0) ps_7 nd_7 us_7) hPJ
  obtain ⟨s2, x2, u2, i2, a2, b2⟩ := K_lat hT hCb (Kx_n (by omega)) (Kx_n (by omega)) (fun rd_17 d_17 => fn_R_packedLines_111 (nI (2 * M + 1)) tx (fun rd_18 d_18 => some (rd_18, d_18)) am_NF (nI 0) rd_17 d_17) (fun x1_8 ps_8 nd_8 us_8 => fn_M_packedBody_73 x1_8 mtx (fun ps_9 nd_9 us_9 => fn_M_packedBody_116 mtx (fun ps_10 nd_10 us_10 => some (ps_10, nd_10, us_10)) am_NF x1_8 (nI 0) ps_9 nd_9 us_9) am_NF (nI 0) ps_8 nd_8 us_8) i1
  obtain ⟨s3, u3, i3, a3, b3⟩ := K_out (x1 := x2) hT hCb (by rw [Kx_n (by omega), Kx_n (by omega)]) (by rw [Kx_s]; omega) (fun rd_18 d_18 => some (rd_18, d_18)) (fun ps_9 nd_9 us_9 => fn_M_packedBody_116 mtx (fun ps_10 nd_10 us_10 => some (ps_10, nd_10, us_10)) am_NF x2 (nI 0) ps_9 nd_9 us_9) (i2.imp And.left id)
  have hlines : fn_R_packedLines tx rd d = some (s3.1, s3.2) := by
    unfold fn_R_packedLines
    simp only [z_lit]
    have em : fn_D_most d = some (nI M) := by rw [← hd1]; rfl
    rw [em, Option.bind_some, pk_mul, nI_add]
    exact (a1.trans a2).trans a3
  have hbody : fn_M_packedBody mtx ps nd us = fn_M_packedBody_116 mtx (fun ps_10 nd_10 us_10 => some (ps_10, nd_10, us_10)) am_NF x2 (nI 0) u3.1 u3.2.1 u3.2.2 := by
    unfold fn_M_packedBody
    simp only [z_lit]
    exact (b1.trans b2).trans b3
  have hcase : (PJ n M C (Kx (Kx (Kx (fun _ => 0) 0 (C 0)) 1 (C 1)) 2 (C 2)) s3 u3 ∧ x2 = nI (2 * (C 0 + C 1) + 2)) ∨ Bd t n s3.1 u3.1 := by
    rcases i2 with ⟨_, z2⟩ | hb2
    · exact i3.imp (fun z => ⟨z, z2⟩) id
    · -- a fault before stays
      refine Or.inr ?_
      have q : fn_M_packedBody_73 x2 mtx (fun ps_9 nd_9 us_9 => some (ps_9, nd_9, us_9)) am_NF (nI 0) u2.1 u2.2.1 u2.2.2 = some (u2.1, u2.2.1, u2.2.2) := by
        obtain ⟨N, hN⟩ : ∃ N, am_NF = N + 1 := ⟨4095, rfl⟩
        rw [hN, fn_M_packedBody_73]
        refine (am_ift (by decide)).trans ?_
        split
        · rfl
        · exact am_iff (decide_eq_false (Bd_ft hb2).2)
      rcases i3 with i3 | hb3
      · exfalso
        have q2 : fn_R_packedLines_111 (nI (2 * M + 1)) tx (fun rd_18 d_18 => some (rd_18, d_18)) am_NF (nI 0) s2.1 s2.2 = some (s2.1, s2.2) := by
          obtain ⟨N, hN⟩ : ∃ N, am_NF = N + 1 := ⟨4095, rfl⟩
          rw [hN, fn_R_packedLines_111, show (2 : Int32) = nI 2 from rfl, C_manyG (by omega), Option.bind_some]
          split
          · rfl
          · exact am_iff (decide_eq_false (Bd_ft hb2).1)
        have q3 := Option.some.inj (q2.symm.trans a3)
        obtain ⟨D, _, _, ⟨p, hp⟩, _⟩ := i3
        have q4 : s2.1 = s3.1 := congrArg Prod.fst q3
        exact (Bd_ft hb2).1 (by rw [q4]; exact hp.2.1)
      · exact hb3
  obtain ⟨z, hz, hzz⟩ : ∃ z : Int32, (∀ q7 q8, fn_D_many (nI 0) s3.2 = some q7 → fn_D_many (nI 1) s3.2 = some q8 → z = nI 2 * (q7 + q8)) ∧ (PJ n M C (Kx (Kx (Kx (fun _ => 0) 0 (C 0)) 1 (C 1)) 2 (C 2)) s3 u3 → z = nI (2 * (C 0 + C 1))) := by
    refine ⟨nI 2 * (s3.2.2.1 (dk 0) + s3.2.2.1 (dk 1)), fun q7 q8 h7 h8 => ?_, fun hq => ?_⟩
    · rw [C_manyG (by omega)] at h7 h8
      rw [Option.some.inj h7, Option.some.inj h8]
    · obtain ⟨D, _, hD2, _, hFl, _⟩ := hq
      have y0 : s3.2.2.1 (dk 0) = nI (C 0) := ((hFl.2.2.1 0 (by omega)).1).trans (by rw [hD2])
      have y1 : s3.2.2.1 (dk 1) = nI (C 1) := ((hFl.2.2.1 1 (by omega)).1).trans (by rw [hD2])
      rw [y0, y1, nI_add, pk_mul]
  obtain ⟨s4, u4, i4, a4, b4⟩ := K_gat (x0 := z) (y0 := x2) hT hCb (by rw [Kx_n (by omega), Kx_n (by omega), Kx_n (by omega)]) (fun rd_10 d_10 => some (rd_10, d_10)) (fun ps_10 nd_10 us_10 => some (ps_10, nd_10, us_10)) (hcase.imp (fun q => ⟨q.1, hzz q.1, q.2⟩) id)
  obtain ⟨rd4, d4⟩ := s4
  obtain ⟨ps4, nd4, us4⟩ := u4
  obtain ⟨rd3, d3⟩ := s3
  obtain ⟨ps3, nd3, us3⟩ := u3
  have a4 : fn_R_packedGates_16 tx (fun rd_10 d_10 => some (rd_10, d_10)) am_NF z (nI 0) rd3 d3 = some (rd4, d4) := a4
  have b4 : fn_M_packedBody_116 mtx (fun ps_10 nd_10 us_10 => some (ps_10, nd_10, us_10)) am_NF x2 (nI 0) ps3 nd3 us3 = some (ps4, nd4, us4) := b4
  have hlines : fn_R_packedLines tx rd d = some (rd3, d3) := hlines
  have hg : fn_R_packedGates tx rd3 d3 = some (rd4, d4) := by
    unfold fn_R_packedGates
    simp only [z_lit]
    have m0 : fn_D_many (nI 0) d3 = some (d3.2.1 (dk 0)) := C_manyG (by omega)
    have m1' : fn_D_many (nI 1) d3 = some (d3.2.1 (dk 1)) := C_manyG (by omega)
    rw [m0, Option.bind_some, m1', Option.bind_some, ← hz _ _ m0 m1']
    exact a4
  refine ⟨(rd4, d4), (ps4, nd4, us4), i4, ?_, hbody.trans b4⟩
  rw [hlines, Option.bind_some]
  exact hg
theorem L_fill {tx : SB} {mtx : Mtx} {t : Nat → Nat} {n s : Nat} {rd : SR} {d : SD} {th : Mth} {ds : Mds} {nw : Mnw} {ps : Mps} {nd : Mnd} {us : Mus} {re : Mre} (hT : BR tx mtx t n) (hs : s ≤ 1) (ho : ∃ p, Ok n rd ps p) (hu0 : us.2.2.2.2 = nI 0) (hdf : ∀ v, v < 100 → us.2.1 v = nI 0) :
    RES t n (fn_R_fill_41 (nI s) tx rd d) ((fn_M_header (nI s) mtx ps nd).bind fun q7 => if decide (q7.1.2.1 = (-1 : Int32)) then (if decide (nI s = 0) then fn_M_read_91 (nI s) th mtx ds nw q7.1 q7.2 us re else (fn_M_packedBody mtx q7.1 q7.2 us).bind fun q8 => fn_M_read_103 (nI s) th mtx ds nw q8.1 q8.2.1 q8.2.2 re) else fn_M_read_91 (nI s) th mtx ds nw q7.1 q7.2 us re) mtx ds nw := by
  obtain ⟨pl, ft, m, c, ps', mw, cw, e1, f1, s1, o1⟩ := L_header (d := d) (nd := nd) hT hs (Or.inl ho)
  have hft : ft = m1 → ps'.2.1 = m1 → ∃ p', Ok n (sPF rd pl ft) ps' p' := fun z1 z2 => by
    rcases s1 with h | ⟨f, g, a, _, b, _⟩
    · exact h
    · exact absurd (a.symm.trans z1) (z_m1 (by omega))
  unfold fn_R_fill_41
  rw [e1, f1, Option.bind_some, Option.bind_some]
  rcases s1 with hok | hb
  · obtain ⟨M, I, L, O, A, a1, a2, a3, a4, a5, a6, a7, a8, a9, a10, l1, l2, l3, l4, l5, l6, l7⟩ := o1 hok
    have hCb : Cb M (fun i => if i = 0 then I else if i = 1 then L else if i = 2 then O else A) := ⟨l1, l2, l3, l4, l5⟩
    have hc : ∀ i, i < 4 → (dd d m c).2.1 i = nI ((fun i => if i = 0 then I else if i = 1 then L else if i = 2 then O else A) i) ∧ ((mw, cw, nd.2.2) : Mnd).2.1 i = nI ((fun i => if i = 0 then I else if i = 1 then L else if i = 2 then O else A) i) := fun i hi => by
      have : i = 0 ∨ i = 1 ∨ i = 2 ∨ i = 3 := by omega
      rcases this with rfl | rfl | rfl | rfl
      · exact ⟨a3, a4⟩
      · exact ⟨a5, a6⟩
      · exact ⟨a7, a8⟩
      · exact ⟨a9, a10⟩
    have z1 : (sPF rd pl ft).2.2.2.2.2.2.2.2 = (-1 : Int32) := by obtain ⟨p, hp⟩ := hok; exact hp.2.1
    have z2 : ps'.2.1 = (-1 : Int32) := by obtain ⟨p, hp⟩ := hok; exact hp.2.2.2.1
    by_cases hs0 : s = 0
    · subst hs0
      obtain ⟨s', u', i, x1, x2⟩ := L_plain (rd := sPF rd pl ft) (d := dd d m c) (ps := ps') (nd := (mw, cw, nd.2.2)) (us := us) hT hCb hok a1 a2 hc hu0 hdf
      obtain ⟨q5, y1, y2⟩ := Option.bind_eq_some_iff.mp x1
      have hCl : (if decide ((sPF rd pl ft, dd d m c).1.2.2.2.2.2.2.2.2 = (-1 : Int32)) then if decide (nI 0 = (0 : Int32)) then fn_R_fill_73 (nI 0) tx (sPF rd pl ft, dd d m c).1 (sPF rd pl ft, dd d m c).2 else (fn_R_packedLines tx (sPF rd pl ft, dd d m c).1 (sPF rd pl ft, dd d m c).2).bind fun q8 => (fn_R_packedGates tx q8.1 q8.2).bind fun q9 => fn_R_fill_91 (nI 0) tx q9.1 q9.2 else fn_R_fill_73 (nI 0) tx (sPF rd pl ft, dd d m c).1 (sPF rd pl ft, dd d m c).2) = fn_R_fill_91 (nI 0) tx s'.1 s'.2 := by
        refine (am_ift (decide_eq_true z1)).trans ((am_ift (by decide)).trans ?_)
        unfold fn_R_fill_73
        refine (am_ift (decide_eq_true z1)).trans ?_
        show ((fn_R_plainLines tx (sPF rd pl ft) (dd d m c)).bind fun q5 => (fn_R_plainGates tx q5.1 q5.2).bind fun q6 => fn_R_fill_91 (nI 0) tx q6.1 q6.2) = _
        rw [y1, Option.bind_some, y2, Option.bind_some]
      have hMl : (if decide (ps'.2.1 = (-1 : Int32)) then (if decide (nI 0 = (0 : Int32)) then fn_M_read_91 (nI 0) th mtx ds nw ps' (mw, cw, nd.2.2) us re else (fn_M_packedBody mtx ps' (mw, cw, nd.2.2) us).bind fun q8 => fn_M_read_103 (nI 0) th mtx ds nw q8.1 q8.2.1 q8.2.2 re) else fn_M_read_91 (nI 0) th mtx ds nw ps' (mw, cw, nd.2.2) us re) = fn_M_read_103 (nI 0) th mtx ds nw u'.1 u'.2.1 u'.2.2 re := by
        refine (am_ift (decide_eq_true z2)).trans ((am_ift (by decide)).trans ?_)
        unfold fn_M_read_91
        refine (am_ift (decide_eq_true z2)).trans ?_
        rw [x2, Option.bind_some]
      rw [hCl]
      refine (show RES t n _ _ mtx ds nw from ?_)
      rw [hMl]
      rcases i with i | hb
      · exact E_plain hT hCb Ka i
      · exact E_bad hT hb
    · have hs1 : s = 1 := by omega
      subst hs1
      obtain ⟨s', u', i, x1, x2⟩ := L_packed (rd := sPF rd pl ft) (d := dd d m c) (ps := ps') (nd := (mw, cw, nd.2.2)) (us := us) hT hCb hok a1 a2 hc hu0
      obtain ⟨q5, y1, y2⟩ := Option.bind_eq_some_iff.mp x1
      have hCl : (if decide ((sPF rd pl ft, dd d m c).1.2.2.2.2.2.2.2.2 = (-1 : Int32)) then if decide (nI 1 = (0 : Int32)) then fn_R_fill_73 (nI 1) tx (sPF rd pl ft, dd d m c).1 (sPF rd pl ft, dd d m c).2 else (fn_R_packedLines tx (sPF rd pl ft, dd d m c).1 (sPF rd pl ft, dd d m c).2).bind fun q8 => (fn_R_packedGates tx q8.1 q8.2).bind fun q9 => fn_R_fill_91 (nI 1) tx q9.1 q9.2 else fn_R_fill_73 (nI 1) tx (sPF rd pl ft, dd d m c).1 (sPF rd pl ft, dd d m c).2) = fn_R_fill_91 (nI 1) tx s'.1 s'.2 := by
        refine (am_ift (decide_eq_true z1)).trans ((am_iff (by decide)).trans ?_)
        show ((fn_R_packedLines tx (sPF rd pl ft) (dd d m c)).bind fun q8 => (fn_R_packedGates tx q8.1 q8.2).bind fun q9 => fn_R_fill_91 (nI 1) tx q9.1 q9.2) = _
        rw [y1, Option.bind_some, y2, Option.bind_some]
      have hMl : (if decide (ps'.2.1 = (-1 : Int32)) then (if decide (nI 1 = (0 : Int32)) then fn_M_read_91 (nI 1) th mtx ds nw ps' (mw, cw, nd.2.2) us re else (fn_M_packedBody mtx ps' (mw, cw, nd.2.2) us).bind fun q8 => fn_M_read_103 (nI 1) th mtx ds nw q8.1 q8.2.1 q8.2.2 re) else fn_M_read_91 (nI 1) th mtx ds nw ps' (mw, cw, nd.2.2) us re) = fn_M_read_103 (nI 1) th mtx ds nw u'.1 u'.2.1 u'.2.2 re := by
        refine (am_ift (decide_eq_true z2)).trans ((am_iff (by decide)).trans ?_)
        rw [x2, Option.bind_some]
      rw [hCl]
      refine (show RES t n _ _ mtx ds nw from ?_)
      rw [hMl]
      rcases i with i | hb
      · exact E_packed hT hCb (l7 rfl) Ka i
      · exact E_bad hT hb
  · obtain ⟨z1, z2⟩ := Bd_ft hb
    have hCl : (if decide ((sPF rd pl ft, dd d m c).1.2.2.2.2.2.2.2.2 = (-1 : Int32)) then if decide (nI s = (0 : Int32)) then fn_R_fill_73 (nI s) tx (sPF rd pl ft, dd d m c).1 (sPF rd pl ft, dd d m c).2 else (fn_R_packedLines tx (sPF rd pl ft, dd d m c).1 (sPF rd pl ft, dd d m c).2).bind fun q8 => (fn_R_packedGates tx q8.1 q8.2).bind fun q9 => fn_R_fill_91 (nI s) tx q9.1 q9.2 else fn_R_fill_73 (nI s) tx (sPF rd pl ft, dd d m c).1 (sPF rd pl ft, dd d m c).2) = fn_R_fill_91 (nI s) tx (sPF rd pl ft) (dd d m c) := by
      refine (am_iff (decide_eq_false z1)).trans ?_
      unfold fn_R_fill_73
      exact am_iff (decide_eq_false z1)
    have hMl : (if decide (ps'.2.1 = (-1 : Int32)) then (if decide (nI s = (0 : Int32)) then fn_M_read_91 (nI s) th mtx ds nw ps' (mw, cw, nd.2.2) us re else (fn_M_packedBody mtx ps' (mw, cw, nd.2.2) us).bind fun q8 => fn_M_read_103 (nI s) th mtx ds nw q8.1 q8.2.1 q8.2.2 re) else fn_M_read_91 (nI s) th mtx ds nw ps' (mw, cw, nd.2.2) us re) = fn_M_read_103 (nI s) th mtx ds nw ps' (mw, cw, nd.2.2) us re := by
      refine (am_iff (decide_eq_false z2)).trans ?_
      unfold fn_M_read_91
      exact am_iff (decide_eq_false z2)
    rw [hCl]
    refine (show RES t n _ _ mtx ds nw from ?_)
    rw [hMl]
    exact E_bad hT hb
