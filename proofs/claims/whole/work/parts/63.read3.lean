theorem M_clear {x1 : Int32} {th : Mth} {tx : Mtx} {ds : Mds} {nw : Mnw} {ps : Mps} {nd : Mnd} {us : Mus} {re : Mre} (κ : Mth → Mtx → Mds → Mnw → Mps → Mnd → Mus → Mre → Option (Int32 × Mth × Mtx × Mds × Mnw × Mps × Mnd × Mus × Mre)) (h0 : us.2.2.2.2 = nI 0) :
    ∃ us' : Mus, us'.2.2.2.2 = nI 0 ∧ (∀ v, v < 100 → us'.2.1 v = nI 0) ∧ fn_M_read_48 x1 κ am_NF (nI 0) th tx ds nw ps nd us re = κ th tx ds nw ps nd us' re := by
  have zb : vp_nar .boolean (nI 0) = nI 0 := rfl
  obtain ⟨y, ⟨h1, h2⟩, e⟩ := z_loop (fun N k (y : Mus) => fn_M_read_48 x1 κ N (nI k) th tx ds nw ps nd y re) (fun y => κ th tx ds nw ps nd y re) 100 (fun k y => y.2.2.2.2 = nI 0 ∧ ∀ v, v < k → y.2.1 v = nI 0)
    (fun N k y hk ⟨h1, h2⟩ => by
      refine ⟨(y.1, upd y.2.1 k (nI 0), y.2.2.1, y.2.2.2.1, y.2.2.2.2), ⟨h1, fun v hv => ?_⟩, ?_⟩
      · show upd y.2.1 k (nI 0) v = _
        by_cases e : v = k
        · subst e; exact pk_us
        · rw [pk_un e]; exact h2 v (by omega)
      · show fn_M_read_48 _ _ (N + 1) _ _ _ _ _ _ _ _ _ = _
        rw [fn_M_read_48]
        simp (disch := omega) only [z_lit, z_mm, z_eqm, z_eqm', z_ltm, z_ltm', z_lem, z_lem', nI_leI, nI_ltI, nI_eq, nI_toInt, nI_clamp, nI_add, pk_mul, pk_sub, pk_div, z_rem, z_shr1, z_and1, decide_eq_true_eq, if_pos, if_neg, Option.bind_some, ite_true, ite_false, eq_self, not_false_eq_true, not_true_eq_false, zb])
    (fun N y _ => by
      show fn_M_read_48 _ _ (N + 1) _ _ _ _ _ _ _ _ _ = _
      rw [fn_M_read_48]
      simp (disch := omega) only [z_lit, z_mm, z_eqm, z_eqm', z_ltm, z_ltm', z_lem, z_lem', nI_leI, nI_ltI, nI_eq, nI_toInt, nI_clamp, nI_add, pk_mul, pk_sub, pk_div, z_rem, z_shr1, z_and1, decide_eq_true_eq, if_pos, if_neg, Option.bind_some, ite_true, ite_false, eq_self, not_false_eq_true, not_true_eq_false]) (N := am_NF) (k := 0) (s := us) (by omega) (by rw [z_NF]; omega) ⟨h0, fun v hv => absurd hv (by omega)⟩
  exact ⟨y, h1, h2, e⟩
theorem L_rd {tx : SB} {mtx : Mtx} {t : Nat → Nat} {n : Nat} {rd : SR} {d : SD} {th : Mth} {ds : Mds} {nw : Mnw} {ps : Mps} {nd : Mnd} {us : Mus} {re : Mre} (hT : BR tx mtx t n) : RES t n (fn_R_fill tx rd d) (fn_M_read th mtx ds nw ps nd us re) mtx ds nw := by
  have h1500 := hT.1
  have C1 := B_at hT (k := 1) (by omega)
  have C2 := B_at hT (k := 2) (by omega)
  have M1 := M_byteAt hT (k := 1) (by omega)
  have M2 := M_byteAt hT (k := 2) (by omega)
  obtain ⟨s, hs, eC, eM⟩ : ∃ s, s ≤ 1 ∧ fn_R_fill tx rd d = fn_R_fill_41 (nI s) tx (rd.1, rd.2.1, rd.2.2.1, rd.2.2.2.1, rd.2.2.2.2.1, rd.2.2.2.2.2.1, rd.2.2.2.2.2.2.1, nI 0, m1) d ∧ fn_M_read th mtx ds nw ps nd us re = fn_M_read_30 (nI s) (nI 0) mtx ds nw ps nd us re := by
    unfold fn_R_fill fn_M_read fn_R_fill_40 fn_M_read_29
    have C1' : fn_B_at (1 : Int32) tx = some (if 1 < n then nI (t 1) else m1) := C1
    have C2' : fn_B_at (2 : Int32) tx = some (if 2 < n then nI (t 2) else m1) := C2
    have M1' : fn_M_byteAt (1 : Int32) mtx = some (if 1 < n then nI (t 1) else m1) := M1
    have M2' : fn_M_byteAt (2 : Int32) mtx = some (if 2 < n then nI (t 2) else m1) := M2
    rw [C1', C2', M1', M2']
    simp only [Option.bind_some]
    by_cases q1 : (if 1 < n then nI (t 1) else m1) = (105 : Int32)
    · by_cases q2 : (if 2 < n then nI (t 2) else m1) = (103 : Int32)
      · exact ⟨1, by omega, (am_ift (decide_eq_true q1)).trans (am_ift (decide_eq_true q2)), (am_ift (decide_eq_true q1)).trans (am_ift (decide_eq_true q2))⟩
      · exact ⟨0, by omega, (am_ift (decide_eq_true q1)).trans (am_iff (decide_eq_false q2)), (am_ift (decide_eq_true q1)).trans (am_iff (decide_eq_false q2))⟩
    · exact ⟨0, by omega, am_iff (decide_eq_false q1), am_iff (decide_eq_false q1)⟩
  rw [eC, eM]
  obtain ⟨us', u1, u2, e⟩ := M_clear (x1 := nI s) (th := nI 0) (tx := mtx) (ds := ds) (nw := nw) (ps := (nI 0, m1, ps.2.2)) (nd := nd) (us := (us.1, us.2.1, us.2.2.1, us.2.2.2.1, nI 0)) (re := re) (fun th_7 tx_7 ds_7 nw_7 ps_7 nd_7 us_7 re_7 =>
    (fn_M_header (nI s) tx_7 ps_7 nd_7).bind fun q7 =>
    if decide (q7.1.2.1 = (-1 : Int32)) then
      if decide (nI s = 0) then
        fn_M_read_91 (nI s) th_7 tx_7 ds_7 nw_7 q7.1 q7.2 us_7 re_7
      else
        (fn_M_packedBody tx_7 q7.1 q7.2 us_7).bind fun q8 =>
        fn_M_read_103 (nI s) th_7 tx_7 ds_7 nw_7 q8.1 q8.2.1 q8.2.2 re_7
    else
      fn_M_read_91 (nI s) th_7 tx_7 ds_7 nw_7 q7.1 q7.2 us_7 re_7) rfl
  have e' : fn_M_read_30 (nI s) (nI 0) mtx ds nw ps nd us re = _ := e
  rw [e']
  exact L_fill hT hs ⟨0, rfl, rfl, rfl, rfl, by omega⟩ u1 u2
theorem C_restart {d : SD} {D : De} (hC : CD d D) (hV : Vd D) : fn_D_restart d = some (d.1, d.2.1, d.2.2.1, d.2.2.2.1, d.2.2.2.2.1, nI (bsum (D.2.2 5) (D.2.1 1))) := by
  have hz : MD (nI D.1, (fun i => nI (D.2.1 i)), (fun k => nI (D.2.2 0 k)), (fun k => nI (D.2.2 1 k)), (fun k => nI (D.2.2 4 k)), (fun k => nI (D.2.2 5 k)), (fun k => nI (D.2.2 2 k)), (fun k => nI (D.2.2 3 k)), (fun k => nI (D.2.2 6 k)), (fun k => nI (D.2.2 7 k))) D := ⟨rfl, fun _ _ => rfl, fun i k hi _ => by
    have i8 : i = 0 ∨ i = 1 ∨ i = 2 ∨ i = 3 ∨ i = 4 ∨ i = 5 ∨ i = 6 ∨ i = 7 := by omega
    rcases i8 with rfl | rfl | rfl | rfl | rfl | rfl | rfl | rfl <;> rfl⟩
  obtain ⟨th', nw', h1, -, -⟩ := P_reset (th := 0) (nw := fun _ => 0) hC hz hV
  unfold fn_T_reset at h1
  obtain ⟨q, h2, h3⟩ := Option.bind_eq_some_iff.mp h1
  rw [h2]
  exact h3
theorem P_read {tx : SB} {mtx : Mtx} {t : Nat → Nat} {n : Nat} {rd : SR} {d : SD} {th : Mth} {ds : Mds} {nw : Mnw} {ps : Mps} {nd : Mnd} {us : Mus} {re : Mre} (hT : BR tx mtx t n) :
    (∃ f g rd' d' th' ps' nd' us' re', fn_T_read tx rd d = some (nI f, (tx.1, nI 0), rd', d', false) ∧ fn_M_read th mtx ds nw ps nd us re = some (nI g, th', (mtx.1, nI 0), ds, nw, ps', nd', us', re') ∧ FE t n f g) ∨
    (∃ (D : De) (s : Nat → Nat) (rd' : SR) (d' : SD) (th' : Mth) (ds' : Mds) (nw' : Mnw) (ps' : Mps) (nd' : Mnd) (us' : Mus) (re' : Mre), fn_T_read tx rd d = some (m1, (tx.1, nI 0), rd', d', true) ∧ fn_M_read th mtx ds nw ps nd us re = some (m1, th', (mtx.1, nI 0), ds', nw', ps', nd', us', re') ∧ Vd D ∧ CD d' D ∧ MD ds' D ∧ Sq D s (D.2.1 3) ∧ (∀ j, j < D.2.1 3 → d'.2.2.1 j = nI (s j)) ∧ (∀ k, k < D.2.1 1 → nw' k = nI (D.2.2 5 k)) ∧ d'.2.2.2.2.2 = nI (bsum (D.2.2 5) (D.2.1 1))) := by
  rcases L_rd (rd := rd) (d := d) (th := th) (ds := ds) (nw := nw) (ps := ps) (nd := nd) (us := us) (re := re) hT with ⟨f, g, rd', d', th', ps', nd', us', re', e1, e2, hf, hg, hE⟩ | ⟨D, s, rd', d', th', ds', nw', ps', nd', us', re', e1, e2, hV, hC, hM, hs, hq, hnw⟩
  · refine Or.inl ⟨f, g, rd', d', th', ps', nd', us', re', ?_, e2, hE⟩
    unfold fn_T_read fn_B_clear
    rw [e1]
    simp only [Option.bind_some]
    exact am_iff (decide_eq_false (show ¬ nI f = (-1 : Int32) from z_m1 (by omega)))
  · refine Or.inr ⟨D, s, rd', (d'.1, d'.2.1, d'.2.2.1, d'.2.2.2.1, d'.2.2.2.2.1, nI (bsum (D.2.2 5) (D.2.1 1))), th', ds', nw', ps', nd', us', re', ?_, e2, hV, ?_, hM, hs, ?_, hnw, ?_⟩
    · unfold fn_T_read fn_B_clear fn_T_exchange
      rw [e1]
      simp only [Option.bind_some]
      refine (am_ift (decide_eq_true (show m1 = (-1 : Int32) from rfl))).trans ?_
      rw [C_restart hC hV]
      rfl
    · exact hC
    · exact hq
    · rfl
