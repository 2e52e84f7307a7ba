/-! WHAT IS READ IS VALID -/
theorem dv_c {D : De} {j : Nat} (hj : j < dn D) : ∃ i k, dK i ∧ k < D.2.1 i ∧ dv D j = D.2.2 i k ∧ ((i = 0 ∧ j = k) ∨ (i = 1 ∧ j = D.2.1 0 + k) ∨ (i = 3 ∧ j = D.2.1 0 + D.2.1 1 + k)) := by
  unfold dn at hj
  by_cases a : j < D.2.1 0
  · exact ⟨0, j, Or.inl rfl, a, dv_i a, Or.inl ⟨rfl, rfl⟩⟩
  · by_cases b : j < D.2.1 0 + D.2.1 1
    · obtain ⟨k, rfl⟩ : ∃ k, j = D.2.1 0 + k := ⟨j - D.2.1 0, by omega⟩
      exact ⟨1, k, Or.inr (Or.inl rfl), by omega, dv_l (by omega), Or.inr (Or.inl ⟨rfl, rfl⟩)⟩
    · obtain ⟨k, rfl⟩ : ∃ k, j = D.2.1 0 + D.2.1 1 + k := ⟨j - (D.2.1 0 + D.2.1 1), by omega⟩
      exact ⟨3, k, Or.inr (Or.inr rfl), by omega, dv_g, Or.inr (Or.inr ⟨rfl, rfl⟩)⟩
theorem dfd_def {D : De} {K : Nat → Nat} {v : Nat} (hK : ∀ i, i < 4 → K i = D.2.1 i) (h : dfd D K v) : isDef D v := by
  obtain ⟨i, k, hi, hk, e⟩ := h
  rcases hi with rfl | rfl | rfl
  · rw [hK 0 (by omega)] at hk; rw [← e]; exact isDef_i hk
  · rw [hK 1 (by omega)] at hk; rw [← e]; exact isDef_l hk
  · rw [hK 3 (by omega)] at hk; rw [← e]; exact isDef_g hk
theorem dk_lt {i : Nat} (hi : i < 8) : dk i < 4 := by
  have i8 : i = 0 ∨ i = 1 ∨ i = 2 ∨ i = 3 ∨ i = 4 ∨ i = 5 ∨ i = 6 ∨ i = 7 := by omega
  rcases i8 with rfl | rfl | rfl | rfl | rfl | rfl | rfl | rfl <;> decide
theorem Fl_CD {D : De} {K : Nat → Nat} {d : SD} {nd : Mnd} (h : Fl D K d nd) (hK : ∀ i, i < 4 → K i = D.2.1 i) : CD d D ∧ MD nd D := by
  obtain ⟨a, b, c, e⟩ := h
  exact ⟨⟨a, fun i hi => (c i hi).1, fun i k hi hk => (e i k hi (by rw [hK _ (dk_lt hi)]; exact hk)).1⟩, ⟨b, fun i hi => (c i hi).2, fun i k hi hk => (e i k hi (by rw [hK _ (dk_lt hi)]; exact hk)).2⟩⟩
theorem Vf_Vl {D : De} {K : Nat → Nat} (h : Vf D K) (hK : ∀ i, i < 4 → K i = D.2.1 i) : Vl D := fun i k hi hk => h.1 i k hi (by rw [hK _ (dk_lt hi)]; exact hk)
theorem Vf_dist {D : De} {K : Nat → Nat} (h : Vf D K) (hK : ∀ i, i < 4 → K i = D.2.1 i) : ∀ a b, a < D.2.1 3 → b < D.2.1 3 → D.2.2 3 a / 2 = D.2.2 3 b / 2 → a = b := by
  intro a b ha hb he
  have h3 : dK 3 := Or.inr (Or.inr rfl)
  have hk3 := hK 3 (by omega)
  have e1 := h.2.2.1 3 a h3 (by omega)
  have e2 := h.2.2.1 3 b h3 (by omega)
  exact (h.2.2.2 3 a 3 b h3 h3 (by omega) (by omega) (by omega)).2
theorem plain_Vd {D : De} {K : Nat → Nat} {u : Nat} {ul up : Nat → Nat} {rd : SR} {us : Mus} (hb : Vb D) (hK : ∀ i, i < 4 → K i = D.2.1 i) (hVf : Vf D K) (hUs : Us D K u ul up rd us) (hun : ∀ j, j < u → ul j / 2 = 0 ∨ dfd D K (ul j / 2)) (hno : ∀ g, g < D.2.1 3 → ¬ Wm D (D.2.1 3) g g) : Vd D := by
  have k0 := hK 0 (by omega)
  have k1 := hK 1 (by omega)
  have k3 := hK 3 (by omega)
  have hki : ∀ i, dK i → K i = D.2.1 i := fun i hi => by rcases hi with rfl | rfl | rfl; exact k0; exact k1; exact k3
  refine ⟨hb, Vf_Vl hVf hK, fun k hk => hVf.2.1 k (by omega), fun j hj => ?_, fun j j' hj hj' he => ?_, fun i k hi hk => ?_, Wm_Va hno⟩
  · obtain ⟨i, k, hi, hk, e, _⟩ := dv_c hj
    rw [e]
    exact hVf.2.2.1 i k hi (by rw [hki i hi]; exact hk)
  · obtain ⟨i, k, hi, hk, e, ix⟩ := dv_c hj
    obtain ⟨i', k', hi', hk', e', ix'⟩ := dv_c hj'
    rw [e, e'] at he
    obtain ⟨z1, z2⟩ := hVf.2.2.2 i k i' k' hi hi' (by rw [hki i hi]; exact hk) (by rw [hki i' hi']; exact hk') he
    subst z1 z2
    omega
  · have hdk : dk i < 4 := by rcases hi with rfl | rfl | rfl | rfl <;> decide
    obtain ⟨j, j1, j2⟩ := hUs.2.2.2.2 i k hi (by rw [hK _ hdk]; exact hk)
    rw [← j2]
    rcases hun j j1 with z | z
    · exact Or.inl z
    · exact dfd_def hK z
theorem packed_Vd {D : De} {K : Nat → Nat} (hb : Vb D) (hK : ∀ i, i < 4 → K i = D.2.1 i) (hVp : Vp D K) (hM : D.2.1 0 + D.2.1 1 + D.2.1 3 = D.1) : Vd D := by
  obtain ⟨b0, b1, b2, b3, b4⟩ := id hb
  have k0 := hK 0 (by omega)
  have k1 := hK 1 (by omega)
  have k2 := hK 2 (by omega)
  have k3 := hK 3 (by omega)
  obtain ⟨p0, p1, p2, p3⟩ := hVp
  have q0 : ∀ k, k < D.2.1 0 → D.2.2 0 k = 2 * (k + 1) := fun k hk => p0 k (by omega)
  have q1 : ∀ k, k < D.2.1 1 → D.2.2 1 k = 2 * (D.2.1 0 + k + 1) ∧ D.2.2 4 k ≤ 2 * D.1 + 1 ∧ D.2.2 5 k ≤ 1 := fun k hk => p1 k (by omega)
  have q2 : ∀ k, k < D.2.1 2 → D.2.2 2 k ≤ 2 * D.1 + 1 := fun k hk => p2 k (by omega)
  have q3 : ∀ k, k < D.2.1 3 → D.2.2 3 k = 2 * (D.2.1 0 + D.2.1 1 + k + 1) ∧ D.2.2 6 k < D.2.2 3 k ∧ D.2.2 7 k ≤ D.2.2 6 k := fun k hk => p3 k (by omega)
  have hdv : ∀ j, j < dn D → dv D j = 2 * (j + 1) := fun j hj => by
    obtain ⟨i, k, hi, hk, e, ix⟩ := dv_c hj
    rw [e]
    rcases ix with ⟨rfl, rfl⟩ | ⟨rfl, rfl⟩ | ⟨rfl, rfl⟩
    · exact q0 _ hk
    · exact (q1 k hk).1
    · exact (q3 k hk).1
  have hdef : ∀ v, v ≤ dn D → isDef D v := fun v hv => by
    by_cases h0 : v = 0
    · exact Or.inl h0
    · refine Or.inr ⟨v - 1, by omega, ?_⟩
      rw [hdv (v - 1) (by omega)]; omega
  have hdn : dn D = D.1 := by unfold dn; exact hM
  refine ⟨hb, fun i k hi hk => ?_, fun k hk => (q1 k hk).2.2, fun j hj => ?_, fun j j' hj hj' he => ?_, fun i k hi hk => ?_, fun g => g, fun g h hg hh he => ?_⟩
  · have i8 : i = 0 ∨ i = 1 ∨ i = 2 ∨ i = 3 ∨ i = 4 ∨ i = 5 ∨ i = 6 ∨ i = 7 := by omega
    rcases i8 with rfl | rfl | rfl | rfl | rfl | rfl | rfl | rfl
    · have hk : k < D.2.1 0 := hk
      have := q0 k hk; omega
    · have hk : k < D.2.1 1 := hk
      have := q1 k hk; omega
    · have hk : k < D.2.1 2 := hk
      have := q2 k hk; omega
    · have hk : k < D.2.1 3 := hk
      have := q3 k hk; omega
    · have hk : k < D.2.1 1 := hk
      have := q1 k hk; omega
    · have hk : k < D.2.1 1 := hk
      have := q1 k hk; omega
    · have hk : k < D.2.1 3 := hk
      have := q3 k hk; omega
    · have hk : k < D.2.1 3 := hk
      have := q3 k hk; omega
  · rw [hdv j hj]; omega
  · rw [hdv j hj, hdv j' hj'] at he; omega
  · rcases hi with rfl | rfl | rfl | rfl
    · have hk : k < D.2.1 2 := hk
      have := q2 k hk; exact hdef _ (by omega)
    · have hk : k < D.2.1 1 := hk
      have := q1 k hk; exact hdef _ (by omega)
    · have hk : k < D.2.1 3 := hk
      have := q3 k hk; exact hdef _ (by omega)
    · have hk : k < D.2.1 3 := hk
      have := q3 k hk; exact hdef _ (by omega)
  · have a := q3 g hg
    have b := q3 h hh
    show h < g
    rcases he with he | he <;> omega
/-! the reference takes a design over -/
theorem M_takeOver {th : Mth} {ds : Mds} {nw : Mnw} {nd : Mnd} {D : De} (h : MD nd D) (hV : Vd D) : ∃ th' ds' nw', fn_M_takeOver th ds nw nd = some (th', ds', nw') ∧ MD ds' D ∧ ∀ k, k < D.2.1 1 → nw' k = nI (D.2.2 5 k) := by
  have hb := hV.1
  obtain ⟨b0, b1, b2, b3, b4⟩ := id hb
  have L1 := fun (κ : Mth → Mds → Mnw → Option (Mth × Mds × Mnw)) (ds : Mds) => z_loop (fun N k (y : Mds) => fn_M_takeOver_10 nd κ N (nI k) th y nw) (fun y => κ th y nw) 4 (fun k y => y.1 = ds.1 ∧ ∀ j, j < k → y.2.1 j = nd.2.1 j)
    (fun N k y hk ⟨h0, h1⟩ => by
      refine ⟨(y.1, upd y.2.1 k (nd.2.1 k), y.2.2.1, y.2.2.2.1, y.2.2.2.2.1, y.2.2.2.2.2.1, y.2.2.2.2.2.2.1, y.2.2.2.2.2.2.2.1, y.2.2.2.2.2.2.2.2.1, y.2.2.2.2.2.2.2.2.2), ⟨h0, fun j hj => ?_⟩, ?_⟩
      · show upd y.2.1 k (nd.2.1 k) j = _
        by_cases e : j = k
        · subst e; exact pk_us
        · rw [pk_un e]; exact h1 j (by omega)
      · show fn_M_takeOver_10 _ _ (N + 1) _ _ _ _ = _
        rw [fn_M_takeOver_10]
        simp (disch := omega) only [z_lit, z_mm, z_eqm, z_eqm', z_ltm, z_ltm', z_lem, z_lem', nI_leI, nI_ltI, nI_eq, nI_toInt, nI_clamp, nI_add, pk_mul, pk_sub, pk_div, z_rem, z_shr1, z_and1, decide_eq_true_eq, if_pos, if_neg, Option.bind_some, ite_true, ite_false, eq_self, not_false_eq_true, not_true_eq_false])
    (fun N y _ => by
      show fn_M_takeOver_10 _ _ (N + 1) _ _ _ _ = _
      rw [fn_M_takeOver_10]
      simp (disch := omega) only [z_lit, z_mm, z_eqm, z_eqm', z_ltm, z_ltm', z_lem, z_lem', nI_leI, nI_ltI, nI_eq, nI_toInt, nI_clamp, nI_add, pk_mul, pk_sub, pk_div, z_rem, z_shr1, z_and1, decide_eq_true_eq, if_pos, if_neg, Option.bind_some, ite_true, ite_false, eq_self, not_false_eq_true, not_true_eq_false]) (N := am_NF) (k := 0) (s := ds) (by omega) (by rw [z_NF]; omega) ⟨rfl, fun j hj => absurd hj (by omega)⟩
  have L2 := fun (κ : Mth → Mds → Mnw → Option (Mth × Mds × Mnw)) (ds : Mds) => z_loop (fun N k (y : Mds) => fn_M_takeOver_35 nd κ N (nI k) th y nw) (fun y => κ th y nw) 8 (fun k y => y.1 = ds.1 ∧ y.2.1 = ds.2.1 ∧ ∀ i j, (i = 0 ∨ i = 1 ∨ i = 2 ∨ i = 4 ∨ i = 5) → j < k → mrow y i j = mrow nd i j)
    (fun N k y hk ⟨h0, h1, h2⟩ => by
      refine ⟨(y.1, y.2.1, upd y.2.2.1 k (nd.2.2.1 k), upd y.2.2.2.1 k (nd.2.2.2.1 k), upd y.2.2.2.2.1 k (nd.2.2.2.2.1 k), upd y.2.2.2.2.2.1 k (nd.2.2.2.2.2.1 k), upd y.2.2.2.2.2.2.1 k (nd.2.2.2.2.2.2.1 k), y.2.2.2.2.2.2.2.1, y.2.2.2.2.2.2.2.2.1, y.2.2.2.2.2.2.2.2.2), ⟨h0, h1, fun i j hi hj => ?_⟩, ?_⟩
      · have hq := h2 i j hi
        rcases hi with rfl | rfl | rfl | rfl | rfl
        all_goals
          by_cases e : j = k
          · subst e; exact pk_us
          · exact (pk_un e).trans (hq (by omega))
      · show fn_M_takeOver_35 _ _ (N + 1) _ _ _ _ = _
        rw [fn_M_takeOver_35]
        simp (disch := omega) only [z_lit, z_mm, z_eqm, z_eqm', z_ltm, z_ltm', z_lem, z_lem', nI_leI, nI_ltI, nI_eq, nI_toInt, nI_clamp, nI_add, pk_mul, pk_sub, pk_div, z_rem, z_shr1, z_and1, decide_eq_true_eq, if_pos, if_neg, Option.bind_some, ite_true, ite_false, eq_self, not_false_eq_true, not_true_eq_false])
    (fun N y _ => by
      show fn_M_takeOver_35 _ _ (N + 1) _ _ _ _ = _
      rw [fn_M_takeOver_35]
      simp (disch := omega) only [z_lit, z_mm, z_eqm, z_eqm', z_ltm, z_ltm', z_lem, z_lem', nI_leI, nI_ltI, nI_eq, nI_toInt, nI_clamp, nI_add, pk_mul, pk_sub, pk_div, z_rem, z_shr1, z_and1, decide_eq_true_eq, if_pos, if_neg, Option.bind_some, ite_true, ite_false, eq_self, not_false_eq_true, not_true_eq_false]) (N := am_NF) (k := 0) (s := ds) (by omega) (by rw [z_NF]; omega) ⟨rfl, rfl, fun i j _ hj => absurd hj (by omega)⟩
  have L3 := fun (κ : Mth → Mds → Mnw → Option (Mth × Mds × Mnw)) (ds : Mds) => z_loop (fun N k (y : Mds) => fn_M_takeOver_109 nd κ N (nI k) th y nw) (fun y => κ th y nw) 60 (fun k y => y.1 = ds.1 ∧ y.2.1 = ds.2.1 ∧ (∀ i, (i = 0 ∨ i = 1 ∨ i = 2 ∨ i = 4 ∨ i = 5) → mrow y i = mrow ds i) ∧ ∀ i j, (i = 3 ∨ i = 6 ∨ i = 7) → j < k → mrow y i j = mrow nd i j)
    (fun N k y hk ⟨h0, h1, h2, h3⟩ => by
      refine ⟨(y.1, y.2.1, y.2.2.1, y.2.2.2.1, y.2.2.2.2.1, y.2.2.2.2.2.1, y.2.2.2.2.2.2.1, upd y.2.2.2.2.2.2.2.1 k (nd.2.2.2.2.2.2.2.1 k), upd y.2.2.2.2.2.2.2.2.1 k (nd.2.2.2.2.2.2.2.2.1 k), upd y.2.2.2.2.2.2.2.2.2 k (nd.2.2.2.2.2.2.2.2.2 k)), ⟨h0, h1, fun i hi => ?_, fun i j hi hj => ?_⟩, ?_⟩
      · have hq := h2 i hi
        rcases hi with rfl | rfl | rfl | rfl | rfl <;> exact hq
      · have hq := h3 i j hi
        rcases hi with rfl | rfl | rfl
        all_goals
          by_cases e : j = k
          · subst e; exact pk_us
          · exact (pk_un e).trans (hq (by omega))
      · show fn_M_takeOver_109 _ _ (N + 1) _ _ _ _ = _
        rw [fn_M_takeOver_109]
        simp (disch := omega) only [z_lit, z_mm, z_eqm, z_eqm', z_ltm, z_ltm', z_lem, z_lem', nI_leI, nI_ltI, nI_eq, nI_toInt, nI_clamp, nI_add, pk_mul, pk_sub, pk_div, z_rem, z_shr1, z_and1, decide_eq_true_eq, if_pos, if_neg, Option.bind_some, ite_true, ite_false, eq_self, not_false_eq_true, not_true_eq_false])
    (fun N y _ => by
      show fn_M_takeOver_109 _ _ (N + 1) _ _ _ _ = _
      rw [fn_M_takeOver_109]
      simp (disch := omega) only [z_lit, z_mm, z_eqm, z_eqm', z_ltm, z_ltm', z_lem, z_lem', nI_leI, nI_ltI, nI_eq, nI_toInt, nI_clamp, nI_add, pk_mul, pk_sub, pk_div, z_rem, z_shr1, z_and1, decide_eq_true_eq, if_pos, if_neg, Option.bind_some, ite_true, ite_false, eq_self, not_false_eq_true, not_true_eq_false]) (N := am_NF) (k := 0) (s := ds) (by omega) (by rw [z_NF]; omega) ⟨rfl, rfl, fun _ _ => rfl, fun i j _ hj => absurd hj (by omega)⟩
  obtain ⟨y1, ⟨a0, a1⟩, e1⟩ := L1 (fun th_2 ds_2 nw_2 => fn_M_takeOver_35 nd (fun th_3 ds_3 nw_3 => fn_M_takeOver_109 nd (fun th_4 ds_4 nw_4 => (fn_M_reset th_4 ds_4 nw_4).bind fun q4 => some (q4.1, ds_4, q4.2)) am_NF (nI 0) th_3 ds_3 nw_3) am_NF (nI 0) th_2 ds_2 nw_2) (nd.1, ds.2.1, ds.2.2.1, ds.2.2.2.1, ds.2.2.2.2.1, ds.2.2.2.2.2.1, ds.2.2.2.2.2.2.1, ds.2.2.2.2.2.2.2.1, ds.2.2.2.2.2.2.2.2.1, ds.2.2.2.2.2.2.2.2.2)
  obtain ⟨y2, ⟨c0, c1, c2⟩, e2⟩ := L2 (fun th_3 ds_3 nw_3 => fn_M_takeOver_109 nd (fun th_4 ds_4 nw_4 => (fn_M_reset th_4 ds_4 nw_4).bind fun q4 => some (q4.1, ds_4, q4.2)) am_NF (nI 0) th_3 ds_3 nw_3) y1
  obtain ⟨y3, ⟨d0, d1, d2, d3⟩, e3⟩ := L3 (fun th_4 ds_4 nw_4 => (fn_M_reset th_4 ds_4 nw_4).bind fun q4 => some (q4.1, ds_4, q4.2)) y2
  have hMD : MD y3 D := by
    refine ⟨by rw [d0, c0, a0]; exact h.1, fun i hi => by rw [d1, c1, a1 i hi]; exact h.2.1 i hi, fun i k hi hk => ?_⟩
    have h60 := Vb_60 hb hi
    have hbase := h.2.2 i k hi hk
    by_cases hg : i = 3 ∨ i = 6 ∨ i = 7
    · rw [d3 i k hg (by omega)]; exact hbase
    · have hs : i = 0 ∨ i = 1 ∨ i = 2 ∨ i = 4 ∨ i = 5 := by omega
      have hk8 : k < 8 := by
        rcases hs with rfl | rfl | rfl | rfl | rfl
        · have hk : k < D.2.1 0 := hk
          omega
        · have hk : k < D.2.1 1 := hk
          omega
        · have hk : k < D.2.1 2 := hk
          omega
        · have hk : k < D.2.1 1 := hk
          omega
        · have hk : k < D.2.1 1 := hk
          omega
      rw [d2 i hs, c2 i k hs hk8]; exact hbase
  have hz : CD ((fun i k => nI (D.2.2 i k)), (fun i => nI (D.2.1 i)), (fun _ => 0), (fun _ => 0), nI D.1, 0) D := ⟨rfl, fun _ _ => rfl, fun _ _ _ _ => rfl⟩
  obtain ⟨th', nw', -, r1, r2⟩ := P_reset (th := th) (nw := nw) hz hMD hV
  refine ⟨th', y3, nw', ?_, hMD, r2⟩
  unfold fn_M_takeOver
  simp only [z_lit]
  refine e1.trans (e2.trans (e3.trans ?_))
  rw [r1]
  rfl
