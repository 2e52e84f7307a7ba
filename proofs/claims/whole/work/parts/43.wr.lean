/-! IN ORDER, of both sides -/
def IO (D : De) : Prop := D.1 = D.2.1 0 + D.2.1 1 + D.2.1 3 ∧ (∀ k, k < D.2.1 0 → D.2.2 0 k = 2 * (0 + k + 1)) ∧ (∀ k, k < D.2.1 1 → D.2.2 1 k = 2 * (D.2.1 0 + k + 1)) ∧ (∀ k, k < D.2.1 3 → D.2.2 3 k = 2 * (D.2.1 0 + D.2.1 1 + k + 1)) ∧ ∀ k, k < D.2.1 3 → D.2.2 6 k < D.2.2 3 k ∧ D.2.2 7 k ≤ D.2.2 6 k
theorem C_countsUp {d : SD} {D : De} (h : CD d D) (hV : Vd D) {i c : Nat} (hi : i < 8) (hc : c ≤ 100) :
    ((∀ k, k < D.2.1 (dk i) → D.2.2 i k = 2 * (c + k + 1)) → fn_D_countsUp (nI i) (nI c) d = some (nI 1)) ∧ ((¬ ∀ k, k < D.2.1 (dk i) → D.2.2 i k = 2 * (c + k + 1)) → fn_D_countsUp (nI i) (nI c) d = some (nI 0)) := by
  have hb := hV.1
  have h60 := Vb_60 hb hi
  have hmn : fn_D_many (nI i) d = some (nI (D.2.1 (dk i))) := C_many h hi
  obtain ⟨a, b⟩ := z_all (fun N k => fn_D_countsUp_2 (nI i) (nI c) d (some (nI 1)) N (nI k)) (some (nI 1)) (some (nI 0)) (D.2.1 (dk i)) (fun k => D.2.2 i k = 2 * (c + k + 1))
    (fun N k hk hp => by
      have hp : D.2.2 i k = 2 * (c + k + 1) := hp
      show fn_D_countsUp_2 _ _ _ _ (N + 1) _ = _
      rw [fn_D_countsUp_2]
      have hg : fn_D_get (nI i) (nI k) d = some (nI (D.2.2 i k)) := C_getD h hb hi hk
      have hlt := hV.2.1 i k hi hk
      simp (disch := omega) only [z_lit, z_mm, z_eqm, z_eqm', z_ltm, z_ltm', z_lem, z_lem', nI_leI, nI_ltI, nI_eq, nI_toInt, nI_clamp, nI_add, pk_mul, pk_sub, pk_div, z_rem, z_shr1, z_and1, decide_eq_true_eq, if_pos, if_neg, Option.bind_some, ite_true, ite_false, eq_self, not_false_eq_true, not_true_eq_false, hmn, hg])
    (fun N k hk hp => by
      have hp : ¬ D.2.2 i k = 2 * (c + k + 1) := hp
      show fn_D_countsUp_2 _ _ _ _ (N + 1) _ = _
      rw [fn_D_countsUp_2]
      have hg : fn_D_get (nI i) (nI k) d = some (nI (D.2.2 i k)) := C_getD h hb hi hk
      have hlt := hV.2.1 i k hi hk
      simp (disch := omega) only [z_lit, z_mm, z_eqm, z_eqm', z_ltm, z_ltm', z_lem, z_lem', nI_leI, nI_ltI, nI_eq, nI_toInt, nI_clamp, nI_add, pk_mul, pk_sub, pk_div, z_rem, z_shr1, z_and1, decide_eq_true_eq, if_pos, if_neg, Option.bind_some, ite_true, ite_false, eq_self, not_false_eq_true, not_true_eq_false, hmn, hg])
    (fun N => by
      show fn_D_countsUp_2 _ _ _ _ (N + 1) _ = _
      rw [fn_D_countsUp_2]
      simp (disch := omega) only [z_lit, z_mm, z_eqm, z_eqm', z_ltm, z_ltm', z_lem, z_lem', nI_leI, nI_ltI, nI_eq, nI_toInt, nI_clamp, nI_add, pk_mul, pk_sub, pk_div, z_rem, z_shr1, z_and1, decide_eq_true_eq, if_pos, if_neg, Option.bind_some, ite_true, ite_false, eq_self, not_false_eq_true, not_true_eq_false, hmn]) (N := am_NF) (k := 0) (by omega) (by rw [z_NF]; omega)
  exact ⟨fun hh => a fun j _ hj => hh j hj, fun hh => b fun h' => hh fun k hk => h' k (by omega) hk⟩
theorem C_lookBack {d : SD} {D : De} (h : CD d D) (hV : Vd D) :
    ((∀ k, k < D.2.1 3 → D.2.2 6 k < D.2.2 3 k ∧ D.2.2 7 k ≤ D.2.2 6 k) → fn_D_gatesLookBack d = some (nI 1)) ∧ ((¬ ∀ k, k < D.2.1 3 → D.2.2 6 k < D.2.2 3 k ∧ D.2.2 7 k ≤ D.2.2 6 k) → fn_D_gatesLookBack d = some (nI 0)) := by
  have hb := hV.1
  have h60 : D.2.1 3 ≤ 60 := hb.2.2.2.2
  have hmn : fn_D_many (nI 3) d = some (nI (D.2.1 3)) := C_many h (by omega)
  obtain ⟨a, b⟩ := z_all (fun N k => fn_D_gatesLookBack_2 d (some (nI 1)) N (nI k)) (some (nI 1)) (some (nI 0)) (D.2.1 3) (fun k => D.2.2 6 k < D.2.2 3 k ∧ D.2.2 7 k ≤ D.2.2 6 k)
    (fun N k hk hp => by
      have hp : D.2.2 6 k < D.2.2 3 k ∧ D.2.2 7 k ≤ D.2.2 6 k := hp
      show fn_D_gatesLookBack_2 _ _ (N + 1) _ = _
      rw [fn_D_gatesLookBack_2]
      have g3 : fn_D_get (nI 3) (nI k) d = some (nI (D.2.2 3 k)) := C_getD h hb (by omega) hk
      have g6 : fn_D_get (nI 6) (nI k) d = some (nI (D.2.2 6 k)) := C_getD h hb (by omega) hk
      have g7 : fn_D_get (nI 7) (nI k) d = some (nI (D.2.2 7 k)) := C_getD h hb (by omega) hk
      have l3 := hV.2.1 3 k (by omega) hk
      have l6 := hV.2.1 6 k (by omega) hk
      have l7 := hV.2.1 7 k (by omega) hk
      simp (disch := omega) only [z_lit, z_mm, z_eqm, z_eqm', z_ltm, z_ltm', z_lem, z_lem', nI_leI, nI_ltI, nI_eq, nI_toInt, nI_clamp, nI_add, pk_mul, pk_sub, pk_div, z_rem, z_shr1, z_and1, decide_eq_true_eq, if_pos, if_neg, Option.bind_some, ite_true, ite_false, eq_self, not_false_eq_true, not_true_eq_false, hmn, g3, g6, g7])
    (fun N k hk hp => by
      have hp : ¬ (D.2.2 6 k < D.2.2 3 k ∧ D.2.2 7 k ≤ D.2.2 6 k) := hp
      show fn_D_gatesLookBack_2 _ _ (N + 1) _ = _
      rw [fn_D_gatesLookBack_2]
      have g3 : fn_D_get (nI 3) (nI k) d = some (nI (D.2.2 3 k)) := C_getD h hb (by omega) hk
      have g6 : fn_D_get (nI 6) (nI k) d = some (nI (D.2.2 6 k)) := C_getD h hb (by omega) hk
      have g7 : fn_D_get (nI 7) (nI k) d = some (nI (D.2.2 7 k)) := C_getD h hb (by omega) hk
      have l3 := hV.2.1 3 k (by omega) hk
      have l6 := hV.2.1 6 k (by omega) hk
      have l7 := hV.2.1 7 k (by omega) hk
      by_cases h6 : D.2.2 6 k < D.2.2 3 k
      · simp (disch := omega) only [z_lit, z_mm, z_eqm, z_eqm', z_ltm, z_ltm', z_lem, z_lem', nI_leI, nI_ltI, nI_eq, nI_toInt, nI_clamp, nI_add, pk_mul, pk_sub, pk_div, z_rem, z_shr1, z_and1, decide_eq_true_eq, if_pos, if_neg, Option.bind_some, ite_true, ite_false, eq_self, not_false_eq_true, not_true_eq_false, hmn, g3, g6, g7]
      · simp (disch := omega) only [z_lit, z_mm, z_eqm, z_eqm', z_ltm, z_ltm', z_lem, z_lem', nI_leI, nI_ltI, nI_eq, nI_toInt, nI_clamp, nI_add, pk_mul, pk_sub, pk_div, z_rem, z_shr1, z_and1, decide_eq_true_eq, if_pos, if_neg, Option.bind_some, ite_true, ite_false, eq_self, not_false_eq_true, not_true_eq_false, hmn, g3, g6, g7])
    (fun N => by
      show fn_D_gatesLookBack_2 _ _ (N + 1) _ = _
      rw [fn_D_gatesLookBack_2]
      simp (disch := omega) only [z_lit, z_mm, z_eqm, z_eqm', z_ltm, z_ltm', z_lem, z_lem', nI_leI, nI_ltI, nI_eq, nI_toInt, nI_clamp, nI_add, pk_mul, pk_sub, pk_div, z_rem, z_shr1, z_and1, decide_eq_true_eq, if_pos, if_neg, Option.bind_some, ite_true, ite_false, eq_self, not_false_eq_true, not_true_eq_false, hmn]) (N := am_NF) (k := 0) (by omega) (by rw [z_NF]; omega)
  exact ⟨fun hh => a fun j _ hj => hh j hj, fun hh => b fun h' => hh fun k hk => h' k (by omega) hk⟩
theorem C_inOrder {d : SD} {D : De} (h : CD d D) (hV : Vd D) : (IO D → fn_D_inOrder d = some (nI 1)) ∧ (¬ IO D → fn_D_inOrder d = some (nI 0)) := by
  have hb := hV.1
  obtain ⟨b0, b1, b2, b3, b4⟩ := id hb
  have m0 : fn_D_many (nI 0) d = some (nI (D.2.1 0)) := C_many h (by omega)
  have m1' : fn_D_many (nI 1) d = some (nI (D.2.1 1)) := C_many h (by omega)
  have m3 : fn_D_many (nI 3) d = some (nI (D.2.1 3)) := C_many h (by omega)
  obtain ⟨u0, v0⟩ := C_countsUp h hV (i := 0) (c := 0) (by omega) (by omega)
  obtain ⟨u1, v1⟩ := C_countsUp h hV (i := 1) (c := D.2.1 0) (by omega) (by omega)
  obtain ⟨u3, v3⟩ := C_countsUp h hV (i := 3) (c := D.2.1 0 + D.2.1 1) (by omega) (by omega)
  obtain ⟨u6, v6⟩ := C_lookBack h hV
  have hm := h.1
  unfold fn_D_inOrder
  refine ⟨fun hI => ?_, fun hI => ?_⟩
  · obtain ⟨i0, i1, i2, i3, i4⟩ := hI
    simp (disch := omega) only [z_lit, z_mm, z_eqm, z_eqm', z_ltm, z_ltm', z_lem, z_lem', nI_leI, nI_ltI, nI_eq, nI_toInt, nI_clamp, nI_add, pk_mul, pk_sub, pk_div, z_rem, z_shr1, z_and1, decide_eq_true_eq, if_pos, if_neg, Option.bind_some, ite_true, ite_false, eq_self, not_false_eq_true, not_true_eq_false, m0, m1', m3, hm, u0 i1, u1 i2, u3 i3, u6 i4]
  · by_cases i0 : D.1 = D.2.1 0 + D.2.1 1 + D.2.1 3
    · by_cases i1 : ∀ k, k < D.2.1 0 → D.2.2 0 k = 2 * (0 + k + 1)
      · by_cases i2 : ∀ k, k < D.2.1 1 → D.2.2 1 k = 2 * (D.2.1 0 + k + 1)
        · by_cases i3 : ∀ k, k < D.2.1 3 → D.2.2 3 k = 2 * (D.2.1 0 + D.2.1 1 + k + 1)
          · by_cases i4 : ∀ k, k < D.2.1 3 → D.2.2 6 k < D.2.2 3 k ∧ D.2.2 7 k ≤ D.2.2 6 k
            · exact absurd ⟨i0, i1, i2, i3, i4⟩ hI
            · simp (disch := omega) only [z_lit, z_mm, z_eqm, z_eqm', z_ltm, z_ltm', z_lem, z_lem', nI_leI, nI_ltI, nI_eq, nI_toInt, nI_clamp, nI_add, pk_mul, pk_sub, pk_div, z_rem, z_shr1, z_and1, decide_eq_true_eq, if_pos, if_neg, Option.bind_some, ite_true, ite_false, eq_self, not_false_eq_true, not_true_eq_false, m0, m1', m3, hm, u0 i1, u1 i2, u3 i3, v6 i4]
          · simp (disch := omega) only [z_lit, z_mm, z_eqm, z_eqm', z_ltm, z_ltm', z_lem, z_lem', nI_leI, nI_ltI, nI_eq, nI_toInt, nI_clamp, nI_add, pk_mul, pk_sub, pk_div, z_rem, z_shr1, z_and1, decide_eq_true_eq, if_pos, if_neg, Option.bind_some, ite_true, ite_false, eq_self, not_false_eq_true, not_true_eq_false, m0, m1', m3, hm, u0 i1, u1 i2, v3 i3]
        · simp (disch := omega) only [z_lit, z_mm, z_eqm, z_eqm', z_ltm, z_ltm', z_lem, z_lem', nI_leI, nI_ltI, nI_eq, nI_toInt, nI_clamp, nI_add, pk_mul, pk_sub, pk_div, z_rem, z_shr1, z_and1, decide_eq_true_eq, if_pos, if_neg, Option.bind_some, ite_true, ite_false, eq_self, not_false_eq_true, not_true_eq_false, m0, m1', m3, hm, u0 i1, v1 i2]
      · simp (disch := omega) only [z_lit, z_mm, z_eqm, z_eqm', z_ltm, z_ltm', z_lem, z_lem', nI_leI, nI_ltI, nI_eq, nI_toInt, nI_clamp, nI_add, pk_mul, pk_sub, pk_div, z_rem, z_shr1, z_and1, decide_eq_true_eq, if_pos, if_neg, Option.bind_some, ite_true, ite_false, eq_self, not_false_eq_true, not_true_eq_false, m0, m1', m3, hm, v0 i1]
    · simp (disch := omega) only [z_lit, z_mm, z_eqm, z_eqm', z_ltm, z_ltm', z_lem, z_lem', nI_leI, nI_ltI, nI_eq, nI_toInt, nI_clamp, nI_add, pk_mul, pk_sub, pk_div, z_rem, z_shr1, z_and1, decide_eq_true_eq, if_pos, if_neg, Option.bind_some, ite_true, ite_false, eq_self, not_false_eq_true, not_true_eq_false, m0, m1', m3, hm]
/-- so far all good, or not -/
def Gd (x : Int32) (P : Prop) : Prop := (x = nI 1 ∧ P) ∨ (x = nI 0 ∧ ¬ P)
theorem M_isOrdered {ds : Mds} {D : De} (h : MD ds D) (hV : Vd D) : (IO D → fn_M_isOrdered ds = some (nI 1)) ∧ (¬ IO D → fn_M_isOrdered ds = some (nI 0)) := by
  have hb := hV.1
  have hl := hV.2.1
  obtain ⟨b0, b1, b2, b3, b4⟩ := id hb
  have hm := h.1
  have c0 : ds.2.1 0 = nI (D.2.1 0) := h.2.1 0 (by omega)
  have c1 : ds.2.1 1 = nI (D.2.1 1) := h.2.1 1 (by omega)
  have c3 : ds.2.1 3 = nI (D.2.1 3) := h.2.1 3 (by omega)
  have L1 := fun (κ : Int32 → Int32 → Option Int32) => z_loop (fun N k (x : Int32 × Int32) => fn_M_isOrdered_6 ds κ N x.1 x.2 (nI k)) (fun x => κ x.1 x.2) (D.2.1 0) (fun k x => x.1 = nI (2 * k) ∧ Gd x.2 (∀ j, j < k → D.2.2 0 j = 2 * (0 + j + 1)))
    (fun N k x hk ⟨h1, h2⟩ => by
      obtain ⟨x1, x2⟩ := x
      have h1 : x1 = nI (2 * k) := h1
      subst h1
      have e : ds.2.2.1 k = nI (D.2.2 0 k) := h.2.2 0 k (by omega) hk
      have hlt := hl 0 k (by omega) hk
      rcases h2 with ⟨h2, h3⟩ | ⟨h2, h3⟩
      · have h2 : x2 = nI 1 := h2
        subst h2
        by_cases hp : D.2.2 0 k = 2 * (0 + k + 1)
        · refine ⟨(nI (2 * (k + 1)), nI 1), ⟨rfl, Or.inl ⟨rfl, fun j hj => ?_⟩⟩, ?_⟩
          · by_cases ej : j = k
            · rw [ej]; exact hp
            · exact h3 j (by omega)
          · show fn_M_isOrdered_6 _ _ (N + 1) _ _ _ = _
            rw [fn_M_isOrdered_6]
            simp (disch := omega) only [z_lit, z_mm, z_eqm, z_eqm', z_ltm, z_ltm', z_lem, z_lem', nI_leI, nI_ltI, nI_eq, nI_toInt, nI_clamp, nI_add, pk_mul, pk_sub, pk_div, z_rem, z_shr1, z_and1, decide_eq_true_eq, if_pos, if_neg, Option.bind_some, ite_true, ite_false, eq_self, not_false_eq_true, not_true_eq_false, c0, e]
            rfl
        · refine ⟨(nI (2 * (k + 1)), nI 0), ⟨rfl, Or.inr ⟨rfl, fun hh => hp (hh k (by omega))⟩⟩, ?_⟩
          show fn_M_isOrdered_6 _ _ (N + 1) _ _ _ = _
          rw [fn_M_isOrdered_6]
          simp (disch := omega) only [z_lit, z_mm, z_eqm, z_eqm', z_ltm, z_ltm', z_lem, z_lem', nI_leI, nI_ltI, nI_eq, nI_toInt, nI_clamp, nI_add, pk_mul, pk_sub, pk_div, z_rem, z_shr1, z_and1, decide_eq_true_eq, if_pos, if_neg, Option.bind_some, ite_true, ite_false, eq_self, not_false_eq_true, not_true_eq_false, c0, e]
          rfl
      · have h2 : x2 = nI 0 := h2
        subst h2
        refine ⟨(nI (2 * (k + 1)), nI 0), ⟨rfl, Or.inr ⟨rfl, fun hh => h3 fun j hj => hh j (by omega)⟩⟩, ?_⟩
        show fn_M_isOrdered_6 _ _ (N + 1) _ _ _ = _
        rw [fn_M_isOrdered_6]
        simp (disch := omega) only [z_lit, z_mm, z_eqm, z_eqm', z_ltm, z_ltm', z_lem, z_lem', nI_leI, nI_ltI, nI_eq, nI_toInt, nI_clamp, nI_add, pk_mul, pk_sub, pk_div, z_rem, z_shr1, z_and1, decide_eq_true_eq, if_pos, if_neg, Option.bind_some, ite_true, ite_false, eq_self, not_false_eq_true, not_true_eq_false, c0, e]
        rfl)
    (fun N x _ => by
      show fn_M_isOrdered_6 _ _ (N + 1) _ _ _ = _
      rw [fn_M_isOrdered_6]
      simp (disch := omega) only [z_lit, z_mm, z_eqm, z_eqm', z_ltm, z_ltm', z_lem, z_lem', nI_leI, nI_ltI, nI_eq, nI_toInt, nI_clamp, nI_add, pk_mul, pk_sub, pk_div, z_rem, z_shr1, z_and1, decide_eq_true_eq, if_pos, if_neg, Option.bind_some, ite_true, ite_false, eq_self, not_false_eq_true, not_true_eq_false, c0]) (N := am_NF) (k := 0) (s := (nI 0, nI 1)) (by omega) (by rw [z_NF]; omega) ⟨rfl, Or.inl ⟨rfl, fun j hj => absurd hj (by omega)⟩⟩
  have L2 := fun (κ : Int32 → Int32 → Option Int32) (x : Int32 × Int32) (P : Prop) (hx : x.1 = nI (2 * D.2.1 0) ∧ Gd x.2 P) => z_loop (fun N k (x : Int32 × Int32) => fn_M_isOrdered_47 ds κ N x.1 x.2 (nI k)) (fun x => κ x.1 x.2) (D.2.1 1) (fun k x => x.1 = nI (2 * (D.2.1 0 + k)) ∧ Gd x.2 (P ∧ ∀ j, j < k → D.2.2 1 j = 2 * (D.2.1 0 + j + 1)))
    (fun N k x hk ⟨h1, h2⟩ => by
      obtain ⟨x1, x2⟩ := x
      have h1 : x1 = nI (2 * (D.2.1 0 + k)) := h1
      subst h1
      have e : ds.2.2.2.1 k = nI (D.2.2 1 k) := h.2.2 1 k (by omega) hk
      have hlt := hl 1 k (by omega) hk
      rcases h2 with ⟨h2, h0, h3⟩ | ⟨h2, h3⟩
      · have h2 : x2 = nI 1 := h2
        subst h2
        by_cases hp : D.2.2 1 k = 2 * (D.2.1 0 + k + 1)
        · refine ⟨(nI (2 * (D.2.1 0 + (k + 1))), nI 1), ⟨rfl, Or.inl ⟨rfl, h0, fun j hj => ?_⟩⟩, ?_⟩
          · by_cases ej : j = k
            · rw [ej]; exact hp
            · exact h3 j (by omega)
          · show fn_M_isOrdered_47 _ _ (N + 1) _ _ _ = _
            rw [fn_M_isOrdered_47]
            simp (disch := omega) only [z_lit, z_mm, z_eqm, z_eqm', z_ltm, z_ltm', z_lem, z_lem', nI_leI, nI_ltI, nI_eq, nI_toInt, nI_clamp, nI_add, pk_mul, pk_sub, pk_div, z_rem, z_shr1, z_and1, decide_eq_true_eq, if_pos, if_neg, Option.bind_some, ite_true, ite_false, eq_self, not_false_eq_true, not_true_eq_false, c1, e]
            rfl
        · refine ⟨(nI (2 * (D.2.1 0 + (k + 1))), nI 0), ⟨rfl, Or.inr ⟨rfl, fun hh => hp (hh.2 k (by omega))⟩⟩, ?_⟩
          show fn_M_isOrdered_47 _ _ (N + 1) _ _ _ = _
          rw [fn_M_isOrdered_47]
          simp (disch := omega) only [z_lit, z_mm, z_eqm, z_eqm', z_ltm, z_ltm', z_lem, z_lem', nI_leI, nI_ltI, nI_eq, nI_toInt, nI_clamp, nI_add, pk_mul, pk_sub, pk_div, z_rem, z_shr1, z_and1, decide_eq_true_eq, if_pos, if_neg, Option.bind_some, ite_true, ite_false, eq_self, not_false_eq_true, not_true_eq_false, c1, e]
          rfl
      · have h2 : x2 = nI 0 := h2
        subst h2
        refine ⟨(nI (2 * (D.2.1 0 + (k + 1))), nI 0), ⟨rfl, Or.inr ⟨rfl, fun hh => h3 ⟨hh.1, fun j hj => hh.2 j (by omega)⟩⟩⟩, ?_⟩
        show fn_M_isOrdered_47 _ _ (N + 1) _ _ _ = _
        rw [fn_M_isOrdered_47]
        simp (disch := omega) only [z_lit, z_mm, z_eqm, z_eqm', z_ltm, z_ltm', z_lem, z_lem', nI_leI, nI_ltI, nI_eq, nI_toInt, nI_clamp, nI_add, pk_mul, pk_sub, pk_div, z_rem, z_shr1, z_and1, decide_eq_true_eq, if_pos, if_neg, Option.bind_some, ite_true, ite_false, eq_self, not_false_eq_true, not_true_eq_false, c1, e]
        rfl)
    (fun N x _ => by
      show fn_M_isOrdered_47 _ _ (N + 1) _ _ _ = _
      rw [fn_M_isOrdered_47]
      simp (disch := omega) only [z_lit, z_mm, z_eqm, z_eqm', z_ltm, z_ltm', z_lem, z_lem', nI_leI, nI_ltI, nI_eq, nI_toInt, nI_clamp, nI_add, pk_mul, pk_sub, pk_div, z_rem, z_shr1, z_and1, decide_eq_true_eq, if_pos, if_neg, Option.bind_some, ite_true, ite_false, eq_self, not_false_eq_true, not_true_eq_false, c1]) (N := am_NF) (k := 0) (s := x) (by omega) (by rw [z_NF]; omega) ⟨hx.1, hx.2.elim (fun z => Or.inl ⟨z.1, z.2, fun j hj => absurd hj (by omega)⟩) (fun z => Or.inr ⟨z.1, fun hh => z.2 hh.1⟩)⟩
  have L3 := fun (κ : Int32 → Int32 → Option Int32) (x : Int32 × Int32) (P : Prop) (hx : x.1 = nI (2 * (D.2.1 0 + D.2.1 1)) ∧ Gd x.2 P) => z_loop (fun N k (x : Int32 × Int32) => fn_M_isOrdered_88 ds κ N x.1 x.2 (nI k)) (fun x => κ x.1 x.2) (D.2.1 3) (fun k x => x.1 = nI (2 * (D.2.1 0 + D.2.1 1 + k)) ∧ Gd x.2 (P ∧ ∀ j, j < k → D.2.2 3 j = 2 * (D.2.1 0 + D.2.1 1 + j + 1) ∧ D.2.2 6 j < D.2.2 3 j ∧ D.2.2 7 j ≤ D.2.2 6 j))
    (fun N k x hk ⟨h1, h2⟩ => by
      obtain ⟨x1, x2⟩ := x
      have h1 : x1 = nI (2 * (D.2.1 0 + D.2.1 1 + k)) := h1
      subst h1
      have e3 : ds.2.2.2.2.2.2.2.1 k = nI (D.2.2 3 k) := h.2.2 3 k (by omega) hk
      have e6 : ds.2.2.2.2.2.2.2.2.1 k = nI (D.2.2 6 k) := h.2.2 6 k (by omega) hk
      have e7 : ds.2.2.2.2.2.2.2.2.2 k = nI (D.2.2 7 k) := h.2.2 7 k (by omega) hk
      have hlt3 := hl 3 k (by omega) hk
      have hlt6 := hl 6 k (by omega) hk
      have hlt7 := hl 7 k (by omega) hk
      rcases h2 with ⟨h2, h0, h3⟩ | ⟨h2, h3⟩
      · have h2 : x2 = nI 1 := h2
        subst h2
        by_cases hp : D.2.2 3 k = 2 * (D.2.1 0 + D.2.1 1 + k + 1) ∧ D.2.2 6 k < D.2.2 3 k ∧ D.2.2 7 k ≤ D.2.2 6 k
        · refine ⟨(nI (2 * (D.2.1 0 + D.2.1 1 + (k + 1))), nI 1), ⟨rfl, Or.inl ⟨rfl, h0, fun j hj => ?_⟩⟩, ?_⟩
          · by_cases ej : j = k
            · rw [ej]; exact hp
            · exact h3 j (by omega)
          · show fn_M_isOrdered_88 _ _ (N + 1) _ _ _ = _
            rw [fn_M_isOrdered_88]
            simp (disch := omega) only [z_lit, z_mm, z_eqm, z_eqm', z_ltm, z_ltm', z_lem, z_lem', nI_leI, nI_ltI, nI_eq, nI_toInt, nI_clamp, nI_add, pk_mul, pk_sub, pk_div, z_rem, z_shr1, z_and1, decide_eq_true_eq, if_pos, if_neg, Option.bind_some, ite_true, ite_false, eq_self, not_false_eq_true, not_true_eq_false, c3, e3, e6, e7]
            rfl
        · refine ⟨(nI (2 * (D.2.1 0 + D.2.1 1 + (k + 1))), nI 0), ⟨rfl, Or.inr ⟨rfl, fun hh => hp (hh.2 k (by omega))⟩⟩, ?_⟩
          show fn_M_isOrdered_88 _ _ (N + 1) _ _ _ = _
          rw [fn_M_isOrdered_88]
          by_cases p3 : D.2.2 3 k = 2 * (D.2.1 0 + D.2.1 1 + k + 1)
          · by_cases p6 : D.2.2 6 k < D.2.2 3 k
            · simp (disch := omega) only [z_lit, z_mm, z_eqm, z_eqm', z_ltm, z_ltm', z_lem, z_lem', nI_leI, nI_ltI, nI_eq, nI_toInt, nI_clamp, nI_add, pk_mul, pk_sub, pk_div, z_rem, z_shr1, z_and1, decide_eq_true_eq, if_pos, if_neg, Option.bind_some, ite_true, ite_false, eq_self, not_false_eq_true, not_true_eq_false, c3, e3, e6, e7]
              rfl
            · simp (disch := omega) only [z_lit, z_mm, z_eqm, z_eqm', z_ltm, z_ltm', z_lem, z_lem', nI_leI, nI_ltI, nI_eq, nI_toInt, nI_clamp, nI_add, pk_mul, pk_sub, pk_div, z_rem, z_shr1, z_and1, decide_eq_true_eq, if_pos, if_neg, Option.bind_some, ite_true, ite_false, eq_self, not_false_eq_true, not_true_eq_false, c3, e3, e6, e7]
              rfl
          · simp (disch := omega) only [z_lit, z_mm, z_eqm, z_eqm', z_ltm, z_ltm', z_lem, z_lem', nI_leI, nI_ltI, nI_eq, nI_toInt, nI_clamp, nI_add, pk_mul, pk_sub, pk_div, z_rem, z_shr1, z_and1, decide_eq_true_eq, if_pos, if_neg, Option.bind_some, ite_true, ite_false, eq_self, not_false_eq_true, not_true_eq_false, c3, e3, e6, e7]
            rfl
      · have h2 : x2 = nI 0 := h2
        subst h2
        refine ⟨(nI (2 * (D.2.1 0 + D.2.1 1 + (k + 1))), nI 0), ⟨rfl, Or.inr ⟨rfl, fun hh => h3 ⟨hh.1, fun j hj => hh.2 j (by omega)⟩⟩⟩, ?_⟩
        show fn_M_isOrdered_88 _ _ (N + 1) _ _ _ = _
        rw [fn_M_isOrdered_88]
        simp (disch := omega) only [z_lit, z_mm, z_eqm, z_eqm', z_ltm, z_ltm', z_lem, z_lem', nI_leI, nI_ltI, nI_eq, nI_toInt, nI_clamp, nI_add, pk_mul, pk_sub, pk_div, z_rem, z_shr1, z_and1, decide_eq_true_eq, if_pos, if_neg, Option.bind_some, ite_true, ite_false, eq_self, not_false_eq_true, not_true_eq_false, c3, e3]
        rfl)
    (fun N x _ => by
      show fn_M_isOrdered_88 _ _ (N + 1) _ _ _ = _
      rw [fn_M_isOrdered_88]
      simp (disch := omega) only [z_lit, z_mm, z_eqm, z_eqm', z_ltm, z_ltm', z_lem, z_lem', nI_leI, nI_ltI, nI_eq, nI_toInt, nI_clamp, nI_add, pk_mul, pk_sub, pk_div, z_rem, z_shr1, z_and1, decide_eq_true_eq, if_pos, if_neg, Option.bind_some, ite_true, ite_false, eq_self, not_false_eq_true, not_true_eq_false, c3]) (N := am_NF) (k := 0) (s := x) (by omega) (by rw [z_NF]; omega) ⟨hx.1, hx.2.elim (fun z => Or.inl ⟨z.1, z.2, fun j hj => absurd hj (by omega)⟩) (fun z => Or.inr ⟨z.1, fun hh => z.2 hh.1⟩)⟩
  obtain ⟨y1, hy1, e1⟩ := L1 (fun x1_2 x2_2 =>
    fn_M_isOrdered_47 ds (fun x1_3 x2_3 =>
      fn_M_isOrdered_88 ds (fun x1_4 x2_4 =>
        if decide (x2_4 = 0) then
          some (0 : Int32)
        else
          if decide (x1_4 = ((2 : Int32) * ds.1)) then
            some (1 : Int32)
          else
            some (0 : Int32)) am_NF x1_3 x2_3 (0 : Int32)) am_NF x1_2 x2_2 (0 : Int32))
  obtain ⟨y2, hy2, e2⟩ := L2 (fun x1_3 x2_3 =>
      fn_M_isOrdered_88 ds (fun x1_4 x2_4 =>
        if decide (x2_4 = 0) then
          some (0 : Int32)
        else
          if decide (x1_4 = ((2 : Int32) * ds.1)) then
            some (1 : Int32)
          else
            some (0 : Int32)) am_NF x1_3 x2_3 (0 : Int32)) y1 _ hy1
  obtain ⟨y3, hy3, e3⟩ := L3 (fun x1_4 x2_4 =>
        if decide (x2_4 = 0) then
          some (0 : Int32)
        else
          if decide (x1_4 = ((2 : Int32) * ds.1)) then
            some (1 : Int32)
          else
            some (0 : Int32)) y2 _ hy2
  have all : fn_M_isOrdered ds = (if decide (y3.2 = 0) then some (0 : Int32) else if decide (y3.1 = ((2 : Int32) * ds.1)) then some (1 : Int32) else some (0 : Int32)) := (e1.trans e2).trans e3
  obtain ⟨y31, y32⟩ := y3
  obtain ⟨hy31, hy32⟩ := hy3
  have hy31 : y31 = nI (2 * (D.2.1 0 + D.2.1 1 + D.2.1 3)) := hy31
  rw [all]
  refine ⟨fun hI => ?_, fun hI => ?_⟩
  · obtain ⟨i0, i1, i2, i3, i4⟩ := hI
    rcases hy32 with ⟨a, b⟩ | ⟨a, b⟩
    · have a : y32 = nI 1 := a
      simp (disch := omega) only [z_lit, z_mm, z_eqm, z_eqm', z_ltm, z_ltm', z_lem, z_lem', nI_leI, nI_ltI, nI_eq, nI_toInt, nI_clamp, nI_add, pk_mul, pk_sub, pk_div, z_rem, z_shr1, z_and1, decide_eq_true_eq, if_pos, if_neg, Option.bind_some, ite_true, ite_false, eq_self, not_false_eq_true, not_true_eq_false, a, hy31, hm]
    · exact absurd ⟨⟨i1, i2⟩, fun j hj => ⟨i3 j hj, i4 j hj⟩⟩ b
  · rcases hy32 with ⟨a, ⟨i1, i2⟩, i34⟩ | ⟨a, b⟩
    · have a : y32 = nI 1 := a
      by_cases i0 : D.1 = D.2.1 0 + D.2.1 1 + D.2.1 3
      · exact absurd ⟨i0, i1, i2, fun k hk => (i34 k hk).1, fun k hk => (i34 k hk).2⟩ hI
      · simp (disch := omega) only [z_lit, z_mm, z_eqm, z_eqm', z_ltm, z_ltm', z_lem, z_lem', nI_leI, nI_ltI, nI_eq, nI_toInt, nI_clamp, nI_add, pk_mul, pk_sub, pk_div, z_rem, z_shr1, z_and1, decide_eq_true_eq, if_pos, if_neg, Option.bind_some, ite_true, ite_false, eq_self, not_false_eq_true, not_true_eq_false, a, hy31, hm]
    · have a : y32 = nI 0 := a
      simp (disch := omega) only [z_lit, z_mm, z_eqm, z_eqm', z_ltm, z_ltm', z_lem, z_lem', nI_leI, nI_ltI, nI_eq, nI_toInt, nI_clamp, nI_add, pk_mul, pk_sub, pk_div, z_rem, z_shr1, z_and1, decide_eq_true_eq, if_pos, if_neg, Option.bind_some, ite_true, ite_false, eq_self, not_false_eq_true, not_true_eq_false, a]
theorem P_about {tx : SB} {mtx : Mtx} {t : Nat → Nat} {n : Nat} {th : Mth} {d : SD} {ds : Mds} {D : De} (hT : BR tx mtx t n) (hC : CD d D) (hM : MD ds D) (hV : Vd D) (x : Int32) :
    ∃ v th', fn_T_about x tx d = some v ∧ fn_M_about x th mtx ds = some (v, th') := by
  have k0 := C_many hC (i := 0) (by omega)
  have k1 := C_many hC (i := 1) (by omega)
  have k2 := C_many hC (i := 2) (by omega)
  have k3 := C_many hC (i := 3) (by omega)
  have c0 : ds.2.1 0 = nI (D.2.1 0) := hM.2.1 0 (by omega)
  have c1 : ds.2.1 1 = nI (D.2.1 1) := hM.2.1 1 (by omega)
  have c2 : ds.2.1 2 = nI (D.2.1 2) := hM.2.1 2 (by omega)
  have c3 : ds.2.1 3 = nI (D.2.1 3) := hM.2.1 3 (by omega)
  have hc := hC.1
  have hm := hM.1
  have t1 := hT.2.1
  have t2 := hT.2.2.1
  unfold fn_T_about fn_M_about fn_D_most fn_B_size
  by_cases x0 : x = nI 0
  · subst x0
    refine ⟨_, 0, rfl, ?_⟩
    simp (disch := omega) only [z_lit, z_mm, z_eqm, z_eqm', z_ltm, z_ltm', z_lem, z_lem', nI_leI, nI_ltI, nI_eq, nI_toInt, nI_clamp, nI_add, pk_mul, pk_sub, pk_div, z_rem, z_shr1, z_and1, decide_eq_true_eq, if_pos, if_neg, Option.bind_some, ite_true, ite_false, eq_self, not_false_eq_true, not_true_eq_false, hm, hc, Option.bind_some]
  by_cases x1 : x = nI 1
  · subst x1
    refine ⟨nI (D.2.1 0), 0, ?_, ?_⟩
    · simp (disch := omega) only [z_lit, z_mm, z_eqm, z_eqm', z_ltm, z_ltm', z_lem, z_lem', nI_leI, nI_ltI, nI_eq, nI_toInt, nI_clamp, nI_add, pk_mul, pk_sub, pk_div, z_rem, z_shr1, z_and1, decide_eq_true_eq, if_pos, if_neg, Option.bind_some, ite_true, ite_false, eq_self, not_false_eq_true, not_true_eq_false, k0, dk0]
    · simp (disch := omega) only [z_lit, z_mm, z_eqm, z_eqm', z_ltm, z_ltm', z_lem, z_lem', nI_leI, nI_ltI, nI_eq, nI_toInt, nI_clamp, nI_add, pk_mul, pk_sub, pk_div, z_rem, z_shr1, z_and1, decide_eq_true_eq, if_pos, if_neg, Option.bind_some, ite_true, ite_false, eq_self, not_false_eq_true, not_true_eq_false, c0, Nat.reduceSub]
  by_cases x2 : x = nI 2
  · subst x2
    refine ⟨nI (D.2.1 1), 0, ?_, ?_⟩
    · simp (disch := omega) only [z_lit, z_mm, z_eqm, z_eqm', z_ltm, z_ltm', z_lem, z_lem', nI_leI, nI_ltI, nI_eq, nI_toInt, nI_clamp, nI_add, pk_mul, pk_sub, pk_div, z_rem, z_shr1, z_and1, decide_eq_true_eq, if_pos, if_neg, Option.bind_some, ite_true, ite_false, eq_self, not_false_eq_true, not_true_eq_false, k1, dk1]
    · simp (disch := omega) only [z_lit, z_mm, z_eqm, z_eqm', z_ltm, z_ltm', z_lem, z_lem', nI_leI, nI_ltI, nI_eq, nI_toInt, nI_clamp, nI_add, pk_mul, pk_sub, pk_div, z_rem, z_shr1, z_and1, decide_eq_true_eq, if_pos, if_neg, Option.bind_some, ite_true, ite_false, eq_self, not_false_eq_true, not_true_eq_false, c1, Nat.reduceSub]
  by_cases x3 : x = nI 3
  · subst x3
    refine ⟨nI (D.2.1 2), 0, ?_, ?_⟩
    · simp (disch := omega) only [z_lit, z_mm, z_eqm, z_eqm', z_ltm, z_ltm', z_lem, z_lem', nI_leI, nI_ltI, nI_eq, nI_toInt, nI_clamp, nI_add, pk_mul, pk_sub, pk_div, z_rem, z_shr1, z_and1, decide_eq_true_eq, if_pos, if_neg, Option.bind_some, ite_true, ite_false, eq_self, not_false_eq_true, not_true_eq_false, k2, dk2]
    · simp (disch := omega) only [z_lit, z_mm, z_eqm, z_eqm', z_ltm, z_ltm', z_lem, z_lem', nI_leI, nI_ltI, nI_eq, nI_toInt, nI_clamp, nI_add, pk_mul, pk_sub, pk_div, z_rem, z_shr1, z_and1, decide_eq_true_eq, if_pos, if_neg, Option.bind_some, ite_true, ite_false, eq_self, not_false_eq_true, not_true_eq_false, c2, Nat.reduceSub]
  by_cases x4 : x = nI 4
  · subst x4
    refine ⟨nI (D.2.1 3), 0, ?_, ?_⟩
    · simp (disch := omega) only [z_lit, z_mm, z_eqm, z_eqm', z_ltm, z_ltm', z_lem, z_lem', nI_leI, nI_ltI, nI_eq, nI_toInt, nI_clamp, nI_add, pk_mul, pk_sub, pk_div, z_rem, z_shr1, z_and1, decide_eq_true_eq, if_pos, if_neg, Option.bind_some, ite_true, ite_false, eq_self, not_false_eq_true, not_true_eq_false, k3, dk3]
    · simp (disch := omega) only [z_lit, z_mm, z_eqm, z_eqm', z_ltm, z_ltm', z_lem, z_lem', nI_leI, nI_ltI, nI_eq, nI_toInt, nI_clamp, nI_add, pk_mul, pk_sub, pk_div, z_rem, z_shr1, z_and1, decide_eq_true_eq, if_pos, if_neg, Option.bind_some, ite_true, ite_false, eq_self, not_false_eq_true, not_true_eq_false, c3, Nat.reduceSub]
  by_cases x5 : x = nI 5
  · subst x5
    refine ⟨nI n, 0, ?_, ?_⟩
    · simp (disch := omega) only [z_lit, z_mm, z_eqm, z_eqm', z_ltm, z_ltm', z_lem, z_lem', nI_leI, nI_ltI, nI_eq, nI_toInt, nI_clamp, nI_add, pk_mul, pk_sub, pk_div, z_rem, z_shr1, z_and1, decide_eq_true_eq, if_pos, if_neg, Option.bind_some, ite_true, ite_false, eq_self, not_false_eq_true, not_true_eq_false, t1]
    · simp (disch := omega) only [z_lit, z_mm, z_eqm, z_eqm', z_ltm, z_ltm', z_lem, z_lem', nI_leI, nI_ltI, nI_eq, nI_toInt, nI_clamp, nI_add, pk_mul, pk_sub, pk_div, z_rem, z_shr1, z_and1, decide_eq_true_eq, if_pos, if_neg, Option.bind_some, ite_true, ite_false, eq_self, not_false_eq_true, not_true_eq_false, t2]
  by_cases x6 : x = nI 6
  · subst x6
    by_cases hI : IO D
    · refine ⟨nI 1, 0, ?_, ?_⟩
      · simp (disch := omega) only [z_lit, z_mm, z_eqm, z_eqm', z_ltm, z_ltm', z_lem, z_lem', nI_leI, nI_ltI, nI_eq, nI_toInt, nI_clamp, nI_add, pk_mul, pk_sub, pk_div, z_rem, z_shr1, z_and1, decide_eq_true_eq, if_pos, if_neg, Option.bind_some, ite_true, ite_false, eq_self, not_false_eq_true, not_true_eq_false, (C_inOrder hC hV).1 hI]
      · simp (disch := omega) only [z_lit, z_mm, z_eqm, z_eqm', z_ltm, z_ltm', z_lem, z_lem', nI_leI, nI_ltI, nI_eq, nI_toInt, nI_clamp, nI_add, pk_mul, pk_sub, pk_div, z_rem, z_shr1, z_and1, decide_eq_true_eq, if_pos, if_neg, Option.bind_some, ite_true, ite_false, eq_self, not_false_eq_true, not_true_eq_false, (M_isOrdered hM hV).1 hI]
    · refine ⟨nI 0, 0, ?_, ?_⟩
      · simp (disch := omega) only [z_lit, z_mm, z_eqm, z_eqm', z_ltm, z_ltm', z_lem, z_lem', nI_leI, nI_ltI, nI_eq, nI_toInt, nI_clamp, nI_add, pk_mul, pk_sub, pk_div, z_rem, z_shr1, z_and1, decide_eq_true_eq, if_pos, if_neg, Option.bind_some, ite_true, ite_false, eq_self, not_false_eq_true, not_true_eq_false, (C_inOrder hC hV).2 hI]
      · simp (disch := omega) only [z_lit, z_mm, z_eqm, z_eqm', z_ltm, z_ltm', z_lem, z_lem', nI_leI, nI_ltI, nI_eq, nI_toInt, nI_clamp, nI_add, pk_mul, pk_sub, pk_div, z_rem, z_shr1, z_and1, decide_eq_true_eq, if_pos, if_neg, Option.bind_some, ite_true, ite_false, eq_self, not_false_eq_true, not_true_eq_false, (M_isOrdered hM hV).2 hI]
  · refine ⟨m1, 0, ?_, ?_⟩
    · simp (disch := omega) only [z_lit, z_mm, z_eqm, z_eqm', z_ltm, z_ltm', z_lem, z_lem', nI_leI, nI_ltI, nI_eq, nI_toInt, nI_clamp, nI_add, pk_mul, pk_sub, pk_div, z_rem, z_shr1, z_and1, decide_eq_true_eq, if_pos, if_neg, Option.bind_some, ite_true, ite_false, eq_self, not_false_eq_true, not_true_eq_false, x0, x1, x2, x3, x4, x5, x6]
    · simp (disch := omega) only [z_lit, z_mm, z_eqm, z_eqm', z_ltm, z_ltm', z_lem, z_lem', nI_leI, nI_ltI, nI_eq, nI_toInt, nI_clamp, nI_add, pk_mul, pk_sub, pk_div, z_rem, z_shr1, z_and1, decide_eq_true_eq, if_pos, if_neg, Option.bind_some, ite_true, ite_false, eq_self, not_false_eq_true, not_true_eq_false, x0, x1, x2, x3, x4, x5, x6]
