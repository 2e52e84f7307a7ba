/-! THE REFERENCE'S findResting: gates as a table -/
theorem M_gateOf {nd : Mnd} {D : De} (h : MD nd D) (hb : Vb D) (hl : Vl D) {v : Nat} (hv : v < 100) : (∃ g, g < D.2.1 3 ∧ D.2.2 3 g / 2 = v ∧ fn_M_gateOf (nI v) nd = some (nI g)) ∨ ((∀ g, g < D.2.1 3 → D.2.2 3 g / 2 ≠ v) ∧ fn_M_gateOf (nI v) nd = some m1) := by
  have h60 : D.2.1 3 ≤ 60 := hb.2.2.2.2
  have c3 : nd.2.1 3 = nI (D.2.1 3) := h.2.1 3 (by omega)
  have r3 : ∀ k, k < D.2.1 3 → nd.2.2.2.2.2.2.2.1 k = nI (D.2.2 3 k) := fun k hk => h.2.2 3 k (by omega) hk
  have step : ∀ N k, k < D.2.1 3 → D.2.2 3 k / 2 ≠ v → fn_M_gateOf_2 (nI v) nd (some m1) (N + 1) (nI k) = fn_M_gateOf_2 (nI v) nd (some m1) N (nI (k + 1)) := fun N k hk hn => by
    have e := r3 k hk
    have hlt := hl 3 k (by omega) hk
    rw [fn_M_gateOf_2]
    simp (disch := omega) only [z_lit, z_mm, z_eqm, z_eqm', z_ltm, z_ltm', z_lem, z_lem', nI_leI, nI_ltI, nI_eq, nI_toInt, nI_clamp, nI_add, pk_mul, pk_sub, pk_div, z_rem, z_shr1, z_and1, decide_eq_true_eq, if_pos, if_neg, Option.bind_some, ite_true, ite_false, eq_self, not_false_eq_true, not_true_eq_false, c3, e]
  have hit : ∀ N k, k < D.2.1 3 → D.2.2 3 k / 2 = v → fn_M_gateOf_2 (nI v) nd (some m1) (N + 1) (nI k) = some (nI k) := fun N k hk hn => by
    have e := r3 k hk
    have hlt := hl 3 k (by omega) hk
    rw [fn_M_gateOf_2]
    simp (disch := omega) only [z_lit, z_mm, z_eqm, z_eqm', z_ltm, z_ltm', z_lem, z_lem', nI_leI, nI_ltI, nI_eq, nI_toInt, nI_clamp, nI_add, pk_mul, pk_sub, pk_div, z_rem, z_shr1, z_and1, decide_eq_true_eq, if_pos, if_neg, Option.bind_some, ite_true, ite_false, eq_self, not_false_eq_true, not_true_eq_false, c3, e]
  by_cases hex : ∃ g, g < D.2.1 3 ∧ D.2.2 3 g / 2 = v
  · obtain ⟨g, g1, g2⟩ := hex
    obtain ⟨j, -, b, c, e, f⟩ := z_first (fun N k => fn_M_gateOf_2 (nI v) nd (some m1) N (nI k)) (fun k => some (nI k)) (D.2.1 3) (fun k => D.2.2 3 k / 2 = v) (fun N k hk hn => step N k hk hn) (fun N k hk hn => hit N k hk hn) (N := am_NF) (k := 0) (by rw [z_NF]; omega) ⟨g, by omega, g1, g2⟩
    exact Or.inl ⟨j, b, c, f⟩
  · have hno : ∀ g, g < D.2.1 3 → D.2.2 3 g / 2 ≠ v := fun g hg e => hex ⟨g, hg, e⟩
    have := (z_all (fun N k => fn_M_gateOf_2 (nI v) nd (some m1) N (nI k)) (some m1) (some m1) (D.2.1 3) (fun k => D.2.2 3 k / 2 ≠ v) (fun N k hk hn => step N k hk hn) (fun N k hk hn => absurd (hno k hk) hn) (fun N => by
      show fn_M_gateOf_2 _ _ _ (N + 1) _ = _
      rw [fn_M_gateOf_2]
      simp (disch := omega) only [z_lit, z_mm, z_eqm, z_eqm', z_ltm, z_ltm', z_lem, z_lem', nI_leI, nI_ltI, nI_eq, nI_toInt, nI_clamp, nI_add, pk_mul, pk_sub, pk_div, z_rem, z_shr1, z_and1, decide_eq_true_eq, if_pos, if_neg, Option.bind_some, ite_true, ite_false, eq_self, not_false_eq_true, not_true_eq_false, c3]) (N := am_NF) (k := 0) (by omega) (by rw [z_NF]; omega)).1 (fun j _ hj => hno j hj)
    exact Or.inr ⟨hno, this⟩
def RM (re : Nat → Int32) (P : Nat → Nat → Prop) : Prop := ∀ a b, a < 60 → b < 60 → (P a b → re (60 * a + b) = nI 1) ∧ (¬ P a b → re (60 * a + b) = nI 0)
theorem RM_set {re : Nat → Int32} {P Q : Nat → Nat → Prop} {x y : Nat} {v : Int32} (h : RM re P) (hx : x < 60) (hy : y < 60) (hQ : ∀ a b, a < 60 → b < 60 → ¬ (a = x ∧ b = y) → (Q a b ↔ P a b)) (h1 : Q x y → v = nI 1) (h2 : ¬ Q x y → v = nI 0) : RM (upd re (60 * x + y) v) Q := by
  intro a b ha hb
  by_cases e : a = x ∧ b = y
  · obtain ⟨rfl, rfl⟩ := e
    rw [pk_us]
    exact ⟨h1, h2⟩
  · have hne : 60 * a + b ≠ 60 * x + y := fun z => e (by omega)
    rw [pk_un hne]
    exact ⟨fun q => (h a b ha hb).1 ((hQ a b ha hb e).mp q), fun q => (h a b ha hb).2 fun p => q ((hQ a b ha hb e).mpr p)⟩
theorem RM_cong {re : Nat → Int32} {P Q : Nat → Nat → Prop} (h : RM re P) (hQ : ∀ a b, a < 60 → b < 60 → (Q a b ↔ P a b)) : RM re Q := fun a b ha hb =>
  ⟨fun q => (h a b ha hb).1 ((hQ a b ha hb).mp q), fun q => (h a b ha hb).2 fun p => q ((hQ a b ha hb).mpr p)⟩
theorem RM_c {re : Nat → Int32} {P : Nat → Nat → Prop} {a b : Nat} (h : RM re P) (ha : a < 60) (hb : b < 60) : (P a b ∧ re (60 * a + b) = nI 1) ∨ (¬ P a b ∧ re (60 * a + b) = nI 0) := by
  by_cases p : P a b
  · exact Or.inl ⟨p, (h a b ha hb).1 p⟩
  · exact Or.inr ⟨p, (h a b ha hb).2 p⟩
theorem M_rest0 {ps : Mps} {nd : Mnd} {us : Mus} {re : Mre} {x1 : Int32} (κ : Mps → Mre → Option (Mps × Mre)) : ∃ re', RM re' (fun _ _ => False) ∧ fn_M_findResting_9 x1 nd us κ am_NF (nI 0) ps re = κ ps re' := by
  have zb : vp_nar .boolean (nI 0) = nI 0 := rfl
  obtain ⟨y, hy, e⟩ := z_loop (fun N k (y : Mre) => fn_M_findResting_9 x1 nd us κ N (nI k) ps y) (fun y => κ ps y) 3600 (fun k y => ∀ j, j < k → y j = nI 0)
    (fun N k y hk hy => by
      refine ⟨upd y k (nI 0), fun j hj => ?_, ?_⟩
      · by_cases e : j = k
        · subst e; exact pk_us
        · rw [pk_un e]; exact hy j (by omega)
      · show fn_M_findResting_9 _ _ _ _ (N + 1) _ _ _ = _
        rw [fn_M_findResting_9]
        simp (disch := omega) only [z_lit, z_mm, z_eqm, z_eqm', z_ltm, z_ltm', z_lem, z_lem', nI_leI, nI_ltI, nI_eq, nI_toInt, nI_clamp, nI_add, pk_mul, pk_sub, pk_div, z_rem, z_shr1, z_and1, decide_eq_true_eq, if_pos, if_neg, Option.bind_some, ite_true, ite_false, eq_self, not_false_eq_true, not_true_eq_false, zb])
    (fun N y _ => by
      show fn_M_findResting_9 _ _ _ _ (N + 1) _ _ _ = _
      rw [fn_M_findResting_9]
      simp (disch := omega) only [z_lit, z_mm, z_eqm, z_eqm', z_ltm, z_ltm', z_lem, z_lem', nI_leI, nI_ltI, nI_eq, nI_toInt, nI_clamp, nI_add, pk_mul, pk_sub, pk_div, z_rem, z_shr1, z_and1, decide_eq_true_eq, if_pos, if_neg, Option.bind_some, ite_true, ite_false, eq_self, not_false_eq_true, not_true_eq_false]) (N := am_NF) (k := 0) (s := re) (by omega) (by rw [z_NF]; omega) (fun j hj => absurd hj (by omega))
  exact ⟨y, fun a b ha hb => ⟨fun z => z.elim, fun _ => hy _ (by omega)⟩, e⟩
theorem M_rest1 {ps : Mps} {nd : Mnd} {us : Mus} {re : Mre} {D : De} (h : MD nd D) (hb : Vb D) (hl : Vl D) (hdist : ∀ a b, a < D.2.1 3 → b < D.2.1 3 → D.2.2 3 a / 2 = D.2.2 3 b / 2 → a = b) (hr : RM re (fun _ _ => False)) (κ : Mps → Mre → Option (Mps × Mre)) :
    ∃ re', RM re' (fun a b => a < D.2.1 3 ∧ b < D.2.1 3 ∧ W0 D a b) ∧ fn_M_findResting_31 (nI (D.2.1 3)) nd us κ am_NF (nI 0) ps re = κ ps re' := by
  have h60 : D.2.1 3 ≤ 60 := hb.2.2.2.2
  have r6 : ∀ k, k < D.2.1 3 → nd.2.2.2.2.2.2.2.2.1 k = nI (D.2.2 6 k) := fun k hk => h.2.2 6 k (by omega) hk
  have r7 : ∀ k, k < D.2.1 3 → nd.2.2.2.2.2.2.2.2.2 k = nI (D.2.2 7 k) := fun k hk => h.2.2 7 k (by omega) hk
  have zb : vp_nar .boolean (nI 1) = nI 1 := rfl
  obtain ⟨y, hy, e⟩ := z_loop (fun N k (y : Mre) => fn_M_findResting_31 (nI (D.2.1 3)) nd us κ N (nI k) ps y) (fun y => κ ps y) (D.2.1 3) (fun k y => RM y (fun a b => a < k ∧ b < D.2.1 3 ∧ W0 D a b))
    (fun N k y hk hy => by
      have e6 := r6 k hk
      have e7 := r7 k hk
      have l6 := hl 6 k (by omega) hk
      have l7 := hl 7 k (by omega) hk
      have oth : ∀ x : Nat, ∀ a b, ¬ (a = k ∧ b = x) → True := fun _ _ _ _ => trivial
      rcases M_gateOf h hb hl (v := D.2.2 6 k / 2) (by omega) with ⟨ga, a1, a2, a3⟩ | ⟨a2, a3⟩ <;> rcases M_gateOf h hb hl (v := D.2.2 7 k / 2) (by omega) with ⟨gb, b1, b2, b3⟩ | ⟨b2, b3⟩
      · refine ⟨upd (upd y (60 * k + ga) (nI 1)) (60 * k + gb) (nI 1), ?_, ?_⟩
        · have s1 : RM (upd y (60 * k + ga) (nI 1)) (fun a b => (a < k ∧ b < D.2.1 3 ∧ W0 D a b) ∨ (a = k ∧ b = ga)) := RM_set hy (by omega) (by omega) (fun a b _ _ hn => ⟨fun z => z.resolve_right hn, Or.inl⟩) (fun _ => rfl) (fun z => absurd (Or.inr ⟨rfl, rfl⟩) z)
          refine RM_set s1 (by omega) (by omega) (fun a b ha hb' hn => ?_) (fun _ => rfl) (fun z => absurd ⟨by omega, b1, Or.inr b2⟩ z)
          constructor
          · rintro ⟨z1, z2, z3⟩
            by_cases ea : a = k
            · subst ea
              rcases z3 with z3 | z3
              · exact Or.inr ⟨rfl, hdist b ga z2 a1 (z3.trans a2.symm)⟩
              · exact absurd ⟨rfl, hdist b gb z2 b1 (z3.trans b2.symm)⟩ hn
            · exact Or.inl ⟨by omega, z2, z3⟩
          · rintro (⟨z1, z2, z3⟩ | ⟨z1, z2⟩)
            · exact ⟨by omega, z2, z3⟩
            · subst z1 z2
              exact ⟨by omega, a1, Or.inl a2⟩
        · show fn_M_findResting_31 _ _ _ _ (N + 1) _ _ _ = _
          rw [fn_M_findResting_31]
          simp (disch := omega) only [z_lit, z_mm, z_eqm, z_eqm', z_ltm, z_ltm', z_lem, z_lem', nI_leI, nI_ltI, nI_eq, nI_toInt, nI_clamp, nI_add, pk_mul, pk_sub, pk_div, z_rem, z_shr1, z_and1, decide_eq_true_eq, if_pos, if_neg, Option.bind_some, ite_true, ite_false, eq_self, not_false_eq_true, not_true_eq_false, e6, e7, a3, b3, zb]
      · refine ⟨upd y (60 * k + ga) (nI 1), ?_, ?_⟩
        · refine RM_set hy (by omega) (by omega) (fun a b ha hb' hn => ?_) (fun _ => rfl) (fun z => absurd ⟨by omega, a1, Or.inl a2⟩ z)
          constructor
          · rintro ⟨z1, z2, z3⟩
            by_cases ea : a = k
            · subst ea
              rcases z3 with z3 | z3
              · exact absurd ⟨rfl, hdist b ga z2 a1 (z3.trans a2.symm)⟩ hn
              · exact absurd z3 (b2 b z2)
            · exact ⟨by omega, z2, z3⟩
          · rintro ⟨z1, z2, z3⟩
            exact ⟨by omega, z2, z3⟩
        · show fn_M_findResting_31 _ _ _ _ (N + 1) _ _ _ = _
          rw [fn_M_findResting_31]
          simp (disch := omega) only [z_lit, z_mm, z_eqm, z_eqm', z_ltm, z_ltm', z_lem, z_lem', nI_leI, nI_ltI, nI_eq, nI_toInt, nI_clamp, nI_add, pk_mul, pk_sub, pk_div, z_rem, z_shr1, z_and1, decide_eq_true_eq, if_pos, if_neg, Option.bind_some, ite_true, ite_false, eq_self, not_false_eq_true, not_true_eq_false, e6, e7, a3, b3, zb]
      · refine ⟨upd y (60 * k + gb) (nI 1), ?_, ?_⟩
        · refine RM_set hy (by omega) (by omega) (fun a b ha hb' hn => ?_) (fun _ => rfl) (fun z => absurd ⟨by omega, b1, Or.inr b2⟩ z)
          constructor
          · rintro ⟨z1, z2, z3⟩
            by_cases ea : a = k
            · subst ea
              rcases z3 with z3 | z3
              · exact absurd z3 (a2 b z2)
              · exact absurd ⟨rfl, hdist b gb z2 b1 (z3.trans b2.symm)⟩ hn
            · exact ⟨by omega, z2, z3⟩
          · rintro ⟨z1, z2, z3⟩
            exact ⟨by omega, z2, z3⟩
        · show fn_M_findResting_31 _ _ _ _ (N + 1) _ _ _ = _
          rw [fn_M_findResting_31]
          simp (disch := omega) only [z_lit, z_mm, z_eqm, z_eqm', z_ltm, z_ltm', z_lem, z_lem', nI_leI, nI_ltI, nI_eq, nI_toInt, nI_clamp, nI_add, pk_mul, pk_sub, pk_div, z_rem, z_shr1, z_and1, decide_eq_true_eq, if_pos, if_neg, Option.bind_some, ite_true, ite_false, eq_self, not_false_eq_true, not_true_eq_false, e6, e7, a3, b3, zb]
      · refine ⟨y, RM_cong hy (fun a b ha hb' => ?_), ?_⟩
        · constructor
          · rintro ⟨z1, z2, z3⟩
            by_cases ea : a = k
            · subst ea
              rcases z3 with z3 | z3
              · exact absurd z3 (a2 b z2)
              · exact absurd z3 (b2 b z2)
            · exact ⟨by omega, z2, z3⟩
          · rintro ⟨z1, z2, z3⟩
            exact ⟨by omega, z2, z3⟩
        · show fn_M_findResting_31 _ _ _ _ (N + 1) _ _ _ = _
          rw [fn_M_findResting_31]
          simp (disch := omega) only [z_lit, z_mm, z_eqm, z_eqm', z_ltm, z_ltm', z_lem, z_lem', nI_leI, nI_ltI, nI_eq, nI_toInt, nI_clamp, nI_add, pk_mul, pk_sub, pk_div, z_rem, z_shr1, z_and1, decide_eq_true_eq, if_pos, if_neg, Option.bind_some, ite_true, ite_false, eq_self, not_false_eq_true, not_true_eq_false, e6, e7, a3, b3])
    (fun N y _ => by
      show fn_M_findResting_31 _ _ _ _ (N + 1) _ _ _ = _
      rw [fn_M_findResting_31]
      simp (disch := omega) only [z_lit, z_mm, z_eqm, z_eqm', z_ltm, z_ltm', z_lem, z_lem', nI_leI, nI_ltI, nI_eq, nI_toInt, nI_clamp, nI_add, pk_mul, pk_sub, pk_div, z_rem, z_shr1, z_and1, decide_eq_true_eq, if_pos, if_neg, Option.bind_some, ite_true, ite_false, eq_self, not_false_eq_true, not_true_eq_false]) (N := am_NF) (k := 0) (s := re) (by omega) (by rw [z_NF]; omega) (RM_cong hr fun a b _ _ => ⟨fun z => absurd z.1 (by omega), fun z => z.elim⟩)
  exact ⟨y, hy, e⟩
/-- the table while row a0 is gone through, up to column b0, in step m -/
def sg (m a0 b0 a b : Nat) : Nat := if a < a0 ∨ (a = a0 ∧ b < b0) then m + 1 else m
def Pq (D : De) (m a0 b0 a b : Nat) : Prop := a < D.2.1 3 ∧ b < D.2.1 3 ∧ Wm D (sg m a0 b0 a b) a b
theorem Pq_col {D : De} {m a0 b0 a : Nat} : Wm D (sg m a0 b0 a m) a m ↔ Wm D m a m := by
  unfold sg
  split
  · exact Wm_col
  · exact Iff.rfl
theorem Pq_row {D : De} {m a0 b0 b : Nat} : Wm D (sg m a0 b0 m b) m b ↔ Wm D m m b := by
  unfold sg
  split
  · exact Wm_row
  · exact Iff.rfl
theorem sg_at {m a0 b0 : Nat} : sg m a0 b0 a0 b0 = m := if_neg (by omega)
theorem sg_step {m a0 b0 a b : Nat} (h : ¬ (a = a0 ∧ b = b0)) : sg m a0 (b0 + 1) a b = sg m a0 b0 a b := by
  unfold sg
  by_cases h1 : a < a0 ∨ (a = a0 ∧ b < b0)
  · rw [if_pos h1, if_pos (by omega)]
  · rw [if_neg h1, if_neg (by omega)]
theorem sg_new {m a0 b0 : Nat} : sg m a0 (b0 + 1) a0 b0 = m + 1 := if_pos (by omega)
theorem M_rest2 {ps : Mps} {nd : Mnd} {us : Mus} {re : Mre} {D : De} (hb : Vb D) {m a0 : Nat} (hm : m < D.2.1 3) (ha0 : a0 < D.2.1 3) (hr : RM re (Pq D m a0 0)) (κ : Mps → Mre → Option (Mps × Mre)) :
    ∃ re', RM re' (Pq D m (a0 + 1) 0) ∧ fn_M_findResting_122 (nI (D.2.1 3)) (nI m) (nI a0) nd us κ am_NF (nI 0) ps re = κ ps re' := by
  have h60 : D.2.1 3 ≤ 60 := hb.2.2.2.2
  have zb1 : vp_nar .boolean (nI 1) = nI 1 := rfl
  have zb0 : vp_nar .boolean (nI 0) = nI 0 := rfl
  obtain ⟨y, hy, e⟩ := z_loop (fun N k (y : Mre) => fn_M_findResting_122 (nI (D.2.1 3)) (nI m) (nI a0) nd us κ N (nI k) ps y) (fun y => κ ps y) (D.2.1 3) (fun k y => RM y (Pq D m a0 k))
    (fun N k y hk hy => by
      have c1 := RM_c hy (a := a0) (b := k) (by omega) (by omega)
      have c2 := RM_c hy (a := a0) (b := m) (by omega) (by omega)
      have c3 := RM_c hy (a := m) (b := k) (by omega) (by omega)
      have p1 : Pq D m a0 k a0 k ↔ Wm D m a0 k := by
        unfold Pq; rw [sg_at]; exact ⟨fun z => z.2.2, fun z => ⟨ha0, hk, z⟩⟩
      have p2 : Pq D m a0 k a0 m ↔ Wm D m a0 m := by
        unfold Pq; rw [Pq_col]; exact ⟨fun z => z.2.2, fun z => ⟨ha0, hm, z⟩⟩
      have p3 : Pq D m a0 k m k ↔ Wm D m m k := by
        unfold Pq; rw [Pq_row]; exact ⟨fun z => z.2.2, fun z => ⟨hm, hk, z⟩⟩
      have pn : Pq D m a0 (k + 1) a0 k ↔ (Wm D m a0 k ∨ (Wm D m a0 m ∧ Wm D m m k)) := by
        unfold Pq; rw [sg_new]; exact ⟨fun z => z.2.2, fun z => ⟨ha0, hk, z⟩⟩
      rw [p1] at c1
      rw [p2] at c2
      rw [p3] at c3
      have same : ∀ a b, a < 60 → b < 60 → ¬ (a = a0 ∧ b = k) → (Pq D m a0 (k + 1) a b ↔ Pq D m a0 k a b) := fun a b _ _ hn => by
        unfold Pq; rw [sg_step hn]
      rcases c1 with ⟨w1, n1⟩ | ⟨w1, n1⟩
      · refine ⟨upd y (60 * a0 + k) (nI 1), RM_set hy (by omega) (by omega) same (fun _ => rfl) (fun z => absurd (pn.mpr (Or.inl w1)) z), ?_⟩
        show fn_M_findResting_122 _ _ _ _ _ _ (N + 1) _ _ _ = _
        rw [fn_M_findResting_122]
        simp (disch := omega) only [z_lit, z_mm, z_eqm, z_eqm', z_ltm, z_ltm', z_lem, z_lem', nI_leI, nI_ltI, nI_eq, nI_toInt, nI_clamp, nI_add, pk_mul, pk_sub, pk_div, z_rem, z_shr1, z_and1, decide_eq_true_eq, if_pos, if_neg, Option.bind_some, ite_true, ite_false, eq_self, not_false_eq_true, not_true_eq_false, n1, zb1]
      · rcases c2 with ⟨w2, n2⟩ | ⟨w2, n2⟩
        · rcases c3 with ⟨w3, n3⟩ | ⟨w3, n3⟩
          · refine ⟨upd y (60 * a0 + k) (nI 1), RM_set hy (by omega) (by omega) same (fun _ => rfl) (fun z => absurd (pn.mpr (Or.inr ⟨w2, w3⟩)) z), ?_⟩
            show fn_M_findResting_122 _ _ _ _ _ _ (N + 1) _ _ _ = _
            rw [fn_M_findResting_122]
            simp (disch := omega) only [z_lit, z_mm, z_eqm, z_eqm', z_ltm, z_ltm', z_lem, z_lem', nI_leI, nI_ltI, nI_eq, nI_toInt, nI_clamp, nI_add, pk_mul, pk_sub, pk_div, z_rem, z_shr1, z_and1, decide_eq_true_eq, if_pos, if_neg, Option.bind_some, ite_true, ite_false, eq_self, not_false_eq_true, not_true_eq_false, n1, n2, n3, zb1]
          · refine ⟨upd y (60 * a0 + k) (nI 0), RM_set hy (by omega) (by omega) same (fun z => absurd (pn.mp z) (fun q => q.elim w1 fun q => w3 q.2)) (fun _ => rfl), ?_⟩
            show fn_M_findResting_122 _ _ _ _ _ _ (N + 1) _ _ _ = _
            rw [fn_M_findResting_122]
            simp (disch := omega) only [z_lit, z_mm, z_eqm, z_eqm', z_ltm, z_ltm', z_lem, z_lem', nI_leI, nI_ltI, nI_eq, nI_toInt, nI_clamp, nI_add, pk_mul, pk_sub, pk_div, z_rem, z_shr1, z_and1, decide_eq_true_eq, if_pos, if_neg, Option.bind_some, ite_true, ite_false, eq_self, not_false_eq_true, not_true_eq_false, n1, n2, n3, zb0]
        · refine ⟨upd y (60 * a0 + k) (nI 0), RM_set hy (by omega) (by omega) same (fun z => absurd (pn.mp z) (fun q => q.elim w1 fun q => w2 q.1)) (fun _ => rfl), ?_⟩
          show fn_M_findResting_122 _ _ _ _ _ _ (N + 1) _ _ _ = _
          rw [fn_M_findResting_122]
          simp (disch := omega) only [z_lit, z_mm, z_eqm, z_eqm', z_ltm, z_ltm', z_lem, z_lem', nI_leI, nI_ltI, nI_eq, nI_toInt, nI_clamp, nI_add, pk_mul, pk_sub, pk_div, z_rem, z_shr1, z_and1, decide_eq_true_eq, if_pos, if_neg, Option.bind_some, ite_true, ite_false, eq_self, not_false_eq_true, not_true_eq_false, n1, n2, zb0])
    (fun N y _ => by
      show fn_M_findResting_122 _ _ _ _ _ _ (N + 1) _ _ _ = _
      rw [fn_M_findResting_122]
      simp (disch := omega) only [z_lit, z_mm, z_eqm, z_eqm', z_ltm, z_ltm', z_lem, z_lem', nI_leI, nI_ltI, nI_eq, nI_toInt, nI_clamp, nI_add, pk_mul, pk_sub, pk_div, z_rem, z_shr1, z_and1, decide_eq_true_eq, if_pos, if_neg, Option.bind_some, ite_true, ite_false, eq_self, not_false_eq_true, not_true_eq_false]) (N := am_NF) (k := 0) (s := re) (by omega) (by rw [z_NF]; omega) hr
  refine ⟨y, RM_cong hy fun a b _ _ => ?_, e⟩
  unfold Pq
  constructor
  · rintro ⟨z1, z2, z3⟩
    refine ⟨z1, z2, ?_⟩
    have : sg m a0 (D.2.1 3) a b = sg m (a0 + 1) 0 a b := by
      unfold sg
      by_cases q : a < a0 ∨ (a = a0 ∧ b < D.2.1 3)
      · rw [if_pos q, if_pos (by omega)]
      · rw [if_neg q, if_neg (by omega)]
    rw [this]; exact z3
  · rintro ⟨z1, z2, z3⟩
    refine ⟨z1, z2, ?_⟩
    have : sg m a0 (D.2.1 3) a b = sg m (a0 + 1) 0 a b := by
      unfold sg
      by_cases q : a < a0 ∨ (a = a0 ∧ b < D.2.1 3)
      · rw [if_pos q, if_pos (by omega)]
      · rw [if_neg q, if_neg (by omega)]
    rw [← this]; exact z3
theorem M_rest3 {ps : Mps} {nd : Mnd} {us : Mus} {re : Mre} {D : De} (hb : Vb D) (hr : RM re (fun a b => a < D.2.1 3 ∧ b < D.2.1 3 ∧ W0 D a b)) (κ : Mps → Mre → Option (Mps × Mre)) :
    ∃ re', RM re' (fun a b => a < D.2.1 3 ∧ b < D.2.1 3 ∧ Wm D (D.2.1 3) a b) ∧ fn_M_findResting_107 (nI (D.2.1 3)) nd us κ am_NF (nI 0) ps re = κ ps re' := by
  have h60 : D.2.1 3 ≤ 60 := hb.2.2.2.2
  have mid : ∀ (m : Nat) (re : Mre) (κ2 : Mps → Mre → Option (Mps × Mre)), m < D.2.1 3 → RM re (fun a b => a < D.2.1 3 ∧ b < D.2.1 3 ∧ Wm D m a b) → ∃ re', RM re' (fun a b => a < D.2.1 3 ∧ b < D.2.1 3 ∧ Wm D (m + 1) a b) ∧ fn_M_findResting_114 (nI (D.2.1 3)) (nI m) nd us κ2 am_NF (nI 0) ps re = κ2 ps re' := by
    intro m re κ2 hm hr
    obtain ⟨y, hy, e⟩ := z_loop (fun N k (y : Mre) => fn_M_findResting_114 (nI (D.2.1 3)) (nI m) nd us κ2 N (nI k) ps y) (fun y => κ2 ps y) (D.2.1 3) (fun k y => RM y (Pq D m k 0))
      (fun N k y hk hy => by
        obtain ⟨y', hy', e'⟩ := M_rest2 (ps := ps) (nd := nd) (us := us) hb hm hk hy (fun ps_3 re_3 => fn_M_findResting_114 (nI (D.2.1 3)) (nI m) nd us κ2 N (nI (k + 1)) ps_3 re_3)
        refine ⟨y', hy', ?_⟩
        show fn_M_findResting_114 _ _ _ _ _ (N + 1) _ _ _ = _
        rw [fn_M_findResting_114]
        simp (disch := omega) only [z_lit, z_mm, z_eqm, z_eqm', z_ltm, z_ltm', z_lem, z_lem', nI_leI, nI_ltI, nI_eq, nI_toInt, nI_clamp, nI_add, pk_mul, pk_sub, pk_div, z_rem, z_shr1, z_and1, decide_eq_true_eq, if_pos, if_neg, Option.bind_some, ite_true, ite_false, eq_self, not_false_eq_true, not_true_eq_false]
        exact e')
      (fun N y _ => by
        show fn_M_findResting_114 _ _ _ _ _ (N + 1) _ _ _ = _
        rw [fn_M_findResting_114]
        simp (disch := omega) only [z_lit, z_mm, z_eqm, z_eqm', z_ltm, z_ltm', z_lem, z_lem', nI_leI, nI_ltI, nI_eq, nI_toInt, nI_clamp, nI_add, pk_mul, pk_sub, pk_div, z_rem, z_shr1, z_and1, decide_eq_true_eq, if_pos, if_neg, Option.bind_some, ite_true, ite_false, eq_self, not_false_eq_true, not_true_eq_false]) (N := am_NF) (k := 0) (s := re) (by omega) (by rw [z_NF]; omega) (RM_cong hr fun a b _ _ => by
          unfold Pq sg
          rw [if_neg (by omega)])
    refine ⟨y, RM_cong hy fun a b _ _ => ?_, e⟩
    unfold Pq
    constructor
    · rintro ⟨z1, z2, z3⟩
      refine ⟨z1, z2, ?_⟩
      unfold sg; rw [if_pos (Or.inl z1)]; exact z3
    · rintro ⟨z1, z2, z3⟩
      refine ⟨z1, z2, ?_⟩
      unfold sg at z3; rw [if_pos (Or.inl z1)] at z3; exact z3
  obtain ⟨y, hy, e⟩ := z_loop (fun N k (y : Mre) => fn_M_findResting_107 (nI (D.2.1 3)) nd us κ N (nI k) ps y) (fun y => κ ps y) (D.2.1 3) (fun k y => RM y (fun a b => a < D.2.1 3 ∧ b < D.2.1 3 ∧ Wm D k a b))
    (fun N k y hk hy => by
      obtain ⟨y', hy', e'⟩ := mid k y (fun ps_4 re_4 => fn_M_findResting_107 (nI (D.2.1 3)) nd us κ N (nI (k + 1)) ps_4 re_4) hk hy
      refine ⟨y', hy', ?_⟩
      show fn_M_findResting_107 _ _ _ _ (N + 1) _ _ _ = _
      rw [fn_M_findResting_107]
      simp (disch := omega) only [z_lit, z_mm, z_eqm, z_eqm', z_ltm, z_ltm', z_lem, z_lem', nI_leI, nI_ltI, nI_eq, nI_toInt, nI_clamp, nI_add, pk_mul, pk_sub, pk_div, z_rem, z_shr1, z_and1, decide_eq_true_eq, if_pos, if_neg, Option.bind_some, ite_true, ite_false, eq_self, not_false_eq_true, not_true_eq_false]
      exact e')
    (fun N y _ => by
      show fn_M_findResting_107 _ _ _ _ (N + 1) _ _ _ = _
      rw [fn_M_findResting_107]
      simp (disch := omega) only [z_lit, z_mm, z_eqm, z_eqm', z_ltm, z_ltm', z_lem, z_lem', nI_leI, nI_ltI, nI_eq, nI_toInt, nI_clamp, nI_add, pk_mul, pk_sub, pk_div, z_rem, z_shr1, z_and1, decide_eq_true_eq, if_pos, if_neg, Option.bind_some, ite_true, ite_false, eq_self, not_false_eq_true, not_true_eq_false]) (N := am_NF) (k := 0) (s := re) (by omega) (by rw [z_NF]; omega) hr
  exact ⟨y, hy, e⟩
theorem M_round {ps : Mps} {nd : Mnd} {us : Mus} {re : Mre} {D : De} {gp : Nat → Nat} (h : MD nd D) (hb : Vb D) (hl : Vl D) (hdist : ∀ a b, a < D.2.1 3 → b < D.2.1 3 → D.2.2 3 a / 2 = D.2.2 3 b / 2 → a = b) (hgp : ∀ k, k < D.2.1 3 → us.1 k = nI (gp k) ∧ gp k ≤ 1501) (hft : ps.2.1 = m1) :
    ∃ fm re', fn_M_findResting ps nd us re = some ((ps.1, fm, ps.2.2), re') ∧ FR D gp (D.2.1 3) m1 fm := by
  have h60 : D.2.1 3 ≤ 60 := hb.2.2.2.2
  have c3 : nd.2.1 3 = nI (D.2.1 3) := h.2.1 3 (by omega)
  obtain ⟨r0, h0, e0⟩ := M_rest0 (ps := ps) (nd := nd) (us := us) (re := re) (x1 := nI (D.2.1 3)) (fun ps_7 re_7 => fn_M_findResting_31 (nI (D.2.1 3)) nd us (fun ps_8 re_8 => fn_M_findResting_107 (nI (D.2.1 3)) nd us (fun ps_9 re_9 => fn_M_findResting_209 (nI (D.2.1 3)) nd us (fun ps_10 re_10 => some (ps_10, re_10)) am_NF (nI 0) ps_9 re_9) am_NF (nI 0) ps_8 re_8) am_NF (nI 0) ps_7 re_7)
  obtain ⟨r1, h1, e1⟩ := M_rest1 (ps := ps) (us := us) h hb hl hdist h0 (fun ps_8 re_8 => fn_M_findResting_107 (nI (D.2.1 3)) nd us (fun ps_9 re_9 => fn_M_findResting_209 (nI (D.2.1 3)) nd us (fun ps_10 re_10 => some (ps_10, re_10)) am_NF (nI 0) ps_9 re_9) am_NF (nI 0) ps_8 re_8)
  obtain ⟨r2, h2, e2⟩ := M_rest3 (ps := ps) (nd := nd) (us := us) hb h1 (fun ps_9 re_9 => fn_M_findResting_209 (nI (D.2.1 3)) nd us (fun ps_10 re_10 => some (ps_10, re_10)) am_NF (nI 0) ps_9 re_9)
  obtain ⟨x, ⟨fm, hx, hFR, hft'⟩, e3⟩ := z_loop (fun N k (x : Mps) => fn_M_findResting_209 (nI (D.2.1 3)) nd us (fun ps_10 re_10 => some (ps_10, re_10)) N (nI k) x r2) (fun x => some (x, r2)) (D.2.1 3) (fun k x => ∃ fm, x = (ps.1, fm, ps.2.2) ∧ FR D gp k m1 fm ∧ (fm = m1 ∨ ∃ f, f ≤ 1501 ∧ fm = nI f))
    (fun N k x hk ⟨fm, hx, hFR, hft'⟩ => by
      subst hx
      have b3 := (hgp k hk).1
      have c := RM_c h2 (a := k) (b := k) (by omega) (by omega)
      rcases c with ⟨w, nn⟩ | ⟨w, nn⟩
      · rcases hft' with hm | ⟨f, hf, hm⟩
        · subst hm
          have em : fn_M_bad (nI (gp k)) (ps.1, m1, ps.2.2) = some (ps.1, nI (gp k), ps.2.2) := M_bad_ok rfl
          refine ⟨(ps.1, nI (gp k), ps.2.2), ⟨_, rfl, FR_yes hFR w.2.2 (fun _ => rfl) (fun z => absurd rfl z) (fun j hj => (hgp j (by omega)).2), Or.inr ⟨gp k, (hgp k hk).2, rfl⟩⟩, ?_⟩
          show fn_M_findResting_209 _ _ _ _ (N + 1) _ _ _ = _
          rw [fn_M_findResting_209]
          simp (disch := omega) only [z_lit, z_mm, z_eqm, z_eqm', z_ltm, z_ltm', z_lem, z_lem', nI_leI, nI_ltI, nI_eq, nI_toInt, nI_clamp, nI_add, pk_mul, pk_sub, pk_div, z_rem, z_shr1, z_and1, decide_eq_true_eq, if_pos, if_neg, Option.bind_some, ite_true, ite_false, eq_self, not_false_eq_true, not_true_eq_false, nn, b3, em]
        · subst hm
          have em : fn_M_bad (nI (gp k)) (ps.1, nI f, ps.2.2) = some (ps.1, nI f, ps.2.2) := M_bad_bad (g := f) rfl (by omega)
          refine ⟨(ps.1, nI f, ps.2.2), ⟨_, rfl, FR_yes hFR w.2.2 (fun z => absurd z (z_m1 (by omega))) (fun _ => rfl) (fun j hj => (hgp j (by omega)).2), Or.inr ⟨f, hf, rfl⟩⟩, ?_⟩
          show fn_M_findResting_209 _ _ _ _ (N + 1) _ _ _ = _
          rw [fn_M_findResting_209]
          simp (disch := omega) only [z_lit, z_mm, z_eqm, z_eqm', z_ltm, z_ltm', z_lem, z_lem', nI_leI, nI_ltI, nI_eq, nI_toInt, nI_clamp, nI_add, pk_mul, pk_sub, pk_div, z_rem, z_shr1, z_and1, decide_eq_true_eq, if_pos, if_neg, Option.bind_some, ite_true, ite_false, eq_self, not_false_eq_true, not_true_eq_false, nn, b3, em]
      · refine ⟨(ps.1, fm, ps.2.2), ⟨_, rfl, FR_no hFR (fun z => w ⟨hk, hk, z⟩), hft'⟩, ?_⟩
        show fn_M_findResting_209 _ _ _ _ (N + 1) _ _ _ = _
        rw [fn_M_findResting_209]
        simp (disch := omega) only [z_lit, z_mm, z_eqm, z_eqm', z_ltm, z_ltm', z_lem, z_lem', nI_leI, nI_ltI, nI_eq, nI_toInt, nI_clamp, nI_add, pk_mul, pk_sub, pk_div, z_rem, z_shr1, z_and1, decide_eq_true_eq, if_pos, if_neg, Option.bind_some, ite_true, ite_false, eq_self, not_false_eq_true, not_true_eq_false, nn])
    (fun N x _ => by
      show fn_M_findResting_209 _ _ _ _ (N + 1) _ _ _ = _
      rw [fn_M_findResting_209]
      simp (disch := omega) only [z_lit, z_mm, z_eqm, z_eqm', z_ltm, z_ltm', z_lem, z_lem', nI_leI, nI_ltI, nI_eq, nI_toInt, nI_clamp, nI_add, pk_mul, pk_sub, pk_div, z_rem, z_shr1, z_and1, decide_eq_true_eq, if_pos, if_neg, Option.bind_some, ite_true, ite_false, eq_self, not_false_eq_true, not_true_eq_false]) (N := am_NF) (k := 0) (s := ps) (by omega) (by rw [z_NF]; omega) ⟨m1, by rw [← hft], Or.inl ⟨rfl, fun j hj => absurd hj (by omega)⟩, Or.inl rfl⟩
  refine ⟨fm, r2, ?_, hFR⟩
  have all := ((e0.trans e1).trans e2).trans e3
  rw [hx] at all
  unfold fn_M_findResting
  refine (am_ift (by decide)).trans ?_
  have hcl : nd.2.1 ((3 : Int32).toNatClampNeg) = nI (D.2.1 3) := c3
  rw [hcl]
  simp only [z_lit]
  exact all
