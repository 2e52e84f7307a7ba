/-! WHO RESTS ON WHOM: the closure, step by step -/
def W0 (D : De) (a b : Nat) : Prop := D.2.2 3 b / 2 = D.2.2 6 a / 2 ∨ D.2.2 3 b / 2 = D.2.2 7 a / 2
def Wm (D : De) : Nat → Nat → Nat → Prop
  | 0, a, b => W0 D a b
  | m + 1, a, b => Wm D m a b ∨ (Wm D m a m ∧ Wm D m m b)
theorem Wm_mono {D : De} {m a b : Nat} (h : W0 D a b) : Wm D m a b := by
  induction m with
  | zero => exact h
  | succ m ih => exact Or.inl ih
/-- the row and the column of the step itself do not change -/
theorem Wm_row {D : De} {m b : Nat} : Wm D (m + 1) m b ↔ Wm D m m b := ⟨fun h => h.elim id And.right, Or.inl⟩
theorem Wm_col {D : De} {m a : Nat} : Wm D (m + 1) a m ↔ Wm D m a m := ⟨fun h => h.elim id And.left, Or.inl⟩
theorem Wm_trans {D : De} : ∀ (m j a b : Nat), j < m → Wm D m a j → Wm D m j b → Wm D m a b := by
  intro m
  induction m with
  | zero => intro j a b hj; omega
  | succ m ih =>
    intro j a b hj h1 h2
    by_cases e : j = m
    · subst e
      exact Or.inr ⟨Wm_col.mp h1, Wm_row.mp h2⟩
    · have hj : j < m := by omega
      rcases h1 with h1 | ⟨h1, h1'⟩
      · rcases h2 with h2 | ⟨h2, h2'⟩
        · exact Or.inl (ih j a b hj h1 h2)
        · exact Or.inr ⟨ih j a m hj h1 h2, h2'⟩
      · rcases h2 with h2 | ⟨h2, h2'⟩
        · exact Or.inr ⟨h1, ih j m b hj h1' h2⟩
        · exact Or.inr ⟨h1, h2'⟩
/-- how many of the first n -/
noncomputable def cntP (P : Nat → Prop) : Nat → Nat
  | 0 => 0
  | n + 1 => cntP P n + @ite Nat (P n) (Classical.propDecidable _) 1 0
theorem cntP_le {P Q : Nat → Prop} : ∀ {n : Nat}, (∀ k, k < n → P k → Q k) → cntP P n ≤ cntP Q n
  | 0, _ => Nat.le_refl 0
  | n + 1, h => by
    have h1 := cntP_le (n := n) fun k hk => h k (by omega)
    rw [cntP, cntP]
    by_cases hp : P n
    · rw [if_pos hp, if_pos (h n (by omega) hp)]; omega
    · rw [if_neg hp]; omega
theorem cntP_lt {P Q : Nat → Prop} {x : Nat} : ∀ {n : Nat}, (∀ k, k < n → P k → Q k) → x < n → Q x → ¬ P x → cntP P n < cntP Q n
  | 0, _, hx, _, _ => by omega
  | n + 1, h, hx, hq, hp => by
    rw [cntP, cntP]
    by_cases e : x = n
    · subst e
      have h1 := cntP_le (n := x) fun k hk => h k (by omega)
      rw [if_neg hp, if_pos hq]; omega
    · have h1 := cntP_lt (n := n) (fun k hk => h k (by omega)) (by omega) hq hp
      by_cases hp2 : P n
      · rw [if_pos hp2, if_pos (h n (by omega) hp2)]; omega
      · rw [if_neg hp2]; omega
theorem Wm_Va {D : De} (h : ∀ g, g < D.2.1 3 → ¬ Wm D (D.2.1 3) g g) : Va D := by
  refine ⟨fun g => cntP (fun b => Wm D (D.2.1 3) g b) (D.2.1 3), fun g k hg hk he => ?_⟩
  have hgk : Wm D (D.2.1 3) g k := Wm_mono (he.imp Eq.symm Eq.symm)
  exact cntP_lt (fun b _ hb => Wm_trans _ k g b hk hgk hb) hk hgk (h k hk)
/-! WHAT IS USED AND NOT DEFINED -/
theorem L_undef {n : Nat} {D : De} {K : Nat → Nat} {u : Nat} {ul up : Nat → Nat} {rd : SR} {ps : Mps} {us : Mus} {p : Nat} (ho : Ok n rd ps p) (hDf : Df D K rd.1 us.2.1) (hUs : Us D K u ul up rd us) (hu : u ≤ 136) :
    ∃ ft fm, fn_R_findUndefined rd = some (sPF rd rd.2.2.2.2.2.2.2.1 ft) ∧ fn_M_findUndefined ps us = some (ps.1, fm, ps.2.2) ∧ ((ft = m1 ∧ fm = m1 ∧ ∀ j, j < u → ul j / 2 = 0 ∨ dfd D K (ul j / 2)) ∨ ∃ f, f ≤ 1501 ∧ ft = nI f ∧ fm = nI f) := by
  obtain ⟨u1, u2, u3, u4, u5⟩ := hUs
  obtain ⟨x, y, ⟨ft, fm, hx, hy, hc⟩, e1, e2⟩ := z_loop2 (fun N k (x : SR) => fn_R_findUndefined_2 (fun rd => some rd) N (nI k) x) (fun N k (y : Mps) => fn_M_findUndefined_2 us (fun ps => some ps) N (nI k) y) (fun rd => some rd) (fun ps => some ps) u
    (fun k x y => ∃ ft fm, x = sPF rd rd.2.2.2.2.2.2.2.1 ft ∧ y = (ps.1, fm, ps.2.2) ∧ ((ft = m1 ∧ fm = m1 ∧ ∀ j, j < k → ul j / 2 = 0 ∨ dfd D K (ul j / 2)) ∨ ∃ f, f ≤ 1501 ∧ ft = nI f ∧ fm = nI f))
    (fun N k x y hk ⟨ft, fm, hx, hy, hc⟩ => by
      subst hx hy
      have hk4 := u4 k hk
      obtain ⟨⟨a1, a2⟩, ⟨a3, a4⟩, a5, a6⟩ := hk4
      have b1 : (sPF rd rd.2.2.2.2.2.2.2.1 ft).2.2.2.2.2.2.1 = nI u := u2
      have b2 : (sPF rd rd.2.2.2.2.2.2.2.1 ft).2.1 k = nI (ul k) := a1
      have b3 : (sPF rd rd.2.2.2.2.2.2.2.1 ft).2.2.1 k = nI (up k) := a3
      by_cases h0 : ul k / 2 = 0
      · refine ⟨sPF rd rd.2.2.2.2.2.2.2.1 ft, (ps.1, fm, ps.2.2), ⟨ft, fm, rfl, rfl, hc.imp (fun z => ⟨z.1, z.2.1, fun j hj => ?_⟩) id⟩, ?_, ?_⟩
        · by_cases e : j = k
          · subst e; exact Or.inl h0
          · exact z.2.2 j (by omega)
        · show fn_R_findUndefined_2 _ (N + 1) _ _ = _
          rw [fn_R_findUndefined_2]
          simp (disch := omega) only [z_lit, z_mm, z_eqm, z_eqm', z_ltm, z_ltm', z_lem, z_lem', nI_leI, nI_ltI, nI_eq, nI_toInt, nI_clamp, nI_add, pk_mul, pk_sub, pk_div, z_rem, z_shr1, z_and1, decide_eq_true_eq, if_pos, if_neg, Option.bind_some, ite_true, ite_false, eq_self, not_false_eq_true, not_true_eq_false, b1, b2, h0]
        · show fn_M_findUndefined_2 _ _ (N + 1) _ _ = _
          rw [fn_M_findUndefined_2]
          simp (disch := omega) only [z_lit, z_mm, z_eqm, z_eqm', z_ltm, z_ltm', z_lem, z_lem', nI_leI, nI_ltI, nI_eq, nI_toInt, nI_clamp, nI_add, pk_mul, pk_sub, pk_div, z_rem, z_shr1, z_and1, decide_eq_true_eq, if_pos, if_neg, Option.bind_some, ite_true, ite_false, eq_self, not_false_eq_true, not_true_eq_false, u3, a2]
      · rcases Df_c hDf (v := ul k / 2) (by omega) with ⟨d1, d2⟩ | ⟨d1, d2⟩
        · -- not defined
          have hnd := Df_not hDf (by omega) d1
          have b4 : (sPF rd rd.2.2.2.2.2.2.2.1 ft).1 (ul k / 2) = nI 0 := d1
          have both : ∃ f, f ≤ 1501 ∧ fn_R_fail (nI (up k)) (sPF rd rd.2.2.2.2.2.2.2.1 ft) = some (sPF rd rd.2.2.2.2.2.2.2.1 (nI f)) ∧ fn_M_bad (nI (up k)) (ps.1, fm, ps.2.2) = some (ps.1, nI f, ps.2.2) := by
            rcases hc with ⟨z1, z2, _⟩ | ⟨f, z1, z2, z3⟩
            · subst z1 z2
              exact ⟨up k, a6, R_fail_ok (rd := sPF rd rd.2.2.2.2.2.2.2.1 m1) rfl, M_bad_ok rfl⟩
            · subst z2 z3
              exact ⟨f, z1, R_fail_bad (rd := sPF rd rd.2.2.2.2.2.2.2.1 (nI f)) rfl (by omega), M_bad_bad (g := f) rfl (by omega)⟩
          obtain ⟨f, hf, c1, c2⟩ := both
          refine ⟨sPF rd rd.2.2.2.2.2.2.2.1 (nI f), (ps.1, nI f, ps.2.2), ⟨nI f, nI f, rfl, rfl, Or.inr ⟨f, hf, rfl, rfl⟩⟩, ?_, ?_⟩
          · show fn_R_findUndefined_2 _ (N + 1) _ _ = _
            rw [fn_R_findUndefined_2]
            simp (disch := omega) only [z_lit, z_mm, z_eqm, z_eqm', z_ltm, z_ltm', z_lem, z_lem', nI_leI, nI_ltI, nI_eq, nI_toInt, nI_clamp, nI_add, pk_mul, pk_sub, pk_div, z_rem, z_shr1, z_and1, decide_eq_true_eq, if_pos, if_neg, Option.bind_some, ite_true, ite_false, eq_self, not_false_eq_true, not_true_eq_false, b1, b2, b3, b4, c1]
          · show fn_M_findUndefined_2 _ _ (N + 1) _ _ = _
            rw [fn_M_findUndefined_2]
            simp (disch := omega) only [z_lit, z_mm, z_eqm, z_eqm', z_ltm, z_ltm', z_lem, z_lem', nI_leI, nI_ltI, nI_eq, nI_toInt, nI_clamp, nI_add, pk_mul, pk_sub, pk_div, z_rem, z_shr1, z_and1, decide_eq_true_eq, if_pos, if_neg, Option.bind_some, ite_true, ite_false, eq_self, not_false_eq_true, not_true_eq_false, u3, a2, a4, d2, c2]
        · have b4 : (sPF rd rd.2.2.2.2.2.2.2.1 ft).1 (ul k / 2) = nI 1 := d1
          refine ⟨sPF rd rd.2.2.2.2.2.2.2.1 ft, (ps.1, fm, ps.2.2), ⟨ft, fm, rfl, rfl, hc.imp (fun z => ⟨z.1, z.2.1, fun j hj => ?_⟩) id⟩, ?_, ?_⟩
          · by_cases e : j = k
            · subst e
              refine Or.inr (Classical.byContradiction fun hx => ?_)
              have := (((hDf _ (show ul j / 2 < 100 by omega)).2 hx).1).symm.trans d1
              exact absurd this (by decide)
            · exact z.2.2 j (by omega)
          · show fn_R_findUndefined_2 _ (N + 1) _ _ = _
            rw [fn_R_findUndefined_2]
            simp (disch := omega) only [z_lit, z_mm, z_eqm, z_eqm', z_ltm, z_ltm', z_lem, z_lem', nI_leI, nI_ltI, nI_eq, nI_toInt, nI_clamp, nI_add, pk_mul, pk_sub, pk_div, z_rem, z_shr1, z_and1, decide_eq_true_eq, if_pos, if_neg, Option.bind_some, ite_true, ite_false, eq_self, not_false_eq_true, not_true_eq_false, b1, b2, b4]
          · show fn_M_findUndefined_2 _ _ (N + 1) _ _ = _
            rw [fn_M_findUndefined_2]
            simp (disch := omega) only [z_lit, z_mm, z_eqm, z_eqm', z_ltm, z_ltm', z_lem, z_lem', nI_leI, nI_ltI, nI_eq, nI_toInt, nI_clamp, nI_add, pk_mul, pk_sub, pk_div, z_rem, z_shr1, z_and1, decide_eq_true_eq, if_pos, if_neg, Option.bind_some, ite_true, ite_false, eq_self, not_false_eq_true, not_true_eq_false, u3, a2, d2])
    (fun N x y ⟨ft, fm, hx, hy, hc⟩ => by
      subst hx hy
      have b1 : (sPF rd rd.2.2.2.2.2.2.2.1 ft).2.2.2.2.2.2.1 = nI u := u2
      refine ⟨?_, ?_⟩
      · show fn_R_findUndefined_2 _ (N + 1) _ _ = _
        rw [fn_R_findUndefined_2]
        simp (disch := omega) only [z_lit, z_mm, z_eqm, z_eqm', z_ltm, z_ltm', z_lem, z_lem', nI_leI, nI_ltI, nI_eq, nI_toInt, nI_clamp, nI_add, pk_mul, pk_sub, pk_div, z_rem, z_shr1, z_and1, decide_eq_true_eq, if_pos, if_neg, Option.bind_some, ite_true, ite_false, eq_self, not_false_eq_true, not_true_eq_false, b1]
      · show fn_M_findUndefined_2 _ _ (N + 1) _ _ = _
        rw [fn_M_findUndefined_2]
        simp (disch := omega) only [z_lit, z_mm, z_eqm, z_eqm', z_ltm, z_ltm', z_lem, z_lem', nI_leI, nI_ltI, nI_eq, nI_toInt, nI_clamp, nI_add, pk_mul, pk_sub, pk_div, z_rem, z_shr1, z_and1, decide_eq_true_eq, if_pos, if_neg, Option.bind_some, ite_true, ite_false, eq_self, not_false_eq_true, not_true_eq_false, u3]) (N := am_NF) (k := 0) (s := rd) (u := ps) (by omega) (by rw [z_NF]; omega) ⟨m1, m1, by unfold sPF; rw [← ho.2.1], by rw [← ho.2.2.2.1], Or.inl ⟨rfl, rfl, fun j hj => absurd hj (by omega)⟩⟩
  subst hx hy
  exact ⟨ft, fm, e1, e2, hc⟩
