/-! THE REFERENCE'S cycle -/
theorem M_valueOf_n {va : Mva} {u : Nat} (hu : u < 200) (hm : va (u / 2) = m1) : fn_M_valueOf (nI u) va = some m1 := by
  unfold fn_M_valueOf
  simp (disch := omega) only [z_lit, z_mm, z_eqm, z_eqm', z_ltm, z_ltm', z_lem, z_lem', nI_leI, nI_ltI, nI_eq, nI_toInt, nI_clamp, nI_add, pk_mul, pk_sub, pk_div, z_rem, z_shr1, z_and1, decide_eq_true_eq, if_pos, if_neg, Option.bind_some, ite_true, ite_false, eq_self, not_false_eq_true, not_true_eq_false, hm]
theorem M_valueOf_y {va : Mva} {f : Nat → Nat} {u : Nat} (hu : u < 200) (hm : va (u / 2) = nI (f (u / 2))) (hf : f (u / 2) ≤ 1) : fn_M_valueOf (nI u) va = some (nI (tr f u)) := by
  unfold fn_M_valueOf
  simp (disch := omega) only [z_lit, z_mm, z_eqm, z_eqm', z_ltm, z_ltm', z_lem, z_lem', nI_leI, nI_ltI, nI_eq, nI_toInt, nI_clamp, nI_add, pk_mul, pk_sub, pk_div, z_rem, z_shr1, z_and1, decide_eq_true_eq, if_pos, if_neg, Option.bind_some, ite_true, ite_false, eq_self, not_false_eq_true, not_true_eq_false, hm, z_xor]
  rfl
/-- how many of the first n gates have no value -/
def unk (D : De) (va : Mva) : Nat → Nat
  | 0 => 0
  | n + 1 => unk D va n + if va (D.2.2 3 n / 2) = m1 then 1 else 0
theorem unk_upd {D : De} (hV : Vd D) {va : Mva} {g b : Nat} (hg : g < D.2.1 3) (hb : b ≤ 1) (hm : va (D.2.2 3 g / 2) = m1) : ∀ n, n ≤ D.2.1 3 → unk D (upd va (D.2.2 3 g / 2) (nI b)) n + (if g < n then 1 else 0) = unk D va n
  | 0, _ => rfl
  | n + 1, hn => by
    have ih := unk_upd hV hg hb hm n (by omega)
    rw [unk, unk]
    by_cases e : n = g
    · subst e
      rw [pk_us, if_pos hm, if_neg (z_m1 (by omega)), if_pos (by omega)]
      rw [if_neg (by omega)] at ih
      omega
    · have hne : ¬ D.2.2 3 n / 2 = D.2.2 3 g / 2 := fun h => e (Vd_gate hV (by omega) hg h)
      rw [pk_un hne]
      by_cases h1 : g < n
      · rw [if_pos h1] at ih
        rw [if_pos (show g < n + 1 by omega)]
        omega
      · rw [if_neg h1] at ih
        rw [if_neg (show ¬ g < n + 1 by omega)]
        omega
theorem unk_le {D : De} {va : Mva} : ∀ n, unk D va n ≤ n
  | 0 => Nat.le_refl 0
  | n + 1 => by
    have := unk_le (D := D) (va := va) n
    rw [unk]
    split <;> omega
/-- what is known is right, what is no gate's is known -/
def Kn (D : De) (f : Nat → Nat) (va : Mva) : Prop := (∀ v, isDef D v → va v = m1 ∨ va v = nI (f v)) ∧ ∀ v, bas D v → va v = nI (f v)
theorem M_sweep {th : Mth} {ds : Mds} {nw : Mnw} {va : Mva} {D : De} {x : Int32} {w f : Nat → Nat} (h : MD ds D) (hV : Vd D) (hw : ∀ k, k < D.2.1 1 → w k ≤ 1) (hT : TV D x w f) (hK : Kn D f va) (κ : Int32 → Mth → Mnw → Mva → Option (Int32 × Mth × Mnw × Mva)) :
    (∃ va', Kn D f va' ∧ unk D va' (D.2.1 3) < unk D va (D.2.1 3) ∧ fn_M_cycle_117 ds κ am_NF (nI 0) (nI 0) th nw va = κ (nI 1) th nw va') ∨ ((∀ g, g < D.2.1 3 → ¬ (va (D.2.2 3 g / 2) = m1 ∧ ¬ va (D.2.2 6 g / 2) = m1 ∧ ¬ va (D.2.2 7 g / 2) = m1)) ∧ fn_M_cycle_117 ds κ am_NF (nI 0) (nI 0) th nw va = κ (nI 0) th nw va) := by
  have hb := hV.1
  have hl := hV.2.1
  obtain ⟨b0, b1, b2, b3, b4⟩ := id hb
  have c3 : ds.2.1 3 = nI (D.2.1 3) := h.2.1 3 (by omega)
  have r3 : ∀ k, k < D.2.1 3 → ds.2.2.2.2.2.2.2.1 k = nI (D.2.2 3 k) := fun k hk => h.2.2 3 k (by omega) hk
  have r6 : ∀ k, k < D.2.1 3 → ds.2.2.2.2.2.2.2.2.1 k = nI (D.2.2 6 k) := fun k hk => h.2.2 6 k (by omega) hk
  have r7 : ∀ k, k < D.2.1 3 → ds.2.2.2.2.2.2.2.2.2 k = nI (D.2.2 7 k) := fun k hk => h.2.2 7 k (by omega) hk
  have hle : ∀ v, isDef D v → f v ≤ 1 := fun v hv => TV_le hT hw hv
  obtain ⟨y, hy, e⟩ := z_loop (fun N k (y : Int32 × Mva) => fn_M_cycle_117 ds κ N y.1 (nI k) th nw y.2) (fun y => κ y.1 th nw y.2) (D.2.1 3)
    (fun k y => Kn D f y.2 ∧ ((y.1 = nI 1 ∧ unk D y.2 (D.2.1 3) < unk D va (D.2.1 3)) ∨ (y = (nI 0, va) ∧ ∀ g, g < k → ¬ (va (D.2.2 3 g / 2) = m1 ∧ ¬ va (D.2.2 6 g / 2) = m1 ∧ ¬ va (D.2.2 7 g / 2) = m1))))
    (fun N k y hk ⟨hKy, hy⟩ => by
      obtain ⟨y1, va'⟩ := y
      have hlt3 := hl 3 k (by omega) hk
      have hlt6 := hl 6 k (by omega) hk
      have hlt7 := hl 7 k (by omega) hk
      have e3 := r3 k hk
      have e6 := r6 k hk
      have e7 := r7 k hk
      have d6 : isDef D (D.2.2 6 k / 2) := hV.2.2.2.2.2.1 6 k (by omega) hk
      have d7 : isDef D (D.2.2 7 k / 2) := hV.2.2.2.2.2.1 7 k (by omega) hk
      by_cases m3 : va' (D.2.2 3 k / 2) = m1
      · by_cases m6 : va' (D.2.2 6 k / 2) = m1
        · have v6 := M_valueOf_n hlt6 m6
          refine ⟨(y1, va'), ⟨hKy, hy.elim Or.inl fun hy => Or.inr ⟨hy.1, fun g hg => ?_⟩⟩, ?_⟩
          · by_cases eg : g = k
            · subst eg
              have hv : va' = va := congrArg Prod.snd hy.1
              rw [hv] at m6
              exact fun z => z.2.1 m6
            · exact hy.2 g (by omega)
          · show fn_M_cycle_117 _ _ (N + 1) _ _ _ _ _ = _
            rw [fn_M_cycle_117]
            by_cases m7 : va' (D.2.2 7 k / 2) = m1
            · have v7 := M_valueOf_n hlt7 m7
              simp (disch := omega) only [z_lit, z_mm, z_eqm, z_eqm', z_ltm, z_ltm', z_lem, z_lem', nI_leI, nI_ltI, nI_eq, nI_toInt, nI_clamp, nI_add, pk_mul, pk_sub, pk_div, z_rem, z_shr1, z_and1, decide_eq_true_eq, if_pos, if_neg, Option.bind_some, ite_true, ite_false, eq_self, not_false_eq_true, not_true_eq_false, c3, e3, e6, e7, v6, v7, m3]
            · have v7 := M_valueOf_y (f := f) hlt7 ((hKy.1 _ d7).resolve_left m7) (hle _ d7)
              have l7 := tr_le (f := f) (u := D.2.2 7 k)
              simp (disch := omega) only [z_lit, z_mm, z_eqm, z_eqm', z_ltm, z_ltm', z_lem, z_lem', nI_leI, nI_ltI, nI_eq, nI_toInt, nI_clamp, nI_add, pk_mul, pk_sub, pk_div, z_rem, z_shr1, z_and1, decide_eq_true_eq, if_pos, if_neg, Option.bind_some, ite_true, ite_false, eq_self, not_false_eq_true, not_true_eq_false, c3, e3, e6, e7, v6, v7, m3]
        · have v6 := M_valueOf_y (f := f) hlt6 ((hKy.1 _ d6).resolve_left m6) (hle _ d6)
          have l6 := tr_le (f := f) (u := D.2.2 6 k)
          by_cases m7 : va' (D.2.2 7 k / 2) = m1
          · have v7 := M_valueOf_n hlt7 m7
            refine ⟨(y1, va'), ⟨hKy, hy.elim Or.inl fun hy => Or.inr ⟨hy.1, fun g hg => ?_⟩⟩, ?_⟩
            · by_cases eg : g = k
              · subst eg
                have hv : va' = va := congrArg Prod.snd hy.1
                rw [hv] at m7
                exact fun z => z.2.2 m7
              · exact hy.2 g (by omega)
            · show fn_M_cycle_117 _ _ (N + 1) _ _ _ _ _ = _
              rw [fn_M_cycle_117]
              simp (disch := omega) only [z_lit, z_mm, z_eqm, z_eqm', z_ltm, z_ltm', z_lem, z_lem', nI_leI, nI_ltI, nI_eq, nI_toInt, nI_clamp, nI_add, pk_mul, pk_sub, pk_div, z_rem, z_shr1, z_and1, decide_eq_true_eq, if_pos, if_neg, Option.bind_some, ite_true, ite_false, eq_self, not_false_eq_true, not_true_eq_false, c3, e3, e6, e7, v6, v7, m3]
          · have v7 := M_valueOf_y (f := f) hlt7 ((hKy.1 _ d7).resolve_left m7) (hle _ d7)
            have l7 := tr_le (f := f) (u := D.2.2 7 k)
            have hfg : f (D.2.2 3 k / 2) = tr f (D.2.2 6 k) * tr f (D.2.2 7 k) := hT.2.2.2 k hk
            have hl1 := z_mul1 l6 l7
            refine ⟨(nI 1, upd va' (D.2.2 3 k / 2) (nI (tr f (D.2.2 6 k) * tr f (D.2.2 7 k)))), ⟨⟨fun v hv => ?_, fun v hv => ?_⟩, Or.inl ⟨rfl, ?_⟩⟩, ?_⟩
            · show upd va' _ _ v = _ ∨ upd va' _ _ v = _
              by_cases ev : v = D.2.2 3 k / 2
              · rw [ev, pk_us, hfg]; exact Or.inr rfl
              · rw [pk_un ev]; exact hKy.1 v hv
            · show upd va' _ _ v = _
              by_cases ev : v = D.2.2 3 k / 2
              · rw [ev] at hv; exact absurd hv (bas_gate hV hk)
              · rw [pk_un ev]; exact hKy.2 v hv
            · show unk D (upd va' _ _) _ < _
              have h1 := unk_upd hV (va := va') hk hl1 m3 (D.2.1 3) (Nat.le_refl _)
              rw [if_pos hk] at h1
              rcases hy with hy | hy
              · have : unk D va' (D.2.1 3) < unk D va (D.2.1 3) := hy.2
                omega
              · have hv : va' = va := congrArg Prod.snd hy.1
                rw [hv] at h1 ⊢
                omega
            · show fn_M_cycle_117 _ _ (N + 1) _ _ _ _ _ = _
              rw [fn_M_cycle_117]
              simp (disch := omega) only [z_lit, z_mm, z_eqm, z_eqm', z_ltm, z_ltm', z_lem, z_lem', nI_leI, nI_ltI, nI_eq, nI_toInt, nI_clamp, nI_add, pk_mul, pk_sub, pk_div, z_rem, z_shr1, z_and1, decide_eq_true_eq, if_pos, if_neg, Option.bind_some, ite_true, ite_false, eq_self, not_false_eq_true, not_true_eq_false, c3, e3, e6, e7, v6, v7, m3, z_andb]
      · refine ⟨(y1, va'), ⟨hKy, hy.elim Or.inl fun hy => Or.inr ⟨hy.1, fun g hg => ?_⟩⟩, ?_⟩
        · by_cases eg : g = k
          · subst eg
            have hv : va' = va := congrArg Prod.snd hy.1
            rw [hv] at m3
            exact fun z => m3 z.1
          · exact hy.2 g (by omega)
        · have m3' := (hKy.1 _ (isDef_g hk)).resolve_left m3
          have l3 := hle _ (isDef_g hk)
          have v6 : ∃ a, fn_M_valueOf (nI (D.2.2 6 k)) va' = some a := by
            by_cases m6 : va' (D.2.2 6 k / 2) = m1
            · exact ⟨_, M_valueOf_n hlt6 m6⟩
            · exact ⟨_, M_valueOf_y (f := f) hlt6 ((hKy.1 _ d6).resolve_left m6) (hle _ d6)⟩
          have v7 : ∃ a, fn_M_valueOf (nI (D.2.2 7 k)) va' = some a := by
            by_cases m7 : va' (D.2.2 7 k / 2) = m1
            · exact ⟨_, M_valueOf_n hlt7 m7⟩
            · exact ⟨_, M_valueOf_y (f := f) hlt7 ((hKy.1 _ d7).resolve_left m7) (hle _ d7)⟩
          obtain ⟨a6, v6⟩ := v6
          obtain ⟨a7, v7⟩ := v7
          show fn_M_cycle_117 _ _ (N + 1) _ _ _ _ _ = _
          rw [fn_M_cycle_117]
          simp (disch := omega) only [z_lit, z_mm, z_eqm, z_eqm', z_ltm, z_ltm', z_lem, z_lem', nI_leI, nI_ltI, nI_eq, nI_toInt, nI_clamp, nI_add, pk_mul, pk_sub, pk_div, z_rem, z_shr1, z_and1, decide_eq_true_eq, if_pos, if_neg, Option.bind_some, ite_true, ite_false, eq_self, not_false_eq_true, not_true_eq_false, c3, e3, e6, e7, v6, v7, m3'])
    (fun N y _ => by
      show fn_M_cycle_117 _ _ (N + 1) _ _ _ _ _ = _
      rw [fn_M_cycle_117]
      simp (disch := omega) only [z_lit, z_mm, z_eqm, z_eqm', z_ltm, z_ltm', z_lem, z_lem', nI_leI, nI_ltI, nI_eq, nI_toInt, nI_clamp, nI_add, pk_mul, pk_sub, pk_div, z_rem, z_shr1, z_and1, decide_eq_true_eq, if_pos, if_neg, Option.bind_some, ite_true, ite_false, eq_self, not_false_eq_true, not_true_eq_false, c3]) (N := am_NF) (k := 0) (s := (nI 0, va)) (by omega) (by rw [z_NF]; omega) ⟨hK, Or.inr ⟨rfl, fun g hg => absurd hg (by omega)⟩⟩
  obtain ⟨hKy, hy | hy⟩ := hy
  · exact Or.inl ⟨y.2, hKy, hy.2, e.trans (by rw [hy.1])⟩
  · exact Or.inr ⟨hy.2, e.trans (by rw [hy.1])⟩
theorem M_sweeps {th : Mth} {ds : Mds} {nw : Mnw} {D : De} {x : Int32} {w f : Nat → Nat} (h : MD ds D) (hV : Vd D) (hw : ∀ k, k < D.2.1 1 → w k ≤ 1) (hT : TV D x w f) (κ : Mth → Mnw → Mva → Option (Int32 × Mth × Mnw × Mva)) :
    ∀ (n N : Nat) (va : Mva), unk D va (D.2.1 3) ≤ n → n + 1 < N → Kn D f va → ∃ va', (∀ v, isDef D v → va' v = nI (f v)) ∧ fn_M_cycle_109 ds κ N (nI 1) th nw va = κ th nw va' := by
  intro n
  induction n with
  | zero =>
    intro N va hu hN hK
    obtain ⟨N, rfl⟩ : ∃ M, N = M + 2 := ⟨N - 2, by omega⟩
    rcases M_sweep (th := th) (nw := nw) h hV hw hT hK (fun x2_6 th_6 nw_6 va_6 => fn_M_cycle_109 ds κ (N + 1) x2_6 th_6 nw_6 va_6) with ⟨va', _, hlt, _⟩ | ⟨hno, he⟩
    · omega
    · refine ⟨va, fun v hv => ?_, ?_⟩
      · refine (hK.1 v hv).resolve_left fun hm => ?_
        rcases isDef_mkd (s := fun _ => 0) (i := 0) hv with (a | ⟨j, a, _⟩) | ⟨g, hg, eg⟩
        · exact z_m1 (a := f v) (by have := TV_le hT hw hv; omega) ((hK.2 v a).symm.trans hm)
        · omega
        · obtain ⟨g', a, b, c, d⟩ := Vd_ready hV (fun v => ¬ va v = m1) (fun v hv => by rw [hK.2 v hv]; exact z_m1 (by have := TV_le hT hw (hv.elim Or.inl fun ⟨j, a, b⟩ => Or.inr ⟨j, by unfold dn; omega, b⟩); omega)) hg (fun z => z (by rw [eg]; exact hm))
          exact hno g' a ⟨Classical.not_not.mp b, c, d⟩
      · rw [fn_M_cycle_109]
        simp (disch := omega) only [z_lit, z_mm, z_eqm, z_eqm', z_ltm, z_ltm', z_lem, z_lem', nI_leI, nI_ltI, nI_eq, nI_toInt, nI_clamp, nI_add, pk_mul, pk_sub, pk_div, z_rem, z_shr1, z_and1, decide_eq_true_eq, if_pos, if_neg, Option.bind_some, ite_true, ite_false, eq_self, not_false_eq_true, not_true_eq_false]
        refine he.trans ?_
        rw [fn_M_cycle_109]
        simp (disch := omega) only [z_lit, z_mm, z_eqm, z_eqm', z_ltm, z_ltm', z_lem, z_lem', nI_leI, nI_ltI, nI_eq, nI_toInt, nI_clamp, nI_add, pk_mul, pk_sub, pk_div, z_rem, z_shr1, z_and1, decide_eq_true_eq, if_pos, if_neg, Option.bind_some, ite_true, ite_false, eq_self, not_false_eq_true, not_true_eq_false]
  | succ n ih =>
    intro N va hu hN hK
    obtain ⟨N, rfl⟩ : ∃ M, N = M + 2 := ⟨N - 2, by omega⟩
    rcases M_sweep (th := th) (nw := nw) h hV hw hT hK (fun x2_6 th_6 nw_6 va_6 => fn_M_cycle_109 ds κ (N + 1) x2_6 th_6 nw_6 va_6) with ⟨va', hK', hlt, he⟩ | ⟨hno, he⟩
    · obtain ⟨va'', h1, h2⟩ := ih (N + 1) va' (by omega) (by omega) hK'
      refine ⟨va'', h1, ?_⟩
      rw [fn_M_cycle_109]
      simp (disch := omega) only [z_lit, z_mm, z_eqm, z_eqm', z_ltm, z_ltm', z_lem, z_lem', nI_leI, nI_ltI, nI_eq, nI_toInt, nI_clamp, nI_add, pk_mul, pk_sub, pk_div, z_rem, z_shr1, z_and1, decide_eq_true_eq, if_pos, if_neg, Option.bind_some, ite_true, ite_false, eq_self, not_false_eq_true, not_true_eq_false]
      exact he.trans h2
    · refine ⟨va, fun v hv => ?_, ?_⟩
      · refine (hK.1 v hv).resolve_left fun hm => ?_
        rcases isDef_mkd (s := fun _ => 0) (i := 0) hv with (a | ⟨j, a, _⟩) | ⟨g, hg, eg⟩
        · exact z_m1 (a := f v) (by have := TV_le hT hw hv; omega) ((hK.2 v a).symm.trans hm)
        · omega
        · obtain ⟨g', a, b, c, d⟩ := Vd_ready hV (fun v => ¬ va v = m1) (fun v hv => by rw [hK.2 v hv]; exact z_m1 (by have := TV_le hT hw (hv.elim Or.inl fun ⟨j, a, b⟩ => Or.inr ⟨j, by unfold dn; omega, b⟩); omega)) hg (fun z => z (by rw [eg]; exact hm))
          exact hno g' a ⟨Classical.not_not.mp b, c, d⟩
      · rw [fn_M_cycle_109]
        simp (disch := omega) only [z_lit, z_mm, z_eqm, z_eqm', z_ltm, z_ltm', z_lem, z_lem', nI_leI, nI_ltI, nI_eq, nI_toInt, nI_clamp, nI_add, pk_mul, pk_sub, pk_div, z_rem, z_shr1, z_and1, decide_eq_true_eq, if_pos, if_neg, Option.bind_some, ite_true, ite_false, eq_self, not_false_eq_true, not_true_eq_false]
        refine he.trans ?_
        rw [fn_M_cycle_109]
        simp (disch := omega) only [z_lit, z_mm, z_eqm, z_eqm', z_ltm, z_ltm', z_lem, z_lem', nI_leI, nI_ltI, nI_eq, nI_toInt, nI_clamp, nI_add, pk_mul, pk_sub, pk_div, z_rem, z_shr1, z_and1, decide_eq_true_eq, if_pos, if_neg, Option.bind_some, ite_true, ite_false, eq_self, not_false_eq_true, not_true_eq_false]
theorem M_cycle {th : Mth} {ds : Mds} {nw : Mnw} {va : Mva} {D : De} {x : Int32} {w f : Nat → Nat} (h : MD ds D) (hV : Vd D) (hw : ∀ k, k < D.2.1 1 → w k ≤ 1) (hnw : ∀ k, k < D.2.1 1 → nw k = nI (w k)) (hT : TV D x w f) :
    ∃ th' nw' va', fn_M_cycle x th ds nw va = some (nI (bsum (fun k => tr f (D.2.2 2 k)) (D.2.1 2)), th', nw', va') ∧ ∀ k, k < D.2.1 1 → nw' k = nI (tr f (D.2.2 4 k)) := by
  have hb := hV.1
  have hl := hV.2.1
  obtain ⟨b0, b1, b2, b3, b4⟩ := id hb
  have c0 : ds.2.1 0 = nI (D.2.1 0) := h.2.1 0 (by omega)
  have c1 : ds.2.1 1 = nI (D.2.1 1) := h.2.1 1 (by omega)
  have c2 : ds.2.1 2 = nI (D.2.1 2) := h.2.1 2 (by omega)
  have r0 : ∀ k, k < D.2.1 0 → ds.2.2.1 k = nI (D.2.2 0 k) := fun k hk => h.2.2 0 k (by omega) hk
  have r1 : ∀ k, k < D.2.1 1 → ds.2.2.2.1 k = nI (D.2.2 1 k) := fun k hk => h.2.2 1 k (by omega) hk
  have r2 : ∀ k, k < D.2.1 2 → ds.2.2.2.2.2.2.1 k = nI (D.2.2 2 k) := fun k hk => h.2.2 2 k (by omega) hk
  have r4 : ∀ k, k < D.2.1 1 → ds.2.2.2.2.1 k = nI (D.2.2 4 k) := fun k hk => h.2.2 4 k (by omega) hk
  have hle : ∀ v, isDef D v → f v ≤ 1 := fun v hv => TV_le hT hw hv
  -- known so far: 0, and the first n of the inputs and latches; the rest none
  have step : ∀ (va : Mva) (n : Nat) (b : Nat), n < D.2.1 0 + D.2.1 1 → f (dv D n / 2) = b → ((∀ v, v < 100 → va v = m1 ∨ va v = nI (f v)) ∧ va 0 = nI (f 0) ∧ ∀ i, i < n → va (dv D i / 2) = nI (f (dv D i / 2))) → ((∀ v, v < 100 → upd va (dv D n / 2) (nI b) v = m1 ∨ upd va (dv D n / 2) (nI b) v = nI (f v)) ∧ upd va (dv D n / 2) (nI b) 0 = nI (f 0) ∧ ∀ i, i < n + 1 → upd va (dv D n / 2) (nI b) (dv D i / 2) = nI (f (dv D i / 2))) := by
    intro va n b hn hfb ⟨h1, h2, h3⟩
    refine ⟨fun v hv => ?_, ?_, fun i hi => ?_⟩
    · by_cases e : v = dv D n / 2
      · rw [e, pk_us, hfb]; exact Or.inr rfl
      · rw [pk_un e]; exact h1 v hv
    · by_cases e : 0 = dv D n / 2
      · have hfb' := hfb; rw [← e] at hfb' ⊢; rw [pk_us, hfb']
      · rw [pk_un e]; exact h2
    · by_cases e : dv D i / 2 = dv D n / 2
      · rw [e, pk_us, hfb]
      · rw [pk_un e]
        refine h3 i ?_
        have : i ≠ n := fun z => e (by rw [z])
        omega
  have L0 := fun (κ : Mth → Mnw → Mva → Option (Int32 × Mth × Mnw × Mva)) => z_loop (fun N k (y : Mva) => fn_M_cycle_7 x ds κ N (nI k) (nI 0) nw y) (fun y => κ (nI 0) nw y) 100 (fun k y => ∀ v, v < k → y v = if v = 0 then nI 0 else m1)
    (fun N k y hk hy => by
      refine ⟨upd y k (if k = 0 then nI 0 else m1), fun v hv => ?_, ?_⟩
      · by_cases e : v = k
        · subst e; rw [pk_us]
        · rw [pk_un e]; exact hy v (by omega)
      · show fn_M_cycle_7 _ _ _ (N + 1) _ _ _ _ = _
        rw [fn_M_cycle_7]
        by_cases e : k = 0
        · subst e
          simp (disch := omega) only [z_lit, z_mm, z_eqm, z_eqm', z_ltm, z_ltm', z_lem, z_lem', nI_leI, nI_ltI, nI_eq, nI_toInt, nI_clamp, nI_add, pk_mul, pk_sub, pk_div, z_rem, z_shr1, z_and1, decide_eq_true_eq, if_pos, if_neg, Option.bind_some, ite_true, ite_false, eq_self, not_false_eq_true, not_true_eq_false]
        · simp (disch := omega) only [z_lit, z_mm, z_eqm, z_eqm', z_ltm, z_ltm', z_lem, z_lem', nI_leI, nI_ltI, nI_eq, nI_toInt, nI_clamp, nI_add, pk_mul, pk_sub, pk_div, z_rem, z_shr1, z_and1, decide_eq_true_eq, if_pos, if_neg, Option.bind_some, ite_true, ite_false, eq_self, not_false_eq_true, not_true_eq_false])
    (fun N y _ => by
      show fn_M_cycle_7 _ _ _ (N + 1) _ _ _ _ = _
      rw [fn_M_cycle_7]
      simp (disch := omega) only [z_lit, z_mm, z_eqm, z_eqm', z_ltm, z_ltm', z_lem, z_lem', nI_leI, nI_ltI, nI_eq, nI_toInt, nI_clamp, nI_add, pk_mul, pk_sub, pk_div, z_rem, z_shr1, z_and1, decide_eq_true_eq, if_pos, if_neg, Option.bind_some, ite_true, ite_false, eq_self, not_false_eq_true, not_true_eq_false]) (N := am_NF) (k := 0) (s := va) (by omega) (by rw [z_NF]; omega) (fun v hv => absurd hv (by omega))
  have L1 := fun (κ : Mth → Mnw → Mva → Option (Int32 × Mth × Mnw × Mva)) (va : Mva) (hva : (∀ v, v < 100 → va v = m1 ∨ va v = nI (f v)) ∧ va 0 = nI (f 0) ∧ ∀ i, i < 0 → va (dv D i / 2) = nI (f (dv D i / 2))) => z_loop (fun N k (y : Mva) => fn_M_cycle_36 x ds κ N (nI k) (nI 0) nw y) (fun y => κ (nI 0) nw y) (D.2.1 0) (fun k y => (∀ v, v < 100 → y v = m1 ∨ y v = nI (f v)) ∧ y 0 = nI (f 0) ∧ ∀ i, i < k → y (dv D i / 2) = nI (f (dv D i / 2)))
    (fun N k y hk hy => by
      have hlt := hl 0 k (by omega) hk
      have hst := step y k (bi x k) (by omega) (by rw [dv_i hk]; exact hT.2.1 k hk) hy
      rw [dv_i hk] at hst
      refine ⟨_, hst, ?_⟩
      show fn_M_cycle_36 _ _ _ (N + 1) _ _ _ _ = _
      rw [fn_M_cycle_36]
      have e0 := r0 k hk
      simp (disch := omega) only [z_lit, z_mm, z_eqm, z_eqm', z_ltm, z_ltm', z_lem, z_lem', nI_leI, nI_ltI, nI_eq, nI_toInt, nI_clamp, nI_add, pk_mul, pk_sub, pk_div, z_rem, z_shr1, z_and1, decide_eq_true_eq, if_pos, if_neg, Option.bind_some, ite_true, ite_false, eq_self, not_false_eq_true, not_true_eq_false, c0, e0, bi_ref])
    (fun N y _ => by
      show fn_M_cycle_36 _ _ _ (N + 1) _ _ _ _ = _
      rw [fn_M_cycle_36]
      simp (disch := omega) only [z_lit, z_mm, z_eqm, z_eqm', z_ltm, z_ltm', z_lem, z_lem', nI_leI, nI_ltI, nI_eq, nI_toInt, nI_clamp, nI_add, pk_mul, pk_sub, pk_div, z_rem, z_shr1, z_and1, decide_eq_true_eq, if_pos, if_neg, Option.bind_some, ite_true, ite_false, eq_self, not_false_eq_true, not_true_eq_false, c0]) (N := am_NF) (k := 0) (s := va) (by omega) (by rw [z_NF]; omega) hva
  have L2 := fun (κ : Mth → Mnw → Mva → Option (Int32 × Mth × Mnw × Mva)) (va : Mva) (hva : (∀ v, v < 100 → va v = m1 ∨ va v = nI (f v)) ∧ va 0 = nI (f 0) ∧ ∀ i, i < D.2.1 0 → va (dv D i / 2) = nI (f (dv D i / 2))) => z_loop (fun N k (y : Mva) => fn_M_cycle_72 ds κ N (nI k) (nI 0) nw y) (fun y => κ (nI 0) nw y) (D.2.1 1) (fun k y => (∀ v, v < 100 → y v = m1 ∨ y v = nI (f v)) ∧ y 0 = nI (f 0) ∧ ∀ i, i < D.2.1 0 + k → y (dv D i / 2) = nI (f (dv D i / 2)))
    (fun N k y hk hy => by
      have hlt := hl 1 k (by omega) hk
      have hst := step y (D.2.1 0 + k) (w k) (by omega) (by rw [dv_l hk]; exact hT.2.2.1 k hk) hy
      rw [dv_l hk] at hst
      refine ⟨_, hst, ?_⟩
      show fn_M_cycle_72 _ _ (N + 1) _ _ _ _ = _
      rw [fn_M_cycle_72]
      have e0 := r1 k hk
      have en := hnw k hk
      simp (disch := omega) only [z_lit, z_mm, z_eqm, z_eqm', z_ltm, z_ltm', z_lem, z_lem', nI_leI, nI_ltI, nI_eq, nI_toInt, nI_clamp, nI_add, pk_mul, pk_sub, pk_div, z_rem, z_shr1, z_and1, decide_eq_true_eq, if_pos, if_neg, Option.bind_some, ite_true, ite_false, eq_self, not_false_eq_true, not_true_eq_false, c1, e0, en])
    (fun N y _ => by
      show fn_M_cycle_72 _ _ (N + 1) _ _ _ _ = _
      rw [fn_M_cycle_72]
      simp (disch := omega) only [z_lit, z_mm, z_eqm, z_eqm', z_ltm, z_ltm', z_lem, z_lem', nI_leI, nI_ltI, nI_eq, nI_toInt, nI_clamp, nI_add, pk_mul, pk_sub, pk_div, z_rem, z_shr1, z_and1, decide_eq_true_eq, if_pos, if_neg, Option.bind_some, ite_true, ite_false, eq_self, not_false_eq_true, not_true_eq_false, c1]) (N := am_NF) (k := 0) (s := va) (by omega) (by rw [z_NF]; omega) hva
  have L4 := fun (κ : Int32 → Mth → Mnw → Mva → Option (Int32 × Mth × Mnw × Mva)) (va : Mva) (hva : ∀ v, isDef D v → va v = nI (f v)) => z_loop (fun N k (y : Int32) => fn_M_cycle_214 ds κ N y (nI k) (nI 0) nw va) (fun y => κ y (nI 0) nw va) (D.2.1 2) (fun k y => y = nI (bsum (fun k => tr f (D.2.2 2 k)) k))
    (fun N k y hk hy => by
      have hy : y = nI (bsum (fun k => tr f (D.2.2 2 k)) k) := hy
      subst hy
      refine ⟨_, rfl, ?_⟩
      show fn_M_cycle_214 _ _ (N + 1) _ _ _ _ _ = _
      rw [fn_M_cycle_214]
      have hu : isDef D (D.2.2 2 k / 2) := hV.2.2.2.2.2.1 2 k (by omega) hk
      have ht : fn_M_valueOf (nI (D.2.2 2 k)) va = some (nI (tr f (D.2.2 2 k))) := M_valueOf_y (hl 2 k (by omega) hk) (hva _ hu) (hle _ hu)
      have hbl : bsum (fun k => tr f (D.2.2 2 k)) k < 2 ^ k := bsum_lt fun k _ => tr_le
      have h1 := tr_le (f := f) (u := D.2.2 2 k)
      have e0 := r2 k hk
      simp (disch := omega) only [z_lit, z_mm, z_eqm, z_eqm', z_ltm, z_ltm', z_lem, z_lem', nI_leI, nI_ltI, nI_eq, nI_toInt, nI_clamp, nI_add, pk_mul, pk_sub, pk_div, z_rem, z_shr1, z_and1, decide_eq_true_eq, if_pos, if_neg, Option.bind_some, ite_true, ite_false, eq_self, not_false_eq_true, not_true_eq_false, c2, e0, ht]
      rw [z_or (by omega) hbl h1]
      rfl)
    (fun N y _ => by
      show fn_M_cycle_214 _ _ (N + 1) _ _ _ _ _ = _
      rw [fn_M_cycle_214]
      simp (disch := omega) only [z_lit, z_mm, z_eqm, z_eqm', z_ltm, z_ltm', z_lem, z_lem', nI_leI, nI_ltI, nI_eq, nI_toInt, nI_clamp, nI_add, pk_mul, pk_sub, pk_div, z_rem, z_shr1, z_and1, decide_eq_true_eq, if_pos, if_neg, Option.bind_some, ite_true, ite_false, eq_self, not_false_eq_true, not_true_eq_false, c2]) (N := am_NF) (k := 0) (s := nI 0) (by omega) (by rw [z_NF]; omega) rfl
  have L5 := fun (x3 : Int32) (κ : Mth → Mnw → Mva → Option (Int32 × Mth × Mnw × Mva)) (va : Mva) (hva : ∀ v, isDef D v → va v = nI (f v)) => z_loop (fun N k (y : Mnw) => fn_M_cycle_251 x3 ds κ N (nI k) (nI 0) y va) (fun y => κ (nI 0) y va) (D.2.1 1) (fun k y => Eqk y (fun k => tr f (D.2.2 4 k)) k)
    (fun N k y hk hy => by
      refine ⟨_, Eqk_s hy, ?_⟩
      show fn_M_cycle_251 _ _ _ (N + 1) _ _ _ _ = _
      rw [fn_M_cycle_251]
      have hu : isDef D (D.2.2 4 k / 2) := hV.2.2.2.2.2.1 4 k (by omega) hk
      have ht : fn_M_valueOf (nI (D.2.2 4 k)) va = some (nI (tr f (D.2.2 4 k))) := M_valueOf_y (hl 4 k (by omega) hk) (hva _ hu) (hle _ hu)
      have e0 := r4 k hk
      simp (disch := omega) only [z_lit, z_mm, z_eqm, z_eqm', z_ltm, z_ltm', z_lem, z_lem', nI_leI, nI_ltI, nI_eq, nI_toInt, nI_clamp, nI_add, pk_mul, pk_sub, pk_div, z_rem, z_shr1, z_and1, decide_eq_true_eq, if_pos, if_neg, Option.bind_some, ite_true, ite_false, eq_self, not_false_eq_true, not_true_eq_false, c1, e0, ht])
    (fun N y _ => by
      show fn_M_cycle_251 _ _ _ (N + 1) _ _ _ _ = _
      rw [fn_M_cycle_251]
      simp (disch := omega) only [z_lit, z_mm, z_eqm, z_eqm', z_ltm, z_ltm', z_lem, z_lem', nI_leI, nI_ltI, nI_eq, nI_toInt, nI_clamp, nI_add, pk_mul, pk_sub, pk_div, z_rem, z_shr1, z_and1, decide_eq_true_eq, if_pos, if_neg, Option.bind_some, ite_true, ite_false, eq_self, not_false_eq_true, not_true_eq_false, c1]) (N := am_NF) (k := 0) (s := nw) (by omega) (by rw [z_NF]; omega) Eqk_0
  unfold fn_M_cycle
  obtain ⟨y0, a0, e0⟩ := L0 (fun th_7 nw_7 va_7 =>
    fn_M_cycle_36 x ds (fun th_8 nw_8 va_8 =>
      fn_M_cycle_72 ds (fun th_9 nw_9 va_9 =>
        fn_M_cycle_109 ds (fun th_10 nw_10 va_10 =>
          fn_M_cycle_214 ds (fun x3_11 th_11 nw_11 va_11 =>
            fn_M_cycle_251 x3_11 ds (fun th_12 nw_12 va_12 =>
              some (x3_11, th_12, nw_12, va_12)) am_NF (0 : Int32) th_11 nw_11 va_11) am_NF (0 : Int32) (0 : Int32) th_10 nw_10 va_10) am_NF (1 : Int32) th_9 nw_9 va_9) am_NF (0 : Int32) th_8 nw_8 va_8) am_NF (0 : Int32) th_7 nw_7 va_7)
  obtain ⟨y1, a1, e1⟩ := L1 (fun th_8 nw_8 va_8 =>
      fn_M_cycle_72 ds (fun th_9 nw_9 va_9 =>
        fn_M_cycle_109 ds (fun th_10 nw_10 va_10 =>
          fn_M_cycle_214 ds (fun x3_11 th_11 nw_11 va_11 =>
            fn_M_cycle_251 x3_11 ds (fun th_12 nw_12 va_12 =>
              some (x3_11, th_12, nw_12, va_12)) am_NF (0 : Int32) th_11 nw_11 va_11) am_NF (0 : Int32) (0 : Int32) th_10 nw_10 va_10) am_NF (1 : Int32) th_9 nw_9 va_9) am_NF (0 : Int32) th_8 nw_8 va_8) y0 ⟨fun v hv => by
        by_cases e : v = 0
        · subst e; rw [a0 0 hv, hT.1]; exact Or.inr rfl
        · rw [a0 v hv, if_neg e]; exact Or.inl rfl, by rw [a0 0 (by omega), hT.1]; rfl, fun i hi => absurd hi (by omega)⟩
  obtain ⟨y2, a2, e2⟩ := L2 (fun th_9 nw_9 va_9 =>
        fn_M_cycle_109 ds (fun th_10 nw_10 va_10 =>
          fn_M_cycle_214 ds (fun x3_11 th_11 nw_11 va_11 =>
            fn_M_cycle_251 x3_11 ds (fun th_12 nw_12 va_12 =>
              some (x3_11, th_12, nw_12, va_12)) am_NF (0 : Int32) th_11 nw_11 va_11) am_NF (0 : Int32) (0 : Int32) th_10 nw_10 va_10) am_NF (1 : Int32) th_9 nw_9 va_9) y1 a1
  have hKn : Kn D f y2 := ⟨fun v hv => a2.1 v (Vd_lt hV hv), fun v hv => by
    rcases hv with rfl | ⟨j, a, b⟩
    · exact a2.2.1
    · rw [← b]; exact a2.2.2 j a⟩
  have hu60 := unk_le (D := D) (va := y2) (D.2.1 3)
  obtain ⟨y3, a3, e3⟩ := M_sweeps (th := nI 0) (nw := nw) h hV hw hT (fun th_10 nw_10 va_10 =>
          fn_M_cycle_214 ds (fun x3_11 th_11 nw_11 va_11 =>
            fn_M_cycle_251 x3_11 ds (fun th_12 nw_12 va_12 =>
              some (x3_11, th_12, nw_12, va_12)) am_NF (0 : Int32) th_11 nw_11 va_11) am_NF (0 : Int32) (0 : Int32) th_10 nw_10 va_10) _ am_NF y2 (Nat.le_refl _) (by rw [z_NF]; omega) hKn
  obtain ⟨y4, a4, e4⟩ := L4 (fun x3_11 th_11 nw_11 va_11 =>
            fn_M_cycle_251 x3_11 ds (fun th_12 nw_12 va_12 =>
              some (x3_11, th_12, nw_12, va_12)) am_NF (0 : Int32) th_11 nw_11 va_11) y3 a3
  obtain ⟨y5, a5, e5⟩ := L5 y4 (fun th_12 nw_12 va_12 => some (y4, th_12, nw_12, va_12)) y3 a3
  refine ⟨nI 0, y5, y3, ?_, a5⟩
  rw [← a4]
  exact ((((e0.trans e1).trans e2).trans e3).trans e4).trans e5
