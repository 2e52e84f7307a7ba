/-! THE CLASS'S arrange -/
def Mks (f : Nat → Int32) (P : Nat → Prop) : Prop := ∀ v, v < 100 → (P v → f v = nI 1) ∧ (¬ P v → f v = nI 0)
theorem Mks_upd {f : Nat → Int32} {P Q : Nat → Prop} {w : Nat} (h : Mks f P) (hQ : ∀ v, v < 100 → (Q v ↔ P v ∨ v = w)) : Mks (upd f w (nI 1)) Q := by
  intro v hv
  by_cases e : v = w
  · subst e
    rw [pk_us]
    exact ⟨fun _ => rfl, fun hn => absurd ((hQ v hv).mpr (Or.inr rfl)) hn⟩
  · rw [pk_un e]
    exact ⟨fun hq => (h v hv).1 (((hQ v hv).mp hq).resolve_right e), fun hn => (h v hv).2 fun hp => hn ((hQ v hv).mpr (Or.inl hp))⟩
theorem Mks_cong {f : Nat → Int32} {P Q : Nat → Prop} (h : Mks f P) (hQ : ∀ v, v < 100 → (Q v ↔ P v)) : Mks f Q := fun v hv =>
  ⟨fun hq => (h v hv).1 ((hQ v hv).mp hq), fun hn => (h v hv).2 fun hp => hn ((hQ v hv).mpr hp)⟩
theorem z_NF : am_NF = 4096 := rfl
theorem C_forget (d : SD) : ∃ f, Mks f (fun _ => False) ∧ fn_D_forget d = some (sMk d f) := by
  obtain ⟨s', ⟨f, h1, h3⟩, h2⟩ := z_loop (fun N k (x : SD) => fn_D_forget_2 (fun d => some d) N (nI k) x) (fun d => some d) 100 (fun k x => ∃ f, (∀ v, v < k → f v = nI 0) ∧ x = sMk d f)
    (fun N k x hk ⟨f, hf, hx⟩ => ⟨sMk d (upd f k (nI 0)), ⟨upd f k (nI 0), fun v hv => by
        by_cases e : v = k
        · subst e; rw [pk_us]
        · rw [pk_un e]; exact hf v (by omega), rfl⟩, by
      subst hx
      show fn_D_forget_2 _ (N + 1) _ _ = _
      rw [fn_D_forget_2]
      simp (disch := omega) only [z_lit, z_mm, z_eqm, z_eqm', z_ltm, z_ltm', z_lem, z_lem', nI_leI, nI_ltI, nI_eq, nI_toInt, nI_clamp, nI_add, pk_mul, pk_sub, pk_div, z_rem, z_shr1, z_and1, decide_eq_true_eq, if_pos, if_neg, Option.bind_some, ite_true, ite_false, eq_self, not_false_eq_true, not_true_eq_false, sMk]⟩)
    (fun N x ⟨f, hf, hx⟩ => by
      show fn_D_forget_2 _ (N + 1) _ _ = _
      rw [fn_D_forget_2]
      simp (disch := omega) only [z_lit, z_mm, z_eqm, z_eqm', z_ltm, z_ltm', z_lem, z_lem', nI_leI, nI_ltI, nI_eq, nI_toInt, nI_clamp, nI_add, pk_mul, pk_sub, pk_div, z_rem, z_shr1, z_and1, decide_eq_true_eq, if_pos, if_neg, Option.bind_some, ite_true, ite_false, eq_self, not_false_eq_true, not_true_eq_false]) (N := am_NF) (k := 0) (s := d) (by omega) (by rw [z_NF]; omega) ⟨d.2.2.2.1, fun v h => absurd h (by omega), rfl⟩
  refine ⟨f, fun v hv => ⟨fun h => h.elim, fun _ => h1 v hv⟩, ?_⟩
  rw [← h3]
  exact h2
theorem C_markAll {d : SD} {D : De} (h : CD d D) (hb : Vb D) (hl : Vl D) {i : Nat} (hi : i < 8) {P : Nat → Prop} (hm : Mks d.2.2.2.1 P) :
    ∃ f, Mks f (fun v => P v ∨ ∃ k, k < D.2.1 (dk i) ∧ D.2.2 i k / 2 = v) ∧ fn_D_markAll (nI i) d = some (sMk d f) := by
  have h60 := Vb_60 hb hi
  obtain ⟨s', ⟨f, h1, h3⟩, h2⟩ := z_loop (fun N k (x : SD) => fn_D_markAll_2 (nI i) (fun d => some d) N (nI k) x) (fun d => some d) (D.2.1 (dk i)) (fun n x => ∃ f, Mks f (fun v => P v ∨ ∃ k, k < n ∧ D.2.2 i k / 2 = v) ∧ x = sMk d f)
    (fun N k x hk ⟨f, hf, hx⟩ => ⟨sMk d (upd f (D.2.2 i k / 2) (nI 1)), ⟨upd f (D.2.2 i k / 2) (nI 1), Mks_upd hf (fun v _ => by
        constructor
        · rintro (a | ⟨j, a, b⟩)
          · exact Or.inl (Or.inl a)
          · by_cases e : j = k
            · exact Or.inr (by rw [← b, e])
            · exact Or.inl (Or.inr ⟨j, by omega, b⟩)
        · rintro ((a | ⟨j, a, b⟩) | a)
          · exact Or.inl a
          · exact Or.inr ⟨j, by omega, b⟩
          · exact Or.inr ⟨k, by omega, a.symm⟩), rfl⟩, by
      subst hx
      have hlt := hl i k hi hk
      show fn_D_markAll_2 _ _ (N + 1) _ _ = _
      rw [fn_D_markAll_2]
      simp (disch := omega) only [z_lit, z_mm, z_eqm, z_eqm', z_ltm, z_ltm', z_lem, z_lem', nI_leI, nI_ltI, nI_eq, nI_toInt, nI_clamp, nI_add, pk_mul, pk_sub, pk_div, z_rem, z_shr1, z_and1, decide_eq_true_eq, if_pos, if_neg, Option.bind_some, ite_true, ite_false, eq_self, not_false_eq_true, not_true_eq_false, C_many (CD_sMk (f := f) h), C_getD (CD_sMk (f := f) h) hb, C_mark]
      rfl⟩)
    (fun N x ⟨f, hf, hx⟩ => by
      subst hx
      show fn_D_markAll_2 _ _ (N + 1) _ _ = _
      rw [fn_D_markAll_2]
      simp (disch := omega) only [z_lit, z_mm, z_eqm, z_eqm', z_ltm, z_ltm', z_lem, z_lem', nI_leI, nI_ltI, nI_eq, nI_toInt, nI_clamp, nI_add, pk_mul, pk_sub, pk_div, z_rem, z_shr1, z_and1, decide_eq_true_eq, if_pos, if_neg, Option.bind_some, ite_true, ite_false, eq_self, not_false_eq_true, not_true_eq_false, C_many (CD_sMk (f := f) h)]) (N := am_NF) (k := 0) (s := d) (by omega) (by rw [z_NF]; omega) ⟨d.2.2.2.1, Mks_cong hm (fun v _ => ⟨fun h => h.elim id (fun ⟨j, a, _⟩ => absurd a (by omega)), Or.inl⟩), rfl⟩
  refine ⟨f, h1, ?_⟩
  rw [← h3]
  exact h2
theorem C_firstReady {d : SD} {D : De} (h : CD d D) (hV : Vd D) {s : Nat → Nat} {i : Nat} (hm : Mks d.2.2.2.1 (mkd D s i)) (hex : ∃ g, g < D.2.1 3 ∧ rdy D s i g) :
    ∃ g, g < D.2.1 3 ∧ rdy D s i g ∧ (∀ k, k < g → ¬ rdy D s i k) ∧ fn_D_firstReady d = some (nI g) := by
  obtain ⟨hb, hl, -⟩ := hV
  have h60 : D.2.1 3 ≤ 60 := hb.2.2.2.2
  obtain ⟨g, hg, hr⟩ := hex
  have h3 : ∀ k, k < D.2.1 3 → D.2.2 3 k < 200 := fun k hk => hl 3 k (by omega) hk
  have h6 : ∀ k, k < D.2.1 3 → D.2.2 6 k < 200 := fun k hk => hl 6 k (by omega) hk
  have h7 : ∀ k, k < D.2.1 3 → D.2.2 7 k < 200 := fun k hk => hl 7 k (by omega) hk
  obtain ⟨j, -, b, c, e, f⟩ := z_first (fun N k => fn_D_firstReady_2 d (some (nI 0)) N (nI k)) (fun k => some (nI k)) (D.2.1 3) (rdy D s i)
    (fun N k hk hn => by
      show fn_D_firstReady_2 _ _ (N + 1) _ = _
      rw [fn_D_firstReady_2]
      have a3 := h3 k hk
      have a6 := h6 k hk
      have a7 := h7 k hk
      have g3 : fn_D_get (nI 3) (nI k) d = some (nI (D.2.2 3 k)) := C_getD h hb (by omega) hk
      have g6 : fn_D_get (nI 6) (nI k) d = some (nI (D.2.2 6 k)) := C_getD h hb (by omega) hk
      have g7 : fn_D_get (nI 7) (nI k) d = some (nI (D.2.2 7 k)) := C_getD h hb (by omega) hk
      have hm3 : fn_D_many (nI 3) d = some (nI (D.2.1 3)) := C_many h (by omega)
      by_cases m3 : mkd D s i (D.2.2 3 k / 2)
      · have e3 := (hm _ (by omega)).1 m3
        simp (disch := omega) only [z_lit, z_mm, z_eqm, z_eqm', z_ltm, z_ltm', z_lem, z_lem', nI_leI, nI_ltI, nI_eq, nI_toInt, nI_clamp, nI_add, pk_mul, pk_sub, pk_div, z_rem, z_shr1, z_and1, decide_eq_true_eq, if_pos, if_neg, Option.bind_some, ite_true, ite_false, eq_self, not_false_eq_true, not_true_eq_false, hm3, g3, C_markOf, e3]
      · have e3 := (hm _ (by omega)).2 m3
        by_cases m6 : mkd D s i (D.2.2 6 k / 2)
        · have e6 := (hm _ (by omega)).1 m6
          have m7 : ¬ mkd D s i (D.2.2 7 k / 2) := fun m7 => hn ⟨m3, m6, m7⟩
          have e7 := (hm _ (by omega)).2 m7
          simp (disch := omega) only [z_lit, z_mm, z_eqm, z_eqm', z_ltm, z_ltm', z_lem, z_lem', nI_leI, nI_ltI, nI_eq, nI_toInt, nI_clamp, nI_add, pk_mul, pk_sub, pk_div, z_rem, z_shr1, z_and1, decide_eq_true_eq, if_pos, if_neg, Option.bind_some, ite_true, ite_false, eq_self, not_false_eq_true, not_true_eq_false, hm3, g3, g6, g7, C_markOf, e3, e6, e7]
        · have e6 := (hm _ (by omega)).2 m6
          simp (disch := omega) only [z_lit, z_mm, z_eqm, z_eqm', z_ltm, z_ltm', z_lem, z_lem', nI_leI, nI_ltI, nI_eq, nI_toInt, nI_clamp, nI_add, pk_mul, pk_sub, pk_div, z_rem, z_shr1, z_and1, decide_eq_true_eq, if_pos, if_neg, Option.bind_some, ite_true, ite_false, eq_self, not_false_eq_true, not_true_eq_false, hm3, g3, g6, C_markOf, e3, e6])
    (fun N k hk hn => by
      show fn_D_firstReady_2 _ _ (N + 1) _ = _
      rw [fn_D_firstReady_2]
      have a3 := h3 k hk
      have a6 := h6 k hk
      have a7 := h7 k hk
      have g3 : fn_D_get (nI 3) (nI k) d = some (nI (D.2.2 3 k)) := C_getD h hb (by omega) hk
      have g6 : fn_D_get (nI 6) (nI k) d = some (nI (D.2.2 6 k)) := C_getD h hb (by omega) hk
      have g7 : fn_D_get (nI 7) (nI k) d = some (nI (D.2.2 7 k)) := C_getD h hb (by omega) hk
      have hm3 : fn_D_many (nI 3) d = some (nI (D.2.1 3)) := C_many h (by omega)
      have e3 := (hm _ (by omega)).2 hn.1
      have e6 := (hm _ (by omega)).1 hn.2.1
      have e7 := (hm _ (by omega)).1 hn.2.2
      simp (disch := omega) only [z_lit, z_mm, z_eqm, z_eqm', z_ltm, z_ltm', z_lem, z_lem', nI_leI, nI_ltI, nI_eq, nI_toInt, nI_clamp, nI_add, pk_mul, pk_sub, pk_div, z_rem, z_shr1, z_and1, decide_eq_true_eq, if_pos, if_neg, Option.bind_some, ite_true, ite_false, eq_self, not_false_eq_true, not_true_eq_false, hm3, g3, g6, g7, C_markOf, e3, e6, e7]) (N := am_NF) (k := 0) (by rw [z_NF]; omega) ⟨g, by omega, hg, hr⟩
  exact ⟨j, b, c, fun k hk => e k (by omega) hk, f⟩
def sSq (d : SD) (q f : Nat → Int32) : SD := (d.1, d.2.1, q, f, d.2.2.2.2.1, d.2.2.2.2.2)
theorem CD_sSq {d : SD} {D : De} {q f : Nat → Int32} (h : CD d D) : CD (sSq d q f) D := h
theorem C_arrange {d : SD} {D : De} (h : CD d D) (hV : Vd D) : ∃ q f s, Sq D s (D.2.1 3) ∧ (∀ j, j < D.2.1 3 → q j = nI (s j)) ∧ fn_D_arrange d = some (sSq d q f) := by
  have hb := hV.1
  have hl := hV.2.1
  have h60 : D.2.1 3 ≤ 60 := hb.2.2.2.2
  obtain ⟨f0, m0, e0⟩ := C_forget d
  have m1' : Mks (sMk (sMk d f0) (upd f0 (0 / 2) (nI 1))).2.2.2.1 (fun v => v = 0) := Mks_upd m0 (fun v _ => ⟨Or.inr, fun h => h.elim False.elim id⟩)
  obtain ⟨f2, m2, e2⟩ := C_markAll (i := 0) (CD_sMk (f := upd f0 (0 / 2) (nI 1)) (CD_sMk (f := f0) h)) hb hl (by omega) m1'
  obtain ⟨f3, m3, e3⟩ := C_markAll (d := sMk (sMk (sMk d f0) (upd f0 (0 / 2) (nI 1))) f2) (i := 1) (CD_sMk (f := f2) (CD_sMk (f := upd f0 (0 / 2) (nI 1)) (CD_sMk (f := f0) h))) hb hl (by omega) m2
  have m3' : Mks f3 (mkd D (fun _ => 0) 0) := Mks_cong m3 (fun v _ => by
    constructor
    · rintro ((a | ⟨j, a, b⟩) | ⟨j, a, b⟩)
      · exact Or.inl (Or.inl a)
      · by_cases hj : j < D.2.1 0
        · exact Or.inl (Or.inr ⟨j, hj, by rw [← b, dv_i hj]⟩)
        · refine Or.inr ⟨j - D.2.1 0, by rw [dk1]; omega, ?_⟩
          rw [← b, ← dv_l (D := D) (k := j - D.2.1 0) (by omega), show D.2.1 0 + (j - D.2.1 0) = j by omega]
      · omega
    · rintro ((a | ⟨k, a, b⟩) | ⟨k, a, b⟩)
      · exact Or.inl (Or.inl a)
      · exact Or.inl (Or.inr ⟨k, by rw [dk0] at a; omega, by rw [dv_i a]; exact b⟩)
      · exact Or.inl (Or.inr ⟨D.2.1 0 + k, by rw [dk1] at a; omega, by rw [dv_l a]; exact b⟩))
  obtain ⟨s', ⟨q, f, s, h1, h2, h3, h4⟩, h5⟩ := z_loop (fun N k (x : SD) => fn_D_arrange_22 (fun d => some d) N (nI k) x) (fun d => some d) (D.2.1 3) (fun n x => ∃ q f s, x = sSq d q f ∧ Sq D s n ∧ (∀ j, j < n → q j = nI (s j)) ∧ Mks f (mkd D s n))
    (fun N k x hk ⟨q, f, s, hx, hs, hq, hm⟩ => by
      subst hx
      obtain ⟨g, hg, hr, hf, hfr⟩ := C_firstReady (CD_sSq (q := q) (f := f) h) hV hm (Sq_ex hV hs hk)
      have hlt := hl 3 g (by omega) hg
      refine ⟨sSq d (upd q k (nI g)) (upd f (D.2.2 3 g / 2) (nI 1)), ⟨upd q k (nI g), upd f (D.2.2 3 g / 2) (nI 1), fun j => if j = k then g else s j, rfl, Sq_succ hs hg hr hf, fun j hj => ?_, Mks_upd hm (fun v _ => ?_)⟩, ?_⟩
      · by_cases e : j = k
        · subst e; rw [pk_us]; exact congrArg nI (if_pos rfl).symm
        · rw [pk_un e, hq j (by omega)]; exact congrArg nI (if_neg e).symm
      · constructor
        · rintro (a | ⟨j, a, b⟩)
          · exact Or.inl (Or.inl a)
          · have b : D.2.2 3 (if j = k then g else s j) / 2 = v := b
            by_cases e : j = k
            · rw [if_pos e] at b; exact Or.inr b.symm
            · rw [if_neg e] at b; exact Or.inl (Or.inr ⟨j, by omega, b⟩)
        · rintro ((a | ⟨j, a, b⟩) | a)
          · exact Or.inl a
          · refine Or.inr ⟨j, by omega, ?_⟩
            show D.2.2 3 (if j = k then g else s j) / 2 = v
            rw [if_neg (by omega)]; exact b
          · refine Or.inr ⟨k, by omega, ?_⟩
            show D.2.2 3 (if k = k then g else s k) / 2 = v
            rw [if_pos rfl]; exact a.symm
      · show fn_D_arrange_22 _ (N + 1) _ _ = _
        rw [fn_D_arrange_22]
        have hm3 : fn_D_many (nI 3) (sSq d q f) = some (nI (D.2.1 3)) := C_many (CD_sSq h) (by omega)
        have g3 : fn_D_get (nI 3) (nI g) (sSq d (upd q k (nI g)) f) = some (nI (D.2.2 3 g)) := C_getD (CD_sSq h) hb (by omega) hg
        have e1 : ((sSq d q f).1, (sSq d q f).2.1, upd (sSq d q f).2.2.1 k (nI g), (sSq d q f).2.2.2.1, (sSq d q f).2.2.2.2.1, (sSq d q f).2.2.2.2.2) = sSq d (upd q k (nI g)) f := rfl
        simp (disch := omega) only [z_lit, z_mm, z_eqm, z_eqm', z_ltm, z_ltm', z_lem, z_lem', nI_leI, nI_ltI, nI_eq, nI_toInt, nI_clamp, nI_add, pk_mul, pk_sub, pk_div, z_rem, z_shr1, z_and1, decide_eq_true_eq, if_pos, if_neg, Option.bind_some, ite_true, ite_false, eq_self, not_false_eq_true, not_true_eq_false, hm3, hfr, e1, g3, C_mark]
        rfl)
    (fun N x ⟨q, f, s, hx, _⟩ => by
      subst hx
      have hm3 : fn_D_many (nI 3) (sSq d q f) = some (nI (D.2.1 3)) := C_many (CD_sSq h) (by omega)
      show fn_D_arrange_22 _ (N + 1) _ _ = _
      rw [fn_D_arrange_22]
      simp (disch := omega) only [z_lit, z_mm, z_eqm, z_eqm', z_ltm, z_ltm', z_lem, z_lem', nI_leI, nI_ltI, nI_eq, nI_toInt, nI_clamp, nI_add, pk_mul, pk_sub, pk_div, z_rem, z_shr1, z_and1, decide_eq_true_eq, if_pos, if_neg, Option.bind_some, ite_true, ite_false, eq_self, not_false_eq_true, not_true_eq_false, hm3]) (N := am_NF) (k := 0) (s := sSq d d.2.2.1 f3) (by omega) (by rw [z_NF]; omega) ⟨d.2.2.1, f3, fun _ => 0, rfl, fun i hi => absurd hi (by omega), fun j hj => absurd hj (by omega), m3'⟩
  refine ⟨q, f, s, h2, h3, ?_⟩
  unfold fn_D_arrange
  simp (disch := omega) only [z_lit, z_mm, z_eqm, z_eqm', z_ltm, z_ltm', z_lem, z_lem', nI_leI, nI_ltI, nI_eq, nI_toInt, nI_clamp, nI_add, pk_mul, pk_sub, pk_div, z_rem, z_shr1, z_and1, decide_eq_true_eq, if_pos, if_neg, Option.bind_some, ite_true, ite_false, eq_self, not_false_eq_true, not_true_eq_false, e0, C_mark]
  rw [show (nI 0 : Int32) = nI 0 from rfl] at e2
  have e2' : fn_D_markAll (nI 0) (sMk (sMk d f0) (upd (sMk d f0).2.2.2.1 (0 / 2) (nI 1))) = _ := e2
  simp (disch := omega) only [z_lit, z_mm, z_eqm, z_eqm', z_ltm, z_ltm', z_lem, z_lem', nI_leI, nI_ltI, nI_eq, nI_toInt, nI_clamp, nI_add, pk_mul, pk_sub, pk_div, z_rem, z_shr1, z_and1, decide_eq_true_eq, if_pos, if_neg, Option.bind_some, ite_true, ite_false, eq_self, not_false_eq_true, not_true_eq_false, e2']
  simp (disch := omega) only [z_lit, z_mm, z_eqm, z_eqm', z_ltm, z_ltm', z_lem, z_lem', nI_leI, nI_ltI, nI_eq, nI_toInt, nI_clamp, nI_add, pk_mul, pk_sub, pk_div, z_rem, z_shr1, z_and1, decide_eq_true_eq, if_pos, if_neg, Option.bind_some, ite_true, ite_false, eq_self, not_false_eq_true, not_true_eq_false, e3]
  rw [← h1]
  exact h5
