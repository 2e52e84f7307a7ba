/-! THE SEQUENCE of the gates: each time the first one that is ready -/
def bas (D : De) (v : Nat) : Prop := v = 0 ∨ ∃ j, j < D.2.1 0 + D.2.1 1 ∧ dv D j / 2 = v
def mkd (D : De) (s : Nat → Nat) (i v : Nat) : Prop := bas D v ∨ ∃ j, j < i ∧ D.2.2 3 (s j) / 2 = v
def rdy (D : De) (s : Nat → Nat) (i g : Nat) : Prop := ¬ mkd D s i (D.2.2 3 g / 2) ∧ mkd D s i (D.2.2 6 g / 2) ∧ mkd D s i (D.2.2 7 g / 2)
def Sq (D : De) (s : Nat → Nat) (n : Nat) : Prop := ∀ i, i < n → s i < D.2.1 3 ∧ rdy D s i (s i) ∧ ∀ g, g < s i → ¬ rdy D s i g
theorem mkd_0 {D : De} {s : Nat → Nat} {i : Nat} : mkd D s i 0 := Or.inl (Or.inl rfl)
theorem mkd_cong {D : De} {s t : Nat → Nat} {i v : Nat} (h : ∀ j, j < i → s j = t j) : mkd D s i v ↔ mkd D t i v := by
  constructor
  · rintro (a | ⟨j, a, b⟩)
    · exact Or.inl a
    · exact Or.inr ⟨j, a, by rw [← h j a]; exact b⟩
  · rintro (a | ⟨j, a, b⟩)
    · exact Or.inl a
    · exact Or.inr ⟨j, a, by rw [h j a]; exact b⟩
theorem rdy_cong {D : De} {s t : Nat → Nat} {i g : Nat} (h : ∀ j, j < i → s j = t j) : rdy D s i g ↔ rdy D t i g := by
  unfold rdy
  rw [mkd_cong h, mkd_cong h, mkd_cong h]
theorem mkd_mono {D : De} {s : Nat → Nat} {i j v : Nat} (h : mkd D s i v) (hij : i ≤ j) : mkd D s j v := by
  rcases h with a | ⟨k, a, b⟩
  · exact Or.inl a
  · exact Or.inr ⟨k, by omega, b⟩
theorem Sq_cong {D : De} {s t : Nat → Nat} {n : Nat} (h : ∀ j, j < n → s j = t j) (hs : Sq D s n) : Sq D t n := by
  intro i hi
  obtain ⟨a, b, c⟩ := hs i hi
  have hh : ∀ j, j < i → s j = t j := fun j hj => h j (by omega)
  rw [← h i hi]
  exact ⟨a, (rdy_cong hh).mp b, fun g hg hr => c g hg ((rdy_cong hh).mpr hr)⟩
theorem Sq_uni {D : De} {s t : Nat → Nat} {n : Nat} (hs : Sq D s n) (ht : Sq D t n) : ∀ i, i < n → s i = t i := by
  intro i
  induction i using Nat.strongRecOn with
  | ind i ih =>
    intro hi
    have hh : ∀ j, j < i → s j = t j := fun j hj => ih j hj (by omega)
    obtain ⟨a, b, c⟩ := hs i hi
    obtain ⟨a', b', c'⟩ := ht i hi
    by_cases h1 : s i < t i
    · exact absurd ((rdy_cong hh).mp b) (c' _ h1)
    · by_cases h2 : t i < s i
      · exact absurd ((rdy_cong hh).mpr b') (c _ h2)
      · omega
theorem Sq_inj {D : De} {s : Nat → Nat} {n : Nat} (hs : Sq D s n) : ∀ i j, i < n → j < n → s i = s j → i = j := by
  have key : ∀ i j, i < j → j < n → s i ≠ s j := by
    intro i j hij hj e
    exact (hs j hj).2.1.1 (Or.inr ⟨i, hij, by rw [e]⟩)
  intro i j hi hj e
  by_cases h1 : i < j
  · exact absurd e (key i j h1 hj)
  · by_cases h2 : j < i
    · exact absurd e.symm (key j i h2 hi)
    · omega
theorem Sq_onto {D : De} {s : Nat → Nat} (hs : Sq D s (D.2.1 3)) {g : Nat} (hg : g < D.2.1 3) : ∃ j, j < D.2.1 3 ∧ s j = g :=
  z_onto (fun j hj => (hs j hj).1) (Sq_inj hs) hg
/-- a gate's value is not an input's, a latch's or 0 -/
theorem bas_gate {D : De} (h : Vd D) {g : Nat} (hg : g < D.2.1 3) : ¬ bas D (D.2.2 3 g / 2) := by
  rintro (a | ⟨j, a, b⟩)
  · have := h.2.2.2.1 (D.2.1 0 + D.2.1 1 + g) (by unfold dn; omega)
    rw [dv_g] at this
    omega
  · have := Vd_inj h (i := j) (j := D.2.1 0 + D.2.1 1 + g) (by unfold dn; omega) (by unfold dn; omega) (by rw [dv_g]; exact b)
    omega
theorem mkd_gate {D : De} (h : Vd D) {s : Nat → Nat} {i g : Nat} (hs : ∀ j, j < i → s j < D.2.1 3) (hg : g < D.2.1 3) : mkd D s i (D.2.2 3 g / 2) ↔ ∃ j, j < i ∧ s j = g := by
  constructor
  · rintro (a | ⟨j, a, b⟩)
    · exact absurd a (bas_gate h hg)
    · exact ⟨j, a, Vd_gate h (hs j a) hg b⟩
  · rintro ⟨j, a, b⟩
    exact Or.inr ⟨j, a, by rw [b]⟩
/-- what is used is marked, or a gate's -/
theorem isDef_mkd {D : De} {s : Nat → Nat} {i v : Nat} (h : isDef D v) : mkd D s i v ∨ ∃ g, g < D.2.1 3 ∧ D.2.2 3 g / 2 = v := by
  rcases isDef_cases h with h | ⟨k, a, b⟩ | ⟨k, a, b⟩ | ⟨k, a, b⟩
  · exact Or.inl (Or.inl (Or.inl h))
  · exact Or.inl (Or.inl (Or.inr ⟨k, by omega, by rw [dv_i a]; exact b⟩))
  · exact Or.inl (Or.inl (Or.inr ⟨D.2.1 0 + k, by omega, by rw [dv_l a]; exact b⟩))
  · exact Or.inr ⟨k, a, b⟩
/-- where P holds of 0, inputs, latches, and not of some gate's value, a gate is ready -/
theorem Vd_ready {D : De} (h : Vd D) (P : Nat → Prop) (h0 : ∀ v, bas D v → P v) {g : Nat} (hg : g < D.2.1 3) (hn : ¬ P (D.2.2 3 g / 2)) : ∃ g, g < D.2.1 3 ∧ ¬ P (D.2.2 3 g / 2) ∧ P (D.2.2 6 g / 2) ∧ P (D.2.2 7 g / 2) := by
  obtain ⟨hb, hl, h5, hvv, hin, hu, rk, ha⟩ := h
  have key : ∀ r g, rk g ≤ r → g < D.2.1 3 → ¬ P (D.2.2 3 g / 2) → ∃ g, g < D.2.1 3 ∧ ¬ P (D.2.2 3 g / 2) ∧ P (D.2.2 6 g / 2) ∧ P (D.2.2 7 g / 2) := by
    intro r
    induction r with
    | zero =>
      intro g hr hg hn
      refine ⟨g, hg, hn, ?_, ?_⟩
      · refine Classical.byContradiction fun hx => ?_
        rcases isDef_mkd (s := fun _ => 0) (i := 0) (hu 6 g (by omega) hg) with a | ⟨k, a, b⟩
        · rcases a with a | ⟨j, a, _⟩
          · exact hx (h0 _ a)
          · omega
        · have := ha g k hg a (Or.inl b.symm); omega
      · refine Classical.byContradiction fun hx => ?_
        rcases isDef_mkd (s := fun _ => 0) (i := 0) (hu 7 g (by omega) hg) with a | ⟨k, a, b⟩
        · rcases a with a | ⟨j, a, _⟩
          · exact hx (h0 _ a)
          · omega
        · have := ha g k hg a (Or.inr b.symm); omega
    | succ r ih =>
      intro g hr hg hn
      by_cases h6 : P (D.2.2 6 g / 2)
      · by_cases h7 : P (D.2.2 7 g / 2)
        · exact ⟨g, hg, hn, h6, h7⟩
        · rcases isDef_mkd (s := fun _ => 0) (i := 0) (hu 7 g (by omega) hg) with a | ⟨k, a, b⟩
          · rcases a with a | ⟨j, a, _⟩
            · exact absurd (h0 _ a) h7
            · omega
          · have := ha g k hg a (Or.inr b.symm)
            exact ih k (by omega) a (by rw [b]; exact h7)
      · rcases isDef_mkd (s := fun _ => 0) (i := 0) (hu 6 g (by omega) hg) with a | ⟨k, a, b⟩
        · rcases a with a | ⟨j, a, _⟩
          · exact absurd (h0 _ a) h6
          · omega
        · have := ha g k hg a (Or.inl b.symm)
          exact ih k (by omega) a (by rw [b]; exact h6)
  exact key (rk g) g (Nat.le_refl _) hg hn
theorem Sq_ex {D : De} (h : Vd D) {s : Nat → Nat} {i : Nat} (hs : Sq D s i) (hi : i < D.2.1 3) : ∃ g, g < D.2.1 3 ∧ rdy D s i g := by
  obtain ⟨g, hg, hne⟩ := z_left (n := D.2.1 3) (i := i) (f := s) hi
  obtain ⟨g', a, b, c, d⟩ := Vd_ready h (fun v => mkd D s i v) (fun v hv => Or.inl hv) hg (fun hm => by
    obtain ⟨j, a, b⟩ := (mkd_gate h (fun j hj => (hs j hj).1) hg).mp hm
    exact hne j a b)
  exact ⟨g', a, b, c, d⟩
theorem Sq_succ {D : De} {s : Nat → Nat} {i g : Nat} (hs : Sq D s i) (hg : g < D.2.1 3) (hr : rdy D s i g) (hf : ∀ k, k < g → ¬ rdy D s i k) : Sq D (fun j => if j = i then g else s j) (i + 1) := by
  have hc : ∀ j, j < i → s j = (fun j => if j = i then g else s j) j := fun j hj => (if_neg (by omega)).symm
  intro j hj
  by_cases hji : j = i
  · subst hji
    have e : (fun k => if k = j then g else s k) j = g := if_pos rfl
    rw [e]
    exact ⟨hg, (rdy_cong hc).mp hr, fun k hk hx => hf k hk ((rdy_cong hc).mpr hx)⟩
  · exact Sq_cong hc hs j (by omega)
