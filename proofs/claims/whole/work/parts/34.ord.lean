/-! ORDER: the defined ones in their new order, their new numbers, the new design -/
def pm (D : De) (s : Nat → Nat) (i : Nat) : Nat := if i < D.2.1 0 + D.2.1 1 then i else D.2.1 0 + D.2.1 1 + s (i - (D.2.1 0 + D.2.1 1))
theorem pm_b {D : De} {s : Nat → Nat} {i : Nat} (h : i < D.2.1 0 + D.2.1 1) : pm D s i = i := if_pos h
theorem pm_g {D : De} {s : Nat → Nat} {k : Nat} : pm D s (D.2.1 0 + D.2.1 1 + k) = D.2.1 0 + D.2.1 1 + s k := by
  unfold pm
  rw [if_neg (by omega), show D.2.1 0 + D.2.1 1 + k - (D.2.1 0 + D.2.1 1) = k by omega]
theorem pm_lt {D : De} {s : Nat → Nat} {i : Nat} (hs : Sq D s (D.2.1 3)) (h : i < dn D) : pm D s i < dn D := by
  by_cases hi : i < D.2.1 0 + D.2.1 1
  · rw [pm_b hi]; exact h
  · obtain ⟨k, rfl⟩ : ∃ k, i = D.2.1 0 + D.2.1 1 + k := ⟨i - (D.2.1 0 + D.2.1 1), by omega⟩
    rw [pm_g]
    unfold dn at h ⊢
    have := (hs k (by omega)).1
    omega
def odv (D : De) (s : Nat → Nat) (i : Nat) : Nat := dv D (pm D s i)
theorem odv_i {D : De} {s : Nat → Nat} {k : Nat} (h : k < D.2.1 0) : odv D s k = D.2.2 0 k := by
  unfold odv; rw [pm_b (by omega), dv_i h]
theorem odv_l {D : De} {s : Nat → Nat} {k : Nat} (h : k < D.2.1 1) : odv D s (D.2.1 0 + k) = D.2.2 1 k := by
  unfold odv; rw [pm_b (by omega), dv_l h]
theorem odv_g {D : De} {s : Nat → Nat} {k : Nat} : odv D s (D.2.1 0 + D.2.1 1 + k) = D.2.2 3 (s k) := by
  unfold odv; rw [pm_g, dv_g]
theorem odv_inj {D : De} {s : Nat → Nat} (hV : Vd D) (hs : Sq D s (D.2.1 3)) {i j : Nat} (hi : i < dn D) (hj : j < dn D) (h : odv D s i / 2 = odv D s j / 2) : i = j := by
  have h1 := Vd_inj hV (pm_lt hs hi) (pm_lt hs hj) h
  have hg := Sq_inj hs
  by_cases a : i < D.2.1 0 + D.2.1 1
  · by_cases b : j < D.2.1 0 + D.2.1 1
    · rw [pm_b a, pm_b b] at h1; exact h1
    · obtain ⟨k, rfl⟩ : ∃ k, j = D.2.1 0 + D.2.1 1 + k := ⟨j - (D.2.1 0 + D.2.1 1), by omega⟩
      rw [pm_b a, pm_g] at h1; omega
  · obtain ⟨m, rfl⟩ : ∃ k, i = D.2.1 0 + D.2.1 1 + k := ⟨i - (D.2.1 0 + D.2.1 1), by omega⟩
    by_cases b : j < D.2.1 0 + D.2.1 1
    · rw [pm_b b, pm_g] at h1; omega
    · obtain ⟨k, rfl⟩ : ∃ k, j = D.2.1 0 + D.2.1 1 + k := ⟨j - (D.2.1 0 + D.2.1 1), by omega⟩
      rw [pm_g, pm_g] at h1
      unfold dn at hi hj
      have := hg m k (by omega) (by omega) (by omega)
      omega
theorem odv_pos {D : De} {s : Nat → Nat} (hV : Vd D) (hs : Sq D s (D.2.1 3)) {i : Nat} (hi : i < dn D) : 2 ≤ odv D s i ∧ odv D s i < 200 ∧ odv D s i % 2 = 0 := by
  have a := hV.2.2.2.1 _ (pm_lt hs hi)
  have b := Vd_lt hV (v := odv D s i / 2) (Or.inr ⟨pm D s i, pm_lt hs hi, rfl⟩)
  exact ⟨a.2, by omega, a.1⟩
theorem odv_onto {D : De} {s : Nat → Nat} (hs : Sq D s (D.2.1 3)) {v : Nat} (h : isDef D v) : v = 0 ∨ ∃ i, i < dn D ∧ odv D s i / 2 = v := by
  rcases isDef_cases h with h | ⟨k, a, b⟩ | ⟨k, a, b⟩ | ⟨k, a, b⟩
  · exact Or.inl h
  · exact Or.inr ⟨k, by unfold dn; omega, by rw [odv_i a]; exact b⟩
  · exact Or.inr ⟨D.2.1 0 + k, by unfold dn; omega, by rw [odv_l a]; exact b⟩
  · obtain ⟨j, h1, h2⟩ := Sq_onto hs a
    exact Or.inr ⟨D.2.1 0 + D.2.1 1 + j, by unfold dn; omega, by rw [odv_g, h2]; exact b⟩
/-- a value's new number -/
noncomputable def nv (D : De) (s : Nat → Nat) (v : Nat) : Nat := @dite Nat (∃ i, i < dn D ∧ odv D s i / 2 = v) (Classical.propDecidable _) (fun h => Classical.choose h + 1) (fun _ => 0)
theorem nv_no {D : De} {s : Nat → Nat} {v : Nat} (h : ¬ ∃ i, i < dn D ∧ odv D s i / 2 = v) : nv D s v = 0 := dif_neg h
theorem nv_yes {D : De} {s : Nat → Nat} (hV : Vd D) (hs : Sq D s (D.2.1 3)) {i : Nat} (hi : i < dn D) : nv D s (odv D s i / 2) = i + 1 := by
  have h : ∃ j, j < dn D ∧ odv D s j / 2 = odv D s i / 2 := ⟨i, hi, rfl⟩
  have h1 : nv D s (odv D s i / 2) = Classical.choose h + 1 := dif_pos h
  have h2 := Classical.choose_spec h
  rw [h1, odv_inj hV hs h2.1 hi h2.2]
theorem nv_0 {D : De} {s : Nat → Nat} (hV : Vd D) (hs : Sq D s (D.2.1 3)) : nv D s 0 = 0 := nv_no (fun ⟨i, a, b⟩ => by have := odv_pos hV hs a; omega)
theorem nv_le {D : De} {s : Nat → Nat} {v : Nat} : nv D s v ≤ dn D := by
  by_cases h : ∃ i, i < dn D ∧ odv D s i / 2 = v
  · have h1 : nv D s v = Classical.choose h + 1 := dif_pos h
    have h2 := (Classical.choose_spec h).1
    omega
  · rw [nv_no h]; omega
noncomputable def rn (D : De) (s : Nat → Nat) (u : Nat) : Nat := 2 * nv D s (u / 2) + u % 2
noncomputable def newD (D : De) (s : Nat → Nat) : De := (dn D, D.2.1, fun i k =>
  if i = 3 then rn D s (D.2.2 3 (s k)) else if i = 5 then D.2.2 5 k
  else if i = 6 then (if rn D s (D.2.2 6 (s k)) < rn D s (D.2.2 7 (s k)) then rn D s (D.2.2 7 (s k)) else rn D s (D.2.2 6 (s k)))
  else if i = 7 then (if rn D s (D.2.2 7 (s k)) < rn D s (D.2.2 6 (s k)) then rn D s (D.2.2 7 (s k)) else rn D s (D.2.2 6 (s k)))
  else rn D s (D.2.2 i k))
theorem dn_76 {D : De} (h : Vb D) : dn D ≤ 76 := by
  unfold dn
  obtain ⟨a, b, c, d, e⟩ := h
  omega
theorem rn_lt {D : De} {s : Nat → Nat} (h : Vb D) (u : Nat) : rn D s u < 200 := by
  have h1 := nv_le (D := D) (s := s) (v := u / 2)
  have h2 := dn_76 h
  unfold rn
  omega
theorem rn_half {D : De} {s : Nat → Nat} (u : Nat) : rn D s u / 2 = nv D s (u / 2) := by unfold rn; omega
theorem newD_3 {D : De} {s : Nat → Nat} {k : Nat} : (newD D s).2.2 3 k = rn D s (D.2.2 3 (s k)) := rfl
theorem newD_5 {D : De} {s : Nat → Nat} {k : Nat} : (newD D s).2.2 5 k = D.2.2 5 k := rfl
theorem newD_6 {D : De} {s : Nat → Nat} {k : Nat} : (newD D s).2.2 6 k = (if rn D s (D.2.2 6 (s k)) < rn D s (D.2.2 7 (s k)) then rn D s (D.2.2 7 (s k)) else rn D s (D.2.2 6 (s k))) := rfl
theorem newD_7 {D : De} {s : Nat → Nat} {k : Nat} : (newD D s).2.2 7 k = (if rn D s (D.2.2 7 (s k)) < rn D s (D.2.2 6 (s k)) then rn D s (D.2.2 7 (s k)) else rn D s (D.2.2 6 (s k))) := rfl
theorem newD_0 {D : De} {s : Nat → Nat} {k : Nat} : (newD D s).2.2 0 k = rn D s (D.2.2 0 k) := rfl
theorem newD_1 {D : De} {s : Nat → Nat} {k : Nat} : (newD D s).2.2 1 k = rn D s (D.2.2 1 k) := rfl
theorem newD_2 {D : De} {s : Nat → Nat} {k : Nat} : (newD D s).2.2 2 k = rn D s (D.2.2 2 k) := rfl
theorem newD_4 {D : De} {s : Nat → Nat} {k : Nat} : (newD D s).2.2 4 k = rn D s (D.2.2 4 k) := rfl
/-- a defined one's new literal -/
theorem rn_odv {D : De} {s : Nat → Nat} (hV : Vd D) (hs : Sq D s (D.2.1 3)) {i : Nat} (hi : i < dn D) : rn D s (odv D s i) = 2 * (i + 1) := by
  have a := odv_pos hV hs hi
  unfold rn
  rw [nv_yes hV hs hi]
  omega
theorem newD_dv {D : De} {s : Nat → Nat} (hV : Vd D) (hs : Sq D s (D.2.1 3)) {j : Nat} (hj : j < dn D) : dv (newD D s) j = 2 * (j + 1) := by
  by_cases a : j < D.2.1 0
  · rw [dv_i (D := newD D s) a, newD_0, ← odv_i (s := s) a, rn_odv hV hs hj]
  · by_cases b : j < D.2.1 0 + D.2.1 1
    · obtain ⟨k, rfl⟩ : ∃ k, j = D.2.1 0 + k := ⟨j - D.2.1 0, by omega⟩
      have e := dv_l (D := newD D s) (k := k) (show k < D.2.1 1 by omega)
      have e : dv (newD D s) (D.2.1 0 + k) = _ := e
      rw [e, newD_1, ← odv_l (s := s) (show k < D.2.1 1 by omega), rn_odv hV hs hj]
    · obtain ⟨k, rfl⟩ : ∃ k, j = D.2.1 0 + D.2.1 1 + k := ⟨j - (D.2.1 0 + D.2.1 1), by omega⟩
      have e := dv_g (D := newD D s) (k := k)
      have e : dv (newD D s) (D.2.1 0 + D.2.1 1 + k) = _ := e
      rw [e, newD_3, ← odv_g (s := s), rn_odv hV hs hj]
theorem nv_def {D : De} {s : Nat → Nat} (hV : Vd D) (hs : Sq D s (D.2.1 3)) (v : Nat) : isDef (newD D s) (nv D s v) := by
  have hle := nv_le (D := D) (s := s) (v := v)
  by_cases h : nv D s v = 0
  · exact Or.inl h
  · refine Or.inr ⟨nv D s v - 1, ?_, ?_⟩
    · show nv D s v - 1 < dn D
      omega
    · rw [newD_dv hV hs (by omega)]; omega
/-- what a gate uses has a smaller number than the gate -/
theorem nv_mkd {D : De} {s : Nat → Nat} (hV : Vd D) (hs : Sq D s (D.2.1 3)) {k v : Nat} (hk : k < D.2.1 3) (h : mkd D s k v) : nv D s v ≤ D.2.1 0 + D.2.1 1 + k := by
  rcases h with (a | ⟨j, a, b⟩) | ⟨j, a, b⟩
  · rw [a, nv_0 hV hs]; omega
  · have e : odv D s j / 2 = v := by unfold odv; rw [pm_b a]; exact b
    rw [← e, nv_yes hV hs (by unfold dn; omega)]; omega
  · have e : odv D s (D.2.1 0 + D.2.1 1 + j) / 2 = v := by rw [odv_g]; exact b
    rw [← e, nv_yes hV hs (by unfold dn; omega)]; omega
theorem newD_Vd {D : De} {s : Nat → Nat} (hV : Vd D) (hs : Sq D s (D.2.1 3)) : Vd (newD D s) := by
  have hb := hV.1
  have h76 := dn_76 hb
  have hr : ∀ u, rn D s u < 200 := rn_lt hb
  refine ⟨⟨by show dn D ≤ 99; omega, hb.2.1, hb.2.2.1, hb.2.2.2.1, hb.2.2.2.2⟩, ?_, ?_, ?_, ?_, ?_, ?_⟩
  · intro i k hi hk
    show (newD D s).2.2 i k < 200
    have h5 : k < D.2.1 1 → D.2.2 5 k < 200 := fun h => by have := hV.2.2.1 k h; omega
    have : i = 0 ∨ i = 1 ∨ i = 2 ∨ i = 3 ∨ i = 4 ∨ i = 5 ∨ i = 6 ∨ i = 7 := by omega
    rcases this with rfl | rfl | rfl | rfl | rfl | rfl | rfl | rfl
    · exact hr _
    · exact hr _
    · exact hr _
    · exact hr _
    · exact hr _
    · exact h5 hk
    · rw [newD_6]
      split
      · exact hr _
      · exact hr _
    · rw [newD_7]
      split
      · exact hr _
      · exact hr _
  · exact hV.2.2.1
  · intro j hj
    have hj : j < dn D := hj
    rw [newD_dv hV hs hj]
    omega
  · intro i j hi hj h
    have hi : i < dn D := hi
    have hj : j < dn D := hj
    rw [newD_dv hV hs hi, newD_dv hV hs hj] at h
    omega
  · intro i k hi hk
    have hu : ∀ u, isDef (newD D s) (rn D s u / 2) := fun u => by rw [rn_half]; exact nv_def hV hs _
    rcases hi with rfl | rfl | rfl | rfl
    · exact hu _
    · exact hu _
    · rw [newD_6]
      split
      · exact hu _
      · exact hu _
    · rw [newD_7]
      split
      · exact hu _
      · exact hu _
  · refine ⟨fun g => g, fun g h hg hh he => ?_⟩
    have hg : g < D.2.1 3 := hg
    have hh : h < D.2.1 3 := hh
    have hr := (hs g hg).2.1
    have h6 := nv_mkd hV hs hg hr.2.1
    have h7 := nv_mkd hV hs hg hr.2.2
    have e3 : (newD D s).2.2 3 h / 2 = D.2.1 0 + D.2.1 1 + h + 1 := by
      rw [newD_3, ← odv_g (s := s), rn_odv hV hs (by unfold dn; omega)]; omega
    rw [e3, newD_6, newD_7] at he
    show h < g
    rcases he with he | he
    · split at he
      · rw [rn_half] at he; omega
      · rw [rn_half] at he; omega
    · split at he
      · rw [rn_half] at he; omega
      · rw [rn_half] at he; omega
/-- marks that hold the new numbers of the first n -/
def NM (D : De) (s : Nat → Nat) (f : Nat → Int32) (n : Nat) : Prop := f 0 = nI 0 ∧ ∀ i, i < n → f (odv D s i / 2) = nI (i + 1)
theorem NM_step {D : De} {s : Nat → Nat} (hV : Vd D) (hs : Sq D s (D.2.1 3)) {f : Nat → Int32} {n : Nat} (hn : n < dn D) (h : NM D s f n) : NM D s (upd f (odv D s n / 2) (nI (n + 1))) (n + 1) := by
  have hp := odv_pos hV hs hn
  refine ⟨by rw [pk_un (by omega)]; exact h.1, fun i hi => ?_⟩
  by_cases e : i = n
  · subst e; rw [pk_us]
  · rw [pk_un (fun he => e (odv_inj hV hs (by omega) hn he))]
    exact h.2 i (by omega)
theorem NM_def {D : De} {s : Nat → Nat} (hV : Vd D) (hs : Sq D s (D.2.1 3)) {f : Nat → Int32} (h : NM D s f (dn D)) {v : Nat} (hv : isDef D v) : f v = nI (nv D s v) := by
  rcases odv_onto hs hv with rfl | ⟨i, a, b⟩
  · rw [nv_0 hV hs]; exact h.1
  · rw [← b, nv_yes hV hs a]; exact h.2 i a
