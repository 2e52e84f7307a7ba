/-! A DESIGN in naturals: the greatest value, the four counts, the eight rows -/
abbrev De : Type := Nat × (Nat → Nat) × (Nat → Nat → Nat)
/-- whose count a row has -/
def dk (i : Nat) : Nat := if i < 4 then i else if i < 6 then 1 else 3
theorem dk0 : dk 0 = 0 := rfl
theorem dk1 : dk 1 = 1 := rfl
theorem dk2 : dk 2 = 2 := rfl
theorem dk3 : dk 3 = 3 := rfl
theorem dk4 : dk 4 = 1 := rfl
theorem dk5 : dk 5 = 1 := rfl
theorem dk6 : dk 6 = 3 := rfl
theorem dk7 : dk 7 = 3 := rfl
/-- the defined ones, in a row: inputs, latches, gates -/
def dv (D : De) (j : Nat) : Nat := if j < D.2.1 0 then D.2.2 0 j else if j < D.2.1 0 + D.2.1 1 then D.2.2 1 (j - D.2.1 0) else D.2.2 3 (j - (D.2.1 0 + D.2.1 1))
def dn (D : De) : Nat := D.2.1 0 + D.2.1 1 + D.2.1 3
def Vb (D : De) : Prop := D.1 ≤ 99 ∧ D.2.1 0 ≤ 8 ∧ D.2.1 1 ≤ 8 ∧ D.2.1 2 ≤ 8 ∧ D.2.1 3 ≤ 60
def Vl (D : De) : Prop := ∀ i k, i < 8 → k < D.2.1 (dk i) → D.2.2 i k < 200
def V5 (D : De) : Prop := ∀ k, k < D.2.1 1 → D.2.2 5 k ≤ 1
def Vv (D : De) : Prop := ∀ j, j < dn D → dv D j % 2 = 0 ∧ 2 ≤ dv D j
def Vi (D : De) : Prop := ∀ i j, i < dn D → j < dn D → dv D i = dv D j → i = j
def isDef (D : De) (v : Nat) : Prop := v = 0 ∨ ∃ j, j < dn D ∧ dv D j / 2 = v
def Vu (D : De) : Prop := ∀ i k, (i = 2 ∨ i = 4 ∨ i = 6 ∨ i = 7) → k < D.2.1 (dk i) → isDef D (D.2.2 i k / 2)
def Va (D : De) : Prop := ∃ rk : Nat → Nat, ∀ g h, g < D.2.1 3 → h < D.2.1 3 → (D.2.2 6 g / 2 = D.2.2 3 h / 2 ∨ D.2.2 7 g / 2 = D.2.2 3 h / 2) → rk h < rk g
def Vd (D : De) : Prop := Vb D ∧ Vl D ∧ V5 D ∧ Vv D ∧ Vi D ∧ Vu D ∧ Va D
/-- the class's design, the reference's -/
def CD (d : SD) (D : De) : Prop := d.2.2.2.2.1 = nI D.1 ∧ (∀ i, i < 4 → d.2.1 i = nI (D.2.1 i)) ∧ ∀ i k, i < 8 → k < D.2.1 (dk i) → d.1 i k = nI (D.2.2 i k)
def mrow (ds : Mds) (i : Nat) : Nat → Int32 := match i with
  | 0 => ds.2.2.1
  | 1 => ds.2.2.2.1
  | 2 => ds.2.2.2.2.2.2.1
  | 3 => ds.2.2.2.2.2.2.2.1
  | 4 => ds.2.2.2.2.1
  | 5 => ds.2.2.2.2.2.1
  | 6 => ds.2.2.2.2.2.2.2.2.1
  | _ => ds.2.2.2.2.2.2.2.2.2
def MD (ds : Mds) (D : De) : Prop := ds.1 = nI D.1 ∧ (∀ i, i < 4 → ds.2.1 i = nI (D.2.1 i)) ∧ ∀ i k, i < 8 → k < D.2.1 (dk i) → mrow ds i k = nI (D.2.2 i k)
theorem dv_i {D : De} {k : Nat} (h : k < D.2.1 0) : dv D k = D.2.2 0 k := if_pos h
theorem dv_l {D : De} {k : Nat} (h : k < D.2.1 1) : dv D (D.2.1 0 + k) = D.2.2 1 k := by
  unfold dv
  rw [if_neg (by omega), if_pos (by omega), show D.2.1 0 + k - D.2.1 0 = k by omega]
theorem dv_g {D : De} {k : Nat} : dv D (D.2.1 0 + D.2.1 1 + k) = D.2.2 3 k := by
  unfold dv
  rw [if_neg (by omega), if_neg (by omega), show D.2.1 0 + D.2.1 1 + k - (D.2.1 0 + D.2.1 1) = k by omega]
theorem isDef_i {D : De} {k : Nat} (h : k < D.2.1 0) : isDef D (D.2.2 0 k / 2) := Or.inr ⟨k, by unfold dn; omega, by rw [dv_i h]⟩
theorem isDef_l {D : De} {k : Nat} (h : k < D.2.1 1) : isDef D (D.2.2 1 k / 2) := Or.inr ⟨D.2.1 0 + k, by unfold dn; omega, by rw [dv_l h]⟩
theorem isDef_g {D : De} {k : Nat} (h : k < D.2.1 3) : isDef D (D.2.2 3 k / 2) := Or.inr ⟨D.2.1 0 + D.2.1 1 + k, by unfold dn; omega, by rw [dv_g]⟩
theorem isDef_cases {D : De} {v : Nat} (h : isDef D v) : v = 0 ∨ (∃ k, k < D.2.1 0 ∧ D.2.2 0 k / 2 = v) ∨ (∃ k, k < D.2.1 1 ∧ D.2.2 1 k / 2 = v) ∨ ∃ k, k < D.2.1 3 ∧ D.2.2 3 k / 2 = v := by
  rcases h with h | ⟨j, h1, h2⟩
  · exact Or.inl h
  · unfold dn at h1
    by_cases a : j < D.2.1 0
    · exact Or.inr (Or.inl ⟨j, a, by rw [← h2, dv_i a]⟩)
    · by_cases b : j < D.2.1 0 + D.2.1 1
      · refine Or.inr (Or.inr (Or.inl ⟨j - D.2.1 0, by omega, ?_⟩))
        rw [← h2, ← dv_l (D := D) (k := j - D.2.1 0) (by omega), show D.2.1 0 + (j - D.2.1 0) = j by omega]
      · refine Or.inr (Or.inr (Or.inr ⟨j - (D.2.1 0 + D.2.1 1), by omega, ?_⟩))
        rw [← h2, ← dv_g (D := D) (k := j - (D.2.1 0 + D.2.1 1)), show D.2.1 0 + D.2.1 1 + (j - (D.2.1 0 + D.2.1 1)) = j by omega]
theorem Vd_lt {D : De} (h : Vd D) {v : Nat} (hv : isDef D v) : v < 100 := by
  obtain ⟨hb, hl, h5, hvv, hi, hu, ha⟩ := h
  rcases isDef_cases hv with h | ⟨k, a, b⟩ | ⟨k, a, b⟩ | ⟨k, a, b⟩
  · omega
  · have := hl 0 k (by omega) a; omega
  · have := hl 1 k (by omega) a; omega
  · have := hl 3 k (by omega) a; omega
/-- two defined ones with one value are one -/
theorem Vd_inj {D : De} (h : Vd D) {i j : Nat} (hi : i < dn D) (hj : j < dn D) (he : dv D i / 2 = dv D j / 2) : i = j := by
  obtain ⟨hb, hl, h5, hvv, hin, hu, ha⟩ := h
  refine hin i j hi hj ?_
  have a := hvv i hi
  have b := hvv j hj
  omega
theorem Vd_gate {D : De} (h : Vd D) {i j : Nat} (hi : i < D.2.1 3) (hj : j < D.2.1 3) (he : D.2.2 3 i / 2 = D.2.2 3 j / 2) : i = j := by
  have := Vd_inj h (i := D.2.1 0 + D.2.1 1 + i) (j := D.2.1 0 + D.2.1 1 + j) (by unfold dn; omega) (by unfold dn; omega) (by rw [dv_g, dv_g]; exact he)
  omega
/-! the class's small ones -/
theorem C_many {d : SD} {D : De} (h : CD d D) {i : Nat} (hi : i < 8) : fn_D_many (nI i) d = some (nI (D.2.1 (dk i))) := by
  obtain ⟨h1, h2, h3⟩ := h
  have h0 := h2 0 (by omega)
  have h1' := h2 1 (by omega)
  have h2' := h2 2 (by omega)
  have h3' := h2 3 (by omega)
  have : i = 0 ∨ i = 1 ∨ i = 2 ∨ i = 3 ∨ i = 4 ∨ i = 5 ∨ i = 6 ∨ i = 7 := by omega
  rcases this with rfl | rfl | rfl | rfl | rfl | rfl | rfl | rfl <;> unfold fn_D_many <;> simp (disch := omega) only [z_lit, z_mm, z_eqm, z_eqm', z_ltm, z_ltm', z_lem, z_lem', nI_leI, nI_ltI, nI_eq, nI_toInt, nI_clamp, nI_add, pk_mul, pk_sub, pk_div, z_rem, z_shr1, z_and1, decide_eq_true_eq, if_pos, if_neg, Option.bind_some, ite_true, ite_false, eq_self, not_false_eq_true, not_true_eq_false, h0, h1', h2', h3', dk0, dk1, dk2, dk3, dk4, dk5, dk6, dk7]
theorem C_get {d : SD} {i k : Nat} (hi : i < 8) (hk : k < 60) : fn_D_get (nI i) (nI k) d = some (d.1 i k) := by
  unfold fn_D_get
  simp (disch := omega) only [z_lit, z_mm, z_eqm, z_eqm', z_ltm, z_ltm', z_lem, z_lem', nI_leI, nI_ltI, nI_eq, nI_toInt, nI_clamp, nI_add, pk_mul, pk_sub, pk_div, z_rem, z_shr1, z_and1, decide_eq_true_eq, if_pos, if_neg, Option.bind_some, ite_true, ite_false, eq_self, not_false_eq_true, not_true_eq_false]
theorem Vb_60 {D : De} (h : Vb D) {i : Nat} (hi : i < 8) : D.2.1 (dk i) ≤ 60 := by
  obtain ⟨a, b, c, d, e⟩ := h
  have : i = 0 ∨ i = 1 ∨ i = 2 ∨ i = 3 ∨ i = 4 ∨ i = 5 ∨ i = 6 ∨ i = 7 := by omega
  rcases this with rfl | rfl | rfl | rfl | rfl | rfl | rfl | rfl <;> simp only [dk0, dk1, dk2, dk3, dk4, dk5, dk6, dk7] <;> omega
theorem C_getD {d : SD} {D : De} (h : CD d D) (hV : Vb D) {i k : Nat} (hi : i < 8) (hk : k < D.2.1 (dk i)) : fn_D_get (nI i) (nI k) d = some (nI (D.2.2 i k)) := by
  have := Vb_60 hV hi
  rw [C_get hi (by omega), h.2.2 i k hi hk]
theorem C_set {d : SD} {i k : Nat} {x : Int32} (hi : i < 8) (hk : k < 60) : fn_D_set (nI i) (nI k) x d = some (am_rset d.1 i k x, d.2) := by
  unfold fn_D_set
  simp (disch := omega) only [z_lit, z_mm, z_eqm, z_eqm', z_ltm, z_ltm', z_lem, z_lem', nI_leI, nI_ltI, nI_eq, nI_toInt, nI_clamp, nI_add, pk_mul, pk_sub, pk_div, z_rem, z_shr1, z_and1, decide_eq_true_eq, if_pos, if_neg, Option.bind_some, ite_true, ite_false, eq_self, not_false_eq_true, not_true_eq_false]
def sMk (d : SD) (f : Nat → Int32) : SD := (d.1, d.2.1, d.2.2.1, f, d.2.2.2.2.1, d.2.2.2.2.2)
theorem C_mark {d : SD} {v : Nat} {x : Int32} (hv : v < 200) : fn_D_mark (nI v) x d = some (sMk d (upd d.2.2.2.1 (v / 2) x)) := by
  unfold fn_D_mark sMk
  simp (disch := omega) only [z_lit, z_mm, z_eqm, z_eqm', z_ltm, z_ltm', z_lem, z_lem', nI_leI, nI_ltI, nI_eq, nI_toInt, nI_clamp, nI_add, pk_mul, pk_sub, pk_div, z_rem, z_shr1, z_and1, decide_eq_true_eq, if_pos, if_neg, Option.bind_some, ite_true, ite_false, eq_self, not_false_eq_true, not_true_eq_false]
theorem C_markOf {d : SD} {v : Nat} (hv : v < 200) : fn_D_markOf (nI v) d = some (d.2.2.2.1 (v / 2)) := by
  unfold fn_D_markOf
  simp (disch := omega) only [z_lit, z_mm, z_eqm, z_eqm', z_ltm, z_ltm', z_lem, z_lem', nI_leI, nI_ltI, nI_eq, nI_toInt, nI_clamp, nI_add, pk_mul, pk_sub, pk_div, z_rem, z_shr1, z_and1, decide_eq_true_eq, if_pos, if_neg, Option.bind_some, ite_true, ite_false, eq_self, not_false_eq_true, not_true_eq_false]
theorem CD_sMk {d : SD} {D : De} {f : Nat → Int32} (h : CD d D) : CD (sMk d f) D := h
