/-! numbers: Int32 as naturals -/
theorem z_if {α : Type} {b : Bool} {x y : α} (h : b = true) : (if b then x else y) = x := am_ift h
theorem z_ifn {α : Type} {b : Bool} {x y : α} (h : b = false) : (if b then x else y) = y := am_iff h
def m1 : Int32 := -1
theorem z_lit (n : Nat) : (OfNat.ofNat n : Int32) = nI n := rfl
theorem z_mm : -nI 1 = m1 := rfl
theorem z_m1 {a : Nat} (ha : a < 2 ^ 31) : ¬ nI a = m1 := fun h => by
  have := congrArg Int32.toInt h
  rw [nI_toInt ha] at this
  have h2 : (m1 : Int32).toInt = -1 := by decide
  omega
theorem z_eqm {a : Nat} (ha : a < 2 ^ 31) : (nI a = m1) = False := eq_false (z_m1 ha)
theorem z_eqm' {a : Nat} (ha : a < 2 ^ 31) : (m1 = nI a) = False := eq_false (fun h => z_m1 ha h.symm)
theorem z_ltm' {a : Nat} (ha : a < 2 ^ 31) : (m1 < nI a) = True := eq_true (by
  rw [Int32.lt_iff_toInt_lt, nI_toInt ha]
  have h2 : (m1 : Int32).toInt = -1 := by decide
  omega)
theorem z_ltm {a : Nat} (ha : a < 2 ^ 31) : (nI a < m1) = False := eq_false (by
  rw [Int32.lt_iff_toInt_lt, nI_toInt ha]
  have h2 : (m1 : Int32).toInt = -1 := by decide
  omega)
theorem z_lem {a : Nat} (ha : a < 2 ^ 31) : (nI a ≤ m1) = False := eq_false (by
  rw [Int32.le_iff_toInt_le, nI_toInt ha]
  have h2 : (m1 : Int32).toInt = -1 := by decide
  omega)
theorem z_lem' {a : Nat} (ha : a < 2 ^ 31) : (m1 ≤ nI a) = True := eq_true (by
  rw [Int32.le_iff_toInt_le, nI_toInt ha]
  have h2 : (m1 : Int32).toInt = -1 := by decide
  omega)
theorem z_rem (a d : Nat) : a - a / d * d = a % d := by
  have := Nat.div_add_mod a d
  rw [Nat.mul_comm] at this
  omega
theorem z_shr1 {a : Nat} (h : a < 2 ^ 31) : nI a >>> (nI 1 &&& nI 31) = nI (a / 2) := pk_shrN h _ 1 (by decide)
theorem z_and1 {a : Nat} (h : a < 2 ^ 31) : nI a &&& nI 1 = nI (a % 2) := pk_andN (by omega) 1 (by decide)
/-- loops -/
theorem z_loop {σ β : Type} (F : Nat → Nat → σ → Option β) (κ : σ → Option β) (cnt : Nat) (Inv : Nat → σ → Prop)
    (hs : ∀ N k s, k < cnt → Inv k s → ∃ s', Inv (k + 1) s' ∧ F (N + 1) k s = F N (k + 1) s')
    (he : ∀ N s, Inv cnt s → F (N + 1) cnt s = κ s) {N k : Nat} {s : σ} (hk : k ≤ cnt) (hN : cnt - k < N) (h : Inv k s) :
    ∃ s', Inv cnt s' ∧ F N k s = κ s' := by
  induction N generalizing k s with
  | zero => omega
  | succ N ih =>
    by_cases hc : k = cnt
    · subst hc
      exact ⟨s, h, he N s h⟩
    · obtain ⟨s1, h1, h2⟩ := hs N k s (by omega) h
      obtain ⟨s2, h3, h4⟩ := ih (k := k + 1) (s := s1) (by omega) (by omega) h1
      exact ⟨s2, h3, h2.trans h4⟩
/-- a loop that ends early where something does not hold -/
theorem z_all {β : Type} (F : Nat → Nat → Option β) (κ z : Option β) (cnt : Nat) (P : Nat → Prop)
    (hs : ∀ N k, k < cnt → P k → F (N + 1) k = F N (k + 1)) (hf : ∀ N k, k < cnt → ¬ P k → F (N + 1) k = z)
    (he : ∀ N, F (N + 1) cnt = κ) {N k : Nat} (hk : k ≤ cnt) (hN : cnt - k < N) :
    ((∀ j, k ≤ j → j < cnt → P j) → F N k = κ) ∧ ((¬ ∀ j, k ≤ j → j < cnt → P j) → F N k = z) := by
  induction N generalizing k with
  | zero => omega
  | succ N ih =>
    by_cases hc : k = cnt
    · subst hc
      exact ⟨fun _ => he N, fun h => absurd (fun j h1 h2 => absurd h2 (by omega)) h⟩
    · by_cases hp : P k
      · obtain ⟨h1, h2⟩ := ih (k := k + 1) (by omega) (by omega)
        refine ⟨fun h => (hs N k (by omega) hp).trans (h1 fun j a b => h j (by omega) b), fun h => (hs N k (by omega) hp).trans (h2 fun h' => h fun j a b => ?_)⟩
        by_cases hj : j = k
        · exact hj ▸ hp
        · exact h' j (by omega) b
      · exact ⟨fun h => absurd (h k (by omega) (by omega)) hp, fun _ => hf N k (by omega) hp⟩
/-- a loop that ends at the first one where something holds -/
theorem z_first {β : Type} (F : Nat → Nat → Option β) (z : Nat → Option β) (cnt : Nat) (P : Nat → Prop)
    (hs : ∀ N k, k < cnt → ¬ P k → F (N + 1) k = F N (k + 1)) (hf : ∀ N k, k < cnt → P k → F (N + 1) k = z k)
    {N k : Nat} (hN : cnt - k < N) (hex : ∃ j, k ≤ j ∧ j < cnt ∧ P j) :
    ∃ j, k ≤ j ∧ j < cnt ∧ P j ∧ (∀ i, k ≤ i → i < j → ¬ P i) ∧ F N k = z j := by
  induction N generalizing k with
  | zero => omega
  | succ N ih =>
    obtain ⟨j, h1, h2, h3⟩ := hex
    by_cases hp : P k
    · exact ⟨k, Nat.le_refl k, by omega, hp, fun i a b => absurd b (by omega), hf N k (by omega) hp⟩
    · have hjk : j ≠ k := fun e => hp (e ▸ h3)
      obtain ⟨i, a, b, c, d, e⟩ := ih (k := k + 1) (by omega) ⟨j, by omega, h2, h3⟩
      refine ⟨i, by omega, b, c, fun i' x y => ?_, (hs N k (by omega) hp).trans e⟩
      by_cases hi : i' = k
      · exact hi ▸ hp
      · exact d i' (by omega) y
/-- an injective function into fewer -/
theorem z_pig : ∀ (n m : Nat) (f : Nat → Nat), (∀ j, j < m → f j < n) → (∀ i j, i < m → j < m → f i = f j → i = j) → m ≤ n := by
  intro n
  induction n with
  | zero =>
    intro m f h _
    cases m with
    | zero => exact Nat.le_refl 0
    | succ m => exact absurd (h 0 (by omega)) (by omega)
  | succ n ih =>
    intro m f h hi
    by_cases hx : ∃ j, j < m ∧ f j = n
    · obtain ⟨j0, hj0, hf0⟩ := hx
      have := ih (m - 1) (fun j => if j < j0 then f j else f (j + 1)) (fun j hj => by
        show (if j < j0 then f j else f (j + 1)) < n
        by_cases hjj : j < j0
        · rw [if_pos hjj]
          have h1 := h j (by omega)
          by_cases e : f j = n
          · exact absurd (hi j j0 (by omega) hj0 (e.trans hf0.symm)) (by omega)
          · omega
        · rw [if_neg hjj]
          have h1 := h (j + 1) (by omega)
          by_cases e : f (j + 1) = n
          · exact absurd (hi (j + 1) j0 (by omega) hj0 (e.trans hf0.symm)) (by omega)
          · omega) (fun i j hi1 hj1 he => by
        have he : (if i < j0 then f i else f (i + 1)) = (if j < j0 then f j else f (j + 1)) := he
        by_cases a : i < j0 <;> by_cases b : j < j0
        · rw [if_pos a, if_pos b] at he; exact hi i j (by omega) (by omega) he
        · rw [if_pos a, if_neg b] at he; have := hi i (j + 1) (by omega) (by omega) he; omega
        · rw [if_neg a, if_pos b] at he; have := hi (i + 1) j (by omega) (by omega) he; omega
        · rw [if_neg a, if_neg b] at he; have := hi (i + 1) (j + 1) (by omega) (by omega) he; omega)
      omega
    · have := ih m f (fun j hj => by
        have h1 := h j hj
        have h2 : f j ≠ n := fun e => hx ⟨j, hj, e⟩
        omega) hi
      omega
/-- an injective function onto as many meets each -/
theorem z_onto {n : Nat} {f : Nat → Nat} (h : ∀ j, j < n → f j < n) (hi : ∀ i j, i < n → j < n → f i = f j → i = j) {g : Nat} (hg : g < n) : ∃ j, j < n ∧ f j = g := by
  refine Classical.byContradiction fun hx => ?_
  have hne : ∀ j, j < n → f j ≠ g := fun j hj e => hx ⟨j, hj, e⟩
  have := z_pig (n - 1) n (fun j => if f j < g then f j else f j - 1) (fun j hj => by
    show (if f j < g then f j else f j - 1) < n - 1
    have h1 := h j hj; have h2 := hne j hj
    by_cases a : f j < g
    · rw [if_pos a]; omega
    · rw [if_neg a]; omega) (fun i j a b e => by
    have e : (if f i < g then f i else f i - 1) = (if f j < g then f j else f j - 1) := e
    have h1 := hne i a; have h2 := hne j b
    refine hi i j a b ?_
    by_cases x : f i < g <;> by_cases y : f j < g
    · rw [if_pos x, if_pos y] at e; exact e
    · rw [if_pos x, if_neg y] at e; omega
    · rw [if_neg x, if_pos y] at e; omega
    · rw [if_neg x, if_neg y] at e; omega)
  omega
/-- fewer of them leave one out -/
theorem z_left {n i : Nat} {f : Nat → Nat} (hin : i < n) : ∃ g, g < n ∧ ∀ j, j < i → f j ≠ g := by
  refine Classical.byContradiction fun hx => ?_
  have hh : ∀ g, g < n → ∃ j, j < i ∧ f j = g := fun g hg => Classical.byContradiction fun hn => hx ⟨g, hg, fun j hj e => hn ⟨j, hj, e⟩⟩
  have hc : ∀ g, ∃ j, g < n → j < i ∧ f j = g := fun g => by
    by_cases hg : g < n
    · obtain ⟨j, h⟩ := hh g hg; exact ⟨j, fun _ => h⟩
    · exact ⟨0, fun h => absurd h hg⟩
  have := z_pig i n (fun g => Classical.choose (hc g)) (fun g hg => (Classical.choose_spec (hc g) hg).1) (fun a b ha hb e => by
    have e : Classical.choose (hc a) = Classical.choose (hc b) := e
    have h1 := (Classical.choose_spec (hc a) ha).2
    have h2 := (Classical.choose_spec (hc b) hb).2
    rw [e] at h1
    exact h1.symm.trans h2)
  omega
