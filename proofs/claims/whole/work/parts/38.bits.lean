/-! BITS -/
def bi (x : Int32) (k : Nat) : Nat := x.toBitVec.toNat / 2 ^ k % 2
theorem bi_le {x : Int32} {k : Nat} : bi x k ≤ 1 := by unfold bi; omega
theorem z_sh8 : ∀ k, k < 8 → (((nI k).toUInt32 &&& Int32.toUInt32 31).toBitVec % 32).toNat = k ∧ ((nI k &&& nI 31).toBitVec.smod 32).toNat = k := by decide +kernel
theorem bi_class {x : Int32} {k : Nat} (hk : k < 8) : ((x.toUInt32 >>> ((nI k).toUInt32 &&& Int32.toUInt32 (nI 31))).toInt32) &&& nI 1 = nI (bi x k) := by
  rw [pk_and _ (m := nI 1) 1 (by decide), show (nI 31 : Int32) = 31 from rfl, pk_ushr x (nI k) k (z_sh8 k hk).1]
  rfl
theorem bi_ref {x : Int32} {k : Nat} (hk : k < 8) : (x >>> (nI k &&& nI 31)) &&& nI 1 = nI (bi x k) := by
  rw [pk_and _ (m := nI 1) 1 (by decide)]
  have h := pk_shr x (nI k &&& nI 31) k (z_sh8 k hk).2
  have h1 : (x >>> (nI k &&& nI 31)).toInt = ((x >>> (nI k &&& nI 31)).toBitVec.toNat : Int) ∨ (x >>> (nI k &&& nI 31)).toInt = ((x >>> (nI k &&& nI 31)).toBitVec.toNat : Int) - 4294967296 := by
    show (x >>> (nI k &&& nI 31)).toBitVec.toInt = _ ∨ (x >>> (nI k &&& nI 31)).toBitVec.toInt = _
    rw [BitVec.toInt_eq_toNat_cond]
    split
    · exact Or.inl rfl
    · exact Or.inr rfl
  have h2 : x.toInt = (x.toBitVec.toNat : Int) ∨ x.toInt = (x.toBitVec.toNat : Int) - 4294967296 := by
    show x.toBitVec.toInt = _ ∨ x.toBitVec.toInt = _
    rw [BitVec.toInt_eq_toNat_cond]
    split
    · exact Or.inl rfl
    · exact Or.inr rfl
  rw [Int.shiftRight_eq_div_pow] at h
  congr 1
  unfold bi
  generalize (x >>> (nI k &&& nI 31)).toInt = a at *
  generalize (x >>> (nI k &&& nI 31)).toBitVec.toNat = b at *
  generalize x.toInt = c at *
  generalize x.toBitVec.toNat = d at *
  have hk8 : k = 0 ∨ k = 1 ∨ k = 2 ∨ k = 3 ∨ k = 4 ∨ k = 5 ∨ k = 6 ∨ k = 7 := by omega
  rcases hk8 with rfl | rfl | rfl | rfl | rfl | rfl | rfl | rfl <;> simp only [Nat.reducePow] at h ⊢ <;> omega
theorem z_xor {a b : Nat} (ha : a ≤ 1) (hb : b ≤ 1) : nI a ^^^ nI b = nI ((a + b) % 2) := by
  have h1 : a = 0 ∨ a = 1 := by omega
  have h2 : b = 0 ∨ b = 1 := by omega
  rcases h1 with rfl | rfl <;> rcases h2 with rfl | rfl <;> decide
theorem z_andb {a b : Nat} (ha : a ≤ 1) (hb : b ≤ 1) : nI a &&& nI b = nI (a * b) := by
  have h1 : a = 0 ∨ a = 1 := by omega
  have h2 : b = 0 ∨ b = 1 := by omega
  rcases h1 with rfl | rfl <;> rcases h2 with rfl | rfl <;> decide
theorem z_mul1 {a b : Nat} (ha : a ≤ 1) (hb : b ≤ 1) : a * b ≤ 1 := by
  have h1 : a = 0 ∨ a = 1 := by omega
  have h2 : b = 0 ∨ b = 1 := by omega
  rcases h1 with rfl | rfl <;> rcases h2 with rfl | rfl <;> decide
theorem z_or0 : ∀ k, k < 8 → ∀ v, v < 2 ^ k → nI v ||| (nI 0 <<< (nI k &&& nI 31)) = nI (v + 0 * 2 ^ k) ∧ nI v ||| (nI 1 <<< (nI k &&& nI 31)) = nI (v + 1 * 2 ^ k) := by decide +kernel
theorem z_or {k v b : Nat} (hk : k < 8) (hv : v < 2 ^ k) (hb : b ≤ 1) : nI v ||| (nI b <<< (nI k &&& nI 31)) = nI (v + b * 2 ^ k) := by
  have h2 : b = 0 ∨ b = 1 := by omega
  rcases h2 with rfl | rfl
  · exact (z_or0 k hk v hv).1
  · exact (z_or0 k hk v hv).2
/-- bits as a number -/
def bsum (w : Nat → Nat) : Nat → Nat
  | 0 => 0
  | n + 1 => bsum w n + w n * 2 ^ n
theorem bsum_lt {w : Nat → Nat} : ∀ {n : Nat}, (∀ k, k < n → w k ≤ 1) → bsum w n < 2 ^ n
  | 0, _ => Nat.one_pos
  | n + 1, h => by
    have h1 := bsum_lt (n := n) fun k hk => h k (by omega)
    have h2 := h n (by omega)
    have h3 : w n * 2 ^ n ≤ 1 * 2 ^ n := Nat.mul_le_mul_right _ h2
    rw [bsum, Nat.pow_succ]
    omega
theorem bsum_cong {w u : Nat → Nat} : ∀ {n : Nat}, (∀ k, k < n → w k = u k) → bsum w n = bsum u n
  | 0, _ => rfl
  | n + 1, h => by rw [bsum, bsum, bsum_cong (n := n) fun k hk => h k (by omega), h n (by omega)]
theorem bsum_bit {w : Nat → Nat} {k : Nat} : ∀ {n : Nat}, (∀ k, k < n → w k ≤ 1) → k < n → bsum w n / 2 ^ k % 2 = w k
  | 0, _, h => by omega
  | n + 1, h, hk => by
    have h1 := bsum_lt (n := n) fun k hk => h k (by omega)
    have h2 := h n (by omega)
    rw [bsum]
    by_cases e : k = n
    · subst e
      rw [Nat.add_mul_div_right _ _ (Nat.two_pow_pos k), Nat.div_eq_of_lt h1]
      omega
    · have ih := bsum_bit (n := n) (fun k hk => h k (by omega)) (show k < n by omega)
      obtain ⟨m, rfl⟩ : ∃ m, n = k + 1 + m := ⟨n - k - 1, by omega⟩
      rw [show w (k + 1 + m) * 2 ^ (k + 1 + m) = (w (k + 1 + m) * 2 ^ m * 2) * 2 ^ k by rw [Nat.pow_add, Nat.pow_add]; simp only [Nat.mul_comm, Nat.mul_left_comm, Nat.mul_assoc, Nat.pow_one], Nat.add_mul_div_right _ _ (Nat.two_pow_pos k)]
      omega
theorem bi_bsum {w : Nat → Nat} {n k : Nat} (hn : n ≤ 8) (h : ∀ k, k < n → w k ≤ 1) (hk : k < n) : bi (nI (bsum w n)) k = w k := by
  have h1 := bsum_lt h
  have h2 : 2 ^ n ≤ 2 ^ 8 := Nat.pow_le_pow_right (by omega) hn
  unfold bi
  rw [pk_tn (by omega)]
  exact bsum_bit h hk
/-! what a cycle's values are -/
def tr (f : Nat → Nat) (u : Nat) : Nat := (f (u / 2) + u % 2) % 2
theorem tr_le {f : Nat → Nat} {u : Nat} : tr f u ≤ 1 := by unfold tr; omega
theorem tr_cong {f g : Nat → Nat} {u : Nat} (h : f (u / 2) = g (u / 2)) : tr f u = tr g u := by unfold tr; rw [h]
def rv (D : De) (s : Nat → Nat) (x : Int32) (w f : Nat → Nat) (i : Nat) : Nat :=
  if i < D.2.1 0 then bi x i else if i < D.2.1 0 + D.2.1 1 then w (i - D.2.1 0) else tr f (D.2.2 6 (s (i - (D.2.1 0 + D.2.1 1)))) * tr f (D.2.2 7 (s (i - (D.2.1 0 + D.2.1 1))))
theorem rv_le {D : De} {s : Nat → Nat} {x : Int32} {w f : Nat → Nat} {i : Nat} (hw : ∀ k, k < D.2.1 1 → w k ≤ 1) : rv D s x w f i ≤ 1 := by
  unfold rv
  split
  · exact bi_le
  · split
    · exact hw _ (by omega)
    · exact z_mul1 tr_le tr_le
theorem rv_cong {D : De} {s : Nat → Nat} {x : Int32} {w f g : Nat → Nat} {i : Nat} (hs : Sq D s (D.2.1 3)) (hi : i < dn D) (h : ∀ v, (v = 0 ∨ ∃ j, j < i ∧ odv D s j / 2 = v) → f v = g v) : rv D s x w f i = rv D s x w g i := by
  unfold rv
  split
  · rfl
  · split
    · rfl
    · unfold dn at hi
      have hk : i - (D.2.1 0 + D.2.1 1) < D.2.1 3 := by omega
      have hr := (hs _ hk).2.1
      have key : ∀ v, mkd D s (i - (D.2.1 0 + D.2.1 1)) v → f v = g v := fun v hm => by
        rcases mkd_odv hm with a | ⟨j, a, b⟩
        · exact h v (Or.inl a)
        · exact h v (Or.inr ⟨j, by omega, b⟩)
      rw [tr_cong (key _ hr.2.1), tr_cong (key _ hr.2.2)]
def Ev (D : De) (s : Nat → Nat) (x : Int32) (w f : Nat → Nat) (n : Nat) : Prop := f 0 = 0 ∧ ∀ i, i < n → f (odv D s i / 2) = rv D s x w f i
theorem Ev_step {D : De} {s : Nat → Nat} {x : Int32} {w f : Nat → Nat} {n : Nat} (hV : Vd D) (hs : Sq D s (D.2.1 3)) (hn : n < dn D) (h : Ev D s x w f n) : Ev D s x w (fun v => if v = odv D s n / 2 then rv D s x w f n else f v) (n + 1) := by
  have hp := odv_pos hV hs hn
  have old : ∀ i, i ≤ n → ∀ v, (v = 0 ∨ ∃ j, j < i ∧ odv D s j / 2 = v) → f v = (fun v => if v = odv D s n / 2 then rv D s x w f n else f v) v := fun i hi v hv => by
    refine (if_neg (fun e => ?_)).symm
    rcases hv with a | ⟨j, a, b⟩
    · omega
    · have := odv_inj hV hs (i := j) (j := n) (by omega) hn (b.trans e); omega
  refine ⟨(if_neg (by omega)).trans h.1, fun i hi => ?_⟩
  rw [← rv_cong (f := f) hs (show i < dn D by omega) (old i (by omega))]
  show (if odv D s i / 2 = odv D s n / 2 then rv D s x w f n else f (odv D s i / 2)) = _
  by_cases e : i = n
  · subst e; rw [if_pos rfl]
  · rw [if_neg (fun he => e (odv_inj hV hs (by omega) hn he))]
    exact h.2 i (by omega)
/-- f solves the design's equations -/
def TV (D : De) (x : Int32) (w f : Nat → Nat) : Prop := f 0 = 0 ∧ (∀ k, k < D.2.1 0 → f (D.2.2 0 k / 2) = bi x k) ∧ (∀ k, k < D.2.1 1 → f (D.2.2 1 k / 2) = w k) ∧ ∀ g, g < D.2.1 3 → f (D.2.2 3 g / 2) = tr f (D.2.2 6 g) * tr f (D.2.2 7 g)
theorem Ev_TV {D : De} {s : Nat → Nat} {x : Int32} {w f : Nat → Nat} (hs : Sq D s (D.2.1 3)) (h : Ev D s x w f (dn D)) : TV D x w f := by
  refine ⟨h.1, fun k hk => ?_, fun k hk => ?_, fun g hg => ?_⟩
  · have := h.2 k (by unfold dn; omega)
    rw [odv_i hk] at this
    rw [this]; unfold rv; rw [if_pos hk]
  · have := h.2 (D.2.1 0 + k) (by unfold dn; omega)
    rw [odv_l hk] at this
    rw [this]; unfold rv; rw [if_neg (by omega), if_pos (by omega), show D.2.1 0 + k - D.2.1 0 = k by omega]
  · obtain ⟨j, hj, e⟩ := Sq_onto hs hg
    have := h.2 (D.2.1 0 + D.2.1 1 + j) (by unfold dn; omega)
    rw [odv_g, e] at this
    rw [this]; unfold rv; rw [if_neg (by omega), if_neg (by omega), show D.2.1 0 + D.2.1 1 + j - (D.2.1 0 + D.2.1 1) = j by omega, e]
theorem TV_le {D : De} {x : Int32} {w f : Nat → Nat} (h : TV D x w f) (hw : ∀ k, k < D.2.1 1 → w k ≤ 1) {v : Nat} (hv : isDef D v) : f v ≤ 1 := by
  rcases isDef_cases hv with rfl | ⟨k, a, b⟩ | ⟨k, a, b⟩ | ⟨k, a, b⟩
  · rw [h.1]; omega
  · rw [← b, h.2.1 k a]; exact bi_le
  · rw [← b, h.2.2.1 k a]; exact hw k a
  · rw [← b, h.2.2.2 k a]; exact z_mul1 tr_le tr_le
