/-! BYTES of both sides: n of them, t -/
def BR (b : SB) (m : (Nat → Int32) × Int32) (t : Nat → Nat) (n : Nat) : Prop := n ≤ 1500 ∧ b.2 = nI n ∧ m.2 = nI n ∧ ∀ k, k < n → t k < 256 ∧ m.1 k = nI (t k) ∧ b.1 k &&& nI 255 = nI (t k)
theorem B_at {b : SB} {m : (Nat → Int32) × Int32} {t : Nat → Nat} {n k : Nat} (h : BR b m t n) (hk : k < 2 ^ 31) : fn_B_at (nI k) b = some (if k < n then nI (t k) else m1) := by
  obtain ⟨h1, h2, h3, h4⟩ := h
  unfold fn_B_at
  by_cases hn : k < n
  · have e := (h4 k hn).2.2
    simp (disch := omega) only [z_lit, z_mm, z_eqm, z_eqm', z_ltm, z_ltm', z_lem, z_lem', nI_leI, nI_ltI, nI_eq, nI_toInt, nI_clamp, nI_add, pk_mul, pk_sub, pk_div, z_rem, z_shr1, z_and1, decide_eq_true_eq, if_pos, if_neg, Option.bind_some, ite_true, ite_false, eq_self, not_false_eq_true, not_true_eq_false, h2, e]
  · simp (disch := omega) only [z_lit, z_mm, z_eqm, z_eqm', z_ltm, z_ltm', z_lem, z_lem', nI_leI, nI_ltI, nI_eq, nI_toInt, nI_clamp, nI_add, pk_mul, pk_sub, pk_div, z_rem, z_shr1, z_and1, decide_eq_true_eq, if_pos, if_neg, Option.bind_some, ite_true, ite_false, eq_self, not_false_eq_true, not_true_eq_false, h2]
theorem M_byteAt {b : SB} {m : (Nat → Int32) × Int32} {t : Nat → Nat} {n k : Nat} (h : BR b m t n) (hk : k < 2 ^ 31) : fn_M_byteAt (nI k) m = some (if k < n then nI (t k) else m1) := by
  obtain ⟨h1, h2, h3, h4⟩ := h
  unfold fn_M_byteAt
  by_cases hn : k < n
  · have e := (h4 k hn).2.1
    simp (disch := omega) only [z_lit, z_mm, z_eqm, z_eqm', z_ltm, z_ltm', z_lem, z_lem', nI_leI, nI_ltI, nI_eq, nI_toInt, nI_clamp, nI_add, pk_mul, pk_sub, pk_div, z_rem, z_shr1, z_and1, decide_eq_true_eq, if_pos, if_neg, Option.bind_some, ite_true, ite_false, eq_self, not_false_eq_true, not_true_eq_false, h3, e]
  · simp (disch := omega) only [z_lit, z_mm, z_eqm, z_eqm', z_ltm, z_ltm', z_lem, z_lem', nI_leI, nI_ltI, nI_eq, nI_toInt, nI_clamp, nI_add, pk_mul, pk_sub, pk_div, z_rem, z_shr1, z_and1, decide_eq_true_eq, if_pos, if_neg, Option.bind_some, ite_true, ite_false, eq_self, not_false_eq_true, not_true_eq_false, h3]
/-- a byte of an int, stored and read again -/
theorem z_byte (y : Int32) : y.toInt8.toInt32 &&& nI 255 = y &&& nI 255 := by
  have h : ∀ b : BitVec 32, (b.signExtend 8).signExtend 32 &&& 255#32 = b &&& 255#32 := by
    intro b
    refine BitVec.eq_of_getLsbD_eq fun i hi => ?_
    have h255 : (255#32 : BitVec 32).getLsbD i = decide (i < 8) := by
      have : ∀ i, i < 32 → (255#32 : BitVec 32).getLsbD i = decide (i < 8) := by decide
      exact this i hi
    rw [BitVec.getLsbD_and, BitVec.getLsbD_and, h255, BitVec.getLsbD_signExtend, BitVec.getLsbD_signExtend]
    by_cases h8 : i < 8
    · simp [h8, hi]
    · simp [h8]
  exact congrArg Int32.ofBitVec (h y.toBitVec)
theorem BR_add {b : SB} {m : (Nat → Int32) × Int32} {t : Nat → Nat} {n c : Nat} {x y : Int32} (h : BR b m t n) (hn : n < 1500) (hc : c < 256) (hx : x &&& nI 255 = nI c) (hy : y = nI c) : ∃ b' m', fn_B_add x b = some b' ∧ fn_M_add y m = some m' ∧ BR b' m' (fun k => if k = n then c else t k) (n + 1) := by
  obtain ⟨h1, h2, h3, h4⟩ := h
  subst hy
  refine ⟨(upd b.1 n (x.toInt8.toInt32), nI (n + 1)), (upd m.1 n (nI c), nI (n + 1)), ?_, ?_, by omega, rfl, rfl, fun k hk => ?_⟩
  · unfold fn_B_add
    simp (disch := omega) only [z_lit, z_mm, z_eqm, z_eqm', z_ltm, z_ltm', z_lem, z_lem', nI_leI, nI_ltI, nI_eq, nI_toInt, nI_clamp, nI_add, pk_mul, pk_sub, pk_div, z_rem, z_shr1, z_and1, decide_eq_true_eq, if_pos, if_neg, Option.bind_some, ite_true, ite_false, eq_self, not_false_eq_true, not_true_eq_false, h2, pk_vb]
  · unfold fn_M_add
    simp (disch := omega) only [z_lit, z_mm, z_eqm, z_eqm', z_ltm, z_ltm', z_lem, z_lem', nI_leI, nI_ltI, nI_eq, nI_toInt, nI_clamp, nI_add, pk_mul, pk_sub, pk_div, z_rem, z_shr1, z_and1, decide_eq_true_eq, if_pos, if_neg, Option.bind_some, ite_true, ite_false, eq_self, not_false_eq_true, not_true_eq_false, h3]
  · show (if k = n then c else t k) < 256 ∧ upd m.1 n (nI c) k = nI (if k = n then c else t k) ∧ upd b.1 n (x.toInt8.toInt32) k &&& nI 255 = nI (if k = n then c else t k)
    by_cases e : k = n
    · subst e
      rw [pk_us, pk_us, if_pos rfl, z_byte]
      exact ⟨hc, rfl, hx⟩
    · rw [pk_un e, pk_un e, if_neg e]
      exact h4 k (by omega)
theorem z_sh24 : ∀ k, k < 4 → (((nI (8 * k)).toUInt32 &&& Int32.toUInt32 (nI 31)).toBitVec % 32).toNat = 8 * k ∧ ((nI (8 * k) &&& nI 31).toBitVec.smod 32).toNat = 8 * k := by decide +kernel
theorem z_put {v : Int32} {k : Nat} (hk : k < 4) : ∃ c, c < 256 ∧ ((v.toUInt32 >>> ((nI (8 * k)).toUInt32 &&& Int32.toUInt32 (nI 31))).toInt32) &&& nI 255 = nI c ∧ (v >>> (nI (8 * k) &&& nI 31)) &&& nI 255 = nI c := by
  refine ⟨v.toBitVec.toNat / 2 ^ (8 * k) % 2 ^ 8, Nat.mod_lt _ (by decide), ?_, ?_⟩
  · rw [pk_and _ (m := nI 255) 8 (by decide)]
    congr 1
    have := pk_ushr v (nI (8 * k)) (8 * k) (z_sh24 k hk).1
    have this : ((v.toUInt32 >>> ((nI (8 * k)).toUInt32 &&& Int32.toUInt32 (nI 31))).toInt32).toBitVec.toNat = _ := this
    rw [this]
  · rw [pk_and _ (m := nI 255) 8 (by decide)]
    have h := pk_shr v (nI (8 * k) &&& nI 31) (8 * k) (z_sh24 k hk).2
    have h1 : (v >>> (nI (8 * k) &&& nI 31)).toInt = ((v >>> (nI (8 * k) &&& nI 31)).toBitVec.toNat : Int) ∨ (v >>> (nI (8 * k) &&& nI 31)).toInt = ((v >>> (nI (8 * k) &&& nI 31)).toBitVec.toNat : Int) - 4294967296 := by
      show (v >>> (nI (8 * k) &&& nI 31)).toBitVec.toInt = _ ∨ (v >>> (nI (8 * k) &&& nI 31)).toBitVec.toInt = _
      rw [BitVec.toInt_eq_toNat_cond]
      split
      · exact Or.inl rfl
      · exact Or.inr rfl
    have h2 : v.toInt = (v.toBitVec.toNat : Int) ∨ v.toInt = (v.toBitVec.toNat : Int) - 4294967296 := by
      show v.toBitVec.toInt = _ ∨ v.toBitVec.toInt = _
      rw [BitVec.toInt_eq_toNat_cond]
      split
      · exact Or.inl rfl
      · exact Or.inr rfl
    rw [Int.shiftRight_eq_div_pow] at h
    congr 1
    generalize (v >>> (nI (8 * k) &&& nI 31)).toInt = a at *
    generalize (v >>> (nI (8 * k) &&& nI 31)).toBitVec.toNat = b at *
    generalize v.toInt = c at *
    generalize v.toBitVec.toNat = d at *
    have hk4 : k = 0 ∨ k = 1 ∨ k = 2 ∨ k = 3 := by omega
    rcases hk4 with rfl | rfl | rfl | rfl <;> simp only [Nat.reduceMul, Nat.reducePow] at h ⊢ <;> omega
theorem z_range {x : Int32} {a b : Nat} (hb : b < 2 ^ 31) (h1 : ¬ x < nI a) (h2 : x ≤ nI b) (ha : a < 2 ^ 31) : ∃ j, a ≤ j ∧ j ≤ b ∧ x = nI j := by
  rw [Int32.lt_iff_toInt_lt, nI_toInt ha] at h1
  rw [Int32.le_iff_toInt_le, nI_toInt hb] at h2
  refine ⟨x.toInt.toNat, by omega, by omega, Int32.toInt_inj.mp ?_⟩
  rw [nI_toInt (by omega)]
  omega
theorem P_put {tx : SB} {mtx : Mtx} {t : Nat → Nat} {n : Nat} {th : Mth} (h : BR tx mtx t n) (x v : Int32) :
    ∃ r tx' w th' mtx', fn_T_put x v tx = some (r, tx') ∧ fn_M_put x v th mtx = some (w, th', mtx') ∧ (∃ t' n', BR tx' mtx' t' n') ∧ ((r = .int w ∧ th' = 0) ∨ (r = .retAddr 0 ∧ th' = 1) ∨ (r = .retAddr 1 ∧ th' = 2)) := by
  have hn := h.1
  have h2 := h.2.1
  have h3 := h.2.2.1
  have bad : (x < nI 1 ∨ ¬ x ≤ nI 4) → fn_T_put x v tx = some (.retAddr 0, tx) ∧ fn_M_put x v th mtx = some (0, 1, mtx) := by
    intro hx
    unfold fn_T_put fn_M_put fn_M_put_11 fn_M_put_32
    by_cases h1 : x < nI 1
    · refine ⟨?_, ?_⟩ <;> simp (disch := omega) only [z_lit, z_mm, z_eqm, z_eqm', z_ltm, z_ltm', z_lem, z_lem', nI_leI, nI_ltI, nI_eq, nI_toInt, nI_clamp, nI_add, pk_mul, pk_sub, pk_div, z_rem, z_shr1, z_and1, decide_eq_true_eq, if_pos, if_neg, Option.bind_some, ite_true, ite_false, eq_self, not_false_eq_true, not_true_eq_false, h1]
    · have h4 := hx.resolve_left h1
      refine ⟨?_, ?_⟩ <;> simp (disch := omega) only [z_lit, z_mm, z_eqm, z_eqm', z_ltm, z_ltm', z_lem, z_lem', nI_leI, nI_ltI, nI_eq, nI_toInt, nI_clamp, nI_add, pk_mul, pk_sub, pk_div, z_rem, z_shr1, z_and1, decide_eq_true_eq, if_pos, if_neg, Option.bind_some, ite_true, ite_false, eq_self, not_false_eq_true, not_true_eq_false, h1, h4]
  by_cases h1 : x < nI 1
  · obtain ⟨a, b⟩ := bad (Or.inl h1)
    exact ⟨_, _, _, _, _, a, b, ⟨t, n, h⟩, Or.inr (Or.inl ⟨rfl, rfl⟩)⟩
  · by_cases h4 : x ≤ nI 4
    · obtain ⟨j, j1, j4, rfl⟩ := z_range (by omega) h1 h4 (by omega)
      by_cases hj : n + j ≤ 1500
      · have L1 := fun (κ : SB → Option (Value × SB)) (κ' : Mth → Mtx → Option (Int32 × Mth × Mtx)) => z_loop (β := (Value × SB) × (Int32 × Mth × Mtx)) (fun N k (y : SB × Mtx) => (fn_T_put_47 (nI j) v κ N (nI k) y.1).bind fun a => (fn_M_put_46 (nI j) v κ' N (nI k) (nI 0) y.2).bind fun b => some (a, b)) (fun y => (κ y.1).bind fun a => (κ' (nI 0) y.2).bind fun b => some (a, b)) j (fun k y => ∃ t', BR y.1 y.2 t' (n + k))
          (fun N k y hk ⟨t', hy⟩ => by
            obtain ⟨c, hc, e1, e2⟩ := z_put (v := v) (k := k) (by omega)
            obtain ⟨b', m', f1, f2, f3⟩ := BR_add hy (by omega) hc e1 e2
            refine ⟨(b', m'), ⟨_, f3⟩, ?_⟩
            show ((fn_T_put_47 _ _ _ (N + 1) _ _).bind fun a => (fn_M_put_46 _ _ _ (N + 1) _ _ _).bind fun b => some (a, b)) = _
            rw [fn_T_put_47, fn_M_put_46]
            have hy2 := hy.2.2.1
            unfold fn_M_add at f2
            simp (disch := omega) only [z_lit, z_mm, z_eqm, z_eqm', z_ltm, z_ltm', z_lem, z_lem', nI_leI, nI_ltI, nI_eq, nI_toInt, nI_clamp, nI_add, pk_mul, pk_sub, pk_div, z_rem, z_shr1, z_and1, decide_eq_true_eq, if_pos, if_neg, Option.bind_some, ite_true, ite_false, eq_self, not_false_eq_true, not_true_eq_false, hy2] at f2
            have f2 := Option.some.inj f2
            simp (disch := omega) only [z_lit, z_mm, z_eqm, z_eqm', z_ltm, z_ltm', z_lem, z_lem', nI_leI, nI_ltI, nI_eq, nI_toInt, nI_clamp, nI_add, pk_mul, pk_sub, pk_div, z_rem, z_shr1, z_and1, decide_eq_true_eq, if_pos, if_neg, Option.bind_some, ite_true, ite_false, eq_self, not_false_eq_true, not_true_eq_false, f1, hy2, f2])
          (fun N y _ => by
            show ((fn_T_put_47 _ _ _ (N + 1) _ _).bind fun a => (fn_M_put_46 _ _ _ (N + 1) _ _ _).bind fun b => some (a, b)) = _
            rw [fn_T_put_47, fn_M_put_46]
            simp (disch := omega) only [z_lit, z_mm, z_eqm, z_eqm', z_ltm, z_ltm', z_lem, z_lem', nI_leI, nI_ltI, nI_eq, nI_toInt, nI_clamp, nI_add, pk_mul, pk_sub, pk_div, z_rem, z_shr1, z_and1, decide_eq_true_eq, if_pos, if_neg, Option.bind_some, ite_true, ite_false, eq_self, not_false_eq_true, not_true_eq_false]) (N := am_NF) (k := 0) (s := (tx, mtx)) (by omega) (by rw [z_NF]; omega) ⟨t, h⟩
        obtain ⟨y, ⟨t', hy⟩, e⟩ := L1 (fun tx_4 => some ((Value.int tx_4.2), tx_4)) (fun th_2 tx_2 => some (tx_2.2, th_2, tx_2))
        have e : ((fn_T_put_47 (nI j) v (fun tx_4 => some ((Value.int tx_4.2), tx_4)) am_NF (nI 0) tx).bind fun a => (fn_M_put_46 (nI j) v (fun th_2 tx_2 => some (tx_2.2, th_2, tx_2)) am_NF (nI 0) (nI 0) mtx).bind fun b => some (a, b)) = some (((Value.int y.1.2), y.1), (y.2.2, nI 0, y.2)) := e
        obtain ⟨a, ha, e⟩ := Option.bind_eq_some_iff.mp e
        obtain ⟨b, hb, e⟩ := Option.bind_eq_some_iff.mp e
        cases e
        refine ⟨.int y.1.2, y.1, y.2.2, nI 0, y.2, ?_, ?_, ⟨t', _, hy⟩, Or.inl ⟨by rw [hy.2.1, hy.2.2.1], rfl⟩⟩
        · unfold fn_T_put fn_B_size
          simp (disch := omega) only [z_lit, z_mm, z_eqm, z_eqm', z_ltm, z_ltm', z_lem, z_lem', nI_leI, nI_ltI, nI_eq, nI_toInt, nI_clamp, nI_add, pk_mul, pk_sub, pk_div, z_rem, z_shr1, z_and1, decide_eq_true_eq, if_pos, if_neg, Option.bind_some, ite_true, ite_false, eq_self, not_false_eq_true, not_true_eq_false, h2]
          exact ha
        · unfold fn_M_put fn_M_put_32
          simp (disch := omega) only [z_lit, z_mm, z_eqm, z_eqm', z_ltm, z_ltm', z_lem, z_lem', nI_leI, nI_ltI, nI_eq, nI_toInt, nI_clamp, nI_add, pk_mul, pk_sub, pk_div, z_rem, z_shr1, z_and1, decide_eq_true_eq, if_pos, if_neg, Option.bind_some, ite_true, ite_false, eq_self, not_false_eq_true, not_true_eq_false, h3]
          exact hb
      · refine ⟨.retAddr 1, tx, 0, 2, mtx, ?_, ?_, ⟨t, n, h⟩, Or.inr (Or.inr ⟨rfl, rfl⟩)⟩
        · unfold fn_T_put fn_B_size
          simp (disch := omega) only [z_lit, z_mm, z_eqm, z_eqm', z_ltm, z_ltm', z_lem, z_lem', nI_leI, nI_ltI, nI_eq, nI_toInt, nI_clamp, nI_add, pk_mul, pk_sub, pk_div, z_rem, z_shr1, z_and1, decide_eq_true_eq, if_pos, if_neg, Option.bind_some, ite_true, ite_false, eq_self, not_false_eq_true, not_true_eq_false, h2]
        · unfold fn_M_put fn_M_put_32
          simp (disch := omega) only [z_lit, z_mm, z_eqm, z_eqm', z_ltm, z_ltm', z_lem, z_lem', nI_leI, nI_ltI, nI_eq, nI_toInt, nI_clamp, nI_add, pk_mul, pk_sub, pk_div, z_rem, z_shr1, z_and1, decide_eq_true_eq, if_pos, if_neg, Option.bind_some, ite_true, ite_false, eq_self, not_false_eq_true, not_true_eq_false, h3]
    · obtain ⟨a, b⟩ := bad (Or.inr h4)
      exact ⟨_, _, _, _, _, a, b, ⟨t, n, h⟩, Or.inr (Or.inl ⟨rfl, rfl⟩)⟩
theorem P_written {pg : SB} {ou : Mou} {t : Nat → Nat} {n : Nat} {th : Mth} (h : BR pg ou t n) (x : Int32) :
    ∃ r w th', fn_T_written x pg = some r ∧ fn_M_written x th ou = some (w, th') ∧ ((r = .int w ∧ th' = 0) ∨ (r = .retAddr 4 ∧ th' = 1)) := by
  have hn := h.1
  have h3 := h.2.2.1
  by_cases hx : nI 0 ≤ x
  · obtain ⟨j, hj, rfl⟩ := nI_of (x := x) (by rw [Int32.lt_iff_toInt_lt]; rw [Int32.le_iff_toInt_le, nI_toInt (by omega)] at hx; have h00 : (0 : Int32).toInt = 0 := (by decide); omega)
    have e := B_at h hj
    by_cases hjn : j < n
    · rw [if_pos hjn] at e
      have e2 := (h.2.2.2 j hjn).2.1
      refine ⟨.int (nI (t j)), nI (t j), 0, ?_, ?_, Or.inl ⟨rfl, rfl⟩⟩
      · unfold fn_T_written
        simp (disch := omega) only [z_lit, z_mm, z_eqm, z_eqm', z_ltm, z_ltm', z_lem, z_lem', nI_leI, nI_ltI, nI_eq, nI_toInt, nI_clamp, nI_add, pk_mul, pk_sub, pk_div, z_rem, z_shr1, z_and1, decide_eq_true_eq, if_pos, if_neg, Option.bind_some, ite_true, ite_false, eq_self, not_false_eq_true, not_true_eq_false, e]
      · unfold fn_M_written fn_M_written_10
        simp (disch := omega) only [z_lit, z_mm, z_eqm, z_eqm', z_ltm, z_ltm', z_lem, z_lem', nI_leI, nI_ltI, nI_eq, nI_toInt, nI_clamp, nI_add, pk_mul, pk_sub, pk_div, z_rem, z_shr1, z_and1, decide_eq_true_eq, if_pos, if_neg, Option.bind_some, ite_true, ite_false, eq_self, not_false_eq_true, not_true_eq_false, h3, e2]
    · rw [if_neg hjn] at e
      refine ⟨.int m1, m1, 0, ?_, ?_, Or.inl ⟨rfl, rfl⟩⟩
      · unfold fn_T_written
        simp (disch := omega) only [z_lit, z_mm, z_eqm, z_eqm', z_ltm, z_ltm', z_lem, z_lem', nI_leI, nI_ltI, nI_eq, nI_toInt, nI_clamp, nI_add, pk_mul, pk_sub, pk_div, z_rem, z_shr1, z_and1, decide_eq_true_eq, if_pos, if_neg, Option.bind_some, ite_true, ite_false, eq_self, not_false_eq_true, not_true_eq_false, e]
      · unfold fn_M_written fn_M_written_10
        simp (disch := omega) only [z_lit, z_mm, z_eqm, z_eqm', z_ltm, z_ltm', z_lem, z_lem', nI_leI, nI_ltI, nI_eq, nI_toInt, nI_clamp, nI_add, pk_mul, pk_sub, pk_div, z_rem, z_shr1, z_and1, decide_eq_true_eq, if_pos, if_neg, Option.bind_some, ite_true, ite_false, eq_self, not_false_eq_true, not_true_eq_false, h3]
  · refine ⟨.retAddr 4, 0, 1, ?_, ?_, Or.inr ⟨rfl, rfl⟩⟩
    · unfold fn_T_written
      simp (disch := omega) only [z_lit, z_mm, z_eqm, z_eqm', z_ltm, z_ltm', z_lem, z_lem', nI_leI, nI_ltI, nI_eq, nI_toInt, nI_clamp, nI_add, pk_mul, pk_sub, pk_div, z_rem, z_shr1, z_and1, decide_eq_true_eq, if_pos, if_neg, Option.bind_some, ite_true, ite_false, eq_self, not_false_eq_true, not_true_eq_false, hx]
    · unfold fn_M_written fn_M_written_10
      simp (disch := omega) only [z_lit, z_mm, z_eqm, z_eqm', z_ltm, z_ltm', z_lem, z_lem', nI_leI, nI_ltI, nI_eq, nI_toInt, nI_clamp, nI_add, pk_mul, pk_sub, pk_div, z_rem, z_shr1, z_and1, decide_eq_true_eq, if_pos, if_neg, Option.bind_some, ite_true, ite_false, eq_self, not_false_eq_true, not_true_eq_false, hx]
theorem P_reset {d : SD} {ds : Mds} {D : De} {nw : Mnw} {th : Mth} (hC : CD d D) (hM : MD ds D) (hV : Vd D) :
    ∃ th' nw', fn_T_reset d = some (d.1, d.2.1, d.2.2.1, d.2.2.2.1, d.2.2.2.2.1, nI (bsum (D.2.2 5) (D.2.1 1))) ∧ fn_M_reset th ds nw = some (th', nw') ∧ ∀ k, k < D.2.1 1 → nw' k = nI (D.2.2 5 k) := by
  have hb := hV.1
  obtain ⟨b0, b1, b2, b3, b4⟩ := id hb
  have hm1 : fn_D_many (nI 1) d = some (nI (D.2.1 1)) := C_many hC (by omega)
  obtain ⟨x, hx, e⟩ := z_loop (fun N k (x : Int32) => fn_D_restart_4 (fun x1_4 d_4 => some (d_4.1, d_4.2.1, d_4.2.2.1, d_4.2.2.2.1, d_4.2.2.2.2.1, x1_4)) N x (nI k) d) (fun x => some (d.1, d.2.1, d.2.2.1, d.2.2.2.1, d.2.2.2.2.1, x)) (D.2.1 1) (fun k x => x = nI (bsum (D.2.2 5) k))
    (fun N k x hk hx => by
      have hx : x = nI (bsum (D.2.2 5) k) := hx
      subst hx
      refine ⟨_, rfl, ?_⟩
      show fn_D_restart_4 _ (N + 1) _ _ _ = _
      rw [fn_D_restart_4]
      have hg : fn_D_get (nI 5) (nI k) d = some (nI (D.2.2 5 k)) := C_getD hC hb (by omega) hk
      have hbl : bsum (D.2.2 5) k < 2 ^ k := bsum_lt fun j hj => hV.2.2.1 j (by omega)
      have h1 := hV.2.2.1 k hk
      simp (disch := omega) only [z_lit, z_mm, z_eqm, z_eqm', z_ltm, z_ltm', z_lem, z_lem', nI_leI, nI_ltI, nI_eq, nI_toInt, nI_clamp, nI_add, pk_mul, pk_sub, pk_div, z_rem, z_shr1, z_and1, decide_eq_true_eq, if_pos, if_neg, Option.bind_some, ite_true, ite_false, eq_self, not_false_eq_true, not_true_eq_false, hm1, hg]
      rw [z_or (by omega) hbl h1]
      rfl)
    (fun N x _ => by
      show fn_D_restart_4 _ (N + 1) _ _ _ = _
      rw [fn_D_restart_4]
      simp (disch := omega) only [z_lit, z_mm, z_eqm, z_eqm', z_ltm, z_ltm', z_lem, z_lem', nI_leI, nI_ltI, nI_eq, nI_toInt, nI_clamp, nI_add, pk_mul, pk_sub, pk_div, z_rem, z_shr1, z_and1, decide_eq_true_eq, if_pos, if_neg, Option.bind_some, ite_true, ite_false, eq_self, not_false_eq_true, not_true_eq_false, hm1]) (N := am_NF) (k := 0) (s := nI 0) (by omega) (by rw [z_NF]; omega) rfl
  obtain ⟨y, hy, e2⟩ := z_loop (fun N k (y : Mnw) => fn_M_reset_7 ds (fun th_2 nw_2 => some (th_2, nw_2)) N (nI k) 0 y) (fun y => some (0, y)) 8 (fun k y => ∀ j, j < k → y j = ds.2.2.2.2.2.1 j)
    (fun N k y hk hy => by
      refine ⟨upd y k (ds.2.2.2.2.2.1 k), fun j hj => ?_, ?_⟩
      · by_cases e : j = k
        · subst e; rw [pk_us]
        · rw [pk_un e]; exact hy j (by omega)
      · show fn_M_reset_7 _ _ (N + 1) _ _ _ = _
        rw [fn_M_reset_7]
        simp (disch := omega) only [z_lit, z_mm, z_eqm, z_eqm', z_ltm, z_ltm', z_lem, z_lem', nI_leI, nI_ltI, nI_eq, nI_toInt, nI_clamp, nI_add, pk_mul, pk_sub, pk_div, z_rem, z_shr1, z_and1, decide_eq_true_eq, if_pos, if_neg, Option.bind_some, ite_true, ite_false, eq_self, not_false_eq_true, not_true_eq_false])
    (fun N y _ => by
      show fn_M_reset_7 _ _ (N + 1) _ _ _ = _
      rw [fn_M_reset_7]
      simp (disch := omega) only [z_lit, z_mm, z_eqm, z_eqm', z_ltm, z_ltm', z_lem, z_lem', nI_leI, nI_ltI, nI_eq, nI_toInt, nI_clamp, nI_add, pk_mul, pk_sub, pk_div, z_rem, z_shr1, z_and1, decide_eq_true_eq, if_pos, if_neg, Option.bind_some, ite_true, ite_false, eq_self, not_false_eq_true, not_true_eq_false]) (N := am_NF) (k := 0) (s := nw) (by omega) (by rw [z_NF]; omega) (fun j hj => absurd hj (by omega))
  refine ⟨0, y, ?_, e2, fun k hk => ?_⟩
  · unfold fn_T_reset fn_D_restart
    rw [← hx]
    have e : fn_D_restart_4 (fun x1_4 d_4 => some (d_4.1, d_4.2.1, d_4.2.2.1, d_4.2.2.2.1, d_4.2.2.2.2.1, x1_4)) am_NF (0 : Int32) (0 : Int32) d = _ := e
    rw [e]
    rfl
  · rw [hy k (by omega)]
    exact hM.2.2 5 k (by omega) hk
theorem P_latches {d : SD} {ds : Mds} {D : De} {nw : Mnw} {th : Mth} {w : Nat → Nat} (hM : MD ds D) (hV : Vd D) (hw : ∀ k, k < D.2.1 1 → w k ≤ 1) (hnw : ∀ k, k < D.2.1 1 → nw k = nI (w k)) (hlb : d.2.2.2.2.2 = nI (bsum w (D.2.1 1))) :
    ∃ th', fn_T_latches d = some (nI (bsum w (D.2.1 1))) ∧ fn_M_latches th ds nw = some (nI (bsum w (D.2.1 1)), th') := by
  have hb := hV.1
  obtain ⟨b0, b1, b2, b3, b4⟩ := id hb
  have c1 : ds.2.1 1 = nI (D.2.1 1) := hM.2.1 1 (by omega)
  obtain ⟨y, hy, e2⟩ := z_loop (fun N k (y : Int32) => fn_M_latches_9 ds nw (fun x1_2 th_2 => some (x1_2, th_2)) N y (nI k) 0) (fun y => some (y, 0)) (D.2.1 1) (fun k y => y = nI (bsum w k))
    (fun N k y hk hy => by
      have hy : y = nI (bsum w k) := hy
      subst hy
      refine ⟨_, rfl, ?_⟩
      show fn_M_latches_9 _ _ _ (N + 1) _ _ _ = _
      rw [fn_M_latches_9]
      have hbl : bsum w k < 2 ^ k := bsum_lt fun j hj => hw j (by omega)
      have h1 := hw k hk
      have e := hnw k hk
      simp (disch := omega) only [z_lit, z_mm, z_eqm, z_eqm', z_ltm, z_ltm', z_lem, z_lem', nI_leI, nI_ltI, nI_eq, nI_toInt, nI_clamp, nI_add, pk_mul, pk_sub, pk_div, z_rem, z_shr1, z_and1, decide_eq_true_eq, if_pos, if_neg, Option.bind_some, ite_true, ite_false, eq_self, not_false_eq_true, not_true_eq_false, c1, e]
      rw [z_or (by omega) hbl h1]
      rfl)
    (fun N y _ => by
      show fn_M_latches_9 _ _ _ (N + 1) _ _ _ = _
      rw [fn_M_latches_9]
      simp (disch := omega) only [z_lit, z_mm, z_eqm, z_eqm', z_ltm, z_ltm', z_lem, z_lem', nI_leI, nI_ltI, nI_eq, nI_toInt, nI_clamp, nI_add, pk_mul, pk_sub, pk_div, z_rem, z_shr1, z_and1, decide_eq_true_eq, if_pos, if_neg, Option.bind_some, ite_true, ite_false, eq_self, not_false_eq_true, not_true_eq_false, c1]) (N := am_NF) (k := 0) (s := nI 0) (by omega) (by rw [z_NF]; omega) rfl
  refine ⟨0, ?_, ?_⟩
  · unfold fn_T_latches fn_D_latchBits
    rw [hlb]
    rfl
  · rw [← hy]
    exact e2
