/-! two loops side by side -/
theorem z_loop2 {σ τ β γ : Type} (F : Nat → Nat → σ → Option β) (G : Nat → Nat → τ → Option γ) (κ : σ → Option β) (κ' : τ → Option γ) (cnt : Nat) (Inv : Nat → σ → τ → Prop)
    (hs : ∀ N k s u, k < cnt → Inv k s u → ∃ s' u', Inv (k + 1) s' u' ∧ F (N + 1) k s = F N (k + 1) s' ∧ G (N + 1) k u = G N (k + 1) u')
    (he : ∀ N s u, Inv cnt s u → F (N + 1) cnt s = κ s ∧ G (N + 1) cnt u = κ' u) {N k : Nat} {s : σ} {u : τ} (hk : k ≤ cnt) (hN : cnt - k < N) (h : Inv k s u) :
    ∃ s' u', Inv cnt s' u' ∧ F N k s = κ s' ∧ G N k u = κ' u' := by
  induction N generalizing k s u with
  | zero => omega
  | succ N ih =>
    by_cases hc : k = cnt
    · subst hc
      exact ⟨s, u, h, he N s u h⟩
    · obtain ⟨s1, u1, h1, h2, h2'⟩ := hs N k s u (by omega) h
      obtain ⟨s2, u2, h3, h4, h4'⟩ := ih (k := k + 1) (s := s1) (u := u1) (by omega) (by omega) h1
      exact ⟨s2, u2, h3, h2.trans h4, h2'.trans h4'⟩
/-- two loops side by side that both end where both have found a fault -/
theorem z_loop3 {σ τ β γ : Type} (F : Nat → Nat → σ → Option β) (G : Nat → Nat → τ → Option γ) (κ : σ → Option β) (κ' : τ → Option γ) (cnt : Nat) (Inv : Nat → σ → τ → Prop) (Bad : σ → τ → Prop)
    (hs : ∀ N k s u, k < cnt → Inv k s u → ∃ s' u', (Inv (k + 1) s' u' ∨ Bad s' u') ∧ F (N + 1) k s = F N (k + 1) s' ∧ G (N + 1) k u = G N (k + 1) u')
    (he : ∀ N s u, Inv cnt s u → F (N + 1) cnt s = κ s ∧ G (N + 1) cnt u = κ' u)
    (hb : ∀ N k s u, k ≤ cnt → Bad s u → F (N + 1) k s = κ s ∧ G (N + 1) k u = κ' u) {N k : Nat} {s : σ} {u : τ} (hk : k ≤ cnt) (hN : cnt - k < N) (h : Inv k s u ∨ Bad s u) :
    ∃ s' u', (Inv cnt s' u' ∨ Bad s' u') ∧ F N k s = κ s' ∧ G N k u = κ' u' := by
  induction N generalizing k s u with
  | zero => omega
  | succ N ih =>
    rcases h with h | h
    · by_cases hc : k = cnt
      · subst hc
        exact ⟨s, u, Or.inl h, he N s u h⟩
      · obtain ⟨s1, u1, h1, h2, h2'⟩ := hs N k s u (by omega) h
        obtain ⟨s2, u2, h3, h4, h4'⟩ := ih (k := k + 1) (s := s1) (u := u1) (by omega) (by omega) h1
        exact ⟨s2, u2, h3, h2.trans h4, h2'.trans h4'⟩
    · exact ⟨s, u, Or.inr h, hb N k s u hk h⟩
/-! WRITING, side by side -/
def BRn (b : SB) (m : (Nat → Int32) × Int32) (n : Nat) : Prop := ∃ t, BR b m t n
theorem W_add {b : SB} {m : Mou} {n c : Nat} (h : BRn b m n) (hn : n < 1500) (hc : c < 256) : ∃ b' m', fn_B_add (nI c) b = some b' ∧ fn_M_add (nI c) m = some m' ∧ BRn b' m' (n + 1) := by
  obtain ⟨t, h⟩ := h
  obtain ⟨b', m', h1, h2, h3⟩ := BR_add (x := nI c) (y := nI c) h hn hc (by rw [pk_andN (by omega) 8 (by decide), Nat.mod_eq_of_lt (by omega)]) rfl
  exact ⟨b', m', h1, h2, _, h3⟩
theorem W_num {b : SB} {m : Mou} {n v : Nat} (h : BRn b m n) (hn : n + 3 ≤ 1500) (hv : v < 200) : ∃ b' m' n', fn_W_digits (nI v) b = some b' ∧ fn_M_addNumber (nI v) m = some m' ∧ BRn b' m' n' ∧ n' ≤ n + 3 := by
  by_cases h1 : v < 10
  · obtain ⟨b1, m1, e1, f1, g1⟩ := W_add (c := 48 + v % 10) h (by omega) (by omega)
    refine ⟨b1, m1, n + 1, ?_, ?_, g1, by omega⟩
    · unfold fn_W_digits fn_W_digits_23 fn_W_digits_46
      simp (disch := omega) only [z_lit, z_mm, z_eqm, z_eqm', z_ltm, z_ltm', z_lem, z_lem', nI_leI, nI_ltI, nI_eq, nI_toInt, nI_clamp, nI_add, pk_mul, pk_sub, pk_div, z_rem, z_shr1, z_and1, decide_eq_true_eq, if_pos, if_neg, Option.bind_some, ite_true, ite_false, eq_self, not_false_eq_true, not_true_eq_false, e1]
    · unfold fn_M_addNumber
      simp (disch := omega) only [z_lit, z_mm, z_eqm, z_eqm', z_ltm, z_ltm', z_lem, z_lem', nI_leI, nI_ltI, nI_eq, nI_toInt, nI_clamp, nI_add, pk_mul, pk_sub, pk_div, z_rem, z_shr1, z_and1, decide_eq_true_eq, if_pos, if_neg, Option.bind_some, ite_true, ite_false, eq_self, not_false_eq_true, not_true_eq_false]
      obtain ⟨N, hN⟩ : ∃ N, am_NF = N + 1 + 1 := ⟨4094, rfl⟩
      rw [hN, fn_M_addNumber_37]
      simp (disch := omega) only [z_lit, z_mm, z_eqm, z_eqm', z_ltm, z_ltm', z_lem, z_lem', nI_leI, nI_ltI, nI_eq, nI_toInt, nI_clamp, nI_add, pk_mul, pk_sub, pk_div, z_rem, z_shr1, z_and1, decide_eq_true_eq, if_pos, if_neg, Option.bind_some, ite_true, ite_false, eq_self, not_false_eq_true, not_true_eq_false, Nat.div_one, Nat.reduceDiv, f1]
      rw [fn_M_addNumber_37]
      simp (disch := omega) only [z_lit, z_mm, z_eqm, z_eqm', z_ltm, z_ltm', z_lem, z_lem', nI_leI, nI_ltI, nI_eq, nI_toInt, nI_clamp, nI_add, pk_mul, pk_sub, pk_div, z_rem, z_shr1, z_and1, decide_eq_true_eq, if_pos, if_neg, Option.bind_some, ite_true, ite_false, eq_self, not_false_eq_true, not_true_eq_false]
  · by_cases h2 : v < 100
    · obtain ⟨b1, m1, e1, f1, g1⟩ := W_add (c := 48 + v / 10 % 10) h (by omega) (by omega)
      obtain ⟨b2, m2, e2, f2, g2⟩ := W_add (c := 48 + v % 10) g1 (by omega) (by omega)
      refine ⟨b2, m2, n + 1 + 1, ?_, ?_, g2, by omega⟩
      · unfold fn_W_digits fn_W_digits_23 fn_W_digits_46
        simp (disch := omega) only [z_lit, z_mm, z_eqm, z_eqm', z_ltm, z_ltm', z_lem, z_lem', nI_leI, nI_ltI, nI_eq, nI_toInt, nI_clamp, nI_add, pk_mul, pk_sub, pk_div, z_rem, z_shr1, z_and1, decide_eq_true_eq, if_pos, if_neg, Option.bind_some, ite_true, ite_false, eq_self, not_false_eq_true, not_true_eq_false, e1, e2]
      · unfold fn_M_addNumber
        simp (disch := omega) only [z_lit, z_mm, z_eqm, z_eqm', z_ltm, z_ltm', z_lem, z_lem', nI_leI, nI_ltI, nI_eq, nI_toInt, nI_clamp, nI_add, pk_mul, pk_sub, pk_div, z_rem, z_shr1, z_and1, decide_eq_true_eq, if_pos, if_neg, Option.bind_some, ite_true, ite_false, eq_self, not_false_eq_true, not_true_eq_false]
        obtain ⟨N, hN⟩ : ∃ N, am_NF = N + 1 + 1 + 1 := ⟨4093, rfl⟩
        rw [hN, fn_M_addNumber_37]
        simp (disch := omega) only [z_lit, z_mm, z_eqm, z_eqm', z_ltm, z_ltm', z_lem, z_lem', nI_leI, nI_ltI, nI_eq, nI_toInt, nI_clamp, nI_add, pk_mul, pk_sub, pk_div, z_rem, z_shr1, z_and1, decide_eq_true_eq, if_pos, if_neg, Option.bind_some, ite_true, ite_false, eq_self, not_false_eq_true, not_true_eq_false, Nat.reduceDiv, f1]
        rw [fn_M_addNumber_37]
        simp (disch := omega) only [z_lit, z_mm, z_eqm, z_eqm', z_ltm, z_ltm', z_lem, z_lem', nI_leI, nI_ltI, nI_eq, nI_toInt, nI_clamp, nI_add, pk_mul, pk_sub, pk_div, z_rem, z_shr1, z_and1, decide_eq_true_eq, if_pos, if_neg, Option.bind_some, ite_true, ite_false, eq_self, not_false_eq_true, not_true_eq_false, Nat.div_one, Nat.reduceDiv, f2]
        rw [fn_M_addNumber_37]
        simp (disch := omega) only [z_lit, z_mm, z_eqm, z_eqm', z_ltm, z_ltm', z_lem, z_lem', nI_leI, nI_ltI, nI_eq, nI_toInt, nI_clamp, nI_add, pk_mul, pk_sub, pk_div, z_rem, z_shr1, z_and1, decide_eq_true_eq, if_pos, if_neg, Option.bind_some, ite_true, ite_false, eq_self, not_false_eq_true, not_true_eq_false]
    · obtain ⟨b1, m1, e1, f1, g1⟩ := W_add (c := 48 + v / 100 % 10) h (by omega) (by omega)
      obtain ⟨b2, m2, e2, f2, g2⟩ := W_add (c := 48 + v / 10 % 10) g1 (by omega) (by omega)
      obtain ⟨b3, m3, e3, f3, g3⟩ := W_add (c := 48 + v % 10) g2 (by omega) (by omega)
      refine ⟨b3, m3, n + 1 + 1 + 1, ?_, ?_, g3, by omega⟩
      · unfold fn_W_digits fn_W_digits_23 fn_W_digits_46
        simp (disch := omega) only [z_lit, z_mm, z_eqm, z_eqm', z_ltm, z_ltm', z_lem, z_lem', nI_leI, nI_ltI, nI_eq, nI_toInt, nI_clamp, nI_add, pk_mul, pk_sub, pk_div, z_rem, z_shr1, z_and1, decide_eq_true_eq, if_pos, if_neg, Option.bind_some, ite_true, ite_false, eq_self, not_false_eq_true, not_true_eq_false, e1, e2, e3]
      · unfold fn_M_addNumber
        simp (disch := omega) only [z_lit, z_mm, z_eqm, z_eqm', z_ltm, z_ltm', z_lem, z_lem', nI_leI, nI_ltI, nI_eq, nI_toInt, nI_clamp, nI_add, pk_mul, pk_sub, pk_div, z_rem, z_shr1, z_and1, decide_eq_true_eq, if_pos, if_neg, Option.bind_some, ite_true, ite_false, eq_self, not_false_eq_true, not_true_eq_false]
        obtain ⟨N, hN⟩ : ∃ N, am_NF = N + 1 + 1 + 1 + 1 := ⟨4092, rfl⟩
        rw [hN, fn_M_addNumber_37]
        simp (disch := omega) only [z_lit, z_mm, z_eqm, z_eqm', z_ltm, z_ltm', z_lem, z_lem', nI_leI, nI_ltI, nI_eq, nI_toInt, nI_clamp, nI_add, pk_mul, pk_sub, pk_div, z_rem, z_shr1, z_and1, decide_eq_true_eq, if_pos, if_neg, Option.bind_some, ite_true, ite_false, eq_self, not_false_eq_true, not_true_eq_false, Nat.reduceDiv, f1]
        rw [fn_M_addNumber_37]
        simp (disch := omega) only [z_lit, z_mm, z_eqm, z_eqm', z_ltm, z_ltm', z_lem, z_lem', nI_leI, nI_ltI, nI_eq, nI_toInt, nI_clamp, nI_add, pk_mul, pk_sub, pk_div, z_rem, z_shr1, z_and1, decide_eq_true_eq, if_pos, if_neg, Option.bind_some, ite_true, ite_false, eq_self, not_false_eq_true, not_true_eq_false, Nat.reduceDiv, f2]
        rw [fn_M_addNumber_37]
        simp (disch := omega) only [z_lit, z_mm, z_eqm, z_eqm', z_ltm, z_ltm', z_lem, z_lem', nI_leI, nI_ltI, nI_eq, nI_toInt, nI_clamp, nI_add, pk_mul, pk_sub, pk_div, z_rem, z_shr1, z_and1, decide_eq_true_eq, if_pos, if_neg, Option.bind_some, ite_true, ite_false, eq_self, not_false_eq_true, not_true_eq_false, Nat.div_one, Nat.reduceDiv, f3]
        rw [fn_M_addNumber_37]
        simp (disch := omega) only [z_lit, z_mm, z_eqm, z_eqm', z_ltm, z_ltm', z_lem, z_lem', nI_leI, nI_ltI, nI_eq, nI_toInt, nI_clamp, nI_add, pk_mul, pk_sub, pk_div, z_rem, z_shr1, z_and1, decide_eq_true_eq, if_pos, if_neg, Option.bind_some, ite_true, ite_false, eq_self, not_false_eq_true, not_true_eq_false]
/-- a number and the byte behind it -/
theorem W_nb {b : SB} {m : Mou} {n v c : Nat} (h : BRn b m n) (hn : n + 4 ≤ 1500) (hv : v < 200) (hc : c < 256) : ∃ b' m' b'' m'' n', fn_W_digits (nI v) b = some b' ∧ fn_M_addNumber (nI v) m = some m' ∧ fn_B_add (nI c) b' = some b'' ∧ fn_M_add (nI c) m' = some m'' ∧ BRn b'' m'' n' ∧ n' ≤ n + 4 := by
  obtain ⟨b1, m1, n1, e1, f1, g1, hn1⟩ := W_num h (by omega) hv
  obtain ⟨b2, m2, e2, f2, g2⟩ := W_add (c := c) g1 (by omega) hc
  exact ⟨b1, m1, b2, m2, n1 + 1, e1, f1, e2, f2, g2, by omega⟩
theorem W_diff {b : SB} {m : Mou} {n v : Nat} (h : BRn b m n) (hn : n + 2 ≤ 1500) (hv : v < 200) : ∃ b' m' n', fn_W_difference (nI v) b = some b' ∧ fn_M_addDifference (nI v) m = some m' ∧ BRn b' m' n' ∧ n' ≤ n + 2 := by
  unfold fn_W_difference fn_M_addDifference
  by_cases h1 : v < 128
  · obtain ⟨b1, m1, e1, f1, g1⟩ := W_add (c := v) h (by omega) (by omega)
    refine ⟨b1, m1, n + 1, ?_, ?_, g1, by omega⟩
    · simp (disch := omega) only [z_lit, z_mm, z_eqm, z_eqm', z_ltm, z_ltm', z_lem, z_lem', nI_leI, nI_ltI, nI_eq, nI_toInt, nI_clamp, nI_add, pk_mul, pk_sub, pk_div, z_rem, z_shr1, z_and1, decide_eq_true_eq, if_pos, if_neg, Option.bind_some, ite_true, ite_false, eq_self, not_false_eq_true, not_true_eq_false, e1]
    · simp (disch := omega) only [z_lit, z_mm, z_eqm, z_eqm', z_ltm, z_ltm', z_lem, z_lem', nI_leI, nI_ltI, nI_eq, nI_toInt, nI_clamp, nI_add, pk_mul, pk_sub, pk_div, z_rem, z_shr1, z_and1, decide_eq_true_eq, if_pos, if_neg, Option.bind_some, ite_true, ite_false, eq_self, not_false_eq_true, not_true_eq_false, f1]
  · obtain ⟨b1, m1, e1, f1, g1⟩ := W_add (c := v % 128 + 128) h (by omega) (by omega)
    obtain ⟨b2, m2, e2, f2, g2⟩ := W_add (c := v / 128) g1 (by omega) (by omega)
    refine ⟨b2, m2, n + 1 + 1, ?_, ?_, g2, by omega⟩
    · simp (disch := omega) only [z_lit, z_mm, z_eqm, z_eqm', z_ltm, z_ltm', z_lem, z_lem', nI_leI, nI_ltI, nI_eq, nI_toInt, nI_clamp, nI_add, pk_mul, pk_sub, pk_div, z_rem, z_shr1, z_and1, decide_eq_true_eq, if_pos, if_neg, Option.bind_some, ite_true, ite_false, eq_self, not_false_eq_true, not_true_eq_false, e1, e2]
    · simp (disch := omega) only [z_lit, z_mm, z_eqm, z_eqm', z_ltm, z_ltm', z_lem, z_lem', nI_leI, nI_ltI, nI_eq, nI_toInt, nI_clamp, nI_add, pk_mul, pk_sub, pk_div, z_rem, z_shr1, z_and1, decide_eq_true_eq, if_pos, if_neg, Option.bind_some, ite_true, ite_false, eq_self, not_false_eq_true, not_true_eq_false, f1, f2]
theorem W_next {b : SB} {m : Mou} {n k : Nat} {d : SD} {ds : Mds} {D : De} (hC : CD d D) (hM : MD ds D) (hV : Vd D) (h : BRn b m n) (hn : n + 6 ≤ 1500) (hk : k < D.2.1 1) : ∃ b' m' n', fn_W_nextAndFirst (nI k) b d = some b' ∧ fn_M_addNext (nI k) ds m = some m' ∧ BRn b' m' n' ∧ n' ≤ n + 6 := by
  have hb := hV.1
  obtain ⟨b0, b1, b2, b3, b4⟩ := id hb
  have g4 : fn_D_get (nI 4) (nI k) d = some (nI (D.2.2 4 k)) := C_getD hC hb (by omega) hk
  have g5 : fn_D_get (nI 5) (nI k) d = some (nI (D.2.2 5 k)) := C_getD hC hb (by omega) hk
  have r4 : ds.2.2.2.2.1 k = nI (D.2.2 4 k) := hM.2.2 4 k (by omega) hk
  have r5 : ds.2.2.2.2.2.1 k = nI (D.2.2 5 k) := hM.2.2 5 k (by omega) hk
  have hlt := hV.2.1 4 k (by omega) hk
  have h51 := hV.2.2.1 k hk
  unfold fn_W_nextAndFirst fn_M_addNext fn_M_addNext_32 fn_W_numberAndBlank fn_W_lastNumber
  by_cases h5 : D.2.2 5 k = 1
  · obtain ⟨b1, m1, b2, m2, n2, e1, f1, e2, f2, hg2, hn2⟩ := W_nb (c := 32) h (by omega) hlt (by omega)
    obtain ⟨b3, m3, e3, f3, g3⟩ := W_add (c := 49) hg2 (by omega) (by omega)
    obtain ⟨b4', m4, e4, f4, hg4⟩ := W_add (c := 10) g3 (by omega) (by omega)
    refine ⟨b4', m4, n2 + 1 + 1, ?_, ?_, hg4, by omega⟩
    · have e1' : fn_W_digits (nI 1) b2 = some b3 := by
        unfold fn_W_digits fn_W_digits_23 fn_W_digits_46
        simp (disch := omega) only [z_lit, z_mm, z_eqm, z_eqm', z_ltm, z_ltm', z_lem, z_lem', nI_leI, nI_ltI, nI_eq, nI_toInt, nI_clamp, nI_add, pk_mul, pk_sub, pk_div, z_rem, z_shr1, z_and1, decide_eq_true_eq, if_pos, if_neg, Option.bind_some, ite_true, ite_false, eq_self, not_false_eq_true, not_true_eq_false, Nat.reduceMod, Nat.reduceAdd, e3]
      simp (disch := omega) only [z_lit, z_mm, z_eqm, z_eqm', z_ltm, z_ltm', z_lem, z_lem', nI_leI, nI_ltI, nI_eq, nI_toInt, nI_clamp, nI_add, pk_mul, pk_sub, pk_div, z_rem, z_shr1, z_and1, decide_eq_true_eq, if_pos, if_neg, Option.bind_some, ite_true, ite_false, eq_self, not_false_eq_true, not_true_eq_false, g5, g4, h5, e1, e2, e1', e4]
    · simp (disch := omega) only [z_lit, z_mm, z_eqm, z_eqm', z_ltm, z_ltm', z_lem, z_lem', nI_leI, nI_ltI, nI_eq, nI_toInt, nI_clamp, nI_add, pk_mul, pk_sub, pk_div, z_rem, z_shr1, z_and1, decide_eq_true_eq, if_pos, if_neg, Option.bind_some, ite_true, ite_false, eq_self, not_false_eq_true, not_true_eq_false, r4, r5, h5, f1, f2, f3, f4]
  · obtain ⟨b1, m1, b2, m2, n2, e1, f1, e2, f2, hg2, hn2⟩ := W_nb (c := 10) h (by omega) hlt (by omega)
    refine ⟨b2, m2, n2, ?_, ?_, hg2, by omega⟩
    · simp (disch := omega) only [z_lit, z_mm, z_eqm, z_eqm', z_ltm, z_ltm', z_lem, z_lem', nI_leI, nI_ltI, nI_eq, nI_toInt, nI_clamp, nI_add, pk_mul, pk_sub, pk_div, z_rem, z_shr1, z_and1, decide_eq_true_eq, if_pos, if_neg, Option.bind_some, ite_true, ite_false, eq_self, not_false_eq_true, not_true_eq_false, g5, g4, e1, e2]
    · simp (disch := omega) only [z_lit, z_mm, z_eqm, z_eqm', z_ltm, z_ltm', z_lem, z_lem', nI_leI, nI_ltI, nI_eq, nI_toInt, nI_clamp, nI_add, pk_mul, pk_sub, pk_div, z_rem, z_shr1, z_and1, decide_eq_true_eq, if_pos, if_neg, Option.bind_some, ite_true, ite_false, eq_self, not_false_eq_true, not_true_eq_false, r4, r5, f1, f2]
