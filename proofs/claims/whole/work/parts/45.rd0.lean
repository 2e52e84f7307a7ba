/-! READING, side by side. FE: the two faults are the same, or the class's is the digit behind a byte 48 and the reference's that byte. Pd: the class has told a fault at the digit behind a number's first 0, to which the reference goes on -/
def Dg (t : Nat → Nat) (n p : Nat) : Prop := p < n ∧ 48 ≤ t p ∧ t p ≤ 57
def zP (t : Nat → Nat) (n f g : Nat) : Prop := f = g + 1 ∧ t g = 48 ∧ Dg t n f
def FE (t : Nat → Nat) (n f g : Nat) : Prop := zP t n f g ∨ f = g
def sPF (rd : SR) (p f : Int32) : SR := (rd.1, rd.2.1, rd.2.2.1, rd.2.2.2.1, rd.2.2.2.2.1, rd.2.2.2.2.2.1, rd.2.2.2.2.2.2.1, p, f)
def Ok (n : Nat) (rd : SR) (ps : Mps) (p : Nat) : Prop := rd.2.2.2.2.2.2.2.1 = nI p ∧ rd.2.2.2.2.2.2.2.2 = m1 ∧ ps.1 = nI p ∧ ps.2.1 = m1 ∧ p ≤ n
def Bd (t : Nat → Nat) (n : Nat) (rd : SR) (ps : Mps) : Prop := ∃ f g, rd.2.2.2.2.2.2.2.2 = nI f ∧ ps.2.1 = nI g ∧ f ≤ 1501 ∧ g ≤ 1501 ∧ FE t n f g
def Pd (t : Nat → Nat) (n : Nat) (rd : SR) (ps : Mps) : Prop := ∃ f p q, (f = p ∧ f = q + 1 ∧ t q = 48) ∧ rd.2.2.2.2.2.2.2.2 = nI f ∧ f ≤ 1501 ∧ ps.1 = nI p ∧ ps.2.1 = m1 ∧ Dg t n p ∧ ps.2.2 = nI q ∧ q ≤ 1501
def SS (t : Nat → Nat) (n : Nat) (rd : SR) (ps : Mps) : Prop := (∃ p, Ok n rd ps p) ∨ Bd t n rd ps
theorem B_tot (b : SB) (x : Int32) : ∃ y, fn_B_at x b = some y := by
  unfold fn_B_at
  by_cases h0 : x < 0
  · exact ⟨_, if_pos (decide_eq_true h0)⟩
  · by_cases h1 : b.2 ≤ x
    · exact ⟨_, (am_iff (decide_eq_false h0)).trans (if_pos (decide_eq_true h1))⟩
    · by_cases h2 : (1500 : Int32) ≤ x
      · exact ⟨_, (am_iff (decide_eq_false h0)).trans ((am_iff (decide_eq_false h1)).trans (if_pos (decide_eq_true h2)))⟩
      · exact ⟨_, (am_iff (decide_eq_false h0)).trans ((am_iff (decide_eq_false h1)).trans ((am_iff (decide_eq_false h2)).trans (if_pos (decide_eq_true (am_rng h0 h2 (by decide))))))⟩
/-! the class behind a fault: it goes on, the fault stays -/
theorem R_fail_bad {rd : SR} {x : Int32} {f : Nat} (hf : rd.2.2.2.2.2.2.2.2 = nI f) (h : f < 2 ^ 31) : fn_R_fail x rd = some (sPF rd rd.2.2.2.2.2.2.2.1 (nI f)) := by
  unfold fn_R_fail sPF
  rw [← hf]
  rw [z_ifn (decide_eq_false (by rw [hf]; exact z_m1 h))]
theorem R_fail_ok {rd : SR} {x : Int32} (hf : rd.2.2.2.2.2.2.2.2 = m1) : fn_R_fail x rd = some (sPF rd rd.2.2.2.2.2.2.2.1 x) := by
  unfold fn_R_fail sPF
  rw [show (-1 : Int32) = m1 from rfl, z_if (decide_eq_true hf)]
theorem R_expect_bad {tx : SB} {rd : SR} {x : Int32} {f : Nat} (hf : rd.2.2.2.2.2.2.2.2 = nI f) (h : f < 2 ^ 31) : ∃ p', fn_R_expect x tx rd = some (sPF rd p' (nI f)) := by
  obtain ⟨y, hy⟩ := B_tot tx rd.2.2.2.2.2.2.2.1
  unfold fn_R_expect
  rw [hy, R_fail_bad hf h]
  simp only [Option.bind_some]
  by_cases hx : y = x
  · exact ⟨rd.2.2.2.2.2.2.2.1 + 1, by rw [z_if (decide_eq_true hx), hf]; rfl⟩
  · exact ⟨_, by rw [z_ifn (decide_eq_false hx)]⟩
theorem R_num94_bad {tx : SB} {rd : SR} {x1 x2 x3 p : Int32} {f : Nat} (h : f < 2 ^ 31) : ∃ v p', fn_R_number_94 x1 x2 x3 tx (sPF rd p (nI f)) = some (v, sPF rd p' (nI f)) := by
  have e : fn_R_fail x2 (sPF rd p (nI f)) = some (sPF rd p (nI f)) := R_fail_bad (rd := sPF rd p (nI f)) rfl h
  unfold fn_R_number_94 fn_R_number_107
  rw [e]
  simp only [Option.bind_some]
  split
  · exact ⟨_, _, rfl⟩
  · split
    · exact ⟨_, _, rfl⟩
    · exact ⟨_, _, rfl⟩
theorem R_number_bad {tx : SB} {rd : SR} {x1 : Int32} {f : Nat} (hf : rd.2.2.2.2.2.2.2.2 = nI f) (h : f < 2 ^ 31) : ∃ v p', fn_R_number x1 tx rd = some (v, sPF rd p' (nI f)) := by
  have key : ∀ (m k N : Nat) (x3 p : Int32), k + m = 5 → m < N → ∃ v p', fn_R_number_10 x1 rd.2.2.2.2.2.2.2.1 tx (fun x3_9 rd_9 => fn_R_number_94 x1 rd.2.2.2.2.2.2.2.1 x3_9 tx rd_9) N x3 (nI k) (sPF rd p (nI f)) = some (v, sPF rd p' (nI f)) := by
    intro m
    induction m with
    | zero =>
      intro k N x3 p hk hN
      obtain ⟨N, rfl⟩ : ∃ M, N = M + 1 := ⟨N - 1, by omega⟩
      rw [fn_R_number_10]
      have h4 : k = 5 := by omega
      subst h4
      simp (disch := omega) only [z_lit, z_mm, z_eqm, z_eqm', z_ltm, z_ltm', z_lem, z_lem', nI_leI, nI_ltI, nI_eq, nI_toInt, nI_clamp, nI_add, pk_mul, pk_sub, pk_div, z_rem, z_shr1, z_and1, decide_eq_true_eq, if_pos, if_neg, Option.bind_some, ite_true, ite_false, eq_self, not_false_eq_true, not_true_eq_false]
      exact R_num94_bad h
    | succ m ih =>
      intro k N x3 p hk hN
      obtain ⟨N, rfl⟩ : ∃ M, N = M + 1 := ⟨N - 1, by omega⟩
      rw [fn_R_number_10]
      obtain ⟨y, hy⟩ := B_tot tx p
      have hy' : fn_B_at (sPF rd p (nI f)).2.2.2.2.2.2.2.1 tx = some y := hy
      have e : ∀ x, fn_R_fail x (sPF rd p (nI f)) = some (sPF rd p (nI f)) := fun x => R_fail_bad (rd := sPF rd p (nI f)) rfl h
      have e2 : ∃ q3, fn_R_isDigit y = some q3 := by
        unfold fn_R_isDigit
        split
        · exact ⟨_, rfl⟩
        · split
          · exact ⟨_, rfl⟩
          · exact ⟨_, rfl⟩
      obtain ⟨q3, e2⟩ := e2
      have e3 : ∀ z, ((sPF rd p (nI f)).1, (sPF rd p (nI f)).2.1, (sPF rd p (nI f)).2.2.1, (sPF rd p (nI f)).2.2.2.1, (sPF rd p (nI f)).2.2.2.2.1, (sPF rd p (nI f)).2.2.2.2.2.1, (sPF rd p (nI f)).2.2.2.2.2.2.1, z, (sPF rd p (nI f)).2.2.2.2.2.2.2.2) = sPF rd z (nI f) := fun z => rfl
      rw [hy']
      simp (disch := omega) only [z_lit, z_mm, z_eqm, z_eqm', z_ltm, z_ltm', z_lem, z_lem', nI_leI, nI_ltI, nI_eq, nI_toInt, nI_clamp, nI_add, pk_mul, pk_sub, pk_div, z_rem, z_shr1, z_and1, decide_eq_true_eq, if_pos, if_neg, Option.bind_some, ite_true, ite_false, eq_self, not_false_eq_true, not_true_eq_false, e2, e, e3]
      split
      · exact R_num94_bad h
      · split
        · exact ⟨_, _, rfl⟩
        · split
          · exact ih (k + 1) N _ _ (by omega) (by omega)
          · split
            · exact ⟨_, _, rfl⟩
            · exact ih (k + 1) N _ _ (by omega) (by omega)
  have hr : rd = sPF rd rd.2.2.2.2.2.2.2.1 (nI f) := by unfold sPF; rw [← hf]
  have := key 5 0 am_NF (nI 0) rd.2.2.2.2.2.2.2.1 (by omega) (by rw [z_NF]; omega)
  rw [← hr] at this
  exact this
theorem R_diff_bad {tx : SB} {rd : SR} {x1 x2 : Int32} {f : Nat} (hf : rd.2.2.2.2.2.2.2.2 = nI f) (h : f < 2 ^ 31) : ∃ v p', fn_R_difference x1 x2 tx rd = some (v, sPF rd p' (nI f)) := by
  have a112 : ∀ x3 x4 p, ∃ v p', fn_R_difference_112 x1 x2 x3 x4 tx (sPF rd p (nI f)) = some (v, sPF rd p' (nI f)) := by
    intro x3 x4 p
    have e : fn_R_fail x3 (sPF rd p (nI f)) = some (sPF rd p (nI f)) := R_fail_bad (rd := sPF rd p (nI f)) rfl h
    unfold fn_R_difference_112 fn_R_difference_124
    rw [e]
    simp only [Option.bind_some]
    split
    · exact ⟨_, _, rfl⟩
    · split
      · exact ⟨_, _, rfl⟩
      · exact ⟨_, _, rfl⟩
  have a79 : ∀ p, ∃ v p', fn_R_difference_79 x1 tx (sPF rd p (nI f)) = some (v, sPF rd p' (nI f)) := by
    intro p
    have e : ∀ x, fn_R_fail x (sPF rd p (nI f)) = some (sPF rd p (nI f)) := fun x => R_fail_bad (rd := sPF rd p (nI f)) rfl h
    unfold fn_R_difference_79
    rw [e]
    exact ⟨_, _, rfl⟩
  obtain ⟨y, hy⟩ := B_tot tx rd.2.2.2.2.2.2.2.1
  obtain ⟨y2, hy2⟩ := B_tot tx (rd.2.2.2.2.2.2.2.1 + 1)
  have e3 : ∀ z, (rd.1, rd.2.1, rd.2.2.1, rd.2.2.2.1, rd.2.2.2.2.1, rd.2.2.2.2.2.1, rd.2.2.2.2.2.2.1, z, rd.2.2.2.2.2.2.2.2) = sPF rd z (nI f) := fun z => by unfold sPF; rw [hf]
  unfold fn_R_difference
  rw [hy, hy2, R_fail_bad hf h]
  simp only [Option.bind_some, e3]
  split
  · exact ⟨_, _, rfl⟩
  · split
    · exact a112 _ _ _
    · split
      · exact a79 _
      · split
        · exact a112 _ _ _
        · exact a79 _
/-! the reference at a fault: it goes back at once -/
theorem M_bad_ok {ps : Mps} {x : Int32} (h : ps.2.1 = m1) : fn_M_bad x ps = some (ps.1, x, ps.2.2) := by
  unfold fn_M_bad
  rw [show (-1 : Int32) = m1 from rfl, z_if (decide_eq_true h)]
theorem M_bad_bad {ps : Mps} {x : Int32} {g : Nat} (h : ps.2.1 = nI g) (hg : g < 2 ^ 31) : fn_M_bad x ps = some ps := by
  unfold fn_M_bad
  rw [z_ifn (decide_eq_false (by rw [h]; exact z_m1 hg))]
theorem M_take_bad {tx : Mtx} {ps : Mps} {x : Int32} {g : Nat} (h : ps.2.1 = nI g) (hg : g < 2 ^ 31) : fn_M_take x tx ps = some ps := by
  unfold fn_M_take
  rw [z_ifn (decide_eq_false (by rw [h]; exact z_m1 hg))]
theorem M_number_bad {tx : Mtx} {ps : Mps} {x : Int32} {g : Nat} (h : ps.2.1 = nI g) (hg : g < 2 ^ 31) : fn_M_number x tx ps = some (0, ps) := by
  unfold fn_M_number
  rw [z_ifn (decide_eq_false (by rw [h]; exact z_m1 hg))]
theorem M_diff_bad {tx : Mtx} {ps : Mps} {x y : Int32} {g : Nat} (h : ps.2.1 = nI g) (hg : g < 2 ^ 31) : fn_M_difference x y tx ps = some (0, ps) := by
  unfold fn_M_difference
  rw [z_ifn (decide_eq_false (by rw [h]; exact z_m1 hg))]
/-! side by side -/
theorem L_take {tx : SB} {mtx : Mtx} {t : Nat → Nat} {n b : Nat} {rd : SR} {ps : Mps} (hT : BR tx mtx t n) (hb : b < 48 ∨ 57 < b) (hb2 : b < 256) (h : SS t n rd ps ∨ Pd t n rd ps) :
    ∃ pl ft ps', fn_R_expect (nI b) tx rd = some (sPF rd pl ft) ∧ fn_M_take (nI b) mtx ps = some ps' ∧ SS t n (sPF rd pl ft) ps' ∧ ((∃ p, Ok n (sPF rd pl ft) ps' p) → ∃ p, Ok n rd ps p) := by
  have h1500 := hT.1
  rcases h with (⟨p, a, b', c, d, e⟩ | ⟨f, g, a, b', c, d, e⟩) | ⟨f, p, q, hz, a, b', c, d, e, e2, e3⟩
  · have hC := B_at hT (k := p) (by omega)
    have hM := M_byteAt hT (k := p) (by omega)
    unfold fn_R_expect fn_M_take
    rw [a, c, R_fail_ok b', M_bad_ok d]
    by_cases hp : p < n
    · rw [if_pos hp] at hC hM
      have htp := (hT.2.2.2 p hp).1
      by_cases he : t p = b
      · refine ⟨nI (p + 1), m1, (nI (p + 1), m1, ps.2.2), ?_, ?_, Or.inl ⟨p + 1, rfl, rfl, rfl, rfl, by omega⟩, fun _ => ⟨p, a, b', c, d, e⟩⟩
        · simp (disch := omega) only [z_lit, z_mm, z_eqm, z_eqm', z_ltm, z_ltm', z_lem, z_lem', nI_leI, nI_ltI, nI_eq, nI_toInt, nI_clamp, nI_add, pk_mul, pk_sub, pk_div, z_rem, z_shr1, z_and1, decide_eq_true_eq, if_pos, if_neg, Option.bind_some, ite_true, ite_false, eq_self, not_false_eq_true, not_true_eq_false, hC, he, sPF, b']
        · simp (disch := omega) only [z_lit, z_mm, z_eqm, z_eqm', z_ltm, z_ltm', z_lem, z_lem', nI_leI, nI_ltI, nI_eq, nI_toInt, nI_clamp, nI_add, pk_mul, pk_sub, pk_div, z_rem, z_shr1, z_and1, decide_eq_true_eq, if_pos, if_neg, Option.bind_some, ite_true, ite_false, eq_self, not_false_eq_true, not_true_eq_false, hM, he, d]
      · refine ⟨nI p, nI p, (nI p, nI p, ps.2.2), ?_, ?_, Or.inr ⟨p, p, rfl, rfl, by omega, by omega, Or.inr rfl⟩, fun ⟨q, hq⟩ => absurd hq.2.1 (z_m1 (by omega))⟩
        · simp (disch := omega) only [z_lit, z_mm, z_eqm, z_eqm', z_ltm, z_ltm', z_lem, z_lem', nI_leI, nI_ltI, nI_eq, nI_toInt, nI_clamp, nI_add, pk_mul, pk_sub, pk_div, z_rem, z_shr1, z_and1, decide_eq_true_eq, if_pos, if_neg, Option.bind_some, ite_true, ite_false, eq_self, not_false_eq_true, not_true_eq_false, hC, a]
        · simp (disch := omega) only [z_lit, z_mm, z_eqm, z_eqm', z_ltm, z_ltm', z_lem, z_lem', nI_leI, nI_ltI, nI_eq, nI_toInt, nI_clamp, nI_add, pk_mul, pk_sub, pk_div, z_rem, z_shr1, z_and1, decide_eq_true_eq, if_pos, if_neg, Option.bind_some, ite_true, ite_false, eq_self, not_false_eq_true, not_true_eq_false, hM, d, c]
    · rw [if_neg hp] at hC hM
      refine ⟨nI p, nI p, (nI p, nI p, ps.2.2), ?_, ?_, Or.inr ⟨p, p, rfl, rfl, by omega, by omega, Or.inr rfl⟩, fun ⟨q, hq⟩ => absurd hq.2.1 (z_m1 (by omega))⟩
      · simp (disch := omega) only [z_lit, z_mm, z_eqm, z_eqm', z_ltm, z_ltm', z_lem, z_lem', nI_leI, nI_ltI, nI_eq, nI_toInt, nI_clamp, nI_add, pk_mul, pk_sub, pk_div, z_rem, z_shr1, z_and1, decide_eq_true_eq, if_pos, if_neg, Option.bind_some, ite_true, ite_false, eq_self, not_false_eq_true, not_true_eq_false, hC, a]
      · simp (disch := omega) only [z_lit, z_mm, z_eqm, z_eqm', z_ltm, z_ltm', z_lem, z_lem', nI_leI, nI_ltI, nI_eq, nI_toInt, nI_clamp, nI_add, pk_mul, pk_sub, pk_div, z_rem, z_shr1, z_and1, decide_eq_true_eq, if_pos, if_neg, Option.bind_some, ite_true, ite_false, eq_self, not_false_eq_true, not_true_eq_false, hM, d, c]
  · obtain ⟨p', hp'⟩ := R_expect_bad (tx := tx) (x := nI b) a (by omega)
    refine ⟨p', nI f, ps, hp', M_take_bad b' (by omega), Or.inr ⟨f, g, rfl, b', c, d, e⟩, fun ⟨q, hq⟩ => absurd hq.2.1 (z_m1 (by omega))⟩
  · obtain ⟨p', hp'⟩ := R_expect_bad (tx := tx) (x := nI b) a (by omega)
    have hp := e.1
    have hM := M_byteAt hT (k := p) (by omega)
    rw [if_pos hp] at hM
    have htp := (hT.2.2.2 p hp).1
    have hd := e.2
    refine ⟨p', nI f, (nI p, nI p, ps.2.2), hp', ?_, Or.inr ⟨f, p, rfl, rfl, b', by omega, Or.inr hz.1⟩, fun ⟨q, hq⟩ => absurd hq.2.1 (z_m1 (by omega))⟩
    unfold fn_M_take
    rw [M_bad_ok d, c]
    simp (disch := omega) only [z_lit, z_mm, z_eqm, z_eqm', z_ltm, z_ltm', z_lem, z_lem', nI_leI, nI_ltI, nI_eq, nI_toInt, nI_clamp, nI_add, pk_mul, pk_sub, pk_div, z_rem, z_shr1, z_and1, decide_eq_true_eq, if_pos, if_neg, Option.bind_some, ite_true, ite_false, eq_self, not_false_eq_true, not_true_eq_false, hM, d]
theorem C_isDigit {t : Nat → Nat} {n p : Nat} (ht : p < n → t p < 256) : (Dg t n p → fn_R_isDigit (if p < n then nI (t p) else m1) = some (nI 1)) ∧ (¬ Dg t n p → fn_R_isDigit (if p < n then nI (t p) else m1) = some (nI 0)) := by
  unfold fn_R_isDigit
  by_cases hp : p < n
  · have h256 := ht hp
    rw [if_pos hp]
    refine ⟨fun hd => ?_, fun hd => ?_⟩
    · have := hd.2
      simp (disch := omega) only [z_lit, z_mm, z_eqm, z_eqm', z_ltm, z_ltm', z_lem, z_lem', nI_leI, nI_ltI, nI_eq, nI_toInt, nI_clamp, nI_add, pk_mul, pk_sub, pk_div, z_rem, z_shr1, z_and1, decide_eq_true_eq, if_pos, if_neg, Option.bind_some, ite_true, ite_false, eq_self, not_false_eq_true, not_true_eq_false]
    · by_cases h48 : t p < 48
      · simp (disch := omega) only [z_lit, z_mm, z_eqm, z_eqm', z_ltm, z_ltm', z_lem, z_lem', nI_leI, nI_ltI, nI_eq, nI_toInt, nI_clamp, nI_add, pk_mul, pk_sub, pk_div, z_rem, z_shr1, z_and1, decide_eq_true_eq, if_pos, if_neg, Option.bind_some, ite_true, ite_false, eq_self, not_false_eq_true, not_true_eq_false]
      · have h57 : 57 < t p := by
          refine Classical.byContradiction fun hx => hd ⟨hp, by omega, by omega⟩
        simp (disch := omega) only [z_lit, z_mm, z_eqm, z_eqm', z_ltm, z_ltm', z_lem, z_lem', nI_leI, nI_ltI, nI_eq, nI_toInt, nI_clamp, nI_add, pk_mul, pk_sub, pk_div, z_rem, z_shr1, z_and1, decide_eq_true_eq, if_pos, if_neg, Option.bind_some, ite_true, ite_false, eq_self, not_false_eq_true, not_true_eq_false]
  · rw [if_neg hp]
    refine ⟨fun hd => absurd hd.1 hp, fun _ => ?_⟩
    simp (disch := omega) only [z_lit, z_mm, z_eqm, z_eqm', z_ltm, z_ltm', z_lem, z_lem', nI_leI, nI_ltI, nI_eq, nI_toInt, nI_clamp, nI_add, pk_mul, pk_sub, pk_div, z_rem, z_shr1, z_and1, decide_eq_true_eq, if_pos, if_neg, Option.bind_some, ite_true, ite_false, eq_self, not_false_eq_true, not_true_eq_false]
theorem M_isDigit {tx : SB} {mtx : Mtx} {t : Nat → Nat} {n p : Nat} (hT : BR tx mtx t n) (hp : p < 2 ^ 31) : (Dg t n p → fn_M_isDigit (nI p) mtx = some (nI 1)) ∧ (¬ Dg t n p → fn_M_isDigit (nI p) mtx = some (nI 0)) := by
  have hM := M_byteAt hT hp
  have ht : p < n → t p < 256 := fun h => (hT.2.2.2 p h).1
  have hc := C_isDigit (t := t) (n := n) (p := p) ht
  have e : fn_M_isDigit (nI p) mtx = fn_R_isDigit (if p < n then nI (t p) else m1) := by
    unfold fn_M_isDigit fn_R_isDigit
    rw [hM]
    rfl
  rw [e]
  exact hc
