/-! numbers and differences, side by side -/
def NRes (t : Nat → Nat) (n : Nat) (rd' : SR) (ps' : Mps) (v w : Int32) (p g : Nat) : Prop := (∃ p' u, Ok n rd' ps' p' ∧ v = nI u ∧ w = nI u ∧ u ≤ g ∧ ps'.2.2 = nI p) ∨ Bd t n rd' ps' ∨ (Pd t n rd' ps' ∧ w = nI 0)
theorem L_numloop {tx : SB} {mtx : Mtx} {t : Nat → Nat} {n p g : Nat} {rd : SR} (hT : BR tx mtx t n) (hp : Dg t n p) (hg : g < 1000) :
    ∀ (m k v N M : Nat), k + m = 4 → m < N → m < M → p + k ≤ n → v < 10 ^ k → (k = 0 → v = 0) → (0 < k → t p = 48 → v = 0 ∧ k = 1) → (0 < k → t p ≠ 48 → 0 < v) →
      ∃ v' w pl ft ps', fn_R_number_10 (nI g) (nI p) tx (fun x3_9 rd_9 => fn_R_number_94 (nI g) (nI p) x3_9 tx rd_9) N (nI v) (nI k) (sPF rd (nI (p + k)) m1) = some (v', sPF rd pl ft) ∧
        fn_M_number_41 (nI g) mtx (fun x2_8 ps_8 => fn_M_number_131 (nI g) x2_8 mtx ps_8) M (nI v) (nI (p + k), m1, nI p) = some (w, ps') ∧ NRes t n (sPF rd pl ft) ps' v' w p g := by
  have h1500 := hT.1
  intro m
  induction m with
  | zero =>
    intro k v N M hk hN hM hpk hv k0 k48 kn48
    have hk4 : k = 4 := by omega
    subst hk4
    obtain ⟨N, rfl⟩ : ∃ M, N = M + 1 := ⟨N - 1, by omega⟩
    obtain ⟨M, rfl⟩ : ∃ K, M = K + 1 := ⟨M - 1, by omega⟩
    have hv4 : v < 10000 := hv
    have ht48 : t p ≠ 48 := fun h => by have := (k48 (by omega) h).2; omega
    have hv0 := kn48 (by omega) ht48
    have htp := (hT.2.2.2 p hp.1)
    have htp1 := htp.1
    have htp2 := htp.2.1
    have hpn := hp.1
    have hC := B_at hT (k := p + 4) (by omega)
    have hD := C_isDigit (t := t) (n := n) (p := p + 4) (fun h => (hT.2.2.2 _ h).1)
    have hDM := M_isDigit hT (p := p + 4) (by omega)
    rw [fn_R_number_10, fn_M_number_41]
    have hC' : fn_B_at (sPF rd (nI (p + 4)) m1).2.2.2.2.2.2.2.1 tx = some (if p + 4 < n then nI (t (p + 4)) else m1) := hC
    rw [hC']
    by_cases hd : Dg t n (p + 4)
    · have ef : fn_R_fail (sPF rd (nI (p + 4)) m1).2.2.2.2.2.2.2.1 (sPF rd (nI (p + 4)) m1) = some (sPF rd (nI (p + 4)) (nI (p + 4))) := R_fail_ok (rd := sPF rd (nI (p + 4)) m1) rfl
      have em : fn_M_bad (nI (p + 4)) (nI (p + 4), m1, nI p) = some (nI (p + 4), nI (p + 4), nI p) := M_bad_ok rfl
      refine ⟨nI 0, nI 0, nI (p + 4), nI (p + 4), (nI (p + 4), nI (p + 4), nI p), ?_, ?_, Or.inr (Or.inl ⟨p + 4, p + 4, rfl, rfl, by have := hd.1; omega, by have := hd.1; omega, Or.inr rfl⟩)⟩
      · simp (disch := omega) only [z_lit, z_mm, z_eqm, z_eqm', z_ltm, z_ltm', z_lem, z_lem', nI_leI, nI_ltI, nI_eq, nI_toInt, nI_clamp, nI_add, pk_mul, pk_sub, pk_div, z_rem, z_shr1, z_and1, decide_eq_true_eq, if_pos, if_neg, Option.bind_some, ite_true, ite_false, eq_self, not_false_eq_true, not_true_eq_false, hD.1 hd, ef]
      · simp (disch := omega) only [z_lit, z_mm, z_eqm, z_eqm', z_ltm, z_ltm', z_lem, z_lem', nI_leI, nI_ltI, nI_eq, nI_toInt, nI_clamp, nI_add, pk_mul, pk_sub, pk_div, z_rem, z_shr1, z_and1, decide_eq_true_eq, if_pos, if_neg, Option.bind_some, ite_true, ite_false, eq_self, not_false_eq_true, not_true_eq_false, hDM.1 hd, htp2, em]
    · by_cases hvg : v ≤ g
      · refine ⟨nI v, nI v, nI (p + 4), m1, (nI (p + 4), m1, nI p), ?_, ?_, Or.inl ⟨p + 4, v, ⟨rfl, rfl, rfl, rfl, hpk⟩, rfl, rfl, hvg, rfl⟩⟩
        · unfold fn_R_number_94
          have epl : (sPF rd (nI (p + 4)) m1).2.2.2.2.2.2.2.1 = nI (p + 4) := rfl
          simp (disch := omega) only [z_lit, z_mm, z_eqm, z_eqm', z_ltm, z_ltm', z_lem, z_lem', nI_leI, nI_ltI, nI_eq, nI_toInt, nI_clamp, nI_add, pk_mul, pk_sub, pk_div, z_rem, z_shr1, z_and1, decide_eq_true_eq, if_pos, if_neg, Option.bind_some, ite_true, ite_false, eq_self, not_false_eq_true, not_true_eq_false, hD.2 hd, epl]
        · unfold fn_M_number_131
          simp (disch := omega) only [z_lit, z_mm, z_eqm, z_eqm', z_ltm, z_ltm', z_lem, z_lem', nI_leI, nI_ltI, nI_eq, nI_toInt, nI_clamp, nI_add, pk_mul, pk_sub, pk_div, z_rem, z_shr1, z_and1, decide_eq_true_eq, if_pos, if_neg, Option.bind_some, ite_true, ite_false, eq_self, not_false_eq_true, not_true_eq_false, hDM.2 hd]
      · have ef : fn_R_fail (nI p) (sPF rd (nI (p + 4)) m1) = some (sPF rd (nI (p + 4)) (nI p)) := R_fail_ok (rd := sPF rd (nI (p + 4)) m1) rfl
        have em : fn_M_bad (nI p) (nI (p + 4), m1, nI p) = some (nI (p + 4), nI p, nI p) := M_bad_ok rfl
        refine ⟨nI 0, nI v, nI (p + 4), nI p, (nI (p + 4), nI p, nI p), ?_, ?_, Or.inr (Or.inl ⟨p, p, rfl, rfl, by omega, by omega, Or.inr rfl⟩)⟩
        · unfold fn_R_number_94 fn_R_number_107
          have epl : (sPF rd (nI (p + 4)) m1).2.2.2.2.2.2.2.1 = nI (p + 4) := rfl
          simp (disch := omega) only [z_lit, z_mm, z_eqm, z_eqm', z_ltm, z_ltm', z_lem, z_lem', nI_leI, nI_ltI, nI_eq, nI_toInt, nI_clamp, nI_add, pk_mul, pk_sub, pk_div, z_rem, z_shr1, z_and1, decide_eq_true_eq, if_pos, if_neg, Option.bind_some, ite_true, ite_false, eq_self, not_false_eq_true, not_true_eq_false, hD.2 hd, epl, ef]
        · unfold fn_M_number_131
          simp (disch := omega) only [z_lit, z_mm, z_eqm, z_eqm', z_ltm, z_ltm', z_lem, z_lem', nI_leI, nI_ltI, nI_eq, nI_toInt, nI_clamp, nI_add, pk_mul, pk_sub, pk_div, z_rem, z_shr1, z_and1, decide_eq_true_eq, if_pos, if_neg, Option.bind_some, ite_true, ite_false, eq_self, not_false_eq_true, not_true_eq_false, hDM.2 hd, em]
  | succ m ih =>
    intro k v N M hk hN hM hpk hv k0 k48 kn48
    obtain ⟨N, rfl⟩ : ∃ M, N = M + 1 := ⟨N - 1, by omega⟩
    obtain ⟨M, rfl⟩ : ∃ K, M = K + 1 := ⟨M - 1, by omega⟩
    have hv4 : v < 10000 := Nat.lt_of_lt_of_le hv (show 10 ^ k ≤ 10 ^ 4 from Nat.pow_le_pow_right (by decide) (by omega))
    have htp := (hT.2.2.2 p hp.1)
    have htp1 := htp.1
    have htp2 := htp.2.1
    have hpn := hp.1
    have hp48 := hp.2
    have hC := B_at hT (k := p + k) (by omega)
    have hD := C_isDigit (t := t) (n := n) (p := p + k) (fun h => (hT.2.2.2 _ h).1)
    have hDM := M_isDigit hT (p := p + k) (by omega)
    rw [fn_R_number_10, fn_M_number_41]
    have hC' : fn_B_at (sPF rd (nI (p + k)) m1).2.2.2.2.2.2.2.1 tx = some (if p + k < n then nI (t (p + k)) else m1) := hC
    rw [hC']
    have epl : (sPF rd (nI (p + k)) m1).2.2.2.2.2.2.2.1 = nI (p + k) := rfl
    have est : ∀ z, ((sPF rd (nI (p + k)) m1).1, (sPF rd (nI (p + k)) m1).2.1, (sPF rd (nI (p + k)) m1).2.2.1, (sPF rd (nI (p + k)) m1).2.2.2.1, (sPF rd (nI (p + k)) m1).2.2.2.2.1, (sPF rd (nI (p + k)) m1).2.2.2.2.2.1, (sPF rd (nI (p + k)) m1).2.2.2.2.2.2.1, z, (sPF rd (nI (p + k)) m1).2.2.2.2.2.2.2.2) = sPF rd z m1 := fun z => rfl
    by_cases hd : Dg t n (p + k)
    · have hta := hT.2.2.2 (p + k) hd.1
      have hta1 := hta.1
      have hta2 := hta.2.1
      have hd1 := hd.1
      have hd2 := hd.2
      have hD1 := hD.1 hd
      rw [if_pos hd.1] at hD1
      have hnext : ∀ (hh : 0 < k → t p ≠ 48), ∃ v' w pl ft ps', fn_R_number_10 (nI g) (nI p) tx (fun x3_9 rd_9 => fn_R_number_94 (nI g) (nI p) x3_9 tx rd_9) N (nI (10 * v + t (p + k) - 48)) (nI (k + 1)) (sPF rd (nI (p + k + 1)) m1) = some (v', sPF rd pl ft) ∧
        fn_M_number_41 (nI g) mtx (fun x2_8 ps_8 => fn_M_number_131 (nI g) x2_8 mtx ps_8) M (nI (10 * v + t (p + k) - 48)) (nI (p + k + 1), m1, nI p) = some (w, ps') ∧ NRes t n (sPF rd pl ft) ps' v' w p g := by
        intro hh
        refine ih (k + 1) (10 * v + t (p + k) - 48) N M (by omega) (by omega) (by omega) (by omega) ?_ (fun h => absurd h (by omega)) (fun _ h48 => ?_) (fun _ h48 => ?_)
        · rw [Nat.pow_succ]; omega
        · by_cases hk0 : k = 0
          · have hv0 := k0 hk0
            subst hk0
            rw [Nat.add_zero]
            omega
          · exact absurd h48 (hh (by omega))
        · by_cases hk0 : k = 0
          · have hv0 := k0 hk0
            subst hk0
            rw [Nat.add_zero]
            omega
          · have := kn48 (by omega) h48
            omega
      by_cases hk0 : k = 0
      · obtain ⟨v', w, pl, ft, ps', e1, e2, e3⟩ := hnext (fun h => absurd h (by omega))
        refine ⟨v', w, pl, ft, ps', ?_, ?_, e3⟩
        · simp (disch := omega) only [z_lit, z_mm, z_eqm, z_eqm', z_ltm, z_ltm', z_lem, z_lem', nI_leI, nI_ltI, nI_eq, nI_toInt, nI_clamp, nI_add, pk_mul, pk_sub, pk_div, z_rem, z_shr1, z_and1, decide_eq_true_eq, if_pos, if_neg, Option.bind_some, ite_true, ite_false, eq_self, not_false_eq_true, not_true_eq_false, hD1, epl, est]
          exact e1
        · simp (disch := omega) only [z_lit, z_mm, z_eqm, z_eqm', z_ltm, z_ltm', z_lem, z_lem', nI_leI, nI_ltI, nI_eq, nI_toInt, nI_clamp, nI_add, pk_mul, pk_sub, pk_div, z_rem, z_shr1, z_and1, decide_eq_true_eq, if_pos, if_neg, Option.bind_some, ite_true, ite_false, eq_self, not_false_eq_true, not_true_eq_false, hDM.1 hd, hta2]
          exact e2
      · by_cases h48 : t p = 48
        · obtain ⟨hv0, hk1⟩ := k48 (by omega) h48
          subst hk1
          have ef : fn_R_fail (nI (p + 1)) (sPF rd (nI (p + 1)) m1) = some (sPF rd (nI (p + 1)) (nI (p + 1))) := R_fail_ok (rd := sPF rd (nI (p + 1)) m1) rfl
          refine ⟨nI 0, nI 0, nI (p + 1), nI (p + 1), (nI (p + 1), m1, nI p), ?_, ?_, Or.inr (Or.inr ⟨⟨p + 1, p + 1, p, ⟨rfl, rfl, h48⟩, rfl, by omega, rfl, rfl, hd, rfl, by omega⟩, rfl⟩)⟩
          · simp (disch := omega) only [z_lit, z_mm, z_eqm, z_eqm', z_ltm, z_ltm', z_lem, z_lem', nI_leI, nI_ltI, nI_eq, nI_toInt, nI_clamp, nI_add, pk_mul, pk_sub, pk_div, z_rem, z_shr1, z_and1, decide_eq_true_eq, if_pos, if_neg, Option.bind_some, ite_true, ite_false, eq_self, not_false_eq_true, not_true_eq_false, hD1, epl, est, hv0, ef]
          · unfold fn_M_number_131
            simp (disch := omega) only [z_lit, z_mm, z_eqm, z_eqm', z_ltm, z_ltm', z_lem, z_lem', nI_leI, nI_ltI, nI_eq, nI_toInt, nI_clamp, nI_add, pk_mul, pk_sub, pk_div, z_rem, z_shr1, z_and1, decide_eq_true_eq, if_pos, if_neg, Option.bind_some, ite_true, ite_false, eq_self, not_false_eq_true, not_true_eq_false, hDM.1 hd, htp2, h48, hv0]
        · have hv0 := kn48 (by omega) h48
          obtain ⟨v', w, pl, ft, ps', e1, e2, e3⟩ := hnext (fun _ => h48)
          refine ⟨v', w, pl, ft, ps', ?_, ?_, e3⟩
          · simp (disch := omega) only [z_lit, z_mm, z_eqm, z_eqm', z_ltm, z_ltm', z_lem, z_lem', nI_leI, nI_ltI, nI_eq, nI_toInt, nI_clamp, nI_add, pk_mul, pk_sub, pk_div, z_rem, z_shr1, z_and1, decide_eq_true_eq, if_pos, if_neg, Option.bind_some, ite_true, ite_false, eq_self, not_false_eq_true, not_true_eq_false, hD1, epl, est]
            exact e1
          · simp (disch := omega) only [z_lit, z_mm, z_eqm, z_eqm', z_ltm, z_ltm', z_lem, z_lem', nI_leI, nI_ltI, nI_eq, nI_toInt, nI_clamp, nI_add, pk_mul, pk_sub, pk_div, z_rem, z_shr1, z_and1, decide_eq_true_eq, if_pos, if_neg, Option.bind_some, ite_true, ite_false, eq_self, not_false_eq_true, not_true_eq_false, hDM.1 hd, htp2, hta2]
            exact e2
    · have hk0 : 0 < k := by
        refine Nat.pos_of_ne_zero fun h => hd ?_
        subst h
        exact hp
      by_cases hvg : v ≤ g
      · refine ⟨nI v, nI v, nI (p + k), m1, (nI (p + k), m1, nI p), ?_, ?_, Or.inl ⟨p + k, v, ⟨rfl, rfl, rfl, rfl, hpk⟩, rfl, rfl, hvg, rfl⟩⟩
        · unfold fn_R_number_94
          simp (disch := omega) only [z_lit, z_mm, z_eqm, z_eqm', z_ltm, z_ltm', z_lem, z_lem', nI_leI, nI_ltI, nI_eq, nI_toInt, nI_clamp, nI_add, pk_mul, pk_sub, pk_div, z_rem, z_shr1, z_and1, decide_eq_true_eq, if_pos, if_neg, Option.bind_some, ite_true, ite_false, eq_self, not_false_eq_true, not_true_eq_false, hD.2 hd, epl]
        · unfold fn_M_number_131
          simp (disch := omega) only [z_lit, z_mm, z_eqm, z_eqm', z_ltm, z_ltm', z_lem, z_lem', nI_leI, nI_ltI, nI_eq, nI_toInt, nI_clamp, nI_add, pk_mul, pk_sub, pk_div, z_rem, z_shr1, z_and1, decide_eq_true_eq, if_pos, if_neg, Option.bind_some, ite_true, ite_false, eq_self, not_false_eq_true, not_true_eq_false, hDM.2 hd]
      · have ef : fn_R_fail (nI p) (sPF rd (nI (p + k)) m1) = some (sPF rd (nI (p + k)) (nI p)) := R_fail_ok (rd := sPF rd (nI (p + k)) m1) rfl
        have em : fn_M_bad (nI p) (nI (p + k), m1, nI p) = some (nI (p + k), nI p, nI p) := M_bad_ok rfl
        refine ⟨nI 0, nI v, nI (p + k), nI p, (nI (p + k), nI p, nI p), ?_, ?_, Or.inr (Or.inl ⟨p, p, rfl, rfl, by omega, by omega, Or.inr rfl⟩)⟩
        · unfold fn_R_number_94 fn_R_number_107
          simp (disch := omega) only [z_lit, z_mm, z_eqm, z_eqm', z_ltm, z_ltm', z_lem, z_lem', nI_leI, nI_ltI, nI_eq, nI_toInt, nI_clamp, nI_add, pk_mul, pk_sub, pk_div, z_rem, z_shr1, z_and1, decide_eq_true_eq, if_pos, if_neg, Option.bind_some, ite_true, ite_false, eq_self, not_false_eq_true, not_true_eq_false, hD.2 hd, epl, ef]
        · unfold fn_M_number_131
          simp (disch := omega) only [z_lit, z_mm, z_eqm, z_eqm', z_ltm, z_ltm', z_lem, z_lem', nI_leI, nI_ltI, nI_eq, nI_toInt, nI_clamp, nI_add, pk_mul, pk_sub, pk_div, z_rem, z_shr1, z_and1, decide_eq_true_eq, if_pos, if_neg, Option.bind_some, ite_true, ite_false, eq_self, not_false_eq_true, not_true_eq_false, hDM.2 hd, em]
theorem L_number {tx : SB} {mtx : Mtx} {t : Nat → Nat} {n g : Nat} {rd : SR} {ps : Mps} {x y : Int32} (hT : BR tx mtx t n) (hg : g < 1000) (hx : (∃ p, Ok n rd ps p) → x = nI g ∧ y = nI g) (h : SS t n rd ps) :
    ∃ v w pl ft ps', fn_R_number x tx rd = some (v, sPF rd pl ft) ∧ fn_M_number y mtx ps = some (w, ps') ∧ (SS t n (sPF rd pl ft) ps' ∨ (Pd t n (sPF rd pl ft) ps' ∧ w = nI 0 ∧ ∃ p, Ok n rd ps p)) ∧
      ((∃ p', Ok n (sPF rd pl ft) ps' p') → ∃ p u, Ok n rd ps p ∧ v = nI u ∧ w = nI u ∧ u ≤ g ∧ ps'.2.2 = nI p) := by
  have h1500 := hT.1
  rcases h with ⟨p, a, b', c, d, e⟩ | ⟨f, g', a, b', c, d, e⟩
  · obtain ⟨rfl, rfl⟩ := hx ⟨p, a, b', c, d, e⟩
    have hrd : rd = sPF rd (nI p) m1 := by unfold sPF; rw [← a, ← b']
    have hDM := M_isDigit hT (p := p) (by omega)
    by_cases hd : Dg t n p
    · obtain ⟨v', w, pl, ft, ps', e1, e2, e3⟩ := L_numloop (rd := rd) hT hd hg 4 0 0 am_NF am_NF (by omega) (by rw [z_NF]; omega) (by rw [z_NF]; omega) (by omega) (by decide) (fun _ => rfl) (fun h => absurd h (by omega)) (fun h => absurd h (by omega))
      rw [Nat.add_zero] at e1 e2
      refine ⟨v', w, pl, ft, ps', ?_, ?_, ?_, ?_⟩
      · unfold fn_R_number
        simp only [z_lit]
        rw [a]
        rw [← hrd] at e1
        exact e1
      · unfold fn_M_number
        rw [c]
        simp (disch := omega) only [z_lit, z_mm, z_eqm, z_eqm', z_ltm, z_ltm', z_lem, z_lem', nI_leI, nI_ltI, nI_eq, nI_toInt, nI_clamp, nI_add, pk_mul, pk_sub, pk_div, z_rem, z_shr1, z_and1, decide_eq_true_eq, if_pos, if_neg, Option.bind_some, ite_true, ite_false, eq_self, not_false_eq_true, not_true_eq_false, d, hDM.1 hd]
        exact e2
      · rcases e3 with ⟨p', u, h1, _⟩ | h1 | h1
        · exact Or.inl (Or.inl ⟨p', h1⟩)
        · exact Or.inl (Or.inr h1)
        · exact Or.inr ⟨h1.1, h1.2, p, a, b', c, d, e⟩
      · rintro ⟨p'', ho⟩
        rcases e3 with ⟨p', u, h1, h2, h3, h4, h5⟩ | ⟨f, g', h1, _, h2, _⟩ | ⟨⟨f, q, q2, _, h1, h2, _⟩, _⟩
        · exact ⟨p, u, ⟨a, b', c, d, e⟩, h2, h3, h4, h5⟩
        · exact absurd (h1.symm.trans ho.2.1) (z_m1 (by omega))
        · exact absurd (h1.symm.trans ho.2.1) (z_m1 (by omega))
    · have hC := B_at hT (k := p) (by omega)
      have hD := C_isDigit (t := t) (n := n) (p := p) (fun h => (hT.2.2.2 _ h).1)
      refine ⟨nI 0, nI 0, nI p, nI p, (nI p, nI p, nI p), ?_, ?_, Or.inl (Or.inr ⟨p, p, rfl, rfl, by omega, by omega, Or.inr rfl⟩), fun ⟨q, hq⟩ => absurd hq.2.1 (z_m1 (by omega))⟩
      · unfold fn_R_number
        obtain ⟨N, hN⟩ : ∃ N, am_NF = N + 1 := ⟨4095, rfl⟩
        rw [a, hN, fn_R_number_10, a, hC]
        have ef : fn_R_fail (nI p) rd = some (sPF rd (nI p) (nI p)) := by rw [R_fail_ok b', a]
        unfold fn_R_number_94 fn_R_number_107
        simp (disch := omega) only [z_lit, z_mm, z_eqm, z_eqm', z_ltm, z_ltm', z_lem, z_lem', nI_leI, nI_ltI, nI_eq, nI_toInt, nI_clamp, nI_add, pk_mul, pk_sub, pk_div, z_rem, z_shr1, z_and1, decide_eq_true_eq, if_pos, if_neg, Option.bind_some, ite_true, ite_false, eq_self, not_false_eq_true, not_true_eq_false, hD.2 hd, a, ef]
      · unfold fn_M_number
        have em : fn_M_bad (nI p) (nI p, m1, nI p) = some (nI p, nI p, nI p) := M_bad_ok rfl
        rw [c]
        simp (disch := omega) only [z_lit, z_mm, z_eqm, z_eqm', z_ltm, z_ltm', z_lem, z_lem', nI_leI, nI_ltI, nI_eq, nI_toInt, nI_clamp, nI_add, pk_mul, pk_sub, pk_div, z_rem, z_shr1, z_and1, decide_eq_true_eq, if_pos, if_neg, Option.bind_some, ite_true, ite_false, eq_self, not_false_eq_true, not_true_eq_false, d, hDM.2 hd, em]
  · obtain ⟨v, p', hp'⟩ := R_number_bad (tx := tx) (x1 := x) a (by omega)
    exact ⟨v, 0, p', nI f, ps, hp', M_number_bad b' (by omega), Or.inl (Or.inr ⟨f, g', rfl, b', c, d, e⟩), fun ⟨q, hq⟩ => absurd hq.2.1 (z_m1 (by omega))⟩
theorem z_and127 {a : Nat} (h : a < 2 ^ 31) : nI a &&& nI 127 = nI (a % 128) := pk_andN (by omega) 7 (by decide)
theorem L_diff {tx : SB} {mtx : Mtx} {t : Nat → Nat} {n a b : Nat} {rd : SR} {ps : Mps} {x1 x2 y1 y2 : Int32} (hT : BR tx mtx t n) (ha : a ≤ 1) (hb : b < 1000) (hx : (∃ p, Ok n rd ps p) → x1 = nI a ∧ x2 = nI b ∧ y1 = nI a ∧ y2 = nI b) (h : SS t n rd ps) :
    ∃ v w pl ft ps', fn_R_difference x1 x2 tx rd = some (v, sPF rd pl ft) ∧ fn_M_difference y1 y2 mtx ps = some (w, ps') ∧ SS t n (sPF rd pl ft) ps' ∧
      ((∃ p', Ok n (sPF rd pl ft) ps' p') → (∃ p, Ok n rd ps p) ∧ ∃ u, v = nI u ∧ w = nI u ∧ a ≤ u ∧ u ≤ b) := by
  have h1500 := hT.1
  rcases h with ⟨p, a', b', c, d, e⟩ | ⟨f, g', a', b', c, d, e⟩
  · have hok : ∃ p, Ok n rd ps p := ⟨p, a', b', c, d, e⟩
    obtain ⟨rfl, rfl, rfl, rfl⟩ := hx hok
    have hC := B_at hT (k := p) (by omega)
    have hM := M_byteAt hT (k := p) (by omega)
    have est : ∀ z, (rd.1, rd.2.1, rd.2.2.1, rd.2.2.2.1, rd.2.2.2.2.1, rd.2.2.2.2.2.1, rd.2.2.2.2.2.2.1, z, rd.2.2.2.2.2.2.2.2) = sPF rd z m1 := fun z => by unfold sPF; rw [b']
    -- the end, with the value
    have fin : ∀ (u q : Nat), u < 2 ^ 30 → q ≤ n → ∃ v w pl ft ps', fn_R_difference_112 (nI a) (nI b) (nI p) (nI u) tx (sPF rd (nI q) m1) = some (v, sPF rd pl ft) ∧ fn_M_difference_119 (nI a) (nI b) (nI p) (nI u) mtx (nI q, m1, ps.2.2) = some (w, ps') ∧ SS t n (sPF rd pl ft) ps' ∧
        ((∃ p', Ok n (sPF rd pl ft) ps' p') → (∃ p, Ok n rd ps p) ∧ ∃ u, v = nI u ∧ w = nI u ∧ a ≤ u ∧ u ≤ b) := by
      intro u q hu hq
      have ef : fn_R_fail (nI p) (sPF rd (nI q) m1) = some (sPF rd (nI q) (nI p)) := R_fail_ok (rd := sPF rd (nI q) m1) rfl
      have em : fn_M_bad (nI p) (nI q, m1, ps.2.2) = some (nI q, nI p, ps.2.2) := M_bad_ok rfl
      unfold fn_R_difference_112 fn_R_difference_124 fn_M_difference_119 fn_M_difference_131
      by_cases h1 : u < a
      · refine ⟨nI a, nI u, nI q, nI p, (nI q, nI p, ps.2.2), ?_, ?_, Or.inr ⟨p, p, rfl, rfl, by omega, by omega, Or.inr rfl⟩, fun ⟨q, hq⟩ => absurd hq.2.1 (z_m1 (by omega))⟩
        · simp (disch := omega) only [z_lit, z_mm, z_eqm, z_eqm', z_ltm, z_ltm', z_lem, z_lem', nI_leI, nI_ltI, nI_eq, nI_toInt, nI_clamp, nI_add, pk_mul, pk_sub, pk_div, z_rem, z_shr1, z_and1, decide_eq_true_eq, if_pos, if_neg, Option.bind_some, ite_true, ite_false, eq_self, not_false_eq_true, not_true_eq_false, ef]
        · simp (disch := omega) only [z_lit, z_mm, z_eqm, z_eqm', z_ltm, z_ltm', z_lem, z_lem', nI_leI, nI_ltI, nI_eq, nI_toInt, nI_clamp, nI_add, pk_mul, pk_sub, pk_div, z_rem, z_shr1, z_and1, decide_eq_true_eq, if_pos, if_neg, Option.bind_some, ite_true, ite_false, eq_self, not_false_eq_true, not_true_eq_false, em]
      · by_cases h2 : u ≤ b
        · refine ⟨nI u, nI u, nI q, m1, (nI q, m1, ps.2.2), ?_, ?_, Or.inl ⟨q, rfl, rfl, rfl, rfl, hq⟩, fun _ => ⟨hok, u, rfl, rfl, by omega, h2⟩⟩
          · simp (disch := omega) only [z_lit, z_mm, z_eqm, z_eqm', z_ltm, z_ltm', z_lem, z_lem', nI_leI, nI_ltI, nI_eq, nI_toInt, nI_clamp, nI_add, pk_mul, pk_sub, pk_div, z_rem, z_shr1, z_and1, decide_eq_true_eq, if_pos, if_neg, Option.bind_some, ite_true, ite_false, eq_self, not_false_eq_true, not_true_eq_false]
          · simp (disch := omega) only [z_lit, z_mm, z_eqm, z_eqm', z_ltm, z_ltm', z_lem, z_lem', nI_leI, nI_ltI, nI_eq, nI_toInt, nI_clamp, nI_add, pk_mul, pk_sub, pk_div, z_rem, z_shr1, z_and1, decide_eq_true_eq, if_pos, if_neg, Option.bind_some, ite_true, ite_false, eq_self, not_false_eq_true, not_true_eq_false]
        · refine ⟨nI a, nI u, nI q, nI p, (nI q, nI p, ps.2.2), ?_, ?_, Or.inr ⟨p, p, rfl, rfl, by omega, by omega, Or.inr rfl⟩, fun ⟨q, hq⟩ => absurd hq.2.1 (z_m1 (by omega))⟩
          · simp (disch := omega) only [z_lit, z_mm, z_eqm, z_eqm', z_ltm, z_ltm', z_lem, z_lem', nI_leI, nI_ltI, nI_eq, nI_toInt, nI_clamp, nI_add, pk_mul, pk_sub, pk_div, z_rem, z_shr1, z_and1, decide_eq_true_eq, if_pos, if_neg, Option.bind_some, ite_true, ite_false, eq_self, not_false_eq_true, not_true_eq_false, ef]
          · simp (disch := omega) only [z_lit, z_mm, z_eqm, z_eqm', z_ltm, z_ltm', z_lem, z_lem', nI_leI, nI_ltI, nI_eq, nI_toInt, nI_clamp, nI_add, pk_mul, pk_sub, pk_div, z_rem, z_shr1, z_and1, decide_eq_true_eq, if_pos, if_neg, Option.bind_some, ite_true, ite_false, eq_self, not_false_eq_true, not_true_eq_false, em]
    unfold fn_R_difference fn_M_difference
    rw [a', c, hC, hM]
    by_cases hp : p < n
    · have htp := (hT.2.2.2 p hp).1
      have hne : ¬ nI (t p) = (-1 : Int32) := z_m1 (by omega)
      rw [if_pos hp]
      have hand : nI (t p) &&& (127 : Int32) = nI (t p % 128) := z_and127 (by omega)
      by_cases h128 : t p < 128
      · obtain ⟨v, w, pl, ft, ps', e1, e2, e3⟩ := fin (t p) (p + 1) (by omega) (by omega)
        refine ⟨v, w, pl, ft, ps', ?_, ?_, e3⟩
        · rw [Option.bind_some]
          refine (am_iff (decide_eq_false hne)).trans ((am_ift (decide_eq_true (show nI (t p) < (128 : Int32) from (nI_ltI (b := 128) (by omega) (by omega)).mpr h128))).trans ?_)
          rw [est, nI_1]
          exact e1
        · refine (am_ift (decide_eq_true d)).trans ?_
          rw [Option.bind_some]
          refine (am_iff (decide_eq_false hne)).trans ((am_ift (decide_eq_true (show nI (t p) ≤ (127 : Int32) from (nI_leI (b := 127) (by omega) (by omega)).mpr (by omega)))).trans ?_)
          rw [hand, show t p % 128 = t p by omega, nI_1, d]
          exact e2
      · have hC2 := B_at hT (k := p + 1) (by omega)
        have hM2 := M_byteAt hT (k := p + 1) (by omega)
        have ef' : fn_R_fail (sPF rd (nI (p + 1)) m1).2.2.2.2.2.2.2.1 (sPF rd (nI (p + 1)) m1) = some (sPF rd (nI (p + 1)) (nI (p + 1))) := R_fail_ok (rd := sPF rd (nI (p + 1)) m1) rfl
        have em : fn_M_bad (nI (p + 1)) (nI (p + 1), m1, ps.2.2) = some (nI (p + 1), nI (p + 1), ps.2.2) := M_bad_ok rfl
        have e79 : fn_R_difference_79 (nI a) tx (sPF rd (nI (p + 1)) m1) = some (nI a, sPF rd (nI (p + 1)) (nI (p + 1))) := by
          unfold fn_R_difference_79
          rw [ef']
          rfl
        have e88 : fn_M_difference_88 mtx (nI (p + 1), m1, ps.2.2) = some (nI 0, nI (p + 1), nI (p + 1), ps.2.2) := by
          unfold fn_M_difference_88
          have em' : fn_M_bad (nI (p + 1), m1, ps.2.2).1 (nI (p + 1), m1, ps.2.2) = some (nI (p + 1), nI (p + 1), ps.2.2) := em
          rw [em']
          rfl
        have hlt : ¬ nI (t p) < (128 : Int32) := fun h => h128 ((nI_ltI (b := 128) (by omega) (by omega)).mp h)
        have hle : ¬ nI (t p) ≤ (127 : Int32) := fun h => h128 (by have := (nI_leI (b := 127) (by omega) (by omega)).mp h; omega)
        by_cases hp1 : p + 1 < n
        · have htp1 := (hT.2.2.2 (p + 1) hp1).1
          rw [if_pos hp1] at hC2 hM2
          by_cases hh : t (p + 1) < 1 ∨ 127 < t (p + 1)
          · refine ⟨nI a, nI 0, nI (p + 1), nI (p + 1), (nI (p + 1), nI (p + 1), ps.2.2), ?_, ?_, Or.inr ⟨p + 1, p + 1, rfl, rfl, by omega, by omega, Or.inr rfl⟩, fun ⟨q, hq⟩ => absurd hq.2.1 (z_m1 (by omega))⟩
            · rw [Option.bind_some]
              refine (am_iff (decide_eq_false hne)).trans ((am_iff (decide_eq_false hlt)).trans ?_)
              rw [nI_1, hC2, Option.bind_some]
              by_cases hl : t (p + 1) < 1
              · refine (am_ift (decide_eq_true (show nI (t (p + 1)) < (1 : Int32) from (nI_ltI (b := 1) (by omega) (by omega)).mpr hl))).trans ?_
                rw [est]
                exact e79
              · refine (am_iff (decide_eq_false (show ¬ nI (t (p + 1)) < (1 : Int32) from fun h => hl ((nI_ltI (b := 1) (by omega) (by omega)).mp h)))).trans ((am_iff (decide_eq_false (show ¬ nI (t (p + 1)) < (128 : Int32) from fun h => by have := (nI_ltI (b := 128) (by omega) (by omega)).mp h; omega))).trans ?_)
                rw [est]
                exact e79
            · refine (am_ift (decide_eq_true d)).trans ?_
              rw [Option.bind_some]
              refine (am_iff (decide_eq_false hne)).trans ((am_iff (decide_eq_false hle)).trans ?_)
              rw [nI_1, hM2, Option.bind_some, d]
              by_cases hl : t (p + 1) < 1
              · exact (am_ift (decide_eq_true (show nI (t (p + 1)) < (1 : Int32) from (nI_ltI (b := 1) (by omega) (by omega)).mpr hl))).trans e88
              · exact (am_iff (decide_eq_false (show ¬ nI (t (p + 1)) < (1 : Int32) from fun h => hl ((nI_ltI (b := 1) (by omega) (by omega)).mp h)))).trans ((am_iff (decide_eq_false (show ¬ nI (t (p + 1)) ≤ (127 : Int32) from fun h => by have := (nI_leI (b := 127) (by omega) (by omega)).mp h; omega))).trans e88)
          · obtain ⟨v, w, pl, ft, ps', e1, e2, e3⟩ := fin (t p + 128 * (t (p + 1) - 1)) (p + 1 + 1) (by omega) (by omega)
            have hl1 : ¬ nI (t (p + 1)) < (1 : Int32) := fun h => by have := (nI_ltI (b := 1) (by omega) (by omega)).mp h; omega
            have hval : nI (t p) + (128 : Int32) * (nI (t (p + 1)) - (1 : Int32)) = nI (t p + 128 * (t (p + 1) - 1)) := by
              rw [show (1 : Int32) = nI 1 from rfl, show (128 : Int32) = nI 128 from rfl, pk_sub (by omega), pk_mul, nI_add]
            have hval2 : (nI (t p) &&& (127 : Int32)) + (128 : Int32) * nI (t (p + 1)) = nI (t p + 128 * (t (p + 1) - 1)) := by
              rw [hand, show (128 : Int32) = nI 128 from rfl, pk_mul, nI_add, show t p % 128 + 128 * t (p + 1) = t p + 128 * (t (p + 1) - 1) by omega]
            refine ⟨v, w, pl, ft, ps', ?_, ?_, e3⟩
            · rw [Option.bind_some]
              refine (am_iff (decide_eq_false hne)).trans ((am_iff (decide_eq_false hlt)).trans ?_)
              rw [nI_1, hC2, Option.bind_some]
              refine (am_iff (decide_eq_false hl1)).trans ((am_ift (decide_eq_true (show nI (t (p + 1)) < (128 : Int32) from (nI_ltI (b := 128) (by omega) (by omega)).mpr (by omega)))).trans ?_)
              rw [hval, est, nI_1]
              exact e1
            · refine (am_ift (decide_eq_true d)).trans ?_
              rw [Option.bind_some]
              refine (am_iff (decide_eq_false hne)).trans ((am_iff (decide_eq_false hle)).trans ?_)
              rw [nI_1, hM2, Option.bind_some]
              refine (am_iff (decide_eq_false hl1)).trans ((am_ift (decide_eq_true (show nI (t (p + 1)) ≤ (127 : Int32) from (nI_leI (b := 127) (by omega) (by omega)).mpr (by omega)))).trans ?_)
              rw [hval2, nI_1, d]
              exact e2
        · rw [if_neg hp1] at hC2 hM2
          have hm : m1 < (1 : Int32) := by decide
          refine ⟨nI a, nI 0, nI (p + 1), nI (p + 1), (nI (p + 1), nI (p + 1), ps.2.2), ?_, ?_, Or.inr ⟨p + 1, p + 1, rfl, rfl, by omega, by omega, Or.inr rfl⟩, fun ⟨q, hq⟩ => absurd hq.2.1 (z_m1 (by omega))⟩
          · rw [Option.bind_some]
            refine (am_iff (decide_eq_false hne)).trans ((am_iff (decide_eq_false hlt)).trans ?_)
            rw [nI_1, hC2, Option.bind_some]
            refine (am_ift (decide_eq_true hm)).trans ?_
            rw [est]
            exact e79
          · refine (am_ift (decide_eq_true d)).trans ?_
            rw [Option.bind_some]
            refine (am_iff (decide_eq_false hne)).trans ((am_iff (decide_eq_false hle)).trans ?_)
            rw [nI_1, hM2, Option.bind_some, d]
            exact (am_ift (decide_eq_true hm)).trans e88
    · have ef : fn_R_fail (nI p) rd = some (sPF rd (nI p) (nI p)) := by rw [R_fail_ok b', a']
      have em : fn_M_bad (nI p) ps = some (nI p, nI p, ps.2.2) := by rw [M_bad_ok d, c]
      refine ⟨nI a, nI 0, nI p, nI p, (nI p, nI p, ps.2.2), ?_, ?_, Or.inr ⟨p, p, rfl, rfl, by omega, by omega, Or.inr rfl⟩, fun ⟨q, hq⟩ => absurd hq.2.1 (z_m1 (by omega))⟩
      · simp (disch := omega) only [z_lit, z_mm, z_eqm, z_eqm', z_ltm, z_ltm', z_lem, z_lem', nI_leI, nI_ltI, nI_eq, nI_toInt, nI_clamp, nI_add, pk_mul, pk_sub, pk_div, z_rem, z_shr1, z_and1, decide_eq_true_eq, if_pos, if_neg, Option.bind_some, ite_true, ite_false, eq_self, not_false_eq_true, not_true_eq_false, ef]
      · simp (disch := omega) only [z_lit, z_mm, z_eqm, z_eqm', z_ltm, z_ltm', z_lem, z_lem', nI_leI, nI_ltI, nI_eq, nI_toInt, nI_clamp, nI_add, pk_mul, pk_sub, pk_div, z_rem, z_shr1, z_and1, decide_eq_true_eq, if_pos, if_neg, Option.bind_some, ite_true, ite_false, eq_self, not_false_eq_true, not_true_eq_false, d, em]
  · obtain ⟨v, p', hp'⟩ := R_diff_bad (tx := tx) (x1 := x1) (x2 := x2) a' (by omega)
    exact ⟨v, 0, p', nI f, ps, hp', M_diff_bad b' (by omega), Or.inr ⟨f, g', rfl, b', c, d, e⟩, fun ⟨q, hq⟩ => absurd hq.2.1 (z_m1 (by omega))⟩
