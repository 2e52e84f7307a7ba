/-! THE HEADER, side by side -/
theorem sPF2 {rd : SR} {a b c d : Int32} : sPF (sPF rd a b) c d = sPF rd c d := rfl
theorem L_bn {tx : SB} {mtx : Mtx} {t : Nat → Nat} {n g : Nat} {rd : SR} {ps : Mps} (hT : BR tx mtx t n) (hg : g < 1000) (h : SS t n rd ps ∨ Pd t n rd ps) :
    ∃ v w pl ft ps1 ps', fn_R_blankAndNumber (nI g) tx rd = some (v, sPF rd pl ft) ∧ fn_M_take (nI 32) mtx ps = some ps1 ∧ fn_M_number (nI g) mtx ps1 = some (w, ps') ∧ (SS t n (sPF rd pl ft) ps' ∨ (Pd t n (sPF rd pl ft) ps' ∧ w = nI 0)) ∧
      ((∃ p', Ok n (sPF rd pl ft) ps' p') → (∃ p, Ok n rd ps p) ∧ ∃ u, v = nI u ∧ w = nI u ∧ u ≤ g) := by
  obtain ⟨pl1, ft1, ps1, e1, f1, s1, o1⟩ := L_take (b := 32) hT (by omega) (by omega) h
  obtain ⟨v, w, pl, ft, ps', e2, f2, s2, o2⟩ := L_number (rd := sPF rd pl1 ft1) (x := nI g) (y := nI g) hT hg (fun _ => ⟨rfl, rfl⟩) s1
  refine ⟨v, w, pl, ft, ps1, ps', ?_, f1, f2, s2.imp id (fun z => ⟨z.1, z.2.1⟩), fun ho => ?_⟩
  · unfold fn_R_blankAndNumber
    rw [show (32 : Int32) = nI 32 from rfl, e1, Option.bind_some, e2]
    rfl
  · obtain ⟨p, u, a, b, c, d, _⟩ := o2 ho
    exact ⟨o1 ⟨p, a⟩, u, b, c, d⟩
def dd (d : SD) (m : Int32) (c : Nat → Int32) : SD := (d.1, c, d.2.2.1, d.2.2.2.1, m, d.2.2.2.2.2)
theorem C_manyG {d : SD} {i : Nat} (hi : i < 8) : fn_D_many (nI i) d = some (d.2.1 (dk i)) := by
  have : i = 0 ∨ i = 1 ∨ i = 2 ∨ i = 3 ∨ i = 4 ∨ i = 5 ∨ i = 6 ∨ i = 7 := by omega
  rcases this with rfl | rfl | rfl | rfl | rfl | rfl | rfl | rfl <;> rfl
theorem C_setManyT {d : SD} {m x : Int32} {c : Nat → Int32} {i : Nat} (hi : i < 4) : ∃ y, fn_D_setMany (nI i) x (dd d m c) = some (dd d m (upd c i y)) ∧ ∀ k, k ≤ 60 → x = nI k → y = nI k := by
  refine ⟨(if (0 : Int32) < (if (60 : Int32) < x then (60 : Int32) else x) then (if (60 : Int32) < x then (60 : Int32) else x) else (0 : Int32)), ?_, fun k hk hx => ?_⟩
  · have : i = 0 ∨ i = 1 ∨ i = 2 ∨ i = 3 := by omega
    rcases this with rfl | rfl | rfl | rfl <;> rfl
  · subst hx
    by_cases h : k = 0
    · subst h; rfl
    · simp (disch := omega) only [z_lit, z_mm, z_eqm, z_eqm', z_ltm, z_ltm', z_lem, z_lem', nI_leI, nI_ltI, nI_eq, nI_toInt, nI_clamp, nI_add, pk_mul, pk_sub, pk_div, z_rem, z_shr1, z_and1, decide_eq_true_eq, if_pos, if_neg, Option.bind_some, ite_true, ite_false, eq_self, not_false_eq_true, not_true_eq_false]
theorem R_h129_bad {tx : SB} {rd : SR} {x : Int32} {f : Nat} {d : SD} {m : Int32} {c : Nat → Int32} (hf : rd.2.2.2.2.2.2.2.2 = nI f) (h : f < 2 ^ 31) : ∃ pl y, fn_R_header_129 x tx rd (dd d m c) = some (sPF rd pl (nI f), dd d m (upd c 3 y)) := by
  obtain ⟨y, hy, _⟩ := C_setManyT (d := d) (m := m) (x := x) (c := c) (i := 3) (by omega)
  obtain ⟨pl, hpl⟩ := R_expect_bad (tx := tx) (x := nI 10) hf h
  refine ⟨pl, y, ?_⟩
  unfold fn_R_header_129
  rw [show (3 : Int32) = nI 3 from rfl, show (10 : Int32) = nI 10 from rfl, hy, Option.bind_some, hpl]
  rfl
theorem R_h123_bad {tx : SB} {rd : SR} {x4 x : Int32} {f : Nat} {d : SD} {m : Int32} {c : Nat → Int32} (hf : rd.2.2.2.2.2.2.2.2 = nI f) (h : f < 2 ^ 31) : ∃ pl y, fn_R_header_123 x4 x tx rd (dd d m c) = some (sPF rd pl (nI f), dd d m (upd c 3 y)) := by
  unfold fn_R_header_123
  rw [R_fail_bad hf h, Option.bind_some]
  exact R_h129_bad (rd := sPF rd rd.2.2.2.2.2.2.2.1 (nI f)) rfl h
theorem z_room {m i l : Nat} (hm : m < 2 ^ 29) (hi : i < 2 ^ 28) (hl : l < 2 ^ 28) : ((nI m - nI i) - nI l).toInt = (m : Int) - i - l := by
  have e : (nI m - nI i) - nI l = nI m - nI (i + l) := by
    rw [← nI_add]
    exact Int32.toBitVec_inj.mp (by
      show (nI m).toBitVec - (nI i).toBitVec - (nI l).toBitVec = (nI m).toBitVec - ((nI i).toBitVec + (nI l).toBitVec)
      rw [BitVec.sub_sub])
  rw [e, pk_sub_toInt (by omega) (by omega)]
  omega
/-- the part of the reference's header behind the numbers -/
theorem L_hend {tx : SB} {mtx : Mtx} {t : Nat → Nat} {n s : Nat} {rd : SR} {ps : Mps} {v x4 m : Int32} {c : Nat → Int32} {d : SD} {nd : Mnd} (hT : BR tx mtx t n) (hs : s ≤ 1) (h : SS t n rd ps ∨ Pd t n rd ps)
    (hok : (∃ p, Ok n rd ps p) → ∃ M I L A q : Nat, m = nI M ∧ nd.1 = nI M ∧ c 0 = nI I ∧ nd.2.1 0 = nI I ∧ c 1 = nI L ∧ nd.2.1 1 = nI L ∧ v = nI A ∧ nd.2.1 3 = nI A ∧ M ≤ 99 ∧ I ≤ 8 ∧ L ≤ 8 ∧ A ≤ 60 ∧ x4 = nI q ∧ ps.2.2 = nI q ∧ q ≤ 1501) :
    ∃ pl ft y ps', (if decide (((m - c 0) - c 1) < v) then fn_R_header_123 x4 v tx rd (dd d m c)
      else if decide (nI s = 0) then fn_R_header_129 v tx rd (dd d m c)
        else if decide (v = ((m - c 0) - c 1)) then fn_R_header_129 v tx rd (dd d m c) else fn_R_header_123 x4 v tx rd (dd d m c)) = some (sPF rd pl ft, dd d m (upd c 3 y)) ∧
      (if decide (ps.2.1 = (-1 : Int32)) then
        if decide (nI s = 0) then
          if decide (((nd.2.1 0 + nd.2.1 1) + nd.2.1 3) ≤ nd.1) then fn_M_header_144 mtx ps nd else fn_M_header_136 mtx ps nd
        else
          if decide (((nd.2.1 0 + nd.2.1 1) + nd.2.1 3) = nd.1) then fn_M_header_144 mtx ps nd else fn_M_header_136 mtx ps nd
      else fn_M_header_144 mtx ps nd) = some (ps', nd) ∧ SS t n (sPF rd pl ft) ps' ∧
      ((∃ p', Ok n (sPF rd pl ft) ps' p') → (∃ p, Ok n rd ps p) ∧ ∃ M I L A : Nat, m = nI M ∧ c 0 = nI I ∧ c 1 = nI L ∧ v = nI A ∧ y = nI A ∧ M ≤ 99 ∧ I ≤ 8 ∧ L ≤ 8 ∧ A ≤ 60 ∧ (s = 0 → I + L + A ≤ M) ∧ (s = 1 → I + L + A = M)) := by
  have h1500 := hT.1
  -- the class behind a fault
  have cbad : ∀ f, rd.2.2.2.2.2.2.2.2 = nI f → f < 2 ^ 31 → ∃ pl y, (if decide (((m - c 0) - c 1) < v) then fn_R_header_123 x4 v tx rd (dd d m c)
      else if decide (nI s = 0) then fn_R_header_129 v tx rd (dd d m c)
        else if decide (v = ((m - c 0) - c 1)) then fn_R_header_129 v tx rd (dd d m c) else fn_R_header_123 x4 v tx rd (dd d m c)) = some (sPF rd pl (nI f), dd d m (upd c 3 y)) := by
    intro f hf hl
    split
    · exact R_h123_bad hf hl
    · split
      · exact R_h129_bad hf hl
      · split
        · exact R_h129_bad hf hl
        · exact R_h123_bad hf hl
  rcases h with (⟨p, ho⟩ | hbd) | hpd
  · obtain ⟨M, I, L, A, q, rfl, e1, e2, e3, e4, e5, rfl, e6, b1, b2, b3, b4, rfl, e8, b5⟩ := hok ⟨p, ho⟩
    have hroom : ((nI M - c 0) - c 1).toInt = (M : Int) - I - L := by rw [e2, e4]; exact z_room (by omega) (by omega) (by omega)
    have hlt : (((nI M - c 0) - c 1) < nI A) ↔ M < I + L + A := by
      rw [Int32.lt_iff_toInt_lt, hroom, nI_toInt (by omega)]; omega
    have heq : (nI A = ((nI M - c 0) - c 1)) ↔ I + L + A = M := by
      rw [← Int32.toInt_inj, hroom, nI_toInt (by omega)]; omega
    have hsum : ((nd.2.1 0 + nd.2.1 1) + nd.2.1 3) = nI (I + L + A) := by rw [e3, e5, e6, nI_add, nI_add]
    have hMle : (((nd.2.1 0 + nd.2.1 1) + nd.2.1 3) ≤ nd.1) ↔ I + L + A ≤ M := by rw [hsum, e1, nI_leI (by omega) (by omega)]
    have hMeq : (((nd.2.1 0 + nd.2.1 1) + nd.2.1 3) = nd.1) ↔ I + L + A = M := by rw [hsum, e1, nI_eq (by omega) (by omega)]
    have hps : ps.2.1 = (-1 : Int32) := ho.2.2.2.1
    by_cases hgood : (s = 0 → I + L + A ≤ M) ∧ (s = 1 → I + L + A = M)
    · -- good: the line's end
      obtain ⟨pl, ft, ps', e9, f9, s9, o9⟩ := L_take (b := 10) hT (by omega) (by omega) (Or.inl (Or.inl ⟨p, ho⟩))
      obtain ⟨y, hy, hy2⟩ := C_setManyT (d := d) (m := nI M) (x := nI A) (c := c) (i := 3) (by omega)
      have h129 : fn_R_header_129 (nI A) tx rd (dd d (nI M) c) = some (sPF rd pl ft, dd d (nI M) (upd c 3 y)) := by
        unfold fn_R_header_129
        rw [show (3 : Int32) = nI 3 from rfl, show (10 : Int32) = nI 10 from rfl, hy, Option.bind_some, e9]
        rfl
      have h144 : fn_M_header_144 mtx ps nd = some (ps', nd) := by
        unfold fn_M_header_144
        rw [show (10 : Int32) = nI 10 from rfl, f9]
        rfl
      refine ⟨pl, ft, y, ps', ?_, ?_, s9, fun ho' => ⟨o9 ho', M, I, L, A, rfl, e2, e4, rfl, hy2 A b4 rfl, b1, b2, b3, b4, hgood.1, hgood.2⟩⟩
      · have hnl : ¬ (((nI M - c 0) - c 1) < nI A) := fun z => by
          have := hlt.mp z
          by_cases hs0 : s = 0
          · have := hgood.1 hs0; omega
          · have := hgood.2 (by omega); omega
        rw [z_ifn (decide_eq_false hnl)]
        by_cases hs0 : s = 0
        · subst hs0
          exact (am_ift (decide_eq_true (show nI 0 = (0 : Int32) from rfl))).trans h129
        · have hs1 : s = 1 := by omega
          subst hs1
          exact (am_iff (decide_eq_false (show ¬ nI 1 = (0 : Int32) by decide))).trans ((am_ift (decide_eq_true (heq.mpr (hgood.2 rfl)))).trans h129)
      · refine (am_ift (decide_eq_true hps)).trans ?_
        by_cases hs0 : s = 0
        · subst hs0
          exact (am_ift (decide_eq_true (show nI 0 = (0 : Int32) from rfl))).trans ((am_ift (decide_eq_true (hMle.mpr (hgood.1 rfl)))).trans h144)
        · have hs1 : s = 1 := by omega
          subst hs1
          exact (am_iff (decide_eq_false (show ¬ nI 1 = (0 : Int32) by decide))).trans ((am_ift (decide_eq_true (hMeq.mpr (hgood.2 rfl)))).trans h144)
    · -- the number of gates can't be
      obtain ⟨pl, y, h129⟩ := R_h129_bad (tx := tx) (rd := sPF rd rd.2.2.2.2.2.2.2.1 (nI q)) (x := nI A) (d := d) (m := nI M) (c := c) (f := q) rfl (by omega)
      have h123 : fn_R_header_123 (nI q) (nI A) tx rd (dd d (nI M) c) = some (sPF rd pl (nI q), dd d (nI M) (upd c 3 y)) := by
        unfold fn_R_header_123
        rw [R_fail_ok ho.2.1, Option.bind_some]
        exact h129
      have h136 : fn_M_header_136 mtx ps nd = some ((ps.1, nI q, ps.2.2), nd) := by
        unfold fn_M_header_136 fn_M_header_144
        rw [M_bad_ok hps, Option.bind_some, e8, M_take_bad (g := q) rfl (by omega)]
        rfl
      refine ⟨pl, nI q, y, (ps.1, nI q, ps.2.2), ?_, ?_, Or.inr ⟨q, q, rfl, rfl, b5, b5, Or.inr rfl⟩, fun ⟨z, hz⟩ => absurd hz.2.1 (z_m1 (by omega))⟩
      · by_cases hl : (((nI M - c 0) - c 1) < nI A)
        · exact (am_ift (decide_eq_true hl)).trans h123
        · rw [z_ifn (decide_eq_false hl)]
          have hnl : ¬ M < I + L + A := fun z => hl (hlt.mpr z)
          have hs1 : s = 1 := by
            refine Classical.byContradiction fun hx => hgood ⟨fun _ => by omega, fun hh => absurd hh hx⟩
          subst hs1
          have hne : ¬ I + L + A = M := fun z => hgood ⟨fun hh => absurd hh (by omega), fun _ => z⟩
          exact (am_iff (decide_eq_false (show ¬ nI 1 = (0 : Int32) by decide))).trans ((am_iff (decide_eq_false (fun z => hne (heq.mp z)))).trans h123)
      · refine (am_ift (decide_eq_true hps)).trans ?_
        by_cases hs0 : s = 0
        · subst hs0
          have hne : ¬ I + L + A ≤ M := fun z => hgood ⟨fun _ => z, fun hh => absurd hh (by omega)⟩
          exact (am_ift (decide_eq_true (show nI 0 = (0 : Int32) from rfl))).trans ((am_iff (decide_eq_false (fun z => hne (hMle.mp z)))).trans h136)
        · have hs1 : s = 1 := by omega
          subst hs1
          have hne : ¬ I + L + A = M := fun z => hgood ⟨fun hh => absurd hh (by omega), fun _ => z⟩
          exact (am_iff (decide_eq_false (show ¬ nI 1 = (0 : Int32) by decide))).trans ((am_iff (decide_eq_false (fun z => hne (hMeq.mp z)))).trans h136)
  · obtain ⟨f, g, a, b, hf, hg, hE⟩ := hbd
    obtain ⟨pl, y, hC⟩ := cbad f a (by omega)
    refine ⟨pl, nI f, y, ps, hC, ?_, Or.inr ⟨f, g, rfl, b, hf, hg, hE⟩, fun ⟨z, hz⟩ => absurd hz.2.1 (z_m1 (by omega))⟩
    refine (am_iff (decide_eq_false (show ¬ ps.2.1 = (-1 : Int32) from fun z => z_m1 (by omega) (b.symm.trans z)))).trans ?_
    unfold fn_M_header_144
    rw [M_take_bad b (by omega)]
    rfl
  · obtain ⟨f, p, q, hz, a, hf, e1, e2, e3, e4, e5⟩ := id hpd
    obtain ⟨pl, y, hC⟩ := cbad f a (by omega)
    obtain ⟨pl2, ft2, ps2, e9, f9, s9, o9⟩ := L_take (b := 10) hT (by omega) (by omega) (Or.inr hpd)
    have hft : ∃ pl2, fn_R_expect (nI 10) tx rd = some (sPF rd pl2 (nI f)) := R_expect_bad a (by omega)
    obtain ⟨pl3, hft⟩ := hft
    have hpf : sPF rd pl2 ft2 = sPF rd pl3 (nI f) := Option.some.inj (e9.symm.trans hft)
    have h144 : fn_M_header_144 mtx ps nd = some (ps2, nd) := by
      unfold fn_M_header_144
      rw [show (10 : Int32) = nI 10 from rfl, f9]
      rfl
    have h136 : fn_M_header_136 mtx ps nd = some ((ps.1, nI q, ps.2.2), nd) := by
      unfold fn_M_header_136 fn_M_header_144
      rw [M_bad_ok e2, Option.bind_some, e4, M_take_bad (g := q) rfl (by omega)]
      rfl
    have hps : ps.2.1 = (-1 : Int32) := e2
    have hb2 : Bd t n (sPF rd pl (nI f)) ps2 := by
      rcases s9 with ⟨z, hz⟩ | ⟨f', g', a', b', c', d', e'⟩
      · rw [hpf] at hz
        exact absurd hz.2.1 (z_m1 (by omega))
      · rw [hpf] at a'
        have hff : f = f' := (nI_eq (by omega) (by omega)).mp a'
        exact ⟨f, g', rfl, b', hf, d', hff ▸ e'⟩
    have hb3 : Bd t n (sPF rd pl (nI f)) (ps.1, nI q, ps.2.2) := ⟨f, q, rfl, rfl, hf, e5, Or.inl ⟨hz.2.1, hz.2.2, hz.1 ▸ e3⟩⟩
    have fin : ∀ ps', Bd t n (sPF rd pl (nI f)) ps' → (∃ p', Ok n (sPF rd pl (nI f)) ps' p') → False := fun ps' _ ⟨z, hz⟩ => absurd hz.2.1 (z_m1 (by omega))
    by_cases hs0 : s = 0
    · subst hs0
      by_cases hle : ((nd.2.1 0 + nd.2.1 1) + nd.2.1 3) ≤ nd.1
      · exact ⟨pl, nI f, y, ps2, hC, (am_ift (decide_eq_true hps)).trans ((am_ift (decide_eq_true (show nI 0 = (0 : Int32) from rfl))).trans ((am_ift (decide_eq_true hle)).trans h144)), Or.inr hb2, fun ho => (fin _ hb2 ho).elim⟩
      · exact ⟨pl, nI f, y, _, hC, (am_ift (decide_eq_true hps)).trans ((am_ift (decide_eq_true (show nI 0 = (0 : Int32) from rfl))).trans ((am_iff (decide_eq_false hle)).trans h136)), Or.inr hb3, fun ho => (fin _ hb3 ho).elim⟩
    · have hs1 : s = 1 := by omega
      subst hs1
      by_cases hle : ((nd.2.1 0 + nd.2.1 1) + nd.2.1 3) = nd.1
      · exact ⟨pl, nI f, y, ps2, hC, (am_ift (decide_eq_true hps)).trans ((am_iff (decide_eq_false (show ¬ nI 1 = (0 : Int32) by decide))).trans ((am_ift (decide_eq_true hle)).trans h144)), Or.inr hb2, fun ho => (fin _ hb2 ho).elim⟩
      · exact ⟨pl, nI f, y, _, hC, (am_ift (decide_eq_true hps)).trans ((am_iff (decide_eq_false (show ¬ nI 1 = (0 : Int32) by decide))).trans ((am_iff (decide_eq_false hle)).trans h136)), Or.inr hb3, fun ho => (fin _ hb3 ho).elim⟩
