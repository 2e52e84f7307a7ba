/-! a latch line's end, side by side -/
def lrT (k : Nat) (mtx : Mtx) (ps : Mps) (nd : Mnd) (nx : Nat → Int32) (us : Mus) : Option (Mps × Mnd × Mus) :=
  if decide (ps.2.1 = (-1 : Int32)) then
    (fn_M_byteAt ps.1 mtx).bind fun q3 =>
    if decide (q3 = (32 : Int32)) then
      (fn_M_number (1 : Int32) mtx (ps.1 + (1 : Int32), ps.2.1, ps.2.2)).bind fun q4 =>
      if decide (0 ≤ (nI k).toInt ∧ (nI k).toInt < (8 : Int)) then
      fn_M_latchRest_60 mtx q4.2 (nd.1, nd.2.1, nd.2.2.1, nd.2.2.2.1, nx, upd (upd nd.2.2.2.2.2.1 k ((0 : Int32))) k q4.1, nd.2.2.2.2.2.2.1, nd.2.2.2.2.2.2.2.1, nd.2.2.2.2.2.2.2.2.1, nd.2.2.2.2.2.2.2.2.2) us
      else none
    else
      fn_M_latchRest_60 mtx ps (nd.1, nd.2.1, nd.2.2.1, nd.2.2.2.1, nx, upd nd.2.2.2.2.2.1 k ((0 : Int32)), nd.2.2.2.2.2.2.1, nd.2.2.2.2.2.2.2.1, nd.2.2.2.2.2.2.2.2.1, nd.2.2.2.2.2.2.2.2.2) us
  else
    fn_M_latchRest_60 mtx ps (nd.1, nd.2.1, nd.2.2.1, nd.2.2.2.1, nx, upd nd.2.2.2.2.2.1 k ((0 : Int32)), nd.2.2.2.2.2.2.1, nd.2.2.2.2.2.2.2.1, nd.2.2.2.2.2.2.2.2.1, nd.2.2.2.2.2.2.2.2.2) us
theorem M_latchRest {k : Nat} {mtx : Mtx} {ps ps' : Mps} {nd : Mnd} {us us' : Mus} {w : Int32} (hk : k < 8) (h : fn_M_literal (nI 1) mtx ps nd us = some (w, ps', us')) : fn_M_latchRest (nI k) mtx ps nd us = lrT k mtx ps' nd (upd nd.2.2.2.2.1 k w) us' := by
  have hin : 0 ≤ (nI k).toInt ∧ (nI k).toInt < (8 : Int) := by rw [nI_toInt (by omega)]; omega
  have h' : fn_M_literal (1 : Int32) mtx ps nd us = some (w, ps', us') := h
  unfold fn_M_latchRest
  rw [h', Option.bind_some, nI_clamp (by omega)]
  exact (am_ift (decide_eq_true hin)).trans (am_ift (decide_eq_true hin))
theorem L_tail {tx : SB} {mtx : Mtx} {t : Nat → Nat} {n k : Nat} {rd : SR} {ps : Mps} {nd : Mnd} {nx : Nat → Int32} {us : Mus} (hT : BR tx mtx t n) (hk : k < 8) (h : SS t n rd ps ∨ Pd t n rd ps) :
    ∃ v pl1 ft1 pl ft ps' bg, fn_R_perhapsFirst tx rd = some (v, sPF rd pl1 ft1) ∧ fn_R_expect (nI 10) tx (sPF rd pl1 ft1) = some (sPF rd pl ft) ∧ lrT k mtx ps nd nx us = some (ps', (nd.1, nd.2.1, nd.2.2.1, nd.2.2.2.1, nx, bg, nd.2.2.2.2.2.2), us) ∧ SS t n (sPF rd pl ft) ps' ∧ (∀ j, j ≠ k → bg j = nd.2.2.2.2.2.1 j) ∧
      ((∃ p', Ok n (sPF rd pl ft) ps' p') → (∃ p, Ok n rd ps p) ∧ ∃ u, v = nI u ∧ bg k = nI u ∧ u ≤ 1) := by
  have h1500 := hT.1
  have hin : 0 ≤ (nI k).toInt ∧ (nI k).toInt < (8 : Int) := by rw [nI_toInt (by omega)]; omega
  -- the class behind a fault
  have cbad : ∀ f, rd.2.2.2.2.2.2.2.2 = nI f → f < 2 ^ 31 → ∃ v pl1, fn_R_perhapsFirst tx rd = some (v, sPF rd pl1 (nI f)) := by
    intro f hf hl
    obtain ⟨y, hy⟩ := B_tot tx rd.2.2.2.2.2.2.2.1
    unfold fn_R_perhapsFirst fn_R_blankAndNumber
    rw [hy, Option.bind_some]
    by_cases h32 : y = (32 : Int32)
    · obtain ⟨p1, e1⟩ := R_expect_bad (tx := tx) (x := (32 : Int32)) hf hl
      obtain ⟨v, p2, e2⟩ := R_number_bad (tx := tx) (rd := sPF rd p1 (nI f)) (x1 := (1 : Int32)) (f := f) rfl hl
      refine ⟨v, p2, (am_ift (decide_eq_true h32)).trans ?_⟩
      rw [e1, Option.bind_some, e2]
      rfl
    · refine ⟨0, rd.2.2.2.2.2.2.2.1, (am_iff (decide_eq_false h32)).trans ?_⟩
      unfold sPF
      rw [← hf]
  -- the reference without a first value
  have rno : ∀ ps', fn_M_take (nI 10) mtx ps = some ps' → (ps.2.1 = (-1 : Int32) → ∃ q3, fn_M_byteAt ps.1 mtx = some q3 ∧ q3 ≠ (32 : Int32)) → lrT k mtx ps nd nx us = some (ps', (nd.1, nd.2.1, nd.2.2.1, nd.2.2.2.1, nx, upd nd.2.2.2.2.2.1 k (nI 0), nd.2.2.2.2.2.2), us) := by
    intro ps' ht hq
    have h60 : ∀ ndx, fn_M_latchRest_60 mtx ps ndx us = some (ps', ndx, us) := fun ndx => by
      unfold fn_M_latchRest_60
      rw [show (10 : Int32) = nI 10 from rfl, ht]
      rfl
    unfold lrT
    by_cases hm : ps.2.1 = (-1 : Int32)
    · obtain ⟨q3, h3, h4⟩ := hq hm
      refine (am_ift (decide_eq_true hm)).trans ?_
      rw [h3, Option.bind_some]
      exact (am_iff (decide_eq_false h4)).trans (h60 _)
    · exact (am_iff (decide_eq_false hm)).trans (h60 _)
  rcases h with (⟨p, ho⟩ | hbd) | hpd
  · obtain ⟨a, b, c, d, e⟩ := id ho
    have hC := B_at hT (k := p) (by omega)
    have hM := M_byteAt hT (k := p) (by omega)
    by_cases h32 : p < n ∧ t p = 32
    · rw [if_pos h32.1, h32.2] at hC hM
      -- a first value stands here
      have ee : fn_R_expect (32 : Int32) tx rd = some (sPF rd (nI (p + 1)) m1) := by
        unfold fn_R_expect
        rw [a, hC, Option.bind_some]
        refine (am_ift (decide_eq_true (show nI 32 = (32 : Int32) from rfl))).trans ?_
        rw [nI_1, b]
        rfl
      have hok1 : Ok n (sPF rd (nI (p + 1)) m1) (nI (p + 1), m1, ps.2.2) (p + 1) := ⟨rfl, rfl, rfl, rfl, h32.1⟩
      obtain ⟨v, w, pl1, ft1, ps1, e1, f1, s1, o1⟩ := L_number (g := 1) (x := nI 1) (y := nI 1) hT (by omega) (fun _ => ⟨rfl, rfl⟩) (Or.inl ⟨p + 1, hok1⟩)
      rw [sPF2] at e1 s1 o1
      obtain ⟨pl, ft, ps', e2, f2, s2, o2⟩ := L_take (b := 10) hT (by omega) (by omega) (s1.imp id And.left)
      rw [sPF2] at e2 s2 o2
      refine ⟨v, pl1, ft1, pl, ft, ps', upd (upd nd.2.2.2.2.2.1 k (nI 0)) k w, ?_, e2, ?_, s2, fun j hj => by rw [pk_un hj, pk_un hj], fun ho' => ?_⟩
      · unfold fn_R_perhapsFirst fn_R_blankAndNumber
        rw [a, hC, Option.bind_some]
        refine (am_ift (decide_eq_true (show nI 32 = (32 : Int32) from rfl))).trans ?_
        rw [ee, Option.bind_some]
        have e1' : fn_R_number (1 : Int32) tx (sPF rd (nI (p + 1)) m1) = some (v, sPF rd pl1 ft1) := e1
        rw [e1']
        rfl
      · unfold lrT
        refine (am_ift (decide_eq_true d)).trans ?_
        rw [c, hM, Option.bind_some]
        refine (am_ift (decide_eq_true (show nI 32 = (32 : Int32) from rfl))).trans ?_
        have f1' : fn_M_number (1 : Int32) mtx (nI p + (1 : Int32), ps.2.1, ps.2.2) = some (w, ps1) := by rw [nI_1, d]; exact f1
        rw [f1', Option.bind_some]
        refine (am_ift (decide_eq_true hin)).trans ?_
        unfold fn_M_latchRest_60
        have f2' : fn_M_take (10 : Int32) mtx (w, ps1).2 = some ps' := f2
        rw [f2']
        rfl
      · obtain ⟨p', u, a1, a2, a3, a4, _⟩ := o1 (o2 ho')
        exact ⟨⟨p, ho⟩, u, a2, by rw [pk_us]; exact a3, a4⟩
    · -- none
      have hne : ¬ (if p < n then nI (t p) else m1) = (32 : Int32) := by
        by_cases hp : p < n
        · rw [if_pos hp]
          have htp := (hT.2.2.2 p hp).1
          exact fun z => h32 ⟨hp, (nI_eq (b := 32) (by omega) (by omega)).mp z⟩
        · rw [if_neg hp]
          decide
      obtain ⟨pl, ft, ps', e2, f2, s2, o2⟩ := L_take (b := 10) hT (by omega) (by omega) (Or.inl (Or.inl ⟨p, ho⟩))
      refine ⟨nI 0, rd.2.2.2.2.2.2.2.1, rd.2.2.2.2.2.2.2.2, pl, ft, ps', _, ?_, e2, rno ps' f2 (fun _ => ⟨_, by rw [c]; exact hM, hne⟩), s2, fun j hj => pk_un hj, fun ho' => ⟨⟨p, ho⟩, 0, rfl, pk_us, by omega⟩⟩
      unfold fn_R_perhapsFirst
      rw [a, hC, Option.bind_some]
      refine (am_iff (decide_eq_false hne)).trans ?_
      rw [← a]
      rfl
  · obtain ⟨f, g, a, b, c, d, e⟩ := id hbd
    obtain ⟨v, pl1, e1⟩ := cbad f a (by omega)
    have hbd2 : Bd t n (sPF rd pl1 (nI f)) ps := ⟨f, g, rfl, b, c, d, e⟩
    obtain ⟨pl, ft, ps', e2, f2, s2, o2⟩ := L_take (b := 10) hT (by omega) (by omega) (Or.inl (Or.inr hbd2))
    rw [sPF2] at e2 s2 o2
    refine ⟨v, pl1, nI f, pl, ft, ps', _, e1, e2, rno ps' f2 (fun hm => absurd (b.symm.trans hm) (z_m1 (by omega))), s2, fun j hj => pk_un hj, fun ho' => ?_⟩
    obtain ⟨z, hz⟩ := o2 ho'
    exact absurd hz.2.1 (z_m1 (by omega))
  · obtain ⟨f, p, q, hz, a, hf, b1, b2, b3, b4, b5⟩ := id hpd
    obtain ⟨v, pl1, e1⟩ := cbad f a (by omega)
    have hpd2 : Pd t n (sPF rd pl1 (nI f)) ps := ⟨f, p, q, hz, rfl, hf, b1, b2, b3, b4, b5⟩
    obtain ⟨pl, ft, ps', e2, f2, s2, o2⟩ := L_take (b := 10) hT (by omega) (by omega) (Or.inr hpd2)
    rw [sPF2] at e2 s2 o2
    have hp := b3.1
    have hM := M_byteAt hT (k := p) (by omega)
    rw [if_pos hp] at hM
    have htp := (hT.2.2.2 p hp).1
    have hd48 := b3.2
    refine ⟨v, pl1, nI f, pl, ft, ps', _, e1, e2, rno ps' f2 (fun _ => ⟨_, by rw [b1]; exact hM, fun z => ?_⟩), s2, fun j hj => pk_un hj, fun ho' => ?_⟩
    · have := (nI_eq (b := 32) (by omega) (by omega)).mp z
      omega
    · obtain ⟨z, hz⟩ := o2 ho'
      exact absurd hz.2.1 (z_m1 (by omega))
theorem rs_o {r : Nat → Nat → Int32} {i0 k i j : Nat} {x : Int32} (h : i ≠ i0 ∨ j ≠ k) : am_rset r i0 k x i j = r i j := by
  by_cases e : i = i0
  · subst e
    rw [rs_s, pk_un (h.resolve_left fun z => z rfl)]
  · rw [rs_n e]
theorem rs_e {r : Nat → Nat → Int32} {i k : Nat} {x : Int32} : am_rset r i k x i k = x := by rw [rs_s, pk_us]
theorem Kx_Kx {K : Nat → Nat} {i0 a b : Nat} : Kx (Kx K i0 a) i0 b = Kx K i0 b := by
  funext i
  unfold Kx
  by_cases e : i = i0
  · rw [if_pos e, if_pos e]
  · rw [if_neg e, if_neg e, if_neg e]
theorem Kx_id {K : Nat → Nat} {i0 : Nat} : Kx K i0 (K i0) = K := by
  funext i
  unfold Kx
  by_cases e : i = i0
  · rw [if_pos e, e]
  · rw [if_neg e]
