/-! THE CLASS'S order -/
theorem rs_s {r : Nat → Nat → Int32} {i k : Nat} {x : Int32} : am_rset r i k x i = upd (r i) k x := if_pos rfl
theorem rs_n {r : Nat → Nat → Int32} {i j k : Nat} {x : Int32} (h : j ≠ i) : am_rset r i k x j = r j := if_neg h
theorem C_many' {d : SD} {i c : Nat} (hi : i < 8) (h : d.2.1 (dk i) = nI c) : fn_D_many (nI i) d = some (nI c) := by
  have : i = 0 ∨ i = 1 ∨ i = 2 ∨ i = 3 ∨ i = 4 ∨ i = 5 ∨ i = 6 ∨ i = 7 := by omega
  rcases this with rfl | rfl | rfl | rfl | rfl | rfl | rfl | rfl <;> simp only [dk0, dk1, dk2, dk3, dk4, dk5, dk6, dk7] at h <;> unfold fn_D_many <;> simp (disch := omega) only [z_lit, z_mm, z_eqm, z_eqm', z_ltm, z_ltm', z_lem, z_lem', nI_leI, nI_ltI, nI_eq, nI_toInt, nI_clamp, nI_add, pk_mul, pk_sub, pk_div, z_rem, z_shr1, z_and1, decide_eq_true_eq, if_pos, if_neg, Option.bind_some, ite_true, ite_false, eq_self, not_false_eq_true, not_true_eq_false, h]
theorem C_setMany {d : SD} {i c : Nat} (hi : i < 4) (hc : c ≤ 60) : fn_D_setMany (nI i) (nI c) d = some (d.1, upd d.2.1 i (nI c), d.2.2) := by
  unfold fn_D_setMany
  by_cases h : c = 0
  · subst h
    simp (disch := omega) only [z_lit, z_mm, z_eqm, z_eqm', z_ltm, z_ltm', z_lem, z_lem', nI_leI, nI_ltI, nI_eq, nI_toInt, nI_clamp, nI_add, pk_mul, pk_sub, pk_div, z_rem, z_shr1, z_and1, decide_eq_true_eq, if_pos, if_neg, Option.bind_some, ite_true, ite_false, eq_self, not_false_eq_true, not_true_eq_false]
  · simp (disch := omega) only [z_lit, z_mm, z_eqm, z_eqm', z_ltm, z_ltm', z_lem, z_lem', nI_leI, nI_ltI, nI_eq, nI_toInt, nI_clamp, nI_add, pk_mul, pk_sub, pk_div, z_rem, z_shr1, z_and1, decide_eq_true_eq, if_pos, if_neg, Option.bind_some, ite_true, ite_false, eq_self, not_false_eq_true, not_true_eq_false]
theorem C_inSeq {d : SD} {k : Nat} (hk : k < 60) : fn_D_inSequence (nI k) d = some (d.2.2.1 k) := by
  unfold fn_D_inSequence
  simp (disch := omega) only [z_lit, z_mm, z_eqm, z_eqm', z_ltm, z_ltm', z_lem, z_lem', nI_leI, nI_ltI, nI_eq, nI_toInt, nI_clamp, nI_add, pk_mul, pk_sub, pk_div, z_rem, z_shr1, z_and1, decide_eq_true_eq, if_pos, if_neg, Option.bind_some, ite_true, ite_false, eq_self, not_false_eq_true, not_true_eq_false]
theorem C_numberAnew {d e : SD} {D : De} {s : Nat → Nat} (h : CD e D) (hV : Vd D) (hs : Sq D s (D.2.1 3)) (hq : ∀ j, j < D.2.1 3 → e.2.2.1 j = nI (s j)) :
    ∃ f, NM D s f (dn D) ∧ fn_D_numberAnew d e = some (d.1, d.2.1, d.2.2.1, f, nI (dn D), d.2.2.2.2.2) := by
  have hb := hV.1
  have hl := hV.2.1
  obtain ⟨b0, b1, b2, b3, b4⟩ := hb
  have h0 : fn_D_many (nI 0) e = some (nI (D.2.1 0)) := C_many h (by omega)
  have h1 : fn_D_many (nI 1) e = some (nI (D.2.1 1)) := C_many h (by omega)
  have h3 : fn_D_many (nI 3) e = some (nI (D.2.1 3)) := C_many h (by omega)
  have g0 : ∀ k, k < D.2.1 0 → fn_D_get (nI 0) (nI k) e = some (nI (D.2.2 0 k)) := fun k hk => C_getD h hV.1 (by omega) hk
  have g1 : ∀ k, k < D.2.1 1 → fn_D_get (nI 1) (nI k) e = some (nI (D.2.2 1 k)) := fun k hk => C_getD h hV.1 (by omega) hk
  have g3 : ∀ k, k < D.2.1 3 → fn_D_get (nI 3) (nI k) e = some (nI (D.2.2 3 k)) := fun k hk => C_getD h hV.1 (by omega) hk
  have L1 := fun (κ : Int32 → SD → Option SD) (f : Nat → Int32) (hf : NM D s f 0) => z_loop (fun N k (x : Int32 × SD) => fn_D_numberAnew_10 e κ N x.1 (nI k) x.2) (fun x => κ x.1 x.2) (D.2.1 0) (fun k x => x.1 = nI k ∧ ∃ f, x.2 = sMk d f ∧ NM D s f k)
    (fun N k x hk ⟨h1', f, hx, hf⟩ => by
      obtain ⟨x1, x2⟩ := x
      have h1' : x1 = nI k := h1'
      have hx : x2 = sMk d f := hx
      subst h1' hx
      have hlt := hl 0 k (by omega) hk
      have hst := NM_step hV hs (n := k) (by unfold dn; omega) hf
      rw [odv_i hk] at hst
      refine ⟨(nI (k + 1), sMk d (upd f (D.2.2 0 k / 2) (nI (k + 1)))), ⟨rfl, _, rfl, hst⟩, ?_⟩
      show fn_D_numberAnew_10 _ _ (N + 1) _ _ _ = _
      rw [fn_D_numberAnew_10]
      have hg := g0 k hk
      simp (disch := omega) only [z_lit, z_mm, z_eqm, z_eqm', z_ltm, z_ltm', z_lem, z_lem', nI_leI, nI_ltI, nI_eq, nI_toInt, nI_clamp, nI_add, pk_mul, pk_sub, pk_div, z_rem, z_shr1, z_and1, decide_eq_true_eq, if_pos, if_neg, Option.bind_some, ite_true, ite_false, eq_self, not_false_eq_true, not_true_eq_false, h0, hg, C_mark]
      rfl)
    (fun N x ⟨h1', f, hx, hf⟩ => by
      show fn_D_numberAnew_10 _ _ (N + 1) _ _ _ = _
      rw [fn_D_numberAnew_10]
      simp (disch := omega) only [z_lit, z_mm, z_eqm, z_eqm', z_ltm, z_ltm', z_lem, z_lem', nI_leI, nI_ltI, nI_eq, nI_toInt, nI_clamp, nI_add, pk_mul, pk_sub, pk_div, z_rem, z_shr1, z_and1, decide_eq_true_eq, if_pos, if_neg, Option.bind_some, ite_true, ite_false, eq_self, not_false_eq_true, not_true_eq_false, h0]) (N := am_NF) (k := 0) (s := (nI 0, sMk d f)) (by omega) (by rw [z_NF]; omega) ⟨rfl, f, rfl, hf⟩
  have L2 := fun (κ : Int32 → SD → Option SD) (f : Nat → Int32) (hf : NM D s f (D.2.1 0)) => z_loop (fun N k (x : Int32 × SD) => fn_D_numberAnew_41 e κ N x.1 (nI k) x.2) (fun x => κ x.1 x.2) (D.2.1 1) (fun k x => x.1 = nI (D.2.1 0 + k) ∧ ∃ f, x.2 = sMk d f ∧ NM D s f (D.2.1 0 + k))
    (fun N k x hk ⟨h1', f, hx, hf⟩ => by
      obtain ⟨x1, x2⟩ := x
      have h1' : x1 = nI (D.2.1 0 + k) := h1'
      have hx : x2 = sMk d f := hx
      subst h1' hx
      have hlt := hl 1 k (by omega) hk
      have hst := NM_step hV hs (n := D.2.1 0 + k) (by unfold dn; omega) hf
      rw [odv_l hk] at hst
      refine ⟨(nI (D.2.1 0 + k + 1), sMk d (upd f (D.2.2 1 k / 2) (nI (D.2.1 0 + k + 1)))), ⟨rfl, _, rfl, hst⟩, ?_⟩
      show fn_D_numberAnew_41 _ _ (N + 1) _ _ _ = _
      rw [fn_D_numberAnew_41]
      have hg := g1 k hk
      simp (disch := omega) only [z_lit, z_mm, z_eqm, z_eqm', z_ltm, z_ltm', z_lem, z_lem', nI_leI, nI_ltI, nI_eq, nI_toInt, nI_clamp, nI_add, pk_mul, pk_sub, pk_div, z_rem, z_shr1, z_and1, decide_eq_true_eq, if_pos, if_neg, Option.bind_some, ite_true, ite_false, eq_self, not_false_eq_true, not_true_eq_false, h1, hg, C_mark]
      rfl)
    (fun N x ⟨h1', f, hx, hf⟩ => by
      show fn_D_numberAnew_41 _ _ (N + 1) _ _ _ = _
      rw [fn_D_numberAnew_41]
      simp (disch := omega) only [z_lit, z_mm, z_eqm, z_eqm', z_ltm, z_ltm', z_lem, z_lem', nI_leI, nI_ltI, nI_eq, nI_toInt, nI_clamp, nI_add, pk_mul, pk_sub, pk_div, z_rem, z_shr1, z_and1, decide_eq_true_eq, if_pos, if_neg, Option.bind_some, ite_true, ite_false, eq_self, not_false_eq_true, not_true_eq_false, h1]) (N := am_NF) (k := 0) (s := (nI (D.2.1 0), sMk d f)) (by omega) (by rw [z_NF]; omega) ⟨rfl, f, rfl, hf⟩
  have L3 := fun (κ : Int32 → SD → Option SD) (f : Nat → Int32) (hf : NM D s f (D.2.1 0 + D.2.1 1)) => z_loop (fun N k (x : Int32 × SD) => fn_D_numberAnew_72 e κ N x.1 (nI k) x.2) (fun x => κ x.1 x.2) (D.2.1 3) (fun k x => x.1 = nI (D.2.1 0 + D.2.1 1 + k) ∧ ∃ f, x.2 = sMk d f ∧ NM D s f (D.2.1 0 + D.2.1 1 + k))
    (fun N k x hk ⟨h1', f, hx, hf⟩ => by
      obtain ⟨x1, x2⟩ := x
      have h1' : x1 = nI (D.2.1 0 + D.2.1 1 + k) := h1'
      have hx : x2 = sMk d f := hx
      subst h1' hx
      have hsk := (hs k hk).1
      have hlt := hl 3 (s k) (by omega) hsk
      have hst := NM_step hV hs (n := D.2.1 0 + D.2.1 1 + k) (by unfold dn; omega) hf
      rw [odv_g] at hst
      refine ⟨(nI (D.2.1 0 + D.2.1 1 + k + 1), sMk d (upd f (D.2.2 3 (s k) / 2) (nI (D.2.1 0 + D.2.1 1 + k + 1)))), ⟨rfl, _, rfl, hst⟩, ?_⟩
      show fn_D_numberAnew_72 _ _ (N + 1) _ _ _ = _
      rw [fn_D_numberAnew_72]
      have hg := g3 (s k) hsk
      have hqk := hq k hk
      simp (disch := omega) only [z_lit, z_mm, z_eqm, z_eqm', z_ltm, z_ltm', z_lem, z_lem', nI_leI, nI_ltI, nI_eq, nI_toInt, nI_clamp, nI_add, pk_mul, pk_sub, pk_div, z_rem, z_shr1, z_and1, decide_eq_true_eq, if_pos, if_neg, Option.bind_some, ite_true, ite_false, eq_self, not_false_eq_true, not_true_eq_false, h3, hg, C_mark, C_inSeq, hqk]
      rfl)
    (fun N x ⟨h1', f, hx, hf⟩ => by
      show fn_D_numberAnew_72 _ _ (N + 1) _ _ _ = _
      rw [fn_D_numberAnew_72]
      simp (disch := omega) only [z_lit, z_mm, z_eqm, z_eqm', z_ltm, z_ltm', z_lem, z_lem', nI_leI, nI_ltI, nI_eq, nI_toInt, nI_clamp, nI_add, pk_mul, pk_sub, pk_div, z_rem, z_shr1, z_and1, decide_eq_true_eq, if_pos, if_neg, Option.bind_some, ite_true, ite_false, eq_self, not_false_eq_true, not_true_eq_false, h3]) (N := am_NF) (k := 0) (s := (nI (D.2.1 0 + D.2.1 1), sMk d f)) (by omega) (by rw [z_NF]; omega) ⟨rfl, f, rfl, hf⟩
  unfold fn_D_numberAnew
  simp (disch := omega) only [z_lit, z_mm, z_eqm, z_eqm', z_ltm, z_ltm', z_lem, z_lem', nI_leI, nI_ltI, nI_eq, nI_toInt, nI_clamp, nI_add, pk_mul, pk_sub, pk_div, z_rem, z_shr1, z_and1, decide_eq_true_eq, if_pos, if_neg, Option.bind_some, ite_true, ite_false, eq_self, not_false_eq_true, not_true_eq_false, C_mark]
  obtain ⟨x1, ⟨a1, f1, c1, d1⟩, e1⟩ := L1 (fun x2_13 d_13 =>
    fn_D_numberAnew_41 e (fun x2_14 d_14 =>
      fn_D_numberAnew_72 e (fun x2_15 d_15 =>
        some (d_15.1, d_15.2.1, d_15.2.2.1, d_15.2.2.2.1, x2_15, d_15.2.2.2.2.2)) am_NF x2_14 (nI 0) d_14) am_NF x2_13 (nI 0) d_13) (upd d.2.2.2.1 (0 / 2) (nI 0)) ⟨pk_us, fun i hi => absurd hi (by omega)⟩
  obtain ⟨x2, ⟨a2, f2, c2, d2⟩, e2⟩ := L2 (fun x2_14 d_14 =>
      fn_D_numberAnew_72 e (fun x2_15 d_15 =>
        some (d_15.1, d_15.2.1, d_15.2.2.1, d_15.2.2.2.1, x2_15, d_15.2.2.2.2.2)) am_NF x2_14 (nI 0) d_14) f1 d1
  obtain ⟨x3, ⟨a3, f3, c3, d3⟩, e3⟩ := L3 (fun x2_15 d_15 =>
        some (d_15.1, d_15.2.1, d_15.2.2.1, d_15.2.2.2.1, x2_15, d_15.2.2.2.2.2)) f2 d2
  refine ⟨f3, d3, ?_⟩
  refine e1.trans ?_
  rw [a1, c1]
  refine e2.trans ?_
  rw [a2, c2]
  refine e3.trans ?_
  rw [a3, c3]
  rfl
/-- marks that hold every defined one's new number -/
def MF (D : De) (s : Nat → Nat) (f : Nat → Int32) : Prop := ∀ v, isDef D v → f v = nI (nv D s v)
theorem C_renumbered {D : De} {s : Nat → Nat} {d : SD} {u : Nat} (hf : MF D s d.2.2.2.1) (hb : Vb D) (hu : isDef D (u / 2)) (h : u < 200) : fn_D_renumbered (nI u) d = some (nI (rn D s u)) := by
  unfold fn_D_renumbered
  have h1 := hf _ hu
  have h2 := dn_76 hb
  have h3 := nv_le (D := D) (s := s) (v := u / 2)
  simp (disch := omega) only [z_lit, z_mm, z_eqm, z_eqm', z_ltm, z_ltm', z_lem, z_lem', nI_leI, nI_ltI, nI_eq, nI_toInt, nI_clamp, nI_add, pk_mul, pk_sub, pk_div, z_rem, z_shr1, z_and1, decide_eq_true_eq, if_pos, if_neg, Option.bind_some, ite_true, ite_false, eq_self, not_false_eq_true, not_true_eq_false, C_markOf, h1]
  rfl
theorem C_copyIO {e : SD} {D : De} {s : Nat → Nat} {r : Nat → Nat → Int32} {c : Nat → Int32} {t : (Nat → Int32) × (Nat → Int32) × Int32 × Int32} (h : CD e D) (hV : Vd D) (hf : MF D s t.2.1) :
    ∃ r', (∀ j, j < D.2.1 0 → r' 0 j = nI (rn D s (D.2.2 0 j))) ∧ (∀ j, j < D.2.1 2 → r' 2 j = nI (rn D s (D.2.2 2 j))) ∧ fn_D_copyInputsAndOutputs (r, c, t) e = some (r', upd (upd c 0 (nI (D.2.1 0))) 2 (nI (D.2.1 2)), t) := by
  have hb := hV.1
  have hl := hV.2.1
  obtain ⟨b0, b1, b2, b3, b4⟩ := id hb
  have h0 : fn_D_many (nI 0) e = some (nI (D.2.1 0)) := C_many h (by omega)
  have h2 : fn_D_many (nI 2) e = some (nI (D.2.1 2)) := C_many h (by omega)
  have L1 := fun (κ : SD → Option SD) (r : Nat → Nat → Int32) (c : Nat → Int32) (hc : c 0 = nI (D.2.1 0)) => z_loop (fun N k (x : SD) => fn_D_copyInputsAndOutputs_12 e κ N (nI k) x) κ (D.2.1 0) (fun k x => ∃ r', x = (r', c, t) ∧ (∀ j, j < k → r' 0 j = nI (rn D s (D.2.2 0 j))))
    (fun N k x hk ⟨r', hx, hr⟩ => by
      subst hx
      have hlt := hl 0 k (by omega) hk
      refine ⟨(am_rset r' 0 k (nI (rn D s (D.2.2 0 k))), c, t), ⟨_, rfl, fun j hj => ?_⟩, ?_⟩
      · rw [rs_s]
        by_cases e : j = k
        · subst e; rw [pk_us]
        · rw [pk_un e]; exact hr j (by omega)
      · show fn_D_copyInputsAndOutputs_12 _ _ (N + 1) _ _ = _
        rw [fn_D_copyInputsAndOutputs_12]
        have hm : fn_D_many (nI 0) (r', c, t) = some (nI (D.2.1 0)) := C_many' (by omega) hc
        have hg : fn_D_get (nI 0) (nI k) e = some (nI (D.2.2 0 k)) := C_getD h hb (by omega) hk
        have hrn : fn_D_renumbered (nI (D.2.2 0 k)) (r', c, t) = some (nI (rn D s (D.2.2 0 k))) := C_renumbered hf hb (isDef_i hk) hlt
        simp (disch := omega) only [z_lit, z_mm, z_eqm, z_eqm', z_ltm, z_ltm', z_lem, z_lem', nI_leI, nI_ltI, nI_eq, nI_toInt, nI_clamp, nI_add, pk_mul, pk_sub, pk_div, z_rem, z_shr1, z_and1, decide_eq_true_eq, if_pos, if_neg, Option.bind_some, ite_true, ite_false, eq_self, not_false_eq_true, not_true_eq_false, hm, hg, hrn, C_set])
    (fun N x ⟨r', hx, hr⟩ => by
      subst hx
      have hm : fn_D_many (nI 0) (r', c, t) = some (nI (D.2.1 0)) := C_many' (by omega) hc
      show fn_D_copyInputsAndOutputs_12 _ _ (N + 1) _ _ = _
      rw [fn_D_copyInputsAndOutputs_12]
      simp (disch := omega) only [z_lit, z_mm, z_eqm, z_eqm', z_ltm, z_ltm', z_lem, z_lem', nI_leI, nI_ltI, nI_eq, nI_toInt, nI_clamp, nI_add, pk_mul, pk_sub, pk_div, z_rem, z_shr1, z_and1, decide_eq_true_eq, if_pos, if_neg, Option.bind_some, ite_true, ite_false, eq_self, not_false_eq_true, not_true_eq_false, hm]) (N := am_NF) (k := 0) (s := (r, c, t)) (by omega) (by rw [z_NF]; omega) ⟨r, rfl, fun j hj => absurd hj (by omega)⟩
  have L2 := fun (κ : SD → Option SD) (r : Nat → Nat → Int32) (c : Nat → Int32) (hc : c 2 = nI (D.2.1 2)) => z_loop (fun N k (x : SD) => fn_D_copyInputsAndOutputs_55 e κ N (nI k) x) κ (D.2.1 2) (fun k x => ∃ r', x = (r', c, t) ∧ (∀ j, j < k → r' 2 j = nI (rn D s (D.2.2 2 j))) ∧ r' 0 = r 0)
    (fun N k x hk ⟨r', hx, hr, h00⟩ => by
      subst hx
      have hlt := hl 2 k (by omega) hk
      refine ⟨(am_rset r' 2 k (nI (rn D s (D.2.2 2 k))), c, t), ⟨_, rfl, fun j hj => ?_, (rs_n (by omega)).trans h00⟩, ?_⟩
      · rw [rs_s]
        by_cases e : j = k
        · subst e; rw [pk_us]
        · rw [pk_un e]; exact hr j (by omega)
      · show fn_D_copyInputsAndOutputs_55 _ _ (N + 1) _ _ = _
        rw [fn_D_copyInputsAndOutputs_55]
        have hm : fn_D_many (nI 2) (r', c, t) = some (nI (D.2.1 2)) := C_many' (by omega) hc
        have hg : fn_D_get (nI 2) (nI k) e = some (nI (D.2.2 2 k)) := C_getD h hb (by omega) hk
        have hrn : fn_D_renumbered (nI (D.2.2 2 k)) (r', c, t) = some (nI (rn D s (D.2.2 2 k))) := C_renumbered hf hb (hV.2.2.2.2.2.1 2 k (by omega) hk) hlt
        simp (disch := omega) only [z_lit, z_mm, z_eqm, z_eqm', z_ltm, z_ltm', z_lem, z_lem', nI_leI, nI_ltI, nI_eq, nI_toInt, nI_clamp, nI_add, pk_mul, pk_sub, pk_div, z_rem, z_shr1, z_and1, decide_eq_true_eq, if_pos, if_neg, Option.bind_some, ite_true, ite_false, eq_self, not_false_eq_true, not_true_eq_false, hm, hg, hrn, C_set])
    (fun N x ⟨r', hx, hr⟩ => by
      subst hx
      have hm : fn_D_many (nI 2) (r', c, t) = some (nI (D.2.1 2)) := C_many' (by omega) hc
      show fn_D_copyInputsAndOutputs_55 _ _ (N + 1) _ _ = _
      rw [fn_D_copyInputsAndOutputs_55]
      simp (disch := omega) only [z_lit, z_mm, z_eqm, z_eqm', z_ltm, z_ltm', z_lem, z_lem', nI_leI, nI_ltI, nI_eq, nI_toInt, nI_clamp, nI_add, pk_mul, pk_sub, pk_div, z_rem, z_shr1, z_and1, decide_eq_true_eq, if_pos, if_neg, Option.bind_some, ite_true, ite_false, eq_self, not_false_eq_true, not_true_eq_false, hm]) (N := am_NF) (k := 0) (s := (r, c, t)) (by omega) (by rw [z_NF]; omega) ⟨r, rfl, fun j hj => absurd hj (by omega), rfl⟩
  unfold fn_D_copyInputsAndOutputs
  simp (disch := omega) only [z_lit, z_mm, z_eqm, z_eqm', z_ltm, z_ltm', z_lem, z_lem', nI_leI, nI_ltI, nI_eq, nI_toInt, nI_clamp, nI_add, pk_mul, pk_sub, pk_div, z_rem, z_shr1, z_and1, decide_eq_true_eq, if_pos, if_neg, Option.bind_some, ite_true, ite_false, eq_self, not_false_eq_true, not_true_eq_false, h0, C_setMany]
  obtain ⟨x1, ⟨r1, c1, d1⟩, e1⟩ := L1 (fun d_12 =>
    (some (nI (D.2.1 2))).bind fun q12 =>
    (fn_D_setMany (nI 2) q12 d_12).bind fun q13 =>
    fn_D_copyInputsAndOutputs_55 e (fun d_15 =>
      some d_15) am_NF (nI 0) q13) r (upd c 0 (nI (D.2.1 0))) pk_us
  obtain ⟨x2, ⟨r2, c2, d2, f2⟩, e2⟩ := L2 (fun d => some d) r1 (upd (upd c 0 (nI (D.2.1 0))) 2 (nI (D.2.1 2))) pk_us
  refine ⟨r2, fun j hj => by rw [f2]; exact d1 j hj, d2, ?_⟩
  rw [h2]
  refine e1.trans ?_
  rw [c1]
  simp (disch := omega) only [z_lit, z_mm, z_eqm, z_eqm', z_ltm, z_ltm', z_lem, z_lem', nI_leI, nI_ltI, nI_eq, nI_toInt, nI_clamp, nI_add, pk_mul, pk_sub, pk_div, z_rem, z_shr1, z_and1, decide_eq_true_eq, if_pos, if_neg, Option.bind_some, ite_true, ite_false, eq_self, not_false_eq_true, not_true_eq_false, C_setMany]
  refine e2.trans ?_
  rw [c2]
theorem C_copyL {e : SD} {D : De} {s : Nat → Nat} {r : Nat → Nat → Int32} {c : Nat → Int32} {t : (Nat → Int32) × (Nat → Int32) × Int32 × Int32} (h : CD e D) (hV : Vd D) (hf : MF D s t.2.1) :
    ∃ r', (∀ j, j < D.2.1 1 → r' 1 j = nI (rn D s (D.2.2 1 j))) ∧ (∀ j, j < D.2.1 1 → r' 4 j = nI (rn D s (D.2.2 4 j))) ∧ (∀ j, j < D.2.1 1 → r' 5 j = nI (D.2.2 5 j)) ∧ r' 0 = r 0 ∧ r' 2 = r 2 ∧ fn_D_copyLatches (r, c, t) e = some (r', upd c 1 (nI (D.2.1 1)), t) := by
  have hb := hV.1
  have hl := hV.2.1
  obtain ⟨b0, b1, b2, b3, b4⟩ := id hb
  have h1 : fn_D_many (nI 1) e = some (nI (D.2.1 1)) := C_many h (by omega)
  obtain ⟨x1, ⟨r1, c1, d1, d4, d5, e0, e2⟩, e1⟩ := z_loop (fun N k (x : SD) => fn_D_copyLatches_12 e (fun d => some d) N (nI k) x) (fun d => some d) (D.2.1 1) (fun k x => ∃ r', x = (r', upd c 1 (nI (D.2.1 1)), t) ∧ (∀ j, j < k → r' 1 j = nI (rn D s (D.2.2 1 j))) ∧ (∀ j, j < k → r' 4 j = nI (rn D s (D.2.2 4 j))) ∧ (∀ j, j < k → r' 5 j = nI (D.2.2 5 j)) ∧ r' 0 = r 0 ∧ r' 2 = r 2)
    (fun N k x hk ⟨r', hx, hr1, hr4, hr5, h00, h02⟩ => by
      subst hx
      have hlt1 := hl 1 k (by omega) hk
      have hlt4 := hl 4 k (by omega) hk
      refine ⟨(am_rset (am_rset (am_rset r' 1 k (nI (rn D s (D.2.2 1 k)))) 4 k (nI (rn D s (D.2.2 4 k)))) 5 k (nI (D.2.2 5 k)), upd c 1 (nI (D.2.1 1)), t), ⟨_, rfl, fun j hj => ?_, fun j hj => ?_, fun j hj => ?_, ?_, ?_⟩, ?_⟩
      · rw [rs_n (by omega), rs_n (by omega), rs_s]
        by_cases e : j = k
        · subst e; rw [pk_us]
        · rw [pk_un e]; exact hr1 j (by omega)
      · rw [rs_n (by omega), rs_s, rs_n (by omega)]
        by_cases e : j = k
        · subst e; rw [pk_us]
        · rw [pk_un e]; exact hr4 j (by omega)
      · rw [rs_s, rs_n (by omega), rs_n (by omega)]
        by_cases e : j = k
        · subst e; rw [pk_us]
        · rw [pk_un e]; exact hr5 j (by omega)
      · rw [rs_n (by omega), rs_n (by omega), rs_n (by omega)]; exact h00
      · rw [rs_n (by omega), rs_n (by omega), rs_n (by omega)]; exact h02
      · show fn_D_copyLatches_12 _ _ (N + 1) _ _ = _
        rw [fn_D_copyLatches_12]
        have hm : fn_D_many (nI 1) (r', upd c 1 (nI (D.2.1 1)), t) = some (nI (D.2.1 1)) := C_many' (by omega) (show upd c 1 (nI (D.2.1 1)) 1 = _ from pk_us)
        have hg1 : fn_D_get (nI 1) (nI k) e = some (nI (D.2.2 1 k)) := C_getD h hb (by omega) hk
        have hg4 : fn_D_get (nI 4) (nI k) e = some (nI (D.2.2 4 k)) := C_getD h hb (by omega) hk
        have hg5 : fn_D_get (nI 5) (nI k) e = some (nI (D.2.2 5 k)) := C_getD h hb (by omega) hk
        have hrn1 : ∀ r', fn_D_renumbered (nI (D.2.2 1 k)) (r', upd c 1 (nI (D.2.1 1)), t) = some (nI (rn D s (D.2.2 1 k))) := fun r' => C_renumbered hf hb (isDef_l hk) hlt1
        have hrn4 : ∀ r', fn_D_renumbered (nI (D.2.2 4 k)) (r', upd c 1 (nI (D.2.1 1)), t) = some (nI (rn D s (D.2.2 4 k))) := fun r' => C_renumbered hf hb (hV.2.2.2.2.2.1 4 k (by omega) hk) hlt4
        simp (disch := omega) only [z_lit, z_mm, z_eqm, z_eqm', z_ltm, z_ltm', z_lem, z_lem', nI_leI, nI_ltI, nI_eq, nI_toInt, nI_clamp, nI_add, pk_mul, pk_sub, pk_div, z_rem, z_shr1, z_and1, decide_eq_true_eq, if_pos, if_neg, Option.bind_some, ite_true, ite_false, eq_self, not_false_eq_true, not_true_eq_false, hm, hg1, hg4, hg5, hrn1, hrn4, C_set])
    (fun N x ⟨r', hx, hr⟩ => by
      subst hx
      have hm : fn_D_many (nI 1) (r', upd c 1 (nI (D.2.1 1)), t) = some (nI (D.2.1 1)) := C_many' (by omega) (show upd c 1 (nI (D.2.1 1)) 1 = _ from pk_us)
      show fn_D_copyLatches_12 _ _ (N + 1) _ _ = _
      rw [fn_D_copyLatches_12]
      simp (disch := omega) only [z_lit, z_mm, z_eqm, z_eqm', z_ltm, z_ltm', z_lem, z_lem', nI_leI, nI_ltI, nI_eq, nI_toInt, nI_clamp, nI_add, pk_mul, pk_sub, pk_div, z_rem, z_shr1, z_and1, decide_eq_true_eq, if_pos, if_neg, Option.bind_some, ite_true, ite_false, eq_self, not_false_eq_true, not_true_eq_false, hm]) (N := am_NF) (k := 0) (s := (r, upd c 1 (nI (D.2.1 1)), t)) (by omega) (by rw [z_NF]; omega) ⟨r, rfl, fun j hj => absurd hj (by omega), fun j hj => absurd hj (by omega), fun j hj => absurd hj (by omega), rfl, rfl⟩
  refine ⟨r1, d1, d4, d5, e0, e2, ?_⟩
  unfold fn_D_copyLatches
  simp (disch := omega) only [z_lit, z_mm, z_eqm, z_eqm', z_ltm, z_ltm', z_lem, z_lem', nI_leI, nI_ltI, nI_eq, nI_toInt, nI_clamp, nI_add, pk_mul, pk_sub, pk_div, z_rem, z_shr1, z_and1, decide_eq_true_eq, if_pos, if_neg, Option.bind_some, ite_true, ite_false, eq_self, not_false_eq_true, not_true_eq_false, h1, C_setMany]
  rw [← c1]
  exact e1
theorem C_copyG {e : SD} {D : De} {s : Nat → Nat} {r : Nat → Nat → Int32} {c : Nat → Int32} {t : (Nat → Int32) × (Nat → Int32) × Int32 × Int32} (h : CD e D) (hV : Vd D) (hf : MF D s t.2.1) (hs : Sq D s (D.2.1 3)) (hq : ∀ j, j < D.2.1 3 → e.2.2.1 j = nI (s j)) :
    ∃ r', (∀ j, j < D.2.1 3 → r' 3 j = nI ((newD D s).2.2 3 j)) ∧ (∀ j, j < D.2.1 3 → r' 6 j = nI ((newD D s).2.2 6 j)) ∧ (∀ j, j < D.2.1 3 → r' 7 j = nI ((newD D s).2.2 7 j)) ∧ (r' 0 = r 0 ∧ r' 1 = r 1 ∧ r' 2 = r 2 ∧ r' 4 = r 4 ∧ r' 5 = r 5) ∧ fn_D_copyGates (r, c, t) e = some (r', upd c 3 (nI (D.2.1 3)), t) := by
  have hb := hV.1
  have hl := hV.2.1
  obtain ⟨b0, b1, b2, b3, b4⟩ := id hb
  have h3 : fn_D_many (nI 3) e = some (nI (D.2.1 3)) := C_many h (by omega)
  have hr200 : ∀ u, rn D s u < 200 := rn_lt hb
  obtain ⟨x1, ⟨r1, c1, d1, d4, d5, e0⟩, e1⟩ := z_loop (fun N k (x : SD) => fn_D_copyGates_12 e (fun d => some d) N (nI k) x) (fun d => some d) (D.2.1 3) (fun k x => ∃ r', x = (r', upd c 3 (nI (D.2.1 3)), t) ∧ (∀ j, j < k → r' 3 j = nI ((newD D s).2.2 3 j)) ∧ (∀ j, j < k → r' 6 j = nI ((newD D s).2.2 6 j)) ∧ (∀ j, j < k → r' 7 j = nI ((newD D s).2.2 7 j)) ∧ (r' 0 = r 0 ∧ r' 1 = r 1 ∧ r' 2 = r 2 ∧ r' 4 = r 4 ∧ r' 5 = r 5))
    (fun N k x hk ⟨r', hx, hr1, hr4, hr5, h00, h01, h02, h04, h05⟩ => by
      subst hx
      have hsk := (hs k hk).1
      have hlt3 := hl 3 (s k) (by omega) hsk
      have hlt6 := hl 6 (s k) (by omega) hsk
      have hlt7 := hl 7 (s k) (by omega) hsk
      have ha := hr200 (D.2.2 6 (s k))
      have hb' := hr200 (D.2.2 7 (s k))
      have i6 : (if nI (rn D s (D.2.2 6 (s k))) < nI (rn D s (D.2.2 7 (s k))) then nI (rn D s (D.2.2 7 (s k))) else nI (rn D s (D.2.2 6 (s k)))) = nI ((newD D s).2.2 6 k) := by
        rw [newD_6]
        by_cases hlt : rn D s (D.2.2 6 (s k)) < rn D s (D.2.2 7 (s k))
        · rw [if_pos hlt, if_pos ((nI_ltI (by omega) (by omega)).mpr hlt)]
        · rw [if_neg hlt, if_neg (fun z => hlt ((nI_ltI (by omega) (by omega)).mp z))]
      have i7 : (if nI (rn D s (D.2.2 7 (s k))) < nI (rn D s (D.2.2 6 (s k))) then nI (rn D s (D.2.2 7 (s k))) else nI (rn D s (D.2.2 6 (s k)))) = nI ((newD D s).2.2 7 k) := by
        rw [newD_7]
        by_cases hlt : rn D s (D.2.2 7 (s k)) < rn D s (D.2.2 6 (s k))
        · rw [if_pos hlt, if_pos ((nI_ltI (by omega) (by omega)).mpr hlt)]
        · rw [if_neg hlt, if_neg (fun z => hlt ((nI_ltI (by omega) (by omega)).mp z))]
      refine ⟨(am_rset (am_rset (am_rset r' 3 k (nI ((newD D s).2.2 3 k))) 6 k (nI ((newD D s).2.2 6 k))) 7 k (nI ((newD D s).2.2 7 k)), upd c 3 (nI (D.2.1 3)), t), ⟨_, rfl, fun j hj => ?_, fun j hj => ?_, fun j hj => ?_, ?_, ?_, ?_, ?_, ?_⟩, ?_⟩
      · rw [rs_n (by omega), rs_n (by omega), rs_s]
        by_cases e : j = k
        · subst e; rw [pk_us]
        · rw [pk_un e]; exact hr1 j (by omega)
      · rw [rs_n (by omega), rs_s, rs_n (by omega)]
        by_cases e : j = k
        · subst e; rw [pk_us]
        · rw [pk_un e]; exact hr4 j (by omega)
      · rw [rs_s, rs_n (by omega), rs_n (by omega)]
        by_cases e : j = k
        · subst e; rw [pk_us]
        · rw [pk_un e]; exact hr5 j (by omega)
      · rw [rs_n (by omega), rs_n (by omega), rs_n (by omega)]; exact h00
      · rw [rs_n (by omega), rs_n (by omega), rs_n (by omega)]; exact h01
      · rw [rs_n (by omega), rs_n (by omega), rs_n (by omega)]; exact h02
      · rw [rs_n (by omega), rs_n (by omega), rs_n (by omega)]; exact h04
      · rw [rs_n (by omega), rs_n (by omega), rs_n (by omega)]; exact h05
      · show fn_D_copyGates_12 _ _ (N + 1) _ _ = _
        rw [fn_D_copyGates_12]
        have hm : fn_D_many (nI 3) (r', upd c 3 (nI (D.2.1 3)), t) = some (nI (D.2.1 3)) := C_many' (by omega) (show upd c 3 (nI (D.2.1 3)) 3 = _ from pk_us)
        have hg3 : fn_D_get (nI 3) (nI (s k)) e = some (nI (D.2.2 3 (s k))) := C_getD h hb (by omega) hsk
        have hg6 : fn_D_get (nI 6) (nI (s k)) e = some (nI (D.2.2 6 (s k))) := C_getD h hb (by omega) hsk
        have hg7 : fn_D_get (nI 7) (nI (s k)) e = some (nI (D.2.2 7 (s k))) := C_getD h hb (by omega) hsk
        have hrn3 : ∀ r', fn_D_renumbered (nI (D.2.2 3 (s k))) (r', upd c 3 (nI (D.2.1 3)), t) = some (nI ((newD D s).2.2 3 k)) := fun r' => C_renumbered hf hb (isDef_g hsk) hlt3
        have hrn6 : ∀ r', fn_D_renumbered (nI (D.2.2 6 (s k))) (r', upd c 3 (nI (D.2.1 3)), t) = some (nI (rn D s (D.2.2 6 (s k)))) := fun r' => C_renumbered hf hb (hV.2.2.2.2.2.1 6 (s k) (by omega) hsk) hlt6
        have hrn7 : ∀ r', fn_D_renumbered (nI (D.2.2 7 (s k))) (r', upd c 3 (nI (D.2.1 3)), t) = some (nI (rn D s (D.2.2 7 (s k)))) := fun r' => C_renumbered hf hb (hV.2.2.2.2.2.1 7 (s k) (by omega) hsk) hlt7
        have hqk := hq k hk
        rw [show ((3 : Int32)) = nI 3 from rfl, show ((6 : Int32)) = nI 6 from rfl, show ((7 : Int32)) = nI 7 from rfl, hm]
        simp (disch := omega) only [z_lit, z_mm, z_eqm, z_eqm', z_ltm, z_ltm', z_lem, z_lem', nI_leI, nI_ltI, nI_eq, nI_toInt, nI_clamp, nI_add, pk_mul, pk_sub, pk_div, z_rem, z_shr1, z_and1, decide_eq_true_eq, if_pos, if_neg, Option.bind_some, ite_true, ite_false, eq_self, not_false_eq_true, not_true_eq_false, C_inSeq, hqk]
        rw [hg6, hg7, hg3]
        simp only [Option.bind_some]
        rw [hrn6, hrn7, hrn3]
        simp only [Option.bind_some]
        rw [i6, i7, C_set (by omega) (by omega)]
        simp only [Option.bind_some]
        rw [C_set (by omega) (by omega)]
        simp only [Option.bind_some]
        rw [C_set (by omega) (by omega)]
        rfl)
    (fun N x ⟨r', hx, hr⟩ => by
      subst hx
      have hm : fn_D_many (nI 3) (r', upd c 3 (nI (D.2.1 3)), t) = some (nI (D.2.1 3)) := C_many' (by omega) (show upd c 3 (nI (D.2.1 3)) 3 = _ from pk_us)
      show fn_D_copyGates_12 _ _ (N + 1) _ _ = _
      rw [fn_D_copyGates_12]
      simp (disch := omega) only [z_lit, z_mm, z_eqm, z_eqm', z_ltm, z_ltm', z_lem, z_lem', nI_leI, nI_ltI, nI_eq, nI_toInt, nI_clamp, nI_add, pk_mul, pk_sub, pk_div, z_rem, z_shr1, z_and1, decide_eq_true_eq, if_pos, if_neg, Option.bind_some, ite_true, ite_false, eq_self, not_false_eq_true, not_true_eq_false, hm]) (N := am_NF) (k := 0) (s := (r, upd c 3 (nI (D.2.1 3)), t)) (by omega) (by rw [z_NF]; omega) ⟨r, rfl, fun j hj => absurd hj (by omega), fun j hj => absurd hj (by omega), fun j hj => absurd hj (by omega), rfl, rfl, rfl, rfl, rfl⟩
  refine ⟨r1, d1, d4, d5, e0, ?_⟩
  unfold fn_D_copyGates
  simp (disch := omega) only [z_lit, z_mm, z_eqm, z_eqm', z_ltm, z_ltm', z_lem, z_lem', nI_leI, nI_ltI, nI_eq, nI_toInt, nI_clamp, nI_add, pk_mul, pk_sub, pk_div, z_rem, z_shr1, z_and1, decide_eq_true_eq, if_pos, if_neg, Option.bind_some, ite_true, ite_false, eq_self, not_false_eq_true, not_true_eq_false, h3, C_setMany]
  rw [← c1]
  exact e1
theorem C_order {d e : SD} {D : De} {s : Nat → Nat} (h : CD e D) (hV : Vd D) (hs : Sq D s (D.2.1 3)) (hq : ∀ j, j < D.2.1 3 → e.2.2.1 j = nI (s j)) :
    ∃ d' s', fn_T_order e d = some d' ∧ CD d' (newD D s) ∧ Sq (newD D s) s' (D.2.1 3) ∧ (∀ j, j < D.2.1 3 → d'.2.2.1 j = nI (s' j)) ∧ d'.2.2.2.2.2 = e.2.2.2.2.2 := by
  obtain ⟨f, hf, e1⟩ := C_numberAnew (d := d) h hV hs hq
  have hMF : MF D s f := fun v hv => NM_def hV hs hf hv
  obtain ⟨r2, p0, p2, e2⟩ := C_copyIO (r := d.1) (c := d.2.1) (t := (d.2.2.1, f, nI (dn D), d.2.2.2.2.2)) h hV hMF
  obtain ⟨r3, p1, p4, p5, q0, q2, e3⟩ := C_copyL (r := r2) (c := upd (upd d.2.1 0 (nI (D.2.1 0))) 2 (nI (D.2.1 2))) (t := (d.2.2.1, f, nI (dn D), d.2.2.2.2.2)) h hV hMF
  obtain ⟨r4, p3, p6, p7, ⟨w0, w1, w2, w4, w5⟩, e4⟩ := C_copyG (r := r3) (c := upd (upd (upd d.2.1 0 (nI (D.2.1 0))) 2 (nI (D.2.1 2))) 1 (nI (D.2.1 1))) (t := (d.2.2.1, f, nI (dn D), d.2.2.2.2.2)) h hV hMF hs hq
  have hCD : CD (r4, upd (upd (upd (upd d.2.1 0 (nI (D.2.1 0))) 2 (nI (D.2.1 2))) 1 (nI (D.2.1 1))) 3 (nI (D.2.1 3)), d.2.2.1, f, nI (dn D), e.2.2.2.2.2) (newD D s) := by
    refine ⟨rfl, fun i hi => ?_, fun i k hi hk => ?_⟩
    · show upd _ 3 _ i = nI (D.2.1 i)
      have : i = 0 ∨ i = 1 ∨ i = 2 ∨ i = 3 := by omega
      rcases this with rfl | rfl | rfl | rfl
      · rw [pk_un (by omega), pk_un (by omega), pk_un (by omega), pk_us]
      · rw [pk_un (by omega), pk_us]
      · rw [pk_un (by omega), pk_un (by omega), pk_us]
      · rw [pk_us]
    · show r4 i k = _
      have : i = 0 ∨ i = 1 ∨ i = 2 ∨ i = 3 ∨ i = 4 ∨ i = 5 ∨ i = 6 ∨ i = 7 := by omega
      rcases this with rfl | rfl | rfl | rfl | rfl | rfl | rfl | rfl
      · rw [w0, q0]; exact p0 k hk
      · rw [w1]; exact p1 k hk
      · rw [w2, q2]; exact p2 k hk
      · exact p3 k hk
      · rw [w4]; exact p4 k hk
      · rw [w5]; exact p5 k hk
      · exact p6 k hk
      · exact p7 k hk
  obtain ⟨q, f', s', a, b, c⟩ := C_arrange hCD (newD_Vd hV hs)
  refine ⟨_, s', ?_, CD_sSq (q := q) (f := f') hCD, a, b, rfl⟩
  unfold fn_T_order fn_D_orderFrom fn_T_exchange
  simp only [e1, e2, e3, e4, c, Option.bind_some]
