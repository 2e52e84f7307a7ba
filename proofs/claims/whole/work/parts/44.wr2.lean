/-! HAS -/
theorem M_has69 {th : Mth} {ds : Mds} {D : De} (hM : MD ds D) (hV : Vd D) {i j : Nat} (hi : i < 8) (hj : j < D.2.1 (dk i)) : fn_M_has_69 (nI 0) (nI i) (nI j) th ds = some (nI (D.2.2 i j), nI 0) := by
  have hb := hV.1
  obtain ⟨b0, b1, b2, b3, b4⟩ := id hb
  have hr : mrow ds i j = nI (D.2.2 i j) := hM.2.2 i j (by omega) hj
  unfold fn_M_has_69
  have i8 : i = 0 ∨ i = 1 ∨ i = 2 ∨ i = 3 ∨ i = 4 ∨ i = 5 ∨ i = 6 ∨ i = 7 := by omega
  rcases i8 with rfl | rfl | rfl | rfl | rfl | rfl | rfl | rfl <;> simp only [mrow, dk0, dk1, dk2, dk3, dk4, dk5, dk6, dk7] at hr hj <;> simp (disch := omega) only [z_lit, z_mm, z_eqm, z_eqm', z_ltm, z_ltm', z_lem, z_lem', nI_leI, nI_ltI, nI_eq, nI_toInt, nI_clamp, nI_add, pk_mul, pk_sub, pk_div, z_rem, z_shr1, z_and1, decide_eq_true_eq, if_pos, if_neg, Option.bind_some, ite_true, ite_false, eq_self, not_false_eq_true, not_true_eq_false, hr]
theorem M_has64 {th : Mth} {ds : Mds} {x k : Int32} : fn_M_has_64 x k th ds = some (0, 2) := by
  unfold fn_M_has_64 fn_M_has_69
  simp (disch := omega) only [z_lit, z_mm, z_eqm, z_eqm', z_ltm, z_ltm', z_lem, z_lem', nI_leI, nI_ltI, nI_eq, nI_toInt, nI_clamp, nI_add, pk_mul, pk_sub, pk_div, z_rem, z_shr1, z_and1, decide_eq_true_eq, if_pos, if_neg, Option.bind_some, ite_true, ite_false, eq_self, not_false_eq_true, not_true_eq_false]
theorem M_has52 {th : Mth} {ds : Mds} {D : De} (hM : MD ds D) (hV : Vd D) {i : Nat} (hi : i < 8) {k : Int32} :
    (∀ j, j < D.2.1 (dk i) → k = nI j → fn_M_has_52 (nI (dk i)) (nI i) k th ds = some (nI (D.2.2 i j), nI 0)) ∧ ((k < nI 0 ∨ ∃ j, j < 2 ^ 31 ∧ k = nI j ∧ ¬ j < D.2.1 (dk i)) → fn_M_has_52 (nI (dk i)) (nI i) k th ds = some (0, 2)) := by
  have hb := hV.1
  have h60 := Vb_60 hb hi
  have hd : dk i < 4 := by
    have i8 : i = 0 ∨ i = 1 ∨ i = 2 ∨ i = 3 ∨ i = 4 ∨ i = 5 ∨ i = 6 ∨ i = 7 := by omega
    rcases i8 with rfl | rfl | rfl | rfl | rfl | rfl | rfl | rfl <;> decide
  have c : ds.2.1 (dk i) = nI (D.2.1 (dk i)) := hM.2.1 _ hd
  unfold fn_M_has_52
  refine ⟨fun j hj hk => ?_, fun hk => ?_⟩
  · subst hk
    have e := M_has69 (th := th) hM hV hi hj
    simp (disch := omega) only [z_lit, z_mm, z_eqm, z_eqm', z_ltm, z_ltm', z_lem, z_lem', nI_leI, nI_ltI, nI_eq, nI_toInt, nI_clamp, nI_add, pk_mul, pk_sub, pk_div, z_rem, z_shr1, z_and1, decide_eq_true_eq, if_pos, if_neg, Option.bind_some, ite_true, ite_false, eq_self, not_false_eq_true, not_true_eq_false, c, e]
  · rcases hk with hk | ⟨j, h1, hk, h2⟩
    · simp (disch := omega) only [z_lit, z_mm, z_eqm, z_eqm', z_ltm, z_ltm', z_lem, z_lem', nI_leI, nI_ltI, nI_eq, nI_toInt, nI_clamp, nI_add, pk_mul, pk_sub, pk_div, z_rem, z_shr1, z_and1, decide_eq_true_eq, if_pos, if_neg, Option.bind_some, ite_true, ite_false, eq_self, not_false_eq_true, not_true_eq_false, hk, M_has64]
    · subst hk
      simp (disch := omega) only [z_lit, z_mm, z_eqm, z_eqm', z_ltm, z_ltm', z_lem, z_lem', nI_leI, nI_ltI, nI_eq, nI_toInt, nI_clamp, nI_add, pk_mul, pk_sub, pk_div, z_rem, z_shr1, z_and1, decide_eq_true_eq, if_pos, if_neg, Option.bind_some, ite_true, ite_false, eq_self, not_false_eq_true, not_true_eq_false, c, M_has64]
theorem M_has16 {th : Mth} {ds : Mds} {i : Nat} (hi : i < 8) {k : Int32} : fn_M_has_16 (nI 0) (nI i) k th ds = fn_M_has_52 (nI (dk i)) (nI i) k (nI 0) ds := by
  unfold fn_M_has_16
  have i8 : i = 0 ∨ i = 1 ∨ i = 2 ∨ i = 3 ∨ i = 4 ∨ i = 5 ∨ i = 6 ∨ i = 7 := by omega
  rcases i8 with rfl | rfl | rfl | rfl | rfl | rfl | rfl | rfl <;> simp (disch := omega) only [z_lit, z_mm, z_eqm, z_eqm', z_ltm, z_ltm', z_lem, z_lem', nI_leI, nI_ltI, nI_eq, nI_toInt, nI_clamp, nI_add, pk_mul, pk_sub, pk_div, z_rem, z_shr1, z_and1, decide_eq_true_eq, if_pos, if_neg, Option.bind_some, ite_true, ite_false, eq_self, not_false_eq_true, not_true_eq_false, dk0, dk1, dk2, dk3, dk4, dk5, dk6, dk7]
theorem P_has {th : Mth} {d : SD} {ds : Mds} {D : De} (hC : CD d D) (hM : MD ds D) (hV : Vd D) (x k : Int32) :
    ∃ r w th', fn_T_has x k d = some r ∧ fn_M_has x k th ds = some (w, th') ∧ ((r = .int w ∧ th' = 0) ∨ (r = .retAddr 0 ∧ th' = 1) ∨ (r = .retAddr 2 ∧ th' = 2)) := by
  have hb := hV.1
  by_cases x0 : x < nI 0
  · refine ⟨.retAddr 0, 0, 1, ?_, ?_, Or.inr (Or.inl ⟨rfl, rfl⟩)⟩
    · unfold fn_T_has
      simp (disch := omega) only [z_lit, z_mm, z_eqm, z_eqm', z_ltm, z_ltm', z_lem, z_lem', nI_leI, nI_ltI, nI_eq, nI_toInt, nI_clamp, nI_add, pk_mul, pk_sub, pk_div, z_rem, z_shr1, z_and1, decide_eq_true_eq, if_pos, if_neg, Option.bind_some, ite_true, ite_false, eq_self, not_false_eq_true, not_true_eq_false, x0]
    · unfold fn_M_has fn_M_has_11 fn_M_has_16
      simp (disch := omega) only [z_lit, z_mm, z_eqm, z_eqm', z_ltm, z_ltm', z_lem, z_lem', nI_leI, nI_ltI, nI_eq, nI_toInt, nI_clamp, nI_add, pk_mul, pk_sub, pk_div, z_rem, z_shr1, z_and1, decide_eq_true_eq, if_pos, if_neg, Option.bind_some, ite_true, ite_false, eq_self, not_false_eq_true, not_true_eq_false, x0]
  by_cases x7 : x ≤ nI 7
  · obtain ⟨i, -, hi, rfl⟩ := z_range (by omega) x0 x7 (by omega)
    have hmn : fn_D_many (nI i) d = some (nI (D.2.1 (dk i))) := C_many hC (by omega)
    have h60 := Vb_60 hb (i := i) (by omega)
    have h16 := M_has16 (th := th) (ds := ds) (i := i) (by omega) (k := k)
    have h52 := M_has52 (th := nI 0) hM hV (i := i) (by omega) (k := k)
    by_cases k0 : k < nI 0
    · refine ⟨.retAddr 2, 0, 2, ?_, ?_, Or.inr (Or.inr ⟨rfl, rfl⟩)⟩
      · unfold fn_T_has fn_D_holds
        simp (disch := omega) only [z_lit, z_mm, z_eqm, z_eqm', z_ltm, z_ltm', z_lem, z_lem', nI_leI, nI_ltI, nI_eq, nI_toInt, nI_clamp, nI_add, pk_mul, pk_sub, pk_div, z_rem, z_shr1, z_and1, decide_eq_true_eq, if_pos, if_neg, Option.bind_some, ite_true, ite_false, eq_self, not_false_eq_true, not_true_eq_false, k0]
      · unfold fn_M_has
        have e := h52.2 (Or.inl k0)
        simp (disch := omega) only [z_lit, z_mm, z_eqm, z_eqm', z_ltm, z_ltm', z_lem, z_lem', nI_leI, nI_ltI, nI_eq, nI_toInt, nI_clamp, nI_add, pk_mul, pk_sub, pk_div, z_rem, z_shr1, z_and1, decide_eq_true_eq, if_pos, if_neg, Option.bind_some, ite_true, ite_false, eq_self, not_false_eq_true, not_true_eq_false, h16, e]
    · obtain ⟨j, hj, rfl⟩ := nI_of (x := k) k0
      by_cases hk : j < D.2.1 (dk i)
      · have hg : fn_D_get (nI i) (nI j) d = some (nI (D.2.2 i j)) := C_getD hC hb (by omega) hk
        refine ⟨.int (nI (D.2.2 i j)), nI (D.2.2 i j), 0, ?_, ?_, Or.inl ⟨rfl, rfl⟩⟩
        · unfold fn_T_has fn_D_holds
          simp (disch := omega) only [z_lit, z_mm, z_eqm, z_eqm', z_ltm, z_ltm', z_lem, z_lem', nI_leI, nI_ltI, nI_eq, nI_toInt, nI_clamp, nI_add, pk_mul, pk_sub, pk_div, z_rem, z_shr1, z_and1, decide_eq_true_eq, if_pos, if_neg, Option.bind_some, ite_true, ite_false, eq_self, not_false_eq_true, not_true_eq_false, hmn, hg]
        · unfold fn_M_has
          have e := h52.1 j hk rfl
          simp (disch := omega) only [z_lit, z_mm, z_eqm, z_eqm', z_ltm, z_ltm', z_lem, z_lem', nI_leI, nI_ltI, nI_eq, nI_toInt, nI_clamp, nI_add, pk_mul, pk_sub, pk_div, z_rem, z_shr1, z_and1, decide_eq_true_eq, if_pos, if_neg, Option.bind_some, ite_true, ite_false, eq_self, not_false_eq_true, not_true_eq_false, h16, e]
      · refine ⟨.retAddr 2, 0, 2, ?_, ?_, Or.inr (Or.inr ⟨rfl, rfl⟩)⟩
        · unfold fn_T_has fn_D_holds
          simp (disch := omega) only [z_lit, z_mm, z_eqm, z_eqm', z_ltm, z_ltm', z_lem, z_lem', nI_leI, nI_ltI, nI_eq, nI_toInt, nI_clamp, nI_add, pk_mul, pk_sub, pk_div, z_rem, z_shr1, z_and1, decide_eq_true_eq, if_pos, if_neg, Option.bind_some, ite_true, ite_false, eq_self, not_false_eq_true, not_true_eq_false, hmn]
        · unfold fn_M_has
          have e := h52.2 (Or.inr ⟨j, hj, rfl, hk⟩)
          simp (disch := omega) only [z_lit, z_mm, z_eqm, z_eqm', z_ltm, z_ltm', z_lem, z_lem', nI_leI, nI_ltI, nI_eq, nI_toInt, nI_clamp, nI_add, pk_mul, pk_sub, pk_div, z_rem, z_shr1, z_and1, decide_eq_true_eq, if_pos, if_neg, Option.bind_some, ite_true, ite_false, eq_self, not_false_eq_true, not_true_eq_false, h16, e]
  · have x8 : ¬ x < nI 8 := fun z => x7 (by
      rw [Int32.lt_iff_toInt_lt, nI_toInt (by omega)] at z
      rw [Int32.le_iff_toInt_le, nI_toInt (by omega)]
      omega)
    refine ⟨.retAddr 0, 0, 1, ?_, ?_, Or.inr (Or.inl ⟨rfl, rfl⟩)⟩
    · unfold fn_T_has
      simp (disch := omega) only [z_lit, z_mm, z_eqm, z_eqm', z_ltm, z_ltm', z_lem, z_lem', nI_leI, nI_ltI, nI_eq, nI_toInt, nI_clamp, nI_add, pk_mul, pk_sub, pk_div, z_rem, z_shr1, z_and1, decide_eq_true_eq, if_pos, if_neg, Option.bind_some, ite_true, ite_false, eq_self, not_false_eq_true, not_true_eq_false, x0, x8]
    · unfold fn_M_has fn_M_has_11 fn_M_has_16
      simp (disch := omega) only [z_lit, z_mm, z_eqm, z_eqm', z_ltm, z_ltm', z_lem, z_lem', nI_leI, nI_ltI, nI_eq, nI_toInt, nI_clamp, nI_add, pk_mul, pk_sub, pk_div, z_rem, z_shr1, z_and1, decide_eq_true_eq, if_pos, if_neg, Option.bind_some, ite_true, ite_false, eq_self, not_false_eq_true, not_true_eq_false, x0, x7]
/-! WRITE -/
theorem W_header {b : SB} {m : Mou} {c : Nat} {x1 : Int32} {th : Mth} {d : SD} {ds : Mds} {D : De} (hC : CD d D) (hM : MD ds D) (hV : Vd D) (h : BRn b m 0) (hc : c < 256) (κ : Mth → Mou → Option (Int32 × Mth × Mou)) :
    ∃ b' m' n', fn_W_header (nI c) b d = some b' ∧ n' ≤ 24 ∧ BRn b' m' n' ∧ ((fn_M_add (nI 97) m).bind fun q29 => (fn_M_add (nI c) q29).bind fun q19 => (fn_M_add (nI 103) q19).bind fun q20 => (fn_M_add (nI 32) q20).bind fun q21 => (fn_M_addNumber ds.1 q21).bind fun q22 => fn_M_write_91 x1 ds (fun th_24 ou_24 => (fn_M_add (nI 10) ou_24).bind fun q24 => κ th_24 q24) am_NF (nI 0) th q22) = κ th m' := by
  have hb := hV.1
  obtain ⟨b0, b1, b2, b3, b4⟩ := id hb
  have k0 := C_many hC (i := 0) (by omega)
  have k1 := C_many hC (i := 1) (by omega)
  have k2 := C_many hC (i := 2) (by omega)
  have k3 := C_many hC (i := 3) (by omega)
  have c0 : ds.2.1 0 = nI (D.2.1 0) := hM.2.1 0 (by omega)
  have c1 : ds.2.1 1 = nI (D.2.1 1) := hM.2.1 1 (by omega)
  have c2 : ds.2.1 2 = nI (D.2.1 2) := hM.2.1 2 (by omega)
  have c3 : ds.2.1 3 = nI (D.2.1 3) := hM.2.1 3 (by omega)
  have hcm := hC.1
  have hmm := hM.1
  obtain ⟨p1, q1, e1, f1, g1⟩ := W_add (c := 97) h (by omega) (by omega)
  obtain ⟨p2, q2, e2, f2, g2⟩ := W_add (c := c) g1 (by omega) hc
  obtain ⟨p3, q3, e3, f3, g3⟩ := W_add (c := 103) g2 (by omega) (by omega)
  obtain ⟨p4, q4, e4, f4, g4⟩ := W_add (c := 32) g3 (by omega) (by omega)
  obtain ⟨p5, q5, p6, q6, n6, e5, f5, e6, f6, g6, h6⟩ := W_nb (v := D.1) (c := 32) g4 (by omega) (by omega) (by omega)
  obtain ⟨p7, q7, p8, q8, n8, e7, f7, e8, f8, g8, h8⟩ := W_nb (v := D.2.1 0) (c := 32) g6 (by omega) (by omega) (by omega)
  obtain ⟨p9, q9, pa, qa, na, e9, f9, ea, fa, ga, ha⟩ := W_nb (v := D.2.1 1) (c := 32) g8 (by omega) (by omega) (by omega)
  obtain ⟨pb, qb, pc, qc, nc, eb, fb, ec, fc, gc, hc'⟩ := W_nb (v := D.2.1 2) (c := 32) ga (by omega) (by omega) (by omega)
  obtain ⟨pd, qd, pe, qe, ne, ed, fd, ee, fe, ge, he⟩ := W_nb (v := D.2.1 3) (c := 10) gc (by omega) (by omega) (by omega)
  refine ⟨pe, qe, ne, ?_, by omega, ge, ?_⟩
  · unfold fn_W_header fn_W_numberAndBlank fn_W_lastNumber fn_D_most
    simp (disch := omega) only [z_lit, z_mm, z_eqm, z_eqm', z_ltm, z_ltm', z_lem, z_lem', nI_leI, nI_ltI, nI_eq, nI_toInt, nI_clamp, nI_add, pk_mul, pk_sub, pk_div, z_rem, z_shr1, z_and1, decide_eq_true_eq, if_pos, if_neg, Option.bind_some, ite_true, ite_false, eq_self, not_false_eq_true, not_true_eq_false, e1, e2, e3, e4, hcm, e5, e6, k0, k1, k2, k3, dk0, dk1, dk2, dk3, e7, e8, e9, ea, eb, ec, ed, ee]
  · obtain ⟨N, hN⟩ : ∃ N, am_NF = N + 1 + 1 + 1 + 1 + 1 := ⟨4091, rfl⟩
    rw [f1]
    simp only [Option.bind_some]
    rw [f2]
    simp only [Option.bind_some]
    rw [f3]
    simp only [Option.bind_some]
    rw [f4]
    simp only [Option.bind_some]
    rw [hmm, f5]
    simp only [Option.bind_some]
    rw [hN, fn_M_write_91]
    simp (disch := omega) only [z_lit, z_mm, z_eqm, z_eqm', z_ltm, z_ltm', z_lem, z_lem', nI_leI, nI_ltI, nI_eq, nI_toInt, nI_clamp, nI_add, pk_mul, pk_sub, pk_div, z_rem, z_shr1, z_and1, decide_eq_true_eq, if_pos, if_neg, Option.bind_some, ite_true, ite_false, eq_self, not_false_eq_true, not_true_eq_false, f6, c0, f7]
    rw [fn_M_write_91]
    simp (disch := omega) only [z_lit, z_mm, z_eqm, z_eqm', z_ltm, z_ltm', z_lem, z_lem', nI_leI, nI_ltI, nI_eq, nI_toInt, nI_clamp, nI_add, pk_mul, pk_sub, pk_div, z_rem, z_shr1, z_and1, decide_eq_true_eq, if_pos, if_neg, Option.bind_some, ite_true, ite_false, eq_self, not_false_eq_true, not_true_eq_false, Nat.reduceAdd, f8, c1, f9]
    rw [fn_M_write_91]
    simp (disch := omega) only [z_lit, z_mm, z_eqm, z_eqm', z_ltm, z_ltm', z_lem, z_lem', nI_leI, nI_ltI, nI_eq, nI_toInt, nI_clamp, nI_add, pk_mul, pk_sub, pk_div, z_rem, z_shr1, z_and1, decide_eq_true_eq, if_pos, if_neg, Option.bind_some, ite_true, ite_false, eq_self, not_false_eq_true, not_true_eq_false, Nat.reduceAdd, fa, c2, fb]
    rw [fn_M_write_91]
    simp (disch := omega) only [z_lit, z_mm, z_eqm, z_eqm', z_ltm, z_ltm', z_lem, z_lem', nI_leI, nI_ltI, nI_eq, nI_toInt, nI_clamp, nI_add, pk_mul, pk_sub, pk_div, z_rem, z_shr1, z_and1, decide_eq_true_eq, if_pos, if_neg, Option.bind_some, ite_true, ite_false, eq_self, not_false_eq_true, not_true_eq_false, Nat.reduceAdd, fc, c3, fd]
    rw [fn_M_write_91]
    simp (disch := omega) only [z_lit, z_mm, z_eqm, z_eqm', z_ltm, z_ltm', z_lem, z_lem', nI_leI, nI_ltI, nI_eq, nI_toInt, nI_clamp, nI_add, pk_mul, pk_sub, pk_div, z_rem, z_shr1, z_and1, decide_eq_true_eq, if_pos, if_neg, Option.bind_some, ite_true, ite_false, eq_self, not_false_eq_true, not_true_eq_false, Nat.reduceAdd, fe]
theorem W_outputs {b : SB} {m : Mou} {n : Nat} {x1 : Int32} {th : Mth} {d : SD} {ds : Mds} {D : De} (hC : CD d D) (hM : MD ds D) (hV : Vd D) (h : BRn b m n) (hn : n ≤ 1000) (κ : Mth → Mou → Option (Int32 × Mth × Mou)) :
    ∃ b' m' n', fn_W_outputs b d = some b' ∧ n' ≤ n + 32 ∧ BRn b' m' n' ∧ fn_M_write_207 x1 ds κ am_NF (nI 0) th m = κ th m' := by
  have hb := hV.1
  obtain ⟨b0, b1, b2, b3, b4⟩ := id hb
  have k2 : fn_D_many (nI 2) d = some (nI (D.2.1 2)) := C_many hC (by omega)
  have c2 : ds.2.1 2 = nI (D.2.1 2) := hM.2.1 2 (by omega)
  obtain ⟨b', m', ⟨n', hn', hg⟩, e1, e2⟩ := z_loop2 (fun N k (y : SB) => fn_W_outputs_2 d (fun pg => some pg) N (nI k) y) (fun N k (y : Mou) => fn_M_write_207 x1 ds κ N (nI k) th y) (fun pg => some pg) (fun y => κ th y) (D.2.1 2) (fun k y z => ∃ n', n' ≤ n + 4 * k ∧ BRn y z n')
    (fun N k y z hk ⟨n', hn', hg⟩ => by
      have hlt := hV.2.1 2 k (by omega) hk
      obtain ⟨p1, q1, p2, q2, n2, e1, f1, e2, f2, g2, h2⟩ := W_nb (v := D.2.2 2 k) (c := 10) hg (by omega) hlt (by omega)
      refine ⟨p2, q2, ⟨n2, by omega, g2⟩, ?_, ?_⟩
      · show fn_W_outputs_2 _ _ (N + 1) _ _ = _
        rw [fn_W_outputs_2]
        have hget : fn_D_get (nI 2) (nI k) d = some (nI (D.2.2 2 k)) := C_getD hC hb (by omega) hk
        unfold fn_W_lastNumber
        simp (disch := omega) only [z_lit, z_mm, z_eqm, z_eqm', z_ltm, z_ltm', z_lem, z_lem', nI_leI, nI_ltI, nI_eq, nI_toInt, nI_clamp, nI_add, pk_mul, pk_sub, pk_div, z_rem, z_shr1, z_and1, decide_eq_true_eq, if_pos, if_neg, Option.bind_some, ite_true, ite_false, eq_self, not_false_eq_true, not_true_eq_false, k2, hget, e1, e2]
      · show fn_M_write_207 _ _ _ (N + 1) _ _ _ = _
        rw [fn_M_write_207]
        have r2 : ds.2.2.2.2.2.2.1 k = nI (D.2.2 2 k) := hM.2.2 2 k (by omega) hk
        simp (disch := omega) only [z_lit, z_mm, z_eqm, z_eqm', z_ltm, z_ltm', z_lem, z_lem', nI_leI, nI_ltI, nI_eq, nI_toInt, nI_clamp, nI_add, pk_mul, pk_sub, pk_div, z_rem, z_shr1, z_and1, decide_eq_true_eq, if_pos, if_neg, Option.bind_some, ite_true, ite_false, eq_self, not_false_eq_true, not_true_eq_false, c2, r2, f1, f2])
    (fun N y z _ => by
      refine ⟨?_, ?_⟩
      · show fn_W_outputs_2 _ _ (N + 1) _ _ = _
        rw [fn_W_outputs_2]
        simp (disch := omega) only [z_lit, z_mm, z_eqm, z_eqm', z_ltm, z_ltm', z_lem, z_lem', nI_leI, nI_ltI, nI_eq, nI_toInt, nI_clamp, nI_add, pk_mul, pk_sub, pk_div, z_rem, z_shr1, z_and1, decide_eq_true_eq, if_pos, if_neg, Option.bind_some, ite_true, ite_false, eq_self, not_false_eq_true, not_true_eq_false, k2]
      · show fn_M_write_207 _ _ _ (N + 1) _ _ _ = _
        rw [fn_M_write_207]
        simp (disch := omega) only [z_lit, z_mm, z_eqm, z_eqm', z_ltm, z_ltm', z_lem, z_lem', nI_leI, nI_ltI, nI_eq, nI_toInt, nI_clamp, nI_add, pk_mul, pk_sub, pk_div, z_rem, z_shr1, z_and1, decide_eq_true_eq, if_pos, if_neg, Option.bind_some, ite_true, ite_false, eq_self, not_false_eq_true, not_true_eq_false, c2]) (N := am_NF) (k := 0) (s := b) (u := m) (by omega) (by rw [z_NF]; omega) ⟨n, by omega, h⟩
  exact ⟨b', m', n', e1, by omega, hg, e2⟩
theorem W_plain {b : SB} {m : Mou} {th : Mth} {d : SD} {ds : Mds} {D : De} (hC : CD d D) (hM : MD ds D) (hV : Vd D) (h : BRn b m 0) :
    ∃ b' m' n', fn_W_plain b d = some b' ∧ BRn b' m' n' ∧ ((fn_M_add (nI 97) m).bind fun q29 => fn_M_write_66 (nI 97) (nI 0) th ds q29) = some (nI n', th, m') := by
  have hb := hV.1
  have hl := hV.2.1
  obtain ⟨b0, b1, b2, b3, b4⟩ := id hb
  have k0 : fn_D_many (nI 0) d = some (nI (D.2.1 0)) := C_many hC (by omega)
  have k1 : fn_D_many (nI 1) d = some (nI (D.2.1 1)) := C_many hC (by omega)
  have k3 : fn_D_many (nI 3) d = some (nI (D.2.1 3)) := C_many hC (by omega)
  have c0 : ds.2.1 0 = nI (D.2.1 0) := hM.2.1 0 (by omega)
  have c1 : ds.2.1 1 = nI (D.2.1 1) := hM.2.1 1 (by omega)
  have c3 : ds.2.1 3 = nI (D.2.1 3) := hM.2.1 3 (by omega)
  have L1 := fun (κ : SB → Option SB) (κ' : Mth → Mou → Option (Int32 × Mth × Mou)) (n : Nat) (b : SB) (m : Mou) (h : BRn b m n) (hn : n ≤ 24) => z_loop2 (fun N k (y : SB) => fn_W_plain_9 d κ N (nI k) y) (fun N k (y : Mou) => fn_M_write_126 (nI 0) ds κ' N (nI k) th y) κ (fun y => κ' th y) (D.2.1 0) (fun k y z => ∃ n', n' ≤ n + 4 * k ∧ BRn y z n')
    (fun N k y z hk ⟨n', hn', hg⟩ => by
      have hlt := hl 0 k (by omega) hk
      obtain ⟨p1, q1, p2, q2, n2, e1, f1, e2, f2, g2, h2⟩ := W_nb (v := D.2.2 0 k) (c := 10) hg (by omega) hlt (by omega)
      refine ⟨p2, q2, ⟨n2, by omega, g2⟩, ?_, ?_⟩
      · show fn_W_plain_9 _ _ (N + 1) _ _ = _
        rw [fn_W_plain_9]
        have hget : fn_D_get (nI 0) (nI k) d = some (nI (D.2.2 0 k)) := C_getD hC hb (by omega) hk
        unfold fn_W_lastNumber
        simp (disch := omega) only [z_lit, z_mm, z_eqm, z_eqm', z_ltm, z_ltm', z_lem, z_lem', nI_leI, nI_ltI, nI_eq, nI_toInt, nI_clamp, nI_add, pk_mul, pk_sub, pk_div, z_rem, z_shr1, z_and1, decide_eq_true_eq, if_pos, if_neg, Option.bind_some, ite_true, ite_false, eq_self, not_false_eq_true, not_true_eq_false, k0, hget, e1, e2]
      · show fn_M_write_126 _ _ _ (N + 1) _ _ _ = _
        rw [fn_M_write_126]
        have r2 : ds.2.2.1 k = nI (D.2.2 0 k) := hM.2.2 0 k (by omega) hk
        simp (disch := omega) only [z_lit, z_mm, z_eqm, z_eqm', z_ltm, z_ltm', z_lem, z_lem', nI_leI, nI_ltI, nI_eq, nI_toInt, nI_clamp, nI_add, pk_mul, pk_sub, pk_div, z_rem, z_shr1, z_and1, decide_eq_true_eq, if_pos, if_neg, Option.bind_some, ite_true, ite_false, eq_self, not_false_eq_true, not_true_eq_false, c0, r2, f1, f2])
    (fun N y z _ => by
      refine ⟨?_, ?_⟩
      · show fn_W_plain_9 _ _ (N + 1) _ _ = _
        rw [fn_W_plain_9]
        simp (disch := omega) only [z_lit, z_mm, z_eqm, z_eqm', z_ltm, z_ltm', z_lem, z_lem', nI_leI, nI_ltI, nI_eq, nI_toInt, nI_clamp, nI_add, pk_mul, pk_sub, pk_div, z_rem, z_shr1, z_and1, decide_eq_true_eq, if_pos, if_neg, Option.bind_some, ite_true, ite_false, eq_self, not_false_eq_true, not_true_eq_false, k0]
      · show fn_M_write_126 _ _ _ (N + 1) _ _ _ = _
        rw [fn_M_write_126]
        simp (disch := omega) only [z_lit, z_mm, z_eqm, z_eqm', z_ltm, z_ltm', z_lem, z_lem', nI_leI, nI_ltI, nI_eq, nI_toInt, nI_clamp, nI_add, pk_mul, pk_sub, pk_div, z_rem, z_shr1, z_and1, decide_eq_true_eq, if_pos, if_neg, Option.bind_some, ite_true, ite_false, eq_self, not_false_eq_true, not_true_eq_false, c0]) (N := am_NF) (k := 0) (s := b) (u := m) (by omega) (by rw [z_NF]; omega) ⟨n, by omega, h⟩
  have L2 := fun (κ : SB → Option SB) (κ' : Mth → Mou → Option (Int32 × Mth × Mou)) (n : Nat) (b : SB) (m : Mou) (h : BRn b m n) (hn : n ≤ 100) => z_loop2 (fun N k (y : SB) => fn_W_plain_36 d κ N (nI k) y) (fun N k (y : Mou) => fn_M_write_164 (nI 0) ds κ' N (nI k) th y) κ (fun y => κ' th y) (D.2.1 1) (fun k y z => ∃ n', n' ≤ n + 10 * k ∧ BRn y z n')
    (fun N k y z hk ⟨n', hn', hg⟩ => by
      have hlt := hl 1 k (by omega) hk
      obtain ⟨p1, q1, p2, q2, n2, e1, f1, e2, f2, g2, h2⟩ := W_nb (v := D.2.2 1 k) (c := 32) hg (by omega) hlt (by omega)
      obtain ⟨p3, q3, n3, e3, f3, g3, h3⟩ := W_next hC hM hV g2 (by omega) hk
      refine ⟨p3, q3, ⟨n3, by omega, g3⟩, ?_, ?_⟩
      · show fn_W_plain_36 _ _ (N + 1) _ _ = _
        rw [fn_W_plain_36]
        have hget : fn_D_get (nI 1) (nI k) d = some (nI (D.2.2 1 k)) := C_getD hC hb (by omega) hk
        unfold fn_W_numberAndBlank
        simp (disch := omega) only [z_lit, z_mm, z_eqm, z_eqm', z_ltm, z_ltm', z_lem, z_lem', nI_leI, nI_ltI, nI_eq, nI_toInt, nI_clamp, nI_add, pk_mul, pk_sub, pk_div, z_rem, z_shr1, z_and1, decide_eq_true_eq, if_pos, if_neg, Option.bind_some, ite_true, ite_false, eq_self, not_false_eq_true, not_true_eq_false, k1, hget, e1, e2, e3]
      · show fn_M_write_164 _ _ _ (N + 1) _ _ _ = _
        rw [fn_M_write_164]
        have r2 : ds.2.2.2.1 k = nI (D.2.2 1 k) := hM.2.2 1 k (by omega) hk
        simp (disch := omega) only [z_lit, z_mm, z_eqm, z_eqm', z_ltm, z_ltm', z_lem, z_lem', nI_leI, nI_ltI, nI_eq, nI_toInt, nI_clamp, nI_add, pk_mul, pk_sub, pk_div, z_rem, z_shr1, z_and1, decide_eq_true_eq, if_pos, if_neg, Option.bind_some, ite_true, ite_false, eq_self, not_false_eq_true, not_true_eq_false, c1, r2, f1, f2, f3])
    (fun N y z _ => by
      refine ⟨?_, ?_⟩
      · show fn_W_plain_36 _ _ (N + 1) _ _ = _
        rw [fn_W_plain_36]
        simp (disch := omega) only [z_lit, z_mm, z_eqm, z_eqm', z_ltm, z_ltm', z_lem, z_lem', nI_leI, nI_ltI, nI_eq, nI_toInt, nI_clamp, nI_add, pk_mul, pk_sub, pk_div, z_rem, z_shr1, z_and1, decide_eq_true_eq, if_pos, if_neg, Option.bind_some, ite_true, ite_false, eq_self, not_false_eq_true, not_true_eq_false, k1]
      · show fn_M_write_164 _ _ _ (N + 1) _ _ _ = _
        rw [fn_M_write_164]
        simp (disch := omega) only [z_lit, z_mm, z_eqm, z_eqm', z_ltm, z_ltm', z_lem, z_lem', nI_leI, nI_ltI, nI_eq, nI_toInt, nI_clamp, nI_add, pk_mul, pk_sub, pk_div, z_rem, z_shr1, z_and1, decide_eq_true_eq, if_pos, if_neg, Option.bind_some, ite_true, ite_false, eq_self, not_false_eq_true, not_true_eq_false, c1]) (N := am_NF) (k := 0) (s := b) (u := m) (by omega) (by rw [z_NF]; omega) ⟨n, by omega, h⟩
  have L4 := fun (κ : SB → Option SB) (κ' : Mth → Mou → Option (Int32 × Mth × Mou)) (n : Nat) (b : SB) (m : Mou) (h : BRn b m n) (hn : n ≤ 300) => z_loop2 (fun N k (y : SB) => fn_W_plain_74 d κ N (nI k) y) (fun N k (y : Mou) => fn_M_write_241 (nI 0) ds κ' N (nI k) th y) κ (fun y => κ' th y) (D.2.1 3) (fun k y z => ∃ n', n' ≤ n + 12 * k ∧ BRn y z n')
    (fun N k y z hk ⟨n', hn', hg⟩ => by
      have hlt3 := hl 3 k (by omega) hk
      have hlt6 := hl 6 k (by omega) hk
      have hlt7 := hl 7 k (by omega) hk
      obtain ⟨p1, q1, p2, q2, n2, e1, f1, e2, f2, g2, h2⟩ := W_nb (v := D.2.2 3 k) (c := 32) hg (by omega) hlt3 (by omega)
      obtain ⟨p3, q3, p4, q4, n4, e3, f3, e4, f4, g4, h4⟩ := W_nb (v := D.2.2 6 k) (c := 32) g2 (by omega) hlt6 (by omega)
      obtain ⟨p5, q5, p6, q6, n6, e5, f5, e6, f6, g6, h6⟩ := W_nb (v := D.2.2 7 k) (c := 10) g4 (by omega) hlt7 (by omega)
      refine ⟨p6, q6, ⟨n6, by omega, g6⟩, ?_, ?_⟩
      · show fn_W_plain_74 _ _ (N + 1) _ _ = _
        rw [fn_W_plain_74]
        have t3 : fn_D_get (nI 3) (nI k) d = some (nI (D.2.2 3 k)) := C_getD hC hb (by omega) hk
        have t6 : fn_D_get (nI 6) (nI k) d = some (nI (D.2.2 6 k)) := C_getD hC hb (by omega) hk
        have t7 : fn_D_get (nI 7) (nI k) d = some (nI (D.2.2 7 k)) := C_getD hC hb (by omega) hk
        unfold fn_W_numberAndBlank fn_W_lastNumber
        simp (disch := omega) only [z_lit, z_mm, z_eqm, z_eqm', z_ltm, z_ltm', z_lem, z_lem', nI_leI, nI_ltI, nI_eq, nI_toInt, nI_clamp, nI_add, pk_mul, pk_sub, pk_div, z_rem, z_shr1, z_and1, decide_eq_true_eq, if_pos, if_neg, Option.bind_some, ite_true, ite_false, eq_self, not_false_eq_true, not_true_eq_false, k3, t3, t6, t7, e1, e2, e3, e4, e5, e6]
      · show fn_M_write_241 _ _ _ (N + 1) _ _ _ = _
        rw [fn_M_write_241]
        have r3 : ds.2.2.2.2.2.2.2.1 k = nI (D.2.2 3 k) := hM.2.2 3 k (by omega) hk
        have r6 : ds.2.2.2.2.2.2.2.2.1 k = nI (D.2.2 6 k) := hM.2.2 6 k (by omega) hk
        have r7 : ds.2.2.2.2.2.2.2.2.2 k = nI (D.2.2 7 k) := hM.2.2 7 k (by omega) hk
        simp (disch := omega) only [z_lit, z_mm, z_eqm, z_eqm', z_ltm, z_ltm', z_lem, z_lem', nI_leI, nI_ltI, nI_eq, nI_toInt, nI_clamp, nI_add, pk_mul, pk_sub, pk_div, z_rem, z_shr1, z_and1, decide_eq_true_eq, if_pos, if_neg, Option.bind_some, ite_true, ite_false, eq_self, not_false_eq_true, not_true_eq_false, c3, r3, r6, r7, f1, f2, f3, f4, f5, f6])
    (fun N y z _ => by
      refine ⟨?_, ?_⟩
      · show fn_W_plain_74 _ _ (N + 1) _ _ = _
        rw [fn_W_plain_74]
        simp (disch := omega) only [z_lit, z_mm, z_eqm, z_eqm', z_ltm, z_ltm', z_lem, z_lem', nI_leI, nI_ltI, nI_eq, nI_toInt, nI_clamp, nI_add, pk_mul, pk_sub, pk_div, z_rem, z_shr1, z_and1, decide_eq_true_eq, if_pos, if_neg, Option.bind_some, ite_true, ite_false, eq_self, not_false_eq_true, not_true_eq_false, k3]
      · show fn_M_write_241 _ _ _ (N + 1) _ _ _ = _
        rw [fn_M_write_241]
        simp (disch := omega) only [z_lit, z_mm, z_eqm, z_eqm', z_ltm, z_ltm', z_lem, z_lem', nI_leI, nI_ltI, nI_eq, nI_toInt, nI_clamp, nI_add, pk_mul, pk_sub, pk_div, z_rem, z_shr1, z_and1, decide_eq_true_eq, if_pos, if_neg, Option.bind_some, ite_true, ite_false, eq_self, not_false_eq_true, not_true_eq_false, c3]) (N := am_NF) (k := 0) (s := b) (u := m) (by omega) (by rw [z_NF]; omega) ⟨n, by omega, h⟩
  obtain ⟨p1, q1, n1, e1, h1, g1, f1⟩ := W_header (c := 97) (x1 := nI 0) (th := th) hC hM hV h (by omega) (fun th_24 q24 =>
    fn_M_write_126 (nI 0) ds (fun th_26 ou_26 =>
      fn_M_write_164 (nI 0) ds (fun th_27 ou_27 =>
        fn_M_write_207 (nI 0) ds (fun th_28 ou_28 =>
          fn_M_write_241 (nI 0) ds (fun th_29 ou_29 =>
            some (ou_29.2, th_29, ou_29)) am_NF (nI 0) th_28 ou_28) am_NF (nI 0) th_27 ou_27) am_NF (nI 0) th_26 ou_26) am_NF (nI 0) th_24 q24)
  obtain ⟨p2, q2, ⟨n2, h2, g2⟩, e2, f2⟩ := L1 (fun pg_17 =>
    fn_W_plain_36 d (fun pg_18 =>
      (fn_W_outputs pg_18 d).bind fun q18 =>
      fn_W_plain_74 d (fun pg_20 =>
        some pg_20) am_NF (nI 0) q18) am_NF (nI 0) pg_17) (fun th_26 ou_26 =>
      fn_M_write_164 (nI 0) ds (fun th_27 ou_27 =>
        fn_M_write_207 (nI 0) ds (fun th_28 ou_28 =>
          fn_M_write_241 (nI 0) ds (fun th_29 ou_29 =>
            some (ou_29.2, th_29, ou_29)) am_NF (nI 0) th_28 ou_28) am_NF (nI 0) th_27 ou_27) am_NF (nI 0) th_26 ou_26) n1 p1 q1 g1 h1
  obtain ⟨p3, q3, ⟨n3, h3, g3⟩, e3, f3⟩ := L2 (fun pg_18 =>
      (fn_W_outputs pg_18 d).bind fun q18 =>
      fn_W_plain_74 d (fun pg_20 =>
        some pg_20) am_NF (nI 0) q18) (fun th_27 ou_27 =>
        fn_M_write_207 (nI 0) ds (fun th_28 ou_28 =>
          fn_M_write_241 (nI 0) ds (fun th_29 ou_29 =>
            some (ou_29.2, th_29, ou_29)) am_NF (nI 0) th_28 ou_28) am_NF (nI 0) th_27 ou_27) n2 p2 q2 g2 (by omega)
  obtain ⟨p4, q4, n4, e4, h4, g4, f4⟩ := W_outputs (x1 := nI 0) (th := th) hC hM hV g3 (by omega) (fun th_28 ou_28 =>
          fn_M_write_241 (nI 0) ds (fun th_29 ou_29 =>
            some (ou_29.2, th_29, ou_29)) am_NF (nI 0) th_28 ou_28)
  obtain ⟨p5, q5, ⟨n5, h5, g5⟩, e5, f5⟩ := L4 (fun pg_20 => some pg_20) (fun th_29 ou_29 => some (ou_29.2, th_29, ou_29)) n4 p4 q4 g4 (by omega)
  refine ⟨p5, q5, n5, ?_, g5, ?_⟩
  · unfold fn_W_plain
    simp only [z_lit]
    rw [e1]
    simp only [Option.bind_some]
    refine e2.trans (e3.trans ?_)
    rw [e4]
    simp only [Option.bind_some]
    exact e5
  · unfold fn_M_write_66
    simp only [z_lit]
    obtain ⟨t5, g5'⟩ := g5
    rw [← g5'.2.2.1]
    exact (((f1.trans f2).trans f3).trans f4).trans f5
theorem W_packed {b : SB} {m : Mou} {th : Mth} {d : SD} {ds : Mds} {D : De} (hC : CD d D) (hM : MD ds D) (hV : Vd D) (hI : IO D) (h : BRn b m 0) :
    ∃ b' m' n', fn_W_packed b d = some b' ∧ BRn b' m' n' ∧ ((fn_M_add (nI 97) m).bind fun q29 => fn_M_write_66 (nI 105) (nI 1) th ds q29) = some (nI n', th, m') := by
  have hb := hV.1
  have hl := hV.2.1
  obtain ⟨b0, b1, b2, b3, b4⟩ := id hb
  have k1 : fn_D_many (nI 1) d = some (nI (D.2.1 1)) := C_many hC (by omega)
  have k3 : fn_D_many (nI 3) d = some (nI (D.2.1 3)) := C_many hC (by omega)
  have c0 : ds.2.1 0 = nI (D.2.1 0) := hM.2.1 0 (by omega)
  have c1 : ds.2.1 1 = nI (D.2.1 1) := hM.2.1 1 (by omega)
  have c3 : ds.2.1 3 = nI (D.2.1 3) := hM.2.1 3 (by omega)
  have L2 := fun (κ : SB → Option SB) (κ' : Mth → Mou → Option (Int32 × Mth × Mou)) (n : Nat) (b : SB) (m : Mou) (h : BRn b m n) (hn : n ≤ 100) => z_loop2 (fun N k (y : SB) => fn_W_packed_9 d κ N (nI k) y) (fun N k (y : Mou) => fn_M_write_164 (nI 1) ds κ' N (nI k) th y) κ (fun y => κ' th y) (D.2.1 1) (fun k y z => ∃ n', n' ≤ n + 10 * k ∧ BRn y z n')
    (fun N k y z hk ⟨n', hn', hg⟩ => by
      obtain ⟨p3, q3, n3, e3, f3, g3, h3⟩ := W_next hC hM hV hg (by omega) hk
      refine ⟨p3, q3, ⟨n3, by omega, g3⟩, ?_, ?_⟩
      · show fn_W_packed_9 _ _ (N + 1) _ _ = _
        rw [fn_W_packed_9]
        simp (disch := omega) only [z_lit, z_mm, z_eqm, z_eqm', z_ltm, z_ltm', z_lem, z_lem', nI_leI, nI_ltI, nI_eq, nI_toInt, nI_clamp, nI_add, pk_mul, pk_sub, pk_div, z_rem, z_shr1, z_and1, decide_eq_true_eq, if_pos, if_neg, Option.bind_some, ite_true, ite_false, eq_self, not_false_eq_true, not_true_eq_false, k1, e3]
      · show fn_M_write_164 _ _ _ (N + 1) _ _ _ = _
        rw [fn_M_write_164]
        simp (disch := omega) only [z_lit, z_mm, z_eqm, z_eqm', z_ltm, z_ltm', z_lem, z_lem', nI_leI, nI_ltI, nI_eq, nI_toInt, nI_clamp, nI_add, pk_mul, pk_sub, pk_div, z_rem, z_shr1, z_and1, decide_eq_true_eq, if_pos, if_neg, Option.bind_some, ite_true, ite_false, eq_self, not_false_eq_true, not_true_eq_false, c1, f3])
    (fun N y z _ => by
      refine ⟨?_, ?_⟩
      · show fn_W_packed_9 _ _ (N + 1) _ _ = _
        rw [fn_W_packed_9]
        simp (disch := omega) only [z_lit, z_mm, z_eqm, z_eqm', z_ltm, z_ltm', z_lem, z_lem', nI_leI, nI_ltI, nI_eq, nI_toInt, nI_clamp, nI_add, pk_mul, pk_sub, pk_div, z_rem, z_shr1, z_and1, decide_eq_true_eq, if_pos, if_neg, Option.bind_some, ite_true, ite_false, eq_self, not_false_eq_true, not_true_eq_false, k1]
      · show fn_M_write_164 _ _ _ (N + 1) _ _ _ = _
        rw [fn_M_write_164]
        simp (disch := omega) only [z_lit, z_mm, z_eqm, z_eqm', z_ltm, z_ltm', z_lem, z_lem', nI_leI, nI_ltI, nI_eq, nI_toInt, nI_clamp, nI_add, pk_mul, pk_sub, pk_div, z_rem, z_shr1, z_and1, decide_eq_true_eq, if_pos, if_neg, Option.bind_some, ite_true, ite_false, eq_self, not_false_eq_true, not_true_eq_false, c1]) (N := am_NF) (k := 0) (s := b) (u := m) (by omega) (by rw [z_NF]; omega) ⟨n, by omega, h⟩
  have L4 := fun (κ : SB → Option SB) (κ' : Mth → Mou → Option (Int32 × Mth × Mou)) (n : Nat) (b : SB) (m : Mou) (h : BRn b m n) (hn : n ≤ 300) => z_loop2 (fun N k (y : SB) => fn_W_packed_37 d κ N (nI k) y) (fun N k (y : Mou) => fn_M_write_241 (nI 1) ds κ' N (nI k) th y) κ (fun y => κ' th y) (D.2.1 3) (fun k y z => ∃ n', n' ≤ n + 12 * k ∧ BRn y z n')
    (fun N k y z hk ⟨n', hn', hg⟩ => by
      have hlt3 := hl 3 k (by omega) hk
      have hlt6 := hl 6 k (by omega) hk
      have hlt7 := hl 7 k (by omega) hk
      have hio := hI.2.2.2.2 k hk
      obtain ⟨p1, q1, n1, e1, f1, g1, h1⟩ := W_diff (v := D.2.2 3 k - D.2.2 6 k) hg (by omega) (by omega)
      obtain ⟨p2, q2, n2, e2, f2, g2, h2⟩ := W_diff (v := D.2.2 6 k - D.2.2 7 k) g1 (by omega) (by omega)
      refine ⟨p2, q2, ⟨n2, by omega, g2⟩, ?_, ?_⟩
      · show fn_W_packed_37 _ _ (N + 1) _ _ = _
        rw [fn_W_packed_37]
        have t3 : fn_D_get (nI 3) (nI k) d = some (nI (D.2.2 3 k)) := C_getD hC hb (by omega) hk
        have t6 : fn_D_get (nI 6) (nI k) d = some (nI (D.2.2 6 k)) := C_getD hC hb (by omega) hk
        have t7 : fn_D_get (nI 7) (nI k) d = some (nI (D.2.2 7 k)) := C_getD hC hb (by omega) hk
        simp (disch := omega) only [z_lit, z_mm, z_eqm, z_eqm', z_ltm, z_ltm', z_lem, z_lem', nI_leI, nI_ltI, nI_eq, nI_toInt, nI_clamp, nI_add, pk_mul, pk_sub, pk_div, z_rem, z_shr1, z_and1, decide_eq_true_eq, if_pos, if_neg, Option.bind_some, ite_true, ite_false, eq_self, not_false_eq_true, not_true_eq_false, k3, t3, t6, t7, e1, e2]
      · show fn_M_write_241 _ _ _ (N + 1) _ _ _ = _
        rw [fn_M_write_241]
        have r3 : ds.2.2.2.2.2.2.2.1 k = nI (D.2.2 3 k) := hM.2.2 3 k (by omega) hk
        have r6 : ds.2.2.2.2.2.2.2.2.1 k = nI (D.2.2 6 k) := hM.2.2 6 k (by omega) hk
        have r7 : ds.2.2.2.2.2.2.2.2.2 k = nI (D.2.2 7 k) := hM.2.2 7 k (by omega) hk
        simp (disch := omega) only [z_lit, z_mm, z_eqm, z_eqm', z_ltm, z_ltm', z_lem, z_lem', nI_leI, nI_ltI, nI_eq, nI_toInt, nI_clamp, nI_add, pk_mul, pk_sub, pk_div, z_rem, z_shr1, z_and1, decide_eq_true_eq, if_pos, if_neg, Option.bind_some, ite_true, ite_false, eq_self, not_false_eq_true, not_true_eq_false, c3, r3, r6, r7, f1, f2])
    (fun N y z _ => by
      refine ⟨?_, ?_⟩
      · show fn_W_packed_37 _ _ (N + 1) _ _ = _
        rw [fn_W_packed_37]
        simp (disch := omega) only [z_lit, z_mm, z_eqm, z_eqm', z_ltm, z_ltm', z_lem, z_lem', nI_leI, nI_ltI, nI_eq, nI_toInt, nI_clamp, nI_add, pk_mul, pk_sub, pk_div, z_rem, z_shr1, z_and1, decide_eq_true_eq, if_pos, if_neg, Option.bind_some, ite_true, ite_false, eq_self, not_false_eq_true, not_true_eq_false, k3]
      · show fn_M_write_241 _ _ _ (N + 1) _ _ _ = _
        rw [fn_M_write_241]
        simp (disch := omega) only [z_lit, z_mm, z_eqm, z_eqm', z_ltm, z_ltm', z_lem, z_lem', nI_leI, nI_ltI, nI_eq, nI_toInt, nI_clamp, nI_add, pk_mul, pk_sub, pk_div, z_rem, z_shr1, z_and1, decide_eq_true_eq, if_pos, if_neg, Option.bind_some, ite_true, ite_false, eq_self, not_false_eq_true, not_true_eq_false, c3]) (N := am_NF) (k := 0) (s := b) (u := m) (by omega) (by rw [z_NF]; omega) ⟨n, by omega, h⟩
  obtain ⟨p1, q1, n1, e1, h1, g1, f1⟩ := W_header (c := 105) (x1 := nI 1) (th := th) hC hM hV h (by omega) (fun th_24 q24 =>
    fn_M_write_126 (nI 1) ds (fun th_26 ou_26 =>
      fn_M_write_164 (nI 1) ds (fun th_27 ou_27 =>
        fn_M_write_207 (nI 1) ds (fun th_28 ou_28 =>
          fn_M_write_241 (nI 1) ds (fun th_29 ou_29 =>
            some (ou_29.2, th_29, ou_29)) am_NF (nI 0) th_28 ou_28) am_NF (nI 0) th_27 ou_27) am_NF (nI 0) th_26 ou_26) am_NF (nI 0) th_24 q24)
  have f2 : ∀ κ', fn_M_write_126 (nI 1) ds κ' am_NF (nI 0) th q1 = κ' th q1 := fun κ' => by
    obtain ⟨N, hN⟩ : ∃ N, am_NF = N + 1 := ⟨4095, rfl⟩
    rw [hN, fn_M_write_126]
    by_cases hz : D.2.1 0 ≤ 0
    · simp (disch := omega) only [z_lit, z_mm, z_eqm, z_eqm', z_ltm, z_ltm', z_lem, z_lem', nI_leI, nI_ltI, nI_eq, nI_toInt, nI_clamp, nI_add, pk_mul, pk_sub, pk_div, z_rem, z_shr1, z_and1, decide_eq_true_eq, if_pos, if_neg, Option.bind_some, ite_true, ite_false, eq_self, not_false_eq_true, not_true_eq_false, c0]
    · simp (disch := omega) only [z_lit, z_mm, z_eqm, z_eqm', z_ltm, z_ltm', z_lem, z_lem', nI_leI, nI_ltI, nI_eq, nI_toInt, nI_clamp, nI_add, pk_mul, pk_sub, pk_div, z_rem, z_shr1, z_and1, decide_eq_true_eq, if_pos, if_neg, Option.bind_some, ite_true, ite_false, eq_self, not_false_eq_true, not_true_eq_false, c0]
  obtain ⟨p3, q3, ⟨n3, h3, g3⟩, e3, f3⟩ := L2 (fun pg_18 =>
      (fn_W_outputs pg_18 d).bind fun q18 =>
      fn_W_packed_37 d (fun pg_20 =>
        some pg_20) am_NF (nI 0) q18) (fun th_27 ou_27 =>
        fn_M_write_207 (nI 1) ds (fun th_28 ou_28 =>
          fn_M_write_241 (nI 1) ds (fun th_29 ou_29 =>
            some (ou_29.2, th_29, ou_29)) am_NF (nI 0) th_28 ou_28) am_NF (nI 0) th_27 ou_27) n1 p1 q1 g1 (by omega)
  obtain ⟨p4, q4, n4, e4, h4, g4, f4⟩ := W_outputs (x1 := nI 1) (th := th) hC hM hV g3 (by omega) (fun th_28 ou_28 =>
          fn_M_write_241 (nI 1) ds (fun th_29 ou_29 =>
            some (ou_29.2, th_29, ou_29)) am_NF (nI 0) th_28 ou_28)
  obtain ⟨p5, q5, ⟨n5, h5, g5⟩, e5, f5⟩ := L4 (fun pg_20 => some pg_20) (fun th_29 ou_29 => some (ou_29.2, th_29, ou_29)) n4 p4 q4 g4 (by omega)
  refine ⟨p5, q5, n5, ?_, g5, ?_⟩
  · unfold fn_W_packed
    simp only [z_lit]
    rw [e1]
    simp only [Option.bind_some]
    refine e3.trans ?_
    rw [e4]
    simp only [Option.bind_some]
    exact e5
  · unfold fn_M_write_66
    simp only [z_lit]
    obtain ⟨t5, g5'⟩ := g5
    rw [← g5'.2.2.1]
    exact (((f1.trans (f2 _)).trans f3).trans f4).trans f5
theorem P_write {pg : SB} {ou : Mou} {n : Nat} {th : Mth} {d : SD} {ds : Mds} {D : De} (hC : CD d D) (hM : MD ds D) (hV : Vd D) (h : BRn pg ou n) (x : Int32) :
    ∃ r pg' w th' ou', fn_T_write x pg d = some (r, pg') ∧ fn_M_write x th ds ou = some (w, th', ou') ∧ (∃ n', BRn pg' ou' n') ∧ ((r = .int w ∧ th' = 0) ∨ (r = .retAddr 0 ∧ th' = 1) ∨ (r = .retAddr 3 ∧ th' = 2)) := by
  have hcl : BRn (pg.1, nI 0) (ou.1, nI 0) 0 := ⟨fun _ => 0, by omega, rfl, rfl, fun k hk => absurd hk (by omega)⟩
  by_cases x0 : x = nI 0
  · subst x0
    obtain ⟨b', m', n', e1, g1, f1⟩ := W_plain (th := nI 0) hC hM hV hcl
    refine ⟨.int (nI n'), b', nI n', nI 0, m', ?_, ?_, ⟨n', g1⟩, Or.inl ⟨rfl, rfl⟩⟩
    · unfold fn_T_write fn_T_write_19 fn_T_write_44 fn_B_clear fn_T_write_80 fn_B_size
      obtain ⟨t, g1⟩ := g1
      have h2 := g1.2.1
      simp (disch := omega) only [z_lit, z_mm, z_eqm, z_eqm', z_ltm, z_ltm', z_lem, z_lem', nI_leI, nI_ltI, nI_eq, nI_toInt, nI_clamp, nI_add, pk_mul, pk_sub, pk_div, z_rem, z_shr1, z_and1, decide_eq_true_eq, if_pos, if_neg, Option.bind_some, ite_true, ite_false, eq_self, not_false_eq_true, not_true_eq_false, e1, h2]
    · unfold fn_M_write fn_M_write_30 fn_M_write_31
      simp (disch := omega) only [z_lit, z_mm, z_eqm, z_eqm', z_ltm, z_ltm', z_lem, z_lem', nI_leI, nI_ltI, nI_eq, nI_toInt, nI_clamp, nI_add, pk_mul, pk_sub, pk_div, z_rem, z_shr1, z_and1, decide_eq_true_eq, if_pos, if_neg, Option.bind_some, ite_true, ite_false, eq_self, not_false_eq_true, not_true_eq_false]
      exact f1
  by_cases x1 : x = nI 1
  · subst x1
    by_cases hI : IO D
    · obtain ⟨b', m', n', e1, g1, f1⟩ := W_packed (th := nI 0) hC hM hV hI hcl
      refine ⟨.int (nI n'), b', nI n', nI 0, m', ?_, ?_, ⟨n', g1⟩, Or.inl ⟨rfl, rfl⟩⟩
      · unfold fn_T_write fn_T_write_19 fn_T_write_44 fn_B_clear fn_T_write_80 fn_B_size
        obtain ⟨t, g1⟩ := g1
        have h2 := g1.2.1
        simp (disch := omega) only [z_lit, z_mm, z_eqm, z_eqm', z_ltm, z_ltm', z_lem, z_lem', nI_leI, nI_ltI, nI_eq, nI_toInt, nI_clamp, nI_add, pk_mul, pk_sub, pk_div, z_rem, z_shr1, z_and1, decide_eq_true_eq, if_pos, if_neg, Option.bind_some, ite_true, ite_false, eq_self, not_false_eq_true, not_true_eq_false, (C_inOrder hC hV).1 hI, e1, h2]
      · unfold fn_M_write fn_M_write_30 fn_M_write_31
        simp (disch := omega) only [z_lit, z_mm, z_eqm, z_eqm', z_ltm, z_ltm', z_lem, z_lem', nI_leI, nI_ltI, nI_eq, nI_toInt, nI_clamp, nI_add, pk_mul, pk_sub, pk_div, z_rem, z_shr1, z_and1, decide_eq_true_eq, if_pos, if_neg, Option.bind_some, ite_true, ite_false, eq_self, not_false_eq_true, not_true_eq_false, (M_isOrdered hM hV).1 hI]
        exact f1
    · refine ⟨.retAddr 3, pg, 0, 2, ou, ?_, ?_, ⟨n, h⟩, Or.inr (Or.inr ⟨rfl, rfl⟩)⟩
      · unfold fn_T_write fn_T_write_19
        simp (disch := omega) only [z_lit, z_mm, z_eqm, z_eqm', z_ltm, z_ltm', z_lem, z_lem', nI_leI, nI_ltI, nI_eq, nI_toInt, nI_clamp, nI_add, pk_mul, pk_sub, pk_div, z_rem, z_shr1, z_and1, decide_eq_true_eq, if_pos, if_neg, Option.bind_some, ite_true, ite_false, eq_self, not_false_eq_true, not_true_eq_false, (C_inOrder hC hV).2 hI]
      · unfold fn_M_write fn_M_write_31
        simp (disch := omega) only [z_lit, z_mm, z_eqm, z_eqm', z_ltm, z_ltm', z_lem, z_lem', nI_leI, nI_ltI, nI_eq, nI_toInt, nI_clamp, nI_add, pk_mul, pk_sub, pk_div, z_rem, z_shr1, z_and1, decide_eq_true_eq, if_pos, if_neg, Option.bind_some, ite_true, ite_false, eq_self, not_false_eq_true, not_true_eq_false, (M_isOrdered hM hV).2 hI]
  · refine ⟨.retAddr 0, pg, 0, 1, ou, ?_, ?_, ⟨n, h⟩, Or.inr (Or.inl ⟨rfl, rfl⟩)⟩
    · unfold fn_T_write
      simp (disch := omega) only [z_lit, z_mm, z_eqm, z_eqm', z_ltm, z_ltm', z_lem, z_lem', nI_leI, nI_ltI, nI_eq, nI_toInt, nI_clamp, nI_add, pk_mul, pk_sub, pk_div, z_rem, z_shr1, z_and1, decide_eq_true_eq, if_pos, if_neg, Option.bind_some, ite_true, ite_false, eq_self, not_false_eq_true, not_true_eq_false, x0, x1]
    · unfold fn_M_write fn_M_write_10 fn_M_write_31
      by_cases h0 : x < nI 0
      · simp (disch := omega) only [z_lit, z_mm, z_eqm, z_eqm', z_ltm, z_ltm', z_lem, z_lem', nI_leI, nI_ltI, nI_eq, nI_toInt, nI_clamp, nI_add, pk_mul, pk_sub, pk_div, z_rem, z_shr1, z_and1, decide_eq_true_eq, if_pos, if_neg, Option.bind_some, ite_true, ite_false, eq_self, not_false_eq_true, not_true_eq_false, h0]
      · have h1 : ¬ x ≤ nI 1 := fun z => by
          obtain ⟨j, -, hj, e⟩ := z_range (by omega) h0 z (by omega)
          have hj' : j = 0 ∨ j = 1 := by omega
          rcases hj' with rfl | rfl
          · exact x0 e
          · exact x1 e
        simp (disch := omega) only [z_lit, z_mm, z_eqm, z_eqm', z_ltm, z_ltm', z_lem, z_lem', nI_leI, nI_ltI, nI_eq, nI_toInt, nI_clamp, nI_add, pk_mul, pk_sub, pk_div, z_rem, z_shr1, z_and1, decide_eq_true_eq, if_pos, if_neg, Option.bind_some, ite_true, ite_false, eq_self, not_false_eq_true, not_true_eq_false, h0, h1]
