/-! THE REFERENCE'S order, behind the numbers -/
def sNg (nd : Mnd) (g l r : Nat → Int32) : Mnd := (nd.1, nd.2.1, nd.2.2.1, nd.2.2.2.1, nd.2.2.2.2.1, nd.2.2.2.2.2.1, nd.2.2.2.2.2.2.1, g, l, r)
def sDg (ds : Mds) (g l r : Nat → Int32) : Mds := (ds.1, ds.2.1, ds.2.2.1, ds.2.2.2.1, ds.2.2.2.2.1, ds.2.2.2.2.2.1, ds.2.2.2.2.2.2.1, g, l, r)
def sDo (ds : Mds) (o : Nat → Int32) : Mds := (ds.1, ds.2.1, ds.2.2.1, ds.2.2.2.1, ds.2.2.2.2.1, ds.2.2.2.2.2.1, o, ds.2.2.2.2.2.2.2)
def sDl (ds : Mds) (l n : Nat → Int32) : Mds := (ds.1, ds.2.1, ds.2.2.1, l, n, ds.2.2.2.2.2)
def sDi (ds : Mds) (i : Nat → Int32) : Mds := (ds.1, ds.2.1, i, ds.2.2.2)
/-- the first k of f are as g says -/
def Eqk (f : Nat → Int32) (g : Nat → Nat) (k : Nat) : Prop := ∀ j, j < k → f j = nI (g j)
theorem Eqk_0 {f : Nat → Int32} {g : Nat → Nat} : Eqk f g 0 := fun j hj => absurd hj (by omega)
theorem Eqk_s {f : Nat → Int32} {g : Nat → Nat} {k : Nat} (h : Eqk f g k) : Eqk (upd f k (nI (g k))) g (k + 1) := fun j hj => by
  by_cases e : j = k
  · subst e; rw [pk_us]
  · rw [pk_un e]; exact h j (by omega)
/-- from k on, f is g -/
def Frm (f g : Nat → Int32) (k : Nat) : Prop := ∀ j, k ≤ j → f j = g j
theorem Frm_s {f g : Nat → Int32} {k : Nat} {x : Int32} (h : Frm f g k) : Frm (upd f k x) g (k + 1) := fun j hj => by
  rw [pk_un (by omega)]; exact h j (by omega)
theorem M_order162 {x1 : Int32} {th : Mth} {ds : Mds} {nd : Mnd} {nu : Mnu} {D : De} {s : Nat → Nat} (h : MD ds D) (hV : Vd D) (hs : Sq D s (D.2.1 3)) (hf : MF D s nu.1) (hq : ∀ j, j < D.2.1 3 → nu.2 j = nI (s j)) (κ : Mth → Mds → Mnd → Mnu → Option (Mth × Mds × Mnd × Mnu)) :
    ∃ g l r, Eqk g ((newD D s).2.2 3) (D.2.1 3) ∧ Eqk l ((newD D s).2.2 6) (D.2.1 3) ∧ Eqk r ((newD D s).2.2 7) (D.2.1 3) ∧ fn_M_order_162 x1 (nI (D.2.1 0 + D.2.1 1 + 1)) κ am_NF (nI 0) th ds nd nu = κ th ds (sNg nd g l r) nu := by
  have hb := hV.1
  have hl := hV.2.1
  obtain ⟨b0, b1, b2, b3, b4⟩ := id hb
  have c3 : ds.2.1 3 = nI (D.2.1 3) := h.2.1 3 (by omega)
  have r6 : ∀ k, k < D.2.1 3 → ds.2.2.2.2.2.2.2.2.1 k = nI (D.2.2 6 k) := fun k hk => h.2.2 6 k (by omega) hk
  have r7 : ∀ k, k < D.2.1 3 → ds.2.2.2.2.2.2.2.2.2 k = nI (D.2.2 7 k) := fun k hk => h.2.2 7 k (by omega) hk
  obtain ⟨x, ⟨g, l, r, hx, p3, p6, p7⟩, e1⟩ := z_loop (fun N k (x : Mnd) => fn_M_order_162 x1 (nI (D.2.1 0 + D.2.1 1 + 1)) κ N (nI k) th ds x nu) (fun x => κ th ds x nu) (D.2.1 3) (fun k x => ∃ g l r, x = sNg nd g l r ∧ Eqk g ((newD D s).2.2 3) k ∧ Eqk l ((newD D s).2.2 6) k ∧ Eqk r ((newD D s).2.2 7) k)
    (fun N k x hk ⟨g, l, r, hx, p3, p6, p7⟩ => by
      subst hx
      have hsk := (hs k hk).1
      have hlt6 := hl 6 (s k) (by omega) hsk
      have hlt7 := hl 7 (s k) (by omega) hsk
      have e6 := r6 (s k) hsk
      have e7 := r7 (s k) hsk
      have hqk := hq k hk
      have ha6 : fn_M_anew (nI (D.2.2 6 (s k))) nu = some (nI (rn D s (D.2.2 6 (s k)))) := M_anew hf hb (hV.2.2.2.2.2.1 6 (s k) (by omega) hsk) hlt6
      have ha7 : fn_M_anew (nI (D.2.2 7 (s k))) nu = some (nI (rn D s (D.2.2 7 (s k)))) := M_anew hf hb (hV.2.2.2.2.2.1 7 (s k) (by omega) hsk) hlt7
      have l6 := rn_lt (s := s) hb (D.2.2 6 (s k))
      have l7 := rn_lt (s := s) hb (D.2.2 7 (s k))
      have n3 : (newD D s).2.2 3 k = 2 * (D.2.1 0 + D.2.1 1 + 1 + k) := by
        rw [newD_3, ← odv_g (s := s), rn_odv hV hs (by unfold dn; omega)]; omega
      refine ⟨sNg nd (upd g k (nI ((newD D s).2.2 3 k))) (upd l k (nI ((newD D s).2.2 6 k))) (upd r k (nI ((newD D s).2.2 7 k))), ⟨_, _, _, rfl, Eqk_s p3, Eqk_s p6, Eqk_s p7⟩, ?_⟩
      show fn_M_order_162 _ _ _ (N + 1) _ _ _ _ _ = _
      rw [fn_M_order_162, n3, newD_6, newD_7]
      by_cases hle : rn D s (D.2.2 6 (s k)) ≤ rn D s (D.2.2 7 (s k))
      · by_cases hlt : rn D s (D.2.2 6 (s k)) < rn D s (D.2.2 7 (s k))
        · simp (disch := omega) only [z_lit, z_mm, z_eqm, z_eqm', z_ltm, z_ltm', z_lem, z_lem', nI_leI, nI_ltI, nI_eq, nI_toInt, nI_clamp, nI_add, pk_mul, pk_sub, pk_div, z_rem, z_shr1, z_and1, decide_eq_true_eq, if_pos, if_neg, Option.bind_some, ite_true, ite_false, eq_self, not_false_eq_true, not_true_eq_false, c3, hqk, e6, e7, ha6, ha7, sNg]
        · have he : rn D s (D.2.2 7 (s k)) = rn D s (D.2.2 6 (s k)) := by omega
          simp (disch := omega) only [z_lit, z_mm, z_eqm, z_eqm', z_ltm, z_ltm', z_lem, z_lem', nI_leI, nI_ltI, nI_eq, nI_toInt, nI_clamp, nI_add, pk_mul, pk_sub, pk_div, z_rem, z_shr1, z_and1, decide_eq_true_eq, if_pos, if_neg, Option.bind_some, ite_true, ite_false, eq_self, not_false_eq_true, not_true_eq_false, c3, hqk, e6, e7, ha6, ha7, sNg, he]
      · simp (disch := omega) only [z_lit, z_mm, z_eqm, z_eqm', z_ltm, z_ltm', z_lem, z_lem', nI_leI, nI_ltI, nI_eq, nI_toInt, nI_clamp, nI_add, pk_mul, pk_sub, pk_div, z_rem, z_shr1, z_and1, decide_eq_true_eq, if_pos, if_neg, Option.bind_some, ite_true, ite_false, eq_self, not_false_eq_true, not_true_eq_false, c3, hqk, e6, e7, ha6, ha7, sNg])
    (fun N x ⟨g, l, r, hx, p3, p6, p7⟩ => by
      show fn_M_order_162 _ _ _ (N + 1) _ _ _ _ _ = _
      rw [fn_M_order_162]
      simp (disch := omega) only [z_lit, z_mm, z_eqm, z_eqm', z_ltm, z_ltm', z_lem, z_lem', nI_leI, nI_ltI, nI_eq, nI_toInt, nI_clamp, nI_add, pk_mul, pk_sub, pk_div, z_rem, z_shr1, z_and1, decide_eq_true_eq, if_pos, if_neg, Option.bind_some, ite_true, ite_false, eq_self, not_false_eq_true, not_true_eq_false, c3]) (N := am_NF) (k := 0) (s := sNg nd nd.2.2.2.2.2.2.2.1 nd.2.2.2.2.2.2.2.2.1 nd.2.2.2.2.2.2.2.2.2) (by omega) (by rw [z_NF]; omega) ⟨_, _, _, rfl, Eqk_0, Eqk_0, Eqk_0⟩
  exact ⟨g, l, r, p3, p6, p7, e1.trans (by rw [hx])⟩
theorem M_order265 {x1 : Int32} {th : Mth} {ds : Mds} {nd : Mnd} {nu : Mnu} {D E : De} (hE : D.2.1 3 ≤ 60) (c3 : ds.2.1 3 = nI (D.2.1 3)) (p3 : Eqk nd.2.2.2.2.2.2.2.1 (E.2.2 3) (D.2.1 3)) (p6 : Eqk nd.2.2.2.2.2.2.2.2.1 (E.2.2 6) (D.2.1 3)) (p7 : Eqk nd.2.2.2.2.2.2.2.2.2 (E.2.2 7) (D.2.1 3)) (κ : Mth → Mds → Mnd → Mnu → Option (Mth × Mds × Mnd × Mnu)) :
    ∃ g l r, Eqk g (E.2.2 3) (D.2.1 3) ∧ Eqk l (E.2.2 6) (D.2.1 3) ∧ Eqk r (E.2.2 7) (D.2.1 3) ∧ fn_M_order_265 x1 κ am_NF (nI 0) th ds nd nu = κ th (sDg ds g l r) nd nu := by
  obtain ⟨x, ⟨g, l, r, hx, q3, q6, q7⟩, e1⟩ := z_loop (fun N k (x : Mds) => fn_M_order_265 x1 κ N (nI k) th x nd nu) (fun x => κ th x nd nu) (D.2.1 3) (fun k x => ∃ g l r, x = sDg ds g l r ∧ Eqk g (E.2.2 3) k ∧ Eqk l (E.2.2 6) k ∧ Eqk r (E.2.2 7) k)
    (fun N k x hk ⟨g, l, r, hx, q3, q6, q7⟩ => by
      subst hx
      refine ⟨sDg ds (upd g k (nI (E.2.2 3 k))) (upd l k (nI (E.2.2 6 k))) (upd r k (nI (E.2.2 7 k))), ⟨_, _, _, rfl, Eqk_s q3, Eqk_s q6, Eqk_s q7⟩, ?_⟩
      show fn_M_order_265 _ _ (N + 1) _ _ _ _ _ = _
      rw [fn_M_order_265]
      have a3 := p3 k hk
      have a6 := p6 k hk
      have a7 := p7 k hk
      simp (disch := omega) only [z_lit, z_mm, z_eqm, z_eqm', z_ltm, z_ltm', z_lem, z_lem', nI_leI, nI_ltI, nI_eq, nI_toInt, nI_clamp, nI_add, pk_mul, pk_sub, pk_div, z_rem, z_shr1, z_and1, decide_eq_true_eq, if_pos, if_neg, Option.bind_some, ite_true, ite_false, eq_self, not_false_eq_true, not_true_eq_false, sDg, c3, a3, a6, a7])
    (fun N x ⟨g, l, r, hx, q3, q6, q7⟩ => by
      subst hx
      show fn_M_order_265 _ _ (N + 1) _ _ _ _ _ = _
      rw [fn_M_order_265]
      simp (disch := omega) only [z_lit, z_mm, z_eqm, z_eqm', z_ltm, z_ltm', z_lem, z_lem', nI_leI, nI_ltI, nI_eq, nI_toInt, nI_clamp, nI_add, pk_mul, pk_sub, pk_div, z_rem, z_shr1, z_and1, decide_eq_true_eq, if_pos, if_neg, Option.bind_some, ite_true, ite_false, eq_self, not_false_eq_true, not_true_eq_false, sDg, c3]) (N := am_NF) (k := 0) (s := sDg ds ds.2.2.2.2.2.2.2.1 ds.2.2.2.2.2.2.2.2.1 ds.2.2.2.2.2.2.2.2.2) (by omega) (by rw [z_NF]; omega) ⟨_, _, _, rfl, Eqk_0, Eqk_0, Eqk_0⟩
  exact ⟨g, l, r, q3, q6, q7, e1.trans (by rw [hx])⟩
theorem M_order319 {x1 : Int32} {th : Mth} {ds : Mds} {nd : Mnd} {nu : Mnu} {D : De} {s : Nat → Nat} (hV : Vd D) (c2 : ds.2.1 2 = nI (D.2.1 2)) (hf : MF D s nu.1) (p2 : Eqk ds.2.2.2.2.2.2.1 (D.2.2 2) (D.2.1 2)) (κ : Mth → Mds → Mnd → Mnu → Option (Mth × Mds × Mnd × Mnu)) :
    ∃ o, Eqk o ((newD D s).2.2 2) (D.2.1 2) ∧ fn_M_order_319 x1 κ am_NF (nI 0) th ds nd nu = κ th (sDo ds o) nd nu := by
  have hb := hV.1
  have hl := hV.2.1
  obtain ⟨b0, b1, b2, b3, b4⟩ := id hb
  obtain ⟨x, ⟨o, hx, q2, -⟩, e1⟩ := z_loop (fun N k (x : Mds) => fn_M_order_319 x1 κ N (nI k) th x nd nu) (fun x => κ th x nd nu) (D.2.1 2) (fun k x => ∃ o, x = sDo ds o ∧ Eqk o ((newD D s).2.2 2) k ∧ Frm o ds.2.2.2.2.2.2.1 k)
    (fun N k x hk ⟨o, hx, q2, f2⟩ => by
      subst hx
      refine ⟨sDo ds (upd o k (nI ((newD D s).2.2 2 k))), ⟨_, rfl, Eqk_s q2, Frm_s f2⟩, ?_⟩
      show fn_M_order_319 _ _ (N + 1) _ _ _ _ _ = _
      rw [fn_M_order_319]
      have a2 : o k = nI (D.2.2 2 k) := (f2 k (Nat.le_refl k)).trans (p2 k hk)
      have ha : fn_M_anew (nI (D.2.2 2 k)) nu = some (nI ((newD D s).2.2 2 k)) := M_anew hf hb (hV.2.2.2.2.2.1 2 k (by omega) hk) (hl 2 k (by omega) hk)
      simp (disch := omega) only [z_lit, z_mm, z_eqm, z_eqm', z_ltm, z_ltm', z_lem, z_lem', nI_leI, nI_ltI, nI_eq, nI_toInt, nI_clamp, nI_add, pk_mul, pk_sub, pk_div, z_rem, z_shr1, z_and1, decide_eq_true_eq, if_pos, if_neg, Option.bind_some, ite_true, ite_false, eq_self, not_false_eq_true, not_true_eq_false, sDo, c2, a2, ha])
    (fun N x ⟨o, hx, _⟩ => by
      subst hx
      show fn_M_order_319 _ _ (N + 1) _ _ _ _ _ = _
      rw [fn_M_order_319]
      simp (disch := omega) only [z_lit, z_mm, z_eqm, z_eqm', z_ltm, z_ltm', z_lem, z_lem', nI_leI, nI_ltI, nI_eq, nI_toInt, nI_clamp, nI_add, pk_mul, pk_sub, pk_div, z_rem, z_shr1, z_and1, decide_eq_true_eq, if_pos, if_neg, Option.bind_some, ite_true, ite_false, eq_self, not_false_eq_true, not_true_eq_false, sDo, c2]) (N := am_NF) (k := 0) (s := sDo ds ds.2.2.2.2.2.2.1) (by omega) (by rw [z_NF]; omega) ⟨_, rfl, Eqk_0, fun j _ => rfl⟩
  exact ⟨o, q2, e1.trans (by rw [hx])⟩
theorem M_order353 {x1 : Int32} {th : Mth} {ds : Mds} {nd : Mnd} {nu : Mnu} {D : De} {s : Nat → Nat} (hV : Vd D) (c1 : ds.2.1 1 = nI (D.2.1 1)) (hf : MF D s nu.1) (p1 : Eqk ds.2.2.2.1 (D.2.2 1) (D.2.1 1)) (p4 : Eqk ds.2.2.2.2.1 (D.2.2 4) (D.2.1 1)) (κ : Mth → Mds → Mnd → Mnu → Option (Mth × Mds × Mnd × Mnu)) :
    ∃ l n, Eqk l ((newD D s).2.2 1) (D.2.1 1) ∧ Eqk n ((newD D s).2.2 4) (D.2.1 1) ∧ fn_M_order_353 x1 κ am_NF (nI 0) th ds nd nu = κ th (sDl ds l n) nd nu := by
  have hb := hV.1
  have hl := hV.2.1
  obtain ⟨b0, b1, b2, b3, b4⟩ := id hb
  obtain ⟨x, ⟨l, n, hx, q1, q4, -⟩, e1⟩ := z_loop (fun N k (x : Mds) => fn_M_order_353 x1 κ N (nI k) th x nd nu) (fun x => κ th x nd nu) (D.2.1 1) (fun k x => ∃ l n, x = sDl ds l n ∧ Eqk l ((newD D s).2.2 1) k ∧ Eqk n ((newD D s).2.2 4) k ∧ Frm l ds.2.2.2.1 k ∧ Frm n ds.2.2.2.2.1 k)
    (fun N k x hk ⟨l, n, hx, q1, q4, f1, f4⟩ => by
      subst hx
      refine ⟨sDl ds (upd l k (nI ((newD D s).2.2 1 k))) (upd n k (nI ((newD D s).2.2 4 k))), ⟨_, _, rfl, Eqk_s q1, Eqk_s q4, Frm_s f1, Frm_s f4⟩, ?_⟩
      show fn_M_order_353 _ _ (N + 1) _ _ _ _ _ = _
      rw [fn_M_order_353]
      have a1 : l k = nI (D.2.2 1 k) := (f1 k (Nat.le_refl k)).trans (p1 k hk)
      have a4 : n k = nI (D.2.2 4 k) := (f4 k (Nat.le_refl k)).trans (p4 k hk)
      have ha1 : fn_M_anew (nI (D.2.2 1 k)) nu = some (nI ((newD D s).2.2 1 k)) := M_anew hf hb (isDef_l hk) (hl 1 k (by omega) hk)
      have ha4 : fn_M_anew (nI (D.2.2 4 k)) nu = some (nI ((newD D s).2.2 4 k)) := M_anew hf hb (hV.2.2.2.2.2.1 4 k (by omega) hk) (hl 4 k (by omega) hk)
      simp (disch := omega) only [z_lit, z_mm, z_eqm, z_eqm', z_ltm, z_ltm', z_lem, z_lem', nI_leI, nI_ltI, nI_eq, nI_toInt, nI_clamp, nI_add, pk_mul, pk_sub, pk_div, z_rem, z_shr1, z_and1, decide_eq_true_eq, if_pos, if_neg, Option.bind_some, ite_true, ite_false, eq_self, not_false_eq_true, not_true_eq_false, sDl, c1, a1, a4, ha1, ha4])
    (fun N x ⟨l, n, hx, _⟩ => by
      subst hx
      show fn_M_order_353 _ _ (N + 1) _ _ _ _ _ = _
      rw [fn_M_order_353]
      simp (disch := omega) only [z_lit, z_mm, z_eqm, z_eqm', z_ltm, z_ltm', z_lem, z_lem', nI_leI, nI_ltI, nI_eq, nI_toInt, nI_clamp, nI_add, pk_mul, pk_sub, pk_div, z_rem, z_shr1, z_and1, decide_eq_true_eq, if_pos, if_neg, Option.bind_some, ite_true, ite_false, eq_self, not_false_eq_true, not_true_eq_false, sDl, c1]) (N := am_NF) (k := 0) (s := sDl ds ds.2.2.2.1 ds.2.2.2.2.1) (by omega) (by rw [z_NF]; omega) ⟨_, _, rfl, Eqk_0, Eqk_0, fun j _ => rfl, fun j _ => rfl⟩
  exact ⟨l, n, q1, q4, e1.trans (by rw [hx])⟩
theorem M_order403 {x1 : Int32} {th : Mth} {ds : Mds} {nd : Mnd} {nu : Mnu} {D : De} {s : Nat → Nat} (hV : Vd D) (c0 : ds.2.1 0 = nI (D.2.1 0)) (hf : MF D s nu.1) (p0 : Eqk ds.2.2.1 (D.2.2 0) (D.2.1 0)) (κ : Mth → Mds → Mnd → Mnu → Option (Mth × Mds × Mnd × Mnu)) :
    ∃ i, Eqk i ((newD D s).2.2 0) (D.2.1 0) ∧ fn_M_order_403 x1 κ am_NF (nI 0) th ds nd nu = κ th (sDi ds i) nd nu := by
  have hb := hV.1
  have hl := hV.2.1
  obtain ⟨b0, b1, b2, b3, b4⟩ := id hb
  obtain ⟨x, ⟨o, hx, q2, -⟩, e1⟩ := z_loop (fun N k (x : Mds) => fn_M_order_403 x1 κ N (nI k) th x nd nu) (fun x => κ th x nd nu) (D.2.1 0) (fun k x => ∃ o, x = sDi ds o ∧ Eqk o ((newD D s).2.2 0) k ∧ Frm o ds.2.2.1 k)
    (fun N k x hk ⟨o, hx, q2, f2⟩ => by
      subst hx
      refine ⟨sDi ds (upd o k (nI ((newD D s).2.2 0 k))), ⟨_, rfl, Eqk_s q2, Frm_s f2⟩, ?_⟩
      show fn_M_order_403 _ _ (N + 1) _ _ _ _ _ = _
      rw [fn_M_order_403]
      have a2 : o k = nI (D.2.2 0 k) := (f2 k (Nat.le_refl k)).trans (p0 k hk)
      have ha : fn_M_anew (nI (D.2.2 0 k)) nu = some (nI ((newD D s).2.2 0 k)) := M_anew hf hb (isDef_i hk) (hl 0 k (by omega) hk)
      simp (disch := omega) only [z_lit, z_mm, z_eqm, z_eqm', z_ltm, z_ltm', z_lem, z_lem', nI_leI, nI_ltI, nI_eq, nI_toInt, nI_clamp, nI_add, pk_mul, pk_sub, pk_div, z_rem, z_shr1, z_and1, decide_eq_true_eq, if_pos, if_neg, Option.bind_some, ite_true, ite_false, eq_self, not_false_eq_true, not_true_eq_false, sDi, c0, a2, ha])
    (fun N x ⟨o, hx, _⟩ => by
      subst hx
      show fn_M_order_403 _ _ (N + 1) _ _ _ _ _ = _
      rw [fn_M_order_403]
      simp (disch := omega) only [z_lit, z_mm, z_eqm, z_eqm', z_ltm, z_ltm', z_lem, z_lem', nI_leI, nI_ltI, nI_eq, nI_toInt, nI_clamp, nI_add, pk_mul, pk_sub, pk_div, z_rem, z_shr1, z_and1, decide_eq_true_eq, if_pos, if_neg, Option.bind_some, ite_true, ite_false, eq_self, not_false_eq_true, not_true_eq_false, sDi, c0]) (N := am_NF) (k := 0) (s := sDi ds ds.2.2.1) (by omega) (by rw [z_NF]; omega) ⟨_, rfl, Eqk_0, fun j _ => rfl⟩
  exact ⟨o, q2, e1.trans (by rw [hx])⟩
theorem M_order {th : Mth} {ds : Mds} {nd : Mnd} {nu : Mnu} {D : De} {s : Nat → Nat} (h : MD ds D) (hV : Vd D) (hs : Sq D s (D.2.1 3)) :
    ∃ th' ds' nd' nu', fn_M_order th ds nd nu = some (th', ds', nd', nu') ∧ MD ds' (newD D s) ∧ ds'.2.2.2.2.2.1 = ds.2.2.2.2.2.1 := by
  have hb := hV.1
  have c0 : ds.2.1 0 = nI (D.2.1 0) := h.2.1 0 (by omega)
  have c1 : ds.2.1 1 = nI (D.2.1 1) := h.2.1 1 (by omega)
  have c2 : ds.2.1 2 = nI (D.2.1 2) := h.2.1 2 (by omega)
  have c3 : ds.2.1 3 = nI (D.2.1 3) := h.2.1 3 (by omega)
  obtain ⟨f, q, hn, hq, e0⟩ := M_numbers (th := 0) (nd := nd) (nu := nu) h hV hs (fun x1_12 x2 th_12 ds_12 nd_12 nu_12 =>
          fn_M_order_162 x1_12 x2 (fun th_13 ds_13 nd_13 nu_13 =>
            fn_M_order_265 x1_12 (fun th_14 ds_14 nd_14 nu_14 =>
              fn_M_order_319 x1_12 (fun th_15 ds_15 nd_15 nu_15 =>
                fn_M_order_353 x1_12 (fun th_16 ds_16 nd_16 nu_16 =>
                  fn_M_order_403 x1_12 (fun th_17 ds_17 nd_17 nu_17 =>
                    some (th_17, (x1_12, ds_17.2.1, ds_17.2.2.1, ds_17.2.2.2.1, ds_17.2.2.2.2.1, ds_17.2.2.2.2.2.1, ds_17.2.2.2.2.2.2.1, ds_17.2.2.2.2.2.2.2.1, ds_17.2.2.2.2.2.2.2.2.1, ds_17.2.2.2.2.2.2.2.2.2), nd_17, nu_17)) am_NF (0 : Int32) th_16 ds_16 nd_16 nu_16) am_NF (0 : Int32) th_15 ds_15 nd_15 nu_15) am_NF (0 : Int32) th_14 ds_14 nd_14 nu_14) am_NF (0 : Int32) th_13 ds_13 nd_13 nu_13) am_NF (0 : Int32) th_12 ds_12 nd_12 nu_12)
  have hMF : MF D s f := fun v hv => NM_def hV hs hn hv
  obtain ⟨g, l, r, p3, p6, p7, e1⟩ := M_order162 (x1 := nI (dn D)) (th := 0) (nd := nd) (nu := (f, q)) h hV hs hMF hq (fun th_13 ds_13 nd_13 nu_13 =>
            fn_M_order_265 (nI (dn D)) (fun th_14 ds_14 nd_14 nu_14 =>
              fn_M_order_319 (nI (dn D)) (fun th_15 ds_15 nd_15 nu_15 =>
                fn_M_order_353 (nI (dn D)) (fun th_16 ds_16 nd_16 nu_16 =>
                  fn_M_order_403 (nI (dn D)) (fun th_17 ds_17 nd_17 nu_17 =>
                    some (th_17, (nI (dn D), ds_17.2.1, ds_17.2.2.1, ds_17.2.2.2.1, ds_17.2.2.2.2.1, ds_17.2.2.2.2.2.1, ds_17.2.2.2.2.2.2.1, ds_17.2.2.2.2.2.2.2.1, ds_17.2.2.2.2.2.2.2.2.1, ds_17.2.2.2.2.2.2.2.2.2), nd_17, nu_17)) am_NF (0 : Int32) th_16 ds_16 nd_16 nu_16) am_NF (0 : Int32) th_15 ds_15 nd_15 nu_15) am_NF (0 : Int32) th_14 ds_14 nd_14 nu_14) am_NF (0 : Int32) th_13 ds_13 nd_13 nu_13)
  obtain ⟨g', l', r', q3, q6, q7, e2⟩ := M_order265 (x1 := nI (dn D)) (th := 0) (ds := ds) (nd := sNg nd g l r) (nu := (f, q)) (D := D) (E := newD D s) hb.2.2.2.2 c3 p3 p6 p7 (fun th_14 ds_14 nd_14 nu_14 =>
              fn_M_order_319 (nI (dn D)) (fun th_15 ds_15 nd_15 nu_15 =>
                fn_M_order_353 (nI (dn D)) (fun th_16 ds_16 nd_16 nu_16 =>
                  fn_M_order_403 (nI (dn D)) (fun th_17 ds_17 nd_17 nu_17 =>
                    some (th_17, (nI (dn D), ds_17.2.1, ds_17.2.2.1, ds_17.2.2.2.1, ds_17.2.2.2.2.1, ds_17.2.2.2.2.2.1, ds_17.2.2.2.2.2.2.1, ds_17.2.2.2.2.2.2.2.1, ds_17.2.2.2.2.2.2.2.2.1, ds_17.2.2.2.2.2.2.2.2.2), nd_17, nu_17)) am_NF (0 : Int32) th_16 ds_16 nd_16 nu_16) am_NF (0 : Int32) th_15 ds_15 nd_15 nu_15) am_NF (0 : Int32) th_14 ds_14 nd_14 nu_14)
  obtain ⟨o, q2, e3⟩ := M_order319 (x1 := nI (dn D)) (th := 0) (ds := sDg ds g' l' r') (nd := sNg nd g l r) (nu := (f, q)) hV c2 hMF (fun k hk => h.2.2 2 k (by omega) hk) (fun th_15 ds_15 nd_15 nu_15 =>
                fn_M_order_353 (nI (dn D)) (fun th_16 ds_16 nd_16 nu_16 =>
                  fn_M_order_403 (nI (dn D)) (fun th_17 ds_17 nd_17 nu_17 =>
                    some (th_17, (nI (dn D), ds_17.2.1, ds_17.2.2.1, ds_17.2.2.2.1, ds_17.2.2.2.2.1, ds_17.2.2.2.2.2.1, ds_17.2.2.2.2.2.2.1, ds_17.2.2.2.2.2.2.2.1, ds_17.2.2.2.2.2.2.2.2.1, ds_17.2.2.2.2.2.2.2.2.2), nd_17, nu_17)) am_NF (0 : Int32) th_16 ds_16 nd_16 nu_16) am_NF (0 : Int32) th_15 ds_15 nd_15 nu_15)
  obtain ⟨la, n, q1, q4, e4⟩ := M_order353 (x1 := nI (dn D)) (th := 0) (ds := sDo (sDg ds g' l' r') o) (nd := sNg nd g l r) (nu := (f, q)) hV c1 hMF (fun k hk => h.2.2 1 k (by omega) hk) (fun k hk => h.2.2 4 k (by omega) hk) (fun th_16 ds_16 nd_16 nu_16 =>
                  fn_M_order_403 (nI (dn D)) (fun th_17 ds_17 nd_17 nu_17 =>
                    some (th_17, (nI (dn D), ds_17.2.1, ds_17.2.2.1, ds_17.2.2.2.1, ds_17.2.2.2.2.1, ds_17.2.2.2.2.2.1, ds_17.2.2.2.2.2.2.1, ds_17.2.2.2.2.2.2.2.1, ds_17.2.2.2.2.2.2.2.2.1, ds_17.2.2.2.2.2.2.2.2.2), nd_17, nu_17)) am_NF (0 : Int32) th_16 ds_16 nd_16 nu_16)
  obtain ⟨i, q0, e5⟩ := M_order403 (x1 := nI (dn D)) (th := 0) (ds := sDl (sDo (sDg ds g' l' r') o) la n) (nd := sNg nd g l r) (nu := (f, q)) hV c0 hMF (fun k hk => h.2.2 0 k (by omega) hk) (fun th_17 ds_17 nd_17 nu_17 =>
                    some (th_17, (nI (dn D), ds_17.2.1, ds_17.2.2.1, ds_17.2.2.2.1, ds_17.2.2.2.2.1, ds_17.2.2.2.2.2.1, ds_17.2.2.2.2.2.2.1, ds_17.2.2.2.2.2.2.2.1, ds_17.2.2.2.2.2.2.2.2.1, ds_17.2.2.2.2.2.2.2.2.2), nd_17, nu_17))
  refine ⟨_, _, _, _, ((((e0.trans e1).trans e2).trans e3).trans e4).trans e5, ⟨rfl, fun j hj => h.2.1 j hj, fun j k hj hk => ?_⟩, rfl⟩
  have : j = 0 ∨ j = 1 ∨ j = 2 ∨ j = 3 ∨ j = 4 ∨ j = 5 ∨ j = 6 ∨ j = 7 := by omega
  rcases this with rfl | rfl | rfl | rfl | rfl | rfl | rfl | rfl
  · exact q0 k hk
  · exact q1 k hk
  · exact q2 k hk
  · exact q3 k hk
  · exact q4 k hk
  · exact h.2.2 5 k (by omega) hk
  · exact q6 k hk
  · exact q7 k hk
