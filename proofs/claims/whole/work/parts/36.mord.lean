/-! THE REFERENCE'S order -/
theorem mkd_odv {D : De} {s : Nat → Nat} {k v : Nat} (h : mkd D s k v) : v = 0 ∨ ∃ i, i < D.2.1 0 + D.2.1 1 + k ∧ odv D s i / 2 = v := by
  rcases h with (a | ⟨j, a, b⟩) | ⟨j, a, b⟩
  · exact Or.inl a
  · exact Or.inr ⟨j, by omega, by unfold odv; rw [pm_b a]; exact b⟩
  · exact Or.inr ⟨D.2.1 0 + D.2.1 1 + j, by omega, by rw [odv_g]; exact b⟩
theorem odv_mkd {D : De} {s : Nat → Nat} {k i : Nat} (h : i < D.2.1 0 + D.2.1 1 + k) : mkd D s k (odv D s i / 2) := by
  by_cases a : i < D.2.1 0 + D.2.1 1
  · exact Or.inl (Or.inr ⟨i, a, by unfold odv; rw [pm_b a]⟩)
  · obtain ⟨m, rfl⟩ : ∃ m, i = D.2.1 0 + D.2.1 1 + m := ⟨i - (D.2.1 0 + D.2.1 1), by omega⟩
    exact Or.inr ⟨m, by omega, by rw [odv_g]⟩
/-- the reference's numbers: the first n have theirs, the others none -/
def NR (D : De) (s : Nat → Nat) (f : Nat → Int32) (n : Nat) : Prop := NM D s f n ∧ ∀ v, v < 100 → v ≠ 0 → (¬ ∃ i, i < n ∧ odv D s i / 2 = v) → f v = m1
theorem NR_step {D : De} {s : Nat → Nat} (hV : Vd D) (hs : Sq D s (D.2.1 3)) {f : Nat → Int32} {n : Nat} (hn : n < dn D) (h : NR D s f n) : NR D s (upd f (odv D s n / 2) (nI (n + 1))) (n + 1) := by
  refine ⟨NM_step hV hs hn h.1, fun v hv h0 hx => ?_⟩
  have hne : v ≠ odv D s n / 2 := fun e => hx ⟨n, by omega, e.symm⟩
  rw [pk_un hne]
  exact h.2 v hv h0 (fun ⟨i, a, b⟩ => hx ⟨i, by omega, b⟩)
theorem NR_yes {D : De} {s : Nat → Nat} {f : Nat → Int32} {k v : Nat} (h : NR D s f (D.2.1 0 + D.2.1 1 + k)) (hk : k ≤ 60) (hb : Vb D) (hm : mkd D s k v) : ∃ a, a < 200 ∧ f v = nI a := by
  obtain ⟨b0, b1, b2, b3, b4⟩ := hb
  rcases mkd_odv hm with rfl | ⟨i, a, b⟩
  · exact ⟨0, by omega, h.1.1⟩
  · exact ⟨i + 1, by omega, by rw [← b]; exact h.1.2 i a⟩
theorem NR_no {D : De} {s : Nat → Nat} {f : Nat → Int32} {k v : Nat} (h : NR D s f (D.2.1 0 + D.2.1 1 + k)) (hv : v < 100) (hm : ¬ mkd D s k v) : f v = m1 :=
  h.2 v hv (fun e => hm (e ▸ mkd_0)) (fun ⟨i, a, b⟩ => hm (b ▸ odv_mkd a))
theorem M_ready {ds : Mds} {D : De} (h : MD ds D) (hV : Vd D) {s : Nat → Nat} {i : Nat} {nu : Mnu} (hm : NR D s nu.1 (D.2.1 0 + D.2.1 1 + i)) (hi : i < D.2.1 3) (hr : rdy D s i (s i)) (hff : ∀ g, g < s i → ¬ rdy D s i g) (hsi : s i < D.2.1 3) :
    fn_M_ready ds nu = some (nI (s i)) := by
  obtain ⟨hb, hl, -⟩ := hV
  have h60 : D.2.1 3 ≤ 60 := hb.2.2.2.2
  have c3 : ds.2.1 3 = nI (D.2.1 3) := h.2.1 3 (by omega)
  have r3 : ∀ k, k < D.2.1 3 → ds.2.2.2.2.2.2.2.1 k = nI (D.2.2 3 k) := fun k hk => h.2.2 3 k (by omega) hk
  have r6 : ∀ k, k < D.2.1 3 → ds.2.2.2.2.2.2.2.2.1 k = nI (D.2.2 6 k) := fun k hk => h.2.2 6 k (by omega) hk
  have r7 : ∀ k, k < D.2.1 3 → ds.2.2.2.2.2.2.2.2.2 k = nI (D.2.2 7 k) := fun k hk => h.2.2 7 k (by omega) hk
  have h3 : ∀ k, k < D.2.1 3 → D.2.2 3 k < 200 := fun k hk => hl 3 k (by omega) hk
  have h6 : ∀ k, k < D.2.1 3 → D.2.2 6 k < 200 := fun k hk => hl 6 k (by omega) hk
  have h7 : ∀ k, k < D.2.1 3 → D.2.2 7 k < 200 := fun k hk => hl 7 k (by omega) hk
  have yes : ∀ v, mkd D s i v → ∃ a, a < 200 ∧ nu.1 v = nI a := fun v => NR_yes hm (by omega) hb
  have no : ∀ v, v < 100 → ¬ mkd D s i v → nu.1 v = m1 := fun v => NR_no hm
  obtain ⟨j, -, b, c, e, f⟩ := z_first (fun N k => fn_M_ready_2 ds nu (some m1) N (nI k)) (fun k => some (nI k)) (D.2.1 3) (rdy D s i)
    (fun N k hk hn => by
      show fn_M_ready_2 _ _ _ (N + 1) _ = _
      rw [fn_M_ready_2]
      have a3 := h3 k hk
      have a6 := h6 k hk
      have a7 := h7 k hk
      have e3 := r3 k hk
      have e6 := r6 k hk
      have e7 := r7 k hk
      by_cases m3 : mkd D s i (D.2.2 3 k / 2)
      · obtain ⟨x, hx, n3⟩ := yes _ m3
        simp (disch := omega) only [z_lit, z_mm, z_eqm, z_eqm', z_ltm, z_ltm', z_lem, z_lem', nI_leI, nI_ltI, nI_eq, nI_toInt, nI_clamp, nI_add, pk_mul, pk_sub, pk_div, z_rem, z_shr1, z_and1, decide_eq_true_eq, if_pos, if_neg, Option.bind_some, ite_true, ite_false, eq_self, not_false_eq_true, not_true_eq_false, c3, e3, n3]
      · have n3 := no _ (by omega) m3
        by_cases m6 : mkd D s i (D.2.2 6 k / 2)
        · obtain ⟨x, hx, n6⟩ := yes _ m6
          have m7 : ¬ mkd D s i (D.2.2 7 k / 2) := fun m7 => hn ⟨m3, m6, m7⟩
          have n7 := no _ (by omega) m7
          simp (disch := omega) only [z_lit, z_mm, z_eqm, z_eqm', z_ltm, z_ltm', z_lem, z_lem', nI_leI, nI_ltI, nI_eq, nI_toInt, nI_clamp, nI_add, pk_mul, pk_sub, pk_div, z_rem, z_shr1, z_and1, decide_eq_true_eq, if_pos, if_neg, Option.bind_some, ite_true, ite_false, eq_self, not_false_eq_true, not_true_eq_false, c3, e3, e6, e7, n3, n6, n7]
        · have n6 := no _ (by omega) m6
          simp (disch := omega) only [z_lit, z_mm, z_eqm, z_eqm', z_ltm, z_ltm', z_lem, z_lem', nI_leI, nI_ltI, nI_eq, nI_toInt, nI_clamp, nI_add, pk_mul, pk_sub, pk_div, z_rem, z_shr1, z_and1, decide_eq_true_eq, if_pos, if_neg, Option.bind_some, ite_true, ite_false, eq_self, not_false_eq_true, not_true_eq_false, c3, e3, e6, n3, n6])
    (fun N k hk hn => by
      show fn_M_ready_2 _ _ _ (N + 1) _ = _
      rw [fn_M_ready_2]
      have a3 := h3 k hk
      have a6 := h6 k hk
      have a7 := h7 k hk
      have e3 := r3 k hk
      have e6 := r6 k hk
      have e7 := r7 k hk
      have n3 := no _ (by omega) hn.1
      obtain ⟨x, hx, n6⟩ := yes _ hn.2.1
      obtain ⟨y, hy, n7⟩ := yes _ hn.2.2
      simp (disch := omega) only [z_lit, z_mm, z_eqm, z_eqm', z_ltm, z_ltm', z_lem, z_lem', nI_leI, nI_ltI, nI_eq, nI_toInt, nI_clamp, nI_add, pk_mul, pk_sub, pk_div, z_rem, z_shr1, z_and1, decide_eq_true_eq, if_pos, if_neg, Option.bind_some, ite_true, ite_false, eq_self, not_false_eq_true, not_true_eq_false, c3, e3, e6, e7, n3, n6, n7]) (N := am_NF) (k := 0) (by rw [z_NF]; omega) ⟨s i, by omega, hsi, hr⟩
  have hj : j = s i := by
    by_cases h1 : j < s i
    · exact absurd c (hff j h1)
    · by_cases h2 : s i < j
      · exact absurd hr (e (s i) (by omega) h2)
      · omega
  rw [← hj]
  exact f
theorem M_anew {D : De} {s : Nat → Nat} {nu : Mnu} {u : Nat} (hf : MF D s nu.1) (hb : Vb D) (hu : isDef D (u / 2)) (h : u < 200) : fn_M_anew (nI u) nu = some (nI (rn D s u)) := by
  unfold fn_M_anew
  have h1 := hf _ hu
  have h2 := dn_76 hb
  have h3 := nv_le (D := D) (s := s) (v := u / 2)
  simp (disch := omega) only [z_lit, z_mm, z_eqm, z_eqm', z_ltm, z_ltm', z_lem, z_lem', nI_leI, nI_ltI, nI_eq, nI_toInt, nI_clamp, nI_add, pk_mul, pk_sub, pk_div, z_rem, z_shr1, z_and1, decide_eq_true_eq, if_pos, if_neg, Option.bind_some, ite_true, ite_false, eq_self, not_false_eq_true, not_true_eq_false, h1]
  rfl
theorem M_numbers {th : Mth} {ds : Mds} {nd : Mnd} {nu : Mnu} {D : De} {s : Nat → Nat} (h : MD ds D) (hV : Vd D) (hs : Sq D s (D.2.1 3)) (κ : Int32 → Int32 → Mth → Mds → Mnd → Mnu → Option (Mth × Mds × Mnd × Mnu)) :
    ∃ f q, NM D s f (dn D) ∧ (∀ j, j < D.2.1 3 → q j = nI (s j)) ∧
    fn_M_order_7 (fun th_9 ds_9 nd_9 nu_9 => fn_M_order_38 (fun x1_10 th_10 ds_10 nd_10 nu_10 => fn_M_order_73 (fun x1_11 th_11 ds_11 nd_11 nu_11 => fn_M_order_112 (x1_11 + (1 : Int32)) (fun x1_12 th_12 ds_12 nd_12 nu_12 => κ x1_12 (x1_11 + (1 : Int32)) th_12 ds_12 nd_12 nu_12) am_NF x1_11 (0 : Int32) th_11 ds_11 nd_11 nu_11) am_NF x1_10 (0 : Int32) th_10 ds_10 nd_10 nu_10) am_NF (0 : Int32) (0 : Int32) th_9 ds_9 nd_9 nu_9) am_NF (0 : Int32) th ds nd nu = κ (nI (dn D)) (nI (D.2.1 0 + D.2.1 1 + 1)) th ds nd (f, q) := by
  have hb := hV.1
  have hl := hV.2.1
  obtain ⟨b0, b1, b2, b3, b4⟩ := id hb
  have c0 : ds.2.1 0 = nI (D.2.1 0) := h.2.1 0 (by omega)
  have c1 : ds.2.1 1 = nI (D.2.1 1) := h.2.1 1 (by omega)
  have c3 : ds.2.1 3 = nI (D.2.1 3) := h.2.1 3 (by omega)
  have r0 : ∀ k, k < D.2.1 0 → ds.2.2.1 k = nI (D.2.2 0 k) := fun k hk => h.2.2 0 k (by omega) hk
  have r1 : ∀ k, k < D.2.1 1 → ds.2.2.2.1 k = nI (D.2.2 1 k) := fun k hk => h.2.2 1 k (by omega) hk
  have r3 : ∀ k, k < D.2.1 3 → ds.2.2.2.2.2.2.2.1 k = nI (D.2.2 3 k) := fun k hk => h.2.2 3 k (by omega) hk
  have L0 := fun (κ : Mth → Mds → Mnd → Mnu → Option (Mth × Mds × Mnd × Mnu)) => z_loop (fun N k (x : Mnu) => fn_M_order_7 κ N (nI k) th ds nd x) (fun x => κ th ds nd x) 100 (fun k x => ∀ v, v < k → x.1 v = if v = 0 then nI 0 else m1)
    (fun N k x hk hx => by
      refine ⟨(upd x.1 k (if k = 0 then nI 0 else m1), x.2), fun v hv => ?_, ?_⟩
      · show upd x.1 k _ v = _
        by_cases e : v = k
        · subst e; rw [pk_us]
        · rw [pk_un e]; exact hx v (by omega)
      · show fn_M_order_7 _ (N + 1) _ _ _ _ _ = _
        rw [fn_M_order_7]
        by_cases e : k = 0
        · subst e
          simp (disch := omega) only [z_lit, z_mm, z_eqm, z_eqm', z_ltm, z_ltm', z_lem, z_lem', nI_leI, nI_ltI, nI_eq, nI_toInt, nI_clamp, nI_add, pk_mul, pk_sub, pk_div, z_rem, z_shr1, z_and1, decide_eq_true_eq, if_pos, if_neg, Option.bind_some, ite_true, ite_false, eq_self, not_false_eq_true, not_true_eq_false]
        · simp (disch := omega) only [z_lit, z_mm, z_eqm, z_eqm', z_ltm, z_ltm', z_lem, z_lem', nI_leI, nI_ltI, nI_eq, nI_toInt, nI_clamp, nI_add, pk_mul, pk_sub, pk_div, z_rem, z_shr1, z_and1, decide_eq_true_eq, if_pos, if_neg, Option.bind_some, ite_true, ite_false, eq_self, not_false_eq_true, not_true_eq_false])
    (fun N x hx => by
      show fn_M_order_7 _ (N + 1) _ _ _ _ _ = _
      rw [fn_M_order_7]
      simp (disch := omega) only [z_lit, z_mm, z_eqm, z_eqm', z_ltm, z_ltm', z_lem, z_lem', nI_leI, nI_ltI, nI_eq, nI_toInt, nI_clamp, nI_add, pk_mul, pk_sub, pk_div, z_rem, z_shr1, z_and1, decide_eq_true_eq, if_pos, if_neg, Option.bind_some, ite_true, ite_false, eq_self, not_false_eq_true, not_true_eq_false]) (N := am_NF) (k := 0) (s := nu) (by omega) (by rw [z_NF]; omega) (fun v hv => absurd hv (by omega))
  have L1 := fun (κ : Int32 → Mth → Mds → Mnd → Mnu → Option (Mth × Mds × Mnd × Mnu)) (nu : Mnu) (hf : NR D s nu.1 0) => z_loop (fun N k (x : Int32 × Mnu) => fn_M_order_38 κ N x.1 (nI k) th ds nd x.2) (fun x => κ x.1 th ds nd x.2) (D.2.1 0) (fun k x => x.1 = nI k ∧ NR D s x.2.1 k)
    (fun N k x hk ⟨h1', hf⟩ => by
      obtain ⟨x1, f, q⟩ := x
      have h1' : x1 = nI k := h1'
      subst h1'
      have hlt := hl 0 k (by omega) hk
      have hst := NR_step hV hs (n := k) (by unfold dn; omega) hf
      rw [odv_i hk] at hst
      refine ⟨(nI (k + 1), upd f (D.2.2 0 k / 2) (nI (k + 1)), q), ⟨rfl, hst⟩, ?_⟩
      show fn_M_order_38 _ (N + 1) _ _ _ _ _ _ = _
      rw [fn_M_order_38]
      have e0 := r0 k hk
      simp (disch := omega) only [z_lit, z_mm, z_eqm, z_eqm', z_ltm, z_ltm', z_lem, z_lem', nI_leI, nI_ltI, nI_eq, nI_toInt, nI_clamp, nI_add, pk_mul, pk_sub, pk_div, z_rem, z_shr1, z_and1, decide_eq_true_eq, if_pos, if_neg, Option.bind_some, ite_true, ite_false, eq_self, not_false_eq_true, not_true_eq_false, c0, e0])
    (fun N x ⟨h1', hf⟩ => by
      show fn_M_order_38 _ (N + 1) _ _ _ _ _ _ = _
      rw [fn_M_order_38]
      simp (disch := omega) only [z_lit, z_mm, z_eqm, z_eqm', z_ltm, z_ltm', z_lem, z_lem', nI_leI, nI_ltI, nI_eq, nI_toInt, nI_clamp, nI_add, pk_mul, pk_sub, pk_div, z_rem, z_shr1, z_and1, decide_eq_true_eq, if_pos, if_neg, Option.bind_some, ite_true, ite_false, eq_self, not_false_eq_true, not_true_eq_false, c0]) (N := am_NF) (k := 0) (s := (nI 0, nu)) (by omega) (by rw [z_NF]; omega) ⟨rfl, hf⟩
  have L2 := fun (κ : Int32 → Mth → Mds → Mnd → Mnu → Option (Mth × Mds × Mnd × Mnu)) (nu : Mnu) (hf : NR D s nu.1 (D.2.1 0)) => z_loop (fun N k (x : Int32 × Mnu) => fn_M_order_73 κ N x.1 (nI k) th ds nd x.2) (fun x => κ x.1 th ds nd x.2) (D.2.1 1) (fun k x => x.1 = nI (D.2.1 0 + k) ∧ NR D s x.2.1 (D.2.1 0 + k))
    (fun N k x hk ⟨h1', hf⟩ => by
      obtain ⟨x1, f, q⟩ := x
      have h1' : x1 = nI (D.2.1 0 + k) := h1'
      subst h1'
      have hlt := hl 1 k (by omega) hk
      have hst := NR_step hV hs (n := D.2.1 0 + k) (by unfold dn; omega) hf
      rw [odv_l hk] at hst
      refine ⟨(nI (D.2.1 0 + k + 1), upd f (D.2.2 1 k / 2) (nI (D.2.1 0 + k + 1)), q), ⟨rfl, hst⟩, ?_⟩
      show fn_M_order_73 _ (N + 1) _ _ _ _ _ _ = _
      rw [fn_M_order_73]
      have e0 := r1 k hk
      simp (disch := omega) only [z_lit, z_mm, z_eqm, z_eqm', z_ltm, z_ltm', z_lem, z_lem', nI_leI, nI_ltI, nI_eq, nI_toInt, nI_clamp, nI_add, pk_mul, pk_sub, pk_div, z_rem, z_shr1, z_and1, decide_eq_true_eq, if_pos, if_neg, Option.bind_some, ite_true, ite_false, eq_self, not_false_eq_true, not_true_eq_false, c1, e0])
    (fun N x ⟨h1', hf⟩ => by
      show fn_M_order_73 _ (N + 1) _ _ _ _ _ _ = _
      rw [fn_M_order_73]
      simp (disch := omega) only [z_lit, z_mm, z_eqm, z_eqm', z_ltm, z_ltm', z_lem, z_lem', nI_leI, nI_ltI, nI_eq, nI_toInt, nI_clamp, nI_add, pk_mul, pk_sub, pk_div, z_rem, z_shr1, z_and1, decide_eq_true_eq, if_pos, if_neg, Option.bind_some, ite_true, ite_false, eq_self, not_false_eq_true, not_true_eq_false, c1]) (N := am_NF) (k := 0) (s := (nI (D.2.1 0), nu)) (by omega) (by rw [z_NF]; omega) ⟨rfl, hf⟩
  have L3 := fun (x2 : Int32) (κ : Int32 → Mth → Mds → Mnd → Mnu → Option (Mth × Mds × Mnd × Mnu)) (nu : Mnu) (hf : NR D s nu.1 (D.2.1 0 + D.2.1 1)) => z_loop (fun N k (x : Int32 × Mnu) => fn_M_order_112 x2 κ N x.1 (nI k) th ds nd x.2) (fun x => κ x.1 th ds nd x.2) (D.2.1 3) (fun k x => x.1 = nI (D.2.1 0 + D.2.1 1 + k) ∧ NR D s x.2.1 (D.2.1 0 + D.2.1 1 + k) ∧ ∀ j, j < k → x.2.2 j = nI (s j))
    (fun N k x hk ⟨h1', hf, hq⟩ => by
      obtain ⟨x1, f, q⟩ := x
      have h1' : x1 = nI (D.2.1 0 + D.2.1 1 + k) := h1'
      subst h1'
      have hsk := hs k hk
      have hsk1 := hsk.1
      have hlt := hl 3 (s k) (by omega) hsk.1
      have hst := NR_step hV hs (n := D.2.1 0 + D.2.1 1 + k) (by unfold dn; omega) hf
      rw [odv_g] at hst
      refine ⟨(nI (D.2.1 0 + D.2.1 1 + k + 1), upd f (D.2.2 3 (s k) / 2) (nI (D.2.1 0 + D.2.1 1 + k + 1)), upd q k (nI (s k))), ⟨rfl, hst, fun j hj => ?_⟩, ?_⟩
      · show upd q k (nI (s k)) j = _
        by_cases e : j = k
        · subst e; rw [pk_us]
        · rw [pk_un e]; exact hq j (by omega)
      · show fn_M_order_112 _ _ (N + 1) _ _ _ _ _ _ = _
        rw [fn_M_order_112]
        have e0 := r3 (s k) hsk.1
        have hrd : fn_M_ready ds (f, q) = some (nI (s k)) := M_ready h hV (nu := (f, q)) hf hk hsk.2.1 hsk.2.2 hsk.1
        simp (disch := omega) only [z_lit, z_mm, z_eqm, z_eqm', z_ltm, z_ltm', z_lem, z_lem', nI_leI, nI_ltI, nI_eq, nI_toInt, nI_clamp, nI_add, pk_mul, pk_sub, pk_div, z_rem, z_shr1, z_and1, decide_eq_true_eq, if_pos, if_neg, Option.bind_some, ite_true, ite_false, eq_self, not_false_eq_true, not_true_eq_false, c3, hrd, pk_us, e0])
    (fun N x ⟨h1', hf⟩ => by
      show fn_M_order_112 _ _ (N + 1) _ _ _ _ _ _ = _
      rw [fn_M_order_112]
      simp (disch := omega) only [z_lit, z_mm, z_eqm, z_eqm', z_ltm, z_ltm', z_lem, z_lem', nI_leI, nI_ltI, nI_eq, nI_toInt, nI_clamp, nI_add, pk_mul, pk_sub, pk_div, z_rem, z_shr1, z_and1, decide_eq_true_eq, if_pos, if_neg, Option.bind_some, ite_true, ite_false, eq_self, not_false_eq_true, not_true_eq_false, c3]) (N := am_NF) (k := 0) (s := (nI (D.2.1 0 + D.2.1 1), nu)) (by omega) (by rw [z_NF]; omega) ⟨rfl, hf, fun j hj => absurd hj (by omega)⟩
  obtain ⟨x0, a0, e0⟩ := L0 (fun th_9 ds_9 nd_9 nu_9 => fn_M_order_38 (fun x1_10 th_10 ds_10 nd_10 nu_10 => fn_M_order_73 (fun x1_11 th_11 ds_11 nd_11 nu_11 => fn_M_order_112 (x1_11 + (1 : Int32)) (fun x1_12 th_12 ds_12 nd_12 nu_12 => κ x1_12 (x1_11 + (1 : Int32)) th_12 ds_12 nd_12 nu_12) am_NF x1_11 (0 : Int32) th_11 ds_11 nd_11 nu_11) am_NF x1_10 (0 : Int32) th_10 ds_10 nd_10 nu_10) am_NF (0 : Int32) (0 : Int32) th_9 ds_9 nd_9 nu_9)
  have hN0 : NR D s x0.1 0 := ⟨⟨by rw [a0 0 (by omega)]; rfl, fun i hi => absurd hi (by omega)⟩, fun v hv h0 _ => by rw [a0 v hv, if_neg h0]⟩
  obtain ⟨x1, ⟨a1, d1⟩, e1⟩ := L1 (fun x1_10 th_10 ds_10 nd_10 nu_10 => fn_M_order_73 (fun x1_11 th_11 ds_11 nd_11 nu_11 => fn_M_order_112 (x1_11 + (1 : Int32)) (fun x1_12 th_12 ds_12 nd_12 nu_12 => κ x1_12 (x1_11 + (1 : Int32)) th_12 ds_12 nd_12 nu_12) am_NF x1_11 (0 : Int32) th_11 ds_11 nd_11 nu_11) am_NF x1_10 (0 : Int32) th_10 ds_10 nd_10 nu_10) x0 hN0
  obtain ⟨x2, ⟨a2, d2⟩, e2⟩ := L2 (fun x1_11 th_11 ds_11 nd_11 nu_11 => fn_M_order_112 (x1_11 + (1 : Int32)) (fun x1_12 th_12 ds_12 nd_12 nu_12 => κ x1_12 (x1_11 + (1 : Int32)) th_12 ds_12 nd_12 nu_12) am_NF x1_11 (0 : Int32) th_11 ds_11 nd_11 nu_11) x1.2 d1
  obtain ⟨x3, ⟨a3, d3, q3⟩, e3⟩ := L3 (nI (D.2.1 0 + D.2.1 1) + (1 : Int32)) (fun x1_12 th_12 ds_12 nd_12 nu_12 => κ x1_12 (nI (D.2.1 0 + D.2.1 1) + (1 : Int32)) th_12 ds_12 nd_12 nu_12) x2.2 d2
  refine ⟨x3.2.1, x3.2.2, d3.1, q3, ?_⟩
  refine e0.trans ?_
  refine e1.trans ?_
  rw [a1]
  refine e2.trans ?_
  rw [a2]
  refine e3.trans ?_
  rw [a3, nI_1]
  rfl
