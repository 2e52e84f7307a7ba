set_option maxRecDepth 100000 in
theorem wt_559 : (.code ⟨"DesignTexts", "<init>", "()V"⟩ prog_1_method_1_code 1 none : Cond) ∈ am_WT := am_inWT (i := 86) (by rfl) (by rfl)
set_option maxRecDepth 100000 in
theorem wt_560 : (.code ⟨"DesignTextsModel", "<init>", "()V"⟩ prog_7_method_1_code 1 none : Cond) ∈ am_WT := am_inWT (i := 662) (by rfl) (by rfl)
theorem lw_app {D : va_G} {cl : List vw_C} {w1 w2 : va_W} {H : Heap} (h : va_P D cl (w1 ++ w2) H) : va_P D cl w1 H ∧ va_P D cl w2 H := by
  refine ⟨fun k q hq => h k q ?_, fun k q hq => h (w1.length + k) q ?_⟩
  · rw [List.getElem?_append_left (List.getElem?_eq_some_iff.mp hq).1]
    exact hq
  · rw [List.getElem?_append_right (Nat.le_add_right _ _), Nat.add_sub_cancel_left]
    exact hq
theorem lw_appD {A : Nat → Prop} {w1 : va_W} {x : Nat × va_E} (h : va_D A (w1 ++ [x])) : va_D A [x] ∧ ∀ (k : Nat) (q : Nat × va_E), w1[k]? = some q → q.1 ≠ x.1 := by
  have hx : (w1 ++ [x])[w1.length]? = some x := by
    rw [List.getElem?_append_right (Nat.le_refl _), Nat.sub_self]
    rfl
  refine ⟨⟨fun i j p q hp hq _ => ?_, fun k q hq => ?_⟩, fun k q hq he => ?_⟩
  · have h1 : i < 1 := (List.getElem?_eq_some_iff.mp hp).1
    have h2 : j < 1 := (List.getElem?_eq_some_iff.mp hq).1
    omega
  · have h1 : k < 1 := (List.getElem?_eq_some_iff.mp hq).1
    rw [show k = 0 by omega] at hq
    cases hq
    exact h.2 w1.length _ hx
  · have hk : k < w1.length := (List.getElem?_eq_some_iff.mp hq).1
    have := h.1 k w1.length q x (by rw [List.getElem?_append_left hk]; exact hq) hx he
    omega
theorem lw_inj {A : Nat → Prop} {ρ : Nat → Nat} {kc : Nat → ClassId} {h : am_H} {len : Nat} (hl : h.length = len) (hD : va_D A (am_w ρ kc h)) : am_inj ρ len ∧ ∀ k, k < len → A (ρ k) := by
  subst hl
  have hg : ∀ k, k < h.length → ∃ e, (am_w ρ kc h)[k]? = some (ρ k, e) := fun k hk => ⟨_, am_w_at (List.getElem?_eq_getElem hk)⟩
  refine ⟨fun i j hi hj he => ?_, fun k hk => ?_⟩
  · obtain ⟨e1, h1⟩ := hg i hi
    obtain ⟨e2, h2⟩ := hg j hj
    exact hD.1 i j _ _ h1 h2 he
  · obtain ⟨e1, h1⟩ := hg k hk
    exact hD.2 k _ h1
theorem lw_lt {D : va_G} {cl : List vw_C} {ρ : Nat → Nat} {kc : Nat → ClassId} {h : am_H} {len : Nat} {H : Heap} (hl : h.length = len) (hP : va_P D cl (am_w ρ kc h) H) : ∀ k, k < len → ρ k < H.size := fun k hk => by
  subst hl
  exact (hP k _ (am_w_at (List.getElem?_eq_getElem hk))).lt
theorem lw_ne {ρ : Nat → Nat} {kc : Nat → ClassId} {h : am_H} {len a : Nat} (hl : h.length = len) (hn : ∀ (k : Nat) (q : Nat × va_E), (am_w ρ kc h)[k]? = some q → q.1 ≠ a) : ∀ k, k < len → ρ k ≠ a := fun k hk => by
  subst hl
  exact hn k _ (am_w_at (List.getElem?_eq_getElem hk))
theorem lw_arr {args : Array Value} {s : State} {t : FieldType} (h : (Cond.arrayClass t).before args s = true) (ho : va_RA s = va_RA s ∧ ∀ C, t ≠ .object C) : ∃ c : ClassId, ArrOfT s c t ∧ va_RA s c t := by
  obtain ⟨c, k, comp, h1, h2, h3⟩ := Cond.arrayClass_spec h
  refine ⟨c, fun n z => ⟨fun k h => (by cases h), k, h2, comp, h3⟩, ?_⟩
  cases t with
  | object C => exact absurd rfl (ho.2 C)
  | _ => exact h1
theorem lw_arr2 {args : Array Value} {s : State} (h : (Cond.arrayOver (.array .int)).before args s = true) : ∃ c : ClassId, ArrOfT s c (.array .int) ∧ va_RA s c (.array .int) := by
  obtain ⟨comp, c, k, h1, h2, h3, h4, h5⟩ := arrayOverA_spec h
  exact ⟨c, fun n z => ⟨fun k h => (by cases h), k, h3, comp, h4⟩, h5⟩
set_option maxHeartbeats 8000000 in
set_option maxRecDepth 100000 in
/-- the law, from its entry -/
theorem rf_start {p : Program} {e : Env} {s : State} {m : MethodId} {below : List Frame} {meth : Method} {c : Code} (l : Launch) (hst : l.stackTraces = false) {b L : Nat} {xs : Nat → Int32} (hL : L ≤ 1536) (C0 : lw_At p s m meth c b L xs) {Q : State → Prop} (K : ∀ (D : va_G) (kc : Nat → ClassId) (ρC ρR : Nat → Nat) (oa : Nat) (H : Heap) (locs : List Loc) (ls : Array Slot), lw_X p l s m meth c D kc b L xs → lw_Fx s ρC ρR oa → lw_I s D kc ρC ρR oa hp0 hr0 (fun _ => 0) H locs → lv_has ls 7 [(0, .ref b), (1, .ref (ρC 0)), (2, .ref (ρR 0)), (3, .ref oa), (4, .int (nI 0))] → W p l e room_1 s m #[Value.ref b] below meth c H locs 70 12724 Q (F0 m 23 ls [])) : W p l e room_1 s m #[Value.ref b] below meth c s.heap [] 0 0 Q (entryFrame m ([Value.ref b] : List Value).toArray 7) := by
  obtain ⟨hx, hb, hr, hml, hown, hts, hX, hbl, hlocks, hgv⟩ := id C0
  have hs := flat_of_before _ hgv
  have hbA : ¬ lw_A s b := Nat.not_le.mpr hbl
  have hA : ∀ q : Nat, s.heap.size ≤ q → lw_A s q := fun _ h => h
  obtain ⟨c0, i0, hKn0⟩ := u_known (C := "DesignTexts") (T := ft_T) (N := 6) (n := 6) hts (fun w hw => lw_in (ft_Tu w hw)) (hts _ (List.mem_of_getElem? (i := 83) (by decide +kernel)))
  obtain ⟨c1, i1, hKn1⟩ := u_known (C := "DesignTexts$Bytes") (T := ft_B) (N := 2) (n := 2) hts (fun w hw => lw_in (ft_Bu w hw)) (hts _ (List.mem_of_getElem? (i := 91) (by decide +kernel)))
  obtain ⟨c2, i2, hKn2⟩ := u_known (C := "DesignTexts$Design") (T := ft_D) (N := 6) (n := 6) hts (fun w hw => lw_in (ft_Du w hw)) (hts _ (List.mem_of_getElem? (i := 155) (by decide +kernel)))
  obtain ⟨c3, i3, hKn3⟩ := u_known (C := "DesignTexts$PageWriter") (T := ft_W) (N := 1) (n := 1) hts (fun w hw => lw_in (ft_Wu w hw)) (hts _ (List.mem_of_getElem? (i := 145) (by decide +kernel)))
  obtain ⟨c4, i4, hKn4⟩ := u_known (C := "DesignTexts$TextReader") (T := ft_R) (N := 10) (n := 10) hts (fun w hw => lw_in (ft_Ru w hw)) (hts _ (List.mem_of_getElem? (i := 105) (by decide +kernel)))
  obtain ⟨c5, i5, hKn5⟩ := u_known (C := "DesignTextsModel") (T := ft_M) (N := 38) (n := 38) hts (fun w hw => lw_in (ft_Mu w hw)) (hts _ (List.mem_of_getElem? (i := 659) (by decide +kernel)))
  obtain ⟨D, hKc⟩ : ∃ D : va_G, ∀ (k : Nat) (q : vw_C), aCl[k]? = some q → u_Kn s q.1 q.2.1 q.2.2 (D.1 k) (D.2 k) := by
    refine ⟨(fun k => match k with | 0 => c0 | 1 => c1 | 2 => c2 | 3 => c3 | 4 => c4 | _ => c5, fun k => match k with | 0 => i0 | 1 => i1 | 2 => i2 | 3 => i3 | 4 => i4 | _ => i5), ?_⟩
    intro k q hq
    match k, hq with
    | 0, hq => cases hq; exact hKn0
    | 1, hq => cases hq; exact hKn1
    | 2, hq => cases hq; exact hKn2
    | 3, hq => cases hq; exact hKn3
    | 4, hq => cases hq; exact hKn4
    | 5, hq => cases hq; exact hKn5
    | k + 6, hq => simp [aCl] at hq
  obtain ⟨a0, hAr0⟩ := lw_arr (t := .byte) (hts _ (List.mem_of_getElem? (i := 103) (by decide +kernel))) ⟨rfl, fun C h => by cases h⟩
  obtain ⟨a1, hAr1⟩ := lw_arr (t := .int) (hts _ (List.mem_of_getElem? (i := 142) (by decide +kernel))) ⟨rfl, fun C h => by cases h⟩
  obtain ⟨a2, hAr2⟩ := lw_arr (t := .boolean) (hts _ (List.mem_of_getElem? (i := 141) (by decide +kernel))) ⟨rfl, fun C h => by cases h⟩
  obtain ⟨a3, hAr3⟩ := lw_arr (t := .long) (hts _ (List.mem_of_getElem? (i := 143) (by decide +kernel))) ⟨rfl, fun C h => by cases h⟩
  have hov := hts (.arrayOver (.array .int)) (List.mem_of_getElem? (i := 161) (by decide +kernel))
  obtain ⟨a4, hAr4⟩ := lw_arr2 hov
  obtain ⟨kc, hK⟩ : ∃ kc : Nat → ClassId, va_K D aCl (am_tys kc am_fts) s := by
    refine ⟨fun k => match k with | 0 => a0 | 1 => a1 | 2 => a2 | 3 => a3 | _ => a4, hKc, fun k q hq => ?_⟩
    match k, hq with
    | 0, hq => cases hq; exact hAr0
    | 1, hq => cases hq; exact hAr1
    | 2, hq => cases hq; exact hAr2
    | 3, hq => cases hq; exact hAr3
    | 4, hq => cases hq; exact hAr4
    | k + 5, hq => exact absurd (List.getElem?_eq_some_iff.mp hq).1 (by rw [show (am_tys _ am_fts).length = 5 by simp [am_tys, am_fts]]; omega)
  have hO : ac_O s := ⟨va_Nw.of rfl (hts _ (List.mem_of_getElem? (i := 92) (by decide +kernel))), va_Nw.of rfl (hts _ (List.mem_of_getElem? (i := 156) (by decide +kernel))), arrayOver_alikeB (Vm.Alike.refl _) hov⟩
  have hOk : ax_Ok s := by
    refine ⟨fun w hw hf => ?_, fun q hq => ?_⟩
    · simp only [ax_face, Bool.and_eq_true] at hf
      exact va_tabs hf.1 rfl (hts w hw)
    · rcases (show q = (47, "many is not 1 .. 4") ∨ q = (58, "more than 1500 bytes") ∨ q = (89, "no such kind") ∨ q = (97, "no such one") ∨ q = (110, "not in order") ∨ q = (121, "below 0") by simpa [ax_strs] using hq) with rfl | rfl | rfl | rfl | rfl | rfl
      · obtain ⟨a, _, _, _, h1, -⟩ := Cond.exactly_spec (hs (.exactly (.string "DesignTexts" 47) "java/lang/String") (by decide +kernel))
        exact ⟨a, vk_R.of (hts _ (List.mem_of_getElem? (i := 493) (by decide +kernel))) h1⟩
      · obtain ⟨a, _, _, _, h1, -⟩ := Cond.exactly_spec (hs (.exactly (.string "DesignTexts" 58) "java/lang/String") (by decide +kernel))
        exact ⟨a, vk_R.of (hts _ (List.mem_of_getElem? (i := 528) (by decide +kernel))) h1⟩
      · obtain ⟨a, _, _, _, h1, -⟩ := Cond.exactly_spec (hs (.exactly (.string "DesignTexts" 89) "java/lang/String") (by decide +kernel))
        exact ⟨a, vk_R.of (hts _ (List.mem_of_getElem? (i := 547) (by decide +kernel))) h1⟩
      · obtain ⟨a, _, _, _, h1, -⟩ := Cond.exactly_spec (hs (.exactly (.string "DesignTexts" 97) "java/lang/String") (by decide +kernel))
        exact ⟨a, vk_R.of (hts _ (List.mem_of_getElem? (i := 561) (by decide +kernel))) h1⟩
      · obtain ⟨a, _, _, _, h1, -⟩ := Cond.exactly_spec (hs (.exactly (.string "DesignTexts" 110) "java/lang/String") (by decide +kernel))
        exact ⟨a, vk_R.of (hts _ (List.mem_of_getElem? (i := 586) (by decide +kernel))) h1⟩
      · obtain ⟨a, _, _, _, h1, -⟩ := Cond.exactly_spec (hs (.exactly (.string "DesignTexts" 121) "java/lang/String") (by decide +kernel))
        exact ⟨a, vk_R.of (hts _ (List.mem_of_getElem? (i := 650) (by decide +kernel))) h1⟩
  have hN : ax_N s := ⟨va_Nc.of (hs (.not (.castable "java/lang/UnsupportedOperationException" "java/lang/IllegalArgumentException")) (by decide +kernel)), va_Nc.of (hs (.not (.castable "java/util/NoSuchElementException" "java/lang/IllegalArgumentException")) (by decide +kernel)), va_Nc.of (hs (.not (.castable "java/lang/IllegalStateException" "java/lang/IllegalArgumentException")) (by decide +kernel))⟩
  have hini := hts (.initialized "java/lang/Throwable") (List.mem_of_getElem? (i := 73) (by decide +kernel))
  have hZ : ax_Zs (lw_A s) s s.heap := ⟨ax_Z.of (hts _ (List.mem_of_getElem? (i := 477) (by decide +kernel))) hini (hs (.isRef (.static "java/lang/Throwable" "UNASSIGNED_STACK" "[Ljava/lang/StackTraceElement;")) (by decide +kernel)) (fun a ha h => Nat.not_le.mpr ha h), ax_Z.of (hts _ (List.mem_of_getElem? (i := 479) (by decide +kernel))) hini (hs (.isRef (.static "java/lang/Throwable" "SUPPRESSED_SENTINEL" "Ljava/util/List;")) (by decide +kernel)) (fun a ha h => Nat.not_le.mpr ha h)⟩
  have X : lw_X p l s m meth c D kc b L xs := ⟨C0, hK, hOk, hN, hZ, hst⟩
  have hS : va_S (lw_A s) s.heap s.heap [] := va_S.rf
  have hP : va_P D aCl [] s.heap := fun k q h => by simp at h
  have hD : va_D (lw_A s) [] := ⟨fun i j p q h => by simp at h, fun k q h => by simp at h⟩
  have hl := lv_entry ([.ref b]) (n := 7) (Nat.le_of_ble_eq_true rfl)
  rw [lg_entry_eq]
  generalize (lg_sl ([.ref b]) ++ List.replicate (7 - (lg_sl ([.ref b])).length) Slot.unset).toArray = ls at hl ⊢
  have hl : lv_has ls 7 [(0, .ref b)] := hl
  refine va_new (ci := 0) (fs := [.null, .null, .null, .null, .null, .null]) (C := "DesignTexts") (T := ft_T) (N := 6) hx hb hts (fun w hw => lw_in (ft_Tu w hw)) ft_Tt ft_To hown (hts _ (List.mem_of_getElem? (i := 82) (by decide +kernel))) (hts _ (List.mem_of_getElem? (i := 83) (by decide +kernel))) (hts _ (List.mem_of_getElem? (i := 67) (by decide +kernel))) hK hP hD hS hA rfl (fun j hj => by rcases (show j = 0 ∨ j = 1 ∨ j = 2 ∨ j = 3 ∨ j = 4 ∨ j = 5 by omega) with rfl | rfl | rfl | rfl | rfl | rfl <;> rfl) (Nat.le_of_ble_eq_true rfl) (Nat.le_of_ble_eq_true rfl) d_law_0 (fun q0 H hP hD hS => ?_)
  obtain ⟨hPo, hPc⟩ := lw_app hP
  obtain ⟨hDc, hne⟩ := lw_appD hD
  refine W.widen (k := 1) (n := 6) (by omega) (by omega) ?_
  refine lv_dup hx hb d_law_3 rfl ?_
  have hFc := va_free (wc := [(q0, .inr (0, [.null, .null, .null, .null, .null, .null]))]) hDc hS hA [0] rfl
  refine va_callv (va_runI (As := []) (rest := [.ref q0]) ⟨hx, hb, hml, hown, hts⟩ (cn_T l D kc q0 H.size) (cwI 0 hts (lw_gc wt_559) rfl rfl rfl (hts _ (List.mem_of_getElem? (i := 67) (by decide +kernel))) (hts _ (List.mem_of_getElem? (i := 84) (by decide +kernel))) (hts _ (List.mem_of_getElem? (i := 85) (by decide +kernel))) rfl (by decide +kernel) ⟨Nat.le_of_ble_eq_true rfl, Nat.le_of_ble_eq_true rfl⟩) ⟨ac_blind, fun U hU hW => ⟨rfl, by rw [hU], by rw [hU]; exact hPc, va_K.moved hW.alike hK, hDc.weaken (fun _ _ _ _ => trivial), ac_O.warm hW hO⟩⟩ rfl rfl hl.1 rfl (lv_room (Nat.le_of_ble_eq_true rfl)) d_law_4 ⟨Nat.le_of_ble_eq_true rfl, Nat.le_of_ble_eq_true rfl⟩) hS (fun q _ h => hFc q h) hFc (fun u t H1 locs ht hvm hw hB hz1 hk1 hS => ?_)
  obtain ⟨ρC, eC, hw⟩ := hw
  obtain ⟨hPC, hDC⟩ := hB
  rw [ht, hw] at hPC
  rw [hw] at hDC
  clear hw
  obtain ⟨hiC, hAC⟩ := lw_inj (len := 39) rfl hDC
  have hgC : ∀ k, k < 39 → s.heap.size ≤ ρC k := fun k hk => hFc _ (hAC k hk)
  have hDC2 : va_D (lw_A s) (am_w ρC kc hp0) := ⟨hDC.1, fun k q hq => hFc _ (hDC.2 k q hq)⟩
  clear hP hD hPo hPc hDc hne
  have hP := hPC
  have hD := hDC2
  refine W.widen (k := 39) (n := 4929) (by omega) (by omega) ?_
  rw [← eC]
  refine lv_astore_n (lv' := [(1, .ref (ρC 0)), (0, .ref b)]) hx hb d_law_7 rfl hl (by decide) rfl (fun ls hl => ?_)
  clear hFc hk1 ht hDC hAC
  generalize H1 = H at hPC hP hS ⊢
  refine va_new (ci := 5) (fs := [.int 0, .null, .int 0, .int 0, .null, .null, .null, .null, .null, .null, .null, .null, .null, .null, .null, .int 0, .int 0, .int 0, .int 0, .int 0, .null, .null, .null, .null, .null, .null, .null, .null, .null, .null, .null, .null, .null, .int 0, .null, .null, .null, .null]) (C := "DesignTextsModel") (T := ft_M) (N := 38) hx hb hts (fun w hw => lw_in (ft_Mu w hw)) ft_Mt ft_Mo hown (hts _ (List.mem_of_getElem? (i := 658) (by decide +kernel))) (hts _ (List.mem_of_getElem? (i := 659) (by decide +kernel))) (hts _ (List.mem_of_getElem? (i := 72) (by decide +kernel))) hK hP hD hS hA rfl (fun j hj => by rcases (show j = 0 ∨ j = 1 ∨ j = 2 ∨ j = 3 ∨ j = 4 ∨ j = 5 ∨ j = 6 ∨ j = 7 ∨ j = 8 ∨ j = 9 ∨ j = 10 ∨ j = 11 ∨ j = 12 ∨ j = 13 ∨ j = 14 ∨ j = 15 ∨ j = 16 ∨ j = 17 ∨ j = 18 ∨ j = 19 ∨ j = 20 ∨ j = 21 ∨ j = 22 ∨ j = 23 ∨ j = 24 ∨ j = 25 ∨ j = 26 ∨ j = 27 ∨ j = 28 ∨ j = 29 ∨ j = 30 ∨ j = 31 ∨ j = 32 ∨ j = 33 ∨ j = 34 ∨ j = 35 ∨ j = 36 ∨ j = 37 by omega) with rfl | rfl | rfl | rfl | rfl | rfl | rfl | rfl | rfl | rfl | rfl | rfl | rfl | rfl | rfl | rfl | rfl | rfl | rfl | rfl | rfl | rfl | rfl | rfl | rfl | rfl | rfl | rfl | rfl | rfl | rfl | rfl | rfl | rfl | rfl | rfl | rfl | rfl <;> rfl) (Nat.le_of_ble_eq_true rfl) (Nat.le_of_ble_eq_true rfl) d_law_8 (fun q1 H hP hD hS => ?_)
  obtain ⟨hPo, hPc⟩ := lw_app hP
  obtain ⟨hDc, hne⟩ := lw_appD hD
  refine W.widen (k := 40) (n := 4967) (by omega) (by omega) ?_
  refine lv_dup hx hb d_law_11 rfl ?_
  have hFc := va_free (wc := [(q1, .inr (5, [.int 0, .null, .int 0, .int 0, .null, .null, .null, .null, .null, .null, .null, .null, .null, .null, .null, .int 0, .int 0, .int 0, .int 0, .int 0, .null, .null, .null, .null, .null, .null, .null, .null, .null, .null, .null, .null, .null, .int 0, .null, .null, .null, .null]))]) hDc hS hA [0] rfl
  refine va_callv (va_runI (As := []) (rest := [.ref q1]) ⟨hx, hb, hml, hown, hts⟩ (cn_M l D kc q1 H.size) (cwI 0 hts (lw_gc wt_560) rfl rfl rfl (hts _ (List.mem_of_getElem? (i := 72) (by decide +kernel))) (hts _ (List.mem_of_getElem? (i := 660) (by decide +kernel))) (hts _ (List.mem_of_getElem? (i := 661) (by decide +kernel))) rfl (by decide +kernel) ⟨Nat.le_of_ble_eq_true rfl, Nat.le_of_ble_eq_true rfl⟩) ⟨ac_blind, fun U hU hW => ⟨rfl, by rw [hU], by rw [hU]; exact hPc, va_K.moved hW.alike hK, hDc.weaken (fun _ _ _ _ => trivial), ac_O.warm hW hO⟩⟩ rfl rfl hl.1 rfl (lv_room (Nat.le_of_ble_eq_true rfl)) d_law_12 ⟨Nat.le_of_ble_eq_true rfl, Nat.le_of_ble_eq_true rfl⟩) hS (fun q _ h => hFc q h) hFc (fun u t H1 locs ht hvm hw hB hz1 hk1 hS => ?_)
  obtain ⟨ρR, eR, hw⟩ := hw
  obtain ⟨hPR, hDR⟩ := hB
  rw [ht, hw] at hPR
  rw [hw] at hDR
  clear hw
  obtain ⟨hiR, hAR⟩ := lw_inj (len := 30) rfl hDR
  have hgR : ∀ k, k < 30 → s.heap.size ≤ ρR k := fun k hk => hFc _ (hAR k hk)
  have hCq := lw_ne (len := 39) rfl hne
  have hClt := lw_lt (len := 39) rfl hPo
  have hCR : ∀ i j, i < 39 → j < 30 → ρC i ≠ ρR j := fun i j hi hj he => by
    rcases hAR j hj with ⟨k, e9, h9⟩ | h9
    · have h1 : k < 1 := (List.getElem?_eq_some_iff.mp h9).1
      rw [show k = 0 by omega] at h9
      cases h9
      exact hCq i hi (he.trans rfl)
    · have := hClt i hi
      omega
  have hPC2 : va_P D aCl (am_w ρC kc hp0) H1 := lw_still (len := 39) rfl hPo hk1 (fun k hk hlt h9 => by
    rcases h9 with ⟨j, e9, h9⟩ | h9
    · have h1 : j < 1 := (List.getElem?_eq_some_iff.mp h9).1
      rw [show j = 0 by omega] at h9
      have h2 := Option.some.inj h9
      exact hCq k hk (congrArg Prod.fst h2).symm
    · omega)
  refine W.widen (k := 69) (n := 12723) (by omega) (by omega) ?_
  rw [← eR]
  refine lv_astore_n (lv' := [(2, .ref (ρR 0)), (1, .ref (ρC 0)), (0, .ref b)]) hx hb d_law_15 rfl hl (by decide) rfl (fun ls hl => ?_)
  refine lv_iconst (v := 1) hx hb d_law_16 (by decide) ?_
  refine va_newaK (N := 1) hx hb (hts _ (List.mem_of_getElem? (i := 143) (by decide +kernel))) rfl d_law_17 rfl (by decide) (by decide) (by decide) (Nat.le_of_ble_eq_true rfl) (Nat.le_of_ble_eq_true rfl) rfl (fun H2 cA e1 z1 o1 hAr hNm => ?_)
  have hcA : cA = kc 3 := ac_RA (ty := .long) (show s.vm.findClass _ = some cA from hNm) (hK.2 3 _ rfl).2
  subst hcA
  refine W.eq (g2 := F0 m 19 ls [.ref H1.size]) rfl ?_
  refine W.widen (k := 70) (n := 12724) (by omega) (by omega) ?_
  refine lv_astore_n (lv' := [(3, .ref H1.size), (2, .ref (ρR 0)), (1, .ref (ρC 0)), (0, .ref b)]) hx hb d_law_19 rfl hl (by decide) rfl (fun ls hl => ?_)
  refine lv_iconst (v := 0) hx hb d_law_20 (by decide) ?_
  refine lv_istore (lv' := [(4, .int (nI 0)), (3, .ref H1.size), (2, .ref (ρR 0)), (1, .ref (ρC 0)), (0, .ref b)]) hx hb d_law_21 hl (by decide) rfl (fun ls hl => ?_)
  have hlC := lw_lt (len := 39) rfl hPC2
  have hlR := lw_lt (len := 30) rfl hPR
  have Fx : lw_Fx s ρC ρR H1.size := ⟨hiC, hiR, hCR, fun i hi => Nat.ne_of_lt (hlC i hi), fun j hj => Nat.ne_of_lt (hlR j hj), hgC, hgR, hS.1⟩
  have I0 : lw_I s D kc ρC ρR H1.size hp0 hr0 (fun _ => 0) H2 locs := by
    refine ⟨rfl, rfl, hPC2.kept (fun k q hq => o1 _ (hPC2 k q hq).lt), hPR.kept (fun k q hq => o1 _ (hPR k q hq).lt), ?_, ⟨Nat.le_trans hS.1 (by omega), fun q h1 h2 => (o1 q (Nat.lt_of_lt_of_le h1 hS.1)).trans (hS.2.1 q h1 h2), hS.2.2⟩⟩
    rw [e1]
    rfl
  exact K D kc ρC ρR H1.size H2 locs ls X Fx I0 (lv_sub hl [4, 3, 2, 1, 0] rfl)
