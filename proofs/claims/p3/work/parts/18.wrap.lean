/-! THE LAW'S WRAPPERS: a call of a method that may throw, its answer into out, a catch for each exception. -/
def ax_N (U : State) : Prop := va_Nc (ax_E 1) (ax_E 0) U ∧ va_Nc (ax_E 2) (ax_E 0) U ∧ va_Nc (ax_E 3) (ax_E 0) U
theorem ax_N.moved {u U : State} (hvm : u.vm.Alike U.vm) (h : ax_N u) : ax_N U := ⟨va_Nc.moved hvm h.1, va_Nc.moved hvm h.2.1, va_Nc.moved hvm h.2.2⟩
def lx_A (ρ : Nat → Nat) (oa sz : Nat) : Nat → Prop := fun q => am_A ρ 39 sz q ∨ q = oa
def lx_rm : Room := { frames := 9, cells := 1, slots := 6, locals := 305 }
def ax_rm : Room := { frames := 8, cells := 1, slots := 6, locals := 280 }
def lx_Pc (D : va_G) (ρ : Nat → Nat) (kc : Nat → ClassId) (oa sz : Nat) (ia : List Value) (f : Nat → Int64) (h : am_H) : Array Value → State → Prop := fun a U => a = (.ref (ρ 0) :: (ia ++ [.ref oa])).toArray ∧ U.heap.size = sz ∧ va_P D aCl (am_w ρ kc h) U.heap ∧ U.heap[oa]? = some (vp_cell (kc 3) (1, .inr (.inl f))) ∧ va_K D aCl (am_tys kc am_fts) U ∧ ax_Ok U ∧ ax_N U ∧ ax_Zs (lx_A ρ oa sz) U U.heap
def lx_Qc (D : va_G) (ρ : Nat → Nat) (kc : Nat → ClassId) (oa sz : Nat) (f : Nat → Int64) (cd : Nat → Int32) (r : am_R) : Array Value → State → Outcome → State → Prop := fun _ st o t =>
  (∃ (code : Int32) (f' : Nat → Int64), o = .returned (some (.int code)) ∧ ((∃ v, r.1 = some (.int v) ∧ code = 0 ∧ f' = vp_updL f 0 v.toInt64) ∨ (∃ k, r.1 = some (.retAddr k) ∧ code = cd k ∧ f' = f)) ∧ va_P D aCl (am_w ρ kc r.2) t.heap ∧ r.2.length = 39 ∧ t.heap[oa]? = some (vp_cell (kc 3) (1, .inr (.inl f')))) ∧ va_F (lx_A ρ oa sz) st t
theorem lx_blind {D : va_G} {ρ : Nat → Nat} {kc : Nat → ClassId} {oa sz : Nat} {ia : List Value} {f : Nat → Int64} {h : am_H} : FrameBlind (lx_Pc D ρ kc oa sz ia f h) :=
  fun a U g mk q => ⟨q.1, q.2.1, q.2.2.1, q.2.2.2.1, va_K.moved (u := U) (U := U.calling g mk a) (Vm.Alike.refl U.vm) q.2.2.2.2.1, ax_Ok.same (s := U) (U := U.calling g mk a) rfl q.2.2.2.2.2.1, ax_N.moved (u := U) (U := U.calling g mk a) (Vm.Alike.refl U.vm) q.2.2.2.2.2.2.1, ax_Z.moved (u := U) (U := U.calling g mk a) (Vm.Alike.refl U.vm) q.2.2.2.2.2.2.2.1, ax_Z.moved (u := U) (U := U.calling g mk a) (Vm.Alike.refl U.vm) q.2.2.2.2.2.2.2.2⟩
theorem lx_upd (cA : ClassId) (f : Nat → Int64) (x : Int64) : (vp_cell cA (1, .inr (.inl f))).setSlot (0 : Int32).toNatClampNeg (.long x) = vp_cell cA (1, .inr (.inl (vp_updL f 0 x))) := by
  rw [vp_cell_l, vp_cell_l, arrV_store]
  refine congrArg (arrV cA 1) (funext fun q => ?_)
  by_cases hq : q = 0
  · subst hq
    simp [updV, vp_updL]
  · simp [updV, vp_updL, hq]
section LXC
variable {p : Program} {l : Launch} {e : Env} {R : Room} {s : State} {m : MethodId} {args : Array Value} {below : List Frame} {meth : Method} {c : Code} {H : Heap} {locs : List Loc} {cells slots : Nat} {Q : State → Prop}
/-- caught by the row x of the method's own table -/
theorem lx_catch {own name E : String} {ce : Cell} {q : Addr} {pc : Nat} {ls : Array Slot} {rest : List Value} (hown : s.vm.findClass own = some m.cls) (pre : List ExceptionTableEntry) (x : ExceptionTableEntry) (suf : List ExceptionTableEntry) (hsplit : c.exceptionTable.toList = pre ++ x :: suf)
    (hpass : ∀ z ∈ pre, z.catchType ≠ 0 ∧ ∃ nm : String, (Cond.classLink own z.catchType nm).before args s = true ∧ va_Nc E nm s) (hx : covers x pc = true) (h0 : x.catchType ≠ 0)
    (hlink : (Cond.classLink own x.catchType name).before args s = true) (hcast : (Cond.castable E name).before args s = true) (hcell : H[q]? = some ce) (hv : ce.vm = .none) (hcl : s.vm.findClass E = some ce.cls)
    (kk : W p l e R s m args below meth c H locs cells slots Q (F0 m x.handlerPc ls [.ref q])) : ax_W p l e R s m args below meth c H locs cells slots Q (F0 m pc ls rest) q := by
  intro T hT X
  have hpl : e.platform.magicAccessors = ({} : Platform).magicAccessors := by rw [X.admits.platform]
  obtain ⟨c3, c4, hc3, hc4, hasg⟩ := Cond.castable_spec hcast
  cases Option.some.inj (hc3.symm.trans hcl)
  obtain ⟨c5, hc5, hcl5⟩ := Cond.classLink_spec hown hlink e.platform hpl
  cases Option.some.inj (hc4.symm.trans hc5)
  have hk0 : ∃ k, s.vm.classes[ce.cls]? = some k := by
    obtain ⟨k9, h9, -⟩ := Vm.findClass_spec hcl
    exact ⟨k9, h9⟩
  obtain ⟨vm', X', st⟩ := X.thenCaughtThrough q (g := F0 m pc ls rest) rfl (Steps.refl _) (by rw [hT]; exact hcell) (by rw [hv]; rfl) hk0 pre x suf hsplit
    (fun z hz => by
      obtain ⟨hz0, nm, hl1, hn1⟩ := hpass z hz
      obtain ⟨c6, hc6, hcl6⟩ := Cond.classLink_spec hown hl1 e.platform hpl
      obtain ⟨a8, b8, h1, h2, h3⟩ := hn1
      cases Option.some.inj (h1.symm.trans hcl)
      cases Option.some.inj (h2.symm.trans hc6)
      exact Or.inr ⟨hz0, _, hcl6, h3⟩) hx (Or.inr ⟨h0, c4, hcl5, hasg⟩)
  obtain ⟨t, a1, b1⟩ := kk (T.setVm vm') hT X'
  exact ⟨t, st.trans a1, b1⟩
end LXC
theorem lx_table {l : Launch} {p : Program} {y : MethodName} {S : Spec} {cc bytes : ByteArray} {maxL maxL' : Nat} {ret ret' : Option FieldType} {e : Env} {s s₁ : State} {m : MethodId} {args : Array Value} {below : List Frame} {meth : Method} {c : Code} {hh : List (Nat × Nat × Nat × Nat)}
    (B : BodyLoose p l y S cc maxL ret e s m args below meth c s₁) (h : (Cond.codeWith y bytes maxL' ret' hh).before args s = true) : c.exceptionTable.toList = Jvm.tableOf hh := by
  obtain ⟨m9, meth9, c9, hn9, h1, h2, -, -, h6, -⟩ := Cond.codeWith_spec h
  cases Option.some.inj (hn9.symm.trans B.named)
  cases Option.some.inj (h1.symm.trans B.method)
  cases Option.some.inj (h2.symm.trans (Stand.of_body B).code)
  rw [← h6, Jvm.table_eq]

theorem d_L_put_0 : decode method_3_code 0 = .ok (.aload_n 3, 1) := by decide +kernel
theorem d_L_put_1 : decode method_3_code 1 = .ok (.iconst 0, 1) := by decide +kernel
theorem d_L_put_2 : decode method_3_code 2 = .ok (.aload_n 0, 1) := by decide +kernel
theorem d_L_put_3 : decode method_3_code 3 = .ok (.iload_n 1, 1) := by decide +kernel
theorem d_L_put_4 : decode method_3_code 4 = .ok (.iload_n 2, 1) := by decide +kernel
theorem d_L_put_5 : decode method_3_code 5 = .ok (.invokevirtual 7, 3) := by decide +kernel
theorem d_L_put_8 : decode method_3_code 8 = .ok (.i2l, 1) := by decide +kernel
theorem d_L_put_9 : decode method_3_code 9 = .ok (.lastore, 1) := by decide +kernel
theorem d_L_put_10 : decode method_3_code 10 = .ok (.goto 11, 3) := by decide +kernel
theorem d_L_put_13 : decode method_3_code 13 = .ok (.astore 4, 2) := by decide +kernel
theorem d_L_put_15 : decode method_3_code 15 = .ok (.iconst 1, 1) := by decide +kernel
theorem d_L_put_16 : decode method_3_code 16 = .ok (.ireturn, 1) := by decide +kernel
theorem d_L_put_17 : decode method_3_code 17 = .ok (.astore 4, 2) := by decide +kernel
theorem d_L_put_19 : decode method_3_code 19 = .ok (.iconst 2, 1) := by decide +kernel
theorem d_L_put_20 : decode method_3_code 20 = .ok (.ireturn, 1) := by decide +kernel
theorem d_L_put_21 : decode method_3_code 21 = .ok (.iconst 0, 1) := by decide +kernel
theorem d_L_put_22 : decode method_3_code 22 = .ok (.ireturn, 1) := by decide +kernel
set_option maxRecDepth 100000 in
theorem wl_put : (.codeWith ⟨"DesignTextsLaw", "put", "(LDesignTexts;II[J)I"⟩ method_3_code 5 (some .int) [(0, 10, 13, 13), (0, 10, 17, 15)] : Cond) ∈ am_WT := am_inWT (i := 443) (by rfl) (by rfl)
abbrev lw_put : List Cond := .codeWith ⟨"DesignTextsLaw", "put", "(LDesignTexts;II[J)I"⟩ method_3_code 5 (some .int) [(0, 10, 13, 13), (0, 10, 17, 15)] :: am_WT
/-- the law's put -/
theorem lx_put {l : Launch} {D : va_G} {ρ : Nat → Nat} {kc : Nat → ClassId} {oa sz : Nat} {f : Nat → Int64} {p0 p1 : Int32} {h : am_H} {fs : List Value} {r : am_R} (hlen : h.length = 39) (h0 : h[0]? = some (.inr (0, fs))) (hoa : ∀ k, k < 39 → ρ k ≠ oa)
    (hM : ∀ sz : Nat, MetFree l ⟨"DesignTexts", "put", "(II)I"⟩ (headSpec (.code ⟨"DesignTexts", "put", "(II)I"⟩ prog_1_method_2_code 4 (some .int) :: am_WT) ax_rm) (ax_Pc D aCl ρ kc am_fts 39 sz [.ref 0, .int p0, .int p1] h) (fun _ _ _ _ _ => True) (ax_Q D aCl ρ kc 39 sz r)) (hk : (∃ v, r.1 = some (.int v)) ∨ r.1 = some (.retAddr 0) ∨ r.1 = some (.retAddr 1)) :
    Met l ⟨"DesignTextsLaw", "put", "(LDesignTexts;II[J)I"⟩ lw_put lx_rm (lx_Pc D ρ kc oa sz [.int p0, .int p1] f h) (lx_Qc D ρ kc oa sz f (fun k => if k = 0 then 1 else if k = 1 then 2 else 0) r) 1 6 (lx_A ρ oa sz) := by
  refine va_MetW (cc := method_3_code) (maxL := 5) (ret := some .int) (hh := [(0, 10, 13, 13), (0, 10, 17, 15)]) (by decide) rfl ?_
  intro p e s m args below meth c s₁ B hml hv
  obtain ⟨rfl, hsz, hP, hO, hK, hOk, hN, hZ⟩ := hv
  subst hsz
  have hx := B.exec
  have hb := B.bytes
  have hr := B.returns
  have hts := atoms_spec (ws := lw_put) B.pre
  have hown : s.vm.findClass "DesignTextsLaw" = some m.cls := findClass_of_methodNamed B.named
  have hlocks := B.notSynchronized
  have hta := lx_table B (hts _ List.mem_cons_self)
  have hS : va_S (lx_A ρ oa s.heap.size) s.heap s.heap [] := va_S.rf
  have hl := lv_entry ([.ref (ρ 0), .int p0, .int p1, .ref oa]) (n := 5) (Nat.le_of_ble_eq_true rfl)
  rw [show (Value.ref (ρ 0) :: ([.int p0, .int p1] ++ [Value.ref oa])) = [.ref (ρ 0), .int p0, .int p1, .ref oa] from rfl, lg_entry_eq]
  generalize (lg_sl ([.ref (ρ 0), .int p0, .int p1, .ref oa]) ++ List.replicate (5 - (lg_sl ([.ref (ρ 0), .int p0, .int p1, .ref oa])).length) Slot.unset).toArray = ls at hl ⊢
  have hl : lv_has ls 5 [(0, .ref (ρ 0)), (1, .int p0), (2, .int p1), (3, .ref oa)] := hl
  refine lv_aload_n hx hb d_L_put_0 rfl (lv_at hl 3 rfl) ?_
  refine lv_iconst (v := 0) hx hb d_L_put_1 (by decide) ?_
  refine lv_aload_n hx hb d_L_put_2 rfl (lv_at hl 0 rfl) ?_
  refine lv_iload_n hx hb d_L_put_3 rfl (lv_at hl 1 rfl) ?_
  refine lv_iload_n hx hb d_L_put_4 rfl (lv_at hl 2 rfl) ?_
  have hA : ∀ q, am_A ρ 39 s.heap.size q → lx_A ρ oa s.heap.size q := fun q h => Or.inl h
  have hoo : ¬ am_A ρ 39 s.heap.size oa := fun h => by
    rcases h with ⟨k, hk, he⟩ | h
    · exact hoa k hk he.symm
    · exact absurd (Array.getElem?_eq_some_iff.mp hO).1 (Nat.not_lt.mpr h)
  refine ax_callV (g := F0 m 5 ls [.int p1, .int p0, .ref (ρ 0), .int 0, .ref oa]) (As := [.int p0, .int p1]) (rest := [.int 0, .ref oa]) (b := ρ 0) (n := 2) ⟨hx, hb, hml, hown, hts⟩ (hM s.heap.size) (cwV 2 hts (am_gv wt_456 wt_457 wt_458 wt_275 wt_68) rfl rfl rfl (by decide +kernel) ⟨Nat.le_of_ble_eq_true rfl, Nat.le_of_ble_eq_true rfl⟩)
    ⟨ax_blind, va_recv hK hP (ci := 0) (q0 := 0) rfl (am_w_at h0), fun U hU hW => ⟨⟨rfl, by rw [hU], by rw [hU]; exact hP, va_K.moved hW.alike hK⟩, hOk.warm hW, by rw [hU]; exact ax_Z.moved hW.alike (hZ.1.narrow hA), by rw [hU]; exact ax_Z.moved hW.alike (hZ.2.narrow hA)⟩⟩
    rfl rfl hl.1 rfl (lv_room (Nat.le_of_ble_eq_true rfl)) d_L_put_5 ⟨Nat.le_of_ble_eq_true rfl, Nat.le_of_ble_eq_true rfl⟩ hS rfl hA ?_ ?_
  · intro hno H1 locs1 U hU hWU hl1 hP1 hz1 hk1 hS1
    obtain ⟨v, hv⟩ : ∃ v, r.1 = some (.int v) := by
      rcases hk with h | h | h
      · exact h
      · exact absurd h (hno _)
      · exact absurd h (hno _)
    rw [hv]
    have hO1 : H1[oa]? = some (vp_cell (kc 3) (1, .inr (.inl f))) := by
      rw [hk1 oa (Array.getElem?_eq_some_iff.mp hO).1 hoo]
      exact hO
    show W p l e _ s m _ below meth c H1 locs1 _ _ _ (F0 m 8 ls [.int v, .int 0, .ref oa])
    refine lv_i2l hx hb d_L_put_8 rfl ?_
    refine W.last hx hb hO1 ((hK.2 3 _ (am_ty_at rfl)).1 1 (fun j => .long (f j))) (fun q => by cases q) (by rw [vp_cell_l, arrV_size]; decide) rfl rfl d_L_put_9 (fun H2 e2 z2 o2 => ?_)
    rw [lx_upd] at e2
    refine W.eq (g2 := F0 m 10 ls []) rfl ?_
    refine lv_goto (tgt := 21) hx hb d_L_put_10 (by decide) ?_
    refine lv_iconst (v := 0) hx hb d_L_put_21 (by decide) ?_
    have hS2 := hS1.put (k := (0 : Int32).toNatClampNeg) z2 o2 (Or.inr rfl)
    have hP2 : va_P D aCl (am_w ρ kc r.2) H2 := hP1.kept (fun q z hz => o2 z.1 (fun hq => by
      obtain ⟨a1, b1⟩ := am_w_fst hz
      exact hoa q (by rw [← hl1]; exact a1) (b1.symm.trans hq)))
    exact W.iret (v := 0) hx hb hr (fun t ht hW => ⟨⟨0, _, rfl, Or.inl ⟨v, hv, rfl, rfl⟩, by rw [ht]; exact hP2, hl1, by rw [ht]; exact e2⟩, hS2.F ht⟩) hS2.2.2 d_L_put_22
  · intro k q ce hk9 H1 locs1 U hU hWU hce hcv hcl hl1 hP1 hz1 hk1 hS1
    have hO1 : H1[oa]? = some (vp_cell (kc 3) (1, .inr (.inl f))) := by
      rw [hk1 oa (Array.getElem?_eq_some_iff.mp hO).1 hoo]
      exact hO
    have hcases : k = 0 ∨ k = 1 := by
      rcases hk with ⟨v, h⟩ | h | h
      · rw [h] at hk9; cases hk9
      · rw [h] at hk9; cases hk9; exact Or.inl rfl
      · rw [h] at hk9; cases hk9; exact Or.inr rfl
    rcases hcases with rfl | rfl
    · refine lx_catch (pc := 5) (name := ax_E 0) (E := ax_E 0) hown [] ⟨0, 10, 13, 13⟩ [⟨0, 10, 17, 15⟩] hta (fun z hz => nomatch hz) (by decide) (by decide) (hts _ (am_mc wt_459)) (va_Nw.use rfl (hOk.1 (.castable (ax_E 0) (ax_E 0)) (List.mem_of_getElem? (i := 452) (by decide +kernel)) (by decide +kernel))) hce hcv hcl ?_
      refine lv_astore (lv' := [(4, .ref q), (0, .ref (ρ 0)), (1, .int p0), (2, .int p1), (3, .ref oa)]) hx hb d_L_put_13 hl (by decide) rfl (fun ls hl => ?_)
      refine lv_iconst (v := 1) hx hb d_L_put_15 (by decide) ?_
      exact W.iret (v := 1) hx hb hr (fun t ht hW => ⟨⟨1, _, rfl, Or.inr ⟨0, hk9, rfl, rfl⟩, by rw [ht]; exact hP1, hl1, by rw [ht]; exact hO1⟩, hS1.F ht⟩) hS1.2.2 d_L_put_16
    · refine lx_catch (pc := 5) (name := ax_E 1) (E := ax_E 1) hown [⟨0, 10, 13, 13⟩] ⟨0, 10, 17, 15⟩ [] hta (fun z hz => by
        cases List.mem_singleton.mp hz
        exact ⟨by decide, ax_E 0, hts _ (am_mc wt_459), hN.1⟩) (by decide) (by decide) (hts _ (am_mc wt_460)) (va_Nw.use rfl (hOk.1 (.castable (ax_E 1) (ax_E 1)) (List.mem_of_getElem? (i := 521) (by decide +kernel)) (by decide +kernel))) hce hcv hcl ?_
      refine lv_astore (lv' := [(4, .ref q), (0, .ref (ρ 0)), (1, .int p0), (2, .int p1), (3, .ref oa)]) hx hb d_L_put_17 hl (by decide) rfl (fun ls hl => ?_)
      refine lv_iconst (v := 2) hx hb d_L_put_19 (by decide) ?_
      exact W.iret (v := 2) hx hb hr (fun t ht hW => ⟨⟨2, _, rfl, Or.inr ⟨1, hk9, rfl, rfl⟩, by rw [ht]; exact hP1, hl1, by rw [ht]; exact hO1⟩, hS1.F ht⟩) hS1.2.2 d_L_put_20
theorem d_L_has_0 : decode method_4_code 0 = .ok (.aload_n 3, 1) := by decide +kernel
theorem d_L_has_1 : decode method_4_code 1 = .ok (.iconst 0, 1) := by decide +kernel
theorem d_L_has_2 : decode method_4_code 2 = .ok (.aload_n 0, 1) := by decide +kernel
theorem d_L_has_3 : decode method_4_code 3 = .ok (.iload_n 1, 1) := by decide +kernel
theorem d_L_has_4 : decode method_4_code 4 = .ok (.iload_n 2, 1) := by decide +kernel
theorem d_L_has_5 : decode method_4_code 5 = .ok (.invokevirtual 17, 3) := by decide +kernel
theorem d_L_has_8 : decode method_4_code 8 = .ok (.i2l, 1) := by decide +kernel
theorem d_L_has_9 : decode method_4_code 9 = .ok (.lastore, 1) := by decide +kernel
theorem d_L_has_10 : decode method_4_code 10 = .ok (.goto 11, 3) := by decide +kernel
theorem d_L_has_13 : decode method_4_code 13 = .ok (.astore 4, 2) := by decide +kernel
theorem d_L_has_15 : decode method_4_code 15 = .ok (.iconst 1, 1) := by decide +kernel
theorem d_L_has_16 : decode method_4_code 16 = .ok (.ireturn, 1) := by decide +kernel
theorem d_L_has_17 : decode method_4_code 17 = .ok (.astore 4, 2) := by decide +kernel
theorem d_L_has_19 : decode method_4_code 19 = .ok (.iconst 2, 1) := by decide +kernel
theorem d_L_has_20 : decode method_4_code 20 = .ok (.ireturn, 1) := by decide +kernel
theorem d_L_has_21 : decode method_4_code 21 = .ok (.iconst 0, 1) := by decide +kernel
theorem d_L_has_22 : decode method_4_code 22 = .ok (.ireturn, 1) := by decide +kernel
set_option maxRecDepth 100000 in
theorem wl_has : (.codeWith ⟨"DesignTextsLaw", "has", "(LDesignTexts;II[J)I"⟩ method_4_code 5 (some .int) [(0, 10, 13, 13), (0, 10, 17, 20)] : Cond) ∈ am_WT := am_inWT (i := 541) (by rfl) (by rfl)
abbrev lw_has : List Cond := .codeWith ⟨"DesignTextsLaw", "has", "(LDesignTexts;II[J)I"⟩ method_4_code 5 (some .int) [(0, 10, 13, 13), (0, 10, 17, 20)] :: am_WT
/-- the law's has -/
theorem lx_has {l : Launch} {D : va_G} {ρ : Nat → Nat} {kc : Nat → ClassId} {oa sz : Nat} {f : Nat → Int64} {p0 p1 : Int32} {h : am_H} {fs : List Value} {r : am_R} (hlen : h.length = 39) (h0 : h[0]? = some (.inr (0, fs))) (hoa : ∀ k, k < 39 → ρ k ≠ oa)
    (hM : ∀ sz : Nat, MetFree l ⟨"DesignTexts", "has", "(II)I"⟩ (headSpec (.code ⟨"DesignTexts", "has", "(II)I"⟩ prog_1_method_5_code 3 (some .int) :: am_WT) ax_rm) (ax_Pc D aCl ρ kc am_fts 39 sz [.ref 0, .int p0, .int p1] h) (fun _ _ _ _ _ => True) (ax_Q D aCl ρ kc 39 sz r)) (hk : (∃ v, r.1 = some (.int v)) ∨ r.1 = some (.retAddr 0) ∨ r.1 = some (.retAddr 2)) :
    Met l ⟨"DesignTextsLaw", "has", "(LDesignTexts;II[J)I"⟩ lw_has lx_rm (lx_Pc D ρ kc oa sz [.int p0, .int p1] f h) (lx_Qc D ρ kc oa sz f (fun k => if k = 0 then 1 else if k = 2 then 2 else 0) r) 1 6 (lx_A ρ oa sz) := by
  refine va_MetW (cc := method_4_code) (maxL := 5) (ret := some .int) (hh := [(0, 10, 13, 13), (0, 10, 17, 20)]) (by decide) rfl ?_
  intro p e s m args below meth c s₁ B hml hv
  obtain ⟨rfl, hsz, hP, hO, hK, hOk, hN, hZ⟩ := hv
  subst hsz
  have hx := B.exec
  have hb := B.bytes
  have hr := B.returns
  have hts := atoms_spec (ws := lw_has) B.pre
  have hown : s.vm.findClass "DesignTextsLaw" = some m.cls := findClass_of_methodNamed B.named
  have hlocks := B.notSynchronized
  have hta := lx_table B (hts _ List.mem_cons_self)
  have hS : va_S (lx_A ρ oa s.heap.size) s.heap s.heap [] := va_S.rf
  have hl := lv_entry ([.ref (ρ 0), .int p0, .int p1, .ref oa]) (n := 5) (Nat.le_of_ble_eq_true rfl)
  rw [show (Value.ref (ρ 0) :: ([.int p0, .int p1] ++ [Value.ref oa])) = [.ref (ρ 0), .int p0, .int p1, .ref oa] from rfl, lg_entry_eq]
  generalize (lg_sl ([.ref (ρ 0), .int p0, .int p1, .ref oa]) ++ List.replicate (5 - (lg_sl ([.ref (ρ 0), .int p0, .int p1, .ref oa])).length) Slot.unset).toArray = ls at hl ⊢
  have hl : lv_has ls 5 [(0, .ref (ρ 0)), (1, .int p0), (2, .int p1), (3, .ref oa)] := hl
  refine lv_aload_n hx hb d_L_has_0 rfl (lv_at hl 3 rfl) ?_
  refine lv_iconst (v := 0) hx hb d_L_has_1 (by decide) ?_
  refine lv_aload_n hx hb d_L_has_2 rfl (lv_at hl 0 rfl) ?_
  refine lv_iload_n hx hb d_L_has_3 rfl (lv_at hl 1 rfl) ?_
  refine lv_iload_n hx hb d_L_has_4 rfl (lv_at hl 2 rfl) ?_
  have hA : ∀ q, am_A ρ 39 s.heap.size q → lx_A ρ oa s.heap.size q := fun q h => Or.inl h
  have hoo : ¬ am_A ρ 39 s.heap.size oa := fun h => by
    rcases h with ⟨k, hk, he⟩ | h
    · exact hoa k hk he.symm
    · exact absurd (Array.getElem?_eq_some_iff.mp hO).1 (Nat.not_lt.mpr h)
  refine ax_callV (g := F0 m 5 ls [.int p1, .int p0, .ref (ρ 0), .int 0, .ref oa]) (As := [.int p0, .int p1]) (rest := [.int 0, .ref oa]) (b := ρ 0) (n := 2) ⟨hx, hb, hml, hown, hts⟩ (hM s.heap.size) (cwV 2 hts (am_gv wt_461 wt_462 wt_463 wt_275 wt_69) rfl rfl rfl (by decide +kernel) ⟨Nat.le_of_ble_eq_true rfl, Nat.le_of_ble_eq_true rfl⟩)
    ⟨ax_blind, va_recv hK hP (ci := 0) (q0 := 0) rfl (am_w_at h0), fun U hU hW => ⟨⟨rfl, by rw [hU], by rw [hU]; exact hP, va_K.moved hW.alike hK⟩, hOk.warm hW, by rw [hU]; exact ax_Z.moved hW.alike (hZ.1.narrow hA), by rw [hU]; exact ax_Z.moved hW.alike (hZ.2.narrow hA)⟩⟩
    rfl rfl hl.1 rfl (lv_room (Nat.le_of_ble_eq_true rfl)) d_L_has_5 ⟨Nat.le_of_ble_eq_true rfl, Nat.le_of_ble_eq_true rfl⟩ hS rfl hA ?_ ?_
  · intro hno H1 locs1 U hU hWU hl1 hP1 hz1 hk1 hS1
    obtain ⟨v, hv⟩ : ∃ v, r.1 = some (.int v) := by
      rcases hk with h | h | h
      · exact h
      · exact absurd h (hno _)
      · exact absurd h (hno _)
    rw [hv]
    have hO1 : H1[oa]? = some (vp_cell (kc 3) (1, .inr (.inl f))) := by
      rw [hk1 oa (Array.getElem?_eq_some_iff.mp hO).1 hoo]
      exact hO
    show W p l e _ s m _ below meth c H1 locs1 _ _ _ (F0 m 8 ls [.int v, .int 0, .ref oa])
    refine lv_i2l hx hb d_L_has_8 rfl ?_
    refine W.last hx hb hO1 ((hK.2 3 _ (am_ty_at rfl)).1 1 (fun j => .long (f j))) (fun q => by cases q) (by rw [vp_cell_l, arrV_size]; decide) rfl rfl d_L_has_9 (fun H2 e2 z2 o2 => ?_)
    rw [lx_upd] at e2
    refine W.eq (g2 := F0 m 10 ls []) rfl ?_
    refine lv_goto (tgt := 21) hx hb d_L_has_10 (by decide) ?_
    refine lv_iconst (v := 0) hx hb d_L_has_21 (by decide) ?_
    have hS2 := hS1.put (k := (0 : Int32).toNatClampNeg) z2 o2 (Or.inr rfl)
    have hP2 : va_P D aCl (am_w ρ kc r.2) H2 := hP1.kept (fun q z hz => o2 z.1 (fun hq => by
      obtain ⟨a1, b1⟩ := am_w_fst hz
      exact hoa q (by rw [← hl1]; exact a1) (b1.symm.trans hq)))
    exact W.iret (v := 0) hx hb hr (fun t ht hW => ⟨⟨0, _, rfl, Or.inl ⟨v, hv, rfl, rfl⟩, by rw [ht]; exact hP2, hl1, by rw [ht]; exact e2⟩, hS2.F ht⟩) hS2.2.2 d_L_has_22
  · intro k q ce hk9 H1 locs1 U hU hWU hce hcv hcl hl1 hP1 hz1 hk1 hS1
    have hO1 : H1[oa]? = some (vp_cell (kc 3) (1, .inr (.inl f))) := by
      rw [hk1 oa (Array.getElem?_eq_some_iff.mp hO).1 hoo]
      exact hO
    have hcases : k = 0 ∨ k = 2 := by
      rcases hk with ⟨v, h⟩ | h | h
      · rw [h] at hk9; cases hk9
      · rw [h] at hk9; cases hk9; exact Or.inl rfl
      · rw [h] at hk9; cases hk9; exact Or.inr rfl
    rcases hcases with rfl | rfl
    · refine lx_catch (pc := 5) (name := ax_E 0) (E := ax_E 0) hown [] ⟨0, 10, 13, 13⟩ [⟨0, 10, 17, 20⟩] hta (fun z hz => nomatch hz) (by decide) (by decide) (hts _ (am_mc wt_459)) (va_Nw.use rfl (hOk.1 (.castable (ax_E 0) (ax_E 0)) (List.mem_of_getElem? (i := 452) (by decide +kernel)) (by decide +kernel))) hce hcv hcl ?_
      refine lv_astore (lv' := [(4, .ref q), (0, .ref (ρ 0)), (1, .int p0), (2, .int p1), (3, .ref oa)]) hx hb d_L_has_13 hl (by decide) rfl (fun ls hl => ?_)
      refine lv_iconst (v := 1) hx hb d_L_has_15 (by decide) ?_
      exact W.iret (v := 1) hx hb hr (fun t ht hW => ⟨⟨1, _, rfl, Or.inr ⟨0, hk9, rfl, rfl⟩, by rw [ht]; exact hP1, hl1, by rw [ht]; exact hO1⟩, hS1.F ht⟩) hS1.2.2 d_L_has_16
    · refine lx_catch (pc := 5) (name := ax_E 2) (E := ax_E 2) hown [⟨0, 10, 13, 13⟩] ⟨0, 10, 17, 20⟩ [] hta (fun z hz => by
        cases List.mem_singleton.mp hz
        exact ⟨by decide, ax_E 0, hts _ (am_mc wt_459), hN.2.1⟩) (by decide) (by decide) (hts _ (am_mc wt_464)) (va_Nw.use rfl (hOk.1 (.castable (ax_E 2) (ax_E 2)) (List.mem_of_getElem? (i := 554) (by decide +kernel)) (by decide +kernel))) hce hcv hcl ?_
      refine lv_astore (lv' := [(4, .ref q), (0, .ref (ρ 0)), (1, .int p0), (2, .int p1), (3, .ref oa)]) hx hb d_L_has_17 hl (by decide) rfl (fun ls hl => ?_)
      refine lv_iconst (v := 2) hx hb d_L_has_19 (by decide) ?_
      exact W.iret (v := 2) hx hb hr (fun t ht hW => ⟨⟨2, _, rfl, Or.inr ⟨2, hk9, rfl, rfl⟩, by rw [ht]; exact hP1, hl1, by rw [ht]; exact hO1⟩, hS1.F ht⟩) hS1.2.2 d_L_has_20
theorem d_L_write_0 : decode method_5_code 0 = .ok (.aload_n 2, 1) := by decide +kernel
theorem d_L_write_1 : decode method_5_code 1 = .ok (.iconst 0, 1) := by decide +kernel
theorem d_L_write_2 : decode method_5_code 2 = .ok (.aload_n 0, 1) := by decide +kernel
theorem d_L_write_3 : decode method_5_code 3 = .ok (.iload_n 1, 1) := by decide +kernel
theorem d_L_write_4 : decode method_5_code 4 = .ok (.invokevirtual 22, 3) := by decide +kernel
theorem d_L_write_7 : decode method_5_code 7 = .ok (.i2l, 1) := by decide +kernel
theorem d_L_write_8 : decode method_5_code 8 = .ok (.lastore, 1) := by decide +kernel
theorem d_L_write_9 : decode method_5_code 9 = .ok (.goto 9, 3) := by decide +kernel
theorem d_L_write_12 : decode method_5_code 12 = .ok (.astore_n 3, 1) := by decide +kernel
theorem d_L_write_13 : decode method_5_code 13 = .ok (.iconst 1, 1) := by decide +kernel
theorem d_L_write_14 : decode method_5_code 14 = .ok (.ireturn, 1) := by decide +kernel
theorem d_L_write_15 : decode method_5_code 15 = .ok (.astore_n 3, 1) := by decide +kernel
theorem d_L_write_16 : decode method_5_code 16 = .ok (.iconst 2, 1) := by decide +kernel
theorem d_L_write_17 : decode method_5_code 17 = .ok (.ireturn, 1) := by decide +kernel
theorem d_L_write_18 : decode method_5_code 18 = .ok (.iconst 0, 1) := by decide +kernel
theorem d_L_write_19 : decode method_5_code 19 = .ok (.ireturn, 1) := by decide +kernel
set_option maxRecDepth 100000 in
theorem wl_write : (.codeWith ⟨"DesignTextsLaw", "write", "(LDesignTexts;I[J)I"⟩ method_5_code 4 (some .int) [(0, 9, 12, 13), (0, 9, 15, 26)] : Cond) ∈ am_WT := am_inWT (i := 571) (by rfl) (by rfl)
abbrev lw_write : List Cond := .codeWith ⟨"DesignTextsLaw", "write", "(LDesignTexts;I[J)I"⟩ method_5_code 4 (some .int) [(0, 9, 12, 13), (0, 9, 15, 26)] :: am_WT
/-- the law's write -/
theorem lx_write {l : Launch} {D : va_G} {ρ : Nat → Nat} {kc : Nat → ClassId} {oa sz : Nat} {f : Nat → Int64} {p0 : Int32} {h : am_H} {fs : List Value} {r : am_R} (hlen : h.length = 39) (h0 : h[0]? = some (.inr (0, fs))) (hoa : ∀ k, k < 39 → ρ k ≠ oa)
    (hM : ∀ sz : Nat, MetFree l ⟨"DesignTexts", "write", "(I)I"⟩ (headSpec (.code ⟨"DesignTexts", "write", "(I)I"⟩ prog_1_method_7_code 2 (some .int) :: am_WT) ax_rm) (ax_Pc D aCl ρ kc am_fts 39 sz [.ref 0, .int p0] h) (fun _ _ _ _ _ => True) (ax_Q D aCl ρ kc 39 sz r)) (hk : (∃ v, r.1 = some (.int v)) ∨ r.1 = some (.retAddr 0) ∨ r.1 = some (.retAddr 3)) :
    Met l ⟨"DesignTextsLaw", "write", "(LDesignTexts;I[J)I"⟩ lw_write lx_rm (lx_Pc D ρ kc oa sz [.int p0] f h) (lx_Qc D ρ kc oa sz f (fun k => if k = 0 then 1 else if k = 3 then 2 else 0) r) 1 6 (lx_A ρ oa sz) := by
  refine va_MetW (cc := method_5_code) (maxL := 4) (ret := some .int) (hh := [(0, 9, 12, 13), (0, 9, 15, 26)]) (by decide) rfl ?_
  intro p e s m args below meth c s₁ B hml hv
  obtain ⟨rfl, hsz, hP, hO, hK, hOk, hN, hZ⟩ := hv
  subst hsz
  have hx := B.exec
  have hb := B.bytes
  have hr := B.returns
  have hts := atoms_spec (ws := lw_write) B.pre
  have hown : s.vm.findClass "DesignTextsLaw" = some m.cls := findClass_of_methodNamed B.named
  have hlocks := B.notSynchronized
  have hta := lx_table B (hts _ List.mem_cons_self)
  have hS : va_S (lx_A ρ oa s.heap.size) s.heap s.heap [] := va_S.rf
  have hl := lv_entry ([.ref (ρ 0), .int p0, .ref oa]) (n := 4) (Nat.le_of_ble_eq_true rfl)
  rw [show (Value.ref (ρ 0) :: ([.int p0] ++ [Value.ref oa])) = [.ref (ρ 0), .int p0, .ref oa] from rfl, lg_entry_eq]
  generalize (lg_sl ([.ref (ρ 0), .int p0, .ref oa]) ++ List.replicate (4 - (lg_sl ([.ref (ρ 0), .int p0, .ref oa])).length) Slot.unset).toArray = ls at hl ⊢
  have hl : lv_has ls 4 [(0, .ref (ρ 0)), (1, .int p0), (2, .ref oa)] := hl
  refine lv_aload_n hx hb d_L_write_0 rfl (lv_at hl 2 rfl) ?_
  refine lv_iconst (v := 0) hx hb d_L_write_1 (by decide) ?_
  refine lv_aload_n hx hb d_L_write_2 rfl (lv_at hl 0 rfl) ?_
  refine lv_iload_n hx hb d_L_write_3 rfl (lv_at hl 1 rfl) ?_
  have hA : ∀ q, am_A ρ 39 s.heap.size q → lx_A ρ oa s.heap.size q := fun q h => Or.inl h
  have hoo : ¬ am_A ρ 39 s.heap.size oa := fun h => by
    rcases h with ⟨k, hk, he⟩ | h
    · exact hoa k hk he.symm
    · exact absurd (Array.getElem?_eq_some_iff.mp hO).1 (Nat.not_lt.mpr h)
  refine ax_callV (g := F0 m 4 ls [.int p0, .ref (ρ 0), .int 0, .ref oa]) (As := [.int p0]) (rest := [.int 0, .ref oa]) (b := ρ 0) (n := 1) ⟨hx, hb, hml, hown, hts⟩ (hM s.heap.size) (cwV 1 hts (am_gv wt_465 wt_466 wt_467 wt_275 wt_70) rfl rfl rfl (by decide +kernel) ⟨Nat.le_of_ble_eq_true rfl, Nat.le_of_ble_eq_true rfl⟩)
    ⟨ax_blind, va_recv hK hP (ci := 0) (q0 := 0) rfl (am_w_at h0), fun U hU hW => ⟨⟨rfl, by rw [hU], by rw [hU]; exact hP, va_K.moved hW.alike hK⟩, hOk.warm hW, by rw [hU]; exact ax_Z.moved hW.alike (hZ.1.narrow hA), by rw [hU]; exact ax_Z.moved hW.alike (hZ.2.narrow hA)⟩⟩
    rfl rfl hl.1 rfl (lv_room (Nat.le_of_ble_eq_true rfl)) d_L_write_4 ⟨Nat.le_of_ble_eq_true rfl, Nat.le_of_ble_eq_true rfl⟩ hS rfl hA ?_ ?_
  · intro hno H1 locs1 U hU hWU hl1 hP1 hz1 hk1 hS1
    obtain ⟨v, hv⟩ : ∃ v, r.1 = some (.int v) := by
      rcases hk with h | h | h
      · exact h
      · exact absurd h (hno _)
      · exact absurd h (hno _)
    rw [hv]
    have hO1 : H1[oa]? = some (vp_cell (kc 3) (1, .inr (.inl f))) := by
      rw [hk1 oa (Array.getElem?_eq_some_iff.mp hO).1 hoo]
      exact hO
    show W p l e _ s m _ below meth c H1 locs1 _ _ _ (F0 m 7 ls [.int v, .int 0, .ref oa])
    refine lv_i2l hx hb d_L_write_7 rfl ?_
    refine W.last hx hb hO1 ((hK.2 3 _ (am_ty_at rfl)).1 1 (fun j => .long (f j))) (fun q => by cases q) (by rw [vp_cell_l, arrV_size]; decide) rfl rfl d_L_write_8 (fun H2 e2 z2 o2 => ?_)
    rw [lx_upd] at e2
    refine W.eq (g2 := F0 m 9 ls []) rfl ?_
    refine lv_goto (tgt := 18) hx hb d_L_write_9 (by decide) ?_
    refine lv_iconst (v := 0) hx hb d_L_write_18 (by decide) ?_
    have hS2 := hS1.put (k := (0 : Int32).toNatClampNeg) z2 o2 (Or.inr rfl)
    have hP2 : va_P D aCl (am_w ρ kc r.2) H2 := hP1.kept (fun q z hz => o2 z.1 (fun hq => by
      obtain ⟨a1, b1⟩ := am_w_fst hz
      exact hoa q (by rw [← hl1]; exact a1) (b1.symm.trans hq)))
    exact W.iret (v := 0) hx hb hr (fun t ht hW => ⟨⟨0, _, rfl, Or.inl ⟨v, hv, rfl, rfl⟩, by rw [ht]; exact hP2, hl1, by rw [ht]; exact e2⟩, hS2.F ht⟩) hS2.2.2 d_L_write_19
  · intro k q ce hk9 H1 locs1 U hU hWU hce hcv hcl hl1 hP1 hz1 hk1 hS1
    have hO1 : H1[oa]? = some (vp_cell (kc 3) (1, .inr (.inl f))) := by
      rw [hk1 oa (Array.getElem?_eq_some_iff.mp hO).1 hoo]
      exact hO
    have hcases : k = 0 ∨ k = 3 := by
      rcases hk with ⟨v, h⟩ | h | h
      · rw [h] at hk9; cases hk9
      · rw [h] at hk9; cases hk9; exact Or.inl rfl
      · rw [h] at hk9; cases hk9; exact Or.inr rfl
    rcases hcases with rfl | rfl
    · refine lx_catch (pc := 4) (name := ax_E 0) (E := ax_E 0) hown [] ⟨0, 9, 12, 13⟩ [⟨0, 9, 15, 26⟩] hta (fun z hz => nomatch hz) (by decide) (by decide) (hts _ (am_mc wt_459)) (va_Nw.use rfl (hOk.1 (.castable (ax_E 0) (ax_E 0)) (List.mem_of_getElem? (i := 452) (by decide +kernel)) (by decide +kernel))) hce hcv hcl ?_
      refine lv_astore_n (lv' := [(3, .ref q), (0, .ref (ρ 0)), (1, .int p0), (2, .ref oa)]) hx hb d_L_write_12 rfl hl (by decide) rfl (fun ls hl => ?_)
      refine lv_iconst (v := 1) hx hb d_L_write_13 (by decide) ?_
      exact W.iret (v := 1) hx hb hr (fun t ht hW => ⟨⟨1, _, rfl, Or.inr ⟨0, hk9, rfl, rfl⟩, by rw [ht]; exact hP1, hl1, by rw [ht]; exact hO1⟩, hS1.F ht⟩) hS1.2.2 d_L_write_14
    · refine lx_catch (pc := 4) (name := ax_E 3) (E := ax_E 3) hown [⟨0, 9, 12, 13⟩] ⟨0, 9, 15, 26⟩ [] hta (fun z hz => by
        cases List.mem_singleton.mp hz
        exact ⟨by decide, ax_E 0, hts _ (am_mc wt_459), hN.2.2⟩) (by decide) (by decide) (hts _ (am_mc wt_468)) (va_Nw.use rfl (hOk.1 (.castable (ax_E 3) (ax_E 3)) (List.mem_of_getElem? (i := 579) (by decide +kernel)) (by decide +kernel))) hce hcv hcl ?_
      refine lv_astore_n (lv' := [(3, .ref q), (0, .ref (ρ 0)), (1, .int p0), (2, .ref oa)]) hx hb d_L_write_15 rfl hl (by decide) rfl (fun ls hl => ?_)
      refine lv_iconst (v := 2) hx hb d_L_write_16 (by decide) ?_
      exact W.iret (v := 2) hx hb hr (fun t ht hW => ⟨⟨2, _, rfl, Or.inr ⟨3, hk9, rfl, rfl⟩, by rw [ht]; exact hP1, hl1, by rw [ht]; exact hO1⟩, hS1.F ht⟩) hS1.2.2 d_L_write_17
theorem d_L_written_0 : decode method_6_code 0 = .ok (.aload_n 2, 1) := by decide +kernel
theorem d_L_written_1 : decode method_6_code 1 = .ok (.iconst 0, 1) := by decide +kernel
theorem d_L_written_2 : decode method_6_code 2 = .ok (.aload_n 0, 1) := by decide +kernel
theorem d_L_written_3 : decode method_6_code 3 = .ok (.iload_n 1, 1) := by decide +kernel
theorem d_L_written_4 : decode method_6_code 4 = .ok (.invokevirtual 28, 3) := by decide +kernel
theorem d_L_written_7 : decode method_6_code 7 = .ok (.i2l, 1) := by decide +kernel
theorem d_L_written_8 : decode method_6_code 8 = .ok (.lastore, 1) := by decide +kernel
theorem d_L_written_9 : decode method_6_code 9 = .ok (.goto 6, 3) := by decide +kernel
theorem d_L_written_12 : decode method_6_code 12 = .ok (.astore_n 3, 1) := by decide +kernel
theorem d_L_written_13 : decode method_6_code 13 = .ok (.iconst 1, 1) := by decide +kernel
theorem d_L_written_14 : decode method_6_code 14 = .ok (.ireturn, 1) := by decide +kernel
theorem d_L_written_15 : decode method_6_code 15 = .ok (.iconst 0, 1) := by decide +kernel
theorem d_L_written_16 : decode method_6_code 16 = .ok (.ireturn, 1) := by decide +kernel
set_option maxRecDepth 100000 in
theorem wl_written : (.codeWith ⟨"DesignTextsLaw", "written", "(LDesignTexts;I[J)I"⟩ method_6_code 4 (some .int) [(0, 9, 12, 31)] : Cond) ∈ am_WT := am_inWT (i := 635) (by rfl) (by rfl)
abbrev lw_written : List Cond := .codeWith ⟨"DesignTextsLaw", "written", "(LDesignTexts;I[J)I"⟩ method_6_code 4 (some .int) [(0, 9, 12, 31)] :: am_WT
/-- the law's written -/
theorem lx_written {l : Launch} {D : va_G} {ρ : Nat → Nat} {kc : Nat → ClassId} {oa sz : Nat} {f : Nat → Int64} {p0 : Int32} {h : am_H} {fs : List Value} {r : am_R} (hlen : h.length = 39) (h0 : h[0]? = some (.inr (0, fs))) (hoa : ∀ k, k < 39 → ρ k ≠ oa)
    (hM : ∀ sz : Nat, MetFree l ⟨"DesignTexts", "written", "(I)I"⟩ (headSpec (.code ⟨"DesignTexts", "written", "(I)I"⟩ prog_1_method_8_code 2 (some .int) :: am_WT) ax_rm) (ax_Pc D aCl ρ kc am_fts 39 sz [.ref 0, .int p0] h) (fun _ _ _ _ _ => True) (ax_Q D aCl ρ kc 39 sz r)) (hk : (∃ v, r.1 = some (.int v)) ∨ r.1 = some (.retAddr 4)) :
    Met l ⟨"DesignTextsLaw", "written", "(LDesignTexts;I[J)I"⟩ lw_written lx_rm (lx_Pc D ρ kc oa sz [.int p0] f h) (lx_Qc D ρ kc oa sz f (fun k => if k = 4 then 1 else 0) r) 1 6 (lx_A ρ oa sz) := by
  refine va_MetW (cc := method_6_code) (maxL := 4) (ret := some .int) (hh := [(0, 9, 12, 31)]) (by decide) rfl ?_
  intro p e s m args below meth c s₁ B hml hv
  obtain ⟨rfl, hsz, hP, hO, hK, hOk, hN, hZ⟩ := hv
  subst hsz
  have hx := B.exec
  have hb := B.bytes
  have hr := B.returns
  have hts := atoms_spec (ws := lw_written) B.pre
  have hown : s.vm.findClass "DesignTextsLaw" = some m.cls := findClass_of_methodNamed B.named
  have hlocks := B.notSynchronized
  have hta := lx_table B (hts _ List.mem_cons_self)
  have hS : va_S (lx_A ρ oa s.heap.size) s.heap s.heap [] := va_S.rf
  have hl := lv_entry ([.ref (ρ 0), .int p0, .ref oa]) (n := 4) (Nat.le_of_ble_eq_true rfl)
  rw [show (Value.ref (ρ 0) :: ([.int p0] ++ [Value.ref oa])) = [.ref (ρ 0), .int p0, .ref oa] from rfl, lg_entry_eq]
  generalize (lg_sl ([.ref (ρ 0), .int p0, .ref oa]) ++ List.replicate (4 - (lg_sl ([.ref (ρ 0), .int p0, .ref oa])).length) Slot.unset).toArray = ls at hl ⊢
  have hl : lv_has ls 4 [(0, .ref (ρ 0)), (1, .int p0), (2, .ref oa)] := hl
  refine lv_aload_n hx hb d_L_written_0 rfl (lv_at hl 2 rfl) ?_
  refine lv_iconst (v := 0) hx hb d_L_written_1 (by decide) ?_
  refine lv_aload_n hx hb d_L_written_2 rfl (lv_at hl 0 rfl) ?_
  refine lv_iload_n hx hb d_L_written_3 rfl (lv_at hl 1 rfl) ?_
  have hA : ∀ q, am_A ρ 39 s.heap.size q → lx_A ρ oa s.heap.size q := fun q h => Or.inl h
  have hoo : ¬ am_A ρ 39 s.heap.size oa := fun h => by
    rcases h with ⟨k, hk, he⟩ | h
    · exact hoa k hk he.symm
    · exact absurd (Array.getElem?_eq_some_iff.mp hO).1 (Nat.not_lt.mpr h)
  refine ax_callV (g := F0 m 4 ls [.int p0, .ref (ρ 0), .int 0, .ref oa]) (As := [.int p0]) (rest := [.int 0, .ref oa]) (b := ρ 0) (n := 1) ⟨hx, hb, hml, hown, hts⟩ (hM s.heap.size) (cwV 1 hts (am_gv wt_469 wt_470 wt_471 wt_275 wt_71) rfl rfl rfl (by decide +kernel) ⟨Nat.le_of_ble_eq_true rfl, Nat.le_of_ble_eq_true rfl⟩)
    ⟨ax_blind, va_recv hK hP (ci := 0) (q0 := 0) rfl (am_w_at h0), fun U hU hW => ⟨⟨rfl, by rw [hU], by rw [hU]; exact hP, va_K.moved hW.alike hK⟩, hOk.warm hW, by rw [hU]; exact ax_Z.moved hW.alike (hZ.1.narrow hA), by rw [hU]; exact ax_Z.moved hW.alike (hZ.2.narrow hA)⟩⟩
    rfl rfl hl.1 rfl (lv_room (Nat.le_of_ble_eq_true rfl)) d_L_written_4 ⟨Nat.le_of_ble_eq_true rfl, Nat.le_of_ble_eq_true rfl⟩ hS rfl hA ?_ ?_
  · intro hno H1 locs1 U hU hWU hl1 hP1 hz1 hk1 hS1
    obtain ⟨v, hv⟩ : ∃ v, r.1 = some (.int v) := by
      rcases hk with h | h
      · exact h
      · exact absurd h (hno _)
    rw [hv]
    have hO1 : H1[oa]? = some (vp_cell (kc 3) (1, .inr (.inl f))) := by
      rw [hk1 oa (Array.getElem?_eq_some_iff.mp hO).1 hoo]
      exact hO
    show W p l e _ s m _ below meth c H1 locs1 _ _ _ (F0 m 7 ls [.int v, .int 0, .ref oa])
    refine lv_i2l hx hb d_L_written_7 rfl ?_
    refine W.last hx hb hO1 ((hK.2 3 _ (am_ty_at rfl)).1 1 (fun j => .long (f j))) (fun q => by cases q) (by rw [vp_cell_l, arrV_size]; decide) rfl rfl d_L_written_8 (fun H2 e2 z2 o2 => ?_)
    rw [lx_upd] at e2
    refine W.eq (g2 := F0 m 9 ls []) rfl ?_
    refine lv_goto (tgt := 15) hx hb d_L_written_9 (by decide) ?_
    refine lv_iconst (v := 0) hx hb d_L_written_15 (by decide) ?_
    have hS2 := hS1.put (k := (0 : Int32).toNatClampNeg) z2 o2 (Or.inr rfl)
    have hP2 : va_P D aCl (am_w ρ kc r.2) H2 := hP1.kept (fun q z hz => o2 z.1 (fun hq => by
      obtain ⟨a1, b1⟩ := am_w_fst hz
      exact hoa q (by rw [← hl1]; exact a1) (b1.symm.trans hq)))
    exact W.iret (v := 0) hx hb hr (fun t ht hW => ⟨⟨0, _, rfl, Or.inl ⟨v, hv, rfl, rfl⟩, by rw [ht]; exact hP2, hl1, by rw [ht]; exact e2⟩, hS2.F ht⟩) hS2.2.2 d_L_written_16
  · intro k q ce hk9 H1 locs1 U hU hWU hce hcv hcl hl1 hP1 hz1 hk1 hS1
    have hO1 : H1[oa]? = some (vp_cell (kc 3) (1, .inr (.inl f))) := by
      rw [hk1 oa (Array.getElem?_eq_some_iff.mp hO).1 hoo]
      exact hO
    have hcases : k = 4 := by
      rcases hk with ⟨v, h⟩ | h
      · rw [h] at hk9; cases hk9
      · rw [h] at hk9; cases hk9; exact rfl
    cases hcases
    refine lx_catch (pc := 4) (name := ax_E 4) (E := ax_E 4) hown [] ⟨0, 9, 12, 31⟩ [] hta (fun z hz => nomatch hz) (by decide) (by decide) (hts _ (am_mc wt_472)) (va_Nw.use rfl (hOk.1 (.castable (ax_E 4) (ax_E 4)) (List.mem_of_getElem? (i := 643) (by decide +kernel)) (by decide +kernel))) hce hcv hcl ?_
    refine lv_astore_n (lv' := [(3, .ref q), (0, .ref (ρ 0)), (1, .int p0), (2, .ref oa)]) hx hb d_L_written_12 rfl hl (by decide) rfl (fun ls hl => ?_)
    refine lv_iconst (v := 1) hx hb d_L_written_13 (by decide) ?_
    exact W.iret (v := 1) hx hb hr (fun t ht hW => ⟨⟨1, _, rfl, Or.inr ⟨4, hk9, rfl, rfl⟩, by rw [ht]; exact hP1, hl1, by rw [ht]; exact hO1⟩, hS1.F ht⟩) hS1.2.2 d_L_written_14
