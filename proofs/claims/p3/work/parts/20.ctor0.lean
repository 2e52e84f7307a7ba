/-! CONSTRUCTORS: rows for them, over a world that grows -/
/-- what a constructor needs of the state beside words that calls hand on: nest mates' links, the class of int[][] -/
def ac_O (U : State) : Prop := va_Nw (.methodLinkNest "DesignTexts" 9 ⟨"DesignTexts$Bytes", "<init>", "()V"⟩ "DesignTexts") U ∧ va_Nw (.methodLinkNest "DesignTexts" 37 ⟨"DesignTexts$Design", "<init>", "()V"⟩ "DesignTexts") U ∧ (Cond.arrayOver (.array .int)).before #[] U = true
theorem ac_O.warm {s U : State} (hW : s.WarmedH U.vm) (h : ac_O s) : ac_O U := ⟨va_Nw.warmM hW h.1, va_Nw.warmM hW h.2.1, arrayOver_alikeB hW.alike h.2.2⟩
theorem ac_O.same {s U : State} (hv : s.vm = U.vm) (h : ac_O s) : ac_O U := ⟨va_Nw.same rfl hv h.1, va_Nw.same rfl hv h.2.1, arrayOver_alikeB (by rw [hv]; exact Vm.Alike.refl _) h.2.2⟩
def ac_Pc (D : va_G) (kc : Nat → ClassId) (sz : Nat) (av : List Value) (ws : va_W) : Array Value → State → Prop :=
  va_Pc av (fun U => U.heap.size = sz ∧ va_P D aCl ws U.heap ∧ va_K D aCl (am_tys kc am_fts) U ∧ va_D (fun _ => True) ws ∧ ac_O U)
def ac_Qc (D : va_G) (sz : Nat) (ws : va_W) (F : va_W → Prop) : Array Value → State → Outcome → State → Prop :=
  va_Qv F (fun w t => va_P D aCl w t.heap ∧ va_D (va_A ws sz) w) (va_A ws sz)
theorem ac_blind {D : va_G} {kc : Nat → ClassId} {sz : Nat} {av : List Value} {ws : va_W} : FrameBlind (ac_Pc D kc sz av ws) :=
  fun a U g mk q => ⟨q.1, q.2.1, q.2.2.1, va_K.moved (u := U) (U := U.calling g mk a) (Vm.Alike.refl U.vm) q.2.2.2.1, q.2.2.2.2.1, ac_O.same (s := U) (U := U.calling g mk a) rfl q.2.2.2.2.2⟩
theorem am_gc {c0 cd : Cond} (h : cd ∈ am_WT) : GoodIn (c0 :: am_WT) (cd :: am_WT) := by
  intro w hw
  have hm : w ∈ am_WT := by
    rcases List.mem_cons.mp hw with rfl | hw
    · exact h
    · exact hw
  exact ⟨List.mem_cons_of_mem _ hm, good_of_word (am_WT_good hm)⟩
theorem ac_RA {U : State} {c1 c2 : ClassId} {ty : FieldType} (h1 : va_RA U c1 ty) (h2 : va_RA U c2 ty) : c1 = c2 := by
  cases ty with
  | object C =>
    obtain ⟨_, _, -, -, -, e1⟩ := h1
    obtain ⟨_, _, -, -, -, e2⟩ := h2
    exact Option.some.inj (e1.symm.trans e2)
  | _ => exact Option.some.inj ((show U.vm.findClass _ = some c1 from h1).symm.trans h2)
theorem ac_ext {D : va_G} {cl : List vw_C} {ws : va_W} {H : Heap} (h : va_P D cl ws H) (k : Nat) {a : Nat} {c : ClassId} {x y : vp_A} (he : ws[k]? = some (a, .inl (c, x))) (hxy : vp_cell c x = vp_cell c y) : va_P D cl (ws.set k (a, .inl (c, y))) H := by
  intro j q hq
  by_cases e : k = j
  · subst e
    rw [List.getElem?_set_self (List.getElem?_eq_some_iff.mp he).1] at hq
    cases hq
    show H[a]? = some (vp_cell c y)
    rw [← hxy]
    exact h k _ he
  · rw [List.getElem?_set_ne e] at hq
    exact h j q hq
theorem ac_extD {A : Nat → Prop} {ws : va_W} (h : va_D A ws) (k : Nat) {a : Nat} {x y : va_E} (he : ws[k]? = some (a, x)) : va_D A (ws.set k (a, y)) := by
  have hg : ∀ (j : Nat) (q : Nat × va_E), (ws.set k (a, y))[j]? = some q → ∃ q', ws[j]? = some q' ∧ q'.1 = q.1 := by
    intro j q hq
    by_cases e : k = j
    · subst e
      rw [List.getElem?_set_self (List.getElem?_eq_some_iff.mp he).1] at hq
      cases hq
      exact ⟨_, he, rfl⟩
    · rw [List.getElem?_set_ne e] at hq
      exact ⟨q, hq, rfl⟩
  refine ⟨fun i j p q hp hq hpq => ?_, fun j q hq => ?_⟩
  · obtain ⟨p', hp', ep⟩ := hg i p hp
    obtain ⟨q', hq', eq⟩ := hg j q hq
    exact h.1 i j p' q' hp' hq' (ep.trans (hpq.trans eq.symm))
  · obtain ⟨q', hq', eq⟩ := hg j q hq
    rw [← eq]
    exact h.2 j q' hq'
theorem ac_arrV {c : ClassId} {N : Nat} {f g : Nat → Value} (h : ∀ j, j < N → f j = g j) : arrV c N f = arrV c N g := by
  have e : (fun j : Fin N => f j.val) = fun j : Fin N => g j.val := funext fun j => h j.1 j.2
  unfold arrV
  rw [e]
theorem ac_outer (c : ClassId) (N h0 : Nat) : ∀ i : Nat, Jvm.Free.Multi.outerC c N h0 i = arrV c N (fun j => if j < i then .ref (h0 + 1 + j) else .null)
  | 0 => (arrV_new c N .null).trans (ac_arrV (fun j _ => by simp))
  | i + 1 => by
    show (Jvm.Free.Multi.outerC c N h0 i).setSlot i (.ref (h0 + 1 + i)) = _
    rw [ac_outer c N h0 i, arrV_store]
    refine ac_arrV (fun j _ => ?_)
    unfold updV
    by_cases e : j = i
    · subst e
      simp
    · by_cases e2 : j < i
      · simp [e, e2, Nat.lt_succ_of_lt e2]
      · simp [e, e2, show ¬ j < i + 1 by omega]
section ACR
variable {p : Program} {l : Launch} {e : Env} {R : Room} {s : State} {m : MethodId} {args : Array Value} {below : List Frame} {meth : Method} {c : Code} {H : Heap} {locs : List Loc} {cells slots : Nat} {Q : State → Prop}
variable {cc : ByteArray} {pc : Nat} {ls : Array Slot} {rest : List Value} {D : va_G} {A : Nat → Prop} {a : Nat} {kc : Nat → ClassId} {ws : va_W}
/-- what holds at every row of a constructor -/
def ac_X (p : Program) (s : State) (m : MethodId) (args : Array Value) (meth : Method) (c : Code) (cc : ByteArray) (Ts : List Cond) (own : String) (D : va_G) (kc : Nat → ClassId) (A : Nat → Prop) : Prop :=
  p.tables.exec = Jvm.exec ∧ c.code = cc ∧ (∀ w ∈ Ts, w.before args s = true) ∧ s.vm.findClass own = some m.cls ∧ meth.name = "<init>" ∧ va_K D aCl (am_tys kc am_fts) s ∧ ∀ q, s.heap.size ≤ q → A q
/-- a class's table of fields -/
def ac_T (Ts : List Cond) (own : String) (T : u_T) (tyf : Nat → FieldType) (N ci : Nat) : Prop :=
  (∀ w ∈ u_ws own T N, w ∈ Ts) ∧ (∀ k, k < N → parseFieldDescriptor (T k).2.2.1 = some (tyf k)) ∧ (∀ a, a < N → ∀ b, b < N → a ≠ b → (T a).2.1 ≠ (T b).2.1) ∧ aCl[ci]? = some (own, T, N)
def ac_G (s : State) (D : va_G) (A : Nat → Prop) (ws : va_W) (H : Heap) (locs : List Loc) : Prop := va_P D aCl ws H ∧ va_D A ws ∧ va_S A s.heap H locs
/-- this.f = new T[n] -/
theorem ac_na {Ts : List Cond} {own : String} {T : u_T} {tyf : Nat → FieldType} {N ci index pc2 t : Nat} {atype : ArrayType} {n : Int32} {N' : Nat} {a0 : vp_A} {fs : List Value} {ety : FieldType}
    (X : ac_X p s m args meth c cc Ts own D kc A) (F : ac_T Ts own T tyf N ci) (G : ac_G s D A ws H locs) (hl0 : ls[0]? = some (.val (.ref a))) (q0 : Nat) (he : ws[q0]? = some (a, .inr (ci, fs)))
    (k : Nat) (hk : k < N) (hlink : Cond.fieldLink own index own (T k).2.1 (T k).2.2.1 ∈ Ts) (hfin : (T k).2.2.2 = true ∧ (T k).1 = own ∧ parseFieldDescriptor (T k).2.2.1 = some (.array ety)) (hl : k < fs.length)
    (harr : Cond.arrayClass ety ∈ Ts) (hat : newarray.typeOf atype = ety) (ht : am_fts[t]? = some ety) (ha : ∀ cA : ClassId, vp_cell cA a0 = arrV cA N' (fun _ => defaultValue ety))
    (hn : ¬ n < 0) (hN : n.toNatClampNeg = N') (hby : N' * componentBytes ety ≤ 536870912) (hcells : cells + 1 ≤ R.cells) (hslots : slots + N' ≤ R.slots)
    (d0 : decode cc pc = .ok (.aload_n 0, 1)) (hpush : ∀ st : List Value, W p l e R s m args below meth c H locs cells slots Q (F0 m pc2 ls (.int n :: st)) → W p l e R s m args below meth c H locs cells slots Q (F0 m (pc + 1) ls st))
    (d2 : decode cc pc2 = .ok (.newarray atype, 2)) (d3 : decode cc (pc2 + 2) = .ok (.putfield index, 3))
    (kk : ∀ (q : Nat) (H1 : Heap) (locs1 : List Loc), ac_G s D A ((ws ++ [((q, .inl (kc t, a0)) : Nat × va_E)]).set q0 (a, .inr (ci, fs.set k (.ref q)))) H1 locs1 → W p l e R s m args below meth c H1 locs1 (cells + 1) (slots + N') Q (F0 m (pc2 + 2 + 3) ls [])) :
    W p l e R s m args below meth c H locs cells slots Q (F0 m pc ls []) := by
  obtain ⟨hx, hb, hts, hown, hmn, hK, hA⟩ := X
  obtain ⟨hin, hty, hnm, hc⟩ := F
  obtain ⟨hP, hD, hS⟩ := G
  refine lv_aload_n hx hb d0 rfl hl0 ?_
  refine hpush _ ?_
  refine va_newa (ty := ety) hx hb (by rw [hat]; exact hts _ harr) hat hK hP hD hS hA ha hn hN hby hcells hslots d2 (fun q cA H1 hK1 hP1 hD1 hS1 => ?_)
  have h1 := (hK1.2 (am_tys kc am_fts).length (cA, ety) (by rw [List.getElem?_append_right (Nat.le_refl _), Nat.sub_self]; rfl)).2
  have h2 := (hK.2 t _ (am_ty_at ht)).2
  have hcA : cA = kc t := ac_RA h1 h2
  subst hcA
  refine va_putF (D := D) (ci := ci) (v := .ref q) (ty := .array ety) (C := own) (T := T) (N := N) hx hb hts hin tyf hty hnm hown hK hP1 hD1 hS1 q0 (by rw [List.getElem?_append_left (List.getElem?_eq_some_iff.mp he).1]; exact he) hc k hk (hts _ hlink) (fun _ h9 => by rw [hfin.2.1] at h9; exact h9) hfin.1 hmn hfin.2.1 hfin.2.2 rfl rfl hl d3 (fun H2 locs2 hP2 hD2 hS2 => ?_)
  exact kk q H2 locs2 ⟨hP2, hD2, hS2⟩
/-- this.f = new int[n][k] -/
theorem ac_mna {Ts : List Cond} {own : String} {T : u_T} {tyf : Nat → FieldType} {N ci index ixc : Nat} {fs : List Value}
    (X : ac_X p s m args meth c cc Ts own D kc A) (F : ac_T Ts own T tyf N ci) (G : ac_G s D A ws H locs) (hO : ac_O s) (hl0 : ls[0]? = some (.val (.ref a))) (q0 : Nat) (he : ws[q0]? = some (a, .inr (ci, fs)))
    (k : Nat) (hk : k < N) (hlink : Cond.fieldLink own index own (T k).2.1 (T k).2.2.1 ∈ Ts) (hfin : (T k).2.2.2 = true ∧ (T k).1 = own ∧ parseFieldDescriptor (T k).2.2.1 = some (.array (.array .int))) (hl : k < fs.length)
    {cs : String} (hcs : "[" ++ (FieldType.array .int).toString = cs) (hcl : Cond.classLink own ixc cs ∈ Ts) (harr : Cond.arrayClass .int ∈ Ts) (hcells : cells + (1 + 8) ≤ R.cells) (hslots : slots + (8 + 8 * 60) ≤ R.slots)
    (d0 : decode cc pc = .ok (.aload_n 0, 1)) (d1 : decode cc (pc + 1) = .ok (.bipush 8, 2)) (d2 : decode cc (pc + 1 + 2) = .ok (.bipush 60, 2)) (d3 : decode cc (pc + 1 + 2 + 2) = .ok (.multianewarray ixc 2, 4)) (d4 : decode cc (pc + 1 + 2 + 2 + 4) = .ok (.putfield index, 3))
    (kk : ∀ (q : Nat) (H1 : Heap) (locs1 : List Loc), ac_G s D A ((ws ++ (((q, .inl (kc 4, 8, .inr (.inr (.inr (.inr (fun i => some (q + 1 + i))))))) : Nat × va_E) :: (List.range 8).map (fun i => ((q + 1 + i, .inl (kc 1, 60, .inl (fun _ => 0))) : Nat × va_E)))).set q0 (a, .inr (ci, fs.set k (.ref q)))) H1 locs1 → W p l e R s m args below meth c H1 locs1 (cells + 1 + 8) (slots + 8 + 8 * 60) Q (F0 m (pc + 1 + 2 + 2 + 4 + 3) ls [])) :
    W p l e R s m args below meth c H locs cells slots Q (F0 m pc ls []) := by
  obtain ⟨hx, hb, hts, hown, hmn, hK, hA⟩ := X
  obtain ⟨hin, hty, hnm, hc⟩ := F
  obtain ⟨hP, hD, hS⟩ := G
  refine lv_aload_n hx hb d0 rfl hl0 ?_
  refine lv_bipush (v := 8) hx hb d1 (by decide) ?_
  refine lv_bipush (v := 60) hx hb d2 (by decide) ?_
  intro T0 hT Xs
  obtain ⟨vm₁, cA, comp, -, fA, fC, hOA, -, X', step⟩ := Xs.multianewarray2F hx hown (by rw [hcs]; exact hts _ hcl) hO.2.2 (hts _ harr) (g := F0 m (pc + 1 + 2 + 2) ls [.int 60, .int 8, .ref a]) rfl (by rw [hb]; exact d3) rfl (by decide) (by decide) (by decide) (by decide) (by decide) (by decide) (by decide) hcells hslots
  have ecA : cA = kc 4 := ac_RA (ty := .array .int) (show s.vm.findClass _ = some cA from fA) (hK.2 4 _ rfl).2
  have ecI : comp = kc 1 := ac_RA (ty := .int) (show s.vm.findClass _ = some comp from fC) (hK.2 1 _ rfl).2
  subst ecA
  subst ecI
  have n8 : (8 : Int32).toNatClampNeg = 8 := by decide
  have n60 : (60 : Int32).toNatClampNeg = 60 := by decide
  rw [n8, n60] at X' step
  generalize hF : Jvm.Free.Multi.fill (T0.setVm vm₁) (kc 4) (kc 1) 8 60 (defaultValue .int) 8 = F at X' step
  have hTh : (T0.setVm vm₁).heap = H := hT
  obtain ⟨f1, f2, -, -⟩ := Jvm.Free.Multi.fill_facts (T0.setVm vm₁) (kc 4) (kc 1) 8 60 (defaultValue .int) 8
  rw [hF, hTh] at f1 f2
  have hold : ∀ x : Nat, x < H.size → F.heap[x]? = H[x]? := fun x hx9 => by
    have := Jvm.Free.Multi.fill_old (T0.setVm vm₁) (kc 4) (kc 1) 8 60 (defaultValue .int) (a := x) (by rw [hTh]; exact hx9) 8
    rw [hF, hTh] at this
    exact this
  have hrow : ∀ j : Nat, j < 8 → F.heap[H.size + 1 + j]? = some (vp_cell (kc 1) (60, .inl (fun _ => 0))) := fun j hj => by
    have := Jvm.Free.Multi.fill_inner (T0.setVm vm₁) (kc 4) (kc 1) 8 60 (defaultValue .int) 8 j hj
    rw [hF, hTh] at this
    rw [this]
    refine congrArg some ?_
    exact arrV_new (kc 1) 60 (.int 0)
  have hout : Jvm.Free.Multi.outerC (kc 4) 8 H.size 8 = vp_cell (kc 4) (8, .inr (.inr (.inr (.inr (fun i => some (H.size + 1 + i)))))) := by
    rw [vp_cell_q, ac_outer]
    exact ac_arrV (fun j hj => by rw [if_pos hj]; rfl)
  rw [hout] at f2
  have hP0 : va_P D aCl ws F.heap := hP.kept (fun k9 x hx9 => hold x.1 ((hP k9 x hx9).lt))
  have hPn : va_P D aCl ((H.size, .inl (kc 4, 8, .inr (.inr (.inr (.inr (fun i => some (H.size + 1 + i))))))) :: (List.range 8).map (fun i => (H.size + 1 + i, .inl (kc 1, 60, .inl (fun _ => 0))))) F.heap := by
    intro k9 x hx9
    rcases List.mem_cons.mp (List.mem_of_getElem? hx9) with rfl | h9
    · exact f2
    · obtain ⟨i, hi, rfl⟩ := List.mem_map.mp h9
      exact hrow i (List.mem_range.mp hi)
  have hnew : ∀ (k9 : Nat) (x : Nat × va_E), ((H.size, .inl (kc 4, 8, .inr (.inr (.inr (.inr (fun i => some (H.size + 1 + i))))))) :: (List.range 8).map (fun i => ((H.size + 1 + i, .inl (kc 1, 60, .inl (fun _ => 0))) : Nat × va_E)))[k9]? = some x → x.1 = H.size + k9 := by
    intro k9 x hx9
    match k9, hx9 with
    | 0, hx9 => cases hx9; rfl
    | k9 + 1, hx9 =>
      rw [List.getElem?_cons_succ, List.getElem?_map] at hx9
      by_cases h9 : k9 < 8
      · rw [List.getElem?_range h9] at hx9
        cases hx9
        show H.size + 1 + k9 = H.size + (k9 + 1)
        omega
      · rw [List.getElem?_eq_none (by rw [List.length_range]; omega)] at hx9
        cases hx9
  have hPA := hP0.app hPn
  have hDA : va_D A (ws ++ ((H.size, .inl (kc 4, 8, .inr (.inr (.inr (.inr (fun i => some (H.size + 1 + i))))))) :: (List.range 8).map (fun i => ((H.size + 1 + i, .inl (kc 1, 60, .inl (fun _ => 0))) : Nat × va_E)))) := by
    generalize ((H.size, .inl (kc 4, 8, .inr (.inr (.inr (.inr (fun i => some (H.size + 1 + i))))))) :: (List.range 8).map (fun i => ((H.size + 1 + i, .inl (kc 1, 60, .inl (fun _ => 0))) : Nat × va_E))) = wn at hnew
    have hsp : ∀ (i : Nat) (x : Nat × va_E), (ws ++ wn)[i]? = some x → (ws[i]? = some x ∧ x.1 < H.size) ∨ (ws.length ≤ i ∧ x.1 = H.size + (i - ws.length)) := by
      intro i x hx9
      by_cases hl9 : i < ws.length
      · rw [List.getElem?_append_left hl9] at hx9
        exact Or.inl ⟨hx9, (hP i x hx9).lt⟩
      · rw [List.getElem?_append_right (by omega)] at hx9
        exact Or.inr ⟨by omega, hnew _ _ hx9⟩
    refine ⟨fun i j x y hx9 hy9 hxy => ?_, fun i x hx9 => ?_⟩
    · rcases hsp i x hx9 with ⟨h1, h2⟩ | ⟨h1, h2⟩ <;> rcases hsp j y hy9 with ⟨h3, h4⟩ | ⟨h3, h4⟩
      · exact hD.1 i j x y h1 h3 hxy
      · omega
      · omega
      · omega
    · rcases hsp i x hx9 with ⟨h1, h2⟩ | ⟨h1, h2⟩
      · exact hD.2 i x h1
      · exact hA _ (by rw [h2]; exact Nat.le_trans hS.1 (Nat.le_add_right _ _))
  have hSA : va_S A s.heap F.heap locs := ⟨Nat.le_trans hS.1 (by rw [f1]; omega), fun x h1 h2 => (hold x (Nat.lt_of_lt_of_le h1 hS.1)).trans (hS.2.1 x h1 h2), hS.2.2⟩
  have K : W p l e R s m args below meth c F.heap locs (cells + 1 + 8) (slots + 8 + 8 * 60) Q (F0 m (pc + 1 + 2 + 2 + 4) ls [.ref H.size, .ref a]) := by
    refine va_putF (D := D) (ci := ci) (v := .ref H.size) (ty := .array (.array .int)) (C := own) (T := T) (N := N) hx hb hts hin tyf hty hnm hown hK hPA hDA hSA q0 (by rw [List.getElem?_append_left (List.getElem?_eq_some_iff.mp he).1]; exact he) hc k hk (hts _ hlink) (fun _ h9 => by rw [hfin.2.1] at h9; exact h9) hfin.1 hmn hfin.2.1 hfin.2.2 rfl rfl hl d4 (fun H2 locs2 hP2 hD2 hS2 => ?_)
    exact kk H.size H2 locs2 ⟨hP2, hD2, hS2⟩
  obtain ⟨t2, a1, b1⟩ := K F rfl X'
  refine ⟨t2, step t2 ?_, b1⟩
  rw [show T0.heap.size = H.size by rw [hT]]
  exact a1
end ACR
