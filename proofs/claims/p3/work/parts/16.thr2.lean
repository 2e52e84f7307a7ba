def ax_strs : List (Nat × String) := [(47, "many is not 1 .. 4"), (58, "more than 1500 bytes"), (89, "no such kind"), (97, "no such one"), (110, "not in order"), (121, "below 0")]
/-! what a throw needs of the state: words of the tables, the texts, Throwable's two statics -/
def ax_no (w : Cond) : Bool := decide (w ≠ .isRef (.static Jvm.Bundle.tN "UNASSIGNED_STACK" Jvm.Bundle.steD)) && decide (w ≠ .isRef (.static Jvm.Bundle.tN "SUPPRESSED_SENTINEL" Jvm.Bundle.listD)) && decide (w ≠ .laysStatic Jvm.Bundle.tN "UNASSIGNED_STACK" Jvm.Bundle.steD) && decide (w ≠ .laysStatic Jvm.Bundle.tN "SUPPRESSED_SENTINEL" Jvm.Bundle.listD)
def ax_face (w : Cond) : Bool := w.onTables && w.keepsFace
def ax_Ok (U : State) : Prop := (∀ w ∈ lw_tbl, ax_face w = true → w.before #[] U = true) ∧ ∀ q ∈ ax_strs, ∃ a, vk_R "DesignTexts" q.1 q.2 a U
theorem ax_Ok.warm {s U : State} (hW : s.WarmedH U.vm) (h : ax_Ok s) : ax_Ok U := by
  refine ⟨fun w hw hf => ?_, fun q hq => ?_⟩
  · have h1 := h.1 w hw hf
    simp only [ax_face, Bool.and_eq_true] at hf
    exact va_tabs hf.1 (rfl : (s.setVm U.vm).vm = U.vm) (Cond.before_shiftedFace (State.Shifted.of_warmed hW) w hf.2 h1)
  · obtain ⟨a, ha⟩ := h.2 q hq
    exact ⟨a, vk_R.warm hW ha⟩
theorem ax_Ok.same {s U : State} (hv : U.vm = s.vm) (h : ax_Ok s) : ax_Ok U := by
  refine ⟨fun w hw hf => ?_, fun q hq => ?_⟩
  · have h1 := h.1 w hw hf
    simp only [ax_face, Bool.and_eq_true] at hf
    exact va_tabs hf.1 hv.symm h1
  · obtain ⟨a, ha⟩ := h.2 q hq
    exact ⟨a, vk_R.same hv ha⟩
/-- where a static field lies -/
def ax_L (C n d : String) (A : Nat → Prop) (U : State) (H : Heap) : Prop := ∃ (c : ClassId) (k : Class) (i : Nat) (f : Field) (a : Nat) (cell : Cell), U.vm.findClass C = some c ∧ U.fieldFound? C n d = some (c, k, i, f) ∧ f.isStatic = true ∧ k.statics = some a ∧ H[a]? = some cell ∧ cell.vm.isStatics = true ∧ cell.cls = c ∧ f.slot < cell.slots.size ∧ k.staticTypes[f.slot]? = some f.type ∧ ¬ A a
def ax_Z (C n d : String) (A : Nat → Prop) (U : State) (H : Heap) : Prop := va_Zq C n d A U H ∧ ax_L C n d A U H
theorem ax_Z.moved {C n d : String} {A : Nat → Prop} {u U : State} {H : Heap} (hvm : u.vm.Alike U.vm) (h : ax_Z C n d A u H) : ax_Z C n d A U H := by
  obtain ⟨h0, c, k, i, f, a, cell, h1, h2, h3, h4, h5, h6, h7, h8, h9, h10⟩ := h
  obtain ⟨k', hi', he⟩ := State.fieldFound?_setVm hvm h2
  exact ⟨va_Zq.moved hvm h0, c, k', i, f, a, cell, by rw [hvm.findClass]; exact h1, hi', h3, by rw [he]; exact h4, h5, h6, h7, h8, by rw [he]; exact h9, h10⟩
theorem ax_Z.kept {C n d : String} {A : Nat → Prop} {U : State} {H H1 : Heap} (h : ax_Z C n d A U H) (hq : ∀ a : Nat, a < H.size → ¬ A a → H1[a]? = H[a]?) : ax_Z C n d A U H1 := by
  obtain ⟨h0, c, k, i, f, a, cell, h1, h2, h3, h4, h5, h6, h7, h8, h9, h10⟩ := h
  exact ⟨va_Zq.kept h0 hq, c, k, i, f, a, cell, h1, h2, h3, h4, by rw [hq a (Array.getElem?_eq_some_iff.mp h5).1 h10]; exact h5, h6, h7, h8, h9, h10⟩
theorem ax_Z.narrow {C n d : String} {A B : Nat → Prop} {U : State} {H : Heap} (h : ax_Z C n d A U H) (hAB : ∀ q, B q → A q) : ax_Z C n d B U H := by
  obtain ⟨h0, c, k, i, f, a, cell, h1, h2, h3, h4, h5, h6, h7, h8, h9, h10⟩ := h
  exact ⟨va_Zq.narrow h0 hAB, c, k, i, f, a, cell, h1, h2, h3, h4, h5, h6, h7, h8, h9, fun z => h10 (hAB _ z)⟩
theorem ax_Z.of {args : Array Value} {s : State} {C n d : String} {A : Nat → Prop} (hl : (Cond.laysStatic C n d).before args s = true) (hini : (Cond.initialized C).before args s = true) (h : (Cond.isRef (.static C n d)).before args s = true) (hA : ∀ a : Nat, a < s.heap.size → ¬ A a) : ax_Z C n d A s s.heap := by
  refine ⟨va_Zqof hl hini h hA, ?_⟩
  obtain ⟨c, k, i, f, a, cell, h1, h2, h3, h4, h5, h6, h7, h8, h9⟩ := Cond.laysStatic_spec hl
  exact ⟨c, k, i, f, a, cell, h1, h2, h3, h4, h5, h6, h7, h8, h9, hA a (Array.getElem?_eq_some_iff.mp h5).1⟩
theorem ax_Z.lays {C n d : String} {A : Nat → Prop} {s : State} {args : Array Value} (h : ax_Z C n d A s s.heap) : (Cond.laysStatic C n d).before args s = true := by
  obtain ⟨-, c, k, i, f, a, cell, h1, h2, h3, h4, h5, h6, h7, h8, h9, -⟩ := h
  show (Cond.laysStatic C n d).holds args s none s [] = true
  exact Cond.laysStatic_of h1 h2 h3 h4 h5 h6 h7 h8 h9
theorem ax_Z.ref {C n d : String} {A : Nat → Prop} {s : State} {args : Array Value} (h : ax_Z C n d A s s.heap) : (Cond.isRef (.static C n d)).before args s = true := by
  have key : ∀ v : Value, v.isRef = true → va_Z C n d v A s s.heap → (Cond.isRef (.static C n d)).before args s = true := by
    intro v hv hz
    obtain ⟨cf, kf, fi, f, a, cell, h1, h2, h3, h4, h5, h6, h7, -⟩ := hz
    have he : (Term.static C n d).eval args s none [] s = some v := by
      simp [Term.eval, State.fieldNamed?, h1, h2, h4, h5, h6, h7]
    simp only [Cond.before, Cond.holds, Cond.value, he]
    cases v <;> simp_all [Value.isRef]
  rcases h.1 with h | ⟨t, h⟩
  · exact key .null rfl h
  · exact key (.ref t) rfl h
def ax_Zs (A : Nat → Prop) (U : State) (H : Heap) : Prop := ax_Z Jvm.Bundle.tN "UNASSIGNED_STACK" Jvm.Bundle.steD A U H ∧ ax_Z Jvm.Bundle.tN "SUPPRESSED_SENTINEL" Jvm.Bundle.listD A U H
theorem ax_atoms {args : Array Value} {s : State} {A : Nat → Prop} {L : List Cond} (h : ∀ w ∈ L.filter ax_no, w.before args s = true) (hZ : ax_Zs A s s.heap) : ∀ w ∈ L, w.before args s = true := by
  intro w hw
  by_cases e1 : w = .isRef (.static Jvm.Bundle.tN "UNASSIGNED_STACK" Jvm.Bundle.steD)
  · rw [e1]; exact hZ.1.ref
  by_cases e2 : w = .isRef (.static Jvm.Bundle.tN "SUPPRESSED_SENTINEL" Jvm.Bundle.listD)
  · rw [e2]; exact hZ.2.ref
  by_cases e3 : w = .laysStatic Jvm.Bundle.tN "UNASSIGNED_STACK" Jvm.Bundle.steD
  · rw [e3]; exact hZ.1.lays
  by_cases e4 : w = .laysStatic Jvm.Bundle.tN "SUPPRESSED_SENTINEL" Jvm.Bundle.listD
  · rw [e4]; exact hZ.2.lays
  refine h w (List.mem_filter.mpr ⟨hw, ?_⟩)
  simp only [ax_no, Bool.and_eq_true, decide_eq_true_eq]
  exact ⟨⟨⟨e1, e2⟩, e3⟩, e4⟩
def af_throw (k : Nat) : am_F := fun st => match st.2.2.1 with
  | [] => am_rt (some (.retAddr k), st.2.2.2)
  | _ => none
section AXR
variable {p : Program} {l : Launch} {e : Env} {R : Room} {s : State} {m : MethodId} {args : Array Value} {below : List Frame} {meth : Method} {c : Code} {cc : ByteArray} {nL : Nat} {Ts : List Cond} {own : String} {D : va_G} {cl : List vw_C} {ρ : Nat → Nat} {kc : Nat → ClassId} {fts : List FieldType} {len : Nat} {r0 : am_R}
variable {pc : Nat}
theorem ar_throw (C : am_Cx p R s m args meth c cc nL Ts "DesignTexts" D cl ρ kc fts len) (hl : l.stackTraces = false) (hex : c.exceptionTable.isEmpty = true) (hOk : ax_Ok s) (hZ : ax_Zs (am_A ρ len s.heap.size) s s.heap) {k ik is ic ix : Nat} {text : String}
    (d0 : decode cc pc = .ok (.new ik, 3)) (d3 : decode cc (pc + 3) = .ok (.dup, 1)) (d4 : decode cc (pc + 4) = .ok (.ldc is, 2)) (d6 : decode cc (pc + 6) = .ok (.invokespecial ic, 3)) (d9 : decode cc (pc + 9) = .ok (.athrow, 1))
    (hfit : Jvm.Bundle.fit (ax_E k) = true) (hw : (Cond.classLink "DesignTexts" ik (ax_E k) :: Cond.initialized (ax_E k) :: (ax_atm "DesignTexts" ic (ax_E k) ix).filter ax_no).all (fun w => decide (w ∈ lw_tbl) && ax_face w) = true) (hstr : (is, text) ∈ ax_strs) (hp0 : decode (ax_pass ix) 0 = .ok (.aload_n 0, 1)) (hp1 : decode (ax_pass ix) 1 = .ok (.aload_n 1, 1)) (hp2 : decode (ax_pass ix) 2 = .ok (.invokespecial ix, 3)) (hp5 : decode (ax_pass ix) 5 = .ok (.return_, 1))
    (hR : 6 ≤ R.frames ∧ 90 ≤ R.locals ∧ 1 ≤ R.cells ∧ 6 ≤ R.slots) :
    am_Row (am_J p l e R s m args below meth c nL D cl ρ kc len (ax_MQ below (ax_Q D cl ρ kc len s.heap.size r0) args s)) (fun r => r = r0) pc (af_throw k) := by
  obtain ⟨hx, hb, hml, hown, hts, hK, hinj, hlk, hfr, hlo⟩ := C
  intro st x hpc hf hg
  obtain ⟨pc0, lv, sk, h⟩ := st
  cases hpc
  simp only [af_throw] at hf
  split at hf
  · cases hf
    have hr0 : ((some (.retAddr k), h) : am_R) = r0 := hg
    subst hr0
    intro H locs ls hlen hP hS hlv T hT X
    have htr : e.platform.stackTraces = false := (show e.platform.stackTraces = l.stackTraces by rw [X.admits.platform]).trans hl
    have Y := ax_new X (R' := { frames := R.frames, locals := R.locals, cells := 1, slots := 6 }) (Nat.le_refl _) (Nat.le_refl _) (by show 0 + 1 ≤ R.cells; omega) (by show 0 + 6 ≤ R.slots; omega)
    obtain ⟨s', hs'⟩ : ∃ z, z = (T.setVm s.vm).setFrames (.invoking m args :: below) := ⟨_, rfl⟩
    rw [← hs'] at Y
    have hvm : s'.vm = s.vm := by rw [hs']; rfl
    have hhp : s'.heap = H := by rw [hs']; exact hT
    have hW0 : s.WarmedH s'.vm := by rw [hvm]; exact State.WarmedH.refl s
    have hw' : ∀ w ∈ Cond.classLink "DesignTexts" ik (ax_E k) :: Cond.initialized (ax_E k) :: (ax_atm "DesignTexts" ic (ax_E k) ix).filter ax_no, w.before args s' = true := by
      intro w hm
      have h1 := List.all_eq_true.mp hw w hm
      simp only [Bool.and_eq_true, decide_eq_true_eq] at h1
      have h2 := hOk.1 w h1.1 h1.2
      have h3 := h1.2
      simp only [ax_face, Bool.and_eq_true] at h3
      exact va_tabs h3.1 hvm.symm h2
    have hZ' : ax_Zs (am_A ρ len s.heap.size) s' s'.heap := by
      rw [hhp]
      exact ⟨ax_Z.moved hW0.alike (hZ.1.kept hS.2.1), ax_Z.moved hW0.alike (hZ.2.kept hS.2.1)⟩
    have hat : ∀ w ∈ ax_atm "DesignTexts" ic (ax_E k) ix, w.before args s' = true := ax_atoms (fun w hm => hw' w (List.mem_cons_of_mem _ (List.mem_cons_of_mem _ hm))) hZ'
    have hown' : s'.vm.findClass "DesignTexts" = some m.cls := by rw [hvm]; exact hown
    have hins : (Cond.instantiable (ax_E k) 6).before args s' = true := hat _ (by simp [ax_atm])
    obtain ⟨vm₁, cX, kX, hfX, hkX, -, -, X₁, st1⟩ := Y.newCold hx (own := "DesignTexts") (C := ax_E k) (index := ik) (n := 6) hown' (hw' _ List.mem_cons_self) hins (hw' _ (List.mem_cons_of_mem _ List.mem_cons_self))
      (g := F0 m pc0 ls []) rfl (by rw [hb]; exact d0) (Nat.le_refl _) (Nat.le_refl _)
    generalize hT1 : (T.setVm vm₁).pushCell { cls := cX, slots := kX.instanceTypes.map defaultValue, vm := .none } = T1 at X₁ st1
    have hcellA : T1.heap[T.heap.size]? = some (freshCell cX kX) := by rw [← hT1]; exact State.heap_pushCell_size _ _
    obtain ⟨sa, hsa⟩ := hOk.2 _ hstr
    have hsa' : vk_R "DesignTexts" is text sa s' := vk_R.same hvm hsa
    have hcat : (Value.ref T.heap.size).category = 1 := rfl
    have hno : ∀ z ∈ c.exceptionTable.toList, covers z (pc0 + 9) = false := by
      intro z hz
      have : c.exceptionTable.toList = [] := by simpa [Array.isEmpty_iff] using hex
      rw [this] at hz
      cases hz
    obtain ⟨U, hsteps, hrun, hend, hWU, hsame, ce, hce, hO1, hO2⟩ := ax_ctor X₁ hx htr (own := "DesignTexts") (cls := ax_E k) (ic := ic) (ix := ix) hown' hfit hp0 hp1 hp2 hp5 hat (fun z hz => nomatch hz) hfX hkX hcellA (by rw [hhp, hT]; exact Nat.le_refl _) (msg := .ref sa) rfl
      (g := { method := m, pc := pc0 + 6, locals := ls, stack := .ref sa :: .ref T.heap.size :: .ref T.heap.size :: [], locked := none }) rfl (hlv.1.trans hml.symm) rfl rfl (rest := []) rfl
      (by rw [hb]; exact d6) (by rw [hb]; exact d9) hno (by show 5 < R.frames; omega) (by simp only [List.map_cons, List.map_nil, List.sum_cons, List.sum_nil, hcat]; show 2 * 0 + (1 + 0) + 81 ≤ R.locals; omega) hlk
    obtain ⟨f1, f2⟩ := ax_kept hsame
    rw [hhp] at f1 f2
    have hWs : s.WarmedH U.vm := State.WarmedH.trans hW0 hWU
    have hcl : s.vm.findClass (ax_E k) = some ce.cls := by
      have h9 := hO2
      rw [hvm] at h9
      exact h9
    have hall : s.sameButNew ({ U with vm := s.vm } : State) locs 1 6 := by
      subst hs'
      obtain ⟨e1, e2⟩ := hsame
      rw [State.setFrames_setFrames] at e1
      have h2 : (T.setVm s.vm).sameButNew ({ U with vm := s.vm } : State) [] (0 + 1) (0 + 6) := ⟨e1, e2⟩
      have h3 := X.same.trans h2
      rw [List.append_nil] at h3
      exact h3
    refine ⟨U, ?_, .threw T.heap.size, hrun, hend, ⟨locs, hWs, hall, hS.2.2⟩, hP.kept (fun q z hz => f2 z.1 (hP q z hz).lt), hlen, ⟨Nat.le_trans hS.1 f1, fun q h1 h2 => ?_⟩, Or.inl ⟨k, T.heap.size, ce, rfl, rfl, hce, hO1, hcl⟩⟩
    · refine st1 _ ?_
      show Steps p.tables e below (T1.setTop { method := m, pc := pc0 + 3, locals := ls, stack := .ref T.heap.size :: [], locked := none }) _
      have d3' : decode c.code (pc0 + 3) = .ok (.dup, 1) := by rw [hb]; exact d3
      have d4' : decode c.code (pc0 + 4) = .ok (.ldc is, 2) := by rw [hb]; exact d4
      jvm_step X₁.here [X₁.here.top, hx, d3', Value.category]
      exact X₁.ldcString hx (own := "DesignTexts") (text := text) (index := is) (a := sa) hown' hsa'.1 hsa'.2
        (g := { method := m, pc := pc0 + 4, locals := ls, stack := .ref T.heap.size :: .ref T.heap.size :: [], locked := none }) rfl d4' _ hsteps
    · rw [f2 q (Nat.lt_of_lt_of_le h1 hS.1)]
      exact hS.2.1 q h1 h2
  · cases hf
end AXR
