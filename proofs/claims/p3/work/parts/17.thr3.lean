section AXT
variable {p : Program} {l : Launch} {e : Env} {R : Room} {s : State} {m : MethodId} {args : Array Value} {below : List Frame} {meth : Method} {c : Code} {cc : ByteArray} {nL : Nat} {Ts : List Cond} {own : String} {D : va_G} {cl : List vw_C} {ρ : Nat → Nat} {kc : Nat → ClassId} {fts : List FieldType} {len : Nat} {r0 : am_R}
variable {pc : Nat}
theorem ar_xireturn (C : am_Cx p R s m args meth c cc nL Ts own D cl ρ kc fts len) (hr : meth.sig.returnType = some .int) (hd : decode cc pc = .ok (.ireturn, 1)) :
    am_Row (am_J p l e R s m args below meth c nL D cl ρ kc len (ax_MQ below (ax_Q D cl ρ kc len s.heap.size r0) args s)) (fun r => r = r0) pc af_ireturn := by
  obtain ⟨hx, hb, hml, hown, hts, hK, hinj, hlk, hfr, hlo⟩ := C
  intro st x hpc hf hg
  obtain ⟨pc0, lv, sk, h⟩ := st
  cases hpc
  simp only [af_ireturn] at hf
  split at hf
  · rename_i x
    cases hf
    have hr0 : ((some (.int x), h) : am_R) = r0 := hg
    subst hr0
    intro H locs ls hlen hP hS hl
    refine W.widen (k := 1) (n := 6) (Nat.zero_le _) (Nat.zero_le _) ?_
    refine ax_mono (Q := MQ below (fun _ _ o t => o = .returned (some (.int x)) ∧ t.heap = H) args s 1 6 (am_A ρ len s.heap.size)) (fun t ht => ?_) (W.iret hx hb hr (fun t ht hW => ⟨rfl, ht⟩) hS.2.2 hd hlk)
    obtain ⟨o, h1, h2, ⟨rfl, h3⟩, L, hF, hL⟩ := ht
    exact ⟨_, h1, h2, ⟨L, hF.2.1, hF.2.2, hL⟩, by rw [h3]; exact hP, hlen, hS.F h3, Or.inr ⟨fun k q => (by cases q), rfl⟩⟩
  · cases hf
end AXT
def ax_Pc (D : va_G) (cl : List vw_C) (ρ : Nat → Nat) (kc : Nat → ClassId) (fts : List FieldType) (len sz : Nat) (av : List Value) (h : am_H) : Array Value → State → Prop := fun a U => am_Pc D cl ρ kc fts sz av h a U ∧ ax_Ok U ∧ ax_Zs (am_A ρ len sz) U U.heap
theorem ax_blind {D : va_G} {cl : List vw_C} {ρ : Nat → Nat} {kc : Nat → ClassId} {fts : List FieldType} {len sz : Nat} {av : List Value} {h : am_H} : FrameBlind (ax_Pc D cl ρ kc fts len sz av h) :=
  fun a U g mk q => ⟨am_blind a U g mk q.1, ax_Ok.same (s := U) (U := U.calling g mk a) rfl q.2.1, ax_Z.moved (u := U) (U := U.calling g mk a) (Vm.Alike.refl U.vm) q.2.2.1, ax_Z.moved (u := U) (U := U.calling g mk a) (Vm.Alike.refl U.vm) q.2.2.2⟩
theorem ax_met {l : Launch} {y : MethodName} {ws ws' : List Cond} {rm : Room} {cc : ByteArray} {maxL : Nat} {ret : Option FieldType} {D : va_G} {cl : List vw_C} {ρ : Nat → Nat} {kc : Nat → ClassId} {fts : List FieldType} {len : Nat} {T : am_T} {av : List Value} {h : am_H} {r : am_R} {sz : Nat}
    (hy : plainName y.cls = true) (hw : ws = Cond.code y cc maxL ret :: ws') (hinj : am_inj ρ len) (hrm : 1 ≤ rm.frames ∧ 21 ≤ rm.locals) (hav : (lg_sl av).length ≤ maxL)
    (hT : ∀ (p : Program) (e : Env) (s : State) (m : MethodId) (args : Array Value) (below : List Frame) (meth : Method) (c : Code), am_Cx p rm s m args meth c cc maxL ws y.cls D cl ρ kc fts len → meth.sig.returnType = ret → c.exceptionTable.isEmpty = true → ax_Ok s → ax_Zs (am_A ρ len s.heap.size) s s.heap →
      ∀ q ∈ T, am_Row (am_J p l e rm s m args below meth c maxL D cl ρ kc len (ax_MQ below (ax_Q D cl ρ kc len s.heap.size r) args s)) (fun r' => r' = r) q.1 q.2)
    (he : am_Ev T (0, lv_args 0 av, [], h) r) (hlen : h.length = len) : MetFree l y (headSpec ws rm) (ax_Pc D cl ρ kc fts len sz av h) (fun _ _ _ _ _ => True) (ax_Q D cl ρ kc len sz r) := by
  refine ax_ofW (cc := cc) (maxL := maxL) (ret := ret) hy hw ?_
  intro p e s m args below meth c s₁ B hml hex hv
  obtain ⟨⟨rfl, hsz, hP, hK⟩, hOk, hZ⟩ := hv
  subst hsz
  have hts := atoms_spec (ws := ws) B.pre
  have hC : am_Cx p rm s m (av.map (am_v ρ)).toArray meth c cc maxL ws y.cls D cl ρ kc fts len := ⟨B.exec, B.bytes, hml, findClass_of_methodNamed B.named, hts, hK, hinj, B.notSynchronized, hrm⟩
  obtain ⟨n, he⟩ := he
  have hJ := am_sound (hT p e s m _ below meth c hC B.returns hex hOk hZ) n _ r he rfl
  rw [lg_entry_eq]
  refine hJ s.heap [] _ hlen hP va_S.rf ?_
  have hl := lv_entry (av.map (am_v ρ)) (n := maxL) (by rw [am_sl_len ρ av (am_v ρ) (am_cat ρ)]; exact hav)
  have hla : lv_args 0 (av.map (am_v ρ)) = am_l ρ (lv_args 0 av) := by
    have key : ∀ (i : Nat) (vs : List Value), lv_args i (vs.map (am_v ρ)) = am_l ρ (lv_args i vs) := by
      intro i vs
      induction vs generalizing i with
      | nil => rfl
      | cons v vs ih => simp only [List.map_cons, lv_args, am_l, am_cat]; rw [ih]; rfl
    exact key 0 av
  rw [hla] at hl
  exact hl
/-- what goes on behind a throw q in the frame g -/
def ax_W (p : Program) (l : Launch) (e : Env) (R : Room) (s : State) (m : MethodId) (args : Array Value) (below : List Frame) (meth : Method) (c : Code) (H : Heap) (locs : List Loc) (cells slots : Nat) (Q : State → Prop) (g : JFrame) (q : Addr) : Prop :=
  ∀ T : State, T.heap = H → Stand p l e R s m args below meth c T locs cells slots → ∃ t, Steps p.tables e below ((T.setTop g).pushFrame (.throwing q)) t ∧ Q t
section AXC
variable {p : Program} {l : Launch} {e : Env} {R : Room} {s : State} {m : MethodId} {args : Array Value} {below : List Frame} {meth : Method} {c : Code} {cc : ByteArray} {nL : Nat} {Ts : List Cond} {own : String} {D : va_G} {cl : List vw_C} {ρ : Nat → Nat} {kc : Nat → ClassId} {fts : List FieldType} {len : Nat} {r : am_R} {Q : State → Prop}
variable {H : Heap} {locs : List Loc} {cells slots : Nat}
/-- a call of a method that returns or throws -/
theorem ax_callV {y : MethodName} {bytes : ByteArray} {maxL n index sz : Nat} {ret : Option FieldType} {ws : List Cond} {rm : Room} {C : String} {b : Addr} {As rest : List Value} {g : JFrame} {Pc : Array Value → State → Prop} {A0 : Nat → Prop} {H0 : Heap}
    (S : CallFix p m c cc nL s args Ts own) (hM : MetFree l y (headSpec ws rm) Pc (fun _ _ _ _ _ => True) (ax_Q D cl ρ kc len sz r)) (cw : CallW R s args own C index y bytes maxL ret ws rm 1 6 n) (hp : PreV s H C b Pc As)
    (hg : g.method = m) (hn : As.length = n) (hsize : g.locals.size = nL) (hstack : g.stack = As.reverse ++ .ref b :: rest) (hW : 2 * g.monitorRoom + (rest.map fun v => v.category).sum ≤ 8) (hdg : decode cc g.pc = .ok (.invokevirtual index, 3)) (hf : cells + 1 ≤ R.cells ∧ slots + 6 ≤ R.slots)
    (hS : va_S A0 H0 H locs) (hsz : H.size = sz) (hA : ∀ q, am_A ρ len sz q → A0 q)
    (kr : (∀ k, r.1 ≠ some (.retAddr k)) → ∀ (H1 : Heap) (locs1 : List Loc) (U : State), U.heap = H1 → s.WarmedH U.vm → r.2.length = len → va_P D cl (am_w ρ kc r.2) H1 → H.size ≤ H1.size → (∀ q : Nat, q < H.size → ¬ am_A ρ len sz q → H1[q]? = H[q]?) → va_S A0 H0 H1 locs1 → W p l e R s m args below meth c H1 locs1 (cells + 1) (slots + 6) Q { g with pc := g.pc + 3, stack := (r.1.map (am_v ρ)).toList ++ rest })
    (kx : ∀ (k : Nat) (q : Addr) (ce : Cell), r.1 = some (.retAddr k) → ∀ (H1 : Heap) (locs1 : List Loc) (U : State), U.heap = H1 → s.WarmedH U.vm → H1[q]? = some ce → ce.vm = .none → s.vm.findClass (ax_E k) = some ce.cls → r.2.length = len → va_P D cl (am_w ρ kc r.2) H1 → H.size ≤ H1.size → (∀ q : Nat, q < H.size → ¬ am_A ρ len sz q → H1[q]? = H[q]?) → va_S A0 H0 H1 locs1 → ax_W p l e R s m args below meth c H1 locs1 (cells + 1) (slots + 6) Q { g with stack := rest } q) :
    W p l e R s m args below meth c H locs cells slots Q g := by
  obtain ⟨⟨hrc, hrs, hfr, hlo, hws, hcw, hcode, hini, hy, hlen, hlink⟩, hin, hse⟩ := cw
  obtain ⟨hx, hb, hml, ho, -⟩ := S
  obtain ⟨hbl, ⟨cellB, hcB, hoB, hclB⟩, hPc⟩ := hp
  subst hg
  intro T hT X
  obtain ⟨mk, methM, hnamed, hmethM, hstM, habM⟩ := Cond.instanceMethod_spec hin
  obtain ⟨methM', cM, hmethM', hcM, -, hlM, -, -, -, hsigM⟩ := Cond.code_spec hnamed hcode
  cases hmethM.symm.trans hmethM'
  obtain ⟨c2, r2, m2, q1, q2, q3, q4, kP, hkP, hkPi⟩ := Cond.selects_spec hse
  cases hclB.symm.trans q1
  cases (State.methodFound?_of_named hnamed hy).symm.trans q2
  cases hnamed.symm.trans q3
  have hselP : selectMethod e.platform s.vm cellB.cls mk = .method mk := by rw [Launch.admits_selectMethod X.admits]; exact q4
  obtain ⟨vm₁, X₁, hstep₁⟩ := X.invokevirtual hx ho hlink hnamed hmethM hstM hkP hkPi hy (a := b) (cell := cellB) (by rw [hT]; exact hcB)
    (fun z h => by rw [h] at hoB; cases hoB) hselP hmethM habM hkP hkPi (g := g) rfl (argsL := As) (rest := rest) (hn.trans (hlen _ hsigM)) hstack (by rw [hb]; exact hdg)
  have hW₁ : s.WarmedH vm₁ := X₁.warmed
  obtain ⟨kY, hkY, -⟩ := className_of_methodNamed (X₁.named hnamed)
  have hini₁ : (Cond.initialized y.cls).before args (T.setVm vm₁) = true := word_at (U := T.setVm vm₁) hW₁ (Or.inl (by first | rfl | simp [Cond.onTables, Cond.keeps, Cond.steady])) hini
  have hinitY : kY.init = .initialized := Cond.initialized_spec (findClass_of_methodNamed (X₁.named hnamed)) hkY hini₁
  have hmY : (T.setVm vm₁).vm.method? mk = some methM := by show vm₁.method? mk = _; rw [hW₁.alike.method?]; exact hmethM
  have hdg' : decode c.code g.pc = .ok (.invokevirtual index, 3) := by rw [hb]; exact hdg
  have happ : (headSpec ws rm).appliesLoose y e.platform ((T.setVm vm₁).calling { g with stack := rest } mk (Value.ref b :: As).toArray) = true :=
    Spec.appliesLoose_calling (g := { g with stack := rest }) X₁.here hdg' (X₁.named hnamed) hkY hinitY
      (X₁.room_calling (g := { g with stack := rest }) (R' := (headSpec ws rm).room) (hsize.trans hml.symm) hmY hcM hfr (by show 2 * g.monitorRoom + (rest.map fun v => v.category).sum + (cM.maxLocals + 11) + rm.locals ≤ R.locals; rw [hlM]; omega) (by show cells + rm.cells ≤ R.cells; rw [hrc]; exact hf.1) (by show slots + rm.slots ≤ R.slots; rw [hrs]; exact hf.2))
      (atoms_intro fun w hw => hws w hw _ _ hW₁)
  obtain ⟨mid, hmid⟩ := X₁.here.above
  have hfrm : ((T.setVm vm₁).setTop { g with stack := rest }).frames = (.java { g with stack := rest } :: mid) ++ below := by rw [State.frames_setTop' _ X₁.here.top, hmid]; rfl
  obtain ⟨o, s₂, hsteps, hrun, hend, hq⟩ := Jvm.Free.Steps.callFree hM p X₁.admits X₁.cas X₁.clock (acts := []) hfrm happ (hbl _ _ _ _ (hPc (T.setVm vm₁) hT hW₁)) trivial
  rw [State.frames_setTop' _ X₁.here.top] at hend
  have hbe : (T.setVm vm₁).frames.tail = below := X₁.tail
  rw [hbe] at hend
  have hq' : ax_Q D cl ρ kc len sz r (Value.ref b :: As).toArray ((T.setVm vm₁).calling { g with stack := rest } mk (Value.ref b :: As).toArray) o s₂ := hq
  obtain ⟨⟨L, hWs₂, hsm, hL⟩, hP1, hln, ⟨hz, hk⟩, hor⟩ := hq'
  have hheap : ((T.setVm vm₁).calling { g with stack := rest } mk (Value.ref b :: As).toArray).heap = H := hT
  rw [hheap] at hz hk
  have hS1 : va_S A0 H0 s₂.heap (locs ++ L) := ⟨Nat.le_trans hS.1 hz, fun q h1 h2 => by rw [hk q (Nat.lt_of_lt_of_le h1 hS.1) (fun z => h2 (hA q z))]; exact hS.2.1 q h1 h2, fun q hq => by
    rcases List.mem_append.mp hq with h | h
    · exact hS.2.2 q h
    · exact hA _ (hL q h)⟩
  rcases hor with ⟨k, q, ce, hr1, rfl, hce, hcv, hcl⟩ | ⟨hr1, rfl⟩
  · obtain ⟨T', X', hW', hsame', ht'⟩ := X₁.outOfThrown (g := { g with stack := rest }) rfl hend hWs₂ hsm
    have hhp : T'.heap = s₂.heap := by rw [ht']; rfl
    have hcl' : s.vm.findClass (ax_E k) = some ce.cls := by
      have h9 : vm₁.findClass (ax_E k) = some ce.cls := hcl
      rw [hW₁.alike.findClass] at h9
      exact h9
    obtain ⟨t, a1, b1⟩ := kx k q ce hr1 s₂.heap (locs ++ L) T' hhp X'.warmed hce hcv hcl' hln hP1 hz hk hS1 T' hhp X'
    refine ⟨t, hstep₁ _ fun acts => ?_, b1⟩
    rw [doInvoke_state]
    exact hsteps.trans (by rw [ht']; exact a1)
  · obtain ⟨T', X', hW', hsame', ht'⟩ := X₁.outOf (g := { g with stack := rest }) rfl hdg' hend hWs₂ hsm
    have hhp : T'.heap = s₂.heap := by rw [ht']; rfl
    obtain ⟨t, a1, b1⟩ := kr hr1 s₂.heap (locs ++ L) T' hhp X'.warmed hln hP1 hz hk hS1 T' hhp X'
    refine ⟨t, hstep₁ _ fun acts => ?_, b1⟩
    rw [doInvoke_state]
    exact hsteps.trans (by rw [ht']; exact a1)
end AXC
