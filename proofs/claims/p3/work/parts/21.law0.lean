/-! THE CLAIM OUT OF ONE WALK OF THE LAW'S BODY. Your part is whole_start (and what it stands on); all else here is the same for every law, but numbers. -/
def R_law : String := "DesignTextsLaw"
def lw_P (b : Addr) (xs : List Int32) (args : Array Value) (s : State) : Prop := args = #[.ref b] ∧ s.IntsAt b xs ∧ xs.length ≤ 1536 ∧ (Jvm.Cond.and given_1 narrow_1).before args s = true
def lw_Q (_ : Array Value) (s : State) (o : Outcome) (t : State) : Prop := o = .returned (some (.int 1)) ∧ Framed s o t [] 601024 7293034
def lw_Z (below : List Frame) (a : Array Value) (s : State) : State → Prop := fun t => ∃ o, t.status = .running ∧ Ended t below o ∧ lw_Q a s o t
/-- the law's own end, with 1 on the stack, nothing written that was there before, its room as the claim has it -/
theorem lw_ret {p : Program} {l : Launch} {e : Env} {s : State} {m : MethodId} {below : List Frame} {meth : Method} {c : Code} {b : Nat} (hx : p.tables.exec = Jvm.exec) (hb : c.code = code) (hr : meth.sig.returnType = ret) (hlocks : meth.locks = false) {pc : Nat} {H : Heap} {ls : Array Slot} (hdg : decode code pc = .ok (.ireturn, 1)) : W p l e room_1 s m #[Value.ref b] below meth c H [] 601024 7293034 (lw_Z below #[Value.ref b] s) (F0 m pc ls [.int 1]) := by
  intro T hT X
  obtain ⟨fs, hret, hrun, hended, hW, hframe⟩ := X.leave (v := some (.int 1)) (hlocks := hlocks) (fun h => by rw [hr] at h; cases h)
  have hmeth' : T.vm.method? m = some meth := X.method'
  refine ⟨T.setFrames fs, ?_, .returned (some (.int 1)), hrun, hended, rfl, ⟨_, rfl⟩, hW, hframe⟩
  jvm_step X.here [X.here.top, hx, hb, hdg, hmeth', hr, ret, narrow_b1]
  (try refine ⟨rfl, ?_⟩); (try refine ⟨rfl, ?_⟩)
  first | (intro acts; rw [hret _ acts rfl rfl rfl]) | rw [hret _ _ rfl rfl rfl]
  exact Steps.refl _
/-- what holds at the law's entry: the machine, the code, the tables' words (any of lw_tbl by 'hts w (by decide +kernel)'), the script of L ints xs at the cell b, what the Statement gives of the start (any of its parts by flat_of_before) -/
def lw_At (p : Program) (s : State) (m : MethodId) (meth : Method) (c : Code) (b L : Nat) (xs : Nat → Int32) : Prop :=
  p.tables.exec = Jvm.exec ∧ c.code = code ∧ meth.sig.returnType = ret ∧ c.maxLocals = 7 ∧ s.vm.findClass R_law = some m.cls ∧ (∀ w ∈ lw_tbl, w.before #[Value.ref b] s = true) ∧ va_X b L xs s s.heap ∧ b < s.heap.size ∧ meth.locks = false ∧ (Jvm.Cond.and given_1 narrow_1).before #[Value.ref b] s = true
/-! THE LAW'S ROWS: calls over the two worlds, the class's at ρC, the reference's at ρR, and the array out at oa -/
def lw_A (s : State) : Nat → Prop := fun q => s.heap.size ≤ q
def lw_Fx (s : State) (ρC ρR : Nat → Nat) (oa : Nat) : Prop :=
  am_inj ρC 39 ∧ am_inj ρR 30 ∧ (∀ i j, i < 39 → j < 30 → ρC i ≠ ρR j) ∧ (∀ i, i < 39 → ρC i ≠ oa) ∧ (∀ j, j < 30 → ρR j ≠ oa) ∧ (∀ i, i < 39 → s.heap.size ≤ ρC i) ∧ (∀ j, j < 30 → s.heap.size ≤ ρR j) ∧ s.heap.size ≤ oa
def lw_I (s : State) (D : va_G) (kc : Nat → ClassId) (ρC ρR : Nat → Nat) (oa : Nat) (hC hR : am_H) (f : Nat → Int64) (H : Heap) (locs : List Loc) : Prop :=
  hC.length = 39 ∧ hR.length = 30 ∧ va_P D aCl (am_w ρC kc hC) H ∧ va_P D aCl (am_w ρR kc hR) H ∧ H[oa]? = some (vp_cell (kc 3) (1, .inr (.inl f))) ∧ va_S (lw_A s) s.heap H locs
def lw_X (p : Program) (l : Launch) (s : State) (m : MethodId) (meth : Method) (c : Code) (D : va_G) (kc : Nat → ClassId) (b L : Nat) (xs : Nat → Int32) : Prop :=
  lw_At p s m meth c b L xs ∧ va_K D aCl (am_tys kc am_fts) s ∧ ax_Ok s ∧ ax_N s ∧ ax_Zs (lw_A s) s s.heap ∧ l.stackTraces = false
theorem lw_gv {cd : Cond} {own C : String} {idx : Nat} {y : MethodName} (h1 : .methodLink own idx y ∈ am_WT) (h2 : .instanceMethod y ∈ am_WT) (h3 : .selects C y y ∈ am_WT) (h4 : .initialized C ∈ am_WT) (h5 : cd ∈ am_WT) : GoodIn lw_tbl (wsV own idx C y (cd :: am_WT)) := by
  intro w hw
  have hm : w ∈ am_WT := by
    simp only [wsV, List.cons_append, List.nil_append, List.mem_cons] at hw
    rcases hw with rfl | rfl | rfl | rfl | rfl | hw
    · exact h1
    · exact h2
    · exact h3
    · exact h4
    · exact h5
    · exact hw
  exact ⟨(List.mem_filter.mp hm).1, good_of_word (am_WT_good hm)⟩
theorem lw_gc {cd : Cond} (h5 : cd ∈ am_WT) : GoodIn lw_tbl (cd :: am_WT) := by
  intro w hw
  have hm : w ∈ am_WT := by
    rcases List.mem_cons.mp hw with rfl | hw
    · exact h5
    · exact hw
  exact ⟨(List.mem_filter.mp hm).1, good_of_word (am_WT_good hm)⟩
theorem lw_in {w : Cond} (h : w ∈ am_WT) : w ∈ lw_tbl := (List.mem_filter.mp h).1
/-- a world lies still where nothing of it was written -/
theorem lw_still {D : va_G} {cl : List vw_C} {ρ : Nat → Nat} {kc : Nat → ClassId} {h : am_H} {H H1 : Heap} {B : Nat → Prop} {len : Nat} (hl : h.length = len) (hP : va_P D cl (am_w ρ kc h) H) (hk : ∀ q : Nat, q < H.size → ¬ B q → H1[q]? = H[q]?) (hB : ∀ k, k < len → ρ k < H.size → ¬ B (ρ k)) : va_P D cl (am_w ρ kc h) H1 := by
  refine hP.kept (fun k q hq => ?_)
  obtain ⟨h1, h2⟩ := am_w_fst hq
  have hlt := (hP k q hq).lt
  rw [h2] at hlt ⊢
  exact hk _ hlt (hB k (by rw [← hl]; exact h1) hlt)
section LWR
variable {p : Program} {l : Launch} {e : Env} {R : Room} {s : State} {m : MethodId} {args : Array Value} {below : List Frame} {meth : Method} {c : Code} {H : Heap} {locs : List Loc} {cells slots : Nat} {Q : State → Prop}
variable {cc : ByteArray} {nL : Nat} {Ts : List Cond} {own : String} {D : va_G} {kc : Nat → ClassId} {pc : Nat} {ls : Array Slot} {rest : List Value}
/-- behind a call over one world -/
theorem lw_goes {cl : List vw_C} {ρ : Nat → Nat} {len : Nat} {A : Nat → Prop} {mc ms sz k n : Nat} {g : JFrame} {a : Array Value} {r : am_R} (hr : va_Run p l e R s m args below meth c H locs k n mc ms g rest (am_Qc D cl ρ kc len sz r a) (am_A ρ len sz)) (hS : va_S A s.heap H locs) (hAA : ∀ q, am_A ρ len sz q → A q)
    (kk : ∀ (H1 : Heap) (locs1 : List Loc), r.2.length = len → va_P D cl (am_w ρ kc r.2) H1 → (∀ q : Nat, q < H.size → ¬ am_A ρ len sz q → H1[q]? = H[q]?) → va_S A s.heap H1 locs1 → W p l e R s m args below meth c H1 locs1 (k + mc) (n + ms) Q { g with pc := g.pc + 3, stack := (r.1.map (am_v ρ)).toList ++ rest }) : W p l e R s m args below meth c H locs k n Q g := by
  intro T hT X
  obtain ⟨v, st₀, t, T', L, h0, X', hL, e1, e2, ⟨⟨hv, hp, hlen⟩, hz, hk⟩, st⟩ := hr T hT X
  cases hv
  rw [h0] at hz hk
  obtain ⟨t2, a1, b1⟩ := kk T'.heap (locs ++ L) hlen (by rw [e1]; exact hp) (fun q h1 h2 => by rw [e1]; exact hk q h1 h2)
    ⟨Nat.le_trans hS.1 (by rw [e1]; exact hz), fun q h1 h2 => by rw [e1, hk q (Nat.lt_of_lt_of_le h1 hS.1) (fun z => h2 (hAA q z))]; exact hS.2.1 q h1 h2, fun q hq => by
      rcases List.mem_append.mp hq with h | h
      · exact hS.2.2 q h
      · exact hAA _ (hL q h)⟩ T' rfl X'
  exact ⟨t2, st t2 a1, b1⟩
/-- a call of a method of one world -/
theorem lw_call1 {ρ : Nat → Nat} {len d ci id n index maxL : Nat} {q9 : vw_C} {PT : Nat → am_C → am_T} {ML : Nat → Nat} {y : MethodName} {bytes : ByteArray} {ret : Option FieldType} {av : List Value} {h : am_H} {r : am_R} {fs : List Value} {A : Nat → Prop}
    (S : CallFix p m c cc nL s args lw_tbl own) (hK : va_K D aCl (am_tys kc am_fts) s) (hM : am_Ce l (am_run PT ML d) (am_rm d) D aCl ρ kc am_fts len id y (.code y bytes maxL ret :: am_WT)) (hrun : am_run PT ML d id (.ref 0 :: av) h = some r) (hlen : h.length = len) (h0 : h[0]? = some (.inr (ci, fs))) (hc : aCl[ci]? = some q9)
    (h1 : .methodLink own index y ∈ am_WT) (h2 : .instanceMethod y ∈ am_WT) (h3 : .selects q9.1 y y ∈ am_WT) (h4 : .initialized q9.1 ∈ am_WT) (h5 : .code y bytes maxL ret ∈ am_WT)
    (hdd : y.cls = q9.1 ∧ y.cls ≠ "java/lang/invoke/MethodHandle" ∧ y.cls ≠ "java/lang/invoke/VarHandle" ∧ (parseMethodDescriptor y.desc).map (fun d => d.parameters.length) = some n) (hR : (am_rm d).frames + 1 ≤ R.frames ∧ 8 + (maxL + 11) + (am_rm d).locals ≤ R.locals)
    (hn : av.length = n) (hav : av.map (am_v ρ) = av) (hcat : (rest.map fun v => v.category).sum ≤ 8) (hsz : ls.size = nL) (hd : decode cc pc = .ok (.invokevirtual index, 3)) (hcs : cells ≤ R.cells ∧ slots ≤ R.slots)
    (hP : va_P D aCl (am_w ρ kc h) H) (hS : va_S A s.heap H locs) (hAA : ∀ q, am_A ρ len H.size q → A q)
    (kk : ∀ (H1 : Heap) (locs1 : List Loc), r.2.length = len → va_P D aCl (am_w ρ kc r.2) H1 → (∀ q : Nat, q < H.size → ¬ am_A ρ len H.size q → H1[q]? = H[q]?) → va_S A s.heap H1 locs1 → W p l e R s m args below meth c H1 locs1 cells slots Q (F0 m (pc + 3) ls ((r.1.map (am_v ρ)).toList ++ rest))) :
    W p l e R s m args below meth c H locs cells slots Q (F0 m pc ls (av.reverse ++ .ref (ρ 0) :: rest)) := by
  have hMet := hM (.ref 0 :: av) h r H.size hrun hlen
  have hrun := va_runV (p := p) (l := l) (e := e) (R := R) (s := s) (m := m) (args := args) (below := below) (meth := meth) (c := c) (H := H) (locs := locs) (cells := cells) (slots := slots) (g := F0 m pc ls (av.reverse ++ .ref (ρ 0) :: rest)) (As := av) (rest := rest) (b := ρ 0) S hMet
    (cwV n S.2.2.2.2 (lw_gv h1 h2 h3 h4 h5) rfl rfl rfl hdd hR) ⟨am_blind, va_recv hK hP hc (am_w_at h0), fun U hU hW => ⟨by rw [List.map_cons, hav]; rfl, by rw [hU], by rw [hU]; exact hP, va_K.moved hW.alike hK⟩⟩ rfl hn hsz rfl (lv_room hcat) hd hcs
  exact lw_goes hrun hS hAA (fun H1 locs1 a1 a2 a3 a4 => kk H1 locs1 a1 a2 a3 a4)
/-- a static call of a method with handlers -/
theorem lw_runSW {y : MethodName} {bytes : ByteArray} {maxL mc ms n index : Nat} {ret : Option FieldType} {hh : List (Nat × Nat × Nat × Nat)} {rm : Room} {Pc : Array Value → State → Prop} {Qc : Array Value → State → Outcome → State → Prop} {free : Addr → Prop} {As : List Value} {g : JFrame}
    (S : CallFix p m c cc nL s args lw_tbl own) (hM : Met l y (.codeWith y bytes maxL ret hh :: am_WT) rm Pc Qc mc ms free) (h1 : .methodLink own index y ∈ am_WT) (h2 : .static y ∈ am_WT) (h4 : .initialized y.cls ∈ am_WT) (h5 : .codeWith y bytes maxL ret hh ∈ am_WT)
    (hdd : (y.cls ≠ "java/lang/invoke/MethodHandle" ∧ y.cls ≠ "java/lang/invoke/VarHandle") ∧ (parseMethodDescriptor y.desc).map (fun d => d.parameters.length) = some n) (hrm : rm.cells = mc ∧ rm.slots = ms) (hR : rm.frames + 1 ≤ R.frames ∧ 8 + (maxL + 11) + rm.locals ≤ R.locals) (hp : PreS s H Pc As)
    (hg : g.method = m) (hn : As.length = n) (hsize : g.locals.size = nL) (hstack : g.stack = As.reverse ++ rest) (hW : 2 * g.monitorRoom + (rest.map fun v => v.category).sum ≤ 8) (hdg : decode cc g.pc = .ok (.invokestatic index, 3)) (hf : cells + mc ≤ R.cells ∧ slots + ms ≤ R.slots) :
    va_Run p l e R s m args below meth c H locs cells slots mc ms g rest (Qc As.toArray) (free) := by
  obtain ⟨hx, hb, hml, ho, hts⟩ := S
  have hini := hts _ (lw_in h4)
  have hcode := hts _ (lw_in h5)
  have hK : Back l R p e below s args y 3 8 (PreOf R mc ms Pc) (PostOf Qc mc ms free) := va_backW (hh := hh) (bytes := bytes) (maxL := maxL) (ret := ret) hM hp.1 hrm.1 hrm.2 hR.1 hR.2 (pay_in hts (lw_gc h5)) List.mem_cons_self (fun a' U hW => word_at hW (Or.inl (by first | rfl | simp [Cond.onTables, Cond.keeps, Cond.steady])) hini)
  intro T hT X
  obtain ⟨mk, methM, cM, hnamed, hmethM, -, -, -, -, -, -, hsigM⟩ := Cond.codeWith_spec hcode
  have hstatic : methM.isStatic = true := Cond.static_spec hnamed hmethM (hts _ (lw_in h2))
  obtain ⟨kP, hkP, -⟩ := className_of_methodNamed hnamed
  have hinitP : kP.init = .initialized := Cond.initialized_spec (findClass_of_methodNamed hnamed) hkP hini
  have hlen : ∀ sig, parseMethodDescriptor y.desc = some sig → As.length = sig.parameters.length := fun sig h => by
    have h9 := hdd.2
    rw [h] at h9
    exact hn.trans (Option.some.inj h9).symm
  obtain ⟨vm₁, X₁, hstep₁⟩ := X.invokestatic hx ho (hts _ (lw_in h1)) hnamed hmethM hstatic hkP hinitP hdd.1 (g := g) hg (argsL := As) (rest := rest) (hlen _ hsigM) hstack (by rw [hb]; exact hdg)
  obtain ⟨v, B, X', hpost, hsteps⟩ := hK m meth c ⟨T.setVm vm₁, locs, cells, slots⟩ { g with stack := rest } (.invokestatic index) mk As.toArray X₁ hg (hsize.trans hml.symm) (by rw [hb]; exact hdg) hW (X₁.named hnamed) ⟨hf.1, hf.2, hp.2 (T.setVm vm₁) hT X₁.warmed⟩
  obtain ⟨U', l2, c2, s2⟩ := B
  obtain ⟨g', mk', t, L, e1, e2, hq, q1, hL, q2, q3⟩ := hpost
  dsimp only [Pt.U, Pt.locs, Pt.cells, Pt.slots] at X' e1 e2 q1 q2 q3 hsteps
  subst q1; subst q2; subst q3
  exact ⟨v, (T.setVm vm₁).calling g' mk' As.toArray, t, U', L, hT, X', hL, e1, e2, hq, fun target h => hstep₁ _ fun acts => by rw [doInvoke_state]; exact hsteps.trans h⟩
end LWR
section LWC
variable {p : Program} {l : Launch} {e : Env} {s : State} {m : MethodId} {below : List Frame} {meth : Method} {c : Code} {H : Heap} {locs : List Loc} {cells slots : Nat} {Q : State → Prop}
variable {D : va_G} {kc : Nat → ClassId} {pc : Nat} {ls : Array Slot} {rest : List Value} {b L : Nat} {xs : Nat → Int32} {ρC ρR : Nat → Nat} {oa : Nat} {hC hR : am_H} {f : Nat → Int64}
theorem lw_AC (Fx : lw_Fx s ρC ρR oa) (I : lw_I s D kc ρC ρR oa hC hR f H locs) : ∀ q, am_A ρC 39 H.size q → lw_A s q := fun q h => by
  rcases h with ⟨k, hk, rfl⟩ | h
  · exact Fx.2.2.2.2.2.1 k hk
  · exact Nat.le_trans I.2.2.2.2.2.1 h
theorem lw_AR (Fx : lw_Fx s ρC ρR oa) (I : lw_I s D kc ρC ρR oa hC hR f H locs) : ∀ q, am_A ρR 30 H.size q → lw_A s q := fun q h => by
  rcases h with ⟨k, hk, rfl⟩ | h
  · exact Fx.2.2.2.2.2.2.1 k hk
  · exact Nat.le_trans I.2.2.2.2.2.1 h
/-- a call of the class -/
theorem lw_callC {id n index maxL : Nat} {y : MethodName} {bytes : ByteArray} {ret : Option FieldType} {av : List Value} {r : am_R} {fs : List Value}
    (X : lw_X p l s m meth c D kc b L xs) (Fx : lw_Fx s ρC ρR oa) (I : lw_I s D kc ρC ρR oa hC hR f H locs) (hid : cPI[id]? = some (y, .code y bytes maxL ret :: am_WT)) (hrun : am_run cPT cML 7 id (.ref 0 :: av) hC = some r) (h0 : hC[0]? = some (.inr (0, fs)))
    (h1 : .methodLink "DesignTextsLaw" index y ∈ am_WT) (h2 : .instanceMethod y ∈ am_WT) (h3 : .selects "DesignTexts" y y ∈ am_WT) (h4 : .initialized "DesignTexts" ∈ am_WT) (h5 : .code y bytes maxL ret ∈ am_WT)
    (hdd : y.cls = "DesignTexts" ∧ y.cls ≠ "java/lang/invoke/MethodHandle" ∧ y.cls ≠ "java/lang/invoke/VarHandle" ∧ (parseMethodDescriptor y.desc).map (fun d => d.parameters.length) = some n) (hm : maxL ≤ 21)
    (hn : av.length = n) (hav : av.map (am_v ρC) = av) (hcat : (rest.map fun v => v.category).sum ≤ 8) (hsz : ls.size = 7) (hd : decode code pc = .ok (.invokevirtual index, 3)) (hcs : cells ≤ 601024 ∧ slots ≤ 7293034)
    (kk : ∀ (H1 : Heap) (locs1 : List Loc), lw_I s D kc ρC ρR oa r.2 hR f H1 locs1 → W p l e room_1 s m #[Value.ref b] below meth c H1 locs1 cells slots Q (F0 m (pc + 3) ls ((r.1.map (am_v ρC)).toList ++ rest))) :
    W p l e room_1 s m #[Value.ref b] below meth c H locs cells slots Q (F0 m pc ls (av.reverse ++ .ref (ρC 0) :: rest)) := by
  obtain ⟨⟨hx, hb, hr, hml, hown, hts, hX, hbl, hlocks, hgv⟩, hK, hOk, hN, hZ, hst⟩ := X
  refine lw_call1 (D := D) (kc := kc) (ci := 0) (q9 := ("DesignTexts", ft_T, 6)) (R := room_1) (A := lw_A s) ⟨hx, hb, hml, hown, hts⟩ hK (ca_ce (l := l) (D := D) (kc := kc) Fx.1 7 id y _ hid) hrun I.1 h0 rfl h1 h2 h3 h4 h5 hdd ⟨by decide, by show 8 + (maxL + 11) + 40 * 7 ≤ 344; omega⟩ hn hav hcat hsz hd hcs I.2.2.1 I.2.2.2.2.2 (lw_AC Fx I) (fun H1 locs1 a1 a2 a3 a4 => ?_)
  refine kk H1 locs1 ⟨a1, I.2.1, a2, lw_still I.2.1 I.2.2.2.1 a3 (fun k hk hlt h9 => ?_), ?_, a4⟩
  · rcases h9 with ⟨j, hj, e9⟩ | h9
    · exact Fx.2.2.1 j k hj hk e9.symm
    · omega
  · have hlt : oa < H.size := (Array.getElem?_eq_some_iff.mp I.2.2.2.2.1).1
    rw [a3 oa hlt (fun h9 => ?_)]
    · exact I.2.2.2.2.1
    · rcases h9 with ⟨j, hj, e9⟩ | h9
      · exact Fx.2.2.2.1 j hj e9.symm
      · omega
/-- a call of the reference -/
theorem lw_callR {id n index maxL : Nat} {y : MethodName} {bytes : ByteArray} {ret : Option FieldType} {av : List Value} {r : am_R} {fs : List Value}
    (X : lw_X p l s m meth c D kc b L xs) (Fx : lw_Fx s ρC ρR oa) (I : lw_I s D kc ρC ρR oa hC hR f H locs) (hid : rPI[id]? = some (y, .code y bytes maxL ret :: am_WT)) (hrun : am_run rPT rML 7 id (.ref 0 :: av) hR = some r) (h0 : hR[0]? = some (.inr (5, fs)))
    (h1 : .methodLink "DesignTextsLaw" index y ∈ am_WT) (h2 : .instanceMethod y ∈ am_WT) (h3 : .selects "DesignTextsModel" y y ∈ am_WT) (h4 : .initialized "DesignTextsModel" ∈ am_WT) (h5 : .code y bytes maxL ret ∈ am_WT)
    (hdd : y.cls = "DesignTextsModel" ∧ y.cls ≠ "java/lang/invoke/MethodHandle" ∧ y.cls ≠ "java/lang/invoke/VarHandle" ∧ (parseMethodDescriptor y.desc).map (fun d => d.parameters.length) = some n) (hm : maxL ≤ 21)
    (hn : av.length = n) (hav : av.map (am_v ρR) = av) (hcat : (rest.map fun v => v.category).sum ≤ 8) (hsz : ls.size = 7) (hd : decode code pc = .ok (.invokevirtual index, 3)) (hcs : cells ≤ 601024 ∧ slots ≤ 7293034)
    (kk : ∀ (H1 : Heap) (locs1 : List Loc), lw_I s D kc ρC ρR oa hC r.2 f H1 locs1 → W p l e room_1 s m #[Value.ref b] below meth c H1 locs1 cells slots Q (F0 m (pc + 3) ls ((r.1.map (am_v ρR)).toList ++ rest))) :
    W p l e room_1 s m #[Value.ref b] below meth c H locs cells slots Q (F0 m pc ls (av.reverse ++ .ref (ρR 0) :: rest)) := by
  obtain ⟨⟨hx, hb, hr, hml, hown, hts, hX, hbl, hlocks, hgv⟩, hK, hOk, hN, hZ, hst⟩ := X
  refine lw_call1 (D := D) (kc := kc) (ci := 5) (q9 := ("DesignTextsModel", ft_M, 38)) (R := room_1) (A := lw_A s) ⟨hx, hb, hml, hown, hts⟩ hK (ra_ce (l := l) (D := D) (kc := kc) Fx.2.1 7 id y _ hid) hrun I.2.1 h0 rfl h1 h2 h3 h4 h5 hdd ⟨by decide, by show 8 + (maxL + 11) + 40 * 7 ≤ 344; omega⟩ hn hav hcat hsz hd hcs I.2.2.2.1 I.2.2.2.2.2 (lw_AR Fx I) (fun H1 locs1 a1 a2 a3 a4 => ?_)
  refine kk H1 locs1 ⟨I.1, a1, lw_still I.1 I.2.2.1 a3 (fun k hk hlt h9 => ?_), a2, ?_, a4⟩
  · rcases h9 with ⟨j, hj, e9⟩ | h9
    · exact Fx.2.2.1 k j hk hj e9
    · omega
  · have hlt : oa < H.size := (Array.getElem?_eq_some_iff.mp I.2.2.2.2.1).1
    rw [a3 oa hlt (fun h9 => ?_)]
    · exact I.2.2.2.2.1
    · rcases h9 with ⟨j, hj, e9⟩ | h9
      · exact Fx.2.2.2.2.1 j hj e9.symm
      · omega
/-- a call of one of the law's wrappers -/
theorem lw_callX {n index maxL : Nat} {y : MethodName} {bytes : ByteArray} {ret : Option FieldType} {hh : List (Nat × Nat × Nat × Nat)} {ia : List Value} {r : am_R} {cd : Nat → Int32}
    (X : lw_X p l s m meth c D kc b L xs) (Fx : lw_Fx s ρC ρR oa) (I : lw_I s D kc ρC ρR oa hC hR f H locs) (hM : Met l y (.codeWith y bytes maxL ret hh :: am_WT) lx_rm (lx_Pc D ρC kc oa H.size ia f hC) (lx_Qc D ρC kc oa H.size f cd r) 1 6 (lx_A ρC oa H.size))
    (h1 : .methodLink "DesignTextsLaw" index y ∈ am_WT) (h2 : .static y ∈ am_WT) (h4 : .initialized y.cls ∈ am_WT) (h5 : .codeWith y bytes maxL ret hh ∈ am_WT)
    (hdd : (y.cls ≠ "java/lang/invoke/MethodHandle" ∧ y.cls ≠ "java/lang/invoke/VarHandle") ∧ (parseMethodDescriptor y.desc).map (fun d => d.parameters.length) = some n) (hm : maxL ≤ 20)
    (hn : ia.length + 2 = n) (hcat : (rest.map fun v => v.category).sum ≤ 8) (hsz : ls.size = 7) (hd : decode code pc = .ok (.invokestatic index, 3)) (hcs : cells + 1 ≤ 601024 ∧ slots + 6 ≤ 7293034)
    (kk : ∀ (co : Int32) (f' : Nat → Int64) (H1 : Heap) (locs1 : List Loc), ((∃ v, r.1 = some (.int v) ∧ co = 0 ∧ f' = vp_updL f 0 v.toInt64) ∨ (∃ k, r.1 = some (.retAddr k) ∧ co = cd k ∧ f' = f)) → lw_I s D kc ρC ρR oa r.2 hR f' H1 locs1 → W p l e room_1 s m #[Value.ref b] below meth c H1 locs1 (cells + 1) (slots + 6) Q (F0 m (pc + 3) ls (.int co :: rest))) :
    W p l e room_1 s m #[Value.ref b] below meth c H locs cells slots Q (F0 m pc ls (.ref oa :: (ia.reverse ++ .ref (ρC 0) :: rest))) := by
  obtain ⟨⟨hx, hb, hr, hml, hown, hts, hX, hbl, hlocks, hgv⟩, hK, hOk, hN, hZ, hst⟩ := X
  have hAx : ∀ q, lx_A ρC oa H.size q → lw_A s q := fun q h => by
    rcases h with h | h
    · exact lw_AC Fx I q h
    · subst h
      exact Fx.2.2.2.2.2.2.2
  have hZU : ∀ U : State, U.heap = H → s.WarmedH U.vm → ax_Zs (lx_A ρC oa H.size) U U.heap := fun U hU hW => by
    rw [hU]
    exact ⟨((hZ.1.moved hW.alike).kept (fun a ha hA => I.2.2.2.2.2.2.1 a ha hA)).narrow hAx, ((hZ.2.moved hW.alike).kept (fun a ha hA => I.2.2.2.2.2.2.1 a ha hA)).narrow hAx⟩
  have hrun := lw_runSW (p := p) (l := l) (e := e) (R := room_1) (s := s) (m := m) (args := #[Value.ref b]) (below := below) (meth := meth) (c := c) (H := H) (locs := locs) (cells := cells) (slots := slots) (g := F0 m pc ls (.ref oa :: (ia.reverse ++ .ref (ρC 0) :: rest))) (As := .ref (ρC 0) :: (ia ++ [.ref oa])) (rest := rest) ⟨hx, hb, hml, hown, hts⟩ hM h1 h2 h4 h5 hdd ⟨rfl, rfl⟩ ⟨by decide, by show 8 + (maxL + 11) + 305 ≤ 344; omega⟩
    ⟨lx_blind, fun U hU hW => ⟨rfl, by rw [hU], by rw [hU]; exact I.2.2.1, by rw [hU]; exact I.2.2.2.2.1, va_K.moved hW.alike hK, ax_Ok.warm hW hOk, ax_N.moved hW.alike hN, hZU U hU hW⟩⟩ rfl (by simp only [List.length_cons, List.length_append, List.length_nil]; omega) hsz (by simp) (lv_room hcat) hd hcs
  intro T hT X
  obtain ⟨v, st₀, t, T', Lq, h0, X', hL, e1, e2, ⟨⟨co, f', hv, hcase, hP1, hlen1, hO1⟩, hz, hk⟩, st⟩ := hrun T hT X
  cases hv
  rw [h0] at hz hk
  have I1 : lw_I s D kc ρC ρR oa r.2 hR f' T'.heap (locs ++ Lq) := by
    refine ⟨hlen1, I.2.1, by rw [e1]; exact hP1, ?_, by rw [e1]; exact hO1, Nat.le_trans I.2.2.2.2.2.1 (by rw [e1]; exact hz), fun q h1 h2 => by rw [e1, hk q (Nat.lt_of_lt_of_le h1 I.2.2.2.2.2.1) (fun z => h2 (hAx q z))]; exact I.2.2.2.2.2.2.1 q h1 h2, fun q hq => ?_⟩
    · rw [e1]
      refine lw_still I.2.1 I.2.2.2.1 hk (fun k hk9 hlt h9 => ?_)
      rcases h9 with (⟨j, hj, e9⟩ | h9) | h9
      · exact Fx.2.2.1 j k hj hk9 e9.symm
      · omega
      · exact Fx.2.2.2.2.1 k hk9 h9
    · rcases List.mem_append.mp hq with h | h
      · exact I.2.2.2.2.2.2.2 q h
      · exact hAx _ (hL q h)
  obtain ⟨t2, a1, b1⟩ := kk co f' T'.heap (locs ++ Lq) hcase I1 T' rfl X'
  exact ⟨t2, st t2 a1, b1⟩
end LWC
