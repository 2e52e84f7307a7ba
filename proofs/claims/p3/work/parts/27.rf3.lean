set_option maxHeartbeats 4000000 in
set_option maxRecDepth 100000 in
theorem rf_walk (l : Launch) (hst : l.stackTraces = false) (b : Addr) : MetFree l x (headSpec (Jvm.Cond.code x code maxLocals ret :: tables_1) room_1) (lw_P b rf_s) (fun _ _ _ _ _ => True) (fun _ _ o _ => o = .returned (some (.int 0))) := by
  refine MetFree.of_bodyS (code := code) (maxLocals := maxLocals) (ret := ret) (by decide) ?_ ?_
  · intro args s m h hn
    obtain ⟨meth, c, h1, h2, h3, h4, h5, h6, -, -⟩ := Cond.code_spec hn (atoms_spec (ws := Jvm.Cond.code x code maxLocals ret :: tables_1) h _ List.mem_cons_self)
    exact ⟨meth, c, h1, h2, h3, h4, h5, h6⟩
  · intro p e s m args below meth c s₁ B hml0 hP _
    obtain ⟨rfl, hx, hbd, hgv⟩ := hP
    obtain ⟨scr, harrAt, hlist, hof, hsmall⟩ := hx
    obtain ⟨hcb, hkn, -, -⟩ := State.arrayAt?_spec harrAt
    have hown : s.vm.findClass R_law = some m.cls := findClass_of_methodNamed B.named
    have hts0 : ∀ c ∈ (Jvm.Cond.code x code maxLocals ret :: tables_1), c.before #[Value.ref b] s = true := atoms_spec (ws := Jvm.Cond.code x code maxLocals ret :: tables_1) B.pre
    have hts : ∀ w ∈ lw_tbl, w.before #[Value.ref b] s = true := k2_hts_sels lw_privs (fun w hw => hts0 w (List.mem_cons_of_mem _ hw)) lw_privs_ok
    have hml : c.maxLocals = 7 := B.maxLocals_eq (hts0 _ List.mem_cons_self)
    have X₀ : Stand p l e room_1 s m #[Value.ref b] below meth c s₁ [] 0 0 := Stand.of_body B
    have hh0 : s₁.heap = s.heap := by rw [B.state]; rfl
    have hsz : scr.slots.size = rf_s.length := by rw [← Array.length_toList, hlist, List.length_map]
    have hval : ∀ j : Nat, j < rf_s.length → scr.slots[j]? = some (.int (rf_s.getD j 0)) := fun j hj => by
      rw [← Array.getElem?_toList, hlist]
      simp [hj]
    have hbl : b < s.heap.size := (Array.getElem?_eq_some_iff.mp hcb).1
    have hX : va_X b rf_s.length (fun j => rf_s.getD j 0) s s.heap := ⟨scr, hcb, hof, hkn, hsz, hval⟩
    have K : W p l e room_1 s m #[Value.ref b] below meth c s₁.heap [] 0 0 (rf_Z below) (entryFrame m ([Value.ref b] : List Value).toArray 7) := by
      rw [hh0]
      exact rf_start l hst hbd (Q := rf_Z below) ⟨B.exec, B.bytes, B.returns, hml, hown, hts, hX, hbl, B.notSynchronized, hgv⟩ (fun D kc ρC ρR oa H locs ls X Fx I hl => rf_loop X Fx I hl)
    obtain ⟨t, a1, b1, b2⟩ := K s₁ rfl X₀
    exact ⟨t, _, a1, b1, b2, rfl⟩
def rf_cells : Array Value := #[.int 0, .int 4, .int 543646049, .int 0, .int 4, .int 540024880, .int 0, .int 4, .int 540024881, .int 0, .int 2, .int 14128, .int 1, .int 0, .int 0]
def rf_at : State := start1.aboutOf rf_cells
set_option maxRecDepth 16384 in
theorem rf_words_or : (Cond.code x code maxLocals ret :: tables_1).all (fun c => c.onTables || c.before start1.args0 rf_at) = true := by decide +kernel
theorem rf_words : ∀ c ∈ (Cond.code x code maxLocals ret :: tables_1), c.before start1.args0 rf_at = true := by
  intro c hc
  rcases Bool.or_eq_true_iff.mp (List.all_eq_true.mp rf_words_or c hc) with h | h
  · exact va_tabs h (show start1.about.vm = rf_at.vm from rfl) (start1.words c hc)
  · exact h
set_option maxRecDepth 16384 in
theorem rf_atStart : AtStart classFile x code maxLocals ret World_1 tables_1 room_1 Calls_1 rest_1 Pre_1 launch0 start1.p0 start1.e0 rf_at ⟨0, 0⟩ start1.args0 Lib.HandBits.below0 :=
  ⟨lists_1, trivial, launch0.admits_env _ _ _, launch0.least_env, fairChoices_fair.cas, fairChoices_fair.clock, rfl, by decide +kernel, by decide +kernel,
    (Spec.applies_iff rfl).mpr ⟨rfl, rfl, rfl, by decide +kernel, by decide +kernel, by decide +kernel, launch0.hasRoom_least _ room_1 (by decide +kernel) (by decide +kernel) (by decide +kernel) (by decide +kernel) (by decide +kernel) (by decide +kernel), atoms_intro rf_words⟩,
    trivial, (show rest_1_c.before start1.args0 rf_at = true by decide +kernel), (show (Cond.and given_1 narrow_1).before start1.args0 rf_at = true by decide +kernel)⟩
theorem rf_ints : rf_at.IntsAt 0 rf_s := ⟨_, rfl, rfl, ⟨fun k h => (by first | (cases h; done) | exact (nomatch h)), _, rfl, _, rfl⟩, by decide⟩
theorem rf_P : lw_P 0 rf_s start1.args0 rf_at := ⟨rfl, rf_ints, by decide, rf_atStart.2.2.2.2.2.2.2.2.2.2.2.2⟩
/-- THE STATEMENT IS FALSE: from this start the law ends, and answers 0, not 1. -/
theorem rf_false : ¬ Claimed_1_2 := by
  intro hA
  obtain ⟨hL, hW, had, -, hcas, hclk, hfr, hfit, hheap, happ, hpre⟩ := rf_atStart
  obtain ⟨k, q, g1, -, g3, g4⟩ := hA launch0 rfl hL hW start1.p0 start1.e0 had hcas hclk rf_at ⟨0, 0⟩ start1.args0 Lib.HandBits.below0 hfr hfit hheap happ hpre
  obtain ⟨n, o, h1, -, h3, rfl⟩ := rf_walk launch0 (by decide +kernel) 0 start1.p0 start1.e0 had hcas hclk rf_at ⟨0, 0⟩ start1.args0 Lib.HandBits.below0 hfr ((Spec.applies_iff_loose hfr).mp happ).1 rf_P trivial
  have e : n = k := Nat.le_antisymm (Nat.le_of_not_lt fun z => g3.not_within (h1 k z)) (Nat.le_of_not_lt fun z => h3.not_within (g1 n z))
  subst e
  have hq := h3.outcome_unique g3
  subst hq
  have hq1 : (Cond.eq .result (.int 1)).after start1.args0 rf_at (.returned (some (.int 0))) (stepsAlone start1.p0.tables start1.e0 n rf_at) = true := g4.1
  have hq2 := Cond.after_iff.mp hq1
  rw [Cond.eq_ints (x := 0) (y := 1) rfl rfl] at hq2
  exact absurd hq2 (by decide)
theorem rf_no_proof : ¬ (Claimed_1_1 ∧ Claimed_1_2) := fun h => rf_false h.2
