theorem sd_M_put {p : Program} {l : Launch} {e : Env} {R : Room} {s : State} {m : MethodId} {args : Array Value} {below : List Frame} {meth : Method} {c : Code} {D : va_G} {ρ : Nat → Nat} {kc : Nat → ClassId} {len : Nat} {Qc : Array Value → State → Outcome → State → Prop} {call : am_C} {rm : Room} (C : am_Cx p R s m args meth c prog_7_method_3_code 4 rw_M_put "DesignTextsModel" D aCl ρ kc am_fts len) (hr : meth.sig.returnType = some .int)
    (hce : ∀ (id : Nat) (y : MethodName) (ws : List Cond), rPI[id]? = some (y, ws) → am_Ce l call rm D aCl ρ kc am_fts len id y ws) (hrm : rm.cells = 0 ∧ rm.slots = 0) (hR : ∀ {k : Nat}, k ≤ 21 → rm.frames + 1 ≤ R.frames ∧ 8 + (k + 11) + rm.locals ≤ R.locals) :
    ∀ q ∈ tb_M_put call, am_Row (am_J p l e R s m args below meth c 4 D aCl ρ kc len (MQ below Qc args s 0 0 (am_A ρ len s.heap.size))) (am_K s args D aCl ρ kc len Qc) q.1 q.2 := by
  unfold tb_M_put
  refine am_cons (ar_aload_n C d_M_put_0 rfl) ?_
  refine am_cons (ar_iload_n C d_M_put_1 rfl) ?_
  refine am_cons (ar_iconst C d_M_put_2 (by decide)) ?_
  refine am_cons (ar_icmp_lt C d_M_put_3 (by decide)) ?_
  refine am_cons (ar_iload_n C d_M_put_6 rfl) ?_
  refine am_cons (ar_iconst C d_M_put_7 (by decide)) ?_
  refine am_cons (ar_icmp_le C d_M_put_8 (by decide)) ?_
  refine am_cons (ar_keep [0, 1, 2] (ar_iconst C d_M_put_11 (by decide))) ?_
  refine am_cons (ar_goto C d_M_put_12 (by decide)) ?_
  refine am_cons (ar_aload_n C d_M_put_15 rfl) ?_
  refine am_cons (ar_getf C d_M_put_16 (am_uc ft_Mu) rfl (by decide) (am_mc wt_342)) ?_
  refine am_cons (ar_iload_n C d_M_put_19 rfl) ?_
  refine am_cons (ar_iadd C d_M_put_20) ?_
  refine am_cons (ar_sipush C d_M_put_21 (by decide)) ?_
  refine am_cons (ar_icmp_le C d_M_put_24 (by decide)) ?_
  refine am_cons (ar_iconst C d_M_put_27 (by decide)) ?_
  refine am_cons (ar_goto C d_M_put_28 (by decide)) ?_
  refine am_cons (ar_iconst C d_M_put_31 (by decide)) ?_
  refine am_cons (ar_keep [0, 1, 2] (ar_putI C d_M_put_32 (am_uc ft_Mu) ft_Mo ft_Mn rfl (by decide) (am_mc wt_343) rfl (by decide +kernel))) ?_
  refine am_cons (ar_aload_n C d_M_put_35 rfl) ?_
  refine am_cons (ar_getf C d_M_put_36 (am_uc ft_Mu) rfl (by decide) (am_mc wt_343)) ?_
  refine am_cons (ar_if_le C d_M_put_39 (by decide)) ?_
  refine am_cons (ar_iconst C d_M_put_42 (by decide)) ?_
  refine am_cons (ar_ireturn C hr d_M_put_43) ?_
  refine am_cons (ar_iconst C d_M_put_44 (by decide)) ?_
  refine am_cons (ar_istore_n C d_M_put_45 rfl) ?_
  refine am_cons (ar_keep [0, 1, 2, 3] (ar_iload_n C d_M_put_46 rfl)) ?_
  refine am_cons (ar_iload_n C d_M_put_47 rfl) ?_
  refine am_cons (ar_icmp_ge C d_M_put_48 (by decide)) ?_
  refine am_cons (ar_aload_n C d_M_put_51 rfl) ?_
  refine am_cons (ar_getf C d_M_put_52 (am_uc ft_Mu) rfl (by decide) (am_mc wt_344)) ?_
  refine am_cons (ar_aload_n C d_M_put_55 rfl) ?_
  refine am_cons (ar_getf C d_M_put_56 (am_uc ft_Mu) rfl (by decide) (am_mc wt_342)) ?_
  refine am_cons (ar_iload_n C d_M_put_59 rfl) ?_
  refine am_cons (ar_bipush C d_M_put_60 (by decide)) ?_
  refine am_cons (ar_iload_n C d_M_put_62 rfl) ?_
  refine am_cons (ar_imul C d_M_put_63) ?_
  refine am_cons (ar_ishr C d_M_put_64) ?_
  refine am_cons (ar_sipush C d_M_put_65 (by decide)) ?_
  refine am_cons (ar_iand C d_M_put_68) ?_
  refine am_cons (ar_iast C d_M_put_69 rfl) ?_
  refine am_cons (ar_aload_n C d_M_put_70 rfl) ?_
  refine am_cons (ar_dup C d_M_put_71) ?_
  refine am_cons (ar_getf C d_M_put_72 (am_uc ft_Mu) rfl (by decide) (am_mc wt_342)) ?_
  refine am_cons (ar_iconst C d_M_put_75 (by decide)) ?_
  refine am_cons (ar_iadd C d_M_put_76) ?_
  refine am_cons (ar_putI C d_M_put_77 (am_uc ft_Mu) ft_Mo ft_Mn rfl (by decide) (am_mc wt_342) rfl (by decide +kernel)) ?_
  refine am_cons (ar_iinc C d_M_put_80 (by decide)) ?_
  refine am_cons (ar_goto C d_M_put_83 (by decide)) ?_
  refine am_cons (ar_keep [0] (ar_aload_n C d_M_put_86 rfl)) ?_
  refine am_cons (ar_getf C d_M_put_87 (am_uc ft_Mu) rfl (by decide) (am_mc wt_342)) ?_
  refine am_cons (ar_ireturn C hr d_M_put_90) ?_
  exact am_nil
theorem sd_M_byteAt {p : Program} {l : Launch} {e : Env} {R : Room} {s : State} {m : MethodId} {args : Array Value} {below : List Frame} {meth : Method} {c : Code} {D : va_G} {ρ : Nat → Nat} {kc : Nat → ClassId} {len : Nat} {Qc : Array Value → State → Outcome → State → Prop} {call : am_C} {rm : Room} (C : am_Cx p R s m args meth c prog_7_method_4_code 2 rw_M_byteAt "DesignTextsModel" D aCl ρ kc am_fts len) (hr : meth.sig.returnType = some .int)
    (hce : ∀ (id : Nat) (y : MethodName) (ws : List Cond), rPI[id]? = some (y, ws) → am_Ce l call rm D aCl ρ kc am_fts len id y ws) (hrm : rm.cells = 0 ∧ rm.slots = 0) (hR : ∀ {k : Nat}, k ≤ 21 → rm.frames + 1 ≤ R.frames ∧ 8 + (k + 11) + rm.locals ≤ R.locals) :
    ∀ q ∈ tb_M_byteAt call, am_Row (am_J p l e R s m args below meth c 2 D aCl ρ kc len (MQ below Qc args s 0 0 (am_A ρ len s.heap.size))) (am_K s args D aCl ρ kc len Qc) q.1 q.2 := by
  unfold tb_M_byteAt
  refine am_cons (ar_iload_n C d_M_byteAt_0 rfl) ?_
  refine am_cons (ar_aload_n C d_M_byteAt_1 rfl) ?_
  refine am_cons (ar_getf C d_M_byteAt_2 (am_uc ft_Mu) rfl (by decide) (am_mc wt_342)) ?_
  refine am_cons (ar_icmp_ge C d_M_byteAt_5 (by decide)) ?_
  refine am_cons (ar_aload_n C d_M_byteAt_8 rfl) ?_
  refine am_cons (ar_getf C d_M_byteAt_9 (am_uc ft_Mu) rfl (by decide) (am_mc wt_344)) ?_
  refine am_cons (ar_iload_n C d_M_byteAt_12 rfl) ?_
  refine am_cons (ar_iald C d_M_byteAt_13 rfl) ?_
  refine am_cons (ar_goto C d_M_byteAt_14 (by decide)) ?_
  refine am_cons (ar_iconst C d_M_byteAt_17 (by decide)) ?_
  refine am_cons (ar_ireturn C hr d_M_byteAt_18) ?_
  exact am_nil
theorem sd_M_bad {p : Program} {l : Launch} {e : Env} {R : Room} {s : State} {m : MethodId} {args : Array Value} {below : List Frame} {meth : Method} {c : Code} {D : va_G} {ρ : Nat → Nat} {kc : Nat → ClassId} {len : Nat} {Qc : Array Value → State → Outcome → State → Prop} {call : am_C} {rm : Room} (C : am_Cx p R s m args meth c prog_7_method_5_code 2 rw_M_bad "DesignTextsModel" D aCl ρ kc am_fts len) (hr : meth.sig.returnType = none)
    (hce : ∀ (id : Nat) (y : MethodName) (ws : List Cond), rPI[id]? = some (y, ws) → am_Ce l call rm D aCl ρ kc am_fts len id y ws) (hrm : rm.cells = 0 ∧ rm.slots = 0) (hR : ∀ {k : Nat}, k ≤ 21 → rm.frames + 1 ≤ R.frames ∧ 8 + (k + 11) + rm.locals ≤ R.locals) :
    ∀ q ∈ tb_M_bad call, am_Row (am_J p l e R s m args below meth c 2 D aCl ρ kc len (MQ below Qc args s 0 0 (am_A ρ len s.heap.size))) (am_K s args D aCl ρ kc len Qc) q.1 q.2 := by
  unfold tb_M_bad
  refine am_cons (ar_aload_n C d_M_bad_0 rfl) ?_
  refine am_cons (ar_getf C d_M_bad_1 (am_uc ft_Mu) rfl (by decide) (am_mc wt_345)) ?_
  refine am_cons (ar_iconst C d_M_bad_4 (by decide)) ?_
  refine am_cons (ar_icmp_ne C d_M_bad_5 (by decide)) ?_
  refine am_cons (ar_aload_n C d_M_bad_8 rfl) ?_
  refine am_cons (ar_iload_n C d_M_bad_9 rfl) ?_
  refine am_cons (ar_putI C d_M_bad_10 (am_uc ft_Mu) ft_Mo ft_Mn rfl (by decide) (am_mc wt_345) rfl (by decide +kernel)) ?_
  refine am_cons (ar_return C hr d_M_bad_13) ?_
  exact am_nil
theorem sd_M_take {p : Program} {l : Launch} {e : Env} {R : Room} {s : State} {m : MethodId} {args : Array Value} {below : List Frame} {meth : Method} {c : Code} {D : va_G} {ρ : Nat → Nat} {kc : Nat → ClassId} {len : Nat} {Qc : Array Value → State → Outcome → State → Prop} {call : am_C} {rm : Room} (C : am_Cx p R s m args meth c prog_7_method_6_code 2 rw_M_take "DesignTextsModel" D aCl ρ kc am_fts len) (hr : meth.sig.returnType = none)
    (hce : ∀ (id : Nat) (y : MethodName) (ws : List Cond), rPI[id]? = some (y, ws) → am_Ce l call rm D aCl ρ kc am_fts len id y ws) (hrm : rm.cells = 0 ∧ rm.slots = 0) (hR : ∀ {k : Nat}, k ≤ 21 → rm.frames + 1 ≤ R.frames ∧ 8 + (k + 11) + rm.locals ≤ R.locals) :
    ∀ q ∈ tb_M_take call, am_Row (am_J p l e R s m args below meth c 2 D aCl ρ kc len (MQ below Qc args s 0 0 (am_A ρ len s.heap.size))) (am_K s args D aCl ρ kc len Qc) q.1 q.2 := by
  unfold tb_M_take
  refine am_cons (ar_aload_n C d_M_take_0 rfl) ?_
  refine am_cons (ar_getf C d_M_take_1 (am_uc ft_Mu) rfl (by decide) (am_mc wt_345)) ?_
  refine am_cons (ar_iconst C d_M_take_4 (by decide)) ?_
  refine am_cons (ar_icmp_eq C d_M_take_5 (by decide)) ?_
  refine am_cons (ar_return C hr d_M_take_8) ?_
  refine am_cons (ar_aload_n C d_M_take_9 rfl) ?_
  refine am_cons (ar_aload_n C d_M_take_10 rfl) ?_
  refine am_cons (ar_getf C d_M_take_11 (am_uc ft_Mu) rfl (by decide) (am_mc wt_346)) ?_
  refine am_cons (ar_callV C d_M_take_14 (hce 1 ⟨"DesignTextsModel", "byteAt", "(I)I"⟩ rw_M_byteAt rfl) rfl (am_gv wt_347 wt_348 wt_349 wt_350 wt_309) rfl (by decide +kernel) hrm (hR (by decide))) ?_
  refine am_cons (ar_iload_n C d_M_take_17 rfl) ?_
  refine am_cons (ar_icmp_eq C d_M_take_18 (by decide)) ?_
  refine am_cons (ar_aload_n C d_M_take_21 rfl) ?_
  refine am_cons (ar_aload_n C d_M_take_22 rfl) ?_
  refine am_cons (ar_getf C d_M_take_23 (am_uc ft_Mu) rfl (by decide) (am_mc wt_346)) ?_
  refine am_cons (ar_callV C d_M_take_26 (hce 2 ⟨"DesignTextsModel", "bad", "(I)V"⟩ rw_M_bad rfl) rfl (am_gv wt_351 wt_352 wt_353 wt_350 wt_310) rfl (by decide +kernel) hrm (hR (by decide))) ?_
  refine am_cons (ar_return C hr d_M_take_29) ?_
  refine am_cons (ar_aload_n C d_M_take_30 rfl) ?_
  refine am_cons (ar_dup C d_M_take_31) ?_
  refine am_cons (ar_getf C d_M_take_32 (am_uc ft_Mu) rfl (by decide) (am_mc wt_346)) ?_
  refine am_cons (ar_iconst C d_M_take_35 (by decide)) ?_
  refine am_cons (ar_iadd C d_M_take_36) ?_
  refine am_cons (ar_putI C d_M_take_37 (am_uc ft_Mu) ft_Mo ft_Mn rfl (by decide) (am_mc wt_346) rfl (by decide +kernel)) ?_
  refine am_cons (ar_return C hr d_M_take_40) ?_
  exact am_nil
theorem sd_M_isDigit {p : Program} {l : Launch} {e : Env} {R : Room} {s : State} {m : MethodId} {args : Array Value} {below : List Frame} {meth : Method} {c : Code} {D : va_G} {ρ : Nat → Nat} {kc : Nat → ClassId} {len : Nat} {Qc : Array Value → State → Outcome → State → Prop} {call : am_C} {rm : Room} (C : am_Cx p R s m args meth c prog_7_method_7_code 2 rw_M_isDigit "DesignTextsModel" D aCl ρ kc am_fts len) (hr : meth.sig.returnType = some .boolean)
    (hce : ∀ (id : Nat) (y : MethodName) (ws : List Cond), rPI[id]? = some (y, ws) → am_Ce l call rm D aCl ρ kc am_fts len id y ws) (hrm : rm.cells = 0 ∧ rm.slots = 0) (hR : ∀ {k : Nat}, k ≤ 21 → rm.frames + 1 ≤ R.frames ∧ 8 + (k + 11) + rm.locals ≤ R.locals) :
    ∀ q ∈ tb_M_isDigit call, am_Row (am_J p l e R s m args below meth c 2 D aCl ρ kc len (MQ below Qc args s 0 0 (am_A ρ len s.heap.size))) (am_K s args D aCl ρ kc len Qc) q.1 q.2 := by
  unfold tb_M_isDigit
  refine am_cons (ar_aload_n C d_M_isDigit_0 rfl) ?_
  refine am_cons (ar_iload_n C d_M_isDigit_1 rfl) ?_
  refine am_cons (ar_callV C d_M_isDigit_2 (hce 1 ⟨"DesignTextsModel", "byteAt", "(I)I"⟩ rw_M_byteAt rfl) rfl (am_gv wt_347 wt_348 wt_349 wt_350 wt_309) rfl (by decide +kernel) hrm (hR (by decide))) ?_
  refine am_cons (ar_bipush C d_M_isDigit_5 (by decide)) ?_
  refine am_cons (ar_icmp_lt C d_M_isDigit_7 (by decide)) ?_
  refine am_cons (ar_aload_n C d_M_isDigit_10 rfl) ?_
  refine am_cons (ar_iload_n C d_M_isDigit_11 rfl) ?_
  refine am_cons (ar_callV C d_M_isDigit_12 (hce 1 ⟨"DesignTextsModel", "byteAt", "(I)I"⟩ rw_M_byteAt rfl) rfl (am_gv wt_347 wt_348 wt_349 wt_350 wt_309) rfl (by decide +kernel) hrm (hR (by decide))) ?_
  refine am_cons (ar_bipush C d_M_isDigit_15 (by decide)) ?_
  refine am_cons (ar_icmp_gt C d_M_isDigit_17 (by decide)) ?_
  refine am_cons (ar_iconst C d_M_isDigit_20 (by decide)) ?_
  refine am_cons (ar_goto C d_M_isDigit_21 (by decide)) ?_
  refine am_cons (ar_iconst C d_M_isDigit_24 (by decide)) ?_
  refine am_cons (ar_zreturn C hr d_M_isDigit_25) ?_
  exact am_nil
theorem sd_M_number {p : Program} {l : Launch} {e : Env} {R : Room} {s : State} {m : MethodId} {args : Array Value} {below : List Frame} {meth : Method} {c : Code} {D : va_G} {ρ : Nat → Nat} {kc : Nat → ClassId} {len : Nat} {Qc : Array Value → State → Outcome → State → Prop} {call : am_C} {rm : Room} (C : am_Cx p R s m args meth c prog_7_method_8_code 3 rw_M_number "DesignTextsModel" D aCl ρ kc am_fts len) (hr : meth.sig.returnType = some .int)
    (hce : ∀ (id : Nat) (y : MethodName) (ws : List Cond), rPI[id]? = some (y, ws) → am_Ce l call rm D aCl ρ kc am_fts len id y ws) (hrm : rm.cells = 0 ∧ rm.slots = 0) (hR : ∀ {k : Nat}, k ≤ 21 → rm.frames + 1 ≤ R.frames ∧ 8 + (k + 11) + rm.locals ≤ R.locals) :
    ∀ q ∈ tb_M_number call, am_Row (am_J p l e R s m args below meth c 3 D aCl ρ kc len (MQ below Qc args s 0 0 (am_A ρ len s.heap.size))) (am_K s args D aCl ρ kc len Qc) q.1 q.2 := by
  unfold tb_M_number
  refine am_cons (ar_aload_n C d_M_number_0 rfl) ?_
  refine am_cons (ar_getf C d_M_number_1 (am_uc ft_Mu) rfl (by decide) (am_mc wt_345)) ?_
  refine am_cons (ar_iconst C d_M_number_4 (by decide)) ?_
  refine am_cons (ar_icmp_eq C d_M_number_5 (by decide)) ?_
  refine am_cons (ar_iconst C d_M_number_8 (by decide)) ?_
  refine am_cons (ar_ireturn C hr d_M_number_9) ?_
  refine am_cons (ar_aload_n C d_M_number_10 rfl) ?_
  refine am_cons (ar_aload_n C d_M_number_11 rfl) ?_
  refine am_cons (ar_getf C d_M_number_12 (am_uc ft_Mu) rfl (by decide) (am_mc wt_346)) ?_
  refine am_cons (ar_putI C d_M_number_15 (am_uc ft_Mu) ft_Mo ft_Mn rfl (by decide) (am_mc wt_354) rfl (by decide +kernel)) ?_
  refine am_cons (ar_aload_n C d_M_number_18 rfl) ?_
  refine am_cons (ar_aload_n C d_M_number_19 rfl) ?_
  refine am_cons (ar_getf C d_M_number_20 (am_uc ft_Mu) rfl (by decide) (am_mc wt_346)) ?_
  refine am_cons (ar_callV C d_M_number_23 (hce 4 ⟨"DesignTextsModel", "isDigit", "(I)Z"⟩ rw_M_isDigit rfl) rfl (am_gv wt_355 wt_356 wt_357 wt_350 wt_312) rfl (by decide +kernel) hrm (hR (by decide))) ?_
  refine am_cons (ar_if_ne C d_M_number_26 (by decide)) ?_
  refine am_cons (ar_aload_n C d_M_number_29 rfl) ?_
  refine am_cons (ar_aload_n C d_M_number_30 rfl) ?_
  refine am_cons (ar_getf C d_M_number_31 (am_uc ft_Mu) rfl (by decide) (am_mc wt_346)) ?_
  refine am_cons (ar_callV C d_M_number_34 (hce 2 ⟨"DesignTextsModel", "bad", "(I)V"⟩ rw_M_bad rfl) rfl (am_gv wt_351 wt_352 wt_353 wt_350 wt_310) rfl (by decide +kernel) hrm (hR (by decide))) ?_
  refine am_cons (ar_iconst C d_M_number_37 (by decide)) ?_
  refine am_cons (ar_ireturn C hr d_M_number_38) ?_
  refine am_cons (ar_iconst C d_M_number_39 (by decide)) ?_
  refine am_cons (ar_istore_n C d_M_number_40 rfl) ?_
  refine am_cons (ar_keep [0, 1, 2] (ar_aload_n C d_M_number_41 rfl)) ?_
  refine am_cons (ar_aload_n C d_M_number_42 rfl) ?_
  refine am_cons (ar_getf C d_M_number_43 (am_uc ft_Mu) rfl (by decide) (am_mc wt_346)) ?_
  refine am_cons (ar_callV C d_M_number_46 (hce 4 ⟨"DesignTextsModel", "isDigit", "(I)Z"⟩ rw_M_isDigit rfl) rfl (am_gv wt_355 wt_356 wt_357 wt_350 wt_312) rfl (by decide +kernel) hrm (hR (by decide))) ?_
  refine am_cons (ar_if_eq C d_M_number_49 (by decide)) ?_
  refine am_cons (ar_aload_n C d_M_number_52 rfl) ?_
  refine am_cons (ar_getf C d_M_number_53 (am_uc ft_Mu) rfl (by decide) (am_mc wt_346)) ?_
  refine am_cons (ar_aload_n C d_M_number_56 rfl) ?_
  refine am_cons (ar_getf C d_M_number_57 (am_uc ft_Mu) rfl (by decide) (am_mc wt_354)) ?_
  refine am_cons (ar_icmp_eq C d_M_number_60 (by decide)) ?_
  refine am_cons (ar_aload_n C d_M_number_63 rfl) ?_
  refine am_cons (ar_getf C d_M_number_64 (am_uc ft_Mu) rfl (by decide) (am_mc wt_344)) ?_
  refine am_cons (ar_aload_n C d_M_number_67 rfl) ?_
  refine am_cons (ar_getf C d_M_number_68 (am_uc ft_Mu) rfl (by decide) (am_mc wt_354)) ?_
  refine am_cons (ar_iald C d_M_number_71 rfl) ?_
  refine am_cons (ar_bipush C d_M_number_72 (by decide)) ?_
  refine am_cons (ar_icmp_eq C d_M_number_74 (by decide)) ?_
  refine am_cons (ar_aload_n C d_M_number_77 rfl) ?_
  refine am_cons (ar_getf C d_M_number_78 (am_uc ft_Mu) rfl (by decide) (am_mc wt_346)) ?_
  refine am_cons (ar_aload_n C d_M_number_81 rfl) ?_
  refine am_cons (ar_getf C d_M_number_82 (am_uc ft_Mu) rfl (by decide) (am_mc wt_354)) ?_
  refine am_cons (ar_isub C d_M_number_85) ?_
  refine am_cons (ar_iconst C d_M_number_86 (by decide)) ?_
  refine am_cons (ar_icmp_ne C d_M_number_87 (by decide)) ?_
  refine am_cons (ar_aload_n C d_M_number_90 rfl) ?_
  refine am_cons (ar_aload_n C d_M_number_91 rfl) ?_
  refine am_cons (ar_getf C d_M_number_92 (am_uc ft_Mu) rfl (by decide) (am_mc wt_346)) ?_
  refine am_cons (ar_callV C d_M_number_95 (hce 2 ⟨"DesignTextsModel", "bad", "(I)V"⟩ rw_M_bad rfl) rfl (am_gv wt_351 wt_352 wt_353 wt_350 wt_310) rfl (by decide +kernel) hrm (hR (by decide))) ?_
  refine am_cons (ar_iconst C d_M_number_98 (by decide)) ?_
  refine am_cons (ar_ireturn C hr d_M_number_99) ?_
  refine am_cons (ar_bipush C d_M_number_100 (by decide)) ?_
  refine am_cons (ar_iload_n C d_M_number_102 rfl) ?_
  refine am_cons (ar_imul C d_M_number_103) ?_
  refine am_cons (ar_aload_n C d_M_number_104 rfl) ?_
  refine am_cons (ar_getf C d_M_number_105 (am_uc ft_Mu) rfl (by decide) (am_mc wt_344)) ?_
  refine am_cons (ar_aload_n C d_M_number_108 rfl) ?_
  refine am_cons (ar_getf C d_M_number_109 (am_uc ft_Mu) rfl (by decide) (am_mc wt_346)) ?_
  refine am_cons (ar_iald C d_M_number_112 rfl) ?_
  refine am_cons (ar_iadd C d_M_number_113) ?_
  refine am_cons (ar_bipush C d_M_number_114 (by decide)) ?_
  refine am_cons (ar_isub C d_M_number_116) ?_
  refine am_cons (ar_istore_n C d_M_number_117 rfl) ?_
  refine am_cons (ar_aload_n C d_M_number_118 rfl) ?_
  refine am_cons (ar_dup C d_M_number_119) ?_
  refine am_cons (ar_getf C d_M_number_120 (am_uc ft_Mu) rfl (by decide) (am_mc wt_346)) ?_
  refine am_cons (ar_iconst C d_M_number_123 (by decide)) ?_
  refine am_cons (ar_iadd C d_M_number_124) ?_
  refine am_cons (ar_putI C d_M_number_125 (am_uc ft_Mu) ft_Mo ft_Mn rfl (by decide) (am_mc wt_346) rfl (by decide +kernel)) ?_
  refine am_cons (ar_goto C d_M_number_128 (by decide)) ?_
  refine am_cons (ar_keep [0, 1, 2] (ar_iload_n C d_M_number_131 rfl)) ?_
  refine am_cons (ar_iload_n C d_M_number_132 rfl) ?_
  refine am_cons (ar_icmp_le C d_M_number_133 (by decide)) ?_
  refine am_cons (ar_aload_n C d_M_number_136 rfl) ?_
  refine am_cons (ar_aload_n C d_M_number_137 rfl) ?_
  refine am_cons (ar_getf C d_M_number_138 (am_uc ft_Mu) rfl (by decide) (am_mc wt_354)) ?_
  refine am_cons (ar_callV C d_M_number_141 (hce 2 ⟨"DesignTextsModel", "bad", "(I)V"⟩ rw_M_bad rfl) rfl (am_gv wt_351 wt_352 wt_353 wt_350 wt_310) rfl (by decide +kernel) hrm (hR (by decide))) ?_
  refine am_cons (ar_iload_n C d_M_number_144 rfl) ?_
  refine am_cons (ar_ireturn C hr d_M_number_145) ?_
  exact am_nil
theorem sd_M_literal {p : Program} {l : Launch} {e : Env} {R : Room} {s : State} {m : MethodId} {args : Array Value} {below : List Frame} {meth : Method} {c : Code} {D : va_G} {ρ : Nat → Nat} {kc : Nat → ClassId} {len : Nat} {Qc : Array Value → State → Outcome → State → Prop} {call : am_C} {rm : Room} (C : am_Cx p R s m args meth c prog_7_method_9_code 3 rw_M_literal "DesignTextsModel" D aCl ρ kc am_fts len) (hr : meth.sig.returnType = some .int)
    (hce : ∀ (id : Nat) (y : MethodName) (ws : List Cond), rPI[id]? = some (y, ws) → am_Ce l call rm D aCl ρ kc am_fts len id y ws) (hrm : rm.cells = 0 ∧ rm.slots = 0) (hR : ∀ {k : Nat}, k ≤ 21 → rm.frames + 1 ≤ R.frames ∧ 8 + (k + 11) + rm.locals ≤ R.locals) :
    ∀ q ∈ tb_M_literal call, am_Row (am_J p l e R s m args below meth c 3 D aCl ρ kc len (MQ below Qc args s 0 0 (am_A ρ len s.heap.size))) (am_K s args D aCl ρ kc len Qc) q.1 q.2 := by
  unfold tb_M_literal
  refine am_cons (ar_aload_n C d_M_literal_0 rfl) ?_
  refine am_cons (ar_iconst C d_M_literal_1 (by decide)) ?_
  refine am_cons (ar_aload_n C d_M_literal_2 rfl) ?_
  refine am_cons (ar_getf C d_M_literal_3 (am_uc ft_Mu) rfl (by decide) (am_mc wt_358)) ?_
  refine am_cons (ar_imul C d_M_literal_6) ?_
  refine am_cons (ar_iconst C d_M_literal_7 (by decide)) ?_
  refine am_cons (ar_iadd C d_M_literal_8) ?_
  refine am_cons (ar_callV C d_M_literal_9 (hce 5 ⟨"DesignTextsModel", "number", "(I)I"⟩ rw_M_number rfl) rfl (am_gv wt_359 wt_360 wt_361 wt_350 wt_313) rfl (by decide +kernel) hrm (hR (by decide))) ?_
  refine am_cons (ar_istore_n C d_M_literal_12 rfl) ?_
  refine am_cons (ar_aload_n C d_M_literal_13 rfl) ?_
  refine am_cons (ar_getf C d_M_literal_14 (am_uc ft_Mu) rfl (by decide) (am_mc wt_345)) ?_
  refine am_cons (ar_iconst C d_M_literal_17 (by decide)) ?_
  refine am_cons (ar_icmp_ne C d_M_literal_18 (by decide)) ?_
  refine am_cons (ar_iload_n C d_M_literal_21 rfl) ?_
  refine am_cons (ar_if_eq C d_M_literal_22 (by decide)) ?_
  refine am_cons (ar_aload_n C d_M_literal_25 rfl) ?_
  refine am_cons (ar_getf C d_M_literal_26 (am_uc ft_Mu) rfl (by decide) (am_mc wt_362)) ?_
  refine am_cons (ar_aload_n C d_M_literal_29 rfl) ?_
  refine am_cons (ar_getf C d_M_literal_30 (am_uc ft_Mu) rfl (by decide) (am_mc wt_363)) ?_
  refine am_cons (ar_iload_n C d_M_literal_33 rfl) ?_
  refine am_cons (ar_iast C d_M_literal_34 rfl) ?_
  refine am_cons (ar_aload_n C d_M_literal_35 rfl) ?_
  refine am_cons (ar_getf C d_M_literal_36 (am_uc ft_Mu) rfl (by decide) (am_mc wt_364)) ?_
  refine am_cons (ar_aload_n C d_M_literal_39 rfl) ?_
  refine am_cons (ar_getf C d_M_literal_40 (am_uc ft_Mu) rfl (by decide) (am_mc wt_363)) ?_
  refine am_cons (ar_aload_n C d_M_literal_43 rfl) ?_
  refine am_cons (ar_getf C d_M_literal_44 (am_uc ft_Mu) rfl (by decide) (am_mc wt_354)) ?_
  refine am_cons (ar_iast C d_M_literal_47 rfl) ?_
  refine am_cons (ar_aload_n C d_M_literal_48 rfl) ?_
  refine am_cons (ar_dup C d_M_literal_49) ?_
  refine am_cons (ar_getf C d_M_literal_50 (am_uc ft_Mu) rfl (by decide) (am_mc wt_363)) ?_
  refine am_cons (ar_iconst C d_M_literal_53 (by decide)) ?_
  refine am_cons (ar_iadd C d_M_literal_54) ?_
  refine am_cons (ar_putI C d_M_literal_55 (am_uc ft_Mu) ft_Mo ft_Mn rfl (by decide) (am_mc wt_363) rfl (by decide +kernel)) ?_
  refine am_cons (ar_iload_n C d_M_literal_58 rfl) ?_
  refine am_cons (ar_ireturn C hr d_M_literal_59) ?_
  exact am_nil
theorem sd_M_define {p : Program} {l : Launch} {e : Env} {R : Room} {s : State} {m : MethodId} {args : Array Value} {below : List Frame} {meth : Method} {c : Code} {D : va_G} {ρ : Nat → Nat} {kc : Nat → ClassId} {len : Nat} {Qc : Array Value → State → Outcome → State → Prop} {call : am_C} {rm : Room} (C : am_Cx p R s m args meth c prog_7_method_10_code 2 rw_M_define "DesignTextsModel" D aCl ρ kc am_fts len) (hr : meth.sig.returnType = some .int)
    (hce : ∀ (id : Nat) (y : MethodName) (ws : List Cond), rPI[id]? = some (y, ws) → am_Ce l call rm D aCl ρ kc am_fts len id y ws) (hrm : rm.cells = 0 ∧ rm.slots = 0) (hR : ∀ {k : Nat}, k ≤ 21 → rm.frames + 1 ≤ R.frames ∧ 8 + (k + 11) + rm.locals ≤ R.locals) :
    ∀ q ∈ tb_M_define call, am_Row (am_J p l e R s m args below meth c 2 D aCl ρ kc len (MQ below Qc args s 0 0 (am_A ρ len s.heap.size))) (am_K s args D aCl ρ kc len Qc) q.1 q.2 := by
  unfold tb_M_define
  refine am_cons (ar_aload_n C d_M_define_0 rfl) ?_
  refine am_cons (ar_iconst C d_M_define_1 (by decide)) ?_
  refine am_cons (ar_callV C d_M_define_2 (hce 6 ⟨"DesignTextsModel", "literal", "(Z)I"⟩ rw_M_literal rfl) rfl (am_gv wt_365 wt_366 wt_367 wt_350 wt_314) rfl (by decide +kernel) hrm (hR (by decide))) ?_
  refine am_cons (ar_istore_n C d_M_define_5 rfl) ?_
  refine am_cons (ar_aload_n C d_M_define_6 rfl) ?_
  refine am_cons (ar_getf C d_M_define_7 (am_uc ft_Mu) rfl (by decide) (am_mc wt_345)) ?_
  refine am_cons (ar_iconst C d_M_define_10 (by decide)) ?_
  refine am_cons (ar_icmp_eq C d_M_define_11 (by decide)) ?_
  refine am_cons (ar_iconst C d_M_define_14 (by decide)) ?_
  refine am_cons (ar_ireturn C hr d_M_define_15) ?_
  refine am_cons (ar_iload_n C d_M_define_16 rfl) ?_
  refine am_cons (ar_iconst C d_M_define_17 (by decide)) ?_
  refine am_cons (ar_irem C d_M_define_18) ?_
  refine am_cons (ar_iconst C d_M_define_19 (by decide)) ?_
  refine am_cons (ar_icmp_eq C d_M_define_20 (by decide)) ?_
  refine am_cons (ar_iload_n C d_M_define_23 rfl) ?_
  refine am_cons (ar_if_eq C d_M_define_24 (by decide)) ?_
  refine am_cons (ar_aload_n C d_M_define_27 rfl) ?_
  refine am_cons (ar_getf C d_M_define_28 (am_uc ft_Mu) rfl (by decide) (am_mc wt_368)) ?_
  refine am_cons (ar_iload_n C d_M_define_31 rfl) ?_
  refine am_cons (ar_iconst C d_M_define_32 (by decide)) ?_
  refine am_cons (ar_idiv C d_M_define_33) ?_
  refine am_cons (ar_zald C d_M_define_34 rfl) ?_
  refine am_cons (ar_if_eq C d_M_define_35 (by decide)) ?_
  refine am_cons (ar_keep [0] (ar_aload_n C d_M_define_38 rfl)) ?_
  refine am_cons (ar_aload_n C d_M_define_39 rfl) ?_
  refine am_cons (ar_getf C d_M_define_40 (am_uc ft_Mu) rfl (by decide) (am_mc wt_354)) ?_
  refine am_cons (ar_callV C d_M_define_43 (hce 2 ⟨"DesignTextsModel", "bad", "(I)V"⟩ rw_M_bad rfl) rfl (am_gv wt_351 wt_352 wt_353 wt_350 wt_310) rfl (by decide +kernel) hrm (hR (by decide))) ?_
  refine am_cons (ar_iconst C d_M_define_46 (by decide)) ?_
  refine am_cons (ar_ireturn C hr d_M_define_47) ?_
  refine am_cons (ar_aload_n C d_M_define_48 rfl) ?_
  refine am_cons (ar_getf C d_M_define_49 (am_uc ft_Mu) rfl (by decide) (am_mc wt_368)) ?_
  refine am_cons (ar_iload_n C d_M_define_52 rfl) ?_
  refine am_cons (ar_iconst C d_M_define_53 (by decide)) ?_
  refine am_cons (ar_idiv C d_M_define_54) ?_
  refine am_cons (ar_iconst C d_M_define_55 (by decide)) ?_
  refine am_cons (ar_zast C d_M_define_56 rfl) ?_
  refine am_cons (ar_iload_n C d_M_define_57 rfl) ?_
  refine am_cons (ar_ireturn C hr d_M_define_58) ?_
  exact am_nil
theorem sd_M_header {p : Program} {l : Launch} {e : Env} {R : Room} {s : State} {m : MethodId} {args : Array Value} {below : List Frame} {meth : Method} {c : Code} {D : va_G} {ρ : Nat → Nat} {kc : Nat → ClassId} {len : Nat} {Qc : Array Value → State → Outcome → State → Prop} {call : am_C} {rm : Room} (C : am_Cx p R s m args meth c prog_7_method_11_code 3 rw_M_header "DesignTextsModel" D aCl ρ kc am_fts len) (hr : meth.sig.returnType = none)
    (hce : ∀ (id : Nat) (y : MethodName) (ws : List Cond), rPI[id]? = some (y, ws) → am_Ce l call rm D aCl ρ kc am_fts len id y ws) (hrm : rm.cells = 0 ∧ rm.slots = 0) (hR : ∀ {k : Nat}, k ≤ 21 → rm.frames + 1 ≤ R.frames ∧ 8 + (k + 11) + rm.locals ≤ R.locals) :
    ∀ q ∈ tb_M_header call, am_Row (am_J p l e R s m args below meth c 3 D aCl ρ kc len (MQ below Qc args s 0 0 (am_A ρ len s.heap.size))) (am_K s args D aCl ρ kc len Qc) q.1 q.2 := by
  unfold tb_M_header
  refine am_cons (ar_aload_n C d_M_header_0 rfl) ?_
  refine am_cons (ar_bipush C d_M_header_1 (by decide)) ?_
  refine am_cons (ar_callV C d_M_header_3 (hce 3 ⟨"DesignTextsModel", "take", "(I)V"⟩ rw_M_take rfl) rfl (am_gv wt_369 wt_370 wt_371 wt_350 wt_311) rfl (by decide +kernel) hrm (hR (by decide))) ?_
  refine am_cons (ar_aload_n C d_M_header_6 rfl) ?_
  refine am_cons (ar_iload_n C d_M_header_7 rfl) ?_
  refine am_cons (ar_if_eq C d_M_header_8 (by decide)) ?_
  refine am_cons (ar_bipush C d_M_header_11 (by decide)) ?_
  refine am_cons (ar_goto C d_M_header_13 (by decide)) ?_
  refine am_cons (ar_bipush C d_M_header_16 (by decide)) ?_
  refine am_cons (ar_keep [0, 1] (ar_callV C d_M_header_18 (hce 3 ⟨"DesignTextsModel", "take", "(I)V"⟩ rw_M_take rfl) rfl (am_gv wt_369 wt_370 wt_371 wt_350 wt_311) rfl (by decide +kernel) hrm (hR (by decide)))) ?_
  refine am_cons (ar_aload_n C d_M_header_21 rfl) ?_
  refine am_cons (ar_bipush C d_M_header_22 (by decide)) ?_
  refine am_cons (ar_callV C d_M_header_24 (hce 3 ⟨"DesignTextsModel", "take", "(I)V"⟩ rw_M_take rfl) rfl (am_gv wt_369 wt_370 wt_371 wt_350 wt_311) rfl (by decide +kernel) hrm (hR (by decide))) ?_
  refine am_cons (ar_aload_n C d_M_header_27 rfl) ?_
  refine am_cons (ar_bipush C d_M_header_28 (by decide)) ?_
  refine am_cons (ar_callV C d_M_header_30 (hce 3 ⟨"DesignTextsModel", "take", "(I)V"⟩ rw_M_take rfl) rfl (am_gv wt_369 wt_370 wt_371 wt_350 wt_311) rfl (by decide +kernel) hrm (hR (by decide))) ?_
  refine am_cons (ar_aload_n C d_M_header_33 rfl) ?_
  refine am_cons (ar_aload_n C d_M_header_34 rfl) ?_
  refine am_cons (ar_bipush C d_M_header_35 (by decide)) ?_
  refine am_cons (ar_callV C d_M_header_37 (hce 5 ⟨"DesignTextsModel", "number", "(I)I"⟩ rw_M_number rfl) rfl (am_gv wt_359 wt_360 wt_361 wt_350 wt_313) rfl (by decide +kernel) hrm (hR (by decide))) ?_
  refine am_cons (ar_putI C d_M_header_40 (am_uc ft_Mu) ft_Mo ft_Mn rfl (by decide) (am_mc wt_358) rfl (by decide +kernel)) ?_
  refine am_cons (ar_iconst C d_M_header_43 (by decide)) ?_
  refine am_cons (ar_istore_n C d_M_header_44 rfl) ?_
  refine am_cons (ar_keep [0, 1, 2] (ar_iload_n C d_M_header_45 rfl)) ?_
  refine am_cons (ar_iconst C d_M_header_46 (by decide)) ?_
  refine am_cons (ar_icmp_ge C d_M_header_47 (by decide)) ?_
  refine am_cons (ar_aload_n C d_M_header_50 rfl) ?_
  refine am_cons (ar_bipush C d_M_header_51 (by decide)) ?_
  refine am_cons (ar_callV C d_M_header_53 (hce 3 ⟨"DesignTextsModel", "take", "(I)V"⟩ rw_M_take rfl) rfl (am_gv wt_369 wt_370 wt_371 wt_350 wt_311) rfl (by decide +kernel) hrm (hR (by decide))) ?_
  refine am_cons (ar_aload_n C d_M_header_56 rfl) ?_
  refine am_cons (ar_getf C d_M_header_57 (am_uc ft_Mu) rfl (by decide) (am_mc wt_372)) ?_
  refine am_cons (ar_iload_n C d_M_header_60 rfl) ?_
  refine am_cons (ar_aload_n C d_M_header_61 rfl) ?_
  refine am_cons (ar_iload_n C d_M_header_62 rfl) ?_
  refine am_cons (ar_iconst C d_M_header_63 (by decide)) ?_
  refine am_cons (ar_icmp_ge C d_M_header_64 (by decide)) ?_
  refine am_cons (ar_bipush C d_M_header_67 (by decide)) ?_
  refine am_cons (ar_goto C d_M_header_69 (by decide)) ?_
  refine am_cons (ar_bipush C d_M_header_72 (by decide)) ?_
  refine am_cons (ar_callV C d_M_header_74 (hce 5 ⟨"DesignTextsModel", "number", "(I)I"⟩ rw_M_number rfl) rfl (am_gv wt_359 wt_360 wt_361 wt_350 wt_313) rfl (by decide +kernel) hrm (hR (by decide))) ?_
  refine am_cons (ar_iast C d_M_header_77 rfl) ?_
  refine am_cons (ar_iinc C d_M_header_78 (by decide)) ?_
  refine am_cons (ar_goto C d_M_header_81 (by decide)) ?_
  refine am_cons (ar_keep [0, 1] (ar_aload_n C d_M_header_84 rfl)) ?_
  refine am_cons (ar_getf C d_M_header_85 (am_uc ft_Mu) rfl (by decide) (am_mc wt_372)) ?_
  refine am_cons (ar_iconst C d_M_header_88 (by decide)) ?_
  refine am_cons (ar_iald C d_M_header_89 rfl) ?_
  refine am_cons (ar_aload_n C d_M_header_90 rfl) ?_
  refine am_cons (ar_getf C d_M_header_91 (am_uc ft_Mu) rfl (by decide) (am_mc wt_372)) ?_
  refine am_cons (ar_iconst C d_M_header_94 (by decide)) ?_
  refine am_cons (ar_iald C d_M_header_95 rfl) ?_
  refine am_cons (ar_iadd C d_M_header_96) ?_
  refine am_cons (ar_aload_n C d_M_header_97 rfl) ?_
  refine am_cons (ar_getf C d_M_header_98 (am_uc ft_Mu) rfl (by decide) (am_mc wt_372)) ?_
  refine am_cons (ar_iconst C d_M_header_101 (by decide)) ?_
  refine am_cons (ar_iald C d_M_header_102 rfl) ?_
  refine am_cons (ar_iadd C d_M_header_103) ?_
  refine am_cons (ar_istore_n C d_M_header_104 rfl) ?_
  refine am_cons (ar_aload_n C d_M_header_105 rfl) ?_
  refine am_cons (ar_getf C d_M_header_106 (am_uc ft_Mu) rfl (by decide) (am_mc wt_345)) ?_
  refine am_cons (ar_iconst C d_M_header_109 (by decide)) ?_
  refine am_cons (ar_icmp_ne C d_M_header_110 (by decide)) ?_
  refine am_cons (ar_iload_n C d_M_header_113 rfl) ?_
  refine am_cons (ar_if_eq C d_M_header_114 (by decide)) ?_
  refine am_cons (ar_iload_n C d_M_header_117 rfl) ?_
  refine am_cons (ar_aload_n C d_M_header_118 rfl) ?_
  refine am_cons (ar_getf C d_M_header_119 (am_uc ft_Mu) rfl (by decide) (am_mc wt_358)) ?_
  refine am_cons (ar_icmp_eq C d_M_header_122 (by decide)) ?_
  refine am_cons (ar_goto C d_M_header_125 (by decide)) ?_
  refine am_cons (ar_iload_n C d_M_header_128 rfl) ?_
  refine am_cons (ar_aload_n C d_M_header_129 rfl) ?_
  refine am_cons (ar_getf C d_M_header_130 (am_uc ft_Mu) rfl (by decide) (am_mc wt_358)) ?_
  refine am_cons (ar_icmp_le C d_M_header_133 (by decide)) ?_
  refine am_cons (ar_keep [0] (ar_aload_n C d_M_header_136 rfl)) ?_
  refine am_cons (ar_aload_n C d_M_header_137 rfl) ?_
  refine am_cons (ar_getf C d_M_header_138 (am_uc ft_Mu) rfl (by decide) (am_mc wt_354)) ?_
  refine am_cons (ar_callV C d_M_header_141 (hce 2 ⟨"DesignTextsModel", "bad", "(I)V"⟩ rw_M_bad rfl) rfl (am_gv wt_351 wt_352 wt_353 wt_350 wt_310) rfl (by decide +kernel) hrm (hR (by decide))) ?_
  refine am_cons (ar_keep [0] (ar_aload_n C d_M_header_144 rfl)) ?_
  refine am_cons (ar_bipush C d_M_header_145 (by decide)) ?_
  refine am_cons (ar_callV C d_M_header_147 (hce 3 ⟨"DesignTextsModel", "take", "(I)V"⟩ rw_M_take rfl) rfl (am_gv wt_369 wt_370 wt_371 wt_350 wt_311) rfl (by decide +kernel) hrm (hR (by decide))) ?_
  refine am_cons (ar_return C hr d_M_header_150) ?_
  exact am_nil
theorem sd_M_latchRest {p : Program} {l : Launch} {e : Env} {R : Room} {s : State} {m : MethodId} {args : Array Value} {below : List Frame} {meth : Method} {c : Code} {D : va_G} {ρ : Nat → Nat} {kc : Nat → ClassId} {len : Nat} {Qc : Array Value → State → Outcome → State → Prop} {call : am_C} {rm : Room} (C : am_Cx p R s m args meth c prog_7_method_12_code 2 rw_M_latchRest "DesignTextsModel" D aCl ρ kc am_fts len) (hr : meth.sig.returnType = none)
    (hce : ∀ (id : Nat) (y : MethodName) (ws : List Cond), rPI[id]? = some (y, ws) → am_Ce l call rm D aCl ρ kc am_fts len id y ws) (hrm : rm.cells = 0 ∧ rm.slots = 0) (hR : ∀ {k : Nat}, k ≤ 21 → rm.frames + 1 ≤ R.frames ∧ 8 + (k + 11) + rm.locals ≤ R.locals) :
    ∀ q ∈ tb_M_latchRest call, am_Row (am_J p l e R s m args below meth c 2 D aCl ρ kc len (MQ below Qc args s 0 0 (am_A ρ len s.heap.size))) (am_K s args D aCl ρ kc len Qc) q.1 q.2 := by
  unfold tb_M_latchRest
  refine am_cons (ar_aload_n C d_M_latchRest_0 rfl) ?_
  refine am_cons (ar_getf C d_M_latchRest_1 (am_uc ft_Mu) rfl (by decide) (am_mc wt_373)) ?_
  refine am_cons (ar_iload_n C d_M_latchRest_4 rfl) ?_
  refine am_cons (ar_aload_n C d_M_latchRest_5 rfl) ?_
  refine am_cons (ar_iconst C d_M_latchRest_6 (by decide)) ?_
  refine am_cons (ar_callV C d_M_latchRest_7 (hce 6 ⟨"DesignTextsModel", "literal", "(Z)I"⟩ rw_M_literal rfl) rfl (am_gv wt_365 wt_366 wt_367 wt_350 wt_314) rfl (by decide +kernel) hrm (hR (by decide))) ?_
  refine am_cons (ar_iast C d_M_latchRest_10 rfl) ?_
  refine am_cons (ar_aload_n C d_M_latchRest_11 rfl) ?_
  refine am_cons (ar_getf C d_M_latchRest_12 (am_uc ft_Mu) rfl (by decide) (am_mc wt_374)) ?_
  refine am_cons (ar_iload_n C d_M_latchRest_15 rfl) ?_
  refine am_cons (ar_iconst C d_M_latchRest_16 (by decide)) ?_
  refine am_cons (ar_iast C d_M_latchRest_17 rfl) ?_
  refine am_cons (ar_aload_n C d_M_latchRest_18 rfl) ?_
  refine am_cons (ar_getf C d_M_latchRest_19 (am_uc ft_Mu) rfl (by decide) (am_mc wt_345)) ?_
  refine am_cons (ar_iconst C d_M_latchRest_22 (by decide)) ?_
  refine am_cons (ar_icmp_ne C d_M_latchRest_23 (by decide)) ?_
  refine am_cons (ar_aload_n C d_M_latchRest_26 rfl) ?_
  refine am_cons (ar_aload_n C d_M_latchRest_27 rfl) ?_
  refine am_cons (ar_getf C d_M_latchRest_28 (am_uc ft_Mu) rfl (by decide) (am_mc wt_346)) ?_
  refine am_cons (ar_callV C d_M_latchRest_31 (hce 1 ⟨"DesignTextsModel", "byteAt", "(I)I"⟩ rw_M_byteAt rfl) rfl (am_gv wt_347 wt_348 wt_349 wt_350 wt_309) rfl (by decide +kernel) hrm (hR (by decide))) ?_
  refine am_cons (ar_bipush C d_M_latchRest_34 (by decide)) ?_
  refine am_cons (ar_icmp_ne C d_M_latchRest_36 (by decide)) ?_
  refine am_cons (ar_aload_n C d_M_latchRest_39 rfl) ?_
  refine am_cons (ar_dup C d_M_latchRest_40) ?_
  refine am_cons (ar_getf C d_M_latchRest_41 (am_uc ft_Mu) rfl (by decide) (am_mc wt_346)) ?_
  refine am_cons (ar_iconst C d_M_latchRest_44 (by decide)) ?_
  refine am_cons (ar_iadd C d_M_latchRest_45) ?_
  refine am_cons (ar_putI C d_M_latchRest_46 (am_uc ft_Mu) ft_Mo ft_Mn rfl (by decide) (am_mc wt_346) rfl (by decide +kernel)) ?_
  refine am_cons (ar_aload_n C d_M_latchRest_49 rfl) ?_
  refine am_cons (ar_getf C d_M_latchRest_50 (am_uc ft_Mu) rfl (by decide) (am_mc wt_374)) ?_
  refine am_cons (ar_iload_n C d_M_latchRest_53 rfl) ?_
  refine am_cons (ar_aload_n C d_M_latchRest_54 rfl) ?_
  refine am_cons (ar_iconst C d_M_latchRest_55 (by decide)) ?_
  refine am_cons (ar_callV C d_M_latchRest_56 (hce 5 ⟨"DesignTextsModel", "number", "(I)I"⟩ rw_M_number rfl) rfl (am_gv wt_359 wt_360 wt_361 wt_350 wt_313) rfl (by decide +kernel) hrm (hR (by decide))) ?_
  refine am_cons (ar_iast C d_M_latchRest_59 rfl) ?_
  refine am_cons (ar_keep [0] (ar_aload_n C d_M_latchRest_60 rfl)) ?_
  refine am_cons (ar_bipush C d_M_latchRest_61 (by decide)) ?_
  refine am_cons (ar_callV C d_M_latchRest_63 (hce 3 ⟨"DesignTextsModel", "take", "(I)V"⟩ rw_M_take rfl) rfl (am_gv wt_369 wt_370 wt_371 wt_350 wt_311) rfl (by decide +kernel) hrm (hR (by decide))) ?_
  refine am_cons (ar_return C hr d_M_latchRest_66) ?_
  exact am_nil
theorem sd_M_plainBody {p : Program} {l : Launch} {e : Env} {R : Room} {s : State} {m : MethodId} {args : Array Value} {below : List Frame} {meth : Method} {c : Code} {D : va_G} {ρ : Nat → Nat} {kc : Nat → ClassId} {len : Nat} {Qc : Array Value → State → Outcome → State → Prop} {call : am_C} {rm : Room} (C : am_Cx p R s m args meth c prog_7_method_13_code 2 rw_M_plainBody "DesignTextsModel" D aCl ρ kc am_fts len) (hr : meth.sig.returnType = none)
    (hce : ∀ (id : Nat) (y : MethodName) (ws : List Cond), rPI[id]? = some (y, ws) → am_Ce l call rm D aCl ρ kc am_fts len id y ws) (hrm : rm.cells = 0 ∧ rm.slots = 0) (hR : ∀ {k : Nat}, k ≤ 21 → rm.frames + 1 ≤ R.frames ∧ 8 + (k + 11) + rm.locals ≤ R.locals) :
    ∀ q ∈ tb_M_plainBody call, am_Row (am_J p l e R s m args below meth c 2 D aCl ρ kc len (MQ below Qc args s 0 0 (am_A ρ len s.heap.size))) (am_K s args D aCl ρ kc len Qc) q.1 q.2 := by
  unfold tb_M_plainBody
  refine am_cons (ar_iconst C d_M_plainBody_0 (by decide)) ?_
  refine am_cons (ar_istore_n C d_M_plainBody_1 rfl) ?_
  refine am_cons (ar_keep [0, 1] (ar_iload_n C d_M_plainBody_2 rfl)) ?_
  refine am_cons (ar_aload_n C d_M_plainBody_3 rfl) ?_
  refine am_cons (ar_getf C d_M_plainBody_4 (am_uc ft_Mu) rfl (by decide) (am_mc wt_372)) ?_
  refine am_cons (ar_iconst C d_M_plainBody_7 (by decide)) ?_
  refine am_cons (ar_iald C d_M_plainBody_8 rfl) ?_
  refine am_cons (ar_icmp_ge C d_M_plainBody_9 (by decide)) ?_
  refine am_cons (ar_aload_n C d_M_plainBody_12 rfl) ?_
  refine am_cons (ar_getf C d_M_plainBody_13 (am_uc ft_Mu) rfl (by decide) (am_mc wt_345)) ?_
  refine am_cons (ar_iconst C d_M_plainBody_16 (by decide)) ?_
  refine am_cons (ar_icmp_ne C d_M_plainBody_17 (by decide)) ?_
  refine am_cons (ar_aload_n C d_M_plainBody_20 rfl) ?_
  refine am_cons (ar_getf C d_M_plainBody_21 (am_uc ft_Mu) rfl (by decide) (am_mc wt_375)) ?_
  refine am_cons (ar_iload_n C d_M_plainBody_24 rfl) ?_
  refine am_cons (ar_aload_n C d_M_plainBody_25 rfl) ?_
  refine am_cons (ar_callV C d_M_plainBody_26 (hce 7 ⟨"DesignTextsModel", "define", "()I"⟩ rw_M_define rfl) rfl (am_gv wt_376 wt_377 wt_378 wt_350 wt_315) rfl (by decide +kernel) hrm (hR (by decide))) ?_
  refine am_cons (ar_iast C d_M_plainBody_29 rfl) ?_
  refine am_cons (ar_aload_n C d_M_plainBody_30 rfl) ?_
  refine am_cons (ar_bipush C d_M_plainBody_31 (by decide)) ?_
  refine am_cons (ar_callV C d_M_plainBody_33 (hce 3 ⟨"DesignTextsModel", "take", "(I)V"⟩ rw_M_take rfl) rfl (am_gv wt_369 wt_370 wt_371 wt_350 wt_311) rfl (by decide +kernel) hrm (hR (by decide))) ?_
  refine am_cons (ar_iinc C d_M_plainBody_36 (by decide)) ?_
  refine am_cons (ar_goto C d_M_plainBody_39 (by decide)) ?_
  refine am_cons (ar_keep [0] (ar_iconst C d_M_plainBody_42 (by decide))) ?_
  refine am_cons (ar_istore_n C d_M_plainBody_43 rfl) ?_
  refine am_cons (ar_keep [0, 1] (ar_iload_n C d_M_plainBody_44 rfl)) ?_
  refine am_cons (ar_aload_n C d_M_plainBody_45 rfl) ?_
  refine am_cons (ar_getf C d_M_plainBody_46 (am_uc ft_Mu) rfl (by decide) (am_mc wt_372)) ?_
  refine am_cons (ar_iconst C d_M_plainBody_49 (by decide)) ?_
  refine am_cons (ar_iald C d_M_plainBody_50 rfl) ?_
  refine am_cons (ar_icmp_ge C d_M_plainBody_51 (by decide)) ?_
  refine am_cons (ar_aload_n C d_M_plainBody_54 rfl) ?_
  refine am_cons (ar_getf C d_M_plainBody_55 (am_uc ft_Mu) rfl (by decide) (am_mc wt_345)) ?_
  refine am_cons (ar_iconst C d_M_plainBody_58 (by decide)) ?_
  refine am_cons (ar_icmp_ne C d_M_plainBody_59 (by decide)) ?_
  refine am_cons (ar_aload_n C d_M_plainBody_62 rfl) ?_
  refine am_cons (ar_getf C d_M_plainBody_63 (am_uc ft_Mu) rfl (by decide) (am_mc wt_379)) ?_
  refine am_cons (ar_iload_n C d_M_plainBody_66 rfl) ?_
  refine am_cons (ar_aload_n C d_M_plainBody_67 rfl) ?_
  refine am_cons (ar_callV C d_M_plainBody_68 (hce 7 ⟨"DesignTextsModel", "define", "()I"⟩ rw_M_define rfl) rfl (am_gv wt_376 wt_377 wt_378 wt_350 wt_315) rfl (by decide +kernel) hrm (hR (by decide))) ?_
  refine am_cons (ar_iast C d_M_plainBody_71 rfl) ?_
  refine am_cons (ar_aload_n C d_M_plainBody_72 rfl) ?_
  refine am_cons (ar_bipush C d_M_plainBody_73 (by decide)) ?_
  refine am_cons (ar_callV C d_M_plainBody_75 (hce 3 ⟨"DesignTextsModel", "take", "(I)V"⟩ rw_M_take rfl) rfl (am_gv wt_369 wt_370 wt_371 wt_350 wt_311) rfl (by decide +kernel) hrm (hR (by decide))) ?_
  refine am_cons (ar_aload_n C d_M_plainBody_78 rfl) ?_
  refine am_cons (ar_iload_n C d_M_plainBody_79 rfl) ?_
  refine am_cons (ar_callV C d_M_plainBody_80 (hce 9 ⟨"DesignTextsModel", "latchRest", "(I)V"⟩ rw_M_latchRest rfl) rfl (am_gv wt_380 wt_381 wt_382 wt_350 wt_317) rfl (by decide +kernel) hrm (hR (by decide))) ?_
  refine am_cons (ar_iinc C d_M_plainBody_83 (by decide)) ?_
  refine am_cons (ar_goto C d_M_plainBody_86 (by decide)) ?_
  refine am_cons (ar_keep [0] (ar_iconst C d_M_plainBody_89 (by decide))) ?_
  refine am_cons (ar_istore_n C d_M_plainBody_90 rfl) ?_
  refine am_cons (ar_keep [0, 1] (ar_iload_n C d_M_plainBody_91 rfl)) ?_
  refine am_cons (ar_aload_n C d_M_plainBody_92 rfl) ?_
  refine am_cons (ar_getf C d_M_plainBody_93 (am_uc ft_Mu) rfl (by decide) (am_mc wt_372)) ?_
  refine am_cons (ar_iconst C d_M_plainBody_96 (by decide)) ?_
  refine am_cons (ar_iald C d_M_plainBody_97 rfl) ?_
  refine am_cons (ar_icmp_ge C d_M_plainBody_98 (by decide)) ?_
  refine am_cons (ar_aload_n C d_M_plainBody_101 rfl) ?_
  refine am_cons (ar_getf C d_M_plainBody_102 (am_uc ft_Mu) rfl (by decide) (am_mc wt_345)) ?_
  refine am_cons (ar_iconst C d_M_plainBody_105 (by decide)) ?_
  refine am_cons (ar_icmp_ne C d_M_plainBody_106 (by decide)) ?_
  refine am_cons (ar_aload_n C d_M_plainBody_109 rfl) ?_
  refine am_cons (ar_getf C d_M_plainBody_110 (am_uc ft_Mu) rfl (by decide) (am_mc wt_383)) ?_
  refine am_cons (ar_iload_n C d_M_plainBody_113 rfl) ?_
  refine am_cons (ar_aload_n C d_M_plainBody_114 rfl) ?_
  refine am_cons (ar_iconst C d_M_plainBody_115 (by decide)) ?_
  refine am_cons (ar_callV C d_M_plainBody_116 (hce 6 ⟨"DesignTextsModel", "literal", "(Z)I"⟩ rw_M_literal rfl) rfl (am_gv wt_365 wt_366 wt_367 wt_350 wt_314) rfl (by decide +kernel) hrm (hR (by decide))) ?_
  refine am_cons (ar_iast C d_M_plainBody_119 rfl) ?_
  refine am_cons (ar_aload_n C d_M_plainBody_120 rfl) ?_
  refine am_cons (ar_bipush C d_M_plainBody_121 (by decide)) ?_
  refine am_cons (ar_callV C d_M_plainBody_123 (hce 3 ⟨"DesignTextsModel", "take", "(I)V"⟩ rw_M_take rfl) rfl (am_gv wt_369 wt_370 wt_371 wt_350 wt_311) rfl (by decide +kernel) hrm (hR (by decide))) ?_
  refine am_cons (ar_iinc C d_M_plainBody_126 (by decide)) ?_
  refine am_cons (ar_goto C d_M_plainBody_129 (by decide)) ?_
  refine am_cons (ar_keep [0] (ar_iconst C d_M_plainBody_132 (by decide))) ?_
  refine am_cons (ar_istore_n C d_M_plainBody_133 rfl) ?_
  refine am_cons (ar_keep [0, 1] (ar_iload_n C d_M_plainBody_134 rfl)) ?_
  refine am_cons (ar_aload_n C d_M_plainBody_135 rfl) ?_
  refine am_cons (ar_getf C d_M_plainBody_136 (am_uc ft_Mu) rfl (by decide) (am_mc wt_372)) ?_
  refine am_cons (ar_iconst C d_M_plainBody_139 (by decide)) ?_
  refine am_cons (ar_iald C d_M_plainBody_140 rfl) ?_
  refine am_cons (ar_icmp_ge C d_M_plainBody_141 (by decide)) ?_
  refine am_cons (ar_aload_n C d_M_plainBody_144 rfl) ?_
  refine am_cons (ar_getf C d_M_plainBody_145 (am_uc ft_Mu) rfl (by decide) (am_mc wt_345)) ?_
  refine am_cons (ar_iconst C d_M_plainBody_148 (by decide)) ?_
  refine am_cons (ar_icmp_ne C d_M_plainBody_149 (by decide)) ?_
  refine am_cons (ar_aload_n C d_M_plainBody_152 rfl) ?_
  refine am_cons (ar_getf C d_M_plainBody_153 (am_uc ft_Mu) rfl (by decide) (am_mc wt_384)) ?_
  refine am_cons (ar_iload_n C d_M_plainBody_156 rfl) ?_
  refine am_cons (ar_aload_n C d_M_plainBody_157 rfl) ?_
  refine am_cons (ar_callV C d_M_plainBody_158 (hce 7 ⟨"DesignTextsModel", "define", "()I"⟩ rw_M_define rfl) rfl (am_gv wt_376 wt_377 wt_378 wt_350 wt_315) rfl (by decide +kernel) hrm (hR (by decide))) ?_
  refine am_cons (ar_iast C d_M_plainBody_161 rfl) ?_
  refine am_cons (ar_aload_n C d_M_plainBody_162 rfl) ?_
  refine am_cons (ar_getf C d_M_plainBody_163 (am_uc ft_Mu) rfl (by decide) (am_mc wt_385)) ?_
  refine am_cons (ar_iload_n C d_M_plainBody_166 rfl) ?_
  refine am_cons (ar_aload_n C d_M_plainBody_167 rfl) ?_
  refine am_cons (ar_getf C d_M_plainBody_168 (am_uc ft_Mu) rfl (by decide) (am_mc wt_354)) ?_
  refine am_cons (ar_iast C d_M_plainBody_171 rfl) ?_
  refine am_cons (ar_aload_n C d_M_plainBody_172 rfl) ?_
  refine am_cons (ar_bipush C d_M_plainBody_173 (by decide)) ?_
  refine am_cons (ar_callV C d_M_plainBody_175 (hce 3 ⟨"DesignTextsModel", "take", "(I)V"⟩ rw_M_take rfl) rfl (am_gv wt_369 wt_370 wt_371 wt_350 wt_311) rfl (by decide +kernel) hrm (hR (by decide))) ?_
  refine am_cons (ar_aload_n C d_M_plainBody_178 rfl) ?_
  refine am_cons (ar_getf C d_M_plainBody_179 (am_uc ft_Mu) rfl (by decide) (am_mc wt_386)) ?_
  refine am_cons (ar_iload_n C d_M_plainBody_182 rfl) ?_
  refine am_cons (ar_aload_n C d_M_plainBody_183 rfl) ?_
  refine am_cons (ar_iconst C d_M_plainBody_184 (by decide)) ?_
  refine am_cons (ar_callV C d_M_plainBody_185 (hce 6 ⟨"DesignTextsModel", "literal", "(Z)I"⟩ rw_M_literal rfl) rfl (am_gv wt_365 wt_366 wt_367 wt_350 wt_314) rfl (by decide +kernel) hrm (hR (by decide))) ?_
  refine am_cons (ar_iast C d_M_plainBody_188 rfl) ?_
  refine am_cons (ar_aload_n C d_M_plainBody_189 rfl) ?_
  refine am_cons (ar_bipush C d_M_plainBody_190 (by decide)) ?_
  refine am_cons (ar_callV C d_M_plainBody_192 (hce 3 ⟨"DesignTextsModel", "take", "(I)V"⟩ rw_M_take rfl) rfl (am_gv wt_369 wt_370 wt_371 wt_350 wt_311) rfl (by decide +kernel) hrm (hR (by decide))) ?_
  refine am_cons (ar_aload_n C d_M_plainBody_195 rfl) ?_
  refine am_cons (ar_getf C d_M_plainBody_196 (am_uc ft_Mu) rfl (by decide) (am_mc wt_387)) ?_
  refine am_cons (ar_iload_n C d_M_plainBody_199 rfl) ?_
  refine am_cons (ar_aload_n C d_M_plainBody_200 rfl) ?_
  refine am_cons (ar_iconst C d_M_plainBody_201 (by decide)) ?_
  refine am_cons (ar_callV C d_M_plainBody_202 (hce 6 ⟨"DesignTextsModel", "literal", "(Z)I"⟩ rw_M_literal rfl) rfl (am_gv wt_365 wt_366 wt_367 wt_350 wt_314) rfl (by decide +kernel) hrm (hR (by decide))) ?_
  refine am_cons (ar_iast C d_M_plainBody_205 rfl) ?_
  refine am_cons (ar_aload_n C d_M_plainBody_206 rfl) ?_
  refine am_cons (ar_bipush C d_M_plainBody_207 (by decide)) ?_
  refine am_cons (ar_callV C d_M_plainBody_209 (hce 3 ⟨"DesignTextsModel", "take", "(I)V"⟩ rw_M_take rfl) rfl (am_gv wt_369 wt_370 wt_371 wt_350 wt_311) rfl (by decide +kernel) hrm (hR (by decide))) ?_
  refine am_cons (ar_iinc C d_M_plainBody_212 (by decide)) ?_
  refine am_cons (ar_goto C d_M_plainBody_215 (by decide)) ?_
  refine am_cons (ar_keep [] (ar_return C hr d_M_plainBody_218)) ?_
  exact am_nil
theorem sd_M_difference {p : Program} {l : Launch} {e : Env} {R : Room} {s : State} {m : MethodId} {args : Array Value} {below : List Frame} {meth : Method} {c : Code} {D : va_G} {ρ : Nat → Nat} {kc : Nat → ClassId} {len : Nat} {Qc : Array Value → State → Outcome → State → Prop} {call : am_C} {rm : Room} (C : am_Cx p R s m args meth c prog_7_method_14_code 7 rw_M_difference "DesignTextsModel" D aCl ρ kc am_fts len) (hr : meth.sig.returnType = some .int)
    (hce : ∀ (id : Nat) (y : MethodName) (ws : List Cond), rPI[id]? = some (y, ws) → am_Ce l call rm D aCl ρ kc am_fts len id y ws) (hrm : rm.cells = 0 ∧ rm.slots = 0) (hR : ∀ {k : Nat}, k ≤ 21 → rm.frames + 1 ≤ R.frames ∧ 8 + (k + 11) + rm.locals ≤ R.locals) :
    ∀ q ∈ tb_M_difference call, am_Row (am_J p l e R s m args below meth c 7 D aCl ρ kc len (MQ below Qc args s 0 0 (am_A ρ len s.heap.size))) (am_K s args D aCl ρ kc len Qc) q.1 q.2 := by
  unfold tb_M_difference
  refine am_cons (ar_aload_n C d_M_difference_0 rfl) ?_
  refine am_cons (ar_getf C d_M_difference_1 (am_uc ft_Mu) rfl (by decide) (am_mc wt_345)) ?_
  refine am_cons (ar_iconst C d_M_difference_4 (by decide)) ?_
  refine am_cons (ar_icmp_eq C d_M_difference_5 (by decide)) ?_
  refine am_cons (ar_iconst C d_M_difference_8 (by decide)) ?_
  refine am_cons (ar_ireturn C hr d_M_difference_9) ?_
  refine am_cons (ar_aload_n C d_M_difference_10 rfl) ?_
  refine am_cons (ar_getf C d_M_difference_11 (am_uc ft_Mu) rfl (by decide) (am_mc wt_346)) ?_
  refine am_cons (ar_istore_n C d_M_difference_14 rfl) ?_
  refine am_cons (ar_aload_n C d_M_difference_15 rfl) ?_
  refine am_cons (ar_aload_n C d_M_difference_16 rfl) ?_
  refine am_cons (ar_getf C d_M_difference_17 (am_uc ft_Mu) rfl (by decide) (am_mc wt_346)) ?_
  refine am_cons (ar_callV C d_M_difference_20 (hce 1 ⟨"DesignTextsModel", "byteAt", "(I)I"⟩ rw_M_byteAt rfl) rfl (am_gv wt_347 wt_348 wt_349 wt_350 wt_309) rfl (by decide +kernel) hrm (hR (by decide))) ?_
  refine am_cons (ar_istore C d_M_difference_23) ?_
  refine am_cons (ar_iload C d_M_difference_25) ?_
  refine am_cons (ar_iconst C d_M_difference_27 (by decide)) ?_
  refine am_cons (ar_icmp_ne C d_M_difference_28 (by decide)) ?_
  refine am_cons (ar_aload_n C d_M_difference_31 rfl) ?_
  refine am_cons (ar_aload_n C d_M_difference_32 rfl) ?_
  refine am_cons (ar_getf C d_M_difference_33 (am_uc ft_Mu) rfl (by decide) (am_mc wt_346)) ?_
  refine am_cons (ar_callV C d_M_difference_36 (hce 2 ⟨"DesignTextsModel", "bad", "(I)V"⟩ rw_M_bad rfl) rfl (am_gv wt_351 wt_352 wt_353 wt_350 wt_310) rfl (by decide +kernel) hrm (hR (by decide))) ?_
  refine am_cons (ar_iconst C d_M_difference_39 (by decide)) ?_
  refine am_cons (ar_ireturn C hr d_M_difference_40) ?_
  refine am_cons (ar_aload_n C d_M_difference_41 rfl) ?_
  refine am_cons (ar_dup C d_M_difference_42) ?_
  refine am_cons (ar_getf C d_M_difference_43 (am_uc ft_Mu) rfl (by decide) (am_mc wt_346)) ?_
  refine am_cons (ar_iconst C d_M_difference_46 (by decide)) ?_
  refine am_cons (ar_iadd C d_M_difference_47) ?_
  refine am_cons (ar_putI C d_M_difference_48 (am_uc ft_Mu) ft_Mo ft_Mn rfl (by decide) (am_mc wt_346) rfl (by decide +kernel)) ?_
  refine am_cons (ar_iload C d_M_difference_51) ?_
  refine am_cons (ar_bipush C d_M_difference_53 (by decide)) ?_
  refine am_cons (ar_iand C d_M_difference_55) ?_
  refine am_cons (ar_istore C d_M_difference_56) ?_
  refine am_cons (ar_iload C d_M_difference_58) ?_
  refine am_cons (ar_bipush C d_M_difference_60 (by decide)) ?_
  refine am_cons (ar_icmp_le C d_M_difference_62 (by decide)) ?_
  refine am_cons (ar_aload_n C d_M_difference_65 rfl) ?_
  refine am_cons (ar_aload_n C d_M_difference_66 rfl) ?_
  refine am_cons (ar_getf C d_M_difference_67 (am_uc ft_Mu) rfl (by decide) (am_mc wt_346)) ?_
  refine am_cons (ar_callV C d_M_difference_70 (hce 1 ⟨"DesignTextsModel", "byteAt", "(I)I"⟩ rw_M_byteAt rfl) rfl (am_gv wt_347 wt_348 wt_349 wt_350 wt_309) rfl (by decide +kernel) hrm (hR (by decide))) ?_
  refine am_cons (ar_istore C d_M_difference_73) ?_
  refine am_cons (ar_iload C d_M_difference_75) ?_
  refine am_cons (ar_iconst C d_M_difference_77 (by decide)) ?_
  refine am_cons (ar_icmp_lt C d_M_difference_78 (by decide)) ?_
  refine am_cons (ar_iload C d_M_difference_81) ?_
  refine am_cons (ar_bipush C d_M_difference_83 (by decide)) ?_
  refine am_cons (ar_icmp_le C d_M_difference_85 (by decide)) ?_
  refine am_cons (ar_keep [0] (ar_aload_n C d_M_difference_88 rfl)) ?_
  refine am_cons (ar_aload_n C d_M_difference_89 rfl) ?_
  refine am_cons (ar_getf C d_M_difference_90 (am_uc ft_Mu) rfl (by decide) (am_mc wt_346)) ?_
  refine am_cons (ar_callV C d_M_difference_93 (hce 2 ⟨"DesignTextsModel", "bad", "(I)V"⟩ rw_M_bad rfl) rfl (am_gv wt_351 wt_352 wt_353 wt_350 wt_310) rfl (by decide +kernel) hrm (hR (by decide))) ?_
  refine am_cons (ar_iconst C d_M_difference_96 (by decide)) ?_
  refine am_cons (ar_ireturn C hr d_M_difference_97) ?_
  refine am_cons (ar_iload C d_M_difference_98) ?_
  refine am_cons (ar_sipush C d_M_difference_100 (by decide)) ?_
  refine am_cons (ar_iload C d_M_difference_103) ?_
  refine am_cons (ar_imul C d_M_difference_105) ?_
  refine am_cons (ar_iadd C d_M_difference_106) ?_
  refine am_cons (ar_istore C d_M_difference_107) ?_
  refine am_cons (ar_aload_n C d_M_difference_109 rfl) ?_
  refine am_cons (ar_dup C d_M_difference_110) ?_
  refine am_cons (ar_getf C d_M_difference_111 (am_uc ft_Mu) rfl (by decide) (am_mc wt_346)) ?_
  refine am_cons (ar_iconst C d_M_difference_114 (by decide)) ?_
  refine am_cons (ar_iadd C d_M_difference_115) ?_
  refine am_cons (ar_putI C d_M_difference_116 (am_uc ft_Mu) ft_Mo ft_Mn rfl (by decide) (am_mc wt_346) rfl (by decide +kernel)) ?_
  refine am_cons (ar_keep [0, 1, 2, 3, 5] (ar_iload C d_M_difference_119)) ?_
  refine am_cons (ar_iload_n C d_M_difference_121 rfl) ?_
  refine am_cons (ar_icmp_lt C d_M_difference_122 (by decide)) ?_
  refine am_cons (ar_iload C d_M_difference_125) ?_
  refine am_cons (ar_iload_n C d_M_difference_127 rfl) ?_
  refine am_cons (ar_icmp_le C d_M_difference_128 (by decide)) ?_
  refine am_cons (ar_keep [0, 3, 5] (ar_aload_n C d_M_difference_131 rfl)) ?_
  refine am_cons (ar_iload_n C d_M_difference_132 rfl) ?_
  refine am_cons (ar_callV C d_M_difference_133 (hce 2 ⟨"DesignTextsModel", "bad", "(I)V"⟩ rw_M_bad rfl) rfl (am_gv wt_351 wt_352 wt_353 wt_350 wt_310) rfl (by decide +kernel) hrm (hR (by decide))) ?_
  refine am_cons (ar_iload C d_M_difference_136) ?_
  refine am_cons (ar_ireturn C hr d_M_difference_138) ?_
  exact am_nil
theorem sd_M_packedBody {p : Program} {l : Launch} {e : Env} {R : Room} {s : State} {m : MethodId} {args : Array Value} {below : List Frame} {meth : Method} {c : Code} {D : va_G} {ρ : Nat → Nat} {kc : Nat → ClassId} {len : Nat} {Qc : Array Value → State → Outcome → State → Prop} {call : am_C} {rm : Room} (C : am_Cx p R s m args meth c prog_7_method_15_code 3 rw_M_packedBody "DesignTextsModel" D aCl ρ kc am_fts len) (hr : meth.sig.returnType = none)
    (hce : ∀ (id : Nat) (y : MethodName) (ws : List Cond), rPI[id]? = some (y, ws) → am_Ce l call rm D aCl ρ kc am_fts len id y ws) (hrm : rm.cells = 0 ∧ rm.slots = 0) (hR : ∀ {k : Nat}, k ≤ 21 → rm.frames + 1 ≤ R.frames ∧ 8 + (k + 11) + rm.locals ≤ R.locals) :
    ∀ q ∈ tb_M_packedBody call, am_Row (am_J p l e R s m args below meth c 3 D aCl ρ kc len (MQ below Qc args s 0 0 (am_A ρ len s.heap.size))) (am_K s args D aCl ρ kc len Qc) q.1 q.2 := by
  unfold tb_M_packedBody
  refine am_cons (ar_iconst C d_M_packedBody_0 (by decide)) ?_
  refine am_cons (ar_istore_n C d_M_packedBody_1 rfl) ?_
  refine am_cons (ar_iconst C d_M_packedBody_2 (by decide)) ?_
  refine am_cons (ar_istore_n C d_M_packedBody_3 rfl) ?_
  refine am_cons (ar_keep [0, 1, 2] (ar_iload_n C d_M_packedBody_4 rfl)) ?_
  refine am_cons (ar_aload_n C d_M_packedBody_5 rfl) ?_
  refine am_cons (ar_getf C d_M_packedBody_6 (am_uc ft_Mu) rfl (by decide) (am_mc wt_372)) ?_
  refine am_cons (ar_iconst C d_M_packedBody_9 (by decide)) ?_
  refine am_cons (ar_iald C d_M_packedBody_10 rfl) ?_
  refine am_cons (ar_icmp_ge C d_M_packedBody_11 (by decide)) ?_
  refine am_cons (ar_aload_n C d_M_packedBody_14 rfl) ?_
  refine am_cons (ar_getf C d_M_packedBody_15 (am_uc ft_Mu) rfl (by decide) (am_mc wt_375)) ?_
  refine am_cons (ar_iload_n C d_M_packedBody_18 rfl) ?_
  refine am_cons (ar_iload_n C d_M_packedBody_19 rfl) ?_
  refine am_cons (ar_iast C d_M_packedBody_20 rfl) ?_
  refine am_cons (ar_iinc C d_M_packedBody_21 (by decide)) ?_
  refine am_cons (ar_iinc C d_M_packedBody_24 (by decide)) ?_
  refine am_cons (ar_goto C d_M_packedBody_27 (by decide)) ?_
  refine am_cons (ar_keep [0, 1] (ar_iconst C d_M_packedBody_30 (by decide))) ?_
  refine am_cons (ar_istore_n C d_M_packedBody_31 rfl) ?_
  refine am_cons (ar_keep [0, 1, 2] (ar_iload_n C d_M_packedBody_32 rfl)) ?_
  refine am_cons (ar_aload_n C d_M_packedBody_33 rfl) ?_
  refine am_cons (ar_getf C d_M_packedBody_34 (am_uc ft_Mu) rfl (by decide) (am_mc wt_372)) ?_
  refine am_cons (ar_iconst C d_M_packedBody_37 (by decide)) ?_
  refine am_cons (ar_iald C d_M_packedBody_38 rfl) ?_
  refine am_cons (ar_icmp_ge C d_M_packedBody_39 (by decide)) ?_
  refine am_cons (ar_aload_n C d_M_packedBody_42 rfl) ?_
  refine am_cons (ar_getf C d_M_packedBody_43 (am_uc ft_Mu) rfl (by decide) (am_mc wt_345)) ?_
  refine am_cons (ar_iconst C d_M_packedBody_46 (by decide)) ?_
  refine am_cons (ar_icmp_ne C d_M_packedBody_47 (by decide)) ?_
  refine am_cons (ar_aload_n C d_M_packedBody_50 rfl) ?_
  refine am_cons (ar_getf C d_M_packedBody_51 (am_uc ft_Mu) rfl (by decide) (am_mc wt_379)) ?_
  refine am_cons (ar_iload_n C d_M_packedBody_54 rfl) ?_
  refine am_cons (ar_iload_n C d_M_packedBody_55 rfl) ?_
  refine am_cons (ar_iast C d_M_packedBody_56 rfl) ?_
  refine am_cons (ar_iinc C d_M_packedBody_57 (by decide)) ?_
  refine am_cons (ar_aload_n C d_M_packedBody_60 rfl) ?_
  refine am_cons (ar_iload_n C d_M_packedBody_61 rfl) ?_
  refine am_cons (ar_callV C d_M_packedBody_62 (hce 9 ⟨"DesignTextsModel", "latchRest", "(I)V"⟩ rw_M_latchRest rfl) rfl (am_gv wt_380 wt_381 wt_382 wt_350 wt_317) rfl (by decide +kernel) hrm (hR (by decide))) ?_
  refine am_cons (ar_iinc C d_M_packedBody_65 (by decide)) ?_
  refine am_cons (ar_goto C d_M_packedBody_68 (by decide)) ?_
  refine am_cons (ar_keep [0, 1] (ar_iconst C d_M_packedBody_71 (by decide))) ?_
  refine am_cons (ar_istore_n C d_M_packedBody_72 rfl) ?_
  refine am_cons (ar_keep [0, 1, 2] (ar_iload_n C d_M_packedBody_73 rfl)) ?_
  refine am_cons (ar_aload_n C d_M_packedBody_74 rfl) ?_
  refine am_cons (ar_getf C d_M_packedBody_75 (am_uc ft_Mu) rfl (by decide) (am_mc wt_372)) ?_
  refine am_cons (ar_iconst C d_M_packedBody_78 (by decide)) ?_
  refine am_cons (ar_iald C d_M_packedBody_79 rfl) ?_
  refine am_cons (ar_icmp_ge C d_M_packedBody_80 (by decide)) ?_
  refine am_cons (ar_aload_n C d_M_packedBody_83 rfl) ?_
  refine am_cons (ar_getf C d_M_packedBody_84 (am_uc ft_Mu) rfl (by decide) (am_mc wt_345)) ?_
  refine am_cons (ar_iconst C d_M_packedBody_87 (by decide)) ?_
  refine am_cons (ar_icmp_ne C d_M_packedBody_88 (by decide)) ?_
  refine am_cons (ar_aload_n C d_M_packedBody_91 rfl) ?_
  refine am_cons (ar_getf C d_M_packedBody_92 (am_uc ft_Mu) rfl (by decide) (am_mc wt_383)) ?_
  refine am_cons (ar_iload_n C d_M_packedBody_95 rfl) ?_
  refine am_cons (ar_aload_n C d_M_packedBody_96 rfl) ?_
  refine am_cons (ar_iconst C d_M_packedBody_97 (by decide)) ?_
  refine am_cons (ar_callV C d_M_packedBody_98 (hce 6 ⟨"DesignTextsModel", "literal", "(Z)I"⟩ rw_M_literal rfl) rfl (am_gv wt_365 wt_366 wt_367 wt_350 wt_314) rfl (by decide +kernel) hrm (hR (by decide))) ?_
  refine am_cons (ar_iast C d_M_packedBody_101 rfl) ?_
  refine am_cons (ar_aload_n C d_M_packedBody_102 rfl) ?_
  refine am_cons (ar_bipush C d_M_packedBody_103 (by decide)) ?_
  refine am_cons (ar_callV C d_M_packedBody_105 (hce 3 ⟨"DesignTextsModel", "take", "(I)V"⟩ rw_M_take rfl) rfl (am_gv wt_369 wt_370 wt_371 wt_350 wt_311) rfl (by decide +kernel) hrm (hR (by decide))) ?_
  refine am_cons (ar_iinc C d_M_packedBody_108 (by decide)) ?_
  refine am_cons (ar_goto C d_M_packedBody_111 (by decide)) ?_
  refine am_cons (ar_keep [0, 1] (ar_iconst C d_M_packedBody_114 (by decide))) ?_
  refine am_cons (ar_istore_n C d_M_packedBody_115 rfl) ?_
  refine am_cons (ar_keep [0, 1, 2] (ar_iload_n C d_M_packedBody_116 rfl)) ?_
  refine am_cons (ar_aload_n C d_M_packedBody_117 rfl) ?_
  refine am_cons (ar_getf C d_M_packedBody_118 (am_uc ft_Mu) rfl (by decide) (am_mc wt_372)) ?_
  refine am_cons (ar_iconst C d_M_packedBody_121 (by decide)) ?_
  refine am_cons (ar_iald C d_M_packedBody_122 rfl) ?_
  refine am_cons (ar_icmp_ge C d_M_packedBody_123 (by decide)) ?_
  refine am_cons (ar_aload_n C d_M_packedBody_126 rfl) ?_
  refine am_cons (ar_getf C d_M_packedBody_127 (am_uc ft_Mu) rfl (by decide) (am_mc wt_345)) ?_
  refine am_cons (ar_iconst C d_M_packedBody_130 (by decide)) ?_
  refine am_cons (ar_icmp_ne C d_M_packedBody_131 (by decide)) ?_
  refine am_cons (ar_aload_n C d_M_packedBody_134 rfl) ?_
  refine am_cons (ar_getf C d_M_packedBody_135 (am_uc ft_Mu) rfl (by decide) (am_mc wt_384)) ?_
  refine am_cons (ar_iload_n C d_M_packedBody_138 rfl) ?_
  refine am_cons (ar_iload_n C d_M_packedBody_139 rfl) ?_
  refine am_cons (ar_iast C d_M_packedBody_140 rfl) ?_
  refine am_cons (ar_aload_n C d_M_packedBody_141 rfl) ?_
  refine am_cons (ar_getf C d_M_packedBody_142 (am_uc ft_Mu) rfl (by decide) (am_mc wt_386)) ?_
  refine am_cons (ar_iload_n C d_M_packedBody_145 rfl) ?_
  refine am_cons (ar_iload_n C d_M_packedBody_146 rfl) ?_
  refine am_cons (ar_aload_n C d_M_packedBody_147 rfl) ?_
  refine am_cons (ar_iconst C d_M_packedBody_148 (by decide)) ?_
  refine am_cons (ar_iload_n C d_M_packedBody_149 rfl) ?_
  refine am_cons (ar_callV C d_M_packedBody_150 (hce 11 ⟨"DesignTextsModel", "difference", "(II)I"⟩ rw_M_difference rfl) rfl (am_gv wt_388 wt_389 wt_390 wt_350 wt_319) rfl (by decide +kernel) hrm (hR (by decide))) ?_
  refine am_cons (ar_isub C d_M_packedBody_153) ?_
  refine am_cons (ar_iast C d_M_packedBody_154 rfl) ?_
  refine am_cons (ar_aload_n C d_M_packedBody_155 rfl) ?_
  refine am_cons (ar_getf C d_M_packedBody_156 (am_uc ft_Mu) rfl (by decide) (am_mc wt_387)) ?_
  refine am_cons (ar_iload_n C d_M_packedBody_159 rfl) ?_
  refine am_cons (ar_aload_n C d_M_packedBody_160 rfl) ?_
  refine am_cons (ar_getf C d_M_packedBody_161 (am_uc ft_Mu) rfl (by decide) (am_mc wt_386)) ?_
  refine am_cons (ar_iload_n C d_M_packedBody_164 rfl) ?_
  refine am_cons (ar_iald C d_M_packedBody_165 rfl) ?_
  refine am_cons (ar_aload_n C d_M_packedBody_166 rfl) ?_
  refine am_cons (ar_iconst C d_M_packedBody_167 (by decide)) ?_
  refine am_cons (ar_aload_n C d_M_packedBody_168 rfl) ?_
  refine am_cons (ar_getf C d_M_packedBody_169 (am_uc ft_Mu) rfl (by decide) (am_mc wt_386)) ?_
  refine am_cons (ar_iload_n C d_M_packedBody_172 rfl) ?_
  refine am_cons (ar_iald C d_M_packedBody_173 rfl) ?_
  refine am_cons (ar_callV C d_M_packedBody_174 (hce 11 ⟨"DesignTextsModel", "difference", "(II)I"⟩ rw_M_difference rfl) rfl (am_gv wt_388 wt_389 wt_390 wt_350 wt_319) rfl (by decide +kernel) hrm (hR (by decide))) ?_
  refine am_cons (ar_isub C d_M_packedBody_177) ?_
  refine am_cons (ar_iast C d_M_packedBody_178 rfl) ?_
  refine am_cons (ar_iinc C d_M_packedBody_179 (by decide)) ?_
  refine am_cons (ar_iinc C d_M_packedBody_182 (by decide)) ?_
  refine am_cons (ar_goto C d_M_packedBody_185 (by decide)) ?_
  refine am_cons (ar_keep [] (ar_return C hr d_M_packedBody_188)) ?_
  exact am_nil
theorem sd_M_gateOf {p : Program} {l : Launch} {e : Env} {R : Room} {s : State} {m : MethodId} {args : Array Value} {below : List Frame} {meth : Method} {c : Code} {D : va_G} {ρ : Nat → Nat} {kc : Nat → ClassId} {len : Nat} {Qc : Array Value → State → Outcome → State → Prop} {call : am_C} {rm : Room} (C : am_Cx p R s m args meth c prog_7_method_16_code 3 rw_M_gateOf "DesignTextsModel" D aCl ρ kc am_fts len) (hr : meth.sig.returnType = some .int)
    (hce : ∀ (id : Nat) (y : MethodName) (ws : List Cond), rPI[id]? = some (y, ws) → am_Ce l call rm D aCl ρ kc am_fts len id y ws) (hrm : rm.cells = 0 ∧ rm.slots = 0) (hR : ∀ {k : Nat}, k ≤ 21 → rm.frames + 1 ≤ R.frames ∧ 8 + (k + 11) + rm.locals ≤ R.locals) :
    ∀ q ∈ tb_M_gateOf call, am_Row (am_J p l e R s m args below meth c 3 D aCl ρ kc len (MQ below Qc args s 0 0 (am_A ρ len s.heap.size))) (am_K s args D aCl ρ kc len Qc) q.1 q.2 := by
  unfold tb_M_gateOf
  refine am_cons (ar_iconst C d_M_gateOf_0 (by decide)) ?_
  refine am_cons (ar_istore_n C d_M_gateOf_1 rfl) ?_
  refine am_cons (ar_keep [0, 1, 2] (ar_iload_n C d_M_gateOf_2 rfl)) ?_
  refine am_cons (ar_aload_n C d_M_gateOf_3 rfl) ?_
  refine am_cons (ar_getf C d_M_gateOf_4 (am_uc ft_Mu) rfl (by decide) (am_mc wt_372)) ?_
  refine am_cons (ar_iconst C d_M_gateOf_7 (by decide)) ?_
  refine am_cons (ar_iald C d_M_gateOf_8 rfl) ?_
  refine am_cons (ar_icmp_ge C d_M_gateOf_9 (by decide)) ?_
  refine am_cons (ar_aload_n C d_M_gateOf_12 rfl) ?_
  refine am_cons (ar_getf C d_M_gateOf_13 (am_uc ft_Mu) rfl (by decide) (am_mc wt_384)) ?_
  refine am_cons (ar_iload_n C d_M_gateOf_16 rfl) ?_
  refine am_cons (ar_iald C d_M_gateOf_17 rfl) ?_
  refine am_cons (ar_iconst C d_M_gateOf_18 (by decide)) ?_
  refine am_cons (ar_idiv C d_M_gateOf_19) ?_
  refine am_cons (ar_iload_n C d_M_gateOf_20 rfl) ?_
  refine am_cons (ar_icmp_ne C d_M_gateOf_21 (by decide)) ?_
  refine am_cons (ar_iload_n C d_M_gateOf_24 rfl) ?_
  refine am_cons (ar_ireturn C hr d_M_gateOf_25) ?_
  refine am_cons (ar_iinc C d_M_gateOf_26 (by decide)) ?_
  refine am_cons (ar_goto C d_M_gateOf_29 (by decide)) ?_
  refine am_cons (ar_keep [] (ar_iconst C d_M_gateOf_32 (by decide))) ?_
  refine am_cons (ar_ireturn C hr d_M_gateOf_33) ?_
  exact am_nil
theorem sd_M_findUndefined {p : Program} {l : Launch} {e : Env} {R : Room} {s : State} {m : MethodId} {args : Array Value} {below : List Frame} {meth : Method} {c : Code} {D : va_G} {ρ : Nat → Nat} {kc : Nat → ClassId} {len : Nat} {Qc : Array Value → State → Outcome → State → Prop} {call : am_C} {rm : Room} (C : am_Cx p R s m args meth c prog_7_method_17_code 2 rw_M_findUndefined "DesignTextsModel" D aCl ρ kc am_fts len) (hr : meth.sig.returnType = none)
    (hce : ∀ (id : Nat) (y : MethodName) (ws : List Cond), rPI[id]? = some (y, ws) → am_Ce l call rm D aCl ρ kc am_fts len id y ws) (hrm : rm.cells = 0 ∧ rm.slots = 0) (hR : ∀ {k : Nat}, k ≤ 21 → rm.frames + 1 ≤ R.frames ∧ 8 + (k + 11) + rm.locals ≤ R.locals) :
    ∀ q ∈ tb_M_findUndefined call, am_Row (am_J p l e R s m args below meth c 2 D aCl ρ kc len (MQ below Qc args s 0 0 (am_A ρ len s.heap.size))) (am_K s args D aCl ρ kc len Qc) q.1 q.2 := by
  unfold tb_M_findUndefined
  refine am_cons (ar_iconst C d_M_findUndefined_0 (by decide)) ?_
  refine am_cons (ar_istore_n C d_M_findUndefined_1 rfl) ?_
  refine am_cons (ar_keep [0, 1] (ar_iload_n C d_M_findUndefined_2 rfl)) ?_
  refine am_cons (ar_aload_n C d_M_findUndefined_3 rfl) ?_
  refine am_cons (ar_getf C d_M_findUndefined_4 (am_uc ft_Mu) rfl (by decide) (am_mc wt_363)) ?_
  refine am_cons (ar_icmp_ge C d_M_findUndefined_7 (by decide)) ?_
  refine am_cons (ar_aload_n C d_M_findUndefined_10 rfl) ?_
  refine am_cons (ar_getf C d_M_findUndefined_11 (am_uc ft_Mu) rfl (by decide) (am_mc wt_362)) ?_
  refine am_cons (ar_iload_n C d_M_findUndefined_14 rfl) ?_
  refine am_cons (ar_iald C d_M_findUndefined_15 rfl) ?_
  refine am_cons (ar_iconst C d_M_findUndefined_16 (by decide)) ?_
  refine am_cons (ar_icmp_le C d_M_findUndefined_17 (by decide)) ?_
  refine am_cons (ar_aload_n C d_M_findUndefined_20 rfl) ?_
  refine am_cons (ar_getf C d_M_findUndefined_21 (am_uc ft_Mu) rfl (by decide) (am_mc wt_368)) ?_
  refine am_cons (ar_aload_n C d_M_findUndefined_24 rfl) ?_
  refine am_cons (ar_getf C d_M_findUndefined_25 (am_uc ft_Mu) rfl (by decide) (am_mc wt_362)) ?_
  refine am_cons (ar_iload_n C d_M_findUndefined_28 rfl) ?_
  refine am_cons (ar_iald C d_M_findUndefined_29 rfl) ?_
  refine am_cons (ar_iconst C d_M_findUndefined_30 (by decide)) ?_
  refine am_cons (ar_idiv C d_M_findUndefined_31) ?_
  refine am_cons (ar_zald C d_M_findUndefined_32 rfl) ?_
  refine am_cons (ar_if_ne C d_M_findUndefined_33 (by decide)) ?_
  refine am_cons (ar_aload_n C d_M_findUndefined_36 rfl) ?_
  refine am_cons (ar_aload_n C d_M_findUndefined_37 rfl) ?_
  refine am_cons (ar_getf C d_M_findUndefined_38 (am_uc ft_Mu) rfl (by decide) (am_mc wt_364)) ?_
  refine am_cons (ar_iload_n C d_M_findUndefined_41 rfl) ?_
  refine am_cons (ar_iald C d_M_findUndefined_42 rfl) ?_
  refine am_cons (ar_callV C d_M_findUndefined_43 (hce 2 ⟨"DesignTextsModel", "bad", "(I)V"⟩ rw_M_bad rfl) rfl (am_gv wt_351 wt_352 wt_353 wt_350 wt_310) rfl (by decide +kernel) hrm (hR (by decide))) ?_
  refine am_cons (ar_iinc C d_M_findUndefined_46 (by decide)) ?_
  refine am_cons (ar_goto C d_M_findUndefined_49 (by decide)) ?_
  refine am_cons (ar_keep [] (ar_return C hr d_M_findUndefined_52)) ?_
  exact am_nil
theorem sd_M_findResting {p : Program} {l : Launch} {e : Env} {R : Room} {s : State} {m : MethodId} {args : Array Value} {below : List Frame} {meth : Method} {c : Code} {D : va_G} {ρ : Nat → Nat} {kc : Nat → ClassId} {len : Nat} {Qc : Array Value → State → Outcome → State → Prop} {call : am_C} {rm : Room} (C : am_Cx p R s m args meth c prog_7_method_18_code 5 rw_M_findResting "DesignTextsModel" D aCl ρ kc am_fts len) (hr : meth.sig.returnType = none)
    (hce : ∀ (id : Nat) (y : MethodName) (ws : List Cond), rPI[id]? = some (y, ws) → am_Ce l call rm D aCl ρ kc am_fts len id y ws) (hrm : rm.cells = 0 ∧ rm.slots = 0) (hR : ∀ {k : Nat}, k ≤ 21 → rm.frames + 1 ≤ R.frames ∧ 8 + (k + 11) + rm.locals ≤ R.locals) :
    ∀ q ∈ tb_M_findResting call, am_Row (am_J p l e R s m args below meth c 5 D aCl ρ kc len (MQ below Qc args s 0 0 (am_A ρ len s.heap.size))) (am_K s args D aCl ρ kc len Qc) q.1 q.2 := by
  unfold tb_M_findResting
  refine am_cons (ar_aload_n C d_M_findResting_0 rfl) ?_
  refine am_cons (ar_getf C d_M_findResting_1 (am_uc ft_Mu) rfl (by decide) (am_mc wt_372)) ?_
  refine am_cons (ar_iconst C d_M_findResting_4 (by decide)) ?_
  refine am_cons (ar_iald C d_M_findResting_5 rfl) ?_
  refine am_cons (ar_istore_n C d_M_findResting_6 rfl) ?_
  refine am_cons (ar_iconst C d_M_findResting_7 (by decide)) ?_
  refine am_cons (ar_istore_n C d_M_findResting_8 rfl) ?_
  refine am_cons (ar_keep [0, 1, 2] (ar_iload_n C d_M_findResting_9 rfl)) ?_
  refine am_cons (ar_sipush C d_M_findResting_10 (by decide)) ?_
  refine am_cons (ar_icmp_ge C d_M_findResting_13 (by decide)) ?_
  refine am_cons (ar_aload_n C d_M_findResting_16 rfl) ?_
  refine am_cons (ar_getf C d_M_findResting_17 (am_uc ft_Mu) rfl (by decide) (am_mc wt_391)) ?_
  refine am_cons (ar_iload_n C d_M_findResting_20 rfl) ?_
  refine am_cons (ar_iconst C d_M_findResting_21 (by decide)) ?_
  refine am_cons (ar_zast C d_M_findResting_22 rfl) ?_
  refine am_cons (ar_iinc C d_M_findResting_23 (by decide)) ?_
  refine am_cons (ar_goto C d_M_findResting_26 (by decide)) ?_
  refine am_cons (ar_keep [0, 1] (ar_iconst C d_M_findResting_29 (by decide))) ?_
  refine am_cons (ar_istore_n C d_M_findResting_30 rfl) ?_
  refine am_cons (ar_keep [0, 1, 2] (ar_iload_n C d_M_findResting_31 rfl)) ?_
  refine am_cons (ar_iload_n C d_M_findResting_32 rfl) ?_
  refine am_cons (ar_icmp_ge C d_M_findResting_33 (by decide)) ?_
  refine am_cons (ar_aload_n C d_M_findResting_36 rfl) ?_
  refine am_cons (ar_aload_n C d_M_findResting_37 rfl) ?_
  refine am_cons (ar_getf C d_M_findResting_38 (am_uc ft_Mu) rfl (by decide) (am_mc wt_386)) ?_
  refine am_cons (ar_iload_n C d_M_findResting_41 rfl) ?_
  refine am_cons (ar_iald C d_M_findResting_42 rfl) ?_
  refine am_cons (ar_iconst C d_M_findResting_43 (by decide)) ?_
  refine am_cons (ar_idiv C d_M_findResting_44) ?_
  refine am_cons (ar_callV C d_M_findResting_45 (hce 13 ⟨"DesignTextsModel", "gateOf", "(I)I"⟩ rw_M_gateOf rfl) rfl (am_gv wt_392 wt_393 wt_394 wt_350 wt_321) rfl (by decide +kernel) hrm (hR (by decide))) ?_
  refine am_cons (ar_istore_n C d_M_findResting_48 rfl) ?_
  refine am_cons (ar_aload_n C d_M_findResting_49 rfl) ?_
  refine am_cons (ar_aload_n C d_M_findResting_50 rfl) ?_
  refine am_cons (ar_getf C d_M_findResting_51 (am_uc ft_Mu) rfl (by decide) (am_mc wt_387)) ?_
  refine am_cons (ar_iload_n C d_M_findResting_54 rfl) ?_
  refine am_cons (ar_iald C d_M_findResting_55 rfl) ?_
  refine am_cons (ar_iconst C d_M_findResting_56 (by decide)) ?_
  refine am_cons (ar_idiv C d_M_findResting_57) ?_
  refine am_cons (ar_callV C d_M_findResting_58 (hce 13 ⟨"DesignTextsModel", "gateOf", "(I)I"⟩ rw_M_gateOf rfl) rfl (am_gv wt_392 wt_393 wt_394 wt_350 wt_321) rfl (by decide +kernel) hrm (hR (by decide))) ?_
  refine am_cons (ar_istore C d_M_findResting_61) ?_
  refine am_cons (ar_iload_n C d_M_findResting_63 rfl) ?_
  refine am_cons (ar_iconst C d_M_findResting_64 (by decide)) ?_
  refine am_cons (ar_icmp_eq C d_M_findResting_65 (by decide)) ?_
  refine am_cons (ar_aload_n C d_M_findResting_68 rfl) ?_
  refine am_cons (ar_getf C d_M_findResting_69 (am_uc ft_Mu) rfl (by decide) (am_mc wt_391)) ?_
  refine am_cons (ar_bipush C d_M_findResting_72 (by decide)) ?_
  refine am_cons (ar_iload_n C d_M_findResting_74 rfl) ?_
  refine am_cons (ar_imul C d_M_findResting_75) ?_
  refine am_cons (ar_iload_n C d_M_findResting_76 rfl) ?_
  refine am_cons (ar_iadd C d_M_findResting_77) ?_
  refine am_cons (ar_iconst C d_M_findResting_78 (by decide)) ?_
  refine am_cons (ar_zast C d_M_findResting_79 rfl) ?_
  refine am_cons (ar_iload C d_M_findResting_80) ?_
  refine am_cons (ar_iconst C d_M_findResting_82 (by decide)) ?_
  refine am_cons (ar_icmp_eq C d_M_findResting_83 (by decide)) ?_
  refine am_cons (ar_aload_n C d_M_findResting_86 rfl) ?_
  refine am_cons (ar_getf C d_M_findResting_87 (am_uc ft_Mu) rfl (by decide) (am_mc wt_391)) ?_
  refine am_cons (ar_bipush C d_M_findResting_90 (by decide)) ?_
  refine am_cons (ar_iload_n C d_M_findResting_92 rfl) ?_
  refine am_cons (ar_imul C d_M_findResting_93) ?_
  refine am_cons (ar_iload C d_M_findResting_94) ?_
  refine am_cons (ar_iadd C d_M_findResting_96) ?_
  refine am_cons (ar_iconst C d_M_findResting_97 (by decide)) ?_
  refine am_cons (ar_zast C d_M_findResting_98 rfl) ?_
  refine am_cons (ar_iinc C d_M_findResting_99 (by decide)) ?_
  refine am_cons (ar_goto C d_M_findResting_102 (by decide)) ?_
  refine am_cons (ar_keep [0, 1] (ar_iconst C d_M_findResting_105 (by decide))) ?_
  refine am_cons (ar_istore_n C d_M_findResting_106 rfl) ?_
  refine am_cons (ar_keep [0, 1, 2] (ar_iload_n C d_M_findResting_107 rfl)) ?_
  refine am_cons (ar_iload_n C d_M_findResting_108 rfl) ?_
  refine am_cons (ar_icmp_ge C d_M_findResting_109 (by decide)) ?_
  refine am_cons (ar_iconst C d_M_findResting_112 (by decide)) ?_
  refine am_cons (ar_istore_n C d_M_findResting_113 rfl) ?_
  refine am_cons (ar_keep [0, 1, 2, 3] (ar_iload_n C d_M_findResting_114 rfl)) ?_
  refine am_cons (ar_iload_n C d_M_findResting_115 rfl) ?_
  refine am_cons (ar_icmp_ge C d_M_findResting_116 (by decide)) ?_
  refine am_cons (ar_iconst C d_M_findResting_119 (by decide)) ?_
  refine am_cons (ar_istore C d_M_findResting_120) ?_
  refine am_cons (ar_keep [0, 1, 2, 3, 4] (ar_iload C d_M_findResting_122)) ?_
  refine am_cons (ar_iload_n C d_M_findResting_124 rfl) ?_
  refine am_cons (ar_icmp_ge C d_M_findResting_125 (by decide)) ?_
  refine am_cons (ar_aload_n C d_M_findResting_128 rfl) ?_
  refine am_cons (ar_getf C d_M_findResting_129 (am_uc ft_Mu) rfl (by decide) (am_mc wt_391)) ?_
  refine am_cons (ar_bipush C d_M_findResting_132 (by decide)) ?_
  refine am_cons (ar_iload_n C d_M_findResting_134 rfl) ?_
  refine am_cons (ar_imul C d_M_findResting_135) ?_
  refine am_cons (ar_iload C d_M_findResting_136) ?_
  refine am_cons (ar_iadd C d_M_findResting_138) ?_
  refine am_cons (ar_aload_n C d_M_findResting_139 rfl) ?_
  refine am_cons (ar_getf C d_M_findResting_140 (am_uc ft_Mu) rfl (by decide) (am_mc wt_391)) ?_
  refine am_cons (ar_bipush C d_M_findResting_143 (by decide)) ?_
  refine am_cons (ar_iload_n C d_M_findResting_145 rfl) ?_
  refine am_cons (ar_imul C d_M_findResting_146) ?_
  refine am_cons (ar_iload C d_M_findResting_147) ?_
  refine am_cons (ar_iadd C d_M_findResting_149) ?_
  refine am_cons (ar_zald C d_M_findResting_150 rfl) ?_
  refine am_cons (ar_if_ne C d_M_findResting_151 (by decide)) ?_
  refine am_cons (ar_aload_n C d_M_findResting_154 rfl) ?_
  refine am_cons (ar_getf C d_M_findResting_155 (am_uc ft_Mu) rfl (by decide) (am_mc wt_391)) ?_
  refine am_cons (ar_bipush C d_M_findResting_158 (by decide)) ?_
  refine am_cons (ar_iload_n C d_M_findResting_160 rfl) ?_
  refine am_cons (ar_imul C d_M_findResting_161) ?_
  refine am_cons (ar_iload_n C d_M_findResting_162 rfl) ?_
  refine am_cons (ar_iadd C d_M_findResting_163) ?_
  refine am_cons (ar_zald C d_M_findResting_164 rfl) ?_
  refine am_cons (ar_if_eq C d_M_findResting_165 (by decide)) ?_
  refine am_cons (ar_aload_n C d_M_findResting_168 rfl) ?_
  refine am_cons (ar_getf C d_M_findResting_169 (am_uc ft_Mu) rfl (by decide) (am_mc wt_391)) ?_
  refine am_cons (ar_bipush C d_M_findResting_172 (by decide)) ?_
  refine am_cons (ar_iload_n C d_M_findResting_174 rfl) ?_
  refine am_cons (ar_imul C d_M_findResting_175) ?_
  refine am_cons (ar_iload C d_M_findResting_176) ?_
  refine am_cons (ar_iadd C d_M_findResting_178) ?_
  refine am_cons (ar_zald C d_M_findResting_179 rfl) ?_
  refine am_cons (ar_if_eq C d_M_findResting_180 (by decide)) ?_
  refine am_cons (ar_iconst C d_M_findResting_183 (by decide)) ?_
  refine am_cons (ar_goto C d_M_findResting_184 (by decide)) ?_
  refine am_cons (ar_iconst C d_M_findResting_187 (by decide)) ?_
  refine am_cons (ar_zast C d_M_findResting_188 rfl) ?_
  refine am_cons (ar_iinc C d_M_findResting_189 (by decide)) ?_
  refine am_cons (ar_goto C d_M_findResting_192 (by decide)) ?_
  refine am_cons (ar_keep [0, 1, 2, 3] (ar_iinc C d_M_findResting_195 (by decide))) ?_
  refine am_cons (ar_goto C d_M_findResting_198 (by decide)) ?_
  refine am_cons (ar_keep [0, 1, 2] (ar_iinc C d_M_findResting_201 (by decide))) ?_
  refine am_cons (ar_goto C d_M_findResting_204 (by decide)) ?_
  refine am_cons (ar_keep [0, 1] (ar_iconst C d_M_findResting_207 (by decide))) ?_
  refine am_cons (ar_istore_n C d_M_findResting_208 rfl) ?_
  refine am_cons (ar_keep [0, 1, 2] (ar_iload_n C d_M_findResting_209 rfl)) ?_
  refine am_cons (ar_iload_n C d_M_findResting_210 rfl) ?_
  refine am_cons (ar_icmp_ge C d_M_findResting_211 (by decide)) ?_
  refine am_cons (ar_aload_n C d_M_findResting_214 rfl) ?_
  refine am_cons (ar_getf C d_M_findResting_215 (am_uc ft_Mu) rfl (by decide) (am_mc wt_391)) ?_
  refine am_cons (ar_bipush C d_M_findResting_218 (by decide)) ?_
  refine am_cons (ar_iload_n C d_M_findResting_220 rfl) ?_
  refine am_cons (ar_imul C d_M_findResting_221) ?_
  refine am_cons (ar_iload_n C d_M_findResting_222 rfl) ?_
  refine am_cons (ar_iadd C d_M_findResting_223) ?_
  refine am_cons (ar_zald C d_M_findResting_224 rfl) ?_
  refine am_cons (ar_if_eq C d_M_findResting_225 (by decide)) ?_
  refine am_cons (ar_aload_n C d_M_findResting_228 rfl) ?_
  refine am_cons (ar_aload_n C d_M_findResting_229 rfl) ?_
  refine am_cons (ar_getf C d_M_findResting_230 (am_uc ft_Mu) rfl (by decide) (am_mc wt_385)) ?_
  refine am_cons (ar_iload_n C d_M_findResting_233 rfl) ?_
  refine am_cons (ar_iald C d_M_findResting_234 rfl) ?_
  refine am_cons (ar_callV C d_M_findResting_235 (hce 2 ⟨"DesignTextsModel", "bad", "(I)V"⟩ rw_M_bad rfl) rfl (am_gv wt_351 wt_352 wt_353 wt_350 wt_310) rfl (by decide +kernel) hrm (hR (by decide))) ?_
  refine am_cons (ar_iinc C d_M_findResting_238 (by decide)) ?_
  refine am_cons (ar_goto C d_M_findResting_241 (by decide)) ?_
  refine am_cons (ar_keep [] (ar_return C hr d_M_findResting_244)) ?_
  exact am_nil
theorem sd_M_read {p : Program} {l : Launch} {e : Env} {R : Room} {s : State} {m : MethodId} {args : Array Value} {below : List Frame} {meth : Method} {c : Code} {D : va_G} {ρ : Nat → Nat} {kc : Nat → ClassId} {len : Nat} {Qc : Array Value → State → Outcome → State → Prop} {call : am_C} {rm : Room} (C : am_Cx p R s m args meth c prog_7_method_19_code 3 rw_M_read "DesignTextsModel" D aCl ρ kc am_fts len) (hr : meth.sig.returnType = some .int)
    (hce : ∀ (id : Nat) (y : MethodName) (ws : List Cond), rPI[id]? = some (y, ws) → am_Ce l call rm D aCl ρ kc am_fts len id y ws) (hrm : rm.cells = 0 ∧ rm.slots = 0) (hR : ∀ {k : Nat}, k ≤ 21 → rm.frames + 1 ≤ R.frames ∧ 8 + (k + 11) + rm.locals ≤ R.locals) :
    ∀ q ∈ tb_M_read call, am_Row (am_J p l e R s m args below meth c 3 D aCl ρ kc len (MQ below Qc args s 0 0 (am_A ρ len s.heap.size))) (am_K s args D aCl ρ kc len Qc) q.1 q.2 := by
  unfold tb_M_read
  refine am_cons (ar_aload_n C d_M_read_0 rfl) ?_
  refine am_cons (ar_iconst C d_M_read_1 (by decide)) ?_
  refine am_cons (ar_putI C d_M_read_2 (am_uc ft_Mu) ft_Mo ft_Mn rfl (by decide) (am_mc wt_343) rfl (by decide +kernel)) ?_
  refine am_cons (ar_aload_n C d_M_read_5 rfl) ?_
  refine am_cons (ar_iconst C d_M_read_6 (by decide)) ?_
  refine am_cons (ar_callV C d_M_read_7 (hce 1 ⟨"DesignTextsModel", "byteAt", "(I)I"⟩ rw_M_byteAt rfl) rfl (am_gv wt_347 wt_348 wt_349 wt_350 wt_309) rfl (by decide +kernel) hrm (hR (by decide))) ?_
  refine am_cons (ar_bipush C d_M_read_10 (by decide)) ?_
  refine am_cons (ar_icmp_ne C d_M_read_12 (by decide)) ?_
  refine am_cons (ar_aload_n C d_M_read_15 rfl) ?_
  refine am_cons (ar_iconst C d_M_read_16 (by decide)) ?_
  refine am_cons (ar_callV C d_M_read_17 (hce 1 ⟨"DesignTextsModel", "byteAt", "(I)I"⟩ rw_M_byteAt rfl) rfl (am_gv wt_347 wt_348 wt_349 wt_350 wt_309) rfl (by decide +kernel) hrm (hR (by decide))) ?_
  refine am_cons (ar_bipush C d_M_read_20 (by decide)) ?_
  refine am_cons (ar_icmp_ne C d_M_read_22 (by decide)) ?_
  refine am_cons (ar_iconst C d_M_read_25 (by decide)) ?_
  refine am_cons (ar_goto C d_M_read_26 (by decide)) ?_
  refine am_cons (ar_keep [0] (ar_iconst C d_M_read_29 (by decide))) ?_
  refine am_cons (ar_keep [0] (ar_istore_n C d_M_read_30 rfl)) ?_
  refine am_cons (ar_aload_n C d_M_read_31 rfl) ?_
  refine am_cons (ar_iconst C d_M_read_32 (by decide)) ?_
  refine am_cons (ar_putI C d_M_read_33 (am_uc ft_Mu) ft_Mo ft_Mn rfl (by decide) (am_mc wt_346) rfl (by decide +kernel)) ?_
  refine am_cons (ar_aload_n C d_M_read_36 rfl) ?_
  refine am_cons (ar_iconst C d_M_read_37 (by decide)) ?_
  refine am_cons (ar_putI C d_M_read_38 (am_uc ft_Mu) ft_Mo ft_Mn rfl (by decide) (am_mc wt_345) rfl (by decide +kernel)) ?_
  refine am_cons (ar_aload_n C d_M_read_41 rfl) ?_
  refine am_cons (ar_iconst C d_M_read_42 (by decide)) ?_
  refine am_cons (ar_putI C d_M_read_43 (am_uc ft_Mu) ft_Mo ft_Mn rfl (by decide) (am_mc wt_363) rfl (by decide +kernel)) ?_
  refine am_cons (ar_iconst C d_M_read_46 (by decide)) ?_
  refine am_cons (ar_istore_n C d_M_read_47 rfl) ?_
  refine am_cons (ar_keep [0, 1, 2] (ar_iload_n C d_M_read_48 rfl)) ?_
  refine am_cons (ar_bipush C d_M_read_49 (by decide)) ?_
  refine am_cons (ar_icmp_ge C d_M_read_51 (by decide)) ?_
  refine am_cons (ar_aload_n C d_M_read_54 rfl) ?_
  refine am_cons (ar_getf C d_M_read_55 (am_uc ft_Mu) rfl (by decide) (am_mc wt_368)) ?_
  refine am_cons (ar_iload_n C d_M_read_58 rfl) ?_
  refine am_cons (ar_iconst C d_M_read_59 (by decide)) ?_
  refine am_cons (ar_zast C d_M_read_60 rfl) ?_
  refine am_cons (ar_iinc C d_M_read_61 (by decide)) ?_
  refine am_cons (ar_goto C d_M_read_64 (by decide)) ?_
  refine am_cons (ar_keep [0, 1] (ar_aload_n C d_M_read_67 rfl)) ?_
  refine am_cons (ar_iload_n C d_M_read_68 rfl) ?_
  refine am_cons (ar_callV C d_M_read_69 (hce 8 ⟨"DesignTextsModel", "header", "(Z)V"⟩ rw_M_header rfl) rfl (am_gv wt_395 wt_396 wt_397 wt_350 wt_316) rfl (by decide +kernel) hrm (hR (by decide))) ?_
  refine am_cons (ar_aload_n C d_M_read_72 rfl) ?_
  refine am_cons (ar_getf C d_M_read_73 (am_uc ft_Mu) rfl (by decide) (am_mc wt_345)) ?_
  refine am_cons (ar_iconst C d_M_read_76 (by decide)) ?_
  refine am_cons (ar_icmp_ne C d_M_read_77 (by decide)) ?_
  refine am_cons (ar_iload_n C d_M_read_80 rfl) ?_
  refine am_cons (ar_if_eq C d_M_read_81 (by decide)) ?_
  refine am_cons (ar_aload_n C d_M_read_84 rfl) ?_
  refine am_cons (ar_callV C d_M_read_85 (hce 12 ⟨"DesignTextsModel", "packedBody", "()V"⟩ rw_M_packedBody rfl) rfl (am_gv wt_398 wt_399 wt_400 wt_350 wt_320) rfl (by decide +kernel) hrm (hR (by decide))) ?_
  refine am_cons (ar_goto C d_M_read_88 (by decide)) ?_
  refine am_cons (ar_keep [0, 1] (ar_aload_n C d_M_read_91 rfl)) ?_
  refine am_cons (ar_getf C d_M_read_92 (am_uc ft_Mu) rfl (by decide) (am_mc wt_345)) ?_
  refine am_cons (ar_iconst C d_M_read_95 (by decide)) ?_
  refine am_cons (ar_icmp_ne C d_M_read_96 (by decide)) ?_
  refine am_cons (ar_aload_n C d_M_read_99 rfl) ?_
  refine am_cons (ar_callV C d_M_read_100 (hce 10 ⟨"DesignTextsModel", "plainBody", "()V"⟩ rw_M_plainBody rfl) rfl (am_gv wt_401 wt_402 wt_403 wt_350 wt_318) rfl (by decide +kernel) hrm (hR (by decide))) ?_
  refine am_cons (ar_keep [0, 1] (ar_aload_n C d_M_read_103 rfl)) ?_
  refine am_cons (ar_getf C d_M_read_104 (am_uc ft_Mu) rfl (by decide) (am_mc wt_345)) ?_
  refine am_cons (ar_iconst C d_M_read_107 (by decide)) ?_
  refine am_cons (ar_icmp_ne C d_M_read_108 (by decide)) ?_
  refine am_cons (ar_aload_n C d_M_read_111 rfl) ?_
  refine am_cons (ar_getf C d_M_read_112 (am_uc ft_Mu) rfl (by decide) (am_mc wt_346)) ?_
  refine am_cons (ar_aload_n C d_M_read_115 rfl) ?_
  refine am_cons (ar_getf C d_M_read_116 (am_uc ft_Mu) rfl (by decide) (am_mc wt_342)) ?_
  refine am_cons (ar_icmp_ge C d_M_read_119 (by decide)) ?_
  refine am_cons (ar_aload_n C d_M_read_122 rfl) ?_
  refine am_cons (ar_getf C d_M_read_123 (am_uc ft_Mu) rfl (by decide) (am_mc wt_344)) ?_
  refine am_cons (ar_aload_n C d_M_read_126 rfl) ?_
  refine am_cons (ar_getf C d_M_read_127 (am_uc ft_Mu) rfl (by decide) (am_mc wt_346)) ?_
  refine am_cons (ar_iald C d_M_read_130 rfl) ?_
  refine am_cons (ar_bipush C d_M_read_131 (by decide)) ?_
  refine am_cons (ar_icmp_eq C d_M_read_133 (by decide)) ?_
  refine am_cons (ar_aload_n C d_M_read_136 rfl) ?_
  refine am_cons (ar_aload_n C d_M_read_137 rfl) ?_
  refine am_cons (ar_getf C d_M_read_138 (am_uc ft_Mu) rfl (by decide) (am_mc wt_346)) ?_
  refine am_cons (ar_callV C d_M_read_141 (hce 2 ⟨"DesignTextsModel", "bad", "(I)V"⟩ rw_M_bad rfl) rfl (am_gv wt_351 wt_352 wt_353 wt_350 wt_310) rfl (by decide +kernel) hrm (hR (by decide))) ?_
  refine am_cons (ar_keep [0, 1] (ar_aload_n C d_M_read_144 rfl)) ?_
  refine am_cons (ar_getf C d_M_read_145 (am_uc ft_Mu) rfl (by decide) (am_mc wt_345)) ?_
  refine am_cons (ar_iconst C d_M_read_148 (by decide)) ?_
  refine am_cons (ar_icmp_ne C d_M_read_149 (by decide)) ?_
  refine am_cons (ar_iload_n C d_M_read_152 rfl) ?_
  refine am_cons (ar_if_ne C d_M_read_153 (by decide)) ?_
  refine am_cons (ar_aload_n C d_M_read_156 rfl) ?_
  refine am_cons (ar_callV C d_M_read_157 (hce 14 ⟨"DesignTextsModel", "findUndefined", "()V"⟩ rw_M_findUndefined rfl) rfl (am_gv wt_404 wt_405 wt_406 wt_350 wt_322) rfl (by decide +kernel) hrm (hR (by decide))) ?_
  refine am_cons (ar_keep [0, 1] (ar_aload_n C d_M_read_160 rfl)) ?_
  refine am_cons (ar_getf C d_M_read_161 (am_uc ft_Mu) rfl (by decide) (am_mc wt_345)) ?_
  refine am_cons (ar_iconst C d_M_read_164 (by decide)) ?_
  refine am_cons (ar_icmp_ne C d_M_read_165 (by decide)) ?_
  refine am_cons (ar_iload_n C d_M_read_168 rfl) ?_
  refine am_cons (ar_if_ne C d_M_read_169 (by decide)) ?_
  refine am_cons (ar_aload_n C d_M_read_172 rfl) ?_
  refine am_cons (ar_callV C d_M_read_173 (hce 15 ⟨"DesignTextsModel", "findResting", "()V"⟩ rw_M_findResting rfl) rfl (am_gv wt_407 wt_408 wt_409 wt_350 wt_323) rfl (by decide +kernel) hrm (hR (by decide))) ?_
  refine am_cons (ar_keep [0] (ar_aload_n C d_M_read_176 rfl)) ?_
  refine am_cons (ar_iconst C d_M_read_177 (by decide)) ?_
  refine am_cons (ar_putI C d_M_read_178 (am_uc ft_Mu) ft_Mo ft_Mn rfl (by decide) (am_mc wt_342) rfl (by decide +kernel)) ?_
  refine am_cons (ar_aload_n C d_M_read_181 rfl) ?_
  refine am_cons (ar_getf C d_M_read_182 (am_uc ft_Mu) rfl (by decide) (am_mc wt_345)) ?_
  refine am_cons (ar_iconst C d_M_read_185 (by decide)) ?_
  refine am_cons (ar_icmp_ne C d_M_read_186 (by decide)) ?_
  refine am_cons (ar_aload_n C d_M_read_189 rfl) ?_
  refine am_cons (ar_callV C d_M_read_190 (hce 17 ⟨"DesignTextsModel", "takeOver", "()V"⟩ rw_M_takeOver rfl) rfl (am_gv wt_410 wt_411 wt_412 wt_350 wt_325) rfl (by decide +kernel) hrm (hR (by decide))) ?_
  refine am_cons (ar_aload_n C d_M_read_193 rfl) ?_
  refine am_cons (ar_getf C d_M_read_194 (am_uc ft_Mu) rfl (by decide) (am_mc wt_345)) ?_
  refine am_cons (ar_ireturn C hr d_M_read_197) ?_
  exact am_nil
theorem sd_M_takeOver {p : Program} {l : Launch} {e : Env} {R : Room} {s : State} {m : MethodId} {args : Array Value} {below : List Frame} {meth : Method} {c : Code} {D : va_G} {ρ : Nat → Nat} {kc : Nat → ClassId} {len : Nat} {Qc : Array Value → State → Outcome → State → Prop} {call : am_C} {rm : Room} (C : am_Cx p R s m args meth c prog_7_method_20_code 2 rw_M_takeOver "DesignTextsModel" D aCl ρ kc am_fts len) (hr : meth.sig.returnType = none)
    (hce : ∀ (id : Nat) (y : MethodName) (ws : List Cond), rPI[id]? = some (y, ws) → am_Ce l call rm D aCl ρ kc am_fts len id y ws) (hrm : rm.cells = 0 ∧ rm.slots = 0) (hR : ∀ {k : Nat}, k ≤ 21 → rm.frames + 1 ≤ R.frames ∧ 8 + (k + 11) + rm.locals ≤ R.locals) :
    ∀ q ∈ tb_M_takeOver call, am_Row (am_J p l e R s m args below meth c 2 D aCl ρ kc len (MQ below Qc args s 0 0 (am_A ρ len s.heap.size))) (am_K s args D aCl ρ kc len Qc) q.1 q.2 := by
  unfold tb_M_takeOver
  refine am_cons (ar_aload_n C d_M_takeOver_0 rfl) ?_
  refine am_cons (ar_aload_n C d_M_takeOver_1 rfl) ?_
  refine am_cons (ar_getf C d_M_takeOver_2 (am_uc ft_Mu) rfl (by decide) (am_mc wt_358)) ?_
  refine am_cons (ar_putI C d_M_takeOver_5 (am_uc ft_Mu) ft_Mo ft_Mn rfl (by decide) (am_mc wt_413) rfl (by decide +kernel)) ?_
  refine am_cons (ar_iconst C d_M_takeOver_8 (by decide)) ?_
  refine am_cons (ar_istore_n C d_M_takeOver_9 rfl) ?_
  refine am_cons (ar_keep [0, 1] (ar_iload_n C d_M_takeOver_10 rfl)) ?_
  refine am_cons (ar_iconst C d_M_takeOver_11 (by decide)) ?_
  refine am_cons (ar_icmp_ge C d_M_takeOver_12 (by decide)) ?_
  refine am_cons (ar_aload_n C d_M_takeOver_15 rfl) ?_
  refine am_cons (ar_getf C d_M_takeOver_16 (am_uc ft_Mu) rfl (by decide) (am_mc wt_414)) ?_
  refine am_cons (ar_iload_n C d_M_takeOver_19 rfl) ?_
  refine am_cons (ar_aload_n C d_M_takeOver_20 rfl) ?_
  refine am_cons (ar_getf C d_M_takeOver_21 (am_uc ft_Mu) rfl (by decide) (am_mc wt_372)) ?_
  refine am_cons (ar_iload_n C d_M_takeOver_24 rfl) ?_
  refine am_cons (ar_iald C d_M_takeOver_25 rfl) ?_
  refine am_cons (ar_iast C d_M_takeOver_26 rfl) ?_
  refine am_cons (ar_iinc C d_M_takeOver_27 (by decide)) ?_
  refine am_cons (ar_goto C d_M_takeOver_30 (by decide)) ?_
  refine am_cons (ar_keep [0] (ar_iconst C d_M_takeOver_33 (by decide))) ?_
  refine am_cons (ar_istore_n C d_M_takeOver_34 rfl) ?_
  refine am_cons (ar_keep [0, 1] (ar_iload_n C d_M_takeOver_35 rfl)) ?_
  refine am_cons (ar_bipush C d_M_takeOver_36 (by decide)) ?_
  refine am_cons (ar_icmp_ge C d_M_takeOver_38 (by decide)) ?_
  refine am_cons (ar_aload_n C d_M_takeOver_41 rfl) ?_
  refine am_cons (ar_getf C d_M_takeOver_42 (am_uc ft_Mu) rfl (by decide) (am_mc wt_415)) ?_
  refine am_cons (ar_iload_n C d_M_takeOver_45 rfl) ?_
  refine am_cons (ar_aload_n C d_M_takeOver_46 rfl) ?_
  refine am_cons (ar_getf C d_M_takeOver_47 (am_uc ft_Mu) rfl (by decide) (am_mc wt_375)) ?_
  refine am_cons (ar_iload_n C d_M_takeOver_50 rfl) ?_
  refine am_cons (ar_iald C d_M_takeOver_51 rfl) ?_
  refine am_cons (ar_iast C d_M_takeOver_52 rfl) ?_
  refine am_cons (ar_aload_n C d_M_takeOver_53 rfl) ?_
  refine am_cons (ar_getf C d_M_takeOver_54 (am_uc ft_Mu) rfl (by decide) (am_mc wt_416)) ?_
  refine am_cons (ar_iload_n C d_M_takeOver_57 rfl) ?_
  refine am_cons (ar_aload_n C d_M_takeOver_58 rfl) ?_
  refine am_cons (ar_getf C d_M_takeOver_59 (am_uc ft_Mu) rfl (by decide) (am_mc wt_379)) ?_
  refine am_cons (ar_iload_n C d_M_takeOver_62 rfl) ?_
  refine am_cons (ar_iald C d_M_takeOver_63 rfl) ?_
  refine am_cons (ar_iast C d_M_takeOver_64 rfl) ?_
  refine am_cons (ar_aload_n C d_M_takeOver_65 rfl) ?_
  refine am_cons (ar_getf C d_M_takeOver_66 (am_uc ft_Mu) rfl (by decide) (am_mc wt_417)) ?_
  refine am_cons (ar_iload_n C d_M_takeOver_69 rfl) ?_
  refine am_cons (ar_aload_n C d_M_takeOver_70 rfl) ?_
  refine am_cons (ar_getf C d_M_takeOver_71 (am_uc ft_Mu) rfl (by decide) (am_mc wt_373)) ?_
  refine am_cons (ar_iload_n C d_M_takeOver_74 rfl) ?_
  refine am_cons (ar_iald C d_M_takeOver_75 rfl) ?_
  refine am_cons (ar_iast C d_M_takeOver_76 rfl) ?_
  refine am_cons (ar_aload_n C d_M_takeOver_77 rfl) ?_
  refine am_cons (ar_getf C d_M_takeOver_78 (am_uc ft_Mu) rfl (by decide) (am_mc wt_418)) ?_
  refine am_cons (ar_iload_n C d_M_takeOver_81 rfl) ?_
  refine am_cons (ar_aload_n C d_M_takeOver_82 rfl) ?_
  refine am_cons (ar_getf C d_M_takeOver_83 (am_uc ft_Mu) rfl (by decide) (am_mc wt_374)) ?_
  refine am_cons (ar_iload_n C d_M_takeOver_86 rfl) ?_
  refine am_cons (ar_iald C d_M_takeOver_87 rfl) ?_
  refine am_cons (ar_iast C d_M_takeOver_88 rfl) ?_
  refine am_cons (ar_aload_n C d_M_takeOver_89 rfl) ?_
  refine am_cons (ar_getf C d_M_takeOver_90 (am_uc ft_Mu) rfl (by decide) (am_mc wt_419)) ?_
  refine am_cons (ar_iload_n C d_M_takeOver_93 rfl) ?_
  refine am_cons (ar_aload_n C d_M_takeOver_94 rfl) ?_
  refine am_cons (ar_getf C d_M_takeOver_95 (am_uc ft_Mu) rfl (by decide) (am_mc wt_383)) ?_
  refine am_cons (ar_iload_n C d_M_takeOver_98 rfl) ?_
  refine am_cons (ar_iald C d_M_takeOver_99 rfl) ?_
  refine am_cons (ar_iast C d_M_takeOver_100 rfl) ?_
  refine am_cons (ar_iinc C d_M_takeOver_101 (by decide)) ?_
  refine am_cons (ar_goto C d_M_takeOver_104 (by decide)) ?_
  refine am_cons (ar_keep [0] (ar_iconst C d_M_takeOver_107 (by decide))) ?_
  refine am_cons (ar_istore_n C d_M_takeOver_108 rfl) ?_
  refine am_cons (ar_keep [0, 1] (ar_iload_n C d_M_takeOver_109 rfl)) ?_
  refine am_cons (ar_bipush C d_M_takeOver_110 (by decide)) ?_
  refine am_cons (ar_icmp_ge C d_M_takeOver_112 (by decide)) ?_
  refine am_cons (ar_aload_n C d_M_takeOver_115 rfl) ?_
  refine am_cons (ar_getf C d_M_takeOver_116 (am_uc ft_Mu) rfl (by decide) (am_mc wt_420)) ?_
  refine am_cons (ar_iload_n C d_M_takeOver_119 rfl) ?_
  refine am_cons (ar_aload_n C d_M_takeOver_120 rfl) ?_
  refine am_cons (ar_getf C d_M_takeOver_121 (am_uc ft_Mu) rfl (by decide) (am_mc wt_384)) ?_
  refine am_cons (ar_iload_n C d_M_takeOver_124 rfl) ?_
  refine am_cons (ar_iald C d_M_takeOver_125 rfl) ?_
  refine am_cons (ar_iast C d_M_takeOver_126 rfl) ?_
  refine am_cons (ar_aload_n C d_M_takeOver_127 rfl) ?_
  refine am_cons (ar_getf C d_M_takeOver_128 (am_uc ft_Mu) rfl (by decide) (am_mc wt_421)) ?_
  refine am_cons (ar_iload_n C d_M_takeOver_131 rfl) ?_
  refine am_cons (ar_aload_n C d_M_takeOver_132 rfl) ?_
  refine am_cons (ar_getf C d_M_takeOver_133 (am_uc ft_Mu) rfl (by decide) (am_mc wt_386)) ?_
  refine am_cons (ar_iload_n C d_M_takeOver_136 rfl) ?_
  refine am_cons (ar_iald C d_M_takeOver_137 rfl) ?_
  refine am_cons (ar_iast C d_M_takeOver_138 rfl) ?_
  refine am_cons (ar_aload_n C d_M_takeOver_139 rfl) ?_
  refine am_cons (ar_getf C d_M_takeOver_140 (am_uc ft_Mu) rfl (by decide) (am_mc wt_422)) ?_
  refine am_cons (ar_iload_n C d_M_takeOver_143 rfl) ?_
  refine am_cons (ar_aload_n C d_M_takeOver_144 rfl) ?_
  refine am_cons (ar_getf C d_M_takeOver_145 (am_uc ft_Mu) rfl (by decide) (am_mc wt_387)) ?_
  refine am_cons (ar_iload_n C d_M_takeOver_148 rfl) ?_
  refine am_cons (ar_iald C d_M_takeOver_149 rfl) ?_
  refine am_cons (ar_iast C d_M_takeOver_150 rfl) ?_
  refine am_cons (ar_iinc C d_M_takeOver_151 (by decide)) ?_
  refine am_cons (ar_goto C d_M_takeOver_154 (by decide)) ?_
  refine am_cons (ar_keep [0] (ar_aload_n C d_M_takeOver_157 rfl)) ?_
  refine am_cons (ar_callV C d_M_takeOver_158 (hce 30 ⟨"DesignTextsModel", "reset", "()V"⟩ rw_M_reset rfl) rfl (am_gv wt_423 wt_424 wt_425 wt_350 wt_338) rfl (by decide +kernel) hrm (hR (by decide))) ?_
  refine am_cons (ar_return C hr d_M_takeOver_161) ?_
  exact am_nil
theorem sd_M_isOrdered {p : Program} {l : Launch} {e : Env} {R : Room} {s : State} {m : MethodId} {args : Array Value} {below : List Frame} {meth : Method} {c : Code} {D : va_G} {ρ : Nat → Nat} {kc : Nat → ClassId} {len : Nat} {Qc : Array Value → State → Outcome → State → Prop} {call : am_C} {rm : Room} (C : am_Cx p R s m args meth c prog_7_method_21_code 4 rw_M_isOrdered "DesignTextsModel" D aCl ρ kc am_fts len) (hr : meth.sig.returnType = some .boolean)
    (hce : ∀ (id : Nat) (y : MethodName) (ws : List Cond), rPI[id]? = some (y, ws) → am_Ce l call rm D aCl ρ kc am_fts len id y ws) (hrm : rm.cells = 0 ∧ rm.slots = 0) (hR : ∀ {k : Nat}, k ≤ 21 → rm.frames + 1 ≤ R.frames ∧ 8 + (k + 11) + rm.locals ≤ R.locals) :
    ∀ q ∈ tb_M_isOrdered call, am_Row (am_J p l e R s m args below meth c 4 D aCl ρ kc len (MQ below Qc args s 0 0 (am_A ρ len s.heap.size))) (am_K s args D aCl ρ kc len Qc) q.1 q.2 := by
  unfold tb_M_isOrdered
  refine am_cons (ar_iconst C d_M_isOrdered_0 (by decide)) ?_
  refine am_cons (ar_istore_n C d_M_isOrdered_1 rfl) ?_
  refine am_cons (ar_iconst C d_M_isOrdered_2 (by decide)) ?_
  refine am_cons (ar_istore_n C d_M_isOrdered_3 rfl) ?_
  refine am_cons (ar_iconst C d_M_isOrdered_4 (by decide)) ?_
  refine am_cons (ar_istore_n C d_M_isOrdered_5 rfl) ?_
  refine am_cons (ar_keep [0, 1, 2, 3] (ar_iload_n C d_M_isOrdered_6 rfl)) ?_
  refine am_cons (ar_aload_n C d_M_isOrdered_7 rfl) ?_
  refine am_cons (ar_getf C d_M_isOrdered_8 (am_uc ft_Mu) rfl (by decide) (am_mc wt_414)) ?_
  refine am_cons (ar_iconst C d_M_isOrdered_11 (by decide)) ?_
  refine am_cons (ar_iald C d_M_isOrdered_12 rfl) ?_
  refine am_cons (ar_icmp_ge C d_M_isOrdered_13 (by decide)) ?_
  refine am_cons (ar_iinc C d_M_isOrdered_16 (by decide)) ?_
  refine am_cons (ar_iload_n C d_M_isOrdered_19 rfl) ?_
  refine am_cons (ar_if_eq C d_M_isOrdered_20 (by decide)) ?_
  refine am_cons (ar_aload_n C d_M_isOrdered_23 rfl) ?_
  refine am_cons (ar_getf C d_M_isOrdered_24 (am_uc ft_Mu) rfl (by decide) (am_mc wt_415)) ?_
  refine am_cons (ar_iload_n C d_M_isOrdered_27 rfl) ?_
  refine am_cons (ar_iald C d_M_isOrdered_28 rfl) ?_
  refine am_cons (ar_iload_n C d_M_isOrdered_29 rfl) ?_
  refine am_cons (ar_icmp_ne C d_M_isOrdered_30 (by decide)) ?_
  refine am_cons (ar_iconst C d_M_isOrdered_33 (by decide)) ?_
  refine am_cons (ar_goto C d_M_isOrdered_34 (by decide)) ?_
  refine am_cons (ar_iconst C d_M_isOrdered_37 (by decide)) ?_
  refine am_cons (ar_istore_n C d_M_isOrdered_38 rfl) ?_
  refine am_cons (ar_iinc C d_M_isOrdered_39 (by decide)) ?_
  refine am_cons (ar_goto C d_M_isOrdered_42 (by decide)) ?_
  refine am_cons (ar_keep [0, 1, 2] (ar_iconst C d_M_isOrdered_45 (by decide))) ?_
  refine am_cons (ar_istore_n C d_M_isOrdered_46 rfl) ?_
  refine am_cons (ar_keep [0, 1, 2, 3] (ar_iload_n C d_M_isOrdered_47 rfl)) ?_
  refine am_cons (ar_aload_n C d_M_isOrdered_48 rfl) ?_
  refine am_cons (ar_getf C d_M_isOrdered_49 (am_uc ft_Mu) rfl (by decide) (am_mc wt_414)) ?_
  refine am_cons (ar_iconst C d_M_isOrdered_52 (by decide)) ?_
  refine am_cons (ar_iald C d_M_isOrdered_53 rfl) ?_
  refine am_cons (ar_icmp_ge C d_M_isOrdered_54 (by decide)) ?_
  refine am_cons (ar_iinc C d_M_isOrdered_57 (by decide)) ?_
  refine am_cons (ar_iload_n C d_M_isOrdered_60 rfl) ?_
  refine am_cons (ar_if_eq C d_M_isOrdered_61 (by decide)) ?_
  refine am_cons (ar_aload_n C d_M_isOrdered_64 rfl) ?_
  refine am_cons (ar_getf C d_M_isOrdered_65 (am_uc ft_Mu) rfl (by decide) (am_mc wt_416)) ?_
  refine am_cons (ar_iload_n C d_M_isOrdered_68 rfl) ?_
  refine am_cons (ar_iald C d_M_isOrdered_69 rfl) ?_
  refine am_cons (ar_iload_n C d_M_isOrdered_70 rfl) ?_
  refine am_cons (ar_icmp_ne C d_M_isOrdered_71 (by decide)) ?_
  refine am_cons (ar_iconst C d_M_isOrdered_74 (by decide)) ?_
  refine am_cons (ar_goto C d_M_isOrdered_75 (by decide)) ?_
  refine am_cons (ar_iconst C d_M_isOrdered_78 (by decide)) ?_
  refine am_cons (ar_istore_n C d_M_isOrdered_79 rfl) ?_
  refine am_cons (ar_iinc C d_M_isOrdered_80 (by decide)) ?_
  refine am_cons (ar_goto C d_M_isOrdered_83 (by decide)) ?_
  refine am_cons (ar_keep [0, 1, 2] (ar_iconst C d_M_isOrdered_86 (by decide))) ?_
  refine am_cons (ar_istore_n C d_M_isOrdered_87 rfl) ?_
  refine am_cons (ar_keep [0, 1, 2, 3] (ar_iload_n C d_M_isOrdered_88 rfl)) ?_
  refine am_cons (ar_aload_n C d_M_isOrdered_89 rfl) ?_
  refine am_cons (ar_getf C d_M_isOrdered_90 (am_uc ft_Mu) rfl (by decide) (am_mc wt_414)) ?_
  refine am_cons (ar_iconst C d_M_isOrdered_93 (by decide)) ?_
  refine am_cons (ar_iald C d_M_isOrdered_94 rfl) ?_
  refine am_cons (ar_icmp_ge C d_M_isOrdered_95 (by decide)) ?_
  refine am_cons (ar_iinc C d_M_isOrdered_98 (by decide)) ?_
  refine am_cons (ar_iload_n C d_M_isOrdered_101 rfl) ?_
  refine am_cons (ar_if_eq C d_M_isOrdered_102 (by decide)) ?_
  refine am_cons (ar_aload_n C d_M_isOrdered_105 rfl) ?_
  refine am_cons (ar_getf C d_M_isOrdered_106 (am_uc ft_Mu) rfl (by decide) (am_mc wt_420)) ?_
  refine am_cons (ar_iload_n C d_M_isOrdered_109 rfl) ?_
  refine am_cons (ar_iald C d_M_isOrdered_110 rfl) ?_
  refine am_cons (ar_iload_n C d_M_isOrdered_111 rfl) ?_
  refine am_cons (ar_icmp_ne C d_M_isOrdered_112 (by decide)) ?_
  refine am_cons (ar_aload_n C d_M_isOrdered_115 rfl) ?_
  refine am_cons (ar_getf C d_M_isOrdered_116 (am_uc ft_Mu) rfl (by decide) (am_mc wt_421)) ?_
  refine am_cons (ar_iload_n C d_M_isOrdered_119 rfl) ?_
  refine am_cons (ar_iald C d_M_isOrdered_120 rfl) ?_
  refine am_cons (ar_iload_n C d_M_isOrdered_121 rfl) ?_
  refine am_cons (ar_icmp_ge C d_M_isOrdered_122 (by decide)) ?_
  refine am_cons (ar_aload_n C d_M_isOrdered_125 rfl) ?_
  refine am_cons (ar_getf C d_M_isOrdered_126 (am_uc ft_Mu) rfl (by decide) (am_mc wt_421)) ?_
  refine am_cons (ar_iload_n C d_M_isOrdered_129 rfl) ?_
  refine am_cons (ar_iald C d_M_isOrdered_130 rfl) ?_
  refine am_cons (ar_aload_n C d_M_isOrdered_131 rfl) ?_
  refine am_cons (ar_getf C d_M_isOrdered_132 (am_uc ft_Mu) rfl (by decide) (am_mc wt_422)) ?_
  refine am_cons (ar_iload_n C d_M_isOrdered_135 rfl) ?_
  refine am_cons (ar_iald C d_M_isOrdered_136 rfl) ?_
  refine am_cons (ar_icmp_lt C d_M_isOrdered_137 (by decide)) ?_
  refine am_cons (ar_iconst C d_M_isOrdered_140 (by decide)) ?_
  refine am_cons (ar_goto C d_M_isOrdered_141 (by decide)) ?_
  refine am_cons (ar_iconst C d_M_isOrdered_144 (by decide)) ?_
  refine am_cons (ar_istore_n C d_M_isOrdered_145 rfl) ?_
  refine am_cons (ar_iinc C d_M_isOrdered_146 (by decide)) ?_
  refine am_cons (ar_goto C d_M_isOrdered_149 (by decide)) ?_
  refine am_cons (ar_keep [0, 1, 2] (ar_iload_n C d_M_isOrdered_152 rfl)) ?_
  refine am_cons (ar_if_eq C d_M_isOrdered_153 (by decide)) ?_
  refine am_cons (ar_iload_n C d_M_isOrdered_156 rfl) ?_
  refine am_cons (ar_iconst C d_M_isOrdered_157 (by decide)) ?_
  refine am_cons (ar_aload_n C d_M_isOrdered_158 rfl) ?_
  refine am_cons (ar_getf C d_M_isOrdered_159 (am_uc ft_Mu) rfl (by decide) (am_mc wt_413)) ?_
  refine am_cons (ar_imul C d_M_isOrdered_162) ?_
  refine am_cons (ar_icmp_ne C d_M_isOrdered_163 (by decide)) ?_
  refine am_cons (ar_iconst C d_M_isOrdered_166 (by decide)) ?_
  refine am_cons (ar_goto C d_M_isOrdered_167 (by decide)) ?_
  refine am_cons (ar_iconst C d_M_isOrdered_170 (by decide)) ?_
  refine am_cons (ar_zreturn C hr d_M_isOrdered_171) ?_
  exact am_nil
theorem sd_M_about {p : Program} {l : Launch} {e : Env} {R : Room} {s : State} {m : MethodId} {args : Array Value} {below : List Frame} {meth : Method} {c : Code} {D : va_G} {ρ : Nat → Nat} {kc : Nat → ClassId} {len : Nat} {Qc : Array Value → State → Outcome → State → Prop} {call : am_C} {rm : Room} (C : am_Cx p R s m args meth c prog_7_method_22_code 2 rw_M_about "DesignTextsModel" D aCl ρ kc am_fts len) (hr : meth.sig.returnType = some .int)
    (hce : ∀ (id : Nat) (y : MethodName) (ws : List Cond), rPI[id]? = some (y, ws) → am_Ce l call rm D aCl ρ kc am_fts len id y ws) (hrm : rm.cells = 0 ∧ rm.slots = 0) (hR : ∀ {k : Nat}, k ≤ 21 → rm.frames + 1 ≤ R.frames ∧ 8 + (k + 11) + rm.locals ≤ R.locals) :
    ∀ q ∈ tb_M_about call, am_Row (am_J p l e R s m args below meth c 2 D aCl ρ kc len (MQ below Qc args s 0 0 (am_A ρ len s.heap.size))) (am_K s args D aCl ρ kc len Qc) q.1 q.2 := by
  unfold tb_M_about
  refine am_cons (ar_aload_n C d_M_about_0 rfl) ?_
  refine am_cons (ar_iconst C d_M_about_1 (by decide)) ?_
  refine am_cons (ar_putI C d_M_about_2 (am_uc ft_Mu) ft_Mo ft_Mn rfl (by decide) (am_mc wt_343) rfl (by decide +kernel)) ?_
  refine am_cons (ar_iload_n C d_M_about_5 rfl) ?_
  refine am_cons (ar_tsw C d_M_about_6 (by decide +kernel) (fun x h => rsw0_6 x ⟨h (0, 48) (by simp), h (1, 53) (by simp), h (2, 53) (by simp), h (3, 53) (by simp), h (4, 53) (by simp), h (5, 62) (by simp), h (6, 67) (by simp)⟩)) ?_
  refine am_cons (ar_aload_n C d_M_about_48 rfl) ?_
  refine am_cons (ar_getf C d_M_about_49 (am_uc ft_Mu) rfl (by decide) (am_mc wt_413)) ?_
  refine am_cons (ar_ireturn C hr d_M_about_52) ?_
  refine am_cons (ar_aload_n C d_M_about_53 rfl) ?_
  refine am_cons (ar_getf C d_M_about_54 (am_uc ft_Mu) rfl (by decide) (am_mc wt_414)) ?_
  refine am_cons (ar_iload_n C d_M_about_57 rfl) ?_
  refine am_cons (ar_iconst C d_M_about_58 (by decide)) ?_
  refine am_cons (ar_isub C d_M_about_59) ?_
  refine am_cons (ar_iald C d_M_about_60 rfl) ?_
  refine am_cons (ar_ireturn C hr d_M_about_61) ?_
  refine am_cons (ar_aload_n C d_M_about_62 rfl) ?_
  refine am_cons (ar_getf C d_M_about_63 (am_uc ft_Mu) rfl (by decide) (am_mc wt_342)) ?_
  refine am_cons (ar_ireturn C hr d_M_about_66) ?_
  refine am_cons (ar_aload_n C d_M_about_67 rfl) ?_
  refine am_cons (ar_callV C d_M_about_68 (hce 18 ⟨"DesignTextsModel", "isOrdered", "()Z"⟩ rw_M_isOrdered rfl) rfl (am_gv wt_426 wt_427 wt_428 wt_350 wt_326) rfl (by decide +kernel) hrm (hR (by decide))) ?_
  refine am_cons (ar_if_eq C d_M_about_71 (by decide)) ?_
  refine am_cons (ar_iconst C d_M_about_74 (by decide)) ?_
  refine am_cons (ar_goto C d_M_about_75 (by decide)) ?_
  refine am_cons (ar_iconst C d_M_about_78 (by decide)) ?_
  refine am_cons (ar_ireturn C hr d_M_about_79) ?_
  refine am_cons (ar_iconst C d_M_about_80 (by decide)) ?_
  refine am_cons (ar_ireturn C hr d_M_about_81) ?_
  exact am_nil
theorem sd_M_has {p : Program} {l : Launch} {e : Env} {R : Room} {s : State} {m : MethodId} {args : Array Value} {below : List Frame} {meth : Method} {c : Code} {D : va_G} {ρ : Nat → Nat} {kc : Nat → ClassId} {len : Nat} {Qc : Array Value → State → Outcome → State → Prop} {call : am_C} {rm : Room} (C : am_Cx p R s m args meth c prog_7_method_23_code 4 rw_M_has "DesignTextsModel" D aCl ρ kc am_fts len) (hr : meth.sig.returnType = some .int)
    (hce : ∀ (id : Nat) (y : MethodName) (ws : List Cond), rPI[id]? = some (y, ws) → am_Ce l call rm D aCl ρ kc am_fts len id y ws) (hrm : rm.cells = 0 ∧ rm.slots = 0) (hR : ∀ {k : Nat}, k ≤ 21 → rm.frames + 1 ≤ R.frames ∧ 8 + (k + 11) + rm.locals ≤ R.locals) :
    ∀ q ∈ tb_M_has call, am_Row (am_J p l e R s m args below meth c 4 D aCl ρ kc len (MQ below Qc args s 0 0 (am_A ρ len s.heap.size))) (am_K s args D aCl ρ kc len Qc) q.1 q.2 := by
  unfold tb_M_has
  refine am_cons (ar_aload_n C d_M_has_0 rfl) ?_
  refine am_cons (ar_iload_n C d_M_has_1 rfl) ?_
  refine am_cons (ar_if_lt C d_M_has_2 (by decide)) ?_
  refine am_cons (ar_iload_n C d_M_has_5 rfl) ?_
  refine am_cons (ar_bipush C d_M_has_6 (by decide)) ?_
  refine am_cons (ar_icmp_le C d_M_has_8 (by decide)) ?_
  refine am_cons (ar_keep [0, 1, 2] (ar_iconst C d_M_has_11 (by decide))) ?_
  refine am_cons (ar_goto C d_M_has_12 (by decide)) ?_
  refine am_cons (ar_iconst C d_M_has_15 (by decide)) ?_
  refine am_cons (ar_keep [0, 1, 2] (ar_putI C d_M_has_16 (am_uc ft_Mu) ft_Mo ft_Mn rfl (by decide) (am_mc wt_343) rfl (by decide +kernel))) ?_
  refine am_cons (ar_aload_n C d_M_has_19 rfl) ?_
  refine am_cons (ar_getf C d_M_has_20 (am_uc ft_Mu) rfl (by decide) (am_mc wt_343)) ?_
  refine am_cons (ar_if_le C d_M_has_23 (by decide)) ?_
  refine am_cons (ar_iconst C d_M_has_26 (by decide)) ?_
  refine am_cons (ar_ireturn C hr d_M_has_27) ?_
  refine am_cons (ar_aload_n C d_M_has_28 rfl) ?_
  refine am_cons (ar_getf C d_M_has_29 (am_uc ft_Mu) rfl (by decide) (am_mc wt_414)) ?_
  refine am_cons (ar_iload_n C d_M_has_32 rfl) ?_
  refine am_cons (ar_iconst C d_M_has_33 (by decide)) ?_
  refine am_cons (ar_icmp_ge C d_M_has_34 (by decide)) ?_
  refine am_cons (ar_iload_n C d_M_has_37 rfl) ?_
  refine am_cons (ar_goto C d_M_has_38 (by decide)) ?_
  refine am_cons (ar_iload_n C d_M_has_41 rfl) ?_
  refine am_cons (ar_bipush C d_M_has_42 (by decide)) ?_
  refine am_cons (ar_icmp_ge C d_M_has_44 (by decide)) ?_
  refine am_cons (ar_iconst C d_M_has_47 (by decide)) ?_
  refine am_cons (ar_goto C d_M_has_48 (by decide)) ?_
  refine am_cons (ar_iconst C d_M_has_51 (by decide)) ?_
  refine am_cons (ar_keep [0, 1, 2] (ar_iald C d_M_has_52 rfl)) ?_
  refine am_cons (ar_istore_n C d_M_has_53 rfl) ?_
  refine am_cons (ar_aload_n C d_M_has_54 rfl) ?_
  refine am_cons (ar_iload_n C d_M_has_55 rfl) ?_
  refine am_cons (ar_if_lt C d_M_has_56 (by decide)) ?_
  refine am_cons (ar_iload_n C d_M_has_59 rfl) ?_
  refine am_cons (ar_iload_n C d_M_has_60 rfl) ?_
  refine am_cons (ar_icmp_lt C d_M_has_61 (by decide)) ?_
  refine am_cons (ar_keep [0, 1, 2] (ar_iconst C d_M_has_64 (by decide))) ?_
  refine am_cons (ar_goto C d_M_has_65 (by decide)) ?_
  refine am_cons (ar_iconst C d_M_has_68 (by decide)) ?_
  refine am_cons (ar_keep [0, 1, 2] (ar_putI C d_M_has_69 (am_uc ft_Mu) ft_Mo ft_Mn rfl (by decide) (am_mc wt_343) rfl (by decide +kernel))) ?_
  refine am_cons (ar_aload_n C d_M_has_72 rfl) ?_
  refine am_cons (ar_getf C d_M_has_73 (am_uc ft_Mu) rfl (by decide) (am_mc wt_343)) ?_
  refine am_cons (ar_if_le C d_M_has_76 (by decide)) ?_
  refine am_cons (ar_iconst C d_M_has_79 (by decide)) ?_
  refine am_cons (ar_ireturn C hr d_M_has_80) ?_
  refine am_cons (ar_iload_n C d_M_has_81 rfl) ?_
  refine am_cons (ar_tsw C d_M_has_82 (by decide +kernel) (fun x h => rsw0_6 x ⟨h (0, 124) (by simp), h (1, 131) (by simp), h (2, 138) (by simp), h (3, 145) (by simp), h (4, 152) (by simp), h (5, 159) (by simp), h (6, 166) (by simp)⟩)) ?_
  refine am_cons (ar_aload_n C d_M_has_124 rfl) ?_
  refine am_cons (ar_getf C d_M_has_125 (am_uc ft_Mu) rfl (by decide) (am_mc wt_415)) ?_
  refine am_cons (ar_iload_n C d_M_has_128 rfl) ?_
  refine am_cons (ar_iald C d_M_has_129 rfl) ?_
  refine am_cons (ar_ireturn C hr d_M_has_130) ?_
  refine am_cons (ar_aload_n C d_M_has_131 rfl) ?_
  refine am_cons (ar_getf C d_M_has_132 (am_uc ft_Mu) rfl (by decide) (am_mc wt_416)) ?_
  refine am_cons (ar_iload_n C d_M_has_135 rfl) ?_
  refine am_cons (ar_iald C d_M_has_136 rfl) ?_
  refine am_cons (ar_ireturn C hr d_M_has_137) ?_
  refine am_cons (ar_aload_n C d_M_has_138 rfl) ?_
  refine am_cons (ar_getf C d_M_has_139 (am_uc ft_Mu) rfl (by decide) (am_mc wt_419)) ?_
  refine am_cons (ar_iload_n C d_M_has_142 rfl) ?_
  refine am_cons (ar_iald C d_M_has_143 rfl) ?_
  refine am_cons (ar_ireturn C hr d_M_has_144) ?_
  refine am_cons (ar_aload_n C d_M_has_145 rfl) ?_
  refine am_cons (ar_getf C d_M_has_146 (am_uc ft_Mu) rfl (by decide) (am_mc wt_420)) ?_
  refine am_cons (ar_iload_n C d_M_has_149 rfl) ?_
  refine am_cons (ar_iald C d_M_has_150 rfl) ?_
  refine am_cons (ar_ireturn C hr d_M_has_151) ?_
  refine am_cons (ar_aload_n C d_M_has_152 rfl) ?_
  refine am_cons (ar_getf C d_M_has_153 (am_uc ft_Mu) rfl (by decide) (am_mc wt_417)) ?_
  refine am_cons (ar_iload_n C d_M_has_156 rfl) ?_
  refine am_cons (ar_iald C d_M_has_157 rfl) ?_
  refine am_cons (ar_ireturn C hr d_M_has_158) ?_
  refine am_cons (ar_aload_n C d_M_has_159 rfl) ?_
  refine am_cons (ar_getf C d_M_has_160 (am_uc ft_Mu) rfl (by decide) (am_mc wt_418)) ?_
  refine am_cons (ar_iload_n C d_M_has_163 rfl) ?_
  refine am_cons (ar_iald C d_M_has_164 rfl) ?_
  refine am_cons (ar_ireturn C hr d_M_has_165) ?_
  refine am_cons (ar_aload_n C d_M_has_166 rfl) ?_
  refine am_cons (ar_getf C d_M_has_167 (am_uc ft_Mu) rfl (by decide) (am_mc wt_421)) ?_
  refine am_cons (ar_iload_n C d_M_has_170 rfl) ?_
  refine am_cons (ar_iald C d_M_has_171 rfl) ?_
  refine am_cons (ar_ireturn C hr d_M_has_172) ?_
  refine am_cons (ar_aload_n C d_M_has_173 rfl) ?_
  refine am_cons (ar_getf C d_M_has_174 (am_uc ft_Mu) rfl (by decide) (am_mc wt_422)) ?_
  refine am_cons (ar_iload_n C d_M_has_177 rfl) ?_
  refine am_cons (ar_iald C d_M_has_178 rfl) ?_
  refine am_cons (ar_ireturn C hr d_M_has_179) ?_
  exact am_nil
theorem sd_M_anew {p : Program} {l : Launch} {e : Env} {R : Room} {s : State} {m : MethodId} {args : Array Value} {below : List Frame} {meth : Method} {c : Code} {D : va_G} {ρ : Nat → Nat} {kc : Nat → ClassId} {len : Nat} {Qc : Array Value → State → Outcome → State → Prop} {call : am_C} {rm : Room} (C : am_Cx p R s m args meth c prog_7_method_24_code 2 rw_M_anew "DesignTextsModel" D aCl ρ kc am_fts len) (hr : meth.sig.returnType = some .int)
    (hce : ∀ (id : Nat) (y : MethodName) (ws : List Cond), rPI[id]? = some (y, ws) → am_Ce l call rm D aCl ρ kc am_fts len id y ws) (hrm : rm.cells = 0 ∧ rm.slots = 0) (hR : ∀ {k : Nat}, k ≤ 21 → rm.frames + 1 ≤ R.frames ∧ 8 + (k + 11) + rm.locals ≤ R.locals) :
    ∀ q ∈ tb_M_anew call, am_Row (am_J p l e R s m args below meth c 2 D aCl ρ kc len (MQ below Qc args s 0 0 (am_A ρ len s.heap.size))) (am_K s args D aCl ρ kc len Qc) q.1 q.2 := by
  unfold tb_M_anew
  refine am_cons (ar_iconst C d_M_anew_0 (by decide)) ?_
  refine am_cons (ar_aload_n C d_M_anew_1 rfl) ?_
  refine am_cons (ar_getf C d_M_anew_2 (am_uc ft_Mu) rfl (by decide) (am_mc wt_429)) ?_
  refine am_cons (ar_iload_n C d_M_anew_5 rfl) ?_
  refine am_cons (ar_iconst C d_M_anew_6 (by decide)) ?_
  refine am_cons (ar_idiv C d_M_anew_7) ?_
  refine am_cons (ar_iald C d_M_anew_8 rfl) ?_
  refine am_cons (ar_imul C d_M_anew_9) ?_
  refine am_cons (ar_iload_n C d_M_anew_10 rfl) ?_
  refine am_cons (ar_iconst C d_M_anew_11 (by decide)) ?_
  refine am_cons (ar_irem C d_M_anew_12) ?_
  refine am_cons (ar_iadd C d_M_anew_13) ?_
  refine am_cons (ar_ireturn C hr d_M_anew_14) ?_
  exact am_nil
theorem sd_M_ready {p : Program} {l : Launch} {e : Env} {R : Room} {s : State} {m : MethodId} {args : Array Value} {below : List Frame} {meth : Method} {c : Code} {D : va_G} {ρ : Nat → Nat} {kc : Nat → ClassId} {len : Nat} {Qc : Array Value → State → Outcome → State → Prop} {call : am_C} {rm : Room} (C : am_Cx p R s m args meth c prog_7_method_25_code 2 rw_M_ready "DesignTextsModel" D aCl ρ kc am_fts len) (hr : meth.sig.returnType = some .int)
    (hce : ∀ (id : Nat) (y : MethodName) (ws : List Cond), rPI[id]? = some (y, ws) → am_Ce l call rm D aCl ρ kc am_fts len id y ws) (hrm : rm.cells = 0 ∧ rm.slots = 0) (hR : ∀ {k : Nat}, k ≤ 21 → rm.frames + 1 ≤ R.frames ∧ 8 + (k + 11) + rm.locals ≤ R.locals) :
    ∀ q ∈ tb_M_ready call, am_Row (am_J p l e R s m args below meth c 2 D aCl ρ kc len (MQ below Qc args s 0 0 (am_A ρ len s.heap.size))) (am_K s args D aCl ρ kc len Qc) q.1 q.2 := by
  unfold tb_M_ready
  refine am_cons (ar_iconst C d_M_ready_0 (by decide)) ?_
  refine am_cons (ar_istore_n C d_M_ready_1 rfl) ?_
  refine am_cons (ar_keep [0, 1] (ar_iload_n C d_M_ready_2 rfl)) ?_
  refine am_cons (ar_aload_n C d_M_ready_3 rfl) ?_
  refine am_cons (ar_getf C d_M_ready_4 (am_uc ft_Mu) rfl (by decide) (am_mc wt_414)) ?_
  refine am_cons (ar_iconst C d_M_ready_7 (by decide)) ?_
  refine am_cons (ar_iald C d_M_ready_8 rfl) ?_
  refine am_cons (ar_icmp_ge C d_M_ready_9 (by decide)) ?_
  refine am_cons (ar_aload_n C d_M_ready_12 rfl) ?_
  refine am_cons (ar_getf C d_M_ready_13 (am_uc ft_Mu) rfl (by decide) (am_mc wt_429)) ?_
  refine am_cons (ar_aload_n C d_M_ready_16 rfl) ?_
  refine am_cons (ar_getf C d_M_ready_17 (am_uc ft_Mu) rfl (by decide) (am_mc wt_420)) ?_
  refine am_cons (ar_iload_n C d_M_ready_20 rfl) ?_
  refine am_cons (ar_iald C d_M_ready_21 rfl) ?_
  refine am_cons (ar_iconst C d_M_ready_22 (by decide)) ?_
  refine am_cons (ar_idiv C d_M_ready_23) ?_
  refine am_cons (ar_iald C d_M_ready_24 rfl) ?_
  refine am_cons (ar_iconst C d_M_ready_25 (by decide)) ?_
  refine am_cons (ar_icmp_ne C d_M_ready_26 (by decide)) ?_
  refine am_cons (ar_aload_n C d_M_ready_29 rfl) ?_
  refine am_cons (ar_getf C d_M_ready_30 (am_uc ft_Mu) rfl (by decide) (am_mc wt_429)) ?_
  refine am_cons (ar_aload_n C d_M_ready_33 rfl) ?_
  refine am_cons (ar_getf C d_M_ready_34 (am_uc ft_Mu) rfl (by decide) (am_mc wt_421)) ?_
  refine am_cons (ar_iload_n C d_M_ready_37 rfl) ?_
  refine am_cons (ar_iald C d_M_ready_38 rfl) ?_
  refine am_cons (ar_iconst C d_M_ready_39 (by decide)) ?_
  refine am_cons (ar_idiv C d_M_ready_40) ?_
  refine am_cons (ar_iald C d_M_ready_41 rfl) ?_
  refine am_cons (ar_iconst C d_M_ready_42 (by decide)) ?_
  refine am_cons (ar_icmp_eq C d_M_ready_43 (by decide)) ?_
  refine am_cons (ar_aload_n C d_M_ready_46 rfl) ?_
  refine am_cons (ar_getf C d_M_ready_47 (am_uc ft_Mu) rfl (by decide) (am_mc wt_429)) ?_
  refine am_cons (ar_aload_n C d_M_ready_50 rfl) ?_
  refine am_cons (ar_getf C d_M_ready_51 (am_uc ft_Mu) rfl (by decide) (am_mc wt_422)) ?_
  refine am_cons (ar_iload_n C d_M_ready_54 rfl) ?_
  refine am_cons (ar_iald C d_M_ready_55 rfl) ?_
  refine am_cons (ar_iconst C d_M_ready_56 (by decide)) ?_
  refine am_cons (ar_idiv C d_M_ready_57) ?_
  refine am_cons (ar_iald C d_M_ready_58 rfl) ?_
  refine am_cons (ar_iconst C d_M_ready_59 (by decide)) ?_
  refine am_cons (ar_icmp_eq C d_M_ready_60 (by decide)) ?_
  refine am_cons (ar_iload_n C d_M_ready_63 rfl) ?_
  refine am_cons (ar_ireturn C hr d_M_ready_64) ?_
  refine am_cons (ar_iinc C d_M_ready_65 (by decide)) ?_
  refine am_cons (ar_goto C d_M_ready_68 (by decide)) ?_
  refine am_cons (ar_keep [] (ar_iconst C d_M_ready_71 (by decide))) ?_
  refine am_cons (ar_ireturn C hr d_M_ready_72) ?_
  exact am_nil
theorem sd_M_order {p : Program} {l : Launch} {e : Env} {R : Room} {s : State} {m : MethodId} {args : Array Value} {below : List Frame} {meth : Method} {c : Code} {D : va_G} {ρ : Nat → Nat} {kc : Nat → ClassId} {len : Nat} {Qc : Array Value → State → Outcome → State → Prop} {call : am_C} {rm : Room} (C : am_Cx p R s m args meth c prog_7_method_26_code 6 rw_M_order "DesignTextsModel" D aCl ρ kc am_fts len) (hr : meth.sig.returnType = none)
    (hce : ∀ (id : Nat) (y : MethodName) (ws : List Cond), rPI[id]? = some (y, ws) → am_Ce l call rm D aCl ρ kc am_fts len id y ws) (hrm : rm.cells = 0 ∧ rm.slots = 0) (hR : ∀ {k : Nat}, k ≤ 21 → rm.frames + 1 ≤ R.frames ∧ 8 + (k + 11) + rm.locals ≤ R.locals) :
    ∀ q ∈ tb_M_order call, am_Row (am_J p l e R s m args below meth c 6 D aCl ρ kc len (MQ below Qc args s 0 0 (am_A ρ len s.heap.size))) (am_K s args D aCl ρ kc len Qc) q.1 q.2 := by
  unfold tb_M_order
  refine am_cons (ar_aload_n C d_M_order_0 rfl) ?_
  refine am_cons (ar_iconst C d_M_order_1 (by decide)) ?_
  refine am_cons (ar_putI C d_M_order_2 (am_uc ft_Mu) ft_Mo ft_Mn rfl (by decide) (am_mc wt_343) rfl (by decide +kernel)) ?_
  refine am_cons (ar_iconst C d_M_order_5 (by decide)) ?_
  refine am_cons (ar_istore_n C d_M_order_6 rfl) ?_
  refine am_cons (ar_keep [0, 1] (ar_iload_n C d_M_order_7 rfl)) ?_
  refine am_cons (ar_bipush C d_M_order_8 (by decide)) ?_
  refine am_cons (ar_icmp_ge C d_M_order_10 (by decide)) ?_
  refine am_cons (ar_aload_n C d_M_order_13 rfl) ?_
  refine am_cons (ar_getf C d_M_order_14 (am_uc ft_Mu) rfl (by decide) (am_mc wt_429)) ?_
  refine am_cons (ar_iload_n C d_M_order_17 rfl) ?_
  refine am_cons (ar_iload_n C d_M_order_18 rfl) ?_
  refine am_cons (ar_if_ne C d_M_order_19 (by decide)) ?_
  refine am_cons (ar_iconst C d_M_order_22 (by decide)) ?_
  refine am_cons (ar_goto C d_M_order_23 (by decide)) ?_
  refine am_cons (ar_iconst C d_M_order_26 (by decide)) ?_
  refine am_cons (ar_iast C d_M_order_27 rfl) ?_
  refine am_cons (ar_iinc C d_M_order_28 (by decide)) ?_
  refine am_cons (ar_goto C d_M_order_31 (by decide)) ?_
  refine am_cons (ar_keep [0] (ar_iconst C d_M_order_34 (by decide))) ?_
  refine am_cons (ar_istore_n C d_M_order_35 rfl) ?_
  refine am_cons (ar_iconst C d_M_order_36 (by decide)) ?_
  refine am_cons (ar_istore_n C d_M_order_37 rfl) ?_
  refine am_cons (ar_keep [0, 1, 2] (ar_iload_n C d_M_order_38 rfl)) ?_
  refine am_cons (ar_aload_n C d_M_order_39 rfl) ?_
  refine am_cons (ar_getf C d_M_order_40 (am_uc ft_Mu) rfl (by decide) (am_mc wt_414)) ?_
  refine am_cons (ar_iconst C d_M_order_43 (by decide)) ?_
  refine am_cons (ar_iald C d_M_order_44 rfl) ?_
  refine am_cons (ar_icmp_ge C d_M_order_45 (by decide)) ?_
  refine am_cons (ar_iinc C d_M_order_48 (by decide)) ?_
  refine am_cons (ar_aload_n C d_M_order_51 rfl) ?_
  refine am_cons (ar_getf C d_M_order_52 (am_uc ft_Mu) rfl (by decide) (am_mc wt_429)) ?_
  refine am_cons (ar_aload_n C d_M_order_55 rfl) ?_
  refine am_cons (ar_getf C d_M_order_56 (am_uc ft_Mu) rfl (by decide) (am_mc wt_415)) ?_
  refine am_cons (ar_iload_n C d_M_order_59 rfl) ?_
  refine am_cons (ar_iald C d_M_order_60 rfl) ?_
  refine am_cons (ar_iconst C d_M_order_61 (by decide)) ?_
  refine am_cons (ar_idiv C d_M_order_62) ?_
  refine am_cons (ar_iload_n C d_M_order_63 rfl) ?_
  refine am_cons (ar_iast C d_M_order_64 rfl) ?_
  refine am_cons (ar_iinc C d_M_order_65 (by decide)) ?_
  refine am_cons (ar_goto C d_M_order_68 (by decide)) ?_
  refine am_cons (ar_keep [0, 1] (ar_iconst C d_M_order_71 (by decide))) ?_
  refine am_cons (ar_istore_n C d_M_order_72 rfl) ?_
  refine am_cons (ar_keep [0, 1, 2] (ar_iload_n C d_M_order_73 rfl)) ?_
  refine am_cons (ar_aload_n C d_M_order_74 rfl) ?_
  refine am_cons (ar_getf C d_M_order_75 (am_uc ft_Mu) rfl (by decide) (am_mc wt_414)) ?_
  refine am_cons (ar_iconst C d_M_order_78 (by decide)) ?_
  refine am_cons (ar_iald C d_M_order_79 rfl) ?_
  refine am_cons (ar_icmp_ge C d_M_order_80 (by decide)) ?_
  refine am_cons (ar_iinc C d_M_order_83 (by decide)) ?_
  refine am_cons (ar_aload_n C d_M_order_86 rfl) ?_
  refine am_cons (ar_getf C d_M_order_87 (am_uc ft_Mu) rfl (by decide) (am_mc wt_429)) ?_
  refine am_cons (ar_aload_n C d_M_order_90 rfl) ?_
  refine am_cons (ar_getf C d_M_order_91 (am_uc ft_Mu) rfl (by decide) (am_mc wt_416)) ?_
  refine am_cons (ar_iload_n C d_M_order_94 rfl) ?_
  refine am_cons (ar_iald C d_M_order_95 rfl) ?_
  refine am_cons (ar_iconst C d_M_order_96 (by decide)) ?_
  refine am_cons (ar_idiv C d_M_order_97) ?_
  refine am_cons (ar_iload_n C d_M_order_98 rfl) ?_
  refine am_cons (ar_iast C d_M_order_99 rfl) ?_
  refine am_cons (ar_iinc C d_M_order_100 (by decide)) ?_
  refine am_cons (ar_goto C d_M_order_103 (by decide)) ?_
  refine am_cons (ar_keep [0, 1] (ar_iload_n C d_M_order_106 rfl)) ?_
  refine am_cons (ar_iconst C d_M_order_107 (by decide)) ?_
  refine am_cons (ar_iadd C d_M_order_108) ?_
  refine am_cons (ar_istore_n C d_M_order_109 rfl) ?_
  refine am_cons (ar_iconst C d_M_order_110 (by decide)) ?_
  refine am_cons (ar_istore_n C d_M_order_111 rfl) ?_
  refine am_cons (ar_keep [0, 1, 2, 3] (ar_iload_n C d_M_order_112 rfl)) ?_
  refine am_cons (ar_aload_n C d_M_order_113 rfl) ?_
  refine am_cons (ar_getf C d_M_order_114 (am_uc ft_Mu) rfl (by decide) (am_mc wt_414)) ?_
  refine am_cons (ar_iconst C d_M_order_117 (by decide)) ?_
  refine am_cons (ar_iald C d_M_order_118 rfl) ?_
  refine am_cons (ar_icmp_ge C d_M_order_119 (by decide)) ?_
  refine am_cons (ar_aload_n C d_M_order_122 rfl) ?_
  refine am_cons (ar_getf C d_M_order_123 (am_uc ft_Mu) rfl (by decide) (am_mc wt_430)) ?_
  refine am_cons (ar_iload_n C d_M_order_126 rfl) ?_
  refine am_cons (ar_aload_n C d_M_order_127 rfl) ?_
  refine am_cons (ar_callV C d_M_order_128 (hce 22 ⟨"DesignTextsModel", "ready", "()I"⟩ rw_M_ready rfl) rfl (am_gv wt_431 wt_432 wt_433 wt_350 wt_330) rfl (by decide +kernel) hrm (hR (by decide))) ?_
  refine am_cons (ar_iast C d_M_order_131 rfl) ?_
  refine am_cons (ar_iinc C d_M_order_132 (by decide)) ?_
  refine am_cons (ar_aload_n C d_M_order_135 rfl) ?_
  refine am_cons (ar_getf C d_M_order_136 (am_uc ft_Mu) rfl (by decide) (am_mc wt_429)) ?_
  refine am_cons (ar_aload_n C d_M_order_139 rfl) ?_
  refine am_cons (ar_getf C d_M_order_140 (am_uc ft_Mu) rfl (by decide) (am_mc wt_420)) ?_
  refine am_cons (ar_aload_n C d_M_order_143 rfl) ?_
  refine am_cons (ar_getf C d_M_order_144 (am_uc ft_Mu) rfl (by decide) (am_mc wt_430)) ?_
  refine am_cons (ar_iload_n C d_M_order_147 rfl) ?_
  refine am_cons (ar_iald C d_M_order_148 rfl) ?_
  refine am_cons (ar_iald C d_M_order_149 rfl) ?_
  refine am_cons (ar_iconst C d_M_order_150 (by decide)) ?_
  refine am_cons (ar_idiv C d_M_order_151) ?_
  refine am_cons (ar_iload_n C d_M_order_152 rfl) ?_
  refine am_cons (ar_iast C d_M_order_153 rfl) ?_
  refine am_cons (ar_iinc C d_M_order_154 (by decide)) ?_
  refine am_cons (ar_goto C d_M_order_157 (by decide)) ?_
  refine am_cons (ar_keep [0, 1, 2] (ar_iconst C d_M_order_160 (by decide))) ?_
  refine am_cons (ar_istore_n C d_M_order_161 rfl) ?_
  refine am_cons (ar_keep [0, 1, 2, 3] (ar_iload_n C d_M_order_162 rfl)) ?_
  refine am_cons (ar_aload_n C d_M_order_163 rfl) ?_
  refine am_cons (ar_getf C d_M_order_164 (am_uc ft_Mu) rfl (by decide) (am_mc wt_414)) ?_
  refine am_cons (ar_iconst C d_M_order_167 (by decide)) ?_
  refine am_cons (ar_iald C d_M_order_168 rfl) ?_
  refine am_cons (ar_icmp_ge C d_M_order_169 (by decide)) ?_
  refine am_cons (ar_aload_n C d_M_order_172 rfl) ?_
  refine am_cons (ar_aload_n C d_M_order_173 rfl) ?_
  refine am_cons (ar_getf C d_M_order_174 (am_uc ft_Mu) rfl (by decide) (am_mc wt_421)) ?_
  refine am_cons (ar_aload_n C d_M_order_177 rfl) ?_
  refine am_cons (ar_getf C d_M_order_178 (am_uc ft_Mu) rfl (by decide) (am_mc wt_430)) ?_
  refine am_cons (ar_iload_n C d_M_order_181 rfl) ?_
  refine am_cons (ar_iald C d_M_order_182 rfl) ?_
  refine am_cons (ar_iald C d_M_order_183 rfl) ?_
  refine am_cons (ar_callV C d_M_order_184 (hce 21 ⟨"DesignTextsModel", "anew", "(I)I"⟩ rw_M_anew rfl) rfl (am_gv wt_434 wt_435 wt_436 wt_350 wt_329) rfl (by decide +kernel) hrm (hR (by decide))) ?_
  refine am_cons (ar_istore C d_M_order_187) ?_
  refine am_cons (ar_aload_n C d_M_order_189 rfl) ?_
  refine am_cons (ar_aload_n C d_M_order_190 rfl) ?_
  refine am_cons (ar_getf C d_M_order_191 (am_uc ft_Mu) rfl (by decide) (am_mc wt_422)) ?_
  refine am_cons (ar_aload_n C d_M_order_194 rfl) ?_
  refine am_cons (ar_getf C d_M_order_195 (am_uc ft_Mu) rfl (by decide) (am_mc wt_430)) ?_
  refine am_cons (ar_iload_n C d_M_order_198 rfl) ?_
  refine am_cons (ar_iald C d_M_order_199 rfl) ?_
  refine am_cons (ar_iald C d_M_order_200 rfl) ?_
  refine am_cons (ar_callV C d_M_order_201 (hce 21 ⟨"DesignTextsModel", "anew", "(I)I"⟩ rw_M_anew rfl) rfl (am_gv wt_434 wt_435 wt_436 wt_350 wt_329) rfl (by decide +kernel) hrm (hR (by decide))) ?_
  refine am_cons (ar_istore C d_M_order_204) ?_
  refine am_cons (ar_aload_n C d_M_order_206 rfl) ?_
  refine am_cons (ar_getf C d_M_order_207 (am_uc ft_Mu) rfl (by decide) (am_mc wt_384)) ?_
  refine am_cons (ar_iload_n C d_M_order_210 rfl) ?_
  refine am_cons (ar_iconst C d_M_order_211 (by decide)) ?_
  refine am_cons (ar_iload_n C d_M_order_212 rfl) ?_
  refine am_cons (ar_iload_n C d_M_order_213 rfl) ?_
  refine am_cons (ar_iadd C d_M_order_214) ?_
  refine am_cons (ar_imul C d_M_order_215) ?_
  refine am_cons (ar_iast C d_M_order_216 rfl) ?_
  refine am_cons (ar_aload_n C d_M_order_217 rfl) ?_
  refine am_cons (ar_getf C d_M_order_218 (am_uc ft_Mu) rfl (by decide) (am_mc wt_386)) ?_
  refine am_cons (ar_iload_n C d_M_order_221 rfl) ?_
  refine am_cons (ar_iload C d_M_order_222) ?_
  refine am_cons (ar_iload C d_M_order_224) ?_
  refine am_cons (ar_icmp_le C d_M_order_226 (by decide)) ?_
  refine am_cons (ar_iload C d_M_order_229) ?_
  refine am_cons (ar_goto C d_M_order_231 (by decide)) ?_
  refine am_cons (ar_iload C d_M_order_234) ?_
  refine am_cons (ar_iast C d_M_order_236 rfl) ?_
  refine am_cons (ar_aload_n C d_M_order_237 rfl) ?_
  refine am_cons (ar_getf C d_M_order_238 (am_uc ft_Mu) rfl (by decide) (am_mc wt_387)) ?_
  refine am_cons (ar_iload_n C d_M_order_241 rfl) ?_
  refine am_cons (ar_iload C d_M_order_242) ?_
  refine am_cons (ar_iload C d_M_order_244) ?_
  refine am_cons (ar_icmp_le C d_M_order_246 (by decide)) ?_
  refine am_cons (ar_iload C d_M_order_249) ?_
  refine am_cons (ar_goto C d_M_order_251 (by decide)) ?_
  refine am_cons (ar_iload C d_M_order_254) ?_
  refine am_cons (ar_iast C d_M_order_256 rfl) ?_
  refine am_cons (ar_iinc C d_M_order_257 (by decide)) ?_
  refine am_cons (ar_goto C d_M_order_260 (by decide)) ?_
  refine am_cons (ar_keep [0, 1] (ar_iconst C d_M_order_263 (by decide))) ?_
  refine am_cons (ar_istore_n C d_M_order_264 rfl) ?_
  refine am_cons (ar_keep [0, 1, 3] (ar_iload_n C d_M_order_265 rfl)) ?_
  refine am_cons (ar_aload_n C d_M_order_266 rfl) ?_
  refine am_cons (ar_getf C d_M_order_267 (am_uc ft_Mu) rfl (by decide) (am_mc wt_414)) ?_
  refine am_cons (ar_iconst C d_M_order_270 (by decide)) ?_
  refine am_cons (ar_iald C d_M_order_271 rfl) ?_
  refine am_cons (ar_icmp_ge C d_M_order_272 (by decide)) ?_
  refine am_cons (ar_aload_n C d_M_order_275 rfl) ?_
  refine am_cons (ar_getf C d_M_order_276 (am_uc ft_Mu) rfl (by decide) (am_mc wt_420)) ?_
  refine am_cons (ar_iload_n C d_M_order_279 rfl) ?_
  refine am_cons (ar_aload_n C d_M_order_280 rfl) ?_
  refine am_cons (ar_getf C d_M_order_281 (am_uc ft_Mu) rfl (by decide) (am_mc wt_384)) ?_
  refine am_cons (ar_iload_n C d_M_order_284 rfl) ?_
  refine am_cons (ar_iald C d_M_order_285 rfl) ?_
  refine am_cons (ar_iast C d_M_order_286 rfl) ?_
  refine am_cons (ar_aload_n C d_M_order_287 rfl) ?_
  refine am_cons (ar_getf C d_M_order_288 (am_uc ft_Mu) rfl (by decide) (am_mc wt_421)) ?_
  refine am_cons (ar_iload_n C d_M_order_291 rfl) ?_
  refine am_cons (ar_aload_n C d_M_order_292 rfl) ?_
  refine am_cons (ar_getf C d_M_order_293 (am_uc ft_Mu) rfl (by decide) (am_mc wt_386)) ?_
  refine am_cons (ar_iload_n C d_M_order_296 rfl) ?_
  refine am_cons (ar_iald C d_M_order_297 rfl) ?_
  refine am_cons (ar_iast C d_M_order_298 rfl) ?_
  refine am_cons (ar_aload_n C d_M_order_299 rfl) ?_
  refine am_cons (ar_getf C d_M_order_300 (am_uc ft_Mu) rfl (by decide) (am_mc wt_422)) ?_
  refine am_cons (ar_iload_n C d_M_order_303 rfl) ?_
  refine am_cons (ar_aload_n C d_M_order_304 rfl) ?_
  refine am_cons (ar_getf C d_M_order_305 (am_uc ft_Mu) rfl (by decide) (am_mc wt_387)) ?_
  refine am_cons (ar_iload_n C d_M_order_308 rfl) ?_
  refine am_cons (ar_iald C d_M_order_309 rfl) ?_
  refine am_cons (ar_iast C d_M_order_310 rfl) ?_
  refine am_cons (ar_iinc C d_M_order_311 (by decide)) ?_
  refine am_cons (ar_goto C d_M_order_314 (by decide)) ?_
  refine am_cons (ar_keep [0, 1] (ar_iconst C d_M_order_317 (by decide))) ?_
  refine am_cons (ar_istore_n C d_M_order_318 rfl) ?_
  refine am_cons (ar_keep [0, 1, 3] (ar_iload_n C d_M_order_319 rfl)) ?_
  refine am_cons (ar_aload_n C d_M_order_320 rfl) ?_
  refine am_cons (ar_getf C d_M_order_321 (am_uc ft_Mu) rfl (by decide) (am_mc wt_414)) ?_
  refine am_cons (ar_iconst C d_M_order_324 (by decide)) ?_
  refine am_cons (ar_iald C d_M_order_325 rfl) ?_
  refine am_cons (ar_icmp_ge C d_M_order_326 (by decide)) ?_
  refine am_cons (ar_aload_n C d_M_order_329 rfl) ?_
  refine am_cons (ar_getf C d_M_order_330 (am_uc ft_Mu) rfl (by decide) (am_mc wt_419)) ?_
  refine am_cons (ar_iload_n C d_M_order_333 rfl) ?_
  refine am_cons (ar_aload_n C d_M_order_334 rfl) ?_
  refine am_cons (ar_aload_n C d_M_order_335 rfl) ?_
  refine am_cons (ar_getf C d_M_order_336 (am_uc ft_Mu) rfl (by decide) (am_mc wt_419)) ?_
  refine am_cons (ar_iload_n C d_M_order_339 rfl) ?_
  refine am_cons (ar_iald C d_M_order_340 rfl) ?_
  refine am_cons (ar_callV C d_M_order_341 (hce 21 ⟨"DesignTextsModel", "anew", "(I)I"⟩ rw_M_anew rfl) rfl (am_gv wt_434 wt_435 wt_436 wt_350 wt_329) rfl (by decide +kernel) hrm (hR (by decide))) ?_
  refine am_cons (ar_iast C d_M_order_344 rfl) ?_
  refine am_cons (ar_iinc C d_M_order_345 (by decide)) ?_
  refine am_cons (ar_goto C d_M_order_348 (by decide)) ?_
  refine am_cons (ar_keep [0, 1] (ar_iconst C d_M_order_351 (by decide))) ?_
  refine am_cons (ar_istore_n C d_M_order_352 rfl) ?_
  refine am_cons (ar_keep [0, 1, 3] (ar_iload_n C d_M_order_353 rfl)) ?_
  refine am_cons (ar_aload_n C d_M_order_354 rfl) ?_
  refine am_cons (ar_getf C d_M_order_355 (am_uc ft_Mu) rfl (by decide) (am_mc wt_414)) ?_
  refine am_cons (ar_iconst C d_M_order_358 (by decide)) ?_
  refine am_cons (ar_iald C d_M_order_359 rfl) ?_
  refine am_cons (ar_icmp_ge C d_M_order_360 (by decide)) ?_
  refine am_cons (ar_aload_n C d_M_order_363 rfl) ?_
  refine am_cons (ar_getf C d_M_order_364 (am_uc ft_Mu) rfl (by decide) (am_mc wt_417)) ?_
  refine am_cons (ar_iload_n C d_M_order_367 rfl) ?_
  refine am_cons (ar_aload_n C d_M_order_368 rfl) ?_
  refine am_cons (ar_aload_n C d_M_order_369 rfl) ?_
  refine am_cons (ar_getf C d_M_order_370 (am_uc ft_Mu) rfl (by decide) (am_mc wt_417)) ?_
  refine am_cons (ar_iload_n C d_M_order_373 rfl) ?_
  refine am_cons (ar_iald C d_M_order_374 rfl) ?_
  refine am_cons (ar_callV C d_M_order_375 (hce 21 ⟨"DesignTextsModel", "anew", "(I)I"⟩ rw_M_anew rfl) rfl (am_gv wt_434 wt_435 wt_436 wt_350 wt_329) rfl (by decide +kernel) hrm (hR (by decide))) ?_
  refine am_cons (ar_iast C d_M_order_378 rfl) ?_
  refine am_cons (ar_aload_n C d_M_order_379 rfl) ?_
  refine am_cons (ar_getf C d_M_order_380 (am_uc ft_Mu) rfl (by decide) (am_mc wt_416)) ?_
  refine am_cons (ar_iload_n C d_M_order_383 rfl) ?_
  refine am_cons (ar_aload_n C d_M_order_384 rfl) ?_
  refine am_cons (ar_aload_n C d_M_order_385 rfl) ?_
  refine am_cons (ar_getf C d_M_order_386 (am_uc ft_Mu) rfl (by decide) (am_mc wt_416)) ?_
  refine am_cons (ar_iload_n C d_M_order_389 rfl) ?_
  refine am_cons (ar_iald C d_M_order_390 rfl) ?_
  refine am_cons (ar_callV C d_M_order_391 (hce 21 ⟨"DesignTextsModel", "anew", "(I)I"⟩ rw_M_anew rfl) rfl (am_gv wt_434 wt_435 wt_436 wt_350 wt_329) rfl (by decide +kernel) hrm (hR (by decide))) ?_
  refine am_cons (ar_iast C d_M_order_394 rfl) ?_
  refine am_cons (ar_iinc C d_M_order_395 (by decide)) ?_
  refine am_cons (ar_goto C d_M_order_398 (by decide)) ?_
  refine am_cons (ar_keep [0, 1] (ar_iconst C d_M_order_401 (by decide))) ?_
  refine am_cons (ar_istore_n C d_M_order_402 rfl) ?_
  refine am_cons (ar_keep [0, 1, 3] (ar_iload_n C d_M_order_403 rfl)) ?_
  refine am_cons (ar_aload_n C d_M_order_404 rfl) ?_
  refine am_cons (ar_getf C d_M_order_405 (am_uc ft_Mu) rfl (by decide) (am_mc wt_414)) ?_
  refine am_cons (ar_iconst C d_M_order_408 (by decide)) ?_
  refine am_cons (ar_iald C d_M_order_409 rfl) ?_
  refine am_cons (ar_icmp_ge C d_M_order_410 (by decide)) ?_
  refine am_cons (ar_aload_n C d_M_order_413 rfl) ?_
  refine am_cons (ar_getf C d_M_order_414 (am_uc ft_Mu) rfl (by decide) (am_mc wt_415)) ?_
  refine am_cons (ar_iload_n C d_M_order_417 rfl) ?_
  refine am_cons (ar_aload_n C d_M_order_418 rfl) ?_
  refine am_cons (ar_aload_n C d_M_order_419 rfl) ?_
  refine am_cons (ar_getf C d_M_order_420 (am_uc ft_Mu) rfl (by decide) (am_mc wt_415)) ?_
  refine am_cons (ar_iload_n C d_M_order_423 rfl) ?_
  refine am_cons (ar_iald C d_M_order_424 rfl) ?_
  refine am_cons (ar_callV C d_M_order_425 (hce 21 ⟨"DesignTextsModel", "anew", "(I)I"⟩ rw_M_anew rfl) rfl (am_gv wt_434 wt_435 wt_436 wt_350 wt_329) rfl (by decide +kernel) hrm (hR (by decide))) ?_
  refine am_cons (ar_iast C d_M_order_428 rfl) ?_
  refine am_cons (ar_iinc C d_M_order_429 (by decide)) ?_
  refine am_cons (ar_goto C d_M_order_432 (by decide)) ?_
  refine am_cons (ar_keep [0, 1] (ar_aload_n C d_M_order_435 rfl)) ?_
  refine am_cons (ar_iload_n C d_M_order_436 rfl) ?_
  refine am_cons (ar_putI C d_M_order_437 (am_uc ft_Mu) ft_Mo ft_Mn rfl (by decide) (am_mc wt_413) rfl (by decide +kernel)) ?_
  refine am_cons (ar_return C hr d_M_order_440) ?_
  exact am_nil
theorem sd_M_add {p : Program} {l : Launch} {e : Env} {R : Room} {s : State} {m : MethodId} {args : Array Value} {below : List Frame} {meth : Method} {c : Code} {D : va_G} {ρ : Nat → Nat} {kc : Nat → ClassId} {len : Nat} {Qc : Array Value → State → Outcome → State → Prop} {call : am_C} {rm : Room} (C : am_Cx p R s m args meth c prog_7_method_27_code 2 rw_M_add "DesignTextsModel" D aCl ρ kc am_fts len) (hr : meth.sig.returnType = none)
    (hce : ∀ (id : Nat) (y : MethodName) (ws : List Cond), rPI[id]? = some (y, ws) → am_Ce l call rm D aCl ρ kc am_fts len id y ws) (hrm : rm.cells = 0 ∧ rm.slots = 0) (hR : ∀ {k : Nat}, k ≤ 21 → rm.frames + 1 ≤ R.frames ∧ 8 + (k + 11) + rm.locals ≤ R.locals) :
    ∀ q ∈ tb_M_add call, am_Row (am_J p l e R s m args below meth c 2 D aCl ρ kc len (MQ below Qc args s 0 0 (am_A ρ len s.heap.size))) (am_K s args D aCl ρ kc len Qc) q.1 q.2 := by
  unfold tb_M_add
  refine am_cons (ar_aload_n C d_M_add_0 rfl) ?_
  refine am_cons (ar_getf C d_M_add_1 (am_uc ft_Mu) rfl (by decide) (am_mc wt_437)) ?_
  refine am_cons (ar_aload_n C d_M_add_4 rfl) ?_
  refine am_cons (ar_getf C d_M_add_5 (am_uc ft_Mu) rfl (by decide) (am_mc wt_438)) ?_
  refine am_cons (ar_iload_n C d_M_add_8 rfl) ?_
  refine am_cons (ar_iast C d_M_add_9 rfl) ?_
  refine am_cons (ar_aload_n C d_M_add_10 rfl) ?_
  refine am_cons (ar_dup C d_M_add_11) ?_
  refine am_cons (ar_getf C d_M_add_12 (am_uc ft_Mu) rfl (by decide) (am_mc wt_438)) ?_
  refine am_cons (ar_iconst C d_M_add_15 (by decide)) ?_
  refine am_cons (ar_iadd C d_M_add_16) ?_
  refine am_cons (ar_putI C d_M_add_17 (am_uc ft_Mu) ft_Mo ft_Mn rfl (by decide) (am_mc wt_438) rfl (by decide +kernel)) ?_
  refine am_cons (ar_return C hr d_M_add_20) ?_
  exact am_nil
theorem sd_M_addNumber {p : Program} {l : Launch} {e : Env} {R : Room} {s : State} {m : MethodId} {args : Array Value} {below : List Frame} {meth : Method} {c : Code} {D : va_G} {ρ : Nat → Nat} {kc : Nat → ClassId} {len : Nat} {Qc : Array Value → State → Outcome → State → Prop} {call : am_C} {rm : Room} (C : am_Cx p R s m args meth c prog_7_method_28_code 3 rw_M_addNumber "DesignTextsModel" D aCl ρ kc am_fts len) (hr : meth.sig.returnType = none)
    (hce : ∀ (id : Nat) (y : MethodName) (ws : List Cond), rPI[id]? = some (y, ws) → am_Ce l call rm D aCl ρ kc am_fts len id y ws) (hrm : rm.cells = 0 ∧ rm.slots = 0) (hR : ∀ {k : Nat}, k ≤ 21 → rm.frames + 1 ≤ R.frames ∧ 8 + (k + 11) + rm.locals ≤ R.locals) :
    ∀ q ∈ tb_M_addNumber call, am_Row (am_J p l e R s m args below meth c 3 D aCl ρ kc len (MQ below Qc args s 0 0 (am_A ρ len s.heap.size))) (am_K s args D aCl ρ kc len Qc) q.1 q.2 := by
  unfold tb_M_addNumber
  refine am_cons (ar_iload_n C d_M_addNumber_0 rfl) ?_
  refine am_cons (ar_sipush C d_M_addNumber_1 (by decide)) ?_
  refine am_cons (ar_icmp_le C d_M_addNumber_4 (by decide)) ?_
  refine am_cons (ar_sipush C d_M_addNumber_7 (by decide)) ?_
  refine am_cons (ar_goto C d_M_addNumber_10 (by decide)) ?_
  refine am_cons (ar_iload_n C d_M_addNumber_13 rfl) ?_
  refine am_cons (ar_bipush C d_M_addNumber_14 (by decide)) ?_
  refine am_cons (ar_icmp_le C d_M_addNumber_16 (by decide)) ?_
  refine am_cons (ar_bipush C d_M_addNumber_19 (by decide)) ?_
  refine am_cons (ar_goto C d_M_addNumber_21 (by decide)) ?_
  refine am_cons (ar_iload_n C d_M_addNumber_24 rfl) ?_
  refine am_cons (ar_bipush C d_M_addNumber_25 (by decide)) ?_
  refine am_cons (ar_icmp_le C d_M_addNumber_27 (by decide)) ?_
  refine am_cons (ar_bipush C d_M_addNumber_30 (by decide)) ?_
  refine am_cons (ar_goto C d_M_addNumber_32 (by decide)) ?_
  refine am_cons (ar_iconst C d_M_addNumber_35 (by decide)) ?_
  refine am_cons (ar_istore_n C d_M_addNumber_36 rfl) ?_
  refine am_cons (ar_keep [0, 1, 2] (ar_iload_n C d_M_addNumber_37 rfl)) ?_
  refine am_cons (ar_if_le C d_M_addNumber_38 (by decide)) ?_
  refine am_cons (ar_aload_n C d_M_addNumber_41 rfl) ?_
  refine am_cons (ar_bipush C d_M_addNumber_42 (by decide)) ?_
  refine am_cons (ar_iload_n C d_M_addNumber_44 rfl) ?_
  refine am_cons (ar_iload_n C d_M_addNumber_45 rfl) ?_
  refine am_cons (ar_idiv C d_M_addNumber_46) ?_
  refine am_cons (ar_bipush C d_M_addNumber_47 (by decide)) ?_
  refine am_cons (ar_irem C d_M_addNumber_49) ?_
  refine am_cons (ar_iadd C d_M_addNumber_50) ?_
  refine am_cons (ar_callV C d_M_addNumber_51 (hce 24 ⟨"DesignTextsModel", "add", "(I)V"⟩ rw_M_add rfl) rfl (am_gv wt_439 wt_440 wt_441 wt_350 wt_332) rfl (by decide +kernel) hrm (hR (by decide))) ?_
  refine am_cons (ar_iload_n C d_M_addNumber_54 rfl) ?_
  refine am_cons (ar_bipush C d_M_addNumber_55 (by decide)) ?_
  refine am_cons (ar_idiv C d_M_addNumber_57) ?_
  refine am_cons (ar_istore_n C d_M_addNumber_58 rfl) ?_
  refine am_cons (ar_goto C d_M_addNumber_59 (by decide)) ?_
  refine am_cons (ar_keep [] (ar_return C hr d_M_addNumber_62)) ?_
  exact am_nil
theorem sd_M_addNext {p : Program} {l : Launch} {e : Env} {R : Room} {s : State} {m : MethodId} {args : Array Value} {below : List Frame} {meth : Method} {c : Code} {D : va_G} {ρ : Nat → Nat} {kc : Nat → ClassId} {len : Nat} {Qc : Array Value → State → Outcome → State → Prop} {call : am_C} {rm : Room} (C : am_Cx p R s m args meth c prog_7_method_29_code 2 rw_M_addNext "DesignTextsModel" D aCl ρ kc am_fts len) (hr : meth.sig.returnType = none)
    (hce : ∀ (id : Nat) (y : MethodName) (ws : List Cond), rPI[id]? = some (y, ws) → am_Ce l call rm D aCl ρ kc am_fts len id y ws) (hrm : rm.cells = 0 ∧ rm.slots = 0) (hR : ∀ {k : Nat}, k ≤ 21 → rm.frames + 1 ≤ R.frames ∧ 8 + (k + 11) + rm.locals ≤ R.locals) :
    ∀ q ∈ tb_M_addNext call, am_Row (am_J p l e R s m args below meth c 2 D aCl ρ kc len (MQ below Qc args s 0 0 (am_A ρ len s.heap.size))) (am_K s args D aCl ρ kc len Qc) q.1 q.2 := by
  unfold tb_M_addNext
  refine am_cons (ar_aload_n C d_M_addNext_0 rfl) ?_
  refine am_cons (ar_aload_n C d_M_addNext_1 rfl) ?_
  refine am_cons (ar_getf C d_M_addNext_2 (am_uc ft_Mu) rfl (by decide) (am_mc wt_417)) ?_
  refine am_cons (ar_iload_n C d_M_addNext_5 rfl) ?_
  refine am_cons (ar_iald C d_M_addNext_6 rfl) ?_
  refine am_cons (ar_callV C d_M_addNext_7 (hce 25 ⟨"DesignTextsModel", "addNumber", "(I)V"⟩ rw_M_addNumber rfl) rfl (am_gv wt_442 wt_443 wt_444 wt_350 wt_333) rfl (by decide +kernel) hrm (hR (by decide))) ?_
  refine am_cons (ar_aload_n C d_M_addNext_10 rfl) ?_
  refine am_cons (ar_getf C d_M_addNext_11 (am_uc ft_Mu) rfl (by decide) (am_mc wt_418)) ?_
  refine am_cons (ar_iload_n C d_M_addNext_14 rfl) ?_
  refine am_cons (ar_iald C d_M_addNext_15 rfl) ?_
  refine am_cons (ar_iconst C d_M_addNext_16 (by decide)) ?_
  refine am_cons (ar_icmp_ne C d_M_addNext_17 (by decide)) ?_
  refine am_cons (ar_aload_n C d_M_addNext_20 rfl) ?_
  refine am_cons (ar_bipush C d_M_addNext_21 (by decide)) ?_
  refine am_cons (ar_callV C d_M_addNext_23 (hce 24 ⟨"DesignTextsModel", "add", "(I)V"⟩ rw_M_add rfl) rfl (am_gv wt_439 wt_440 wt_441 wt_350 wt_332) rfl (by decide +kernel) hrm (hR (by decide))) ?_
  refine am_cons (ar_aload_n C d_M_addNext_26 rfl) ?_
  refine am_cons (ar_bipush C d_M_addNext_27 (by decide)) ?_
  refine am_cons (ar_callV C d_M_addNext_29 (hce 24 ⟨"DesignTextsModel", "add", "(I)V"⟩ rw_M_add rfl) rfl (am_gv wt_439 wt_440 wt_441 wt_350 wt_332) rfl (by decide +kernel) hrm (hR (by decide))) ?_
  refine am_cons (ar_keep [0] (ar_aload_n C d_M_addNext_32 rfl)) ?_
  refine am_cons (ar_bipush C d_M_addNext_33 (by decide)) ?_
  refine am_cons (ar_callV C d_M_addNext_35 (hce 24 ⟨"DesignTextsModel", "add", "(I)V"⟩ rw_M_add rfl) rfl (am_gv wt_439 wt_440 wt_441 wt_350 wt_332) rfl (by decide +kernel) hrm (hR (by decide))) ?_
  refine am_cons (ar_return C hr d_M_addNext_38) ?_
  exact am_nil
theorem sd_M_addDifference {p : Program} {l : Launch} {e : Env} {R : Room} {s : State} {m : MethodId} {args : Array Value} {below : List Frame} {meth : Method} {c : Code} {D : va_G} {ρ : Nat → Nat} {kc : Nat → ClassId} {len : Nat} {Qc : Array Value → State → Outcome → State → Prop} {call : am_C} {rm : Room} (C : am_Cx p R s m args meth c prog_7_method_30_code 2 rw_M_addDifference "DesignTextsModel" D aCl ρ kc am_fts len) (hr : meth.sig.returnType = none)
    (hce : ∀ (id : Nat) (y : MethodName) (ws : List Cond), rPI[id]? = some (y, ws) → am_Ce l call rm D aCl ρ kc am_fts len id y ws) (hrm : rm.cells = 0 ∧ rm.slots = 0) (hR : ∀ {k : Nat}, k ≤ 21 → rm.frames + 1 ≤ R.frames ∧ 8 + (k + 11) + rm.locals ≤ R.locals) :
    ∀ q ∈ tb_M_addDifference call, am_Row (am_J p l e R s m args below meth c 2 D aCl ρ kc len (MQ below Qc args s 0 0 (am_A ρ len s.heap.size))) (am_K s args D aCl ρ kc len Qc) q.1 q.2 := by
  unfold tb_M_addDifference
  refine am_cons (ar_iload_n C d_M_addDifference_0 rfl) ?_
  refine am_cons (ar_bipush C d_M_addDifference_1 (by decide)) ?_
  refine am_cons (ar_icmp_le C d_M_addDifference_3 (by decide)) ?_
  refine am_cons (ar_aload_n C d_M_addDifference_6 rfl) ?_
  refine am_cons (ar_iload_n C d_M_addDifference_7 rfl) ?_
  refine am_cons (ar_sipush C d_M_addDifference_8 (by decide)) ?_
  refine am_cons (ar_irem C d_M_addDifference_11) ?_
  refine am_cons (ar_sipush C d_M_addDifference_12 (by decide)) ?_
  refine am_cons (ar_iadd C d_M_addDifference_15) ?_
  refine am_cons (ar_callV C d_M_addDifference_16 (hce 24 ⟨"DesignTextsModel", "add", "(I)V"⟩ rw_M_add rfl) rfl (am_gv wt_439 wt_440 wt_441 wt_350 wt_332) rfl (by decide +kernel) hrm (hR (by decide))) ?_
  refine am_cons (ar_aload_n C d_M_addDifference_19 rfl) ?_
  refine am_cons (ar_iload_n C d_M_addDifference_20 rfl) ?_
  refine am_cons (ar_sipush C d_M_addDifference_21 (by decide)) ?_
  refine am_cons (ar_idiv C d_M_addDifference_24) ?_
  refine am_cons (ar_callV C d_M_addDifference_25 (hce 24 ⟨"DesignTextsModel", "add", "(I)V"⟩ rw_M_add rfl) rfl (am_gv wt_439 wt_440 wt_441 wt_350 wt_332) rfl (by decide +kernel) hrm (hR (by decide))) ?_
  refine am_cons (ar_goto C d_M_addDifference_28 (by decide)) ?_
  refine am_cons (ar_aload_n C d_M_addDifference_31 rfl) ?_
  refine am_cons (ar_iload_n C d_M_addDifference_32 rfl) ?_
  refine am_cons (ar_callV C d_M_addDifference_33 (hce 24 ⟨"DesignTextsModel", "add", "(I)V"⟩ rw_M_add rfl) rfl (am_gv wt_439 wt_440 wt_441 wt_350 wt_332) rfl (by decide +kernel) hrm (hR (by decide))) ?_
  refine am_cons (ar_return C hr d_M_addDifference_36) ?_
  exact am_nil
theorem sd_M_write {p : Program} {l : Launch} {e : Env} {R : Room} {s : State} {m : MethodId} {args : Array Value} {below : List Frame} {meth : Method} {c : Code} {D : va_G} {ρ : Nat → Nat} {kc : Nat → ClassId} {len : Nat} {Qc : Array Value → State → Outcome → State → Prop} {call : am_C} {rm : Room} (C : am_Cx p R s m args meth c prog_7_method_31_code 3 rw_M_write "DesignTextsModel" D aCl ρ kc am_fts len) (hr : meth.sig.returnType = some .int)
    (hce : ∀ (id : Nat) (y : MethodName) (ws : List Cond), rPI[id]? = some (y, ws) → am_Ce l call rm D aCl ρ kc am_fts len id y ws) (hrm : rm.cells = 0 ∧ rm.slots = 0) (hR : ∀ {k : Nat}, k ≤ 21 → rm.frames + 1 ≤ R.frames ∧ 8 + (k + 11) + rm.locals ≤ R.locals) :
    ∀ q ∈ tb_M_write call, am_Row (am_J p l e R s m args below meth c 3 D aCl ρ kc len (MQ below Qc args s 0 0 (am_A ρ len s.heap.size))) (am_K s args D aCl ρ kc len Qc) q.1 q.2 := by
  unfold tb_M_write
  refine am_cons (ar_aload_n C d_M_write_0 rfl) ?_
  refine am_cons (ar_iload_n C d_M_write_1 rfl) ?_
  refine am_cons (ar_if_lt C d_M_write_2 (by decide)) ?_
  refine am_cons (ar_iload_n C d_M_write_5 rfl) ?_
  refine am_cons (ar_iconst C d_M_write_6 (by decide)) ?_
  refine am_cons (ar_icmp_le C d_M_write_7 (by decide)) ?_
  refine am_cons (ar_keep [0, 1] (ar_iconst C d_M_write_10 (by decide))) ?_
  refine am_cons (ar_goto C d_M_write_11 (by decide)) ?_
  refine am_cons (ar_iload_n C d_M_write_14 rfl) ?_
  refine am_cons (ar_iconst C d_M_write_15 (by decide)) ?_
  refine am_cons (ar_icmp_ne C d_M_write_16 (by decide)) ?_
  refine am_cons (ar_aload_n C d_M_write_19 rfl) ?_
  refine am_cons (ar_callV C d_M_write_20 (hce 18 ⟨"DesignTextsModel", "isOrdered", "()Z"⟩ rw_M_isOrdered rfl) rfl (am_gv wt_426 wt_427 wt_428 wt_350 wt_326) rfl (by decide +kernel) hrm (hR (by decide))) ?_
  refine am_cons (ar_if_ne C d_M_write_23 (by decide)) ?_
  refine am_cons (ar_iconst C d_M_write_26 (by decide)) ?_
  refine am_cons (ar_goto C d_M_write_27 (by decide)) ?_
  refine am_cons (ar_keep [0, 1] (ar_iconst C d_M_write_30 (by decide))) ?_
  refine am_cons (ar_keep [0, 1] (ar_putI C d_M_write_31 (am_uc ft_Mu) ft_Mo ft_Mn rfl (by decide) (am_mc wt_343) rfl (by decide +kernel))) ?_
  refine am_cons (ar_aload_n C d_M_write_34 rfl) ?_
  refine am_cons (ar_getf C d_M_write_35 (am_uc ft_Mu) rfl (by decide) (am_mc wt_343)) ?_
  refine am_cons (ar_if_le C d_M_write_38 (by decide)) ?_
  refine am_cons (ar_iconst C d_M_write_41 (by decide)) ?_
  refine am_cons (ar_ireturn C hr d_M_write_42) ?_
  refine am_cons (ar_aload_n C d_M_write_43 rfl) ?_
  refine am_cons (ar_iconst C d_M_write_44 (by decide)) ?_
  refine am_cons (ar_putI C d_M_write_45 (am_uc ft_Mu) ft_Mo ft_Mn rfl (by decide) (am_mc wt_438) rfl (by decide +kernel)) ?_
  refine am_cons (ar_aload_n C d_M_write_48 rfl) ?_
  refine am_cons (ar_bipush C d_M_write_49 (by decide)) ?_
  refine am_cons (ar_callV C d_M_write_51 (hce 24 ⟨"DesignTextsModel", "add", "(I)V"⟩ rw_M_add rfl) rfl (am_gv wt_439 wt_440 wt_441 wt_350 wt_332) rfl (by decide +kernel) hrm (hR (by decide))) ?_
  refine am_cons (ar_aload_n C d_M_write_54 rfl) ?_
  refine am_cons (ar_iload_n C d_M_write_55 rfl) ?_
  refine am_cons (ar_if_ne C d_M_write_56 (by decide)) ?_
  refine am_cons (ar_bipush C d_M_write_59 (by decide)) ?_
  refine am_cons (ar_goto C d_M_write_61 (by decide)) ?_
  refine am_cons (ar_bipush C d_M_write_64 (by decide)) ?_
  refine am_cons (ar_keep [0, 1] (ar_callV C d_M_write_66 (hce 24 ⟨"DesignTextsModel", "add", "(I)V"⟩ rw_M_add rfl) rfl (am_gv wt_439 wt_440 wt_441 wt_350 wt_332) rfl (by decide +kernel) hrm (hR (by decide)))) ?_
  refine am_cons (ar_aload_n C d_M_write_69 rfl) ?_
  refine am_cons (ar_bipush C d_M_write_70 (by decide)) ?_
  refine am_cons (ar_callV C d_M_write_72 (hce 24 ⟨"DesignTextsModel", "add", "(I)V"⟩ rw_M_add rfl) rfl (am_gv wt_439 wt_440 wt_441 wt_350 wt_332) rfl (by decide +kernel) hrm (hR (by decide))) ?_
  refine am_cons (ar_aload_n C d_M_write_75 rfl) ?_
  refine am_cons (ar_bipush C d_M_write_76 (by decide)) ?_
  refine am_cons (ar_callV C d_M_write_78 (hce 24 ⟨"DesignTextsModel", "add", "(I)V"⟩ rw_M_add rfl) rfl (am_gv wt_439 wt_440 wt_441 wt_350 wt_332) rfl (by decide +kernel) hrm (hR (by decide))) ?_
  refine am_cons (ar_aload_n C d_M_write_81 rfl) ?_
  refine am_cons (ar_aload_n C d_M_write_82 rfl) ?_
  refine am_cons (ar_getf C d_M_write_83 (am_uc ft_Mu) rfl (by decide) (am_mc wt_413)) ?_
  refine am_cons (ar_callV C d_M_write_86 (hce 25 ⟨"DesignTextsModel", "addNumber", "(I)V"⟩ rw_M_addNumber rfl) rfl (am_gv wt_442 wt_443 wt_444 wt_350 wt_333) rfl (by decide +kernel) hrm (hR (by decide))) ?_
  refine am_cons (ar_iconst C d_M_write_89 (by decide)) ?_
  refine am_cons (ar_istore_n C d_M_write_90 rfl) ?_
  refine am_cons (ar_keep [0, 1, 2] (ar_iload_n C d_M_write_91 rfl)) ?_
  refine am_cons (ar_iconst C d_M_write_92 (by decide)) ?_
  refine am_cons (ar_icmp_ge C d_M_write_93 (by decide)) ?_
  refine am_cons (ar_aload_n C d_M_write_96 rfl) ?_
  refine am_cons (ar_bipush C d_M_write_97 (by decide)) ?_
  refine am_cons (ar_callV C d_M_write_99 (hce 24 ⟨"DesignTextsModel", "add", "(I)V"⟩ rw_M_add rfl) rfl (am_gv wt_439 wt_440 wt_441 wt_350 wt_332) rfl (by decide +kernel) hrm (hR (by decide))) ?_
  refine am_cons (ar_aload_n C d_M_write_102 rfl) ?_
  refine am_cons (ar_aload_n C d_M_write_103 rfl) ?_
  refine am_cons (ar_getf C d_M_write_104 (am_uc ft_Mu) rfl (by decide) (am_mc wt_414)) ?_
  refine am_cons (ar_iload_n C d_M_write_107 rfl) ?_
  refine am_cons (ar_iald C d_M_write_108 rfl) ?_
  refine am_cons (ar_callV C d_M_write_109 (hce 25 ⟨"DesignTextsModel", "addNumber", "(I)V"⟩ rw_M_addNumber rfl) rfl (am_gv wt_442 wt_443 wt_444 wt_350 wt_333) rfl (by decide +kernel) hrm (hR (by decide))) ?_
  refine am_cons (ar_iinc C d_M_write_112 (by decide)) ?_
  refine am_cons (ar_goto C d_M_write_115 (by decide)) ?_
  refine am_cons (ar_keep [0, 1] (ar_aload_n C d_M_write_118 rfl)) ?_
  refine am_cons (ar_bipush C d_M_write_119 (by decide)) ?_
  refine am_cons (ar_callV C d_M_write_121 (hce 24 ⟨"DesignTextsModel", "add", "(I)V"⟩ rw_M_add rfl) rfl (am_gv wt_439 wt_440 wt_441 wt_350 wt_332) rfl (by decide +kernel) hrm (hR (by decide))) ?_
  refine am_cons (ar_iconst C d_M_write_124 (by decide)) ?_
  refine am_cons (ar_istore_n C d_M_write_125 rfl) ?_
  refine am_cons (ar_keep [0, 1, 2] (ar_iload_n C d_M_write_126 rfl)) ?_
  refine am_cons (ar_aload_n C d_M_write_127 rfl) ?_
  refine am_cons (ar_getf C d_M_write_128 (am_uc ft_Mu) rfl (by decide) (am_mc wt_414)) ?_
  refine am_cons (ar_iconst C d_M_write_131 (by decide)) ?_
  refine am_cons (ar_iald C d_M_write_132 rfl) ?_
  refine am_cons (ar_icmp_ge C d_M_write_133 (by decide)) ?_
  refine am_cons (ar_iload_n C d_M_write_136 rfl) ?_
  refine am_cons (ar_if_ne C d_M_write_137 (by decide)) ?_
  refine am_cons (ar_aload_n C d_M_write_140 rfl) ?_
  refine am_cons (ar_aload_n C d_M_write_141 rfl) ?_
  refine am_cons (ar_getf C d_M_write_142 (am_uc ft_Mu) rfl (by decide) (am_mc wt_415)) ?_
  refine am_cons (ar_iload_n C d_M_write_145 rfl) ?_
  refine am_cons (ar_iald C d_M_write_146 rfl) ?_
  refine am_cons (ar_callV C d_M_write_147 (hce 25 ⟨"DesignTextsModel", "addNumber", "(I)V"⟩ rw_M_addNumber rfl) rfl (am_gv wt_442 wt_443 wt_444 wt_350 wt_333) rfl (by decide +kernel) hrm (hR (by decide))) ?_
  refine am_cons (ar_aload_n C d_M_write_150 rfl) ?_
  refine am_cons (ar_bipush C d_M_write_151 (by decide)) ?_
  refine am_cons (ar_callV C d_M_write_153 (hce 24 ⟨"DesignTextsModel", "add", "(I)V"⟩ rw_M_add rfl) rfl (am_gv wt_439 wt_440 wt_441 wt_350 wt_332) rfl (by decide +kernel) hrm (hR (by decide))) ?_
  refine am_cons (ar_iinc C d_M_write_156 (by decide)) ?_
  refine am_cons (ar_goto C d_M_write_159 (by decide)) ?_
  refine am_cons (ar_keep [0, 1] (ar_iconst C d_M_write_162 (by decide))) ?_
  refine am_cons (ar_istore_n C d_M_write_163 rfl) ?_
  refine am_cons (ar_keep [0, 1, 2] (ar_iload_n C d_M_write_164 rfl)) ?_
  refine am_cons (ar_aload_n C d_M_write_165 rfl) ?_
  refine am_cons (ar_getf C d_M_write_166 (am_uc ft_Mu) rfl (by decide) (am_mc wt_414)) ?_
  refine am_cons (ar_iconst C d_M_write_169 (by decide)) ?_
  refine am_cons (ar_iald C d_M_write_170 rfl) ?_
  refine am_cons (ar_icmp_ge C d_M_write_171 (by decide)) ?_
  refine am_cons (ar_iload_n C d_M_write_174 rfl) ?_
  refine am_cons (ar_if_ne C d_M_write_175 (by decide)) ?_
  refine am_cons (ar_aload_n C d_M_write_178 rfl) ?_
  refine am_cons (ar_aload_n C d_M_write_179 rfl) ?_
  refine am_cons (ar_getf C d_M_write_180 (am_uc ft_Mu) rfl (by decide) (am_mc wt_416)) ?_
  refine am_cons (ar_iload_n C d_M_write_183 rfl) ?_
  refine am_cons (ar_iald C d_M_write_184 rfl) ?_
  refine am_cons (ar_callV C d_M_write_185 (hce 25 ⟨"DesignTextsModel", "addNumber", "(I)V"⟩ rw_M_addNumber rfl) rfl (am_gv wt_442 wt_443 wt_444 wt_350 wt_333) rfl (by decide +kernel) hrm (hR (by decide))) ?_
  refine am_cons (ar_aload_n C d_M_write_188 rfl) ?_
  refine am_cons (ar_bipush C d_M_write_189 (by decide)) ?_
  refine am_cons (ar_callV C d_M_write_191 (hce 24 ⟨"DesignTextsModel", "add", "(I)V"⟩ rw_M_add rfl) rfl (am_gv wt_439 wt_440 wt_441 wt_350 wt_332) rfl (by decide +kernel) hrm (hR (by decide))) ?_
  refine am_cons (ar_aload_n C d_M_write_194 rfl) ?_
  refine am_cons (ar_iload_n C d_M_write_195 rfl) ?_
  refine am_cons (ar_callV C d_M_write_196 (hce 26 ⟨"DesignTextsModel", "addNext", "(I)V"⟩ rw_M_addNext rfl) rfl (am_gv wt_445 wt_446 wt_447 wt_350 wt_334) rfl (by decide +kernel) hrm (hR (by decide))) ?_
  refine am_cons (ar_iinc C d_M_write_199 (by decide)) ?_
  refine am_cons (ar_goto C d_M_write_202 (by decide)) ?_
  refine am_cons (ar_keep [0, 1] (ar_iconst C d_M_write_205 (by decide))) ?_
  refine am_cons (ar_istore_n C d_M_write_206 rfl) ?_
  refine am_cons (ar_keep [0, 1, 2] (ar_iload_n C d_M_write_207 rfl)) ?_
  refine am_cons (ar_aload_n C d_M_write_208 rfl) ?_
  refine am_cons (ar_getf C d_M_write_209 (am_uc ft_Mu) rfl (by decide) (am_mc wt_414)) ?_
  refine am_cons (ar_iconst C d_M_write_212 (by decide)) ?_
  refine am_cons (ar_iald C d_M_write_213 rfl) ?_
  refine am_cons (ar_icmp_ge C d_M_write_214 (by decide)) ?_
  refine am_cons (ar_aload_n C d_M_write_217 rfl) ?_
  refine am_cons (ar_aload_n C d_M_write_218 rfl) ?_
  refine am_cons (ar_getf C d_M_write_219 (am_uc ft_Mu) rfl (by decide) (am_mc wt_419)) ?_
  refine am_cons (ar_iload_n C d_M_write_222 rfl) ?_
  refine am_cons (ar_iald C d_M_write_223 rfl) ?_
  refine am_cons (ar_callV C d_M_write_224 (hce 25 ⟨"DesignTextsModel", "addNumber", "(I)V"⟩ rw_M_addNumber rfl) rfl (am_gv wt_442 wt_443 wt_444 wt_350 wt_333) rfl (by decide +kernel) hrm (hR (by decide))) ?_
  refine am_cons (ar_aload_n C d_M_write_227 rfl) ?_
  refine am_cons (ar_bipush C d_M_write_228 (by decide)) ?_
  refine am_cons (ar_callV C d_M_write_230 (hce 24 ⟨"DesignTextsModel", "add", "(I)V"⟩ rw_M_add rfl) rfl (am_gv wt_439 wt_440 wt_441 wt_350 wt_332) rfl (by decide +kernel) hrm (hR (by decide))) ?_
  refine am_cons (ar_iinc C d_M_write_233 (by decide)) ?_
  refine am_cons (ar_goto C d_M_write_236 (by decide)) ?_
  refine am_cons (ar_keep [0, 1] (ar_iconst C d_M_write_239 (by decide))) ?_
  refine am_cons (ar_istore_n C d_M_write_240 rfl) ?_
  refine am_cons (ar_keep [0, 1, 2] (ar_iload_n C d_M_write_241 rfl)) ?_
  refine am_cons (ar_aload_n C d_M_write_242 rfl) ?_
  refine am_cons (ar_getf C d_M_write_243 (am_uc ft_Mu) rfl (by decide) (am_mc wt_414)) ?_
  refine am_cons (ar_iconst C d_M_write_246 (by decide)) ?_
  refine am_cons (ar_iald C d_M_write_247 rfl) ?_
  refine am_cons (ar_icmp_ge C d_M_write_248 (by decide)) ?_
  refine am_cons (ar_iload_n C d_M_write_251 rfl) ?_
  refine am_cons (ar_iconst C d_M_write_252 (by decide)) ?_
  refine am_cons (ar_icmp_ne C d_M_write_253 (by decide)) ?_
  refine am_cons (ar_aload_n C d_M_write_256 rfl) ?_
  refine am_cons (ar_aload_n C d_M_write_257 rfl) ?_
  refine am_cons (ar_getf C d_M_write_258 (am_uc ft_Mu) rfl (by decide) (am_mc wt_420)) ?_
  refine am_cons (ar_iload_n C d_M_write_261 rfl) ?_
  refine am_cons (ar_iald C d_M_write_262 rfl) ?_
  refine am_cons (ar_aload_n C d_M_write_263 rfl) ?_
  refine am_cons (ar_getf C d_M_write_264 (am_uc ft_Mu) rfl (by decide) (am_mc wt_421)) ?_
  refine am_cons (ar_iload_n C d_M_write_267 rfl) ?_
  refine am_cons (ar_iald C d_M_write_268 rfl) ?_
  refine am_cons (ar_isub C d_M_write_269) ?_
  refine am_cons (ar_callV C d_M_write_270 (hce 27 ⟨"DesignTextsModel", "addDifference", "(I)V"⟩ rw_M_addDifference rfl) rfl (am_gv wt_448 wt_449 wt_450 wt_350 wt_335) rfl (by decide +kernel) hrm (hR (by decide))) ?_
  refine am_cons (ar_aload_n C d_M_write_273 rfl) ?_
  refine am_cons (ar_aload_n C d_M_write_274 rfl) ?_
  refine am_cons (ar_getf C d_M_write_275 (am_uc ft_Mu) rfl (by decide) (am_mc wt_421)) ?_
  refine am_cons (ar_iload_n C d_M_write_278 rfl) ?_
  refine am_cons (ar_iald C d_M_write_279 rfl) ?_
  refine am_cons (ar_aload_n C d_M_write_280 rfl) ?_
  refine am_cons (ar_getf C d_M_write_281 (am_uc ft_Mu) rfl (by decide) (am_mc wt_422)) ?_
  refine am_cons (ar_iload_n C d_M_write_284 rfl) ?_
  refine am_cons (ar_iald C d_M_write_285 rfl) ?_
  refine am_cons (ar_isub C d_M_write_286) ?_
  refine am_cons (ar_callV C d_M_write_287 (hce 27 ⟨"DesignTextsModel", "addDifference", "(I)V"⟩ rw_M_addDifference rfl) rfl (am_gv wt_448 wt_449 wt_450 wt_350 wt_335) rfl (by decide +kernel) hrm (hR (by decide))) ?_
  refine am_cons (ar_goto C d_M_write_290 (by decide)) ?_
  refine am_cons (ar_aload_n C d_M_write_293 rfl) ?_
  refine am_cons (ar_aload_n C d_M_write_294 rfl) ?_
  refine am_cons (ar_getf C d_M_write_295 (am_uc ft_Mu) rfl (by decide) (am_mc wt_420)) ?_
  refine am_cons (ar_iload_n C d_M_write_298 rfl) ?_
  refine am_cons (ar_iald C d_M_write_299 rfl) ?_
  refine am_cons (ar_callV C d_M_write_300 (hce 25 ⟨"DesignTextsModel", "addNumber", "(I)V"⟩ rw_M_addNumber rfl) rfl (am_gv wt_442 wt_443 wt_444 wt_350 wt_333) rfl (by decide +kernel) hrm (hR (by decide))) ?_
  refine am_cons (ar_aload_n C d_M_write_303 rfl) ?_
  refine am_cons (ar_bipush C d_M_write_304 (by decide)) ?_
  refine am_cons (ar_callV C d_M_write_306 (hce 24 ⟨"DesignTextsModel", "add", "(I)V"⟩ rw_M_add rfl) rfl (am_gv wt_439 wt_440 wt_441 wt_350 wt_332) rfl (by decide +kernel) hrm (hR (by decide))) ?_
  refine am_cons (ar_aload_n C d_M_write_309 rfl) ?_
  refine am_cons (ar_aload_n C d_M_write_310 rfl) ?_
  refine am_cons (ar_getf C d_M_write_311 (am_uc ft_Mu) rfl (by decide) (am_mc wt_421)) ?_
  refine am_cons (ar_iload_n C d_M_write_314 rfl) ?_
  refine am_cons (ar_iald C d_M_write_315 rfl) ?_
  refine am_cons (ar_callV C d_M_write_316 (hce 25 ⟨"DesignTextsModel", "addNumber", "(I)V"⟩ rw_M_addNumber rfl) rfl (am_gv wt_442 wt_443 wt_444 wt_350 wt_333) rfl (by decide +kernel) hrm (hR (by decide))) ?_
  refine am_cons (ar_aload_n C d_M_write_319 rfl) ?_
  refine am_cons (ar_bipush C d_M_write_320 (by decide)) ?_
  refine am_cons (ar_callV C d_M_write_322 (hce 24 ⟨"DesignTextsModel", "add", "(I)V"⟩ rw_M_add rfl) rfl (am_gv wt_439 wt_440 wt_441 wt_350 wt_332) rfl (by decide +kernel) hrm (hR (by decide))) ?_
  refine am_cons (ar_aload_n C d_M_write_325 rfl) ?_
  refine am_cons (ar_aload_n C d_M_write_326 rfl) ?_
  refine am_cons (ar_getf C d_M_write_327 (am_uc ft_Mu) rfl (by decide) (am_mc wt_422)) ?_
  refine am_cons (ar_iload_n C d_M_write_330 rfl) ?_
  refine am_cons (ar_iald C d_M_write_331 rfl) ?_
  refine am_cons (ar_callV C d_M_write_332 (hce 25 ⟨"DesignTextsModel", "addNumber", "(I)V"⟩ rw_M_addNumber rfl) rfl (am_gv wt_442 wt_443 wt_444 wt_350 wt_333) rfl (by decide +kernel) hrm (hR (by decide))) ?_
  refine am_cons (ar_aload_n C d_M_write_335 rfl) ?_
  refine am_cons (ar_bipush C d_M_write_336 (by decide)) ?_
  refine am_cons (ar_callV C d_M_write_338 (hce 24 ⟨"DesignTextsModel", "add", "(I)V"⟩ rw_M_add rfl) rfl (am_gv wt_439 wt_440 wt_441 wt_350 wt_332) rfl (by decide +kernel) hrm (hR (by decide))) ?_
  refine am_cons (ar_iinc C d_M_write_341 (by decide)) ?_
  refine am_cons (ar_goto C d_M_write_344 (by decide)) ?_
  refine am_cons (ar_keep [0] (ar_aload_n C d_M_write_347 rfl)) ?_
  refine am_cons (ar_getf C d_M_write_348 (am_uc ft_Mu) rfl (by decide) (am_mc wt_438)) ?_
  refine am_cons (ar_ireturn C hr d_M_write_351) ?_
  exact am_nil
theorem sd_M_written {p : Program} {l : Launch} {e : Env} {R : Room} {s : State} {m : MethodId} {args : Array Value} {below : List Frame} {meth : Method} {c : Code} {D : va_G} {ρ : Nat → Nat} {kc : Nat → ClassId} {len : Nat} {Qc : Array Value → State → Outcome → State → Prop} {call : am_C} {rm : Room} (C : am_Cx p R s m args meth c prog_7_method_32_code 2 rw_M_written "DesignTextsModel" D aCl ρ kc am_fts len) (hr : meth.sig.returnType = some .int)
    (hce : ∀ (id : Nat) (y : MethodName) (ws : List Cond), rPI[id]? = some (y, ws) → am_Ce l call rm D aCl ρ kc am_fts len id y ws) (hrm : rm.cells = 0 ∧ rm.slots = 0) (hR : ∀ {k : Nat}, k ≤ 21 → rm.frames + 1 ≤ R.frames ∧ 8 + (k + 11) + rm.locals ≤ R.locals) :
    ∀ q ∈ tb_M_written call, am_Row (am_J p l e R s m args below meth c 2 D aCl ρ kc len (MQ below Qc args s 0 0 (am_A ρ len s.heap.size))) (am_K s args D aCl ρ kc len Qc) q.1 q.2 := by
  unfold tb_M_written
  refine am_cons (ar_aload_n C d_M_written_0 rfl) ?_
  refine am_cons (ar_iload_n C d_M_written_1 rfl) ?_
  refine am_cons (ar_if_ge C d_M_written_2 (by decide)) ?_
  refine am_cons (ar_iconst C d_M_written_5 (by decide)) ?_
  refine am_cons (ar_goto C d_M_written_6 (by decide)) ?_
  refine am_cons (ar_iconst C d_M_written_9 (by decide)) ?_
  refine am_cons (ar_keep [0, 1] (ar_putI C d_M_written_10 (am_uc ft_Mu) ft_Mo ft_Mn rfl (by decide) (am_mc wt_343) rfl (by decide +kernel))) ?_
  refine am_cons (ar_aload_n C d_M_written_13 rfl) ?_
  refine am_cons (ar_getf C d_M_written_14 (am_uc ft_Mu) rfl (by decide) (am_mc wt_343)) ?_
  refine am_cons (ar_if_le C d_M_written_17 (by decide)) ?_
  refine am_cons (ar_iconst C d_M_written_20 (by decide)) ?_
  refine am_cons (ar_goto C d_M_written_21 (by decide)) ?_
  refine am_cons (ar_iload_n C d_M_written_24 rfl) ?_
  refine am_cons (ar_aload_n C d_M_written_25 rfl) ?_
  refine am_cons (ar_getf C d_M_written_26 (am_uc ft_Mu) rfl (by decide) (am_mc wt_438)) ?_
  refine am_cons (ar_icmp_ge C d_M_written_29 (by decide)) ?_
  refine am_cons (ar_aload_n C d_M_written_32 rfl) ?_
  refine am_cons (ar_getf C d_M_written_33 (am_uc ft_Mu) rfl (by decide) (am_mc wt_437)) ?_
  refine am_cons (ar_iload_n C d_M_written_36 rfl) ?_
  refine am_cons (ar_iald C d_M_written_37 rfl) ?_
  refine am_cons (ar_goto C d_M_written_38 (by decide)) ?_
  refine am_cons (ar_iconst C d_M_written_41 (by decide)) ?_
  refine am_cons (ar_ireturn C hr d_M_written_42) ?_
  exact am_nil
theorem sd_M_reset {p : Program} {l : Launch} {e : Env} {R : Room} {s : State} {m : MethodId} {args : Array Value} {below : List Frame} {meth : Method} {c : Code} {D : va_G} {ρ : Nat → Nat} {kc : Nat → ClassId} {len : Nat} {Qc : Array Value → State → Outcome → State → Prop} {call : am_C} {rm : Room} (C : am_Cx p R s m args meth c prog_7_method_33_code 2 rw_M_reset "DesignTextsModel" D aCl ρ kc am_fts len) (hr : meth.sig.returnType = none)
    (hce : ∀ (id : Nat) (y : MethodName) (ws : List Cond), rPI[id]? = some (y, ws) → am_Ce l call rm D aCl ρ kc am_fts len id y ws) (hrm : rm.cells = 0 ∧ rm.slots = 0) (hR : ∀ {k : Nat}, k ≤ 21 → rm.frames + 1 ≤ R.frames ∧ 8 + (k + 11) + rm.locals ≤ R.locals) :
    ∀ q ∈ tb_M_reset call, am_Row (am_J p l e R s m args below meth c 2 D aCl ρ kc len (MQ below Qc args s 0 0 (am_A ρ len s.heap.size))) (am_K s args D aCl ρ kc len Qc) q.1 q.2 := by
  unfold tb_M_reset
  refine am_cons (ar_aload_n C d_M_reset_0 rfl) ?_
  refine am_cons (ar_iconst C d_M_reset_1 (by decide)) ?_
  refine am_cons (ar_putI C d_M_reset_2 (am_uc ft_Mu) ft_Mo ft_Mn rfl (by decide) (am_mc wt_343) rfl (by decide +kernel)) ?_
  refine am_cons (ar_iconst C d_M_reset_5 (by decide)) ?_
  refine am_cons (ar_istore_n C d_M_reset_6 rfl) ?_
  refine am_cons (ar_keep [0, 1] (ar_iload_n C d_M_reset_7 rfl)) ?_
  refine am_cons (ar_bipush C d_M_reset_8 (by decide)) ?_
  refine am_cons (ar_icmp_ge C d_M_reset_10 (by decide)) ?_
  refine am_cons (ar_aload_n C d_M_reset_13 rfl) ?_
  refine am_cons (ar_getf C d_M_reset_14 (am_uc ft_Mu) rfl (by decide) (am_mc wt_451)) ?_
  refine am_cons (ar_iload_n C d_M_reset_17 rfl) ?_
  refine am_cons (ar_aload_n C d_M_reset_18 rfl) ?_
  refine am_cons (ar_getf C d_M_reset_19 (am_uc ft_Mu) rfl (by decide) (am_mc wt_418)) ?_
  refine am_cons (ar_iload_n C d_M_reset_22 rfl) ?_
  refine am_cons (ar_iald C d_M_reset_23 rfl) ?_
  refine am_cons (ar_iast C d_M_reset_24 rfl) ?_
  refine am_cons (ar_iinc C d_M_reset_25 (by decide)) ?_
  refine am_cons (ar_goto C d_M_reset_28 (by decide)) ?_
  refine am_cons (ar_keep [] (ar_return C hr d_M_reset_31)) ?_
  exact am_nil
theorem sd_M_valueOf {p : Program} {l : Launch} {e : Env} {R : Room} {s : State} {m : MethodId} {args : Array Value} {below : List Frame} {meth : Method} {c : Code} {D : va_G} {ρ : Nat → Nat} {kc : Nat → ClassId} {len : Nat} {Qc : Array Value → State → Outcome → State → Prop} {call : am_C} {rm : Room} (C : am_Cx p R s m args meth c prog_7_method_34_code 3 rw_M_valueOf "DesignTextsModel" D aCl ρ kc am_fts len) (hr : meth.sig.returnType = some .int)
    (hce : ∀ (id : Nat) (y : MethodName) (ws : List Cond), rPI[id]? = some (y, ws) → am_Ce l call rm D aCl ρ kc am_fts len id y ws) (hrm : rm.cells = 0 ∧ rm.slots = 0) (hR : ∀ {k : Nat}, k ≤ 21 → rm.frames + 1 ≤ R.frames ∧ 8 + (k + 11) + rm.locals ≤ R.locals) :
    ∀ q ∈ tb_M_valueOf call, am_Row (am_J p l e R s m args below meth c 3 D aCl ρ kc len (MQ below Qc args s 0 0 (am_A ρ len s.heap.size))) (am_K s args D aCl ρ kc len Qc) q.1 q.2 := by
  unfold tb_M_valueOf
  refine am_cons (ar_aload_n C d_M_valueOf_0 rfl) ?_
  refine am_cons (ar_getf C d_M_valueOf_1 (am_uc ft_Mu) rfl (by decide) (am_mc wt_452)) ?_
  refine am_cons (ar_iload_n C d_M_valueOf_4 rfl) ?_
  refine am_cons (ar_iconst C d_M_valueOf_5 (by decide)) ?_
  refine am_cons (ar_idiv C d_M_valueOf_6) ?_
  refine am_cons (ar_iald C d_M_valueOf_7 rfl) ?_
  refine am_cons (ar_istore_n C d_M_valueOf_8 rfl) ?_
  refine am_cons (ar_iload_n C d_M_valueOf_9 rfl) ?_
  refine am_cons (ar_iconst C d_M_valueOf_10 (by decide)) ?_
  refine am_cons (ar_icmp_ne C d_M_valueOf_11 (by decide)) ?_
  refine am_cons (ar_iconst C d_M_valueOf_14 (by decide)) ?_
  refine am_cons (ar_goto C d_M_valueOf_15 (by decide)) ?_
  refine am_cons (ar_iload_n C d_M_valueOf_18 rfl) ?_
  refine am_cons (ar_iload_n C d_M_valueOf_19 rfl) ?_
  refine am_cons (ar_iconst C d_M_valueOf_20 (by decide)) ?_
  refine am_cons (ar_irem C d_M_valueOf_21) ?_
  refine am_cons (ar_ixor C d_M_valueOf_22) ?_
  refine am_cons (ar_ireturn C hr d_M_valueOf_23) ?_
  exact am_nil
theorem sd_M_cycle {p : Program} {l : Launch} {e : Env} {R : Room} {s : State} {m : MethodId} {args : Array Value} {below : List Frame} {meth : Method} {c : Code} {D : va_G} {ρ : Nat → Nat} {kc : Nat → ClassId} {len : Nat} {Qc : Array Value → State → Outcome → State → Prop} {call : am_C} {rm : Room} (C : am_Cx p R s m args meth c prog_7_method_35_code 6 rw_M_cycle "DesignTextsModel" D aCl ρ kc am_fts len) (hr : meth.sig.returnType = some .int)
    (hce : ∀ (id : Nat) (y : MethodName) (ws : List Cond), rPI[id]? = some (y, ws) → am_Ce l call rm D aCl ρ kc am_fts len id y ws) (hrm : rm.cells = 0 ∧ rm.slots = 0) (hR : ∀ {k : Nat}, k ≤ 21 → rm.frames + 1 ≤ R.frames ∧ 8 + (k + 11) + rm.locals ≤ R.locals) :
    ∀ q ∈ tb_M_cycle call, am_Row (am_J p l e R s m args below meth c 6 D aCl ρ kc len (MQ below Qc args s 0 0 (am_A ρ len s.heap.size))) (am_K s args D aCl ρ kc len Qc) q.1 q.2 := by
  unfold tb_M_cycle
  refine am_cons (ar_aload_n C d_M_cycle_0 rfl) ?_
  refine am_cons (ar_iconst C d_M_cycle_1 (by decide)) ?_
  refine am_cons (ar_putI C d_M_cycle_2 (am_uc ft_Mu) ft_Mo ft_Mn rfl (by decide) (am_mc wt_343) rfl (by decide +kernel)) ?_
  refine am_cons (ar_iconst C d_M_cycle_5 (by decide)) ?_
  refine am_cons (ar_istore_n C d_M_cycle_6 rfl) ?_
  refine am_cons (ar_keep [0, 1, 2] (ar_iload_n C d_M_cycle_7 rfl)) ?_
  refine am_cons (ar_bipush C d_M_cycle_8 (by decide)) ?_
  refine am_cons (ar_icmp_ge C d_M_cycle_10 (by decide)) ?_
  refine am_cons (ar_aload_n C d_M_cycle_13 rfl) ?_
  refine am_cons (ar_getf C d_M_cycle_14 (am_uc ft_Mu) rfl (by decide) (am_mc wt_452)) ?_
  refine am_cons (ar_iload_n C d_M_cycle_17 rfl) ?_
  refine am_cons (ar_iload_n C d_M_cycle_18 rfl) ?_
  refine am_cons (ar_if_ne C d_M_cycle_19 (by decide)) ?_
  refine am_cons (ar_iconst C d_M_cycle_22 (by decide)) ?_
  refine am_cons (ar_goto C d_M_cycle_23 (by decide)) ?_
  refine am_cons (ar_iconst C d_M_cycle_26 (by decide)) ?_
  refine am_cons (ar_iast C d_M_cycle_27 rfl) ?_
  refine am_cons (ar_iinc C d_M_cycle_28 (by decide)) ?_
  refine am_cons (ar_goto C d_M_cycle_31 (by decide)) ?_
  refine am_cons (ar_keep [0, 1] (ar_iconst C d_M_cycle_34 (by decide))) ?_
  refine am_cons (ar_istore_n C d_M_cycle_35 rfl) ?_
  refine am_cons (ar_keep [0, 1, 2] (ar_iload_n C d_M_cycle_36 rfl)) ?_
  refine am_cons (ar_aload_n C d_M_cycle_37 rfl) ?_
  refine am_cons (ar_getf C d_M_cycle_38 (am_uc ft_Mu) rfl (by decide) (am_mc wt_414)) ?_
  refine am_cons (ar_iconst C d_M_cycle_41 (by decide)) ?_
  refine am_cons (ar_iald C d_M_cycle_42 rfl) ?_
  refine am_cons (ar_icmp_ge C d_M_cycle_43 (by decide)) ?_
  refine am_cons (ar_aload_n C d_M_cycle_46 rfl) ?_
  refine am_cons (ar_getf C d_M_cycle_47 (am_uc ft_Mu) rfl (by decide) (am_mc wt_452)) ?_
  refine am_cons (ar_aload_n C d_M_cycle_50 rfl) ?_
  refine am_cons (ar_getf C d_M_cycle_51 (am_uc ft_Mu) rfl (by decide) (am_mc wt_415)) ?_
  refine am_cons (ar_iload_n C d_M_cycle_54 rfl) ?_
  refine am_cons (ar_iald C d_M_cycle_55 rfl) ?_
  refine am_cons (ar_iconst C d_M_cycle_56 (by decide)) ?_
  refine am_cons (ar_idiv C d_M_cycle_57) ?_
  refine am_cons (ar_iload_n C d_M_cycle_58 rfl) ?_
  refine am_cons (ar_iload_n C d_M_cycle_59 rfl) ?_
  refine am_cons (ar_ishr C d_M_cycle_60) ?_
  refine am_cons (ar_iconst C d_M_cycle_61 (by decide)) ?_
  refine am_cons (ar_iand C d_M_cycle_62) ?_
  refine am_cons (ar_iast C d_M_cycle_63 rfl) ?_
  refine am_cons (ar_iinc C d_M_cycle_64 (by decide)) ?_
  refine am_cons (ar_goto C d_M_cycle_67 (by decide)) ?_
  refine am_cons (ar_keep [0] (ar_iconst C d_M_cycle_70 (by decide))) ?_
  refine am_cons (ar_istore_n C d_M_cycle_71 rfl) ?_
  refine am_cons (ar_keep [0, 2] (ar_iload_n C d_M_cycle_72 rfl)) ?_
  refine am_cons (ar_aload_n C d_M_cycle_73 rfl) ?_
  refine am_cons (ar_getf C d_M_cycle_74 (am_uc ft_Mu) rfl (by decide) (am_mc wt_414)) ?_
  refine am_cons (ar_iconst C d_M_cycle_77 (by decide)) ?_
  refine am_cons (ar_iald C d_M_cycle_78 rfl) ?_
  refine am_cons (ar_icmp_ge C d_M_cycle_79 (by decide)) ?_
  refine am_cons (ar_aload_n C d_M_cycle_82 rfl) ?_
  refine am_cons (ar_getf C d_M_cycle_83 (am_uc ft_Mu) rfl (by decide) (am_mc wt_452)) ?_
  refine am_cons (ar_aload_n C d_M_cycle_86 rfl) ?_
  refine am_cons (ar_getf C d_M_cycle_87 (am_uc ft_Mu) rfl (by decide) (am_mc wt_416)) ?_
  refine am_cons (ar_iload_n C d_M_cycle_90 rfl) ?_
  refine am_cons (ar_iald C d_M_cycle_91 rfl) ?_
  refine am_cons (ar_iconst C d_M_cycle_92 (by decide)) ?_
  refine am_cons (ar_idiv C d_M_cycle_93) ?_
  refine am_cons (ar_aload_n C d_M_cycle_94 rfl) ?_
  refine am_cons (ar_getf C d_M_cycle_95 (am_uc ft_Mu) rfl (by decide) (am_mc wt_451)) ?_
  refine am_cons (ar_iload_n C d_M_cycle_98 rfl) ?_
  refine am_cons (ar_iald C d_M_cycle_99 rfl) ?_
  refine am_cons (ar_iast C d_M_cycle_100 rfl) ?_
  refine am_cons (ar_iinc C d_M_cycle_101 (by decide)) ?_
  refine am_cons (ar_goto C d_M_cycle_104 (by decide)) ?_
  refine am_cons (ar_keep [0] (ar_iconst C d_M_cycle_107 (by decide))) ?_
  refine am_cons (ar_istore_n C d_M_cycle_108 rfl) ?_
  refine am_cons (ar_keep [0, 2] (ar_iload_n C d_M_cycle_109 rfl)) ?_
  refine am_cons (ar_if_eq C d_M_cycle_110 (by decide)) ?_
  refine am_cons (ar_iconst C d_M_cycle_113 (by decide)) ?_
  refine am_cons (ar_istore_n C d_M_cycle_114 rfl) ?_
  refine am_cons (ar_iconst C d_M_cycle_115 (by decide)) ?_
  refine am_cons (ar_istore_n C d_M_cycle_116 rfl) ?_
  refine am_cons (ar_keep [0, 2, 3] (ar_iload_n C d_M_cycle_117 rfl)) ?_
  refine am_cons (ar_aload_n C d_M_cycle_118 rfl) ?_
  refine am_cons (ar_getf C d_M_cycle_119 (am_uc ft_Mu) rfl (by decide) (am_mc wt_414)) ?_
  refine am_cons (ar_iconst C d_M_cycle_122 (by decide)) ?_
  refine am_cons (ar_iald C d_M_cycle_123 rfl) ?_
  refine am_cons (ar_icmp_ge C d_M_cycle_124 (by decide)) ?_
  refine am_cons (ar_aload_n C d_M_cycle_127 rfl) ?_
  refine am_cons (ar_aload_n C d_M_cycle_128 rfl) ?_
  refine am_cons (ar_getf C d_M_cycle_129 (am_uc ft_Mu) rfl (by decide) (am_mc wt_421)) ?_
  refine am_cons (ar_iload_n C d_M_cycle_132 rfl) ?_
  refine am_cons (ar_iald C d_M_cycle_133 rfl) ?_
  refine am_cons (ar_callV C d_M_cycle_134 (hce 31 ⟨"DesignTextsModel", "valueOf", "(I)I"⟩ rw_M_valueOf rfl) rfl (am_gv wt_453 wt_454 wt_455 wt_350 wt_339) rfl (by decide +kernel) hrm (hR (by decide))) ?_
  refine am_cons (ar_istore C d_M_cycle_137) ?_
  refine am_cons (ar_aload_n C d_M_cycle_139 rfl) ?_
  refine am_cons (ar_aload_n C d_M_cycle_140 rfl) ?_
  refine am_cons (ar_getf C d_M_cycle_141 (am_uc ft_Mu) rfl (by decide) (am_mc wt_422)) ?_
  refine am_cons (ar_iload_n C d_M_cycle_144 rfl) ?_
  refine am_cons (ar_iald C d_M_cycle_145 rfl) ?_
  refine am_cons (ar_callV C d_M_cycle_146 (hce 31 ⟨"DesignTextsModel", "valueOf", "(I)I"⟩ rw_M_valueOf rfl) rfl (am_gv wt_453 wt_454 wt_455 wt_350 wt_339) rfl (by decide +kernel) hrm (hR (by decide))) ?_
  refine am_cons (ar_istore C d_M_cycle_149) ?_
  refine am_cons (ar_aload_n C d_M_cycle_151 rfl) ?_
  refine am_cons (ar_getf C d_M_cycle_152 (am_uc ft_Mu) rfl (by decide) (am_mc wt_452)) ?_
  refine am_cons (ar_aload_n C d_M_cycle_155 rfl) ?_
  refine am_cons (ar_getf C d_M_cycle_156 (am_uc ft_Mu) rfl (by decide) (am_mc wt_420)) ?_
  refine am_cons (ar_iload_n C d_M_cycle_159 rfl) ?_
  refine am_cons (ar_iald C d_M_cycle_160 rfl) ?_
  refine am_cons (ar_iconst C d_M_cycle_161 (by decide)) ?_
  refine am_cons (ar_idiv C d_M_cycle_162) ?_
  refine am_cons (ar_iald C d_M_cycle_163 rfl) ?_
  refine am_cons (ar_iconst C d_M_cycle_164 (by decide)) ?_
  refine am_cons (ar_icmp_ne C d_M_cycle_165 (by decide)) ?_
  refine am_cons (ar_iload C d_M_cycle_168) ?_
  refine am_cons (ar_iconst C d_M_cycle_170 (by decide)) ?_
  refine am_cons (ar_icmp_eq C d_M_cycle_171 (by decide)) ?_
  refine am_cons (ar_iload C d_M_cycle_174) ?_
  refine am_cons (ar_iconst C d_M_cycle_176 (by decide)) ?_
  refine am_cons (ar_icmp_eq C d_M_cycle_177 (by decide)) ?_
  refine am_cons (ar_aload_n C d_M_cycle_180 rfl) ?_
  refine am_cons (ar_getf C d_M_cycle_181 (am_uc ft_Mu) rfl (by decide) (am_mc wt_452)) ?_
  refine am_cons (ar_aload_n C d_M_cycle_184 rfl) ?_
  refine am_cons (ar_getf C d_M_cycle_185 (am_uc ft_Mu) rfl (by decide) (am_mc wt_420)) ?_
  refine am_cons (ar_iload_n C d_M_cycle_188 rfl) ?_
  refine am_cons (ar_iald C d_M_cycle_189 rfl) ?_
  refine am_cons (ar_iconst C d_M_cycle_190 (by decide)) ?_
  refine am_cons (ar_idiv C d_M_cycle_191) ?_
  refine am_cons (ar_iload C d_M_cycle_192) ?_
  refine am_cons (ar_iload C d_M_cycle_194) ?_
  refine am_cons (ar_iand C d_M_cycle_196) ?_
  refine am_cons (ar_iast C d_M_cycle_197 rfl) ?_
  refine am_cons (ar_iconst C d_M_cycle_198 (by decide)) ?_
  refine am_cons (ar_istore_n C d_M_cycle_199 rfl) ?_
  refine am_cons (ar_iinc C d_M_cycle_200 (by decide)) ?_
  refine am_cons (ar_goto C d_M_cycle_203 (by decide)) ?_
  refine am_cons (ar_keep [0, 2] (ar_goto C d_M_cycle_206 (by decide))) ?_
  refine am_cons (ar_keep [0] (ar_iconst C d_M_cycle_209 (by decide))) ?_
  refine am_cons (ar_istore_n C d_M_cycle_210 rfl) ?_
  refine am_cons (ar_iconst C d_M_cycle_211 (by decide)) ?_
  refine am_cons (ar_istore C d_M_cycle_212) ?_
  refine am_cons (ar_keep [0, 3, 4] (ar_iload C d_M_cycle_214)) ?_
  refine am_cons (ar_aload_n C d_M_cycle_216 rfl) ?_
  refine am_cons (ar_getf C d_M_cycle_217 (am_uc ft_Mu) rfl (by decide) (am_mc wt_414)) ?_
  refine am_cons (ar_iconst C d_M_cycle_220 (by decide)) ?_
  refine am_cons (ar_iald C d_M_cycle_221 rfl) ?_
  refine am_cons (ar_icmp_ge C d_M_cycle_222 (by decide)) ?_
  refine am_cons (ar_iload_n C d_M_cycle_225 rfl) ?_
  refine am_cons (ar_aload_n C d_M_cycle_226 rfl) ?_
  refine am_cons (ar_aload_n C d_M_cycle_227 rfl) ?_
  refine am_cons (ar_getf C d_M_cycle_228 (am_uc ft_Mu) rfl (by decide) (am_mc wt_419)) ?_
  refine am_cons (ar_iload C d_M_cycle_231) ?_
  refine am_cons (ar_iald C d_M_cycle_233 rfl) ?_
  refine am_cons (ar_callV C d_M_cycle_234 (hce 31 ⟨"DesignTextsModel", "valueOf", "(I)I"⟩ rw_M_valueOf rfl) rfl (am_gv wt_453 wt_454 wt_455 wt_350 wt_339) rfl (by decide +kernel) hrm (hR (by decide))) ?_
  refine am_cons (ar_iload C d_M_cycle_237) ?_
  refine am_cons (ar_ishl C d_M_cycle_239) ?_
  refine am_cons (ar_ior C d_M_cycle_240) ?_
  refine am_cons (ar_istore_n C d_M_cycle_241 rfl) ?_
  refine am_cons (ar_iinc C d_M_cycle_242 (by decide)) ?_
  refine am_cons (ar_goto C d_M_cycle_245 (by decide)) ?_
  refine am_cons (ar_keep [0, 3] (ar_iconst C d_M_cycle_248 (by decide))) ?_
  refine am_cons (ar_istore C d_M_cycle_249) ?_
  refine am_cons (ar_keep [0, 3, 4] (ar_iload C d_M_cycle_251)) ?_
  refine am_cons (ar_aload_n C d_M_cycle_253 rfl) ?_
  refine am_cons (ar_getf C d_M_cycle_254 (am_uc ft_Mu) rfl (by decide) (am_mc wt_414)) ?_
  refine am_cons (ar_iconst C d_M_cycle_257 (by decide)) ?_
  refine am_cons (ar_iald C d_M_cycle_258 rfl) ?_
  refine am_cons (ar_icmp_ge C d_M_cycle_259 (by decide)) ?_
  refine am_cons (ar_aload_n C d_M_cycle_262 rfl) ?_
  refine am_cons (ar_getf C d_M_cycle_263 (am_uc ft_Mu) rfl (by decide) (am_mc wt_451)) ?_
  refine am_cons (ar_iload C d_M_cycle_266) ?_
  refine am_cons (ar_aload_n C d_M_cycle_268 rfl) ?_
  refine am_cons (ar_aload_n C d_M_cycle_269 rfl) ?_
  refine am_cons (ar_getf C d_M_cycle_270 (am_uc ft_Mu) rfl (by decide) (am_mc wt_417)) ?_
  refine am_cons (ar_iload C d_M_cycle_273) ?_
  refine am_cons (ar_iald C d_M_cycle_275 rfl) ?_
  refine am_cons (ar_callV C d_M_cycle_276 (hce 31 ⟨"DesignTextsModel", "valueOf", "(I)I"⟩ rw_M_valueOf rfl) rfl (am_gv wt_453 wt_454 wt_455 wt_350 wt_339) rfl (by decide +kernel) hrm (hR (by decide))) ?_
  refine am_cons (ar_iast C d_M_cycle_279 rfl) ?_
  refine am_cons (ar_iinc C d_M_cycle_280 (by decide)) ?_
  refine am_cons (ar_goto C d_M_cycle_283 (by decide)) ?_
  refine am_cons (ar_keep [3] (ar_iload_n C d_M_cycle_286 rfl)) ?_
  refine am_cons (ar_ireturn C hr d_M_cycle_287) ?_
  exact am_nil
theorem sd_M_latches {p : Program} {l : Launch} {e : Env} {R : Room} {s : State} {m : MethodId} {args : Array Value} {below : List Frame} {meth : Method} {c : Code} {D : va_G} {ρ : Nat → Nat} {kc : Nat → ClassId} {len : Nat} {Qc : Array Value → State → Outcome → State → Prop} {call : am_C} {rm : Room} (C : am_Cx p R s m args meth c prog_7_method_36_code 3 rw_M_latches "DesignTextsModel" D aCl ρ kc am_fts len) (hr : meth.sig.returnType = some .int)
    (hce : ∀ (id : Nat) (y : MethodName) (ws : List Cond), rPI[id]? = some (y, ws) → am_Ce l call rm D aCl ρ kc am_fts len id y ws) (hrm : rm.cells = 0 ∧ rm.slots = 0) (hR : ∀ {k : Nat}, k ≤ 21 → rm.frames + 1 ≤ R.frames ∧ 8 + (k + 11) + rm.locals ≤ R.locals) :
    ∀ q ∈ tb_M_latches call, am_Row (am_J p l e R s m args below meth c 3 D aCl ρ kc len (MQ below Qc args s 0 0 (am_A ρ len s.heap.size))) (am_K s args D aCl ρ kc len Qc) q.1 q.2 := by
  unfold tb_M_latches
  refine am_cons (ar_aload_n C d_M_latches_0 rfl) ?_
  refine am_cons (ar_iconst C d_M_latches_1 (by decide)) ?_
  refine am_cons (ar_putI C d_M_latches_2 (am_uc ft_Mu) ft_Mo ft_Mn rfl (by decide) (am_mc wt_343) rfl (by decide +kernel)) ?_
  refine am_cons (ar_iconst C d_M_latches_5 (by decide)) ?_
  refine am_cons (ar_istore_n C d_M_latches_6 rfl) ?_
  refine am_cons (ar_iconst C d_M_latches_7 (by decide)) ?_
  refine am_cons (ar_istore_n C d_M_latches_8 rfl) ?_
  refine am_cons (ar_keep [0, 1, 2] (ar_iload_n C d_M_latches_9 rfl)) ?_
  refine am_cons (ar_aload_n C d_M_latches_10 rfl) ?_
  refine am_cons (ar_getf C d_M_latches_11 (am_uc ft_Mu) rfl (by decide) (am_mc wt_414)) ?_
  refine am_cons (ar_iconst C d_M_latches_14 (by decide)) ?_
  refine am_cons (ar_iald C d_M_latches_15 rfl) ?_
  refine am_cons (ar_icmp_ge C d_M_latches_16 (by decide)) ?_
  refine am_cons (ar_iload_n C d_M_latches_19 rfl) ?_
  refine am_cons (ar_aload_n C d_M_latches_20 rfl) ?_
  refine am_cons (ar_getf C d_M_latches_21 (am_uc ft_Mu) rfl (by decide) (am_mc wt_451)) ?_
  refine am_cons (ar_iload_n C d_M_latches_24 rfl) ?_
  refine am_cons (ar_iald C d_M_latches_25 rfl) ?_
  refine am_cons (ar_iload_n C d_M_latches_26 rfl) ?_
  refine am_cons (ar_ishl C d_M_latches_27) ?_
  refine am_cons (ar_ior C d_M_latches_28) ?_
  refine am_cons (ar_istore_n C d_M_latches_29 rfl) ?_
  refine am_cons (ar_iinc C d_M_latches_30 (by decide)) ?_
  refine am_cons (ar_goto C d_M_latches_33 (by decide)) ?_
  refine am_cons (ar_keep [1] (ar_iload_n C d_M_latches_36 rfl)) ?_
  refine am_cons (ar_ireturn C hr d_M_latches_37) ?_
  exact am_nil
