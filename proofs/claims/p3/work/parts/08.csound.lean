theorem sd_B_size {p : Program} {l : Launch} {e : Env} {R : Room} {s : State} {m : MethodId} {args : Array Value} {below : List Frame} {meth : Method} {c : Code} {D : va_G} {ρ : Nat → Nat} {kc : Nat → ClassId} {len : Nat} {Qc : Array Value → State → Outcome → State → Prop} {call : am_C} {rm : Room} (C : am_Cx p R s m args meth c prog_2_method_2_code 1 cw_B_size "DesignTexts$Bytes" D aCl ρ kc am_fts len) (hr : meth.sig.returnType = some .int)
    (hce : ∀ (id : Nat) (y : MethodName) (ws : List Cond), cPI[id]? = some (y, ws) → am_Ce l call rm D aCl ρ kc am_fts len id y ws) (hrm : rm.cells = 0 ∧ rm.slots = 0) (hR : ∀ {k : Nat}, k ≤ 21 → rm.frames + 1 ≤ R.frames ∧ 8 + (k + 11) + rm.locals ≤ R.locals) :
    ∀ q ∈ tb_B_size call, am_Row (am_J p l e R s m args below meth c 1 D aCl ρ kc len (MQ below Qc args s 0 0 (am_A ρ len s.heap.size))) (am_K s args D aCl ρ kc len Qc) q.1 q.2 := by
  unfold tb_B_size
  refine am_cons (ar_aload_n C d_B_size_0 rfl) ?_
  refine am_cons (ar_getf C d_B_size_1 (am_uc ft_Bu) rfl (by decide) (am_mc wt_72)) ?_
  refine am_cons (ar_ireturn C hr d_B_size_4) ?_
  exact am_nil
theorem sd_B_clear {p : Program} {l : Launch} {e : Env} {R : Room} {s : State} {m : MethodId} {args : Array Value} {below : List Frame} {meth : Method} {c : Code} {D : va_G} {ρ : Nat → Nat} {kc : Nat → ClassId} {len : Nat} {Qc : Array Value → State → Outcome → State → Prop} {call : am_C} {rm : Room} (C : am_Cx p R s m args meth c prog_2_method_3_code 1 cw_B_clear "DesignTexts$Bytes" D aCl ρ kc am_fts len) (hr : meth.sig.returnType = none)
    (hce : ∀ (id : Nat) (y : MethodName) (ws : List Cond), cPI[id]? = some (y, ws) → am_Ce l call rm D aCl ρ kc am_fts len id y ws) (hrm : rm.cells = 0 ∧ rm.slots = 0) (hR : ∀ {k : Nat}, k ≤ 21 → rm.frames + 1 ≤ R.frames ∧ 8 + (k + 11) + rm.locals ≤ R.locals) :
    ∀ q ∈ tb_B_clear call, am_Row (am_J p l e R s m args below meth c 1 D aCl ρ kc len (MQ below Qc args s 0 0 (am_A ρ len s.heap.size))) (am_K s args D aCl ρ kc len Qc) q.1 q.2 := by
  unfold tb_B_clear
  refine am_cons (ar_aload_n C d_B_clear_0 rfl) ?_
  refine am_cons (ar_iconst C d_B_clear_1 (by decide)) ?_
  refine am_cons (ar_putI C d_B_clear_2 (am_uc ft_Bu) ft_Bo ft_Bn rfl (by decide) (am_mc wt_72) rfl (by decide +kernel)) ?_
  refine am_cons (ar_return C hr d_B_clear_5) ?_
  exact am_nil
theorem sd_B_add {p : Program} {l : Launch} {e : Env} {R : Room} {s : State} {m : MethodId} {args : Array Value} {below : List Frame} {meth : Method} {c : Code} {D : va_G} {ρ : Nat → Nat} {kc : Nat → ClassId} {len : Nat} {Qc : Array Value → State → Outcome → State → Prop} {call : am_C} {rm : Room} (C : am_Cx p R s m args meth c prog_2_method_4_code 2 cw_B_add "DesignTexts$Bytes" D aCl ρ kc am_fts len) (hr : meth.sig.returnType = none)
    (hce : ∀ (id : Nat) (y : MethodName) (ws : List Cond), cPI[id]? = some (y, ws) → am_Ce l call rm D aCl ρ kc am_fts len id y ws) (hrm : rm.cells = 0 ∧ rm.slots = 0) (hR : ∀ {k : Nat}, k ≤ 21 → rm.frames + 1 ≤ R.frames ∧ 8 + (k + 11) + rm.locals ≤ R.locals) :
    ∀ q ∈ tb_B_add call, am_Row (am_J p l e R s m args below meth c 2 D aCl ρ kc len (MQ below Qc args s 0 0 (am_A ρ len s.heap.size))) (am_K s args D aCl ρ kc len Qc) q.1 q.2 := by
  unfold tb_B_add
  refine am_cons (ar_aload_n C d_B_add_0 rfl) ?_
  refine am_cons (ar_getf C d_B_add_1 (am_uc ft_Bu) rfl (by decide) (am_mc wt_72)) ?_
  refine am_cons (ar_if_lt C d_B_add_4 (by decide)) ?_
  refine am_cons (ar_aload_n C d_B_add_7 rfl) ?_
  refine am_cons (ar_getf C d_B_add_8 (am_uc ft_Bu) rfl (by decide) (am_mc wt_72)) ?_
  refine am_cons (ar_aload_n C d_B_add_11 rfl) ?_
  refine am_cons (ar_getf C d_B_add_12 (am_uc ft_Bu) rfl (by decide) (am_mc wt_73)) ?_
  refine am_cons (ar_alen C d_B_add_15) ?_
  refine am_cons (ar_icmp_ge C d_B_add_16 (by decide)) ?_
  refine am_cons (ar_aload_n C d_B_add_19 rfl) ?_
  refine am_cons (ar_getf C d_B_add_20 (am_uc ft_Bu) rfl (by decide) (am_mc wt_73)) ?_
  refine am_cons (ar_aload_n C d_B_add_23 rfl) ?_
  refine am_cons (ar_getf C d_B_add_24 (am_uc ft_Bu) rfl (by decide) (am_mc wt_72)) ?_
  refine am_cons (ar_iload_n C d_B_add_27 rfl) ?_
  refine am_cons (ar_i2b C d_B_add_28) ?_
  refine am_cons (ar_bast C d_B_add_29 rfl) ?_
  refine am_cons (ar_aload_n C d_B_add_30 rfl) ?_
  refine am_cons (ar_dup C d_B_add_31) ?_
  refine am_cons (ar_getf C d_B_add_32 (am_uc ft_Bu) rfl (by decide) (am_mc wt_72)) ?_
  refine am_cons (ar_iconst C d_B_add_35 (by decide)) ?_
  refine am_cons (ar_iadd C d_B_add_36) ?_
  refine am_cons (ar_putI C d_B_add_37 (am_uc ft_Bu) ft_Bo ft_Bn rfl (by decide) (am_mc wt_72) rfl (by decide +kernel)) ?_
  refine am_cons (ar_return C hr d_B_add_40) ?_
  exact am_nil
theorem sd_B_at {p : Program} {l : Launch} {e : Env} {R : Room} {s : State} {m : MethodId} {args : Array Value} {below : List Frame} {meth : Method} {c : Code} {D : va_G} {ρ : Nat → Nat} {kc : Nat → ClassId} {len : Nat} {Qc : Array Value → State → Outcome → State → Prop} {call : am_C} {rm : Room} (C : am_Cx p R s m args meth c prog_2_method_5_code 2 cw_B_at "DesignTexts$Bytes" D aCl ρ kc am_fts len) (hr : meth.sig.returnType = some .int)
    (hce : ∀ (id : Nat) (y : MethodName) (ws : List Cond), cPI[id]? = some (y, ws) → am_Ce l call rm D aCl ρ kc am_fts len id y ws) (hrm : rm.cells = 0 ∧ rm.slots = 0) (hR : ∀ {k : Nat}, k ≤ 21 → rm.frames + 1 ≤ R.frames ∧ 8 + (k + 11) + rm.locals ≤ R.locals) :
    ∀ q ∈ tb_B_at call, am_Row (am_J p l e R s m args below meth c 2 D aCl ρ kc len (MQ below Qc args s 0 0 (am_A ρ len s.heap.size))) (am_K s args D aCl ρ kc len Qc) q.1 q.2 := by
  unfold tb_B_at
  refine am_cons (ar_iload_n C d_B_at_0 rfl) ?_
  refine am_cons (ar_if_lt C d_B_at_1 (by decide)) ?_
  refine am_cons (ar_iload_n C d_B_at_4 rfl) ?_
  refine am_cons (ar_aload_n C d_B_at_5 rfl) ?_
  refine am_cons (ar_getf C d_B_at_6 (am_uc ft_Bu) rfl (by decide) (am_mc wt_72)) ?_
  refine am_cons (ar_icmp_ge C d_B_at_9 (by decide)) ?_
  refine am_cons (ar_iload_n C d_B_at_12 rfl) ?_
  refine am_cons (ar_aload_n C d_B_at_13 rfl) ?_
  refine am_cons (ar_getf C d_B_at_14 (am_uc ft_Bu) rfl (by decide) (am_mc wt_73)) ?_
  refine am_cons (ar_alen C d_B_at_17) ?_
  refine am_cons (ar_icmp_ge C d_B_at_18 (by decide)) ?_
  refine am_cons (ar_aload_n C d_B_at_21 rfl) ?_
  refine am_cons (ar_getf C d_B_at_22 (am_uc ft_Bu) rfl (by decide) (am_mc wt_73)) ?_
  refine am_cons (ar_iload_n C d_B_at_25 rfl) ?_
  refine am_cons (ar_bald C d_B_at_26 rfl) ?_
  refine am_cons (ar_sipush C d_B_at_27 (by decide)) ?_
  refine am_cons (ar_iand C d_B_at_30) ?_
  refine am_cons (ar_goto C d_B_at_31 (by decide)) ?_
  refine am_cons (ar_iconst C d_B_at_34 (by decide)) ?_
  refine am_cons (ar_ireturn C hr d_B_at_35) ?_
  exact am_nil
theorem sd_D_most {p : Program} {l : Launch} {e : Env} {R : Room} {s : State} {m : MethodId} {args : Array Value} {below : List Frame} {meth : Method} {c : Code} {D : va_G} {ρ : Nat → Nat} {kc : Nat → ClassId} {len : Nat} {Qc : Array Value → State → Outcome → State → Prop} {call : am_C} {rm : Room} (C : am_Cx p R s m args meth c prog_3_method_2_code 1 cw_D_most "DesignTexts$Design" D aCl ρ kc am_fts len) (hr : meth.sig.returnType = some .int)
    (hce : ∀ (id : Nat) (y : MethodName) (ws : List Cond), cPI[id]? = some (y, ws) → am_Ce l call rm D aCl ρ kc am_fts len id y ws) (hrm : rm.cells = 0 ∧ rm.slots = 0) (hR : ∀ {k : Nat}, k ≤ 21 → rm.frames + 1 ≤ R.frames ∧ 8 + (k + 11) + rm.locals ≤ R.locals) :
    ∀ q ∈ tb_D_most call, am_Row (am_J p l e R s m args below meth c 1 D aCl ρ kc len (MQ below Qc args s 0 0 (am_A ρ len s.heap.size))) (am_K s args D aCl ρ kc len Qc) q.1 q.2 := by
  unfold tb_D_most
  refine am_cons (ar_aload_n C d_D_most_0 rfl) ?_
  refine am_cons (ar_getf C d_D_most_1 (am_uc ft_Du) rfl (by decide) (am_mc wt_74)) ?_
  refine am_cons (ar_ireturn C hr d_D_most_4) ?_
  exact am_nil
theorem sd_D_setMost {p : Program} {l : Launch} {e : Env} {R : Room} {s : State} {m : MethodId} {args : Array Value} {below : List Frame} {meth : Method} {c : Code} {D : va_G} {ρ : Nat → Nat} {kc : Nat → ClassId} {len : Nat} {Qc : Array Value → State → Outcome → State → Prop} {call : am_C} {rm : Room} (C : am_Cx p R s m args meth c prog_3_method_3_code 2 cw_D_setMost "DesignTexts$Design" D aCl ρ kc am_fts len) (hr : meth.sig.returnType = none)
    (hce : ∀ (id : Nat) (y : MethodName) (ws : List Cond), cPI[id]? = some (y, ws) → am_Ce l call rm D aCl ρ kc am_fts len id y ws) (hrm : rm.cells = 0 ∧ rm.slots = 0) (hR : ∀ {k : Nat}, k ≤ 21 → rm.frames + 1 ≤ R.frames ∧ 8 + (k + 11) + rm.locals ≤ R.locals) :
    ∀ q ∈ tb_D_setMost call, am_Row (am_J p l e R s m args below meth c 2 D aCl ρ kc len (MQ below Qc args s 0 0 (am_A ρ len s.heap.size))) (am_K s args D aCl ρ kc len Qc) q.1 q.2 := by
  unfold tb_D_setMost
  refine am_cons (ar_aload_n C d_D_setMost_0 rfl) ?_
  refine am_cons (ar_iload_n C d_D_setMost_1 rfl) ?_
  refine am_cons (ar_putI C d_D_setMost_2 (am_uc ft_Du) ft_Do ft_Dn rfl (by decide) (am_mc wt_74) rfl (by decide +kernel)) ?_
  refine am_cons (ar_return C hr d_D_setMost_5) ?_
  exact am_nil
theorem sd_D_latchBits {p : Program} {l : Launch} {e : Env} {R : Room} {s : State} {m : MethodId} {args : Array Value} {below : List Frame} {meth : Method} {c : Code} {D : va_G} {ρ : Nat → Nat} {kc : Nat → ClassId} {len : Nat} {Qc : Array Value → State → Outcome → State → Prop} {call : am_C} {rm : Room} (C : am_Cx p R s m args meth c prog_3_method_4_code 1 cw_D_latchBits "DesignTexts$Design" D aCl ρ kc am_fts len) (hr : meth.sig.returnType = some .int)
    (hce : ∀ (id : Nat) (y : MethodName) (ws : List Cond), cPI[id]? = some (y, ws) → am_Ce l call rm D aCl ρ kc am_fts len id y ws) (hrm : rm.cells = 0 ∧ rm.slots = 0) (hR : ∀ {k : Nat}, k ≤ 21 → rm.frames + 1 ≤ R.frames ∧ 8 + (k + 11) + rm.locals ≤ R.locals) :
    ∀ q ∈ tb_D_latchBits call, am_Row (am_J p l e R s m args below meth c 1 D aCl ρ kc len (MQ below Qc args s 0 0 (am_A ρ len s.heap.size))) (am_K s args D aCl ρ kc len Qc) q.1 q.2 := by
  unfold tb_D_latchBits
  refine am_cons (ar_aload_n C d_D_latchBits_0 rfl) ?_
  refine am_cons (ar_getf C d_D_latchBits_1 (am_uc ft_Du) rfl (by decide) (am_mc wt_75)) ?_
  refine am_cons (ar_ireturn C hr d_D_latchBits_4) ?_
  exact am_nil
theorem sd_D_many {p : Program} {l : Launch} {e : Env} {R : Room} {s : State} {m : MethodId} {args : Array Value} {below : List Frame} {meth : Method} {c : Code} {D : va_G} {ρ : Nat → Nat} {kc : Nat → ClassId} {len : Nat} {Qc : Array Value → State → Outcome → State → Prop} {call : am_C} {rm : Room} (C : am_Cx p R s m args meth c prog_3_method_5_code 2 cw_D_many "DesignTexts$Design" D aCl ρ kc am_fts len) (hr : meth.sig.returnType = some .int)
    (hce : ∀ (id : Nat) (y : MethodName) (ws : List Cond), cPI[id]? = some (y, ws) → am_Ce l call rm D aCl ρ kc am_fts len id y ws) (hrm : rm.cells = 0 ∧ rm.slots = 0) (hR : ∀ {k : Nat}, k ≤ 21 → rm.frames + 1 ≤ R.frames ∧ 8 + (k + 11) + rm.locals ≤ R.locals) :
    ∀ q ∈ tb_D_many call, am_Row (am_J p l e R s m args below meth c 2 D aCl ρ kc len (MQ below Qc args s 0 0 (am_A ρ len s.heap.size))) (am_K s args D aCl ρ kc len Qc) q.1 q.2 := by
  unfold tb_D_many
  refine am_cons (ar_iload_n C d_D_many_0 rfl) ?_
  refine am_cons (ar_tsw C d_D_many_1 (by decide +kernel) (fun x h => csw0_7 x ⟨h (0, 48) (by simp), h (1, 55) (by simp), h (2, 62) (by simp), h (3, 69) (by simp), h (4, 55) (by simp), h (5, 55) (by simp), h (6, 69) (by simp), h (7, 69) (by simp)⟩)) ?_
  refine am_cons (ar_aload_n C d_D_many_48 rfl) ?_
  refine am_cons (ar_getf C d_D_many_49 (am_uc ft_Du) rfl (by decide) (am_mc wt_76)) ?_
  refine am_cons (ar_iconst C d_D_many_52 (by decide)) ?_
  refine am_cons (ar_iald C d_D_many_53 rfl) ?_
  refine am_cons (ar_ireturn C hr d_D_many_54) ?_
  refine am_cons (ar_aload_n C d_D_many_55 rfl) ?_
  refine am_cons (ar_getf C d_D_many_56 (am_uc ft_Du) rfl (by decide) (am_mc wt_76)) ?_
  refine am_cons (ar_iconst C d_D_many_59 (by decide)) ?_
  refine am_cons (ar_iald C d_D_many_60 rfl) ?_
  refine am_cons (ar_ireturn C hr d_D_many_61) ?_
  refine am_cons (ar_aload_n C d_D_many_62 rfl) ?_
  refine am_cons (ar_getf C d_D_many_63 (am_uc ft_Du) rfl (by decide) (am_mc wt_76)) ?_
  refine am_cons (ar_iconst C d_D_many_66 (by decide)) ?_
  refine am_cons (ar_iald C d_D_many_67 rfl) ?_
  refine am_cons (ar_ireturn C hr d_D_many_68) ?_
  refine am_cons (ar_aload_n C d_D_many_69 rfl) ?_
  refine am_cons (ar_getf C d_D_many_70 (am_uc ft_Du) rfl (by decide) (am_mc wt_76)) ?_
  refine am_cons (ar_iconst C d_D_many_73 (by decide)) ?_
  refine am_cons (ar_iald C d_D_many_74 rfl) ?_
  refine am_cons (ar_ireturn C hr d_D_many_75) ?_
  refine am_cons (ar_iconst C d_D_many_76 (by decide)) ?_
  refine am_cons (ar_ireturn C hr d_D_many_77) ?_
  exact am_nil
theorem sd_D_setMany {p : Program} {l : Launch} {e : Env} {R : Room} {s : State} {m : MethodId} {args : Array Value} {below : List Frame} {meth : Method} {c : Code} {D : va_G} {ρ : Nat → Nat} {kc : Nat → ClassId} {len : Nat} {Qc : Array Value → State → Outcome → State → Prop} {call : am_C} {rm : Room} (C : am_Cx p R s m args meth c prog_3_method_6_code 3 cw_D_setMany "DesignTexts$Design" D aCl ρ kc am_fts len) (hr : meth.sig.returnType = none)
    (hce : ∀ (id : Nat) (y : MethodName) (ws : List Cond), cPI[id]? = some (y, ws) → am_Ce l call rm D aCl ρ kc am_fts len id y ws) (hrm : rm.cells = 0 ∧ rm.slots = 0) (hR : ∀ {k : Nat}, k ≤ 21 → rm.frames + 1 ≤ R.frames ∧ 8 + (k + 11) + rm.locals ≤ R.locals) :
    ∀ q ∈ tb_D_setMany call, am_Row (am_J p l e R s m args below meth c 3 D aCl ρ kc len (MQ below Qc args s 0 0 (am_A ρ len s.heap.size))) (am_K s args D aCl ρ kc len Qc) q.1 q.2 := by
  unfold tb_D_setMany
  refine am_cons (ar_iload_n C d_D_setMany_0 rfl) ?_
  refine am_cons (ar_if_lt C d_D_setMany_1 (by decide)) ?_
  refine am_cons (ar_iload_n C d_D_setMany_4 rfl) ?_
  refine am_cons (ar_aload_n C d_D_setMany_5 rfl) ?_
  refine am_cons (ar_getf C d_D_setMany_6 (am_uc ft_Du) rfl (by decide) (am_mc wt_76)) ?_
  refine am_cons (ar_alen C d_D_setMany_9) ?_
  refine am_cons (ar_icmp_ge C d_D_setMany_10 (by decide)) ?_
  refine am_cons (ar_aload_n C d_D_setMany_13 rfl) ?_
  refine am_cons (ar_getf C d_D_setMany_14 (am_uc ft_Du) rfl (by decide) (am_mc wt_76)) ?_
  refine am_cons (ar_iload_n C d_D_setMany_17 rfl) ?_
  refine am_cons (ar_iconst C d_D_setMany_18 (by decide)) ?_
  refine am_cons (ar_iload_n C d_D_setMany_19 rfl) ?_
  refine am_cons (ar_bipush C d_D_setMany_20 (by decide)) ?_
  refine am_cons (ar_mmin C d_D_setMany_22 (am_mc wt_77) (am_mc wt_78) (am_mc wt_79) (am_mc wt_80)) ?_
  refine am_cons (ar_mmax C d_D_setMany_25 (am_mc wt_81) (am_mc wt_82) (am_mc wt_79) (am_mc wt_83)) ?_
  refine am_cons (ar_iast C d_D_setMany_28 rfl) ?_
  refine am_cons (ar_return C hr d_D_setMany_29) ?_
  exact am_nil
theorem sd_D_holds {p : Program} {l : Launch} {e : Env} {R : Room} {s : State} {m : MethodId} {args : Array Value} {below : List Frame} {meth : Method} {c : Code} {D : va_G} {ρ : Nat → Nat} {kc : Nat → ClassId} {len : Nat} {Qc : Array Value → State → Outcome → State → Prop} {call : am_C} {rm : Room} (C : am_Cx p R s m args meth c prog_3_method_7_code 3 cw_D_holds "DesignTexts$Design" D aCl ρ kc am_fts len) (hr : meth.sig.returnType = some .boolean)
    (hce : ∀ (id : Nat) (y : MethodName) (ws : List Cond), cPI[id]? = some (y, ws) → am_Ce l call rm D aCl ρ kc am_fts len id y ws) (hrm : rm.cells = 0 ∧ rm.slots = 0) (hR : ∀ {k : Nat}, k ≤ 21 → rm.frames + 1 ≤ R.frames ∧ 8 + (k + 11) + rm.locals ≤ R.locals) :
    ∀ q ∈ tb_D_holds call, am_Row (am_J p l e R s m args below meth c 3 D aCl ρ kc len (MQ below Qc args s 0 0 (am_A ρ len s.heap.size))) (am_K s args D aCl ρ kc len Qc) q.1 q.2 := by
  unfold tb_D_holds
  refine am_cons (ar_iload_n C d_D_holds_0 rfl) ?_
  refine am_cons (ar_if_lt C d_D_holds_1 (by decide)) ?_
  refine am_cons (ar_iload_n C d_D_holds_4 rfl) ?_
  refine am_cons (ar_aload_n C d_D_holds_5 rfl) ?_
  refine am_cons (ar_iload_n C d_D_holds_6 rfl) ?_
  refine am_cons (ar_callV C d_D_holds_7 (hce 7 ⟨"DesignTexts$Design", "many", "(I)I"⟩ cw_D_many rfl) rfl (am_gv wt_84 wt_85 wt_86 wt_87 wt_7) rfl (by decide +kernel) hrm (hR (by decide))) ?_
  refine am_cons (ar_icmp_ge C d_D_holds_10 (by decide)) ?_
  refine am_cons (ar_iconst C d_D_holds_13 (by decide)) ?_
  refine am_cons (ar_goto C d_D_holds_14 (by decide)) ?_
  refine am_cons (ar_iconst C d_D_holds_17 (by decide)) ?_
  refine am_cons (ar_zreturn C hr d_D_holds_18) ?_
  exact am_nil
theorem sd_D_get {p : Program} {l : Launch} {e : Env} {R : Room} {s : State} {m : MethodId} {args : Array Value} {below : List Frame} {meth : Method} {c : Code} {D : va_G} {ρ : Nat → Nat} {kc : Nat → ClassId} {len : Nat} {Qc : Array Value → State → Outcome → State → Prop} {call : am_C} {rm : Room} (C : am_Cx p R s m args meth c prog_3_method_8_code 3 cw_D_get "DesignTexts$Design" D aCl ρ kc am_fts len) (hr : meth.sig.returnType = some .int)
    (hce : ∀ (id : Nat) (y : MethodName) (ws : List Cond), cPI[id]? = some (y, ws) → am_Ce l call rm D aCl ρ kc am_fts len id y ws) (hrm : rm.cells = 0 ∧ rm.slots = 0) (hR : ∀ {k : Nat}, k ≤ 21 → rm.frames + 1 ≤ R.frames ∧ 8 + (k + 11) + rm.locals ≤ R.locals) :
    ∀ q ∈ tb_D_get call, am_Row (am_J p l e R s m args below meth c 3 D aCl ρ kc len (MQ below Qc args s 0 0 (am_A ρ len s.heap.size))) (am_K s args D aCl ρ kc len Qc) q.1 q.2 := by
  unfold tb_D_get
  refine am_cons (ar_iload_n C d_D_get_0 rfl) ?_
  refine am_cons (ar_if_lt C d_D_get_1 (by decide)) ?_
  refine am_cons (ar_iload_n C d_D_get_4 rfl) ?_
  refine am_cons (ar_bipush C d_D_get_5 (by decide)) ?_
  refine am_cons (ar_icmp_ge C d_D_get_7 (by decide)) ?_
  refine am_cons (ar_iload_n C d_D_get_10 rfl) ?_
  refine am_cons (ar_if_lt C d_D_get_11 (by decide)) ?_
  refine am_cons (ar_iload_n C d_D_get_14 rfl) ?_
  refine am_cons (ar_bipush C d_D_get_15 (by decide)) ?_
  refine am_cons (ar_icmp_lt C d_D_get_17 (by decide)) ?_
  refine am_cons (ar_iconst C d_D_get_20 (by decide)) ?_
  refine am_cons (ar_ireturn C hr d_D_get_21) ?_
  refine am_cons (ar_aload_n C d_D_get_22 rfl) ?_
  refine am_cons (ar_getf C d_D_get_23 (am_uc ft_Du) rfl (by decide) (am_mc wt_88)) ?_
  refine am_cons (ar_iload_n C d_D_get_26 rfl) ?_
  refine am_cons (ar_aald C d_D_get_27 rfl rfl) ?_
  refine am_cons (ar_iload_n C d_D_get_28 rfl) ?_
  refine am_cons (ar_iald C d_D_get_29 rfl) ?_
  refine am_cons (ar_ireturn C hr d_D_get_30) ?_
  exact am_nil
theorem sd_D_set {p : Program} {l : Launch} {e : Env} {R : Room} {s : State} {m : MethodId} {args : Array Value} {below : List Frame} {meth : Method} {c : Code} {D : va_G} {ρ : Nat → Nat} {kc : Nat → ClassId} {len : Nat} {Qc : Array Value → State → Outcome → State → Prop} {call : am_C} {rm : Room} (C : am_Cx p R s m args meth c prog_3_method_9_code 4 cw_D_set "DesignTexts$Design" D aCl ρ kc am_fts len) (hr : meth.sig.returnType = none)
    (hce : ∀ (id : Nat) (y : MethodName) (ws : List Cond), cPI[id]? = some (y, ws) → am_Ce l call rm D aCl ρ kc am_fts len id y ws) (hrm : rm.cells = 0 ∧ rm.slots = 0) (hR : ∀ {k : Nat}, k ≤ 21 → rm.frames + 1 ≤ R.frames ∧ 8 + (k + 11) + rm.locals ≤ R.locals) :
    ∀ q ∈ tb_D_set call, am_Row (am_J p l e R s m args below meth c 4 D aCl ρ kc len (MQ below Qc args s 0 0 (am_A ρ len s.heap.size))) (am_K s args D aCl ρ kc len Qc) q.1 q.2 := by
  unfold tb_D_set
  refine am_cons (ar_iload_n C d_D_set_0 rfl) ?_
  refine am_cons (ar_if_lt C d_D_set_1 (by decide)) ?_
  refine am_cons (ar_iload_n C d_D_set_4 rfl) ?_
  refine am_cons (ar_bipush C d_D_set_5 (by decide)) ?_
  refine am_cons (ar_icmp_ge C d_D_set_7 (by decide)) ?_
  refine am_cons (ar_iload_n C d_D_set_10 rfl) ?_
  refine am_cons (ar_if_lt C d_D_set_11 (by decide)) ?_
  refine am_cons (ar_iload_n C d_D_set_14 rfl) ?_
  refine am_cons (ar_bipush C d_D_set_15 (by decide)) ?_
  refine am_cons (ar_icmp_ge C d_D_set_17 (by decide)) ?_
  refine am_cons (ar_aload_n C d_D_set_20 rfl) ?_
  refine am_cons (ar_getf C d_D_set_21 (am_uc ft_Du) rfl (by decide) (am_mc wt_88)) ?_
  refine am_cons (ar_iload_n C d_D_set_24 rfl) ?_
  refine am_cons (ar_aald C d_D_set_25 rfl rfl) ?_
  refine am_cons (ar_iload_n C d_D_set_26 rfl) ?_
  refine am_cons (ar_iload_n C d_D_set_27 rfl) ?_
  refine am_cons (ar_iast C d_D_set_28 rfl) ?_
  refine am_cons (ar_return C hr d_D_set_29) ?_
  exact am_nil
theorem sd_D_restart {p : Program} {l : Launch} {e : Env} {R : Room} {s : State} {m : MethodId} {args : Array Value} {below : List Frame} {meth : Method} {c : Code} {D : va_G} {ρ : Nat → Nat} {kc : Nat → ClassId} {len : Nat} {Qc : Array Value → State → Outcome → State → Prop} {call : am_C} {rm : Room} (C : am_Cx p R s m args meth c prog_3_method_10_code 3 cw_D_restart "DesignTexts$Design" D aCl ρ kc am_fts len) (hr : meth.sig.returnType = none)
    (hce : ∀ (id : Nat) (y : MethodName) (ws : List Cond), cPI[id]? = some (y, ws) → am_Ce l call rm D aCl ρ kc am_fts len id y ws) (hrm : rm.cells = 0 ∧ rm.slots = 0) (hR : ∀ {k : Nat}, k ≤ 21 → rm.frames + 1 ≤ R.frames ∧ 8 + (k + 11) + rm.locals ≤ R.locals) :
    ∀ q ∈ tb_D_restart call, am_Row (am_J p l e R s m args below meth c 3 D aCl ρ kc len (MQ below Qc args s 0 0 (am_A ρ len s.heap.size))) (am_K s args D aCl ρ kc len Qc) q.1 q.2 := by
  unfold tb_D_restart
  refine am_cons (ar_iconst C d_D_restart_0 (by decide)) ?_
  refine am_cons (ar_istore_n C d_D_restart_1 rfl) ?_
  refine am_cons (ar_iconst C d_D_restart_2 (by decide)) ?_
  refine am_cons (ar_istore_n C d_D_restart_3 rfl) ?_
  refine am_cons (ar_keep [0, 1, 2] (ar_iload_n C d_D_restart_4 rfl)) ?_
  refine am_cons (ar_aload_n C d_D_restart_5 rfl) ?_
  refine am_cons (ar_iconst C d_D_restart_6 (by decide)) ?_
  refine am_cons (ar_callV C d_D_restart_7 (hce 7 ⟨"DesignTexts$Design", "many", "(I)I"⟩ cw_D_many rfl) rfl (am_gv wt_84 wt_85 wt_86 wt_87 wt_7) rfl (by decide +kernel) hrm (hR (by decide))) ?_
  refine am_cons (ar_icmp_ge C d_D_restart_10 (by decide)) ?_
  refine am_cons (ar_iload_n C d_D_restart_13 rfl) ?_
  refine am_cons (ar_aload_n C d_D_restart_14 rfl) ?_
  refine am_cons (ar_iconst C d_D_restart_15 (by decide)) ?_
  refine am_cons (ar_iload_n C d_D_restart_16 rfl) ?_
  refine am_cons (ar_callV C d_D_restart_17 (hce 10 ⟨"DesignTexts$Design", "get", "(II)I"⟩ cw_D_get rfl) rfl (am_gv wt_89 wt_90 wt_91 wt_87 wt_10) rfl (by decide +kernel) hrm (hR (by decide))) ?_
  refine am_cons (ar_iload_n C d_D_restart_20 rfl) ?_
  refine am_cons (ar_ishl C d_D_restart_21) ?_
  refine am_cons (ar_ior C d_D_restart_22) ?_
  refine am_cons (ar_istore_n C d_D_restart_23 rfl) ?_
  refine am_cons (ar_iinc C d_D_restart_24 (by decide)) ?_
  refine am_cons (ar_goto C d_D_restart_27 (by decide)) ?_
  refine am_cons (ar_keep [0, 1] (ar_aload_n C d_D_restart_30 rfl)) ?_
  refine am_cons (ar_iload_n C d_D_restart_31 rfl) ?_
  refine am_cons (ar_putI C d_D_restart_32 (am_uc ft_Du) ft_Do ft_Dn rfl (by decide) (am_mc wt_75) rfl (by decide +kernel)) ?_
  refine am_cons (ar_return C hr d_D_restart_35) ?_
  exact am_nil
theorem sd_D_inOrder {p : Program} {l : Launch} {e : Env} {R : Room} {s : State} {m : MethodId} {args : Array Value} {below : List Frame} {meth : Method} {c : Code} {D : va_G} {ρ : Nat → Nat} {kc : Nat → ClassId} {len : Nat} {Qc : Array Value → State → Outcome → State → Prop} {call : am_C} {rm : Room} (C : am_Cx p R s m args meth c prog_3_method_11_code 3 cw_D_inOrder "DesignTexts$Design" D aCl ρ kc am_fts len) (hr : meth.sig.returnType = some .boolean)
    (hce : ∀ (id : Nat) (y : MethodName) (ws : List Cond), cPI[id]? = some (y, ws) → am_Ce l call rm D aCl ρ kc am_fts len id y ws) (hrm : rm.cells = 0 ∧ rm.slots = 0) (hR : ∀ {k : Nat}, k ≤ 21 → rm.frames + 1 ≤ R.frames ∧ 8 + (k + 11) + rm.locals ≤ R.locals) :
    ∀ q ∈ tb_D_inOrder call, am_Row (am_J p l e R s m args below meth c 3 D aCl ρ kc len (MQ below Qc args s 0 0 (am_A ρ len s.heap.size))) (am_K s args D aCl ρ kc len Qc) q.1 q.2 := by
  unfold tb_D_inOrder
  refine am_cons (ar_aload_n C d_D_inOrder_0 rfl) ?_
  refine am_cons (ar_iconst C d_D_inOrder_1 (by decide)) ?_
  refine am_cons (ar_callV C d_D_inOrder_2 (hce 7 ⟨"DesignTexts$Design", "many", "(I)I"⟩ cw_D_many rfl) rfl (am_gv wt_84 wt_85 wt_86 wt_87 wt_7) rfl (by decide +kernel) hrm (hR (by decide))) ?_
  refine am_cons (ar_istore_n C d_D_inOrder_5 rfl) ?_
  refine am_cons (ar_iload_n C d_D_inOrder_6 rfl) ?_
  refine am_cons (ar_aload_n C d_D_inOrder_7 rfl) ?_
  refine am_cons (ar_iconst C d_D_inOrder_8 (by decide)) ?_
  refine am_cons (ar_callV C d_D_inOrder_9 (hce 7 ⟨"DesignTexts$Design", "many", "(I)I"⟩ cw_D_many rfl) rfl (am_gv wt_84 wt_85 wt_86 wt_87 wt_7) rfl (by decide +kernel) hrm (hR (by decide))) ?_
  refine am_cons (ar_iadd C d_D_inOrder_12) ?_
  refine am_cons (ar_istore_n C d_D_inOrder_13 rfl) ?_
  refine am_cons (ar_aload_n C d_D_inOrder_14 rfl) ?_
  refine am_cons (ar_getf C d_D_inOrder_15 (am_uc ft_Du) rfl (by decide) (am_mc wt_74)) ?_
  refine am_cons (ar_iload_n C d_D_inOrder_18 rfl) ?_
  refine am_cons (ar_aload_n C d_D_inOrder_19 rfl) ?_
  refine am_cons (ar_iconst C d_D_inOrder_20 (by decide)) ?_
  refine am_cons (ar_callV C d_D_inOrder_21 (hce 7 ⟨"DesignTexts$Design", "many", "(I)I"⟩ cw_D_many rfl) rfl (am_gv wt_84 wt_85 wt_86 wt_87 wt_7) rfl (by decide +kernel) hrm (hR (by decide))) ?_
  refine am_cons (ar_iadd C d_D_inOrder_24) ?_
  refine am_cons (ar_icmp_ne C d_D_inOrder_25 (by decide)) ?_
  refine am_cons (ar_aload_n C d_D_inOrder_28 rfl) ?_
  refine am_cons (ar_iconst C d_D_inOrder_29 (by decide)) ?_
  refine am_cons (ar_iconst C d_D_inOrder_30 (by decide)) ?_
  refine am_cons (ar_callV C d_D_inOrder_31 (hce 14 ⟨"DesignTexts$Design", "countsUp", "(II)Z"⟩ cw_D_countsUp rfl) rfl (am_gv wt_92 wt_93 wt_94 wt_87 wt_14) rfl (by decide +kernel) hrm (hR (by decide))) ?_
  refine am_cons (ar_if_eq C d_D_inOrder_34 (by decide)) ?_
  refine am_cons (ar_aload_n C d_D_inOrder_37 rfl) ?_
  refine am_cons (ar_iconst C d_D_inOrder_38 (by decide)) ?_
  refine am_cons (ar_iload_n C d_D_inOrder_39 rfl) ?_
  refine am_cons (ar_callV C d_D_inOrder_40 (hce 14 ⟨"DesignTexts$Design", "countsUp", "(II)Z"⟩ cw_D_countsUp rfl) rfl (am_gv wt_92 wt_93 wt_94 wt_87 wt_14) rfl (by decide +kernel) hrm (hR (by decide))) ?_
  refine am_cons (ar_if_eq C d_D_inOrder_43 (by decide)) ?_
  refine am_cons (ar_aload_n C d_D_inOrder_46 rfl) ?_
  refine am_cons (ar_iconst C d_D_inOrder_47 (by decide)) ?_
  refine am_cons (ar_iload_n C d_D_inOrder_48 rfl) ?_
  refine am_cons (ar_callV C d_D_inOrder_49 (hce 14 ⟨"DesignTexts$Design", "countsUp", "(II)Z"⟩ cw_D_countsUp rfl) rfl (am_gv wt_92 wt_93 wt_94 wt_87 wt_14) rfl (by decide +kernel) hrm (hR (by decide))) ?_
  refine am_cons (ar_if_eq C d_D_inOrder_52 (by decide)) ?_
  refine am_cons (ar_aload_n C d_D_inOrder_55 rfl) ?_
  refine am_cons (ar_callV C d_D_inOrder_56 (hce 15 ⟨"DesignTexts$Design", "gatesLookBack", "()Z"⟩ cw_D_gatesLookBack rfl) rfl (am_gv wt_95 wt_96 wt_97 wt_87 wt_15) rfl (by decide +kernel) hrm (hR (by decide))) ?_
  refine am_cons (ar_if_eq C d_D_inOrder_59 (by decide)) ?_
  refine am_cons (ar_iconst C d_D_inOrder_62 (by decide)) ?_
  refine am_cons (ar_goto C d_D_inOrder_63 (by decide)) ?_
  refine am_cons (ar_iconst C d_D_inOrder_66 (by decide)) ?_
  refine am_cons (ar_zreturn C hr d_D_inOrder_67) ?_
  exact am_nil
theorem sd_D_countsUp {p : Program} {l : Launch} {e : Env} {R : Room} {s : State} {m : MethodId} {args : Array Value} {below : List Frame} {meth : Method} {c : Code} {D : va_G} {ρ : Nat → Nat} {kc : Nat → ClassId} {len : Nat} {Qc : Array Value → State → Outcome → State → Prop} {call : am_C} {rm : Room} (C : am_Cx p R s m args meth c prog_3_method_12_code 4 cw_D_countsUp "DesignTexts$Design" D aCl ρ kc am_fts len) (hr : meth.sig.returnType = some .boolean)
    (hce : ∀ (id : Nat) (y : MethodName) (ws : List Cond), cPI[id]? = some (y, ws) → am_Ce l call rm D aCl ρ kc am_fts len id y ws) (hrm : rm.cells = 0 ∧ rm.slots = 0) (hR : ∀ {k : Nat}, k ≤ 21 → rm.frames + 1 ≤ R.frames ∧ 8 + (k + 11) + rm.locals ≤ R.locals) :
    ∀ q ∈ tb_D_countsUp call, am_Row (am_J p l e R s m args below meth c 4 D aCl ρ kc len (MQ below Qc args s 0 0 (am_A ρ len s.heap.size))) (am_K s args D aCl ρ kc len Qc) q.1 q.2 := by
  unfold tb_D_countsUp
  refine am_cons (ar_iconst C d_D_countsUp_0 (by decide)) ?_
  refine am_cons (ar_istore_n C d_D_countsUp_1 rfl) ?_
  refine am_cons (ar_keep [0, 1, 2, 3] (ar_iload_n C d_D_countsUp_2 rfl)) ?_
  refine am_cons (ar_aload_n C d_D_countsUp_3 rfl) ?_
  refine am_cons (ar_iload_n C d_D_countsUp_4 rfl) ?_
  refine am_cons (ar_callV C d_D_countsUp_5 (hce 7 ⟨"DesignTexts$Design", "many", "(I)I"⟩ cw_D_many rfl) rfl (am_gv wt_84 wt_85 wt_86 wt_87 wt_7) rfl (by decide +kernel) hrm (hR (by decide))) ?_
  refine am_cons (ar_icmp_ge C d_D_countsUp_8 (by decide)) ?_
  refine am_cons (ar_aload_n C d_D_countsUp_11 rfl) ?_
  refine am_cons (ar_iload_n C d_D_countsUp_12 rfl) ?_
  refine am_cons (ar_iload_n C d_D_countsUp_13 rfl) ?_
  refine am_cons (ar_callV C d_D_countsUp_14 (hce 10 ⟨"DesignTexts$Design", "get", "(II)I"⟩ cw_D_get rfl) rfl (am_gv wt_89 wt_90 wt_91 wt_87 wt_10) rfl (by decide +kernel) hrm (hR (by decide))) ?_
  refine am_cons (ar_iconst C d_D_countsUp_17 (by decide)) ?_
  refine am_cons (ar_iload_n C d_D_countsUp_18 rfl) ?_
  refine am_cons (ar_iload_n C d_D_countsUp_19 rfl) ?_
  refine am_cons (ar_iadd C d_D_countsUp_20) ?_
  refine am_cons (ar_iconst C d_D_countsUp_21 (by decide)) ?_
  refine am_cons (ar_iadd C d_D_countsUp_22) ?_
  refine am_cons (ar_imul C d_D_countsUp_23) ?_
  refine am_cons (ar_icmp_eq C d_D_countsUp_24 (by decide)) ?_
  refine am_cons (ar_iconst C d_D_countsUp_27 (by decide)) ?_
  refine am_cons (ar_zreturn C hr d_D_countsUp_28) ?_
  refine am_cons (ar_iinc C d_D_countsUp_29 (by decide)) ?_
  refine am_cons (ar_goto C d_D_countsUp_32 (by decide)) ?_
  refine am_cons (ar_keep [] (ar_iconst C d_D_countsUp_35 (by decide))) ?_
  refine am_cons (ar_zreturn C hr d_D_countsUp_36) ?_
  exact am_nil
theorem sd_D_gatesLookBack {p : Program} {l : Launch} {e : Env} {R : Room} {s : State} {m : MethodId} {args : Array Value} {below : List Frame} {meth : Method} {c : Code} {D : va_G} {ρ : Nat → Nat} {kc : Nat → ClassId} {len : Nat} {Qc : Array Value → State → Outcome → State → Prop} {call : am_C} {rm : Room} (C : am_Cx p R s m args meth c prog_3_method_13_code 3 cw_D_gatesLookBack "DesignTexts$Design" D aCl ρ kc am_fts len) (hr : meth.sig.returnType = some .boolean)
    (hce : ∀ (id : Nat) (y : MethodName) (ws : List Cond), cPI[id]? = some (y, ws) → am_Ce l call rm D aCl ρ kc am_fts len id y ws) (hrm : rm.cells = 0 ∧ rm.slots = 0) (hR : ∀ {k : Nat}, k ≤ 21 → rm.frames + 1 ≤ R.frames ∧ 8 + (k + 11) + rm.locals ≤ R.locals) :
    ∀ q ∈ tb_D_gatesLookBack call, am_Row (am_J p l e R s m args below meth c 3 D aCl ρ kc len (MQ below Qc args s 0 0 (am_A ρ len s.heap.size))) (am_K s args D aCl ρ kc len Qc) q.1 q.2 := by
  unfold tb_D_gatesLookBack
  refine am_cons (ar_iconst C d_D_gatesLookBack_0 (by decide)) ?_
  refine am_cons (ar_istore_n C d_D_gatesLookBack_1 rfl) ?_
  refine am_cons (ar_keep [0, 1] (ar_iload_n C d_D_gatesLookBack_2 rfl)) ?_
  refine am_cons (ar_aload_n C d_D_gatesLookBack_3 rfl) ?_
  refine am_cons (ar_iconst C d_D_gatesLookBack_4 (by decide)) ?_
  refine am_cons (ar_callV C d_D_gatesLookBack_5 (hce 7 ⟨"DesignTexts$Design", "many", "(I)I"⟩ cw_D_many rfl) rfl (am_gv wt_84 wt_85 wt_86 wt_87 wt_7) rfl (by decide +kernel) hrm (hR (by decide))) ?_
  refine am_cons (ar_icmp_ge C d_D_gatesLookBack_8 (by decide)) ?_
  refine am_cons (ar_aload_n C d_D_gatesLookBack_11 rfl) ?_
  refine am_cons (ar_bipush C d_D_gatesLookBack_12 (by decide)) ?_
  refine am_cons (ar_iload_n C d_D_gatesLookBack_14 rfl) ?_
  refine am_cons (ar_callV C d_D_gatesLookBack_15 (hce 10 ⟨"DesignTexts$Design", "get", "(II)I"⟩ cw_D_get rfl) rfl (am_gv wt_89 wt_90 wt_91 wt_87 wt_10) rfl (by decide +kernel) hrm (hR (by decide))) ?_
  refine am_cons (ar_istore_n C d_D_gatesLookBack_18 rfl) ?_
  refine am_cons (ar_iload_n C d_D_gatesLookBack_19 rfl) ?_
  refine am_cons (ar_aload_n C d_D_gatesLookBack_20 rfl) ?_
  refine am_cons (ar_iconst C d_D_gatesLookBack_21 (by decide)) ?_
  refine am_cons (ar_iload_n C d_D_gatesLookBack_22 rfl) ?_
  refine am_cons (ar_callV C d_D_gatesLookBack_23 (hce 10 ⟨"DesignTexts$Design", "get", "(II)I"⟩ cw_D_get rfl) rfl (am_gv wt_89 wt_90 wt_91 wt_87 wt_10) rfl (by decide +kernel) hrm (hR (by decide))) ?_
  refine am_cons (ar_icmp_ge C d_D_gatesLookBack_26 (by decide)) ?_
  refine am_cons (ar_iload_n C d_D_gatesLookBack_29 rfl) ?_
  refine am_cons (ar_aload_n C d_D_gatesLookBack_30 rfl) ?_
  refine am_cons (ar_bipush C d_D_gatesLookBack_31 (by decide)) ?_
  refine am_cons (ar_iload_n C d_D_gatesLookBack_33 rfl) ?_
  refine am_cons (ar_callV C d_D_gatesLookBack_34 (hce 10 ⟨"DesignTexts$Design", "get", "(II)I"⟩ cw_D_get rfl) rfl (am_gv wt_89 wt_90 wt_91 wt_87 wt_10) rfl (by decide +kernel) hrm (hR (by decide))) ?_
  refine am_cons (ar_icmp_ge C d_D_gatesLookBack_37 (by decide)) ?_
  refine am_cons (ar_iconst C d_D_gatesLookBack_40 (by decide)) ?_
  refine am_cons (ar_zreturn C hr d_D_gatesLookBack_41) ?_
  refine am_cons (ar_iinc C d_D_gatesLookBack_42 (by decide)) ?_
  refine am_cons (ar_goto C d_D_gatesLookBack_45 (by decide)) ?_
  refine am_cons (ar_keep [] (ar_iconst C d_D_gatesLookBack_48 (by decide))) ?_
  refine am_cons (ar_zreturn C hr d_D_gatesLookBack_49) ?_
  exact am_nil
theorem sd_D_step {p : Program} {l : Launch} {e : Env} {R : Room} {s : State} {m : MethodId} {args : Array Value} {below : List Frame} {meth : Method} {c : Code} {D : va_G} {ρ : Nat → Nat} {kc : Nat → ClassId} {len : Nat} {Qc : Array Value → State → Outcome → State → Prop} {call : am_C} {rm : Room} (C : am_Cx p R s m args meth c prog_3_method_14_code 4 cw_D_step "DesignTexts$Design" D aCl ρ kc am_fts len) (hr : meth.sig.returnType = some .int)
    (hce : ∀ (id : Nat) (y : MethodName) (ws : List Cond), cPI[id]? = some (y, ws) → am_Ce l call rm D aCl ρ kc am_fts len id y ws) (hrm : rm.cells = 0 ∧ rm.slots = 0) (hR : ∀ {k : Nat}, k ≤ 21 → rm.frames + 1 ≤ R.frames ∧ 8 + (k + 11) + rm.locals ≤ R.locals) :
    ∀ q ∈ tb_D_step call, am_Row (am_J p l e R s m args below meth c 4 D aCl ρ kc len (MQ below Qc args s 0 0 (am_A ρ len s.heap.size))) (am_K s args D aCl ρ kc len Qc) q.1 q.2 := by
  unfold tb_D_step
  refine am_cons (ar_aload_n C d_D_step_0 rfl) ?_
  refine am_cons (ar_iconst C d_D_step_1 (by decide)) ?_
  refine am_cons (ar_iconst C d_D_step_2 (by decide)) ?_
  refine am_cons (ar_callV C d_D_step_3 (hce 30 ⟨"DesignTexts$Design", "mark", "(II)V"⟩ cw_D_mark rfl) rfl (am_gv wt_98 wt_99 wt_100 wt_87 wt_30) rfl (by decide +kernel) hrm (hR (by decide))) ?_
  refine am_cons (ar_iconst C d_D_step_6 (by decide)) ?_
  refine am_cons (ar_istore_n C d_D_step_7 rfl) ?_
  refine am_cons (ar_keep [0, 1, 2] (ar_iload_n C d_D_step_8 rfl)) ?_
  refine am_cons (ar_aload_n C d_D_step_9 rfl) ?_
  refine am_cons (ar_iconst C d_D_step_10 (by decide)) ?_
  refine am_cons (ar_callV C d_D_step_11 (hce 7 ⟨"DesignTexts$Design", "many", "(I)I"⟩ cw_D_many rfl) rfl (am_gv wt_84 wt_85 wt_86 wt_87 wt_7) rfl (by decide +kernel) hrm (hR (by decide))) ?_
  refine am_cons (ar_icmp_ge C d_D_step_14 (by decide)) ?_
  refine am_cons (ar_aload_n C d_D_step_17 rfl) ?_
  refine am_cons (ar_aload_n C d_D_step_18 rfl) ?_
  refine am_cons (ar_iconst C d_D_step_19 (by decide)) ?_
  refine am_cons (ar_iload_n C d_D_step_20 rfl) ?_
  refine am_cons (ar_callV C d_D_step_21 (hce 10 ⟨"DesignTexts$Design", "get", "(II)I"⟩ cw_D_get rfl) rfl (am_gv wt_89 wt_90 wt_91 wt_87 wt_10) rfl (by decide +kernel) hrm (hR (by decide))) ?_
  refine am_cons (ar_iload_n C d_D_step_24 rfl) ?_
  refine am_cons (ar_iload_n C d_D_step_25 rfl) ?_
  refine am_cons (ar_iushr C d_D_step_26) ?_
  refine am_cons (ar_iconst C d_D_step_27 (by decide)) ?_
  refine am_cons (ar_iand C d_D_step_28) ?_
  refine am_cons (ar_callV C d_D_step_29 (hce 30 ⟨"DesignTexts$Design", "mark", "(II)V"⟩ cw_D_mark rfl) rfl (am_gv wt_98 wt_99 wt_100 wt_87 wt_30) rfl (by decide +kernel) hrm (hR (by decide))) ?_
  refine am_cons (ar_iinc C d_D_step_32 (by decide)) ?_
  refine am_cons (ar_goto C d_D_step_35 (by decide)) ?_
  refine am_cons (ar_keep [0] (ar_iconst C d_D_step_38 (by decide))) ?_
  refine am_cons (ar_istore_n C d_D_step_39 rfl) ?_
  refine am_cons (ar_keep [0, 2] (ar_iload_n C d_D_step_40 rfl)) ?_
  refine am_cons (ar_aload_n C d_D_step_41 rfl) ?_
  refine am_cons (ar_iconst C d_D_step_42 (by decide)) ?_
  refine am_cons (ar_callV C d_D_step_43 (hce 7 ⟨"DesignTexts$Design", "many", "(I)I"⟩ cw_D_many rfl) rfl (am_gv wt_84 wt_85 wt_86 wt_87 wt_7) rfl (by decide +kernel) hrm (hR (by decide))) ?_
  refine am_cons (ar_icmp_ge C d_D_step_46 (by decide)) ?_
  refine am_cons (ar_aload_n C d_D_step_49 rfl) ?_
  refine am_cons (ar_aload_n C d_D_step_50 rfl) ?_
  refine am_cons (ar_iconst C d_D_step_51 (by decide)) ?_
  refine am_cons (ar_iload_n C d_D_step_52 rfl) ?_
  refine am_cons (ar_callV C d_D_step_53 (hce 10 ⟨"DesignTexts$Design", "get", "(II)I"⟩ cw_D_get rfl) rfl (am_gv wt_89 wt_90 wt_91 wt_87 wt_10) rfl (by decide +kernel) hrm (hR (by decide))) ?_
  refine am_cons (ar_aload_n C d_D_step_56 rfl) ?_
  refine am_cons (ar_getf C d_D_step_57 (am_uc ft_Du) rfl (by decide) (am_mc wt_75)) ?_
  refine am_cons (ar_iload_n C d_D_step_60 rfl) ?_
  refine am_cons (ar_iushr C d_D_step_61) ?_
  refine am_cons (ar_iconst C d_D_step_62 (by decide)) ?_
  refine am_cons (ar_iand C d_D_step_63) ?_
  refine am_cons (ar_callV C d_D_step_64 (hce 30 ⟨"DesignTexts$Design", "mark", "(II)V"⟩ cw_D_mark rfl) rfl (am_gv wt_98 wt_99 wt_100 wt_87 wt_30) rfl (by decide +kernel) hrm (hR (by decide))) ?_
  refine am_cons (ar_iinc C d_D_step_67 (by decide)) ?_
  refine am_cons (ar_goto C d_D_step_70 (by decide)) ?_
  refine am_cons (ar_keep [0] (ar_iconst C d_D_step_73 (by decide))) ?_
  refine am_cons (ar_istore_n C d_D_step_74 rfl) ?_
  refine am_cons (ar_keep [0, 2] (ar_iload_n C d_D_step_75 rfl)) ?_
  refine am_cons (ar_aload_n C d_D_step_76 rfl) ?_
  refine am_cons (ar_iconst C d_D_step_77 (by decide)) ?_
  refine am_cons (ar_callV C d_D_step_78 (hce 7 ⟨"DesignTexts$Design", "many", "(I)I"⟩ cw_D_many rfl) rfl (am_gv wt_84 wt_85 wt_86 wt_87 wt_7) rfl (by decide +kernel) hrm (hR (by decide))) ?_
  refine am_cons (ar_icmp_ge C d_D_step_81 (by decide)) ?_
  refine am_cons (ar_aload_n C d_D_step_84 rfl) ?_
  refine am_cons (ar_iload_n C d_D_step_85 rfl) ?_
  refine am_cons (ar_callV C d_D_step_86 (hce 23 ⟨"DesignTexts$Design", "inSequence", "(I)I"⟩ cw_D_inSequence rfl) rfl (am_gv wt_101 wt_102 wt_103 wt_87 wt_23) rfl (by decide +kernel) hrm (hR (by decide))) ?_
  refine am_cons (ar_istore_n C d_D_step_89 rfl) ?_
  refine am_cons (ar_aload_n C d_D_step_90 rfl) ?_
  refine am_cons (ar_aload_n C d_D_step_91 rfl) ?_
  refine am_cons (ar_iconst C d_D_step_92 (by decide)) ?_
  refine am_cons (ar_iload_n C d_D_step_93 rfl) ?_
  refine am_cons (ar_callV C d_D_step_94 (hce 10 ⟨"DesignTexts$Design", "get", "(II)I"⟩ cw_D_get rfl) rfl (am_gv wt_89 wt_90 wt_91 wt_87 wt_10) rfl (by decide +kernel) hrm (hR (by decide))) ?_
  refine am_cons (ar_aload_n C d_D_step_97 rfl) ?_
  refine am_cons (ar_aload_n C d_D_step_98 rfl) ?_
  refine am_cons (ar_bipush C d_D_step_99 (by decide)) ?_
  refine am_cons (ar_iload_n C d_D_step_101 rfl) ?_
  refine am_cons (ar_callV C d_D_step_102 (hce 10 ⟨"DesignTexts$Design", "get", "(II)I"⟩ cw_D_get rfl) rfl (am_gv wt_89 wt_90 wt_91 wt_87 wt_10) rfl (by decide +kernel) hrm (hR (by decide))) ?_
  refine am_cons (ar_callV C d_D_step_105 (hce 18 ⟨"DesignTexts$Design", "truth", "(I)I"⟩ cw_D_truth rfl) rfl (am_gv wt_104 wt_105 wt_106 wt_87 wt_18) rfl (by decide +kernel) hrm (hR (by decide))) ?_
  refine am_cons (ar_aload_n C d_D_step_108 rfl) ?_
  refine am_cons (ar_aload_n C d_D_step_109 rfl) ?_
  refine am_cons (ar_bipush C d_D_step_110 (by decide)) ?_
  refine am_cons (ar_iload_n C d_D_step_112 rfl) ?_
  refine am_cons (ar_callV C d_D_step_113 (hce 10 ⟨"DesignTexts$Design", "get", "(II)I"⟩ cw_D_get rfl) rfl (am_gv wt_89 wt_90 wt_91 wt_87 wt_10) rfl (by decide +kernel) hrm (hR (by decide))) ?_
  refine am_cons (ar_callV C d_D_step_116 (hce 18 ⟨"DesignTexts$Design", "truth", "(I)I"⟩ cw_D_truth rfl) rfl (am_gv wt_104 wt_105 wt_106 wt_87 wt_18) rfl (by decide +kernel) hrm (hR (by decide))) ?_
  refine am_cons (ar_iand C d_D_step_119) ?_
  refine am_cons (ar_callV C d_D_step_120 (hce 30 ⟨"DesignTexts$Design", "mark", "(II)V"⟩ cw_D_mark rfl) rfl (am_gv wt_98 wt_99 wt_100 wt_87 wt_30) rfl (by decide +kernel) hrm (hR (by decide))) ?_
  refine am_cons (ar_iinc C d_D_step_123 (by decide)) ?_
  refine am_cons (ar_goto C d_D_step_126 (by decide)) ?_
  refine am_cons (ar_keep [0] (ar_aload_n C d_D_step_129 rfl)) ?_
  refine am_cons (ar_aload_n C d_D_step_130 rfl) ?_
  refine am_cons (ar_iconst C d_D_step_131 (by decide)) ?_
  refine am_cons (ar_callV C d_D_step_132 (hce 17 ⟨"DesignTexts$Design", "truths", "(I)I"⟩ cw_D_truths rfl) rfl (am_gv wt_107 wt_108 wt_109 wt_87 wt_17) rfl (by decide +kernel) hrm (hR (by decide))) ?_
  refine am_cons (ar_putI C d_D_step_135 (am_uc ft_Du) ft_Do ft_Dn rfl (by decide) (am_mc wt_75) rfl (by decide +kernel)) ?_
  refine am_cons (ar_aload_n C d_D_step_138 rfl) ?_
  refine am_cons (ar_iconst C d_D_step_139 (by decide)) ?_
  refine am_cons (ar_callV C d_D_step_140 (hce 17 ⟨"DesignTexts$Design", "truths", "(I)I"⟩ cw_D_truths rfl) rfl (am_gv wt_107 wt_108 wt_109 wt_87 wt_17) rfl (by decide +kernel) hrm (hR (by decide))) ?_
  refine am_cons (ar_ireturn C hr d_D_step_143) ?_
  exact am_nil
theorem sd_D_truths {p : Program} {l : Launch} {e : Env} {R : Room} {s : State} {m : MethodId} {args : Array Value} {below : List Frame} {meth : Method} {c : Code} {D : va_G} {ρ : Nat → Nat} {kc : Nat → ClassId} {len : Nat} {Qc : Array Value → State → Outcome → State → Prop} {call : am_C} {rm : Room} (C : am_Cx p R s m args meth c prog_3_method_15_code 4 cw_D_truths "DesignTexts$Design" D aCl ρ kc am_fts len) (hr : meth.sig.returnType = some .int)
    (hce : ∀ (id : Nat) (y : MethodName) (ws : List Cond), cPI[id]? = some (y, ws) → am_Ce l call rm D aCl ρ kc am_fts len id y ws) (hrm : rm.cells = 0 ∧ rm.slots = 0) (hR : ∀ {k : Nat}, k ≤ 21 → rm.frames + 1 ≤ R.frames ∧ 8 + (k + 11) + rm.locals ≤ R.locals) :
    ∀ q ∈ tb_D_truths call, am_Row (am_J p l e R s m args below meth c 4 D aCl ρ kc len (MQ below Qc args s 0 0 (am_A ρ len s.heap.size))) (am_K s args D aCl ρ kc len Qc) q.1 q.2 := by
  unfold tb_D_truths
  refine am_cons (ar_iconst C d_D_truths_0 (by decide)) ?_
  refine am_cons (ar_istore_n C d_D_truths_1 rfl) ?_
  refine am_cons (ar_iconst C d_D_truths_2 (by decide)) ?_
  refine am_cons (ar_istore_n C d_D_truths_3 rfl) ?_
  refine am_cons (ar_keep [0, 1, 2, 3] (ar_iload_n C d_D_truths_4 rfl)) ?_
  refine am_cons (ar_aload_n C d_D_truths_5 rfl) ?_
  refine am_cons (ar_iload_n C d_D_truths_6 rfl) ?_
  refine am_cons (ar_callV C d_D_truths_7 (hce 7 ⟨"DesignTexts$Design", "many", "(I)I"⟩ cw_D_many rfl) rfl (am_gv wt_84 wt_85 wt_86 wt_87 wt_7) rfl (by decide +kernel) hrm (hR (by decide))) ?_
  refine am_cons (ar_icmp_ge C d_D_truths_10 (by decide)) ?_
  refine am_cons (ar_iload_n C d_D_truths_13 rfl) ?_
  refine am_cons (ar_aload_n C d_D_truths_14 rfl) ?_
  refine am_cons (ar_aload_n C d_D_truths_15 rfl) ?_
  refine am_cons (ar_iload_n C d_D_truths_16 rfl) ?_
  refine am_cons (ar_iload_n C d_D_truths_17 rfl) ?_
  refine am_cons (ar_callV C d_D_truths_18 (hce 10 ⟨"DesignTexts$Design", "get", "(II)I"⟩ cw_D_get rfl) rfl (am_gv wt_89 wt_90 wt_91 wt_87 wt_10) rfl (by decide +kernel) hrm (hR (by decide))) ?_
  refine am_cons (ar_callV C d_D_truths_21 (hce 18 ⟨"DesignTexts$Design", "truth", "(I)I"⟩ cw_D_truth rfl) rfl (am_gv wt_104 wt_105 wt_106 wt_87 wt_18) rfl (by decide +kernel) hrm (hR (by decide))) ?_
  refine am_cons (ar_iload_n C d_D_truths_24 rfl) ?_
  refine am_cons (ar_ishl C d_D_truths_25) ?_
  refine am_cons (ar_ior C d_D_truths_26) ?_
  refine am_cons (ar_istore_n C d_D_truths_27 rfl) ?_
  refine am_cons (ar_iinc C d_D_truths_28 (by decide)) ?_
  refine am_cons (ar_goto C d_D_truths_31 (by decide)) ?_
  refine am_cons (ar_keep [2] (ar_iload_n C d_D_truths_34 rfl)) ?_
  refine am_cons (ar_ireturn C hr d_D_truths_35) ?_
  exact am_nil
theorem sd_D_truth {p : Program} {l : Launch} {e : Env} {R : Room} {s : State} {m : MethodId} {args : Array Value} {below : List Frame} {meth : Method} {c : Code} {D : va_G} {ρ : Nat → Nat} {kc : Nat → ClassId} {len : Nat} {Qc : Array Value → State → Outcome → State → Prop} {call : am_C} {rm : Room} (C : am_Cx p R s m args meth c prog_3_method_16_code 2 cw_D_truth "DesignTexts$Design" D aCl ρ kc am_fts len) (hr : meth.sig.returnType = some .int)
    (hce : ∀ (id : Nat) (y : MethodName) (ws : List Cond), cPI[id]? = some (y, ws) → am_Ce l call rm D aCl ρ kc am_fts len id y ws) (hrm : rm.cells = 0 ∧ rm.slots = 0) (hR : ∀ {k : Nat}, k ≤ 21 → rm.frames + 1 ≤ R.frames ∧ 8 + (k + 11) + rm.locals ≤ R.locals) :
    ∀ q ∈ tb_D_truth call, am_Row (am_J p l e R s m args below meth c 2 D aCl ρ kc len (MQ below Qc args s 0 0 (am_A ρ len s.heap.size))) (am_K s args D aCl ρ kc len Qc) q.1 q.2 := by
  unfold tb_D_truth
  refine am_cons (ar_aload_n C d_D_truth_0 rfl) ?_
  refine am_cons (ar_iload_n C d_D_truth_1 rfl) ?_
  refine am_cons (ar_callV C d_D_truth_2 (hce 31 ⟨"DesignTexts$Design", "markOf", "(I)I"⟩ cw_D_markOf rfl) rfl (am_gv wt_110 wt_111 wt_112 wt_87 wt_31) rfl (by decide +kernel) hrm (hR (by decide))) ?_
  refine am_cons (ar_iload_n C d_D_truth_5 rfl) ?_
  refine am_cons (ar_iconst C d_D_truth_6 (by decide)) ?_
  refine am_cons (ar_iand C d_D_truth_7) ?_
  refine am_cons (ar_ixor C d_D_truth_8) ?_
  refine am_cons (ar_ireturn C hr d_D_truth_9) ?_
  exact am_nil
theorem sd_D_arrange {p : Program} {l : Launch} {e : Env} {R : Room} {s : State} {m : MethodId} {args : Array Value} {below : List Frame} {meth : Method} {c : Code} {D : va_G} {ρ : Nat → Nat} {kc : Nat → ClassId} {len : Nat} {Qc : Array Value → State → Outcome → State → Prop} {call : am_C} {rm : Room} (C : am_Cx p R s m args meth c prog_3_method_17_code 3 cw_D_arrange "DesignTexts$Design" D aCl ρ kc am_fts len) (hr : meth.sig.returnType = none)
    (hce : ∀ (id : Nat) (y : MethodName) (ws : List Cond), cPI[id]? = some (y, ws) → am_Ce l call rm D aCl ρ kc am_fts len id y ws) (hrm : rm.cells = 0 ∧ rm.slots = 0) (hR : ∀ {k : Nat}, k ≤ 21 → rm.frames + 1 ≤ R.frames ∧ 8 + (k + 11) + rm.locals ≤ R.locals) :
    ∀ q ∈ tb_D_arrange call, am_Row (am_J p l e R s m args below meth c 3 D aCl ρ kc len (MQ below Qc args s 0 0 (am_A ρ len s.heap.size))) (am_K s args D aCl ρ kc len Qc) q.1 q.2 := by
  unfold tb_D_arrange
  refine am_cons (ar_aload_n C d_D_arrange_0 rfl) ?_
  refine am_cons (ar_callV C d_D_arrange_1 (hce 20 ⟨"DesignTexts$Design", "forget", "()V"⟩ cw_D_forget rfl) rfl (am_gv wt_113 wt_114 wt_115 wt_87 wt_20) rfl (by decide +kernel) hrm (hR (by decide))) ?_
  refine am_cons (ar_aload_n C d_D_arrange_4 rfl) ?_
  refine am_cons (ar_iconst C d_D_arrange_5 (by decide)) ?_
  refine am_cons (ar_iconst C d_D_arrange_6 (by decide)) ?_
  refine am_cons (ar_callV C d_D_arrange_7 (hce 30 ⟨"DesignTexts$Design", "mark", "(II)V"⟩ cw_D_mark rfl) rfl (am_gv wt_98 wt_99 wt_100 wt_87 wt_30) rfl (by decide +kernel) hrm (hR (by decide))) ?_
  refine am_cons (ar_aload_n C d_D_arrange_10 rfl) ?_
  refine am_cons (ar_iconst C d_D_arrange_11 (by decide)) ?_
  refine am_cons (ar_callV C d_D_arrange_12 (hce 21 ⟨"DesignTexts$Design", "markAll", "(I)V"⟩ cw_D_markAll rfl) rfl (am_gv wt_116 wt_117 wt_118 wt_87 wt_21) rfl (by decide +kernel) hrm (hR (by decide))) ?_
  refine am_cons (ar_aload_n C d_D_arrange_15 rfl) ?_
  refine am_cons (ar_iconst C d_D_arrange_16 (by decide)) ?_
  refine am_cons (ar_callV C d_D_arrange_17 (hce 21 ⟨"DesignTexts$Design", "markAll", "(I)V"⟩ cw_D_markAll rfl) rfl (am_gv wt_116 wt_117 wt_118 wt_87 wt_21) rfl (by decide +kernel) hrm (hR (by decide))) ?_
  refine am_cons (ar_iconst C d_D_arrange_20 (by decide)) ?_
  refine am_cons (ar_istore_n C d_D_arrange_21 rfl) ?_
  refine am_cons (ar_keep [0, 1] (ar_iload_n C d_D_arrange_22 rfl)) ?_
  refine am_cons (ar_aload_n C d_D_arrange_23 rfl) ?_
  refine am_cons (ar_iconst C d_D_arrange_24 (by decide)) ?_
  refine am_cons (ar_callV C d_D_arrange_25 (hce 7 ⟨"DesignTexts$Design", "many", "(I)I"⟩ cw_D_many rfl) rfl (am_gv wt_84 wt_85 wt_86 wt_87 wt_7) rfl (by decide +kernel) hrm (hR (by decide))) ?_
  refine am_cons (ar_icmp_ge C d_D_arrange_28 (by decide)) ?_
  refine am_cons (ar_aload_n C d_D_arrange_31 rfl) ?_
  refine am_cons (ar_callV C d_D_arrange_32 (hce 22 ⟨"DesignTexts$Design", "firstReady", "()I"⟩ cw_D_firstReady rfl) rfl (am_gv wt_119 wt_120 wt_121 wt_87 wt_22) rfl (by decide +kernel) hrm (hR (by decide))) ?_
  refine am_cons (ar_istore_n C d_D_arrange_35 rfl) ?_
  refine am_cons (ar_iload_n C d_D_arrange_36 rfl) ?_
  refine am_cons (ar_aload_n C d_D_arrange_37 rfl) ?_
  refine am_cons (ar_getf C d_D_arrange_38 (am_uc ft_Du) rfl (by decide) (am_mc wt_122)) ?_
  refine am_cons (ar_alen C d_D_arrange_41) ?_
  refine am_cons (ar_icmp_ge C d_D_arrange_42 (by decide)) ?_
  refine am_cons (ar_aload_n C d_D_arrange_45 rfl) ?_
  refine am_cons (ar_getf C d_D_arrange_46 (am_uc ft_Du) rfl (by decide) (am_mc wt_122)) ?_
  refine am_cons (ar_iload_n C d_D_arrange_49 rfl) ?_
  refine am_cons (ar_iload_n C d_D_arrange_50 rfl) ?_
  refine am_cons (ar_iast C d_D_arrange_51 rfl) ?_
  refine am_cons (ar_aload_n C d_D_arrange_52 rfl) ?_
  refine am_cons (ar_aload_n C d_D_arrange_53 rfl) ?_
  refine am_cons (ar_iconst C d_D_arrange_54 (by decide)) ?_
  refine am_cons (ar_iload_n C d_D_arrange_55 rfl) ?_
  refine am_cons (ar_callV C d_D_arrange_56 (hce 10 ⟨"DesignTexts$Design", "get", "(II)I"⟩ cw_D_get rfl) rfl (am_gv wt_89 wt_90 wt_91 wt_87 wt_10) rfl (by decide +kernel) hrm (hR (by decide))) ?_
  refine am_cons (ar_iconst C d_D_arrange_59 (by decide)) ?_
  refine am_cons (ar_callV C d_D_arrange_60 (hce 30 ⟨"DesignTexts$Design", "mark", "(II)V"⟩ cw_D_mark rfl) rfl (am_gv wt_98 wt_99 wt_100 wt_87 wt_30) rfl (by decide +kernel) hrm (hR (by decide))) ?_
  refine am_cons (ar_iinc C d_D_arrange_63 (by decide)) ?_
  refine am_cons (ar_goto C d_D_arrange_66 (by decide)) ?_
  refine am_cons (ar_keep [] (ar_return C hr d_D_arrange_69)) ?_
  exact am_nil
theorem sd_D_forget {p : Program} {l : Launch} {e : Env} {R : Room} {s : State} {m : MethodId} {args : Array Value} {below : List Frame} {meth : Method} {c : Code} {D : va_G} {ρ : Nat → Nat} {kc : Nat → ClassId} {len : Nat} {Qc : Array Value → State → Outcome → State → Prop} {call : am_C} {rm : Room} (C : am_Cx p R s m args meth c prog_3_method_18_code 2 cw_D_forget "DesignTexts$Design" D aCl ρ kc am_fts len) (hr : meth.sig.returnType = none)
    (hce : ∀ (id : Nat) (y : MethodName) (ws : List Cond), cPI[id]? = some (y, ws) → am_Ce l call rm D aCl ρ kc am_fts len id y ws) (hrm : rm.cells = 0 ∧ rm.slots = 0) (hR : ∀ {k : Nat}, k ≤ 21 → rm.frames + 1 ≤ R.frames ∧ 8 + (k + 11) + rm.locals ≤ R.locals) :
    ∀ q ∈ tb_D_forget call, am_Row (am_J p l e R s m args below meth c 2 D aCl ρ kc len (MQ below Qc args s 0 0 (am_A ρ len s.heap.size))) (am_K s args D aCl ρ kc len Qc) q.1 q.2 := by
  unfold tb_D_forget
  refine am_cons (ar_iconst C d_D_forget_0 (by decide)) ?_
  refine am_cons (ar_istore_n C d_D_forget_1 rfl) ?_
  refine am_cons (ar_keep [0, 1] (ar_iload_n C d_D_forget_2 rfl)) ?_
  refine am_cons (ar_aload_n C d_D_forget_3 rfl) ?_
  refine am_cons (ar_getf C d_D_forget_4 (am_uc ft_Du) rfl (by decide) (am_mc wt_123)) ?_
  refine am_cons (ar_alen C d_D_forget_7) ?_
  refine am_cons (ar_icmp_ge C d_D_forget_8 (by decide)) ?_
  refine am_cons (ar_aload_n C d_D_forget_11 rfl) ?_
  refine am_cons (ar_getf C d_D_forget_12 (am_uc ft_Du) rfl (by decide) (am_mc wt_123)) ?_
  refine am_cons (ar_iload_n C d_D_forget_15 rfl) ?_
  refine am_cons (ar_iconst C d_D_forget_16 (by decide)) ?_
  refine am_cons (ar_iast C d_D_forget_17 rfl) ?_
  refine am_cons (ar_iinc C d_D_forget_18 (by decide)) ?_
  refine am_cons (ar_goto C d_D_forget_21 (by decide)) ?_
  refine am_cons (ar_keep [] (ar_return C hr d_D_forget_24)) ?_
  exact am_nil
theorem sd_D_markAll {p : Program} {l : Launch} {e : Env} {R : Room} {s : State} {m : MethodId} {args : Array Value} {below : List Frame} {meth : Method} {c : Code} {D : va_G} {ρ : Nat → Nat} {kc : Nat → ClassId} {len : Nat} {Qc : Array Value → State → Outcome → State → Prop} {call : am_C} {rm : Room} (C : am_Cx p R s m args meth c prog_3_method_19_code 3 cw_D_markAll "DesignTexts$Design" D aCl ρ kc am_fts len) (hr : meth.sig.returnType = none)
    (hce : ∀ (id : Nat) (y : MethodName) (ws : List Cond), cPI[id]? = some (y, ws) → am_Ce l call rm D aCl ρ kc am_fts len id y ws) (hrm : rm.cells = 0 ∧ rm.slots = 0) (hR : ∀ {k : Nat}, k ≤ 21 → rm.frames + 1 ≤ R.frames ∧ 8 + (k + 11) + rm.locals ≤ R.locals) :
    ∀ q ∈ tb_D_markAll call, am_Row (am_J p l e R s m args below meth c 3 D aCl ρ kc len (MQ below Qc args s 0 0 (am_A ρ len s.heap.size))) (am_K s args D aCl ρ kc len Qc) q.1 q.2 := by
  unfold tb_D_markAll
  refine am_cons (ar_iconst C d_D_markAll_0 (by decide)) ?_
  refine am_cons (ar_istore_n C d_D_markAll_1 rfl) ?_
  refine am_cons (ar_keep [0, 1, 2] (ar_iload_n C d_D_markAll_2 rfl)) ?_
  refine am_cons (ar_aload_n C d_D_markAll_3 rfl) ?_
  refine am_cons (ar_iload_n C d_D_markAll_4 rfl) ?_
  refine am_cons (ar_callV C d_D_markAll_5 (hce 7 ⟨"DesignTexts$Design", "many", "(I)I"⟩ cw_D_many rfl) rfl (am_gv wt_84 wt_85 wt_86 wt_87 wt_7) rfl (by decide +kernel) hrm (hR (by decide))) ?_
  refine am_cons (ar_icmp_ge C d_D_markAll_8 (by decide)) ?_
  refine am_cons (ar_aload_n C d_D_markAll_11 rfl) ?_
  refine am_cons (ar_aload_n C d_D_markAll_12 rfl) ?_
  refine am_cons (ar_iload_n C d_D_markAll_13 rfl) ?_
  refine am_cons (ar_iload_n C d_D_markAll_14 rfl) ?_
  refine am_cons (ar_callV C d_D_markAll_15 (hce 10 ⟨"DesignTexts$Design", "get", "(II)I"⟩ cw_D_get rfl) rfl (am_gv wt_89 wt_90 wt_91 wt_87 wt_10) rfl (by decide +kernel) hrm (hR (by decide))) ?_
  refine am_cons (ar_iconst C d_D_markAll_18 (by decide)) ?_
  refine am_cons (ar_callV C d_D_markAll_19 (hce 30 ⟨"DesignTexts$Design", "mark", "(II)V"⟩ cw_D_mark rfl) rfl (am_gv wt_98 wt_99 wt_100 wt_87 wt_30) rfl (by decide +kernel) hrm (hR (by decide))) ?_
  refine am_cons (ar_iinc C d_D_markAll_22 (by decide)) ?_
  refine am_cons (ar_goto C d_D_markAll_25 (by decide)) ?_
  refine am_cons (ar_keep [] (ar_return C hr d_D_markAll_28)) ?_
  exact am_nil
theorem sd_D_firstReady {p : Program} {l : Launch} {e : Env} {R : Room} {s : State} {m : MethodId} {args : Array Value} {below : List Frame} {meth : Method} {c : Code} {D : va_G} {ρ : Nat → Nat} {kc : Nat → ClassId} {len : Nat} {Qc : Array Value → State → Outcome → State → Prop} {call : am_C} {rm : Room} (C : am_Cx p R s m args meth c prog_3_method_20_code 2 cw_D_firstReady "DesignTexts$Design" D aCl ρ kc am_fts len) (hr : meth.sig.returnType = some .int)
    (hce : ∀ (id : Nat) (y : MethodName) (ws : List Cond), cPI[id]? = some (y, ws) → am_Ce l call rm D aCl ρ kc am_fts len id y ws) (hrm : rm.cells = 0 ∧ rm.slots = 0) (hR : ∀ {k : Nat}, k ≤ 21 → rm.frames + 1 ≤ R.frames ∧ 8 + (k + 11) + rm.locals ≤ R.locals) :
    ∀ q ∈ tb_D_firstReady call, am_Row (am_J p l e R s m args below meth c 2 D aCl ρ kc len (MQ below Qc args s 0 0 (am_A ρ len s.heap.size))) (am_K s args D aCl ρ kc len Qc) q.1 q.2 := by
  unfold tb_D_firstReady
  refine am_cons (ar_iconst C d_D_firstReady_0 (by decide)) ?_
  refine am_cons (ar_istore_n C d_D_firstReady_1 rfl) ?_
  refine am_cons (ar_keep [0, 1] (ar_iload_n C d_D_firstReady_2 rfl)) ?_
  refine am_cons (ar_aload_n C d_D_firstReady_3 rfl) ?_
  refine am_cons (ar_iconst C d_D_firstReady_4 (by decide)) ?_
  refine am_cons (ar_callV C d_D_firstReady_5 (hce 7 ⟨"DesignTexts$Design", "many", "(I)I"⟩ cw_D_many rfl) rfl (am_gv wt_84 wt_85 wt_86 wt_87 wt_7) rfl (by decide +kernel) hrm (hR (by decide))) ?_
  refine am_cons (ar_icmp_ge C d_D_firstReady_8 (by decide)) ?_
  refine am_cons (ar_aload_n C d_D_firstReady_11 rfl) ?_
  refine am_cons (ar_aload_n C d_D_firstReady_12 rfl) ?_
  refine am_cons (ar_iconst C d_D_firstReady_13 (by decide)) ?_
  refine am_cons (ar_iload_n C d_D_firstReady_14 rfl) ?_
  refine am_cons (ar_callV C d_D_firstReady_15 (hce 10 ⟨"DesignTexts$Design", "get", "(II)I"⟩ cw_D_get rfl) rfl (am_gv wt_89 wt_90 wt_91 wt_87 wt_10) rfl (by decide +kernel) hrm (hR (by decide))) ?_
  refine am_cons (ar_callV C d_D_firstReady_18 (hce 31 ⟨"DesignTexts$Design", "markOf", "(I)I"⟩ cw_D_markOf rfl) rfl (am_gv wt_110 wt_111 wt_112 wt_87 wt_31) rfl (by decide +kernel) hrm (hR (by decide))) ?_
  refine am_cons (ar_if_ne C d_D_firstReady_21 (by decide)) ?_
  refine am_cons (ar_aload_n C d_D_firstReady_24 rfl) ?_
  refine am_cons (ar_aload_n C d_D_firstReady_25 rfl) ?_
  refine am_cons (ar_bipush C d_D_firstReady_26 (by decide)) ?_
  refine am_cons (ar_iload_n C d_D_firstReady_28 rfl) ?_
  refine am_cons (ar_callV C d_D_firstReady_29 (hce 10 ⟨"DesignTexts$Design", "get", "(II)I"⟩ cw_D_get rfl) rfl (am_gv wt_89 wt_90 wt_91 wt_87 wt_10) rfl (by decide +kernel) hrm (hR (by decide))) ?_
  refine am_cons (ar_callV C d_D_firstReady_32 (hce 31 ⟨"DesignTexts$Design", "markOf", "(I)I"⟩ cw_D_markOf rfl) rfl (am_gv wt_110 wt_111 wt_112 wt_87 wt_31) rfl (by decide +kernel) hrm (hR (by decide))) ?_
  refine am_cons (ar_if_eq C d_D_firstReady_35 (by decide)) ?_
  refine am_cons (ar_aload_n C d_D_firstReady_38 rfl) ?_
  refine am_cons (ar_aload_n C d_D_firstReady_39 rfl) ?_
  refine am_cons (ar_bipush C d_D_firstReady_40 (by decide)) ?_
  refine am_cons (ar_iload_n C d_D_firstReady_42 rfl) ?_
  refine am_cons (ar_callV C d_D_firstReady_43 (hce 10 ⟨"DesignTexts$Design", "get", "(II)I"⟩ cw_D_get rfl) rfl (am_gv wt_89 wt_90 wt_91 wt_87 wt_10) rfl (by decide +kernel) hrm (hR (by decide))) ?_
  refine am_cons (ar_callV C d_D_firstReady_46 (hce 31 ⟨"DesignTexts$Design", "markOf", "(I)I"⟩ cw_D_markOf rfl) rfl (am_gv wt_110 wt_111 wt_112 wt_87 wt_31) rfl (by decide +kernel) hrm (hR (by decide))) ?_
  refine am_cons (ar_if_eq C d_D_firstReady_49 (by decide)) ?_
  refine am_cons (ar_iload_n C d_D_firstReady_52 rfl) ?_
  refine am_cons (ar_ireturn C hr d_D_firstReady_53) ?_
  refine am_cons (ar_iinc C d_D_firstReady_54 (by decide)) ?_
  refine am_cons (ar_goto C d_D_firstReady_57 (by decide)) ?_
  refine am_cons (ar_keep [] (ar_iconst C d_D_firstReady_60 (by decide))) ?_
  refine am_cons (ar_ireturn C hr d_D_firstReady_61) ?_
  exact am_nil
theorem sd_D_inSequence {p : Program} {l : Launch} {e : Env} {R : Room} {s : State} {m : MethodId} {args : Array Value} {below : List Frame} {meth : Method} {c : Code} {D : va_G} {ρ : Nat → Nat} {kc : Nat → ClassId} {len : Nat} {Qc : Array Value → State → Outcome → State → Prop} {call : am_C} {rm : Room} (C : am_Cx p R s m args meth c prog_3_method_21_code 2 cw_D_inSequence "DesignTexts$Design" D aCl ρ kc am_fts len) (hr : meth.sig.returnType = some .int)
    (hce : ∀ (id : Nat) (y : MethodName) (ws : List Cond), cPI[id]? = some (y, ws) → am_Ce l call rm D aCl ρ kc am_fts len id y ws) (hrm : rm.cells = 0 ∧ rm.slots = 0) (hR : ∀ {k : Nat}, k ≤ 21 → rm.frames + 1 ≤ R.frames ∧ 8 + (k + 11) + rm.locals ≤ R.locals) :
    ∀ q ∈ tb_D_inSequence call, am_Row (am_J p l e R s m args below meth c 2 D aCl ρ kc len (MQ below Qc args s 0 0 (am_A ρ len s.heap.size))) (am_K s args D aCl ρ kc len Qc) q.1 q.2 := by
  unfold tb_D_inSequence
  refine am_cons (ar_iload_n C d_D_inSequence_0 rfl) ?_
  refine am_cons (ar_if_lt C d_D_inSequence_1 (by decide)) ?_
  refine am_cons (ar_iload_n C d_D_inSequence_4 rfl) ?_
  refine am_cons (ar_aload_n C d_D_inSequence_5 rfl) ?_
  refine am_cons (ar_getf C d_D_inSequence_6 (am_uc ft_Du) rfl (by decide) (am_mc wt_122)) ?_
  refine am_cons (ar_alen C d_D_inSequence_9) ?_
  refine am_cons (ar_icmp_ge C d_D_inSequence_10 (by decide)) ?_
  refine am_cons (ar_aload_n C d_D_inSequence_13 rfl) ?_
  refine am_cons (ar_getf C d_D_inSequence_14 (am_uc ft_Du) rfl (by decide) (am_mc wt_122)) ?_
  refine am_cons (ar_iload_n C d_D_inSequence_17 rfl) ?_
  refine am_cons (ar_iald C d_D_inSequence_18 rfl) ?_
  refine am_cons (ar_goto C d_D_inSequence_19 (by decide)) ?_
  refine am_cons (ar_iconst C d_D_inSequence_22 (by decide)) ?_
  refine am_cons (ar_ireturn C hr d_D_inSequence_23) ?_
  exact am_nil
theorem sd_D_orderFrom {p : Program} {l : Launch} {e : Env} {R : Room} {s : State} {m : MethodId} {args : Array Value} {below : List Frame} {meth : Method} {c : Code} {D : va_G} {ρ : Nat → Nat} {kc : Nat → ClassId} {len : Nat} {Qc : Array Value → State → Outcome → State → Prop} {call : am_C} {rm : Room} (C : am_Cx p R s m args meth c prog_3_method_22_code 2 cw_D_orderFrom "DesignTexts$Design" D aCl ρ kc am_fts len) (hr : meth.sig.returnType = none)
    (hce : ∀ (id : Nat) (y : MethodName) (ws : List Cond), cPI[id]? = some (y, ws) → am_Ce l call rm D aCl ρ kc am_fts len id y ws) (hrm : rm.cells = 0 ∧ rm.slots = 0) (hR : ∀ {k : Nat}, k ≤ 21 → rm.frames + 1 ≤ R.frames ∧ 8 + (k + 11) + rm.locals ≤ R.locals) :
    ∀ q ∈ tb_D_orderFrom call, am_Row (am_J p l e R s m args below meth c 2 D aCl ρ kc len (MQ below Qc args s 0 0 (am_A ρ len s.heap.size))) (am_K s args D aCl ρ kc len Qc) q.1 q.2 := by
  unfold tb_D_orderFrom
  refine am_cons (ar_aload_n C d_D_orderFrom_0 rfl) ?_
  refine am_cons (ar_aload_n C d_D_orderFrom_1 rfl) ?_
  refine am_cons (ar_callV C d_D_orderFrom_2 (hce 25 ⟨"DesignTexts$Design", "numberAnew", "(LDesignTexts$Design;)V"⟩ cw_D_numberAnew rfl) rfl (am_gv wt_124 wt_125 wt_126 wt_87 wt_25) rfl (by decide +kernel) hrm (hR (by decide))) ?_
  refine am_cons (ar_aload_n C d_D_orderFrom_5 rfl) ?_
  refine am_cons (ar_aload_n C d_D_orderFrom_6 rfl) ?_
  refine am_cons (ar_callV C d_D_orderFrom_7 (hce 26 ⟨"DesignTexts$Design", "copyInputsAndOutputs", "(LDesignTexts$Design;)V"⟩ cw_D_copyInputsAndOutputs rfl) rfl (am_gv wt_127 wt_128 wt_129 wt_87 wt_26) rfl (by decide +kernel) hrm (hR (by decide))) ?_
  refine am_cons (ar_aload_n C d_D_orderFrom_10 rfl) ?_
  refine am_cons (ar_aload_n C d_D_orderFrom_11 rfl) ?_
  refine am_cons (ar_callV C d_D_orderFrom_12 (hce 27 ⟨"DesignTexts$Design", "copyLatches", "(LDesignTexts$Design;)V"⟩ cw_D_copyLatches rfl) rfl (am_gv wt_130 wt_131 wt_132 wt_87 wt_27) rfl (by decide +kernel) hrm (hR (by decide))) ?_
  refine am_cons (ar_aload_n C d_D_orderFrom_15 rfl) ?_
  refine am_cons (ar_aload_n C d_D_orderFrom_16 rfl) ?_
  refine am_cons (ar_callV C d_D_orderFrom_17 (hce 28 ⟨"DesignTexts$Design", "copyGates", "(LDesignTexts$Design;)V"⟩ cw_D_copyGates rfl) rfl (am_gv wt_133 wt_134 wt_135 wt_87 wt_28) rfl (by decide +kernel) hrm (hR (by decide))) ?_
  refine am_cons (ar_aload_n C d_D_orderFrom_20 rfl) ?_
  refine am_cons (ar_aload_n C d_D_orderFrom_21 rfl) ?_
  refine am_cons (ar_getf C d_D_orderFrom_22 (am_uc ft_Du) rfl (by decide) (am_mc wt_75)) ?_
  refine am_cons (ar_putI C d_D_orderFrom_25 (am_uc ft_Du) ft_Do ft_Dn rfl (by decide) (am_mc wt_75) rfl (by decide +kernel)) ?_
  refine am_cons (ar_aload_n C d_D_orderFrom_28 rfl) ?_
  refine am_cons (ar_callV C d_D_orderFrom_29 (hce 19 ⟨"DesignTexts$Design", "arrange", "()V"⟩ cw_D_arrange rfl) rfl (am_gv wt_136 wt_137 wt_138 wt_87 wt_19) rfl (by decide +kernel) hrm (hR (by decide))) ?_
  refine am_cons (ar_return C hr d_D_orderFrom_32) ?_
  exact am_nil
theorem sd_D_numberAnew {p : Program} {l : Launch} {e : Env} {R : Room} {s : State} {m : MethodId} {args : Array Value} {below : List Frame} {meth : Method} {c : Code} {D : va_G} {ρ : Nat → Nat} {kc : Nat → ClassId} {len : Nat} {Qc : Array Value → State → Outcome → State → Prop} {call : am_C} {rm : Room} (C : am_Cx p R s m args meth c prog_3_method_23_code 4 cw_D_numberAnew "DesignTexts$Design" D aCl ρ kc am_fts len) (hr : meth.sig.returnType = none)
    (hce : ∀ (id : Nat) (y : MethodName) (ws : List Cond), cPI[id]? = some (y, ws) → am_Ce l call rm D aCl ρ kc am_fts len id y ws) (hrm : rm.cells = 0 ∧ rm.slots = 0) (hR : ∀ {k : Nat}, k ≤ 21 → rm.frames + 1 ≤ R.frames ∧ 8 + (k + 11) + rm.locals ≤ R.locals) :
    ∀ q ∈ tb_D_numberAnew call, am_Row (am_J p l e R s m args below meth c 4 D aCl ρ kc len (MQ below Qc args s 0 0 (am_A ρ len s.heap.size))) (am_K s args D aCl ρ kc len Qc) q.1 q.2 := by
  unfold tb_D_numberAnew
  refine am_cons (ar_aload_n C d_D_numberAnew_0 rfl) ?_
  refine am_cons (ar_iconst C d_D_numberAnew_1 (by decide)) ?_
  refine am_cons (ar_iconst C d_D_numberAnew_2 (by decide)) ?_
  refine am_cons (ar_callV C d_D_numberAnew_3 (hce 30 ⟨"DesignTexts$Design", "mark", "(II)V"⟩ cw_D_mark rfl) rfl (am_gv wt_98 wt_99 wt_100 wt_87 wt_30) rfl (by decide +kernel) hrm (hR (by decide))) ?_
  refine am_cons (ar_iconst C d_D_numberAnew_6 (by decide)) ?_
  refine am_cons (ar_istore_n C d_D_numberAnew_7 rfl) ?_
  refine am_cons (ar_iconst C d_D_numberAnew_8 (by decide)) ?_
  refine am_cons (ar_istore_n C d_D_numberAnew_9 rfl) ?_
  refine am_cons (ar_keep [0, 1, 2, 3] (ar_iload_n C d_D_numberAnew_10 rfl)) ?_
  refine am_cons (ar_aload_n C d_D_numberAnew_11 rfl) ?_
  refine am_cons (ar_iconst C d_D_numberAnew_12 (by decide)) ?_
  refine am_cons (ar_callV C d_D_numberAnew_13 (hce 7 ⟨"DesignTexts$Design", "many", "(I)I"⟩ cw_D_many rfl) rfl (am_gv wt_84 wt_85 wt_86 wt_87 wt_7) rfl (by decide +kernel) hrm (hR (by decide))) ?_
  refine am_cons (ar_icmp_ge C d_D_numberAnew_16 (by decide)) ?_
  refine am_cons (ar_iinc C d_D_numberAnew_19 (by decide)) ?_
  refine am_cons (ar_aload_n C d_D_numberAnew_22 rfl) ?_
  refine am_cons (ar_aload_n C d_D_numberAnew_23 rfl) ?_
  refine am_cons (ar_iconst C d_D_numberAnew_24 (by decide)) ?_
  refine am_cons (ar_iload_n C d_D_numberAnew_25 rfl) ?_
  refine am_cons (ar_callV C d_D_numberAnew_26 (hce 10 ⟨"DesignTexts$Design", "get", "(II)I"⟩ cw_D_get rfl) rfl (am_gv wt_89 wt_90 wt_91 wt_87 wt_10) rfl (by decide +kernel) hrm (hR (by decide))) ?_
  refine am_cons (ar_iload_n C d_D_numberAnew_29 rfl) ?_
  refine am_cons (ar_callV C d_D_numberAnew_30 (hce 30 ⟨"DesignTexts$Design", "mark", "(II)V"⟩ cw_D_mark rfl) rfl (am_gv wt_98 wt_99 wt_100 wt_87 wt_30) rfl (by decide +kernel) hrm (hR (by decide))) ?_
  refine am_cons (ar_iinc C d_D_numberAnew_33 (by decide)) ?_
  refine am_cons (ar_goto C d_D_numberAnew_36 (by decide)) ?_
  refine am_cons (ar_keep [0, 1, 2] (ar_iconst C d_D_numberAnew_39 (by decide))) ?_
  refine am_cons (ar_istore_n C d_D_numberAnew_40 rfl) ?_
  refine am_cons (ar_keep [0, 1, 2, 3] (ar_iload_n C d_D_numberAnew_41 rfl)) ?_
  refine am_cons (ar_aload_n C d_D_numberAnew_42 rfl) ?_
  refine am_cons (ar_iconst C d_D_numberAnew_43 (by decide)) ?_
  refine am_cons (ar_callV C d_D_numberAnew_44 (hce 7 ⟨"DesignTexts$Design", "many", "(I)I"⟩ cw_D_many rfl) rfl (am_gv wt_84 wt_85 wt_86 wt_87 wt_7) rfl (by decide +kernel) hrm (hR (by decide))) ?_
  refine am_cons (ar_icmp_ge C d_D_numberAnew_47 (by decide)) ?_
  refine am_cons (ar_iinc C d_D_numberAnew_50 (by decide)) ?_
  refine am_cons (ar_aload_n C d_D_numberAnew_53 rfl) ?_
  refine am_cons (ar_aload_n C d_D_numberAnew_54 rfl) ?_
  refine am_cons (ar_iconst C d_D_numberAnew_55 (by decide)) ?_
  refine am_cons (ar_iload_n C d_D_numberAnew_56 rfl) ?_
  refine am_cons (ar_callV C d_D_numberAnew_57 (hce 10 ⟨"DesignTexts$Design", "get", "(II)I"⟩ cw_D_get rfl) rfl (am_gv wt_89 wt_90 wt_91 wt_87 wt_10) rfl (by decide +kernel) hrm (hR (by decide))) ?_
  refine am_cons (ar_iload_n C d_D_numberAnew_60 rfl) ?_
  refine am_cons (ar_callV C d_D_numberAnew_61 (hce 30 ⟨"DesignTexts$Design", "mark", "(II)V"⟩ cw_D_mark rfl) rfl (am_gv wt_98 wt_99 wt_100 wt_87 wt_30) rfl (by decide +kernel) hrm (hR (by decide))) ?_
  refine am_cons (ar_iinc C d_D_numberAnew_64 (by decide)) ?_
  refine am_cons (ar_goto C d_D_numberAnew_67 (by decide)) ?_
  refine am_cons (ar_keep [0, 1, 2] (ar_iconst C d_D_numberAnew_70 (by decide))) ?_
  refine am_cons (ar_istore_n C d_D_numberAnew_71 rfl) ?_
  refine am_cons (ar_keep [0, 1, 2, 3] (ar_iload_n C d_D_numberAnew_72 rfl)) ?_
  refine am_cons (ar_aload_n C d_D_numberAnew_73 rfl) ?_
  refine am_cons (ar_iconst C d_D_numberAnew_74 (by decide)) ?_
  refine am_cons (ar_callV C d_D_numberAnew_75 (hce 7 ⟨"DesignTexts$Design", "many", "(I)I"⟩ cw_D_many rfl) rfl (am_gv wt_84 wt_85 wt_86 wt_87 wt_7) rfl (by decide +kernel) hrm (hR (by decide))) ?_
  refine am_cons (ar_icmp_ge C d_D_numberAnew_78 (by decide)) ?_
  refine am_cons (ar_iinc C d_D_numberAnew_81 (by decide)) ?_
  refine am_cons (ar_aload_n C d_D_numberAnew_84 rfl) ?_
  refine am_cons (ar_aload_n C d_D_numberAnew_85 rfl) ?_
  refine am_cons (ar_iconst C d_D_numberAnew_86 (by decide)) ?_
  refine am_cons (ar_aload_n C d_D_numberAnew_87 rfl) ?_
  refine am_cons (ar_iload_n C d_D_numberAnew_88 rfl) ?_
  refine am_cons (ar_callV C d_D_numberAnew_89 (hce 23 ⟨"DesignTexts$Design", "inSequence", "(I)I"⟩ cw_D_inSequence rfl) rfl (am_gv wt_101 wt_102 wt_103 wt_87 wt_23) rfl (by decide +kernel) hrm (hR (by decide))) ?_
  refine am_cons (ar_callV C d_D_numberAnew_92 (hce 10 ⟨"DesignTexts$Design", "get", "(II)I"⟩ cw_D_get rfl) rfl (am_gv wt_89 wt_90 wt_91 wt_87 wt_10) rfl (by decide +kernel) hrm (hR (by decide))) ?_
  refine am_cons (ar_iload_n C d_D_numberAnew_95 rfl) ?_
  refine am_cons (ar_callV C d_D_numberAnew_96 (hce 30 ⟨"DesignTexts$Design", "mark", "(II)V"⟩ cw_D_mark rfl) rfl (am_gv wt_98 wt_99 wt_100 wt_87 wt_30) rfl (by decide +kernel) hrm (hR (by decide))) ?_
  refine am_cons (ar_iinc C d_D_numberAnew_99 (by decide)) ?_
  refine am_cons (ar_goto C d_D_numberAnew_102 (by decide)) ?_
  refine am_cons (ar_keep [0, 2] (ar_aload_n C d_D_numberAnew_105 rfl)) ?_
  refine am_cons (ar_iload_n C d_D_numberAnew_106 rfl) ?_
  refine am_cons (ar_putI C d_D_numberAnew_107 (am_uc ft_Du) ft_Do ft_Dn rfl (by decide) (am_mc wt_74) rfl (by decide +kernel)) ?_
  refine am_cons (ar_return C hr d_D_numberAnew_110) ?_
  exact am_nil
theorem sd_D_copyInputsAndOutputs {p : Program} {l : Launch} {e : Env} {R : Room} {s : State} {m : MethodId} {args : Array Value} {below : List Frame} {meth : Method} {c : Code} {D : va_G} {ρ : Nat → Nat} {kc : Nat → ClassId} {len : Nat} {Qc : Array Value → State → Outcome → State → Prop} {call : am_C} {rm : Room} (C : am_Cx p R s m args meth c prog_3_method_24_code 3 cw_D_copyInputsAndOutputs "DesignTexts$Design" D aCl ρ kc am_fts len) (hr : meth.sig.returnType = none)
    (hce : ∀ (id : Nat) (y : MethodName) (ws : List Cond), cPI[id]? = some (y, ws) → am_Ce l call rm D aCl ρ kc am_fts len id y ws) (hrm : rm.cells = 0 ∧ rm.slots = 0) (hR : ∀ {k : Nat}, k ≤ 21 → rm.frames + 1 ≤ R.frames ∧ 8 + (k + 11) + rm.locals ≤ R.locals) :
    ∀ q ∈ tb_D_copyInputsAndOutputs call, am_Row (am_J p l e R s m args below meth c 3 D aCl ρ kc len (MQ below Qc args s 0 0 (am_A ρ len s.heap.size))) (am_K s args D aCl ρ kc len Qc) q.1 q.2 := by
  unfold tb_D_copyInputsAndOutputs
  refine am_cons (ar_aload_n C d_D_copyInputsAndOutputs_0 rfl) ?_
  refine am_cons (ar_iconst C d_D_copyInputsAndOutputs_1 (by decide)) ?_
  refine am_cons (ar_aload_n C d_D_copyInputsAndOutputs_2 rfl) ?_
  refine am_cons (ar_iconst C d_D_copyInputsAndOutputs_3 (by decide)) ?_
  refine am_cons (ar_callV C d_D_copyInputsAndOutputs_4 (hce 7 ⟨"DesignTexts$Design", "many", "(I)I"⟩ cw_D_many rfl) rfl (am_gv wt_84 wt_85 wt_86 wt_87 wt_7) rfl (by decide +kernel) hrm (hR (by decide))) ?_
  refine am_cons (ar_callV C d_D_copyInputsAndOutputs_7 (hce 8 ⟨"DesignTexts$Design", "setMany", "(II)V"⟩ cw_D_setMany rfl) rfl (am_gv wt_139 wt_140 wt_141 wt_87 wt_8) rfl (by decide +kernel) hrm (hR (by decide))) ?_
  refine am_cons (ar_iconst C d_D_copyInputsAndOutputs_10 (by decide)) ?_
  refine am_cons (ar_istore_n C d_D_copyInputsAndOutputs_11 rfl) ?_
  refine am_cons (ar_keep [0, 1, 2] (ar_iload_n C d_D_copyInputsAndOutputs_12 rfl)) ?_
  refine am_cons (ar_aload_n C d_D_copyInputsAndOutputs_13 rfl) ?_
  refine am_cons (ar_iconst C d_D_copyInputsAndOutputs_14 (by decide)) ?_
  refine am_cons (ar_callV C d_D_copyInputsAndOutputs_15 (hce 7 ⟨"DesignTexts$Design", "many", "(I)I"⟩ cw_D_many rfl) rfl (am_gv wt_84 wt_85 wt_86 wt_87 wt_7) rfl (by decide +kernel) hrm (hR (by decide))) ?_
  refine am_cons (ar_icmp_ge C d_D_copyInputsAndOutputs_18 (by decide)) ?_
  refine am_cons (ar_aload_n C d_D_copyInputsAndOutputs_21 rfl) ?_
  refine am_cons (ar_iconst C d_D_copyInputsAndOutputs_22 (by decide)) ?_
  refine am_cons (ar_iload_n C d_D_copyInputsAndOutputs_23 rfl) ?_
  refine am_cons (ar_aload_n C d_D_copyInputsAndOutputs_24 rfl) ?_
  refine am_cons (ar_aload_n C d_D_copyInputsAndOutputs_25 rfl) ?_
  refine am_cons (ar_iconst C d_D_copyInputsAndOutputs_26 (by decide)) ?_
  refine am_cons (ar_iload_n C d_D_copyInputsAndOutputs_27 rfl) ?_
  refine am_cons (ar_callV C d_D_copyInputsAndOutputs_28 (hce 10 ⟨"DesignTexts$Design", "get", "(II)I"⟩ cw_D_get rfl) rfl (am_gv wt_89 wt_90 wt_91 wt_87 wt_10) rfl (by decide +kernel) hrm (hR (by decide))) ?_
  refine am_cons (ar_callV C d_D_copyInputsAndOutputs_31 (hce 29 ⟨"DesignTexts$Design", "renumbered", "(I)I"⟩ cw_D_renumbered rfl) rfl (am_gv wt_142 wt_143 wt_144 wt_87 wt_29) rfl (by decide +kernel) hrm (hR (by decide))) ?_
  refine am_cons (ar_callV C d_D_copyInputsAndOutputs_34 (hce 11 ⟨"DesignTexts$Design", "set", "(III)V"⟩ cw_D_set rfl) rfl (am_gv wt_145 wt_146 wt_147 wt_87 wt_11) rfl (by decide +kernel) hrm (hR (by decide))) ?_
  refine am_cons (ar_iinc C d_D_copyInputsAndOutputs_37 (by decide)) ?_
  refine am_cons (ar_goto C d_D_copyInputsAndOutputs_40 (by decide)) ?_
  refine am_cons (ar_keep [0, 1] (ar_aload_n C d_D_copyInputsAndOutputs_43 rfl)) ?_
  refine am_cons (ar_iconst C d_D_copyInputsAndOutputs_44 (by decide)) ?_
  refine am_cons (ar_aload_n C d_D_copyInputsAndOutputs_45 rfl) ?_
  refine am_cons (ar_iconst C d_D_copyInputsAndOutputs_46 (by decide)) ?_
  refine am_cons (ar_callV C d_D_copyInputsAndOutputs_47 (hce 7 ⟨"DesignTexts$Design", "many", "(I)I"⟩ cw_D_many rfl) rfl (am_gv wt_84 wt_85 wt_86 wt_87 wt_7) rfl (by decide +kernel) hrm (hR (by decide))) ?_
  refine am_cons (ar_callV C d_D_copyInputsAndOutputs_50 (hce 8 ⟨"DesignTexts$Design", "setMany", "(II)V"⟩ cw_D_setMany rfl) rfl (am_gv wt_139 wt_140 wt_141 wt_87 wt_8) rfl (by decide +kernel) hrm (hR (by decide))) ?_
  refine am_cons (ar_iconst C d_D_copyInputsAndOutputs_53 (by decide)) ?_
  refine am_cons (ar_istore_n C d_D_copyInputsAndOutputs_54 rfl) ?_
  refine am_cons (ar_keep [0, 1, 2] (ar_iload_n C d_D_copyInputsAndOutputs_55 rfl)) ?_
  refine am_cons (ar_aload_n C d_D_copyInputsAndOutputs_56 rfl) ?_
  refine am_cons (ar_iconst C d_D_copyInputsAndOutputs_57 (by decide)) ?_
  refine am_cons (ar_callV C d_D_copyInputsAndOutputs_58 (hce 7 ⟨"DesignTexts$Design", "many", "(I)I"⟩ cw_D_many rfl) rfl (am_gv wt_84 wt_85 wt_86 wt_87 wt_7) rfl (by decide +kernel) hrm (hR (by decide))) ?_
  refine am_cons (ar_icmp_ge C d_D_copyInputsAndOutputs_61 (by decide)) ?_
  refine am_cons (ar_aload_n C d_D_copyInputsAndOutputs_64 rfl) ?_
  refine am_cons (ar_iconst C d_D_copyInputsAndOutputs_65 (by decide)) ?_
  refine am_cons (ar_iload_n C d_D_copyInputsAndOutputs_66 rfl) ?_
  refine am_cons (ar_aload_n C d_D_copyInputsAndOutputs_67 rfl) ?_
  refine am_cons (ar_aload_n C d_D_copyInputsAndOutputs_68 rfl) ?_
  refine am_cons (ar_iconst C d_D_copyInputsAndOutputs_69 (by decide)) ?_
  refine am_cons (ar_iload_n C d_D_copyInputsAndOutputs_70 rfl) ?_
  refine am_cons (ar_callV C d_D_copyInputsAndOutputs_71 (hce 10 ⟨"DesignTexts$Design", "get", "(II)I"⟩ cw_D_get rfl) rfl (am_gv wt_89 wt_90 wt_91 wt_87 wt_10) rfl (by decide +kernel) hrm (hR (by decide))) ?_
  refine am_cons (ar_callV C d_D_copyInputsAndOutputs_74 (hce 29 ⟨"DesignTexts$Design", "renumbered", "(I)I"⟩ cw_D_renumbered rfl) rfl (am_gv wt_142 wt_143 wt_144 wt_87 wt_29) rfl (by decide +kernel) hrm (hR (by decide))) ?_
  refine am_cons (ar_callV C d_D_copyInputsAndOutputs_77 (hce 11 ⟨"DesignTexts$Design", "set", "(III)V"⟩ cw_D_set rfl) rfl (am_gv wt_145 wt_146 wt_147 wt_87 wt_11) rfl (by decide +kernel) hrm (hR (by decide))) ?_
  refine am_cons (ar_iinc C d_D_copyInputsAndOutputs_80 (by decide)) ?_
  refine am_cons (ar_goto C d_D_copyInputsAndOutputs_83 (by decide)) ?_
  refine am_cons (ar_keep [] (ar_return C hr d_D_copyInputsAndOutputs_86)) ?_
  exact am_nil
theorem sd_D_copyLatches {p : Program} {l : Launch} {e : Env} {R : Room} {s : State} {m : MethodId} {args : Array Value} {below : List Frame} {meth : Method} {c : Code} {D : va_G} {ρ : Nat → Nat} {kc : Nat → ClassId} {len : Nat} {Qc : Array Value → State → Outcome → State → Prop} {call : am_C} {rm : Room} (C : am_Cx p R s m args meth c prog_3_method_25_code 3 cw_D_copyLatches "DesignTexts$Design" D aCl ρ kc am_fts len) (hr : meth.sig.returnType = none)
    (hce : ∀ (id : Nat) (y : MethodName) (ws : List Cond), cPI[id]? = some (y, ws) → am_Ce l call rm D aCl ρ kc am_fts len id y ws) (hrm : rm.cells = 0 ∧ rm.slots = 0) (hR : ∀ {k : Nat}, k ≤ 21 → rm.frames + 1 ≤ R.frames ∧ 8 + (k + 11) + rm.locals ≤ R.locals) :
    ∀ q ∈ tb_D_copyLatches call, am_Row (am_J p l e R s m args below meth c 3 D aCl ρ kc len (MQ below Qc args s 0 0 (am_A ρ len s.heap.size))) (am_K s args D aCl ρ kc len Qc) q.1 q.2 := by
  unfold tb_D_copyLatches
  refine am_cons (ar_aload_n C d_D_copyLatches_0 rfl) ?_
  refine am_cons (ar_iconst C d_D_copyLatches_1 (by decide)) ?_
  refine am_cons (ar_aload_n C d_D_copyLatches_2 rfl) ?_
  refine am_cons (ar_iconst C d_D_copyLatches_3 (by decide)) ?_
  refine am_cons (ar_callV C d_D_copyLatches_4 (hce 7 ⟨"DesignTexts$Design", "many", "(I)I"⟩ cw_D_many rfl) rfl (am_gv wt_84 wt_85 wt_86 wt_87 wt_7) rfl (by decide +kernel) hrm (hR (by decide))) ?_
  refine am_cons (ar_callV C d_D_copyLatches_7 (hce 8 ⟨"DesignTexts$Design", "setMany", "(II)V"⟩ cw_D_setMany rfl) rfl (am_gv wt_139 wt_140 wt_141 wt_87 wt_8) rfl (by decide +kernel) hrm (hR (by decide))) ?_
  refine am_cons (ar_iconst C d_D_copyLatches_10 (by decide)) ?_
  refine am_cons (ar_istore_n C d_D_copyLatches_11 rfl) ?_
  refine am_cons (ar_keep [0, 1, 2] (ar_iload_n C d_D_copyLatches_12 rfl)) ?_
  refine am_cons (ar_aload_n C d_D_copyLatches_13 rfl) ?_
  refine am_cons (ar_iconst C d_D_copyLatches_14 (by decide)) ?_
  refine am_cons (ar_callV C d_D_copyLatches_15 (hce 7 ⟨"DesignTexts$Design", "many", "(I)I"⟩ cw_D_many rfl) rfl (am_gv wt_84 wt_85 wt_86 wt_87 wt_7) rfl (by decide +kernel) hrm (hR (by decide))) ?_
  refine am_cons (ar_icmp_ge C d_D_copyLatches_18 (by decide)) ?_
  refine am_cons (ar_aload_n C d_D_copyLatches_21 rfl) ?_
  refine am_cons (ar_iconst C d_D_copyLatches_22 (by decide)) ?_
  refine am_cons (ar_iload_n C d_D_copyLatches_23 rfl) ?_
  refine am_cons (ar_aload_n C d_D_copyLatches_24 rfl) ?_
  refine am_cons (ar_aload_n C d_D_copyLatches_25 rfl) ?_
  refine am_cons (ar_iconst C d_D_copyLatches_26 (by decide)) ?_
  refine am_cons (ar_iload_n C d_D_copyLatches_27 rfl) ?_
  refine am_cons (ar_callV C d_D_copyLatches_28 (hce 10 ⟨"DesignTexts$Design", "get", "(II)I"⟩ cw_D_get rfl) rfl (am_gv wt_89 wt_90 wt_91 wt_87 wt_10) rfl (by decide +kernel) hrm (hR (by decide))) ?_
  refine am_cons (ar_callV C d_D_copyLatches_31 (hce 29 ⟨"DesignTexts$Design", "renumbered", "(I)I"⟩ cw_D_renumbered rfl) rfl (am_gv wt_142 wt_143 wt_144 wt_87 wt_29) rfl (by decide +kernel) hrm (hR (by decide))) ?_
  refine am_cons (ar_callV C d_D_copyLatches_34 (hce 11 ⟨"DesignTexts$Design", "set", "(III)V"⟩ cw_D_set rfl) rfl (am_gv wt_145 wt_146 wt_147 wt_87 wt_11) rfl (by decide +kernel) hrm (hR (by decide))) ?_
  refine am_cons (ar_aload_n C d_D_copyLatches_37 rfl) ?_
  refine am_cons (ar_iconst C d_D_copyLatches_38 (by decide)) ?_
  refine am_cons (ar_iload_n C d_D_copyLatches_39 rfl) ?_
  refine am_cons (ar_aload_n C d_D_copyLatches_40 rfl) ?_
  refine am_cons (ar_aload_n C d_D_copyLatches_41 rfl) ?_
  refine am_cons (ar_iconst C d_D_copyLatches_42 (by decide)) ?_
  refine am_cons (ar_iload_n C d_D_copyLatches_43 rfl) ?_
  refine am_cons (ar_callV C d_D_copyLatches_44 (hce 10 ⟨"DesignTexts$Design", "get", "(II)I"⟩ cw_D_get rfl) rfl (am_gv wt_89 wt_90 wt_91 wt_87 wt_10) rfl (by decide +kernel) hrm (hR (by decide))) ?_
  refine am_cons (ar_callV C d_D_copyLatches_47 (hce 29 ⟨"DesignTexts$Design", "renumbered", "(I)I"⟩ cw_D_renumbered rfl) rfl (am_gv wt_142 wt_143 wt_144 wt_87 wt_29) rfl (by decide +kernel) hrm (hR (by decide))) ?_
  refine am_cons (ar_callV C d_D_copyLatches_50 (hce 11 ⟨"DesignTexts$Design", "set", "(III)V"⟩ cw_D_set rfl) rfl (am_gv wt_145 wt_146 wt_147 wt_87 wt_11) rfl (by decide +kernel) hrm (hR (by decide))) ?_
  refine am_cons (ar_aload_n C d_D_copyLatches_53 rfl) ?_
  refine am_cons (ar_iconst C d_D_copyLatches_54 (by decide)) ?_
  refine am_cons (ar_iload_n C d_D_copyLatches_55 rfl) ?_
  refine am_cons (ar_aload_n C d_D_copyLatches_56 rfl) ?_
  refine am_cons (ar_iconst C d_D_copyLatches_57 (by decide)) ?_
  refine am_cons (ar_iload_n C d_D_copyLatches_58 rfl) ?_
  refine am_cons (ar_callV C d_D_copyLatches_59 (hce 10 ⟨"DesignTexts$Design", "get", "(II)I"⟩ cw_D_get rfl) rfl (am_gv wt_89 wt_90 wt_91 wt_87 wt_10) rfl (by decide +kernel) hrm (hR (by decide))) ?_
  refine am_cons (ar_callV C d_D_copyLatches_62 (hce 11 ⟨"DesignTexts$Design", "set", "(III)V"⟩ cw_D_set rfl) rfl (am_gv wt_145 wt_146 wt_147 wt_87 wt_11) rfl (by decide +kernel) hrm (hR (by decide))) ?_
  refine am_cons (ar_iinc C d_D_copyLatches_65 (by decide)) ?_
  refine am_cons (ar_goto C d_D_copyLatches_68 (by decide)) ?_
  refine am_cons (ar_keep [] (ar_return C hr d_D_copyLatches_71)) ?_
  exact am_nil
theorem sd_D_copyGates {p : Program} {l : Launch} {e : Env} {R : Room} {s : State} {m : MethodId} {args : Array Value} {below : List Frame} {meth : Method} {c : Code} {D : va_G} {ρ : Nat → Nat} {kc : Nat → ClassId} {len : Nat} {Qc : Array Value → State → Outcome → State → Prop} {call : am_C} {rm : Room} (C : am_Cx p R s m args meth c prog_3_method_26_code 6 cw_D_copyGates "DesignTexts$Design" D aCl ρ kc am_fts len) (hr : meth.sig.returnType = none)
    (hce : ∀ (id : Nat) (y : MethodName) (ws : List Cond), cPI[id]? = some (y, ws) → am_Ce l call rm D aCl ρ kc am_fts len id y ws) (hrm : rm.cells = 0 ∧ rm.slots = 0) (hR : ∀ {k : Nat}, k ≤ 21 → rm.frames + 1 ≤ R.frames ∧ 8 + (k + 11) + rm.locals ≤ R.locals) :
    ∀ q ∈ tb_D_copyGates call, am_Row (am_J p l e R s m args below meth c 6 D aCl ρ kc len (MQ below Qc args s 0 0 (am_A ρ len s.heap.size))) (am_K s args D aCl ρ kc len Qc) q.1 q.2 := by
  unfold tb_D_copyGates
  refine am_cons (ar_aload_n C d_D_copyGates_0 rfl) ?_
  refine am_cons (ar_iconst C d_D_copyGates_1 (by decide)) ?_
  refine am_cons (ar_aload_n C d_D_copyGates_2 rfl) ?_
  refine am_cons (ar_iconst C d_D_copyGates_3 (by decide)) ?_
  refine am_cons (ar_callV C d_D_copyGates_4 (hce 7 ⟨"DesignTexts$Design", "many", "(I)I"⟩ cw_D_many rfl) rfl (am_gv wt_84 wt_85 wt_86 wt_87 wt_7) rfl (by decide +kernel) hrm (hR (by decide))) ?_
  refine am_cons (ar_callV C d_D_copyGates_7 (hce 8 ⟨"DesignTexts$Design", "setMany", "(II)V"⟩ cw_D_setMany rfl) rfl (am_gv wt_139 wt_140 wt_141 wt_87 wt_8) rfl (by decide +kernel) hrm (hR (by decide))) ?_
  refine am_cons (ar_iconst C d_D_copyGates_10 (by decide)) ?_
  refine am_cons (ar_istore_n C d_D_copyGates_11 rfl) ?_
  refine am_cons (ar_keep [0, 1, 2] (ar_iload_n C d_D_copyGates_12 rfl)) ?_
  refine am_cons (ar_aload_n C d_D_copyGates_13 rfl) ?_
  refine am_cons (ar_iconst C d_D_copyGates_14 (by decide)) ?_
  refine am_cons (ar_callV C d_D_copyGates_15 (hce 7 ⟨"DesignTexts$Design", "many", "(I)I"⟩ cw_D_many rfl) rfl (am_gv wt_84 wt_85 wt_86 wt_87 wt_7) rfl (by decide +kernel) hrm (hR (by decide))) ?_
  refine am_cons (ar_icmp_ge C d_D_copyGates_18 (by decide)) ?_
  refine am_cons (ar_aload_n C d_D_copyGates_21 rfl) ?_
  refine am_cons (ar_iload_n C d_D_copyGates_22 rfl) ?_
  refine am_cons (ar_callV C d_D_copyGates_23 (hce 23 ⟨"DesignTexts$Design", "inSequence", "(I)I"⟩ cw_D_inSequence rfl) rfl (am_gv wt_101 wt_102 wt_103 wt_87 wt_23) rfl (by decide +kernel) hrm (hR (by decide))) ?_
  refine am_cons (ar_istore_n C d_D_copyGates_26 rfl) ?_
  refine am_cons (ar_aload_n C d_D_copyGates_27 rfl) ?_
  refine am_cons (ar_aload_n C d_D_copyGates_28 rfl) ?_
  refine am_cons (ar_bipush C d_D_copyGates_29 (by decide)) ?_
  refine am_cons (ar_iload_n C d_D_copyGates_31 rfl) ?_
  refine am_cons (ar_callV C d_D_copyGates_32 (hce 10 ⟨"DesignTexts$Design", "get", "(II)I"⟩ cw_D_get rfl) rfl (am_gv wt_89 wt_90 wt_91 wt_87 wt_10) rfl (by decide +kernel) hrm (hR (by decide))) ?_
  refine am_cons (ar_callV C d_D_copyGates_35 (hce 29 ⟨"DesignTexts$Design", "renumbered", "(I)I"⟩ cw_D_renumbered rfl) rfl (am_gv wt_142 wt_143 wt_144 wt_87 wt_29) rfl (by decide +kernel) hrm (hR (by decide))) ?_
  refine am_cons (ar_istore C d_D_copyGates_38) ?_
  refine am_cons (ar_aload_n C d_D_copyGates_40 rfl) ?_
  refine am_cons (ar_aload_n C d_D_copyGates_41 rfl) ?_
  refine am_cons (ar_bipush C d_D_copyGates_42 (by decide)) ?_
  refine am_cons (ar_iload_n C d_D_copyGates_44 rfl) ?_
  refine am_cons (ar_callV C d_D_copyGates_45 (hce 10 ⟨"DesignTexts$Design", "get", "(II)I"⟩ cw_D_get rfl) rfl (am_gv wt_89 wt_90 wt_91 wt_87 wt_10) rfl (by decide +kernel) hrm (hR (by decide))) ?_
  refine am_cons (ar_callV C d_D_copyGates_48 (hce 29 ⟨"DesignTexts$Design", "renumbered", "(I)I"⟩ cw_D_renumbered rfl) rfl (am_gv wt_142 wt_143 wt_144 wt_87 wt_29) rfl (by decide +kernel) hrm (hR (by decide))) ?_
  refine am_cons (ar_istore C d_D_copyGates_51) ?_
  refine am_cons (ar_aload_n C d_D_copyGates_53 rfl) ?_
  refine am_cons (ar_iconst C d_D_copyGates_54 (by decide)) ?_
  refine am_cons (ar_iload_n C d_D_copyGates_55 rfl) ?_
  refine am_cons (ar_aload_n C d_D_copyGates_56 rfl) ?_
  refine am_cons (ar_aload_n C d_D_copyGates_57 rfl) ?_
  refine am_cons (ar_iconst C d_D_copyGates_58 (by decide)) ?_
  refine am_cons (ar_iload_n C d_D_copyGates_59 rfl) ?_
  refine am_cons (ar_callV C d_D_copyGates_60 (hce 10 ⟨"DesignTexts$Design", "get", "(II)I"⟩ cw_D_get rfl) rfl (am_gv wt_89 wt_90 wt_91 wt_87 wt_10) rfl (by decide +kernel) hrm (hR (by decide))) ?_
  refine am_cons (ar_callV C d_D_copyGates_63 (hce 29 ⟨"DesignTexts$Design", "renumbered", "(I)I"⟩ cw_D_renumbered rfl) rfl (am_gv wt_142 wt_143 wt_144 wt_87 wt_29) rfl (by decide +kernel) hrm (hR (by decide))) ?_
  refine am_cons (ar_callV C d_D_copyGates_66 (hce 11 ⟨"DesignTexts$Design", "set", "(III)V"⟩ cw_D_set rfl) rfl (am_gv wt_145 wt_146 wt_147 wt_87 wt_11) rfl (by decide +kernel) hrm (hR (by decide))) ?_
  refine am_cons (ar_aload_n C d_D_copyGates_69 rfl) ?_
  refine am_cons (ar_bipush C d_D_copyGates_70 (by decide)) ?_
  refine am_cons (ar_iload_n C d_D_copyGates_72 rfl) ?_
  refine am_cons (ar_iload C d_D_copyGates_73) ?_
  refine am_cons (ar_iload C d_D_copyGates_75) ?_
  refine am_cons (ar_mmax C d_D_copyGates_77 (am_mc wt_81) (am_mc wt_82) (am_mc wt_79) (am_mc wt_83)) ?_
  refine am_cons (ar_callV C d_D_copyGates_80 (hce 11 ⟨"DesignTexts$Design", "set", "(III)V"⟩ cw_D_set rfl) rfl (am_gv wt_145 wt_146 wt_147 wt_87 wt_11) rfl (by decide +kernel) hrm (hR (by decide))) ?_
  refine am_cons (ar_aload_n C d_D_copyGates_83 rfl) ?_
  refine am_cons (ar_bipush C d_D_copyGates_84 (by decide)) ?_
  refine am_cons (ar_iload_n C d_D_copyGates_86 rfl) ?_
  refine am_cons (ar_iload C d_D_copyGates_87) ?_
  refine am_cons (ar_iload C d_D_copyGates_89) ?_
  refine am_cons (ar_mmin C d_D_copyGates_91 (am_mc wt_77) (am_mc wt_78) (am_mc wt_79) (am_mc wt_80)) ?_
  refine am_cons (ar_callV C d_D_copyGates_94 (hce 11 ⟨"DesignTexts$Design", "set", "(III)V"⟩ cw_D_set rfl) rfl (am_gv wt_145 wt_146 wt_147 wt_87 wt_11) rfl (by decide +kernel) hrm (hR (by decide))) ?_
  refine am_cons (ar_iinc C d_D_copyGates_97 (by decide)) ?_
  refine am_cons (ar_goto C d_D_copyGates_100 (by decide)) ?_
  refine am_cons (ar_keep [] (ar_return C hr d_D_copyGates_103)) ?_
  exact am_nil
theorem sd_D_renumbered {p : Program} {l : Launch} {e : Env} {R : Room} {s : State} {m : MethodId} {args : Array Value} {below : List Frame} {meth : Method} {c : Code} {D : va_G} {ρ : Nat → Nat} {kc : Nat → ClassId} {len : Nat} {Qc : Array Value → State → Outcome → State → Prop} {call : am_C} {rm : Room} (C : am_Cx p R s m args meth c prog_3_method_27_code 2 cw_D_renumbered "DesignTexts$Design" D aCl ρ kc am_fts len) (hr : meth.sig.returnType = some .int)
    (hce : ∀ (id : Nat) (y : MethodName) (ws : List Cond), cPI[id]? = some (y, ws) → am_Ce l call rm D aCl ρ kc am_fts len id y ws) (hrm : rm.cells = 0 ∧ rm.slots = 0) (hR : ∀ {k : Nat}, k ≤ 21 → rm.frames + 1 ≤ R.frames ∧ 8 + (k + 11) + rm.locals ≤ R.locals) :
    ∀ q ∈ tb_D_renumbered call, am_Row (am_J p l e R s m args below meth c 2 D aCl ρ kc len (MQ below Qc args s 0 0 (am_A ρ len s.heap.size))) (am_K s args D aCl ρ kc len Qc) q.1 q.2 := by
  unfold tb_D_renumbered
  refine am_cons (ar_iconst C d_D_renumbered_0 (by decide)) ?_
  refine am_cons (ar_aload_n C d_D_renumbered_1 rfl) ?_
  refine am_cons (ar_iload_n C d_D_renumbered_2 rfl) ?_
  refine am_cons (ar_callV C d_D_renumbered_3 (hce 31 ⟨"DesignTexts$Design", "markOf", "(I)I"⟩ cw_D_markOf rfl) rfl (am_gv wt_110 wt_111 wt_112 wt_87 wt_31) rfl (by decide +kernel) hrm (hR (by decide))) ?_
  refine am_cons (ar_imul C d_D_renumbered_6) ?_
  refine am_cons (ar_iload_n C d_D_renumbered_7 rfl) ?_
  refine am_cons (ar_iconst C d_D_renumbered_8 (by decide)) ?_
  refine am_cons (ar_iand C d_D_renumbered_9) ?_
  refine am_cons (ar_iadd C d_D_renumbered_10) ?_
  refine am_cons (ar_ireturn C hr d_D_renumbered_11) ?_
  exact am_nil
theorem sd_D_mark {p : Program} {l : Launch} {e : Env} {R : Room} {s : State} {m : MethodId} {args : Array Value} {below : List Frame} {meth : Method} {c : Code} {D : va_G} {ρ : Nat → Nat} {kc : Nat → ClassId} {len : Nat} {Qc : Array Value → State → Outcome → State → Prop} {call : am_C} {rm : Room} (C : am_Cx p R s m args meth c prog_3_method_28_code 4 cw_D_mark "DesignTexts$Design" D aCl ρ kc am_fts len) (hr : meth.sig.returnType = none)
    (hce : ∀ (id : Nat) (y : MethodName) (ws : List Cond), cPI[id]? = some (y, ws) → am_Ce l call rm D aCl ρ kc am_fts len id y ws) (hrm : rm.cells = 0 ∧ rm.slots = 0) (hR : ∀ {k : Nat}, k ≤ 21 → rm.frames + 1 ≤ R.frames ∧ 8 + (k + 11) + rm.locals ≤ R.locals) :
    ∀ q ∈ tb_D_mark call, am_Row (am_J p l e R s m args below meth c 4 D aCl ρ kc len (MQ below Qc args s 0 0 (am_A ρ len s.heap.size))) (am_K s args D aCl ρ kc len Qc) q.1 q.2 := by
  unfold tb_D_mark
  refine am_cons (ar_iload_n C d_D_mark_0 rfl) ?_
  refine am_cons (ar_iconst C d_D_mark_1 (by decide)) ?_
  refine am_cons (ar_ishr C d_D_mark_2) ?_
  refine am_cons (ar_istore_n C d_D_mark_3 rfl) ?_
  refine am_cons (ar_iload_n C d_D_mark_4 rfl) ?_
  refine am_cons (ar_if_lt C d_D_mark_5 (by decide)) ?_
  refine am_cons (ar_iload_n C d_D_mark_8 rfl) ?_
  refine am_cons (ar_aload_n C d_D_mark_9 rfl) ?_
  refine am_cons (ar_getf C d_D_mark_10 (am_uc ft_Du) rfl (by decide) (am_mc wt_123)) ?_
  refine am_cons (ar_alen C d_D_mark_13) ?_
  refine am_cons (ar_icmp_ge C d_D_mark_14 (by decide)) ?_
  refine am_cons (ar_aload_n C d_D_mark_17 rfl) ?_
  refine am_cons (ar_getf C d_D_mark_18 (am_uc ft_Du) rfl (by decide) (am_mc wt_123)) ?_
  refine am_cons (ar_iload_n C d_D_mark_21 rfl) ?_
  refine am_cons (ar_iload_n C d_D_mark_22 rfl) ?_
  refine am_cons (ar_iast C d_D_mark_23 rfl) ?_
  refine am_cons (ar_return C hr d_D_mark_24) ?_
  exact am_nil
theorem sd_D_markOf {p : Program} {l : Launch} {e : Env} {R : Room} {s : State} {m : MethodId} {args : Array Value} {below : List Frame} {meth : Method} {c : Code} {D : va_G} {ρ : Nat → Nat} {kc : Nat → ClassId} {len : Nat} {Qc : Array Value → State → Outcome → State → Prop} {call : am_C} {rm : Room} (C : am_Cx p R s m args meth c prog_3_method_29_code 3 cw_D_markOf "DesignTexts$Design" D aCl ρ kc am_fts len) (hr : meth.sig.returnType = some .int)
    (hce : ∀ (id : Nat) (y : MethodName) (ws : List Cond), cPI[id]? = some (y, ws) → am_Ce l call rm D aCl ρ kc am_fts len id y ws) (hrm : rm.cells = 0 ∧ rm.slots = 0) (hR : ∀ {k : Nat}, k ≤ 21 → rm.frames + 1 ≤ R.frames ∧ 8 + (k + 11) + rm.locals ≤ R.locals) :
    ∀ q ∈ tb_D_markOf call, am_Row (am_J p l e R s m args below meth c 3 D aCl ρ kc len (MQ below Qc args s 0 0 (am_A ρ len s.heap.size))) (am_K s args D aCl ρ kc len Qc) q.1 q.2 := by
  unfold tb_D_markOf
  refine am_cons (ar_iload_n C d_D_markOf_0 rfl) ?_
  refine am_cons (ar_iconst C d_D_markOf_1 (by decide)) ?_
  refine am_cons (ar_ishr C d_D_markOf_2) ?_
  refine am_cons (ar_istore_n C d_D_markOf_3 rfl) ?_
  refine am_cons (ar_iload_n C d_D_markOf_4 rfl) ?_
  refine am_cons (ar_if_lt C d_D_markOf_5 (by decide)) ?_
  refine am_cons (ar_iload_n C d_D_markOf_8 rfl) ?_
  refine am_cons (ar_aload_n C d_D_markOf_9 rfl) ?_
  refine am_cons (ar_getf C d_D_markOf_10 (am_uc ft_Du) rfl (by decide) (am_mc wt_123)) ?_
  refine am_cons (ar_alen C d_D_markOf_13) ?_
  refine am_cons (ar_icmp_ge C d_D_markOf_14 (by decide)) ?_
  refine am_cons (ar_aload_n C d_D_markOf_17 rfl) ?_
  refine am_cons (ar_getf C d_D_markOf_18 (am_uc ft_Du) rfl (by decide) (am_mc wt_123)) ?_
  refine am_cons (ar_iload_n C d_D_markOf_21 rfl) ?_
  refine am_cons (ar_iald C d_D_markOf_22 rfl) ?_
  refine am_cons (ar_goto C d_D_markOf_23 (by decide)) ?_
  refine am_cons (ar_iconst C d_D_markOf_26 (by decide)) ?_
  refine am_cons (ar_ireturn C hr d_D_markOf_27) ?_
  exact am_nil
theorem sd_W_plain {p : Program} {l : Launch} {e : Env} {R : Room} {s : State} {m : MethodId} {args : Array Value} {below : List Frame} {meth : Method} {c : Code} {D : va_G} {ρ : Nat → Nat} {kc : Nat → ClassId} {len : Nat} {Qc : Array Value → State → Outcome → State → Prop} {call : am_C} {rm : Room} (C : am_Cx p R s m args meth c prog_4_method_2_code 3 cw_W_plain "DesignTexts$PageWriter" D aCl ρ kc am_fts len) (hr : meth.sig.returnType = none)
    (hce : ∀ (id : Nat) (y : MethodName) (ws : List Cond), cPI[id]? = some (y, ws) → am_Ce l call rm D aCl ρ kc am_fts len id y ws) (hrm : rm.cells = 0 ∧ rm.slots = 0) (hR : ∀ {k : Nat}, k ≤ 21 → rm.frames + 1 ≤ R.frames ∧ 8 + (k + 11) + rm.locals ≤ R.locals) :
    ∀ q ∈ tb_W_plain call, am_Row (am_J p l e R s m args below meth c 3 D aCl ρ kc len (MQ below Qc args s 0 0 (am_A ρ len s.heap.size))) (am_K s args D aCl ρ kc len Qc) q.1 q.2 := by
  unfold tb_W_plain
  refine am_cons (ar_aload_n C d_W_plain_0 rfl) ?_
  refine am_cons (ar_aload_n C d_W_plain_1 rfl) ?_
  refine am_cons (ar_bipush C d_W_plain_2 (by decide)) ?_
  refine am_cons (ar_callV C d_W_plain_4 (hce 34 ⟨"DesignTexts$PageWriter", "header", "(LDesignTexts$Design;I)V"⟩ cw_W_header rfl) rfl (am_gv wt_148 wt_149 wt_150 wt_151 wt_34) rfl (by decide +kernel) hrm (hR (by decide))) ?_
  refine am_cons (ar_iconst C d_W_plain_7 (by decide)) ?_
  refine am_cons (ar_istore_n C d_W_plain_8 rfl) ?_
  refine am_cons (ar_keep [0, 1, 2] (ar_iload_n C d_W_plain_9 rfl)) ?_
  refine am_cons (ar_aload_n C d_W_plain_10 rfl) ?_
  refine am_cons (ar_iconst C d_W_plain_11 (by decide)) ?_
  refine am_cons (ar_callV C d_W_plain_12 (hce 7 ⟨"DesignTexts$Design", "many", "(I)I"⟩ cw_D_many rfl) rfl (am_gv wt_152 wt_85 wt_86 wt_87 wt_7) rfl (by decide +kernel) hrm (hR (by decide))) ?_
  refine am_cons (ar_icmp_ge C d_W_plain_15 (by decide)) ?_
  refine am_cons (ar_aload_n C d_W_plain_18 rfl) ?_
  refine am_cons (ar_aload_n C d_W_plain_19 rfl) ?_
  refine am_cons (ar_iconst C d_W_plain_20 (by decide)) ?_
  refine am_cons (ar_iload_n C d_W_plain_21 rfl) ?_
  refine am_cons (ar_callV C d_W_plain_22 (hce 10 ⟨"DesignTexts$Design", "get", "(II)I"⟩ cw_D_get rfl) rfl (am_gv wt_153 wt_90 wt_91 wt_87 wt_10) rfl (by decide +kernel) hrm (hR (by decide))) ?_
  refine am_cons (ar_callV C d_W_plain_25 (hce 38 ⟨"DesignTexts$PageWriter", "lastNumber", "(I)V"⟩ cw_W_lastNumber rfl) rfl (am_gv wt_154 wt_155 wt_156 wt_151 wt_38) rfl (by decide +kernel) hrm (hR (by decide))) ?_
  refine am_cons (ar_iinc C d_W_plain_28 (by decide)) ?_
  refine am_cons (ar_goto C d_W_plain_31 (by decide)) ?_
  refine am_cons (ar_keep [0, 1] (ar_iconst C d_W_plain_34 (by decide))) ?_
  refine am_cons (ar_istore_n C d_W_plain_35 rfl) ?_
  refine am_cons (ar_keep [0, 1, 2] (ar_iload_n C d_W_plain_36 rfl)) ?_
  refine am_cons (ar_aload_n C d_W_plain_37 rfl) ?_
  refine am_cons (ar_iconst C d_W_plain_38 (by decide)) ?_
  refine am_cons (ar_callV C d_W_plain_39 (hce 7 ⟨"DesignTexts$Design", "many", "(I)I"⟩ cw_D_many rfl) rfl (am_gv wt_152 wt_85 wt_86 wt_87 wt_7) rfl (by decide +kernel) hrm (hR (by decide))) ?_
  refine am_cons (ar_icmp_ge C d_W_plain_42 (by decide)) ?_
  refine am_cons (ar_aload_n C d_W_plain_45 rfl) ?_
  refine am_cons (ar_aload_n C d_W_plain_46 rfl) ?_
  refine am_cons (ar_iconst C d_W_plain_47 (by decide)) ?_
  refine am_cons (ar_iload_n C d_W_plain_48 rfl) ?_
  refine am_cons (ar_callV C d_W_plain_49 (hce 10 ⟨"DesignTexts$Design", "get", "(II)I"⟩ cw_D_get rfl) rfl (am_gv wt_153 wt_90 wt_91 wt_87 wt_10) rfl (by decide +kernel) hrm (hR (by decide))) ?_
  refine am_cons (ar_callV C d_W_plain_52 (hce 37 ⟨"DesignTexts$PageWriter", "numberAndBlank", "(I)V"⟩ cw_W_numberAndBlank rfl) rfl (am_gv wt_157 wt_158 wt_159 wt_151 wt_37) rfl (by decide +kernel) hrm (hR (by decide))) ?_
  refine am_cons (ar_aload_n C d_W_plain_55 rfl) ?_
  refine am_cons (ar_aload_n C d_W_plain_56 rfl) ?_
  refine am_cons (ar_iload_n C d_W_plain_57 rfl) ?_
  refine am_cons (ar_callV C d_W_plain_58 (hce 35 ⟨"DesignTexts$PageWriter", "nextAndFirst", "(LDesignTexts$Design;I)V"⟩ cw_W_nextAndFirst rfl) rfl (am_gv wt_160 wt_161 wt_162 wt_151 wt_35) rfl (by decide +kernel) hrm (hR (by decide))) ?_
  refine am_cons (ar_iinc C d_W_plain_61 (by decide)) ?_
  refine am_cons (ar_goto C d_W_plain_64 (by decide)) ?_
  refine am_cons (ar_keep [0, 1] (ar_aload_n C d_W_plain_67 rfl)) ?_
  refine am_cons (ar_aload_n C d_W_plain_68 rfl) ?_
  refine am_cons (ar_callV C d_W_plain_69 (hce 36 ⟨"DesignTexts$PageWriter", "outputs", "(LDesignTexts$Design;)V"⟩ cw_W_outputs rfl) rfl (am_gv wt_163 wt_164 wt_165 wt_151 wt_36) rfl (by decide +kernel) hrm (hR (by decide))) ?_
  refine am_cons (ar_iconst C d_W_plain_72 (by decide)) ?_
  refine am_cons (ar_istore_n C d_W_plain_73 rfl) ?_
  refine am_cons (ar_keep [0, 1, 2] (ar_iload_n C d_W_plain_74 rfl)) ?_
  refine am_cons (ar_aload_n C d_W_plain_75 rfl) ?_
  refine am_cons (ar_iconst C d_W_plain_76 (by decide)) ?_
  refine am_cons (ar_callV C d_W_plain_77 (hce 7 ⟨"DesignTexts$Design", "many", "(I)I"⟩ cw_D_many rfl) rfl (am_gv wt_152 wt_85 wt_86 wt_87 wt_7) rfl (by decide +kernel) hrm (hR (by decide))) ?_
  refine am_cons (ar_icmp_ge C d_W_plain_80 (by decide)) ?_
  refine am_cons (ar_aload_n C d_W_plain_83 rfl) ?_
  refine am_cons (ar_aload_n C d_W_plain_84 rfl) ?_
  refine am_cons (ar_iconst C d_W_plain_85 (by decide)) ?_
  refine am_cons (ar_iload_n C d_W_plain_86 rfl) ?_
  refine am_cons (ar_callV C d_W_plain_87 (hce 10 ⟨"DesignTexts$Design", "get", "(II)I"⟩ cw_D_get rfl) rfl (am_gv wt_153 wt_90 wt_91 wt_87 wt_10) rfl (by decide +kernel) hrm (hR (by decide))) ?_
  refine am_cons (ar_callV C d_W_plain_90 (hce 37 ⟨"DesignTexts$PageWriter", "numberAndBlank", "(I)V"⟩ cw_W_numberAndBlank rfl) rfl (am_gv wt_157 wt_158 wt_159 wt_151 wt_37) rfl (by decide +kernel) hrm (hR (by decide))) ?_
  refine am_cons (ar_aload_n C d_W_plain_93 rfl) ?_
  refine am_cons (ar_aload_n C d_W_plain_94 rfl) ?_
  refine am_cons (ar_bipush C d_W_plain_95 (by decide)) ?_
  refine am_cons (ar_iload_n C d_W_plain_97 rfl) ?_
  refine am_cons (ar_callV C d_W_plain_98 (hce 10 ⟨"DesignTexts$Design", "get", "(II)I"⟩ cw_D_get rfl) rfl (am_gv wt_153 wt_90 wt_91 wt_87 wt_10) rfl (by decide +kernel) hrm (hR (by decide))) ?_
  refine am_cons (ar_callV C d_W_plain_101 (hce 37 ⟨"DesignTexts$PageWriter", "numberAndBlank", "(I)V"⟩ cw_W_numberAndBlank rfl) rfl (am_gv wt_157 wt_158 wt_159 wt_151 wt_37) rfl (by decide +kernel) hrm (hR (by decide))) ?_
  refine am_cons (ar_aload_n C d_W_plain_104 rfl) ?_
  refine am_cons (ar_aload_n C d_W_plain_105 rfl) ?_
  refine am_cons (ar_bipush C d_W_plain_106 (by decide)) ?_
  refine am_cons (ar_iload_n C d_W_plain_108 rfl) ?_
  refine am_cons (ar_callV C d_W_plain_109 (hce 10 ⟨"DesignTexts$Design", "get", "(II)I"⟩ cw_D_get rfl) rfl (am_gv wt_153 wt_90 wt_91 wt_87 wt_10) rfl (by decide +kernel) hrm (hR (by decide))) ?_
  refine am_cons (ar_callV C d_W_plain_112 (hce 38 ⟨"DesignTexts$PageWriter", "lastNumber", "(I)V"⟩ cw_W_lastNumber rfl) rfl (am_gv wt_154 wt_155 wt_156 wt_151 wt_38) rfl (by decide +kernel) hrm (hR (by decide))) ?_
  refine am_cons (ar_iinc C d_W_plain_115 (by decide)) ?_
  refine am_cons (ar_goto C d_W_plain_118 (by decide)) ?_
  refine am_cons (ar_keep [] (ar_return C hr d_W_plain_121)) ?_
  exact am_nil
theorem sd_W_packed {p : Program} {l : Launch} {e : Env} {R : Room} {s : State} {m : MethodId} {args : Array Value} {below : List Frame} {meth : Method} {c : Code} {D : va_G} {ρ : Nat → Nat} {kc : Nat → ClassId} {len : Nat} {Qc : Array Value → State → Outcome → State → Prop} {call : am_C} {rm : Room} (C : am_Cx p R s m args meth c prog_4_method_3_code 4 cw_W_packed "DesignTexts$PageWriter" D aCl ρ kc am_fts len) (hr : meth.sig.returnType = none)
    (hce : ∀ (id : Nat) (y : MethodName) (ws : List Cond), cPI[id]? = some (y, ws) → am_Ce l call rm D aCl ρ kc am_fts len id y ws) (hrm : rm.cells = 0 ∧ rm.slots = 0) (hR : ∀ {k : Nat}, k ≤ 21 → rm.frames + 1 ≤ R.frames ∧ 8 + (k + 11) + rm.locals ≤ R.locals) :
    ∀ q ∈ tb_W_packed call, am_Row (am_J p l e R s m args below meth c 4 D aCl ρ kc len (MQ below Qc args s 0 0 (am_A ρ len s.heap.size))) (am_K s args D aCl ρ kc len Qc) q.1 q.2 := by
  unfold tb_W_packed
  refine am_cons (ar_aload_n C d_W_packed_0 rfl) ?_
  refine am_cons (ar_aload_n C d_W_packed_1 rfl) ?_
  refine am_cons (ar_bipush C d_W_packed_2 (by decide)) ?_
  refine am_cons (ar_callV C d_W_packed_4 (hce 34 ⟨"DesignTexts$PageWriter", "header", "(LDesignTexts$Design;I)V"⟩ cw_W_header rfl) rfl (am_gv wt_148 wt_149 wt_150 wt_151 wt_34) rfl (by decide +kernel) hrm (hR (by decide))) ?_
  refine am_cons (ar_iconst C d_W_packed_7 (by decide)) ?_
  refine am_cons (ar_istore_n C d_W_packed_8 rfl) ?_
  refine am_cons (ar_keep [0, 1, 2] (ar_iload_n C d_W_packed_9 rfl)) ?_
  refine am_cons (ar_aload_n C d_W_packed_10 rfl) ?_
  refine am_cons (ar_iconst C d_W_packed_11 (by decide)) ?_
  refine am_cons (ar_callV C d_W_packed_12 (hce 7 ⟨"DesignTexts$Design", "many", "(I)I"⟩ cw_D_many rfl) rfl (am_gv wt_152 wt_85 wt_86 wt_87 wt_7) rfl (by decide +kernel) hrm (hR (by decide))) ?_
  refine am_cons (ar_icmp_ge C d_W_packed_15 (by decide)) ?_
  refine am_cons (ar_aload_n C d_W_packed_18 rfl) ?_
  refine am_cons (ar_aload_n C d_W_packed_19 rfl) ?_
  refine am_cons (ar_iload_n C d_W_packed_20 rfl) ?_
  refine am_cons (ar_callV C d_W_packed_21 (hce 35 ⟨"DesignTexts$PageWriter", "nextAndFirst", "(LDesignTexts$Design;I)V"⟩ cw_W_nextAndFirst rfl) rfl (am_gv wt_160 wt_161 wt_162 wt_151 wt_35) rfl (by decide +kernel) hrm (hR (by decide))) ?_
  refine am_cons (ar_iinc C d_W_packed_24 (by decide)) ?_
  refine am_cons (ar_goto C d_W_packed_27 (by decide)) ?_
  refine am_cons (ar_keep [0, 1] (ar_aload_n C d_W_packed_30 rfl)) ?_
  refine am_cons (ar_aload_n C d_W_packed_31 rfl) ?_
  refine am_cons (ar_callV C d_W_packed_32 (hce 36 ⟨"DesignTexts$PageWriter", "outputs", "(LDesignTexts$Design;)V"⟩ cw_W_outputs rfl) rfl (am_gv wt_163 wt_164 wt_165 wt_151 wt_36) rfl (by decide +kernel) hrm (hR (by decide))) ?_
  refine am_cons (ar_iconst C d_W_packed_35 (by decide)) ?_
  refine am_cons (ar_istore_n C d_W_packed_36 rfl) ?_
  refine am_cons (ar_keep [0, 1, 2] (ar_iload_n C d_W_packed_37 rfl)) ?_
  refine am_cons (ar_aload_n C d_W_packed_38 rfl) ?_
  refine am_cons (ar_iconst C d_W_packed_39 (by decide)) ?_
  refine am_cons (ar_callV C d_W_packed_40 (hce 7 ⟨"DesignTexts$Design", "many", "(I)I"⟩ cw_D_many rfl) rfl (am_gv wt_152 wt_85 wt_86 wt_87 wt_7) rfl (by decide +kernel) hrm (hR (by decide))) ?_
  refine am_cons (ar_icmp_ge C d_W_packed_43 (by decide)) ?_
  refine am_cons (ar_aload_n C d_W_packed_46 rfl) ?_
  refine am_cons (ar_bipush C d_W_packed_47 (by decide)) ?_
  refine am_cons (ar_iload_n C d_W_packed_49 rfl) ?_
  refine am_cons (ar_callV C d_W_packed_50 (hce 10 ⟨"DesignTexts$Design", "get", "(II)I"⟩ cw_D_get rfl) rfl (am_gv wt_153 wt_90 wt_91 wt_87 wt_10) rfl (by decide +kernel) hrm (hR (by decide))) ?_
  refine am_cons (ar_istore_n C d_W_packed_53 rfl) ?_
  refine am_cons (ar_aload_n C d_W_packed_54 rfl) ?_
  refine am_cons (ar_aload_n C d_W_packed_55 rfl) ?_
  refine am_cons (ar_iconst C d_W_packed_56 (by decide)) ?_
  refine am_cons (ar_iload_n C d_W_packed_57 rfl) ?_
  refine am_cons (ar_callV C d_W_packed_58 (hce 10 ⟨"DesignTexts$Design", "get", "(II)I"⟩ cw_D_get rfl) rfl (am_gv wt_153 wt_90 wt_91 wt_87 wt_10) rfl (by decide +kernel) hrm (hR (by decide))) ?_
  refine am_cons (ar_iload_n C d_W_packed_61 rfl) ?_
  refine am_cons (ar_isub C d_W_packed_62) ?_
  refine am_cons (ar_callV C d_W_packed_63 (hce 40 ⟨"DesignTexts$PageWriter", "difference", "(I)V"⟩ cw_W_difference rfl) rfl (am_gv wt_166 wt_167 wt_168 wt_151 wt_40) rfl (by decide +kernel) hrm (hR (by decide))) ?_
  refine am_cons (ar_aload_n C d_W_packed_66 rfl) ?_
  refine am_cons (ar_iload_n C d_W_packed_67 rfl) ?_
  refine am_cons (ar_aload_n C d_W_packed_68 rfl) ?_
  refine am_cons (ar_bipush C d_W_packed_69 (by decide)) ?_
  refine am_cons (ar_iload_n C d_W_packed_71 rfl) ?_
  refine am_cons (ar_callV C d_W_packed_72 (hce 10 ⟨"DesignTexts$Design", "get", "(II)I"⟩ cw_D_get rfl) rfl (am_gv wt_153 wt_90 wt_91 wt_87 wt_10) rfl (by decide +kernel) hrm (hR (by decide))) ?_
  refine am_cons (ar_isub C d_W_packed_75) ?_
  refine am_cons (ar_callV C d_W_packed_76 (hce 40 ⟨"DesignTexts$PageWriter", "difference", "(I)V"⟩ cw_W_difference rfl) rfl (am_gv wt_166 wt_167 wt_168 wt_151 wt_40) rfl (by decide +kernel) hrm (hR (by decide))) ?_
  refine am_cons (ar_iinc C d_W_packed_79 (by decide)) ?_
  refine am_cons (ar_goto C d_W_packed_82 (by decide)) ?_
  refine am_cons (ar_keep [] (ar_return C hr d_W_packed_85)) ?_
  exact am_nil
theorem sd_W_header {p : Program} {l : Launch} {e : Env} {R : Room} {s : State} {m : MethodId} {args : Array Value} {below : List Frame} {meth : Method} {c : Code} {D : va_G} {ρ : Nat → Nat} {kc : Nat → ClassId} {len : Nat} {Qc : Array Value → State → Outcome → State → Prop} {call : am_C} {rm : Room} (C : am_Cx p R s m args meth c prog_4_method_4_code 3 cw_W_header "DesignTexts$PageWriter" D aCl ρ kc am_fts len) (hr : meth.sig.returnType = none)
    (hce : ∀ (id : Nat) (y : MethodName) (ws : List Cond), cPI[id]? = some (y, ws) → am_Ce l call rm D aCl ρ kc am_fts len id y ws) (hrm : rm.cells = 0 ∧ rm.slots = 0) (hR : ∀ {k : Nat}, k ≤ 21 → rm.frames + 1 ≤ R.frames ∧ 8 + (k + 11) + rm.locals ≤ R.locals) :
    ∀ q ∈ tb_W_header call, am_Row (am_J p l e R s m args below meth c 3 D aCl ρ kc len (MQ below Qc args s 0 0 (am_A ρ len s.heap.size))) (am_K s args D aCl ρ kc len Qc) q.1 q.2 := by
  unfold tb_W_header
  refine am_cons (ar_aload_n C d_W_header_0 rfl) ?_
  refine am_cons (ar_getf C d_W_header_1 (am_uc ft_Wu) rfl (by decide) (am_mc wt_169)) ?_
  refine am_cons (ar_bipush C d_W_header_4 (by decide)) ?_
  refine am_cons (ar_callV C d_W_header_6 (hce 2 ⟨"DesignTexts$Bytes", "add", "(I)V"⟩ cw_B_add rfl) rfl (am_gv wt_170 wt_171 wt_172 wt_173 wt_2) rfl (by decide +kernel) hrm (hR (by decide))) ?_
  refine am_cons (ar_aload_n C d_W_header_9 rfl) ?_
  refine am_cons (ar_getf C d_W_header_10 (am_uc ft_Wu) rfl (by decide) (am_mc wt_169)) ?_
  refine am_cons (ar_iload_n C d_W_header_13 rfl) ?_
  refine am_cons (ar_callV C d_W_header_14 (hce 2 ⟨"DesignTexts$Bytes", "add", "(I)V"⟩ cw_B_add rfl) rfl (am_gv wt_170 wt_171 wt_172 wt_173 wt_2) rfl (by decide +kernel) hrm (hR (by decide))) ?_
  refine am_cons (ar_aload_n C d_W_header_17 rfl) ?_
  refine am_cons (ar_getf C d_W_header_18 (am_uc ft_Wu) rfl (by decide) (am_mc wt_169)) ?_
  refine am_cons (ar_bipush C d_W_header_21 (by decide)) ?_
  refine am_cons (ar_callV C d_W_header_23 (hce 2 ⟨"DesignTexts$Bytes", "add", "(I)V"⟩ cw_B_add rfl) rfl (am_gv wt_170 wt_171 wt_172 wt_173 wt_2) rfl (by decide +kernel) hrm (hR (by decide))) ?_
  refine am_cons (ar_aload_n C d_W_header_26 rfl) ?_
  refine am_cons (ar_getf C d_W_header_27 (am_uc ft_Wu) rfl (by decide) (am_mc wt_169)) ?_
  refine am_cons (ar_bipush C d_W_header_30 (by decide)) ?_
  refine am_cons (ar_callV C d_W_header_32 (hce 2 ⟨"DesignTexts$Bytes", "add", "(I)V"⟩ cw_B_add rfl) rfl (am_gv wt_170 wt_171 wt_172 wt_173 wt_2) rfl (by decide +kernel) hrm (hR (by decide))) ?_
  refine am_cons (ar_aload_n C d_W_header_35 rfl) ?_
  refine am_cons (ar_aload_n C d_W_header_36 rfl) ?_
  refine am_cons (ar_callV C d_W_header_37 (hce 4 ⟨"DesignTexts$Design", "most", "()I"⟩ cw_D_most rfl) rfl (am_gv wt_174 wt_175 wt_176 wt_87 wt_4) rfl (by decide +kernel) hrm (hR (by decide))) ?_
  refine am_cons (ar_callV C d_W_header_40 (hce 37 ⟨"DesignTexts$PageWriter", "numberAndBlank", "(I)V"⟩ cw_W_numberAndBlank rfl) rfl (am_gv wt_157 wt_158 wt_159 wt_151 wt_37) rfl (by decide +kernel) hrm (hR (by decide))) ?_
  refine am_cons (ar_aload_n C d_W_header_43 rfl) ?_
  refine am_cons (ar_aload_n C d_W_header_44 rfl) ?_
  refine am_cons (ar_iconst C d_W_header_45 (by decide)) ?_
  refine am_cons (ar_callV C d_W_header_46 (hce 7 ⟨"DesignTexts$Design", "many", "(I)I"⟩ cw_D_many rfl) rfl (am_gv wt_152 wt_85 wt_86 wt_87 wt_7) rfl (by decide +kernel) hrm (hR (by decide))) ?_
  refine am_cons (ar_callV C d_W_header_49 (hce 37 ⟨"DesignTexts$PageWriter", "numberAndBlank", "(I)V"⟩ cw_W_numberAndBlank rfl) rfl (am_gv wt_157 wt_158 wt_159 wt_151 wt_37) rfl (by decide +kernel) hrm (hR (by decide))) ?_
  refine am_cons (ar_aload_n C d_W_header_52 rfl) ?_
  refine am_cons (ar_aload_n C d_W_header_53 rfl) ?_
  refine am_cons (ar_iconst C d_W_header_54 (by decide)) ?_
  refine am_cons (ar_callV C d_W_header_55 (hce 7 ⟨"DesignTexts$Design", "many", "(I)I"⟩ cw_D_many rfl) rfl (am_gv wt_152 wt_85 wt_86 wt_87 wt_7) rfl (by decide +kernel) hrm (hR (by decide))) ?_
  refine am_cons (ar_callV C d_W_header_58 (hce 37 ⟨"DesignTexts$PageWriter", "numberAndBlank", "(I)V"⟩ cw_W_numberAndBlank rfl) rfl (am_gv wt_157 wt_158 wt_159 wt_151 wt_37) rfl (by decide +kernel) hrm (hR (by decide))) ?_
  refine am_cons (ar_aload_n C d_W_header_61 rfl) ?_
  refine am_cons (ar_aload_n C d_W_header_62 rfl) ?_
  refine am_cons (ar_iconst C d_W_header_63 (by decide)) ?_
  refine am_cons (ar_callV C d_W_header_64 (hce 7 ⟨"DesignTexts$Design", "many", "(I)I"⟩ cw_D_many rfl) rfl (am_gv wt_152 wt_85 wt_86 wt_87 wt_7) rfl (by decide +kernel) hrm (hR (by decide))) ?_
  refine am_cons (ar_callV C d_W_header_67 (hce 37 ⟨"DesignTexts$PageWriter", "numberAndBlank", "(I)V"⟩ cw_W_numberAndBlank rfl) rfl (am_gv wt_157 wt_158 wt_159 wt_151 wt_37) rfl (by decide +kernel) hrm (hR (by decide))) ?_
  refine am_cons (ar_aload_n C d_W_header_70 rfl) ?_
  refine am_cons (ar_aload_n C d_W_header_71 rfl) ?_
  refine am_cons (ar_iconst C d_W_header_72 (by decide)) ?_
  refine am_cons (ar_callV C d_W_header_73 (hce 7 ⟨"DesignTexts$Design", "many", "(I)I"⟩ cw_D_many rfl) rfl (am_gv wt_152 wt_85 wt_86 wt_87 wt_7) rfl (by decide +kernel) hrm (hR (by decide))) ?_
  refine am_cons (ar_callV C d_W_header_76 (hce 38 ⟨"DesignTexts$PageWriter", "lastNumber", "(I)V"⟩ cw_W_lastNumber rfl) rfl (am_gv wt_154 wt_155 wt_156 wt_151 wt_38) rfl (by decide +kernel) hrm (hR (by decide))) ?_
  refine am_cons (ar_return C hr d_W_header_79) ?_
  exact am_nil
theorem sd_W_nextAndFirst {p : Program} {l : Launch} {e : Env} {R : Room} {s : State} {m : MethodId} {args : Array Value} {below : List Frame} {meth : Method} {c : Code} {D : va_G} {ρ : Nat → Nat} {kc : Nat → ClassId} {len : Nat} {Qc : Array Value → State → Outcome → State → Prop} {call : am_C} {rm : Room} (C : am_Cx p R s m args meth c prog_4_method_5_code 3 cw_W_nextAndFirst "DesignTexts$PageWriter" D aCl ρ kc am_fts len) (hr : meth.sig.returnType = none)
    (hce : ∀ (id : Nat) (y : MethodName) (ws : List Cond), cPI[id]? = some (y, ws) → am_Ce l call rm D aCl ρ kc am_fts len id y ws) (hrm : rm.cells = 0 ∧ rm.slots = 0) (hR : ∀ {k : Nat}, k ≤ 21 → rm.frames + 1 ≤ R.frames ∧ 8 + (k + 11) + rm.locals ≤ R.locals) :
    ∀ q ∈ tb_W_nextAndFirst call, am_Row (am_J p l e R s m args below meth c 3 D aCl ρ kc len (MQ below Qc args s 0 0 (am_A ρ len s.heap.size))) (am_K s args D aCl ρ kc len Qc) q.1 q.2 := by
  unfold tb_W_nextAndFirst
  refine am_cons (ar_aload_n C d_W_nextAndFirst_0 rfl) ?_
  refine am_cons (ar_iconst C d_W_nextAndFirst_1 (by decide)) ?_
  refine am_cons (ar_iload_n C d_W_nextAndFirst_2 rfl) ?_
  refine am_cons (ar_callV C d_W_nextAndFirst_3 (hce 10 ⟨"DesignTexts$Design", "get", "(II)I"⟩ cw_D_get rfl) rfl (am_gv wt_153 wt_90 wt_91 wt_87 wt_10) rfl (by decide +kernel) hrm (hR (by decide))) ?_
  refine am_cons (ar_iconst C d_W_nextAndFirst_6 (by decide)) ?_
  refine am_cons (ar_icmp_ne C d_W_nextAndFirst_7 (by decide)) ?_
  refine am_cons (ar_aload_n C d_W_nextAndFirst_10 rfl) ?_
  refine am_cons (ar_aload_n C d_W_nextAndFirst_11 rfl) ?_
  refine am_cons (ar_iconst C d_W_nextAndFirst_12 (by decide)) ?_
  refine am_cons (ar_iload_n C d_W_nextAndFirst_13 rfl) ?_
  refine am_cons (ar_callV C d_W_nextAndFirst_14 (hce 10 ⟨"DesignTexts$Design", "get", "(II)I"⟩ cw_D_get rfl) rfl (am_gv wt_153 wt_90 wt_91 wt_87 wt_10) rfl (by decide +kernel) hrm (hR (by decide))) ?_
  refine am_cons (ar_callV C d_W_nextAndFirst_17 (hce 37 ⟨"DesignTexts$PageWriter", "numberAndBlank", "(I)V"⟩ cw_W_numberAndBlank rfl) rfl (am_gv wt_157 wt_158 wt_159 wt_151 wt_37) rfl (by decide +kernel) hrm (hR (by decide))) ?_
  refine am_cons (ar_aload_n C d_W_nextAndFirst_20 rfl) ?_
  refine am_cons (ar_iconst C d_W_nextAndFirst_21 (by decide)) ?_
  refine am_cons (ar_callV C d_W_nextAndFirst_22 (hce 38 ⟨"DesignTexts$PageWriter", "lastNumber", "(I)V"⟩ cw_W_lastNumber rfl) rfl (am_gv wt_154 wt_155 wt_156 wt_151 wt_38) rfl (by decide +kernel) hrm (hR (by decide))) ?_
  refine am_cons (ar_goto C d_W_nextAndFirst_25 (by decide)) ?_
  refine am_cons (ar_aload_n C d_W_nextAndFirst_28 rfl) ?_
  refine am_cons (ar_aload_n C d_W_nextAndFirst_29 rfl) ?_
  refine am_cons (ar_iconst C d_W_nextAndFirst_30 (by decide)) ?_
  refine am_cons (ar_iload_n C d_W_nextAndFirst_31 rfl) ?_
  refine am_cons (ar_callV C d_W_nextAndFirst_32 (hce 10 ⟨"DesignTexts$Design", "get", "(II)I"⟩ cw_D_get rfl) rfl (am_gv wt_153 wt_90 wt_91 wt_87 wt_10) rfl (by decide +kernel) hrm (hR (by decide))) ?_
  refine am_cons (ar_callV C d_W_nextAndFirst_35 (hce 38 ⟨"DesignTexts$PageWriter", "lastNumber", "(I)V"⟩ cw_W_lastNumber rfl) rfl (am_gv wt_154 wt_155 wt_156 wt_151 wt_38) rfl (by decide +kernel) hrm (hR (by decide))) ?_
  refine am_cons (ar_return C hr d_W_nextAndFirst_38) ?_
  exact am_nil
theorem sd_W_outputs {p : Program} {l : Launch} {e : Env} {R : Room} {s : State} {m : MethodId} {args : Array Value} {below : List Frame} {meth : Method} {c : Code} {D : va_G} {ρ : Nat → Nat} {kc : Nat → ClassId} {len : Nat} {Qc : Array Value → State → Outcome → State → Prop} {call : am_C} {rm : Room} (C : am_Cx p R s m args meth c prog_4_method_6_code 3 cw_W_outputs "DesignTexts$PageWriter" D aCl ρ kc am_fts len) (hr : meth.sig.returnType = none)
    (hce : ∀ (id : Nat) (y : MethodName) (ws : List Cond), cPI[id]? = some (y, ws) → am_Ce l call rm D aCl ρ kc am_fts len id y ws) (hrm : rm.cells = 0 ∧ rm.slots = 0) (hR : ∀ {k : Nat}, k ≤ 21 → rm.frames + 1 ≤ R.frames ∧ 8 + (k + 11) + rm.locals ≤ R.locals) :
    ∀ q ∈ tb_W_outputs call, am_Row (am_J p l e R s m args below meth c 3 D aCl ρ kc len (MQ below Qc args s 0 0 (am_A ρ len s.heap.size))) (am_K s args D aCl ρ kc len Qc) q.1 q.2 := by
  unfold tb_W_outputs
  refine am_cons (ar_iconst C d_W_outputs_0 (by decide)) ?_
  refine am_cons (ar_istore_n C d_W_outputs_1 rfl) ?_
  refine am_cons (ar_keep [0, 1, 2] (ar_iload_n C d_W_outputs_2 rfl)) ?_
  refine am_cons (ar_aload_n C d_W_outputs_3 rfl) ?_
  refine am_cons (ar_iconst C d_W_outputs_4 (by decide)) ?_
  refine am_cons (ar_callV C d_W_outputs_5 (hce 7 ⟨"DesignTexts$Design", "many", "(I)I"⟩ cw_D_many rfl) rfl (am_gv wt_152 wt_85 wt_86 wt_87 wt_7) rfl (by decide +kernel) hrm (hR (by decide))) ?_
  refine am_cons (ar_icmp_ge C d_W_outputs_8 (by decide)) ?_
  refine am_cons (ar_aload_n C d_W_outputs_11 rfl) ?_
  refine am_cons (ar_aload_n C d_W_outputs_12 rfl) ?_
  refine am_cons (ar_iconst C d_W_outputs_13 (by decide)) ?_
  refine am_cons (ar_iload_n C d_W_outputs_14 rfl) ?_
  refine am_cons (ar_callV C d_W_outputs_15 (hce 10 ⟨"DesignTexts$Design", "get", "(II)I"⟩ cw_D_get rfl) rfl (am_gv wt_153 wt_90 wt_91 wt_87 wt_10) rfl (by decide +kernel) hrm (hR (by decide))) ?_
  refine am_cons (ar_callV C d_W_outputs_18 (hce 38 ⟨"DesignTexts$PageWriter", "lastNumber", "(I)V"⟩ cw_W_lastNumber rfl) rfl (am_gv wt_154 wt_155 wt_156 wt_151 wt_38) rfl (by decide +kernel) hrm (hR (by decide))) ?_
  refine am_cons (ar_iinc C d_W_outputs_21 (by decide)) ?_
  refine am_cons (ar_goto C d_W_outputs_24 (by decide)) ?_
  refine am_cons (ar_keep [] (ar_return C hr d_W_outputs_27)) ?_
  exact am_nil
theorem sd_W_numberAndBlank {p : Program} {l : Launch} {e : Env} {R : Room} {s : State} {m : MethodId} {args : Array Value} {below : List Frame} {meth : Method} {c : Code} {D : va_G} {ρ : Nat → Nat} {kc : Nat → ClassId} {len : Nat} {Qc : Array Value → State → Outcome → State → Prop} {call : am_C} {rm : Room} (C : am_Cx p R s m args meth c prog_4_method_7_code 2 cw_W_numberAndBlank "DesignTexts$PageWriter" D aCl ρ kc am_fts len) (hr : meth.sig.returnType = none)
    (hce : ∀ (id : Nat) (y : MethodName) (ws : List Cond), cPI[id]? = some (y, ws) → am_Ce l call rm D aCl ρ kc am_fts len id y ws) (hrm : rm.cells = 0 ∧ rm.slots = 0) (hR : ∀ {k : Nat}, k ≤ 21 → rm.frames + 1 ≤ R.frames ∧ 8 + (k + 11) + rm.locals ≤ R.locals) :
    ∀ q ∈ tb_W_numberAndBlank call, am_Row (am_J p l e R s m args below meth c 2 D aCl ρ kc len (MQ below Qc args s 0 0 (am_A ρ len s.heap.size))) (am_K s args D aCl ρ kc len Qc) q.1 q.2 := by
  unfold tb_W_numberAndBlank
  refine am_cons (ar_aload_n C d_W_numberAndBlank_0 rfl) ?_
  refine am_cons (ar_iload_n C d_W_numberAndBlank_1 rfl) ?_
  refine am_cons (ar_callV C d_W_numberAndBlank_2 (hce 39 ⟨"DesignTexts$PageWriter", "digits", "(I)V"⟩ cw_W_digits rfl) rfl (am_gv wt_177 wt_178 wt_179 wt_151 wt_39) rfl (by decide +kernel) hrm (hR (by decide))) ?_
  refine am_cons (ar_aload_n C d_W_numberAndBlank_5 rfl) ?_
  refine am_cons (ar_getf C d_W_numberAndBlank_6 (am_uc ft_Wu) rfl (by decide) (am_mc wt_169)) ?_
  refine am_cons (ar_bipush C d_W_numberAndBlank_9 (by decide)) ?_
  refine am_cons (ar_callV C d_W_numberAndBlank_11 (hce 2 ⟨"DesignTexts$Bytes", "add", "(I)V"⟩ cw_B_add rfl) rfl (am_gv wt_170 wt_171 wt_172 wt_173 wt_2) rfl (by decide +kernel) hrm (hR (by decide))) ?_
  refine am_cons (ar_return C hr d_W_numberAndBlank_14) ?_
  exact am_nil
theorem sd_W_lastNumber {p : Program} {l : Launch} {e : Env} {R : Room} {s : State} {m : MethodId} {args : Array Value} {below : List Frame} {meth : Method} {c : Code} {D : va_G} {ρ : Nat → Nat} {kc : Nat → ClassId} {len : Nat} {Qc : Array Value → State → Outcome → State → Prop} {call : am_C} {rm : Room} (C : am_Cx p R s m args meth c prog_4_method_8_code 2 cw_W_lastNumber "DesignTexts$PageWriter" D aCl ρ kc am_fts len) (hr : meth.sig.returnType = none)
    (hce : ∀ (id : Nat) (y : MethodName) (ws : List Cond), cPI[id]? = some (y, ws) → am_Ce l call rm D aCl ρ kc am_fts len id y ws) (hrm : rm.cells = 0 ∧ rm.slots = 0) (hR : ∀ {k : Nat}, k ≤ 21 → rm.frames + 1 ≤ R.frames ∧ 8 + (k + 11) + rm.locals ≤ R.locals) :
    ∀ q ∈ tb_W_lastNumber call, am_Row (am_J p l e R s m args below meth c 2 D aCl ρ kc len (MQ below Qc args s 0 0 (am_A ρ len s.heap.size))) (am_K s args D aCl ρ kc len Qc) q.1 q.2 := by
  unfold tb_W_lastNumber
  refine am_cons (ar_aload_n C d_W_lastNumber_0 rfl) ?_
  refine am_cons (ar_iload_n C d_W_lastNumber_1 rfl) ?_
  refine am_cons (ar_callV C d_W_lastNumber_2 (hce 39 ⟨"DesignTexts$PageWriter", "digits", "(I)V"⟩ cw_W_digits rfl) rfl (am_gv wt_177 wt_178 wt_179 wt_151 wt_39) rfl (by decide +kernel) hrm (hR (by decide))) ?_
  refine am_cons (ar_aload_n C d_W_lastNumber_5 rfl) ?_
  refine am_cons (ar_getf C d_W_lastNumber_6 (am_uc ft_Wu) rfl (by decide) (am_mc wt_169)) ?_
  refine am_cons (ar_bipush C d_W_lastNumber_9 (by decide)) ?_
  refine am_cons (ar_callV C d_W_lastNumber_11 (hce 2 ⟨"DesignTexts$Bytes", "add", "(I)V"⟩ cw_B_add rfl) rfl (am_gv wt_170 wt_171 wt_172 wt_173 wt_2) rfl (by decide +kernel) hrm (hR (by decide))) ?_
  refine am_cons (ar_return C hr d_W_lastNumber_14) ?_
  exact am_nil
theorem sd_W_digits {p : Program} {l : Launch} {e : Env} {R : Room} {s : State} {m : MethodId} {args : Array Value} {below : List Frame} {meth : Method} {c : Code} {D : va_G} {ρ : Nat → Nat} {kc : Nat → ClassId} {len : Nat} {Qc : Array Value → State → Outcome → State → Prop} {call : am_C} {rm : Room} (C : am_Cx p R s m args meth c prog_4_method_9_code 2 cw_W_digits "DesignTexts$PageWriter" D aCl ρ kc am_fts len) (hr : meth.sig.returnType = none)
    (hce : ∀ (id : Nat) (y : MethodName) (ws : List Cond), cPI[id]? = some (y, ws) → am_Ce l call rm D aCl ρ kc am_fts len id y ws) (hrm : rm.cells = 0 ∧ rm.slots = 0) (hR : ∀ {k : Nat}, k ≤ 21 → rm.frames + 1 ≤ R.frames ∧ 8 + (k + 11) + rm.locals ≤ R.locals) :
    ∀ q ∈ tb_W_digits call, am_Row (am_J p l e R s m args below meth c 2 D aCl ρ kc len (MQ below Qc args s 0 0 (am_A ρ len s.heap.size))) (am_K s args D aCl ρ kc len Qc) q.1 q.2 := by
  unfold tb_W_digits
  refine am_cons (ar_iload_n C d_W_digits_0 rfl) ?_
  refine am_cons (ar_bipush C d_W_digits_1 (by decide)) ?_
  refine am_cons (ar_icmp_lt C d_W_digits_3 (by decide)) ?_
  refine am_cons (ar_aload_n C d_W_digits_6 rfl) ?_
  refine am_cons (ar_getf C d_W_digits_7 (am_uc ft_Wu) rfl (by decide) (am_mc wt_169)) ?_
  refine am_cons (ar_bipush C d_W_digits_10 (by decide)) ?_
  refine am_cons (ar_iload_n C d_W_digits_12 rfl) ?_
  refine am_cons (ar_bipush C d_W_digits_13 (by decide)) ?_
  refine am_cons (ar_idiv C d_W_digits_15) ?_
  refine am_cons (ar_bipush C d_W_digits_16 (by decide)) ?_
  refine am_cons (ar_irem C d_W_digits_18) ?_
  refine am_cons (ar_iadd C d_W_digits_19) ?_
  refine am_cons (ar_callV C d_W_digits_20 (hce 2 ⟨"DesignTexts$Bytes", "add", "(I)V"⟩ cw_B_add rfl) rfl (am_gv wt_170 wt_171 wt_172 wt_173 wt_2) rfl (by decide +kernel) hrm (hR (by decide))) ?_
  refine am_cons (ar_keep [0, 1] (ar_iload_n C d_W_digits_23 rfl)) ?_
  refine am_cons (ar_bipush C d_W_digits_24 (by decide)) ?_
  refine am_cons (ar_icmp_lt C d_W_digits_26 (by decide)) ?_
  refine am_cons (ar_aload_n C d_W_digits_29 rfl) ?_
  refine am_cons (ar_getf C d_W_digits_30 (am_uc ft_Wu) rfl (by decide) (am_mc wt_169)) ?_
  refine am_cons (ar_bipush C d_W_digits_33 (by decide)) ?_
  refine am_cons (ar_iload_n C d_W_digits_35 rfl) ?_
  refine am_cons (ar_bipush C d_W_digits_36 (by decide)) ?_
  refine am_cons (ar_idiv C d_W_digits_38) ?_
  refine am_cons (ar_bipush C d_W_digits_39 (by decide)) ?_
  refine am_cons (ar_irem C d_W_digits_41) ?_
  refine am_cons (ar_iadd C d_W_digits_42) ?_
  refine am_cons (ar_callV C d_W_digits_43 (hce 2 ⟨"DesignTexts$Bytes", "add", "(I)V"⟩ cw_B_add rfl) rfl (am_gv wt_170 wt_171 wt_172 wt_173 wt_2) rfl (by decide +kernel) hrm (hR (by decide))) ?_
  refine am_cons (ar_keep [0, 1] (ar_aload_n C d_W_digits_46 rfl)) ?_
  refine am_cons (ar_getf C d_W_digits_47 (am_uc ft_Wu) rfl (by decide) (am_mc wt_169)) ?_
  refine am_cons (ar_bipush C d_W_digits_50 (by decide)) ?_
  refine am_cons (ar_iload_n C d_W_digits_52 rfl) ?_
  refine am_cons (ar_bipush C d_W_digits_53 (by decide)) ?_
  refine am_cons (ar_irem C d_W_digits_55) ?_
  refine am_cons (ar_iadd C d_W_digits_56) ?_
  refine am_cons (ar_callV C d_W_digits_57 (hce 2 ⟨"DesignTexts$Bytes", "add", "(I)V"⟩ cw_B_add rfl) rfl (am_gv wt_170 wt_171 wt_172 wt_173 wt_2) rfl (by decide +kernel) hrm (hR (by decide))) ?_
  refine am_cons (ar_return C hr d_W_digits_60) ?_
  exact am_nil
theorem sd_W_difference {p : Program} {l : Launch} {e : Env} {R : Room} {s : State} {m : MethodId} {args : Array Value} {below : List Frame} {meth : Method} {c : Code} {D : va_G} {ρ : Nat → Nat} {kc : Nat → ClassId} {len : Nat} {Qc : Array Value → State → Outcome → State → Prop} {call : am_C} {rm : Room} (C : am_Cx p R s m args meth c prog_4_method_10_code 2 cw_W_difference "DesignTexts$PageWriter" D aCl ρ kc am_fts len) (hr : meth.sig.returnType = none)
    (hce : ∀ (id : Nat) (y : MethodName) (ws : List Cond), cPI[id]? = some (y, ws) → am_Ce l call rm D aCl ρ kc am_fts len id y ws) (hrm : rm.cells = 0 ∧ rm.slots = 0) (hR : ∀ {k : Nat}, k ≤ 21 → rm.frames + 1 ≤ R.frames ∧ 8 + (k + 11) + rm.locals ≤ R.locals) :
    ∀ q ∈ tb_W_difference call, am_Row (am_J p l e R s m args below meth c 2 D aCl ρ kc len (MQ below Qc args s 0 0 (am_A ρ len s.heap.size))) (am_K s args D aCl ρ kc len Qc) q.1 q.2 := by
  unfold tb_W_difference
  refine am_cons (ar_iload_n C d_W_difference_0 rfl) ?_
  refine am_cons (ar_sipush C d_W_difference_1 (by decide)) ?_
  refine am_cons (ar_icmp_lt C d_W_difference_4 (by decide)) ?_
  refine am_cons (ar_aload_n C d_W_difference_7 rfl) ?_
  refine am_cons (ar_getf C d_W_difference_8 (am_uc ft_Wu) rfl (by decide) (am_mc wt_169)) ?_
  refine am_cons (ar_iload_n C d_W_difference_11 rfl) ?_
  refine am_cons (ar_sipush C d_W_difference_12 (by decide)) ?_
  refine am_cons (ar_irem C d_W_difference_15) ?_
  refine am_cons (ar_sipush C d_W_difference_16 (by decide)) ?_
  refine am_cons (ar_iadd C d_W_difference_19) ?_
  refine am_cons (ar_callV C d_W_difference_20 (hce 2 ⟨"DesignTexts$Bytes", "add", "(I)V"⟩ cw_B_add rfl) rfl (am_gv wt_170 wt_171 wt_172 wt_173 wt_2) rfl (by decide +kernel) hrm (hR (by decide))) ?_
  refine am_cons (ar_aload_n C d_W_difference_23 rfl) ?_
  refine am_cons (ar_getf C d_W_difference_24 (am_uc ft_Wu) rfl (by decide) (am_mc wt_169)) ?_
  refine am_cons (ar_iload_n C d_W_difference_27 rfl) ?_
  refine am_cons (ar_sipush C d_W_difference_28 (by decide)) ?_
  refine am_cons (ar_idiv C d_W_difference_31) ?_
  refine am_cons (ar_callV C d_W_difference_32 (hce 2 ⟨"DesignTexts$Bytes", "add", "(I)V"⟩ cw_B_add rfl) rfl (am_gv wt_170 wt_171 wt_172 wt_173 wt_2) rfl (by decide +kernel) hrm (hR (by decide))) ?_
  refine am_cons (ar_goto C d_W_difference_35 (by decide)) ?_
  refine am_cons (ar_aload_n C d_W_difference_38 rfl) ?_
  refine am_cons (ar_getf C d_W_difference_39 (am_uc ft_Wu) rfl (by decide) (am_mc wt_169)) ?_
  refine am_cons (ar_iload_n C d_W_difference_42 rfl) ?_
  refine am_cons (ar_callV C d_W_difference_43 (hce 2 ⟨"DesignTexts$Bytes", "add", "(I)V"⟩ cw_B_add rfl) rfl (am_gv wt_170 wt_171 wt_172 wt_173 wt_2) rfl (by decide +kernel) hrm (hR (by decide))) ?_
  refine am_cons (ar_return C hr d_W_difference_46) ?_
  exact am_nil
theorem sd_R_fill {p : Program} {l : Launch} {e : Env} {R : Room} {s : State} {m : MethodId} {args : Array Value} {below : List Frame} {meth : Method} {c : Code} {D : va_G} {ρ : Nat → Nat} {kc : Nat → ClassId} {len : Nat} {Qc : Array Value → State → Outcome → State → Prop} {call : am_C} {rm : Room} (C : am_Cx p R s m args meth c prog_5_method_2_code 3 cw_R_fill "DesignTexts$TextReader" D aCl ρ kc am_fts len) (hr : meth.sig.returnType = some .int)
    (hce : ∀ (id : Nat) (y : MethodName) (ws : List Cond), cPI[id]? = some (y, ws) → am_Ce l call rm D aCl ρ kc am_fts len id y ws) (hrm : rm.cells = 0 ∧ rm.slots = 0) (hR : ∀ {k : Nat}, k ≤ 21 → rm.frames + 1 ≤ R.frames ∧ 8 + (k + 11) + rm.locals ≤ R.locals) :
    ∀ q ∈ tb_R_fill call, am_Row (am_J p l e R s m args below meth c 3 D aCl ρ kc len (MQ below Qc args s 0 0 (am_A ρ len s.heap.size))) (am_K s args D aCl ρ kc len Qc) q.1 q.2 := by
  unfold tb_R_fill
  refine am_cons (ar_aload_n C d_R_fill_0 rfl) ?_
  refine am_cons (ar_iconst C d_R_fill_1 (by decide)) ?_
  refine am_cons (ar_putI C d_R_fill_2 (am_uc ft_Ru) ft_Ro ft_Rn rfl (by decide) (am_mc wt_180) rfl (by decide +kernel)) ?_
  refine am_cons (ar_aload_n C d_R_fill_5 rfl) ?_
  refine am_cons (ar_iconst C d_R_fill_6 (by decide)) ?_
  refine am_cons (ar_putI C d_R_fill_7 (am_uc ft_Ru) ft_Ro ft_Rn rfl (by decide) (am_mc wt_181) rfl (by decide +kernel)) ?_
  refine am_cons (ar_aload_n C d_R_fill_10 rfl) ?_
  refine am_cons (ar_getf C d_R_fill_11 (am_uc ft_Ru) rfl (by decide) (am_mc wt_182)) ?_
  refine am_cons (ar_iconst C d_R_fill_14 (by decide)) ?_
  refine am_cons (ar_callV C d_R_fill_15 (hce 3 ⟨"DesignTexts$Bytes", "at", "(I)I"⟩ cw_B_at rfl) rfl (am_gv wt_183 wt_184 wt_185 wt_173 wt_3) rfl (by decide +kernel) hrm (hR (by decide))) ?_
  refine am_cons (ar_bipush C d_R_fill_18 (by decide)) ?_
  refine am_cons (ar_icmp_ne C d_R_fill_20 (by decide)) ?_
  refine am_cons (ar_aload_n C d_R_fill_23 rfl) ?_
  refine am_cons (ar_getf C d_R_fill_24 (am_uc ft_Ru) rfl (by decide) (am_mc wt_182)) ?_
  refine am_cons (ar_iconst C d_R_fill_27 (by decide)) ?_
  refine am_cons (ar_callV C d_R_fill_28 (hce 3 ⟨"DesignTexts$Bytes", "at", "(I)I"⟩ cw_B_at rfl) rfl (am_gv wt_183 wt_184 wt_185 wt_173 wt_3) rfl (by decide +kernel) hrm (hR (by decide))) ?_
  refine am_cons (ar_bipush C d_R_fill_31 (by decide)) ?_
  refine am_cons (ar_icmp_ne C d_R_fill_33 (by decide)) ?_
  refine am_cons (ar_iconst C d_R_fill_36 (by decide)) ?_
  refine am_cons (ar_goto C d_R_fill_37 (by decide)) ?_
  refine am_cons (ar_keep [0, 1] (ar_iconst C d_R_fill_40 (by decide))) ?_
  refine am_cons (ar_keep [0, 1] (ar_istore_n C d_R_fill_41 rfl)) ?_
  refine am_cons (ar_aload_n C d_R_fill_42 rfl) ?_
  refine am_cons (ar_aload_n C d_R_fill_43 rfl) ?_
  refine am_cons (ar_iload_n C d_R_fill_44 rfl) ?_
  refine am_cons (ar_callV C d_R_fill_45 (hce 42 ⟨"DesignTexts$TextReader", "header", "(LDesignTexts$Design;Z)V"⟩ cw_R_header rfl) rfl (am_gv wt_186 wt_187 wt_188 wt_189 wt_42) rfl (by decide +kernel) hrm (hR (by decide))) ?_
  refine am_cons (ar_aload_n C d_R_fill_48 rfl) ?_
  refine am_cons (ar_getf C d_R_fill_49 (am_uc ft_Ru) rfl (by decide) (am_mc wt_181)) ?_
  refine am_cons (ar_iconst C d_R_fill_52 (by decide)) ?_
  refine am_cons (ar_icmp_ne C d_R_fill_53 (by decide)) ?_
  refine am_cons (ar_iload_n C d_R_fill_56 rfl) ?_
  refine am_cons (ar_if_eq C d_R_fill_57 (by decide)) ?_
  refine am_cons (ar_aload_n C d_R_fill_60 rfl) ?_
  refine am_cons (ar_aload_n C d_R_fill_61 rfl) ?_
  refine am_cons (ar_callV C d_R_fill_62 (hce 45 ⟨"DesignTexts$TextReader", "packedLines", "(LDesignTexts$Design;)V"⟩ cw_R_packedLines rfl) rfl (am_gv wt_190 wt_191 wt_192 wt_189 wt_45) rfl (by decide +kernel) hrm (hR (by decide))) ?_
  refine am_cons (ar_aload_n C d_R_fill_65 rfl) ?_
  refine am_cons (ar_aload_n C d_R_fill_66 rfl) ?_
  refine am_cons (ar_callV C d_R_fill_67 (hce 46 ⟨"DesignTexts$TextReader", "packedGates", "(LDesignTexts$Design;)V"⟩ cw_R_packedGates rfl) rfl (am_gv wt_193 wt_194 wt_195 wt_189 wt_46) rfl (by decide +kernel) hrm (hR (by decide))) ?_
  refine am_cons (ar_goto C d_R_fill_70 (by decide)) ?_
  refine am_cons (ar_keep [0, 1, 2] (ar_aload_n C d_R_fill_73 rfl)) ?_
  refine am_cons (ar_getf C d_R_fill_74 (am_uc ft_Ru) rfl (by decide) (am_mc wt_181)) ?_
  refine am_cons (ar_iconst C d_R_fill_77 (by decide)) ?_
  refine am_cons (ar_icmp_ne C d_R_fill_78 (by decide)) ?_
  refine am_cons (ar_aload_n C d_R_fill_81 rfl) ?_
  refine am_cons (ar_aload_n C d_R_fill_82 rfl) ?_
  refine am_cons (ar_callV C d_R_fill_83 (hce 43 ⟨"DesignTexts$TextReader", "plainLines", "(LDesignTexts$Design;)V"⟩ cw_R_plainLines rfl) rfl (am_gv wt_196 wt_197 wt_198 wt_189 wt_43) rfl (by decide +kernel) hrm (hR (by decide))) ?_
  refine am_cons (ar_aload_n C d_R_fill_86 rfl) ?_
  refine am_cons (ar_aload_n C d_R_fill_87 rfl) ?_
  refine am_cons (ar_callV C d_R_fill_88 (hce 44 ⟨"DesignTexts$TextReader", "plainGates", "(LDesignTexts$Design;)V"⟩ cw_R_plainGates rfl) rfl (am_gv wt_199 wt_200 wt_201 wt_189 wt_44) rfl (by decide +kernel) hrm (hR (by decide))) ?_
  refine am_cons (ar_keep [0, 1, 2] (ar_aload_n C d_R_fill_91 rfl)) ?_
  refine am_cons (ar_callV C d_R_fill_92 (hce 47 ⟨"DesignTexts$TextReader", "closing", "()V"⟩ cw_R_closing rfl) rfl (am_gv wt_202 wt_203 wt_204 wt_189 wt_47) rfl (by decide +kernel) hrm (hR (by decide))) ?_
  refine am_cons (ar_aload_n C d_R_fill_95 rfl) ?_
  refine am_cons (ar_getf C d_R_fill_96 (am_uc ft_Ru) rfl (by decide) (am_mc wt_181)) ?_
  refine am_cons (ar_iconst C d_R_fill_99 (by decide)) ?_
  refine am_cons (ar_icmp_ne C d_R_fill_100 (by decide)) ?_
  refine am_cons (ar_iload_n C d_R_fill_103 rfl) ?_
  refine am_cons (ar_if_ne C d_R_fill_104 (by decide)) ?_
  refine am_cons (ar_aload_n C d_R_fill_107 rfl) ?_
  refine am_cons (ar_callV C d_R_fill_108 (hce 48 ⟨"DesignTexts$TextReader", "findUndefined", "()V"⟩ cw_R_findUndefined rfl) rfl (am_gv wt_205 wt_206 wt_207 wt_189 wt_48) rfl (by decide +kernel) hrm (hR (by decide))) ?_
  refine am_cons (ar_aload_n C d_R_fill_111 rfl) ?_
  refine am_cons (ar_aload_n C d_R_fill_112 rfl) ?_
  refine am_cons (ar_callV C d_R_fill_113 (hce 49 ⟨"DesignTexts$TextReader", "findRound", "(LDesignTexts$Design;)V"⟩ cw_R_findRound rfl) rfl (am_gv wt_208 wt_209 wt_210 wt_189 wt_49) rfl (by decide +kernel) hrm (hR (by decide))) ?_
  refine am_cons (ar_keep [0, 1] (ar_aload_n C d_R_fill_116 rfl)) ?_
  refine am_cons (ar_getf C d_R_fill_117 (am_uc ft_Ru) rfl (by decide) (am_mc wt_181)) ?_
  refine am_cons (ar_iconst C d_R_fill_120 (by decide)) ?_
  refine am_cons (ar_icmp_ne C d_R_fill_121 (by decide)) ?_
  refine am_cons (ar_aload_n C d_R_fill_124 rfl) ?_
  refine am_cons (ar_callV C d_R_fill_125 (hce 19 ⟨"DesignTexts$Design", "arrange", "()V"⟩ cw_D_arrange rfl) rfl (am_gv wt_211 wt_137 wt_138 wt_87 wt_19) rfl (by decide +kernel) hrm (hR (by decide))) ?_
  refine am_cons (ar_aload_n C d_R_fill_128 rfl) ?_
  refine am_cons (ar_getf C d_R_fill_129 (am_uc ft_Ru) rfl (by decide) (am_mc wt_181)) ?_
  refine am_cons (ar_ireturn C hr d_R_fill_132) ?_
  exact am_nil
theorem sd_R_header {p : Program} {l : Launch} {e : Env} {R : Room} {s : State} {m : MethodId} {args : Array Value} {below : List Frame} {meth : Method} {c : Code} {D : va_G} {ρ : Nat → Nat} {kc : Nat → ClassId} {len : Nat} {Qc : Array Value → State → Outcome → State → Prop} {call : am_C} {rm : Room} (C : am_Cx p R s m args meth c prog_5_method_3_code 6 cw_R_header "DesignTexts$TextReader" D aCl ρ kc am_fts len) (hr : meth.sig.returnType = none)
    (hce : ∀ (id : Nat) (y : MethodName) (ws : List Cond), cPI[id]? = some (y, ws) → am_Ce l call rm D aCl ρ kc am_fts len id y ws) (hrm : rm.cells = 0 ∧ rm.slots = 0) (hR : ∀ {k : Nat}, k ≤ 21 → rm.frames + 1 ≤ R.frames ∧ 8 + (k + 11) + rm.locals ≤ R.locals) :
    ∀ q ∈ tb_R_header call, am_Row (am_J p l e R s m args below meth c 6 D aCl ρ kc len (MQ below Qc args s 0 0 (am_A ρ len s.heap.size))) (am_K s args D aCl ρ kc len Qc) q.1 q.2 := by
  unfold tb_R_header
  refine am_cons (ar_aload_n C d_R_header_0 rfl) ?_
  refine am_cons (ar_bipush C d_R_header_1 (by decide)) ?_
  refine am_cons (ar_callV C d_R_header_3 (hce 59 ⟨"DesignTexts$TextReader", "expect", "(I)V"⟩ cw_R_expect rfl) rfl (am_gv wt_212 wt_213 wt_214 wt_189 wt_59) rfl (by decide +kernel) hrm (hR (by decide))) ?_
  refine am_cons (ar_aload_n C d_R_header_6 rfl) ?_
  refine am_cons (ar_iload_n C d_R_header_7 rfl) ?_
  refine am_cons (ar_if_eq C d_R_header_8 (by decide)) ?_
  refine am_cons (ar_bipush C d_R_header_11 (by decide)) ?_
  refine am_cons (ar_goto C d_R_header_13 (by decide)) ?_
  refine am_cons (ar_bipush C d_R_header_16 (by decide)) ?_
  refine am_cons (ar_keep [0, 1, 2] (ar_callV C d_R_header_18 (hce 59 ⟨"DesignTexts$TextReader", "expect", "(I)V"⟩ cw_R_expect rfl) rfl (am_gv wt_212 wt_213 wt_214 wt_189 wt_59) rfl (by decide +kernel) hrm (hR (by decide)))) ?_
  refine am_cons (ar_aload_n C d_R_header_21 rfl) ?_
  refine am_cons (ar_bipush C d_R_header_22 (by decide)) ?_
  refine am_cons (ar_callV C d_R_header_24 (hce 59 ⟨"DesignTexts$TextReader", "expect", "(I)V"⟩ cw_R_expect rfl) rfl (am_gv wt_212 wt_213 wt_214 wt_189 wt_59) rfl (by decide +kernel) hrm (hR (by decide))) ?_
  refine am_cons (ar_aload_n C d_R_header_27 rfl) ?_
  refine am_cons (ar_aload_n C d_R_header_28 rfl) ?_
  refine am_cons (ar_bipush C d_R_header_29 (by decide)) ?_
  refine am_cons (ar_callV C d_R_header_31 (hce 55 ⟨"DesignTexts$TextReader", "blankAndNumber", "(I)I"⟩ cw_R_blankAndNumber rfl) rfl (am_gv wt_215 wt_216 wt_217 wt_189 wt_55) rfl (by decide +kernel) hrm (hR (by decide))) ?_
  refine am_cons (ar_callV C d_R_header_34 (hce 5 ⟨"DesignTexts$Design", "setMost", "(I)V"⟩ cw_D_setMost rfl) rfl (am_gv wt_218 wt_219 wt_220 wt_87 wt_5) rfl (by decide +kernel) hrm (hR (by decide))) ?_
  refine am_cons (ar_aload_n C d_R_header_37 rfl) ?_
  refine am_cons (ar_iconst C d_R_header_38 (by decide)) ?_
  refine am_cons (ar_aload_n C d_R_header_39 rfl) ?_
  refine am_cons (ar_bipush C d_R_header_40 (by decide)) ?_
  refine am_cons (ar_callV C d_R_header_42 (hce 55 ⟨"DesignTexts$TextReader", "blankAndNumber", "(I)I"⟩ cw_R_blankAndNumber rfl) rfl (am_gv wt_215 wt_216 wt_217 wt_189 wt_55) rfl (by decide +kernel) hrm (hR (by decide))) ?_
  refine am_cons (ar_callV C d_R_header_45 (hce 8 ⟨"DesignTexts$Design", "setMany", "(II)V"⟩ cw_D_setMany rfl) rfl (am_gv wt_221 wt_140 wt_141 wt_87 wt_8) rfl (by decide +kernel) hrm (hR (by decide))) ?_
  refine am_cons (ar_aload_n C d_R_header_48 rfl) ?_
  refine am_cons (ar_iconst C d_R_header_49 (by decide)) ?_
  refine am_cons (ar_aload_n C d_R_header_50 rfl) ?_
  refine am_cons (ar_bipush C d_R_header_51 (by decide)) ?_
  refine am_cons (ar_callV C d_R_header_53 (hce 55 ⟨"DesignTexts$TextReader", "blankAndNumber", "(I)I"⟩ cw_R_blankAndNumber rfl) rfl (am_gv wt_215 wt_216 wt_217 wt_189 wt_55) rfl (by decide +kernel) hrm (hR (by decide))) ?_
  refine am_cons (ar_callV C d_R_header_56 (hce 8 ⟨"DesignTexts$Design", "setMany", "(II)V"⟩ cw_D_setMany rfl) rfl (am_gv wt_221 wt_140 wt_141 wt_87 wt_8) rfl (by decide +kernel) hrm (hR (by decide))) ?_
  refine am_cons (ar_aload_n C d_R_header_59 rfl) ?_
  refine am_cons (ar_iconst C d_R_header_60 (by decide)) ?_
  refine am_cons (ar_aload_n C d_R_header_61 rfl) ?_
  refine am_cons (ar_bipush C d_R_header_62 (by decide)) ?_
  refine am_cons (ar_callV C d_R_header_64 (hce 55 ⟨"DesignTexts$TextReader", "blankAndNumber", "(I)I"⟩ cw_R_blankAndNumber rfl) rfl (am_gv wt_215 wt_216 wt_217 wt_189 wt_55) rfl (by decide +kernel) hrm (hR (by decide))) ?_
  refine am_cons (ar_callV C d_R_header_67 (hce 8 ⟨"DesignTexts$Design", "setMany", "(II)V"⟩ cw_D_setMany rfl) rfl (am_gv wt_221 wt_140 wt_141 wt_87 wt_8) rfl (by decide +kernel) hrm (hR (by decide))) ?_
  refine am_cons (ar_aload_n C d_R_header_70 rfl) ?_
  refine am_cons (ar_callV C d_R_header_71 (hce 4 ⟨"DesignTexts$Design", "most", "()I"⟩ cw_D_most rfl) rfl (am_gv wt_222 wt_175 wt_176 wt_87 wt_4) rfl (by decide +kernel) hrm (hR (by decide))) ?_
  refine am_cons (ar_aload_n C d_R_header_74 rfl) ?_
  refine am_cons (ar_iconst C d_R_header_75 (by decide)) ?_
  refine am_cons (ar_callV C d_R_header_76 (hce 7 ⟨"DesignTexts$Design", "many", "(I)I"⟩ cw_D_many rfl) rfl (am_gv wt_223 wt_85 wt_86 wt_87 wt_7) rfl (by decide +kernel) hrm (hR (by decide))) ?_
  refine am_cons (ar_isub C d_R_header_79) ?_
  refine am_cons (ar_aload_n C d_R_header_80 rfl) ?_
  refine am_cons (ar_iconst C d_R_header_81 (by decide)) ?_
  refine am_cons (ar_callV C d_R_header_82 (hce 7 ⟨"DesignTexts$Design", "many", "(I)I"⟩ cw_D_many rfl) rfl (am_gv wt_223 wt_85 wt_86 wt_87 wt_7) rfl (by decide +kernel) hrm (hR (by decide))) ?_
  refine am_cons (ar_isub C d_R_header_85) ?_
  refine am_cons (ar_istore_n C d_R_header_86 rfl) ?_
  refine am_cons (ar_aload_n C d_R_header_87 rfl) ?_
  refine am_cons (ar_bipush C d_R_header_88 (by decide)) ?_
  refine am_cons (ar_callV C d_R_header_90 (hce 59 ⟨"DesignTexts$TextReader", "expect", "(I)V"⟩ cw_R_expect rfl) rfl (am_gv wt_212 wt_213 wt_214 wt_189 wt_59) rfl (by decide +kernel) hrm (hR (by decide))) ?_
  refine am_cons (ar_aload_n C d_R_header_93 rfl) ?_
  refine am_cons (ar_getf C d_R_header_94 (am_uc ft_Ru) rfl (by decide) (am_mc wt_180)) ?_
  refine am_cons (ar_istore C d_R_header_97) ?_
  refine am_cons (ar_aload_n C d_R_header_99 rfl) ?_
  refine am_cons (ar_bipush C d_R_header_100 (by decide)) ?_
  refine am_cons (ar_callV C d_R_header_102 (hce 56 ⟨"DesignTexts$TextReader", "number", "(I)I"⟩ cw_R_number rfl) rfl (am_gv wt_224 wt_225 wt_226 wt_189 wt_56) rfl (by decide +kernel) hrm (hR (by decide))) ?_
  refine am_cons (ar_istore C d_R_header_105) ?_
  refine am_cons (ar_iload C d_R_header_107) ?_
  refine am_cons (ar_iload_n C d_R_header_109 rfl) ?_
  refine am_cons (ar_icmp_gt C d_R_header_110 (by decide)) ?_
  refine am_cons (ar_iload_n C d_R_header_113 rfl) ?_
  refine am_cons (ar_if_eq C d_R_header_114 (by decide)) ?_
  refine am_cons (ar_iload C d_R_header_117) ?_
  refine am_cons (ar_iload_n C d_R_header_119 rfl) ?_
  refine am_cons (ar_icmp_eq C d_R_header_120 (by decide)) ?_
  refine am_cons (ar_keep [0, 1, 4, 5] (ar_aload_n C d_R_header_123 rfl)) ?_
  refine am_cons (ar_iload C d_R_header_124) ?_
  refine am_cons (ar_callV C d_R_header_126 (hce 60 ⟨"DesignTexts$TextReader", "fail", "(I)V"⟩ cw_R_fail rfl) rfl (am_gv wt_227 wt_228 wt_229 wt_189 wt_60) rfl (by decide +kernel) hrm (hR (by decide))) ?_
  refine am_cons (ar_keep [0, 1, 5] (ar_aload_n C d_R_header_129 rfl)) ?_
  refine am_cons (ar_iconst C d_R_header_130 (by decide)) ?_
  refine am_cons (ar_iload C d_R_header_131) ?_
  refine am_cons (ar_callV C d_R_header_133 (hce 8 ⟨"DesignTexts$Design", "setMany", "(II)V"⟩ cw_D_setMany rfl) rfl (am_gv wt_221 wt_140 wt_141 wt_87 wt_8) rfl (by decide +kernel) hrm (hR (by decide))) ?_
  refine am_cons (ar_aload_n C d_R_header_136 rfl) ?_
  refine am_cons (ar_bipush C d_R_header_137 (by decide)) ?_
  refine am_cons (ar_callV C d_R_header_139 (hce 59 ⟨"DesignTexts$TextReader", "expect", "(I)V"⟩ cw_R_expect rfl) rfl (am_gv wt_212 wt_213 wt_214 wt_189 wt_59) rfl (by decide +kernel) hrm (hR (by decide))) ?_
  refine am_cons (ar_return C hr d_R_header_142) ?_
  exact am_nil
theorem sd_R_plainLines {p : Program} {l : Launch} {e : Env} {R : Room} {s : State} {m : MethodId} {args : Array Value} {below : List Frame} {meth : Method} {c : Code} {D : va_G} {ρ : Nat → Nat} {kc : Nat → ClassId} {len : Nat} {Qc : Array Value → State → Outcome → State → Prop} {call : am_C} {rm : Room} (C : am_Cx p R s m args meth c prog_5_method_4_code 4 cw_R_plainLines "DesignTexts$TextReader" D aCl ρ kc am_fts len) (hr : meth.sig.returnType = none)
    (hce : ∀ (id : Nat) (y : MethodName) (ws : List Cond), cPI[id]? = some (y, ws) → am_Ce l call rm D aCl ρ kc am_fts len id y ws) (hrm : rm.cells = 0 ∧ rm.slots = 0) (hR : ∀ {k : Nat}, k ≤ 21 → rm.frames + 1 ≤ R.frames ∧ 8 + (k + 11) + rm.locals ≤ R.locals) :
    ∀ q ∈ tb_R_plainLines call, am_Row (am_J p l e R s m args below meth c 4 D aCl ρ kc len (MQ below Qc args s 0 0 (am_A ρ len s.heap.size))) (am_K s args D aCl ρ kc len Qc) q.1 q.2 := by
  unfold tb_R_plainLines
  refine am_cons (ar_aload_n C d_R_plainLines_0 rfl) ?_
  refine am_cons (ar_iconst C d_R_plainLines_1 (by decide)) ?_
  refine am_cons (ar_putI C d_R_plainLines_2 (am_uc ft_Ru) ft_Ro ft_Rn rfl (by decide) (am_mc wt_230) rfl (by decide +kernel)) ?_
  refine am_cons (ar_iconst C d_R_plainLines_5 (by decide)) ?_
  refine am_cons (ar_istore_n C d_R_plainLines_6 rfl) ?_
  refine am_cons (ar_keep [0, 1, 2] (ar_iload_n C d_R_plainLines_7 rfl)) ?_
  refine am_cons (ar_aload_n C d_R_plainLines_8 rfl) ?_
  refine am_cons (ar_getf C d_R_plainLines_9 (am_uc ft_Ru) rfl (by decide) (am_mc wt_231)) ?_
  refine am_cons (ar_alen C d_R_plainLines_12) ?_
  refine am_cons (ar_icmp_ge C d_R_plainLines_13 (by decide)) ?_
  refine am_cons (ar_aload_n C d_R_plainLines_16 rfl) ?_
  refine am_cons (ar_getf C d_R_plainLines_17 (am_uc ft_Ru) rfl (by decide) (am_mc wt_231)) ?_
  refine am_cons (ar_iload_n C d_R_plainLines_20 rfl) ?_
  refine am_cons (ar_iconst C d_R_plainLines_21 (by decide)) ?_
  refine am_cons (ar_zast C d_R_plainLines_22 rfl) ?_
  refine am_cons (ar_iinc C d_R_plainLines_23 (by decide)) ?_
  refine am_cons (ar_goto C d_R_plainLines_26 (by decide)) ?_
  refine am_cons (ar_keep [0, 1] (ar_iconst C d_R_plainLines_29 (by decide))) ?_
  refine am_cons (ar_aload_n C d_R_plainLines_30 rfl) ?_
  refine am_cons (ar_callV C d_R_plainLines_31 (hce 4 ⟨"DesignTexts$Design", "most", "()I"⟩ cw_D_most rfl) rfl (am_gv wt_222 wt_175 wt_176 wt_87 wt_4) rfl (by decide +kernel) hrm (hR (by decide))) ?_
  refine am_cons (ar_imul C d_R_plainLines_34) ?_
  refine am_cons (ar_iconst C d_R_plainLines_35 (by decide)) ?_
  refine am_cons (ar_iadd C d_R_plainLines_36) ?_
  refine am_cons (ar_istore_n C d_R_plainLines_37 rfl) ?_
  refine am_cons (ar_iconst C d_R_plainLines_38 (by decide)) ?_
  refine am_cons (ar_istore_n C d_R_plainLines_39 rfl) ?_
  refine am_cons (ar_keep [0, 1, 2, 3] (ar_iload_n C d_R_plainLines_40 rfl)) ?_
  refine am_cons (ar_aload_n C d_R_plainLines_41 rfl) ?_
  refine am_cons (ar_iconst C d_R_plainLines_42 (by decide)) ?_
  refine am_cons (ar_callV C d_R_plainLines_43 (hce 7 ⟨"DesignTexts$Design", "many", "(I)I"⟩ cw_D_many rfl) rfl (am_gv wt_223 wt_85 wt_86 wt_87 wt_7) rfl (by decide +kernel) hrm (hR (by decide))) ?_
  refine am_cons (ar_icmp_ge C d_R_plainLines_46 (by decide)) ?_
  refine am_cons (ar_aload_n C d_R_plainLines_49 rfl) ?_
  refine am_cons (ar_getf C d_R_plainLines_50 (am_uc ft_Ru) rfl (by decide) (am_mc wt_181)) ?_
  refine am_cons (ar_iconst C d_R_plainLines_53 (by decide)) ?_
  refine am_cons (ar_icmp_ne C d_R_plainLines_54 (by decide)) ?_
  refine am_cons (ar_aload_n C d_R_plainLines_57 rfl) ?_
  refine am_cons (ar_iconst C d_R_plainLines_58 (by decide)) ?_
  refine am_cons (ar_iload_n C d_R_plainLines_59 rfl) ?_
  refine am_cons (ar_aload_n C d_R_plainLines_60 rfl) ?_
  refine am_cons (ar_iload_n C d_R_plainLines_61 rfl) ?_
  refine am_cons (ar_callV C d_R_plainLines_62 (hce 52 ⟨"DesignTexts$TextReader", "definition", "(I)I"⟩ cw_R_definition rfl) rfl (am_gv wt_232 wt_233 wt_234 wt_189 wt_52) rfl (by decide +kernel) hrm (hR (by decide))) ?_
  refine am_cons (ar_callV C d_R_plainLines_65 (hce 11 ⟨"DesignTexts$Design", "set", "(III)V"⟩ cw_D_set rfl) rfl (am_gv wt_235 wt_146 wt_147 wt_87 wt_11) rfl (by decide +kernel) hrm (hR (by decide))) ?_
  refine am_cons (ar_aload_n C d_R_plainLines_68 rfl) ?_
  refine am_cons (ar_bipush C d_R_plainLines_69 (by decide)) ?_
  refine am_cons (ar_callV C d_R_plainLines_71 (hce 59 ⟨"DesignTexts$TextReader", "expect", "(I)V"⟩ cw_R_expect rfl) rfl (am_gv wt_212 wt_213 wt_214 wt_189 wt_59) rfl (by decide +kernel) hrm (hR (by decide))) ?_
  refine am_cons (ar_iinc C d_R_plainLines_74 (by decide)) ?_
  refine am_cons (ar_goto C d_R_plainLines_77 (by decide)) ?_
  refine am_cons (ar_keep [0, 1, 2] (ar_iconst C d_R_plainLines_80 (by decide))) ?_
  refine am_cons (ar_istore_n C d_R_plainLines_81 rfl) ?_
  refine am_cons (ar_keep [0, 1, 2, 3] (ar_iload_n C d_R_plainLines_82 rfl)) ?_
  refine am_cons (ar_aload_n C d_R_plainLines_83 rfl) ?_
  refine am_cons (ar_iconst C d_R_plainLines_84 (by decide)) ?_
  refine am_cons (ar_callV C d_R_plainLines_85 (hce 7 ⟨"DesignTexts$Design", "many", "(I)I"⟩ cw_D_many rfl) rfl (am_gv wt_223 wt_85 wt_86 wt_87 wt_7) rfl (by decide +kernel) hrm (hR (by decide))) ?_
  refine am_cons (ar_icmp_ge C d_R_plainLines_88 (by decide)) ?_
  refine am_cons (ar_aload_n C d_R_plainLines_91 rfl) ?_
  refine am_cons (ar_getf C d_R_plainLines_92 (am_uc ft_Ru) rfl (by decide) (am_mc wt_181)) ?_
  refine am_cons (ar_iconst C d_R_plainLines_95 (by decide)) ?_
  refine am_cons (ar_icmp_ne C d_R_plainLines_96 (by decide)) ?_
  refine am_cons (ar_aload_n C d_R_plainLines_99 rfl) ?_
  refine am_cons (ar_iconst C d_R_plainLines_100 (by decide)) ?_
  refine am_cons (ar_iload_n C d_R_plainLines_101 rfl) ?_
  refine am_cons (ar_aload_n C d_R_plainLines_102 rfl) ?_
  refine am_cons (ar_iload_n C d_R_plainLines_103 rfl) ?_
  refine am_cons (ar_callV C d_R_plainLines_104 (hce 52 ⟨"DesignTexts$TextReader", "definition", "(I)I"⟩ cw_R_definition rfl) rfl (am_gv wt_232 wt_233 wt_234 wt_189 wt_52) rfl (by decide +kernel) hrm (hR (by decide))) ?_
  refine am_cons (ar_callV C d_R_plainLines_107 (hce 11 ⟨"DesignTexts$Design", "set", "(III)V"⟩ cw_D_set rfl) rfl (am_gv wt_235 wt_146 wt_147 wt_87 wt_11) rfl (by decide +kernel) hrm (hR (by decide))) ?_
  refine am_cons (ar_aload_n C d_R_plainLines_110 rfl) ?_
  refine am_cons (ar_bipush C d_R_plainLines_111 (by decide)) ?_
  refine am_cons (ar_callV C d_R_plainLines_113 (hce 59 ⟨"DesignTexts$TextReader", "expect", "(I)V"⟩ cw_R_expect rfl) rfl (am_gv wt_212 wt_213 wt_214 wt_189 wt_59) rfl (by decide +kernel) hrm (hR (by decide))) ?_
  refine am_cons (ar_aload_n C d_R_plainLines_116 rfl) ?_
  refine am_cons (ar_iconst C d_R_plainLines_117 (by decide)) ?_
  refine am_cons (ar_iload_n C d_R_plainLines_118 rfl) ?_
  refine am_cons (ar_aload_n C d_R_plainLines_119 rfl) ?_
  refine am_cons (ar_iload_n C d_R_plainLines_120 rfl) ?_
  refine am_cons (ar_callV C d_R_plainLines_121 (hce 53 ⟨"DesignTexts$TextReader", "use", "(I)I"⟩ cw_R_use rfl) rfl (am_gv wt_236 wt_237 wt_238 wt_189 wt_53) rfl (by decide +kernel) hrm (hR (by decide))) ?_
  refine am_cons (ar_callV C d_R_plainLines_124 (hce 11 ⟨"DesignTexts$Design", "set", "(III)V"⟩ cw_D_set rfl) rfl (am_gv wt_235 wt_146 wt_147 wt_87 wt_11) rfl (by decide +kernel) hrm (hR (by decide))) ?_
  refine am_cons (ar_aload_n C d_R_plainLines_127 rfl) ?_
  refine am_cons (ar_iconst C d_R_plainLines_128 (by decide)) ?_
  refine am_cons (ar_iload_n C d_R_plainLines_129 rfl) ?_
  refine am_cons (ar_aload_n C d_R_plainLines_130 rfl) ?_
  refine am_cons (ar_callV C d_R_plainLines_131 (hce 54 ⟨"DesignTexts$TextReader", "perhapsFirst", "()I"⟩ cw_R_perhapsFirst rfl) rfl (am_gv wt_239 wt_240 wt_241 wt_189 wt_54) rfl (by decide +kernel) hrm (hR (by decide))) ?_
  refine am_cons (ar_callV C d_R_plainLines_134 (hce 11 ⟨"DesignTexts$Design", "set", "(III)V"⟩ cw_D_set rfl) rfl (am_gv wt_235 wt_146 wt_147 wt_87 wt_11) rfl (by decide +kernel) hrm (hR (by decide))) ?_
  refine am_cons (ar_aload_n C d_R_plainLines_137 rfl) ?_
  refine am_cons (ar_bipush C d_R_plainLines_138 (by decide)) ?_
  refine am_cons (ar_callV C d_R_plainLines_140 (hce 59 ⟨"DesignTexts$TextReader", "expect", "(I)V"⟩ cw_R_expect rfl) rfl (am_gv wt_212 wt_213 wt_214 wt_189 wt_59) rfl (by decide +kernel) hrm (hR (by decide))) ?_
  refine am_cons (ar_iinc C d_R_plainLines_143 (by decide)) ?_
  refine am_cons (ar_goto C d_R_plainLines_146 (by decide)) ?_
  refine am_cons (ar_keep [0, 1, 2] (ar_iconst C d_R_plainLines_149 (by decide))) ?_
  refine am_cons (ar_istore_n C d_R_plainLines_150 rfl) ?_
  refine am_cons (ar_keep [0, 1, 2, 3] (ar_iload_n C d_R_plainLines_151 rfl)) ?_
  refine am_cons (ar_aload_n C d_R_plainLines_152 rfl) ?_
  refine am_cons (ar_iconst C d_R_plainLines_153 (by decide)) ?_
  refine am_cons (ar_callV C d_R_plainLines_154 (hce 7 ⟨"DesignTexts$Design", "many", "(I)I"⟩ cw_D_many rfl) rfl (am_gv wt_223 wt_85 wt_86 wt_87 wt_7) rfl (by decide +kernel) hrm (hR (by decide))) ?_
  refine am_cons (ar_icmp_ge C d_R_plainLines_157 (by decide)) ?_
  refine am_cons (ar_aload_n C d_R_plainLines_160 rfl) ?_
  refine am_cons (ar_getf C d_R_plainLines_161 (am_uc ft_Ru) rfl (by decide) (am_mc wt_181)) ?_
  refine am_cons (ar_iconst C d_R_plainLines_164 (by decide)) ?_
  refine am_cons (ar_icmp_ne C d_R_plainLines_165 (by decide)) ?_
  refine am_cons (ar_aload_n C d_R_plainLines_168 rfl) ?_
  refine am_cons (ar_iconst C d_R_plainLines_169 (by decide)) ?_
  refine am_cons (ar_iload_n C d_R_plainLines_170 rfl) ?_
  refine am_cons (ar_aload_n C d_R_plainLines_171 rfl) ?_
  refine am_cons (ar_iload_n C d_R_plainLines_172 rfl) ?_
  refine am_cons (ar_callV C d_R_plainLines_173 (hce 53 ⟨"DesignTexts$TextReader", "use", "(I)I"⟩ cw_R_use rfl) rfl (am_gv wt_236 wt_237 wt_238 wt_189 wt_53) rfl (by decide +kernel) hrm (hR (by decide))) ?_
  refine am_cons (ar_callV C d_R_plainLines_176 (hce 11 ⟨"DesignTexts$Design", "set", "(III)V"⟩ cw_D_set rfl) rfl (am_gv wt_235 wt_146 wt_147 wt_87 wt_11) rfl (by decide +kernel) hrm (hR (by decide))) ?_
  refine am_cons (ar_aload_n C d_R_plainLines_179 rfl) ?_
  refine am_cons (ar_bipush C d_R_plainLines_180 (by decide)) ?_
  refine am_cons (ar_callV C d_R_plainLines_182 (hce 59 ⟨"DesignTexts$TextReader", "expect", "(I)V"⟩ cw_R_expect rfl) rfl (am_gv wt_212 wt_213 wt_214 wt_189 wt_59) rfl (by decide +kernel) hrm (hR (by decide))) ?_
  refine am_cons (ar_iinc C d_R_plainLines_185 (by decide)) ?_
  refine am_cons (ar_goto C d_R_plainLines_188 (by decide)) ?_
  refine am_cons (ar_keep [] (ar_return C hr d_R_plainLines_191)) ?_
  exact am_nil
theorem sd_R_plainGates {p : Program} {l : Launch} {e : Env} {R : Room} {s : State} {m : MethodId} {args : Array Value} {below : List Frame} {meth : Method} {c : Code} {D : va_G} {ρ : Nat → Nat} {kc : Nat → ClassId} {len : Nat} {Qc : Array Value → State → Outcome → State → Prop} {call : am_C} {rm : Room} (C : am_Cx p R s m args meth c prog_5_method_5_code 4 cw_R_plainGates "DesignTexts$TextReader" D aCl ρ kc am_fts len) (hr : meth.sig.returnType = none)
    (hce : ∀ (id : Nat) (y : MethodName) (ws : List Cond), cPI[id]? = some (y, ws) → am_Ce l call rm D aCl ρ kc am_fts len id y ws) (hrm : rm.cells = 0 ∧ rm.slots = 0) (hR : ∀ {k : Nat}, k ≤ 21 → rm.frames + 1 ≤ R.frames ∧ 8 + (k + 11) + rm.locals ≤ R.locals) :
    ∀ q ∈ tb_R_plainGates call, am_Row (am_J p l e R s m args below meth c 4 D aCl ρ kc len (MQ below Qc args s 0 0 (am_A ρ len s.heap.size))) (am_K s args D aCl ρ kc len Qc) q.1 q.2 := by
  unfold tb_R_plainGates
  refine am_cons (ar_iconst C d_R_plainGates_0 (by decide)) ?_
  refine am_cons (ar_aload_n C d_R_plainGates_1 rfl) ?_
  refine am_cons (ar_callV C d_R_plainGates_2 (hce 4 ⟨"DesignTexts$Design", "most", "()I"⟩ cw_D_most rfl) rfl (am_gv wt_222 wt_175 wt_176 wt_87 wt_4) rfl (by decide +kernel) hrm (hR (by decide))) ?_
  refine am_cons (ar_imul C d_R_plainGates_5) ?_
  refine am_cons (ar_iconst C d_R_plainGates_6 (by decide)) ?_
  refine am_cons (ar_iadd C d_R_plainGates_7) ?_
  refine am_cons (ar_istore_n C d_R_plainGates_8 rfl) ?_
  refine am_cons (ar_iconst C d_R_plainGates_9 (by decide)) ?_
  refine am_cons (ar_istore_n C d_R_plainGates_10 rfl) ?_
  refine am_cons (ar_keep [0, 1, 2, 3] (ar_iload_n C d_R_plainGates_11 rfl)) ?_
  refine am_cons (ar_aload_n C d_R_plainGates_12 rfl) ?_
  refine am_cons (ar_iconst C d_R_plainGates_13 (by decide)) ?_
  refine am_cons (ar_callV C d_R_plainGates_14 (hce 7 ⟨"DesignTexts$Design", "many", "(I)I"⟩ cw_D_many rfl) rfl (am_gv wt_223 wt_85 wt_86 wt_87 wt_7) rfl (by decide +kernel) hrm (hR (by decide))) ?_
  refine am_cons (ar_icmp_ge C d_R_plainGates_17 (by decide)) ?_
  refine am_cons (ar_aload_n C d_R_plainGates_20 rfl) ?_
  refine am_cons (ar_getf C d_R_plainGates_21 (am_uc ft_Ru) rfl (by decide) (am_mc wt_181)) ?_
  refine am_cons (ar_iconst C d_R_plainGates_24 (by decide)) ?_
  refine am_cons (ar_icmp_ne C d_R_plainGates_25 (by decide)) ?_
  refine am_cons (ar_iload_n C d_R_plainGates_28 rfl) ?_
  refine am_cons (ar_aload_n C d_R_plainGates_29 rfl) ?_
  refine am_cons (ar_getf C d_R_plainGates_30 (am_uc ft_Ru) rfl (by decide) (am_mc wt_242)) ?_
  refine am_cons (ar_alen C d_R_plainGates_33) ?_
  refine am_cons (ar_icmp_ge C d_R_plainGates_34 (by decide)) ?_
  refine am_cons (ar_aload_n C d_R_plainGates_37 rfl) ?_
  refine am_cons (ar_getf C d_R_plainGates_38 (am_uc ft_Ru) rfl (by decide) (am_mc wt_242)) ?_
  refine am_cons (ar_iload_n C d_R_plainGates_41 rfl) ?_
  refine am_cons (ar_aload_n C d_R_plainGates_42 rfl) ?_
  refine am_cons (ar_getf C d_R_plainGates_43 (am_uc ft_Ru) rfl (by decide) (am_mc wt_180)) ?_
  refine am_cons (ar_iast C d_R_plainGates_46 rfl) ?_
  refine am_cons (ar_aload_n C d_R_plainGates_47 rfl) ?_
  refine am_cons (ar_iconst C d_R_plainGates_48 (by decide)) ?_
  refine am_cons (ar_iload_n C d_R_plainGates_49 rfl) ?_
  refine am_cons (ar_aload_n C d_R_plainGates_50 rfl) ?_
  refine am_cons (ar_iload_n C d_R_plainGates_51 rfl) ?_
  refine am_cons (ar_callV C d_R_plainGates_52 (hce 52 ⟨"DesignTexts$TextReader", "definition", "(I)I"⟩ cw_R_definition rfl) rfl (am_gv wt_232 wt_233 wt_234 wt_189 wt_52) rfl (by decide +kernel) hrm (hR (by decide))) ?_
  refine am_cons (ar_callV C d_R_plainGates_55 (hce 11 ⟨"DesignTexts$Design", "set", "(III)V"⟩ cw_D_set rfl) rfl (am_gv wt_235 wt_146 wt_147 wt_87 wt_11) rfl (by decide +kernel) hrm (hR (by decide))) ?_
  refine am_cons (ar_aload_n C d_R_plainGates_58 rfl) ?_
  refine am_cons (ar_bipush C d_R_plainGates_59 (by decide)) ?_
  refine am_cons (ar_callV C d_R_plainGates_61 (hce 59 ⟨"DesignTexts$TextReader", "expect", "(I)V"⟩ cw_R_expect rfl) rfl (am_gv wt_212 wt_213 wt_214 wt_189 wt_59) rfl (by decide +kernel) hrm (hR (by decide))) ?_
  refine am_cons (ar_aload_n C d_R_plainGates_64 rfl) ?_
  refine am_cons (ar_bipush C d_R_plainGates_65 (by decide)) ?_
  refine am_cons (ar_iload_n C d_R_plainGates_67 rfl) ?_
  refine am_cons (ar_aload_n C d_R_plainGates_68 rfl) ?_
  refine am_cons (ar_iload_n C d_R_plainGates_69 rfl) ?_
  refine am_cons (ar_callV C d_R_plainGates_70 (hce 53 ⟨"DesignTexts$TextReader", "use", "(I)I"⟩ cw_R_use rfl) rfl (am_gv wt_236 wt_237 wt_238 wt_189 wt_53) rfl (by decide +kernel) hrm (hR (by decide))) ?_
  refine am_cons (ar_callV C d_R_plainGates_73 (hce 11 ⟨"DesignTexts$Design", "set", "(III)V"⟩ cw_D_set rfl) rfl (am_gv wt_235 wt_146 wt_147 wt_87 wt_11) rfl (by decide +kernel) hrm (hR (by decide))) ?_
  refine am_cons (ar_aload_n C d_R_plainGates_76 rfl) ?_
  refine am_cons (ar_bipush C d_R_plainGates_77 (by decide)) ?_
  refine am_cons (ar_callV C d_R_plainGates_79 (hce 59 ⟨"DesignTexts$TextReader", "expect", "(I)V"⟩ cw_R_expect rfl) rfl (am_gv wt_212 wt_213 wt_214 wt_189 wt_59) rfl (by decide +kernel) hrm (hR (by decide))) ?_
  refine am_cons (ar_aload_n C d_R_plainGates_82 rfl) ?_
  refine am_cons (ar_bipush C d_R_plainGates_83 (by decide)) ?_
  refine am_cons (ar_iload_n C d_R_plainGates_85 rfl) ?_
  refine am_cons (ar_aload_n C d_R_plainGates_86 rfl) ?_
  refine am_cons (ar_iload_n C d_R_plainGates_87 rfl) ?_
  refine am_cons (ar_callV C d_R_plainGates_88 (hce 53 ⟨"DesignTexts$TextReader", "use", "(I)I"⟩ cw_R_use rfl) rfl (am_gv wt_236 wt_237 wt_238 wt_189 wt_53) rfl (by decide +kernel) hrm (hR (by decide))) ?_
  refine am_cons (ar_callV C d_R_plainGates_91 (hce 11 ⟨"DesignTexts$Design", "set", "(III)V"⟩ cw_D_set rfl) rfl (am_gv wt_235 wt_146 wt_147 wt_87 wt_11) rfl (by decide +kernel) hrm (hR (by decide))) ?_
  refine am_cons (ar_aload_n C d_R_plainGates_94 rfl) ?_
  refine am_cons (ar_bipush C d_R_plainGates_95 (by decide)) ?_
  refine am_cons (ar_callV C d_R_plainGates_97 (hce 59 ⟨"DesignTexts$TextReader", "expect", "(I)V"⟩ cw_R_expect rfl) rfl (am_gv wt_212 wt_213 wt_214 wt_189 wt_59) rfl (by decide +kernel) hrm (hR (by decide))) ?_
  refine am_cons (ar_iinc C d_R_plainGates_100 (by decide)) ?_
  refine am_cons (ar_goto C d_R_plainGates_103 (by decide)) ?_
  refine am_cons (ar_keep [] (ar_return C hr d_R_plainGates_106)) ?_
  exact am_nil
theorem sd_R_packedLines {p : Program} {l : Launch} {e : Env} {R : Room} {s : State} {m : MethodId} {args : Array Value} {below : List Frame} {meth : Method} {c : Code} {D : va_G} {ρ : Nat → Nat} {kc : Nat → ClassId} {len : Nat} {Qc : Array Value → State → Outcome → State → Prop} {call : am_C} {rm : Room} (C : am_Cx p R s m args meth c prog_5_method_6_code 5 cw_R_packedLines "DesignTexts$TextReader" D aCl ρ kc am_fts len) (hr : meth.sig.returnType = none)
    (hce : ∀ (id : Nat) (y : MethodName) (ws : List Cond), cPI[id]? = some (y, ws) → am_Ce l call rm D aCl ρ kc am_fts len id y ws) (hrm : rm.cells = 0 ∧ rm.slots = 0) (hR : ∀ {k : Nat}, k ≤ 21 → rm.frames + 1 ≤ R.frames ∧ 8 + (k + 11) + rm.locals ≤ R.locals) :
    ∀ q ∈ tb_R_packedLines call, am_Row (am_J p l e R s m args below meth c 5 D aCl ρ kc len (MQ below Qc args s 0 0 (am_A ρ len s.heap.size))) (am_K s args D aCl ρ kc len Qc) q.1 q.2 := by
  unfold tb_R_packedLines
  refine am_cons (ar_iconst C d_R_packedLines_0 (by decide)) ?_
  refine am_cons (ar_aload_n C d_R_packedLines_1 rfl) ?_
  refine am_cons (ar_callV C d_R_packedLines_2 (hce 4 ⟨"DesignTexts$Design", "most", "()I"⟩ cw_D_most rfl) rfl (am_gv wt_222 wt_175 wt_176 wt_87 wt_4) rfl (by decide +kernel) hrm (hR (by decide))) ?_
  refine am_cons (ar_imul C d_R_packedLines_5) ?_
  refine am_cons (ar_iconst C d_R_packedLines_6 (by decide)) ?_
  refine am_cons (ar_iadd C d_R_packedLines_7) ?_
  refine am_cons (ar_istore_n C d_R_packedLines_8 rfl) ?_
  refine am_cons (ar_iconst C d_R_packedLines_9 (by decide)) ?_
  refine am_cons (ar_istore_n C d_R_packedLines_10 rfl) ?_
  refine am_cons (ar_iconst C d_R_packedLines_11 (by decide)) ?_
  refine am_cons (ar_istore C d_R_packedLines_12) ?_
  refine am_cons (ar_keep [0, 1, 2, 3, 4] (ar_iload C d_R_packedLines_14)) ?_
  refine am_cons (ar_aload_n C d_R_packedLines_16 rfl) ?_
  refine am_cons (ar_iconst C d_R_packedLines_17 (by decide)) ?_
  refine am_cons (ar_callV C d_R_packedLines_18 (hce 7 ⟨"DesignTexts$Design", "many", "(I)I"⟩ cw_D_many rfl) rfl (am_gv wt_223 wt_85 wt_86 wt_87 wt_7) rfl (by decide +kernel) hrm (hR (by decide))) ?_
  refine am_cons (ar_icmp_ge C d_R_packedLines_21 (by decide)) ?_
  refine am_cons (ar_iinc C d_R_packedLines_24 (by decide)) ?_
  refine am_cons (ar_aload_n C d_R_packedLines_27 rfl) ?_
  refine am_cons (ar_iconst C d_R_packedLines_28 (by decide)) ?_
  refine am_cons (ar_iload C d_R_packedLines_29) ?_
  refine am_cons (ar_iload_n C d_R_packedLines_31 rfl) ?_
  refine am_cons (ar_callV C d_R_packedLines_32 (hce 11 ⟨"DesignTexts$Design", "set", "(III)V"⟩ cw_D_set rfl) rfl (am_gv wt_235 wt_146 wt_147 wt_87 wt_11) rfl (by decide +kernel) hrm (hR (by decide))) ?_
  refine am_cons (ar_iinc C d_R_packedLines_35 (by decide)) ?_
  refine am_cons (ar_goto C d_R_packedLines_38 (by decide)) ?_
  refine am_cons (ar_keep [0, 1, 2, 3] (ar_iconst C d_R_packedLines_41 (by decide))) ?_
  refine am_cons (ar_istore C d_R_packedLines_42) ?_
  refine am_cons (ar_keep [0, 1, 2, 3, 4] (ar_iload C d_R_packedLines_44)) ?_
  refine am_cons (ar_aload_n C d_R_packedLines_46 rfl) ?_
  refine am_cons (ar_iconst C d_R_packedLines_47 (by decide)) ?_
  refine am_cons (ar_callV C d_R_packedLines_48 (hce 7 ⟨"DesignTexts$Design", "many", "(I)I"⟩ cw_D_many rfl) rfl (am_gv wt_223 wt_85 wt_86 wt_87 wt_7) rfl (by decide +kernel) hrm (hR (by decide))) ?_
  refine am_cons (ar_icmp_ge C d_R_packedLines_51 (by decide)) ?_
  refine am_cons (ar_aload_n C d_R_packedLines_54 rfl) ?_
  refine am_cons (ar_getf C d_R_packedLines_55 (am_uc ft_Ru) rfl (by decide) (am_mc wt_181)) ?_
  refine am_cons (ar_iconst C d_R_packedLines_58 (by decide)) ?_
  refine am_cons (ar_icmp_ne C d_R_packedLines_59 (by decide)) ?_
  refine am_cons (ar_iinc C d_R_packedLines_62 (by decide)) ?_
  refine am_cons (ar_aload_n C d_R_packedLines_65 rfl) ?_
  refine am_cons (ar_iconst C d_R_packedLines_66 (by decide)) ?_
  refine am_cons (ar_iload C d_R_packedLines_67) ?_
  refine am_cons (ar_iload_n C d_R_packedLines_69 rfl) ?_
  refine am_cons (ar_callV C d_R_packedLines_70 (hce 11 ⟨"DesignTexts$Design", "set", "(III)V"⟩ cw_D_set rfl) rfl (am_gv wt_235 wt_146 wt_147 wt_87 wt_11) rfl (by decide +kernel) hrm (hR (by decide))) ?_
  refine am_cons (ar_aload_n C d_R_packedLines_73 rfl) ?_
  refine am_cons (ar_iconst C d_R_packedLines_74 (by decide)) ?_
  refine am_cons (ar_iload C d_R_packedLines_75) ?_
  refine am_cons (ar_aload_n C d_R_packedLines_77 rfl) ?_
  refine am_cons (ar_iload_n C d_R_packedLines_78 rfl) ?_
  refine am_cons (ar_callV C d_R_packedLines_79 (hce 56 ⟨"DesignTexts$TextReader", "number", "(I)I"⟩ cw_R_number rfl) rfl (am_gv wt_224 wt_225 wt_226 wt_189 wt_56) rfl (by decide +kernel) hrm (hR (by decide))) ?_
  refine am_cons (ar_callV C d_R_packedLines_82 (hce 11 ⟨"DesignTexts$Design", "set", "(III)V"⟩ cw_D_set rfl) rfl (am_gv wt_235 wt_146 wt_147 wt_87 wt_11) rfl (by decide +kernel) hrm (hR (by decide))) ?_
  refine am_cons (ar_aload_n C d_R_packedLines_85 rfl) ?_
  refine am_cons (ar_iconst C d_R_packedLines_86 (by decide)) ?_
  refine am_cons (ar_iload C d_R_packedLines_87) ?_
  refine am_cons (ar_aload_n C d_R_packedLines_89 rfl) ?_
  refine am_cons (ar_callV C d_R_packedLines_90 (hce 54 ⟨"DesignTexts$TextReader", "perhapsFirst", "()I"⟩ cw_R_perhapsFirst rfl) rfl (am_gv wt_239 wt_240 wt_241 wt_189 wt_54) rfl (by decide +kernel) hrm (hR (by decide))) ?_
  refine am_cons (ar_callV C d_R_packedLines_93 (hce 11 ⟨"DesignTexts$Design", "set", "(III)V"⟩ cw_D_set rfl) rfl (am_gv wt_235 wt_146 wt_147 wt_87 wt_11) rfl (by decide +kernel) hrm (hR (by decide))) ?_
  refine am_cons (ar_aload_n C d_R_packedLines_96 rfl) ?_
  refine am_cons (ar_bipush C d_R_packedLines_97 (by decide)) ?_
  refine am_cons (ar_callV C d_R_packedLines_99 (hce 59 ⟨"DesignTexts$TextReader", "expect", "(I)V"⟩ cw_R_expect rfl) rfl (am_gv wt_212 wt_213 wt_214 wt_189 wt_59) rfl (by decide +kernel) hrm (hR (by decide))) ?_
  refine am_cons (ar_iinc C d_R_packedLines_102 (by decide)) ?_
  refine am_cons (ar_goto C d_R_packedLines_105 (by decide)) ?_
  refine am_cons (ar_keep [0, 1, 2] (ar_iconst C d_R_packedLines_108 (by decide))) ?_
  refine am_cons (ar_istore C d_R_packedLines_109) ?_
  refine am_cons (ar_keep [0, 1, 2, 4] (ar_iload C d_R_packedLines_111)) ?_
  refine am_cons (ar_aload_n C d_R_packedLines_113 rfl) ?_
  refine am_cons (ar_iconst C d_R_packedLines_114 (by decide)) ?_
  refine am_cons (ar_callV C d_R_packedLines_115 (hce 7 ⟨"DesignTexts$Design", "many", "(I)I"⟩ cw_D_many rfl) rfl (am_gv wt_223 wt_85 wt_86 wt_87 wt_7) rfl (by decide +kernel) hrm (hR (by decide))) ?_
  refine am_cons (ar_icmp_ge C d_R_packedLines_118 (by decide)) ?_
  refine am_cons (ar_aload_n C d_R_packedLines_121 rfl) ?_
  refine am_cons (ar_getf C d_R_packedLines_122 (am_uc ft_Ru) rfl (by decide) (am_mc wt_181)) ?_
  refine am_cons (ar_iconst C d_R_packedLines_125 (by decide)) ?_
  refine am_cons (ar_icmp_ne C d_R_packedLines_126 (by decide)) ?_
  refine am_cons (ar_aload_n C d_R_packedLines_129 rfl) ?_
  refine am_cons (ar_iconst C d_R_packedLines_130 (by decide)) ?_
  refine am_cons (ar_iload C d_R_packedLines_131) ?_
  refine am_cons (ar_aload_n C d_R_packedLines_133 rfl) ?_
  refine am_cons (ar_iload_n C d_R_packedLines_134 rfl) ?_
  refine am_cons (ar_callV C d_R_packedLines_135 (hce 56 ⟨"DesignTexts$TextReader", "number", "(I)I"⟩ cw_R_number rfl) rfl (am_gv wt_224 wt_225 wt_226 wt_189 wt_56) rfl (by decide +kernel) hrm (hR (by decide))) ?_
  refine am_cons (ar_callV C d_R_packedLines_138 (hce 11 ⟨"DesignTexts$Design", "set", "(III)V"⟩ cw_D_set rfl) rfl (am_gv wt_235 wt_146 wt_147 wt_87 wt_11) rfl (by decide +kernel) hrm (hR (by decide))) ?_
  refine am_cons (ar_aload_n C d_R_packedLines_141 rfl) ?_
  refine am_cons (ar_bipush C d_R_packedLines_142 (by decide)) ?_
  refine am_cons (ar_callV C d_R_packedLines_144 (hce 59 ⟨"DesignTexts$TextReader", "expect", "(I)V"⟩ cw_R_expect rfl) rfl (am_gv wt_212 wt_213 wt_214 wt_189 wt_59) rfl (by decide +kernel) hrm (hR (by decide))) ?_
  refine am_cons (ar_iinc C d_R_packedLines_147 (by decide)) ?_
  refine am_cons (ar_goto C d_R_packedLines_150 (by decide)) ?_
  refine am_cons (ar_keep [] (ar_return C hr d_R_packedLines_153)) ?_
  exact am_nil
theorem sd_R_packedGates {p : Program} {l : Launch} {e : Env} {R : Room} {s : State} {m : MethodId} {args : Array Value} {below : List Frame} {meth : Method} {c : Code} {D : va_G} {ρ : Nat → Nat} {kc : Nat → ClassId} {len : Nat} {Qc : Array Value → State → Outcome → State → Prop} {call : am_C} {rm : Room} (C : am_Cx p R s m args meth c prog_5_method_7_code 6 cw_R_packedGates "DesignTexts$TextReader" D aCl ρ kc am_fts len) (hr : meth.sig.returnType = none)
    (hce : ∀ (id : Nat) (y : MethodName) (ws : List Cond), cPI[id]? = some (y, ws) → am_Ce l call rm D aCl ρ kc am_fts len id y ws) (hrm : rm.cells = 0 ∧ rm.slots = 0) (hR : ∀ {k : Nat}, k ≤ 21 → rm.frames + 1 ≤ R.frames ∧ 8 + (k + 11) + rm.locals ≤ R.locals) :
    ∀ q ∈ tb_R_packedGates call, am_Row (am_J p l e R s m args below meth c 6 D aCl ρ kc len (MQ below Qc args s 0 0 (am_A ρ len s.heap.size))) (am_K s args D aCl ρ kc len Qc) q.1 q.2 := by
  unfold tb_R_packedGates
  refine am_cons (ar_iconst C d_R_packedGates_0 (by decide)) ?_
  refine am_cons (ar_aload_n C d_R_packedGates_1 rfl) ?_
  refine am_cons (ar_iconst C d_R_packedGates_2 (by decide)) ?_
  refine am_cons (ar_callV C d_R_packedGates_3 (hce 7 ⟨"DesignTexts$Design", "many", "(I)I"⟩ cw_D_many rfl) rfl (am_gv wt_223 wt_85 wt_86 wt_87 wt_7) rfl (by decide +kernel) hrm (hR (by decide))) ?_
  refine am_cons (ar_aload_n C d_R_packedGates_6 rfl) ?_
  refine am_cons (ar_iconst C d_R_packedGates_7 (by decide)) ?_
  refine am_cons (ar_callV C d_R_packedGates_8 (hce 7 ⟨"DesignTexts$Design", "many", "(I)I"⟩ cw_D_many rfl) rfl (am_gv wt_223 wt_85 wt_86 wt_87 wt_7) rfl (by decide +kernel) hrm (hR (by decide))) ?_
  refine am_cons (ar_iadd C d_R_packedGates_11) ?_
  refine am_cons (ar_imul C d_R_packedGates_12) ?_
  refine am_cons (ar_istore_n C d_R_packedGates_13 rfl) ?_
  refine am_cons (ar_iconst C d_R_packedGates_14 (by decide)) ?_
  refine am_cons (ar_istore_n C d_R_packedGates_15 rfl) ?_
  refine am_cons (ar_keep [0, 1, 2, 3] (ar_iload_n C d_R_packedGates_16 rfl)) ?_
  refine am_cons (ar_aload_n C d_R_packedGates_17 rfl) ?_
  refine am_cons (ar_iconst C d_R_packedGates_18 (by decide)) ?_
  refine am_cons (ar_callV C d_R_packedGates_19 (hce 7 ⟨"DesignTexts$Design", "many", "(I)I"⟩ cw_D_many rfl) rfl (am_gv wt_223 wt_85 wt_86 wt_87 wt_7) rfl (by decide +kernel) hrm (hR (by decide))) ?_
  refine am_cons (ar_icmp_ge C d_R_packedGates_22 (by decide)) ?_
  refine am_cons (ar_aload_n C d_R_packedGates_25 rfl) ?_
  refine am_cons (ar_getf C d_R_packedGates_26 (am_uc ft_Ru) rfl (by decide) (am_mc wt_181)) ?_
  refine am_cons (ar_iconst C d_R_packedGates_29 (by decide)) ?_
  refine am_cons (ar_icmp_ne C d_R_packedGates_30 (by decide)) ?_
  refine am_cons (ar_iinc C d_R_packedGates_33 (by decide)) ?_
  refine am_cons (ar_iload_n C d_R_packedGates_36 rfl) ?_
  refine am_cons (ar_aload_n C d_R_packedGates_37 rfl) ?_
  refine am_cons (ar_iconst C d_R_packedGates_38 (by decide)) ?_
  refine am_cons (ar_iload_n C d_R_packedGates_39 rfl) ?_
  refine am_cons (ar_callV C d_R_packedGates_40 (hce 58 ⟨"DesignTexts$TextReader", "difference", "(II)I"⟩ cw_R_difference rfl) rfl (am_gv wt_243 wt_244 wt_245 wt_189 wt_58) rfl (by decide +kernel) hrm (hR (by decide))) ?_
  refine am_cons (ar_isub C d_R_packedGates_43) ?_
  refine am_cons (ar_istore C d_R_packedGates_44) ?_
  refine am_cons (ar_iload C d_R_packedGates_46) ?_
  refine am_cons (ar_aload_n C d_R_packedGates_48 rfl) ?_
  refine am_cons (ar_iconst C d_R_packedGates_49 (by decide)) ?_
  refine am_cons (ar_iload C d_R_packedGates_50) ?_
  refine am_cons (ar_callV C d_R_packedGates_52 (hce 58 ⟨"DesignTexts$TextReader", "difference", "(II)I"⟩ cw_R_difference rfl) rfl (am_gv wt_243 wt_244 wt_245 wt_189 wt_58) rfl (by decide +kernel) hrm (hR (by decide))) ?_
  refine am_cons (ar_isub C d_R_packedGates_55) ?_
  refine am_cons (ar_istore C d_R_packedGates_56) ?_
  refine am_cons (ar_aload_n C d_R_packedGates_58 rfl) ?_
  refine am_cons (ar_iconst C d_R_packedGates_59 (by decide)) ?_
  refine am_cons (ar_iload_n C d_R_packedGates_60 rfl) ?_
  refine am_cons (ar_iload_n C d_R_packedGates_61 rfl) ?_
  refine am_cons (ar_callV C d_R_packedGates_62 (hce 11 ⟨"DesignTexts$Design", "set", "(III)V"⟩ cw_D_set rfl) rfl (am_gv wt_235 wt_146 wt_147 wt_87 wt_11) rfl (by decide +kernel) hrm (hR (by decide))) ?_
  refine am_cons (ar_aload_n C d_R_packedGates_65 rfl) ?_
  refine am_cons (ar_bipush C d_R_packedGates_66 (by decide)) ?_
  refine am_cons (ar_iload_n C d_R_packedGates_68 rfl) ?_
  refine am_cons (ar_iload C d_R_packedGates_69) ?_
  refine am_cons (ar_callV C d_R_packedGates_71 (hce 11 ⟨"DesignTexts$Design", "set", "(III)V"⟩ cw_D_set rfl) rfl (am_gv wt_235 wt_146 wt_147 wt_87 wt_11) rfl (by decide +kernel) hrm (hR (by decide))) ?_
  refine am_cons (ar_aload_n C d_R_packedGates_74 rfl) ?_
  refine am_cons (ar_bipush C d_R_packedGates_75 (by decide)) ?_
  refine am_cons (ar_iload_n C d_R_packedGates_77 rfl) ?_
  refine am_cons (ar_iload C d_R_packedGates_78) ?_
  refine am_cons (ar_callV C d_R_packedGates_80 (hce 11 ⟨"DesignTexts$Design", "set", "(III)V"⟩ cw_D_set rfl) rfl (am_gv wt_235 wt_146 wt_147 wt_87 wt_11) rfl (by decide +kernel) hrm (hR (by decide))) ?_
  refine am_cons (ar_iinc C d_R_packedGates_83 (by decide)) ?_
  refine am_cons (ar_goto C d_R_packedGates_86 (by decide)) ?_
  refine am_cons (ar_keep [] (ar_return C hr d_R_packedGates_89)) ?_
  exact am_nil
theorem sd_R_closing {p : Program} {l : Launch} {e : Env} {R : Room} {s : State} {m : MethodId} {args : Array Value} {below : List Frame} {meth : Method} {c : Code} {D : va_G} {ρ : Nat → Nat} {kc : Nat → ClassId} {len : Nat} {Qc : Array Value → State → Outcome → State → Prop} {call : am_C} {rm : Room} (C : am_Cx p R s m args meth c prog_5_method_8_code 2 cw_R_closing "DesignTexts$TextReader" D aCl ρ kc am_fts len) (hr : meth.sig.returnType = none)
    (hce : ∀ (id : Nat) (y : MethodName) (ws : List Cond), cPI[id]? = some (y, ws) → am_Ce l call rm D aCl ρ kc am_fts len id y ws) (hrm : rm.cells = 0 ∧ rm.slots = 0) (hR : ∀ {k : Nat}, k ≤ 21 → rm.frames + 1 ≤ R.frames ∧ 8 + (k + 11) + rm.locals ≤ R.locals) :
    ∀ q ∈ tb_R_closing call, am_Row (am_J p l e R s m args below meth c 2 D aCl ρ kc len (MQ below Qc args s 0 0 (am_A ρ len s.heap.size))) (am_K s args D aCl ρ kc len Qc) q.1 q.2 := by
  unfold tb_R_closing
  refine am_cons (ar_aload_n C d_R_closing_0 rfl) ?_
  refine am_cons (ar_getf C d_R_closing_1 (am_uc ft_Ru) rfl (by decide) (am_mc wt_182)) ?_
  refine am_cons (ar_aload_n C d_R_closing_4 rfl) ?_
  refine am_cons (ar_getf C d_R_closing_5 (am_uc ft_Ru) rfl (by decide) (am_mc wt_180)) ?_
  refine am_cons (ar_callV C d_R_closing_8 (hce 3 ⟨"DesignTexts$Bytes", "at", "(I)I"⟩ cw_B_at rfl) rfl (am_gv wt_183 wt_184 wt_185 wt_173 wt_3) rfl (by decide +kernel) hrm (hR (by decide))) ?_
  refine am_cons (ar_istore_n C d_R_closing_11 rfl) ?_
  refine am_cons (ar_iload_n C d_R_closing_12 rfl) ?_
  refine am_cons (ar_iconst C d_R_closing_13 (by decide)) ?_
  refine am_cons (ar_icmp_eq C d_R_closing_14 (by decide)) ?_
  refine am_cons (ar_iload_n C d_R_closing_17 rfl) ?_
  refine am_cons (ar_bipush C d_R_closing_18 (by decide)) ?_
  refine am_cons (ar_icmp_eq C d_R_closing_20 (by decide)) ?_
  refine am_cons (ar_aload_n C d_R_closing_23 rfl) ?_
  refine am_cons (ar_aload_n C d_R_closing_24 rfl) ?_
  refine am_cons (ar_getf C d_R_closing_25 (am_uc ft_Ru) rfl (by decide) (am_mc wt_180)) ?_
  refine am_cons (ar_callV C d_R_closing_28 (hce 60 ⟨"DesignTexts$TextReader", "fail", "(I)V"⟩ cw_R_fail rfl) rfl (am_gv wt_227 wt_228 wt_229 wt_189 wt_60) rfl (by decide +kernel) hrm (hR (by decide))) ?_
  refine am_cons (ar_return C hr d_R_closing_31) ?_
  exact am_nil
theorem sd_R_findUndefined {p : Program} {l : Launch} {e : Env} {R : Room} {s : State} {m : MethodId} {args : Array Value} {below : List Frame} {meth : Method} {c : Code} {D : va_G} {ρ : Nat → Nat} {kc : Nat → ClassId} {len : Nat} {Qc : Array Value → State → Outcome → State → Prop} {call : am_C} {rm : Room} (C : am_Cx p R s m args meth c prog_5_method_9_code 3 cw_R_findUndefined "DesignTexts$TextReader" D aCl ρ kc am_fts len) (hr : meth.sig.returnType = none)
    (hce : ∀ (id : Nat) (y : MethodName) (ws : List Cond), cPI[id]? = some (y, ws) → am_Ce l call rm D aCl ρ kc am_fts len id y ws) (hrm : rm.cells = 0 ∧ rm.slots = 0) (hR : ∀ {k : Nat}, k ≤ 21 → rm.frames + 1 ≤ R.frames ∧ 8 + (k + 11) + rm.locals ≤ R.locals) :
    ∀ q ∈ tb_R_findUndefined call, am_Row (am_J p l e R s m args below meth c 3 D aCl ρ kc len (MQ below Qc args s 0 0 (am_A ρ len s.heap.size))) (am_K s args D aCl ρ kc len Qc) q.1 q.2 := by
  unfold tb_R_findUndefined
  refine am_cons (ar_iconst C d_R_findUndefined_0 (by decide)) ?_
  refine am_cons (ar_istore_n C d_R_findUndefined_1 rfl) ?_
  refine am_cons (ar_keep [0, 1] (ar_iload_n C d_R_findUndefined_2 rfl)) ?_
  refine am_cons (ar_aload_n C d_R_findUndefined_3 rfl) ?_
  refine am_cons (ar_getf C d_R_findUndefined_4 (am_uc ft_Ru) rfl (by decide) (am_mc wt_230)) ?_
  refine am_cons (ar_icmp_ge C d_R_findUndefined_7 (by decide)) ?_
  refine am_cons (ar_iload_n C d_R_findUndefined_10 rfl) ?_
  refine am_cons (ar_aload_n C d_R_findUndefined_11 rfl) ?_
  refine am_cons (ar_getf C d_R_findUndefined_12 (am_uc ft_Ru) rfl (by decide) (am_mc wt_246)) ?_
  refine am_cons (ar_alen C d_R_findUndefined_15) ?_
  refine am_cons (ar_icmp_ge C d_R_findUndefined_16 (by decide)) ?_
  refine am_cons (ar_iload_n C d_R_findUndefined_19 rfl) ?_
  refine am_cons (ar_aload_n C d_R_findUndefined_20 rfl) ?_
  refine am_cons (ar_getf C d_R_findUndefined_21 (am_uc ft_Ru) rfl (by decide) (am_mc wt_247)) ?_
  refine am_cons (ar_alen C d_R_findUndefined_24) ?_
  refine am_cons (ar_icmp_ge C d_R_findUndefined_25 (by decide)) ?_
  refine am_cons (ar_aload_n C d_R_findUndefined_28 rfl) ?_
  refine am_cons (ar_getf C d_R_findUndefined_29 (am_uc ft_Ru) rfl (by decide) (am_mc wt_246)) ?_
  refine am_cons (ar_iload_n C d_R_findUndefined_32 rfl) ?_
  refine am_cons (ar_iald C d_R_findUndefined_33 rfl) ?_
  refine am_cons (ar_iconst C d_R_findUndefined_34 (by decide)) ?_
  refine am_cons (ar_ishr C d_R_findUndefined_35) ?_
  refine am_cons (ar_istore_n C d_R_findUndefined_36 rfl) ?_
  refine am_cons (ar_iload_n C d_R_findUndefined_37 rfl) ?_
  refine am_cons (ar_if_le C d_R_findUndefined_38 (by decide)) ?_
  refine am_cons (ar_iload_n C d_R_findUndefined_41 rfl) ?_
  refine am_cons (ar_aload_n C d_R_findUndefined_42 rfl) ?_
  refine am_cons (ar_getf C d_R_findUndefined_43 (am_uc ft_Ru) rfl (by decide) (am_mc wt_231)) ?_
  refine am_cons (ar_alen C d_R_findUndefined_46) ?_
  refine am_cons (ar_icmp_ge C d_R_findUndefined_47 (by decide)) ?_
  refine am_cons (ar_aload_n C d_R_findUndefined_50 rfl) ?_
  refine am_cons (ar_getf C d_R_findUndefined_51 (am_uc ft_Ru) rfl (by decide) (am_mc wt_231)) ?_
  refine am_cons (ar_iload_n C d_R_findUndefined_54 rfl) ?_
  refine am_cons (ar_zald C d_R_findUndefined_55 rfl) ?_
  refine am_cons (ar_if_ne C d_R_findUndefined_56 (by decide)) ?_
  refine am_cons (ar_aload_n C d_R_findUndefined_59 rfl) ?_
  refine am_cons (ar_aload_n C d_R_findUndefined_60 rfl) ?_
  refine am_cons (ar_getf C d_R_findUndefined_61 (am_uc ft_Ru) rfl (by decide) (am_mc wt_247)) ?_
  refine am_cons (ar_iload_n C d_R_findUndefined_64 rfl) ?_
  refine am_cons (ar_iald C d_R_findUndefined_65 rfl) ?_
  refine am_cons (ar_callV C d_R_findUndefined_66 (hce 60 ⟨"DesignTexts$TextReader", "fail", "(I)V"⟩ cw_R_fail rfl) rfl (am_gv wt_227 wt_228 wt_229 wt_189 wt_60) rfl (by decide +kernel) hrm (hR (by decide))) ?_
  refine am_cons (ar_iinc C d_R_findUndefined_69 (by decide)) ?_
  refine am_cons (ar_goto C d_R_findUndefined_72 (by decide)) ?_
  refine am_cons (ar_keep [] (ar_return C hr d_R_findUndefined_75)) ?_
  exact am_nil
theorem sd_R_findRound {p : Program} {l : Launch} {e : Env} {R : Room} {s : State} {m : MethodId} {args : Array Value} {below : List Frame} {meth : Method} {c : Code} {D : va_G} {ρ : Nat → Nat} {kc : Nat → ClassId} {len : Nat} {Qc : Array Value → State → Outcome → State → Prop} {call : am_C} {rm : Room} (C : am_Cx p R s m args meth c prog_5_method_10_code 5 cw_R_findRound "DesignTexts$TextReader" D aCl ρ kc am_fts len) (hr : meth.sig.returnType = none)
    (hce : ∀ (id : Nat) (y : MethodName) (ws : List Cond), cPI[id]? = some (y, ws) → am_Ce l call rm D aCl ρ kc am_fts len id y ws) (hrm : rm.cells = 0 ∧ rm.slots = 0) (hR : ∀ {k : Nat}, k ≤ 21 → rm.frames + 1 ≤ R.frames ∧ 8 + (k + 11) + rm.locals ≤ R.locals) :
    ∀ q ∈ tb_R_findRound call, am_Row (am_J p l e R s m args below meth c 5 D aCl ρ kc len (MQ below Qc args s 0 0 (am_A ρ len s.heap.size))) (am_K s args D aCl ρ kc len Qc) q.1 q.2 := by
  unfold tb_R_findRound
  refine am_cons (ar_aload_n C d_R_findRound_0 rfl) ?_
  refine am_cons (ar_iconst C d_R_findRound_1 (by decide)) ?_
  refine am_cons (ar_callV C d_R_findRound_2 (hce 7 ⟨"DesignTexts$Design", "many", "(I)I"⟩ cw_D_many rfl) rfl (am_gv wt_223 wt_85 wt_86 wt_87 wt_7) rfl (by decide +kernel) hrm (hR (by decide))) ?_
  refine am_cons (ar_aload_n C d_R_findRound_5 rfl) ?_
  refine am_cons (ar_getf C d_R_findRound_6 (am_uc ft_Ru) rfl (by decide) (am_mc wt_248)) ?_
  refine am_cons (ar_alen C d_R_findRound_9) ?_
  refine am_cons (ar_mmin C d_R_findRound_10 (am_mc wt_249) (am_mc wt_78) (am_mc wt_79) (am_mc wt_80)) ?_
  refine am_cons (ar_istore_n C d_R_findRound_13 rfl) ?_
  refine am_cons (ar_aload_n C d_R_findRound_14 rfl) ?_
  refine am_cons (ar_aload_n C d_R_findRound_15 rfl) ?_
  refine am_cons (ar_iload_n C d_R_findRound_16 rfl) ?_
  refine am_cons (ar_callV C d_R_findRound_17 (hce 50 ⟨"DesignTexts$TextReader", "noteWhatGatesRestOn", "(LDesignTexts$Design;I)V"⟩ cw_R_noteWhatGatesRestOn rfl) rfl (am_gv wt_250 wt_251 wt_252 wt_189 wt_50) rfl (by decide +kernel) hrm (hR (by decide))) ?_
  refine am_cons (ar_iconst C d_R_findRound_20 (by decide)) ?_
  refine am_cons (ar_istore_n C d_R_findRound_21 rfl) ?_
  refine am_cons (ar_keep [0, 2, 3] (ar_iload_n C d_R_findRound_22 rfl)) ?_
  refine am_cons (ar_iload_n C d_R_findRound_23 rfl) ?_
  refine am_cons (ar_icmp_ge C d_R_findRound_24 (by decide)) ?_
  refine am_cons (ar_iconst C d_R_findRound_27 (by decide)) ?_
  refine am_cons (ar_istore C d_R_findRound_28) ?_
  refine am_cons (ar_keep [0, 2, 3, 4] (ar_iload C d_R_findRound_30)) ?_
  refine am_cons (ar_iload_n C d_R_findRound_32 rfl) ?_
  refine am_cons (ar_icmp_ge C d_R_findRound_33 (by decide)) ?_
  refine am_cons (ar_aload_n C d_R_findRound_36 rfl) ?_
  refine am_cons (ar_getf C d_R_findRound_37 (am_uc ft_Ru) rfl (by decide) (am_mc wt_248)) ?_
  refine am_cons (ar_iload C d_R_findRound_40) ?_
  refine am_cons (ar_lald C d_R_findRound_42 rfl) ?_
  refine am_cons (ar_iload_n C d_R_findRound_43 rfl) ?_
  refine am_cons (ar_lushr C d_R_findRound_44) ?_
  refine am_cons (ar_lconst C d_R_findRound_45 (by decide)) ?_
  refine am_cons (ar_land C d_R_findRound_46) ?_
  refine am_cons (ar_lconst C d_R_findRound_47 (by decide)) ?_
  refine am_cons (ar_lcmp C d_R_findRound_48) ?_
  refine am_cons (ar_if_eq C d_R_findRound_49 (by decide)) ?_
  refine am_cons (ar_aload_n C d_R_findRound_52 rfl) ?_
  refine am_cons (ar_getf C d_R_findRound_53 (am_uc ft_Ru) rfl (by decide) (am_mc wt_248)) ?_
  refine am_cons (ar_iload C d_R_findRound_56) ?_
  refine am_cons (ar_dup2_11 C d_R_findRound_58) ?_
  refine am_cons (ar_lald C d_R_findRound_59 rfl) ?_
  refine am_cons (ar_aload_n C d_R_findRound_60 rfl) ?_
  refine am_cons (ar_getf C d_R_findRound_61 (am_uc ft_Ru) rfl (by decide) (am_mc wt_248)) ?_
  refine am_cons (ar_iload_n C d_R_findRound_64 rfl) ?_
  refine am_cons (ar_lald C d_R_findRound_65 rfl) ?_
  refine am_cons (ar_lor C d_R_findRound_66) ?_
  refine am_cons (ar_last C d_R_findRound_67 rfl) ?_
  refine am_cons (ar_iinc C d_R_findRound_68 (by decide)) ?_
  refine am_cons (ar_goto C d_R_findRound_71 (by decide)) ?_
  refine am_cons (ar_keep [0, 2, 3] (ar_iinc C d_R_findRound_74 (by decide))) ?_
  refine am_cons (ar_goto C d_R_findRound_77 (by decide)) ?_
  refine am_cons (ar_keep [0, 2] (ar_iconst C d_R_findRound_80 (by decide))) ?_
  refine am_cons (ar_istore_n C d_R_findRound_81 rfl) ?_
  refine am_cons (ar_keep [0, 2, 3] (ar_iload_n C d_R_findRound_82 rfl)) ?_
  refine am_cons (ar_iload_n C d_R_findRound_83 rfl) ?_
  refine am_cons (ar_icmp_ge C d_R_findRound_84 (by decide)) ?_
  refine am_cons (ar_iload_n C d_R_findRound_87 rfl) ?_
  refine am_cons (ar_aload_n C d_R_findRound_88 rfl) ?_
  refine am_cons (ar_getf C d_R_findRound_89 (am_uc ft_Ru) rfl (by decide) (am_mc wt_242)) ?_
  refine am_cons (ar_alen C d_R_findRound_92) ?_
  refine am_cons (ar_icmp_ge C d_R_findRound_93 (by decide)) ?_
  refine am_cons (ar_aload_n C d_R_findRound_96 rfl) ?_
  refine am_cons (ar_getf C d_R_findRound_97 (am_uc ft_Ru) rfl (by decide) (am_mc wt_248)) ?_
  refine am_cons (ar_iload_n C d_R_findRound_100 rfl) ?_
  refine am_cons (ar_lald C d_R_findRound_101 rfl) ?_
  refine am_cons (ar_iload_n C d_R_findRound_102 rfl) ?_
  refine am_cons (ar_lushr C d_R_findRound_103) ?_
  refine am_cons (ar_lconst C d_R_findRound_104 (by decide)) ?_
  refine am_cons (ar_land C d_R_findRound_105) ?_
  refine am_cons (ar_lconst C d_R_findRound_106 (by decide)) ?_
  refine am_cons (ar_lcmp C d_R_findRound_107) ?_
  refine am_cons (ar_if_eq C d_R_findRound_108 (by decide)) ?_
  refine am_cons (ar_aload_n C d_R_findRound_111 rfl) ?_
  refine am_cons (ar_aload_n C d_R_findRound_112 rfl) ?_
  refine am_cons (ar_getf C d_R_findRound_113 (am_uc ft_Ru) rfl (by decide) (am_mc wt_242)) ?_
  refine am_cons (ar_iload_n C d_R_findRound_116 rfl) ?_
  refine am_cons (ar_iald C d_R_findRound_117 rfl) ?_
  refine am_cons (ar_callV C d_R_findRound_118 (hce 60 ⟨"DesignTexts$TextReader", "fail", "(I)V"⟩ cw_R_fail rfl) rfl (am_gv wt_227 wt_228 wt_229 wt_189 wt_60) rfl (by decide +kernel) hrm (hR (by decide))) ?_
  refine am_cons (ar_iinc C d_R_findRound_121 (by decide)) ?_
  refine am_cons (ar_goto C d_R_findRound_124 (by decide)) ?_
  refine am_cons (ar_keep [] (ar_return C hr d_R_findRound_127)) ?_
  exact am_nil
theorem sd_R_noteWhatGatesRestOn {p : Program} {l : Launch} {e : Env} {R : Room} {s : State} {m : MethodId} {args : Array Value} {below : List Frame} {meth : Method} {c : Code} {D : va_G} {ρ : Nat → Nat} {kc : Nat → ClassId} {len : Nat} {Qc : Array Value → State → Outcome → State → Prop} {call : am_C} {rm : Room} (C : am_Cx p R s m args meth c prog_5_method_11_code 5 cw_R_noteWhatGatesRestOn "DesignTexts$TextReader" D aCl ρ kc am_fts len) (hr : meth.sig.returnType = none)
    (hce : ∀ (id : Nat) (y : MethodName) (ws : List Cond), cPI[id]? = some (y, ws) → am_Ce l call rm D aCl ρ kc am_fts len id y ws) (hrm : rm.cells = 0 ∧ rm.slots = 0) (hR : ∀ {k : Nat}, k ≤ 21 → rm.frames + 1 ≤ R.frames ∧ 8 + (k + 11) + rm.locals ≤ R.locals) :
    ∀ q ∈ tb_R_noteWhatGatesRestOn call, am_Row (am_J p l e R s m args below meth c 5 D aCl ρ kc len (MQ below Qc args s 0 0 (am_A ρ len s.heap.size))) (am_K s args D aCl ρ kc len Qc) q.1 q.2 := by
  unfold tb_R_noteWhatGatesRestOn
  refine am_cons (ar_iconst C d_R_noteWhatGatesRestOn_0 (by decide)) ?_
  refine am_cons (ar_istore_n C d_R_noteWhatGatesRestOn_1 rfl) ?_
  refine am_cons (ar_keep [0, 1, 2, 3] (ar_iload_n C d_R_noteWhatGatesRestOn_2 rfl)) ?_
  refine am_cons (ar_aload_n C d_R_noteWhatGatesRestOn_3 rfl) ?_
  refine am_cons (ar_getf C d_R_noteWhatGatesRestOn_4 (am_uc ft_Ru) rfl (by decide) (am_mc wt_253)) ?_
  refine am_cons (ar_alen C d_R_noteWhatGatesRestOn_7) ?_
  refine am_cons (ar_icmp_ge C d_R_noteWhatGatesRestOn_8 (by decide)) ?_
  refine am_cons (ar_aload_n C d_R_noteWhatGatesRestOn_11 rfl) ?_
  refine am_cons (ar_getf C d_R_noteWhatGatesRestOn_12 (am_uc ft_Ru) rfl (by decide) (am_mc wt_253)) ?_
  refine am_cons (ar_iload_n C d_R_noteWhatGatesRestOn_15 rfl) ?_
  refine am_cons (ar_lconst C d_R_noteWhatGatesRestOn_16 (by decide)) ?_
  refine am_cons (ar_last C d_R_noteWhatGatesRestOn_17 rfl) ?_
  refine am_cons (ar_iinc C d_R_noteWhatGatesRestOn_18 (by decide)) ?_
  refine am_cons (ar_goto C d_R_noteWhatGatesRestOn_21 (by decide)) ?_
  refine am_cons (ar_keep [0, 1, 2] (ar_iconst C d_R_noteWhatGatesRestOn_24 (by decide))) ?_
  refine am_cons (ar_istore_n C d_R_noteWhatGatesRestOn_25 rfl) ?_
  refine am_cons (ar_keep [0, 1, 2, 3] (ar_iload_n C d_R_noteWhatGatesRestOn_26 rfl)) ?_
  refine am_cons (ar_iload_n C d_R_noteWhatGatesRestOn_27 rfl) ?_
  refine am_cons (ar_icmp_ge C d_R_noteWhatGatesRestOn_28 (by decide)) ?_
  refine am_cons (ar_aload_n C d_R_noteWhatGatesRestOn_31 rfl) ?_
  refine am_cons (ar_iconst C d_R_noteWhatGatesRestOn_32 (by decide)) ?_
  refine am_cons (ar_iload_n C d_R_noteWhatGatesRestOn_33 rfl) ?_
  refine am_cons (ar_callV C d_R_noteWhatGatesRestOn_34 (hce 10 ⟨"DesignTexts$Design", "get", "(II)I"⟩ cw_D_get rfl) rfl (am_gv wt_254 wt_90 wt_91 wt_87 wt_10) rfl (by decide +kernel) hrm (hR (by decide))) ?_
  refine am_cons (ar_iconst C d_R_noteWhatGatesRestOn_37 (by decide)) ?_
  refine am_cons (ar_ishr C d_R_noteWhatGatesRestOn_38) ?_
  refine am_cons (ar_istore C d_R_noteWhatGatesRestOn_39) ?_
  refine am_cons (ar_iload C d_R_noteWhatGatesRestOn_41) ?_
  refine am_cons (ar_if_lt C d_R_noteWhatGatesRestOn_43 (by decide)) ?_
  refine am_cons (ar_iload C d_R_noteWhatGatesRestOn_46) ?_
  refine am_cons (ar_aload_n C d_R_noteWhatGatesRestOn_48 rfl) ?_
  refine am_cons (ar_getf C d_R_noteWhatGatesRestOn_49 (am_uc ft_Ru) rfl (by decide) (am_mc wt_253)) ?_
  refine am_cons (ar_alen C d_R_noteWhatGatesRestOn_52) ?_
  refine am_cons (ar_icmp_ge C d_R_noteWhatGatesRestOn_53 (by decide)) ?_
  refine am_cons (ar_aload_n C d_R_noteWhatGatesRestOn_56 rfl) ?_
  refine am_cons (ar_getf C d_R_noteWhatGatesRestOn_57 (am_uc ft_Ru) rfl (by decide) (am_mc wt_253)) ?_
  refine am_cons (ar_iload C d_R_noteWhatGatesRestOn_60) ?_
  refine am_cons (ar_lconst C d_R_noteWhatGatesRestOn_62 (by decide)) ?_
  refine am_cons (ar_iload_n C d_R_noteWhatGatesRestOn_63 rfl) ?_
  refine am_cons (ar_lshl C d_R_noteWhatGatesRestOn_64) ?_
  refine am_cons (ar_last C d_R_noteWhatGatesRestOn_65 rfl) ?_
  refine am_cons (ar_iinc C d_R_noteWhatGatesRestOn_66 (by decide)) ?_
  refine am_cons (ar_goto C d_R_noteWhatGatesRestOn_69 (by decide)) ?_
  refine am_cons (ar_keep [0, 1, 2] (ar_iconst C d_R_noteWhatGatesRestOn_72 (by decide))) ?_
  refine am_cons (ar_istore_n C d_R_noteWhatGatesRestOn_73 rfl) ?_
  refine am_cons (ar_keep [0, 1, 2, 3] (ar_iload_n C d_R_noteWhatGatesRestOn_74 rfl)) ?_
  refine am_cons (ar_iload_n C d_R_noteWhatGatesRestOn_75 rfl) ?_
  refine am_cons (ar_icmp_ge C d_R_noteWhatGatesRestOn_76 (by decide)) ?_
  refine am_cons (ar_iload_n C d_R_noteWhatGatesRestOn_79 rfl) ?_
  refine am_cons (ar_aload_n C d_R_noteWhatGatesRestOn_80 rfl) ?_
  refine am_cons (ar_getf C d_R_noteWhatGatesRestOn_81 (am_uc ft_Ru) rfl (by decide) (am_mc wt_248)) ?_
  refine am_cons (ar_alen C d_R_noteWhatGatesRestOn_84) ?_
  refine am_cons (ar_icmp_ge C d_R_noteWhatGatesRestOn_85 (by decide)) ?_
  refine am_cons (ar_aload_n C d_R_noteWhatGatesRestOn_88 rfl) ?_
  refine am_cons (ar_getf C d_R_noteWhatGatesRestOn_89 (am_uc ft_Ru) rfl (by decide) (am_mc wt_248)) ?_
  refine am_cons (ar_iload_n C d_R_noteWhatGatesRestOn_92 rfl) ?_
  refine am_cons (ar_aload_n C d_R_noteWhatGatesRestOn_93 rfl) ?_
  refine am_cons (ar_aload_n C d_R_noteWhatGatesRestOn_94 rfl) ?_
  refine am_cons (ar_bipush C d_R_noteWhatGatesRestOn_95 (by decide)) ?_
  refine am_cons (ar_iload_n C d_R_noteWhatGatesRestOn_97 rfl) ?_
  refine am_cons (ar_callV C d_R_noteWhatGatesRestOn_98 (hce 10 ⟨"DesignTexts$Design", "get", "(II)I"⟩ cw_D_get rfl) rfl (am_gv wt_254 wt_90 wt_91 wt_87 wt_10) rfl (by decide +kernel) hrm (hR (by decide))) ?_
  refine am_cons (ar_callV C d_R_noteWhatGatesRestOn_101 (hce 51 ⟨"DesignTexts$TextReader", "gateBit", "(I)J"⟩ cw_R_gateBit rfl) rfl (am_gv wt_255 wt_256 wt_257 wt_189 wt_51) rfl (by decide +kernel) hrm (hR (by decide))) ?_
  refine am_cons (ar_aload_n C d_R_noteWhatGatesRestOn_104 rfl) ?_
  refine am_cons (ar_aload_n C d_R_noteWhatGatesRestOn_105 rfl) ?_
  refine am_cons (ar_bipush C d_R_noteWhatGatesRestOn_106 (by decide)) ?_
  refine am_cons (ar_iload_n C d_R_noteWhatGatesRestOn_108 rfl) ?_
  refine am_cons (ar_callV C d_R_noteWhatGatesRestOn_109 (hce 10 ⟨"DesignTexts$Design", "get", "(II)I"⟩ cw_D_get rfl) rfl (am_gv wt_254 wt_90 wt_91 wt_87 wt_10) rfl (by decide +kernel) hrm (hR (by decide))) ?_
  refine am_cons (ar_callV C d_R_noteWhatGatesRestOn_112 (hce 51 ⟨"DesignTexts$TextReader", "gateBit", "(I)J"⟩ cw_R_gateBit rfl) rfl (am_gv wt_255 wt_256 wt_257 wt_189 wt_51) rfl (by decide +kernel) hrm (hR (by decide))) ?_
  refine am_cons (ar_lor C d_R_noteWhatGatesRestOn_115) ?_
  refine am_cons (ar_last C d_R_noteWhatGatesRestOn_116 rfl) ?_
  refine am_cons (ar_iinc C d_R_noteWhatGatesRestOn_117 (by decide)) ?_
  refine am_cons (ar_goto C d_R_noteWhatGatesRestOn_120 (by decide)) ?_
  refine am_cons (ar_keep [] (ar_return C hr d_R_noteWhatGatesRestOn_123)) ?_
  exact am_nil
theorem sd_R_gateBit {p : Program} {l : Launch} {e : Env} {R : Room} {s : State} {m : MethodId} {args : Array Value} {below : List Frame} {meth : Method} {c : Code} {D : va_G} {ρ : Nat → Nat} {kc : Nat → ClassId} {len : Nat} {Qc : Array Value → State → Outcome → State → Prop} {call : am_C} {rm : Room} (C : am_Cx p R s m args meth c prog_5_method_12_code 3 cw_R_gateBit "DesignTexts$TextReader" D aCl ρ kc am_fts len) (hr : meth.sig.returnType = some .long)
    (hce : ∀ (id : Nat) (y : MethodName) (ws : List Cond), cPI[id]? = some (y, ws) → am_Ce l call rm D aCl ρ kc am_fts len id y ws) (hrm : rm.cells = 0 ∧ rm.slots = 0) (hR : ∀ {k : Nat}, k ≤ 21 → rm.frames + 1 ≤ R.frames ∧ 8 + (k + 11) + rm.locals ≤ R.locals) :
    ∀ q ∈ tb_R_gateBit call, am_Row (am_J p l e R s m args below meth c 3 D aCl ρ kc len (MQ below Qc args s 0 0 (am_A ρ len s.heap.size))) (am_K s args D aCl ρ kc len Qc) q.1 q.2 := by
  unfold tb_R_gateBit
  refine am_cons (ar_iload_n C d_R_gateBit_0 rfl) ?_
  refine am_cons (ar_iconst C d_R_gateBit_1 (by decide)) ?_
  refine am_cons (ar_ishr C d_R_gateBit_2) ?_
  refine am_cons (ar_istore_n C d_R_gateBit_3 rfl) ?_
  refine am_cons (ar_iload_n C d_R_gateBit_4 rfl) ?_
  refine am_cons (ar_if_lt C d_R_gateBit_5 (by decide)) ?_
  refine am_cons (ar_iload_n C d_R_gateBit_8 rfl) ?_
  refine am_cons (ar_aload_n C d_R_gateBit_9 rfl) ?_
  refine am_cons (ar_getf C d_R_gateBit_10 (am_uc ft_Ru) rfl (by decide) (am_mc wt_253)) ?_
  refine am_cons (ar_alen C d_R_gateBit_13) ?_
  refine am_cons (ar_icmp_ge C d_R_gateBit_14 (by decide)) ?_
  refine am_cons (ar_aload_n C d_R_gateBit_17 rfl) ?_
  refine am_cons (ar_getf C d_R_gateBit_18 (am_uc ft_Ru) rfl (by decide) (am_mc wt_253)) ?_
  refine am_cons (ar_iload_n C d_R_gateBit_21 rfl) ?_
  refine am_cons (ar_lald C d_R_gateBit_22 rfl) ?_
  refine am_cons (ar_goto C d_R_gateBit_23 (by decide)) ?_
  refine am_cons (ar_lconst C d_R_gateBit_26 (by decide)) ?_
  refine am_cons (ar_lreturn C hr d_R_gateBit_27) ?_
  exact am_nil
theorem sd_R_definition {p : Program} {l : Launch} {e : Env} {R : Room} {s : State} {m : MethodId} {args : Array Value} {below : List Frame} {meth : Method} {c : Code} {D : va_G} {ρ : Nat → Nat} {kc : Nat → ClassId} {len : Nat} {Qc : Array Value → State → Outcome → State → Prop} {call : am_C} {rm : Room} (C : am_Cx p R s m args meth c prog_5_method_13_code 5 cw_R_definition "DesignTexts$TextReader" D aCl ρ kc am_fts len) (hr : meth.sig.returnType = some .int)
    (hce : ∀ (id : Nat) (y : MethodName) (ws : List Cond), cPI[id]? = some (y, ws) → am_Ce l call rm D aCl ρ kc am_fts len id y ws) (hrm : rm.cells = 0 ∧ rm.slots = 0) (hR : ∀ {k : Nat}, k ≤ 21 → rm.frames + 1 ≤ R.frames ∧ 8 + (k + 11) + rm.locals ≤ R.locals) :
    ∀ q ∈ tb_R_definition call, am_Row (am_J p l e R s m args below meth c 5 D aCl ρ kc len (MQ below Qc args s 0 0 (am_A ρ len s.heap.size))) (am_K s args D aCl ρ kc len Qc) q.1 q.2 := by
  unfold tb_R_definition
  refine am_cons (ar_aload_n C d_R_definition_0 rfl) ?_
  refine am_cons (ar_getf C d_R_definition_1 (am_uc ft_Ru) rfl (by decide) (am_mc wt_180)) ?_
  refine am_cons (ar_istore_n C d_R_definition_4 rfl) ?_
  refine am_cons (ar_aload_n C d_R_definition_5 rfl) ?_
  refine am_cons (ar_iload_n C d_R_definition_6 rfl) ?_
  refine am_cons (ar_callV C d_R_definition_7 (hce 56 ⟨"DesignTexts$TextReader", "number", "(I)I"⟩ cw_R_number rfl) rfl (am_gv wt_224 wt_225 wt_226 wt_189 wt_56) rfl (by decide +kernel) hrm (hR (by decide))) ?_
  refine am_cons (ar_istore_n C d_R_definition_10 rfl) ?_
  refine am_cons (ar_iload_n C d_R_definition_11 rfl) ?_
  refine am_cons (ar_iconst C d_R_definition_12 (by decide)) ?_
  refine am_cons (ar_ishr C d_R_definition_13) ?_
  refine am_cons (ar_istore C d_R_definition_14) ?_
  refine am_cons (ar_iload C d_R_definition_16) ?_
  refine am_cons (ar_if_le C d_R_definition_18 (by decide)) ?_
  refine am_cons (ar_iload C d_R_definition_21) ?_
  refine am_cons (ar_aload_n C d_R_definition_23 rfl) ?_
  refine am_cons (ar_getf C d_R_definition_24 (am_uc ft_Ru) rfl (by decide) (am_mc wt_231)) ?_
  refine am_cons (ar_alen C d_R_definition_27) ?_
  refine am_cons (ar_icmp_ge C d_R_definition_28 (by decide)) ?_
  refine am_cons (ar_iload_n C d_R_definition_31 rfl) ?_
  refine am_cons (ar_iconst C d_R_definition_32 (by decide)) ?_
  refine am_cons (ar_iand C d_R_definition_33) ?_
  refine am_cons (ar_if_ne C d_R_definition_34 (by decide)) ?_
  refine am_cons (ar_aload_n C d_R_definition_37 rfl) ?_
  refine am_cons (ar_getf C d_R_definition_38 (am_uc ft_Ru) rfl (by decide) (am_mc wt_231)) ?_
  refine am_cons (ar_iload C d_R_definition_41) ?_
  refine am_cons (ar_zald C d_R_definition_43 rfl) ?_
  refine am_cons (ar_if_eq C d_R_definition_44 (by decide)) ?_
  refine am_cons (ar_keep [0, 2] (ar_aload_n C d_R_definition_47 rfl)) ?_
  refine am_cons (ar_iload_n C d_R_definition_48 rfl) ?_
  refine am_cons (ar_callV C d_R_definition_49 (hce 60 ⟨"DesignTexts$TextReader", "fail", "(I)V"⟩ cw_R_fail rfl) rfl (am_gv wt_227 wt_228 wt_229 wt_189 wt_60) rfl (by decide +kernel) hrm (hR (by decide))) ?_
  refine am_cons (ar_iconst C d_R_definition_52 (by decide)) ?_
  refine am_cons (ar_ireturn C hr d_R_definition_53) ?_
  refine am_cons (ar_aload_n C d_R_definition_54 rfl) ?_
  refine am_cons (ar_getf C d_R_definition_55 (am_uc ft_Ru) rfl (by decide) (am_mc wt_231)) ?_
  refine am_cons (ar_iload C d_R_definition_58) ?_
  refine am_cons (ar_iconst C d_R_definition_60 (by decide)) ?_
  refine am_cons (ar_zast C d_R_definition_61 rfl) ?_
  refine am_cons (ar_iload_n C d_R_definition_62 rfl) ?_
  refine am_cons (ar_ireturn C hr d_R_definition_63) ?_
  exact am_nil
theorem sd_R_use {p : Program} {l : Launch} {e : Env} {R : Room} {s : State} {m : MethodId} {args : Array Value} {below : List Frame} {meth : Method} {c : Code} {D : va_G} {ρ : Nat → Nat} {kc : Nat → ClassId} {len : Nat} {Qc : Array Value → State → Outcome → State → Prop} {call : am_C} {rm : Room} (C : am_Cx p R s m args meth c prog_5_method_14_code 4 cw_R_use "DesignTexts$TextReader" D aCl ρ kc am_fts len) (hr : meth.sig.returnType = some .int)
    (hce : ∀ (id : Nat) (y : MethodName) (ws : List Cond), cPI[id]? = some (y, ws) → am_Ce l call rm D aCl ρ kc am_fts len id y ws) (hrm : rm.cells = 0 ∧ rm.slots = 0) (hR : ∀ {k : Nat}, k ≤ 21 → rm.frames + 1 ≤ R.frames ∧ 8 + (k + 11) + rm.locals ≤ R.locals) :
    ∀ q ∈ tb_R_use call, am_Row (am_J p l e R s m args below meth c 4 D aCl ρ kc len (MQ below Qc args s 0 0 (am_A ρ len s.heap.size))) (am_K s args D aCl ρ kc len Qc) q.1 q.2 := by
  unfold tb_R_use
  refine am_cons (ar_aload_n C d_R_use_0 rfl) ?_
  refine am_cons (ar_getf C d_R_use_1 (am_uc ft_Ru) rfl (by decide) (am_mc wt_180)) ?_
  refine am_cons (ar_istore_n C d_R_use_4 rfl) ?_
  refine am_cons (ar_aload_n C d_R_use_5 rfl) ?_
  refine am_cons (ar_iload_n C d_R_use_6 rfl) ?_
  refine am_cons (ar_callV C d_R_use_7 (hce 56 ⟨"DesignTexts$TextReader", "number", "(I)I"⟩ cw_R_number rfl) rfl (am_gv wt_224 wt_225 wt_226 wt_189 wt_56) rfl (by decide +kernel) hrm (hR (by decide))) ?_
  refine am_cons (ar_istore_n C d_R_use_10 rfl) ?_
  refine am_cons (ar_aload_n C d_R_use_11 rfl) ?_
  refine am_cons (ar_getf C d_R_use_12 (am_uc ft_Ru) rfl (by decide) (am_mc wt_230)) ?_
  refine am_cons (ar_if_lt C d_R_use_15 (by decide)) ?_
  refine am_cons (ar_aload_n C d_R_use_18 rfl) ?_
  refine am_cons (ar_getf C d_R_use_19 (am_uc ft_Ru) rfl (by decide) (am_mc wt_230)) ?_
  refine am_cons (ar_aload_n C d_R_use_22 rfl) ?_
  refine am_cons (ar_getf C d_R_use_23 (am_uc ft_Ru) rfl (by decide) (am_mc wt_246)) ?_
  refine am_cons (ar_alen C d_R_use_26) ?_
  refine am_cons (ar_icmp_ge C d_R_use_27 (by decide)) ?_
  refine am_cons (ar_aload_n C d_R_use_30 rfl) ?_
  refine am_cons (ar_getf C d_R_use_31 (am_uc ft_Ru) rfl (by decide) (am_mc wt_230)) ?_
  refine am_cons (ar_aload_n C d_R_use_34 rfl) ?_
  refine am_cons (ar_getf C d_R_use_35 (am_uc ft_Ru) rfl (by decide) (am_mc wt_247)) ?_
  refine am_cons (ar_alen C d_R_use_38) ?_
  refine am_cons (ar_icmp_ge C d_R_use_39 (by decide)) ?_
  refine am_cons (ar_aload_n C d_R_use_42 rfl) ?_
  refine am_cons (ar_getf C d_R_use_43 (am_uc ft_Ru) rfl (by decide) (am_mc wt_246)) ?_
  refine am_cons (ar_aload_n C d_R_use_46 rfl) ?_
  refine am_cons (ar_getf C d_R_use_47 (am_uc ft_Ru) rfl (by decide) (am_mc wt_230)) ?_
  refine am_cons (ar_iload_n C d_R_use_50 rfl) ?_
  refine am_cons (ar_iast C d_R_use_51 rfl) ?_
  refine am_cons (ar_aload_n C d_R_use_52 rfl) ?_
  refine am_cons (ar_getf C d_R_use_53 (am_uc ft_Ru) rfl (by decide) (am_mc wt_247)) ?_
  refine am_cons (ar_aload_n C d_R_use_56 rfl) ?_
  refine am_cons (ar_getf C d_R_use_57 (am_uc ft_Ru) rfl (by decide) (am_mc wt_230)) ?_
  refine am_cons (ar_iload_n C d_R_use_60 rfl) ?_
  refine am_cons (ar_iast C d_R_use_61 rfl) ?_
  refine am_cons (ar_aload_n C d_R_use_62 rfl) ?_
  refine am_cons (ar_dup C d_R_use_63) ?_
  refine am_cons (ar_getf C d_R_use_64 (am_uc ft_Ru) rfl (by decide) (am_mc wt_230)) ?_
  refine am_cons (ar_iconst C d_R_use_67 (by decide)) ?_
  refine am_cons (ar_iadd C d_R_use_68) ?_
  refine am_cons (ar_putI C d_R_use_69 (am_uc ft_Ru) ft_Ro ft_Rn rfl (by decide) (am_mc wt_230) rfl (by decide +kernel)) ?_
  refine am_cons (ar_iload_n C d_R_use_72 rfl) ?_
  refine am_cons (ar_ireturn C hr d_R_use_73) ?_
  exact am_nil
theorem sd_R_perhapsFirst {p : Program} {l : Launch} {e : Env} {R : Room} {s : State} {m : MethodId} {args : Array Value} {below : List Frame} {meth : Method} {c : Code} {D : va_G} {ρ : Nat → Nat} {kc : Nat → ClassId} {len : Nat} {Qc : Array Value → State → Outcome → State → Prop} {call : am_C} {rm : Room} (C : am_Cx p R s m args meth c prog_5_method_15_code 1 cw_R_perhapsFirst "DesignTexts$TextReader" D aCl ρ kc am_fts len) (hr : meth.sig.returnType = some .int)
    (hce : ∀ (id : Nat) (y : MethodName) (ws : List Cond), cPI[id]? = some (y, ws) → am_Ce l call rm D aCl ρ kc am_fts len id y ws) (hrm : rm.cells = 0 ∧ rm.slots = 0) (hR : ∀ {k : Nat}, k ≤ 21 → rm.frames + 1 ≤ R.frames ∧ 8 + (k + 11) + rm.locals ≤ R.locals) :
    ∀ q ∈ tb_R_perhapsFirst call, am_Row (am_J p l e R s m args below meth c 1 D aCl ρ kc len (MQ below Qc args s 0 0 (am_A ρ len s.heap.size))) (am_K s args D aCl ρ kc len Qc) q.1 q.2 := by
  unfold tb_R_perhapsFirst
  refine am_cons (ar_aload_n C d_R_perhapsFirst_0 rfl) ?_
  refine am_cons (ar_getf C d_R_perhapsFirst_1 (am_uc ft_Ru) rfl (by decide) (am_mc wt_182)) ?_
  refine am_cons (ar_aload_n C d_R_perhapsFirst_4 rfl) ?_
  refine am_cons (ar_getf C d_R_perhapsFirst_5 (am_uc ft_Ru) rfl (by decide) (am_mc wt_180)) ?_
  refine am_cons (ar_callV C d_R_perhapsFirst_8 (hce 3 ⟨"DesignTexts$Bytes", "at", "(I)I"⟩ cw_B_at rfl) rfl (am_gv wt_183 wt_184 wt_185 wt_173 wt_3) rfl (by decide +kernel) hrm (hR (by decide))) ?_
  refine am_cons (ar_bipush C d_R_perhapsFirst_11 (by decide)) ?_
  refine am_cons (ar_icmp_ne C d_R_perhapsFirst_13 (by decide)) ?_
  refine am_cons (ar_aload_n C d_R_perhapsFirst_16 rfl) ?_
  refine am_cons (ar_iconst C d_R_perhapsFirst_17 (by decide)) ?_
  refine am_cons (ar_callV C d_R_perhapsFirst_18 (hce 55 ⟨"DesignTexts$TextReader", "blankAndNumber", "(I)I"⟩ cw_R_blankAndNumber rfl) rfl (am_gv wt_215 wt_216 wt_217 wt_189 wt_55) rfl (by decide +kernel) hrm (hR (by decide))) ?_
  refine am_cons (ar_goto C d_R_perhapsFirst_21 (by decide)) ?_
  refine am_cons (ar_iconst C d_R_perhapsFirst_24 (by decide)) ?_
  refine am_cons (ar_ireturn C hr d_R_perhapsFirst_25) ?_
  exact am_nil
theorem sd_R_blankAndNumber {p : Program} {l : Launch} {e : Env} {R : Room} {s : State} {m : MethodId} {args : Array Value} {below : List Frame} {meth : Method} {c : Code} {D : va_G} {ρ : Nat → Nat} {kc : Nat → ClassId} {len : Nat} {Qc : Array Value → State → Outcome → State → Prop} {call : am_C} {rm : Room} (C : am_Cx p R s m args meth c prog_5_method_16_code 2 cw_R_blankAndNumber "DesignTexts$TextReader" D aCl ρ kc am_fts len) (hr : meth.sig.returnType = some .int)
    (hce : ∀ (id : Nat) (y : MethodName) (ws : List Cond), cPI[id]? = some (y, ws) → am_Ce l call rm D aCl ρ kc am_fts len id y ws) (hrm : rm.cells = 0 ∧ rm.slots = 0) (hR : ∀ {k : Nat}, k ≤ 21 → rm.frames + 1 ≤ R.frames ∧ 8 + (k + 11) + rm.locals ≤ R.locals) :
    ∀ q ∈ tb_R_blankAndNumber call, am_Row (am_J p l e R s m args below meth c 2 D aCl ρ kc len (MQ below Qc args s 0 0 (am_A ρ len s.heap.size))) (am_K s args D aCl ρ kc len Qc) q.1 q.2 := by
  unfold tb_R_blankAndNumber
  refine am_cons (ar_aload_n C d_R_blankAndNumber_0 rfl) ?_
  refine am_cons (ar_bipush C d_R_blankAndNumber_1 (by decide)) ?_
  refine am_cons (ar_callV C d_R_blankAndNumber_3 (hce 59 ⟨"DesignTexts$TextReader", "expect", "(I)V"⟩ cw_R_expect rfl) rfl (am_gv wt_212 wt_213 wt_214 wt_189 wt_59) rfl (by decide +kernel) hrm (hR (by decide))) ?_
  refine am_cons (ar_aload_n C d_R_blankAndNumber_6 rfl) ?_
  refine am_cons (ar_iload_n C d_R_blankAndNumber_7 rfl) ?_
  refine am_cons (ar_callV C d_R_blankAndNumber_8 (hce 56 ⟨"DesignTexts$TextReader", "number", "(I)I"⟩ cw_R_number rfl) rfl (am_gv wt_224 wt_225 wt_226 wt_189 wt_56) rfl (by decide +kernel) hrm (hR (by decide))) ?_
  refine am_cons (ar_ireturn C hr d_R_blankAndNumber_11) ?_
  exact am_nil
theorem sd_R_number {p : Program} {l : Launch} {e : Env} {R : Room} {s : State} {m : MethodId} {args : Array Value} {below : List Frame} {meth : Method} {c : Code} {D : va_G} {ρ : Nat → Nat} {kc : Nat → ClassId} {len : Nat} {Qc : Array Value → State → Outcome → State → Prop} {call : am_C} {rm : Room} (C : am_Cx p R s m args meth c prog_5_method_17_code 5 cw_R_number "DesignTexts$TextReader" D aCl ρ kc am_fts len) (hr : meth.sig.returnType = some .int)
    (hce : ∀ (id : Nat) (y : MethodName) (ws : List Cond), cPI[id]? = some (y, ws) → am_Ce l call rm D aCl ρ kc am_fts len id y ws) (hrm : rm.cells = 0 ∧ rm.slots = 0) (hR : ∀ {k : Nat}, k ≤ 21 → rm.frames + 1 ≤ R.frames ∧ 8 + (k + 11) + rm.locals ≤ R.locals) :
    ∀ q ∈ tb_R_number call, am_Row (am_J p l e R s m args below meth c 5 D aCl ρ kc len (MQ below Qc args s 0 0 (am_A ρ len s.heap.size))) (am_K s args D aCl ρ kc len Qc) q.1 q.2 := by
  unfold tb_R_number
  refine am_cons (ar_aload_n C d_R_number_0 rfl) ?_
  refine am_cons (ar_getf C d_R_number_1 (am_uc ft_Ru) rfl (by decide) (am_mc wt_180)) ?_
  refine am_cons (ar_istore_n C d_R_number_4 rfl) ?_
  refine am_cons (ar_iconst C d_R_number_5 (by decide)) ?_
  refine am_cons (ar_istore_n C d_R_number_6 rfl) ?_
  refine am_cons (ar_iconst C d_R_number_7 (by decide)) ?_
  refine am_cons (ar_istore C d_R_number_8) ?_
  refine am_cons (ar_keep [0, 1, 2, 3, 4] (ar_iload C d_R_number_10)) ?_
  refine am_cons (ar_iconst C d_R_number_12 (by decide)) ?_
  refine am_cons (ar_icmp_gt C d_R_number_13 (by decide)) ?_
  refine am_cons (ar_aload_n C d_R_number_16 rfl) ?_
  refine am_cons (ar_getf C d_R_number_17 (am_uc ft_Ru) rfl (by decide) (am_mc wt_182)) ?_
  refine am_cons (ar_aload_n C d_R_number_20 rfl) ?_
  refine am_cons (ar_getf C d_R_number_21 (am_uc ft_Ru) rfl (by decide) (am_mc wt_180)) ?_
  refine am_cons (ar_callV C d_R_number_24 (hce 3 ⟨"DesignTexts$Bytes", "at", "(I)I"⟩ cw_B_at rfl) rfl (am_gv wt_183 wt_184 wt_185 wt_173 wt_3) rfl (by decide +kernel) hrm (hR (by decide))) ?_
  refine am_cons (ar_callS C d_R_number_27 (hce 57 ⟨"DesignTexts$TextReader", "isDigit", "(I)Z"⟩ cw_R_isDigit rfl) (am_gs wt_258 wt_259 wt_189 wt_57) rfl (by decide +kernel) hrm (hR (by decide))) ?_
  refine am_cons (ar_if_eq C d_R_number_30 (by decide)) ?_
  refine am_cons (ar_iload C d_R_number_33) ?_
  refine am_cons (ar_iconst C d_R_number_35 (by decide)) ?_
  refine am_cons (ar_icmp_eq C d_R_number_36 (by decide)) ?_
  refine am_cons (ar_iload C d_R_number_39) ?_
  refine am_cons (ar_if_le C d_R_number_41 (by decide)) ?_
  refine am_cons (ar_iload_n C d_R_number_44 rfl) ?_
  refine am_cons (ar_if_ne C d_R_number_45 (by decide)) ?_
  refine am_cons (ar_aload_n C d_R_number_48 rfl) ?_
  refine am_cons (ar_aload_n C d_R_number_49 rfl) ?_
  refine am_cons (ar_getf C d_R_number_50 (am_uc ft_Ru) rfl (by decide) (am_mc wt_180)) ?_
  refine am_cons (ar_callV C d_R_number_53 (hce 60 ⟨"DesignTexts$TextReader", "fail", "(I)V"⟩ cw_R_fail rfl) rfl (am_gv wt_227 wt_228 wt_229 wt_189 wt_60) rfl (by decide +kernel) hrm (hR (by decide))) ?_
  refine am_cons (ar_iconst C d_R_number_56 (by decide)) ?_
  refine am_cons (ar_ireturn C hr d_R_number_57) ?_
  refine am_cons (ar_bipush C d_R_number_58 (by decide)) ?_
  refine am_cons (ar_iload_n C d_R_number_60 rfl) ?_
  refine am_cons (ar_imul C d_R_number_61) ?_
  refine am_cons (ar_aload_n C d_R_number_62 rfl) ?_
  refine am_cons (ar_getf C d_R_number_63 (am_uc ft_Ru) rfl (by decide) (am_mc wt_182)) ?_
  refine am_cons (ar_aload_n C d_R_number_66 rfl) ?_
  refine am_cons (ar_getf C d_R_number_67 (am_uc ft_Ru) rfl (by decide) (am_mc wt_180)) ?_
  refine am_cons (ar_callV C d_R_number_70 (hce 3 ⟨"DesignTexts$Bytes", "at", "(I)I"⟩ cw_B_at rfl) rfl (am_gv wt_183 wt_184 wt_185 wt_173 wt_3) rfl (by decide +kernel) hrm (hR (by decide))) ?_
  refine am_cons (ar_iadd C d_R_number_73) ?_
  refine am_cons (ar_bipush C d_R_number_74 (by decide)) ?_
  refine am_cons (ar_isub C d_R_number_76) ?_
  refine am_cons (ar_istore_n C d_R_number_77 rfl) ?_
  refine am_cons (ar_aload_n C d_R_number_78 rfl) ?_
  refine am_cons (ar_dup C d_R_number_79) ?_
  refine am_cons (ar_getf C d_R_number_80 (am_uc ft_Ru) rfl (by decide) (am_mc wt_180)) ?_
  refine am_cons (ar_iconst C d_R_number_83 (by decide)) ?_
  refine am_cons (ar_iadd C d_R_number_84) ?_
  refine am_cons (ar_putI C d_R_number_85 (am_uc ft_Ru) ft_Ro ft_Rn rfl (by decide) (am_mc wt_180) rfl (by decide +kernel)) ?_
  refine am_cons (ar_iinc C d_R_number_88 (by decide)) ?_
  refine am_cons (ar_goto C d_R_number_91 (by decide)) ?_
  refine am_cons (ar_keep [0, 1, 2, 3] (ar_aload_n C d_R_number_94 rfl)) ?_
  refine am_cons (ar_getf C d_R_number_95 (am_uc ft_Ru) rfl (by decide) (am_mc wt_180)) ?_
  refine am_cons (ar_iload_n C d_R_number_98 rfl) ?_
  refine am_cons (ar_icmp_eq C d_R_number_99 (by decide)) ?_
  refine am_cons (ar_iload_n C d_R_number_102 rfl) ?_
  refine am_cons (ar_iload_n C d_R_number_103 rfl) ?_
  refine am_cons (ar_icmp_le C d_R_number_104 (by decide)) ?_
  refine am_cons (ar_keep [0, 2] (ar_aload_n C d_R_number_107 rfl)) ?_
  refine am_cons (ar_iload_n C d_R_number_108 rfl) ?_
  refine am_cons (ar_callV C d_R_number_109 (hce 60 ⟨"DesignTexts$TextReader", "fail", "(I)V"⟩ cw_R_fail rfl) rfl (am_gv wt_227 wt_228 wt_229 wt_189 wt_60) rfl (by decide +kernel) hrm (hR (by decide))) ?_
  refine am_cons (ar_iconst C d_R_number_112 (by decide)) ?_
  refine am_cons (ar_ireturn C hr d_R_number_113) ?_
  refine am_cons (ar_iload_n C d_R_number_114 rfl) ?_
  refine am_cons (ar_ireturn C hr d_R_number_115) ?_
  exact am_nil
theorem sd_R_isDigit {p : Program} {l : Launch} {e : Env} {R : Room} {s : State} {m : MethodId} {args : Array Value} {below : List Frame} {meth : Method} {c : Code} {D : va_G} {ρ : Nat → Nat} {kc : Nat → ClassId} {len : Nat} {Qc : Array Value → State → Outcome → State → Prop} {call : am_C} {rm : Room} (C : am_Cx p R s m args meth c prog_5_method_18_code 1 cw_R_isDigit "DesignTexts$TextReader" D aCl ρ kc am_fts len) (hr : meth.sig.returnType = some .boolean)
    (hce : ∀ (id : Nat) (y : MethodName) (ws : List Cond), cPI[id]? = some (y, ws) → am_Ce l call rm D aCl ρ kc am_fts len id y ws) (hrm : rm.cells = 0 ∧ rm.slots = 0) (hR : ∀ {k : Nat}, k ≤ 21 → rm.frames + 1 ≤ R.frames ∧ 8 + (k + 11) + rm.locals ≤ R.locals) :
    ∀ q ∈ tb_R_isDigit call, am_Row (am_J p l e R s m args below meth c 1 D aCl ρ kc len (MQ below Qc args s 0 0 (am_A ρ len s.heap.size))) (am_K s args D aCl ρ kc len Qc) q.1 q.2 := by
  unfold tb_R_isDigit
  refine am_cons (ar_iload_n C d_R_isDigit_0 rfl) ?_
  refine am_cons (ar_bipush C d_R_isDigit_1 (by decide)) ?_
  refine am_cons (ar_icmp_lt C d_R_isDigit_3 (by decide)) ?_
  refine am_cons (ar_iload_n C d_R_isDigit_6 rfl) ?_
  refine am_cons (ar_bipush C d_R_isDigit_7 (by decide)) ?_
  refine am_cons (ar_icmp_gt C d_R_isDigit_9 (by decide)) ?_
  refine am_cons (ar_iconst C d_R_isDigit_12 (by decide)) ?_
  refine am_cons (ar_goto C d_R_isDigit_13 (by decide)) ?_
  refine am_cons (ar_iconst C d_R_isDigit_16 (by decide)) ?_
  refine am_cons (ar_zreturn C hr d_R_isDigit_17) ?_
  exact am_nil
theorem sd_R_difference {p : Program} {l : Launch} {e : Env} {R : Room} {s : State} {m : MethodId} {args : Array Value} {below : List Frame} {meth : Method} {c : Code} {D : va_G} {ρ : Nat → Nat} {kc : Nat → ClassId} {len : Nat} {Qc : Array Value → State → Outcome → State → Prop} {call : am_C} {rm : Room} (C : am_Cx p R s m args meth c prog_5_method_19_code 6 cw_R_difference "DesignTexts$TextReader" D aCl ρ kc am_fts len) (hr : meth.sig.returnType = some .int)
    (hce : ∀ (id : Nat) (y : MethodName) (ws : List Cond), cPI[id]? = some (y, ws) → am_Ce l call rm D aCl ρ kc am_fts len id y ws) (hrm : rm.cells = 0 ∧ rm.slots = 0) (hR : ∀ {k : Nat}, k ≤ 21 → rm.frames + 1 ≤ R.frames ∧ 8 + (k + 11) + rm.locals ≤ R.locals) :
    ∀ q ∈ tb_R_difference call, am_Row (am_J p l e R s m args below meth c 6 D aCl ρ kc len (MQ below Qc args s 0 0 (am_A ρ len s.heap.size))) (am_K s args D aCl ρ kc len Qc) q.1 q.2 := by
  unfold tb_R_difference
  refine am_cons (ar_aload_n C d_R_difference_0 rfl) ?_
  refine am_cons (ar_getf C d_R_difference_1 (am_uc ft_Ru) rfl (by decide) (am_mc wt_180)) ?_
  refine am_cons (ar_istore_n C d_R_difference_4 rfl) ?_
  refine am_cons (ar_aload_n C d_R_difference_5 rfl) ?_
  refine am_cons (ar_getf C d_R_difference_6 (am_uc ft_Ru) rfl (by decide) (am_mc wt_182)) ?_
  refine am_cons (ar_aload_n C d_R_difference_9 rfl) ?_
  refine am_cons (ar_getf C d_R_difference_10 (am_uc ft_Ru) rfl (by decide) (am_mc wt_180)) ?_
  refine am_cons (ar_callV C d_R_difference_13 (hce 3 ⟨"DesignTexts$Bytes", "at", "(I)I"⟩ cw_B_at rfl) rfl (am_gv wt_183 wt_184 wt_185 wt_173 wt_3) rfl (by decide +kernel) hrm (hR (by decide))) ?_
  refine am_cons (ar_istore C d_R_difference_16) ?_
  refine am_cons (ar_iload C d_R_difference_18) ?_
  refine am_cons (ar_iconst C d_R_difference_20 (by decide)) ?_
  refine am_cons (ar_icmp_ne C d_R_difference_21 (by decide)) ?_
  refine am_cons (ar_aload_n C d_R_difference_24 rfl) ?_
  refine am_cons (ar_aload_n C d_R_difference_25 rfl) ?_
  refine am_cons (ar_getf C d_R_difference_26 (am_uc ft_Ru) rfl (by decide) (am_mc wt_180)) ?_
  refine am_cons (ar_callV C d_R_difference_29 (hce 60 ⟨"DesignTexts$TextReader", "fail", "(I)V"⟩ cw_R_fail rfl) rfl (am_gv wt_227 wt_228 wt_229 wt_189 wt_60) rfl (by decide +kernel) hrm (hR (by decide))) ?_
  refine am_cons (ar_iload_n C d_R_difference_32 rfl) ?_
  refine am_cons (ar_ireturn C hr d_R_difference_33) ?_
  refine am_cons (ar_aload_n C d_R_difference_34 rfl) ?_
  refine am_cons (ar_dup C d_R_difference_35) ?_
  refine am_cons (ar_getf C d_R_difference_36 (am_uc ft_Ru) rfl (by decide) (am_mc wt_180)) ?_
  refine am_cons (ar_iconst C d_R_difference_39 (by decide)) ?_
  refine am_cons (ar_iadd C d_R_difference_40) ?_
  refine am_cons (ar_putI C d_R_difference_41 (am_uc ft_Ru) ft_Ro ft_Rn rfl (by decide) (am_mc wt_180) rfl (by decide +kernel)) ?_
  refine am_cons (ar_iload C d_R_difference_44) ?_
  refine am_cons (ar_sipush C d_R_difference_46 (by decide)) ?_
  refine am_cons (ar_icmp_lt C d_R_difference_49 (by decide)) ?_
  refine am_cons (ar_aload_n C d_R_difference_52 rfl) ?_
  refine am_cons (ar_getf C d_R_difference_53 (am_uc ft_Ru) rfl (by decide) (am_mc wt_182)) ?_
  refine am_cons (ar_aload_n C d_R_difference_56 rfl) ?_
  refine am_cons (ar_getf C d_R_difference_57 (am_uc ft_Ru) rfl (by decide) (am_mc wt_180)) ?_
  refine am_cons (ar_callV C d_R_difference_60 (hce 3 ⟨"DesignTexts$Bytes", "at", "(I)I"⟩ cw_B_at rfl) rfl (am_gv wt_183 wt_184 wt_185 wt_173 wt_3) rfl (by decide +kernel) hrm (hR (by decide))) ?_
  refine am_cons (ar_istore C d_R_difference_63) ?_
  refine am_cons (ar_iload C d_R_difference_65) ?_
  refine am_cons (ar_iconst C d_R_difference_67 (by decide)) ?_
  refine am_cons (ar_icmp_lt C d_R_difference_68 (by decide)) ?_
  refine am_cons (ar_iload C d_R_difference_71) ?_
  refine am_cons (ar_sipush C d_R_difference_73 (by decide)) ?_
  refine am_cons (ar_icmp_lt C d_R_difference_76 (by decide)) ?_
  refine am_cons (ar_keep [0, 1] (ar_aload_n C d_R_difference_79 rfl)) ?_
  refine am_cons (ar_aload_n C d_R_difference_80 rfl) ?_
  refine am_cons (ar_getf C d_R_difference_81 (am_uc ft_Ru) rfl (by decide) (am_mc wt_180)) ?_
  refine am_cons (ar_callV C d_R_difference_84 (hce 60 ⟨"DesignTexts$TextReader", "fail", "(I)V"⟩ cw_R_fail rfl) rfl (am_gv wt_227 wt_228 wt_229 wt_189 wt_60) rfl (by decide +kernel) hrm (hR (by decide))) ?_
  refine am_cons (ar_iload_n C d_R_difference_87 rfl) ?_
  refine am_cons (ar_ireturn C hr d_R_difference_88) ?_
  refine am_cons (ar_aload_n C d_R_difference_89 rfl) ?_
  refine am_cons (ar_dup C d_R_difference_90) ?_
  refine am_cons (ar_getf C d_R_difference_91 (am_uc ft_Ru) rfl (by decide) (am_mc wt_180)) ?_
  refine am_cons (ar_iconst C d_R_difference_94 (by decide)) ?_
  refine am_cons (ar_iadd C d_R_difference_95) ?_
  refine am_cons (ar_putI C d_R_difference_96 (am_uc ft_Ru) ft_Ro ft_Rn rfl (by decide) (am_mc wt_180) rfl (by decide +kernel)) ?_
  refine am_cons (ar_iload C d_R_difference_99) ?_
  refine am_cons (ar_sipush C d_R_difference_101 (by decide)) ?_
  refine am_cons (ar_iload C d_R_difference_104) ?_
  refine am_cons (ar_iconst C d_R_difference_106 (by decide)) ?_
  refine am_cons (ar_isub C d_R_difference_107) ?_
  refine am_cons (ar_imul C d_R_difference_108) ?_
  refine am_cons (ar_iadd C d_R_difference_109) ?_
  refine am_cons (ar_istore C d_R_difference_110) ?_
  refine am_cons (ar_keep [0, 1, 2, 3, 4] (ar_iload C d_R_difference_112)) ?_
  refine am_cons (ar_iload_n C d_R_difference_114 rfl) ?_
  refine am_cons (ar_icmp_lt C d_R_difference_115 (by decide)) ?_
  refine am_cons (ar_iload C d_R_difference_118) ?_
  refine am_cons (ar_iload_n C d_R_difference_120 rfl) ?_
  refine am_cons (ar_icmp_le C d_R_difference_121 (by decide)) ?_
  refine am_cons (ar_keep [0, 1, 3] (ar_aload_n C d_R_difference_124 rfl)) ?_
  refine am_cons (ar_iload_n C d_R_difference_125 rfl) ?_
  refine am_cons (ar_callV C d_R_difference_126 (hce 60 ⟨"DesignTexts$TextReader", "fail", "(I)V"⟩ cw_R_fail rfl) rfl (am_gv wt_227 wt_228 wt_229 wt_189 wt_60) rfl (by decide +kernel) hrm (hR (by decide))) ?_
  refine am_cons (ar_iload_n C d_R_difference_129 rfl) ?_
  refine am_cons (ar_ireturn C hr d_R_difference_130) ?_
  refine am_cons (ar_iload C d_R_difference_131) ?_
  refine am_cons (ar_ireturn C hr d_R_difference_133) ?_
  exact am_nil
theorem sd_R_expect {p : Program} {l : Launch} {e : Env} {R : Room} {s : State} {m : MethodId} {args : Array Value} {below : List Frame} {meth : Method} {c : Code} {D : va_G} {ρ : Nat → Nat} {kc : Nat → ClassId} {len : Nat} {Qc : Array Value → State → Outcome → State → Prop} {call : am_C} {rm : Room} (C : am_Cx p R s m args meth c prog_5_method_20_code 2 cw_R_expect "DesignTexts$TextReader" D aCl ρ kc am_fts len) (hr : meth.sig.returnType = none)
    (hce : ∀ (id : Nat) (y : MethodName) (ws : List Cond), cPI[id]? = some (y, ws) → am_Ce l call rm D aCl ρ kc am_fts len id y ws) (hrm : rm.cells = 0 ∧ rm.slots = 0) (hR : ∀ {k : Nat}, k ≤ 21 → rm.frames + 1 ≤ R.frames ∧ 8 + (k + 11) + rm.locals ≤ R.locals) :
    ∀ q ∈ tb_R_expect call, am_Row (am_J p l e R s m args below meth c 2 D aCl ρ kc len (MQ below Qc args s 0 0 (am_A ρ len s.heap.size))) (am_K s args D aCl ρ kc len Qc) q.1 q.2 := by
  unfold tb_R_expect
  refine am_cons (ar_aload_n C d_R_expect_0 rfl) ?_
  refine am_cons (ar_getf C d_R_expect_1 (am_uc ft_Ru) rfl (by decide) (am_mc wt_182)) ?_
  refine am_cons (ar_aload_n C d_R_expect_4 rfl) ?_
  refine am_cons (ar_getf C d_R_expect_5 (am_uc ft_Ru) rfl (by decide) (am_mc wt_180)) ?_
  refine am_cons (ar_callV C d_R_expect_8 (hce 3 ⟨"DesignTexts$Bytes", "at", "(I)I"⟩ cw_B_at rfl) rfl (am_gv wt_183 wt_184 wt_185 wt_173 wt_3) rfl (by decide +kernel) hrm (hR (by decide))) ?_
  refine am_cons (ar_iload_n C d_R_expect_11 rfl) ?_
  refine am_cons (ar_icmp_ne C d_R_expect_12 (by decide)) ?_
  refine am_cons (ar_aload_n C d_R_expect_15 rfl) ?_
  refine am_cons (ar_dup C d_R_expect_16) ?_
  refine am_cons (ar_getf C d_R_expect_17 (am_uc ft_Ru) rfl (by decide) (am_mc wt_180)) ?_
  refine am_cons (ar_iconst C d_R_expect_20 (by decide)) ?_
  refine am_cons (ar_iadd C d_R_expect_21) ?_
  refine am_cons (ar_putI C d_R_expect_22 (am_uc ft_Ru) ft_Ro ft_Rn rfl (by decide) (am_mc wt_180) rfl (by decide +kernel)) ?_
  refine am_cons (ar_goto C d_R_expect_25 (by decide)) ?_
  refine am_cons (ar_aload_n C d_R_expect_28 rfl) ?_
  refine am_cons (ar_aload_n C d_R_expect_29 rfl) ?_
  refine am_cons (ar_getf C d_R_expect_30 (am_uc ft_Ru) rfl (by decide) (am_mc wt_180)) ?_
  refine am_cons (ar_callV C d_R_expect_33 (hce 60 ⟨"DesignTexts$TextReader", "fail", "(I)V"⟩ cw_R_fail rfl) rfl (am_gv wt_227 wt_228 wt_229 wt_189 wt_60) rfl (by decide +kernel) hrm (hR (by decide))) ?_
  refine am_cons (ar_return C hr d_R_expect_36) ?_
  exact am_nil
theorem sd_R_fail {p : Program} {l : Launch} {e : Env} {R : Room} {s : State} {m : MethodId} {args : Array Value} {below : List Frame} {meth : Method} {c : Code} {D : va_G} {ρ : Nat → Nat} {kc : Nat → ClassId} {len : Nat} {Qc : Array Value → State → Outcome → State → Prop} {call : am_C} {rm : Room} (C : am_Cx p R s m args meth c prog_5_method_21_code 2 cw_R_fail "DesignTexts$TextReader" D aCl ρ kc am_fts len) (hr : meth.sig.returnType = none)
    (hce : ∀ (id : Nat) (y : MethodName) (ws : List Cond), cPI[id]? = some (y, ws) → am_Ce l call rm D aCl ρ kc am_fts len id y ws) (hrm : rm.cells = 0 ∧ rm.slots = 0) (hR : ∀ {k : Nat}, k ≤ 21 → rm.frames + 1 ≤ R.frames ∧ 8 + (k + 11) + rm.locals ≤ R.locals) :
    ∀ q ∈ tb_R_fail call, am_Row (am_J p l e R s m args below meth c 2 D aCl ρ kc len (MQ below Qc args s 0 0 (am_A ρ len s.heap.size))) (am_K s args D aCl ρ kc len Qc) q.1 q.2 := by
  unfold tb_R_fail
  refine am_cons (ar_aload_n C d_R_fail_0 rfl) ?_
  refine am_cons (ar_getf C d_R_fail_1 (am_uc ft_Ru) rfl (by decide) (am_mc wt_181)) ?_
  refine am_cons (ar_iconst C d_R_fail_4 (by decide)) ?_
  refine am_cons (ar_icmp_ne C d_R_fail_5 (by decide)) ?_
  refine am_cons (ar_aload_n C d_R_fail_8 rfl) ?_
  refine am_cons (ar_iload_n C d_R_fail_9 rfl) ?_
  refine am_cons (ar_putI C d_R_fail_10 (am_uc ft_Ru) ft_Ro ft_Rn rfl (by decide) (am_mc wt_181) rfl (by decide +kernel)) ?_
  refine am_cons (ar_return C hr d_R_fail_13) ?_
  exact am_nil
theorem sd_T_read {p : Program} {l : Launch} {e : Env} {R : Room} {s : State} {m : MethodId} {args : Array Value} {below : List Frame} {meth : Method} {c : Code} {D : va_G} {ρ : Nat → Nat} {kc : Nat → ClassId} {len : Nat} {Qc : Array Value → State → Outcome → State → Prop} {call : am_C} {rm : Room} (C : am_Cx p R s m args meth c prog_1_method_3_code 2 cw_T_read "DesignTexts" D aCl ρ kc am_fts len) (hr : meth.sig.returnType = some .int)
    (hce : ∀ (id : Nat) (y : MethodName) (ws : List Cond), cPI[id]? = some (y, ws) → am_Ce l call rm D aCl ρ kc am_fts len id y ws) (hrm : rm.cells = 0 ∧ rm.slots = 0) (hR : ∀ {k : Nat}, k ≤ 21 → rm.frames + 1 ≤ R.frames ∧ 8 + (k + 11) + rm.locals ≤ R.locals) :
    ∀ q ∈ tb_T_read call, am_Row (am_J p l e R s m args below meth c 2 D aCl ρ kc len (MQ below Qc args s 0 0 (am_A ρ len s.heap.size))) (am_K s args D aCl ρ kc len Qc) q.1 q.2 := by
  unfold tb_T_read
  refine am_cons (ar_aload_n C d_T_read_0 rfl) ?_
  refine am_cons (ar_getf C d_T_read_1 (am_uc ft_Tu) rfl (by decide) (am_mc wt_260)) ?_
  refine am_cons (ar_aload_n C d_T_read_4 rfl) ?_
  refine am_cons (ar_getf C d_T_read_5 (am_uc ft_Tu) rfl (by decide) (am_mc wt_261)) ?_
  refine am_cons (ar_callV C d_T_read_8 (hce 41 ⟨"DesignTexts$TextReader", "fill", "(LDesignTexts$Design;)I"⟩ cw_R_fill rfl) rfl (am_gv wt_262 wt_263 wt_264 wt_189 wt_41) rfl (by decide +kernel) hrm (hR (by decide))) ?_
  refine am_cons (ar_istore_n C d_T_read_11 rfl) ?_
  refine am_cons (ar_aload_n C d_T_read_12 rfl) ?_
  refine am_cons (ar_getf C d_T_read_13 (am_uc ft_Tu) rfl (by decide) (am_mc wt_265)) ?_
  refine am_cons (ar_callV C d_T_read_16 (hce 1 ⟨"DesignTexts$Bytes", "clear", "()V"⟩ cw_B_clear rfl) rfl (am_gv wt_266 wt_267 wt_268 wt_173 wt_1) rfl (by decide +kernel) hrm (hR (by decide))) ?_
  refine am_cons (ar_iload_n C d_T_read_19 rfl) ?_
  refine am_cons (ar_iconst C d_T_read_20 (by decide)) ?_
  refine am_cons (ar_icmp_ne C d_T_read_21 (by decide)) ?_
  refine am_cons (ar_aload_n C d_T_read_24 rfl) ?_
  refine am_cons (ar_getf C d_T_read_25 (am_uc ft_Tu) rfl (by decide) (am_mc wt_261)) ?_
  refine am_cons (ar_callV C d_T_read_28 (hce 12 ⟨"DesignTexts$Design", "restart", "()V"⟩ cw_D_restart rfl) rfl (am_gv wt_269 wt_270 wt_271 wt_87 wt_12) rfl (by decide +kernel) hrm (hR (by decide))) ?_
  refine am_cons (ar_aload_n C d_T_read_31 rfl) ?_
  refine am_cons (ar_callV C d_T_read_32 (hce 67 ⟨"DesignTexts", "exchange", "()V"⟩ cw_T_exchange rfl) rfl (am_gv wt_272 wt_273 wt_274 wt_275 wt_67) rfl (by decide +kernel) hrm (hR (by decide))) ?_
  refine am_cons (ar_iload_n C d_T_read_35 rfl) ?_
  refine am_cons (ar_ireturn C hr d_T_read_36) ?_
  exact am_nil
theorem sd_T_about {p : Program} {l : Launch} {e : Env} {R : Room} {s : State} {m : MethodId} {args : Array Value} {below : List Frame} {meth : Method} {c : Code} {D : va_G} {ρ : Nat → Nat} {kc : Nat → ClassId} {len : Nat} {Qc : Array Value → State → Outcome → State → Prop} {call : am_C} {rm : Room} (C : am_Cx p R s m args meth c prog_1_method_4_code 2 cw_T_about "DesignTexts" D aCl ρ kc am_fts len) (hr : meth.sig.returnType = some .int)
    (hce : ∀ (id : Nat) (y : MethodName) (ws : List Cond), cPI[id]? = some (y, ws) → am_Ce l call rm D aCl ρ kc am_fts len id y ws) (hrm : rm.cells = 0 ∧ rm.slots = 0) (hR : ∀ {k : Nat}, k ≤ 21 → rm.frames + 1 ≤ R.frames ∧ 8 + (k + 11) + rm.locals ≤ R.locals) :
    ∀ q ∈ tb_T_about call, am_Row (am_J p l e R s m args below meth c 2 D aCl ρ kc len (MQ below Qc args s 0 0 (am_A ρ len s.heap.size))) (am_K s args D aCl ρ kc len Qc) q.1 q.2 := by
  unfold tb_T_about
  refine am_cons (ar_iload_n C d_T_about_0 rfl) ?_
  refine am_cons (ar_tsw C d_T_about_1 (by decide +kernel) (fun x h => csw0_6 x ⟨h (0, 44) (by simp), h (1, 52) (by simp), h (2, 61) (by simp), h (3, 70) (by simp), h (4, 79) (by simp), h (5, 88) (by simp), h (6, 96) (by simp)⟩)) ?_
  refine am_cons (ar_aload_n C d_T_about_44 rfl) ?_
  refine am_cons (ar_getf C d_T_about_45 (am_uc ft_Tu) rfl (by decide) (am_mc wt_276)) ?_
  refine am_cons (ar_callV C d_T_about_48 (hce 4 ⟨"DesignTexts$Design", "most", "()I"⟩ cw_D_most rfl) rfl (am_gv wt_277 wt_175 wt_176 wt_87 wt_4) rfl (by decide +kernel) hrm (hR (by decide))) ?_
  refine am_cons (ar_ireturn C hr d_T_about_51) ?_
  refine am_cons (ar_aload_n C d_T_about_52 rfl) ?_
  refine am_cons (ar_getf C d_T_about_53 (am_uc ft_Tu) rfl (by decide) (am_mc wt_276)) ?_
  refine am_cons (ar_iconst C d_T_about_56 (by decide)) ?_
  refine am_cons (ar_callV C d_T_about_57 (hce 7 ⟨"DesignTexts$Design", "many", "(I)I"⟩ cw_D_many rfl) rfl (am_gv wt_278 wt_85 wt_86 wt_87 wt_7) rfl (by decide +kernel) hrm (hR (by decide))) ?_
  refine am_cons (ar_ireturn C hr d_T_about_60) ?_
  refine am_cons (ar_aload_n C d_T_about_61 rfl) ?_
  refine am_cons (ar_getf C d_T_about_62 (am_uc ft_Tu) rfl (by decide) (am_mc wt_276)) ?_
  refine am_cons (ar_iconst C d_T_about_65 (by decide)) ?_
  refine am_cons (ar_callV C d_T_about_66 (hce 7 ⟨"DesignTexts$Design", "many", "(I)I"⟩ cw_D_many rfl) rfl (am_gv wt_278 wt_85 wt_86 wt_87 wt_7) rfl (by decide +kernel) hrm (hR (by decide))) ?_
  refine am_cons (ar_ireturn C hr d_T_about_69) ?_
  refine am_cons (ar_aload_n C d_T_about_70 rfl) ?_
  refine am_cons (ar_getf C d_T_about_71 (am_uc ft_Tu) rfl (by decide) (am_mc wt_276)) ?_
  refine am_cons (ar_iconst C d_T_about_74 (by decide)) ?_
  refine am_cons (ar_callV C d_T_about_75 (hce 7 ⟨"DesignTexts$Design", "many", "(I)I"⟩ cw_D_many rfl) rfl (am_gv wt_278 wt_85 wt_86 wt_87 wt_7) rfl (by decide +kernel) hrm (hR (by decide))) ?_
  refine am_cons (ar_ireturn C hr d_T_about_78) ?_
  refine am_cons (ar_aload_n C d_T_about_79 rfl) ?_
  refine am_cons (ar_getf C d_T_about_80 (am_uc ft_Tu) rfl (by decide) (am_mc wt_276)) ?_
  refine am_cons (ar_iconst C d_T_about_83 (by decide)) ?_
  refine am_cons (ar_callV C d_T_about_84 (hce 7 ⟨"DesignTexts$Design", "many", "(I)I"⟩ cw_D_many rfl) rfl (am_gv wt_278 wt_85 wt_86 wt_87 wt_7) rfl (by decide +kernel) hrm (hR (by decide))) ?_
  refine am_cons (ar_ireturn C hr d_T_about_87) ?_
  refine am_cons (ar_aload_n C d_T_about_88 rfl) ?_
  refine am_cons (ar_getf C d_T_about_89 (am_uc ft_Tu) rfl (by decide) (am_mc wt_265)) ?_
  refine am_cons (ar_callV C d_T_about_92 (hce 0 ⟨"DesignTexts$Bytes", "size", "()I"⟩ cw_B_size rfl) rfl (am_gv wt_279 wt_280 wt_281 wt_173 wt_0) rfl (by decide +kernel) hrm (hR (by decide))) ?_
  refine am_cons (ar_ireturn C hr d_T_about_95) ?_
  refine am_cons (ar_aload_n C d_T_about_96 rfl) ?_
  refine am_cons (ar_getf C d_T_about_97 (am_uc ft_Tu) rfl (by decide) (am_mc wt_276)) ?_
  refine am_cons (ar_callV C d_T_about_100 (hce 13 ⟨"DesignTexts$Design", "inOrder", "()Z"⟩ cw_D_inOrder rfl) rfl (am_gv wt_282 wt_283 wt_284 wt_87 wt_13) rfl (by decide +kernel) hrm (hR (by decide))) ?_
  refine am_cons (ar_if_eq C d_T_about_103 (by decide)) ?_
  refine am_cons (ar_iconst C d_T_about_106 (by decide)) ?_
  refine am_cons (ar_goto C d_T_about_107 (by decide)) ?_
  refine am_cons (ar_iconst C d_T_about_110 (by decide)) ?_
  refine am_cons (ar_ireturn C hr d_T_about_111) ?_
  refine am_cons (ar_iconst C d_T_about_112 (by decide)) ?_
  refine am_cons (ar_ireturn C hr d_T_about_113) ?_
  exact am_nil
theorem sd_T_order {p : Program} {l : Launch} {e : Env} {R : Room} {s : State} {m : MethodId} {args : Array Value} {below : List Frame} {meth : Method} {c : Code} {D : va_G} {ρ : Nat → Nat} {kc : Nat → ClassId} {len : Nat} {Qc : Array Value → State → Outcome → State → Prop} {call : am_C} {rm : Room} (C : am_Cx p R s m args meth c prog_1_method_6_code 1 cw_T_order "DesignTexts" D aCl ρ kc am_fts len) (hr : meth.sig.returnType = none)
    (hce : ∀ (id : Nat) (y : MethodName) (ws : List Cond), cPI[id]? = some (y, ws) → am_Ce l call rm D aCl ρ kc am_fts len id y ws) (hrm : rm.cells = 0 ∧ rm.slots = 0) (hR : ∀ {k : Nat}, k ≤ 21 → rm.frames + 1 ≤ R.frames ∧ 8 + (k + 11) + rm.locals ≤ R.locals) :
    ∀ q ∈ tb_T_order call, am_Row (am_J p l e R s m args below meth c 1 D aCl ρ kc len (MQ below Qc args s 0 0 (am_A ρ len s.heap.size))) (am_K s args D aCl ρ kc len Qc) q.1 q.2 := by
  unfold tb_T_order
  refine am_cons (ar_aload_n C d_T_order_0 rfl) ?_
  refine am_cons (ar_getf C d_T_order_1 (am_uc ft_Tu) rfl (by decide) (am_mc wt_261)) ?_
  refine am_cons (ar_aload_n C d_T_order_4 rfl) ?_
  refine am_cons (ar_getf C d_T_order_5 (am_uc ft_Tu) rfl (by decide) (am_mc wt_276)) ?_
  refine am_cons (ar_callV C d_T_order_8 (hce 24 ⟨"DesignTexts$Design", "orderFrom", "(LDesignTexts$Design;)V"⟩ cw_D_orderFrom rfl) rfl (am_gv wt_285 wt_286 wt_287 wt_87 wt_24) rfl (by decide +kernel) hrm (hR (by decide))) ?_
  refine am_cons (ar_aload_n C d_T_order_11 rfl) ?_
  refine am_cons (ar_callV C d_T_order_12 (hce 67 ⟨"DesignTexts", "exchange", "()V"⟩ cw_T_exchange rfl) rfl (am_gv wt_272 wt_273 wt_274 wt_275 wt_67) rfl (by decide +kernel) hrm (hR (by decide))) ?_
  refine am_cons (ar_return C hr d_T_order_15) ?_
  exact am_nil
theorem sd_T_reset {p : Program} {l : Launch} {e : Env} {R : Room} {s : State} {m : MethodId} {args : Array Value} {below : List Frame} {meth : Method} {c : Code} {D : va_G} {ρ : Nat → Nat} {kc : Nat → ClassId} {len : Nat} {Qc : Array Value → State → Outcome → State → Prop} {call : am_C} {rm : Room} (C : am_Cx p R s m args meth c prog_1_method_9_code 1 cw_T_reset "DesignTexts" D aCl ρ kc am_fts len) (hr : meth.sig.returnType = none)
    (hce : ∀ (id : Nat) (y : MethodName) (ws : List Cond), cPI[id]? = some (y, ws) → am_Ce l call rm D aCl ρ kc am_fts len id y ws) (hrm : rm.cells = 0 ∧ rm.slots = 0) (hR : ∀ {k : Nat}, k ≤ 21 → rm.frames + 1 ≤ R.frames ∧ 8 + (k + 11) + rm.locals ≤ R.locals) :
    ∀ q ∈ tb_T_reset call, am_Row (am_J p l e R s m args below meth c 1 D aCl ρ kc len (MQ below Qc args s 0 0 (am_A ρ len s.heap.size))) (am_K s args D aCl ρ kc len Qc) q.1 q.2 := by
  unfold tb_T_reset
  refine am_cons (ar_aload_n C d_T_reset_0 rfl) ?_
  refine am_cons (ar_getf C d_T_reset_1 (am_uc ft_Tu) rfl (by decide) (am_mc wt_276)) ?_
  refine am_cons (ar_callV C d_T_reset_4 (hce 12 ⟨"DesignTexts$Design", "restart", "()V"⟩ cw_D_restart rfl) rfl (am_gv wt_269 wt_270 wt_271 wt_87 wt_12) rfl (by decide +kernel) hrm (hR (by decide))) ?_
  refine am_cons (ar_return C hr d_T_reset_7) ?_
  exact am_nil
theorem sd_T_cycle {p : Program} {l : Launch} {e : Env} {R : Room} {s : State} {m : MethodId} {args : Array Value} {below : List Frame} {meth : Method} {c : Code} {D : va_G} {ρ : Nat → Nat} {kc : Nat → ClassId} {len : Nat} {Qc : Array Value → State → Outcome → State → Prop} {call : am_C} {rm : Room} (C : am_Cx p R s m args meth c prog_1_method_10_code 2 cw_T_cycle "DesignTexts" D aCl ρ kc am_fts len) (hr : meth.sig.returnType = some .int)
    (hce : ∀ (id : Nat) (y : MethodName) (ws : List Cond), cPI[id]? = some (y, ws) → am_Ce l call rm D aCl ρ kc am_fts len id y ws) (hrm : rm.cells = 0 ∧ rm.slots = 0) (hR : ∀ {k : Nat}, k ≤ 21 → rm.frames + 1 ≤ R.frames ∧ 8 + (k + 11) + rm.locals ≤ R.locals) :
    ∀ q ∈ tb_T_cycle call, am_Row (am_J p l e R s m args below meth c 2 D aCl ρ kc len (MQ below Qc args s 0 0 (am_A ρ len s.heap.size))) (am_K s args D aCl ρ kc len Qc) q.1 q.2 := by
  unfold tb_T_cycle
  refine am_cons (ar_aload_n C d_T_cycle_0 rfl) ?_
  refine am_cons (ar_getf C d_T_cycle_1 (am_uc ft_Tu) rfl (by decide) (am_mc wt_276)) ?_
  refine am_cons (ar_iload_n C d_T_cycle_4 rfl) ?_
  refine am_cons (ar_callV C d_T_cycle_5 (hce 16 ⟨"DesignTexts$Design", "step", "(I)I"⟩ cw_D_step rfl) rfl (am_gv wt_288 wt_289 wt_290 wt_87 wt_16) rfl (by decide +kernel) hrm (hR (by decide))) ?_
  refine am_cons (ar_ireturn C hr d_T_cycle_8) ?_
  exact am_nil
theorem sd_T_latches {p : Program} {l : Launch} {e : Env} {R : Room} {s : State} {m : MethodId} {args : Array Value} {below : List Frame} {meth : Method} {c : Code} {D : va_G} {ρ : Nat → Nat} {kc : Nat → ClassId} {len : Nat} {Qc : Array Value → State → Outcome → State → Prop} {call : am_C} {rm : Room} (C : am_Cx p R s m args meth c prog_1_method_11_code 1 cw_T_latches "DesignTexts" D aCl ρ kc am_fts len) (hr : meth.sig.returnType = some .int)
    (hce : ∀ (id : Nat) (y : MethodName) (ws : List Cond), cPI[id]? = some (y, ws) → am_Ce l call rm D aCl ρ kc am_fts len id y ws) (hrm : rm.cells = 0 ∧ rm.slots = 0) (hR : ∀ {k : Nat}, k ≤ 21 → rm.frames + 1 ≤ R.frames ∧ 8 + (k + 11) + rm.locals ≤ R.locals) :
    ∀ q ∈ tb_T_latches call, am_Row (am_J p l e R s m args below meth c 1 D aCl ρ kc len (MQ below Qc args s 0 0 (am_A ρ len s.heap.size))) (am_K s args D aCl ρ kc len Qc) q.1 q.2 := by
  unfold tb_T_latches
  refine am_cons (ar_aload_n C d_T_latches_0 rfl) ?_
  refine am_cons (ar_getf C d_T_latches_1 (am_uc ft_Tu) rfl (by decide) (am_mc wt_276)) ?_
  refine am_cons (ar_callV C d_T_latches_4 (hce 6 ⟨"DesignTexts$Design", "latchBits", "()I"⟩ cw_D_latchBits rfl) rfl (am_gv wt_291 wt_292 wt_293 wt_87 wt_6) rfl (by decide +kernel) hrm (hR (by decide))) ?_
  refine am_cons (ar_ireturn C hr d_T_latches_7) ?_
  exact am_nil
theorem sd_T_exchange {p : Program} {l : Launch} {e : Env} {R : Room} {s : State} {m : MethodId} {args : Array Value} {below : List Frame} {meth : Method} {c : Code} {D : va_G} {ρ : Nat → Nat} {kc : Nat → ClassId} {len : Nat} {Qc : Array Value → State → Outcome → State → Prop} {call : am_C} {rm : Room} (C : am_Cx p R s m args meth c prog_1_method_12_code 2 cw_T_exchange "DesignTexts" D aCl ρ kc am_fts len) (hr : meth.sig.returnType = none)
    (hce : ∀ (id : Nat) (y : MethodName) (ws : List Cond), cPI[id]? = some (y, ws) → am_Ce l call rm D aCl ρ kc am_fts len id y ws) (hrm : rm.cells = 0 ∧ rm.slots = 0) (hR : ∀ {k : Nat}, k ≤ 21 → rm.frames + 1 ≤ R.frames ∧ 8 + (k + 11) + rm.locals ≤ R.locals) :
    ∀ q ∈ tb_T_exchange call, am_Row (am_J p l e R s m args below meth c 2 D aCl ρ kc len (MQ below Qc args s 0 0 (am_A ρ len s.heap.size))) (am_K s args D aCl ρ kc len Qc) q.1 q.2 := by
  unfold tb_T_exchange
  refine am_cons (ar_aload_n C d_T_exchange_0 rfl) ?_
  refine am_cons (ar_getf C d_T_exchange_1 (am_uc ft_Tu) rfl (by decide) (am_mc wt_276)) ?_
  refine am_cons (ar_astore_n C d_T_exchange_4 rfl) ?_
  refine am_cons (ar_aload_n C d_T_exchange_5 rfl) ?_
  refine am_cons (ar_aload_n C d_T_exchange_6 rfl) ?_
  refine am_cons (ar_getf C d_T_exchange_7 (am_uc ft_Tu) rfl (by decide) (am_mc wt_261)) ?_
  refine am_cons (ar_putR (oc := "DesignTexts$Design") C d_T_exchange_10 (am_uc ft_Tu) ft_To ft_Tn rfl (by decide) (am_mc wt_276) rfl (by decide +kernel)) ?_
  refine am_cons (ar_aload_n C d_T_exchange_13 rfl) ?_
  refine am_cons (ar_aload_n C d_T_exchange_14 rfl) ?_
  refine am_cons (ar_putR (oc := "DesignTexts$Design") C d_T_exchange_15 (am_uc ft_Tu) ft_To ft_Tn rfl (by decide) (am_mc wt_261) rfl (by decide +kernel)) ?_
  refine am_cons (ar_return C hr d_T_exchange_18) ?_
  exact am_nil
