def tb_T_put (call : am_C) : am_T := [(0, af_iload 1 1), (1, af_iconst 1 1), (2, af_icmp_lt 10), (5, af_iload 1 1), (6, af_iconst 4 1), (7, af_icmp_le 20), (10, af_throw 0), (20, af_aload 0 1), (21, af_getf 0 0), (24, af_callV call 0 0 1), (27, af_iload 1 1), (28, af_iadd), (29, af_iconst 1500 3), (32, af_icmp_le 45), (35, af_throw 1), (45, af_iconst 0 1), (46, af_istore 3 4 1), (47, af_keep [0, 1, 2, 3] (af_iload 3 1)), (48, af_iload 1 1), (49, af_icmp_ge 71), (52, af_aload 0 1), (53, af_getf 0 0), (56, af_iload 2 1), (57, af_iconst 8 2), (59, af_iload 3 1), (60, af_imul), (61, af_iushr), (62, af_callV call 2 1 1), (65, af_iinc 3 1 4), (68, af_goto 47), (71, af_keep [0] (af_aload 0 1)), (72, af_getf 0 0), (75, af_callV call 0 0 1), (78, af_ireturn)]
def tb_T_has (call : am_C) : am_T := [(0, af_iload 1 1), (1, af_if_lt 10), (4, af_iload 1 1), (5, af_iconst 8 2), (7, af_icmp_lt 20), (10, af_throw 0), (20, af_aload 0 1), (21, af_getf 0 4), (24, af_iload 1 1), (25, af_iload 2 1), (26, af_callV call 9 2 2), (29, af_if_ne 42), (32, af_throw 2), (42, af_aload 0 1), (43, af_getf 0 4), (46, af_iload 1 1), (47, af_iload 2 1), (48, af_callV call 10 2 2), (51, af_ireturn)]
def tb_T_write (call : am_C) : am_T := [(0, af_iload 1 1), (1, af_if_eq 19), (4, af_iload 1 1), (5, af_iconst 1 1), (6, af_icmp_eq 19), (9, af_throw 0), (19, af_keep [0, 1] (af_iload 1 1)), (20, af_iconst 1 1), (21, af_icmp_ne 44), (24, af_aload 0 1), (25, af_getf 0 4), (28, af_callV call 13 0 2), (31, af_if_ne 44), (34, af_throw 3), (44, af_keep [0, 1] (af_aload 0 1)), (45, af_getf 0 1), (48, af_callV call 1 0 1), (51, af_iload 1 1), (52, af_if_ne 69), (55, af_aload 0 1), (56, af_getf 0 3), (59, af_aload 0 1), (60, af_getf 0 4), (63, af_callV call 32 1 3), (66, af_goto 80), (69, af_aload 0 1), (70, af_getf 0 3), (73, af_aload 0 1), (74, af_getf 0 4), (77, af_callV call 33 1 3), (80, af_keep [0] (af_aload 0 1)), (81, af_getf 0 1), (84, af_callV call 0 0 1), (87, af_ireturn)]
def tb_T_written (call : am_C) : am_T := [(0, af_iload 1 1), (1, af_if_ge 14), (4, af_throw 4), (14, af_aload 0 1), (15, af_getf 0 1), (18, af_iload 1 1), (19, af_callV call 3 1 1), (22, af_ireturn)]
theorem sx_T_put {p : Program} {l : Launch} {e : Env} {R : Room} {s : State} {m : MethodId} {args : Array Value} {below : List Frame} {meth : Method} {c : Code} {D : va_G} {ρ : Nat → Nat} {kc : Nat → ClassId} {len : Nat} {r0 : am_R} {call : am_C} {rm : Room} (C : am_Cx p R s m args meth c prog_1_method_2_code 4 cw_T_put "DesignTexts" D aCl ρ kc am_fts len) (hr : meth.sig.returnType = some .int)
    (hce : ∀ (id : Nat) (y : MethodName) (ws : List Cond), cPI[id]? = some (y, ws) → am_Ce l call rm D aCl ρ kc am_fts len id y ws) (hrm : rm.cells = 0 ∧ rm.slots = 0) (hR : ∀ {k : Nat}, k ≤ 21 → rm.frames + 1 ≤ R.frames ∧ 8 + (k + 11) + rm.locals ≤ R.locals) (hl : l.stackTraces = false) (hex : c.exceptionTable.isEmpty = true) (hOk : ax_Ok s) (hZ : ax_Zs (am_A ρ len s.heap.size) s s.heap) (hR4 : 6 ≤ R.frames ∧ 90 ≤ R.locals ∧ 1 ≤ R.cells ∧ 6 ≤ R.slots) :
    ∀ q ∈ tb_T_put call, am_Row (am_J p l e R s m args below meth c 4 D aCl ρ kc len (ax_MQ below (ax_Q D aCl ρ kc len s.heap.size r0) args s)) (fun r => r = r0) q.1 q.2 := by
  unfold tb_T_put
  refine am_cons (ar_iload_n C d_T_put_0 rfl) ?_
  refine am_cons (ar_iconst C d_T_put_1 (by decide)) ?_
  refine am_cons (ar_icmp_lt C d_T_put_2 (by decide)) ?_
  refine am_cons (ar_iload_n C d_T_put_5 rfl) ?_
  refine am_cons (ar_iconst C d_T_put_6 (by decide)) ?_
  refine am_cons (ar_icmp_le C d_T_put_7 (by decide)) ?_
  refine am_cons (ar_throw (text := "many is not 1 .. 4") (ix := 7) C hl hex hOk hZ d_T_put_10 d_T_put_13 d_T_put_14 d_T_put_16 d_T_put_19 (by decide) (by decide +kernel) (by decide) (by decide +kernel) (by decide +kernel) (by decide +kernel) (by decide +kernel) hR4) ?_
  refine am_cons (ar_aload_n C d_T_put_20 rfl) ?_
  refine am_cons (ar_getf C d_T_put_21 (am_uc ft_Tu) rfl (by decide) (am_mc wt_265)) ?_
  refine am_cons (ar_callV C d_T_put_24 (hce 0 ⟨"DesignTexts$Bytes", "size", "()I"⟩ cw_B_size rfl) rfl (am_gv wt_279 wt_280 wt_281 wt_173 wt_0) rfl (by decide +kernel) hrm (hR (by decide))) ?_
  refine am_cons (ar_iload_n C d_T_put_27 rfl) ?_
  refine am_cons (ar_iadd C d_T_put_28) ?_
  refine am_cons (ar_sipush C d_T_put_29 (by decide)) ?_
  refine am_cons (ar_icmp_le C d_T_put_32 (by decide)) ?_
  refine am_cons (ar_throw (text := "more than 1500 bytes") (ix := 7) C hl hex hOk hZ d_T_put_35 d_T_put_38 d_T_put_39 d_T_put_41 d_T_put_44 (by decide) (by decide +kernel) (by decide) (by decide +kernel) (by decide +kernel) (by decide +kernel) (by decide +kernel) hR4) ?_
  refine am_cons (ar_iconst C d_T_put_45 (by decide)) ?_
  refine am_cons (ar_istore_n C d_T_put_46 rfl) ?_
  refine am_cons (ar_keep [0, 1, 2, 3] (ar_iload_n C d_T_put_47 rfl)) ?_
  refine am_cons (ar_iload_n C d_T_put_48 rfl) ?_
  refine am_cons (ar_icmp_ge C d_T_put_49 (by decide)) ?_
  refine am_cons (ar_aload_n C d_T_put_52 rfl) ?_
  refine am_cons (ar_getf C d_T_put_53 (am_uc ft_Tu) rfl (by decide) (am_mc wt_265)) ?_
  refine am_cons (ar_iload_n C d_T_put_56 rfl) ?_
  refine am_cons (ar_bipush C d_T_put_57 (by decide)) ?_
  refine am_cons (ar_iload_n C d_T_put_59 rfl) ?_
  refine am_cons (ar_imul C d_T_put_60) ?_
  refine am_cons (ar_iushr C d_T_put_61) ?_
  refine am_cons (ar_callV C d_T_put_62 (hce 2 ⟨"DesignTexts$Bytes", "add", "(I)V"⟩ cw_B_add rfl) rfl (am_gv wt_294 wt_171 wt_172 wt_173 wt_2) rfl (by decide +kernel) hrm (hR (by decide))) ?_
  refine am_cons (ar_iinc C d_T_put_65 (by decide)) ?_
  refine am_cons (ar_goto C d_T_put_68 (by decide)) ?_
  refine am_cons (ar_keep [0] (ar_aload_n C d_T_put_71 rfl)) ?_
  refine am_cons (ar_getf C d_T_put_72 (am_uc ft_Tu) rfl (by decide) (am_mc wt_265)) ?_
  refine am_cons (ar_callV C d_T_put_75 (hce 0 ⟨"DesignTexts$Bytes", "size", "()I"⟩ cw_B_size rfl) rfl (am_gv wt_279 wt_280 wt_281 wt_173 wt_0) rfl (by decide +kernel) hrm (hR (by decide))) ?_
  refine am_cons (ar_xireturn C hr d_T_put_78) ?_
  exact am_nil
theorem sx_T_has {p : Program} {l : Launch} {e : Env} {R : Room} {s : State} {m : MethodId} {args : Array Value} {below : List Frame} {meth : Method} {c : Code} {D : va_G} {ρ : Nat → Nat} {kc : Nat → ClassId} {len : Nat} {r0 : am_R} {call : am_C} {rm : Room} (C : am_Cx p R s m args meth c prog_1_method_5_code 3 cw_T_has "DesignTexts" D aCl ρ kc am_fts len) (hr : meth.sig.returnType = some .int)
    (hce : ∀ (id : Nat) (y : MethodName) (ws : List Cond), cPI[id]? = some (y, ws) → am_Ce l call rm D aCl ρ kc am_fts len id y ws) (hrm : rm.cells = 0 ∧ rm.slots = 0) (hR : ∀ {k : Nat}, k ≤ 21 → rm.frames + 1 ≤ R.frames ∧ 8 + (k + 11) + rm.locals ≤ R.locals) (hl : l.stackTraces = false) (hex : c.exceptionTable.isEmpty = true) (hOk : ax_Ok s) (hZ : ax_Zs (am_A ρ len s.heap.size) s s.heap) (hR4 : 6 ≤ R.frames ∧ 90 ≤ R.locals ∧ 1 ≤ R.cells ∧ 6 ≤ R.slots) :
    ∀ q ∈ tb_T_has call, am_Row (am_J p l e R s m args below meth c 3 D aCl ρ kc len (ax_MQ below (ax_Q D aCl ρ kc len s.heap.size r0) args s)) (fun r => r = r0) q.1 q.2 := by
  unfold tb_T_has
  refine am_cons (ar_iload_n C d_T_has_0 rfl) ?_
  refine am_cons (ar_if_lt C d_T_has_1 (by decide)) ?_
  refine am_cons (ar_iload_n C d_T_has_4 rfl) ?_
  refine am_cons (ar_bipush C d_T_has_5 (by decide)) ?_
  refine am_cons (ar_icmp_lt C d_T_has_7 (by decide)) ?_
  refine am_cons (ar_throw (text := "no such kind") (ix := 7) C hl hex hOk hZ d_T_has_10 d_T_has_13 d_T_has_14 d_T_has_16 d_T_has_19 (by decide) (by decide +kernel) (by decide) (by decide +kernel) (by decide +kernel) (by decide +kernel) (by decide +kernel) hR4) ?_
  refine am_cons (ar_aload_n C d_T_has_20 rfl) ?_
  refine am_cons (ar_getf C d_T_has_21 (am_uc ft_Tu) rfl (by decide) (am_mc wt_276)) ?_
  refine am_cons (ar_iload_n C d_T_has_24 rfl) ?_
  refine am_cons (ar_iload_n C d_T_has_25 rfl) ?_
  refine am_cons (ar_callV C d_T_has_26 (hce 9 ⟨"DesignTexts$Design", "holds", "(II)Z"⟩ cw_D_holds rfl) rfl (am_gv wt_295 wt_296 wt_297 wt_87 wt_9) rfl (by decide +kernel) hrm (hR (by decide))) ?_
  refine am_cons (ar_if_ne C d_T_has_29 (by decide)) ?_
  refine am_cons (ar_throw (text := "no such one") (ix := 13) C hl hex hOk hZ d_T_has_32 d_T_has_35 d_T_has_36 d_T_has_38 d_T_has_41 (by decide) (by decide +kernel) (by decide) (by decide +kernel) (by decide +kernel) (by decide +kernel) (by decide +kernel) hR4) ?_
  refine am_cons (ar_aload_n C d_T_has_42 rfl) ?_
  refine am_cons (ar_getf C d_T_has_43 (am_uc ft_Tu) rfl (by decide) (am_mc wt_276)) ?_
  refine am_cons (ar_iload_n C d_T_has_46 rfl) ?_
  refine am_cons (ar_iload_n C d_T_has_47 rfl) ?_
  refine am_cons (ar_callV C d_T_has_48 (hce 10 ⟨"DesignTexts$Design", "get", "(II)I"⟩ cw_D_get rfl) rfl (am_gv wt_298 wt_90 wt_91 wt_87 wt_10) rfl (by decide +kernel) hrm (hR (by decide))) ?_
  refine am_cons (ar_xireturn C hr d_T_has_51) ?_
  exact am_nil
theorem sx_T_write {p : Program} {l : Launch} {e : Env} {R : Room} {s : State} {m : MethodId} {args : Array Value} {below : List Frame} {meth : Method} {c : Code} {D : va_G} {ρ : Nat → Nat} {kc : Nat → ClassId} {len : Nat} {r0 : am_R} {call : am_C} {rm : Room} (C : am_Cx p R s m args meth c prog_1_method_7_code 2 cw_T_write "DesignTexts" D aCl ρ kc am_fts len) (hr : meth.sig.returnType = some .int)
    (hce : ∀ (id : Nat) (y : MethodName) (ws : List Cond), cPI[id]? = some (y, ws) → am_Ce l call rm D aCl ρ kc am_fts len id y ws) (hrm : rm.cells = 0 ∧ rm.slots = 0) (hR : ∀ {k : Nat}, k ≤ 21 → rm.frames + 1 ≤ R.frames ∧ 8 + (k + 11) + rm.locals ≤ R.locals) (hl : l.stackTraces = false) (hex : c.exceptionTable.isEmpty = true) (hOk : ax_Ok s) (hZ : ax_Zs (am_A ρ len s.heap.size) s s.heap) (hR4 : 6 ≤ R.frames ∧ 90 ≤ R.locals ∧ 1 ≤ R.cells ∧ 6 ≤ R.slots) :
    ∀ q ∈ tb_T_write call, am_Row (am_J p l e R s m args below meth c 2 D aCl ρ kc len (ax_MQ below (ax_Q D aCl ρ kc len s.heap.size r0) args s)) (fun r => r = r0) q.1 q.2 := by
  unfold tb_T_write
  refine am_cons (ar_iload_n C d_T_write_0 rfl) ?_
  refine am_cons (ar_if_eq C d_T_write_1 (by decide)) ?_
  refine am_cons (ar_iload_n C d_T_write_4 rfl) ?_
  refine am_cons (ar_iconst C d_T_write_5 (by decide)) ?_
  refine am_cons (ar_icmp_eq C d_T_write_6 (by decide)) ?_
  refine am_cons (ar_throw (text := "no such kind") (ix := 7) C hl hex hOk hZ d_T_write_9 d_T_write_12 d_T_write_13 d_T_write_15 d_T_write_18 (by decide) (by decide +kernel) (by decide) (by decide +kernel) (by decide +kernel) (by decide +kernel) (by decide +kernel) hR4) ?_
  refine am_cons (ar_keep [0, 1] (ar_iload_n C d_T_write_19 rfl)) ?_
  refine am_cons (ar_iconst C d_T_write_20 (by decide)) ?_
  refine am_cons (ar_icmp_ne C d_T_write_21 (by decide)) ?_
  refine am_cons (ar_aload_n C d_T_write_24 rfl) ?_
  refine am_cons (ar_getf C d_T_write_25 (am_uc ft_Tu) rfl (by decide) (am_mc wt_276)) ?_
  refine am_cons (ar_callV C d_T_write_28 (hce 13 ⟨"DesignTexts$Design", "inOrder", "()Z"⟩ cw_D_inOrder rfl) rfl (am_gv wt_282 wt_283 wt_284 wt_87 wt_13) rfl (by decide +kernel) hrm (hR (by decide))) ?_
  refine am_cons (ar_if_ne C d_T_write_31 (by decide)) ?_
  refine am_cons (ar_throw (text := "not in order") (ix := 7) C hl hex hOk hZ d_T_write_34 d_T_write_37 d_T_write_38 d_T_write_40 d_T_write_43 (by decide) (by decide +kernel) (by decide) (by decide +kernel) (by decide +kernel) (by decide +kernel) (by decide +kernel) hR4) ?_
  refine am_cons (ar_keep [0, 1] (ar_aload_n C d_T_write_44 rfl)) ?_
  refine am_cons (ar_getf C d_T_write_45 (am_uc ft_Tu) rfl (by decide) (am_mc wt_299)) ?_
  refine am_cons (ar_callV C d_T_write_48 (hce 1 ⟨"DesignTexts$Bytes", "clear", "()V"⟩ cw_B_clear rfl) rfl (am_gv wt_266 wt_267 wt_268 wt_173 wt_1) rfl (by decide +kernel) hrm (hR (by decide))) ?_
  refine am_cons (ar_iload_n C d_T_write_51 rfl) ?_
  refine am_cons (ar_if_ne C d_T_write_52 (by decide)) ?_
  refine am_cons (ar_aload_n C d_T_write_55 rfl) ?_
  refine am_cons (ar_getf C d_T_write_56 (am_uc ft_Tu) rfl (by decide) (am_mc wt_300)) ?_
  refine am_cons (ar_aload_n C d_T_write_59 rfl) ?_
  refine am_cons (ar_getf C d_T_write_60 (am_uc ft_Tu) rfl (by decide) (am_mc wt_276)) ?_
  refine am_cons (ar_callV C d_T_write_63 (hce 32 ⟨"DesignTexts$PageWriter", "plain", "(LDesignTexts$Design;)V"⟩ cw_W_plain rfl) rfl (am_gv wt_301 wt_302 wt_303 wt_151 wt_32) rfl (by decide +kernel) hrm (hR (by decide))) ?_
  refine am_cons (ar_goto C d_T_write_66 (by decide)) ?_
  refine am_cons (ar_aload_n C d_T_write_69 rfl) ?_
  refine am_cons (ar_getf C d_T_write_70 (am_uc ft_Tu) rfl (by decide) (am_mc wt_300)) ?_
  refine am_cons (ar_aload_n C d_T_write_73 rfl) ?_
  refine am_cons (ar_getf C d_T_write_74 (am_uc ft_Tu) rfl (by decide) (am_mc wt_276)) ?_
  refine am_cons (ar_callV C d_T_write_77 (hce 33 ⟨"DesignTexts$PageWriter", "packed", "(LDesignTexts$Design;)V"⟩ cw_W_packed rfl) rfl (am_gv wt_304 wt_305 wt_306 wt_151 wt_33) rfl (by decide +kernel) hrm (hR (by decide))) ?_
  refine am_cons (ar_keep [0] (ar_aload_n C d_T_write_80 rfl)) ?_
  refine am_cons (ar_getf C d_T_write_81 (am_uc ft_Tu) rfl (by decide) (am_mc wt_299)) ?_
  refine am_cons (ar_callV C d_T_write_84 (hce 0 ⟨"DesignTexts$Bytes", "size", "()I"⟩ cw_B_size rfl) rfl (am_gv wt_279 wt_280 wt_281 wt_173 wt_0) rfl (by decide +kernel) hrm (hR (by decide))) ?_
  refine am_cons (ar_xireturn C hr d_T_write_87) ?_
  exact am_nil
theorem sx_T_written {p : Program} {l : Launch} {e : Env} {R : Room} {s : State} {m : MethodId} {args : Array Value} {below : List Frame} {meth : Method} {c : Code} {D : va_G} {ρ : Nat → Nat} {kc : Nat → ClassId} {len : Nat} {r0 : am_R} {call : am_C} {rm : Room} (C : am_Cx p R s m args meth c prog_1_method_8_code 2 cw_T_written "DesignTexts" D aCl ρ kc am_fts len) (hr : meth.sig.returnType = some .int)
    (hce : ∀ (id : Nat) (y : MethodName) (ws : List Cond), cPI[id]? = some (y, ws) → am_Ce l call rm D aCl ρ kc am_fts len id y ws) (hrm : rm.cells = 0 ∧ rm.slots = 0) (hR : ∀ {k : Nat}, k ≤ 21 → rm.frames + 1 ≤ R.frames ∧ 8 + (k + 11) + rm.locals ≤ R.locals) (hl : l.stackTraces = false) (hex : c.exceptionTable.isEmpty = true) (hOk : ax_Ok s) (hZ : ax_Zs (am_A ρ len s.heap.size) s s.heap) (hR4 : 6 ≤ R.frames ∧ 90 ≤ R.locals ∧ 1 ≤ R.cells ∧ 6 ≤ R.slots) :
    ∀ q ∈ tb_T_written call, am_Row (am_J p l e R s m args below meth c 2 D aCl ρ kc len (ax_MQ below (ax_Q D aCl ρ kc len s.heap.size r0) args s)) (fun r => r = r0) q.1 q.2 := by
  unfold tb_T_written
  refine am_cons (ar_iload_n C d_T_written_0 rfl) ?_
  refine am_cons (ar_if_ge C d_T_written_1 (by decide)) ?_
  refine am_cons (ar_throw (text := "below 0") (ix := 7) C hl hex hOk hZ d_T_written_4 d_T_written_7 d_T_written_8 d_T_written_10 d_T_written_13 (by decide) (by decide +kernel) (by decide) (by decide +kernel) (by decide +kernel) (by decide +kernel) (by decide +kernel) hR4) ?_
  refine am_cons (ar_aload_n C d_T_written_14 rfl) ?_
  refine am_cons (ar_getf C d_T_written_15 (am_uc ft_Tu) rfl (by decide) (am_mc wt_299)) ?_
  refine am_cons (ar_iload_n C d_T_written_18 rfl) ?_
  refine am_cons (ar_callV C d_T_written_19 (hce 3 ⟨"DesignTexts$Bytes", "at", "(I)I"⟩ cw_B_at rfl) rfl (am_gv wt_307 wt_184 wt_185 wt_173 wt_3) rfl (by decide +kernel) hrm (hR (by decide))) ?_
  refine am_cons (ar_xireturn C hr d_T_written_22) ?_
  exact am_nil
def fn_T_put_47 (x1 : Int32) (x2 : Int32) (κ : SB → Option (Value × SB)) : Nat → Int32 → SB → Option (Value × SB)
  | 0, _, _ => none
  | n + 1, x3, tx =>
    if decide (x1 ≤ x3) then
      κ tx
    else
      (fn_B_add ((x2.toUInt32 >>> (((8 : Int32) * x3).toUInt32 &&& Int32.toUInt32 31)).toInt32) tx).bind fun q1 =>
      fn_T_put_47 x1 x2 κ n (x3 + 1) q1
def fn_T_put (x1 : Int32) (x2 : Int32) (tx : SB) : Option (Value × SB) :=
  if decide (x1 < (1 : Int32)) then
    some ((Value.retAddr 0), tx)
  else
    if decide (x1 ≤ (4 : Int32)) then
      (fn_B_size tx).bind fun q2 =>
      if decide ((q2 + x1) ≤ (1500 : Int32)) then
        fn_T_put_47 x1 x2 (fun tx_4 =>
          (fn_B_size tx_4).bind fun q4 =>
          some ((Value.int q4), tx_4)) am_NF (0 : Int32) tx
      else
        some ((Value.retAddr 1), tx)
    else
      some ((Value.retAddr 0), tx)
def fn_T_has (x1 : Int32) (x2 : Int32) (d : SD) : Option (Value) :=
  if decide (x1 < 0) then
    some (Value.retAddr 0)
  else
    if decide (x1 < (8 : Int32)) then
      (fn_D_holds x1 x2 d).bind fun q1 =>
      if decide (q1 = 0) then
        some (Value.retAddr 2)
      else
        (fn_D_get x1 x2 d).bind fun q2 =>
        some (Value.int q2)
    else
      some (Value.retAddr 0)
def fn_T_write_80 (pg : SB) (d : SD) : Option (Value × SB) :=
  (fn_B_size pg).bind fun q1 =>
  some ((Value.int q1), pg)
def fn_T_write_44 (x1 : Int32) (pg : SB) (d : SD) : Option (Value × SB) :=
  (fn_B_clear pg).bind fun q2 =>
  if decide (x1 = 0) then
    (fn_W_plain q2 d).bind fun q3 =>
    fn_T_write_80 q3 d
  else
    (fn_W_packed q2 d).bind fun q4 =>
    fn_T_write_80 q4 d
def fn_T_write_19 (x1 : Int32) (pg : SB) (d : SD) : Option (Value × SB) :=
  if decide (x1 = (1 : Int32)) then
    (fn_D_inOrder d).bind fun q5 =>
    if decide (q5 = 0) then
      some ((Value.retAddr 3), pg)
    else
      fn_T_write_44 x1 pg d
  else
    fn_T_write_44 x1 pg d
def fn_T_write (x1 : Int32) (pg : SB) (d : SD) : Option (Value × SB) :=
  if decide (x1 = 0) then
    fn_T_write_19 x1 pg d
  else
    if decide (x1 = (1 : Int32)) then
      fn_T_write_19 x1 pg d
    else
      some ((Value.retAddr 0), pg)
def fn_T_written (x1 : Int32) (pg : SB) : Option (Value) :=
  if decide (0 ≤ x1) then
    (fn_B_at x1 pg).bind fun q1 =>
    some (Value.int q1)
  else
    some (Value.retAddr 4)
theorem ev_T_put_47_A {n0 : Nat} {pg : SB} {rd : SR} {d : SD} {e : SD} {x1 : Int32} {x2 : Int32} {κ : SB → Option (Value × SB)} (hκ : ∀ (tx : SB) (res : Value × SB), κ tx = some res → am_Ev (tb_T_put (am_run cPT cML (n0 + 1))) (71, [(0, .ref 0)], [], (hp tx pg rd d e false)) (some res.1, (hp res.2 pg rd d e false))) : ∀ (n : Nat) (x3 : Int32) (tx : SB) (res : Value × SB), fn_T_put_47 x1 x2 κ n x3 tx = some res → am_Ev (tb_T_put (am_run cPT cML (n0 + 1))) (47, [(0, .ref 0), (1, .int x1), (2, .int x2), (3, .int x3)], [], (hp tx pg rd d e false)) (some res.1, (hp res.2 pg rd d e false)) := by
  intro n
  induction n with
  | zero => intro x3 tx res h; unfold fn_T_put_47 at h; cases h
  | succ n ih =>
    intro x3 tx res h
    unfold fn_T_put_47 at h
    refine am_Ev.fork (b := decide (x1 ≤ x3)) (s1 := (71, [(0, .ref 0), (1, .int x1), (2, .int x2), (3, .int x3)], [], (hp tx pg rd d e false))) (s2 := (52, [(0, .ref 0), (1, .int x1), (2, .int x2), (3, .int x3)], [], (hp tx pg rd d e false))) 3 (fun _ => rfl) (fun hc => ?_) (fun hc => ?_)
    · have h := (am_ift hc).symm.trans h
      refine am_Ev.same (st' := (71, [(0, .ref 0)], [], (hp tx pg rd d e false))) (fun _ => rfl) ?_
      exact hκ _ _ h
    · have h := (am_iff hc).symm.trans h
      obtain ⟨q1, hq, h⟩ := Option.bind_eq_some_iff.mp h
      refine am_Ev.go 7 (st' := (62, [(0, .ref 0), (1, .int x1), (2, .int x2), (3, .int x3)], [.int ((x2.toUInt32 >>> (((8 : Int32) * x3).toUInt32 &&& Int32.toUInt32 31)).toInt32), .ref 1], (hp tx pg rd d e false))) (fun _ => rfl) ?_
      refine am_Ev.call (o := am_run cPT cML (n0 + 1) 2 [.ref 1, .int ((x2.toUInt32 >>> (((8 : Int32) * x3).toUInt32 &&& Int32.toUInt32 31)).toInt32)] (hp tx pg rd d e false)) (kk := fun q => (65, [(0, .ref 0), (1, .int x1), (2, .int x2), (3, .int x3)], q.1.toList ++ [], q.2)) (q := (none, (hp q1 pg rd d e false))) 1 (fun _ => rfl) (ev_B_add_t hq) ?_
      refine am_Ev.go 2 (st' := (47, [(0, .ref 0), (1, .int x1), (2, .int x2), (3, .int (x3 + 1))], [], (hp q1 pg rd d e false))) (fun _ => rfl) ?_
      exact ih _ _ _ h
theorem ev_T_put_A {n0 : Nat} {pg : SB} {rd : SR} {d : SD} {e : SD} {x1 : Int32} {x2 : Int32} {tx : SB} {res : Value × SB} (h : fn_T_put x1 x2 tx = some res) : am_Ev (tb_T_put (am_run cPT cML (n0 + 1))) (0, [(0, .ref 0), (1, .int x1), (2, .int x2)], [], (hp tx pg rd d e false)) (some res.1, (hp res.2 pg rd d e false)) := by
  unfold fn_T_put at h
  refine am_Ev.fork (b := decide (x1 < (1 : Int32))) (s1 := (10, [(0, .ref 0), (1, .int x1), (2, .int x2)], [], (hp tx pg rd d e false))) (s2 := (5, [(0, .ref 0), (1, .int x1), (2, .int x2)], [], (hp tx pg rd d e false))) 3 (fun _ => rfl) (fun hc => ?_) (fun hc => ?_)
  · have h := (am_ift hc).symm.trans h
    cases h
    exact am_Ev.done 1 rfl
  · have h := (am_iff hc).symm.trans h
    refine am_Ev.fork (b := decide (x1 ≤ (4 : Int32))) (s1 := (20, [(0, .ref 0), (1, .int x1), (2, .int x2)], [], (hp tx pg rd d e false))) (s2 := (10, [(0, .ref 0), (1, .int x1), (2, .int x2)], [], (hp tx pg rd d e false))) 3 (fun _ => rfl) (fun hc => ?_) (fun hc => ?_)
    · have h := (am_ift hc).symm.trans h
      obtain ⟨q2, hq, h⟩ := Option.bind_eq_some_iff.mp h
      refine am_Ev.go 2 (st' := (24, [(0, .ref 0), (1, .int x1), (2, .int x2)], [.ref 1], (hp tx pg rd d e false))) (fun _ => rfl) ?_
      refine am_Ev.call (o := am_run cPT cML (n0 + 1) 0 [.ref 1] (hp tx pg rd d e false)) (kk := fun q => (27, [(0, .ref 0), (1, .int x1), (2, .int x2)], q.1.toList ++ [], q.2)) (q := (some (.int q2), (hp tx pg rd d e false))) 1 (fun _ => rfl) (ev_B_size_t hq) ?_
      refine am_Ev.fork (b := decide ((q2 + x1) ≤ (1500 : Int32))) (s1 := (45, [(0, .ref 0), (1, .int x1), (2, .int x2)], [], (hp tx pg rd d e false))) (s2 := (35, [(0, .ref 0), (1, .int x1), (2, .int x2)], [], (hp tx pg rd d e false))) 4 (fun _ => rfl) (fun hc => ?_) (fun hc => ?_)
      · have h := (am_ift hc).symm.trans h
        refine am_Ev.go 2 (st' := (47, [(0, .ref 0), (1, .int x1), (2, .int x2), (3, .int 0)], [], (hp tx pg rd d e false))) (fun _ => rfl) ?_
        refine ev_T_put_47_A ?_ _ _ _ _ h
        intro tx_4 res h
        try dsimp only at h
        obtain ⟨q4, hq, h⟩ := Option.bind_eq_some_iff.mp h
        refine am_Ev.go 2 (st' := (75, [(0, .ref 0)], [.ref 1], (hp tx_4 pg rd d e false))) (fun _ => rfl) ?_
        refine am_Ev.call (o := am_run cPT cML (n0 + 1) 0 [.ref 1] (hp tx_4 pg rd d e false)) (kk := fun q => (78, [(0, .ref 0)], q.1.toList ++ [], q.2)) (q := (some (.int q4), (hp tx_4 pg rd d e false))) 1 (fun _ => rfl) (ev_B_size_t hq) ?_
        cases h
        exact am_Ev.done 1 rfl
      · have h := (am_iff hc).symm.trans h
        cases h
        exact am_Ev.done 1 rfl
    · have h := (am_iff hc).symm.trans h
      cases h
      exact am_Ev.done 1 rfl
theorem ev_T_put_47_B {n0 : Nat} {pg : SB} {rd : SR} {e : SD} {d : SD} {x1 : Int32} {x2 : Int32} {κ : SB → Option (Value × SB)} (hκ : ∀ (tx : SB) (res : Value × SB), κ tx = some res → am_Ev (tb_T_put (am_run cPT cML (n0 + 1))) (71, [(0, .ref 0)], [], (hp tx pg rd e d true)) (some res.1, (hp res.2 pg rd e d true))) : ∀ (n : Nat) (x3 : Int32) (tx : SB) (res : Value × SB), fn_T_put_47 x1 x2 κ n x3 tx = some res → am_Ev (tb_T_put (am_run cPT cML (n0 + 1))) (47, [(0, .ref 0), (1, .int x1), (2, .int x2), (3, .int x3)], [], (hp tx pg rd e d true)) (some res.1, (hp res.2 pg rd e d true)) := by
  intro n
  induction n with
  | zero => intro x3 tx res h; unfold fn_T_put_47 at h; cases h
  | succ n ih =>
    intro x3 tx res h
    unfold fn_T_put_47 at h
    refine am_Ev.fork (b := decide (x1 ≤ x3)) (s1 := (71, [(0, .ref 0), (1, .int x1), (2, .int x2), (3, .int x3)], [], (hp tx pg rd e d true))) (s2 := (52, [(0, .ref 0), (1, .int x1), (2, .int x2), (3, .int x3)], [], (hp tx pg rd e d true))) 3 (fun _ => rfl) (fun hc => ?_) (fun hc => ?_)
    · have h := (am_ift hc).symm.trans h
      refine am_Ev.same (st' := (71, [(0, .ref 0)], [], (hp tx pg rd e d true))) (fun _ => rfl) ?_
      exact hκ _ _ h
    · have h := (am_iff hc).symm.trans h
      obtain ⟨q1, hq, h⟩ := Option.bind_eq_some_iff.mp h
      refine am_Ev.go 7 (st' := (62, [(0, .ref 0), (1, .int x1), (2, .int x2), (3, .int x3)], [.int ((x2.toUInt32 >>> (((8 : Int32) * x3).toUInt32 &&& Int32.toUInt32 31)).toInt32), .ref 1], (hp tx pg rd e d true))) (fun _ => rfl) ?_
      refine am_Ev.call (o := am_run cPT cML (n0 + 1) 2 [.ref 1, .int ((x2.toUInt32 >>> (((8 : Int32) * x3).toUInt32 &&& Int32.toUInt32 31)).toInt32)] (hp tx pg rd e d true)) (kk := fun q => (65, [(0, .ref 0), (1, .int x1), (2, .int x2), (3, .int x3)], q.1.toList ++ [], q.2)) (q := (none, (hp q1 pg rd e d true))) 1 (fun _ => rfl) (ev_B_add_t hq) ?_
      refine am_Ev.go 2 (st' := (47, [(0, .ref 0), (1, .int x1), (2, .int x2), (3, .int (x3 + 1))], [], (hp q1 pg rd e d true))) (fun _ => rfl) ?_
      exact ih _ _ _ h
theorem ev_T_put_B {n0 : Nat} {pg : SB} {rd : SR} {e : SD} {d : SD} {x1 : Int32} {x2 : Int32} {tx : SB} {res : Value × SB} (h : fn_T_put x1 x2 tx = some res) : am_Ev (tb_T_put (am_run cPT cML (n0 + 1))) (0, [(0, .ref 0), (1, .int x1), (2, .int x2)], [], (hp tx pg rd e d true)) (some res.1, (hp res.2 pg rd e d true)) := by
  unfold fn_T_put at h
  refine am_Ev.fork (b := decide (x1 < (1 : Int32))) (s1 := (10, [(0, .ref 0), (1, .int x1), (2, .int x2)], [], (hp tx pg rd e d true))) (s2 := (5, [(0, .ref 0), (1, .int x1), (2, .int x2)], [], (hp tx pg rd e d true))) 3 (fun _ => rfl) (fun hc => ?_) (fun hc => ?_)
  · have h := (am_ift hc).symm.trans h
    cases h
    exact am_Ev.done 1 rfl
  · have h := (am_iff hc).symm.trans h
    refine am_Ev.fork (b := decide (x1 ≤ (4 : Int32))) (s1 := (20, [(0, .ref 0), (1, .int x1), (2, .int x2)], [], (hp tx pg rd e d true))) (s2 := (10, [(0, .ref 0), (1, .int x1), (2, .int x2)], [], (hp tx pg rd e d true))) 3 (fun _ => rfl) (fun hc => ?_) (fun hc => ?_)
    · have h := (am_ift hc).symm.trans h
      obtain ⟨q2, hq, h⟩ := Option.bind_eq_some_iff.mp h
      refine am_Ev.go 2 (st' := (24, [(0, .ref 0), (1, .int x1), (2, .int x2)], [.ref 1], (hp tx pg rd e d true))) (fun _ => rfl) ?_
      refine am_Ev.call (o := am_run cPT cML (n0 + 1) 0 [.ref 1] (hp tx pg rd e d true)) (kk := fun q => (27, [(0, .ref 0), (1, .int x1), (2, .int x2)], q.1.toList ++ [], q.2)) (q := (some (.int q2), (hp tx pg rd e d true))) 1 (fun _ => rfl) (ev_B_size_t hq) ?_
      refine am_Ev.fork (b := decide ((q2 + x1) ≤ (1500 : Int32))) (s1 := (45, [(0, .ref 0), (1, .int x1), (2, .int x2)], [], (hp tx pg rd e d true))) (s2 := (35, [(0, .ref 0), (1, .int x1), (2, .int x2)], [], (hp tx pg rd e d true))) 4 (fun _ => rfl) (fun hc => ?_) (fun hc => ?_)
      · have h := (am_ift hc).symm.trans h
        refine am_Ev.go 2 (st' := (47, [(0, .ref 0), (1, .int x1), (2, .int x2), (3, .int 0)], [], (hp tx pg rd e d true))) (fun _ => rfl) ?_
        refine ev_T_put_47_B ?_ _ _ _ _ h
        intro tx_4 res h
        try dsimp only at h
        obtain ⟨q4, hq, h⟩ := Option.bind_eq_some_iff.mp h
        refine am_Ev.go 2 (st' := (75, [(0, .ref 0)], [.ref 1], (hp tx_4 pg rd e d true))) (fun _ => rfl) ?_
        refine am_Ev.call (o := am_run cPT cML (n0 + 1) 0 [.ref 1] (hp tx_4 pg rd e d true)) (kk := fun q => (78, [(0, .ref 0)], q.1.toList ++ [], q.2)) (q := (some (.int q4), (hp tx_4 pg rd e d true))) 1 (fun _ => rfl) (ev_B_size_t hq) ?_
        cases h
        exact am_Ev.done 1 rfl
      · have h := (am_iff hc).symm.trans h
        cases h
        exact am_Ev.done 1 rfl
    · have h := (am_iff hc).symm.trans h
      cases h
      exact am_Ev.done 1 rfl
theorem ev_T_has_A {n0 : Nat} {tx : SB} {pg : SB} {rd : SR} {e : SD} {x1 : Int32} {x2 : Int32} {d : SD} {res : Value} (h : fn_T_has x1 x2 d = some res) : am_Ev (tb_T_has (am_run cPT cML (n0 + 2))) (0, [(0, .ref 0), (1, .int x1), (2, .int x2)], [], (hp tx pg rd d e false)) (some res, (hp tx pg rd d e false)) := by
  unfold fn_T_has at h
  refine am_Ev.fork (b := decide (x1 < 0)) (s1 := (10, [(0, .ref 0), (1, .int x1), (2, .int x2)], [], (hp tx pg rd d e false))) (s2 := (4, [(0, .ref 0), (1, .int x1), (2, .int x2)], [], (hp tx pg rd d e false))) 2 (fun _ => rfl) (fun hc => ?_) (fun hc => ?_)
  · have h := (am_ift hc).symm.trans h
    cases h
    exact am_Ev.done 1 rfl
  · have h := (am_iff hc).symm.trans h
    refine am_Ev.fork (b := decide (x1 < (8 : Int32))) (s1 := (20, [(0, .ref 0), (1, .int x1), (2, .int x2)], [], (hp tx pg rd d e false))) (s2 := (10, [(0, .ref 0), (1, .int x1), (2, .int x2)], [], (hp tx pg rd d e false))) 3 (fun _ => rfl) (fun hc => ?_) (fun hc => ?_)
    · have h := (am_ift hc).symm.trans h
      obtain ⟨q1, hq, h⟩ := Option.bind_eq_some_iff.mp h
      refine am_Ev.go 4 (st' := (26, [(0, .ref 0), (1, .int x1), (2, .int x2)], [.int x2, .int x1, .ref 13], (hp tx pg rd d e false))) (fun _ => rfl) ?_
      refine am_Ev.call (o := am_run cPT cML (n0 + 2) 9 [.ref 13, .int x1, .int x2] (hp tx pg rd d e false)) (kk := fun q => (29, [(0, .ref 0), (1, .int x1), (2, .int x2)], q.1.toList ++ [], q.2)) (q := (some (.int q1), (hp tx pg rd d e false))) 1 (fun _ => rfl) (ev_D_holds_A hq) ?_
      refine am_Ev.fork (b := decide (q1 = 0)) (s1 := (32, [(0, .ref 0), (1, .int x1), (2, .int x2)], [], (hp tx pg rd d e false))) (s2 := (42, [(0, .ref 0), (1, .int x1), (2, .int x2)], [], (hp tx pg rd d e false))) 1 (fun _ => rfl) (fun hc => ?_) (fun hc => ?_)
      · have h := (am_ift hc).symm.trans h
        cases h
        exact am_Ev.done 1 rfl
      · have h := (am_iff hc).symm.trans h
        obtain ⟨q2, hq, h⟩ := Option.bind_eq_some_iff.mp h
        refine am_Ev.go 4 (st' := (48, [(0, .ref 0), (1, .int x1), (2, .int x2)], [.int x2, .int x1, .ref 13], (hp tx pg rd d e false))) (fun _ => rfl) ?_
        refine am_Ev.call (o := am_run cPT cML (n0 + 2) 10 [.ref 13, .int x1, .int x2] (hp tx pg rd d e false)) (kk := fun q => (51, [(0, .ref 0), (1, .int x1), (2, .int x2)], q.1.toList ++ [], q.2)) (q := (some (.int q2), (hp tx pg rd d e false))) 1 (fun _ => rfl) (ev_D_get_A hq) ?_
        cases h
        exact am_Ev.done 1 rfl
    · have h := (am_iff hc).symm.trans h
      cases h
      exact am_Ev.done 1 rfl
theorem ev_T_has_B {n0 : Nat} {tx : SB} {pg : SB} {rd : SR} {e : SD} {x1 : Int32} {x2 : Int32} {d : SD} {res : Value} (h : fn_T_has x1 x2 d = some res) : am_Ev (tb_T_has (am_run cPT cML (n0 + 2))) (0, [(0, .ref 0), (1, .int x1), (2, .int x2)], [], (hp tx pg rd e d true)) (some res, (hp tx pg rd e d true)) := by
  unfold fn_T_has at h
  refine am_Ev.fork (b := decide (x1 < 0)) (s1 := (10, [(0, .ref 0), (1, .int x1), (2, .int x2)], [], (hp tx pg rd e d true))) (s2 := (4, [(0, .ref 0), (1, .int x1), (2, .int x2)], [], (hp tx pg rd e d true))) 2 (fun _ => rfl) (fun hc => ?_) (fun hc => ?_)
  · have h := (am_ift hc).symm.trans h
    cases h
    exact am_Ev.done 1 rfl
  · have h := (am_iff hc).symm.trans h
    refine am_Ev.fork (b := decide (x1 < (8 : Int32))) (s1 := (20, [(0, .ref 0), (1, .int x1), (2, .int x2)], [], (hp tx pg rd e d true))) (s2 := (10, [(0, .ref 0), (1, .int x1), (2, .int x2)], [], (hp tx pg rd e d true))) 3 (fun _ => rfl) (fun hc => ?_) (fun hc => ?_)
    · have h := (am_ift hc).symm.trans h
      obtain ⟨q1, hq, h⟩ := Option.bind_eq_some_iff.mp h
      refine am_Ev.go 4 (st' := (26, [(0, .ref 0), (1, .int x1), (2, .int x2)], [.int x2, .int x1, .ref 26], (hp tx pg rd e d true))) (fun _ => rfl) ?_
      refine am_Ev.call (o := am_run cPT cML (n0 + 2) 9 [.ref 26, .int x1, .int x2] (hp tx pg rd e d true)) (kk := fun q => (29, [(0, .ref 0), (1, .int x1), (2, .int x2)], q.1.toList ++ [], q.2)) (q := (some (.int q1), (hp tx pg rd e d true))) 1 (fun _ => rfl) (ev_D_holds_B hq) ?_
      refine am_Ev.fork (b := decide (q1 = 0)) (s1 := (32, [(0, .ref 0), (1, .int x1), (2, .int x2)], [], (hp tx pg rd e d true))) (s2 := (42, [(0, .ref 0), (1, .int x1), (2, .int x2)], [], (hp tx pg rd e d true))) 1 (fun _ => rfl) (fun hc => ?_) (fun hc => ?_)
      · have h := (am_ift hc).symm.trans h
        cases h
        exact am_Ev.done 1 rfl
      · have h := (am_iff hc).symm.trans h
        obtain ⟨q2, hq, h⟩ := Option.bind_eq_some_iff.mp h
        refine am_Ev.go 4 (st' := (48, [(0, .ref 0), (1, .int x1), (2, .int x2)], [.int x2, .int x1, .ref 26], (hp tx pg rd e d true))) (fun _ => rfl) ?_
        refine am_Ev.call (o := am_run cPT cML (n0 + 2) 10 [.ref 26, .int x1, .int x2] (hp tx pg rd e d true)) (kk := fun q => (51, [(0, .ref 0), (1, .int x1), (2, .int x2)], q.1.toList ++ [], q.2)) (q := (some (.int q2), (hp tx pg rd e d true))) 1 (fun _ => rfl) (ev_D_get_B hq) ?_
        cases h
        exact am_Ev.done 1 rfl
    · have h := (am_iff hc).symm.trans h
      cases h
      exact am_Ev.done 1 rfl
theorem ev_T_write_80_A {n0 : Nat} {tx : SB} {rd : SR} {e : SD} {pg : SB} {d : SD} {res : Value × SB} (h : fn_T_write_80 pg d = some res) : am_Ev (tb_T_write (am_run cPT cML (n0 + 5))) (80, [(0, .ref 0)], [], (hp tx pg rd d e false)) (some res.1, (hp tx res.2 rd d e false)) := by
  unfold fn_T_write_80 at h
  obtain ⟨q1, hq, h⟩ := Option.bind_eq_some_iff.mp h
  refine am_Ev.go 2 (st' := (84, [(0, .ref 0)], [.ref 3], (hp tx pg rd d e false))) (fun _ => rfl) ?_
  refine am_Ev.call (o := am_run cPT cML (n0 + 5) 0 [.ref 3] (hp tx pg rd d e false)) (kk := fun q => (87, [(0, .ref 0)], q.1.toList ++ [], q.2)) (q := (some (.int q1), (hp tx pg rd d e false))) 1 (fun _ => rfl) (ev_B_size_p hq) ?_
  cases h
  exact am_Ev.done 1 rfl
theorem ev_T_write_44_A {n0 : Nat} {tx : SB} {rd : SR} {e : SD} {x1 : Int32} {pg : SB} {d : SD} {res : Value × SB} (h : fn_T_write_44 x1 pg d = some res) : am_Ev (tb_T_write (am_run cPT cML (n0 + 5))) (44, [(0, .ref 0), (1, .int x1)], [], (hp tx pg rd d e false)) (some res.1, (hp tx res.2 rd d e false)) := by
  unfold fn_T_write_44 at h
  obtain ⟨q2, hq, h⟩ := Option.bind_eq_some_iff.mp h
  refine am_Ev.go 2 (st' := (48, [(0, .ref 0), (1, .int x1)], [.ref 3], (hp tx pg rd d e false))) (fun _ => rfl) ?_
  refine am_Ev.call (o := am_run cPT cML (n0 + 5) 1 [.ref 3] (hp tx pg rd d e false)) (kk := fun q => (51, [(0, .ref 0), (1, .int x1)], q.1.toList ++ [], q.2)) (q := (none, (hp tx q2 rd d e false))) 1 (fun _ => rfl) (ev_B_clear_p hq) ?_
  refine am_Ev.fork (b := decide (x1 = 0)) (s1 := (55, [(0, .ref 0), (1, .int x1)], [], (hp tx q2 rd d e false))) (s2 := (69, [(0, .ref 0), (1, .int x1)], [], (hp tx q2 rd d e false))) 2 (fun _ => rfl) (fun hc => ?_) (fun hc => ?_)
  · have h := (am_ift hc).symm.trans h
    obtain ⟨q3, hq, h⟩ := Option.bind_eq_some_iff.mp h
    refine am_Ev.go 4 (st' := (63, [(0, .ref 0), (1, .int x1)], [.ref 13, .ref 12], (hp tx q2 rd d e false))) (fun _ => rfl) ?_
    refine am_Ev.call (o := am_run cPT cML (n0 + 5) 32 [.ref 12, .ref 13] (hp tx q2 rd d e false)) (kk := fun q => (66, [(0, .ref 0), (1, .int x1)], q.1.toList ++ [], q.2)) (q := (none, (hp tx q3 rd d e false))) 1 (fun _ => rfl) (ev_W_plain_A hq) ?_
    refine am_Ev.go 1 (st' := (80, [(0, .ref 0), (1, .int x1)], [], (hp tx q3 rd d e false))) (fun _ => rfl) ?_
    refine am_Ev.same (st' := (80, [(0, .ref 0)], [], (hp tx q3 rd d e false))) (fun _ => rfl) ?_
    exact ev_T_write_80_A h
  · have h := (am_iff hc).symm.trans h
    obtain ⟨q4, hq, h⟩ := Option.bind_eq_some_iff.mp h
    refine am_Ev.go 4 (st' := (77, [(0, .ref 0), (1, .int x1)], [.ref 13, .ref 12], (hp tx q2 rd d e false))) (fun _ => rfl) ?_
    refine am_Ev.call (o := am_run cPT cML (n0 + 5) 33 [.ref 12, .ref 13] (hp tx q2 rd d e false)) (kk := fun q => (80, [(0, .ref 0), (1, .int x1)], q.1.toList ++ [], q.2)) (q := (none, (hp tx q4 rd d e false))) 1 (fun _ => rfl) (ev_W_packed_A hq) ?_
    refine am_Ev.same (st' := (80, [(0, .ref 0)], [], (hp tx q4 rd d e false))) (fun _ => rfl) ?_
    exact ev_T_write_80_A h
theorem ev_T_write_19_A {n0 : Nat} {tx : SB} {rd : SR} {e : SD} {x1 : Int32} {pg : SB} {d : SD} {res : Value × SB} (h : fn_T_write_19 x1 pg d = some res) : am_Ev (tb_T_write (am_run cPT cML (n0 + 5))) (19, [(0, .ref 0), (1, .int x1)], [], (hp tx pg rd d e false)) (some res.1, (hp tx res.2 rd d e false)) := by
  unfold fn_T_write_19 at h
  refine am_Ev.fork (b := decide (x1 = (1 : Int32))) (s1 := (24, [(0, .ref 0), (1, .int x1)], [], (hp tx pg rd d e false))) (s2 := (44, [(0, .ref 0), (1, .int x1)], [], (hp tx pg rd d e false))) 3 (fun _ => rfl) (fun hc => ?_) (fun hc => ?_)
  · have h := (am_ift hc).symm.trans h
    obtain ⟨q5, hq, h⟩ := Option.bind_eq_some_iff.mp h
    refine am_Ev.go 2 (st' := (28, [(0, .ref 0), (1, .int x1)], [.ref 13], (hp tx pg rd d e false))) (fun _ => rfl) ?_
    refine am_Ev.call (o := am_run cPT cML (n0 + 5) 13 [.ref 13] (hp tx pg rd d e false)) (kk := fun q => (31, [(0, .ref 0), (1, .int x1)], q.1.toList ++ [], q.2)) (q := (some (.int q5), (hp tx pg rd d e false))) 1 (fun _ => rfl) (ev_D_inOrder_A hq) ?_
    refine am_Ev.fork (b := decide (q5 = 0)) (s1 := (34, [(0, .ref 0), (1, .int x1)], [], (hp tx pg rd d e false))) (s2 := (44, [(0, .ref 0), (1, .int x1)], [], (hp tx pg rd d e false))) 1 (fun _ => rfl) (fun hc => ?_) (fun hc => ?_)
    · have h := (am_ift hc).symm.trans h
      cases h
      exact am_Ev.done 1 rfl
    · have h := (am_iff hc).symm.trans h
      exact ev_T_write_44_A h
  · have h := (am_iff hc).symm.trans h
    exact ev_T_write_44_A h
theorem ev_T_write_A {n0 : Nat} {tx : SB} {rd : SR} {e : SD} {x1 : Int32} {pg : SB} {d : SD} {res : Value × SB} (h : fn_T_write x1 pg d = some res) : am_Ev (tb_T_write (am_run cPT cML (n0 + 5))) (0, [(0, .ref 0), (1, .int x1)], [], (hp tx pg rd d e false)) (some res.1, (hp tx res.2 rd d e false)) := by
  unfold fn_T_write at h
  refine am_Ev.fork (b := decide (x1 = 0)) (s1 := (19, [(0, .ref 0), (1, .int x1)], [], (hp tx pg rd d e false))) (s2 := (4, [(0, .ref 0), (1, .int x1)], [], (hp tx pg rd d e false))) 2 (fun _ => rfl) (fun hc => ?_) (fun hc => ?_)
  · have h := (am_ift hc).symm.trans h
    exact ev_T_write_19_A h
  · have h := (am_iff hc).symm.trans h
    refine am_Ev.fork (b := decide (x1 = (1 : Int32))) (s1 := (19, [(0, .ref 0), (1, .int x1)], [], (hp tx pg rd d e false))) (s2 := (9, [(0, .ref 0), (1, .int x1)], [], (hp tx pg rd d e false))) 3 (fun _ => rfl) (fun hc => ?_) (fun hc => ?_)
    · have h := (am_ift hc).symm.trans h
      exact ev_T_write_19_A h
    · have h := (am_iff hc).symm.trans h
      cases h
      exact am_Ev.done 1 rfl
theorem ev_T_write_80_B {n0 : Nat} {tx : SB} {rd : SR} {e : SD} {pg : SB} {d : SD} {res : Value × SB} (h : fn_T_write_80 pg d = some res) : am_Ev (tb_T_write (am_run cPT cML (n0 + 5))) (80, [(0, .ref 0)], [], (hp tx pg rd e d true)) (some res.1, (hp tx res.2 rd e d true)) := by
  unfold fn_T_write_80 at h
  obtain ⟨q1, hq, h⟩ := Option.bind_eq_some_iff.mp h
  refine am_Ev.go 2 (st' := (84, [(0, .ref 0)], [.ref 3], (hp tx pg rd e d true))) (fun _ => rfl) ?_
  refine am_Ev.call (o := am_run cPT cML (n0 + 5) 0 [.ref 3] (hp tx pg rd e d true)) (kk := fun q => (87, [(0, .ref 0)], q.1.toList ++ [], q.2)) (q := (some (.int q1), (hp tx pg rd e d true))) 1 (fun _ => rfl) (ev_B_size_p hq) ?_
  cases h
  exact am_Ev.done 1 rfl
theorem ev_T_write_44_B {n0 : Nat} {tx : SB} {rd : SR} {e : SD} {x1 : Int32} {pg : SB} {d : SD} {res : Value × SB} (h : fn_T_write_44 x1 pg d = some res) : am_Ev (tb_T_write (am_run cPT cML (n0 + 5))) (44, [(0, .ref 0), (1, .int x1)], [], (hp tx pg rd e d true)) (some res.1, (hp tx res.2 rd e d true)) := by
  unfold fn_T_write_44 at h
  obtain ⟨q2, hq, h⟩ := Option.bind_eq_some_iff.mp h
  refine am_Ev.go 2 (st' := (48, [(0, .ref 0), (1, .int x1)], [.ref 3], (hp tx pg rd e d true))) (fun _ => rfl) ?_
  refine am_Ev.call (o := am_run cPT cML (n0 + 5) 1 [.ref 3] (hp tx pg rd e d true)) (kk := fun q => (51, [(0, .ref 0), (1, .int x1)], q.1.toList ++ [], q.2)) (q := (none, (hp tx q2 rd e d true))) 1 (fun _ => rfl) (ev_B_clear_p hq) ?_
  refine am_Ev.fork (b := decide (x1 = 0)) (s1 := (55, [(0, .ref 0), (1, .int x1)], [], (hp tx q2 rd e d true))) (s2 := (69, [(0, .ref 0), (1, .int x1)], [], (hp tx q2 rd e d true))) 2 (fun _ => rfl) (fun hc => ?_) (fun hc => ?_)
  · have h := (am_ift hc).symm.trans h
    obtain ⟨q3, hq, h⟩ := Option.bind_eq_some_iff.mp h
    refine am_Ev.go 4 (st' := (63, [(0, .ref 0), (1, .int x1)], [.ref 26, .ref 12], (hp tx q2 rd e d true))) (fun _ => rfl) ?_
    refine am_Ev.call (o := am_run cPT cML (n0 + 5) 32 [.ref 12, .ref 26] (hp tx q2 rd e d true)) (kk := fun q => (66, [(0, .ref 0), (1, .int x1)], q.1.toList ++ [], q.2)) (q := (none, (hp tx q3 rd e d true))) 1 (fun _ => rfl) (ev_W_plain_B hq) ?_
    refine am_Ev.go 1 (st' := (80, [(0, .ref 0), (1, .int x1)], [], (hp tx q3 rd e d true))) (fun _ => rfl) ?_
    refine am_Ev.same (st' := (80, [(0, .ref 0)], [], (hp tx q3 rd e d true))) (fun _ => rfl) ?_
    exact ev_T_write_80_B h
  · have h := (am_iff hc).symm.trans h
    obtain ⟨q4, hq, h⟩ := Option.bind_eq_some_iff.mp h
    refine am_Ev.go 4 (st' := (77, [(0, .ref 0), (1, .int x1)], [.ref 26, .ref 12], (hp tx q2 rd e d true))) (fun _ => rfl) ?_
    refine am_Ev.call (o := am_run cPT cML (n0 + 5) 33 [.ref 12, .ref 26] (hp tx q2 rd e d true)) (kk := fun q => (80, [(0, .ref 0), (1, .int x1)], q.1.toList ++ [], q.2)) (q := (none, (hp tx q4 rd e d true))) 1 (fun _ => rfl) (ev_W_packed_B hq) ?_
    refine am_Ev.same (st' := (80, [(0, .ref 0)], [], (hp tx q4 rd e d true))) (fun _ => rfl) ?_
    exact ev_T_write_80_B h
theorem ev_T_write_19_B {n0 : Nat} {tx : SB} {rd : SR} {e : SD} {x1 : Int32} {pg : SB} {d : SD} {res : Value × SB} (h : fn_T_write_19 x1 pg d = some res) : am_Ev (tb_T_write (am_run cPT cML (n0 + 5))) (19, [(0, .ref 0), (1, .int x1)], [], (hp tx pg rd e d true)) (some res.1, (hp tx res.2 rd e d true)) := by
  unfold fn_T_write_19 at h
  refine am_Ev.fork (b := decide (x1 = (1 : Int32))) (s1 := (24, [(0, .ref 0), (1, .int x1)], [], (hp tx pg rd e d true))) (s2 := (44, [(0, .ref 0), (1, .int x1)], [], (hp tx pg rd e d true))) 3 (fun _ => rfl) (fun hc => ?_) (fun hc => ?_)
  · have h := (am_ift hc).symm.trans h
    obtain ⟨q5, hq, h⟩ := Option.bind_eq_some_iff.mp h
    refine am_Ev.go 2 (st' := (28, [(0, .ref 0), (1, .int x1)], [.ref 26], (hp tx pg rd e d true))) (fun _ => rfl) ?_
    refine am_Ev.call (o := am_run cPT cML (n0 + 5) 13 [.ref 26] (hp tx pg rd e d true)) (kk := fun q => (31, [(0, .ref 0), (1, .int x1)], q.1.toList ++ [], q.2)) (q := (some (.int q5), (hp tx pg rd e d true))) 1 (fun _ => rfl) (ev_D_inOrder_B hq) ?_
    refine am_Ev.fork (b := decide (q5 = 0)) (s1 := (34, [(0, .ref 0), (1, .int x1)], [], (hp tx pg rd e d true))) (s2 := (44, [(0, .ref 0), (1, .int x1)], [], (hp tx pg rd e d true))) 1 (fun _ => rfl) (fun hc => ?_) (fun hc => ?_)
    · have h := (am_ift hc).symm.trans h
      cases h
      exact am_Ev.done 1 rfl
    · have h := (am_iff hc).symm.trans h
      exact ev_T_write_44_B h
  · have h := (am_iff hc).symm.trans h
    exact ev_T_write_44_B h
theorem ev_T_write_B {n0 : Nat} {tx : SB} {rd : SR} {e : SD} {x1 : Int32} {pg : SB} {d : SD} {res : Value × SB} (h : fn_T_write x1 pg d = some res) : am_Ev (tb_T_write (am_run cPT cML (n0 + 5))) (0, [(0, .ref 0), (1, .int x1)], [], (hp tx pg rd e d true)) (some res.1, (hp tx res.2 rd e d true)) := by
  unfold fn_T_write at h
  refine am_Ev.fork (b := decide (x1 = 0)) (s1 := (19, [(0, .ref 0), (1, .int x1)], [], (hp tx pg rd e d true))) (s2 := (4, [(0, .ref 0), (1, .int x1)], [], (hp tx pg rd e d true))) 2 (fun _ => rfl) (fun hc => ?_) (fun hc => ?_)
  · have h := (am_ift hc).symm.trans h
    exact ev_T_write_19_B h
  · have h := (am_iff hc).symm.trans h
    refine am_Ev.fork (b := decide (x1 = (1 : Int32))) (s1 := (19, [(0, .ref 0), (1, .int x1)], [], (hp tx pg rd e d true))) (s2 := (9, [(0, .ref 0), (1, .int x1)], [], (hp tx pg rd e d true))) 3 (fun _ => rfl) (fun hc => ?_) (fun hc => ?_)
    · have h := (am_ift hc).symm.trans h
      exact ev_T_write_19_B h
    · have h := (am_iff hc).symm.trans h
      cases h
      exact am_Ev.done 1 rfl
theorem ev_T_written_A {n0 : Nat} {tx : SB} {rd : SR} {d : SD} {e : SD} {x1 : Int32} {pg : SB} {res : Value} (h : fn_T_written x1 pg = some res) : am_Ev (tb_T_written (am_run cPT cML (n0 + 1))) (0, [(0, .ref 0), (1, .int x1)], [], (hp tx pg rd d e false)) (some res, (hp tx pg rd d e false)) := by
  unfold fn_T_written at h
  refine am_Ev.fork (b := decide (0 ≤ x1)) (s1 := (14, [(0, .ref 0), (1, .int x1)], [], (hp tx pg rd d e false))) (s2 := (4, [(0, .ref 0), (1, .int x1)], [], (hp tx pg rd d e false))) 2 (fun _ => rfl) (fun hc => ?_) (fun hc => ?_)
  · have h := (am_ift hc).symm.trans h
    obtain ⟨q1, hq, h⟩ := Option.bind_eq_some_iff.mp h
    refine am_Ev.go 3 (st' := (19, [(0, .ref 0), (1, .int x1)], [.int x1, .ref 3], (hp tx pg rd d e false))) (fun _ => rfl) ?_
    refine am_Ev.call (o := am_run cPT cML (n0 + 1) 3 [.ref 3, .int x1] (hp tx pg rd d e false)) (kk := fun q => (22, [(0, .ref 0), (1, .int x1)], q.1.toList ++ [], q.2)) (q := (some (.int q1), (hp tx pg rd d e false))) 1 (fun _ => rfl) (ev_B_at_p hq) ?_
    cases h
    exact am_Ev.done 1 rfl
  · have h := (am_iff hc).symm.trans h
    cases h
    exact am_Ev.done 1 rfl
theorem ev_T_written_B {n0 : Nat} {tx : SB} {rd : SR} {e : SD} {d : SD} {x1 : Int32} {pg : SB} {res : Value} (h : fn_T_written x1 pg = some res) : am_Ev (tb_T_written (am_run cPT cML (n0 + 1))) (0, [(0, .ref 0), (1, .int x1)], [], (hp tx pg rd e d true)) (some res, (hp tx pg rd e d true)) := by
  unfold fn_T_written at h
  refine am_Ev.fork (b := decide (0 ≤ x1)) (s1 := (14, [(0, .ref 0), (1, .int x1)], [], (hp tx pg rd e d true))) (s2 := (4, [(0, .ref 0), (1, .int x1)], [], (hp tx pg rd e d true))) 2 (fun _ => rfl) (fun hc => ?_) (fun hc => ?_)
  · have h := (am_ift hc).symm.trans h
    obtain ⟨q1, hq, h⟩ := Option.bind_eq_some_iff.mp h
    refine am_Ev.go 3 (st' := (19, [(0, .ref 0), (1, .int x1)], [.int x1, .ref 3], (hp tx pg rd e d true))) (fun _ => rfl) ?_
    refine am_Ev.call (o := am_run cPT cML (n0 + 1) 3 [.ref 3, .int x1] (hp tx pg rd e d true)) (kk := fun q => (22, [(0, .ref 0), (1, .int x1)], q.1.toList ++ [], q.2)) (q := (some (.int q1), (hp tx pg rd e d true))) 1 (fun _ => rfl) (ev_B_at_p hq) ?_
    cases h
    exact am_Ev.done 1 rfl
  · have h := (am_iff hc).symm.trans h
    cases h
    exact am_Ev.done 1 rfl
theorem cx_T_put {l : Launch} {D : va_G} {ρ : Nat → Nat} {kc : Nat → ClassId} {av : List Value} {h : am_H} {r : am_R} (hl : l.stackTraces = false) (hinj : am_inj ρ 39) (hav : (lg_sl av).length ≤ 4) (he : am_Ev (tb_T_put (am_run cPT cML 6)) (0, lv_args 0 av, [], h) r) (hlen : h.length = 39) (sz : Nat) : MetFree l ⟨"DesignTexts", "put", "(II)I"⟩ (headSpec cw_T_put ax_rm) (ax_Pc D aCl ρ kc am_fts 39 sz av h) (fun _ _ _ _ _ => True) (ax_Q D aCl ρ kc 39 sz r) :=
  ax_met (cc := prog_1_method_2_code) (maxL := 4) (ret := some .int) (by decide) rfl hinj ⟨by decide, by decide⟩ hav (fun p e s m args below meth c C hr hex hOk hZ => sx_T_put C hr (ca_ce hinj 6) ⟨rfl, rfl⟩ (fun hk => by simp only [am_rm, ax_rm]; omega) hl hex hOk hZ ⟨by decide, by decide, by decide, by decide⟩) he hlen
theorem cx_T_has {l : Launch} {D : va_G} {ρ : Nat → Nat} {kc : Nat → ClassId} {av : List Value} {h : am_H} {r : am_R} (hl : l.stackTraces = false) (hinj : am_inj ρ 39) (hav : (lg_sl av).length ≤ 3) (he : am_Ev (tb_T_has (am_run cPT cML 6)) (0, lv_args 0 av, [], h) r) (hlen : h.length = 39) (sz : Nat) : MetFree l ⟨"DesignTexts", "has", "(II)I"⟩ (headSpec cw_T_has ax_rm) (ax_Pc D aCl ρ kc am_fts 39 sz av h) (fun _ _ _ _ _ => True) (ax_Q D aCl ρ kc 39 sz r) :=
  ax_met (cc := prog_1_method_5_code) (maxL := 3) (ret := some .int) (by decide) rfl hinj ⟨by decide, by decide⟩ hav (fun p e s m args below meth c C hr hex hOk hZ => sx_T_has C hr (ca_ce hinj 6) ⟨rfl, rfl⟩ (fun hk => by simp only [am_rm, ax_rm]; omega) hl hex hOk hZ ⟨by decide, by decide, by decide, by decide⟩) he hlen
theorem cx_T_write {l : Launch} {D : va_G} {ρ : Nat → Nat} {kc : Nat → ClassId} {av : List Value} {h : am_H} {r : am_R} (hl : l.stackTraces = false) (hinj : am_inj ρ 39) (hav : (lg_sl av).length ≤ 2) (he : am_Ev (tb_T_write (am_run cPT cML 6)) (0, lv_args 0 av, [], h) r) (hlen : h.length = 39) (sz : Nat) : MetFree l ⟨"DesignTexts", "write", "(I)I"⟩ (headSpec cw_T_write ax_rm) (ax_Pc D aCl ρ kc am_fts 39 sz av h) (fun _ _ _ _ _ => True) (ax_Q D aCl ρ kc 39 sz r) :=
  ax_met (cc := prog_1_method_7_code) (maxL := 2) (ret := some .int) (by decide) rfl hinj ⟨by decide, by decide⟩ hav (fun p e s m args below meth c C hr hex hOk hZ => sx_T_write C hr (ca_ce hinj 6) ⟨rfl, rfl⟩ (fun hk => by simp only [am_rm, ax_rm]; omega) hl hex hOk hZ ⟨by decide, by decide, by decide, by decide⟩) he hlen
theorem cx_T_written {l : Launch} {D : va_G} {ρ : Nat → Nat} {kc : Nat → ClassId} {av : List Value} {h : am_H} {r : am_R} (hl : l.stackTraces = false) (hinj : am_inj ρ 39) (hav : (lg_sl av).length ≤ 2) (he : am_Ev (tb_T_written (am_run cPT cML 6)) (0, lv_args 0 av, [], h) r) (hlen : h.length = 39) (sz : Nat) : MetFree l ⟨"DesignTexts", "written", "(I)I"⟩ (headSpec cw_T_written ax_rm) (ax_Pc D aCl ρ kc am_fts 39 sz av h) (fun _ _ _ _ _ => True) (ax_Q D aCl ρ kc 39 sz r) :=
  ax_met (cc := prog_1_method_8_code) (maxL := 2) (ret := some .int) (by decide) rfl hinj ⟨by decide, by decide⟩ hav (fun p e s m args below meth c C hr hex hOk hZ => sx_T_written C hr (ca_ce hinj 6) ⟨rfl, rfl⟩ (fun hk => by simp only [am_rm, ax_rm]; omega) hl hex hOk hZ ⟨by decide, by decide, by decide, by decide⟩) he hlen
