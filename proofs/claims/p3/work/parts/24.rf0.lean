/-! A REFUTATION: the law answers 0 on a script at which the class's read and the reference's differ -/
def rf_Z (below : List Frame) : State → Prop := fun t => t.status = .running ∧ Ended t below (.returned (some (.int 0)))
theorem rf_ret {p : Program} {l : Launch} {e : Env} {s : State} {m : MethodId} {below : List Frame} {meth : Method} {c : Code} {b : Nat} (hx : p.tables.exec = Jvm.exec) (hb : c.code = code) (hr : meth.sig.returnType = ret) (hlocks : meth.locks = false) {pc : Nat} {H : Heap} {locs : List Loc} {cells slots : Nat} {ls : Array Slot} (hdg : decode code pc = .ok (.ireturn, 1)) : W p l e room_1 s m #[Value.ref b] below meth c H locs cells slots (rf_Z below) (F0 m pc ls [.int 0]) := by
  intro T hT X
  obtain ⟨fs, hret, hrun, hended, hW, hframe⟩ := X.leave (v := some (.int 0)) (hlocks := hlocks) (fun h => by rw [hr] at h; cases h)
  have hmeth' : T.vm.method? m = some meth := X.method'
  refine ⟨T.setFrames fs, ?_, hrun, hended⟩
  jvm_step X.here [X.here.top, hx, hb, hdg, hmeth', hr, ret, narrow_b0]
  (try refine ⟨rfl, ?_⟩); (try refine ⟨rfl, ?_⟩)
  first | (intro acts; rw [hret _ acts rfl rfl rfl]) | rw [hret _ _ rfl rfl rfl]
  exact Steps.refl _
set_option maxHeartbeats 4000000 in
set_option maxRecDepth 100000 in
theorem rf_put {p : Program} {l : Launch} {e : Env} {s : State} {m : MethodId} {below : List Frame} {meth : Method} {c : Code} {D : va_G} {kc : Nat → ClassId} {b L : Nat} {xs : Nat → Int32} {ρC ρR : Nat → Nat} {oa : Nat} {R R' : am_H → am_H → Prop} {Q : State → Prop} {p0 p1 : Int32} {i : Nat} {cells slots : Nat} (Sh : lo_shape R) (Sh' : lo_shape R') (q0 : xs ((nI i) + 1).toNatClampNeg = p0) (q1 : xs ((nI i) + 2).toNatClampNeg = p1) (Sp : lo_x R R' tb_T_put (fun o => (∃ v, o = some (.int v)) ∨ o = some (.retAddr 0) ∨ o = some (.retAddr 1)) 0 [.int p0, .int p1]) (X : lw_X p l s m meth c D kc b L xs) (Fx : lw_Fx s ρC ρR oa) (hL : L ≤ 1536) (hi : i + 3 ≤ L) (hcs : cells + 1 ≤ 601024 ∧ slots + 6 ≤ 7293034) {hC hR : am_H} {f : Nat → Int64} {H : Heap} {locs : List Loc} {ls : Array Slot} (hRl : R hC hR) (I : lw_I s D kc ρC ρR oa hC hR f H locs) (hl : lv_has ls 7 [(0, .ref b), (1, .ref (ρC 0)), (2, .ref (ρR 0)), (3, .ref oa), (4, .int (nI i))])
    (kk : ∀ (hC' hR' : am_H) (f' : Nat → Int64) (H1 : Heap) (locs1 : List Loc) (ls1 : Array Slot), R' hC' hR' → lw_I s D kc ρC ρR oa hC' hR' f' H1 locs1 → lv_has ls1 7 [(0, .ref b), (1, .ref (ρC 0)), (2, .ref (ρR 0)), (3, .ref oa), (4, .int (nI i))] → W p l e room_1 s m #[Value.ref b] below meth c H1 locs1 (cells + 1) (slots + 6) Q (F0 m 326 ls1 [])) :
    W p l e room_1 s m #[Value.ref b] below meth c H locs cells slots Q (F0 m 92 ls []) := by
  subst q0
  subst q1
  obtain ⟨⟨fsC, h0C⟩, fsR, h0R⟩ := Sh hC hR hRl
  obtain ⟨⟨hx, hb, hr, hml, hown, hts, hX, hbl, hlocks, hgv⟩, hK, hOk, hN, hZ, hst⟩ := id X
  have hbA : ¬ lw_A s b := Nat.not_le.mpr hbl
  refine lv_aload_n hx hb d_law_92 rfl (lv_at hl 1 rfl) ?_
  refine lv_aload_n hx hb d_law_93 rfl (lv_at hl 0 rfl) ?_
  refine lv_iload hx hb d_law_94 (lv_at hl 4 rfl) ?_
  refine lv_iconst (v := 1) hx hb d_law_96 (by decide) ?_
  refine lv_iadd hx hb d_law_97 ?_
  refine va_sld hx hb hX hbl hbA I.2.2.2.2.2 (lw_in1 hL hi) d_law_98 ?_
  refine lv_aload_n hx hb d_law_99 rfl (lv_at hl 0 rfl) ?_
  refine lv_iload hx hb d_law_100 (lv_at hl 4 rfl) ?_
  refine lv_iconst (v := 2) hx hb d_law_102 (by decide) ?_
  refine lv_iadd hx hb d_law_103 ?_
  refine va_sld hx hb hX hbl hbA I.2.2.2.2.2 (lw_in2 hL hi) d_law_104 ?_
  refine lv_aload_n hx hb d_law_105 rfl (lv_at hl 3 rfl) ?_
  obtain ⟨r, w, hR1, hEv, hk, hrR, hRl1⟩ := Sp hC hR hRl
  refine lw_callX (n := 4) (ia := [.int (xs ((nI i) + 1).toNatClampNeg), .int (xs ((nI i) + 2).toNatClampNeg)]) (rest := []) X Fx I (lx_put I.1 h0C Fx.2.2.2.1 (fun sz => cx_T_put hst Fx.1 (Nat.le_of_ble_eq_true rfl) hEv I.1 sz) hk) wt_504 wt_505 wt_506 wl_put (by decide +kernel) (by decide) rfl (Nat.le_of_ble_eq_true rfl) hl.1 d_law_106 hcs (fun co f1 H locs hcase I => ?_)
  refine W.eq (g2 := F0 m 109 ls [.int co]) rfl ?_
  refine lv_istore (lv' := [(5, .int co), (0, .ref b), (1, .ref (ρC 0)), (2, .ref (ρR 0)), (3, .ref oa), (4, .int (nI i))]) hx hb d_law_109 hl (by decide) rfl (fun ls hl => ?_)
  refine lv_aload_n hx hb d_law_111 rfl (lv_at hl 3 rfl) ?_
  refine lv_aload_n hx hb d_law_112 rfl (lv_at hl 1 rfl) ?_
  refine lv_iload hx hb d_law_113 (lv_at hl 5 rfl) ?_
  refine lv_iconst (v := 1) hx hb d_law_115 (by decide) ?_
  refine lv_iadd hx hb d_law_116 ?_
  refine va_sld hx hb hX hbl hbA I.2.2.2.2.2 (lw_in1 hL hi) d_law_117 ?_
  refine lv_aload_n hx hb d_law_118 rfl (lv_at hl 1 rfl) ?_
  refine lv_iload hx hb d_law_119 (lv_at hl 5 rfl) ?_
  refine lv_iconst (v := 2) hx hb d_law_121 (by decide) ?_
  refine lv_iadd hx hb d_law_122 ?_
  refine va_sld hx hb hX hbl hbA I.2.2.2.2.2 (lw_in2 hL hi) d_law_123 ?_
  refine lw_callR (n := 2) (av := [.int (xs ((nI i) + 1).toNatClampNeg), .int (xs ((nI i) + 2).toNatClampNeg)]) (rest := []) X Fx I (id := 0) rfl hrR h0R wt_507 wt_508 wt_509 wt_350 wt_308 (by decide +kernel) (by decide) rfl rfl (Nat.le_of_ble_eq_true rfl) hl.1 d_law_124 hcs (fun H locs I => ?_)
  refine W.eq (g2 := F0 m 127 ls [.int w]) rfl ?_
  refine lv_istore (lv' := [(6, .int w), (5, .int co), (0, .ref b), (1, .ref (ρC 0)), (2, .ref (ρR 0)), (3, .ref oa), (4, .int (nI i))]) hx hb d_law_127 hl (by decide) rfl (fun ls hl => ?_)
  refine lv_goto (tgt := 326) hx hb d_law_129 (by decide) ?_
  exact kk _ _ _ _ _ _ hRl1 I (lv_sub hl [2, 3, 4, 5, 6] rfl)
set_option maxHeartbeats 4000000 in
set_option maxRecDepth 100000 in
theorem rf_read {p : Program} {l : Launch} {e : Env} {s : State} {m : MethodId} {below : List Frame} {meth : Method} {c : Code} {D : va_G} {kc : Nat → ClassId} {b L : Nat} {xs : Nat → Int32} {ρC ρR : Nat → Nat} {oa : Nat} {R : am_H → am_H → Prop} {i cells slots : Nat} (Sh : lo_shape R) (X : lw_X p l s m meth c D kc b L xs) (Fx : lw_Fx s ρC ρR oa) (hL : L ≤ 1536) (hi : i + 3 ≤ L) (hcs : cells + 1 ≤ 601024 ∧ slots + 6 ≤ 7293034) {hC hR : am_H} {f : Nat → Int64} {H : Heap} {locs : List Loc} {ls : Array Slot} (hRl : R hC hR) {hC1 hR1 : am_H} {v w : Int32} (hrC : am_run cPT cML 7 61 (.ref 0 :: []) hC = some (some (.int v), hC1)) (hrR : am_run rPT rML 7 16 (.ref 0 :: []) hR = some (some (.int w), hR1)) (hvw : ¬ v = w) (I : lw_I s D kc ρC ρR oa hC hR f H locs) (hl : lv_has ls 7 [(0, .ref b), (1, .ref (ρC 0)), (2, .ref (ρR 0)), (3, .ref oa), (4, .int (nI i))]) :
    W p l e room_1 s m #[Value.ref b] below meth c H locs cells slots (rf_Z below) (F0 m 132 ls []) := by
  obtain ⟨⟨fsC, h0C⟩, fsR, h0R⟩ := Sh hC hR hRl
  obtain ⟨⟨hx, hb, hr, hml, hown, hts, hX, hbl, hlocks, hgv⟩, hK, hOk, hN, hZ, hst⟩ := id X
  have hbA : ¬ lw_A s b := Nat.not_le.mpr hbl
  refine lv_aload_n hx hb d_law_132 rfl (lv_at hl 1 rfl) ?_
  refine lw_callC (n := 0) (av := []) (rest := []) X Fx I (id := 61) rfl hrC h0C wt_510 wt_511 wt_512 wt_275 wt_61 (by decide +kernel) (by decide) rfl rfl (Nat.le_of_ble_eq_true rfl) hl.1 d_law_133 ⟨Nat.le_of_succ_le hcs.1, Nat.le_trans (Nat.le_add_right _ 6) hcs.2⟩ (fun H locs I => ?_)
  refine W.eq (g2 := F0 m 136 ls [.int v]) rfl ?_
  refine lv_aload_n hx hb d_law_136 rfl (lv_at hl 2 rfl) ?_
  refine lw_callR (n := 0) (av := []) (rest := [.int v]) X Fx I (id := 16) rfl hrR h0R wt_513 wt_514 wt_515 wt_350 wt_324 (by decide +kernel) (by decide) rfl rfl (Nat.le_of_ble_eq_true rfl) hl.1 d_law_137 ⟨Nat.le_of_succ_le hcs.1, Nat.le_trans (Nat.le_add_right _ 6) hcs.2⟩ (fun H locs I => ?_)
  refine W.eq (g2 := F0 m 140 ls [.int w, .int v]) rfl ?_
  refine lv_icmp_eq (tgt := 326) hx hb d_law_140 (by decide) (fun c9 => absurd c9 hvw) (fun c9 => ?_)
  refine lv_iconst (v := 0) hx hb d_law_143 (by decide) ?_
  exact rf_ret hx hb hr hlocks d_law_144
set_option maxHeartbeats 4000000 in
set_option maxRecDepth 100000 in
theorem rf_step {p : Program} {l : Launch} {e : Env} {s : State} {m : MethodId} {below : List Frame} {meth : Method} {c : Code} {D : va_G} {kc : Nat → ClassId} {b L : Nat} {xs : Nat → Int32} {ρC ρR : Nat → Nat} {oa : Nat} {R R' : am_H → am_H → Prop} {Q : State → Prop} {p0 p1 : Int32} {i cells slots : Nat} (X : lw_X p l s m meth c D kc b L xs) (Fx : lw_Fx s ρC ρR oa) (hL : L ≤ 1536) (hi : i + 3 ≤ L) (hcs : cells + 1 ≤ 601024 ∧ slots + 6 ≤ 7293034) (hn : ¬ (Int32.ofNat L - 3 < nI i)) (ho : xs (nI i).toNatClampNeg &&& 15 = 0) (q0 : xs ((nI i) + 1).toNatClampNeg = p0) (q1 : xs ((nI i) + 2).toNatClampNeg = p1) (Sh : lo_shape R) (Sh' : lo_shape R') (Sp : lo_x R R' tb_T_put (fun o => (∃ v, o = some (.int v)) ∨ o = some (.retAddr 0) ∨ o = some (.retAddr 1)) 0 [.int p0, .int p1]) {hC hR : am_H} {f : Nat → Int64} {H : Heap} {locs : List Loc} {ls : Array Slot} (hRl : R hC hR) (I : lw_I s D kc ρC ρR oa hC hR f H locs) (hl : lv_has ls 7 [(0, .ref b), (1, .ref (ρC 0)), (2, .ref (ρR 0)), (3, .ref oa), (4, .int (nI i))])
    (kk : ∀ (hC' hR' : am_H) (f' : Nat → Int64) (H1 : Heap) (locs1 : List Loc) (ls1 : Array Slot), R' hC' hR' → lw_I s D kc ρC ρR oa hC' hR' f' H1 locs1 → lv_has ls1 7 [(0, .ref b), (1, .ref (ρC 0)), (2, .ref (ρR 0)), (3, .ref oa), (4, .int (nI (i + 3)))] → W p l e room_1 s m #[Value.ref b] below meth c H1 locs1 (cells + 1) (slots + 6) Q (F0 m 23 ls1 [])) :
    W p l e room_1 s m #[Value.ref b] below meth c H locs cells slots Q (F0 m 23 ls []) := by
  obtain ⟨⟨hx, hb, hr, hml, hown, hts, hX, hbl, hlocks, hgv⟩, hK, hOk, hN, hZ, hst⟩ := id X
  have hbA : ¬ lw_A s b := Nat.not_le.mpr hbl
  refine lv_iload hx hb d_law_23 (lv_at hl 4 rfl) ?_
  refine lv_aload_n hx hb d_law_25 rfl (lv_at hl 0 rfl) ?_
  refine va_slen hx hb hX hbl hbA I.2.2.2.2.2 d_law_26 ?_
  refine lv_iconst (v := 3) hx hb d_law_27 (by decide) ?_
  refine lv_isub hx hb d_law_28 ?_
  refine lv_icmp_gt (tgt := 332) hx hb d_law_29 (by decide) (fun c1 => absurd c1 hn) (fun c1 => ?_)
  refine lv_aload_n hx hb d_law_32 rfl (lv_at hl 0 rfl) ?_
  refine lv_iload hx hb d_law_33 (lv_at hl 4 rfl) ?_
  refine va_sld hx hb hX hbl hbA I.2.2.2.2.2 (vp_in_nI (by omega) (by omega)) d_law_35 ?_
  refine lv_bipush (v := 15) hx hb d_law_36 (by decide) ?_
  refine lv_iand hx hb d_law_38 ?_
  rw [ho]
  refine lv_tableIn (off := 53) (tgt := 92) hx hb d_law_39 (by decide) (by decide) (by decide) (by decide) ?_
  refine rf_put (R := R) (R' := R') Sh Sh' q0 q1 Sp X Fx hL hi hcs hRl I hl (fun hC' hR' f' H1 locs1 ls1 hRl' I' hl' => ?_)
  refine lv_iinc (v := nI (i + 3)) (lv' := [(4, .int (nI (i + 3))), (0, .ref b), (1, .ref (ρC 0)), (2, .ref (ρR 0)), (3, .ref oa)]) hx hb d_law_326 hl' (k := 4) rfl (nI_add i 3) (by decide) rfl (fun ls2 hl2 => ?_)
  refine lv_goto (tgt := 23) hx hb d_law_329 (by decide) ?_
  exact kk _ _ _ _ _ _ hRl' I' (lv_sub hl2 [1, 2, 3, 4, 0] rfl)
set_option maxHeartbeats 4000000 in
set_option maxRecDepth 100000 in
theorem rf_last {p : Program} {l : Launch} {e : Env} {s : State} {m : MethodId} {below : List Frame} {meth : Method} {c : Code} {D : va_G} {kc : Nat → ClassId} {b L : Nat} {xs : Nat → Int32} {ρC ρR : Nat → Nat} {oa : Nat} {R : am_H → am_H → Prop} {i cells slots : Nat} (X : lw_X p l s m meth c D kc b L xs) (Fx : lw_Fx s ρC ρR oa) (hL : L ≤ 1536) (hi : i + 3 ≤ L) (hcs : cells + 1 ≤ 601024 ∧ slots + 6 ≤ 7293034) (hn : ¬ (Int32.ofNat L - 3 < nI i)) (ho : xs (nI i).toNatClampNeg &&& 15 = 1) (Sh : lo_shape R) {hC hR : am_H} {f : Nat → Int64} {H : Heap} {locs : List Loc} {ls : Array Slot} (hRl : R hC hR) {hC1 hR1 : am_H} {v w : Int32} (hrC : am_run cPT cML 7 61 (.ref 0 :: []) hC = some (some (.int v), hC1)) (hrR : am_run rPT rML 7 16 (.ref 0 :: []) hR = some (some (.int w), hR1)) (hvw : ¬ v = w) (I : lw_I s D kc ρC ρR oa hC hR f H locs) (hl : lv_has ls 7 [(0, .ref b), (1, .ref (ρC 0)), (2, .ref (ρR 0)), (3, .ref oa), (4, .int (nI i))]) :
    W p l e room_1 s m #[Value.ref b] below meth c H locs cells slots (rf_Z below) (F0 m 23 ls []) := by
  obtain ⟨⟨hx, hb, hr, hml, hown, hts, hX, hbl, hlocks, hgv⟩, hK, hOk, hN, hZ, hst⟩ := id X
  have hbA : ¬ lw_A s b := Nat.not_le.mpr hbl
  refine lv_iload hx hb d_law_23 (lv_at hl 4 rfl) ?_
  refine lv_aload_n hx hb d_law_25 rfl (lv_at hl 0 rfl) ?_
  refine va_slen hx hb hX hbl hbA I.2.2.2.2.2 d_law_26 ?_
  refine lv_iconst (v := 3) hx hb d_law_27 (by decide) ?_
  refine lv_isub hx hb d_law_28 ?_
  refine lv_icmp_gt (tgt := 332) hx hb d_law_29 (by decide) (fun c1 => absurd c1 hn) (fun c1 => ?_)
  refine lv_aload_n hx hb d_law_32 rfl (lv_at hl 0 rfl) ?_
  refine lv_iload hx hb d_law_33 (lv_at hl 4 rfl) ?_
  refine va_sld hx hb hX hbl hbA I.2.2.2.2.2 (vp_in_nI (by omega) (by omega)) d_law_35 ?_
  refine lv_bipush (v := 15) hx hb d_law_36 (by decide) ?_
  refine lv_iand hx hb d_law_38 ?_
  rw [ho]
  refine lv_tableIn (off := 93) (tgt := 132) hx hb d_law_39 (by decide) (by decide) (by decide) (by decide) ?_
  exact rf_read (R := R) Sh X Fx hL hi hcs hRl hrC hrR hvw I hl
