set_option maxHeartbeats 4000000 in
set_option maxRecDepth 100000 in
theorem lw_loop {p : Program} {l : Launch} {e : Env} {s : State} {m : MethodId} {below : List Frame} {meth : Method} {c : Code} {D : va_G} {kc : Nat → ClassId} {b L : Nat} {xs : Nat → Int32} {ρC ρR : Nat → Nat} {oa : Nat} {Rl : Nat → am_H → am_H → Prop} (St : lw_St Rl L) (X : lw_X p l s m meth c D kc b L xs) (Fx : lw_Fx s ρC ρR oa) (hL : L ≤ 1536) : ∀ (n i : Nat), i ≤ L → L + 1 ≤ i + n → ∀ (hC hR : am_H) (f : Nat → Int64) (H : Heap) (locs : List Loc) (ls : Array Slot), Rl i hC hR → lw_I s D kc ρC ρR oa hC hR f H locs → lv_has ls 7 [(0, .ref b), (1, .ref (ρC 0)), (2, .ref (ρR 0)), (3, .ref oa), (4, .int (nI i))] → W p l e room_1 s m #[Value.ref b] below meth c H locs (70 + i) (12724 + 6 * i) (lw_Z below #[Value.ref b] s) (F0 m 23 ls []) := by
  obtain ⟨⟨hx, hb, hr, hml, hown, hts, hX, hbl, hlocks, hgv⟩, hK, hOk, hN, hZ, hst⟩ := id X
  have hbA : ¬ lw_A s b := Nat.not_le.mpr hbl
  intro n
  induction n with
  | zero =>
    intro i h1 h2
    exact absurd h2 (by omega)
  | succ n ih =>
    intro i hiL hin hC hR f H locs ls hRl I hl
    refine lv_iload hx hb d_law_23 (lv_at hl 4 rfl) ?_
    refine lv_aload_n hx hb d_law_25 rfl (lv_at hl 0 rfl) ?_
    refine va_slen hx hb hX hbl hbA I.2.2.2.2.2 d_law_26 ?_
    refine lv_iconst (v := 3) hx hb d_law_27 (by decide) ?_
    refine lv_isub hx hb d_law_28 ?_
    refine lv_icmp_gt (tgt := 332) hx hb d_law_29 (by decide) (fun c1 => ?_) (fun c1 => ?_)
    · refine lv_iconst (v := 1) hx hb d_law_332 (by decide) ?_
      refine va_forget (fun q hq => I.2.2.2.2.2.2.2 q hq) ?_
      refine W.widen (k := 601024) (n := 7293034) (by omega) (by omega) ?_
      exact lw_ret hx hb hr hlocks d_law_333
    · have hi : i + 3 ≤ L := lw_cond hL hiL c1
      refine lv_aload_n hx hb d_law_32 rfl (lv_at hl 0 rfl) ?_
      refine lv_iload hx hb d_law_33 (lv_at hl 4 rfl) ?_
      refine va_sld hx hb hX hbl hbA I.2.2.2.2.2 (vp_in_nI (by omega) (by omega)) d_law_35 ?_
      refine lv_bipush (v := 15) hx hb d_law_36 (by decide) ?_
      refine lv_iand hx hb d_law_38 ?_
      have kk : ∀ (hC' hR' : am_H) (f' : Nat → Int64) (H1 : Heap) (locs1 : List Loc) (ls1 : Array Slot), Rl (i + 3) hC' hR' → lw_I s D kc ρC ρR oa hC' hR' f' H1 locs1 → lv_has ls1 7 [(0, .ref b), (1, .ref (ρC 0)), (2, .ref (ρR 0)), (3, .ref oa), (4, .int (nI i))] → W p l e room_1 s m #[Value.ref b] below meth c H1 locs1 (70 + i + 1) (12724 + 6 * i + 6) (lw_Z below #[Value.ref b] s) (F0 m 326 ls1 []) := by
        intro hC' hR' f' H1 locs1 ls1 hRl' I' hl'
        refine lv_iinc (v := nI (i + 3)) (lv' := [(4, .int (nI (i + 3))), (0, .ref b), (1, .ref (ρC 0)), (2, .ref (ρR 0)), (3, .ref oa)]) hx hb d_law_326 hl' (k := 4) rfl (nI_add i 3) (by decide) rfl (fun ls2 hl2 => ?_)
        refine lv_goto (tgt := 23) hx hb d_law_329 (by decide) ?_
        refine W.widen (k := 70 + (i + 3)) (n := 12724 + 6 * (i + 3)) (by omega) (by omega) ?_
        exact ih (i + 3) (by omega) (by omega) hC' hR' f' H1 locs1 ls2 hRl' I' (lv_sub hl2 [1, 2, 3, 4, 0] rfl)
      obtain ⟨o, eo⟩ : ∃ z : Int32, z = xs (nI i).toNatClampNeg &&& 15 := ⟨_, rfl⟩
      rw [← eo]
      have hcs : 70 + i + 1 ≤ 601024 ∧ 12724 + 6 * i + 6 ≤ 7293034 := ⟨by omega, by omega⟩
      rcases lw_op o with (rfl | rfl | rfl | rfl | rfl | rfl | rfl | rfl | rfl | rfl) | ho
      · refine lv_tableIn (off := 53) (tgt := 92) hx hb d_law_39 (by decide) (by decide) (by decide) (by decide) ?_
        exact lw_c_put St X Fx hL hi hcs hRl I hl kk
      · refine lv_tableIn (off := 93) (tgt := 132) hx hb d_law_39 (by decide) (by decide) (by decide) (by decide) ?_
        exact lw_c_read St X Fx hL hi hcs hRl I hl kk
      · refine lv_tableIn (off := 106) (tgt := 145) hx hb d_law_39 (by decide) (by decide) (by decide) (by decide) ?_
        exact lw_c_about St X Fx hL hi hcs hRl I hl kk
      · refine lv_tableIn (off := 131) (tgt := 170) hx hb d_law_39 (by decide) (by decide) (by decide) (by decide) ?_
        exact lw_c_has St X Fx hL hi hcs hRl I hl kk
      · refine lv_tableIn (off := 171) (tgt := 210) hx hb d_law_39 (by decide) (by decide) (by decide) (by decide) ?_
        exact lw_c_order St X Fx hL hi hcs hRl I hl kk
      · refine lv_tableIn (off := 182) (tgt := 221) hx hb d_law_39 (by decide) (by decide) (by decide) (by decide) ?_
        exact lw_c_write St X Fx hL hi hcs hRl I hl kk
      · refine lv_tableIn (off := 210) (tgt := 249) hx hb d_law_39 (by decide) (by decide) (by decide) (by decide) ?_
        exact lw_c_written St X Fx hL hi hcs hRl I hl kk
      · refine lv_tableIn (off := 238) (tgt := 277) hx hb d_law_39 (by decide) (by decide) (by decide) (by decide) ?_
        exact lw_c_reset St X Fx hL hi hcs hRl I hl kk
      · refine lv_tableIn (off := 249) (tgt := 288) hx hb d_law_39 (by decide) (by decide) (by decide) (by decide) ?_
        exact lw_c_cycle St X Fx hL hi hcs hRl I hl kk
      · refine lv_tableIn (off := 274) (tgt := 313) hx hb d_law_39 (by decide) (by decide) (by decide) (by decide) ?_
        exact lw_c_latches St X Fx hL hi hcs hRl I hl kk
      · refine lv_tableOut (tgt := 326) hx hb d_law_39 ho (by decide) ?_
        refine W.widen (k := 70 + i + 1) (n := 12724 + 6 * i + 6) (by omega) (by omega) ?_
        exact kk _ _ _ _ _ _ (St.2.1 i _ _ hRl) I hl
