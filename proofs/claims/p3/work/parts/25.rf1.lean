/-! THE RUN: 4 puts, a read -/
def rf_s : List Int32 := [0, 4, 543646049, 0, 4, 540024880, 0, 4, 540024881, 0, 2, 14128, 1, 0, 0]
def rf_o (o : Option (Value × SB)) : SB := match o with
  | some q => q.2
  | none => (zf, 0)
def rf_om (o : Option (Int32 × Mth × Mtx)) : Mtx := match o with
  | some q => q.2.2
  | none => (zf, 0)
def rf_t (w : Int32) (o : Option (Value × SB)) : Bool := match o with
  | some (.int v, _) => decide (v = w)
  | _ => false
def rf_tm (w : Int32) (o : Option (Int32 × Mth × Mtx)) : Bool := match o with
  | some (v, th, _) => decide (v = w) && decide (th = 0)
  | none => false
theorem rf_t_spec {w : Int32} {o : Option (Value × SB)} (h : rf_t w o = true) : o = some (.int w, rf_o o) := by
  cases o with
  | none => exact Bool.noConfusion (show false = true from h)
  | some q =>
    obtain ⟨r, tx⟩ := q
    cases r with
    | int v =>
      have e : v = w := of_decide_eq_true h
      subst e
      rfl
    | _ => exact Bool.noConfusion (show false = true from h)
theorem rf_tm_spec {w : Int32} {o : Option (Int32 × Mth × Mtx)} (h : rf_tm w o = true) : o = some (w, 0, rf_om o) := by
  cases o with
  | none => exact Bool.noConfusion (show false = true from h)
  | some q =>
    obtain ⟨v, th, tx⟩ := q
    have h2 := Bool.and_eq_true_iff.mp (show (decide (v = w) && decide (th = 0)) = true from h)
    have e : v = w := of_decide_eq_true h2.1
    have e2 : th = 0 := of_decide_eq_true h2.2
    subst e
    subst e2
    rfl
def rf_v {α : Type} (w : Int32) (o : Option (Int32 × α)) : Bool := match o with
  | some q => decide (q.1 = w)
  | none => false
theorem rf_v_spec {α : Type} {w : Int32} {o : Option (Int32 × α)} (h : rf_v w o = true) : ∃ q, o = some q ∧ q.1 = w := by
  cases o with
  | none => exact Bool.noConfusion (show false = true from h)
  | some q => exact ⟨q, rfl, of_decide_eq_true h⟩
def rf_c0 : SB := (zf, 0)
def rf_m0 : Mtx := (zf, 0)
def rf_c1 : SB := rf_o (fn_T_put 4 543646049 rf_c0)
def rf_m1 : Mtx := rf_om (fn_M_put 4 543646049 0 rf_m0)
theorem rf_p1 : fn_T_put 4 543646049 rf_c0 = some (.int 4, rf_c1) := rf_t_spec (by decide +kernel)
theorem rf_q1 : fn_M_put 4 543646049 0 rf_m0 = some (4, 0, rf_m1) := rf_tm_spec (by decide +kernel)
def rf_c2 : SB := rf_o (fn_T_put 4 540024880 rf_c1)
def rf_m2 : Mtx := rf_om (fn_M_put 4 540024880 0 rf_m1)
theorem rf_p2 : fn_T_put 4 540024880 rf_c1 = some (.int 8, rf_c2) := rf_t_spec (by decide +kernel)
theorem rf_q2 : fn_M_put 4 540024880 0 rf_m1 = some (8, 0, rf_m2) := rf_tm_spec (by decide +kernel)
def rf_c3 : SB := rf_o (fn_T_put 4 540024881 rf_c2)
def rf_m3 : Mtx := rf_om (fn_M_put 4 540024881 0 rf_m2)
theorem rf_p3 : fn_T_put 4 540024881 rf_c2 = some (.int 12, rf_c3) := rf_t_spec (by decide +kernel)
theorem rf_q3 : fn_M_put 4 540024881 0 rf_m2 = some (12, 0, rf_m3) := rf_tm_spec (by decide +kernel)
def rf_c4 : SB := rf_o (fn_T_put 2 14128 rf_c3)
def rf_m4 : Mtx := rf_om (fn_M_put 2 14128 0 rf_m3)
theorem rf_p4 : fn_T_put 2 14128 rf_c3 = some (.int 14, rf_c4) := rf_t_spec (by decide +kernel)
theorem rf_q4 : fn_M_put 2 14128 0 rf_m3 = some (14, 0, rf_m4) := rf_tm_spec (by decide +kernel)
theorem rf_rC : ∃ q, fn_T_read rf_c4 (zf, zf, zf, zf, zl, zl, 0, 0, 0) (fun _ => zf, zf, zf, zf, 0, 0) = some q ∧ q.1 = 13 := rf_v_spec (by decide +kernel)
theorem rf_rM : ∃ q, fn_M_read 0 rf_m4 (0, zf, zf, zf, zf, zf, zf, zf, zf, zf) zf (0, 0, 0) (0, zf, zf, zf, zf, zf, zf, zf, zf, zf) (zf, zf, zf, zf, 0) zf = some q ∧ q.1 = 12 := rf_v_spec (by decide +kernel)
def rf_R (tx : SB) (mtx : Mtx) (hC hR : am_H) : Prop := hC = hp tx (zf, 0) (zf, zf, zf, zf, zl, zl, 0, 0, 0) (fun _ => zf, zf, zf, zf, 0, 0) (fun _ => zf, zf, zf, zf, 0, 0) false ∧ hR = hr 0 mtx (0, zf, zf, zf, zf, zf, zf, zf, zf, zf) zf (zf, 0) (0, 0, 0) (0, zf, zf, zf, zf, zf, zf, zf, zf, zf) (zf, zf, zf, zf, 0) zf zf (zf, zf)
theorem rf_sh (tx : SB) (mtx : Mtx) : lo_shape (rf_R tx mtx) := by
  rintro hC hR ⟨rfl, rfl⟩
  exact ⟨⟨_, rfl⟩, ⟨_, rfl⟩⟩
theorem rf_lo {tx tx' : SB} {mtx mtx' : Mtx} {p0 p1 w : Int32} (e1 : fn_T_put p0 p1 tx = some (.int w, tx')) (e2 : fn_M_put p0 p1 0 mtx = some (w, 0, mtx')) : lo_x (rf_R tx mtx) (rf_R tx' mtx') tb_T_put (fun o => (∃ v, o = some (.int v)) ∨ o = some (.retAddr 0) ∨ o = some (.retAddr 1)) 0 [.int p0, .int p1] := by
  rintro hC hR ⟨rfl, rfl⟩
  exact ⟨(some (.int w), _), w, _, ev_T_put_A e1, Or.inl ⟨_, rfl⟩, ev_M_put_v e2, rfl, rfl⟩
set_option maxHeartbeats 4000000 in
set_option maxRecDepth 100000 in
theorem rf_loop {p : Program} {l : Launch} {e : Env} {s : State} {m : MethodId} {below : List Frame} {meth : Method} {c : Code} {D : va_G} {kc : Nat → ClassId} {b : Nat} {ρC ρR : Nat → Nat} {oa : Nat} (X : lw_X p l s m meth c D kc b 15 (fun j => rf_s.getD j 0)) (Fx : lw_Fx s ρC ρR oa) {f : Nat → Int64} {H : Heap} {locs : List Loc} {ls : Array Slot} (I : lw_I s D kc ρC ρR oa hp0 hr0 f H locs) (hl : lv_has ls 7 [(0, .ref b), (1, .ref (ρC 0)), (2, .ref (ρR 0)), (3, .ref oa), (4, .int (nI 0))]) : W p l e room_1 s m #[Value.ref b] below meth c H locs 70 12724 (rf_Z below) (F0 m 23 ls []) := by
  refine rf_step (i := 0) (R := rf_R rf_c0 rf_m0) (R' := rf_R rf_c1 rf_m1) X Fx (by decide) (by decide) ⟨by decide, by decide⟩ (by decide +kernel) (by decide +kernel) (by decide +kernel) (by decide +kernel) (rf_sh _ _) (rf_sh _ _) (rf_lo rf_p1 rf_q1) ⟨rfl, rfl⟩ I hl (fun hC1 hR1 f1 H1 locs1 ls1 r1 I1 hl1 => ?_)
  refine rf_step (i := 3) (R := rf_R rf_c1 rf_m1) (R' := rf_R rf_c2 rf_m2) X Fx (by decide) (by decide) ⟨by decide, by decide⟩ (by decide +kernel) (by decide +kernel) (by decide +kernel) (by decide +kernel) (rf_sh _ _) (rf_sh _ _) (rf_lo rf_p2 rf_q2) r1 I1 hl1 (fun hC2 hR2 f2 H2 locs2 ls2 r2 I2 hl2 => ?_)
  refine rf_step (i := 6) (R := rf_R rf_c2 rf_m2) (R' := rf_R rf_c3 rf_m3) X Fx (by decide) (by decide) ⟨by decide, by decide⟩ (by decide +kernel) (by decide +kernel) (by decide +kernel) (by decide +kernel) (rf_sh _ _) (rf_sh _ _) (rf_lo rf_p3 rf_q3) r2 I2 hl2 (fun hC3 hR3 f3 H3 locs3 ls3 r3 I3 hl3 => ?_)
  refine rf_step (i := 9) (R := rf_R rf_c3 rf_m3) (R' := rf_R rf_c4 rf_m4) X Fx (by decide) (by decide) ⟨by decide, by decide⟩ (by decide +kernel) (by decide +kernel) (by decide +kernel) (by decide +kernel) (rf_sh _ _) (rf_sh _ _) (rf_lo rf_p4 rf_q4) r3 I3 hl3 (fun hC4 hR4 f4 H4 locs4 ls4 r4 I4 hl4 => ?_)
  obtain ⟨qC, eC, vC⟩ := rf_rC
  obtain ⟨qM, eM, vM⟩ := rf_rM
  obtain ⟨rfl, rfl⟩ := r4
  exact rf_last (i := 12) (R := rf_R rf_c4 rf_m4) X Fx (by decide) (by decide) ⟨by decide, by decide⟩ (by decide +kernel) (by decide +kernel) (rf_sh _ _) ⟨rfl, rfl⟩ (ev_T_read_A eC) (ev_M_read_v eM) (by rw [vC, vM]; decide) I4 hl4
