/-! THE RELATION OF THE TWO WORLDS, and that each pair of calls keeps it -/
def Core (tx pg : SB) (c : SD) (mtx : Mtx) (ds : Mds) (nw : Mnw) (ou : Mou) : Prop := ∃ (t : Nat → Nat) (n np : Nat) (D : De) (s w : Nat → Nat), BR tx mtx t n ∧ BRn pg ou np ∧ Vd D ∧ CD c D ∧ MD ds D ∧ Sq D s (D.2.1 3) ∧ (∀ j, j < D.2.1 3 → c.2.2.1 j = nI (s j)) ∧ (∀ k, k < D.2.1 1 → w k ≤ 1 ∧ nw k = nI (w k)) ∧ c.2.2.2.2.2 = nI (bsum w (D.2.1 1))
def RlH (th : Int32) (hC hR : am_H) : Prop := ∃ (tx pg : SB) (rd : SR) (a b : SD) (sw : Bool) (mtx : Mtx) (ds : Mds) (nw : Mnw) (ou : Mou) (ps : Mps) (nd : Mnd) (us : Mus) (re : Mre) (va : Mva) (nu : Mnu), hC = hp tx pg rd a b sw ∧ hR = hr th mtx ds nw ou ps nd us re va nu ∧ Core tx pg (bif sw then b else a) mtx ds nw ou
def RlW (hC hR : am_H) : Prop := ∃ th, RlH th hC hR
theorem RlW_0 : RlW hp0 hr0 := by
  refine ⟨0, _, _, _, _, _, _, _, _, _, _, _, _, _, _, _, _, rfl, rfl, fun _ => 0, 0, 0, (0, fun _ => 0, fun _ _ => 0), fun _ => 0, fun _ => 0, ⟨by omega, rfl, rfl, fun k hk => absurd hk (by omega)⟩, ⟨fun _ => 0, by omega, rfl, rfl, fun k hk => absurd hk (by omega)⟩, ?_, ⟨rfl, fun _ _ => rfl, fun i k _ hk => absurd hk (Nat.not_lt_zero _)⟩, ⟨rfl, fun _ _ => rfl, fun i k _ hk => absurd hk (Nat.not_lt_zero _)⟩, fun i hi => absurd hi (Nat.not_lt_zero _), fun i hi => absurd hi (Nat.not_lt_zero _), fun i hi => absurd hi (Nat.not_lt_zero _), rfl⟩
  refine ⟨⟨Nat.zero_le _, Nat.zero_le _, Nat.zero_le _, Nat.zero_le _, Nat.zero_le _⟩, fun i k _ hk => absurd hk (Nat.not_lt_zero _), fun k hk => absurd hk (Nat.not_lt_zero _), fun j hj => absurd hj (Nat.not_lt_zero _), fun i j hi => absurd hi (Nat.not_lt_zero _), fun i k _ hk => absurd hk (Nat.not_lt_zero _), fun _ => 0, fun g h hg => absurd hg (Nat.not_lt_zero _)⟩
theorem RlW_shape : lo_shape RlW := by
  rintro hC hR ⟨th, tx, pg, rd, a, b, sw, mtx, ds, nw, ou, ps, nd, us, re, va, nu, rfl, rfl, -⟩
  exact ⟨⟨_, rfl⟩, ⟨_, rfl⟩⟩
theorem X_put (p0 p1 : Int32) {hC hR : am_H} (h : RlW hC hR) : ∃ r hC' w th hR', am_Ev (tb_T_put (am_run cPT cML 6)) (0, lv_args 0 (.ref 0 :: [.int p0, .int p1]), [], hC) (some r, hC') ∧ am_run rPT rML 7 1 (.ref 0 :: [.int p0, .int p1]) hR = some (some (.int w), hR') ∧ RlH th hC' hR' ∧ ((r = .int w ∧ th = 0) ∨ (r = .retAddr 0 ∧ th = 1) ∨ (r = .retAddr 1 ∧ th = 2)) := by
  obtain ⟨th, tx, pg, rd, a, b, sw, mtx, ds, nw, ou, ps, nd, us, re, va, nu, rfl, rfl, t, n, np, D, s, w, h1, h2, h3, h4, h5, h6, h7, h8, h9⟩ := h
  obtain ⟨r, tx', w', th', mtx', e1, e2, ⟨t', n', h1'⟩, hr⟩ := P_put (th := th) h1 p0 p1
  cases sw with
  | false => exact ⟨r, _, w', th', _, ev_T_put_A e1, ev_M_put_v e2, ⟨tx', pg, rd, a, b, false, mtx', ds, nw, ou, ps, nd, us, re, va, nu, rfl, rfl, t', n', np, D, s, w, h1', h2, h3, h4, h5, h6, h7, h8, h9⟩, hr⟩
  | true => exact ⟨r, _, w', th', _, ev_T_put_B e1, ev_M_put_v e2, ⟨tx', pg, rd, a, b, true, mtx', ds, nw, ou, ps, nd, us, re, va, nu, rfl, rfl, t', n', np, D, s, w, h1', h2, h3, h4, h5, h6, h7, h8, h9⟩, hr⟩
theorem X_has (p0 p1 : Int32) {hC hR : am_H} (h : RlW hC hR) : ∃ r hC' w th hR', am_Ev (tb_T_has (am_run cPT cML 6)) (0, lv_args 0 (.ref 0 :: [.int p0, .int p1]), [], hC) (some r, hC') ∧ am_run rPT rML 7 21 (.ref 0 :: [.int p0, .int p1]) hR = some (some (.int w), hR') ∧ RlH th hC' hR' ∧ ((r = .int w ∧ th = 0) ∨ (r = .retAddr 0 ∧ th = 1) ∨ (r = .retAddr 2 ∧ th = 2)) := by
  obtain ⟨th, tx, pg, rd, a, b, sw, mtx, ds, nw, ou, ps, nd, us, re, va, nu, rfl, rfl, t, n, np, D, s, w, h1, h2, h3, h4, h5, h6, h7, h8, h9⟩ := h
  obtain ⟨r, w', th', e1, e2, hr⟩ := P_has (th := th) h4 h5 h3 p0 p1
  cases sw with
  | false => exact ⟨r, _, w', th', _, ev_T_has_A e1, ev_M_has_v e2, ⟨tx, pg, rd, a, b, false, mtx, ds, nw, ou, ps, nd, us, re, va, nu, rfl, rfl, t, n, np, D, s, w, h1, h2, h3, h4, h5, h6, h7, h8, h9⟩, hr⟩
  | true => exact ⟨r, _, w', th', _, ev_T_has_B e1, ev_M_has_v e2, ⟨tx, pg, rd, a, b, true, mtx, ds, nw, ou, ps, nd, us, re, va, nu, rfl, rfl, t, n, np, D, s, w, h1, h2, h3, h4, h5, h6, h7, h8, h9⟩, hr⟩
theorem X_write (p0 : Int32) {hC hR : am_H} (h : RlW hC hR) : ∃ r hC' w th hR', am_Ev (tb_T_write (am_run cPT cML 6)) (0, lv_args 0 (.ref 0 :: [.int p0]), [], hC) (some r, hC') ∧ am_run rPT rML 7 29 (.ref 0 :: [.int p0]) hR = some (some (.int w), hR') ∧ RlH th hC' hR' ∧ ((r = .int w ∧ th = 0) ∨ (r = .retAddr 0 ∧ th = 1) ∨ (r = .retAddr 3 ∧ th = 2)) := by
  obtain ⟨th, tx, pg, rd, a, b, sw, mtx, ds, nw, ou, ps, nd, us, re, va, nu, rfl, rfl, t, n, np, D, s, w, h1, h2, h3, h4, h5, h6, h7, h8, h9⟩ := h
  obtain ⟨r, pg', w', th', ou', e1, e2, ⟨np', h2'⟩, hr⟩ := P_write (th := th) h4 h5 h3 h2 p0
  cases sw with
  | false => exact ⟨r, _, w', th', _, ev_T_write_A e1, ev_M_write_v e2, ⟨tx, pg', rd, a, b, false, mtx, ds, nw, ou', ps, nd, us, re, va, nu, rfl, rfl, t, n, np', D, s, w, h1, h2', h3, h4, h5, h6, h7, h8, h9⟩, hr⟩
  | true => exact ⟨r, _, w', th', _, ev_T_write_B e1, ev_M_write_v e2, ⟨tx, pg', rd, a, b, true, mtx, ds, nw, ou', ps, nd, us, re, va, nu, rfl, rfl, t, n, np', D, s, w, h1, h2', h3, h4, h5, h6, h7, h8, h9⟩, hr⟩
theorem X_written (p0 : Int32) {hC hR : am_H} (h : RlW hC hR) : ∃ r hC' w th hR', am_Ev (tb_T_written (am_run cPT cML 6)) (0, lv_args 0 (.ref 0 :: [.int p0]), [], hC) (some r, hC') ∧ am_run rPT rML 7 30 (.ref 0 :: [.int p0]) hR = some (some (.int w), hR') ∧ RlH th hC' hR' ∧ ((r = .int w ∧ th = 0) ∨ (r = .retAddr 4 ∧ th = 1)) := by
  obtain ⟨th, tx, pg, rd, a, b, sw, mtx, ds, nw, ou, ps, nd, us, re, va, nu, rfl, rfl, t, n, np, D, s, w, h1, ⟨tp, h2⟩, h3, h4, h5, h6, h7, h8, h9⟩ := h
  obtain ⟨r, w', th', e1, e2, hr⟩ := P_written (th := th) h2 p0
  cases sw with
  | false => exact ⟨r, _, w', th', _, ev_T_written_A e1, ev_M_written_v e2, ⟨tx, pg, rd, a, b, false, mtx, ds, nw, ou, ps, nd, us, re, va, nu, rfl, rfl, t, n, np, D, s, w, h1, ⟨tp, h2⟩, h3, h4, h5, h6, h7, h8, h9⟩, hr⟩
  | true => exact ⟨r, _, w', th', _, ev_T_written_B e1, ev_M_written_v e2, ⟨tx, pg, rd, a, b, true, mtx, ds, nw, ou, ps, nd, us, re, va, nu, rfl, rfl, t, n, np, D, s, w, h1, ⟨tp, h2⟩, h3, h4, h5, h6, h7, h8, h9⟩, hr⟩
theorem I_about (p0 : Int32) : lo_int RlW RlW true 62 20 [.int p0] := by
  intro hC hR h
  obtain ⟨th, tx, pg, rd, a, b, sw, mtx, ds, nw, ou, ps, nd, us, re, va, nu, rfl, rfl, t, n, np, D, s, w, h1, h2, h3, h4, h5, h6, h7, h8, h9⟩ := h
  obtain ⟨v, th', e1, e2⟩ := P_about (th := th) h1 h4 h5 h3 p0
  cases sw with
  | false => exact ⟨v, v, _, _, ev_T_about_A e1, ev_M_about_v e2, fun _ => rfl, th', tx, pg, rd, a, b, false, mtx, ds, nw, ou, ps, nd, us, re, va, nu, rfl, rfl, t, n, np, D, s, w, h1, h2, h3, h4, h5, h6, h7, h8, h9⟩
  | true => exact ⟨v, v, _, _, ev_T_about_B e1, ev_M_about_v e2, fun _ => rfl, th', tx, pg, rd, a, b, true, mtx, ds, nw, ou, ps, nd, us, re, va, nu, rfl, rfl, t, n, np, D, s, w, h1, h2, h3, h4, h5, h6, h7, h8, h9⟩
theorem I_latches : lo_int RlW RlW true 66 34 [] := by
  intro hC hR h
  obtain ⟨th, tx, pg, rd, a, b, sw, mtx, ds, nw, ou, ps, nd, us, re, va, nu, rfl, rfl, t, n, np, D, s, w, h1, h2, h3, h4, h5, h6, h7, h8, h9⟩ := h
  obtain ⟨th', e1, e2⟩ := P_latches (th := th) h5 h3 (fun k hk => (h8 k hk).1) (fun k hk => (h8 k hk).2) h9
  cases sw with
  | false => exact ⟨_, _, _, _, ev_T_latches_A e1, ev_M_latches_v e2, fun _ => rfl, th', tx, pg, rd, a, b, false, mtx, ds, nw, ou, ps, nd, us, re, va, nu, rfl, rfl, t, n, np, D, s, w, h1, h2, h3, h4, h5, h6, h7, h8, h9⟩
  | true => exact ⟨_, _, _, _, ev_T_latches_B e1, ev_M_latches_v e2, fun _ => rfl, th', tx, pg, rd, a, b, true, mtx, ds, nw, ou, ps, nd, us, re, va, nu, rfl, rfl, t, n, np, D, s, w, h1, h2, h3, h4, h5, h6, h7, h8, h9⟩
theorem I_cycle (p0 : Int32) : lo_int RlW RlW true 65 33 [.int p0] := by
  intro hC hR h
  obtain ⟨th, tx, pg, rd, a, b, sw, mtx, ds, nw, ou, ps, nd, us, re, va, nu, rfl, rfl, t, n, np, D, s, w, h1, h2, h3, h4, h5, h6, h7, h8, h9⟩ := h
  obtain ⟨f, m, hTV, e1⟩ := C_step (x := p0) h4 h3 h6 h7 (fun k hk => (h8 k hk).1) h9
  obtain ⟨th', nw', va', e2, hn⟩ := M_cycle (th := th) (va := va) h5 h3 (fun k hk => (h8 k hk).1) (fun k hk => (h8 k hk).2) hTV
  cases sw with
  | false => exact ⟨_, _, _, _, ev_T_cycle_A e1, ev_M_cycle_v e2, fun _ => rfl, th', tx, pg, rd, _, b, false, mtx, ds, nw', ou, ps, nd, us, re, va', nu, rfl, rfl, t, n, np, D, s, fun k => tr f (D.2.2 4 k), h1, h2, h3, h4, h5, h6, h7, fun k hk => ⟨tr_le, hn k hk⟩, rfl⟩
  | true => exact ⟨_, _, _, _, ev_T_cycle_B e1, ev_M_cycle_v e2, fun _ => rfl, th', tx, pg, rd, a, _, true, mtx, ds, nw', ou, ps, nd, us, re, va', nu, rfl, rfl, t, n, np, D, s, fun k => tr f (D.2.2 4 k), h1, h2, h3, h4, h5, h6, h7, fun k hk => ⟨tr_le, hn k hk⟩, rfl⟩
theorem V_reset : lo_void RlW RlW 64 31 [] := by
  intro hC hR h
  obtain ⟨th, tx, pg, rd, a, b, sw, mtx, ds, nw, ou, ps, nd, us, re, va, nu, rfl, rfl, t, n, np, D, s, w, h1, h2, h3, h4, h5, h6, h7, h8, h9⟩ := h
  obtain ⟨th', nw', e1, e2, hn⟩ := P_reset (th := th) (nw := nw) h4 h5 h3
  cases sw with
  | false => exact ⟨_, _, ev_T_reset_A e1, ev_M_reset_v e2, th', tx, pg, rd, _, b, false, mtx, ds, nw', ou, ps, nd, us, re, va, nu, rfl, rfl, t, n, np, D, s, D.2.2 5, h1, h2, h3, h4, h5, h6, h7, fun k hk => ⟨h3.2.2.1 k hk, hn k hk⟩, rfl⟩
  | true => exact ⟨_, _, ev_T_reset_B e1, ev_M_reset_v e2, th', tx, pg, rd, a, _, true, mtx, ds, nw', ou, ps, nd, us, re, va, nu, rfl, rfl, t, n, np, D, s, D.2.2 5, h1, h2, h3, h4, h5, h6, h7, fun k hk => ⟨h3.2.2.1 k hk, hn k hk⟩, rfl⟩
theorem V_order : lo_void RlW RlW 63 24 [] := by
  intro hC hR h
  obtain ⟨th, tx, pg, rd, a, b, sw, mtx, ds, nw, ou, ps, nd, us, re, va, nu, rfl, rfl, t, n, np, D, s, w, h1, h2, h3, h4, h5, h6, h7, h8, h9⟩ := h
  obtain ⟨th', ds', nd', nu', e2, hM, -⟩ := M_order (th := th) (nd := nd) (nu := nu) h5 h3 h6
  cases sw with
  | false =>
    obtain ⟨d', s', e1, c1, c2, c3, c4⟩ := C_order (d := b) h4 h3 h6 h7
    exact ⟨_, _, ev_T_order_A e1, ev_M_order_v e2, th', tx, pg, rd, a, d', true, mtx, ds', nw, ou, ps, nd', us, re, va, nu', rfl, rfl, t, n, np, newD D s, s', w, h1, h2, newD_Vd h3 h6, c1, hM, c2, c3, h8, c4.trans h9⟩
  | true =>
    obtain ⟨d', s', e1, c1, c2, c3, c4⟩ := C_order (d := a) h4 h3 h6 h7
    exact ⟨_, _, ev_T_order_B e1, ev_M_order_v e2, th', tx, pg, rd, d', b, false, mtx, ds', nw, ou, ps, nd', us, re, va, nu', rfl, rfl, t, n, np, newD D s, s', w, h1, h2, newD_Vd h3 h6, c1, hM, c2, c3, h8, c4.trans h9⟩
theorem I_readN {tx pg : SB} {rd : SR} {a b : SD} {sw : Bool} {th : Int32} {mtx : Mtx} {ds : Mds} {nw : Mnw} {ou : Mou} {ps : Mps} {nd : Mnd} {us : Mus} {re : Mre} {va : Mva} {nu : Mnu} {t : Nat → Nat} {n np : Nat} {D : De} {s w : Nat → Nat} (h1 : BR tx mtx t n) (h2 : BRn pg ou np) (h3 : Vd D) (h4 : CD (bif sw then b else a) D) (h5 : MD ds D) (h6 : Sq D s (D.2.1 3)) (h7 : ∀ j, j < D.2.1 3 → (bif sw then b else a).2.2.1 j = nI (s j)) (h8 : ∀ k, k < D.2.1 1 → w k ≤ 1 ∧ nw k = nI (w k)) (h9 : (bif sw then b else a).2.2.2.2.2 = nI (bsum w (D.2.1 1))) :
    ∃ (v w' : Int32) (hC' hR' : am_H), am_run cPT cML 7 61 (.ref 0 :: []) (hp tx pg rd a b sw) = some (some (.int v), hC') ∧ am_run rPT rML 7 17 (.ref 0 :: []) (hr th mtx ds nw ou ps nd us re va nu) = some (some (.int w'), hR') ∧ (v = w' ∨ ∃ f g, v = nI f ∧ w' = nI g ∧ zP t n f g) ∧ RlW hC' hR' := by
  have hT0 : ∀ {x : Nat → Int32} {y : Nat → Int32}, BR (x, nI 0) (y, nI 0) (fun _ => 0) 0 := ⟨by omega, rfl, rfl, fun k hk => absurd hk (by omega)⟩
  cases sw with
  | false =>
    rcases P_read (rd := rd) (d := b) (th := th) (ds := ds) (nw := nw) (ps := ps) (nd := nd) (us := us) (re := re) h1 with ⟨f, g, rd', d', th', ps', nd', us', re', e1, e2, hE⟩ | ⟨D', s', rd', d', th', ds', nw', ps', nd', us', re', e1, e2, q1, q2, q3, q4, q5, q6, q7⟩
    · exact ⟨nI f, nI g, _, _, ev_T_read_A e1, ev_M_read_v e2, hE.elim (fun z => Or.inr ⟨f, g, rfl, rfl, z⟩) (fun z => Or.inl (congrArg nI z)), th', (tx.1, nI 0), pg, rd', a, d', false, (mtx.1, nI 0), ds, nw, ou, ps', nd', us', re', va, nu, rfl, rfl, fun _ => 0, 0, np, D, s, w, hT0, h2, h3, h4, h5, h6, h7, h8, h9⟩
    · exact ⟨m1, m1, _, _, ev_T_read_A e1, ev_M_read_v e2, Or.inl rfl, th', (tx.1, nI 0), pg, rd', a, d', true, (mtx.1, nI 0), ds', nw', ou, ps', nd', us', re', va, nu, rfl, rfl, fun _ => 0, 0, np, D', s', D'.2.2 5, hT0, h2, q1, q2, q3, q4, q5, fun k hk => ⟨q1.2.2.1 k hk, q6 k hk⟩, q7⟩
  | true =>
    rcases P_read (rd := rd) (d := a) (th := th) (ds := ds) (nw := nw) (ps := ps) (nd := nd) (us := us) (re := re) h1 with ⟨f, g, rd', d', th', ps', nd', us', re', e1, e2, hE⟩ | ⟨D', s', rd', d', th', ds', nw', ps', nd', us', re', e1, e2, q1, q2, q3, q4, q5, q6, q7⟩
    · exact ⟨nI f, nI g, _, _, ev_T_read_B e1, ev_M_read_v e2, hE.elim (fun z => Or.inr ⟨f, g, rfl, rfl, z⟩) (fun z => Or.inl (congrArg nI z)), th', (tx.1, nI 0), pg, rd', d', b, true, (mtx.1, nI 0), ds, nw, ou, ps', nd', us', re', va, nu, rfl, rfl, fun _ => 0, 0, np, D, s, w, hT0, h2, h3, h4, h5, h6, h7, h8, h9⟩
    · exact ⟨m1, m1, _, _, ev_T_read_B e1, ev_M_read_v e2, Or.inl rfl, th', (tx.1, nI 0), pg, rd', d', b, false, (mtx.1, nI 0), ds', nw', ou, ps', nd', us', re', va, nu, rfl, rfl, fun _ => 0, 0, np, D', s', D'.2.2 5, hT0, h2, q1, q2, q3, q4, q5, fun k hk => ⟨q1.2.2.1 k hk, q6 k hk⟩, q7⟩
/-- In any state that a run of calls leads to, the class's read and the reference's answer the same, or the reference tells a byte 48 and the class the digit behind it. And what later calls find is in the relation again, whichever it was. -/
theorem I_readX {hC hR : am_H} (h : RlW hC hR) : ∃ (v w : Int32) (hC' hR' : am_H), am_run cPT cML 7 61 [.ref 0] hC = some (some (.int v), hC') ∧ am_run rPT rML 7 17 [.ref 0] hR = some (some (.int w), hR') ∧ (v = w ∨ ∃ (t : Nat → Nat) (n f g : Nat), v = nI f ∧ w = nI g ∧ f = g + 1 ∧ t g = 48 ∧ f < n ∧ n ≤ 1500 ∧ 48 ≤ t f ∧ t f ≤ 57 ∧ ∃ (tx pg : SB) (rd : SR) (a b : SD) (sw : Bool), hC = hp tx pg rd a b sw ∧ tx.2 = nI n ∧ ∀ k, k < n → tx.1 k &&& nI 255 = nI (t k)) ∧ RlW hC' hR' := by
  obtain ⟨th, tx, pg, rd, a, b, sw, mtx, ds, nw, ou, ps, nd, us, re, va, nu, rfl, rfl, t, n, np, D, s, w, h1, h2, h3, h4, h5, h6, h7, h8, h9⟩ := h
  obtain ⟨v, w', hC', hR', e1, e2, hE, e3⟩ := I_readN (rd := rd) (th := th) (ps := ps) (nd := nd) (us := us) (re := re) (va := va) (nu := nu) h1 h2 h3 h4 h5 h6 h7 h8 h9
  refine ⟨v, w', hC', hR', e1, e2, hE.imp id (fun ⟨f, g, q1, q2, q3, q4, q5⟩ => ⟨t, n, f, g, q1, q2, q3, q4, q5.1, h1.1, q5.2.1, q5.2.2, tx, pg, rd, a, b, sw, rfl, h1.2.1, fun k hk => (h1.2.2.2 k hk).2.2⟩), e3⟩
