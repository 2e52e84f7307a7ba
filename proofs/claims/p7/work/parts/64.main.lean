/-! THE RELATION OF THE TWO WORLDS, and that each pair of calls keeps it -/
def Core (tx pg : SB) (c : SD) (mtx : Mtx) (ds : Mds) (nw : Mnw) (ou : Mou) : Prop := ∃ (t : Nat → Nat) (n np : Nat) (D : De) (s w : Nat → Nat), BR tx mtx t n ∧ BRn pg ou np ∧ Vd D ∧ CD c D ∧ MD ds D ∧ Sq D s (D.2.1 3) ∧ (∀ j, j < D.2.1 3 → c.2.2.1 j = nI (s j)) ∧ (∀ k, k < D.2.1 1 → w k ≤ 1 ∧ nw k = nI (w k)) ∧ c.2.2.2.2.2 = nI (bsum w (D.2.1 1))
def RlH (th : Int32) (hC hR : am_H) : Prop := ∃ (tx pg : SB) (rd : SR) (a b : SD) (sw : Bool) (mtx : Mtx) (ds : Mds) (nw : Mnw) (ou : Mou) (ps : Mps) (nd : Mnd) (us : Mus) (re : Mre) (va : Mva) (nu : Mnu), hC = hp tx pg rd a b sw ∧ hR = hr th mtx ds nw ou ps nd us re va nu ∧ Core tx pg (bif sw then b else a) mtx ds nw ou
def RlW (hC hR : am_H) : Prop := ∃ th, RlH th hC hR
theorem RlW_0 : RlW hp0 hr0 := by
  refine ⟨0, _, _, _, _, _, _, _, _, _, _, _, _, _, _, _, _, rfl, rfl, fun _ => 0, 0, 0, (0, fun _ => 0, fun _ _ => 0), fun _ => 0, fun _ => 0, ⟨by omega, rfl, rfl, fun k hk => absurd hk (by omega)⟩, ⟨fun _ => 0, by omega, rfl, rfl, fun k hk => absurd hk (by omega)⟩, ?_, ⟨rfl, fun _ _ => rfl, fun i k _ hk => absurd hk (Nat.not_lt_zero _)⟩, ⟨rfl, fun _ _ => rfl, fun i k _ hk => absurd hk (Nat.not_lt_zero _)⟩, fun i hi => absurd hi (Nat.not_lt_zero _), fun i hi => absurd hi (Nat.not_lt_zero _), fun i hi => absurd hi (Nat.not_lt_zero _), rfl⟩
  refine ⟨⟨Nat.zero_le _, Nat.zero_le _, Nat.zero_le _, Nat.zero_le _, Nat.zero_le _⟩, fun i k _ hk => absurd hk (Nat.not_lt_zero _), fun k hk => absurd hk (Nat.not_lt_zero _), fun j hj => absurd hj (Nat.not_lt_zero _), fun i j hi => absurd hi (Nat.not_lt_zero _), fun i k _ hk => absurd hk (Nat.not_lt_zero _), fun _ => 0, fun g h hg => absurd hg (Nat.not_lt_zero _)⟩
theorem RlW_shape : lo_shape RlW := by
  rintro hC hR ⟨th, tx, pg, rd, a, b, sw, mtx, ds, nw, ou, ps, nd, us, re, va, nu, rfl, rfl, -⟩
  exact ⟨⟨_, rfl⟩, ⟨_, rfl⟩⟩
theorem X_put (p0 p1 : Int32) {hC hR : am_H} (h : RlW hC hR) : ∃ r hC' w th hR', am_Ev (tb_T_put (am_run cPT cML 6)) (0, lv_args 0 (.ref 0 :: [.int p0, .int p1]), [], hC) (some r, hC') ∧ am_run rPT rML 7 1 (.ref 0 :: [.int p0, .int p1]) hR = some (some (.int w), hR') ∧ RlH th hC' hR' ∧ ((r = .int w ∧ th = 0) ∨ (r = .retAddr 0 ∧ th = 1) ∨ (r = .retAddr 1 ∧ th = 2)) := by
  obtain ⟨th, tx, pg, rd, a, b, sw, mtx, ds, nw, ou, ps, nd, us, re, va, nu, rfl, rfl, t, n, np, D, s, w, h1, h2, h3, h4, h5, h6, h7, h8, h9⟩ := h
  obtain ⟨r, tx', w', th', mtx', e1, e2, ⟨t', n', h1'⟩, hr⟩ := P_put (th := th) h1 p0 p1
  cases sw with
  | false => exact ⟨r, _, w', th', _, ev_T_put_A e1, ev_M_put_v e2, ⟨tx', pg, rd, a, b, false, mtx', ds, nw, ou, ps, nd, us, re, va, nu, rfl, rfl, t', n', np, D, s, w, h1', h2, h3, h4, h5, h6, h7, h8, h9⟩, hr⟩
  | true => exact ⟨r, _, w', th', _, ev_T_put_B e1, ev_M_put_v e2, ⟨tx', pg, rd, a, b, true, mtx', ds, nw, ou, ps, nd, us, re, va, nu, rfl, rfl, t', n', np, D, s, w, h1', h2, h3, h4, h5, h6, h7, h8, h9⟩, hr⟩
theorem X_has (p0 p1 : Int32) {hC hR : am_H} (h : RlW hC hR) : ∃ r hC' w th hR', am_Ev (tb_T_has (am_run cPT cML 6)) (0, lv_args 0 (.ref 0 :: [.int p0, .int p1]), [], hC) (some r, hC') ∧ am_run rPT rML 7 21 (.ref 0 :: [.int p0, .int p1]) hR = some (some (.int w), hR') ∧ RlH th hC' hR' ∧ ((r = .int w ∧ th = 0) ∨ (r = .retAddr 0 ∧ th = 1) ∨ (r = .retAddr 2 ∧ th = 2)) := by
  obtain ⟨th, tx, pg, rd, a, b, sw, mtx, ds, nw, ou, ps, nd, us, re, va, nu, rfl, rfl, t, n, np, D, s, w, h1, h2, h3, h4, h5, h6, h7, h8, h9⟩ := h
  obtain ⟨r, w', th', e1, e2, hr⟩ := P_has (th := th) h4 h5 h3 p0 p1
  cases sw with
  | false => exact ⟨r, _, w', th', _, ev_T_has_A e1, ev_M_has_v e2, ⟨tx, pg, rd, a, b, false, mtx, ds, nw, ou, ps, nd, us, re, va, nu, rfl, rfl, t, n, np, D, s, w, h1, h2, h3, h4, h5, h6, h7, h8, h9⟩, hr⟩
  | true => exact ⟨r, _, w', th', _, ev_T_has_B e1, ev_M_has_v e2, ⟨tx, pg, rd, a, b, true, mtx, ds, nw, ou, ps, nd, us, re, va, nu, rfl, rfl, t, n, np, D, s, w, h1, h2, h3, h4, h5, h6, h7, h8, h9⟩, hr⟩
theorem X_write (p0 : Int32) {hC hR : am_H} (h : RlW hC hR) : ∃ r hC' w th hR', am_Ev (tb_T_write (am_run cPT cML 6)) (0, lv_args 0 (.ref 0 :: [.int p0]), [], hC) (some r, hC') ∧ am_run rPT rML 7 29 (.ref 0 :: [.int p0]) hR = some (some (.int w), hR') ∧ RlH th hC' hR' ∧ ((r = .int w ∧ th = 0) ∨ (r = .retAddr 0 ∧ th = 1) ∨ (r = .retAddr 3 ∧ th = 2)) := by
  obtain ⟨th, tx, pg, rd, a, b, sw, mtx, ds, nw, ou, ps, nd, us, re, va, nu, rfl, rfl, t, n, np, D, s, w, h1, h2, h3, h4, h5, h6, h7, h8, h9⟩ := h
  obtain ⟨r, pg', w', th', ou', e1, e2, ⟨np', h2'⟩, hr⟩ := P_write (th := th) h4 h5 h3 h2 p0
  cases sw with
  | false => exact ⟨r, _, w', th', _, ev_T_write_A e1, ev_M_write_v e2, ⟨tx, pg', rd, a, b, false, mtx, ds, nw, ou', ps, nd, us, re, va, nu, rfl, rfl, t, n, np', D, s, w, h1, h2', h3, h4, h5, h6, h7, h8, h9⟩, hr⟩
  | true => exact ⟨r, _, w', th', _, ev_T_write_B e1, ev_M_write_v e2, ⟨tx, pg', rd, a, b, true, mtx, ds, nw, ou', ps, nd, us, re, va, nu, rfl, rfl, t, n, np', D, s, w, h1, h2', h3, h4, h5, h6, h7, h8, h9⟩, hr⟩
theorem X_written (p0 : Int32) {hC hR : am_H} (h : RlW hC hR) : ∃ r hC' w th hR', am_Ev (tb_T_written (am_run cPT cML 6)) (0, lv_args 0 (.ref 0 :: [.int p0]), [], hC) (some r, hC') ∧ am_run rPT rML 7 30 (.ref 0 :: [.int p0]) hR = some (some (.int w), hR') ∧ RlH th hC' hR' ∧ ((r = .int w ∧ th = 0) ∨ (r = .retAddr 4 ∧ th = 1)) := by
  obtain ⟨th, tx, pg, rd, a, b, sw, mtx, ds, nw, ou, ps, nd, us, re, va, nu, rfl, rfl, t, n, np, D, s, w, h1, ⟨tp, h2⟩, h3, h4, h5, h6, h7, h8, h9⟩ := h
  obtain ⟨r, w', th', e1, e2, hr⟩ := P_written (th := th) h2 p0
  cases sw with
  | false => exact ⟨r, _, w', th', _, ev_T_written_A e1, ev_M_written_v e2, ⟨tx, pg, rd, a, b, false, mtx, ds, nw, ou, ps, nd, us, re, va, nu, rfl, rfl, t, n, np, D, s, w, h1, ⟨tp, h2⟩, h3, h4, h5, h6, h7, h8, h9⟩, hr⟩
  | true => exact ⟨r, _, w', th', _, ev_T_written_B e1, ev_M_written_v e2, ⟨tx, pg, rd, a, b, true, mtx, ds, nw, ou, ps, nd, us, re, va, nu, rfl, rfl, t, n, np, D, s, w, h1, ⟨tp, h2⟩, h3, h4, h5, h6, h7, h8, h9⟩, hr⟩
theorem I_about (p0 : Int32) : lo_int RlW RlW true 62 20 [.int p0] := by
  intro hC hR h
  obtain ⟨th, tx, pg, rd, a, b, sw, mtx, ds, nw, ou, ps, nd, us, re, va, nu, rfl, rfl, t, n, np, D, s, w, h1, h2, h3, h4, h5, h6, h7, h8, h9⟩ := h
  obtain ⟨v, th', e1, e2⟩ := P_about (th := th) h1 h4 h5 h3 p0
  cases sw with
  | false => exact ⟨v, v, _, _, ev_T_about_A e1, ev_M_about_v e2, fun _ => rfl, th', tx, pg, rd, a, b, false, mtx, ds, nw, ou, ps, nd, us, re, va, nu, rfl, rfl, t, n, np, D, s, w, h1, h2, h3, h4, h5, h6, h7, h8, h9⟩
  | true => exact ⟨v, v, _, _, ev_T_about_B e1, ev_M_about_v e2, fun _ => rfl, th', tx, pg, rd, a, b, true, mtx, ds, nw, ou, ps, nd, us, re, va, nu, rfl, rfl, t, n, np, D, s, w, h1, h2, h3, h4, h5, h6, h7, h8, h9⟩
theorem I_latches : lo_int RlW RlW true 66 34 [] := by
  intro hC hR h
  obtain ⟨th, tx, pg, rd, a, b, sw, mtx, ds, nw, ou, ps, nd, us, re, va, nu, rfl, rfl, t, n, np, D, s, w, h1, h2, h3, h4, h5, h6, h7, h8, h9⟩ := h
  obtain ⟨th', e1, e2⟩ := P_latches (th := th) h5 h3 (fun k hk => (h8 k hk).1) (fun k hk => (h8 k hk).2) h9
  cases sw with
  | false => exact ⟨_, _, _, _, ev_T_latches_A e1, ev_M_latches_v e2, fun _ => rfl, th', tx, pg, rd, a, b, false, mtx, ds, nw, ou, ps, nd, us, re, va, nu, rfl, rfl, t, n, np, D, s, w, h1, h2, h3, h4, h5, h6, h7, h8, h9⟩
  | true => exact ⟨_, _, _, _, ev_T_latches_B e1, ev_M_latches_v e2, fun _ => rfl, th', tx, pg, rd, a, b, true, mtx, ds, nw, ou, ps, nd, us, re, va, nu, rfl, rfl, t, n, np, D, s, w, h1, h2, h3, h4, h5, h6, h7, h8, h9⟩
theorem I_cycle (p0 : Int32) : lo_int RlW RlW true 65 33 [.int p0] := by
  intro hC hR h
  obtain ⟨th, tx, pg, rd, a, b, sw, mtx, ds, nw, ou, ps, nd, us, re, va, nu, rfl, rfl, t, n, np, D, s, w, h1, h2, h3, h4, h5, h6, h7, h8, h9⟩ := h
  obtain ⟨f, m, hTV, e1⟩ := C_step (x := p0) h4 h3 h6 h7 (fun k hk => (h8 k hk).1) h9
  obtain ⟨th', nw', va', e2, hn⟩ := M_cycle (th := th) (va := va) h5 h3 (fun k hk => (h8 k hk).1) (fun k hk => (h8 k hk).2) hTV
  cases sw with
  | false => exact ⟨_, _, _, _, ev_T_cycle_A e1, ev_M_cycle_v e2, fun _ => rfl, th', tx, pg, rd, _, b, false, mtx, ds, nw', ou, ps, nd, us, re, va', nu, rfl, rfl, t, n, np, D, s, fun k => tr f (D.2.2 4 k), h1, h2, h3, h4, h5, h6, h7, fun k hk => ⟨tr_le, hn k hk⟩, rfl⟩
  | true => exact ⟨_, _, _, _, ev_T_cycle_B e1, ev_M_cycle_v e2, fun _ => rfl, th', tx, pg, rd, a, _, true, mtx, ds, nw', ou, ps, nd, us, re, va', nu, rfl, rfl, t, n, np, D, s, fun k => tr f (D.2.2 4 k), h1, h2, h3, h4, h5, h6, h7, fun k hk => ⟨tr_le, hn k hk⟩, rfl⟩
theorem V_reset : lo_void RlW RlW 64 31 [] := by
  intro hC hR h
  obtain ⟨th, tx, pg, rd, a, b, sw, mtx, ds, nw, ou, ps, nd, us, re, va, nu, rfl, rfl, t, n, np, D, s, w, h1, h2, h3, h4, h5, h6, h7, h8, h9⟩ := h
  obtain ⟨th', nw', e1, e2, hn⟩ := P_reset (th := th) (nw := nw) h4 h5 h3
  cases sw with
  | false => exact ⟨_, _, ev_T_reset_A e1, ev_M_reset_v e2, th', tx, pg, rd, _, b, false, mtx, ds, nw', ou, ps, nd, us, re, va, nu, rfl, rfl, t, n, np, D, s, D.2.2 5, h1, h2, h3, h4, h5, h6, h7, fun k hk => ⟨h3.2.2.1 k hk, hn k hk⟩, rfl⟩
  | true => exact ⟨_, _, ev_T_reset_B e1, ev_M_reset_v e2, th', tx, pg, rd, a, _, true, mtx, ds, nw', ou, ps, nd, us, re, va, nu, rfl, rfl, t, n, np, D, s, D.2.2 5, h1, h2, h3, h4, h5, h6, h7, fun k hk => ⟨h3.2.2.1 k hk, hn k hk⟩, rfl⟩
theorem V_order : lo_void RlW RlW 63 24 [] := by
  intro hC hR h
  obtain ⟨th, tx, pg, rd, a, b, sw, mtx, ds, nw, ou, ps, nd, us, re, va, nu, rfl, rfl, t, n, np, D, s, w, h1, h2, h3, h4, h5, h6, h7, h8, h9⟩ := h
  obtain ⟨th', ds', nd', nu', e2, hM, -⟩ := M_order (th := th) (nd := nd) (nu := nu) h5 h3 h6
  cases sw with
  | false =>
    obtain ⟨d', s', e1, c1, c2, c3, c4⟩ := C_order (d := b) h4 h3 h6 h7
    exact ⟨_, _, ev_T_order_A e1, ev_M_order_v e2, th', tx, pg, rd, a, d', true, mtx, ds', nw, ou, ps, nd', us, re, va, nu', rfl, rfl, t, n, np, newD D s, s', w, h1, h2, newD_Vd h3 h6, c1, hM, c2, c3, h8, c4.trans h9⟩
  | true =>
    obtain ⟨d', s', e1, c1, c2, c3, c4⟩ := C_order (d := a) h4 h3 h6 h7
    exact ⟨_, _, ev_T_order_B e1, ev_M_order_v e2, th', tx, pg, rd, d', b, false, mtx, ds', nw, ou, ps, nd', us, re, va, nu', rfl, rfl, t, n, np, newD D s, s', w, h1, h2, newD_Vd h3 h6, c1, hM, c2, c3, h8, c4.trans h9⟩
theorem I_readN {tx pg : SB} {rd : SR} {a b : SD} {sw : Bool} {th : Int32} {mtx : Mtx} {ds : Mds} {nw : Mnw} {ou : Mou} {ps : Mps} {nd : Mnd} {us : Mus} {re : Mre} {va : Mva} {nu : Mnu} {t : Nat → Nat} {n np : Nat} {D : De} {s w : Nat → Nat} (h1 : BR tx mtx t n) (h2 : BRn pg ou np) (h3 : Vd D) (h4 : CD (bif sw then b else a) D) (h5 : MD ds D) (h6 : Sq D s (D.2.1 3)) (h7 : ∀ j, j < D.2.1 3 → (bif sw then b else a).2.2.1 j = nI (s j)) (h8 : ∀ k, k < D.2.1 1 → w k ≤ 1 ∧ nw k = nI (w k)) (h9 : (bif sw then b else a).2.2.2.2.2 = nI (bsum w (D.2.1 1))) :
    ∃ (v w' : Int32) (hC' hR' : am_H), am_run cPT cML 7 61 (.ref 0 :: []) (hp tx pg rd a b sw) = some (some (.int v), hC') ∧ am_run rPT rML 7 17 (.ref 0 :: []) (hr th mtx ds nw ou ps nd us re va nu) = some (some (.int w'), hR') ∧ (v = w' ∨ zP t n) ∧ RlW hC' hR' := by
  have hT0 : ∀ {x : Nat → Int32} {y : Nat → Int32}, BR (x, nI 0) (y, nI 0) (fun _ => 0) 0 := ⟨by omega, rfl, rfl, fun k hk => absurd hk (by omega)⟩
  cases sw with
  | false =>
    rcases P_read (rd := rd) (d := b) (th := th) (ds := ds) (nw := nw) (ps := ps) (nd := nd) (us := us) (re := re) h1 with ⟨f, g, rd', d', th', ps', nd', us', re', e1, e2, hE⟩ | ⟨D', s', rd', d', th', ds', nw', ps', nd', us', re', e1, e2, q1, q2, q3, q4, q5, q6, q7⟩
    · exact ⟨nI f, nI g, _, _, ev_T_read_A e1, ev_M_read_v e2, hE.elim Or.inr (fun z => Or.inl (congrArg nI z)), th', (tx.1, nI 0), pg, rd', a, d', false, (mtx.1, nI 0), ds, nw, ou, ps', nd', us', re', va, nu, rfl, rfl, fun _ => 0, 0, np, D, s, w, hT0, h2, h3, h4, h5, h6, h7, h8, h9⟩
    · exact ⟨m1, m1, _, _, ev_T_read_A e1, ev_M_read_v e2, Or.inl rfl, th', (tx.1, nI 0), pg, rd', a, d', true, (mtx.1, nI 0), ds', nw', ou, ps', nd', us', re', va, nu, rfl, rfl, fun _ => 0, 0, np, D', s', D'.2.2 5, hT0, h2, q1, q2, q3, q4, q5, fun k hk => ⟨q1.2.2.1 k hk, q6 k hk⟩, q7⟩
  | true =>
    rcases P_read (rd := rd) (d := a) (th := th) (ds := ds) (nw := nw) (ps := ps) (nd := nd) (us := us) (re := re) h1 with ⟨f, g, rd', d', th', ps', nd', us', re', e1, e2, hE⟩ | ⟨D', s', rd', d', th', ds', nw', ps', nd', us', re', e1, e2, q1, q2, q3, q4, q5, q6, q7⟩
    · exact ⟨nI f, nI g, _, _, ev_T_read_B e1, ev_M_read_v e2, hE.elim Or.inr (fun z => Or.inl (congrArg nI z)), th', (tx.1, nI 0), pg, rd', d', b, true, (mtx.1, nI 0), ds, nw, ou, ps', nd', us', re', va, nu, rfl, rfl, fun _ => 0, 0, np, D, s, w, hT0, h2, h3, h4, h5, h6, h7, h8, h9⟩
    · exact ⟨m1, m1, _, _, ev_T_read_B e1, ev_M_read_v e2, Or.inl rfl, th', (tx.1, nI 0), pg, rd', d', b, false, (mtx.1, nI 0), ds', nw', ou, ps', nd', us', re', va, nu, rfl, rfl, fun _ => 0, 0, np, D', s', D'.2.2 5, hT0, h2, q1, q2, q3, q4, q5, fun k hk => ⟨q1.2.2.1 k hk, q6 k hk⟩, q7⟩
theorem I_read : lo_int RlW RlW false 61 17 [] := by
  intro hC hR h
  obtain ⟨th, tx, pg, rd, a, b, sw, mtx, ds, nw, ou, ps, nd, us, re, va, nu, rfl, rfl, t, n, np, D, s, w, h1, h2, h3, h4, h5, h6, h7, h8, h9⟩ := h
  obtain ⟨v, w', hC', hR', e1, e2, hE, e3⟩ := I_readN (rd := rd) (th := th) (ps := ps) (nd := nd) (us := us) (re := re) (va := va) (nu := nu) h1 h2 h3 h4 h5 h6 h7 h8 h9
  exact ⟨v, w', hC', hR', e1, e2, fun z => absurd z (by decide), e3⟩
/-- the first call, on a fresh object -/
def Rl0 (hC hR : am_H) : Prop := hC = hp0 ∧ hR = hr0
theorem Rl0_W {hC hR : am_H} (h : Rl0 hC hR) : RlW hC hR := by
  obtain ⟨rfl, rfl⟩ := h
  exact RlW_0
theorem V0 : Vd (0, fun _ => 0, fun _ _ => 0) := ⟨⟨Nat.zero_le _, Nat.zero_le _, Nat.zero_le _, Nat.zero_le _, Nat.zero_le _⟩, fun i k _ hk => absurd hk (Nat.not_lt_zero _), fun k hk => absurd hk (Nat.not_lt_zero _), fun j hj => absurd hj (Nat.not_lt_zero _), fun i j hi => absurd hi (Nat.not_lt_zero _), fun i k _ hk => absurd hk (Nat.not_lt_zero _), fun _ => 0, fun g h hg => absurd hg (Nat.not_lt_zero _)⟩
theorem I_read0 : lo_int Rl0 RlW true 61 17 [] := by
  rintro hC hR ⟨rfl, rfl⟩
  obtain ⟨v, w', hC', hR', e1, e2, hE, e3⟩ := I_readN (tx := (zf, 0)) (pg := (zf, 0)) (rd := (zf, zf, zf, zf, zl, zl, 0, 0, 0)) (a := (fun _ => zf, zf, zf, zf, 0, 0)) (b := (fun _ => zf, zf, zf, zf, 0, 0)) (sw := false) (th := 0) (mtx := (zf, 0)) (ds := (0, zf, zf, zf, zf, zf, zf, zf, zf, zf)) (nw := zf) (ou := (zf, 0)) (ps := (0, 0, 0)) (nd := (0, zf, zf, zf, zf, zf, zf, zf, zf, zf)) (us := (zf, zf, zf, zf, 0)) (re := zf) (va := zf) (nu := (zf, zf)) (t := fun _ => 0) (n := 0) (np := 0) (D := (0, fun _ => 0, fun _ _ => 0)) (s := fun _ => 0) (w := fun _ => 0) ⟨by omega, rfl, rfl, fun k hk => absurd hk (by omega)⟩ ⟨fun _ => 0, by omega, rfl, rfl, fun k hk => absurd hk (by omega)⟩ V0 ⟨rfl, fun _ _ => rfl, fun i k _ hk => absurd hk (Nat.not_lt_zero _)⟩ ⟨rfl, fun _ _ => rfl, fun i k _ hk => absurd hk (Nat.not_lt_zero _)⟩ (fun i hi => absurd hi (Nat.not_lt_zero _)) (fun i hi => absurd hi (Nat.not_lt_zero _)) (fun i hi => absurd hi (Nat.not_lt_zero _)) rfl
  exact ⟨v, w', hC', hR', e1, e2, fun _ => hE.elim id (fun ⟨p, hp, _⟩ => absurd hp (by omega)), e3⟩
theorem lo_int_m {R R1 R' : am_H → am_H → Prop} {c : Bool} {i j : Nat} {av : List Value} (h : lo_int R R' c i j av) (h1 : ∀ {x y}, R1 x y → R x y) : lo_int R1 R' c i j av := fun hC hR hr => h hC hR (h1 hr)
theorem lo_void_m {R R1 R' : am_H → am_H → Prop} {i j : Nat} {av : List Value} (h : lo_void R R' i j av) (h1 : ∀ {x y}, R1 x y → R x y) : lo_void R1 R' i j av := fun hC hR hr => h hC hR (h1 hr)
theorem lo_x_m {R R1 R' : am_H → am_H → Prop} {tb : am_C → am_T} {K : Option Value → Prop} {i : Nat} {av : List Value} (h : lo_x R R' tb K i av) (h1 : ∀ {x y}, R1 x y → R x y) : lo_x R1 R' tb K i av := fun hC hR hr => h hC hR (h1 hr)
theorem lo_xc_m {R R1 R' : am_H → am_H → Prop} {tb : am_C → am_T} {K : Option Value → Prop} {cd : Nat → Int32} {i j : Nat} {av : List Value} (h : lo_xc R R' tb K cd i j av) (h1 : ∀ {x y}, R1 x y → R x y) : lo_xc R1 R' tb K cd i j av := fun hC hR hr => h hC hR (h1 hr)
theorem lo_weak {Rl Rl' : am_H → am_H → Prop} {c : Bool} {i j : Nat} {av : List Value} (h : lo_int Rl Rl' true i j av) : lo_int Rl Rl' c i j av := fun hC hR hr => by
  obtain ⟨v, w, a, b, e1, e2, e3, e4⟩ := h hC hR hr
  exact ⟨v, w, a, b, e1, e2, fun _ => e3 rfl, e4⟩
theorem lm_put (p0 p1 : Int32) : lo_x RlW RlW tb_T_put (fun o => (∃ v, o = some (.int v)) ∨ o = some (.retAddr 0) ∨ o = some (.retAddr 1)) 1 [.int p0, .int p1] := by
  intro hC hR h
  obtain ⟨r, hC', w, th, hR', e1, e2, e3, e4⟩ := X_put p0 p1 h
  rcases e4 with ⟨rfl, hth⟩ | ⟨rfl, hth⟩ | ⟨rfl, hth⟩
  · exact ⟨(some _, hC'), w, hR', e1, Or.inl ⟨_, rfl⟩, e2, th, e3⟩
  · exact ⟨(some _, hC'), w, hR', e1, Or.inr (Or.inl rfl), e2, th, e3⟩
  · exact ⟨(some _, hC'), w, hR', e1, Or.inr (Or.inr rfl), e2, th, e3⟩
theorem lm_has (p0 p1 : Int32) : lo_x RlW RlW tb_T_has (fun o => (∃ v, o = some (.int v)) ∨ o = some (.retAddr 0) ∨ o = some (.retAddr 2)) 21 [.int p0, .int p1] := by
  intro hC hR h
  obtain ⟨r, hC', w, th, hR', e1, e2, e3, e4⟩ := X_has p0 p1 h
  rcases e4 with ⟨rfl, hth⟩ | ⟨rfl, hth⟩ | ⟨rfl, hth⟩
  · exact ⟨(some _, hC'), w, hR', e1, Or.inl ⟨_, rfl⟩, e2, th, e3⟩
  · exact ⟨(some _, hC'), w, hR', e1, Or.inr (Or.inl rfl), e2, th, e3⟩
  · exact ⟨(some _, hC'), w, hR', e1, Or.inr (Or.inr rfl), e2, th, e3⟩
theorem lm_write (p0 : Int32) : lo_xc RlW RlW tb_T_write (fun o => (∃ v, o = some (.int v)) ∨ o = some (.retAddr 0) ∨ o = some (.retAddr 3)) (fun k => if k = 0 then 1 else if k = 3 then 2 else 0) 29 0 [.int p0] := by
  intro hC hR h
  obtain ⟨r, hC', w, th, hR', e1, e2, e3, e4⟩ := X_write p0 h
  have e5 : am_run rPT rML 7 0 [.ref 0] hR' = some (some (.int th), hR') := by
    obtain ⟨tx, pg, rd, a, b, sw, mtx, ds, nw, ou, ps, nd, us, re, va, nu, -, rfl, -⟩ := e3
    exact ev_M_thrown_v rfl
  rcases e4 with ⟨rfl, hth⟩ | ⟨rfl, hth⟩ | ⟨rfl, hth⟩
  · exact ⟨(some _, hC'), w, th, hR', e1, Or.inl ⟨_, rfl⟩, e2, e5, Or.inl ⟨rfl, hth⟩, th, e3⟩
  · exact ⟨(some _, hC'), w, th, hR', e1, Or.inr (Or.inl rfl), e2, e5, Or.inr ⟨0, rfl, hth, by decide⟩, th, e3⟩
  · exact ⟨(some _, hC'), w, th, hR', e1, Or.inr (Or.inr rfl), e2, e5, Or.inr ⟨3, rfl, hth, by decide⟩, th, e3⟩
theorem lm_written (p0 : Int32) : lo_x RlW RlW tb_T_written (fun o => (∃ v, o = some (.int v)) ∨ o = some (.retAddr 4)) 30 [.int p0] := by
  intro hC hR h
  obtain ⟨r, hC', w, th, hR', e1, e2, e3, e4⟩ := X_written p0 h
  rcases e4 with ⟨rfl, hth⟩ | ⟨rfl, hth⟩
  · exact ⟨(some _, hC'), w, hR', e1, Or.inl ⟨_, rfl⟩, e2, th, e3⟩
  · exact ⟨(some _, hC'), w, hR', e1, Or.inr rfl, e2, th, e3⟩
theorem lw_main (L : Nat) (hL : L ≤ 1536) : ∃ Rl : Nat → am_H → am_H → Prop, Rl 0 hp0 hr0 ∧ lw_St Rl L := ⟨fun _ => RlW, RlW_0, fun _ => RlW_shape, fun _ _ _ h => h, fun _ _ => ⟨fun p0 p1 => lm_put p0 p1, I_read, fun p0 => lo_weak (I_about p0), fun p0 p1 => lm_has p0 p1, V_order, fun p0 => lm_write p0, fun p0 => lm_written p0, V_reset, fun p0 => lo_weak (I_cycle p0), lo_weak (I_latches)⟩⟩
