/-! READ, put together -/
abbrev RdC : Type := Option (Int32 × SR × SD)
abbrev RdM : Type := Option (Int32 × Mth × Mtx × Mds × Mnw × Mps × Mnd × Mus × Mre)
def RES (t : Nat → Nat) (n : Nat) (fill : RdC) (read : RdM) (mtx : Mtx) (ds : Mds) (nw : Mnw) : Prop :=
  (∃ f g rd' d' th' ps' nd' us' re', fill = some (nI f, rd', d') ∧ read = some (nI g, th', (mtx.1, 0), ds, nw, ps', nd', us', re') ∧ f ≤ 1501 ∧ g ≤ 1501 ∧ FE t n f g) ∨
  (∃ (D : De) (s : Nat → Nat) (rd' : SR) (d' : SD) (th' : Mth) (ds' : Mds) (nw' : Mnw) (ps' : Mps) (nd' : Mnd) (us' : Mus) (re' : Mre), fill = some (m1, rd', d') ∧ read = some (m1, th', (mtx.1, 0), ds', nw', ps', nd', us', re') ∧ Vd D ∧ CD d' D ∧ MD ds' D ∧ Sq D s (D.2.1 3) ∧ (∀ j, j < D.2.1 3 → d'.2.2.1 j = nI (s j)) ∧ ∀ k, k < D.2.1 1 → nw' k = nI (D.2.2 5 k))
theorem L_close {tx : SB} {mtx : Mtx} {t : Nat → Nat} {n : Nat} {rd : SR} {ps : Mps} (hT : BR tx mtx t n) (h : SS t n rd ps) :
    ∃ ft ps', fn_R_closing tx rd = some (sPF rd rd.2.2.2.2.2.2.2.1 ft) ∧ (∀ x1 th ds nw nd us re, fn_M_read_103 x1 th mtx ds nw ps nd us re = fn_M_read_144 x1 th mtx ds nw ps' nd us re) ∧ ((ft = m1 ∧ ps' = ps ∧ ∃ p, Ok n rd ps p) ∨ Bd t n (sPF rd rd.2.2.2.2.2.2.2.1 ft) ps') := by
  have h1500 := hT.1
  rcases h with ⟨p, ho⟩ | hb
  · obtain ⟨a, b, c, d, e⟩ := id ho
    have hC := B_at hT (k := p) (by omega)
    have hrd : some rd = some (sPF rd (nI p) m1) := by unfold sPF; rw [← a, ← b]
    by_cases hp : p < n
    · rw [if_pos hp] at hC
      have htp := hT.2.2.2 p hp
      have htp1 := htp.1
      by_cases h99 : t p = 99
      · refine ⟨m1, ps, ?_, fun x1 th ds nw nd us re => ?_, Or.inl ⟨rfl, rfl, p, ho⟩⟩
        · unfold fn_R_closing
          rw [a, hC, Option.bind_some, h99]
          exact ((am_iff (by decide)).trans (am_ift (by decide))).trans hrd
        · unfold fn_M_read_103
          have h2 := hT.2.2.1
          have e2 := htp.2.1
          rw [c, h2]
          simp (disch := omega) only [z_lit, z_mm, z_eqm, z_eqm', z_ltm, z_ltm', z_lem, z_lem', nI_leI, nI_ltI, nI_eq, nI_toInt, nI_clamp, nI_add, pk_mul, pk_sub, pk_div, z_rem, z_shr1, z_and1, decide_eq_true_eq, if_pos, if_neg, Option.bind_some, ite_true, ite_false, eq_self, not_false_eq_true, not_true_eq_false, d, e2, h99]
      · refine ⟨nI p, (nI p, nI p, ps.2.2), ?_, fun x1 th ds nw nd us re => ?_, Or.inr ⟨p, p, rfl, rfl, by omega, by omega, Or.inr rfl⟩⟩
        · unfold fn_R_closing
          rw [a, hC, Option.bind_some]
          have ef : fn_R_fail (nI p) rd = some (sPF rd (nI p) (nI p)) := by rw [R_fail_ok b, a]
          refine (am_iff (decide_eq_false (show ¬ nI (t p) = (-1 : Int32) from z_m1 (by omega)))).trans ((am_iff (decide_eq_false (show ¬ nI (t p) = (99 : Int32) from fun z => h99 ((nI_eq (b := 99) (by omega) (by omega)).mp z)))).trans ?_)
          rw [ef]
          rfl
        · unfold fn_M_read_103
          have h2 := hT.2.2.1
          have e2 := htp.2.1
          have em : fn_M_bad (nI p) ps = some (nI p, nI p, ps.2.2) := by rw [M_bad_ok d, c]
          rw [c, h2]
          simp (disch := omega) only [z_lit, z_mm, z_eqm, z_eqm', z_ltm, z_ltm', z_lem, z_lem', nI_leI, nI_ltI, nI_eq, nI_toInt, nI_clamp, nI_add, pk_mul, pk_sub, pk_div, z_rem, z_shr1, z_and1, decide_eq_true_eq, if_pos, if_neg, Option.bind_some, ite_true, ite_false, eq_self, not_false_eq_true, not_true_eq_false, d, e2, em]
    · rw [if_neg hp] at hC
      refine ⟨m1, ps, ?_, fun x1 th ds nw nd us re => ?_, Or.inl ⟨rfl, rfl, p, ho⟩⟩
      · unfold fn_R_closing
        rw [a, hC, Option.bind_some]
        exact (am_ift (by decide)).trans hrd
      · unfold fn_M_read_103
        have h2 := hT.2.2.1
        rw [c, h2]
        simp (disch := omega) only [z_lit, z_mm, z_eqm, z_eqm', z_ltm, z_ltm', z_lem, z_lem', nI_leI, nI_ltI, nI_eq, nI_toInt, nI_clamp, nI_add, pk_mul, pk_sub, pk_div, z_rem, z_shr1, z_and1, decide_eq_true_eq, if_pos, if_neg, Option.bind_some, ite_true, ite_false, eq_self, not_false_eq_true, not_true_eq_false, d]
  · obtain ⟨f, g, a, b, c, d, e⟩ := id hb
    refine ⟨nI f, ps, ?_, fun x1 th ds nw nd us re => ?_, Or.inr ⟨f, g, rfl, b, c, d, e⟩⟩
    · obtain ⟨y, hy⟩ := B_tot tx rd.2.2.2.2.2.2.2.1
      have hrd : some rd = some (sPF rd rd.2.2.2.2.2.2.2.1 (nI f)) := by unfold sPF; rw [← a]
      unfold fn_R_closing
      rw [hy, Option.bind_some, R_fail_bad a (by omega)]
      split
      · exact hrd
      · split
        · exact hrd
        · rfl
    · unfold fn_M_read_103
      exact am_iff (decide_eq_false (Bd_ft hb).2)
theorem A_bad {t : Nat → Nat} {n : Nat} {q2 : SR} {ps : Mps} (h : Bd t n q2 ps) : ∃ f g, f ≤ 1501 ∧ g ≤ 1501 ∧ FE t n f g ∧ (∀ tx d, fn_R_fill_116 tx q2 d = some (nI f, q2, d)) ∧ (∀ x1 th mtx ds nw nd us re, fn_M_read_144 x1 th mtx ds nw ps nd us re = some (nI g, th, (mtx.1, 0), ds, nw, ps, nd, us, re)) := by
  obtain ⟨f, g, a, b, c, d, e⟩ := id h
  obtain ⟨z1, z2⟩ := Bd_ft h
  refine ⟨f, g, c, d, e, fun tx dd => ?_, fun x1 th mtx ds nw nd us re => ?_⟩
  · unfold fn_R_fill_116
    refine (am_iff (decide_eq_false z1)).trans ?_
    rw [a]
  · unfold fn_M_read_144 fn_M_read_160 fn_M_read_176
    refine (am_iff (decide_eq_false z2)).trans ((am_iff (decide_eq_false z2)).trans ((am_iff (decide_eq_false z2)).trans ?_))
    rw [b]
theorem E_bad {tx : SB} {mtx : Mtx} {t : Nat → Nat} {n : Nat} {x : Int32} {rd : SR} {d : SD} {th : Mth} {ds : Mds} {nw : Mnw} {ps : Mps} {nd : Mnd} {us : Mus} {re : Mre} (hT : BR tx mtx t n) (h : Bd t n rd ps) : RES t n (fn_R_fill_91 x tx rd d) (fn_M_read_103 x th mtx ds nw ps nd us re) mtx ds nw := by
  obtain ⟨ft, ps', e1, e2, hc⟩ := L_close hT (Or.inr h : SS t n rd ps)
  have hb : Bd t n (sPF rd rd.2.2.2.2.2.2.2.1 ft) ps' := hc.elim (fun z => by
    obtain ⟨p, hp⟩ := z.2.2
    exact absurd hp.2.1 (Bd_ft h).1) id
  obtain ⟨f, g, b1, b2, b3, b4, b5⟩ := A_bad hb
  refine Or.inl ⟨f, g, sPF rd rd.2.2.2.2.2.2.2.1 ft, d, th, ps', nd, us, re, ?_, (e2 _ _ _ _ _ _ _).trans (b5 _ _ _ _ _ _ _ _), b1, b2, b3⟩
  unfold fn_R_fill_91
  rw [e1, Option.bind_some]
  exact (am_iff (decide_eq_false (Bd_ft hb).1)).trans (b4 _ _)
/-- no fault at all: the class arranges, the reference takes over -/
theorem E_good {t : Nat → Nat} {n : Nat} {tx : SB} {mtx : Mtx} {rd : SR} {d : SD} {th : Mth} {ds : Mds} {nw : Mnw} {ps : Mps} {nd : Mnd} {us : Mus} {re : Mre} {D : De} (hV : Vd D) (hC : CD d D) (hM : MD nd D) (h1 : rd.2.2.2.2.2.2.2.2 = m1) (h2 : ps.2.1 = m1) : RES t n (fn_R_fill_116 tx rd d) (fn_M_read_176 th mtx ds nw ps nd us re) mtx ds nw := by
  obtain ⟨q, f, s, a1, a2, a3⟩ := C_arrange hC hV
  obtain ⟨th', ds', nw', b1, b2, b3⟩ := M_takeOver (th := th) (ds := ds) (nw := nw) hM hV
  refine Or.inr ⟨D, s, rd, sSq d q f, th', ds', nw', ps, nd, us, re, ?_, ?_, hV, CD_sSq hC, b2, a1, a2, b3⟩
  · unfold fn_R_fill_116
    refine (am_ift (decide_eq_true h1)).trans ?_
    rw [a3, h1]
    rfl
  · unfold fn_M_read_176
    refine (am_ift (decide_eq_true h2)).trans ?_
    rw [b1, h2]
    rfl
theorem FR_none {D : De} {gp : Nat → Nat} {ft0 ft : Int32} (h : FR D gp (D.2.1 3) ft0 ft) (hno : ∀ g, g < D.2.1 3 → ¬ Wm D (D.2.1 3) g g) : ft = ft0 := by
  rcases h with ⟨a, _⟩ | ⟨j, a, b, _⟩
  · exact a
  · exact absurd b (hno j a)
theorem FR_some {D : De} {gp : Nat → Nat} {f1 f2 : Int32} (h1 : FR D gp (D.2.1 3) m1 f1) (h2 : FR D gp (D.2.1 3) m1 f2) (hex : ¬ ∀ g, g < D.2.1 3 → ¬ Wm D (D.2.1 3) g g) : ∃ j, j < D.2.1 3 ∧ f1 = nI (gp j) ∧ f2 = nI (gp j) := by
  rcases h1 with ⟨_, z⟩ | ⟨j, a, b, c, d⟩
  · exact absurd z hex
  · rcases h2 with ⟨_, z⟩ | ⟨j', a', b', c', d'⟩
    · exact absurd z hex
    · have hj : j = j' := by
        by_cases q1 : j < j'
        · exact absurd b (c' j q1)
        · by_cases q2 : j' < j
          · exact absurd b' (c j' q2)
          · omega
      subst hj
      exact ⟨j, a, d.elim And.right (fun z => absurd rfl z.1), d'.elim And.right (fun z => absurd rfl z.1)⟩
theorem E_plain {tx : SB} {mtx : Mtx} {t : Nat → Nat} {n M : Nat} {C K : Nat → Nat} {rd : SR} {d : SD} {th : Mth} {ds : Mds} {nw : Mnw} {ps : Mps} {nd : Mnd} {us : Mus} {re : Mre} (hT : BR tx mtx t n) (hCb : Cb M C) (hK : ∀ i, i < 4 → K i = C i) (h : PI n M C K (rd, d) (ps, nd, us)) : RES t n (fn_R_fill_91 (nI 0) tx rd d) (fn_M_read_103 (nI 0) th mtx ds nw ps nd us re) mtx ds nw := by
  obtain ⟨D, hD1, hD2, ⟨p, ho⟩, hFl, hVf, hDf, ⟨uu, ul, up, hUs⟩, gp, hGp⟩ := h
  have hD1 : D.1 = M := hD1
  have hD2 : D.2.1 = C := hD2
  subst hD1 hD2
  have ho : Ok n rd ps p := ho
  have hFl : Fl D K d nd := hFl
  have hDf : Df D K rd.1 us.2.1 := hDf
  have hUs : Us D K uu ul up rd us := hUs
  have hGp : Gp (K 3) gp rd.2.2.2.1 us.1 := hGp
  have hb : Vb D := hCb
  obtain ⟨b0, b1, b2, b3, b4⟩ := id hb
  have k1 := hK 1 (by omega)
  have k2 := hK 2 (by omega)
  have k3 := hK 3 (by omega)
  have hu := hUs.1
  obtain ⟨hCD, hMD⟩ := Fl_CD hFl hK
  have hVl := Vf_Vl hVf hK
  have hdist := Vf_dist hVf hK
  obtain ⟨ft, ps', e1, e2, hc⟩ := L_close hT (Or.inl ⟨p, ho⟩ : SS t n rd ps)
  rcases hc with ⟨rfl, hpe, _⟩ | hbd
  · rw [hpe] at e2
    have ho' : Ok n (sPF rd rd.2.2.2.2.2.2.2.1 m1) ps p := ⟨ho.1, rfl, ho.2.2⟩
    obtain ⟨ft1, fm1, u1, u2, u3⟩ := L_undef (rd := sPF rd rd.2.2.2.2.2.2.2.1 m1) ho' hDf hUs (by omega)
    rw [sPF2] at u1
    have u1' : fn_R_findUndefined (sPF rd rd.2.2.2.2.2.2.2.1 m1) = some (sPF rd rd.2.2.2.2.2.2.2.1 ft1) := u1
    have hft1 : ft1 = m1 ∨ ∃ f, f ≤ 1501 ∧ ft1 = nI f := u3.imp And.left (fun ⟨f, a, b, _⟩ => ⟨f, a, b⟩)
    obtain ⟨rd', r1, r2⟩ := C_round (rd := sPF rd rd.2.2.2.2.2.2.2.1 ft1) (gp := gp) hCD hb hVl hdist (fun k hk => ⟨(hGp k (by omega)).1, (hGp k (by omega)).2.2⟩) hft1
    have r2 : FR D gp (D.2.1 3) ft1 rd'.2.2.2.2.2.2.2.2 := r2
    have hps : ps.2.1 = (-1 : Int32) := ho.2.2.2.1
    have hC91 : fn_R_fill_91 (nI 0) tx rd d = fn_R_fill_116 tx rd' d := by
      unfold fn_R_fill_91
      rw [e1, Option.bind_some]
      refine (am_ift (by exact decide_eq_true rfl)).trans ((am_ift (by decide)).trans ?_)
      rw [u1', Option.bind_some, r1, Option.bind_some]
    have hM144 : fn_M_read_103 (nI 0) th mtx ds nw ps nd us re = fn_M_read_160 (nI 0) th mtx ds nw (ps.1, fm1, ps.2.2) nd us re := by
      rw [e2]
      unfold fn_M_read_144
      refine (am_ift (decide_eq_true hps)).trans ((am_ift (by decide)).trans ?_)
      rw [u2, Option.bind_some]
    rw [hC91, hM144]
    rcases u3 with ⟨rfl, rfl, hun⟩ | ⟨f, hf, rfl, rfl⟩
    · obtain ⟨fm, re', q1, q2⟩ := M_round (ps := (ps.1, m1, ps.2.2)) (re := re) (gp := gp) (us := us) hMD hb hVl hdist (fun k hk => (hGp k (by omega)).2) rfl
      have hM160 : fn_M_read_160 (nI 0) th mtx ds nw (ps.1, m1, ps.2.2) nd us re = fn_M_read_176 th mtx ds nw (ps.1, fm, ps.2.2) nd us re' := by
        unfold fn_M_read_160
        refine (am_ift (decide_eq_true (show m1 = (-1 : Int32) from rfl))).trans ((am_ift (by decide)).trans ?_)
        rw [q1, Option.bind_some]
      rw [hM160]
      by_cases hno : ∀ g, g < D.2.1 3 → ¬ Wm D (D.2.1 3) g g
      · exact E_good (plain_Vd hb hK hVf hUs hun hno) hCD hMD (FR_none r2 hno) (FR_none q2 hno)
      · obtain ⟨j, j1, j2, j3⟩ := FR_some r2 q2 hno
        have hg := (hGp j (by omega)).2.2
        have hbd : Bd t n rd' (ps.1, fm, ps.2.2) := ⟨gp j, gp j, j2, j3, hg, hg, Or.inr rfl⟩
        obtain ⟨f, g, c1, c2, c3, c4, c5⟩ := A_bad hbd
        refine Or.inl ⟨gp j, gp j, rd', d, th, (ps.1, fm, ps.2.2), nd, us, re', ?_, ?_, hg, hg, Or.inr rfl⟩
        · unfold fn_R_fill_116
          refine (am_iff (decide_eq_false (Bd_ft hbd).1)).trans ?_
          rw [j2]
        · unfold fn_M_read_176
          refine (am_iff (decide_eq_false (Bd_ft hbd).2)).trans ?_
          rw [j3]
    · have hrf : rd'.2.2.2.2.2.2.2.2 = nI f := by
        rcases r2 with ⟨a, _⟩ | ⟨j, _, _, _, d⟩
        · exact a
        · exact d.elim (fun z => absurd z.1 (z_m1 (by omega))) And.right
      have hbd : Bd t n rd' (ps.1, nI f, ps.2.2) := ⟨f, f, hrf, rfl, hf, hf, Or.inr rfl⟩
      refine Or.inl ⟨f, f, rd', d, th, (ps.1, nI f, ps.2.2), nd, us, re, ?_, ?_, hf, hf, Or.inr rfl⟩
      · unfold fn_R_fill_116
        refine (am_iff (decide_eq_false (Bd_ft hbd).1)).trans ?_
        rw [hrf]
      · unfold fn_M_read_160 fn_M_read_176
        exact (am_iff (decide_eq_false (Bd_ft hbd).2)).trans (am_iff (decide_eq_false (Bd_ft hbd).2))
  · obtain ⟨f, g, c1, c2, c3, c4, c5⟩ := A_bad hbd
    refine Or.inl ⟨f, g, sPF rd rd.2.2.2.2.2.2.2.1 ft, d, th, ps', nd, us, re, ?_, (e2 _ _ _ _ _ _ _).trans (c5 _ _ _ _ _ _ _ _), c1, c2, c3⟩
    unfold fn_R_fill_91
    rw [e1, Option.bind_some]
    exact (am_iff (decide_eq_false (Bd_ft hbd).1)).trans (c4 _ _)
theorem E_packed {tx : SB} {mtx : Mtx} {t : Nat → Nat} {n M : Nat} {C K : Nat → Nat} {rd : SR} {d : SD} {th : Mth} {ds : Mds} {nw : Mnw} {ps : Mps} {nd : Mnd} {us : Mus} {re : Mre} (hT : BR tx mtx t n) (hCb : Cb M C) (hM : C 0 + C 1 + C 3 = M) (hK : ∀ i, i < 4 → K i = C i) (h : PJ n M C K (rd, d) (ps, nd, us)) : RES t n (fn_R_fill_91 (nI 1) tx rd d) (fn_M_read_103 (nI 1) th mtx ds nw ps nd us re) mtx ds nw := by
  obtain ⟨D, hD1, hD2, ⟨p, ho⟩, hFl, hVp, -⟩ := h
  have hD1 : D.1 = M := hD1
  have hD2 : D.2.1 = C := hD2
  subst hD1 hD2
  have ho : Ok n rd ps p := ho
  have hFl : Fl D K d nd := hFl
  have hb : Vb D := hCb
  obtain ⟨hCD, hMD⟩ := Fl_CD hFl hK
  obtain ⟨ft, ps', e1, e2, hc⟩ := L_close hT (Or.inl ⟨p, ho⟩ : SS t n rd ps)
  rcases hc with ⟨rfl, hpe, _⟩ | hbd
  · rw [hpe] at e2
    have hps : ps.2.1 = (-1 : Int32) := ho.2.2.2.1
    have hC91 : fn_R_fill_91 (nI 1) tx rd d = fn_R_fill_116 tx (sPF rd rd.2.2.2.2.2.2.2.1 m1) d := by
      unfold fn_R_fill_91
      rw [e1, Option.bind_some]
      exact (am_ift (by exact decide_eq_true rfl)).trans (am_iff (by decide))
    have hM144 : fn_M_read_103 (nI 1) th mtx ds nw ps nd us re = fn_M_read_176 th mtx ds nw ps nd us re := by
      rw [e2]
      unfold fn_M_read_144 fn_M_read_160
      exact (am_ift (decide_eq_true hps)).trans ((am_iff (by decide)).trans ((am_ift (decide_eq_true hps)).trans (am_iff (by decide))))
    rw [hC91, hM144]
    exact E_good (packed_Vd hb hK hVp hM) hCD hMD rfl ho.2.2.2.1
  · obtain ⟨f, g, c1, c2, c3, c4, c5⟩ := A_bad hbd
    refine Or.inl ⟨f, g, sPF rd rd.2.2.2.2.2.2.2.1 ft, d, th, ps', nd, us, re, ?_, (e2 _ _ _ _ _ _ _).trans (c5 _ _ _ _ _ _ _ _), c1, c2, c3⟩
    unfold fn_R_fill_91
    rw [e1, Option.bind_some]
    exact (am_iff (decide_eq_false (Bd_ft hbd).1)).trans (c4 _ _)
