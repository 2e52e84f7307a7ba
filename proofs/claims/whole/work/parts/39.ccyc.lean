/-! THE CLASS'S cycle -/
/-- marks that hold f of the first n -/
def Ag (D : De) (s : Nat → Nat) (m : Nat → Int32) (f : Nat → Nat) (n : Nat) : Prop := m 0 = nI (f 0) ∧ ∀ i, i < n → m (odv D s i / 2) = nI (f (odv D s i / 2))
theorem Ag_step {D : De} {s : Nat → Nat} {m : Nat → Int32} {f : Nat → Nat} {n b : Nat} (hV : Vd D) (hs : Sq D s (D.2.1 3)) (hn : n < dn D) (h : Ag D s m f n) : Ag D s (upd m (odv D s n / 2) (nI b)) (fun v => if v = odv D s n / 2 then b else f v) (n + 1) := by
  have hp := odv_pos hV hs hn
  refine ⟨?_, fun i hi => ?_⟩
  · rw [pk_un (by omega)]; exact h.1.trans (congrArg nI (if_neg (by omega)).symm)
  · by_cases e : i = n
    · subst e; rw [pk_us]; exact congrArg nI (if_pos rfl).symm
    · have hne : ¬ odv D s i / 2 = odv D s n / 2 := fun he => e (odv_inj hV hs (by omega) hn he)
      rw [pk_un hne]; exact (h.2 i (by omega)).trans (congrArg nI (if_neg hne).symm)
theorem Ag_mkd {D : De} {s : Nat → Nat} {m : Nat → Int32} {f : Nat → Nat} {k v : Nat} (h : Ag D s m f (D.2.1 0 + D.2.1 1 + k)) (hm : mkd D s k v) : m v = nI (f v) := by
  rcases mkd_odv hm with rfl | ⟨i, a, b⟩
  · exact h.1
  · rw [← b]; exact h.2 i a
theorem Ag_def {D : De} {s : Nat → Nat} {m : Nat → Int32} {f : Nat → Nat} {v : Nat} (hs : Sq D s (D.2.1 3)) (h : Ag D s m f (dn D)) (hv : isDef D v) : m v = nI (f v) := by
  rcases odv_onto hs hv with rfl | ⟨i, a, b⟩
  · exact h.1
  · rw [← b]; exact h.2 i a
theorem C_truth {d : SD} {f : Nat → Nat} {u : Nat} (hu : u < 200) (hm : d.2.2.2.1 (u / 2) = nI (f (u / 2))) (hf : f (u / 2) ≤ 1) : fn_D_truth (nI u) d = some (nI (tr f u)) := by
  unfold fn_D_truth
  simp (disch := omega) only [z_lit, z_mm, z_eqm, z_eqm', z_ltm, z_ltm', z_lem, z_lem', nI_leI, nI_ltI, nI_eq, nI_toInt, nI_clamp, nI_add, pk_mul, pk_sub, pk_div, z_rem, z_shr1, z_and1, decide_eq_true_eq, if_pos, if_neg, Option.bind_some, ite_true, ite_false, eq_self, not_false_eq_true, not_true_eq_false, C_markOf, hm, z_xor]
  rfl
theorem C_truths {d : SD} {D : De} {f : Nat → Nat} {i : Nat} (h : CD d D) (hV : Vd D) (hi : i = 2 ∨ i = 4) (hm : ∀ v, isDef D v → d.2.2.2.1 v = nI (f v)) (hf : ∀ v, isDef D v → f v ≤ 1) : fn_D_truths (nI i) d = some (nI (bsum (fun k => tr f (D.2.2 i k)) (D.2.1 (dk i)))) := by
  have hb := hV.1
  have hl := hV.2.1
  have h8 : D.2.1 (dk i) ≤ 8 := by rcases hi with rfl | rfl; exact hb.2.2.2.1; exact hb.2.2.1
  have hi8 : i < 8 := by omega
  have hmn : fn_D_many (nI i) d = some (nI (D.2.1 (dk i))) := C_many h hi8
  obtain ⟨x, hx, e⟩ := z_loop (fun N k (x : Int32) => fn_D_truths_4 (nI i) d (fun x => some x) N x (nI k)) (fun x => some x) (D.2.1 (dk i)) (fun k x => x = nI (bsum (fun k => tr f (D.2.2 i k)) k))
    (fun N k x hk hx => by
      have hx : x = nI (bsum (fun k => tr f (D.2.2 i k)) k) := hx
      subst hx
      refine ⟨_, rfl, ?_⟩
      show fn_D_truths_4 _ _ _ (N + 1) _ _ = _
      rw [fn_D_truths_4]
      have hu : isDef D (D.2.2 i k / 2) := hV.2.2.2.2.2.1 i k (by omega) hk
      have hg : fn_D_get (nI i) (nI k) d = some (nI (D.2.2 i k)) := C_getD h hb hi8 hk
      have ht : fn_D_truth (nI (D.2.2 i k)) d = some (nI (tr f (D.2.2 i k))) := C_truth (hl i k hi8 hk) (hm _ hu) (hf _ hu)
      have hbl : bsum (fun k => tr f (D.2.2 i k)) k < 2 ^ k := bsum_lt fun k _ => tr_le
      have h1 := tr_le (f := f) (u := D.2.2 i k)
      simp (disch := omega) only [z_lit, z_mm, z_eqm, z_eqm', z_ltm, z_ltm', z_lem, z_lem', nI_leI, nI_ltI, nI_eq, nI_toInt, nI_clamp, nI_add, pk_mul, pk_sub, pk_div, z_rem, z_shr1, z_and1, decide_eq_true_eq, if_pos, if_neg, Option.bind_some, ite_true, ite_false, eq_self, not_false_eq_true, not_true_eq_false, hmn, hg, ht]
      rw [z_or (by omega) hbl h1]
      rfl)
    (fun N x hx => by
      show fn_D_truths_4 _ _ _ (N + 1) _ _ = _
      rw [fn_D_truths_4]
      simp (disch := omega) only [z_lit, z_mm, z_eqm, z_eqm', z_ltm, z_ltm', z_lem, z_lem', nI_leI, nI_ltI, nI_eq, nI_toInt, nI_clamp, nI_add, pk_mul, pk_sub, pk_div, z_rem, z_shr1, z_and1, decide_eq_true_eq, if_pos, if_neg, Option.bind_some, ite_true, ite_false, eq_self, not_false_eq_true, not_true_eq_false, hmn]) (N := am_NF) (k := 0) (s := nI 0) (by omega) (by rw [z_NF]; omega) rfl
  rw [← hx]
  exact e
theorem C_step {d : SD} {D : De} {s : Nat → Nat} {x : Int32} {w : Nat → Nat} (h : CD d D) (hV : Vd D) (hs : Sq D s (D.2.1 3)) (hq : ∀ j, j < D.2.1 3 → d.2.2.1 j = nI (s j)) (hw : ∀ k, k < D.2.1 1 → w k ≤ 1) (hlb : d.2.2.2.2.2 = nI (bsum w (D.2.1 1))) :
    ∃ f m, TV D x w f ∧ fn_T_cycle x d = some (nI (bsum (fun k => tr f (D.2.2 2 k)) (D.2.1 2)), (d.1, d.2.1, d.2.2.1, m, d.2.2.2.2.1, nI (bsum (fun k => tr f (D.2.2 4 k)) (D.2.1 1)))) := by
  have hb := hV.1
  have hl := hV.2.1
  obtain ⟨b0, b1, b2, b3, b4⟩ := id hb
  have h0 : ∀ m, fn_D_many (nI 0) (sMk d m) = some (nI (D.2.1 0)) := fun m => C_many (CD_sMk h) (by omega)
  have h1 : ∀ m, fn_D_many (nI 1) (sMk d m) = some (nI (D.2.1 1)) := fun m => C_many (CD_sMk h) (by omega)
  have h3 : ∀ m, fn_D_many (nI 3) (sMk d m) = some (nI (D.2.1 3)) := fun m => C_many (CD_sMk h) (by omega)
  have g0 : ∀ m k, k < D.2.1 0 → fn_D_get (nI 0) (nI k) (sMk d m) = some (nI (D.2.2 0 k)) := fun m k hk => C_getD (CD_sMk h) hb (by omega) hk
  have g1 : ∀ m k, k < D.2.1 1 → fn_D_get (nI 1) (nI k) (sMk d m) = some (nI (D.2.2 1 k)) := fun m k hk => C_getD (CD_sMk h) hb (by omega) hk
  have g3 : ∀ m k, k < D.2.1 3 → fn_D_get (nI 3) (nI k) (sMk d m) = some (nI (D.2.2 3 k)) := fun m k hk => C_getD (CD_sMk h) hb (by omega) hk
  have g6 : ∀ m k, k < D.2.1 3 → fn_D_get (nI 6) (nI k) (sMk d m) = some (nI (D.2.2 6 k)) := fun m k hk => C_getD (CD_sMk h) hb (by omega) hk
  have g7 : ∀ m k, k < D.2.1 3 → fn_D_get (nI 7) (nI k) (sMk d m) = some (nI (D.2.2 7 k)) := fun m k hk => C_getD (CD_sMk h) hb (by omega) hk
  have L1 := fun (κ : SD → Option (Int32 × SD)) (m : Nat → Int32) (f : Nat → Nat) (hE : Ev D s x w f 0) (hA : Ag D s m f 0) => z_loop (fun N k (y : SD) => fn_D_step_8 x κ N (nI k) y) κ (D.2.1 0) (fun k y => ∃ m f, y = sMk d m ∧ Ev D s x w f k ∧ Ag D s m f k)
    (fun N k y hk ⟨m, f, hy, hE, hA⟩ => by
      subst hy
      have hn : k < dn D := by unfold dn; omega
      have hlt := hl 0 k (by omega) hk
      have hE' := Ev_step hV hs hn hE
      have hA' := Ag_step (b := rv D s x w f k) hV hs hn hA
      have hrv : rv D s x w f k = bi x k := by unfold rv; rw [if_pos hk]
      refine ⟨_, ⟨_, _, rfl, hE', hA'⟩, ?_⟩
      rw [odv_i hk, hrv]
      show fn_D_step_8 _ _ (N + 1) _ _ = _
      rw [fn_D_step_8]
      have hg := g0 m k hk
      simp (disch := omega) only [z_lit, z_mm, z_eqm, z_eqm', z_ltm, z_ltm', z_lem, z_lem', nI_leI, nI_ltI, nI_eq, nI_toInt, nI_clamp, nI_add, pk_mul, pk_sub, pk_div, z_rem, z_shr1, z_and1, decide_eq_true_eq, if_pos, if_neg, Option.bind_some, ite_true, ite_false, eq_self, not_false_eq_true, not_true_eq_false, h0, hg, bi_class, C_mark]
      rfl)
    (fun N y ⟨m, f, hy, _⟩ => by
      subst hy
      show fn_D_step_8 _ _ (N + 1) _ _ = _
      rw [fn_D_step_8]
      simp (disch := omega) only [z_lit, z_mm, z_eqm, z_eqm', z_ltm, z_ltm', z_lem, z_lem', nI_leI, nI_ltI, nI_eq, nI_toInt, nI_clamp, nI_add, pk_mul, pk_sub, pk_div, z_rem, z_shr1, z_and1, decide_eq_true_eq, if_pos, if_neg, Option.bind_some, ite_true, ite_false, eq_self, not_false_eq_true, not_true_eq_false, h0]) (N := am_NF) (k := 0) (s := sMk d m) (by omega) (by rw [z_NF]; omega) ⟨m, f, rfl, hE, hA⟩
  have L2 := fun (κ : SD → Option (Int32 × SD)) (m : Nat → Int32) (f : Nat → Nat) (hE : Ev D s x w f (D.2.1 0)) (hA : Ag D s m f (D.2.1 0)) => z_loop (fun N k (y : SD) => fn_D_step_40 κ N (nI k) y) κ (D.2.1 1) (fun k y => ∃ m f, y = sMk d m ∧ Ev D s x w f (D.2.1 0 + k) ∧ Ag D s m f (D.2.1 0 + k))
    (fun N k y hk ⟨m, f, hy, hE, hA⟩ => by
      subst hy
      have hn : D.2.1 0 + k < dn D := by unfold dn; omega
      have hlt := hl 1 k (by omega) hk
      have hE' := Ev_step hV hs hn hE
      have hA' := Ag_step (b := rv D s x w f (D.2.1 0 + k)) hV hs hn hA
      have hrv : rv D s x w f (D.2.1 0 + k) = w k := by unfold rv; rw [if_neg (by omega), if_pos (by omega), show D.2.1 0 + k - D.2.1 0 = k by omega]
      refine ⟨_, ⟨_, _, rfl, hE', hA'⟩, ?_⟩
      rw [odv_l hk, hrv]
      show fn_D_step_40 _ (N + 1) _ _ = _
      rw [fn_D_step_40]
      have hg := g1 m k hk
      have hbw : bi (nI (bsum w (D.2.1 1))) k = w k := bi_bsum (by omega) hw hk
      have hlb' : (sMk d m).2.2.2.2.2 = nI (bsum w (D.2.1 1)) := hlb
      simp (disch := omega) only [z_lit, z_mm, z_eqm, z_eqm', z_ltm, z_ltm', z_lem, z_lem', nI_leI, nI_ltI, nI_eq, nI_toInt, nI_clamp, nI_add, pk_mul, pk_sub, pk_div, z_rem, z_shr1, z_and1, decide_eq_true_eq, if_pos, if_neg, Option.bind_some, ite_true, ite_false, eq_self, not_false_eq_true, not_true_eq_false, h1, hg, hlb', bi_class, hbw, C_mark]
      rfl)
    (fun N y ⟨m, f, hy, _⟩ => by
      subst hy
      show fn_D_step_40 _ (N + 1) _ _ = _
      rw [fn_D_step_40]
      simp (disch := omega) only [z_lit, z_mm, z_eqm, z_eqm', z_ltm, z_ltm', z_lem, z_lem', nI_leI, nI_ltI, nI_eq, nI_toInt, nI_clamp, nI_add, pk_mul, pk_sub, pk_div, z_rem, z_shr1, z_and1, decide_eq_true_eq, if_pos, if_neg, Option.bind_some, ite_true, ite_false, eq_self, not_false_eq_true, not_true_eq_false, h1]) (N := am_NF) (k := 0) (s := sMk d m) (by omega) (by rw [z_NF]; omega) ⟨m, f, rfl, hE, hA⟩
  have L3 := fun (κ : SD → Option (Int32 × SD)) (m : Nat → Int32) (f : Nat → Nat) (hE : Ev D s x w f (D.2.1 0 + D.2.1 1)) (hA : Ag D s m f (D.2.1 0 + D.2.1 1)) => z_loop (fun N k (y : SD) => fn_D_step_75 κ N (nI k) y) κ (D.2.1 3) (fun k y => ∃ m f, y = sMk d m ∧ Ev D s x w f (D.2.1 0 + D.2.1 1 + k) ∧ Ag D s m f (D.2.1 0 + D.2.1 1 + k))
    (fun N k y hk ⟨m, f, hy, hE, hA⟩ => by
      subst hy
      have hn : D.2.1 0 + D.2.1 1 + k < dn D := by unfold dn; omega
      have hsk := hs k hk
      have hlt3 := hl 3 (s k) (by omega) hsk.1
      have hlt6 := hl 6 (s k) (by omega) hsk.1
      have hlt7 := hl 7 (s k) (by omega) hsk.1
      have hE' := Ev_step hV hs hn hE
      have hA' := Ag_step (b := rv D s x w f (D.2.1 0 + D.2.1 1 + k)) hV hs hn hA
      have hrv : rv D s x w f (D.2.1 0 + D.2.1 1 + k) = tr f (D.2.2 6 (s k)) * tr f (D.2.2 7 (s k)) := by
        unfold rv; rw [if_neg (by omega), if_neg (by omega), show D.2.1 0 + D.2.1 1 + k - (D.2.1 0 + D.2.1 1) = k by omega]
      refine ⟨_, ⟨_, _, rfl, hE', hA'⟩, ?_⟩
      rw [odv_g, hrv]
      show fn_D_step_75 _ (N + 1) _ _ = _
      rw [fn_D_step_75]
      have e3 := g3 m (s k) hsk.1
      have e6 := g6 m (s k) hsk.1
      have e7 := g7 m (s k) hsk.1
      have hf1 : ∀ v, mkd D s k v → f v ≤ 1 := fun v hm => by
        rcases mkd_odv hm with rfl | ⟨i, a, b⟩
        · rw [hE.1]; omega
        · rw [← b, hE.2 i a]; exact rv_le hw
      have t6 : fn_D_truth (nI (D.2.2 6 (s k))) (sMk d m) = some (nI (tr f (D.2.2 6 (s k)))) := C_truth hlt6 (Ag_mkd hA hsk.2.1.2.1) (hf1 _ hsk.2.1.2.1)
      have t7 : fn_D_truth (nI (D.2.2 7 (s k))) (sMk d m) = some (nI (tr f (D.2.2 7 (s k)))) := C_truth hlt7 (Ag_mkd hA hsk.2.1.2.2) (hf1 _ hsk.2.1.2.2)
      have hqk : (sMk d m).2.2.1 k = nI (s k) := hq k hk
      have l6 := tr_le (f := f) (u := D.2.2 6 (s k))
      have l7 := tr_le (f := f) (u := D.2.2 7 (s k))
      simp (disch := omega) only [z_lit, z_mm, z_eqm, z_eqm', z_ltm, z_ltm', z_lem, z_lem', nI_leI, nI_ltI, nI_eq, nI_toInt, nI_clamp, nI_add, pk_mul, pk_sub, pk_div, z_rem, z_shr1, z_and1, decide_eq_true_eq, if_pos, if_neg, Option.bind_some, ite_true, ite_false, eq_self, not_false_eq_true, not_true_eq_false, h3, C_inSeq, hqk, e3, e6, e7, t6, t7, z_andb, C_mark]
      rfl)
    (fun N y ⟨m, f, hy, _⟩ => by
      subst hy
      show fn_D_step_75 _ (N + 1) _ _ = _
      rw [fn_D_step_75]
      simp (disch := omega) only [z_lit, z_mm, z_eqm, z_eqm', z_ltm, z_ltm', z_lem, z_lem', nI_leI, nI_ltI, nI_eq, nI_toInt, nI_clamp, nI_add, pk_mul, pk_sub, pk_div, z_rem, z_shr1, z_and1, decide_eq_true_eq, if_pos, if_neg, Option.bind_some, ite_true, ite_false, eq_self, not_false_eq_true, not_true_eq_false, h3]) (N := am_NF) (k := 0) (s := sMk d m) (by omega) (by rw [z_NF]; omega) ⟨m, f, rfl, hE, hA⟩
  obtain ⟨y1, ⟨m1', f1, hy1, hE1, hA1⟩, e1⟩ := L1 (fun d_17 =>
    fn_D_step_40 (fun d_18 =>
      fn_D_step_75 (fun d_19 =>
        (fn_D_truths (nI 4) d_19).bind fun q19 =>
        (fn_D_truths (nI 2) (d_19.1, d_19.2.1, d_19.2.2.1, d_19.2.2.2.1, d_19.2.2.2.2.1, q19)).bind fun q20 =>
        some (q20, (d_19.1, d_19.2.1, d_19.2.2.1, d_19.2.2.2.1, d_19.2.2.2.2.1, q19))) am_NF (nI 0) d_18) am_NF (nI 0) d_17) (upd d.2.2.2.1 (0 / 2) (nI 0)) (fun _ => 0) ⟨rfl, fun i hi => absurd hi (by omega)⟩ ⟨pk_us, fun i hi => absurd hi (by omega)⟩
  obtain ⟨y2, ⟨m2, f2, hy2, hE2, hA2⟩, e2⟩ := L2 (fun d_18 =>
      fn_D_step_75 (fun d_19 =>
        (fn_D_truths (nI 4) d_19).bind fun q19 =>
        (fn_D_truths (nI 2) (d_19.1, d_19.2.1, d_19.2.2.1, d_19.2.2.2.1, d_19.2.2.2.2.1, q19)).bind fun q20 =>
        some (q20, (d_19.1, d_19.2.1, d_19.2.2.1, d_19.2.2.2.1, d_19.2.2.2.2.1, q19))) am_NF (nI 0) d_18) m1' f1 hE1 hA1
  obtain ⟨y3, ⟨m3, f3, hy3, hE3, hA3⟩, e3⟩ := L3 (fun d_19 =>
        (fn_D_truths (nI 4) d_19).bind fun q19 =>
        (fn_D_truths (nI 2) (d_19.1, d_19.2.1, d_19.2.2.1, d_19.2.2.2.1, d_19.2.2.2.2.1, q19)).bind fun q20 =>
        some (q20, (d_19.1, d_19.2.1, d_19.2.2.1, d_19.2.2.2.1, d_19.2.2.2.2.1, q19))) m2 f2 hE2 hA2
  have hTV := Ev_TV hs hE3
  have hdef : ∀ v, isDef D v → m3 v = nI (f3 v) := fun v hv => Ag_def hs hA3 hv
  have hle : ∀ v, isDef D v → f3 v ≤ 1 := fun v hv => TV_le hTV hw hv
  refine ⟨f3, m3, hTV, ?_⟩
  have t4 := C_truths (i := 4) (CD_sMk (f := m3) h) hV (Or.inr rfl) hdef hle
  have t2 : ∀ lb, fn_D_truths (nI 2) (d.1, d.2.1, d.2.2.1, m3, d.2.2.2.2.1, lb) = _ := fun lb => C_truths (d := (d.1, d.2.1, d.2.2.1, m3, d.2.2.2.2.1, lb)) (i := 2) h hV (Or.inl rfl) hdef hle
  have all : fn_D_step x d = some (nI (bsum (fun k => tr f3 (D.2.2 2 k)) (D.2.1 2)), (d.1, d.2.1, d.2.2.1, m3, d.2.2.2.2.1, nI (bsum (fun k => tr f3 (D.2.2 4 k)) (D.2.1 1)))) := by
    unfold fn_D_step
    simp (disch := omega) only [z_lit, z_mm, z_eqm, z_eqm', z_ltm, z_ltm', z_lem, z_lem', nI_leI, nI_ltI, nI_eq, nI_toInt, nI_clamp, nI_add, pk_mul, pk_sub, pk_div, z_rem, z_shr1, z_and1, decide_eq_true_eq, if_pos, if_neg, Option.bind_some, ite_true, ite_false, eq_self, not_false_eq_true, not_true_eq_false, C_mark]
    refine e1.trans ?_
    rw [hy1]
    refine e2.trans ?_
    rw [hy2]
    refine e3.trans ?_
    rw [hy3, t4]
    simp only [Option.bind_some]
    have t2' := t2 (nI (bsum (fun k => tr f3 (D.2.2 4 k)) (D.2.1 (dk 4))))
    have hs' : ((sMk d m3).1, (sMk d m3).2.1, (sMk d m3).2.2.1, (sMk d m3).2.2.2.1, (sMk d m3).2.2.2.2.1, nI (bsum (fun k => tr f3 (D.2.2 4 k)) (D.2.1 (dk 4)))) = (d.1, d.2.1, d.2.2.1, m3, d.2.2.2.2.1, nI (bsum (fun k => tr f3 (D.2.2 4 k)) (D.2.1 (dk 4)))) := rfl
    rw [hs', t2']
    rfl
  unfold fn_T_cycle
  rw [all]
  rfl
