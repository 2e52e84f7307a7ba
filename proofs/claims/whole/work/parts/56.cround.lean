/-! THE CLASS'S findRound: gates as bits -/
def lb (x : Int64) (j : Nat) : Bool := x.toBitVec.getLsbD j
theorem q_cu : ∀ k, k < 64 → ((nI k).toInt64.toUInt64 &&& Int64.toUInt64 63).toBitVec % 64 = BitVec.ofNat 64 k ∧ ((nI k).toInt64 &&& 63).toBitVec.smod 64 = BitVec.ofNat 64 k := by decide +kernel
theorem q_cmp (y : Int64) : lg_cmp y 0 = nI 0 ↔ y = 0 := by
  unfold lg_cmp
  by_cases h1 : y > 0
  · rw [if_pos h1]
    exact ⟨fun z => absurd z (by decide), fun z => by subst z; exact absurd h1 (by decide)⟩
  · rw [if_neg h1]
    by_cases h2 : y = 0
    · rw [if_pos h2]; exact ⟨fun _ => h2, fun _ => rfl⟩
    · rw [if_neg h2]; exact ⟨fun z => absurd z (by decide), fun z => absurd z h2⟩
theorem q_test {x : Int64} {j : Nat} (hj : j < 64) : lg_cmp (((x.toUInt64 >>> ((nI j).toInt64.toUInt64 &&& Int64.toUInt64 63)).toInt64) &&& (1 : Int64)) (0 : Int64) = nI 0 ↔ lb x j = false := by
  rw [q_cmp]
  have e : (((x.toUInt64 >>> ((nI j).toInt64.toUInt64 &&& Int64.toUInt64 63)).toInt64) &&& (1 : Int64)).toBitVec = (x.toBitVec >>> j) &&& 1#64 := by
    show (x.toBitVec >>> (((nI j).toInt64.toUInt64 &&& Int64.toUInt64 63).toBitVec % 64)) &&& 1#64 = _
    rw [(q_cu j hj).1, BitVec.ushiftRight_eq', BitVec.toNat_ofNat, Nat.mod_eq_of_lt (by omega)]
  rw [← Int64.toBitVec_inj, e]
  show (x.toBitVec >>> j) &&& 1#64 = 0#64 ↔ _
  unfold lb
  constructor
  · intro h
    have h1 := congrArg (fun z => z.getLsbD 0) h
    simpa using h1
  · intro h
    refine BitVec.eq_of_getLsbD_eq fun i hi => ?_
    by_cases hi0 : i = 0
    · subst hi0
      simp [h]
    · have : (1#64 : BitVec 64).getLsbD i = false := by
        simp [hi0]
      simp [this]
theorem q_one {j k : Nat} (hj : j < 64) (hk : k < 64) : lb ((1 : Int64) <<< ((nI k).toInt64 &&& 63)) j = decide (j = k) := by
  unfold lb
  show (1#64 <<< (((nI k).toInt64 &&& 63).toBitVec.smod 64)).getLsbD j = _
  rw [(q_cu k hk).2, BitVec.shiftLeft_eq', BitVec.toNat_ofNat, Nat.mod_eq_of_lt (by omega), BitVec.getLsbD_shiftLeft]
  by_cases h1 : j < k
  · simp [h1, hj]
    omega
  · by_cases h2 : j = k
    · subst h2
      simp [hj]
    · have : (1#64 : BitVec 64).getLsbD (j - k) = false := by
        have : ¬ j - k = 0 := by omega
        simp [this]
      simp [this, h2]
theorem q_or {x y : Int64} {j : Nat} : lb (x ||| y) j = (lb x j || lb y j) := by
  unfold lb
  rw [Int64.toBitVec_or, BitVec.getLsbD_or]
theorem q_zero {j : Nat} : lb 0 j = false := by
  show (0#64).getLsbD j = false
  simp
def sGR (rd : SR) (gb rs : Nat → Int64) : SR := (rd.1, rd.2.1, rd.2.2.1, rd.2.2.2.1, gb, rs, rd.2.2.2.2.2.2.1, rd.2.2.2.2.2.2.2.1, rd.2.2.2.2.2.2.2.2)
theorem R_gateBit {rd : SR} {v : Nat} (hv : v < 200) : fn_R_gateBit (nI v) rd = some (rd.2.2.2.2.1 (v / 2)) := by
  unfold fn_R_gateBit
  simp (disch := omega) only [z_lit, z_mm, z_eqm, z_eqm', z_ltm, z_ltm', z_lem, z_lem', nI_leI, nI_ltI, nI_eq, nI_toInt, nI_clamp, nI_add, pk_mul, pk_sub, pk_div, z_rem, z_shr1, z_and1, decide_eq_true_eq, if_pos, if_neg, Option.bind_some, ite_true, ite_false, eq_self, not_false_eq_true, not_true_eq_false]
theorem C_note {rd : SR} {d : SD} {D : De} (h : CD d D) (hb : Vb D) (hl : Vl D) (hdist : ∀ a b, a < D.2.1 3 → b < D.2.1 3 → D.2.2 3 a / 2 = D.2.2 3 b / 2 → a = b) :
    ∃ gb rs, fn_R_noteWhatGatesRestOn (nI (D.2.1 3)) rd d = some (sGR rd gb rs) ∧ ∀ a b, a < D.2.1 3 → b < 60 → (lb (rs a) b = true ↔ b < D.2.1 3 ∧ W0 D a b) := by
  have h60 : D.2.1 3 ≤ 60 := hb.2.2.2.2
  have g3 : ∀ k, k < D.2.1 3 → fn_D_get (nI 3) (nI k) d = some (nI (D.2.2 3 k)) := fun k hk => C_getD h hb (by omega) hk
  have g6 : ∀ k, k < D.2.1 3 → fn_D_get (nI 6) (nI k) d = some (nI (D.2.2 6 k)) := fun k hk => C_getD h hb (by omega) hk
  have g7 : ∀ k, k < D.2.1 3 → fn_D_get (nI 7) (nI k) d = some (nI (D.2.2 7 k)) := fun k hk => C_getD h hb (by omega) hk
  have L1 := fun (κ : SR → Option SR) => z_loop (fun N k (x : SR) => fn_R_noteWhatGatesRestOn_2 (nI (D.2.1 3)) d κ N (nI k) x) κ 100 (fun k x => ∃ gb, x = sGR rd gb rd.2.2.2.2.2.1 ∧ ∀ v, v < k → gb v = 0)
    (fun N k x hk ⟨gb, hx, hg⟩ => by
      subst hx
      refine ⟨sGR rd (vp_updL gb k 0) rd.2.2.2.2.2.1, ⟨_, rfl, fun v hv => ?_⟩, ?_⟩
      · by_cases e : v = k
        · subst e; exact pk_uLs
        · rw [pk_uLn e]; exact hg v (by omega)
      · show fn_R_noteWhatGatesRestOn_2 _ _ _ (N + 1) _ _ = _
        rw [fn_R_noteWhatGatesRestOn_2]
        simp (disch := omega) only [z_lit, z_mm, z_eqm, z_eqm', z_ltm, z_ltm', z_lem, z_lem', nI_leI, nI_ltI, nI_eq, nI_toInt, nI_clamp, nI_add, pk_mul, pk_sub, pk_div, z_rem, z_shr1, z_and1, decide_eq_true_eq, if_pos, if_neg, Option.bind_some, ite_true, ite_false, eq_self, not_false_eq_true, not_true_eq_false]
        rfl)
    (fun N x _ => by
      show fn_R_noteWhatGatesRestOn_2 _ _ _ (N + 1) _ _ = _
      rw [fn_R_noteWhatGatesRestOn_2]
      simp (disch := omega) only [z_lit, z_mm, z_eqm, z_eqm', z_ltm, z_ltm', z_lem, z_lem', nI_leI, nI_ltI, nI_eq, nI_toInt, nI_clamp, nI_add, pk_mul, pk_sub, pk_div, z_rem, z_shr1, z_and1, decide_eq_true_eq, if_pos, if_neg, Option.bind_some, ite_true, ite_false, eq_self, not_false_eq_true, not_true_eq_false]) (N := am_NF) (k := 0) (s := rd) (by omega) (by rw [z_NF]; omega) ⟨rd.2.2.2.2.1, rfl, fun v hv => absurd hv (by omega)⟩
  have L2 := fun (κ : SR → Option SR) (gb : Nat → Int64) (hg : ∀ v, v < 100 → gb v = 0) => z_loop (fun N k (x : SR) => fn_R_noteWhatGatesRestOn_26 (nI (D.2.1 3)) d κ N (nI k) x) κ (D.2.1 3) (fun k x => ∃ gb, x = sGR rd gb rd.2.2.2.2.2.1 ∧ ∀ v b, v < 100 → b < 60 → (lb (gb v) b = true ↔ b < k ∧ D.2.2 3 b / 2 = v))
    (fun N k x hk ⟨gb, hx, hg⟩ => by
      subst hx
      have hlt := hl 3 k (by omega) hk
      refine ⟨sGR rd (vp_updL gb (D.2.2 3 k / 2) ((1 : Int64) <<< ((nI k).toInt64 &&& 63))) rd.2.2.2.2.2.1, ⟨_, rfl, fun v b hv hb' => ?_⟩, ?_⟩
      · by_cases e : v = D.2.2 3 k / 2
        · subst e
          rw [pk_uLs, q_one (by omega) (by omega)]
          constructor
          · intro z
            have z := of_decide_eq_true z
            subst z
            exact ⟨by omega, rfl⟩
          · rintro ⟨z1, z2⟩
            exact decide_eq_true (hdist b k (by omega) hk z2)
        · rw [pk_uLn e, hg v b hv hb']
          constructor
          · rintro ⟨z1, z2⟩; exact ⟨by omega, z2⟩
          · rintro ⟨z1, z2⟩
            refine ⟨?_, z2⟩
            by_cases eb : b = k
            · subst eb; exact absurd z2.symm e
            · omega
      · show fn_R_noteWhatGatesRestOn_26 _ _ _ (N + 1) _ _ = _
        rw [fn_R_noteWhatGatesRestOn_26]
        have e3 := g3 k hk
        simp (disch := omega) only [z_lit, z_mm, z_eqm, z_eqm', z_ltm, z_ltm', z_lem, z_lem', nI_leI, nI_ltI, nI_eq, nI_toInt, nI_clamp, nI_add, pk_mul, pk_sub, pk_div, z_rem, z_shr1, z_and1, decide_eq_true_eq, if_pos, if_neg, Option.bind_some, ite_true, ite_false, eq_self, not_false_eq_true, not_true_eq_false, e3]
        rfl)
    (fun N x _ => by
      show fn_R_noteWhatGatesRestOn_26 _ _ _ (N + 1) _ _ = _
      rw [fn_R_noteWhatGatesRestOn_26]
      simp (disch := omega) only [z_lit, z_mm, z_eqm, z_eqm', z_ltm, z_ltm', z_lem, z_lem', nI_leI, nI_ltI, nI_eq, nI_toInt, nI_clamp, nI_add, pk_mul, pk_sub, pk_div, z_rem, z_shr1, z_and1, decide_eq_true_eq, if_pos, if_neg, Option.bind_some, ite_true, ite_false, eq_self, not_false_eq_true, not_true_eq_false]) (N := am_NF) (k := 0) (s := sGR rd gb rd.2.2.2.2.2.1) (by omega) (by rw [z_NF]; omega) ⟨gb, rfl, fun v b hv _ => by rw [hg v hv, q_zero]; exact ⟨fun z => absurd z (by decide), fun z => absurd z.1 (by omega)⟩⟩
  have L3 := fun (κ : SR → Option SR) (gb : Nat → Int64) (hg : ∀ v b, v < 100 → b < 60 → (lb (gb v) b = true ↔ b < D.2.1 3 ∧ D.2.2 3 b / 2 = v)) => z_loop (fun N k (x : SR) => fn_R_noteWhatGatesRestOn_74 (nI (D.2.1 3)) d κ N (nI k) x) κ (D.2.1 3) (fun k x => ∃ rs, x = sGR rd gb rs ∧ ∀ a b, a < k → b < 60 → (lb (rs a) b = true ↔ b < D.2.1 3 ∧ W0 D a b))
    (fun N k x hk ⟨rs, hx, hr⟩ => by
      subst hx
      have hlt6 := hl 6 k (by omega) hk
      have hlt7 := hl 7 k (by omega) hk
      refine ⟨sGR rd gb (vp_updL rs k (gb (D.2.2 6 k / 2) ||| gb (D.2.2 7 k / 2))), ⟨_, rfl, fun a b ha hb' => ?_⟩, ?_⟩
      · by_cases e : a = k
        · subst e
          rw [pk_uLs, q_or, Bool.or_eq_true, hg _ b (by omega) hb', hg _ b (by omega) hb']
          exact ⟨fun z => z.elim (fun y => ⟨y.1, Or.inl y.2⟩) (fun y => ⟨y.1, Or.inr y.2⟩), fun z => z.2.imp (fun y => ⟨z.1, y⟩) (fun y => ⟨z.1, y⟩)⟩
        · rw [pk_uLn e]; exact hr a b (by omega) hb'
      · show fn_R_noteWhatGatesRestOn_74 _ _ _ (N + 1) _ _ = _
        rw [fn_R_noteWhatGatesRestOn_74]
        have e6 := g6 k hk
        have e7 := g7 k hk
        simp (disch := omega) only [z_lit, z_mm, z_eqm, z_eqm', z_ltm, z_ltm', z_lem, z_lem', nI_leI, nI_ltI, nI_eq, nI_toInt, nI_clamp, nI_add, pk_mul, pk_sub, pk_div, z_rem, z_shr1, z_and1, decide_eq_true_eq, if_pos, if_neg, Option.bind_some, ite_true, ite_false, eq_self, not_false_eq_true, not_true_eq_false, e6, e7, R_gateBit]
        rfl)
    (fun N x _ => by
      show fn_R_noteWhatGatesRestOn_74 _ _ _ (N + 1) _ _ = _
      rw [fn_R_noteWhatGatesRestOn_74]
      simp (disch := omega) only [z_lit, z_mm, z_eqm, z_eqm', z_ltm, z_ltm', z_lem, z_lem', nI_leI, nI_ltI, nI_eq, nI_toInt, nI_clamp, nI_add, pk_mul, pk_sub, pk_div, z_rem, z_shr1, z_and1, decide_eq_true_eq, if_pos, if_neg, Option.bind_some, ite_true, ite_false, eq_self, not_false_eq_true, not_true_eq_false]) (N := am_NF) (k := 0) (s := sGR rd gb rd.2.2.2.2.2.1) (by omega) (by rw [z_NF]; omega) ⟨rd.2.2.2.2.2.1, rfl, fun a b ha => absurd ha (by omega)⟩
  obtain ⟨x1, ⟨gb1, hx1, hg1⟩, e1⟩ := L1 (fun rd_7 => fn_R_noteWhatGatesRestOn_26 (nI (D.2.1 3)) d (fun rd_8 => fn_R_noteWhatGatesRestOn_74 (nI (D.2.1 3)) d (fun rd_9 => some rd_9) am_NF (nI 0) rd_8) am_NF (nI 0) rd_7)
  obtain ⟨x2, ⟨gb2, hx2, hg2⟩, e2⟩ := L2 (fun rd_8 => fn_R_noteWhatGatesRestOn_74 (nI (D.2.1 3)) d (fun rd_9 => some rd_9) am_NF (nI 0) rd_8) gb1 hg1
  obtain ⟨x3, ⟨rs, hx3, hr⟩, e3⟩ := L3 (fun rd_9 => some rd_9) gb2 hg2
  refine ⟨gb2, rs, ?_, hr⟩
  unfold fn_R_noteWhatGatesRestOn
  simp only [z_lit]
  refine e1.trans ?_
  rw [hx1]
  refine e2.trans ?_
  rw [hx2]
  refine e3.trans ?_
  rw [hx3]
theorem C_war {rd : SR} {d : SD} {D : De} {gb rs : Nat → Int64} (hb : Vb D) (hr : ∀ a b, a < D.2.1 3 → b < 60 → (lb (rs a) b = true ↔ b < D.2.1 3 ∧ W0 D a b)) (κ : SR → Option SR) :
    ∃ rs', fn_R_findRound_22 (nI (D.2.1 3)) d κ am_NF (nI 0) (sGR rd gb rs) = κ (sGR rd gb rs') ∧ ∀ a b, a < D.2.1 3 → b < 60 → (lb (rs' a) b = true ↔ b < D.2.1 3 ∧ Wm D (D.2.1 3) a b) := by
  have h60 : D.2.1 3 ≤ 60 := hb.2.2.2.2
  have inner : ∀ (m : Nat) (rs : Nat → Int64) (κ2 : SR → Option SR), m < D.2.1 3 → (∀ a b, a < D.2.1 3 → b < 60 → (lb (rs a) b = true ↔ b < D.2.1 3 ∧ Wm D m a b)) → ∃ rs', fn_R_findRound_30 (nI (D.2.1 3)) (nI m) d κ2 am_NF (nI 0) (sGR rd gb rs) = κ2 (sGR rd gb rs') ∧ ∀ a b, a < D.2.1 3 → b < 60 → (lb (rs' a) b = true ↔ b < D.2.1 3 ∧ Wm D (m + 1) a b) := by
    intro m rs κ2 hm hr
    obtain ⟨x, ⟨rs', hx, hnew, hold⟩, e⟩ := z_loop (fun N k (x : SR) => fn_R_findRound_30 (nI (D.2.1 3)) (nI m) d κ2 N (nI k) x) κ2 (D.2.1 3) (fun k x => ∃ rs, x = sGR rd gb rs ∧ (∀ a b, a < k → b < 60 → (lb (rs a) b = true ↔ b < D.2.1 3 ∧ Wm D (m + 1) a b)) ∧ ∀ a b, k ≤ a → a < D.2.1 3 → b < 60 → (lb (rs a) b = true ↔ b < D.2.1 3 ∧ Wm D m a b))
      (fun N k x hk ⟨rs, hx, hnew, hold⟩ => by
        subst hx
        have hrm : ∀ b, b < 60 → (lb (rs m) b = true ↔ b < D.2.1 3 ∧ Wm D m m b) := fun b hb' => by
          by_cases hmk : m < k
          · rw [hnew m b hmk hb', Wm_row]
          · exact hold m b (by omega) hm hb'
        have hkm := hold k m (Nat.le_refl k) hk (by omega)
        have b1 : (sGR rd gb rs).2.2.2.2.2.1 k = rs k := rfl
        by_cases hbit : lb (rs k) m = false
        · have ht := (q_test (x := rs k) (j := m) (by omega)).mpr hbit
          have hnot : ¬ Wm D m k m := fun z => by
            have := hkm.mpr ⟨hm, z⟩
            rw [hbit] at this
            exact absurd this (by decide)
          refine ⟨sGR rd gb rs, ⟨rs, rfl, fun a b ha hb' => ?_, fun a b ha hb' hb2 => hold a b (by omega) hb' hb2⟩, ?_⟩
          · by_cases e : a = k
            · subst e
              rw [hold a b (Nat.le_refl a) hk hb']
              exact ⟨fun z => ⟨z.1, Or.inl z.2⟩, fun z => ⟨z.1, z.2.elim id fun y => absurd y.1 hnot⟩⟩
            · exact hnew a b (by omega) hb'
          · show fn_R_findRound_30 _ _ _ _ (N + 1) _ _ = _
            rw [fn_R_findRound_30]
            simp (disch := omega) only [z_lit, z_mm, z_eqm, z_eqm', z_ltm, z_ltm', z_lem, z_lem', nI_leI, nI_ltI, nI_eq, nI_toInt, nI_clamp, nI_add, pk_mul, pk_sub, pk_div, z_rem, z_shr1, z_and1, decide_eq_true_eq, if_pos, if_neg, Option.bind_some, ite_true, ite_false, eq_self, not_false_eq_true, not_true_eq_false, b1, ht]
        · have ht : ¬ lg_cmp (((rs k).toUInt64 >>> ((nI m).toInt64.toUInt64 &&& Int64.toUInt64 63)).toInt64 &&& (1 : Int64)) (0 : Int64) = nI 0 := fun z => hbit ((q_test (by omega)).mp z)
          have hyes : Wm D m k m := by
            have : lb (rs k) m = true := by
              cases hq : lb (rs k) m with
              | true => rfl
              | false => exact absurd hq hbit
            exact (hkm.mp this).2
          have b2 : (sGR rd gb rs).2.2.2.2.2.1 m = rs m := rfl
          refine ⟨sGR rd gb (vp_updL rs k (rs k ||| rs m)), ⟨_, rfl, fun a b ha hb' => ?_, fun a b ha hb' hb2 => ?_⟩, ?_⟩
          · by_cases e : a = k
            · subst e
              rw [pk_uLs, q_or, Bool.or_eq_true, hold a b (Nat.le_refl a) hk hb', hrm b hb']
              exact ⟨fun z => z.elim (fun y => ⟨y.1, Or.inl y.2⟩) (fun y => ⟨y.1, Or.inr ⟨hyes, y.2⟩⟩), fun z => z.2.elim (fun y => Or.inl ⟨z.1, y⟩) (fun y => Or.inr ⟨z.1, y.2⟩)⟩
            · rw [pk_uLn e]; exact hnew a b (by omega) hb'
          · rw [pk_uLn (by omega)]
            exact hold a b (by omega) hb' hb2
          · show fn_R_findRound_30 _ _ _ _ (N + 1) _ _ = _
            rw [fn_R_findRound_30]
            simp (disch := omega) only [z_lit, z_mm, z_eqm, z_eqm', z_ltm, z_ltm', z_lem, z_lem', nI_leI, nI_ltI, nI_eq, nI_toInt, nI_clamp, nI_add, pk_mul, pk_sub, pk_div, z_rem, z_shr1, z_and1, decide_eq_true_eq, if_pos, if_neg, Option.bind_some, ite_true, ite_false, eq_self, not_false_eq_true, not_true_eq_false, b1, b2, ht]
            rfl)
      (fun N x _ => by
        show fn_R_findRound_30 _ _ _ _ (N + 1) _ _ = _
        rw [fn_R_findRound_30]
        simp (disch := omega) only [z_lit, z_mm, z_eqm, z_eqm', z_ltm, z_ltm', z_lem, z_lem', nI_leI, nI_ltI, nI_eq, nI_toInt, nI_clamp, nI_add, pk_mul, pk_sub, pk_div, z_rem, z_shr1, z_and1, decide_eq_true_eq, if_pos, if_neg, Option.bind_some, ite_true, ite_false, eq_self, not_false_eq_true, not_true_eq_false]) (N := am_NF) (k := 0) (s := sGR rd gb rs) (by omega) (by rw [z_NF]; omega) ⟨rs, rfl, fun a b ha => absurd ha (by omega), fun a b _ ha hb' => hr a b ha hb'⟩
    refine ⟨rs', e.trans (by rw [hx]), hnew⟩
  obtain ⟨x, ⟨rs', hx, h1⟩, e⟩ := z_loop (fun N k (x : SR) => fn_R_findRound_22 (nI (D.2.1 3)) d κ N (nI k) x) κ (D.2.1 3) (fun k x => ∃ rs, x = sGR rd gb rs ∧ ∀ a b, a < D.2.1 3 → b < 60 → (lb (rs a) b = true ↔ b < D.2.1 3 ∧ Wm D k a b))
    (fun N k x hk ⟨rs, hx, h1⟩ => by
      subst hx
      obtain ⟨rs', e1, h2⟩ := inner k rs (fun rd_3 => fn_R_findRound_22 (nI (D.2.1 3)) d κ N (nI (k + 1)) rd_3) hk h1
      refine ⟨sGR rd gb rs', ⟨rs', rfl, h2⟩, ?_⟩
      show fn_R_findRound_22 _ _ _ (N + 1) _ _ = _
      rw [fn_R_findRound_22]
      simp (disch := omega) only [z_lit, z_mm, z_eqm, z_eqm', z_ltm, z_ltm', z_lem, z_lem', nI_leI, nI_ltI, nI_eq, nI_toInt, nI_clamp, nI_add, pk_mul, pk_sub, pk_div, z_rem, z_shr1, z_and1, decide_eq_true_eq, if_pos, if_neg, Option.bind_some, ite_true, ite_false, eq_self, not_false_eq_true, not_true_eq_false]
      exact e1)
    (fun N x _ => by
      show fn_R_findRound_22 _ _ _ (N + 1) _ _ = _
      rw [fn_R_findRound_22]
      simp (disch := omega) only [z_lit, z_mm, z_eqm, z_eqm', z_ltm, z_ltm', z_lem, z_lem', nI_leI, nI_ltI, nI_eq, nI_toInt, nI_clamp, nI_add, pk_mul, pk_sub, pk_div, z_rem, z_shr1, z_and1, decide_eq_true_eq, if_pos, if_neg, Option.bind_some, ite_true, ite_false, eq_self, not_false_eq_true, not_true_eq_false]) (N := am_NF) (k := 0) (s := sGR rd gb rs) (by omega) (by rw [z_NF]; omega) ⟨rs, rfl, hr⟩
  exact ⟨rs', e.trans (by rw [hx]), h1⟩
/-- what the last loop makes of a fault: the first gate that rests on itself -/
def FR (D : De) (gp : Nat → Nat) (k : Nat) (ft0 ft : Int32) : Prop := (ft = ft0 ∧ ∀ j, j < k → ¬ Wm D (D.2.1 3) j j) ∨ ∃ j, j < k ∧ Wm D (D.2.1 3) j j ∧ (∀ i, i < j → ¬ Wm D (D.2.1 3) i i) ∧ ((ft0 = m1 ∧ ft = nI (gp j)) ∨ (¬ ft0 = m1 ∧ ft = ft0))
theorem FR_no {D : De} {gp : Nat → Nat} {k : Nat} {ft0 ft : Int32} (h : FR D gp k ft0 ft) (hk : ¬ Wm D (D.2.1 3) k k) : FR D gp (k + 1) ft0 ft := by
  rcases h with ⟨a, b⟩ | ⟨j, a, b⟩
  · refine Or.inl ⟨a, fun j hj => ?_⟩
    by_cases e : j = k
    · rw [e]; exact hk
    · exact b j (by omega)
  · exact Or.inr ⟨j, by omega, b⟩
theorem FR_yes {D : De} {gp : Nat → Nat} {k : Nat} {ft0 ft ft' : Int32} (h : FR D gp k ft0 ft) (hk : Wm D (D.2.1 3) k k) (h1 : ft = m1 → ft' = nI (gp k)) (h2 : ¬ ft = m1 → ft' = ft) (hg : ∀ j, j < k → gp j ≤ 1501) : FR D gp (k + 1) ft0 ft' := by
  rcases h with ⟨a, b⟩ | ⟨j, a, b, c, d⟩
  · refine Or.inr ⟨k, by omega, hk, b, ?_⟩
    by_cases e : ft0 = m1
    · exact Or.inl ⟨e, h1 (a.trans e)⟩
    · exact Or.inr ⟨e, (h2 (by rw [a]; exact e)).trans a⟩
  · refine Or.inr ⟨j, by omega, b, c, ?_⟩
    rcases d with ⟨d1, d2⟩ | ⟨d1, d2⟩
    · exact Or.inl ⟨d1, (h2 (by rw [d2]; exact z_m1 (by have := hg j a; omega))).trans d2⟩
    · exact Or.inr ⟨d1, (h2 (by rw [d2]; exact d1)).trans d2⟩
theorem C_round {rd : SR} {d : SD} {D : De} {gp : Nat → Nat} (h : CD d D) (hb : Vb D) (hl : Vl D) (hdist : ∀ a b, a < D.2.1 3 → b < D.2.1 3 → D.2.2 3 a / 2 = D.2.2 3 b / 2 → a = b) (hgp : ∀ k, k < D.2.1 3 → rd.2.2.2.1 k = nI (gp k) ∧ gp k ≤ 1501) (hft : rd.2.2.2.2.2.2.2.2 = m1 ∨ ∃ f, f ≤ 1501 ∧ rd.2.2.2.2.2.2.2.2 = nI f) :
    ∃ rd', fn_R_findRound rd d = some rd' ∧ FR D gp (D.2.1 3) rd.2.2.2.2.2.2.2.2 rd'.2.2.2.2.2.2.2.2 := by
  have h60 : D.2.1 3 ≤ 60 := hb.2.2.2.2
  obtain ⟨gb, rs, e1, h1⟩ := C_note (rd := rd) h hb hl hdist
  obtain ⟨rs', e2, h2⟩ := C_war (rd := rd) (d := d) (gb := gb) hb h1 (fun rd_6 => fn_R_findRound_82 (nI (D.2.1 3)) d (fun rd_7 => some rd_7) am_NF (nI 0) rd_6)
  obtain ⟨x, ⟨ft, hx, hFR, hft'⟩, e3⟩ := z_loop (fun N k (x : SR) => fn_R_findRound_82 (nI (D.2.1 3)) d (fun rd_7 => some rd_7) N (nI k) x) (fun rd_7 => some rd_7) (D.2.1 3) (fun k x => ∃ ft, x = sPF (sGR rd gb rs') rd.2.2.2.2.2.2.2.1 ft ∧ FR D gp k rd.2.2.2.2.2.2.2.2 ft ∧ (ft = m1 ∨ ∃ f, f ≤ 1501 ∧ ft = nI f))
    (fun N k x hk ⟨ft, hx, hFR, hft'⟩ => by
      subst hx
      have hkk := h2 k k hk (by omega)
      have b1 : (sPF (sGR rd gb rs') rd.2.2.2.2.2.2.2.1 ft).2.2.2.2.2.1 k = rs' k := rfl
      have b3 : (sPF (sGR rd gb rs') rd.2.2.2.2.2.2.2.1 ft).2.2.2.1 k = nI (gp k) := (hgp k hk).1
      by_cases hbit : lb (rs' k) k = false
      · have ht := (q_test (x := rs' k) (j := k) (by omega)).mpr hbit
        have hnot : ¬ Wm D (D.2.1 3) k k := fun z => by
          have := hkk.mpr ⟨hk, z⟩
          rw [hbit] at this
          exact absurd this (by decide)
        refine ⟨sPF (sGR rd gb rs') rd.2.2.2.2.2.2.2.1 ft, ⟨ft, rfl, FR_no hFR hnot, hft'⟩, ?_⟩
        show fn_R_findRound_82 _ _ _ (N + 1) _ _ = _
        rw [fn_R_findRound_82]
        simp (disch := omega) only [z_lit, z_mm, z_eqm, z_eqm', z_ltm, z_ltm', z_lem, z_lem', nI_leI, nI_ltI, nI_eq, nI_toInt, nI_clamp, nI_add, pk_mul, pk_sub, pk_div, z_rem, z_shr1, z_and1, decide_eq_true_eq, if_pos, if_neg, Option.bind_some, ite_true, ite_false, eq_self, not_false_eq_true, not_true_eq_false, b1, ht]
      · have ht : ¬ lg_cmp (((rs' k).toUInt64 >>> ((nI k).toInt64.toUInt64 &&& Int64.toUInt64 63)).toInt64 &&& (1 : Int64)) (0 : Int64) = nI 0 := fun z => hbit ((q_test (by omega)).mp z)
        have hyes : Wm D (D.2.1 3) k k := by
          have : lb (rs' k) k = true := by
            cases hq : lb (rs' k) k with
            | true => rfl
            | false => exact absurd hq hbit
          exact (hkk.mp this).2
        rcases hft' with hm | ⟨f, hf, hm⟩
        · subst hm
          have ef : fn_R_fail (nI (gp k)) (sPF (sGR rd gb rs') rd.2.2.2.2.2.2.2.1 m1) = some (sPF (sGR rd gb rs') rd.2.2.2.2.2.2.2.1 (nI (gp k))) := R_fail_ok (rd := sPF (sGR rd gb rs') rd.2.2.2.2.2.2.2.1 m1) rfl
          refine ⟨sPF (sGR rd gb rs') rd.2.2.2.2.2.2.2.1 (nI (gp k)), ⟨_, rfl, FR_yes hFR hyes (fun _ => rfl) (fun z => absurd rfl z) (fun j hj => (hgp j (by omega)).2), Or.inr ⟨gp k, (hgp k hk).2, rfl⟩⟩, ?_⟩
          show fn_R_findRound_82 _ _ _ (N + 1) _ _ = _
          rw [fn_R_findRound_82]
          simp (disch := omega) only [z_lit, z_mm, z_eqm, z_eqm', z_ltm, z_ltm', z_lem, z_lem', nI_leI, nI_ltI, nI_eq, nI_toInt, nI_clamp, nI_add, pk_mul, pk_sub, pk_div, z_rem, z_shr1, z_and1, decide_eq_true_eq, if_pos, if_neg, Option.bind_some, ite_true, ite_false, eq_self, not_false_eq_true, not_true_eq_false, b1, b3, ht, ef]
        · subst hm
          have ef : fn_R_fail (nI (gp k)) (sPF (sGR rd gb rs') rd.2.2.2.2.2.2.2.1 (nI f)) = some (sPF (sGR rd gb rs') rd.2.2.2.2.2.2.2.1 (nI f)) := R_fail_bad (rd := sPF (sGR rd gb rs') rd.2.2.2.2.2.2.2.1 (nI f)) rfl (by omega)
          refine ⟨sPF (sGR rd gb rs') rd.2.2.2.2.2.2.2.1 (nI f), ⟨_, rfl, FR_yes hFR hyes (fun z => absurd z (z_m1 (by omega))) (fun _ => rfl) (fun j hj => (hgp j (by omega)).2), Or.inr ⟨f, hf, rfl⟩⟩, ?_⟩
          show fn_R_findRound_82 _ _ _ (N + 1) _ _ = _
          rw [fn_R_findRound_82]
          simp (disch := omega) only [z_lit, z_mm, z_eqm, z_eqm', z_ltm, z_ltm', z_lem, z_lem', nI_leI, nI_ltI, nI_eq, nI_toInt, nI_clamp, nI_add, pk_mul, pk_sub, pk_div, z_rem, z_shr1, z_and1, decide_eq_true_eq, if_pos, if_neg, Option.bind_some, ite_true, ite_false, eq_self, not_false_eq_true, not_true_eq_false, b1, b3, ht, ef])
    (fun N x _ => by
      show fn_R_findRound_82 _ _ _ (N + 1) _ _ = _
      rw [fn_R_findRound_82]
      simp (disch := omega) only [z_lit, z_mm, z_eqm, z_eqm', z_ltm, z_ltm', z_lem, z_lem', nI_leI, nI_ltI, nI_eq, nI_toInt, nI_clamp, nI_add, pk_mul, pk_sub, pk_div, z_rem, z_shr1, z_and1, decide_eq_true_eq, if_pos, if_neg, Option.bind_some, ite_true, ite_false, eq_self, not_false_eq_true, not_true_eq_false]) (N := am_NF) (k := 0) (s := sPF (sGR rd gb rs') rd.2.2.2.2.2.2.2.1 rd.2.2.2.2.2.2.2.2) (by omega) (by rw [z_NF]; omega) ⟨_, rfl, Or.inl ⟨rfl, fun j hj => absurd hj (by omega)⟩, hft⟩
  refine ⟨x, ?_, by rw [hx]; exact hFR⟩
  have hm3 : fn_D_many (3 : Int32) d = some (nI (D.2.1 3)) := C_many (i := 3) h (by omega)
  have hn : ¬ (60 : Int32) < nI (D.2.1 3) := fun z => by have := (nI_ltI (a := 60) (by omega) (by omega)).mp z; omega
  unfold fn_R_findRound
  rw [hm3, Option.bind_some, if_neg hn, e1, Option.bind_some]
  simp only [z_lit]
  exact e2.trans e3
