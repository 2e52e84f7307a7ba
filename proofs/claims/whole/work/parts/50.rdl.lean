/-! A LINE MORE: what is filled, its values, what is defined, used -/
def ext (D : De) (i0 k : Nat) (r : Nat → Nat) : De := (D.1, D.2.1, fun i j => if dk i = i0 ∧ j = k then r i else D.2.2 i j)
def Kx (K : Nat → Nat) (i0 k : Nat) : Nat → Nat := fun i => if i = i0 then k else K i
theorem ext_n {D : De} {i0 k i : Nat} {r : Nat → Nat} (h : dk i = i0) : (ext D i0 k r).2.2 i k = r i := if_pos ⟨h, rfl⟩
theorem ext_o {D : De} {i0 k i j : Nat} {r : Nat → Nat} (h : dk i ≠ i0 ∨ j ≠ k) : (ext D i0 k r).2.2 i j = D.2.2 i j := if_neg (fun z => h.elim (fun a => a z.1) (fun a => a z.2))
theorem Kx_s {K : Nat → Nat} {i0 k : Nat} : Kx K i0 k i0 = k := if_pos rfl
theorem Kx_n {K : Nat → Nat} {i0 k i : Nat} (h : i ≠ i0) : Kx K i0 k i = K i := if_neg h
/-- an index that is filled: an old one, or the new one -/
theorem Kx_c {K : Nat → Nat} {i0 k i j : Nat} (hk : K i0 = k) (h : j < Kx K i0 (k + 1) i) : j < K i ∨ (i = i0 ∧ j = k) := by
  by_cases e : i = i0
  · subst e
    rw [Kx_s] at h
    by_cases e2 : j = k
    · exact Or.inr ⟨rfl, e2⟩
    · exact Or.inl (by omega)
  · rw [Kx_n e] at h
    exact Or.inl h
def Fl (D : De) (K : Nat → Nat) (d : SD) (nd : Mnd) : Prop := d.2.2.2.2.1 = nI D.1 ∧ nd.1 = nI D.1 ∧ (∀ i, i < 4 → d.2.1 i = nI (D.2.1 i) ∧ nd.2.1 i = nI (D.2.1 i)) ∧ ∀ i k, i < 8 → k < K (dk i) → d.1 i k = nI (D.2.2 i k) ∧ mrow nd i k = nI (D.2.2 i k)
theorem Fl_line {D : De} {K : Nat → Nat} {d d' : SD} {nd nd' : Mnd} {i0 k : Nat} {r : Nat → Nat} (h : Fl D K d nd) (hk : K i0 = k) (h1 : d'.2.2.2.2.1 = d.2.2.2.2.1) (h2 : d'.2.1 = d.2.1) (h3 : nd'.1 = nd.1) (h4 : nd'.2.1 = nd.2.1)
    (hn : ∀ i, i < 8 → dk i = i0 → d'.1 i k = nI (r i) ∧ mrow nd' i k = nI (r i)) (ho : ∀ i j, i < 8 → (dk i ≠ i0 ∨ j ≠ k) → d'.1 i j = d.1 i j ∧ mrow nd' i j = mrow nd i j) : Fl (ext D i0 k r) (Kx K i0 (k + 1)) d' nd' := by
  obtain ⟨a, b, c, e⟩ := h
  refine ⟨h1.trans a, h3.trans b, fun i hi => by rw [h2, h4]; exact c i hi, fun i j hi hj => ?_⟩
  rcases Kx_c hk hj with hj | ⟨hi0, hjk⟩
  · have hne : dk i ≠ i0 ∨ j ≠ k := by
      by_cases z : dk i = i0
      · refine Or.inr fun z2 => ?_
        rw [z, hk] at hj
        omega
      · exact Or.inl z
    rw [ext_o hne, (ho i j hi hne).1, (ho i j hi hne).2]
    exact e i j hi hj
  · subst hjk
    rw [ext_n hi0]
    exact hn i hi hi0
def dK (i : Nat) : Prop := i = 0 ∨ i = 1 ∨ i = 3
theorem dK_dk {i : Nat} (h : dK i) : dk i = i := by rcases h with rfl | rfl | rfl <;> rfl
def Vf (D : De) (K : Nat → Nat) : Prop := (∀ i k, i < 8 → k < K (dk i) → D.2.2 i k < 200) ∧ (∀ k, k < K 1 → D.2.2 5 k ≤ 1) ∧ (∀ i k, dK i → k < K i → D.2.2 i k % 2 = 0 ∧ 2 ≤ D.2.2 i k) ∧ ∀ i k i' k', dK i → dK i' → k < K i → k' < K i' → D.2.2 i k = D.2.2 i' k' → i = i' ∧ k = k'
def dfd (D : De) (K : Nat → Nat) (v : Nat) : Prop := ∃ i k, dK i ∧ k < K i ∧ D.2.2 i k / 2 = v
theorem Vf_line {D : De} {K : Nat → Nat} {i0 k : Nat} {r : Nat → Nat} (h : Vf D K) (hk : K i0 = k) (h1 : ∀ i, i < 8 → dk i = i0 → r i < 200) (h2 : i0 = 1 → r 5 ≤ 1) (h3 : dK i0 → r i0 % 2 = 0 ∧ 2 ≤ r i0 ∧ ¬ dfd D K (r i0 / 2)) : Vf (ext D i0 k r) (Kx K i0 (k + 1)) := by
  obtain ⟨a, b, c, e⟩ := h
  refine ⟨fun i j hi hj => ?_, fun j hj => ?_, fun i j hi hj => ?_, fun i j i' j' hi hi' hj hj' he => ?_⟩
  · rcases Kx_c hk hj with hj | ⟨hi0, hjk⟩
    · rw [ext_o (by
        by_cases z : dk i = i0
        · exact Or.inr fun z2 => by rw [z, hk] at hj; omega
        · exact Or.inl z)]
      exact a i j hi hj
    · subst hjk
      rw [ext_n hi0]
      exact h1 i hi hi0
  · rcases Kx_c hk hj with hj | ⟨hi0, hjk⟩
    · rw [ext_o (by
        by_cases z : dk 5 = i0
        · exact Or.inr fun z2 => by rw [dk5] at z; rw [z, hk] at hj; omega
        · exact Or.inl z)]
      exact b j hj
    · subst hjk
      rw [ext_n (by rw [dk5]; exact hi0)]
      exact h2 hi0.symm
  · rcases Kx_c hk hj with hj | ⟨hi0, hjk⟩
    · rw [ext_o (by
        by_cases z : dk i = i0
        · exact Or.inr fun z2 => by rw [dK_dk hi] at z; rw [z, hk] at hj; omega
        · exact Or.inl z)]
      exact c i j hi hj
    · subst hjk hi0
      rw [ext_n (dK_dk hi)]
      exact ⟨(h3 hi).1, (h3 hi).2.1⟩
  · rcases Kx_c hk hj with hq | ⟨hi0, hjk⟩
    · have z1 : dk i ≠ i0 ∨ j ≠ k := by
        by_cases z : dk i = i0
        · exact Or.inr fun z2 => by rw [dK_dk hi] at z; rw [z, hk] at hq; omega
        · exact Or.inl z
      rw [ext_o z1] at he
      rcases Kx_c hk hj' with hq' | ⟨hi0, hjk⟩
      · rw [ext_o (by
          by_cases z : dk i' = i0
          · exact Or.inr fun z2 => by rw [dK_dk hi'] at z; rw [z, hk] at hq'; omega
          · exact Or.inl z)] at he
        exact e i j i' j' hi hi' hq hq' he
      · rw [hi0, hjk, ext_n (dK_dk (hi0 ▸ hi'))] at he
        exact absurd ⟨i, j, hi, hq, by rw [he]⟩ (h3 (hi0 ▸ hi')).2.2
    · rw [hi0, hjk, ext_n (dK_dk (hi0 ▸ hi))] at he
      rcases Kx_c hk hj' with hq' | ⟨hi0', hjk'⟩
      · rw [ext_o (by
          by_cases z : dk i' = i0
          · exact Or.inr fun z2 => by rw [dK_dk hi'] at z; rw [z, hk] at hq'; omega
          · exact Or.inl z)] at he
        exact absurd ⟨i', j', hi', hq', by rw [he]⟩ (h3 (hi0 ▸ hi)).2.2
      · exact ⟨hi0.trans hi0'.symm, hjk.trans hjk'.symm⟩
def Df (D : De) (K : Nat → Nat) (f g : Nat → Int32) : Prop := ∀ v, v < 100 → (dfd D K v → f v = nI 1 ∧ g v = nI 1) ∧ (¬ dfd D K v → f v = nI 0 ∧ g v = nI 0)
theorem dfd_line {D : De} {K : Nat → Nat} {i0 k v : Nat} {r : Nat → Nat} (hk : K i0 = k) : dfd (ext D i0 k r) (Kx K i0 (k + 1)) v ↔ dfd D K v ∨ (dK i0 ∧ r i0 / 2 = v) := by
  constructor
  · rintro ⟨i, j, hi, hj, e⟩
    rcases Kx_c hk hj with hj | ⟨hi0, hjk⟩
    · rw [ext_o (by
        by_cases z : dk i = i0
        · exact Or.inr fun z2 => by rw [dK_dk hi] at z; rw [z, hk] at hj; omega
        · exact Or.inl z)] at e
      exact Or.inl ⟨i, j, hi, hj, e⟩
    · subst hjk hi0
      rw [ext_n (dK_dk hi)] at e
      exact Or.inr ⟨hi, e⟩
  · rintro (⟨i, j, hi, hj, e⟩ | ⟨hi, e⟩)
    · have z1 : dk i ≠ i0 ∨ j ≠ k := by
        by_cases z : dk i = i0
        · exact Or.inr fun z2 => by rw [dK_dk hi] at z; rw [z, hk] at hj; omega
        · exact Or.inl z
      refine ⟨i, j, hi, ?_, by rw [ext_o z1]; exact e⟩
      by_cases z : i = i0
      · subst z; rw [Kx_s]; omega
      · rw [Kx_n z]; exact hj
    · exact ⟨i0, k, hi, by rw [Kx_s]; omega, by rw [ext_n (dK_dk hi)]; exact e⟩
theorem Df_line {D : De} {K : Nat → Nat} {i0 k : Nat} {r : Nat → Nat} {f g : Nat → Int32} (h : Df D K f g) (hk : K i0 = k) (hi : dK i0) : Df (ext D i0 k r) (Kx K i0 (k + 1)) (upd f (r i0 / 2) (nI 1)) (upd g (r i0 / 2) (nI 1)) := by
  intro v hv
  rw [dfd_line hk]
  by_cases e : v = r i0 / 2
  · subst e
    rw [pk_us, pk_us]
    exact ⟨fun _ => ⟨rfl, rfl⟩, fun z => absurd (Or.inr ⟨hi, rfl⟩) z⟩
  · rw [pk_un e, pk_un e]
    refine ⟨fun z => (h v hv).1 (z.resolve_right fun y => e y.2.symm), fun z => (h v hv).2 fun y => z (Or.inl y)⟩
theorem Df_out {D : De} {K : Nat → Nat} {i0 k : Nat} {r : Nat → Nat} {f g : Nat → Int32} (h : Df D K f g) (hk : K i0 = k) (hi : ¬ dK i0) : Df (ext D i0 k r) (Kx K i0 (k + 1)) f g := by
  intro v hv
  rw [dfd_line hk]
  refine ⟨fun z => (h v hv).1 (z.resolve_right fun y => hi y.1), fun z => (h v hv).2 fun y => z (Or.inl y)⟩
theorem Df_c {D : De} {K : Nat → Nat} {f g : Nat → Int32} (h : Df D K f g) {v : Nat} (hv : v < 100) : (f v = nI 0 ∧ g v = nI 0) ∨ (f v = nI 1 ∧ g v = nI 1) := by
  by_cases z : dfd D K v
  · exact Or.inr ((h v hv).1 z)
  · exact Or.inl ((h v hv).2 z)
theorem Df_not {D : De} {K : Nat → Nat} {f g : Nat → Int32} (h : Df D K f g) {v : Nat} (hv : v < 100) (hz : f v = nI 0) : ¬ dfd D K v := fun z => by
  have := ((h v hv).1 z).1
  rw [hz] at this
  exact absurd this (by decide)
def uK (i : Nat) : Prop := i = 2 ∨ i = 4 ∨ i = 6 ∨ i = 7
/-- the uses: what has been used, and where -/
def Us (D : De) (K : Nat → Nat) (u : Nat) (ul up : Nat → Nat) (rd : SR) (us : Mus) : Prop := u = K 1 + K 2 + 2 * K 3 ∧ rd.2.2.2.2.2.2.1 = nI u ∧ us.2.2.2.2 = nI u ∧ (∀ j, j < u → (rd.2.1 j = nI (ul j) ∧ us.2.2.1 j = nI (ul j)) ∧ (rd.2.2.1 j = nI (up j) ∧ us.2.2.2.1 j = nI (up j)) ∧ ul j < 200 ∧ up j ≤ 1501) ∧ ∀ i k, uK i → k < K (dk i) → ∃ j, j < u ∧ ul j = D.2.2 i k
theorem Us_cov {D : De} {K : Nat → Nat} {i0 k u u' : Nat} {r ul ul' : Nat → Nat} (h : ∀ i k, uK i → k < K (dk i) → ∃ j, j < u ∧ ul j = D.2.2 i k) (hk : K i0 = k) (hu : u ≤ u') (ho : ∀ j, j < u → ul' j = ul j) (hn : ∀ i, uK i → dk i = i0 → ∃ j, j < u' ∧ ul' j = r i) : ∀ i j, uK i → j < Kx K i0 (k + 1) (dk i) → ∃ m, m < u' ∧ ul' m = (ext D i0 k r).2.2 i j := by
  intro i j hi hj
  rcases Kx_c hk hj with hj | ⟨hi0, hjk⟩
  · obtain ⟨m, a, b⟩ := h i j hi hj
    refine ⟨m, by omega, ?_⟩
    rw [ho m a, b, ext_o (by
      by_cases z : dk i = i0
      · exact Or.inr fun z2 => by rw [z, hk] at hj; omega
      · exact Or.inl z)]
  · subst hjk
    rw [ext_n hi0]
    exact hn i hi hi0
def Gp (K3 : Nat) (gp : Nat → Nat) (f g : Nat → Int32) : Prop := ∀ k, k < K3 → f k = nI (gp k) ∧ g k = nI (gp k) ∧ gp k ≤ 1501
/-- the reader's state in a plain text, no fault so far -/
def PR (n : Nat) (D : De) (K : Nat → Nat) (rd : SR) (d : SD) (ps : Mps) (nd : Mnd) (us : Mus) : Prop := (∃ p, Ok n rd ps p) ∧ Fl D K d nd ∧ Vf D K ∧ Df D K rd.1 us.2.1 ∧ (∃ u ul up, Us D K u ul up rd us) ∧ ∃ gp, Gp (K 3) gp rd.2.2.2.1 us.1
