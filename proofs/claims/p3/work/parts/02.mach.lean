/-! THE ABSTRACT MACHINE. A world is a list of cells; a reference is a place in that list. A method is a table of rows (pc, what the row does); a call is what the callee's run answers. Sound: where the table's run answers r, the machine's method returns r. -/
abbrev am_H : Type := List va_E
abbrev am_L : Type := List (Nat × Value)
abbrev am_S : Type := Nat × am_L × List Value × am_H
abbrev am_R : Type := Option Value × am_H
/-- what a row does: a next state; a return; a choice; a call and what follows; a test that must hold -/
abbrev am_N : Type := am_S ⊕ am_R ⊕ (List (Bool × am_S) × am_S) ⊕ (Option am_R × (am_R → am_S)) ⊕ (Bool × am_S)
abbrev am_F : Type := am_S → Option am_N
abbrev am_T : Type := List (Nat × am_F)
abbrev am_C : Type := Nat → List Value → am_H → Option am_R
abbrev am_go (s : am_S) : Option am_N := some (.inl s)
abbrev am_rt (r : am_R) : Option am_N := some (.inr (.inl r))
abbrev am_br (bs : List (Bool × am_S)) (s : am_S) : Option am_N := some (.inr (.inr (.inl (bs, s))))
abbrev am_cc (r : Option am_R) (k : am_R → am_S) : Option am_N := some (.inr (.inr (.inr (.inl (r, k)))))
abbrev am_gd (b : Bool) (s : am_S) : Option am_N := some (.inr (.inr (.inr (.inr (b, s)))))
def am_look : am_T → Nat → Option am_F
  | [], _ => none
  | (q, f) :: T, pc => match Nat.beq q pc with
    | true => some f
    | false => am_look T pc
def am_ex (T : am_T) : Nat → am_S → Option am_R
  | 0, _ => none
  | n + 1, st => match am_look T st.1 with
    | none => none
    | some f => match f st with
      | none => none
      | some (.inl s) => am_ex T n s
      | some (.inr (.inl r)) => some r
      | some (.inr (.inr (.inl (bs, s)))) => bs.foldr (fun q z => if q.1 then am_ex T n q.2 else z) (am_ex T n s)
      | some (.inr (.inr (.inr (.inl (o, k))))) => o.bind (fun r => am_ex T n (k r))
      | some (.inr (.inr (.inr (.inr (b, s))))) => if b then am_ex T n s else none
theorem am_look_mem : ∀ {T : am_T} {pc : Nat} {f : am_F}, am_look T pc = some f → (pc, f) ∈ T
  | [], _, _, h => by cases h
  | (q, g) :: T, pc, f, h => by
    unfold am_look at h
    split at h
    · rename_i hb
      cases h
      rw [Nat.eq_of_beq_eq_true hb]
      exact List.mem_cons_self
    · exact List.mem_cons_of_mem _ (am_look_mem h)
theorem am_fold {bs : List (Bool × am_S)} {E : am_S → Option am_R} {s : am_S} {r : am_R} (h : bs.foldr (fun q z => if q.1 then E q.2 else z) (E s) = some r) :
    (∃ q ∈ bs, q.1 = true ∧ E q.2 = some r ∧ bs.find? (fun x => x.1) = some q) ∨ (bs.find? (fun x => x.1) = none ∧ E s = some r) := by
  induction bs with
  | nil => exact Or.inr ⟨rfl, h⟩
  | cons a l ih =>
    obtain ⟨b, t⟩ := a
    cases b with
    | true => exact Or.inl ⟨(true, t), List.mem_cons_self, rfl, by simpa using h, rfl⟩
    | false =>
      rcases ih (by simpa using h) with ⟨q, h1, h2, h3, h4⟩ | ⟨h1, h2⟩
      · exact Or.inl ⟨q, List.mem_cons_of_mem _ h1, h2, h3, by simpa using h4⟩
      · exact Or.inr ⟨by simpa using h1, h2⟩
theorem am_fold_mono {E E' : am_S → Option am_R} (hE : ∀ s r, E s = some r → E' s = some r) : ∀ (bs : List (Bool × am_S)) (s : am_S) (r : am_R), bs.foldr (fun q z => if q.1 then E q.2 else z) (E s) = some r → bs.foldr (fun q z => if q.1 then E' q.2 else z) (E' s) = some r
  | [], s, r, h => hE s r h
  | (true, t) :: _, _, r, h => hE t r h
  | (false, _) :: l, s, r, h => am_fold_mono hE l s r h
theorem am_ex_mono1 (T : am_T) : ∀ (n : Nat) (st : am_S) (r : am_R), am_ex T n st = some r → am_ex T (n + 1) st = some r
  | 0, _, _, h => by cases h
  | n + 1, st, r, h => by
    unfold am_ex at h ⊢
    split at h
    · cases h
    · split at h
      · cases h
      · exact am_ex_mono1 T n _ _ h
      · exact h
      · exact am_fold_mono (fun s r => am_ex_mono1 T n s r) _ _ _ h
      · obtain ⟨q, h1, h2⟩ := Option.bind_eq_some_iff.mp h
        exact Option.bind_eq_some_iff.mpr ⟨q, h1, am_ex_mono1 T n _ _ h2⟩
      · split at h
        · rename_i hb; simp only [hb, if_true]; exact am_ex_mono1 T n _ _ h
        · cases h
theorem am_ex_mono (T : am_T) {n m : Nat} (hm : n ≤ m) {st : am_S} {r : am_R} (h : am_ex T n st = some r) : am_ex T m st = some r := by
  induction hm with
  | refl => exact h
  | step _ ih => exact am_ex_mono1 T _ _ _ ih
/-- the run as a relation -/
def am_Ev (T : am_T) (st : am_S) (r : am_R) : Prop := ∃ n, am_ex T n st = some r
theorem am_Ev.det {T : am_T} {st : am_S} {r r' : am_R} (h : am_Ev T st r) (h' : am_Ev T st r') : r = r' := by
  obtain ⟨n, h⟩ := h
  obtain ⟨m, h'⟩ := h'
  rcases Nat.le_total n m with q | q
  · exact Option.some.inj ((am_ex_mono T q h).symm.trans h')
  · exact Option.some.inj (h.symm.trans (am_ex_mono T q h'))
/-- steps, by computation -/
theorem am_Ev.go {T : am_T} {st st' : am_S} {r : am_R} (k : Nat) (he : ∀ n, am_ex T (n + k) st = am_ex T n st') (h : am_Ev T st' r) : am_Ev T st r := by
  obtain ⟨n, h⟩ := h
  exact ⟨n + k, (he n).trans h⟩
theorem am_Ev.done {T : am_T} {st : am_S} {r : am_R} (k : Nat) (he : am_ex T k st = some r) : am_Ev T st r := ⟨k, he⟩
theorem am_Ev.fork {T : am_T} {st s1 s2 : am_S} {r : am_R} {b : Bool} (k : Nat) (he : ∀ n, am_ex T (n + k) st = if b then am_ex T n s1 else am_ex T n s2) (h1 : b = true → am_Ev T s1 r) (h2 : b = false → am_Ev T s2 r) : am_Ev T st r := by
  cases b with
  | true => exact am_Ev.go k (fun n => (he n).trans rfl) (h1 rfl)
  | false => exact am_Ev.go k (fun n => (he n).trans rfl) (h2 rfl)
theorem am_Ev.guard {T : am_T} {st s1 : am_S} {r : am_R} {b : Bool} (k : Nat) (he : ∀ n, am_ex T (n + k) st = if b then am_ex T n s1 else none) (hb : b = true) (h1 : am_Ev T s1 r) : am_Ev T st r := by
  subst hb
  exact am_Ev.go k (fun n => (he n).trans rfl) h1
theorem am_Ev.call {T : am_T} {st : am_S} {r : am_R} {o : Option am_R} {kk : am_R → am_S} {q : am_R} (k : Nat) (he : ∀ n, am_ex T (n + k) st = o.bind (fun r => am_ex T n (kk r))) (ho : o = some q) (h1 : am_Ev T (kk q) r) : am_Ev T st r := by
  subst ho
  exact am_Ev.go k (fun n => (he n).trans rfl) h1
/-- all that a run can answer -/
noncomputable def am_lim (T : am_T) (st : am_S) : Option am_R := by
  classical exact if h : ∃ r, am_Ev T st r then some h.choose else none
theorem am_lim_some {T : am_T} {st : am_S} {r : am_R} (h : am_lim T st = some r) : am_Ev T st r := by
  unfold am_lim at h
  split at h
  · rename_i hr
    cases h
    exact hr.choose_spec
  · cases h
theorem am_lim_of {T : am_T} {st : am_S} {r : am_R} (h : am_Ev T st r) : am_lim T st = some r := by
  unfold am_lim
  rw [dif_pos ⟨r, h⟩]
  exact congrArg some (am_Ev.det (Exists.choose_spec (⟨r, h⟩ : ∃ r, am_Ev T st r)) h)
def am_args : Nat → List Value → am_L := lv_args
theorem am_sl_len (ρ : Nat → Nat) (vs : List Value) (f : Value → Value) (hf : ∀ v, (f v).category = v.category) : (lg_sl (vs.map f)).length = (lg_sl vs).length := by
  induction vs with
  | nil => rfl
  | cons v vs ih =>
    have e1 : lg_sl ((v :: vs).map f) = (if (f v).category = 2 then [Slot.val (f v), .second] else [.val (f v)]) ++ lg_sl (vs.map f) := rfl
    have e2 : lg_sl (v :: vs) = (if v.category = 2 then [Slot.val v, .second] else [.val v]) ++ lg_sl vs := rfl
    rw [e1, e2, List.length_append, List.length_append, ih, hf]
    split <;> rfl
noncomputable def am_run (PT : Nat → am_C → am_T) (ML : Nat → Nat) : Nat → am_C
  | 0 => fun _ _ _ => none
  | d + 1 => fun id av h => match Nat.ble (lg_sl av).length (ML id) with
    | true => am_lim (PT id (am_run PT ML d)) (0, lv_args 0 av, [], h)
    | false => none
theorem am_run_of {PT : Nat → am_C → am_T} {ML : Nat → Nat} {d id : Nat} {av : List Value} {h : am_H} {r : am_R} (hb : Nat.ble (lg_sl av).length (ML id) = true) (he : am_Ev (PT id (am_run PT ML d)) (0, lv_args 0 av, [], h) r) : am_run PT ML (d + 1) id av h = some r := by
  show (match Nat.ble (lg_sl av).length (ML id) with
    | true => am_lim (PT id (am_run PT ML d)) (0, lv_args 0 av, [], h)
    | false => none) = some r
  rw [hb]
  exact am_lim_of he
theorem am_run_some {PT : Nat → am_C → am_T} {ML : Nat → Nat} {d id : Nat} {av : List Value} {h : am_H} {r : am_R} (hr : am_run PT ML (d + 1) id av h = some r) : Nat.ble (lg_sl av).length (ML id) = true ∧ am_Ev (PT id (am_run PT ML d)) (0, lv_args 0 av, [], h) r := by
  have h1 : (match Nat.ble (lg_sl av).length (ML id) with
    | true => am_lim (PT id (am_run PT ML d)) (0, lv_args 0 av, [], h)
    | false => none) = some r := hr
  split at h1
  · rename_i hb
    exact ⟨hb, am_lim_some h1⟩
  · cases h1
-- ===== locals =====
def am_get : am_L → Nat → Option Value
  | [], _ => none
  | (j, v) :: l, i => match Nat.beq j i with
    | true => some v
    | false => am_get l i
def am_ins (i : Nat) (v : Value) : am_L → am_L
  | [] => [(i, v)]
  | (j, w) :: l => match Nat.blt i j with
    | true => (i, v) :: (j, w) :: l
    | false => (j, w) :: am_ins i v l
def am_set1 (l : am_L) (i : Nat) (v : Value) : am_L := am_ins i v (l.filter (fun q => !(q.1 == i) && !(q.1 + 1 == i && q.2.category == 2)))
def am_set2 (l : am_L) (i : Nat) (v : Value) : am_L := am_ins i v (l.filter (fun q => !(q.1 == i) && (!(q.1 == i + 1) && !(q.1 + 1 == i && q.2.category == 2))))
def am_keep (ks : List Nat) (l : am_L) : am_L := l.filter (fun q => ks.any (fun k => k == q.1))
theorem am_get_mem : ∀ {l : am_L} {i : Nat} {v : Value}, am_get l i = some v → (i, v) ∈ l
  | [], _, _, h => by cases h
  | (j, w) :: l, i, v, h => by
    unfold am_get at h
    split at h
    · rename_i hb
      cases h
      rw [Nat.eq_of_beq_eq_true hb]
      exact List.mem_cons_self
    · exact List.mem_cons_of_mem _ (am_get_mem h)
theorem am_ins_mem {i : Nat} {v : Value} {q : Nat × Value} : ∀ {l : am_L}, q ∈ am_ins i v l → q = (i, v) ∨ q ∈ l
  | [], h => by
    simp only [am_ins, List.mem_singleton] at h
    exact Or.inl h
  | (j, w) :: l, h => by
    unfold am_ins at h
    split at h
    · rcases List.mem_cons.mp h with h | h
      · exact Or.inl h
      · exact Or.inr h
    · rcases List.mem_cons.mp h with h | h
      · exact Or.inr (by rw [h]; exact List.mem_cons_self)
      · rcases am_ins_mem h with h | h
        · exact Or.inl h
        · exact Or.inr (List.mem_cons_of_mem _ h)
-- ===== what the places are on the machine =====
def am_v (ρ : Nat → Nat) (v : Value) : Value := match v with
  | .ref k => .ref (ρ k)
  | w => w
def am_x (ρ : Nat → Nat) (a : vp_A) : vp_A := match a with
  | (n, .inr (.inr (.inr (.inr f)))) => (n, .inr (.inr (.inr (.inr (fun i => (f i).map ρ)))))
  | b => b
def am_e (ρ : Nat → Nat) (kc : Nat → ClassId) (e : va_E) : va_E := match e with
  | .inl (t, a) => .inl (kc t, am_x ρ a)
  | .inr (c, fs) => .inr (c, fs.map (am_v ρ))
def am_w (ρ : Nat → Nat) (kc : Nat → ClassId) (h : am_H) : va_W := h.mapIdx (fun k e => (ρ k, am_e ρ kc e))
def am_l (ρ : Nat → Nat) (l : am_L) : List (Nat × Value) := l.map (fun q => (q.1, am_v ρ q.2))
def am_tys (kc : Nat → ClassId) (fts : List FieldType) : List (ClassId × FieldType) := fts.mapIdx (fun t ft => (kc t, ft))
def am_A (ρ : Nat → Nat) (len sz : Nat) : Nat → Prop := fun q => (∃ k, k < len ∧ q = ρ k) ∨ sz ≤ q
def am_inj (ρ : Nat → Nat) (len : Nat) : Prop := ∀ i j, i < len → j < len → ρ i = ρ j → i = j
theorem am_cat (ρ : Nat → Nat) (v : Value) : (am_v ρ v).category = v.category := by cases v <;> rfl
theorem am_cats (ρ : Nat → Nat) (l : List Value) : ((l.map (am_v ρ)).map fun v => v.category) = l.map fun v => v.category := by
  induction l with
  | nil => rfl
  | cons a l ih => simp only [List.map_cons, am_cat, ih]
theorem am_w_at {ρ : Nat → Nat} {kc : Nat → ClassId} {h : am_H} {k : Nat} {e : va_E} (he : h[k]? = some e) : (am_w ρ kc h)[k]? = some (ρ k, am_e ρ kc e) := by
  simp [am_w, List.getElem?_mapIdx, he]
theorem am_w_fst {ρ : Nat → Nat} {kc : Nat → ClassId} {h : am_H} {k : Nat} {q : Nat × va_E} (he : (am_w ρ kc h)[k]? = some q) : k < h.length ∧ q.1 = ρ k := by
  have h1 : k < (am_w ρ kc h).length := (List.getElem?_eq_some_iff.mp he).1
  have h2 : k < h.length := by simpa [am_w] using h1
  refine ⟨h2, ?_⟩
  rw [am_w_at (List.getElem?_eq_getElem h2)] at he
  exact (congrArg Prod.fst (Option.some.inj he)).symm
theorem am_w_set {ρ : Nat → Nat} {kc : Nat → ClassId} {h : am_H} {k : Nat} {e : va_E} : (am_w ρ kc h).set k (ρ k, am_e ρ kc e) = am_w ρ kc (h.set k e) := by
  apply List.ext_getElem?
  intro i
  by_cases hi : i = k
  · subst hi
    by_cases hl : i < h.length
    · rw [List.getElem?_set_self (by simpa [am_w] using hl), am_w_at (e := e) (List.getElem?_set_self hl)]
    · have h1 : (am_w ρ kc h).length ≤ i := by simpa [am_w] using hl
      rw [List.getElem?_eq_none (by simpa using h1), List.getElem?_eq_none (by simpa [am_w] using hl)]
  · rw [List.getElem?_set_ne (Ne.symm hi)]
    simp only [am_w, List.getElem?_mapIdx, List.getElem?_set_ne (Ne.symm hi)]
theorem am_ty_at {kc : Nat → ClassId} {fts : List FieldType} {t : Nat} {ft : FieldType} (h : fts[t]? = some ft) : (am_tys kc fts)[t]? = some (kc t, ft) := by
  simp [am_tys, List.getElem?_mapIdx, h]
theorem am_D {ρ : Nat → Nat} {kc : Nat → ClassId} {len sz : Nat} (hi : am_inj ρ len) {h : am_H} (hl : h.length = len) : va_D (am_A ρ len sz) (am_w ρ kc h) := by
  refine ⟨fun i j p q h1 h2 he => ?_, fun k q hk => ?_⟩
  · obtain ⟨a1, b1⟩ := am_w_fst h1
    obtain ⟨a2, b2⟩ := am_w_fst h2
    exact hi i j (hl ▸ a1) (hl ▸ a2) (by rw [← b1, ← b2]; exact he)
  · obtain ⟨a1, b1⟩ := am_w_fst hk
    exact Or.inl ⟨k, hl ▸ a1, b1⟩
theorem am_at {ρ : Nat → Nat} {ls : Array Slot} {nL i : Nat} {l : am_L} {v : Value} (h : lv_has ls nL (am_l ρ l)) (hg : am_get l i = some v) : ls[i]? = some (.val (am_v ρ v)) :=
  h.2.2 (i, am_v ρ v) (List.mem_map.mpr ⟨(i, v), am_get_mem hg, rfl⟩)
theorem am_less {ρ : Nat → Nat} {ls : Array Slot} {nL : Nat} {l l' : am_L} (h : lv_has ls nL (am_l ρ l)) (hs : ∀ q ∈ l', q ∈ l) : lv_has ls nL (am_l ρ l') := by
  refine ⟨h.1, h.2.1, fun q hq => ?_⟩
  obtain ⟨x, hx, rfl⟩ := List.mem_map.mp hq
  exact h.2.2 _ (List.mem_map.mpr ⟨x, hs x hx, rfl⟩)
theorem am_st1 {ρ : Nat → Nat} {ls : Array Slot} {nL i : Nat} {l : am_L} {v : Value} (h : lv_has ls nL ((i, am_v ρ v) :: (am_l ρ l).filter (fun q => !(q.1 == i) && !(q.1 + 1 == i && q.2.category == 2)))) : lv_has ls nL (am_l ρ (am_set1 l i v)) := by
  refine ⟨h.1, h.2.1, fun q hq => h.2.2 q ?_⟩
  obtain ⟨x, hx, rfl⟩ := List.mem_map.mp hq
  rcases am_ins_mem hx with rfl | hx
  · exact List.mem_cons_self
  · obtain ⟨h1, h2⟩ := List.mem_filter.mp hx
    refine List.mem_cons_of_mem _ (List.mem_filter.mpr ⟨List.mem_map.mpr ⟨x, h1, rfl⟩, ?_⟩)
    simpa only [am_cat] using h2
theorem am_st2 {ρ : Nat → Nat} {ls : Array Slot} {nL i : Nat} {l : am_L} {v : Value} (h : lv_has ls nL ((i, am_v ρ v) :: (am_l ρ l).filter (fun q => !(q.1 == i) && (!(q.1 == i + 1) && !(q.1 + 1 == i && q.2.category == 2))))) : lv_has ls nL (am_l ρ (am_set2 l i v)) := by
  refine ⟨h.1, h.2.1, fun q hq => h.2.2 q ?_⟩
  obtain ⟨x, hx, rfl⟩ := List.mem_map.mp hq
  rcases am_ins_mem hx with rfl | hx
  · exact List.mem_cons_self
  · obtain ⟨h1, h2⟩ := List.mem_filter.mp hx
    refine List.mem_cons_of_mem _ (List.mem_filter.mpr ⟨List.mem_map.mpr ⟨x, h1, rfl⟩, ?_⟩)
    simpa only [am_cat] using h2
-- ===== the judgement =====
def am_J (p : Program) (l : Launch) (e : Env) (R : Room) (s : State) (m : MethodId) (args : Array Value) (below : List Frame) (meth : Method) (c : Code) (nL : Nat) (D : va_G) (cl : List vw_C) (ρ : Nat → Nat) (kc : Nat → ClassId) (len : Nat) (Q : State → Prop) (st : am_S) : Prop :=
  ∀ (H : Heap) (locs : List Loc) (ls : Array Slot), st.2.2.2.length = len → va_P D cl (am_w ρ kc st.2.2.2) H → va_S (am_A ρ len s.heap.size) s.heap H locs → lv_has ls nL (am_l ρ st.2.1) →
    W p l e R s m args below meth c H locs 0 0 Q (F0 m st.1 ls (st.2.2.1.map (am_v ρ)))
def am_Good (J : am_S → Prop) (K : am_R → Prop) (x : am_N) : Prop := match x with
  | .inl s => J s
  | .inr (.inl r) => K r
  | .inr (.inr (.inl (bs, s))) => (∀ q, bs.find? (fun x => x.1) = some q → J q.2) ∧ (bs.find? (fun x => x.1) = none → J s)
  | .inr (.inr (.inr (.inl (o, k)))) => ∃ r, o = some r ∧ J (k r)
  | .inr (.inr (.inr (.inr (b, s)))) => b = true ∧ J s
def am_Row (J : am_S → Prop) (K : am_R → Prop) (pc : Nat) (f : am_F) : Prop := ∀ (st : am_S) (x : am_N), st.1 = pc → f st = some x → am_Good J K x → J st
theorem am_sound {J : am_S → Prop} {K : am_R → Prop} {T : am_T} (hT : ∀ q ∈ T, am_Row J K q.1 q.2) : ∀ (n : Nat) (st : am_S) (r : am_R), am_ex T n st = some r → K r → J st
  | 0, _, _, h, _ => by cases h
  | n + 1, st, r, h, hK => by
    unfold am_ex at h
    split at h
    · cases h
    · rename_i f hf
      split at h
      · cases h
      · rename_i s hs
        exact hT _ (am_look_mem hf) st _ rfl hs (am_sound hT n _ _ h hK)
      · rename_i r' hs
        cases h
        exact hT _ (am_look_mem hf) st _ rfl hs hK
      · rename_i bs s hs
        refine hT _ (am_look_mem hf) st _ rfl hs ?_
        rcases am_fold (E := am_ex T n) h with ⟨q, -, -, h3, h4⟩ | ⟨h1, h2⟩
        · refine ⟨fun q' hq' => ?_, fun hn => ?_⟩
          · rw [h4] at hq'
            cases hq'
            exact am_sound hT n _ _ h3 hK
          · rw [h4] at hn
            cases hn
        · refine ⟨fun q' hq' => ?_, fun _ => am_sound hT n _ _ h2 hK⟩
          rw [h1] at hq'
          cases hq'
      · rename_i o k hs
        obtain ⟨q, h1, h2⟩ := Option.bind_eq_some_iff.mp h
        exact hT _ (am_look_mem hf) st _ rfl hs ⟨q, h1, am_sound hT n _ _ h2 hK⟩
      · rename_i b s hs
        split at h
        · rename_i hb
          exact hT _ (am_look_mem hf) st _ rfl hs ⟨hb, am_sound hT n _ _ h hK⟩
        · cases h
def am_Cx (p : Program) (R : Room) (s : State) (m : MethodId) (args : Array Value) (meth : Method) (c : Code) (cc : ByteArray) (nL : Nat) (Ts : List Cond) (own : String) (D : va_G) (cl : List vw_C) (ρ : Nat → Nat) (kc : Nat → ClassId) (fts : List FieldType) (len : Nat) : Prop :=
  p.tables.exec = Jvm.exec ∧ c.code = cc ∧ c.maxLocals = nL ∧ s.vm.findClass own = some m.cls ∧ (∀ w ∈ Ts, w.before args s = true) ∧ va_K D cl (am_tys kc fts) s ∧ am_inj ρ len ∧ meth.locks = false ∧ 1 ≤ R.frames ∧ 21 ≤ R.locals
section AMR
variable {p : Program} {l : Launch} {e : Env} {R : Room} {s : State} {m : MethodId} {args : Array Value} {below : List Frame} {meth : Method} {c : Code} {cc : ByteArray} {nL : Nat} {Ts : List Cond} {own : String} {D : va_G} {cl : List vw_C} {ρ : Nat → Nat} {kc : Nat → ClassId} {fts : List FieldType} {len : Nat} {Q : State → Prop} {K : am_R → Prop}
variable {pc : Nat}
def af_keep (ks : List Nat) (f : am_F) : am_F := fun st => f (st.1, am_keep ks st.2.1, st.2.2.1, st.2.2.2)
theorem ar_keep {f : am_F} (ks : List Nat) (hr : am_Row (am_J p l e R s m args below meth c nL D cl ρ kc len Q) K pc f) : am_Row (am_J p l e R s m args below meth c nL D cl ρ kc len Q) K pc (af_keep ks f) := by
  intro st x hpc hf hg H locs ls hlen hP hS hl
  exact hr (st.1, am_keep ks st.2.1, st.2.2.1, st.2.2.2) x hpc hf hg H locs ls hlen hP hS (am_less hl (fun q hq => (List.mem_filter.mp hq).1))
def af_iconst (v : Int32) (n : Nat) : am_F := fun st => am_go (st.1 + n, st.2.1, .int v :: st.2.2.1, st.2.2.2)
theorem ar_iconst (C : am_Cx p R s m args meth c cc nL Ts own D cl ρ kc fts len) {n : Int} {v : Int32} (hd : decode cc pc = .ok (.iconst n, 1)) (hv : Int32.ofInt n = v) : am_Row (am_J p l e R s m args below meth c nL D cl ρ kc len Q) K pc (af_iconst v 1) := by
  obtain ⟨hx, hb, hml, hown, hts, hK, hinj, hlk, hfr, hlo⟩ := C
  intro st x hpc hf hg
  obtain ⟨pc0, lv, sk, h⟩ := st
  cases hpc
  cases hf
  intro H locs ls hlen hP hS hl
  exact lv_iconst hx hb hd hv (hg H locs ls hlen hP hS hl)
theorem ar_bipush (C : am_Cx p R s m args meth c cc nL Ts own D cl ρ kc fts len) {n : Int} {v : Int32} (hd : decode cc pc = .ok (.bipush n, 2)) (hv : (Int8.ofInt n).toInt32 = v) : am_Row (am_J p l e R s m args below meth c nL D cl ρ kc len Q) K pc (af_iconst v 2) := by
  obtain ⟨hx, hb, hml, hown, hts, hK, hinj, hlk, hfr, hlo⟩ := C
  intro st x hpc hf hg
  obtain ⟨pc0, lv, sk, h⟩ := st
  cases hpc
  cases hf
  intro H locs ls hlen hP hS hl
  exact lv_bipush hx hb hd hv (hg H locs ls hlen hP hS hl)
theorem ar_sipush (C : am_Cx p R s m args meth c cc nL Ts own D cl ρ kc fts len) {n : Int} {v : Int32} (hd : decode cc pc = .ok (.sipush n, 3)) (hv : (Int16.ofInt n).toInt32 = v) : am_Row (am_J p l e R s m args below meth c nL D cl ρ kc len Q) K pc (af_iconst v 3) := by
  obtain ⟨hx, hb, hml, hown, hts, hK, hinj, hlk, hfr, hlo⟩ := C
  intro st x hpc hf hg
  obtain ⟨pc0, lv, sk, h⟩ := st
  cases hpc
  cases hf
  intro H locs ls hlen hP hS hl
  exact lv_sipush hx hb hd hv (hg H locs ls hlen hP hS hl)
theorem ar_ldc (C : am_Cx p R s m args meth c cc nL Ts own D cl ρ kc fts len) {index : Nat} {v : Int32} (hd : decode cc pc = .ok (.ldc index, 2)) (hc : Jvm.Cond.constant own index v ∈ Ts) : am_Row (am_J p l e R s m args below meth c nL D cl ρ kc len Q) K pc (af_iconst v 2) := by
  obtain ⟨hx, hb, hml, hown, hts, hK, hinj, hlk, hfr, hlo⟩ := C
  intro st x hpc hf hg
  obtain ⟨pc0, lv, sk, h⟩ := st
  cases hpc
  cases hf
  intro H locs ls hlen hP hS hl
  exact lv_ldc hx hb hown (hts _ hc) hd (hg H locs ls hlen hP hS hl)
def af_lconst (v : Int64) (n : Nat) : am_F := fun st => am_go (st.1 + n, st.2.1, .long v :: st.2.2.1, st.2.2.2)
theorem ar_lconst (C : am_Cx p R s m args meth c cc nL Ts own D cl ρ kc fts len) {n : Fin 2} {v : Int64} (hd : decode cc pc = .ok (.lconst n, 1)) (hv : Int64.ofNat (n : Nat) = v) : am_Row (am_J p l e R s m args below meth c nL D cl ρ kc len Q) K pc (af_lconst v 1) := by
  obtain ⟨hx, hb, hml, hown, hts, hK, hinj, hlk, hfr, hlo⟩ := C
  intro st x hpc hf hg
  obtain ⟨pc0, lv, sk, h⟩ := st
  cases hpc
  cases hf
  intro H locs ls hlen hP hS hl
  exact lv_lconst hx hb hd hv (hg H locs ls hlen hP hS hl)
theorem ar_ldc2 (C : am_Cx p R s m args meth c cc nL Ts own D cl ρ kc fts len) {index : Nat} {v : Int64} (hd : decode cc pc = .ok (.ldc2_w index, 3)) (hc : Jvm.Cond.constantLong own index v ∈ Ts) : am_Row (am_J p l e R s m args below meth c nL D cl ρ kc len Q) K pc (af_lconst v 3) := by
  obtain ⟨hx, hb, hml, hown, hts, hK, hinj, hlk, hfr, hlo⟩ := C
  intro st x hpc hf hg
  obtain ⟨pc0, lv, sk, h⟩ := st
  cases hpc
  cases hf
  intro H locs ls hlen hP hS hl
  exact lv_ldc2 hx hb hown (hts _ hc) hd (hg H locs ls hlen hP hS hl)
def af_iload (i n : Nat) : am_F := fun st => match am_get st.2.1 i with
  | some (.int x) => am_go (st.1 + n, st.2.1, .int x :: st.2.2.1, st.2.2.2)
  | _ => none
theorem ar_iload_n (C : am_Cx p R s m args meth c cc nL Ts own D cl ρ kc fts len) {k : Fin 4} {i : Nat} (hd : decode cc pc = .ok (.iload_n k, 1)) (hi : (k : Nat) = i) : am_Row (am_J p l e R s m args below meth c nL D cl ρ kc len Q) K pc (af_iload i 1) := by
  obtain ⟨hx, hb, hml, hown, hts, hK, hinj, hlk, hfr, hlo⟩ := C
  intro st x hpc hf hg
  obtain ⟨pc0, lv, sk, h⟩ := st
  cases hpc
  simp only [af_iload] at hf
  split at hf
  · rename_i x hx1
    cases hf
    intro H locs ls hlen hP hS hl
    exact lv_iload_n hx hb hd hi (am_at hl hx1) (hg H locs ls hlen hP hS hl)
  · cases hf
theorem ar_iload (C : am_Cx p R s m args meth c cc nL Ts own D cl ρ kc fts len) {i : Nat} (hd : decode cc pc = .ok (.iload i, 2))  : am_Row (am_J p l e R s m args below meth c nL D cl ρ kc len Q) K pc (af_iload i 2) := by
  obtain ⟨hx, hb, hml, hown, hts, hK, hinj, hlk, hfr, hlo⟩ := C
  intro st x hpc hf hg
  obtain ⟨pc0, lv, sk, h⟩ := st
  cases hpc
  simp only [af_iload] at hf
  split at hf
  · rename_i x hx1
    cases hf
    intro H locs ls hlen hP hS hl
    exact lv_iload hx hb hd (am_at hl hx1) (hg H locs ls hlen hP hS hl)
  · cases hf
def af_lload (i n : Nat) : am_F := fun st => match am_get st.2.1 i with
  | some (.long x) => am_go (st.1 + n, st.2.1, .long x :: st.2.2.1, st.2.2.2)
  | _ => none
theorem ar_lload_n (C : am_Cx p R s m args meth c cc nL Ts own D cl ρ kc fts len) {k : Fin 4} {i : Nat} (hd : decode cc pc = .ok (.lload_n k, 1)) (hi : (k : Nat) = i) : am_Row (am_J p l e R s m args below meth c nL D cl ρ kc len Q) K pc (af_lload i 1) := by
  obtain ⟨hx, hb, hml, hown, hts, hK, hinj, hlk, hfr, hlo⟩ := C
  intro st x hpc hf hg
  obtain ⟨pc0, lv, sk, h⟩ := st
  cases hpc
  simp only [af_lload] at hf
  split at hf
  · rename_i x hx1
    cases hf
    intro H locs ls hlen hP hS hl
    exact lv_lload_n hx hb hd hi (am_at hl hx1) (hg H locs ls hlen hP hS hl)
  · cases hf
theorem ar_lload (C : am_Cx p R s m args meth c cc nL Ts own D cl ρ kc fts len) {i : Nat} (hd : decode cc pc = .ok (.lload i, 2))  : am_Row (am_J p l e R s m args below meth c nL D cl ρ kc len Q) K pc (af_lload i 2) := by
  obtain ⟨hx, hb, hml, hown, hts, hK, hinj, hlk, hfr, hlo⟩ := C
  intro st x hpc hf hg
  obtain ⟨pc0, lv, sk, h⟩ := st
  cases hpc
  simp only [af_lload] at hf
  split at hf
  · rename_i x hx1
    cases hf
    intro H locs ls hlen hP hS hl
    exact lv_lload hx hb hd (am_at hl hx1) (hg H locs ls hlen hP hS hl)
  · cases hf
def af_aload (i n : Nat) : am_F := fun st => match am_get st.2.1 i with
  | some (.ref x) => am_go (st.1 + n, st.2.1, .ref x :: st.2.2.1, st.2.2.2)
  | _ => none
theorem ar_aload_n (C : am_Cx p R s m args meth c cc nL Ts own D cl ρ kc fts len) {k : Fin 4} {i : Nat} (hd : decode cc pc = .ok (.aload_n k, 1)) (hi : (k : Nat) = i) : am_Row (am_J p l e R s m args below meth c nL D cl ρ kc len Q) K pc (af_aload i 1) := by
  obtain ⟨hx, hb, hml, hown, hts, hK, hinj, hlk, hfr, hlo⟩ := C
  intro st x hpc hf hg
  obtain ⟨pc0, lv, sk, h⟩ := st
  cases hpc
  simp only [af_aload] at hf
  split at hf
  · rename_i x hx1
    cases hf
    intro H locs ls hlen hP hS hl
    exact lv_aload_n hx hb hd hi (am_at hl hx1) (hg H locs ls hlen hP hS hl)
  · cases hf
theorem ar_aload (C : am_Cx p R s m args meth c cc nL Ts own D cl ρ kc fts len) {i : Nat} (hd : decode cc pc = .ok (.aload i, 2))  : am_Row (am_J p l e R s m args below meth c nL D cl ρ kc len Q) K pc (af_aload i 2) := by
  obtain ⟨hx, hb, hml, hown, hts, hK, hinj, hlk, hfr, hlo⟩ := C
  intro st x hpc hf hg
  obtain ⟨pc0, lv, sk, h⟩ := st
  cases hpc
  simp only [af_aload] at hf
  split at hf
  · rename_i x hx1
    cases hf
    intro H locs ls hlen hP hS hl
    exact lv_aload hx hb hd (am_at hl hx1) (hg H locs ls hlen hP hS hl)
  · cases hf
def af_istore (i nL n : Nat) : am_F := fun st => match st.2.2.1, Nat.blt i nL with
  | .int x :: r, true => am_go (st.1 + n, am_set1 st.2.1 i (.int x), r, st.2.2.2)
  | _, _ => none
theorem ar_istore_n (C : am_Cx p R s m args meth c cc nL Ts own D cl ρ kc fts len) {k : Fin 4} {i : Nat} (hd : decode cc pc = .ok (.istore_n k, 1)) (hi : (k : Nat) = i) : am_Row (am_J p l e R s m args below meth c nL D cl ρ kc len Q) K pc (af_istore i nL 1) := by
  obtain ⟨hx, hb, hml, hown, hts, hK, hinj, hlk, hfr, hlo⟩ := C
  intro st x hpc hf hg
  obtain ⟨pc0, lv, sk, h⟩ := st
  cases hpc
  simp only [af_istore] at hf
  split at hf
  · rename_i x r hx2
    cases hf
    intro H locs ls hlen hP hS hl
    exact lv_istore_n hx hb hd hi hl (Nat.blt_eq.mp hx2) rfl (fun ls' hl' => hg H locs ls' hlen hP hS (am_st1 (v := .int x) hl'))
  · cases hf
theorem ar_istore (C : am_Cx p R s m args meth c cc nL Ts own D cl ρ kc fts len) {i : Nat} (hd : decode cc pc = .ok (.istore i, 2))  : am_Row (am_J p l e R s m args below meth c nL D cl ρ kc len Q) K pc (af_istore i nL 2) := by
  obtain ⟨hx, hb, hml, hown, hts, hK, hinj, hlk, hfr, hlo⟩ := C
  intro st x hpc hf hg
  obtain ⟨pc0, lv, sk, h⟩ := st
  cases hpc
  simp only [af_istore] at hf
  split at hf
  · rename_i x r hx2
    cases hf
    intro H locs ls hlen hP hS hl
    exact lv_istore hx hb hd hl (Nat.blt_eq.mp hx2) rfl (fun ls' hl' => hg H locs ls' hlen hP hS (am_st1 (v := .int x) hl'))
  · cases hf
def af_lstore (i nL n : Nat) : am_F := fun st => match st.2.2.1, Nat.blt (i + 1) nL with
  | .long x :: r, true => am_go (st.1 + n, am_set2 st.2.1 i (.long x), r, st.2.2.2)
  | _, _ => none
theorem ar_lstore_n (C : am_Cx p R s m args meth c cc nL Ts own D cl ρ kc fts len) {k : Fin 4} {i : Nat} (hd : decode cc pc = .ok (.lstore_n k, 1)) (hi : (k : Nat) = i) : am_Row (am_J p l e R s m args below meth c nL D cl ρ kc len Q) K pc (af_lstore i nL 1) := by
  obtain ⟨hx, hb, hml, hown, hts, hK, hinj, hlk, hfr, hlo⟩ := C
  intro st x hpc hf hg
  obtain ⟨pc0, lv, sk, h⟩ := st
  cases hpc
  simp only [af_lstore] at hf
  split at hf
  · rename_i x r hx2
    cases hf
    intro H locs ls hlen hP hS hl
    exact lv_lstore_n hx hb hd hi hl (Nat.blt_eq.mp hx2) rfl (fun ls' hl' => hg H locs ls' hlen hP hS (am_st2 (v := .long x) hl'))
  · cases hf
theorem ar_lstore (C : am_Cx p R s m args meth c cc nL Ts own D cl ρ kc fts len) {i : Nat} (hd : decode cc pc = .ok (.lstore i, 2))  : am_Row (am_J p l e R s m args below meth c nL D cl ρ kc len Q) K pc (af_lstore i nL 2) := by
  obtain ⟨hx, hb, hml, hown, hts, hK, hinj, hlk, hfr, hlo⟩ := C
  intro st x hpc hf hg
  obtain ⟨pc0, lv, sk, h⟩ := st
  cases hpc
  simp only [af_lstore] at hf
  split at hf
  · rename_i x r hx2
    cases hf
    intro H locs ls hlen hP hS hl
    exact lv_lstore hx hb hd hl (Nat.blt_eq.mp hx2) rfl (fun ls' hl' => hg H locs ls' hlen hP hS (am_st2 (v := .long x) hl'))
  · cases hf
def af_astore (i nL n : Nat) : am_F := fun st => match st.2.2.1, Nat.blt i nL with
  | .ref x :: r, true => am_go (st.1 + n, am_set1 st.2.1 i (.ref x), r, st.2.2.2)
  | _, _ => none
theorem ar_astore_n (C : am_Cx p R s m args meth c cc nL Ts own D cl ρ kc fts len) {k : Fin 4} {i : Nat} (hd : decode cc pc = .ok (.astore_n k, 1)) (hi : (k : Nat) = i) : am_Row (am_J p l e R s m args below meth c nL D cl ρ kc len Q) K pc (af_astore i nL 1) := by
  obtain ⟨hx, hb, hml, hown, hts, hK, hinj, hlk, hfr, hlo⟩ := C
  intro st x hpc hf hg
  obtain ⟨pc0, lv, sk, h⟩ := st
  cases hpc
  simp only [af_astore] at hf
  split at hf
  · rename_i x r hx2
    cases hf
    intro H locs ls hlen hP hS hl
    exact lv_astore_n hx hb hd hi hl (Nat.blt_eq.mp hx2) rfl (fun ls' hl' => hg H locs ls' hlen hP hS (am_st1 (v := .ref x) hl'))
  · cases hf
theorem ar_astore (C : am_Cx p R s m args meth c cc nL Ts own D cl ρ kc fts len) {i : Nat} (hd : decode cc pc = .ok (.astore i, 2))  : am_Row (am_J p l e R s m args below meth c nL D cl ρ kc len Q) K pc (af_astore i nL 2) := by
  obtain ⟨hx, hb, hml, hown, hts, hK, hinj, hlk, hfr, hlo⟩ := C
  intro st x hpc hf hg
  obtain ⟨pc0, lv, sk, h⟩ := st
  cases hpc
  simp only [af_astore] at hf
  split at hf
  · rename_i x r hx2
    cases hf
    intro H locs ls hlen hP hS hl
    exact lv_astore hx hb hd hl (Nat.blt_eq.mp hx2) rfl (fun ls' hl' => hg H locs ls' hlen hP hS (am_st1 (v := .ref x) hl'))
  · cases hf
def af_iinc (i : Nat) (d : Int32) (nL : Nat) : am_F := fun st => match am_get st.2.1 i, Nat.blt i nL with
  | some (.int x), true => am_go (st.1 + 3, am_set1 st.2.1 i (.int (x + d)), st.2.2.1, st.2.2.2)
  | _, _ => none
theorem ar_iinc (C : am_Cx p R s m args meth c cc nL Ts own D cl ρ kc fts len) {i : Nat} {n : Int} {d : Int32} (hd : decode cc pc = .ok (.iinc i n, 3)) (hv : Int32.ofInt n = d) : am_Row (am_J p l e R s m args below meth c nL D cl ρ kc len Q) K pc (af_iinc i d nL) := by
  obtain ⟨hx, hb, hml, hown, hts, hK, hinj, hlk, hfr, hlo⟩ := C
  intro st x hpc hf hg
  obtain ⟨pc0, lv, sk, h⟩ := st
  cases hpc
  subst hv
  simp only [af_iinc] at hf
  split at hf
  · rename_i x hx1 hx2
    cases hf
    intro H locs ls hlen hP hS hl
    obtain ⟨k, hk⟩ := List.getElem?_of_mem (List.mem_map.mpr ⟨(i, Value.int x), am_get_mem hx1, rfl⟩ : (i, am_v ρ (Value.int x)) ∈ am_l ρ lv)
    exact lv_iinc hx hb hd hl (k := k) hk rfl (Nat.blt_eq.mp hx2) rfl (fun ls' hl' => hg H locs ls' hlen hP hS (am_st1 (v := .int _) hl'))
  · cases hf
def af_iadd : am_F := fun st => match st.2.2.1 with
  | .int y :: .int x :: r => am_go (st.1 + 1, st.2.1, .int (x + y) :: r, st.2.2.2)
  | _ => none
theorem ar_iadd (C : am_Cx p R s m args meth c cc nL Ts own D cl ρ kc fts len) (hd : decode cc pc = .ok (.iadd, 1)) : am_Row (am_J p l e R s m args below meth c nL D cl ρ kc len Q) K pc (af_iadd) := by
  obtain ⟨hx, hb, hml, hown, hts, hK, hinj, hlk, hfr, hlo⟩ := C
  intro st x hpc hf hg
  obtain ⟨pc0, lv, sk, h⟩ := st
  cases hpc
  simp only [af_iadd] at hf
  split at hf
  · rename_i y x r
    cases hf
    intro H locs ls hlen hP hS hl
    exact lv_iadd hx hb hd (hg H locs ls hlen hP hS hl)
  · cases hf
def af_isub : am_F := fun st => match st.2.2.1 with
  | .int y :: .int x :: r => am_go (st.1 + 1, st.2.1, .int (x - y) :: r, st.2.2.2)
  | _ => none
theorem ar_isub (C : am_Cx p R s m args meth c cc nL Ts own D cl ρ kc fts len) (hd : decode cc pc = .ok (.isub, 1)) : am_Row (am_J p l e R s m args below meth c nL D cl ρ kc len Q) K pc (af_isub) := by
  obtain ⟨hx, hb, hml, hown, hts, hK, hinj, hlk, hfr, hlo⟩ := C
  intro st x hpc hf hg
  obtain ⟨pc0, lv, sk, h⟩ := st
  cases hpc
  simp only [af_isub] at hf
  split at hf
  · rename_i y x r
    cases hf
    intro H locs ls hlen hP hS hl
    exact lv_isub hx hb hd (hg H locs ls hlen hP hS hl)
  · cases hf
def af_imul : am_F := fun st => match st.2.2.1 with
  | .int y :: .int x :: r => am_go (st.1 + 1, st.2.1, .int (x * y) :: r, st.2.2.2)
  | _ => none
theorem ar_imul (C : am_Cx p R s m args meth c cc nL Ts own D cl ρ kc fts len) (hd : decode cc pc = .ok (.imul, 1)) : am_Row (am_J p l e R s m args below meth c nL D cl ρ kc len Q) K pc (af_imul) := by
  obtain ⟨hx, hb, hml, hown, hts, hK, hinj, hlk, hfr, hlo⟩ := C
  intro st x hpc hf hg
  obtain ⟨pc0, lv, sk, h⟩ := st
  cases hpc
  simp only [af_imul] at hf
  split at hf
  · rename_i y x r
    cases hf
    intro H locs ls hlen hP hS hl
    exact lv_imul hx hb hd (hg H locs ls hlen hP hS hl)
  · cases hf
def af_iand : am_F := fun st => match st.2.2.1 with
  | .int y :: .int x :: r => am_go (st.1 + 1, st.2.1, .int (x &&& y) :: r, st.2.2.2)
  | _ => none
theorem ar_iand (C : am_Cx p R s m args meth c cc nL Ts own D cl ρ kc fts len) (hd : decode cc pc = .ok (.iand, 1)) : am_Row (am_J p l e R s m args below meth c nL D cl ρ kc len Q) K pc (af_iand) := by
  obtain ⟨hx, hb, hml, hown, hts, hK, hinj, hlk, hfr, hlo⟩ := C
  intro st x hpc hf hg
  obtain ⟨pc0, lv, sk, h⟩ := st
  cases hpc
  simp only [af_iand] at hf
  split at hf
  · rename_i y x r
    cases hf
    intro H locs ls hlen hP hS hl
    exact lv_iand hx hb hd (hg H locs ls hlen hP hS hl)
  · cases hf
def af_ior : am_F := fun st => match st.2.2.1 with
  | .int y :: .int x :: r => am_go (st.1 + 1, st.2.1, .int (x ||| y) :: r, st.2.2.2)
  | _ => none
theorem ar_ior (C : am_Cx p R s m args meth c cc nL Ts own D cl ρ kc fts len) (hd : decode cc pc = .ok (.ior, 1)) : am_Row (am_J p l e R s m args below meth c nL D cl ρ kc len Q) K pc (af_ior) := by
  obtain ⟨hx, hb, hml, hown, hts, hK, hinj, hlk, hfr, hlo⟩ := C
  intro st x hpc hf hg
  obtain ⟨pc0, lv, sk, h⟩ := st
  cases hpc
  simp only [af_ior] at hf
  split at hf
  · rename_i y x r
    cases hf
    intro H locs ls hlen hP hS hl
    exact lv_ior hx hb hd (hg H locs ls hlen hP hS hl)
  · cases hf
def af_ixor : am_F := fun st => match st.2.2.1 with
  | .int y :: .int x :: r => am_go (st.1 + 1, st.2.1, .int (x ^^^ y) :: r, st.2.2.2)
  | _ => none
theorem ar_ixor (C : am_Cx p R s m args meth c cc nL Ts own D cl ρ kc fts len) (hd : decode cc pc = .ok (.ixor, 1)) : am_Row (am_J p l e R s m args below meth c nL D cl ρ kc len Q) K pc (af_ixor) := by
  obtain ⟨hx, hb, hml, hown, hts, hK, hinj, hlk, hfr, hlo⟩ := C
  intro st x hpc hf hg
  obtain ⟨pc0, lv, sk, h⟩ := st
  cases hpc
  simp only [af_ixor] at hf
  split at hf
  · rename_i y x r
    cases hf
    intro H locs ls hlen hP hS hl
    exact lv_ixor hx hb hd (hg H locs ls hlen hP hS hl)
  · cases hf
def af_ishl : am_F := fun st => match st.2.2.1 with
  | .int y :: .int x :: r => am_go (st.1 + 1, st.2.1, .int (x <<< (y &&& 31)) :: r, st.2.2.2)
  | _ => none
theorem ar_ishl (C : am_Cx p R s m args meth c cc nL Ts own D cl ρ kc fts len) (hd : decode cc pc = .ok (.ishl, 1)) : am_Row (am_J p l e R s m args below meth c nL D cl ρ kc len Q) K pc (af_ishl) := by
  obtain ⟨hx, hb, hml, hown, hts, hK, hinj, hlk, hfr, hlo⟩ := C
  intro st x hpc hf hg
  obtain ⟨pc0, lv, sk, h⟩ := st
  cases hpc
  simp only [af_ishl] at hf
  split at hf
  · rename_i y x r
    cases hf
    intro H locs ls hlen hP hS hl
    exact lv_ishl hx hb hd (hg H locs ls hlen hP hS hl)
  · cases hf
def af_ishr : am_F := fun st => match st.2.2.1 with
  | .int y :: .int x :: r => am_go (st.1 + 1, st.2.1, .int (x >>> (y &&& 31)) :: r, st.2.2.2)
  | _ => none
theorem ar_ishr (C : am_Cx p R s m args meth c cc nL Ts own D cl ρ kc fts len) (hd : decode cc pc = .ok (.ishr, 1)) : am_Row (am_J p l e R s m args below meth c nL D cl ρ kc len Q) K pc (af_ishr) := by
  obtain ⟨hx, hb, hml, hown, hts, hK, hinj, hlk, hfr, hlo⟩ := C
  intro st x hpc hf hg
  obtain ⟨pc0, lv, sk, h⟩ := st
  cases hpc
  simp only [af_ishr] at hf
  split at hf
  · rename_i y x r
    cases hf
    intro H locs ls hlen hP hS hl
    exact lv_ishr hx hb hd (hg H locs ls hlen hP hS hl)
  · cases hf
def af_iushr : am_F := fun st => match st.2.2.1 with
  | .int y :: .int x :: r => am_go (st.1 + 1, st.2.1, .int ((x.toUInt32 >>> (y.toUInt32 &&& Int32.toUInt32 31)).toInt32) :: r, st.2.2.2)
  | _ => none
theorem ar_iushr (C : am_Cx p R s m args meth c cc nL Ts own D cl ρ kc fts len) (hd : decode cc pc = .ok (.iushr, 1)) : am_Row (am_J p l e R s m args below meth c nL D cl ρ kc len Q) K pc (af_iushr) := by
  obtain ⟨hx, hb, hml, hown, hts, hK, hinj, hlk, hfr, hlo⟩ := C
  intro st x hpc hf hg
  obtain ⟨pc0, lv, sk, h⟩ := st
  cases hpc
  simp only [af_iushr] at hf
  split at hf
  · rename_i y x r
    cases hf
    intro H locs ls hlen hP hS hl
    exact lv_iushr hx hb hd rfl (hg H locs ls hlen hP hS hl)
  · cases hf
def af_idiv : am_F := fun st => match st.2.2.1 with
  | .int y :: .int x :: r => am_gd (decide (¬ y = 0)) (st.1 + 1, st.2.1, .int (x / y) :: r, st.2.2.2)
  | _ => none
theorem ar_idiv (C : am_Cx p R s m args meth c cc nL Ts own D cl ρ kc fts len) (hd : decode cc pc = .ok (.idiv, 1)) : am_Row (am_J p l e R s m args below meth c nL D cl ρ kc len Q) K pc (af_idiv) := by
  obtain ⟨hx, hb, hml, hown, hts, hK, hinj, hlk, hfr, hlo⟩ := C
  intro st x hpc hf hg
  obtain ⟨pc0, lv, sk, h⟩ := st
  cases hpc
  simp only [af_idiv] at hf
  split at hf
  · rename_i y x r
    cases hf
    intro H locs ls hlen hP hS hl
    exact lv_idiv hx hb hd (of_decide_eq_true hg.1) (hg.2 H locs ls hlen hP hS hl)
  · cases hf
def af_irem : am_F := fun st => match st.2.2.1 with
  | .int y :: .int x :: r => am_gd (decide (¬ y = 0)) (st.1 + 1, st.2.1, .int (x - x / y * y) :: r, st.2.2.2)
  | _ => none
theorem ar_irem (C : am_Cx p R s m args meth c cc nL Ts own D cl ρ kc fts len) (hd : decode cc pc = .ok (.irem, 1)) : am_Row (am_J p l e R s m args below meth c nL D cl ρ kc len Q) K pc (af_irem) := by
  obtain ⟨hx, hb, hml, hown, hts, hK, hinj, hlk, hfr, hlo⟩ := C
  intro st x hpc hf hg
  obtain ⟨pc0, lv, sk, h⟩ := st
  cases hpc
  simp only [af_irem] at hf
  split at hf
  · rename_i y x r
    cases hf
    intro H locs ls hlen hP hS hl
    exact lv_irem hx hb hd (of_decide_eq_true hg.1) (hg.2 H locs ls hlen hP hS hl)
  · cases hf
def af_ladd : am_F := fun st => match st.2.2.1 with
  | .long y :: .long x :: r => am_go (st.1 + 1, st.2.1, .long (x + y) :: r, st.2.2.2)
  | _ => none
theorem ar_ladd (C : am_Cx p R s m args meth c cc nL Ts own D cl ρ kc fts len) (hd : decode cc pc = .ok (.ladd, 1)) : am_Row (am_J p l e R s m args below meth c nL D cl ρ kc len Q) K pc (af_ladd) := by
  obtain ⟨hx, hb, hml, hown, hts, hK, hinj, hlk, hfr, hlo⟩ := C
  intro st x hpc hf hg
  obtain ⟨pc0, lv, sk, h⟩ := st
  cases hpc
  simp only [af_ladd] at hf
  split at hf
  · rename_i y x r
    cases hf
    intro H locs ls hlen hP hS hl
    exact lv_ladd hx hb hd (hg H locs ls hlen hP hS hl)
  · cases hf
def af_lsub : am_F := fun st => match st.2.2.1 with
  | .long y :: .long x :: r => am_go (st.1 + 1, st.2.1, .long (x - y) :: r, st.2.2.2)
  | _ => none
theorem ar_lsub (C : am_Cx p R s m args meth c cc nL Ts own D cl ρ kc fts len) (hd : decode cc pc = .ok (.lsub, 1)) : am_Row (am_J p l e R s m args below meth c nL D cl ρ kc len Q) K pc (af_lsub) := by
  obtain ⟨hx, hb, hml, hown, hts, hK, hinj, hlk, hfr, hlo⟩ := C
  intro st x hpc hf hg
  obtain ⟨pc0, lv, sk, h⟩ := st
  cases hpc
  simp only [af_lsub] at hf
  split at hf
  · rename_i y x r
    cases hf
    intro H locs ls hlen hP hS hl
    exact lv_lsub hx hb hd (hg H locs ls hlen hP hS hl)
  · cases hf
def af_lmul : am_F := fun st => match st.2.2.1 with
  | .long y :: .long x :: r => am_go (st.1 + 1, st.2.1, .long (x * y) :: r, st.2.2.2)
  | _ => none
theorem ar_lmul (C : am_Cx p R s m args meth c cc nL Ts own D cl ρ kc fts len) (hd : decode cc pc = .ok (.lmul, 1)) : am_Row (am_J p l e R s m args below meth c nL D cl ρ kc len Q) K pc (af_lmul) := by
  obtain ⟨hx, hb, hml, hown, hts, hK, hinj, hlk, hfr, hlo⟩ := C
  intro st x hpc hf hg
  obtain ⟨pc0, lv, sk, h⟩ := st
  cases hpc
  simp only [af_lmul] at hf
  split at hf
  · rename_i y x r
    cases hf
    intro H locs ls hlen hP hS hl
    exact lv_lmul hx hb hd (hg H locs ls hlen hP hS hl)
  · cases hf
def af_land : am_F := fun st => match st.2.2.1 with
  | .long y :: .long x :: r => am_go (st.1 + 1, st.2.1, .long (x &&& y) :: r, st.2.2.2)
  | _ => none
theorem ar_land (C : am_Cx p R s m args meth c cc nL Ts own D cl ρ kc fts len) (hd : decode cc pc = .ok (.land, 1)) : am_Row (am_J p l e R s m args below meth c nL D cl ρ kc len Q) K pc (af_land) := by
  obtain ⟨hx, hb, hml, hown, hts, hK, hinj, hlk, hfr, hlo⟩ := C
  intro st x hpc hf hg
  obtain ⟨pc0, lv, sk, h⟩ := st
  cases hpc
  simp only [af_land] at hf
  split at hf
  · rename_i y x r
    cases hf
    intro H locs ls hlen hP hS hl
    exact lv_land hx hb hd (hg H locs ls hlen hP hS hl)
  · cases hf
def af_lor : am_F := fun st => match st.2.2.1 with
  | .long y :: .long x :: r => am_go (st.1 + 1, st.2.1, .long (x ||| y) :: r, st.2.2.2)
  | _ => none
theorem ar_lor (C : am_Cx p R s m args meth c cc nL Ts own D cl ρ kc fts len) (hd : decode cc pc = .ok (.lor, 1)) : am_Row (am_J p l e R s m args below meth c nL D cl ρ kc len Q) K pc (af_lor) := by
  obtain ⟨hx, hb, hml, hown, hts, hK, hinj, hlk, hfr, hlo⟩ := C
  intro st x hpc hf hg
  obtain ⟨pc0, lv, sk, h⟩ := st
  cases hpc
  simp only [af_lor] at hf
  split at hf
  · rename_i y x r
    cases hf
    intro H locs ls hlen hP hS hl
    exact lv_lor hx hb hd (hg H locs ls hlen hP hS hl)
  · cases hf
def af_lxor : am_F := fun st => match st.2.2.1 with
  | .long y :: .long x :: r => am_go (st.1 + 1, st.2.1, .long (x ^^^ y) :: r, st.2.2.2)
  | _ => none
theorem ar_lxor (C : am_Cx p R s m args meth c cc nL Ts own D cl ρ kc fts len) (hd : decode cc pc = .ok (.lxor, 1)) : am_Row (am_J p l e R s m args below meth c nL D cl ρ kc len Q) K pc (af_lxor) := by
  obtain ⟨hx, hb, hml, hown, hts, hK, hinj, hlk, hfr, hlo⟩ := C
  intro st x hpc hf hg
  obtain ⟨pc0, lv, sk, h⟩ := st
  cases hpc
  simp only [af_lxor] at hf
  split at hf
  · rename_i y x r
    cases hf
    intro H locs ls hlen hP hS hl
    exact lv_lxor hx hb hd (hg H locs ls hlen hP hS hl)
  · cases hf
def af_lshl : am_F := fun st => match st.2.2.1 with
  | .int y :: .long x :: r => am_go (st.1 + 1, st.2.1, .long (x <<< (y.toInt64 &&& 63)) :: r, st.2.2.2)
  | _ => none
theorem ar_lshl (C : am_Cx p R s m args meth c cc nL Ts own D cl ρ kc fts len) (hd : decode cc pc = .ok (.lshl, 1)) : am_Row (am_J p l e R s m args below meth c nL D cl ρ kc len Q) K pc (af_lshl) := by
  obtain ⟨hx, hb, hml, hown, hts, hK, hinj, hlk, hfr, hlo⟩ := C
  intro st x hpc hf hg
  obtain ⟨pc0, lv, sk, h⟩ := st
  cases hpc
  simp only [af_lshl] at hf
  split at hf
  · rename_i y x r
    cases hf
    intro H locs ls hlen hP hS hl
    exact lv_lshl hx hb hd rfl (hg H locs ls hlen hP hS hl)
  · cases hf
def af_lshr : am_F := fun st => match st.2.2.1 with
  | .int y :: .long x :: r => am_go (st.1 + 1, st.2.1, .long (x >>> (y.toInt64 &&& 63)) :: r, st.2.2.2)
  | _ => none
theorem ar_lshr (C : am_Cx p R s m args meth c cc nL Ts own D cl ρ kc fts len) (hd : decode cc pc = .ok (.lshr, 1)) : am_Row (am_J p l e R s m args below meth c nL D cl ρ kc len Q) K pc (af_lshr) := by
  obtain ⟨hx, hb, hml, hown, hts, hK, hinj, hlk, hfr, hlo⟩ := C
  intro st x hpc hf hg
  obtain ⟨pc0, lv, sk, h⟩ := st
  cases hpc
  simp only [af_lshr] at hf
  split at hf
  · rename_i y x r
    cases hf
    intro H locs ls hlen hP hS hl
    exact lv_lshr hx hb hd rfl (hg H locs ls hlen hP hS hl)
  · cases hf
def af_lushr : am_F := fun st => match st.2.2.1 with
  | .int y :: .long x :: r => am_go (st.1 + 1, st.2.1, .long ((x.toUInt64 >>> (y.toInt64.toUInt64 &&& Int64.toUInt64 63)).toInt64) :: r, st.2.2.2)
  | _ => none
theorem ar_lushr (C : am_Cx p R s m args meth c cc nL Ts own D cl ρ kc fts len) (hd : decode cc pc = .ok (.lushr, 1)) : am_Row (am_J p l e R s m args below meth c nL D cl ρ kc len Q) K pc (af_lushr) := by
  obtain ⟨hx, hb, hml, hown, hts, hK, hinj, hlk, hfr, hlo⟩ := C
  intro st x hpc hf hg
  obtain ⟨pc0, lv, sk, h⟩ := st
  cases hpc
  simp only [af_lushr] at hf
  split at hf
  · rename_i y x r
    cases hf
    intro H locs ls hlen hP hS hl
    exact lv_lushr hx hb hd rfl (hg H locs ls hlen hP hS hl)
  · cases hf
def af_lcmp : am_F := fun st => match st.2.2.1 with
  | .long y :: .long x :: r => am_go (st.1 + 1, st.2.1, .int (lg_cmp x y) :: r, st.2.2.2)
  | _ => none
theorem ar_lcmp (C : am_Cx p R s m args meth c cc nL Ts own D cl ρ kc fts len) (hd : decode cc pc = .ok (.lcmp, 1)) : am_Row (am_J p l e R s m args below meth c nL D cl ρ kc len Q) K pc (af_lcmp) := by
  obtain ⟨hx, hb, hml, hown, hts, hK, hinj, hlk, hfr, hlo⟩ := C
  intro st x hpc hf hg
  obtain ⟨pc0, lv, sk, h⟩ := st
  cases hpc
  simp only [af_lcmp] at hf
  split at hf
  · rename_i y x r
    cases hf
    intro H locs ls hlen hP hS hl
    exact W.lcmp hx hb hd (hg H locs ls hlen hP hS hl)
  · cases hf
def af_ineg : am_F := fun st => match st.2.2.1 with
  | .int x :: r => am_go (st.1 + 1, st.2.1, .int (-x) :: r, st.2.2.2)
  | _ => none
theorem ar_ineg (C : am_Cx p R s m args meth c cc nL Ts own D cl ρ kc fts len) (hd : decode cc pc = .ok (.ineg, 1)) : am_Row (am_J p l e R s m args below meth c nL D cl ρ kc len Q) K pc (af_ineg) := by
  obtain ⟨hx, hb, hml, hown, hts, hK, hinj, hlk, hfr, hlo⟩ := C
  intro st x hpc hf hg
  obtain ⟨pc0, lv, sk, h⟩ := st
  cases hpc
  simp only [af_ineg] at hf
  split at hf
  · rename_i x r
    cases hf
    intro H locs ls hlen hP hS hl
    exact lv_ineg hx hb hd (hg H locs ls hlen hP hS hl)
  · cases hf
def af_i2l : am_F := fun st => match st.2.2.1 with
  | .int x :: r => am_go (st.1 + 1, st.2.1, .long (x.toInt64) :: r, st.2.2.2)
  | _ => none
theorem ar_i2l (C : am_Cx p R s m args meth c cc nL Ts own D cl ρ kc fts len) (hd : decode cc pc = .ok (.i2l, 1)) : am_Row (am_J p l e R s m args below meth c nL D cl ρ kc len Q) K pc (af_i2l) := by
  obtain ⟨hx, hb, hml, hown, hts, hK, hinj, hlk, hfr, hlo⟩ := C
  intro st x hpc hf hg
  obtain ⟨pc0, lv, sk, h⟩ := st
  cases hpc
  simp only [af_i2l] at hf
  split at hf
  · rename_i x r
    cases hf
    intro H locs ls hlen hP hS hl
    exact lv_i2l hx hb hd rfl (hg H locs ls hlen hP hS hl)
  · cases hf
def af_l2i : am_F := fun st => match st.2.2.1 with
  | .long x :: r => am_go (st.1 + 1, st.2.1, .int (x.toInt32) :: r, st.2.2.2)
  | _ => none
theorem ar_l2i (C : am_Cx p R s m args meth c cc nL Ts own D cl ρ kc fts len) (hd : decode cc pc = .ok (.l2i, 1)) : am_Row (am_J p l e R s m args below meth c nL D cl ρ kc len Q) K pc (af_l2i) := by
  obtain ⟨hx, hb, hml, hown, hts, hK, hinj, hlk, hfr, hlo⟩ := C
  intro st x hpc hf hg
  obtain ⟨pc0, lv, sk, h⟩ := st
  cases hpc
  simp only [af_l2i] at hf
  split at hf
  · rename_i x r
    cases hf
    intro H locs ls hlen hP hS hl
    exact lv_l2i hx hb hd rfl (hg H locs ls hlen hP hS hl)
  · cases hf
def af_i2b : am_F := fun st => match st.2.2.1 with
  | .int x :: r => am_go (st.1 + 1, st.2.1, .int (x.toInt8.toInt32) :: r, st.2.2.2)
  | _ => none
theorem ar_i2b (C : am_Cx p R s m args meth c cc nL Ts own D cl ρ kc fts len) (hd : decode cc pc = .ok (.i2b, 1)) : am_Row (am_J p l e R s m args below meth c nL D cl ρ kc len Q) K pc (af_i2b) := by
  obtain ⟨hx, hb, hml, hown, hts, hK, hinj, hlk, hfr, hlo⟩ := C
  intro st x hpc hf hg
  obtain ⟨pc0, lv, sk, h⟩ := st
  cases hpc
  simp only [af_i2b] at hf
  split at hf
  · rename_i x r
    cases hf
    intro H locs ls hlen hP hS hl
    exact lv_i2b hx hb hd rfl (hg H locs ls hlen hP hS hl)
  · cases hf
def af_i2c : am_F := fun st => match st.2.2.1 with
  | .int x :: r => am_go (st.1 + 1, st.2.1, .int ((x.toUInt32 % 65536).toInt32) :: r, st.2.2.2)
  | _ => none
theorem ar_i2c (C : am_Cx p R s m args meth c cc nL Ts own D cl ρ kc fts len) (hd : decode cc pc = .ok (.i2c, 1)) : am_Row (am_J p l e R s m args below meth c nL D cl ρ kc len Q) K pc (af_i2c) := by
  obtain ⟨hx, hb, hml, hown, hts, hK, hinj, hlk, hfr, hlo⟩ := C
  intro st x hpc hf hg
  obtain ⟨pc0, lv, sk, h⟩ := st
  cases hpc
  simp only [af_i2c] at hf
  split at hf
  · rename_i x r
    cases hf
    intro H locs ls hlen hP hS hl
    exact lv_i2c hx hb hd rfl (hg H locs ls hlen hP hS hl)
  · cases hf
def af_dup : am_F := fun st => match st.2.2.1 with
  | a :: r => match Nat.beq a.category 1 with
    | true => am_go (st.1 + 1, st.2.1, a :: a :: r, st.2.2.2)
    | _ => none
  | _ => none
theorem ar_dup (C : am_Cx p R s m args meth c cc nL Ts own D cl ρ kc fts len) (hd : decode cc pc = .ok (.dup, 1)) : am_Row (am_J p l e R s m args below meth c nL D cl ρ kc len Q) K pc (af_dup) := by
  obtain ⟨hx, hb, hml, hown, hts, hK, hinj, hlk, hfr, hlo⟩ := C
  intro st x hpc hf hg
  obtain ⟨pc0, lv, sk, h⟩ := st
  cases hpc
  simp only [af_dup] at hf
  split at hf
  · rename_i a r
    split at hf
    · rename_i hc0
      cases hf
      intro H locs ls hlen hP hS hl
      exact lv_dup hx hb hd (by rw [am_cat]; exact Nat.eq_of_beq_eq_true hc0) (hg H locs ls hlen hP hS hl)
    · cases hf
  · cases hf
def af_pop : am_F := fun st => match st.2.2.1 with
  | a :: r => match Nat.beq a.category 1 with
    | true => am_go (st.1 + 1, st.2.1,  r, st.2.2.2)
    | _ => none
  | _ => none
theorem ar_pop (C : am_Cx p R s m args meth c cc nL Ts own D cl ρ kc fts len) (hd : decode cc pc = .ok (.pop, 1)) : am_Row (am_J p l e R s m args below meth c nL D cl ρ kc len Q) K pc (af_pop) := by
  obtain ⟨hx, hb, hml, hown, hts, hK, hinj, hlk, hfr, hlo⟩ := C
  intro st x hpc hf hg
  obtain ⟨pc0, lv, sk, h⟩ := st
  cases hpc
  simp only [af_pop] at hf
  split at hf
  · rename_i a r
    split at hf
    · rename_i hc0
      cases hf
      intro H locs ls hlen hP hS hl
      exact lv_pop hx hb hd (by rw [am_cat]; exact Nat.eq_of_beq_eq_true hc0) (hg H locs ls hlen hP hS hl)
    · cases hf
  · cases hf
def af_dup_x1 : am_F := fun st => match st.2.2.1 with
  | a :: b :: r => match Nat.beq a.category 1, Nat.beq b.category 1 with
    | true, true => am_go (st.1 + 1, st.2.1, a :: b :: a :: r, st.2.2.2)
    | _, _ => none
  | _ => none
theorem ar_dup_x1 (C : am_Cx p R s m args meth c cc nL Ts own D cl ρ kc fts len) (hd : decode cc pc = .ok (.dup_x1, 1)) : am_Row (am_J p l e R s m args below meth c nL D cl ρ kc len Q) K pc (af_dup_x1) := by
  obtain ⟨hx, hb, hml, hown, hts, hK, hinj, hlk, hfr, hlo⟩ := C
  intro st x hpc hf hg
  obtain ⟨pc0, lv, sk, h⟩ := st
  cases hpc
  simp only [af_dup_x1] at hf
  split at hf
  · rename_i a b r
    split at hf
    · rename_i hc0 hc1
      cases hf
      intro H locs ls hlen hP hS hl
      exact lv_dup_x1 hx hb hd (by rw [am_cat]; exact Nat.eq_of_beq_eq_true hc0) (by rw [am_cat]; exact Nat.eq_of_beq_eq_true hc1) (hg H locs ls hlen hP hS hl)
    · cases hf
  · cases hf
def af_dup2_11 : am_F := fun st => match st.2.2.1 with
  | a :: b :: r => match Nat.beq a.category 1, Nat.beq b.category 1 with
    | true, true => am_go (st.1 + 1, st.2.1, a :: b :: a :: b :: r, st.2.2.2)
    | _, _ => none
  | _ => none
theorem ar_dup2_11 (C : am_Cx p R s m args meth c cc nL Ts own D cl ρ kc fts len) (hd : decode cc pc = .ok (.dup2, 1)) : am_Row (am_J p l e R s m args below meth c nL D cl ρ kc len Q) K pc (af_dup2_11) := by
  obtain ⟨hx, hb, hml, hown, hts, hK, hinj, hlk, hfr, hlo⟩ := C
  intro st x hpc hf hg
  obtain ⟨pc0, lv, sk, h⟩ := st
  cases hpc
  simp only [af_dup2_11] at hf
  split at hf
  · rename_i a b r
    split at hf
    · rename_i hc0 hc1
      cases hf
      intro H locs ls hlen hP hS hl
      exact lv_dup2_11 hx hb hd (by rw [am_cat]; exact Nat.eq_of_beq_eq_true hc0) (by rw [am_cat]; exact Nat.eq_of_beq_eq_true hc1) (hg H locs ls hlen hP hS hl)
    · cases hf
  · cases hf
def af_icmp_eq (tgt : Nat) : am_F := fun st => match st.2.2.1 with
  | .int y :: .int x :: r => am_br [(decide (x = y), (tgt, st.2.1, r, st.2.2.2))] (st.1 + 3, st.2.1, r, st.2.2.2)
  | _ => none
theorem ar_icmp_eq (C : am_Cx p R s m args meth c cc nL Ts own D cl ρ kc fts len) {off : Int} {tgt : Nat} (hd : decode cc pc = .ok (.if_icmp .eq off, 3)) (ht : (pc : Int) + off = (tgt : Int)) : am_Row (am_J p l e R s m args below meth c nL D cl ρ kc len Q) K pc (af_icmp_eq tgt) := by
  obtain ⟨hx, hb, hml, hown, hts, hK, hinj, hlk, hfr, hlo⟩ := C
  intro st x hpc hf hg
  obtain ⟨pc0, lv, sk, h⟩ := st
  cases hpc
  simp only [af_icmp_eq] at hf
  split at hf
  · rename_i y x r
    cases hf
    intro H locs ls hlen hP hS hl
    exact lv_icmp_eq hx hb hd ht (fun hc => (hg.1 (true, (tgt, lv, r, h)) (by simp only [hc, decide_true, List.find?_cons]) : am_J p l e R s m args below meth c nL D cl ρ kc len Q (tgt, lv, r, h)) H locs ls hlen hP hS hl) (fun hc => (hg.2 (by simp only [hc, decide_false, List.find?_cons, List.find?_nil]) : am_J p l e R s m args below meth c nL D cl ρ kc len Q (pc0 + 3, lv, r, h)) H locs ls hlen hP hS hl)
  · cases hf
def af_icmp_ne (tgt : Nat) : am_F := fun st => match st.2.2.1 with
  | .int y :: .int x :: r => am_br [(decide (x = y), (st.1 + 3, st.2.1, r, st.2.2.2))] (tgt, st.2.1, r, st.2.2.2)
  | _ => none
theorem ar_icmp_ne (C : am_Cx p R s m args meth c cc nL Ts own D cl ρ kc fts len) {off : Int} {tgt : Nat} (hd : decode cc pc = .ok (.if_icmp .ne off, 3)) (ht : (pc : Int) + off = (tgt : Int)) : am_Row (am_J p l e R s m args below meth c nL D cl ρ kc len Q) K pc (af_icmp_ne tgt) := by
  obtain ⟨hx, hb, hml, hown, hts, hK, hinj, hlk, hfr, hlo⟩ := C
  intro st x hpc hf hg
  obtain ⟨pc0, lv, sk, h⟩ := st
  cases hpc
  simp only [af_icmp_ne] at hf
  split at hf
  · rename_i y x r
    cases hf
    intro H locs ls hlen hP hS hl
    exact lv_icmp_ne hx hb hd ht (fun hc => (hg.2 (by simp only [hc, decide_false, List.find?_cons, List.find?_nil]) : am_J p l e R s m args below meth c nL D cl ρ kc len Q (tgt, lv, r, h)) H locs ls hlen hP hS hl) (fun hc => (hg.1 (true, (pc0 + 3, lv, r, h)) (by simp only [hc, decide_true, List.find?_cons]) : am_J p l e R s m args below meth c nL D cl ρ kc len Q (pc0 + 3, lv, r, h)) H locs ls hlen hP hS hl)
  · cases hf
def af_icmp_lt (tgt : Nat) : am_F := fun st => match st.2.2.1 with
  | .int y :: .int x :: r => am_br [(decide (x < y), (tgt, st.2.1, r, st.2.2.2))] (st.1 + 3, st.2.1, r, st.2.2.2)
  | _ => none
theorem ar_icmp_lt (C : am_Cx p R s m args meth c cc nL Ts own D cl ρ kc fts len) {off : Int} {tgt : Nat} (hd : decode cc pc = .ok (.if_icmp .lt off, 3)) (ht : (pc : Int) + off = (tgt : Int)) : am_Row (am_J p l e R s m args below meth c nL D cl ρ kc len Q) K pc (af_icmp_lt tgt) := by
  obtain ⟨hx, hb, hml, hown, hts, hK, hinj, hlk, hfr, hlo⟩ := C
  intro st x hpc hf hg
  obtain ⟨pc0, lv, sk, h⟩ := st
  cases hpc
  simp only [af_icmp_lt] at hf
  split at hf
  · rename_i y x r
    cases hf
    intro H locs ls hlen hP hS hl
    exact lv_icmp_lt hx hb hd ht (fun hc => (hg.1 (true, (tgt, lv, r, h)) (by simp only [hc, decide_true, List.find?_cons]) : am_J p l e R s m args below meth c nL D cl ρ kc len Q (tgt, lv, r, h)) H locs ls hlen hP hS hl) (fun hc => (hg.2 (by simp only [hc, decide_false, List.find?_cons, List.find?_nil]) : am_J p l e R s m args below meth c nL D cl ρ kc len Q (pc0 + 3, lv, r, h)) H locs ls hlen hP hS hl)
  · cases hf
def af_icmp_ge (tgt : Nat) : am_F := fun st => match st.2.2.1 with
  | .int y :: .int x :: r => am_br [(decide (y ≤ x), (tgt, st.2.1, r, st.2.2.2))] (st.1 + 3, st.2.1, r, st.2.2.2)
  | _ => none
theorem ar_icmp_ge (C : am_Cx p R s m args meth c cc nL Ts own D cl ρ kc fts len) {off : Int} {tgt : Nat} (hd : decode cc pc = .ok (.if_icmp .ge off, 3)) (ht : (pc : Int) + off = (tgt : Int)) : am_Row (am_J p l e R s m args below meth c nL D cl ρ kc len Q) K pc (af_icmp_ge tgt) := by
  obtain ⟨hx, hb, hml, hown, hts, hK, hinj, hlk, hfr, hlo⟩ := C
  intro st x hpc hf hg
  obtain ⟨pc0, lv, sk, h⟩ := st
  cases hpc
  simp only [af_icmp_ge] at hf
  split at hf
  · rename_i y x r
    cases hf
    intro H locs ls hlen hP hS hl
    exact lv_icmp_ge hx hb hd ht (fun hc => (hg.1 (true, (tgt, lv, r, h)) (by simp only [hc, decide_true, List.find?_cons]) : am_J p l e R s m args below meth c nL D cl ρ kc len Q (tgt, lv, r, h)) H locs ls hlen hP hS hl) (fun hc => (hg.2 (by simp only [hc, decide_false, List.find?_cons, List.find?_nil]) : am_J p l e R s m args below meth c nL D cl ρ kc len Q (pc0 + 3, lv, r, h)) H locs ls hlen hP hS hl)
  · cases hf
def af_icmp_gt (tgt : Nat) : am_F := fun st => match st.2.2.1 with
  | .int y :: .int x :: r => am_br [(decide (y < x), (tgt, st.2.1, r, st.2.2.2))] (st.1 + 3, st.2.1, r, st.2.2.2)
  | _ => none
theorem ar_icmp_gt (C : am_Cx p R s m args meth c cc nL Ts own D cl ρ kc fts len) {off : Int} {tgt : Nat} (hd : decode cc pc = .ok (.if_icmp .gt off, 3)) (ht : (pc : Int) + off = (tgt : Int)) : am_Row (am_J p l e R s m args below meth c nL D cl ρ kc len Q) K pc (af_icmp_gt tgt) := by
  obtain ⟨hx, hb, hml, hown, hts, hK, hinj, hlk, hfr, hlo⟩ := C
  intro st x hpc hf hg
  obtain ⟨pc0, lv, sk, h⟩ := st
  cases hpc
  simp only [af_icmp_gt] at hf
  split at hf
  · rename_i y x r
    cases hf
    intro H locs ls hlen hP hS hl
    exact lv_icmp_gt hx hb hd ht (fun hc => (hg.1 (true, (tgt, lv, r, h)) (by simp only [hc, decide_true, List.find?_cons]) : am_J p l e R s m args below meth c nL D cl ρ kc len Q (tgt, lv, r, h)) H locs ls hlen hP hS hl) (fun hc => (hg.2 (by simp only [hc, decide_false, List.find?_cons, List.find?_nil]) : am_J p l e R s m args below meth c nL D cl ρ kc len Q (pc0 + 3, lv, r, h)) H locs ls hlen hP hS hl)
  · cases hf
def af_icmp_le (tgt : Nat) : am_F := fun st => match st.2.2.1 with
  | .int y :: .int x :: r => am_br [(decide (x ≤ y), (tgt, st.2.1, r, st.2.2.2))] (st.1 + 3, st.2.1, r, st.2.2.2)
  | _ => none
theorem ar_icmp_le (C : am_Cx p R s m args meth c cc nL Ts own D cl ρ kc fts len) {off : Int} {tgt : Nat} (hd : decode cc pc = .ok (.if_icmp .le off, 3)) (ht : (pc : Int) + off = (tgt : Int)) : am_Row (am_J p l e R s m args below meth c nL D cl ρ kc len Q) K pc (af_icmp_le tgt) := by
  obtain ⟨hx, hb, hml, hown, hts, hK, hinj, hlk, hfr, hlo⟩ := C
  intro st x hpc hf hg
  obtain ⟨pc0, lv, sk, h⟩ := st
  cases hpc
  simp only [af_icmp_le] at hf
  split at hf
  · rename_i y x r
    cases hf
    intro H locs ls hlen hP hS hl
    exact lv_icmp_le hx hb hd ht (fun hc => (hg.1 (true, (tgt, lv, r, h)) (by simp only [hc, decide_true, List.find?_cons]) : am_J p l e R s m args below meth c nL D cl ρ kc len Q (tgt, lv, r, h)) H locs ls hlen hP hS hl) (fun hc => (hg.2 (by simp only [hc, decide_false, List.find?_cons, List.find?_nil]) : am_J p l e R s m args below meth c nL D cl ρ kc len Q (pc0 + 3, lv, r, h)) H locs ls hlen hP hS hl)
  · cases hf
def af_if_eq (tgt : Nat) : am_F := fun st => match st.2.2.1 with
  | .int x :: r => am_br [(decide (x = 0), (tgt, st.2.1, r, st.2.2.2))] (st.1 + 3, st.2.1, r, st.2.2.2)
  | _ => none
theorem ar_if_eq (C : am_Cx p R s m args meth c cc nL Ts own D cl ρ kc fts len) {off : Int} {tgt : Nat} (hd : decode cc pc = .ok (.ifCond .eq off, 3)) (ht : (pc : Int) + off = (tgt : Int)) : am_Row (am_J p l e R s m args below meth c nL D cl ρ kc len Q) K pc (af_if_eq tgt) := by
  obtain ⟨hx, hb, hml, hown, hts, hK, hinj, hlk, hfr, hlo⟩ := C
  intro st x hpc hf hg
  obtain ⟨pc0, lv, sk, h⟩ := st
  cases hpc
  simp only [af_if_eq] at hf
  split at hf
  · rename_i x r
    cases hf
    intro H locs ls hlen hP hS hl
    exact lv_if_eq hx hb hd ht (fun hc => (hg.1 (true, (tgt, lv, r, h)) (by simp only [hc, decide_true, List.find?_cons]) : am_J p l e R s m args below meth c nL D cl ρ kc len Q (tgt, lv, r, h)) H locs ls hlen hP hS hl) (fun hc => (hg.2 (by simp only [hc, decide_false, List.find?_cons, List.find?_nil]) : am_J p l e R s m args below meth c nL D cl ρ kc len Q (pc0 + 3, lv, r, h)) H locs ls hlen hP hS hl)
  · cases hf
def af_if_ne (tgt : Nat) : am_F := fun st => match st.2.2.1 with
  | .int x :: r => am_br [(decide (x = 0), (st.1 + 3, st.2.1, r, st.2.2.2))] (tgt, st.2.1, r, st.2.2.2)
  | _ => none
theorem ar_if_ne (C : am_Cx p R s m args meth c cc nL Ts own D cl ρ kc fts len) {off : Int} {tgt : Nat} (hd : decode cc pc = .ok (.ifCond .ne off, 3)) (ht : (pc : Int) + off = (tgt : Int)) : am_Row (am_J p l e R s m args below meth c nL D cl ρ kc len Q) K pc (af_if_ne tgt) := by
  obtain ⟨hx, hb, hml, hown, hts, hK, hinj, hlk, hfr, hlo⟩ := C
  intro st x hpc hf hg
  obtain ⟨pc0, lv, sk, h⟩ := st
  cases hpc
  simp only [af_if_ne] at hf
  split at hf
  · rename_i x r
    cases hf
    intro H locs ls hlen hP hS hl
    exact lv_if_ne hx hb hd ht (fun hc => (hg.2 (by simp only [hc, decide_false, List.find?_cons, List.find?_nil]) : am_J p l e R s m args below meth c nL D cl ρ kc len Q (tgt, lv, r, h)) H locs ls hlen hP hS hl) (fun hc => (hg.1 (true, (pc0 + 3, lv, r, h)) (by simp only [hc, decide_true, List.find?_cons]) : am_J p l e R s m args below meth c nL D cl ρ kc len Q (pc0 + 3, lv, r, h)) H locs ls hlen hP hS hl)
  · cases hf
def af_if_lt (tgt : Nat) : am_F := fun st => match st.2.2.1 with
  | .int x :: r => am_br [(decide (x < 0), (tgt, st.2.1, r, st.2.2.2))] (st.1 + 3, st.2.1, r, st.2.2.2)
  | _ => none
theorem ar_if_lt (C : am_Cx p R s m args meth c cc nL Ts own D cl ρ kc fts len) {off : Int} {tgt : Nat} (hd : decode cc pc = .ok (.ifCond .lt off, 3)) (ht : (pc : Int) + off = (tgt : Int)) : am_Row (am_J p l e R s m args below meth c nL D cl ρ kc len Q) K pc (af_if_lt tgt) := by
  obtain ⟨hx, hb, hml, hown, hts, hK, hinj, hlk, hfr, hlo⟩ := C
  intro st x hpc hf hg
  obtain ⟨pc0, lv, sk, h⟩ := st
  cases hpc
  simp only [af_if_lt] at hf
  split at hf
  · rename_i x r
    cases hf
    intro H locs ls hlen hP hS hl
    exact lv_if_lt hx hb hd ht (fun hc => (hg.1 (true, (tgt, lv, r, h)) (by simp only [hc, decide_true, List.find?_cons]) : am_J p l e R s m args below meth c nL D cl ρ kc len Q (tgt, lv, r, h)) H locs ls hlen hP hS hl) (fun hc => (hg.2 (by simp only [hc, decide_false, List.find?_cons, List.find?_nil]) : am_J p l e R s m args below meth c nL D cl ρ kc len Q (pc0 + 3, lv, r, h)) H locs ls hlen hP hS hl)
  · cases hf
def af_if_ge (tgt : Nat) : am_F := fun st => match st.2.2.1 with
  | .int x :: r => am_br [(decide (0 ≤ x), (tgt, st.2.1, r, st.2.2.2))] (st.1 + 3, st.2.1, r, st.2.2.2)
  | _ => none
theorem ar_if_ge (C : am_Cx p R s m args meth c cc nL Ts own D cl ρ kc fts len) {off : Int} {tgt : Nat} (hd : decode cc pc = .ok (.ifCond .ge off, 3)) (ht : (pc : Int) + off = (tgt : Int)) : am_Row (am_J p l e R s m args below meth c nL D cl ρ kc len Q) K pc (af_if_ge tgt) := by
  obtain ⟨hx, hb, hml, hown, hts, hK, hinj, hlk, hfr, hlo⟩ := C
  intro st x hpc hf hg
  obtain ⟨pc0, lv, sk, h⟩ := st
  cases hpc
  simp only [af_if_ge] at hf
  split at hf
  · rename_i x r
    cases hf
    intro H locs ls hlen hP hS hl
    exact lv_if_ge hx hb hd ht (fun hc => (hg.1 (true, (tgt, lv, r, h)) (by simp only [hc, decide_true, List.find?_cons]) : am_J p l e R s m args below meth c nL D cl ρ kc len Q (tgt, lv, r, h)) H locs ls hlen hP hS hl) (fun hc => (hg.2 (by simp only [hc, decide_false, List.find?_cons, List.find?_nil]) : am_J p l e R s m args below meth c nL D cl ρ kc len Q (pc0 + 3, lv, r, h)) H locs ls hlen hP hS hl)
  · cases hf
def af_if_gt (tgt : Nat) : am_F := fun st => match st.2.2.1 with
  | .int x :: r => am_br [(decide (0 < x), (tgt, st.2.1, r, st.2.2.2))] (st.1 + 3, st.2.1, r, st.2.2.2)
  | _ => none
theorem ar_if_gt (C : am_Cx p R s m args meth c cc nL Ts own D cl ρ kc fts len) {off : Int} {tgt : Nat} (hd : decode cc pc = .ok (.ifCond .gt off, 3)) (ht : (pc : Int) + off = (tgt : Int)) : am_Row (am_J p l e R s m args below meth c nL D cl ρ kc len Q) K pc (af_if_gt tgt) := by
  obtain ⟨hx, hb, hml, hown, hts, hK, hinj, hlk, hfr, hlo⟩ := C
  intro st x hpc hf hg
  obtain ⟨pc0, lv, sk, h⟩ := st
  cases hpc
  simp only [af_if_gt] at hf
  split at hf
  · rename_i x r
    cases hf
    intro H locs ls hlen hP hS hl
    exact lv_if_gt hx hb hd ht (fun hc => (hg.1 (true, (tgt, lv, r, h)) (by simp only [hc, decide_true, List.find?_cons]) : am_J p l e R s m args below meth c nL D cl ρ kc len Q (tgt, lv, r, h)) H locs ls hlen hP hS hl) (fun hc => (hg.2 (by simp only [hc, decide_false, List.find?_cons, List.find?_nil]) : am_J p l e R s m args below meth c nL D cl ρ kc len Q (pc0 + 3, lv, r, h)) H locs ls hlen hP hS hl)
  · cases hf
def af_if_le (tgt : Nat) : am_F := fun st => match st.2.2.1 with
  | .int x :: r => am_br [(decide (x ≤ 0), (tgt, st.2.1, r, st.2.2.2))] (st.1 + 3, st.2.1, r, st.2.2.2)
  | _ => none
theorem ar_if_le (C : am_Cx p R s m args meth c cc nL Ts own D cl ρ kc fts len) {off : Int} {tgt : Nat} (hd : decode cc pc = .ok (.ifCond .le off, 3)) (ht : (pc : Int) + off = (tgt : Int)) : am_Row (am_J p l e R s m args below meth c nL D cl ρ kc len Q) K pc (af_if_le tgt) := by
  obtain ⟨hx, hb, hml, hown, hts, hK, hinj, hlk, hfr, hlo⟩ := C
  intro st x hpc hf hg
  obtain ⟨pc0, lv, sk, h⟩ := st
  cases hpc
  simp only [af_if_le] at hf
  split at hf
  · rename_i x r
    cases hf
    intro H locs ls hlen hP hS hl
    exact lv_if_le hx hb hd ht (fun hc => (hg.1 (true, (tgt, lv, r, h)) (by simp only [hc, decide_true, List.find?_cons]) : am_J p l e R s m args below meth c nL D cl ρ kc len Q (tgt, lv, r, h)) H locs ls hlen hP hS hl) (fun hc => (hg.2 (by simp only [hc, decide_false, List.find?_cons, List.find?_nil]) : am_J p l e R s m args below meth c nL D cl ρ kc len Q (pc0 + 3, lv, r, h)) H locs ls hlen hP hS hl)
  · cases hf
def af_goto (tgt : Nat) : am_F := fun st => am_go (tgt, st.2.1, st.2.2.1, st.2.2.2)
theorem ar_goto (C : am_Cx p R s m args meth c cc nL Ts own D cl ρ kc fts len) {off : Int} {tgt : Nat} (hd : decode cc pc = .ok (.goto off, 3)) (ht : (pc : Int) + off = (tgt : Int)) : am_Row (am_J p l e R s m args below meth c nL D cl ρ kc len Q) K pc (af_goto tgt) := by
  obtain ⟨hx, hb, hml, hown, hts, hK, hinj, hlk, hfr, hlo⟩ := C
  intro st x hpc hf hg
  obtain ⟨pc0, lv, sk, h⟩ := st
  cases hpc
  cases hf
  intro H locs ls hlen hP hS hl
  exact lv_goto hx hb hd ht (hg H locs ls hlen hP hS hl)
def af_tsw (cs : List (Int32 × Nat)) (dt : Nat) : am_F := fun st => match st.2.2.1 with
  | .int x :: r => am_br (cs.map (fun q => (decide (x = q.1), (q.2, st.2.1, r, st.2.2.2)))) (dt, st.2.1, r, st.2.2.2)
  | _ => none
/-- the cases of a table: each place of it, in order -/
def am_tswOk (pc : Nat) (dflt lo hi : Int) (offs : Array Int) (cs : List (Int32 × Nat)) (dt : Nat) : Bool :=
  decide ((pc : Int) + dflt = (dt : Int)) && cs.all (fun q => decide (¬ q.1.toInt < lo) && decide (¬ hi < q.1.toInt) && (match offs[(q.1.toInt - lo).toNat]? with | some off => decide ((pc : Int) + off = (q.2 : Int)) | none => false))
theorem am_find_map {x : Int32} {cs : List (Int32 × Nat)} {g : Nat → am_S} {q : Bool × am_S} (h : (cs.map (fun q => (decide (x = q.1), g q.2))).find? (fun x => x.1) = some q) : ∃ t, (x, t) ∈ cs ∧ q.2 = g t := by
  have h1 := List.find?_some h
  obtain ⟨a, ha, rfl⟩ := List.mem_map.mp (List.mem_of_find?_eq_some h)
  have hxa : x = a.1 := of_decide_eq_true h1
  exact ⟨a.2, by rw [hxa]; exact ha, rfl⟩
theorem ar_tsw (C : am_Cx p R s m args meth c cc nL Ts own D cl ρ kc fts len) {dflt lo hi : Int} {offs : Array Int} {ln dt : Nat} {cs : List (Int32 × Nat)} (hd : decode cc pc = .ok (.tableswitch dflt lo hi offs, ln)) (hok : am_tswOk pc dflt lo hi offs cs dt = true) (hall : ∀ x : Int32, (∀ q ∈ cs, ¬ x = q.1) → x.toInt < lo ∨ hi < x.toInt) : am_Row (am_J p l e R s m args below meth c nL D cl ρ kc len Q) K pc (af_tsw cs dt) := by
  obtain ⟨hx, hb, hml, hown, hts, hK, hinj, hlk, hfr, hlo⟩ := C
  intro st x hpc hf hg
  obtain ⟨pc0, lv, sk, h⟩ := st
  cases hpc
  simp only [af_tsw] at hf
  split at hf
  · rename_i x r
    cases hf
    intro H locs ls hlen hP hS hl
    simp only [am_tswOk, Bool.and_eq_true, decide_eq_true_eq, List.all_eq_true] at hok
    obtain ⟨ho1, ho2⟩ := hok
    cases hfd : (cs.map (fun q => (decide (x = q.1), ((q.2, lv, r, h) : am_S)))).find? (fun x => x.1) with
    | none =>
      refine lv_tableOut hx hb hd (hall x (fun q hq hxq => ?_)) ho1 ((hg.2 hfd) H locs ls hlen hP hS hl)
      have h0 := List.find?_eq_none.mp hfd (decide (x = q.1), (q.2, lv, r, h)) (List.mem_map.mpr ⟨q, hq, rfl⟩)
      exact h0 (decide_eq_true hxq)
    | some q =>
      obtain ⟨t, h1, h2⟩ := am_find_map (g := fun t => ((t, lv, r, h) : am_S)) hfd
      obtain ⟨⟨k1, k2⟩, k3⟩ := ho2 (x, t) h1
      have hj := hg.1 q hfd
      rw [h2] at hj
      split at k3
      · rename_i off ho
        exact lv_tableIn hx hb hd k1 k2 ho (of_decide_eq_true k3) (hj H locs ls hlen hP hS hl)
      · cases k3
  · cases hf
def af_getf (ci k : Nat) : am_F := fun st => match st.2.2.1 with
  | .ref a :: r => match st.2.2.2[a]? with
    | some (.inr (c, fs)) => match Nat.beq c ci, fs[k]? with
      | true, some v => am_go (st.1 + 3, st.2.1, v :: r, st.2.2.2)
      | _, _ => none
    | _ => none
  | _ => none
def af_putf (ci k : Nat) (ok : Value → Bool) : am_F := fun st => match st.2.2.1 with
  | v :: .ref a :: r => match st.2.2.2[a]? with
    | some (.inr (c, fs)) => match Nat.beq c ci, Nat.blt k fs.length, ok v with
      | true, true, true => am_go (st.1 + 3, st.2.1, r, st.2.2.2.set a (.inr (ci, fs.set k v)))
      | _, _, _ => none
    | _ => none
  | _ => none
def am_isI (v : Value) : Bool := match v with
  | .int _ => true
  | _ => false
def am_isR (v : Value) : Bool := match v with
  | .ref _ => true
  | _ => false
theorem ar_getf (C : am_Cx p R s m args meth c cc nL Ts own D cl ρ kc fts len) {Cn : String} {Tt : u_T} {N ci index k : Nat} (hd : decode cc pc = .ok (.getfield index, 3)) (hin : ∀ w ∈ u_ws Cn Tt N, w ∈ Ts) (hc : cl[ci]? = some (Cn, Tt, N)) (hk : k < N) (hlink : Cond.fieldLink own index (Tt k).1 (Tt k).2.1 (Tt k).2.2.1 ∈ Ts) : am_Row (am_J p l e R s m args below meth c nL D cl ρ kc len Q) K pc (af_getf ci k) := by
  obtain ⟨hx, hb, hml, hown, hts, hK, hinj, hlk, hfr, hlo⟩ := C
  intro st x hpc hf hg
  obtain ⟨pc0, lv, sk, h⟩ := st
  cases hpc
  simp only [af_getf] at hf
  split at hf
  · rename_i a r
    split at hf
    · rename_i c' fs hx2
      split at hf
      · rename_i v hb1 hx3
        cases hf
        cases Nat.eq_of_beq_eq_true hb1
        intro H locs ls hlen hP hS hl
        exact va_get (v := am_v ρ v) hx hb hts hin hown hK hP a (am_w_at hx2) hc k hk (hts _ hlink) (fun _ h9 => h9) (by rw [List.getElem?_map, hx3]; rfl) hd (hg H locs ls hlen hP hS hl)
      · cases hf
    · cases hf
  · cases hf
theorem ar_putI (C : am_Cx p R s m args meth c cc nL Ts own D cl ρ kc fts len) {Cn : String} {Tt : u_T} {ty0 : Nat → FieldType} {N ci index k : Nat} (hd : decode cc pc = .ok (.putfield index, 3)) (hin : ∀ w ∈ u_ws Cn Tt N, w ∈ Ts) (hty : ∀ k, k < N → parseFieldDescriptor (Tt k).2.2.1 = some (ty0 k)) (hnm : ∀ a, a < N → ∀ b, b < N → a ≠ b → (Tt a).2.1 ≠ (Tt b).2.1) (hc : cl[ci]? = some (Cn, Tt, N)) (hk : k < N) (hlink : Cond.fieldLink own index (Tt k).1 (Tt k).2.1 (Tt k).2.2.1 ∈ Ts) (hfin : (Tt k).2.2.2 = false) (hfd : parseFieldDescriptor (Tt k).2.2.1 = some (.int)) : am_Row (am_J p l e R s m args below meth c nL D cl ρ kc len Q) K pc (af_putf ci k am_isI) := by
  obtain ⟨hx, hb, hml, hown, hts, hK, hinj, hlk, hfr, hlo⟩ := C
  intro st x hpc hf hg
  obtain ⟨pc0, lv, sk, h⟩ := st
  cases hpc
  simp only [af_putf] at hf
  split at hf
  · rename_i v a r
    split at hf
    · rename_i c' fs hx2
      split at hf
      · rename_i hb1 hb2 hb3
        cases hf
        cases Nat.eq_of_beq_eq_true hb1
        obtain ⟨x, rfl⟩ : ∃ z, v = .int z := by cases v <;> first | exact ⟨_, rfl⟩ | (simp [am_isI] at hb3)
        intro H locs ls hlen hP hS hl
        refine va_put (v := am_v ρ (.int x)) hx hb hts hin ty0 hty hnm hown hK hP (am_D hinj hlen) hS a (am_w_at hx2) hc k hk (hts _ hlink) (fun _ h9 => h9) hfin hfd rfl rfl (by rw [List.length_map]; exact Nat.blt_eq.mp hb2) hd (fun H1 locs1 hP1 _ hS1 => ?_)
        refine hg H1 locs1 ls (by simpa using hlen) ?_ hS1 hl
        rw [show ((ρ a, Sum.inr (ci, (List.map (am_v ρ) fs).set k (am_v ρ (.int x)))) : Nat × va_E) = (ρ a, am_e ρ kc (.inr (ci, fs.set k (.int x)))) from by simp only [am_e, List.map_set], am_w_set] at hP1
        exact hP1
      · cases hf
    · cases hf
  · cases hf
theorem ar_putR (C : am_Cx p R s m args meth c cc nL Ts own D cl ρ kc fts len) {oc : String} {Cn : String} {Tt : u_T} {ty0 : Nat → FieldType} {N ci index k : Nat} (hd : decode cc pc = .ok (.putfield index, 3)) (hin : ∀ w ∈ u_ws Cn Tt N, w ∈ Ts) (hty : ∀ k, k < N → parseFieldDescriptor (Tt k).2.2.1 = some (ty0 k)) (hnm : ∀ a, a < N → ∀ b, b < N → a ≠ b → (Tt a).2.1 ≠ (Tt b).2.1) (hc : cl[ci]? = some (Cn, Tt, N)) (hk : k < N) (hlink : Cond.fieldLink own index (Tt k).1 (Tt k).2.1 (Tt k).2.2.1 ∈ Ts) (hfin : (Tt k).2.2.2 = false) (hfd : parseFieldDescriptor (Tt k).2.2.1 = some (.object oc)) : am_Row (am_J p l e R s m args below meth c nL D cl ρ kc len Q) K pc (af_putf ci k am_isR) := by
  obtain ⟨hx, hb, hml, hown, hts, hK, hinj, hlk, hfr, hlo⟩ := C
  intro st x hpc hf hg
  obtain ⟨pc0, lv, sk, h⟩ := st
  cases hpc
  simp only [af_putf] at hf
  split at hf
  · rename_i v a r
    split at hf
    · rename_i c' fs hx2
      split at hf
      · rename_i hb1 hb2 hb3
        cases hf
        cases Nat.eq_of_beq_eq_true hb1
        obtain ⟨b, rfl⟩ : ∃ z, v = .ref z := by cases v <;> first | exact ⟨_, rfl⟩ | (simp [am_isR] at hb3)
        intro H locs ls hlen hP hS hl
        refine va_put (v := am_v ρ (.ref b)) hx hb hts hin ty0 hty hnm hown hK hP (am_D hinj hlen) hS a (am_w_at hx2) hc k hk (hts _ hlink) (fun _ h9 => h9) hfin hfd rfl rfl (by rw [List.length_map]; exact Nat.blt_eq.mp hb2) hd (fun H1 locs1 hP1 _ hS1 => ?_)
        refine hg H1 locs1 ls (by simpa using hlen) ?_ hS1 hl
        rw [show ((ρ a, Sum.inr (ci, (List.map (am_v ρ) fs).set k (am_v ρ (.ref b)))) : Nat × va_E) = (ρ a, am_e ρ kc (.inr (ci, fs.set k (.ref b)))) from by simp only [am_e, List.map_set], am_w_set] at hP1
        exact hP1
      · cases hf
    · cases hf
  · cases hf
def af_iald (t0 : Nat) : am_F := fun st => match st.2.2.1 with
  | .int i :: .ref a :: r => match st.2.2.2[a]? with
    | some (.inl (t, n, .inl f)) => match Nat.beq t t0 with
      | true => am_gd (decide (0 ≤ i.toInt ∧ i.toInt < (n : Int))) (st.1 + 1, st.2.1, .int (f i.toNatClampNeg) :: r, st.2.2.2)
      | false => none
    | _ => none
  | _ => none
theorem ar_iald (C : am_Cx p R s m args meth c cc nL Ts own D cl ρ kc fts len) {t0 : Nat} (hd : decode cc pc = .ok (.iaload, 1)) (ht : fts[t0]? = some .int) : am_Row (am_J p l e R s m args below meth c nL D cl ρ kc len Q) K pc (af_iald t0) := by
  obtain ⟨hx, hb, hml, hown, hts, hK, hinj, hlk, hfr, hlo⟩ := C
  intro st x hpc hf hg
  obtain ⟨pc0, lv, sk, h⟩ := st
  cases hpc
  simp only [af_iald] at hf
  split at hf
  · rename_i i a r
    split at hf
    · rename_i t n f hx2
      split at hf
      · rename_i hb1
        cases hf
        cases Nat.eq_of_beq_eq_true hb1
        intro H locs ls hlen hP hS hl
        exact va_iald hx hb hK hP a t0 (am_w_at hx2) (am_ty_at ht) (vp_in_iff.mpr (of_decide_eq_true hg.1)) hd (hg.2 H locs ls hlen hP hS hl)
      · cases hf
    · cases hf
  · cases hf
def af_iast (t0 : Nat) : am_F := fun st => match st.2.2.1 with
  | .int x :: .int i :: .ref a :: r => match st.2.2.2[a]? with
    | some (.inl (t, n, .inl f)) => match Nat.beq t t0 with
      | true => am_gd (decide (0 ≤ i.toInt ∧ i.toInt < (n : Int))) (st.1 + 1, st.2.1, r, st.2.2.2.set a (.inl (t0, n, .inl (upd f i.toNatClampNeg (x)))))
      | false => none
    | _ => none
  | _ => none
theorem ar_iast (C : am_Cx p R s m args meth c cc nL Ts own D cl ρ kc fts len) {t0 : Nat} (hd : decode cc pc = .ok (.iastore, 1)) (ht : fts[t0]? = some .int) : am_Row (am_J p l e R s m args below meth c nL D cl ρ kc len Q) K pc (af_iast t0) := by
  obtain ⟨hx, hb, hml, hown, hts, hK, hinj, hlk, hfr, hlo⟩ := C
  intro st x hpc hf hg
  obtain ⟨pc0, lv, sk, h⟩ := st
  cases hpc
  simp only [af_iast] at hf
  split at hf
  · rename_i x i a r
    split at hf
    · rename_i t n f hx2
      split at hf
      · rename_i hb1
        cases hf
        cases Nat.eq_of_beq_eq_true hb1
        intro H locs ls hlen hP hS hl
        refine va_iast hx hb hK hP (am_D hinj hlen) hS a t0 (am_w_at hx2) (am_ty_at ht) (vp_in_iff.mpr (of_decide_eq_true hg.1)) hd (fun H1 locs1 hP1 _ hS1 => hg.2 H1 locs1 ls (by simpa using hlen) ?_ hS1 hl)
        rw [show ((ρ a, Sum.inl (kc t0, n, .inl (upd f i.toNatClampNeg (x)))) : Nat × va_E) = (ρ a, am_e ρ kc (.inl (t0, n, .inl (upd f i.toNatClampNeg (x))))) from rfl, am_w_set] at hP1
        exact hP1
      · cases hf
    · cases hf
  · cases hf
def af_bald (t0 : Nat) : am_F := fun st => match st.2.2.1 with
  | .int i :: .ref a :: r => match st.2.2.2[a]? with
    | some (.inl (t, n, .inl f)) => match Nat.beq t t0 with
      | true => am_gd (decide (0 ≤ i.toInt ∧ i.toInt < (n : Int))) (st.1 + 1, st.2.1, .int (f i.toNatClampNeg) :: r, st.2.2.2)
      | false => none
    | _ => none
  | _ => none
theorem ar_bald (C : am_Cx p R s m args meth c cc nL Ts own D cl ρ kc fts len) {t0 : Nat} (hd : decode cc pc = .ok (.baload, 1)) (ht : fts[t0]? = some .byte) : am_Row (am_J p l e R s m args below meth c nL D cl ρ kc len Q) K pc (af_bald t0) := by
  obtain ⟨hx, hb, hml, hown, hts, hK, hinj, hlk, hfr, hlo⟩ := C
  intro st x hpc hf hg
  obtain ⟨pc0, lv, sk, h⟩ := st
  cases hpc
  simp only [af_bald] at hf
  split at hf
  · rename_i i a r
    split at hf
    · rename_i t n f hx2
      split at hf
      · rename_i hb1
        cases hf
        cases Nat.eq_of_beq_eq_true hb1
        intro H locs ls hlen hP hS hl
        exact va_bald hx hb hK hP a t0 (am_w_at hx2) (am_ty_at ht) (vp_in_iff.mpr (of_decide_eq_true hg.1)) hd (hg.2 H locs ls hlen hP hS hl)
      · cases hf
    · cases hf
  · cases hf
def af_bast (t0 : Nat) : am_F := fun st => match st.2.2.1 with
  | .int x :: .int i :: .ref a :: r => match st.2.2.2[a]? with
    | some (.inl (t, n, .inl f)) => match Nat.beq t t0 with
      | true => am_gd (decide (0 ≤ i.toInt ∧ i.toInt < (n : Int))) (st.1 + 1, st.2.1, r, st.2.2.2.set a (.inl (t0, n, .inl (upd f i.toNatClampNeg (vp_nar .byte x)))))
      | false => none
    | _ => none
  | _ => none
theorem ar_bast (C : am_Cx p R s m args meth c cc nL Ts own D cl ρ kc fts len) {t0 : Nat} (hd : decode cc pc = .ok (.bastore, 1)) (ht : fts[t0]? = some .byte) : am_Row (am_J p l e R s m args below meth c nL D cl ρ kc len Q) K pc (af_bast t0) := by
  obtain ⟨hx, hb, hml, hown, hts, hK, hinj, hlk, hfr, hlo⟩ := C
  intro st x hpc hf hg
  obtain ⟨pc0, lv, sk, h⟩ := st
  cases hpc
  simp only [af_bast] at hf
  split at hf
  · rename_i x i a r
    split at hf
    · rename_i t n f hx2
      split at hf
      · rename_i hb1
        cases hf
        cases Nat.eq_of_beq_eq_true hb1
        intro H locs ls hlen hP hS hl
        refine va_bast hx hb hK hP (am_D hinj hlen) hS a t0 (am_w_at hx2) (am_ty_at ht) (vp_in_iff.mpr (of_decide_eq_true hg.1)) hd (fun H1 locs1 hP1 _ hS1 => hg.2 H1 locs1 ls (by simpa using hlen) ?_ hS1 hl)
        rw [show ((ρ a, Sum.inl (kc t0, n, .inl (upd f i.toNatClampNeg (vp_nar .byte x)))) : Nat × va_E) = (ρ a, am_e ρ kc (.inl (t0, n, .inl (upd f i.toNatClampNeg (vp_nar .byte x))))) from rfl, am_w_set] at hP1
        exact hP1
      · cases hf
    · cases hf
  · cases hf
def af_zald (t0 : Nat) : am_F := fun st => match st.2.2.1 with
  | .int i :: .ref a :: r => match st.2.2.2[a]? with
    | some (.inl (t, n, .inl f)) => match Nat.beq t t0 with
      | true => am_gd (decide (0 ≤ i.toInt ∧ i.toInt < (n : Int))) (st.1 + 1, st.2.1, .int (f i.toNatClampNeg) :: r, st.2.2.2)
      | false => none
    | _ => none
  | _ => none
theorem ar_zald (C : am_Cx p R s m args meth c cc nL Ts own D cl ρ kc fts len) {t0 : Nat} (hd : decode cc pc = .ok (.baload, 1)) (ht : fts[t0]? = some .boolean) : am_Row (am_J p l e R s m args below meth c nL D cl ρ kc len Q) K pc (af_zald t0) := by
  obtain ⟨hx, hb, hml, hown, hts, hK, hinj, hlk, hfr, hlo⟩ := C
  intro st x hpc hf hg
  obtain ⟨pc0, lv, sk, h⟩ := st
  cases hpc
  simp only [af_zald] at hf
  split at hf
  · rename_i i a r
    split at hf
    · rename_i t n f hx2
      split at hf
      · rename_i hb1
        cases hf
        cases Nat.eq_of_beq_eq_true hb1
        intro H locs ls hlen hP hS hl
        exact va_zald hx hb hK hP a t0 (am_w_at hx2) (am_ty_at ht) (vp_in_iff.mpr (of_decide_eq_true hg.1)) hd (hg.2 H locs ls hlen hP hS hl)
      · cases hf
    · cases hf
  · cases hf
def af_zast (t0 : Nat) : am_F := fun st => match st.2.2.1 with
  | .int x :: .int i :: .ref a :: r => match st.2.2.2[a]? with
    | some (.inl (t, n, .inl f)) => match Nat.beq t t0 with
      | true => am_gd (decide (0 ≤ i.toInt ∧ i.toInt < (n : Int))) (st.1 + 1, st.2.1, r, st.2.2.2.set a (.inl (t0, n, .inl (upd f i.toNatClampNeg (vp_nar .boolean x)))))
      | false => none
    | _ => none
  | _ => none
theorem ar_zast (C : am_Cx p R s m args meth c cc nL Ts own D cl ρ kc fts len) {t0 : Nat} (hd : decode cc pc = .ok (.bastore, 1)) (ht : fts[t0]? = some .boolean) : am_Row (am_J p l e R s m args below meth c nL D cl ρ kc len Q) K pc (af_zast t0) := by
  obtain ⟨hx, hb, hml, hown, hts, hK, hinj, hlk, hfr, hlo⟩ := C
  intro st x hpc hf hg
  obtain ⟨pc0, lv, sk, h⟩ := st
  cases hpc
  simp only [af_zast] at hf
  split at hf
  · rename_i x i a r
    split at hf
    · rename_i t n f hx2
      split at hf
      · rename_i hb1
        cases hf
        cases Nat.eq_of_beq_eq_true hb1
        intro H locs ls hlen hP hS hl
        refine va_zast hx hb hK hP (am_D hinj hlen) hS a t0 (am_w_at hx2) (am_ty_at ht) (vp_in_iff.mpr (of_decide_eq_true hg.1)) hd (fun H1 locs1 hP1 _ hS1 => hg.2 H1 locs1 ls (by simpa using hlen) ?_ hS1 hl)
        rw [show ((ρ a, Sum.inl (kc t0, n, .inl (upd f i.toNatClampNeg (vp_nar .boolean x)))) : Nat × va_E) = (ρ a, am_e ρ kc (.inl (t0, n, .inl (upd f i.toNatClampNeg (vp_nar .boolean x))))) from rfl, am_w_set] at hP1
        exact hP1
      · cases hf
    · cases hf
  · cases hf
def af_cald (t0 : Nat) : am_F := fun st => match st.2.2.1 with
  | .int i :: .ref a :: r => match st.2.2.2[a]? with
    | some (.inl (t, n, .inl f)) => match Nat.beq t t0 with
      | true => am_gd (decide (0 ≤ i.toInt ∧ i.toInt < (n : Int))) (st.1 + 1, st.2.1, .int (f i.toNatClampNeg) :: r, st.2.2.2)
      | false => none
    | _ => none
  | _ => none
theorem ar_cald (C : am_Cx p R s m args meth c cc nL Ts own D cl ρ kc fts len) {t0 : Nat} (hd : decode cc pc = .ok (.caload, 1)) (ht : fts[t0]? = some .char) : am_Row (am_J p l e R s m args below meth c nL D cl ρ kc len Q) K pc (af_cald t0) := by
  obtain ⟨hx, hb, hml, hown, hts, hK, hinj, hlk, hfr, hlo⟩ := C
  intro st x hpc hf hg
  obtain ⟨pc0, lv, sk, h⟩ := st
  cases hpc
  simp only [af_cald] at hf
  split at hf
  · rename_i i a r
    split at hf
    · rename_i t n f hx2
      split at hf
      · rename_i hb1
        cases hf
        cases Nat.eq_of_beq_eq_true hb1
        intro H locs ls hlen hP hS hl
        exact va_cald hx hb hK hP a t0 (am_w_at hx2) (am_ty_at ht) (vp_in_iff.mpr (of_decide_eq_true hg.1)) hd (hg.2 H locs ls hlen hP hS hl)
      · cases hf
    · cases hf
  · cases hf
def af_cast (t0 : Nat) : am_F := fun st => match st.2.2.1 with
  | .int x :: .int i :: .ref a :: r => match st.2.2.2[a]? with
    | some (.inl (t, n, .inl f)) => match Nat.beq t t0 with
      | true => am_gd (decide (0 ≤ i.toInt ∧ i.toInt < (n : Int))) (st.1 + 1, st.2.1, r, st.2.2.2.set a (.inl (t0, n, .inl (upd f i.toNatClampNeg (vp_nar .char x)))))
      | false => none
    | _ => none
  | _ => none
theorem ar_cast (C : am_Cx p R s m args meth c cc nL Ts own D cl ρ kc fts len) {t0 : Nat} (hd : decode cc pc = .ok (.castore, 1)) (ht : fts[t0]? = some .char) : am_Row (am_J p l e R s m args below meth c nL D cl ρ kc len Q) K pc (af_cast t0) := by
  obtain ⟨hx, hb, hml, hown, hts, hK, hinj, hlk, hfr, hlo⟩ := C
  intro st x hpc hf hg
  obtain ⟨pc0, lv, sk, h⟩ := st
  cases hpc
  simp only [af_cast] at hf
  split at hf
  · rename_i x i a r
    split at hf
    · rename_i t n f hx2
      split at hf
      · rename_i hb1
        cases hf
        cases Nat.eq_of_beq_eq_true hb1
        intro H locs ls hlen hP hS hl
        refine va_cast hx hb hK hP (am_D hinj hlen) hS a t0 (am_w_at hx2) (am_ty_at ht) (vp_in_iff.mpr (of_decide_eq_true hg.1)) hd (fun H1 locs1 hP1 _ hS1 => hg.2 H1 locs1 ls (by simpa using hlen) ?_ hS1 hl)
        rw [show ((ρ a, Sum.inl (kc t0, n, .inl (upd f i.toNatClampNeg (vp_nar .char x)))) : Nat × va_E) = (ρ a, am_e ρ kc (.inl (t0, n, .inl (upd f i.toNatClampNeg (vp_nar .char x))))) from rfl, am_w_set] at hP1
        exact hP1
      · cases hf
    · cases hf
  · cases hf
def af_lald (t0 : Nat) : am_F := fun st => match st.2.2.1 with
  | .int i :: .ref a :: r => match st.2.2.2[a]? with
    | some (.inl (t, n, .inr (.inl f))) => match Nat.beq t t0 with
      | true => am_gd (decide (0 ≤ i.toInt ∧ i.toInt < (n : Int))) (st.1 + 1, st.2.1, .long (f i.toNatClampNeg) :: r, st.2.2.2)
      | false => none
    | _ => none
  | _ => none
theorem ar_lald (C : am_Cx p R s m args meth c cc nL Ts own D cl ρ kc fts len) {t0 : Nat} (hd : decode cc pc = .ok (.laload, 1)) (ht : fts[t0]? = some .long) : am_Row (am_J p l e R s m args below meth c nL D cl ρ kc len Q) K pc (af_lald t0) := by
  obtain ⟨hx, hb, hml, hown, hts, hK, hinj, hlk, hfr, hlo⟩ := C
  intro st x hpc hf hg
  obtain ⟨pc0, lv, sk, h⟩ := st
  cases hpc
  simp only [af_lald] at hf
  split at hf
  · rename_i i a r
    split at hf
    · rename_i t n f hx2
      split at hf
      · rename_i hb1
        cases hf
        cases Nat.eq_of_beq_eq_true hb1
        intro H locs ls hlen hP hS hl
        exact va_lald hx hb hK hP a t0 (am_w_at hx2) (am_ty_at ht) (vp_in_iff.mpr (of_decide_eq_true hg.1)) hd (hg.2 H locs ls hlen hP hS hl)
      · cases hf
    · cases hf
  · cases hf
def af_last (t0 : Nat) : am_F := fun st => match st.2.2.1 with
  | .long x :: .int i :: .ref a :: r => match st.2.2.2[a]? with
    | some (.inl (t, n, .inr (.inl f))) => match Nat.beq t t0 with
      | true => am_gd (decide (0 ≤ i.toInt ∧ i.toInt < (n : Int))) (st.1 + 1, st.2.1, r, st.2.2.2.set a (.inl (t0, n, .inr (.inl (vp_updL f i.toNatClampNeg (x))))))
      | false => none
    | _ => none
  | _ => none
theorem ar_last (C : am_Cx p R s m args meth c cc nL Ts own D cl ρ kc fts len) {t0 : Nat} (hd : decode cc pc = .ok (.lastore, 1)) (ht : fts[t0]? = some .long) : am_Row (am_J p l e R s m args below meth c nL D cl ρ kc len Q) K pc (af_last t0) := by
  obtain ⟨hx, hb, hml, hown, hts, hK, hinj, hlk, hfr, hlo⟩ := C
  intro st x hpc hf hg
  obtain ⟨pc0, lv, sk, h⟩ := st
  cases hpc
  simp only [af_last] at hf
  split at hf
  · rename_i x i a r
    split at hf
    · rename_i t n f hx2
      split at hf
      · rename_i hb1
        cases hf
        cases Nat.eq_of_beq_eq_true hb1
        intro H locs ls hlen hP hS hl
        refine va_last hx hb hK hP (am_D hinj hlen) hS a t0 (am_w_at hx2) (am_ty_at ht) (vp_in_iff.mpr (of_decide_eq_true hg.1)) hd (fun H1 locs1 hP1 _ hS1 => hg.2 H1 locs1 ls (by simpa using hlen) ?_ hS1 hl)
        rw [show ((ρ a, Sum.inl (kc t0, n, .inr (.inl (vp_updL f i.toNatClampNeg (x))))) : Nat × va_E) = (ρ a, am_e ρ kc (.inl (t0, n, .inr (.inl (vp_updL f i.toNatClampNeg (x)))))) from rfl, am_w_set] at hP1
        exact hP1
      · cases hf
    · cases hf
  · cases hf
def af_aald (t0 : Nat) : am_F := fun st => match st.2.2.1 with
  | .int i :: .ref a :: r => match st.2.2.2[a]? with
    | some (.inl (t, n, .inr (.inr (.inr (.inr f))))) => match Nat.beq t t0 with
      | true => am_gd (decide (0 ≤ i.toInt ∧ i.toInt < (n : Int))) (st.1 + 1, st.2.1, va_rf (f i.toNatClampNeg) :: r, st.2.2.2)
      | false => none
    | _ => none
  | _ => none
theorem am_v_rf (ρ : Nat → Nat) (o : Option Nat) : am_v ρ (va_rf o) = va_rf (o.map ρ) := by cases o <;> rfl
theorem ar_aald (C : am_Cx p R s m args meth c cc nL Ts own D cl ρ kc fts len) {t0 : Nat} {ty : FieldType} (hd : decode cc pc = .ok (.aaload, 1)) (ht : fts[t0]? = some ty) (hrf : ty.isReference = true) : am_Row (am_J p l e R s m args below meth c nL D cl ρ kc len Q) K pc (af_aald t0) := by
  obtain ⟨hx, hb, hml, hown, hts, hK, hinj, hlk, hfr, hlo⟩ := C
  intro st x hpc hf hg
  obtain ⟨pc0, lv, sk, h⟩ := st
  cases hpc
  simp only [af_aald] at hf
  split at hf
  · rename_i i a r
    split at hf
    · rename_i t n f hx2
      split at hf
      · rename_i hb1
        cases hf
        cases Nat.eq_of_beq_eq_true hb1
        intro H locs ls hlen hP hS hl
        have hin := vp_in_iff.mpr (of_decide_eq_true hg.1)
        have hlt : i.toNatClampNeg < n := Nat.not_le.mp fun q => hin (Or.inr q)
        have hcell : H[ρ a]? = some (arrV (kc t0) n (fun j => va_rf ((f j).map ρ))) := hP a _ (am_w_at hx2)
        refine W.aald (v := va_rf ((f i.toNatClampNeg).map ρ)) (ty := ty) hx hb hcell ((hK.2 t0 _ (am_ty_at ht)).1 n (fun j => va_rf ((f j).map ρ))) hrf (fun q => by cases q) (by rw [arrV_size]; exact hin) (by rw [arrV_read _ _ hlt]) rfl rfl hd ?_
        have hq := hg.2 H locs ls hlen hP hS hl
        rw [List.map_cons, am_v_rf] at hq
        exact hq
      · cases hf
    · cases hf
  · cases hf
def af_alen (fts : List FieldType) : am_F := fun st => match st.2.2.1 with
  | .ref a :: r => match st.2.2.2[a]? with
    | some (.inl (t, n, d)) => match fts[t]? with
      | some _ => am_go (st.1 + 1, st.2.1, .int (Int32.ofNat n) :: r, st.2.2.2)
      | none => none
    | _ => none
  | _ => none
theorem ar_alen (C : am_Cx p R s m args meth c cc nL Ts own D cl ρ kc fts len) (hd : decode cc pc = .ok (.arraylength, 1)) : am_Row (am_J p l e R s m args below meth c nL D cl ρ kc len Q) K pc (af_alen fts) := by
  obtain ⟨hx, hb, hml, hown, hts, hK, hinj, hlk, hfr, hlo⟩ := C
  intro st x hpc hf hg
  obtain ⟨pc0, lv, sk, h⟩ := st
  cases hpc
  simp only [af_alen] at hf
  split at hf
  · rename_i a r
    split at hf
    · rename_i t n d hx2
      split at hf
      · rename_i ty ht
        cases hf
        intro H locs ls hlen hP hS hl
        have hq := hg H locs ls hlen hP hS hl
        refine va_alen (x := am_x ρ (n, d)) hx hb hK hP a t (am_w_at hx2) (am_ty_at ht) (v := Int32.ofNat n) ?_ hd hq
        obtain d | d | d | d | d := d <;> rfl
      · cases hf
    · cases hf
  · cases hf
def af_mmax : am_F := fun st => match st.2.2.1 with
  | .int y :: .int x :: r => match Nat.ble ((r.map fun v => v.category).sum) 8 with
    | true => am_go (st.1 + 3, st.2.1, .int (if x < y then y else x) :: r, st.2.2.2)
    | false => none
  | _ => none
theorem ar_mmax (C : am_Cx p R s m args meth c cc nL Ts own D cl ρ kc fts len) {index : Nat} (hd : decode cc pc = .ok (.invokestatic index, 3)) (hlink : Cond.methodLink own index Lib.Math.max.name ∈ Ts) (hstat : Cond.static Lib.Math.max.name ∈ Ts) (hini : Cond.initialized "java/lang/Math" ∈ Ts) (hcode : Cond.code Lib.Math.max.name Lib.Math.max.code 2 (some .int) ∈ Ts) : am_Row (am_J p l e R s m args below meth c nL D cl ρ kc len Q) K pc (af_mmax) := by
  obtain ⟨hx, hb, hml, hown, hts, hK, hinj, hlk, hfr, hlo⟩ := C
  intro st x hpc hf hg
  obtain ⟨pc0, lv, sk, h⟩ := st
  cases hpc
  simp only [af_mmax] at hf
  split at hf
  · rename_i y x r
    split at hf
    · rename_i hb1
      cases hf
      intro H locs ls hlen hP hS hl
      refine va_mmax hx hb (hml.trans hl.1.symm) hown (hts _ hlink) (hts _ hstat) (hts _ hini) (hts _ hcode) hfr ?_ (Nat.zero_le _) (Nat.zero_le _) hd (hg H locs ls hlen hP hS hl)
      rw [am_cats]
      have := Nat.le_of_ble_eq_true hb1
      omega
    · cases hf
  · cases hf
def af_mmin : am_F := fun st => match st.2.2.1 with
  | .int y :: .int x :: r => match Nat.ble ((r.map fun v => v.category).sum) 8 with
    | true => am_go (st.1 + 3, st.2.1, .int (if y < x then y else x) :: r, st.2.2.2)
    | false => none
  | _ => none
theorem ar_mmin (C : am_Cx p R s m args meth c cc nL Ts own D cl ρ kc fts len) {index : Nat} (hd : decode cc pc = .ok (.invokestatic index, 3)) (hlink : Cond.methodLink own index Lib.Math.min.name ∈ Ts) (hstat : Cond.static Lib.Math.min.name ∈ Ts) (hini : Cond.initialized "java/lang/Math" ∈ Ts) (hcode : Cond.code Lib.Math.min.name Lib.Math.min.code 2 (some .int) ∈ Ts) : am_Row (am_J p l e R s m args below meth c nL D cl ρ kc len Q) K pc (af_mmin) := by
  obtain ⟨hx, hb, hml, hown, hts, hK, hinj, hlk, hfr, hlo⟩ := C
  intro st x hpc hf hg
  obtain ⟨pc0, lv, sk, h⟩ := st
  cases hpc
  simp only [af_mmin] at hf
  split at hf
  · rename_i y x r
    split at hf
    · rename_i hb1
      cases hf
      intro H locs ls hlen hP hS hl
      refine va_mmin hx hb (hml.trans hl.1.symm) hown (hts _ hlink) (hts _ hstat) (hts _ hini) (hts _ hcode) hfr ?_ (Nat.zero_le _) (Nat.zero_le _) hd (hg H locs ls hlen hP hS hl)
      rw [am_cats]
      have := Nat.le_of_ble_eq_true hb1
      omega
    · cases hf
  · cases hf
end AMR
section AMRet
variable {p : Program} {l : Launch} {e : Env} {R : Room} {s : State} {m : MethodId} {args : Array Value} {below : List Frame} {meth : Method} {c : Code} {cc : ByteArray} {nL : Nat} {Ts : List Cond} {own : String} {D : va_G} {cl : List vw_C} {ρ : Nat → Nat} {kc : Nat → ClassId} {fts : List FieldType} {len : Nat} {Qc : Array Value → State → Outcome → State → Prop}
variable {pc : Nat}
/-- what a return must give -/
def am_K (s : State) (args : Array Value) (D : va_G) (cl : List vw_C) (ρ : Nat → Nat) (kc : Nat → ClassId) (len : Nat) (Qc : Array Value → State → Outcome → State → Prop) (r : am_R) : Prop :=
  ∀ (H : Heap) (locs : List Loc), r.2.length = len → va_P D cl (am_w ρ kc r.2) H → va_S (am_A ρ len s.heap.size) s.heap H locs → ∀ t : State, t.heap = H → s.WarmedH t.vm → Qc args s (.returned (r.1.map (am_v ρ))) t
def af_ireturn : am_F := fun st => match st.2.2.1 with
  | [.int x] => am_rt (some (.int x), st.2.2.2)
  | _ => none
theorem ar_ireturn (C : am_Cx p R s m args meth c cc nL Ts own D cl ρ kc fts len) (hr : meth.sig.returnType = some .int) (hd : decode cc pc = .ok (.ireturn, 1)) : am_Row (am_J p l e R s m args below meth c nL D cl ρ kc len (MQ below Qc args s 0 0 (am_A ρ len s.heap.size))) (am_K s args D cl ρ kc len Qc) pc af_ireturn := by
  obtain ⟨hx, hb, hml, hown, hts, hK, hinj, hlk, hfr, hlo⟩ := C
  intro st x hpc hf hg
  obtain ⟨pc0, lv, sk, h⟩ := st
  cases hpc
  simp only [af_ireturn] at hf
  split at hf
  · rename_i x
    cases hf
    intro H locs ls hlen hP hS hl
    exact W.iret hx hb hr (fun t ht hW => hg H locs hlen hP hS t ht hW) hS.2.2 hd hlk
  · cases hf
def af_lreturn : am_F := fun st => match st.2.2.1 with
  | [.long x] => am_rt (some (.long x), st.2.2.2)
  | _ => none
theorem ar_lreturn (C : am_Cx p R s m args meth c cc nL Ts own D cl ρ kc fts len) (hr : meth.sig.returnType = some .long) (hd : decode cc pc = .ok (.lreturn, 1)) : am_Row (am_J p l e R s m args below meth c nL D cl ρ kc len (MQ below Qc args s 0 0 (am_A ρ len s.heap.size))) (am_K s args D cl ρ kc len Qc) pc af_lreturn := by
  obtain ⟨hx, hb, hml, hown, hts, hK, hinj, hlk, hfr, hlo⟩ := C
  intro st x hpc hf hg
  obtain ⟨pc0, lv, sk, h⟩ := st
  cases hpc
  simp only [af_lreturn] at hf
  split at hf
  · rename_i x
    cases hf
    intro H locs ls hlen hP hS hl
    exact W.lret hx hb hr (fun t ht hW => hg H locs hlen hP hS t ht hW) hS.2.2 hd hlk
  · cases hf
def af_zreturn : am_F := fun st => match st.2.2.1 with
  | [.int x] => if x = 0 ∨ x = 1 then am_rt (some (.int x), st.2.2.2) else none
  | _ => none
theorem ar_zreturn (C : am_Cx p R s m args meth c cc nL Ts own D cl ρ kc fts len) (hr : meth.sig.returnType = some .boolean) (hd : decode cc pc = .ok (.ireturn, 1)) : am_Row (am_J p l e R s m args below meth c nL D cl ρ kc len (MQ below Qc args s 0 0 (am_A ρ len s.heap.size))) (am_K s args D cl ρ kc len Qc) pc af_zreturn := by
  obtain ⟨hx, hb, hml, hown, hts, hK, hinj, hlk, hfr, hlo⟩ := C
  intro st x hpc hf hg
  obtain ⟨pc0, lv, sk, h⟩ := st
  cases hpc
  simp only [af_zreturn] at hf
  split at hf
  · rename_i x
    split at hf
    · rename_i h01
      cases hf
      intro H locs ls hlen hP hS hl
      exact W.zret (v := x) hx hb hr (by rcases h01 with rfl | rfl <;> decide) (fun t ht hW => hg H locs hlen hP hS t ht hW) hS.2.2 hd hlk
    · cases hf
  · cases hf
def af_return : am_F := fun st => match st.2.2.1 with
  | [] => am_rt (none, st.2.2.2)
  | _ => none
theorem ar_return (C : am_Cx p R s m args meth c cc nL Ts own D cl ρ kc fts len) (hr : meth.sig.returnType = none) (hd : decode cc pc = .ok (.return_, 1)) : am_Row (am_J p l e R s m args below meth c nL D cl ρ kc len (MQ below Qc args s 0 0 (am_A ρ len s.heap.size))) (am_K s args D cl ρ kc len Qc) pc af_return := by
  obtain ⟨hx, hb, hml, hown, hts, hK, hinj, hlk, hfr, hlo⟩ := C
  intro st x hpc hf hg
  obtain ⟨pc0, lv, sk, h⟩ := st
  cases hpc
  simp only [af_return] at hf
  split at hf
  · cases hf
    intro H locs ls hlen hP hS hl
    exact W.vret hx hb hr (fun t ht hW => hg H locs hlen hP hS t ht hW) hS.2.2 hd hlk
  · cases hf
end AMRet
-- ===== calls =====
def am_Pc (D : va_G) (cl : List vw_C) (ρ : Nat → Nat) (kc : Nat → ClassId) (fts : List FieldType) (sz : Nat) (av : List Value) (h : am_H) : Array Value → State → Prop :=
  va_Pc (av.map (am_v ρ)) (fun U => U.heap.size = sz ∧ va_P D cl (am_w ρ kc h) U.heap ∧ va_K D cl (am_tys kc fts) U)
def am_Qc (D : va_G) (cl : List vw_C) (ρ : Nat → Nat) (kc : Nat → ClassId) (len sz : Nat) (r : am_R) : Array Value → State → Outcome → State → Prop :=
  fun _ st oc t => (oc = .returned (r.1.map (am_v ρ)) ∧ va_P D cl (am_w ρ kc r.2) t.heap ∧ r.2.length = len) ∧ va_F (am_A ρ len sz) st t
def am_rm (d : Nat) : Room := { frames := d, cells := 0, slots := 0, locals := 40 * d }
section AMC
variable {p : Program} {l : Launch} {e : Env} {R : Room} {s : State} {m : MethodId} {args : Array Value} {below : List Frame} {meth : Method} {c : Code} {cc : ByteArray} {nL : Nat} {Ts : List Cond} {own : String} {D : va_G} {cl : List vw_C} {ρ : Nat → Nat} {kc : Nat → ClassId} {fts : List FieldType} {len : Nat} {Q : State → Prop} {K : am_R → Prop}
variable {pc : Nat}
theorem am_blind {D : va_G} {cl : List vw_C} {ρ : Nat → Nat} {kc : Nat → ClassId} {fts : List FieldType} {sz : Nat} {av : List Value} {h : am_H} : FrameBlind (am_Pc D cl ρ kc fts sz av h) :=
  fun a U g mk q => ⟨q.1, q.2.1, q.2.2.1, va_K.moved (u := U) (U := U.calling g mk a) (Vm.Alike.refl U.vm) q.2.2.2⟩
theorem am_goes {H : Heap} {locs : List Loc} {mc ms sz k n : Nat} {g : JFrame} {rest : List Value} {a : Array Value} {r : am_R} (hg : g.pc + 3 = g.pc + 3) (hr : va_Run p l e R s m args below meth c H locs k n mc ms g rest (am_Qc D cl ρ kc len sz r a) (am_A ρ len sz)) (hS : va_S (am_A ρ len s.heap.size) s.heap H locs) (hsz : H.size = sz)
    (kk : ∀ (H1 : Heap) (locs1 : List Loc), r.2.length = len → va_P D cl (am_w ρ kc r.2) H1 → va_S (am_A ρ len s.heap.size) s.heap H1 locs1 → W p l e R s m args below meth c H1 locs1 (k + mc) (n + ms) Q { g with pc := g.pc + 3, stack := (r.1.map (am_v ρ)).toList ++ rest }) : W p l e R s m args below meth c H locs k n Q g := by
  intro T hT X
  obtain ⟨v, st₀, t, T', L, h0, X', hL, e1, e2, ⟨⟨hv, hp, hlen⟩, hz, hk⟩, st⟩ := hr T hT X
  cases hv
  rw [h0] at hz hk
  have hA : ∀ q, am_A ρ len sz q → am_A ρ len s.heap.size q := fun q hq => by
    rcases hq with hq | hq
    · exact Or.inl hq
    · exact Or.inr (Nat.le_trans hS.1 (by rw [hsz]; exact hq))
  obtain ⟨t2, a1, b1⟩ := kk T'.heap (locs ++ L) hlen (by rw [e1]; exact hp)
    ⟨Nat.le_trans hS.1 (by rw [e1]; exact hz), fun q h1 h2 => by rw [e1, hk q (Nat.lt_of_lt_of_le h1 hS.1) (fun z => h2 (hA q z))]; exact hS.2.1 q h1 h2, fun q hq => by
      rcases List.mem_append.mp hq with h | h
      · exact hS.2.2 q h
      · exact hA _ (hL q h)⟩ T' rfl X'
  exact ⟨t2, st t2 a1, b1⟩
/-- what is known of the callees -/
def am_Ce (l : Launch) (call : am_C) (rm : Room) (D : va_G) (cl : List vw_C) (ρ : Nat → Nat) (kc : Nat → ClassId) (fts : List FieldType) (len : Nat) (id : Nat) (y : MethodName) (ws : List Cond) : Prop :=
  ∀ (av : List Value) (h : am_H) (r : am_R) (sz : Nat), call id av h = some r → h.length = len → Met l y ws rm (am_Pc D cl ρ kc fts sz av h) (am_Qc D cl ρ kc len sz r) 0 0 (am_A ρ len sz)
def af_callV (call : am_C) (id n ci : Nat) : am_F := fun st => match st.2.2.1.drop n with
  | .ref b :: r => match st.2.2.2[b]? with
    | some (.inr (c, fs)) => match Nat.beq c ci, Nat.beq (st.2.2.1.take n).length n, Nat.ble ((r.map fun v => v.category).sum) 8 with
      | true, true, true => am_cc (call id (.ref b :: (st.2.2.1.take n).reverse) st.2.2.2) (fun q => (st.1 + 3, st.2.1, q.1.toList ++ r, q.2))
      | _, _, _ => none
    | _ => none
  | _ => none
def af_callS (call : am_C) (id n : Nat) : am_F := fun st => match Nat.beq (st.2.2.1.take n).length n, Nat.ble (((st.2.2.1.drop n).map fun v => v.category).sum) 8 with
  | true, true => am_cc (call id (st.2.2.1.take n).reverse st.2.2.2) (fun q => (st.1 + 3, st.2.1, q.1.toList ++ st.2.2.1.drop n, q.2))
  | _, _ => none
theorem am_toList (ρ : Nat → Nat) (o : Option Value) (r : List Value) : (o.toList ++ r).map (am_v ρ) = (o.map (am_v ρ)).toList ++ r.map (am_v ρ) := by cases o <;> rfl
theorem ar_callV (C : am_Cx p R s m args meth c cc nL Ts own D cl ρ kc fts len) {call : am_C} {rm : Room} {id n ci index maxL : Nat} {q9 : vw_C} {y : MethodName} {bytes : ByteArray} {ret : Option FieldType} {ws ws' : List Cond} (hd : decode cc pc = .ok (.invokevirtual index, 3)) (hce : am_Ce l call rm D cl ρ kc fts len id y ws) (hc : cl[ci]? = some q9) (hT : GoodIn Ts (wsV own index q9.1 y ws)) (hw : ws = Cond.code y bytes maxL ret :: ws')
    (hdd : y.cls = q9.1 ∧ y.cls ≠ "java/lang/invoke/MethodHandle" ∧ y.cls ≠ "java/lang/invoke/VarHandle" ∧ (parseMethodDescriptor y.desc).map (fun d => d.parameters.length) = some n) (hrm : rm.cells = 0 ∧ rm.slots = 0) (hR : rm.frames + 1 ≤ R.frames ∧ 8 + (maxL + 11) + rm.locals ≤ R.locals) : am_Row (am_J p l e R s m args below meth c nL D cl ρ kc len Q) K pc (af_callV call id n ci) := by
  obtain ⟨hx, hb, hml, hown, hts, hK, hinj, hlk, hfr, hlo⟩ := C
  intro st x hpc hf hg
  obtain ⟨pc0, lv, sk, h⟩ := st
  cases hpc
  simp only [af_callV] at hf
  split at hf
  · rename_i b r hx1
    split at hf
    · rename_i c' fs hx2
      split at hf
      · rename_i hb1 hb2 hb3
        cases hf
        cases Nat.eq_of_beq_eq_true hb1
        obtain ⟨q, hq, hj⟩ := hg
        intro H locs ls hlen hP hS hl
        have hM := hce (.ref b :: (sk.take n).reverse) h q H.size hq hlen
        have hsk : sk = sk.take n ++ (.ref b :: r) := by rw [← hx1]; exact (List.take_append_drop n sk).symm
        have hstk : sk.map (am_v ρ) = ((sk.take n).reverse.map (am_v ρ)).reverse ++ .ref (ρ b) :: r.map (am_v ρ) := by
          rw [← List.map_reverse, List.reverse_reverse]
          conv => lhs; rw [hsk]
          rw [List.map_append]
          rfl
        have hrun := va_runV (p := p) (l := l) (e := e) (R := R) (s := s) (m := m) (args := args) (below := below) (meth := meth) (c := c) (H := H) (locs := locs) (cells := 0) (slots := 0) (g := F0 m pc0 ls (sk.map (am_v ρ))) (As := (sk.take n).reverse.map (am_v ρ)) (rest := r.map (am_v ρ)) (b := ρ b) ⟨hx, hb, hml, hown, hts⟩ hM
          (cwV n hts hT hw hrm.1 hrm.2 hdd hR) ⟨am_blind, va_recv hK hP hc (am_w_at hx2), fun U hU hW => ⟨rfl, by rw [hU], by rw [hU]; exact hP, va_K.moved hW.alike hK⟩⟩ rfl
          (by rw [List.length_map, List.length_reverse]; exact Nat.eq_of_beq_eq_true hb2) hl.1 hstk
          (lv_room (by rw [am_cats]; exact Nat.le_of_ble_eq_true hb3)) hd ⟨Nat.zero_le _, Nat.zero_le _⟩
        refine am_goes rfl hrun hS rfl (fun H1 locs1 hl1 hP1 hS1 => ?_)
        have hq2 := hj H1 locs1 ls hl1 hP1 hS1 hl
        rw [am_toList] at hq2
        exact hq2
      · cases hf
    · cases hf
  · cases hf
theorem ar_callS (C : am_Cx p R s m args meth c cc nL Ts own D cl ρ kc fts len) {call : am_C} {rm : Room} {id n index maxL : Nat} {y : MethodName} {bytes : ByteArray} {ret : Option FieldType} {ws ws' : List Cond} (hd : decode cc pc = .ok (.invokestatic index, 3)) (hce : am_Ce l call rm D cl ρ kc fts len id y ws) (hT : GoodIn Ts (wsS own index y ws)) (hw : ws = Cond.code y bytes maxL ret :: ws')
    (hdd : y.cls = own ∧ y.cls ≠ "java/lang/invoke/MethodHandle" ∧ y.cls ≠ "java/lang/invoke/VarHandle" ∧ (parseMethodDescriptor y.desc).map (fun d => d.parameters.length) = some n) (hrm : rm.cells = 0 ∧ rm.slots = 0) (hR : rm.frames + 1 ≤ R.frames ∧ 8 + (maxL + 11) + rm.locals ≤ R.locals) : am_Row (am_J p l e R s m args below meth c nL D cl ρ kc len Q) K pc (af_callS call id n) := by
  obtain ⟨hx, hb, hml, hown, hts, hK, hinj, hlk, hfr, hlo⟩ := C
  intro st x hpc hf hg
  obtain ⟨pc0, lv, sk, h⟩ := st
  cases hpc
  simp only [af_callS] at hf
  split at hf
  · rename_i hb2 hb3
    cases hf
    obtain ⟨q, hq, hj⟩ := hg
    intro H locs ls hlen hP hS hl
    have hM := hce (sk.take n).reverse h q H.size hq hlen
    have hrun := va_runS (p := p) (l := l) (e := e) (R := R) (s := s) (m := m) (args := args) (below := below) (meth := meth) (c := c) (H := H) (locs := locs) (cells := 0) (slots := 0) (g := F0 m pc0 ls (sk.map (am_v ρ))) (As := (sk.take n).reverse.map (am_v ρ)) (rest := (sk.drop n).map (am_v ρ)) ⟨hx, hb, hml, hown, hts⟩ hM
      (cwS n hts hT hw hrm.1 hrm.2 hdd hR) ⟨am_blind, fun U hU hW => ⟨rfl, by rw [hU], by rw [hU]; exact hP, va_K.moved hW.alike hK⟩⟩ rfl
      (by rw [List.length_map, List.length_reverse]; exact Nat.eq_of_beq_eq_true hb2) hl.1 (by show sk.map (am_v ρ) = _; rw [← List.map_reverse, List.reverse_reverse, ← List.map_append, List.take_append_drop])
      (lv_room (by rw [am_cats]; exact Nat.le_of_ble_eq_true hb3)) hd ⟨Nat.zero_le _, Nat.zero_le _⟩
    refine am_goes rfl hrun hS rfl (fun H1 locs1 hl1 hP1 hS1 => ?_)
    have hq2 := hj H1 locs1 ls hl1 hP1 hS1 hl
    rw [am_toList] at hq2
    exact hq2
  · cases hf
end AMC
/-- A METHOD'S CONTRACT OUT OF ITS TABLE -/
theorem am_met {l : Launch} {y : MethodName} {ws ws' : List Cond} {rm : Room} {cc : ByteArray} {maxL : Nat} {ret : Option FieldType} {D : va_G} {cl : List vw_C} {ρ : Nat → Nat} {kc : Nat → ClassId} {fts : List FieldType} {len : Nat} {T : am_T} {av : List Value} {h : am_H} {r : am_R} {sz : Nat}
    (hy : plainName y.cls = true) (hw : ws = Cond.code y cc maxL ret :: ws') (hinj : am_inj ρ len) (hrm : 1 ≤ rm.frames ∧ 21 ≤ rm.locals) (hav : (lg_sl av).length ≤ maxL)
    (hT : ∀ (p : Program) (e : Env) (s : State) (m : MethodId) (args : Array Value) (below : List Frame) (meth : Method) (c : Code) (Qc : Array Value → State → Outcome → State → Prop), am_Cx p rm s m args meth c cc maxL ws y.cls D cl ρ kc fts len → meth.sig.returnType = ret →
      ∀ q ∈ T, am_Row (am_J p l e rm s m args below meth c maxL D cl ρ kc len (MQ below Qc args s 0 0 (am_A ρ len s.heap.size))) (am_K s args D cl ρ kc len Qc) q.1 q.2)
    (he : am_Ev T (0, lv_args 0 av, [], h) r) (hlen : h.length = len) : Met l y ws rm (am_Pc D cl ρ kc fts sz av h) (am_Qc D cl ρ kc len sz r) 0 0 (am_A ρ len sz) := by
  refine Met.ofW (cc := cc) (maxL := maxL) (ret := ret) hy hw ?_
  intro p e s m args below meth c s₁ B hml hv
  obtain ⟨rfl, hsz, hP, hK⟩ := hv
  subst hsz
  have hts := atoms_spec (ws := ws) B.pre
  have hC : am_Cx p rm s m (av.map (am_v ρ)).toArray meth c cc maxL ws y.cls D cl ρ kc fts len := ⟨B.exec, B.bytes, hml, findClass_of_methodNamed B.named, hts, hK, hinj, B.notSynchronized, hrm⟩
  obtain ⟨n, he⟩ := he
  have hJ := am_sound (hT p e s m _ below meth c (am_Qc D cl ρ kc len s.heap.size r) hC B.returns) n _ r he (fun H locs h1 h2 h3 t ht hW => ⟨⟨rfl, by rw [ht]; exact h2, h1⟩, h3.F ht⟩)
  rw [lg_entry_eq]
  refine hJ s.heap [] _ hlen hP va_S.rf ?_
  have hl := lv_entry (av.map (am_v ρ)) (n := maxL) (by rw [am_sl_len ρ av (am_v ρ) (am_cat ρ)]; exact hav)
  have hla : lv_args 0 (av.map (am_v ρ)) = am_l ρ (lv_args 0 av) := by
    have key : ∀ (i : Nat) (vs : List Value), lv_args i (vs.map (am_v ρ)) = am_l ρ (lv_args i vs) := by
      intro i vs
      induction vs generalizing i with
      | nil => rfl
      | cons v vs ih => simp only [List.map_cons, lv_args, am_l, am_cat]; rw [ih]; rfl
    exact key 0 av
  rw [hla] at hl
  exact hl
-- ===== how runs are put together =====
theorem am_ift {α : Type} {b : Bool} {x y : α} (h : b = true) : (if b then x else y) = x := if_pos h
theorem am_iff {α : Type} {b : Bool} {x y : α} (h : b = false) : (if b then x else y) = y := if_neg (by rw [h]; exact Bool.false_ne_true)
theorem am_ifn {α : Type} {b : Bool} {x : Option α} {r : α} (h : (if b then x else none) = some r) : b = true ∧ x = some r := by
  cases b with
  | true => exact ⟨rfl, h⟩
  | false => cases h
def am_pick (bs : List (Bool × am_S)) (s : am_S) : am_S := match bs with
  | [] => s
  | (b, s1) :: l => if b then s1 else am_pick l s
theorem am_foldr_pick {E : am_S → Option am_R} : ∀ (bs : List (Bool × am_S)) (s : am_S), bs.foldr (fun q z => if q.1 then E q.2 else z) (E s) = E (am_pick bs s)
  | [], _ => rfl
  | (true, _) :: _, _ => rfl
  | (false, _) :: l, s => am_foldr_pick l s
theorem am_Ev.multi {T : am_T} {st s : am_S} {r : am_R} {bs : List (Bool × am_S)} (k : Nat) (he : ∀ n, am_ex T (n + k) st = bs.foldr (fun q z => if q.1 then am_ex T n q.2 else z) (am_ex T n s)) (h : am_Ev T (am_pick bs s) r) : am_Ev T st r :=
  am_Ev.go k (fun n => (he n).trans (am_foldr_pick bs s)) h
theorem am_Ev.sw1 {T : am_T} {s1 s : am_S} {r : am_R} {b : Bool} {bs : List (Bool × am_S)} (h1 : b = true → am_Ev T s1 r) (h2 : b = false → am_Ev T (am_pick bs s) r) : am_Ev T (am_pick ((b, s1) :: bs) s) r := by
  cases b with
  | true => exact h1 rfl
  | false => exact h2 rfl
theorem am_Ev.sw0 {T : am_T} {s : am_S} {r : am_R} (h : am_Ev T s r) : am_Ev T (am_pick [] s) r := h
theorem am_Ev.same {T : am_T} {st st' : am_S} {r : am_R} (he : ∀ n, am_ex T (n + 1) st = am_ex T (n + 1) st') (h : am_Ev T st' r) : am_Ev T st r := by
  obtain ⟨n, h⟩ := h
  exact ⟨n + 1, (he n).trans (am_ex_mono1 T n _ _ h)⟩
theorem am_cons {J : am_S → Prop} {K : am_R → Prop} {pc : Nat} {f : am_F} {T : am_T} (h : am_Row J K pc f) (t : ∀ q ∈ T, am_Row J K q.1 q.2) : ∀ q ∈ (pc, f) :: T, am_Row J K q.1 q.2 := fun q hq => by
  rcases List.mem_cons.mp hq with rfl | hq
  · exact h
  · exact t q hq
theorem am_nil {J : am_S → Prop} {K : am_R → Prop} : ∀ q ∈ ([] : am_T), am_Row J K q.1 q.2 := fun _ h => nomatch h

