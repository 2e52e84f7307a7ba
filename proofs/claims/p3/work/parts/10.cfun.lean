/-! THE CLASS'S STATE: what its cells hold, by parts. Bytes: row, size. TextReader: defined, useLiterals, usePlaces, gatePlaces, gateBits, rests, uses, place, fault. Design: rows, counts, sequence, marks, most, latchBits. sw: which of the two designs is the first. -/
abbrev SB : Type := (Nat → Int32) × Int32
abbrev SR : Type := (Nat → Int32) × (Nat → Int32) × (Nat → Int32) × (Nat → Int32) × (Nat → Int64) × (Nat → Int64) × Int32 × Int32 × Int32
abbrev SD : Type := (Nat → Nat → Int32) × (Nat → Int32) × (Nat → Int32) × (Nat → Int32) × Int32 × Int32
def hp (tx pg : SB) (rd : SR) (a b : SD) (sw : Bool) : am_H :=
  [.inr (0, [.ref 1, .ref 3, .ref 5, .ref 12, .ref (bif sw then 26 else 13), .ref (bif sw then 13 else 26)]),
   .inr (1, [.ref 2, .int tx.2]),
   .inl (0, 1500, .inl tx.1),
   .inr (1, [.ref 4, .int pg.2]),
   .inl (0, 1500, .inl pg.1),
   .inr (4, [.ref 1, .ref 6, .ref 7, .ref 8, .ref 9, .ref 10, .ref 11, .int rd.2.2.2.2.2.2.1, .int rd.2.2.2.2.2.2.2.1, .int rd.2.2.2.2.2.2.2.2]),
   .inl (2, 100, .inl rd.1),
   .inl (1, 136, .inl rd.2.1),
   .inl (1, 136, .inl rd.2.2.1),
   .inl (1, 60, .inl rd.2.2.2.1),
   .inl (3, 100, .inr (.inl rd.2.2.2.2.1)),
   .inl (3, 60, .inr (.inl rd.2.2.2.2.2.1)),
   .inr (3, [.ref 3]),
   .inr (2, [.ref 14, .ref 23, .ref 24, .ref 25, .int a.2.2.2.2.1, .int a.2.2.2.2.2]),
   .inl (4, 8, .inr (.inr (.inr (.inr (fun i => some (15 + i)))))),
   .inl (1, 60, .inl (a.1 0)),
   .inl (1, 60, .inl (a.1 1)),
   .inl (1, 60, .inl (a.1 2)),
   .inl (1, 60, .inl (a.1 3)),
   .inl (1, 60, .inl (a.1 4)),
   .inl (1, 60, .inl (a.1 5)),
   .inl (1, 60, .inl (a.1 6)),
   .inl (1, 60, .inl (a.1 7)),
   .inl (1, 4, .inl a.2.1),
   .inl (1, 60, .inl a.2.2.1),
   .inl (1, 100, .inl a.2.2.2.1),
   .inr (2, [.ref 27, .ref 36, .ref 37, .ref 38, .int b.2.2.2.2.1, .int b.2.2.2.2.2]),
   .inl (4, 8, .inr (.inr (.inr (.inr (fun i => some (28 + i)))))),
   .inl (1, 60, .inl (b.1 0)),
   .inl (1, 60, .inl (b.1 1)),
   .inl (1, 60, .inl (b.1 2)),
   .inl (1, 60, .inl (b.1 3)),
   .inl (1, 60, .inl (b.1 4)),
   .inl (1, 60, .inl (b.1 5)),
   .inl (1, 60, .inl (b.1 6)),
   .inl (1, 60, .inl (b.1 7)),
   .inl (1, 4, .inl b.2.1),
   .inl (1, 60, .inl b.2.2.1),
   .inl (1, 100, .inl b.2.2.2.1)]
def am_rset (r : Nat → Nat → Int32) (i j : Nat) (v : Int32) : Nat → Nat → Int32 := fun k => if k = i then upd (r k) j v else r k
theorem am_rng {x : Int32} {n : Int32} (h0 : ¬ x < 0) (h1 : ¬ n ≤ x) {N : Int} (hn : n.toInt = N) : 0 ≤ x.toInt ∧ x.toInt < N := by
  rw [Int32.lt_iff_toInt_lt] at h0
  rw [Int32.le_iff_toInt_le] at h1
  have h2 : (0 : Int32).toInt = 0 := by decide
  omega
theorem am_kind8 {x : Int32} (h0 : ¬ x < 0) (h1 : ¬ (8 : Int32) ≤ x) : x = 0 ∨ x = 1 ∨ x = 2 ∨ x = 3 ∨ x = 4 ∨ x = 5 ∨ x = 6 ∨ x = 7 := by
  obtain ⟨a, b⟩ := am_rng h0 h1 (N := 8) (by decide)
  have key : ∀ c : Int32, x.toInt = c.toInt → x = c := fun c e => Int32.toInt_inj.mp e
  have hx : x.toInt = 0 ∨ x.toInt = 1 ∨ x.toInt = 2 ∨ x.toInt = 3 ∨ x.toInt = 4 ∨ x.toInt = 5 ∨ x.toInt = 6 ∨ x.toInt = 7 := by omega
  rcases hx with h | h | h | h | h | h | h | h
  · exact Or.inl (key 0 h)
  · exact Or.inr (Or.inl (key 1 h))
  · exact Or.inr (Or.inr (Or.inl (key 2 h)))
  · exact Or.inr (Or.inr (Or.inr (Or.inl (key 3 h))))
  · exact Or.inr (Or.inr (Or.inr (Or.inr (Or.inl (key 4 h)))))
  · exact Or.inr (Or.inr (Or.inr (Or.inr (Or.inr (Or.inl (key 5 h))))))
  · exact Or.inr (Or.inr (Or.inr (Or.inr (Or.inr (Or.inr (Or.inl (key 6 h)))))))
  · exact Or.inr (Or.inr (Or.inr (Or.inr (Or.inr (Or.inr (Or.inr (key 7 h)))))))
def fn_D_get (x1 : Int32) (x2 : Int32) (d : SD) : Option (Int32) :=
  if decide (x1 < 0) then some 0
  else if decide ((8 : Int32) ≤ x1) then some 0
  else if decide (x2 < 0) then some 0
  else if decide ((60 : Int32) ≤ x2) then some 0
  else some (d.1 x1.toNatClampNeg x2.toNatClampNeg)
def fn_D_set (x1 : Int32) (x2 : Int32) (x3 : Int32) (d : SD) : Option (SD) :=
  if decide (x1 < 0) then some d
  else if decide ((8 : Int32) ≤ x1) then some d
  else if decide (x2 < 0) then some d
  else if decide ((60 : Int32) ≤ x2) then some d
  else some (am_rset d.1 x1.toNatClampNeg x2.toNatClampNeg x3, d.2)

def fn_B_size (y : SB) : Option (Int32) :=
  some y.2
def fn_B_clear (y : SB) : Option (SB) :=
  some (y.1, 0)
def fn_B_add (x1 : Int32) (y : SB) : Option (SB) :=
  if decide (y.2 < 0) then
    some y
  else
    if decide ((1500 : Int32) ≤ y.2) then
      some y
    else
      if decide (0 ≤ y.2.toInt ∧ y.2.toInt < (1500 : Int)) then
      some (upd y.1 y.2.toNatClampNeg (vp_nar .byte x1.toInt8.toInt32), y.2 + (1 : Int32))
      else none
def fn_B_at (x1 : Int32) (y : SB) : Option (Int32) :=
  if decide (x1 < 0) then
    some (-1 : Int32)
  else
    if decide (y.2 ≤ x1) then
      some (-1 : Int32)
    else
      if decide ((1500 : Int32) ≤ x1) then
        some (-1 : Int32)
      else
        if decide (0 ≤ x1.toInt ∧ x1.toInt < (1500 : Int)) then
        some ((y.1 x1.toNatClampNeg) &&& (255 : Int32))
        else none
def fn_D_most (d : SD) : Option (Int32) :=
  some d.2.2.2.2.1
def fn_D_setMost (x1 : Int32) (d : SD) : Option (SD) :=
  some (d.1, d.2.1, d.2.2.1, d.2.2.2.1, x1, d.2.2.2.2.2)
def fn_D_latchBits (d : SD) : Option (Int32) :=
  some d.2.2.2.2.2
def fn_D_many (x1 : Int32) (d : SD) : Option (Int32) :=
  if decide (x1 = 0) then
    if decide (0 ≤ (0 : Int32).toInt ∧ (0 : Int32).toInt < (4 : Int)) then
    some (d.2.1 ((0 : Int32).toNatClampNeg))
    else none
  else
  if decide (x1 = 1) then
    if decide (0 ≤ (1 : Int32).toInt ∧ (1 : Int32).toInt < (4 : Int)) then
    some (d.2.1 ((1 : Int32).toNatClampNeg))
    else none
  else
  if decide (x1 = 2) then
    if decide (0 ≤ (2 : Int32).toInt ∧ (2 : Int32).toInt < (4 : Int)) then
    some (d.2.1 ((2 : Int32).toNatClampNeg))
    else none
  else
  if decide (x1 = 3) then
    if decide (0 ≤ (3 : Int32).toInt ∧ (3 : Int32).toInt < (4 : Int)) then
    some (d.2.1 ((3 : Int32).toNatClampNeg))
    else none
  else
  if decide (x1 = 4) then
    if decide (0 ≤ (1 : Int32).toInt ∧ (1 : Int32).toInt < (4 : Int)) then
    some (d.2.1 ((1 : Int32).toNatClampNeg))
    else none
  else
  if decide (x1 = 5) then
    if decide (0 ≤ (1 : Int32).toInt ∧ (1 : Int32).toInt < (4 : Int)) then
    some (d.2.1 ((1 : Int32).toNatClampNeg))
    else none
  else
  if decide (x1 = 6) then
    if decide (0 ≤ (3 : Int32).toInt ∧ (3 : Int32).toInt < (4 : Int)) then
    some (d.2.1 ((3 : Int32).toNatClampNeg))
    else none
  else
  if decide (x1 = 7) then
    if decide (0 ≤ (3 : Int32).toInt ∧ (3 : Int32).toInt < (4 : Int)) then
    some (d.2.1 ((3 : Int32).toNatClampNeg))
    else none
  else
    some (0 : Int32)
def fn_D_setMany (x1 : Int32) (x2 : Int32) (d : SD) : Option (SD) :=
  if decide (x1 < 0) then
    some d
  else
    if decide ((4 : Int32) ≤ x1) then
      some d
    else
      if decide (0 ≤ x1.toInt ∧ x1.toInt < (4 : Int)) then
      some (d.1, upd d.2.1 x1.toNatClampNeg ((if (0 : Int32) < (if (60 : Int32) < x2 then (60 : Int32) else x2) then (if (60 : Int32) < x2 then (60 : Int32) else x2) else (0 : Int32))), d.2.2.1, d.2.2.2.1, d.2.2.2.2.1, d.2.2.2.2.2)
      else none
def fn_D_forget_2 (κ : SD → Option (SD)) : Nat → Int32 → SD → Option (SD)
  | 0, _, _ => none
  | n + 1, x1, d =>
    if decide ((100 : Int32) ≤ x1) then
      κ d
    else
      if decide (0 ≤ x1.toInt ∧ x1.toInt < (100 : Int)) then
      fn_D_forget_2 κ n (x1 + 1) (d.1, d.2.1, d.2.2.1, upd d.2.2.2.1 x1.toNatClampNeg ((0 : Int32)), d.2.2.2.2.1, d.2.2.2.2.2)
      else none
def fn_D_forget (d : SD) : Option (SD) :=
  fn_D_forget_2 (fun d_2 =>
    some d_2) am_NF (0 : Int32) d
def fn_D_inSequence (x1 : Int32) (d : SD) : Option (Int32) :=
  if decide (x1 < 0) then
    some (0 : Int32)
  else
    if decide ((60 : Int32) ≤ x1) then
      some (0 : Int32)
    else
      if decide (0 ≤ x1.toInt ∧ x1.toInt < (60 : Int)) then
      some (d.2.2.1 x1.toNatClampNeg)
      else none
def fn_D_mark (x1 : Int32) (x2 : Int32) (d : SD) : Option (SD) :=
  if decide ((x1 >>> ((1 : Int32) &&& 31)) < 0) then
    some d
  else
    if decide ((100 : Int32) ≤ (x1 >>> ((1 : Int32) &&& 31))) then
      some d
    else
      if decide (0 ≤ (x1 >>> ((1 : Int32) &&& 31)).toInt ∧ (x1 >>> ((1 : Int32) &&& 31)).toInt < (100 : Int)) then
      some (d.1, d.2.1, d.2.2.1, upd d.2.2.2.1 (x1 >>> ((1 : Int32) &&& 31)).toNatClampNeg x2, d.2.2.2.2.1, d.2.2.2.2.2)
      else none
def fn_D_markOf (x1 : Int32) (d : SD) : Option (Int32) :=
  if decide ((x1 >>> ((1 : Int32) &&& 31)) < 0) then
    some (0 : Int32)
  else
    if decide ((100 : Int32) ≤ (x1 >>> ((1 : Int32) &&& 31))) then
      some (0 : Int32)
    else
      if decide (0 ≤ (x1 >>> ((1 : Int32) &&& 31)).toInt ∧ (x1 >>> ((1 : Int32) &&& 31)).toInt < (100 : Int)) then
      some (d.2.2.2.1 ((x1 >>> ((1 : Int32) &&& 31)).toNatClampNeg))
      else none
def fn_R_gateBit (x1 : Int32) (rd : SR) : Option (Int64) :=
  if decide ((x1 >>> ((1 : Int32) &&& 31)) < 0) then
    some (0 : Int64)
  else
    if decide ((100 : Int32) ≤ (x1 >>> ((1 : Int32) &&& 31))) then
      some (0 : Int64)
    else
      if decide (0 ≤ (x1 >>> ((1 : Int32) &&& 31)).toInt ∧ (x1 >>> ((1 : Int32) &&& 31)).toInt < (100 : Int)) then
      some (rd.2.2.2.2.1 ((x1 >>> ((1 : Int32) &&& 31)).toNatClampNeg))
      else none
def fn_R_isDigit (x0 : Int32) : Option (Int32) :=
  if decide (x0 < (48 : Int32)) then
    some (0 : Int32)
  else
    if decide ((57 : Int32) < x0) then
      some (0 : Int32)
    else
      some (1 : Int32)
def fn_R_fail (x1 : Int32) (rd : SR) : Option (SR) :=
  if decide (rd.2.2.2.2.2.2.2.2 = (-1 : Int32)) then
    some (rd.1, rd.2.1, rd.2.2.1, rd.2.2.2.1, rd.2.2.2.2.1, rd.2.2.2.2.2.1, rd.2.2.2.2.2.2.1, rd.2.2.2.2.2.2.2.1, x1)
  else
    some rd
def fn_T_exchange : Option (Unit) :=
  some ()
def fn_D_holds (x1 : Int32) (x2 : Int32) (d : SD) : Option (Int32) :=
  if decide (x2 < 0) then
    some (0 : Int32)
  else
    (fn_D_many x1 d).bind fun q1 =>
    if decide (q1 ≤ x2) then
      some (0 : Int32)
    else
      some (1 : Int32)
def fn_D_restart_4 (κ : Int32 → SD → Option (SD)) : Nat → Int32 → Int32 → SD → Option (SD)
  | 0, _, _, _ => none
  | n + 1, x1, x2, d =>
    (fn_D_many (1 : Int32) d).bind fun q1 =>
    if decide (q1 ≤ x2) then
      κ x1 d
    else
      (fn_D_get (5 : Int32) x2 d).bind fun q2 =>
      fn_D_restart_4 κ n (x1 ||| (q2 <<< (x2 &&& 31))) (x2 + 1) d
def fn_D_restart (d : SD) : Option (SD) :=
  fn_D_restart_4 (fun x1_4 d_4 =>
    some (d_4.1, d_4.2.1, d_4.2.2.1, d_4.2.2.2.1, d_4.2.2.2.2.1, x1_4)) am_NF (0 : Int32) (0 : Int32) d
def fn_D_countsUp_2 (x1 : Int32) (x2 : Int32) (d : SD) (κ : Option (Int32)) : Nat → Int32 → Option (Int32)
  | 0, _ => none
  | n + 1, x3 =>
    (fn_D_many x1 d).bind fun q1 =>
    if decide (q1 ≤ x3) then
      κ
    else
      (fn_D_get x1 x3 d).bind fun q2 =>
      if decide (q2 = ((2 : Int32) * ((x2 + x3) + (1 : Int32)))) then
        fn_D_countsUp_2 x1 x2 d κ n (x3 + 1)
      else
        some (0 : Int32)
def fn_D_countsUp (x1 : Int32) (x2 : Int32) (d : SD) : Option (Int32) :=
  fn_D_countsUp_2 x1 x2 d (
    some (1 : Int32)) am_NF (0 : Int32)
def fn_D_gatesLookBack_2 (d : SD) (κ : Option (Int32)) : Nat → Int32 → Option (Int32)
  | 0, _ => none
  | n + 1, x1 =>
    (fn_D_many (3 : Int32) d).bind fun q1 =>
    if decide (q1 ≤ x1) then
      κ
    else
      (fn_D_get (6 : Int32) x1 d).bind fun q2 =>
      (fn_D_get (3 : Int32) x1 d).bind fun q3 =>
      if decide (q3 ≤ q2) then
        some (0 : Int32)
      else
        (fn_D_get (7 : Int32) x1 d).bind fun q4 =>
        if decide (q4 ≤ q2) then
          fn_D_gatesLookBack_2 d κ n (x1 + 1)
        else
          some (0 : Int32)
def fn_D_gatesLookBack (d : SD) : Option (Int32) :=
  fn_D_gatesLookBack_2 d (
    some (1 : Int32)) am_NF (0 : Int32)
def fn_D_truth (x1 : Int32) (d : SD) : Option (Int32) :=
  (fn_D_markOf x1 d).bind fun q1 =>
  some (q1 ^^^ (x1 &&& (1 : Int32)))
def fn_D_markAll_2 (x1 : Int32) (κ : SD → Option (SD)) : Nat → Int32 → SD → Option (SD)
  | 0, _, _ => none
  | n + 1, x2, d =>
    (fn_D_many x1 d).bind fun q1 =>
    if decide (q1 ≤ x2) then
      κ d
    else
      (fn_D_get x1 x2 d).bind fun q2 =>
      (fn_D_mark q2 (1 : Int32) d).bind fun q3 =>
      fn_D_markAll_2 x1 κ n (x2 + 1) q3
def fn_D_markAll (x1 : Int32) (d : SD) : Option (SD) :=
  fn_D_markAll_2 x1 (fun d_5 =>
    some d_5) am_NF (0 : Int32) d
def fn_D_firstReady_2 (d : SD) (κ : Option (Int32)) : Nat → Int32 → Option (Int32)
  | 0, _ => none
  | n + 1, x1 =>
    (fn_D_many (3 : Int32) d).bind fun q1 =>
    if decide (q1 ≤ x1) then
      κ
    else
      (fn_D_get (3 : Int32) x1 d).bind fun q2 =>
      (fn_D_markOf q2 d).bind fun q3 =>
      if decide (q3 = 0) then
        (fn_D_get (6 : Int32) x1 d).bind fun q4 =>
        (fn_D_markOf q4 d).bind fun q5 =>
        if decide (q5 = 0) then
          fn_D_firstReady_2 d κ n (x1 + 1)
        else
          (fn_D_get (7 : Int32) x1 d).bind fun q6 =>
          (fn_D_markOf q6 d).bind fun q7 =>
          if decide (q7 = 0) then
            fn_D_firstReady_2 d κ n (x1 + 1)
          else
            some x1
      else
        fn_D_firstReady_2 d κ n (x1 + 1)
def fn_D_firstReady (d : SD) : Option (Int32) :=
  fn_D_firstReady_2 d (
    some (0 : Int32)) am_NF (0 : Int32)
def fn_D_numberAnew_72 (e : SD) (κ : Int32 → SD → Option (SD)) : Nat → Int32 → Int32 → SD → Option (SD)
  | 0, _, _, _ => none
  | n + 1, x2, x3, d =>
    (fn_D_many (3 : Int32) e).bind fun q1 =>
    if decide (q1 ≤ x3) then
      κ x2 d
    else
      (fn_D_inSequence x3 e).bind fun q2 =>
      (fn_D_get (3 : Int32) q2 e).bind fun q3 =>
      (fn_D_mark q3 (x2 + 1) d).bind fun q4 =>
      fn_D_numberAnew_72 e κ n (x2 + 1) (x3 + 1) q4
def fn_D_numberAnew_41 (e : SD) (κ : Int32 → SD → Option (SD)) : Nat → Int32 → Int32 → SD → Option (SD)
  | 0, _, _, _ => none
  | n + 1, x2, x3, d =>
    (fn_D_many (1 : Int32) e).bind fun q5 =>
    if decide (q5 ≤ x3) then
      κ x2 d
    else
      (fn_D_get (1 : Int32) x3 e).bind fun q6 =>
      (fn_D_mark q6 (x2 + 1) d).bind fun q7 =>
      fn_D_numberAnew_41 e κ n (x2 + 1) (x3 + 1) q7
def fn_D_numberAnew_10 (e : SD) (κ : Int32 → SD → Option (SD)) : Nat → Int32 → Int32 → SD → Option (SD)
  | 0, _, _, _ => none
  | n + 1, x2, x3, d =>
    (fn_D_many (0 : Int32) e).bind fun q8 =>
    if decide (q8 ≤ x3) then
      κ x2 d
    else
      (fn_D_get (0 : Int32) x3 e).bind fun q9 =>
      (fn_D_mark q9 (x2 + 1) d).bind fun q10 =>
      fn_D_numberAnew_10 e κ n (x2 + 1) (x3 + 1) q10
def fn_D_numberAnew (d : SD) (e : SD) : Option (SD) :=
  (fn_D_mark (0 : Int32) (0 : Int32) d).bind fun q11 =>
  fn_D_numberAnew_10 e (fun x2_13 d_13 =>
    fn_D_numberAnew_41 e (fun x2_14 d_14 =>
      fn_D_numberAnew_72 e (fun x2_15 d_15 =>
        some (d_15.1, d_15.2.1, d_15.2.2.1, d_15.2.2.2.1, x2_15, d_15.2.2.2.2.2)) am_NF x2_14 (0 : Int32) d_14) am_NF x2_13 (0 : Int32) d_13) am_NF (0 : Int32) (0 : Int32) q11
def fn_D_renumbered (x1 : Int32) (d : SD) : Option (Int32) :=
  (fn_D_markOf x1 d).bind fun q1 =>
  some (((2 : Int32) * q1) + (x1 &&& (1 : Int32)))
def fn_W_digits_46 (x1 : Int32) (pg : SB) : Option (SB) :=
  if decide (¬ (10 : Int32) = 0) then
  (fn_B_add ((48 : Int32) + (x1 - x1 / (10 : Int32) * (10 : Int32))) pg).bind fun q1 =>
  some q1
  else none
def fn_W_digits_23 (x1 : Int32) (pg : SB) : Option (SB) :=
  if decide (x1 < (10 : Int32)) then
    fn_W_digits_46 x1 pg
  else
    if decide (¬ (10 : Int32) = 0) then
    if decide (¬ (10 : Int32) = 0) then
    (fn_B_add ((48 : Int32) + ((x1 / (10 : Int32)) - (x1 / (10 : Int32)) / (10 : Int32) * (10 : Int32))) pg).bind fun q2 =>
    fn_W_digits_46 x1 q2
    else none
    else none
def fn_W_digits (x1 : Int32) (pg : SB) : Option (SB) :=
  if decide (x1 < (100 : Int32)) then
    fn_W_digits_23 x1 pg
  else
    if decide (¬ (100 : Int32) = 0) then
    if decide (¬ (10 : Int32) = 0) then
    (fn_B_add ((48 : Int32) + ((x1 / (100 : Int32)) - (x1 / (100 : Int32)) / (10 : Int32) * (10 : Int32))) pg).bind fun q3 =>
    fn_W_digits_23 x1 q3
    else none
    else none
def fn_W_difference (x1 : Int32) (pg : SB) : Option (SB) :=
  if decide (x1 < (128 : Int32)) then
    (fn_B_add x1 pg).bind fun q1 =>
    some q1
  else
    if decide (¬ (128 : Int32) = 0) then
    (fn_B_add ((x1 - x1 / (128 : Int32) * (128 : Int32)) + (128 : Int32)) pg).bind fun q2 =>
    if decide (¬ (128 : Int32) = 0) then
    (fn_B_add (x1 / (128 : Int32)) q2).bind fun q3 =>
    some q3
    else none
    else none
def fn_R_closing (tx : SB) (rd : SR) : Option (SR) :=
  (fn_B_at rd.2.2.2.2.2.2.2.1 tx).bind fun q1 =>
  if decide (q1 = (-1 : Int32)) then
    some rd
  else
    if decide (q1 = (99 : Int32)) then
      some rd
    else
      (fn_R_fail rd.2.2.2.2.2.2.2.1 rd).bind fun q2 =>
      some q2
def fn_R_findUndefined_2 (κ : SR → Option (SR)) : Nat → Int32 → SR → Option (SR)
  | 0, _, _ => none
  | n + 1, x1, rd =>
    if decide (rd.2.2.2.2.2.2.1 ≤ x1) then
      κ rd
    else
      if decide ((136 : Int32) ≤ x1) then
        κ rd
      else
        if decide ((136 : Int32) ≤ x1) then
          κ rd
        else
          if decide (0 ≤ x1.toInt ∧ x1.toInt < (136 : Int)) then
          if decide (((rd.2.1 x1.toNatClampNeg) >>> ((1 : Int32) &&& 31)) ≤ 0) then
            fn_R_findUndefined_2 κ n (x1 + 1) rd
          else
            if decide ((100 : Int32) ≤ ((rd.2.1 x1.toNatClampNeg) >>> ((1 : Int32) &&& 31))) then
              fn_R_findUndefined_2 κ n (x1 + 1) rd
            else
              if decide (0 ≤ ((rd.2.1 x1.toNatClampNeg) >>> ((1 : Int32) &&& 31)).toInt ∧ ((rd.2.1 x1.toNatClampNeg) >>> ((1 : Int32) &&& 31)).toInt < (100 : Int)) then
              if decide ((rd.1 (((rd.2.1 x1.toNatClampNeg) >>> ((1 : Int32) &&& 31)).toNatClampNeg)) = 0) then
                if decide (0 ≤ x1.toInt ∧ x1.toInt < (136 : Int)) then
                (fn_R_fail (rd.2.2.1 x1.toNatClampNeg) rd).bind fun q1 =>
                fn_R_findUndefined_2 κ n (x1 + 1) q1
                else none
              else
                fn_R_findUndefined_2 κ n (x1 + 1) rd
              else none
          else none
def fn_R_findUndefined (rd : SR) : Option (SR) :=
  fn_R_findUndefined_2 (fun rd_3 =>
    some rd_3) am_NF (0 : Int32) rd
def fn_R_noteWhatGatesRestOn_74 (x2 : Int32) (d : SD) (κ : SR → Option (SR)) : Nat → Int32 → SR → Option (SR)
  | 0, _, _ => none
  | n + 1, x3, rd =>
    if decide (x2 ≤ x3) then
      κ rd
    else
      if decide ((60 : Int32) ≤ x3) then
        κ rd
      else
        (fn_D_get (6 : Int32) x3 d).bind fun q1 =>
        (fn_R_gateBit q1 rd).bind fun q2 =>
        (fn_D_get (7 : Int32) x3 d).bind fun q3 =>
        (fn_R_gateBit q3 rd).bind fun q4 =>
        if decide (0 ≤ x3.toInt ∧ x3.toInt < (60 : Int)) then
        fn_R_noteWhatGatesRestOn_74 x2 d κ n (x3 + 1) (rd.1, rd.2.1, rd.2.2.1, rd.2.2.2.1, rd.2.2.2.2.1, vp_updL rd.2.2.2.2.2.1 x3.toNatClampNeg ((q2 ||| q4)), rd.2.2.2.2.2.2.1, rd.2.2.2.2.2.2.2.1, rd.2.2.2.2.2.2.2.2)
        else none
def fn_R_noteWhatGatesRestOn_26 (x2 : Int32) (d : SD) (κ : SR → Option (SR)) : Nat → Int32 → SR → Option (SR)
  | 0, _, _ => none
  | n + 1, x3, rd =>
    if decide (x2 ≤ x3) then
      κ rd
    else
      (fn_D_get (3 : Int32) x3 d).bind fun q5 =>
      if decide ((q5 >>> ((1 : Int32) &&& 31)) < 0) then
        fn_R_noteWhatGatesRestOn_26 x2 d κ n (x3 + 1) rd
      else
        if decide ((100 : Int32) ≤ (q5 >>> ((1 : Int32) &&& 31))) then
          fn_R_noteWhatGatesRestOn_26 x2 d κ n (x3 + 1) rd
        else
          if decide (0 ≤ (q5 >>> ((1 : Int32) &&& 31)).toInt ∧ (q5 >>> ((1 : Int32) &&& 31)).toInt < (100 : Int)) then
          fn_R_noteWhatGatesRestOn_26 x2 d κ n (x3 + 1) (rd.1, rd.2.1, rd.2.2.1, rd.2.2.2.1, vp_updL rd.2.2.2.2.1 (q5 >>> ((1 : Int32) &&& 31)).toNatClampNeg (((1 : Int64) <<< (x3.toInt64 &&& 63))), rd.2.2.2.2.2.1, rd.2.2.2.2.2.2.1, rd.2.2.2.2.2.2.2.1, rd.2.2.2.2.2.2.2.2)
          else none
def fn_R_noteWhatGatesRestOn_2 (x2 : Int32) (d : SD) (κ : SR → Option (SR)) : Nat → Int32 → SR → Option (SR)
  | 0, _, _ => none
  | n + 1, x3, rd =>
    if decide ((100 : Int32) ≤ x3) then
      κ rd
    else
      if decide (0 ≤ x3.toInt ∧ x3.toInt < (100 : Int)) then
      fn_R_noteWhatGatesRestOn_2 x2 d κ n (x3 + 1) (rd.1, rd.2.1, rd.2.2.1, rd.2.2.2.1, vp_updL rd.2.2.2.2.1 x3.toNatClampNeg ((0 : Int64)), rd.2.2.2.2.2.1, rd.2.2.2.2.2.2.1, rd.2.2.2.2.2.2.2.1, rd.2.2.2.2.2.2.2.2)
      else none
def fn_R_noteWhatGatesRestOn (x2 : Int32) (rd : SR) (d : SD) : Option (SR) :=
  fn_R_noteWhatGatesRestOn_2 x2 d (fun rd_7 =>
    fn_R_noteWhatGatesRestOn_26 x2 d (fun rd_8 =>
      fn_R_noteWhatGatesRestOn_74 x2 d (fun rd_9 =>
        some rd_9) am_NF (0 : Int32) rd_8) am_NF (0 : Int32) rd_7) am_NF (0 : Int32) rd
def fn_R_number_107 (x2 : Int32) (tx : SB) (rd : SR) : Option (Int32 × SR) :=
  (fn_R_fail x2 rd).bind fun q1 =>
  some ((0 : Int32), q1)
def fn_R_number_94 (x1 : Int32) (x2 : Int32) (x3 : Int32) (tx : SB) (rd : SR) : Option (Int32 × SR) :=
  if decide (rd.2.2.2.2.2.2.2.1 = x2) then
    fn_R_number_107 x2 tx rd
  else
    if decide (x3 ≤ x1) then
      some (x3, rd)
    else
      fn_R_number_107 x2 tx rd
def fn_R_number_10 (x1 : Int32) (x2 : Int32) (tx : SB) (κ : Int32 → SR → Option (Int32 × SR)) : Nat → Int32 → Int32 → SR → Option (Int32 × SR)
  | 0, _, _, _ => none
  | n + 1, x3, x4, rd =>
    if decide ((4 : Int32) < x4) then
      κ x3 rd
    else
      (fn_B_at rd.2.2.2.2.2.2.2.1 tx).bind fun q2 =>
      (fn_R_isDigit q2).bind fun q3 =>
      if decide (q3 = 0) then
        κ x3 rd
      else
        if decide (x4 = (4 : Int32)) then
          (fn_R_fail rd.2.2.2.2.2.2.2.1 rd).bind fun q4 =>
          some ((0 : Int32), q4)
        else
          if decide (x4 ≤ 0) then
            (fn_B_at rd.2.2.2.2.2.2.2.1 tx).bind fun q5 =>
            fn_R_number_10 x1 x2 tx κ n ((((10 : Int32) * x3) + q5) - (48 : Int32)) (x4 + 1) (rd.1, rd.2.1, rd.2.2.1, rd.2.2.2.1, rd.2.2.2.2.1, rd.2.2.2.2.2.1, rd.2.2.2.2.2.2.1, rd.2.2.2.2.2.2.2.1 + (1 : Int32), rd.2.2.2.2.2.2.2.2)
          else
            if decide (x3 = 0) then
              (fn_R_fail rd.2.2.2.2.2.2.2.1 rd).bind fun q6 =>
              some ((0 : Int32), q6)
            else
              (fn_B_at rd.2.2.2.2.2.2.2.1 tx).bind fun q7 =>
              fn_R_number_10 x1 x2 tx κ n ((((10 : Int32) * x3) + q7) - (48 : Int32)) (x4 + 1) (rd.1, rd.2.1, rd.2.2.1, rd.2.2.2.1, rd.2.2.2.2.1, rd.2.2.2.2.2.1, rd.2.2.2.2.2.2.1, rd.2.2.2.2.2.2.2.1 + (1 : Int32), rd.2.2.2.2.2.2.2.2)
def fn_R_number (x1 : Int32) (tx : SB) (rd : SR) : Option (Int32 × SR) :=
  fn_R_number_10 x1 rd.2.2.2.2.2.2.2.1 tx (fun x3_9 rd_9 =>
    fn_R_number_94 x1 rd.2.2.2.2.2.2.2.1 x3_9 tx rd_9) am_NF (0 : Int32) (0 : Int32) rd
def fn_R_difference_124 (x1 : Int32) (x3 : Int32) (tx : SB) (rd : SR) : Option (Int32 × SR) :=
  (fn_R_fail x3 rd).bind fun q1 =>
  some (x1, q1)
def fn_R_difference_112 (x1 : Int32) (x2 : Int32) (x3 : Int32) (x4 : Int32) (tx : SB) (rd : SR) : Option (Int32 × SR) :=
  if decide (x4 < x1) then
    fn_R_difference_124 x1 x3 tx rd
  else
    if decide (x4 ≤ x2) then
      some (x4, rd)
    else
      fn_R_difference_124 x1 x3 tx rd
def fn_R_difference_79 (x1 : Int32) (tx : SB) (rd : SR) : Option (Int32 × SR) :=
  (fn_R_fail rd.2.2.2.2.2.2.2.1 rd).bind fun q2 =>
  some (x1, q2)
def fn_R_difference (x1 : Int32) (x2 : Int32) (tx : SB) (rd : SR) : Option (Int32 × SR) :=
  (fn_B_at rd.2.2.2.2.2.2.2.1 tx).bind fun q3 =>
  if decide (q3 = (-1 : Int32)) then
    (fn_R_fail rd.2.2.2.2.2.2.2.1 rd).bind fun q4 =>
    some (x1, q4)
  else
    if decide (q3 < (128 : Int32)) then
      fn_R_difference_112 x1 x2 rd.2.2.2.2.2.2.2.1 q3 tx (rd.1, rd.2.1, rd.2.2.1, rd.2.2.2.1, rd.2.2.2.2.1, rd.2.2.2.2.2.1, rd.2.2.2.2.2.2.1, rd.2.2.2.2.2.2.2.1 + (1 : Int32), rd.2.2.2.2.2.2.2.2)
    else
      (fn_B_at (rd.2.2.2.2.2.2.2.1 + (1 : Int32)) tx).bind fun q5 =>
      if decide (q5 < (1 : Int32)) then
        fn_R_difference_79 x1 tx (rd.1, rd.2.1, rd.2.2.1, rd.2.2.2.1, rd.2.2.2.2.1, rd.2.2.2.2.2.1, rd.2.2.2.2.2.2.1, rd.2.2.2.2.2.2.2.1 + (1 : Int32), rd.2.2.2.2.2.2.2.2)
      else
        if decide (q5 < (128 : Int32)) then
          fn_R_difference_112 x1 x2 rd.2.2.2.2.2.2.2.1 (q3 + ((128 : Int32) * (q5 - (1 : Int32)))) tx (rd.1, rd.2.1, rd.2.2.1, rd.2.2.2.1, rd.2.2.2.2.1, rd.2.2.2.2.2.1, rd.2.2.2.2.2.2.1, (rd.2.2.2.2.2.2.2.1 + (1 : Int32)) + (1 : Int32), rd.2.2.2.2.2.2.2.2)
        else
          fn_R_difference_79 x1 tx (rd.1, rd.2.1, rd.2.2.1, rd.2.2.2.1, rd.2.2.2.2.1, rd.2.2.2.2.2.1, rd.2.2.2.2.2.2.1, rd.2.2.2.2.2.2.2.1 + (1 : Int32), rd.2.2.2.2.2.2.2.2)
def fn_R_expect (x1 : Int32) (tx : SB) (rd : SR) : Option (SR) :=
  (fn_B_at rd.2.2.2.2.2.2.2.1 tx).bind fun q1 =>
  if decide (q1 = x1) then
    some (rd.1, rd.2.1, rd.2.2.1, rd.2.2.2.1, rd.2.2.2.2.1, rd.2.2.2.2.2.1, rd.2.2.2.2.2.2.1, rd.2.2.2.2.2.2.2.1 + (1 : Int32), rd.2.2.2.2.2.2.2.2)
  else
    (fn_R_fail rd.2.2.2.2.2.2.2.1 rd).bind fun q2 =>
    some q2
def fn_T_latches (d : SD) : Option (Int32) :=
  (fn_D_latchBits d).bind fun q1 =>
  some q1
def fn_D_inOrder (d : SD) : Option (Int32) :=
  (fn_D_many (0 : Int32) d).bind fun q1 =>
  (fn_D_many (1 : Int32) d).bind fun q2 =>
  (fn_D_many (3 : Int32) d).bind fun q3 =>
  if decide (d.2.2.2.2.1 = ((q1 + q2) + q3)) then
    (fn_D_countsUp (0 : Int32) (0 : Int32) d).bind fun q4 =>
    if decide (q4 = 0) then
      some (0 : Int32)
    else
      (fn_D_countsUp (1 : Int32) q1 d).bind fun q5 =>
      if decide (q5 = 0) then
        some (0 : Int32)
      else
        (fn_D_countsUp (3 : Int32) (q1 + q2) d).bind fun q6 =>
        if decide (q6 = 0) then
          some (0 : Int32)
        else
          (fn_D_gatesLookBack d).bind fun q7 =>
          if decide (q7 = 0) then
            some (0 : Int32)
          else
            some (1 : Int32)
  else
    some (0 : Int32)
def fn_D_truths_4 (x1 : Int32) (d : SD) (κ : Int32 → Option (Int32)) : Nat → Int32 → Int32 → Option (Int32)
  | 0, _, _ => none
  | n + 1, x2, x3 =>
    (fn_D_many x1 d).bind fun q1 =>
    if decide (q1 ≤ x3) then
      κ x2
    else
      (fn_D_get x1 x3 d).bind fun q2 =>
      (fn_D_truth q2 d).bind fun q3 =>
      fn_D_truths_4 x1 d κ n (x2 ||| (q3 <<< (x3 &&& 31))) (x3 + 1)
def fn_D_truths (x1 : Int32) (d : SD) : Option (Int32) :=
  fn_D_truths_4 x1 d (fun x2_5 =>
    some x2_5) am_NF (0 : Int32) (0 : Int32)
def fn_D_arrange_22 (κ : SD → Option (SD)) : Nat → Int32 → SD → Option (SD)
  | 0, _, _ => none
  | n + 1, x1, d =>
    (fn_D_many (3 : Int32) d).bind fun q1 =>
    if decide (q1 ≤ x1) then
      κ d
    else
      (fn_D_firstReady d).bind fun q2 =>
      if decide ((60 : Int32) ≤ x1) then
        (fn_D_get (3 : Int32) q2 d).bind fun q3 =>
        (fn_D_mark q3 (1 : Int32) d).bind fun q4 =>
        fn_D_arrange_22 κ n (x1 + 1) q4
      else
        if decide (0 ≤ x1.toInt ∧ x1.toInt < (60 : Int)) then
        (fn_D_get (3 : Int32) q2 (d.1, d.2.1, upd d.2.2.1 x1.toNatClampNeg q2, d.2.2.2.1, d.2.2.2.2.1, d.2.2.2.2.2)).bind fun q5 =>
        (fn_D_mark q5 (1 : Int32) (d.1, d.2.1, upd d.2.2.1 x1.toNatClampNeg q2, d.2.2.2.1, d.2.2.2.2.1, d.2.2.2.2.2)).bind fun q6 =>
        fn_D_arrange_22 κ n (x1 + 1) q6
        else none
def fn_D_arrange (d : SD) : Option (SD) :=
  (fn_D_forget d).bind fun q7 =>
  (fn_D_mark (0 : Int32) (1 : Int32) q7).bind fun q8 =>
  (fn_D_markAll (0 : Int32) q8).bind fun q9 =>
  (fn_D_markAll (1 : Int32) q9).bind fun q10 =>
  fn_D_arrange_22 (fun d_12 =>
    some d_12) am_NF (0 : Int32) q10
def fn_D_copyInputsAndOutputs_55 (e : SD) (κ : SD → Option (SD)) : Nat → Int32 → SD → Option (SD)
  | 0, _, _ => none
  | n + 1, x2, d =>
    (fn_D_many (2 : Int32) d).bind fun q1 =>
    if decide (q1 ≤ x2) then
      κ d
    else
      (fn_D_get (2 : Int32) x2 e).bind fun q2 =>
      (fn_D_renumbered q2 d).bind fun q3 =>
      (fn_D_set (2 : Int32) x2 q3 d).bind fun q4 =>
      fn_D_copyInputsAndOutputs_55 e κ n (x2 + 1) q4
def fn_D_copyInputsAndOutputs_12 (e : SD) (κ : SD → Option (SD)) : Nat → Int32 → SD → Option (SD)
  | 0, _, _ => none
  | n + 1, x2, d =>
    (fn_D_many (0 : Int32) d).bind fun q5 =>
    if decide (q5 ≤ x2) then
      κ d
    else
      (fn_D_get (0 : Int32) x2 e).bind fun q6 =>
      (fn_D_renumbered q6 d).bind fun q7 =>
      (fn_D_set (0 : Int32) x2 q7 d).bind fun q8 =>
      fn_D_copyInputsAndOutputs_12 e κ n (x2 + 1) q8
def fn_D_copyInputsAndOutputs (d : SD) (e : SD) : Option (SD) :=
  (fn_D_many (0 : Int32) e).bind fun q9 =>
  (fn_D_setMany (0 : Int32) q9 d).bind fun q10 =>
  fn_D_copyInputsAndOutputs_12 e (fun d_12 =>
    (fn_D_many (2 : Int32) e).bind fun q12 =>
    (fn_D_setMany (2 : Int32) q12 d_12).bind fun q13 =>
    fn_D_copyInputsAndOutputs_55 e (fun d_15 =>
      some d_15) am_NF (0 : Int32) q13) am_NF (0 : Int32) q10
def fn_D_copyLatches_12 (e : SD) (κ : SD → Option (SD)) : Nat → Int32 → SD → Option (SD)
  | 0, _, _ => none
  | n + 1, x2, d =>
    (fn_D_many (1 : Int32) d).bind fun q1 =>
    if decide (q1 ≤ x2) then
      κ d
    else
      (fn_D_get (1 : Int32) x2 e).bind fun q2 =>
      (fn_D_renumbered q2 d).bind fun q3 =>
      (fn_D_set (1 : Int32) x2 q3 d).bind fun q4 =>
      (fn_D_get (4 : Int32) x2 e).bind fun q5 =>
      (fn_D_renumbered q5 q4).bind fun q6 =>
      (fn_D_set (4 : Int32) x2 q6 q4).bind fun q7 =>
      (fn_D_get (5 : Int32) x2 e).bind fun q8 =>
      (fn_D_set (5 : Int32) x2 q8 q7).bind fun q9 =>
      fn_D_copyLatches_12 e κ n (x2 + 1) q9
def fn_D_copyLatches (d : SD) (e : SD) : Option (SD) :=
  (fn_D_many (1 : Int32) e).bind fun q10 =>
  (fn_D_setMany (1 : Int32) q10 d).bind fun q11 =>
  fn_D_copyLatches_12 e (fun d_13 =>
    some d_13) am_NF (0 : Int32) q11
def fn_D_copyGates_12 (e : SD) (κ : SD → Option (SD)) : Nat → Int32 → SD → Option (SD)
  | 0, _, _ => none
  | n + 1, x2, d =>
    (fn_D_many (3 : Int32) d).bind fun q1 =>
    if decide (q1 ≤ x2) then
      κ d
    else
      (fn_D_inSequence x2 e).bind fun q2 =>
      (fn_D_get (6 : Int32) q2 e).bind fun q3 =>
      (fn_D_renumbered q3 d).bind fun q4 =>
      (fn_D_get (7 : Int32) q2 e).bind fun q5 =>
      (fn_D_renumbered q5 d).bind fun q6 =>
      (fn_D_get (3 : Int32) q2 e).bind fun q7 =>
      (fn_D_renumbered q7 d).bind fun q8 =>
      (fn_D_set (3 : Int32) x2 q8 d).bind fun q9 =>
      (fn_D_set (6 : Int32) x2 (if q4 < q6 then q6 else q4) q9).bind fun q10 =>
      (fn_D_set (7 : Int32) x2 (if q6 < q4 then q6 else q4) q10).bind fun q11 =>
      fn_D_copyGates_12 e κ n (x2 + 1) q11
def fn_D_copyGates (d : SD) (e : SD) : Option (SD) :=
  (fn_D_many (3 : Int32) e).bind fun q12 =>
  (fn_D_setMany (3 : Int32) q12 d).bind fun q13 =>
  fn_D_copyGates_12 e (fun d_15 =>
    some d_15) am_NF (0 : Int32) q13
def fn_W_numberAndBlank (x1 : Int32) (pg : SB) : Option (SB) :=
  (fn_W_digits x1 pg).bind fun q1 =>
  (fn_B_add (32 : Int32) q1).bind fun q2 =>
  some q2
def fn_W_lastNumber (x1 : Int32) (pg : SB) : Option (SB) :=
  (fn_W_digits x1 pg).bind fun q1 =>
  (fn_B_add (10 : Int32) q1).bind fun q2 =>
  some q2
def fn_R_packedGates_16 (tx : SB) (κ : SR → SD → Option (SR × SD)) : Nat → Int32 → Int32 → SR → SD → Option (SR × SD)
  | 0, _, _, _, _ => none
  | n + 1, x2, x3, rd, d =>
    (fn_D_many (3 : Int32) d).bind fun q1 =>
    if decide (q1 ≤ x3) then
      κ rd d
    else
      if decide (rd.2.2.2.2.2.2.2.2 = (-1 : Int32)) then
        (fn_R_difference (1 : Int32) (x2 + 2) tx rd).bind fun q2 =>
        (fn_R_difference (0 : Int32) ((x2 + 2) - q2.1) tx q2.2).bind fun q3 =>
        (fn_D_set (3 : Int32) x3 (x2 + 2) d).bind fun q4 =>
        (fn_D_set (6 : Int32) x3 ((x2 + 2) - q2.1) q4).bind fun q5 =>
        (fn_D_set (7 : Int32) x3 (((x2 + 2) - q2.1) - q3.1) q5).bind fun q6 =>
        fn_R_packedGates_16 tx κ n (x2 + 2) (x3 + 1) q3.2 q6
      else
        κ rd d
def fn_R_packedGates (tx : SB) (rd : SR) (d : SD) : Option (SR × SD) :=
  (fn_D_many (0 : Int32) d).bind fun q7 =>
  (fn_D_many (1 : Int32) d).bind fun q8 =>
  fn_R_packedGates_16 tx (fun rd_10 d_10 =>
    some (rd_10, d_10)) am_NF ((2 : Int32) * (q7 + q8)) (0 : Int32) rd d
def fn_R_findRound_82 (x2 : Int32) (d : SD) (κ : SR → Option (SR)) : Nat → Int32 → SR → Option (SR)
  | 0, _, _ => none
  | n + 1, x3, rd =>
    if decide (x2 ≤ x3) then
      κ rd
    else
      if decide ((60 : Int32) ≤ x3) then
        κ rd
      else
        if decide (0 ≤ x3.toInt ∧ x3.toInt < (60 : Int)) then
        if decide ((lg_cmp ((((rd.2.2.2.2.2.1 x3.toNatClampNeg).toUInt64 >>> (x3.toInt64.toUInt64 &&& Int64.toUInt64 63)).toInt64) &&& (1 : Int64)) (0 : Int64)) = 0) then
          fn_R_findRound_82 x2 d κ n (x3 + 1) rd
        else
          if decide (0 ≤ x3.toInt ∧ x3.toInt < (60 : Int)) then
          (fn_R_fail (rd.2.2.2.1 x3.toNatClampNeg) rd).bind fun q1 =>
          fn_R_findRound_82 x2 d κ n (x3 + 1) q1
          else none
        else none
def fn_R_findRound_30 (x2 : Int32) (x3 : Int32) (d : SD) (κ : SR → Option (SR)) : Nat → Int32 → SR → Option (SR)
  | 0, _, _ => none
  | n + 1, x4, rd =>
    if decide (x2 ≤ x4) then
      κ rd
    else
      if decide (0 ≤ x4.toInt ∧ x4.toInt < (60 : Int)) then
      if decide ((lg_cmp ((((rd.2.2.2.2.2.1 x4.toNatClampNeg).toUInt64 >>> (x3.toInt64.toUInt64 &&& Int64.toUInt64 63)).toInt64) &&& (1 : Int64)) (0 : Int64)) = 0) then
        fn_R_findRound_30 x2 x3 d κ n (x4 + 1) rd
      else
        if decide (0 ≤ x4.toInt ∧ x4.toInt < (60 : Int)) then
        if decide (0 ≤ x3.toInt ∧ x3.toInt < (60 : Int)) then
        if decide (0 ≤ x4.toInt ∧ x4.toInt < (60 : Int)) then
        fn_R_findRound_30 x2 x3 d κ n (x4 + 1) (rd.1, rd.2.1, rd.2.2.1, rd.2.2.2.1, rd.2.2.2.2.1, vp_updL rd.2.2.2.2.2.1 x4.toNatClampNeg (((rd.2.2.2.2.2.1 x4.toNatClampNeg) ||| (rd.2.2.2.2.2.1 x3.toNatClampNeg))), rd.2.2.2.2.2.2.1, rd.2.2.2.2.2.2.2.1, rd.2.2.2.2.2.2.2.2)
        else none
        else none
        else none
      else none
def fn_R_findRound_22 (x2 : Int32) (d : SD) (κ : SR → Option (SR)) : Nat → Int32 → SR → Option (SR)
  | 0, _, _ => none
  | n + 1, x3, rd =>
    if decide (x2 ≤ x3) then
      κ rd
    else
      fn_R_findRound_30 x2 x3 d (fun rd_3 =>
        fn_R_findRound_22 x2 d κ n (x3 + 1) rd_3) am_NF (0 : Int32) rd
def fn_R_findRound (rd : SR) (d : SD) : Option (SR) :=
  (fn_D_many (3 : Int32) d).bind fun q3 =>
  (fn_R_noteWhatGatesRestOn (if (60 : Int32) < q3 then (60 : Int32) else q3) rd d).bind fun q4 =>
  fn_R_findRound_22 (if (60 : Int32) < q3 then (60 : Int32) else q3) d (fun rd_6 =>
    fn_R_findRound_82 (if (60 : Int32) < q3 then (60 : Int32) else q3) d (fun rd_7 =>
      some rd_7) am_NF (0 : Int32) rd_6) am_NF (0 : Int32) q4
def fn_R_definition_47 (x2 : Int32) (tx : SB) (rd : SR) : Option (Int32 × SR) :=
  (fn_R_fail x2 rd).bind fun q1 =>
  some ((0 : Int32), q1)
def fn_R_definition (x1 : Int32) (tx : SB) (rd : SR) : Option (Int32 × SR) :=
  (fn_R_number x1 tx rd).bind fun q2 =>
  if decide ((q2.1 >>> ((1 : Int32) &&& 31)) ≤ 0) then
    fn_R_definition_47 rd.2.2.2.2.2.2.2.1 tx q2.2
  else
    if decide ((100 : Int32) ≤ (q2.1 >>> ((1 : Int32) &&& 31))) then
      fn_R_definition_47 rd.2.2.2.2.2.2.2.1 tx q2.2
    else
      if decide ((q2.1 &&& (1 : Int32)) = 0) then
        if decide (0 ≤ (q2.1 >>> ((1 : Int32) &&& 31)).toInt ∧ (q2.1 >>> ((1 : Int32) &&& 31)).toInt < (100 : Int)) then
        if decide ((q2.2.1 ((q2.1 >>> ((1 : Int32) &&& 31)).toNatClampNeg)) = 0) then
          if decide (0 ≤ (q2.1 >>> ((1 : Int32) &&& 31)).toInt ∧ (q2.1 >>> ((1 : Int32) &&& 31)).toInt < (100 : Int)) then
          some (q2.1, (upd q2.2.1 (q2.1 >>> ((1 : Int32) &&& 31)).toNatClampNeg (vp_nar .boolean (1 : Int32)), q2.2.2.1, q2.2.2.2.1, q2.2.2.2.2.1, q2.2.2.2.2.2.1, q2.2.2.2.2.2.2.1, q2.2.2.2.2.2.2.2.1, q2.2.2.2.2.2.2.2.2.1, q2.2.2.2.2.2.2.2.2.2))
          else none
        else
          fn_R_definition_47 rd.2.2.2.2.2.2.2.1 tx q2.2
        else none
      else
        fn_R_definition_47 rd.2.2.2.2.2.2.2.1 tx q2.2
def fn_R_use (x1 : Int32) (tx : SB) (rd : SR) : Option (Int32 × SR) :=
  (fn_R_number x1 tx rd).bind fun q1 =>
  if decide (q1.2.2.2.2.2.2.2.1 < 0) then
    some (q1.1, q1.2)
  else
    if decide ((136 : Int32) ≤ q1.2.2.2.2.2.2.2.1) then
      some (q1.1, q1.2)
    else
      if decide ((136 : Int32) ≤ q1.2.2.2.2.2.2.2.1) then
        some (q1.1, q1.2)
      else
        if decide (0 ≤ q1.2.2.2.2.2.2.2.1.toInt ∧ q1.2.2.2.2.2.2.2.1.toInt < (136 : Int)) then
        if decide (0 ≤ q1.2.2.2.2.2.2.2.1.toInt ∧ q1.2.2.2.2.2.2.2.1.toInt < (136 : Int)) then
        some (q1.1, (q1.2.1, upd q1.2.2.1 q1.2.2.2.2.2.2.2.1.toNatClampNeg q1.1, upd q1.2.2.2.1 q1.2.2.2.2.2.2.2.1.toNatClampNeg rd.2.2.2.2.2.2.2.1, q1.2.2.2.2.1, q1.2.2.2.2.2.1, q1.2.2.2.2.2.2.1, q1.2.2.2.2.2.2.2.1 + (1 : Int32), q1.2.2.2.2.2.2.2.2.1, q1.2.2.2.2.2.2.2.2.2))
        else none
        else none
def fn_R_blankAndNumber (x1 : Int32) (tx : SB) (rd : SR) : Option (Int32 × SR) :=
  (fn_R_expect (32 : Int32) tx rd).bind fun q1 =>
  (fn_R_number x1 tx q1).bind fun q2 =>
  some (q2.1, q2.2)
def fn_T_reset (d : SD) : Option (SD) :=
  (fn_D_restart d).bind fun q1 =>
  some q1
def fn_D_step_75 (κ : SD → Option (Int32 × SD)) : Nat → Int32 → SD → Option (Int32 × SD)
  | 0, _, _ => none
  | n + 1, x2, d =>
    (fn_D_many (3 : Int32) d).bind fun q1 =>
    if decide (q1 ≤ x2) then
      κ d
    else
      (fn_D_inSequence x2 d).bind fun q2 =>
      (fn_D_get (3 : Int32) q2 d).bind fun q3 =>
      (fn_D_get (6 : Int32) q2 d).bind fun q4 =>
      (fn_D_truth q4 d).bind fun q5 =>
      (fn_D_get (7 : Int32) q2 d).bind fun q6 =>
      (fn_D_truth q6 d).bind fun q7 =>
      (fn_D_mark q3 (q5 &&& q7) d).bind fun q8 =>
      fn_D_step_75 κ n (x2 + 1) q8
def fn_D_step_40 (κ : SD → Option (Int32 × SD)) : Nat → Int32 → SD → Option (Int32 × SD)
  | 0, _, _ => none
  | n + 1, x2, d =>
    (fn_D_many (1 : Int32) d).bind fun q9 =>
    if decide (q9 ≤ x2) then
      κ d
    else
      (fn_D_get (1 : Int32) x2 d).bind fun q10 =>
      (fn_D_mark q10 (((d.2.2.2.2.2.toUInt32 >>> (x2.toUInt32 &&& Int32.toUInt32 31)).toInt32) &&& (1 : Int32)) d).bind fun q11 =>
      fn_D_step_40 κ n (x2 + 1) q11
def fn_D_step_8 (x1 : Int32) (κ : SD → Option (Int32 × SD)) : Nat → Int32 → SD → Option (Int32 × SD)
  | 0, _, _ => none
  | n + 1, x2, d =>
    (fn_D_many (0 : Int32) d).bind fun q12 =>
    if decide (q12 ≤ x2) then
      κ d
    else
      (fn_D_get (0 : Int32) x2 d).bind fun q13 =>
      (fn_D_mark q13 (((x1.toUInt32 >>> (x2.toUInt32 &&& Int32.toUInt32 31)).toInt32) &&& (1 : Int32)) d).bind fun q14 =>
      fn_D_step_8 x1 κ n (x2 + 1) q14
def fn_D_step (x1 : Int32) (d : SD) : Option (Int32 × SD) :=
  (fn_D_mark (0 : Int32) (0 : Int32) d).bind fun q15 =>
  fn_D_step_8 x1 (fun d_17 =>
    fn_D_step_40 (fun d_18 =>
      fn_D_step_75 (fun d_19 =>
        (fn_D_truths (4 : Int32) d_19).bind fun q19 =>
        (fn_D_truths (2 : Int32) (d_19.1, d_19.2.1, d_19.2.2.1, d_19.2.2.2.1, d_19.2.2.2.2.1, q19)).bind fun q20 =>
        some (q20, (d_19.1, d_19.2.1, d_19.2.2.1, d_19.2.2.2.1, d_19.2.2.2.2.1, q19))) am_NF (0 : Int32) d_18) am_NF (0 : Int32) d_17) am_NF (0 : Int32) q15
def fn_D_orderFrom (d : SD) (e : SD) : Option (SD) :=
  (fn_D_numberAnew d e).bind fun q1 =>
  (fn_D_copyInputsAndOutputs q1 e).bind fun q2 =>
  (fn_D_copyLatches q2 e).bind fun q3 =>
  (fn_D_copyGates q3 e).bind fun q4 =>
  (fn_D_arrange (q4.1, q4.2.1, q4.2.2.1, q4.2.2.2.1, q4.2.2.2.2.1, e.2.2.2.2.2)).bind fun q5 =>
  some q5
def fn_W_header (x2 : Int32) (pg : SB) (d : SD) : Option (SB) :=
  (fn_B_add (97 : Int32) pg).bind fun q1 =>
  (fn_B_add x2 q1).bind fun q2 =>
  (fn_B_add (103 : Int32) q2).bind fun q3 =>
  (fn_B_add (32 : Int32) q3).bind fun q4 =>
  (fn_D_most d).bind fun q5 =>
  (fn_W_numberAndBlank q5 q4).bind fun q6 =>
  (fn_D_many (0 : Int32) d).bind fun q7 =>
  (fn_W_numberAndBlank q7 q6).bind fun q8 =>
  (fn_D_many (1 : Int32) d).bind fun q9 =>
  (fn_W_numberAndBlank q9 q8).bind fun q10 =>
  (fn_D_many (2 : Int32) d).bind fun q11 =>
  (fn_W_numberAndBlank q11 q10).bind fun q12 =>
  (fn_D_many (3 : Int32) d).bind fun q13 =>
  (fn_W_lastNumber q13 q12).bind fun q14 =>
  some q14
def fn_W_nextAndFirst (x2 : Int32) (pg : SB) (d : SD) : Option (SB) :=
  (fn_D_get (5 : Int32) x2 d).bind fun q1 =>
  if decide (q1 = (1 : Int32)) then
    (fn_D_get (4 : Int32) x2 d).bind fun q2 =>
    (fn_W_numberAndBlank q2 pg).bind fun q3 =>
    (fn_W_lastNumber (1 : Int32) q3).bind fun q4 =>
    some q4
  else
    (fn_D_get (4 : Int32) x2 d).bind fun q5 =>
    (fn_W_lastNumber q5 pg).bind fun q6 =>
    some q6
def fn_W_outputs_2 (d : SD) (κ : SB → Option (SB)) : Nat → Int32 → SB → Option (SB)
  | 0, _, _ => none
  | n + 1, x2, pg =>
    (fn_D_many (2 : Int32) d).bind fun q1 =>
    if decide (q1 ≤ x2) then
      κ pg
    else
      (fn_D_get (2 : Int32) x2 d).bind fun q2 =>
      (fn_W_lastNumber q2 pg).bind fun q3 =>
      fn_W_outputs_2 d κ n (x2 + 1) q3
def fn_W_outputs (pg : SB) (d : SD) : Option (SB) :=
  fn_W_outputs_2 d (fun pg_5 =>
    some pg_5) am_NF (0 : Int32) pg
def fn_R_header_129 (x5 : Int32) (tx : SB) (rd : SR) (d : SD) : Option (SR × SD) :=
  (fn_D_setMany (3 : Int32) x5 d).bind fun q1 =>
  (fn_R_expect (10 : Int32) tx rd).bind fun q2 =>
  some (q2, q1)
def fn_R_header_123 (x4 : Int32) (x5 : Int32) (tx : SB) (rd : SR) (d : SD) : Option (SR × SD) :=
  (fn_R_fail x4 rd).bind fun q3 =>
  fn_R_header_129 x5 tx q3 d
def fn_R_header_18 (s1 : Int32) (x2 : Int32) (tx : SB) (rd : SR) (d : SD) : Option (SR × SD) :=
  (fn_R_expect s1 tx rd).bind fun q4 =>
  (fn_R_expect (103 : Int32) tx q4).bind fun q5 =>
  (fn_R_blankAndNumber (99 : Int32) tx q5).bind fun q6 =>
  (fn_D_setMost q6.1 d).bind fun q7 =>
  (fn_R_blankAndNumber (8 : Int32) tx q6.2).bind fun q8 =>
  (fn_D_setMany (0 : Int32) q8.1 q7).bind fun q9 =>
  (fn_R_blankAndNumber (8 : Int32) tx q8.2).bind fun q10 =>
  (fn_D_setMany (1 : Int32) q10.1 q9).bind fun q11 =>
  (fn_R_blankAndNumber (8 : Int32) tx q10.2).bind fun q12 =>
  (fn_D_setMany (2 : Int32) q12.1 q11).bind fun q13 =>
  (fn_D_most q13).bind fun q14 =>
  (fn_D_many (0 : Int32) q13).bind fun q15 =>
  (fn_D_many (1 : Int32) q13).bind fun q16 =>
  (fn_R_expect (32 : Int32) tx q12.2).bind fun q17 =>
  (fn_R_number (60 : Int32) tx q17).bind fun q18 =>
  if decide (((q14 - q15) - q16) < q18.1) then
    fn_R_header_123 q17.2.2.2.2.2.2.2.1 q18.1 tx q18.2 q13
  else
    if decide (x2 = 0) then
      fn_R_header_129 q18.1 tx q18.2 q13
    else
      if decide (q18.1 = ((q14 - q15) - q16)) then
        fn_R_header_129 q18.1 tx q18.2 q13
      else
        fn_R_header_123 q17.2.2.2.2.2.2.2.1 q18.1 tx q18.2 q13
def fn_R_header (x2 : Int32) (tx : SB) (rd : SR) (d : SD) : Option (SR × SD) :=
  (fn_R_expect (97 : Int32) tx rd).bind fun q19 =>
  if decide (x2 = 0) then
    fn_R_header_18 (97 : Int32) x2 tx q19 d
  else
    fn_R_header_18 (105 : Int32) x2 tx q19 d
def fn_R_plainGates_11 (x2 : Int32) (tx : SB) (κ : SR → SD → Option (SR × SD)) : Nat → Int32 → SR → SD → Option (SR × SD)
  | 0, _, _, _ => none
  | n + 1, x3, rd, d =>
    (fn_D_many (3 : Int32) d).bind fun q1 =>
    if decide (q1 ≤ x3) then
      κ rd d
    else
      if decide (rd.2.2.2.2.2.2.2.2 = (-1 : Int32)) then
        if decide ((60 : Int32) ≤ x3) then
          (fn_R_definition x2 tx rd).bind fun q2 =>
          (fn_D_set (3 : Int32) x3 q2.1 d).bind fun q3 =>
          (fn_R_expect (32 : Int32) tx q2.2).bind fun q4 =>
          (fn_R_use x2 tx q4).bind fun q5 =>
          (fn_D_set (6 : Int32) x3 q5.1 q3).bind fun q6 =>
          (fn_R_expect (32 : Int32) tx q5.2).bind fun q7 =>
          (fn_R_use x2 tx q7).bind fun q8 =>
          (fn_D_set (7 : Int32) x3 q8.1 q6).bind fun q9 =>
          (fn_R_expect (10 : Int32) tx q8.2).bind fun q10 =>
          fn_R_plainGates_11 x2 tx κ n (x3 + 1) q10 q9
        else
          if decide (0 ≤ x3.toInt ∧ x3.toInt < (60 : Int)) then
          (fn_R_definition x2 tx (rd.1, rd.2.1, rd.2.2.1, upd rd.2.2.2.1 x3.toNatClampNeg rd.2.2.2.2.2.2.2.1, rd.2.2.2.2.1, rd.2.2.2.2.2.1, rd.2.2.2.2.2.2.1, rd.2.2.2.2.2.2.2.1, rd.2.2.2.2.2.2.2.2)).bind fun q11 =>
          (fn_D_set (3 : Int32) x3 q11.1 d).bind fun q12 =>
          (fn_R_expect (32 : Int32) tx q11.2).bind fun q13 =>
          (fn_R_use x2 tx q13).bind fun q14 =>
          (fn_D_set (6 : Int32) x3 q14.1 q12).bind fun q15 =>
          (fn_R_expect (32 : Int32) tx q14.2).bind fun q16 =>
          (fn_R_use x2 tx q16).bind fun q17 =>
          (fn_D_set (7 : Int32) x3 q17.1 q15).bind fun q18 =>
          (fn_R_expect (10 : Int32) tx q17.2).bind fun q19 =>
          fn_R_plainGates_11 x2 tx κ n (x3 + 1) q19 q18
          else none
      else
        κ rd d
def fn_R_plainGates (tx : SB) (rd : SR) (d : SD) : Option (SR × SD) :=
  (fn_D_most d).bind fun q20 =>
  fn_R_plainGates_11 (((2 : Int32) * q20) + (1 : Int32)) tx (fun rd_22 d_22 =>
    some (rd_22, d_22)) am_NF (0 : Int32) rd d
def fn_R_perhapsFirst (tx : SB) (rd : SR) : Option (Int32 × SR) :=
  (fn_B_at rd.2.2.2.2.2.2.2.1 tx).bind fun q1 =>
  if decide (q1 = (32 : Int32)) then
    (fn_R_blankAndNumber (1 : Int32) tx rd).bind fun q2 =>
    some (q2.1, q2.2)
  else
    some ((0 : Int32), rd)
def fn_T_about (x1 : Int32) (tx : SB) (d : SD) : Option (Int32) :=
  if decide (x1 = 0) then
    (fn_D_most d).bind fun q1 =>
    some q1
  else
  if decide (x1 = 1) then
    (fn_D_many (0 : Int32) d).bind fun q2 =>
    some q2
  else
  if decide (x1 = 2) then
    (fn_D_many (1 : Int32) d).bind fun q3 =>
    some q3
  else
  if decide (x1 = 3) then
    (fn_D_many (2 : Int32) d).bind fun q4 =>
    some q4
  else
  if decide (x1 = 4) then
    (fn_D_many (3 : Int32) d).bind fun q5 =>
    some q5
  else
  if decide (x1 = 5) then
    (fn_B_size tx).bind fun q6 =>
    some q6
  else
  if decide (x1 = 6) then
    (fn_D_inOrder d).bind fun q7 =>
    if decide (q7 = 0) then
      some (0 : Int32)
    else
      some (1 : Int32)
  else
    some (-1 : Int32)
def fn_W_plain_74 (d : SD) (κ : SB → Option (SB)) : Nat → Int32 → SB → Option (SB)
  | 0, _, _ => none
  | n + 1, x2, pg =>
    (fn_D_many (3 : Int32) d).bind fun q1 =>
    if decide (q1 ≤ x2) then
      κ pg
    else
      (fn_D_get (3 : Int32) x2 d).bind fun q2 =>
      (fn_W_numberAndBlank q2 pg).bind fun q3 =>
      (fn_D_get (6 : Int32) x2 d).bind fun q4 =>
      (fn_W_numberAndBlank q4 q3).bind fun q5 =>
      (fn_D_get (7 : Int32) x2 d).bind fun q6 =>
      (fn_W_lastNumber q6 q5).bind fun q7 =>
      fn_W_plain_74 d κ n (x2 + 1) q7
def fn_W_plain_36 (d : SD) (κ : SB → Option (SB)) : Nat → Int32 → SB → Option (SB)
  | 0, _, _ => none
  | n + 1, x2, pg =>
    (fn_D_many (1 : Int32) d).bind fun q8 =>
    if decide (q8 ≤ x2) then
      κ pg
    else
      (fn_D_get (1 : Int32) x2 d).bind fun q9 =>
      (fn_W_numberAndBlank q9 pg).bind fun q10 =>
      (fn_W_nextAndFirst x2 q10 d).bind fun q11 =>
      fn_W_plain_36 d κ n (x2 + 1) q11
def fn_W_plain_9 (d : SD) (κ : SB → Option (SB)) : Nat → Int32 → SB → Option (SB)
  | 0, _, _ => none
  | n + 1, x2, pg =>
    (fn_D_many (0 : Int32) d).bind fun q12 =>
    if decide (q12 ≤ x2) then
      κ pg
    else
      (fn_D_get (0 : Int32) x2 d).bind fun q13 =>
      (fn_W_lastNumber q13 pg).bind fun q14 =>
      fn_W_plain_9 d κ n (x2 + 1) q14
def fn_W_plain (pg : SB) (d : SD) : Option (SB) :=
  (fn_W_header (97 : Int32) pg d).bind fun q15 =>
  fn_W_plain_9 d (fun pg_17 =>
    fn_W_plain_36 d (fun pg_18 =>
      (fn_W_outputs pg_18 d).bind fun q18 =>
      fn_W_plain_74 d (fun pg_20 =>
        some pg_20) am_NF (0 : Int32) q18) am_NF (0 : Int32) pg_17) am_NF (0 : Int32) q15
def fn_W_packed_37 (d : SD) (κ : SB → Option (SB)) : Nat → Int32 → SB → Option (SB)
  | 0, _, _ => none
  | n + 1, x2, pg =>
    (fn_D_many (3 : Int32) d).bind fun q1 =>
    if decide (q1 ≤ x2) then
      κ pg
    else
      (fn_D_get (6 : Int32) x2 d).bind fun q2 =>
      (fn_D_get (3 : Int32) x2 d).bind fun q3 =>
      (fn_W_difference (q3 - q2) pg).bind fun q4 =>
      (fn_D_get (7 : Int32) x2 d).bind fun q5 =>
      (fn_W_difference (q2 - q5) q4).bind fun q6 =>
      fn_W_packed_37 d κ n (x2 + 1) q6
def fn_W_packed_9 (d : SD) (κ : SB → Option (SB)) : Nat → Int32 → SB → Option (SB)
  | 0, _, _ => none
  | n + 1, x2, pg =>
    (fn_D_many (1 : Int32) d).bind fun q7 =>
    if decide (q7 ≤ x2) then
      κ pg
    else
      (fn_W_nextAndFirst x2 pg d).bind fun q8 =>
      fn_W_packed_9 d κ n (x2 + 1) q8
def fn_W_packed (pg : SB) (d : SD) : Option (SB) :=
  (fn_W_header (105 : Int32) pg d).bind fun q9 =>
  fn_W_packed_9 d (fun pg_11 =>
    (fn_W_outputs pg_11 d).bind fun q11 =>
    fn_W_packed_37 d (fun pg_13 =>
      some pg_13) am_NF (0 : Int32) q11) am_NF (0 : Int32) q9
def fn_R_plainLines_151 (x2 : Int32) (tx : SB) (κ : SR → SD → Option (SR × SD)) : Nat → Int32 → SR → SD → Option (SR × SD)
  | 0, _, _, _ => none
  | n + 1, x3, rd, d =>
    (fn_D_many (2 : Int32) d).bind fun q1 =>
    if decide (q1 ≤ x3) then
      κ rd d
    else
      if decide (rd.2.2.2.2.2.2.2.2 = (-1 : Int32)) then
        (fn_R_use x2 tx rd).bind fun q2 =>
        (fn_D_set (2 : Int32) x3 q2.1 d).bind fun q3 =>
        (fn_R_expect (10 : Int32) tx q2.2).bind fun q4 =>
        fn_R_plainLines_151 x2 tx κ n (x3 + 1) q4 q3
      else
        κ rd d
def fn_R_plainLines_82 (x2 : Int32) (tx : SB) (κ : SR → SD → Option (SR × SD)) : Nat → Int32 → SR → SD → Option (SR × SD)
  | 0, _, _, _ => none
  | n + 1, x3, rd, d =>
    (fn_D_many (1 : Int32) d).bind fun q5 =>
    if decide (q5 ≤ x3) then
      κ rd d
    else
      if decide (rd.2.2.2.2.2.2.2.2 = (-1 : Int32)) then
        (fn_R_definition x2 tx rd).bind fun q6 =>
        (fn_D_set (1 : Int32) x3 q6.1 d).bind fun q7 =>
        (fn_R_expect (32 : Int32) tx q6.2).bind fun q8 =>
        (fn_R_use x2 tx q8).bind fun q9 =>
        (fn_D_set (4 : Int32) x3 q9.1 q7).bind fun q10 =>
        (fn_R_perhapsFirst tx q9.2).bind fun q11 =>
        (fn_D_set (5 : Int32) x3 q11.1 q10).bind fun q12 =>
        (fn_R_expect (10 : Int32) tx q11.2).bind fun q13 =>
        fn_R_plainLines_82 x2 tx κ n (x3 + 1) q13 q12
      else
        κ rd d
def fn_R_plainLines_40 (x2 : Int32) (tx : SB) (κ : SR → SD → Option (SR × SD)) : Nat → Int32 → SR → SD → Option (SR × SD)
  | 0, _, _, _ => none
  | n + 1, x3, rd, d =>
    (fn_D_many (0 : Int32) d).bind fun q14 =>
    if decide (q14 ≤ x3) then
      κ rd d
    else
      if decide (rd.2.2.2.2.2.2.2.2 = (-1 : Int32)) then
        (fn_R_definition x2 tx rd).bind fun q15 =>
        (fn_D_set (0 : Int32) x3 q15.1 d).bind fun q16 =>
        (fn_R_expect (10 : Int32) tx q15.2).bind fun q17 =>
        fn_R_plainLines_40 x2 tx κ n (x3 + 1) q17 q16
      else
        κ rd d
def fn_R_plainLines_7 (tx : SB) (κ : SR → SD → Option (SR × SD)) : Nat → Int32 → SR → SD → Option (SR × SD)
  | 0, _, _, _ => none
  | n + 1, x2, rd, d =>
    if decide ((100 : Int32) ≤ x2) then
      κ rd d
    else
      if decide (0 ≤ x2.toInt ∧ x2.toInt < (100 : Int)) then
      fn_R_plainLines_7 tx κ n (x2 + 1) (upd rd.1 x2.toNatClampNeg (vp_nar .boolean (0 : Int32)), rd.2.1, rd.2.2.1, rd.2.2.2.1, rd.2.2.2.2.1, rd.2.2.2.2.2.1, rd.2.2.2.2.2.2.1, rd.2.2.2.2.2.2.2.1, rd.2.2.2.2.2.2.2.2) d
      else none
def fn_R_plainLines (tx : SB) (rd : SR) (d : SD) : Option (SR × SD) :=
  fn_R_plainLines_7 tx (fun rd_19 d_19 =>
    (fn_D_most d_19).bind fun q19 =>
    fn_R_plainLines_40 (((2 : Int32) * q19) + (1 : Int32)) tx (fun rd_21 d_21 =>
      fn_R_plainLines_82 (((2 : Int32) * q19) + (1 : Int32)) tx (fun rd_22 d_22 =>
        fn_R_plainLines_151 (((2 : Int32) * q19) + (1 : Int32)) tx (fun rd_23 d_23 =>
          some (rd_23, d_23)) am_NF (0 : Int32) rd_22 d_22) am_NF (0 : Int32) rd_21 d_21) am_NF (0 : Int32) rd_19 d_19) am_NF (0 : Int32) (rd.1, rd.2.1, rd.2.2.1, rd.2.2.2.1, rd.2.2.2.2.1, rd.2.2.2.2.2.1, 0, rd.2.2.2.2.2.2.2.1, rd.2.2.2.2.2.2.2.2) d
def fn_R_packedLines_111 (x2 : Int32) (tx : SB) (κ : SR → SD → Option (SR × SD)) : Nat → Int32 → SR → SD → Option (SR × SD)
  | 0, _, _, _ => none
  | n + 1, x4, rd, d =>
    (fn_D_many (2 : Int32) d).bind fun q1 =>
    if decide (q1 ≤ x4) then
      κ rd d
    else
      if decide (rd.2.2.2.2.2.2.2.2 = (-1 : Int32)) then
        (fn_R_number x2 tx rd).bind fun q2 =>
        (fn_D_set (2 : Int32) x4 q2.1 d).bind fun q3 =>
        (fn_R_expect (10 : Int32) tx q2.2).bind fun q4 =>
        fn_R_packedLines_111 x2 tx κ n (x4 + 1) q4 q3
      else
        κ rd d
def fn_R_packedLines_44 (x2 : Int32) (tx : SB) (κ : SR → SD → Option (SR × SD)) : Nat → Int32 → Int32 → SR → SD → Option (SR × SD)
  | 0, _, _, _, _ => none
  | n + 1, x3, x4, rd, d =>
    (fn_D_many (1 : Int32) d).bind fun q5 =>
    if decide (q5 ≤ x4) then
      κ rd d
    else
      if decide (rd.2.2.2.2.2.2.2.2 = (-1 : Int32)) then
        (fn_D_set (1 : Int32) x4 (x3 + 2) d).bind fun q6 =>
        (fn_R_number x2 tx rd).bind fun q7 =>
        (fn_D_set (4 : Int32) x4 q7.1 q6).bind fun q8 =>
        (fn_R_perhapsFirst tx q7.2).bind fun q9 =>
        (fn_D_set (5 : Int32) x4 q9.1 q8).bind fun q10 =>
        (fn_R_expect (10 : Int32) tx q9.2).bind fun q11 =>
        fn_R_packedLines_44 x2 tx κ n (x3 + 2) (x4 + 1) q11 q10
      else
        κ rd d
def fn_R_packedLines_14 (x2 : Int32) (tx : SB) (κ : Int32 → SR → SD → Option (SR × SD)) : Nat → Int32 → Int32 → SR → SD → Option (SR × SD)
  | 0, _, _, _, _ => none
  | n + 1, x3, x4, rd, d =>
    (fn_D_many (0 : Int32) d).bind fun q12 =>
    if decide (q12 ≤ x4) then
      κ x3 rd d
    else
      (fn_D_set (0 : Int32) x4 (x3 + 2) d).bind fun q13 =>
      fn_R_packedLines_14 x2 tx κ n (x3 + 2) (x4 + 1) rd q13
def fn_R_packedLines (tx : SB) (rd : SR) (d : SD) : Option (SR × SD) :=
  (fn_D_most d).bind fun q14 =>
  fn_R_packedLines_14 (((2 : Int32) * q14) + (1 : Int32)) tx (fun x3_16 rd_16 d_16 =>
    fn_R_packedLines_44 (((2 : Int32) * q14) + (1 : Int32)) tx (fun rd_17 d_17 =>
      fn_R_packedLines_111 (((2 : Int32) * q14) + (1 : Int32)) tx (fun rd_18 d_18 =>
        some (rd_18, d_18)) am_NF (0 : Int32) rd_17 d_17) am_NF x3_16 (0 : Int32) rd_16 d_16) am_NF (0 : Int32) (0 : Int32) rd d
def fn_T_order (d : SD) (e : SD) : Option (SD) :=
  (fn_D_orderFrom e d).bind fun q1 =>
  (fn_T_exchange).bind fun q2 =>
  some q1
def fn_T_cycle (x1 : Int32) (d : SD) : Option (Int32 × SD) :=
  (fn_D_step x1 d).bind fun q1 =>
  some (q1.1, q1.2)
def fn_R_fill_116 (tx : SB) (rd : SR) (d : SD) : Option (Int32 × SR × SD) :=
  if decide (rd.2.2.2.2.2.2.2.2 = (-1 : Int32)) then
    (fn_D_arrange d).bind fun q1 =>
    some (rd.2.2.2.2.2.2.2.2, rd, q1)
  else
    some (rd.2.2.2.2.2.2.2.2, rd, d)
def fn_R_fill_91 (x2 : Int32) (tx : SB) (rd : SR) (d : SD) : Option (Int32 × SR × SD) :=
  (fn_R_closing tx rd).bind fun q2 =>
  if decide (q2.2.2.2.2.2.2.2.2 = (-1 : Int32)) then
    if decide (x2 = 0) then
      (fn_R_findUndefined q2).bind fun q3 =>
      (fn_R_findRound q3 d).bind fun q4 =>
      fn_R_fill_116 tx q4 d
    else
      fn_R_fill_116 tx q2 d
  else
    fn_R_fill_116 tx q2 d
def fn_R_fill_73 (x2 : Int32) (tx : SB) (rd : SR) (d : SD) : Option (Int32 × SR × SD) :=
  if decide (rd.2.2.2.2.2.2.2.2 = (-1 : Int32)) then
    (fn_R_plainLines tx rd d).bind fun q5 =>
    (fn_R_plainGates tx q5.1 q5.2).bind fun q6 =>
    fn_R_fill_91 x2 tx q6.1 q6.2
  else
    fn_R_fill_91 x2 tx rd d
def fn_R_fill_41 (s0 : Int32) (tx : SB) (rd : SR) (d : SD) : Option (Int32 × SR × SD) :=
  (fn_R_header s0 tx rd d).bind fun q7 =>
  if decide (q7.1.2.2.2.2.2.2.2.2 = (-1 : Int32)) then
    if decide (s0 = 0) then
      fn_R_fill_73 s0 tx q7.1 q7.2
    else
      (fn_R_packedLines tx q7.1 q7.2).bind fun q8 =>
      (fn_R_packedGates tx q8.1 q8.2).bind fun q9 =>
      fn_R_fill_91 s0 tx q9.1 q9.2
  else
    fn_R_fill_73 s0 tx q7.1 q7.2
def fn_R_fill_40 (tx : SB) (rd : SR) (d : SD) : Option (Int32 × SR × SD) :=
  fn_R_fill_41 (0 : Int32) tx rd d
def fn_R_fill (tx : SB) (rd : SR) (d : SD) : Option (Int32 × SR × SD) :=
  (fn_B_at (1 : Int32) tx).bind fun q10 =>
  if decide (q10 = (105 : Int32)) then
    (fn_B_at (2 : Int32) tx).bind fun q11 =>
    if decide (q11 = (103 : Int32)) then
      fn_R_fill_41 (1 : Int32) tx (rd.1, rd.2.1, rd.2.2.1, rd.2.2.2.1, rd.2.2.2.2.1, rd.2.2.2.2.2.1, rd.2.2.2.2.2.2.1, 0, (-1)) d
    else
      fn_R_fill_40 tx (rd.1, rd.2.1, rd.2.2.1, rd.2.2.2.1, rd.2.2.2.2.1, rd.2.2.2.2.2.1, rd.2.2.2.2.2.2.1, 0, (-1)) d
  else
    fn_R_fill_40 tx (rd.1, rd.2.1, rd.2.2.1, rd.2.2.2.1, rd.2.2.2.2.1, rd.2.2.2.2.2.1, rd.2.2.2.2.2.2.1, 0, (-1)) d
def fn_T_read (tx : SB) (rd : SR) (e : SD) : Option (Int32 × SB × SR × SD × Bool) :=
  (fn_R_fill tx rd e).bind fun q1 =>
  (fn_B_clear tx).bind fun q2 =>
  if decide (q1.1 = (-1 : Int32)) then
    (fn_D_restart q1.2.2).bind fun q3 =>
    (fn_T_exchange).bind fun q4 =>
    some (q1.1, q2, q1.2.1, q3, true)
  else
    some (q1.1, q2, q1.2.1, q1.2.2, false)
