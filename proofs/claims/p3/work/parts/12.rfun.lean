/-! THE REFERENCE'S STATE, by parts -/
abbrev Mth : Type := Int32
abbrev Mtx : Type := (Nat → Int32) × Int32
abbrev Mds : Type := Int32 × (Nat → Int32) × (Nat → Int32) × (Nat → Int32) × (Nat → Int32) × (Nat → Int32) × (Nat → Int32) × (Nat → Int32) × (Nat → Int32) × (Nat → Int32)
abbrev Mnw : Type := (Nat → Int32)
abbrev Mou : Type := (Nat → Int32) × Int32
abbrev Mps : Type := Int32 × Int32 × Int32
abbrev Mnd : Type := Int32 × (Nat → Int32) × (Nat → Int32) × (Nat → Int32) × (Nat → Int32) × (Nat → Int32) × (Nat → Int32) × (Nat → Int32) × (Nat → Int32) × (Nat → Int32)
abbrev Mus : Type := (Nat → Int32) × (Nat → Int32) × (Nat → Int32) × (Nat → Int32) × Int32
abbrev Mre : Type := (Nat → Int32)
abbrev Mva : Type := (Nat → Int32)
abbrev Mnu : Type := (Nat → Int32) × (Nat → Int32)
def hr (th : Mth) (tx : Mtx) (ds : Mds) (nw : Mnw) (ou : Mou) (ps : Mps) (nd : Mnd) (us : Mus) (re : Mre) (va : Mva) (nu : Mnu) : am_H :=
  [.inr (5, [.int th, .ref 1, .int tx.2, .int ds.1, .ref 2, .ref 3, .ref 4, .ref 5, .ref 6, .ref 7, .ref 8, .ref 9, .ref 10, .ref 11, .ref 12, .int ou.2, .int ps.1, .int ps.2.1, .int ps.2.2, .int nd.1, .ref 13, .ref 14, .ref 15, .ref 16, .ref 17, .ref 18, .ref 19, .ref 20, .ref 21, .ref 22, .ref 23, .ref 24, .ref 25, .int us.2.2.2.2, .ref 26, .ref 27, .ref 28, .ref 29]),
   .inl (1, 1500, .inl tx.1),
   .inl (1, 4, .inl ds.2.1),
   .inl (1, 8, .inl ds.2.2.1),
   .inl (1, 8, .inl ds.2.2.2.1),
   .inl (1, 8, .inl ds.2.2.2.2.1),
   .inl (1, 8, .inl ds.2.2.2.2.2.1),
   .inl (1, 8, .inl ds.2.2.2.2.2.2.1),
   .inl (1, 60, .inl ds.2.2.2.2.2.2.2.1),
   .inl (1, 60, .inl ds.2.2.2.2.2.2.2.2.1),
   .inl (1, 60, .inl ds.2.2.2.2.2.2.2.2.2),
   .inl (1, 8, .inl nw),
   .inl (1, 1500, .inl ou.1),
   .inl (1, 4, .inl nd.2.1),
   .inl (1, 8, .inl nd.2.2.1),
   .inl (1, 8, .inl nd.2.2.2.1),
   .inl (1, 8, .inl nd.2.2.2.2.1),
   .inl (1, 8, .inl nd.2.2.2.2.2.1),
   .inl (1, 8, .inl nd.2.2.2.2.2.2.1),
   .inl (1, 60, .inl nd.2.2.2.2.2.2.2.1),
   .inl (1, 60, .inl nd.2.2.2.2.2.2.2.2.1),
   .inl (1, 60, .inl nd.2.2.2.2.2.2.2.2.2),
   .inl (1, 60, .inl us.1),
   .inl (2, 100, .inl us.2.1),
   .inl (1, 140, .inl us.2.2.1),
   .inl (1, 140, .inl us.2.2.2.1),
   .inl (2, 3600, .inl re),
   .inl (1, 100, .inl va),
   .inl (1, 100, .inl nu.1),
   .inl (1, 60, .inl nu.2)]
def fn_M_put_46 (x1 : Int32) (x2 : Int32) (κ : Mth → Mtx → Option (Int32 × Mth × Mtx)) : Nat → Int32 → Mth → Mtx → Option (Int32 × Mth × Mtx)
  | 0, _, _, _ => none
  | n + 1, x3, th, tx =>
    if decide (x1 ≤ x3) then
      κ th tx
    else
      if decide (0 ≤ tx.2.toInt ∧ tx.2.toInt < (1500 : Int)) then
      fn_M_put_46 x1 x2 κ n (x3 + 1) th (upd tx.1 tx.2.toNatClampNeg (((x2 >>> (((8 : Int32) * x3) &&& 31)) &&& (255 : Int32))), tx.2 + (1 : Int32))
      else none
def fn_M_put_32 (s1 : Int32) (x1 : Int32) (x2 : Int32) (th : Mth) (tx : Mtx) : Option (Int32 × Mth × Mtx) :=
  if decide (s1 ≤ 0) then
    fn_M_put_46 x1 x2 (fun th_2 tx_2 =>
      some (tx_2.2, th_2, tx_2)) am_NF (0 : Int32) s1 tx
  else
    some ((0 : Int32), s1, tx)
def fn_M_put_11 (x1 : Int32) (x2 : Int32) (th : Mth) (tx : Mtx) : Option (Int32 × Mth × Mtx) :=
  fn_M_put_32 (1 : Int32) x1 x2 th tx
def fn_M_put (x1 : Int32) (x2 : Int32) (th : Mth) (tx : Mtx) : Option (Int32 × Mth × Mtx) :=
  if decide (x1 < (1 : Int32)) then
    fn_M_put_11 x1 x2 th tx
  else
    if decide (x1 ≤ (4 : Int32)) then
      if decide ((tx.2 + x1) ≤ (1500 : Int32)) then
        fn_M_put_32 (0 : Int32) x1 x2 th tx
      else
        fn_M_put_32 (2 : Int32) x1 x2 th tx
    else
      fn_M_put_11 x1 x2 th tx
def fn_M_byteAt (x1 : Int32) (tx : Mtx) : Option (Int32) :=
  if decide (tx.2 ≤ x1) then
    some (-1 : Int32)
  else
    if decide (0 ≤ x1.toInt ∧ x1.toInt < (1500 : Int)) then
    some (tx.1 x1.toNatClampNeg)
    else none
def fn_M_bad (x1 : Int32) (ps : Mps) : Option (Mps) :=
  if decide (ps.2.1 = (-1 : Int32)) then
    some (ps.1, x1, ps.2.2)
  else
    some ps
def fn_M_gateOf_2 (x1 : Int32) (nd : Mnd) (κ : Option (Int32)) : Nat → Int32 → Option (Int32)
  | 0, _ => none
  | n + 1, x2 =>
    if decide (0 ≤ (3 : Int32).toInt ∧ (3 : Int32).toInt < (4 : Int)) then
    if decide ((nd.2.1 ((3 : Int32).toNatClampNeg)) ≤ x2) then
      κ
    else
      if decide (0 ≤ x2.toInt ∧ x2.toInt < (60 : Int)) then
      if decide (¬ (2 : Int32) = 0) then
      if decide (((nd.2.2.2.2.2.2.2.1 x2.toNatClampNeg) / (2 : Int32)) = x1) then
        some x2
      else
        fn_M_gateOf_2 x1 nd κ n (x2 + 1)
      else none
      else none
    else none
def fn_M_gateOf (x1 : Int32) (nd : Mnd) : Option (Int32) :=
  fn_M_gateOf_2 x1 nd (
    some (-1 : Int32)) am_NF (0 : Int32)
def fn_M_isOrdered_88 (ds : Mds) (κ : Int32 → Int32 → Option (Int32)) : Nat → Int32 → Int32 → Int32 → Option (Int32)
  | 0, _, _, _ => none
  | n + 1, x1, x2, x3 =>
    if decide (0 ≤ (3 : Int32).toInt ∧ (3 : Int32).toInt < (4 : Int)) then
    if decide ((ds.2.1 ((3 : Int32).toNatClampNeg)) ≤ x3) then
      κ x1 x2
    else
      if decide (x2 = 0) then
        fn_M_isOrdered_88 ds κ n (x1 + 2) (0 : Int32) (x3 + 1)
      else
        if decide (0 ≤ x3.toInt ∧ x3.toInt < (60 : Int)) then
        if decide ((ds.2.2.2.2.2.2.2.1 x3.toNatClampNeg) = (x1 + 2)) then
          if decide (0 ≤ x3.toInt ∧ x3.toInt < (60 : Int)) then
          if decide ((x1 + 2) ≤ (ds.2.2.2.2.2.2.2.2.1 x3.toNatClampNeg)) then
            fn_M_isOrdered_88 ds κ n (x1 + 2) (0 : Int32) (x3 + 1)
          else
            if decide (0 ≤ x3.toInt ∧ x3.toInt < (60 : Int)) then
            if decide (0 ≤ x3.toInt ∧ x3.toInt < (60 : Int)) then
            if decide ((ds.2.2.2.2.2.2.2.2.1 x3.toNatClampNeg) < (ds.2.2.2.2.2.2.2.2.2 x3.toNatClampNeg)) then
              fn_M_isOrdered_88 ds κ n (x1 + 2) (0 : Int32) (x3 + 1)
            else
              fn_M_isOrdered_88 ds κ n (x1 + 2) (1 : Int32) (x3 + 1)
            else none
            else none
          else none
        else
          fn_M_isOrdered_88 ds κ n (x1 + 2) (0 : Int32) (x3 + 1)
        else none
    else none
def fn_M_isOrdered_47 (ds : Mds) (κ : Int32 → Int32 → Option (Int32)) : Nat → Int32 → Int32 → Int32 → Option (Int32)
  | 0, _, _, _ => none
  | n + 1, x1, x2, x3 =>
    if decide (0 ≤ (1 : Int32).toInt ∧ (1 : Int32).toInt < (4 : Int)) then
    if decide ((ds.2.1 ((1 : Int32).toNatClampNeg)) ≤ x3) then
      κ x1 x2
    else
      if decide (x2 = 0) then
        fn_M_isOrdered_47 ds κ n (x1 + 2) (0 : Int32) (x3 + 1)
      else
        if decide (0 ≤ x3.toInt ∧ x3.toInt < (8 : Int)) then
        if decide ((ds.2.2.2.1 x3.toNatClampNeg) = (x1 + 2)) then
          fn_M_isOrdered_47 ds κ n (x1 + 2) (1 : Int32) (x3 + 1)
        else
          fn_M_isOrdered_47 ds κ n (x1 + 2) (0 : Int32) (x3 + 1)
        else none
    else none
def fn_M_isOrdered_6 (ds : Mds) (κ : Int32 → Int32 → Option (Int32)) : Nat → Int32 → Int32 → Int32 → Option (Int32)
  | 0, _, _, _ => none
  | n + 1, x1, x2, x3 =>
    if decide (0 ≤ (0 : Int32).toInt ∧ (0 : Int32).toInt < (4 : Int)) then
    if decide ((ds.2.1 ((0 : Int32).toNatClampNeg)) ≤ x3) then
      κ x1 x2
    else
      if decide (x2 = 0) then
        fn_M_isOrdered_6 ds κ n (x1 + 2) (0 : Int32) (x3 + 1)
      else
        if decide (0 ≤ x3.toInt ∧ x3.toInt < (8 : Int)) then
        if decide ((ds.2.2.1 x3.toNatClampNeg) = (x1 + 2)) then
          fn_M_isOrdered_6 ds κ n (x1 + 2) (1 : Int32) (x3 + 1)
        else
          fn_M_isOrdered_6 ds κ n (x1 + 2) (0 : Int32) (x3 + 1)
        else none
    else none
def fn_M_isOrdered (ds : Mds) : Option (Int32) :=
  fn_M_isOrdered_6 ds (fun x1_2 x2_2 =>
    fn_M_isOrdered_47 ds (fun x1_3 x2_3 =>
      fn_M_isOrdered_88 ds (fun x1_4 x2_4 =>
        if decide (x2_4 = 0) then
          some (0 : Int32)
        else
          if decide (x1_4 = ((2 : Int32) * ds.1)) then
            some (1 : Int32)
          else
            some (0 : Int32)) am_NF x1_3 x2_3 (0 : Int32)) am_NF x1_2 x2_2 (0 : Int32)) am_NF (0 : Int32) (1 : Int32) (0 : Int32)
def fn_M_has_69 (s1 : Int32) (x1 : Int32) (x2 : Int32) (th : Mth) (ds : Mds) : Option (Int32 × Mth) :=
  if decide (s1 ≤ 0) then
    if decide (x1 = 0) then
      if decide (0 ≤ x2.toInt ∧ x2.toInt < (8 : Int)) then
      some ((ds.2.2.1 x2.toNatClampNeg), s1)
      else none
    else
    if decide (x1 = 1) then
      if decide (0 ≤ x2.toInt ∧ x2.toInt < (8 : Int)) then
      some ((ds.2.2.2.1 x2.toNatClampNeg), s1)
      else none
    else
    if decide (x1 = 2) then
      if decide (0 ≤ x2.toInt ∧ x2.toInt < (8 : Int)) then
      some ((ds.2.2.2.2.2.2.1 x2.toNatClampNeg), s1)
      else none
    else
    if decide (x1 = 3) then
      if decide (0 ≤ x2.toInt ∧ x2.toInt < (60 : Int)) then
      some ((ds.2.2.2.2.2.2.2.1 x2.toNatClampNeg), s1)
      else none
    else
    if decide (x1 = 4) then
      if decide (0 ≤ x2.toInt ∧ x2.toInt < (8 : Int)) then
      some ((ds.2.2.2.2.1 x2.toNatClampNeg), s1)
      else none
    else
    if decide (x1 = 5) then
      if decide (0 ≤ x2.toInt ∧ x2.toInt < (8 : Int)) then
      some ((ds.2.2.2.2.2.1 x2.toNatClampNeg), s1)
      else none
    else
    if decide (x1 = 6) then
      if decide (0 ≤ x2.toInt ∧ x2.toInt < (60 : Int)) then
      some ((ds.2.2.2.2.2.2.2.2.1 x2.toNatClampNeg), s1)
      else none
    else
      if decide (0 ≤ x2.toInt ∧ x2.toInt < (60 : Int)) then
      some ((ds.2.2.2.2.2.2.2.2.2 x2.toNatClampNeg), s1)
      else none
  else
    some ((0 : Int32), s1)
def fn_M_has_64 (x1 : Int32) (x2 : Int32) (th : Mth) (ds : Mds) : Option (Int32 × Mth) :=
  fn_M_has_69 (2 : Int32) x1 x2 th ds
def fn_M_has_52 (s1 : Int32) (x1 : Int32) (x2 : Int32) (th : Mth) (ds : Mds) : Option (Int32 × Mth) :=
  if decide (0 ≤ s1.toInt ∧ s1.toInt < (4 : Int)) then
  if decide (x2 < 0) then
    fn_M_has_64 x1 x2 th ds
  else
    if decide (x2 < (ds.2.1 s1.toNatClampNeg)) then
      fn_M_has_69 (0 : Int32) x1 x2 th ds
    else
      fn_M_has_64 x1 x2 th ds
  else none
def fn_M_has_16 (s1 : Int32) (x1 : Int32) (x2 : Int32) (th : Mth) (ds : Mds) : Option (Int32 × Mth) :=
  if decide (s1 ≤ 0) then
    if decide ((4 : Int32) ≤ x1) then
      if decide ((6 : Int32) ≤ x1) then
        fn_M_has_52 (3 : Int32) x1 x2 s1 ds
      else
        fn_M_has_52 (1 : Int32) x1 x2 s1 ds
    else
      fn_M_has_52 x1 x1 x2 s1 ds
  else
    some ((0 : Int32), s1)
def fn_M_has_11 (x1 : Int32) (x2 : Int32) (th : Mth) (ds : Mds) : Option (Int32 × Mth) :=
  fn_M_has_16 (1 : Int32) x1 x2 th ds
def fn_M_has (x1 : Int32) (x2 : Int32) (th : Mth) (ds : Mds) : Option (Int32 × Mth) :=
  if decide (x1 < 0) then
    fn_M_has_11 x1 x2 th ds
  else
    if decide (x1 ≤ (7 : Int32)) then
      fn_M_has_16 (0 : Int32) x1 x2 th ds
    else
      fn_M_has_11 x1 x2 th ds
def fn_M_anew (x1 : Int32) (nu : Mnu) : Option (Int32) :=
  if decide (¬ (2 : Int32) = 0) then
  if decide (0 ≤ (x1 / (2 : Int32)).toInt ∧ (x1 / (2 : Int32)).toInt < (100 : Int)) then
  if decide (¬ (2 : Int32) = 0) then
  some (((2 : Int32) * (nu.1 ((x1 / (2 : Int32)).toNatClampNeg))) + (x1 - x1 / (2 : Int32) * (2 : Int32)))
  else none
  else none
  else none
def fn_M_ready_2 (ds : Mds) (nu : Mnu) (κ : Option (Int32)) : Nat → Int32 → Option (Int32)
  | 0, _ => none
  | n + 1, x1 =>
    if decide (0 ≤ (3 : Int32).toInt ∧ (3 : Int32).toInt < (4 : Int)) then
    if decide ((ds.2.1 ((3 : Int32).toNatClampNeg)) ≤ x1) then
      κ
    else
      if decide (0 ≤ x1.toInt ∧ x1.toInt < (60 : Int)) then
      if decide (¬ (2 : Int32) = 0) then
      if decide (0 ≤ ((ds.2.2.2.2.2.2.2.1 x1.toNatClampNeg) / (2 : Int32)).toInt ∧ ((ds.2.2.2.2.2.2.2.1 x1.toNatClampNeg) / (2 : Int32)).toInt < (100 : Int)) then
      if decide ((nu.1 (((ds.2.2.2.2.2.2.2.1 x1.toNatClampNeg) / (2 : Int32)).toNatClampNeg)) = (-1 : Int32)) then
        if decide (0 ≤ x1.toInt ∧ x1.toInt < (60 : Int)) then
        if decide (¬ (2 : Int32) = 0) then
        if decide (0 ≤ ((ds.2.2.2.2.2.2.2.2.1 x1.toNatClampNeg) / (2 : Int32)).toInt ∧ ((ds.2.2.2.2.2.2.2.2.1 x1.toNatClampNeg) / (2 : Int32)).toInt < (100 : Int)) then
        if decide ((nu.1 (((ds.2.2.2.2.2.2.2.2.1 x1.toNatClampNeg) / (2 : Int32)).toNatClampNeg)) = (-1 : Int32)) then
          fn_M_ready_2 ds nu κ n (x1 + 1)
        else
          if decide (0 ≤ x1.toInt ∧ x1.toInt < (60 : Int)) then
          if decide (¬ (2 : Int32) = 0) then
          if decide (0 ≤ ((ds.2.2.2.2.2.2.2.2.2 x1.toNatClampNeg) / (2 : Int32)).toInt ∧ ((ds.2.2.2.2.2.2.2.2.2 x1.toNatClampNeg) / (2 : Int32)).toInt < (100 : Int)) then
          if decide ((nu.1 (((ds.2.2.2.2.2.2.2.2.2 x1.toNatClampNeg) / (2 : Int32)).toNatClampNeg)) = (-1 : Int32)) then
            fn_M_ready_2 ds nu κ n (x1 + 1)
          else
            some x1
          else none
          else none
          else none
        else none
        else none
        else none
      else
        fn_M_ready_2 ds nu κ n (x1 + 1)
      else none
      else none
      else none
    else none
def fn_M_ready (ds : Mds) (nu : Mnu) : Option (Int32) :=
  fn_M_ready_2 ds nu (
    some (-1 : Int32)) am_NF (0 : Int32)
def fn_M_add (x1 : Int32) (ou : Mou) : Option (Mou) :=
  if decide (0 ≤ ou.2.toInt ∧ ou.2.toInt < (1500 : Int)) then
  some (upd ou.1 ou.2.toNatClampNeg x1, ou.2 + (1 : Int32))
  else none
def fn_M_written_10 (s1 : Int32) (x1 : Int32) (th : Mth) (ou : Mou) : Option (Int32 × Mth) :=
  if decide (s1 ≤ 0) then
    if decide (ou.2 ≤ x1) then
      some ((-1 : Int32), s1)
    else
      if decide (0 ≤ x1.toInt ∧ x1.toInt < (1500 : Int)) then
      some ((ou.1 x1.toNatClampNeg), s1)
      else none
  else
    some ((0 : Int32), s1)
def fn_M_written (x1 : Int32) (th : Mth) (ou : Mou) : Option (Int32 × Mth) :=
  if decide (0 ≤ x1) then
    fn_M_written_10 (0 : Int32) x1 th ou
  else
    fn_M_written_10 (1 : Int32) x1 th ou
def fn_M_reset_7 (ds : Mds) (κ : Mth → Mnw → Option (Mth × Mnw)) : Nat → Int32 → Mth → Mnw → Option (Mth × Mnw)
  | 0, _, _, _ => none
  | n + 1, x1, th, nw =>
    if decide ((8 : Int32) ≤ x1) then
      κ th nw
    else
      if decide (0 ≤ x1.toInt ∧ x1.toInt < (8 : Int)) then
      if decide (0 ≤ x1.toInt ∧ x1.toInt < (8 : Int)) then
      fn_M_reset_7 ds κ n (x1 + 1) th (upd nw x1.toNatClampNeg ((ds.2.2.2.2.2.1 x1.toNatClampNeg)))
      else none
      else none
def fn_M_reset (th : Mth) (ds : Mds) (nw : Mnw) : Option (Mth × Mnw) :=
  fn_M_reset_7 ds (fun th_2 nw_2 =>
    some (th_2, nw_2)) am_NF (0 : Int32) 0 nw
def fn_M_valueOf (x1 : Int32) (va : Mva) : Option (Int32) :=
  if decide (¬ (2 : Int32) = 0) then
  if decide (0 ≤ (x1 / (2 : Int32)).toInt ∧ (x1 / (2 : Int32)).toInt < (100 : Int)) then
  if decide ((va ((x1 / (2 : Int32)).toNatClampNeg)) = (-1 : Int32)) then
    some (-1 : Int32)
  else
    if decide (¬ (2 : Int32) = 0) then
    some ((va ((x1 / (2 : Int32)).toNatClampNeg)) ^^^ (x1 - x1 / (2 : Int32) * (2 : Int32)))
    else none
  else none
  else none
def fn_M_latches_9 (ds : Mds) (nw : Mnw) (κ : Int32 → Mth → Option (Int32 × Mth)) : Nat → Int32 → Int32 → Mth → Option (Int32 × Mth)
  | 0, _, _, _ => none
  | n + 1, x1, x2, th =>
    if decide (0 ≤ (1 : Int32).toInt ∧ (1 : Int32).toInt < (4 : Int)) then
    if decide ((ds.2.1 ((1 : Int32).toNatClampNeg)) ≤ x2) then
      κ x1 th
    else
      if decide (0 ≤ x2.toInt ∧ x2.toInt < (8 : Int)) then
      fn_M_latches_9 ds nw κ n (x1 ||| ((nw x2.toNatClampNeg) <<< (x2 &&& 31))) (x2 + 1) th
      else none
    else none
def fn_M_latches (th : Mth) (ds : Mds) (nw : Mnw) : Option (Int32 × Mth) :=
  fn_M_latches_9 ds nw (fun x1_2 th_2 =>
    some (x1_2, th_2)) am_NF (0 : Int32) (0 : Int32) 0
def fn_M_take (x1 : Int32) (tx : Mtx) (ps : Mps) : Option (Mps) :=
  if decide (ps.2.1 = (-1 : Int32)) then
    (fn_M_byteAt ps.1 tx).bind fun q1 =>
    if decide (q1 = x1) then
      some (ps.1 + (1 : Int32), ps.2.1, ps.2.2)
    else
      (fn_M_bad ps.1 ps).bind fun q2 =>
      some q2
  else
    some ps
def fn_M_isDigit (x1 : Int32) (tx : Mtx) : Option (Int32) :=
  (fn_M_byteAt x1 tx).bind fun q1 =>
  if decide (q1 < (48 : Int32)) then
    some (0 : Int32)
  else
    (fn_M_byteAt x1 tx).bind fun q2 =>
    if decide ((57 : Int32) < q2) then
      some (0 : Int32)
    else
      some (1 : Int32)
def fn_M_difference_131 (x3 : Int32) (x5 : Int32) (tx : Mtx) (ps : Mps) : Option (Int32 × Mps) :=
  (fn_M_bad x3 ps).bind fun q1 =>
  some (x5, q1)
def fn_M_difference_119 (x1 : Int32) (x2 : Int32) (x3 : Int32) (x5 : Int32) (tx : Mtx) (ps : Mps) : Option (Int32 × Mps) :=
  if decide (x5 < x1) then
    fn_M_difference_131 x3 x5 tx ps
  else
    if decide (x5 ≤ x2) then
      some (x5, ps)
    else
      fn_M_difference_131 x3 x5 tx ps
def fn_M_difference_88 (tx : Mtx) (ps : Mps) : Option (Int32 × Mps) :=
  (fn_M_bad ps.1 ps).bind fun q2 =>
  some ((0 : Int32), q2)
def fn_M_difference (x1 : Int32) (x2 : Int32) (tx : Mtx) (ps : Mps) : Option (Int32 × Mps) :=
  if decide (ps.2.1 = (-1 : Int32)) then
    (fn_M_byteAt ps.1 tx).bind fun q3 =>
    if decide (q3 = (-1 : Int32)) then
      (fn_M_bad ps.1 ps).bind fun q4 =>
      some ((0 : Int32), q4)
    else
      if decide (q3 ≤ (127 : Int32)) then
        fn_M_difference_119 x1 x2 ps.1 (q3 &&& (127 : Int32)) tx (ps.1 + (1 : Int32), ps.2.1, ps.2.2)
      else
        (fn_M_byteAt (ps.1 + (1 : Int32)) tx).bind fun q5 =>
        if decide (q5 < (1 : Int32)) then
          fn_M_difference_88 tx (ps.1 + (1 : Int32), ps.2.1, ps.2.2)
        else
          if decide (q5 ≤ (127 : Int32)) then
            fn_M_difference_119 x1 x2 ps.1 ((q3 &&& (127 : Int32)) + ((128 : Int32) * q5)) tx ((ps.1 + (1 : Int32)) + (1 : Int32), ps.2.1, ps.2.2)
          else
            fn_M_difference_88 tx (ps.1 + (1 : Int32), ps.2.1, ps.2.2)
  else
    some ((0 : Int32), ps)
def fn_M_findUndefined_2 (us : Mus) (κ : Mps → Option (Mps)) : Nat → Int32 → Mps → Option (Mps)
  | 0, _, _ => none
  | n + 1, x1, ps =>
    if decide (us.2.2.2.2 ≤ x1) then
      κ ps
    else
      if decide (0 ≤ x1.toInt ∧ x1.toInt < (140 : Int)) then
      if decide ((us.2.2.1 x1.toNatClampNeg) ≤ (1 : Int32)) then
        fn_M_findUndefined_2 us κ n (x1 + 1) ps
      else
        if decide (0 ≤ x1.toInt ∧ x1.toInt < (140 : Int)) then
        if decide (¬ (2 : Int32) = 0) then
        if decide (0 ≤ ((us.2.2.1 x1.toNatClampNeg) / (2 : Int32)).toInt ∧ ((us.2.2.1 x1.toNatClampNeg) / (2 : Int32)).toInt < (100 : Int)) then
        if decide ((us.2.1 (((us.2.2.1 x1.toNatClampNeg) / (2 : Int32)).toNatClampNeg)) = 0) then
          if decide (0 ≤ x1.toInt ∧ x1.toInt < (140 : Int)) then
          (fn_M_bad (us.2.2.2.1 x1.toNatClampNeg) ps).bind fun q1 =>
          fn_M_findUndefined_2 us κ n (x1 + 1) q1
          else none
        else
          fn_M_findUndefined_2 us κ n (x1 + 1) ps
        else none
        else none
        else none
      else none
def fn_M_findUndefined (ps : Mps) (us : Mus) : Option (Mps) :=
  fn_M_findUndefined_2 us (fun ps_3 =>
    some ps_3) am_NF (0 : Int32) ps
def fn_M_findResting_209 (x1 : Int32) (nd : Mnd) (us : Mus) (κ : Mps → Mre → Option (Mps × Mre)) : Nat → Int32 → Mps → Mre → Option (Mps × Mre)
  | 0, _, _, _ => none
  | n + 1, x2, ps, re =>
    if decide (x1 ≤ x2) then
      κ ps re
    else
      if decide (0 ≤ (((60 : Int32) * x2) + x2).toInt ∧ (((60 : Int32) * x2) + x2).toInt < (3600 : Int)) then
      if decide ((re ((((60 : Int32) * x2) + x2).toNatClampNeg)) = 0) then
        fn_M_findResting_209 x1 nd us κ n (x2 + 1) ps re
      else
        if decide (0 ≤ x2.toInt ∧ x2.toInt < (60 : Int)) then
        (fn_M_bad (us.1 x2.toNatClampNeg) ps).bind fun q1 =>
        fn_M_findResting_209 x1 nd us κ n (x2 + 1) q1 re
        else none
      else none
def fn_M_findResting_122 (x1 : Int32) (x2 : Int32) (x3 : Int32) (nd : Mnd) (us : Mus) (κ : Mps → Mre → Option (Mps × Mre)) : Nat → Int32 → Mps → Mre → Option (Mps × Mre)
  | 0, _, _, _ => none
  | n + 1, x4, ps, re =>
    if decide (x1 ≤ x4) then
      κ ps re
    else
      if decide (0 ≤ (((60 : Int32) * x3) + x4).toInt ∧ (((60 : Int32) * x3) + x4).toInt < (3600 : Int)) then
      if decide ((re ((((60 : Int32) * x3) + x4).toNatClampNeg)) = 0) then
        if decide (0 ≤ (((60 : Int32) * x3) + x2).toInt ∧ (((60 : Int32) * x3) + x2).toInt < (3600 : Int)) then
        if decide ((re ((((60 : Int32) * x3) + x2).toNatClampNeg)) = 0) then
          if decide (0 ≤ (((60 : Int32) * x3) + x4).toInt ∧ (((60 : Int32) * x3) + x4).toInt < (3600 : Int)) then
          fn_M_findResting_122 x1 x2 x3 nd us κ n (x4 + 1) ps (upd re (((60 : Int32) * x3) + x4).toNatClampNeg (vp_nar .boolean (0 : Int32)))
          else none
        else
          if decide (0 ≤ (((60 : Int32) * x2) + x4).toInt ∧ (((60 : Int32) * x2) + x4).toInt < (3600 : Int)) then
          if decide ((re ((((60 : Int32) * x2) + x4).toNatClampNeg)) = 0) then
            if decide (0 ≤ (((60 : Int32) * x3) + x4).toInt ∧ (((60 : Int32) * x3) + x4).toInt < (3600 : Int)) then
            fn_M_findResting_122 x1 x2 x3 nd us κ n (x4 + 1) ps (upd re (((60 : Int32) * x3) + x4).toNatClampNeg (vp_nar .boolean (0 : Int32)))
            else none
          else
            if decide (0 ≤ (((60 : Int32) * x3) + x4).toInt ∧ (((60 : Int32) * x3) + x4).toInt < (3600 : Int)) then
            fn_M_findResting_122 x1 x2 x3 nd us κ n (x4 + 1) ps (upd re (((60 : Int32) * x3) + x4).toNatClampNeg (vp_nar .boolean (1 : Int32)))
            else none
          else none
        else none
      else
        if decide (0 ≤ (((60 : Int32) * x3) + x4).toInt ∧ (((60 : Int32) * x3) + x4).toInt < (3600 : Int)) then
        fn_M_findResting_122 x1 x2 x3 nd us κ n (x4 + 1) ps (upd re (((60 : Int32) * x3) + x4).toNatClampNeg (vp_nar .boolean (1 : Int32)))
        else none
      else none
def fn_M_findResting_114 (x1 : Int32) (x2 : Int32) (nd : Mnd) (us : Mus) (κ : Mps → Mre → Option (Mps × Mre)) : Nat → Int32 → Mps → Mre → Option (Mps × Mre)
  | 0, _, _, _ => none
  | n + 1, x3, ps, re =>
    if decide (x1 ≤ x3) then
      κ ps re
    else
      fn_M_findResting_122 x1 x2 x3 nd us (fun ps_3 re_3 =>
        fn_M_findResting_114 x1 x2 nd us κ n (x3 + 1) ps_3 re_3) am_NF (0 : Int32) ps re
def fn_M_findResting_107 (x1 : Int32) (nd : Mnd) (us : Mus) (κ : Mps → Mre → Option (Mps × Mre)) : Nat → Int32 → Mps → Mre → Option (Mps × Mre)
  | 0, _, _, _ => none
  | n + 1, x2, ps, re =>
    if decide (x1 ≤ x2) then
      κ ps re
    else
      fn_M_findResting_114 x1 x2 nd us (fun ps_4 re_4 =>
        fn_M_findResting_107 x1 nd us κ n (x2 + 1) ps_4 re_4) am_NF (0 : Int32) ps re
def fn_M_findResting_31 (x1 : Int32) (nd : Mnd) (us : Mus) (κ : Mps → Mre → Option (Mps × Mre)) : Nat → Int32 → Mps → Mre → Option (Mps × Mre)
  | 0, _, _, _ => none
  | n + 1, x2, ps, re =>
    if decide (x1 ≤ x2) then
      κ ps re
    else
      if decide (0 ≤ x2.toInt ∧ x2.toInt < (60 : Int)) then
      if decide (¬ (2 : Int32) = 0) then
      (fn_M_gateOf ((nd.2.2.2.2.2.2.2.2.1 x2.toNatClampNeg) / (2 : Int32)) nd).bind fun q4 =>
      if decide (0 ≤ x2.toInt ∧ x2.toInt < (60 : Int)) then
      if decide (¬ (2 : Int32) = 0) then
      (fn_M_gateOf ((nd.2.2.2.2.2.2.2.2.2 x2.toNatClampNeg) / (2 : Int32)) nd).bind fun q5 =>
      if decide (q4 = (-1 : Int32)) then
        if decide (q5 = (-1 : Int32)) then
          fn_M_findResting_31 x1 nd us κ n (x2 + 1) ps re
        else
          if decide (0 ≤ (((60 : Int32) * x2) + q5).toInt ∧ (((60 : Int32) * x2) + q5).toInt < (3600 : Int)) then
          fn_M_findResting_31 x1 nd us κ n (x2 + 1) ps (upd re (((60 : Int32) * x2) + q5).toNatClampNeg (vp_nar .boolean (1 : Int32)))
          else none
      else
        if decide (0 ≤ (((60 : Int32) * x2) + q4).toInt ∧ (((60 : Int32) * x2) + q4).toInt < (3600 : Int)) then
        if decide (q5 = (-1 : Int32)) then
          fn_M_findResting_31 x1 nd us κ n (x2 + 1) ps (upd re (((60 : Int32) * x2) + q4).toNatClampNeg (vp_nar .boolean (1 : Int32)))
        else
          if decide (0 ≤ (((60 : Int32) * x2) + q5).toInt ∧ (((60 : Int32) * x2) + q5).toInt < (3600 : Int)) then
          fn_M_findResting_31 x1 nd us κ n (x2 + 1) ps (upd (upd re (((60 : Int32) * x2) + q4).toNatClampNeg (vp_nar .boolean (1 : Int32))) (((60 : Int32) * x2) + q5).toNatClampNeg (vp_nar .boolean (1 : Int32)))
          else none
        else none
      else none
      else none
      else none
      else none
def fn_M_findResting_9 (x1 : Int32) (nd : Mnd) (us : Mus) (κ : Mps → Mre → Option (Mps × Mre)) : Nat → Int32 → Mps → Mre → Option (Mps × Mre)
  | 0, _, _, _ => none
  | n + 1, x2, ps, re =>
    if decide ((3600 : Int32) ≤ x2) then
      κ ps re
    else
      if decide (0 ≤ x2.toInt ∧ x2.toInt < (3600 : Int)) then
      fn_M_findResting_9 x1 nd us κ n (x2 + 1) ps (upd re x2.toNatClampNeg (vp_nar .boolean (0 : Int32)))
      else none
def fn_M_findResting (ps : Mps) (nd : Mnd) (us : Mus) (re : Mre) : Option (Mps × Mre) :=
  if decide (0 ≤ (3 : Int32).toInt ∧ (3 : Int32).toInt < (4 : Int)) then
  fn_M_findResting_9 (nd.2.1 ((3 : Int32).toNatClampNeg)) nd us (fun ps_7 re_7 =>
    fn_M_findResting_31 (nd.2.1 ((3 : Int32).toNatClampNeg)) nd us (fun ps_8 re_8 =>
      fn_M_findResting_107 (nd.2.1 ((3 : Int32).toNatClampNeg)) nd us (fun ps_9 re_9 =>
        fn_M_findResting_209 (nd.2.1 ((3 : Int32).toNatClampNeg)) nd us (fun ps_10 re_10 =>
          some (ps_10, re_10)) am_NF (0 : Int32) ps_9 re_9) am_NF (0 : Int32) ps_8 re_8) am_NF (0 : Int32) ps_7 re_7) am_NF (0 : Int32) ps re
  else none
def fn_M_takeOver_109 (nd : Mnd) (κ : Mth → Mds → Mnw → Option (Mth × Mds × Mnw)) : Nat → Int32 → Mth → Mds → Mnw → Option (Mth × Mds × Mnw)
  | 0, _, _, _, _ => none
  | n + 1, x1, th, ds, nw =>
    if decide ((60 : Int32) ≤ x1) then
      κ th ds nw
    else
      if decide (0 ≤ x1.toInt ∧ x1.toInt < (60 : Int)) then
      if decide (0 ≤ x1.toInt ∧ x1.toInt < (60 : Int)) then
      if decide (0 ≤ x1.toInt ∧ x1.toInt < (60 : Int)) then
      if decide (0 ≤ x1.toInt ∧ x1.toInt < (60 : Int)) then
      if decide (0 ≤ x1.toInt ∧ x1.toInt < (60 : Int)) then
      if decide (0 ≤ x1.toInt ∧ x1.toInt < (60 : Int)) then
      fn_M_takeOver_109 nd κ n (x1 + 1) th (ds.1, ds.2.1, ds.2.2.1, ds.2.2.2.1, ds.2.2.2.2.1, ds.2.2.2.2.2.1, ds.2.2.2.2.2.2.1, upd ds.2.2.2.2.2.2.2.1 x1.toNatClampNeg ((nd.2.2.2.2.2.2.2.1 x1.toNatClampNeg)), upd ds.2.2.2.2.2.2.2.2.1 x1.toNatClampNeg ((nd.2.2.2.2.2.2.2.2.1 x1.toNatClampNeg)), upd ds.2.2.2.2.2.2.2.2.2 x1.toNatClampNeg ((nd.2.2.2.2.2.2.2.2.2 x1.toNatClampNeg))) nw
      else none
      else none
      else none
      else none
      else none
      else none
def fn_M_takeOver_35 (nd : Mnd) (κ : Mth → Mds → Mnw → Option (Mth × Mds × Mnw)) : Nat → Int32 → Mth → Mds → Mnw → Option (Mth × Mds × Mnw)
  | 0, _, _, _, _ => none
  | n + 1, x1, th, ds, nw =>
    if decide ((8 : Int32) ≤ x1) then
      κ th ds nw
    else
      if decide (0 ≤ x1.toInt ∧ x1.toInt < (8 : Int)) then
      if decide (0 ≤ x1.toInt ∧ x1.toInt < (8 : Int)) then
      if decide (0 ≤ x1.toInt ∧ x1.toInt < (8 : Int)) then
      if decide (0 ≤ x1.toInt ∧ x1.toInt < (8 : Int)) then
      if decide (0 ≤ x1.toInt ∧ x1.toInt < (8 : Int)) then
      if decide (0 ≤ x1.toInt ∧ x1.toInt < (8 : Int)) then
      if decide (0 ≤ x1.toInt ∧ x1.toInt < (8 : Int)) then
      if decide (0 ≤ x1.toInt ∧ x1.toInt < (8 : Int)) then
      if decide (0 ≤ x1.toInt ∧ x1.toInt < (8 : Int)) then
      if decide (0 ≤ x1.toInt ∧ x1.toInt < (8 : Int)) then
      fn_M_takeOver_35 nd κ n (x1 + 1) th (ds.1, ds.2.1, upd ds.2.2.1 x1.toNatClampNeg ((nd.2.2.1 x1.toNatClampNeg)), upd ds.2.2.2.1 x1.toNatClampNeg ((nd.2.2.2.1 x1.toNatClampNeg)), upd ds.2.2.2.2.1 x1.toNatClampNeg ((nd.2.2.2.2.1 x1.toNatClampNeg)), upd ds.2.2.2.2.2.1 x1.toNatClampNeg ((nd.2.2.2.2.2.1 x1.toNatClampNeg)), upd ds.2.2.2.2.2.2.1 x1.toNatClampNeg ((nd.2.2.2.2.2.2.1 x1.toNatClampNeg)), ds.2.2.2.2.2.2.2.1, ds.2.2.2.2.2.2.2.2.1, ds.2.2.2.2.2.2.2.2.2) nw
      else none
      else none
      else none
      else none
      else none
      else none
      else none
      else none
      else none
      else none
def fn_M_takeOver_10 (nd : Mnd) (κ : Mth → Mds → Mnw → Option (Mth × Mds × Mnw)) : Nat → Int32 → Mth → Mds → Mnw → Option (Mth × Mds × Mnw)
  | 0, _, _, _, _ => none
  | n + 1, x1, th, ds, nw =>
    if decide ((4 : Int32) ≤ x1) then
      κ th ds nw
    else
      if decide (0 ≤ x1.toInt ∧ x1.toInt < (4 : Int)) then
      if decide (0 ≤ x1.toInt ∧ x1.toInt < (4 : Int)) then
      fn_M_takeOver_10 nd κ n (x1 + 1) th (ds.1, upd ds.2.1 x1.toNatClampNeg ((nd.2.1 x1.toNatClampNeg)), ds.2.2.1, ds.2.2.2.1, ds.2.2.2.2.1, ds.2.2.2.2.2.1, ds.2.2.2.2.2.2.1, ds.2.2.2.2.2.2.2.1, ds.2.2.2.2.2.2.2.2.1, ds.2.2.2.2.2.2.2.2.2) nw
      else none
      else none
def fn_M_takeOver (th : Mth) (ds : Mds) (nw : Mnw) (nd : Mnd) : Option (Mth × Mds × Mnw) :=
  fn_M_takeOver_10 nd (fun th_2 ds_2 nw_2 =>
    fn_M_takeOver_35 nd (fun th_3 ds_3 nw_3 =>
      fn_M_takeOver_109 nd (fun th_4 ds_4 nw_4 =>
        (fn_M_reset th_4 ds_4 nw_4).bind fun q4 =>
        some (q4.1, ds_4, q4.2)) am_NF (0 : Int32) th_3 ds_3 nw_3) am_NF (0 : Int32) th_2 ds_2 nw_2) am_NF (0 : Int32) th (nd.1, ds.2.1, ds.2.2.1, ds.2.2.2.1, ds.2.2.2.2.1, ds.2.2.2.2.2.1, ds.2.2.2.2.2.2.1, ds.2.2.2.2.2.2.2.1, ds.2.2.2.2.2.2.2.2.1, ds.2.2.2.2.2.2.2.2.2) nw
def fn_M_about (x1 : Int32) (th : Mth) (tx : Mtx) (ds : Mds) : Option (Int32 × Mth) :=
  if decide (x1 = 0) then
    some (ds.1, 0)
  else
  if decide (x1 = 1) then
    if decide (0 ≤ (x1 - (1 : Int32)).toInt ∧ (x1 - (1 : Int32)).toInt < (4 : Int)) then
    some ((ds.2.1 ((x1 - (1 : Int32)).toNatClampNeg)), 0)
    else none
  else
  if decide (x1 = 2) then
    if decide (0 ≤ (x1 - (1 : Int32)).toInt ∧ (x1 - (1 : Int32)).toInt < (4 : Int)) then
    some ((ds.2.1 ((x1 - (1 : Int32)).toNatClampNeg)), 0)
    else none
  else
  if decide (x1 = 3) then
    if decide (0 ≤ (x1 - (1 : Int32)).toInt ∧ (x1 - (1 : Int32)).toInt < (4 : Int)) then
    some ((ds.2.1 ((x1 - (1 : Int32)).toNatClampNeg)), 0)
    else none
  else
  if decide (x1 = 4) then
    if decide (0 ≤ (x1 - (1 : Int32)).toInt ∧ (x1 - (1 : Int32)).toInt < (4 : Int)) then
    some ((ds.2.1 ((x1 - (1 : Int32)).toNatClampNeg)), 0)
    else none
  else
  if decide (x1 = 5) then
    some (tx.2, 0)
  else
  if decide (x1 = 6) then
    (fn_M_isOrdered ds).bind fun q1 =>
    if decide (q1 = 0) then
      some ((0 : Int32), 0)
    else
      some ((1 : Int32), 0)
  else
    some ((-1 : Int32), 0)
def fn_M_order_403 (x1 : Int32) (κ : Mth → Mds → Mnd → Mnu → Option (Mth × Mds × Mnd × Mnu)) : Nat → Int32 → Mth → Mds → Mnd → Mnu → Option (Mth × Mds × Mnd × Mnu)
  | 0, _, _, _, _, _ => none
  | n + 1, x3, th, ds, nd, nu =>
    if decide (0 ≤ (0 : Int32).toInt ∧ (0 : Int32).toInt < (4 : Int)) then
    if decide ((ds.2.1 ((0 : Int32).toNatClampNeg)) ≤ x3) then
      κ th ds nd nu
    else
      if decide (0 ≤ x3.toInt ∧ x3.toInt < (8 : Int)) then
      (fn_M_anew (ds.2.2.1 x3.toNatClampNeg) nu).bind fun q1 =>
      if decide (0 ≤ x3.toInt ∧ x3.toInt < (8 : Int)) then
      fn_M_order_403 x1 κ n (x3 + 1) th (ds.1, ds.2.1, upd ds.2.2.1 x3.toNatClampNeg q1, ds.2.2.2.1, ds.2.2.2.2.1, ds.2.2.2.2.2.1, ds.2.2.2.2.2.2.1, ds.2.2.2.2.2.2.2.1, ds.2.2.2.2.2.2.2.2.1, ds.2.2.2.2.2.2.2.2.2) nd nu
      else none
      else none
    else none
def fn_M_order_353 (x1 : Int32) (κ : Mth → Mds → Mnd → Mnu → Option (Mth × Mds × Mnd × Mnu)) : Nat → Int32 → Mth → Mds → Mnd → Mnu → Option (Mth × Mds × Mnd × Mnu)
  | 0, _, _, _, _, _ => none
  | n + 1, x3, th, ds, nd, nu =>
    if decide (0 ≤ (1 : Int32).toInt ∧ (1 : Int32).toInt < (4 : Int)) then
    if decide ((ds.2.1 ((1 : Int32).toNatClampNeg)) ≤ x3) then
      κ th ds nd nu
    else
      if decide (0 ≤ x3.toInt ∧ x3.toInt < (8 : Int)) then
      (fn_M_anew (ds.2.2.2.2.1 x3.toNatClampNeg) nu).bind fun q2 =>
      if decide (0 ≤ x3.toInt ∧ x3.toInt < (8 : Int)) then
      if decide (0 ≤ x3.toInt ∧ x3.toInt < (8 : Int)) then
      (fn_M_anew (ds.2.2.2.1 x3.toNatClampNeg) nu).bind fun q3 =>
      if decide (0 ≤ x3.toInt ∧ x3.toInt < (8 : Int)) then
      fn_M_order_353 x1 κ n (x3 + 1) th (ds.1, ds.2.1, ds.2.2.1, upd ds.2.2.2.1 x3.toNatClampNeg q3, upd ds.2.2.2.2.1 x3.toNatClampNeg q2, ds.2.2.2.2.2.1, ds.2.2.2.2.2.2.1, ds.2.2.2.2.2.2.2.1, ds.2.2.2.2.2.2.2.2.1, ds.2.2.2.2.2.2.2.2.2) nd nu
      else none
      else none
      else none
      else none
    else none
def fn_M_order_319 (x1 : Int32) (κ : Mth → Mds → Mnd → Mnu → Option (Mth × Mds × Mnd × Mnu)) : Nat → Int32 → Mth → Mds → Mnd → Mnu → Option (Mth × Mds × Mnd × Mnu)
  | 0, _, _, _, _, _ => none
  | n + 1, x3, th, ds, nd, nu =>
    if decide (0 ≤ (2 : Int32).toInt ∧ (2 : Int32).toInt < (4 : Int)) then
    if decide ((ds.2.1 ((2 : Int32).toNatClampNeg)) ≤ x3) then
      κ th ds nd nu
    else
      if decide (0 ≤ x3.toInt ∧ x3.toInt < (8 : Int)) then
      (fn_M_anew (ds.2.2.2.2.2.2.1 x3.toNatClampNeg) nu).bind fun q4 =>
      if decide (0 ≤ x3.toInt ∧ x3.toInt < (8 : Int)) then
      fn_M_order_319 x1 κ n (x3 + 1) th (ds.1, ds.2.1, ds.2.2.1, ds.2.2.2.1, ds.2.2.2.2.1, ds.2.2.2.2.2.1, upd ds.2.2.2.2.2.2.1 x3.toNatClampNeg q4, ds.2.2.2.2.2.2.2.1, ds.2.2.2.2.2.2.2.2.1, ds.2.2.2.2.2.2.2.2.2) nd nu
      else none
      else none
    else none
def fn_M_order_265 (x1 : Int32) (κ : Mth → Mds → Mnd → Mnu → Option (Mth × Mds × Mnd × Mnu)) : Nat → Int32 → Mth → Mds → Mnd → Mnu → Option (Mth × Mds × Mnd × Mnu)
  | 0, _, _, _, _, _ => none
  | n + 1, x3, th, ds, nd, nu =>
    if decide (0 ≤ (3 : Int32).toInt ∧ (3 : Int32).toInt < (4 : Int)) then
    if decide ((ds.2.1 ((3 : Int32).toNatClampNeg)) ≤ x3) then
      κ th ds nd nu
    else
      if decide (0 ≤ x3.toInt ∧ x3.toInt < (60 : Int)) then
      if decide (0 ≤ x3.toInt ∧ x3.toInt < (60 : Int)) then
      if decide (0 ≤ x3.toInt ∧ x3.toInt < (60 : Int)) then
      if decide (0 ≤ x3.toInt ∧ x3.toInt < (60 : Int)) then
      if decide (0 ≤ x3.toInt ∧ x3.toInt < (60 : Int)) then
      if decide (0 ≤ x3.toInt ∧ x3.toInt < (60 : Int)) then
      fn_M_order_265 x1 κ n (x3 + 1) th (ds.1, ds.2.1, ds.2.2.1, ds.2.2.2.1, ds.2.2.2.2.1, ds.2.2.2.2.2.1, ds.2.2.2.2.2.2.1, upd ds.2.2.2.2.2.2.2.1 x3.toNatClampNeg ((nd.2.2.2.2.2.2.2.1 x3.toNatClampNeg)), upd ds.2.2.2.2.2.2.2.2.1 x3.toNatClampNeg ((nd.2.2.2.2.2.2.2.2.1 x3.toNatClampNeg)), upd ds.2.2.2.2.2.2.2.2.2 x3.toNatClampNeg ((nd.2.2.2.2.2.2.2.2.2 x3.toNatClampNeg))) nd nu
      else none
      else none
      else none
      else none
      else none
      else none
    else none
def fn_M_order_162 (x1 : Int32) (x2 : Int32) (κ : Mth → Mds → Mnd → Mnu → Option (Mth × Mds × Mnd × Mnu)) : Nat → Int32 → Mth → Mds → Mnd → Mnu → Option (Mth × Mds × Mnd × Mnu)
  | 0, _, _, _, _, _ => none
  | n + 1, x3, th, ds, nd, nu =>
    if decide (0 ≤ (3 : Int32).toInt ∧ (3 : Int32).toInt < (4 : Int)) then
    if decide ((ds.2.1 ((3 : Int32).toNatClampNeg)) ≤ x3) then
      κ th ds nd nu
    else
      if decide (0 ≤ x3.toInt ∧ x3.toInt < (60 : Int)) then
      if decide (0 ≤ (nu.2 x3.toNatClampNeg).toInt ∧ (nu.2 x3.toNatClampNeg).toInt < (60 : Int)) then
      (fn_M_anew (ds.2.2.2.2.2.2.2.2.1 ((nu.2 x3.toNatClampNeg).toNatClampNeg)) nu).bind fun q5 =>
      if decide (0 ≤ x3.toInt ∧ x3.toInt < (60 : Int)) then
      if decide (0 ≤ (nu.2 x3.toNatClampNeg).toInt ∧ (nu.2 x3.toNatClampNeg).toInt < (60 : Int)) then
      (fn_M_anew (ds.2.2.2.2.2.2.2.2.2 ((nu.2 x3.toNatClampNeg).toNatClampNeg)) nu).bind fun q6 =>
      if decide (0 ≤ x3.toInt ∧ x3.toInt < (60 : Int)) then
      if decide (q5 ≤ q6) then
        if decide (0 ≤ x3.toInt ∧ x3.toInt < (60 : Int)) then
        if decide (q5 ≤ q6) then
          if decide (0 ≤ x3.toInt ∧ x3.toInt < (60 : Int)) then
          fn_M_order_162 x1 x2 κ n (x3 + 1) th ds (nd.1, nd.2.1, nd.2.2.1, nd.2.2.2.1, nd.2.2.2.2.1, nd.2.2.2.2.2.1, nd.2.2.2.2.2.2.1, upd nd.2.2.2.2.2.2.2.1 x3.toNatClampNeg (((2 : Int32) * (x2 + x3))), upd nd.2.2.2.2.2.2.2.2.1 x3.toNatClampNeg q6, upd nd.2.2.2.2.2.2.2.2.2 x3.toNatClampNeg q5) nu
          else none
        else
          if decide (0 ≤ x3.toInt ∧ x3.toInt < (60 : Int)) then
          fn_M_order_162 x1 x2 κ n (x3 + 1) th ds (nd.1, nd.2.1, nd.2.2.1, nd.2.2.2.1, nd.2.2.2.2.1, nd.2.2.2.2.2.1, nd.2.2.2.2.2.2.1, upd nd.2.2.2.2.2.2.2.1 x3.toNatClampNeg (((2 : Int32) * (x2 + x3))), upd nd.2.2.2.2.2.2.2.2.1 x3.toNatClampNeg q6, upd nd.2.2.2.2.2.2.2.2.2 x3.toNatClampNeg q6) nu
          else none
        else none
      else
        if decide (0 ≤ x3.toInt ∧ x3.toInt < (60 : Int)) then
        if decide (q5 ≤ q6) then
          if decide (0 ≤ x3.toInt ∧ x3.toInt < (60 : Int)) then
          fn_M_order_162 x1 x2 κ n (x3 + 1) th ds (nd.1, nd.2.1, nd.2.2.1, nd.2.2.2.1, nd.2.2.2.2.1, nd.2.2.2.2.2.1, nd.2.2.2.2.2.2.1, upd nd.2.2.2.2.2.2.2.1 x3.toNatClampNeg (((2 : Int32) * (x2 + x3))), upd nd.2.2.2.2.2.2.2.2.1 x3.toNatClampNeg q5, upd nd.2.2.2.2.2.2.2.2.2 x3.toNatClampNeg q5) nu
          else none
        else
          if decide (0 ≤ x3.toInt ∧ x3.toInt < (60 : Int)) then
          fn_M_order_162 x1 x2 κ n (x3 + 1) th ds (nd.1, nd.2.1, nd.2.2.1, nd.2.2.2.1, nd.2.2.2.2.1, nd.2.2.2.2.2.1, nd.2.2.2.2.2.2.1, upd nd.2.2.2.2.2.2.2.1 x3.toNatClampNeg (((2 : Int32) * (x2 + x3))), upd nd.2.2.2.2.2.2.2.2.1 x3.toNatClampNeg q5, upd nd.2.2.2.2.2.2.2.2.2 x3.toNatClampNeg q6) nu
          else none
        else none
      else none
      else none
      else none
      else none
      else none
    else none
def fn_M_order_112 (x2 : Int32) (κ : Int32 → Mth → Mds → Mnd → Mnu → Option (Mth × Mds × Mnd × Mnu)) : Nat → Int32 → Int32 → Mth → Mds → Mnd → Mnu → Option (Mth × Mds × Mnd × Mnu)
  | 0, _, _, _, _, _, _ => none
  | n + 1, x1, x3, th, ds, nd, nu =>
    if decide (0 ≤ (3 : Int32).toInt ∧ (3 : Int32).toInt < (4 : Int)) then
    if decide ((ds.2.1 ((3 : Int32).toNatClampNeg)) ≤ x3) then
      κ x1 th ds nd nu
    else
      (fn_M_ready ds nu).bind fun q7 =>
      if decide (0 ≤ x3.toInt ∧ x3.toInt < (60 : Int)) then
      if decide (0 ≤ x3.toInt ∧ x3.toInt < (60 : Int)) then
      if decide (0 ≤ ((upd nu.2 x3.toNatClampNeg q7) x3.toNatClampNeg).toInt ∧ ((upd nu.2 x3.toNatClampNeg q7) x3.toNatClampNeg).toInt < (60 : Int)) then
      if decide (¬ (2 : Int32) = 0) then
      if decide (0 ≤ ((ds.2.2.2.2.2.2.2.1 (((upd nu.2 x3.toNatClampNeg q7) x3.toNatClampNeg).toNatClampNeg)) / (2 : Int32)).toInt ∧ ((ds.2.2.2.2.2.2.2.1 (((upd nu.2 x3.toNatClampNeg q7) x3.toNatClampNeg).toNatClampNeg)) / (2 : Int32)).toInt < (100 : Int)) then
      fn_M_order_112 x2 κ n (x1 + 1) (x3 + 1) th ds nd (upd nu.1 ((ds.2.2.2.2.2.2.2.1 (((upd nu.2 x3.toNatClampNeg q7) x3.toNatClampNeg).toNatClampNeg)) / (2 : Int32)).toNatClampNeg ((x1 + 1)), upd nu.2 x3.toNatClampNeg q7)
      else none
      else none
      else none
      else none
      else none
    else none
def fn_M_order_73 (κ : Int32 → Mth → Mds → Mnd → Mnu → Option (Mth × Mds × Mnd × Mnu)) : Nat → Int32 → Int32 → Mth → Mds → Mnd → Mnu → Option (Mth × Mds × Mnd × Mnu)
  | 0, _, _, _, _, _, _ => none
  | n + 1, x1, x2, th, ds, nd, nu =>
    if decide (0 ≤ (1 : Int32).toInt ∧ (1 : Int32).toInt < (4 : Int)) then
    if decide ((ds.2.1 ((1 : Int32).toNatClampNeg)) ≤ x2) then
      κ x1 th ds nd nu
    else
      if decide (0 ≤ x2.toInt ∧ x2.toInt < (8 : Int)) then
      if decide (¬ (2 : Int32) = 0) then
      if decide (0 ≤ ((ds.2.2.2.1 x2.toNatClampNeg) / (2 : Int32)).toInt ∧ ((ds.2.2.2.1 x2.toNatClampNeg) / (2 : Int32)).toInt < (100 : Int)) then
      fn_M_order_73 κ n (x1 + 1) (x2 + 1) th ds nd (upd nu.1 ((ds.2.2.2.1 x2.toNatClampNeg) / (2 : Int32)).toNatClampNeg ((x1 + 1)), nu.2)
      else none
      else none
      else none
    else none
def fn_M_order_38 (κ : Int32 → Mth → Mds → Mnd → Mnu → Option (Mth × Mds × Mnd × Mnu)) : Nat → Int32 → Int32 → Mth → Mds → Mnd → Mnu → Option (Mth × Mds × Mnd × Mnu)
  | 0, _, _, _, _, _, _ => none
  | n + 1, x1, x2, th, ds, nd, nu =>
    if decide (0 ≤ (0 : Int32).toInt ∧ (0 : Int32).toInt < (4 : Int)) then
    if decide ((ds.2.1 ((0 : Int32).toNatClampNeg)) ≤ x2) then
      κ x1 th ds nd nu
    else
      if decide (0 ≤ x2.toInt ∧ x2.toInt < (8 : Int)) then
      if decide (¬ (2 : Int32) = 0) then
      if decide (0 ≤ ((ds.2.2.1 x2.toNatClampNeg) / (2 : Int32)).toInt ∧ ((ds.2.2.1 x2.toNatClampNeg) / (2 : Int32)).toInt < (100 : Int)) then
      fn_M_order_38 κ n (x1 + 1) (x2 + 1) th ds nd (upd nu.1 ((ds.2.2.1 x2.toNatClampNeg) / (2 : Int32)).toNatClampNeg ((x1 + 1)), nu.2)
      else none
      else none
      else none
    else none
def fn_M_order_7 (κ : Mth → Mds → Mnd → Mnu → Option (Mth × Mds × Mnd × Mnu)) : Nat → Int32 → Mth → Mds → Mnd → Mnu → Option (Mth × Mds × Mnd × Mnu)
  | 0, _, _, _, _, _ => none
  | n + 1, x1, th, ds, nd, nu =>
    if decide ((100 : Int32) ≤ x1) then
      κ th ds nd nu
    else
      if decide (x1 = 0) then
        if decide (0 ≤ x1.toInt ∧ x1.toInt < (100 : Int)) then
        fn_M_order_7 κ n (x1 + 1) th ds nd (upd nu.1 x1.toNatClampNeg ((0 : Int32)), nu.2)
        else none
      else
        if decide (0 ≤ x1.toInt ∧ x1.toInt < (100 : Int)) then
        fn_M_order_7 κ n (x1 + 1) th ds nd (upd nu.1 x1.toNatClampNeg ((-1 : Int32)), nu.2)
        else none
def fn_M_order (th : Mth) (ds : Mds) (nd : Mnd) (nu : Mnu) : Option (Mth × Mds × Mnd × Mnu) :=
  fn_M_order_7 (fun th_9 ds_9 nd_9 nu_9 =>
    fn_M_order_38 (fun x1_10 th_10 ds_10 nd_10 nu_10 =>
      fn_M_order_73 (fun x1_11 th_11 ds_11 nd_11 nu_11 =>
        fn_M_order_112 (x1_11 + (1 : Int32)) (fun x1_12 th_12 ds_12 nd_12 nu_12 =>
          fn_M_order_162 x1_12 (x1_11 + (1 : Int32)) (fun th_13 ds_13 nd_13 nu_13 =>
            fn_M_order_265 x1_12 (fun th_14 ds_14 nd_14 nu_14 =>
              fn_M_order_319 x1_12 (fun th_15 ds_15 nd_15 nu_15 =>
                fn_M_order_353 x1_12 (fun th_16 ds_16 nd_16 nu_16 =>
                  fn_M_order_403 x1_12 (fun th_17 ds_17 nd_17 nu_17 =>
                    some (th_17, (x1_12, ds_17.2.1, ds_17.2.2.1, ds_17.2.2.2.1, ds_17.2.2.2.2.1, ds_17.2.2.2.2.2.1, ds_17.2.2.2.2.2.2.1, ds_17.2.2.2.2.2.2.2.1, ds_17.2.2.2.2.2.2.2.2.1, ds_17.2.2.2.2.2.2.2.2.2), nd_17, nu_17)) am_NF (0 : Int32) th_16 ds_16 nd_16 nu_16) am_NF (0 : Int32) th_15 ds_15 nd_15 nu_15) am_NF (0 : Int32) th_14 ds_14 nd_14 nu_14) am_NF (0 : Int32) th_13 ds_13 nd_13 nu_13) am_NF (0 : Int32) th_12 ds_12 nd_12 nu_12) am_NF x1_11 (0 : Int32) th_11 ds_11 nd_11 nu_11) am_NF x1_10 (0 : Int32) th_10 ds_10 nd_10 nu_10) am_NF (0 : Int32) (0 : Int32) th_9 ds_9 nd_9 nu_9) am_NF (0 : Int32) 0 ds nd nu
def fn_M_addNumber_37 (x1 : Int32) (κ : Mou → Option (Mou)) : Nat → Int32 → Mou → Option (Mou)
  | 0, _, _ => none
  | n + 1, x2, ou =>
    if decide (x2 ≤ 0) then
      κ ou
    else
      if decide (¬ x2 = 0) then
      if decide (¬ (10 : Int32) = 0) then
      (fn_M_add ((48 : Int32) + ((x1 / x2) - (x1 / x2) / (10 : Int32) * (10 : Int32))) ou).bind fun q1 =>
      if decide (¬ (10 : Int32) = 0) then
      fn_M_addNumber_37 x1 κ n (x2 / (10 : Int32)) q1
      else none
      else none
      else none
def fn_M_addNumber (x1 : Int32) (ou : Mou) : Option (Mou) :=
  if decide (x1 ≤ (999 : Int32)) then
    if decide (x1 ≤ (99 : Int32)) then
      if decide (x1 ≤ (9 : Int32)) then
        fn_M_addNumber_37 x1 (fun ou_3 =>
          some ou_3) am_NF (1 : Int32) ou
      else
        fn_M_addNumber_37 x1 (fun ou_4 =>
          some ou_4) am_NF (10 : Int32) ou
    else
      fn_M_addNumber_37 x1 (fun ou_5 =>
        some ou_5) am_NF (100 : Int32) ou
  else
    fn_M_addNumber_37 x1 (fun ou_6 =>
      some ou_6) am_NF (1000 : Int32) ou
def fn_M_addDifference (x1 : Int32) (ou : Mou) : Option (Mou) :=
  if decide (x1 ≤ (127 : Int32)) then
    (fn_M_add x1 ou).bind fun q1 =>
    some q1
  else
    if decide (¬ (128 : Int32) = 0) then
    (fn_M_add ((x1 - x1 / (128 : Int32) * (128 : Int32)) + (128 : Int32)) ou).bind fun q2 =>
    if decide (¬ (128 : Int32) = 0) then
    (fn_M_add (x1 / (128 : Int32)) q2).bind fun q3 =>
    some q3
    else none
    else none
def fn_M_cycle_251 (x3 : Int32) (ds : Mds) (κ : Mth → Mnw → Mva → Option (Int32 × Mth × Mnw × Mva)) : Nat → Int32 → Mth → Mnw → Mva → Option (Int32 × Mth × Mnw × Mva)
  | 0, _, _, _, _ => none
  | n + 1, x4, th, nw, va =>
    if decide (0 ≤ (1 : Int32).toInt ∧ (1 : Int32).toInt < (4 : Int)) then
    if decide ((ds.2.1 ((1 : Int32).toNatClampNeg)) ≤ x4) then
      κ th nw va
    else
      if decide (0 ≤ x4.toInt ∧ x4.toInt < (8 : Int)) then
      (fn_M_valueOf (ds.2.2.2.2.1 x4.toNatClampNeg) va).bind fun q1 =>
      if decide (0 ≤ x4.toInt ∧ x4.toInt < (8 : Int)) then
      fn_M_cycle_251 x3 ds κ n (x4 + 1) th (upd nw x4.toNatClampNeg q1) va
      else none
      else none
    else none
def fn_M_cycle_214 (ds : Mds) (κ : Int32 → Mth → Mnw → Mva → Option (Int32 × Mth × Mnw × Mva)) : Nat → Int32 → Int32 → Mth → Mnw → Mva → Option (Int32 × Mth × Mnw × Mva)
  | 0, _, _, _, _, _ => none
  | n + 1, x3, x4, th, nw, va =>
    if decide (0 ≤ (2 : Int32).toInt ∧ (2 : Int32).toInt < (4 : Int)) then
    if decide ((ds.2.1 ((2 : Int32).toNatClampNeg)) ≤ x4) then
      κ x3 th nw va
    else
      if decide (0 ≤ x4.toInt ∧ x4.toInt < (8 : Int)) then
      (fn_M_valueOf (ds.2.2.2.2.2.2.1 x4.toNatClampNeg) va).bind fun q2 =>
      fn_M_cycle_214 ds κ n (x3 ||| (q2 <<< (x4 &&& 31))) (x4 + 1) th nw va
      else none
    else none
def fn_M_cycle_117 (ds : Mds) (κ : Int32 → Mth → Mnw → Mva → Option (Int32 × Mth × Mnw × Mva)) : Nat → Int32 → Int32 → Mth → Mnw → Mva → Option (Int32 × Mth × Mnw × Mva)
  | 0, _, _, _, _, _ => none
  | n + 1, x2, x3, th, nw, va =>
    if decide (0 ≤ (3 : Int32).toInt ∧ (3 : Int32).toInt < (4 : Int)) then
    if decide ((ds.2.1 ((3 : Int32).toNatClampNeg)) ≤ x3) then
      κ x2 th nw va
    else
      if decide (0 ≤ x3.toInt ∧ x3.toInt < (60 : Int)) then
      (fn_M_valueOf (ds.2.2.2.2.2.2.2.2.1 x3.toNatClampNeg) va).bind fun q3 =>
      if decide (0 ≤ x3.toInt ∧ x3.toInt < (60 : Int)) then
      (fn_M_valueOf (ds.2.2.2.2.2.2.2.2.2 x3.toNatClampNeg) va).bind fun q4 =>
      if decide (0 ≤ x3.toInt ∧ x3.toInt < (60 : Int)) then
      if decide (¬ (2 : Int32) = 0) then
      if decide (0 ≤ ((ds.2.2.2.2.2.2.2.1 x3.toNatClampNeg) / (2 : Int32)).toInt ∧ ((ds.2.2.2.2.2.2.2.1 x3.toNatClampNeg) / (2 : Int32)).toInt < (100 : Int)) then
      if decide ((va (((ds.2.2.2.2.2.2.2.1 x3.toNatClampNeg) / (2 : Int32)).toNatClampNeg)) = (-1 : Int32)) then
        if decide (q3 = (-1 : Int32)) then
          fn_M_cycle_117 ds κ n x2 (x3 + 1) th nw va
        else
          if decide (q4 = (-1 : Int32)) then
            fn_M_cycle_117 ds κ n x2 (x3 + 1) th nw va
          else
            if decide (0 ≤ x3.toInt ∧ x3.toInt < (60 : Int)) then
            if decide (¬ (2 : Int32) = 0) then
            if decide (0 ≤ ((ds.2.2.2.2.2.2.2.1 x3.toNatClampNeg) / (2 : Int32)).toInt ∧ ((ds.2.2.2.2.2.2.2.1 x3.toNatClampNeg) / (2 : Int32)).toInt < (100 : Int)) then
            fn_M_cycle_117 ds κ n (1 : Int32) (x3 + 1) th nw (upd va ((ds.2.2.2.2.2.2.2.1 x3.toNatClampNeg) / (2 : Int32)).toNatClampNeg ((q3 &&& q4)))
            else none
            else none
            else none
      else
        fn_M_cycle_117 ds κ n x2 (x3 + 1) th nw va
      else none
      else none
      else none
      else none
      else none
    else none
def fn_M_cycle_109 (ds : Mds) (κ : Mth → Mnw → Mva → Option (Int32 × Mth × Mnw × Mva)) : Nat → Int32 → Mth → Mnw → Mva → Option (Int32 × Mth × Mnw × Mva)
  | 0, _, _, _, _ => none
  | n + 1, x2, th, nw, va =>
    if decide (x2 = 0) then
      κ th nw va
    else
      fn_M_cycle_117 ds (fun x2_6 th_6 nw_6 va_6 =>
        fn_M_cycle_109 ds κ n x2_6 th_6 nw_6 va_6) am_NF (0 : Int32) (0 : Int32) th nw va
def fn_M_cycle_72 (ds : Mds) (κ : Mth → Mnw → Mva → Option (Int32 × Mth × Mnw × Mva)) : Nat → Int32 → Mth → Mnw → Mva → Option (Int32 × Mth × Mnw × Mva)
  | 0, _, _, _, _ => none
  | n + 1, x2, th, nw, va =>
    if decide (0 ≤ (1 : Int32).toInt ∧ (1 : Int32).toInt < (4 : Int)) then
    if decide ((ds.2.1 ((1 : Int32).toNatClampNeg)) ≤ x2) then
      κ th nw va
    else
      if decide (0 ≤ x2.toInt ∧ x2.toInt < (8 : Int)) then
      if decide (¬ (2 : Int32) = 0) then
      if decide (0 ≤ x2.toInt ∧ x2.toInt < (8 : Int)) then
      if decide (0 ≤ ((ds.2.2.2.1 x2.toNatClampNeg) / (2 : Int32)).toInt ∧ ((ds.2.2.2.1 x2.toNatClampNeg) / (2 : Int32)).toInt < (100 : Int)) then
      fn_M_cycle_72 ds κ n (x2 + 1) th nw (upd va ((ds.2.2.2.1 x2.toNatClampNeg) / (2 : Int32)).toNatClampNeg ((nw x2.toNatClampNeg)))
      else none
      else none
      else none
      else none
    else none
def fn_M_cycle_36 (x1 : Int32) (ds : Mds) (κ : Mth → Mnw → Mva → Option (Int32 × Mth × Mnw × Mva)) : Nat → Int32 → Mth → Mnw → Mva → Option (Int32 × Mth × Mnw × Mva)
  | 0, _, _, _, _ => none
  | n + 1, x2, th, nw, va =>
    if decide (0 ≤ (0 : Int32).toInt ∧ (0 : Int32).toInt < (4 : Int)) then
    if decide ((ds.2.1 ((0 : Int32).toNatClampNeg)) ≤ x2) then
      κ th nw va
    else
      if decide (0 ≤ x2.toInt ∧ x2.toInt < (8 : Int)) then
      if decide (¬ (2 : Int32) = 0) then
      if decide (0 ≤ ((ds.2.2.1 x2.toNatClampNeg) / (2 : Int32)).toInt ∧ ((ds.2.2.1 x2.toNatClampNeg) / (2 : Int32)).toInt < (100 : Int)) then
      fn_M_cycle_36 x1 ds κ n (x2 + 1) th nw (upd va ((ds.2.2.1 x2.toNatClampNeg) / (2 : Int32)).toNatClampNeg (((x1 >>> (x2 &&& 31)) &&& (1 : Int32))))
      else none
      else none
      else none
    else none
def fn_M_cycle_7 (x1 : Int32) (ds : Mds) (κ : Mth → Mnw → Mva → Option (Int32 × Mth × Mnw × Mva)) : Nat → Int32 → Mth → Mnw → Mva → Option (Int32 × Mth × Mnw × Mva)
  | 0, _, _, _, _ => none
  | n + 1, x2, th, nw, va =>
    if decide ((100 : Int32) ≤ x2) then
      κ th nw va
    else
      if decide (x2 = 0) then
        if decide (0 ≤ x2.toInt ∧ x2.toInt < (100 : Int)) then
        fn_M_cycle_7 x1 ds κ n (x2 + 1) th nw (upd va x2.toNatClampNeg ((0 : Int32)))
        else none
      else
        if decide (0 ≤ x2.toInt ∧ x2.toInt < (100 : Int)) then
        fn_M_cycle_7 x1 ds κ n (x2 + 1) th nw (upd va x2.toNatClampNeg ((-1 : Int32)))
        else none
def fn_M_cycle (x1 : Int32) (th : Mth) (ds : Mds) (nw : Mnw) (va : Mva) : Option (Int32 × Mth × Mnw × Mva) :=
  fn_M_cycle_7 x1 ds (fun th_7 nw_7 va_7 =>
    fn_M_cycle_36 x1 ds (fun th_8 nw_8 va_8 =>
      fn_M_cycle_72 ds (fun th_9 nw_9 va_9 =>
        fn_M_cycle_109 ds (fun th_10 nw_10 va_10 =>
          fn_M_cycle_214 ds (fun x3_11 th_11 nw_11 va_11 =>
            fn_M_cycle_251 x3_11 ds (fun th_12 nw_12 va_12 =>
              some (x3_11, th_12, nw_12, va_12)) am_NF (0 : Int32) th_11 nw_11 va_11) am_NF (0 : Int32) (0 : Int32) th_10 nw_10 va_10) am_NF (1 : Int32) th_9 nw_9 va_9) am_NF (0 : Int32) th_8 nw_8 va_8) am_NF (0 : Int32) th_7 nw_7 va_7) am_NF (0 : Int32) 0 nw va
def fn_M_number_131 (x1 : Int32) (x2 : Int32) (tx : Mtx) (ps : Mps) : Option (Int32 × Mps) :=
  if decide (x2 ≤ x1) then
    some (x2, ps)
  else
    (fn_M_bad ps.2.2 ps).bind fun q1 =>
    some (x2, q1)
def fn_M_number_41 (x1 : Int32) (tx : Mtx) (κ : Int32 → Mps → Option (Int32 × Mps)) : Nat → Int32 → Mps → Option (Int32 × Mps)
  | 0, _, _ => none
  | n + 1, x2, ps =>
    (fn_M_isDigit ps.1 tx).bind fun q2 =>
    if decide (q2 = 0) then
      κ x2 ps
    else
      if decide (ps.1 = ps.2.2) then
        if decide ((ps.1 - ps.2.2) = (4 : Int32)) then
          (fn_M_bad ps.1 ps).bind fun q3 =>
          some ((0 : Int32), q3)
        else
          if decide (0 ≤ ps.1.toInt ∧ ps.1.toInt < (1500 : Int)) then
          fn_M_number_41 x1 tx κ n ((((10 : Int32) * x2) + (tx.1 ps.1.toNatClampNeg)) - (48 : Int32)) (ps.1 + (1 : Int32), ps.2.1, ps.2.2)
          else none
      else
        if decide (0 ≤ ps.2.2.toInt ∧ ps.2.2.toInt < (1500 : Int)) then
        if decide ((tx.1 ps.2.2.toNatClampNeg) = (48 : Int32)) then
          κ x2 ps
        else
          if decide ((ps.1 - ps.2.2) = (4 : Int32)) then
            (fn_M_bad ps.1 ps).bind fun q4 =>
            some ((0 : Int32), q4)
          else
            if decide (0 ≤ ps.1.toInt ∧ ps.1.toInt < (1500 : Int)) then
            fn_M_number_41 x1 tx κ n ((((10 : Int32) * x2) + (tx.1 ps.1.toNatClampNeg)) - (48 : Int32)) (ps.1 + (1 : Int32), ps.2.1, ps.2.2)
            else none
        else none
def fn_M_number (x1 : Int32) (tx : Mtx) (ps : Mps) : Option (Int32 × Mps) :=
  if decide (ps.2.1 = (-1 : Int32)) then
    (fn_M_isDigit ps.1 tx).bind fun q5 =>
    if decide (q5 = 0) then
      (fn_M_bad ps.1 (ps.1, ps.2.1, ps.1)).bind fun q6 =>
      some ((0 : Int32), q6)
    else
      fn_M_number_41 x1 tx (fun x2_8 ps_8 =>
        fn_M_number_131 x1 x2_8 tx ps_8) am_NF (0 : Int32) (ps.1, ps.2.1, ps.1)
  else
    some ((0 : Int32), ps)
def fn_M_addNext_32 (ds : Mds) (ou : Mou) : Option (Mou) :=
  (fn_M_add (10 : Int32) ou).bind fun q1 =>
  some q1
def fn_M_addNext (x1 : Int32) (ds : Mds) (ou : Mou) : Option (Mou) :=
  if decide (0 ≤ x1.toInt ∧ x1.toInt < (8 : Int)) then
  (fn_M_addNumber (ds.2.2.2.2.1 x1.toNatClampNeg) ou).bind fun q2 =>
  if decide (0 ≤ x1.toInt ∧ x1.toInt < (8 : Int)) then
  if decide ((ds.2.2.2.2.2.1 x1.toNatClampNeg) = (1 : Int32)) then
    (fn_M_add (32 : Int32) q2).bind fun q3 =>
    (fn_M_add (49 : Int32) q3).bind fun q4 =>
    fn_M_addNext_32 ds q4
  else
    fn_M_addNext_32 ds q2
  else none
  else none
def fn_M_literal (x1 : Int32) (tx : Mtx) (ps : Mps) (nd : Mnd) (us : Mus) : Option (Int32 × Mps × Mus) :=
  (fn_M_number (((2 : Int32) * nd.1) + (1 : Int32)) tx ps).bind fun q1 =>
  if decide (q1.2.2.1 = (-1 : Int32)) then
    if decide (x1 = 0) then
      some (q1.1, q1.2, us)
    else
      if decide (0 ≤ us.2.2.2.2.toInt ∧ us.2.2.2.2.toInt < (140 : Int)) then
      if decide (0 ≤ us.2.2.2.2.toInt ∧ us.2.2.2.2.toInt < (140 : Int)) then
      some (q1.1, q1.2, (us.1, us.2.1, upd us.2.2.1 us.2.2.2.2.toNatClampNeg q1.1, upd us.2.2.2.1 us.2.2.2.2.toNatClampNeg q1.2.2.2, us.2.2.2.2 + (1 : Int32)))
      else none
      else none
  else
    some (q1.1, q1.2, us)
def fn_M_header_144 (tx : Mtx) (ps : Mps) (nd : Mnd) : Option (Mps × Mnd) :=
  (fn_M_take (10 : Int32) tx ps).bind fun q1 =>
  some (q1, nd)
def fn_M_header_136 (tx : Mtx) (ps : Mps) (nd : Mnd) : Option (Mps × Mnd) :=
  (fn_M_bad ps.2.2 ps).bind fun q2 =>
  fn_M_header_144 tx q2 nd
def fn_M_header_45 (x1 : Int32) (tx : Mtx) (κ : Mps → Mnd → Option (Mps × Mnd)) : Nat → Int32 → Mps → Mnd → Option (Mps × Mnd)
  | 0, _, _, _ => none
  | n + 1, x2, ps, nd =>
    if decide ((4 : Int32) ≤ x2) then
      κ ps nd
    else
      (fn_M_take (32 : Int32) tx ps).bind fun q3 =>
      if decide ((3 : Int32) ≤ x2) then
        (fn_M_number (60 : Int32) tx q3).bind fun q4 =>
        if decide (0 ≤ x2.toInt ∧ x2.toInt < (4 : Int)) then
        fn_M_header_45 x1 tx κ n (x2 + 1) q4.2 (nd.1, upd nd.2.1 x2.toNatClampNeg q4.1, nd.2.2.1, nd.2.2.2.1, nd.2.2.2.2.1, nd.2.2.2.2.2.1, nd.2.2.2.2.2.2.1, nd.2.2.2.2.2.2.2.1, nd.2.2.2.2.2.2.2.2.1, nd.2.2.2.2.2.2.2.2.2)
        else none
      else
        (fn_M_number (8 : Int32) tx q3).bind fun q5 =>
        if decide (0 ≤ x2.toInt ∧ x2.toInt < (4 : Int)) then
        fn_M_header_45 x1 tx κ n (x2 + 1) q5.2 (nd.1, upd nd.2.1 x2.toNatClampNeg q5.1, nd.2.2.1, nd.2.2.2.1, nd.2.2.2.2.1, nd.2.2.2.2.2.1, nd.2.2.2.2.2.2.1, nd.2.2.2.2.2.2.2.1, nd.2.2.2.2.2.2.2.2.1, nd.2.2.2.2.2.2.2.2.2)
        else none
def fn_M_header_18 (s1 : Int32) (x1 : Int32) (tx : Mtx) (ps : Mps) (nd : Mnd) : Option (Mps × Mnd) :=
  (fn_M_take s1 tx ps).bind fun q6 =>
  (fn_M_take (103 : Int32) tx q6).bind fun q7 =>
  (fn_M_take (32 : Int32) tx q7).bind fun q8 =>
  (fn_M_number (99 : Int32) tx q8).bind fun q9 =>
  fn_M_header_45 x1 tx (fun ps_11 nd_11 =>
    if decide (0 ≤ (0 : Int32).toInt ∧ (0 : Int32).toInt < (4 : Int)) then
    if decide (0 ≤ (1 : Int32).toInt ∧ (1 : Int32).toInt < (4 : Int)) then
    if decide (0 ≤ (3 : Int32).toInt ∧ (3 : Int32).toInt < (4 : Int)) then
    if decide (ps_11.2.1 = (-1 : Int32)) then
      if decide (x1 = 0) then
        if decide ((((nd_11.2.1 ((0 : Int32).toNatClampNeg)) + (nd_11.2.1 ((1 : Int32).toNatClampNeg))) + (nd_11.2.1 ((3 : Int32).toNatClampNeg))) ≤ nd_11.1) then
          fn_M_header_144 tx ps_11 nd_11
        else
          fn_M_header_136 tx ps_11 nd_11
      else
        if decide ((((nd_11.2.1 ((0 : Int32).toNatClampNeg)) + (nd_11.2.1 ((1 : Int32).toNatClampNeg))) + (nd_11.2.1 ((3 : Int32).toNatClampNeg))) = nd_11.1) then
          fn_M_header_144 tx ps_11 nd_11
        else
          fn_M_header_136 tx ps_11 nd_11
    else
      fn_M_header_144 tx ps_11 nd_11
    else none
    else none
    else none) am_NF (0 : Int32) q9.2 (q9.1, nd.2.1, nd.2.2.1, nd.2.2.2.1, nd.2.2.2.2.1, nd.2.2.2.2.2.1, nd.2.2.2.2.2.2.1, nd.2.2.2.2.2.2.2.1, nd.2.2.2.2.2.2.2.2.1, nd.2.2.2.2.2.2.2.2.2)
def fn_M_header (x1 : Int32) (tx : Mtx) (ps : Mps) (nd : Mnd) : Option (Mps × Mnd) :=
  (fn_M_take (97 : Int32) tx ps).bind fun q11 =>
  if decide (x1 = 0) then
    fn_M_header_18 (97 : Int32) x1 tx q11 nd
  else
    fn_M_header_18 (105 : Int32) x1 tx q11 nd
def fn_M_write_241 (x1 : Int32) (ds : Mds) (κ : Mth → Mou → Option (Int32 × Mth × Mou)) : Nat → Int32 → Mth → Mou → Option (Int32 × Mth × Mou)
  | 0, _, _, _ => none
  | n + 1, x2, th, ou =>
    if decide (0 ≤ (3 : Int32).toInt ∧ (3 : Int32).toInt < (4 : Int)) then
    if decide ((ds.2.1 ((3 : Int32).toNatClampNeg)) ≤ x2) then
      κ th ou
    else
      if decide (x1 = (1 : Int32)) then
        if decide (0 ≤ x2.toInt ∧ x2.toInt < (60 : Int)) then
        if decide (0 ≤ x2.toInt ∧ x2.toInt < (60 : Int)) then
        (fn_M_addDifference ((ds.2.2.2.2.2.2.2.1 x2.toNatClampNeg) - (ds.2.2.2.2.2.2.2.2.1 x2.toNatClampNeg)) ou).bind fun q1 =>
        if decide (0 ≤ x2.toInt ∧ x2.toInt < (60 : Int)) then
        if decide (0 ≤ x2.toInt ∧ x2.toInt < (60 : Int)) then
        (fn_M_addDifference ((ds.2.2.2.2.2.2.2.2.1 x2.toNatClampNeg) - (ds.2.2.2.2.2.2.2.2.2 x2.toNatClampNeg)) q1).bind fun q2 =>
        fn_M_write_241 x1 ds κ n (x2 + 1) th q2
        else none
        else none
        else none
        else none
      else
        if decide (0 ≤ x2.toInt ∧ x2.toInt < (60 : Int)) then
        (fn_M_addNumber (ds.2.2.2.2.2.2.2.1 x2.toNatClampNeg) ou).bind fun q3 =>
        (fn_M_add (32 : Int32) q3).bind fun q4 =>
        if decide (0 ≤ x2.toInt ∧ x2.toInt < (60 : Int)) then
        (fn_M_addNumber (ds.2.2.2.2.2.2.2.2.1 x2.toNatClampNeg) q4).bind fun q5 =>
        (fn_M_add (32 : Int32) q5).bind fun q6 =>
        if decide (0 ≤ x2.toInt ∧ x2.toInt < (60 : Int)) then
        (fn_M_addNumber (ds.2.2.2.2.2.2.2.2.2 x2.toNatClampNeg) q6).bind fun q7 =>
        (fn_M_add (10 : Int32) q7).bind fun q8 =>
        fn_M_write_241 x1 ds κ n (x2 + 1) th q8
        else none
        else none
        else none
    else none
def fn_M_write_207 (x1 : Int32) (ds : Mds) (κ : Mth → Mou → Option (Int32 × Mth × Mou)) : Nat → Int32 → Mth → Mou → Option (Int32 × Mth × Mou)
  | 0, _, _, _ => none
  | n + 1, x2, th, ou =>
    if decide (0 ≤ (2 : Int32).toInt ∧ (2 : Int32).toInt < (4 : Int)) then
    if decide ((ds.2.1 ((2 : Int32).toNatClampNeg)) ≤ x2) then
      κ th ou
    else
      if decide (0 ≤ x2.toInt ∧ x2.toInt < (8 : Int)) then
      (fn_M_addNumber (ds.2.2.2.2.2.2.1 x2.toNatClampNeg) ou).bind fun q9 =>
      (fn_M_add (10 : Int32) q9).bind fun q10 =>
      fn_M_write_207 x1 ds κ n (x2 + 1) th q10
      else none
    else none
def fn_M_write_164 (x1 : Int32) (ds : Mds) (κ : Mth → Mou → Option (Int32 × Mth × Mou)) : Nat → Int32 → Mth → Mou → Option (Int32 × Mth × Mou)
  | 0, _, _, _ => none
  | n + 1, x2, th, ou =>
    if decide (0 ≤ (1 : Int32).toInt ∧ (1 : Int32).toInt < (4 : Int)) then
    if decide ((ds.2.1 ((1 : Int32).toNatClampNeg)) ≤ x2) then
      κ th ou
    else
      if decide (x1 = 0) then
        if decide (0 ≤ x2.toInt ∧ x2.toInt < (8 : Int)) then
        (fn_M_addNumber (ds.2.2.2.1 x2.toNatClampNeg) ou).bind fun q11 =>
        (fn_M_add (32 : Int32) q11).bind fun q12 =>
        (fn_M_addNext x2 ds q12).bind fun q13 =>
        fn_M_write_164 x1 ds κ n (x2 + 1) th q13
        else none
      else
        (fn_M_addNext x2 ds ou).bind fun q14 =>
        fn_M_write_164 x1 ds κ n (x2 + 1) th q14
    else none
def fn_M_write_126 (x1 : Int32) (ds : Mds) (κ : Mth → Mou → Option (Int32 × Mth × Mou)) : Nat → Int32 → Mth → Mou → Option (Int32 × Mth × Mou)
  | 0, _, _, _ => none
  | n + 1, x2, th, ou =>
    if decide (0 ≤ (0 : Int32).toInt ∧ (0 : Int32).toInt < (4 : Int)) then
    if decide ((ds.2.1 ((0 : Int32).toNatClampNeg)) ≤ x2) then
      κ th ou
    else
      if decide (x1 = 0) then
        if decide (0 ≤ x2.toInt ∧ x2.toInt < (8 : Int)) then
        (fn_M_addNumber (ds.2.2.1 x2.toNatClampNeg) ou).bind fun q15 =>
        (fn_M_add (10 : Int32) q15).bind fun q16 =>
        fn_M_write_126 x1 ds κ n (x2 + 1) th q16
        else none
      else
        κ th ou
    else none
def fn_M_write_91 (x1 : Int32) (ds : Mds) (κ : Mth → Mou → Option (Int32 × Mth × Mou)) : Nat → Int32 → Mth → Mou → Option (Int32 × Mth × Mou)
  | 0, _, _, _ => none
  | n + 1, x2, th, ou =>
    if decide ((4 : Int32) ≤ x2) then
      κ th ou
    else
      (fn_M_add (32 : Int32) ou).bind fun q17 =>
      if decide (0 ≤ x2.toInt ∧ x2.toInt < (4 : Int)) then
      (fn_M_addNumber (ds.2.1 x2.toNatClampNeg) q17).bind fun q18 =>
      fn_M_write_91 x1 ds κ n (x2 + 1) th q18
      else none
def fn_M_write_66 (s1 : Int32) (x1 : Int32) (th : Mth) (ds : Mds) (ou : Mou) : Option (Int32 × Mth × Mou) :=
  (fn_M_add s1 ou).bind fun q19 =>
  (fn_M_add (103 : Int32) q19).bind fun q20 =>
  (fn_M_add (32 : Int32) q20).bind fun q21 =>
  (fn_M_addNumber ds.1 q21).bind fun q22 =>
  fn_M_write_91 x1 ds (fun th_24 ou_24 =>
    (fn_M_add (10 : Int32) ou_24).bind fun q24 =>
    fn_M_write_126 x1 ds (fun th_26 ou_26 =>
      fn_M_write_164 x1 ds (fun th_27 ou_27 =>
        fn_M_write_207 x1 ds (fun th_28 ou_28 =>
          fn_M_write_241 x1 ds (fun th_29 ou_29 =>
            some (ou_29.2, th_29, ou_29)) am_NF (0 : Int32) th_28 ou_28) am_NF (0 : Int32) th_27 ou_27) am_NF (0 : Int32) th_26 ou_26) am_NF (0 : Int32) th_24 q24) am_NF (0 : Int32) th q22
def fn_M_write_31 (s1 : Int32) (x1 : Int32) (th : Mth) (ds : Mds) (ou : Mou) : Option (Int32 × Mth × Mou) :=
  if decide (s1 ≤ 0) then
    (fn_M_add (97 : Int32) (ou.1, 0)).bind fun q29 =>
    if decide (x1 = 0) then
      fn_M_write_66 (97 : Int32) x1 s1 ds q29
    else
      fn_M_write_66 (105 : Int32) x1 s1 ds q29
  else
    some ((0 : Int32), s1, ou)
def fn_M_write_30 (x1 : Int32) (th : Mth) (ds : Mds) (ou : Mou) : Option (Int32 × Mth × Mou) :=
  fn_M_write_31 (0 : Int32) x1 th ds ou
def fn_M_write_10 (x1 : Int32) (th : Mth) (ds : Mds) (ou : Mou) : Option (Int32 × Mth × Mou) :=
  fn_M_write_31 (1 : Int32) x1 th ds ou
def fn_M_write (x1 : Int32) (th : Mth) (ds : Mds) (ou : Mou) : Option (Int32 × Mth × Mou) :=
  if decide (x1 < 0) then
    fn_M_write_10 x1 th ds ou
  else
    if decide (x1 ≤ (1 : Int32)) then
      if decide (x1 = (1 : Int32)) then
        (fn_M_isOrdered ds).bind fun q30 =>
        if decide (q30 = 0) then
          fn_M_write_31 (2 : Int32) x1 th ds ou
        else
          fn_M_write_30 x1 th ds ou
      else
        fn_M_write_30 x1 th ds ou
    else
      fn_M_write_10 x1 th ds ou
def fn_M_define_38 (tx : Mtx) (ps : Mps) (nd : Mnd) (us : Mus) : Option (Int32 × Mps × Mus) :=
  (fn_M_bad ps.2.2 ps).bind fun q1 =>
  some ((0 : Int32), q1, us)
def fn_M_define (tx : Mtx) (ps : Mps) (nd : Mnd) (us : Mus) : Option (Int32 × Mps × Mus) :=
  (fn_M_literal (0 : Int32) tx ps nd us).bind fun q2 =>
  if decide (q2.2.1.2.1 = (-1 : Int32)) then
    if decide (¬ (2 : Int32) = 0) then
    if decide ((q2.1 - q2.1 / (2 : Int32) * (2 : Int32)) = (1 : Int32)) then
      fn_M_define_38 tx q2.2.1 nd q2.2.2
    else
      if decide (q2.1 = 0) then
        fn_M_define_38 tx q2.2.1 nd q2.2.2
      else
        if decide (¬ (2 : Int32) = 0) then
        if decide (0 ≤ (q2.1 / (2 : Int32)).toInt ∧ (q2.1 / (2 : Int32)).toInt < (100 : Int)) then
        if decide ((q2.2.2.2.1 ((q2.1 / (2 : Int32)).toNatClampNeg)) = 0) then
          if decide (¬ (2 : Int32) = 0) then
          if decide (0 ≤ (q2.1 / (2 : Int32)).toInt ∧ (q2.1 / (2 : Int32)).toInt < (100 : Int)) then
          some (q2.1, q2.2.1, (q2.2.2.1, upd q2.2.2.2.1 (q2.1 / (2 : Int32)).toNatClampNeg (vp_nar .boolean (1 : Int32)), q2.2.2.2.2.1, q2.2.2.2.2.2.1, q2.2.2.2.2.2.2))
          else none
          else none
        else
          fn_M_define_38 tx q2.2.1 nd q2.2.2
        else none
        else none
    else none
  else
    some ((0 : Int32), q2.2.1, q2.2.2)
def fn_M_latchRest_60 (tx : Mtx) (ps : Mps) (nd : Mnd) (us : Mus) : Option (Mps × Mnd × Mus) :=
  (fn_M_take (10 : Int32) tx ps).bind fun q1 =>
  some (q1, nd, us)
def fn_M_latchRest (x1 : Int32) (tx : Mtx) (ps : Mps) (nd : Mnd) (us : Mus) : Option (Mps × Mnd × Mus) :=
  (fn_M_literal (1 : Int32) tx ps nd us).bind fun q2 =>
  if decide (0 ≤ x1.toInt ∧ x1.toInt < (8 : Int)) then
  if decide (0 ≤ x1.toInt ∧ x1.toInt < (8 : Int)) then
  if decide (q2.2.1.2.1 = (-1 : Int32)) then
    (fn_M_byteAt q2.2.1.1 tx).bind fun q3 =>
    if decide (q3 = (32 : Int32)) then
      (fn_M_number (1 : Int32) tx (q2.2.1.1 + (1 : Int32), q2.2.1.2.1, q2.2.1.2.2)).bind fun q4 =>
      if decide (0 ≤ x1.toInt ∧ x1.toInt < (8 : Int)) then
      fn_M_latchRest_60 tx q4.2 (nd.1, nd.2.1, nd.2.2.1, nd.2.2.2.1, upd nd.2.2.2.2.1 x1.toNatClampNeg q2.1, upd (upd nd.2.2.2.2.2.1 x1.toNatClampNeg ((0 : Int32))) x1.toNatClampNeg q4.1, nd.2.2.2.2.2.2.1, nd.2.2.2.2.2.2.2.1, nd.2.2.2.2.2.2.2.2.1, nd.2.2.2.2.2.2.2.2.2) q2.2.2
      else none
    else
      fn_M_latchRest_60 tx q2.2.1 (nd.1, nd.2.1, nd.2.2.1, nd.2.2.2.1, upd nd.2.2.2.2.1 x1.toNatClampNeg q2.1, upd nd.2.2.2.2.2.1 x1.toNatClampNeg ((0 : Int32)), nd.2.2.2.2.2.2.1, nd.2.2.2.2.2.2.2.1, nd.2.2.2.2.2.2.2.2.1, nd.2.2.2.2.2.2.2.2.2) q2.2.2
  else
    fn_M_latchRest_60 tx q2.2.1 (nd.1, nd.2.1, nd.2.2.1, nd.2.2.2.1, upd nd.2.2.2.2.1 x1.toNatClampNeg q2.1, upd nd.2.2.2.2.2.1 x1.toNatClampNeg ((0 : Int32)), nd.2.2.2.2.2.2.1, nd.2.2.2.2.2.2.2.1, nd.2.2.2.2.2.2.2.2.1, nd.2.2.2.2.2.2.2.2.2) q2.2.2
  else none
  else none
def fn_M_plainBody_134 (tx : Mtx) (κ : Mps → Mnd → Mus → Option (Mps × Mnd × Mus)) : Nat → Int32 → Mps → Mnd → Mus → Option (Mps × Mnd × Mus)
  | 0, _, _, _, _ => none
  | n + 1, x1, ps, nd, us =>
    if decide (0 ≤ (3 : Int32).toInt ∧ (3 : Int32).toInt < (4 : Int)) then
    if decide ((nd.2.1 ((3 : Int32).toNatClampNeg)) ≤ x1) then
      κ ps nd us
    else
      if decide (ps.2.1 = (-1 : Int32)) then
        (fn_M_define tx ps nd us).bind fun q1 =>
        if decide (0 ≤ x1.toInt ∧ x1.toInt < (60 : Int)) then
        if decide (0 ≤ x1.toInt ∧ x1.toInt < (60 : Int)) then
        (fn_M_take (32 : Int32) tx q1.2.1).bind fun q2 =>
        (fn_M_literal (1 : Int32) tx q2 (nd.1, nd.2.1, nd.2.2.1, nd.2.2.2.1, nd.2.2.2.2.1, nd.2.2.2.2.2.1, nd.2.2.2.2.2.2.1, upd nd.2.2.2.2.2.2.2.1 x1.toNatClampNeg q1.1, nd.2.2.2.2.2.2.2.2.1, nd.2.2.2.2.2.2.2.2.2) (upd q1.2.2.1 x1.toNatClampNeg q1.2.1.2.2, q1.2.2.2.1, q1.2.2.2.2.1, q1.2.2.2.2.2.1, q1.2.2.2.2.2.2)).bind fun q3 =>
        if decide (0 ≤ x1.toInt ∧ x1.toInt < (60 : Int)) then
        (fn_M_take (32 : Int32) tx q3.2.1).bind fun q4 =>
        (fn_M_literal (1 : Int32) tx q4 (nd.1, nd.2.1, nd.2.2.1, nd.2.2.2.1, nd.2.2.2.2.1, nd.2.2.2.2.2.1, nd.2.2.2.2.2.2.1, upd nd.2.2.2.2.2.2.2.1 x1.toNatClampNeg q1.1, upd nd.2.2.2.2.2.2.2.2.1 x1.toNatClampNeg q3.1, nd.2.2.2.2.2.2.2.2.2) q3.2.2).bind fun q5 =>
        if decide (0 ≤ x1.toInt ∧ x1.toInt < (60 : Int)) then
        (fn_M_take (10 : Int32) tx q5.2.1).bind fun q6 =>
        fn_M_plainBody_134 tx κ n (x1 + 1) q6 (nd.1, nd.2.1, nd.2.2.1, nd.2.2.2.1, nd.2.2.2.2.1, nd.2.2.2.2.2.1, nd.2.2.2.2.2.2.1, upd nd.2.2.2.2.2.2.2.1 x1.toNatClampNeg q1.1, upd nd.2.2.2.2.2.2.2.2.1 x1.toNatClampNeg q3.1, upd nd.2.2.2.2.2.2.2.2.2 x1.toNatClampNeg q5.1) q5.2.2
        else none
        else none
        else none
        else none
      else
        κ ps nd us
    else none
def fn_M_plainBody_91 (tx : Mtx) (κ : Mps → Mnd → Mus → Option (Mps × Mnd × Mus)) : Nat → Int32 → Mps → Mnd → Mus → Option (Mps × Mnd × Mus)
  | 0, _, _, _, _ => none
  | n + 1, x1, ps, nd, us =>
    if decide (0 ≤ (2 : Int32).toInt ∧ (2 : Int32).toInt < (4 : Int)) then
    if decide ((nd.2.1 ((2 : Int32).toNatClampNeg)) ≤ x1) then
      κ ps nd us
    else
      if decide (ps.2.1 = (-1 : Int32)) then
        (fn_M_literal (1 : Int32) tx ps nd us).bind fun q7 =>
        if decide (0 ≤ x1.toInt ∧ x1.toInt < (8 : Int)) then
        (fn_M_take (10 : Int32) tx q7.2.1).bind fun q8 =>
        fn_M_plainBody_91 tx κ n (x1 + 1) q8 (nd.1, nd.2.1, nd.2.2.1, nd.2.2.2.1, nd.2.2.2.2.1, nd.2.2.2.2.2.1, upd nd.2.2.2.2.2.2.1 x1.toNatClampNeg q7.1, nd.2.2.2.2.2.2.2.1, nd.2.2.2.2.2.2.2.2.1, nd.2.2.2.2.2.2.2.2.2) q7.2.2
        else none
      else
        κ ps nd us
    else none
def fn_M_plainBody_44 (tx : Mtx) (κ : Mps → Mnd → Mus → Option (Mps × Mnd × Mus)) : Nat → Int32 → Mps → Mnd → Mus → Option (Mps × Mnd × Mus)
  | 0, _, _, _, _ => none
  | n + 1, x1, ps, nd, us =>
    if decide (0 ≤ (1 : Int32).toInt ∧ (1 : Int32).toInt < (4 : Int)) then
    if decide ((nd.2.1 ((1 : Int32).toNatClampNeg)) ≤ x1) then
      κ ps nd us
    else
      if decide (ps.2.1 = (-1 : Int32)) then
        (fn_M_define tx ps nd us).bind fun q9 =>
        if decide (0 ≤ x1.toInt ∧ x1.toInt < (8 : Int)) then
        (fn_M_take (32 : Int32) tx q9.2.1).bind fun q10 =>
        (fn_M_latchRest x1 tx q10 (nd.1, nd.2.1, nd.2.2.1, upd nd.2.2.2.1 x1.toNatClampNeg q9.1, nd.2.2.2.2.1, nd.2.2.2.2.2.1, nd.2.2.2.2.2.2.1, nd.2.2.2.2.2.2.2.1, nd.2.2.2.2.2.2.2.2.1, nd.2.2.2.2.2.2.2.2.2) q9.2.2).bind fun q11 =>
        fn_M_plainBody_44 tx κ n (x1 + 1) q11.1 q11.2.1 q11.2.2
        else none
      else
        κ ps nd us
    else none
def fn_M_plainBody_2 (tx : Mtx) (κ : Mps → Mnd → Mus → Option (Mps × Mnd × Mus)) : Nat → Int32 → Mps → Mnd → Mus → Option (Mps × Mnd × Mus)
  | 0, _, _, _, _ => none
  | n + 1, x1, ps, nd, us =>
    if decide (0 ≤ (0 : Int32).toInt ∧ (0 : Int32).toInt < (4 : Int)) then
    if decide ((nd.2.1 ((0 : Int32).toNatClampNeg)) ≤ x1) then
      κ ps nd us
    else
      if decide (ps.2.1 = (-1 : Int32)) then
        (fn_M_define tx ps nd us).bind fun q12 =>
        if decide (0 ≤ x1.toInt ∧ x1.toInt < (8 : Int)) then
        (fn_M_take (10 : Int32) tx q12.2.1).bind fun q13 =>
        fn_M_plainBody_2 tx κ n (x1 + 1) q13 (nd.1, nd.2.1, upd nd.2.2.1 x1.toNatClampNeg q12.1, nd.2.2.2.1, nd.2.2.2.2.1, nd.2.2.2.2.2.1, nd.2.2.2.2.2.2.1, nd.2.2.2.2.2.2.2.1, nd.2.2.2.2.2.2.2.2.1, nd.2.2.2.2.2.2.2.2.2) q12.2.2
        else none
      else
        κ ps nd us
    else none
def fn_M_plainBody (tx : Mtx) (ps : Mps) (nd : Mnd) (us : Mus) : Option (Mps × Mnd × Mus) :=
  fn_M_plainBody_2 tx (fun ps_15 nd_15 us_15 =>
    fn_M_plainBody_44 tx (fun ps_16 nd_16 us_16 =>
      fn_M_plainBody_91 tx (fun ps_17 nd_17 us_17 =>
        fn_M_plainBody_134 tx (fun ps_18 nd_18 us_18 =>
          some (ps_18, nd_18, us_18)) am_NF (0 : Int32) ps_17 nd_17 us_17) am_NF (0 : Int32) ps_16 nd_16 us_16) am_NF (0 : Int32) ps_15 nd_15 us_15) am_NF (0 : Int32) ps nd us
def fn_M_packedBody_116 (tx : Mtx) (κ : Mps → Mnd → Mus → Option (Mps × Mnd × Mus)) : Nat → Int32 → Int32 → Mps → Mnd → Mus → Option (Mps × Mnd × Mus)
  | 0, _, _, _, _, _ => none
  | n + 1, x1, x2, ps, nd, us =>
    if decide (0 ≤ (3 : Int32).toInt ∧ (3 : Int32).toInt < (4 : Int)) then
    if decide ((nd.2.1 ((3 : Int32).toNatClampNeg)) ≤ x2) then
      κ ps nd us
    else
      if decide (ps.2.1 = (-1 : Int32)) then
        if decide (0 ≤ x2.toInt ∧ x2.toInt < (60 : Int)) then
        (fn_M_difference (1 : Int32) x1 tx ps).bind fun q1 =>
        if decide (0 ≤ x2.toInt ∧ x2.toInt < (60 : Int)) then
        if decide (0 ≤ x2.toInt ∧ x2.toInt < (60 : Int)) then
        if decide (0 ≤ x2.toInt ∧ x2.toInt < (60 : Int)) then
        (fn_M_difference (0 : Int32) ((upd nd.2.2.2.2.2.2.2.2.1 x2.toNatClampNeg ((x1 - q1.1))) x2.toNatClampNeg) tx q1.2).bind fun q2 =>
        if decide (0 ≤ x2.toInt ∧ x2.toInt < (60 : Int)) then
        fn_M_packedBody_116 tx κ n (x1 + 2) (x2 + 1) q2.2 (nd.1, nd.2.1, nd.2.2.1, nd.2.2.2.1, nd.2.2.2.2.1, nd.2.2.2.2.2.1, nd.2.2.2.2.2.2.1, upd nd.2.2.2.2.2.2.2.1 x2.toNatClampNeg x1, upd nd.2.2.2.2.2.2.2.2.1 x2.toNatClampNeg ((x1 - q1.1)), upd nd.2.2.2.2.2.2.2.2.2 x2.toNatClampNeg ((((upd nd.2.2.2.2.2.2.2.2.1 x2.toNatClampNeg ((x1 - q1.1))) x2.toNatClampNeg) - q2.1))) us
        else none
        else none
        else none
        else none
        else none
      else
        κ ps nd us
    else none
def fn_M_packedBody_73 (x1 : Int32) (tx : Mtx) (κ : Mps → Mnd → Mus → Option (Mps × Mnd × Mus)) : Nat → Int32 → Mps → Mnd → Mus → Option (Mps × Mnd × Mus)
  | 0, _, _, _, _ => none
  | n + 1, x2, ps, nd, us =>
    if decide (0 ≤ (2 : Int32).toInt ∧ (2 : Int32).toInt < (4 : Int)) then
    if decide ((nd.2.1 ((2 : Int32).toNatClampNeg)) ≤ x2) then
      κ ps nd us
    else
      if decide (ps.2.1 = (-1 : Int32)) then
        (fn_M_literal (1 : Int32) tx ps nd us).bind fun q3 =>
        if decide (0 ≤ x2.toInt ∧ x2.toInt < (8 : Int)) then
        (fn_M_take (10 : Int32) tx q3.2.1).bind fun q4 =>
        fn_M_packedBody_73 x1 tx κ n (x2 + 1) q4 (nd.1, nd.2.1, nd.2.2.1, nd.2.2.2.1, nd.2.2.2.2.1, nd.2.2.2.2.2.1, upd nd.2.2.2.2.2.2.1 x2.toNatClampNeg q3.1, nd.2.2.2.2.2.2.2.1, nd.2.2.2.2.2.2.2.2.1, nd.2.2.2.2.2.2.2.2.2) q3.2.2
        else none
      else
        κ ps nd us
    else none
def fn_M_packedBody_32 (tx : Mtx) (κ : Int32 → Mps → Mnd → Mus → Option (Mps × Mnd × Mus)) : Nat → Int32 → Int32 → Mps → Mnd → Mus → Option (Mps × Mnd × Mus)
  | 0, _, _, _, _, _ => none
  | n + 1, x1, x2, ps, nd, us =>
    if decide (0 ≤ (1 : Int32).toInt ∧ (1 : Int32).toInt < (4 : Int)) then
    if decide ((nd.2.1 ((1 : Int32).toNatClampNeg)) ≤ x2) then
      κ x1 ps nd us
    else
      if decide (ps.2.1 = (-1 : Int32)) then
        if decide (0 ≤ x2.toInt ∧ x2.toInt < (8 : Int)) then
        (fn_M_latchRest x2 tx ps (nd.1, nd.2.1, nd.2.2.1, upd nd.2.2.2.1 x2.toNatClampNeg x1, nd.2.2.2.2.1, nd.2.2.2.2.2.1, nd.2.2.2.2.2.2.1, nd.2.2.2.2.2.2.2.1, nd.2.2.2.2.2.2.2.2.1, nd.2.2.2.2.2.2.2.2.2) us).bind fun q5 =>
        fn_M_packedBody_32 tx κ n (x1 + 2) (x2 + 1) q5.1 q5.2.1 q5.2.2
        else none
      else
        κ x1 ps nd us
    else none
def fn_M_packedBody_4 (tx : Mtx) (κ : Int32 → Mps → Mnd → Mus → Option (Mps × Mnd × Mus)) : Nat → Int32 → Int32 → Mps → Mnd → Mus → Option (Mps × Mnd × Mus)
  | 0, _, _, _, _, _ => none
  | n + 1, x1, x2, ps, nd, us =>
    if decide (0 ≤ (0 : Int32).toInt ∧ (0 : Int32).toInt < (4 : Int)) then
    if decide ((nd.2.1 ((0 : Int32).toNatClampNeg)) ≤ x2) then
      κ x1 ps nd us
    else
      if decide (0 ≤ x2.toInt ∧ x2.toInt < (8 : Int)) then
      fn_M_packedBody_4 tx κ n (x1 + 2) (x2 + 1) ps (nd.1, nd.2.1, upd nd.2.2.1 x2.toNatClampNeg x1, nd.2.2.2.1, nd.2.2.2.2.1, nd.2.2.2.2.2.1, nd.2.2.2.2.2.2.1, nd.2.2.2.2.2.2.2.1, nd.2.2.2.2.2.2.2.2.1, nd.2.2.2.2.2.2.2.2.2) us
      else none
    else none
def fn_M_packedBody (tx : Mtx) (ps : Mps) (nd : Mnd) (us : Mus) : Option (Mps × Mnd × Mus) :=
  fn_M_packedBody_4 tx (fun x1_7 ps_7 nd_7 us_7 =>
    fn_M_packedBody_32 tx (fun x1_8 ps_8 nd_8 us_8 =>
      fn_M_packedBody_73 x1_8 tx (fun ps_9 nd_9 us_9 =>
        fn_M_packedBody_116 tx (fun ps_10 nd_10 us_10 =>
          some (ps_10, nd_10, us_10)) am_NF x1_8 (0 : Int32) ps_9 nd_9 us_9) am_NF (0 : Int32) ps_8 nd_8 us_8) am_NF x1_7 (0 : Int32) ps_7 nd_7 us_7) am_NF (2 : Int32) (0 : Int32) ps nd us
def fn_M_read_176 (th : Mth) (tx : Mtx) (ds : Mds) (nw : Mnw) (ps : Mps) (nd : Mnd) (us : Mus) (re : Mre) : Option (Int32 × Mth × Mtx × Mds × Mnw × Mps × Mnd × Mus × Mre) :=
  if decide (ps.2.1 = (-1 : Int32)) then
    (fn_M_takeOver th ds nw nd).bind fun q1 =>
    some (ps.2.1, q1.1, (tx.1, 0), q1.2.1, q1.2.2, ps, nd, us, re)
  else
    some (ps.2.1, th, (tx.1, 0), ds, nw, ps, nd, us, re)
def fn_M_read_160 (x1 : Int32) (th : Mth) (tx : Mtx) (ds : Mds) (nw : Mnw) (ps : Mps) (nd : Mnd) (us : Mus) (re : Mre) : Option (Int32 × Mth × Mtx × Mds × Mnw × Mps × Mnd × Mus × Mre) :=
  if decide (ps.2.1 = (-1 : Int32)) then
    if decide (x1 = 0) then
      (fn_M_findResting ps nd us re).bind fun q2 =>
      fn_M_read_176 th tx ds nw q2.1 nd us q2.2
    else
      fn_M_read_176 th tx ds nw ps nd us re
  else
    fn_M_read_176 th tx ds nw ps nd us re
def fn_M_read_144 (x1 : Int32) (th : Mth) (tx : Mtx) (ds : Mds) (nw : Mnw) (ps : Mps) (nd : Mnd) (us : Mus) (re : Mre) : Option (Int32 × Mth × Mtx × Mds × Mnw × Mps × Mnd × Mus × Mre) :=
  if decide (ps.2.1 = (-1 : Int32)) then
    if decide (x1 = 0) then
      (fn_M_findUndefined ps us).bind fun q3 =>
      fn_M_read_160 x1 th tx ds nw q3 nd us re
    else
      fn_M_read_160 x1 th tx ds nw ps nd us re
  else
    fn_M_read_160 x1 th tx ds nw ps nd us re
def fn_M_read_103 (x1 : Int32) (th : Mth) (tx : Mtx) (ds : Mds) (nw : Mnw) (ps : Mps) (nd : Mnd) (us : Mus) (re : Mre) : Option (Int32 × Mth × Mtx × Mds × Mnw × Mps × Mnd × Mus × Mre) :=
  if decide (ps.2.1 = (-1 : Int32)) then
    if decide (tx.2 ≤ ps.1) then
      fn_M_read_144 x1 th tx ds nw ps nd us re
    else
      if decide (0 ≤ ps.1.toInt ∧ ps.1.toInt < (1500 : Int)) then
      if decide ((tx.1 ps.1.toNatClampNeg) = (99 : Int32)) then
        fn_M_read_144 x1 th tx ds nw ps nd us re
      else
        (fn_M_bad ps.1 ps).bind fun q4 =>
        fn_M_read_144 x1 th tx ds nw q4 nd us re
      else none
  else
    fn_M_read_144 x1 th tx ds nw ps nd us re
def fn_M_read_91 (x1 : Int32) (th : Mth) (tx : Mtx) (ds : Mds) (nw : Mnw) (ps : Mps) (nd : Mnd) (us : Mus) (re : Mre) : Option (Int32 × Mth × Mtx × Mds × Mnw × Mps × Mnd × Mus × Mre) :=
  if decide (ps.2.1 = (-1 : Int32)) then
    (fn_M_plainBody tx ps nd us).bind fun q5 =>
    fn_M_read_103 x1 th tx ds nw q5.1 q5.2.1 q5.2.2 re
  else
    fn_M_read_103 x1 th tx ds nw ps nd us re
def fn_M_read_48 (x1 : Int32) (κ : Mth → Mtx → Mds → Mnw → Mps → Mnd → Mus → Mre → Option (Int32 × Mth × Mtx × Mds × Mnw × Mps × Mnd × Mus × Mre)) : Nat → Int32 → Mth → Mtx → Mds → Mnw → Mps → Mnd → Mus → Mre → Option (Int32 × Mth × Mtx × Mds × Mnw × Mps × Mnd × Mus × Mre)
  | 0, _, _, _, _, _, _, _, _, _ => none
  | n + 1, x2, th, tx, ds, nw, ps, nd, us, re =>
    if decide ((100 : Int32) ≤ x2) then
      κ th tx ds nw ps nd us re
    else
      if decide (0 ≤ x2.toInt ∧ x2.toInt < (100 : Int)) then
      fn_M_read_48 x1 κ n (x2 + 1) th tx ds nw ps nd (us.1, upd us.2.1 x2.toNatClampNeg (vp_nar .boolean (0 : Int32)), us.2.2.1, us.2.2.2.1, us.2.2.2.2) re
      else none
def fn_M_read_30 (s0 : Int32) (th : Mth) (tx : Mtx) (ds : Mds) (nw : Mnw) (ps : Mps) (nd : Mnd) (us : Mus) (re : Mre) : Option (Int32 × Mth × Mtx × Mds × Mnw × Mps × Mnd × Mus × Mre) :=
  fn_M_read_48 s0 (fun th_7 tx_7 ds_7 nw_7 ps_7 nd_7 us_7 re_7 =>
    (fn_M_header s0 tx_7 ps_7 nd_7).bind fun q7 =>
    if decide (q7.1.2.1 = (-1 : Int32)) then
      if decide (s0 = 0) then
        fn_M_read_91 s0 th_7 tx_7 ds_7 nw_7 q7.1 q7.2 us_7 re_7
      else
        (fn_M_packedBody tx_7 q7.1 q7.2 us_7).bind fun q8 =>
        fn_M_read_103 s0 th_7 tx_7 ds_7 nw_7 q8.1 q8.2.1 q8.2.2 re_7
    else
      fn_M_read_91 s0 th_7 tx_7 ds_7 nw_7 q7.1 q7.2 us_7 re_7) am_NF (0 : Int32) th tx ds nw (0, (-1), ps.2.2) nd (us.1, us.2.1, us.2.2.1, us.2.2.2.1, 0) re
def fn_M_read_29 (th : Mth) (tx : Mtx) (ds : Mds) (nw : Mnw) (ps : Mps) (nd : Mnd) (us : Mus) (re : Mre) : Option (Int32 × Mth × Mtx × Mds × Mnw × Mps × Mnd × Mus × Mre) :=
  fn_M_read_30 (0 : Int32) th tx ds nw ps nd us re
def fn_M_read (th : Mth) (tx : Mtx) (ds : Mds) (nw : Mnw) (ps : Mps) (nd : Mnd) (us : Mus) (re : Mre) : Option (Int32 × Mth × Mtx × Mds × Mnw × Mps × Mnd × Mus × Mre) :=
  (fn_M_byteAt (1 : Int32) tx).bind fun q9 =>
  if decide (q9 = (105 : Int32)) then
    (fn_M_byteAt (2 : Int32) tx).bind fun q10 =>
    if decide (q10 = (103 : Int32)) then
      fn_M_read_30 (1 : Int32) 0 tx ds nw ps nd us re
    else
      fn_M_read_29 0 tx ds nw ps nd us re
  else
    fn_M_read_29 0 tx ds nw ps nd us re
