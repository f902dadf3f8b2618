/-- a text's length, its character at a place; texts by their places in sLen, sByt -/
def f_Str_length (i : Nat) : Option Int32 := if i < 12 then some (nI (sLen.getD i 0)) else none
def f_Str_charAt (i : Nat) (k : Int32) : Option Int32 := if i < 12 then rd (fun j => (sByt.getD i []).getD j 0 &&& 255) (sLen.getD i 0) k else none
def f_S_finding (c_t_found : (Nat → Int32)) (a1 : Int32) : Option (Int32 × (Nat → Int32)) :=
  if ((-1000000001 : Int32) - a1) < (0 : Int32) then
    some (a1, c_t_found)
  else
    if (7 : Int32) ≤ ((-1000000001 : Int32) - a1) then
      some (a1, c_t_found)
    else
      (rd c_t_found 7 ((-1000000001 : Int32) - a1)).bind fun r3 =>
      (wr c_t_found 7 ((-1000000001 : Int32) - a1) (r3 + (1 : Int32))).bind fun r4 =>
      some (a1, r4)
def f_Forms_isForm  (a0 : Int32) : Option (Int32) :=
  if a0 < (0 : Int32) then
    some (0 : Int32)
  else
    if (4095 : Int32) < a0 then
      some (0 : Int32)
    else
      some (1 : Int32)
def f_Forms_oddPoints_b4   (a0 : Int32) : Nat → Int32 → Int32 → Option (Int32)
  | 0, _, _ => none
  | n + 1, v1, v2 =>
    if (12 : Int32) ≤ v2 then
      some v1
    else
      if ((a0 >>> (v2 &&& 31)) &&& (1 : Int32)) = (0 : Int32) then
        f_Forms_oddPoints_b4  a0 n v1 (v2 + (1))
      else
        (rd tENDS 12 v2).bind fun r3 =>
        f_Forms_oddPoints_b4  a0 n (v1 ^^^ r3) (v2 + (1))
def f_Forms_oddPoints  (a0 : Int32) : Option (Int32) :=
  f_Forms_oddPoints_b4  a0 5000 (0 : Int32) (0 : Int32)
def f_S_odd (c_t_found : (Nat → Int32)) (a1 : Int32) : Option (Int32 × (Nat → Int32)) :=
  (f_Forms_isForm a1).bind fun r1 =>
  if r1 = (0 : Int32) then
    (f_S_finding c_t_found (-1000000001 : Int32)).bind fun r4 =>
    some (r4.1, r4.2)
  else
    (f_Forms_oddPoints a1).bind fun r3 =>
    some (r3, c_t_found)
def f_Forms_firstPiece_b57 (k9 : Int32 → Int32 → Int32 → Option (Int32)) (k21 : Int32 → Int32 → Int32 → Int32 → Int32 → Option (Int32))  (a0 : Int32) (v1 : Int32) (v2 : Int32) (v3 : Int32) (v4 : Int32) (v5 : Int32) (v6 : Int32) (s0 : Int32) : Option (Int32) :=
  if s0 = (0 : Int32) then
    k21 v1 v2 v3 v4 (v5 + (1))
  else
    if (a0 &&& v6) = (0 : Int32) then
      k21 v1 v2 v3 v4 (v5 + (1))
    else
      (rd tENDS 12 v5).bind fun r3 =>
      k21 (v1 ||| v6) (v2 ||| r3) v3 v4 (v5 + (1))
def f_Forms_firstPiece_b21 (k9 : Int32 → Int32 → Int32 → Option (Int32))  (a0 : Int32) : Nat → Int32 → Int32 → Int32 → Int32 → Int32 → Option (Int32)
  | 0, _, _, _, _, _ => none
  | n + 1, v1, v2, v3, v4, v5 =>
    if (12 : Int32) ≤ v5 then
      if v2 = v4 then
        some v1
      else
        k9 v1 v2 (v3 + (1))
    else
      if (v1 &&& ((1 : Int32) <<< (v5 &&& 31))) = (0 : Int32) then
        (rd tENDS 12 v5).bind fun r7 =>
        if (v2 &&& r7) = (0 : Int32) then
          f_Forms_firstPiece_b57 k9 (f_Forms_firstPiece_b21 k9 a0 n) a0 v1 v2 v3 v4 v5 ((1 : Int32) <<< (v5 &&& 31)) (0 : Int32)
        else
          f_Forms_firstPiece_b57 k9 (f_Forms_firstPiece_b21 k9 a0 n) a0 v1 v2 v3 v4 v5 ((1 : Int32) <<< (v5 &&& 31)) (1 : Int32)
      else
        f_Forms_firstPiece_b57 k9 (f_Forms_firstPiece_b21 k9 a0 n) a0 v1 v2 v3 v4 v5 ((1 : Int32) <<< (v5 &&& 31)) (1 : Int32)
def f_Forms_firstPiece_b9   (a0 : Int32) : Nat → Int32 → Int32 → Int32 → Option (Int32)
  | 0, _, _, _ => none
  | n + 1, v1, v2, v3 =>
    if (12 : Int32) ≤ v3 then
      some v1
    else
      f_Forms_firstPiece_b21 (f_Forms_firstPiece_b9  a0 n) a0 5000 v1 v2 v3 v2 (0 : Int32)
def f_Forms_firstPiece  (a0 : Int32) : Option (Int32) :=
  f_Forms_firstPiece_b9  a0 5000 (a0 &&& (-a0)) (0 : Int32) (0 : Int32)
def f_Forms_countPieces_b6   (a0 : Int32) : Nat → Int32 → Int32 → Int32 → Option (Int32)
  | 0, _, _, _ => none
  | n + 1, v1, v2, v3 =>
    if (12 : Int32) ≤ v3 then
      some v1
    else
      if v2 = (0 : Int32) then
        some v1
      else
        (f_Forms_firstPiece v2).bind fun r3 =>
        f_Forms_countPieces_b6  a0 n (v1 + (1)) (v2 &&& (r3 ^^^ (-1 : Int32))) (v3 + (1))
def f_Forms_countPieces  (a0 : Int32) : Option (Int32) :=
  f_Forms_countPieces_b6  a0 5000 (0 : Int32) a0 (0 : Int32)
def f_S_pieces (c_t_found : (Nat → Int32)) (a1 : Int32) : Option (Int32 × (Nat → Int32)) :=
  (f_Forms_isForm a1).bind fun r1 =>
  if r1 = (0 : Int32) then
    (f_S_finding c_t_found (-1000000001 : Int32)).bind fun r4 =>
    some (r4.1, r4.2)
  else
    (f_Forms_countPieces a1).bind fun r3 =>
    some (r3, c_t_found)
def f_Int_bitCount  (a0 : Int32) : Option (Int32) :=
  kl (a0 - ((a0.toUInt32 >>> ((1 : Int32).toUInt32 &&& Int32.toUInt32 31)).toInt32 &&& (1431655765 : Int32))) fun x1 =>
  kl ((x1 &&& (858993459 : Int32)) + ((x1.toUInt32 >>> ((2 : Int32).toUInt32 &&& Int32.toUInt32 31)).toInt32 &&& (858993459 : Int32))) fun x2 =>
  kl ((x2 + (x2.toUInt32 >>> ((4 : Int32).toUInt32 &&& Int32.toUInt32 31)).toInt32) &&& (252645135 : Int32)) fun x3 =>
  kl (x3 + (x3.toUInt32 >>> ((8 : Int32).toUInt32 &&& Int32.toUInt32 31)).toInt32) fun x4 =>
  kl (x4 + (x4.toUInt32 >>> ((16 : Int32).toUInt32 &&& Int32.toUInt32 31)).toInt32) fun x5 =>
  some (x5 &&& (63 : Int32))
def f_Forms_countLines_b6   (a0 : Int32) : Nat → Int32 → Int32 → Int32 → Option (Int32)
  | 0, _, _, _ => none
  | n + 1, v1, v2, v3 =>
    if (12 : Int32) ≤ v3 then
      some v1
    else
      if v2 = (0 : Int32) then
        some v1
      else
        (f_Forms_firstPiece v2).bind fun r3 =>
        (f_Forms_oddPoints r3).bind fun r4 =>
        (f_Int_bitCount r4).bind fun r5 =>
        kl (v1 + (if (1 : Int32) < (r5 / (2 : Int32)) then (r5 / (2 : Int32)) else (1 : Int32))) fun x6 =>
        f_Forms_countLines_b6  a0 n x6 (v2 &&& (r3 ^^^ (-1 : Int32))) (v3 + (1))
def f_Forms_countLines  (a0 : Int32) : Option (Int32) :=
  f_Forms_countLines_b6  a0 5000 (0 : Int32) a0 (0 : Int32)
def f_S_lines (c_t_found : (Nat → Int32)) (a1 : Int32) : Option (Int32 × (Nat → Int32)) :=
  (f_Forms_isForm a1).bind fun r1 =>
  if r1 = (0 : Int32) then
    (f_S_finding c_t_found (-1000000001 : Int32)).bind fun r4 =>
    some (r4.1, r4.2)
  else
    (f_Forms_countLines a1).bind fun r3 =>
    some (r3, c_t_found)
def f_Forms_countStrays  (a0 : Int32) : Option (Int32) :=
  (f_Forms_countLines a0).bind fun r1 =>
  some (if (0 : Int32) < (r1 - (1 : Int32)) then (r1 - (1 : Int32)) else (0 : Int32))
def f_S_strays (c_t_found : (Nat → Int32)) (a1 : Int32) : Option (Int32 × (Nat → Int32)) :=
  (f_Forms_isForm a1).bind fun r1 =>
  if r1 = (0 : Int32) then
    (f_S_finding c_t_found (-1000000001 : Int32)).bind fun r4 =>
    some (r4.1, r4.2)
  else
    (f_Forms_countStrays a1).bind fun r3 =>
    some (r3, c_t_found)
def f_Forms_across  (a0 : Int32) (a1 : Int32) : Option (Int32) :=
  if a0 < (0 : Int32) then
    some (-1 : Int32)
  else
    if a0 < (12 : Int32) then
      (rd tONE 12 a0).bind fun r3 =>
      if r3 = a1 then
        (rd tOTHER 12 a0).bind fun r8 =>
        some r8
      else
        (rd tOTHER 12 a0).bind fun r5 =>
        if r5 = a1 then
          (rd tONE 12 a0).bind fun r7 =>
          some r7
        else
          some (-1 : Int32)
    else
      some (-1 : Int32)
def f_Forms_hasStroke  (a0 : Int32) (a1 : Int32) : Option (Int32) :=
  if ((a0 >>> (a1 &&& 31)) &&& (1 : Int32)) = (0 : Int32) then
    some (0 : Int32)
  else
    some (1 : Int32)
def f_Forms_touches_b2   (a0 : Int32) (a1 : Int32) : Nat → Int32 → Option (Int32)
  | 0, _ => none
  | n + 1, v2 =>
    if (12 : Int32) ≤ v2 then
      some (0 : Int32)
    else
      (f_Forms_hasStroke a0 v2).bind fun r2 =>
      if r2 = (0 : Int32) then
        f_Forms_touches_b2  a0 a1 n (v2 + (1))
      else
        (f_Forms_across v2 a1).bind fun r4 =>
        if r4 < (0 : Int32) then
          f_Forms_touches_b2  a0 a1 n (v2 + (1))
        else
          some (1 : Int32)
def f_Forms_touches  (a0 : Int32) (a1 : Int32) : Option (Int32) :=
  f_Forms_touches_b2  a0 a1 5000 (0 : Int32)
def f_Forms_canBeTrodden_b49   (a0 : Int32) (a1 : Int32)  : Option (Int32) :=
  some (1 : Int32)
def f_Forms_canBeTrodden  (a0 : Int32) (a1 : Int32) : Option (Int32) :=
  if a0 = (0 : Int32) then
    some (1 : Int32)
  else
    (f_Forms_touches a0 a1).bind fun r2 =>
    if r2 = (0 : Int32) then
      some (0 : Int32)
    else
      (f_Forms_countPieces a0).bind fun r4 =>
      if r4 = (1 : Int32) then
        (f_Forms_oddPoints a0).bind fun r6 =>
        if r6 = (0 : Int32) then
          f_Forms_canBeTrodden_b49  a0 a1 
        else
          (f_Int_bitCount r6).bind fun r8 =>
          if r8 = (2 : Int32) then
            if ((r6 >>> (a1 &&& 31)) &&& (1 : Int32)) = (0 : Int32) then
              some (0 : Int32)
            else
              f_Forms_canBeTrodden_b49  a0 a1 
          else
            some (0 : Int32)
      else
        some (0 : Int32)
def f_Forms_countWays_b19  (rec : Int32 → Int32 → Int32 → Option (Int64))  (a0 : Int32) (a1 : Int32) (a2 : Int32) : Nat → Int64 → Int32 → Option (Int64)
  | 0, _, _ => none
  | n + 1, v3, v5 =>
    if (12 : Int32) ≤ v5 then
      some v3
    else
      (f_Forms_across v5 a1).bind fun r2 =>
      (f_Forms_hasStroke a0 v5).bind fun r3 =>
      if r3 = (0 : Int32) then
        f_Forms_countWays_b19  rec a0 a1 a2 n v3 (v5 + (1))
      else
        if r2 < (0 : Int32) then
          f_Forms_countWays_b19  rec a0 a1 a2 n v3 (v5 + (1))
        else
          (rec (a0 &&& (((1 : Int32) <<< (v5 &&& 31)) ^^^ (-1 : Int32))) r2 (a2 + (1 : Int32))).bind fun r6 =>
          f_Forms_countWays_b19  rec a0 a1 a2 n (v3 + r6) (v5 + (1))
def f_Forms_countWays_e (rec : Int32 → Int32 → Int32 → Option (Int64)) (a0 : Int32) (a1 : Int32) (a2 : Int32) : Option (Int64) :=
  if a0 = (0 : Int32) then
    some (1 : Int64)
  else
    if a2 < (12 : Int32) then
      f_Forms_countWays_b19  rec a0 a1 a2 5000 (0 : Int64) (0 : Int32)
    else
      some (0 : Int64)
def f_Forms_countWays : Nat → Int32 → Int32 → Int32 → Option (Int64)
  | 0, _, _, _ => none
  | n + 1, a0, a1, a2 => f_Forms_countWays_e (f_Forms_countWays n) a0 a1 a2
def f_Forms_isPoint  (a0 : Int64) : Option (Int32) :=
  if (lg_cmp a0 (0 : Int64)) < (0 : Int32) then
    some (0 : Int32)
  else
    if (0 : Int32) ≤ (lg_cmp a0 (9 : Int64)) then
      some (0 : Int32)
    else
      some (1 : Int32)
def f_S_ways_b15   (a1 : Int32) (a2 : Int32) (c_t_found : (Nat → Int32)) : Option (Int64 × (Nat → Int32)) :=
  (f_S_finding c_t_found (-1000000001 : Int32)).bind fun r1 =>
  some (r1.1.toInt64, r1.2)
def f_S_ways (c_t_found : (Nat → Int32)) (a1 : Int32) (a2 : Int32) : Option (Int64 × (Nat → Int32)) :=
  (f_Forms_isForm a1).bind fun r2 =>
  if r2 = (0 : Int32) then
    f_S_ways_b15  a1 a2 c_t_found
  else
    (f_Forms_isPoint a2.toInt64).bind fun r4 =>
    if r4 = (0 : Int32) then
      f_S_ways_b15  a1 a2 c_t_found
    else
      (f_Forms_canBeTrodden a1 a2).bind fun r6 =>
      if r6 = (0 : Int32) then
        some ((0 : Int64), c_t_found)
      else
        (f_Forms_countWays 14 a1 a2 (0 : Int32)).bind fun r8 =>
        some (r8, c_t_found)
def f_S_isWithin  (a0 : Int32) (a1 : Int32) : Option (Int32) :=
  if a0 < (0 : Int32) then
    some (0 : Int32)
  else
    if a1 < a0 then
      some (0 : Int32)
    else
      some (1 : Int32)
def f_Forms_leastOnward_b2   (a0 : Int32) (a1 : Int32) : Nat → Int32 → Option (Int32)
  | 0, _ => none
  | n + 1, v2 =>
    if (12 : Int32) ≤ v2 then
      some (-1 : Int32)
    else
      (f_Forms_across v2 a1).bind fun r2 =>
      (f_Forms_hasStroke a0 v2).bind fun r3 =>
      if r3 = (0 : Int32) then
        f_Forms_leastOnward_b2  a0 a1 n (v2 + (1))
      else
        if r2 < (0 : Int32) then
          f_Forms_leastOnward_b2  a0 a1 n (v2 + (1))
        else
          (f_Forms_canBeTrodden (a0 &&& (((1 : Int32) <<< (v2 &&& 31)) ^^^ (-1 : Int32))) r2).bind fun r6 =>
          if r6 = (0 : Int32) then
            f_Forms_leastOnward_b2  a0 a1 n (v2 + (1))
          else
            some v2
def f_Forms_leastOnward  (a0 : Int32) (a1 : Int32) : Option (Int32) :=
  f_Forms_leastOnward_b2  a0 a1 5000 (0 : Int32)
def f_Forms_strokeOfFirstWay_b33   (a0 : Int32) (a1 : Int32) (a2 : Int32) : Nat → Int32 → Int32 → Int32 → Int32 → Option (Int32)
  | 0, _, _, _, _ => none
  | n + 1, v3, v4, v5, v6 =>
    if a2 < v6 then
      some v5
    else
      (f_Forms_leastOnward v3 v4).bind fun r2 =>
      if (0 : Int32) ≤ r2 then
        (f_Forms_across r2 v4).bind fun r4 =>
        f_Forms_strokeOfFirstWay_b33  a0 a1 a2 n (v3 &&& (((1 : Int32) <<< (r2 &&& 31)) ^^^ (-1 : Int32))) r4 r2 (v6 + (1))
      else
        some (-1 : Int32)
def f_Forms_strokeOfFirstWay  (a0 : Int32) (a1 : Int32) (a2 : Int32) : Option (Int32) :=
  if a2 < (0 : Int32) then
    some (-1 : Int32)
  else
    (f_Int_bitCount a0).bind fun r6 =>
    if r6 ≤ a2 then
      some (-1 : Int32)
    else
      (f_Forms_canBeTrodden a0 a1).bind fun r8 =>
      if r8 = (0 : Int32) then
        some (-1 : Int32)
      else
        f_Forms_strokeOfFirstWay_b33  a0 a1 a2 5000 a0 a1 (-1 : Int32) (0 : Int32)
def f_S_ith_b24   (a1 : Int32) (a2 : Int32) (a3 : Int32) (c_t_found : (Nat → Int32)) : Option (Int32 × (Nat → Int32)) :=
  (f_S_finding c_t_found (-1000000001 : Int32)).bind fun r1 =>
  some (r1.1, r1.2)
def f_S_ith (c_t_found : (Nat → Int32)) (a1 : Int32) (a2 : Int32) (a3 : Int32) : Option (Int32 × (Nat → Int32)) :=
  (f_Forms_isForm a1).bind fun r2 =>
  if r2 = (0 : Int32) then
    f_S_ith_b24  a1 a2 a3 c_t_found
  else
    (f_Forms_isPoint a2.toInt64).bind fun r4 =>
    if r4 = (0 : Int32) then
      f_S_ith_b24  a1 a2 a3 c_t_found
    else
      (f_S_isWithin a3 (11 : Int32)).bind fun r6 =>
      if r6 = (0 : Int32) then
        f_S_ith_b24  a1 a2 a3 c_t_found
      else
        (f_Forms_strokeOfFirstWay a1 a2 a3).bind fun r8 =>
        if (0 : Int32) ≤ r8 then
          some (r8, c_t_found)
        else
          (f_S_finding c_t_found (-1000000004 : Int32)).bind fun r10 =>
          some (r10.1, r10.2)
def f_Forms_nextPart  (a0 : Int32) (a1 : Int32) : Option (Int32) :=
  some ((a0 - a1) &&& a1)
def f_Forms_fewestToClose_b44 (k15 : Int32 → Int32 → Int32 → Int32 → Option (Int32))  (a0 : Int32) (v1 : Int32) (v2 : Int32) (v3 : Int32) (v4 : Int32) : Option (Int32) :=
  (f_Forms_nextPart v3 a0).bind fun r1 =>
  if r1 = (0 : Int32) then
    some v2
  else
    k15 v1 v2 r1 (v4 + (1))
def f_Forms_fewestToClose_b15   (a0 : Int32) : Nat → Int32 → Int32 → Int32 → Int32 → Option (Int32)
  | 0, _, _, _, _ => none
  | n + 1, v1, v2, v3, v4 =>
    if (4095 : Int32) < v4 then
      some v2
    else
      (f_Int_bitCount v3).bind fun r4 =>
      if v2 ≤ r4 then
        f_Forms_fewestToClose_b44 (f_Forms_fewestToClose_b15  a0 n) a0 v1 v2 v3 v4
      else
        (f_Forms_oddPoints v3).bind fun r6 =>
        if r6 = v1 then
          (f_Int_bitCount v3).bind fun r8 =>
          f_Forms_fewestToClose_b44 (f_Forms_fewestToClose_b15  a0 n) a0 v1 r8 v3 v4
        else
          f_Forms_fewestToClose_b44 (f_Forms_fewestToClose_b15  a0 n) a0 v1 v2 v3 v4
def f_Forms_fewestToClose  (a0 : Int32) : Option (Int32) :=
  (f_Forms_oddPoints a0).bind fun r9 =>
  (f_Int_bitCount a0).bind fun r10 =>
  f_Forms_fewestToClose_b15  a0 5000 r9 r10 (0 : Int32) (0 : Int32)
def f_S_again (c_t_found : (Nat → Int32)) (a1 : Int32) : Option (Int32 × (Nat → Int32)) :=
  (f_Forms_isForm a1).bind fun r1 =>
  if r1 = (0 : Int32) then
    (f_S_finding c_t_found (-1000000001 : Int32)).bind fun r7 =>
    some (r7.1, r7.2)
  else
    (f_Forms_countPieces a1).bind fun r3 =>
    if r3 ≤ (1 : Int32) then
      (f_Forms_fewestToClose a1).bind fun r5 =>
      some (r5, c_t_found)
    else
      (f_S_finding c_t_found (-1000000004 : Int32)).bind fun r6 =>
      some (r6.1, r6.2)
def f_Forms_byAQuarter_b4   (a0 : Int32) : Nat → Int32 → Int32 → Option (Int32)
  | 0, _, _ => none
  | n + 1, v1, v2 =>
    if (12 : Int32) ≤ v2 then
      some v1
    else
      (f_Forms_hasStroke a0 v2).bind fun r2 =>
      if r2 = (0 : Int32) then
        f_Forms_byAQuarter_b4  a0 n v1 (v2 + (1))
      else
        (rd tQUARTER 12 v2).bind fun r4 =>
        f_Forms_byAQuarter_b4  a0 n (v1 ||| ((1 : Int32) <<< (r4 &&& 31))) (v2 + (1))
def f_Forms_byAQuarter  (a0 : Int32) : Option (Int32) :=
  f_Forms_byAQuarter_b4  a0 5000 (0 : Int32) (0 : Int32)
def f_S_turned_b15   (a1 : Int32) (a2 : Int32) (c_t_found : (Nat → Int32)) : Option (Int32 × (Nat → Int32)) :=
  (f_S_finding c_t_found (-1000000001 : Int32)).bind fun r1 =>
  some (r1.1, r1.2)
def f_S_turned_b27   (a1 : Int32) (a2 : Int32) : Nat → (Nat → Int32) → Int32 → Int32 → Option (Int32 × (Nat → Int32))
  | 0, _, _, _ => none
  | n + 1, c_t_found, v3, v4 =>
    if a2 ≤ v4 then
      some (v3, c_t_found)
    else
      (f_Forms_byAQuarter v3).bind fun r3 =>
      f_S_turned_b27  a1 a2 n c_t_found r3 (v4 + (1))
def f_S_turned (c_t_found : (Nat → Int32)) (a1 : Int32) (a2 : Int32) : Option (Int32 × (Nat → Int32)) :=
  (f_Forms_isForm a1).bind fun r4 =>
  if r4 = (0 : Int32) then
    f_S_turned_b15  a1 a2 c_t_found
  else
    (f_S_isWithin a2 (3 : Int32)).bind fun r6 =>
    if r6 = (0 : Int32) then
      f_S_turned_b15  a1 a2 c_t_found
    else
      f_S_turned_b27  a1 a2 5000 c_t_found a1 (0 : Int32)
def f_Book_isSign  (a0 : Int32) : Option (Int32) :=
  if a0 < (0 : Int32) then
    some (0 : Int32)
  else
    if (26 : Int32) ≤ a0 then
      some (0 : Int32)
    else
      some (1 : Int32)
def f_Book_formAt (c_t_forms : (Nat → Int32)) (a1 : Int32) : Option (Int32) :=
  (f_Book_isSign a1).bind fun r1 =>
  if r1 = (0 : Int32) then
    some (0 : Int32)
  else
    (rd c_t_forms 26 a1).bind fun r3 =>
    some r3
def f_Book_put (c_t_forms : (Nat → Int32)) (a1 : Int32) (a2 : Int32) : Option ((Nat → Int32)) :=
  (f_Book_isSign a1).bind fun r1 =>
  if r1 = (0 : Int32) then
    some c_t_forms
  else
    (wr c_t_forms 26 a1 a2).bind fun r3 =>
    some r3
def f_S_sign_b14   (a1 : Int32) (a2 : Int32) (c_t_found : (Nat → Int32)) (c_t_plain_book_forms : (Nat → Int32)) : Option (Int32 × (Nat → Int32) × (Nat → Int32)) :=
  (f_S_finding c_t_found (-1000000001 : Int32)).bind fun r1 =>
  some (r1.1, r1.2, c_t_plain_book_forms)
def f_S_sign (c_t_found : (Nat → Int32)) (c_t_plain_book_forms : (Nat → Int32)) (a1 : Int32) (a2 : Int32) : Option (Int32 × (Nat → Int32) × (Nat → Int32)) :=
  (f_Book_isSign a1).bind fun r2 =>
  if r2 = (0 : Int32) then
    f_S_sign_b14  a1 a2 c_t_found c_t_plain_book_forms
  else
    (f_Forms_isForm a2).bind fun r4 =>
    if r4 = (0 : Int32) then
      f_S_sign_b14  a1 a2 c_t_found c_t_plain_book_forms
    else
      (f_Book_formAt c_t_plain_book_forms a1).bind fun r6 =>
      (f_Book_put c_t_plain_book_forms a1 a2).bind fun r7 =>
      some (r6, c_t_found, r7)
def f_S_form (c_t_found : (Nat → Int32)) (c_t_plain_book_forms : (Nat → Int32)) (a1 : Int32) : Option (Int32 × (Nat → Int32)) :=
  (f_Book_isSign a1).bind fun r1 =>
  if r1 = (0 : Int32) then
    (f_S_finding c_t_found (-1000000001 : Int32)).bind fun r4 =>
    some (r4.1, r4.2)
  else
    (f_Book_formAt c_t_plain_book_forms a1).bind fun r3 =>
    some (r3, c_t_found)
def f_Forms_differ  (a0 : Int32) (a1 : Int32) : Option (Int32) :=
  (f_Int_bitCount (a0 ^^^ a1)).bind fun r1 =>
  some r1
def f_Book_nearest_b8  (c_t_forms : (Nat → Int32)) (a1 : Int32) : Nat → Int32 → Int32 → Int32 → Option (Int32)
  | 0, _, _, _ => none
  | n + 1, v2, v3, v4 =>
    if (26 : Int32) ≤ v4 then
      some v2
    else
      (rd c_t_forms 26 v4).bind fun r2 =>
      (f_Forms_differ r2 a1).bind fun r3 =>
      (rd c_t_forms 26 v4).bind fun r4 =>
      if r4 = (0 : Int32) then
        f_Book_nearest_b8  c_t_forms a1 n v2 v3 (v4 + (1))
      else
        if v3 ≤ r3 then
          f_Book_nearest_b8  c_t_forms a1 n v2 v3 (v4 + (1))
        else
          f_Book_nearest_b8  c_t_forms a1 n v4 r3 (v4 + (1))
def f_Book_nearest (c_t_forms : (Nat → Int32)) (a1 : Int32) : Option (Int32) :=
  f_Book_nearest_b8  c_t_forms a1 5000 (-1 : Int32) (13 : Int32) (0 : Int32)
def f_S_read (c_t_found : (Nat → Int32)) (c_t_plain_book_forms : (Nat → Int32)) (a1 : Int32) : Option (Int32 × (Nat → Int32)) :=
  (f_Forms_isForm a1).bind fun r1 =>
  if r1 = (0 : Int32) then
    (f_S_finding c_t_found (-1000000001 : Int32)).bind fun r6 =>
    some (r6.1, r6.2)
  else
    (f_Book_nearest c_t_plain_book_forms a1).bind fun r3 =>
    if (0 : Int32) ≤ r3 then
      some (r3, c_t_found)
    else
      (f_S_finding c_t_found (-1000000004 : Int32)).bind fun r5 =>
      some (r5.1, r5.2)
def f_Book_countAsNear_b16  (c_t_forms : (Nat → Int32)) (a1 : Int32) (a2 : Int32) : Nat → Int32 → Int32 → Int32 → Option (Int32)
  | 0, _, _, _ => none
  | n + 1, v3, v4, v5 =>
    if (26 : Int32) ≤ v5 then
      some v4
    else
      (rd c_t_forms 26 v5).bind fun r2 =>
      if r2 = (0 : Int32) then
        f_Book_countAsNear_b16  c_t_forms a1 a2 n v3 v4 (v5 + (1))
      else
        (rd c_t_forms 26 v5).bind fun r4 =>
        (f_Forms_differ r4 a1).bind fun r5 =>
        if r5 = v3 then
          f_Book_countAsNear_b16  c_t_forms a1 a2 n v3 (v4 + (1)) (v5 + (1))
        else
          f_Book_countAsNear_b16  c_t_forms a1 a2 n v3 v4 (v5 + (1))
def f_Book_countAsNear (c_t_forms : (Nat → Int32)) (a1 : Int32) (a2 : Int32) : Option (Int32) :=
  (f_Book_formAt c_t_forms a2).bind fun r7 =>
  (f_Forms_differ r7 a1).bind fun r8 =>
  f_Book_countAsNear_b16  c_t_forms a1 a2 5000 r8 (0 : Int32) (0 : Int32)
def f_S_doubts (c_t_found : (Nat → Int32)) (c_t_plain_book_forms : (Nat → Int32)) (a1 : Int32) : Option (Int32 × (Nat → Int32)) :=
  (f_Forms_isForm a1).bind fun r1 =>
  if r1 = (0 : Int32) then
    (f_S_finding c_t_found (-1000000001 : Int32)).bind fun r7 =>
    some (r7.1, r7.2)
  else
    (f_Book_nearest c_t_plain_book_forms a1).bind fun r3 =>
    if (0 : Int32) ≤ r3 then
      (f_Book_countAsNear c_t_plain_book_forms a1 r3).bind fun r5 =>
      some (r5, c_t_found)
    else
      (f_S_finding c_t_found (-1000000004 : Int32)).bind fun r6 =>
      some (r6.1, r6.2)
def f_Book_leastBetweenTwo_b62 (k4 : Int32 → Int32 → Option (Int32)) (k12 : Int32 → Int32 → Int32 → Option (Int32)) (c_t_forms : (Nat → Int32))  (v2 : Int32) (v3 : Int32) (v4 : Int32) : Option (Int32) :=
  k12 v4 v2 (v3 + (1))
def f_Book_leastBetweenTwo_b12 (k4 : Int32 → Int32 → Option (Int32)) (c_t_forms : (Nat → Int32))  : Nat → Int32 → Int32 → Int32 → Option (Int32)
  | 0, _, _, _ => none
  | n + 1, v1, v2, v3 =>
    if v2 ≤ v3 then
      k4 v1 (v2 + (1))
    else
      (rd c_t_forms 26 v2).bind fun r2 =>
      (rd c_t_forms 26 v3).bind fun r3 =>
      (f_Forms_differ r2 r3).bind fun r4 =>
      (rd c_t_forms 26 v2).bind fun r5 =>
      if r5 = (0 : Int32) then
        f_Book_leastBetweenTwo_b12 k4 c_t_forms n v1 v2 (v3 + (1))
      else
        (rd c_t_forms 26 v3).bind fun r7 =>
        if r7 = (0 : Int32) then
          f_Book_leastBetweenTwo_b12 k4 c_t_forms n v1 v2 (v3 + (1))
        else
          if v1 < (0 : Int32) then
            f_Book_leastBetweenTwo_b62 k4 (f_Book_leastBetweenTwo_b12 k4 c_t_forms n) c_t_forms v2 v3 r4
          else
            if v1 ≤ r4 then
              f_Book_leastBetweenTwo_b12 k4 c_t_forms n v1 v2 (v3 + (1))
            else
              f_Book_leastBetweenTwo_b62 k4 (f_Book_leastBetweenTwo_b12 k4 c_t_forms n) c_t_forms v2 v3 r4
def f_Book_leastBetweenTwo_b4  (c_t_forms : (Nat → Int32))  : Nat → Int32 → Int32 → Option (Int32)
  | 0, _, _ => none
  | n + 1, v1, v2 =>
    if (26 : Int32) ≤ v2 then
      some v1
    else
      f_Book_leastBetweenTwo_b12 (f_Book_leastBetweenTwo_b4  c_t_forms n) c_t_forms 5000 v1 v2 (0 : Int32)
def f_Book_leastBetweenTwo (c_t_forms : (Nat → Int32))  : Option (Int32) :=
  f_Book_leastBetweenTwo_b4  c_t_forms 5000 (-1 : Int32) (0 : Int32)
def f_S_apart (c_t_found : (Nat → Int32)) (c_t_plain_book_forms : (Nat → Int32))  : Option (Int32 × (Nat → Int32)) :=
  (f_Book_leastBetweenTwo c_t_plain_book_forms).bind fun r1 =>
  if (0 : Int32) ≤ r1 then
    some (r1, c_t_found)
  else
    (f_S_finding c_t_found (-1000000004 : Int32)).bind fun r3 =>
    some (r3.1, r3.2)
def f_Book_signsThatStay_b4  (c_t_forms : (Nat → Int32)) (a1 : Int32) : Nat → Int32 → Int32 → Option (Int32)
  | 0, _, _ => none
  | n + 1, v2, v3 =>
    if (26 : Int32) ≤ v3 then
      some v2
    else
      (rd c_t_forms 26 v3).bind fun r2 =>
      if r2 = (0 : Int32) then
        f_Book_signsThatStay_b4  c_t_forms a1 n v2 (v3 + (1))
      else
        (rd c_t_forms 26 v3).bind fun r4 =>
        (f_Book_nearest c_t_forms (r4 &&& (a1 ^^^ (-1 : Int32)))).bind fun r5 =>
        if r5 = v3 then
          f_Book_signsThatStay_b4  c_t_forms a1 n (v2 ||| ((1 : Int32) <<< (v3 &&& 31))) (v3 + (1))
        else
          f_Book_signsThatStay_b4  c_t_forms a1 n v2 (v3 + (1))
def f_Book_signsThatStay (c_t_forms : (Nat → Int32)) (a1 : Int32) : Option (Int32) :=
  f_Book_signsThatStay_b4  c_t_forms a1 5000 (0 : Int32) (0 : Int32)
def f_S_stay (c_t_plain_sunny : Int32) (c_t_plain_book_forms : (Nat → Int32))  : Option (Int32) :=
  (f_Book_signsThatStay c_t_plain_book_forms c_t_plain_sunny).bind fun r1 =>
  some r1
def f_Book_isReadAs_b33 (k13 : Int32 → Int32 → Option (Int32)) (c_t_forms : (Nat → Int32)) (a1 : Int32) (a2 : Int32) (v3 : Int32) (v4 : Int32) (s0 : Int32) : Option (Int32) :=
  (rd c_t_forms 26 v4).bind fun r1 =>
  if r1 = (0 : Int32) then
    k13 v3 (v4 + (1))
  else
    (rd c_t_forms 26 v4).bind fun r3 =>
    (f_Forms_differ r3 a1).bind fun r4 =>
    if s0 ≤ r4 then
      k13 v3 (v4 + (1))
    else
      some (0 : Int32)
def f_Book_isReadAs_b13  (c_t_forms : (Nat → Int32)) (a1 : Int32) (a2 : Int32) : Nat → Int32 → Int32 → Option (Int32)
  | 0, _, _ => none
  | n + 1, v3, v4 =>
    if (26 : Int32) ≤ v4 then
      some (1 : Int32)
    else
      if a2 ≤ v4 then
        f_Book_isReadAs_b33 (f_Book_isReadAs_b13  c_t_forms a1 a2 n) c_t_forms a1 a2 v3 v4 v3
      else
        f_Book_isReadAs_b33 (f_Book_isReadAs_b13  c_t_forms a1 a2 n) c_t_forms a1 a2 v3 v4 (v3 + (1 : Int32))
def f_Book_isReadAs (c_t_forms : (Nat → Int32)) (a1 : Int32) (a2 : Int32) : Option (Int32) :=
  (f_Book_formAt c_t_forms a2).bind fun r8 =>
  (f_Forms_differ r8 a1).bind fun r9 =>
  f_Book_isReadAs_b13  c_t_forms a1 a2 5000 r9 (0 : Int32)
def f_Book_fewestToForge_b81 (k44 : Int32 → Int32 → Int32 → Int32 → Int32 → Option (Int32)) (c_t_forms : (Nat → Int32)) (a1 : Int32) (a2 : Int32) (v3 : Int32) (v5 : Int32) (v6 : Int32) (v7 : Int32) (v8 : Int32) : Option (Int32) :=
  (f_Forms_nextPart v7 v5).bind fun r1 =>
  if r1 = (0 : Int32) then
    some v6
  else
    k44 v3 v5 v6 r1 (v8 + (1))
def f_Book_fewestToForge_b44  (c_t_forms : (Nat → Int32)) (a1 : Int32) (a2 : Int32) : Nat → Int32 → Int32 → Int32 → Int32 → Int32 → Option (Int32)
  | 0, _, _, _, _, _ => none
  | n + 1, v3, v5, v6, v7, v8 =>
    if (4095 : Int32) < v8 then
      some v6
    else
      (f_Int_bitCount v7).bind fun r4 =>
      if v6 ≤ r4 then
        f_Book_fewestToForge_b81 (f_Book_fewestToForge_b44  c_t_forms a1 a2 n) c_t_forms a1 a2 v3 v5 v6 v7 v8
      else
        (f_Book_isReadAs c_t_forms (v3 ^^^ v7) a2).bind fun r6 =>
        if r6 = (0 : Int32) then
          f_Book_fewestToForge_b81 (f_Book_fewestToForge_b44  c_t_forms a1 a2 n) c_t_forms a1 a2 v3 v5 v6 v7 v8
        else
          (f_Int_bitCount v7).bind fun r8 =>
          f_Book_fewestToForge_b81 (f_Book_fewestToForge_b44  c_t_forms a1 a2 n) c_t_forms a1 a2 v3 v5 r8 v7 v8
def f_Book_fewestToForge (c_t_forms : (Nat → Int32)) (a1 : Int32) (a2 : Int32) : Option (Int32) :=
  (f_Book_formAt c_t_forms a1).bind fun r9 =>
  (f_Book_formAt c_t_forms a2).bind fun r10 =>
  (f_Book_nearest c_t_forms r10).bind fun r11 =>
  if r11 = a2 then
    (f_Int_bitCount (r9 ^^^ r10)).bind fun r13 =>
    f_Book_fewestToForge_b44  c_t_forms a1 a2 5000 r9 (r9 ^^^ r10) r13 (0 : Int32) (0 : Int32)
  else
    some (-1 : Int32)
def f_S_forge_b19  (c_t_plain_book_forms : (Nat → Int32)) (a1 : Int32) (a2 : Int32) (c_t_found : (Nat → Int32)) : Option (Int32 × (Nat → Int32)) :=
  (f_S_finding c_t_found (-1000000001 : Int32)).bind fun r1 =>
  some (r1.1, r1.2)
def f_S_forge_b54  (c_t_plain_book_forms : (Nat → Int32)) (a1 : Int32) (a2 : Int32) (c_t_found : (Nat → Int32)) : Option (Int32 × (Nat → Int32)) :=
  (f_S_finding c_t_found (-1000000005 : Int32)).bind fun r2 =>
  some (r2.1, r2.2)
def f_S_forge (c_t_found : (Nat → Int32)) (c_t_plain_book_forms : (Nat → Int32)) (a1 : Int32) (a2 : Int32) : Option (Int32 × (Nat → Int32)) :=
  (f_Book_isSign a1).bind fun r3 =>
  if r3 = (0 : Int32) then
    f_S_forge_b19  c_t_plain_book_forms a1 a2 c_t_found
  else
    (f_Book_isSign a2).bind fun r5 =>
    if r5 = (0 : Int32) then
      f_S_forge_b19  c_t_plain_book_forms a1 a2 c_t_found
    else
      if a1 = a2 then
        f_S_forge_b19  c_t_plain_book_forms a1 a2 c_t_found
      else
        (f_Book_formAt c_t_plain_book_forms a1).bind fun r8 =>
        if r8 = (0 : Int32) then
          f_S_forge_b54  c_t_plain_book_forms a1 a2 c_t_found
        else
          (f_Book_formAt c_t_plain_book_forms a2).bind fun r10 =>
          if r10 = (0 : Int32) then
            f_S_forge_b54  c_t_plain_book_forms a1 a2 c_t_found
          else
            (f_Book_fewestToForge c_t_plain_book_forms a1 a2).bind fun r12 =>
            if (0 : Int32) ≤ r12 then
              some (r12, c_t_found)
            else
              (f_S_finding c_t_found (-1000000004 : Int32)).bind fun r14 =>
              some (r14.1, r14.2)
def f_Kinds_isKind  (a0 : Int32) : Option (Int32) :=
  if a0 < (0 : Int32) then
    some (0 : Int32)
  else
    if (6 : Int32) ≤ a0 then
      some (0 : Int32)
    else
      some (1 : Int32)
def f_Plain_isFull (c_t_size : Int32)  : Option (Int32) :=
  if c_t_size < (12 : Int32) then
    some (0 : Int32)
  else
    some (1 : Int32)
def f_Plain_add (c_t_size : Int32) (c_t_deeps : (Nat → Int32)) (c_t_forms : (Nat → Int32)) (c_t_kinds : (Nat → Int32)) (a1 : Int32) (a2 : Int32) (a3 : Int32) : Option (Int32 × Int32 × (Nat → Int32) × (Nat → Int32) × (Nat → Int32)) :=
  (f_Plain_isFull c_t_size).bind fun r1 =>
  if r1 = (0 : Int32) then
    (wr c_t_kinds 12 c_t_size a1).bind fun r3 =>
    (wr c_t_forms 12 c_t_size a2).bind fun r4 =>
    (wr c_t_deeps 12 c_t_size a3).bind fun r5 =>
    some (((c_t_size + (1 : Int32)) - (1 : Int32)), (c_t_size + (1 : Int32)), r5, r4, r3)
  else
    some ((-1 : Int32), c_t_size, c_t_deeps, c_t_forms, c_t_kinds)
def f_S_letter_b14   (a1 : Int32) (a2 : Int32) (c_t_found : (Nat → Int32)) (c_t_plain_size : Int32) (c_t_plain_deeps : (Nat → Int32)) (c_t_plain_forms : (Nat → Int32)) (c_t_plain_kinds : (Nat → Int32)) : Option (Int32 × (Nat → Int32) × Int32 × (Nat → Int32) × (Nat → Int32) × (Nat → Int32)) :=
  (f_S_finding c_t_found (-1000000001 : Int32)).bind fun r1 =>
  some (r1.1, r1.2, c_t_plain_size, c_t_plain_deeps, c_t_plain_forms, c_t_plain_kinds)
def f_S_letter (c_t_found : (Nat → Int32)) (c_t_plain_size : Int32) (c_t_plain_deeps : (Nat → Int32)) (c_t_plain_forms : (Nat → Int32)) (c_t_plain_kinds : (Nat → Int32)) (a1 : Int32) (a2 : Int32) : Option (Int32 × (Nat → Int32) × Int32 × (Nat → Int32) × (Nat → Int32) × (Nat → Int32)) :=
  (f_Kinds_isKind a1).bind fun r2 =>
  if r2 = (0 : Int32) then
    f_S_letter_b14  a1 a2 c_t_found c_t_plain_size c_t_plain_deeps c_t_plain_forms c_t_plain_kinds
  else
    (f_Forms_isForm a2).bind fun r4 =>
    if r4 = (0 : Int32) then
      f_S_letter_b14  a1 a2 c_t_found c_t_plain_size c_t_plain_deeps c_t_plain_forms c_t_plain_kinds
    else
      (f_Plain_isFull c_t_plain_size).bind fun r6 =>
      if r6 = (0 : Int32) then
        (f_Plain_add c_t_plain_size c_t_plain_deeps c_t_plain_forms c_t_plain_kinds a1 a2 (6 : Int32)).bind fun r8 =>
        some (r8.1, c_t_found, r8.2.1, r8.2.2.1, r8.2.2.2.1, r8.2.2.2.2)
      else
        (f_S_finding c_t_found (-1000000002 : Int32)).bind fun r9 =>
        some (r9.1, r9.2, c_t_plain_size, c_t_plain_deeps, c_t_plain_forms, c_t_plain_kinds)
def f_Kinds_feet  (a0 : Int32) (a1 : Int32) : Option (Int32) :=
  (f_Int_bitCount a1).bind fun r1 =>
  (f_Forms_countStrays a1).bind fun r2 =>
  if a0 = (1 : Int32) then
    some ((2 : Int32) * (r1 + r2))
  else
  if a0 = (2 : Int32) then
    some (r1 + r2)
  else
  if a0 = (3 : Int32) then
    some ((r1 + r2) + (2 : Int32))
  else
  if a0 = (4 : Int32) then
    some (((2 : Int32) * (r1 + r2)) + (2 : Int32))
  else
  some (r1 + r2)
def f_Plain_feetOf (c_t_forms : (Nat → Int32)) (c_t_kinds : (Nat → Int32)) (a1 : Int32) : Option (Int32) :=
  (rd c_t_kinds 12 a1).bind fun r1 =>
  (rd c_t_forms 12 a1).bind fun r2 =>
  (f_Kinds_feet r1 r2).bind fun r3 =>
  some r3
def f_Plain_has (c_t_size : Int32) (a1 : Int32) : Option (Int32) :=
  if a1 < (0 : Int32) then
    some (0 : Int32)
  else
    if c_t_size ≤ a1 then
      some (0 : Int32)
    else
      some (1 : Int32)
def f_Kinds_lasts  (a0 : Int32) (a1 : Int32) : Option (Int32) :=
  if a0 = (1 : Int32) then
    some ((2 : Int32) * a1)
  else
  if a0 = (2 : Int32) then
    some (a1 / (2 : Int32))
  else
  if a0 = (3 : Int32) then
    some a1
  else
  if a0 = (4 : Int32) then
    some ((2 : Int32) * a1)
  else
  if a0 = (5 : Int32) then
    some ((a1 / (2 : Int32)) + (4 : Int32))
  else
  some a1
def f_Plain_lastsOf (c_t_deeps : (Nat → Int32)) (c_t_kinds : (Nat → Int32)) (a1 : Int32) : Option (Int32) :=
  (rd c_t_kinds 12 a1).bind fun r1 =>
  (rd c_t_deeps 12 a1).bind fun r2 =>
  (f_Kinds_lasts r1 r2).bind fun r3 =>
  some r3
def f_Kinds_shows  (a0 : Int32) (a1 : Int32) : Option (Int32) :=
  if a0 = (3 : Int32) then
    some (a1 ||| (12 : Int32))
  else
  if a0 = (4 : Int32) then
    some (a1 ||| (48 : Int32))
  else
  some a1
def f_Plain_shownAt_b31  (c_t_sunny : Int32) (c_t_deeps : (Nat → Int32)) (c_t_forms : (Nat → Int32)) (c_t_kinds : (Nat → Int32)) (a1 : Int32) (a2 : Int32) (s0 : Int32) : Option (Int32) :=
  (rd c_t_kinds 12 a1).bind fun r1 =>
  (f_Kinds_shows r1 s0).bind fun r2 =>
  some r2
def f_Plain_shownAt (c_t_sunny : Int32) (c_t_deeps : (Nat → Int32)) (c_t_forms : (Nat → Int32)) (c_t_kinds : (Nat → Int32)) (a1 : Int32) (a2 : Int32) : Option (Int32) :=
  (f_Plain_lastsOf c_t_deeps c_t_kinds a1).bind fun r3 =>
  if r3 ≤ a2 then
    (rd c_t_forms 12 a1).bind fun r5 =>
    f_Plain_shownAt_b31  c_t_sunny c_t_deeps c_t_forms c_t_kinds a1 a2 (r5 &&& (c_t_sunny ^^^ (-1 : Int32)))
  else
    (rd c_t_forms 12 a1).bind fun r6 =>
    f_Plain_shownAt_b31  c_t_sunny c_t_deeps c_t_forms c_t_kinds a1 a2 r6
def f_Plain_seenAs (c_t_hour : Int32) (c_t_sunny : Int32) (c_t_book_forms : (Nat → Int32)) (c_t_deeps : (Nat → Int32)) (c_t_forms : (Nat → Int32)) (c_t_kinds : (Nat → Int32)) (a1 : Int32) : Option (Int32) :=
  (f_Plain_shownAt c_t_sunny c_t_deeps c_t_forms c_t_kinds a1 c_t_hour).bind fun r1 =>
  (f_Book_nearest c_t_book_forms r1).bind fun r2 =>
  some r2
def f_S_of (c_t_found : (Nat → Int32)) (c_t_plain_size : Int32) (c_t_plain_hour : Int32) (c_t_plain_sunny : Int32) (c_t_plain_book_forms : (Nat → Int32)) (c_t_plain_deeps : (Nat → Int32)) (c_t_plain_forms : (Nat → Int32)) (c_t_plain_kinds : (Nat → Int32)) (a1 : Int32) (a2 : Int32) : Option (Int32 × (Nat → Int32)) :=
  (f_Plain_has c_t_plain_size a1).bind fun r1 =>
  if r1 = (0 : Int32) then
    (f_S_finding c_t_found (-1000000001 : Int32)).bind fun r14 =>
    some (r14.1, r14.2)
  else
    if a2 = (0 : Int32) then
      (rd c_t_plain_kinds 12 a1).bind fun r4 =>
      some (r4, c_t_found)
    else
    if a2 = (1 : Int32) then
      (rd c_t_plain_forms 12 a1).bind fun r5 =>
      some (r5, c_t_found)
    else
    if a2 = (2 : Int32) then
      (rd c_t_plain_deeps 12 a1).bind fun r6 =>
      some (r6, c_t_found)
    else
    if a2 = (3 : Int32) then
      (f_Plain_lastsOf c_t_plain_deeps c_t_plain_kinds a1).bind fun r7 =>
      some (r7, c_t_found)
    else
    if a2 = (4 : Int32) then
      (f_Plain_shownAt c_t_plain_sunny c_t_plain_deeps c_t_plain_forms c_t_plain_kinds a1 c_t_plain_hour).bind fun r8 =>
      some (r8, c_t_found)
    else
    if a2 = (5 : Int32) then
      (f_Plain_feetOf c_t_plain_forms c_t_plain_kinds a1).bind fun r9 =>
      some (r9, c_t_found)
    else
    if a2 = (6 : Int32) then
      (rd c_t_plain_forms 12 a1).bind fun r10 =>
      (f_Book_nearest c_t_plain_book_forms r10).bind fun r11 =>
      some (r11, c_t_found)
    else
    if a2 = (7 : Int32) then
      (f_Plain_seenAs c_t_plain_hour c_t_plain_sunny c_t_plain_book_forms c_t_plain_deeps c_t_plain_forms c_t_plain_kinds a1).bind fun r12 =>
      some (r12, c_t_found)
    else
    (f_S_finding c_t_found (-1000000001 : Int32)).bind fun r13 =>
    some (r13.1, r13.2)
def f_S_set_b92  (c_t_plain_size : Int32) (a1 : Int32) (a2 : Int32) (a3 : Int32) (c_t_found : (Nat → Int32)) (c_t_plain_deeps : (Nat → Int32)) (c_t_plain_forms : (Nat → Int32)) : Option (Int32 × (Nat → Int32) × (Nat → Int32) × (Nat → Int32)) :=
  (f_S_finding c_t_found (-1000000001 : Int32)).bind fun r1 =>
  some (r1.1, r1.2, c_t_plain_deeps, c_t_plain_forms)
def f_S_set_b54  (c_t_plain_size : Int32) (a1 : Int32) (a2 : Int32) (a3 : Int32) (c_t_found : (Nat → Int32)) (c_t_plain_deeps : (Nat → Int32)) (c_t_plain_forms : (Nat → Int32)) : Option (Int32 × (Nat → Int32) × (Nat → Int32) × (Nat → Int32)) :=
  if a2 = (2 : Int32) then
    (f_S_isWithin a3 (99 : Int32)).bind fun r3 =>
    if r3 = (0 : Int32) then
      f_S_set_b92  c_t_plain_size a1 a2 a3 c_t_found c_t_plain_deeps c_t_plain_forms
    else
      (rd c_t_plain_deeps 12 a1).bind fun r5 =>
      (wr c_t_plain_deeps 12 a1 a3).bind fun r6 =>
      some (r5, c_t_found, r6, c_t_plain_forms)
  else
    f_S_set_b92  c_t_plain_size a1 a2 a3 c_t_found c_t_plain_deeps c_t_plain_forms
def f_S_set (c_t_found : (Nat → Int32)) (c_t_plain_size : Int32) (c_t_plain_deeps : (Nat → Int32)) (c_t_plain_forms : (Nat → Int32)) (a1 : Int32) (a2 : Int32) (a3 : Int32) : Option (Int32 × (Nat → Int32) × (Nat → Int32) × (Nat → Int32)) :=
  (f_Plain_has c_t_plain_size a1).bind fun r7 =>
  if r7 = (0 : Int32) then
    (f_S_finding c_t_found (-1000000001 : Int32)).bind fun r14 =>
    some (r14.1, r14.2, c_t_plain_deeps, c_t_plain_forms)
  else
    if a2 = (1 : Int32) then
      (f_Forms_isForm a3).bind fun r10 =>
      if r10 = (0 : Int32) then
        f_S_set_b54  c_t_plain_size a1 a2 a3 c_t_found c_t_plain_deeps c_t_plain_forms
      else
        (rd c_t_plain_forms 12 a1).bind fun r12 =>
        (wr c_t_plain_forms 12 a1 a3).bind fun r13 =>
        some (r12, c_t_found, c_t_plain_deeps, r13)
    else
      f_S_set_b54  c_t_plain_size a1 a2 a3 c_t_found c_t_plain_deeps c_t_plain_forms
def f_S_turn_b18  (c_t_plain_size : Int32) (a1 : Int32) (a2 : Int32) (c_t_found : (Nat → Int32)) (c_t_plain_kinds : (Nat → Int32)) : Option (Int32 × (Nat → Int32) × (Nat → Int32)) :=
  (f_S_finding c_t_found (-1000000001 : Int32)).bind fun r1 =>
  some (r1.1, r1.2, c_t_plain_kinds)
def f_S_turn (c_t_found : (Nat → Int32)) (c_t_plain_size : Int32) (c_t_plain_kinds : (Nat → Int32)) (a1 : Int32) (a2 : Int32) : Option (Int32 × (Nat → Int32) × (Nat → Int32)) :=
  (f_Plain_has c_t_plain_size a1).bind fun r2 =>
  if r2 = (0 : Int32) then
    f_S_turn_b18  c_t_plain_size a1 a2 c_t_found c_t_plain_kinds
  else
    (f_Kinds_isKind a2).bind fun r4 =>
    if r4 = (0 : Int32) then
      f_S_turn_b18  c_t_plain_size a1 a2 c_t_found c_t_plain_kinds
    else
      (rd c_t_plain_kinds 12 a1).bind fun r6 =>
      (wr c_t_plain_kinds 12 a1 a2).bind fun r7 =>
      some (r6, c_t_found, r7)
def f_Kinds_above  (a0 : Int32) : Option (Int32) :=
  if a0 = (1 : Int32) then
    some (0 : Int32)
  else
  if a0 = (2 : Int32) then
    some (0 : Int32)
  else
  if a0 = (3 : Int32) then
    some (0 : Int32)
  else
  if a0 = (4 : Int32) then
    some (1 : Int32)
  else
  if a0 = (5 : Int32) then
    some (2 : Int32)
  else
  some (-1 : Int32)
def f_Kinds_isUnder_b4   (a0 : Int32) (a1 : Int32) : Nat → Int32 → Int32 → Option (Int32)
  | 0, _, _ => none
  | n + 1, v2, v3 =>
    if (6 : Int32) ≤ v3 then
      some (0 : Int32)
    else
      if v2 < (0 : Int32) then
        some (0 : Int32)
      else
        if v2 = a1 then
          some (1 : Int32)
        else
          (f_Kinds_above v2).bind fun r4 =>
          f_Kinds_isUnder_b4  a0 a1 n r4 (v3 + (1))
def f_Kinds_isUnder  (a0 : Int32) (a1 : Int32) : Option (Int32) :=
  f_Kinds_isUnder_b4  a0 a1 5000 a0 (0 : Int32)
def f_S_as_b18  (c_t_plain_size : Int32) (c_t_plain_deeps : (Nat → Int32)) (c_t_plain_kinds : (Nat → Int32)) (a1 : Int32) (a2 : Int32) (c_t_found : (Nat → Int32)) : Option (Int32 × (Nat → Int32)) :=
  (f_S_finding c_t_found (-1000000001 : Int32)).bind fun r1 =>
  some (r1.1, r1.2)
def f_S_as (c_t_found : (Nat → Int32)) (c_t_plain_size : Int32) (c_t_plain_deeps : (Nat → Int32)) (c_t_plain_kinds : (Nat → Int32)) (a1 : Int32) (a2 : Int32) : Option (Int32 × (Nat → Int32)) :=
  (f_Plain_has c_t_plain_size a1).bind fun r2 =>
  if r2 = (0 : Int32) then
    f_S_as_b18  c_t_plain_size c_t_plain_deeps c_t_plain_kinds a1 a2 c_t_found
  else
    (f_Kinds_isKind a2).bind fun r4 =>
    if r4 = (0 : Int32) then
      f_S_as_b18  c_t_plain_size c_t_plain_deeps c_t_plain_kinds a1 a2 c_t_found
    else
      (rd c_t_plain_kinds 12 a1).bind fun r6 =>
      (f_Kinds_isUnder r6 a2).bind fun r7 =>
      if r7 = (0 : Int32) then
        (f_S_finding c_t_found (-1000000003 : Int32)).bind fun r10 =>
        some (r10.1, r10.2)
      else
        (rd c_t_plain_deeps 12 a1).bind fun r9 =>
        some (r9, c_t_found)
def f_S_sun (c_t_found : (Nat → Int32)) (c_t_plain_sunny : Int32) (a1 : Int32) : Option (Int32 × (Nat → Int32) × Int32) :=
  (f_Forms_isForm a1).bind fun r1 =>
  if r1 = (0 : Int32) then
    (f_S_finding c_t_found (-1000000001 : Int32)).bind fun r3 =>
    some (r3.1, r3.2, c_t_plain_sunny)
  else
    some (c_t_plain_sunny, c_t_found, a1)
def f_Plain_countChanged_b4  (c_t_size : Int32) (c_t_hour : Int32) (c_t_sunny : Int32) (c_t_deeps : (Nat → Int32)) (c_t_forms : (Nat → Int32)) (c_t_kinds : (Nat → Int32)) (a1 : Int32) : Nat → Int32 → Int32 → Option (Int32)
  | 0, _, _ => none
  | n + 1, v2, v3 =>
    if c_t_size ≤ v3 then
      some v2
    else
      (f_Plain_shownAt c_t_sunny c_t_deeps c_t_forms c_t_kinds v3 c_t_hour).bind fun r2 =>
      (f_Plain_shownAt c_t_sunny c_t_deeps c_t_forms c_t_kinds v3 a1).bind fun r3 =>
      if r2 = r3 then
        f_Plain_countChanged_b4  c_t_size c_t_hour c_t_sunny c_t_deeps c_t_forms c_t_kinds a1 n v2 (v3 + (1))
      else
        f_Plain_countChanged_b4  c_t_size c_t_hour c_t_sunny c_t_deeps c_t_forms c_t_kinds a1 n (v2 + (1)) (v3 + (1))
def f_Plain_countChanged (c_t_size : Int32) (c_t_hour : Int32) (c_t_sunny : Int32) (c_t_deeps : (Nat → Int32)) (c_t_forms : (Nat → Int32)) (c_t_kinds : (Nat → Int32)) (a1 : Int32) : Option (Int32) :=
  f_Plain_countChanged_b4  c_t_size c_t_hour c_t_sunny c_t_deeps c_t_forms c_t_kinds a1 5000 (0 : Int32) (0 : Int32)
def f_S_hours_b11  (c_t_plain_size : Int32) (c_t_plain_sunny : Int32) (c_t_plain_deeps : (Nat → Int32)) (c_t_plain_forms : (Nat → Int32)) (c_t_plain_kinds : (Nat → Int32)) (a1 : Int32) (c_t_found : (Nat → Int32)) (c_t_plain_hour : Int32) : Option (Int32 × (Nat → Int32) × Int32) :=
  (f_S_finding c_t_found (-1000000001 : Int32)).bind fun r1 =>
  some (r1.1, r1.2, c_t_plain_hour)
def f_S_hours (c_t_found : (Nat → Int32)) (c_t_plain_size : Int32) (c_t_plain_hour : Int32) (c_t_plain_sunny : Int32) (c_t_plain_deeps : (Nat → Int32)) (c_t_plain_forms : (Nat → Int32)) (c_t_plain_kinds : (Nat → Int32)) (a1 : Int32) : Option (Int32 × (Nat → Int32) × Int32) :=
  if a1 < (1 : Int32) then
    f_S_hours_b11  c_t_plain_size c_t_plain_sunny c_t_plain_deeps c_t_plain_forms c_t_plain_kinds a1 c_t_found c_t_plain_hour
  else
    if a1 ≤ (99 : Int32) then
      if (c_t_plain_hour + a1) ≤ (999 : Int32) then
        (f_Plain_countChanged c_t_plain_size c_t_plain_hour c_t_plain_sunny c_t_plain_deeps c_t_plain_forms c_t_plain_kinds (c_t_plain_hour + a1)).bind fun r5 =>
        some (r5, c_t_found, (c_t_plain_hour + a1))
      else
        (f_S_finding c_t_found (-1000000005 : Int32)).bind fun r6 =>
        some (r6.1, r6.2, c_t_plain_hour)
    else
      f_S_hours_b11  c_t_plain_size c_t_plain_sunny c_t_plain_deeps c_t_plain_forms c_t_plain_kinds a1 c_t_found c_t_plain_hour
def f_Plain_feetOfAll_b4  (c_t_size : Int32) (c_t_forms : (Nat → Int32)) (c_t_kinds : (Nat → Int32))  : Nat → Int32 → Int32 → Option (Int32)
  | 0, _, _ => none
  | n + 1, v1, v2 =>
    if c_t_size ≤ v2 then
      some v1
    else
      (f_Plain_feetOf c_t_forms c_t_kinds v2).bind fun r2 =>
      f_Plain_feetOfAll_b4  c_t_size c_t_forms c_t_kinds n (v1 + r2) (v2 + (1))
def f_Plain_feetOfAll (c_t_size : Int32) (c_t_forms : (Nat → Int32)) (c_t_kinds : (Nat → Int32))  : Option (Int32) :=
  f_Plain_feetOfAll_b4  c_t_size c_t_forms c_t_kinds 5000 (0 : Int32) (0 : Int32)
def f_Plain_isMisreadAt (c_t_sunny : Int32) (c_t_book_forms : (Nat → Int32)) (c_t_deeps : (Nat → Int32)) (c_t_forms : (Nat → Int32)) (c_t_kinds : (Nat → Int32)) (a1 : Int32) (a2 : Int32) : Option (Int32) :=
  (f_Plain_shownAt c_t_sunny c_t_deeps c_t_forms c_t_kinds a1 a2).bind fun r1 =>
  (f_Book_nearest c_t_book_forms r1).bind fun r2 =>
  (rd c_t_forms 12 a1).bind fun r3 =>
  (f_Book_nearest c_t_book_forms r3).bind fun r4 =>
  if r2 = r4 then
    some (0 : Int32)
  else
    some (1 : Int32)
def f_Plain_lettersMisread_b4  (c_t_size : Int32) (c_t_hour : Int32) (c_t_sunny : Int32) (c_t_book_forms : (Nat → Int32)) (c_t_deeps : (Nat → Int32)) (c_t_forms : (Nat → Int32)) (c_t_kinds : (Nat → Int32))  : Nat → Int32 → Int32 → Option (Int32)
  | 0, _, _ => none
  | n + 1, v1, v2 =>
    if c_t_size ≤ v2 then
      some v1
    else
      (f_Plain_isMisreadAt c_t_sunny c_t_book_forms c_t_deeps c_t_forms c_t_kinds v2 c_t_hour).bind fun r2 =>
      if r2 = (0 : Int32) then
        f_Plain_lettersMisread_b4  c_t_size c_t_hour c_t_sunny c_t_book_forms c_t_deeps c_t_forms c_t_kinds n v1 (v2 + (1))
      else
        f_Plain_lettersMisread_b4  c_t_size c_t_hour c_t_sunny c_t_book_forms c_t_deeps c_t_forms c_t_kinds n (v1 ||| ((1 : Int32) <<< (v2 &&& 31))) (v2 + (1))
def f_Plain_lettersMisread (c_t_size : Int32) (c_t_hour : Int32) (c_t_sunny : Int32) (c_t_book_forms : (Nat → Int32)) (c_t_deeps : (Nat → Int32)) (c_t_forms : (Nat → Int32)) (c_t_kinds : (Nat → Int32))  : Option (Int32) :=
  f_Plain_lettersMisread_b4  c_t_size c_t_hour c_t_sunny c_t_book_forms c_t_deeps c_t_forms c_t_kinds 5000 (0 : Int32) (0 : Int32)
def f_S_now (c_t_found : (Nat → Int32)) (c_t_plain_size : Int32) (c_t_plain_hour : Int32) (c_t_plain_sunny : Int32) (c_t_plain_book_forms : (Nat → Int32)) (c_t_plain_deeps : (Nat → Int32)) (c_t_plain_forms : (Nat → Int32)) (c_t_plain_kinds : (Nat → Int32)) (a1 : Int32) : Option (Int32 × (Nat → Int32)) :=
  if a1 = (0 : Int32) then
    some (c_t_plain_hour, c_t_found)
  else
  if a1 = (1 : Int32) then
    some (c_t_plain_sunny, c_t_found)
  else
  if a1 = (2 : Int32) then
    (f_Plain_feetOfAll c_t_plain_size c_t_plain_forms c_t_plain_kinds).bind fun r2 =>
    some (r2, c_t_found)
  else
  if a1 = (3 : Int32) then
    (f_Plain_lettersMisread c_t_plain_size c_t_plain_hour c_t_plain_sunny c_t_plain_book_forms c_t_plain_deeps c_t_plain_forms c_t_plain_kinds).bind fun r3 =>
    some (r3, c_t_found)
  else
  (f_S_finding c_t_found (-1000000001 : Int32)).bind fun r4 =>
  some (r4.1, r4.2)
def f_S_on_b20  (c_t_plain_size : Int32) (c_t_plain_hour : Int32) (c_t_plain_sunny : Int32) (c_t_plain_deeps : (Nat → Int32)) (c_t_plain_forms : (Nat → Int32)) (c_t_plain_kinds : (Nat → Int32)) (a1 : Int32) (a2 : Int32) (c_t_found : (Nat → Int32)) : Option (Int32 × (Nat → Int32)) :=
  (f_S_finding c_t_found (-1000000001 : Int32)).bind fun r1 =>
  some (r1.1, r1.2)
def f_S_on (c_t_found : (Nat → Int32)) (c_t_plain_size : Int32) (c_t_plain_hour : Int32) (c_t_plain_sunny : Int32) (c_t_plain_deeps : (Nat → Int32)) (c_t_plain_forms : (Nat → Int32)) (c_t_plain_kinds : (Nat → Int32)) (a1 : Int32) (a2 : Int32) : Option (Int32 × (Nat → Int32)) :=
  (f_Plain_has c_t_plain_size a1).bind fun r2 =>
  if r2 = (0 : Int32) then
    f_S_on_b20  c_t_plain_size c_t_plain_hour c_t_plain_sunny c_t_plain_deeps c_t_plain_forms c_t_plain_kinds a1 a2 c_t_found
  else
    (f_S_isWithin a2 (99 : Int32)).bind fun r4 =>
    if r4 = (0 : Int32) then
      f_S_on_b20  c_t_plain_size c_t_plain_hour c_t_plain_sunny c_t_plain_deeps c_t_plain_forms c_t_plain_kinds a1 a2 c_t_found
    else
      if (c_t_plain_hour + a2) ≤ (999 : Int32) then
        (f_Plain_shownAt c_t_plain_sunny c_t_plain_deeps c_t_plain_forms c_t_plain_kinds a1 (c_t_plain_hour + a2)).bind fun r7 =>
        some (r7, c_t_found)
      else
        (f_S_finding c_t_found (-1000000005 : Int32)).bind fun r8 =>
        some (r8.1, r8.2)
def f_S_when_b40  (c_t_plain_size : Int32) (c_t_plain_hour : Int32) (c_t_plain_sunny : Int32) (c_t_plain_book_forms : (Nat → Int32)) (c_t_plain_deeps : (Nat → Int32)) (c_t_plain_forms : (Nat → Int32)) (c_t_plain_kinds : (Nat → Int32)) (a1 : Int32) : Nat → (Nat → Int32) → Int32 → Option (Int32 × (Nat → Int32))
  | 0, _, _ => none
  | n + 1, c_t_found, v2 =>
    if (99 : Int32) < v2 then
      (f_S_finding c_t_found (-1000000004 : Int32)).bind fun r2 =>
      some (r2.1, r2.2)
    else
      (f_Plain_isMisreadAt c_t_plain_sunny c_t_plain_book_forms c_t_plain_deeps c_t_plain_forms c_t_plain_kinds a1 (c_t_plain_hour + v2)).bind fun r3 =>
      if r3 = (0 : Int32) then
        f_S_when_b40  c_t_plain_size c_t_plain_hour c_t_plain_sunny c_t_plain_book_forms c_t_plain_deeps c_t_plain_forms c_t_plain_kinds a1 n c_t_found (v2 + (1))
      else
        some (v2, c_t_found)
def f_S_when (c_t_found : (Nat → Int32)) (c_t_plain_size : Int32) (c_t_plain_hour : Int32) (c_t_plain_sunny : Int32) (c_t_plain_book_forms : (Nat → Int32)) (c_t_plain_deeps : (Nat → Int32)) (c_t_plain_forms : (Nat → Int32)) (c_t_plain_kinds : (Nat → Int32)) (a1 : Int32) : Option (Int32 × (Nat → Int32)) :=
  (f_Plain_has c_t_plain_size a1).bind fun r5 =>
  if r5 = (0 : Int32) then
    (f_S_finding c_t_found (-1000000001 : Int32)).bind fun r9 =>
    some (r9.1, r9.2)
  else
    if c_t_plain_hour ≤ (900 : Int32) then
      f_S_when_b40  c_t_plain_size c_t_plain_hour c_t_plain_sunny c_t_plain_book_forms c_t_plain_deeps c_t_plain_forms c_t_plain_kinds a1 5000 c_t_found (0 : Int32)
    else
      (f_S_finding c_t_found (-1000000005 : Int32)).bind fun r8 =>
      some (r8.1, r8.2)
def f_Kinds_lastsForFeet  (a0 : Int32) (a1 : Int32) (a2 : Int32) : Option (Int32) :=
  (f_Kinds_feet a0 a1).bind fun r1 =>
  if r1 ≤ (0 : Int32) then
    some (0 : Int32)
  else
    (f_Kinds_lasts a0 a2).bind fun r3 =>
    (dv (r3 * (100 : Int32)) r1).bind fun q4 =>
    some q4
def f_Kinds_longestForFeet_b12   (a0 : Int32) (a1 : Int32) : Nat → Int32 → Int32 → Int32 → Option (Int32)
  | 0, _, _, _ => none
  | n + 1, v2, v3, v4 =>
    if (6 : Int32) ≤ v4 then
      some v2
    else
      (f_Kinds_lastsForFeet v4 a0 a1).bind fun r2 =>
      if r2 ≤ v3 then
        f_Kinds_longestForFeet_b12  a0 a1 n v2 v3 (v4 + (1))
      else
        f_Kinds_longestForFeet_b12  a0 a1 n v4 r2 (v4 + (1))
def f_Kinds_longestForFeet  (a0 : Int32) (a1 : Int32) : Option (Int32) :=
  (f_Kinds_lastsForFeet (0 : Int32) a0 a1).bind fun r4 =>
  f_Kinds_longestForFeet_b12  a0 a1 5000 (0 : Int32) r4 (1 : Int32)
def f_S_kind (c_t_found : (Nat → Int32)) (c_t_plain_size : Int32) (c_t_plain_deeps : (Nat → Int32)) (c_t_plain_forms : (Nat → Int32)) (a1 : Int32) : Option (Int32 × (Nat → Int32)) :=
  (f_Plain_has c_t_plain_size a1).bind fun r1 =>
  if r1 = (0 : Int32) then
    (f_S_finding c_t_found (-1000000001 : Int32)).bind fun r6 =>
    some (r6.1, r6.2)
  else
    (rd c_t_plain_forms 12 a1).bind fun r3 =>
    (rd c_t_plain_deeps 12 a1).bind fun r4 =>
    (f_Kinds_longestForFeet r3 r4).bind fun r5 =>
    some (r5, c_t_found)
def f_Choice_offer_b24   (a1 : Int32) (a2 : Int32) (c_t_chosen : Int32) (c_t_mostWorth : Int32) : Option (Int32 × Int32) :=
  some (a1, a2)
def f_Choice_offer (c_t_chosen : Int32) (c_t_mostWorth : Int32) (a1 : Int32) (a2 : Int32) : Option (Int32 × Int32) :=
  if c_t_mostWorth < a2 then
    f_Choice_offer_b24  a1 a2 c_t_chosen c_t_mostWorth
  else
    if a2 = c_t_mostWorth then
      if c_t_chosen ≤ a1 then
        some (c_t_chosen, c_t_mostWorth)
      else
        f_Choice_offer_b24  a1 a2 c_t_chosen c_t_mostWorth
    else
      some (c_t_chosen, c_t_mostWorth)
def f_Plain_worthOf_b45  (c_t_hour : Int32) (c_t_sunny : Int32) (c_t_book_forms : (Nat → Int32)) (c_t_deeps : (Nat → Int32)) (c_t_forms : (Nat → Int32)) (c_t_kinds : (Nat → Int32)) (a1 : Int32) (v2 : Int32) (s0 : Int32) : Option (Int32) :=
  (f_Int_bitCount v2).bind fun r1 =>
  if s0 = (0 : Int32) then
    some (r1 + (0 : Int32))
  else
    some (r1 + (10 : Int32))
def f_Plain_worthOf (c_t_hour : Int32) (c_t_sunny : Int32) (c_t_book_forms : (Nat → Int32)) (c_t_deeps : (Nat → Int32)) (c_t_forms : (Nat → Int32)) (c_t_kinds : (Nat → Int32)) (a1 : Int32) : Option (Int32) :=
  (f_Plain_shownAt c_t_sunny c_t_deeps c_t_forms c_t_kinds a1 c_t_hour).bind fun r3 =>
  (f_Book_nearest c_t_book_forms r3).bind fun r4 =>
  if r4 < (0 : Int32) then
    f_Plain_worthOf_b45  c_t_hour c_t_sunny c_t_book_forms c_t_deeps c_t_forms c_t_kinds a1 r3 (0 : Int32)
  else
    (rd c_t_forms 12 a1).bind fun r6 =>
    (f_Book_nearest c_t_book_forms r6).bind fun r7 =>
    if r4 = r7 then
      f_Plain_worthOf_b45  c_t_hour c_t_sunny c_t_book_forms c_t_deeps c_t_forms c_t_kinds a1 r3 (1 : Int32)
    else
      f_Plain_worthOf_b45  c_t_hour c_t_sunny c_t_book_forms c_t_deeps c_t_forms c_t_kinds a1 r3 (0 : Int32)
def f_Int_numberOfTrailingZeros_b74    (v0 : Int32) (v1 : Int32) : Option (Int32) :=
  some (v1 + (v0.toUInt32 >>> ((1 : Int32).toUInt32 &&& Int32.toUInt32 31)).toInt32)
def f_Int_numberOfTrailingZeros_b62    (v0 : Int32) (v1 : Int32) : Option (Int32) :=
  if v0 ≤ (4 : Int32) then
    f_Int_numberOfTrailingZeros_b74   v0 v1
  else
    kl ((v0.toUInt32 >>> ((2 : Int32).toUInt32 &&& Int32.toUInt32 31)).toInt32) fun x2 =>
    f_Int_numberOfTrailingZeros_b74   x2 (v1 + (2))
def f_Int_numberOfTrailingZeros_b49    (v0 : Int32) (v1 : Int32) : Option (Int32) :=
  if v0 ≤ (16 : Int32) then
    f_Int_numberOfTrailingZeros_b62   v0 v1
  else
    kl ((v0.toUInt32 >>> ((4 : Int32).toUInt32 &&& Int32.toUInt32 31)).toInt32) fun x4 =>
    f_Int_numberOfTrailingZeros_b62   x4 (v1 + (4))
def f_Int_numberOfTrailingZeros_b34    (v0 : Int32) (v1 : Int32) : Option (Int32) :=
  if v0 ≤ (256 : Int32) then
    f_Int_numberOfTrailingZeros_b49   v0 v1
  else
    kl ((v0.toUInt32 >>> ((8 : Int32).toUInt32 &&& Int32.toUInt32 31)).toInt32) fun x6 =>
    f_Int_numberOfTrailingZeros_b49   x6 (v1 + (8))
def f_Int_numberOfTrailingZeros  (a0 : Int32) : Option (Int32) :=
  if (0 : Int32) < ((a0 ^^^ (-1 : Int32)) &&& (a0 - (1 : Int32))) then
    if ((a0 ^^^ (-1 : Int32)) &&& (a0 - (1 : Int32))) ≤ (65536 : Int32) then
      f_Int_numberOfTrailingZeros_b34   ((a0 ^^^ (-1 : Int32)) &&& (a0 - (1 : Int32))) (1 : Int32)
    else
      kl ((((a0 ^^^ (-1 : Int32)) &&& (a0 - (1 : Int32))).toUInt32 >>> ((16 : Int32).toUInt32 &&& Int32.toUInt32 31)).toInt32) fun x9 =>
      f_Int_numberOfTrailingZeros_b34   x9 ((1 : Int32) + (16))
  else
    some (((a0 ^^^ (-1 : Int32)) &&& (a0 - (1 : Int32))) &&& (32 : Int32))
def f_Choice_choose_b107 (k68 : Int32 → Int32 → (Nat → Int32) → (Nat → Int32) → Int32 → Int32 → Int32 → Int32 → Int32 → Option (Int32 × Int32 × (Nat → Int32) × (Nat → Int32))) (c_p1_size : Int32) (c_p1_hour : Int32) (c_p1_sunny : Int32) (c_p1_book_forms : (Nat → Int32)) (c_p1_deeps : (Nat → Int32)) (c_p1_forms : (Nat → Int32)) (c_p1_kinds : (Nat → Int32)) (a2 : Int32) (c_t_chosen : Int32) (c_t_mostWorth : Int32) (c_t_steps : (Nat → Int32)) (c_t_worths : (Nat → Int32)) (v3 : Int32) (v4 : Int32) (v5 : Int32) (v6 : Int32) (v7 : Int32) (v8 : Int32) (s0 : Int32) : Option (Int32 × Int32 × (Nat → Int32) × (Nat → Int32)) :=
  (rd c_t_steps 12 v8).bind fun r1 =>
  (rd c_t_worths 12 v8).bind fun r2 =>
  if a2 < (v5 + (s0 * r1)) then
    k68 c_t_chosen c_t_mostWorth c_t_steps c_t_worths v3 v4 (v5 + (s0 * r1)) (v6 + (s0 * r2)) (v7 + (1))
  else
    (f_Choice_offer c_t_chosen c_t_mostWorth v4 (v6 + (s0 * r2))).bind fun r4 =>
    k68 r4.1 r4.2 c_t_steps c_t_worths v3 v4 (v5 + (s0 * r1)) (v6 + (s0 * r2)) (v7 + (1))
def f_Choice_choose_b68  (c_p1_size : Int32) (c_p1_hour : Int32) (c_p1_sunny : Int32) (c_p1_book_forms : (Nat → Int32)) (c_p1_deeps : (Nat → Int32)) (c_p1_forms : (Nat → Int32)) (c_p1_kinds : (Nat → Int32)) (a2 : Int32) : Nat → Int32 → Int32 → (Nat → Int32) → (Nat → Int32) → Int32 → Int32 → Int32 → Int32 → Int32 → Option (Int32 × Int32 × (Nat → Int32) × (Nat → Int32))
  | 0, _, _, _, _, _, _, _, _, _ => none
  | n + 1, c_t_chosen, c_t_mostWorth, c_t_steps, c_t_worths, v3, v4, v5, v6, v7 =>
    if ((1 : Int32) <<< (v3 &&& 31)) ≤ v7 then
      some (c_t_chosen, c_t_mostWorth, c_t_steps, c_t_worths)
    else
      (f_Int_numberOfTrailingZeros v7).bind fun r6 =>
      if (((v4 ^^^ ((1 : Int32) <<< (r6 &&& 31))) >>> (r6 &&& 31)) &&& (1 : Int32)) = (0 : Int32) then
        f_Choice_choose_b107 (f_Choice_choose_b68  c_p1_size c_p1_hour c_p1_sunny c_p1_book_forms c_p1_deeps c_p1_forms c_p1_kinds a2 n) c_p1_size c_p1_hour c_p1_sunny c_p1_book_forms c_p1_deeps c_p1_forms c_p1_kinds a2 c_t_chosen c_t_mostWorth c_t_steps c_t_worths v3 (v4 ^^^ ((1 : Int32) <<< (r6 &&& 31))) v5 v6 v7 r6 (-1 : Int32)
      else
        f_Choice_choose_b107 (f_Choice_choose_b68  c_p1_size c_p1_hour c_p1_sunny c_p1_book_forms c_p1_deeps c_p1_forms c_p1_kinds a2 n) c_p1_size c_p1_hour c_p1_sunny c_p1_book_forms c_p1_deeps c_p1_forms c_p1_kinds a2 c_t_chosen c_t_mostWorth c_t_steps c_t_worths v3 (v4 ^^^ ((1 : Int32) <<< (r6 &&& 31))) v5 v6 v7 r6 (1 : Int32)
def f_Choice_choose_b8  (c_p1_size : Int32) (c_p1_hour : Int32) (c_p1_sunny : Int32) (c_p1_book_forms : (Nat → Int32)) (c_p1_deeps : (Nat → Int32)) (c_p1_forms : (Nat → Int32)) (c_p1_kinds : (Nat → Int32)) (a2 : Int32) : Nat → Int32 → Int32 → (Nat → Int32) → (Nat → Int32) → Int32 → Int32 → Option (Int32 × Int32 × (Nat → Int32) × (Nat → Int32))
  | 0, _, _, _, _, _, _ => none
  | n + 1, c_t_chosen, c_t_mostWorth, c_t_steps, c_t_worths, v3, v4 =>
    if v3 ≤ v4 then
      f_Choice_choose_b68  c_p1_size c_p1_hour c_p1_sunny c_p1_book_forms c_p1_deeps c_p1_forms c_p1_kinds a2 5000 (0 : Int32) (0 : Int32) c_t_steps c_t_worths v3 (0 : Int32) (0 : Int32) (0 : Int32) (1 : Int32)
    else
      (f_Plain_feetOf c_p1_forms c_p1_kinds v4).bind fun r9 =>
      (wr c_t_steps 12 v4 r9).bind fun r10 =>
      (f_Plain_worthOf c_p1_hour c_p1_sunny c_p1_book_forms c_p1_deeps c_p1_forms c_p1_kinds v4).bind fun r11 =>
      (wr c_t_worths 12 v4 r11).bind fun r12 =>
      f_Choice_choose_b8  c_p1_size c_p1_hour c_p1_sunny c_p1_book_forms c_p1_deeps c_p1_forms c_p1_kinds a2 n c_t_chosen c_t_mostWorth r10 r12 v3 (v4 + (1))
def f_Choice_choose (c_t_chosen : Int32) (c_t_mostWorth : Int32) (c_t_steps : (Nat → Int32)) (c_t_worths : (Nat → Int32)) (c_p1_size : Int32) (c_p1_hour : Int32) (c_p1_sunny : Int32) (c_p1_book_forms : (Nat → Int32)) (c_p1_deeps : (Nat → Int32)) (c_p1_forms : (Nat → Int32)) (c_p1_kinds : (Nat → Int32)) (a2 : Int32) : Option (Int32 × Int32 × (Nat → Int32) × (Nat → Int32)) :=
  f_Choice_choose_b8  c_p1_size c_p1_hour c_p1_sunny c_p1_book_forms c_p1_deeps c_p1_forms c_p1_kinds a2 5000 c_t_chosen c_t_mostWorth c_t_steps c_t_worths c_p1_size (0 : Int32)
def f_S_best (c_t_choice_chosen : Int32) (c_t_choice_mostWorth : Int32) (c_t_choice_steps : (Nat → Int32)) (c_t_choice_worths : (Nat → Int32)) (c_t_found : (Nat → Int32)) (c_t_plain_size : Int32) (c_t_plain_hour : Int32) (c_t_plain_sunny : Int32) (c_t_plain_book_forms : (Nat → Int32)) (c_t_plain_deeps : (Nat → Int32)) (c_t_plain_forms : (Nat → Int32)) (c_t_plain_kinds : (Nat → Int32)) (a1 : Int32) : Option (Int32 × Int32 × Int32 × (Nat → Int32) × (Nat → Int32) × (Nat → Int32)) :=
  (f_S_isWithin a1 (9999 : Int32)).bind fun r1 =>
  if r1 = (0 : Int32) then
    (f_S_finding c_t_found (-1000000001 : Int32)).bind fun r4 =>
    some (r4.1, c_t_choice_chosen, c_t_choice_mostWorth, c_t_choice_steps, c_t_choice_worths, r4.2)
  else
    (f_Choice_choose c_t_choice_chosen c_t_choice_mostWorth c_t_choice_steps c_t_choice_worths c_t_plain_size c_t_plain_hour c_t_plain_sunny c_t_plain_book_forms c_t_plain_deeps c_t_plain_forms c_t_plain_kinds a1).bind fun r3 =>
    some (r3.1, r3.1, r3.2.1, r3.2.2.1, r3.2.2.2, c_t_found)
def f_S_worth (c_t_choice_chosen : Int32) (c_t_choice_mostWorth : Int32) (c_t_choice_steps : (Nat → Int32)) (c_t_choice_worths : (Nat → Int32)) (c_t_found : (Nat → Int32)) (c_t_plain_size : Int32) (c_t_plain_hour : Int32) (c_t_plain_sunny : Int32) (c_t_plain_book_forms : (Nat → Int32)) (c_t_plain_deeps : (Nat → Int32)) (c_t_plain_forms : (Nat → Int32)) (c_t_plain_kinds : (Nat → Int32)) (a1 : Int32) : Option (Int32 × Int32 × Int32 × (Nat → Int32) × (Nat → Int32) × (Nat → Int32)) :=
  (f_S_isWithin a1 (9999 : Int32)).bind fun r1 =>
  if r1 = (0 : Int32) then
    (f_S_finding c_t_found (-1000000001 : Int32)).bind fun r4 =>
    some (r4.1, c_t_choice_chosen, c_t_choice_mostWorth, c_t_choice_steps, c_t_choice_worths, r4.2)
  else
    (f_Choice_choose c_t_choice_chosen c_t_choice_mostWorth c_t_choice_steps c_t_choice_worths c_t_plain_size c_t_plain_hour c_t_plain_sunny c_t_plain_book_forms c_t_plain_deeps c_t_plain_forms c_t_plain_kinds a1).bind fun r3 =>
    some (r3.2.1, r3.1, r3.2.1, r3.2.2.1, r3.2.2.2, c_t_found)
def f_Book_signsLeftAs_b56 (k5 : Int32 → Int32 → Option (Int32)) (c_t_forms : (Nat → Int32)) (a1 : Int32) (a2 : Int32) (v3 : Int32) (v4 : Int32) (v5 : Int32) (s0 : Int32) : Option (Int32) :=
  (rd c_t_forms 26 v4).bind fun r1 =>
  if r1 = (0 : Int32) then
    k5 v3 (v4 + (1))
  else
    if v5 = (0 : Int32) then
      k5 v3 (v4 + (1))
    else
      if s0 = (0 : Int32) then
        k5 v3 (v4 + (1))
      else
        k5 (v3 ||| ((1 : Int32) <<< (v4 &&& 31))) (v4 + (1))
def f_Book_signsLeftAs_b31 (k5 : Int32 → Int32 → Option (Int32)) (c_t_forms : (Nat → Int32)) (a1 : Int32) (a2 : Int32) (v3 : Int32) (v4 : Int32) (s0 : Int32) : Option (Int32) :=
  (rd c_t_forms 26 v4).bind fun r5 =>
  if ((r5 &&& (a1 ^^^ (-1 : Int32))) &&& (a2 ^^^ (-1 : Int32))) = (0 : Int32) then
    f_Book_signsLeftAs_b56 k5 c_t_forms a1 a2 v3 v4 s0 (1 : Int32)
  else
    f_Book_signsLeftAs_b56 k5 c_t_forms a1 a2 v3 v4 s0 (0 : Int32)
def f_Book_signsLeftAs_b5  (c_t_forms : (Nat → Int32)) (a1 : Int32) (a2 : Int32) : Nat → Int32 → Int32 → Option (Int32)
  | 0, _, _ => none
  | n + 1, v3, v4 =>
    if (26 : Int32) ≤ v4 then
      some v3
    else
      (rd c_t_forms 26 v4).bind fun r8 =>
      if (a1 &&& (r8 ^^^ (-1 : Int32))) = (0 : Int32) then
        f_Book_signsLeftAs_b31 (f_Book_signsLeftAs_b5  c_t_forms a1 a2 n) c_t_forms a1 a2 v3 v4 (1 : Int32)
      else
        f_Book_signsLeftAs_b31 (f_Book_signsLeftAs_b5  c_t_forms a1 a2 n) c_t_forms a1 a2 v3 v4 (0 : Int32)
def f_Book_signsLeftAs (c_t_forms : (Nat → Int32)) (a1 : Int32) (a2 : Int32) : Option (Int32) :=
  f_Book_signsLeftAs_b5  c_t_forms a1 a2 5000 (0 : Int32) (0 : Int32)
def f_S_meant (c_t_found : (Nat → Int32)) (c_t_plain_size : Int32) (c_t_plain_hour : Int32) (c_t_plain_sunny : Int32) (c_t_plain_book_forms : (Nat → Int32)) (c_t_plain_deeps : (Nat → Int32)) (c_t_plain_forms : (Nat → Int32)) (c_t_plain_kinds : (Nat → Int32)) (a1 : Int32) : Option (Int32 × (Nat → Int32)) :=
  (f_Plain_has c_t_plain_size a1).bind fun r1 =>
  if r1 = (0 : Int32) then
    (f_S_finding c_t_found (-1000000001 : Int32)).bind fun r5 =>
    some (r5.1, r5.2)
  else
    (f_Plain_shownAt c_t_plain_sunny c_t_plain_deeps c_t_plain_forms c_t_plain_kinds a1 c_t_plain_hour).bind fun r3 =>
    (f_Book_signsLeftAs c_t_plain_book_forms r3 c_t_plain_sunny).bind fun r4 =>
    some (r4, c_t_found)
def f_Book_cheapest_b47 (k7 : Int32 → Int32 → Int32 → Option (Int32)) (c_t_forms : (Nat → Int32)) (a1 : Int32) (v4 : Int32) (v5 : Int32) : Option (Int32) :=
  k7 v4 v5 (v4 + (1))
def f_Book_cheapest_b7  (c_t_forms : (Nat → Int32)) (a1 : Int32) : Nat → Int32 → Int32 → Int32 → Option (Int32)
  | 0, _, _, _ => none
  | n + 1, v2, v3, v4 =>
    if (26 : Int32) ≤ v4 then
      some v2
    else
      (rd c_t_forms 26 v4).bind fun r2 =>
      (f_Kinds_feet a1 r2).bind fun r3 =>
      (rd c_t_forms 26 v4).bind fun r4 =>
      if r4 = (0 : Int32) then
        f_Book_cheapest_b7  c_t_forms a1 n v2 v3 (v4 + (1))
      else
        if v2 < (0 : Int32) then
          f_Book_cheapest_b47 (f_Book_cheapest_b7  c_t_forms a1 n) c_t_forms a1 v4 r3
        else
          if v3 ≤ r3 then
            f_Book_cheapest_b7  c_t_forms a1 n v2 v3 (v4 + (1))
          else
            f_Book_cheapest_b47 (f_Book_cheapest_b7  c_t_forms a1 n) c_t_forms a1 v4 r3
def f_Book_cheapest (c_t_forms : (Nat → Int32)) (a1 : Int32) : Option (Int32) :=
  f_Book_cheapest_b7  c_t_forms a1 5000 (-1 : Int32) (0 : Int32) (0 : Int32)
def f_S_cheap (c_t_found : (Nat → Int32)) (c_t_plain_book_forms : (Nat → Int32)) (a1 : Int32) : Option (Int32 × (Nat → Int32)) :=
  (f_Kinds_isKind a1).bind fun r1 =>
  if r1 = (0 : Int32) then
    (f_S_finding c_t_found (-1000000001 : Int32)).bind fun r6 =>
    some (r6.1, r6.2)
  else
    (f_Book_cheapest c_t_plain_book_forms a1).bind fun r3 =>
    if (0 : Int32) ≤ r3 then
      some (r3, c_t_found)
    else
      (f_S_finding c_t_found (-1000000004 : Int32)).bind fun r5 =>
      some (r5.1, r5.2)
def f_Tape_append_b4   (a1 : Int32) (a2 : Int32) : Nat → Int32 → (Nat → Int32) → Int32 → Option (Int32 × (Nat → Int32))
  | 0, _, _, _ => none
  | n + 1, c_t_length, c_t_bytes, v3 =>
    if v3 < (0 : Int32) then
      some (c_t_length, c_t_bytes)
    else
      if (120 : Int32) ≤ c_t_length then
        some (c_t_length, c_t_bytes)
      else
        (wrB c_t_bytes 120 c_t_length ((a1 >>> (((8 : Int32) * v3) &&& 31)).toInt8.toInt32)).bind fun r3 =>
        f_Tape_append_b4  a1 a2 n (c_t_length + (1 : Int32)) r3 (v3 + (-1))
def f_Tape_append (c_t_length : Int32) (c_t_bytes : (Nat → Int32)) (a1 : Int32) (a2 : Int32) : Option (Int32 × (Nat → Int32)) :=
  f_Tape_append_b4  a1 a2 5000 c_t_length c_t_bytes (a2 - (1 : Int32))
def f_Tape_hasRoomFor (c_t_length : Int32) (a1 : Int32) : Option (Int32) :=
  if ((120 : Int32) - c_t_length) < a1 then
    some (0 : Int32)
  else
    some (1 : Int32)
def f_S_feed_b10   (a1 : Int32) (a2 : Int32) (c_t_found : (Nat → Int32)) (c_t_tape_length : Int32) (c_t_tape_bytes : (Nat → Int32)) : Option (Int32 × (Nat → Int32) × Int32 × (Nat → Int32)) :=
  (f_S_finding c_t_found (-1000000001 : Int32)).bind fun r1 =>
  some (r1.1, r1.2, c_t_tape_length, c_t_tape_bytes)
def f_S_feed (c_t_found : (Nat → Int32)) (c_t_tape_length : Int32) (c_t_tape_bytes : (Nat → Int32)) (a1 : Int32) (a2 : Int32) : Option (Int32 × (Nat → Int32) × Int32 × (Nat → Int32)) :=
  if a2 < (1 : Int32) then
    f_S_feed_b10  a1 a2 c_t_found c_t_tape_length c_t_tape_bytes
  else
    if a2 ≤ (4 : Int32) then
      (f_Tape_hasRoomFor c_t_tape_length a2).bind fun r4 =>
      if r4 = (0 : Int32) then
        (f_S_finding c_t_found (-1000000002 : Int32)).bind fun r7 =>
        some (r7.1, r7.2, c_t_tape_length, c_t_tape_bytes)
      else
        (f_Tape_append c_t_tape_length c_t_tape_bytes a1 a2).bind fun r6 =>
        some (r6.1, c_t_found, r6.1, r6.2)
    else
      f_S_feed_b10  a1 a2 c_t_found c_t_tape_length c_t_tape_bytes
def f_Tape_empty (c_t_length : Int32)  : Option (Int32 × Int32) :=
  some (c_t_length, (0 : Int32))
def f_S_wipe (c_t_tape_length : Int32)  : Option (Int32 × Int32) :=
  (f_Tape_empty c_t_tape_length).bind fun r1 =>
  some (r1.1, r1.2)
def f_Tokens_valueAt (c_t_size : Int32) (c_t_types : (Nat → Int32)) (c_t_values : (Nat → Int32)) (a1 : Int32) (a2 : Int32) : Option (Int32) :=
  if a1 < (0 : Int32) then
    some (-1 : Int32)
  else
    if c_t_size ≤ a1 then
      some (-1 : Int32)
    else
      (rd c_t_types 120 a1).bind fun r3 =>
      if r3 = a2 then
        (rd c_t_values 120 a1).bind fun r5 =>
        some r5
      else
        some (-1 : Int32)
def f_FieldText_passNumber (c_t_at : Int32) (c_t_tokens_size : Int32) (c_t_tokens_types : (Nat → Int32)) (c_t_tokens_values : (Nat → Int32)) (a1 : Int32) : Option (Int32 × Int32) :=
  (f_Tokens_valueAt c_t_tokens_size c_t_tokens_types c_t_tokens_values c_t_at (2 : Int32)).bind fun r1 =>
  if r1 < (0 : Int32) then
    some ((-1 : Int32), c_t_at)
  else
    if r1 ≤ a1 then
      some (r1, (c_t_at + (1 : Int32)))
    else
      some ((-1 : Int32), c_t_at)
def f_FieldText_passWord (c_t_at : Int32) (c_t_tokens_size : Int32) (c_t_tokens_types : (Nat → Int32)) (c_t_tokens_values : (Nat → Int32)) (a1 : Int32) : Option (Int32 × Int32) :=
  (f_Tokens_valueAt c_t_tokens_size c_t_tokens_types c_t_tokens_values c_t_at (1 : Int32)).bind fun r1 =>
  if r1 = a1 then
    some ((1 : Int32), (c_t_at + (1 : Int32)))
  else
    some ((0 : Int32), c_t_at)
def f_FieldText_passForm (c_t_at : Int32) (c_t_tokens_size : Int32) (c_t_tokens_types : (Nat → Int32)) (c_t_tokens_values : (Nat → Int32)) (c_p1_book_forms : (Nat → Int32))  : Option (Int32 × Int32) :=
  (f_FieldText_passWord c_t_at c_t_tokens_size c_t_tokens_types c_t_tokens_values (8 : Int32)).bind fun r1 =>
  if r1.1 = (0 : Int32) then
    (f_FieldText_passWord r1.2 c_t_tokens_size c_t_tokens_types c_t_tokens_values (9 : Int32)).bind fun r3 =>
    if r3.1 = (0 : Int32) then
      some ((-1 : Int32), r3.2)
    else
      (f_FieldText_passNumber r3.2 c_t_tokens_size c_t_tokens_types c_t_tokens_values (25 : Int32)).bind fun r5 =>
      if (0 : Int32) ≤ r5.1 then
        (f_Book_formAt c_p1_book_forms r5.1).bind fun r7 =>
        some (r7, r5.2)
      else
        some ((-1 : Int32), r5.2)
  else
    (f_FieldText_passNumber r1.2 c_t_tokens_size c_t_tokens_types c_t_tokens_values (4095 : Int32)).bind fun r8 =>
    some (r8.1, r8.2)
def f_FieldText_passLetter_b33  (c_t_tokens_size : Int32) (c_t_tokens_types : (Nat → Int32)) (c_t_tokens_values : (Nat → Int32)) (c_p1_book_forms : (Nat → Int32)) (a2 : Int32) (c_t_at : Int32) (c_p1_size : Int32) (c_p1_deeps : (Nat → Int32)) (c_p1_forms : (Nat → Int32)) (c_p1_kinds : (Nat → Int32)) (v3 : Int32) (v4 : Int32) : Option (Int32 × Int32 × Int32 × (Nat → Int32) × (Nat → Int32) × (Nat → Int32)) :=
  if (0 : Int32) ≤ v4 then
    (f_Plain_add c_p1_size c_p1_deeps c_p1_forms c_p1_kinds a2 v3 v4).bind fun r2 =>
    some ((1 : Int32), c_t_at, r2.2.1, r2.2.2.1, r2.2.2.2.1, r2.2.2.2.2)
  else
    some ((0 : Int32), c_t_at, c_p1_size, c_p1_deeps, c_p1_forms, c_p1_kinds)
def f_FieldText_passLetter (c_t_at : Int32) (c_t_tokens_size : Int32) (c_t_tokens_types : (Nat → Int32)) (c_t_tokens_values : (Nat → Int32)) (c_p1_size : Int32) (c_p1_book_forms : (Nat → Int32)) (c_p1_deeps : (Nat → Int32)) (c_p1_forms : (Nat → Int32)) (c_p1_kinds : (Nat → Int32)) (a2 : Int32) : Option (Int32 × Int32 × Int32 × (Nat → Int32) × (Nat → Int32) × (Nat → Int32)) :=
  (f_FieldText_passForm c_t_at c_t_tokens_size c_t_tokens_types c_t_tokens_values c_p1_book_forms).bind fun r3 =>
  if (0 : Int32) ≤ r3.1 then
    (f_FieldText_passWord r3.2 c_t_tokens_size c_t_tokens_types c_t_tokens_values (10 : Int32)).bind fun r5 =>
    if r5.1 = (0 : Int32) then
      f_FieldText_passLetter_b33  c_t_tokens_size c_t_tokens_types c_t_tokens_values c_p1_book_forms a2 r5.2 c_p1_size c_p1_deeps c_p1_forms c_p1_kinds r3.1 (6 : Int32)
    else
      (f_FieldText_passNumber r5.2 c_t_tokens_size c_t_tokens_types c_t_tokens_values (99 : Int32)).bind fun r7 =>
      f_FieldText_passLetter_b33  c_t_tokens_size c_t_tokens_types c_t_tokens_values c_p1_book_forms a2 r7.2 c_p1_size c_p1_deeps c_p1_forms c_p1_kinds r3.1 r7.1
  else
    some ((0 : Int32), r3.2, c_p1_size, c_p1_deeps, c_p1_forms, c_p1_kinds)
def f_FieldText_passSign (c_t_at : Int32) (c_t_tokens_size : Int32) (c_t_tokens_types : (Nat → Int32)) (c_t_tokens_values : (Nat → Int32)) (c_p1_book_forms : (Nat → Int32))  : Option (Int32 × Int32 × (Nat → Int32)) :=
  (f_FieldText_passNumber c_t_at c_t_tokens_size c_t_tokens_types c_t_tokens_values (25 : Int32)).bind fun r1 =>
  if (0 : Int32) ≤ r1.1 then
    (f_FieldText_passNumber r1.2 c_t_tokens_size c_t_tokens_types c_t_tokens_values (4095 : Int32)).bind fun r3 =>
    if (0 : Int32) ≤ r3.1 then
      (f_Book_put c_p1_book_forms r1.1 r3.1).bind fun r5 =>
      some ((1 : Int32), r3.2, r5)
    else
      some ((0 : Int32), r3.2, c_p1_book_forms)
  else
    some ((0 : Int32), r1.2, c_p1_book_forms)
def f_FieldText_passSun (c_t_at : Int32) (c_t_tokens_size : Int32) (c_t_tokens_types : (Nat → Int32)) (c_t_tokens_values : (Nat → Int32)) (c_p1_sunny : Int32)  : Option (Int32 × Int32 × Int32) :=
  (f_FieldText_passNumber c_t_at c_t_tokens_size c_t_tokens_types c_t_tokens_values (4095 : Int32)).bind fun r1 =>
  if (0 : Int32) ≤ r1.1 then
    some ((1 : Int32), r1.2, r1.1)
  else
    some ((0 : Int32), r1.2, c_p1_sunny)
def f_FieldText_passItem (c_t_at : Int32) (c_t_tokens_size : Int32) (c_t_tokens_types : (Nat → Int32)) (c_t_tokens_values : (Nat → Int32)) (c_p1_size : Int32) (c_p1_sunny : Int32) (c_p1_book_forms : (Nat → Int32)) (c_p1_deeps : (Nat → Int32)) (c_p1_forms : (Nat → Int32)) (c_p1_kinds : (Nat → Int32))  : Option (Int32 × Int32 × Int32 × Int32 × (Nat → Int32) × (Nat → Int32) × (Nat → Int32) × (Nat → Int32)) :=
  (f_FieldText_passWord c_t_at c_t_tokens_size c_t_tokens_types c_t_tokens_values (6 : Int32)).bind fun r1 =>
  if r1.1 = (0 : Int32) then
    (f_FieldText_passWord r1.2 c_t_tokens_size c_t_tokens_types c_t_tokens_values (7 : Int32)).bind fun r3 =>
    if r3.1 = (0 : Int32) then
      (f_Tokens_valueAt c_t_tokens_size c_t_tokens_types c_t_tokens_values r3.2 (1 : Int32)).bind fun r5 =>
      (f_Kinds_isKind r5).bind fun r6 =>
      if r6 = (0 : Int32) then
        some ((0 : Int32), r3.2, c_p1_size, c_p1_sunny, c_p1_book_forms, c_p1_deeps, c_p1_forms, c_p1_kinds)
      else
        (f_Plain_isFull c_p1_size).bind fun r8 =>
        if r8 = (0 : Int32) then
          (f_FieldText_passLetter (r3.2 + (1 : Int32)) c_t_tokens_size c_t_tokens_types c_t_tokens_values c_p1_size c_p1_book_forms c_p1_deeps c_p1_forms c_p1_kinds r5).bind fun r10 =>
          (bl r10.1).bind fun b11 =>
          some (b11, r10.2.1, r10.2.2.1, c_p1_sunny, c_p1_book_forms, r10.2.2.2.1, r10.2.2.2.2.1, r10.2.2.2.2.2)
        else
          some ((0 : Int32), r3.2, c_p1_size, c_p1_sunny, c_p1_book_forms, c_p1_deeps, c_p1_forms, c_p1_kinds)
    else
      (f_FieldText_passSun r3.2 c_t_tokens_size c_t_tokens_types c_t_tokens_values c_p1_sunny).bind fun r12 =>
      (bl r12.1).bind fun b13 =>
      some (b13, r12.2.1, c_p1_size, r12.2.2, c_p1_book_forms, c_p1_deeps, c_p1_forms, c_p1_kinds)
  else
    (f_FieldText_passSign r1.2 c_t_tokens_size c_t_tokens_types c_t_tokens_values c_p1_book_forms).bind fun r14 =>
    (bl r14.1).bind fun b15 =>
    some (b15, r14.2.1, c_p1_size, c_p1_sunny, r14.2.2, c_p1_deeps, c_p1_forms, c_p1_kinds)
def f_Tape_byteAt (c_t_length : Int32) (c_t_bytes : (Nat → Int32)) (a1 : Int32) : Option (Int32) :=
  if a1 < (0 : Int32) then
    some (0 : Int32)
  else
    if c_t_length ≤ a1 then
      some (0 : Int32)
    else
      (rd c_t_bytes 120 a1).bind fun r3 =>
      some (r3 &&& (255 : Int32))
def f_Tokens_typeOf_b28   (a0 : Int32)  : Option (Int32) :=
  if a0 = (59 : Int32) then
    some (3 : Int32)
  else
    if a0 = (32 : Int32) then
      some (0 : Int32)
    else
      some (4 : Int32)
def f_Tokens_typeOf_b14   (a0 : Int32)  : Option (Int32) :=
  if a0 < (48 : Int32) then
    f_Tokens_typeOf_b28  a0 
  else
    if (57 : Int32) < a0 then
      f_Tokens_typeOf_b28  a0 
    else
      some (2 : Int32)
def f_Tokens_typeOf  (a0 : Int32) : Option (Int32) :=
  if a0 < (97 : Int32) then
    f_Tokens_typeOf_b14  a0 
  else
    if (122 : Int32) < a0 then
      f_Tokens_typeOf_b14  a0 
    else
      some (1 : Int32)
def f_Tokens_endOf_b21  (c_p0_length : Int32) (c_p0_bytes : (Nat → Int32)) (a1 : Int32) (a2 : Int32) : Nat → Int32 → Int32 → Option (Int32)
  | 0, _, _ => none
  | n + 1, v3, v4 =>
    if v4 = (0 : Int32) then
      some v3
    else
      if c_p0_length ≤ v3 then
        some v3
      else
        (f_Tape_byteAt c_p0_length c_p0_bytes v3).bind fun r3 =>
        (f_Tokens_typeOf r3).bind fun r4 =>
        if r4 = a2 then
          f_Tokens_endOf_b21  c_p0_length c_p0_bytes a1 a2 n (v3 + (1)) v4
        else
          some v3
def f_Tokens_endOf_b14  (c_p0_length : Int32) (c_p0_bytes : (Nat → Int32)) (a1 : Int32) (a2 : Int32) (v3 : Int32) : Option (Int32) :=
  f_Tokens_endOf_b21  c_p0_length c_p0_bytes a1 a2 5000 v3 (1 : Int32)
def f_Tokens_endOf (c_p0_length : Int32) (c_p0_bytes : (Nat → Int32)) (a1 : Int32) (a2 : Int32) : Option (Int32) :=
  if a2 = (1 : Int32) then
    f_Tokens_endOf_b14  c_p0_length c_p0_bytes a1 a2 (a1 + (1 : Int32))
  else
    if a2 = (2 : Int32) then
      f_Tokens_endOf_b14  c_p0_length c_p0_bytes a1 a2 (a1 + (1 : Int32))
    else
      f_Tokens_endOf_b21  c_p0_length c_p0_bytes a1 a2 5000 (a1 + (1 : Int32)) (0 : Int32)
def f_Tokens_numberIn_b5  (c_p0_length : Int32) (c_p0_bytes : (Nat → Int32)) (a1 : Int32) (a2 : Int32) : Nat → Int32 → Int32 → Option (Int32)
  | 0, _, _ => none
  | n + 1, v3, v4 =>
    if a2 ≤ v4 then
      some v3
    else
      (f_Tape_byteAt c_p0_length c_p0_bytes v4).bind fun r2 =>
      kl (if (((v3 * (10 : Int32)) + r2) - (48 : Int32)) < (4096 : Int32) then (((v3 * (10 : Int32)) + r2) - (48 : Int32)) else (4096 : Int32)) fun x3 =>
      f_Tokens_numberIn_b5  c_p0_length c_p0_bytes a1 a2 n x3 (v4 + (1))
def f_Tokens_numberIn (c_p0_length : Int32) (c_p0_bytes : (Nat → Int32)) (a1 : Int32) (a2 : Int32) : Option (Int32) :=
  f_Tokens_numberIn_b5  c_p0_length c_p0_bytes a1 a2 5000 (0 : Int32) a1
def f_Tokens_isSpelt_b15  (c_p0_length : Int32) (c_p0_bytes : (Nat → Int32)) (a1 : Int32) (a2 : Int32) (a3 : Nat) : Nat → Int32 → Option (Int32)
  | 0, _ => none
  | n + 1, v4 =>
    (f_Str_length a3).bind fun r1 =>
    if r1 ≤ v4 then
      some (1 : Int32)
    else
      (f_Tape_byteAt c_p0_length c_p0_bytes (a1 + v4)).bind fun r3 =>
      (f_Str_charAt a3 v4).bind fun r4 =>
      if r3 = r4 then
        f_Tokens_isSpelt_b15  c_p0_length c_p0_bytes a1 a2 a3 n (v4 + (1))
      else
        some (0 : Int32)
def f_Tokens_isSpelt (c_p0_length : Int32) (c_p0_bytes : (Nat → Int32)) (a1 : Int32) (a2 : Int32) (a3 : Nat) : Option (Int32) :=
  (f_Str_length a3).bind fun r6 =>
  if (a2 - a1) = r6 then
    f_Tokens_isSpelt_b15  c_p0_length c_p0_bytes a1 a2 a3 5000 (0 : Int32)
  else
    some (0 : Int32)
def f_Tokens_spellingOf  (a0 : Int32) : Option (Nat) :=
  if a0 = (0 : Int32) then
    some 0
  else
  if a0 = (1 : Int32) then
    some 1
  else
  if a0 = (2 : Int32) then
    some 2
  else
  if a0 = (3 : Int32) then
    some 3
  else
  if a0 = (4 : Int32) then
    some 4
  else
  if a0 = (5 : Int32) then
    some 5
  else
  if a0 = (6 : Int32) then
    some 6
  else
  if a0 = (7 : Int32) then
    some 7
  else
  if a0 = (8 : Int32) then
    some 8
  else
  if a0 = (9 : Int32) then
    some 9
  else
  if a0 = (10 : Int32) then
    some 10
  else
  some 11
def f_Tokens_wordIn_b2  (c_p0_length : Int32) (c_p0_bytes : (Nat → Int32)) (a1 : Int32) (a2 : Int32) : Nat → Int32 → Option (Int32)
  | 0, _ => none
  | n + 1, v3 =>
    if (11 : Int32) ≤ v3 then
      some (-1 : Int32)
    else
      (f_Tokens_spellingOf v3).bind fun r2 =>
      (f_Tokens_isSpelt c_p0_length c_p0_bytes a1 a2 r2).bind fun r3 =>
      if r3 = (0 : Int32) then
        f_Tokens_wordIn_b2  c_p0_length c_p0_bytes a1 a2 n (v3 + (1))
      else
        some v3
def f_Tokens_wordIn (c_p0_length : Int32) (c_p0_bytes : (Nat → Int32)) (a1 : Int32) (a2 : Int32) : Option (Int32) :=
  f_Tokens_wordIn_b2  c_p0_length c_p0_bytes a1 a2 5000 (0 : Int32)
def f_Tokens_cut_b118 (k17 : Int32 → Int32 → (Nat → Int32) → (Nat → Int32) → (Nat → Int32) → Int32 → Int32 → Option (Int32 × Int32 × (Nat → Int32) × (Nat → Int32) × (Nat → Int32))) (c_p1_length : Int32) (c_p1_bytes : (Nat → Int32))  (c_t_size : Int32) (c_t_length : Int32) (c_t_starts : (Nat → Int32)) (c_t_types : (Nat → Int32)) (c_t_values : (Nat → Int32)) (v3 : Int32) (v5 : Int32) : Option (Int32 × Int32 × (Nat → Int32) × (Nat → Int32) × (Nat → Int32)) :=
  k17 c_t_size c_t_length c_t_starts c_t_types c_t_values v5 (v3 + (1))
def f_Tokens_cut_b107 (k17 : Int32 → Int32 → (Nat → Int32) → (Nat → Int32) → (Nat → Int32) → Int32 → Int32 → Option (Int32 × Int32 × (Nat → Int32) × (Nat → Int32) × (Nat → Int32))) (c_p1_length : Int32) (c_p1_bytes : (Nat → Int32))  (c_t_size : Int32) (c_t_length : Int32) (c_t_starts : (Nat → Int32)) (c_t_types : (Nat → Int32)) (c_t_values : (Nat → Int32)) (v3 : Int32) (v5 : Int32) (s0 : Int32) (s1 : Int32) : Option (Int32 × Int32 × (Nat → Int32) × (Nat → Int32) × (Nat → Int32)) :=
  (wr c_t_values 120 s1 s0).bind fun r1 =>
  f_Tokens_cut_b118 k17 c_p1_length c_p1_bytes (c_t_size + (1 : Int32)) c_t_length c_t_starts c_t_types r1 v3 v5
def f_Tokens_cut_b17  (c_p1_length : Int32) (c_p1_bytes : (Nat → Int32))  : Nat → Int32 → Int32 → (Nat → Int32) → (Nat → Int32) → (Nat → Int32) → Int32 → Int32 → Option (Int32 × Int32 × (Nat → Int32) × (Nat → Int32) × (Nat → Int32))
  | 0, _, _, _, _, _, _, _ => none
  | n + 1, c_t_size, c_t_length, c_t_starts, c_t_types, c_t_values, v2, v3 =>
    if (120 : Int32) ≤ v3 then
      some (c_t_size, c_t_length, c_t_starts, c_t_types, c_t_values)
    else
      if c_t_length ≤ v2 then
        some (c_t_size, c_t_length, c_t_starts, c_t_types, c_t_values)
      else
        (f_Tape_byteAt c_p1_length c_p1_bytes v2).bind fun r4 =>
        (f_Tokens_typeOf r4).bind fun r5 =>
        (f_Tokens_endOf c_p1_length c_p1_bytes v2 r5).bind fun r6 =>
        if r5 = (0 : Int32) then
          f_Tokens_cut_b118 (f_Tokens_cut_b17  c_p1_length c_p1_bytes n) c_p1_length c_p1_bytes c_t_size c_t_length c_t_starts c_t_types c_t_values v3 r6
        else
          (wr c_t_types 120 c_t_size r5).bind fun r8 =>
          (wr c_t_starts 120 c_t_size v2).bind fun r9 =>
          if r5 = (1 : Int32) then
            (f_Tokens_wordIn c_p1_length c_p1_bytes v2 r6).bind fun r12 =>
            f_Tokens_cut_b107 (f_Tokens_cut_b17  c_p1_length c_p1_bytes n) c_p1_length c_p1_bytes c_t_size c_t_length r9 r8 c_t_values v3 r6 r12 c_t_size
          else
            (f_Tokens_numberIn c_p1_length c_p1_bytes v2 r6).bind fun r11 =>
            f_Tokens_cut_b107 (f_Tokens_cut_b17  c_p1_length c_p1_bytes n) c_p1_length c_p1_bytes c_t_size c_t_length r9 r8 c_t_values v3 r6 r11 c_t_size
def f_Tokens_cut (c_t_size : Int32) (c_t_length : Int32) (c_t_starts : (Nat → Int32)) (c_t_types : (Nat → Int32)) (c_t_values : (Nat → Int32)) (c_p1_length : Int32) (c_p1_bytes : (Nat → Int32))  : Option (Int32 × Int32 × (Nat → Int32) × (Nat → Int32) × (Nat → Int32)) :=
  f_Tokens_cut_b17  c_p1_length c_p1_bytes 5000 (0 : Int32) c_p1_length c_t_starts c_t_types c_t_values (0 : Int32) (0 : Int32)
def f_Tokens_placeAt_b21  (c_t_size : Int32) (c_t_length : Int32) (c_t_starts : (Nat → Int32)) (a1 : Int32)  : Option (Int32) :=
  some c_t_length
def f_Tokens_placeAt (c_t_size : Int32) (c_t_length : Int32) (c_t_starts : (Nat → Int32)) (a1 : Int32) : Option (Int32) :=
  if a1 < (0 : Int32) then
    f_Tokens_placeAt_b21  c_t_size c_t_length c_t_starts a1 
  else
    if c_t_size ≤ a1 then
      f_Tokens_placeAt_b21  c_t_size c_t_length c_t_starts a1 
    else
      (rd c_t_starts 120 a1).bind fun r3 =>
      some r3
def f_Tokens_typeAt (c_t_size : Int32) (c_t_types : (Nat → Int32)) (a1 : Int32) : Option (Int32) :=
  if a1 < (0 : Int32) then
    some (0 : Int32)
  else
    if c_t_size ≤ a1 then
      some (0 : Int32)
    else
      (rd c_t_types 120 a1).bind fun r3 =>
      some r3
def f_FieldText_tell_b82  (c_p1_length : Int32) (c_p1_bytes : (Nat → Int32))  (c_t_at : Int32) (c_t_tokens_size : Int32) (c_t_tokens_length : Int32) (c_t_tokens_starts : (Nat → Int32)) (c_t_tokens_types : (Nat → Int32)) (c_t_tokens_values : (Nat → Int32)) (c_p2_size : Int32) (c_p2_sunny : Int32) (c_p2_book_forms : (Nat → Int32)) (c_p2_deeps : (Nat → Int32)) (c_p2_forms : (Nat → Int32)) (c_p2_kinds : (Nat → Int32)) : Option (Int32 × Int32 × Int32 × Int32 × (Nat → Int32) × (Nat → Int32) × (Nat → Int32) × Int32 × Int32 × (Nat → Int32) × (Nat → Int32) × (Nat → Int32) × (Nat → Int32)) :=
  (f_Tokens_placeAt c_t_tokens_size c_t_tokens_length c_t_tokens_starts c_t_at).bind fun r1 =>
  some (((-1 : Int32) - r1), c_t_at, c_t_tokens_size, c_t_tokens_length, c_t_tokens_starts, c_t_tokens_types, c_t_tokens_values, c_p2_size, c_p2_sunny, c_p2_book_forms, c_p2_deeps, c_p2_forms, c_p2_kinds)
def f_FieldText_tell_b15  (c_p1_length : Int32) (c_p1_bytes : (Nat → Int32))  : Nat → Int32 → Int32 → Int32 → (Nat → Int32) → (Nat → Int32) → (Nat → Int32) → Int32 → Int32 → (Nat → Int32) → (Nat → Int32) → (Nat → Int32) → (Nat → Int32) → Int32 → Option (Int32 × Int32 × Int32 × Int32 × (Nat → Int32) × (Nat → Int32) × (Nat → Int32) × Int32 × Int32 × (Nat → Int32) × (Nat → Int32) × (Nat → Int32) × (Nat → Int32))
  | 0, _, _, _, _, _, _, _, _, _, _, _, _, _ => none
  | n + 1, c_t_at, c_t_tokens_size, c_t_tokens_length, c_t_tokens_starts, c_t_tokens_types, c_t_tokens_values, c_p2_size, c_p2_sunny, c_p2_book_forms, c_p2_deeps, c_p2_forms, c_p2_kinds, v3 =>
    if (120 : Int32) < v3 then
      f_FieldText_tell_b82  c_p1_length c_p1_bytes c_t_at c_t_tokens_size c_t_tokens_length c_t_tokens_starts c_t_tokens_types c_t_tokens_values c_p2_size c_p2_sunny c_p2_book_forms c_p2_deeps c_p2_forms c_p2_kinds
    else
      (f_FieldText_passItem c_t_at c_t_tokens_size c_t_tokens_types c_t_tokens_values c_p2_size c_p2_sunny c_p2_book_forms c_p2_deeps c_p2_forms c_p2_kinds).bind fun r3 =>
      if r3.1 = (0 : Int32) then
        f_FieldText_tell_b82  c_p1_length c_p1_bytes r3.2.1 c_t_tokens_size c_t_tokens_length c_t_tokens_starts c_t_tokens_types c_t_tokens_values r3.2.2.1 r3.2.2.2.1 r3.2.2.2.2.1 r3.2.2.2.2.2.1 r3.2.2.2.2.2.2.1 r3.2.2.2.2.2.2.2
      else
        (f_Tokens_typeAt c_t_tokens_size c_t_tokens_types r3.2.1).bind fun r5 =>
        if r5 = (0 : Int32) then
          some (v3, r3.2.1, c_t_tokens_size, c_t_tokens_length, c_t_tokens_starts, c_t_tokens_types, c_t_tokens_values, r3.2.2.1, r3.2.2.2.1, r3.2.2.2.2.1, r3.2.2.2.2.2.1, r3.2.2.2.2.2.2.1, r3.2.2.2.2.2.2.2)
        else
          (f_Tokens_typeAt c_t_tokens_size c_t_tokens_types r3.2.1).bind fun r7 =>
          if r7 = (3 : Int32) then
            f_FieldText_tell_b15  c_p1_length c_p1_bytes n (r3.2.1 + (1 : Int32)) c_t_tokens_size c_t_tokens_length c_t_tokens_starts c_t_tokens_types c_t_tokens_values r3.2.2.1 r3.2.2.2.1 r3.2.2.2.2.1 r3.2.2.2.2.2.1 r3.2.2.2.2.2.2.1 r3.2.2.2.2.2.2.2 (v3 + (1))
          else
            f_FieldText_tell_b82  c_p1_length c_p1_bytes r3.2.1 c_t_tokens_size c_t_tokens_length c_t_tokens_starts c_t_tokens_types c_t_tokens_values r3.2.2.1 r3.2.2.2.1 r3.2.2.2.2.1 r3.2.2.2.2.2.1 r3.2.2.2.2.2.2.1 r3.2.2.2.2.2.2.2
def f_FieldText_tell (c_t_at : Int32) (c_t_tokens_size : Int32) (c_t_tokens_length : Int32) (c_t_tokens_starts : (Nat → Int32)) (c_t_tokens_types : (Nat → Int32)) (c_t_tokens_values : (Nat → Int32)) (c_p1_length : Int32) (c_p1_bytes : (Nat → Int32)) (c_p2_size : Int32) (c_p2_sunny : Int32) (c_p2_book_forms : (Nat → Int32)) (c_p2_deeps : (Nat → Int32)) (c_p2_forms : (Nat → Int32)) (c_p2_kinds : (Nat → Int32))  : Option (Int32 × Int32 × Int32 × Int32 × (Nat → Int32) × (Nat → Int32) × (Nat → Int32) × Int32 × Int32 × (Nat → Int32) × (Nat → Int32) × (Nat → Int32) × (Nat → Int32)) :=
  (f_Tokens_cut c_t_tokens_size c_t_tokens_length c_t_tokens_starts c_t_tokens_types c_t_tokens_values c_p1_length c_p1_bytes).bind fun r9 =>
  f_FieldText_tell_b15  c_p1_length c_p1_bytes 5000 (0 : Int32) r9.1 r9.2.1 r9.2.2.1 r9.2.2.2.1 r9.2.2.2.2 c_p2_size c_p2_sunny c_p2_book_forms c_p2_deeps c_p2_forms c_p2_kinds (1 : Int32)
def f_Book_become (c_t_forms : (Nat → Int32)) (c_p1_forms : (Nat → Int32))  : Option ((Nat → Int32)) :=
  (cpy c_p1_forms c_t_forms 26 26 (0 : Int32) (0 : Int32) (26 : Int32)).bind fun r1 =>
  some r1
def f_Plain_become (c_t_size : Int32) (c_t_hour : Int32) (c_t_sunny : Int32) (c_t_book_forms : (Nat → Int32)) (c_t_deeps : (Nat → Int32)) (c_t_forms : (Nat → Int32)) (c_t_kinds : (Nat → Int32)) (c_p1_size : Int32) (c_p1_hour : Int32) (c_p1_sunny : Int32) (c_p1_book_forms : (Nat → Int32)) (c_p1_deeps : (Nat → Int32)) (c_p1_forms : (Nat → Int32)) (c_p1_kinds : (Nat → Int32))  : Option (Int32 × Int32 × Int32 × (Nat → Int32) × (Nat → Int32) × (Nat → Int32) × (Nat → Int32)) :=
  (f_Book_become c_t_book_forms c_p1_book_forms).bind fun r1 =>
  (cpy c_p1_kinds c_t_kinds 12 12 (0 : Int32) (0 : Int32) (12 : Int32)).bind fun r2 =>
  (cpy c_p1_forms c_t_forms 12 12 (0 : Int32) (0 : Int32) (12 : Int32)).bind fun r3 =>
  (cpy c_p1_deeps c_t_deeps 12 12 (0 : Int32) (0 : Int32) (12 : Int32)).bind fun r4 =>
  some (c_p1_size, c_p1_hour, c_p1_sunny, r1, r4, r3, r2)
def f_S_field_b42  (c_t_tape_bytes : (Nat → Int32))  (c_t_plain_size : Int32) (c_t_plain_hour : Int32) (c_t_plain_sunny : Int32) (c_t_plain_book_forms : (Nat → Int32)) (c_t_plain_deeps : (Nat → Int32)) (c_t_plain_forms : (Nat → Int32)) (c_t_plain_kinds : (Nat → Int32)) (c_t_tape_length : Int32) (c_t_text_at : Int32) (c_t_text_tokens_size : Int32) (c_t_text_tokens_length : Int32) (c_t_text_tokens_starts : (Nat → Int32)) (c_t_text_tokens_types : (Nat → Int32)) (c_t_text_tokens_values : (Nat → Int32)) (c_t_trial_size : Int32) (c_t_trial_hour : Int32) (c_t_trial_sunny : Int32) (c_t_trial_book_forms : (Nat → Int32)) (c_t_trial_deeps : (Nat → Int32)) (c_t_trial_forms : (Nat → Int32)) (c_t_trial_kinds : (Nat → Int32)) (v1 : Int32) : Option (Int32 × Int32 × Int32 × Int32 × (Nat → Int32) × (Nat → Int32) × (Nat → Int32) × (Nat → Int32) × Int32 × Int32 × Int32 × Int32 × (Nat → Int32) × (Nat → Int32) × (Nat → Int32) × Int32 × Int32 × Int32 × (Nat → Int32) × (Nat → Int32) × (Nat → Int32) × (Nat → Int32)) :=
  (f_Tape_empty c_t_tape_length).bind fun r1 =>
  some (v1, c_t_plain_size, c_t_plain_hour, c_t_plain_sunny, c_t_plain_book_forms, c_t_plain_deeps, c_t_plain_forms, c_t_plain_kinds, r1.2, c_t_text_at, c_t_text_tokens_size, c_t_text_tokens_length, c_t_text_tokens_starts, c_t_text_tokens_types, c_t_text_tokens_values, c_t_trial_size, c_t_trial_hour, c_t_trial_sunny, c_t_trial_book_forms, c_t_trial_deeps, c_t_trial_forms, c_t_trial_kinds)
def f_S_field (c_t_plain_size : Int32) (c_t_plain_hour : Int32) (c_t_plain_sunny : Int32) (c_t_plain_book_forms : (Nat → Int32)) (c_t_plain_deeps : (Nat → Int32)) (c_t_plain_forms : (Nat → Int32)) (c_t_plain_kinds : (Nat → Int32)) (c_t_tape_length : Int32) (c_t_tape_bytes : (Nat → Int32)) (c_t_text_at : Int32) (c_t_text_tokens_size : Int32) (c_t_text_tokens_length : Int32) (c_t_text_tokens_starts : (Nat → Int32)) (c_t_text_tokens_types : (Nat → Int32)) (c_t_text_tokens_values : (Nat → Int32)) (c_t_trial_size : Int32) (c_t_trial_hour : Int32) (c_t_trial_sunny : Int32) (c_t_trial_book_forms : (Nat → Int32)) (c_t_trial_deeps : (Nat → Int32)) (c_t_trial_forms : (Nat → Int32)) (c_t_trial_kinds : (Nat → Int32))  : Option (Int32 × Int32 × Int32 × Int32 × (Nat → Int32) × (Nat → Int32) × (Nat → Int32) × (Nat → Int32) × Int32 × Int32 × Int32 × Int32 × (Nat → Int32) × (Nat → Int32) × (Nat → Int32) × Int32 × Int32 × Int32 × (Nat → Int32) × (Nat → Int32) × (Nat → Int32) × (Nat → Int32)) :=
  (f_Plain_become c_t_trial_size c_t_trial_hour c_t_trial_sunny c_t_trial_book_forms c_t_trial_deeps c_t_trial_forms c_t_trial_kinds c_t_plain_size c_t_plain_hour c_t_plain_sunny c_t_plain_book_forms c_t_plain_deeps c_t_plain_forms c_t_plain_kinds).bind fun r2 =>
  (f_FieldText_tell c_t_text_at c_t_text_tokens_size c_t_text_tokens_length c_t_text_tokens_starts c_t_text_tokens_types c_t_text_tokens_values c_t_tape_length c_t_tape_bytes r2.1 r2.2.2.1 r2.2.2.2.1 r2.2.2.2.2.1 r2.2.2.2.2.2.1 r2.2.2.2.2.2.2).bind fun r3 =>
  if r3.1 < (0 : Int32) then
    f_S_field_b42  c_t_tape_bytes c_t_plain_size c_t_plain_hour c_t_plain_sunny c_t_plain_book_forms c_t_plain_deeps c_t_plain_forms c_t_plain_kinds c_t_tape_length r3.2.1 r3.2.2.1 r3.2.2.2.1 r3.2.2.2.2.1 r3.2.2.2.2.2.1 r3.2.2.2.2.2.2.1 r3.2.2.2.2.2.2.2.1 r2.2.1 r3.2.2.2.2.2.2.2.2.1 r3.2.2.2.2.2.2.2.2.2.1 r3.2.2.2.2.2.2.2.2.2.2.1 r3.2.2.2.2.2.2.2.2.2.2.2.1 r3.2.2.2.2.2.2.2.2.2.2.2.2 r3.1
  else
    (f_Plain_become c_t_plain_size c_t_plain_hour c_t_plain_sunny c_t_plain_book_forms c_t_plain_deeps c_t_plain_forms c_t_plain_kinds r3.2.2.2.2.2.2.2.1 r2.2.1 r3.2.2.2.2.2.2.2.2.1 r3.2.2.2.2.2.2.2.2.2.1 r3.2.2.2.2.2.2.2.2.2.2.1 r3.2.2.2.2.2.2.2.2.2.2.2.1 r3.2.2.2.2.2.2.2.2.2.2.2.2).bind fun r5 =>
    f_S_field_b42  c_t_tape_bytes r5.1 r5.2.1 r5.2.2.1 r5.2.2.2.1 r5.2.2.2.2.1 r5.2.2.2.2.2.1 r5.2.2.2.2.2.2 c_t_tape_length r3.2.1 r3.2.2.1 r3.2.2.2.1 r3.2.2.2.2.1 r3.2.2.2.2.2.1 r3.2.2.2.2.2.2.1 r3.2.2.2.2.2.2.2.1 r2.2.1 r3.2.2.2.2.2.2.2.2.1 r3.2.2.2.2.2.2.2.2.2.1 r3.2.2.2.2.2.2.2.2.2.2.1 r3.2.2.2.2.2.2.2.2.2.2.2.1 r3.2.2.2.2.2.2.2.2.2.2.2.2 r3.1
def f_Sheets_isSheet  (a0 : Int32) : Option (Int32) :=
  if a0 < (0 : Int32) then
    some (0 : Int32)
  else
    if (4 : Int32) ≤ a0 then
      some (0 : Int32)
    else
      some (1 : Int32)
def f_Sheets_isWidth_b22   (a0 : Int32)  : Option (Int32) :=
  some (1 : Int32)
def f_Sheets_isWidth  (a0 : Int32) : Option (Int32) :=
  if a0 = (0 : Int32) then
    f_Sheets_isWidth_b22  a0 
  else
    if a0 = (8 : Int32) then
      f_Sheets_isWidth_b22  a0 
    else
      if a0 = (16 : Int32) then
        f_Sheets_isWidth_b22  a0 
      else
        if a0 = (64 : Int32) then
          f_Sheets_isWidth_b22  a0 
        else
          some (0 : Int32)
def f_Sheets_lay_b44   (a1 : Int32) (a2 : Int32) (a3 : Int32) : Nat → (Nat → Int64) → (Nat → Int32) → (Nat → Int32) → Int32 → Option (Int32 × (Nat → Int64) × (Nat → Int32) × (Nat → Int32))
  | 0, _, _, _, _ => none
  | n + 1, c_t_numbers, c_t_sizes, c_t_widths, v4 =>
    if (40 : Int32) ≤ v4 then
      (rd c_t_sizes 4 a1).bind fun r2 =>
      some (r2, c_t_numbers, c_t_sizes, c_t_widths)
    else
      (wrL c_t_numbers 160 ((a1 * (40 : Int32)) + v4) (0 : Int64)).bind fun r3 =>
      f_Sheets_lay_b44  a1 a2 a3 n r3 c_t_sizes c_t_widths (v4 + (1))
def f_Sheets_lay_b40   (a1 : Int32) (a2 : Int32) (a3 : Int32) (c_t_numbers : (Nat → Int64)) (c_t_sizes : (Nat → Int32)) (c_t_widths : (Nat → Int32)) (s0 : Int32) (s1 : Int32) : Option (Int32 × (Nat → Int64) × (Nat → Int32) × (Nat → Int32)) :=
  (wr c_t_sizes 4 s1 s0).bind fun r4 =>
  f_Sheets_lay_b44  a1 a2 a3 5000 c_t_numbers r4 c_t_widths (0 : Int32)
def f_Sheets_lay (c_t_numbers : (Nat → Int64)) (c_t_sizes : (Nat → Int32)) (c_t_widths : (Nat → Int32)) (a1 : Int32) (a2 : Int32) (a3 : Int32) : Option (Int32 × (Nat → Int64) × (Nat → Int32) × (Nat → Int32)) :=
  (f_Sheets_isSheet a1).bind fun r5 =>
  if r5 = (0 : Int32) then
    some ((0 : Int32), c_t_numbers, c_t_sizes, c_t_widths)
  else
    if a3 < (0 : Int32) then
      some ((0 : Int32), c_t_numbers, c_t_sizes, c_t_widths)
    else
      if a3 ≤ (40 : Int32) then
        (wr c_t_widths 4 a1 a2).bind fun r9 =>
        if a2 = (0 : Int32) then
          f_Sheets_lay_b40  a1 a2 a3 c_t_numbers c_t_sizes r9 (0 : Int32) a1
        else
          f_Sheets_lay_b40  a1 a2 a3 c_t_numbers c_t_sizes r9 a3 a1
      else
        some ((0 : Int32), c_t_numbers, c_t_sizes, c_t_widths)
def f_S_sheet_b14   (a1 : Int32) (a2 : Int32) (a3 : Int32) (c_t_found : (Nat → Int32)) (c_t_sheets_numbers : (Nat → Int64)) (c_t_sheets_sizes : (Nat → Int32)) (c_t_sheets_widths : (Nat → Int32)) : Option (Int32 × (Nat → Int32) × (Nat → Int64) × (Nat → Int32) × (Nat → Int32)) :=
  (f_S_finding c_t_found (-1000000001 : Int32)).bind fun r1 =>
  some (r1.1, r1.2, c_t_sheets_numbers, c_t_sheets_sizes, c_t_sheets_widths)
def f_S_sheet (c_t_found : (Nat → Int32)) (c_t_sheets_numbers : (Nat → Int64)) (c_t_sheets_sizes : (Nat → Int32)) (c_t_sheets_widths : (Nat → Int32)) (a1 : Int32) (a2 : Int32) (a3 : Int32) : Option (Int32 × (Nat → Int32) × (Nat → Int64) × (Nat → Int32) × (Nat → Int32)) :=
  (f_Sheets_isSheet a1).bind fun r2 =>
  if r2 = (0 : Int32) then
    f_S_sheet_b14  a1 a2 a3 c_t_found c_t_sheets_numbers c_t_sheets_sizes c_t_sheets_widths
  else
    (f_Sheets_isWidth a2).bind fun r4 =>
    if r4 = (0 : Int32) then
      f_S_sheet_b14  a1 a2 a3 c_t_found c_t_sheets_numbers c_t_sheets_sizes c_t_sheets_widths
    else
      if (0 : Int32) ≤ a3 then
        if a3 ≤ (40 : Int32) then
          (f_Sheets_lay c_t_sheets_numbers c_t_sheets_sizes c_t_sheets_widths a1 a2 a3).bind fun r8 =>
          some (r8.1, c_t_found, r8.2.1, r8.2.2.1, r8.2.2.2)
        else
          (f_S_finding c_t_found (-1000000001 : Int32)).bind fun r9 =>
          some (r9.1, r9.2, c_t_sheets_numbers, c_t_sheets_sizes, c_t_sheets_widths)
      else
        (f_S_finding c_t_found (-1000000007 : Int32)).bind fun r10 =>
        some (r10.1, r10.2, c_t_sheets_numbers, c_t_sheets_sizes, c_t_sheets_widths)
def f_Sheets_sizeOf (c_t_sizes : (Nat → Int32)) (a1 : Int32) : Option (Int32) :=
  (f_Sheets_isSheet a1).bind fun r1 =>
  if r1 = (0 : Int32) then
    some (0 : Int32)
  else
    (rd c_t_sizes 4 a1).bind fun r3 =>
    some r3
def f_Sheets_at (c_t_numbers : (Nat → Int64)) (c_t_sizes : (Nat → Int32)) (a1 : Int32) (a2 : Int32) : Option (Int64) :=
  if a2 < (0 : Int32) then
    some (0 : Int64)
  else
    (f_Sheets_sizeOf c_t_sizes a1).bind fun r2 =>
    if r2 ≤ a2 then
      some (0 : Int64)
    else
      (rd c_t_numbers 160 ((a1 * (40 : Int32)) + a2)).bind fun r4 =>
      some r4
def f_Sheets_isMissing_b16  (c_t_widths : (Nat → Int32)) (a1 : Int32)  : Option (Int32) :=
  some (1 : Int32)
def f_Sheets_isMissing (c_t_widths : (Nat → Int32)) (a1 : Int32) : Option (Int32) :=
  (f_Sheets_isSheet a1).bind fun r1 =>
  if r1 = (0 : Int32) then
    f_Sheets_isMissing_b16  c_t_widths a1 
  else
    (rd c_t_widths 4 a1).bind fun r3 =>
    if r3 = (0 : Int32) then
      f_Sheets_isMissing_b16  c_t_widths a1 
    else
      some (0 : Int32)
def f_Sheets_lowest  (a0 : Int32) (a1 : Int64) : Option (Int64) :=
  if a0 = (8 : Int32) then
    some a1.toInt32.toInt8.toInt32.toInt64
  else
  if a0 = (16 : Int32) then
    some a1.toInt32.toInt16.toInt32.toInt64
  else
  some a1
def f_Sheets_put (c_t_numbers : (Nat → Int64)) (c_t_sizes : (Nat → Int32)) (c_t_widths : (Nat → Int32)) (a1 : Int32) (a2 : Int32) (a3 : Int64) : Option ((Nat → Int64)) :=
  if a2 < (0 : Int32) then
    some c_t_numbers
  else
    (f_Sheets_sizeOf c_t_sizes a1).bind fun r2 =>
    if r2 ≤ a2 then
      some c_t_numbers
    else
      (rd c_t_widths 4 a1).bind fun r4 =>
      (f_Sheets_lowest r4 a3).bind fun r5 =>
      (wrL c_t_numbers 160 ((a1 * (40 : Int32)) + a2) r5).bind fun r6 =>
      some r6
def f_S_write_b50  (c_t_sheets_sizes : (Nat → Int32)) (c_t_sheets_widths : (Nat → Int32)) (a1 : Int32) (a2 : Int32) (a3 : Int64) (c_t_found : (Nat → Int32)) (c_t_sheets_numbers : (Nat → Int64)) : Option (Int64 × (Nat → Int32) × (Nat → Int64)) :=
  (f_S_finding c_t_found (-1000000001 : Int32)).bind fun r1 =>
  some (r1.1.toInt64, r1.2, c_t_sheets_numbers)
def f_S_write (c_t_found : (Nat → Int32)) (c_t_sheets_numbers : (Nat → Int64)) (c_t_sheets_sizes : (Nat → Int32)) (c_t_sheets_widths : (Nat → Int32)) (a1 : Int32) (a2 : Int32) (a3 : Int64) : Option (Int64 × (Nat → Int32) × (Nat → Int64)) :=
  (f_Sheets_isSheet a1).bind fun r2 =>
  if r2 = (0 : Int32) then
    (f_S_finding c_t_found (-1000000001 : Int32)).bind fun r12 =>
    some (r12.1.toInt64, r12.2, c_t_sheets_numbers)
  else
    (f_Sheets_isMissing c_t_sheets_widths a1).bind fun r4 =>
    if r4 = (0 : Int32) then
      if a2 < (0 : Int32) then
        f_S_write_b50  c_t_sheets_sizes c_t_sheets_widths a1 a2 a3 c_t_found c_t_sheets_numbers
      else
        (f_Sheets_sizeOf c_t_sheets_sizes a1).bind fun r7 =>
        if a2 < r7 then
          (f_Sheets_at c_t_sheets_numbers c_t_sheets_sizes a1 a2).bind fun r9 =>
          (f_Sheets_put c_t_sheets_numbers c_t_sheets_sizes c_t_sheets_widths a1 a2 a3).bind fun r10 =>
          some (r9, c_t_found, r10)
        else
          f_S_write_b50  c_t_sheets_sizes c_t_sheets_widths a1 a2 a3 c_t_found c_t_sheets_numbers
    else
      (f_S_finding c_t_found (-1000000006 : Int32)).bind fun r11 =>
      some (r11.1.toInt64, r11.2, c_t_sheets_numbers)
def f_Sheets_areAlike (c_t_widths : (Nat → Int32)) (a1 : Int32) (a2 : Int32) : Option (Int32) :=
  (f_Sheets_isSheet a1).bind fun r1 =>
  if r1 = (0 : Int32) then
    some (0 : Int32)
  else
    (f_Sheets_isSheet a2).bind fun r3 =>
    if r3 = (0 : Int32) then
      some (0 : Int32)
    else
      (rd c_t_widths 4 a1).bind fun r5 =>
      (rd c_t_widths 4 a2).bind fun r6 =>
      if r5 = r6 then
        some (1 : Int32)
      else
        some (0 : Int32)
def f_Sheets_holds (c_t_sizes : (Nat → Int32)) (a1 : Int32) (a2 : Int32) (a3 : Int32) : Option (Int32) :=
  (f_Sheets_sizeOf c_t_sizes a1).bind fun r1 =>
  if a2 < (0 : Int32) then
    some (0 : Int32)
  else
    if a3 < (0 : Int32) then
      some (0 : Int32)
    else
      if r1 < a2 then
        some (0 : Int32)
      else
        if (r1 - a2) < a3 then
          some (0 : Int32)
        else
          some (1 : Int32)
def f_Sheets_move (c_t_numbers : (Nat → Int64)) (c_t_sizes : (Nat → Int32)) (a1 : Int32) (a2 : Int32) (a3 : Int32) (a4 : Int32) (a5 : Int32) : Option ((Nat → Int64)) :=
  (f_Sheets_holds c_t_sizes a1 a2 a5).bind fun r1 =>
  if r1 = (0 : Int32) then
    some c_t_numbers
  else
    (f_Sheets_holds c_t_sizes a3 a4 a5).bind fun r3 =>
    if r3 = (0 : Int32) then
      some c_t_numbers
    else
      (cpy c_t_numbers c_t_numbers 160 160 ((a1 * (40 : Int32)) + a2) ((a3 * (40 : Int32)) + a4) a5).bind fun r5 =>
      some r5
def f_S_copy_b14  (c_t_sheets_sizes : (Nat → Int32)) (c_t_sheets_widths : (Nat → Int32)) (a1 : Int32) (a2 : Int32) (a3 : Int32) (a4 : Int32) (a5 : Int32) (c_t_found : (Nat → Int32)) (c_t_sheets_numbers : (Nat → Int64)) : Option (Int32 × (Nat → Int32) × (Nat → Int64)) :=
  (f_S_finding c_t_found (-1000000001 : Int32)).bind fun r1 =>
  some (r1.1, r1.2, c_t_sheets_numbers)
def f_S_copy_b43  (c_t_sheets_sizes : (Nat → Int32)) (c_t_sheets_widths : (Nat → Int32)) (a1 : Int32) (a2 : Int32) (a3 : Int32) (a4 : Int32) (a5 : Int32) (c_t_found : (Nat → Int32)) (c_t_sheets_numbers : (Nat → Int64)) : Option (Int32 × (Nat → Int32) × (Nat → Int64)) :=
  (f_S_finding c_t_found (-1000000006 : Int32)).bind fun r2 =>
  some (r2.1, r2.2, c_t_sheets_numbers)
def f_S_copy_b98  (c_t_sheets_sizes : (Nat → Int32)) (c_t_sheets_widths : (Nat → Int32)) (a1 : Int32) (a2 : Int32) (a3 : Int32) (a4 : Int32) (a5 : Int32) (c_t_found : (Nat → Int32)) (c_t_sheets_numbers : (Nat → Int64)) : Option (Int32 × (Nat → Int32) × (Nat → Int64)) :=
  (f_S_finding c_t_found (-1000000001 : Int32)).bind fun r3 =>
  some (r3.1, r3.2, c_t_sheets_numbers)
def f_S_copy (c_t_found : (Nat → Int32)) (c_t_sheets_numbers : (Nat → Int64)) (c_t_sheets_sizes : (Nat → Int32)) (c_t_sheets_widths : (Nat → Int32)) (a1 : Int32) (a2 : Int32) (a3 : Int32) (a4 : Int32) (a5 : Int32) : Option (Int32 × (Nat → Int32) × (Nat → Int64)) :=
  (f_Sheets_isSheet a1).bind fun r4 =>
  if r4 = (0 : Int32) then
    f_S_copy_b14  c_t_sheets_sizes c_t_sheets_widths a1 a2 a3 a4 a5 c_t_found c_t_sheets_numbers
  else
    (f_Sheets_isSheet a3).bind fun r6 =>
    if r6 = (0 : Int32) then
      f_S_copy_b14  c_t_sheets_sizes c_t_sheets_widths a1 a2 a3 a4 a5 c_t_found c_t_sheets_numbers
    else
      (f_Sheets_isMissing c_t_sheets_widths a1).bind fun r8 =>
      if r8 = (0 : Int32) then
        (f_Sheets_isMissing c_t_sheets_widths a3).bind fun r10 =>
        if r10 = (0 : Int32) then
          (f_Sheets_areAlike c_t_sheets_widths a1 a3).bind fun r12 =>
          if r12 = (0 : Int32) then
            (f_S_finding c_t_found (-1000000003 : Int32)).bind fun r19 =>
            some (r19.1, r19.2, c_t_sheets_numbers)
          else
            (f_Sheets_holds c_t_sheets_sizes a1 a2 a5).bind fun r14 =>
            if r14 = (0 : Int32) then
              f_S_copy_b98  c_t_sheets_sizes c_t_sheets_widths a1 a2 a3 a4 a5 c_t_found c_t_sheets_numbers
            else
              (f_Sheets_holds c_t_sheets_sizes a3 a4 a5).bind fun r16 =>
              if r16 = (0 : Int32) then
                f_S_copy_b98  c_t_sheets_sizes c_t_sheets_widths a1 a2 a3 a4 a5 c_t_found c_t_sheets_numbers
              else
                (f_Sheets_move c_t_sheets_numbers c_t_sheets_sizes a1 a2 a3 a4 a5).bind fun r18 =>
                some (a5, c_t_found, r18)
        else
          f_S_copy_b43  c_t_sheets_sizes c_t_sheets_widths a1 a2 a3 a4 a5 c_t_found c_t_sheets_numbers
      else
        f_S_copy_b43  c_t_sheets_sizes c_t_sheets_widths a1 a2 a3 a4 a5 c_t_found c_t_sheets_numbers
def f_Sheets_toBook_b17  (c_t_numbers : (Nat → Int64)) (c_t_sizes : (Nat → Int32)) (a1 : Int32) : Nat → (Nat → Int32) → Int32 → Int32 → Int32 → Option (Int32 × (Nat → Int32))
  | 0, _, _, _, _ => none
  | n + 1, c_p2_forms, v3, v4, v5 =>
    if v4 ≤ v5 then
      some (v3, c_p2_forms)
    else
      (f_Sheets_at c_t_numbers c_t_sizes a1 v5).bind fun r2 =>
      if (lg_cmp r2 (0 : Int64)) < (0 : Int32) then
        f_Sheets_toBook_b17  c_t_numbers c_t_sizes a1 n c_p2_forms v3 v4 (v5 + (1))
      else
        if (0 : Int32) < (lg_cmp r2 (4095 : Int64)) then
          f_Sheets_toBook_b17  c_t_numbers c_t_sizes a1 n c_p2_forms v3 v4 (v5 + (1))
        else
          (f_Book_put c_p2_forms v5 r2.toInt32).bind fun r5 =>
          f_Sheets_toBook_b17  c_t_numbers c_t_sizes a1 n r5 (v3 + (1)) v4 (v5 + (1))
def f_Sheets_toBook (c_t_numbers : (Nat → Int64)) (c_t_sizes : (Nat → Int32)) (c_p2_forms : (Nat → Int32)) (a1 : Int32) : Option (Int32 × (Nat → Int32)) :=
  (f_Sheets_sizeOf c_t_sizes a1).bind fun r6 =>
  f_Sheets_toBook_b17  c_t_numbers c_t_sizes a1 5000 c_p2_forms (0 : Int32) (if (26 : Int32) < r6 then (26 : Int32) else r6) (0 : Int32)
def f_S_lays (c_t_found : (Nat → Int32)) (c_t_plain_book_forms : (Nat → Int32)) (c_t_sheets_numbers : (Nat → Int64)) (c_t_sheets_sizes : (Nat → Int32)) (c_t_sheets_widths : (Nat → Int32)) (a1 : Int32) : Option (Int32 × (Nat → Int32) × (Nat → Int32)) :=
  (f_Sheets_isSheet a1).bind fun r1 =>
  if r1 = (0 : Int32) then
    (f_S_finding c_t_found (-1000000001 : Int32)).bind fun r7 =>
    some (r7.1, r7.2, c_t_plain_book_forms)
  else
    (f_Sheets_isMissing c_t_sheets_widths a1).bind fun r3 =>
    if r3 = (0 : Int32) then
      (f_Sheets_toBook c_t_sheets_numbers c_t_sheets_sizes c_t_plain_book_forms a1).bind fun r5 =>
      some (r5.1, c_t_found, r5.2)
    else
      (f_S_finding c_t_found (-1000000006 : Int32)).bind fun r6 =>
      some (r6.1, r6.2, c_t_plain_book_forms)
def f_S_show_b53  (c_t_plain_size : Int32) (c_t_plain_hour : Int32) (c_t_plain_sunny : Int32) (c_t_plain_book_forms : (Nat → Int32)) (c_t_plain_deeps : (Nat → Int32)) (c_t_plain_forms : (Nat → Int32)) (c_t_plain_kinds : (Nat → Int32)) (c_t_sheets_sizes : (Nat → Int32)) (c_t_sheets_widths : (Nat → Int32)) (a1 : Int32) : Nat → (Nat → Int32) → (Nat → Int64) → Int32 → Int32 → Option (Int32 × (Nat → Int32) × (Nat → Int64))
  | 0, _, _, _, _ => none
  | n + 1, c_t_found, c_t_sheets_numbers, v2, v3 =>
    if v2 ≤ v3 then
      some (v2, c_t_found, c_t_sheets_numbers)
    else
      (f_Plain_seenAs c_t_plain_hour c_t_plain_sunny c_t_plain_book_forms c_t_plain_deeps c_t_plain_forms c_t_plain_kinds v3).bind fun r2 =>
      (f_Sheets_put c_t_sheets_numbers c_t_sheets_sizes c_t_sheets_widths a1 v3 r2.toInt64).bind fun r3 =>
      f_S_show_b53  c_t_plain_size c_t_plain_hour c_t_plain_sunny c_t_plain_book_forms c_t_plain_deeps c_t_plain_forms c_t_plain_kinds c_t_sheets_sizes c_t_sheets_widths a1 n c_t_found r3 v2 (v3 + (1))
def f_S_show (c_t_found : (Nat → Int32)) (c_t_plain_size : Int32) (c_t_plain_hour : Int32) (c_t_plain_sunny : Int32) (c_t_plain_book_forms : (Nat → Int32)) (c_t_plain_deeps : (Nat → Int32)) (c_t_plain_forms : (Nat → Int32)) (c_t_plain_kinds : (Nat → Int32)) (c_t_sheets_numbers : (Nat → Int64)) (c_t_sheets_sizes : (Nat → Int32)) (c_t_sheets_widths : (Nat → Int32)) (a1 : Int32) : Option (Int32 × (Nat → Int32) × (Nat → Int64)) :=
  (f_Sheets_isSheet a1).bind fun r4 =>
  if r4 = (0 : Int32) then
    (f_S_finding c_t_found (-1000000001 : Int32)).bind fun r10 =>
    some (r10.1, r10.2, c_t_sheets_numbers)
  else
    (f_Sheets_isMissing c_t_sheets_widths a1).bind fun r6 =>
    if r6 = (0 : Int32) then
      (f_Sheets_sizeOf c_t_sheets_sizes a1).bind fun r8 =>
      f_S_show_b53  c_t_plain_size c_t_plain_hour c_t_plain_sunny c_t_plain_book_forms c_t_plain_deeps c_t_plain_forms c_t_plain_kinds c_t_sheets_sizes c_t_sheets_widths a1 5000 c_t_found c_t_sheets_numbers (if r8 < c_t_plain_size then r8 else c_t_plain_size) (0 : Int32)
    else
      (f_S_finding c_t_found (-1000000006 : Int32)).bind fun r9 =>
      some (r9.1, r9.2, c_t_sheets_numbers)
def f_Forms_between_b2   (a0 : Int32) (a1 : Int32) : Nat → Int32 → Option (Int32)
  | 0, _ => none
  | n + 1, v2 =>
    if (12 : Int32) ≤ v2 then
      some (-1 : Int32)
    else
      (f_Forms_across v2 a0).bind fun r2 =>
      if r2 = a1 then
        some v2
      else
        f_Forms_between_b2  a0 a1 n (v2 + (1))
def f_Forms_between  (a0 : Int32) (a1 : Int32) : Option (Int32) :=
  f_Forms_between_b2  a0 a1 5000 (0 : Int32)
def f_Sheets_walkOver_b79  (c_t_numbers : (Nat → Int64)) (c_t_sizes : (Nat → Int32)) (a1 : Int32) (a2 : Int32) (v5 : Int32) : Option (Int32) :=
  some ((1 : Int32) + v5)
def f_Sheets_walkOver_b12  (c_t_numbers : (Nat → Int64)) (c_t_sizes : (Nat → Int32)) (a1 : Int32) (a2 : Int32) : Nat → Int32 → Int32 → Int32 → Option (Int32)
  | 0, _, _, _ => none
  | n + 1, v3, v4, v5 =>
    if v3 ≤ v5 then
      if v4 = (0 : Int32) then
        some (0 : Int32)
      else
        some ((1 : Int32) + v3)
    else
      (f_Sheets_at c_t_numbers c_t_sizes a1 v5).bind fun r3 =>
      (f_Forms_isPoint r3).bind fun r4 =>
      if r4 = (0 : Int32) then
        some ((1 : Int32) + v5)
      else
        if v5 ≤ (0 : Int32) then
          f_Sheets_walkOver_b12  c_t_numbers c_t_sizes a1 a2 n v3 v4 (v5 + (1))
        else
          (f_Sheets_at c_t_numbers c_t_sizes a1 (v5 - (1 : Int32))).bind fun r7 =>
          (f_Sheets_at c_t_numbers c_t_sizes a1 v5).bind fun r8 =>
          (f_Forms_between r7.toInt32 r8.toInt32).bind fun r9 =>
          if r9 < (0 : Int32) then
            f_Sheets_walkOver_b79  c_t_numbers c_t_sizes a1 a2 v5
          else
            (f_Forms_hasStroke v4 r9).bind fun r11 =>
            if r11 = (0 : Int32) then
              f_Sheets_walkOver_b79  c_t_numbers c_t_sizes a1 a2 v5
            else
              f_Sheets_walkOver_b12  c_t_numbers c_t_sizes a1 a2 n v3 (v4 &&& (((1 : Int32) <<< (r9 &&& 31)) ^^^ (-1 : Int32))) (v5 + (1))
def f_Sheets_walkOver (c_t_numbers : (Nat → Int64)) (c_t_sizes : (Nat → Int32)) (a1 : Int32) (a2 : Int32) : Option (Int32) :=
  (f_Sheets_sizeOf c_t_sizes a1).bind fun r13 =>
  f_Sheets_walkOver_b12  c_t_numbers c_t_sizes a1 a2 5000 r13 a2 (0 : Int32)
def f_S_walk (c_t_found : (Nat → Int32)) (c_t_sheets_numbers : (Nat → Int64)) (c_t_sheets_sizes : (Nat → Int32)) (c_t_sheets_widths : (Nat → Int32)) (a1 : Int32) (a2 : Int32) : Option (Int32 × (Nat → Int32)) :=
  (f_Sheets_isSheet a1).bind fun r1 =>
  if r1 = (0 : Int32) then
    (f_S_finding c_t_found (-1000000001 : Int32)).bind fun r10 =>
    some (r10.1, r10.2)
  else
    (f_Sheets_isMissing c_t_sheets_widths a1).bind fun r3 =>
    if r3 = (0 : Int32) then
      (f_Forms_isForm a2).bind fun r5 =>
      if r5 = (0 : Int32) then
        (f_S_finding c_t_found (-1000000001 : Int32)).bind fun r8 =>
        some (r8.1, r8.2)
      else
        (f_Sheets_walkOver c_t_sheets_numbers c_t_sheets_sizes a1 a2).bind fun r7 =>
        some (r7, c_t_found)
    else
      (f_S_finding c_t_found (-1000000006 : Int32)).bind fun r9 =>
      some (r9.1, r9.2)
def f_S_image (c_t_isKept : Int32) (c_t_kept_size : Int32) (c_t_kept_hour : Int32) (c_t_kept_sunny : Int32) (c_t_kept_book_forms : (Nat → Int32)) (c_t_kept_deeps : (Nat → Int32)) (c_t_kept_forms : (Nat → Int32)) (c_t_kept_kinds : (Nat → Int32)) (c_t_plain_size : Int32) (c_t_plain_hour : Int32) (c_t_plain_sunny : Int32) (c_t_plain_book_forms : (Nat → Int32)) (c_t_plain_deeps : (Nat → Int32)) (c_t_plain_forms : (Nat → Int32)) (c_t_plain_kinds : (Nat → Int32))  : Option (Int32 × Int32 × Int32 × Int32 × Int32 × (Nat → Int32) × (Nat → Int32) × (Nat → Int32) × (Nat → Int32)) :=
  (f_Plain_become c_t_kept_size c_t_kept_hour c_t_kept_sunny c_t_kept_book_forms c_t_kept_deeps c_t_kept_forms c_t_kept_kinds c_t_plain_size c_t_plain_hour c_t_plain_sunny c_t_plain_book_forms c_t_plain_deeps c_t_plain_forms c_t_plain_kinds).bind fun r1 =>
  some ((1 : Int32), (1 : Int32), r1.1, r1.2.1, r1.2.2.1, r1.2.2.2.1, r1.2.2.2.2.1, r1.2.2.2.2.2.1, r1.2.2.2.2.2.2)
def f_S_undo (c_t_isKept : Int32) (c_t_found : (Nat → Int32)) (c_t_kept_size : Int32) (c_t_kept_hour : Int32) (c_t_kept_sunny : Int32) (c_t_kept_book_forms : (Nat → Int32)) (c_t_kept_deeps : (Nat → Int32)) (c_t_kept_forms : (Nat → Int32)) (c_t_kept_kinds : (Nat → Int32)) (c_t_plain_size : Int32) (c_t_plain_hour : Int32) (c_t_plain_sunny : Int32) (c_t_plain_book_forms : (Nat → Int32)) (c_t_plain_deeps : (Nat → Int32)) (c_t_plain_forms : (Nat → Int32)) (c_t_plain_kinds : (Nat → Int32))  : Option (Int32 × (Nat → Int32) × Int32 × Int32 × Int32 × (Nat → Int32) × (Nat → Int32) × (Nat → Int32) × (Nat → Int32)) :=
  if c_t_isKept = (0 : Int32) then
    (f_S_finding c_t_found (-1000000004 : Int32)).bind fun r3 =>
    some (r3.1, r3.2, c_t_plain_size, c_t_plain_hour, c_t_plain_sunny, c_t_plain_book_forms, c_t_plain_deeps, c_t_plain_forms, c_t_plain_kinds)
  else
    (f_Plain_become c_t_plain_size c_t_plain_hour c_t_plain_sunny c_t_plain_book_forms c_t_plain_deeps c_t_plain_forms c_t_plain_kinds c_t_kept_size c_t_kept_hour c_t_kept_sunny c_t_kept_book_forms c_t_kept_deeps c_t_kept_forms c_t_kept_kinds).bind fun r2 =>
    some (r2.1, c_t_found, r2.1, r2.2.1, r2.2.2.1, r2.2.2.2.1, r2.2.2.2.2.1, r2.2.2.2.2.2.1, r2.2.2.2.2.2.2)
def f_S_tear_b12    (c_t_isKept : Int32) (s0 : Int32) : Option (Int32 × Int32) :=
  some (s0, (0 : Int32))
def f_S_tear (c_t_isKept : Int32)  : Option (Int32 × Int32) :=
  if c_t_isKept = (0 : Int32) then
    f_S_tear_b12   c_t_isKept (0 : Int32)
  else
    f_S_tear_b12   c_t_isKept (1 : Int32)
def f_Book_countSigns_b4  (c_t_forms : (Nat → Int32))  : Nat → Int32 → Int32 → Option (Int32)
  | 0, _, _ => none
  | n + 1, v1, v2 =>
    if (26 : Int32) ≤ v2 then
      some v1
    else
      (rd c_t_forms 26 v2).bind fun r2 =>
      if r2 = (0 : Int32) then
        f_Book_countSigns_b4  c_t_forms n v1 (v2 + (1))
      else
        f_Book_countSigns_b4  c_t_forms n (v1 + (1)) (v2 + (1))
def f_Book_countSigns (c_t_forms : (Nat → Int32))  : Option (Int32) :=
  f_Book_countSigns_b4  c_t_forms 5000 (0 : Int32) (0 : Int32)
def f_Plain_strokesOfAll_b4  (c_t_size : Int32) (c_t_forms : (Nat → Int32))  : Nat → Int32 → Int32 → Option (Int32)
  | 0, _, _ => none
  | n + 1, v1, v2 =>
    if c_t_size ≤ v2 then
      some v1
    else
      (rd c_t_forms 12 v2).bind fun r2 =>
      (f_Int_bitCount r2).bind fun r3 =>
      f_Plain_strokesOfAll_b4  c_t_size c_t_forms n (v1 + r3) (v2 + (1))
def f_Plain_strokesOfAll (c_t_size : Int32) (c_t_forms : (Nat → Int32))  : Option (Int32) :=
  f_Plain_strokesOfAll_b4  c_t_size c_t_forms 5000 (0 : Int32) (0 : Int32)
def f_S_count (c_t_found : (Nat → Int32)) (c_t_plain_size : Int32) (c_t_plain_book_forms : (Nat → Int32)) (c_t_plain_forms : (Nat → Int32)) (c_t_tape_length : Int32) (a1 : Int32) : Option (Int32 × (Nat → Int32)) :=
  if a1 = (0 : Int32) then
    some (c_t_plain_size, c_t_found)
  else
  if a1 = (1 : Int32) then
    (f_Book_countSigns c_t_plain_book_forms).bind fun r2 =>
    some (r2, c_t_found)
  else
  if a1 = (2 : Int32) then
    some (c_t_tape_length, c_t_found)
  else
  if a1 = (3 : Int32) then
    (f_Plain_strokesOfAll c_t_plain_size c_t_plain_forms).bind fun r3 =>
    some (r3, c_t_found)
  else
  (f_S_finding c_t_found (-1000000001 : Int32)).bind fun r4 =>
  some (r4.1, r4.2)
def f_S_status_b48   (a1 : Int32) (c_t_found : (Nat → Int32)) : Option (Int32 × (Nat → Int32)) :=
  (f_S_finding c_t_found (-1000000001 : Int32)).bind fun r1 =>
  some (r1.1, r1.2)
def f_S_status_b9   (a1 : Int32) : Nat → (Nat → Int32) → Int32 → Int32 → Option (Int32 × (Nat → Int32))
  | 0, _, _, _ => none
  | n + 1, c_t_found, v2, v3 =>
    if (7 : Int32) ≤ v3 then
      some (v2, c_t_found)
    else
      (rd c_t_found 7 v3).bind fun r3 =>
      f_S_status_b9  a1 n c_t_found (v2 + r3) (v3 + (1))
def f_S_status (c_t_found : (Nat → Int32)) (a1 : Int32) : Option (Int32 × (Nat → Int32)) :=
  if a1 = (-1 : Int32) then
    f_S_status_b9  a1 5000 c_t_found (0 : Int32) (0 : Int32)
  else
    if a1 < (0 : Int32) then
      f_S_status_b48  a1 c_t_found
    else
      if a1 < (7 : Int32) then
        (rd c_t_found 7 a1).bind fun r7 =>
        some (r7, c_t_found)
      else
        f_S_status_b48  a1 c_t_found
