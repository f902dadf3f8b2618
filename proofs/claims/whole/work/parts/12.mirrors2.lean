def f_M_in  (a0 : Int32) (a1 : Int32) (a2 : Int32) : Option (Int32) :=
  if a0 < a1 then
    some (0 : Int32)
  else
    if a2 < a0 then
      some (0 : Int32)
    else
      some (1 : Int32)
def f_M_no (c_t_findings : (Nat → Int32)) (a1 : Int32) : Option (Int32 × (Nat → Int32)) :=
  (rd c_t_findings 7 a1).bind fun r1 =>
  (wr c_t_findings 7 a1 (r1 + (1 : Int32))).bind fun r2 =>
  some (((-1000000001 : Int32) - a1), r2)
def f_M_lay_b2  (c_p0 : (Nat → Int32))  : Nat → (Nat → Int32) → Int32 → Option ((Nat → Int32))
  | 0, _, _ => none
  | n + 1, c_p1, v2 =>
    if (65 : Int32) ≤ v2 then
      some c_p1
    else
      (rd c_p0 65 v2).bind fun r2 =>
      (wr c_p1 65 v2 r2).bind fun r3 =>
      f_M_lay_b2  c_p0 n r3 (v2 + (1))
def f_M_lay (c_p0 : (Nat → Int32)) (c_p1 : (Nat → Int32))  : Option ((Nat → Int32)) :=
  f_M_lay_b2  c_p0 5000 c_p1 (0 : Int32)
def f_M_puts (c_t_s : (Nat → Int32)) (a1 : Int32) (a2 : Int32) : Option (Int32 × (Nat → Int32)) :=
  (rd c_t_s 65 a1).bind fun r1 =>
  (wr c_t_s 65 a1 a2).bind fun r2 =>
  some (r1, r2)
def f_M_isForm  (a0 : Int32) : Option (Int32) :=
  (f_M_in a0 (0 : Int32) (4095 : Int32)).bind fun r1 =>
  (bl r1).bind fun b2 =>
  some b2
def f_M_isPoint  (a0 : Int32) : Option (Int32) :=
  (f_M_in a0 (0 : Int32) (8 : Int32)).bind fun r1 =>
  (bl r1).bind fun b2 =>
  some b2
def f_M_isSign  (a0 : Int32) : Option (Int32) :=
  (f_M_in a0 (0 : Int32) (25 : Int32)).bind fun r1 =>
  (bl r1).bind fun b2 =>
  some b2
def f_M_isKind  (a0 : Int32) : Option (Int32) :=
  (f_M_in a0 (0 : Int32) (5 : Int32)).bind fun r1 =>
  (bl r1).bind fun b2 =>
  some b2
def f_M_isLetter (c_t_s : (Nat → Int32)) (a1 : Int32) : Option (Int32) :=
  (rd c_t_s 65 (2 : Int32)).bind fun r1 =>
  (f_M_in a1 (0 : Int32) (r1 - (1 : Int32))).bind fun r2 =>
  (bl r2).bind fun b3 =>
  some b3
def f_M_at  (a1 : Int32) (a2 : Int32) : Option (Int32) :=
  some (((29 : Int32) + ((3 : Int32) * a1)) + a2)
def f_M_oneEnd  (a0 : Int32) : Option (Int32) :=
  if (6 : Int32) ≤ a0 then
    some (a0 - (6 : Int32))
  else
    some (((3 : Int32) * (a0 / (2 : Int32))) + (a0 - a0 / (2 : Int32) * (2 : Int32)))
def f_M_otherEnd  (a0 : Int32) : Option (Int32) :=
  if (6 : Int32) ≤ a0 then
    some (a0 - (3 : Int32))
  else
    (f_M_oneEnd a0).bind fun r2 =>
    some (r2 + (1 : Int32))
def f_M_has  (a0 : Int32) (a1 : Int32) : Option (Int32) :=
  if (a0 &&& ((1 : Int32) <<< (a1 &&& 31))) = (0 : Int32) then
    some (0 : Int32)
  else
    some (1 : Int32)
def f_M_ends_b16   (a0 : Int32) (a1 : Int32)  : Option (Int32) :=
  some (1 : Int32)
def f_M_ends  (a0 : Int32) (a1 : Int32) : Option (Int32) :=
  (f_M_oneEnd a0).bind fun r1 =>
  if r1 = a1 then
    f_M_ends_b16  a0 a1 
  else
    (f_M_otherEnd a0).bind fun r3 =>
    if r3 = a1 then
      f_M_ends_b16  a0 a1 
    else
      some (0 : Int32)
def f_M_ones_b4   (a0 : Int32) : Nat → Int32 → Int32 → Option (Int32)
  | 0, _, _ => none
  | n + 1, v1, v2 =>
    if v2 = (0 : Int32) then
      some v1
    else
      f_M_ones_b4  a0 n (v1 + (1)) (v2 &&& (v2 - (1 : Int32)))
def f_M_ones  (a0 : Int32) : Option (Int32) :=
  f_M_ones_b4  a0 5000 (0 : Int32) a0
def f_M_degree_b32 (k4 : Int32 → Int32 → Option (Int32))  (a0 : Int32) (a1 : Int32) (v3 : Int32) (s0 : Int32) (s1 : Int32) : Option (Int32) :=
  k4 (s1 + s0) (v3 + (1))
def f_M_degree_b4   (a0 : Int32) (a1 : Int32) : Nat → Int32 → Int32 → Option (Int32)
  | 0, _, _ => none
  | n + 1, v2, v3 =>
    if (12 : Int32) ≤ v3 then
      some v2
    else
      (f_M_has a0 v3).bind fun r2 =>
      if r2 = (0 : Int32) then
        f_M_degree_b32 (f_M_degree_b4  a0 a1 n) a0 a1 v3 (0 : Int32) v2
      else
        (f_M_ends v3 a1).bind fun r4 =>
        if r4 = (0 : Int32) then
          f_M_degree_b32 (f_M_degree_b4  a0 a1 n) a0 a1 v3 (0 : Int32) v2
        else
          f_M_degree_b32 (f_M_degree_b4  a0 a1 n) a0 a1 v3 (1 : Int32) v2
def f_M_degree  (a0 : Int32) (a1 : Int32) : Option (Int32) :=
  f_M_degree_b4  a0 a1 5000 (0 : Int32) (0 : Int32)
def f_M_odds_b4   (a0 : Int32) : Nat → Int32 → Int32 → Option (Int32)
  | 0, _, _ => none
  | n + 1, v1, v2 =>
    if (9 : Int32) ≤ v2 then
      some v1
    else
      (f_M_degree a0 v2).bind fun r2 =>
      f_M_odds_b4  a0 n (v1 ||| ((r2 &&& (1 : Int32)) <<< (v2 &&& 31))) (v2 + (1))
def f_M_odds  (a0 : Int32) : Option (Int32) :=
  f_M_odds_b4  a0 5000 (0 : Int32) (0 : Int32)
def f_M_pieceOf_b83 (k6 : Int32 → Int32 → Option (Int32)) (k15 : Int32 → Int32 → Int32 → Option (Int32))  (a0 : Int32) (a1 : Int32) (v3 : Int32) (v4 : Int32) (v5 : Int32) (s0 : Int32) (s1 : Int32) : Option (Int32) :=
  k15 (s1 ||| s0) (v3 ||| v5) (v4 + (1))
def f_M_pieceOf_b67 (k6 : Int32 → Int32 → Option (Int32)) (k15 : Int32 → Int32 → Int32 → Option (Int32))  (a0 : Int32) (a1 : Int32) (v2 : Int32) (v3 : Int32) (v4 : Int32) (s0 : Int32) : Option (Int32) :=
  if s0 = (0 : Int32) then
    f_M_pieceOf_b83 k6 k15 a0 a1 v3 v4 s0 (0 : Int32) v2
  else
    f_M_pieceOf_b83 k6 k15 a0 a1 v3 v4 s0 ((1 : Int32) <<< (v4 &&& 31)) v2
def f_M_pieceOf_b15 (k6 : Int32 → Int32 → Option (Int32))  (a0 : Int32) (a1 : Int32) : Nat → Int32 → Int32 → Int32 → Option (Int32)
  | 0, _, _, _ => none
  | n + 1, v2, v3, v4 =>
    if (12 : Int32) ≤ v4 then
      k6 v2 v3
    else
      (f_M_has a0 v4).bind fun r3 =>
      if r3 = (0 : Int32) then
        f_M_pieceOf_b67 k6 (f_M_pieceOf_b15 k6 a0 a1 n) a0 a1 v2 v3 v4 (0 : Int32)
      else
        (f_M_has v2 v4).bind fun r5 =>
        if r5 = (0 : Int32) then
          (f_M_oneEnd v4).bind fun r7 =>
          (f_M_degree v2 r7).bind fun r8 =>
          (f_M_otherEnd v4).bind fun r9 =>
          (f_M_degree v2 r9).bind fun r10 =>
          if (r8 + r10) ≤ (0 : Int32) then
            f_M_pieceOf_b67 k6 (f_M_pieceOf_b15 k6 a0 a1 n) a0 a1 v2 v3 v4 (0 : Int32)
          else
            f_M_pieceOf_b67 k6 (f_M_pieceOf_b15 k6 a0 a1 n) a0 a1 v2 v3 v4 (1 : Int32)
        else
          f_M_pieceOf_b67 k6 (f_M_pieceOf_b15 k6 a0 a1 n) a0 a1 v2 v3 v4 (0 : Int32)
def f_M_pieceOf_b6   (a0 : Int32) (a1 : Int32) : Nat → Int32 → Int32 → Option (Int32)
  | 0, _, _ => none
  | n + 1, v2, v3 =>
    if v3 = (0 : Int32) then
      some v2
    else
      f_M_pieceOf_b15 (f_M_pieceOf_b6  a0 a1 n) a0 a1 5000 v2 (0 : Int32) (0 : Int32)
def f_M_pieceOf  (a0 : Int32) (a1 : Int32) : Option (Int32) :=
  f_M_pieceOf_b6  a0 a1 5000 ((1 : Int32) <<< (a1 &&& 31)) (1 : Int32)
def f_M_least_b2   (a0 : Int32) : Nat → Int32 → Option (Int32)
  | 0, _ => none
  | n + 1, v1 =>
    (f_M_has a0 v1).bind fun r1 =>
    if r1 = (0 : Int32) then
      f_M_least_b2  a0 n (v1 + (1))
    else
      some v1
def f_M_least  (a0 : Int32) : Option (Int32) :=
  f_M_least_b2  a0 5000 (0 : Int32)
def f_M_piecesOf_b4   (a0 : Int32) : Nat → Int32 → Int32 → Option (Int32)
  | 0, _, _ => none
  | n + 1, v1, v2 =>
    if v2 = (0 : Int32) then
      some v1
    else
      (f_M_least v2).bind fun r2 =>
      (f_M_pieceOf a0 r2).bind fun r3 =>
      f_M_piecesOf_b4  a0 n (v1 + (1)) (v2 &&& (r3 ^^^ (-1 : Int32)))
def f_M_piecesOf  (a0 : Int32) : Option (Int32) :=
  f_M_piecesOf_b4  a0 5000 (0 : Int32) a0
def f_M_linesOf_b41 (k4 : Int32 → Int32 → Option (Int32))  (a0 : Int32) (v2 : Int32) (v3 : Int32) (s0 : Int32) (s1 : Int32) : Option (Int32) :=
  k4 (s1 + s0) (v2 &&& (v3 ^^^ (-1 : Int32)))
def f_M_linesOf_b4   (a0 : Int32) : Nat → Int32 → Int32 → Option (Int32)
  | 0, _, _ => none
  | n + 1, v1, v2 =>
    if v2 = (0 : Int32) then
      some v1
    else
      (f_M_least v2).bind fun r2 =>
      (f_M_pieceOf a0 r2).bind fun r3 =>
      (f_M_odds r3).bind fun r4 =>
      (f_M_ones r4).bind fun r5 =>
      if (r5 / (2 : Int32)) ≤ (1 : Int32) then
        f_M_linesOf_b41 (f_M_linesOf_b4  a0 n) a0 v2 r3 (1 : Int32) v1
      else
        f_M_linesOf_b41 (f_M_linesOf_b4  a0 n) a0 v2 r3 (r5 / (2 : Int32)) v1
def f_M_linesOf  (a0 : Int32) : Option (Int32) :=
  f_M_linesOf_b4  a0 5000 (0 : Int32) a0
def f_M_straysOf  (a0 : Int32) : Option (Int32) :=
  if a0 = (0 : Int32) then
    some (0 : Int32)
  else
    (f_M_linesOf a0).bind fun r2 =>
    some (r2 - (1 : Int32))
def f_M_odd (c_t_findings : (Nat → Int32)) (a1 : Int32) : Option (Int32 × (Nat → Int32)) :=
  (f_M_isForm a1).bind fun r1 =>
  if r1 = (0 : Int32) then
    (f_M_no c_t_findings (0 : Int32)).bind fun r3 =>
    some (r3.1, r3.2)
  else
    (f_M_odds a1).bind fun r4 =>
    some (r4, c_t_findings)
def f_M_pieces (c_t_findings : (Nat → Int32)) (a1 : Int32) : Option (Int32 × (Nat → Int32)) :=
  (f_M_isForm a1).bind fun r1 =>
  if r1 = (0 : Int32) then
    (f_M_no c_t_findings (0 : Int32)).bind fun r3 =>
    some (r3.1, r3.2)
  else
    (f_M_piecesOf a1).bind fun r4 =>
    some (r4, c_t_findings)
def f_M_lines (c_t_findings : (Nat → Int32)) (a1 : Int32) : Option (Int32 × (Nat → Int32)) :=
  (f_M_isForm a1).bind fun r1 =>
  if r1 = (0 : Int32) then
    (f_M_no c_t_findings (0 : Int32)).bind fun r3 =>
    some (r3.1, r3.2)
  else
    (f_M_linesOf a1).bind fun r4 =>
    some (r4, c_t_findings)
def f_M_strays (c_t_findings : (Nat → Int32)) (a1 : Int32) : Option (Int32 × (Nat → Int32)) :=
  (f_M_isForm a1).bind fun r1 =>
  if r1 = (0 : Int32) then
    (f_M_no c_t_findings (0 : Int32)).bind fun r3 =>
    some (r3.1, r3.2)
  else
    (f_M_straysOf a1).bind fun r4 =>
    some (r4, c_t_findings)
def f_M_waysFrom_b11  (rec : Int32 → Int32 → Option (Int64))  (a0 : Int32) (a1 : Int32) : Nat → Int64 → Int32 → Option (Int64)
  | 0, _, _ => none
  | n + 1, v2, v4 =>
    if (12 : Int32) ≤ v4 then
      some v2
    else
      (f_M_has a0 v4).bind fun r2 =>
      if r2 = (0 : Int32) then
        f_M_waysFrom_b11  rec a0 a1 n v2 (v4 + (1))
      else
        (f_M_ends v4 a1).bind fun r4 =>
        if r4 = (0 : Int32) then
          f_M_waysFrom_b11  rec a0 a1 n v2 (v4 + (1))
        else
          (f_M_oneEnd v4).bind fun r6 =>
          (f_M_otherEnd v4).bind fun r7 =>
          (rec (a0 &&& (((1 : Int32) <<< (v4 &&& 31)) ^^^ (-1 : Int32))) ((r6 + r7) - a1)).bind fun r8 =>
          f_M_waysFrom_b11  rec a0 a1 n (v2 + r8) (v4 + (1))
def f_M_waysFrom_e (rec : Int32 → Int32 → Option (Int64)) (a0 : Int32) (a1 : Int32) : Option (Int64) :=
  if a0 = (0 : Int32) then
    some (1 : Int64)
  else
    f_M_waysFrom_b11  rec a0 a1 5000 (0 : Int64) (0 : Int32)
def f_M_waysFrom : Nat → Int32 → Int32 → Option (Int64)
  | 0, _, _ => none
  | n + 1, a0, a1 => f_M_waysFrom_e (f_M_waysFrom n) a0 a1
def f_M_ways_b22   (a1 : Int32) (a2 : Int32) (c_t_findings : (Nat → Int32)) : Option (Int64 × (Nat → Int32)) :=
  (f_M_no c_t_findings (0 : Int32)).bind fun r1 =>
  some (r1.1.toInt64, r1.2)
def f_M_ways (c_t_findings : (Nat → Int32)) (a1 : Int32) (a2 : Int32) : Option (Int64 × (Nat → Int32)) :=
  (f_M_isForm a1).bind fun r2 =>
  if r2 = (0 : Int32) then
    f_M_ways_b22  a1 a2 c_t_findings
  else
    (f_M_isPoint a2).bind fun r4 =>
    if r4 = (0 : Int32) then
      f_M_ways_b22  a1 a2 c_t_findings
    else
      (f_M_waysFrom 14 a1 a2).bind fun r6 =>
      some (r6, c_t_findings)
def f_M_nextStroke_b2   (a0 : Int32) (a1 : Int32) : Nat → Int32 → Option (Int32)
  | 0, _ => none
  | n + 1, v2 =>
    (f_M_has a0 v2).bind fun r1 =>
    if r1 = (0 : Int32) then
      f_M_nextStroke_b2  a0 a1 n (v2 + (1))
    else
      (f_M_ends v2 a1).bind fun r3 =>
      if r3 = (0 : Int32) then
        f_M_nextStroke_b2  a0 a1 n (v2 + (1))
      else
        (f_M_oneEnd v2).bind fun r5 =>
        (f_M_otherEnd v2).bind fun r6 =>
        (f_M_waysFrom 14 (a0 &&& (((1 : Int32) <<< (v2 &&& 31)) ^^^ (-1 : Int32))) ((r5 + r6) - a1)).bind fun r7 =>
        if (lg_cmp r7 (0 : Int64)) = (0 : Int32) then
          f_M_nextStroke_b2  a0 a1 n (v2 + (1))
        else
          some v2
def f_M_nextStroke  (a0 : Int32) (a1 : Int32) : Option (Int32) :=
  f_M_nextStroke_b2  a0 a1 5000 (0 : Int32)
def f_M_ith_b24   (a1 : Int32) (a2 : Int32) (a3 : Int32) (c_t_findings : (Nat → Int32)) : Option (Int32 × (Nat → Int32)) :=
  (f_M_no c_t_findings (0 : Int32)).bind fun r1 =>
  some (r1.1, r1.2)
def f_M_ith_b48   (a1 : Int32) (a2 : Int32) (a3 : Int32) (c_t_findings : (Nat → Int32)) : Option (Int32 × (Nat → Int32)) :=
  (f_M_no c_t_findings (3 : Int32)).bind fun r2 =>
  some (r2.1, r2.2)
def f_M_ith_b72   (a1 : Int32) (a2 : Int32) (a3 : Int32) : Nat → (Nat → Int32) → Int32 → Int32 → Int32 → Int32 → Option (Int32 × (Nat → Int32))
  | 0, _, _, _, _, _ => none
  | n + 1, c_t_findings, v4, v5, v6, v7 =>
    if a3 ≤ v7 then
      some (v6, c_t_findings)
    else
      (f_M_oneEnd v6).bind fun r4 =>
      (f_M_otherEnd v6).bind fun r5 =>
      (f_M_nextStroke (v4 &&& (((1 : Int32) <<< (v6 &&& 31)) ^^^ (-1 : Int32))) ((r4 + r5) - v5)).bind fun r6 =>
      f_M_ith_b72  a1 a2 a3 n c_t_findings (v4 &&& (((1 : Int32) <<< (v6 &&& 31)) ^^^ (-1 : Int32))) ((r4 + r5) - v5) r6 (v7 + (1))
def f_M_ith (c_t_findings : (Nat → Int32)) (a1 : Int32) (a2 : Int32) (a3 : Int32) : Option (Int32 × (Nat → Int32)) :=
  (f_M_isForm a1).bind fun r7 =>
  if r7 = (0 : Int32) then
    f_M_ith_b24  a1 a2 a3 c_t_findings
  else
    (f_M_isPoint a2).bind fun r9 =>
    if r9 = (0 : Int32) then
      f_M_ith_b24  a1 a2 a3 c_t_findings
    else
      (f_M_in a3 (0 : Int32) (11 : Int32)).bind fun r11 =>
      if r11 = (0 : Int32) then
        f_M_ith_b24  a1 a2 a3 c_t_findings
      else
        (f_M_waysFrom 14 a1 a2).bind fun r13 =>
        if (lg_cmp r13 (0 : Int64)) = (0 : Int32) then
          f_M_ith_b48  a1 a2 a3 c_t_findings
        else
          (f_M_ones a1).bind fun r15 =>
          if a3 < r15 then
            (f_M_nextStroke a1 a2).bind fun r17 =>
            f_M_ith_b72  a1 a2 a3 5000 c_t_findings a1 a2 r17 (0 : Int32)
          else
            f_M_ith_b48  a1 a2 a3 c_t_findings
def f_M_again_b67 (k38 : (Nat → Int32) → Int32 → Int32 → Int32 → Option (Int32 × (Nat → Int32)))  (a1 : Int32) (c_t_findings : (Nat → Int32)) (v2 : Int32) (v3 : Int32) (v4 : Int32) : Option (Int32 × (Nat → Int32)) :=
  k38 c_t_findings v2 v3 ((v4 - (1 : Int32)) &&& a1)
def f_M_again_b38   (a1 : Int32) : Nat → (Nat → Int32) → Int32 → Int32 → Int32 → Option (Int32 × (Nat → Int32))
  | 0, _, _, _, _ => none
  | n + 1, c_t_findings, v2, v3, v4 =>
    if v4 ≤ (0 : Int32) then
      if v2 = (0 : Int32) then
        some ((0 : Int32), c_t_findings)
      else
        some (v3, c_t_findings)
    else
      (f_M_ones v4).bind fun r3 =>
      if v3 ≤ r3 then
        f_M_again_b67 (f_M_again_b38  a1 n) a1 c_t_findings v2 v3 v4
      else
        (f_M_odds v4).bind fun r5 =>
        if r5 = v2 then
          (f_M_ones v4).bind fun r7 =>
          f_M_again_b67 (f_M_again_b38  a1 n) a1 c_t_findings v2 r7 v4
        else
          f_M_again_b67 (f_M_again_b38  a1 n) a1 c_t_findings v2 v3 v4
def f_M_again (c_t_findings : (Nat → Int32)) (a1 : Int32) : Option (Int32 × (Nat → Int32)) :=
  (f_M_isForm a1).bind fun r8 =>
  if r8 = (0 : Int32) then
    (f_M_no c_t_findings (0 : Int32)).bind fun r14 =>
    some (r14.1, r14.2)
  else
    (f_M_piecesOf a1).bind fun r10 =>
    if r10 ≤ (1 : Int32) then
      (f_M_odds a1).bind fun r12 =>
      f_M_again_b38  a1 5000 c_t_findings r12 (12 : Int32) a1
    else
      (f_M_no c_t_findings (3 : Int32)).bind fun r13 =>
      some (r13.1, r13.2)
def f_M_quarter  (a0 : Int32) : Option (Int32) :=
  some ((((3 : Int32) * (a0 - a0 / (3 : Int32) * (3 : Int32))) + (2 : Int32)) - (a0 / (3 : Int32)))
def f_M_strokeOf_b2   (a0 : Int32) (a1 : Int32) : Nat → Int32 → Option (Int32)
  | 0, _ => none
  | n + 1, v2 =>
    (f_M_ends v2 a0).bind fun r1 =>
    if r1 = (0 : Int32) then
      f_M_strokeOf_b2  a0 a1 n (v2 + (1))
    else
      (f_M_ends v2 a1).bind fun r3 =>
      if r3 = (0 : Int32) then
        f_M_strokeOf_b2  a0 a1 n (v2 + (1))
      else
        some v2
def f_M_strokeOf  (a0 : Int32) (a1 : Int32) : Option (Int32) :=
  f_M_strokeOf_b2  a0 a1 5000 (0 : Int32)
def f_M_turned_b16   (a1 : Int32) (a2 : Int32) (c_t_findings : (Nat → Int32)) : Option (Int32 × (Nat → Int32)) :=
  (f_M_no c_t_findings (0 : Int32)).bind fun r1 =>
  some (r1.1, r1.2)
def f_M_turned_b82 (k27 : (Nat → Int32) → Int32 → Int32 → Option (Int32 × (Nat → Int32))) (k39 : (Nat → Int32) → Int32 → Int32 → Int32 → Int32 → Option (Int32 × (Nat → Int32)))  (a1 : Int32) (a2 : Int32) (c_t_findings : (Nat → Int32)) (v3 : Int32) (v4 : Int32) (v6 : Int32) (s0 : Int32) (s1 : Int32) : Option (Int32 × (Nat → Int32)) :=
  k39 c_t_findings v3 v4 (s1 ||| s0) (v6 + (1))
def f_M_turned_b39 (k27 : (Nat → Int32) → Int32 → Int32 → Option (Int32 × (Nat → Int32)))  (a1 : Int32) (a2 : Int32) : Nat → (Nat → Int32) → Int32 → Int32 → Int32 → Int32 → Option (Int32 × (Nat → Int32))
  | 0, _, _, _, _, _ => none
  | n + 1, c_t_findings, v3, v4, v5, v6 =>
    if (12 : Int32) ≤ v6 then
      k27 c_t_findings v5 (v4 + (1))
    else
      (f_M_has v3 v6).bind fun r3 =>
      if r3 = (0 : Int32) then
        f_M_turned_b82 k27 (f_M_turned_b39 k27 a1 a2 n) a1 a2 c_t_findings v3 v4 v6 (0 : Int32) v5
      else
        (f_M_oneEnd v6).bind fun r5 =>
        (f_M_quarter r5).bind fun r6 =>
        (f_M_otherEnd v6).bind fun r7 =>
        (f_M_quarter r7).bind fun r8 =>
        (f_M_strokeOf r6 r8).bind fun r9 =>
        f_M_turned_b82 k27 (f_M_turned_b39 k27 a1 a2 n) a1 a2 c_t_findings v3 v4 v6 ((1 : Int32) <<< (r9 &&& 31)) v5
def f_M_turned_b27   (a1 : Int32) (a2 : Int32) : Nat → (Nat → Int32) → Int32 → Int32 → Option (Int32 × (Nat → Int32))
  | 0, _, _, _ => none
  | n + 1, c_t_findings, v3, v4 =>
    if a2 ≤ v4 then
      some (v3, c_t_findings)
    else
      f_M_turned_b39 (f_M_turned_b27  a1 a2 n) a1 a2 5000 c_t_findings v3 v4 (0 : Int32) (0 : Int32)
def f_M_turned (c_t_findings : (Nat → Int32)) (a1 : Int32) (a2 : Int32) : Option (Int32 × (Nat → Int32)) :=
  (f_M_isForm a1).bind fun r11 =>
  if r11 = (0 : Int32) then
    f_M_turned_b16  a1 a2 c_t_findings
  else
    (f_M_in a2 (0 : Int32) (3 : Int32)).bind fun r13 =>
    if r13 = (0 : Int32) then
      f_M_turned_b16  a1 a2 c_t_findings
    else
      f_M_turned_b27  a1 a2 5000 c_t_findings a1 (0 : Int32)
def f_M_sign_b25   (a1 : Int32) (a2 : Int32) (c_t_findings : (Nat → Int32)) (c_t_s : (Nat → Int32)) : Option (Int32 × (Nat → Int32) × (Nat → Int32)) :=
  (f_M_no c_t_findings (0 : Int32)).bind fun r1 =>
  some (r1.1, r1.2, c_t_s)
def f_M_sign (c_t_findings : (Nat → Int32)) (c_t_s : (Nat → Int32)) (a1 : Int32) (a2 : Int32) : Option (Int32 × (Nat → Int32) × (Nat → Int32)) :=
  (f_M_isSign a1).bind fun r2 =>
  if r2 = (0 : Int32) then
    f_M_sign_b25  a1 a2 c_t_findings c_t_s
  else
    (f_M_isForm a2).bind fun r4 =>
    if r4 = (0 : Int32) then
      f_M_sign_b25  a1 a2 c_t_findings c_t_s
    else
      (f_M_puts c_t_s ((3 : Int32) + a1) a2).bind fun r6 =>
      some (r6.1, c_t_findings, r6.2)
def f_M_form (c_t_findings : (Nat → Int32)) (c_t_s : (Nat → Int32)) (a1 : Int32) : Option (Int32 × (Nat → Int32)) :=
  (f_M_isSign a1).bind fun r1 =>
  if r1 = (0 : Int32) then
    (f_M_no c_t_findings (0 : Int32)).bind fun r3 =>
    some (r3.1, r3.2)
  else
    (rd c_t_s 65 ((3 : Int32) + a1)).bind fun r4 =>
    some (r4, c_t_findings)
def f_M_apartFrom (c_t_s : (Nat → Int32)) (a1 : Int32) (a2 : Int32) : Option (Int32) :=
  (rd c_t_s 65 ((3 : Int32) + a2)).bind fun r1 =>
  (f_M_ones (a1 ^^^ r1)).bind fun r2 =>
  some r2
def f_M_readAs_b39 (k5 : Int32 → Int32 → Option (Int32)) (c_t_s : (Nat → Int32)) (a1 : Int32) (v3 : Int32) : Option (Int32) :=
  k5 v3 (v3 + (-1))
def f_M_readAs_b5  (c_t_s : (Nat → Int32)) (a1 : Int32) : Nat → Int32 → Int32 → Option (Int32)
  | 0, _, _ => none
  | n + 1, v2, v3 =>
    if v3 < (0 : Int32) then
      some v2
    else
      (rd c_t_s 65 ((3 : Int32) + v3)).bind fun r2 =>
      if r2 = (0 : Int32) then
        f_M_readAs_b5  c_t_s a1 n v2 (v3 + (-1))
      else
        if v2 < (0 : Int32) then
          f_M_readAs_b39 (f_M_readAs_b5  c_t_s a1 n) c_t_s a1 v3
        else
          (f_M_apartFrom c_t_s a1 v3).bind fun r5 =>
          (f_M_apartFrom c_t_s a1 v2).bind fun r6 =>
          if r6 < r5 then
            f_M_readAs_b5  c_t_s a1 n v2 (v3 + (-1))
          else
            f_M_readAs_b39 (f_M_readAs_b5  c_t_s a1 n) c_t_s a1 v3
def f_M_readAs (c_t_s : (Nat → Int32)) (a1 : Int32) : Option (Int32) :=
  f_M_readAs_b5  c_t_s a1 5000 (-1 : Int32) (25 : Int32)
def f_M_read (c_t_findings : (Nat → Int32)) (c_t_s : (Nat → Int32)) (a1 : Int32) : Option (Int32 × (Nat → Int32)) :=
  (f_M_isForm a1).bind fun r1 =>
  if r1 = (0 : Int32) then
    (f_M_no c_t_findings (0 : Int32)).bind fun r6 =>
    some (r6.1, r6.2)
  else
    (f_M_readAs c_t_s a1).bind fun r3 =>
    if (0 : Int32) ≤ r3 then
      some (r3, c_t_findings)
    else
      (f_M_no c_t_findings (3 : Int32)).bind fun r5 =>
      some (r5.1, r5.2)
def f_M_doubts_b75 (k34 : (Nat → Int32) → Int32 → Int32 → Int32 → Option (Int32 × (Nat → Int32))) (c_t_s : (Nat → Int32)) (a1 : Int32) (c_t_findings : (Nat → Int32)) (v2 : Int32) (v4 : Int32) (s0 : Int32) (s1 : Int32) : Option (Int32 × (Nat → Int32)) :=
  k34 c_t_findings v2 (s1 + s0) (v4 + (1))
def f_M_doubts_b34  (c_t_s : (Nat → Int32)) (a1 : Int32) : Nat → (Nat → Int32) → Int32 → Int32 → Int32 → Option (Int32 × (Nat → Int32))
  | 0, _, _, _, _ => none
  | n + 1, c_t_findings, v2, v3, v4 =>
    if (26 : Int32) ≤ v4 then
      some (v3, c_t_findings)
    else
      (rd c_t_s 65 ((3 : Int32) + v4)).bind fun r2 =>
      if r2 = (0 : Int32) then
        f_M_doubts_b75 (f_M_doubts_b34  c_t_s a1 n) c_t_s a1 c_t_findings v2 v4 (0 : Int32) v3
      else
        (f_M_apartFrom c_t_s a1 v4).bind fun r4 =>
        (f_M_apartFrom c_t_s a1 v2).bind fun r5 =>
        if r4 = r5 then
          f_M_doubts_b75 (f_M_doubts_b34  c_t_s a1 n) c_t_s a1 c_t_findings v2 v4 (1 : Int32) v3
        else
          f_M_doubts_b75 (f_M_doubts_b34  c_t_s a1 n) c_t_s a1 c_t_findings v2 v4 (0 : Int32) v3
def f_M_doubts (c_t_findings : (Nat → Int32)) (c_t_s : (Nat → Int32)) (a1 : Int32) : Option (Int32 × (Nat → Int32)) :=
  (f_M_isForm a1).bind fun r7 =>
  if r7 = (0 : Int32) then
    (f_M_no c_t_findings (0 : Int32)).bind fun r12 =>
    some (r12.1, r12.2)
  else
    (f_M_readAs c_t_s a1).bind fun r9 =>
    if (0 : Int32) ≤ r9 then
      f_M_doubts_b34  c_t_s a1 5000 c_t_findings r9 (0 : Int32) (0 : Int32)
    else
      (f_M_no c_t_findings (3 : Int32)).bind fun r11 =>
      some (r11.1, r11.2)
def f_M_apart_b13 (k5 : (Nat → Int32) → Int32 → Int32 → Option (Int32 × (Nat → Int32))) (c_t_s : (Nat → Int32))  : Nat → (Nat → Int32) → Int32 → Int32 → Int32 → Option (Int32 × (Nat → Int32))
  | 0, _, _, _, _ => none
  | n + 1, c_t_findings, v1, v2, v3 =>
    if v2 ≤ v3 then
      k5 c_t_findings v1 (v2 + (1))
    else
      (rd c_t_s 65 ((3 : Int32) + v2)).bind fun r2 =>
      if r2 = (0 : Int32) then
        f_M_apart_b13 k5 c_t_s n c_t_findings v1 v2 (v3 + (1))
      else
        (rd c_t_s 65 ((3 : Int32) + v3)).bind fun r4 =>
        if r4 = (0 : Int32) then
          f_M_apart_b13 k5 c_t_s n c_t_findings v1 v2 (v3 + (1))
        else
          (rd c_t_s 65 ((3 : Int32) + v2)).bind fun r6 =>
          (f_M_apartFrom c_t_s r6 v3).bind fun r7 =>
          if v1 ≤ r7 then
            f_M_apart_b13 k5 c_t_s n c_t_findings v1 v2 (v3 + (1))
          else
            (rd c_t_s 65 ((3 : Int32) + v2)).bind fun r9 =>
            (f_M_apartFrom c_t_s r9 v3).bind fun r10 =>
            f_M_apart_b13 k5 c_t_s n c_t_findings r10 v2 (v3 + (1))
def f_M_apart_b5  (c_t_s : (Nat → Int32))  : Nat → (Nat → Int32) → Int32 → Int32 → Option (Int32 × (Nat → Int32))
  | 0, _, _, _ => none
  | n + 1, c_t_findings, v1, v2 =>
    if (26 : Int32) ≤ v2 then
      if v1 ≤ (12 : Int32) then
        some (v1, c_t_findings)
      else
        (f_M_no c_t_findings (3 : Int32)).bind fun r13 =>
        some (r13.1, r13.2)
    else
      f_M_apart_b13 (f_M_apart_b5  c_t_s n) c_t_s 5000 c_t_findings v1 v2 (0 : Int32)
def f_M_apart (c_t_findings : (Nat → Int32)) (c_t_s : (Nat → Int32))  : Option (Int32 × (Nat → Int32)) :=
  f_M_apart_b5  c_t_s 5000 c_t_findings (13 : Int32) (0 : Int32)
def f_M_stay_b54 (k4 : Int32 → Int32 → Option (Int32)) (c_t_s : (Nat → Int32))  (v2 : Int32) (s0 : Int32) (s1 : Int32) : Option (Int32) :=
  k4 (s1 ||| s0) (v2 + (1))
def f_M_stay_b4  (c_t_s : (Nat → Int32))  : Nat → Int32 → Int32 → Option (Int32)
  | 0, _, _ => none
  | n + 1, v1, v2 =>
    if (26 : Int32) ≤ v2 then
      some v1
    else
      (rd c_t_s 65 ((3 : Int32) + v2)).bind fun r2 =>
      if r2 = (0 : Int32) then
        f_M_stay_b54 (f_M_stay_b4  c_t_s n) c_t_s v2 (0 : Int32) v1
      else
        (rd c_t_s 65 ((3 : Int32) + v2)).bind fun r4 =>
        (rd c_t_s 65 (1 : Int32)).bind fun r5 =>
        (f_M_readAs c_t_s (r4 &&& (r5 ^^^ (-1 : Int32)))).bind fun r6 =>
        if r6 = v2 then
          f_M_stay_b54 (f_M_stay_b4  c_t_s n) c_t_s v2 ((1 : Int32) <<< (v2 &&& 31)) v1
        else
          f_M_stay_b54 (f_M_stay_b4  c_t_s n) c_t_s v2 (0 : Int32) v1
def f_M_stay (c_t_s : (Nat → Int32))  : Option (Int32) :=
  f_M_stay_b4  c_t_s 5000 (0 : Int32) (0 : Int32)
def f_M_forge_b19  (c_t_s : (Nat → Int32)) (a1 : Int32) (a2 : Int32) (c_t_findings : (Nat → Int32)) : Option (Int32 × (Nat → Int32)) :=
  (f_M_no c_t_findings (0 : Int32)).bind fun r1 =>
  some (r1.1, r1.2)
def f_M_forge_b47  (c_t_s : (Nat → Int32)) (a1 : Int32) (a2 : Int32) (c_t_findings : (Nat → Int32)) : Option (Int32 × (Nat → Int32)) :=
  (f_M_no c_t_findings (4 : Int32)).bind fun r2 =>
  some (r2.1, r2.2)
def f_M_forge_b59  (c_t_s : (Nat → Int32)) (a1 : Int32) (a2 : Int32) : Nat → (Nat → Int32) → Int32 → Int32 → Option (Int32 × (Nat → Int32))
  | 0, _, _, _ => none
  | n + 1, c_t_findings, v3, v4 =>
    if (4096 : Int32) ≤ v4 then
      if v3 ≤ (12 : Int32) then
        some (v3, c_t_findings)
      else
        (f_M_no c_t_findings (3 : Int32)).bind fun r5 =>
        some (r5.1, r5.2)
    else
      (f_M_apartFrom c_t_s v4 a1).bind fun r6 =>
      if v3 ≤ r6 then
        f_M_forge_b59  c_t_s a1 a2 n c_t_findings v3 (v4 + (1))
      else
        (f_M_readAs c_t_s v4).bind fun r8 =>
        if r8 = a2 then
          (f_M_apartFrom c_t_s v4 a1).bind fun r10 =>
          f_M_forge_b59  c_t_s a1 a2 n c_t_findings r10 (v4 + (1))
        else
          f_M_forge_b59  c_t_s a1 a2 n c_t_findings v3 (v4 + (1))
def f_M_forge (c_t_findings : (Nat → Int32)) (c_t_s : (Nat → Int32)) (a1 : Int32) (a2 : Int32) : Option (Int32 × (Nat → Int32)) :=
  (f_M_isSign a1).bind fun r11 =>
  if r11 = (0 : Int32) then
    f_M_forge_b19  c_t_s a1 a2 c_t_findings
  else
    (f_M_isSign a2).bind fun r13 =>
    if r13 = (0 : Int32) then
      f_M_forge_b19  c_t_s a1 a2 c_t_findings
    else
      if a1 = a2 then
        f_M_forge_b19  c_t_s a1 a2 c_t_findings
      else
        (rd c_t_s 65 ((3 : Int32) + a1)).bind fun r16 =>
        if r16 = (0 : Int32) then
          f_M_forge_b47  c_t_s a1 a2 c_t_findings
        else
          (rd c_t_s 65 ((3 : Int32) + a2)).bind fun r18 =>
          if r18 = (0 : Int32) then
            f_M_forge_b47  c_t_s a1 a2 c_t_findings
          else
            f_M_forge_b59  c_t_s a1 a2 5000 c_t_findings (13 : Int32) (0 : Int32)
def f_M_adds (c_t_s : (Nat → Int32)) (a1 : Int32) (a2 : Int32) (a3 : Int32) : Option ((Nat → Int32)) :=
  (rd c_t_s 65 (2 : Int32)).bind fun r1 =>
  (f_M_at r1 (0 : Int32)).bind fun r2 =>
  (wr c_t_s 65 r2 a1).bind fun r3 =>
  (f_M_at r1 (1 : Int32)).bind fun r4 =>
  (wr r3 65 r4 a2).bind fun r5 =>
  (f_M_at r1 (2 : Int32)).bind fun r6 =>
  (wr r5 65 r6 a3).bind fun r7 =>
  (rd r7 65 (2 : Int32)).bind fun r8 =>
  (wr r7 65 (2 : Int32) (r8 + (1 : Int32))).bind fun r9 =>
  some r9
def f_M_letter_b14   (a1 : Int32) (a2 : Int32) (c_t_findings : (Nat → Int32)) (c_t_s : (Nat → Int32)) : Option (Int32 × (Nat → Int32) × (Nat → Int32)) :=
  (f_M_no c_t_findings (0 : Int32)).bind fun r1 =>
  some (r1.1, r1.2, c_t_s)
def f_M_letter (c_t_findings : (Nat → Int32)) (c_t_s : (Nat → Int32)) (a1 : Int32) (a2 : Int32) : Option (Int32 × (Nat → Int32) × (Nat → Int32)) :=
  (f_M_isKind a1).bind fun r2 =>
  if r2 = (0 : Int32) then
    f_M_letter_b14  a1 a2 c_t_findings c_t_s
  else
    (f_M_isForm a2).bind fun r4 =>
    if r4 = (0 : Int32) then
      f_M_letter_b14  a1 a2 c_t_findings c_t_s
    else
      (rd c_t_s 65 (2 : Int32)).bind fun r6 =>
      if r6 = (12 : Int32) then
        (f_M_no c_t_findings (1 : Int32)).bind fun r10 =>
        some (r10.1, r10.2, c_t_s)
      else
        (f_M_adds c_t_s a1 a2 (6 : Int32)).bind fun r8 =>
        (rd r8 65 (2 : Int32)).bind fun r9 =>
        some ((r9 - (1 : Int32)), c_t_findings, r8)
def f_M_lastsBy  (a0 : Int32) (a1 : Int32) : Option (Int32) :=
  if a0 = (1 : Int32) then
    some ((2 : Int32) * a1)
  else
  if a0 = (2 : Int32) then
    some (a1 / (2 : Int32))
  else
  if a0 = (3 : Int32) then
    some a1
  else
  if a0 = (4 : Int32) then
    some ((2 : Int32) * a1)
  else
  if a0 = (5 : Int32) then
    some ((a1 / (2 : Int32)) + (4 : Int32))
  else
  some a1
def f_M_lasts (c_t_s : (Nat → Int32)) (a1 : Int32) : Option (Int32) :=
  (f_M_at a1 (0 : Int32)).bind fun r1 =>
  (rd c_t_s 65 r1).bind fun r2 =>
  (f_M_at a1 (2 : Int32)).bind fun r3 =>
  (rd c_t_s 65 r3).bind fun r4 =>
  (f_M_lastsBy r2 r4).bind fun r5 =>
  some r5
def f_M_shows_b48  (c_t_s : (Nat → Int32)) (a1 : Int32) (s0 : Int32) : Option (Int32) :=
  (f_M_at a1 (0 : Int32)).bind fun r1 =>
  (rd c_t_s 65 r1).bind fun r2 =>
  if r2 = (3 : Int32) then
    some (s0 ||| (12 : Int32))
  else
    if r2 = (4 : Int32) then
      some (s0 ||| (48 : Int32))
    else
      some s0
def f_M_shows (c_t_s : (Nat → Int32)) (a1 : Int32) : Option (Int32) :=
  (rd c_t_s 65 (0 : Int32)).bind fun r5 =>
  (f_M_lasts c_t_s a1).bind fun r6 =>
  if r6 ≤ r5 then
    (f_M_at a1 (1 : Int32)).bind fun r8 =>
    (rd c_t_s 65 r8).bind fun r9 =>
    (rd c_t_s 65 (1 : Int32)).bind fun r10 =>
    f_M_shows_b48  c_t_s a1 (r9 &&& (r10 ^^^ (-1 : Int32)))
  else
    (f_M_at a1 (1 : Int32)).bind fun r11 =>
    (rd c_t_s 65 r11).bind fun r12 =>
    f_M_shows_b48  c_t_s a1 r12
def f_M_feetBy  (a0 : Int32) (a1 : Int32) : Option (Int32) :=
  (f_M_ones a1).bind fun r1 =>
  (f_M_straysOf a1).bind fun r2 =>
  if a0 = (1 : Int32) then
    some ((2 : Int32) * (r1 + r2))
  else
  if a0 = (2 : Int32) then
    some (r1 + r2)
  else
  if a0 = (3 : Int32) then
    some ((r1 + r2) + (2 : Int32))
  else
  if a0 = (4 : Int32) then
    some (((2 : Int32) * (r1 + r2)) + (2 : Int32))
  else
  some (r1 + r2)
def f_M_feet (c_t_s : (Nat → Int32)) (a1 : Int32) : Option (Int32) :=
  (f_M_at a1 (0 : Int32)).bind fun r1 =>
  (rd c_t_s 65 r1).bind fun r2 =>
  (f_M_at a1 (1 : Int32)).bind fun r3 =>
  (rd c_t_s 65 r3).bind fun r4 =>
  (f_M_feetBy r2 r4).bind fun r5 =>
  some r5
def f_M_of_b18  (c_t_s : (Nat → Int32)) (a1 : Int32) (a2 : Int32) (c_t_findings : (Nat → Int32)) : Option (Int32 × (Nat → Int32)) :=
  (f_M_no c_t_findings (0 : Int32)).bind fun r1 =>
  some (r1.1, r1.2)
def f_M_of (c_t_findings : (Nat → Int32)) (c_t_s : (Nat → Int32)) (a1 : Int32) (a2 : Int32) : Option (Int32 × (Nat → Int32)) :=
  (f_M_isLetter c_t_s a1).bind fun r2 =>
  if r2 = (0 : Int32) then
    f_M_of_b18  c_t_s a1 a2 c_t_findings
  else
    (f_M_in a2 (0 : Int32) (7 : Int32)).bind fun r4 =>
    if r4 = (0 : Int32) then
      f_M_of_b18  c_t_s a1 a2 c_t_findings
    else
      if a2 = (3 : Int32) then
        (f_M_lasts c_t_s a1).bind fun r7 =>
        some (r7, c_t_findings)
      else
      if a2 = (4 : Int32) then
        (f_M_shows c_t_s a1).bind fun r8 =>
        some (r8, c_t_findings)
      else
      if a2 = (5 : Int32) then
        (f_M_feet c_t_s a1).bind fun r9 =>
        some (r9, c_t_findings)
      else
      if a2 = (6 : Int32) then
        (f_M_at a1 (1 : Int32)).bind fun r10 =>
        (rd c_t_s 65 r10).bind fun r11 =>
        (f_M_readAs c_t_s r11).bind fun r12 =>
        some (r12, c_t_findings)
      else
      if a2 = (7 : Int32) then
        (f_M_shows c_t_s a1).bind fun r13 =>
        (f_M_readAs c_t_s r13).bind fun r14 =>
        some (r14, c_t_findings)
      else
      (f_M_at a1 a2).bind fun r15 =>
      (rd c_t_s 65 r15).bind fun r16 =>
      some (r16, c_t_findings)
def f_M_set_b61   (a1 : Int32) (a2 : Int32) (a3 : Int32) (c_t_findings : (Nat → Int32)) (c_t_s : (Nat → Int32)) : Option (Int32 × (Nat → Int32) × (Nat → Int32)) :=
  (f_M_no c_t_findings (0 : Int32)).bind fun r1 =>
  some (r1.1, r1.2, c_t_s)
def f_M_set_b32   (a1 : Int32) (a2 : Int32) (a3 : Int32) (c_t_findings : (Nat → Int32)) (c_t_s : (Nat → Int32)) (s0 : Int32) : Option (Int32 × (Nat → Int32) × (Nat → Int32)) :=
  (f_M_isLetter c_t_s a1).bind fun r2 =>
  if r2 = (0 : Int32) then
    f_M_set_b61  a1 a2 a3 c_t_findings c_t_s
  else
    if s0 = (0 : Int32) then
      f_M_set_b61  a1 a2 a3 c_t_findings c_t_s
    else
      (f_M_at a1 a2).bind fun r5 =>
      (f_M_puts c_t_s r5 a3).bind fun r6 =>
      some (r6.1, c_t_findings, r6.2)
def f_M_set (c_t_findings : (Nat → Int32)) (c_t_s : (Nat → Int32)) (a1 : Int32) (a2 : Int32) (a3 : Int32) : Option (Int32 × (Nat → Int32) × (Nat → Int32)) :=
  if a2 = (1 : Int32) then
    (f_M_isForm a3).bind fun r11 =>
    f_M_set_b32  a1 a2 a3 c_t_findings c_t_s r11
  else
    if a2 = (2 : Int32) then
      (f_M_in a3 (0 : Int32) (99 : Int32)).bind fun r9 =>
      if r9 = (0 : Int32) then
        f_M_set_b32  a1 a2 a3 c_t_findings c_t_s (0 : Int32)
      else
        f_M_set_b32  a1 a2 a3 c_t_findings c_t_s (1 : Int32)
    else
      f_M_set_b32  a1 a2 a3 c_t_findings c_t_s (0 : Int32)
def f_M_turn_b29   (a1 : Int32) (a2 : Int32) (c_t_findings : (Nat → Int32)) (c_t_s : (Nat → Int32)) : Option (Int32 × (Nat → Int32) × (Nat → Int32)) :=
  (f_M_no c_t_findings (0 : Int32)).bind fun r1 =>
  some (r1.1, r1.2, c_t_s)
def f_M_turn (c_t_findings : (Nat → Int32)) (c_t_s : (Nat → Int32)) (a1 : Int32) (a2 : Int32) : Option (Int32 × (Nat → Int32) × (Nat → Int32)) :=
  (f_M_isLetter c_t_s a1).bind fun r2 =>
  if r2 = (0 : Int32) then
    f_M_turn_b29  a1 a2 c_t_findings c_t_s
  else
    (f_M_isKind a2).bind fun r4 =>
    if r4 = (0 : Int32) then
      f_M_turn_b29  a1 a2 c_t_findings c_t_s
    else
      (f_M_at a1 (0 : Int32)).bind fun r6 =>
      (f_M_puts c_t_s r6 a2).bind fun r7 =>
      some (r7.1, c_t_findings, r7.2)
def f_M_isUnder_b29   (a0 : Int32) (a1 : Int32)  : Option (Int32) :=
  some (1 : Int32)
def f_M_isUnder_b19   (a0 : Int32) (a1 : Int32)  : Option (Int32) :=
  if a0 = (5 : Int32) then
    if a1 = (2 : Int32) then
      f_M_isUnder_b29  a0 a1 
    else
      some (0 : Int32)
  else
    some (0 : Int32)
def f_M_isUnder  (a0 : Int32) (a1 : Int32) : Option (Int32) :=
  if a1 = (0 : Int32) then
    f_M_isUnder_b29  a0 a1 
  else
    if a0 = a1 then
      f_M_isUnder_b29  a0 a1 
    else
      if a0 = (4 : Int32) then
        if a1 = (1 : Int32) then
          f_M_isUnder_b29  a0 a1 
        else
          f_M_isUnder_b19  a0 a1 
      else
        f_M_isUnder_b19  a0 a1 
def f_M_as_b15  (c_t_s : (Nat → Int32)) (a1 : Int32) (a2 : Int32) (c_t_findings : (Nat → Int32)) : Option (Int32 × (Nat → Int32)) :=
  (f_M_no c_t_findings (0 : Int32)).bind fun r1 =>
  some (r1.1, r1.2)
def f_M_as (c_t_findings : (Nat → Int32)) (c_t_s : (Nat → Int32)) (a1 : Int32) (a2 : Int32) : Option (Int32 × (Nat → Int32)) :=
  (f_M_isLetter c_t_s a1).bind fun r2 =>
  if r2 = (0 : Int32) then
    f_M_as_b15  c_t_s a1 a2 c_t_findings
  else
    (f_M_isKind a2).bind fun r4 =>
    if r4 = (0 : Int32) then
      f_M_as_b15  c_t_s a1 a2 c_t_findings
    else
      (f_M_at a1 (0 : Int32)).bind fun r6 =>
      (rd c_t_s 65 r6).bind fun r7 =>
      (f_M_isUnder r7 a2).bind fun r8 =>
      if r8 = (0 : Int32) then
        (f_M_no c_t_findings (2 : Int32)).bind fun r10 =>
        some (r10.1, r10.2)
      else
        (f_M_at a1 (2 : Int32)).bind fun r11 =>
        (rd c_t_s 65 r11).bind fun r12 =>
        some (r12, c_t_findings)
def f_M_sun (c_t_findings : (Nat → Int32)) (c_t_s : (Nat → Int32)) (a1 : Int32) : Option (Int32 × (Nat → Int32) × (Nat → Int32)) :=
  (f_M_isForm a1).bind fun r1 =>
  if r1 = (0 : Int32) then
    (f_M_no c_t_findings (0 : Int32)).bind fun r3 =>
    some (r3.1, r3.2, c_t_s)
  else
    (f_M_puts c_t_s (1 : Int32) a1).bind fun r4 =>
    some (r4.1, c_t_findings, r4.2)
def f_M_hours_b109 (k79 : (Nat → Int32) → (Nat → Int32) → (Nat → Int32) → Int32 → Int32 → Option (Int32 × (Nat → Int32) × (Nat → Int32) × (Nat → Int32)))  (a1 : Int32) (c_t_findings : (Nat → Int32)) (c_t_s : (Nat → Int32)) (c_t_shown : (Nat → Int32)) (v3 : Int32) (s0 : Int32) (s1 : Int32) : Option (Int32 × (Nat → Int32) × (Nat → Int32) × (Nat → Int32)) :=
  k79 c_t_findings c_t_s c_t_shown (s1 + s0) (v3 + (1))
def f_M_hours_b79   (a1 : Int32) : Nat → (Nat → Int32) → (Nat → Int32) → (Nat → Int32) → Int32 → Int32 → Option (Int32 × (Nat → Int32) × (Nat → Int32) × (Nat → Int32))
  | 0, _, _, _, _, _ => none
  | n + 1, c_t_findings, c_t_s, c_t_shown, v2, v3 =>
    (rd c_t_s 65 (2 : Int32)).bind fun r1 =>
    if r1 ≤ v3 then
      some (v2, c_t_findings, c_t_s, c_t_shown)
    else
      (f_M_shows c_t_s v3).bind fun r3 =>
      (rd c_t_shown 12 v3).bind fun r4 =>
      if r3 = r4 then
        f_M_hours_b109 (f_M_hours_b79  a1 n) a1 c_t_findings c_t_s c_t_shown v3 (0 : Int32) v2
      else
        f_M_hours_b109 (f_M_hours_b79  a1 n) a1 c_t_findings c_t_s c_t_shown v3 (1 : Int32) v2
def f_M_hours_b38   (a1 : Int32) : Nat → (Nat → Int32) → (Nat → Int32) → (Nat → Int32) → Int32 → Option (Int32 × (Nat → Int32) × (Nat → Int32) × (Nat → Int32))
  | 0, _, _, _, _ => none
  | n + 1, c_t_findings, c_t_s, c_t_shown, v2 =>
    (rd c_t_s 65 (2 : Int32)).bind fun r6 =>
    if r6 ≤ v2 then
      (rd c_t_s 65 (0 : Int32)).bind fun r8 =>
      (wr c_t_s 65 (0 : Int32) (r8 + a1)).bind fun r9 =>
      f_M_hours_b79  a1 5000 c_t_findings r9 c_t_shown (0 : Int32) (0 : Int32)
    else
      (f_M_shows c_t_s v2).bind fun r10 =>
      (wr c_t_shown 12 v2 r10).bind fun r11 =>
      f_M_hours_b38  a1 n c_t_findings c_t_s r11 (v2 + (1))
def f_M_hours (c_t_findings : (Nat → Int32)) (c_t_s : (Nat → Int32)) (c_t_shown : (Nat → Int32)) (a1 : Int32) : Option (Int32 × (Nat → Int32) × (Nat → Int32) × (Nat → Int32)) :=
  (f_M_in a1 (1 : Int32) (99 : Int32)).bind fun r12 =>
  if r12 = (0 : Int32) then
    (f_M_no c_t_findings (0 : Int32)).bind fun r17 =>
    some (r17.1, r17.2, c_t_s, c_t_shown)
  else
    (rd c_t_s 65 (0 : Int32)).bind fun r14 =>
    if (r14 + a1) ≤ (999 : Int32) then
      f_M_hours_b38  a1 5000 c_t_findings c_t_s c_t_shown (0 : Int32)
    else
      (f_M_no c_t_findings (4 : Int32)).bind fun r16 =>
      some (r16.1, r16.2, c_t_s, c_t_shown)
def f_M_isOther (c_t_s : (Nat → Int32)) (a1 : Int32) : Option (Int32) :=
  (f_M_shows c_t_s a1).bind fun r1 =>
  (f_M_readAs c_t_s r1).bind fun r2 =>
  (f_M_at a1 (1 : Int32)).bind fun r3 =>
  (rd c_t_s 65 r3).bind fun r4 =>
  (f_M_readAs c_t_s r4).bind fun r5 =>
  if r2 = r5 then
    some (0 : Int32)
  else
    some (1 : Int32)
def f_M_now_b60 (k22 : (Nat → Int32) → Int32 → Int32 → Int32 → Option (Int32 × (Nat → Int32))) (c_t_s : (Nat → Int32)) (a1 : Int32) (c_t_findings : (Nat → Int32)) (v2 : Int32) (v4 : Int32) (s0 : Int32) (s1 : Int32) : Option (Int32 × (Nat → Int32)) :=
  k22 c_t_findings v2 (s1 ||| s0) (v4 + (1))
def f_M_now_b22  (c_t_s : (Nat → Int32)) (a1 : Int32) : Nat → (Nat → Int32) → Int32 → Int32 → Int32 → Option (Int32 × (Nat → Int32))
  | 0, _, _, _, _ => none
  | n + 1, c_t_findings, v2, v3, v4 =>
    (rd c_t_s 65 (2 : Int32)).bind fun r1 =>
    if r1 ≤ v4 then
      if (2 : Int32) ≤ a1 then
        if a1 = (2 : Int32) then
          some (v2, c_t_findings)
        else
          some (v3, c_t_findings)
      else
        (rd c_t_s 65 a1).bind fun r5 =>
        some (r5, c_t_findings)
    else
      (f_M_feet c_t_s v4).bind fun r6 =>
      (f_M_isOther c_t_s v4).bind fun r7 =>
      if r7 = (0 : Int32) then
        f_M_now_b60 (f_M_now_b22  c_t_s a1 n) c_t_s a1 c_t_findings (v2 + r6) v4 (0 : Int32) v3
      else
        f_M_now_b60 (f_M_now_b22  c_t_s a1 n) c_t_s a1 c_t_findings (v2 + r6) v4 ((1 : Int32) <<< (v4 &&& 31)) v3
def f_M_now (c_t_findings : (Nat → Int32)) (c_t_s : (Nat → Int32)) (a1 : Int32) : Option (Int32 × (Nat → Int32)) :=
  (f_M_in a1 (0 : Int32) (3 : Int32)).bind fun r9 =>
  if r9 = (0 : Int32) then
    (f_M_no c_t_findings (0 : Int32)).bind fun r11 =>
    some (r11.1, r11.2)
  else
    f_M_now_b22  c_t_s a1 5000 c_t_findings (0 : Int32) (0 : Int32) (0 : Int32)
def f_M_on_b18   (a1 : Int32) (a2 : Int32) (c_t_findings : (Nat → Int32)) (c_t_s : (Nat → Int32)) : Option (Int32 × (Nat → Int32) × (Nat → Int32)) :=
  (f_M_no c_t_findings (0 : Int32)).bind fun r1 =>
  some (r1.1, r1.2, c_t_s)
def f_M_on (c_t_findings : (Nat → Int32)) (c_t_s : (Nat → Int32)) (a1 : Int32) (a2 : Int32) : Option (Int32 × (Nat → Int32) × (Nat → Int32)) :=
  (f_M_isLetter c_t_s a1).bind fun r2 =>
  if r2 = (0 : Int32) then
    f_M_on_b18  a1 a2 c_t_findings c_t_s
  else
    (f_M_in a2 (0 : Int32) (99 : Int32)).bind fun r4 =>
    if r4 = (0 : Int32) then
      f_M_on_b18  a1 a2 c_t_findings c_t_s
    else
      (rd c_t_s 65 (0 : Int32)).bind fun r6 =>
      if (r6 + a2) ≤ (999 : Int32) then
        (rd c_t_s 65 (0 : Int32)).bind fun r8 =>
        (wr c_t_s 65 (0 : Int32) (r8 + a2)).bind fun r9 =>
        (f_M_shows r9 a1).bind fun r10 =>
        (rd r9 65 (0 : Int32)).bind fun r11 =>
        (wr r9 65 (0 : Int32) (r11 - a2)).bind fun r12 =>
        some (r10, c_t_findings, r12)
      else
        (f_M_no c_t_findings (4 : Int32)).bind fun r13 =>
        some (r13.1, r13.2, c_t_s)
def f_M_when_b86   (a1 : Int32) (c_t_findings : (Nat → Int32)) (c_t_s : (Nat → Int32)) (v2 : Int32) (v3 : Int32) : Option (Int32 × (Nat → Int32) × (Nat → Int32)) :=
  (wr c_t_s 65 (0 : Int32) v2).bind fun r1 =>
  if (0 : Int32) ≤ v3 then
    some (v3, c_t_findings, r1)
  else
    (f_M_no c_t_findings (3 : Int32)).bind fun r3 =>
    some (r3.1, r3.2, r1)
def f_M_when_b79 (k44 : (Nat → Int32) → (Nat → Int32) → Int32 → Int32 → Int32 → Option (Int32 × (Nat → Int32) × (Nat → Int32)))  (a1 : Int32) (c_t_findings : (Nat → Int32)) (c_t_s : (Nat → Int32)) (v2 : Int32) (v4 : Int32) (s0 : Int32) : Option (Int32 × (Nat → Int32) × (Nat → Int32)) :=
  k44 c_t_findings c_t_s v2 s0 (v4 + (1))
def f_M_when_b44   (a1 : Int32) : Nat → (Nat → Int32) → (Nat → Int32) → Int32 → Int32 → Int32 → Option (Int32 × (Nat → Int32) × (Nat → Int32))
  | 0, _, _, _, _, _ => none
  | n + 1, c_t_findings, c_t_s, v2, v3, v4 =>
    if (99 : Int32) < v4 then
      f_M_when_b86  a1 c_t_findings c_t_s v2 v3
    else
      if (0 : Int32) ≤ v3 then
        f_M_when_b86  a1 c_t_findings c_t_s v2 v3
      else
        (wr c_t_s 65 (0 : Int32) (v2 + v4)).bind fun r6 =>
        (f_M_isOther r6 a1).bind fun r7 =>
        if r7 = (0 : Int32) then
          f_M_when_b79 (f_M_when_b44  a1 n) a1 c_t_findings r6 v2 v4 (-1 : Int32)
        else
          f_M_when_b79 (f_M_when_b44  a1 n) a1 c_t_findings r6 v2 v4 v4
def f_M_when (c_t_findings : (Nat → Int32)) (c_t_s : (Nat → Int32)) (a1 : Int32) : Option (Int32 × (Nat → Int32) × (Nat → Int32)) :=
  (f_M_isLetter c_t_s a1).bind fun r9 =>
  if r9 = (0 : Int32) then
    (f_M_no c_t_findings (0 : Int32)).bind fun r15 =>
    some (r15.1, r15.2, c_t_s)
  else
    (rd c_t_s 65 (0 : Int32)).bind fun r11 =>
    if r11 ≤ (900 : Int32) then
      (rd c_t_s 65 (0 : Int32)).bind fun r13 =>
      f_M_when_b44  a1 5000 c_t_findings c_t_s r13 (-1 : Int32) (0 : Int32)
    else
      (f_M_no c_t_findings (4 : Int32)).bind fun r14 =>
      some (r14.1, r14.2, c_t_s)
def f_M_longest_b69 (k7 : Int32 → Int32 → Int32 → Option (Int32))  (a0 : Int32) (a1 : Int32) (v2 : Int32) (v4 : Int32) (s0 : Int32) : Option (Int32) :=
  k7 v2 s0 (v4 + (1))
def f_M_longest_b56 (k7 : Int32 → Int32 → Int32 → Option (Int32))  (a0 : Int32) (a1 : Int32) (v3 : Int32) (v4 : Int32) (v6 : Int32) (s0 : Int32) : Option (Int32) :=
  if v6 ≤ v3 then
    f_M_longest_b69 k7 a0 a1 s0 v4 v3
  else
    f_M_longest_b69 k7 a0 a1 s0 v4 v6
def f_M_longest_b42 (k7 : Int32 → Int32 → Int32 → Option (Int32))  (a0 : Int32) (a1 : Int32) (v2 : Int32) (v3 : Int32) (v4 : Int32) (s0 : Int32) : Option (Int32) :=
  if s0 ≤ v3 then
    f_M_longest_b56 k7 a0 a1 v3 v4 s0 v2
  else
    f_M_longest_b56 k7 a0 a1 v3 v4 s0 v4
def f_M_longest_b7   (a0 : Int32) (a1 : Int32) : Nat → Int32 → Int32 → Int32 → Option (Int32)
  | 0, _, _, _ => none
  | n + 1, v2, v3, v4 =>
    if (5 : Int32) < v4 then
      some v2
    else
      (f_M_feetBy v4 a0).bind fun r4 =>
      if r4 = (0 : Int32) then
        f_M_longest_b42 (f_M_longest_b7  a0 a1 n) a0 a1 v2 v3 v4 (0 : Int32)
      else
        (f_M_lastsBy v4 a1).bind fun r6 =>
        (dv ((100 : Int32) * r6) r4).bind fun q7 =>
        f_M_longest_b42 (f_M_longest_b7  a0 a1 n) a0 a1 v2 v3 v4 q7
def f_M_longest  (a0 : Int32) (a1 : Int32) : Option (Int32) :=
  f_M_longest_b7  a0 a1 5000 (0 : Int32) (-1 : Int32) (0 : Int32)
def f_M_kind (c_t_findings : (Nat → Int32)) (c_t_s : (Nat → Int32)) (a1 : Int32) : Option (Int32 × (Nat → Int32)) :=
  (f_M_isLetter c_t_s a1).bind fun r1 =>
  if r1 = (0 : Int32) then
    (f_M_no c_t_findings (0 : Int32)).bind fun r3 =>
    some (r3.1, r3.2)
  else
    (f_M_at a1 (1 : Int32)).bind fun r4 =>
    (rd c_t_s 65 r4).bind fun r5 =>
    (f_M_at a1 (2 : Int32)).bind fun r6 =>
    (rd c_t_s 65 r6).bind fun r7 =>
    (f_M_longest r5 r7).bind fun r8 =>
    some (r8, c_t_findings)
def f_M_worthOf_b31  (c_t_s : (Nat → Int32)) (a1 : Int32) (s0 : Int32) : Option (Int32) :=
  some (s0 + (0 : Int32))
def f_M_worthOf (c_t_s : (Nat → Int32)) (a1 : Int32) : Option (Int32) :=
  (f_M_shows c_t_s a1).bind fun r1 =>
  (f_M_ones r1).bind fun r2 =>
  (f_M_readAs c_t_s r1).bind fun r3 =>
  if r3 < (0 : Int32) then
    f_M_worthOf_b31  c_t_s a1 r2
  else
    (f_M_isOther c_t_s a1).bind fun r5 =>
    if r5 = (0 : Int32) then
      some (r2 + (10 : Int32))
    else
      f_M_worthOf_b31  c_t_s a1 r2
def f_M_bestSet_b128 (k49 : Int32 → (Nat → Int32) → (Nat → Int32) → Int32 → Int32 → Option (Int32 × Int32 × (Nat → Int32) × (Nat → Int32))) (k70 : Int32 → (Nat → Int32) → (Nat → Int32) → Int32 → Int32 → Int32 → Int32 → Int32 → Option (Int32 × Int32 × (Nat → Int32) × (Nat → Int32))) (c_t_s : (Nat → Int32)) (a1 : Int32) (c_t_most : Int32) (c_t_steps : (Nat → Int32)) (c_t_worths : (Nat → Int32)) (v2 : Int32) (v3 : Int32) (v4 : Int32) (v6 : Int32) (s0 : Int32) (s1 : Int32) : Option (Int32 × Int32 × (Nat → Int32) × (Nat → Int32)) :=
  k70 c_t_most c_t_steps c_t_worths v2 v3 v4 (s1 + s0) (v6 + (1))
def f_M_bestSet_b103 (k49 : Int32 → (Nat → Int32) → (Nat → Int32) → Int32 → Int32 → Option (Int32 × Int32 × (Nat → Int32) × (Nat → Int32))) (k70 : Int32 → (Nat → Int32) → (Nat → Int32) → Int32 → Int32 → Int32 → Int32 → Int32 → Option (Int32 × Int32 × (Nat → Int32) × (Nat → Int32))) (c_t_s : (Nat → Int32)) (a1 : Int32) (c_t_most : Int32) (c_t_steps : (Nat → Int32)) (c_t_worths : (Nat → Int32)) (v2 : Int32) (v3 : Int32) (v5 : Int32) (v6 : Int32) (s0 : Int32) (s1 : Int32) : Option (Int32 × Int32 × (Nat → Int32) × (Nat → Int32)) :=
  (f_M_has v3 v6).bind fun r1 =>
  if r1 = (0 : Int32) then
    f_M_bestSet_b128 k49 k70 c_t_s a1 c_t_most c_t_steps c_t_worths v2 v3 (s1 + s0) v6 (0 : Int32) v5
  else
    (rd c_t_steps 12 v6).bind fun r3 =>
    f_M_bestSet_b128 k49 k70 c_t_s a1 c_t_most c_t_steps c_t_worths v2 v3 (s1 + s0) v6 r3 v5
def f_M_bestSet_b70 (k49 : Int32 → (Nat → Int32) → (Nat → Int32) → Int32 → Int32 → Option (Int32 × Int32 × (Nat → Int32) × (Nat → Int32))) (c_t_s : (Nat → Int32)) (a1 : Int32) : Nat → Int32 → (Nat → Int32) → (Nat → Int32) → Int32 → Int32 → Int32 → Int32 → Int32 → Option (Int32 × Int32 × (Nat → Int32) × (Nat → Int32))
  | 0, _, _, _, _, _, _, _, _ => none
  | n + 1, c_t_most, c_t_steps, c_t_worths, v2, v3, v4, v5, v6 =>
    (rd c_t_s 65 (2 : Int32)).bind fun r4 =>
    if r4 ≤ v6 then
      if a1 < v5 then
        k49 c_t_most c_t_steps c_t_worths v2 (v3 + (1))
      else
        if v4 ≤ c_t_most then
          k49 c_t_most c_t_steps c_t_worths v2 (v3 + (1))
        else
          k49 v4 c_t_steps c_t_worths v3 (v3 + (1))
    else
      (f_M_has v3 v6).bind fun r8 =>
      if r8 = (0 : Int32) then
        f_M_bestSet_b103 k49 (f_M_bestSet_b70 k49 c_t_s a1 n) c_t_s a1 c_t_most c_t_steps c_t_worths v2 v3 v5 v6 (0 : Int32) v4
      else
        (rd c_t_worths 12 v6).bind fun r10 =>
        f_M_bestSet_b103 k49 (f_M_bestSet_b70 k49 c_t_s a1 n) c_t_s a1 c_t_most c_t_steps c_t_worths v2 v3 v5 v6 r10 v4
def f_M_bestSet_b49  (c_t_s : (Nat → Int32)) (a1 : Int32) : Nat → Int32 → (Nat → Int32) → (Nat → Int32) → Int32 → Int32 → Option (Int32 × Int32 × (Nat → Int32) × (Nat → Int32))
  | 0, _, _, _, _, _ => none
  | n + 1, c_t_most, c_t_steps, c_t_worths, v2, v3 =>
    (rd c_t_s 65 (2 : Int32)).bind fun r11 =>
    if ((1 : Int32) <<< (r11 &&& 31)) ≤ v3 then
      some (v2, c_t_most, c_t_steps, c_t_worths)
    else
      f_M_bestSet_b70 (f_M_bestSet_b49  c_t_s a1 n) c_t_s a1 5000 c_t_most c_t_steps c_t_worths v2 v3 (0 : Int32) (0 : Int32) (0 : Int32)
def f_M_bestSet_b2  (c_t_s : (Nat → Int32)) (a1 : Int32) : Nat → Int32 → (Nat → Int32) → (Nat → Int32) → Int32 → Option (Int32 × Int32 × (Nat → Int32) × (Nat → Int32))
  | 0, _, _, _, _ => none
  | n + 1, c_t_most, c_t_steps, c_t_worths, v2 =>
    (rd c_t_s 65 (2 : Int32)).bind fun r13 =>
    if r13 ≤ v2 then
      f_M_bestSet_b49  c_t_s a1 5000 (0 : Int32) c_t_steps c_t_worths (0 : Int32) (1 : Int32)
    else
      (f_M_worthOf c_t_s v2).bind fun r15 =>
      (wr c_t_worths 12 v2 r15).bind fun r16 =>
      (f_M_feet c_t_s v2).bind fun r17 =>
      (wr c_t_steps 12 v2 r17).bind fun r18 =>
      f_M_bestSet_b2  c_t_s a1 n c_t_most r18 r16 (v2 + (1))
def f_M_bestSet (c_t_most : Int32) (c_t_s : (Nat → Int32)) (c_t_steps : (Nat → Int32)) (c_t_worths : (Nat → Int32)) (a1 : Int32) : Option (Int32 × Int32 × (Nat → Int32) × (Nat → Int32)) :=
  f_M_bestSet_b2  c_t_s a1 5000 c_t_most c_t_steps c_t_worths (0 : Int32)
def f_M_best (c_t_most : Int32) (c_t_findings : (Nat → Int32)) (c_t_s : (Nat → Int32)) (c_t_steps : (Nat → Int32)) (c_t_worths : (Nat → Int32)) (a1 : Int32) : Option (Int32 × Int32 × (Nat → Int32) × (Nat → Int32) × (Nat → Int32)) :=
  (f_M_in a1 (0 : Int32) (9999 : Int32)).bind fun r1 =>
  if r1 = (0 : Int32) then
    (f_M_no c_t_findings (0 : Int32)).bind fun r3 =>
    some (r3.1, c_t_most, r3.2, c_t_steps, c_t_worths)
  else
    (f_M_bestSet c_t_most c_t_s c_t_steps c_t_worths a1).bind fun r4 =>
    some (r4.1, r4.2.1, c_t_findings, r4.2.2.1, r4.2.2.2)
def f_M_worth (c_t_most : Int32) (c_t_findings : (Nat → Int32)) (c_t_s : (Nat → Int32)) (c_t_steps : (Nat → Int32)) (c_t_worths : (Nat → Int32)) (a1 : Int32) : Option (Int32 × Int32 × (Nat → Int32) × (Nat → Int32) × (Nat → Int32)) :=
  (f_M_in a1 (0 : Int32) (9999 : Int32)).bind fun r1 =>
  if r1 = (0 : Int32) then
    (f_M_no c_t_findings (0 : Int32)).bind fun r4 =>
    some (r4.1, c_t_most, r4.2, c_t_steps, c_t_worths)
  else
    (f_M_bestSet c_t_most c_t_s c_t_steps c_t_worths a1).bind fun r3 =>
    some (r3.2.1, r3.2.1, c_t_findings, r3.2.2.1, r3.2.2.2)
def f_M_meant_b84 (k25 : (Nat → Int32) → Int32 → Int32 → Int32 → Option (Int32 × (Nat → Int32))) (c_t_s : (Nat → Int32)) (a1 : Int32) (c_t_findings : (Nat → Int32)) (v2 : Int32) (v4 : Int32) (s0 : Int32) (s1 : Int32) : Option (Int32 × (Nat → Int32)) :=
  k25 c_t_findings v2 (s1 ||| s0) (v4 + (1))
def f_M_meant_b25  (c_t_s : (Nat → Int32)) (a1 : Int32) : Nat → (Nat → Int32) → Int32 → Int32 → Int32 → Option (Int32 × (Nat → Int32))
  | 0, _, _, _, _ => none
  | n + 1, c_t_findings, v2, v3, v4 =>
    if (26 : Int32) ≤ v4 then
      some (v3, c_t_findings)
    else
      (rd c_t_s 65 ((3 : Int32) + v4)).bind fun r2 =>
      if r2 = (0 : Int32) then
        f_M_meant_b84 (f_M_meant_b25  c_t_s a1 n) c_t_s a1 c_t_findings v2 v4 (0 : Int32) v3
      else
        if (v2 &&& (r2 ^^^ (-1 : Int32))) = (0 : Int32) then
          (rd c_t_s 65 (1 : Int32)).bind fun r5 =>
          if ((r2 &&& (v2 ^^^ (-1 : Int32))) &&& (r5 ^^^ (-1 : Int32))) = (0 : Int32) then
            f_M_meant_b84 (f_M_meant_b25  c_t_s a1 n) c_t_s a1 c_t_findings v2 v4 ((1 : Int32) <<< (v4 &&& 31)) v3
          else
            f_M_meant_b84 (f_M_meant_b25  c_t_s a1 n) c_t_s a1 c_t_findings v2 v4 (0 : Int32) v3
        else
          f_M_meant_b84 (f_M_meant_b25  c_t_s a1 n) c_t_s a1 c_t_findings v2 v4 (0 : Int32) v3
def f_M_meant (c_t_findings : (Nat → Int32)) (c_t_s : (Nat → Int32)) (a1 : Int32) : Option (Int32 × (Nat → Int32)) :=
  (f_M_isLetter c_t_s a1).bind fun r7 =>
  if r7 = (0 : Int32) then
    (f_M_no c_t_findings (0 : Int32)).bind fun r10 =>
    some (r10.1, r10.2)
  else
    (f_M_shows c_t_s a1).bind fun r9 =>
    f_M_meant_b25  c_t_s a1 5000 c_t_findings r9 (0 : Int32) (0 : Int32)
def f_M_cheap_b62 (k18 : (Nat → Int32) → Int32 → Int32 → Option (Int32 × (Nat → Int32))) (c_t_s : (Nat → Int32)) (a1 : Int32) (c_t_findings : (Nat → Int32)) (v3 : Int32) : Option (Int32 × (Nat → Int32)) :=
  k18 c_t_findings v3 (v3 + (-1))
def f_M_cheap_b18  (c_t_s : (Nat → Int32)) (a1 : Int32) : Nat → (Nat → Int32) → Int32 → Int32 → Option (Int32 × (Nat → Int32))
  | 0, _, _, _ => none
  | n + 1, c_t_findings, v2, v3 =>
    if v3 < (0 : Int32) then
      if (0 : Int32) ≤ v2 then
        some (v2, c_t_findings)
      else
        (f_M_no c_t_findings (3 : Int32)).bind fun r3 =>
        some (r3.1, r3.2)
    else
      (rd c_t_s 65 ((3 : Int32) + v3)).bind fun r4 =>
      if r4 = (0 : Int32) then
        f_M_cheap_b18  c_t_s a1 n c_t_findings v2 (v3 + (-1))
      else
        if v2 < (0 : Int32) then
          f_M_cheap_b62 (f_M_cheap_b18  c_t_s a1 n) c_t_s a1 c_t_findings v3
        else
          (f_M_feetBy a1 r4).bind fun r7 =>
          (rd c_t_s 65 ((3 : Int32) + v2)).bind fun r8 =>
          (f_M_feetBy a1 r8).bind fun r9 =>
          if r9 < r7 then
            f_M_cheap_b18  c_t_s a1 n c_t_findings v2 (v3 + (-1))
          else
            f_M_cheap_b62 (f_M_cheap_b18  c_t_s a1 n) c_t_s a1 c_t_findings v3
def f_M_cheap (c_t_findings : (Nat → Int32)) (c_t_s : (Nat → Int32)) (a1 : Int32) : Option (Int32 × (Nat → Int32)) :=
  (f_M_isKind a1).bind fun r11 =>
  if r11 = (0 : Int32) then
    (f_M_no c_t_findings (0 : Int32)).bind fun r13 =>
    some (r13.1, r13.2)
  else
    f_M_cheap_b18  c_t_s a1 5000 c_t_findings (-1 : Int32) (25 : Int32)
def f_M_feed_b36   (a1 : Int32) (a2 : Int32) : Nat → Int32 → (Nat → Int32) → (Nat → Int32) → Int32 → Option (Int32 × Int32 × (Nat → Int32) × (Nat → Int32))
  | 0, _, _, _, _ => none
  | n + 1, c_t_taped, c_t_findings, c_t_tape, v3 =>
    if v3 < (0 : Int32) then
      some (c_t_taped, c_t_taped, c_t_findings, c_t_tape)
    else
      (wr c_t_tape 120 c_t_taped ((a1 >>> (((8 : Int32) * v3) &&& 31)) &&& (255 : Int32))).bind fun r2 =>
      f_M_feed_b36  a1 a2 n (c_t_taped + (1 : Int32)) c_t_findings r2 (v3 + (-1))
def f_M_feed (c_t_taped : Int32) (c_t_findings : (Nat → Int32)) (c_t_tape : (Nat → Int32)) (a1 : Int32) (a2 : Int32) : Option (Int32 × Int32 × (Nat → Int32) × (Nat → Int32)) :=
  (f_M_in a2 (1 : Int32) (4 : Int32)).bind fun r3 =>
  if r3 = (0 : Int32) then
    (f_M_no c_t_findings (0 : Int32)).bind fun r7 =>
    some (r7.1, c_t_taped, r7.2, c_t_tape)
  else
    if (c_t_taped + a2) ≤ (120 : Int32) then
      f_M_feed_b36  a1 a2 5000 c_t_taped c_t_findings c_t_tape (a2 - (1 : Int32))
    else
      (f_M_no c_t_findings (1 : Int32)).bind fun r6 =>
      some (r6.1, c_t_taped, r6.2, c_t_tape)
def f_M_wipe (c_t_taped : Int32)  : Option (Int32 × Int32) :=
  some (c_t_taped, (0 : Int32))
def f_M_byteAt (c_t_taped : Int32) (c_t_tape : (Nat → Int32)) (a1 : Int32) : Option (Int32) :=
  if c_t_taped ≤ a1 then
    some (-1 : Int32)
  else
    (rd c_t_tape 120 a1).bind fun r2 =>
    some r2
def f_M_blanks_b0  (c_t_taped : Int32) (c_t_tape : (Nat → Int32))  : Nat → Int32 → Option (Int32)
  | 0, _ => none
  | n + 1, c_t_here =>
    (f_M_byteAt c_t_taped c_t_tape c_t_here).bind fun r1 =>
    if r1 = (32 : Int32) then
      f_M_blanks_b0  c_t_taped c_t_tape n (c_t_here + (1 : Int32))
    else
      some c_t_here
def f_M_blanks (c_t_taped : Int32) (c_t_here : Int32) (c_t_tape : (Nat → Int32))  : Option (Int32) :=
  f_M_blanks_b0  c_t_taped c_t_tape 5000 c_t_here
def f_M_fails_b19  (c_t_here : Int32)  (c_t_fault : Int32) (s0 : Int32) : Option (Int32 × Int32) :=
  some ((0 : Int32), s0)
def f_M_fails (c_t_here : Int32) (c_t_fault : Int32)  : Option (Int32 × Int32) :=
  if (0 : Int32) ≤ c_t_fault then
    f_M_fails_b19  c_t_here c_t_fault c_t_fault
  else
    f_M_fails_b19  c_t_here c_t_fault c_t_here
def f_M_isLow  (a0 : Int32) : Option (Int32) :=
  (f_M_in a0 (97 : Int32) (122 : Int32)).bind fun r1 =>
  (bl r1).bind fun b2 =>
  some b2
def f_M_isDigit  (a0 : Int32) : Option (Int32) :=
  (f_M_in a0 (48 : Int32) (57 : Int32)).bind fun r1 =>
  (bl r1).bind fun b2 =>
  some b2
def f_M_wordEnd_b5  (c_t_taped : Int32) (c_t_here : Int32) (c_t_tape : (Nat → Int32))  : Nat → Int32 → Option (Int32)
  | 0, _ => none
  | n + 1, v1 =>
    (f_M_byteAt c_t_taped c_t_tape v1).bind fun r1 =>
    (f_M_isLow r1).bind fun r2 =>
    if r2 = (0 : Int32) then
      some v1
    else
      f_M_wordEnd_b5  c_t_taped c_t_here c_t_tape n (v1 + (1))
def f_M_wordEnd (c_t_taped : Int32) (c_t_here : Int32) (c_t_tape : (Nat → Int32))  : Option (Int32) :=
  f_M_wordEnd_b5  c_t_taped c_t_here c_t_tape 5000 c_t_here
def f_M_isWord_b63 (k28 : Int32 → Int32 → Int32 → Option (Int32 × Int32)) (c_t_taped : Int32) (c_t_tape : (Nat → Int32)) (a1 : Nat) (c_t_here : Int32) (v3 : Int32) (s0 : Int32) : Option (Int32 × Int32) :=
  k28 c_t_here s0 (v3 + (1))
def f_M_isWord_b28  (c_t_taped : Int32) (c_t_tape : (Nat → Int32)) (a1 : Nat) : Nat → Int32 → Int32 → Int32 → Option (Int32 × Int32)
  | 0, _, _, _ => none
  | n + 1, c_t_here, v2, v3 =>
    (f_Str_length a1).bind fun r1 =>
    if r1 ≤ v3 then
      (bl v2).bind fun b3 =>
      some (b3, c_t_here)
    else
      if v2 = (0 : Int32) then
        (bl v2).bind fun b5 =>
        some (b5, c_t_here)
      else
        (f_M_byteAt c_t_taped c_t_tape (c_t_here + v3)).bind fun r6 =>
        (f_Str_charAt a1 v3).bind fun r7 =>
        if r6 = r7 then
          f_M_isWord_b63 (f_M_isWord_b28  c_t_taped c_t_tape a1 n) c_t_taped c_t_tape a1 c_t_here v3 (1 : Int32)
        else
          f_M_isWord_b63 (f_M_isWord_b28  c_t_taped c_t_tape a1 n) c_t_taped c_t_tape a1 c_t_here v3 (0 : Int32)
def f_M_isWord_b25  (c_t_taped : Int32) (c_t_tape : (Nat → Int32)) (a1 : Nat) (c_t_here : Int32) (s0 : Int32) : Option (Int32 × Int32) :=
  f_M_isWord_b28  c_t_taped c_t_tape a1 5000 c_t_here s0 (0 : Int32)
def f_M_isWord (c_t_taped : Int32) (c_t_here : Int32) (c_t_tape : (Nat → Int32)) (a1 : Nat) : Option (Int32 × Int32) :=
  (f_M_blanks c_t_taped c_t_here c_t_tape).bind fun r9 =>
  (f_M_wordEnd c_t_taped r9 c_t_tape).bind fun r10 =>
  (f_Str_length a1).bind fun r11 =>
  if (r10 - r9) = r11 then
    f_M_isWord_b25  c_t_taped c_t_tape a1 r9 (1 : Int32)
  else
    f_M_isWord_b25  c_t_taped c_t_tape a1 r9 (0 : Int32)
def f_M_may_b38  (c_t_taped : Int32) (c_t_fault : Int32) (c_t_tape : (Nat → Int32)) (a1 : Nat) (c_t_here : Int32) (v2 : Int32) (s0 : Int32) (s1 : Int32) : Option (Int32 × Int32) :=
  (bl v2).bind fun b1 =>
  some (b1, (s1 + s0))
def f_M_may_b20  (c_t_taped : Int32) (c_t_fault : Int32) (c_t_tape : (Nat → Int32)) (a1 : Nat) (c_t_here : Int32) (s0 : Int32) : Option (Int32 × Int32) :=
  if s0 = (0 : Int32) then
    f_M_may_b38  c_t_taped c_t_fault c_t_tape a1 c_t_here s0 (0 : Int32) c_t_here
  else
    (f_Str_length a1).bind fun r3 =>
    f_M_may_b38  c_t_taped c_t_fault c_t_tape a1 c_t_here s0 r3 c_t_here
def f_M_may (c_t_taped : Int32) (c_t_here : Int32) (c_t_fault : Int32) (c_t_tape : (Nat → Int32)) (a1 : Nat) : Option (Int32 × Int32) :=
  if (0 : Int32) ≤ c_t_fault then
    f_M_may_b20  c_t_taped c_t_fault c_t_tape a1 c_t_here (0 : Int32)
  else
    (f_M_isWord c_t_taped c_t_here c_t_tape a1).bind fun r5 =>
    if r5.1 = (0 : Int32) then
      f_M_may_b20  c_t_taped c_t_fault c_t_tape a1 r5.2 (0 : Int32)
    else
      f_M_may_b20  c_t_taped c_t_fault c_t_tape a1 r5.2 (1 : Int32)
def f_M_must_b15  (c_t_taped : Int32) (c_t_tape : (Nat → Int32)) (a1 : Nat) (c_t_here : Int32) (c_t_fault : Int32) : Option (Int32 × Int32 × Int32) :=
  some ((1 : Int32), c_t_here, c_t_fault)
def f_M_must (c_t_taped : Int32) (c_t_here : Int32) (c_t_fault : Int32) (c_t_tape : (Nat → Int32)) (a1 : Nat) : Option (Int32 × Int32 × Int32) :=
  (f_M_may c_t_taped c_t_here c_t_fault c_t_tape a1).bind fun r1 =>
  if r1.1 = (0 : Int32) then
    (f_M_fails r1.2 c_t_fault).bind fun r3 =>
    if r3.1 = (0 : Int32) then
      some ((0 : Int32), r1.2, r3.2)
    else
      f_M_must_b15  c_t_taped c_t_tape a1 r1.2 r3.2
  else
    f_M_must_b15  c_t_taped c_t_tape a1 r1.2 c_t_fault
def f_M_number_b25  (c_t_taped : Int32) (c_t_tape : (Nat → Int32)) (a1 : Int32) (a2 : Int32) (c_t_here : Int32) (c_t_fault : Int32) (c_t_value : Int32) : Option (Int32 × Int32 × Int32 × Int32) :=
  (f_M_fails c_t_here c_t_fault).bind fun r1 =>
  (bl r1.1).bind fun b2 =>
  some (b2, c_t_here, r1.2, c_t_value)
def f_M_number_b94  (c_t_taped : Int32) (c_t_tape : (Nat → Int32)) (a1 : Int32) (a2 : Int32) (c_t_here : Int32) (c_t_fault : Int32) (c_t_value : Int32) : Option (Int32 × Int32 × Int32 × Int32) :=
  (f_M_fails c_t_here c_t_fault).bind fun r3 =>
  (bl r3.1).bind fun b4 =>
  some (b4, c_t_here, r3.2, c_t_value)
def f_M_number_b38  (c_t_taped : Int32) (c_t_tape : (Nat → Int32)) (a1 : Int32) (a2 : Int32) : Nat → Int32 → Int32 → Int32 → Int64 → Int32 → Option (Int32 × Int32 × Int32 × Int32)
  | 0, _, _, _, _, _ => none
  | n + 1, c_t_here, c_t_fault, c_t_value, v3, v5 =>
    (f_M_byteAt c_t_taped c_t_tape v5).bind fun r5 =>
    (f_M_isDigit r5).bind fun r6 =>
    if r6 = (0 : Int32) then
      if (lg_cmp v3 a1.toInt64) < (0 : Int32) then
        f_M_number_b94  c_t_taped c_t_tape a1 a2 c_t_here c_t_fault c_t_value
      else
        if (lg_cmp v3 a2.toInt64) ≤ (0 : Int32) then
          some ((1 : Int32), v5, c_t_fault, v3.toInt32)
        else
          f_M_number_b94  c_t_taped c_t_tape a1 a2 c_t_here c_t_fault c_t_value
    else
      (f_M_byteAt c_t_taped c_t_tape v5).bind fun r10 =>
      kl (if ((((10 : Int64) * v3) + r10.toInt64) - (48 : Int64)) < (99999 : Int64) then ((((10 : Int64) * v3) + r10.toInt64) - (48 : Int64)) else (99999 : Int64)) fun x11 =>
      f_M_number_b38  c_t_taped c_t_tape a1 a2 n c_t_here c_t_fault c_t_value x11 (v5 + (1))
def f_M_number (c_t_taped : Int32) (c_t_here : Int32) (c_t_fault : Int32) (c_t_value : Int32) (c_t_tape : (Nat → Int32)) (a1 : Int32) (a2 : Int32) : Option (Int32 × Int32 × Int32 × Int32) :=
  (f_M_blanks c_t_taped c_t_here c_t_tape).bind fun r12 =>
  if (0 : Int32) ≤ c_t_fault then
    f_M_number_b25  c_t_taped c_t_tape a1 a2 r12 c_t_fault c_t_value
  else
    (f_M_byteAt c_t_taped c_t_tape r12).bind fun r14 =>
    (f_M_isDigit r14).bind fun r15 =>
    if r15 = (0 : Int32) then
      f_M_number_b25  c_t_taped c_t_tape a1 a2 r12 c_t_fault c_t_value
    else
      f_M_number_b38  c_t_taped c_t_tape a1 a2 5000 r12 c_t_fault c_t_value (0 : Int64) r12
def f_M_kindName  (a0 : Int32) : Option (Nat) :=
  if a0 = (0 : Int32) then
    some 0
  else
  if a0 = (1 : Int32) then
    some 1
  else
  if a0 = (2 : Int32) then
    some 2
  else
  if a0 = (3 : Int32) then
    some 3
  else
  if a0 = (4 : Int32) then
    some 4
  else
  some 5
def f_M_letterTold_b96  (c_t_taped : Int32) (c_t_tape : (Nat → Int32)) (a1 : Int32) (c_t_here : Int32) (c_t_fault : Int32) (c_t_value : Int32) (c_t_s : (Nat → Int32)) (v3 : Int32) (v4 : Int32) : Option (Int32 × Int32 × Int32 × Int32 × (Nat → Int32)) :=
  (f_M_adds c_t_s a1 v3 v4).bind fun r1 =>
  some ((1 : Int32), c_t_here, c_t_fault, c_t_value, r1)
def f_M_letterTold_b64  (c_t_taped : Int32) (c_t_tape : (Nat → Int32)) (a1 : Int32) (c_t_here : Int32) (c_t_fault : Int32) (c_t_value : Int32) (c_t_s : (Nat → Int32)) (s0 : Int32) : Option (Int32 × Int32 × Int32 × Int32 × (Nat → Int32)) :=
  (f_M_may c_t_taped c_t_here c_t_fault c_t_tape 10).bind fun r2 =>
  if r2.1 = (0 : Int32) then
    f_M_letterTold_b96  c_t_taped c_t_tape a1 r2.2 c_t_fault c_t_value c_t_s s0 (6 : Int32)
  else
    (f_M_number c_t_taped r2.2 c_t_fault c_t_value c_t_tape (0 : Int32) (99 : Int32)).bind fun r4 =>
    if r4.1 = (0 : Int32) then
      some ((0 : Int32), r4.2.1, r4.2.2.1, r4.2.2.2, c_t_s)
    else
      f_M_letterTold_b96  c_t_taped c_t_tape a1 r4.2.1 r4.2.2.1 r4.2.2.2 c_t_s s0 r4.2.2.2
def f_M_letterTold_b34  (c_t_taped : Int32) (c_t_tape : (Nat → Int32)) (a1 : Int32) (c_t_here : Int32) (c_t_fault : Int32) (c_t_value : Int32) (c_t_s : (Nat → Int32)) (v2 : Int32) (s0 : Int32) (s1 : Int32) : Option (Int32 × Int32 × Int32 × Int32 × (Nat → Int32)) :=
  (f_M_number c_t_taped c_t_here c_t_fault c_t_value c_t_tape s1 s0).bind fun r6 =>
  if r6.1 = (0 : Int32) then
    some ((0 : Int32), r6.2.1, r6.2.2.1, r6.2.2.2, c_t_s)
  else
    if v2 = (0 : Int32) then
      (rd c_t_s 65 ((3 : Int32) + r6.2.2.2)).bind fun r9 =>
      f_M_letterTold_b64  c_t_taped c_t_tape a1 r6.2.1 r6.2.2.1 r6.2.2.2 c_t_s r9
    else
      f_M_letterTold_b64  c_t_taped c_t_tape a1 r6.2.1 r6.2.2.1 r6.2.2.2 c_t_s r6.2.2.2
def f_M_letterTold_b20  (c_t_taped : Int32) (c_t_tape : (Nat → Int32)) (a1 : Int32) (c_t_here : Int32) (c_t_fault : Int32) (c_t_value : Int32) (c_t_s : (Nat → Int32)) (v2 : Int32) : Option (Int32 × Int32 × Int32 × Int32 × (Nat → Int32)) :=
  if v2 = (0 : Int32) then
    f_M_letterTold_b34  c_t_taped c_t_tape a1 c_t_here c_t_fault c_t_value c_t_s v2 (25 : Int32) (0 : Int32)
  else
    f_M_letterTold_b34  c_t_taped c_t_tape a1 c_t_here c_t_fault c_t_value c_t_s v2 (4095 : Int32) (0 : Int32)
def f_M_letterTold (c_t_taped : Int32) (c_t_here : Int32) (c_t_fault : Int32) (c_t_value : Int32) (c_t_s : (Nat → Int32)) (c_t_tape : (Nat → Int32)) (a1 : Int32) : Option (Int32 × Int32 × Int32 × Int32 × (Nat → Int32)) :=
  (f_M_may c_t_taped c_t_here c_t_fault c_t_tape 8).bind fun r11 =>
  if r11.1 = (0 : Int32) then
    (f_M_must c_t_taped r11.2 c_t_fault c_t_tape 9).bind fun r13 =>
    if r13.1 = (0 : Int32) then
      some ((0 : Int32), r13.2.1, r13.2.2, c_t_value, c_t_s)
    else
      f_M_letterTold_b20  c_t_taped c_t_tape a1 r13.2.1 r13.2.2 c_t_value c_t_s r11.1
  else
    f_M_letterTold_b20  c_t_taped c_t_tape a1 r11.2 c_t_fault c_t_value c_t_s r11.1
def f_M_signTold (c_t_taped : Int32) (c_t_here : Int32) (c_t_fault : Int32) (c_t_value : Int32) (c_t_s : (Nat → Int32)) (c_t_tape : (Nat → Int32))  : Option (Int32 × Int32 × Int32 × Int32 × (Nat → Int32)) :=
  (f_M_number c_t_taped c_t_here c_t_fault c_t_value c_t_tape (0 : Int32) (25 : Int32)).bind fun r1 =>
  if r1.1 = (0 : Int32) then
    some ((0 : Int32), r1.2.1, r1.2.2.1, r1.2.2.2, c_t_s)
  else
    (f_M_number c_t_taped r1.2.1 r1.2.2.1 r1.2.2.2 c_t_tape (0 : Int32) (4095 : Int32)).bind fun r3 =>
    if r3.1 = (0 : Int32) then
      some ((0 : Int32), r3.2.1, r3.2.2.1, r3.2.2.2, c_t_s)
    else
      (wr c_t_s 65 ((3 : Int32) + r1.2.2.2) r3.2.2.2).bind fun r5 =>
      some ((1 : Int32), r3.2.1, r3.2.2.1, r3.2.2.2, r5)
def f_M_item_b34 (k2 : Int32 → Int32 → Int32 → (Nat → Int32) → Int32 → Option (Int32 × Int32 × Int32 × Int32 × (Nat → Int32))) (c_t_taped : Int32) (c_t_tape : (Nat → Int32))  (c_t_here : Int32) (c_t_fault : Int32) (c_t_value : Int32) (c_t_s : (Nat → Int32)) (v1 : Int32) : Option (Int32 × Int32 × Int32 × Int32 × (Nat → Int32)) :=
  (f_M_kindName v1).bind fun r1 =>
  (f_M_may c_t_taped c_t_here c_t_fault c_t_tape r1).bind fun r2 =>
  if r2.1 = (0 : Int32) then
    k2 r2.2 c_t_fault c_t_value c_t_s (v1 + (1))
  else
    (f_M_letterTold c_t_taped r2.2 c_t_fault c_t_value c_t_s c_t_tape v1).bind fun r4 =>
    (bl r4.1).bind fun b5 =>
    some (b5, r4.2.1, r4.2.2.1, r4.2.2.2.1, r4.2.2.2.2)
def f_M_item_b2  (c_t_taped : Int32) (c_t_tape : (Nat → Int32))  : Nat → Int32 → Int32 → Int32 → (Nat → Int32) → Int32 → Option (Int32 × Int32 × Int32 × Int32 × (Nat → Int32))
  | 0, _, _, _, _, _ => none
  | n + 1, c_t_here, c_t_fault, c_t_value, c_t_s, v1 =>
    if (5 : Int32) < v1 then
      (f_M_may c_t_taped c_t_here c_t_fault c_t_tape 6).bind fun r7 =>
      if r7.1 = (0 : Int32) then
        (f_M_must c_t_taped r7.2 c_t_fault c_t_tape 7).bind fun r9 =>
        if r9.1 = (0 : Int32) then
          some ((0 : Int32), r9.2.1, r9.2.2, c_t_value, c_t_s)
        else
          (f_M_number c_t_taped r9.2.1 r9.2.2 c_t_value c_t_tape (0 : Int32) (4095 : Int32)).bind fun r11 =>
          if r11.1 = (0 : Int32) then
            some ((0 : Int32), r11.2.1, r11.2.2.1, r11.2.2.2, c_t_s)
          else
            (wr c_t_s 65 (1 : Int32) r11.2.2.2).bind fun r13 =>
            some ((1 : Int32), r11.2.1, r11.2.2.1, r11.2.2.2, r13)
      else
        (f_M_signTold c_t_taped r7.2 c_t_fault c_t_value c_t_s c_t_tape).bind fun r14 =>
        (bl r14.1).bind fun b15 =>
        some (b15, r14.2.1, r14.2.2.1, r14.2.2.2.1, r14.2.2.2.2)
    else
      (f_M_kindName v1).bind fun r16 =>
      (f_M_isWord c_t_taped c_t_here c_t_tape r16).bind fun r17 =>
      if r17.1 = (0 : Int32) then
        f_M_item_b34 (f_M_item_b2  c_t_taped c_t_tape n) c_t_taped c_t_tape r17.2 c_t_fault c_t_value c_t_s v1
      else
        (rd c_t_s 65 (2 : Int32)).bind fun r19 =>
        if r19 = (12 : Int32) then
          (f_M_fails r17.2 c_t_fault).bind fun r21 =>
          (bl r21.1).bind fun b22 =>
          some (b22, r17.2, r21.2, c_t_value, c_t_s)
        else
          f_M_item_b34 (f_M_item_b2  c_t_taped c_t_tape n) c_t_taped c_t_tape r17.2 c_t_fault c_t_value c_t_s v1
def f_M_item (c_t_taped : Int32) (c_t_here : Int32) (c_t_fault : Int32) (c_t_value : Int32) (c_t_s : (Nat → Int32)) (c_t_tape : (Nat → Int32))  : Option (Int32 × Int32 × Int32 × Int32 × (Nat → Int32)) :=
  f_M_item_b2  c_t_taped c_t_tape 5000 c_t_here c_t_fault c_t_value c_t_s (0 : Int32)
def f_M_field_b106  (c_t_tape : (Nat → Int32))  (c_t_taped : Int32) (c_t_here : Int32) (c_t_fault : Int32) (c_t_value : Int32) (c_t_before : (Nat → Int32)) (c_t_s : (Nat → Int32)) (v1 : Int32) : Option (Int32 × Int32 × Int32 × Int32 × Int32 × (Nat → Int32) × (Nat → Int32)) :=
  if c_t_fault < (0 : Int32) then
    some (v1, (0 : Int32), c_t_here, c_t_fault, c_t_value, c_t_before, c_t_s)
  else
    (f_M_lay c_t_before c_t_s).bind fun r2 =>
    some (((-1 : Int32) - c_t_fault), (0 : Int32), c_t_here, c_t_fault, c_t_value, c_t_before, r2)
def f_M_field_b83  (c_t_tape : (Nat → Int32))  (c_t_taped : Int32) (c_t_here : Int32) (c_t_fault : Int32) (c_t_value : Int32) (c_t_before : (Nat → Int32)) (c_t_s : (Nat → Int32)) (v1 : Int32) : Option (Int32 × Int32 × Int32 × Int32 × Int32 × (Nat → Int32) × (Nat → Int32)) :=
  if (0 : Int32) ≤ c_t_fault then
    f_M_field_b106  c_t_tape c_t_taped c_t_here c_t_fault c_t_value c_t_before c_t_s v1
  else
    if c_t_taped ≤ c_t_here then
      f_M_field_b106  c_t_tape c_t_taped c_t_here c_t_fault c_t_value c_t_before c_t_s v1
    else
      (f_M_fails c_t_here c_t_fault).bind fun r5 =>
      f_M_field_b106  c_t_tape c_t_taped c_t_here r5.2 c_t_value c_t_before c_t_s v1
def f_M_field_b76 (k25 : Int32 → Int32 → Int32 → Int32 → (Nat → Int32) → (Nat → Int32) → Int32 → Int32 → Option (Int32 × Int32 × Int32 × Int32 × Int32 × (Nat → Int32) × (Nat → Int32))) (c_t_tape : (Nat → Int32))  (c_t_taped : Int32) (c_t_here : Int32) (c_t_fault : Int32) (c_t_value : Int32) (c_t_before : (Nat → Int32)) (c_t_s : (Nat → Int32)) (v1 : Int32) (v2 : Int32) (s0 : Int32) (s1 : Int32) : Option (Int32 × Int32 × Int32 × Int32 × Int32 × (Nat → Int32) × (Nat → Int32)) :=
  k25 c_t_taped (s1 + s0) c_t_fault c_t_value c_t_before c_t_s v1 v2
def f_M_field_b61 (k25 : Int32 → Int32 → Int32 → Int32 → (Nat → Int32) → (Nat → Int32) → Int32 → Int32 → Option (Int32 × Int32 × Int32 × Int32 × Int32 × (Nat → Int32) × (Nat → Int32))) (c_t_tape : (Nat → Int32))  (c_t_taped : Int32) (c_t_here : Int32) (c_t_fault : Int32) (c_t_value : Int32) (c_t_before : (Nat → Int32)) (c_t_s : (Nat → Int32)) (v1 : Int32) (s0 : Int32) : Option (Int32 × Int32 × Int32 × Int32 × Int32 × (Nat → Int32) × (Nat → Int32)) :=
  if s0 = (0 : Int32) then
    f_M_field_b76 k25 c_t_tape c_t_taped c_t_here c_t_fault c_t_value c_t_before c_t_s v1 s0 (0 : Int32) c_t_here
  else
    f_M_field_b76 k25 c_t_tape c_t_taped c_t_here c_t_fault c_t_value c_t_before c_t_s v1 s0 (1 : Int32) c_t_here
def f_M_field_b25  (c_t_tape : (Nat → Int32))  : Nat → Int32 → Int32 → Int32 → Int32 → (Nat → Int32) → (Nat → Int32) → Int32 → Int32 → Option (Int32 × Int32 × Int32 × Int32 × Int32 × (Nat → Int32) × (Nat → Int32))
  | 0, _, _, _, _, _, _, _, _ => none
  | n + 1, c_t_taped, c_t_here, c_t_fault, c_t_value, c_t_before, c_t_s, v1, v2 =>
    if v2 = (0 : Int32) then
      f_M_field_b83  c_t_tape c_t_taped c_t_here c_t_fault c_t_value c_t_before c_t_s v1
    else
      (f_M_item c_t_taped c_t_here c_t_fault c_t_value c_t_s c_t_tape).bind fun r8 =>
      if r8.1 = (0 : Int32) then
        f_M_field_b83  c_t_tape c_t_taped r8.2.1 r8.2.2.1 r8.2.2.2.1 c_t_before r8.2.2.2.2 v1
      else
        (f_M_blanks c_t_taped r8.2.1 c_t_tape).bind fun r10 =>
        (f_M_byteAt c_t_taped c_t_tape r10).bind fun r11 =>
        if r11 = (59 : Int32) then
          f_M_field_b61 (f_M_field_b25  c_t_tape n) c_t_tape c_t_taped r10 r8.2.2.1 r8.2.2.2.1 c_t_before r8.2.2.2.2 (v1 + (1)) (1 : Int32)
        else
          f_M_field_b61 (f_M_field_b25  c_t_tape n) c_t_tape c_t_taped r10 r8.2.2.1 r8.2.2.2.1 c_t_before r8.2.2.2.2 (v1 + (1)) (0 : Int32)
def f_M_field (c_t_taped : Int32) (c_t_here : Int32) (c_t_fault : Int32) (c_t_value : Int32) (c_t_before : (Nat → Int32)) (c_t_s : (Nat → Int32)) (c_t_tape : (Nat → Int32))  : Option (Int32 × Int32 × Int32 × Int32 × Int32 × (Nat → Int32) × (Nat → Int32)) :=
  (f_M_lay c_t_s c_t_before).bind fun r13 =>
  f_M_field_b25  c_t_tape 5000 c_t_taped (0 : Int32) (-1 : Int32) c_t_value r13 c_t_s (0 : Int32) (1 : Int32)
def f_M_isSheet  (a0 : Int32) : Option (Int32) :=
  (f_M_in a0 (0 : Int32) (3 : Int32)).bind fun r1 =>
  (bl r1).bind fun b2 =>
  some b2
def f_M_sheet_b29   (a1 : Int32) (a2 : Int32) (a3 : Int32) (c_t_bits : (Nat → Int32)) (c_t_cells : (Nat → Int64)) (c_t_findings : (Nat → Int32)) (c_t_longs : (Nat → Int32)) : Option (Int32 × (Nat → Int32) × (Nat → Int64) × (Nat → Int32) × (Nat → Int32)) :=
  (f_M_no c_t_findings (0 : Int32)).bind fun r1 =>
  some (r1.1, c_t_bits, c_t_cells, r1.2, c_t_longs)
def f_M_sheet_b83   (a1 : Int32) (a2 : Int32) (a3 : Int32) : Nat → (Nat → Int32) → (Nat → Int64) → (Nat → Int32) → (Nat → Int32) → Int32 → Option (Int32 × (Nat → Int32) × (Nat → Int64) × (Nat → Int32) × (Nat → Int32))
  | 0, _, _, _, _, _ => none
  | n + 1, c_t_bits, c_t_cells, c_t_findings, c_t_longs, v4 =>
    if (40 : Int32) ≤ v4 then
      (rd c_t_longs 4 a1).bind fun r3 =>
      some (r3, c_t_bits, c_t_cells, c_t_findings, c_t_longs)
    else
      (wrL c_t_cells 160 (((40 : Int32) * a1) + v4) (0 : Int64)).bind fun r4 =>
      f_M_sheet_b83  a1 a2 a3 n c_t_bits r4 c_t_findings c_t_longs (v4 + (1))
def f_M_sheet_b79   (a1 : Int32) (a2 : Int32) (a3 : Int32) (c_t_bits : (Nat → Int32)) (c_t_cells : (Nat → Int64)) (c_t_findings : (Nat → Int32)) (c_t_longs : (Nat → Int32)) (s0 : Int32) (s1 : Int32) : Option (Int32 × (Nat → Int32) × (Nat → Int64) × (Nat → Int32) × (Nat → Int32)) :=
  (wr c_t_longs 4 s1 s0).bind fun r5 =>
  f_M_sheet_b83  a1 a2 a3 5000 c_t_bits c_t_cells c_t_findings r5 (0 : Int32)
def f_M_sheet_b35   (a1 : Int32) (a2 : Int32) (a3 : Int32) (c_t_bits : (Nat → Int32)) (c_t_cells : (Nat → Int64)) (c_t_findings : (Nat → Int32)) (c_t_longs : (Nat → Int32)) : Option (Int32 × (Nat → Int32) × (Nat → Int64) × (Nat → Int32) × (Nat → Int32)) :=
  if (0 : Int32) ≤ a3 then
    if a3 ≤ (40 : Int32) then
      (wr c_t_bits 4 a1 a2).bind fun r8 =>
      if a2 = (0 : Int32) then
        f_M_sheet_b79  a1 a2 a3 r8 c_t_cells c_t_findings c_t_longs (0 : Int32) a1
      else
        f_M_sheet_b79  a1 a2 a3 r8 c_t_cells c_t_findings c_t_longs a3 a1
    else
      (f_M_no c_t_findings (0 : Int32)).bind fun r10 =>
      some (r10.1, c_t_bits, c_t_cells, r10.2, c_t_longs)
  else
    (f_M_no c_t_findings (6 : Int32)).bind fun r11 =>
    some (r11.1, c_t_bits, c_t_cells, r11.2, c_t_longs)
def f_M_sheet (c_t_bits : (Nat → Int32)) (c_t_cells : (Nat → Int64)) (c_t_findings : (Nat → Int32)) (c_t_longs : (Nat → Int32)) (a1 : Int32) (a2 : Int32) (a3 : Int32) : Option (Int32 × (Nat → Int32) × (Nat → Int64) × (Nat → Int32) × (Nat → Int32)) :=
  (f_M_isSheet a1).bind fun r12 =>
  if r12 = (0 : Int32) then
    f_M_sheet_b29  a1 a2 a3 c_t_bits c_t_cells c_t_findings c_t_longs
  else
    if a2 = (0 : Int32) then
      f_M_sheet_b35  a1 a2 a3 c_t_bits c_t_cells c_t_findings c_t_longs
    else
      if a2 = (8 : Int32) then
        f_M_sheet_b35  a1 a2 a3 c_t_bits c_t_cells c_t_findings c_t_longs
      else
        if a2 = (16 : Int32) then
          f_M_sheet_b35  a1 a2 a3 c_t_bits c_t_cells c_t_findings c_t_longs
        else
          if a2 = (64 : Int32) then
            f_M_sheet_b35  a1 a2 a3 c_t_bits c_t_cells c_t_findings c_t_longs
          else
            f_M_sheet_b29  a1 a2 a3 c_t_bits c_t_cells c_t_findings c_t_longs
def f_M_writes (c_t_bits : (Nat → Int32)) (c_t_cells : (Nat → Int64)) (a1 : Int32) (a2 : Int32) (a3 : Int64) : Option ((Nat → Int64)) :=
  (rd c_t_bits 4 a1).bind fun r1 =>
  if r1 = (8 : Int32) then
    (wrL c_t_cells 160 (((40 : Int32) * a1) + a2) a3.toInt32.toInt8.toInt32.toInt64).bind fun r7 =>
    some r7
  else
    (rd c_t_bits 4 a1).bind fun r3 =>
    if r3 = (16 : Int32) then
      (wrL c_t_cells 160 (((40 : Int32) * a1) + a2) a3.toInt32.toInt16.toInt32.toInt64).bind fun r6 =>
      some r6
    else
      (wrL c_t_cells 160 (((40 : Int32) * a1) + a2) a3).bind fun r5 =>
      some r5
def f_M_write (c_t_bits : (Nat → Int32)) (c_t_cells : (Nat → Int64)) (c_t_findings : (Nat → Int32)) (c_t_longs : (Nat → Int32)) (a1 : Int32) (a2 : Int32) (a3 : Int64) : Option (Int64 × (Nat → Int64) × (Nat → Int32)) :=
  (f_M_isSheet a1).bind fun r1 =>
  if r1 = (0 : Int32) then
    (f_M_no c_t_findings (0 : Int32)).bind fun r12 =>
    some (r12.1.toInt64, c_t_cells, r12.2)
  else
    (rd c_t_bits 4 a1).bind fun r3 =>
    if r3 = (0 : Int32) then
      (f_M_no c_t_findings (5 : Int32)).bind fun r11 =>
      some (r11.1.toInt64, c_t_cells, r11.2)
    else
      (rd c_t_longs 4 a1).bind fun r5 =>
      (f_M_in a2 (0 : Int32) (r5 - (1 : Int32))).bind fun r6 =>
      if r6 = (0 : Int32) then
        (f_M_no c_t_findings (0 : Int32)).bind fun r10 =>
        some (r10.1.toInt64, c_t_cells, r10.2)
      else
        (rd c_t_cells 160 (((40 : Int32) * a1) + a2)).bind fun r8 =>
        (f_M_writes c_t_bits c_t_cells a1 a2 a3).bind fun r9 =>
        some (r8, r9, c_t_findings)
def f_M_copy_b14  (c_t_bits : (Nat → Int32)) (c_t_longs : (Nat → Int32)) (a1 : Int32) (a2 : Int32) (a3 : Int32) (a4 : Int32) (a5 : Int32) (c_t_between : (Nat → Int64)) (c_t_cells : (Nat → Int64)) (c_t_findings : (Nat → Int32)) : Option (Int32 × (Nat → Int64) × (Nat → Int64) × (Nat → Int32)) :=
  (f_M_no c_t_findings (0 : Int32)).bind fun r1 =>
  some (r1.1, c_t_between, c_t_cells, r1.2)
def f_M_copy_b38  (c_t_bits : (Nat → Int32)) (c_t_longs : (Nat → Int32)) (a1 : Int32) (a2 : Int32) (a3 : Int32) (a4 : Int32) (a5 : Int32) (c_t_between : (Nat → Int64)) (c_t_cells : (Nat → Int64)) (c_t_findings : (Nat → Int32)) : Option (Int32 × (Nat → Int64) × (Nat → Int64) × (Nat → Int32)) :=
  (f_M_no c_t_findings (5 : Int32)).bind fun r2 =>
  some (r2.1, c_t_between, c_t_cells, r2.2)
def f_M_copy_b106  (c_t_bits : (Nat → Int32)) (c_t_longs : (Nat → Int32)) (a1 : Int32) (a2 : Int32) (a3 : Int32) (a4 : Int32) (a5 : Int32) (c_t_between : (Nat → Int64)) (c_t_cells : (Nat → Int64)) (c_t_findings : (Nat → Int32)) : Option (Int32 × (Nat → Int64) × (Nat → Int64) × (Nat → Int32)) :=
  (f_M_no c_t_findings (0 : Int32)).bind fun r3 =>
  some (r3.1, c_t_between, c_t_cells, r3.2)
def f_M_copy_b152  (c_t_bits : (Nat → Int32)) (c_t_longs : (Nat → Int32)) (a1 : Int32) (a2 : Int32) (a3 : Int32) (a4 : Int32) (a5 : Int32) : Nat → (Nat → Int64) → (Nat → Int64) → (Nat → Int32) → Int32 → Option (Int32 × (Nat → Int64) × (Nat → Int64) × (Nat → Int32))
  | 0, _, _, _, _ => none
  | n + 1, c_t_between, c_t_cells, c_t_findings, v6 =>
    if a5 ≤ v6 then
      some (a5, c_t_between, c_t_cells, c_t_findings)
    else
      (rd c_t_between 40 v6).bind fun r5 =>
      (wrL c_t_cells 160 ((((40 : Int32) * a3) + a4) + v6) r5).bind fun r6 =>
      f_M_copy_b152  c_t_bits c_t_longs a1 a2 a3 a4 a5 n c_t_between r6 c_t_findings (v6 + (1))
def f_M_copy_b115  (c_t_bits : (Nat → Int32)) (c_t_longs : (Nat → Int32)) (a1 : Int32) (a2 : Int32) (a3 : Int32) (a4 : Int32) (a5 : Int32) : Nat → (Nat → Int64) → (Nat → Int64) → (Nat → Int32) → Int32 → Option (Int32 × (Nat → Int64) × (Nat → Int64) × (Nat → Int32))
  | 0, _, _, _, _ => none
  | n + 1, c_t_between, c_t_cells, c_t_findings, v6 =>
    if a5 ≤ v6 then
      f_M_copy_b152  c_t_bits c_t_longs a1 a2 a3 a4 a5 5000 c_t_between c_t_cells c_t_findings (0 : Int32)
    else
      (rd c_t_cells 160 ((((40 : Int32) * a1) + a2) + v6)).bind fun r8 =>
      (wrL c_t_between 40 v6 r8).bind fun r9 =>
      f_M_copy_b115  c_t_bits c_t_longs a1 a2 a3 a4 a5 n r9 c_t_cells c_t_findings (v6 + (1))
def f_M_copy (c_t_between : (Nat → Int64)) (c_t_bits : (Nat → Int32)) (c_t_cells : (Nat → Int64)) (c_t_findings : (Nat → Int32)) (c_t_longs : (Nat → Int32)) (a1 : Int32) (a2 : Int32) (a3 : Int32) (a4 : Int32) (a5 : Int32) : Option (Int32 × (Nat → Int64) × (Nat → Int64) × (Nat → Int32)) :=
  (f_M_isSheet a1).bind fun r10 =>
  if r10 = (0 : Int32) then
    f_M_copy_b14  c_t_bits c_t_longs a1 a2 a3 a4 a5 c_t_between c_t_cells c_t_findings
  else
    (f_M_isSheet a3).bind fun r12 =>
    if r12 = (0 : Int32) then
      f_M_copy_b14  c_t_bits c_t_longs a1 a2 a3 a4 a5 c_t_between c_t_cells c_t_findings
    else
      (rd c_t_bits 4 a1).bind fun r14 =>
      if r14 = (0 : Int32) then
        f_M_copy_b38  c_t_bits c_t_longs a1 a2 a3 a4 a5 c_t_between c_t_cells c_t_findings
      else
        (rd c_t_bits 4 a3).bind fun r16 =>
        if r16 = (0 : Int32) then
          f_M_copy_b38  c_t_bits c_t_longs a1 a2 a3 a4 a5 c_t_between c_t_cells c_t_findings
        else
          (rd c_t_bits 4 a1).bind fun r18 =>
          (rd c_t_bits 4 a3).bind fun r19 =>
          if r18 = r19 then
            if a5 < (0 : Int32) then
              f_M_copy_b106  c_t_bits c_t_longs a1 a2 a3 a4 a5 c_t_between c_t_cells c_t_findings
            else
              if a2 < (0 : Int32) then
                f_M_copy_b106  c_t_bits c_t_longs a1 a2 a3 a4 a5 c_t_between c_t_cells c_t_findings
              else
                if a4 < (0 : Int32) then
                  f_M_copy_b106  c_t_bits c_t_longs a1 a2 a3 a4 a5 c_t_between c_t_cells c_t_findings
                else
                  (rd c_t_longs 4 a1).bind fun r24 =>
                  if (r24 - a5) < a2 then
                    f_M_copy_b106  c_t_bits c_t_longs a1 a2 a3 a4 a5 c_t_between c_t_cells c_t_findings
                  else
                    (rd c_t_longs 4 a3).bind fun r26 =>
                    if a4 ≤ (r26 - a5) then
                      f_M_copy_b115  c_t_bits c_t_longs a1 a2 a3 a4 a5 5000 c_t_between c_t_cells c_t_findings (0 : Int32)
                    else
                      f_M_copy_b106  c_t_bits c_t_longs a1 a2 a3 a4 a5 c_t_between c_t_cells c_t_findings
          else
            (f_M_no c_t_findings (2 : Int32)).bind fun r28 =>
            some (r28.1, c_t_between, c_t_cells, r28.2)
def f_M_lays_b32  (c_t_bits : (Nat → Int32)) (c_t_cells : (Nat → Int64)) (c_t_longs : (Nat → Int32)) (a1 : Int32) : Nat → (Nat → Int32) → (Nat → Int32) → Int32 → Int32 → Option (Int32 × (Nat → Int32) × (Nat → Int32))
  | 0, _, _, _, _ => none
  | n + 1, c_t_findings, c_t_s, v2, v3 =>
    (rd c_t_longs 4 a1).bind fun r1 =>
    if r1 ≤ v3 then
      some (v2, c_t_findings, c_t_s)
    else
      if (26 : Int32) ≤ v3 then
        some (v2, c_t_findings, c_t_s)
      else
        (rd c_t_cells 160 (((40 : Int32) * a1) + v3)).bind fun r4 =>
        if (lg_cmp r4 (0 : Int64)) < (0 : Int32) then
          f_M_lays_b32  c_t_bits c_t_cells c_t_longs a1 n c_t_findings c_t_s v2 (v3 + (1))
        else
          if (0 : Int32) ≤ (lg_cmp r4 (4096 : Int64)) then
            f_M_lays_b32  c_t_bits c_t_cells c_t_longs a1 n c_t_findings c_t_s v2 (v3 + (1))
          else
            (wr c_t_s 65 ((3 : Int32) + v3) r4.toInt32).bind fun r7 =>
            f_M_lays_b32  c_t_bits c_t_cells c_t_longs a1 n c_t_findings r7 (v2 + (1)) (v3 + (1))
def f_M_lays (c_t_bits : (Nat → Int32)) (c_t_cells : (Nat → Int64)) (c_t_findings : (Nat → Int32)) (c_t_longs : (Nat → Int32)) (c_t_s : (Nat → Int32)) (a1 : Int32) : Option (Int32 × (Nat → Int32) × (Nat → Int32)) :=
  (f_M_isSheet a1).bind fun r8 =>
  if r8 = (0 : Int32) then
    (f_M_no c_t_findings (0 : Int32)).bind fun r13 =>
    some (r13.1, r13.2, c_t_s)
  else
    (rd c_t_bits 4 a1).bind fun r10 =>
    if r10 = (0 : Int32) then
      (f_M_no c_t_findings (5 : Int32)).bind fun r12 =>
      some (r12.1, r12.2, c_t_s)
    else
      f_M_lays_b32  c_t_bits c_t_cells c_t_longs a1 5000 c_t_findings c_t_s (0 : Int32) (0 : Int32)
def f_M_show_b61  (c_t_bits : (Nat → Int32)) (c_t_longs : (Nat → Int32)) (c_t_s : (Nat → Int32)) (a1 : Int32) : Nat → (Nat → Int64) → (Nat → Int32) → Int32 → Int32 → Option (Int32 × (Nat → Int64) × (Nat → Int32))
  | 0, _, _, _, _ => none
  | n + 1, c_t_cells, c_t_findings, v2, v3 =>
    if v2 ≤ v3 then
      some (v2, c_t_cells, c_t_findings)
    else
      (f_M_shows c_t_s v3).bind fun r2 =>
      (f_M_readAs c_t_s r2).bind fun r3 =>
      (f_M_writes c_t_bits c_t_cells a1 v3 r3.toInt64).bind fun r4 =>
      f_M_show_b61  c_t_bits c_t_longs c_t_s a1 n r4 c_t_findings v2 (v3 + (1))
def f_M_show_b58  (c_t_bits : (Nat → Int32)) (c_t_longs : (Nat → Int32)) (c_t_s : (Nat → Int32)) (a1 : Int32) (c_t_cells : (Nat → Int64)) (c_t_findings : (Nat → Int32)) (s0 : Int32) : Option (Int32 × (Nat → Int64) × (Nat → Int32)) :=
  f_M_show_b61  c_t_bits c_t_longs c_t_s a1 5000 c_t_cells c_t_findings s0 (0 : Int32)
def f_M_show (c_t_bits : (Nat → Int32)) (c_t_cells : (Nat → Int64)) (c_t_findings : (Nat → Int32)) (c_t_longs : (Nat → Int32)) (c_t_s : (Nat → Int32)) (a1 : Int32) : Option (Int32 × (Nat → Int64) × (Nat → Int32)) :=
  (f_M_isSheet a1).bind fun r5 =>
  if r5 = (0 : Int32) then
    (f_M_no c_t_findings (0 : Int32)).bind fun r15 =>
    some (r15.1, c_t_cells, r15.2)
  else
    (rd c_t_bits 4 a1).bind fun r7 =>
    if r7 = (0 : Int32) then
      (f_M_no c_t_findings (5 : Int32)).bind fun r14 =>
      some (r14.1, c_t_cells, r14.2)
    else
      (rd c_t_longs 4 a1).bind fun r9 =>
      (rd c_t_s 65 (2 : Int32)).bind fun r10 =>
      if r10 ≤ r9 then
        (rd c_t_s 65 (2 : Int32)).bind fun r12 =>
        f_M_show_b58  c_t_bits c_t_longs c_t_s a1 c_t_cells c_t_findings r12
      else
        (rd c_t_longs 4 a1).bind fun r13 =>
        f_M_show_b58  c_t_bits c_t_longs c_t_s a1 c_t_cells c_t_findings r13
def f_M_leads_b50 (k5 : Int32 → Int32 → Option (Int32))  (a0 : Int32) (a1 : Int32) (a2 : Int32) (v4 : Int32) (s0 : Int32) : Option (Int32) :=
  k5 s0 (v4 + (1))
def f_M_leads_b5   (a0 : Int32) (a1 : Int32) (a2 : Int32) : Nat → Int32 → Int32 → Option (Int32)
  | 0, _, _ => none
  | n + 1, v3, v4 =>
    if (12 : Int32) ≤ v4 then
      some v3
    else
      (f_M_has a0 v4).bind fun r2 =>
      if r2 = (0 : Int32) then
        f_M_leads_b50 (f_M_leads_b5  a0 a1 a2 n) a0 a1 a2 v4 v3
      else
        if a1 = a2 then
          f_M_leads_b50 (f_M_leads_b5  a0 a1 a2 n) a0 a1 a2 v4 v3
        else
          (f_M_ends v4 a1).bind fun r5 =>
          if r5 = (0 : Int32) then
            f_M_leads_b50 (f_M_leads_b5  a0 a1 a2 n) a0 a1 a2 v4 v3
          else
            (f_M_ends v4 a2).bind fun r7 =>
            if r7 = (0 : Int32) then
              f_M_leads_b50 (f_M_leads_b5  a0 a1 a2 n) a0 a1 a2 v4 v3
            else
              f_M_leads_b50 (f_M_leads_b5  a0 a1 a2 n) a0 a1 a2 v4 v4
def f_M_leads  (a0 : Int32) (a1 : Int32) (a2 : Int32) : Option (Int32) :=
  f_M_leads_b5  a0 a1 a2 5000 (-1 : Int32) (0 : Int32)
def f_M_walk_b138  (c_t_bits : (Nat → Int32)) (c_t_cells : (Nat → Int64)) (c_t_longs : (Nat → Int32)) (a1 : Int32) (a2 : Int32) (c_t_findings : (Nat → Int32)) (v5 : Int32) : Option (Int32 × (Nat → Int32)) :=
  some (((1 : Int32) + v5), c_t_findings)
def f_M_walk_b159 (k49 : (Nat → Int32) → Int32 → Int32 → Int32 → Option (Int32 × (Nat → Int32))) (c_t_bits : (Nat → Int32)) (c_t_cells : (Nat → Int64)) (c_t_longs : (Nat → Int32)) (a1 : Int32) (a2 : Int32) (c_t_findings : (Nat → Int32)) (v5 : Int32) (v8 : Int32) (s0 : Int32) (s1 : Int32) : Option (Int32 × (Nat → Int32)) :=
  k49 c_t_findings (s1 &&& s0) v8 (v5 + (1))
def f_M_walk_b143 (k49 : (Nat → Int32) → Int32 → Int32 → Int32 → Option (Int32 × (Nat → Int32))) (c_t_bits : (Nat → Int32)) (c_t_cells : (Nat → Int64)) (c_t_longs : (Nat → Int32)) (a1 : Int32) (a2 : Int32) (c_t_findings : (Nat → Int32)) (v3 : Int32) (v5 : Int32) (v8 : Int32) (v9 : Int32) : Option (Int32 × (Nat → Int32)) :=
  if v5 ≤ (0 : Int32) then
    f_M_walk_b159 k49 c_t_bits c_t_cells c_t_longs a1 a2 c_t_findings v5 v8 v3 v3
  else
    f_M_walk_b159 k49 c_t_bits c_t_cells c_t_longs a1 a2 c_t_findings v5 v8 (((1 : Int32) <<< (v9 &&& 31)) ^^^ (-1 : Int32)) v3
def f_M_walk_b121 (k49 : (Nat → Int32) → Int32 → Int32 → Int32 → Option (Int32 × (Nat → Int32))) (c_t_bits : (Nat → Int32)) (c_t_cells : (Nat → Int64)) (c_t_longs : (Nat → Int32)) (a1 : Int32) (a2 : Int32) (c_t_findings : (Nat → Int32)) (v3 : Int32) (v5 : Int32) (v8 : Int32) (s0 : Int32) : Option (Int32 × (Nat → Int32)) :=
  if v8 < (0 : Int32) then
    f_M_walk_b138  c_t_bits c_t_cells c_t_longs a1 a2 c_t_findings v5
  else
    if v5 ≤ (0 : Int32) then
      f_M_walk_b143 k49 c_t_bits c_t_cells c_t_longs a1 a2 c_t_findings v3 v5 v8 s0
    else
      if (0 : Int32) ≤ s0 then
        f_M_walk_b143 k49 c_t_bits c_t_cells c_t_longs a1 a2 c_t_findings v3 v5 v8 s0
      else
        f_M_walk_b138  c_t_bits c_t_cells c_t_longs a1 a2 c_t_findings v5
def f_M_walk_b97 (k49 : (Nat → Int32) → Int32 → Int32 → Int32 → Option (Int32 × (Nat → Int32))) (c_t_bits : (Nat → Int32)) (c_t_cells : (Nat → Int64)) (c_t_longs : (Nat → Int32)) (a1 : Int32) (a2 : Int32) (c_t_findings : (Nat → Int32)) (v3 : Int32) (v4 : Int32) (v5 : Int32) (s0 : Int32) : Option (Int32 × (Nat → Int32)) :=
  if s0 < (0 : Int32) then
    f_M_walk_b121 k49 c_t_bits c_t_cells c_t_longs a1 a2 c_t_findings v3 v5 s0 (-1 : Int32)
  else
    if v5 ≤ (0 : Int32) then
      f_M_walk_b121 k49 c_t_bits c_t_cells c_t_longs a1 a2 c_t_findings v3 v5 s0 (-1 : Int32)
    else
      (f_M_leads v3 v4 s0).bind fun r7 =>
      f_M_walk_b121 k49 c_t_bits c_t_cells c_t_longs a1 a2 c_t_findings v3 v5 s0 r7
def f_M_walk_b49  (c_t_bits : (Nat → Int32)) (c_t_cells : (Nat → Int64)) (c_t_longs : (Nat → Int32)) (a1 : Int32) (a2 : Int32) : Nat → (Nat → Int32) → Int32 → Int32 → Int32 → Option (Int32 × (Nat → Int32))
  | 0, _, _, _, _ => none
  | n + 1, c_t_findings, v3, v4, v5 =>
    (rd c_t_longs 4 a1).bind fun r8 =>
    if r8 ≤ v5 then
      if v3 = (0 : Int32) then
        some ((0 : Int32), c_t_findings)
      else
        (rd c_t_longs 4 a1).bind fun r11 =>
        some (((1 : Int32) + r11), c_t_findings)
    else
      (rd c_t_cells 160 (((40 : Int32) * a1) + v5)).bind fun r12 =>
      if (lg_cmp r12 (0 : Int64)) < (0 : Int32) then
        f_M_walk_b97 (f_M_walk_b49  c_t_bits c_t_cells c_t_longs a1 a2 n) c_t_bits c_t_cells c_t_longs a1 a2 c_t_findings v3 v4 v5 (-1 : Int32)
      else
        if (0 : Int32) ≤ (lg_cmp r12 (9 : Int64)) then
          f_M_walk_b97 (f_M_walk_b49  c_t_bits c_t_cells c_t_longs a1 a2 n) c_t_bits c_t_cells c_t_longs a1 a2 c_t_findings v3 v4 v5 (-1 : Int32)
        else
          f_M_walk_b97 (f_M_walk_b49  c_t_bits c_t_cells c_t_longs a1 a2 n) c_t_bits c_t_cells c_t_longs a1 a2 c_t_findings v3 v4 v5 r12.toInt32
def f_M_walk (c_t_bits : (Nat → Int32)) (c_t_cells : (Nat → Int64)) (c_t_findings : (Nat → Int32)) (c_t_longs : (Nat → Int32)) (a1 : Int32) (a2 : Int32) : Option (Int32 × (Nat → Int32)) :=
  (f_M_isSheet a1).bind fun r15 =>
  if r15 = (0 : Int32) then
    (f_M_no c_t_findings (0 : Int32)).bind fun r23 =>
    some (r23.1, r23.2)
  else
    (rd c_t_bits 4 a1).bind fun r17 =>
    if r17 = (0 : Int32) then
      (f_M_no c_t_findings (5 : Int32)).bind fun r22 =>
      some (r22.1, r22.2)
    else
      (f_M_isForm a2).bind fun r19 =>
      if r19 = (0 : Int32) then
        (f_M_no c_t_findings (0 : Int32)).bind fun r21 =>
        some (r21.1, r21.2)
      else
        f_M_walk_b49  c_t_bits c_t_cells c_t_longs a1 a2 5000 c_t_findings a2 (-1 : Int32) (0 : Int32)
def f_M_image (c_t_isKept : Int32) (c_t_kept : (Nat → Int32)) (c_t_s : (Nat → Int32))  : Option (Int32 × Int32 × (Nat → Int32)) :=
  (f_M_lay c_t_s c_t_kept).bind fun r1 =>
  some ((1 : Int32), (1 : Int32), r1)
def f_M_undo (c_t_isKept : Int32) (c_t_findings : (Nat → Int32)) (c_t_kept : (Nat → Int32)) (c_t_s : (Nat → Int32))  : Option (Int32 × (Nat → Int32) × (Nat → Int32)) :=
  if c_t_isKept = (0 : Int32) then
    (f_M_no c_t_findings (3 : Int32)).bind fun r4 =>
    some (r4.1, r4.2, c_t_s)
  else
    (f_M_lay c_t_kept c_t_s).bind fun r2 =>
    (rd r2 65 (2 : Int32)).bind fun r3 =>
    some (r3, c_t_findings, r2)
def f_M_tear_b12    (c_t_isKept : Int32) (s0 : Int32) : Option (Int32 × Int32) :=
  some (s0, (0 : Int32))
def f_M_tear (c_t_isKept : Int32)  : Option (Int32 × Int32) :=
  if c_t_isKept = (0 : Int32) then
    f_M_tear_b12   c_t_isKept (0 : Int32)
  else
    f_M_tear_b12   c_t_isKept (1 : Int32)
def f_M_signsTold_b27 (k4 : Int32 → Int32 → Option (Int32)) (c_t_s : (Nat → Int32))  (v2 : Int32) (s0 : Int32) (s1 : Int32) : Option (Int32) :=
  k4 (s1 + s0) (v2 + (1))
def f_M_signsTold_b4  (c_t_s : (Nat → Int32))  : Nat → Int32 → Int32 → Option (Int32)
  | 0, _, _ => none
  | n + 1, v1, v2 =>
    if (26 : Int32) ≤ v2 then
      some v1
    else
      (rd c_t_s 65 ((3 : Int32) + v2)).bind fun r2 =>
      if r2 = (0 : Int32) then
        f_M_signsTold_b27 (f_M_signsTold_b4  c_t_s n) c_t_s v2 (0 : Int32) v1
      else
        f_M_signsTold_b27 (f_M_signsTold_b4  c_t_s n) c_t_s v2 (1 : Int32) v1
def f_M_signsTold (c_t_s : (Nat → Int32))  : Option (Int32) :=
  f_M_signsTold_b4  c_t_s 5000 (0 : Int32) (0 : Int32)
def f_M_strokesOfAll_b4  (c_t_s : (Nat → Int32))  : Nat → Int32 → Int32 → Option (Int32)
  | 0, _, _ => none
  | n + 1, v1, v2 =>
    (rd c_t_s 65 (2 : Int32)).bind fun r1 =>
    if r1 ≤ v2 then
      some v1
    else
      (f_M_at v2 (1 : Int32)).bind fun r3 =>
      (rd c_t_s 65 r3).bind fun r4 =>
      (f_M_ones r4).bind fun r5 =>
      f_M_strokesOfAll_b4  c_t_s n (v1 + r5) (v2 + (1))
def f_M_strokesOfAll (c_t_s : (Nat → Int32))  : Option (Int32) :=
  f_M_strokesOfAll_b4  c_t_s 5000 (0 : Int32) (0 : Int32)
def f_M_count (c_t_taped : Int32) (c_t_findings : (Nat → Int32)) (c_t_s : (Nat → Int32)) (a1 : Int32) : Option (Int32 × (Nat → Int32)) :=
  if a1 = (0 : Int32) then
    (rd c_t_s 65 (2 : Int32)).bind fun r2 =>
    some (r2, c_t_findings)
  else
  if a1 = (1 : Int32) then
    (f_M_signsTold c_t_s).bind fun r3 =>
    some (r3, c_t_findings)
  else
  if a1 = (2 : Int32) then
    some (c_t_taped, c_t_findings)
  else
  if a1 = (3 : Int32) then
    (f_M_strokesOfAll c_t_s).bind fun r4 =>
    some (r4, c_t_findings)
  else
  (f_M_no c_t_findings (0 : Int32)).bind fun r5 =>
  some (r5.1, r5.2)
def f_M_status_b47 (k20 : (Nat → Int32) → Int32 → Int32 → Option (Int32 × (Nat → Int32)))  (a1 : Int32) (c_t_findings : (Nat → Int32)) (v3 : Int32) (s0 : Int32) (s1 : Int32) : Option (Int32 × (Nat → Int32)) :=
  k20 c_t_findings (s1 + s0) (v3 + (1))
def f_M_status_b37 (k20 : (Nat → Int32) → Int32 → Int32 → Option (Int32 × (Nat → Int32)))  (a1 : Int32) (c_t_findings : (Nat → Int32)) (v3 : Int32) (s0 : Int32) : Option (Int32 × (Nat → Int32)) :=
  (rd c_t_findings 7 v3).bind fun r1 =>
  f_M_status_b47 k20 a1 c_t_findings v3 r1 s0
def f_M_status_b20   (a1 : Int32) : Nat → (Nat → Int32) → Int32 → Int32 → Option (Int32 × (Nat → Int32))
  | 0, _, _, _ => none
  | n + 1, c_t_findings, v2, v3 =>
    if (7 : Int32) ≤ v3 then
      some (v2, c_t_findings)
    else
      if a1 = (-1 : Int32) then
        f_M_status_b37 (f_M_status_b20  a1 n) a1 c_t_findings v3 v2
      else
        if a1 = v3 then
          f_M_status_b37 (f_M_status_b20  a1 n) a1 c_t_findings v3 v2
        else
          f_M_status_b47 (f_M_status_b20  a1 n) a1 c_t_findings v3 (0 : Int32) v2
def f_M_status (c_t_findings : (Nat → Int32)) (a1 : Int32) : Option (Int32 × (Nat → Int32)) :=
  (f_M_in a1 (-1 : Int32) (6 : Int32)).bind fun r5 =>
  if r5 = (0 : Int32) then
    (f_M_no c_t_findings (0 : Int32)).bind fun r7 =>
    some (r7.1, r7.2)
  else
    f_M_status_b20  a1 5000 c_t_findings (0 : Int32) (0 : Int32)
