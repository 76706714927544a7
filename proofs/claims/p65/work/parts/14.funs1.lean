set_option maxHeartbeats 1000000 in
def f_Reader_keyOf_l2 (p0 : Nat) (p1 : Int64) : Nat → Int32 → kx_M → Option (Int32 × kx_M)
  | 0, _, _ => none
  | n + 1, x3, M =>
    if (26 : Int32) ≤ x3 then (
      some ((26 : Int32), M))
    else (
      gd (inb x3 26) <|
      if (lg_cmp (mB M (p0 + 1) x3.toNatClampNeg) p1) = 0 then (
        some (x3, M))
      else (
        bd (x3 + Int32.ofInt 1) fun v2 =>
        f_Reader_keyOf_l2 p0 p1 n v2 M))
set_option maxHeartbeats 1000000 in
def f_Reader_keyOf (p0 : Nat) (p1 : Int64) (M : kx_M) : Option (Int32 × kx_M) :=
  f_Reader_keyOf_l2 p0 p1 FU (0 : Int32) M
set_option maxHeartbeats 1000000 in
def f_Reader_readNumber_l67 (p0 : Nat) (x1 : Int32) (M : kx_M) : Option (Unit × kx_M) :=
  if (x1 - (mI M p0 4)) ≤ (4 : Int32) then (
    bd (sI M p0 5 (3 : Int32)) fun M1 =>
    bd (sI M1 p0 3 x1) fun M2 =>
    some ((), M2))
  else (
    bd (sI M p0 5 (1 : Int32)) fun M3 =>
    bd (sI M3 p0 3 x1) fun M4 =>
    some ((), M4))
set_option maxHeartbeats 1000000 in
def f_Reader_readNumber_l10 (p0 : Nat) : Nat → Int32 → kx_M → Option (Unit × kx_M)
  | 0, _, _ => none
  | n + 1, x1, M =>
    if (mI M p0 2) ≤ x1 then (
      f_Reader_readNumber_l67 p0 x1 M)
    else (
      gd (aIb 1 (mR M p0 1) x1) <|
      if (mA M (mR M p0 1) x1.toNatClampNeg) < (48 : Int32) then (
        f_Reader_readNumber_l67 p0 x1 M)
      else (
        gd (aIb 1 (mR M p0 1) x1) <|
        if (57 : Int32) < (mA M (mR M p0 1) x1.toNatClampNeg) then (
          f_Reader_readNumber_l67 p0 x1 M)
        else (
          gd (aIb 1 (mR M p0 1) x1) <|
          bd (sI M p0 8 (((mI M p0 8) * (10 : Int32)) + ((mA M (mR M p0 1) x1.toNatClampNeg) - (48 : Int32)))) fun M1 =>
          bd (x1 + Int32.ofInt 1) fun v4 =>
          f_Reader_readNumber_l10 p0 n v4 M1)))
set_option maxHeartbeats 1000000 in
def f_Reader_readNumber (p0 : Nat) (M : kx_M) : Option (Unit × kx_M) :=
  bd (mI M p0 4) fun v1 =>
  bd (sI M p0 8 (0 : Int32)) fun M1 =>
  f_Reader_readNumber_l10 p0 FU v1 M1
set_option maxHeartbeats 1000000 in
def f_Reader_next_l161 (p0 : Nat) (x1 : Int32) (M : kx_M) : Option (Unit × kx_M) :=
  gd (aIb 1 (mR M p0 1) x1) <|
  bd (sI M p0 9 (mA M (mR M p0 1) x1.toNatClampNeg)) fun M1 =>
  if (mI M1 p0 9) = (59 : Int32) then (
    bd (sI M1 p0 5 (4 : Int32)) fun M2 =>
    bd (sI M2 p0 3 (x1 + (1 : Int32))) fun M3 =>
    some ((), M3))
  else (
    if (mI M1 p0 9) = (60 : Int32) then (
      bd (sI M1 p0 5 (4 : Int32)) fun M4 =>
      bd (sI M4 p0 3 (x1 + (1 : Int32))) fun M5 =>
      some ((), M5))
    else (
      if (mI M1 p0 9) = (61 : Int32) then (
        bd (sI M1 p0 5 (4 : Int32)) fun M6 =>
        bd (sI M6 p0 3 (x1 + (1 : Int32))) fun M7 =>
        some ((), M7))
      else (
        if (mI M1 p0 9) = (62 : Int32) then (
          bd (sI M1 p0 5 (4 : Int32)) fun M8 =>
          bd (sI M8 p0 3 (x1 + (1 : Int32))) fun M9 =>
          some ((), M9))
        else (
          bd (sI M1 p0 5 (1 : Int32)) fun M10 =>
          bd (sI M10 p0 3 (x1 + (1 : Int32))) fun M11 =>
          some ((), M11)))))
set_option maxHeartbeats 1000000 in
def f_Reader_next_l132 (p0 : Nat) (x1 : Int32) (M : kx_M) : Option (Unit × kx_M) :=
  gd (aIb 1 (mR M p0 1) x1) <|
  if (mA M (mR M p0 1) x1.toNatClampNeg) < (48 : Int32) then (
    f_Reader_next_l161 p0 x1 M)
  else (
    gd (aIb 1 (mR M p0 1) x1) <|
    if (57 : Int32) < (mA M (mR M p0 1) x1.toNatClampNeg) then (
      f_Reader_next_l161 p0 x1 M)
    else (
      cal (f_Reader_readNumber p0 M) fun _ M1 =>
      some ((), M1)))
set_option maxHeartbeats 1000000 in
def f_Reader_next_l41 (p0 : Nat) (x1 : Int32) (M : kx_M) : Option (Unit × kx_M) :=
  bd (sI M p0 4 x1) fun M1 =>
  bd (sI M1 p0 6 ((-1) : Int32)) fun M2 =>
  if x1 < (mI M2 p0 2) then (
    gd (aIb 1 (mR M2 p0 1) x1) <|
    if (mA M2 (mR M2 p0 1) x1.toNatClampNeg) < (97 : Int32) then (
      f_Reader_next_l132 p0 x1 M2)
    else (
      gd (aIb 1 (mR M2 p0 1) x1) <|
      if (122 : Int32) < (mA M2 (mR M2 p0 1) x1.toNatClampNeg) then (
        f_Reader_next_l132 p0 x1 M2)
      else (
        cal (f_Reader_readWord p0 M2) fun _ M3 =>
        if ((mI M3 p0 3) - x1) ≤ (8 : Int32) then (
          cal (f_Reader_keyOf p0 (mJ M3 p0 7) M3) fun r5 M4 =>
          bd (sI M4 p0 6 r5) fun M5 =>
          some ((), M5))
        else (
          bd (sI M3 p0 6 (27 : Int32)) fun M6 =>
          some ((), M6)))))
  else (
    bd (sI M2 p0 5 (0 : Int32)) fun M7 =>
    bd (sI M7 p0 3 (mI M7 p0 2)) fun M8 =>
    some ((), M8))
set_option maxHeartbeats 1000000 in
def f_Reader_next_l5 (p0 : Nat) : Nat → Int32 → kx_M → Option (Unit × kx_M)
  | 0, _, _ => none
  | n + 1, x1, M =>
    if (mI M p0 2) ≤ x1 then (
      f_Reader_next_l41 p0 x1 M)
    else (
      gd (aIb 1 (mR M p0 1) x1) <|
      if (mA M (mR M p0 1) x1.toNatClampNeg) = (32 : Int32) then (
        bd (x1 + Int32.ofInt 1) fun v2 =>
        f_Reader_next_l5 p0 n v2 M)
      else (
        gd (aIb 1 (mR M p0 1) x1) <|
        if (mA M (mR M p0 1) x1.toNatClampNeg) = (10 : Int32) then (
          bd (x1 + Int32.ofInt 1) fun v4 =>
          f_Reader_next_l5 p0 n v4 M)
        else (
          f_Reader_next_l41 p0 x1 M)))
set_option maxHeartbeats 1000000 in
def f_Reader_next (p0 : Nat) (M : kx_M) : Option (Unit × kx_M) :=
  bd (mI M p0 3) fun v1 =>
  f_Reader_next_l5 p0 FU v1 M
set_option maxHeartbeats 1000000 in
def f_Reader_open (p0 : Nat) (p1 : Nat) (p2 : Int32) (M : kx_M) : Option (Unit × kx_M) :=
  bd (sR M p0 1 p1) fun M1 =>
  gd (aLk 1 p1) <|
  bd (sI M1 p0 2 (if (Int32.ofNat (aLn p1)) < p2 then (Int32.ofNat (aLn p1)) else p2)) fun M2 =>
  bd (sI M2 p0 3 (0 : Int32)) fun M3 =>
  bd (sI M3 p0 10 (0 : Int32)) fun M4 =>
  bd (sI M4 p0 11 ((-1) : Int32)) fun M5 =>
  cal (f_Reader_next p0 M5) fun _ M6 =>
  some ((), M6)
set_option maxHeartbeats 1000000 in
def f_Reader_fail (p0 : Nat) (p1 : Int32) (M : kx_M) : Option (Int32 × kx_M) :=
  if (mI M p0 5) = (1 : Int32) then (
    bd (sI M p0 10 (1 : Int32)) fun M1 =>
    bd (sI M1 p0 11 (mI M1 p0 4)) fun M2 =>
    some ((0 : Int32), M2))
  else (
    bd (sI M p0 10 p1) fun M3 =>
    bd (sI M3 p0 11 (mI M3 p0 4)) fun M4 =>
    some ((0 : Int32), M4))
set_option maxHeartbeats 1000000 in
def f_Reader_atNumber (p0 : Nat) (p1 : Int32) (p2 : Int32) (M : kx_M) : Option (Int32 × kx_M) :=
  if (mI M p0 5) = (3 : Int32) then (
    if (mI M p0 8) < p1 then (
      cal (f_Reader_fail p0 (4 : Int32) M) fun r1 M1 =>
      gd (b01 r1) <|
      some (r1, M1))
    else (
      if p2 < (mI M p0 8) then (
        cal (f_Reader_fail p0 (4 : Int32) M) fun r4 M2 =>
        gd (b01 r4) <|
        some (r4, M2))
      else (
        some ((1 : Int32), M))))
  else (
    cal (f_Reader_fail p0 (2 : Int32) M) fun r7 M3 =>
    gd (b01 r7) <|
    some (r7, M3))
set_option maxHeartbeats 1000000 in
def f_TreatyText_readMeasure_l92 (p1 : Nat) (p2 : Int32) (x3 : Int32) (s0 : Nat) (s1 : Int32) (s2 : Int32) (M : kx_M) : Option (Int32 × kx_M) :=
  cal (f_Reader_atNumber s0 s1 s2 M) fun r1 M1 =>
  if r1 = 0 then (
    some ((0 : Int32), M1))
  else (
    if x3 = 0 then (
      bd (sI M1 (p1 + 9) 6 (mI M1 5 8)) fun M2 =>
      bd (sI M2 4 2 (1 : Int32)) fun M3 =>
      cal (f_Reader_next 5 M3) fun _ M4 =>
      some ((1 : Int32), M4))
    else (
      bd (sI M1 (p1 + 9) 5 (mI M1 5 8)) fun M5 =>
      bd (sI M5 4 1 (1 : Int32)) fun M6 =>
      cal (f_Reader_next 5 M6) fun _ M7 =>
      some ((1 : Int32), M7)))
set_option maxHeartbeats 1000000 in
def f_TreatyText_readMeasure_l69 (p1 : Nat) (p2 : Int32) (x3 : Int32) (M : kx_M) : Option (Int32 × kx_M) :=
  cal (f_Reader_next 5 M) fun _ M1 =>
  if x3 = 0 then (
    f_TreatyText_readMeasure_l92 p1 p2 x3 5 (1 : Int32) (50 : Int32) M1)
  else (
    f_TreatyText_readMeasure_l92 p1 p2 x3 5 (1 : Int32) (8 : Int32) M1)
set_option maxHeartbeats 1000000 in
def f_TreatyText_readMeasure_l38 (p1 : Nat) (p2 : Int32) (s0 : Int32) (M : kx_M) : Option (Int32 × kx_M) :=
  if s0 = 0 then (
    if (mI M 4 2) = 0 then (
      f_TreatyText_readMeasure_l69 p1 p2 s0 M)
    else (
      cal (f_Reader_fail 5 (5 : Int32) M) fun r1 M1 =>
      gd (b01 r1) <|
      some (r1, M1)))
  else (
    if (mI M 4 1) = 0 then (
      f_TreatyText_readMeasure_l69 p1 p2 s0 M)
    else (
      cal (f_Reader_fail 5 (5 : Int32) M) fun r4 M2 =>
      gd (b01 r4) <|
      some (r4, M2)))
set_option maxHeartbeats 1000000 in
def f_TreatyText_readMeasure (p1 : Nat) (p2 : Int32) (M : kx_M) : Option (Int32 × kx_M) :=
  if 0 < (mI M (p1 + 9) 7) then (
    cal (f_Reader_fail 5 (2 : Int32) M) fun r1 M1 =>
    gd (b01 r1) <|
    some (r1, M1))
  else (
    if (mI M (p1 + 1) 8) ≤ 0 then (
      if p2 = 0 then (
        f_TreatyText_readMeasure_l38 p1 p2 (1 : Int32) M)
      else (
        f_TreatyText_readMeasure_l38 p1 p2 (0 : Int32) M))
    else (
      cal (f_Reader_fail 5 (2 : Int32) M) fun r4 M2 =>
      gd (b01 r4) <|
      some (r4, M2)))
set_option maxHeartbeats 1000000 in
def f_Reader_takeSign (p0 : Nat) (p1 : Int32) (M : kx_M) : Option (Int32 × kx_M) :=
  if (mI M p0 5) = (4 : Int32) then (
    if (mI M p0 9) = p1 then (
      cal (f_Reader_next p0 M) fun _ M1 =>
      some ((1 : Int32), M1))
    else (
      cal (f_Reader_fail p0 (2 : Int32) M) fun r3 M2 =>
      gd (b01 r3) <|
      some (r3, M2)))
  else (
    cal (f_Reader_fail p0 (2 : Int32) M) fun r6 M3 =>
    gd (b01 r6) <|
    some (r6, M3))
set_option maxHeartbeats 1000000 in
def f_Deal_indexIn_l3 (p0 : Nat) (p1 : Int32) (p2 : Int64) : Nat → Int32 → kx_M → Option (Int32 × kx_M)
  | 0, _, _ => none
  | n + 1, x4, M =>
    if p1 ≤ x4 then (
      some (((-1) : Int32), M))
    else (
      gd (aIb 2 p0 x4) <|
      if (lg_cmp (mB M p0 x4.toNatClampNeg) p2) = 0 then (
        some (x4, M))
      else (
        bd (x4 + Int32.ofInt 1) fun v2 =>
        f_Deal_indexIn_l3 p0 p1 p2 n v2 M))
set_option maxHeartbeats 1000000 in
def f_Deal_indexIn (p0 : Nat) (p1 : Int32) (p2 : Int64) (M : kx_M) : Option (Int32 × kx_M) :=
  f_Deal_indexIn_l3 p0 p1 p2 FU (0 : Int32) M
set_option maxHeartbeats 1000000 in
def f_Deal_queenNamed (p0 : Nat) (p1 : Int64) (M : kx_M) : Option (Int32 × kx_M) :=
  cal (f_Deal_indexIn (p0 + 2) (mI M p0 7) p1 M) fun r1 M1 =>
  some (r1, M1)
set_option maxHeartbeats 1000000 in
def f_Deal_clauseNamed (p0 : Nat) (p1 : Int64) (M : kx_M) : Option (Int32 × kx_M) :=
  cal (f_Deal_indexIn (p0 + 3) (mI M p0 8) p1 M) fun r1 M1 =>
  some (r1, M1)
set_option maxHeartbeats 1000000 in
def f_TreatyText_newName_l56 (p1 : Nat) (s0 : Int32) (M : kx_M) : Option (Int32 × kx_M) :=
  if s0 = 0 then (
    some ((1 : Int32), M))
  else (
    cal (f_Reader_fail 5 (3 : Int32) M) fun r1 M1 =>
    gd (b01 r1) <|
    some (r1, M1))
set_option maxHeartbeats 1000000 in
def f_TreatyText_newName (p1 : Nat) (M : kx_M) : Option (Int32 × kx_M) :=
  if (mI M 5 6) = (26 : Int32) then (
    cal (f_Deal_queenNamed p1 (mJ M 5 7) M) fun r1 M1 =>
    if r1 = ((-1) : Int32) then (
      cal (f_Deal_clauseNamed p1 (mJ M1 5 7) M1) fun r3 M2 =>
      if r3 = ((-1) : Int32) then (
        f_TreatyText_newName_l56 p1 (0 : Int32) M2)
      else (
        f_TreatyText_newName_l56 p1 (1 : Int32) M2))
    else (
      f_TreatyText_newName_l56 p1 (1 : Int32) M1))
  else (
    cal (f_Reader_fail 5 (2 : Int32) M) fun r5 M3 =>
    gd (b01 r5) <|
    some (r5, M3))
set_option maxHeartbeats 1000000 in
def f_TreatyText_readQueen (p1 : Nat) (M : kx_M) : Option (Int32 × kx_M) :=
  bd (mI M p1 7) fun v1 =>
  if v1 < (4 : Int32) then (
    cal (f_Reader_next 5 M) fun _ M1 =>
    cal (f_TreatyText_newName p1 M1) fun r4 M2 =>
    if r4 = 0 then (
      some ((0 : Int32), M2))
    else (
      gd (inb v1 4) <|
      bd (sB M2 (p1 + 2) (vp_updL (mB M2 (p1 + 2)) v1.toNatClampNeg (mJ M2 5 7))) fun M3 =>
      gd (inb v1 4) <|
      bd (sA M3 (p1 + 1) (upd (mA M3 (p1 + 1)) v1.toNatClampNeg (100 : Int32))) fun M4 =>
      bd (sI M4 p1 7 ((mI M4 p1 7) + (1 : Int32))) fun M5 =>
      cal (f_Reader_next 5 M5) fun _ M6 =>
      if (mI M6 5 6) = (3 : Int32) then (
        cal (f_Reader_next 5 M6) fun _ M7 =>
        cal (f_Reader_atNumber 5 (0 : Int32) (999 : Int32) M7) fun r12 M8 =>
        if r12 = 0 then (
          some ((0 : Int32), M8))
        else (
          gd (inb v1 4) <|
          bd (sA M8 (p1 + 1) (upd (mA M8 (p1 + 1)) v1.toNatClampNeg (mI M8 5 8))) fun M9 =>
          cal (f_Reader_next 5 M9) fun _ M10 =>
          some ((1 : Int32), M10)))
      else (
        some ((1 : Int32), M6))))
  else (
    cal (f_Reader_fail 5 (6 : Int32) M) fun r17 M11 =>
    gd (b01 r17) <|
    some (r17, M11))
set_option maxHeartbeats 1000000 in
def f_Reader_takeWord (p0 : Nat) (p1 : Int32) (M : kx_M) : Option (Int32 × kx_M) :=
  if (mI M p0 6) = p1 then (
    cal (f_Reader_next p0 M) fun _ M1 =>
    some ((1 : Int32), M1))
  else (
    cal (f_Reader_fail p0 (2 : Int32) M) fun r3 M2 =>
    gd (b01 r3) <|
    some (r3, M2))
set_option maxHeartbeats 1000000 in
def f_Reader_atKind (p0 : Nat) (M : kx_M) : Option (Int32 × kx_M) :=
  if (mI M p0 6) < (10 : Int32) then (
    some ((0 : Int32), M))
  else (
    if (14 : Int32) ≤ (mI M p0 6) then (
      some ((0 : Int32), M))
    else (
      some ((1 : Int32), M)))
set_option maxHeartbeats 1000000 in
def f_TreatyText_readClause_l176 (p1 : Nat) (x2 : Nat) (x3 : Int32) (x5 : Int32) (M : kx_M) : Option (Int32 × kx_M) :=
  gd (inb x3 6) <|
  bd (sA M (x2 + 4) (upd (mA M (x2 + 4)) x3.toNatClampNeg x5)) fun M1 =>
  if x5 = 0 then (
    cal (f_Reader_fail 5 (2 : Int32) M1) fun r2 M2 =>
    gd (b01 r2) <|
    some (r2, M2))
  else (
    some ((1 : Int32), M1))
set_option maxHeartbeats 1000000 in
def f_TreatyText_readClause_l105 (p1 : Nat) : Nat → Nat → Int32 → Int32 → Int32 → Int32 → kx_M → Option (Int32 × kx_M)
  | 0, _, _, _, _, _, _ => none
  | n + 1, x2, x3, x4, x5, x6, M =>
    if x4 < x6 then (
      f_TreatyText_readClause_l176 p1 x2 x3 x5 M)
    else (
      cal (f_Reader_atKind 5 M) fun r1 M1 =>
      if r1 = 0 then (
        f_TreatyText_readClause_l176 p1 x2 x3 x5 M1)
      else (
        if x5 < x4 then (
          gd (inb ((x3 * (5 : Int32)) + x5) 30) <|
          bd (sA M1 (x2 + 5) (upd (mA M1 (x2 + 5)) ((x3 * (5 : Int32)) + x5).toNatClampNeg ((mI M1 5 6) - (10 : Int32)))) fun M2 =>
          bd (x5 + Int32.ofInt 1) fun v4 =>
          cal (f_Reader_next 5 M2) fun _ M3 =>
          bd (x6 + Int32.ofInt 1) fun v7 =>
          f_TreatyText_readClause_l105 p1 n x2 x3 x4 v4 v7 M3)
        else (
          cal (f_Reader_fail 5 (6 : Int32) M1) fun r8 M4 =>
          gd (b01 r8) <|
          some (r8, M4))))
set_option maxHeartbeats 1000000 in
def f_TreatyText_readClause (p1 : Nat) (M : kx_M) : Option (Int32 × kx_M) :=
  bd (p1 + 1) fun v1 =>
  bd (mI M v1 8) fun v2 =>
  if v2 < (6 : Int32) then (
    cal (f_Reader_next 5 M) fun _ M1 =>
    cal (f_TreatyText_newName v1 M1) fun r5 M2 =>
    if r5 = 0 then (
      some ((0 : Int32), M2))
    else (
      gd (inb v2 6) <|
      bd (sB M2 (v1 + 3) (vp_updL (mB M2 (v1 + 3)) v2.toNatClampNeg (mJ M2 5 7))) fun M3 =>
      bd (sI M3 v1 8 ((mI M3 v1 8) + (1 : Int32))) fun M4 =>
      cal (f_Reader_next 5 M4) fun _ M5 =>
      cal (f_Reader_takeWord 5 (5 : Int32) M5) fun r10 M6 =>
      if r10 = 0 then (
        some ((0 : Int32), M6))
      else (
        bd (if (mI M6 (p1 + 9) 5) < (5 : Int32) then (mI M6 (p1 + 9) 5) else (5 : Int32)) fun v12 =>
        f_TreatyText_readClause_l105 p1 FU v1 v2 v12 (0 : Int32) (0 : Int32) M6)))
  else (
    cal (f_Reader_fail 5 (6 : Int32) M) fun r13 M7 =>
    gd (b01 r13) <|
    some (r13, M7))
set_option maxHeartbeats 1000000 in
def f_TreatyText_readClauseName (p1 : Nat) (M : kx_M) : Option (Int32 × kx_M) :=
  if (mI M 5 6) = (26 : Int32) then (
    cal (f_Deal_clauseNamed p1 (mJ M 5 7) M) fun r1 M1 =>
    if r1 = ((-1) : Int32) then (
      cal (f_Reader_fail 5 (3 : Int32) M1) fun r3 M2 =>
      some (r1, M2))
    else (
      some (r1, M1)))
  else (
    cal (f_Reader_fail 5 (2 : Int32) M) fun r5 M3 =>
    some (((-1) : Int32), M3))
set_option maxHeartbeats 1000000 in
def f_Deal_setOdds (p0 : Nat) (p1 : Int32) (p2 : Int32) (p3 : Int32) (M : kx_M) : Option (Unit × kx_M) :=
  gd (inb ((p1 * (6 : Int32)) + p2) 36) <|
  bd (sA M (p0 + 6) (upd (mA M (p0 + 6)) ((p1 * (6 : Int32)) + p2).toNatClampNeg p3)) fun M1 =>
  gd (inb ((p2 * (6 : Int32)) + p1) 36) <|
  bd (sA M1 (p0 + 6) (upd (mA M1 (p0 + 6)) ((p2 * (6 : Int32)) + p1).toNatClampNeg p3)) fun M2 =>
  some ((), M2)
set_option maxHeartbeats 1000000 in
def f_TreatyText_readClash (p1 : Nat) (M : kx_M) : Option (Int32 × kx_M) :=
  cal (f_Reader_next 5 M) fun _ M1 =>
  cal (f_TreatyText_readClauseName p1 M1) fun r3 M2 =>
  if r3 = ((-1) : Int32) then (
    some ((0 : Int32), M2))
  else (
    cal (f_Reader_next 5 M2) fun _ M3 =>
    cal (f_TreatyText_readClauseName p1 M3) fun r7 M4 =>
    if r7 = ((-1) : Int32) then (
      some ((0 : Int32), M4))
    else (
      if r7 = r3 then (
        cal (f_Reader_fail 5 (5 : Int32) M4) fun r9 M5 =>
        gd (b01 r9) <|
        some (r9, M5))
      else (
        cal (f_Deal_setOdds p1 r3 r7 (1 : Int32) M4) fun _ M6 =>
        cal (f_Reader_next 5 M6) fun _ M7 =>
        some ((1 : Int32), M7))))
set_option maxHeartbeats 1000000 in
def f_TreatyText_readQueenName (p1 : Nat) (M : kx_M) : Option (Int32 × kx_M) :=
  if (mI M 5 6) = (26 : Int32) then (
    cal (f_Deal_queenNamed p1 (mJ M 5 7) M) fun r1 M1 =>
    if r1 = ((-1) : Int32) then (
      cal (f_Reader_fail 5 (3 : Int32) M1) fun r3 M2 =>
      some (r1, M2))
    else (
      some (r1, M1)))
  else (
    cal (f_Reader_fail 5 (2 : Int32) M) fun r5 M3 =>
    some (((-1) : Int32), M3))
set_option maxHeartbeats 1000000 in
def f_TreatyText_readWorth (p1 : Nat) (p2 : Int32) (M : kx_M) : Option (Int32 × kx_M) :=
  cal (f_Reader_next 5 M) fun _ M1 =>
  cal (f_TreatyText_readQueenName p1 M1) fun r3 M2 =>
  if r3 = ((-1) : Int32) then (
    some ((0 : Int32), M2))
  else (
    cal (f_Reader_next 5 M2) fun _ M3 =>
    cal (f_TreatyText_readClauseName p1 M3) fun r7 M4 =>
    if r7 = ((-1) : Int32) then (
      some ((0 : Int32), M4))
    else (
      cal (f_Reader_next 5 M4) fun _ M5 =>
      cal (f_Reader_atNumber 5 (0 : Int32) (99 : Int32) M5) fun r11 M6 =>
      if r11 = 0 then (
        some ((0 : Int32), M6))
      else (
        cal (f_Deal_worthAt r3 r7 p2 M6) fun r13 M7 =>
        gd (inb r13 48) <|
        bd (sA M7 (p1 + 7) (upd (mA M7 (p1 + 7)) r13.toNatClampNeg (mI M7 5 8))) fun M8 =>
        cal (f_Reader_next 5 M8) fun _ M9 =>
        some ((1 : Int32), M9))))
set_option maxHeartbeats 1000000 in
def f_TreatyText_readRun_l109 (p1 : Nat) (p2 : Int32) : Nat → Int32 → Int32 → Int32 → kx_M → Option (Int32 × kx_M)
  | 0, _, _, _, _ => none
  | n + 1, x3, x4, x5, M =>
    if x4 ≤ x5 then (
      some ((p2 + x4), M))
    else (
      cal (f_Cloth_lay p1 (p2 + x5) x3 M) fun _ M1 =>
      bd (x5 + Int32.ofInt 1) fun v3 =>
      f_TreatyText_readRun_l109 p1 p2 n x3 x4 v3 M1)
set_option maxHeartbeats 1000000 in
def f_TreatyText_readRun (p1 : Nat) (p2 : Int32) (M : kx_M) : Option (Int32 × kx_M) :=
  if p2 < (mI M p1 5) then (
    bd ((mI M 5 6) - (10 : Int32)) fun v1 =>
    cal (f_Reader_next 5 M) fun _ M1 =>
    if (mI M1 5 5) = (3 : Int32) then (
      cal (f_Reader_atNumber 5 (1 : Int32) (8 : Int32) M1) fun r4 M2 =>
      if r4 = 0 then (
        some (((-1) : Int32), M2))
      else (
        bd (mI M2 5 8) fun v6 =>
        if (p2 + v6) ≤ (mI M2 p1 5) then (
          cal (f_Reader_next 5 M2) fun _ M3 =>
          f_TreatyText_readRun_l109 p1 p2 FU v1 v6 (0 : Int32) M3)
        else (
          cal (f_Reader_fail 5 (6 : Int32) M2) fun r9 M4 =>
          some (((-1) : Int32), M4))))
    else (
      f_TreatyText_readRun_l109 p1 p2 FU v1 (1 : Int32) (0 : Int32) M1))
  else (
    cal (f_Reader_fail 5 (6 : Int32) M) fun r11 M5 =>
    some (((-1) : Int32), M5))
set_option maxHeartbeats 1000000 in
def f_TreatyText_readRow_l102 (p1 : Nat) (x2 : Nat) (x3 : Int32) (x4 : Int32) (M : kx_M) : Option (Int32 × kx_M) :=
  if (mI M x2 5) ≤ x4 then (
    cal (f_Cloth_closeRow x2 x3 M) fun _ M1 =>
    some ((1 : Int32), M1))
  else (
    cal (f_Reader_fail 5 (2 : Int32) M) fun r3 M2 =>
    gd (b01 r3) <|
    some (r3, M2))
set_option maxHeartbeats 1000000 in
def f_TreatyText_readRow_l60 (p1 : Nat) : Nat → Nat → Int32 → Int32 → Int32 → kx_M → Option (Int32 × kx_M)
  | 0, _, _, _, _, _ => none
  | n + 1, x2, x3, x4, x5, M =>
    if (mI M x2 5) < x5 then (
      f_TreatyText_readRow_l102 p1 x2 x3 x4 M)
    else (
      cal (f_Reader_atKind 5 M) fun r1 M1 =>
      if r1 = 0 then (
        f_TreatyText_readRow_l102 p1 x2 x3 x4 M1)
      else (
        cal (f_TreatyText_readRun x2 x4 M1) fun r3 M2 =>
        if r3 = ((-1) : Int32) then (
          some ((0 : Int32), M2))
        else (
          bd (x5 + Int32.ofInt 1) fun v5 =>
          f_TreatyText_readRow_l60 p1 n x2 x3 r3 v5 M2)))
set_option maxHeartbeats 1000000 in
def f_TreatyText_readRow (p1 : Nat) (M : kx_M) : Option (Int32 × kx_M) :=
  bd (p1 + 9) fun v1 =>
  if (mI M v1 7) < (12 : Int32) then (
    cal (f_Reader_next 5 M) fun _ M1 =>
    cal (f_TreatyText_readQueenName (p1 + 1) M1) fun r4 M2 =>
    if r4 = ((-1) : Int32) then (
      some ((0 : Int32), M2))
    else (
      cal (f_Reader_next 5 M2) fun _ M3 =>
      f_TreatyText_readRow_l60 p1 FU v1 r4 (0 : Int32) (0 : Int32) M3))
  else (
    cal (f_Reader_fail 5 (6 : Int32) M) fun r8 M4 =>
    gd (b01 r8) <|
    some (r8, M4))
set_option maxHeartbeats 1000000 in
def f_TreatyText_readPart_l191 (p1 : Nat) (s0 : Nat) (s1 : Nat) (s2 : Int32) (M : kx_M) : Option (Int32 × kx_M) :=
  cal (f_TreatyText_readWorth s1 s2 M) fun r1 M1 =>
  if r1 = 0 then (
    some ((0 : Int32), M1))
  else (
    cal (f_Reader_takeSign 5 (59 : Int32) M1) fun r3 M2 =>
    if r3 = 0 then (
      some ((0 : Int32), M2))
    else (
      some ((1 : Int32), M2)))
set_option maxHeartbeats 1000000 in
def f_TreatyText_readPart (p1 : Nat) (M : kx_M) : Option (Int32 × kx_M) :=
  bd (mI M 5 6) fun v1 =>
  if v1 = (0 : Int32) then (
    cal (f_TreatyText_readMeasure p1 v1 M) fun r2 M1 =>
    if r2 = 0 then (
      some ((0 : Int32), M1))
    else (
      cal (f_Reader_takeSign 5 (59 : Int32) M1) fun r4 M2 =>
      if r4 = 0 then (
        some ((0 : Int32), M2))
      else (
        some ((1 : Int32), M2))))
  else (
  if v1 = (1 : Int32) then (
    cal (f_TreatyText_readMeasure p1 v1 M) fun r6 M3 =>
    if r6 = 0 then (
      some ((0 : Int32), M3))
    else (
      cal (f_Reader_takeSign 5 (59 : Int32) M3) fun r8 M4 =>
      if r8 = 0 then (
        some ((0 : Int32), M4))
      else (
        some ((1 : Int32), M4))))
  else (
  if v1 = (2 : Int32) then (
    cal (f_TreatyText_readQueen (p1 + 1) M) fun r10 M5 =>
    if r10 = 0 then (
      some ((0 : Int32), M5))
    else (
      cal (f_Reader_takeSign 5 (59 : Int32) M5) fun r12 M6 =>
      if r12 = 0 then (
        some ((0 : Int32), M6))
      else (
        some ((1 : Int32), M6))))
  else (
  if v1 = (3 : Int32) then (
    cal (f_Reader_fail 5 (2 : Int32) M) fun r14 M7 =>
    gd (b01 r14) <|
    some (r14, M7))
  else (
  if v1 = (4 : Int32) then (
    cal (f_TreatyText_readClause p1 M) fun r17 M8 =>
    if r17 = 0 then (
      some ((0 : Int32), M8))
    else (
      cal (f_Reader_takeSign 5 (59 : Int32) M8) fun r19 M9 =>
      if r19 = 0 then (
        some ((0 : Int32), M9))
      else (
        some ((1 : Int32), M9))))
  else (
  if v1 = (5 : Int32) then (
    cal (f_Reader_fail 5 (2 : Int32) M) fun r21 M10 =>
    gd (b01 r21) <|
    some (r21, M10))
  else (
  if v1 = (6 : Int32) then (
    cal (f_TreatyText_readClash (p1 + 1) M) fun r24 M11 =>
    if r24 = 0 then (
      some ((0 : Int32), M11))
    else (
      cal (f_Reader_takeSign 5 (59 : Int32) M11) fun r26 M12 =>
      if r26 = 0 then (
        some ((0 : Int32), M12))
      else (
        some ((1 : Int32), M12))))
  else (
  if v1 = (7 : Int32) then (
    if v1 = (7 : Int32) then (
      f_TreatyText_readPart_l191 p1 4 (p1 + 1) (0 : Int32) M)
    else (
      f_TreatyText_readPart_l191 p1 4 (p1 + 1) (1 : Int32) M))
  else (
  if v1 = (8 : Int32) then (
    if v1 = (7 : Int32) then (
      f_TreatyText_readPart_l191 p1 4 (p1 + 1) (0 : Int32) M)
    else (
      f_TreatyText_readPart_l191 p1 4 (p1 + 1) (1 : Int32) M))
  else (
  if v1 = (9 : Int32) then (
    cal (f_TreatyText_readRow p1 M) fun r28 M13 =>
    if r28 = 0 then (
      some ((0 : Int32), M13))
    else (
      cal (f_Reader_takeSign 5 (59 : Int32) M13) fun r30 M14 =>
      if r30 = 0 then (
        some ((0 : Int32), M14))
      else (
        some ((1 : Int32), M14))))
  else (
    cal (f_Reader_fail 5 (2 : Int32) M) fun r32 M15 =>
    gd (b01 r32) <|
    some (r32, M15)))))))))))
set_option maxHeartbeats 1000000 in
def f_TreatyText_parse_l26 (p1 : Nat) (p2 : Int32) (p3 : Nat) : Nat → Int32 → kx_M → Option (Int32 × kx_M)
  | 0, _, _ => none
  | n + 1, x4, M =>
    if p2 < x4 then (
      some ((1 : Int32), M))
    else (
      if (mI M 5 5) = 0 then (
        some ((1 : Int32), M))
      else (
        cal (f_TreatyText_readPart p3 M) fun r1 M1 =>
        if r1 = 0 then (
          some ((0 : Int32), M1))
        else (
          bd (x4 + Int32.ofInt 1) fun v3 =>
          f_TreatyText_parse_l26 p1 p2 p3 n v3 M1)))
set_option maxHeartbeats 1000000 in
def f_TreatyText_parse (p1 : Nat) (p2 : Int32) (p3 : Nat) (M : kx_M) : Option (Int32 × kx_M) :=
  cal (f_State_clear p3 M) fun _ M1 =>
  bd (sI M1 4 1 (0 : Int32)) fun M2 =>
  bd (sI M2 4 2 (0 : Int32)) fun M3 =>
  cal (f_Reader_open 5 p1 p2 M3) fun _ M4 =>
  f_TreatyText_parse_l26 p1 p2 p3 FU (0 : Int32) M4
set_option maxHeartbeats 1000000 in
def f_KT_told_l13 (p1 : Int32) (p2 : Nat) (s0 : Nat) (s1 : Int32) (M : kx_M) : Option (Int32 × kx_M) :=
  bd (sI M 0 14 s1) fun M1 =>
  if p1 = 0 then (
    bd (sI M1 0 15 (mI M1 p2 11)) fun M2 =>
    if p1 = 0 then (
      some ((10 : Int32), M2))
    else (
      some ((0 : Int32), M2)))
  else (
    bd (sI M1 0 15 ((-1) : Int32)) fun M3 =>
    if p1 = 0 then (
      some ((10 : Int32), M3))
    else (
      some ((0 : Int32), M3)))
set_option maxHeartbeats 1000000 in
def f_KT_told (p1 : Int32) (p2 : Nat) (M : kx_M) : Option (Int32 × kx_M) :=
  if p1 = 0 then (
    f_KT_told_l13 p1 p2 0 (mI M p2 10) M)
  else (
    f_KT_told_l13 p1 p2 0 (0 : Int32) M)
set_option maxHeartbeats 1000000 in
def f_KT_treaty (p1 : Int32) (M : kx_M) : Option (Int32 × kx_M) :=
  if p1 < 0 then (
    bd (sI M 0 13 (5 : Int32)) fun M1 =>
    some (((-1) : Int32), M1))
  else (
    if p1 ≤ (mI M 0 11) then (
      bd (sI M 0 11 (0 : Int32)) fun M2 =>
      gd (isState (mR M2 0 10)) <|
      bd (mR M2 0 10) fun s2 =>
      cal (f_TreatyText_parse 2 p1 s2 M2) fun r3 M3 =>
      cal (f_KT_told r3 5 M3) fun r5 M4 =>
      cal (f_KT_refused r5 M4) fun r7 M5 =>
      if r7 = 0 then (
        gd (isState (mR M5 0 9)) <|
        bd (mR M5 0 9) fun s10 =>
        gd (isState (mR M5 0 10)) <|
        bd (mR M5 0 10) fun s12 =>
        bd (sR M5 0 9 s12) fun M6 =>
        bd (sR M6 0 10 s10) fun M7 =>
        gd (isState (mR M7 0 9)) <|
        bd (mR M7 0 9) fun s14 =>
        some ((mI M7 (s14 + 9) 7), M7))
      else (
        some (((-1) : Int32), M5)))
    else (
      bd (sI M 0 13 (5 : Int32)) fun M8 =>
      some (((-1) : Int32), M8)))
set_option maxHeartbeats 1000000 in
def f_Script_add (p0 : Nat) (p1 : Int32) (p2 : Int32) (p3 : Int32) (M : kx_M) : Option (Unit × kx_M) :=
  gd (inb (mI M p0 6) 60) <|
  bd (sA M (p0 + 1) (upd (mA M (p0 + 1)) (mI M p0 6).toNatClampNeg p1)) fun M1 =>
  gd (inb (mI M1 p0 6) 60) <|
  bd (sA M1 (p0 + 2) (upd (mA M1 (p0 + 2)) (mI M1 p0 6).toNatClampNeg p2)) fun M2 =>
  gd (inb (mI M2 p0 6) 60) <|
  bd (sA M2 (p0 + 3) (upd (mA M2 (p0 + 3)) (mI M2 p0 6).toNatClampNeg p3)) fun M3 =>
  gd (inb (mI M3 p0 6) 60) <|
  bd (sA M3 (p0 + 4) (upd (mA M3 (p0 + 4)) (mI M3 p0 6).toNatClampNeg (mI M3 p0 6))) fun M4 =>
  bd (sI M4 p0 6 ((mI M4 p0 6) + (1 : Int32))) fun M5 =>
  some ((), M5)
set_option maxHeartbeats 1000000 in
def f_Script_couple (p0 : Nat) (p1 : Int32) (p2 : Int32) (M : kx_M) : Option (Unit × kx_M) :=
  gd (inb p1 60) <|
  bd (sA M (p0 + 4) (upd (mA M (p0 + 4)) p1.toNatClampNeg p2)) fun M1 =>
  gd (inb p2 60) <|
  bd (sA M1 (p0 + 4) (upd (mA M1 (p0 + 4)) p2.toNatClampNeg p1)) fun M2 =>
  some ((), M2)
set_option maxHeartbeats 1000000 in
def f_CenturyText_readEnd (p1 : Nat) (M : kx_M) : Option (Int32 × kx_M) :=
  if (mI M 8 2) = 0 then (
    cal (f_Reader_fail 9 (2 : Int32) M) fun r1 M1 =>
    gd (b01 r1) <|
    some (r1, M1))
  else (
    bd (sI M 8 2 ((mI M 8 2) - (1 : Int32))) fun M2 =>
    cal (f_Script_add p1 (24 : Int32) (0 : Int32) (0 : Int32) M2) fun _ M3 =>
    gd (inb (mI M3 8 2) 3) <|
    cal (f_Script_couple p1 (mA M3 12 (mI M3 8 2).toNatClampNeg) ((mI M3 p1 6) - (1 : Int32)) M3) fun _ M4 =>
    cal (f_Reader_next 9 M4) fun _ M5 =>
    some ((1 : Int32), M5))
set_option maxHeartbeats 1000000 in
def f_CenturyText_beginsStep_l12 (p0 : Int32) (M : kx_M) : Option (Int32 × kx_M) :=
  if p0 = (23 : Int32) then (
    some ((1 : Int32), M))
  else (
    if p0 = (25 : Int32) then (
      some ((1 : Int32), M))
    else (
      some ((0 : Int32), M)))
set_option maxHeartbeats 1000000 in
def f_CenturyText_beginsStep (p0 : Int32) (M : kx_M) : Option (Int32 × kx_M) :=
  if p0 < (14 : Int32) then (
    f_CenturyText_beginsStep_l12 p0 M)
  else (
    if p0 ≤ (19 : Int32) then (
      some ((1 : Int32), M))
    else (
      f_CenturyText_beginsStep_l12 p0 M))
set_option maxHeartbeats 1000000 in
def f_CenturyText_readOne (p1 : Nat) (p2 : Int32) (p3 : Int32) (p4 : Int32) (M : kx_M) : Option (Int32 × kx_M) :=
  cal (f_Reader_atNumber 9 p3 p4 M) fun r1 M1 =>
  if r1 = 0 then (
    some ((0 : Int32), M1))
  else (
    cal (f_Script_add p1 p2 (mI M1 9 8) (0 : Int32) M1) fun _ M2 =>
    cal (f_Reader_next 9 M2) fun _ M3 =>
    some ((1 : Int32), M3))
set_option maxHeartbeats 1000000 in
def f_CenturyText_readTwo (p1 : Nat) (p2 : Int32) (p3 : Int32) (p4 : Int32) (M : kx_M) : Option (Int32 × kx_M) :=
  cal (f_Reader_atNumber 9 (0 : Int32) p3 M) fun r1 M1 =>
  if r1 = 0 then (
    some ((0 : Int32), M1))
  else (
    bd (mI M1 9 8) fun v3 =>
    cal (f_Reader_next 9 M1) fun _ M2 =>
    cal (f_Reader_atNumber 9 (0 : Int32) p4 M2) fun r6 M3 =>
    if r6 = 0 then (
      some ((0 : Int32), M3))
    else (
      cal (f_Script_add p1 p2 v3 (mI M3 9 8) M3) fun _ M4 =>
      cal (f_Reader_next 9 M4) fun _ M5 =>
      some ((1 : Int32), M5)))
set_option maxHeartbeats 1000000 in
def f_CenturyText_readSaid (p1 : Nat) (p2 : Nat) (M : kx_M) : Option (Int32 × kx_M) :=
  if (mI M 9 6) = (26 : Int32) then (
    cal (f_Deal_clauseNamed p1 (mJ M 9 7) M) fun r1 M1 =>
    if r1 = ((-1) : Int32) then (
      cal (f_Reader_fail 9 (3 : Int32) M1) fun r3 M2 =>
      gd (b01 r3) <|
      some (r3, M2))
    else (
      cal (f_Script_add p2 (20 : Int32) r1 (0 : Int32) M1) fun _ M3 =>
      cal (f_Reader_next 9 M3) fun _ M4 =>
      some ((1 : Int32), M4)))
  else (
    cal (f_Reader_fail 9 (2 : Int32) M) fun r10 M5 =>
    gd (b01 r10) <|
    some (r10, M5))
set_option maxHeartbeats 1000000 in
def f_CenturyText_readUndone (p1 : Nat) (M : kx_M) : Option (Int32 × kx_M) :=
  if (mI M 9 5) = (4 : Int32) then (
    if (mI M 9 9) = (59 : Int32) then (
      cal (f_Reader_fail 9 (2 : Int32) M) fun r1 M1 =>
      gd (b01 r1) <|
      some (r1, M1))
    else (
      bd (mI M 9 9) fun v4 =>
      cal (f_Reader_next 9 M) fun _ M2 =>
      cal (f_Reader_atNumber 9 (0 : Int32) (99 : Int32) M2) fun r7 M3 =>
      if r7 = 0 then (
        some ((0 : Int32), M3))
      else (
        cal (f_Script_add p1 (22 : Int32) v4 (mI M3 9 8) M3) fun _ M4 =>
        cal (f_Reader_next 9 M4) fun _ M5 =>
        some ((1 : Int32), M5))))
  else (
    cal (f_Reader_fail 9 (2 : Int32) M) fun r13 M6 =>
    gd (b01 r13) <|
    some (r13, M6))
set_option maxHeartbeats 1000000 in
def f_CenturyText_readTest (p1 : Nat) (p2 : Nat) (M : kx_M) : Option (Int32 × kx_M) :=
  bd (mI M 9 6) fun v1 =>
  if v1 = (20 : Int32) then (
    cal (f_Reader_next 9 M) fun _ M1 =>
    cal (f_CenturyText_readSaid (p1 + 1) p2 M1) fun r4 M2 =>
    gd (b01 r4) <|
    some (r4, M2))
  else (
  if v1 = (21 : Int32) then (
    cal (f_Reader_next 9 M) fun _ M3 =>
    cal (f_CenturyText_readOne p2 v1 (0 : Int32) ((mI M3 (p1 + 9) 7) - (1 : Int32)) M3) fun r9 M4 =>
    gd (b01 r9) <|
    some (r9, M4))
  else (
  if v1 = (22 : Int32) then (
    cal (f_Reader_next 9 M) fun _ M5 =>
    cal (f_CenturyText_readUndone p2 M5) fun r14 M6 =>
    gd (b01 r14) <|
    some (r14, M6))
  else (
    cal (f_Reader_fail 9 (2 : Int32) M) fun r17 M7 =>
    gd (b01 r17) <|
    some (r17, M7))))
set_option maxHeartbeats 1000000 in
def f_CenturyText_readStep_l123 (p1 : Nat) (p2 : Nat) (x3 : Int32) (M : kx_M) : Option (Int32 × kx_M) :=
  cal (f_Reader_next 9 M) fun _ M1 =>
  if x3 = (14 : Int32) then (
    cal (f_CenturyText_readOne p2 x3 (1 : Int32) (20 : Int32) M1) fun r3 M2 =>
    gd (b01 r3) <|
    some (r3, M2))
  else (
  if x3 = (15 : Int32) then (
    cal (f_CenturyText_readTwo p2 x3 ((mI M1 (p1 + 9) 7) - (1 : Int32)) (1 : Int32) M1) fun r6 M3 =>
    gd (b01 r6) <|
    some (r6, M3))
  else (
  if x3 = (16 : Int32) then (
    cal (f_CenturyText_readTwo p2 x3 ((mI M1 (p1 + 9) 7) - (1 : Int32)) ((mI M1 (p1 + 9) 5) - (1 : Int32)) M1) fun r9 M4 =>
    gd (b01 r9) <|
    some (r9, M4))
  else (
  if x3 = (17 : Int32) then (
    cal (f_CenturyText_readTwo p2 x3 ((mI M1 (p1 + 9) 7) - (1 : Int32)) ((mI M1 (p1 + 9) 5) - (1 : Int32)) M1) fun r12 M5 =>
    gd (b01 r12) <|
    some (r12, M5))
  else (
  if x3 = (18 : Int32) then (
    cal (f_Script_add p2 x3 (0 : Int32) (0 : Int32) M1) fun _ M6 =>
    some ((1 : Int32), M6))
  else (
  if x3 = (19 : Int32) then (
    cal (f_CenturyText_readTest p1 p2 M1) fun r17 M7 =>
    gd (b01 r17) <|
    some (r17, M7))
  else (
  if x3 = (20 : Int32) then (
    cal (f_Script_add p2 x3 (0 : Int32) (0 : Int32) M1) fun _ M8 =>
    some ((1 : Int32), M8))
  else (
  if x3 = (21 : Int32) then (
    cal (f_Script_add p2 x3 (0 : Int32) (0 : Int32) M1) fun _ M9 =>
    some ((1 : Int32), M9))
  else (
  if x3 = (22 : Int32) then (
    cal (f_Script_add p2 x3 (0 : Int32) (0 : Int32) M1) fun _ M10 =>
    some ((1 : Int32), M10))
  else (
  if x3 = (23 : Int32) then (
    cal (f_CenturyText_readOne p2 x3 (1 : Int32) (99 : Int32) M1) fun r26 M11 =>
    gd (b01 r26) <|
    some (r26, M11))
  else (
    cal (f_Script_add p2 x3 (0 : Int32) (0 : Int32) M1) fun _ M12 =>
    some ((1 : Int32), M12)))))))))))
set_option maxHeartbeats 1000000 in
def f_CenturyText_readStep_l85 (p1 : Nat) (p2 : Nat) (x3 : Int32) (x4 : Int32) (M : kx_M) : Option (Int32 × kx_M) :=
  bd (sI M p2 5 ((mI M p2 5) + (1 : Int32))) fun M1 =>
  if x4 = 0 then (
    f_CenturyText_readStep_l123 p1 p2 x3 M1)
  else (
    gd (inb (mI M1 8 2) 3) <|
    bd (sA M1 12 (upd (mA M1 12) (mI M1 8 2).toNatClampNeg (mI M1 p2 6))) fun M2 =>
    bd (sI M2 8 2 ((mI M2 8 2) + (1 : Int32))) fun M3 =>
    f_CenturyText_readStep_l123 p1 p2 x3 M3)
set_option maxHeartbeats 1000000 in
def f_CenturyText_readStep_l60 (p1 : Nat) (p2 : Nat) (x3 : Int32) (s0 : Int32) (M : kx_M) : Option (Int32 × kx_M) :=
  if s0 = 0 then (
    f_CenturyText_readStep_l85 p1 p2 x3 s0 M)
  else (
    if (mI M 8 2) < (3 : Int32) then (
      f_CenturyText_readStep_l85 p1 p2 x3 s0 M)
    else (
      cal (f_Reader_fail 9 (7 : Int32) M) fun r1 M1 =>
      gd (b01 r1) <|
      some (r1, M1)))
set_option maxHeartbeats 1000000 in
def f_CenturyText_readStep (p1 : Nat) (p2 : Nat) (M : kx_M) : Option (Int32 × kx_M) :=
  bd (mI M 9 6) fun v1 =>
  cal (f_CenturyText_beginsStep v1 M) fun r2 M1 =>
  if r2 = 0 then (
    cal (f_Reader_fail 9 (2 : Int32) M1) fun r4 M2 =>
    gd (b01 r4) <|
    some (r4, M2))
  else (
    if (mI M1 p2 5) < (30 : Int32) then (
      if v1 = (19 : Int32) then (
        f_CenturyText_readStep_l60 p1 p2 v1 (1 : Int32) M1)
      else (
        if v1 = (23 : Int32) then (
          f_CenturyText_readStep_l60 p1 p2 v1 (1 : Int32) M1)
        else (
          f_CenturyText_readStep_l60 p1 p2 v1 (0 : Int32) M1)))
    else (
      cal (f_Reader_fail 9 (6 : Int32) M1) fun r7 M3 =>
      gd (b01 r7) <|
      some (r7, M3)))
set_option maxHeartbeats 1000000 in
def f_CenturyText_parse_l93 (p1 : Nat) (p2 : Int32) (p3 : Nat) (p4 : Nat) (M : kx_M) : Option (Int32 × kx_M) :=
  if (mI M 8 2) ≤ 0 then (
    bd (sI M p4 4 (1 : Int32)) fun M1 =>
    some ((1 : Int32), M1))
  else (
    cal (f_Reader_fail 9 (2 : Int32) M) fun r1 M2 =>
    gd (b01 r1) <|
    some (r1, M2))
set_option maxHeartbeats 1000000 in
def f_CenturyText_parse_l66 (p1 : Nat) (p2 : Int32) (p3 : Nat) (p4 : Nat) (k22 : Int32 → kx_M → Option (Int32 × kx_M)) (x5 : Int32) (s0 : Int32) (M : kx_M) : Option (Int32 × kx_M) :=
  if s0 = 0 then (
    some ((0 : Int32), M))
  else (
    cal (f_Reader_takeSign 9 (59 : Int32) M) fun r1 M1 =>
    if r1 = 0 then (
      some ((0 : Int32), M1))
    else (
      bd (x5 + Int32.ofInt 1) fun v3 =>
      k22 v3 M1))
set_option maxHeartbeats 1000000 in
def f_CenturyText_parse_l22 (p1 : Nat) (p2 : Int32) (p3 : Nat) (p4 : Nat) : Nat → Int32 → kx_M → Option (Int32 × kx_M)
  | 0, _, _ => none
  | n + 1, x5, M =>
    if p2 < x5 then (
      f_CenturyText_parse_l93 p1 p2 p3 p4 M)
    else (
      if (mI M 9 5) = 0 then (
        f_CenturyText_parse_l93 p1 p2 p3 p4 M)
      else (
        if (mI M 9 6) = (24 : Int32) then (
          cal (f_CenturyText_readEnd p4 M) fun r1 M1 =>
          f_CenturyText_parse_l66 p1 p2 p3 p4 (f_CenturyText_parse_l22 p1 p2 p3 p4 n) x5 r1 M1)
        else (
          cal (f_CenturyText_readStep p3 p4 M) fun r3 M2 =>
          f_CenturyText_parse_l66 p1 p2 p3 p4 (f_CenturyText_parse_l22 p1 p2 p3 p4 n) x5 r3 M2)))
set_option maxHeartbeats 1000000 in
def f_CenturyText_parse (p1 : Nat) (p2 : Int32) (p3 : Nat) (p4 : Nat) (M : kx_M) : Option (Int32 × kx_M) :=
  cal (f_Script_clear p4 M) fun _ M1 =>
  bd (sI M1 8 2 (0 : Int32)) fun M2 =>
  cal (f_Reader_open 9 p1 p2 M2) fun _ M3 =>
  f_CenturyText_parse_l22 p1 p2 p3 p4 FU (0 : Int32) M3
set_option maxHeartbeats 1000000 in
def f_KT_centuries (p1 : Int32) (M : kx_M) : Option (Int32 × kx_M) :=
  if p1 < 0 then (
    bd (sI M 0 13 (5 : Int32)) fun M1 =>
    some (((-1) : Int32), M1))
  else (
    if (mI M 0 11) < p1 then (
      bd (sI M 0 13 (5 : Int32)) fun M2 =>
      some (((-1) : Int32), M2))
    else (
      if p1 ≤ (300 : Int32) then (
        bd (sI M 0 11 (0 : Int32)) fun M3 =>
        gd (isState (mR M3 0 9)) <|
        bd (mR M3 0 9) fun s2 =>
        gd (isState (mR M3 0 10)) <|
        bd (mR M3 0 10) fun s4 =>
        cal (f_CenturyText_parse 2 p1 s2 (s4 + 15) M3) fun r5 M4 =>
        cal (f_KT_told r5 9 M4) fun r7 M5 =>
        cal (f_KT_refused r7 M5) fun r9 M6 =>
        if r9 = 0 then (
          gd (isState (mR M6 0 9)) <|
          bd (mR M6 0 9) fun s12 =>
          gd (isState (mR M6 0 10)) <|
          bd (mR M6 0 10) fun s14 =>
          cal (f_Script_copyFrom (s12 + 15) (s14 + 15) M6) fun _ M7 =>
          gd (isState (mR M7 0 9)) <|
          bd (mR M7 0 9) fun s18 =>
          some ((mI M7 (s18 + 15) 5), M7))
        else (
          some (((-1) : Int32), M6)))
      else (
        bd (sI M 0 13 (5 : Int32)) fun M8 =>
        some (((-1) : Int32), M8))))
set_option maxHeartbeats 1000000 in
def f_LW_load_l17 (x2 : Int32) (M : kx_M) : Option (Int32 × kx_M) :=
  gd (inb (21 : Int32) 24) <|
  bd (sA M 135 (upd (mA M 135) (21 : Int32).toNatClampNeg (0 : Int32))) fun M1 =>
  gd (inb (22 : Int32) 24) <|
  if (mA M1 135 (22 : Int32).toNatClampNeg) = 0 then (
    cal (f_KT_treaty x2 M1) fun r3 M2 =>
    some (r3, M2))
  else (
    cal (f_KT_centuries x2 M1) fun r5 M3 =>
    some (r5, M3))
set_option maxHeartbeats 1000000 in
def f_LW_load (M : kx_M) : Option (Int32 × kx_M) :=
  gd (inb (21 : Int32) 24) <|
  bd (mA M 135 (21 : Int32).toNatClampNeg) fun v2 =>
  gd (inb (20 : Int32) 24) <|
  if (mA M 135 (20 : Int32).toNatClampNeg) ≤ 0 then (
    f_LW_load_l17 v2 M)
  else (
    cal (f_LW_feed M) fun _ M1 =>
    f_LW_load_l17 v2 M1)
set_option maxHeartbeats 1000000 in
def f_LW_lay_l447 (k390 : Int32 → Int32 → kx_M → Option (Int32 × kx_M)) (x3 : Int32) (x4 : Int32) (x5 : Int32) (M : kx_M) : Option (Int32 × kx_M) :=
  gd (inb (((37 : Int32) + ((5 : Int32) * x3)) + x4) 52) <|
  cal (f_LW_kind (mA M 136 (((37 : Int32) + ((5 : Int32) * x3)) + x4).toNatClampNeg) M) fun _ M1 =>
  if x5 ≤ (1 : Int32) then (
    bd (x4 + Int32.ofInt 1) fun v4 =>
    k390 x3 v4 M1)
  else (
    cal (f_LW_number x5 M1) fun _ M2 =>
    bd (x4 + Int32.ofInt 1) fun v7 =>
    k390 x3 v7 M2)
set_option maxHeartbeats 1000000 in
def f_LW_lay_l401 (k390 : Int32 → Int32 → kx_M → Option (Int32 × kx_M)) : Nat → Int32 → Int32 → Int32 → kx_M → Option (Int32 × kx_M)
  | 0, _, _, _, _ => none
  | n + 1, x3, x4, x5, M =>
    gd (inb (0 : Int32) 52) <|
    if (mA M 136 (0 : Int32).toNatClampNeg) ≤ (x4 + (1 : Int32)) then (
      f_LW_lay_l447 k390 x3 x4 x5 M)
    else (
      gd (inb ((((37 : Int32) + ((5 : Int32) * x3)) + x4) + (1 : Int32)) 52) <|
      gd (inb (((37 : Int32) + ((5 : Int32) * x3)) + x4) 52) <|
      if (mA M 136 ((((37 : Int32) + ((5 : Int32) * x3)) + x4) + (1 : Int32)).toNatClampNeg) = (mA M 136 (((37 : Int32) + ((5 : Int32) * x3)) + x4).toNatClampNeg) then (
        bd (x5 + Int32.ofInt 1) fun v4 =>
        bd (x4 + Int32.ofInt 1) fun v5 =>
        f_LW_lay_l401 k390 n x3 v5 v4 M)
      else (
        f_LW_lay_l447 k390 x3 x4 x5 M))
set_option maxHeartbeats 1000000 in
def f_LW_lay_l390 (k360 : Int32 → kx_M → Option (Int32 × kx_M)) : Nat → Int32 → Int32 → kx_M → Option (Int32 × kx_M)
  | 0, _, _, _ => none
  | n + 1, x3, x4, M =>
    gd (inb (0 : Int32) 52) <|
    if (mA M 136 (0 : Int32).toNatClampNeg) ≤ x4 then (
      cal (f_LW_say 2 M) fun _ M1 =>
      bd (x3 + Int32.ofInt 1) fun v4 =>
      k360 v4 M1)
    else (
      f_LW_lay_l401 (f_LW_lay_l390 k360 n) FU x3 x4 (1 : Int32) M)
set_option maxHeartbeats 1000000 in
def f_LW_lay_l360 : Nat → Int32 → kx_M → Option (Int32 × kx_M)
  | 0, _, _ => none
  | n + 1, x3, M =>
    gd (inb (4 : Int32) 52) <|
    if (mA M 136 (4 : Int32).toNatClampNeg) ≤ x3 then (
      cal (f_LW_load M) fun r2 M1 =>
      gd (inb (4 : Int32) 52) <|
      if r2 = (mA M1 136 (4 : Int32).toNatClampNeg) then (
        some ((1 : Int32), M1))
      else (
        some ((0 : Int32), M1)))
    else (
      cal (f_LW_say 14 M) fun _ M2 =>
      gd (inb ((34 : Int32) + x3) 52) <|
      cal (f_LW_name (113 : Int32) (mA M2 136 ((34 : Int32) + x3).toNatClampNeg) M2) fun _ M3 =>
      f_LW_lay_l390 (f_LW_lay_l360 n) FU x3 (0 : Int32) M3)
set_option maxHeartbeats 1000000 in
def f_LW_lay_l251 (k178 : Int32 → kx_M → Option (Int32 × kx_M)) : Nat → Int32 → Int32 → kx_M → Option (Int32 × kx_M)
  | 0, _, _, _ => none
  | n + 1, x3, x4, M =>
    gd (inb (2 : Int32) 52) <|
    if (mA M 136 (2 : Int32).toNatClampNeg) ≤ x4 then (
      bd (x3 + Int32.ofInt 1) fun v2 =>
      k178 v2 M)
    else (
      cal (f_LW_say 12 M) fun _ M1 =>
      cal (f_LW_name (113 : Int32) x4 M1) fun _ M2 =>
      cal (f_LW_name (99 : Int32) x3 M2) fun _ M3 =>
      gd (inb (((22 : Int32) + ((3 : Int32) * x4)) + x3) 52) <|
      cal (f_LW_number (mA M3 136 (((22 : Int32) + ((3 : Int32) * x4)) + x3).toNatClampNeg) M3) fun _ M4 =>
      cal (f_LW_say 13 M4) fun _ M5 =>
      cal (f_LW_name (113 : Int32) x4 M5) fun _ M6 =>
      cal (f_LW_name (99 : Int32) x3 M6) fun _ M7 =>
      gd (inb (((28 : Int32) + ((3 : Int32) * x4)) + x3) 52) <|
      cal (f_LW_number (mA M7 136 (((28 : Int32) + ((3 : Int32) * x4)) + x3).toNatClampNeg) M7) fun _ M8 =>
      cal (f_LW_say 2 M8) fun _ M9 =>
      bd (x4 + Int32.ofInt 1) fun v23 =>
      f_LW_lay_l251 k178 n x3 v23 M9)
set_option maxHeartbeats 1000000 in
def f_LW_lay_l188 (k178 : Int32 → kx_M → Option (Int32 × kx_M)) : Nat → Int32 → Int32 → kx_M → Option (Int32 × kx_M)
  | 0, _, _, _ => none
  | n + 1, x3, x4, M =>
    if x3 ≤ x4 then (
      f_LW_lay_l251 k178 FU x3 (0 : Int32) M)
    else (
      gd (inb ((19 : Int32) + x3) 52) <|
      if (((mA M 136 ((19 : Int32) + x3).toNatClampNeg) >>> (x4 &&& 31)) &&& (1 : Int32)) = 0 then (
        bd (x4 + Int32.ofInt 1) fun v2 =>
        f_LW_lay_l188 k178 n x3 v2 M)
      else (
        cal (f_LW_say 11 M) fun _ M1 =>
        cal (f_LW_name (99 : Int32) x3 M1) fun _ M2 =>
        cal (f_LW_name (99 : Int32) x4 M2) fun _ M3 =>
        cal (f_LW_say 2 M3) fun _ M4 =>
        bd (x4 + Int32.ofInt 1) fun v11 =>
        f_LW_lay_l188 k178 n x3 v11 M4))
set_option maxHeartbeats 1000000 in
def f_LW_lay_l178 : Nat → Int32 → kx_M → Option (Int32 × kx_M)
  | 0, _, _ => none
  | n + 1, x3, M =>
    gd (inb (3 : Int32) 52) <|
    if (mA M 136 (3 : Int32).toNatClampNeg) ≤ x3 then (
      f_LW_lay_l360 FU (0 : Int32) M)
    else (
      f_LW_lay_l188 (f_LW_lay_l178 n) FU x3 (0 : Int32) M)
set_option maxHeartbeats 1000000 in
def f_LW_lay_l130 (k98 : Int32 → kx_M → Option (Int32 × kx_M)) : Nat → Int32 → Int32 → kx_M → Option (Int32 × kx_M)
  | 0, _, _, _ => none
  | n + 1, x3, x4, M =>
    gd (inb ((7 : Int32) + x3) 52) <|
    if (mA M 136 ((7 : Int32) + x3).toNatClampNeg) ≤ x4 then (
      cal (f_LW_say 2 M) fun _ M1 =>
      bd (x3 + Int32.ofInt 1) fun v4 =>
      k98 v4 M1)
    else (
      gd (inb (((10 : Int32) + ((3 : Int32) * x3)) + x4) 52) <|
      cal (f_LW_kind (mA M 136 (((10 : Int32) + ((3 : Int32) * x3)) + x4).toNatClampNeg) M) fun _ M2 =>
      bd (x4 + Int32.ofInt 1) fun v8 =>
      f_LW_lay_l130 k98 n x3 v8 M2)
set_option maxHeartbeats 1000000 in
def f_LW_lay_l98 : Nat → Int32 → kx_M → Option (Int32 × kx_M)
  | 0, _, _ => none
  | n + 1, x3, M =>
    gd (inb (3 : Int32) 52) <|
    if (mA M 136 (3 : Int32).toNatClampNeg) ≤ x3 then (
      f_LW_lay_l178 FU (0 : Int32) M)
    else (
      cal (f_LW_say 5 M) fun _ M1 =>
      cal (f_LW_name (99 : Int32) x3 M1) fun _ M2 =>
      cal (f_LW_say 6 M2) fun _ M3 =>
      f_LW_lay_l130 (f_LW_lay_l98 n) FU x3 (0 : Int32) M3)
set_option maxHeartbeats 1000000 in
def f_LW_lay_l44 : Nat → Int32 → kx_M → Option (Int32 × kx_M)
  | 0, _, _ => none
  | n + 1, x3, M =>
    gd (inb (2 : Int32) 52) <|
    if (mA M 136 (2 : Int32).toNatClampNeg) ≤ x3 then (
      f_LW_lay_l98 FU (0 : Int32) M)
    else (
      cal (f_LW_say 3 M) fun _ M1 =>
      cal (f_LW_name (113 : Int32) x3 M1) fun _ M2 =>
      cal (f_LW_say 4 M2) fun _ M3 =>
      gd (inb ((5 : Int32) + x3) 52) <|
      cal (f_LW_number (mA M3 136 ((5 : Int32) + x3).toNatClampNeg) M3) fun _ M4 =>
      cal (f_LW_say 2 M4) fun _ M5 =>
      bd (x3 + Int32.ofInt 1) fun v13 =>
      f_LW_lay_l44 n v13 M5)
set_option maxHeartbeats 1000000 in
def f_LW_lay (M : kx_M) : Option (Int32 × kx_M) :=
  gd (inb (22 : Int32) 24) <|
  bd (sA M 135 (upd (mA M 135) (22 : Int32).toNatClampNeg (0 : Int32))) fun M1 =>
  cal (f_LW_say 0 M1) fun _ M2 =>
  gd (inb (0 : Int32) 52) <|
  cal (f_LW_number (mA M2 136 (0 : Int32).toNatClampNeg) M2) fun _ M3 =>
  cal (f_LW_say 1 M3) fun _ M4 =>
  gd (inb (1 : Int32) 52) <|
  cal (f_LW_number (mA M4 136 (1 : Int32).toNatClampNeg) M4) fun _ M5 =>
  cal (f_LW_say 2 M5) fun _ M6 =>
  f_LW_lay_l44 FU (0 : Int32) M6
set_option maxHeartbeats 1000000 in
def f_LW_draw_l391 (p0 : Nat × (Nat → Int32)) (k360 : Int32 → Int32 → kx_M → Option (Unit × kx_M)) (x2 : Int32) (x3 : Int32) (s0 : Int32) (M : kx_M) : Option (Unit × kx_M) :=
  gd (inb ((22 : Int32) + x3) 52) <|
  bd (sA M 136 (upd (mA M 136) ((22 : Int32) + x3).toNatClampNeg (s0 &&& (15 : Int32)))) fun M1 =>
  gd (inb ((28 : Int32) + x3) 52) <|
  bd (sA M1 136 (upd (mA M1 136) ((28 : Int32) + x3).toNatClampNeg ((s0 >>> ((3 : Int32) &&& 31)) &&& (15 : Int32)))) fun M2 =>
  bd (x3 + Int32.ofInt 1) fun v3 =>
  k360 x2 v3 M2
set_option maxHeartbeats 1000000 in
def f_LW_draw_l360 (p0 : Nat × (Nat → Int32)) : Nat → Int32 → Int32 → kx_M → Option (Unit × kx_M)
  | 0, _, _, _ => none
  | n + 1, x2, x3, M =>
    if (6 : Int32) ≤ x3 then (
      some ((), M))
    else (
      if (Int32.ofNat p0.1) ≤ (x3 + (2 : Int32)) then (
        f_LW_draw_l391 p0 (f_LW_draw_l360 p0 n) x2 x3 (((947 : Int32) * x3) + x2) M)
      else (
        gd (inb (x3 + (2 : Int32)) p0.1) <|
        f_LW_draw_l391 p0 (f_LW_draw_l360 p0 n) x2 x3 ((p0.2 (x3 + (2 : Int32)).toNatClampNeg) >>> ((1 : Int32) &&& 31)) M))
set_option maxHeartbeats 1000000 in
def f_LW_draw_l294 (p0 : Nat × (Nat → Int32)) (k261 : Int32 → Int32 → kx_M → Option (Unit × kx_M)) : Nat → Int32 → Int32 → Int32 → Int32 → kx_M → Option (Unit × kx_M)
  | 0, _, _, _, _, _ => none
  | n + 1, x2, x3, x4, x5, M =>
    if x3 ≤ x5 then (
      bd (x3 + Int32.ofInt 1) fun v1 =>
      k261 x2 v1 M)
    else (
      gd (inb (3 : Int32) 52) <|
      if (mA M 136 (3 : Int32).toNatClampNeg) ≤ x3 then (
        bd (x5 + Int32.ofInt 1) fun v3 =>
        f_LW_draw_l294 p0 k261 n x2 x3 x4 v3 M)
      else (
        if ((x4 >>> (x5 &&& 31)) &&& (1 : Int32)) = 0 then (
          bd (x5 + Int32.ofInt 1) fun v4 =>
          f_LW_draw_l294 p0 k261 n x2 x3 x4 v4 M)
        else (
          gd (inb ((19 : Int32) + x3) 52) <|
          gd (inb ((19 : Int32) + x3) 52) <|
          bd (sA M 136 (upd (mA M 136) ((19 : Int32) + x3).toNatClampNeg ((mA M 136 ((19 : Int32) + x3).toNatClampNeg) ||| ((1 : Int32) <<< (x5 &&& 31))))) fun M1 =>
          gd (inb ((19 : Int32) + x5) 52) <|
          gd (inb ((19 : Int32) + x5) 52) <|
          bd (sA M1 136 (upd (mA M1 136) ((19 : Int32) + x5).toNatClampNeg ((mA M1 136 ((19 : Int32) + x5).toNatClampNeg) ||| ((1 : Int32) <<< (x3 &&& 31))))) fun M2 =>
          bd (x5 + Int32.ofInt 1) fun v9 =>
          f_LW_draw_l294 p0 k261 n x2 x3 x4 v9 M2)))
set_option maxHeartbeats 1000000 in
def f_LW_draw_l261 (p0 : Nat × (Nat → Int32)) : Nat → Int32 → Int32 → kx_M → Option (Unit × kx_M)
  | 0, _, _, _ => none
  | n + 1, x2, x3, M =>
    if (3 : Int32) ≤ x3 then (
      f_LW_draw_l360 p0 FU x2 (0 : Int32) M)
    else (
      if (Int32.ofNat p0.1) ≤ (x3 + (4 : Int32)) then (
        bd (((941 : Int32) * x3) + x2) fun v2 =>
        f_LW_draw_l294 p0 (f_LW_draw_l261 p0 n) FU x2 x3 v2 (0 : Int32) M)
      else (
        gd (inb (x3 + (4 : Int32)) p0.1) <|
        bd (p0.2 (x3 + (4 : Int32)).toNatClampNeg) fun v4 =>
        f_LW_draw_l294 p0 (f_LW_draw_l261 p0 n) FU x2 x3 v4 (0 : Int32) M))
set_option maxHeartbeats 1000000 in
def f_LW_draw_l204 (p0 : Nat × (Nat → Int32)) (k65 : Int32 → Int32 → kx_M → Option (Unit × kx_M)) : Nat → Int32 → Int32 → Int32 → Int32 → kx_M → Option (Unit × kx_M)
  | 0, _, _, _, _, _ => none
  | n + 1, x2, x3, x4, x5, M =>
    if (5 : Int32) ≤ x5 then (
      bd (x3 + Int32.ofInt 1) fun v1 =>
      k65 x2 v1 M)
    else (
      if x5 = (3 : Int32) then (
        gd (inb ((10 : Int32) + ((3 : Int32) * x3)) 52) <|
        gd (inb (((37 : Int32) + ((5 : Int32) * x3)) + x5) 52) <|
        bd (sA M 136 (upd (mA M 136) (((37 : Int32) + ((5 : Int32) * x3)) + x5).toNatClampNeg (mA M 136 ((10 : Int32) + ((3 : Int32) * x3)).toNatClampNeg))) fun M1 =>
        bd (x5 + Int32.ofInt 1) fun v4 =>
        f_LW_draw_l204 p0 k65 n x2 x3 x4 v4 M1)
      else (
        gd (inb (((37 : Int32) + ((5 : Int32) * x3)) + x5) 52) <|
        bd (sA M 136 (upd (mA M 136) (((37 : Int32) + ((5 : Int32) * x3)) + x5).toNatClampNeg ((x4 >>> ((x5 + (1 : Int32)) &&& 31)) &&& (3 : Int32)))) fun M2 =>
        bd (x5 + Int32.ofInt 1) fun v6 =>
        f_LW_draw_l204 p0 k65 n x2 x3 x4 v6 M2))
set_option maxHeartbeats 1000000 in
def f_LW_draw_l144 (p0 : Nat × (Nat → Int32)) (k65 : Int32 → Int32 → kx_M → Option (Unit × kx_M)) : Nat → Int32 → Int32 → Int32 → Int32 → kx_M → Option (Unit × kx_M)
  | 0, _, _, _, _, _ => none
  | n + 1, x2, x3, x4, x5, M =>
    if (3 : Int32) ≤ x5 then (
      gd (inb ((19 : Int32) + x3) 52) <|
      bd (sA M 136 (upd (mA M 136) ((19 : Int32) + x3).toNatClampNeg (0 : Int32))) fun M1 =>
      gd (inb (2 : Int32) 52) <|
      gd (nz (mA M1 136 (2 : Int32).toNatClampNeg)) <|
      gd (inb ((34 : Int32) + x3) 52) <|
      bd (sA M1 136 (upd (mA M1 136) ((34 : Int32) + x3).toNatClampNeg (((x4 >>> ((4 : Int32) &&& 31)) &&& (1 : Int32)) - ((x4 >>> ((4 : Int32) &&& 31)) &&& (1 : Int32)) / (mA M1 136 (2 : Int32).toNatClampNeg) * (mA M1 136 (2 : Int32).toNatClampNeg)))) fun M2 =>
      f_LW_draw_l204 p0 k65 FU x2 x3 x4 (0 : Int32) M2)
    else (
      gd (inb (((10 : Int32) + ((3 : Int32) * x3)) + x5) 52) <|
      bd (sA M 136 (upd (mA M 136) (((10 : Int32) + ((3 : Int32) * x3)) + x5).toNatClampNeg ((x4 >>> ((((2 : Int32) * x5) + (3 : Int32)) &&& 31)) &&& (3 : Int32)))) fun M3 =>
      bd (x5 + Int32.ofInt 1) fun v6 =>
      f_LW_draw_l144 p0 k65 n x2 x3 x4 v6 M3)
set_option maxHeartbeats 1000000 in
def f_LW_draw_l112 (p0 : Nat × (Nat → Int32)) (k65 : Int32 → Int32 → kx_M → Option (Unit × kx_M)) (x2 : Int32) (x3 : Int32) (x4 : Int32) (M : kx_M) : Option (Unit × kx_M) :=
  gd (inb (0 : Int32) 52) <|
  if (3 : Int32) ≤ (mA M 136 (0 : Int32).toNatClampNeg) then (
    gd (inb ((7 : Int32) + x3) 52) <|
    bd (sA M 136 (upd (mA M 136) ((7 : Int32) + x3).toNatClampNeg ((1 : Int32) + (((x4 >>> ((2 : Int32) &&& 31)) &&& (3 : Int32)) - ((x4 >>> ((2 : Int32) &&& 31)) &&& (3 : Int32)) / (3 : Int32) * (3 : Int32))))) fun M1 =>
    f_LW_draw_l144 p0 k65 FU x2 x3 x4 (0 : Int32) M1)
  else (
    gd (inb (0 : Int32) 52) <|
    gd (nz (mA M 136 (0 : Int32).toNatClampNeg)) <|
    gd (inb ((7 : Int32) + x3) 52) <|
    bd (sA M 136 (upd (mA M 136) ((7 : Int32) + x3).toNatClampNeg ((1 : Int32) + (((x4 >>> ((2 : Int32) &&& 31)) &&& (3 : Int32)) - ((x4 >>> ((2 : Int32) &&& 31)) &&& (3 : Int32)) / (mA M 136 (0 : Int32).toNatClampNeg) * (mA M 136 (0 : Int32).toNatClampNeg))))) fun M2 =>
    f_LW_draw_l144 p0 k65 FU x2 x3 x4 (0 : Int32) M2)
set_option maxHeartbeats 1000000 in
def f_LW_draw_l93 (p0 : Nat × (Nat → Int32)) (k65 : Int32 → Int32 → kx_M → Option (Unit × kx_M)) (x2 : Int32) (x3 : Int32) (s0 : Int32) (M : kx_M) : Option (Unit × kx_M) :=
  if (2 : Int32) ≤ x3 then (
    f_LW_draw_l112 p0 k65 x2 x3 s0 M)
  else (
    gd (inb ((5 : Int32) + x3) 52) <|
    bd (sA M 136 (upd (mA M 136) ((5 : Int32) + x3).toNatClampNeg ((s0 >>> ((1 : Int32) &&& 31)) &&& (127 : Int32)))) fun M1 =>
    f_LW_draw_l112 p0 k65 x2 x3 s0 M1)
set_option maxHeartbeats 1000000 in
def f_LW_draw_l65 (p0 : Nat × (Nat → Int32)) : Nat → Int32 → Int32 → kx_M → Option (Unit × kx_M)
  | 0, _, _, _ => none
  | n + 1, x2, x3, M =>
    if (3 : Int32) ≤ x3 then (
      f_LW_draw_l261 p0 FU x2 (1 : Int32) M)
    else (
      if (Int32.ofNat p0.1) ≤ (x3 + (1 : Int32)) then (
        f_LW_draw_l93 p0 (f_LW_draw_l65 p0 n) x2 x3 (((2081 : Int32) * x3) + x2) M)
      else (
        gd (inb (x3 + (1 : Int32)) p0.1) <|
        f_LW_draw_l93 p0 (f_LW_draw_l65 p0 n) x2 x3 (p0.2 (x3 + (1 : Int32)).toNatClampNeg) M))
set_option maxHeartbeats 1000000 in
def f_LW_draw_l14 (p0 : Nat × (Nat → Int32)) (s0 : Int32) (M : kx_M) : Option (Unit × kx_M) :=
  gd (inb (0 : Int32) 52) <|
  bd (sA M 136 (upd (mA M 136) (0 : Int32).toNatClampNeg ((1 : Int32) + ((s0 &&& (7 : Int32)) - (s0 &&& (7 : Int32)) / (5 : Int32) * (5 : Int32))))) fun M1 =>
  gd (inb (1 : Int32) 52) <|
  bd (sA M1 136 (upd (mA M1 136) (1 : Int32).toNatClampNeg ((1 : Int32) + ((s0 >>> ((2 : Int32) &&& 31)) &&& (31 : Int32))))) fun M2 =>
  gd (inb (2 : Int32) 52) <|
  bd (sA M2 136 (upd (mA M2 136) (2 : Int32).toNatClampNeg ((1 : Int32) + ((s0 >>> ((3 : Int32) &&& 31)) &&& (1 : Int32))))) fun M3 =>
  gd (inb (3 : Int32) 52) <|
  bd (sA M3 136 (upd (mA M3 136) (3 : Int32).toNatClampNeg ((s0 >>> ((5 : Int32) &&& 31)) &&& (3 : Int32)))) fun M4 =>
  gd (inb (4 : Int32) 52) <|
  bd (sA M4 136 (upd (mA M4 136) (4 : Int32).toNatClampNeg ((s0 >>> ((4 : Int32) &&& 31)) &&& (3 : Int32)))) fun M5 =>
  f_LW_draw_l65 p0 FU s0 (0 : Int32) M5
set_option maxHeartbeats 1000000 in
def f_LW_draw (p0 : Nat × (Nat → Int32)) (M : kx_M) : Option (Unit × kx_M) :=
  if (Int32.ofNat p0.1) = 0 then (
    f_LW_draw_l14 p0 (7919 : Int32) M)
  else (
    gd (inb (0 : Int32) p0.1) <|
    f_LW_draw_l14 p0 (p0.2 (0 : Int32).toNatClampNeg) M)
set_option maxHeartbeats 1000000 in
def f_LW_size_l4 (p0 : Int32) : Nat → Int32 → Int32 → kx_M → Option (Int32 × kx_M)
  | 0, _, _, _ => none
  | n + 1, x1, x2, M =>
    if (16 : Int32) ≤ x2 then (
      some (x1, M))
    else (
      bd (x1 + ((p0 >>> (x2 &&& 31)) &&& (1 : Int32))) fun v1 =>
      bd (x2 + Int32.ofInt 1) fun v2 =>
      f_LW_size_l4 p0 n v1 v2 M)
set_option maxHeartbeats 1000000 in
def f_LW_size (p0 : Int32) (M : kx_M) : Option (Int32 × kx_M) :=
  f_LW_size_l4 p0 FU (0 : Int32) (0 : Int32) M
set_option maxHeartbeats 1000000 in
def f_LW_law_l1541 (p0 : Nat × (Nat → Int32)) (k84 : Int32 → Int32 → Int32 → kx_M → Option (Int32 × kx_M)) (x4 : Int32) (x5 : Int32) (x6 : Int32) (x7 : Int32) (x8 : Int32) (M : kx_M) : Option (Int32 × kx_M) :=
  if x8 = 0 then (
    bd (x6 + Int32.ofInt 1) fun v1 =>
    k84 x4 x5 v1 M)
  else (
    if ((x7 >>> ((4 : Int32) &&& 31)) &&& (1 : Int32)) = 0 then (
      gd (nz x8) <|
      gd (inb (0 : Int32) 52) <|
      gd (nz (mA M 136 (0 : Int32).toNatClampNeg)) <|
      cal (f_KT_moth (((x7 >>> ((5 : Int32) &&& 31)) &&& (3 : Int32)) - ((x7 >>> ((5 : Int32) &&& 31)) &&& (3 : Int32)) / x8 * x8) (((x7 >>> ((6 : Int32) &&& 31)) &&& (7 : Int32)) - ((x7 >>> ((6 : Int32) &&& 31)) &&& (7 : Int32)) / (mA M 136 (0 : Int32).toNatClampNeg) * (mA M 136 (0 : Int32).toNatClampNeg)) M) fun r5 M1 =>
      bd (x6 + Int32.ofInt 1) fun v7 =>
      k84 x4 x5 v7 M1)
    else (
      gd (nz x8) <|
      gd (inb (0 : Int32) 52) <|
      gd (nz (mA M 136 (0 : Int32).toNatClampNeg)) <|
      cal (f_KT_darn (((x7 >>> ((5 : Int32) &&& 31)) &&& (3 : Int32)) - ((x7 >>> ((5 : Int32) &&& 31)) &&& (3 : Int32)) / x8 * x8) (((x7 >>> ((6 : Int32) &&& 31)) &&& (7 : Int32)) - ((x7 >>> ((6 : Int32) &&& 31)) &&& (7 : Int32)) / (mA M 136 (0 : Int32).toNatClampNeg) * (mA M 136 (0 : Int32).toNatClampNeg)) M) fun r11 M2 =>
      bd (x6 + Int32.ofInt 1) fun v13 =>
      k84 x4 x5 v13 M2))
set_option maxHeartbeats 1000000 in
def f_LW_law_l1524 (p0 : Nat × (Nat → Int32)) (k1541 : Int32 → Int32 → Int32 → Int32 → Int32 → kx_M → Option (Int32 × kx_M)) (x4 : Int32) (x5 : Int32) (x6 : Int32) (x7 : Int32) (x8 : Int32) (x12 : Int32) (x14 : Int32) (s0 : Int32) (M : kx_M) : Option (Int32 × kx_M) :=
  if x12 < x14 then (
    if s0 = (0 : Int32) then (
      k1541 x4 x5 x6 x7 x8 M)
    else (
      some ((0 : Int32), M)))
  else (
    if s0 = (1 : Int32) then (
      k1541 x4 x5 x6 x7 x8 M)
    else (
      some ((0 : Int32), M)))
set_option maxHeartbeats 1000000 in
def f_LW_law_l1471 (p0 : Nat × (Nat → Int32)) (k84 : Int32 → Int32 → Int32 → kx_M → Option (Int32 × kx_M)) (x4 : Int32) (x5 : Int32) (x6 : Int32) (x7 : Int32) (x8 : Int32) (x9 : Int32) (x12 : Int32) (x13 : Int32) (s0 : Int32) (M : kx_M) : Option (Int32 × kx_M) :=
  cal (f_KT_year x12 M) fun r1 M1 =>
  if r1 = (x13 - x9) then (
    cal (f_KT_many (6 : Int32) M1) fun r3 M2 =>
    if r3 = x13 then (
      gd (inb (3 : Int32) 52) <|
      if (mA M2 136 (3 : Int32).toNatClampNeg) ≤ 0 then (
        f_LW_law_l1541 p0 k84 x4 x5 x6 x7 x8 M2)
      else (
        if s0 < 0 then (
          f_LW_law_l1541 p0 k84 x4 x5 x6 x7 x8 M2)
        else (
          cal (f_KT_said (0 : Int32) M2) fun r6 M3 =>
          if r6 = 0 then (
            f_LW_law_l1524 p0 (f_LW_law_l1541 p0 k84) x4 x5 x6 x7 x8 x12 s0 (1 : Int32) M3)
          else (
            f_LW_law_l1524 p0 (f_LW_law_l1541 p0 k84) x4 x5 x6 x7 x8 x12 s0 (0 : Int32) M3))))
    else (
      some ((0 : Int32), M2)))
  else (
    some ((0 : Int32), M1))
set_option maxHeartbeats 1000000 in
def f_LW_law_l1439 (p0 : Nat × (Nat → Int32)) (k84 : Int32 → Int32 → Int32 → kx_M → Option (Int32 × kx_M)) (x4 : Int32) (x5 : Int32) (x6 : Int32) (x7 : Int32) (x8 : Int32) (x9 : Int32) (M : kx_M) : Option (Int32 × kx_M) :=
  bd ((1 : Int32) + (x7 &&& (7 : Int32))) fun v1 =>
  cal (f_KT_undoneIn v1 M) fun r2 M1 =>
  gd (inb (3 : Int32) 52) <|
  if (mA M1 136 (3 : Int32).toNatClampNeg) = 0 then (
    f_LW_law_l1471 p0 k84 x4 x5 x6 x7 x8 x9 v1 r2 ((-1) : Int32) M1)
  else (
    cal (f_KT_lost (0 : Int32) M1) fun r5 M2 =>
    f_LW_law_l1471 p0 k84 x4 x5 x6 x7 x8 x9 v1 r2 r5 M2)
set_option maxHeartbeats 1000000 in
def f_LW_law_l1361 (p0 : Nat × (Nat → Int32)) (k1439 : Int32 → Int32 → Int32 → Int32 → Int32 → Int32 → kx_M → Option (Int32 × kx_M)) : Nat → Int32 → Int32 → Int32 → Int32 → Int32 → Int32 → Int32 → kx_M → Option (Int32 × kx_M)
  | 0, _, _, _, _, _, _, _, _ => none
  | n + 1, x4, x5, x6, x7, x8, x9, x15, M =>
    gd (inb (0 : Int32) 52) <|
    if (mA M 136 (0 : Int32).toNatClampNeg) ≤ x15 then (
      cal (f_KT_back M) fun r2 M1 =>
      if r2 = 0 then (
        cal (f_KT_many (6 : Int32) M1) fun r4 M2 =>
        if r4 = x9 then (
          k1439 x4 x5 x6 x7 x8 x9 M2)
        else (
          some ((0 : Int32), M2)))
      else (
        some ((0 : Int32), M1)))
    else (
      cal (f_KT_stitch (x8 - (1 : Int32)) x15 (1 : Int32) M) fun r6 M3 =>
      if r6 = 0 then (
        cal (f_KT_stitch (x8 - (1 : Int32)) x15 (2 : Int32) M3) fun r8 M4 =>
        if r8 = 0 then (
          cal (f_KT_stitch (x8 - (1 : Int32)) x15 (3 : Int32) M4) fun r10 M5 =>
          if r10 = 0 then (
            bd (x15 + Int32.ofInt 1) fun v12 =>
            f_LW_law_l1361 p0 k1439 n x4 x5 x6 x7 x8 x9 v12 M5)
          else (
            some ((0 : Int32), M5)))
        else (
          some ((0 : Int32), M4)))
      else (
        some ((0 : Int32), M3)))
set_option maxHeartbeats 1000000 in
def f_LW_law_l1239 (p0 : Nat × (Nat → Int32)) (k1439 : Int32 → Int32 → Int32 → Int32 → Int32 → Int32 → kx_M → Option (Int32 × kx_M)) : Nat → Int32 → Int32 → Int32 → Int32 → Int32 → Int32 → Int32 → Int32 → kx_M → Option (Int32 × kx_M)
  | 0, _, _, _, _, _, _, _, _, _ => none
  | n + 1, x4, x5, x6, x7, x8, x9, x12, x13, M =>
    gd (inb (0 : Int32) 52) <|
    if (mA M 136 (0 : Int32).toNatClampNeg) ≤ x13 then (
      cal (f_KT_needs (1 : Int32) M) fun r2 M1 =>
      cal (f_KT_wool x12 M1) fun r4 M2 =>
      cal (f_KT_unravel M2) fun r6 M3 =>
      if r6 = (x8 - (1 : Int32)) then (
        cal (f_KT_wool x12 M3) fun r8 M4 =>
        if r8 < r4 then (
          some ((0 : Int32), M4))
        else (
          cal (f_KT_wool x12 M4) fun r10 M5 =>
          if r10 ≤ (r4 + r2) then (
            cal (f_KT_shear x12 ((1 : Int32) + r2) M5) fun r12 M6 =>
            if r12 < (1 : Int32) then (
              some ((0 : Int32), M6))
            else (
              cal (f_KT_knit x12 (1 : Int32) M6) fun r14 M7 =>
              if r14 = x8 then (
                f_LW_law_l1361 p0 k1439 FU x4 x5 x6 x7 x8 x9 (0 : Int32) M7)
              else (
                some ((0 : Int32), M7))))
          else (
            some ((0 : Int32), M5))))
      else (
        some ((0 : Int32), M3)))
    else (
      cal (f_KT_stitch (x8 - (1 : Int32)) x13 (0 : Int32) M) fun r16 M8 =>
      cal (f_KT_write (1 : Int32) x13 (r16.toInt64) M8) fun r18 M9 =>
      if r18 = 0 then (
        some ((0 : Int32), M9))
      else (
        bd (x13 + Int32.ofInt 1) fun v20 =>
        f_LW_law_l1239 p0 k1439 n x4 x5 x6 x7 x8 x9 x12 v20 M9))
set_option maxHeartbeats 1000000 in
def f_LW_law_l1183 (p0 : Nat × (Nat → Int32)) (k892 : Int32 → Int32 → Int32 → Int32 → Int32 → Int32 → Int32 → Int32 → kx_M → Option (Int32 × kx_M)) (x4 : Int32) (x5 : Int32) (x6 : Int32) (x7 : Int32) (x8 : Int32) (x9 : Int32) (x10 : Int32) (x12 : Int32) (x18 : Int32) (s0 : Int32) (s1 : Int32) (M : kx_M) : Option (Int32 × kx_M) :=
  if s0 = s1 then (
    if x18 < 0 then (
      bd (x12 + Int32.ofInt 1) fun v1 =>
      k892 x4 x5 x6 x7 x8 x9 x10 v1 M)
    else (
      cal (f_KT_read (1 : Int32) x18 M) fun r2 M1 =>
      if (lg_cmp r2 (0 : Int64)) < 0 then (
        bd (x12 + Int32.ofInt 1) fun v4 =>
        k892 x4 x5 x6 x7 x8 x9 x10 v4 M1)
      else (
        some ((0 : Int32), M1))))
  else (
    some ((0 : Int32), M))
set_option maxHeartbeats 1000000 in
def f_LW_law_l1172 (p0 : Nat × (Nat → Int32)) (k892 : Int32 → Int32 → Int32 → Int32 → Int32 → Int32 → Int32 → Int32 → kx_M → Option (Int32 × kx_M)) (x4 : Int32) (x5 : Int32) (x6 : Int32) (x7 : Int32) (x8 : Int32) (x9 : Int32) (x10 : Int32) (x12 : Int32) (x13 : Int32) (x18 : Int32) (s0 : Int32) (M : kx_M) : Option (Int32 × kx_M) :=
  if x13 ≤ (1 : Int32) then (
    f_LW_law_l1183 p0 k892 x4 x5 x6 x7 x8 x9 x10 x12 x18 s0 (0 : Int32) M)
  else (
    f_LW_law_l1183 p0 k892 x4 x5 x6 x7 x8 x9 x10 x12 x18 s0 (1 : Int32) M)
set_option maxHeartbeats 1000000 in
def f_LW_law_l1073 (p0 : Nat × (Nat → Int32)) (k1048 : Int32 → Int32 → Int32 → Int32 → Int32 → Int32 → Int32 → Int32 → Int32 → Int32 → Int64 → Int32 → Int32 → kx_M → Option (Int32 × kx_M)) (x4 : Int32) (x5 : Int32) (x6 : Int32) (x7 : Int32) (x8 : Int32) (x9 : Int32) (x10 : Int32) (x12 : Int32) (x13 : Int32) (x14 : Int32) (x15 : Int64) (x17 : Int32) (x18 : Int32) (M : kx_M) : Option (Int32 × kx_M) :=
  cal (f_KT_write (1 : Int32) x14 (x18.toInt64) M) fun r1 M1 =>
  if r1 = 0 then (
    some ((0 : Int32), M1))
  else (
    cal (f_KT_fills x12 (1 : Int32) M1) fun r3 M2 =>
    bd (x17 + r3) fun v5 =>
    cal (f_KT_fills x12 (1 : Int32) M2) fun r6 M3 =>
    if r6 ≤ 0 then (
      bd (x18 + Int32.ofInt 1) fun v8 =>
      k1048 x4 x5 x6 x7 x8 x9 x10 x12 x13 x14 x15 v5 v8 M3)
    else (
      cal (f_KT_sure x12 (1 : Int32) x14 M3) fun r9 M4 =>
      if r9 = x18 then (
        bd (x18 + Int32.ofInt 1) fun v11 =>
        k1048 x4 x5 x6 x7 x8 x9 x10 x12 x13 x14 x15 v5 v11 M4)
      else (
        some ((0 : Int32), M4))))
set_option maxHeartbeats 1000000 in
def f_LW_law_l1048 (p0 : Nat × (Nat → Int32)) (k892 : Int32 → Int32 → Int32 → Int32 → Int32 → Int32 → Int32 → Int32 → kx_M → Option (Int32 × kx_M)) : Nat → Int32 → Int32 → Int32 → Int32 → Int32 → Int32 → Int32 → Int32 → Int32 → Int32 → Int64 → Int32 → Int32 → kx_M → Option (Int32 × kx_M)
  | 0, _, _, _, _, _, _, _, _, _, _, _, _, _, _ => none
  | n + 1, x4, x5, x6, x7, x8, x9, x10, x12, x13, x14, x15, x17, x18, M =>
    if (4 : Int32) ≤ x18 then (
      if x17 = x13 then (
        cal (f_KT_write (1 : Int32) x14 x15 M) fun r1 M1 =>
        if r1 = 0 then (
          some ((0 : Int32), M1))
        else (
          cal (f_KT_look x12 (1 : Int32) M1) fun r3 M2 =>
          if r3 < 0 then (
            f_LW_law_l1172 p0 k892 x4 x5 x6 x7 x8 x9 x10 x12 x13 r3 (0 : Int32) M2)
          else (
            f_LW_law_l1172 p0 k892 x4 x5 x6 x7 x8 x9 x10 x12 x13 r3 (1 : Int32) M2)))
      else (
        some ((0 : Int32), M)))
    else (
      if (lg_cmp x15 (0 : Int64)) < 0 then (
        f_LW_law_l1073 p0 (f_LW_law_l1048 p0 k892 n) x4 x5 x6 x7 x8 x9 x10 x12 x13 x14 x15 x17 x18 M)
      else (
        if (lg_cmp x15 (x18.toInt64)) = 0 then (
          f_LW_law_l1073 p0 (f_LW_law_l1048 p0 k892 n) x4 x5 x6 x7 x8 x9 x10 x12 x13 x14 x15 x17 x18 M)
        else (
          bd (x18 + Int32.ofInt 1) fun v5 =>
          f_LW_law_l1048 p0 k892 n x4 x5 x6 x7 x8 x9 x10 x12 x13 x14 x15 x17 v5 M)))
set_option maxHeartbeats 1000000 in
def f_LW_law_l958 (p0 : Nat × (Nat → Int32)) (k892 : Int32 → Int32 → Int32 → Int32 → Int32 → Int32 → Int32 → Int32 → kx_M → Option (Int32 × kx_M)) : Nat → Int32 → Int32 → Int32 → Int32 → Int32 → Int32 → Int32 → Int32 → Int32 → kx_M → Option (Int32 × kx_M)
  | 0, _, _, _, _, _, _, _, _, _, _ => none
  | n + 1, x4, x5, x6, x7, x8, x9, x10, x12, x13, M =>
    gd (inb (0 : Int32) 52) <|
    if (mA M 136 (0 : Int32).toNatClampNeg) ≤ x13 then (
      cal (f_KT_fills x12 (1 : Int32) M) fun r2 M1 =>
      gd (inb (0 : Int32) 52) <|
      gd (nz (mA M1 136 (0 : Int32).toNatClampNeg)) <|
      bd (((x7 >>> ((3 : Int32) &&& 31)) &&& (7 : Int32)) - ((x7 >>> ((3 : Int32) &&& 31)) &&& (7 : Int32)) / (mA M1 136 (0 : Int32).toNatClampNeg) * (mA M1 136 (0 : Int32).toNatClampNeg)) fun v6 =>
      cal (f_KT_read (1 : Int32) v6 M1) fun r7 M2 =>
      f_LW_law_l1048 p0 k892 FU x4 x5 x6 x7 x8 x9 x10 x12 r2 v6 r7 (0 : Int32) (0 : Int32) M2)
    else (
      if ((x7 >>> (x13 &&& 31)) &&& (3 : Int32)) = (2 : Int32) then (
        cal (f_KT_write (1 : Int32) x13 (((x7 >>> ((x13 + (2 : Int32)) &&& 31)) &&& (3 : Int32)).toInt64) M) fun r9 M3 =>
        if r9 = 0 then (
          some ((0 : Int32), M3))
        else (
          bd (x13 + Int32.ofInt 1) fun v11 =>
          f_LW_law_l958 p0 k892 n x4 x5 x6 x7 x8 x9 x10 x12 v11 M3))
      else (
        cal (f_KT_write (1 : Int32) x13 ((-1) : Int64) M) fun r12 M4 =>
        if r12 = 0 then (
          some ((0 : Int32), M4))
        else (
          bd (x13 + Int32.ofInt 1) fun v14 =>
          f_LW_law_l958 p0 k892 n x4 x5 x6 x7 x8 x9 x10 x12 v14 M4)))
set_option maxHeartbeats 1000000 in
def f_LW_law_l903 (p0 : Nat × (Nat → Int32)) (k892 : Int32 → Int32 → Int32 → Int32 → Int32 → Int32 → Int32 → Int32 → kx_M → Option (Int32 × kx_M)) : Nat → Int32 → Int32 → Int32 → Int32 → Int32 → Int32 → Int32 → Int32 → Int32 → kx_M → Option (Int32 × kx_M)
  | 0, _, _, _, _, _, _, _, _, _, _ => none
  | n + 1, x4, x5, x6, x7, x8, x9, x10, x12, x13, M =>
    gd (inb (3 : Int32) 52) <|
    if (mA M 136 (3 : Int32).toNatClampNeg) ≤ x13 then (
      f_LW_law_l958 p0 k892 FU x4 x5 x6 x7 x8 x9 x10 x12 (0 : Int32) M)
    else (
      if x13 = x12 then (
        bd (x13 + Int32.ofInt 1) fun v2 =>
        f_LW_law_l903 p0 k892 n x4 x5 x6 x7 x8 x9 x10 x12 v2 M)
      else (
        cal (f_KT_clash x12 x13 M) fun r3 M1 =>
        if r3 = (1 : Int32) then (
          if (((x10 >>> (x12 &&& 31)) &&& (x10 >>> (x13 &&& 31))) &&& (1 : Int32)) = (1 : Int32) then (
            some ((0 : Int32), M1))
          else (
            bd (x13 + Int32.ofInt 1) fun v5 =>
            f_LW_law_l903 p0 k892 n x4 x5 x6 x7 x8 x9 x10 x12 v5 M1))
        else (
          bd (x13 + Int32.ofInt 1) fun v6 =>
          f_LW_law_l903 p0 k892 n x4 x5 x6 x7 x8 x9 x10 x12 v6 M1)))
set_option maxHeartbeats 1000000 in
def f_LW_law_l892 (p0 : Nat × (Nat → Int32)) (k84 : Int32 → Int32 → Int32 → kx_M → Option (Int32 × kx_M)) : Nat → Int32 → Int32 → Int32 → Int32 → Int32 → Int32 → Int32 → Int32 → kx_M → Option (Int32 × kx_M)
  | 0, _, _, _, _, _, _, _, _, _ => none
  | n + 1, x4, x5, x6, x7, x8, x9, x10, x12, M =>
    gd (inb (3 : Int32) 52) <|
    if (mA M 136 (3 : Int32).toNatClampNeg) ≤ x12 then (
      if x8 ≤ 0 then (
        f_LW_law_l1439 p0 k84 x4 x5 x6 x7 x8 x9 M)
      else (
        cal (f_KT_queenOf (x8 - (1 : Int32)) M) fun r2 M1 =>
        cal (f_KT_mark M1) fun r4 M2 =>
        if r4 = (1 : Int32) then (
          f_LW_law_l1239 p0 (f_LW_law_l1439 p0 k84) FU x4 x5 x6 x7 x8 x9 r2 (0 : Int32) M2)
        else (
          some ((0 : Int32), M2))))
    else (
      f_LW_law_l903 p0 (f_LW_law_l892 p0 k84 n) FU x4 x5 x6 x7 x8 x9 x10 x12 (0 : Int32) M)
set_option maxHeartbeats 1000000 in
def f_LW_law_l812 (p0 : Nat × (Nat → Int32)) (k84 : Int32 → Int32 → Int32 → kx_M → Option (Int32 × kx_M)) : Nat → Int32 → Int32 → Int32 → Int32 → Int32 → Int32 → Int32 → Int32 → Int32 → kx_M → Option (Int32 × kx_M)
  | 0, _, _, _, _, _, _, _, _, _, _ => none
  | n + 1, x4, x5, x6, x7, x8, x9, x10, x11, x12, M =>
    gd (inb (2 : Int32) 52) <|
    if (mA M 136 (2 : Int32).toNatClampNeg) ≤ x12 then (
      cal (f_KT_bargainWorth M) fun r2 M1 =>
      if x11 = r2 then (
        cal (f_KT_stables M1) fun r4 M2 =>
        if r4 < (1 : Int32) then (
          some ((0 : Int32), M2))
        else (
          cal (f_KT_stables M2) fun r6 M3 =>
          if x5 < r6 then (
            some ((0 : Int32), M3))
          else (
            cal (f_KT_stable (0 : Int32) M3) fun r8 M4 =>
            if r8 = (1 : Int32) then (
              f_LW_law_l892 p0 k84 FU x4 x5 x6 x7 x8 x9 x10 (0 : Int32) M4)
            else (
              some ((0 : Int32), M4)))))
      else (
        some ((0 : Int32), M1)))
    else (
      cal (f_KT_wins x12 x10 M) fun r10 M5 =>
      if 0 ≤ r10 then (
        cal (f_KT_wins x12 x10 M5) fun r12 M6 =>
        bd (x11 + r12) fun v14 =>
        bd (x12 + Int32.ofInt 1) fun v15 =>
        f_LW_law_l812 p0 k84 n x4 x5 x6 x7 x8 x9 x10 v14 v15 M6)
      else (
        some ((0 : Int32), M5)))
set_option maxHeartbeats 1000000 in
def f_LW_law_l724 (p0 : Nat × (Nat → Int32)) (k699 : Int32 → Int32 → Int32 → Int32 → Int32 → Int32 → Int32 → Int32 → Int32 → Int32 → Int32 → kx_M → Option (Int32 × kx_M)) : Nat → Int32 → Int32 → Int32 → Int32 → Int32 → Int32 → Int32 → Int32 → Int32 → Int32 → Int32 → Int32 → kx_M → Option (Int32 × kx_M)
  | 0, _, _, _, _, _, _, _, _, _, _, _, _, _ => none
  | n + 1, x4, x5, x6, x7, x8, x9, x10, x11, x13, x14, x15, x16, M =>
    cal (f_KT_length x13 M) fun r1 M1 =>
    if r1 ≤ x16 then (
      bd (x15 + Int32.ofInt 1) fun v3 =>
      k699 x4 x5 x6 x7 x8 x9 x10 x11 x13 x14 v3 M1)
    else (
      if x14 = 0 then (
        bd (x16 + Int32.ofInt 1) fun v4 =>
        f_LW_law_l724 p0 k699 n x4 x5 x6 x7 x8 x9 x10 x11 x13 (0 : Int32) x15 v4 M1)
      else (
        cal (f_KT_shortestAt x10 (x15 + x16) M1) fun r5 M2 =>
        cal (f_KT_kind x13 x16 M2) fun r7 M3 =>
        if r5 = r7 then (
          bd (x16 + Int32.ofInt 1) fun v9 =>
          f_LW_law_l724 p0 k699 n x4 x5 x6 x7 x8 x9 x10 x11 x13 (1 : Int32) x15 v9 M3)
        else (
          bd (x16 + Int32.ofInt 1) fun v10 =>
          f_LW_law_l724 p0 k699 n x4 x5 x6 x7 x8 x9 x10 x11 x13 (0 : Int32) x15 v10 M3)))
set_option maxHeartbeats 1000000 in
def f_LW_law_l699 (p0 : Nat × (Nat → Int32)) (k672 : Int32 → Int32 → Int32 → Int32 → Int32 → Int32 → Int32 → Int32 → Int32 → kx_M → Option (Int32 × kx_M)) : Nat → Int32 → Int32 → Int32 → Int32 → Int32 → Int32 → Int32 → Int32 → Int32 → Int32 → Int32 → kx_M → Option (Int32 × kx_M)
  | 0, _, _, _, _, _, _, _, _, _, _, _, _ => none
  | n + 1, x4, x5, x6, x7, x8, x9, x10, x11, x13, x14, x15, M =>
    cal (f_KT_length x13 M) fun r1 M1 =>
    if x11 < (x15 + r1) then (
      if x14 = 0 then (
        some ((0 : Int32), M1))
      else (
        bd (x13 + Int32.ofInt 1) fun v3 =>
        k672 x4 x5 x6 x7 x8 x9 x10 x11 v3 M1))
    else (
      if x14 = 0 then (
        f_LW_law_l724 p0 (f_LW_law_l699 p0 k672 n) FU x4 x5 x6 x7 x8 x9 x10 x11 x13 (1 : Int32) x15 (0 : Int32) M1)
      else (
        if x14 = 0 then (
          some ((0 : Int32), M1))
        else (
          bd (x13 + Int32.ofInt 1) fun v4 =>
          k672 x4 x5 x6 x7 x8 x9 x10 x11 v4 M1)))
set_option maxHeartbeats 1000000 in
def f_LW_law_l672 (p0 : Nat × (Nat → Int32)) (k588 : Int32 → Int32 → Int32 → Int32 → Int32 → Int32 → Int32 → kx_M → Option (Int32 × kx_M)) : Nat → Int32 → Int32 → Int32 → Int32 → Int32 → Int32 → Int32 → Int32 → Int32 → kx_M → Option (Int32 × kx_M)
  | 0, _, _, _, _, _, _, _, _, _, _ => none
  | n + 1, x4, x5, x6, x7, x8, x9, x10, x11, x13, M =>
    gd (inb (3 : Int32) 52) <|
    if (mA M 136 (3 : Int32).toNatClampNeg) ≤ x13 then (
      bd (x10 + Int32.ofInt 1) fun v2 =>
      k588 x4 x5 x6 x7 x8 x9 v2 M)
    else (
      if ((x10 >>> (x13 &&& 31)) &&& (1 : Int32)) = 0 then (
        bd (x13 + Int32.ofInt 1) fun v3 =>
        f_LW_law_l672 p0 k588 n x4 x5 x6 x7 x8 x9 x10 x11 v3 M)
      else (
        f_LW_law_l699 p0 (f_LW_law_l672 p0 k588 n) FU x4 x5 x6 x7 x8 x9 x10 x11 x13 (0 : Int32) (0 : Int32) M))
set_option maxHeartbeats 1000000 in
def f_LW_law_l609 (p0 : Nat × (Nat → Int32)) (k588 : Int32 → Int32 → Int32 → Int32 → Int32 → Int32 → Int32 → kx_M → Option (Int32 × kx_M)) : Nat → Int32 → Int32 → Int32 → Int32 → Int32 → Int32 → Int32 → Int32 → Int32 → Int32 → kx_M → Option (Int32 × kx_M)
  | 0, _, _, _, _, _, _, _, _, _, _, _ => none
  | n + 1, x4, x5, x6, x7, x8, x9, x10, x11, x12, x13, M =>
    gd (inb (3 : Int32) 52) <|
    if (mA M 136 (3 : Int32).toNatClampNeg) ≤ x13 then (
      if x11 < 0 then (
        some ((0 : Int32), M))
      else (
        if x12 < x11 then (
          some ((0 : Int32), M))
        else (
          if x10 ≤ 0 then (
            f_LW_law_l672 p0 k588 FU x4 x5 x6 x7 x8 x9 x10 x11 (0 : Int32) M)
          else (
            if x11 = 0 then (
              some ((0 : Int32), M))
            else (
              f_LW_law_l672 p0 k588 FU x4 x5 x6 x7 x8 x9 x10 x11 (0 : Int32) M)))))
    else (
      if ((x10 >>> (x13 &&& 31)) &&& (1 : Int32)) = (1 : Int32) then (
        cal (f_KT_length x13 M) fun r2 M1 =>
        bd (x12 + r2) fun v4 =>
        bd (x13 + Int32.ofInt 1) fun v5 =>
        f_LW_law_l609 p0 k588 n x4 x5 x6 x7 x8 x9 x10 x11 v4 v5 M1)
      else (
        bd (x13 + Int32.ofInt 1) fun v6 =>
        f_LW_law_l609 p0 k588 n x4 x5 x6 x7 x8 x9 x10 x11 x12 v6 M))
set_option maxHeartbeats 1000000 in
def f_LW_law_l588 (p0 : Nat × (Nat → Int32)) (k84 : Int32 → Int32 → Int32 → kx_M → Option (Int32 × kx_M)) : Nat → Int32 → Int32 → Int32 → Int32 → Int32 → Int32 → Int32 → kx_M → Option (Int32 × kx_M)
  | 0, _, _, _, _, _, _, _, _ => none
  | n + 1, x4, x5, x6, x7, x8, x9, x10, M =>
    if x5 ≤ x10 then (
      cal (f_KT_bargain M) fun r1 M1 =>
      f_LW_law_l812 p0 k84 FU x4 x5 x6 x7 x8 x9 r1 (0 : Int32) (0 : Int32) M1)
    else (
      cal (f_KT_shortest x10 M) fun r3 M2 =>
      f_LW_law_l609 p0 (f_LW_law_l588 p0 k84 n) FU x4 x5 x6 x7 x8 x9 x10 r3 (0 : Int32) (0 : Int32) M2)
set_option maxHeartbeats 1000000 in
def f_LW_law_l529 (p0 : Nat × (Nat → Int32)) (k408 : Int32 → Int32 → Int32 → Int32 → Int32 → Int32 → Int32 → Int32 → Int32 → Int32 → Int32 → kx_M → Option (Int32 × kx_M)) (x4 : Int32) (x5 : Int32) (x6 : Int32) (x7 : Int32) (x8 : Int32) (x9 : Int32) (x10 : Int32) (x11 : Int32) (x15 : Int32) (x16 : Int32) (x17 : Int32) (s0 : Int32) (s1 : Int32) (M : kx_M) : Option (Int32 × kx_M) :=
  if s0 = s1 then (
    cal (f_KT_back M) fun r1 M1 =>
    if r1 = 0 then (
      bd (x17 + Int32.ofInt 1) fun v3 =>
      k408 x4 x5 x6 x7 x8 x9 x10 x11 x15 x16 v3 M1)
    else (
      some ((0 : Int32), M1)))
  else (
    some ((0 : Int32), M))
set_option maxHeartbeats 1000000 in
def f_LW_law_l447 (p0 : Nat × (Nat → Int32)) (k408 : Int32 → Int32 → Int32 → Int32 → Int32 → Int32 → Int32 → Int32 → Int32 → Int32 → Int32 → kx_M → Option (Int32 × kx_M)) : Nat → Int32 → Int32 → Int32 → Int32 → Int32 → Int32 → Int32 → Int32 → Int32 → Int32 → Int32 → Int32 → kx_M → Option (Int32 × kx_M)
  | 0, _, _, _, _, _, _, _, _, _, _, _, _, _ => none
  | n + 1, x4, x5, x6, x7, x8, x9, x10, x11, x15, x16, x17, x18, M =>
    gd (inb (0 : Int32) 52) <|
    if (mA M 136 (0 : Int32).toNatClampNeg) ≤ x18 then (
      cal (f_KT_pull x10 x11 M) fun r2 M1 =>
      if r2 < 0 then (
        some ((0 : Int32), M1))
      else (
        cal (f_KT_saidIn x15 x10 M1) fun r4 M2 =>
        if r4 ≤ 0 then (
          if 0 ≤ x17 then (
            f_LW_law_l529 p0 k408 x4 x5 x6 x7 x8 x9 x10 x11 x15 x16 x17 (0 : Int32) (0 : Int32) M2)
          else (
            f_LW_law_l529 p0 k408 x4 x5 x6 x7 x8 x9 x10 x11 x15 x16 x17 (0 : Int32) (1 : Int32) M2))
        else (
          if 0 ≤ x17 then (
            f_LW_law_l529 p0 k408 x4 x5 x6 x7 x8 x9 x10 x11 x15 x16 x17 (1 : Int32) (0 : Int32) M2)
          else (
            f_LW_law_l529 p0 k408 x4 x5 x6 x7 x8 x9 x10 x11 x15 x16 x17 (1 : Int32) (1 : Int32) M2))))
    else (
      if ((x16 >>> (x18 &&& 31)) &&& (1 : Int32)) = (1 : Int32) then (
        if x18 = x17 then (
          bd (x18 + Int32.ofInt 1) fun v6 =>
          f_LW_law_l447 p0 k408 n x4 x5 x6 x7 x8 x9 x10 x11 x15 x16 x17 v6 M)
        else (
          cal (f_KT_darn x10 x18 M) fun r7 M3 =>
          if 0 ≤ r7 then (
            bd (x18 + Int32.ofInt 1) fun v9 =>
            f_LW_law_l447 p0 k408 n x4 x5 x6 x7 x8 x9 x10 x11 x15 x16 x17 v9 M3)
          else (
            some ((0 : Int32), M3))))
      else (
        bd (x18 + Int32.ofInt 1) fun v10 =>
        f_LW_law_l447 p0 k408 n x4 x5 x6 x7 x8 x9 x10 x11 x15 x16 x17 v10 M))
set_option maxHeartbeats 1000000 in
def f_LW_law_l434 (p0 : Nat × (Nat → Int32)) (k408 : Int32 → Int32 → Int32 → Int32 → Int32 → Int32 → Int32 → Int32 → Int32 → Int32 → Int32 → kx_M → Option (Int32 × kx_M)) (x4 : Int32) (x5 : Int32) (x6 : Int32) (x7 : Int32) (x8 : Int32) (x9 : Int32) (x10 : Int32) (x11 : Int32) (x15 : Int32) (x16 : Int32) (x17 : Int32) (M : kx_M) : Option (Int32 × kx_M) :=
  cal (f_KT_mark M) fun r1 M1 =>
  if r1 = (1 : Int32) then (
    f_LW_law_l447 p0 k408 FU x4 x5 x6 x7 x8 x9 x10 x11 x15 x16 x17 (0 : Int32) M1)
  else (
    some ((0 : Int32), M1))
set_option maxHeartbeats 1000000 in
def f_LW_law_l408 (p0 : Nat × (Nat → Int32)) (k377 : Int32 → Int32 → Int32 → Int32 → Int32 → Int32 → Int32 → Int32 → Int32 → kx_M → Option (Int32 × kx_M)) : Nat → Int32 → Int32 → Int32 → Int32 → Int32 → Int32 → Int32 → Int32 → Int32 → Int32 → Int32 → kx_M → Option (Int32 × kx_M)
  | 0, _, _, _, _, _, _, _, _, _, _, _, _ => none
  | n + 1, x4, x5, x6, x7, x8, x9, x10, x11, x15, x16, x17, M =>
    gd (inb (0 : Int32) 52) <|
    if (mA M 136 (0 : Int32).toNatClampNeg) ≤ x17 then (
      cal (f_LW_size x16 M) fun r2 M1 =>
      cal (f_KT_mend x15 x10 x11 M1) fun r4 M2 =>
      if r2 = r4 then (
        bd (x15 + Int32.ofInt 1) fun v6 =>
        k377 x4 x5 x6 x7 x8 x9 x10 x11 v6 M2)
      else (
        some ((0 : Int32), M2)))
    else (
      if x17 < 0 then (
        f_LW_law_l434 p0 (f_LW_law_l408 p0 k377 n) x4 x5 x6 x7 x8 x9 x10 x11 x15 x16 x17 M)
      else (
        if ((x16 >>> (x17 &&& 31)) &&& (1 : Int32)) = 0 then (
          bd (x17 + Int32.ofInt 1) fun v7 =>
          f_LW_law_l408 p0 k377 n x4 x5 x6 x7 x8 x9 x10 x11 x15 x16 v7 M)
        else (
          f_LW_law_l434 p0 (f_LW_law_l408 p0 k377 n) x4 x5 x6 x7 x8 x9 x10 x11 x15 x16 x17 M)))
set_option maxHeartbeats 1000000 in
def f_LW_law_l377 (p0 : Nat × (Nat → Int32)) (k222 : Int32 → Int32 → Int32 → Int32 → Int32 → Int32 → Int32 → Int32 → kx_M → Option (Int32 × kx_M)) : Nat → Int32 → Int32 → Int32 → Int32 → Int32 → Int32 → Int32 → Int32 → Int32 → kx_M → Option (Int32 × kx_M)
  | 0, _, _, _, _, _, _, _, _, _, _ => none
  | n + 1, x4, x5, x6, x7, x8, x9, x10, x11, x15, M =>
    gd (inb (3 : Int32) 52) <|
    if (mA M 136 (3 : Int32).toNatClampNeg) ≤ x15 then (
      bd (x11 + Int32.ofInt 1) fun v2 =>
      k222 x4 x5 x6 x7 x8 x9 x10 v2 M)
    else (
      cal (f_KT_mendSet x15 x10 x11 M) fun r3 M1 =>
      if 0 ≤ r3 then (
        f_LW_law_l408 p0 (f_LW_law_l377 p0 k222 n) FU x4 x5 x6 x7 x8 x9 x10 x11 x15 r3 ((-1) : Int32) M1)
      else (
        bd (x15 + Int32.ofInt 1) fun v5 =>
        f_LW_law_l377 p0 k222 n x4 x5 x6 x7 x8 x9 x10 x11 v5 M1))
set_option maxHeartbeats 1000000 in
def f_LW_law_l222 (p0 : Nat × (Nat → Int32)) (k142 : Int32 → Int32 → Int32 → Int32 → Int32 → Int32 → Int32 → kx_M → Option (Int32 × kx_M)) : Nat → Int32 → Int32 → Int32 → Int32 → Int32 → Int32 → Int32 → Int32 → kx_M → Option (Int32 × kx_M)
  | 0, _, _, _, _, _, _, _, _, _ => none
  | n + 1, x4, x5, x6, x7, x8, x9, x10, x11, M =>
    if (2 : Int32) ≤ x11 then (
      bd (x10 + Int32.ofInt 1) fun v1 =>
      k142 x4 x5 x6 x7 x8 x9 v1 M)
    else (
      cal (f_KT_pulled x10 x11 M) fun r2 M1 =>
      cal (f_KT_pulledOut x10 x11 M1) fun r4 M2 =>
      cal (f_KT_many (9 : Int32) M2) fun r6 M3 =>
      cal (f_KT_mark M3) fun r8 M4 =>
      if r8 = (1 : Int32) then (
        cal (f_KT_pull x10 x11 M4) fun r10 M5 =>
        if r10 = r2 then (
          cal (f_KT_many (6 : Int32) M5) fun r12 M6 =>
          if r12 = (x9 + r2) then (
            cal (f_KT_many (9 : Int32) M6) fun r14 M7 =>
            if (r6 &&& (r14 ^^^ ((-1) : Int32))) = r4 then (
              cal (f_KT_pulled x10 x11 M7) fun r16 M8 =>
              if r16 = 0 then (
                cal (f_KT_back M8) fun r18 M9 =>
                if r18 = 0 then (
                  cal (f_KT_many (6 : Int32) M9) fun r20 M10 =>
                  if r20 = x9 then (
                    cal (f_KT_many (9 : Int32) M10) fun r22 M11 =>
                    if r22 = r6 then (
                      cal (f_KT_worstPull M11) fun r24 M12 =>
                      cal (f_KT_worstPull M12) fun r26 M13 =>
                      cal (f_KT_pulled (r24 / (10 : Int32)) (r26 - r26 / (10 : Int32) * (10 : Int32)) M13) fun r28 M14 =>
                      if r2 ≤ r28 then (
                        f_LW_law_l377 p0 (f_LW_law_l222 p0 k142 n) FU x4 x5 x6 x7 x8 x9 x10 x11 (0 : Int32) M14)
                      else (
                        some ((0 : Int32), M14)))
                    else (
                      some ((0 : Int32), M11)))
                  else (
                    some ((0 : Int32), M10)))
                else (
                  some ((0 : Int32), M9)))
              else (
                some ((0 : Int32), M8)))
            else (
              some ((0 : Int32), M7)))
          else (
            some ((0 : Int32), M6)))
        else (
          some ((0 : Int32), M5)))
      else (
        some ((0 : Int32), M4)))
set_option maxHeartbeats 1000000 in
def f_LW_law_l186 (p0 : Nat × (Nat → Int32)) (k152 : Int32 → Int32 → Int32 → Int32 → Int32 → Int32 → Int32 → Int32 → kx_M → Option (Int32 × kx_M)) (x4 : Int32) (x5 : Int32) (x6 : Int32) (x7 : Int32) (x8 : Int32) (x9 : Int32) (x10 : Int32) (x11 : Int32) (M : kx_M) : Option (Int32 × kx_M) :=
  cal (f_KT_stitch x10 x11 (3 : Int32) M) fun r1 M1 =>
  if r1 = (1 : Int32) then (
    cal (f_KT_stitch x10 x11 (1 : Int32) M1) fun r3 M2 =>
    if r3 = 0 then (
      bd (x11 + Int32.ofInt 1) fun v5 =>
      k152 x4 x5 x6 x7 x8 x9 x10 v5 M2)
    else (
      some ((0 : Int32), M2)))
  else (
    bd (x11 + Int32.ofInt 1) fun v6 =>
    k152 x4 x5 x6 x7 x8 x9 x10 v6 M1)
set_option maxHeartbeats 1000000 in
def f_LW_law_l152 (p0 : Nat × (Nat → Int32)) (k142 : Int32 → Int32 → Int32 → Int32 → Int32 → Int32 → Int32 → kx_M → Option (Int32 × kx_M)) : Nat → Int32 → Int32 → Int32 → Int32 → Int32 → Int32 → Int32 → Int32 → kx_M → Option (Int32 × kx_M)
  | 0, _, _, _, _, _, _, _, _, _ => none
  | n + 1, x4, x5, x6, x7, x8, x9, x10, x11, M =>
    gd (inb (0 : Int32) 52) <|
    if (mA M 136 (0 : Int32).toNatClampNeg) ≤ x11 then (
      f_LW_law_l222 p0 k142 FU x4 x5 x6 x7 x8 x9 x10 (0 : Int32) M)
    else (
      cal (f_KT_stitch x10 x11 (2 : Int32) M) fun r2 M1 =>
      if r2 = (1 : Int32) then (
        cal (f_KT_stitch x10 x11 (3 : Int32) M1) fun r4 M2 =>
        if r4 = (1 : Int32) then (
          some ((0 : Int32), M2))
        else (
          f_LW_law_l186 p0 (f_LW_law_l152 p0 k142 n) x4 x5 x6 x7 x8 x9 x10 x11 M2))
      else (
        f_LW_law_l186 p0 (f_LW_law_l152 p0 k142 n) x4 x5 x6 x7 x8 x9 x10 x11 M1))
set_option maxHeartbeats 1000000 in
def f_LW_law_l142 (p0 : Nat × (Nat → Int32)) (k84 : Int32 → Int32 → Int32 → kx_M → Option (Int32 × kx_M)) : Nat → Int32 → Int32 → Int32 → Int32 → Int32 → Int32 → Int32 → kx_M → Option (Int32 × kx_M)
  | 0, _, _, _, _, _, _, _, _ => none
  | n + 1, x4, x5, x6, x7, x8, x9, x10, M =>
    if x8 ≤ x10 then (
      f_LW_law_l588 p0 k84 FU x4 x5 x6 x7 x8 x9 (0 : Int32) M)
    else (
      f_LW_law_l152 p0 (f_LW_law_l142 p0 k84 n) FU x4 x5 x6 x7 x8 x9 x10 (0 : Int32) M)
set_option maxHeartbeats 1000000 in
def f_LW_law_l122 (p0 : Nat × (Nat → Int32)) (k84 : Int32 → Int32 → Int32 → kx_M → Option (Int32 × kx_M)) (x4 : Int32) (x5 : Int32) (x6 : Int32) (s0 : Int32) (M : kx_M) : Option (Int32 × kx_M) :=
  cal (f_KT_many (4 : Int32) M) fun r1 M1 =>
  cal (f_KT_many (6 : Int32) M1) fun r3 M2 =>
  f_LW_law_l142 p0 k84 FU x4 x5 x6 s0 r1 r3 (0 : Int32) M2
set_option maxHeartbeats 1000000 in
def f_LW_law_l84 (p0 : Nat × (Nat → Int32)) : Nat → Int32 → Int32 → Int32 → kx_M → Option (Int32 × kx_M)
  | 0, _, _, _, _ => none
  | n + 1, x4, x5, x6, M =>
    if (7 : Int32) ≤ x6 then (
      some ((1 : Int32), M))
    else (
      if (Int32.ofNat p0.1) ≤ x6 then (
        f_LW_law_l122 p0 (f_LW_law_l84 p0 n) x4 x5 x6 (((389 : Int32) * x6) + x4) M)
      else (
        gd (inb x6 p0.1) <|
        f_LW_law_l122 p0 (f_LW_law_l84 p0 n) x4 x5 x6 (((p0.2 x6.toNatClampNeg) >>> ((1 : Int32) &&& 31)) ^^^ ((67 : Int32) * x6)) M))
set_option maxHeartbeats 1000000 in
def f_LW_law_l33 (p0 : Nat × (Nat → Int32)) (s0 : Int32) (M : kx_M) : Option (Int32 × kx_M) :=
  cal (f_LW_draw p0 M) fun _ M1 =>
  cal (f_LW_lay M1) fun r3 M2 =>
  if r3 = 0 then (
    some ((0 : Int32), M2))
  else (
    cal (f_KT_tray (0 : Int32) (0 : Int32) (12 : Int32) M2) fun r5 M3 =>
    if r5 = 0 then (
      some ((0 : Int32), M3))
    else (
      gd (inb (0 : Int32) 52) <|
      cal (f_KT_tray (1 : Int32) (0 : Int32) (mA M3 136 (0 : Int32).toNatClampNeg) M3) fun r8 M4 =>
      if r8 = 0 then (
        some ((0 : Int32), M4))
      else (
        gd (inb (3 : Int32) 52) <|
        bd ((1 : Int32) <<< ((mA M4 136 (3 : Int32).toNatClampNeg) &&& 31)) fun v11 =>
        f_LW_law_l84 p0 FU s0 v11 (0 : Int32) M4)))
set_option maxHeartbeats 1000000 in
def f_LW_law_l18 (p0 : Nat × (Nat → Int32)) (M : kx_M) : Option (Int32 × kx_M) :=
  if (Int32.ofNat p0.1) = 0 then (
    f_LW_law_l33 p0 (5 : Int32) M)
  else (
    gd (inb ((Int32.ofNat p0.1) - (1 : Int32)) p0.1) <|
    f_LW_law_l33 p0 (p0.2 ((Int32.ofNat p0.1) - (1 : Int32)).toNatClampNeg) M)
