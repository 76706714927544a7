set_option maxHeartbeats 1000000 in
def f_RM_isKept (M : kx_M) : Option (Int32 × kx_M) :=
  cal (f_RM_isWide M) fun r1 M1 =>
  if r1 = 0 then (
    cal (f_RM_isTough M1) fun r3 M2 =>
    if r3 = 0 then (
      cal (f_RM_isQueen M2) fun r5 M3 =>
      if r5 = 0 then (
        cal (f_RM_isWool M3) fun r7 M4 =>
        if r7 = 0 then (
          cal (f_RM_isClause M4) fun r9 M5 =>
          if r9 = 0 then (
            cal (f_RM_isIs M5) fun r11 M6 =>
            if r11 = 0 then (
              cal (f_RM_isClash M6) fun r13 M7 =>
              if r13 = 0 then (
                cal (f_RM_isGives M7) fun r15 M8 =>
                if r15 = 0 then (
                  cal (f_RM_isCosts M8) fun r17 M9 =>
                  if r17 = 0 then (
                    cal (f_RM_isRow M9) fun r19 M10 =>
                    if r19 = 0 then (
                      cal (f_RM_kindWord M10) fun r21 M11 =>
                      if 0 ≤ r21 then (
                        some ((1 : Int32), M11))
                      else (
                        cal (f_RM_stepWord M11) fun r23 M12 =>
                        if 0 ≤ r23 then (
                          some ((1 : Int32), M12))
                        else (
                          cal (f_RM_testWord M12) fun r25 M13 =>
                          if 0 ≤ r25 then (
                            some ((1 : Int32), M13))
                          else (
                            cal (f_RM_isEnd M13) fun r27 M14 =>
                            if r27 = 0 then (
                              some ((0 : Int32), M14))
                            else (
                              some ((1 : Int32), M14))))))
                    else (
                      some ((1 : Int32), M10)))
                  else (
                    some ((1 : Int32), M9)))
                else (
                  some ((1 : Int32), M8)))
              else (
                some ((1 : Int32), M7)))
            else (
              some ((1 : Int32), M6)))
          else (
            some ((1 : Int32), M5)))
        else (
          some ((1 : Int32), M4)))
      else (
        some ((1 : Int32), M3)))
    else (
      some ((1 : Int32), M2)))
  else (
    some ((1 : Int32), M1))
set_option maxHeartbeats 1000000 in
def f_RM_isName (M : kx_M) : Option (Int32 × kx_M) :=
  if (mI M 135 14) = (1 : Int32) then (
    if (8 : Int32) < (mI M 135 18) then (
      some ((0 : Int32), M))
    else (
      cal (f_RM_isKept M) fun r1 M1 =>
      if r1 = 0 then (
        some ((1 : Int32), M1))
      else (
        some ((0 : Int32), M1))))
  else (
    some ((0 : Int32), M))
set_option maxHeartbeats 1000000 in
def f_RM_named_l2 (p1 : Int32) (p2 : Int32) : Nat → Int32 → kx_M → Option (Int32 × kx_M)
  | 0, _, _ => none
  | n + 1, x3, M =>
    gd (inb ((((768 : Int32) * p1) + (2 : Int32)) + p2) 3840) <|
    if (mA M 140 ((((768 : Int32) * p1) + (2 : Int32)) + p2).toNatClampNeg) ≤ x3 then (
      some (((-1) : Int32), M))
    else (
      gd (inb ((((10 : Int32) * p1) + ((4 : Int32) * p2)) + x3) 50) <|
      if (lg_cmp (mB M 143 ((((10 : Int32) * p1) + ((4 : Int32) * p2)) + x3).toNatClampNeg) (mJ M 135 19)) = 0 then (
        some (x3, M))
      else (
        bd (x3 + Int32.ofInt 1) fun v3 =>
        f_RM_named_l2 p1 p2 n v3 M))
set_option maxHeartbeats 1000000 in
def f_RM_named (p1 : Int32) (p2 : Int32) (M : kx_M) : Option (Int32 × kx_M) :=
  f_RM_named_l2 p1 p2 FU (0 : Int32) M
set_option maxHeartbeats 1000000 in
def f_RM_readNew_l84 (p1 : Int32) (p2 : Int32) (x3 : Int32) (M : kx_M) : Option (Int32 × kx_M) :=
  if (mI M 135 12) ≤ 0 then (
    gd (inb (((40 : Int32) + ((4 : Int32) * p1)) + x3) 50) <|
    bd (sB M 143 (vp_updL (mB M 143) (((40 : Int32) + ((4 : Int32) * p1)) + x3).toNatClampNeg (mJ M 135 19))) fun M1 =>
    cal (f_RM_advance M1) fun _ M2 =>
    some (x3, M2))
  else (
    some ((0 : Int32), M))
set_option maxHeartbeats 1000000 in
def f_RM_readNew_l50 (p1 : Int32) (p2 : Int32) (x3 : Int32) (M : kx_M) : Option (Int32 × kx_M) :=
  if (mI M 135 12) = 0 then (
    cal (f_RM_named (4 : Int32) (0 : Int32) M) fun r1 M1 =>
    if 0 ≤ r1 then (
      cal (f_RM_fail (3 : Int32) (mI M1 135 15) M1) fun _ M2 =>
      f_RM_readNew_l84 p1 p2 x3 M2)
    else (
      cal (f_RM_named (4 : Int32) (1 : Int32) M1) fun r5 M3 =>
      if r5 < 0 then (
        f_RM_readNew_l84 p1 p2 x3 M3)
      else (
        cal (f_RM_fail (3 : Int32) (mI M3 135 15) M3) fun _ M4 =>
        f_RM_readNew_l84 p1 p2 x3 M4)))
  else (
    f_RM_readNew_l84 p1 p2 x3 M)
set_option maxHeartbeats 1000000 in
def f_RM_readNew_l26 (p1 : Int32) (p2 : Int32) (x3 : Int32) (M : kx_M) : Option (Int32 × kx_M) :=
  if (mI M 135 12) ≤ 0 then (
    cal (f_RM_advance M) fun _ M1 =>
    cal (f_RM_isName M1) fun r3 M2 =>
    if r3 = 0 then (
      cal (f_RM_amiss M2) fun _ M3 =>
      f_RM_readNew_l50 p1 p2 x3 M3)
    else (
      f_RM_readNew_l50 p1 p2 x3 M2))
  else (
    some ((0 : Int32), M))
set_option maxHeartbeats 1000000 in
def f_RM_readNew (p1 : Int32) (p2 : Int32) (M : kx_M) : Option (Int32 × kx_M) :=
  gd (inb ((3074 : Int32) + p1) 3840) <|
  bd (mA M 140 ((3074 : Int32) + p1).toNatClampNeg) fun v2 =>
  if v2 = p2 then (
    cal (f_RM_fail (6 : Int32) (mI M 135 15) M) fun _ M1 =>
    f_RM_readNew_l26 p1 p2 v2 M1)
  else (
    f_RM_readNew_l26 p1 p2 v2 M)
set_option maxHeartbeats 1000000 in
def f_RM_readQueen_l37 (x1 : Int32) (x2 : Int32) (M : kx_M) : Option (Unit × kx_M) :=
  gd (inb ((3078 : Int32) + x1) 3840) <|
  bd (sA M 140 (upd (mA M 140) ((3078 : Int32) + x1).toNatClampNeg x2)) fun M1 =>
  if (mI M1 135 12) = 0 then (
    gd (inb (3074 : Int32) 3840) <|
    gd (inb (3074 : Int32) 3840) <|
    bd (sA M1 140 (upd (mA M1 140) (3074 : Int32).toNatClampNeg ((mA M1 140 (3074 : Int32).toNatClampNeg) + (1 : Int32)))) fun M2 =>
    some ((), M2))
  else (
    some ((), M1))
set_option maxHeartbeats 1000000 in
def f_RM_readQueen (M : kx_M) : Option (Unit × kx_M) :=
  cal (f_RM_readNew (0 : Int32) (4 : Int32) M) fun r1 M1 =>
  if (mI M1 135 12) = 0 then (
    cal (f_RM_isWool M1) fun r3 M2 =>
    if r3 = 0 then (
      f_RM_readQueen_l37 r1 (100 : Int32) M2)
    else (
      cal (f_RM_advance M2) fun _ M3 =>
      cal (f_RM_count (0 : Int32) (999 : Int32) M3) fun r7 M4 =>
      f_RM_readQueen_l37 r1 r7 M4))
  else (
    f_RM_readQueen_l37 r1 (100 : Int32) M1)
set_option maxHeartbeats 1000000 in
def f_RM_must (p1 : Int32) (M : kx_M) : Option (Unit × kx_M) :=
  if (mI M 135 12) ≤ 0 then (
    if p1 = 0 then (
      cal (f_RM_amiss M) fun _ M1 =>
      some ((), M1))
    else (
      cal (f_RM_advance M) fun _ M2 =>
      some ((), M2)))
  else (
    some ((), M))
set_option maxHeartbeats 1000000 in
def f_RM_readClause_l113 (x1 : Int32) (x2 : Int32) (M : kx_M) : Option (Unit × kx_M) :=
  gd (inb ((3082 : Int32) + x1) 3840) <|
  bd (sA M 140 (upd (mA M 140) ((3082 : Int32) + x1).toNatClampNeg x2)) fun M1 =>
  if (mI M1 135 12) = 0 then (
    gd (inb (3075 : Int32) 3840) <|
    gd (inb (3075 : Int32) 3840) <|
    bd (sA M1 140 (upd (mA M1 140) (3075 : Int32).toNatClampNeg ((mA M1 140 (3075 : Int32).toNatClampNeg) + (1 : Int32)))) fun M2 =>
    some ((), M2))
  else (
    some ((), M1))
set_option maxHeartbeats 1000000 in
def f_RM_readClause_l77 (k36 : Int32 → Int32 → kx_M → Option (Unit × kx_M)) (x1 : Int32) (x2 : Int32) (M : kx_M) : Option (Unit × kx_M) :=
  if (mI M 135 12) ≤ 0 then (
    cal (f_RM_kindWord M) fun r1 M1 =>
    gd (inb (((3088 : Int32) + ((5 : Int32) * x1)) + x2) 3840) <|
    bd (sA M1 140 (upd (mA M1 140) (((3088 : Int32) + ((5 : Int32) * x1)) + x2).toNatClampNeg r1)) fun M2 =>
    bd (x2 + Int32.ofInt 1) fun v4 =>
    cal (f_RM_advance M2) fun _ M3 =>
    k36 x1 v4 M3)
  else (
    some ((), M))
set_option maxHeartbeats 1000000 in
def f_RM_readClause_l36 : Nat → Int32 → Int32 → kx_M → Option (Unit × kx_M)
  | 0, _, _, _ => none
  | n + 1, x1, x2, M =>
    if (mI M 135 12) = 0 then (
      cal (f_RM_kindWord M) fun r1 M1 =>
      if r1 < 0 then (
        f_RM_readClause_l113 x1 x2 M1)
      else (
        if x2 = (5 : Int32) then (
          cal (f_RM_fail (6 : Int32) (mI M1 135 15) M1) fun _ M2 =>
          f_RM_readClause_l77 (f_RM_readClause_l36 n) x1 x2 M2)
        else (
          gd (inb (3072 : Int32) 3840) <|
          if x2 = (mA M1 140 (3072 : Int32).toNatClampNeg) then (
            cal (f_RM_fail (6 : Int32) (mI M1 135 15) M1) fun _ M3 =>
            f_RM_readClause_l77 (f_RM_readClause_l36 n) x1 x2 M3)
          else (
            f_RM_readClause_l77 (f_RM_readClause_l36 n) x1 x2 M1))))
    else (
      f_RM_readClause_l113 x1 x2 M)
set_option maxHeartbeats 1000000 in
def f_RM_readClause (M : kx_M) : Option (Unit × kx_M) :=
  cal (f_RM_readNew (1 : Int32) (6 : Int32) M) fun r1 M1 =>
  cal (f_RM_isIs M1) fun r3 M2 =>
  cal (f_RM_must r3 M2) fun _ M3 =>
  if (mI M3 135 12) = 0 then (
    cal (f_RM_kindWord M3) fun r7 M4 =>
    if 0 ≤ r7 then (
      f_RM_readClause_l36 FU r1 (0 : Int32) M4)
    else (
      cal (f_RM_amiss M4) fun _ M5 =>
      f_RM_readClause_l36 FU r1 (0 : Int32) M5))
  else (
    f_RM_readClause_l36 FU r1 (0 : Int32) M3)
set_option maxHeartbeats 1000000 in
def f_RM_told_l18 (p1 : Int32) (p2 : Int32) (M : kx_M) : Option (Int32 × kx_M) :=
  if (mI M 135 12) ≤ 0 then (
    cal (f_RM_named p1 p2 M) fun r1 M1 =>
    if 0 ≤ r1 then (
      some ((if (0 : Int32) < r1 then r1 else (0 : Int32)), M1))
    else (
      cal (f_RM_fail (3 : Int32) (mI M1 135 15) M1) fun _ M2 =>
      some ((if (0 : Int32) < r1 then r1 else (0 : Int32)), M2)))
  else (
    some ((0 : Int32), M))
set_option maxHeartbeats 1000000 in
def f_RM_told (p1 : Int32) (p2 : Int32) (M : kx_M) : Option (Int32 × kx_M) :=
  if (mI M 135 12) = 0 then (
    cal (f_RM_isName M) fun r1 M1 =>
    if r1 = 0 then (
      cal (f_RM_amiss M1) fun _ M2 =>
      f_RM_told_l18 p1 p2 M2)
    else (
      f_RM_told_l18 p1 p2 M1))
  else (
    f_RM_told_l18 p1 p2 M)
set_option maxHeartbeats 1000000 in
def f_RM_readTold (p1 : Int32) (p2 : Int32) (M : kx_M) : Option (Int32 × kx_M) :=
  cal (f_RM_told p1 p2 M) fun r1 M1 =>
  cal (f_RM_must (1 : Int32) M1) fun _ M2 =>
  some (r1, M2)
set_option maxHeartbeats 1000000 in
def f_RM_readClash_l39 (x1 : Int32) (x2 : Int32) (M : kx_M) : Option (Unit × kx_M) :=
  cal (f_RM_must (1 : Int32) M) fun _ M1 =>
  if (mI M1 135 12) ≤ 0 then (
    gd (inb ((3118 : Int32) + x1) 3840) <|
    gd (inb ((3118 : Int32) + x1) 3840) <|
    bd (sA M1 140 (upd (mA M1 140) ((3118 : Int32) + x1).toNatClampNeg ((mA M1 140 ((3118 : Int32) + x1).toNatClampNeg) ||| ((1 : Int32) <<< (x2 &&& 31))))) fun M2 =>
    gd (inb ((3118 : Int32) + x2) 3840) <|
    gd (inb ((3118 : Int32) + x2) 3840) <|
    bd (sA M2 140 (upd (mA M2 140) ((3118 : Int32) + x2).toNatClampNeg ((mA M2 140 ((3118 : Int32) + x2).toNatClampNeg) ||| ((1 : Int32) <<< (x1 &&& 31))))) fun M3 =>
    some ((), M3))
  else (
    some ((), M1))
set_option maxHeartbeats 1000000 in
def f_RM_readClash (M : kx_M) : Option (Unit × kx_M) :=
  cal (f_RM_advance M) fun _ M1 =>
  cal (f_RM_readTold (4 : Int32) (1 : Int32) M1) fun r3 M2 =>
  cal (f_RM_told (4 : Int32) (1 : Int32) M2) fun r5 M3 =>
  if (mI M3 135 12) = 0 then (
    if r3 = r5 then (
      cal (f_RM_fail (5 : Int32) (mI M3 135 15) M3) fun _ M4 =>
      f_RM_readClash_l39 r3 r5 M4)
    else (
      f_RM_readClash_l39 r3 r5 M3))
  else (
    f_RM_readClash_l39 r3 r5 M3)
set_option maxHeartbeats 1000000 in
def f_RM_readWorth (p1 : Int32) (M : kx_M) : Option (Unit × kx_M) :=
  cal (f_RM_advance M) fun _ M1 =>
  cal (f_RM_readTold (4 : Int32) (0 : Int32) M1) fun r3 M2 =>
  cal (f_RM_readTold (4 : Int32) (1 : Int32) M2) fun r5 M3 =>
  cal (f_RM_count (0 : Int32) (99 : Int32) M3) fun r7 M4 =>
  if (mI M4 135 12) = 0 then (
    gd (inb ((((3072 : Int32) + p1) + ((6 : Int32) * r3)) + r5) 3840) <|
    bd (sA M4 140 (upd (mA M4 140) ((((3072 : Int32) + p1) + ((6 : Int32) * r3)) + r5).toNatClampNeg r7)) fun M5 =>
    some ((), M5))
  else (
    some ((), M4))
set_option maxHeartbeats 1000000 in
def f_RM_readRow_l260 (M : kx_M) : Option (Unit × kx_M) :=
  if (mI M 135 12) = 0 then (
    gd (inb (3076 : Int32) 3840) <|
    gd (inb (3076 : Int32) 3840) <|
    bd (sA M 140 (upd (mA M 140) (3076 : Int32).toNatClampNeg ((mA M 140 (3076 : Int32).toNatClampNeg) + (1 : Int32)))) fun M1 =>
    some ((), M1))
  else (
    some ((), M))
set_option maxHeartbeats 1000000 in
def f_RM_readRow_l237 (x2 : Int32) (M : kx_M) : Option (Unit × kx_M) :=
  if (mI M 135 12) = 0 then (
    gd (inb (3072 : Int32) 3840) <|
    if (mA M 140 (3072 : Int32).toNatClampNeg) ≤ x2 then (
      f_RM_readRow_l260 M)
    else (
      cal (f_RM_amiss M) fun _ M1 =>
      f_RM_readRow_l260 M1))
  else (
    f_RM_readRow_l260 M)
set_option maxHeartbeats 1000000 in
def f_RM_readRow_l190 (k55 : Int32 → Int32 → kx_M → Option (Unit × kx_M)) : Nat → Int32 → Int32 → Int32 → Int32 → Int32 → kx_M → Option (Unit × kx_M)
  | 0, _, _, _, _, _, _ => none
  | n + 1, x1, x2, x3, x5, x6, M =>
    if x5 ≤ x6 then (
      bd (x2 + x5) fun v1 =>
      k55 x1 v1 M)
    else (
      if (mI M 135 12) = 0 then (
        gd (inb ((((3184 : Int32) + ((8 : Int32) * x1)) + x2) + x6) 3840) <|
        bd (sA M 140 (upd (mA M 140) ((((3184 : Int32) + ((8 : Int32) * x1)) + x2) + x6).toNatClampNeg x3)) fun M1 =>
        bd (x6 + Int32.ofInt 1) fun v3 =>
        f_RM_readRow_l190 k55 n x1 x2 x3 x5 v3 M1)
      else (
        bd (x2 + x5) fun v4 =>
        k55 x1 v4 M))
set_option maxHeartbeats 1000000 in
def f_RM_readRow_l155 (k55 : Int32 → Int32 → kx_M → Option (Unit × kx_M)) (x1 : Int32) (x2 : Int32) (x3 : Int32) (x4 : Int32) (s0 : Int32) (M : kx_M) : Option (Unit × kx_M) :=
  if (mI M 135 12) = 0 then (
    gd (inb (3072 : Int32) 3840) <|
    if (x2 + s0) ≤ (mA M 140 (3072 : Int32).toNatClampNeg) then (
      f_RM_readRow_l190 k55 FU x1 x2 x3 s0 (0 : Int32) M)
    else (
      cal (f_RM_fail (6 : Int32) x4 M) fun _ M1 =>
      f_RM_readRow_l190 k55 FU x1 x2 x3 s0 (0 : Int32) M1))
  else (
    f_RM_readRow_l190 k55 FU x1 x2 x3 s0 (0 : Int32) M)
set_option maxHeartbeats 1000000 in
def f_RM_readRow_l91 (k55 : Int32 → Int32 → kx_M → Option (Unit × kx_M)) (x1 : Int32) (x2 : Int32) (M : kx_M) : Option (Unit × kx_M) :=
  if (mI M 135 12) ≤ 0 then (
    cal (f_RM_kindWord M) fun r1 M1 =>
    cal (f_RM_advance M1) fun _ M2 =>
    bd (mI M2 135 15) fun v5 =>
    if (mI M2 135 14) = (2 : Int32) then (
      cal (f_RM_count (1 : Int32) (8 : Int32) M2) fun r6 M3 =>
      f_RM_readRow_l155 k55 x1 x2 r1 v5 r6 M3)
    else (
      if (mI M2 135 14) = (4 : Int32) then (
        cal (f_RM_look2 (mI M2 135 15) M2) fun r8 M4 =>
        cal (f_RM_isDigit r8 M4) fun r10 M5 =>
        if r10 = 0 then (
          f_RM_readRow_l155 k55 x1 x2 r1 v5 (1 : Int32) M5)
        else (
          cal (f_RM_count (1 : Int32) (8 : Int32) M5) fun r12 M6 =>
          f_RM_readRow_l155 k55 x1 x2 r1 v5 r12 M6))
      else (
        f_RM_readRow_l155 k55 x1 x2 r1 v5 (1 : Int32) M2)))
  else (
    some ((), M))
set_option maxHeartbeats 1000000 in
def f_RM_readRow_l55 : Nat → Int32 → Int32 → kx_M → Option (Unit × kx_M)
  | 0, _, _, _ => none
  | n + 1, x1, x2, M =>
    if (mI M 135 12) = 0 then (
      cal (f_RM_kindWord M) fun r1 M1 =>
      if r1 < 0 then (
        f_RM_readRow_l237 x2 M1)
      else (
        gd (inb (3072 : Int32) 3840) <|
        if x2 = (mA M1 140 (3072 : Int32).toNatClampNeg) then (
          cal (f_RM_fail (6 : Int32) (mI M1 135 15) M1) fun _ M2 =>
          f_RM_readRow_l91 (f_RM_readRow_l55 n) x1 x2 M2)
        else (
          f_RM_readRow_l91 (f_RM_readRow_l55 n) x1 x2 M1)))
    else (
      f_RM_readRow_l237 x2 M)
set_option maxHeartbeats 1000000 in
def f_RM_readRow_l25 (x1 : Int32) (M : kx_M) : Option (Unit × kx_M) :=
  if (mI M 135 12) ≤ 0 then (
    cal (f_RM_advance M) fun _ M1 =>
    cal (f_RM_readTold (4 : Int32) (0 : Int32) M1) fun r3 M2 =>
    gd (inb ((3172 : Int32) + x1) 3840) <|
    bd (sA M2 140 (upd (mA M2 140) ((3172 : Int32) + x1).toNatClampNeg r3)) fun M3 =>
    f_RM_readRow_l55 FU x1 (0 : Int32) M3)
  else (
    some ((), M))
set_option maxHeartbeats 1000000 in
def f_RM_readRow (M : kx_M) : Option (Unit × kx_M) :=
  gd (inb (3076 : Int32) 3840) <|
  bd (mA M 140 (3076 : Int32).toNatClampNeg) fun v2 =>
  if v2 = (12 : Int32) then (
    cal (f_RM_fail (6 : Int32) (mI M 135 15) M) fun _ M1 =>
    f_RM_readRow_l25 v2 M1)
  else (
    f_RM_readRow_l25 v2 M)
set_option maxHeartbeats 1000000 in
def f_RM_readPart (M : kx_M) : Option (Unit × kx_M) :=
  cal (f_RM_isWide M) fun r1 M1 =>
  if r1 = 0 then (
    cal (f_RM_isTough M1) fun r3 M2 =>
    if r3 = 0 then (
      cal (f_RM_isQueen M2) fun r5 M3 =>
      if r5 = 0 then (
        cal (f_RM_isClause M3) fun r7 M4 =>
        if r7 = 0 then (
          cal (f_RM_isClash M4) fun r9 M5 =>
          if r9 = 0 then (
            cal (f_RM_isGives M5) fun r11 M6 =>
            if r11 = 0 then (
              cal (f_RM_isCosts M6) fun r13 M7 =>
              if r13 = 0 then (
                cal (f_RM_isRow M7) fun r15 M8 =>
                if r15 = 0 then (
                  cal (f_RM_amiss M8) fun _ M9 =>
                  some ((), M9))
                else (
                  cal (f_RM_readRow M8) fun _ M10 =>
                  some ((), M10)))
              else (
                cal (f_RM_readWorth (76 : Int32) M7) fun _ M11 =>
                some ((), M11)))
            else (
              cal (f_RM_readWorth (52 : Int32) M6) fun _ M12 =>
              some ((), M12)))
          else (
            cal (f_RM_readClash M5) fun _ M13 =>
            some ((), M13)))
        else (
          cal (f_RM_readClause M4) fun _ M14 =>
          some ((), M14)))
      else (
        cal (f_RM_readQueen M3) fun _ M15 =>
        some ((), M15)))
    else (
      cal (f_RM_readOnce (1 : Int32) (1 : Int32) (50 : Int32) M2) fun _ M16 =>
      some ((), M16)))
  else (
    cal (f_RM_readOnce (0 : Int32) (1 : Int32) (8 : Int32) M1) fun _ M17 =>
    some ((), M17))
set_option maxHeartbeats 1000000 in
def f_RM_isSign (p1 : Int32) (M : kx_M) : Option (Int32 × kx_M) :=
  if (mI M 135 14) = (3 : Int32) then (
    if (mI M 135 17) = p1 then (
      some ((1 : Int32), M))
    else (
      some ((0 : Int32), M)))
  else (
    some ((0 : Int32), M))
set_option maxHeartbeats 1000000 in
def f_RM_isWell_l24 (s0 : Nat) (s1 : Int32) (M : kx_M) : Option (Int32 × kx_M) :=
  bd (sI M 135 11 s1) fun M1 =>
  if (mI M1 135 12) = 0 then (
    some ((1 : Int32), M1))
  else (
    cal (f_RM_no (10 : Int32) M1) fun r1 M2 =>
    if r1 = 0 then (
      some ((0 : Int32), M2))
    else (
      some ((1 : Int32), M2)))
set_option maxHeartbeats 1000000 in
def f_RM_isWell (M : kx_M) : Option (Int32 × kx_M) :=
  bd (sI M 135 10 (mI M 135 12)) fun M1 =>
  if (mI M1 135 12) = 0 then (
    f_RM_isWell_l24 135 ((-1) : Int32) M1)
  else (
    f_RM_isWell_l24 135 (mI M1 135 13) M1)
set_option maxHeartbeats 1000000 in
def f_RM_copy_l41 (p1 : Int32) (p2 : Int32) : Nat → Int32 → kx_M → Option (Unit × kx_M)
  | 0, _, _ => none
  | n + 1, x3, M =>
    if (10 : Int32) ≤ x3 then (
      some ((), M))
    else (
      gd (inb (((10 : Int32) * p1) + x3) 50) <|
      gd (inb (((10 : Int32) * p2) + x3) 50) <|
      bd (sB M 143 (vp_updL (mB M 143) (((10 : Int32) * p2) + x3).toNatClampNeg (mB M 143 (((10 : Int32) * p1) + x3).toNatClampNeg))) fun M1 =>
      bd (x3 + Int32.ofInt 1) fun v3 =>
      f_RM_copy_l41 p1 p2 n v3 M1)
set_option maxHeartbeats 1000000 in
def f_RM_copy_l2 (p1 : Int32) (p2 : Int32) : Nat → Int32 → kx_M → Option (Unit × kx_M)
  | 0, _, _ => none
  | n + 1, x3, M =>
    if (768 : Int32) ≤ x3 then (
      f_RM_copy_l41 p1 p2 FU (0 : Int32) M)
    else (
      gd (inb (((768 : Int32) * p1) + x3) 3840) <|
      gd (inb (((768 : Int32) * p2) + x3) 3840) <|
      bd (sA M 140 (upd (mA M 140) (((768 : Int32) * p2) + x3).toNatClampNeg (mA M 140 (((768 : Int32) * p1) + x3).toNatClampNeg))) fun M1 =>
      bd (x3 + Int32.ofInt 1) fun v3 =>
      f_RM_copy_l2 p1 p2 n v3 M1)
set_option maxHeartbeats 1000000 in
def f_RM_copy (p1 : Int32) (p2 : Int32) (M : kx_M) : Option (Unit × kx_M) :=
  f_RM_copy_l2 p1 p2 FU (0 : Int32) M
set_option maxHeartbeats 1000000 in
def f_RM_treaty_l105 (p1 : Int32) (M : kx_M) : Option (Int32 × kx_M) :=
  cal (f_RM_isWell M) fun r1 M1 =>
  if r1 = 0 then (
    some (((-1) : Int32), M1))
  else (
    cal (f_RM_copy (4 : Int32) (0 : Int32) M1) fun _ M2 =>
    gd (inb (4 : Int32) 3840) <|
    some ((mA M2 140 (4 : Int32).toNatClampNeg), M2))
set_option maxHeartbeats 1000000 in
def f_RM_treaty_l74 (p1 : Int32) : Nat → kx_M → Option (Int32 × kx_M)
  | 0, _ => none
  | n + 1, M =>
    if (mI M 135 12) = 0 then (
      if (mI M 135 14) = 0 then (
        f_RM_treaty_l105 p1 M)
      else (
        cal (f_RM_readPart M) fun _ M1 =>
        cal (f_RM_isSign (59 : Int32) M1) fun r3 M2 =>
        cal (f_RM_must r3 M2) fun _ M3 =>
        f_RM_treaty_l74 p1 n M3))
    else (
      f_RM_treaty_l105 p1 M)
set_option maxHeartbeats 1000000 in
def f_RM_treaty_l25 (p1 : Int32) : Nat → Int32 → kx_M → Option (Int32 × kx_M)
  | 0, _, _ => none
  | n + 1, x2, M =>
    if (768 : Int32) ≤ x2 then (
      gd (inb (3072 : Int32) 3840) <|
      bd (sA M 140 (upd (mA M 140) (3072 : Int32).toNatClampNeg (6 : Int32))) fun M1 =>
      gd (inb (3073 : Int32) 3840) <|
      bd (sA M1 140 (upd (mA M1 140) (3073 : Int32).toNatClampNeg (20 : Int32))) fun M2 =>
      bd (sI M2 135 25 (0 : Int32)) fun M3 =>
      f_RM_treaty_l74 p1 FU M3)
    else (
      gd (inb ((3072 : Int32) + x2) 3840) <|
      bd (sA M 140 (upd (mA M 140) ((3072 : Int32) + x2).toNatClampNeg (0 : Int32))) fun M4 =>
      bd (x2 + Int32.ofInt 1) fun v4 =>
      f_RM_treaty_l25 p1 n v4 M4)
set_option maxHeartbeats 1000000 in
def f_RM_treaty (p1 : Int32) (M : kx_M) : Option (Int32 × kx_M) :=
  bd (sI M 135 1 (0 : Int32)) fun M1 =>
  bd (sI M1 135 0 (0 : Int32)) fun M2 =>
  cal (f_RM_starts p1 (900 : Int32) M2) fun r1 M3 =>
  if r1 = 0 then (
    some (((-1) : Int32), M3))
  else (
    f_RM_treaty_l25 p1 FU (0 : Int32) M3)
set_option maxHeartbeats 1000000 in
def f_RM_readMany_l58 (p1 : Int32) (s0 : Nat) (s1 : Int32) (M : kx_M) : Option (Unit × kx_M) :=
  cal (f_RM_must s1 M) fun _ M1 =>
  cal (f_RM_count (0 : Int32) (99 : Int32) M1) fun r3 M2 =>
  gd (inb (p1 + (1 : Int32)) 3840) <|
  bd (sA M2 140 (upd (mA M2 140) (p1 + (1 : Int32)).toNatClampNeg r3)) fun M3 =>
  some ((), M3)
set_option maxHeartbeats 1000000 in
def f_RM_readMany_l24 (p1 : Int32) (s0 : Nat) (s1 : Int32) (s2 : Int32) (M : kx_M) : Option (Unit × kx_M) :=
  gd (aIb 1 s0 s1) <|
  bd (sA M s0 (upd (mA M s0) s1.toNatClampNeg s2)) fun M1 =>
  cal (f_RM_isSign (60 : Int32) M1) fun r2 M2 =>
  if r2 = 0 then (
    cal (f_RM_isSign (62 : Int32) M2) fun r4 M3 =>
    if r4 = 0 then (
      cal (f_RM_isSign (61 : Int32) M3) fun r6 M4 =>
      if r6 = 0 then (
        f_RM_readMany_l58 p1 135 (0 : Int32) M4)
      else (
        f_RM_readMany_l58 p1 135 (1 : Int32) M4))
    else (
      f_RM_readMany_l58 p1 135 (1 : Int32) M3))
  else (
    f_RM_readMany_l58 p1 135 (1 : Int32) M2)
set_option maxHeartbeats 1000000 in
def f_RM_readMany (p1 : Int32) (M : kx_M) : Option (Unit × kx_M) :=
  if (mI M 135 14) = (3 : Int32) then (
    f_RM_readMany_l24 p1 140 (p1 + (7 : Int32)) (mI M 135 17) M)
  else (
    f_RM_readMany_l24 p1 140 (p1 + (7 : Int32)) (0 : Int32) M)
set_option maxHeartbeats 1000000 in
def f_RM_readTest_l15 (p1 : Int32) (x2 : Int32) (s0 : Nat) (s1 : Int32) (M : kx_M) : Option (Unit × kx_M) :=
  cal (f_RM_must s1 M) fun _ M1 =>
  gd (inb (p1 + (6 : Int32)) 3840) <|
  bd (sA M1 140 (upd (mA M1 140) (p1 + (6 : Int32)).toNatClampNeg x2)) fun M2 =>
  if (mI M2 135 12) ≤ 0 then (
    if x2 = 0 then (
      cal (f_RM_readTold (0 : Int32) (1 : Int32) M2) fun r4 M3 =>
      gd (inb (p1 + (1 : Int32)) 3840) <|
      bd (sA M3 140 (upd (mA M3 140) (p1 + (1 : Int32)).toNatClampNeg r4)) fun M4 =>
      some ((), M4))
    else (
      if x2 = (1 : Int32) then (
        gd (inb (4 : Int32) 3840) <|
        cal (f_RM_count (0 : Int32) ((mA M2 140 (4 : Int32).toNatClampNeg) - (1 : Int32)) M2) fun r8 M5 =>
        gd (inb (p1 + (1 : Int32)) 3840) <|
        bd (sA M5 140 (upd (mA M5 140) (p1 + (1 : Int32)).toNatClampNeg r8)) fun M6 =>
        some ((), M6))
      else (
        cal (f_RM_readMany p1 M2) fun _ M7 =>
        some ((), M7))))
  else (
    some ((), M2))
set_option maxHeartbeats 1000000 in
def f_RM_readTest (p1 : Int32) (M : kx_M) : Option (Unit × kx_M) :=
  cal (f_RM_testWord M) fun r1 M1 =>
  if r1 < 0 then (
    f_RM_readTest_l15 p1 r1 135 (0 : Int32) M1)
  else (
    f_RM_readTest_l15 p1 r1 135 (1 : Int32) M1)
set_option maxHeartbeats 1000000 in
def f_RM_readRest_l92 (p1 : Int32) (x2 : Int32) (M : kx_M) : Option (Unit × kx_M) :=
  if x2 ≤ 0 then (
    some ((), M))
  else (
    if (4 : Int32) ≤ x2 then (
      some ((), M))
    else (
      if x2 = (1 : Int32) then (
        cal (f_RM_count (0 : Int32) (1 : Int32) M) fun r1 M1 =>
        gd (inb (p1 + (2 : Int32)) 3840) <|
        bd (sA M1 140 (upd (mA M1 140) (p1 + (2 : Int32)).toNatClampNeg r1)) fun M2 =>
        some ((), M2))
      else (
        gd (inb (0 : Int32) 3840) <|
        cal (f_RM_count (0 : Int32) ((mA M 140 (0 : Int32).toNatClampNeg) - (1 : Int32)) M) fun r5 M3 =>
        gd (inb (p1 + (2 : Int32)) 3840) <|
        bd (sA M3 140 (upd (mA M3 140) (p1 + (2 : Int32)).toNatClampNeg r5)) fun M4 =>
        some ((), M4))))
set_option maxHeartbeats 1000000 in
def f_RM_readRest (p1 : Int32) (M : kx_M) : Option (Unit × kx_M) :=
  gd (inb p1 3840) <|
  bd (mA M 140 p1.toNatClampNeg) fun v2 =>
  if v2 = 0 then (
    cal (f_RM_count (1 : Int32) (20 : Int32) M) fun r3 M1 =>
    gd (inb (p1 + (1 : Int32)) 3840) <|
    bd (sA M1 140 (upd (mA M1 140) (p1 + (1 : Int32)).toNatClampNeg r3)) fun M2 =>
    f_RM_readRest_l92 p1 v2 M2)
  else (
    if v2 = (6 : Int32) then (
      cal (f_RM_count (1 : Int32) (99 : Int32) M) fun r6 M3 =>
      gd (inb (p1 + (1 : Int32)) 3840) <|
      bd (sA M3 140 (upd (mA M3 140) (p1 + (1 : Int32)).toNatClampNeg r6)) fun M4 =>
      f_RM_readRest_l92 p1 v2 M4)
    else (
      if v2 = (5 : Int32) then (
        cal (f_RM_readTest p1 M) fun _ M5 =>
        f_RM_readRest_l92 p1 v2 M5)
      else (
        if (4 : Int32) ≤ v2 then (
          f_RM_readRest_l92 p1 v2 M)
        else (
          gd (inb (4 : Int32) 3840) <|
          cal (f_RM_count (0 : Int32) ((mA M 140 (4 : Int32).toNatClampNeg) - (1 : Int32)) M) fun r12 M6 =>
          gd (inb (p1 + (1 : Int32)) 3840) <|
          bd (sA M6 140 (upd (mA M6 140) (p1 + (1 : Int32)).toNatClampNeg r12)) fun M7 =>
          f_RM_readRest_l92 p1 v2 M7))))
set_option maxHeartbeats 1000000 in
def f_RM_readStep_l169 (c_readStep : Int32 → kx_M → Option (Unit × kx_M)) (p1 : Int32) (x3 : Int32) (x4 : Int32) (M : kx_M) : Option (Unit × kx_M) :=
  if x3 = 0 then (
    gd (inb (x4 + (8 : Int32)) 3840) <|
    bd (sA M 140 (upd (mA M 140) (x4 + (8 : Int32)).toNatClampNeg (mI M 135 26))) fun M1 =>
    some ((), M1))
  else (
    cal (f_RM_isEnd M) fun r2 M2 =>
    cal (f_RM_must r2 M2) fun _ M3 =>
    cal (f_RM_isSign (59 : Int32) M3) fun r6 M4 =>
    cal (f_RM_must r6 M4) fun _ M5 =>
    gd (inb (x4 + (8 : Int32)) 3840) <|
    bd (sA M5 140 (upd (mA M5 140) (x4 + (8 : Int32)).toNatClampNeg (mI M5 135 26))) fun M6 =>
    some ((), M6))
set_option maxHeartbeats 1000000 in
def f_RM_readStep_l141 (c_readStep : Int32 → kx_M → Option (Unit × kx_M)) (p1 : Int32) : Nat → Int32 → Int32 → kx_M → Option (Unit × kx_M)
  | 0, _, _, _ => none
  | n + 1, x3, x4, M =>
    if x3 = 0 then (
      f_RM_readStep_l169 c_readStep p1 x3 x4 M)
    else (
      if (mI M 135 12) = 0 then (
        cal (f_RM_isEnd M) fun r1 M1 =>
        if r1 = 0 then (
          cal (c_readStep (p1 + (1 : Int32)) M1) fun _ M2 =>
          f_RM_readStep_l141 c_readStep p1 n x3 x4 M2)
        else (
          f_RM_readStep_l169 c_readStep p1 x3 x4 M1))
      else (
        f_RM_readStep_l169 c_readStep p1 x3 x4 M))
set_option maxHeartbeats 1000000 in
def f_RM_readStep_l82 (c_readStep : Int32 → kx_M → Option (Unit × kx_M)) (p1 : Int32) (x2 : Int32) (x3 : Int32) (M : kx_M) : Option (Unit × kx_M) :=
  if (mI M 135 12) ≤ 0 then (
    bd ((3570 : Int32) + ((9 : Int32) * (mI M 135 26))) fun v1 =>
    bd (sI M 135 26 ((mI M 135 26) + (1 : Int32))) fun M1 =>
    cal (f_RM_advance M1) fun _ M2 =>
    gd (inb v1 3840) <|
    bd (sA M2 140 (upd (mA M2 140) v1.toNatClampNeg x2)) fun M3 =>
    cal (f_RM_readRest v1 M3) fun _ M4 =>
    cal (f_RM_isSign (59 : Int32) M4) fun r7 M5 =>
    cal (f_RM_must r7 M5) fun _ M6 =>
    f_RM_readStep_l141 c_readStep p1 FU x3 v1 M6)
  else (
    some ((), M))
set_option maxHeartbeats 1000000 in
def f_RM_readStep_l56 (c_readStep : Int32 → kx_M → Option (Unit × kx_M)) (p1 : Int32) (x2 : Int32) (x3 : Int32) (M : kx_M) : Option (Unit × kx_M) :=
  if (mI M 135 12) = 0 then (
    if x3 = 0 then (
      f_RM_readStep_l82 c_readStep p1 x2 x3 M)
    else (
      if p1 = (3 : Int32) then (
        cal (f_RM_fail (7 : Int32) (mI M 135 15) M) fun _ M1 =>
        f_RM_readStep_l82 c_readStep p1 x2 x3 M1)
      else (
        f_RM_readStep_l82 c_readStep p1 x2 x3 M)))
  else (
    f_RM_readStep_l82 c_readStep p1 x2 x3 M)
set_option maxHeartbeats 1000000 in
def f_RM_readStep_l30 (c_readStep : Int32 → kx_M → Option (Unit × kx_M)) (p1 : Int32) (x2 : Int32) (x3 : Int32) (M : kx_M) : Option (Unit × kx_M) :=
  if (mI M 135 12) = 0 then (
    if (mI M 135 26) = (30 : Int32) then (
      cal (f_RM_fail (6 : Int32) (mI M 135 15) M) fun _ M1 =>
      f_RM_readStep_l56 c_readStep p1 x2 x3 M1)
    else (
      f_RM_readStep_l56 c_readStep p1 x2 x3 M))
  else (
    f_RM_readStep_l56 c_readStep p1 x2 x3 M)
set_option maxHeartbeats 1000000 in
def f_RM_readStep_l16 (c_readStep : Int32 → kx_M → Option (Unit × kx_M)) (p1 : Int32) (k30 : Int32 → Int32 → kx_M → Option (Unit × kx_M)) (x2 : Int32) (M : kx_M) : Option (Unit × kx_M) :=
  if 0 ≤ x2 then (
    k30 x2 (1 : Int32) M)
  else (
    cal (f_RM_amiss M) fun _ M1 =>
    k30 x2 (1 : Int32) M1)
set_option maxHeartbeats 1000000 in
def f_RM_readStep (c_readStep : Int32 → kx_M → Option (Unit × kx_M)) (p1 : Int32) (M : kx_M) : Option (Unit × kx_M) :=
  cal (f_RM_stepWord M) fun r1 M1 =>
  if r1 = (5 : Int32) then (
    f_RM_readStep_l16 c_readStep p1 (f_RM_readStep_l30 c_readStep p1) r1 M1)
  else (
    if r1 = (6 : Int32) then (
      f_RM_readStep_l16 c_readStep p1 (f_RM_readStep_l30 c_readStep p1) r1 M1)
    else (
      if 0 ≤ r1 then (
        f_RM_readStep_l30 c_readStep p1 r1 (0 : Int32) M1)
      else (
        cal (f_RM_amiss M1) fun _ M2 =>
        f_RM_readStep_l30 c_readStep p1 r1 (0 : Int32) M2)))
def g_RM_readStep : Nat → Int32 → kx_M → Option (Unit × kx_M)
  | 0, _, _ => none
  | n + 1, a1, M => f_RM_readStep (g_RM_readStep n) a1 M
set_option maxHeartbeats 1000000 in
def f_RM_centuries_l82 (p1 : Int32) : Nat → Int32 → kx_M → Option (Int32 × kx_M)
  | 0, _, _ => none
  | n + 1, x2, M =>
    if ((9 : Int32) * (mI M 135 26)) ≤ x2 then (
      some ((mI M 135 26), M))
    else (
      gd (inb ((3570 : Int32) + x2) 3840) <|
      gd (inb ((498 : Int32) + x2) 3840) <|
      bd (sA M 140 (upd (mA M 140) ((498 : Int32) + x2).toNatClampNeg (mA M 140 ((3570 : Int32) + x2).toNatClampNeg))) fun M1 =>
      bd (x2 + Int32.ofInt 1) fun v3 =>
      f_RM_centuries_l82 p1 n v3 M1)
set_option maxHeartbeats 1000000 in
def f_RM_centuries_l50 (p1 : Int32) (M : kx_M) : Option (Int32 × kx_M) :=
  cal (f_RM_isWell M) fun r1 M1 =>
  if r1 = 0 then (
    some (((-1) : Int32), M1))
  else (
    gd (inb (496 : Int32) 3840) <|
    bd (sA M1 140 (upd (mA M1 140) (496 : Int32).toNatClampNeg (1 : Int32))) fun M2 =>
    gd (inb (497 : Int32) 3840) <|
    bd (sA M2 140 (upd (mA M2 140) (497 : Int32).toNatClampNeg (mI M2 135 26))) fun M3 =>
    f_RM_centuries_l82 p1 FU (0 : Int32) M3)
set_option maxHeartbeats 1000000 in
def f_RM_centuries_l28 (p1 : Int32) : Nat → kx_M → Option (Int32 × kx_M)
  | 0, _ => none
  | n + 1, M =>
    if (mI M 135 12) = 0 then (
      if (mI M 135 14) = 0 then (
        f_RM_centuries_l50 p1 M)
      else (
        cal (g_RM_readStep 5 (0 : Int32) M) fun _ M1 =>
        f_RM_centuries_l28 p1 n M1))
    else (
      f_RM_centuries_l50 p1 M)
set_option maxHeartbeats 1000000 in
def f_RM_centuries (p1 : Int32) (M : kx_M) : Option (Int32 × kx_M) :=
  bd (sI M 135 1 (0 : Int32)) fun M1 =>
  bd (sI M1 135 0 (0 : Int32)) fun M2 =>
  cal (f_RM_starts p1 (300 : Int32) M2) fun r1 M3 =>
  if r1 = 0 then (
    some (((-1) : Int32), M3))
  else (
    bd (sI M3 135 26 (0 : Int32)) fun M4 =>
    f_RM_centuries_l28 p1 FU M4)
set_option maxHeartbeats 1000000 in
def f_RM_refuse (p1 : Int32) (M : kx_M) : Option (Int32 × kx_M) :=
  bd (sI M 135 0 p1) fun M1 =>
  some (((-1) : Int32), M1)
set_option maxHeartbeats 1000000 in
def f_RM_place (p0 : Int32) (p1 : Int32) (M : kx_M) : Option (Int32 × kx_M) :=
  some ((((8 : Int32) * p0) + p1), M)
set_option maxHeartbeats 1000000 in
def f_RM_isUndone (p1 : Int32) (M : kx_M) : Option (Int32 × kx_M) :=
  gd (inb ((304 : Int32) + p1) 3840) <|
  if (mA M 140 ((304 : Int32) + p1).toNatClampNeg) = (1 : Int32) then (
    some ((1 : Int32), M))
  else (
    some ((0 : Int32), M))
set_option maxHeartbeats 1000000 in
def f_RM_sumOf_l86 (p1 : Int32) (k17 : Int32 → Int32 → Int32 → kx_M → Option (Int32 × kx_M)) (x3 : Int32) (x4 : Int32) (s0 : Int32) (s1 : Nat) (s2 : Int32) (M : kx_M) : Option (Int32 × kx_M) :=
  cal (f_RM_place x3 x4 M) fun r1 M1 =>
  gd (aIb 1 s1 (s2 + r1)) <|
  bd (s0 + (mA M1 s1 (s2 + r1).toNatClampNeg)) fun v4 =>
  bd (x4 + Int32.ofInt 1) fun v5 =>
  k17 v4 x3 v5 M1
set_option maxHeartbeats 1000000 in
def f_RM_sumOf_l17 (p1 : Int32) (k4 : Int32 → Int32 → kx_M → Option (Int32 × kx_M)) : Nat → Int32 → Int32 → Int32 → kx_M → Option (Int32 × kx_M)
  | 0, _, _, _, _ => none
  | n + 1, x2, x3, x4, M =>
    gd (inb (0 : Int32) 3840) <|
    if (mA M 140 (0 : Int32).toNatClampNeg) ≤ x4 then (
      bd (x3 + Int32.ofInt 1) fun v2 =>
      k4 x2 v2 M)
    else (
      if p1 = (2 : Int32) then (
        cal (f_RM_place x3 x4 M) fun r3 M1 =>
        cal (f_RM_isUndone r3 M1) fun r5 M2 =>
        if r5 = 0 then (
          cal (f_RM_place x3 x4 M2) fun r7 M3 =>
          gd (inb ((208 : Int32) + r7) 3840) <|
          bd (x2 + (mA M3 140 ((208 : Int32) + r7).toNatClampNeg)) fun v10 =>
          bd (x4 + Int32.ofInt 1) fun v11 =>
          f_RM_sumOf_l17 p1 k4 n v10 x3 v11 M3)
        else (
          bd (x2 + (0 : Int32)) fun v12 =>
          bd (x4 + Int32.ofInt 1) fun v13 =>
          f_RM_sumOf_l17 p1 k4 n v12 x3 v13 M2))
      else (
        if p1 = 0 then (
          f_RM_sumOf_l86 p1 (f_RM_sumOf_l17 p1 k4 n) x3 x4 x2 140 (304 : Int32) M)
        else (
          f_RM_sumOf_l86 p1 (f_RM_sumOf_l17 p1 k4 n) x3 x4 x2 140 (400 : Int32) M)))
set_option maxHeartbeats 1000000 in
def f_RM_sumOf_l4 (p1 : Int32) : Nat → Int32 → Int32 → kx_M → Option (Int32 × kx_M)
  | 0, _, _, _ => none
  | n + 1, x2, x3, M =>
    gd (inb (4 : Int32) 3840) <|
    if (mA M 140 (4 : Int32).toNatClampNeg) ≤ x3 then (
      some (x2, M))
    else (
      f_RM_sumOf_l17 p1 (f_RM_sumOf_l4 p1 n) FU x2 x3 (0 : Int32) M)
set_option maxHeartbeats 1000000 in
def f_RM_sumOf (p1 : Int32) (M : kx_M) : Option (Int32 × kx_M) :=
  f_RM_sumOf_l4 p1 FU (0 : Int32) (0 : Int32) M
set_option maxHeartbeats 1000000 in
def f_RM_isSaid_l3 (p1 : Int32) (p2 : Int32) (p3 : Int32) : Nat → Int32 → kx_M → Option (Int32 × kx_M)
  | 0, _, _ => none
  | n + 1, x4, M =>
    gd (inb ((10 : Int32) + p1) 3840) <|
    if (mA M 140 ((10 : Int32) + p1).toNatClampNeg) ≤ x4 then (
      some ((1 : Int32), M))
    else (
      gd (inb (0 : Int32) 3840) <|
      if (mA M 140 (0 : Int32).toNatClampNeg) ≤ (p3 + x4) then (
        some ((0 : Int32), M))
      else (
        cal (f_RM_place p2 (p3 + x4) M) fun r3 M1 =>
        cal (f_RM_isUndone r3 M1) fun r5 M2 =>
        if r5 = 0 then (
          cal (f_RM_place p2 (p3 + x4) M2) fun r7 M3 =>
          gd (inb ((112 : Int32) + r7) 3840) <|
          gd (inb (((16 : Int32) + ((5 : Int32) * p1)) + x4) 3840) <|
          if (mA M3 140 ((112 : Int32) + r7).toNatClampNeg) = (mA M3 140 (((16 : Int32) + ((5 : Int32) * p1)) + x4).toNatClampNeg) then (
            bd (x4 + Int32.ofInt 1) fun v11 =>
            f_RM_isSaid_l3 p1 p2 p3 n v11 M3)
          else (
            some ((0 : Int32), M3)))
        else (
          some ((0 : Int32), M2))))
set_option maxHeartbeats 1000000 in
def f_RM_isSaid (p1 : Int32) (p2 : Int32) (p3 : Int32) (M : kx_M) : Option (Int32 × kx_M) :=
  f_RM_isSaid_l3 p1 p2 p3 FU (0 : Int32) M
set_option maxHeartbeats 1000000 in
def f_RM_timesIn_l5 (p1 : Int32) (p2 : Int32) : Nat → Int32 → Int32 → kx_M → Option (Int32 × kx_M)
  | 0, _, _, _ => none
  | n + 1, x3, x4, M =>
    gd (inb (0 : Int32) 3840) <|
    if (mA M 140 (0 : Int32).toNatClampNeg) ≤ x4 then (
      some (x3, M))
    else (
      cal (f_RM_isSaid p1 p2 x4 M) fun r2 M1 =>
      if r2 = 0 then (
        bd (x3 + (0 : Int32)) fun v4 =>
        bd (x4 + Int32.ofInt 1) fun v5 =>
        f_RM_timesIn_l5 p1 p2 n v4 v5 M1)
      else (
        bd (x3 + (1 : Int32)) fun v6 =>
        bd (x4 + Int32.ofInt 1) fun v7 =>
        f_RM_timesIn_l5 p1 p2 n v6 v7 M1))
set_option maxHeartbeats 1000000 in
def f_RM_timesIn (p1 : Int32) (p2 : Int32) (M : kx_M) : Option (Int32 × kx_M) :=
  f_RM_timesIn_l5 p1 p2 FU (0 : Int32) (0 : Int32) M
set_option maxHeartbeats 1000000 in
def f_RM_times_l4 (p1 : Int32) : Nat → Int32 → Int32 → kx_M → Option (Int32 × kx_M)
  | 0, _, _, _ => none
  | n + 1, x2, x3, M =>
    gd (inb (4 : Int32) 3840) <|
    if (mA M 140 (4 : Int32).toNatClampNeg) ≤ x3 then (
      some (x2, M))
    else (
      cal (f_RM_timesIn p1 x3 M) fun r2 M1 =>
      bd (x2 + r2) fun v4 =>
      bd (x3 + Int32.ofInt 1) fun v5 =>
      f_RM_times_l4 p1 n v4 v5 M1)
set_option maxHeartbeats 1000000 in
def f_RM_times (p1 : Int32) (M : kx_M) : Option (Int32 × kx_M) :=
  f_RM_times_l4 p1 FU (0 : Int32) (0 : Int32) M
set_option maxHeartbeats 1000000 in
def f_RM_saidOnes_l4 : Nat → Int32 → Int32 → kx_M → Option (Int32 × kx_M)
  | 0, _, _, _ => none
  | n + 1, x1, x2, M =>
    gd (inb (3 : Int32) 3840) <|
    if (mA M 140 (3 : Int32).toNatClampNeg) ≤ x2 then (
      some (x1, M))
    else (
      cal (f_RM_times x2 M) fun r2 M1 =>
      if r2 ≤ 0 then (
        bd (x1 ||| (0 : Int32)) fun v4 =>
        bd (x2 + Int32.ofInt 1) fun v5 =>
        f_RM_saidOnes_l4 n v4 v5 M1)
      else (
        bd (x1 ||| ((1 : Int32) <<< (x2 &&& 31))) fun v6 =>
        bd (x2 + Int32.ofInt 1) fun v7 =>
        f_RM_saidOnes_l4 n v6 v7 M1))
set_option maxHeartbeats 1000000 in
def f_RM_saidOnes (M : kx_M) : Option (Int32 × kx_M) :=
  f_RM_saidOnes_l4 FU (0 : Int32) (0 : Int32) M
set_option maxHeartbeats 1000000 in
def f_RM_many (p1 : Int32) (M : kx_M) : Option (Int32 × kx_M) :=
  bd (sI M 135 1 (0 : Int32)) fun M1 =>
  bd (sI M1 135 0 (0 : Int32)) fun M2 =>
  cal (f_RM_isIn (p1.toInt64) (0 : Int64) (9 : Int64) M2) fun r1 M3 =>
  if r1 = 0 then (
    cal (f_RM_refuse (5 : Int32) M3) fun r3 M4 =>
    some (r3, M4))
  else (
    if (6 : Int32) ≤ p1 then (
      if (9 : Int32) ≤ p1 then (
        cal (f_RM_saidOnes M3) fun r5 M5 =>
        some (r5, M5))
      else (
        cal (f_RM_sumOf (p1 - (6 : Int32)) M3) fun r7 M6 =>
        some (r7, M6)))
    else (
      gd (inb p1 3840) <|
      some ((mA M3 140 p1.toNatClampNeg), M3)))
set_option maxHeartbeats 1000000 in
def f_RM_isRowAt (p1 : Int32) (M : kx_M) : Option (Int32 × kx_M) :=
  gd (inb (4 : Int32) 3840) <|
  cal (f_RM_isIn (p1.toInt64) (0 : Int64) (((mA M 140 (4 : Int32).toNatClampNeg) - (1 : Int32)).toInt64) M) fun r2 M1 =>
  gd (b01 r2) <|
  some (r2, M1)
set_option maxHeartbeats 1000000 in
def f_RM_isColumn (p1 : Int32) (M : kx_M) : Option (Int32 × kx_M) :=
  gd (inb (0 : Int32) 3840) <|
  cal (f_RM_isIn (p1.toInt64) (0 : Int64) (((mA M 140 (0 : Int32).toNatClampNeg) - (1 : Int32)).toInt64) M) fun r2 M1 =>
  gd (b01 r2) <|
  some (r2, M1)
set_option maxHeartbeats 1000000 in
def f_RM_stitch (p1 : Int32) (p2 : Int32) (p3 : Int32) (M : kx_M) : Option (Int32 × kx_M) :=
  bd (sI M 135 1 (0 : Int32)) fun M1 =>
  bd (sI M1 135 0 (0 : Int32)) fun M2 =>
  cal (f_RM_isRowAt p1 M2) fun r1 M3 =>
  if r1 = 0 then (
    cal (f_RM_refuse (2 : Int32) M3) fun r3 M4 =>
    some (r3, M4))
  else (
    cal (f_RM_isColumn p2 M3) fun r5 M5 =>
    if r5 = 0 then (
      cal (f_RM_refuse (2 : Int32) M5) fun r7 M6 =>
      some (r7, M6))
    else (
      cal (f_RM_isIn (p3.toInt64) (0 : Int64) (3 : Int64) M5) fun r9 M7 =>
      if r9 = 0 then (
        cal (f_RM_refuse (5 : Int32) M7) fun r11 M8 =>
        some (r11, M8))
      else (
        cal (f_RM_place p1 p2 M7) fun r13 M9 =>
        gd (inb (((112 : Int32) + ((96 : Int32) * p3)) + r13) 3840) <|
        some ((mA M9 140 (((112 : Int32) + ((96 : Int32) * p3)) + r13).toNatClampNeg), M9))))
set_option maxHeartbeats 1000000 in
def f_RM_queenOf (p1 : Int32) (M : kx_M) : Option (Int32 × kx_M) :=
  bd (sI M 135 1 (0 : Int32)) fun M1 =>
  bd (sI M1 135 0 (0 : Int32)) fun M2 =>
  cal (f_RM_isRowAt p1 M2) fun r1 M3 =>
  if r1 = 0 then (
    cal (f_RM_refuse (2 : Int32) M3) fun r3 M4 =>
    some (r3, M4))
  else (
    gd (inb ((100 : Int32) + p1) 3840) <|
    some ((mA M3 140 ((100 : Int32) + p1).toNatClampNeg), M3))
set_option maxHeartbeats 1000000 in
def f_RM_isQueenAt (p1 : Int32) (M : kx_M) : Option (Int32 × kx_M) :=
  gd (inb (2 : Int32) 3840) <|
  cal (f_RM_isIn (p1.toInt64) (0 : Int64) (((mA M 140 (2 : Int32).toNatClampNeg) - (1 : Int32)).toInt64) M) fun r2 M1 =>
  gd (b01 r2) <|
  some (r2, M1)
set_option maxHeartbeats 1000000 in
def f_RM_wool (p1 : Int32) (M : kx_M) : Option (Int32 × kx_M) :=
  bd (sI M 135 1 (0 : Int32)) fun M1 =>
  bd (sI M1 135 0 (0 : Int32)) fun M2 =>
  cal (f_RM_isQueenAt p1 M2) fun r1 M3 =>
  if r1 = 0 then (
    cal (f_RM_refuse (2 : Int32) M3) fun r3 M4 =>
    some (r3, M4))
  else (
    gd (inb ((6 : Int32) + p1) 3840) <|
    some ((mA M3 140 ((6 : Int32) + p1).toNatClampNeg), M3))
set_option maxHeartbeats 1000000 in
def f_RM_isClauseAt (p1 : Int32) (M : kx_M) : Option (Int32 × kx_M) :=
  gd (inb (3 : Int32) 3840) <|
  cal (f_RM_isIn (p1.toInt64) (0 : Int64) (((mA M 140 (3 : Int32).toNatClampNeg) - (1 : Int32)).toInt64) M) fun r2 M1 =>
  gd (b01 r2) <|
  some (r2, M1)
set_option maxHeartbeats 1000000 in
def f_RM_length (p1 : Int32) (M : kx_M) : Option (Int32 × kx_M) :=
  bd (sI M 135 1 (0 : Int32)) fun M1 =>
  bd (sI M1 135 0 (0 : Int32)) fun M2 =>
  cal (f_RM_isClauseAt p1 M2) fun r1 M3 =>
  if r1 = 0 then (
    cal (f_RM_refuse (2 : Int32) M3) fun r3 M4 =>
    some (r3, M4))
  else (
    gd (inb ((10 : Int32) + p1) 3840) <|
    some ((mA M3 140 ((10 : Int32) + p1).toNatClampNeg), M3))
set_option maxHeartbeats 1000000 in
def f_RM_kind (p1 : Int32) (p2 : Int32) (M : kx_M) : Option (Int32 × kx_M) :=
  bd (sI M 135 1 (0 : Int32)) fun M1 =>
  bd (sI M1 135 0 (0 : Int32)) fun M2 =>
  cal (f_RM_isClauseAt p1 M2) fun r1 M3 =>
  if r1 = 0 then (
    cal (f_RM_refuse (2 : Int32) M3) fun r3 M4 =>
    some (r3, M4))
  else (
    gd (inb ((10 : Int32) + p1) 3840) <|
    cal (f_RM_isIn (p2.toInt64) (0 : Int64) (((mA M3 140 ((10 : Int32) + p1).toNatClampNeg) - (1 : Int32)).toInt64) M3) fun r6 M5 =>
    if r6 = 0 then (
      cal (f_RM_refuse (8 : Int32) M5) fun r8 M6 =>
      some (r8, M6))
    else (
      gd (inb (((16 : Int32) + ((5 : Int32) * p1)) + p2) 3840) <|
      some ((mA M5 140 (((16 : Int32) + ((5 : Int32) * p1)) + p2).toNatClampNeg), M5)))
set_option maxHeartbeats 1000000 in
def f_RM_clash (p1 : Int32) (p2 : Int32) (M : kx_M) : Option (Int32 × kx_M) :=
  bd (sI M 135 1 (0 : Int32)) fun M1 =>
  bd (sI M1 135 0 (0 : Int32)) fun M2 =>
  cal (f_RM_isClauseAt p1 M2) fun r1 M3 =>
  if r1 = 0 then (
    cal (f_RM_refuse (2 : Int32) M3) fun r3 M4 =>
    some (r3, M4))
  else (
    cal (f_RM_isClauseAt p2 M3) fun r5 M5 =>
    if r5 = 0 then (
      cal (f_RM_refuse (2 : Int32) M5) fun r7 M6 =>
      some (r7, M6))
    else (
      if p1 = p2 then (
        cal (f_RM_refuse (9 : Int32) M5) fun r9 M7 =>
        some (r9, M7))
      else (
        gd (inb ((46 : Int32) + p1) 3840) <|
        cal (f_RM_has (mA M5 140 ((46 : Int32) + p1).toNatClampNeg) p2 M5) fun r12 M8 =>
        if r12 = 0 then (
          some ((0 : Int32), M8))
        else (
          some ((1 : Int32), M8)))))
set_option maxHeartbeats 1000000 in
def f_RM_worth (p1 : Int32) (p2 : Int32) (p3 : Int32) (M : kx_M) : Option (Int32 × kx_M) :=
  bd (sI M 135 1 (0 : Int32)) fun M1 =>
  bd (sI M1 135 0 (0 : Int32)) fun M2 =>
  cal (f_RM_isQueenAt p1 M2) fun r1 M3 =>
  if r1 = 0 then (
    cal (f_RM_refuse (2 : Int32) M3) fun r3 M4 =>
    some (r3, M4))
  else (
    cal (f_RM_isClauseAt p2 M3) fun r5 M5 =>
    if r5 = 0 then (
      cal (f_RM_refuse (2 : Int32) M5) fun r7 M6 =>
      some (r7, M6))
    else (
      cal (f_RM_isIn (p3.toInt64) (0 : Int64) (1 : Int64) M5) fun r9 M7 =>
      if r9 = 0 then (
        cal (f_RM_refuse (5 : Int32) M7) fun r11 M8 =>
        some (r11, M8))
      else (
        gd (inb ((((52 : Int32) + ((24 : Int32) * p3)) + ((6 : Int32) * p1)) + p2) 3840) <|
        some ((mA M7 140 ((((52 : Int32) + ((24 : Int32) * p3)) + ((6 : Int32) * p1)) + p2).toNatClampNeg), M7))))
set_option maxHeartbeats 1000000 in
def f_RM_isTray (p1 : Int32) (M : kx_M) : Option (Int32 × kx_M) :=
  cal (f_RM_isIn (p1.toInt64) (0 : Int64) (3 : Int64) M) fun r1 M1 =>
  gd (b01 r1) <|
  some (r1, M1)
set_option maxHeartbeats 1000000 in
def f_RM_copyRow_l76 (p1 : Int32) (p2 : Int32) : Nat → Int32 → kx_M → Option (Int32 × kx_M)
  | 0, _, _ => none
  | n + 1, x3, M =>
    gd (inb (0 : Int32) 3840) <|
    if (mA M 140 (0 : Int32).toNatClampNeg) ≤ x3 then (
      gd (inb (0 : Int32) 3840) <|
      some ((mA M 140 (0 : Int32).toNatClampNeg), M))
    else (
      cal (f_RM_place p1 x3 M) fun r3 M1 =>
      cal (f_RM_isUndone r3 M1) fun r5 M2 =>
      if r5 = 0 then (
        cal (f_RM_place p1 x3 M2) fun r7 M3 =>
        gd (inb ((112 : Int32) + r7) 3840) <|
        gd (inb (((60 : Int32) * p2) + x3) 240) <|
        bd (sB M3 138 (vp_updL (mB M3 138) (((60 : Int32) * p2) + x3).toNatClampNeg ((mA M3 140 ((112 : Int32) + r7).toNatClampNeg).toInt64))) fun M4 =>
        bd (x3 + Int32.ofInt 1) fun v11 =>
        f_RM_copyRow_l76 p1 p2 n v11 M4)
      else (
        gd (inb (((60 : Int32) * p2) + x3) 240) <|
        bd (sB M2 138 (vp_updL (mB M2 138) (((60 : Int32) * p2) + x3).toNatClampNeg ((-1) : Int64))) fun M5 =>
        bd (x3 + Int32.ofInt 1) fun v13 =>
        f_RM_copyRow_l76 p1 p2 n v13 M5))
set_option maxHeartbeats 1000000 in
def f_RM_copyRow (p1 : Int32) (p2 : Int32) (M : kx_M) : Option (Int32 × kx_M) :=
  bd (sI M 135 1 (0 : Int32)) fun M1 =>
  bd (sI M1 135 0 (0 : Int32)) fun M2 =>
  cal (f_RM_isTray p2 M2) fun r1 M3 =>
  if r1 = 0 then (
    cal (f_RM_refuse (1 : Int32) M3) fun r3 M4 =>
    some (r3, M4))
  else (
    cal (f_RM_isRowAt p1 M3) fun r5 M5 =>
    if r5 = 0 then (
      cal (f_RM_refuse (2 : Int32) M5) fun r7 M6 =>
      some (r7, M6))
    else (
      gd (inb p2 4) <|
      if 0 ≤ (mA M5 137 p2.toNatClampNeg) then (
        gd (inb p2 4) <|
        gd (inb (0 : Int32) 3840) <|
        if (mA M5 140 (0 : Int32).toNatClampNeg) ≤ (mA M5 137 p2.toNatClampNeg) then (
          f_RM_copyRow_l76 p1 p2 FU (0 : Int32) M5)
        else (
          cal (f_RM_refuse (4 : Int32) M5) fun r12 M7 =>
          some (r12, M7)))
      else (
        cal (f_RM_refuse (3 : Int32) M5) fun r14 M8 =>
        some (r14, M8))))
set_option maxHeartbeats 1000000 in
def f_RM_isLoose (p1 : Int32) (M : kx_M) : Option (Int32 × kx_M) :=
  cal (f_RM_isUndone p1 M) fun r1 M1 =>
  if r1 = 0 then (
    gd (inb ((400 : Int32) + p1) 3840) <|
    if (mA M1 140 ((400 : Int32) + p1).toNatClampNeg) = 0 then (
      some ((1 : Int32), M1))
    else (
      some ((0 : Int32), M1)))
  else (
    some ((0 : Int32), M1))
set_option maxHeartbeats 1000000 in
def f_RM_beside (p1 : Int32) (p2 : Int32) (M : kx_M) : Option (Int32 × kx_M) :=
  cal (f_RM_isColumn p2 M) fun r1 M1 =>
  if r1 = 0 then (
    some ((0 : Int32), M1))
  else (
    cal (f_RM_place p1 p2 M1) fun r3 M2 =>
    gd (inb ((112 : Int32) + r3) 3840) <|
    if (mA M2 140 ((112 : Int32) + r3).toNatClampNeg) = (3 : Int32) then (
      some ((1 : Int32), M2))
    else (
      cal (f_RM_place p1 p2 M2) fun r6 M3 =>
      cal (f_RM_isUndone r6 M3) fun r8 M4 =>
      if r8 = 0 then (
        some ((0 : Int32), M4))
      else (
        some ((1 : Int32), M4))))
set_option maxHeartbeats 1000000 in
def f_RM_climbs (p1 : Int32) (p2 : Int32) (M : kx_M) : Option (Int32 × kx_M) :=
  cal (f_RM_place p1 p2 M) fun r1 M1 =>
  cal (f_RM_isUndone r1 M1) fun r3 M2 =>
  if r3 = 0 then (
    gd (inb ((400 : Int32) + r1) 3840) <|
    if (mA M2 140 ((400 : Int32) + r1).toNatClampNeg) = 0 then (
      gd (inb ((112 : Int32) + r1) 3840) <|
      if (mA M2 140 ((112 : Int32) + r1).toNatClampNeg) = 0 then (
        cal (f_RM_place (p1 - (1 : Int32)) p2 M2) fun r7 M3 =>
        cal (f_RM_isUndone r7 M3) fun r9 M4 =>
        if r9 = 0 then (
          some ((0 : Int32), M4))
        else (
          some ((1 : Int32), M4)))
      else (
        some ((0 : Int32), M2)))
    else (
      some ((0 : Int32), M2)))
  else (
    some ((0 : Int32), M2))
set_option maxHeartbeats 1000000 in
def f_RM_withLadders_l21 (p1 : Int32) (k4 : Int32 → Int32 → kx_M → Option (Int32 × kx_M)) : Nat → Int32 → Int32 → Int32 → kx_M → Option (Int32 × kx_M)
  | 0, _, _, _, _ => none
  | n + 1, x2, x3, x4, M =>
    gd (inb (0 : Int32) 3840) <|
    if (mA M 140 (0 : Int32).toNatClampNeg) ≤ x4 then (
      bd (x3 + Int32.ofInt 1) fun v2 =>
      k4 x2 v2 M)
    else (
      cal (f_RM_climbs x3 x4 M) fun r3 M1 =>
      if r3 = 0 then (
        bd (x4 + Int32.ofInt 1) fun v5 =>
        f_RM_withLadders_l21 p1 k4 n x2 x3 v5 M1)
      else (
        cal (f_RM_place x3 x4 M1) fun r6 M2 =>
        gd (inb ((304 : Int32) + r6) 3840) <|
        bd (sA M2 140 (upd (mA M2 140) ((304 : Int32) + r6).toNatClampNeg (1 : Int32))) fun M3 =>
        bd (x2 + Int32.ofInt 1) fun v9 =>
        bd (x4 + Int32.ofInt 1) fun v10 =>
        f_RM_withLadders_l21 p1 k4 n v9 x3 v10 M3))
set_option maxHeartbeats 1000000 in
def f_RM_withLadders_l4 (p1 : Int32) : Nat → Int32 → Int32 → kx_M → Option (Int32 × kx_M)
  | 0, _, _, _ => none
  | n + 1, x2, x3, M =>
    gd (inb (4 : Int32) 3840) <|
    if (mA M 140 (4 : Int32).toNatClampNeg) ≤ x3 then (
      some (x2, M))
    else (
      if p1 ≤ 0 then (
        some (x2, M))
      else (
        f_RM_withLadders_l21 p1 (f_RM_withLadders_l4 p1 n) FU x2 x3 (0 : Int32) M))
set_option maxHeartbeats 1000000 in
def f_RM_withLadders (p1 : Int32) (M : kx_M) : Option (Int32 × kx_M) :=
  f_RM_withLadders_l4 p1 FU p1 (1 : Int32) M
set_option maxHeartbeats 1000000 in
def f_RM_goesYear_l97 (k85 : Int32 → Int32 → kx_M → Option (Int32 × kx_M)) : Nat → Int32 → Int32 → Int32 → kx_M → Option (Int32 × kx_M)
  | 0, _, _, _, _ => none
  | n + 1, x1, x2, x3, M =>
    gd (inb (0 : Int32) 3840) <|
    if (mA M 140 (0 : Int32).toNatClampNeg) ≤ x3 then (
      bd (x2 + Int32.ofInt 1) fun v2 =>
      k85 x1 v2 M)
    else (
      cal (f_RM_place x2 x3 M) fun r3 M1 =>
      cal (f_RM_isLoose r3 M1) fun r5 M2 =>
      if r5 = 0 then (
        bd (x3 + Int32.ofInt 1) fun v7 =>
        f_RM_goesYear_l97 k85 n x1 x2 v7 M2)
      else (
        gd (inb ((208 : Int32) + r3) 3840) <|
        gd (inb r3 96) <|
        gd (inb ((208 : Int32) + r3) 3840) <|
        bd (sA M2 140 (upd (mA M2 140) ((208 : Int32) + r3).toNatClampNeg (if ((mA M2 140 ((208 : Int32) + r3).toNatClampNeg) + (mA M2 144 r3.toNatClampNeg)) < (99 : Int32) then ((mA M2 140 ((208 : Int32) + r3).toNatClampNeg) + (mA M2 144 r3.toNatClampNeg)) else (99 : Int32)))) fun M3 =>
        gd (inb ((208 : Int32) + r3) 3840) <|
        gd (inb (1 : Int32) 3840) <|
        if (mA M3 140 (1 : Int32).toNatClampNeg) ≤ (mA M3 140 ((208 : Int32) + r3).toNatClampNeg) then (
          gd (inb ((304 : Int32) + r3) 3840) <|
          bd (sA M3 140 (upd (mA M3 140) ((304 : Int32) + r3).toNatClampNeg (1 : Int32))) fun M4 =>
          bd (x1 + Int32.ofInt 1) fun v14 =>
          bd (x3 + Int32.ofInt 1) fun v15 =>
          f_RM_goesYear_l97 k85 n v14 x2 v15 M4)
        else (
          bd (x3 + Int32.ofInt 1) fun v16 =>
          f_RM_goesYear_l97 k85 n x1 x2 v16 M3)))
set_option maxHeartbeats 1000000 in
def f_RM_goesYear_l85 : Nat → Int32 → Int32 → kx_M → Option (Int32 × kx_M)
  | 0, _, _, _ => none
  | n + 1, x1, x2, M =>
    gd (inb (4 : Int32) 3840) <|
    if (mA M 140 (4 : Int32).toNatClampNeg) ≤ x2 then (
      gd (inb (5 : Int32) 3840) <|
      gd (inb (5 : Int32) 3840) <|
      bd (sA M 140 (upd (mA M 140) (5 : Int32).toNatClampNeg ((mA M 140 (5 : Int32).toNatClampNeg) + (1 : Int32)))) fun M1 =>
      cal (f_RM_withLadders x1 M1) fun r4 M2 =>
      some (r4, M2))
    else (
      f_RM_goesYear_l97 (f_RM_goesYear_l85 n) FU x1 x2 (0 : Int32) M)
set_option maxHeartbeats 1000000 in
def f_RM_goesYear_l14 (k2 : Int32 → kx_M → Option (Int32 × kx_M)) : Nat → Int32 → Int32 → kx_M → Option (Int32 × kx_M)
  | 0, _, _, _ => none
  | n + 1, x1, x2, M =>
    gd (inb (0 : Int32) 3840) <|
    if (mA M 140 (0 : Int32).toNatClampNeg) ≤ x2 then (
      bd (x1 + Int32.ofInt 1) fun v2 =>
      k2 v2 M)
    else (
      cal (f_RM_place x1 x2 M) fun r3 M1 =>
      cal (f_RM_place x1 x2 M1) fun r5 M2 =>
      cal (f_RM_isLoose r5 M2) fun r7 M3 =>
      if r7 = 0 then (
        gd (inb r3 96) <|
        bd (sA M3 144 (upd (mA M3 144) r3.toNatClampNeg (0 : Int32))) fun M4 =>
        bd (x2 + Int32.ofInt 1) fun v10 =>
        f_RM_goesYear_l14 k2 n x1 v10 M4)
      else (
        cal (f_RM_beside x1 (x2 - (1 : Int32)) M3) fun r11 M5 =>
        cal (f_RM_beside x1 (x2 + (1 : Int32)) M5) fun r13 M6 =>
        gd (inb r3 96) <|
        bd (sA M6 144 (upd (mA M6 144) r3.toNatClampNeg (((1 : Int32) + r11) + r13))) fun M7 =>
        bd (x2 + Int32.ofInt 1) fun v16 =>
        f_RM_goesYear_l14 k2 n x1 v16 M7))
set_option maxHeartbeats 1000000 in
def f_RM_goesYear_l2 : Nat → Int32 → kx_M → Option (Int32 × kx_M)
  | 0, _, _ => none
  | n + 1, x1, M =>
    gd (inb (4 : Int32) 3840) <|
    if (mA M 140 (4 : Int32).toNatClampNeg) ≤ x1 then (
      f_RM_goesYear_l85 FU (0 : Int32) (0 : Int32) M)
    else (
      f_RM_goesYear_l14 (f_RM_goesYear_l2 n) FU x1 (0 : Int32) M)
set_option maxHeartbeats 1000000 in
def f_RM_goesYear (M : kx_M) : Option (Int32 × kx_M) :=
  f_RM_goesYear_l2 FU (0 : Int32) M
set_option maxHeartbeats 1000000 in
def f_RM_year_l53 (p1 : Int32) : Nat → Int32 → Int32 → kx_M → Option (Int32 × kx_M)
  | 0, _, _, _ => none
  | n + 1, x2, x3, M =>
    if p1 ≤ x3 then (
      some (x2, M))
    else (
      cal (f_RM_goesYear M) fun r1 M1 =>
      bd (x2 + r1) fun v3 =>
      bd (x3 + Int32.ofInt 1) fun v4 =>
      f_RM_year_l53 p1 n v3 v4 M1)
set_option maxHeartbeats 1000000 in
def f_RM_year (p1 : Int32) (M : kx_M) : Option (Int32 × kx_M) :=
  bd (sI M 135 1 (0 : Int32)) fun M1 =>
  bd (sI M1 135 0 (0 : Int32)) fun M2 =>
  cal (f_RM_isIn (p1.toInt64) (1 : Int64) (99 : Int64) M2) fun r1 M3 =>
  if r1 = 0 then (
    cal (f_RM_refuse (5 : Int32) M3) fun r3 M4 =>
    some (r3, M4))
  else (
    gd (inb (5 : Int32) 3840) <|
    if ((mA M3 140 (5 : Int32).toNatClampNeg) + p1) ≤ (9999 : Int32) then (
      f_RM_year_l53 p1 FU (0 : Int32) (0 : Int32) M3)
    else (
      cal (f_RM_refuse (7 : Int32) M3) fun r6 M5 =>
      some (r6, M5)))
set_option maxHeartbeats 1000000 in
def f_RM_isSide (p0 : Int32) (M : kx_M) : Option (Int32 × kx_M) :=
  if p0 = 0 then (
    some ((1 : Int32), M))
  else (
    if p0 = (1 : Int32) then (
      some ((1 : Int32), M))
    else (
      some ((0 : Int32), M)))
set_option maxHeartbeats 1000000 in
def f_RM_pulls_l37 (p1 : Int32) (p2 : Int32) (k5 : Int32 → Int32 → kx_M → Option (Int32 × kx_M)) (x3 : Int32) (x4 : Int32) (s0 : Int32) (s1 : Int32) (M : kx_M) : Option (Int32 × kx_M) :=
  cal (f_RM_place s0 s1 M) fun r1 M1 =>
  cal (f_RM_isUndone r1 M1) fun r3 M2 =>
  if r3 = 0 then (
    gd (inb ((400 : Int32) + r1) 3840) <|
    if (mA M2 140 ((400 : Int32) + r1).toNatClampNeg) = (1 : Int32) then (
      cal (f_RM_withLadders x3 M2) fun r6 M3 =>
      some (r6, M3))
    else (
      gd (inb ((112 : Int32) + r1) 3840) <|
      if (mA M2 140 ((112 : Int32) + r1).toNatClampNeg) = (2 : Int32) then (
        cal (f_RM_withLadders x3 M2) fun r9 M4 =>
        some (r9, M4))
      else (
        gd (inb ((304 : Int32) + r1) 3840) <|
        bd (sA M2 140 (upd (mA M2 140) ((304 : Int32) + r1).toNatClampNeg (1 : Int32))) fun M5 =>
        bd (x3 + Int32.ofInt 1) fun v12 =>
        bd (x4 + Int32.ofInt 1) fun v13 =>
        k5 v12 v13 M5)))
  else (
    bd (x4 + Int32.ofInt 1) fun v14 =>
    k5 x3 v14 M2)
set_option maxHeartbeats 1000000 in
def f_RM_pulls_l5 (p1 : Int32) (p2 : Int32) : Nat → Int32 → Int32 → kx_M → Option (Int32 × kx_M)
  | 0, _, _, _ => none
  | n + 1, x3, x4, M =>
    gd (inb (0 : Int32) 3840) <|
    if (mA M 140 (0 : Int32).toNatClampNeg) ≤ x4 then (
      cal (f_RM_withLadders x3 M) fun r2 M1 =>
      some (r2, M1))
    else (
      if p2 = 0 then (
        f_RM_pulls_l37 p1 p2 (f_RM_pulls_l5 p1 p2 n) x3 x4 p1 x4 M)
      else (
        gd (inb (0 : Int32) 3840) <|
        f_RM_pulls_l37 p1 p2 (f_RM_pulls_l5 p1 p2 n) x3 x4 p1 (((mA M 140 (0 : Int32).toNatClampNeg) - (1 : Int32)) - x4) M))
set_option maxHeartbeats 1000000 in
def f_RM_pulls (p1 : Int32) (p2 : Int32) (M : kx_M) : Option (Int32 × kx_M) :=
  f_RM_pulls_l5 p1 p2 FU (0 : Int32) (0 : Int32) M
set_option maxHeartbeats 1000000 in
def f_RM_pull (p1 : Int32) (p2 : Int32) (M : kx_M) : Option (Int32 × kx_M) :=
  bd (sI M 135 1 (0 : Int32)) fun M1 =>
  bd (sI M1 135 0 (0 : Int32)) fun M2 =>
  cal (f_RM_isRowAt p1 M2) fun r1 M3 =>
  if r1 = 0 then (
    cal (f_RM_refuse (2 : Int32) M3) fun r3 M4 =>
    some (r3, M4))
  else (
    cal (f_RM_isSide p2 M3) fun r5 M5 =>
    if r5 = 0 then (
      cal (f_RM_refuse (5 : Int32) M5) fun r7 M6 =>
      some (r7, M6))
    else (
      cal (f_RM_pulls p1 p2 M5) fun r9 M7 =>
      some (r9, M7)))
set_option maxHeartbeats 1000000 in
def f_RM_eats (p1 : Int32) (p2 : Int32) (M : kx_M) : Option (Int32 × kx_M) :=
  cal (f_RM_place p1 p2 M) fun r1 M1 =>
  cal (f_RM_isLoose r1 M1) fun r3 M2 =>
  if r3 = 0 then (
    some (((-1) : Int32), M2))
  else (
    cal (f_RM_place p1 p2 M2) fun r5 M3 =>
    gd (inb ((304 : Int32) + r5) 3840) <|
    bd (sA M3 140 (upd (mA M3 140) ((304 : Int32) + r5).toNatClampNeg (1 : Int32))) fun M4 =>
    cal (f_RM_withLadders (1 : Int32) M4) fun r8 M5 =>
    some (r8, M5))
set_option maxHeartbeats 1000000 in
def f_RM_moth (p1 : Int32) (p2 : Int32) (M : kx_M) : Option (Int32 × kx_M) :=
  bd (sI M 135 1 (0 : Int32)) fun M1 =>
  bd (sI M1 135 0 (0 : Int32)) fun M2 =>
  cal (f_RM_isRowAt p1 M2) fun r1 M3 =>
  if r1 = 0 then (
    cal (f_RM_refuse (2 : Int32) M3) fun r3 M4 =>
    some (r3, M4))
  else (
    cal (f_RM_isColumn p2 M3) fun r5 M5 =>
    if r5 = 0 then (
      cal (f_RM_refuse (2 : Int32) M5) fun r7 M6 =>
      some (r7, M6))
    else (
      cal (f_RM_eats p1 p2 M5) fun r9 M7 =>
      if 0 ≤ r9 then (
        some (r9, M7))
      else (
        cal (f_RM_refuse (9 : Int32) M7) fun r11 M8 =>
        some (r11, M8))))
set_option maxHeartbeats 1000000 in
def f_RM_darns (p1 : Int32) (M : kx_M) : Option (Int32 × kx_M) :=
  gd (inb ((208 : Int32) + p1) 3840) <|
  bd (mA M 140 ((208 : Int32) + p1).toNatClampNeg) fun v2 =>
  gd (inb ((208 : Int32) + p1) 3840) <|
  bd (sA M 140 (upd (mA M 140) ((208 : Int32) + p1).toNatClampNeg (0 : Int32))) fun M1 =>
  gd (inb ((304 : Int32) + p1) 3840) <|
  bd (sA M1 140 (upd (mA M1 140) ((304 : Int32) + p1).toNatClampNeg (0 : Int32))) fun M2 =>
  gd (inb ((400 : Int32) + p1) 3840) <|
  bd (sA M2 140 (upd (mA M2 140) ((400 : Int32) + p1).toNatClampNeg (1 : Int32))) fun M3 =>
  some (v2, M3)
set_option maxHeartbeats 1000000 in
def f_RM_darn (p1 : Int32) (p2 : Int32) (M : kx_M) : Option (Int32 × kx_M) :=
  bd (sI M 135 1 (0 : Int32)) fun M1 =>
  bd (sI M1 135 0 (0 : Int32)) fun M2 =>
  cal (f_RM_isRowAt p1 M2) fun r1 M3 =>
  if r1 = 0 then (
    cal (f_RM_refuse (2 : Int32) M3) fun r3 M4 =>
    some (r3, M4))
  else (
    cal (f_RM_isColumn p2 M3) fun r5 M5 =>
    if r5 = 0 then (
      cal (f_RM_refuse (2 : Int32) M5) fun r7 M6 =>
      some (r7, M6))
    else (
      cal (f_RM_place p1 p2 M5) fun r9 M7 =>
      cal (f_RM_darns r9 M7) fun r11 M8 =>
      some (r11, M8)))
set_option maxHeartbeats 1000000 in
def f_RM_numberOf (p1 : Int32) (p2 : Int32) (M : kx_M) : Option (Int64 × kx_M) :=
  gd (inb (((60 : Int32) * p1) + p2) 240) <|
  some ((mB M 138 (((60 : Int32) * p1) + p2).toNatClampNeg), M)
set_option maxHeartbeats 1000000 in
def f_RM_whyNoRun_l30 (p1 : Int32) (p2 : Int32) : Nat → Int32 → kx_M → Option (Int32 × kx_M)
  | 0, _, _ => none
  | n + 1, x3, M =>
    gd (inb (0 : Int32) 3840) <|
    if (mA M 140 (0 : Int32).toNatClampNeg) ≤ x3 then (
      some ((0 : Int32), M))
    else (
      cal (f_RM_numberOf p1 x3 M) fun r2 M1 =>
      cal (f_RM_isIn r2 (p2.toInt64) (3 : Int64) M1) fun r4 M2 =>
      if r4 = 0 then (
        some ((5 : Int32), M2))
      else (
        bd (x3 + Int32.ofInt 1) fun v6 =>
        f_RM_whyNoRun_l30 p1 p2 n v6 M2))
set_option maxHeartbeats 1000000 in
def f_RM_whyNoRun (p1 : Int32) (p2 : Int32) (M : kx_M) : Option (Int32 × kx_M) :=
  gd (inb p1 4) <|
  if 0 ≤ (mA M 137 p1.toNatClampNeg) then (
    gd (inb p1 4) <|
    gd (inb (0 : Int32) 3840) <|
    if (mA M 140 (0 : Int32).toNatClampNeg) ≤ (mA M 137 p1.toNatClampNeg) then (
      f_RM_whyNoRun_l30 p1 p2 FU (0 : Int32) M)
    else (
      some ((4 : Int32), M)))
  else (
    some ((3 : Int32), M))
set_option maxHeartbeats 1000000 in
def f_RM_takes (p0 : Int32) (M : kx_M) : Option (Int32 × kx_M) :=
  if p0 = (3 : Int32) then (
    some ((0 : Int32), M))
  else (
    if p0 = (2 : Int32) then (
      some ((2 : Int32), M))
    else (
      some ((1 : Int32), M)))
set_option maxHeartbeats 1000000 in
def f_RM_takesAll_l4 (p1 : Int32) : Nat → Int32 → Int32 → kx_M → Option (Int32 × kx_M)
  | 0, _, _, _ => none
  | n + 1, x2, x3, M =>
    gd (inb (0 : Int32) 3840) <|
    if (mA M 140 (0 : Int32).toNatClampNeg) ≤ x3 then (
      some (x2, M))
    else (
      cal (f_RM_numberOf p1 x3 M) fun r2 M1 =>
      cal (f_RM_takes (r2.toInt32) M1) fun r4 M2 =>
      bd (x2 + r4) fun v6 =>
      bd (x3 + Int32.ofInt 1) fun v7 =>
      f_RM_takesAll_l4 p1 n v6 v7 M2)
set_option maxHeartbeats 1000000 in
def f_RM_takesAll (p1 : Int32) (M : kx_M) : Option (Int32 × kx_M) :=
  f_RM_takesAll_l4 p1 FU (0 : Int32) (0 : Int32) M
set_option maxHeartbeats 1000000 in
def f_RM_knit_l137 (p1 : Int32) (p2 : Int32) : Nat → Int32 → Int32 → kx_M → Option (Int32 × kx_M)
  | 0, _, _, _ => none
  | n + 1, x5, x6, M =>
    gd (inb (0 : Int32) 3840) <|
    if (mA M 140 (0 : Int32).toNatClampNeg) ≤ x6 then (
      gd (inb (4 : Int32) 3840) <|
      gd (inb (4 : Int32) 3840) <|
      bd (sA M 140 (upd (mA M 140) (4 : Int32).toNatClampNeg ((mA M 140 (4 : Int32).toNatClampNeg) + (1 : Int32)))) fun M1 =>
      gd (inb (4 : Int32) 3840) <|
      some ((mA M1 140 (4 : Int32).toNatClampNeg), M1))
    else (
      cal (f_RM_place x5 x6 M) fun r5 M2 =>
      cal (f_RM_numberOf p2 x6 M2) fun r7 M3 =>
      gd (inb ((112 : Int32) + r5) 3840) <|
      bd (sA M3 140 (upd (mA M3 140) ((112 : Int32) + r5).toNatClampNeg (r7.toInt32))) fun M4 =>
      gd (inb ((208 : Int32) + r5) 3840) <|
      bd (sA M4 140 (upd (mA M4 140) ((208 : Int32) + r5).toNatClampNeg (0 : Int32))) fun M5 =>
      gd (inb ((304 : Int32) + r5) 3840) <|
      bd (sA M5 140 (upd (mA M5 140) ((304 : Int32) + r5).toNatClampNeg (0 : Int32))) fun M6 =>
      gd (inb ((400 : Int32) + r5) 3840) <|
      bd (sA M6 140 (upd (mA M6 140) ((400 : Int32) + r5).toNatClampNeg (0 : Int32))) fun M7 =>
      bd (x6 + Int32.ofInt 1) fun v13 =>
      f_RM_knit_l137 p1 p2 n x5 v13 M7)
set_option maxHeartbeats 1000000 in
def f_RM_knit (p1 : Int32) (p2 : Int32) (M : kx_M) : Option (Int32 × kx_M) :=
  bd (sI M 135 1 (0 : Int32)) fun M1 =>
  bd (sI M1 135 0 (0 : Int32)) fun M2 =>
  cal (f_RM_isTray p2 M2) fun r1 M3 =>
  if r1 = 0 then (
    cal (f_RM_refuse (1 : Int32) M3) fun r3 M4 =>
    some (r3, M4))
  else (
    cal (f_RM_isQueenAt p1 M3) fun r5 M5 =>
    if r5 = 0 then (
      cal (f_RM_refuse (2 : Int32) M5) fun r7 M6 =>
      some (r7, M6))
    else (
      cal (f_RM_whyNoRun p2 (0 : Int32) M5) fun r9 M7 =>
      if r9 ≤ 0 then (
        gd (inb (4 : Int32) 3840) <|
        if (mA M7 140 (4 : Int32).toNatClampNeg) = (12 : Int32) then (
          cal (f_RM_refuse (7 : Int32) M7) fun r12 M8 =>
          some (r12, M8))
        else (
          cal (f_RM_takesAll p2 M7) fun r14 M9 =>
          gd (inb ((6 : Int32) + p1) 3840) <|
          if r14 ≤ (mA M9 140 ((6 : Int32) + p1).toNatClampNeg) then (
            gd (inb (4 : Int32) 3840) <|
            bd (mA M9 140 (4 : Int32).toNatClampNeg) fun v18 =>
            gd (inb ((6 : Int32) + p1) 3840) <|
            gd (inb ((6 : Int32) + p1) 3840) <|
            bd (sA M9 140 (upd (mA M9 140) ((6 : Int32) + p1).toNatClampNeg ((mA M9 140 ((6 : Int32) + p1).toNatClampNeg) - r14))) fun M10 =>
            gd (inb ((100 : Int32) + v18) 3840) <|
            bd (sA M10 140 (upd (mA M10 140) ((100 : Int32) + v18).toNatClampNeg p1)) fun M11 =>
            f_RM_knit_l137 p1 p2 FU v18 (0 : Int32) M11)
          else (
            cal (f_RM_refuse (9 : Int32) M9) fun r22 M12 =>
            some (r22, M12))))
      else (
        cal (f_RM_refuse r9 M7) fun r24 M13 =>
        some (r24, M13))))
set_option maxHeartbeats 1000000 in
def f_RM_unravel_l140 : Nat → Int32 → Int32 → kx_M → Option (Int32 × kx_M)
  | 0, _, _, _ => none
  | n + 1, x1, x3, M =>
    gd (inb (0 : Int32) 3840) <|
    if (mA M 140 (0 : Int32).toNatClampNeg) ≤ x3 then (
      some (x1, M))
    else (
      cal (f_RM_place x1 x3 M) fun r2 M1 =>
      gd (inb ((304 : Int32) + r2) 3840) <|
      bd (sA M1 140 (upd (mA M1 140) ((304 : Int32) + r2).toNatClampNeg (0 : Int32))) fun M2 =>
      cal (f_RM_place x1 x3 M2) fun r5 M3 =>
      gd (inb ((400 : Int32) + r5) 3840) <|
      bd (sA M3 140 (upd (mA M3 140) ((400 : Int32) + r5).toNatClampNeg (0 : Int32))) fun M4 =>
      bd (x3 + Int32.ofInt 1) fun v8 =>
      f_RM_unravel_l140 n x1 v8 M4)
set_option maxHeartbeats 1000000 in
def f_RM_unravel_l63 : Nat → Int32 → Int32 → Int32 → kx_M → Option (Int32 × kx_M)
  | 0, _, _, _, _ => none
  | n + 1, x1, x2, x3, M =>
    gd (inb (0 : Int32) 3840) <|
    if (mA M 140 (0 : Int32).toNatClampNeg) ≤ x3 then (
      gd (inb ((100 : Int32) + x1) 3840) <|
      gd (inb ((6 : Int32) + (mA M 140 ((100 : Int32) + x1).toNatClampNeg)) 3840) <|
      bd (sA M 140 (upd (mA M 140) ((6 : Int32) + (mA M 140 ((100 : Int32) + x1).toNatClampNeg)).toNatClampNeg (if x2 < (999 : Int32) then x2 else (999 : Int32)))) fun M1 =>
      f_RM_unravel_l140 FU x1 (0 : Int32) M1)
    else (
      cal (f_RM_place x1 x3 M) fun r4 M2 =>
      cal (f_RM_isUndone r4 M2) fun r6 M3 =>
      if r6 = 0 then (
        cal (f_RM_place x1 x3 M3) fun r8 M4 =>
        gd (inb ((112 : Int32) + r8) 3840) <|
        cal (f_RM_takes (mA M4 140 ((112 : Int32) + r8).toNatClampNeg) M4) fun r11 M5 =>
        bd (x2 + r11) fun v13 =>
        bd (x3 + Int32.ofInt 1) fun v14 =>
        f_RM_unravel_l63 n x1 v13 v14 M5)
      else (
        bd (x2 + (0 : Int32)) fun v15 =>
        bd (x3 + Int32.ofInt 1) fun v16 =>
        f_RM_unravel_l63 n x1 v15 v16 M3))
set_option maxHeartbeats 1000000 in
def f_RM_unravel (M : kx_M) : Option (Int32 × kx_M) :=
  bd (sI M 135 1 (0 : Int32)) fun M1 =>
  bd (sI M1 135 0 (0 : Int32)) fun M2 =>
  gd (inb (4 : Int32) 3840) <|
  if (mA M2 140 (4 : Int32).toNatClampNeg) = 0 then (
    cal (f_RM_refuse (8 : Int32) M2) fun r2 M3 =>
    some (r2, M3))
  else (
    gd (inb (4 : Int32) 3840) <|
    gd (inb (4 : Int32) 3840) <|
    bd (sA M2 140 (upd (mA M2 140) (4 : Int32).toNatClampNeg ((mA M2 140 (4 : Int32).toNatClampNeg) - (1 : Int32)))) fun M4 =>
    gd (inb (4 : Int32) 3840) <|
    bd (mA M4 140 (4 : Int32).toNatClampNeg) fun v7 =>
    gd (inb ((100 : Int32) + v7) 3840) <|
    gd (inb ((6 : Int32) + (mA M4 140 ((100 : Int32) + v7).toNatClampNeg)) 3840) <|
    bd (mA M4 140 ((6 : Int32) + (mA M4 140 ((100 : Int32) + v7).toNatClampNeg)).toNatClampNeg) fun v10 =>
    f_RM_unravel_l63 FU v7 v10 (0 : Int32) M4)
set_option maxHeartbeats 1000000 in
def f_RM_shear (p1 : Int32) (p2 : Int32) (M : kx_M) : Option (Int32 × kx_M) :=
  bd (sI M 135 1 (0 : Int32)) fun M1 =>
  bd (sI M1 135 0 (0 : Int32)) fun M2 =>
  cal (f_RM_isQueenAt p1 M2) fun r1 M3 =>
  if r1 = 0 then (
    cal (f_RM_refuse (2 : Int32) M3) fun r3 M4 =>
    some (r3, M4))
  else (
    cal (f_RM_isIn (p2.toInt64) (1 : Int64) (999 : Int64) M3) fun r5 M5 =>
    if r5 = 0 then (
      cal (f_RM_refuse (5 : Int32) M5) fun r7 M6 =>
      some (r7, M6))
    else (
      gd (inb ((6 : Int32) + p1) 3840) <|
      gd (inb ((6 : Int32) + p1) 3840) <|
      bd (sA M5 140 (upd (mA M5 140) ((6 : Int32) + p1).toNatClampNeg (if ((mA M5 140 ((6 : Int32) + p1).toNatClampNeg) + p2) < (999 : Int32) then ((mA M5 140 ((6 : Int32) + p1).toNatClampNeg) + p2) else (999 : Int32)))) fun M7 =>
      gd (inb ((6 : Int32) + p1) 3840) <|
      some ((mA M7 140 ((6 : Int32) + p1).toNatClampNeg), M7)))
set_option maxHeartbeats 1000000 in
def f_RM_rule (p1 : Int32) (M : kx_M) : Option (Int32 × kx_M) :=
  bd (sI M 135 1 (0 : Int32)) fun M1 =>
  bd (sI M1 135 0 (0 : Int32)) fun M2 =>
  cal (f_RM_isIn (p1.toInt64) (1 : Int64) (50 : Int64) M2) fun r1 M3 =>
  if r1 = 0 then (
    cal (f_RM_no (5 : Int32) M3) fun r3 M4 =>
    gd (b01 r3) <|
    some (r3, M4))
  else (
    gd (inb (1 : Int32) 3840) <|
    bd (sA M3 140 (upd (mA M3 140) (1 : Int32).toNatClampNeg p1)) fun M5 =>
    some ((1 : Int32), M5))
set_option maxHeartbeats 1000000 in
def f_RM_quarrel (p1 : Int32) (p2 : Int32) (p3 : Int32) (M : kx_M) : Option (Int32 × kx_M) :=
  bd (sI M 135 1 (0 : Int32)) fun M1 =>
  bd (sI M1 135 0 (0 : Int32)) fun M2 =>
  cal (f_RM_isClauseAt p1 M2) fun r1 M3 =>
  if r1 = 0 then (
    cal (f_RM_no (2 : Int32) M3) fun r3 M4 =>
    gd (b01 r3) <|
    some (r3, M4))
  else (
    cal (f_RM_isClauseAt p2 M3) fun r6 M5 =>
    if r6 = 0 then (
      cal (f_RM_no (2 : Int32) M5) fun r8 M6 =>
      gd (b01 r8) <|
      some (r8, M6))
    else (
      if p1 = p2 then (
        cal (f_RM_no (9 : Int32) M5) fun r11 M7 =>
        gd (b01 r11) <|
        some (r11, M7))
      else (
        gd (inb ((46 : Int32) + p1) 3840) <|
        cal (f_RM_has (mA M5 140 ((46 : Int32) + p1).toNatClampNeg) p2 M5) fun r15 M8 =>
        if r15 = p3 then (
          cal (f_RM_no (9 : Int32) M8) fun r17 M9 =>
          gd (b01 r17) <|
          some (r17, M9))
        else (
          gd (inb ((46 : Int32) + p1) 3840) <|
          gd (inb ((46 : Int32) + p1) 3840) <|
          bd (sA M8 140 (upd (mA M8 140) ((46 : Int32) + p1).toNatClampNeg ((mA M8 140 ((46 : Int32) + p1).toNatClampNeg) ^^^ ((1 : Int32) <<< (p2 &&& 31))))) fun M10 =>
          gd (inb ((46 : Int32) + p2) 3840) <|
          gd (inb ((46 : Int32) + p2) 3840) <|
          bd (sA M10 140 (upd (mA M10 140) ((46 : Int32) + p2).toNatClampNeg ((mA M10 140 ((46 : Int32) + p2).toNatClampNeg) ^^^ ((1 : Int32) <<< (p1 &&& 31))))) fun M11 =>
          some ((1 : Int32), M11)))))
set_option maxHeartbeats 1000000 in
def f_RM_value (p1 : Int32) (p2 : Int32) (p3 : Int32) (p4 : Int32) (M : kx_M) : Option (Int32 × kx_M) :=
  bd (sI M 135 1 (0 : Int32)) fun M1 =>
  bd (sI M1 135 0 (0 : Int32)) fun M2 =>
  cal (f_RM_isQueenAt p1 M2) fun r1 M3 =>
  if r1 = 0 then (
    cal (f_RM_no (2 : Int32) M3) fun r3 M4 =>
    gd (b01 r3) <|
    some (r3, M4))
  else (
    cal (f_RM_isClauseAt p2 M3) fun r6 M5 =>
    if r6 = 0 then (
      cal (f_RM_no (2 : Int32) M5) fun r8 M6 =>
      gd (b01 r8) <|
      some (r8, M6))
    else (
      cal (f_RM_isIn (p3.toInt64) (0 : Int64) (1 : Int64) M5) fun r11 M7 =>
      if r11 = 0 then (
        cal (f_RM_no (5 : Int32) M7) fun r13 M8 =>
        gd (b01 r13) <|
        some (r13, M8))
      else (
        cal (f_RM_isIn (p4.toInt64) (0 : Int64) (99 : Int64) M7) fun r16 M9 =>
        if r16 = 0 then (
          cal (f_RM_no (5 : Int32) M9) fun r18 M10 =>
          gd (b01 r18) <|
          some (r18, M10))
        else (
          gd (inb ((((52 : Int32) + ((24 : Int32) * p3)) + ((6 : Int32) * p1)) + p2) 3840) <|
          bd (sA M9 140 (upd (mA M9 140) ((((52 : Int32) + ((24 : Int32) * p3)) + ((6 : Int32) * p1)) + p2).toNatClampNeg p4)) fun M11 =>
          some ((1 : Int32), M11)))))
set_option maxHeartbeats 1000000 in
def f_RM_saidIn (p1 : Int32) (p2 : Int32) (M : kx_M) : Option (Int32 × kx_M) :=
  bd (sI M 135 1 (0 : Int32)) fun M1 =>
  bd (sI M1 135 0 (0 : Int32)) fun M2 =>
  cal (f_RM_isClauseAt p1 M2) fun r1 M3 =>
  if r1 = 0 then (
    cal (f_RM_refuse (2 : Int32) M3) fun r3 M4 =>
    some (r3, M4))
  else (
    cal (f_RM_isRowAt p2 M3) fun r5 M5 =>
    if r5 = 0 then (
      cal (f_RM_refuse (2 : Int32) M5) fun r7 M6 =>
      some (r7, M6))
    else (
      cal (f_RM_timesIn p1 p2 M5) fun r9 M7 =>
      some (r9, M7)))
set_option maxHeartbeats 1000000 in
def f_RM_said (p1 : Int32) (M : kx_M) : Option (Int32 × kx_M) :=
  bd (sI M 135 1 (0 : Int32)) fun M1 =>
  bd (sI M1 135 0 (0 : Int32)) fun M2 =>
  cal (f_RM_isClauseAt p1 M2) fun r1 M3 =>
  if r1 = 0 then (
    cal (f_RM_refuse (2 : Int32) M3) fun r3 M4 =>
    some (r3, M4))
  else (
    cal (f_RM_times p1 M3) fun r5 M5 =>
    some (r5, M5))
set_option maxHeartbeats 1000000 in
def f_RM_firstSaid_l38 (p1 : Int32) (k26 : Int32 → kx_M → Option (Int32 × kx_M)) : Nat → Int32 → Int32 → kx_M → Option (Int32 × kx_M)
  | 0, _, _, _ => none
  | n + 1, x2, x3, M =>
    gd (inb (0 : Int32) 3840) <|
    if (mA M 140 (0 : Int32).toNatClampNeg) ≤ x3 then (
      bd (x2 + Int32.ofInt 1) fun v2 =>
      k26 v2 M)
    else (
      cal (f_RM_isSaid p1 x2 x3 M) fun r3 M1 =>
      if r3 = 0 then (
        bd (x3 + Int32.ofInt 1) fun v5 =>
        f_RM_firstSaid_l38 p1 k26 n x2 v5 M1)
      else (
        some ((((10 : Int32) * x2) + x3), M1)))
set_option maxHeartbeats 1000000 in
def f_RM_firstSaid_l26 (p1 : Int32) : Nat → Int32 → kx_M → Option (Int32 × kx_M)
  | 0, _, _ => none
  | n + 1, x2, M =>
    gd (inb (4 : Int32) 3840) <|
    if (mA M 140 (4 : Int32).toNatClampNeg) ≤ x2 then (
      cal (f_RM_refuse (8 : Int32) M) fun r2 M1 =>
      some (r2, M1))
    else (
      f_RM_firstSaid_l38 p1 (f_RM_firstSaid_l26 p1 n) FU x2 (0 : Int32) M)
set_option maxHeartbeats 1000000 in
def f_RM_firstSaid (p1 : Int32) (M : kx_M) : Option (Int32 × kx_M) :=
  bd (sI M 135 1 (0 : Int32)) fun M1 =>
  bd (sI M1 135 0 (0 : Int32)) fun M2 =>
  cal (f_RM_isClauseAt p1 M2) fun r1 M3 =>
  if r1 = 0 then (
    cal (f_RM_refuse (2 : Int32) M3) fun r3 M4 =>
    some (r3, M4))
  else (
    f_RM_firstSaid_l26 p1 FU (0 : Int32) M3)
set_option maxHeartbeats 1000000 in
def f_RM_bound_l4 (p1 : Int32) : Nat → Int32 → Int32 → kx_M → Option (Int32 × kx_M)
  | 0, _, _, _ => none
  | n + 1, x2, x3, M =>
    gd (inb (4 : Int32) 3840) <|
    if (mA M 140 (4 : Int32).toNatClampNeg) ≤ x3 then (
      some (x2, M))
    else (
      cal (f_RM_timesIn p1 x3 M) fun r2 M1 =>
      if r2 ≤ 0 then (
        bd (x2 ||| (0 : Int32)) fun v4 =>
        bd (x3 + Int32.ofInt 1) fun v5 =>
        f_RM_bound_l4 p1 n v4 v5 M1)
      else (
        gd (inb ((100 : Int32) + x3) 3840) <|
        bd (x2 ||| ((1 : Int32) <<< ((mA M1 140 ((100 : Int32) + x3).toNatClampNeg) &&& 31))) fun v7 =>
        bd (x3 + Int32.ofInt 1) fun v8 =>
        f_RM_bound_l4 p1 n v7 v8 M1))
set_option maxHeartbeats 1000000 in
def f_RM_bound (p1 : Int32) (M : kx_M) : Option (Int32 × kx_M) :=
  f_RM_bound_l4 p1 FU (0 : Int32) (0 : Int32) M
set_option maxHeartbeats 1000000 in
def f_RM_binds (p1 : Int32) (M : kx_M) : Option (Int32 × kx_M) :=
  bd (sI M 135 1 (0 : Int32)) fun M1 =>
  bd (sI M1 135 0 (0 : Int32)) fun M2 =>
  cal (f_RM_isClauseAt p1 M2) fun r1 M3 =>
  if r1 = 0 then (
    cal (f_RM_refuse (2 : Int32) M3) fun r3 M4 =>
    some (r3, M4))
  else (
    cal (f_RM_bound p1 M3) fun r5 M5 =>
    some (r5, M5))
set_option maxHeartbeats 1000000 in
def f_RM_boundBy_l28 (p1 : Int32) : Nat → Int32 → Int32 → kx_M → Option (Int32 × kx_M)
  | 0, _, _, _ => none
  | n + 1, x2, x3, M =>
    gd (inb (3 : Int32) 3840) <|
    if (mA M 140 (3 : Int32).toNatClampNeg) ≤ x3 then (
      some (x2, M))
    else (
      cal (f_RM_bound x3 M) fun r2 M1 =>
      cal (f_RM_has r2 p1 M1) fun r4 M2 =>
      if r4 = 0 then (
        bd (x2 ||| (0 : Int32)) fun v6 =>
        bd (x3 + Int32.ofInt 1) fun v7 =>
        f_RM_boundBy_l28 p1 n v6 v7 M2)
      else (
        bd (x2 ||| ((1 : Int32) <<< (x3 &&& 31))) fun v8 =>
        bd (x3 + Int32.ofInt 1) fun v9 =>
        f_RM_boundBy_l28 p1 n v8 v9 M2))
set_option maxHeartbeats 1000000 in
def f_RM_boundBy (p1 : Int32) (M : kx_M) : Option (Int32 × kx_M) :=
  bd (sI M 135 1 (0 : Int32)) fun M1 =>
  bd (sI M1 135 0 (0 : Int32)) fun M2 =>
  cal (f_RM_isQueenAt p1 M2) fun r1 M3 =>
  if r1 = 0 then (
    cal (f_RM_refuse (2 : Int32) M3) fun r3 M4 =>
    some (r3, M4))
  else (
    f_RM_boundBy_l28 p1 FU (0 : Int32) (0 : Int32) M3)
set_option maxHeartbeats 1000000 in
def f_RM_clashing_l29 (k14 : Int32 → Int32 → Int32 → kx_M → Option (Int32 × kx_M)) : Nat → Int32 → Int32 → Int32 → Int32 → kx_M → Option (Int32 × kx_M)
  | 0, _, _, _, _, _ => none
  | n + 1, x1, x2, x3, x4, M =>
    gd (inb (3 : Int32) 3840) <|
    if (mA M 140 (3 : Int32).toNatClampNeg) ≤ x4 then (
      bd (x3 + Int32.ofInt 1) fun v2 =>
      k14 x1 x2 v2 M)
    else (
      cal (f_RM_has x1 x3 M) fun r3 M1 =>
      if r3 = 0 then (
        bd (x4 + Int32.ofInt 1) fun v5 =>
        f_RM_clashing_l29 k14 n x1 x2 x3 v5 M1)
      else (
        cal (f_RM_has x1 x4 M1) fun r6 M2 =>
        if r6 = 0 then (
          bd (x4 + Int32.ofInt 1) fun v8 =>
          f_RM_clashing_l29 k14 n x1 x2 x3 v8 M2)
        else (
          gd (inb ((46 : Int32) + x3) 3840) <|
          cal (f_RM_has (mA M2 140 ((46 : Int32) + x3).toNatClampNeg) x4 M2) fun r10 M3 =>
          if r10 = 0 then (
            bd (x4 + Int32.ofInt 1) fun v12 =>
            f_RM_clashing_l29 k14 n x1 x2 x3 v12 M3)
          else (
            if x2 = 0 then (
              bd (sI M3 135 28 (((10 : Int32) * x3) + x4)) fun M4 =>
              bd (x2 + Int32.ofInt 1) fun v13 =>
              bd (x4 + Int32.ofInt 1) fun v14 =>
              f_RM_clashing_l29 k14 n x1 v13 x3 v14 M4)
            else (
              bd (x2 + Int32.ofInt 1) fun v15 =>
              bd (x4 + Int32.ofInt 1) fun v16 =>
              f_RM_clashing_l29 k14 n x1 v15 x3 v16 M3)))))
set_option maxHeartbeats 1000000 in
def f_RM_clashing_l14 : Nat → Int32 → Int32 → Int32 → kx_M → Option (Int32 × kx_M)
  | 0, _, _, _, _ => none
  | n + 1, x1, x2, x3, M =>
    gd (inb (3 : Int32) 3840) <|
    if (mA M 140 (3 : Int32).toNatClampNeg) ≤ x3 then (
      some (x2, M))
    else (
      bd (x3 + (1 : Int32)) fun v2 =>
      f_RM_clashing_l29 (f_RM_clashing_l14 n) FU x1 x2 x3 v2 M)
set_option maxHeartbeats 1000000 in
def f_RM_clashing (M : kx_M) : Option (Int32 × kx_M) :=
  cal (f_RM_saidOnes M) fun r1 M1 =>
  bd (sI M1 135 28 ((-1) : Int32)) fun M2 =>
  f_RM_clashing_l14 FU r1 (0 : Int32) (0 : Int32) M2
set_option maxHeartbeats 1000000 in
def f_RM_clashes (M : kx_M) : Option (Int32 × kx_M) :=
  bd (sI M 135 1 (0 : Int32)) fun M1 =>
  bd (sI M1 135 0 (0 : Int32)) fun M2 =>
  cal (f_RM_clashing M2) fun r1 M3 =>
  some (r1, M3)
set_option maxHeartbeats 1000000 in
def f_RM_firstClash (M : kx_M) : Option (Int32 × kx_M) :=
  bd (sI M 135 1 (0 : Int32)) fun M1 =>
  bd (sI M1 135 0 (0 : Int32)) fun M2 =>
  cal (f_RM_clashing M2) fun r1 M3 =>
  if 0 ≤ (mI M3 135 28) then (
    some ((mI M3 135 28), M3))
  else (
    cal (f_RM_refuse (8 : Int32) M3) fun r3 M4 =>
    some (r3, M4))
set_option maxHeartbeats 1000000 in
def f_RM_needs (p1 : Int32) (M : kx_M) : Option (Int32 × kx_M) :=
  bd (sI M 135 1 (0 : Int32)) fun M1 =>
  bd (sI M1 135 0 (0 : Int32)) fun M2 =>
  cal (f_RM_isTray p1 M2) fun r1 M3 =>
  if r1 = 0 then (
    cal (f_RM_refuse (1 : Int32) M3) fun r3 M4 =>
    some (r3, M4))
  else (
    cal (f_RM_whyNoRun p1 (0 : Int32) M3) fun r5 M5 =>
    if r5 ≤ 0 then (
      cal (f_RM_takesAll p1 M5) fun r7 M6 =>
      some (r7, M6))
    else (
      cal (f_RM_refuse r5 M5) fun r9 M7 =>
      some (r9, M7)))
set_option maxHeartbeats 1000000 in
def f_RM_keeps_l2 : Nat → Int32 → kx_M → Option (Unit × kx_M)
  | 0, _, _ => none
  | n + 1, x1, M =>
    if (496 : Int32) ≤ x1 then (
      some ((), M))
    else (
      gd (inb x1 3840) <|
      gd (inb x1 496) <|
      bd (sA M 141 (upd (mA M 141) x1.toNatClampNeg (mA M 140 x1.toNatClampNeg))) fun M1 =>
      bd (x1 + Int32.ofInt 1) fun v3 =>
      f_RM_keeps_l2 n v3 M1)
set_option maxHeartbeats 1000000 in
def f_RM_keeps (M : kx_M) : Option (Unit × kx_M) :=
  f_RM_keeps_l2 FU (0 : Int32) M
set_option maxHeartbeats 1000000 in
def f_RM_gives_l2 : Nat → Int32 → kx_M → Option (Unit × kx_M)
  | 0, _, _ => none
  | n + 1, x1, M =>
    if (496 : Int32) ≤ x1 then (
      some ((), M))
    else (
      gd (inb x1 496) <|
      gd (inb x1 3840) <|
      bd (sA M 140 (upd (mA M 140) x1.toNatClampNeg (mA M 141 x1.toNatClampNeg))) fun M1 =>
      bd (x1 + Int32.ofInt 1) fun v3 =>
      f_RM_gives_l2 n v3 M1)
set_option maxHeartbeats 1000000 in
def f_RM_gives (M : kx_M) : Option (Unit × kx_M) :=
  f_RM_gives_l2 FU (0 : Int32) M
set_option maxHeartbeats 1000000 in
def f_RM_losing_l8 (p1 : Int32) : Nat → Int32 → Int32 → kx_M → Option (Int32 × kx_M)
  | 0, _, _, _ => none
  | n + 1, x2, x3, M =>
    if (99 : Int32) < x3 then (
      cal (f_RM_gives M) fun _ M1 =>
      some (x2, M1))
    else (
      if 0 ≤ x2 then (
        cal (f_RM_gives M) fun _ M2 =>
        some (x2, M2))
      else (
        cal (f_RM_times p1 M) fun r5 M3 =>
        if r5 = 0 then (
          cal (f_RM_goesYear M3) fun r7 M4 =>
          bd (x3 + Int32.ofInt 1) fun v9 =>
          f_RM_losing_l8 p1 n x3 v9 M4)
        else (
          cal (f_RM_goesYear M3) fun r10 M5 =>
          bd (x3 + Int32.ofInt 1) fun v12 =>
          f_RM_losing_l8 p1 n x2 v12 M5)))
set_option maxHeartbeats 1000000 in
def f_RM_losing (p1 : Int32) (M : kx_M) : Option (Int32 × kx_M) :=
  cal (f_RM_keeps M) fun _ M1 =>
  f_RM_losing_l8 p1 FU ((-1) : Int32) (0 : Int32) M1
set_option maxHeartbeats 1000000 in
def f_RM_lost (p1 : Int32) (M : kx_M) : Option (Int32 × kx_M) :=
  bd (sI M 135 1 (0 : Int32)) fun M1 =>
  bd (sI M1 135 0 (0 : Int32)) fun M2 =>
  cal (f_RM_isClauseAt p1 M2) fun r1 M3 =>
  if r1 = 0 then (
    cal (f_RM_refuse (2 : Int32) M3) fun r3 M4 =>
    some (r3, M4))
  else (
    cal (f_RM_losing p1 M3) fun r5 M5 =>
    if 0 ≤ r5 then (
      some (r5, M5))
    else (
      cal (f_RM_refuse (8 : Int32) M5) fun r7 M6 =>
      some (r7, M6)))
set_option maxHeartbeats 1000000 in
def f_RM_undoneIn_l34 (p1 : Int32) : Nat → Int32 → kx_M → Option (Int32 × kx_M)
  | 0, _, _ => none
  | n + 1, x2, M =>
    if p1 ≤ x2 then (
      cal (f_RM_sumOf (0 : Int32) M) fun r1 M1 =>
      cal (f_RM_gives M1) fun _ M2 =>
      some (r1, M2))
    else (
      cal (f_RM_goesYear M) fun r5 M3 =>
      bd (x2 + Int32.ofInt 1) fun v7 =>
      f_RM_undoneIn_l34 p1 n v7 M3)
set_option maxHeartbeats 1000000 in
def f_RM_undoneIn (p1 : Int32) (M : kx_M) : Option (Int32 × kx_M) :=
  bd (sI M 135 1 (0 : Int32)) fun M1 =>
  bd (sI M1 135 0 (0 : Int32)) fun M2 =>
  cal (f_RM_isIn (p1.toInt64) (0 : Int64) (99 : Int64) M2) fun r1 M3 =>
  if r1 = 0 then (
    cal (f_RM_refuse (5 : Int32) M3) fun r3 M4 =>
    some (r3, M4))
  else (
    cal (f_RM_keeps M3) fun _ M5 =>
    f_RM_undoneIn_l34 p1 FU (0 : Int32) M5)
set_option maxHeartbeats 1000000 in
def f_RM_firstLost_l16 : Nat → Int32 → Int32 → Int32 → kx_M → Option (Int32 × kx_M)
  | 0, _, _, _, _ => none
  | n + 1, x1, x2, x3, M =>
    gd (inb (3 : Int32) 3840) <|
    if (mA M 140 (3 : Int32).toNatClampNeg) ≤ x3 then (
      if 0 ≤ x1 then (
        some (x1, M))
      else (
        cal (f_RM_refuse (8 : Int32) M) fun r2 M1 =>
        some (r2, M1)))
    else (
      cal (f_RM_losing x3 M) fun r4 M2 =>
      if r4 ≤ 0 then (
        bd (x3 + Int32.ofInt 1) fun v6 =>
        f_RM_firstLost_l16 n x1 x2 v6 M2)
      else (
        if x1 < 0 then (
          bd (x3 + Int32.ofInt 1) fun v7 =>
          f_RM_firstLost_l16 n x3 r4 v7 M2)
        else (
          if r4 < x2 then (
            bd (x3 + Int32.ofInt 1) fun v8 =>
            f_RM_firstLost_l16 n x3 r4 v8 M2)
          else (
            bd (x3 + Int32.ofInt 1) fun v9 =>
            f_RM_firstLost_l16 n x1 x2 v9 M2))))
set_option maxHeartbeats 1000000 in
def f_RM_firstLost (M : kx_M) : Option (Int32 × kx_M) :=
  bd (sI M 135 1 (0 : Int32)) fun M1 =>
  bd (sI M1 135 0 (0 : Int32)) fun M2 =>
  f_RM_firstLost_l16 FU ((-1) : Int32) (0 : Int32) (0 : Int32) M2
set_option maxHeartbeats 1000000 in
def f_RM_wouldPull (p1 : Int32) (p2 : Int32) (M : kx_M) : Option (Int32 × kx_M) :=
  cal (f_RM_keeps M) fun _ M1 =>
  cal (f_RM_pulls p1 p2 M1) fun r3 M2 =>
  cal (f_RM_gives M2) fun _ M3 =>
  some (r3, M3)
set_option maxHeartbeats 1000000 in
def f_RM_pulled (p1 : Int32) (p2 : Int32) (M : kx_M) : Option (Int32 × kx_M) :=
  bd (sI M 135 1 (0 : Int32)) fun M1 =>
  bd (sI M1 135 0 (0 : Int32)) fun M2 =>
  cal (f_RM_isRowAt p1 M2) fun r1 M3 =>
  if r1 = 0 then (
    cal (f_RM_refuse (2 : Int32) M3) fun r3 M4 =>
    some (r3, M4))
  else (
    cal (f_RM_isSide p2 M3) fun r5 M5 =>
    if r5 = 0 then (
      cal (f_RM_refuse (5 : Int32) M5) fun r7 M6 =>
      some (r7, M6))
    else (
      cal (f_RM_wouldPull p1 p2 M5) fun r9 M7 =>
      some (r9, M7)))
set_option maxHeartbeats 1000000 in
def f_RM_worstPull_l16 : Nat → Int32 → Int32 → Int32 → kx_M → Option (Int32 × kx_M)
  | 0, _, _, _, _ => none
  | n + 1, x1, x2, x3, M =>
    gd (inb (4 : Int32) 3840) <|
    if ((2 : Int32) * (mA M 140 (4 : Int32).toNatClampNeg)) ≤ x3 then (
      if 0 ≤ x1 then (
        some (x1, M))
      else (
        cal (f_RM_refuse (8 : Int32) M) fun r2 M1 =>
        some (r2, M1)))
    else (
      cal (f_RM_wouldPull (x3 / (2 : Int32)) (x3 - x3 / (2 : Int32) * (2 : Int32)) M) fun r4 M2 =>
      if x2 < r4 then (
        bd (((10 : Int32) * (x3 / (2 : Int32))) + (x3 - x3 / (2 : Int32) * (2 : Int32))) fun v6 =>
        bd (x3 + Int32.ofInt 1) fun v7 =>
        f_RM_worstPull_l16 n v6 r4 v7 M2)
      else (
        bd (x3 + Int32.ofInt 1) fun v8 =>
        f_RM_worstPull_l16 n x1 x2 v8 M2))
set_option maxHeartbeats 1000000 in
def f_RM_worstPull (M : kx_M) : Option (Int32 × kx_M) :=
  bd (sI M 135 1 (0 : Int32)) fun M1 =>
  bd (sI M1 135 0 (0 : Int32)) fun M2 =>
  f_RM_worstPull_l16 FU ((-1) : Int32) ((-1) : Int32) (0 : Int32) M2
set_option maxHeartbeats 1000000 in
def f_RM_pulledOut (p1 : Int32) (p2 : Int32) (M : kx_M) : Option (Int32 × kx_M) :=
  bd (sI M 135 1 (0 : Int32)) fun M1 =>
  bd (sI M1 135 0 (0 : Int32)) fun M2 =>
  cal (f_RM_isRowAt p1 M2) fun r1 M3 =>
  if r1 = 0 then (
    cal (f_RM_refuse (2 : Int32) M3) fun r3 M4 =>
    some (r3, M4))
  else (
    cal (f_RM_isSide p2 M3) fun r5 M5 =>
    if r5 = 0 then (
      cal (f_RM_refuse (5 : Int32) M5) fun r7 M6 =>
      some (r7, M6))
    else (
      cal (f_RM_saidOnes M5) fun r9 M7 =>
      cal (f_RM_keeps M7) fun _ M8 =>
      cal (f_RM_pulls p1 p2 M8) fun r13 M9 =>
      cal (f_RM_saidOnes M9) fun r15 M10 =>
      bd (r9 &&& (r15 ^^^ ((-1) : Int32))) fun v17 =>
      cal (f_RM_gives M10) fun _ M11 =>
      some (v17, M11)))
set_option maxHeartbeats 1000000 in
def f_RM_whyNoMend (p1 : Int32) (p2 : Int32) (p3 : Int32) (M : kx_M) : Option (Int32 × kx_M) :=
  cal (f_RM_isClauseAt p1 M) fun r1 M1 =>
  if r1 = 0 then (
    some ((2 : Int32), M1))
  else (
    cal (f_RM_isRowAt p2 M1) fun r3 M2 =>
    if r3 = 0 then (
      some ((2 : Int32), M2))
    else (
      cal (f_RM_isSide p3 M2) fun r5 M3 =>
      if r5 = 0 then (
        some ((5 : Int32), M3))
      else (
        some ((0 : Int32), M3))))
set_option maxHeartbeats 1000000 in
def f_RM_sizeOf_l4 (p0 : Int32) : Nat → Int32 → Int32 → kx_M → Option (Int32 × kx_M)
  | 0, _, _, _ => none
  | n + 1, x1, x2, M =>
    if (8 : Int32) ≤ x2 then (
      some (x1, M))
    else (
      cal (f_RM_has p0 x2 M) fun r1 M1 =>
      if r1 = 0 then (
        bd (x1 + (0 : Int32)) fun v3 =>
        bd (x2 + Int32.ofInt 1) fun v4 =>
        f_RM_sizeOf_l4 p0 n v3 v4 M1)
      else (
        bd (x1 + (1 : Int32)) fun v5 =>
        bd (x2 + Int32.ofInt 1) fun v6 =>
        f_RM_sizeOf_l4 p0 n v5 v6 M1))
set_option maxHeartbeats 1000000 in
def f_RM_sizeOf (p0 : Int32) (M : kx_M) : Option (Int32 × kx_M) :=
  f_RM_sizeOf_l4 p0 FU (0 : Int32) (0 : Int32) M
set_option maxHeartbeats 1000000 in
def f_RM_isMended_l7 (p1 : Int32) (p2 : Int32) (p3 : Int32) (p4 : Int32) : Nat → Int32 → kx_M → Option (Int32 × kx_M)
  | 0, _, _ => none
  | n + 1, x5, M =>
    gd (inb (0 : Int32) 3840) <|
    if (mA M 140 (0 : Int32).toNatClampNeg) ≤ x5 then (
      cal (f_RM_pulls p2 p3 M) fun r2 M1 =>
      cal (f_RM_timesIn p1 p2 M1) fun r4 M2 =>
      if r4 ≤ 0 then (
        cal (f_RM_gives M2) fun _ M3 =>
        some ((0 : Int32), M3))
      else (
        cal (f_RM_gives M2) fun _ M4 =>
        some ((1 : Int32), M4)))
    else (
      cal (f_RM_has p4 x5 M) fun r10 M5 =>
      if r10 = 0 then (
        bd (x5 + Int32.ofInt 1) fun v12 =>
        f_RM_isMended_l7 p1 p2 p3 p4 n v12 M5)
      else (
        cal (f_RM_place p2 x5 M5) fun r13 M6 =>
        cal (f_RM_darns r13 M6) fun r15 M7 =>
        bd (x5 + Int32.ofInt 1) fun v17 =>
        f_RM_isMended_l7 p1 p2 p3 p4 n v17 M7))
set_option maxHeartbeats 1000000 in
def f_RM_isMended (p1 : Int32) (p2 : Int32) (p3 : Int32) (p4 : Int32) (M : kx_M) : Option (Int32 × kx_M) :=
  cal (f_RM_keeps M) fun _ M1 =>
  f_RM_isMended_l7 p1 p2 p3 p4 FU (0 : Int32) M1
set_option maxHeartbeats 1000000 in
def f_RM_mending_l37 (p1 : Int32) (p2 : Int32) (p3 : Int32) (k6 : Int32 → Int32 → kx_M → Option (Int32 × kx_M)) (x4 : Int32) (x5 : Int32) (M : kx_M) : Option (Int32 × kx_M) :=
  cal (f_RM_isMended p1 p2 p3 x5 M) fun r1 M1 =>
  if r1 = 0 then (
    bd (x5 + Int32.ofInt 1) fun v3 =>
    k6 x4 v3 M1)
  else (
    bd (x5 + Int32.ofInt 1) fun v4 =>
    k6 x5 v4 M1)
set_option maxHeartbeats 1000000 in
def f_RM_mending_l6 (p1 : Int32) (p2 : Int32) (p3 : Int32) : Nat → Int32 → Int32 → kx_M → Option (Int32 × kx_M)
  | 0, _, _, _ => none
  | n + 1, x4, x5, M =>
    gd (inb (0 : Int32) 3840) <|
    if ((1 : Int32) <<< ((mA M 140 (0 : Int32).toNatClampNeg) &&& 31)) ≤ x5 then (
      some (x4, M))
    else (
      if x4 < 0 then (
        f_RM_mending_l37 p1 p2 p3 (f_RM_mending_l6 p1 p2 p3 n) x4 x5 M)
      else (
        cal (f_RM_sizeOf x5 M) fun r2 M1 =>
        cal (f_RM_sizeOf x4 M1) fun r4 M2 =>
        if r4 ≤ r2 then (
          bd (x5 + Int32.ofInt 1) fun v6 =>
          f_RM_mending_l6 p1 p2 p3 n x4 v6 M2)
        else (
          f_RM_mending_l37 p1 p2 p3 (f_RM_mending_l6 p1 p2 p3 n) x4 x5 M2)))
set_option maxHeartbeats 1000000 in
def f_RM_mending (p1 : Int32) (p2 : Int32) (p3 : Int32) (M : kx_M) : Option (Int32 × kx_M) :=
  f_RM_mending_l6 p1 p2 p3 FU ((-1) : Int32) (0 : Int32) M
set_option maxHeartbeats 1000000 in
def f_RM_mend (p1 : Int32) (p2 : Int32) (p3 : Int32) (M : kx_M) : Option (Int32 × kx_M) :=
  bd (sI M 135 1 (0 : Int32)) fun M1 =>
  cal (f_RM_whyNoMend p1 p2 p3 M1) fun r1 M2 =>
  bd (sI M2 135 0 r1) fun M3 =>
  if (mI M3 135 0) ≤ 0 then (
    cal (f_RM_mending p1 p2 p3 M3) fun r3 M4 =>
    if 0 ≤ r3 then (
      cal (f_RM_sizeOf r3 M4) fun r5 M5 =>
      some (r5, M5))
    else (
      cal (f_RM_refuse (8 : Int32) M4) fun r7 M6 =>
      some (r7, M6)))
  else (
    some (((-1) : Int32), M3))
set_option maxHeartbeats 1000000 in
def f_RM_mendSet (p1 : Int32) (p2 : Int32) (p3 : Int32) (M : kx_M) : Option (Int32 × kx_M) :=
  bd (sI M 135 1 (0 : Int32)) fun M1 =>
  cal (f_RM_whyNoMend p1 p2 p3 M1) fun r1 M2 =>
  bd (sI M2 135 0 r1) fun M3 =>
  if (mI M3 135 0) ≤ 0 then (
    cal (f_RM_mending p1 p2 p3 M3) fun r3 M4 =>
    if 0 ≤ r3 then (
      some (r3, M4))
    else (
      cal (f_RM_refuse (8 : Int32) M4) fun r5 M5 =>
      some (r5, M5)))
  else (
    some (((-1) : Int32), M3))
set_option maxHeartbeats 1000000 in
def f_RM_areClauses (p1 : Int32) (M : kx_M) : Option (Int32 × kx_M) :=
  gd (inb (3 : Int32) 3840) <|
  cal (f_RM_isIn (p1.toInt64) (0 : Int64) ((((1 : Int32) <<< ((mA M 140 (3 : Int32).toNatClampNeg) &&& 31)) - (1 : Int32)).toInt64) M) fun r2 M1 =>
  gd (b01 r2) <|
  some (r2, M1)
set_option maxHeartbeats 1000000 in
def f_RM_isWithin_l63 (p1 : Int32) (p2 : Int32) (k48 : Int32 → Int32 → Int32 → kx_M → Option (Int32 × kx_M)) : Nat → Int32 → Int32 → Int32 → Int32 → Int32 → kx_M → Option (Int32 × kx_M)
  | 0, _, _, _, _, _, _ => none
  | n + 1, x3, x4, x5, x6, x7, M =>
    if x3 ≤ x7 then (
      if x6 = 0 then (
        bd (x5 + Int32.ofInt 1) fun v1 =>
        k48 x3 x4 v1 M)
      else (
        some ((1 : Int32), M)))
    else (
      if x6 = 0 then (
        bd (x7 + Int32.ofInt 1) fun v2 =>
        f_RM_isWithin_l63 p1 p2 k48 n x3 x4 x5 (0 : Int32) v2 M)
      else (
        gd (inb (((16 : Int32) + ((5 : Int32) * p1)) + x7) 3840) <|
        gd (inb ((((16 : Int32) + ((5 : Int32) * p2)) + x5) + x7) 3840) <|
        if (mA M 140 (((16 : Int32) + ((5 : Int32) * p1)) + x7).toNatClampNeg) = (mA M 140 ((((16 : Int32) + ((5 : Int32) * p2)) + x5) + x7).toNatClampNeg) then (
          bd (x7 + Int32.ofInt 1) fun v5 =>
          f_RM_isWithin_l63 p1 p2 k48 n x3 x4 x5 (1 : Int32) v5 M)
        else (
          bd (x7 + Int32.ofInt 1) fun v6 =>
          f_RM_isWithin_l63 p1 p2 k48 n x3 x4 x5 (0 : Int32) v6 M)))
set_option maxHeartbeats 1000000 in
def f_RM_isWithin_l48 (p1 : Int32) (p2 : Int32) : Nat → Int32 → Int32 → Int32 → kx_M → Option (Int32 × kx_M)
  | 0, _, _, _, _ => none
  | n + 1, x3, x4, x5, M =>
    if x4 < (x5 + x3) then (
      some ((0 : Int32), M))
    else (
      f_RM_isWithin_l63 p1 p2 (f_RM_isWithin_l48 p1 p2 n) FU x3 x4 x5 (1 : Int32) (0 : Int32) M)
set_option maxHeartbeats 1000000 in
def f_RM_isWithin (p1 : Int32) (p2 : Int32) (M : kx_M) : Option (Int32 × kx_M) :=
  gd (inb ((10 : Int32) + p1) 3840) <|
  bd (mA M 140 ((10 : Int32) + p1).toNatClampNeg) fun v2 =>
  gd (inb ((10 : Int32) + p2) 3840) <|
  bd (mA M 140 ((10 : Int32) + p2).toNatClampNeg) fun v4 =>
  if p1 = p2 then (
    some ((0 : Int32), M))
  else (
    if v4 < v2 then (
      some ((0 : Int32), M))
    else (
      if v2 = v4 then (
        if p2 ≤ p1 then (
          f_RM_isWithin_l48 p1 p2 FU v2 v4 (0 : Int32) M)
        else (
          some ((0 : Int32), M)))
      else (
        f_RM_isWithin_l48 p1 p2 FU v2 v4 (0 : Int32) M)))
set_option maxHeartbeats 1000000 in
def f_RM_kernel_l17 (p1 : Int32) (k4 : Int32 → Int32 → kx_M → Option (Int32 × kx_M)) : Nat → Int32 → Int32 → Int32 → kx_M → Option (Int32 × kx_M)
  | 0, _, _, _, _ => none
  | n + 1, x2, x3, x4, M =>
    gd (inb (3 : Int32) 3840) <|
    if (mA M 140 (3 : Int32).toNatClampNeg) ≤ x4 then (
      bd (x3 + Int32.ofInt 1) fun v2 =>
      k4 x2 v2 M)
    else (
      cal (f_RM_has p1 x3 M) fun r3 M1 =>
      if r3 = 0 then (
        bd (x4 + Int32.ofInt 1) fun v5 =>
        f_RM_kernel_l17 p1 k4 n x2 x3 v5 M1)
      else (
        cal (f_RM_has p1 x4 M1) fun r6 M2 =>
        if r6 = 0 then (
          bd (x4 + Int32.ofInt 1) fun v8 =>
          f_RM_kernel_l17 p1 k4 n x2 x3 v8 M2)
        else (
          cal (f_RM_isWithin x3 x4 M2) fun r9 M3 =>
          if r9 = 0 then (
            bd (x4 + Int32.ofInt 1) fun v11 =>
            f_RM_kernel_l17 p1 k4 n x2 x3 v11 M3)
          else (
            bd (x2 &&& (((1 : Int32) <<< (x3 &&& 31)) ^^^ ((-1) : Int32))) fun v12 =>
            bd (x4 + Int32.ofInt 1) fun v13 =>
            f_RM_kernel_l17 p1 k4 n v12 x3 v13 M3))))
set_option maxHeartbeats 1000000 in
def f_RM_kernel_l4 (p1 : Int32) : Nat → Int32 → Int32 → kx_M → Option (Int32 × kx_M)
  | 0, _, _, _ => none
  | n + 1, x2, x3, M =>
    gd (inb (3 : Int32) 3840) <|
    if (mA M 140 (3 : Int32).toNatClampNeg) ≤ x3 then (
      some (x2, M))
    else (
      f_RM_kernel_l17 p1 (f_RM_kernel_l4 p1 n) FU x2 x3 (0 : Int32) M)
set_option maxHeartbeats 1000000 in
def f_RM_kernel (p1 : Int32) (M : kx_M) : Option (Int32 × kx_M) :=
  f_RM_kernel_l4 p1 FU p1 (0 : Int32) M
set_option maxHeartbeats 1000000 in
def f_RM_isBetter_l29 (p1 : Int32) : Nat → Int32 → kx_M → Option (Int32 × kx_M)
  | 0, _, _ => none
  | n + 1, x2, M =>
    if p1 ≤ x2 then (
      some ((0 : Int32), M))
    else (
      gd (inb x2 30) <|
      gd (inb x2 30) <|
      if (mA M 145 x2.toNatClampNeg) = (mA M 146 x2.toNatClampNeg) then (
        bd (x2 + Int32.ofInt 1) fun v3 =>
        f_RM_isBetter_l29 p1 n v3 M)
      else (
        gd (inb x2 30) <|
        gd (inb x2 30) <|
        if (mA M 146 x2.toNatClampNeg) ≤ (mA M 145 x2.toNatClampNeg) then (
          some ((0 : Int32), M))
        else (
          some ((1 : Int32), M))))
set_option maxHeartbeats 1000000 in
def f_RM_isBetter (p1 : Int32) (M : kx_M) : Option (Int32 × kx_M) :=
  if (mI M 135 31) < 0 then (
    some ((1 : Int32), M))
  else (
    if (mI M 135 31) ≤ p1 then (
      if p1 ≤ (mI M 135 31) then (
        f_RM_isBetter_l29 p1 FU (0 : Int32) M)
      else (
        some ((0 : Int32), M)))
    else (
      some ((1 : Int32), M)))
set_option maxHeartbeats 1000000 in
def f_RM_laps_l26 (p1 : Int32) (p2 : Int32) (k16 : Int32 → kx_M → Option (Int32 × kx_M)) : Nat → Int32 → Int32 → Int32 → kx_M → Option (Int32 × kx_M)
  | 0, _, _, _, _ => none
  | n + 1, x3, x4, x5, M =>
    if x3 ≤ x5 then (
      if x4 = 0 then (
        bd (x3 + Int32.ofInt (-1)) fun v1 =>
        k16 v1 M)
      else (
        some (x3, M)))
    else (
      if x4 = 0 then (
        bd (x5 + Int32.ofInt 1) fun v2 =>
        f_RM_laps_l26 p1 p2 k16 n x3 (0 : Int32) v2 M)
      else (
        gd (inb ((p1 - x3) + x5) 30) <|
        gd (inb (((16 : Int32) + ((5 : Int32) * p2)) + x5) 3840) <|
        if (mA M 145 ((p1 - x3) + x5).toNatClampNeg) = (mA M 140 (((16 : Int32) + ((5 : Int32) * p2)) + x5).toNatClampNeg) then (
          bd (x5 + Int32.ofInt 1) fun v5 =>
          f_RM_laps_l26 p1 p2 k16 n x3 (1 : Int32) v5 M)
        else (
          bd (x5 + Int32.ofInt 1) fun v6 =>
          f_RM_laps_l26 p1 p2 k16 n x3 (0 : Int32) v6 M)))
set_option maxHeartbeats 1000000 in
def f_RM_laps_l16 (p1 : Int32) (p2 : Int32) : Nat → Int32 → kx_M → Option (Int32 × kx_M)
  | 0, _, _ => none
  | n + 1, x3, M =>
    if x3 ≤ 0 then (
      some ((0 : Int32), M))
    else (
      f_RM_laps_l26 p1 p2 (f_RM_laps_l16 p1 p2 n) FU x3 (1 : Int32) (0 : Int32) M)
set_option maxHeartbeats 1000000 in
def f_RM_laps (p1 : Int32) (p2 : Int32) (M : kx_M) : Option (Int32 × kx_M) :=
  gd (inb ((10 : Int32) + p2) 3840) <|
  bd (if ((mA M 140 ((10 : Int32) + p2).toNatClampNeg) - (1 : Int32)) < p1 then ((mA M 140 ((10 : Int32) + p2).toNatClampNeg) - (1 : Int32)) else p1) fun v2 =>
  f_RM_laps_l16 p1 p2 FU v2 M
set_option maxHeartbeats 1000000 in
def f_RM_lays_l79 (c_lays : Int32 → Int32 → kx_M → Option (Unit × kx_M)) (p1 : Int32) (p2 : Int32) (k46 : Int32 → kx_M → Option (Unit × kx_M)) : Nat → Int32 → Int32 → Int32 → kx_M → Option (Unit × kx_M)
  | 0, _, _, _, _ => none
  | n + 1, x3, x4, x5, M =>
    gd (inb ((10 : Int32) + x3) 3840) <|
    if (mA M 140 ((10 : Int32) + x3).toNatClampNeg) ≤ x5 then (
      gd (inb ((10 : Int32) + x3) 3840) <|
      cal (c_lays (p1 &&& (((1 : Int32) <<< (x3 &&& 31)) ^^^ ((-1) : Int32))) ((p2 + (mA M 140 ((10 : Int32) + x3).toNatClampNeg)) - x4) M) fun _ M1 =>
      bd (x3 + Int32.ofInt 1) fun v5 =>
      k46 v5 M1)
    else (
      gd (inb (((16 : Int32) + ((5 : Int32) * x3)) + x5) 3840) <|
      gd (inb ((p2 + x5) - x4) 30) <|
      bd (sA M 145 (upd (mA M 145) ((p2 + x5) - x4).toNatClampNeg (mA M 140 (((16 : Int32) + ((5 : Int32) * x3)) + x5).toNatClampNeg))) fun M2 =>
      bd (x5 + Int32.ofInt 1) fun v8 =>
      f_RM_lays_l79 c_lays p1 p2 k46 n x3 x4 v8 M2)
set_option maxHeartbeats 1000000 in
def f_RM_lays_l46 (c_lays : Int32 → Int32 → kx_M → Option (Unit × kx_M)) (p1 : Int32) (p2 : Int32) : Nat → Int32 → kx_M → Option (Unit × kx_M)
  | 0, _, _ => none
  | n + 1, x3, M =>
    gd (inb (3 : Int32) 3840) <|
    if (mA M 140 (3 : Int32).toNatClampNeg) ≤ x3 then (
      some ((), M))
    else (
      cal (f_RM_has p1 x3 M) fun r2 M1 =>
      if r2 = 0 then (
        bd (x3 + Int32.ofInt 1) fun v4 =>
        f_RM_lays_l46 c_lays p1 p2 n v4 M1)
      else (
        cal (f_RM_laps p2 x3 M1) fun r5 M2 =>
        f_RM_lays_l79 c_lays p1 p2 (f_RM_lays_l46 c_lays p1 p2 n) FU x3 r5 r5 M2))
set_option maxHeartbeats 1000000 in
def f_RM_lays_l20 (c_lays : Int32 → Int32 → kx_M → Option (Unit × kx_M)) (p1 : Int32) (p2 : Int32) : Nat → Int32 → kx_M → Option (Unit × kx_M)
  | 0, _, _ => none
  | n + 1, x3, M =>
    if p2 ≤ x3 then (
      some ((), M))
    else (
      gd (inb x3 30) <|
      gd (inb x3 30) <|
      bd (sA M 146 (upd (mA M 146) x3.toNatClampNeg (mA M 145 x3.toNatClampNeg))) fun M1 =>
      bd (x3 + Int32.ofInt 1) fun v3 =>
      f_RM_lays_l20 c_lays p1 p2 n v3 M1)
set_option maxHeartbeats 1000000 in
def f_RM_lays (c_lays : Int32 → Int32 → kx_M → Option (Unit × kx_M)) (p1 : Int32) (p2 : Int32) (M : kx_M) : Option (Unit × kx_M) :=
  if p1 = 0 then (
    cal (f_RM_isBetter p2 M) fun r1 M1 =>
    if r1 = 0 then (
      some ((), M1))
    else (
      bd (sI M1 135 31 p2) fun M2 =>
      f_RM_lays_l20 c_lays p1 p2 FU (0 : Int32) M2))
  else (
    f_RM_lays_l46 c_lays p1 p2 FU (0 : Int32) M)
def g_RM_lays : Nat → Int32 → Int32 → kx_M → Option (Unit × kx_M)
  | 0, _, _, _ => none
  | n + 1, a1, a2, M => f_RM_lays (g_RM_lays n) a1 a2 M
set_option maxHeartbeats 1000000 in
def f_RM_shortest (p1 : Int32) (M : kx_M) : Option (Int32 × kx_M) :=
  bd (sI M 135 1 (0 : Int32)) fun M1 =>
  bd (sI M1 135 0 (0 : Int32)) fun M2 =>
  cal (f_RM_areClauses p1 M2) fun r1 M3 =>
  if r1 = 0 then (
    cal (f_RM_refuse (5 : Int32) M3) fun r3 M4 =>
    some (r3, M4))
  else (
    bd (sI M3 135 31 ((-1) : Int32)) fun M5 =>
    cal (f_RM_kernel p1 M5) fun r5 M6 =>
    cal (g_RM_lays 8 r5 (0 : Int32) M6) fun _ M7 =>
    some ((mI M7 135 31), M7))
set_option maxHeartbeats 1000000 in
def f_RM_shortestAt (p1 : Int32) (p2 : Int32) (M : kx_M) : Option (Int32 × kx_M) :=
  bd (sI M 135 1 (0 : Int32)) fun M1 =>
  bd (sI M1 135 0 (0 : Int32)) fun M2 =>
  cal (f_RM_areClauses p1 M2) fun r1 M3 =>
  if r1 = 0 then (
    cal (f_RM_refuse (5 : Int32) M3) fun r3 M4 =>
    some (r3, M4))
  else (
    bd (sI M3 135 31 ((-1) : Int32)) fun M5 =>
    cal (f_RM_kernel p1 M5) fun r5 M6 =>
    cal (g_RM_lays 8 r5 (0 : Int32) M6) fun _ M7 =>
    cal (f_RM_isIn (p2.toInt64) (0 : Int64) (((mI M7 135 31) - (1 : Int32)).toInt64) M7) fun r9 M8 =>
    if r9 = 0 then (
      cal (f_RM_refuse (8 : Int32) M8) fun r11 M9 =>
      some (r11, M9))
    else (
      gd (inb p2 30) <|
      some ((mA M8 146 p2.toNatClampNeg), M8)))
