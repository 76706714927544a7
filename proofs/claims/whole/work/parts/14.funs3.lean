set_option maxHeartbeats 1000000 in
def f_RM_gain (p1 : Int32) (p2 : Int32) (M : kx_M) : Option (Int32 × kx_M) :=
  gd (inb (((52 : Int32) + ((6 : Int32) * p1)) + p2) 3840) <|
  gd (inb (((76 : Int32) + ((6 : Int32) * p1)) + p2) 3840) <|
  some (((mA M 140 (((52 : Int32) + ((6 : Int32) * p1)) + p2).toNatClampNeg) - (mA M 140 (((76 : Int32) + ((6 : Int32) * p1)) + p2).toNatClampNeg)), M)
set_option maxHeartbeats 1000000 in
def f_RM_gains_l5 (p1 : Int32) (p2 : Int32) : Nat → Int32 → Int32 → kx_M → Option (Int32 × kx_M)
  | 0, _, _, _ => none
  | n + 1, x3, x4, M =>
    gd (inb (3 : Int32) 3840) <|
    if (mA M 140 (3 : Int32).toNatClampNeg) ≤ x4 then (
      some (x3, M))
    else (
      cal (f_RM_has p2 x4 M) fun r2 M1 =>
      if r2 = 0 then (
        bd (x3 + (0 : Int32)) fun v4 =>
        bd (x4 + Int32.ofInt 1) fun v5 =>
        f_RM_gains_l5 p1 p2 n v4 v5 M1)
      else (
        cal (f_RM_gain p1 x4 M1) fun r6 M2 =>
        bd (x3 + r6) fun v8 =>
        bd (x4 + Int32.ofInt 1) fun v9 =>
        f_RM_gains_l5 p1 p2 n v8 v9 M2))
set_option maxHeartbeats 1000000 in
def f_RM_gains (p1 : Int32) (p2 : Int32) (M : kx_M) : Option (Int32 × kx_M) :=
  f_RM_gains_l5 p1 p2 FU (0 : Int32) (0 : Int32) M
set_option maxHeartbeats 1000000 in
def f_RM_wins (p1 : Int32) (p2 : Int32) (M : kx_M) : Option (Int32 × kx_M) :=
  bd (sI M 135 1 (0 : Int32)) fun M1 =>
  bd (sI M1 135 0 (0 : Int32)) fun M2 =>
  cal (f_RM_isQueenAt p1 M2) fun r1 M3 =>
  if r1 = 0 then (
    cal (f_RM_refuse (2 : Int32) M3) fun r3 M4 =>
    some (r3, M4))
  else (
    cal (f_RM_areClauses p2 M3) fun r5 M5 =>
    if r5 = 0 then (
      cal (f_RM_refuse (5 : Int32) M5) fun r7 M6 =>
      some (r7, M6))
    else (
      cal (f_RM_gains p1 p2 M5) fun r9 M7 =>
      some (r9, M7)))
set_option maxHeartbeats 1000000 in
def f_RM_isFair_l44 (p1 : Int32) : Nat → Int32 → kx_M → Option (Int32 × kx_M)
  | 0, _, _ => none
  | n + 1, x2, M =>
    gd (inb (2 : Int32) 3840) <|
    if (mA M 140 (2 : Int32).toNatClampNeg) ≤ x2 then (
      some ((1 : Int32), M))
    else (
      cal (f_RM_gains x2 p1 M) fun r2 M1 =>
      if 0 ≤ r2 then (
        bd (x2 + Int32.ofInt 1) fun v4 =>
        f_RM_isFair_l44 p1 n v4 M1)
      else (
        some ((0 : Int32), M1)))
set_option maxHeartbeats 1000000 in
def f_RM_isFair_l2 (p1 : Int32) : Nat → Int32 → kx_M → Option (Int32 × kx_M)
  | 0, _, _ => none
  | n + 1, x2, M =>
    gd (inb (3 : Int32) 3840) <|
    if (mA M 140 (3 : Int32).toNatClampNeg) ≤ x2 then (
      f_RM_isFair_l44 p1 FU (0 : Int32) M)
    else (
      cal (f_RM_has p1 x2 M) fun r2 M1 =>
      if r2 = 0 then (
        bd (x2 + Int32.ofInt 1) fun v4 =>
        f_RM_isFair_l2 p1 n v4 M1)
      else (
        gd (inb ((46 : Int32) + x2) 3840) <|
        if ((mA M1 140 ((46 : Int32) + x2).toNatClampNeg) &&& p1) = 0 then (
          bd (x2 + Int32.ofInt 1) fun v6 =>
          f_RM_isFair_l2 p1 n v6 M1)
        else (
          some ((0 : Int32), M1))))
set_option maxHeartbeats 1000000 in
def f_RM_isFair (p1 : Int32) (M : kx_M) : Option (Int32 × kx_M) :=
  f_RM_isFair_l2 p1 FU (0 : Int32) M
set_option maxHeartbeats 1000000 in
def f_RM_allGains_l4 (p1 : Int32) : Nat → Int32 → Int32 → kx_M → Option (Int32 × kx_M)
  | 0, _, _, _ => none
  | n + 1, x2, x3, M =>
    gd (inb (2 : Int32) 3840) <|
    if (mA M 140 (2 : Int32).toNatClampNeg) ≤ x3 then (
      some (x2, M))
    else (
      cal (f_RM_gains x3 p1 M) fun r2 M1 =>
      bd (x2 + r2) fun v4 =>
      bd (x3 + Int32.ofInt 1) fun v5 =>
      f_RM_allGains_l4 p1 n v4 v5 M1)
set_option maxHeartbeats 1000000 in
def f_RM_allGains (p1 : Int32) (M : kx_M) : Option (Int32 × kx_M) :=
  f_RM_allGains_l4 p1 FU (0 : Int32) (0 : Int32) M
set_option maxHeartbeats 1000000 in
def f_RM_bestBargain_l4 : Nat → Int32 → Int32 → kx_M → Option (Int32 × kx_M)
  | 0, _, _, _ => none
  | n + 1, x1, x2, M =>
    gd (inb (3 : Int32) 3840) <|
    if ((1 : Int32) <<< ((mA M 140 (3 : Int32).toNatClampNeg) &&& 31)) ≤ x2 then (
      some (x1, M))
    else (
      cal (f_RM_isFair x2 M) fun r2 M1 =>
      if r2 = 0 then (
        bd (x2 + Int32.ofInt 1) fun v4 =>
        f_RM_bestBargain_l4 n x1 v4 M1)
      else (
        cal (f_RM_allGains x2 M1) fun r5 M2 =>
        cal (f_RM_allGains x1 M2) fun r7 M3 =>
        if r5 ≤ r7 then (
          bd (x2 + Int32.ofInt 1) fun v9 =>
          f_RM_bestBargain_l4 n x1 v9 M3)
        else (
          bd (x2 + Int32.ofInt 1) fun v10 =>
          f_RM_bestBargain_l4 n x2 v10 M3)))
set_option maxHeartbeats 1000000 in
def f_RM_bestBargain (M : kx_M) : Option (Int32 × kx_M) :=
  f_RM_bestBargain_l4 FU (0 : Int32) (1 : Int32) M
set_option maxHeartbeats 1000000 in
def f_RM_bargain (M : kx_M) : Option (Int32 × kx_M) :=
  bd (sI M 135 1 (0 : Int32)) fun M1 =>
  bd (sI M1 135 0 (0 : Int32)) fun M2 =>
  cal (f_RM_bestBargain M2) fun r1 M3 =>
  some (r1, M3)
set_option maxHeartbeats 1000000 in
def f_RM_bargainWorth (M : kx_M) : Option (Int32 × kx_M) :=
  bd (sI M 135 1 (0 : Int32)) fun M1 =>
  bd (sI M1 135 0 (0 : Int32)) fun M2 =>
  cal (f_RM_bestBargain M2) fun r1 M3 =>
  cal (f_RM_allGains r1 M3) fun r3 M4 =>
  some (r3, M4)
set_option maxHeartbeats 1000000 in
def f_RM_isStable_l24 (p1 : Int32) (k12 : Int32 → kx_M → Option (Int32 × kx_M)) : Nat → Int32 → Int32 → kx_M → Option (Int32 × kx_M)
  | 0, _, _, _ => none
  | n + 1, x2, x3, M =>
    gd (inb (3 : Int32) 3840) <|
    if (mA M 140 (3 : Int32).toNatClampNeg) ≤ x3 then (
      bd (x2 + Int32.ofInt 1) fun v2 =>
      k12 v2 M)
    else (
      cal (f_RM_has p1 x3 M) fun r3 M1 =>
      if r3 = 0 then (
        bd (x3 + Int32.ofInt 1) fun v5 =>
        f_RM_isStable_l24 p1 k12 n x2 v5 M1)
      else (
        cal (f_RM_gain x2 x3 M1) fun r6 M2 =>
        if 0 ≤ r6 then (
          bd (x3 + Int32.ofInt 1) fun v8 =>
          f_RM_isStable_l24 p1 k12 n x2 v8 M2)
        else (
          some ((0 : Int32), M2))))
set_option maxHeartbeats 1000000 in
def f_RM_isStable_l12 (p1 : Int32) : Nat → Int32 → kx_M → Option (Int32 × kx_M)
  | 0, _, _ => none
  | n + 1, x2, M =>
    gd (inb (2 : Int32) 3840) <|
    if (mA M 140 (2 : Int32).toNatClampNeg) ≤ x2 then (
      some ((1 : Int32), M))
    else (
      f_RM_isStable_l24 p1 (f_RM_isStable_l12 p1 n) FU x2 (0 : Int32) M)
set_option maxHeartbeats 1000000 in
def f_RM_isStable (p1 : Int32) (M : kx_M) : Option (Int32 × kx_M) :=
  cal (f_RM_isFair p1 M) fun r1 M1 =>
  if r1 = 0 then (
    some ((0 : Int32), M1))
  else (
    f_RM_isStable_l12 p1 FU (0 : Int32) M1)
set_option maxHeartbeats 1000000 in
def f_RM_stable (p1 : Int32) (M : kx_M) : Option (Int32 × kx_M) :=
  bd (sI M 135 1 (0 : Int32)) fun M1 =>
  bd (sI M1 135 0 (0 : Int32)) fun M2 =>
  cal (f_RM_areClauses p1 M2) fun r1 M3 =>
  if r1 = 0 then (
    cal (f_RM_refuse (5 : Int32) M3) fun r3 M4 =>
    some (r3, M4))
  else (
    cal (f_RM_isStable p1 M3) fun r5 M5 =>
    if r5 = 0 then (
      some ((0 : Int32), M5))
    else (
      some ((1 : Int32), M5)))
set_option maxHeartbeats 1000000 in
def f_RM_stables_l14 : Nat → Int32 → Int32 → kx_M → Option (Int32 × kx_M)
  | 0, _, _, _ => none
  | n + 1, x1, x2, M =>
    gd (inb (3 : Int32) 3840) <|
    if ((1 : Int32) <<< ((mA M 140 (3 : Int32).toNatClampNeg) &&& 31)) ≤ x2 then (
      some (x1, M))
    else (
      cal (f_RM_isStable x2 M) fun r2 M1 =>
      if r2 = 0 then (
        bd (x1 + (0 : Int32)) fun v4 =>
        bd (x2 + Int32.ofInt 1) fun v5 =>
        f_RM_stables_l14 n v4 v5 M1)
      else (
        bd (x1 + (1 : Int32)) fun v6 =>
        bd (x2 + Int32.ofInt 1) fun v7 =>
        f_RM_stables_l14 n v6 v7 M1))
set_option maxHeartbeats 1000000 in
def f_RM_stables (M : kx_M) : Option (Int32 × kx_M) :=
  bd (sI M 135 1 (0 : Int32)) fun M1 =>
  bd (sI M1 135 0 (0 : Int32)) fun M2 =>
  f_RM_stables_l14 FU (0 : Int32) (0 : Int32) M2
set_option maxHeartbeats 1000000 in
def f_RM_whyNoFill (p1 : Int32) (p2 : Int32) (M : kx_M) : Option (Int32 × kx_M) :=
  cal (f_RM_isTray p2 M) fun r1 M1 =>
  if r1 = 0 then (
    some ((1 : Int32), M1))
  else (
    cal (f_RM_isClauseAt p1 M1) fun r3 M2 =>
    if r3 = 0 then (
      some ((2 : Int32), M2))
    else (
      cal (f_RM_whyNoRun p2 ((-1) : Int32) M2) fun r5 M3 =>
      some (r5, M3)))
set_option maxHeartbeats 1000000 in
def f_RM_reads_l2 (p1 : Int32) : Nat → Int32 → kx_M → Option (Unit × kx_M)
  | 0, _, _ => none
  | n + 1, x2, M =>
    gd (inb (0 : Int32) 3840) <|
    if (mA M 140 (0 : Int32).toNatClampNeg) ≤ x2 then (
      some ((), M))
    else (
      cal (f_RM_numberOf p1 x2 M) fun r2 M1 =>
      gd (inb x2 8) <|
      bd (sA M1 147 (upd (mA M1 147) x2.toNatClampNeg (r2.toInt32))) fun M2 =>
      bd (x2 + Int32.ofInt 1) fun v5 =>
      f_RM_reads_l2 p1 n v5 M2)
set_option maxHeartbeats 1000000 in
def f_RM_reads (p1 : Int32) (M : kx_M) : Option (Unit × kx_M) :=
  f_RM_reads_l2 p1 FU (0 : Int32) M
set_option maxHeartbeats 1000000 in
def f_RM_led_l21 (p1 : Int32) (p2 : Int32) (p3 : Int32) : Nat → Int32 → Int32 → Int32 → kx_M → Option (Int32 × kx_M)
  | 0, _, _, _, _ => none
  | n + 1, x4, x5, x6, M =>
    gd (inb ((10 : Int32) + p1) 3840) <|
    if (mA M 140 ((10 : Int32) + p1).toNatClampNeg) ≤ x6 then (
      some (x5, M))
    else (
      cal (f_RM_has x4 x6 M) fun r2 M1 =>
      if r2 = 0 then (
        bd (x6 + Int32.ofInt 1) fun v4 =>
        f_RM_led_l21 p1 p2 p3 n x4 x5 v4 M1)
      else (
        gd (inb (((16 : Int32) + ((5 : Int32) * p1)) + x6) 3840) <|
        if (mA M1 140 (((16 : Int32) + ((5 : Int32) * p1)) + x6).toNatClampNeg) = p3 then (
          gd (inb ((10 : Int32) + p1) 3840) <|
          if (x6 + (1 : Int32)) = (mA M1 140 ((10 : Int32) + p1).toNatClampNeg) then (
            some ((32 : Int32), M1))
          else (
            bd (x5 ||| ((1 : Int32) <<< (x6 &&& 31))) fun v7 =>
            bd (x6 + Int32.ofInt 1) fun v8 =>
            f_RM_led_l21 p1 p2 p3 n x4 v7 v8 M1))
        else (
          bd (x6 + Int32.ofInt 1) fun v9 =>
          f_RM_led_l21 p1 p2 p3 n x4 x5 v9 M1)))
set_option maxHeartbeats 1000000 in
def f_RM_led (p1 : Int32) (p2 : Int32) (p3 : Int32) (M : kx_M) : Option (Int32 × kx_M) :=
  if p2 = (32 : Int32) then (
    some (p2, M))
  else (
    bd ((p2 <<< ((1 : Int32) &&& 31)) ||| (1 : Int32)) fun v1 =>
    f_RM_led_l21 p1 p2 p3 FU v1 (0 : Int32) (0 : Int32) M)
set_option maxHeartbeats 1000000 in
def f_RM_filling_l144 (p1 : Int32) (k31 : Int32 → kx_M → Option (Int32 × kx_M)) : Nat → Int32 → Int32 → kx_M → Option (Int32 × kx_M)
  | 0, _, _, _ => none
  | n + 1, x2, x3, M =>
    if (33 : Int32) ≤ x3 then (
      bd (x2 + Int32.ofInt 1) fun v1 =>
      k31 v1 M)
    else (
      gd (inb x3 33) <|
      gd (inb x3 33) <|
      bd (sA M 148 (upd (mA M 148) x3.toNatClampNeg (mA M 149 x3.toNatClampNeg))) fun M1 =>
      bd (x3 + Int32.ofInt 1) fun v4 =>
      f_RM_filling_l144 p1 k31 n x2 v4 M1)
set_option maxHeartbeats 1000000 in
def f_RM_filling_l108 (p1 : Int32) (k73 : Int32 → Int32 → Int32 → kx_M → Option (Int32 × kx_M)) (x2 : Int32) (x3 : Int32) (x4 : Int32) (M : kx_M) : Option (Int32 × kx_M) :=
  cal (f_RM_led p1 x3 x4 M) fun r1 M1 =>
  gd (inb r1 33) <|
  gd (inb x3 33) <|
  gd (inb r1 33) <|
  bd (sA M1 149 (upd (mA M1 149) r1.toNatClampNeg ((mA M1 149 r1.toNatClampNeg) + (mA M1 148 x3.toNatClampNeg)))) fun M2 =>
  bd (x4 + Int32.ofInt 1) fun v6 =>
  k73 x2 x3 v6 M2
set_option maxHeartbeats 1000000 in
def f_RM_filling_l73 (p1 : Int32) (k64 : Int32 → Int32 → kx_M → Option (Int32 × kx_M)) : Nat → Int32 → Int32 → Int32 → kx_M → Option (Int32 × kx_M)
  | 0, _, _, _, _ => none
  | n + 1, x2, x3, x4, M =>
    if (4 : Int32) ≤ x4 then (
      bd (x3 + Int32.ofInt 1) fun v1 =>
      k64 x2 v1 M)
    else (
      gd (inb x3 33) <|
      if (mA M 148 x3.toNatClampNeg) ≤ 0 then (
        bd (x3 + Int32.ofInt 1) fun v3 =>
        k64 x2 v3 M)
      else (
        gd (inb x2 8) <|
        if (mA M 147 x2.toNatClampNeg) < 0 then (
          f_RM_filling_l108 p1 (f_RM_filling_l73 p1 k64 n) x2 x3 x4 M)
        else (
          gd (inb x2 8) <|
          if (mA M 147 x2.toNatClampNeg) = x4 then (
            f_RM_filling_l108 p1 (f_RM_filling_l73 p1 k64 n) x2 x3 x4 M)
          else (
            bd (x4 + Int32.ofInt 1) fun v6 =>
            f_RM_filling_l73 p1 k64 n x2 x3 v6 M))))
set_option maxHeartbeats 1000000 in
def f_RM_filling_l64 (p1 : Int32) (k31 : Int32 → kx_M → Option (Int32 × kx_M)) : Nat → Int32 → Int32 → kx_M → Option (Int32 × kx_M)
  | 0, _, _, _ => none
  | n + 1, x2, x3, M =>
    if (33 : Int32) ≤ x3 then (
      f_RM_filling_l144 p1 k31 FU x2 (0 : Int32) M)
    else (
      f_RM_filling_l73 p1 (f_RM_filling_l64 p1 k31 n) FU x2 x3 (0 : Int32) M)
set_option maxHeartbeats 1000000 in
def f_RM_filling_l43 (p1 : Int32) (k31 : Int32 → kx_M → Option (Int32 × kx_M)) : Nat → Int32 → Int32 → kx_M → Option (Int32 × kx_M)
  | 0, _, _, _ => none
  | n + 1, x2, x3, M =>
    if (33 : Int32) ≤ x3 then (
      f_RM_filling_l64 p1 k31 FU x2 (0 : Int32) M)
    else (
      gd (inb x3 33) <|
      bd (sA M 149 (upd (mA M 149) x3.toNatClampNeg (0 : Int32))) fun M1 =>
      bd (x3 + Int32.ofInt 1) fun v2 =>
      f_RM_filling_l43 p1 k31 n x2 v2 M1)
set_option maxHeartbeats 1000000 in
def f_RM_filling_l31 (p1 : Int32) : Nat → Int32 → kx_M → Option (Int32 × kx_M)
  | 0, _, _ => none
  | n + 1, x2, M =>
    gd (inb (0 : Int32) 3840) <|
    if (mA M 140 (0 : Int32).toNatClampNeg) ≤ x2 then (
      gd (inb (32 : Int32) 33) <|
      some ((mA M 148 (32 : Int32).toNatClampNeg), M))
    else (
      f_RM_filling_l43 p1 (f_RM_filling_l31 p1 n) FU x2 (0 : Int32) M)
set_option maxHeartbeats 1000000 in
def f_RM_filling_l2 (p1 : Int32) : Nat → Int32 → kx_M → Option (Int32 × kx_M)
  | 0, _, _ => none
  | n + 1, x2, M =>
    if (33 : Int32) ≤ x2 then (
      f_RM_filling_l31 p1 FU (0 : Int32) M)
    else (
      if x2 = 0 then (
        gd (inb x2 33) <|
        bd (sA M 148 (upd (mA M 148) x2.toNatClampNeg (1 : Int32))) fun M1 =>
        bd (x2 + Int32.ofInt 1) fun v2 =>
        f_RM_filling_l2 p1 n v2 M1)
      else (
        gd (inb x2 33) <|
        bd (sA M 148 (upd (mA M 148) x2.toNatClampNeg (0 : Int32))) fun M2 =>
        bd (x2 + Int32.ofInt 1) fun v4 =>
        f_RM_filling_l2 p1 n v4 M2))
set_option maxHeartbeats 1000000 in
def f_RM_filling (p1 : Int32) (M : kx_M) : Option (Int32 × kx_M) :=
  f_RM_filling_l2 p1 FU (0 : Int32) M
set_option maxHeartbeats 1000000 in
def f_RM_fills (p1 : Int32) (p2 : Int32) (M : kx_M) : Option (Int32 × kx_M) :=
  bd (sI M 135 1 (0 : Int32)) fun M1 =>
  cal (f_RM_whyNoFill p1 p2 M1) fun r1 M2 =>
  bd (sI M2 135 0 r1) fun M3 =>
  if (mI M3 135 0) ≤ 0 then (
    cal (f_RM_reads p2 M3) fun _ M4 =>
    cal (f_RM_filling p1 M4) fun r5 M5 =>
    some (r5, M5))
  else (
    some (((-1) : Int32), M3))
set_option maxHeartbeats 1000000 in
def f_RM_fraction_l9 (p1 : Int64) (p3 : Int64) : Nat → Int64 → Int64 → kx_M → Option (Int32 × kx_M)
  | 0, _, _, _ => none
  | n + 1, x5, x7, M =>
    if (lg_cmp x7 (0 : Int64)) = 0 then (
      gd (nzJ x5) <|
      bd (sJ M 135 2 (p1 / x5)) fun M1 =>
      gd (nzJ x5) <|
      bd (sJ M1 135 3 (p3 / x5)) fun M2 =>
      some ((1 : Int32), M2))
    else (
      gd (nzJ x7) <|
      bd (x5 - x5 / x7 * x7) fun v4 =>
      f_RM_fraction_l9 p1 p3 n x7 v4 M)
set_option maxHeartbeats 1000000 in
def f_RM_fraction (p1 : Int64) (p3 : Int64) (M : kx_M) : Option (Int32 × kx_M) :=
  bd (if 0 < p1 then p1 else -p1) fun v1 =>
  f_RM_fraction_l9 p1 p3 FU v1 p3 M
set_option maxHeartbeats 1000000 in
def f_RM_chance_l34 (p1 : Int32) (p2 : Int32) : Nat → Int32 → Int32 → kx_M → Option (Int32 × kx_M)
  | 0, _, _, _ => none
  | n + 1, x3, x4, M =>
    gd (inb (0 : Int32) 3840) <|
    if (mA M 140 (0 : Int32).toNatClampNeg) ≤ x4 then (
      cal (f_RM_filling p1 M) fun r2 M1 =>
      cal (f_RM_fraction (r2.toInt64) (x3.toInt64) M1) fun r4 M2 =>
      gd (b01 r4) <|
      some (r4, M2))
    else (
      gd (inb x4 8) <|
      if 0 ≤ (mA M 147 x4.toNatClampNeg) then (
        bd (x3 * (1 : Int32)) fun v8 =>
        bd (x4 + Int32.ofInt 1) fun v9 =>
        f_RM_chance_l34 p1 p2 n v8 v9 M)
      else (
        bd (x3 * (4 : Int32)) fun v10 =>
        bd (x4 + Int32.ofInt 1) fun v11 =>
        f_RM_chance_l34 p1 p2 n v10 v11 M))
set_option maxHeartbeats 1000000 in
def f_RM_chance (p1 : Int32) (p2 : Int32) (M : kx_M) : Option (Int32 × kx_M) :=
  bd (sI M 135 1 (0 : Int32)) fun M1 =>
  cal (f_RM_whyNoFill p1 p2 M1) fun r1 M2 =>
  bd (sI M2 135 0 r1) fun M3 =>
  if (mI M3 135 0) ≤ 0 then (
    cal (f_RM_reads p2 M3) fun _ M4 =>
    f_RM_chance_l34 p1 p2 FU (1 : Int32) (0 : Int32) M4)
  else (
    some ((0 : Int32), M3))
set_option maxHeartbeats 1000000 in
def f_RM_fillingWith_l21 (p1 : Int32) (p2 : Int32) (p3 : Int32) (x4 : Int32) (M : kx_M) : Option (Int32 × kx_M) :=
  gd (inb p2 8) <|
  bd (sA M 147 (upd (mA M 147) p2.toNatClampNeg p3)) fun M1 =>
  cal (f_RM_filling p1 M1) fun r2 M2 =>
  gd (inb p2 8) <|
  bd (sA M2 147 (upd (mA M2 147) p2.toNatClampNeg x4)) fun M3 =>
  some (r2, M3)
set_option maxHeartbeats 1000000 in
def f_RM_fillingWith (p1 : Int32) (p2 : Int32) (p3 : Int32) (M : kx_M) : Option (Int32 × kx_M) :=
  gd (inb p2 8) <|
  bd (mA M 147 p2.toNatClampNeg) fun v2 =>
  if v2 < 0 then (
    f_RM_fillingWith_l21 p1 p2 p3 v2 M)
  else (
    if v2 = p3 then (
      f_RM_fillingWith_l21 p1 p2 p3 v2 M)
    else (
      some ((0 : Int32), M)))
set_option maxHeartbeats 1000000 in
def f_RM_look_l83 (p1 : Int32) (p2 : Int32) (k53 : Int32 → Int32 → Int32 → kx_M → Option (Int32 × kx_M)) : Nat → Int32 → Int32 → Int32 → Int32 → Int32 → kx_M → Option (Int32 × kx_M)
  | 0, _, _, _, _, _, _ => none
  | n + 1, x3, x4, x5, x6, x7, M =>
    if (4 : Int32) ≤ x7 then (
      if x3 < 0 then (
        bd (x5 + Int32.ofInt 1) fun v1 =>
        k53 x5 x6 v1 M)
      else (
        if x6 < x4 then (
          bd (x5 + Int32.ofInt 1) fun v2 =>
          k53 x5 x6 v2 M)
        else (
          bd (x5 + Int32.ofInt 1) fun v3 =>
          k53 x3 x4 v3 M)))
    else (
      cal (f_RM_fillingWith p1 x5 x7 M) fun r4 M1 =>
      bd (if x6 < r4 then r4 else x6) fun v6 =>
      bd (x7 + Int32.ofInt 1) fun v7 =>
      f_RM_look_l83 p1 p2 k53 n x3 x4 x5 v6 v7 M1)
set_option maxHeartbeats 1000000 in
def f_RM_look_l53 (p1 : Int32) (p2 : Int32) : Nat → Int32 → Int32 → Int32 → kx_M → Option (Int32 × kx_M)
  | 0, _, _, _, _ => none
  | n + 1, x3, x4, x5, M =>
    gd (inb (0 : Int32) 3840) <|
    if (mA M 140 (0 : Int32).toNatClampNeg) ≤ x5 then (
      some (x3, M))
    else (
      gd (inb x5 8) <|
      if (mA M 147 x5.toNatClampNeg) < 0 then (
        f_RM_look_l83 p1 p2 (f_RM_look_l53 p1 p2 n) FU x3 x4 x5 (0 : Int32) (0 : Int32) M)
      else (
        bd (x5 + Int32.ofInt 1) fun v3 =>
        f_RM_look_l53 p1 p2 n x3 x4 v3 M))
set_option maxHeartbeats 1000000 in
def f_RM_look (p1 : Int32) (p2 : Int32) (M : kx_M) : Option (Int32 × kx_M) :=
  bd (sI M 135 1 (0 : Int32)) fun M1 =>
  cal (f_RM_whyNoFill p1 p2 M1) fun r1 M2 =>
  bd (sI M2 135 0 r1) fun M3 =>
  if (mI M3 135 0) ≤ 0 then (
    cal (f_RM_reads p2 M3) fun _ M4 =>
    cal (f_RM_filling p1 M4) fun r5 M5 =>
    if (2 : Int32) ≤ r5 then (
      f_RM_look_l53 p1 p2 FU ((-1) : Int32) (0 : Int32) (0 : Int32) M5)
    else (
      cal (f_RM_refuse (8 : Int32) M5) fun r7 M6 =>
      some (r7, M6)))
  else (
    some (((-1) : Int32), M3))
set_option maxHeartbeats 1000000 in
def f_RM_sure_l71 (p1 : Int32) (p2 : Int32) (p3 : Int32) : Nat → Int32 → Int32 → kx_M → Option (Int32 × kx_M)
  | 0, _, _, _ => none
  | n + 1, x4, x5, M =>
    if (4 : Int32) ≤ x5 then (
      cal (f_RM_refuse (8 : Int32) M) fun r1 M1 =>
      some (r1, M1))
    else (
      if x4 ≤ 0 then (
        cal (f_RM_refuse (8 : Int32) M) fun r3 M2 =>
        some (r3, M2))
      else (
        cal (f_RM_fillingWith p1 p3 x5 M) fun r5 M3 =>
        if r5 = x4 then (
          some (x5, M3))
        else (
          bd (x5 + Int32.ofInt 1) fun v7 =>
          f_RM_sure_l71 p1 p2 p3 n x4 v7 M3)))
set_option maxHeartbeats 1000000 in
def f_RM_sure_l44 (p1 : Int32) (p2 : Int32) (p3 : Int32) (s0 : Nat) (s1 : Int32) (M : kx_M) : Option (Int32 × kx_M) :=
  bd (sI M 135 0 s1) fun M1 =>
  if (mI M1 135 0) ≤ 0 then (
    cal (f_RM_reads p2 M1) fun _ M2 =>
    cal (f_RM_filling p1 M2) fun r3 M3 =>
    f_RM_sure_l71 p1 p2 p3 FU r3 (0 : Int32) M3)
  else (
    some (((-1) : Int32), M1))
set_option maxHeartbeats 1000000 in
def f_RM_sure (p1 : Int32) (p2 : Int32) (p3 : Int32) (M : kx_M) : Option (Int32 × kx_M) :=
  bd (sI M 135 1 (0 : Int32)) fun M1 =>
  cal (f_RM_isTray p2 M1) fun r1 M2 =>
  if r1 = 0 then (
    f_RM_sure_l44 p1 p2 p3 135 (1 : Int32) M2)
  else (
    cal (f_RM_isClauseAt p1 M2) fun r3 M3 =>
    if r3 = 0 then (
      f_RM_sure_l44 p1 p2 p3 135 (2 : Int32) M3)
    else (
      cal (f_RM_isColumn p3 M3) fun r5 M4 =>
      if r5 = 0 then (
        f_RM_sure_l44 p1 p2 p3 135 (2 : Int32) M4)
      else (
        cal (f_RM_whyNoRun p2 ((-1) : Int32) M4) fun r7 M5 =>
        f_RM_sure_l44 p1 p2 p3 135 r7 M5)))
set_option maxHeartbeats 1000000 in
def f_RM_anyYears_l18 (p1 : Int32) : Nat → Int32 → kx_M → Option (Int32 × kx_M)
  | 0, _, _ => none
  | n + 1, x2, M =>
    if p1 ≤ x2 then (
      bd (sI M 135 41 ((mI M 135 41) + p1)) fun M1 =>
      some ((1 : Int32), M1))
    else (
      cal (f_RM_goesYear M) fun r1 M2 =>
      bd (sI M2 135 42 ((mI M 135 42) + r1)) fun M3 =>
      bd (x2 + Int32.ofInt 1) fun v3 =>
      f_RM_anyYears_l18 p1 n v3 M3)
set_option maxHeartbeats 1000000 in
def f_RM_anyYears (p1 : Int32) (M : kx_M) : Option (Int32 × kx_M) :=
  gd (inb (5 : Int32) 3840) <|
  if ((mA M 140 (5 : Int32).toNatClampNeg) + p1) ≤ (9999 : Int32) then (
    f_RM_anyYears_l18 p1 FU (0 : Int32) M)
  else (
    some ((0 : Int32), M))
set_option maxHeartbeats 1000000 in
def f_RM_draw (p1 : Int32) (M : kx_M) : Option (Int32 × kx_M) :=
  bd (sI M 135 38 ((((mI M 135 38) * (2971 : Int32)) + (10729 : Int32)) - (((mI M 135 38) * (2971 : Int32)) + (10729 : Int32)) / (65536 : Int32) * (65536 : Int32))) fun M1 =>
  gd (nz p1) <|
  some ((((mI M1 135 38) / (8 : Int32)) - ((mI M1 135 38) / (8 : Int32)) / p1 * p1), M1)
set_option maxHeartbeats 1000000 in
def f_RM_isEaten (p1 : Int32) (p2 : Int32) (M : kx_M) : Option (Int32 × kx_M) :=
  cal (f_RM_eats p1 p2 M) fun r1 M1 =>
  bd (sI M1 135 42 ((mI M1 135 42) + (if (0 : Int32) < r1 then r1 else (0 : Int32)))) fun M2 =>
  if r1 ≤ 0 then (
    some ((0 : Int32), M2))
  else (
    some ((1 : Int32), M2))
set_option maxHeartbeats 1000000 in
def f_RM_isAny (M : kx_M) : Option (Int32 × kx_M) :=
  gd (inb (4 : Int32) 3840) <|
  if (mA M 140 (4 : Int32).toNatClampNeg) = 0 then (
    some ((0 : Int32), M))
  else (
    gd (inb (4 : Int32) 3840) <|
    cal (f_RM_draw (mA M 140 (4 : Int32).toNatClampNeg) M) fun r3 M1 =>
    gd (inb (0 : Int32) 3840) <|
    cal (f_RM_draw (mA M1 140 (0 : Int32).toNatClampNeg) M1) fun r6 M2 =>
    cal (f_RM_isEaten r3 r6 M2) fun r8 M3 =>
    gd (b01 r8) <|
    some (r8, M3))
set_option maxHeartbeats 1000000 in
def f_RM_isPulled (p1 : Int32) (p2 : Int32) (M : kx_M) : Option (Int32 × kx_M) :=
  cal (f_RM_pulls p1 p2 M) fun r1 M1 =>
  bd (sI M1 135 42 ((mI M1 135 42) + r1)) fun M2 =>
  if r1 ≤ 0 then (
    some ((0 : Int32), M2))
  else (
    some ((1 : Int32), M2))
set_option maxHeartbeats 1000000 in
def f_RM_does (p1 : Int32) (M : kx_M) : Option (Int32 × kx_M) :=
  gd (inb p1 3840) <|
  bd (mA M 140 p1.toNatClampNeg) fun v2 =>
  gd (inb (p1 + (1 : Int32)) 3840) <|
  bd (mA M 140 (p1 + (1 : Int32)).toNatClampNeg) fun v4 =>
  gd (inb (p1 + (2 : Int32)) 3840) <|
  bd (mA M 140 (p1 + (2 : Int32)).toNatClampNeg) fun v6 =>
  if v2 = 0 then (
    cal (f_RM_anyYears v4 M) fun r7 M1 =>
    gd (b01 r7) <|
    some (r7, M1))
  else (
    if v2 = (4 : Int32) then (
      cal (f_RM_isAny M) fun r10 M2 =>
      gd (b01 r10) <|
      some (r10, M2))
    else (
      cal (f_RM_isRowAt v4 M) fun r13 M3 =>
      if r13 = 0 then (
        some ((0 : Int32), M3))
      else (
        if v2 = (1 : Int32) then (
          cal (f_RM_isPulled v4 v6 M3) fun r15 M4 =>
          gd (b01 r15) <|
          some (r15, M4))
        else (
          if v2 = (2 : Int32) then (
            cal (f_RM_isEaten v4 v6 M3) fun r18 M5 =>
            gd (b01 r18) <|
            some (r18, M5))
          else (
            cal (f_RM_place v4 v6 M3) fun r21 M6 =>
            cal (f_RM_darns r21 M6) fun r23 M7 =>
            bd (sI M7 135 43 ((mI M7 135 43) + (1 : Int32))) fun M8 =>
            some ((1 : Int32), M8))))))
set_option maxHeartbeats 1000000 in
def f_RM_isWhole_l12 (p1 : Int32) : Nat → Int32 → kx_M → Option (Int32 × kx_M)
  | 0, _, _ => none
  | n + 1, x2, M =>
    gd (inb (0 : Int32) 3840) <|
    if (mA M 140 (0 : Int32).toNatClampNeg) ≤ x2 then (
      some ((1 : Int32), M))
    else (
      cal (f_RM_place p1 x2 M) fun r2 M1 =>
      cal (f_RM_isUndone r2 M1) fun r4 M2 =>
      if r4 = 0 then (
        bd (x2 + Int32.ofInt 1) fun v6 =>
        f_RM_isWhole_l12 p1 n v6 M2)
      else (
        some ((0 : Int32), M2)))
set_option maxHeartbeats 1000000 in
def f_RM_isWhole (p1 : Int32) (M : kx_M) : Option (Int32 × kx_M) :=
  cal (f_RM_isRowAt p1 M) fun r1 M1 =>
  if r1 = 0 then (
    some ((0 : Int32), M1))
  else (
    f_RM_isWhole_l12 p1 FU (0 : Int32) M1)
set_option maxHeartbeats 1000000 in
def f_RM_isSo (p1 : Int32) (M : kx_M) : Option (Int32 × kx_M) :=
  gd (inb (p1 + (6 : Int32)) 3840) <|
  bd (mA M 140 (p1 + (6 : Int32)).toNatClampNeg) fun v2 =>
  gd (inb (p1 + (1 : Int32)) 3840) <|
  bd (mA M 140 (p1 + (1 : Int32)).toNatClampNeg) fun v4 =>
  if v2 = 0 then (
    cal (f_RM_times v4 M) fun r5 M1 =>
    if r5 ≤ 0 then (
      some ((0 : Int32), M1))
    else (
      some ((1 : Int32), M1)))
  else (
    if v2 = (1 : Int32) then (
      cal (f_RM_isWhole v4 M) fun r7 M2 =>
      gd (b01 r7) <|
      some (r7, M2))
    else (
      cal (f_RM_sumOf (0 : Int32) M) fun r10 M3 =>
      gd (inb (p1 + (7 : Int32)) 3840) <|
      if (mA M3 140 (p1 + (7 : Int32)).toNatClampNeg) = (60 : Int32) then (
        if v4 ≤ r10 then (
          some ((0 : Int32), M3))
        else (
          some ((1 : Int32), M3)))
      else (
        gd (inb (p1 + (7 : Int32)) 3840) <|
        if (mA M3 140 (p1 + (7 : Int32)).toNatClampNeg) = (62 : Int32) then (
          if r10 ≤ v4 then (
            some ((0 : Int32), M3))
          else (
            some ((1 : Int32), M3)))
        else (
          if r10 = v4 then (
            some ((1 : Int32), M3))
          else (
            some ((0 : Int32), M3))))))
set_option maxHeartbeats 1000000 in
def f_RM_doOne_l118 (c_doAll : Int32 → Int32 → kx_M → Option (Unit × kx_M)) (p1 : Int32) : Nat → Int32 → Int32 → kx_M → Option (Unit × kx_M)
  | 0, _, _, _ => none
  | n + 1, x2, x4, M =>
    gd (inb (x2 + (1 : Int32)) 3840) <|
    if (mA M 140 (x2 + (1 : Int32)).toNatClampNeg) ≤ x4 then (
      some ((), M))
    else (
      if (mI M 135 37) = 0 then (
        gd (inb (x2 + (8 : Int32)) 3840) <|
        cal (c_doAll (p1 + (1 : Int32)) (mA M 140 (x2 + (8 : Int32)).toNatClampNeg) M) fun _ M1 =>
        bd (x4 + Int32.ofInt 1) fun v5 =>
        f_RM_doOne_l118 c_doAll p1 n x2 v5 M1)
      else (
        some ((), M)))
set_option maxHeartbeats 1000000 in
def f_RM_doOne_l109 (c_doAll : Int32 → Int32 → kx_M → Option (Unit × kx_M)) (p1 : Int32) (x2 : Int32) (x3 : Int32) (M : kx_M) : Option (Unit × kx_M) :=
  if x3 = (6 : Int32) then (
    f_RM_doOne_l118 c_doAll p1 FU x2 (0 : Int32) M)
  else (
    if x3 ≤ (6 : Int32) then (
      some ((), M))
    else (
      bd (sI M 135 37 (1 : Int32)) fun M1 =>
      some ((), M1)))
set_option maxHeartbeats 1000000 in
def f_RM_doOne (c_doAll : Int32 → Int32 → kx_M → Option (Unit × kx_M)) (p1 : Int32) (M : kx_M) : Option (Unit × kx_M) :=
  if (mI M 135 39) = (300 : Int32) then (
    bd (sI M 135 37 (1 : Int32)) fun M1 =>
    bd (sI M1 135 44 (1 : Int32)) fun M2 =>
    some ((), M2))
  else (
    bd (sI M 135 39 ((mI M 135 39) + (1 : Int32))) fun M3 =>
    bd ((498 : Int32) + ((9 : Int32) * p1)) fun v1 =>
    gd (inb v1 3840) <|
    bd (mA M3 140 v1.toNatClampNeg) fun v3 =>
    if (5 : Int32) ≤ v3 then (
      if v3 = (5 : Int32) then (
        cal (f_RM_isSo v1 M3) fun r4 M4 =>
        if r4 = 0 then (
          f_RM_doOne_l109 c_doAll p1 v1 v3 M4)
        else (
          gd (inb (v1 + (8 : Int32)) 3840) <|
          cal (c_doAll (p1 + (1 : Int32)) (mA M4 140 (v1 + (8 : Int32)).toNatClampNeg) M4) fun _ M5 =>
          some ((), M5)))
      else (
        f_RM_doOne_l109 c_doAll p1 v1 v3 M3))
    else (
      cal (f_RM_does v1 M3) fun r9 M6 =>
      if r9 = 0 then (
        bd (sI M6 135 40 ((mI M3 135 40) + (1 : Int32))) fun M7 =>
        some ((), M7))
      else (
        bd (sI M6 135 40 ((mI M3 135 40) + (0 : Int32))) fun M8 =>
        some ((), M8))))
set_option maxHeartbeats 1000000 in
def f_RM_doAll_l2 (c_doAll : Int32 → Int32 → kx_M → Option (Unit × kx_M)) (p1 : Int32) (p2 : Int32) : Nat → Int32 → kx_M → Option (Unit × kx_M)
  | 0, _, _ => none
  | n + 1, x3, M =>
    if p2 ≤ x3 then (
      some ((), M))
    else (
      if (mI M 135 37) = 0 then (
        cal (f_RM_doOne c_doAll x3 M) fun _ M1 =>
        gd (inb (((498 : Int32) + ((9 : Int32) * x3)) + (8 : Int32)) 3840) <|
        bd (mA M1 140 (((498 : Int32) + ((9 : Int32) * x3)) + (8 : Int32)).toNatClampNeg) fun v4 =>
        f_RM_doAll_l2 c_doAll p1 p2 n v4 M1)
      else (
        some ((), M)))
set_option maxHeartbeats 1000000 in
def f_RM_doAll (c_doAll : Int32 → Int32 → kx_M → Option (Unit × kx_M)) (p1 : Int32) (p2 : Int32) (M : kx_M) : Option (Unit × kx_M) :=
  f_RM_doAll_l2 c_doAll p1 p2 FU p1 M
def g_RM_doAll : Nat → Int32 → Int32 → kx_M → Option (Unit × kx_M)
  | 0, _, _, _ => none
  | n + 1, a1, a2, M => f_RM_doAll (g_RM_doAll n) a1 a2 M
set_option maxHeartbeats 1000000 in
def f_RM_runsCenturies (p1 : Int32) (M : kx_M) : Option (Unit × kx_M) :=
  bd (sI M 135 38 p1) fun M1 =>
  bd (sI M1 135 39 (0 : Int32)) fun M2 =>
  bd (sI M2 135 40 (0 : Int32)) fun M3 =>
  bd (sI M3 135 41 (0 : Int32)) fun M4 =>
  bd (sI M4 135 42 (0 : Int32)) fun M5 =>
  bd (sI M5 135 43 (0 : Int32)) fun M6 =>
  bd (sI M6 135 44 (0 : Int32)) fun M7 =>
  bd (sI M7 135 37 (0 : Int32)) fun M8 =>
  gd (inb (497 : Int32) 3840) <|
  cal (g_RM_doAll 5 (0 : Int32) (mA M8 140 (497 : Int32).toNatClampNeg) M8) fun _ M9 =>
  some ((), M9)
set_option maxHeartbeats 1000000 in
def f_RM_live (p1 : Int32) (M : kx_M) : Option (Int32 × kx_M) :=
  bd (sI M 135 1 (0 : Int32)) fun M1 =>
  bd (sI M1 135 0 (0 : Int32)) fun M2 =>
  cal (f_RM_isIn (p1.toInt64) (0 : Int64) (9999 : Int64) M2) fun r1 M3 =>
  if r1 = 0 then (
    cal (f_RM_refuse (5 : Int32) M3) fun r3 M4 =>
    some (r3, M4))
  else (
    gd (inb (496 : Int32) 3840) <|
    if (mA M3 140 (496 : Int32).toNatClampNeg) = 0 then (
      cal (f_RM_refuse (8 : Int32) M3) fun r6 M5 =>
      some (r6, M5))
    else (
      cal (f_RM_runsCenturies p1 M3) fun _ M6 =>
      gd (inb (0 : Int32) 5) <|
      bd (sA M6 150 (upd (mA M6 150) (0 : Int32).toNatClampNeg (mI M6 135 40))) fun M7 =>
      gd (inb (1 : Int32) 5) <|
      bd (sA M7 150 (upd (mA M7 150) (1 : Int32).toNatClampNeg (mI M7 135 41))) fun M8 =>
      gd (inb (2 : Int32) 5) <|
      bd (sA M8 150 (upd (mA M8 150) (2 : Int32).toNatClampNeg (mI M8 135 42))) fun M9 =>
      gd (inb (3 : Int32) 5) <|
      bd (sA M9 150 (upd (mA M9 150) (3 : Int32).toNatClampNeg (mI M9 135 43))) fun M10 =>
      gd (inb (4 : Int32) 5) <|
      bd (sA M10 150 (upd (mA M10 150) (4 : Int32).toNatClampNeg (mI M10 135 44))) fun M11 =>
      bd (sI M11 135 36 (1 : Int32)) fun M12 =>
      some ((mI M12 135 39), M12)))
set_option maxHeartbeats 1000000 in
def f_RM_lived (p1 : Int32) (M : kx_M) : Option (Int32 × kx_M) :=
  bd (sI M 135 1 (0 : Int32)) fun M1 =>
  bd (sI M1 135 0 (0 : Int32)) fun M2 =>
  cal (f_RM_isIn (p1.toInt64) (0 : Int64) (4 : Int64) M2) fun r1 M3 =>
  if r1 = 0 then (
    cal (f_RM_refuse (5 : Int32) M3) fun r3 M4 =>
    some (r3, M4))
  else (
    if (mI M3 135 36) = 0 then (
      cal (f_RM_refuse (8 : Int32) M3) fun r5 M5 =>
      some (r5, M5))
    else (
      gd (inb p1 5) <|
      some ((mA M3 150 p1.toNatClampNeg), M3)))
set_option maxHeartbeats 1000000 in
def f_RM_mean_l119 (p1 : Int32) (p2 : Int32) (k93 : Int64 → Int32 → kx_M → Option (Int32 × kx_M)) : Nat → Int64 → Int32 → Int32 → kx_M → Option (Int32 × kx_M)
  | 0, _, _, _, _ => none
  | n + 1, x3, x5, x6, M =>
    if (496 : Int32) ≤ x6 then (
      bd (x5 + Int32.ofInt 1) fun v1 =>
      k93 x3 v1 M)
    else (
      gd (inb x6 496) <|
      gd (inb x6 3840) <|
      bd (sA M 140 (upd (mA M 140) x6.toNatClampNeg (mA M 142 x6.toNatClampNeg))) fun M1 =>
      bd (x6 + Int32.ofInt 1) fun v4 =>
      f_RM_mean_l119 p1 p2 k93 n x3 x5 v4 M1)
set_option maxHeartbeats 1000000 in
def f_RM_mean_l93 (p1 : Int32) (p2 : Int32) : Nat → Int64 → Int32 → kx_M → Option (Int32 × kx_M)
  | 0, _, _, _ => none
  | n + 1, x3, x5, M =>
    if p2 ≤ x5 then (
      cal (f_RM_fraction x3 (p2.toInt64) M) fun r1 M1 =>
      gd (b01 r1) <|
      some (r1, M1))
    else (
      cal (f_RM_runsCenturies (p1 + x5) M) fun _ M2 =>
      cal (f_RM_sumOf (0 : Int32) M2) fun r6 M3 =>
      bd (x3 + (r6.toInt64)) fun v8 =>
      f_RM_mean_l119 p1 p2 (f_RM_mean_l93 p1 p2 n) FU v8 x5 (0 : Int32) M3)
set_option maxHeartbeats 1000000 in
def f_RM_mean_l63 (p1 : Int32) (p2 : Int32) : Nat → Int32 → kx_M → Option (Int32 × kx_M)
  | 0, _, _ => none
  | n + 1, x3, M =>
    if (496 : Int32) ≤ x3 then (
      f_RM_mean_l93 p1 p2 FU (0 : Int64) (0 : Int32) M)
    else (
      gd (inb x3 3840) <|
      gd (inb x3 496) <|
      bd (sA M 142 (upd (mA M 142) x3.toNatClampNeg (mA M 140 x3.toNatClampNeg))) fun M1 =>
      bd (x3 + Int32.ofInt 1) fun v3 =>
      f_RM_mean_l63 p1 p2 n v3 M1)
set_option maxHeartbeats 1000000 in
def f_RM_mean (p1 : Int32) (p2 : Int32) (M : kx_M) : Option (Int32 × kx_M) :=
  bd (sI M 135 1 (0 : Int32)) fun M1 =>
  bd (sI M1 135 0 (0 : Int32)) fun M2 =>
  cal (f_RM_isIn (p2.toInt64) (1 : Int64) (20 : Int64) M2) fun r1 M3 =>
  if r1 = 0 then (
    cal (f_RM_no (5 : Int32) M3) fun r3 M4 =>
    gd (b01 r3) <|
    some (r3, M4))
  else (
    cal (f_RM_isIn (p1.toInt64) (0 : Int64) (((10000 : Int32) - p2).toInt64) M3) fun r6 M5 =>
    if r6 = 0 then (
      cal (f_RM_no (5 : Int32) M5) fun r8 M6 =>
      gd (b01 r8) <|
      some (r8, M6))
    else (
      gd (inb (496 : Int32) 3840) <|
      if (mA M5 140 (496 : Int32).toNatClampNeg) = 0 then (
        cal (f_RM_no (8 : Int32) M5) fun r12 M7 =>
        gd (b01 r12) <|
        some (r12, M7))
      else (
        f_RM_mean_l63 p1 p2 FU (0 : Int32) M5)))
set_option maxHeartbeats 1000000 in
def f_RM_mark (M : kx_M) : Option (Int32 × kx_M) :=
  bd (sI M 135 1 (0 : Int32)) fun M1 =>
  bd (sI M1 135 0 (0 : Int32)) fun M2 =>
  if (mI M2 135 24) = (3 : Int32) then (
    cal (f_RM_refuse (7 : Int32) M2) fun r1 M3 =>
    some (r1, M3))
  else (
    bd (sI M2 135 24 ((mI M2 135 24) + (1 : Int32))) fun M4 =>
    cal (f_RM_copy (0 : Int32) (mI M4 135 24) M4) fun _ M5 =>
    some ((mI M5 135 24), M5))
set_option maxHeartbeats 1000000 in
def f_RM_back (M : kx_M) : Option (Int32 × kx_M) :=
  bd (sI M 135 1 (0 : Int32)) fun M1 =>
  bd (sI M1 135 0 (0 : Int32)) fun M2 =>
  if (mI M2 135 24) = 0 then (
    cal (f_RM_refuse (8 : Int32) M2) fun r1 M3 =>
    some (r1, M3))
  else (
    cal (f_RM_copy (mI M2 135 24) (0 : Int32) M2) fun _ M4 =>
    bd (sI M4 135 24 ((mI M4 135 24) - (1 : Int32))) fun M5 =>
    some ((mI M5 135 24), M5))
