set_option maxHeartbeats 1000000 in
def f_KT_status (M : kx_M) : Option (Int32 × kx_M) :=
  some ((mI M 0 13), M)
set_option maxHeartbeats 1000000 in
def f_KT_top (M : kx_M) : Option (Int64 × kx_M) :=
  some ((mJ M 0 17), M)
set_option maxHeartbeats 1000000 in
def f_KT_bottom (M : kx_M) : Option (Int64 × kx_M) :=
  some ((mJ M 0 18), M)
set_option maxHeartbeats 1000000 in
def f_KT_noTray (p0 : Int32) (M : kx_M) : Option (Int32 × kx_M) :=
  if p0 < 0 then (
    some ((1 : Int32), M))
  else (
    if p0 < (4 : Int32) then (
      some ((0 : Int32), M))
    else (
      some ((1 : Int32), M)))
set_option maxHeartbeats 1000000 in
def f_KT_refused (p1 : Int32) (M : kx_M) : Option (Int32 × kx_M) :=
  bd (sI M 0 13 p1) fun M1 =>
  if p1 = 0 then (
    some ((0 : Int32), M1))
  else (
    some ((1 : Int32), M1))
set_option maxHeartbeats 1000000 in
def f_Arr_fill_l6 (p0 : Nat) (p1 : Int64) : Nat → Int32 → Int32 → kx_M → Option (Unit × kx_M)
  | 0, _, _, _ => none
  | n + 1, x3, x4, M =>
    if x4 ≤ x3 then (
      some ((), M))
    else (
      gd (aIb 2 p0 x3) <|
      bd (sB M p0 (vp_updL (mB M p0) x3.toNatClampNeg p1)) fun M1 =>
      bd (x3 + Int32.ofInt 1) fun v2 =>
      f_Arr_fill_l6 p0 p1 n v2 x4 M1)
set_option maxHeartbeats 1000000 in
def f_Arr_fill (p0 : Nat) (p1 : Int64) (M : kx_M) : Option (Unit × kx_M) :=
  gd (aLk 2 p0) <|
  bd (Int32.ofNat (aLn p0)) fun v2 =>
  f_Arr_fill_l6 p0 p1 FU (0 : Int32) v2 M
set_option maxHeartbeats 1000000 in
def f_Tray_lay (p0 : Nat) (p1 : Int32) (p2 : Int32) (M : kx_M) : Option (Unit × kx_M) :=
  bd (sI M p0 1 (0 : Int32)) fun M1 =>
  bd (sI M1 p0 2 p1) fun M2 =>
  bd (sI M2 p0 3 p2) fun M3 =>
  cal (f_Arr_fill (p0 + 1) (0 : Int64) M3) fun _ M4 =>
  some ((), M4)
set_option maxHeartbeats 1000000 in
def f_KT_tray_l45 (p1 : Int32) (p2 : Int32) (p3 : Int32) (x4 : Int32) (M : kx_M) : Option (Int32 × kx_M) :=
  cal (f_KT_refused x4 M) fun r1 M1 =>
  if r1 = 0 then (
    gd (inb p1 4) <|
    cal (f_Tray_lay (2 * p1.toNatClampNeg + 67) p2 p3 M1) fun _ M2 =>
    some ((1 : Int32), M2))
  else (
    some ((0 : Int32), M1))
set_option maxHeartbeats 1000000 in
def f_KT_tray (p1 : Int32) (p2 : Int32) (p3 : Int32) (M : kx_M) : Option (Int32 × kx_M) :=
  cal (f_KT_noTray p1 M) fun r1 M1 =>
  if r1 = 0 then (
    if p2 < 0 then (
      f_KT_tray_l45 p1 p2 p3 (1 : Int32) M1)
    else (
      if p2 ≤ (3 : Int32) then (
        if p3 ≤ (60 : Int32) then (
          if 0 ≤ p3 then (
            f_KT_tray_l45 p1 p2 p3 (0 : Int32) M1)
          else (
            f_KT_tray_l45 p1 p2 p3 (6 : Int32) M1))
        else (
          f_KT_tray_l45 p1 p2 p3 (5 : Int32) M1))
      else (
        f_KT_tray_l45 p1 p2 p3 (1 : Int32) M1)))
  else (
    f_KT_tray_l45 p1 p2 p3 (1 : Int32) M1)
set_option maxHeartbeats 1000000 in
def f_Tray_lacks (p0 : Nat) (p1 : Int32) (p2 : Int32) (M : kx_M) : Option (Int32 × kx_M) :=
  if p1 < 0 then (
    some ((1 : Int32), M))
  else (
    if (mI M p0 3) < p1 then (
      some ((1 : Int32), M))
    else (
      if p2 ≤ ((mI M p0 3) - p1) then (
        some ((0 : Int32), M))
      else (
        some ((1 : Int32), M))))
set_option maxHeartbeats 1000000 in
def f_KT_placeStatus (p1 : Int32) (p2 : Int32) (M : kx_M) : Option (Int32 × kx_M) :=
  cal (f_KT_noTray p1 M) fun r1 M1 =>
  if r1 = 0 then (
    gd (inb p1 4) <|
    if (mI M1 (2 * p1.toNatClampNeg + 67) 1) = 0 then (
      gd (inb p1 4) <|
      cal (f_Tray_lacks (2 * p1.toNatClampNeg + 67) p2 (1 : Int32) M1) fun r5 M2 =>
      if r5 = 0 then (
        some ((0 : Int32), M2))
      else (
        some ((4 : Int32), M2)))
    else (
      some ((3 : Int32), M1)))
  else (
    some ((1 : Int32), M1))
set_option maxHeartbeats 1000000 in
def f_Tray_put (p0 : Nat) (p1 : Int32) (p2 : Int64) (M : kx_M) : Option (Unit × kx_M) :=
  if (mI M p0 2) = (0 : Int32) then (
    gd (inb p1 60) <|
    bd (sB M (p0 + 1) (vp_updL (mB M (p0 + 1)) p1.toNatClampNeg (((p2.toInt32).toInt8.toInt32).toInt64))) fun M1 =>
    some ((), M1))
  else (
  if (mI M p0 2) = (1 : Int32) then (
    gd (inb p1 60) <|
    bd (sB M (p0 + 1) (vp_updL (mB M (p0 + 1)) p1.toNatClampNeg (((p2.toInt32).toInt16.toInt32).toInt64))) fun M2 =>
    some ((), M2))
  else (
  if (mI M p0 2) = (2 : Int32) then (
    gd (inb p1 60) <|
    bd (sB M (p0 + 1) (vp_updL (mB M (p0 + 1)) p1.toNatClampNeg ((p2.toInt32).toInt64))) fun M3 =>
    some ((), M3))
  else (
    gd (inb p1 60) <|
    bd (sB M (p0 + 1) (vp_updL (mB M (p0 + 1)) p1.toNatClampNeg p2)) fun M4 =>
    some ((), M4))))
set_option maxHeartbeats 1000000 in
def f_KT_write (p1 : Int32) (p2 : Int32) (p3 : Int64) (M : kx_M) : Option (Int32 × kx_M) :=
  cal (f_KT_placeStatus p1 p2 M) fun r1 M1 =>
  cal (f_KT_refused r1 M1) fun r3 M2 =>
  if r3 = 0 then (
    gd (inb p1 4) <|
    cal (f_Tray_put (2 * p1.toNatClampNeg + 67) p2 p3 M2) fun _ M3 =>
    some ((1 : Int32), M3))
  else (
    some ((0 : Int32), M2))
set_option maxHeartbeats 1000000 in
def f_KT_read (p1 : Int32) (p2 : Int32) (M : kx_M) : Option (Int64 × kx_M) :=
  cal (f_KT_placeStatus p1 p2 M) fun r1 M1 =>
  cal (f_KT_refused r1 M1) fun r3 M2 =>
  if r3 = 0 then (
    gd (inb p1 4) <|
    gd (inb p2 60) <|
    some ((mB M2 (2 * p1.toNatClampNeg + 68) p2.toNatClampNeg), M2))
  else (
    some (((-1) : Int64), M2))
set_option maxHeartbeats 1000000 in
def f_KT_pour_l127 (p1 : Int32) (p2 : Int32) (p3 : Int32) (p4 : Int32) (p5 : Int32) (x6 : Int32) (M : kx_M) : Option (Int32 × kx_M) :=
  cal (f_KT_refused x6 M) fun r1 M1 =>
  if r1 = 0 then (
    gd (inb p1 4) <|
    gd (inb p3 4) <|
    gd (cpb p2 p4 p5 60 60) <|
    bd (sB M1 (2 * p3.toNatClampNeg + 68) (va_cpy (mB M1 (2 * p1.toNatClampNeg + 68)) (mB M1 (2 * p3.toNatClampNeg + 68)) p2.toNatClampNeg p4.toNatClampNeg p5.toNatClampNeg)) fun M2 =>
    some ((1 : Int32), M2))
  else (
    some ((0 : Int32), M1))
set_option maxHeartbeats 1000000 in
def f_KT_pour (p1 : Int32) (p2 : Int32) (p3 : Int32) (p4 : Int32) (p5 : Int32) (M : kx_M) : Option (Int32 × kx_M) :=
  cal (f_KT_noTray p1 M) fun r1 M1 =>
  if r1 = 0 then (
    cal (f_KT_noTray p3 M1) fun r3 M2 =>
    if r3 = 0 then (
      gd (inb p1 4) <|
      if (mI M2 (2 * p1.toNatClampNeg + 67) 1) = 0 then (
        gd (inb p3 4) <|
        if (mI M2 (2 * p3.toNatClampNeg + 67) 1) = 0 then (
          gd (inb p1 4) <|
          gd (inb p3 4) <|
          if (mI M2 (2 * p1.toNatClampNeg + 67) 2) = (mI M2 (2 * p3.toNatClampNeg + 67) 2) then (
            if 0 ≤ p5 then (
              gd (inb p1 4) <|
              cal (f_Tray_lacks (2 * p1.toNatClampNeg + 67) p2 p5 M2) fun r10 M3 =>
              if r10 = 0 then (
                gd (inb p3 4) <|
                cal (f_Tray_lacks (2 * p3.toNatClampNeg + 67) p4 p5 M3) fun r13 M4 =>
                if r13 = 0 then (
                  f_KT_pour_l127 p1 p2 p3 p4 p5 (0 : Int32) M4)
                else (
                  f_KT_pour_l127 p1 p2 p3 p4 p5 (4 : Int32) M4))
              else (
                f_KT_pour_l127 p1 p2 p3 p4 p5 (4 : Int32) M3))
            else (
              f_KT_pour_l127 p1 p2 p3 p4 p5 (6 : Int32) M2))
          else (
            f_KT_pour_l127 p1 p2 p3 p4 p5 (11 : Int32) M2))
        else (
          f_KT_pour_l127 p1 p2 p3 p4 p5 (3 : Int32) M2))
      else (
        f_KT_pour_l127 p1 p2 p3 p4 p5 (3 : Int32) M2))
    else (
      f_KT_pour_l127 p1 p2 p3 p4 p5 (1 : Int32) M2))
  else (
    f_KT_pour_l127 p1 p2 p3 p4 p5 (1 : Int32) M1)
set_option maxHeartbeats 1000000 in
def f_KT_feedInt_l3 (p1 : Int32) : Nat → Int32 → kx_M → Option (Unit × kx_M)
  | 0, _, _ => none
  | n + 1, x2, M =>
    if x2 < 0 then (
      some ((), M))
    else (
      if (900 : Int32) ≤ (mI M 0 11) then (
        bd (x2 + Int32.ofInt (-8)) fun v1 =>
        f_KT_feedInt_l3 p1 n v1 M)
      else (
        gd (inb (mI M 0 11) 900) <|
        bd (sA M 2 (upd (mA M 2) (mI M 0 11).toNatClampNeg (((p1.toUInt32 >>> (x2.toUInt32 &&& Int32.toUInt32 31)).toInt32) &&& (255 : Int32)))) fun M1 =>
        bd (sI M1 0 11 ((mI M1 0 11) + (1 : Int32))) fun M2 =>
        bd (x2 + Int32.ofInt (-8)) fun v3 =>
        f_KT_feedInt_l3 p1 n v3 M2))
set_option maxHeartbeats 1000000 in
def f_KT_feedInt (p1 : Int32) (M : kx_M) : Option (Unit × kx_M) :=
  f_KT_feedInt_l3 p1 FU (24 : Int32) M
set_option maxHeartbeats 1000000 in
def f_KT_feed (p1 : Int32) (p2 : Int32) (p3 : Int32) (p4 : Int32) (p5 : Int32) (M : kx_M) : Option (Int32 × kx_M) :=
  if ((mI M 0 11) + (20 : Int32)) ≤ (900 : Int32) then (
    cal (f_KT_feedInt p1 M) fun _ M1 =>
    cal (f_KT_feedInt p2 M1) fun _ M2 =>
    cal (f_KT_feedInt p3 M2) fun _ M3 =>
    cal (f_KT_feedInt p4 M3) fun _ M4 =>
    cal (f_KT_feedInt p5 M4) fun _ M5 =>
    some ((mI M5 0 11), M5))
  else (
    some (((-1) : Int32), M))
set_option maxHeartbeats 1000000 in
def f_Arr_fill_2_l5 (p0 : Nat) (p1 : Int32) : Nat → Int32 → Int32 → kx_M → Option (Unit × kx_M)
  | 0, _, _, _ => none
  | n + 1, x2, x3, M =>
    if x3 ≤ x2 then (
      some ((), M))
    else (
      gd (aIb 1 p0 x2) <|
      bd (sA M p0 (upd (mA M p0) x2.toNatClampNeg p1)) fun M1 =>
      bd (x2 + Int32.ofInt 1) fun v2 =>
      f_Arr_fill_2_l5 p0 p1 n v2 x3 M1)
set_option maxHeartbeats 1000000 in
def f_Arr_fill_2 (p0 : Nat) (p1 : Int32) (M : kx_M) : Option (Unit × kx_M) :=
  gd (aLk 1 p0) <|
  bd (Int32.ofNat (aLn p0)) fun v2 =>
  f_Arr_fill_2_l5 p0 p1 FU (0 : Int32) v2 M
set_option maxHeartbeats 1000000 in
def f_Deal_clear (p0 : Nat) (M : kx_M) : Option (Unit × kx_M) :=
  bd (sI M p0 7 (0 : Int32)) fun M1 =>
  bd (sI M1 p0 8 (0 : Int32)) fun M2 =>
  cal (f_Arr_fill_2 (p0 + 6) (0 : Int32) M2) fun _ M3 =>
  cal (f_Arr_fill_2 (p0 + 7) (0 : Int32) M3) fun _ M4 =>
  some ((), M4)
set_option maxHeartbeats 1000000 in
def f_Cloth_clear (p0 : Nat) (M : kx_M) : Option (Unit × kx_M) :=
  bd (sI M p0 5 (6 : Int32)) fun M1 =>
  bd (sI M1 p0 6 (20 : Int32)) fun M2 =>
  bd (sI M2 p0 7 (0 : Int32)) fun M3 =>
  bd (sI M3 p0 8 (0 : Int32)) fun M4 =>
  some ((), M4)
set_option maxHeartbeats 1000000 in
def f_Script_clear (p0 : Nat) (M : kx_M) : Option (Unit × kx_M) :=
  bd (sI M p0 4 (0 : Int32)) fun M1 =>
  bd (sI M1 p0 5 (0 : Int32)) fun M2 =>
  bd (sI M2 p0 6 (0 : Int32)) fun M3 =>
  some ((), M3)
set_option maxHeartbeats 1000000 in
def f_State_clear (p0 : Nat) (M : kx_M) : Option (Unit × kx_M) :=
  cal (f_Deal_clear (p0 + 1) M) fun _ M1 =>
  cal (f_Cloth_clear (p0 + 9) M1) fun _ M2 =>
  cal (f_Script_clear (p0 + 15) M2) fun _ M3 =>
  some ((), M3)
set_option maxHeartbeats 1000000 in
def f_Reader_readWord_l10 (p0 : Nat) : Nat → Int32 → kx_M → Option (Unit × kx_M)
  | 0, _, _ => none
  | n + 1, x1, M =>
    if (mI M p0 2) ≤ x1 then (
      bd (sI M p0 5 (2 : Int32)) fun M1 =>
      bd (sI M1 p0 3 x1) fun M2 =>
      some ((), M2))
    else (
      gd (aIb 1 (mR M p0 1) x1) <|
      if (mA M (mR M p0 1) x1.toNatClampNeg) < (97 : Int32) then (
        bd (sI M p0 5 (2 : Int32)) fun M3 =>
        bd (sI M3 p0 3 x1) fun M4 =>
        some ((), M4))
      else (
        gd (aIb 1 (mR M p0 1) x1) <|
        if (122 : Int32) < (mA M (mR M p0 1) x1.toNatClampNeg) then (
          bd (sI M p0 5 (2 : Int32)) fun M5 =>
          bd (sI M5 p0 3 x1) fun M6 =>
          some ((), M6))
        else (
          gd (aIb 1 (mR M p0 1) x1) <|
          bd (sJ M p0 7 (((mJ M p0 7) <<< ((5 : Int32).toInt64 &&& 63)) ||| ((((mA M (mR M p0 1) x1.toNatClampNeg) - (97 : Int32)) + (1 : Int32)).toInt64))) fun M7 =>
          bd (x1 + Int32.ofInt 1) fun v4 =>
          f_Reader_readWord_l10 p0 n v4 M7)))
set_option maxHeartbeats 1000000 in
def f_Reader_readWord (p0 : Nat) (M : kx_M) : Option (Unit × kx_M) :=
  bd (mI M p0 4) fun v1 =>
  bd (sJ M p0 7 (0 : Int64)) fun M1 =>
  f_Reader_readWord_l10 p0 FU v1 M1
set_option maxHeartbeats 1000000 in
def f_Reader_keyOf_l2 (p0 : Nat) (p1 : Int64) : Nat → Int32 → kx_M → Option (Int32 × kx_M)
  | 0, _, _ => none
  | n + 1, x3, M =>
    if (26 : Int32) ≤ x3 then (
      some ((26 : Int32), M))
    else (
      gd (inb x3 26) <|
      if (lg_cmp (mB M (p0 + 1) x3.toNatClampNeg) p1) = 0 then (
        some (x3, M))
      else (
        bd (x3 + Int32.ofInt 1) fun v2 =>
        f_Reader_keyOf_l2 p0 p1 n v2 M))
set_option maxHeartbeats 1000000 in
def f_Reader_keyOf (p0 : Nat) (p1 : Int64) (M : kx_M) : Option (Int32 × kx_M) :=
  f_Reader_keyOf_l2 p0 p1 FU (0 : Int32) M
set_option maxHeartbeats 1000000 in
def f_Reader_readNumber_l67 (p0 : Nat) (x1 : Int32) (M : kx_M) : Option (Unit × kx_M) :=
  if (x1 - (mI M p0 4)) ≤ (4 : Int32) then (
    bd (sI M p0 5 (3 : Int32)) fun M1 =>
    bd (sI M1 p0 3 x1) fun M2 =>
    some ((), M2))
  else (
    bd (sI M p0 5 (1 : Int32)) fun M3 =>
    bd (sI M3 p0 3 x1) fun M4 =>
    some ((), M4))
set_option maxHeartbeats 1000000 in
def f_Reader_readNumber_l10 (p0 : Nat) : Nat → Int32 → kx_M → Option (Unit × kx_M)
  | 0, _, _ => none
  | n + 1, x1, M =>
    if (mI M p0 2) ≤ x1 then (
      f_Reader_readNumber_l67 p0 x1 M)
    else (
      gd (aIb 1 (mR M p0 1) x1) <|
      if (mA M (mR M p0 1) x1.toNatClampNeg) < (48 : Int32) then (
        f_Reader_readNumber_l67 p0 x1 M)
      else (
        gd (aIb 1 (mR M p0 1) x1) <|
        if (57 : Int32) < (mA M (mR M p0 1) x1.toNatClampNeg) then (
          f_Reader_readNumber_l67 p0 x1 M)
        else (
          gd (aIb 1 (mR M p0 1) x1) <|
          bd (sI M p0 8 (((mI M p0 8) * (10 : Int32)) + ((mA M (mR M p0 1) x1.toNatClampNeg) - (48 : Int32)))) fun M1 =>
          bd (x1 + Int32.ofInt 1) fun v4 =>
          f_Reader_readNumber_l10 p0 n v4 M1)))
set_option maxHeartbeats 1000000 in
def f_Reader_readNumber (p0 : Nat) (M : kx_M) : Option (Unit × kx_M) :=
  bd (mI M p0 4) fun v1 =>
  bd (sI M p0 8 (0 : Int32)) fun M1 =>
  f_Reader_readNumber_l10 p0 FU v1 M1
set_option maxHeartbeats 1000000 in
def f_Reader_next_l161 (p0 : Nat) (x1 : Int32) (M : kx_M) : Option (Unit × kx_M) :=
  gd (aIb 1 (mR M p0 1) x1) <|
  bd (sI M p0 9 (mA M (mR M p0 1) x1.toNatClampNeg)) fun M1 =>
  if (mI M1 p0 9) = (59 : Int32) then (
    bd (sI M1 p0 5 (4 : Int32)) fun M2 =>
    bd (sI M2 p0 3 (x1 + (1 : Int32))) fun M3 =>
    some ((), M3))
  else (
    if (mI M1 p0 9) = (60 : Int32) then (
      bd (sI M1 p0 5 (4 : Int32)) fun M4 =>
      bd (sI M4 p0 3 (x1 + (1 : Int32))) fun M5 =>
      some ((), M5))
    else (
      if (mI M1 p0 9) = (61 : Int32) then (
        bd (sI M1 p0 5 (4 : Int32)) fun M6 =>
        bd (sI M6 p0 3 (x1 + (1 : Int32))) fun M7 =>
        some ((), M7))
      else (
        if (mI M1 p0 9) = (62 : Int32) then (
          bd (sI M1 p0 5 (4 : Int32)) fun M8 =>
          bd (sI M8 p0 3 (x1 + (1 : Int32))) fun M9 =>
          some ((), M9))
        else (
          bd (sI M1 p0 5 (1 : Int32)) fun M10 =>
          bd (sI M10 p0 3 (x1 + (1 : Int32))) fun M11 =>
          some ((), M11)))))
set_option maxHeartbeats 1000000 in
def f_Reader_next_l132 (p0 : Nat) (x1 : Int32) (M : kx_M) : Option (Unit × kx_M) :=
  gd (aIb 1 (mR M p0 1) x1) <|
  if (mA M (mR M p0 1) x1.toNatClampNeg) < (48 : Int32) then (
    f_Reader_next_l161 p0 x1 M)
  else (
    gd (aIb 1 (mR M p0 1) x1) <|
    if (57 : Int32) < (mA M (mR M p0 1) x1.toNatClampNeg) then (
      f_Reader_next_l161 p0 x1 M)
    else (
      cal (f_Reader_readNumber p0 M) fun _ M1 =>
      some ((), M1)))
set_option maxHeartbeats 1000000 in
def f_Reader_next_l41 (p0 : Nat) (x1 : Int32) (M : kx_M) : Option (Unit × kx_M) :=
  bd (sI M p0 4 x1) fun M1 =>
  bd (sI M1 p0 6 ((-1) : Int32)) fun M2 =>
  if x1 < (mI M2 p0 2) then (
    gd (aIb 1 (mR M2 p0 1) x1) <|
    if (mA M2 (mR M2 p0 1) x1.toNatClampNeg) < (97 : Int32) then (
      f_Reader_next_l132 p0 x1 M2)
    else (
      gd (aIb 1 (mR M2 p0 1) x1) <|
      if (122 : Int32) < (mA M2 (mR M2 p0 1) x1.toNatClampNeg) then (
        f_Reader_next_l132 p0 x1 M2)
      else (
        cal (f_Reader_readWord p0 M2) fun _ M3 =>
        if ((mI M3 p0 3) - x1) ≤ (8 : Int32) then (
          cal (f_Reader_keyOf p0 (mJ M3 p0 7) M3) fun r5 M4 =>
          bd (sI M4 p0 6 r5) fun M5 =>
          some ((), M5))
        else (
          bd (sI M3 p0 6 (27 : Int32)) fun M6 =>
          some ((), M6)))))
  else (
    bd (sI M2 p0 5 (0 : Int32)) fun M7 =>
    bd (sI M7 p0 3 (mI M7 p0 2)) fun M8 =>
    some ((), M8))
set_option maxHeartbeats 1000000 in
def f_Reader_next_l5 (p0 : Nat) : Nat → Int32 → kx_M → Option (Unit × kx_M)
  | 0, _, _ => none
  | n + 1, x1, M =>
    if (mI M p0 2) ≤ x1 then (
      f_Reader_next_l41 p0 x1 M)
    else (
      gd (aIb 1 (mR M p0 1) x1) <|
      if (mA M (mR M p0 1) x1.toNatClampNeg) = (32 : Int32) then (
        bd (x1 + Int32.ofInt 1) fun v2 =>
        f_Reader_next_l5 p0 n v2 M)
      else (
        gd (aIb 1 (mR M p0 1) x1) <|
        if (mA M (mR M p0 1) x1.toNatClampNeg) = (10 : Int32) then (
          bd (x1 + Int32.ofInt 1) fun v4 =>
          f_Reader_next_l5 p0 n v4 M)
        else (
          f_Reader_next_l41 p0 x1 M)))
set_option maxHeartbeats 1000000 in
def f_Reader_next (p0 : Nat) (M : kx_M) : Option (Unit × kx_M) :=
  bd (mI M p0 3) fun v1 =>
  f_Reader_next_l5 p0 FU v1 M
set_option maxHeartbeats 1000000 in
def f_Reader_open (p0 : Nat) (p1 : Nat) (p2 : Int32) (M : kx_M) : Option (Unit × kx_M) :=
  bd (sR M p0 1 p1) fun M1 =>
  gd (aLk 1 p1) <|
  bd (sI M1 p0 2 (if (Int32.ofNat (aLn p1)) < p2 then (Int32.ofNat (aLn p1)) else p2)) fun M2 =>
  bd (sI M2 p0 3 (0 : Int32)) fun M3 =>
  bd (sI M3 p0 10 (0 : Int32)) fun M4 =>
  bd (sI M4 p0 11 ((-1) : Int32)) fun M5 =>
  cal (f_Reader_next p0 M5) fun _ M6 =>
  some ((), M6)
set_option maxHeartbeats 1000000 in
def f_Reader_fail (p0 : Nat) (p1 : Int32) (M : kx_M) : Option (Int32 × kx_M) :=
  if (mI M p0 5) = (1 : Int32) then (
    bd (sI M p0 10 (1 : Int32)) fun M1 =>
    bd (sI M1 p0 11 (mI M1 p0 4)) fun M2 =>
    some ((0 : Int32), M2))
  else (
    bd (sI M p0 10 p1) fun M3 =>
    bd (sI M3 p0 11 (mI M3 p0 4)) fun M4 =>
    some ((0 : Int32), M4))
set_option maxHeartbeats 1000000 in
def f_Reader_atNumber (p0 : Nat) (p1 : Int32) (p2 : Int32) (M : kx_M) : Option (Int32 × kx_M) :=
  if (mI M p0 5) = (3 : Int32) then (
    if (mI M p0 8) < p1 then (
      cal (f_Reader_fail p0 (4 : Int32) M) fun r1 M1 =>
      gd (b01 r1) <|
      some (r1, M1))
    else (
      if p2 < (mI M p0 8) then (
        cal (f_Reader_fail p0 (4 : Int32) M) fun r4 M2 =>
        gd (b01 r4) <|
        some (r4, M2))
      else (
        some ((1 : Int32), M))))
  else (
    cal (f_Reader_fail p0 (2 : Int32) M) fun r7 M3 =>
    gd (b01 r7) <|
    some (r7, M3))
set_option maxHeartbeats 1000000 in
def f_TreatyText_readMeasure_l92 (p1 : Nat) (p2 : Int32) (x3 : Int32) (s0 : Nat) (s1 : Int32) (s2 : Int32) (M : kx_M) : Option (Int32 × kx_M) :=
  cal (f_Reader_atNumber s0 s1 s2 M) fun r1 M1 =>
  if r1 = 0 then (
    some ((0 : Int32), M1))
  else (
    if x3 = 0 then (
      bd (sI M1 (p1 + 9) 6 (mI M1 5 8)) fun M2 =>
      bd (sI M2 4 2 (1 : Int32)) fun M3 =>
      cal (f_Reader_next 5 M3) fun _ M4 =>
      some ((1 : Int32), M4))
    else (
      bd (sI M1 (p1 + 9) 5 (mI M1 5 8)) fun M5 =>
      bd (sI M5 4 1 (1 : Int32)) fun M6 =>
      cal (f_Reader_next 5 M6) fun _ M7 =>
      some ((1 : Int32), M7)))
set_option maxHeartbeats 1000000 in
def f_TreatyText_readMeasure_l69 (p1 : Nat) (p2 : Int32) (x3 : Int32) (M : kx_M) : Option (Int32 × kx_M) :=
  cal (f_Reader_next 5 M) fun _ M1 =>
  if x3 = 0 then (
    f_TreatyText_readMeasure_l92 p1 p2 x3 5 (1 : Int32) (50 : Int32) M1)
  else (
    f_TreatyText_readMeasure_l92 p1 p2 x3 5 (1 : Int32) (8 : Int32) M1)
set_option maxHeartbeats 1000000 in
def f_TreatyText_readMeasure_l38 (p1 : Nat) (p2 : Int32) (s0 : Int32) (M : kx_M) : Option (Int32 × kx_M) :=
  if s0 = 0 then (
    if (mI M 4 2) = 0 then (
      f_TreatyText_readMeasure_l69 p1 p2 s0 M)
    else (
      cal (f_Reader_fail 5 (5 : Int32) M) fun r1 M1 =>
      gd (b01 r1) <|
      some (r1, M1)))
  else (
    if (mI M 4 1) = 0 then (
      f_TreatyText_readMeasure_l69 p1 p2 s0 M)
    else (
      cal (f_Reader_fail 5 (5 : Int32) M) fun r4 M2 =>
      gd (b01 r4) <|
      some (r4, M2)))
set_option maxHeartbeats 1000000 in
def f_TreatyText_readMeasure (p1 : Nat) (p2 : Int32) (M : kx_M) : Option (Int32 × kx_M) :=
  if 0 < (mI M (p1 + 9) 7) then (
    cal (f_Reader_fail 5 (2 : Int32) M) fun r1 M1 =>
    gd (b01 r1) <|
    some (r1, M1))
  else (
    if (mI M (p1 + 1) 8) ≤ 0 then (
      if p2 = 0 then (
        f_TreatyText_readMeasure_l38 p1 p2 (1 : Int32) M)
      else (
        f_TreatyText_readMeasure_l38 p1 p2 (0 : Int32) M))
    else (
      cal (f_Reader_fail 5 (2 : Int32) M) fun r4 M2 =>
      gd (b01 r4) <|
      some (r4, M2)))
set_option maxHeartbeats 1000000 in
def f_Reader_takeSign (p0 : Nat) (p1 : Int32) (M : kx_M) : Option (Int32 × kx_M) :=
  if (mI M p0 5) = (4 : Int32) then (
    if (mI M p0 9) = p1 then (
      cal (f_Reader_next p0 M) fun _ M1 =>
      some ((1 : Int32), M1))
    else (
      cal (f_Reader_fail p0 (2 : Int32) M) fun r3 M2 =>
      gd (b01 r3) <|
      some (r3, M2)))
  else (
    cal (f_Reader_fail p0 (2 : Int32) M) fun r6 M3 =>
    gd (b01 r6) <|
    some (r6, M3))
set_option maxHeartbeats 1000000 in
def f_Deal_indexIn_l3 (p0 : Nat) (p1 : Int32) (p2 : Int64) : Nat → Int32 → kx_M → Option (Int32 × kx_M)
  | 0, _, _ => none
  | n + 1, x4, M =>
    if p1 ≤ x4 then (
      some (((-1) : Int32), M))
    else (
      gd (aIb 2 p0 x4) <|
      if (lg_cmp (mB M p0 x4.toNatClampNeg) p2) = 0 then (
        some (x4, M))
      else (
        bd (x4 + Int32.ofInt 1) fun v2 =>
        f_Deal_indexIn_l3 p0 p1 p2 n v2 M))
set_option maxHeartbeats 1000000 in
def f_Deal_indexIn (p0 : Nat) (p1 : Int32) (p2 : Int64) (M : kx_M) : Option (Int32 × kx_M) :=
  f_Deal_indexIn_l3 p0 p1 p2 FU (0 : Int32) M
set_option maxHeartbeats 1000000 in
def f_Deal_queenNamed (p0 : Nat) (p1 : Int64) (M : kx_M) : Option (Int32 × kx_M) :=
  cal (f_Deal_indexIn (p0 + 2) (mI M p0 7) p1 M) fun r1 M1 =>
  some (r1, M1)
set_option maxHeartbeats 1000000 in
def f_Deal_clauseNamed (p0 : Nat) (p1 : Int64) (M : kx_M) : Option (Int32 × kx_M) :=
  cal (f_Deal_indexIn (p0 + 3) (mI M p0 8) p1 M) fun r1 M1 =>
  some (r1, M1)
set_option maxHeartbeats 1000000 in
def f_TreatyText_newName_l56 (p1 : Nat) (s0 : Int32) (M : kx_M) : Option (Int32 × kx_M) :=
  if s0 = 0 then (
    some ((1 : Int32), M))
  else (
    cal (f_Reader_fail 5 (3 : Int32) M) fun r1 M1 =>
    gd (b01 r1) <|
    some (r1, M1))
set_option maxHeartbeats 1000000 in
def f_TreatyText_newName (p1 : Nat) (M : kx_M) : Option (Int32 × kx_M) :=
  if (mI M 5 6) = (26 : Int32) then (
    cal (f_Deal_queenNamed p1 (mJ M 5 7) M) fun r1 M1 =>
    if r1 = ((-1) : Int32) then (
      cal (f_Deal_clauseNamed p1 (mJ M1 5 7) M1) fun r3 M2 =>
      if r3 = ((-1) : Int32) then (
        f_TreatyText_newName_l56 p1 (0 : Int32) M2)
      else (
        f_TreatyText_newName_l56 p1 (1 : Int32) M2))
    else (
      f_TreatyText_newName_l56 p1 (1 : Int32) M1))
  else (
    cal (f_Reader_fail 5 (2 : Int32) M) fun r5 M3 =>
    gd (b01 r5) <|
    some (r5, M3))
set_option maxHeartbeats 1000000 in
def f_TreatyText_readQueen (p1 : Nat) (M : kx_M) : Option (Int32 × kx_M) :=
  bd (mI M p1 7) fun v1 =>
  if v1 < (4 : Int32) then (
    cal (f_Reader_next 5 M) fun _ M1 =>
    cal (f_TreatyText_newName p1 M1) fun r4 M2 =>
    if r4 = 0 then (
      some ((0 : Int32), M2))
    else (
      gd (inb v1 4) <|
      bd (sB M2 (p1 + 2) (vp_updL (mB M2 (p1 + 2)) v1.toNatClampNeg (mJ M2 5 7))) fun M3 =>
      gd (inb v1 4) <|
      bd (sA M3 (p1 + 1) (upd (mA M3 (p1 + 1)) v1.toNatClampNeg (100 : Int32))) fun M4 =>
      bd (sI M4 p1 7 ((mI M4 p1 7) + (1 : Int32))) fun M5 =>
      cal (f_Reader_next 5 M5) fun _ M6 =>
      if (mI M6 5 6) = (3 : Int32) then (
        cal (f_Reader_next 5 M6) fun _ M7 =>
        cal (f_Reader_atNumber 5 (0 : Int32) (999 : Int32) M7) fun r12 M8 =>
        if r12 = 0 then (
          some ((0 : Int32), M8))
        else (
          gd (inb v1 4) <|
          bd (sA M8 (p1 + 1) (upd (mA M8 (p1 + 1)) v1.toNatClampNeg (mI M8 5 8))) fun M9 =>
          cal (f_Reader_next 5 M9) fun _ M10 =>
          some ((1 : Int32), M10)))
      else (
        some ((1 : Int32), M6))))
  else (
    cal (f_Reader_fail 5 (6 : Int32) M) fun r17 M11 =>
    gd (b01 r17) <|
    some (r17, M11))
set_option maxHeartbeats 1000000 in
def f_Reader_takeWord (p0 : Nat) (p1 : Int32) (M : kx_M) : Option (Int32 × kx_M) :=
  if (mI M p0 6) = p1 then (
    cal (f_Reader_next p0 M) fun _ M1 =>
    some ((1 : Int32), M1))
  else (
    cal (f_Reader_fail p0 (2 : Int32) M) fun r3 M2 =>
    gd (b01 r3) <|
    some (r3, M2))
set_option maxHeartbeats 1000000 in
def f_Reader_atKind (p0 : Nat) (M : kx_M) : Option (Int32 × kx_M) :=
  if (mI M p0 6) < (10 : Int32) then (
    some ((0 : Int32), M))
  else (
    if (14 : Int32) ≤ (mI M p0 6) then (
      some ((0 : Int32), M))
    else (
      some ((1 : Int32), M)))
set_option maxHeartbeats 1000000 in
def f_TreatyText_readClause_l176 (p1 : Nat) (x2 : Nat) (x3 : Int32) (x5 : Int32) (M : kx_M) : Option (Int32 × kx_M) :=
  gd (inb x3 6) <|
  bd (sA M (x2 + 4) (upd (mA M (x2 + 4)) x3.toNatClampNeg x5)) fun M1 =>
  if x5 = 0 then (
    cal (f_Reader_fail 5 (2 : Int32) M1) fun r2 M2 =>
    gd (b01 r2) <|
    some (r2, M2))
  else (
    some ((1 : Int32), M1))
set_option maxHeartbeats 1000000 in
def f_TreatyText_readClause_l105 (p1 : Nat) : Nat → Nat → Int32 → Int32 → Int32 → Int32 → kx_M → Option (Int32 × kx_M)
  | 0, _, _, _, _, _, _ => none
  | n + 1, x2, x3, x4, x5, x6, M =>
    if x4 < x6 then (
      f_TreatyText_readClause_l176 p1 x2 x3 x5 M)
    else (
      cal (f_Reader_atKind 5 M) fun r1 M1 =>
      if r1 = 0 then (
        f_TreatyText_readClause_l176 p1 x2 x3 x5 M1)
      else (
        if x5 < x4 then (
          gd (inb ((x3 * (5 : Int32)) + x5) 30) <|
          bd (sA M1 (x2 + 5) (upd (mA M1 (x2 + 5)) ((x3 * (5 : Int32)) + x5).toNatClampNeg ((mI M1 5 6) - (10 : Int32)))) fun M2 =>
          bd (x5 + Int32.ofInt 1) fun v4 =>
          cal (f_Reader_next 5 M2) fun _ M3 =>
          bd (x6 + Int32.ofInt 1) fun v7 =>
          f_TreatyText_readClause_l105 p1 n x2 x3 x4 v4 v7 M3)
        else (
          cal (f_Reader_fail 5 (6 : Int32) M1) fun r8 M4 =>
          gd (b01 r8) <|
          some (r8, M4))))
set_option maxHeartbeats 1000000 in
def f_TreatyText_readClause (p1 : Nat) (M : kx_M) : Option (Int32 × kx_M) :=
  bd (p1 + 1) fun v1 =>
  bd (mI M v1 8) fun v2 =>
  if v2 < (6 : Int32) then (
    cal (f_Reader_next 5 M) fun _ M1 =>
    cal (f_TreatyText_newName v1 M1) fun r5 M2 =>
    if r5 = 0 then (
      some ((0 : Int32), M2))
    else (
      gd (inb v2 6) <|
      bd (sB M2 (v1 + 3) (vp_updL (mB M2 (v1 + 3)) v2.toNatClampNeg (mJ M2 5 7))) fun M3 =>
      bd (sI M3 v1 8 ((mI M3 v1 8) + (1 : Int32))) fun M4 =>
      cal (f_Reader_next 5 M4) fun _ M5 =>
      cal (f_Reader_takeWord 5 (5 : Int32) M5) fun r10 M6 =>
      if r10 = 0 then (
        some ((0 : Int32), M6))
      else (
        bd (if (mI M6 (p1 + 9) 5) < (5 : Int32) then (mI M6 (p1 + 9) 5) else (5 : Int32)) fun v12 =>
        f_TreatyText_readClause_l105 p1 FU v1 v2 v12 (0 : Int32) (0 : Int32) M6)))
  else (
    cal (f_Reader_fail 5 (6 : Int32) M) fun r13 M7 =>
    gd (b01 r13) <|
    some (r13, M7))
set_option maxHeartbeats 1000000 in
def f_TreatyText_readClauseName (p1 : Nat) (M : kx_M) : Option (Int32 × kx_M) :=
  if (mI M 5 6) = (26 : Int32) then (
    cal (f_Deal_clauseNamed p1 (mJ M 5 7) M) fun r1 M1 =>
    if r1 = ((-1) : Int32) then (
      cal (f_Reader_fail 5 (3 : Int32) M1) fun r3 M2 =>
      some (r1, M2))
    else (
      some (r1, M1)))
  else (
    cal (f_Reader_fail 5 (2 : Int32) M) fun r5 M3 =>
    some (((-1) : Int32), M3))
set_option maxHeartbeats 1000000 in
def f_Deal_setOdds (p0 : Nat) (p1 : Int32) (p2 : Int32) (p3 : Int32) (M : kx_M) : Option (Unit × kx_M) :=
  gd (inb ((p1 * (6 : Int32)) + p2) 36) <|
  bd (sA M (p0 + 6) (upd (mA M (p0 + 6)) ((p1 * (6 : Int32)) + p2).toNatClampNeg p3)) fun M1 =>
  gd (inb ((p2 * (6 : Int32)) + p1) 36) <|
  bd (sA M1 (p0 + 6) (upd (mA M1 (p0 + 6)) ((p2 * (6 : Int32)) + p1).toNatClampNeg p3)) fun M2 =>
  some ((), M2)
set_option maxHeartbeats 1000000 in
def f_TreatyText_readClash (p1 : Nat) (M : kx_M) : Option (Int32 × kx_M) :=
  cal (f_Reader_next 5 M) fun _ M1 =>
  cal (f_TreatyText_readClauseName p1 M1) fun r3 M2 =>
  if r3 = ((-1) : Int32) then (
    some ((0 : Int32), M2))
  else (
    cal (f_Reader_next 5 M2) fun _ M3 =>
    cal (f_TreatyText_readClauseName p1 M3) fun r7 M4 =>
    if r7 = ((-1) : Int32) then (
      some ((0 : Int32), M4))
    else (
      if r7 = r3 then (
        cal (f_Reader_fail 5 (5 : Int32) M4) fun r9 M5 =>
        gd (b01 r9) <|
        some (r9, M5))
      else (
        cal (f_Deal_setOdds p1 r3 r7 (1 : Int32) M4) fun _ M6 =>
        cal (f_Reader_next 5 M6) fun _ M7 =>
        some ((1 : Int32), M7))))
set_option maxHeartbeats 1000000 in
def f_TreatyText_readQueenName (p1 : Nat) (M : kx_M) : Option (Int32 × kx_M) :=
  if (mI M 5 6) = (26 : Int32) then (
    cal (f_Deal_queenNamed p1 (mJ M 5 7) M) fun r1 M1 =>
    if r1 = ((-1) : Int32) then (
      cal (f_Reader_fail 5 (3 : Int32) M1) fun r3 M2 =>
      some (r1, M2))
    else (
      some (r1, M1)))
  else (
    cal (f_Reader_fail 5 (2 : Int32) M) fun r5 M3 =>
    some (((-1) : Int32), M3))
set_option maxHeartbeats 1000000 in
def f_Deal_worthAt (p0 : Int32) (p1 : Int32) (p2 : Int32) (M : kx_M) : Option (Int32 × kx_M) :=
  some (((((p2 * (4 : Int32)) + p0) * (6 : Int32)) + p1), M)
set_option maxHeartbeats 1000000 in
def f_TreatyText_readWorth (p1 : Nat) (p2 : Int32) (M : kx_M) : Option (Int32 × kx_M) :=
  cal (f_Reader_next 5 M) fun _ M1 =>
  cal (f_TreatyText_readQueenName p1 M1) fun r3 M2 =>
  if r3 = ((-1) : Int32) then (
    some ((0 : Int32), M2))
  else (
    cal (f_Reader_next 5 M2) fun _ M3 =>
    cal (f_TreatyText_readClauseName p1 M3) fun r7 M4 =>
    if r7 = ((-1) : Int32) then (
      some ((0 : Int32), M4))
    else (
      cal (f_Reader_next 5 M4) fun _ M5 =>
      cal (f_Reader_atNumber 5 (0 : Int32) (99 : Int32) M5) fun r11 M6 =>
      if r11 = 0 then (
        some ((0 : Int32), M6))
      else (
        cal (f_Deal_worthAt r3 r7 p2 M6) fun r13 M7 =>
        gd (inb r13 48) <|
        bd (sA M7 (p1 + 7) (upd (mA M7 (p1 + 7)) r13.toNatClampNeg (mI M7 5 8))) fun M8 =>
        cal (f_Reader_next 5 M8) fun _ M9 =>
        some ((1 : Int32), M9))))
set_option maxHeartbeats 1000000 in
def f_Cloth_at (p0 : Int32) (p1 : Int32) (M : kx_M) : Option (Int32 × kx_M) :=
  some (((p0 * (8 : Int32)) + p1), M)
set_option maxHeartbeats 1000000 in
def f_Cloth_lay (p0 : Nat) (p1 : Int32) (p2 : Int32) (M : kx_M) : Option (Unit × kx_M) :=
  cal (f_Cloth_at (mI M p0 7) p1 M) fun r1 M1 =>
  gd (inb r1 96) <|
  bd (sA M1 (p0 + 2) (upd (mA M1 (p0 + 2)) r1.toNatClampNeg p2)) fun M2 =>
  gd (inb r1 96) <|
  bd (sA M2 (p0 + 3) (upd (mA M2 (p0 + 3)) r1.toNatClampNeg (0 : Int32))) fun M3 =>
  gd (inb r1 96) <|
  bd (sA M3 (p0 + 4) (upd (mA M3 (p0 + 4)) r1.toNatClampNeg (0 : Int32))) fun M4 =>
  gd (inb r1 96) <|
  bd (sA M4 (p0 + 5) (upd (mA M4 (p0 + 5)) r1.toNatClampNeg (0 : Int32))) fun M5 =>
  some ((), M5)
set_option maxHeartbeats 1000000 in
def f_TreatyText_readRun_l109 (p1 : Nat) (p2 : Int32) : Nat → Int32 → Int32 → Int32 → kx_M → Option (Int32 × kx_M)
  | 0, _, _, _, _ => none
  | n + 1, x3, x4, x5, M =>
    if x4 ≤ x5 then (
      some ((p2 + x4), M))
    else (
      cal (f_Cloth_lay p1 (p2 + x5) x3 M) fun _ M1 =>
      bd (x5 + Int32.ofInt 1) fun v3 =>
      f_TreatyText_readRun_l109 p1 p2 n x3 x4 v3 M1)
set_option maxHeartbeats 1000000 in
def f_TreatyText_readRun (p1 : Nat) (p2 : Int32) (M : kx_M) : Option (Int32 × kx_M) :=
  if p2 < (mI M p1 5) then (
    bd ((mI M 5 6) - (10 : Int32)) fun v1 =>
    cal (f_Reader_next 5 M) fun _ M1 =>
    if (mI M1 5 5) = (3 : Int32) then (
      cal (f_Reader_atNumber 5 (1 : Int32) (8 : Int32) M1) fun r4 M2 =>
      if r4 = 0 then (
        some (((-1) : Int32), M2))
      else (
        bd (mI M2 5 8) fun v6 =>
        if (p2 + v6) ≤ (mI M2 p1 5) then (
          cal (f_Reader_next 5 M2) fun _ M3 =>
          f_TreatyText_readRun_l109 p1 p2 FU v1 v6 (0 : Int32) M3)
        else (
          cal (f_Reader_fail 5 (6 : Int32) M2) fun r9 M4 =>
          some (((-1) : Int32), M4))))
    else (
      f_TreatyText_readRun_l109 p1 p2 FU v1 (1 : Int32) (0 : Int32) M1))
  else (
    cal (f_Reader_fail 5 (6 : Int32) M) fun r11 M5 =>
    some (((-1) : Int32), M5))
set_option maxHeartbeats 1000000 in
def f_Cloth_closeRow (p0 : Nat) (p1 : Int32) (M : kx_M) : Option (Unit × kx_M) :=
  gd (inb (mI M p0 7) 12) <|
  bd (sA M (p0 + 1) (upd (mA M (p0 + 1)) (mI M p0 7).toNatClampNeg p1)) fun M1 =>
  bd (sI M1 p0 7 ((mI M1 p0 7) + (1 : Int32))) fun M2 =>
  some ((), M2)
set_option maxHeartbeats 1000000 in
def f_TreatyText_readRow_l102 (p1 : Nat) (x2 : Nat) (x3 : Int32) (x4 : Int32) (M : kx_M) : Option (Int32 × kx_M) :=
  if (mI M x2 5) ≤ x4 then (
    cal (f_Cloth_closeRow x2 x3 M) fun _ M1 =>
    some ((1 : Int32), M1))
  else (
    cal (f_Reader_fail 5 (2 : Int32) M) fun r3 M2 =>
    gd (b01 r3) <|
    some (r3, M2))
set_option maxHeartbeats 1000000 in
def f_TreatyText_readRow_l60 (p1 : Nat) : Nat → Nat → Int32 → Int32 → Int32 → kx_M → Option (Int32 × kx_M)
  | 0, _, _, _, _, _ => none
  | n + 1, x2, x3, x4, x5, M =>
    if (mI M x2 5) < x5 then (
      f_TreatyText_readRow_l102 p1 x2 x3 x4 M)
    else (
      cal (f_Reader_atKind 5 M) fun r1 M1 =>
      if r1 = 0 then (
        f_TreatyText_readRow_l102 p1 x2 x3 x4 M1)
      else (
        cal (f_TreatyText_readRun x2 x4 M1) fun r3 M2 =>
        if r3 = ((-1) : Int32) then (
          some ((0 : Int32), M2))
        else (
          bd (x5 + Int32.ofInt 1) fun v5 =>
          f_TreatyText_readRow_l60 p1 n x2 x3 r3 v5 M2)))
set_option maxHeartbeats 1000000 in
def f_TreatyText_readRow (p1 : Nat) (M : kx_M) : Option (Int32 × kx_M) :=
  bd (p1 + 9) fun v1 =>
  if (mI M v1 7) < (12 : Int32) then (
    cal (f_Reader_next 5 M) fun _ M1 =>
    cal (f_TreatyText_readQueenName (p1 + 1) M1) fun r4 M2 =>
    if r4 = ((-1) : Int32) then (
      some ((0 : Int32), M2))
    else (
      cal (f_Reader_next 5 M2) fun _ M3 =>
      f_TreatyText_readRow_l60 p1 FU v1 r4 (0 : Int32) (0 : Int32) M3))
  else (
    cal (f_Reader_fail 5 (6 : Int32) M) fun r8 M4 =>
    gd (b01 r8) <|
    some (r8, M4))
set_option maxHeartbeats 1000000 in
def f_TreatyText_readPart_l191 (p1 : Nat) (s0 : Nat) (s1 : Nat) (s2 : Int32) (M : kx_M) : Option (Int32 × kx_M) :=
  cal (f_TreatyText_readWorth s1 s2 M) fun r1 M1 =>
  if r1 = 0 then (
    some ((0 : Int32), M1))
  else (
    cal (f_Reader_takeSign 5 (59 : Int32) M1) fun r3 M2 =>
    if r3 = 0 then (
      some ((0 : Int32), M2))
    else (
      some ((1 : Int32), M2)))
set_option maxHeartbeats 1000000 in
def f_TreatyText_readPart (p1 : Nat) (M : kx_M) : Option (Int32 × kx_M) :=
  bd (mI M 5 6) fun v1 =>
  if v1 = (0 : Int32) then (
    cal (f_TreatyText_readMeasure p1 v1 M) fun r2 M1 =>
    if r2 = 0 then (
      some ((0 : Int32), M1))
    else (
      cal (f_Reader_takeSign 5 (59 : Int32) M1) fun r4 M2 =>
      if r4 = 0 then (
        some ((0 : Int32), M2))
      else (
        some ((1 : Int32), M2))))
  else (
  if v1 = (1 : Int32) then (
    cal (f_TreatyText_readMeasure p1 v1 M) fun r6 M3 =>
    if r6 = 0 then (
      some ((0 : Int32), M3))
    else (
      cal (f_Reader_takeSign 5 (59 : Int32) M3) fun r8 M4 =>
      if r8 = 0 then (
        some ((0 : Int32), M4))
      else (
        some ((1 : Int32), M4))))
  else (
  if v1 = (2 : Int32) then (
    cal (f_TreatyText_readQueen (p1 + 1) M) fun r10 M5 =>
    if r10 = 0 then (
      some ((0 : Int32), M5))
    else (
      cal (f_Reader_takeSign 5 (59 : Int32) M5) fun r12 M6 =>
      if r12 = 0 then (
        some ((0 : Int32), M6))
      else (
        some ((1 : Int32), M6))))
  else (
  if v1 = (3 : Int32) then (
    cal (f_Reader_fail 5 (2 : Int32) M) fun r14 M7 =>
    gd (b01 r14) <|
    some (r14, M7))
  else (
  if v1 = (4 : Int32) then (
    cal (f_TreatyText_readClause p1 M) fun r17 M8 =>
    if r17 = 0 then (
      some ((0 : Int32), M8))
    else (
      cal (f_Reader_takeSign 5 (59 : Int32) M8) fun r19 M9 =>
      if r19 = 0 then (
        some ((0 : Int32), M9))
      else (
        some ((1 : Int32), M9))))
  else (
  if v1 = (5 : Int32) then (
    cal (f_Reader_fail 5 (2 : Int32) M) fun r21 M10 =>
    gd (b01 r21) <|
    some (r21, M10))
  else (
  if v1 = (6 : Int32) then (
    cal (f_TreatyText_readClash (p1 + 1) M) fun r24 M11 =>
    if r24 = 0 then (
      some ((0 : Int32), M11))
    else (
      cal (f_Reader_takeSign 5 (59 : Int32) M11) fun r26 M12 =>
      if r26 = 0 then (
        some ((0 : Int32), M12))
      else (
        some ((1 : Int32), M12))))
  else (
  if v1 = (7 : Int32) then (
    if v1 = (7 : Int32) then (
      f_TreatyText_readPart_l191 p1 4 (p1 + 1) (0 : Int32) M)
    else (
      f_TreatyText_readPart_l191 p1 4 (p1 + 1) (1 : Int32) M))
  else (
  if v1 = (8 : Int32) then (
    if v1 = (7 : Int32) then (
      f_TreatyText_readPart_l191 p1 4 (p1 + 1) (0 : Int32) M)
    else (
      f_TreatyText_readPart_l191 p1 4 (p1 + 1) (1 : Int32) M))
  else (
  if v1 = (9 : Int32) then (
    cal (f_TreatyText_readRow p1 M) fun r28 M13 =>
    if r28 = 0 then (
      some ((0 : Int32), M13))
    else (
      cal (f_Reader_takeSign 5 (59 : Int32) M13) fun r30 M14 =>
      if r30 = 0 then (
        some ((0 : Int32), M14))
      else (
        some ((1 : Int32), M14))))
  else (
    cal (f_Reader_fail 5 (2 : Int32) M) fun r32 M15 =>
    gd (b01 r32) <|
    some (r32, M15)))))))))))
set_option maxHeartbeats 1000000 in
def f_TreatyText_parse_l26 (p1 : Nat) (p2 : Int32) (p3 : Nat) : Nat → Int32 → kx_M → Option (Int32 × kx_M)
  | 0, _, _ => none
  | n + 1, x4, M =>
    if p2 < x4 then (
      some ((1 : Int32), M))
    else (
      if (mI M 5 5) = 0 then (
        some ((1 : Int32), M))
      else (
        cal (f_TreatyText_readPart p3 M) fun r1 M1 =>
        if r1 = 0 then (
          some ((0 : Int32), M1))
        else (
          bd (x4 + Int32.ofInt 1) fun v3 =>
          f_TreatyText_parse_l26 p1 p2 p3 n v3 M1)))
set_option maxHeartbeats 1000000 in
def f_TreatyText_parse (p1 : Nat) (p2 : Int32) (p3 : Nat) (M : kx_M) : Option (Int32 × kx_M) :=
  cal (f_State_clear p3 M) fun _ M1 =>
  bd (sI M1 4 1 (0 : Int32)) fun M2 =>
  bd (sI M2 4 2 (0 : Int32)) fun M3 =>
  cal (f_Reader_open 5 p1 p2 M3) fun _ M4 =>
  f_TreatyText_parse_l26 p1 p2 p3 FU (0 : Int32) M4
set_option maxHeartbeats 1000000 in
def f_KT_told_l13 (p1 : Int32) (p2 : Nat) (s0 : Nat) (s1 : Int32) (M : kx_M) : Option (Int32 × kx_M) :=
  bd (sI M 0 14 s1) fun M1 =>
  if p1 = 0 then (
    bd (sI M1 0 15 (mI M1 p2 11)) fun M2 =>
    if p1 = 0 then (
      some ((10 : Int32), M2))
    else (
      some ((0 : Int32), M2)))
  else (
    bd (sI M1 0 15 ((-1) : Int32)) fun M3 =>
    if p1 = 0 then (
      some ((10 : Int32), M3))
    else (
      some ((0 : Int32), M3)))
set_option maxHeartbeats 1000000 in
def f_KT_told (p1 : Int32) (p2 : Nat) (M : kx_M) : Option (Int32 × kx_M) :=
  if p1 = 0 then (
    f_KT_told_l13 p1 p2 0 (mI M p2 10) M)
  else (
    f_KT_told_l13 p1 p2 0 (0 : Int32) M)
set_option maxHeartbeats 1000000 in
def f_KT_treaty (p1 : Int32) (M : kx_M) : Option (Int32 × kx_M) :=
  if p1 < 0 then (
    bd (sI M 0 13 (5 : Int32)) fun M1 =>
    some (((-1) : Int32), M1))
  else (
    if p1 ≤ (mI M 0 11) then (
      bd (sI M 0 11 (0 : Int32)) fun M2 =>
      gd (isState (mR M2 0 10)) <|
      bd (mR M2 0 10) fun s2 =>
      cal (f_TreatyText_parse 2 p1 s2 M2) fun r3 M3 =>
      cal (f_KT_told r3 5 M3) fun r5 M4 =>
      cal (f_KT_refused r5 M4) fun r7 M5 =>
      if r7 = 0 then (
        gd (isState (mR M5 0 9)) <|
        bd (mR M5 0 9) fun s10 =>
        gd (isState (mR M5 0 10)) <|
        bd (mR M5 0 10) fun s12 =>
        bd (sR M5 0 9 s12) fun M6 =>
        bd (sR M6 0 10 s10) fun M7 =>
        gd (isState (mR M7 0 9)) <|
        bd (mR M7 0 9) fun s14 =>
        some ((mI M7 (s14 + 9) 7), M7))
      else (
        some (((-1) : Int32), M5)))
    else (
      bd (sI M 0 13 (5 : Int32)) fun M8 =>
      some (((-1) : Int32), M8)))
set_option maxHeartbeats 1000000 in
def f_Script_add (p0 : Nat) (p1 : Int32) (p2 : Int32) (p3 : Int32) (M : kx_M) : Option (Unit × kx_M) :=
  gd (inb (mI M p0 6) 60) <|
  bd (sA M (p0 + 1) (upd (mA M (p0 + 1)) (mI M p0 6).toNatClampNeg p1)) fun M1 =>
  gd (inb (mI M1 p0 6) 60) <|
  bd (sA M1 (p0 + 2) (upd (mA M1 (p0 + 2)) (mI M1 p0 6).toNatClampNeg p2)) fun M2 =>
  gd (inb (mI M2 p0 6) 60) <|
  bd (sA M2 (p0 + 3) (upd (mA M2 (p0 + 3)) (mI M2 p0 6).toNatClampNeg p3)) fun M3 =>
  gd (inb (mI M3 p0 6) 60) <|
  bd (sA M3 (p0 + 4) (upd (mA M3 (p0 + 4)) (mI M3 p0 6).toNatClampNeg (mI M3 p0 6))) fun M4 =>
  bd (sI M4 p0 6 ((mI M4 p0 6) + (1 : Int32))) fun M5 =>
  some ((), M5)
set_option maxHeartbeats 1000000 in
def f_Script_couple (p0 : Nat) (p1 : Int32) (p2 : Int32) (M : kx_M) : Option (Unit × kx_M) :=
  gd (inb p1 60) <|
  bd (sA M (p0 + 4) (upd (mA M (p0 + 4)) p1.toNatClampNeg p2)) fun M1 =>
  gd (inb p2 60) <|
  bd (sA M1 (p0 + 4) (upd (mA M1 (p0 + 4)) p2.toNatClampNeg p1)) fun M2 =>
  some ((), M2)
set_option maxHeartbeats 1000000 in
def f_CenturyText_readEnd (p1 : Nat) (M : kx_M) : Option (Int32 × kx_M) :=
  if (mI M 8 2) = 0 then (
    cal (f_Reader_fail 9 (2 : Int32) M) fun r1 M1 =>
    gd (b01 r1) <|
    some (r1, M1))
  else (
    bd (sI M 8 2 ((mI M 8 2) - (1 : Int32))) fun M2 =>
    cal (f_Script_add p1 (24 : Int32) (0 : Int32) (0 : Int32) M2) fun _ M3 =>
    gd (inb (mI M3 8 2) 3) <|
    cal (f_Script_couple p1 (mA M3 12 (mI M3 8 2).toNatClampNeg) ((mI M3 p1 6) - (1 : Int32)) M3) fun _ M4 =>
    cal (f_Reader_next 9 M4) fun _ M5 =>
    some ((1 : Int32), M5))
set_option maxHeartbeats 1000000 in
def f_CenturyText_beginsStep_l12 (p0 : Int32) (M : kx_M) : Option (Int32 × kx_M) :=
  if p0 = (23 : Int32) then (
    some ((1 : Int32), M))
  else (
    if p0 = (25 : Int32) then (
      some ((1 : Int32), M))
    else (
      some ((0 : Int32), M)))
set_option maxHeartbeats 1000000 in
def f_CenturyText_beginsStep (p0 : Int32) (M : kx_M) : Option (Int32 × kx_M) :=
  if p0 < (14 : Int32) then (
    f_CenturyText_beginsStep_l12 p0 M)
  else (
    if p0 ≤ (19 : Int32) then (
      some ((1 : Int32), M))
    else (
      f_CenturyText_beginsStep_l12 p0 M))
set_option maxHeartbeats 1000000 in
def f_CenturyText_readOne (p1 : Nat) (p2 : Int32) (p3 : Int32) (p4 : Int32) (M : kx_M) : Option (Int32 × kx_M) :=
  cal (f_Reader_atNumber 9 p3 p4 M) fun r1 M1 =>
  if r1 = 0 then (
    some ((0 : Int32), M1))
  else (
    cal (f_Script_add p1 p2 (mI M1 9 8) (0 : Int32) M1) fun _ M2 =>
    cal (f_Reader_next 9 M2) fun _ M3 =>
    some ((1 : Int32), M3))
set_option maxHeartbeats 1000000 in
def f_CenturyText_readTwo (p1 : Nat) (p2 : Int32) (p3 : Int32) (p4 : Int32) (M : kx_M) : Option (Int32 × kx_M) :=
  cal (f_Reader_atNumber 9 (0 : Int32) p3 M) fun r1 M1 =>
  if r1 = 0 then (
    some ((0 : Int32), M1))
  else (
    bd (mI M1 9 8) fun v3 =>
    cal (f_Reader_next 9 M1) fun _ M2 =>
    cal (f_Reader_atNumber 9 (0 : Int32) p4 M2) fun r6 M3 =>
    if r6 = 0 then (
      some ((0 : Int32), M3))
    else (
      cal (f_Script_add p1 p2 v3 (mI M3 9 8) M3) fun _ M4 =>
      cal (f_Reader_next 9 M4) fun _ M5 =>
      some ((1 : Int32), M5)))
set_option maxHeartbeats 1000000 in
def f_CenturyText_readSaid (p1 : Nat) (p2 : Nat) (M : kx_M) : Option (Int32 × kx_M) :=
  if (mI M 9 6) = (26 : Int32) then (
    cal (f_Deal_clauseNamed p1 (mJ M 9 7) M) fun r1 M1 =>
    if r1 = ((-1) : Int32) then (
      cal (f_Reader_fail 9 (3 : Int32) M1) fun r3 M2 =>
      gd (b01 r3) <|
      some (r3, M2))
    else (
      cal (f_Script_add p2 (20 : Int32) r1 (0 : Int32) M1) fun _ M3 =>
      cal (f_Reader_next 9 M3) fun _ M4 =>
      some ((1 : Int32), M4)))
  else (
    cal (f_Reader_fail 9 (2 : Int32) M) fun r10 M5 =>
    gd (b01 r10) <|
    some (r10, M5))
set_option maxHeartbeats 1000000 in
def f_CenturyText_readUndone (p1 : Nat) (M : kx_M) : Option (Int32 × kx_M) :=
  if (mI M 9 5) = (4 : Int32) then (
    if (mI M 9 9) = (59 : Int32) then (
      cal (f_Reader_fail 9 (2 : Int32) M) fun r1 M1 =>
      gd (b01 r1) <|
      some (r1, M1))
    else (
      bd (mI M 9 9) fun v4 =>
      cal (f_Reader_next 9 M) fun _ M2 =>
      cal (f_Reader_atNumber 9 (0 : Int32) (99 : Int32) M2) fun r7 M3 =>
      if r7 = 0 then (
        some ((0 : Int32), M3))
      else (
        cal (f_Script_add p1 (22 : Int32) v4 (mI M3 9 8) M3) fun _ M4 =>
        cal (f_Reader_next 9 M4) fun _ M5 =>
        some ((1 : Int32), M5))))
  else (
    cal (f_Reader_fail 9 (2 : Int32) M) fun r13 M6 =>
    gd (b01 r13) <|
    some (r13, M6))
set_option maxHeartbeats 1000000 in
def f_CenturyText_readTest (p1 : Nat) (p2 : Nat) (M : kx_M) : Option (Int32 × kx_M) :=
  bd (mI M 9 6) fun v1 =>
  if v1 = (20 : Int32) then (
    cal (f_Reader_next 9 M) fun _ M1 =>
    cal (f_CenturyText_readSaid (p1 + 1) p2 M1) fun r4 M2 =>
    gd (b01 r4) <|
    some (r4, M2))
  else (
  if v1 = (21 : Int32) then (
    cal (f_Reader_next 9 M) fun _ M3 =>
    cal (f_CenturyText_readOne p2 v1 (0 : Int32) ((mI M3 (p1 + 9) 7) - (1 : Int32)) M3) fun r9 M4 =>
    gd (b01 r9) <|
    some (r9, M4))
  else (
  if v1 = (22 : Int32) then (
    cal (f_Reader_next 9 M) fun _ M5 =>
    cal (f_CenturyText_readUndone p2 M5) fun r14 M6 =>
    gd (b01 r14) <|
    some (r14, M6))
  else (
    cal (f_Reader_fail 9 (2 : Int32) M) fun r17 M7 =>
    gd (b01 r17) <|
    some (r17, M7))))
set_option maxHeartbeats 1000000 in
def f_CenturyText_readStep_l123 (p1 : Nat) (p2 : Nat) (x3 : Int32) (M : kx_M) : Option (Int32 × kx_M) :=
  cal (f_Reader_next 9 M) fun _ M1 =>
  if x3 = (14 : Int32) then (
    cal (f_CenturyText_readOne p2 x3 (1 : Int32) (20 : Int32) M1) fun r3 M2 =>
    gd (b01 r3) <|
    some (r3, M2))
  else (
  if x3 = (15 : Int32) then (
    cal (f_CenturyText_readTwo p2 x3 ((mI M1 (p1 + 9) 7) - (1 : Int32)) (1 : Int32) M1) fun r6 M3 =>
    gd (b01 r6) <|
    some (r6, M3))
  else (
  if x3 = (16 : Int32) then (
    cal (f_CenturyText_readTwo p2 x3 ((mI M1 (p1 + 9) 7) - (1 : Int32)) ((mI M1 (p1 + 9) 5) - (1 : Int32)) M1) fun r9 M4 =>
    gd (b01 r9) <|
    some (r9, M4))
  else (
  if x3 = (17 : Int32) then (
    cal (f_CenturyText_readTwo p2 x3 ((mI M1 (p1 + 9) 7) - (1 : Int32)) ((mI M1 (p1 + 9) 5) - (1 : Int32)) M1) fun r12 M5 =>
    gd (b01 r12) <|
    some (r12, M5))
  else (
  if x3 = (18 : Int32) then (
    cal (f_Script_add p2 x3 (0 : Int32) (0 : Int32) M1) fun _ M6 =>
    some ((1 : Int32), M6))
  else (
  if x3 = (19 : Int32) then (
    cal (f_CenturyText_readTest p1 p2 M1) fun r17 M7 =>
    gd (b01 r17) <|
    some (r17, M7))
  else (
  if x3 = (20 : Int32) then (
    cal (f_Script_add p2 x3 (0 : Int32) (0 : Int32) M1) fun _ M8 =>
    some ((1 : Int32), M8))
  else (
  if x3 = (21 : Int32) then (
    cal (f_Script_add p2 x3 (0 : Int32) (0 : Int32) M1) fun _ M9 =>
    some ((1 : Int32), M9))
  else (
  if x3 = (22 : Int32) then (
    cal (f_Script_add p2 x3 (0 : Int32) (0 : Int32) M1) fun _ M10 =>
    some ((1 : Int32), M10))
  else (
  if x3 = (23 : Int32) then (
    cal (f_CenturyText_readOne p2 x3 (1 : Int32) (99 : Int32) M1) fun r26 M11 =>
    gd (b01 r26) <|
    some (r26, M11))
  else (
    cal (f_Script_add p2 x3 (0 : Int32) (0 : Int32) M1) fun _ M12 =>
    some ((1 : Int32), M12)))))))))))
set_option maxHeartbeats 1000000 in
def f_CenturyText_readStep_l85 (p1 : Nat) (p2 : Nat) (x3 : Int32) (x4 : Int32) (M : kx_M) : Option (Int32 × kx_M) :=
  bd (sI M p2 5 ((mI M p2 5) + (1 : Int32))) fun M1 =>
  if x4 = 0 then (
    f_CenturyText_readStep_l123 p1 p2 x3 M1)
  else (
    gd (inb (mI M1 8 2) 3) <|
    bd (sA M1 12 (upd (mA M1 12) (mI M1 8 2).toNatClampNeg (mI M1 p2 6))) fun M2 =>
    bd (sI M2 8 2 ((mI M2 8 2) + (1 : Int32))) fun M3 =>
    f_CenturyText_readStep_l123 p1 p2 x3 M3)
set_option maxHeartbeats 1000000 in
def f_CenturyText_readStep_l60 (p1 : Nat) (p2 : Nat) (x3 : Int32) (s0 : Int32) (M : kx_M) : Option (Int32 × kx_M) :=
  if s0 = 0 then (
    f_CenturyText_readStep_l85 p1 p2 x3 s0 M)
  else (
    if (mI M 8 2) < (3 : Int32) then (
      f_CenturyText_readStep_l85 p1 p2 x3 s0 M)
    else (
      cal (f_Reader_fail 9 (7 : Int32) M) fun r1 M1 =>
      gd (b01 r1) <|
      some (r1, M1)))
set_option maxHeartbeats 1000000 in
def f_CenturyText_readStep (p1 : Nat) (p2 : Nat) (M : kx_M) : Option (Int32 × kx_M) :=
  bd (mI M 9 6) fun v1 =>
  cal (f_CenturyText_beginsStep v1 M) fun r2 M1 =>
  if r2 = 0 then (
    cal (f_Reader_fail 9 (2 : Int32) M1) fun r4 M2 =>
    gd (b01 r4) <|
    some (r4, M2))
  else (
    if (mI M1 p2 5) < (30 : Int32) then (
      if v1 = (19 : Int32) then (
        f_CenturyText_readStep_l60 p1 p2 v1 (1 : Int32) M1)
      else (
        if v1 = (23 : Int32) then (
          f_CenturyText_readStep_l60 p1 p2 v1 (1 : Int32) M1)
        else (
          f_CenturyText_readStep_l60 p1 p2 v1 (0 : Int32) M1)))
    else (
      cal (f_Reader_fail 9 (6 : Int32) M1) fun r7 M3 =>
      gd (b01 r7) <|
      some (r7, M3)))
set_option maxHeartbeats 1000000 in
def f_CenturyText_parse_l93 (p1 : Nat) (p2 : Int32) (p3 : Nat) (p4 : Nat) (M : kx_M) : Option (Int32 × kx_M) :=
  if (mI M 8 2) ≤ 0 then (
    bd (sI M p4 4 (1 : Int32)) fun M1 =>
    some ((1 : Int32), M1))
  else (
    cal (f_Reader_fail 9 (2 : Int32) M) fun r1 M2 =>
    gd (b01 r1) <|
    some (r1, M2))
set_option maxHeartbeats 1000000 in
def f_CenturyText_parse_l66 (p1 : Nat) (p2 : Int32) (p3 : Nat) (p4 : Nat) (k22 : Int32 → kx_M → Option (Int32 × kx_M)) (x5 : Int32) (s0 : Int32) (M : kx_M) : Option (Int32 × kx_M) :=
  if s0 = 0 then (
    some ((0 : Int32), M))
  else (
    cal (f_Reader_takeSign 9 (59 : Int32) M) fun r1 M1 =>
    if r1 = 0 then (
      some ((0 : Int32), M1))
    else (
      bd (x5 + Int32.ofInt 1) fun v3 =>
      k22 v3 M1))
set_option maxHeartbeats 1000000 in
def f_CenturyText_parse_l22 (p1 : Nat) (p2 : Int32) (p3 : Nat) (p4 : Nat) : Nat → Int32 → kx_M → Option (Int32 × kx_M)
  | 0, _, _ => none
  | n + 1, x5, M =>
    if p2 < x5 then (
      f_CenturyText_parse_l93 p1 p2 p3 p4 M)
    else (
      if (mI M 9 5) = 0 then (
        f_CenturyText_parse_l93 p1 p2 p3 p4 M)
      else (
        if (mI M 9 6) = (24 : Int32) then (
          cal (f_CenturyText_readEnd p4 M) fun r1 M1 =>
          f_CenturyText_parse_l66 p1 p2 p3 p4 (f_CenturyText_parse_l22 p1 p2 p3 p4 n) x5 r1 M1)
        else (
          cal (f_CenturyText_readStep p3 p4 M) fun r3 M2 =>
          f_CenturyText_parse_l66 p1 p2 p3 p4 (f_CenturyText_parse_l22 p1 p2 p3 p4 n) x5 r3 M2)))
set_option maxHeartbeats 1000000 in
def f_CenturyText_parse (p1 : Nat) (p2 : Int32) (p3 : Nat) (p4 : Nat) (M : kx_M) : Option (Int32 × kx_M) :=
  cal (f_Script_clear p4 M) fun _ M1 =>
  bd (sI M1 8 2 (0 : Int32)) fun M2 =>
  cal (f_Reader_open 9 p1 p2 M2) fun _ M3 =>
  f_CenturyText_parse_l22 p1 p2 p3 p4 FU (0 : Int32) M3
set_option maxHeartbeats 1000000 in
def f_Script_copyFrom (p0 : Nat) (p1 : Nat) (M : kx_M) : Option (Unit × kx_M) :=
  gd (b01 (mI M p1 4)) <|
  bd (sI M p0 4 (mI M p1 4)) fun M1 =>
  bd (sI M1 p0 5 (mI M1 p1 5)) fun M2 =>
  bd (sI M2 p0 6 (mI M2 p1 6)) fun M3 =>
  bd (sA M3 (p0 + 1) (va_cpy (mA M3 (p1 + 1)) (mA M3 (p0 + 1)) (0 : Int32).toNatClampNeg (0 : Int32).toNatClampNeg (60 : Int32).toNatClampNeg)) fun M4 =>
  bd (sA M4 (p0 + 2) (va_cpy (mA M4 (p1 + 2)) (mA M4 (p0 + 2)) (0 : Int32).toNatClampNeg (0 : Int32).toNatClampNeg (60 : Int32).toNatClampNeg)) fun M5 =>
  bd (sA M5 (p0 + 3) (va_cpy (mA M5 (p1 + 3)) (mA M5 (p0 + 3)) (0 : Int32).toNatClampNeg (0 : Int32).toNatClampNeg (60 : Int32).toNatClampNeg)) fun M6 =>
  bd (sA M6 (p0 + 4) (va_cpy (mA M6 (p1 + 4)) (mA M6 (p0 + 4)) (0 : Int32).toNatClampNeg (0 : Int32).toNatClampNeg (60 : Int32).toNatClampNeg)) fun M7 =>
  some ((), M7)
set_option maxHeartbeats 1000000 in
def f_KT_centuries (p1 : Int32) (M : kx_M) : Option (Int32 × kx_M) :=
  if p1 < 0 then (
    bd (sI M 0 13 (5 : Int32)) fun M1 =>
    some (((-1) : Int32), M1))
  else (
    if (mI M 0 11) < p1 then (
      bd (sI M 0 13 (5 : Int32)) fun M2 =>
      some (((-1) : Int32), M2))
    else (
      if p1 ≤ (300 : Int32) then (
        bd (sI M 0 11 (0 : Int32)) fun M3 =>
        gd (isState (mR M3 0 9)) <|
        bd (mR M3 0 9) fun s2 =>
        gd (isState (mR M3 0 10)) <|
        bd (mR M3 0 10) fun s4 =>
        cal (f_CenturyText_parse 2 p1 s2 (s4 + 15) M3) fun r5 M4 =>
        cal (f_KT_told r5 9 M4) fun r7 M5 =>
        cal (f_KT_refused r7 M5) fun r9 M6 =>
        if r9 = 0 then (
          gd (isState (mR M6 0 9)) <|
          bd (mR M6 0 9) fun s12 =>
          gd (isState (mR M6 0 10)) <|
          bd (mR M6 0 10) fun s14 =>
          cal (f_Script_copyFrom (s12 + 15) (s14 + 15) M6) fun _ M7 =>
          gd (isState (mR M7 0 9)) <|
          bd (mR M7 0 9) fun s18 =>
          some ((mI M7 (s18 + 15) 5), M7))
        else (
          some (((-1) : Int32), M6)))
      else (
        bd (sI M 0 13 (5 : Int32)) fun M8 =>
        some (((-1) : Int32), M8))))
set_option maxHeartbeats 1000000 in
def f_KT_fault (p1 : Int32) (M : kx_M) : Option (Int32 × kx_M) :=
  if p1 = 0 then (
    some ((mI M 0 14), M))
  else (
    if p1 = (1 : Int32) then (
      some ((mI M 0 15), M))
    else (
      some (((-1) : Int32), M)))
set_option maxHeartbeats 1000000 in
def f_Cloth_sum_l15 (p0 : Nat) (p1 : Nat) (k4 : Int32 → Int32 → kx_M → Option (Int32 × kx_M)) : Nat → Int32 → Int32 → Int32 → kx_M → Option (Int32 × kx_M)
  | 0, _, _, _, _ => none
  | n + 1, x2, x3, x4, M =>
    if (mI M p0 5) ≤ x4 then (
      bd (x3 + Int32.ofInt 1) fun v1 =>
      k4 x2 v1 M)
    else (
      cal (f_Cloth_at x3 x4 M) fun r2 M1 =>
      gd (aIb 1 p1 r2) <|
      bd (x2 + (mA M1 p1 r2.toNatClampNeg)) fun v5 =>
      bd (x4 + Int32.ofInt 1) fun v6 =>
      f_Cloth_sum_l15 p0 p1 k4 n v5 x3 v6 M1)
set_option maxHeartbeats 1000000 in
def f_Cloth_sum_l4 (p0 : Nat) (p1 : Nat) : Nat → Int32 → Int32 → kx_M → Option (Int32 × kx_M)
  | 0, _, _, _ => none
  | n + 1, x2, x3, M =>
    if (mI M p0 7) ≤ x3 then (
      some (x2, M))
    else (
      f_Cloth_sum_l15 p0 p1 (f_Cloth_sum_l4 p0 p1 n) FU x2 x3 (0 : Int32) M)
set_option maxHeartbeats 1000000 in
def f_Cloth_sum (p0 : Nat) (p1 : Nat) (M : kx_M) : Option (Int32 × kx_M) :=
  f_Cloth_sum_l4 p0 p1 FU (0 : Int32) (0 : Int32) M
set_option maxHeartbeats 1000000 in
def f_Cloth_wornInAll_l14 (p0 : Nat) (k4 : Int32 → Int32 → kx_M → Option (Int32 × kx_M)) : Nat → Int32 → Int32 → Int32 → kx_M → Option (Int32 × kx_M)
  | 0, _, _, _, _ => none
  | n + 1, x1, x2, x3, M =>
    if (mI M p0 5) ≤ x3 then (
      bd (x2 + Int32.ofInt 1) fun v1 =>
      k4 x1 v1 M)
    else (
      cal (f_Cloth_at x2 x3 M) fun r2 M1 =>
      gd (inb r2 96) <|
      if (mA M1 (p0 + 4) r2.toNatClampNeg) = 0 then (
        gd (inb r2 96) <|
        bd (x1 + (mA M1 (p0 + 3) r2.toNatClampNeg)) fun v6 =>
        bd (x3 + Int32.ofInt 1) fun v7 =>
        f_Cloth_wornInAll_l14 p0 k4 n v6 x2 v7 M1)
      else (
        bd (x3 + Int32.ofInt 1) fun v8 =>
        f_Cloth_wornInAll_l14 p0 k4 n x1 x2 v8 M1))
set_option maxHeartbeats 1000000 in
def f_Cloth_wornInAll_l4 (p0 : Nat) : Nat → Int32 → Int32 → kx_M → Option (Int32 × kx_M)
  | 0, _, _, _ => none
  | n + 1, x1, x2, M =>
    if (mI M p0 7) ≤ x2 then (
      some (x1, M))
    else (
      f_Cloth_wornInAll_l14 p0 (f_Cloth_wornInAll_l4 p0 n) FU x1 x2 (0 : Int32) M)
set_option maxHeartbeats 1000000 in
def f_Cloth_wornInAll (p0 : Nat) (M : kx_M) : Option (Int32 × kx_M) :=
  f_Cloth_wornInAll_l4 p0 FU (0 : Int32) (0 : Int32) M
set_option maxHeartbeats 1000000 in
def f_Cloth_saysAt_l25 (p0 : Nat) (p1 : Nat) (p2 : Int32) (p3 : Int32) (p4 : Int32) : Nat → Int32 → Int32 → kx_M → Option (Int32 × kx_M)
  | 0, _, _, _ => none
  | n + 1, x5, x6, M =>
    if x5 ≤ x6 then (
      some ((1 : Int32), M))
    else (
      cal (f_Cloth_at p3 (p4 + x6) M) fun r1 M1 =>
      gd (inb r1 96) <|
      if (mA M1 (p0 + 4) r1.toNatClampNeg) = (1 : Int32) then (
        some ((0 : Int32), M1))
      else (
        gd (inb r1 96) <|
        gd (inb ((p2 * (5 : Int32)) + x6) 30) <|
        if (mA M1 (p0 + 2) r1.toNatClampNeg) = (mA M1 (p1 + 5) ((p2 * (5 : Int32)) + x6).toNatClampNeg) then (
          bd (x6 + Int32.ofInt 1) fun v6 =>
          f_Cloth_saysAt_l25 p0 p1 p2 p3 p4 n x5 v6 M1)
        else (
          some ((0 : Int32), M1))))
set_option maxHeartbeats 1000000 in
def f_Cloth_saysAt (p0 : Nat) (p1 : Nat) (p2 : Int32) (p3 : Int32) (p4 : Int32) (M : kx_M) : Option (Int32 × kx_M) :=
  gd (inb p2 6) <|
  bd (mA M (p1 + 4) p2.toNatClampNeg) fun v2 =>
  if (p4 + v2) ≤ (mI M p0 5) then (
    f_Cloth_saysAt_l25 p0 p1 p2 p3 p4 FU v2 (0 : Int32) M)
  else (
    some ((0 : Int32), M))
set_option maxHeartbeats 1000000 in
def f_Cloth_timesIn_l6 (p0 : Nat) (p1 : Nat) (p2 : Int32) (p3 : Int32) : Nat → Int32 → Int32 → kx_M → Option (Int32 × kx_M)
  | 0, _, _, _ => none
  | n + 1, x4, x5, M =>
    if (mI M p0 5) ≤ x5 then (
      some (x4, M))
    else (
      cal (f_Cloth_saysAt p0 p1 p2 p3 x5 M) fun r1 M1 =>
      if r1 = 0 then (
        bd (x5 + Int32.ofInt 1) fun v3 =>
        f_Cloth_timesIn_l6 p0 p1 p2 p3 n x4 v3 M1)
      else (
        bd (x4 + Int32.ofInt 1) fun v4 =>
        bd (x5 + Int32.ofInt 1) fun v5 =>
        f_Cloth_timesIn_l6 p0 p1 p2 p3 n v4 v5 M1))
set_option maxHeartbeats 1000000 in
def f_Cloth_timesIn (p0 : Nat) (p1 : Nat) (p2 : Int32) (p3 : Int32) (M : kx_M) : Option (Int32 × kx_M) :=
  f_Cloth_timesIn_l6 p0 p1 p2 p3 FU (0 : Int32) (0 : Int32) M
set_option maxHeartbeats 1000000 in
def f_Cloth_saidSetIn_l5 (p0 : Nat) (p1 : Nat) (p2 : Int32) : Nat → Int32 → Int32 → kx_M → Option (Int32 × kx_M)
  | 0, _, _, _ => none
  | n + 1, x3, x4, M =>
    if (mI M p1 8) ≤ x4 then (
      some (x3, M))
    else (
      cal (f_Cloth_timesIn p0 p1 x4 p2 M) fun r1 M1 =>
      if r1 ≤ 0 then (
        bd (x4 + Int32.ofInt 1) fun v3 =>
        f_Cloth_saidSetIn_l5 p0 p1 p2 n x3 v3 M1)
      else (
        bd (x3 ||| ((1 : Int32) <<< (x4 &&& 31))) fun v4 =>
        bd (x4 + Int32.ofInt 1) fun v5 =>
        f_Cloth_saidSetIn_l5 p0 p1 p2 n v4 v5 M1))
set_option maxHeartbeats 1000000 in
def f_Cloth_saidSetIn (p0 : Nat) (p1 : Nat) (p2 : Int32) (M : kx_M) : Option (Int32 × kx_M) :=
  f_Cloth_saidSetIn_l5 p0 p1 p2 FU (0 : Int32) (0 : Int32) M
set_option maxHeartbeats 1000000 in
def f_Cloth_saidSet_l4 (p0 : Nat) (p1 : Nat) : Nat → Int32 → Int32 → kx_M → Option (Int32 × kx_M)
  | 0, _, _, _ => none
  | n + 1, x2, x3, M =>
    if (mI M p0 7) ≤ x3 then (
      some (x2, M))
    else (
      cal (f_Cloth_saidSetIn p0 p1 x3 M) fun r1 M1 =>
      bd (x2 ||| r1) fun v3 =>
      bd (x3 + Int32.ofInt 1) fun v4 =>
      f_Cloth_saidSet_l4 p0 p1 n v3 v4 M1)
set_option maxHeartbeats 1000000 in
def f_Cloth_saidSet (p0 : Nat) (p1 : Nat) (M : kx_M) : Option (Int32 × kx_M) :=
  f_Cloth_saidSet_l4 p0 p1 FU (0 : Int32) (0 : Int32) M
set_option maxHeartbeats 1000000 in
def f_KT_many_l16 (p1 : Int32) (s0 : Nat) (s1 : Int32) (M : kx_M) : Option (Int32 × kx_M) :=
  cal (f_KT_refused s1 M) fun r1 M1 =>
  if r1 = 0 then (
    gd (isState (mR M1 0 9)) <|
    bd (mR M1 0 9) fun s4 =>
    bd (s4 + 9) fun v5 =>
    if p1 = (0 : Int32) then (
      some ((mI M1 v5 5), M1))
    else (
    if p1 = (1 : Int32) then (
      some ((mI M1 v5 6), M1))
    else (
    if p1 = (2 : Int32) then (
      gd (isState (mR M1 0 9)) <|
      bd (mR M1 0 9) fun s7 =>
      some ((mI M1 (s7 + 1) 7), M1))
    else (
    if p1 = (3 : Int32) then (
      gd (isState (mR M1 0 9)) <|
      bd (mR M1 0 9) fun s9 =>
      some ((mI M1 (s9 + 1) 8), M1))
    else (
    if p1 = (4 : Int32) then (
      some ((mI M1 v5 7), M1))
    else (
    if p1 = (5 : Int32) then (
      some ((mI M1 v5 8), M1))
    else (
    if p1 = (6 : Int32) then (
      cal (f_Cloth_sum v5 (v5 + 4) M1) fun r10 M2 =>
      some (r10, M2))
    else (
    if p1 = (7 : Int32) then (
      cal (f_Cloth_sum v5 (v5 + 5) M1) fun r12 M3 =>
      some (r12, M3))
    else (
    if p1 = (8 : Int32) then (
      cal (f_Cloth_wornInAll v5 M1) fun r14 M4 =>
      some (r14, M4))
    else (
      gd (isState (mR M1 0 9)) <|
      bd (mR M1 0 9) fun s17 =>
      cal (f_Cloth_saidSet v5 (s17 + 1) M1) fun r18 M5 =>
      some (r18, M5)))))))))))
  else (
    some (((-1) : Int32), M1))
set_option maxHeartbeats 1000000 in
def f_KT_many (p1 : Int32) (M : kx_M) : Option (Int32 × kx_M) :=
  if p1 < 0 then (
    f_KT_many_l16 p1 0 (5 : Int32) M)
  else (
    if p1 ≤ (9 : Int32) then (
      f_KT_many_l16 p1 0 (0 : Int32) M)
    else (
      f_KT_many_l16 p1 0 (5 : Int32) M))
set_option maxHeartbeats 1000000 in
def f_KT_noRow (p1 : Int32) (M : kx_M) : Option (Int32 × kx_M) :=
  if p1 < 0 then (
    some ((1 : Int32), M))
  else (
    gd (isState (mR M 0 9)) <|
    bd (mR M 0 9) fun s2 =>
    if p1 < (mI M (s2 + 9) 7) then (
      some ((0 : Int32), M))
    else (
      some ((1 : Int32), M)))
set_option maxHeartbeats 1000000 in
def f_KT_noColumn (p1 : Int32) (M : kx_M) : Option (Int32 × kx_M) :=
  if p1 < 0 then (
    some ((1 : Int32), M))
  else (
    gd (isState (mR M 0 9)) <|
    bd (mR M 0 9) fun s2 =>
    if p1 < (mI M (s2 + 9) 5) then (
      some ((0 : Int32), M))
    else (
      some ((1 : Int32), M)))
set_option maxHeartbeats 1000000 in
def f_KT_stitch_l37 (p1 : Int32) (p2 : Int32) (p3 : Int32) (x4 : Int32) (M : kx_M) : Option (Int32 × kx_M) :=
  cal (f_KT_refused x4 M) fun r1 M1 =>
  if r1 = 0 then (
    gd (isState (mR M1 0 9)) <|
    bd (mR M1 0 9) fun s4 =>
    bd (s4 + 9) fun v5 =>
    cal (f_Cloth_at p1 p2 M1) fun r6 M2 =>
    if p3 = (0 : Int32) then (
      gd (inb r6 96) <|
      some ((mA M2 (v5 + 2) r6.toNatClampNeg), M2))
    else (
    if p3 = (1 : Int32) then (
      gd (inb r6 96) <|
      some ((mA M2 (v5 + 3) r6.toNatClampNeg), M2))
    else (
    if p3 = (2 : Int32) then (
      gd (inb r6 96) <|
      some ((mA M2 (v5 + 4) r6.toNatClampNeg), M2))
    else (
      gd (inb r6 96) <|
      some ((mA M2 (v5 + 5) r6.toNatClampNeg), M2)))))
  else (
    some (((-1) : Int32), M1))
set_option maxHeartbeats 1000000 in
def f_KT_stitch (p1 : Int32) (p2 : Int32) (p3 : Int32) (M : kx_M) : Option (Int32 × kx_M) :=
  cal (f_KT_noRow p1 M) fun r1 M1 =>
  if r1 = 0 then (
    cal (f_KT_noColumn p2 M1) fun r3 M2 =>
    if r3 = 0 then (
      if p3 < 0 then (
        f_KT_stitch_l37 p1 p2 p3 (5 : Int32) M2)
      else (
        if p3 ≤ (3 : Int32) then (
          f_KT_stitch_l37 p1 p2 p3 (0 : Int32) M2)
        else (
          f_KT_stitch_l37 p1 p2 p3 (5 : Int32) M2)))
    else (
      f_KT_stitch_l37 p1 p2 p3 (2 : Int32) M2))
  else (
    f_KT_stitch_l37 p1 p2 p3 (2 : Int32) M1)
set_option maxHeartbeats 1000000 in
def f_KT_queenOf_l14 (p1 : Int32) (s0 : Nat) (s1 : Int32) (M : kx_M) : Option (Int32 × kx_M) :=
  cal (f_KT_refused s1 M) fun r1 M1 =>
  if r1 = 0 then (
    gd (isState (mR M1 0 9)) <|
    bd (mR M1 0 9) fun s4 =>
    gd (inb p1 12) <|
    some ((mA M1 (s4 + 10) p1.toNatClampNeg), M1))
  else (
    some (((-1) : Int32), M1))
set_option maxHeartbeats 1000000 in
def f_KT_queenOf (p1 : Int32) (M : kx_M) : Option (Int32 × kx_M) :=
  cal (f_KT_noRow p1 M) fun r1 M1 =>
  if r1 = 0 then (
    f_KT_queenOf_l14 p1 0 (0 : Int32) M1)
  else (
    f_KT_queenOf_l14 p1 0 (2 : Int32) M1)
set_option maxHeartbeats 1000000 in
def f_KT_noQueen (p1 : Int32) (M : kx_M) : Option (Int32 × kx_M) :=
  if p1 < 0 then (
    some ((1 : Int32), M))
  else (
    gd (isState (mR M 0 9)) <|
    bd (mR M 0 9) fun s2 =>
    if p1 < (mI M (s2 + 1) 7) then (
      some ((0 : Int32), M))
    else (
      some ((1 : Int32), M)))
set_option maxHeartbeats 1000000 in
def f_KT_wool_l14 (p1 : Int32) (s0 : Nat) (s1 : Int32) (M : kx_M) : Option (Int32 × kx_M) :=
  cal (f_KT_refused s1 M) fun r1 M1 =>
  if r1 = 0 then (
    gd (isState (mR M1 0 9)) <|
    bd (mR M1 0 9) fun s4 =>
    gd (inb p1 4) <|
    some ((mA M1 (s4 + 2) p1.toNatClampNeg), M1))
  else (
    some (((-1) : Int32), M1))
set_option maxHeartbeats 1000000 in
def f_KT_wool (p1 : Int32) (M : kx_M) : Option (Int32 × kx_M) :=
  cal (f_KT_noQueen p1 M) fun r1 M1 =>
  if r1 = 0 then (
    f_KT_wool_l14 p1 0 (0 : Int32) M1)
  else (
    f_KT_wool_l14 p1 0 (2 : Int32) M1)
set_option maxHeartbeats 1000000 in
def f_KT_noClause (p1 : Int32) (M : kx_M) : Option (Int32 × kx_M) :=
  if p1 < 0 then (
    some ((1 : Int32), M))
  else (
    gd (isState (mR M 0 9)) <|
    bd (mR M 0 9) fun s2 =>
    if p1 < (mI M (s2 + 1) 8) then (
      some ((0 : Int32), M))
    else (
      some ((1 : Int32), M)))
set_option maxHeartbeats 1000000 in
def f_KT_length_l14 (p1 : Int32) (s0 : Nat) (s1 : Int32) (M : kx_M) : Option (Int32 × kx_M) :=
  cal (f_KT_refused s1 M) fun r1 M1 =>
  if r1 = 0 then (
    gd (isState (mR M1 0 9)) <|
    bd (mR M1 0 9) fun s4 =>
    gd (inb p1 6) <|
    some ((mA M1 (s4 + 5) p1.toNatClampNeg), M1))
  else (
    some (((-1) : Int32), M1))
set_option maxHeartbeats 1000000 in
def f_KT_length (p1 : Int32) (M : kx_M) : Option (Int32 × kx_M) :=
  cal (f_KT_noClause p1 M) fun r1 M1 =>
  if r1 = 0 then (
    f_KT_length_l14 p1 0 (0 : Int32) M1)
  else (
    f_KT_length_l14 p1 0 (2 : Int32) M1)
set_option maxHeartbeats 1000000 in
def f_KT_kind_l38 (p1 : Int32) (p2 : Int32) (x3 : Int32) (M : kx_M) : Option (Int32 × kx_M) :=
  cal (f_KT_refused x3 M) fun r1 M1 =>
  if r1 = 0 then (
    gd (isState (mR M1 0 9)) <|
    bd (mR M1 0 9) fun s4 =>
    gd (inb ((p1 * (5 : Int32)) + p2) 30) <|
    some ((mA M1 (s4 + 6) ((p1 * (5 : Int32)) + p2).toNatClampNeg), M1))
  else (
    some (((-1) : Int32), M1))
set_option maxHeartbeats 1000000 in
def f_KT_kind (p1 : Int32) (p2 : Int32) (M : kx_M) : Option (Int32 × kx_M) :=
  cal (f_KT_noClause p1 M) fun r1 M1 =>
  if r1 = 0 then (
    if p2 < 0 then (
      f_KT_kind_l38 p1 p2 (8 : Int32) M1)
    else (
      gd (isState (mR M1 0 9)) <|
      bd (mR M1 0 9) fun s4 =>
      gd (inb p1 6) <|
      if p2 < (mA M1 (s4 + 5) p1.toNatClampNeg) then (
        f_KT_kind_l38 p1 p2 (0 : Int32) M1)
      else (
        f_KT_kind_l38 p1 p2 (8 : Int32) M1)))
  else (
    f_KT_kind_l38 p1 p2 (2 : Int32) M1)
set_option maxHeartbeats 1000000 in
def f_KT_coupleStatus (p1 : Int32) (p2 : Int32) (M : kx_M) : Option (Int32 × kx_M) :=
  cal (f_KT_noClause p1 M) fun r1 M1 =>
  if r1 = 0 then (
    cal (f_KT_noClause p2 M1) fun r3 M2 =>
    if r3 = 0 then (
      if p1 = p2 then (
        some ((9 : Int32), M2))
      else (
        some ((0 : Int32), M2)))
    else (
      some ((2 : Int32), M2)))
  else (
    some ((2 : Int32), M1))
set_option maxHeartbeats 1000000 in
def f_KT_clash (p1 : Int32) (p2 : Int32) (M : kx_M) : Option (Int32 × kx_M) :=
  cal (f_KT_coupleStatus p1 p2 M) fun r1 M1 =>
  cal (f_KT_refused r1 M1) fun r3 M2 =>
  if r3 = 0 then (
    gd (isState (mR M2 0 9)) <|
    bd (mR M2 0 9) fun s6 =>
    gd (inb ((p1 * (6 : Int32)) + p2) 36) <|
    some ((mA M2 (s6 + 7) ((p1 * (6 : Int32)) + p2).toNatClampNeg), M2))
  else (
    some (((-1) : Int32), M2))
set_option maxHeartbeats 1000000 in
def f_KT_worthStatus (p1 : Int32) (p2 : Int32) (p3 : Int32) (M : kx_M) : Option (Int32 × kx_M) :=
  cal (f_KT_noQueen p1 M) fun r1 M1 =>
  if r1 = 0 then (
    cal (f_KT_noClause p2 M1) fun r3 M2 =>
    if r3 = 0 then (
      if p3 < 0 then (
        some ((5 : Int32), M2))
      else (
        if p3 ≤ (1 : Int32) then (
          some ((0 : Int32), M2))
        else (
          some ((5 : Int32), M2))))
    else (
      some ((2 : Int32), M2)))
  else (
    some ((2 : Int32), M1))
set_option maxHeartbeats 1000000 in
def f_KT_worth (p1 : Int32) (p2 : Int32) (p3 : Int32) (M : kx_M) : Option (Int32 × kx_M) :=
  cal (f_KT_worthStatus p1 p2 p3 M) fun r1 M1 =>
  cal (f_KT_refused r1 M1) fun r3 M2 =>
  if r3 = 0 then (
    gd (isState (mR M2 0 9)) <|
    bd (mR M2 0 9) fun s6 =>
    cal (f_Deal_worthAt p1 p2 p3 M2) fun r7 M3 =>
    gd (inb r7 48) <|
    some ((mA M3 (s6 + 8) r7.toNatClampNeg), M3))
  else (
    some (((-1) : Int32), M2))
set_option maxHeartbeats 1000000 in
def f_KT_runStatus (p1 : Int32) (M : kx_M) : Option (Int32 × kx_M) :=
  gd (inb p1 4) <|
  if (mI M (2 * p1.toNatClampNeg + 67) 1) = 0 then (
    gd (inb p1 4) <|
    gd (isState (mR M 0 9)) <|
    bd (mR M 0 9) fun s4 =>
    cal (f_Tray_lacks (2 * p1.toNatClampNeg + 67) (0 : Int32) (mI M (s4 + 9) 5) M) fun r5 M1 =>
    if r5 = 0 then (
      some ((0 : Int32), M1))
    else (
      some ((4 : Int32), M1)))
  else (
    some ((3 : Int32), M))
set_option maxHeartbeats 1000000 in
def f_KT_copyRow_l55 (p1 : Int32) (p2 : Int32) : Nat → Nat → Int32 → kx_M → Option (Int32 × kx_M)
  | 0, _, _, _ => none
  | n + 1, x4, x5, M =>
    if (mI M x4 5) ≤ x5 then (
      some ((mI M x4 5), M))
    else (
      cal (f_Cloth_at p1 x5 M) fun r1 M1 =>
      gd (inb p2 4) <|
      gd (inb r1 96) <|
      if (mA M1 (x4 + 4) r1.toNatClampNeg) = (1 : Int32) then (
        cal (f_Tray_put (2 * p2.toNatClampNeg + 67) x5 ((-1) : Int64) M1) fun _ M2 =>
        bd (x5 + Int32.ofInt 1) fun v7 =>
        f_KT_copyRow_l55 p1 p2 n x4 v7 M2)
      else (
        gd (inb r1 96) <|
        cal (f_Tray_put (2 * p2.toNatClampNeg + 67) x5 ((mA M1 (x4 + 2) r1.toNatClampNeg).toInt64) M1) fun _ M3 =>
        bd (x5 + Int32.ofInt 1) fun v11 =>
        f_KT_copyRow_l55 p1 p2 n x4 v11 M3))
set_option maxHeartbeats 1000000 in
def f_KT_copyRow_l33 (p1 : Int32) (p2 : Int32) (x3 : Int32) (M : kx_M) : Option (Int32 × kx_M) :=
  cal (f_KT_refused x3 M) fun r1 M1 =>
  if r1 = 0 then (
    gd (isState (mR M1 0 9)) <|
    bd (mR M1 0 9) fun s4 =>
    bd (s4 + 9) fun v5 =>
    f_KT_copyRow_l55 p1 p2 FU v5 (0 : Int32) M1)
  else (
    some (((-1) : Int32), M1))
set_option maxHeartbeats 1000000 in
def f_KT_copyRow (p1 : Int32) (p2 : Int32) (M : kx_M) : Option (Int32 × kx_M) :=
  cal (f_KT_noTray p2 M) fun r1 M1 =>
  if r1 = 0 then (
    cal (f_KT_noRow p1 M1) fun r3 M2 =>
    if r3 = 0 then (
      cal (f_KT_runStatus p2 M2) fun r5 M3 =>
      f_KT_copyRow_l33 p1 p2 r5 M3)
    else (
      f_KT_copyRow_l33 p1 p2 (2 : Int32) M2))
  else (
    f_KT_copyRow_l33 p1 p2 (1 : Int32) M1)
set_option maxHeartbeats 1000000 in
def f_Cloth_loose (p0 : Nat) (p1 : Int32) (M : kx_M) : Option (Int32 × kx_M) :=
  gd (inb p1 96) <|
  if (mA M (p0 + 4) p1.toNatClampNeg) = 0 then (
    gd (inb p1 96) <|
    if (mA M (p0 + 5) p1.toNatClampNeg) = 0 then (
      some ((1 : Int32), M))
    else (
      some ((0 : Int32), M)))
  else (
    some ((0 : Int32), M))
set_option maxHeartbeats 1000000 in
def f_Cloth_anyLoose_l12 (p0 : Nat) (k2 : Int32 → kx_M → Option (Int32 × kx_M)) : Nat → Int32 → Int32 → kx_M → Option (Int32 × kx_M)
  | 0, _, _, _ => none
  | n + 1, x1, x2, M =>
    if (mI M p0 5) ≤ x2 then (
      bd (x1 + Int32.ofInt 1) fun v1 =>
      k2 v1 M)
    else (
      cal (f_Cloth_at x1 x2 M) fun r2 M1 =>
      cal (f_Cloth_loose p0 r2 M1) fun r4 M2 =>
      if r4 = 0 then (
        bd (x2 + Int32.ofInt 1) fun v6 =>
        f_Cloth_anyLoose_l12 p0 k2 n x1 v6 M2)
      else (
        some ((1 : Int32), M2)))
set_option maxHeartbeats 1000000 in
def f_Cloth_anyLoose_l2 (p0 : Nat) : Nat → Int32 → kx_M → Option (Int32 × kx_M)
  | 0, _, _ => none
  | n + 1, x1, M =>
    if (mI M p0 7) ≤ x1 then (
      some ((0 : Int32), M))
    else (
      f_Cloth_anyLoose_l12 p0 (f_Cloth_anyLoose_l2 p0 n) FU x1 (0 : Int32) M)
set_option maxHeartbeats 1000000 in
def f_Cloth_anyLoose (p0 : Nat) (M : kx_M) : Option (Int32 × kx_M) :=
  f_Cloth_anyLoose_l2 p0 FU (0 : Int32) M
set_option maxHeartbeats 1000000 in
def f_Cloth_gapAt (p0 : Nat) (p1 : Int32) (p2 : Int32) (M : kx_M) : Option (Int32 × kx_M) :=
  if p2 < 0 then (
    some ((0 : Int32), M))
  else (
    if p2 < (mI M p0 5) then (
      bd ((p1 * (8 : Int32)) + p2) fun v1 =>
      gd (inb v1 96) <|
      if (mA M (p0 + 2) v1.toNatClampNeg) = (3 : Int32) then (
        some ((1 : Int32), M))
      else (
        gd (inb v1 96) <|
        if (mA M (p0 + 4) v1.toNatClampNeg) = (1 : Int32) then (
          some ((1 : Int32), M))
        else (
          some ((0 : Int32), M))))
    else (
      some ((0 : Int32), M)))
set_option maxHeartbeats 1000000 in
def f_Cloth_wearRow_l2 (p0 : Nat) (p1 : Int32) : Nat → Int32 → kx_M → Option (Unit × kx_M)
  | 0, _, _ => none
  | n + 1, x2, M =>
    if (mI M p0 5) ≤ x2 then (
      some ((), M))
    else (
      cal (f_Cloth_at p1 x2 M) fun r1 M1 =>
      cal (f_Cloth_loose p0 r1 M1) fun r3 M2 =>
      if r3 = 0 then (
        bd (x2 + Int32.ofInt 1) fun v5 =>
        f_Cloth_wearRow_l2 p0 p1 n v5 M2)
      else (
        cal (f_Cloth_gapAt p0 p1 (x2 - (1 : Int32)) M2) fun r6 M3 =>
        cal (f_Cloth_gapAt p0 p1 (x2 + (1 : Int32)) M3) fun r8 M4 =>
        bd (((1 : Int32) + r6) + r8) fun v10 =>
        gd (inb r1 96) <|
        gd (inb r1 96) <|
        bd (sA M4 (p0 + 3) (upd (mA M4 (p0 + 3)) r1.toNatClampNeg (if ((mA M4 (p0 + 3) r1.toNatClampNeg) + v10) < (99 : Int32) then ((mA M4 (p0 + 3) r1.toNatClampNeg) + v10) else (99 : Int32)))) fun M5 =>
        bd (x2 + Int32.ofInt 1) fun v13 =>
        f_Cloth_wearRow_l2 p0 p1 n v13 M5))
set_option maxHeartbeats 1000000 in
def f_Cloth_wearRow (p0 : Nat) (p1 : Int32) (M : kx_M) : Option (Unit × kx_M) :=
  f_Cloth_wearRow_l2 p0 p1 FU (0 : Int32) M
set_option maxHeartbeats 1000000 in
def f_Cloth_openRow_l4 (p0 : Nat) (p1 : Int32) : Nat → Int32 → Int32 → kx_M → Option (Int32 × kx_M)
  | 0, _, _, _ => none
  | n + 1, x2, x3, M =>
    if (mI M p0 5) ≤ x3 then (
      some (x2, M))
    else (
      cal (f_Cloth_at p1 x3 M) fun r1 M1 =>
      cal (f_Cloth_loose p0 r1 M1) fun r3 M2 =>
      if r3 = 0 then (
        bd (x3 + Int32.ofInt 1) fun v5 =>
        f_Cloth_openRow_l4 p0 p1 n x2 v5 M2)
      else (
        gd (inb r1 96) <|
        if (mA M2 (p0 + 3) r1.toNatClampNeg) < (mI M2 p0 6) then (
          bd (x3 + Int32.ofInt 1) fun v7 =>
          f_Cloth_openRow_l4 p0 p1 n x2 v7 M2)
        else (
          gd (inb r1 96) <|
          bd (sA M2 (p0 + 4) (upd (mA M2 (p0 + 4)) r1.toNatClampNeg (1 : Int32))) fun M3 =>
          bd (x2 + Int32.ofInt 1) fun v9 =>
          bd (x3 + Int32.ofInt 1) fun v10 =>
          f_Cloth_openRow_l4 p0 p1 n v9 v10 M3)))
set_option maxHeartbeats 1000000 in
def f_Cloth_openRow (p0 : Nat) (p1 : Int32) (M : kx_M) : Option (Int32 × kx_M) :=
  f_Cloth_openRow_l4 p0 p1 FU (0 : Int32) (0 : Int32) M
set_option maxHeartbeats 1000000 in
def f_Cloth_withLadders_l21 (p0 : Nat) (p1 : Int32) (k10 : Int32 → Int32 → kx_M → Option (Int32 × kx_M)) : Nat → Int32 → Int32 → Int32 → kx_M → Option (Int32 × kx_M)
  | 0, _, _, _, _ => none
  | n + 1, x2, x3, x4, M =>
    if (mI M p0 5) ≤ x4 then (
      bd (x3 + Int32.ofInt 1) fun v1 =>
      k10 x2 v1 M)
    else (
      cal (f_Cloth_at x3 x4 M) fun r2 M1 =>
      gd (inb r2 96) <|
      if (mA M1 (p0 + 2) r2.toNatClampNeg) = 0 then (
        cal (f_Cloth_loose p0 r2 M1) fun r5 M2 =>
        if r5 = 0 then (
          bd (x4 + Int32.ofInt 1) fun v7 =>
          f_Cloth_withLadders_l21 p0 p1 k10 n x2 x3 v7 M2)
        else (
          gd (inb (r2 - (8 : Int32)) 96) <|
          if (mA M2 (p0 + 4) (r2 - (8 : Int32)).toNatClampNeg) = (1 : Int32) then (
            gd (inb r2 96) <|
            bd (sA M2 (p0 + 4) (upd (mA M2 (p0 + 4)) r2.toNatClampNeg (1 : Int32))) fun M3 =>
            bd (x2 + Int32.ofInt 1) fun v10 =>
            bd (x4 + Int32.ofInt 1) fun v11 =>
            f_Cloth_withLadders_l21 p0 p1 k10 n v10 x3 v11 M3)
          else (
            bd (x4 + Int32.ofInt 1) fun v12 =>
            f_Cloth_withLadders_l21 p0 p1 k10 n x2 x3 v12 M2)))
      else (
        bd (x4 + Int32.ofInt 1) fun v13 =>
        f_Cloth_withLadders_l21 p0 p1 k10 n x2 x3 v13 M1))
set_option maxHeartbeats 1000000 in
def f_Cloth_withLadders_l10 (p0 : Nat) (p1 : Int32) : Nat → Int32 → Int32 → kx_M → Option (Int32 × kx_M)
  | 0, _, _, _ => none
  | n + 1, x2, x3, M =>
    if (mI M p0 7) ≤ x3 then (
      some (x2, M))
    else (
      f_Cloth_withLadders_l21 p0 p1 (f_Cloth_withLadders_l10 p0 p1 n) FU x2 x3 (0 : Int32) M)
set_option maxHeartbeats 1000000 in
def f_Cloth_withLadders (p0 : Nat) (p1 : Int32) (M : kx_M) : Option (Int32 × kx_M) :=
  if p1 = 0 then (
    some ((0 : Int32), M))
  else (
    f_Cloth_withLadders_l10 p0 p1 FU p1 (1 : Int32) M)
set_option maxHeartbeats 1000000 in
def f_Cloth_passYear_l4 (p0 : Nat) : Nat → Int32 → Int32 → kx_M → Option (Int32 × kx_M)
  | 0, _, _, _ => none
  | n + 1, x1, x2, M =>
    if (mI M p0 7) ≤ x2 then (
      cal (f_Cloth_withLadders p0 x1 M) fun r1 M1 =>
      some (r1, M1))
    else (
      cal (f_Cloth_wearRow p0 x2 M) fun _ M2 =>
      cal (f_Cloth_openRow p0 x2 M2) fun r5 M3 =>
      bd (x1 + r5) fun v7 =>
      bd (x2 + Int32.ofInt 1) fun v8 =>
      f_Cloth_passYear_l4 p0 n v7 v8 M3)
set_option maxHeartbeats 1000000 in
def f_Cloth_passYear (p0 : Nat) (M : kx_M) : Option (Int32 × kx_M) :=
  f_Cloth_passYear_l4 p0 FU (0 : Int32) (0 : Int32) M
set_option maxHeartbeats 1000000 in
def f_Cloth_passYears_l4 (p0 : Nat) (p1 : Int32) : Nat → Int32 → Int32 → kx_M → Option (Int32 × kx_M)
  | 0, _, _, _ => none
  | n + 1, x2, x3, M =>
    if p1 ≤ x3 then (
      bd (sI M p0 8 ((mI M p0 8) + p1)) fun M1 =>
      some (x2, M1))
    else (
      cal (f_Cloth_anyLoose p0 M) fun r1 M2 =>
      if r1 = 0 then (
        bd (sI M2 p0 8 ((mI M2 p0 8) + p1)) fun M3 =>
        some (x2, M3))
      else (
        cal (f_Cloth_passYear p0 M2) fun r3 M4 =>
        bd (x2 + r3) fun v5 =>
        bd (x3 + Int32.ofInt 1) fun v6 =>
        f_Cloth_passYears_l4 p0 p1 n v5 v6 M4))
set_option maxHeartbeats 1000000 in
def f_Cloth_passYears (p0 : Nat) (p1 : Int32) (M : kx_M) : Option (Int32 × kx_M) :=
  f_Cloth_passYears_l4 p0 p1 FU (0 : Int32) (0 : Int32) M
set_option maxHeartbeats 1000000 in
def f_KT_year_l39 (p1 : Int32) (x2 : Int32) (M : kx_M) : Option (Int32 × kx_M) :=
  cal (f_KT_refused x2 M) fun r1 M1 =>
  if r1 = 0 then (
    gd (isState (mR M1 0 9)) <|
    bd (mR M1 0 9) fun s4 =>
    cal (f_Cloth_passYears (s4 + 9) p1 M1) fun r5 M2 =>
    some (r5, M2))
  else (
    some (((-1) : Int32), M1))
set_option maxHeartbeats 1000000 in
def f_KT_year (p1 : Int32) (M : kx_M) : Option (Int32 × kx_M) :=
  if p1 < (1 : Int32) then (
    f_KT_year_l39 p1 (5 : Int32) M)
  else (
    if p1 ≤ (99 : Int32) then (
      gd (isState (mR M 0 9)) <|
      bd (mR M 0 9) fun s2 =>
      if ((mI M (s2 + 9) 8) + p1) ≤ (9999 : Int32) then (
        f_KT_year_l39 p1 (0 : Int32) M)
      else (
        f_KT_year_l39 p1 (7 : Int32) M))
    else (
      f_KT_year_l39 p1 (5 : Int32) M))
set_option maxHeartbeats 1000000 in
def f_KT_pullStatus (p1 : Int32) (p2 : Int32) (M : kx_M) : Option (Int32 × kx_M) :=
  cal (f_KT_noRow p1 M) fun r1 M1 =>
  if r1 = 0 then (
    if p2 < 0 then (
      some ((5 : Int32), M1))
    else (
      if p2 ≤ (1 : Int32) then (
        some ((0 : Int32), M1))
      else (
        some ((5 : Int32), M1))))
  else (
    some ((2 : Int32), M1))
set_option maxHeartbeats 1000000 in
def f_Cloth_pullThread_l33 (p0 : Nat) (p1 : Int32) (p2 : Int32) (k5 : Int32 → Int32 → kx_M → Option (Int32 × kx_M)) (x3 : Int32) (x4 : Int32) (s0 : Int32) (s1 : Int32) (M : kx_M) : Option (Int32 × kx_M) :=
  cal (f_Cloth_at s0 s1 M) fun r1 M1 =>
  gd (inb r1 96) <|
  if (mA M1 (p0 + 4) r1.toNatClampNeg) = 0 then (
    gd (inb r1 96) <|
    if (mA M1 (p0 + 5) r1.toNatClampNeg) = (1 : Int32) then (
      cal (f_Cloth_withLadders p0 x3 M1) fun r5 M2 =>
      some (r5, M2))
    else (
      gd (inb r1 96) <|
      if (mA M1 (p0 + 2) r1.toNatClampNeg) = (2 : Int32) then (
        cal (f_Cloth_withLadders p0 x3 M1) fun r8 M3 =>
        some (r8, M3))
      else (
        gd (inb r1 96) <|
        bd (sA M1 (p0 + 4) (upd (mA M1 (p0 + 4)) r1.toNatClampNeg (1 : Int32))) fun M4 =>
        bd (x3 + Int32.ofInt 1) fun v11 =>
        bd (x4 + Int32.ofInt 1) fun v12 =>
        k5 v11 v12 M4)))
  else (
    bd (x4 + Int32.ofInt 1) fun v13 =>
    k5 x3 v13 M1)
set_option maxHeartbeats 1000000 in
def f_Cloth_pullThread_l5 (p0 : Nat) (p1 : Int32) (p2 : Int32) : Nat → Int32 → Int32 → kx_M → Option (Int32 × kx_M)
  | 0, _, _, _ => none
  | n + 1, x3, x4, M =>
    if (mI M p0 5) ≤ x4 then (
      cal (f_Cloth_withLadders p0 x3 M) fun r1 M1 =>
      some (r1, M1))
    else (
      if p2 = 0 then (
        f_Cloth_pullThread_l33 p0 p1 p2 (f_Cloth_pullThread_l5 p0 p1 p2 n) x3 x4 p1 x4 M)
      else (
        f_Cloth_pullThread_l33 p0 p1 p2 (f_Cloth_pullThread_l5 p0 p1 p2 n) x3 x4 p1 (((mI M p0 5) - (1 : Int32)) - x4) M))
set_option maxHeartbeats 1000000 in
def f_Cloth_pullThread (p0 : Nat) (p1 : Int32) (p2 : Int32) (M : kx_M) : Option (Int32 × kx_M) :=
  f_Cloth_pullThread_l5 p0 p1 p2 FU (0 : Int32) (0 : Int32) M
set_option maxHeartbeats 1000000 in
def f_KT_pull (p1 : Int32) (p2 : Int32) (M : kx_M) : Option (Int32 × kx_M) :=
  cal (f_KT_pullStatus p1 p2 M) fun r1 M1 =>
  cal (f_KT_refused r1 M1) fun r3 M2 =>
  if r3 = 0 then (
    gd (isState (mR M2 0 9)) <|
    bd (mR M2 0 9) fun s6 =>
    cal (f_Cloth_pullThread (s6 + 9) p1 p2 M2) fun r7 M3 =>
    some (r7, M3))
  else (
    some (((-1) : Int32), M2))
set_option maxHeartbeats 1000000 in
def f_Cloth_eat (p0 : Nat) (p1 : Int32) (p2 : Int32) (M : kx_M) : Option (Int32 × kx_M) :=
  cal (f_Cloth_at p1 p2 M) fun r1 M1 =>
  cal (f_Cloth_loose p0 r1 M1) fun r3 M2 =>
  if r3 = 0 then (
    some ((0 : Int32), M2))
  else (
    gd (inb r1 96) <|
    bd (sA M2 (p0 + 4) (upd (mA M2 (p0 + 4)) r1.toNatClampNeg (1 : Int32))) fun M3 =>
    cal (f_Cloth_withLadders p0 (1 : Int32) M3) fun r6 M4 =>
    some (r6, M4))
set_option maxHeartbeats 1000000 in
def f_KT_moth_l44 (p1 : Int32) (p2 : Int32) (x3 : Int32) (M : kx_M) : Option (Int32 × kx_M) :=
  cal (f_KT_refused x3 M) fun r1 M1 =>
  if r1 = 0 then (
    gd (isState (mR M1 0 9)) <|
    bd (mR M1 0 9) fun s4 =>
    cal (f_Cloth_eat (s4 + 9) p1 p2 M1) fun r5 M2 =>
    some (r5, M2))
  else (
    some (((-1) : Int32), M1))
set_option maxHeartbeats 1000000 in
def f_KT_moth (p1 : Int32) (p2 : Int32) (M : kx_M) : Option (Int32 × kx_M) :=
  cal (f_KT_noRow p1 M) fun r1 M1 =>
  if r1 = 0 then (
    cal (f_KT_noColumn p2 M1) fun r3 M2 =>
    if r3 = 0 then (
      gd (isState (mR M2 0 9)) <|
      bd (mR M2 0 9) fun s6 =>
      cal (f_Cloth_at p1 p2 M2) fun r7 M3 =>
      cal (f_Cloth_loose (s6 + 9) r7 M3) fun r9 M4 =>
      if r9 = 0 then (
        f_KT_moth_l44 p1 p2 (9 : Int32) M4)
      else (
        f_KT_moth_l44 p1 p2 (0 : Int32) M4))
    else (
      f_KT_moth_l44 p1 p2 (2 : Int32) M2))
  else (
    f_KT_moth_l44 p1 p2 (2 : Int32) M1)
set_option maxHeartbeats 1000000 in
def f_Cloth_patch (p0 : Nat) (p1 : Int32) (p2 : Int32) (M : kx_M) : Option (Int32 × kx_M) :=
  cal (f_Cloth_at p1 p2 M) fun r1 M1 =>
  gd (inb r1 96) <|
  bd (mA M1 (p0 + 3) r1.toNatClampNeg) fun v4 =>
  gd (inb r1 96) <|
  bd (sA M1 (p0 + 3) (upd (mA M1 (p0 + 3)) r1.toNatClampNeg (0 : Int32))) fun M2 =>
  gd (inb r1 96) <|
  bd (sA M2 (p0 + 4) (upd (mA M2 (p0 + 4)) r1.toNatClampNeg (0 : Int32))) fun M3 =>
  gd (inb r1 96) <|
  bd (sA M3 (p0 + 5) (upd (mA M3 (p0 + 5)) r1.toNatClampNeg (1 : Int32))) fun M4 =>
  some (v4, M4)
set_option maxHeartbeats 1000000 in
def f_KT_darn_l22 (p1 : Int32) (p2 : Int32) (s0 : Nat) (s1 : Int32) (M : kx_M) : Option (Int32 × kx_M) :=
  cal (f_KT_refused s1 M) fun r1 M1 =>
  if r1 = 0 then (
    gd (isState (mR M1 0 9)) <|
    bd (mR M1 0 9) fun s4 =>
    cal (f_Cloth_patch (s4 + 9) p1 p2 M1) fun r5 M2 =>
    some (r5, M2))
  else (
    some (((-1) : Int32), M1))
set_option maxHeartbeats 1000000 in
def f_KT_darn (p1 : Int32) (p2 : Int32) (M : kx_M) : Option (Int32 × kx_M) :=
  cal (f_KT_noRow p1 M) fun r1 M1 =>
  if r1 = 0 then (
    cal (f_KT_noColumn p2 M1) fun r3 M2 =>
    if r3 = 0 then (
      f_KT_darn_l22 p1 p2 0 (0 : Int32) M2)
    else (
      f_KT_darn_l22 p1 p2 0 (2 : Int32) M2))
  else (
    f_KT_darn_l22 p1 p2 0 (2 : Int32) M1)
set_option maxHeartbeats 1000000 in
def f_Tray_within_l3 (p0 : Nat) (p1 : Int32) (p2 : Int64) (p4 : Int64) : Nat → Int32 → kx_M → Option (Int32 × kx_M)
  | 0, _, _ => none
  | n + 1, x6, M =>
    if p1 ≤ x6 then (
      some ((1 : Int32), M))
    else (
      gd (inb x6 60) <|
      if (lg_cmp (mB M (p0 + 1) x6.toNatClampNeg) p2) < 0 then (
        some ((0 : Int32), M))
      else (
        gd (inb x6 60) <|
        if (lg_cmp (mB M (p0 + 1) x6.toNatClampNeg) p4) ≤ 0 then (
          bd (x6 + Int32.ofInt 1) fun v3 =>
          f_Tray_within_l3 p0 p1 p2 p4 n v3 M)
        else (
          some ((0 : Int32), M))))
set_option maxHeartbeats 1000000 in
def f_Tray_within (p0 : Nat) (p1 : Int32) (p2 : Int64) (p4 : Int64) (M : kx_M) : Option (Int32 × kx_M) :=
  f_Tray_within_l3 p0 p1 p2 p4 FU (0 : Int32) M
set_option maxHeartbeats 1000000 in
def f_KT_kindsStatus (p1 : Int32) (p2 : Int32) (M : kx_M) : Option (Int32 × kx_M) :=
  cal (f_KT_runStatus p1 M) fun r1 M1 =>
  if r1 = 0 then (
    gd (inb p1 4) <|
    gd (isState (mR M1 0 9)) <|
    bd (mR M1 0 9) fun s5 =>
    cal (f_Tray_within (2 * p1.toNatClampNeg + 67) (mI M1 (s5 + 9) 5) (p2.toInt64) (3 : Int64) M1) fun r6 M2 =>
    if r6 = 0 then (
      some ((5 : Int32), M2))
    else (
      some ((0 : Int32), M2)))
  else (
    some (r1, M1))
set_option maxHeartbeats 1000000 in
def f_Tray_woolOf_l4 (p0 : Nat) (p1 : Int32) : Nat → Int32 → Int32 → kx_M → Option (Int32 × kx_M)
  | 0, _, _, _ => none
  | n + 1, x2, x3, M =>
    if p1 ≤ x3 then (
      some (x2, M))
    else (
      gd (inb x3 60) <|
      gd (inb (((mB M (p0 + 1) x3.toNatClampNeg).toInt32) &&& (3 : Int32)) 4) <|
      bd (x2 + (([1, 1, 2, 0] : List Int32).getD (((mB M (p0 + 1) x3.toNatClampNeg).toInt32) &&& (3 : Int32)).toNatClampNeg 0)) fun v3 =>
      bd (x3 + Int32.ofInt 1) fun v4 =>
      f_Tray_woolOf_l4 p0 p1 n v3 v4 M)
set_option maxHeartbeats 1000000 in
def f_Tray_woolOf (p0 : Nat) (p1 : Int32) (M : kx_M) : Option (Int32 × kx_M) :=
  f_Tray_woolOf_l4 p0 p1 FU (0 : Int32) (0 : Int32) M
set_option maxHeartbeats 1000000 in
def f_KT_knitStatus (p1 : Int32) (p2 : Int32) (M : kx_M) : Option (Int32 × kx_M) :=
  cal (f_KT_noTray p2 M) fun r1 M1 =>
  if r1 = 0 then (
    cal (f_KT_noQueen p1 M1) fun r3 M2 =>
    if r3 = 0 then (
      cal (f_KT_kindsStatus p2 (0 : Int32) M2) fun r5 M3 =>
      if r5 = 0 then (
        gd (isState (mR M3 0 9)) <|
        bd (mR M3 0 9) fun s8 =>
        if (mI M3 (s8 + 9) 7) < (12 : Int32) then (
          gd (inb p2 4) <|
          gd (isState (mR M3 0 9)) <|
          bd (mR M3 0 9) fun s11 =>
          cal (f_Tray_woolOf (2 * p2.toNatClampNeg + 67) (mI M3 (s11 + 9) 5) M3) fun r12 M4 =>
          gd (isState (mR M4 0 9)) <|
          bd (mR M4 0 9) fun s15 =>
          gd (inb p1 4) <|
          if r12 ≤ (mA M4 (s15 + 2) p1.toNatClampNeg) then (
            some ((0 : Int32), M4))
          else (
            some ((9 : Int32), M4)))
        else (
          some ((7 : Int32), M3)))
      else (
        some (r5, M3)))
    else (
      some ((2 : Int32), M2)))
  else (
    some ((1 : Int32), M1))
set_option maxHeartbeats 1000000 in
def f_KT_knit_l54 (p1 : Int32) (p2 : Int32) : Nat → Nat → Int32 → kx_M → Option (Int32 × kx_M)
  | 0, _, _, _ => none
  | n + 1, x3, x4, M =>
    if (mI M x3 5) ≤ x4 then (
      cal (f_Cloth_closeRow x3 p1 M) fun _ M1 =>
      some ((mI M1 x3 7), M1))
    else (
      gd (inb p2 4) <|
      gd (inb x4 60) <|
      cal (f_Cloth_lay x3 x4 ((mB M (2 * p2.toNatClampNeg + 68) x4.toNatClampNeg).toInt32) M) fun _ M2 =>
      bd (x4 + Int32.ofInt 1) fun v7 =>
      f_KT_knit_l54 p1 p2 n x3 v7 M2)
set_option maxHeartbeats 1000000 in
def f_KT_knit (p1 : Int32) (p2 : Int32) (M : kx_M) : Option (Int32 × kx_M) :=
  cal (f_KT_knitStatus p1 p2 M) fun r1 M1 =>
  cal (f_KT_refused r1 M1) fun r3 M2 =>
  if r3 = 0 then (
    gd (isState (mR M2 0 9)) <|
    bd (mR M2 0 9) fun s6 =>
    bd (s6 + 9) fun v7 =>
    gd (isState (mR M2 0 9)) <|
    bd (mR M2 0 9) fun s9 =>
    gd (inb p1 4) <|
    gd (inb p2 4) <|
    cal (f_Tray_woolOf (2 * p2.toNatClampNeg + 67) (mI M2 v7 5) M2) fun r12 M3 =>
    gd (inb p1 4) <|
    bd (sA M3 (s9 + 2) (upd (mA M3 (s9 + 2)) p1.toNatClampNeg ((mA M2 (s9 + 2) p1.toNatClampNeg) - r12))) fun M4 =>
    f_KT_knit_l54 p1 p2 FU v7 (0 : Int32) M4)
  else (
    some (((-1) : Int32), M2))
set_option maxHeartbeats 1000000 in
def f_Cloth_woolIn_l4 (p0 : Nat) (p1 : Int32) : Nat → Int32 → Int32 → kx_M → Option (Int32 × kx_M)
  | 0, _, _, _ => none
  | n + 1, x2, x3, M =>
    if (mI M p0 5) ≤ x3 then (
      some (x2, M))
    else (
      cal (f_Cloth_at p1 x3 M) fun r1 M1 =>
      gd (inb r1 96) <|
      if (mA M1 (p0 + 4) r1.toNatClampNeg) = 0 then (
        gd (inb r1 96) <|
        gd (inb ((mA M1 (p0 + 2) r1.toNatClampNeg) &&& (3 : Int32)) 4) <|
        bd (x2 + (([1, 1, 2, 0] : List Int32).getD ((mA M1 (p0 + 2) r1.toNatClampNeg) &&& (3 : Int32)).toNatClampNeg 0)) fun v6 =>
        bd (x3 + Int32.ofInt 1) fun v7 =>
        f_Cloth_woolIn_l4 p0 p1 n v6 v7 M1)
      else (
        bd (x3 + Int32.ofInt 1) fun v8 =>
        f_Cloth_woolIn_l4 p0 p1 n x2 v8 M1))
set_option maxHeartbeats 1000000 in
def f_Cloth_woolIn (p0 : Nat) (p1 : Int32) (M : kx_M) : Option (Int32 × kx_M) :=
  f_Cloth_woolIn_l4 p0 p1 FU (0 : Int32) (0 : Int32) M
set_option maxHeartbeats 1000000 in
def f_Deal_giveWool (p0 : Nat) (p1 : Int32) (p2 : Int32) (M : kx_M) : Option (Unit × kx_M) :=
  gd (inb p1 4) <|
  gd (inb p1 4) <|
  bd (sA M (p0 + 1) (upd (mA M (p0 + 1)) p1.toNatClampNeg (if ((mA M (p0 + 1) p1.toNatClampNeg) + p2) < (999 : Int32) then ((mA M (p0 + 1) p1.toNatClampNeg) + p2) else (999 : Int32)))) fun M1 =>
  some ((), M1)
set_option maxHeartbeats 1000000 in
def f_KT_unravel_l22 (x1 : Nat) (s0 : Nat) (s1 : Int32) (M : kx_M) : Option (Int32 × kx_M) :=
  cal (f_KT_refused s1 M) fun r1 M1 =>
  if r1 = 0 then (
    bd ((mI M1 x1 7) - (1 : Int32)) fun v3 =>
    gd (isState (mR M1 0 9)) <|
    bd (mR M1 0 9) fun s5 =>
    gd (inb v3 12) <|
    cal (f_Cloth_woolIn x1 v3 M1) fun r7 M2 =>
    cal (f_Deal_giveWool (s5 + 1) (mA M1 (x1 + 1) v3.toNatClampNeg) r7 M2) fun _ M3 =>
    bd (sI M3 x1 7 v3) fun M4 =>
    some (v3, M4))
  else (
    some (((-1) : Int32), M1))
set_option maxHeartbeats 1000000 in
def f_KT_unravel (M : kx_M) : Option (Int32 × kx_M) :=
  gd (isState (mR M 0 9)) <|
  bd (mR M 0 9) fun s2 =>
  bd (s2 + 9) fun v3 =>
  if (mI M v3 7) = 0 then (
    f_KT_unravel_l22 v3 0 (8 : Int32) M)
  else (
    f_KT_unravel_l22 v3 0 (0 : Int32) M)
set_option maxHeartbeats 1000000 in
def f_KT_shear_l29 (p1 : Int32) (p2 : Int32) (x3 : Int32) (M : kx_M) : Option (Int32 × kx_M) :=
  cal (f_KT_refused x3 M) fun r1 M1 =>
  if r1 = 0 then (
    gd (isState (mR M1 0 9)) <|
    bd (mR M1 0 9) fun s4 =>
    cal (f_Deal_giveWool (s4 + 1) p1 p2 M1) fun _ M2 =>
    gd (isState (mR M2 0 9)) <|
    bd (mR M2 0 9) fun s8 =>
    gd (inb p1 4) <|
    some ((mA M2 (s8 + 2) p1.toNatClampNeg), M2))
  else (
    some (((-1) : Int32), M1))
set_option maxHeartbeats 1000000 in
def f_KT_shear (p1 : Int32) (p2 : Int32) (M : kx_M) : Option (Int32 × kx_M) :=
  cal (f_KT_noQueen p1 M) fun r1 M1 =>
  if r1 = 0 then (
    if p2 < (1 : Int32) then (
      f_KT_shear_l29 p1 p2 (5 : Int32) M1)
    else (
      if p2 ≤ (999 : Int32) then (
        f_KT_shear_l29 p1 p2 (0 : Int32) M1)
      else (
        f_KT_shear_l29 p1 p2 (5 : Int32) M1)))
  else (
    f_KT_shear_l29 p1 p2 (2 : Int32) M1)
set_option maxHeartbeats 1000000 in
def f_KT_rule_l17 (p1 : Int32) (s0 : Nat) (s1 : Int32) (M : kx_M) : Option (Int32 × kx_M) :=
  cal (f_KT_refused s1 M) fun r1 M1 =>
  if r1 = 0 then (
    gd (isState (mR M1 0 9)) <|
    bd (mR M1 0 9) fun s4 =>
    bd (sI M1 (s4 + 9) 6 p1) fun M2 =>
    some ((1 : Int32), M2))
  else (
    some ((0 : Int32), M1))
set_option maxHeartbeats 1000000 in
def f_KT_rule (p1 : Int32) (M : kx_M) : Option (Int32 × kx_M) :=
  if p1 < (1 : Int32) then (
    f_KT_rule_l17 p1 0 (5 : Int32) M)
  else (
    if p1 ≤ (50 : Int32) then (
      f_KT_rule_l17 p1 0 (0 : Int32) M)
    else (
      f_KT_rule_l17 p1 0 (5 : Int32) M))
set_option maxHeartbeats 1000000 in
def f_Deal_atOdds (p0 : Nat) (p1 : Int32) (p2 : Int32) (M : kx_M) : Option (Int32 × kx_M) :=
  gd (inb ((p1 * (6 : Int32)) + p2) 36) <|
  if (mA M (p0 + 6) ((p1 * (6 : Int32)) + p2).toNatClampNeg) = (1 : Int32) then (
    some ((1 : Int32), M))
  else (
    some ((0 : Int32), M))
set_option maxHeartbeats 1000000 in
def f_KT_quarrel_l33 (p1 : Int32) (p2 : Int32) (p3 : Int32) (x4 : Int32) (M : kx_M) : Option (Int32 × kx_M) :=
  cal (f_KT_refused x4 M) fun r1 M1 =>
  if r1 = 0 then (
    gd (isState (mR M1 0 9)) <|
    bd (mR M1 0 9) fun s4 =>
    if p3 = 0 then (
      cal (f_Deal_setOdds (s4 + 1) p1 p2 (0 : Int32) M1) fun _ M2 =>
      some ((1 : Int32), M2))
    else (
      cal (f_Deal_setOdds (s4 + 1) p1 p2 (1 : Int32) M1) fun _ M3 =>
      some ((1 : Int32), M3)))
  else (
    some ((0 : Int32), M1))
set_option maxHeartbeats 1000000 in
def f_KT_quarrel (p1 : Int32) (p2 : Int32) (p3 : Int32) (M : kx_M) : Option (Int32 × kx_M) :=
  cal (f_KT_coupleStatus p1 p2 M) fun r1 M1 =>
  if r1 = 0 then (
    gd (isState (mR M1 0 9)) <|
    bd (mR M1 0 9) fun s4 =>
    cal (f_Deal_atOdds (s4 + 1) p1 p2 M1) fun r5 M2 =>
    if p3 = r5 then (
      f_KT_quarrel_l33 p1 p2 p3 (9 : Int32) M2)
    else (
      f_KT_quarrel_l33 p1 p2 p3 r1 M2))
  else (
    f_KT_quarrel_l33 p1 p2 p3 r1 M1)
set_option maxHeartbeats 1000000 in
def f_KT_value_l29 (p1 : Int32) (p2 : Int32) (p3 : Int32) (p4 : Int32) (x5 : Int32) (M : kx_M) : Option (Int32 × kx_M) :=
  cal (f_KT_refused x5 M) fun r1 M1 =>
  if r1 = 0 then (
    gd (isState (mR M1 0 9)) <|
    bd (mR M1 0 9) fun s4 =>
    cal (f_Deal_worthAt p1 p2 p3 M1) fun r5 M2 =>
    gd (inb r5 48) <|
    bd (sA M2 (s4 + 8) (upd (mA M2 (s4 + 8)) r5.toNatClampNeg p4)) fun M3 =>
    some ((1 : Int32), M3))
  else (
    some ((0 : Int32), M1))
set_option maxHeartbeats 1000000 in
def f_KT_value (p1 : Int32) (p2 : Int32) (p3 : Int32) (p4 : Int32) (M : kx_M) : Option (Int32 × kx_M) :=
  cal (f_KT_worthStatus p1 p2 p3 M) fun r1 M1 =>
  if r1 = 0 then (
    if p4 < 0 then (
      f_KT_value_l29 p1 p2 p3 p4 (5 : Int32) M1)
    else (
      if p4 ≤ (99 : Int32) then (
        f_KT_value_l29 p1 p2 p3 p4 r1 M1)
      else (
        f_KT_value_l29 p1 p2 p3 p4 (5 : Int32) M1)))
  else (
    f_KT_value_l29 p1 p2 p3 p4 r1 M1)
set_option maxHeartbeats 1000000 in
def f_KT_saidIn_l22 (p1 : Int32) (p2 : Int32) (s0 : Nat) (s1 : Int32) (M : kx_M) : Option (Int32 × kx_M) :=
  cal (f_KT_refused s1 M) fun r1 M1 =>
  if r1 = 0 then (
    gd (isState (mR M1 0 9)) <|
    bd (mR M1 0 9) fun s4 =>
    gd (isState (mR M1 0 9)) <|
    bd (mR M1 0 9) fun s6 =>
    cal (f_Cloth_timesIn (s4 + 9) (s6 + 1) p1 p2 M1) fun r7 M2 =>
    some (r7, M2))
  else (
    some (((-1) : Int32), M1))
set_option maxHeartbeats 1000000 in
def f_KT_saidIn (p1 : Int32) (p2 : Int32) (M : kx_M) : Option (Int32 × kx_M) :=
  cal (f_KT_noClause p1 M) fun r1 M1 =>
  if r1 = 0 then (
    cal (f_KT_noRow p2 M1) fun r3 M2 =>
    if r3 = 0 then (
      f_KT_saidIn_l22 p1 p2 0 (0 : Int32) M2)
    else (
      f_KT_saidIn_l22 p1 p2 0 (2 : Int32) M2))
  else (
    f_KT_saidIn_l22 p1 p2 0 (2 : Int32) M1)
set_option maxHeartbeats 1000000 in
def f_KT_said_l26 (p1 : Int32) : Nat → Int32 → Int32 → kx_M → Option (Int32 × kx_M)
  | 0, _, _, _ => none
  | n + 1, x2, x3, M =>
    gd (isState (mR M 0 9)) <|
    bd (mR M 0 9) fun s2 =>
    if (mI M (s2 + 9) 7) ≤ x3 then (
      some (x2, M))
    else (
      gd (isState (mR M 0 9)) <|
      bd (mR M 0 9) fun s4 =>
      gd (isState (mR M 0 9)) <|
      bd (mR M 0 9) fun s6 =>
      cal (f_Cloth_timesIn (s4 + 9) (s6 + 1) p1 x3 M) fun r7 M1 =>
      bd (x2 + r7) fun v9 =>
      bd (x3 + Int32.ofInt 1) fun v10 =>
      f_KT_said_l26 p1 n v9 v10 M1)
set_option maxHeartbeats 1000000 in
def f_KT_said_l14 (p1 : Int32) (s0 : Nat) (s1 : Int32) (M : kx_M) : Option (Int32 × kx_M) :=
  cal (f_KT_refused s1 M) fun r1 M1 =>
  if r1 = 0 then (
    f_KT_said_l26 p1 FU (0 : Int32) (0 : Int32) M1)
  else (
    some (((-1) : Int32), M1))
set_option maxHeartbeats 1000000 in
def f_KT_said (p1 : Int32) (M : kx_M) : Option (Int32 × kx_M) :=
  cal (f_KT_noClause p1 M) fun r1 M1 =>
  if r1 = 0 then (
    f_KT_said_l14 p1 0 (0 : Int32) M1)
  else (
    f_KT_said_l14 p1 0 (2 : Int32) M1)
