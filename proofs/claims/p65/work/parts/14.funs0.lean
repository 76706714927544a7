set_option maxHeartbeats 1000000 in
def f_KT_noTray (p0 : Int32) (M : kx_M) : Option (Int32 × kx_M) :=
  if p0 < 0 then (
    some ((1 : Int32), M))
  else (
    if p0 < (4 : Int32) then (
      some ((0 : Int32), M))
    else (
      some ((1 : Int32), M)))
set_option maxHeartbeats 1000000 in
def f_KT_refused (p1 : Int32) (M : kx_M) : Option (Int32 × kx_M) :=
  bd (sI M 0 13 p1) fun M1 =>
  if p1 = 0 then (
    some ((0 : Int32), M1))
  else (
    some ((1 : Int32), M1))
set_option maxHeartbeats 1000000 in
def f_Arr_fill_l6 (p0 : Nat) (p1 : Int64) : Nat → Int32 → Int32 → kx_M → Option (Unit × kx_M)
  | 0, _, _, _ => none
  | n + 1, x3, x4, M =>
    if x4 ≤ x3 then (
      some ((), M))
    else (
      gd (aIb 2 p0 x3) <|
      bd (sB M p0 (vp_updL (mB M p0) x3.toNatClampNeg p1)) fun M1 =>
      bd (x3 + Int32.ofInt 1) fun v2 =>
      f_Arr_fill_l6 p0 p1 n v2 x4 M1)
set_option maxHeartbeats 1000000 in
def f_Arr_fill (p0 : Nat) (p1 : Int64) (M : kx_M) : Option (Unit × kx_M) :=
  gd (aLk 2 p0) <|
  bd (Int32.ofNat (aLn p0)) fun v2 =>
  f_Arr_fill_l6 p0 p1 FU (0 : Int32) v2 M
set_option maxHeartbeats 1000000 in
def f_Tray_lay (p0 : Nat) (p1 : Int32) (p2 : Int32) (M : kx_M) : Option (Unit × kx_M) :=
  bd (sI M p0 1 (0 : Int32)) fun M1 =>
  bd (sI M1 p0 2 p1) fun M2 =>
  bd (sI M2 p0 3 p2) fun M3 =>
  cal (f_Arr_fill (p0 + 1) (0 : Int64) M3) fun _ M4 =>
  some ((), M4)
set_option maxHeartbeats 1000000 in
def f_KT_tray_l45 (p1 : Int32) (p2 : Int32) (p3 : Int32) (x4 : Int32) (M : kx_M) : Option (Int32 × kx_M) :=
  cal (f_KT_refused x4 M) fun r1 M1 =>
  if r1 = 0 then (
    gd (inb p1 4) <|
    cal (f_Tray_lay (2 * p1.toNatClampNeg + 67) p2 p3 M1) fun _ M2 =>
    some ((1 : Int32), M2))
  else (
    some ((0 : Int32), M1))
set_option maxHeartbeats 1000000 in
def f_KT_tray (p1 : Int32) (p2 : Int32) (p3 : Int32) (M : kx_M) : Option (Int32 × kx_M) :=
  cal (f_KT_noTray p1 M) fun r1 M1 =>
  if r1 = 0 then (
    if p2 < 0 then (
      f_KT_tray_l45 p1 p2 p3 (1 : Int32) M1)
    else (
      if p2 ≤ (3 : Int32) then (
        if p3 ≤ (60 : Int32) then (
          if 0 ≤ p3 then (
            f_KT_tray_l45 p1 p2 p3 (0 : Int32) M1)
          else (
            f_KT_tray_l45 p1 p2 p3 (6 : Int32) M1))
        else (
          f_KT_tray_l45 p1 p2 p3 (5 : Int32) M1))
      else (
        f_KT_tray_l45 p1 p2 p3 (1 : Int32) M1)))
  else (
    f_KT_tray_l45 p1 p2 p3 (1 : Int32) M1)
set_option maxHeartbeats 1000000 in
def f_Tray_lacks (p0 : Nat) (p1 : Int32) (p2 : Int32) (M : kx_M) : Option (Int32 × kx_M) :=
  if p1 < 0 then (
    some ((1 : Int32), M))
  else (
    if (mI M p0 3) < p1 then (
      some ((1 : Int32), M))
    else (
      if p2 ≤ ((mI M p0 3) - p1) then (
        some ((0 : Int32), M))
      else (
        some ((1 : Int32), M))))
set_option maxHeartbeats 1000000 in
def f_KT_placeStatus (p1 : Int32) (p2 : Int32) (M : kx_M) : Option (Int32 × kx_M) :=
  cal (f_KT_noTray p1 M) fun r1 M1 =>
  if r1 = 0 then (
    gd (inb p1 4) <|
    if (mI M1 (2 * p1.toNatClampNeg + 67) 1) = 0 then (
      gd (inb p1 4) <|
      cal (f_Tray_lacks (2 * p1.toNatClampNeg + 67) p2 (1 : Int32) M1) fun r5 M2 =>
      if r5 = 0 then (
        some ((0 : Int32), M2))
      else (
        some ((4 : Int32), M2)))
    else (
      some ((3 : Int32), M1)))
  else (
    some ((1 : Int32), M1))
set_option maxHeartbeats 1000000 in
def f_Tray_put (p0 : Nat) (p1 : Int32) (p2 : Int64) (M : kx_M) : Option (Unit × kx_M) :=
  if (mI M p0 2) = (0 : Int32) then (
    gd (inb p1 60) <|
    bd (sB M (p0 + 1) (vp_updL (mB M (p0 + 1)) p1.toNatClampNeg (((p2.toInt32).toInt8.toInt32).toInt64))) fun M1 =>
    some ((), M1))
  else (
  if (mI M p0 2) = (1 : Int32) then (
    gd (inb p1 60) <|
    bd (sB M (p0 + 1) (vp_updL (mB M (p0 + 1)) p1.toNatClampNeg (((p2.toInt32).toInt16.toInt32).toInt64))) fun M2 =>
    some ((), M2))
  else (
  if (mI M p0 2) = (2 : Int32) then (
    gd (inb p1 60) <|
    bd (sB M (p0 + 1) (vp_updL (mB M (p0 + 1)) p1.toNatClampNeg ((p2.toInt32).toInt64))) fun M3 =>
    some ((), M3))
  else (
    gd (inb p1 60) <|
    bd (sB M (p0 + 1) (vp_updL (mB M (p0 + 1)) p1.toNatClampNeg p2)) fun M4 =>
    some ((), M4))))
set_option maxHeartbeats 1000000 in
def f_KT_write (p1 : Int32) (p2 : Int32) (p3 : Int64) (M : kx_M) : Option (Int32 × kx_M) :=
  cal (f_KT_placeStatus p1 p2 M) fun r1 M1 =>
  cal (f_KT_refused r1 M1) fun r3 M2 =>
  if r3 = 0 then (
    gd (inb p1 4) <|
    cal (f_Tray_put (2 * p1.toNatClampNeg + 67) p2 p3 M2) fun _ M3 =>
    some ((1 : Int32), M3))
  else (
    some ((0 : Int32), M2))
set_option maxHeartbeats 1000000 in
def f_KT_read (p1 : Int32) (p2 : Int32) (M : kx_M) : Option (Int64 × kx_M) :=
  cal (f_KT_placeStatus p1 p2 M) fun r1 M1 =>
  cal (f_KT_refused r1 M1) fun r3 M2 =>
  if r3 = 0 then (
    gd (inb p1 4) <|
    gd (inb p2 60) <|
    some ((mB M2 (2 * p1.toNatClampNeg + 68) p2.toNatClampNeg), M2))
  else (
    some (((-1) : Int64), M2))
set_option maxHeartbeats 1000000 in
def f_Cloth_at (p0 : Int32) (p1 : Int32) (M : kx_M) : Option (Int32 × kx_M) :=
  some (((p0 * (8 : Int32)) + p1), M)
set_option maxHeartbeats 1000000 in
def f_Cloth_sum_l15 (p0 : Nat) (p1 : Nat) (k4 : Int32 → Int32 → kx_M → Option (Int32 × kx_M)) : Nat → Int32 → Int32 → Int32 → kx_M → Option (Int32 × kx_M)
  | 0, _, _, _, _ => none
  | n + 1, x2, x3, x4, M =>
    if (mI M p0 5) ≤ x4 then (
      bd (x3 + Int32.ofInt 1) fun v1 =>
      k4 x2 v1 M)
    else (
      cal (f_Cloth_at x3 x4 M) fun r2 M1 =>
      gd (aIb 1 p1 r2) <|
      bd (x2 + (mA M1 p1 r2.toNatClampNeg)) fun v5 =>
      bd (x4 + Int32.ofInt 1) fun v6 =>
      f_Cloth_sum_l15 p0 p1 k4 n v5 x3 v6 M1)
set_option maxHeartbeats 1000000 in
def f_Cloth_sum_l4 (p0 : Nat) (p1 : Nat) : Nat → Int32 → Int32 → kx_M → Option (Int32 × kx_M)
  | 0, _, _, _ => none
  | n + 1, x2, x3, M =>
    if (mI M p0 7) ≤ x3 then (
      some (x2, M))
    else (
      f_Cloth_sum_l15 p0 p1 (f_Cloth_sum_l4 p0 p1 n) FU x2 x3 (0 : Int32) M)
set_option maxHeartbeats 1000000 in
def f_Cloth_sum (p0 : Nat) (p1 : Nat) (M : kx_M) : Option (Int32 × kx_M) :=
  f_Cloth_sum_l4 p0 p1 FU (0 : Int32) (0 : Int32) M
set_option maxHeartbeats 1000000 in
def f_Cloth_wornInAll_l14 (p0 : Nat) (k4 : Int32 → Int32 → kx_M → Option (Int32 × kx_M)) : Nat → Int32 → Int32 → Int32 → kx_M → Option (Int32 × kx_M)
  | 0, _, _, _, _ => none
  | n + 1, x1, x2, x3, M =>
    if (mI M p0 5) ≤ x3 then (
      bd (x2 + Int32.ofInt 1) fun v1 =>
      k4 x1 v1 M)
    else (
      cal (f_Cloth_at x2 x3 M) fun r2 M1 =>
      gd (inb r2 96) <|
      if (mA M1 (p0 + 4) r2.toNatClampNeg) = 0 then (
        gd (inb r2 96) <|
        bd (x1 + (mA M1 (p0 + 3) r2.toNatClampNeg)) fun v6 =>
        bd (x3 + Int32.ofInt 1) fun v7 =>
        f_Cloth_wornInAll_l14 p0 k4 n v6 x2 v7 M1)
      else (
        bd (x3 + Int32.ofInt 1) fun v8 =>
        f_Cloth_wornInAll_l14 p0 k4 n x1 x2 v8 M1))
set_option maxHeartbeats 1000000 in
def f_Cloth_wornInAll_l4 (p0 : Nat) : Nat → Int32 → Int32 → kx_M → Option (Int32 × kx_M)
  | 0, _, _, _ => none
  | n + 1, x1, x2, M =>
    if (mI M p0 7) ≤ x2 then (
      some (x1, M))
    else (
      f_Cloth_wornInAll_l14 p0 (f_Cloth_wornInAll_l4 p0 n) FU x1 x2 (0 : Int32) M)
set_option maxHeartbeats 1000000 in
def f_Cloth_wornInAll (p0 : Nat) (M : kx_M) : Option (Int32 × kx_M) :=
  f_Cloth_wornInAll_l4 p0 FU (0 : Int32) (0 : Int32) M
set_option maxHeartbeats 1000000 in
def f_Cloth_saysAt_l25 (p0 : Nat) (p1 : Nat) (p2 : Int32) (p3 : Int32) (p4 : Int32) : Nat → Int32 → Int32 → kx_M → Option (Int32 × kx_M)
  | 0, _, _, _ => none
  | n + 1, x5, x6, M =>
    if x5 ≤ x6 then (
      some ((1 : Int32), M))
    else (
      cal (f_Cloth_at p3 (p4 + x6) M) fun r1 M1 =>
      gd (inb r1 96) <|
      if (mA M1 (p0 + 4) r1.toNatClampNeg) = (1 : Int32) then (
        some ((0 : Int32), M1))
      else (
        gd (inb r1 96) <|
        gd (inb ((p2 * (5 : Int32)) + x6) 30) <|
        if (mA M1 (p0 + 2) r1.toNatClampNeg) = (mA M1 (p1 + 5) ((p2 * (5 : Int32)) + x6).toNatClampNeg) then (
          bd (x6 + Int32.ofInt 1) fun v6 =>
          f_Cloth_saysAt_l25 p0 p1 p2 p3 p4 n x5 v6 M1)
        else (
          some ((0 : Int32), M1))))
set_option maxHeartbeats 1000000 in
def f_Cloth_saysAt (p0 : Nat) (p1 : Nat) (p2 : Int32) (p3 : Int32) (p4 : Int32) (M : kx_M) : Option (Int32 × kx_M) :=
  gd (inb p2 6) <|
  bd (mA M (p1 + 4) p2.toNatClampNeg) fun v2 =>
  if (p4 + v2) ≤ (mI M p0 5) then (
    f_Cloth_saysAt_l25 p0 p1 p2 p3 p4 FU v2 (0 : Int32) M)
  else (
    some ((0 : Int32), M))
set_option maxHeartbeats 1000000 in
def f_Cloth_timesIn_l6 (p0 : Nat) (p1 : Nat) (p2 : Int32) (p3 : Int32) : Nat → Int32 → Int32 → kx_M → Option (Int32 × kx_M)
  | 0, _, _, _ => none
  | n + 1, x4, x5, M =>
    if (mI M p0 5) ≤ x5 then (
      some (x4, M))
    else (
      cal (f_Cloth_saysAt p0 p1 p2 p3 x5 M) fun r1 M1 =>
      if r1 = 0 then (
        bd (x5 + Int32.ofInt 1) fun v3 =>
        f_Cloth_timesIn_l6 p0 p1 p2 p3 n x4 v3 M1)
      else (
        bd (x4 + Int32.ofInt 1) fun v4 =>
        bd (x5 + Int32.ofInt 1) fun v5 =>
        f_Cloth_timesIn_l6 p0 p1 p2 p3 n v4 v5 M1))
set_option maxHeartbeats 1000000 in
def f_Cloth_timesIn (p0 : Nat) (p1 : Nat) (p2 : Int32) (p3 : Int32) (M : kx_M) : Option (Int32 × kx_M) :=
  f_Cloth_timesIn_l6 p0 p1 p2 p3 FU (0 : Int32) (0 : Int32) M
set_option maxHeartbeats 1000000 in
def f_Cloth_saidSetIn_l5 (p0 : Nat) (p1 : Nat) (p2 : Int32) : Nat → Int32 → Int32 → kx_M → Option (Int32 × kx_M)
  | 0, _, _, _ => none
  | n + 1, x3, x4, M =>
    if (mI M p1 8) ≤ x4 then (
      some (x3, M))
    else (
      cal (f_Cloth_timesIn p0 p1 x4 p2 M) fun r1 M1 =>
      if r1 ≤ 0 then (
        bd (x4 + Int32.ofInt 1) fun v3 =>
        f_Cloth_saidSetIn_l5 p0 p1 p2 n x3 v3 M1)
      else (
        bd (x3 ||| ((1 : Int32) <<< (x4 &&& 31))) fun v4 =>
        bd (x4 + Int32.ofInt 1) fun v5 =>
        f_Cloth_saidSetIn_l5 p0 p1 p2 n v4 v5 M1))
set_option maxHeartbeats 1000000 in
def f_Cloth_saidSetIn (p0 : Nat) (p1 : Nat) (p2 : Int32) (M : kx_M) : Option (Int32 × kx_M) :=
  f_Cloth_saidSetIn_l5 p0 p1 p2 FU (0 : Int32) (0 : Int32) M
set_option maxHeartbeats 1000000 in
def f_Cloth_saidSet_l4 (p0 : Nat) (p1 : Nat) : Nat → Int32 → Int32 → kx_M → Option (Int32 × kx_M)
  | 0, _, _, _ => none
  | n + 1, x2, x3, M =>
    if (mI M p0 7) ≤ x3 then (
      some (x2, M))
    else (
      cal (f_Cloth_saidSetIn p0 p1 x3 M) fun r1 M1 =>
      bd (x2 ||| r1) fun v3 =>
      bd (x3 + Int32.ofInt 1) fun v4 =>
      f_Cloth_saidSet_l4 p0 p1 n v3 v4 M1)
set_option maxHeartbeats 1000000 in
def f_Cloth_saidSet (p0 : Nat) (p1 : Nat) (M : kx_M) : Option (Int32 × kx_M) :=
  f_Cloth_saidSet_l4 p0 p1 FU (0 : Int32) (0 : Int32) M
set_option maxHeartbeats 1000000 in
def f_KT_many_l16 (p1 : Int32) (s0 : Nat) (s1 : Int32) (M : kx_M) : Option (Int32 × kx_M) :=
  cal (f_KT_refused s1 M) fun r1 M1 =>
  if r1 = 0 then (
    gd (isState (mR M1 0 9)) <|
    bd (mR M1 0 9) fun s4 =>
    bd (s4 + 9) fun v5 =>
    if p1 = (0 : Int32) then (
      some ((mI M1 v5 5), M1))
    else (
    if p1 = (1 : Int32) then (
      some ((mI M1 v5 6), M1))
    else (
    if p1 = (2 : Int32) then (
      gd (isState (mR M1 0 9)) <|
      bd (mR M1 0 9) fun s7 =>
      some ((mI M1 (s7 + 1) 7), M1))
    else (
    if p1 = (3 : Int32) then (
      gd (isState (mR M1 0 9)) <|
      bd (mR M1 0 9) fun s9 =>
      some ((mI M1 (s9 + 1) 8), M1))
    else (
    if p1 = (4 : Int32) then (
      some ((mI M1 v5 7), M1))
    else (
    if p1 = (5 : Int32) then (
      some ((mI M1 v5 8), M1))
    else (
    if p1 = (6 : Int32) then (
      cal (f_Cloth_sum v5 (v5 + 4) M1) fun r10 M2 =>
      some (r10, M2))
    else (
    if p1 = (7 : Int32) then (
      cal (f_Cloth_sum v5 (v5 + 5) M1) fun r12 M3 =>
      some (r12, M3))
    else (
    if p1 = (8 : Int32) then (
      cal (f_Cloth_wornInAll v5 M1) fun r14 M4 =>
      some (r14, M4))
    else (
      gd (isState (mR M1 0 9)) <|
      bd (mR M1 0 9) fun s17 =>
      cal (f_Cloth_saidSet v5 (s17 + 1) M1) fun r18 M5 =>
      some (r18, M5)))))))))))
  else (
    some (((-1) : Int32), M1))
set_option maxHeartbeats 1000000 in
def f_KT_many (p1 : Int32) (M : kx_M) : Option (Int32 × kx_M) :=
  if p1 < 0 then (
    f_KT_many_l16 p1 0 (5 : Int32) M)
  else (
    if p1 ≤ (9 : Int32) then (
      f_KT_many_l16 p1 0 (0 : Int32) M)
    else (
      f_KT_many_l16 p1 0 (5 : Int32) M))
set_option maxHeartbeats 1000000 in
def f_KT_noRow (p1 : Int32) (M : kx_M) : Option (Int32 × kx_M) :=
  if p1 < 0 then (
    some ((1 : Int32), M))
  else (
    gd (isState (mR M 0 9)) <|
    bd (mR M 0 9) fun s2 =>
    if p1 < (mI M (s2 + 9) 7) then (
      some ((0 : Int32), M))
    else (
      some ((1 : Int32), M)))
set_option maxHeartbeats 1000000 in
def f_KT_noColumn (p1 : Int32) (M : kx_M) : Option (Int32 × kx_M) :=
  if p1 < 0 then (
    some ((1 : Int32), M))
  else (
    gd (isState (mR M 0 9)) <|
    bd (mR M 0 9) fun s2 =>
    if p1 < (mI M (s2 + 9) 5) then (
      some ((0 : Int32), M))
    else (
      some ((1 : Int32), M)))
set_option maxHeartbeats 1000000 in
def f_KT_stitch_l37 (p1 : Int32) (p2 : Int32) (p3 : Int32) (x4 : Int32) (M : kx_M) : Option (Int32 × kx_M) :=
  cal (f_KT_refused x4 M) fun r1 M1 =>
  if r1 = 0 then (
    gd (isState (mR M1 0 9)) <|
    bd (mR M1 0 9) fun s4 =>
    bd (s4 + 9) fun v5 =>
    cal (f_Cloth_at p1 p2 M1) fun r6 M2 =>
    if p3 = (0 : Int32) then (
      gd (inb r6 96) <|
      some ((mA M2 (v5 + 2) r6.toNatClampNeg), M2))
    else (
    if p3 = (1 : Int32) then (
      gd (inb r6 96) <|
      some ((mA M2 (v5 + 3) r6.toNatClampNeg), M2))
    else (
    if p3 = (2 : Int32) then (
      gd (inb r6 96) <|
      some ((mA M2 (v5 + 4) r6.toNatClampNeg), M2))
    else (
      gd (inb r6 96) <|
      some ((mA M2 (v5 + 5) r6.toNatClampNeg), M2)))))
  else (
    some (((-1) : Int32), M1))
set_option maxHeartbeats 1000000 in
def f_KT_stitch (p1 : Int32) (p2 : Int32) (p3 : Int32) (M : kx_M) : Option (Int32 × kx_M) :=
  cal (f_KT_noRow p1 M) fun r1 M1 =>
  if r1 = 0 then (
    cal (f_KT_noColumn p2 M1) fun r3 M2 =>
    if r3 = 0 then (
      if p3 < 0 then (
        f_KT_stitch_l37 p1 p2 p3 (5 : Int32) M2)
      else (
        if p3 ≤ (3 : Int32) then (
          f_KT_stitch_l37 p1 p2 p3 (0 : Int32) M2)
        else (
          f_KT_stitch_l37 p1 p2 p3 (5 : Int32) M2)))
    else (
      f_KT_stitch_l37 p1 p2 p3 (2 : Int32) M2))
  else (
    f_KT_stitch_l37 p1 p2 p3 (2 : Int32) M1)
set_option maxHeartbeats 1000000 in
def f_KT_queenOf_l14 (p1 : Int32) (s0 : Nat) (s1 : Int32) (M : kx_M) : Option (Int32 × kx_M) :=
  cal (f_KT_refused s1 M) fun r1 M1 =>
  if r1 = 0 then (
    gd (isState (mR M1 0 9)) <|
    bd (mR M1 0 9) fun s4 =>
    gd (inb p1 12) <|
    some ((mA M1 (s4 + 10) p1.toNatClampNeg), M1))
  else (
    some (((-1) : Int32), M1))
set_option maxHeartbeats 1000000 in
def f_KT_queenOf (p1 : Int32) (M : kx_M) : Option (Int32 × kx_M) :=
  cal (f_KT_noRow p1 M) fun r1 M1 =>
  if r1 = 0 then (
    f_KT_queenOf_l14 p1 0 (0 : Int32) M1)
  else (
    f_KT_queenOf_l14 p1 0 (2 : Int32) M1)
set_option maxHeartbeats 1000000 in
def f_KT_noQueen (p1 : Int32) (M : kx_M) : Option (Int32 × kx_M) :=
  if p1 < 0 then (
    some ((1 : Int32), M))
  else (
    gd (isState (mR M 0 9)) <|
    bd (mR M 0 9) fun s2 =>
    if p1 < (mI M (s2 + 1) 7) then (
      some ((0 : Int32), M))
    else (
      some ((1 : Int32), M)))
set_option maxHeartbeats 1000000 in
def f_KT_wool_l14 (p1 : Int32) (s0 : Nat) (s1 : Int32) (M : kx_M) : Option (Int32 × kx_M) :=
  cal (f_KT_refused s1 M) fun r1 M1 =>
  if r1 = 0 then (
    gd (isState (mR M1 0 9)) <|
    bd (mR M1 0 9) fun s4 =>
    gd (inb p1 4) <|
    some ((mA M1 (s4 + 2) p1.toNatClampNeg), M1))
  else (
    some (((-1) : Int32), M1))
set_option maxHeartbeats 1000000 in
def f_KT_wool (p1 : Int32) (M : kx_M) : Option (Int32 × kx_M) :=
  cal (f_KT_noQueen p1 M) fun r1 M1 =>
  if r1 = 0 then (
    f_KT_wool_l14 p1 0 (0 : Int32) M1)
  else (
    f_KT_wool_l14 p1 0 (2 : Int32) M1)
set_option maxHeartbeats 1000000 in
def f_KT_noClause (p1 : Int32) (M : kx_M) : Option (Int32 × kx_M) :=
  if p1 < 0 then (
    some ((1 : Int32), M))
  else (
    gd (isState (mR M 0 9)) <|
    bd (mR M 0 9) fun s2 =>
    if p1 < (mI M (s2 + 1) 8) then (
      some ((0 : Int32), M))
    else (
      some ((1 : Int32), M)))
set_option maxHeartbeats 1000000 in
def f_KT_length_l14 (p1 : Int32) (s0 : Nat) (s1 : Int32) (M : kx_M) : Option (Int32 × kx_M) :=
  cal (f_KT_refused s1 M) fun r1 M1 =>
  if r1 = 0 then (
    gd (isState (mR M1 0 9)) <|
    bd (mR M1 0 9) fun s4 =>
    gd (inb p1 6) <|
    some ((mA M1 (s4 + 5) p1.toNatClampNeg), M1))
  else (
    some (((-1) : Int32), M1))
set_option maxHeartbeats 1000000 in
def f_KT_length (p1 : Int32) (M : kx_M) : Option (Int32 × kx_M) :=
  cal (f_KT_noClause p1 M) fun r1 M1 =>
  if r1 = 0 then (
    f_KT_length_l14 p1 0 (0 : Int32) M1)
  else (
    f_KT_length_l14 p1 0 (2 : Int32) M1)
set_option maxHeartbeats 1000000 in
def f_KT_kind_l38 (p1 : Int32) (p2 : Int32) (x3 : Int32) (M : kx_M) : Option (Int32 × kx_M) :=
  cal (f_KT_refused x3 M) fun r1 M1 =>
  if r1 = 0 then (
    gd (isState (mR M1 0 9)) <|
    bd (mR M1 0 9) fun s4 =>
    gd (inb ((p1 * (5 : Int32)) + p2) 30) <|
    some ((mA M1 (s4 + 6) ((p1 * (5 : Int32)) + p2).toNatClampNeg), M1))
  else (
    some (((-1) : Int32), M1))
set_option maxHeartbeats 1000000 in
def f_KT_kind (p1 : Int32) (p2 : Int32) (M : kx_M) : Option (Int32 × kx_M) :=
  cal (f_KT_noClause p1 M) fun r1 M1 =>
  if r1 = 0 then (
    if p2 < 0 then (
      f_KT_kind_l38 p1 p2 (8 : Int32) M1)
    else (
      gd (isState (mR M1 0 9)) <|
      bd (mR M1 0 9) fun s4 =>
      gd (inb p1 6) <|
      if p2 < (mA M1 (s4 + 5) p1.toNatClampNeg) then (
        f_KT_kind_l38 p1 p2 (0 : Int32) M1)
      else (
        f_KT_kind_l38 p1 p2 (8 : Int32) M1)))
  else (
    f_KT_kind_l38 p1 p2 (2 : Int32) M1)
set_option maxHeartbeats 1000000 in
def f_KT_coupleStatus (p1 : Int32) (p2 : Int32) (M : kx_M) : Option (Int32 × kx_M) :=
  cal (f_KT_noClause p1 M) fun r1 M1 =>
  if r1 = 0 then (
    cal (f_KT_noClause p2 M1) fun r3 M2 =>
    if r3 = 0 then (
      if p1 = p2 then (
        some ((9 : Int32), M2))
      else (
        some ((0 : Int32), M2)))
    else (
      some ((2 : Int32), M2)))
  else (
    some ((2 : Int32), M1))
set_option maxHeartbeats 1000000 in
def f_KT_clash (p1 : Int32) (p2 : Int32) (M : kx_M) : Option (Int32 × kx_M) :=
  cal (f_KT_coupleStatus p1 p2 M) fun r1 M1 =>
  cal (f_KT_refused r1 M1) fun r3 M2 =>
  if r3 = 0 then (
    gd (isState (mR M2 0 9)) <|
    bd (mR M2 0 9) fun s6 =>
    gd (inb ((p1 * (6 : Int32)) + p2) 36) <|
    some ((mA M2 (s6 + 7) ((p1 * (6 : Int32)) + p2).toNatClampNeg), M2))
  else (
    some (((-1) : Int32), M2))
set_option maxHeartbeats 1000000 in
def f_Cloth_loose (p0 : Nat) (p1 : Int32) (M : kx_M) : Option (Int32 × kx_M) :=
  gd (inb p1 96) <|
  if (mA M (p0 + 4) p1.toNatClampNeg) = 0 then (
    gd (inb p1 96) <|
    if (mA M (p0 + 5) p1.toNatClampNeg) = 0 then (
      some ((1 : Int32), M))
    else (
      some ((0 : Int32), M)))
  else (
    some ((0 : Int32), M))
set_option maxHeartbeats 1000000 in
def f_Cloth_anyLoose_l12 (p0 : Nat) (k2 : Int32 → kx_M → Option (Int32 × kx_M)) : Nat → Int32 → Int32 → kx_M → Option (Int32 × kx_M)
  | 0, _, _, _ => none
  | n + 1, x1, x2, M =>
    if (mI M p0 5) ≤ x2 then (
      bd (x1 + Int32.ofInt 1) fun v1 =>
      k2 v1 M)
    else (
      cal (f_Cloth_at x1 x2 M) fun r2 M1 =>
      cal (f_Cloth_loose p0 r2 M1) fun r4 M2 =>
      if r4 = 0 then (
        bd (x2 + Int32.ofInt 1) fun v6 =>
        f_Cloth_anyLoose_l12 p0 k2 n x1 v6 M2)
      else (
        some ((1 : Int32), M2)))
set_option maxHeartbeats 1000000 in
def f_Cloth_anyLoose_l2 (p0 : Nat) : Nat → Int32 → kx_M → Option (Int32 × kx_M)
  | 0, _, _ => none
  | n + 1, x1, M =>
    if (mI M p0 7) ≤ x1 then (
      some ((0 : Int32), M))
    else (
      f_Cloth_anyLoose_l12 p0 (f_Cloth_anyLoose_l2 p0 n) FU x1 (0 : Int32) M)
set_option maxHeartbeats 1000000 in
def f_Cloth_anyLoose (p0 : Nat) (M : kx_M) : Option (Int32 × kx_M) :=
  f_Cloth_anyLoose_l2 p0 FU (0 : Int32) M
set_option maxHeartbeats 1000000 in
def f_Cloth_gapAt (p0 : Nat) (p1 : Int32) (p2 : Int32) (M : kx_M) : Option (Int32 × kx_M) :=
  if p2 < 0 then (
    some ((0 : Int32), M))
  else (
    if p2 < (mI M p0 5) then (
      bd ((p1 * (8 : Int32)) + p2) fun v1 =>
      gd (inb v1 96) <|
      if (mA M (p0 + 2) v1.toNatClampNeg) = (3 : Int32) then (
        some ((1 : Int32), M))
      else (
        gd (inb v1 96) <|
        if (mA M (p0 + 4) v1.toNatClampNeg) = (1 : Int32) then (
          some ((1 : Int32), M))
        else (
          some ((0 : Int32), M))))
    else (
      some ((0 : Int32), M)))
set_option maxHeartbeats 1000000 in
def f_Cloth_wearRow_l2 (p0 : Nat) (p1 : Int32) : Nat → Int32 → kx_M → Option (Unit × kx_M)
  | 0, _, _ => none
  | n + 1, x2, M =>
    if (mI M p0 5) ≤ x2 then (
      some ((), M))
    else (
      cal (f_Cloth_at p1 x2 M) fun r1 M1 =>
      cal (f_Cloth_loose p0 r1 M1) fun r3 M2 =>
      if r3 = 0 then (
        bd (x2 + Int32.ofInt 1) fun v5 =>
        f_Cloth_wearRow_l2 p0 p1 n v5 M2)
      else (
        cal (f_Cloth_gapAt p0 p1 (x2 - (1 : Int32)) M2) fun r6 M3 =>
        cal (f_Cloth_gapAt p0 p1 (x2 + (1 : Int32)) M3) fun r8 M4 =>
        bd (((1 : Int32) + r6) + r8) fun v10 =>
        gd (inb r1 96) <|
        gd (inb r1 96) <|
        bd (sA M4 (p0 + 3) (upd (mA M4 (p0 + 3)) r1.toNatClampNeg (if ((mA M4 (p0 + 3) r1.toNatClampNeg) + v10) < (99 : Int32) then ((mA M4 (p0 + 3) r1.toNatClampNeg) + v10) else (99 : Int32)))) fun M5 =>
        bd (x2 + Int32.ofInt 1) fun v13 =>
        f_Cloth_wearRow_l2 p0 p1 n v13 M5))
set_option maxHeartbeats 1000000 in
def f_Cloth_wearRow (p0 : Nat) (p1 : Int32) (M : kx_M) : Option (Unit × kx_M) :=
  f_Cloth_wearRow_l2 p0 p1 FU (0 : Int32) M
set_option maxHeartbeats 1000000 in
def f_Cloth_openRow_l4 (p0 : Nat) (p1 : Int32) : Nat → Int32 → Int32 → kx_M → Option (Int32 × kx_M)
  | 0, _, _, _ => none
  | n + 1, x2, x3, M =>
    if (mI M p0 5) ≤ x3 then (
      some (x2, M))
    else (
      cal (f_Cloth_at p1 x3 M) fun r1 M1 =>
      cal (f_Cloth_loose p0 r1 M1) fun r3 M2 =>
      if r3 = 0 then (
        bd (x3 + Int32.ofInt 1) fun v5 =>
        f_Cloth_openRow_l4 p0 p1 n x2 v5 M2)
      else (
        gd (inb r1 96) <|
        if (mA M2 (p0 + 3) r1.toNatClampNeg) < (mI M2 p0 6) then (
          bd (x3 + Int32.ofInt 1) fun v7 =>
          f_Cloth_openRow_l4 p0 p1 n x2 v7 M2)
        else (
          gd (inb r1 96) <|
          bd (sA M2 (p0 + 4) (upd (mA M2 (p0 + 4)) r1.toNatClampNeg (1 : Int32))) fun M3 =>
          bd (x2 + Int32.ofInt 1) fun v9 =>
          bd (x3 + Int32.ofInt 1) fun v10 =>
          f_Cloth_openRow_l4 p0 p1 n v9 v10 M3)))
set_option maxHeartbeats 1000000 in
def f_Cloth_openRow (p0 : Nat) (p1 : Int32) (M : kx_M) : Option (Int32 × kx_M) :=
  f_Cloth_openRow_l4 p0 p1 FU (0 : Int32) (0 : Int32) M
set_option maxHeartbeats 1000000 in
def f_Cloth_withLadders_l21 (p0 : Nat) (p1 : Int32) (k10 : Int32 → Int32 → kx_M → Option (Int32 × kx_M)) : Nat → Int32 → Int32 → Int32 → kx_M → Option (Int32 × kx_M)
  | 0, _, _, _, _ => none
  | n + 1, x2, x3, x4, M =>
    if (mI M p0 5) ≤ x4 then (
      bd (x3 + Int32.ofInt 1) fun v1 =>
      k10 x2 v1 M)
    else (
      cal (f_Cloth_at x3 x4 M) fun r2 M1 =>
      gd (inb r2 96) <|
      if (mA M1 (p0 + 2) r2.toNatClampNeg) = 0 then (
        cal (f_Cloth_loose p0 r2 M1) fun r5 M2 =>
        if r5 = 0 then (
          bd (x4 + Int32.ofInt 1) fun v7 =>
          f_Cloth_withLadders_l21 p0 p1 k10 n x2 x3 v7 M2)
        else (
          gd (inb (r2 - (8 : Int32)) 96) <|
          if (mA M2 (p0 + 4) (r2 - (8 : Int32)).toNatClampNeg) = (1 : Int32) then (
            gd (inb r2 96) <|
            bd (sA M2 (p0 + 4) (upd (mA M2 (p0 + 4)) r2.toNatClampNeg (1 : Int32))) fun M3 =>
            bd (x2 + Int32.ofInt 1) fun v10 =>
            bd (x4 + Int32.ofInt 1) fun v11 =>
            f_Cloth_withLadders_l21 p0 p1 k10 n v10 x3 v11 M3)
          else (
            bd (x4 + Int32.ofInt 1) fun v12 =>
            f_Cloth_withLadders_l21 p0 p1 k10 n x2 x3 v12 M2)))
      else (
        bd (x4 + Int32.ofInt 1) fun v13 =>
        f_Cloth_withLadders_l21 p0 p1 k10 n x2 x3 v13 M1))
set_option maxHeartbeats 1000000 in
def f_Cloth_withLadders_l10 (p0 : Nat) (p1 : Int32) : Nat → Int32 → Int32 → kx_M → Option (Int32 × kx_M)
  | 0, _, _, _ => none
  | n + 1, x2, x3, M =>
    if (mI M p0 7) ≤ x3 then (
      some (x2, M))
    else (
      f_Cloth_withLadders_l21 p0 p1 (f_Cloth_withLadders_l10 p0 p1 n) FU x2 x3 (0 : Int32) M)
set_option maxHeartbeats 1000000 in
def f_Cloth_withLadders (p0 : Nat) (p1 : Int32) (M : kx_M) : Option (Int32 × kx_M) :=
  if p1 = 0 then (
    some ((0 : Int32), M))
  else (
    f_Cloth_withLadders_l10 p0 p1 FU p1 (1 : Int32) M)
set_option maxHeartbeats 1000000 in
def f_Cloth_passYear_l4 (p0 : Nat) : Nat → Int32 → Int32 → kx_M → Option (Int32 × kx_M)
  | 0, _, _, _ => none
  | n + 1, x1, x2, M =>
    if (mI M p0 7) ≤ x2 then (
      cal (f_Cloth_withLadders p0 x1 M) fun r1 M1 =>
      some (r1, M1))
    else (
      cal (f_Cloth_wearRow p0 x2 M) fun _ M2 =>
      cal (f_Cloth_openRow p0 x2 M2) fun r5 M3 =>
      bd (x1 + r5) fun v7 =>
      bd (x2 + Int32.ofInt 1) fun v8 =>
      f_Cloth_passYear_l4 p0 n v7 v8 M3)
set_option maxHeartbeats 1000000 in
def f_Cloth_passYear (p0 : Nat) (M : kx_M) : Option (Int32 × kx_M) :=
  f_Cloth_passYear_l4 p0 FU (0 : Int32) (0 : Int32) M
set_option maxHeartbeats 1000000 in
def f_Cloth_passYears_l4 (p0 : Nat) (p1 : Int32) : Nat → Int32 → Int32 → kx_M → Option (Int32 × kx_M)
  | 0, _, _, _ => none
  | n + 1, x2, x3, M =>
    if p1 ≤ x3 then (
      bd (sI M p0 8 ((mI M p0 8) + p1)) fun M1 =>
      some (x2, M1))
    else (
      cal (f_Cloth_anyLoose p0 M) fun r1 M2 =>
      if r1 = 0 then (
        bd (sI M2 p0 8 ((mI M2 p0 8) + p1)) fun M3 =>
        some (x2, M3))
      else (
        cal (f_Cloth_passYear p0 M2) fun r3 M4 =>
        bd (x2 + r3) fun v5 =>
        bd (x3 + Int32.ofInt 1) fun v6 =>
        f_Cloth_passYears_l4 p0 p1 n v5 v6 M4))
set_option maxHeartbeats 1000000 in
def f_Cloth_passYears (p0 : Nat) (p1 : Int32) (M : kx_M) : Option (Int32 × kx_M) :=
  f_Cloth_passYears_l4 p0 p1 FU (0 : Int32) (0 : Int32) M
set_option maxHeartbeats 1000000 in
def f_KT_year_l39 (p1 : Int32) (x2 : Int32) (M : kx_M) : Option (Int32 × kx_M) :=
  cal (f_KT_refused x2 M) fun r1 M1 =>
  if r1 = 0 then (
    gd (isState (mR M1 0 9)) <|
    bd (mR M1 0 9) fun s4 =>
    cal (f_Cloth_passYears (s4 + 9) p1 M1) fun r5 M2 =>
    some (r5, M2))
  else (
    some (((-1) : Int32), M1))
set_option maxHeartbeats 1000000 in
def f_KT_year (p1 : Int32) (M : kx_M) : Option (Int32 × kx_M) :=
  if p1 < (1 : Int32) then (
    f_KT_year_l39 p1 (5 : Int32) M)
  else (
    if p1 ≤ (99 : Int32) then (
      gd (isState (mR M 0 9)) <|
      bd (mR M 0 9) fun s2 =>
      if ((mI M (s2 + 9) 8) + p1) ≤ (9999 : Int32) then (
        f_KT_year_l39 p1 (0 : Int32) M)
      else (
        f_KT_year_l39 p1 (7 : Int32) M))
    else (
      f_KT_year_l39 p1 (5 : Int32) M))
set_option maxHeartbeats 1000000 in
def f_KT_pullStatus (p1 : Int32) (p2 : Int32) (M : kx_M) : Option (Int32 × kx_M) :=
  cal (f_KT_noRow p1 M) fun r1 M1 =>
  if r1 = 0 then (
    if p2 < 0 then (
      some ((5 : Int32), M1))
    else (
      if p2 ≤ (1 : Int32) then (
        some ((0 : Int32), M1))
      else (
        some ((5 : Int32), M1))))
  else (
    some ((2 : Int32), M1))
set_option maxHeartbeats 1000000 in
def f_Cloth_pullThread_l33 (p0 : Nat) (p1 : Int32) (p2 : Int32) (k5 : Int32 → Int32 → kx_M → Option (Int32 × kx_M)) (x3 : Int32) (x4 : Int32) (s0 : Int32) (s1 : Int32) (M : kx_M) : Option (Int32 × kx_M) :=
  cal (f_Cloth_at s0 s1 M) fun r1 M1 =>
  gd (inb r1 96) <|
  if (mA M1 (p0 + 4) r1.toNatClampNeg) = 0 then (
    gd (inb r1 96) <|
    if (mA M1 (p0 + 5) r1.toNatClampNeg) = (1 : Int32) then (
      cal (f_Cloth_withLadders p0 x3 M1) fun r5 M2 =>
      some (r5, M2))
    else (
      gd (inb r1 96) <|
      if (mA M1 (p0 + 2) r1.toNatClampNeg) = (2 : Int32) then (
        cal (f_Cloth_withLadders p0 x3 M1) fun r8 M3 =>
        some (r8, M3))
      else (
        gd (inb r1 96) <|
        bd (sA M1 (p0 + 4) (upd (mA M1 (p0 + 4)) r1.toNatClampNeg (1 : Int32))) fun M4 =>
        bd (x3 + Int32.ofInt 1) fun v11 =>
        bd (x4 + Int32.ofInt 1) fun v12 =>
        k5 v11 v12 M4)))
  else (
    bd (x4 + Int32.ofInt 1) fun v13 =>
    k5 x3 v13 M1)
set_option maxHeartbeats 1000000 in
def f_Cloth_pullThread_l5 (p0 : Nat) (p1 : Int32) (p2 : Int32) : Nat → Int32 → Int32 → kx_M → Option (Int32 × kx_M)
  | 0, _, _, _ => none
  | n + 1, x3, x4, M =>
    if (mI M p0 5) ≤ x4 then (
      cal (f_Cloth_withLadders p0 x3 M) fun r1 M1 =>
      some (r1, M1))
    else (
      if p2 = 0 then (
        f_Cloth_pullThread_l33 p0 p1 p2 (f_Cloth_pullThread_l5 p0 p1 p2 n) x3 x4 p1 x4 M)
      else (
        f_Cloth_pullThread_l33 p0 p1 p2 (f_Cloth_pullThread_l5 p0 p1 p2 n) x3 x4 p1 (((mI M p0 5) - (1 : Int32)) - x4) M))
set_option maxHeartbeats 1000000 in
def f_Cloth_pullThread (p0 : Nat) (p1 : Int32) (p2 : Int32) (M : kx_M) : Option (Int32 × kx_M) :=
  f_Cloth_pullThread_l5 p0 p1 p2 FU (0 : Int32) (0 : Int32) M
set_option maxHeartbeats 1000000 in
def f_KT_pull (p1 : Int32) (p2 : Int32) (M : kx_M) : Option (Int32 × kx_M) :=
  cal (f_KT_pullStatus p1 p2 M) fun r1 M1 =>
  cal (f_KT_refused r1 M1) fun r3 M2 =>
  if r3 = 0 then (
    gd (isState (mR M2 0 9)) <|
    bd (mR M2 0 9) fun s6 =>
    cal (f_Cloth_pullThread (s6 + 9) p1 p2 M2) fun r7 M3 =>
    some (r7, M3))
  else (
    some (((-1) : Int32), M2))
set_option maxHeartbeats 1000000 in
def f_Cloth_eat (p0 : Nat) (p1 : Int32) (p2 : Int32) (M : kx_M) : Option (Int32 × kx_M) :=
  cal (f_Cloth_at p1 p2 M) fun r1 M1 =>
  cal (f_Cloth_loose p0 r1 M1) fun r3 M2 =>
  if r3 = 0 then (
    some ((0 : Int32), M2))
  else (
    gd (inb r1 96) <|
    bd (sA M2 (p0 + 4) (upd (mA M2 (p0 + 4)) r1.toNatClampNeg (1 : Int32))) fun M3 =>
    cal (f_Cloth_withLadders p0 (1 : Int32) M3) fun r6 M4 =>
    some (r6, M4))
set_option maxHeartbeats 1000000 in
def f_KT_moth_l44 (p1 : Int32) (p2 : Int32) (x3 : Int32) (M : kx_M) : Option (Int32 × kx_M) :=
  cal (f_KT_refused x3 M) fun r1 M1 =>
  if r1 = 0 then (
    gd (isState (mR M1 0 9)) <|
    bd (mR M1 0 9) fun s4 =>
    cal (f_Cloth_eat (s4 + 9) p1 p2 M1) fun r5 M2 =>
    some (r5, M2))
  else (
    some (((-1) : Int32), M1))
set_option maxHeartbeats 1000000 in
def f_KT_moth (p1 : Int32) (p2 : Int32) (M : kx_M) : Option (Int32 × kx_M) :=
  cal (f_KT_noRow p1 M) fun r1 M1 =>
  if r1 = 0 then (
    cal (f_KT_noColumn p2 M1) fun r3 M2 =>
    if r3 = 0 then (
      gd (isState (mR M2 0 9)) <|
      bd (mR M2 0 9) fun s6 =>
      cal (f_Cloth_at p1 p2 M2) fun r7 M3 =>
      cal (f_Cloth_loose (s6 + 9) r7 M3) fun r9 M4 =>
      if r9 = 0 then (
        f_KT_moth_l44 p1 p2 (9 : Int32) M4)
      else (
        f_KT_moth_l44 p1 p2 (0 : Int32) M4))
    else (
      f_KT_moth_l44 p1 p2 (2 : Int32) M2))
  else (
    f_KT_moth_l44 p1 p2 (2 : Int32) M1)
set_option maxHeartbeats 1000000 in
def f_Cloth_patch (p0 : Nat) (p1 : Int32) (p2 : Int32) (M : kx_M) : Option (Int32 × kx_M) :=
  cal (f_Cloth_at p1 p2 M) fun r1 M1 =>
  gd (inb r1 96) <|
  bd (mA M1 (p0 + 3) r1.toNatClampNeg) fun v4 =>
  gd (inb r1 96) <|
  bd (sA M1 (p0 + 3) (upd (mA M1 (p0 + 3)) r1.toNatClampNeg (0 : Int32))) fun M2 =>
  gd (inb r1 96) <|
  bd (sA M2 (p0 + 4) (upd (mA M2 (p0 + 4)) r1.toNatClampNeg (0 : Int32))) fun M3 =>
  gd (inb r1 96) <|
  bd (sA M3 (p0 + 5) (upd (mA M3 (p0 + 5)) r1.toNatClampNeg (1 : Int32))) fun M4 =>
  some (v4, M4)
set_option maxHeartbeats 1000000 in
def f_KT_darn_l22 (p1 : Int32) (p2 : Int32) (s0 : Nat) (s1 : Int32) (M : kx_M) : Option (Int32 × kx_M) :=
  cal (f_KT_refused s1 M) fun r1 M1 =>
  if r1 = 0 then (
    gd (isState (mR M1 0 9)) <|
    bd (mR M1 0 9) fun s4 =>
    cal (f_Cloth_patch (s4 + 9) p1 p2 M1) fun r5 M2 =>
    some (r5, M2))
  else (
    some (((-1) : Int32), M1))
set_option maxHeartbeats 1000000 in
def f_KT_darn (p1 : Int32) (p2 : Int32) (M : kx_M) : Option (Int32 × kx_M) :=
  cal (f_KT_noRow p1 M) fun r1 M1 =>
  if r1 = 0 then (
    cal (f_KT_noColumn p2 M1) fun r3 M2 =>
    if r3 = 0 then (
      f_KT_darn_l22 p1 p2 0 (0 : Int32) M2)
    else (
      f_KT_darn_l22 p1 p2 0 (2 : Int32) M2))
  else (
    f_KT_darn_l22 p1 p2 0 (2 : Int32) M1)
set_option maxHeartbeats 1000000 in
def f_KT_runStatus (p1 : Int32) (M : kx_M) : Option (Int32 × kx_M) :=
  gd (inb p1 4) <|
  if (mI M (2 * p1.toNatClampNeg + 67) 1) = 0 then (
    gd (inb p1 4) <|
    gd (isState (mR M 0 9)) <|
    bd (mR M 0 9) fun s4 =>
    cal (f_Tray_lacks (2 * p1.toNatClampNeg + 67) (0 : Int32) (mI M (s4 + 9) 5) M) fun r5 M1 =>
    if r5 = 0 then (
      some ((0 : Int32), M1))
    else (
      some ((4 : Int32), M1)))
  else (
    some ((3 : Int32), M))
set_option maxHeartbeats 1000000 in
def f_Tray_within_l3 (p0 : Nat) (p1 : Int32) (p2 : Int64) (p4 : Int64) : Nat → Int32 → kx_M → Option (Int32 × kx_M)
  | 0, _, _ => none
  | n + 1, x6, M =>
    if p1 ≤ x6 then (
      some ((1 : Int32), M))
    else (
      gd (inb x6 60) <|
      if (lg_cmp (mB M (p0 + 1) x6.toNatClampNeg) p2) < 0 then (
        some ((0 : Int32), M))
      else (
        gd (inb x6 60) <|
        if (lg_cmp (mB M (p0 + 1) x6.toNatClampNeg) p4) ≤ 0 then (
          bd (x6 + Int32.ofInt 1) fun v3 =>
          f_Tray_within_l3 p0 p1 p2 p4 n v3 M)
        else (
          some ((0 : Int32), M))))
set_option maxHeartbeats 1000000 in
def f_Tray_within (p0 : Nat) (p1 : Int32) (p2 : Int64) (p4 : Int64) (M : kx_M) : Option (Int32 × kx_M) :=
  f_Tray_within_l3 p0 p1 p2 p4 FU (0 : Int32) M
set_option maxHeartbeats 1000000 in
def f_KT_kindsStatus (p1 : Int32) (p2 : Int32) (M : kx_M) : Option (Int32 × kx_M) :=
  cal (f_KT_runStatus p1 M) fun r1 M1 =>
  if r1 = 0 then (
    gd (inb p1 4) <|
    gd (isState (mR M1 0 9)) <|
    bd (mR M1 0 9) fun s5 =>
    cal (f_Tray_within (2 * p1.toNatClampNeg + 67) (mI M1 (s5 + 9) 5) (p2.toInt64) (3 : Int64) M1) fun r6 M2 =>
    if r6 = 0 then (
      some ((5 : Int32), M2))
    else (
      some ((0 : Int32), M2)))
  else (
    some (r1, M1))
set_option maxHeartbeats 1000000 in
def f_Tray_woolOf_l4 (p0 : Nat) (p1 : Int32) : Nat → Int32 → Int32 → kx_M → Option (Int32 × kx_M)
  | 0, _, _, _ => none
  | n + 1, x2, x3, M =>
    if p1 ≤ x3 then (
      some (x2, M))
    else (
      gd (inb x3 60) <|
      gd (inb (((mB M (p0 + 1) x3.toNatClampNeg).toInt32) &&& (3 : Int32)) 4) <|
      bd (x2 + (([1, 1, 2, 0] : List Int32).getD (((mB M (p0 + 1) x3.toNatClampNeg).toInt32) &&& (3 : Int32)).toNatClampNeg 0)) fun v3 =>
      bd (x3 + Int32.ofInt 1) fun v4 =>
      f_Tray_woolOf_l4 p0 p1 n v3 v4 M)
set_option maxHeartbeats 1000000 in
def f_Tray_woolOf (p0 : Nat) (p1 : Int32) (M : kx_M) : Option (Int32 × kx_M) :=
  f_Tray_woolOf_l4 p0 p1 FU (0 : Int32) (0 : Int32) M
set_option maxHeartbeats 1000000 in
def f_KT_knitStatus (p1 : Int32) (p2 : Int32) (M : kx_M) : Option (Int32 × kx_M) :=
  cal (f_KT_noTray p2 M) fun r1 M1 =>
  if r1 = 0 then (
    cal (f_KT_noQueen p1 M1) fun r3 M2 =>
    if r3 = 0 then (
      cal (f_KT_kindsStatus p2 (0 : Int32) M2) fun r5 M3 =>
      if r5 = 0 then (
        gd (isState (mR M3 0 9)) <|
        bd (mR M3 0 9) fun s8 =>
        if (mI M3 (s8 + 9) 7) < (12 : Int32) then (
          gd (inb p2 4) <|
          gd (isState (mR M3 0 9)) <|
          bd (mR M3 0 9) fun s11 =>
          cal (f_Tray_woolOf (2 * p2.toNatClampNeg + 67) (mI M3 (s11 + 9) 5) M3) fun r12 M4 =>
          gd (isState (mR M4 0 9)) <|
          bd (mR M4 0 9) fun s15 =>
          gd (inb p1 4) <|
          if r12 ≤ (mA M4 (s15 + 2) p1.toNatClampNeg) then (
            some ((0 : Int32), M4))
          else (
            some ((9 : Int32), M4)))
        else (
          some ((7 : Int32), M3)))
      else (
        some (r5, M3)))
    else (
      some ((2 : Int32), M2)))
  else (
    some ((1 : Int32), M1))
set_option maxHeartbeats 1000000 in
def f_Cloth_lay (p0 : Nat) (p1 : Int32) (p2 : Int32) (M : kx_M) : Option (Unit × kx_M) :=
  cal (f_Cloth_at (mI M p0 7) p1 M) fun r1 M1 =>
  gd (inb r1 96) <|
  bd (sA M1 (p0 + 2) (upd (mA M1 (p0 + 2)) r1.toNatClampNeg p2)) fun M2 =>
  gd (inb r1 96) <|
  bd (sA M2 (p0 + 3) (upd (mA M2 (p0 + 3)) r1.toNatClampNeg (0 : Int32))) fun M3 =>
  gd (inb r1 96) <|
  bd (sA M3 (p0 + 4) (upd (mA M3 (p0 + 4)) r1.toNatClampNeg (0 : Int32))) fun M4 =>
  gd (inb r1 96) <|
  bd (sA M4 (p0 + 5) (upd (mA M4 (p0 + 5)) r1.toNatClampNeg (0 : Int32))) fun M5 =>
  some ((), M5)
set_option maxHeartbeats 1000000 in
def f_Cloth_closeRow (p0 : Nat) (p1 : Int32) (M : kx_M) : Option (Unit × kx_M) :=
  gd (inb (mI M p0 7) 12) <|
  bd (sA M (p0 + 1) (upd (mA M (p0 + 1)) (mI M p0 7).toNatClampNeg p1)) fun M1 =>
  bd (sI M1 p0 7 ((mI M1 p0 7) + (1 : Int32))) fun M2 =>
  some ((), M2)
set_option maxHeartbeats 1000000 in
def f_KT_knit_l54 (p1 : Int32) (p2 : Int32) : Nat → Nat → Int32 → kx_M → Option (Int32 × kx_M)
  | 0, _, _, _ => none
  | n + 1, x3, x4, M =>
    if (mI M x3 5) ≤ x4 then (
      cal (f_Cloth_closeRow x3 p1 M) fun _ M1 =>
      some ((mI M1 x3 7), M1))
    else (
      gd (inb p2 4) <|
      gd (inb x4 60) <|
      cal (f_Cloth_lay x3 x4 ((mB M (2 * p2.toNatClampNeg + 68) x4.toNatClampNeg).toInt32) M) fun _ M2 =>
      bd (x4 + Int32.ofInt 1) fun v7 =>
      f_KT_knit_l54 p1 p2 n x3 v7 M2)
set_option maxHeartbeats 1000000 in
def f_KT_knit (p1 : Int32) (p2 : Int32) (M : kx_M) : Option (Int32 × kx_M) :=
  cal (f_KT_knitStatus p1 p2 M) fun r1 M1 =>
  cal (f_KT_refused r1 M1) fun r3 M2 =>
  if r3 = 0 then (
    gd (isState (mR M2 0 9)) <|
    bd (mR M2 0 9) fun s6 =>
    bd (s6 + 9) fun v7 =>
    gd (isState (mR M2 0 9)) <|
    bd (mR M2 0 9) fun s9 =>
    gd (inb p1 4) <|
    gd (inb p2 4) <|
    cal (f_Tray_woolOf (2 * p2.toNatClampNeg + 67) (mI M2 v7 5) M2) fun r12 M3 =>
    gd (inb p1 4) <|
    bd (sA M3 (s9 + 2) (upd (mA M3 (s9 + 2)) p1.toNatClampNeg ((mA M2 (s9 + 2) p1.toNatClampNeg) - r12))) fun M4 =>
    f_KT_knit_l54 p1 p2 FU v7 (0 : Int32) M4)
  else (
    some (((-1) : Int32), M2))
set_option maxHeartbeats 1000000 in
def f_Cloth_woolIn_l4 (p0 : Nat) (p1 : Int32) : Nat → Int32 → Int32 → kx_M → Option (Int32 × kx_M)
  | 0, _, _, _ => none
  | n + 1, x2, x3, M =>
    if (mI M p0 5) ≤ x3 then (
      some (x2, M))
    else (
      cal (f_Cloth_at p1 x3 M) fun r1 M1 =>
      gd (inb r1 96) <|
      if (mA M1 (p0 + 4) r1.toNatClampNeg) = 0 then (
        gd (inb r1 96) <|
        gd (inb ((mA M1 (p0 + 2) r1.toNatClampNeg) &&& (3 : Int32)) 4) <|
        bd (x2 + (([1, 1, 2, 0] : List Int32).getD ((mA M1 (p0 + 2) r1.toNatClampNeg) &&& (3 : Int32)).toNatClampNeg 0)) fun v6 =>
        bd (x3 + Int32.ofInt 1) fun v7 =>
        f_Cloth_woolIn_l4 p0 p1 n v6 v7 M1)
      else (
        bd (x3 + Int32.ofInt 1) fun v8 =>
        f_Cloth_woolIn_l4 p0 p1 n x2 v8 M1))
set_option maxHeartbeats 1000000 in
def f_Cloth_woolIn (p0 : Nat) (p1 : Int32) (M : kx_M) : Option (Int32 × kx_M) :=
  f_Cloth_woolIn_l4 p0 p1 FU (0 : Int32) (0 : Int32) M
set_option maxHeartbeats 1000000 in
def f_Deal_giveWool (p0 : Nat) (p1 : Int32) (p2 : Int32) (M : kx_M) : Option (Unit × kx_M) :=
  gd (inb p1 4) <|
  gd (inb p1 4) <|
  bd (sA M (p0 + 1) (upd (mA M (p0 + 1)) p1.toNatClampNeg (if ((mA M (p0 + 1) p1.toNatClampNeg) + p2) < (999 : Int32) then ((mA M (p0 + 1) p1.toNatClampNeg) + p2) else (999 : Int32)))) fun M1 =>
  some ((), M1)
set_option maxHeartbeats 1000000 in
def f_KT_unravel_l22 (x1 : Nat) (s0 : Nat) (s1 : Int32) (M : kx_M) : Option (Int32 × kx_M) :=
  cal (f_KT_refused s1 M) fun r1 M1 =>
  if r1 = 0 then (
    bd ((mI M1 x1 7) - (1 : Int32)) fun v3 =>
    gd (isState (mR M1 0 9)) <|
    bd (mR M1 0 9) fun s5 =>
    gd (inb v3 12) <|
    cal (f_Cloth_woolIn x1 v3 M1) fun r7 M2 =>
    cal (f_Deal_giveWool (s5 + 1) (mA M1 (x1 + 1) v3.toNatClampNeg) r7 M2) fun _ M3 =>
    bd (sI M3 x1 7 v3) fun M4 =>
    some (v3, M4))
  else (
    some (((-1) : Int32), M1))
set_option maxHeartbeats 1000000 in
def f_KT_unravel (M : kx_M) : Option (Int32 × kx_M) :=
  gd (isState (mR M 0 9)) <|
  bd (mR M 0 9) fun s2 =>
  bd (s2 + 9) fun v3 =>
  if (mI M v3 7) = 0 then (
    f_KT_unravel_l22 v3 0 (8 : Int32) M)
  else (
    f_KT_unravel_l22 v3 0 (0 : Int32) M)
set_option maxHeartbeats 1000000 in
def f_KT_shear_l29 (p1 : Int32) (p2 : Int32) (x3 : Int32) (M : kx_M) : Option (Int32 × kx_M) :=
  cal (f_KT_refused x3 M) fun r1 M1 =>
  if r1 = 0 then (
    gd (isState (mR M1 0 9)) <|
    bd (mR M1 0 9) fun s4 =>
    cal (f_Deal_giveWool (s4 + 1) p1 p2 M1) fun _ M2 =>
    gd (isState (mR M2 0 9)) <|
    bd (mR M2 0 9) fun s8 =>
    gd (inb p1 4) <|
    some ((mA M2 (s8 + 2) p1.toNatClampNeg), M2))
  else (
    some (((-1) : Int32), M1))
set_option maxHeartbeats 1000000 in
def f_KT_shear (p1 : Int32) (p2 : Int32) (M : kx_M) : Option (Int32 × kx_M) :=
  cal (f_KT_noQueen p1 M) fun r1 M1 =>
  if r1 = 0 then (
    if p2 < (1 : Int32) then (
      f_KT_shear_l29 p1 p2 (5 : Int32) M1)
    else (
      if p2 ≤ (999 : Int32) then (
        f_KT_shear_l29 p1 p2 (0 : Int32) M1)
      else (
        f_KT_shear_l29 p1 p2 (5 : Int32) M1)))
  else (
    f_KT_shear_l29 p1 p2 (2 : Int32) M1)
set_option maxHeartbeats 1000000 in
def f_KT_saidIn_l22 (p1 : Int32) (p2 : Int32) (s0 : Nat) (s1 : Int32) (M : kx_M) : Option (Int32 × kx_M) :=
  cal (f_KT_refused s1 M) fun r1 M1 =>
  if r1 = 0 then (
    gd (isState (mR M1 0 9)) <|
    bd (mR M1 0 9) fun s4 =>
    gd (isState (mR M1 0 9)) <|
    bd (mR M1 0 9) fun s6 =>
    cal (f_Cloth_timesIn (s4 + 9) (s6 + 1) p1 p2 M1) fun r7 M2 =>
    some (r7, M2))
  else (
    some (((-1) : Int32), M1))
set_option maxHeartbeats 1000000 in
def f_KT_saidIn (p1 : Int32) (p2 : Int32) (M : kx_M) : Option (Int32 × kx_M) :=
  cal (f_KT_noClause p1 M) fun r1 M1 =>
  if r1 = 0 then (
    cal (f_KT_noRow p2 M1) fun r3 M2 =>
    if r3 = 0 then (
      f_KT_saidIn_l22 p1 p2 0 (0 : Int32) M2)
    else (
      f_KT_saidIn_l22 p1 p2 0 (2 : Int32) M2))
  else (
    f_KT_saidIn_l22 p1 p2 0 (2 : Int32) M1)
set_option maxHeartbeats 1000000 in
def f_KT_said_l26 (p1 : Int32) : Nat → Int32 → Int32 → kx_M → Option (Int32 × kx_M)
  | 0, _, _, _ => none
  | n + 1, x2, x3, M =>
    gd (isState (mR M 0 9)) <|
    bd (mR M 0 9) fun s2 =>
    if (mI M (s2 + 9) 7) ≤ x3 then (
      some (x2, M))
    else (
      gd (isState (mR M 0 9)) <|
      bd (mR M 0 9) fun s4 =>
      gd (isState (mR M 0 9)) <|
      bd (mR M 0 9) fun s6 =>
      cal (f_Cloth_timesIn (s4 + 9) (s6 + 1) p1 x3 M) fun r7 M1 =>
      bd (x2 + r7) fun v9 =>
      bd (x3 + Int32.ofInt 1) fun v10 =>
      f_KT_said_l26 p1 n v9 v10 M1)
set_option maxHeartbeats 1000000 in
def f_KT_said_l14 (p1 : Int32) (s0 : Nat) (s1 : Int32) (M : kx_M) : Option (Int32 × kx_M) :=
  cal (f_KT_refused s1 M) fun r1 M1 =>
  if r1 = 0 then (
    f_KT_said_l26 p1 FU (0 : Int32) (0 : Int32) M1)
  else (
    some (((-1) : Int32), M1))
set_option maxHeartbeats 1000000 in
def f_KT_said (p1 : Int32) (M : kx_M) : Option (Int32 × kx_M) :=
  cal (f_KT_noClause p1 M) fun r1 M1 =>
  if r1 = 0 then (
    f_KT_said_l14 p1 0 (0 : Int32) M1)
  else (
    f_KT_said_l14 p1 0 (2 : Int32) M1)
set_option maxHeartbeats 1000000 in
def f_KT_needs_l18 (p1 : Int32) (s0 : Nat) (s1 : Int32) (M : kx_M) : Option (Int32 × kx_M) :=
  cal (f_KT_refused s1 M) fun r1 M1 =>
  if r1 = 0 then (
    gd (inb p1 4) <|
    gd (isState (mR M1 0 9)) <|
    bd (mR M1 0 9) fun s5 =>
    cal (f_Tray_woolOf (2 * p1.toNatClampNeg + 67) (mI M1 (s5 + 9) 5) M1) fun r6 M2 =>
    some (r6, M2))
  else (
    some (((-1) : Int32), M1))
set_option maxHeartbeats 1000000 in
def f_KT_needs (p1 : Int32) (M : kx_M) : Option (Int32 × kx_M) :=
  cal (f_KT_noTray p1 M) fun r1 M1 =>
  if r1 = 0 then (
    cal (f_KT_kindsStatus p1 (0 : Int32) M1) fun r3 M2 =>
    f_KT_needs_l18 p1 0 r3 M2)
  else (
    f_KT_needs_l18 p1 0 (1 : Int32) M1)
set_option maxHeartbeats 1000000 in
def f_Cloth_copyFrom (p0 : Nat) (p1 : Nat) (M : kx_M) : Option (Unit × kx_M) :=
  bd (sI M p0 5 (mI M p1 5)) fun M1 =>
  bd (sI M1 p0 6 (mI M1 p1 6)) fun M2 =>
  bd (sI M2 p0 7 (mI M2 p1 7)) fun M3 =>
  bd (sI M3 p0 8 (mI M3 p1 8)) fun M4 =>
  bd (sA M4 (p0 + 1) (va_cpy (mA M4 (p1 + 1)) (mA M4 (p0 + 1)) (0 : Int32).toNatClampNeg (0 : Int32).toNatClampNeg (12 : Int32).toNatClampNeg)) fun M5 =>
  bd (sA M5 (p0 + 2) (va_cpy (mA M5 (p1 + 2)) (mA M5 (p0 + 2)) (0 : Int32).toNatClampNeg (0 : Int32).toNatClampNeg (96 : Int32).toNatClampNeg)) fun M6 =>
  bd (sA M6 (p0 + 3) (va_cpy (mA M6 (p1 + 3)) (mA M6 (p0 + 3)) (0 : Int32).toNatClampNeg (0 : Int32).toNatClampNeg (96 : Int32).toNatClampNeg)) fun M7 =>
  bd (sA M7 (p0 + 4) (va_cpy (mA M7 (p1 + 4)) (mA M7 (p0 + 4)) (0 : Int32).toNatClampNeg (0 : Int32).toNatClampNeg (96 : Int32).toNatClampNeg)) fun M8 =>
  bd (sA M8 (p0 + 5) (va_cpy (mA M8 (p1 + 5)) (mA M8 (p0 + 5)) (0 : Int32).toNatClampNeg (0 : Int32).toNatClampNeg (96 : Int32).toNatClampNeg)) fun M9 =>
  some ((), M9)
set_option maxHeartbeats 1000000 in
def f_KT_tried (M : kx_M) : Option (Nat × kx_M) :=
  gd (isState (mR M 0 10)) <|
  bd (mR M 0 10) fun s2 =>
  gd (isState (mR M 0 9)) <|
  bd (mR M 0 9) fun s4 =>
  cal (f_Cloth_copyFrom (s2 + 9) (s4 + 9) M) fun _ M1 =>
  gd (isState (mR M1 0 10)) <|
  bd (mR M1 0 10) fun s8 =>
  some ((s8 + 9), M1)
set_option maxHeartbeats 1000000 in
def f_Cloth_saysAnywhere_l2 (p0 : Nat) (p1 : Nat) (p2 : Int32) : Nat → Int32 → kx_M → Option (Int32 × kx_M)
  | 0, _, _ => none
  | n + 1, x3, M =>
    if (mI M p0 7) ≤ x3 then (
      some ((0 : Int32), M))
    else (
      cal (f_Cloth_timesIn p0 p1 p2 x3 M) fun r1 M1 =>
      if r1 ≤ 0 then (
        bd (x3 + Int32.ofInt 1) fun v3 =>
        f_Cloth_saysAnywhere_l2 p0 p1 p2 n v3 M1)
      else (
        some ((1 : Int32), M1)))
set_option maxHeartbeats 1000000 in
def f_Cloth_saysAnywhere (p0 : Nat) (p1 : Nat) (p2 : Int32) (M : kx_M) : Option (Int32 × kx_M) :=
  f_Cloth_saysAnywhere_l2 p0 p1 p2 FU (0 : Int32) M
set_option maxHeartbeats 1000000 in
def f_KT_lost_l29 (p1 : Int32) : Nat → Nat → Int32 → kx_M → Option (Int32 × kx_M)
  | 0, _, _, _ => none
  | n + 1, x2, x3, M =>
    if (99 : Int32) < x3 then (
      bd (sI M 0 13 (8 : Int32)) fun M1 =>
      some (((-1) : Int32), M1))
    else (
      gd (isState (mR M 0 9)) <|
      bd (mR M 0 9) fun s2 =>
      cal (f_Cloth_saysAnywhere x2 (s2 + 1) p1 M) fun r3 M2 =>
      if r3 = 0 then (
        some (x3, M2))
      else (
        cal (f_Cloth_anyLoose x2 M2) fun r5 M3 =>
        if r5 = 0 then (
          bd (sI M3 0 13 (8 : Int32)) fun M4 =>
          some (((-1) : Int32), M4))
        else (
          cal (f_Cloth_passYear x2 M3) fun r7 M5 =>
          bd (x3 + Int32.ofInt 1) fun v9 =>
          f_KT_lost_l29 p1 n x2 v9 M5)))
set_option maxHeartbeats 1000000 in
def f_KT_lost_l14 (p1 : Int32) (s0 : Nat) (s1 : Int32) (M : kx_M) : Option (Int32 × kx_M) :=
  cal (f_KT_refused s1 M) fun r1 M1 =>
  if r1 = 0 then (
    cal (f_KT_tried M1) fun r3 M2 =>
    gd (isCloth r3) <|
    f_KT_lost_l29 p1 FU r3 (0 : Int32) M2)
  else (
    some (((-1) : Int32), M1))
set_option maxHeartbeats 1000000 in
def f_KT_lost (p1 : Int32) (M : kx_M) : Option (Int32 × kx_M) :=
  cal (f_KT_noClause p1 M) fun r1 M1 =>
  if r1 = 0 then (
    f_KT_lost_l14 p1 0 (0 : Int32) M1)
  else (
    f_KT_lost_l14 p1 0 (2 : Int32) M1)
set_option maxHeartbeats 1000000 in
def f_KT_undoneIn_l16 (p1 : Int32) (s0 : Nat) (s1 : Int32) (M : kx_M) : Option (Int32 × kx_M) :=
  cal (f_KT_refused s1 M) fun r1 M1 =>
  if r1 = 0 then (
    cal (f_KT_tried M1) fun r3 M2 =>
    gd (isCloth r3) <|
    cal (f_Cloth_passYears r3 p1 M2) fun r6 M3 =>
    cal (f_Cloth_sum r3 (r3 + 4) M3) fun r8 M4 =>
    some (r8, M4))
  else (
    some (((-1) : Int32), M1))
set_option maxHeartbeats 1000000 in
def f_KT_undoneIn (p1 : Int32) (M : kx_M) : Option (Int32 × kx_M) :=
  if p1 < 0 then (
    f_KT_undoneIn_l16 p1 0 (5 : Int32) M)
  else (
    if p1 ≤ (99 : Int32) then (
      f_KT_undoneIn_l16 p1 0 (0 : Int32) M)
    else (
      f_KT_undoneIn_l16 p1 0 (5 : Int32) M))
set_option maxHeartbeats 1000000 in
def f_KT_pulled (p1 : Int32) (p2 : Int32) (M : kx_M) : Option (Int32 × kx_M) :=
  cal (f_KT_pullStatus p1 p2 M) fun r1 M1 =>
  cal (f_KT_refused r1 M1) fun r3 M2 =>
  if r3 = 0 then (
    cal (f_KT_tried M2) fun r5 M3 =>
    gd (isCloth r5) <|
    cal (f_Cloth_pullThread r5 p1 p2 M3) fun r8 M4 =>
    some (r8, M4))
  else (
    some (((-1) : Int32), M2))
set_option maxHeartbeats 1000000 in
def f_KT_worstPull_l51 (k34 : Int32 → Int32 → Int32 → kx_M → Option (Int32 × kx_M)) : Nat → Int32 → Int32 → Int32 → Int32 → kx_M → Option (Int32 × kx_M)
  | 0, _, _, _, _, _ => none
  | n + 1, x1, x2, x3, x4, M =>
    if (2 : Int32) ≤ x4 then (
      bd (x3 + Int32.ofInt 1) fun v1 =>
      k34 x1 x2 v1 M)
    else (
      cal (f_KT_tried M) fun r2 M1 =>
      gd (isCloth r2) <|
      cal (f_Cloth_pullThread r2 x3 x4 M1) fun r5 M2 =>
      if r5 ≤ x2 then (
        bd (x4 + Int32.ofInt 1) fun v7 =>
        f_KT_worstPull_l51 k34 n x1 x2 x3 v7 M2)
      else (
        bd (((10 : Int32) * x3) + x4) fun v8 =>
        bd (x4 + Int32.ofInt 1) fun v9 =>
        f_KT_worstPull_l51 k34 n v8 r5 x3 v9 M2))
set_option maxHeartbeats 1000000 in
def f_KT_worstPull_l34 : Nat → Int32 → Int32 → Int32 → kx_M → Option (Int32 × kx_M)
  | 0, _, _, _, _ => none
  | n + 1, x1, x2, x3, M =>
    gd (isState (mR M 0 9)) <|
    bd (mR M 0 9) fun s2 =>
    if (mI M (s2 + 9) 7) ≤ x3 then (
      some (x1, M))
    else (
      f_KT_worstPull_l51 (f_KT_worstPull_l34 n) FU x1 x2 x3 (0 : Int32) M)
set_option maxHeartbeats 1000000 in
def f_KT_worstPull_l20 (s0 : Nat) (s1 : Int32) (M : kx_M) : Option (Int32 × kx_M) :=
  cal (f_KT_refused s1 M) fun r1 M1 =>
  if r1 = 0 then (
    f_KT_worstPull_l34 FU (0 : Int32) ((-1) : Int32) (0 : Int32) M1)
  else (
    some (((-1) : Int32), M1))
set_option maxHeartbeats 1000000 in
def f_KT_worstPull (M : kx_M) : Option (Int32 × kx_M) :=
  gd (isState (mR M 0 9)) <|
  bd (mR M 0 9) fun s2 =>
  if (mI M (s2 + 9) 7) = 0 then (
    f_KT_worstPull_l20 0 (8 : Int32) M)
  else (
    f_KT_worstPull_l20 0 (0 : Int32) M)
set_option maxHeartbeats 1000000 in
def f_KT_pulledOut (p1 : Int32) (p2 : Int32) (M : kx_M) : Option (Int32 × kx_M) :=
  cal (f_KT_pullStatus p1 p2 M) fun r1 M1 =>
  cal (f_KT_refused r1 M1) fun r3 M2 =>
  if r3 = 0 then (
    cal (f_KT_tried M2) fun r5 M3 =>
    gd (isCloth r5) <|
    gd (isState (mR M3 0 9)) <|
    bd (mR M3 0 9) fun s9 =>
    cal (f_Cloth_saidSet r5 (s9 + 1) M3) fun r10 M4 =>
    cal (f_Cloth_pullThread r5 p1 p2 M4) fun r12 M5 =>
    gd (isState (mR M5 0 9)) <|
    bd (mR M5 0 9) fun s15 =>
    cal (f_Cloth_saidSet r5 (s15 + 1) M5) fun r16 M6 =>
    some ((r10 &&& (r16 ^^^ ((-1) : Int32))), M6))
  else (
    some (((-1) : Int32), M2))
set_option maxHeartbeats 1000000 in
def f_Int_bitCount (p0 : Int32) (M : kx_M) : Option (Int32 × kx_M) :=
  bd (p0 - (((p0.toUInt32 >>> ((1 : Int32).toUInt32 &&& Int32.toUInt32 31)).toInt32) &&& (1431655765 : Int32))) fun v1 =>
  bd ((v1 &&& (858993459 : Int32)) + (((v1.toUInt32 >>> ((2 : Int32).toUInt32 &&& Int32.toUInt32 31)).toInt32) &&& (858993459 : Int32))) fun v2 =>
  bd ((v2 + ((v2.toUInt32 >>> ((4 : Int32).toUInt32 &&& Int32.toUInt32 31)).toInt32)) &&& (252645135 : Int32)) fun v3 =>
  bd (v3 + ((v3.toUInt32 >>> ((8 : Int32).toUInt32 &&& Int32.toUInt32 31)).toInt32)) fun v4 =>
  bd (v4 + ((v4.toUInt32 >>> ((16 : Int32).toUInt32 &&& Int32.toUInt32 31)).toInt32)) fun v5 =>
  some ((v5 &&& (63 : Int32)), M)
set_option maxHeartbeats 1000000 in
def f_KT_inSet (p0 : Int32) (p1 : Int32) (M : kx_M) : Option (Int32 × kx_M) :=
  if ((p0 >>> (p1 &&& 31)) &&& (1 : Int32)) = (1 : Int32) then (
    some ((1 : Int32), M))
  else (
    some ((0 : Int32), M))
set_option maxHeartbeats 1000000 in
def f_KT_staysBy_l9 (p1 : Int32) (p2 : Int32) (p3 : Int32) (p4 : Int32) : Nat → Nat → Int32 → kx_M → Option (Int32 × kx_M)
  | 0, _, _, _ => none
  | n + 1, x5, x6, M =>
    if (mI M x5 5) ≤ x6 then (
      cal (f_Cloth_pullThread x5 p3 p4 M) fun r1 M1 =>
      gd (isState (mR M1 0 9)) <|
      bd (mR M1 0 9) fun s4 =>
      cal (f_Cloth_timesIn x5 (s4 + 1) p2 p3 M1) fun r5 M2 =>
      if r5 ≤ 0 then (
        some ((0 : Int32), M2))
      else (
        some ((1 : Int32), M2)))
    else (
      cal (f_KT_inSet p1 x6 M) fun r7 M3 =>
      if r7 = 0 then (
        bd (x6 + Int32.ofInt 1) fun v9 =>
        f_KT_staysBy_l9 p1 p2 p3 p4 n x5 v9 M3)
      else (
        cal (f_Cloth_patch x5 p3 x6 M3) fun r10 M4 =>
        bd (x6 + Int32.ofInt 1) fun v12 =>
        f_KT_staysBy_l9 p1 p2 p3 p4 n x5 v12 M4))
set_option maxHeartbeats 1000000 in
def f_KT_staysBy (p1 : Int32) (p2 : Int32) (p3 : Int32) (p4 : Int32) (M : kx_M) : Option (Int32 × kx_M) :=
  cal (f_KT_tried M) fun r1 M1 =>
  gd (isCloth r1) <|
  f_KT_staysBy_l9 p1 p2 p3 p4 FU r1 (0 : Int32) M1
set_option maxHeartbeats 1000000 in
def f_KT_mendingSet_l37 (p1 : Int32) (p2 : Int32) (p3 : Int32) : Nat → Int32 → Int32 → Int32 → kx_M → Option (Int32 × kx_M)
  | 0, _, _, _, _ => none
  | n + 1, x4, x5, x6, M =>
    gd (isState (mR M 0 9)) <|
    bd (mR M 0 9) fun s2 =>
    if ((1 : Int32) <<< ((mI M (s2 + 9) 5) &&& 31)) ≤ x6 then (
      if x4 = ((-1) : Int32) then (
        bd (sI M 0 13 (8 : Int32)) fun M1 =>
        some (x4, M1))
      else (
        bd (sI M 0 13 (0 : Int32)) fun M2 =>
        some (x4, M2)))
    else (
      cal (f_Int_bitCount x6 M) fun r3 M3 =>
      if x5 ≤ r3 then (
        bd (x6 + Int32.ofInt 1) fun v5 =>
        f_KT_mendingSet_l37 p1 p2 p3 n x4 x5 v5 M3)
      else (
        cal (f_KT_staysBy x6 p1 p2 p3 M3) fun r6 M4 =>
        if r6 = 0 then (
          bd (x6 + Int32.ofInt 1) fun v8 =>
          f_KT_mendingSet_l37 p1 p2 p3 n x4 x5 v8 M4)
        else (
          bd (x6 + Int32.ofInt 1) fun v9 =>
          f_KT_mendingSet_l37 p1 p2 p3 n x6 r3 v9 M4)))
set_option maxHeartbeats 1000000 in
def f_KT_mendingSet_l19 (p1 : Int32) (p2 : Int32) (p3 : Int32) (s0 : Nat) (s1 : Int32) (M : kx_M) : Option (Int32 × kx_M) :=
  cal (f_KT_refused s1 M) fun r1 M1 =>
  if r1 = 0 then (
    f_KT_mendingSet_l37 p1 p2 p3 FU ((-1) : Int32) (9 : Int32) (0 : Int32) M1)
  else (
    some (((-1) : Int32), M1))
set_option maxHeartbeats 1000000 in
def f_KT_mendingSet (p1 : Int32) (p2 : Int32) (p3 : Int32) (M : kx_M) : Option (Int32 × kx_M) :=
  cal (f_KT_noClause p1 M) fun r1 M1 =>
  if r1 = 0 then (
    cal (f_KT_pullStatus p2 p3 M1) fun r3 M2 =>
    f_KT_mendingSet_l19 p1 p2 p3 0 r3 M2)
  else (
    f_KT_mendingSet_l19 p1 p2 p3 0 (2 : Int32) M1)
set_option maxHeartbeats 1000000 in
def f_KT_mend (p1 : Int32) (p2 : Int32) (p3 : Int32) (M : kx_M) : Option (Int32 × kx_M) :=
  cal (f_KT_mendingSet p1 p2 p3 M) fun r1 M1 =>
  if (mI M1 0 13) = 0 then (
    cal (f_Int_bitCount r1 M1) fun r3 M2 =>
    some (r3, M2))
  else (
    some (((-1) : Int32), M1))
set_option maxHeartbeats 1000000 in
def f_KT_mendSet (p1 : Int32) (p2 : Int32) (p3 : Int32) (M : kx_M) : Option (Int32 × kx_M) :=
  cal (f_KT_mendingSet p1 p2 p3 M) fun r1 M1 =>
  some (r1, M1)
set_option maxHeartbeats 1000000 in
def f_KT_noSet (p1 : Int32) (M : kx_M) : Option (Int32 × kx_M) :=
  if p1 < 0 then (
    some ((1 : Int32), M))
  else (
    gd (isState (mR M 0 9)) <|
    bd (mR M 0 9) fun s2 =>
    if p1 < ((1 : Int32) <<< ((mI M (s2 + 1) 8) &&& 31)) then (
      some ((0 : Int32), M))
    else (
      some ((1 : Int32), M)))
set_option maxHeartbeats 1000000 in
def f_Deal_runOf_l5 (p0 : Nat) (p1 : Int32) : Nat → Int64 → Int32 → kx_M → Option (Int64 × kx_M)
  | 0, _, _, _ => none
  | n + 1, x2, x4, M =>
    gd (inb p1 6) <|
    if (mA M (p0 + 4) p1.toNatClampNeg) ≤ x4 then (
      some (x2, M))
    else (
      gd (inb ((p1 * (5 : Int32)) + x4) 30) <|
      bd ((x2 <<< ((2 : Int32).toInt64 &&& 63)) ||| ((mA M (p0 + 5) ((p1 * (5 : Int32)) + x4).toNatClampNeg).toInt64)) fun v3 =>
      bd (x4 + Int32.ofInt 1) fun v4 =>
      f_Deal_runOf_l5 p0 p1 n v3 v4 M)
set_option maxHeartbeats 1000000 in
def f_Deal_runOf (p0 : Nat) (p1 : Int32) (M : kx_M) : Option (Int64 × kx_M) :=
  f_Deal_runOf_l5 p0 p1 FU (0 : Int64) (0 : Int32) M
set_option maxHeartbeats 1000000 in
def f_Joiner_lowest (p0 : Int32) (M : kx_M) : Option (Int64 × kx_M) :=
  some ((((1 : Int64) <<< (((2 : Int32) * p0).toInt64 &&& 63)) - (1 : Int64)), M)
set_option maxHeartbeats 1000000 in
def f_Joiner_standsInOther_l80 (p0 : Nat) (p1 : Int32) (p2 : Int32) (k17 : Int32 → Int64 → Int32 → kx_M → Option (Int32 × kx_M)) : Nat → Int32 → Int64 → Int32 → Int32 → Int32 → Int64 → Int32 → kx_M → Option (Int32 × kx_M)
  | 0, _, _, _, _, _, _, _, _ => none
  | n + 1, x3, x4, x6, x7, x8, x9, x11, M =>
    if x8 = 0 then (
      bd (x6 + Int32.ofInt 1) fun v1 =>
      k17 x3 x4 v1 M)
    else (
      if x7 < x11 then (
        bd (x6 + Int32.ofInt 1) fun v2 =>
        k17 x3 x4 v2 M)
      else (
        cal (f_Joiner_lowest x3 M) fun r3 M1 =>
        if (lg_cmp ((x9 >>> (((2 : Int32) * x11).toInt64 &&& 63)) &&& r3) x4) = 0 then (
          some ((1 : Int32), M1))
        else (
          bd (x11 + Int32.ofInt 1) fun v5 =>
          f_Joiner_standsInOther_l80 p0 p1 p2 k17 n x3 x4 x6 x7 x8 x9 v5 M1)))
set_option maxHeartbeats 1000000 in
def f_Joiner_standsInOther_l66 (p0 : Nat) (p1 : Int32) (p2 : Int32) (k80 : Int32 → Int64 → Int32 → Int32 → Int32 → Int64 → Int32 → kx_M → Option (Int32 × kx_M)) (x3 : Int32) (x4 : Int64) (x6 : Int32) (x7 : Int32) (M : kx_M) : Option (Int32 × kx_M) :=
  cal (f_Deal_runOf p0 x6 M) fun r1 M1 =>
  k80 x3 x4 x6 x7 (0 : Int32) r1 (0 : Int32) M1
set_option maxHeartbeats 1000000 in
def f_Joiner_standsInOther_l62 (p0 : Nat) (p1 : Int32) (p2 : Int32) (k80 : Int32 → Int64 → Int32 → Int32 → Int32 → Int64 → Int32 → kx_M → Option (Int32 × kx_M)) (x3 : Int32) (x4 : Int64) (x6 : Int32) (x7 : Int32) (M : kx_M) : Option (Int32 × kx_M) :=
  cal (f_Deal_runOf p0 x6 M) fun r1 M1 =>
  k80 x3 x4 x6 x7 (1 : Int32) r1 (0 : Int32) M1
set_option maxHeartbeats 1000000 in
def f_Joiner_standsInOther_l17 (p0 : Nat) (p1 : Int32) (p2 : Int32) : Nat → Int32 → Int64 → Int32 → kx_M → Option (Int32 × kx_M)
  | 0, _, _, _, _ => none
  | n + 1, x3, x4, x6, M =>
    if (mI M p0 8) ≤ x6 then (
      some ((0 : Int32), M))
    else (
      gd (inb x6 6) <|
      bd ((mA M (p0 + 4) x6.toNatClampNeg) - x3) fun v2 =>
      cal (f_KT_inSet p1 x6 M) fun r3 M1 =>
      if r3 = 0 then (
        f_Joiner_standsInOther_l66 p0 p1 p2 (f_Joiner_standsInOther_l80 p0 p1 p2 (f_Joiner_standsInOther_l17 p0 p1 p2 n) FU) x3 x4 x6 v2 M1)
      else (
        if 0 < v2 then (
          f_Joiner_standsInOther_l62 p0 p1 p2 (f_Joiner_standsInOther_l80 p0 p1 p2 (f_Joiner_standsInOther_l17 p0 p1 p2 n) FU) x3 x4 x6 v2 M1)
        else (
          if v2 = 0 then (
            if p2 ≤ x6 then (
              f_Joiner_standsInOther_l66 p0 p1 p2 (f_Joiner_standsInOther_l80 p0 p1 p2 (f_Joiner_standsInOther_l17 p0 p1 p2 n) FU) x3 x4 x6 v2 M1)
            else (
              f_Joiner_standsInOther_l62 p0 p1 p2 (f_Joiner_standsInOther_l80 p0 p1 p2 (f_Joiner_standsInOther_l17 p0 p1 p2 n) FU) x3 x4 x6 v2 M1))
          else (
            f_Joiner_standsInOther_l66 p0 p1 p2 (f_Joiner_standsInOther_l80 p0 p1 p2 (f_Joiner_standsInOther_l17 p0 p1 p2 n) FU) x3 x4 x6 v2 M1))))
set_option maxHeartbeats 1000000 in
def f_Joiner_standsInOther (p0 : Nat) (p1 : Int32) (p2 : Int32) (M : kx_M) : Option (Int32 × kx_M) :=
  gd (inb p2 6) <|
  bd (mA M (p0 + 4) p2.toNatClampNeg) fun v2 =>
  cal (f_Deal_runOf p0 p2 M) fun r3 M1 =>
  f_Joiner_standsInOther_l17 p0 p1 p2 FU v2 r3 (0 : Int32) M1
set_option maxHeartbeats 1000000 in
def f_Joiner_gather_l7 (p1 : Nat) (p2 : Int32) : Nat → Int32 → kx_M → Option (Unit × kx_M)
  | 0, _, _ => none
  | n + 1, x3, M =>
    if (mI M p1 8) ≤ x3 then (
      some ((), M))
    else (
      cal (f_KT_inSet p2 x3 M) fun r1 M1 =>
      if r1 = 0 then (
        bd (x3 + Int32.ofInt 1) fun v3 =>
        f_Joiner_gather_l7 p1 p2 n v3 M1)
      else (
        cal (f_Joiner_standsInOther p1 p2 x3 M1) fun r4 M2 =>
        if r4 = 0 then (
          gd (inb x3 6) <|
          gd (inb (mI M2 18 4) 6) <|
          bd (sA M2 19 (upd (mA M2 19) (mI M2 18 4).toNatClampNeg (mA M2 (p1 + 4) x3.toNatClampNeg))) fun M3 =>
          cal (f_Deal_runOf p1 x3 M3) fun r8 M4 =>
          gd (inb (mI M3 18 4) 6) <|
          bd (sB M4 20 (vp_updL (mB M4 20) (mI M3 18 4).toNatClampNeg r8)) fun M5 =>
          bd (sI M5 18 4 ((mI M5 18 4) + (1 : Int32))) fun M6 =>
          bd (x3 + Int32.ofInt 1) fun v11 =>
          f_Joiner_gather_l7 p1 p2 n v11 M6)
        else (
          bd (x3 + Int32.ofInt 1) fun v12 =>
          f_Joiner_gather_l7 p1 p2 n v12 M2)))
set_option maxHeartbeats 1000000 in
def f_Joiner_gather (p1 : Nat) (p2 : Int32) (M : kx_M) : Option (Unit × kx_M) :=
  bd (sI M 18 4 (0 : Int32)) fun M1 =>
  f_Joiner_gather_l7 p1 p2 FU (0 : Int32) M1
set_option maxHeartbeats 1000000 in
def f_Arr_fill_2_l5 (p0 : Nat) (p1 : Int32) : Nat → Int32 → Int32 → kx_M → Option (Unit × kx_M)
  | 0, _, _, _ => none
  | n + 1, x2, x3, M =>
    if x3 ≤ x2 then (
      some ((), M))
    else (
      gd (aIb 1 p0 x2) <|
      bd (sA M p0 (upd (mA M p0) x2.toNatClampNeg p1)) fun M1 =>
      bd (x2 + Int32.ofInt 1) fun v2 =>
      f_Arr_fill_2_l5 p0 p1 n v2 x3 M1)
set_option maxHeartbeats 1000000 in
def f_Arr_fill_2 (p0 : Nat) (p1 : Int32) (M : kx_M) : Option (Unit × kx_M) :=
  gd (aLk 1 p0) <|
  bd (Int32.ofNat (aLn p0)) fun v2 =>
  f_Arr_fill_2_l5 p0 p1 FU (0 : Int32) v2 M
set_option maxHeartbeats 1000000 in
def f_Joiner_offer_l53 (p1 : Int32) (p2 : Int32) (p3 : Int32) (p4 : Int64) (x6 : Int32) (M : kx_M) : Option (Unit × kx_M) :=
  gd (inb x6 384) <|
  bd (sA M 21 (upd (mA M 21) x6.toNatClampNeg p3)) fun M1 =>
  gd (inb x6 384) <|
  bd (sB M1 22 (vp_updL (mB M1 22) x6.toNatClampNeg p4)) fun M2 =>
  some ((), M2)
set_option maxHeartbeats 1000000 in
def f_Joiner_offer (p1 : Int32) (p2 : Int32) (p3 : Int32) (p4 : Int64) (M : kx_M) : Option (Unit × kx_M) :=
  bd ((p1 * (6 : Int32)) + p2) fun v1 =>
  gd (inb v1 384) <|
  if (mA M 21 v1.toNatClampNeg) = 0 then (
    f_Joiner_offer_l53 p1 p2 p3 p4 v1 M)
  else (
    gd (inb v1 384) <|
    if p3 < (mA M 21 v1.toNatClampNeg) then (
      f_Joiner_offer_l53 p1 p2 p3 p4 v1 M)
    else (
      gd (inb v1 384) <|
      if p3 = (mA M 21 v1.toNatClampNeg) then (
        gd (inb v1 384) <|
        if 0 ≤ (lg_cmp p4 (mB M 22 v1.toNatClampNeg)) then (
          some ((), M))
        else (
          f_Joiner_offer_l53 p1 p2 p3 p4 v1 M))
      else (
        some ((), M))))
set_option maxHeartbeats 1000000 in
def f_Joiner_overlap_l21 (p1 : Int32) (p2 : Int32) : Nat → Int32 → kx_M → Option (Int32 × kx_M)
  | 0, _, _ => none
  | n + 1, x4, M =>
    if x4 ≤ 0 then (
      some ((0 : Int32), M))
    else (
      gd (inb p1 6) <|
      cal (f_Joiner_lowest x4 M) fun r2 M1 =>
      gd (inb p2 6) <|
      gd (inb p2 6) <|
      if (lg_cmp ((mB M 20 p1.toNatClampNeg) &&& r2) ((mB M1 20 p2.toNatClampNeg) >>> (((2 : Int32) * ((mA M1 19 p2.toNatClampNeg) - x4)).toInt64 &&& 63))) = 0 then (
        some (x4, M1))
      else (
        bd (x4 + Int32.ofInt (-1)) fun v6 =>
        f_Joiner_overlap_l21 p1 p2 n v6 M1))
set_option maxHeartbeats 1000000 in
def f_Joiner_overlap (p1 : Int32) (p2 : Int32) (M : kx_M) : Option (Int32 × kx_M) :=
  gd (inb p1 6) <|
  gd (inb p2 6) <|
  bd ((if (mA M 19 p2.toNatClampNeg) < (mA M 19 p1.toNatClampNeg) then (mA M 19 p2.toNatClampNeg) else (mA M 19 p1.toNatClampNeg)) - (1 : Int32)) fun v3 =>
  f_Joiner_overlap_l21 p1 p2 FU v3 M
set_option maxHeartbeats 1000000 in
def f_Joiner_extend_l10 (p1 : Int32) (p2 : Int32) : Nat → Int32 → Int32 → kx_M → Option (Unit × kx_M)
  | 0, _, _, _ => none
  | n + 1, x3, x4, M =>
    if (mI M 18 4) ≤ x4 then (
      some ((), M))
    else (
      cal (f_KT_inSet p1 x4 M) fun r1 M1 =>
      if r1 = 0 then (
        gd (inb x4 6) <|
        cal (f_Joiner_overlap p2 x4 M1) fun r4 M2 =>
        bd ((mA M1 19 x4.toNatClampNeg) - r4) fun v6 =>
        gd (inb x3 384) <|
        gd (inb x4 6) <|
        cal (f_Joiner_lowest v6 M2) fun r9 M3 =>
        bd (((mB M2 22 x3.toNatClampNeg) <<< (((2 : Int32) * v6).toInt64 &&& 63)) ||| ((mB M2 20 x4.toNatClampNeg) &&& r9)) fun v11 =>
        gd (inb x3 384) <|
        cal (f_Joiner_offer (p1 ||| ((1 : Int32) <<< (x4 &&& 31))) x4 ((mA M3 21 x3.toNatClampNeg) + v6) v11 M3) fun _ M4 =>
        bd (x4 + Int32.ofInt 1) fun v15 =>
        f_Joiner_extend_l10 p1 p2 n x3 v15 M4)
      else (
        bd (x4 + Int32.ofInt 1) fun v16 =>
        f_Joiner_extend_l10 p1 p2 n x3 v16 M1))
set_option maxHeartbeats 1000000 in
def f_Joiner_extend (p1 : Int32) (p2 : Int32) (M : kx_M) : Option (Unit × kx_M) :=
  bd ((p1 * (6 : Int32)) + p2) fun v1 =>
  f_Joiner_extend_l10 p1 p2 FU v1 (0 : Int32) M
set_option maxHeartbeats 1000000 in
def f_Joiner_choose_l81 (k12 : Int32 → kx_M → Option (Unit × kx_M)) (x1 : Int32) (x2 : Int32) (M : kx_M) : Option (Unit × kx_M) :=
  gd (inb x2 384) <|
  bd (sI M 18 5 (mA M 21 x2.toNatClampNeg)) fun M1 =>
  gd (inb x2 384) <|
  bd (sJ M1 18 6 (mB M1 22 x2.toNatClampNeg)) fun M2 =>
  bd (x1 + Int32.ofInt 1) fun v3 =>
  k12 v3 M2
set_option maxHeartbeats 1000000 in
def f_Joiner_choose_l12 : Nat → Int32 → kx_M → Option (Unit × kx_M)
  | 0, _, _ => none
  | n + 1, x1, M =>
    if (mI M 18 4) ≤ x1 then (
      some ((), M))
    else (
      bd (((((1 : Int32) <<< ((mI M 18 4) &&& 31)) - (1 : Int32)) * (6 : Int32)) + x1) fun v1 =>
      if (mI M 18 5) = 0 then (
        f_Joiner_choose_l81 (f_Joiner_choose_l12 n) x1 v1 M)
      else (
        gd (inb v1 384) <|
        if (mA M 21 v1.toNatClampNeg) < (mI M 18 5) then (
          f_Joiner_choose_l81 (f_Joiner_choose_l12 n) x1 v1 M)
        else (
          gd (inb v1 384) <|
          if (mA M 21 v1.toNatClampNeg) = (mI M 18 5) then (
            gd (inb v1 384) <|
            if 0 ≤ (lg_cmp (mB M 22 v1.toNatClampNeg) (mJ M 18 6)) then (
              bd (x1 + Int32.ofInt 1) fun v5 =>
              f_Joiner_choose_l12 n v5 M)
            else (
              f_Joiner_choose_l81 (f_Joiner_choose_l12 n) x1 v1 M))
          else (
            bd (x1 + Int32.ofInt 1) fun v6 =>
            f_Joiner_choose_l12 n v6 M))))
set_option maxHeartbeats 1000000 in
def f_Joiner_choose (M : kx_M) : Option (Unit × kx_M) :=
  bd (sI M 18 5 (0 : Int32)) fun M1 =>
  bd (sJ M1 18 6 (0 : Int64)) fun M2 =>
  f_Joiner_choose_l12 FU (0 : Int32) M2
set_option maxHeartbeats 1000000 in
def f_Joiner_join_l65 (p1 : Nat) (p2 : Int32) (k52 : Int32 → kx_M → Option (Unit × kx_M)) : Nat → Int32 → Int32 → kx_M → Option (Unit × kx_M)
  | 0, _, _, _ => none
  | n + 1, x3, x4, M =>
    if (mI M 18 4) ≤ x4 then (
      bd (x3 + Int32.ofInt 1) fun v1 =>
      k52 v1 M)
    else (
      gd (inb ((x3 * (6 : Int32)) + x4) 384) <|
      if (mA M 21 ((x3 * (6 : Int32)) + x4).toNatClampNeg) ≤ 0 then (
        bd (x4 + Int32.ofInt 1) fun v3 =>
        f_Joiner_join_l65 p1 p2 k52 n x3 v3 M)
      else (
        cal (f_Joiner_extend x3 x4 M) fun _ M1 =>
        bd (x4 + Int32.ofInt 1) fun v6 =>
        f_Joiner_join_l65 p1 p2 k52 n x3 v6 M1))
set_option maxHeartbeats 1000000 in
def f_Joiner_join_l52 (p1 : Nat) (p2 : Int32) : Nat → Int32 → kx_M → Option (Unit × kx_M)
  | 0, _, _ => none
  | n + 1, x3, M =>
    if ((1 : Int32) <<< ((mI M 18 4) &&& 31)) ≤ x3 then (
      cal (f_Joiner_choose M) fun _ M1 =>
      some ((), M1))
    else (
      f_Joiner_join_l65 p1 p2 (f_Joiner_join_l52 p1 p2 n) FU x3 (0 : Int32) M)
set_option maxHeartbeats 1000000 in
def f_Joiner_join_l16 (p1 : Nat) (p2 : Int32) : Nat → Int32 → kx_M → Option (Unit × kx_M)
  | 0, _, _ => none
  | n + 1, x3, M =>
    if (mI M 18 4) ≤ x3 then (
      f_Joiner_join_l52 p1 p2 FU (1 : Int32) M)
    else (
      gd (inb x3 6) <|
      gd (inb x3 6) <|
      cal (f_Joiner_offer ((1 : Int32) <<< (x3 &&& 31)) x3 (mA M 19 x3.toNatClampNeg) (mB M 20 x3.toNatClampNeg) M) fun _ M1 =>
      bd (x3 + Int32.ofInt 1) fun v5 =>
      f_Joiner_join_l16 p1 p2 n v5 M1)
set_option maxHeartbeats 1000000 in
def f_Joiner_join (p1 : Nat) (p2 : Int32) (M : kx_M) : Option (Unit × kx_M) :=
  cal (f_Joiner_gather p1 p2 M) fun _ M1 =>
  cal (f_Arr_fill_2 21 (0 : Int32) M1) fun _ M2 =>
  f_Joiner_join_l16 p1 p2 FU (0 : Int32) M2
set_option maxHeartbeats 1000000 in
def f_KT_shortest_l14 (p1 : Int32) (s0 : Nat) (s1 : Int32) (M : kx_M) : Option (Int32 × kx_M) :=
  cal (f_KT_refused s1 M) fun r1 M1 =>
  if r1 = 0 then (
    gd (isState (mR M1 0 9)) <|
    bd (mR M1 0 9) fun s4 =>
    cal (f_Joiner_join (s4 + 1) p1 M1) fun _ M2 =>
    some ((mI M2 18 5), M2))
  else (
    some (((-1) : Int32), M1))
set_option maxHeartbeats 1000000 in
def f_KT_shortest (p1 : Int32) (M : kx_M) : Option (Int32 × kx_M) :=
  cal (f_KT_noSet p1 M) fun r1 M1 =>
  if r1 = 0 then (
    f_KT_shortest_l14 p1 0 (0 : Int32) M1)
  else (
    f_KT_shortest_l14 p1 0 (5 : Int32) M1)
set_option maxHeartbeats 1000000 in
def f_KT_shortestAt_l59 (p1 : Int32) (p2 : Int32) (s0 : Nat) (s1 : Int32) (M : kx_M) : Option (Int32 × kx_M) :=
  cal (f_KT_refused s1 M) fun r1 M1 =>
  if r1 = 0 then (
    some (((((mJ M1 18 6) >>> (((2 : Int32) * (((mI M1 18 5) - (1 : Int32)) - p2)).toInt64 &&& 63)).toInt32) &&& (3 : Int32)), M1))
  else (
    some (((-1) : Int32), M1))
set_option maxHeartbeats 1000000 in
def f_KT_shortestAt_l14 (p1 : Int32) (p2 : Int32) (s0 : Nat) (s1 : Int32) (M : kx_M) : Option (Int32 × kx_M) :=
  cal (f_KT_refused s1 M) fun r1 M1 =>
  if r1 = 0 then (
    gd (isState (mR M1 0 9)) <|
    bd (mR M1 0 9) fun s4 =>
    cal (f_Joiner_join (s4 + 1) p1 M1) fun _ M2 =>
    if p2 < 0 then (
      f_KT_shortestAt_l59 p1 p2 0 (8 : Int32) M2)
    else (
      if p2 < (mI M2 18 5) then (
        f_KT_shortestAt_l59 p1 p2 0 (0 : Int32) M2)
      else (
        f_KT_shortestAt_l59 p1 p2 0 (8 : Int32) M2)))
  else (
    some (((-1) : Int32), M1))
set_option maxHeartbeats 1000000 in
def f_KT_shortestAt (p1 : Int32) (p2 : Int32) (M : kx_M) : Option (Int32 × kx_M) :=
  cal (f_KT_noSet p1 M) fun r1 M1 =>
  if r1 = 0 then (
    f_KT_shortestAt_l14 p1 p2 0 (0 : Int32) M1)
  else (
    f_KT_shortestAt_l14 p1 p2 0 (5 : Int32) M1)
set_option maxHeartbeats 1000000 in
def f_Deal_worthAt (p0 : Int32) (p1 : Int32) (p2 : Int32) (M : kx_M) : Option (Int32 × kx_M) :=
  some (((((p2 * (4 : Int32)) + p0) * (6 : Int32)) + p1), M)
set_option maxHeartbeats 1000000 in
def f_Deal_winOfOne (p0 : Nat) (p1 : Int32) (p2 : Int32) (M : kx_M) : Option (Int32 × kx_M) :=
  cal (f_Deal_worthAt p1 p2 (0 : Int32) M) fun r1 M1 =>
  gd (inb r1 48) <|
  cal (f_Deal_worthAt p1 p2 (1 : Int32) M1) fun r4 M2 =>
  gd (inb r4 48) <|
  some (((mA M1 (p0 + 7) r1.toNatClampNeg) - (mA M2 (p0 + 7) r4.toNatClampNeg)), M2)
set_option maxHeartbeats 1000000 in
def f_Deal_winOf_l5 (p0 : Nat) (p1 : Int32) (p2 : Int32) : Nat → Int32 → Int32 → kx_M → Option (Int32 × kx_M)
  | 0, _, _, _ => none
  | n + 1, x3, x4, M =>
    if (mI M p0 8) ≤ x4 then (
      some (x3, M))
    else (
      cal (f_KT_inSet p2 x4 M) fun r1 M1 =>
      if r1 = 0 then (
        bd (x4 + Int32.ofInt 1) fun v3 =>
        f_Deal_winOf_l5 p0 p1 p2 n x3 v3 M1)
      else (
        cal (f_Deal_winOfOne p0 p1 x4 M1) fun r4 M2 =>
        bd (x3 + r4) fun v6 =>
        bd (x4 + Int32.ofInt 1) fun v7 =>
        f_Deal_winOf_l5 p0 p1 p2 n v6 v7 M2))
set_option maxHeartbeats 1000000 in
def f_Deal_winOf (p0 : Nat) (p1 : Int32) (p2 : Int32) (M : kx_M) : Option (Int32 × kx_M) :=
  f_Deal_winOf_l5 p0 p1 p2 FU (0 : Int32) (0 : Int32) M
set_option maxHeartbeats 1000000 in
def f_KT_wins_l25 (p1 : Int32) (p2 : Int32) (x3 : Int32) (M : kx_M) : Option (Int32 × kx_M) :=
  cal (f_KT_refused x3 M) fun r1 M1 =>
  if r1 = 0 then (
    gd (isState (mR M1 0 9)) <|
    bd (mR M1 0 9) fun s4 =>
    cal (f_Deal_winOf (s4 + 1) p1 p2 M1) fun r5 M2 =>
    some (r5, M2))
  else (
    some (((-1) : Int32), M1))
set_option maxHeartbeats 1000000 in
def f_KT_wins (p1 : Int32) (p2 : Int32) (M : kx_M) : Option (Int32 × kx_M) :=
  cal (f_KT_noQueen p1 M) fun r1 M1 =>
  if r1 = 0 then (
    cal (f_KT_noSet p2 M1) fun r3 M2 =>
    if r3 = 0 then (
      f_KT_wins_l25 p1 p2 (0 : Int32) M2)
    else (
      f_KT_wins_l25 p1 p2 (5 : Int32) M2))
  else (
    f_KT_wins_l25 p1 p2 (2 : Int32) M1)
set_option maxHeartbeats 1000000 in
def f_Deal_winOfAll_l4 (p0 : Nat) (p1 : Int32) : Nat → Int32 → Int32 → kx_M → Option (Int32 × kx_M)
  | 0, _, _, _ => none
  | n + 1, x2, x3, M =>
    if (mI M p0 7) ≤ x3 then (
      some (x2, M))
    else (
      cal (f_Deal_winOf p0 x3 p1 M) fun r1 M1 =>
      bd (x2 + r1) fun v3 =>
      bd (x3 + Int32.ofInt 1) fun v4 =>
      f_Deal_winOfAll_l4 p0 p1 n v3 v4 M1)
set_option maxHeartbeats 1000000 in
def f_Deal_winOfAll (p0 : Nat) (p1 : Int32) (M : kx_M) : Option (Int32 × kx_M) :=
  f_Deal_winOfAll_l4 p0 p1 FU (0 : Int32) (0 : Int32) M
set_option maxHeartbeats 1000000 in
def f_Deal_atOdds (p0 : Nat) (p1 : Int32) (p2 : Int32) (M : kx_M) : Option (Int32 × kx_M) :=
  gd (inb ((p1 * (6 : Int32)) + p2) 36) <|
  if (mA M (p0 + 6) ((p1 * (6 : Int32)) + p2).toNatClampNeg) = (1 : Int32) then (
    some ((1 : Int32), M))
  else (
    some ((0 : Int32), M))
set_option maxHeartbeats 1000000 in
def f_Deal_signable_l63 (p0 : Nat) (p1 : Int32) : Nat → Int32 → kx_M → Option (Int32 × kx_M)
  | 0, _, _ => none
  | n + 1, x2, M =>
    if (mI M p0 7) ≤ x2 then (
      some ((1 : Int32), M))
    else (
      cal (f_Deal_winOf p0 x2 p1 M) fun r1 M1 =>
      if 0 ≤ r1 then (
        bd (x2 + Int32.ofInt 1) fun v3 =>
        f_Deal_signable_l63 p0 p1 n v3 M1)
      else (
        some ((0 : Int32), M1)))
set_option maxHeartbeats 1000000 in
def f_Deal_signable_l14 (p0 : Nat) (p1 : Int32) (k2 : Int32 → kx_M → Option (Int32 × kx_M)) : Nat → Int32 → Int32 → kx_M → Option (Int32 × kx_M)
  | 0, _, _, _ => none
  | n + 1, x2, x3, M =>
    if (mI M p0 8) ≤ x3 then (
      bd (x2 + Int32.ofInt 1) fun v1 =>
      k2 v1 M)
    else (
      cal (f_KT_inSet p1 x2 M) fun r2 M1 =>
      if r2 = 0 then (
        bd (x3 + Int32.ofInt 1) fun v4 =>
        f_Deal_signable_l14 p0 p1 k2 n x2 v4 M1)
      else (
        cal (f_KT_inSet p1 x3 M1) fun r5 M2 =>
        if r5 = 0 then (
          bd (x3 + Int32.ofInt 1) fun v7 =>
          f_Deal_signable_l14 p0 p1 k2 n x2 v7 M2)
        else (
          cal (f_Deal_atOdds p0 x2 x3 M2) fun r8 M3 =>
          if r8 = 0 then (
            bd (x3 + Int32.ofInt 1) fun v10 =>
            f_Deal_signable_l14 p0 p1 k2 n x2 v10 M3)
          else (
            some ((0 : Int32), M3)))))
set_option maxHeartbeats 1000000 in
def f_Deal_signable_l2 (p0 : Nat) (p1 : Int32) : Nat → Int32 → kx_M → Option (Int32 × kx_M)
  | 0, _, _ => none
  | n + 1, x2, M =>
    if (mI M p0 8) ≤ x2 then (
      f_Deal_signable_l63 p0 p1 FU (0 : Int32) M)
    else (
      bd (x2 + (1 : Int32)) fun v1 =>
      f_Deal_signable_l14 p0 p1 (f_Deal_signable_l2 p0 p1 n) FU x2 v1 M)
set_option maxHeartbeats 1000000 in
def f_Deal_signable (p0 : Nat) (p1 : Int32) (M : kx_M) : Option (Int32 × kx_M) :=
  f_Deal_signable_l2 p0 p1 FU (0 : Int32) M
set_option maxHeartbeats 1000000 in
def f_Deal_bestSet_l6 (p0 : Nat) : Nat → Int32 → Int32 → Int32 → kx_M → Option (Int32 × kx_M)
  | 0, _, _, _, _ => none
  | n + 1, x1, x2, x3, M =>
    if ((1 : Int32) <<< ((mI M p0 8) &&& 31)) ≤ x3 then (
      some (x1, M))
    else (
      cal (f_Deal_winOfAll p0 x3 M) fun r1 M1 =>
      if r1 ≤ x2 then (
        bd (x3 + Int32.ofInt 1) fun v3 =>
        f_Deal_bestSet_l6 p0 n x1 x2 v3 M1)
      else (
        cal (f_Deal_signable p0 x3 M1) fun r4 M2 =>
        if r4 = 0 then (
          bd (x3 + Int32.ofInt 1) fun v6 =>
          f_Deal_bestSet_l6 p0 n x1 x2 v6 M2)
        else (
          bd (x3 + Int32.ofInt 1) fun v7 =>
          f_Deal_bestSet_l6 p0 n x3 r1 v7 M2)))
set_option maxHeartbeats 1000000 in
def f_Deal_bestSet (p0 : Nat) (M : kx_M) : Option (Int32 × kx_M) :=
  f_Deal_bestSet_l6 p0 FU (0 : Int32) (0 : Int32) (1 : Int32) M
set_option maxHeartbeats 1000000 in
def f_KT_bargain (M : kx_M) : Option (Int32 × kx_M) :=
  bd (sI M 0 13 (0 : Int32)) fun M1 =>
  gd (isState (mR M1 0 9)) <|
  bd (mR M1 0 9) fun s2 =>
  cal (f_Deal_bestSet (s2 + 1) M1) fun r3 M2 =>
  some (r3, M2)
set_option maxHeartbeats 1000000 in
def f_KT_bargainWorth (M : kx_M) : Option (Int32 × kx_M) :=
  bd (sI M 0 13 (0 : Int32)) fun M1 =>
  gd (isState (mR M1 0 9)) <|
  bd (mR M1 0 9) fun s2 =>
  gd (isState (mR M1 0 9)) <|
  bd (mR M1 0 9) fun s4 =>
  cal (f_Deal_bestSet (s4 + 1) M1) fun r5 M2 =>
  cal (f_Deal_winOfAll (s2 + 1) r5 M2) fun r7 M3 =>
  some (r7, M3)
set_option maxHeartbeats 1000000 in
def f_Deal_holdsFast_l22 (p0 : Nat) (p1 : Int32) (k12 : Int32 → kx_M → Option (Int32 × kx_M)) : Nat → Int32 → Int32 → kx_M → Option (Int32 × kx_M)
  | 0, _, _, _ => none
  | n + 1, x2, x3, M =>
    if (mI M p0 7) ≤ x3 then (
      bd (x2 + Int32.ofInt 1) fun v1 =>
      k12 v1 M)
    else (
      cal (f_KT_inSet p1 x2 M) fun r2 M1 =>
      if r2 = 0 then (
        bd (x3 + Int32.ofInt 1) fun v4 =>
        f_Deal_holdsFast_l22 p0 p1 k12 n x2 v4 M1)
      else (
        cal (f_Deal_winOfOne p0 x3 x2 M1) fun r5 M2 =>
        if 0 ≤ r5 then (
          bd (x3 + Int32.ofInt 1) fun v7 =>
          f_Deal_holdsFast_l22 p0 p1 k12 n x2 v7 M2)
        else (
          some ((0 : Int32), M2))))
set_option maxHeartbeats 1000000 in
def f_Deal_holdsFast_l12 (p0 : Nat) (p1 : Int32) : Nat → Int32 → kx_M → Option (Int32 × kx_M)
  | 0, _, _ => none
  | n + 1, x2, M =>
    if (mI M p0 8) ≤ x2 then (
      some ((1 : Int32), M))
    else (
      f_Deal_holdsFast_l22 p0 p1 (f_Deal_holdsFast_l12 p0 p1 n) FU x2 (0 : Int32) M)
set_option maxHeartbeats 1000000 in
def f_Deal_holdsFast (p0 : Nat) (p1 : Int32) (M : kx_M) : Option (Int32 × kx_M) :=
  cal (f_Deal_signable p0 p1 M) fun r1 M1 =>
  if r1 = 0 then (
    some ((0 : Int32), M1))
  else (
    f_Deal_holdsFast_l12 p0 p1 FU (0 : Int32) M1)
set_option maxHeartbeats 1000000 in
def f_KT_stable_l14 (p1 : Int32) (s0 : Nat) (s1 : Int32) (M : kx_M) : Option (Int32 × kx_M) :=
  cal (f_KT_refused s1 M) fun r1 M1 =>
  if r1 = 0 then (
    gd (isState (mR M1 0 9)) <|
    bd (mR M1 0 9) fun s4 =>
    cal (f_Deal_holdsFast (s4 + 1) p1 M1) fun r5 M2 =>
    if r5 = 0 then (
      some ((0 : Int32), M2))
    else (
      some ((1 : Int32), M2)))
  else (
    some (((-1) : Int32), M1))
set_option maxHeartbeats 1000000 in
def f_KT_stable (p1 : Int32) (M : kx_M) : Option (Int32 × kx_M) :=
  cal (f_KT_noSet p1 M) fun r1 M1 =>
  if r1 = 0 then (
    f_KT_stable_l14 p1 0 (0 : Int32) M1)
  else (
    f_KT_stable_l14 p1 0 (5 : Int32) M1)
set_option maxHeartbeats 1000000 in
def f_KT_stables_l9 : Nat → Int32 → Int32 → kx_M → Option (Int32 × kx_M)
  | 0, _, _, _ => none
  | n + 1, x1, x2, M =>
    gd (isState (mR M 0 9)) <|
    bd (mR M 0 9) fun s2 =>
    if ((1 : Int32) <<< ((mI M (s2 + 1) 8) &&& 31)) ≤ x2 then (
      some (x1, M))
    else (
      gd (isState (mR M 0 9)) <|
      bd (mR M 0 9) fun s4 =>
      cal (f_Deal_holdsFast (s4 + 1) x2 M) fun r5 M1 =>
      if r5 = 0 then (
        bd (x2 + Int32.ofInt 1) fun v7 =>
        f_KT_stables_l9 n x1 v7 M1)
      else (
        bd (x1 + Int32.ofInt 1) fun v8 =>
        bd (x2 + Int32.ofInt 1) fun v9 =>
        f_KT_stables_l9 n v8 v9 M1))
set_option maxHeartbeats 1000000 in
def f_KT_stables (M : kx_M) : Option (Int32 × kx_M) :=
  bd (sI M 0 13 (0 : Int32)) fun M1 =>
  f_KT_stables_l9 FU (0 : Int32) (0 : Int32) M1
set_option maxHeartbeats 1000000 in
def f_KT_seenStatus (p1 : Int32) (p2 : Int32) (M : kx_M) : Option (Int32 × kx_M) :=
  cal (f_KT_noTray p2 M) fun r1 M1 =>
  if r1 = 0 then (
    cal (f_KT_noClause p1 M1) fun r3 M2 =>
    if r3 = 0 then (
      cal (f_KT_kindsStatus p2 ((-1) : Int32) M2) fun r5 M3 =>
      some (r5, M3))
    else (
      some ((2 : Int32), M2)))
  else (
    some ((1 : Int32), M1))
set_option maxHeartbeats 1000000 in
def f_Seen_firstOf (p1 : Int64) (p3 : Int32) (M : kx_M) : Option (Int64 × kx_M) :=
  some ((p1 >>> (((2 : Int32) * ((mI M 13 3) - p3)).toInt64 &&& 63)), M)
set_option maxHeartbeats 1000000 in
def f_Seen_lowest (p0 : Int32) (M : kx_M) : Option (Int64 × kx_M) :=
  some ((((1 : Int64) <<< (((2 : Int32) * p0).toInt64 &&& 63)) - (1 : Int64)), M)
set_option maxHeartbeats 1000000 in
def f_Seen_learn_l88 (p1 : Nat) (p2 : Int32) (k31 : Int64 → Int32 → Int32 → kx_M → Option (Unit × kx_M)) (x3 : Int64) (x5 : Int32) (x6 : Int32) (x9 : Int32) (M : kx_M) : Option (Unit × kx_M) :=
  gd (inb ((x5 * (4 : Int32)) + x6) 20) <|
  bd (sA M 15 (upd (mA M 15) ((x5 * (4 : Int32)) + x6).toNatClampNeg x9)) fun M1 =>
  bd (x6 + Int32.ofInt 1) fun v2 =>
  k31 x3 x5 v2 M1
set_option maxHeartbeats 1000000 in
def f_Seen_learn_l58 (p1 : Nat) (p2 : Int32) (k31 : Int64 → Int32 → Int32 → kx_M → Option (Unit × kx_M)) : Nat → Int64 → Int32 → Int32 → Int64 → Int32 → kx_M → Option (Unit × kx_M)
  | 0, _, _, _, _, _, _ => none
  | n + 1, x3, x5, x6, x7, x9, M =>
    if x9 ≤ 0 then (
      f_Seen_learn_l88 p1 p2 k31 x3 x5 x6 x9 M)
    else (
      cal (f_Seen_lowest x9 M) fun r1 M1 =>
      cal (f_Seen_firstOf x3 x9 M1) fun r3 M2 =>
      if (lg_cmp (x7 &&& r1) r3) = 0 then (
        f_Seen_learn_l88 p1 p2 k31 x3 x5 x6 x9 M2)
      else (
        bd (x9 + Int32.ofInt (-1)) fun v5 =>
        f_Seen_learn_l58 p1 p2 k31 n x3 x5 x6 x7 v5 M2))
set_option maxHeartbeats 1000000 in
def f_Seen_learn_l31 (p1 : Nat) (p2 : Int32) (k19 : Int64 → Int32 → kx_M → Option (Unit × kx_M)) : Nat → Int64 → Int32 → Int32 → kx_M → Option (Unit × kx_M)
  | 0, _, _, _, _ => none
  | n + 1, x3, x5, x6, M =>
    if (4 : Int32) ≤ x6 then (
      bd (x5 + Int32.ofInt 1) fun v1 =>
      k19 x3 v1 M)
    else (
      cal (f_Seen_firstOf x3 x5 M) fun r2 M1 =>
      bd ((r2 <<< ((2 : Int32).toInt64 &&& 63)) ||| (x6.toInt64)) fun v4 =>
      bd (x5 + (1 : Int32)) fun v5 =>
      f_Seen_learn_l58 p1 p2 (f_Seen_learn_l31 p1 p2 k19 n) FU x3 x5 x6 v4 v5 M1)
set_option maxHeartbeats 1000000 in
def f_Seen_learn_l19 (p1 : Nat) (p2 : Int32) : Nat → Int64 → Int32 → kx_M → Option (Unit × kx_M)
  | 0, _, _, _ => none
  | n + 1, x3, x5, M =>
    if (mI M 13 3) ≤ x5 then (
      some ((), M))
    else (
      f_Seen_learn_l31 p1 p2 (f_Seen_learn_l19 p1 p2 n) FU x3 x5 (0 : Int32) M)
set_option maxHeartbeats 1000000 in
def f_Seen_learn (p1 : Nat) (p2 : Int32) (M : kx_M) : Option (Unit × kx_M) :=
  gd (inb p2 6) <|
  bd (sI M 13 3 (mA M (p1 + 4) p2.toNatClampNeg)) fun M1 =>
  cal (f_Deal_runOf p1 p2 M1) fun r2 M2 =>
  f_Seen_learn_l19 p1 p2 FU r2 (0 : Int32) M2
set_option maxHeartbeats 1000000 in
def f_KT_lookAt_l34 (p1 : Int32) (p2 : Int32) : Nat → Int32 → kx_M → Option (Unit × kx_M)
  | 0, _, _ => none
  | n + 1, x3, M =>
    if (mI M 13 1) ≤ x3 then (
      some ((), M))
    else (
      gd (inb p2 4) <|
      gd (inb x3 60) <|
      gd (inb x3 8) <|
      bd (sA M 14 (upd (mA M 14) x3.toNatClampNeg ((mB M (2 * p2.toNatClampNeg + 68) x3.toNatClampNeg).toInt32))) fun M1 =>
      bd (x3 + Int32.ofInt 1) fun v4 =>
      f_KT_lookAt_l34 p1 p2 n v4 M1)
set_option maxHeartbeats 1000000 in
def f_KT_lookAt (p1 : Int32) (p2 : Int32) (M : kx_M) : Option (Unit × kx_M) :=
  gd (isState (mR M 0 9)) <|
  bd (mR M 0 9) fun s2 =>
  cal (f_Seen_learn (s2 + 1) p1 M) fun _ M1 =>
  gd (isState (mR M1 0 9)) <|
  bd (mR M1 0 9) fun s6 =>
  bd (sI M1 13 1 (mI M1 (s6 + 9) 5)) fun M2 =>
  f_KT_lookAt_l34 p1 p2 FU (0 : Int32) M2
set_option maxHeartbeats 1000000 in
def f_Seen_passColumn_l27 (p1 : Int32) (k10 : Int32 → kx_M → Option (Unit × kx_M)) : Nat → Int32 → Int32 → kx_M → Option (Unit × kx_M)
  | 0, _, _, _ => none
  | n + 1, x2, x3, M =>
    if (mI M 13 3) ≤ x3 then (
      gd (aIb 1 (mR M 13 5) (mI M 13 3)) <|
      gd (aIb 1 (mR M 13 4) (mI M 13 3)) <|
      gd (aIb 1 (mR M 13 5) (mI M 13 3)) <|
      bd (sA M (mR M 13 5) (upd (mA M (mR M 13 5)) (mI M 13 3).toNatClampNeg ((mA M (mR M 13 5) (mI M 13 3).toNatClampNeg) + (mA M (mR M 13 4) (mI M 13 3).toNatClampNeg)))) fun M1 =>
      bd (x2 + Int32.ofInt 1) fun v4 =>
      k10 v4 M1)
    else (
      gd (inb ((x3 * (4 : Int32)) + x2) 20) <|
      gd (aIb 1 (mR M 13 5) (mA M 15 ((x3 * (4 : Int32)) + x2).toNatClampNeg)) <|
      gd (aIb 1 (mR M 13 4) x3) <|
      gd (aIb 1 (mR M 13 5) (mA M 15 ((x3 * (4 : Int32)) + x2).toNatClampNeg)) <|
      bd (sA M (mR M 13 5) (upd (mA M (mR M 13 5)) (mA M 15 ((x3 * (4 : Int32)) + x2).toNatClampNeg).toNatClampNeg ((mA M (mR M 13 5) (mA M 15 ((x3 * (4 : Int32)) + x2).toNatClampNeg).toNatClampNeg) + (mA M (mR M 13 4) x3.toNatClampNeg)))) fun M2 =>
      bd (x3 + Int32.ofInt 1) fun v9 =>
      f_Seen_passColumn_l27 p1 k10 n x2 v9 M2)
set_option maxHeartbeats 1000000 in
def f_Seen_passColumn_l10 (p1 : Int32) : Nat → Int32 → kx_M → Option (Unit × kx_M)
  | 0, _, _ => none
  | n + 1, x2, M =>
    if (4 : Int32) ≤ x2 then (
      bd (mR M 13 4) fun v1 =>
      bd (sR M 13 4 (mR M 13 5)) fun M1 =>
      bd (sR M1 13 5 v1) fun M2 =>
      some ((), M2))
    else (
      if p1 = ((-1) : Int32) then (
        f_Seen_passColumn_l27 p1 (f_Seen_passColumn_l10 p1 n) FU x2 (0 : Int32) M)
      else (
        if p1 = x2 then (
          f_Seen_passColumn_l27 p1 (f_Seen_passColumn_l10 p1 n) FU x2 (0 : Int32) M)
        else (
          bd (x2 + Int32.ofInt 1) fun v2 =>
          f_Seen_passColumn_l10 p1 n v2 M)))
set_option maxHeartbeats 1000000 in
def f_Seen_passColumn (p1 : Int32) (M : kx_M) : Option (Unit × kx_M) :=
  cal (f_Arr_fill_2 (mR M 13 5) (0 : Int32) M) fun _ M1 =>
  f_Seen_passColumn_l10 p1 FU (0 : Int32) M1
set_option maxHeartbeats 1000000 in
def f_Seen_count_l17 : Nat → Int32 → kx_M → Option (Int32 × kx_M)
  | 0, _, _ => none
  | n + 1, x1, M =>
    if (mI M 13 1) ≤ x1 then (
      gd (aIb 1 (mR M 13 4) (mI M 13 3)) <|
      some ((mA M (mR M 13 4) (mI M 13 3).toNatClampNeg), M))
    else (
      gd (inb x1 8) <|
      cal (f_Seen_passColumn (mA M 14 x1.toNatClampNeg) M) fun _ M1 =>
      bd (x1 + Int32.ofInt 1) fun v5 =>
      f_Seen_count_l17 n v5 M1)
set_option maxHeartbeats 1000000 in
def f_Seen_count (M : kx_M) : Option (Int32 × kx_M) :=
  cal (f_Arr_fill_2 (mR M 13 4) (0 : Int32) M) fun _ M1 =>
  gd (aIb 1 (mR M1 13 4) (0 : Int32)) <|
  bd (sA M1 (mR M1 13 4) (upd (mA M1 (mR M1 13 4)) (0 : Int32).toNatClampNeg (1 : Int32))) fun M2 =>
  f_Seen_count_l17 FU (0 : Int32) M2
set_option maxHeartbeats 1000000 in
def f_KT_fills (p1 : Int32) (p2 : Int32) (M : kx_M) : Option (Int32 × kx_M) :=
  cal (f_KT_seenStatus p1 p2 M) fun r1 M1 =>
  cal (f_KT_refused r1 M1) fun r3 M2 =>
  if r3 = 0 then (
    cal (f_KT_lookAt p1 p2 M2) fun _ M3 =>
    cal (f_Seen_count M3) fun r7 M4 =>
    some (r7, M4))
  else (
    some (((-1) : Int32), M2))
set_option maxHeartbeats 1000000 in
def f_Seen_countWith (p1 : Int32) (p2 : Int32) (M : kx_M) : Option (Int32 × kx_M) :=
  gd (inb p1 8) <|
  bd (mA M 14 p1.toNatClampNeg) fun v2 =>
  gd (inb p1 8) <|
  bd (sA M 14 (upd (mA M 14) p1.toNatClampNeg p2)) fun M1 =>
  cal (f_Seen_count M1) fun r4 M2 =>
  gd (inb p1 8) <|
  bd (sA M2 14 (upd (mA M2 14) p1.toNatClampNeg v2)) fun M3 =>
  some (r4, M3)
set_option maxHeartbeats 1000000 in
def f_Seen_bestColumn_l31 (k7 : Int32 → Int32 → Int32 → kx_M → Option (Int32 × kx_M)) : Nat → Int32 → Int32 → Int32 → Int32 → Int32 → kx_M → Option (Int32 × kx_M)
  | 0, _, _, _, _, _, _ => none
  | n + 1, x1, x2, x3, x4, x5, M =>
    if (4 : Int32) ≤ x5 then (
      if x2 ≤ x4 then (
        bd (x3 + Int32.ofInt 1) fun v1 =>
        k7 x1 x2 v1 M)
      else (
        bd (x3 + Int32.ofInt 1) fun v2 =>
        k7 x3 x4 v2 M))
    else (
      cal (f_Seen_countWith x3 x5 M) fun r3 M1 =>
      bd (if x4 < r3 then r3 else x4) fun v5 =>
      bd (x5 + Int32.ofInt 1) fun v6 =>
      f_Seen_bestColumn_l31 k7 n x1 x2 x3 v5 v6 M1)
set_option maxHeartbeats 1000000 in
def f_Seen_bestColumn_l7 : Nat → Int32 → Int32 → Int32 → kx_M → Option (Int32 × kx_M)
  | 0, _, _, _, _ => none
  | n + 1, x1, x2, x3, M =>
    if (mI M 13 1) ≤ x3 then (
      some (x1, M))
    else (
      gd (inb x3 8) <|
      if (mA M 14 x3.toNatClampNeg) = ((-1) : Int32) then (
        f_Seen_bestColumn_l31 (f_Seen_bestColumn_l7 n) FU x1 x2 x3 (0 : Int32) (0 : Int32) M)
      else (
        bd (x3 + Int32.ofInt 1) fun v2 =>
        f_Seen_bestColumn_l7 n x1 x2 v2 M))
set_option maxHeartbeats 1000000 in
def f_Seen_bestColumn (M : kx_M) : Option (Int32 × kx_M) :=
  f_Seen_bestColumn_l7 FU ((-1) : Int32) (65537 : Int32) (0 : Int32) M
set_option maxHeartbeats 1000000 in
def f_KT_look (p1 : Int32) (p2 : Int32) (M : kx_M) : Option (Int32 × kx_M) :=
  cal (f_KT_seenStatus p1 p2 M) fun r1 M1 =>
  cal (f_KT_refused r1 M1) fun r3 M2 =>
  if r3 = 0 then (
    cal (f_KT_lookAt p1 p2 M2) fun _ M3 =>
    cal (f_Seen_count M3) fun r7 M4 =>
    if (2 : Int32) ≤ r7 then (
      cal (f_KT_refused (0 : Int32) M4) fun r9 M5 =>
      if r9 = 0 then (
        cal (f_Seen_bestColumn M5) fun r11 M6 =>
        some (r11, M6))
      else (
        some (((-1) : Int32), M5)))
    else (
      cal (f_KT_refused (8 : Int32) M4) fun r13 M7 =>
      if r13 = 0 then (
        cal (f_Seen_bestColumn M7) fun r15 M8 =>
        some (r15, M8))
      else (
        some (((-1) : Int32), M7))))
  else (
    some (((-1) : Int32), M2))
set_option maxHeartbeats 1000000 in
def f_Seen_onlyKind_l30 (p1 : Int32) : Nat → Int32 → Int32 → kx_M → Option (Int32 × kx_M)
  | 0, _, _, _ => none
  | n + 1, x2, x3, M =>
    if (4 : Int32) ≤ x3 then (
      some (((-1) : Int32), M))
    else (
      cal (f_Seen_countWith p1 x3 M) fun r1 M1 =>
      if r1 = x2 then (
        some (x3, M1))
      else (
        bd (x3 + Int32.ofInt 1) fun v3 =>
        f_Seen_onlyKind_l30 p1 n x2 v3 M1))
set_option maxHeartbeats 1000000 in
def f_Seen_onlyKind (p1 : Int32) (M : kx_M) : Option (Int32 × kx_M) :=
  cal (f_Seen_count M) fun r1 M1 =>
  if r1 = 0 then (
    some (((-1) : Int32), M1))
  else (
    gd (inb p1 8) <|
    if (mA M1 14 p1.toNatClampNeg) = ((-1) : Int32) then (
      f_Seen_onlyKind_l30 p1 FU r1 (0 : Int32) M1)
    else (
      gd (inb p1 8) <|
      some ((mA M1 14 p1.toNatClampNeg), M1)))
set_option maxHeartbeats 1000000 in
def f_KT_sure_l38 (p1 : Int32) (p2 : Int32) (p3 : Int32) (x4 : Int32) (M : kx_M) : Option (Int32 × kx_M) :=
  cal (f_KT_refused x4 M) fun r1 M1 =>
  if r1 = 0 then (
    cal (f_KT_lookAt p1 p2 M1) fun _ M2 =>
    cal (f_Seen_onlyKind p3 M2) fun r5 M3 =>
    if r5 = ((-1) : Int32) then (
      bd (sI M3 0 13 (8 : Int32)) fun M4 =>
      some (r5, M4))
    else (
      bd (sI M3 0 13 (0 : Int32)) fun M5 =>
      some (r5, M5)))
  else (
    some (((-1) : Int32), M1))
set_option maxHeartbeats 1000000 in
def f_KT_sure (p1 : Int32) (p2 : Int32) (p3 : Int32) (M : kx_M) : Option (Int32 × kx_M) :=
  cal (f_KT_noTray p2 M) fun r1 M1 =>
  if r1 = 0 then (
    cal (f_KT_noColumn p3 M1) fun r3 M2 =>
    if r3 = 0 then (
      cal (f_KT_seenStatus p1 p2 M2) fun r5 M3 =>
      f_KT_sure_l38 p1 p2 p3 r5 M3)
    else (
      f_KT_sure_l38 p1 p2 p3 (2 : Int32) M2))
  else (
    f_KT_sure_l38 p1 p2 p3 (1 : Int32) M1)
set_option maxHeartbeats 1000000 in
def f_Deal_copyFrom (p0 : Nat) (p1 : Nat) (M : kx_M) : Option (Unit × kx_M) :=
  bd (sI M p0 7 (mI M p1 7)) fun M1 =>
  bd (sI M1 p0 8 (mI M1 p1 8)) fun M2 =>
  bd (sA M2 (p0 + 1) (va_cpy (mA M2 (p1 + 1)) (mA M2 (p0 + 1)) (0 : Int32).toNatClampNeg (0 : Int32).toNatClampNeg (4 : Int32).toNatClampNeg)) fun M3 =>
  bd (sB M3 (p0 + 2) (va_cpy (mB M3 (p1 + 2)) (mB M3 (p0 + 2)) (0 : Int32).toNatClampNeg (0 : Int32).toNatClampNeg (4 : Int32).toNatClampNeg)) fun M4 =>
  bd (sB M4 (p0 + 3) (va_cpy (mB M4 (p1 + 3)) (mB M4 (p0 + 3)) (0 : Int32).toNatClampNeg (0 : Int32).toNatClampNeg (6 : Int32).toNatClampNeg)) fun M5 =>
  bd (sA M5 (p0 + 4) (va_cpy (mA M5 (p1 + 4)) (mA M5 (p0 + 4)) (0 : Int32).toNatClampNeg (0 : Int32).toNatClampNeg (6 : Int32).toNatClampNeg)) fun M6 =>
  bd (sA M6 (p0 + 5) (va_cpy (mA M6 (p1 + 5)) (mA M6 (p0 + 5)) (0 : Int32).toNatClampNeg (0 : Int32).toNatClampNeg (30 : Int32).toNatClampNeg)) fun M7 =>
  bd (sA M7 (p0 + 6) (va_cpy (mA M7 (p1 + 6)) (mA M7 (p0 + 6)) (0 : Int32).toNatClampNeg (0 : Int32).toNatClampNeg (36 : Int32).toNatClampNeg)) fun M8 =>
  bd (sA M8 (p0 + 7) (va_cpy (mA M8 (p1 + 7)) (mA M8 (p0 + 7)) (0 : Int32).toNatClampNeg (0 : Int32).toNatClampNeg (48 : Int32).toNatClampNeg)) fun M9 =>
  some ((), M9)
set_option maxHeartbeats 1000000 in
def f_Script_copyFrom (p0 : Nat) (p1 : Nat) (M : kx_M) : Option (Unit × kx_M) :=
  gd (b01 (mI M p1 4)) <|
  bd (sI M p0 4 (mI M p1 4)) fun M1 =>
  bd (sI M1 p0 5 (mI M1 p1 5)) fun M2 =>
  bd (sI M2 p0 6 (mI M2 p1 6)) fun M3 =>
  bd (sA M3 (p0 + 1) (va_cpy (mA M3 (p1 + 1)) (mA M3 (p0 + 1)) (0 : Int32).toNatClampNeg (0 : Int32).toNatClampNeg (60 : Int32).toNatClampNeg)) fun M4 =>
  bd (sA M4 (p0 + 2) (va_cpy (mA M4 (p1 + 2)) (mA M4 (p0 + 2)) (0 : Int32).toNatClampNeg (0 : Int32).toNatClampNeg (60 : Int32).toNatClampNeg)) fun M5 =>
  bd (sA M5 (p0 + 3) (va_cpy (mA M5 (p1 + 3)) (mA M5 (p0 + 3)) (0 : Int32).toNatClampNeg (0 : Int32).toNatClampNeg (60 : Int32).toNatClampNeg)) fun M6 =>
  bd (sA M6 (p0 + 4) (va_cpy (mA M6 (p1 + 4)) (mA M6 (p0 + 4)) (0 : Int32).toNatClampNeg (0 : Int32).toNatClampNeg (60 : Int32).toNatClampNeg)) fun M7 =>
  some ((), M7)
set_option maxHeartbeats 1000000 in
def f_State_copyFrom (p0 : Nat) (p1 : Nat) (M : kx_M) : Option (Unit × kx_M) :=
  cal (f_Deal_copyFrom (p0 + 1) (p1 + 1) M) fun _ M1 =>
  cal (f_Cloth_copyFrom (p0 + 9) (p1 + 9) M1) fun _ M2 =>
  cal (f_Script_copyFrom (p0 + 15) (p1 + 15) M2) fun _ M3 =>
  some ((), M3)
set_option maxHeartbeats 1000000 in
def f_KT_mark_l15 (s0 : Nat) (s1 : Int32) (M : kx_M) : Option (Int32 × kx_M) :=
  cal (f_KT_refused s1 M) fun r1 M1 =>
  if r1 = 0 then (
    gd (inb (mI M1 0 12) 3) <|
    gd (isState (mR M1 0 9)) <|
    bd (mR M1 0 9) fun s5 =>
    cal (f_State_copyFrom (20 * (mI M1 0 12).toNatClampNeg + 75) s5 M1) fun _ M2 =>
    bd (sI M2 0 12 ((mI M2 0 12) + (1 : Int32))) fun M3 =>
    some ((mI M3 0 12), M3))
  else (
    some (((-1) : Int32), M1))
set_option maxHeartbeats 1000000 in
def f_KT_mark (M : kx_M) : Option (Int32 × kx_M) :=
  if (mI M 0 12) < (3 : Int32) then (
    f_KT_mark_l15 0 (0 : Int32) M)
  else (
    f_KT_mark_l15 0 (7 : Int32) M)
set_option maxHeartbeats 1000000 in
def f_KT_back_l14 (s0 : Nat) (s1 : Int32) (M : kx_M) : Option (Int32 × kx_M) :=
  cal (f_KT_refused s1 M) fun r1 M1 =>
  if r1 = 0 then (
    bd (sI M1 0 12 ((mI M1 0 12) - (1 : Int32))) fun M2 =>
    gd (isState (mR M2 0 9)) <|
    bd (mR M2 0 9) fun s4 =>
    gd (inb (mI M2 0 12) 3) <|
    cal (f_State_copyFrom s4 (20 * (mI M2 0 12).toNatClampNeg + 75) M2) fun _ M3 =>
    some ((mI M3 0 12), M3))
  else (
    some (((-1) : Int32), M1))
set_option maxHeartbeats 1000000 in
def f_KT_back (M : kx_M) : Option (Int32 × kx_M) :=
  if (mI M 0 12) = 0 then (
    f_KT_back_l14 0 (8 : Int32) M)
  else (
    f_KT_back_l14 0 (0 : Int32) M)
set_option maxHeartbeats 1000000 in
def f_LW_four (p1 : Int32) (M : kx_M) : Option (Int32 × kx_M) :=
  gd (inb p1 24) <|
  gd (inb (p1 + (1 : Int32)) 24) <|
  gd (inb (p1 + (2 : Int32)) 24) <|
  gd (inb (p1 + (3 : Int32)) 24) <|
  some ((((((mA M 135 p1.toNatClampNeg) <<< ((24 : Int32) &&& 31)) ||| ((mA M 135 (p1 + (1 : Int32)).toNatClampNeg) <<< ((16 : Int32) &&& 31))) ||| ((mA M 135 (p1 + (2 : Int32)).toNatClampNeg) <<< ((8 : Int32) &&& 31))) ||| (mA M 135 (p1 + (3 : Int32)).toNatClampNeg)), M)
set_option maxHeartbeats 1000000 in
def f_KT_feedInt_l3 (p1 : Int32) : Nat → Int32 → kx_M → Option (Unit × kx_M)
  | 0, _, _ => none
  | n + 1, x2, M =>
    if x2 < 0 then (
      some ((), M))
    else (
      if (900 : Int32) ≤ (mI M 0 11) then (
        bd (x2 + Int32.ofInt (-8)) fun v1 =>
        f_KT_feedInt_l3 p1 n v1 M)
      else (
        gd (inb (mI M 0 11) 900) <|
        bd (sA M 2 (upd (mA M 2) (mI M 0 11).toNatClampNeg (((p1.toUInt32 >>> (x2.toUInt32 &&& Int32.toUInt32 31)).toInt32) &&& (255 : Int32)))) fun M1 =>
        bd (sI M1 0 11 ((mI M1 0 11) + (1 : Int32))) fun M2 =>
        bd (x2 + Int32.ofInt (-8)) fun v3 =>
        f_KT_feedInt_l3 p1 n v3 M2))
set_option maxHeartbeats 1000000 in
def f_KT_feedInt (p1 : Int32) (M : kx_M) : Option (Unit × kx_M) :=
  f_KT_feedInt_l3 p1 FU (24 : Int32) M
set_option maxHeartbeats 1000000 in
def f_KT_feed (p1 : Int32) (p2 : Int32) (p3 : Int32) (p4 : Int32) (p5 : Int32) (M : kx_M) : Option (Int32 × kx_M) :=
  if ((mI M 0 11) + (20 : Int32)) ≤ (900 : Int32) then (
    cal (f_KT_feedInt p1 M) fun _ M1 =>
    cal (f_KT_feedInt p2 M1) fun _ M2 =>
    cal (f_KT_feedInt p3 M2) fun _ M3 =>
    cal (f_KT_feedInt p4 M3) fun _ M4 =>
    cal (f_KT_feedInt p5 M4) fun _ M5 =>
    some ((mI M5 0 11), M5))
  else (
    some (((-1) : Int32), M))
set_option maxHeartbeats 1000000 in
def f_LW_feed_l5 : Nat → Int32 → kx_M → Option (Unit × kx_M)
  | 0, _, _ => none
  | n + 1, x2, M =>
    if (20 : Int32) ≤ x2 then (
      cal (f_LW_four (0 : Int32) M) fun r1 M1 =>
      cal (f_LW_four (4 : Int32) M1) fun r3 M2 =>
      cal (f_LW_four (8 : Int32) M2) fun r5 M3 =>
      cal (f_LW_four (12 : Int32) M3) fun r7 M4 =>
      cal (f_LW_four (16 : Int32) M4) fun r9 M5 =>
      cal (f_KT_feed r1 r3 r5 r7 r9 M5) fun r11 M6 =>
      gd (inb (20 : Int32) 24) <|
      bd (sA M6 135 (upd (mA M6 135) (20 : Int32).toNatClampNeg (0 : Int32))) fun M7 =>
      some ((), M7))
    else (
      gd (inb x2 24) <|
      bd (sA M 135 (upd (mA M 135) x2.toNatClampNeg (32 : Int32))) fun M8 =>
      bd (x2 + Int32.ofInt 1) fun v15 =>
      f_LW_feed_l5 n v15 M8)
set_option maxHeartbeats 1000000 in
def f_LW_feed (M : kx_M) : Option (Unit × kx_M) :=
  gd (inb (20 : Int32) 24) <|
  bd (mA M 135 (20 : Int32).toNatClampNeg) fun v2 =>
  f_LW_feed_l5 FU v2 M
set_option maxHeartbeats 1000000 in
def f_LW_put (p2 : Int32) (M : kx_M) : Option (Unit × kx_M) :=
  gd (inb (20 : Int32) 24) <|
  gd (inb (mA M 135 (20 : Int32).toNatClampNeg) 24) <|
  bd (sA M 135 (upd (mA M 135) (mA M 135 (20 : Int32).toNatClampNeg).toNatClampNeg p2)) fun M1 =>
  gd (inb (20 : Int32) 24) <|
  gd (inb (20 : Int32) 24) <|
  bd (sA M1 135 (upd (mA M1 135) (20 : Int32).toNatClampNeg ((mA M1 135 (20 : Int32).toNatClampNeg) + (1 : Int32)))) fun M2 =>
  gd (inb (21 : Int32) 24) <|
  gd (inb (21 : Int32) 24) <|
  bd (sA M2 135 (upd (mA M2 135) (21 : Int32).toNatClampNeg ((mA M2 135 (21 : Int32).toNatClampNeg) + (1 : Int32)))) fun M3 =>
  gd (inb (20 : Int32) 24) <|
  if (mA M3 135 (20 : Int32).toNatClampNeg) = (20 : Int32) then (
    cal (f_LW_feed M3) fun _ M4 =>
    some ((), M4))
  else (
    some ((), M3))
set_option maxHeartbeats 1000000 in
def f_LW_say_l2 (p2 : Nat) : Nat → Int32 → kx_M → Option (Unit × kx_M)
  | 0, _, _ => none
  | n + 1, x3, M =>
    gd (isST p2) <|
    if (Int32.ofNat (lw_sL.getD p2 []).length) ≤ x3 then (
      some ((), M))
    else (
      gd (isST p2) <|
      gd (inb x3 (lw_sL.getD p2 []).length) <|
      cal (f_LW_put ((lw_sL.getD p2 []).getD x3.toNatClampNeg 0) M) fun _ M1 =>
      bd (x3 + Int32.ofInt 1) fun v6 =>
      f_LW_say_l2 p2 n v6 M1)
set_option maxHeartbeats 1000000 in
def f_LW_say (p2 : Nat) (M : kx_M) : Option (Unit × kx_M) :=
  f_LW_say_l2 p2 FU (0 : Int32) M
set_option maxHeartbeats 1000000 in
def f_LW_number_l25 (p2 : Int32) (M : kx_M) : Option (Unit × kx_M) :=
  if p2 ≤ (9 : Int32) then (
    cal (f_LW_put ((48 : Int32) + (p2 - p2 / (10 : Int32) * (10 : Int32))) M) fun _ M1 =>
    some ((), M1))
  else (
    cal (f_LW_put ((48 : Int32) + ((p2 / (10 : Int32)) - (p2 / (10 : Int32)) / (10 : Int32) * (10 : Int32))) M) fun _ M2 =>
    cal (f_LW_put ((48 : Int32) + (p2 - p2 / (10 : Int32) * (10 : Int32))) M2) fun _ M3 =>
    some ((), M3))
set_option maxHeartbeats 1000000 in
def f_LW_number (p2 : Int32) (M : kx_M) : Option (Unit × kx_M) :=
  cal (f_LW_put (32 : Int32) M) fun _ M1 =>
  if p2 ≤ (99 : Int32) then (
    f_LW_number_l25 p2 M1)
  else (
    cal (f_LW_put ((48 : Int32) + (p2 / (100 : Int32))) M1) fun _ M2 =>
    f_LW_number_l25 p2 M2)
set_option maxHeartbeats 1000000 in
def f_LW_name (p2 : Int32) (p3 : Int32) (M : kx_M) : Option (Unit × kx_M) :=
  cal (f_LW_put (32 : Int32) M) fun _ M1 =>
  cal (f_LW_put p2 M1) fun _ M2 =>
  cal (f_LW_put ((97 : Int32) + p3) M2) fun _ M3 =>
  some ((), M3)
set_option maxHeartbeats 1000000 in
def f_LW_kind (p2 : Int32) (M : kx_M) : Option (Unit × kx_M) :=
  if p2 = 0 then (
    cal (f_LW_say 7 M) fun _ M1 =>
    some ((), M1))
  else (
    if p2 = (1 : Int32) then (
      cal (f_LW_say 8 M) fun _ M2 =>
      some ((), M2))
    else (
      if p2 = (2 : Int32) then (
        cal (f_LW_say 9 M) fun _ M3 =>
        some ((), M3))
      else (
        cal (f_LW_say 10 M) fun _ M4 =>
        some ((), M4))))
set_option maxHeartbeats 1000000 in
def f_Deal_clear (p0 : Nat) (M : kx_M) : Option (Unit × kx_M) :=
  bd (sI M p0 7 (0 : Int32)) fun M1 =>
  bd (sI M1 p0 8 (0 : Int32)) fun M2 =>
  cal (f_Arr_fill_2 (p0 + 6) (0 : Int32) M2) fun _ M3 =>
  cal (f_Arr_fill_2 (p0 + 7) (0 : Int32) M3) fun _ M4 =>
  some ((), M4)
set_option maxHeartbeats 1000000 in
def f_Cloth_clear (p0 : Nat) (M : kx_M) : Option (Unit × kx_M) :=
  bd (sI M p0 5 (6 : Int32)) fun M1 =>
  bd (sI M1 p0 6 (20 : Int32)) fun M2 =>
  bd (sI M2 p0 7 (0 : Int32)) fun M3 =>
  bd (sI M3 p0 8 (0 : Int32)) fun M4 =>
  some ((), M4)
set_option maxHeartbeats 1000000 in
def f_Script_clear (p0 : Nat) (M : kx_M) : Option (Unit × kx_M) :=
  bd (sI M p0 4 (0 : Int32)) fun M1 =>
  bd (sI M1 p0 5 (0 : Int32)) fun M2 =>
  bd (sI M2 p0 6 (0 : Int32)) fun M3 =>
  some ((), M3)
set_option maxHeartbeats 1000000 in
def f_State_clear (p0 : Nat) (M : kx_M) : Option (Unit × kx_M) :=
  cal (f_Deal_clear (p0 + 1) M) fun _ M1 =>
  cal (f_Cloth_clear (p0 + 9) M1) fun _ M2 =>
  cal (f_Script_clear (p0 + 15) M2) fun _ M3 =>
  some ((), M3)
set_option maxHeartbeats 1000000 in
def f_Reader_readWord_l10 (p0 : Nat) : Nat → Int32 → kx_M → Option (Unit × kx_M)
  | 0, _, _ => none
  | n + 1, x1, M =>
    if (mI M p0 2) ≤ x1 then (
      bd (sI M p0 5 (2 : Int32)) fun M1 =>
      bd (sI M1 p0 3 x1) fun M2 =>
      some ((), M2))
    else (
      gd (aIb 1 (mR M p0 1) x1) <|
      if (mA M (mR M p0 1) x1.toNatClampNeg) < (97 : Int32) then (
        bd (sI M p0 5 (2 : Int32)) fun M3 =>
        bd (sI M3 p0 3 x1) fun M4 =>
        some ((), M4))
      else (
        gd (aIb 1 (mR M p0 1) x1) <|
        if (122 : Int32) < (mA M (mR M p0 1) x1.toNatClampNeg) then (
          bd (sI M p0 5 (2 : Int32)) fun M5 =>
          bd (sI M5 p0 3 x1) fun M6 =>
          some ((), M6))
        else (
          gd (aIb 1 (mR M p0 1) x1) <|
          bd (sJ M p0 7 (((mJ M p0 7) <<< ((5 : Int32).toInt64 &&& 63)) ||| ((((mA M (mR M p0 1) x1.toNatClampNeg) - (97 : Int32)) + (1 : Int32)).toInt64))) fun M7 =>
          bd (x1 + Int32.ofInt 1) fun v4 =>
          f_Reader_readWord_l10 p0 n v4 M7)))
set_option maxHeartbeats 1000000 in
def f_Reader_readWord (p0 : Nat) (M : kx_M) : Option (Unit × kx_M) :=
  bd (mI M p0 4) fun v1 =>
  bd (sJ M p0 7 (0 : Int64)) fun M1 =>
  f_Reader_readWord_l10 p0 FU v1 M1
