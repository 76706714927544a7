/-! ## constructors -/
def blk_Deal (w : kx_W) (r : Nat) : List va_E := .inr (3, [.ref (w.2.2.2.1 + (r + 1)), .ref (w.2.2.2.1 + (r + 2)), .ref (w.2.2.2.1 + (r + 3)), .ref (w.2.2.2.1 + (r + 4)), .ref (w.2.2.2.1 + (r + 5)), .ref (w.2.2.2.1 + (r + 6)), .ref (w.2.2.2.1 + (r + 7)), .int 0, .int 0]) :: ([] ++ [.inl (w.2.2.1 0, 4, .inl (fun _ => 0))] ++ [.inl (w.2.2.1 1, 4, .inr (.inl (fun _ => 0)))] ++ [.inl (w.2.2.1 1, 6, .inr (.inl (fun _ => 0)))] ++ [.inl (w.2.2.1 0, 6, .inl (fun _ => 0))] ++ [.inl (w.2.2.1 0, 30, .inl (fun _ => 0))] ++ [.inl (w.2.2.1 0, 36, .inl (fun _ => 0))] ++ [.inl (w.2.2.1 0, 48, .inl (fun _ => 0))])
set_option maxHeartbeats 4000000 in
theorem b_Deal {w : kx_W} {d : Nat} (P : List va_E) : Bt w (d + 1) 7 134 m_Deal_init [.ref P.length] (P ++ [.inr (3, [.null, .null, .null, .null, .null, .null, .null, .int 0, .int 0])]) (fun r E => r = none ∧ E = P ++ blk_Deal w P.length) := by
  refine mk_bt ok_Deal_init (Nat.le_of_ble_eq_true rfl) (fun G F => ?_)
  show G 0 [some (.ref P.length)] [] (P ++ (.inr (3, [.null, .null, .null, .null, .null, .null, .null, .int 0, .int 0]) :: []), 0, 0)
  refine y_aload_n F.1 (i := 0) rfl rfl ?_
  refine y_oinit F.1 (by omega) (i := 1) rfl bm_Deal_3 bo_2 (Nat.le_of_ble_eq_true rfl) ?_
  refine y_aload_n F.1 (i := 2) rfl rfl ?_
  refine y_iconst F.1 (i := 3) (v := 4) rfl (by decide) ?_
  refine y_newa1 F.1 (t := 0) (N := 4) (m := 1) (a0 := (4, .inl (fun _ => 0))) (i := 4) rfl ba_int rfl (fun _ => rfl) (by decide) (by decide) (Nat.le_of_ble_eq_true rfl) (by omega) (by omega) rfl ?_
  refine y_put1 F.1 (i := 5) rfl fl_Deal_9 bp_Deal_0 (Nat.le_of_ble_eq_true rfl) rfl rfl rfl ?_
  refine y_aload_n F.1 (i := 6) rfl rfl ?_
  refine y_iconst F.1 (i := 7) (v := 4) rfl (by decide) ?_
  refine y_newa1 F.1 (t := 1) (N := 4) (m := 2) (a0 := (4, .inr (.inl (fun _ => 0)))) (i := 8) rfl ba_long rfl (fun _ => rfl) (by decide) (by decide) (Nat.le_of_ble_eq_true rfl) (by omega) (by omega) rfl ?_
  refine y_put1 F.1 (i := 9) rfl fl_Deal_15 bp_Deal_1 (Nat.le_of_ble_eq_true rfl) rfl rfl rfl ?_
  refine y_aload_n F.1 (i := 10) rfl rfl ?_
  refine y_bipush F.1 (i := 11) (v := 6) rfl (by decide) ?_
  refine y_newa1 F.1 (t := 1) (N := 6) (m := 3) (a0 := (6, .inr (.inl (fun _ => 0)))) (i := 12) rfl ba_long rfl (fun _ => rfl) (by decide) (by decide) (Nat.le_of_ble_eq_true rfl) (by omega) (by omega) rfl ?_
  refine y_put1 F.1 (i := 13) rfl fl_Deal_19 bp_Deal_2 (Nat.le_of_ble_eq_true rfl) rfl rfl rfl ?_
  refine y_aload_n F.1 (i := 14) rfl rfl ?_
  refine y_bipush F.1 (i := 15) (v := 6) rfl (by decide) ?_
  refine y_newa1 F.1 (t := 0) (N := 6) (m := 4) (a0 := (6, .inl (fun _ => 0))) (i := 16) rfl ba_int rfl (fun _ => rfl) (by decide) (by decide) (Nat.le_of_ble_eq_true rfl) (by omega) (by omega) rfl ?_
  refine y_put1 F.1 (i := 17) rfl fl_Deal_22 bp_Deal_3 (Nat.le_of_ble_eq_true rfl) rfl rfl rfl ?_
  refine y_aload_n F.1 (i := 18) rfl rfl ?_
  refine y_bipush F.1 (i := 19) (v := 30) rfl (by decide) ?_
  refine y_newa1 F.1 (t := 0) (N := 30) (m := 5) (a0 := (30, .inl (fun _ => 0))) (i := 20) rfl ba_int rfl (fun _ => rfl) (by decide) (by decide) (Nat.le_of_ble_eq_true rfl) (by omega) (by omega) rfl ?_
  refine y_put1 F.1 (i := 21) rfl fl_Deal_25 bp_Deal_4 (Nat.le_of_ble_eq_true rfl) rfl rfl rfl ?_
  refine y_aload_n F.1 (i := 22) rfl rfl ?_
  refine y_bipush F.1 (i := 23) (v := 36) rfl (by decide) ?_
  refine y_newa1 F.1 (t := 0) (N := 36) (m := 6) (a0 := (36, .inl (fun _ => 0))) (i := 24) rfl ba_int rfl (fun _ => rfl) (by decide) (by decide) (Nat.le_of_ble_eq_true rfl) (by omega) (by omega) rfl ?_
  refine y_put1 F.1 (i := 25) rfl fl_Deal_28 bp_Deal_5 (Nat.le_of_ble_eq_true rfl) rfl rfl rfl ?_
  refine y_aload_n F.1 (i := 26) rfl rfl ?_
  refine y_bipush F.1 (i := 27) (v := 48) rfl (by decide) ?_
  refine y_newa1 F.1 (t := 0) (N := 48) (m := 7) (a0 := (48, .inl (fun _ => 0))) (i := 28) rfl ba_int rfl (fun _ => rfl) (by decide) (by decide) (Nat.le_of_ble_eq_true rfl) (by omega) (by omega) rfl ?_
  refine y_put1 F.1 (i := 29) rfl fl_Deal_31 bp_Deal_6 (Nat.le_of_ble_eq_true rfl) rfl rfl rfl ?_
  refine y_aload_n F.1 (i := 30) rfl rfl ?_
  refine y_iconst F.1 (i := 31) (v := 0) rfl (by decide) ?_
  refine y_put1 F.1 (i := 32) rfl fl_Deal_34 bp_Deal_7 (Nat.le_of_ble_eq_true rfl) rfl rfl rfl ?_
  refine y_aload_n F.1 (i := 33) rfl rfl ?_
  refine y_iconst F.1 (i := 34) (v := 0) rfl (by decide) ?_
  refine y_put1 F.1 (i := 35) rfl fl_Deal_38 bp_Deal_8 (Nat.le_of_ble_eq_true rfl) rfl rfl rfl ?_
  exact y_vret F (i := 36) rfl rfl (by omega) (by omega) ⟨rfl, rfl⟩
def blk_Cloth (w : kx_W) (r : Nat) : List va_E := .inr (4, [.ref (w.2.2.2.1 + (r + 1)), .ref (w.2.2.2.1 + (r + 2)), .ref (w.2.2.2.1 + (r + 3)), .ref (w.2.2.2.1 + (r + 4)), .ref (w.2.2.2.1 + (r + 5)), .int 6, .int 20, .int 0, .int 0]) :: ([] ++ [.inl (w.2.2.1 0, 12, .inl (fun _ => 0))] ++ [.inl (w.2.2.1 0, 96, .inl (fun _ => 0))] ++ [.inl (w.2.2.1 0, 96, .inl (fun _ => 0))] ++ [.inl (w.2.2.1 0, 96, .inl (fun _ => 0))] ++ [.inl (w.2.2.1 0, 96, .inl (fun _ => 0))])
set_option maxHeartbeats 4000000 in
theorem b_Cloth {w : kx_W} {d : Nat} (P : List va_E) : Bt w (d + 1) 5 396 m_Cloth_init [.ref P.length] (P ++ [.inr (4, [.null, .null, .null, .null, .null, .int 0, .int 0, .int 0, .int 0])]) (fun r E => r = none ∧ E = P ++ blk_Cloth w P.length) := by
  refine mk_bt ok_Cloth_init (Nat.le_of_ble_eq_true rfl) (fun G F => ?_)
  show G 0 [some (.ref P.length)] [] (P ++ (.inr (4, [.null, .null, .null, .null, .null, .int 0, .int 0, .int 0, .int 0]) :: []), 0, 0)
  refine y_aload_n F.1 (i := 0) rfl rfl ?_
  refine y_oinit F.1 (by omega) (i := 1) rfl bm_Cloth_3 bo_2 (Nat.le_of_ble_eq_true rfl) ?_
  refine y_aload_n F.1 (i := 2) rfl rfl ?_
  refine y_bipush F.1 (i := 3) (v := 12) rfl (by decide) ?_
  refine y_newa1 F.1 (t := 0) (N := 12) (m := 1) (a0 := (12, .inl (fun _ => 0))) (i := 4) rfl ba_int rfl (fun _ => rfl) (by decide) (by decide) (Nat.le_of_ble_eq_true rfl) (by omega) (by omega) rfl ?_
  refine y_put1 F.1 (i := 5) rfl fl_Cloth_9 bp_Cloth_0 (Nat.le_of_ble_eq_true rfl) rfl rfl rfl ?_
  refine y_aload_n F.1 (i := 6) rfl rfl ?_
  refine y_bipush F.1 (i := 7) (v := 96) rfl (by decide) ?_
  refine y_newa1 F.1 (t := 0) (N := 96) (m := 2) (a0 := (96, .inl (fun _ => 0))) (i := 8) rfl ba_int rfl (fun _ => rfl) (by decide) (by decide) (Nat.le_of_ble_eq_true rfl) (by omega) (by omega) rfl ?_
  refine y_put1 F.1 (i := 9) rfl fl_Cloth_15 bp_Cloth_1 (Nat.le_of_ble_eq_true rfl) rfl rfl rfl ?_
  refine y_aload_n F.1 (i := 10) rfl rfl ?_
  refine y_bipush F.1 (i := 11) (v := 96) rfl (by decide) ?_
  refine y_newa1 F.1 (t := 0) (N := 96) (m := 3) (a0 := (96, .inl (fun _ => 0))) (i := 12) rfl ba_int rfl (fun _ => rfl) (by decide) (by decide) (Nat.le_of_ble_eq_true rfl) (by omega) (by omega) rfl ?_
  refine y_put1 F.1 (i := 13) rfl fl_Cloth_18 bp_Cloth_2 (Nat.le_of_ble_eq_true rfl) rfl rfl rfl ?_
  refine y_aload_n F.1 (i := 14) rfl rfl ?_
  refine y_bipush F.1 (i := 15) (v := 96) rfl (by decide) ?_
  refine y_newa1 F.1 (t := 0) (N := 96) (m := 4) (a0 := (96, .inl (fun _ => 0))) (i := 16) rfl ba_int rfl (fun _ => rfl) (by decide) (by decide) (Nat.le_of_ble_eq_true rfl) (by omega) (by omega) rfl ?_
  refine y_put1 F.1 (i := 17) rfl fl_Cloth_21 bp_Cloth_3 (Nat.le_of_ble_eq_true rfl) rfl rfl rfl ?_
  refine y_aload_n F.1 (i := 18) rfl rfl ?_
  refine y_bipush F.1 (i := 19) (v := 96) rfl (by decide) ?_
  refine y_newa1 F.1 (t := 0) (N := 96) (m := 5) (a0 := (96, .inl (fun _ => 0))) (i := 20) rfl ba_int rfl (fun _ => rfl) (by decide) (by decide) (Nat.le_of_ble_eq_true rfl) (by omega) (by omega) rfl ?_
  refine y_put1 F.1 (i := 21) rfl fl_Cloth_24 bp_Cloth_4 (Nat.le_of_ble_eq_true rfl) rfl rfl rfl ?_
  refine y_aload_n F.1 (i := 22) rfl rfl ?_
  refine y_bipush F.1 (i := 23) (v := 6) rfl (by decide) ?_
  refine y_put1 F.1 (i := 24) rfl fl_Cloth_27 bp_Cloth_5 (Nat.le_of_ble_eq_true rfl) rfl rfl rfl ?_
  refine y_aload_n F.1 (i := 25) rfl rfl ?_
  refine y_bipush F.1 (i := 26) (v := 20) rfl (by decide) ?_
  refine y_put1 F.1 (i := 27) rfl fl_Cloth_31 bp_Cloth_6 (Nat.le_of_ble_eq_true rfl) rfl rfl rfl ?_
  refine y_aload_n F.1 (i := 28) rfl rfl ?_
  refine y_iconst F.1 (i := 29) (v := 0) rfl (by decide) ?_
  refine y_put1 F.1 (i := 30) rfl fl_Cloth_34 bp_Cloth_7 (Nat.le_of_ble_eq_true rfl) rfl rfl rfl ?_
  refine y_aload_n F.1 (i := 31) rfl rfl ?_
  refine y_iconst F.1 (i := 32) (v := 0) rfl (by decide) ?_
  refine y_put1 F.1 (i := 33) rfl fl_Cloth_37 bp_Cloth_8 (Nat.le_of_ble_eq_true rfl) rfl rfl rfl ?_
  exact y_vret F (i := 34) rfl rfl (by omega) (by omega) ⟨rfl, rfl⟩
def blk_Script (w : kx_W) (r : Nat) : List va_E := .inr (5, [.ref (w.2.2.2.1 + (r + 1)), .ref (w.2.2.2.1 + (r + 2)), .ref (w.2.2.2.1 + (r + 3)), .ref (w.2.2.2.1 + (r + 4)), .int 0, .int 0, .int 0]) :: ([] ++ [.inl (w.2.2.1 0, 60, .inl (fun _ => 0))] ++ [.inl (w.2.2.1 0, 60, .inl (fun _ => 0))] ++ [.inl (w.2.2.1 0, 60, .inl (fun _ => 0))] ++ [.inl (w.2.2.1 0, 60, .inl (fun _ => 0))])
set_option maxHeartbeats 4000000 in
theorem b_Script {w : kx_W} {d : Nat} (P : List va_E) : Bt w (d + 1) 4 240 m_Script_init [.ref P.length] (P ++ [.inr (5, [.null, .null, .null, .null, .int 0, .int 0, .int 0])]) (fun r E => r = none ∧ E = P ++ blk_Script w P.length) := by
  refine mk_bt ok_Script_init (Nat.le_of_ble_eq_true rfl) (fun G F => ?_)
  show G 0 [some (.ref P.length)] [] (P ++ (.inr (5, [.null, .null, .null, .null, .int 0, .int 0, .int 0]) :: []), 0, 0)
  refine y_aload_n F.1 (i := 0) rfl rfl ?_
  refine y_oinit F.1 (by omega) (i := 1) rfl bm_Script_3 bo_2 (Nat.le_of_ble_eq_true rfl) ?_
  refine y_aload_n F.1 (i := 2) rfl rfl ?_
  refine y_bipush F.1 (i := 3) (v := 60) rfl (by decide) ?_
  refine y_newa1 F.1 (t := 0) (N := 60) (m := 1) (a0 := (60, .inl (fun _ => 0))) (i := 4) rfl ba_int rfl (fun _ => rfl) (by decide) (by decide) (Nat.le_of_ble_eq_true rfl) (by omega) (by omega) rfl ?_
  refine y_put1 F.1 (i := 5) rfl fl_Script_9 bp_Script_0 (Nat.le_of_ble_eq_true rfl) rfl rfl rfl ?_
  refine y_aload_n F.1 (i := 6) rfl rfl ?_
  refine y_bipush F.1 (i := 7) (v := 60) rfl (by decide) ?_
  refine y_newa1 F.1 (t := 0) (N := 60) (m := 2) (a0 := (60, .inl (fun _ => 0))) (i := 8) rfl ba_int rfl (fun _ => rfl) (by decide) (by decide) (Nat.le_of_ble_eq_true rfl) (by omega) (by omega) rfl ?_
  refine y_put1 F.1 (i := 9) rfl fl_Script_13 bp_Script_1 (Nat.le_of_ble_eq_true rfl) rfl rfl rfl ?_
  refine y_aload_n F.1 (i := 10) rfl rfl ?_
  refine y_bipush F.1 (i := 11) (v := 60) rfl (by decide) ?_
  refine y_newa1 F.1 (t := 0) (N := 60) (m := 3) (a0 := (60, .inl (fun _ => 0))) (i := 12) rfl ba_int rfl (fun _ => rfl) (by decide) (by decide) (Nat.le_of_ble_eq_true rfl) (by omega) (by omega) rfl ?_
  refine y_put1 F.1 (i := 13) rfl fl_Script_16 bp_Script_2 (Nat.le_of_ble_eq_true rfl) rfl rfl rfl ?_
  refine y_aload_n F.1 (i := 14) rfl rfl ?_
  refine y_bipush F.1 (i := 15) (v := 60) rfl (by decide) ?_
  refine y_newa1 F.1 (t := 0) (N := 60) (m := 4) (a0 := (60, .inl (fun _ => 0))) (i := 16) rfl ba_int rfl (fun _ => rfl) (by decide) (by decide) (Nat.le_of_ble_eq_true rfl) (by omega) (by omega) rfl ?_
  refine y_put1 F.1 (i := 17) rfl fl_Script_19 bp_Script_3 (Nat.le_of_ble_eq_true rfl) rfl rfl rfl ?_
  refine y_aload_n F.1 (i := 18) rfl rfl ?_
  refine y_iconst F.1 (i := 19) (v := 0) rfl (by decide) ?_
  refine y_put1 F.1 (i := 20) rfl fl_Script_22 bp_Script_4 (Nat.le_of_ble_eq_true rfl) rfl rfl rfl ?_
  refine y_aload_n F.1 (i := 21) rfl rfl ?_
  refine y_iconst F.1 (i := 22) (v := 0) rfl (by decide) ?_
  refine y_put1 F.1 (i := 23) rfl fl_Script_26 bp_Script_5 (Nat.le_of_ble_eq_true rfl) rfl rfl rfl ?_
  refine y_aload_n F.1 (i := 24) rfl rfl ?_
  refine y_iconst F.1 (i := 25) (v := 0) rfl (by decide) ?_
  refine y_put1 F.1 (i := 26) rfl fl_Script_30 bp_Script_6 (Nat.le_of_ble_eq_true rfl) rfl rfl rfl ?_
  exact y_vret F (i := 27) rfl rfl (by omega) (by omega) ⟨rfl, rfl⟩
def blk_Tray (w : kx_W) (r : Nat) : List va_E := .inr (1, [.ref (w.2.2.2.1 + (r + 1)), .int 1, .int 0, .int 0]) :: ([] ++ [.inl (w.2.2.1 1, 60, .inr (.inl (fun _ => 0)))])
set_option maxHeartbeats 4000000 in
theorem b_Tray {w : kx_W} {d : Nat} (P : List va_E) : Bt w (d + 1) 1 60 m_Tray_init [.ref P.length] (P ++ [.inr (1, [.null, .int 0, .int 0, .int 0])]) (fun r E => r = none ∧ E = P ++ blk_Tray w P.length) := by
  refine mk_bt ok_Tray_init (Nat.le_of_ble_eq_true rfl) (fun G F => ?_)
  show G 0 [some (.ref P.length)] [] (P ++ (.inr (1, [.null, .int 0, .int 0, .int 0]) :: []), 0, 0)
  refine y_aload_n F.1 (i := 0) rfl rfl ?_
  refine y_oinit F.1 (by omega) (i := 1) rfl bm_Tray_3 bo_2 (Nat.le_of_ble_eq_true rfl) ?_
  refine y_aload_n F.1 (i := 2) rfl rfl ?_
  refine y_bipush F.1 (i := 3) (v := 60) rfl (by decide) ?_
  refine y_newa1 F.1 (t := 1) (N := 60) (m := 1) (a0 := (60, .inr (.inl (fun _ => 0)))) (i := 4) rfl ba_long rfl (fun _ => rfl) (by decide) (by decide) (Nat.le_of_ble_eq_true rfl) (by omega) (by omega) rfl ?_
  refine y_put1 F.1 (i := 5) rfl fl_Tray_9 bp_Tray_0 (Nat.le_of_ble_eq_true rfl) rfl rfl rfl ?_
  refine y_aload_n F.1 (i := 6) rfl rfl ?_
  refine y_iconst F.1 (i := 7) (v := 1) rfl (by decide) ?_
  refine y_put1 F.1 (i := 8) rfl fl_Tray_15 bp_Tray_1 (Nat.le_of_ble_eq_true rfl) rfl rfl rfl ?_
  refine y_aload_n F.1 (i := 9) rfl rfl ?_
  refine y_iconst F.1 (i := 10) (v := 0) rfl (by decide) ?_
  refine y_put1 F.1 (i := 11) rfl fl_Tray_19 bp_Tray_2 (Nat.le_of_ble_eq_true rfl) rfl rfl rfl ?_
  refine y_aload_n F.1 (i := 12) rfl rfl ?_
  refine y_iconst F.1 (i := 13) (v := 0) rfl (by decide) ?_
  refine y_put1 F.1 (i := 14) rfl fl_Tray_23 bp_Tray_3 (Nat.le_of_ble_eq_true rfl) rfl rfl rfl ?_
  exact y_vret F (i := 15) rfl rfl (by omega) (by omega) ⟨rfl, rfl⟩
def blk_Life (w : kx_W) (r : Nat) : List va_E := .inr (9, [.ref (w.2.2.2.1 + (r + 1)), .int 0, .int 0, .int 0, .int 0, .int 0, .int 0, .int 0]) :: ([] ++ [.inl (w.2.2.1 0, 60, .inl (fun _ => 0))])
set_option maxHeartbeats 4000000 in
theorem b_Life {w : kx_W} {d : Nat} (P : List va_E) : Bt w (d + 1) 1 60 m_Life_init [.ref P.length] (P ++ [.inr (9, [.null, .int 0, .int 0, .int 0, .int 0, .int 0, .int 0, .int 0])]) (fun r E => r = none ∧ E = P ++ blk_Life w P.length) := by
  refine mk_bt ok_Life_init (Nat.le_of_ble_eq_true rfl) (fun G F => ?_)
  show G 0 [some (.ref P.length)] [] (P ++ (.inr (9, [.null, .int 0, .int 0, .int 0, .int 0, .int 0, .int 0, .int 0]) :: []), 0, 0)
  refine y_aload_n F.1 (i := 0) rfl rfl ?_
  refine y_oinit F.1 (by omega) (i := 1) rfl bm_Life_3 bo_2 (Nat.le_of_ble_eq_true rfl) ?_
  refine y_aload_n F.1 (i := 2) rfl rfl ?_
  refine y_bipush F.1 (i := 3) (v := 60) rfl (by decide) ?_
  refine y_newa1 F.1 (t := 0) (N := 60) (m := 1) (a0 := (60, .inl (fun _ => 0))) (i := 4) rfl ba_int rfl (fun _ => rfl) (by decide) (by decide) (Nat.le_of_ble_eq_true rfl) (by omega) (by omega) rfl ?_
  refine y_put1 F.1 (i := 5) rfl fl_Life_11 bp_Life_0 (Nat.le_of_ble_eq_true rfl) rfl rfl rfl ?_
  refine y_aload_n F.1 (i := 6) rfl rfl ?_
  refine y_iconst F.1 (i := 7) (v := 0) rfl (by decide) ?_
  refine y_put1 F.1 (i := 8) rfl fl_Life_17 bp_Life_1 (Nat.le_of_ble_eq_true rfl) rfl rfl rfl ?_
  refine y_aload_n F.1 (i := 9) rfl rfl ?_
  refine y_iconst F.1 (i := 10) (v := 0) rfl (by decide) ?_
  refine y_put1 F.1 (i := 11) rfl fl_Life_21 bp_Life_2 (Nat.le_of_ble_eq_true rfl) rfl rfl rfl ?_
  refine y_aload_n F.1 (i := 12) rfl rfl ?_
  refine y_iconst F.1 (i := 13) (v := 0) rfl (by decide) ?_
  refine y_put1 F.1 (i := 14) rfl fl_Life_24 bp_Life_3 (Nat.le_of_ble_eq_true rfl) rfl rfl rfl ?_
  refine y_aload_n F.1 (i := 15) rfl rfl ?_
  refine y_iconst F.1 (i := 16) (v := 0) rfl (by decide) ?_
  refine y_put1 F.1 (i := 17) rfl fl_Life_27 bp_Life_4 (Nat.le_of_ble_eq_true rfl) rfl rfl rfl ?_
  refine y_aload_n F.1 (i := 18) rfl rfl ?_
  refine y_iconst F.1 (i := 19) (v := 0) rfl (by decide) ?_
  refine y_put1 F.1 (i := 20) rfl fl_Life_30 bp_Life_5 (Nat.le_of_ble_eq_true rfl) rfl rfl rfl ?_
  refine y_aload_n F.1 (i := 21) rfl rfl ?_
  refine y_iconst F.1 (i := 22) (v := 0) rfl (by decide) ?_
  refine y_put1 F.1 (i := 23) rfl fl_Life_33 bp_Life_6 (Nat.le_of_ble_eq_true rfl) rfl rfl rfl ?_
  refine y_aload_n F.1 (i := 24) rfl rfl ?_
  refine y_iconst F.1 (i := 25) (v := 0) rfl (by decide) ?_
  refine y_put1 F.1 (i := 26) rfl fl_Life_36 bp_Life_7 (Nat.le_of_ble_eq_true rfl) rfl rfl rfl ?_
  exact y_vret F (i := 27) rfl rfl (by omega) (by omega) ⟨rfl, rfl⟩
def blk_Seen (w : kx_W) (r : Nat) : List va_E := .inr (10, [.ref (w.2.2.2.1 + (r + 1)), .int 0, .ref (w.2.2.2.1 + (r + 2)), .int 0, .ref (w.2.2.2.1 + (r + 3)), .ref (w.2.2.2.1 + (r + 4))]) :: ([] ++ [.inl (w.2.2.1 0, 8, .inl (fun _ => 0))] ++ [.inl (w.2.2.1 0, 20, .inl (fun _ => 0))] ++ [.inl (w.2.2.1 0, 6, .inl (fun _ => 0))] ++ [.inl (w.2.2.1 0, 6, .inl (fun _ => 0))])
set_option maxHeartbeats 4000000 in
theorem b_Seen {w : kx_W} {d : Nat} (P : List va_E) : Bt w (d + 1) 4 40 m_Seen_init [.ref P.length] (P ++ [.inr (10, [.null, .int 0, .null, .int 0, .null, .null])]) (fun r E => r = none ∧ E = P ++ blk_Seen w P.length) := by
  refine mk_bt ok_Seen_init (Nat.le_of_ble_eq_true rfl) (fun G F => ?_)
  show G 0 [some (.ref P.length)] [] (P ++ (.inr (10, [.null, .int 0, .null, .int 0, .null, .null]) :: []), 0, 0)
  refine y_aload_n F.1 (i := 0) rfl rfl ?_
  refine y_oinit F.1 (by omega) (i := 1) rfl bm_Seen_3 bo_2 (Nat.le_of_ble_eq_true rfl) ?_
  refine y_aload_n F.1 (i := 2) rfl rfl ?_
  refine y_bipush F.1 (i := 3) (v := 8) rfl (by decide) ?_
  refine y_newa1 F.1 (t := 0) (N := 8) (m := 1) (a0 := (8, .inl (fun _ => 0))) (i := 4) rfl ba_int rfl (fun _ => rfl) (by decide) (by decide) (Nat.le_of_ble_eq_true rfl) (by omega) (by omega) rfl ?_
  refine y_put1 F.1 (i := 5) rfl fl_Seen_9 bp_Seen_0 (Nat.le_of_ble_eq_true rfl) rfl rfl rfl ?_
  refine y_aload_n F.1 (i := 6) rfl rfl ?_
  refine y_iconst F.1 (i := 7) (v := 0) rfl (by decide) ?_
  refine y_put1 F.1 (i := 8) rfl fl_Seen_15 bp_Seen_1 (Nat.le_of_ble_eq_true rfl) rfl rfl rfl ?_
  refine y_aload_n F.1 (i := 9) rfl rfl ?_
  refine y_bipush F.1 (i := 10) (v := 20) rfl (by decide) ?_
  refine y_newa1 F.1 (t := 0) (N := 20) (m := 2) (a0 := (20, .inl (fun _ => 0))) (i := 11) rfl ba_int rfl (fun _ => rfl) (by decide) (by decide) (Nat.le_of_ble_eq_true rfl) (by omega) (by omega) rfl ?_
  refine y_put1 F.1 (i := 12) rfl fl_Seen_19 bp_Seen_2 (Nat.le_of_ble_eq_true rfl) rfl rfl rfl ?_
  refine y_aload_n F.1 (i := 13) rfl rfl ?_
  refine y_iconst F.1 (i := 14) (v := 0) rfl (by decide) ?_
  refine y_put1 F.1 (i := 15) rfl fl_Seen_22 bp_Seen_3 (Nat.le_of_ble_eq_true rfl) rfl rfl rfl ?_
  refine y_aload_n F.1 (i := 16) rfl rfl ?_
  refine y_bipush F.1 (i := 17) (v := 6) rfl (by decide) ?_
  refine y_newa1 F.1 (t := 0) (N := 6) (m := 3) (a0 := (6, .inl (fun _ => 0))) (i := 18) rfl ba_int rfl (fun _ => rfl) (by decide) (by decide) (Nat.le_of_ble_eq_true rfl) (by omega) (by omega) rfl ?_
  refine y_put1 F.1 (i := 19) rfl fl_Seen_25 bp_Seen_4 (Nat.le_of_ble_eq_true rfl) rfl rfl rfl ?_
  refine y_aload_n F.1 (i := 20) rfl rfl ?_
  refine y_bipush F.1 (i := 21) (v := 6) rfl (by decide) ?_
  refine y_newa1 F.1 (t := 0) (N := 6) (m := 4) (a0 := (6, .inl (fun _ => 0))) (i := 22) rfl ba_int rfl (fun _ => rfl) (by decide) (by decide) (Nat.le_of_ble_eq_true rfl) (by omega) (by omega) rfl ?_
  refine y_put1 F.1 (i := 23) rfl fl_Seen_28 bp_Seen_5 (Nat.le_of_ble_eq_true rfl) rfl rfl rfl ?_
  exact y_vret F (i := 24) rfl rfl (by omega) (by omega) ⟨rfl, rfl⟩
def blk_Joiner (w : kx_W) (r : Nat) : List va_E := .inr (11, [.ref (w.2.2.2.1 + (r + 1)), .ref (w.2.2.2.1 + (r + 2)), .ref (w.2.2.2.1 + (r + 3)), .ref (w.2.2.2.1 + (r + 4)), .int 0, .int 0, .long 0]) :: ([] ++ [.inl (w.2.2.1 0, 6, .inl (fun _ => 0))] ++ [.inl (w.2.2.1 1, 6, .inr (.inl (fun _ => 0)))] ++ [.inl (w.2.2.1 0, 384, .inl (fun _ => 0))] ++ [.inl (w.2.2.1 1, 384, .inr (.inl (fun _ => 0)))])
set_option maxHeartbeats 4000000 in
theorem b_Joiner {w : kx_W} {d : Nat} (P : List va_E) : Bt w (d + 1) 4 780 m_Joiner_init [.ref P.length] (P ++ [.inr (11, [.null, .null, .null, .null, .int 0, .int 0, .long 0])]) (fun r E => r = none ∧ E = P ++ blk_Joiner w P.length) := by
  refine mk_bt ok_Joiner_init (Nat.le_of_ble_eq_true rfl) (fun G F => ?_)
  show G 0 [some (.ref P.length)] [] (P ++ (.inr (11, [.null, .null, .null, .null, .int 0, .int 0, .long 0]) :: []), 0, 0)
  refine y_aload_n F.1 (i := 0) rfl rfl ?_
  refine y_oinit F.1 (by omega) (i := 1) rfl bm_Joiner_3 bo_2 (Nat.le_of_ble_eq_true rfl) ?_
  refine y_aload_n F.1 (i := 2) rfl rfl ?_
  refine y_bipush F.1 (i := 3) (v := 6) rfl (by decide) ?_
  refine y_newa1 F.1 (t := 0) (N := 6) (m := 1) (a0 := (6, .inl (fun _ => 0))) (i := 4) rfl ba_int rfl (fun _ => rfl) (by decide) (by decide) (Nat.le_of_ble_eq_true rfl) (by omega) (by omega) rfl ?_
  refine y_put1 F.1 (i := 5) rfl fl_Joiner_9 bp_Joiner_0 (Nat.le_of_ble_eq_true rfl) rfl rfl rfl ?_
  refine y_aload_n F.1 (i := 6) rfl rfl ?_
  refine y_bipush F.1 (i := 7) (v := 6) rfl (by decide) ?_
  refine y_newa1 F.1 (t := 1) (N := 6) (m := 2) (a0 := (6, .inr (.inl (fun _ => 0)))) (i := 8) rfl ba_long rfl (fun _ => rfl) (by decide) (by decide) (Nat.le_of_ble_eq_true rfl) (by omega) (by omega) rfl ?_
  refine y_put1 F.1 (i := 9) rfl fl_Joiner_15 bp_Joiner_1 (Nat.le_of_ble_eq_true rfl) rfl rfl rfl ?_
  refine y_aload_n F.1 (i := 10) rfl rfl ?_
  refine y_sipush F.1 (i := 11) (v := 384) rfl (by decide) ?_
  refine y_newa1 F.1 (t := 0) (N := 384) (m := 3) (a0 := (384, .inl (fun _ => 0))) (i := 12) rfl ba_int rfl (fun _ => rfl) (by decide) (by decide) (Nat.le_of_ble_eq_true rfl) (by omega) (by omega) rfl ?_
  refine y_put1 F.1 (i := 13) rfl fl_Joiner_19 bp_Joiner_2 (Nat.le_of_ble_eq_true rfl) rfl rfl rfl ?_
  refine y_aload_n F.1 (i := 14) rfl rfl ?_
  refine y_sipush F.1 (i := 15) (v := 384) rfl (by decide) ?_
  refine y_newa1 F.1 (t := 1) (N := 384) (m := 4) (a0 := (384, .inr (.inl (fun _ => 0)))) (i := 16) rfl ba_long rfl (fun _ => rfl) (by decide) (by decide) (Nat.le_of_ble_eq_true rfl) (by omega) (by omega) rfl ?_
  refine y_put1 F.1 (i := 17) rfl fl_Joiner_22 bp_Joiner_3 (Nat.le_of_ble_eq_true rfl) rfl rfl rfl ?_
  refine y_aload_n F.1 (i := 18) rfl rfl ?_
  refine y_iconst F.1 (i := 19) (v := 0) rfl (by decide) ?_
  refine y_put1 F.1 (i := 20) rfl fl_Joiner_25 bp_Joiner_4 (Nat.le_of_ble_eq_true rfl) rfl rfl rfl ?_
  refine y_aload_n F.1 (i := 21) rfl rfl ?_
  refine y_iconst F.1 (i := 22) (v := 0) rfl (by decide) ?_
  refine y_put1 F.1 (i := 23) rfl fl_Joiner_29 bp_Joiner_5 (Nat.le_of_ble_eq_true rfl) rfl rfl rfl ?_
  refine y_aload_n F.1 (i := 24) rfl rfl ?_
  refine y_lconst F.1 (i := 25) (v := 0) rfl (by decide) ?_
  refine y_put1 F.1 (i := 26) rfl fl_Joiner_32 bp_Joiner_6 (Nat.le_of_ble_eq_true rfl) rfl rfl rfl ?_
  exact y_vret F (i := 27) rfl rfl (by omega) (by omega) ⟨rfl, rfl⟩
def blk_State (w : kx_W) (r : Nat) : List va_E := .inr (2, [.ref (w.2.2.2.1 + (r + 1)), .ref (w.2.2.2.1 + (r + 9)), .ref (w.2.2.2.1 + (r + 15))]) :: ([] ++ blk_Deal w (r + 1) ++ blk_Cloth w (r + 9) ++ blk_Script w (r + 15))
set_option maxHeartbeats 4000000 in
theorem b_State {w : kx_W} {d : Nat} (P : List va_E) : Bt w (d + 2) 19 795 m_State_init [.ref P.length] (P ++ [.inr (2, [.null, .null, .null])]) (fun r E => r = none ∧ E = P ++ blk_State w P.length) := by
  refine mk_bt ok_State_init (Nat.le_of_ble_eq_true rfl) (fun G F => ?_)
  show G 0 [some (.ref P.length)] [] (P ++ (.inr (2, [.null, .null, .null]) :: []), 0, 0)
  refine y_aload_n F.1 (i := 0) rfl rfl ?_
  refine y_oinit F.1 (by omega) (i := 1) rfl bm_State_1 bo_2 (Nat.le_of_ble_eq_true rfl) ?_
  refine y_aload_n F.1 (i := 2) rfl rfl ?_
  refine y_new1 F.1 (m := 1) (fs := [.null, .null, .null, .null, .null, .null, .null, .int 0, .int 0]) (i := 3) rfl bc_State_7 bs_Deal bn_Deal (ci := 3) rfl (by decide +kernel) (by omega) (by omega) rfl ?_
  refine y_dup F.1 (i := 4) rfl rfl ?_
  refine y_initN1 F.1 (blk := blk_Deal w) (n := 1) (i := 5) rfl bm_State_9 rfl rfl ok_Deal_init (Nat.le_of_ble_eq_true rfl) (Nat.le_of_ble_eq_true rfl) (fun P => b_Deal P) rfl (by omega) (by omega) ?_
  refine y_put1 F.1 (i := 6) rfl fl_State_10 bp_State_0 (Nat.le_of_ble_eq_true rfl) rfl rfl rfl ?_
  refine y_aload_n F.1 (i := 7) rfl rfl ?_
  refine y_new1 F.1 (m := 9) (fs := [.null, .null, .null, .null, .null, .int 0, .int 0, .int 0, .int 0]) (i := 8) rfl bc_State_16 bs_Cloth bn_Cloth (ci := 4) rfl (by decide +kernel) (by omega) (by omega) rfl ?_
  refine y_dup F.1 (i := 9) rfl rfl ?_
  refine y_initN1 F.1 (blk := blk_Cloth w) (n := 9) (i := 10) rfl bm_State_18 rfl rfl ok_Cloth_init (Nat.le_of_ble_eq_true rfl) (Nat.le_of_ble_eq_true rfl) (fun P => b_Cloth P) rfl (by omega) (by omega) ?_
  refine y_put1 F.1 (i := 11) rfl fl_State_19 bp_State_1 (Nat.le_of_ble_eq_true rfl) rfl rfl rfl ?_
  refine y_aload_n F.1 (i := 12) rfl rfl ?_
  refine y_new1 F.1 (m := 15) (fs := [.null, .null, .null, .null, .int 0, .int 0, .int 0]) (i := 13) rfl bc_State_23 bs_Script bn_Script (ci := 5) rfl (by decide +kernel) (by omega) (by omega) rfl ?_
  refine y_dup F.1 (i := 14) rfl rfl ?_
  refine y_initN1 F.1 (blk := blk_Script w) (n := 15) (i := 15) rfl bm_State_25 rfl rfl ok_Script_init (Nat.le_of_ble_eq_true rfl) (Nat.le_of_ble_eq_true rfl) (fun P => b_Script P) rfl (by omega) (by omega) ?_
  refine y_put1 F.1 (i := 16) rfl fl_State_26 bp_State_2 (Nat.le_of_ble_eq_true rfl) rfl rfl rfl ?_
  exact y_vret F (i := 17) rfl rfl (by omega) (by omega) ⟨rfl, rfl⟩
