/-! ## constructors with a reader -/
def blk_TreatyText (w : kx_W) (r : Nat) : List va_E := .inr (7, [.ref (w.2.2.2.1 + (r + 1)), .int 0, .int 0]) :: ([] ++ blk_Reader w (r + 1))
set_option maxHeartbeats 4000000 in
theorem b_TreatyText {w : kx_W} {d : Nat} (P : List va_E) : Bt w (d + 7) 3 38 m_TreatyText_init [.ref P.length] (P ++ [.inr (7, [.null, .int 0, .int 0])]) (fun r E => r = none ∧ E = P ++ blk_TreatyText w P.length) := by
  refine mk_bt ok_TreatyText_init (Nat.le_of_ble_eq_true rfl) (fun G F => ?_)
  show G 0 [some (.ref P.length)] [] (P ++ (.inr (7, [.null, .int 0, .int 0]) :: []), 0, 0)
  refine y_aload_n F.1 (i := 0) rfl rfl ?_
  refine y_oinit F.1 (by omega) (i := 1) rfl bm_TreatyText_3 bo_2 (Nat.le_of_ble_eq_true rfl) ?_
  refine y_aload_n F.1 (i := 2) rfl rfl ?_
  refine y_new1 F.1 (m := 1) (fs := [.null, .null, .int 0, .int 0, .int 0, .int 0, .int 0, .long 0, .int 0, .int 0, .int 0, .int 0]) (i := 3) rfl bc_TreatyText_9 bs_Reader bn_Reader (ci := 6) rfl (by decide +kernel) (by omega) (by omega) rfl ?_
  refine y_dup F.1 (i := 4) rfl rfl ?_
  refine y_init1 F.1 (blk := blk_Reader w) (n := 1) (i := 5) rfl bm_TreatyText_11 rfl rfl ok_Reader_init (Nat.le_of_ble_eq_true rfl) (Nat.le_of_ble_eq_true rfl) (fun P => b_Reader P) rfl (by omega) (by omega) ?_
  refine y_put1 F.1 (i := 6) rfl fl_TreatyText_12 bp_TreatyText_0 (Nat.le_of_ble_eq_true rfl) rfl rfl rfl ?_
  refine y_aload_n F.1 (i := 7) rfl rfl ?_
  refine y_iconst F.1 (i := 8) (v := 0) rfl (by decide) ?_
  refine y_put1 F.1 (i := 9) rfl fl_TreatyText_18 bp_TreatyText_1 (Nat.le_of_ble_eq_true rfl) rfl rfl rfl ?_
  refine y_aload_n F.1 (i := 10) rfl rfl ?_
  refine y_iconst F.1 (i := 11) (v := 0) rfl (by decide) ?_
  refine y_put1 F.1 (i := 12) rfl fl_TreatyText_22 bp_TreatyText_2 (Nat.le_of_ble_eq_true rfl) rfl rfl rfl ?_
  exact y_vret F (i := 13) rfl rfl (by omega) (by omega) ⟨rfl, rfl⟩
def blk_CenturyText (w : kx_W) (r : Nat) : List va_E := .inr (8, [.ref (w.2.2.2.1 + (r + 1)), .ref (w.2.2.2.1 + (r + 4)), .int 0]) :: ([] ++ blk_Reader w (r + 1) ++ [.inl (w.2.2.1 0, 3, .inl (fun _ => 0))])
set_option maxHeartbeats 4000000 in
theorem b_CenturyText {w : kx_W} {d : Nat} (P : List va_E) : Bt w (d + 7) 4 41 m_CenturyText_init [.ref P.length] (P ++ [.inr (8, [.null, .null, .int 0])]) (fun r E => r = none ∧ E = P ++ blk_CenturyText w P.length) := by
  refine mk_bt ok_CenturyText_init (Nat.le_of_ble_eq_true rfl) (fun G F => ?_)
  show G 0 [some (.ref P.length)] [] (P ++ (.inr (8, [.null, .null, .int 0]) :: []), 0, 0)
  refine y_aload_n F.1 (i := 0) rfl rfl ?_
  refine y_oinit F.1 (by omega) (i := 1) rfl bm_CenturyText_3 bo_2 (Nat.le_of_ble_eq_true rfl) ?_
  refine y_aload_n F.1 (i := 2) rfl rfl ?_
  refine y_new1 F.1 (m := 1) (fs := [.null, .null, .int 0, .int 0, .int 0, .int 0, .int 0, .long 0, .int 0, .int 0, .int 0, .int 0]) (i := 3) rfl bc_CenturyText_9 bs_Reader bn_Reader (ci := 6) rfl (by decide +kernel) (by omega) (by omega) rfl ?_
  refine y_dup F.1 (i := 4) rfl rfl ?_
  refine y_init1 F.1 (blk := blk_Reader w) (n := 1) (i := 5) rfl bm_CenturyText_11 rfl rfl ok_Reader_init (Nat.le_of_ble_eq_true rfl) (Nat.le_of_ble_eq_true rfl) (fun P => b_Reader P) rfl (by omega) (by omega) ?_
  refine y_put1 F.1 (i := 6) rfl fl_CenturyText_12 bp_CenturyText_0 (Nat.le_of_ble_eq_true rfl) rfl rfl rfl ?_
  refine y_aload_n F.1 (i := 7) rfl rfl ?_
  refine y_iconst F.1 (i := 8) (v := 3) rfl (by decide) ?_
  refine y_newa1 F.1 (t := 0) (N := 3) (m := 4) (a0 := (3, .inl (fun _ => 0))) (i := 9) rfl ba_int rfl (fun _ => rfl) (by decide) (by decide) (Nat.le_of_ble_eq_true rfl) (by omega) (by omega) rfl ?_
  refine y_put1 F.1 (i := 10) rfl fl_CenturyText_18 bp_CenturyText_1 (Nat.le_of_ble_eq_true rfl) rfl rfl rfl ?_
  refine y_aload_n F.1 (i := 11) rfl rfl ?_
  refine y_iconst F.1 (i := 12) (v := 0) rfl (by decide) ?_
  refine y_put1 F.1 (i := 13) rfl fl_CenturyText_22 bp_CenturyText_2 (Nat.le_of_ble_eq_true rfl) rfl rfl rfl ?_
  exact y_vret F (i := 14) rfl rfl (by omega) (by omega) ⟨rfl, rfl⟩
