/-! ## the reader: its constructor -/
def rdN : Nat → Nat
  | 0 => 0
  | k + 1 => if bytW.getD k 0 = 32 then rdN k + 1 else rdN k
def rdP : Nat → Int64
  | 0 => 0
  | k + 1 => if bytW.getD k 0 = 32 then 0 else (rdP k <<< ((5 : Int32).toInt64 &&& 63)) ||| (bytW.getD k 0 - 97 + 1).toInt64
def rdF : Nat → Nat → Int64
  | 0 => fun _ => 0
  | k + 1 => if bytW.getD k 0 = 32 then vp_updL (rdF k) (rdN k) (rdP k) else rdF k
theorem rd_lt : ∀ k, k < 136 → bytW.getD k 0 = 32 → rdN k < 26 := by decide +kernel
theorem rd_known : ∀ k, k < 26 → rdF 136 k = knownL.getD k 0 := by decide +kernel
theorem bx_1 {P R : List va_E} {o : va_E} {n : Nat} : (P ++ (o :: R))[P.length + (n + 1)]? = R[n]? := by
  rw [List.getElem?_append_right (Nat.le_add_right _ _), Nat.add_sub_cancel_left]
  rfl
theorem bx_s1 {P R : List va_E} {o e : va_E} {n : Nat} : (P ++ (o :: R)).set (P.length + (n + 1)) e = P ++ (o :: R.set n e) := by
  rw [List.set_append_right _ _ (Nat.le_add_right _ _), Nat.add_sub_cancel_left]
  rfl
def blk_Reader (w : kx_W) (r : Nat) : List va_E := .inr (6, [.ref (w.2.2.2.1 + (r + 1)), .ref (w.2.2.2.1 + (r + 2)), .int 0, .int 0, .int 0, .int 0, .int (-1), .long 0, .int 0, .int 0, .int 0, .int (-1)]) :: ([] ++ [.inl (w.2.2.1 1, 26, .inr (.inl (rdF 136)))] ++ [.inl (w.2.2.1 0, 0, .inl (fun _ => 0))])
set_option maxHeartbeats 4000000 in
theorem b_Reader_loop {w : kx_W} {d : Nat} {P : List va_E} {G : Nat → List (Option Value) → List Value → bx_St → Prop} (F : Bd2 w (d + 6) 2 26 m_Reader_init (fun r E => r = none ∧ E = P ++ blk_Reader w P.length) G) : ∀ n k, k + n = 136 → ∀ c5 : Option Value, G 76 [some (.ref P.length), some (.int (nI (rdN k))), some (.long (rdP k)), none, some (.int (nI k)), c5] [] (P ++ (.inr (6, ([.ref (w.2.2.2.1 + (P.length + 1)), .ref (w.2.2.2.1 + (P.length + 2)), .int 0, .int 0, .int 0, .int 0, .int (-1), .long 0, .int 0, .int 0, .int 0, .int (-1)] : List Value)) :: [.inl (w.2.2.1 1, 26, .inr (.inl (rdF k))), .inl (w.2.2.1 0, 0, .inl (fun _ => 0))]), 2, 26) := by
  intro n
  induction n with
  | zero =>
    intro k hk c5
    have hk' : k = 136 := by omega
    subst hk'
    refine y_iload F.1 (i := 46) rfl rfl ?_
    refine y_ldcS F.1 (i := 47) rfl ?_
    refine y_callV F.1 (i := 48) (As := []) rfl bl_Reader_53 ok_Slen rfl rfl (Nat.le_of_ble_eq_true rfl) (Nat.le_of_ble_eq_true rfl) (b_Slen _) (Nat.le_refl _) (Nat.le_refl _) ?_
    refine y_icmp_ge F.1 (i := 49) (tgt := 142) rfl (by decide) (fun c => ?_) (fun c => absurd (show (136 : Int32) ≤ nI 136 by decide) c)
    exact y_vret F (i := 82) rfl rfl (by omega) (by omega) ⟨rfl, rfl⟩
  | succ n ih =>
    intro k hk c5
    have hk1 : k < 136 := by omega
    have hk2 : nI k + Int32.ofInt 1 = nI (k + 1) := (nI_succ k).symm
    refine y_iload F.1 (i := 46) rfl rfl ?_
    refine y_ldcS F.1 (i := 47) rfl ?_
    refine y_callV F.1 (i := 48) (As := []) rfl bl_Reader_53 ok_Slen rfl rfl (Nat.le_of_ble_eq_true rfl) (Nat.le_of_ble_eq_true rfl) (b_Slen _) (Nat.le_refl _) (Nat.le_refl _) ?_
    refine y_icmp_ge F.1 (i := 49) (tgt := 142) rfl (by decide) (fun c => absurd (show nI k < (136 : Int32) from nI_lt (b := 136) hk1 (by decide)) (Int32.not_lt.mpr c)) (fun c => ?_)
    refine y_ldcS F.1 (i := 50) rfl ?_
    refine y_iload F.1 (i := 51) rfl rfl ?_
    refine y_callV F.1 (i := 52) (As := [.int (nI k)]) rfl bl_Reader_59 ok_Scha rfl rfl (Nat.le_of_ble_eq_true rfl) (Nat.le_of_ble_eq_true rfl) (b_Scha hk1 _) (Nat.le_refl _) (Nat.le_refl _) ?_
    refine y_istore F.1 (i := 53) rfl (by decide) (Nat.le_of_ble_eq_true rfl) rfl ?_
    refine y_iload F.1 (i := 54) rfl rfl ?_
    refine y_bipush F.1 (i := 55) (v := 32) rfl (by decide) ?_
    refine y_icmp_eq F.1 (i := 56) (tgt := 118) rfl (by decide) (fun c => ?_) (fun c => ?_)
    · have hN : rdN (k + 1) = rdN k + 1 := if_pos c
      have hP : rdP (k + 1) = 0 := if_pos c
      have hF : rdF (k + 1) = vp_updL (rdF k) (rdN k) (rdP k) := if_pos c
      have hlt := rd_lt k hk1 c
      refine y_iload_n F.1 (i := 69) rfl rfl ?_
      refine y_bipush F.1 (i := 70) (v := 26) rfl (by decide) ?_
      refine y_icmp_ge F.1 (i := 71) (tgt := 136) rfl (by decide) (fun c => absurd (show nI (rdN k) < (26 : Int32) from nI_lt (b := 26) hlt (by decide)) (Int32.not_lt.mpr c)) (fun c => ?_)
      refine y_aload_n F.1 (i := 72) rfl rfl ?_
      refine y_get1 F.1 (i := 73) (v := .ref (P.length + 1)) rfl fl_Reader_11 rfl ?_
      refine y_iload_n F.1 (i := 74) rfl rfl ?_
      refine y_lload_n F.1 (i := 75) rfl rfl ?_
      refine y_last F.1 (i := 76) rfl bx_1 (vp_in_nI hlt (by decide)) ?_
      rw [nI_clamp (by omega), bx_s1]
      refine y_iinc F.1 (i := 77) (v := nI (rdN k + 1)) rfl rfl (nI_succ _).symm (by decide) rfl ?_
      refine y_lconst F.1 (i := 78) (v := 0) rfl (by decide) ?_
      refine y_lstore_n F.1 (i := 79) rfl (by decide) (Nat.le_of_ble_eq_true rfl) rfl ?_
      refine y_iinc F.1 (i := 80) (v := nI (k + 1)) rfl rfl hk2 (by decide) rfl ?_
      refine y_goto F.1 (i := 81) (tgt := 76) rfl (by decide) ?_
      have g := ih (k + 1) (by omega) (some (.int (bytW.getD k 0)))
      rw [hN, hP, hF] at g
      exact g
    · have hN : rdN (k + 1) = rdN k := if_neg c
      have hP : rdP (k + 1) = (rdP k <<< ((5 : Int32).toInt64 &&& 63)) ||| (bytW.getD k 0 - 97 + 1).toInt64 := if_neg c
      have hF : rdF (k + 1) = rdF k := if_neg c
      refine y_lload_n F.1 (i := 57) rfl rfl ?_
      refine y_iconst F.1 (i := 58) (v := 5) rfl (by decide) ?_
      refine y_lshl F.1 (i := 59) rfl ?_
      refine y_iload F.1 (i := 60) rfl rfl ?_
      refine y_bipush F.1 (i := 61) (v := 97) rfl (by decide) ?_
      refine y_isub F.1 (i := 62) rfl ?_
      refine y_iconst F.1 (i := 63) (v := 1) rfl (by decide) ?_
      refine y_iadd F.1 (i := 64) rfl ?_
      refine y_i2l F.1 (i := 65) rfl ?_
      refine y_lor F.1 (i := 66) rfl ?_
      refine y_lstore_n F.1 (i := 67) rfl (by decide) (Nat.le_of_ble_eq_true rfl) rfl ?_
      refine y_goto F.1 (i := 68) (tgt := 136) rfl (by decide) ?_
      refine y_iinc F.1 (i := 80) (v := nI (k + 1)) rfl rfl hk2 (by decide) rfl ?_
      refine y_goto F.1 (i := 81) (tgt := 76) rfl (by decide) ?_
      have g := ih (k + 1) (by omega) (some (.int (bytW.getD k 0)))
      rw [hN, hP, hF] at g
      exact g
set_option maxHeartbeats 4000000 in
theorem b_Reader {w : kx_W} {d : Nat} (P : List va_E) : Bt w (d + 6) 2 26 m_Reader_init [.ref P.length] (P ++ [.inr (6, [.null, .null, .int 0, .int 0, .int 0, .int 0, .int 0, .long 0, .int 0, .int 0, .int 0, .int 0])]) (fun r E => r = none ∧ E = P ++ blk_Reader w P.length) := by
  refine mk_bt ok_Reader_init (Nat.le_of_ble_eq_true rfl) (fun G F => ?_)
  show G 0 [some (.ref P.length), none, none, none, none, none] [] (P ++ (.inr (6, [.null, .null, .int 0, .int 0, .int 0, .int 0, .int 0, .long 0, .int 0, .int 0, .int 0, .int 0]) :: []), 0, 0)
  refine y_aload_n F.1 (i := 0) rfl rfl ?_
  refine y_oinit F.1 (by omega) (i := 1) rfl bm_Reader_3 bo_2 (Nat.le_of_ble_eq_true rfl) ?_
  refine y_aload_n F.1 (i := 2) rfl rfl ?_
  refine y_bipush F.1 (i := 3) (v := 26) rfl (by decide) ?_
  refine y_newa1 F.1 (t := 1) (N := 26) (m := 1) (a0 := (26, .inr (.inl (fun _ => 0)))) (i := 4) rfl ba_long rfl (fun _ => rfl) (by decide) (by decide) (Nat.le_of_ble_eq_true rfl) (by omega) (by omega) rfl ?_
  refine y_put1 F.1 (i := 5) rfl fl_Reader_11 bp_Reader_0 (Nat.le_of_ble_eq_true rfl) rfl rfl rfl ?_
  refine y_aload_n F.1 (i := 6) rfl rfl ?_
  refine y_iconst F.1 (i := 7) (v := 0) rfl (by decide) ?_
  refine y_newa1 F.1 (t := 0) (N := 0) (m := 2) (a0 := (0, .inl (fun _ => 0))) (i := 8) rfl ba_int rfl (fun _ => rfl) (by decide) (by decide) (Nat.le_of_ble_eq_true rfl) (by omega) (by omega) rfl ?_
  refine y_put1 F.1 (i := 9) rfl fl_Reader_15 bp_Reader_1 (Nat.le_of_ble_eq_true rfl) rfl rfl rfl ?_
  refine y_aload_n F.1 (i := 10) rfl rfl ?_
  refine y_iconst F.1 (i := 11) (v := 0) rfl (by decide) ?_
  refine y_put1 F.1 (i := 12) rfl fl_Reader_19 bp_Reader_2 (Nat.le_of_ble_eq_true rfl) rfl rfl rfl ?_
  refine y_aload_n F.1 (i := 13) rfl rfl ?_
  refine y_iconst F.1 (i := 14) (v := 0) rfl (by decide) ?_
  refine y_put1 F.1 (i := 15) rfl fl_Reader_23 bp_Reader_3 (Nat.le_of_ble_eq_true rfl) rfl rfl rfl ?_
  refine y_aload_n F.1 (i := 16) rfl rfl ?_
  refine y_iconst F.1 (i := 17) (v := 0) rfl (by decide) ?_
  refine y_put1 F.1 (i := 18) rfl fl_Reader_26 bp_Reader_4 (Nat.le_of_ble_eq_true rfl) rfl rfl rfl ?_
  refine y_aload_n F.1 (i := 19) rfl rfl ?_
  refine y_iconst F.1 (i := 20) (v := 0) rfl (by decide) ?_
  refine y_put1 F.1 (i := 21) rfl fl_Reader_29 bp_Reader_5 (Nat.le_of_ble_eq_true rfl) rfl rfl rfl ?_
  refine y_aload_n F.1 (i := 22) rfl rfl ?_
  refine y_iconst F.1 (i := 23) (v := -1) rfl (by decide) ?_
  refine y_put1 F.1 (i := 24) rfl fl_Reader_32 bp_Reader_6 (Nat.le_of_ble_eq_true rfl) rfl rfl rfl ?_
  refine y_aload_n F.1 (i := 25) rfl rfl ?_
  refine y_lconst F.1 (i := 26) (v := 0) rfl (by decide) ?_
  refine y_put1 F.1 (i := 27) rfl fl_Reader_35 bp_Reader_7 (Nat.le_of_ble_eq_true rfl) rfl rfl rfl ?_
  refine y_aload_n F.1 (i := 28) rfl rfl ?_
  refine y_iconst F.1 (i := 29) (v := 0) rfl (by decide) ?_
  refine y_put1 F.1 (i := 30) rfl fl_Reader_39 bp_Reader_8 (Nat.le_of_ble_eq_true rfl) rfl rfl rfl ?_
  refine y_aload_n F.1 (i := 31) rfl rfl ?_
  refine y_iconst F.1 (i := 32) (v := 0) rfl (by decide) ?_
  refine y_put1 F.1 (i := 33) rfl fl_Reader_42 bp_Reader_9 (Nat.le_of_ble_eq_true rfl) rfl rfl rfl ?_
  refine y_aload_n F.1 (i := 34) rfl rfl ?_
  refine y_iconst F.1 (i := 35) (v := 0) rfl (by decide) ?_
  refine y_put1 F.1 (i := 36) rfl fl_Reader_45 bp_Reader_10 (Nat.le_of_ble_eq_true rfl) rfl rfl rfl ?_
  refine y_aload_n F.1 (i := 37) rfl rfl ?_
  refine y_iconst F.1 (i := 38) (v := -1) rfl (by decide) ?_
  refine y_put1 F.1 (i := 39) rfl fl_Reader_48 bp_Reader_11 (Nat.le_of_ble_eq_true rfl) rfl rfl rfl ?_
  refine y_iconst F.1 (i := 40) (v := 0) rfl (by decide) ?_
  refine y_istore_n F.1 (i := 41) rfl (by decide) (Nat.le_of_ble_eq_true rfl) rfl ?_
  refine y_lconst F.1 (i := 42) (v := 0) rfl (by decide) ?_
  refine y_lstore_n F.1 (i := 43) rfl (by decide) (Nat.le_of_ble_eq_true rfl) rfl ?_
  refine y_iconst F.1 (i := 44) (v := 0) rfl (by decide) ?_
  refine y_istore F.1 (i := 45) rfl (by decide) (Nat.le_of_ble_eq_true rfl) rfl ?_
  exact b_Reader_loop F 136 0 rfl none
