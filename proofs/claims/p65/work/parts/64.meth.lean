set_option maxHeartbeats 4000000 in
theorem t_Seen_passColumn_l27 {w : kx_W} {d : Nat} {Q : Option Value → kx_M → Prop} {G : Nat → List (Option Value) → List Value → kx_M → Prop} (F : Sd w (d + 1) m_Seen_passColumn Q G) {p1 : Int32} {k10 : Int32 → kx_M → Option (Unit × kx_M)} {res : Unit × kx_M} (hQ : Q none res.2) (hk10 : ∀ (x2 : Int32) (M : kx_M), k10 x2 M = some res → G 10 [some (.ref 13), some (.int p1), some (.int x2), none] [] M) :
    ∀ (n : Nat) (x2 : Int32) (x3 : Int32) (M : kx_M),
    f_Seen_passColumn_l27 p1 k10 n x2 x3 M = some res → G 27 [some (.ref 13), some (.int p1), some (.int x2), some (.int x3)] [] M := by
  intro n
  induction n with
  | zero =>
    intro x2 x3 M h
    exact absurd h (by rw [f_Seen_passColumn_l27]; exact fun z => nomatch z)
  | succ n ih =>
    intro x2 x3 M h
    rw [f_Seen_passColumn_l27] at h
    refine x_iload_n F.1 (i := 17) rfl rfl ?_
    refine x_aload_n F.1 (i := 18) rfl rfl ?_
    refine x_getI F.1 (i := 19) rfl fl_Seen_22 rfl (by rfl) ?_
    refine x_icmp_ge F.1 (i := 20) (tgt := 65) rfl (by decide) (fun c => ?_) (fun c => ?_)
    · replace h := if_T c h
      refine x_aload_n F.1 (i := 41) rfl rfl ?_
      refine x_getR F.1 (i := 42) rfl fl_Seen_28 rfl (by rfl) rfl ?_
      refine x_aload_n F.1 (i := 43) rfl rfl ?_
      refine x_getI F.1 (i := 44) rfl fl_Seen_22 rfl (by rfl) ?_
      refine x_dup2 F.1 (i := 45) rfl rfl rfl ?_
      refine gd_e h (fun g1 h => ?_)
      obtain ⟨ng1, kg1, lg1, ig1⟩ := aIb_e g1
      refine x_iald F.1 (i := 46) rfl lg1 ig1 ?_
      refine x_aload_n F.1 (i := 47) rfl rfl ?_
      refine x_getR F.1 (i := 48) rfl fl_Seen_25 rfl (by rfl) rfl ?_
      refine x_aload_n F.1 (i := 49) rfl rfl ?_
      refine x_getI F.1 (i := 50) rfl fl_Seen_22 rfl (by rfl) ?_
      refine gd_e h (fun g2 h => ?_)
      obtain ⟨ng2, kg2, lg2, ig2⟩ := aIb_e g2
      refine x_iald F.1 (i := 51) rfl lg2 ig2 ?_
      refine x_iadd F.1 (i := 52) rfl ?_
      refine gd_e h (fun g3 h => ?_)
      obtain ⟨ng3, kg3, lg3, ig3⟩ := aIb_e g3
      refine x_iast F.1 (i := 53) rfl lg3 ig3 ?_
      replace h := bd_e h
      refine x_iinc F.1 (i := 54) rfl rfl rfl (Nat.le_of_ble_eq_true rfl) rfl ?_
      replace h := bd_e h
      refine x_goto F.1 (i := 55) (tgt := 10) rfl (by decide) ?_
      exact x_wk F.1 (hk10 _ _ h) ⟨rfl, rfl, rfl, trivial⟩
    · replace h := if_F c h
      refine x_aload_n F.1 (i := 21) rfl rfl ?_
      refine x_getR F.1 (i := 22) rfl fl_Seen_28 rfl (by rfl) rfl ?_
      refine x_aload_n F.1 (i := 23) rfl rfl ?_
      refine x_getC F.1 (i := 24) rfl fl_Seen_19 rfl (by rfl) ?_
      refine x_iload_n F.1 (i := 25) rfl rfl ?_
      refine x_iconst F.1 (i := 26) rfl ic_4 ?_
      refine x_imul F.1 (i := 27) rfl ?_
      refine x_iload_n F.1 (i := 28) rfl rfl ?_
      refine x_iadd F.1 (i := 29) rfl ?_
      refine gd_e h (fun g5 h => ?_)
      refine x_iald F.1 (i := 30) rfl rfl (inb_e g5) ?_
      refine x_dup2 F.1 (i := 31) rfl rfl rfl ?_
      refine gd_e h (fun g6 h => ?_)
      obtain ⟨ng6, kg6, lg6, ig6⟩ := aIb_e g6
      refine x_iald F.1 (i := 32) rfl lg6 ig6 ?_
      refine x_aload_n F.1 (i := 33) rfl rfl ?_
      refine x_getR F.1 (i := 34) rfl fl_Seen_25 rfl (by rfl) rfl ?_
      refine x_iload_n F.1 (i := 35) rfl rfl ?_
      refine gd_e h (fun g7 h => ?_)
      obtain ⟨ng7, kg7, lg7, ig7⟩ := aIb_e g7
      refine x_iald F.1 (i := 36) rfl lg7 ig7 ?_
      refine x_iadd F.1 (i := 37) rfl ?_
      refine gd_e h (fun g8 h => ?_)
      obtain ⟨ng8, kg8, lg8, ig8⟩ := aIb_e g8
      refine x_iast F.1 (i := 38) rfl lg8 ig8 ?_
      replace h := bd_e h
      refine x_iinc F.1 (i := 39) rfl rfl rfl (Nat.le_of_ble_eq_true rfl) rfl ?_
      replace h := bd_e h
      refine x_goto F.1 (i := 40) (tgt := 27) rfl (by decide) ?_
      exact x_wk F.1 (ih _ _ _ h) ⟨rfl, rfl, rfl, rfl, trivial⟩
set_option maxHeartbeats 4000000 in
theorem t_Seen_passColumn_l10 {w : kx_W} {d : Nat} {Q : Option Value → kx_M → Prop} {G : Nat → List (Option Value) → List Value → kx_M → Prop} (F : Sd w (d + 1) m_Seen_passColumn Q G) {p1 : Int32} {res : Unit × kx_M} (hQ : Q none res.2) :
    ∀ (n : Nat) (x2 : Int32) (M : kx_M),
    f_Seen_passColumn_l10 p1 n x2 M = some res → G 10 [some (.ref 13), some (.int p1), some (.int x2), none] [] M := by
  intro n
  induction n with
  | zero =>
    intro x2 M h
    exact absurd h (by rw [f_Seen_passColumn_l10]; exact fun z => nomatch z)
  | succ n ih =>
    intro x2 M h
    rw [f_Seen_passColumn_l10] at h
    refine x_iload_n F.1 (i := 6) rfl rfl ?_
    refine x_iconst F.1 (i := 7) rfl ic_4 ?_
    refine x_icmp_ge F.1 (i := 8) (tgt := 92) rfl (by decide) (fun c => ?_) (fun c => ?_)
    · replace h := if_T c h
      refine x_aload_n F.1 (i := 56) rfl rfl ?_
      refine x_getR F.1 (i := 57) rfl fl_Seen_25 rfl (by rfl) rfl ?_
      refine x_astore_n F.1 (i := 58) rfl (Nat.le_of_ble_eq_true rfl) (Nat.le_of_ble_eq_true rfl) rfl ?_
      replace h := bd_e h
      refine x_aload_n F.1 (i := 59) rfl rfl ?_
      refine x_aload_n F.1 (i := 60) rfl rfl ?_
      refine x_getR F.1 (i := 61) rfl fl_Seen_28 rfl (by rfl) rfl ?_
      refine x_putQ F.1 (i := 62) rfl fl_Seen_25 pf_Seen_ways rfl (by rfl) ?_
      replace h := bd_e h
      refine x_aload_n F.1 (i := 63) rfl rfl ?_
      refine x_aload_n F.1 (i := 64) rfl rfl ?_
      refine x_putQ F.1 (i := 65) rfl fl_Seen_28 pf_Seen_later rfl (by rfl) ?_
      replace h := bd_e h
      exact x_vretf F (i := 66) rfl rfl h hQ
    · replace h := if_F c h
      refine x_iload_n F.1 (i := 9) rfl rfl ?_
      refine x_iconst F.1 (i := 10) rfl ic_n1 ?_
      refine x_icmp_eq F.1 (i := 11) (tgt := 25) rfl (by decide) (fun c => ?_) (fun c => ?_)
      · replace h := if_T c h
        refine x_iconst F.1 (i := 15) rfl ic_0 ?_
        refine x_istore_n F.1 (i := 16) rfl (Nat.le_of_ble_eq_true rfl) (Nat.le_of_ble_eq_true rfl) rfl ?_
        exact x_wk F.1 ((t_Seen_passColumn_l27 F hQ ih FU) _ _ _ h) ⟨rfl, rfl, rfl, rfl, trivial⟩
      · replace h := if_F c h
        refine x_iload_n F.1 (i := 12) rfl rfl ?_
        refine x_iload_n F.1 (i := 13) rfl rfl ?_
        refine x_icmp_ne F.1 (i := 14) (tgt := 86) rfl (by decide) (fun c => ?_) (fun c => ?_)
        · replace h := if_F c h
          refine x_iinc F.1 (i := 54) rfl rfl rfl (Nat.le_of_ble_eq_true rfl) rfl ?_
          replace h := bd_e h
          refine x_goto F.1 (i := 55) (tgt := 10) rfl (by decide) ?_
          exact x_wk F.1 (ih _ _ h) ⟨rfl, rfl, rfl, trivial⟩
        · replace h := if_T c h
          refine x_iconst F.1 (i := 15) rfl ic_0 ?_
          refine x_istore_n F.1 (i := 16) rfl (Nat.le_of_ble_eq_true rfl) (Nat.le_of_ble_eq_true rfl) rfl ?_
          exact x_wk F.1 ((t_Seen_passColumn_l27 F hQ ih FU) _ _ _ h) ⟨rfl, rfl, rfl, rfl, trivial⟩
set_option maxHeartbeats 4000000 in
theorem t_Seen_passColumn {w : kx_W} {d : Nat} {M : kx_M} {Q : Option Value → kx_M → Prop} {p1 : Int32} {r : Unit} {M' : kx_M} (h : f_Seen_passColumn p1 M = some (r, M')) (hQ : Q none M') : Ct w (d + 1) m_Seen_passColumn [.ref 13, .int p1] M Q := by
  refine mk_ct ok_Seen_passColumn (Nat.le_of_ble_eq_true rfl) (fun G F => ?_)
  rw [f_Seen_passColumn] at h
  show G 0 [some (.ref 13), some (.int p1), none, none] [] M
  refine x_aload_n F.1 (i := 0) rfl rfl ?_
  refine x_getR F.1 (i := 1) rfl fl_Seen_28 rfl (by rfl) rfl ?_
  refine x_iconst F.1 (i := 2) rfl ic_0 ?_
  refine cal_e h (fun r1 M1 e2 h => ?_)
  refine x_cS2v F.1 (i := 3) rfl ml_Seen_47 ok_Arr_fill_2 (Nat.le_of_ble_eq_true rfl) (Nat.le_of_ble_eq_true rfl) (fun _ => t_Arr_fill_2 e2) ?_
  refine x_iconst F.1 (i := 4) rfl ic_0 ?_
  refine x_istore_n F.1 (i := 5) rfl (Nat.le_of_ble_eq_true rfl) (Nat.le_of_ble_eq_true rfl) rfl ?_
  exact x_wk F.1 ((t_Seen_passColumn_l10 F (res := (r, M')) hQ FU) _ _ h) ⟨rfl, rfl, rfl, trivial⟩
set_option maxHeartbeats 4000000 in
theorem t_Seen_count_l17 {w : kx_W} {d : Nat} {Q : Option Value → kx_M → Prop} {G : Nat → List (Option Value) → List Value → kx_M → Prop} (F : Sd w (d + 2) m_Seen_count Q G) {res : Int32 × kx_M} (hQ : Q (some (.int res.1)) res.2) :
    ∀ (n : Nat) (x1 : Int32) (M : kx_M),
    f_Seen_count_l17 n x1 M = some res → G 17 [some (.ref 13), some (.int x1)] [] M := by
  intro n
  induction n with
  | zero =>
    intro x1 M h
    exact absurd h (by rw [f_Seen_count_l17]; exact fun z => nomatch z)
  | succ n ih =>
    intro x1 M h
    rw [f_Seen_count_l17] at h
    refine x_iload_n F.1 (i := 11) rfl rfl ?_
    refine x_aload_n F.1 (i := 12) rfl rfl ?_
    refine x_getI F.1 (i := 13) rfl fl_Seen_15 rfl (by rfl) ?_
    refine x_icmp_ge F.1 (i := 14) (tgt := 41) rfl (by decide) (fun c => ?_) (fun c => ?_)
    · replace h := if_T c h
      refine x_aload_n F.1 (i := 23) rfl rfl ?_
      refine x_getR F.1 (i := 24) rfl fl_Seen_25 rfl (by rfl) rfl ?_
      refine x_aload_n F.1 (i := 25) rfl rfl ?_
      refine x_getI F.1 (i := 26) rfl fl_Seen_22 rfl (by rfl) ?_
      refine gd_e h (fun g1 h => ?_)
      obtain ⟨ng1, kg1, lg1, ig1⟩ := aIb_e g1
      refine x_iald F.1 (i := 27) rfl lg1 ig1 ?_
      exact x_iretf F (i := 28) rfl rfl h hQ
    · replace h := if_F c h
      refine x_aload_n F.1 (i := 15) rfl rfl ?_
      refine x_aload_n F.1 (i := 16) rfl rfl ?_
      refine x_getC F.1 (i := 17) rfl fl_Seen_9 rfl (by rfl) ?_
      refine x_iload_n F.1 (i := 18) rfl rfl ?_
      refine gd_e h (fun g2 h => ?_)
      refine x_iald F.1 (i := 19) rfl rfl (inb_e g2) ?_
      refine cal_e h (fun r3 M1 e4 h => ?_)
      refine x_cV1v F.1 (i := 20) rfl ml_Seen_53 ok_Seen_passColumn rfl (Nat.le_of_ble_eq_true rfl) (Nat.le_of_ble_eq_true rfl) (fun _ => t_Seen_passColumn e4) ?_
      refine x_iinc F.1 (i := 21) rfl rfl rfl (Nat.le_of_ble_eq_true rfl) rfl ?_
      replace h := bd_e h
      refine x_goto F.1 (i := 22) (tgt := 17) rfl (by decide) ?_
      exact x_wk F.1 (ih _ _ h) ⟨rfl, rfl, trivial⟩
set_option maxHeartbeats 4000000 in
theorem t_Seen_count {w : kx_W} {d : Nat} {M : kx_M} {Q : Option Value → kx_M → Prop} {r : Int32} {M' : kx_M} (h : f_Seen_count M = some (r, M')) (hQ : Q (some (.int r)) M') : Ct w (d + 2) m_Seen_count [.ref 13] M Q := by
  refine mk_ct ok_Seen_count (Nat.le_of_ble_eq_true rfl) (fun G F => ?_)
  rw [f_Seen_count] at h
  show G 0 [some (.ref 13), none] [] M
  refine x_aload_n F.1 (i := 0) rfl rfl ?_
  refine x_getR F.1 (i := 1) rfl fl_Seen_25 rfl (by rfl) rfl ?_
  refine x_iconst F.1 (i := 2) rfl ic_0 ?_
  refine cal_e h (fun r1 M1 e2 h => ?_)
  refine x_cS2v F.1 (i := 3) rfl ml_Seen_47 ok_Arr_fill_2 (Nat.le_of_ble_eq_true rfl) (Nat.le_of_ble_eq_true rfl) (fun _ => t_Arr_fill_2 e2) ?_
  refine x_aload_n F.1 (i := 4) rfl rfl ?_
  refine x_getR F.1 (i := 5) rfl fl_Seen_25 rfl (by rfl) rfl ?_
  refine x_iconst F.1 (i := 6) rfl ic_0 ?_
  refine x_iconst F.1 (i := 7) rfl ic_1 ?_
  refine gd_e h (fun g3 h => ?_)
  obtain ⟨ng3, kg3, lg3, ig3⟩ := aIb_e g3
  refine x_iast F.1 (i := 8) rfl lg3 ig3 ?_
  replace h := bd_e h
  refine x_iconst F.1 (i := 9) rfl ic_0 ?_
  refine x_istore_n F.1 (i := 10) rfl (Nat.le_of_ble_eq_true rfl) (Nat.le_of_ble_eq_true rfl) rfl ?_
  exact x_wk F.1 ((t_Seen_count_l17 F (res := (r, M')) hQ FU) _ _ h) ⟨rfl, rfl, trivial⟩
set_option maxHeartbeats 4000000 in
theorem t_KT_fills {w : kx_W} {d : Nat} {M : kx_M} {Q : Option Value → kx_M → Prop} {p1 : Int32} {p2 : Int32} {r : Int32} {M' : kx_M} (h : f_KT_fills p1 p2 M = some (r, M')) (hQ : Q (some (.int r)) M') : Ct w (d + 4) m_KT_fills [.ref 0, .int p1, .int p2] M Q := by
  refine mk_ct ok_KT_fills (Nat.le_of_ble_eq_true rfl) (fun G F => ?_)
  rw [f_KT_fills] at h
  show G 0 [some (.ref 0), some (.int p1), some (.int p2)] [] M
  refine x_aload_n F.1 (i := 0) rfl rfl ?_
  refine x_aload_n F.1 (i := 1) rfl rfl ?_
  refine x_iload_n F.1 (i := 2) rfl rfl ?_
  refine x_iload_n F.1 (i := 3) rfl rfl ?_
  refine cal_e h (fun r1 M1 e2 h => ?_)
  refine x_cV2i F.1 (i := 4) rfl ml_KT_396 ok_KT_seenStatus rfl (Nat.le_of_ble_eq_true rfl) (Nat.le_of_ble_eq_true rfl) (fun _ => t_KT_seenStatus e2) ?_
  refine cal_e h (fun r3 M2 e4 h => ?_)
  refine x_cV1i F.1 (i := 5) rfl ml_KT_103 ok_KT_refused rfl (Nat.le_of_ble_eq_true rfl) (Nat.le_of_ble_eq_true rfl) (fun _ => t_KT_refused e4) ?_
  refine x_if_eq F.1 (i := 6) (tgt := 15) rfl (by decide) (fun c => ?_) (fun c => ?_)
  · replace h := if_T c h
    refine x_aload_n F.1 (i := 9) rfl rfl ?_
    refine x_iload_n F.1 (i := 10) rfl rfl ?_
    refine x_iload_n F.1 (i := 11) rfl rfl ?_
    refine cal_e h (fun r5 M3 e6 h => ?_)
    refine x_cV2v F.1 (i := 12) rfl ml_KT_399 ok_KT_lookAt rfl (Nat.le_of_ble_eq_true rfl) (Nat.le_of_ble_eq_true rfl) (fun _ => t_KT_lookAt e6) ?_
    refine x_aload_n F.1 (i := 13) rfl rfl ?_
    refine x_getC F.1 (i := 14) rfl fl_KT_42 rfl (by rfl) ?_
    refine cal_e h (fun r7 M4 e8 h => ?_)
    refine x_cV0i F.1 (i := 15) rfl ml_KT_402 ok_Seen_count rfl (Nat.le_of_ble_eq_true rfl) (Nat.le_of_ble_eq_true rfl) (fun _ => t_Seen_count e8) ?_
    exact x_iretf F (i := 16) rfl rfl h (res := (r, M')) hQ
  · replace h := if_F c h
    refine x_iconst F.1 (i := 7) rfl ic_n1 ?_
    exact x_iretf F (i := 8) rfl rfl h (res := (r, M')) hQ
set_option maxHeartbeats 4000000 in
theorem t_Seen_countWith {w : kx_W} {d : Nat} {M : kx_M} {Q : Option Value → kx_M → Prop} {p1 : Int32} {p2 : Int32} {r : Int32} {M' : kx_M} (h : f_Seen_countWith p1 p2 M = some (r, M')) (hQ : Q (some (.int r)) M') : Ct w (d + 3) m_Seen_countWith [.ref 13, .int p1, .int p2] M Q := by
  refine mk_ct ok_Seen_countWith (Nat.le_of_ble_eq_true rfl) (fun G F => ?_)
  rw [f_Seen_countWith] at h
  show G 0 [some (.ref 13), some (.int p1), some (.int p2), none, none] [] M
  refine x_aload_n F.1 (i := 0) rfl rfl ?_
  refine x_getC F.1 (i := 1) rfl fl_Seen_9 rfl (by rfl) ?_
  refine x_iload_n F.1 (i := 2) rfl rfl ?_
  refine gd_e h (fun g1 h => ?_)
  refine x_iald F.1 (i := 3) rfl rfl (inb_e g1) ?_
  refine x_istore_n F.1 (i := 4) rfl (Nat.le_of_ble_eq_true rfl) (Nat.le_of_ble_eq_true rfl) rfl ?_
  replace h := bd_e h
  refine x_aload_n F.1 (i := 5) rfl rfl ?_
  refine x_getC F.1 (i := 6) rfl fl_Seen_9 rfl (by rfl) ?_
  refine x_iload_n F.1 (i := 7) rfl rfl ?_
  refine x_iload_n F.1 (i := 8) rfl rfl ?_
  refine gd_e h (fun g3 h => ?_)
  refine x_iast F.1 (i := 9) rfl rfl (inb_e g3) ?_
  replace h := bd_e h
  refine x_aload_n F.1 (i := 10) rfl rfl ?_
  refine cal_e h (fun r4 M2 e5 h => ?_)
  refine x_cV0i F.1 (i := 11) rfl ml_Seen_57 ok_Seen_count rfl (Nat.le_of_ble_eq_true rfl) (Nat.le_of_ble_eq_true rfl) (fun _ => t_Seen_count e5) ?_
  refine x_istore F.1 (i := 12) rfl (Nat.le_of_ble_eq_true rfl) (Nat.le_of_ble_eq_true rfl) rfl ?_
  refine x_aload_n F.1 (i := 13) rfl rfl ?_
  refine x_getC F.1 (i := 14) rfl fl_Seen_9 rfl (by rfl) ?_
  refine x_iload_n F.1 (i := 15) rfl rfl ?_
  refine x_iload_n F.1 (i := 16) rfl rfl ?_
  refine gd_e h (fun g6 h => ?_)
  refine x_iast F.1 (i := 17) rfl rfl (inb_e g6) ?_
  replace h := bd_e h
  refine x_iload F.1 (i := 18) rfl rfl ?_
  exact x_iretf F (i := 19) rfl rfl h (res := (r, M')) hQ
set_option maxHeartbeats 4000000 in
theorem t_Seen_bestColumn_l31 {w : kx_W} {d : Nat} {Q : Option Value → kx_M → Prop} {G : Nat → List (Option Value) → List Value → kx_M → Prop} (F : Sd w (d + 4) m_Seen_bestColumn Q G) {k7 : Int32 → Int32 → Int32 → kx_M → Option (Int32 × kx_M)} {res : Int32 × kx_M} (hQ : Q (some (.int res.1)) res.2) (hk7 : ∀ (x1 : Int32) (x2 : Int32) (x3 : Int32) (M : kx_M), k7 x1 x2 x3 M = some res → G 7 [some (.ref 13), some (.int x1), some (.int x2), some (.int x3), none, none] [] M) :
    ∀ (n : Nat) (x1 : Int32) (x2 : Int32) (x3 : Int32) (x4 : Int32) (x5 : Int32) (M : kx_M),
    f_Seen_bestColumn_l31 k7 n x1 x2 x3 x4 x5 M = some res → G 31 [some (.ref 13), some (.int x1), some (.int x2), some (.int x3), some (.int x4), some (.int x5)] [] M := by
  intro n
  induction n with
  | zero =>
    intro x1 x2 x3 x4 x5 M h
    exact absurd h (by rw [f_Seen_bestColumn_l31]; exact fun z => nomatch z)
  | succ n ih =>
    intro x1 x2 x3 x4 x5 M h
    rw [f_Seen_bestColumn_l31] at h
    refine x_iload F.1 (i := 20) rfl rfl ?_
    refine x_iconst F.1 (i := 21) rfl ic_4 ?_
    refine x_icmp_ge F.1 (i := 22) (tgt := 57) rfl (by decide) (fun c => ?_) (fun c => ?_)
    · replace h := if_T c h
      refine x_iload F.1 (i := 32) rfl rfl ?_
      refine x_iload_n F.1 (i := 33) rfl rfl ?_
      refine x_icmp_ge F.1 (i := 34) (tgt := 68) rfl (by decide) (fun c => ?_) (fun c => ?_)
      · replace h := if_T c h
        refine x_iinc F.1 (i := 39) rfl rfl rfl (Nat.le_of_ble_eq_true rfl) rfl ?_
        replace h := bd_e h
        refine x_goto F.1 (i := 40) (tgt := 7) rfl (by decide) ?_
        exact x_wk F.1 (hk7 _ _ _ _ h) ⟨rfl, rfl, rfl, rfl, trivial⟩
      · replace h := if_F c h
        refine x_iload F.1 (i := 35) rfl rfl ?_
        refine x_istore_n F.1 (i := 36) rfl (Nat.le_of_ble_eq_true rfl) (Nat.le_of_ble_eq_true rfl) rfl ?_
        refine x_iload_n F.1 (i := 37) rfl rfl ?_
        refine x_istore_n F.1 (i := 38) rfl (Nat.le_of_ble_eq_true rfl) (Nat.le_of_ble_eq_true rfl) rfl ?_
        refine x_iinc F.1 (i := 39) rfl rfl rfl (Nat.le_of_ble_eq_true rfl) rfl ?_
        replace h := bd_e h
        refine x_goto F.1 (i := 40) (tgt := 7) rfl (by decide) ?_
        exact x_wk F.1 (hk7 _ _ _ _ h) ⟨rfl, rfl, rfl, rfl, trivial⟩
    · replace h := if_F c h
      refine x_iload F.1 (i := 23) rfl rfl ?_
      refine x_aload_n F.1 (i := 24) rfl rfl ?_
      refine x_iload_n F.1 (i := 25) rfl rfl ?_
      refine x_iload F.1 (i := 26) rfl rfl ?_
      refine cal_e h (fun r3 M1 e4 h => ?_)
      refine x_cV2i F.1 (i := 27) rfl ml_Seen_62 ok_Seen_countWith rfl (Nat.le_of_ble_eq_true rfl) (Nat.le_of_ble_eq_true rfl) (fun _ => t_Seen_countWith e4) ?_
      refine x_mmax F.1 (i := 28) rfl jm_Seen_66 (Nat.le_of_ble_eq_true rfl) ?_
      refine x_istore F.1 (i := 29) rfl (Nat.le_of_ble_eq_true rfl) (Nat.le_of_ble_eq_true rfl) rfl ?_
      replace h := bd_e h
      refine x_iinc F.1 (i := 30) rfl rfl rfl (Nat.le_of_ble_eq_true rfl) rfl ?_
      replace h := bd_e h
      refine x_goto F.1 (i := 31) (tgt := 31) rfl (by decide) ?_
      exact x_wk F.1 (ih _ _ _ _ _ _ h) ⟨rfl, rfl, rfl, rfl, rfl, rfl, trivial⟩
set_option maxHeartbeats 4000000 in
theorem t_Seen_bestColumn_l7 {w : kx_W} {d : Nat} {Q : Option Value → kx_M → Prop} {G : Nat → List (Option Value) → List Value → kx_M → Prop} (F : Sd w (d + 4) m_Seen_bestColumn Q G) {res : Int32 × kx_M} (hQ : Q (some (.int res.1)) res.2) :
    ∀ (n : Nat) (x1 : Int32) (x2 : Int32) (x3 : Int32) (M : kx_M),
    f_Seen_bestColumn_l7 n x1 x2 x3 M = some res → G 7 [some (.ref 13), some (.int x1), some (.int x2), some (.int x3), none, none] [] M := by
  intro n
  induction n with
  | zero =>
    intro x1 x2 x3 M h
    exact absurd h (by rw [f_Seen_bestColumn_l7]; exact fun z => nomatch z)
  | succ n ih =>
    intro x1 x2 x3 M h
    rw [f_Seen_bestColumn_l7] at h
    refine x_iload_n F.1 (i := 6) rfl rfl ?_
    refine x_aload_n F.1 (i := 7) rfl rfl ?_
    refine x_getI F.1 (i := 8) rfl fl_Seen_15 rfl (by rfl) ?_
    refine x_icmp_ge F.1 (i := 9) (tgt := 74) rfl (by decide) (fun c => ?_) (fun c => ?_)
    · replace h := if_T c h
      refine x_iload_n F.1 (i := 41) rfl rfl ?_
      exact x_iretf F (i := 42) rfl rfl h hQ
    · replace h := if_F c h
      refine x_aload_n F.1 (i := 10) rfl rfl ?_
      refine x_getC F.1 (i := 11) rfl fl_Seen_9 rfl (by rfl) ?_
      refine x_iload_n F.1 (i := 12) rfl rfl ?_
      refine gd_e h (fun g1 h => ?_)
      refine x_iald F.1 (i := 13) rfl rfl (inb_e g1) ?_
      refine x_iconst F.1 (i := 14) rfl ic_n1 ?_
      refine x_icmp_ne F.1 (i := 15) (tgt := 68) rfl (by decide) (fun c => ?_) (fun c => ?_)
      · replace h := if_F c h
        refine x_iinc F.1 (i := 39) rfl rfl rfl (Nat.le_of_ble_eq_true rfl) rfl ?_
        replace h := bd_e h
        refine x_goto F.1 (i := 40) (tgt := 7) rfl (by decide) ?_
        exact x_wk F.1 (ih _ _ _ _ h) ⟨rfl, rfl, rfl, rfl, trivial⟩
      · replace h := if_T c h
        refine x_iconst F.1 (i := 16) rfl ic_0 ?_
        refine x_istore F.1 (i := 17) rfl (Nat.le_of_ble_eq_true rfl) (Nat.le_of_ble_eq_true rfl) rfl ?_
        refine x_iconst F.1 (i := 18) rfl ic_0 ?_
        refine x_istore F.1 (i := 19) rfl (Nat.le_of_ble_eq_true rfl) (Nat.le_of_ble_eq_true rfl) rfl ?_
        exact x_wk F.1 ((t_Seen_bestColumn_l31 F hQ ih FU) _ _ _ _ _ _ h) ⟨rfl, rfl, rfl, rfl, rfl, rfl, trivial⟩
set_option maxHeartbeats 4000000 in
theorem t_Seen_bestColumn {w : kx_W} {d : Nat} {M : kx_M} {Q : Option Value → kx_M → Prop} {r : Int32} {M' : kx_M} (h : f_Seen_bestColumn M = some (r, M')) (hQ : Q (some (.int r)) M') : Ct w (d + 4) m_Seen_bestColumn [.ref 13] M Q := by
  refine mk_ct ok_Seen_bestColumn (Nat.le_of_ble_eq_true rfl) (fun G F => ?_)
  rw [f_Seen_bestColumn] at h
  show G 0 [some (.ref 13), none, none, none, none, none] [] M
  refine x_iconst F.1 (i := 0) rfl ic_n1 ?_
  refine x_istore_n F.1 (i := 1) rfl (Nat.le_of_ble_eq_true rfl) (Nat.le_of_ble_eq_true rfl) rfl ?_
  refine x_ldc F.1 (i := 2) rfl cn_Seen_61 ?_
  refine x_istore_n F.1 (i := 3) rfl (Nat.le_of_ble_eq_true rfl) (Nat.le_of_ble_eq_true rfl) rfl ?_
  refine x_iconst F.1 (i := 4) rfl ic_0 ?_
  refine x_istore_n F.1 (i := 5) rfl (Nat.le_of_ble_eq_true rfl) (Nat.le_of_ble_eq_true rfl) rfl ?_
  exact x_wk F.1 ((t_Seen_bestColumn_l7 F (res := (r, M')) hQ FU) _ _ _ _ h) ⟨rfl, rfl, rfl, rfl, trivial⟩
set_option maxHeartbeats 4000000 in
theorem t_KT_look {w : kx_W} {d : Nat} {M : kx_M} {Q : Option Value → kx_M → Prop} {p1 : Int32} {p2 : Int32} {r : Int32} {M' : kx_M} (h : f_KT_look p1 p2 M = some (r, M')) (hQ : Q (some (.int r)) M') : Ct w (d + 5) m_KT_look [.ref 0, .int p1, .int p2] M Q := by
  refine mk_ct ok_KT_look (Nat.le_of_ble_eq_true rfl) (fun G F => ?_)
  rw [f_KT_look] at h
  show G 0 [some (.ref 0), some (.int p1), some (.int p2)] [] M
  refine x_aload_n F.1 (i := 0) rfl rfl ?_
  refine x_aload_n F.1 (i := 1) rfl rfl ?_
  refine x_iload_n F.1 (i := 2) rfl rfl ?_
  refine x_iload_n F.1 (i := 3) rfl rfl ?_
  refine cal_e h (fun r1 M1 e2 h => ?_)
  refine x_cV2i F.1 (i := 4) rfl ml_KT_396 ok_KT_seenStatus rfl (Nat.le_of_ble_eq_true rfl) (Nat.le_of_ble_eq_true rfl) (fun _ => t_KT_seenStatus e2) ?_
  refine cal_e h (fun r3 M2 e4 h => ?_)
  refine x_cV1i F.1 (i := 5) rfl ml_KT_103 ok_KT_refused rfl (Nat.le_of_ble_eq_true rfl) (Nat.le_of_ble_eq_true rfl) (fun _ => t_KT_refused e4) ?_
  refine x_if_eq F.1 (i := 6) (tgt := 15) rfl (by decide) (fun c => ?_) (fun c => ?_)
  · replace h := if_T c h
    refine x_aload_n F.1 (i := 9) rfl rfl ?_
    refine x_iload_n F.1 (i := 10) rfl rfl ?_
    refine x_iload_n F.1 (i := 11) rfl rfl ?_
    refine cal_e h (fun r5 M3 e6 h => ?_)
    refine x_cV2v F.1 (i := 12) rfl ml_KT_399 ok_KT_lookAt rfl (Nat.le_of_ble_eq_true rfl) (Nat.le_of_ble_eq_true rfl) (fun _ => t_KT_lookAt e6) ?_
    refine x_aload_n F.1 (i := 13) rfl rfl ?_
    refine x_aload_n F.1 (i := 14) rfl rfl ?_
    refine x_getC F.1 (i := 15) rfl fl_KT_42 rfl (by rfl) ?_
    refine cal_e h (fun r7 M4 e8 h => ?_)
    refine x_cV0i F.1 (i := 16) rfl ml_KT_402 ok_Seen_count rfl (Nat.le_of_ble_eq_true rfl) (Nat.le_of_ble_eq_true rfl) (fun _ => t_Seen_count e8) ?_
    refine x_iconst F.1 (i := 17) rfl ic_2 ?_
    refine x_icmp_ge F.1 (i := 18) (tgt := 38) rfl (by decide) (fun c => ?_) (fun c => ?_)
    · replace h := if_T c h
      refine x_iconst F.1 (i := 21) rfl ic_0 ?_
      refine cal_e h (fun r9 M5 e10 h => ?_)
      refine x_cV1i F.1 (i := 22) rfl ml_KT_103 ok_KT_refused rfl (Nat.le_of_ble_eq_true rfl) (Nat.le_of_ble_eq_true rfl) (fun _ => t_KT_refused e10) ?_
      refine x_if_eq F.1 (i := 23) (tgt := 47) rfl (by decide) (fun c => ?_) (fun c => ?_)
      · replace h := if_T c h
        refine x_aload_n F.1 (i := 26) rfl rfl ?_
        refine x_getC F.1 (i := 27) rfl fl_KT_42 rfl (by rfl) ?_
        refine cal_e h (fun r11 M6 e12 h => ?_)
        refine x_cV0i F.1 (i := 28) rfl ml_KT_412 ok_Seen_bestColumn rfl (Nat.le_of_ble_eq_true rfl) (Nat.le_of_ble_eq_true rfl) (fun _ => t_Seen_bestColumn e12) ?_
        exact x_iretf F (i := 29) rfl rfl h (res := (r, M')) hQ
      · replace h := if_F c h
        refine x_iconst F.1 (i := 24) rfl ic_n1 ?_
        exact x_iretf F (i := 25) rfl rfl h (res := (r, M')) hQ
    · replace h := if_F c h
      refine x_bipush F.1 (i := 19) rfl bp_8 ?_
      refine x_goto F.1 (i := 20) (tgt := 39) rfl (by decide) ?_
      refine cal_e h (fun r13 M7 e14 h => ?_)
      refine x_cV1i F.1 (i := 22) rfl ml_KT_103 ok_KT_refused rfl (Nat.le_of_ble_eq_true rfl) (Nat.le_of_ble_eq_true rfl) (fun _ => t_KT_refused e14) ?_
      refine x_if_eq F.1 (i := 23) (tgt := 47) rfl (by decide) (fun c => ?_) (fun c => ?_)
      · replace h := if_T c h
        refine x_aload_n F.1 (i := 26) rfl rfl ?_
        refine x_getC F.1 (i := 27) rfl fl_KT_42 rfl (by rfl) ?_
        refine cal_e h (fun r15 M8 e16 h => ?_)
        refine x_cV0i F.1 (i := 28) rfl ml_KT_412 ok_Seen_bestColumn rfl (Nat.le_of_ble_eq_true rfl) (Nat.le_of_ble_eq_true rfl) (fun _ => t_Seen_bestColumn e16) ?_
        exact x_iretf F (i := 29) rfl rfl h (res := (r, M')) hQ
      · replace h := if_F c h
        refine x_iconst F.1 (i := 24) rfl ic_n1 ?_
        exact x_iretf F (i := 25) rfl rfl h (res := (r, M')) hQ
  · replace h := if_F c h
    refine x_iconst F.1 (i := 7) rfl ic_n1 ?_
    exact x_iretf F (i := 8) rfl rfl h (res := (r, M')) hQ
set_option maxHeartbeats 4000000 in
theorem t_Seen_onlyKind_l30 {w : kx_W} {d : Nat} {Q : Option Value → kx_M → Prop} {G : Nat → List (Option Value) → List Value → kx_M → Prop} (F : Sd w (d + 4) m_Seen_onlyKind Q G) {p1 : Int32} {res : Int32 × kx_M} (hQ : Q (some (.int res.1)) res.2) :
    ∀ (n : Nat) (x2 : Int32) (x3 : Int32) (M : kx_M),
    f_Seen_onlyKind_l30 p1 n x2 x3 M = some res → G 30 [some (.ref 13), some (.int p1), some (.int x2), some (.int x3)] [] M := by
  intro n
  induction n with
  | zero =>
    intro x2 x3 M h
    exact absurd h (by rw [f_Seen_onlyKind_l30]; exact fun z => nomatch z)
  | succ n ih =>
    intro x2 x3 M h
    rw [f_Seen_onlyKind_l30] at h
    refine x_iload_n F.1 (i := 20) rfl rfl ?_
    refine x_iconst F.1 (i := 21) rfl ic_4 ?_
    refine x_icmp_ge F.1 (i := 22) (tgt := 53) rfl (by decide) (fun c => ?_) (fun c => ?_)
    · replace h := if_T c h
      refine x_iconst F.1 (i := 33) rfl ic_n1 ?_
      exact x_iretf F (i := 34) rfl rfl h hQ
    · replace h := if_F c h
      refine x_aload_n F.1 (i := 23) rfl rfl ?_
      refine x_iload_n F.1 (i := 24) rfl rfl ?_
      refine x_iload_n F.1 (i := 25) rfl rfl ?_
      refine cal_e h (fun r1 M1 e2 h => ?_)
      refine x_cV2i F.1 (i := 26) rfl ml_Seen_62 ok_Seen_countWith rfl (Nat.le_of_ble_eq_true rfl) (Nat.le_of_ble_eq_true rfl) (fun _ => t_Seen_countWith e2) ?_
      refine x_iload_n F.1 (i := 27) rfl rfl ?_
      refine x_icmp_ne F.1 (i := 28) (tgt := 47) rfl (by decide) (fun c => ?_) (fun c => ?_)
      · replace h := if_F c h
        refine x_iinc F.1 (i := 31) rfl rfl rfl (Nat.le_of_ble_eq_true rfl) rfl ?_
        replace h := bd_e h
        refine x_goto F.1 (i := 32) (tgt := 30) rfl (by decide) ?_
        exact x_wk F.1 (ih _ _ _ h) ⟨rfl, rfl, rfl, rfl, trivial⟩
      · replace h := if_T c h
        refine x_iload_n F.1 (i := 29) rfl rfl ?_
        exact x_iretf F (i := 30) rfl rfl h hQ
set_option maxHeartbeats 4000000 in
theorem t_Seen_onlyKind {w : kx_W} {d : Nat} {M : kx_M} {Q : Option Value → kx_M → Prop} {p1 : Int32} {r : Int32} {M' : kx_M} (h : f_Seen_onlyKind p1 M = some (r, M')) (hQ : Q (some (.int r)) M') : Ct w (d + 4) m_Seen_onlyKind [.ref 13, .int p1] M Q := by
  refine mk_ct ok_Seen_onlyKind (Nat.le_of_ble_eq_true rfl) (fun G F => ?_)
  rw [f_Seen_onlyKind] at h
  show G 0 [some (.ref 13), some (.int p1), none, none] [] M
  refine x_aload_n F.1 (i := 0) rfl rfl ?_
  refine cal_e h (fun r1 M1 e2 h => ?_)
  refine x_cV0i F.1 (i := 1) rfl ml_Seen_57 ok_Seen_count rfl (Nat.le_of_ble_eq_true rfl) (Nat.le_of_ble_eq_true rfl) (fun _ => t_Seen_count e2) ?_
  refine x_istore_n F.1 (i := 2) rfl (Nat.le_of_ble_eq_true rfl) (Nat.le_of_ble_eq_true rfl) rfl ?_
  refine x_iload_n F.1 (i := 3) rfl rfl ?_
  refine x_if_ne F.1 (i := 4) (tgt := 11) rfl (by decide) (fun c => ?_) (fun c => ?_)
  · replace h := if_F c h
    refine x_aload_n F.1 (i := 7) rfl rfl ?_
    refine x_getC F.1 (i := 8) rfl fl_Seen_9 rfl (by rfl) ?_
    refine x_iload_n F.1 (i := 9) rfl rfl ?_
    refine gd_e h (fun g3 h => ?_)
    refine x_iald F.1 (i := 10) rfl rfl (inb_e g3) ?_
    refine x_iconst F.1 (i := 11) rfl ic_n1 ?_
    refine x_icmp_eq F.1 (i := 12) (tgt := 28) rfl (by decide) (fun c => ?_) (fun c => ?_)
    · replace h := if_T c h
      refine x_iconst F.1 (i := 18) rfl ic_0 ?_
      refine x_istore_n F.1 (i := 19) rfl (Nat.le_of_ble_eq_true rfl) (Nat.le_of_ble_eq_true rfl) rfl ?_
      exact x_wk F.1 ((t_Seen_onlyKind_l30 F (res := (r, M')) hQ FU) _ _ _ h) ⟨rfl, rfl, rfl, rfl, trivial⟩
    · replace h := if_F c h
      refine x_aload_n F.1 (i := 13) rfl rfl ?_
      refine x_getC F.1 (i := 14) rfl fl_Seen_9 rfl (by rfl) ?_
      refine x_iload_n F.1 (i := 15) rfl rfl ?_
      refine gd_e h (fun g4 h => ?_)
      refine x_iald F.1 (i := 16) rfl rfl (inb_e g4) ?_
      exact x_iretf F (i := 17) rfl rfl h (res := (r, M')) hQ
  · replace h := if_T c h
    refine x_iconst F.1 (i := 5) rfl ic_n1 ?_
    exact x_iretf F (i := 6) rfl rfl h (res := (r, M')) hQ
set_option maxHeartbeats 4000000 in
theorem t_KT_sure_l38 {w : kx_W} {d : Nat} {Q : Option Value → kx_M → Prop} {G : Nat → List (Option Value) → List Value → kx_M → Prop} (F : Sd w (d + 5) m_KT_sure Q G) {p1 : Int32} {p2 : Int32} {p3 : Int32} {res : Int32 × kx_M} (hQ : Q (some (.int res.1)) res.2) :
    ∀ (x4 : Int32) (M : kx_M),
    f_KT_sure_l38 p1 p2 p3 x4 M = some res → G 38 [some (.ref 0), some (.int p1), some (.int p2), some (.int p3), some (.int x4), none] [] M := by
  intro x4 M h
  rw [f_KT_sure_l38] at h
  refine x_aload_n F.1 (i := 20) rfl rfl ?_
  refine x_iload F.1 (i := 21) rfl rfl ?_
  refine cal_e h (fun r1 M1 e2 h => ?_)
  refine x_cV1i F.1 (i := 22) rfl ml_KT_103 ok_KT_refused rfl (Nat.le_of_ble_eq_true rfl) (Nat.le_of_ble_eq_true rfl) (fun _ => t_KT_refused e2) ?_
  refine x_if_eq F.1 (i := 23) (tgt := 49) rfl (by decide) (fun c => ?_) (fun c => ?_)
  · replace h := if_T c h
    refine x_aload_n F.1 (i := 26) rfl rfl ?_
    refine x_iload_n F.1 (i := 27) rfl rfl ?_
    refine x_iload_n F.1 (i := 28) rfl rfl ?_
    refine cal_e h (fun r3 M2 e4 h => ?_)
    refine x_cV2v F.1 (i := 29) rfl ml_KT_399 ok_KT_lookAt rfl (Nat.le_of_ble_eq_true rfl) (Nat.le_of_ble_eq_true rfl) (fun _ => t_KT_lookAt e4) ?_
    refine x_aload_n F.1 (i := 30) rfl rfl ?_
    refine x_getC F.1 (i := 31) rfl fl_KT_42 rfl (by rfl) ?_
    refine x_iload_n F.1 (i := 32) rfl rfl ?_
    refine cal_e h (fun r5 M3 e6 h => ?_)
    refine x_cV1i F.1 (i := 33) rfl ml_KT_415 ok_Seen_onlyKind rfl (Nat.le_of_ble_eq_true rfl) (Nat.le_of_ble_eq_true rfl) (fun _ => t_Seen_onlyKind e6) ?_
    refine x_istore F.1 (i := 34) rfl (Nat.le_of_ble_eq_true rfl) (Nat.le_of_ble_eq_true rfl) rfl ?_
    refine x_aload_n F.1 (i := 35) rfl rfl ?_
    refine x_iload F.1 (i := 36) rfl rfl ?_
    refine x_iconst F.1 (i := 37) rfl ic_n1 ?_
    refine x_icmp_ne F.1 (i := 38) (tgt := 77) rfl (by decide) (fun c => ?_) (fun c => ?_)
    · replace h := if_F c h
      refine x_iconst F.1 (i := 41) rfl ic_0 ?_
      refine x_putI F.1 (i := 42) rfl fl_KT_78 pf_KT_latest rfl (by rfl) ?_
      replace h := bd_e h
      refine x_iload F.1 (i := 43) rfl rfl ?_
      exact x_iretf F (i := 44) rfl rfl h hQ
    · replace h := if_T c h
      refine x_bipush F.1 (i := 39) rfl bp_8 ?_
      refine x_goto F.1 (i := 40) (tgt := 78) rfl (by decide) ?_
      refine x_putI F.1 (i := 42) rfl fl_KT_78 pf_KT_latest rfl (by rfl) ?_
      replace h := bd_e h
      refine x_iload F.1 (i := 43) rfl rfl ?_
      exact x_iretf F (i := 44) rfl rfl h hQ
  · replace h := if_F c h
    refine x_iconst F.1 (i := 24) rfl ic_n1 ?_
    exact x_iretf F (i := 25) rfl rfl h hQ
set_option maxHeartbeats 4000000 in
theorem t_KT_sure {w : kx_W} {d : Nat} {M : kx_M} {Q : Option Value → kx_M → Prop} {p1 : Int32} {p2 : Int32} {p3 : Int32} {r : Int32} {M' : kx_M} (h : f_KT_sure p1 p2 p3 M = some (r, M')) (hQ : Q (some (.int r)) M') : Ct w (d + 5) m_KT_sure [.ref 0, .int p1, .int p2, .int p3] M Q := by
  refine mk_ct ok_KT_sure (Nat.le_of_ble_eq_true rfl) (fun G F => ?_)
  rw [f_KT_sure] at h
  show G 0 [some (.ref 0), some (.int p1), some (.int p2), some (.int p3), none, none] [] M
  refine x_iconst F.1 (i := 0) rfl ic_0 ?_
  refine x_istore F.1 (i := 1) rfl (Nat.le_of_ble_eq_true rfl) (Nat.le_of_ble_eq_true rfl) rfl ?_
  refine x_iload_n F.1 (i := 2) rfl rfl ?_
  refine cal_e h (fun r1 M1 e2 h => ?_)
  refine x_cS1i F.1 (i := 3) rfl ml_KT_99 ok_KT_noTray (Nat.le_of_ble_eq_true rfl) (Nat.le_of_ble_eq_true rfl) (fun _ => t_KT_noTray e2) ?_
  refine x_if_eq F.1 (i := 4) (tgt := 16) rfl (by decide) (fun c => ?_) (fun c => ?_)
  · replace h := if_T c h
    refine x_aload_n F.1 (i := 8) rfl rfl ?_
    refine x_iload_n F.1 (i := 9) rfl rfl ?_
    refine cal_e h (fun r3 M2 e4 h => ?_)
    refine x_cV1i F.1 (i := 10) rfl ml_KT_228 ok_KT_noColumn rfl (Nat.le_of_ble_eq_true rfl) (Nat.le_of_ble_eq_true rfl) (fun _ => t_KT_noColumn e4) ?_
    refine x_if_eq F.1 (i := 11) (tgt := 30) rfl (by decide) (fun c => ?_) (fun c => ?_)
    · replace h := if_T c h
      refine x_aload_n F.1 (i := 15) rfl rfl ?_
      refine x_iload_n F.1 (i := 16) rfl rfl ?_
      refine x_iload_n F.1 (i := 17) rfl rfl ?_
      refine cal_e h (fun r5 M3 e6 h => ?_)
      refine x_cV2i F.1 (i := 18) rfl ml_KT_396 ok_KT_seenStatus rfl (Nat.le_of_ble_eq_true rfl) (Nat.le_of_ble_eq_true rfl) (fun _ => t_KT_seenStatus e6) ?_
      refine x_istore F.1 (i := 19) rfl (Nat.le_of_ble_eq_true rfl) (Nat.le_of_ble_eq_true rfl) rfl ?_
      exact x_wk F.1 ((t_KT_sure_l38 F (res := (r, M')) hQ) _ _ h) ⟨rfl, rfl, rfl, rfl, rfl, trivial⟩
    · replace h := if_F c h
      refine x_iconst F.1 (i := 12) rfl ic_2 ?_
      refine x_istore F.1 (i := 13) rfl (Nat.le_of_ble_eq_true rfl) (Nat.le_of_ble_eq_true rfl) rfl ?_
      refine x_goto F.1 (i := 14) (tgt := 38) rfl (by decide) ?_
      exact x_wk F.1 ((t_KT_sure_l38 F (res := (r, M')) hQ) _ _ h) ⟨rfl, rfl, rfl, rfl, rfl, trivial⟩
  · replace h := if_F c h
    refine x_iconst F.1 (i := 5) rfl ic_1 ?_
    refine x_istore F.1 (i := 6) rfl (Nat.le_of_ble_eq_true rfl) (Nat.le_of_ble_eq_true rfl) rfl ?_
    refine x_goto F.1 (i := 7) (tgt := 38) rfl (by decide) ?_
    exact x_wk F.1 ((t_KT_sure_l38 F (res := (r, M')) hQ) _ _ h) ⟨rfl, rfl, rfl, rfl, rfl, trivial⟩
set_option maxHeartbeats 4000000 in
theorem t_Deal_copyFrom {w : kx_W} {d : Nat} {M : kx_M} {Q : Option Value → kx_M → Prop} {p0 : Nat} {p1 : Nat} {r : Unit} {M' : kx_M} (hp0 : isDeal p0 = true) (hp1 : isDeal p1 = true) (h : f_Deal_copyFrom p0 p1 M = some (r, M')) (hQ : Q none M') : Ct w (d + 1) m_Deal_copyFrom [.ref p0, .ref p1] M Q := by
  refine mk_ct ok_Deal_copyFrom (Nat.le_of_ble_eq_true rfl) (fun G F => ?_)
  rw [f_Deal_copyFrom] at h
  show G 0 [some (.ref p0), some (.ref p1)] [] M
  refine x_aload_n F.1 (i := 0) rfl rfl ?_
  refine x_aload_n F.1 (i := 1) rfl rfl ?_
  refine x_getI F.1 (i := 2) rfl fl_Deal_34 (lk_Deal hp1) (by rfl) ?_
  refine x_putI F.1 (i := 3) rfl fl_Deal_34 pf_Deal_queens (lk_Deal hp0) (by rfl) ?_
  replace h := bd_e h
  refine x_aload_n F.1 (i := 4) rfl rfl ?_
  refine x_aload_n F.1 (i := 5) rfl rfl ?_
  refine x_getI F.1 (i := 6) rfl fl_Deal_38 (lk_Deal hp1) (by rfl) ?_
  refine x_putI F.1 (i := 7) rfl fl_Deal_38 pf_Deal_clauses (lk_Deal hp0) (by rfl) ?_
  replace h := bd_e h
  refine x_aload_n F.1 (i := 8) rfl rfl ?_
  refine x_getC F.1 (i := 9) rfl fl_Deal_9 (lk_Deal hp1) (by rfl) ?_
  refine x_iconst F.1 (i := 10) rfl ic_0 ?_
  refine x_aload_n F.1 (i := 11) rfl rfl ?_
  refine x_getC F.1 (i := 12) rfl fl_Deal_9 (lk_Deal hp0) (by rfl) ?_
  refine x_iconst F.1 (i := 13) rfl ic_0 ?_
  refine x_iconst F.1 (i := 14) rfl ic_4 ?_
  refine x_copyi F.1 (i := 15) rfl jm_Deal_47 (lk_Deal_wools hp1) (lk_Deal_wools hp0) (by decide) (by decide) (by decide) (by decide) (by decide) (Nat.le_of_ble_eq_true rfl) ?_
  replace h := bd_e h
  refine x_aload_n F.1 (i := 16) rfl rfl ?_
  refine x_getC F.1 (i := 17) rfl fl_Deal_15 (lk_Deal hp1) (by rfl) ?_
  refine x_iconst F.1 (i := 18) rfl ic_0 ?_
  refine x_aload_n F.1 (i := 19) rfl rfl ?_
  refine x_getC F.1 (i := 20) rfl fl_Deal_15 (lk_Deal hp0) (by rfl) ?_
  refine x_iconst F.1 (i := 21) rfl ic_0 ?_
  refine x_iconst F.1 (i := 22) rfl ic_4 ?_
  refine x_copyl F.1 (i := 23) rfl jm_Deal_47 (lk_Deal_queenNames hp1) (lk_Deal_queenNames hp0) (by decide) (by decide) (by decide) (by decide) (by decide) (Nat.le_of_ble_eq_true rfl) ?_
  replace h := bd_e h
  refine x_aload_n F.1 (i := 24) rfl rfl ?_
  refine x_getC F.1 (i := 25) rfl fl_Deal_19 (lk_Deal hp1) (by rfl) ?_
  refine x_iconst F.1 (i := 26) rfl ic_0 ?_
  refine x_aload_n F.1 (i := 27) rfl rfl ?_
  refine x_getC F.1 (i := 28) rfl fl_Deal_19 (lk_Deal hp0) (by rfl) ?_
  refine x_iconst F.1 (i := 29) rfl ic_0 ?_
  refine x_bipush F.1 (i := 30) rfl bp_6 ?_
  refine x_copyl F.1 (i := 31) rfl jm_Deal_47 (lk_Deal_clauseNames hp1) (lk_Deal_clauseNames hp0) (by decide) (by decide) (by decide) (by decide) (by decide) (Nat.le_of_ble_eq_true rfl) ?_
  replace h := bd_e h
  refine x_aload_n F.1 (i := 32) rfl rfl ?_
  refine x_getC F.1 (i := 33) rfl fl_Deal_22 (lk_Deal hp1) (by rfl) ?_
  refine x_iconst F.1 (i := 34) rfl ic_0 ?_
  refine x_aload_n F.1 (i := 35) rfl rfl ?_
  refine x_getC F.1 (i := 36) rfl fl_Deal_22 (lk_Deal hp0) (by rfl) ?_
  refine x_iconst F.1 (i := 37) rfl ic_0 ?_
  refine x_bipush F.1 (i := 38) rfl bp_6 ?_
  refine x_copyi F.1 (i := 39) rfl jm_Deal_47 (lk_Deal_lengths hp1) (lk_Deal_lengths hp0) (by decide) (by decide) (by decide) (by decide) (by decide) (Nat.le_of_ble_eq_true rfl) ?_
  replace h := bd_e h
  refine x_aload_n F.1 (i := 40) rfl rfl ?_
  refine x_getC F.1 (i := 41) rfl fl_Deal_25 (lk_Deal hp1) (by rfl) ?_
  refine x_iconst F.1 (i := 42) rfl ic_0 ?_
  refine x_aload_n F.1 (i := 43) rfl rfl ?_
  refine x_getC F.1 (i := 44) rfl fl_Deal_25 (lk_Deal hp0) (by rfl) ?_
  refine x_iconst F.1 (i := 45) rfl ic_0 ?_
  refine x_bipush F.1 (i := 46) rfl bp_30 ?_
  refine x_copyi F.1 (i := 47) rfl jm_Deal_47 (lk_Deal_kinds hp1) (lk_Deal_kinds hp0) (by decide) (by decide) (by decide) (by decide) (by decide) (Nat.le_of_ble_eq_true rfl) ?_
  replace h := bd_e h
  refine x_aload_n F.1 (i := 48) rfl rfl ?_
  refine x_getC F.1 (i := 49) rfl fl_Deal_28 (lk_Deal hp1) (by rfl) ?_
  refine x_iconst F.1 (i := 50) rfl ic_0 ?_
  refine x_aload_n F.1 (i := 51) rfl rfl ?_
  refine x_getC F.1 (i := 52) rfl fl_Deal_28 (lk_Deal hp0) (by rfl) ?_
  refine x_iconst F.1 (i := 53) rfl ic_0 ?_
  refine x_bipush F.1 (i := 54) rfl bp_36 ?_
  refine x_copyi F.1 (i := 55) rfl jm_Deal_47 (lk_Deal_quarrels hp1) (lk_Deal_quarrels hp0) (by decide) (by decide) (by decide) (by decide) (by decide) (Nat.le_of_ble_eq_true rfl) ?_
  replace h := bd_e h
  refine x_aload_n F.1 (i := 56) rfl rfl ?_
  refine x_getC F.1 (i := 57) rfl fl_Deal_31 (lk_Deal hp1) (by rfl) ?_
  refine x_iconst F.1 (i := 58) rfl ic_0 ?_
  refine x_aload_n F.1 (i := 59) rfl rfl ?_
  refine x_getC F.1 (i := 60) rfl fl_Deal_31 (lk_Deal hp0) (by rfl) ?_
  refine x_iconst F.1 (i := 61) rfl ic_0 ?_
  refine x_bipush F.1 (i := 62) rfl bp_48 ?_
  refine x_copyi F.1 (i := 63) rfl jm_Deal_47 (lk_Deal_worths hp1) (lk_Deal_worths hp0) (by decide) (by decide) (by decide) (by decide) (by decide) (Nat.le_of_ble_eq_true rfl) ?_
  replace h := bd_e h
  exact x_vretf F (i := 64) rfl rfl h (res := (r, M')) hQ
set_option maxHeartbeats 4000000 in
theorem t_Script_copyFrom {w : kx_W} {d : Nat} {M : kx_M} {Q : Option Value → kx_M → Prop} {p0 : Nat} {p1 : Nat} {r : Unit} {M' : kx_M} (hp0 : isScript p0 = true) (hp1 : isScript p1 = true) (h : f_Script_copyFrom p0 p1 M = some (r, M')) (hQ : Q none M') : Ct w (d + 1) m_Script_copyFrom [.ref p0, .ref p1] M Q := by
  refine mk_ct ok_Script_copyFrom (Nat.le_of_ble_eq_true rfl) (fun G F => ?_)
  rw [f_Script_copyFrom] at h
  show G 0 [some (.ref p0), some (.ref p1)] [] M
  refine x_aload_n F.1 (i := 0) rfl rfl ?_
  refine x_aload_n F.1 (i := 1) rfl rfl ?_
  refine x_getI F.1 (i := 2) rfl fl_Script_22 (lk_Script hp1) (by rfl) ?_
  refine gd_e h (fun g1 h => ?_)
  refine x_putZ F.1 (i := 3) rfl fl_Script_22 pf_Script_there (lk_Script hp0) (by rfl) (b01_e g1) ?_
  replace h := bd_e h
  refine x_aload_n F.1 (i := 4) rfl rfl ?_
  refine x_aload_n F.1 (i := 5) rfl rfl ?_
  refine x_getI F.1 (i := 6) rfl fl_Script_26 (lk_Script hp1) (by rfl) ?_
  refine x_putI F.1 (i := 7) rfl fl_Script_26 pf_Script_steps (lk_Script hp0) (by rfl) ?_
  replace h := bd_e h
  refine x_aload_n F.1 (i := 8) rfl rfl ?_
  refine x_aload_n F.1 (i := 9) rfl rfl ?_
  refine x_getI F.1 (i := 10) rfl fl_Script_30 (lk_Script hp1) (by rfl) ?_
  refine x_putI F.1 (i := 11) rfl fl_Script_30 pf_Script_entries (lk_Script hp0) (by rfl) ?_
  replace h := bd_e h
  refine x_aload_n F.1 (i := 12) rfl rfl ?_
  refine x_getC F.1 (i := 13) rfl fl_Script_9 (lk_Script hp1) (by rfl) ?_
  refine x_iconst F.1 (i := 14) rfl ic_0 ?_
  refine x_aload_n F.1 (i := 15) rfl rfl ?_
  refine x_getC F.1 (i := 16) rfl fl_Script_9 (lk_Script hp0) (by rfl) ?_
  refine x_iconst F.1 (i := 17) rfl ic_0 ?_
  refine x_bipush F.1 (i := 18) rfl bp_60 ?_
  refine x_copyi F.1 (i := 19) rfl jm_Script_33 (lk_Script_ops hp1) (lk_Script_ops hp0) (by decide) (by decide) (by decide) (by decide) (by decide) (Nat.le_of_ble_eq_true rfl) ?_
  replace h := bd_e h
  refine x_aload_n F.1 (i := 20) rfl rfl ?_
  refine x_getC F.1 (i := 21) rfl fl_Script_13 (lk_Script hp1) (by rfl) ?_
  refine x_iconst F.1 (i := 22) rfl ic_0 ?_
  refine x_aload_n F.1 (i := 23) rfl rfl ?_
  refine x_getC F.1 (i := 24) rfl fl_Script_13 (lk_Script hp0) (by rfl) ?_
  refine x_iconst F.1 (i := 25) rfl ic_0 ?_
  refine x_bipush F.1 (i := 26) rfl bp_60 ?_
  refine x_copyi F.1 (i := 27) rfl jm_Script_33 (lk_Script_firsts hp1) (lk_Script_firsts hp0) (by decide) (by decide) (by decide) (by decide) (by decide) (Nat.le_of_ble_eq_true rfl) ?_
  replace h := bd_e h
  refine x_aload_n F.1 (i := 28) rfl rfl ?_
  refine x_getC F.1 (i := 29) rfl fl_Script_16 (lk_Script hp1) (by rfl) ?_
  refine x_iconst F.1 (i := 30) rfl ic_0 ?_
  refine x_aload_n F.1 (i := 31) rfl rfl ?_
  refine x_getC F.1 (i := 32) rfl fl_Script_16 (lk_Script hp0) (by rfl) ?_
  refine x_iconst F.1 (i := 33) rfl ic_0 ?_
  refine x_bipush F.1 (i := 34) rfl bp_60 ?_
  refine x_copyi F.1 (i := 35) rfl jm_Script_33 (lk_Script_seconds hp1) (lk_Script_seconds hp0) (by decide) (by decide) (by decide) (by decide) (by decide) (Nat.le_of_ble_eq_true rfl) ?_
  replace h := bd_e h
  refine x_aload_n F.1 (i := 36) rfl rfl ?_
  refine x_getC F.1 (i := 37) rfl fl_Script_19 (lk_Script hp1) (by rfl) ?_
  refine x_iconst F.1 (i := 38) rfl ic_0 ?_
  refine x_aload_n F.1 (i := 39) rfl rfl ?_
  refine x_getC F.1 (i := 40) rfl fl_Script_19 (lk_Script hp0) (by rfl) ?_
  refine x_iconst F.1 (i := 41) rfl ic_0 ?_
  refine x_bipush F.1 (i := 42) rfl bp_60 ?_
  refine x_copyi F.1 (i := 43) rfl jm_Script_33 (lk_Script_mates hp1) (lk_Script_mates hp0) (by decide) (by decide) (by decide) (by decide) (by decide) (Nat.le_of_ble_eq_true rfl) ?_
  replace h := bd_e h
  exact x_vretf F (i := 44) rfl rfl h (res := (r, M')) hQ
set_option maxHeartbeats 4000000 in
theorem t_State_copyFrom {w : kx_W} {d : Nat} {M : kx_M} {Q : Option Value → kx_M → Prop} {p0 : Nat} {p1 : Nat} {r : Unit} {M' : kx_M} (hp0 : isState p0 = true) (hp1 : isState p1 = true) (h : f_State_copyFrom p0 p1 M = some (r, M')) (hQ : Q none M') : Ct w (d + 2) m_State_copyFrom [.ref p0, .ref p1] M Q := by
  refine mk_ct ok_State_copyFrom (Nat.le_of_ble_eq_true rfl) (fun G F => ?_)
  rw [f_State_copyFrom] at h
  show G 0 [some (.ref p0), some (.ref p1)] [] M
  refine x_aload_n F.1 (i := 0) rfl rfl ?_
  refine x_getC F.1 (i := 1) rfl fl_State_10 (lk_State hp0) (by rfl) ?_
  refine x_aload_n F.1 (i := 2) rfl rfl ?_
  refine x_getC F.1 (i := 3) rfl fl_State_10 (lk_State hp1) (by rfl) ?_
  refine cal_e h (fun r1 M1 e2 h => ?_)
  refine x_cV1v F.1 (i := 4) rfl ml_State_35 ok_Deal_copyFrom (lk_Deal (lD_State_deal hp0)) (Nat.le_of_ble_eq_true rfl) (Nat.le_of_ble_eq_true rfl) (fun _ => t_Deal_copyFrom (lD_State_deal hp0) (lD_State_deal hp1) e2) ?_
  refine x_aload_n F.1 (i := 5) rfl rfl ?_
  refine x_getC F.1 (i := 6) rfl fl_State_19 (lk_State hp0) (by rfl) ?_
  refine x_aload_n F.1 (i := 7) rfl rfl ?_
  refine x_getC F.1 (i := 8) rfl fl_State_19 (lk_State hp1) (by rfl) ?_
  refine cal_e h (fun r3 M2 e4 h => ?_)
  refine x_cV1v F.1 (i := 9) rfl ml_State_39 ok_Cloth_copyFrom (lk_Cloth (lD_State_cloth hp0)) (Nat.le_of_ble_eq_true rfl) (Nat.le_of_ble_eq_true rfl) (fun _ => t_Cloth_copyFrom (lD_State_cloth hp0) (lD_State_cloth hp1) e4) ?_
  refine x_aload_n F.1 (i := 10) rfl rfl ?_
  refine x_getC F.1 (i := 11) rfl fl_State_26 (lk_State hp0) (by rfl) ?_
  refine x_aload_n F.1 (i := 12) rfl rfl ?_
  refine x_getC F.1 (i := 13) rfl fl_State_26 (lk_State hp1) (by rfl) ?_
  refine cal_e h (fun r5 M3 e6 h => ?_)
  refine x_cV1v F.1 (i := 14) rfl ml_State_42 ok_Script_copyFrom (lk_Script (lD_State_script hp0)) (Nat.le_of_ble_eq_true rfl) (Nat.le_of_ble_eq_true rfl) (fun _ => t_Script_copyFrom (lD_State_script hp0) (lD_State_script hp1) e6) ?_
  exact x_vretf F (i := 15) rfl rfl h (res := (r, M')) hQ
set_option maxHeartbeats 4000000 in
theorem t_KT_mark_l15 {w : kx_W} {d : Nat} {Q : Option Value → kx_M → Prop} {G : Nat → List (Option Value) → List Value → kx_M → Prop} (F : Sd w (d + 3) m_KT_mark Q G) {res : Int32 × kx_M} (hQ : Q (some (.int res.1)) res.2) :
    ∀ (s0 : Nat) (s1 : Int32) (M : kx_M),
    f_KT_mark_l15 s0 s1 M = some res → G 15 [some (.ref 0)] [.int s1, .ref 0] M := by
  intro s0 s1 M h
  rw [f_KT_mark_l15] at h
  refine cal_e h (fun r1 M1 e2 h => ?_)
  refine x_cV1i F.1 (i := 8) rfl ml_KT_103 ok_KT_refused rfl (Nat.le_of_ble_eq_true rfl) (Nat.le_of_ble_eq_true rfl) (fun _ => t_KT_refused e2) ?_
  refine x_if_eq F.1 (i := 9) (tgt := 23) rfl (by decide) (fun c => ?_) (fun c => ?_)
  · replace h := if_T c h
    refine x_aload_n F.1 (i := 12) rfl rfl ?_
    refine x_getC F.1 (i := 13) rfl fl_KT_21 rfl (by rfl) ?_
    refine x_aload_n F.1 (i := 14) rfl rfl ?_
    refine x_getI F.1 (i := 15) rfl fl_KT_75 rfl (by rfl) ?_
    refine gd_e h (fun g3 h => ?_)
    refine x_kept F.1 (i := 16) rfl g3 ?_
    refine x_aload_n F.1 (i := 17) rfl rfl ?_
    refine x_getR F.1 (i := 18) rfl fl_KT_64 rfl (by rfl) rfl ?_
    refine gd_e h (fun g4 h => ?_)
    replace h := bd_e h
    refine cal_e h (fun r6 M2 e7 h => ?_)
    refine x_cV1v F.1 (i := 19) rfl ml_KT_447 ok_State_copyFrom (lk_State (isState_of g3)) (Nat.le_of_ble_eq_true rfl) (Nat.le_of_ble_eq_true rfl) (fun _ => t_State_copyFrom (isState_of g3) g4 e7) ?_
    refine x_aload_n F.1 (i := 20) rfl rfl ?_
    refine x_dup F.1 (i := 21) rfl rfl ?_
    refine x_getI F.1 (i := 22) rfl fl_KT_75 rfl (by rfl) ?_
    refine x_iconst F.1 (i := 23) rfl ic_1 ?_
    refine x_iadd F.1 (i := 24) rfl ?_
    refine x_putI F.1 (i := 25) rfl fl_KT_75 pf_KT_marks rfl (by rfl) ?_
    replace h := bd_e h
    refine x_aload_n F.1 (i := 26) rfl rfl ?_
    refine x_getI F.1 (i := 27) rfl fl_KT_75 rfl (by rfl) ?_
    exact x_iretf F (i := 28) rfl rfl h hQ
  · replace h := if_F c h
    refine x_iconst F.1 (i := 10) rfl ic_n1 ?_
    exact x_iretf F (i := 11) rfl rfl h hQ
set_option maxHeartbeats 4000000 in
theorem t_KT_mark {w : kx_W} {d : Nat} {M : kx_M} {Q : Option Value → kx_M → Prop} {r : Int32} {M' : kx_M} (h : f_KT_mark M = some (r, M')) (hQ : Q (some (.int r)) M') : Ct w (d + 3) m_KT_mark [.ref 0] M Q := by
  refine mk_ct ok_KT_mark (Nat.le_of_ble_eq_true rfl) (fun G F => ?_)
  rw [f_KT_mark] at h
  show G 0 [some (.ref 0)] [] M
  refine x_aload_n F.1 (i := 0) rfl rfl ?_
  refine x_aload_n F.1 (i := 1) rfl rfl ?_
  refine x_getI F.1 (i := 2) rfl fl_KT_75 rfl (by rfl) ?_
  refine x_iconst F.1 (i := 3) rfl ic_3 ?_
  refine x_icmp_lt F.1 (i := 4) (tgt := 14) rfl (by decide) (fun c => ?_) (fun c => ?_)
  · replace h := if_T c h
    refine x_iconst F.1 (i := 7) rfl ic_0 ?_
    exact x_wk F.1 ((t_KT_mark_l15 F (res := (r, M')) hQ) _ _ _ h) ⟨rfl, trivial⟩
  · replace h := if_F c h
    refine x_bipush F.1 (i := 5) rfl bp_7 ?_
    refine x_goto F.1 (i := 6) (tgt := 15) rfl (by decide) ?_
    exact x_wk F.1 ((t_KT_mark_l15 F (res := (r, M')) hQ) _ _ _ h) ⟨rfl, trivial⟩
set_option maxHeartbeats 4000000 in
theorem t_KT_back_l14 {w : kx_W} {d : Nat} {Q : Option Value → kx_M → Prop} {G : Nat → List (Option Value) → List Value → kx_M → Prop} (F : Sd w (d + 3) m_KT_back Q G) {res : Int32 × kx_M} (hQ : Q (some (.int res.1)) res.2) :
    ∀ (s0 : Nat) (s1 : Int32) (M : kx_M),
    f_KT_back_l14 s0 s1 M = some res → G 14 [some (.ref 0)] [.int s1, .ref 0] M := by
  intro s0 s1 M h
  rw [f_KT_back_l14] at h
  refine cal_e h (fun r1 M1 e2 h => ?_)
  refine x_cV1i F.1 (i := 7) rfl ml_KT_103 ok_KT_refused rfl (Nat.le_of_ble_eq_true rfl) (Nat.le_of_ble_eq_true rfl) (fun _ => t_KT_refused e2) ?_
  refine x_if_eq F.1 (i := 8) (tgt := 22) rfl (by decide) (fun c => ?_) (fun c => ?_)
  · replace h := if_T c h
    refine x_aload_n F.1 (i := 11) rfl rfl ?_
    refine x_dup F.1 (i := 12) rfl rfl ?_
    refine x_getI F.1 (i := 13) rfl fl_KT_75 rfl (by rfl) ?_
    refine x_iconst F.1 (i := 14) rfl ic_1 ?_
    refine x_isub F.1 (i := 15) rfl ?_
    refine x_putI F.1 (i := 16) rfl fl_KT_75 pf_KT_marks rfl (by rfl) ?_
    replace h := bd_e h
    refine x_aload_n F.1 (i := 17) rfl rfl ?_
    refine x_getR F.1 (i := 18) rfl fl_KT_64 rfl (by rfl) rfl ?_
    refine gd_e h (fun g3 h => ?_)
    replace h := bd_e h
    refine x_aload_n F.1 (i := 19) rfl rfl ?_
    refine x_getC F.1 (i := 20) rfl fl_KT_21 rfl (by rfl) ?_
    refine x_aload_n F.1 (i := 21) rfl rfl ?_
    refine x_getI F.1 (i := 22) rfl fl_KT_75 rfl (by rfl) ?_
    refine gd_e h (fun g5 h => ?_)
    refine x_kept F.1 (i := 23) rfl g5 ?_
    refine cal_e h (fun r6 M3 e7 h => ?_)
    refine x_cV1v F.1 (i := 24) rfl ml_KT_447 ok_State_copyFrom (lk_State g3) (Nat.le_of_ble_eq_true rfl) (Nat.le_of_ble_eq_true rfl) (fun _ => t_State_copyFrom g3 (isState_of g5) e7) ?_
    refine x_aload_n F.1 (i := 25) rfl rfl ?_
    refine x_getI F.1 (i := 26) rfl fl_KT_75 rfl (by rfl) ?_
    exact x_iretf F (i := 27) rfl rfl h hQ
  · replace h := if_F c h
    refine x_iconst F.1 (i := 9) rfl ic_n1 ?_
    exact x_iretf F (i := 10) rfl rfl h hQ
set_option maxHeartbeats 4000000 in
theorem t_KT_back {w : kx_W} {d : Nat} {M : kx_M} {Q : Option Value → kx_M → Prop} {r : Int32} {M' : kx_M} (h : f_KT_back M = some (r, M')) (hQ : Q (some (.int r)) M') : Ct w (d + 3) m_KT_back [.ref 0] M Q := by
  refine mk_ct ok_KT_back (Nat.le_of_ble_eq_true rfl) (fun G F => ?_)
  rw [f_KT_back] at h
  show G 0 [some (.ref 0)] [] M
  refine x_aload_n F.1 (i := 0) rfl rfl ?_
  refine x_aload_n F.1 (i := 1) rfl rfl ?_
  refine x_getI F.1 (i := 2) rfl fl_KT_75 rfl (by rfl) ?_
  refine x_if_ne F.1 (i := 3) (tgt := 13) rfl (by decide) (fun c => ?_) (fun c => ?_)
  · replace h := if_F c h
    refine x_iconst F.1 (i := 6) rfl ic_0 ?_
    exact x_wk F.1 ((t_KT_back_l14 F (res := (r, M')) hQ) _ _ _ h) ⟨rfl, trivial⟩
  · replace h := if_T c h
    refine x_bipush F.1 (i := 4) rfl bp_8 ?_
    refine x_goto F.1 (i := 5) (tgt := 14) rfl (by decide) ?_
    exact x_wk F.1 ((t_KT_back_l14 F (res := (r, M')) hQ) _ _ _ h) ⟨rfl, trivial⟩
set_option maxHeartbeats 4000000 in
theorem t_LW_four {w : kx_W} {d : Nat} {M : kx_M} {Q : Option Value → kx_M → Prop} {p1 : Int32} {r : Int32} {M' : kx_M} (h : f_LW_four p1 M = some (r, M')) (hQ : Q (some (.int r)) M') : Ct w d m_LW_four [.ref 135, .int p1] M Q := by
  refine mk_ct ok_LW_four (Nat.le_of_ble_eq_true rfl) (fun G F => ?_)
  rw [f_LW_four] at h
  show G 0 [some (.ref 135), some (.int p1)] [] M
  refine x_aload_n F.1 (i := 0) rfl rfl ?_
  refine x_iload_n F.1 (i := 1) rfl rfl ?_
  refine gd_e h (fun g1 h => ?_)
  refine x_iald F.1 (i := 2) rfl rfl (inb_e g1) ?_
  refine x_bipush F.1 (i := 3) rfl bp_24 ?_
  refine x_ishl F.1 (i := 4) rfl ?_
  refine x_aload_n F.1 (i := 5) rfl rfl ?_
  refine x_iload_n F.1 (i := 6) rfl rfl ?_
  refine x_iconst F.1 (i := 7) rfl ic_1 ?_
  refine x_iadd F.1 (i := 8) rfl ?_
  refine gd_e h (fun g2 h => ?_)
  refine x_iald F.1 (i := 9) rfl rfl (inb_e g2) ?_
  refine x_bipush F.1 (i := 10) rfl bp_16 ?_
  refine x_ishl F.1 (i := 11) rfl ?_
  refine x_ior F.1 (i := 12) rfl ?_
  refine x_aload_n F.1 (i := 13) rfl rfl ?_
  refine x_iload_n F.1 (i := 14) rfl rfl ?_
  refine x_iconst F.1 (i := 15) rfl ic_2 ?_
  refine x_iadd F.1 (i := 16) rfl ?_
  refine gd_e h (fun g3 h => ?_)
  refine x_iald F.1 (i := 17) rfl rfl (inb_e g3) ?_
  refine x_bipush F.1 (i := 18) rfl bp_8 ?_
  refine x_ishl F.1 (i := 19) rfl ?_
  refine x_ior F.1 (i := 20) rfl ?_
  refine x_aload_n F.1 (i := 21) rfl rfl ?_
  refine x_iload_n F.1 (i := 22) rfl rfl ?_
  refine x_iconst F.1 (i := 23) rfl ic_3 ?_
  refine x_iadd F.1 (i := 24) rfl ?_
  refine gd_e h (fun g4 h => ?_)
  refine x_iald F.1 (i := 25) rfl rfl (inb_e g4) ?_
  refine x_ior F.1 (i := 26) rfl ?_
  exact x_iretf F (i := 27) rfl rfl h (res := (r, M')) hQ
set_option maxHeartbeats 4000000 in
theorem t_KT_feedInt_l3 {w : kx_W} {d : Nat} {Q : Option Value → kx_M → Prop} {G : Nat → List (Option Value) → List Value → kx_M → Prop} (F : Sd w d m_KT_feedInt Q G) {p1 : Int32} {res : Unit × kx_M} (hQ : Q none res.2) :
    ∀ (n : Nat) (x2 : Int32) (M : kx_M),
    f_KT_feedInt_l3 p1 n x2 M = some res → G 3 [some (.ref 0), some (.int p1), some (.int x2)] [] M := by
  intro n
  induction n with
  | zero =>
    intro x2 M h
    exact absurd h (by rw [f_KT_feedInt_l3]; exact fun z => nomatch z)
  | succ n ih =>
    intro x2 M h
    rw [f_KT_feedInt_l3] at h
    refine x_iload_n F.1 (i := 2) rfl rfl ?_
    refine x_if_lt F.1 (i := 3) (tgt := 49) rfl (by decide) (fun c => ?_) (fun c => ?_)
    · replace h := if_T c h
      exact x_vretf F (i := 26) rfl rfl h hQ
    · replace h := if_F c h
      refine x_aload_n F.1 (i := 4) rfl rfl ?_
      refine x_getI F.1 (i := 5) rfl fl_KT_71 rfl (by rfl) ?_
      refine x_sipush F.1 (i := 6) rfl sp_900 ?_
      refine x_icmp_ge F.1 (i := 7) (tgt := 43) rfl (by decide) (fun c => ?_) (fun c => ?_)
      · replace h := if_T c h
        refine x_iinc F.1 (i := 24) rfl rfl rfl (Nat.le_of_ble_eq_true rfl) rfl ?_
        replace h := bd_e h
        refine x_goto F.1 (i := 25) (tgt := 3) rfl (by decide) ?_
        exact x_wk F.1 (ih _ _ h) ⟨rfl, rfl, rfl, trivial⟩
      · replace h := if_F c h
        refine x_aload_n F.1 (i := 8) rfl rfl ?_
        refine x_getC F.1 (i := 9) rfl fl_KT_15 rfl (by rfl) ?_
        refine x_aload_n F.1 (i := 10) rfl rfl ?_
        refine x_getI F.1 (i := 11) rfl fl_KT_71 rfl (by rfl) ?_
        refine x_iload_n F.1 (i := 12) rfl rfl ?_
        refine x_iload_n F.1 (i := 13) rfl rfl ?_
        refine x_iushr F.1 (i := 14) rfl ?_
        refine x_sipush F.1 (i := 15) rfl sp_255 ?_
        refine x_iand F.1 (i := 16) rfl ?_
        refine gd_e h (fun g2 h => ?_)
        refine x_iast F.1 (i := 17) rfl rfl (inb_e g2) ?_
        replace h := bd_e h
        refine x_aload_n F.1 (i := 18) rfl rfl ?_
        refine x_dup F.1 (i := 19) rfl rfl ?_
        refine x_getI F.1 (i := 20) rfl fl_KT_71 rfl (by rfl) ?_
        refine x_iconst F.1 (i := 21) rfl ic_1 ?_
        refine x_iadd F.1 (i := 22) rfl ?_
        refine x_putI F.1 (i := 23) rfl fl_KT_71 pf_KT_taped rfl (by rfl) ?_
        replace h := bd_e h
        refine x_iinc F.1 (i := 24) rfl rfl rfl (Nat.le_of_ble_eq_true rfl) rfl ?_
        replace h := bd_e h
        refine x_goto F.1 (i := 25) (tgt := 3) rfl (by decide) ?_
        exact x_wk F.1 (ih _ _ h) ⟨rfl, rfl, rfl, trivial⟩
set_option maxHeartbeats 4000000 in
theorem t_KT_feedInt {w : kx_W} {d : Nat} {M : kx_M} {Q : Option Value → kx_M → Prop} {p1 : Int32} {r : Unit} {M' : kx_M} (h : f_KT_feedInt p1 M = some (r, M')) (hQ : Q none M') : Ct w d m_KT_feedInt [.ref 0, .int p1] M Q := by
  refine mk_ct ok_KT_feedInt (Nat.le_of_ble_eq_true rfl) (fun G F => ?_)
  rw [f_KT_feedInt] at h
  show G 0 [some (.ref 0), some (.int p1), none] [] M
  refine x_bipush F.1 (i := 0) rfl bp_24 ?_
  refine x_istore_n F.1 (i := 1) rfl (Nat.le_of_ble_eq_true rfl) (Nat.le_of_ble_eq_true rfl) rfl ?_
  exact x_wk F.1 ((t_KT_feedInt_l3 F (res := (r, M')) hQ FU) _ _ h) ⟨rfl, rfl, rfl, trivial⟩
set_option maxHeartbeats 4000000 in
theorem t_KT_feed {w : kx_W} {d : Nat} {M : kx_M} {Q : Option Value → kx_M → Prop} {p1 : Int32} {p2 : Int32} {p3 : Int32} {p4 : Int32} {p5 : Int32} {r : Int32} {M' : kx_M} (h : f_KT_feed p1 p2 p3 p4 p5 M = some (r, M')) (hQ : Q (some (.int r)) M') : Ct w (d + 1) m_KT_feed [.ref 0, .int p1, .int p2, .int p3, .int p4, .int p5] M Q := by
  refine mk_ct ok_KT_feed (Nat.le_of_ble_eq_true rfl) (fun G F => ?_)
  rw [f_KT_feed] at h
  show G 0 [some (.ref 0), some (.int p1), some (.int p2), some (.int p3), some (.int p4), some (.int p5)] [] M
  refine x_aload_n F.1 (i := 0) rfl rfl ?_
  refine x_getI F.1 (i := 1) rfl fl_KT_71 rfl (by rfl) ?_
  refine x_bipush F.1 (i := 2) rfl bp_20 ?_
  refine x_iadd F.1 (i := 3) rfl ?_
  refine x_sipush F.1 (i := 4) rfl sp_900 ?_
  refine x_icmp_le F.1 (i := 5) (tgt := 15) rfl (by decide) (fun c => ?_) (fun c => ?_)
  · replace h := if_T c h
    refine x_aload_n F.1 (i := 8) rfl rfl ?_
    refine x_iload_n F.1 (i := 9) rfl rfl ?_
    refine cal_e h (fun r1 M1 e2 h => ?_)
    refine x_cV1v F.1 (i := 10) rfl ml_KT_140 ok_KT_feedInt rfl (Nat.le_of_ble_eq_true rfl) (Nat.le_of_ble_eq_true rfl) (fun _ => t_KT_feedInt e2) ?_
    refine x_aload_n F.1 (i := 11) rfl rfl ?_
    refine x_iload_n F.1 (i := 12) rfl rfl ?_
    refine cal_e h (fun r3 M2 e4 h => ?_)
    refine x_cV1v F.1 (i := 13) rfl ml_KT_140 ok_KT_feedInt rfl (Nat.le_of_ble_eq_true rfl) (Nat.le_of_ble_eq_true rfl) (fun _ => t_KT_feedInt e4) ?_
    refine x_aload_n F.1 (i := 14) rfl rfl ?_
    refine x_iload_n F.1 (i := 15) rfl rfl ?_
    refine cal_e h (fun r5 M3 e6 h => ?_)
    refine x_cV1v F.1 (i := 16) rfl ml_KT_140 ok_KT_feedInt rfl (Nat.le_of_ble_eq_true rfl) (Nat.le_of_ble_eq_true rfl) (fun _ => t_KT_feedInt e6) ?_
    refine x_aload_n F.1 (i := 17) rfl rfl ?_
    refine x_iload F.1 (i := 18) rfl rfl ?_
    refine cal_e h (fun r7 M4 e8 h => ?_)
    refine x_cV1v F.1 (i := 19) rfl ml_KT_140 ok_KT_feedInt rfl (Nat.le_of_ble_eq_true rfl) (Nat.le_of_ble_eq_true rfl) (fun _ => t_KT_feedInt e8) ?_
    refine x_aload_n F.1 (i := 20) rfl rfl ?_
    refine x_iload F.1 (i := 21) rfl rfl ?_
    refine cal_e h (fun r9 M5 e10 h => ?_)
    refine x_cV1v F.1 (i := 22) rfl ml_KT_140 ok_KT_feedInt rfl (Nat.le_of_ble_eq_true rfl) (Nat.le_of_ble_eq_true rfl) (fun _ => t_KT_feedInt e10) ?_
    refine x_aload_n F.1 (i := 23) rfl rfl ?_
    refine x_getI F.1 (i := 24) rfl fl_KT_71 rfl (by rfl) ?_
    exact x_iretf F (i := 25) rfl rfl h (res := (r, M')) hQ
  · replace h := if_F c h
    refine x_iconst F.1 (i := 6) rfl ic_n1 ?_
    exact x_iretf F (i := 7) rfl rfl h (res := (r, M')) hQ
set_option maxHeartbeats 4000000 in
theorem t_LW_feed_l5 {w : kx_W} {d : Nat} {Q : Option Value → kx_M → Prop} {G : Nat → List (Option Value) → List Value → kx_M → Prop} (F : Sd w (d + 2) m_LW_feed Q G) {res : Unit × kx_M} (hQ : Q none res.2) :
    ∀ (n : Nat) (x2 : Int32) (M : kx_M),
    f_LW_feed_l5 n x2 M = some res → G 5 [some (.ref 0), some (.ref 135), some (.int x2)] [] M := by
  intro n
  induction n with
  | zero =>
    intro x2 M h
    exact absurd h (by rw [f_LW_feed_l5]; exact fun z => nomatch z)
  | succ n ih =>
    intro x2 M h
    rw [f_LW_feed_l5] at h
    refine x_iload_n F.1 (i := 4) rfl rfl ?_
    refine x_bipush F.1 (i := 5) rfl bp_20 ?_
    refine x_icmp_ge F.1 (i := 6) (tgt := 22) rfl (by decide) (fun c => ?_) (fun c => ?_)
    · replace h := if_T c h
      refine x_aload_n F.1 (i := 13) rfl rfl ?_
      refine x_aload_n F.1 (i := 14) rfl rfl ?_
      refine x_iconst F.1 (i := 15) rfl ic_0 ?_
      refine cal_e h (fun r1 M1 e2 h => ?_)
      refine x_cS2i F.1 (i := 16) rfl ml_LW_13 ok_LW_four (Nat.le_of_ble_eq_true rfl) (Nat.le_of_ble_eq_true rfl) (fun _ => t_LW_four e2) ?_
      refine x_aload_n F.1 (i := 17) rfl rfl ?_
      refine x_iconst F.1 (i := 18) rfl ic_4 ?_
      refine cal_e h (fun r3 M2 e4 h => ?_)
      refine x_cS2i F.1 (i := 19) rfl ml_LW_13 ok_LW_four (Nat.le_of_ble_eq_true rfl) (Nat.le_of_ble_eq_true rfl) (fun _ => t_LW_four e4) ?_
      refine x_aload_n F.1 (i := 20) rfl rfl ?_
      refine x_bipush F.1 (i := 21) rfl bp_8 ?_
      refine cal_e h (fun r5 M3 e6 h => ?_)
      refine x_cS2i F.1 (i := 22) rfl ml_LW_13 ok_LW_four (Nat.le_of_ble_eq_true rfl) (Nat.le_of_ble_eq_true rfl) (fun _ => t_LW_four e6) ?_
      refine x_aload_n F.1 (i := 23) rfl rfl ?_
      refine x_bipush F.1 (i := 24) rfl bp_12 ?_
      refine cal_e h (fun r7 M4 e8 h => ?_)
      refine x_cS2i F.1 (i := 25) rfl ml_LW_13 ok_LW_four (Nat.le_of_ble_eq_true rfl) (Nat.le_of_ble_eq_true rfl) (fun _ => t_LW_four e8) ?_
      refine x_aload_n F.1 (i := 26) rfl rfl ?_
      refine x_bipush F.1 (i := 27) rfl bp_16 ?_
      refine cal_e h (fun r9 M5 e10 h => ?_)
      refine x_cS2i F.1 (i := 28) rfl ml_LW_13 ok_LW_four (Nat.le_of_ble_eq_true rfl) (Nat.le_of_ble_eq_true rfl) (fun _ => t_LW_four e10) ?_
      refine cal_e h (fun r11 M6 e12 h => ?_)
      refine x_cV5i F.1 (i := 29) rfl ml_LW_17 ok_KT_feed rfl (Nat.le_of_ble_eq_true rfl) (Nat.le_of_ble_eq_true rfl) (fun _ => t_KT_feed e12) ?_
      refine x_pop F.1 (i := 30) rfl rfl ?_
      refine x_aload_n F.1 (i := 31) rfl rfl ?_
      refine x_bipush F.1 (i := 32) rfl bp_20 ?_
      refine x_iconst F.1 (i := 33) rfl ic_0 ?_
      refine gd_e h (fun g13 h => ?_)
      refine x_iast F.1 (i := 34) rfl rfl (inb_e g13) ?_
      replace h := bd_e h
      exact x_vretf F (i := 35) rfl rfl h hQ
    · replace h := if_F c h
      refine x_aload_n F.1 (i := 7) rfl rfl ?_
      refine x_iload_n F.1 (i := 8) rfl rfl ?_
      refine x_bipush F.1 (i := 9) rfl bp_32 ?_
      refine gd_e h (fun g14 h => ?_)
      refine x_iast F.1 (i := 10) rfl rfl (inb_e g14) ?_
      replace h := bd_e h
      refine x_iinc F.1 (i := 11) rfl rfl rfl (Nat.le_of_ble_eq_true rfl) rfl ?_
      replace h := bd_e h
      refine x_goto F.1 (i := 12) (tgt := 5) rfl (by decide) ?_
      exact x_wk F.1 (ih _ _ h) ⟨rfl, rfl, rfl, trivial⟩
set_option maxHeartbeats 4000000 in
theorem t_LW_feed {w : kx_W} {d : Nat} {M : kx_M} {Q : Option Value → kx_M → Prop} {r : Unit} {M' : kx_M} (h : f_LW_feed M = some (r, M')) (hQ : Q none M') : Ct w (d + 2) m_LW_feed [.ref 0, .ref 135] M Q := by
  refine mk_ct ok_LW_feed (Nat.le_of_ble_eq_true rfl) (fun G F => ?_)
  rw [f_LW_feed] at h
  show G 0 [some (.ref 0), some (.ref 135), none] [] M
  refine x_aload_n F.1 (i := 0) rfl rfl ?_
  refine x_bipush F.1 (i := 1) rfl bp_20 ?_
  refine gd_e h (fun g1 h => ?_)
  refine x_iald F.1 (i := 2) rfl rfl (inb_e g1) ?_
  refine x_istore_n F.1 (i := 3) rfl (Nat.le_of_ble_eq_true rfl) (Nat.le_of_ble_eq_true rfl) rfl ?_
  replace h := bd_e h
  exact x_wk F.1 ((t_LW_feed_l5 F (res := (r, M')) hQ FU) _ _ h) ⟨rfl, rfl, rfl, trivial⟩
set_option maxHeartbeats 4000000 in
theorem t_LW_put {w : kx_W} {d : Nat} {M : kx_M} {Q : Option Value → kx_M → Prop} {p2 : Int32} {r : Unit} {M' : kx_M} (h : f_LW_put p2 M = some (r, M')) (hQ : Q none M') : Ct w (d + 3) m_LW_put [.ref 0, .ref 135, .int p2] M Q := by
  refine mk_ct ok_LW_put (Nat.le_of_ble_eq_true rfl) (fun G F => ?_)
  rw [f_LW_put] at h
  show G 0 [some (.ref 0), some (.ref 135), some (.int p2)] [] M
  refine x_aload_n F.1 (i := 0) rfl rfl ?_
  refine x_aload_n F.1 (i := 1) rfl rfl ?_
  refine x_bipush F.1 (i := 2) rfl bp_20 ?_
  refine gd_e h (fun g1 h => ?_)
  refine x_iald F.1 (i := 3) rfl rfl (inb_e g1) ?_
  refine x_iload_n F.1 (i := 4) rfl rfl ?_
  refine gd_e h (fun g2 h => ?_)
  refine x_iast F.1 (i := 5) rfl rfl (inb_e g2) ?_
  replace h := bd_e h
  refine x_aload_n F.1 (i := 6) rfl rfl ?_
  refine x_bipush F.1 (i := 7) rfl bp_20 ?_
  refine x_dup2 F.1 (i := 8) rfl rfl rfl ?_
  refine gd_e h (fun g3 h => ?_)
  refine x_iald F.1 (i := 9) rfl rfl (inb_e g3) ?_
  refine x_iconst F.1 (i := 10) rfl ic_1 ?_
  refine x_iadd F.1 (i := 11) rfl ?_
  refine gd_e h (fun g4 h => ?_)
  refine x_iast F.1 (i := 12) rfl rfl (inb_e g4) ?_
  replace h := bd_e h
  refine x_aload_n F.1 (i := 13) rfl rfl ?_
  refine x_bipush F.1 (i := 14) rfl bp_21 ?_
  refine x_dup2 F.1 (i := 15) rfl rfl rfl ?_
  refine gd_e h (fun g5 h => ?_)
  refine x_iald F.1 (i := 16) rfl rfl (inb_e g5) ?_
  refine x_iconst F.1 (i := 17) rfl ic_1 ?_
  refine x_iadd F.1 (i := 18) rfl ?_
  refine gd_e h (fun g6 h => ?_)
  refine x_iast F.1 (i := 19) rfl rfl (inb_e g6) ?_
  replace h := bd_e h
  refine x_aload_n F.1 (i := 20) rfl rfl ?_
  refine x_bipush F.1 (i := 21) rfl bp_20 ?_
  refine gd_e h (fun g7 h => ?_)
  refine x_iald F.1 (i := 22) rfl rfl (inb_e g7) ?_
  refine x_bipush F.1 (i := 23) rfl bp_20 ?_
  refine x_icmp_ne F.1 (i := 24) (tgt := 37) rfl (by decide) (fun c => ?_) (fun c => ?_)
  · replace h := if_F c h
    exact x_vretf F (i := 28) rfl rfl h (res := (r, M')) hQ
  · replace h := if_T c h
    refine x_aload_n F.1 (i := 25) rfl rfl ?_
    refine x_aload_n F.1 (i := 26) rfl rfl ?_
    refine cal_e h (fun r8 M4 e9 h => ?_)
    refine x_cS2v F.1 (i := 27) rfl ml_LW_7 ok_LW_feed (Nat.le_of_ble_eq_true rfl) (Nat.le_of_ble_eq_true rfl) (fun _ => t_LW_feed e9) ?_
    exact x_vretf F (i := 28) rfl rfl h (res := (r, M')) hQ
set_option maxHeartbeats 4000000 in
theorem t_LW_say_l2 {w : kx_W} {d : Nat} {Q : Option Value → kx_M → Prop} {G : Nat → List (Option Value) → List Value → kx_M → Prop} (F : Sd w (d + 4) m_LW_say Q G) {p2 : Nat} {res : Unit × kx_M} (hQ : Q none res.2) :
    ∀ (n : Nat) (x3 : Int32) (M : kx_M),
    f_LW_say_l2 p2 n x3 M = some res → G 2 [some (.ref 0), some (.ref 135), some (.retAddr (p2 + 10)), some (.int x3)] [] M := by
  intro n
  induction n with
  | zero =>
    intro x3 M h
    exact absurd h (by rw [f_LW_say_l2]; exact fun z => nomatch z)
  | succ n ih =>
    intro x3 M h
    rw [f_LW_say_l2] at h
    refine x_iload_n F.1 (i := 2) rfl rfl ?_
    refine x_aloadz_n F.1 (i := 3) rfl rfl ?_
    refine gd_e h (fun g1 h => ?_)
    refine x_slen F.1 (i := 4) rfl bl_LW_22 (isST_e g1) (Nat.le_of_ble_eq_true rfl) ?_
    refine x_icmp_ge F.1 (i := 5) (tgt := 26) rfl (by decide) (fun c => ?_) (fun c => ?_)
    · replace h := if_T c h
      exact x_vretf F (i := 14) rfl rfl h hQ
    · replace h := if_F c h
      refine x_aload_n F.1 (i := 6) rfl rfl ?_
      refine x_aload_n F.1 (i := 7) rfl rfl ?_
      refine x_aloadz_n F.1 (i := 8) rfl rfl ?_
      refine x_iload_n F.1 (i := 9) rfl rfl ?_
      refine gd_e h (fun g2 h => ?_)
      refine gd_e h (fun g3 h => ?_)
      refine x_scha F.1 (i := 10) rfl bl_LW_28 (inb_e g3) (isST_e g2) (Nat.le_of_ble_eq_true rfl) ?_
      refine cal_e h (fun r4 M1 e5 h => ?_)
      refine x_cS3v F.1 (i := 11) rfl ml_LW_32 ok_LW_put (Nat.le_of_ble_eq_true rfl) (Nat.le_of_ble_eq_true rfl) (fun _ => t_LW_put e5) ?_
      refine x_iinc F.1 (i := 12) rfl rfl rfl (Nat.le_of_ble_eq_true rfl) rfl ?_
      replace h := bd_e h
      refine x_goto F.1 (i := 13) (tgt := 2) rfl (by decide) ?_
      exact x_wk F.1 (ih _ _ h) ⟨rfl, rfl, rfl, rfl, trivial⟩
set_option maxHeartbeats 4000000 in
theorem t_LW_say {w : kx_W} {d : Nat} {M : kx_M} {Q : Option Value → kx_M → Prop} {p2 : Nat} {r : Unit} {M' : kx_M} (h : f_LW_say p2 M = some (r, M')) (hQ : Q none M') : Ct w (d + 4) m_LW_say [.ref 0, .ref 135, .retAddr (p2 + 10)] M Q := by
  refine mk_ct ok_LW_say (Nat.le_of_ble_eq_true rfl) (fun G F => ?_)
  rw [f_LW_say] at h
  show G 0 [some (.ref 0), some (.ref 135), some (.retAddr (p2 + 10)), none] [] M
  refine x_iconst F.1 (i := 0) rfl ic_0 ?_
  refine x_istore_n F.1 (i := 1) rfl (Nat.le_of_ble_eq_true rfl) (Nat.le_of_ble_eq_true rfl) rfl ?_
  exact x_wk F.1 ((t_LW_say_l2 F (res := (r, M')) hQ FU) _ _ h) ⟨rfl, rfl, rfl, rfl, trivial⟩
set_option maxHeartbeats 4000000 in
theorem t_LW_number_l25 {w : kx_W} {d : Nat} {Q : Option Value → kx_M → Prop} {G : Nat → List (Option Value) → List Value → kx_M → Prop} (F : Sd w (d + 4) m_LW_number Q G) {p2 : Int32} {res : Unit × kx_M} (hQ : Q none res.2) :
    ∀ (M : kx_M),
    f_LW_number_l25 p2 M = some res → G 25 [some (.ref 0), some (.ref 135), some (.int p2)] [] M := by
  intro M h
  rw [f_LW_number_l25] at h
  refine x_iload_n F.1 (i := 15) rfl rfl ?_
  refine x_bipush F.1 (i := 16) rfl bp_9 ?_
  refine x_icmp_le F.1 (i := 17) (tgt := 46) rfl (by decide) (fun c => ?_) (fun c => ?_)
  · replace h := if_T c h
    refine x_aload_n F.1 (i := 28) rfl rfl ?_
    refine x_aload_n F.1 (i := 29) rfl rfl ?_
    refine x_bipush F.1 (i := 30) rfl bp_48 ?_
    refine x_iload_n F.1 (i := 31) rfl rfl ?_
    refine x_bipush F.1 (i := 32) rfl bp_10 ?_
    refine x_irem F.1 (i := 33) (v := 0) rfl (by decide) ?_
    refine x_iadd F.1 (i := 34) rfl ?_
    refine cal_e h (fun r1 M1 e2 h => ?_)
    refine x_cS3v F.1 (i := 35) rfl ml_LW_32 ok_LW_put (Nat.le_of_ble_eq_true rfl) (Nat.le_of_ble_eq_true rfl) (fun _ => t_LW_put e2) ?_
    exact x_vretf F (i := 36) rfl rfl h hQ
  · replace h := if_F c h
    refine x_aload_n F.1 (i := 18) rfl rfl ?_
    refine x_aload_n F.1 (i := 19) rfl rfl ?_
    refine x_bipush F.1 (i := 20) rfl bp_48 ?_
    refine x_iload_n F.1 (i := 21) rfl rfl ?_
    refine x_bipush F.1 (i := 22) rfl bp_10 ?_
    refine x_idiv F.1 (i := 23) (v := 0) rfl (by decide) ?_
    refine x_bipush F.1 (i := 24) rfl bp_10 ?_
    refine x_irem F.1 (i := 25) (v := 0) rfl (by decide) ?_
    refine x_iadd F.1 (i := 26) rfl ?_
    refine cal_e h (fun r3 M2 e4 h => ?_)
    refine x_cS3v F.1 (i := 27) rfl ml_LW_32 ok_LW_put (Nat.le_of_ble_eq_true rfl) (Nat.le_of_ble_eq_true rfl) (fun _ => t_LW_put e4) ?_
    refine x_aload_n F.1 (i := 28) rfl rfl ?_
    refine x_aload_n F.1 (i := 29) rfl rfl ?_
    refine x_bipush F.1 (i := 30) rfl bp_48 ?_
    refine x_iload_n F.1 (i := 31) rfl rfl ?_
    refine x_bipush F.1 (i := 32) rfl bp_10 ?_
    refine x_irem F.1 (i := 33) (v := 0) rfl (by decide) ?_
    refine x_iadd F.1 (i := 34) rfl ?_
    refine cal_e h (fun r5 M3 e6 h => ?_)
    refine x_cS3v F.1 (i := 35) rfl ml_LW_32 ok_LW_put (Nat.le_of_ble_eq_true rfl) (Nat.le_of_ble_eq_true rfl) (fun _ => t_LW_put e6) ?_
    exact x_vretf F (i := 36) rfl rfl h hQ
set_option maxHeartbeats 4000000 in
theorem t_LW_number {w : kx_W} {d : Nat} {M : kx_M} {Q : Option Value → kx_M → Prop} {p2 : Int32} {r : Unit} {M' : kx_M} (h : f_LW_number p2 M = some (r, M')) (hQ : Q none M') : Ct w (d + 4) m_LW_number [.ref 0, .ref 135, .int p2] M Q := by
  refine mk_ct ok_LW_number (Nat.le_of_ble_eq_true rfl) (fun G F => ?_)
  rw [f_LW_number] at h
  show G 0 [some (.ref 0), some (.ref 135), some (.int p2)] [] M
  refine x_aload_n F.1 (i := 0) rfl rfl ?_
  refine x_aload_n F.1 (i := 1) rfl rfl ?_
  refine x_bipush F.1 (i := 2) rfl bp_32 ?_
  refine cal_e h (fun r1 M1 e2 h => ?_)
  refine x_cS3v F.1 (i := 3) rfl ml_LW_32 ok_LW_put (Nat.le_of_ble_eq_true rfl) (Nat.le_of_ble_eq_true rfl) (fun _ => t_LW_put e2) ?_
  refine x_iload_n F.1 (i := 4) rfl rfl ?_
  refine x_bipush F.1 (i := 5) rfl bp_99 ?_
  refine x_icmp_le F.1 (i := 6) (tgt := 25) rfl (by decide) (fun c => ?_) (fun c => ?_)
  · replace h := if_T c h
    exact x_wk F.1 ((t_LW_number_l25 F (res := (r, M')) hQ) _ h) ⟨rfl, rfl, rfl, trivial⟩
  · replace h := if_F c h
    refine x_aload_n F.1 (i := 7) rfl rfl ?_
    refine x_aload_n F.1 (i := 8) rfl rfl ?_
    refine x_bipush F.1 (i := 9) rfl bp_48 ?_
    refine x_iload_n F.1 (i := 10) rfl rfl ?_
    refine x_bipush F.1 (i := 11) rfl bp_100 ?_
    refine x_idiv F.1 (i := 12) (v := 0) rfl (by decide) ?_
    refine x_iadd F.1 (i := 13) rfl ?_
    refine cal_e h (fun r3 M2 e4 h => ?_)
    refine x_cS3v F.1 (i := 14) rfl ml_LW_32 ok_LW_put (Nat.le_of_ble_eq_true rfl) (Nat.le_of_ble_eq_true rfl) (fun _ => t_LW_put e4) ?_
    exact x_wk F.1 ((t_LW_number_l25 F (res := (r, M')) hQ) _ h) ⟨rfl, rfl, rfl, trivial⟩
set_option maxHeartbeats 4000000 in
theorem t_LW_name {w : kx_W} {d : Nat} {M : kx_M} {Q : Option Value → kx_M → Prop} {p2 : Int32} {p3 : Int32} {r : Unit} {M' : kx_M} (h : f_LW_name p2 p3 M = some (r, M')) (hQ : Q none M') : Ct w (d + 4) m_LW_name [.ref 0, .ref 135, .int p2, .int p3] M Q := by
  refine mk_ct ok_LW_name (Nat.le_of_ble_eq_true rfl) (fun G F => ?_)
  rw [f_LW_name] at h
  show G 0 [some (.ref 0), some (.ref 135), some (.int p2), some (.int p3)] [] M
  refine x_aload_n F.1 (i := 0) rfl rfl ?_
  refine x_aload_n F.1 (i := 1) rfl rfl ?_
  refine x_bipush F.1 (i := 2) rfl bp_32 ?_
  refine cal_e h (fun r1 M1 e2 h => ?_)
  refine x_cS3v F.1 (i := 3) rfl ml_LW_32 ok_LW_put (Nat.le_of_ble_eq_true rfl) (Nat.le_of_ble_eq_true rfl) (fun _ => t_LW_put e2) ?_
  refine x_aload_n F.1 (i := 4) rfl rfl ?_
  refine x_aload_n F.1 (i := 5) rfl rfl ?_
  refine x_iload_n F.1 (i := 6) rfl rfl ?_
  refine cal_e h (fun r3 M2 e4 h => ?_)
  refine x_cS3v F.1 (i := 7) rfl ml_LW_32 ok_LW_put (Nat.le_of_ble_eq_true rfl) (Nat.le_of_ble_eq_true rfl) (fun _ => t_LW_put e4) ?_
  refine x_aload_n F.1 (i := 8) rfl rfl ?_
  refine x_aload_n F.1 (i := 9) rfl rfl ?_
  refine x_bipush F.1 (i := 10) rfl bp_97 ?_
  refine x_iload_n F.1 (i := 11) rfl rfl ?_
  refine x_iadd F.1 (i := 12) rfl ?_
  refine cal_e h (fun r5 M3 e6 h => ?_)
  refine x_cS3v F.1 (i := 13) rfl ml_LW_32 ok_LW_put (Nat.le_of_ble_eq_true rfl) (Nat.le_of_ble_eq_true rfl) (fun _ => t_LW_put e6) ?_
  exact x_vretf F (i := 14) rfl rfl h (res := (r, M')) hQ
set_option maxHeartbeats 4000000 in
theorem t_LW_kind {w : kx_W} {d : Nat} {M : kx_M} {Q : Option Value → kx_M → Prop} {p2 : Int32} {r : Unit} {M' : kx_M} (h : f_LW_kind p2 M = some (r, M')) (hQ : Q none M') : Ct w (d + 5) m_LW_kind [.ref 0, .ref 135, .int p2] M Q := by
  refine mk_ct ok_LW_kind (Nat.le_of_ble_eq_true rfl) (fun G F => ?_)
  rw [f_LW_kind] at h
  show G 0 [some (.ref 0), some (.ref 135), some (.int p2)] [] M
  refine x_aload_n F.1 (i := 0) rfl rfl ?_
  refine x_aload_n F.1 (i := 1) rfl rfl ?_
  refine x_iload_n F.1 (i := 2) rfl rfl ?_
  refine x_if_ne F.1 (i := 3) (tgt := 11) rfl (by decide) (fun c => ?_) (fun c => ?_)
  · replace h := if_F c h
    refine x_iload_n F.1 (i := 6) rfl rfl ?_
    refine x_iconst F.1 (i := 7) rfl ic_1 ?_
    refine x_icmp_ne F.1 (i := 8) (tgt := 21) rfl (by decide) (fun c => ?_) (fun c => ?_)
    · replace h := if_F c h
      refine x_iload_n F.1 (i := 11) rfl rfl ?_
      refine x_iconst F.1 (i := 12) rfl ic_2 ?_
      refine x_icmp_ne F.1 (i := 13) (tgt := 31) rfl (by decide) (fun c => ?_) (fun c => ?_)
      · replace h := if_F c h
        refine x_ldcS F.1 (i := 16) (j := 10) rfl (by decide) rfl ?_
        refine cal_e h (fun r7 M4 e8 h => ?_)
        refine x_cS3v F.1 (i := 17) rfl ml_LW_51 ok_LW_say (Nat.le_of_ble_eq_true rfl) (Nat.le_of_ble_eq_true rfl) (fun _ => t_LW_say e8) ?_
        exact x_vretf F (i := 18) rfl rfl h (res := (r, M')) hQ
      · replace h := if_T c h
        refine x_ldcS F.1 (i := 14) (j := 9) rfl (by decide) rfl ?_
        refine x_goto F.1 (i := 15) (tgt := 33) rfl (by decide) ?_
        refine cal_e h (fun r5 M3 e6 h => ?_)
        refine x_cS3v F.1 (i := 17) rfl ml_LW_51 ok_LW_say (Nat.le_of_ble_eq_true rfl) (Nat.le_of_ble_eq_true rfl) (fun _ => t_LW_say e6) ?_
        exact x_vretf F (i := 18) rfl rfl h (res := (r, M')) hQ
    · replace h := if_T c h
      refine x_ldcS F.1 (i := 9) (j := 8) rfl (by decide) rfl ?_
      refine x_goto F.1 (i := 10) (tgt := 33) rfl (by decide) ?_
      refine cal_e h (fun r3 M2 e4 h => ?_)
      refine x_cS3v F.1 (i := 17) rfl ml_LW_51 ok_LW_say (Nat.le_of_ble_eq_true rfl) (Nat.le_of_ble_eq_true rfl) (fun _ => t_LW_say e4) ?_
      exact x_vretf F (i := 18) rfl rfl h (res := (r, M')) hQ
  · replace h := if_T c h
    refine x_ldcS F.1 (i := 4) (j := 7) rfl (by decide) rfl ?_
    refine x_goto F.1 (i := 5) (tgt := 33) rfl (by decide) ?_
    refine cal_e h (fun r1 M1 e2 h => ?_)
    refine x_cS3v F.1 (i := 17) rfl ml_LW_51 ok_LW_say (Nat.le_of_ble_eq_true rfl) (Nat.le_of_ble_eq_true rfl) (fun _ => t_LW_say e2) ?_
    exact x_vretf F (i := 18) rfl rfl h (res := (r, M')) hQ
set_option maxHeartbeats 4000000 in
theorem t_Deal_clear {w : kx_W} {d : Nat} {M : kx_M} {Q : Option Value → kx_M → Prop} {p0 : Nat} {r : Unit} {M' : kx_M} (hp0 : isDeal p0 = true) (h : f_Deal_clear p0 M = some (r, M')) (hQ : Q none M') : Ct w (d + 1) m_Deal_clear [.ref p0] M Q := by
  refine mk_ct ok_Deal_clear (Nat.le_of_ble_eq_true rfl) (fun G F => ?_)
  rw [f_Deal_clear] at h
  show G 0 [some (.ref p0)] [] M
  refine x_aload_n F.1 (i := 0) rfl rfl ?_
  refine x_iconst F.1 (i := 1) rfl ic_0 ?_
  refine x_putI F.1 (i := 2) rfl fl_Deal_34 pf_Deal_queens (lk_Deal hp0) (by rfl) ?_
  replace h := bd_e h
  refine x_aload_n F.1 (i := 3) rfl rfl ?_
  refine x_iconst F.1 (i := 4) rfl ic_0 ?_
  refine x_putI F.1 (i := 5) rfl fl_Deal_38 pf_Deal_clauses (lk_Deal hp0) (by rfl) ?_
  replace h := bd_e h
  refine x_aload_n F.1 (i := 6) rfl rfl ?_
  refine x_getC F.1 (i := 7) rfl fl_Deal_28 (lk_Deal hp0) (by rfl) ?_
  refine x_iconst F.1 (i := 8) rfl ic_0 ?_
  refine cal_e h (fun r1 M3 e2 h => ?_)
  refine x_cS2v F.1 (i := 9) rfl ml_Deal_41 ok_Arr_fill_2 (Nat.le_of_ble_eq_true rfl) (Nat.le_of_ble_eq_true rfl) (fun _ => t_Arr_fill_2 e2) ?_
  refine x_aload_n F.1 (i := 10) rfl rfl ?_
  refine x_getC F.1 (i := 11) rfl fl_Deal_31 (lk_Deal hp0) (by rfl) ?_
  refine x_iconst F.1 (i := 12) rfl ic_0 ?_
  refine cal_e h (fun r3 M4 e4 h => ?_)
  refine x_cS2v F.1 (i := 13) rfl ml_Deal_41 ok_Arr_fill_2 (Nat.le_of_ble_eq_true rfl) (Nat.le_of_ble_eq_true rfl) (fun _ => t_Arr_fill_2 e4) ?_
  exact x_vretf F (i := 14) rfl rfl h (res := (r, M')) hQ
set_option maxHeartbeats 4000000 in
theorem t_Cloth_clear {w : kx_W} {d : Nat} {M : kx_M} {Q : Option Value → kx_M → Prop} {p0 : Nat} {r : Unit} {M' : kx_M} (hp0 : isCloth p0 = true) (h : f_Cloth_clear p0 M = some (r, M')) (hQ : Q none M') : Ct w d m_Cloth_clear [.ref p0] M Q := by
  refine mk_ct ok_Cloth_clear (Nat.le_of_ble_eq_true rfl) (fun G F => ?_)
  rw [f_Cloth_clear] at h
  show G 0 [some (.ref p0)] [] M
  refine x_aload_n F.1 (i := 0) rfl rfl ?_
  refine x_bipush F.1 (i := 1) rfl bp_6 ?_
  refine x_putI F.1 (i := 2) rfl fl_Cloth_27 pf_Cloth_wide (lk_Cloth hp0) (by rfl) ?_
  replace h := bd_e h
  refine x_aload_n F.1 (i := 3) rfl rfl ?_
  refine x_bipush F.1 (i := 4) rfl bp_20 ?_
  refine x_putI F.1 (i := 5) rfl fl_Cloth_31 pf_Cloth_tough (lk_Cloth hp0) (by rfl) ?_
  replace h := bd_e h
  refine x_aload_n F.1 (i := 6) rfl rfl ?_
  refine x_iconst F.1 (i := 7) rfl ic_0 ?_
  refine x_putI F.1 (i := 8) rfl fl_Cloth_34 pf_Cloth_rows (lk_Cloth hp0) (by rfl) ?_
  replace h := bd_e h
  refine x_aload_n F.1 (i := 9) rfl rfl ?_
  refine x_iconst F.1 (i := 10) rfl ic_0 ?_
  refine x_putI F.1 (i := 11) rfl fl_Cloth_37 pf_Cloth_date (lk_Cloth hp0) (by rfl) ?_
  replace h := bd_e h
  exact x_vretf F (i := 12) rfl rfl h (res := (r, M')) hQ
set_option maxHeartbeats 4000000 in
theorem t_Script_clear {w : kx_W} {d : Nat} {M : kx_M} {Q : Option Value → kx_M → Prop} {p0 : Nat} {r : Unit} {M' : kx_M} (hp0 : isScript p0 = true) (h : f_Script_clear p0 M = some (r, M')) (hQ : Q none M') : Ct w d m_Script_clear [.ref p0] M Q := by
  refine mk_ct ok_Script_clear (Nat.le_of_ble_eq_true rfl) (fun G F => ?_)
  rw [f_Script_clear] at h
  show G 0 [some (.ref p0)] [] M
  refine x_aload_n F.1 (i := 0) rfl rfl ?_
  refine x_iconst F.1 (i := 1) rfl ic_0 ?_
  refine x_putZ F.1 (i := 2) rfl fl_Script_22 pf_Script_there (lk_Script hp0) (by rfl) (Or.inl rfl) ?_
  replace h := bd_e h
  refine x_aload_n F.1 (i := 3) rfl rfl ?_
  refine x_iconst F.1 (i := 4) rfl ic_0 ?_
  refine x_putI F.1 (i := 5) rfl fl_Script_26 pf_Script_steps (lk_Script hp0) (by rfl) ?_
  replace h := bd_e h
  refine x_aload_n F.1 (i := 6) rfl rfl ?_
  refine x_iconst F.1 (i := 7) rfl ic_0 ?_
  refine x_putI F.1 (i := 8) rfl fl_Script_30 pf_Script_entries (lk_Script hp0) (by rfl) ?_
  replace h := bd_e h
  exact x_vretf F (i := 9) rfl rfl h (res := (r, M')) hQ
set_option maxHeartbeats 4000000 in
theorem t_State_clear {w : kx_W} {d : Nat} {M : kx_M} {Q : Option Value → kx_M → Prop} {p0 : Nat} {r : Unit} {M' : kx_M} (hp0 : isState p0 = true) (h : f_State_clear p0 M = some (r, M')) (hQ : Q none M') : Ct w (d + 2) m_State_clear [.ref p0] M Q := by
  refine mk_ct ok_State_clear (Nat.le_of_ble_eq_true rfl) (fun G F => ?_)
  rw [f_State_clear] at h
  show G 0 [some (.ref p0)] [] M
  refine x_aload_n F.1 (i := 0) rfl rfl ?_
  refine x_getC F.1 (i := 1) rfl fl_State_10 (lk_State hp0) (by rfl) ?_
  refine cal_e h (fun r1 M1 e2 h => ?_)
  refine x_cV0v F.1 (i := 2) rfl ml_State_30 ok_Deal_clear (lk_Deal (lD_State_deal hp0)) (Nat.le_of_ble_eq_true rfl) (Nat.le_of_ble_eq_true rfl) (fun _ => t_Deal_clear (lD_State_deal hp0) e2) ?_
  refine x_aload_n F.1 (i := 3) rfl rfl ?_
  refine x_getC F.1 (i := 4) rfl fl_State_19 (lk_State hp0) (by rfl) ?_
  refine cal_e h (fun r3 M2 e4 h => ?_)
  refine x_cV0v F.1 (i := 5) rfl ml_State_33 ok_Cloth_clear (lk_Cloth (lD_State_cloth hp0)) (Nat.le_of_ble_eq_true rfl) (Nat.le_of_ble_eq_true rfl) (fun _ => t_Cloth_clear (lD_State_cloth hp0) e4) ?_
  refine x_aload_n F.1 (i := 6) rfl rfl ?_
  refine x_getC F.1 (i := 7) rfl fl_State_26 (lk_State hp0) (by rfl) ?_
  refine cal_e h (fun r5 M3 e6 h => ?_)
  refine x_cV0v F.1 (i := 8) rfl ml_State_34 ok_Script_clear (lk_Script (lD_State_script hp0)) (Nat.le_of_ble_eq_true rfl) (Nat.le_of_ble_eq_true rfl) (fun _ => t_Script_clear (lD_State_script hp0) e6) ?_
  exact x_vretf F (i := 9) rfl rfl h (res := (r, M')) hQ
set_option maxHeartbeats 4000000 in
theorem t_Reader_readWord_l10 {w : kx_W} {d : Nat} {Q : Option Value → kx_M → Prop} {G : Nat → List (Option Value) → List Value → kx_M → Prop} (F : Sd w d m_Reader_readWord Q G) {p0 : Nat} (hp0 : isReader p0 = true) {res : Unit × kx_M} (hQ : Q none res.2) :
    ∀ (n : Nat) (x1 : Int32) (M : kx_M),
    f_Reader_readWord_l10 p0 n x1 M = some res → G 10 [some (.ref p0), some (.int x1)] [] M := by
  intro n
  induction n with
  | zero =>
    intro x1 M h
    exact absurd h (by rw [f_Reader_readWord_l10]; exact fun z => nomatch z)
  | succ n ih =>
    intro x1 M h
    rw [f_Reader_readWord_l10] at h
    refine x_iload_n F.1 (i := 6) rfl rfl ?_
    refine x_aload_n F.1 (i := 7) rfl rfl ?_
    refine x_getI F.1 (i := 8) rfl fl_Reader_19 (lk_Reader hp0) (by rfl) ?_
    refine x_icmp_ge F.1 (i := 9) (tgt := 69) rfl (by decide) (fun c => ?_) (fun c => ?_)
    · replace h := if_T c h
      refine x_aload_n F.1 (i := 40) rfl rfl ?_
      refine x_iconst F.1 (i := 41) rfl ic_2 ?_
      refine x_putI F.1 (i := 42) rfl fl_Reader_29 pf_Reader_sort (lk_Reader hp0) (by rfl) ?_
      replace h := bd_e h
      refine x_aload_n F.1 (i := 43) rfl rfl ?_
      refine x_iload_n F.1 (i := 44) rfl rfl ?_
      refine x_putI F.1 (i := 45) rfl fl_Reader_23 pf_Reader_after (lk_Reader hp0) (by rfl) ?_
      replace h := bd_e h
      exact x_vretf F (i := 46) rfl rfl h hQ
    · replace h := if_F c h
      refine x_aload_n F.1 (i := 10) rfl rfl ?_
      refine x_getR F.1 (i := 11) rfl fl_Reader_15 (lk_Reader hp0) (by rfl) rfl ?_
      refine x_iload_n F.1 (i := 12) rfl rfl ?_
      refine gd_e h (fun g1 h => ?_)
      obtain ⟨ng1, kg1, lg1, ig1⟩ := aIb_e g1
      refine x_iald F.1 (i := 13) rfl lg1 ig1 ?_
      refine x_bipush F.1 (i := 14) rfl bp_97 ?_
      refine x_icmp_lt F.1 (i := 15) (tgt := 69) rfl (by decide) (fun c => ?_) (fun c => ?_)
      · replace h := if_T c h
        refine x_aload_n F.1 (i := 40) rfl rfl ?_
        refine x_iconst F.1 (i := 41) rfl ic_2 ?_
        refine x_putI F.1 (i := 42) rfl fl_Reader_29 pf_Reader_sort (lk_Reader hp0) (by rfl) ?_
        replace h := bd_e h
        refine x_aload_n F.1 (i := 43) rfl rfl ?_
        refine x_iload_n F.1 (i := 44) rfl rfl ?_
        refine x_putI F.1 (i := 45) rfl fl_Reader_23 pf_Reader_after (lk_Reader hp0) (by rfl) ?_
        replace h := bd_e h
        exact x_vretf F (i := 46) rfl rfl h hQ
      · replace h := if_F c h
        refine x_aload_n F.1 (i := 16) rfl rfl ?_
        refine x_getR F.1 (i := 17) rfl fl_Reader_15 (lk_Reader hp0) (by rfl) rfl ?_
        refine x_iload_n F.1 (i := 18) rfl rfl ?_
        refine gd_e h (fun g2 h => ?_)
        obtain ⟨ng2, kg2, lg2, ig2⟩ := aIb_e g2
        refine x_iald F.1 (i := 19) rfl lg2 ig2 ?_
        refine x_bipush F.1 (i := 20) rfl bp_122 ?_
        refine x_icmp_gt F.1 (i := 21) (tgt := 69) rfl (by decide) (fun c => ?_) (fun c => ?_)
        · replace h := if_T c h
          refine x_aload_n F.1 (i := 40) rfl rfl ?_
          refine x_iconst F.1 (i := 41) rfl ic_2 ?_
          refine x_putI F.1 (i := 42) rfl fl_Reader_29 pf_Reader_sort (lk_Reader hp0) (by rfl) ?_
          replace h := bd_e h
          refine x_aload_n F.1 (i := 43) rfl rfl ?_
          refine x_iload_n F.1 (i := 44) rfl rfl ?_
          refine x_putI F.1 (i := 45) rfl fl_Reader_23 pf_Reader_after (lk_Reader hp0) (by rfl) ?_
          replace h := bd_e h
          exact x_vretf F (i := 46) rfl rfl h hQ
        · replace h := if_F c h
          refine x_aload_n F.1 (i := 22) rfl rfl ?_
          refine x_aload_n F.1 (i := 23) rfl rfl ?_
          refine x_getJ F.1 (i := 24) rfl fl_Reader_35 (lk_Reader hp0) (by rfl) ?_
          refine x_iconst F.1 (i := 25) rfl ic_5 ?_
          refine x_lshl F.1 (i := 26) rfl ?_
          refine x_aload_n F.1 (i := 27) rfl rfl ?_
          refine x_getR F.1 (i := 28) rfl fl_Reader_15 (lk_Reader hp0) (by rfl) rfl ?_
          refine x_iload_n F.1 (i := 29) rfl rfl ?_
          refine gd_e h (fun g3 h => ?_)
          obtain ⟨ng3, kg3, lg3, ig3⟩ := aIb_e g3
          refine x_iald F.1 (i := 30) rfl lg3 ig3 ?_
          refine x_bipush F.1 (i := 31) rfl bp_97 ?_
          refine x_isub F.1 (i := 32) rfl ?_
          refine x_iconst F.1 (i := 33) rfl ic_1 ?_
          refine x_iadd F.1 (i := 34) rfl ?_
          refine x_i2l F.1 (i := 35) rfl ?_
          refine x_lor F.1 (i := 36) rfl ?_
          refine x_putJ F.1 (i := 37) rfl fl_Reader_35 pf_Reader_word (lk_Reader hp0) (by rfl) ?_
          replace h := bd_e h
          refine x_iinc F.1 (i := 38) rfl rfl rfl (Nat.le_of_ble_eq_true rfl) rfl ?_
          replace h := bd_e h
          refine x_goto F.1 (i := 39) (tgt := 10) rfl (by decide) ?_
          exact x_wk F.1 (ih _ _ h) ⟨rfl, rfl, trivial⟩
set_option maxHeartbeats 4000000 in
theorem t_Reader_readWord {w : kx_W} {d : Nat} {M : kx_M} {Q : Option Value → kx_M → Prop} {p0 : Nat} {r : Unit} {M' : kx_M} (hp0 : isReader p0 = true) (h : f_Reader_readWord p0 M = some (r, M')) (hQ : Q none M') : Ct w d m_Reader_readWord [.ref p0] M Q := by
  refine mk_ct ok_Reader_readWord (Nat.le_of_ble_eq_true rfl) (fun G F => ?_)
  rw [f_Reader_readWord] at h
  show G 0 [some (.ref p0), none] [] M
  refine x_aload_n F.1 (i := 0) rfl rfl ?_
  refine x_getI F.1 (i := 1) rfl fl_Reader_26 (lk_Reader hp0) (by rfl) ?_
  refine x_istore_n F.1 (i := 2) rfl (Nat.le_of_ble_eq_true rfl) (Nat.le_of_ble_eq_true rfl) rfl ?_
  replace h := bd_e h
  refine x_aload_n F.1 (i := 3) rfl rfl ?_
  refine x_lconst F.1 (i := 4) (v := 0) rfl rfl ?_
  refine x_putJ F.1 (i := 5) rfl fl_Reader_35 pf_Reader_word (lk_Reader hp0) (by rfl) ?_
  replace h := bd_e h
  exact x_wk F.1 ((t_Reader_readWord_l10 F hp0 (res := (r, M')) hQ FU) _ _ h) ⟨rfl, rfl, trivial⟩
set_option maxHeartbeats 4000000 in
theorem t_Reader_keyOf_l2 {w : kx_W} {d : Nat} {Q : Option Value → kx_M → Prop} {G : Nat → List (Option Value) → List Value → kx_M → Prop} (F : Sd w d m_Reader_keyOf Q G) {p0 : Nat} {p1 : Int64} (hp0 : isReader p0 = true) {res : Int32 × kx_M} (hQ : Q (some (.int res.1)) res.2) :
    ∀ (n : Nat) (x3 : Int32) (M : kx_M),
    f_Reader_keyOf_l2 p0 p1 n x3 M = some res → G 2 [some (.ref p0), some (.long p1), none, some (.int x3)] [] M := by
  intro n
  induction n with
  | zero =>
    intro x3 M h
    exact absurd h (by rw [f_Reader_keyOf_l2]; exact fun z => nomatch z)
  | succ n ih =>
    intro x3 M h
    rw [f_Reader_keyOf_l2] at h
    refine x_iload_n F.1 (i := 2) rfl rfl ?_
    refine x_bipush F.1 (i := 3) rfl bp_26 ?_
    refine x_icmp_ge F.1 (i := 4) (tgt := 27) rfl (by decide) (fun c => ?_) (fun c => ?_)
    · replace h := if_T c h
      refine x_bipush F.1 (i := 16) rfl bp_26 ?_
      exact x_iretf F (i := 17) rfl rfl h hQ
    · replace h := if_F c h
      refine x_aload_n F.1 (i := 5) rfl rfl ?_
      refine x_getC F.1 (i := 6) rfl fl_Reader_11 (lk_Reader hp0) (by rfl) ?_
      refine x_iload_n F.1 (i := 7) rfl rfl ?_
      refine gd_e h (fun g1 h => ?_)
      refine x_lald F.1 (i := 8) rfl (lk_Reader_known hp0) (inb_e g1) ?_
      refine x_lload_n F.1 (i := 9) rfl rfl ?_
      refine x_lcmp F.1 (i := 10) rfl ?_
      refine x_if_ne F.1 (i := 11) (tgt := 21) rfl (by decide) (fun c => ?_) (fun c => ?_)
      · replace h := if_F c h
        refine x_iinc F.1 (i := 14) rfl rfl rfl (Nat.le_of_ble_eq_true rfl) rfl ?_
        replace h := bd_e h
        refine x_goto F.1 (i := 15) (tgt := 2) rfl (by decide) ?_
        exact x_wk F.1 (ih _ _ h) ⟨rfl, rfl, rfl, trivial⟩
      · replace h := if_T c h
        refine x_iload_n F.1 (i := 12) rfl rfl ?_
        exact x_iretf F (i := 13) rfl rfl h hQ
set_option maxHeartbeats 4000000 in
theorem t_Reader_keyOf {w : kx_W} {d : Nat} {M : kx_M} {Q : Option Value → kx_M → Prop} {p0 : Nat} {p1 : Int64} {r : Int32} {M' : kx_M} (hp0 : isReader p0 = true) (h : f_Reader_keyOf p0 p1 M = some (r, M')) (hQ : Q (some (.int r)) M') : Ct w d m_Reader_keyOf [.ref p0, .long p1] M Q := by
  refine mk_ct ok_Reader_keyOf (Nat.le_of_ble_eq_true rfl) (fun G F => ?_)
  rw [f_Reader_keyOf] at h
  show G 0 [some (.ref p0), some (.long p1), none, none] [] M
  refine x_iconst F.1 (i := 0) rfl ic_0 ?_
  refine x_istore_n F.1 (i := 1) rfl (Nat.le_of_ble_eq_true rfl) (Nat.le_of_ble_eq_true rfl) rfl ?_
  exact x_wk F.1 ((t_Reader_keyOf_l2 F hp0 (res := (r, M')) hQ FU) _ _ h) ⟨rfl, rfl, rfl, trivial⟩
