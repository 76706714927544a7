set_option maxHeartbeats 4000000 in
theorem t_RM_worth {w : kx_W} {d : Nat} {M : kx_M} {Q : Option Value → kx_M → Prop} {p1 : Int32} {p2 : Int32} {p3 : Int32} {r : Int32} {M' : kx_M} (h : f_RM_worth p1 p2 p3 M = some (r, M')) (hQ : Q (some (.int r)) M') : Ct w (d + 2) m_RM_worth [.ref 135, .int p1, .int p2, .int p3] M Q := by
  refine mk_ct ok_RM_worth (Nat.le_of_ble_eq_true rfl) (fun G F => ?_)
  rw [f_RM_worth] at h
  show G 0 [some (.ref 135), some (.int p1), some (.int p2), some (.int p3)] [] M
  refine x_aload_n F.1 (i := 0) rfl rfl ?_
  refine x_iconst F.1 (i := 1) rfl ic_0 ?_
  refine x_putI F.1 (i := 2) rfl fl_RM_68 pf_RM_thrown rfl (by rfl) ?_
  replace h := bd_e h
  refine x_aload_n F.1 (i := 3) rfl rfl ?_
  refine x_iconst F.1 (i := 4) rfl ic_0 ?_
  refine x_putI F.1 (i := 5) rfl fl_RM_71 pf_RM_status rfl (by rfl) ?_
  replace h := bd_e h
  refine x_aload_n F.1 (i := 6) rfl rfl ?_
  refine x_iload_n F.1 (i := 7) rfl rfl ?_
  refine cal_e h (fun r1 M3 e2 h => ?_)
  refine x_cV1i F.1 (i := 8) rfl ml_RM_336 ok_RM_isQueenAt rfl (Nat.le_of_ble_eq_true rfl) (Nat.le_of_ble_eq_true rfl) (fun _ => t_RM_isQueenAt e2) ?_
  refine x_if_eq F.1 (i := 9) (tgt := 26) rfl (by decide) (fun c => ?_) (fun c => ?_)
  · replace h := if_T c h
    refine x_aload_n F.1 (i := 14) rfl rfl ?_
    refine x_iconst F.1 (i := 15) rfl ic_2 ?_
    refine cal_e h (fun r3 M4 e4 h => ?_)
    refine x_cV1i F.1 (i := 16) rfl ml_RM_321 ok_RM_refuse rfl (Nat.le_of_ble_eq_true rfl) (Nat.le_of_ble_eq_true rfl) (fun _ => t_RM_refuse e4) ?_
    exact x_iretf F (i := 17) rfl rfl h (res := (r, M')) hQ
  · replace h := if_F c h
    refine x_aload_n F.1 (i := 10) rfl rfl ?_
    refine x_iload_n F.1 (i := 11) rfl rfl ?_
    refine cal_e h (fun r5 M5 e6 h => ?_)
    refine x_cV1i F.1 (i := 12) rfl ml_RM_339 ok_RM_isClauseAt rfl (Nat.le_of_ble_eq_true rfl) (Nat.le_of_ble_eq_true rfl) (fun _ => t_RM_isClauseAt e6) ?_
    refine x_if_ne F.1 (i := 13) (tgt := 32) rfl (by decide) (fun c => ?_) (fun c => ?_)
    · replace h := if_F c h
      refine x_iload_n F.1 (i := 18) rfl rfl ?_
      refine x_i2l F.1 (i := 19) rfl ?_
      refine x_lconst F.1 (i := 20) (v := 0) rfl rfl ?_
      refine x_lconst F.1 (i := 21) (v := 1) rfl rfl ?_
      refine cal_e h (fun r9 M7 e10 h => ?_)
      refine x_cS3i F.1 (i := 22) rfl ml_RM_103 ok_RM_isIn (Nat.le_of_ble_eq_true rfl) (Nat.le_of_ble_eq_true rfl) (fun _ => t_RM_isIn e10) ?_
      refine x_if_eq F.1 (i := 23) (tgt := 64) rfl (by decide) (fun c => ?_) (fun c => ?_)
      · replace h := if_T c h
        refine x_aload_n F.1 (i := 39) rfl rfl ?_
        refine x_iconst F.1 (i := 40) rfl ic_5 ?_
        refine cal_e h (fun r11 M8 e12 h => ?_)
        refine x_cV1i F.1 (i := 41) rfl ml_RM_321 ok_RM_refuse rfl (Nat.le_of_ble_eq_true rfl) (Nat.le_of_ble_eq_true rfl) (fun _ => t_RM_refuse e12) ?_
        exact x_iretf F (i := 42) rfl rfl h (res := (r, M')) hQ
      · replace h := if_F c h
        refine x_aload_n F.1 (i := 24) rfl rfl ?_
        refine x_getC F.1 (i := 25) rfl fl_RM_35 rfl (by rfl) ?_
        refine x_bipush F.1 (i := 26) rfl bp_52 ?_
        refine x_bipush F.1 (i := 27) rfl bp_24 ?_
        refine x_iload_n F.1 (i := 28) rfl rfl ?_
        refine x_imul F.1 (i := 29) rfl ?_
        refine x_iadd F.1 (i := 30) rfl ?_
        refine x_bipush F.1 (i := 31) rfl bp_6 ?_
        refine x_iload_n F.1 (i := 32) rfl rfl ?_
        refine x_imul F.1 (i := 33) rfl ?_
        refine x_iadd F.1 (i := 34) rfl ?_
        refine x_iload_n F.1 (i := 35) rfl rfl ?_
        refine x_iadd F.1 (i := 36) rfl ?_
        refine gd_e h (fun g13 h => ?_)
        refine x_iald F.1 (i := 37) rfl rfl (inb_e g13) ?_
        refine x_goto F.1 (i := 38) (tgt := 69) rfl (by decide) ?_
        exact x_iretf F (i := 42) rfl rfl h (res := (r, M')) hQ
    · replace h := if_T c h
      refine x_aload_n F.1 (i := 14) rfl rfl ?_
      refine x_iconst F.1 (i := 15) rfl ic_2 ?_
      refine cal_e h (fun r7 M6 e8 h => ?_)
      refine x_cV1i F.1 (i := 16) rfl ml_RM_321 ok_RM_refuse rfl (Nat.le_of_ble_eq_true rfl) (Nat.le_of_ble_eq_true rfl) (fun _ => t_RM_refuse e8) ?_
      exact x_iretf F (i := 17) rfl rfl h (res := (r, M')) hQ
set_option maxHeartbeats 4000000 in
theorem t_RM_isTray {w : kx_W} {d : Nat} {M : kx_M} {Q : Option Value → kx_M → Prop} {p1 : Int32} {r : Int32} {M' : kx_M} (h : f_RM_isTray p1 M = some (r, M')) (hQ : Q (some (.int r)) M') : Ct w (d + 1) m_RM_isTray [.ref 135, .int p1] M Q := by
  refine mk_ct ok_RM_isTray (Nat.le_of_ble_eq_true rfl) (fun G F => ?_)
  rw [f_RM_isTray] at h
  show G 0 [some (.ref 135), some (.int p1)] [] M
  refine x_iload_n F.1 (i := 0) rfl rfl ?_
  refine x_i2l F.1 (i := 1) rfl ?_
  refine x_lconst F.1 (i := 2) (v := 0) rfl rfl ?_
  refine x_ldc2_w F.1 (i := 3) rfl cl_RM_101 ?_
  refine cal_e h (fun r1 M1 e2 h => ?_)
  refine x_cS3i F.1 (i := 4) rfl ml_RM_103 ok_RM_isIn (Nat.le_of_ble_eq_true rfl) (Nat.le_of_ble_eq_true rfl) (fun _ => t_RM_isIn e2) ?_
  refine gd_e h (fun g3 h => ?_)
  exact x_zretf F (i := 5) rfl rfl (b01_e g3) h (res := (r, M')) hQ
set_option maxHeartbeats 4000000 in
theorem t_RM_copyRow_l76 {w : kx_W} {d : Nat} {Q : Option Value → kx_M → Prop} {G : Nat → List (Option Value) → List Value → kx_M → Prop} (F : Sd w (d + 2) m_RM_copyRow Q G) {p1 : Int32} {p2 : Int32} {res : Int32 × kx_M} (hQ : Q (some (.int res.1)) res.2) :
    ∀ (n : Nat) (x3 : Int32) (M : kx_M),
    f_RM_copyRow_l76 p1 p2 n x3 M = some res → G 76 [some (.ref 135), some (.int p1), some (.int p2), some (.int x3)] [] M := by
  intro n
  induction n with
  | zero =>
    intro x3 M h
    exact absurd h (by rw [f_RM_copyRow_l76]; exact fun z => nomatch z)
  | succ n ih =>
    intro x3 M h
    rw [f_RM_copyRow_l76] at h
    refine x_iload_n F.1 (i := 46) rfl rfl ?_
    refine x_aload_n F.1 (i := 47) rfl rfl ?_
    refine x_getC F.1 (i := 48) rfl fl_RM_35 rfl (by rfl) ?_
    refine x_iconst F.1 (i := 49) rfl ic_0 ?_
    refine gd_e h (fun g1 h => ?_)
    refine x_iald F.1 (i := 50) rfl rfl (inb_e g1) ?_
    refine x_icmp_ge F.1 (i := 51) (tgt := 135) rfl (by decide) (fun c => ?_) (fun c => ?_)
    · replace h := if_T c h
      refine x_aload_n F.1 (i := 79) rfl rfl ?_
      refine x_getC F.1 (i := 80) rfl fl_RM_35 rfl (by rfl) ?_
      refine x_iconst F.1 (i := 81) rfl ic_0 ?_
      refine gd_e h (fun g2 h => ?_)
      refine x_iald F.1 (i := 82) rfl rfl (inb_e g2) ?_
      exact x_iretf F (i := 83) rfl rfl h hQ
    · replace h := if_F c h
      refine x_aload_n F.1 (i := 52) rfl rfl ?_
      refine x_getC F.1 (i := 53) rfl fl_RM_20 rfl (by rfl) ?_
      refine x_bipush F.1 (i := 54) rfl bp_60 ?_
      refine x_iload_n F.1 (i := 55) rfl rfl ?_
      refine x_imul F.1 (i := 56) rfl ?_
      refine x_iload_n F.1 (i := 57) rfl rfl ?_
      refine x_iadd F.1 (i := 58) rfl ?_
      refine x_aload_n F.1 (i := 59) rfl rfl ?_
      refine x_iload_n F.1 (i := 60) rfl rfl ?_
      refine x_iload_n F.1 (i := 61) rfl rfl ?_
      refine cal_e h (fun r3 M1 e4 h => ?_)
      refine x_cS2i F.1 (i := 62) rfl ml_RM_303 ok_RM_place (Nat.le_of_ble_eq_true rfl) (Nat.le_of_ble_eq_true rfl) (fun _ => t_RM_place e4) ?_
      refine cal_e h (fun r5 M2 e6 h => ?_)
      refine x_cV1i F.1 (i := 63) rfl ml_RM_306 ok_RM_isUndone rfl (Nat.le_of_ble_eq_true rfl) (Nat.le_of_ble_eq_true rfl) (fun _ => t_RM_isUndone e6) ?_
      refine x_if_eq F.1 (i := 64) (tgt := 114) rfl (by decide) (fun c => ?_) (fun c => ?_)
      · replace h := if_T c h
        refine x_aload_n F.1 (i := 67) rfl rfl ?_
        refine x_getC F.1 (i := 68) rfl fl_RM_35 rfl (by rfl) ?_
        refine x_bipush F.1 (i := 69) rfl bp_112 ?_
        refine x_iload_n F.1 (i := 70) rfl rfl ?_
        refine x_iload_n F.1 (i := 71) rfl rfl ?_
        refine cal_e h (fun r7 M3 e8 h => ?_)
        refine x_cS2i F.1 (i := 72) rfl ml_RM_303 ok_RM_place (Nat.le_of_ble_eq_true rfl) (Nat.le_of_ble_eq_true rfl) (fun _ => t_RM_place e8) ?_
        refine x_iadd F.1 (i := 73) rfl ?_
        refine gd_e h (fun g9 h => ?_)
        refine x_iald F.1 (i := 74) rfl rfl (inb_e g9) ?_
        refine x_i2l F.1 (i := 75) rfl ?_
        refine gd_e h (fun g10 h => ?_)
        refine x_last F.1 (i := 76) rfl rfl (inb_e g10) ?_
        replace h := bd_e h
        refine x_iinc F.1 (i := 77) rfl rfl rfl (Nat.le_of_ble_eq_true rfl) rfl ?_
        replace h := bd_e h
        refine x_goto F.1 (i := 78) (tgt := 76) rfl (by decide) ?_
        exact x_wk F.1 (ih _ _ h) ⟨rfl, rfl, rfl, rfl, trivial⟩
      · replace h := if_F c h
        refine x_ldc2_w F.1 (i := 65) rfl cl_RM_99 ?_
        refine x_goto F.1 (i := 66) (tgt := 128) rfl (by decide) ?_
        refine gd_e h (fun g12 h => ?_)
        refine x_last F.1 (i := 76) rfl rfl (inb_e g12) ?_
        replace h := bd_e h
        refine x_iinc F.1 (i := 77) rfl rfl rfl (Nat.le_of_ble_eq_true rfl) rfl ?_
        replace h := bd_e h
        refine x_goto F.1 (i := 78) (tgt := 76) rfl (by decide) ?_
        exact x_wk F.1 (ih _ _ h) ⟨rfl, rfl, rfl, rfl, trivial⟩
set_option maxHeartbeats 4000000 in
theorem t_RM_copyRow {w : kx_W} {d : Nat} {M : kx_M} {Q : Option Value → kx_M → Prop} {p1 : Int32} {p2 : Int32} {r : Int32} {M' : kx_M} (h : f_RM_copyRow p1 p2 M = some (r, M')) (hQ : Q (some (.int r)) M') : Ct w (d + 2) m_RM_copyRow [.ref 135, .int p1, .int p2] M Q := by
  refine mk_ct ok_RM_copyRow (Nat.le_of_ble_eq_true rfl) (fun G F => ?_)
  rw [f_RM_copyRow] at h
  show G 0 [some (.ref 135), some (.int p1), some (.int p2), none] [] M
  refine x_aload_n F.1 (i := 0) rfl rfl ?_
  refine x_iconst F.1 (i := 1) rfl ic_0 ?_
  refine x_putI F.1 (i := 2) rfl fl_RM_68 pf_RM_thrown rfl (by rfl) ?_
  replace h := bd_e h
  refine x_aload_n F.1 (i := 3) rfl rfl ?_
  refine x_iconst F.1 (i := 4) rfl ic_0 ?_
  refine x_putI F.1 (i := 5) rfl fl_RM_71 pf_RM_status rfl (by rfl) ?_
  replace h := bd_e h
  refine x_aload_n F.1 (i := 6) rfl rfl ?_
  refine x_iload_n F.1 (i := 7) rfl rfl ?_
  refine cal_e h (fun r1 M3 e2 h => ?_)
  refine x_cV1i F.1 (i := 8) rfl ml_RM_342 ok_RM_isTray rfl (Nat.le_of_ble_eq_true rfl) (Nat.le_of_ble_eq_true rfl) (fun _ => t_RM_isTray e2) ?_
  refine x_if_ne F.1 (i := 9) (tgt := 24) rfl (by decide) (fun c => ?_) (fun c => ?_)
  · replace h := if_F c h
    refine x_aload_n F.1 (i := 14) rfl rfl ?_
    refine x_iload_n F.1 (i := 15) rfl rfl ?_
    refine cal_e h (fun r5 M5 e6 h => ?_)
    refine x_cV1i F.1 (i := 16) rfl ml_RM_330 ok_RM_isRowAt rfl (Nat.le_of_ble_eq_true rfl) (Nat.le_of_ble_eq_true rfl) (fun _ => t_RM_isRowAt e6) ?_
    refine x_if_ne F.1 (i := 17) (tgt := 38) rfl (by decide) (fun c => ?_) (fun c => ?_)
    · replace h := if_F c h
      refine x_aload_n F.1 (i := 22) rfl rfl ?_
      refine x_getC F.1 (i := 23) rfl fl_RM_17 rfl (by rfl) ?_
      refine x_iload_n F.1 (i := 24) rfl rfl ?_
      refine gd_e h (fun g9 h => ?_)
      refine x_iald F.1 (i := 25) rfl rfl (inb_e g9) ?_
      refine x_if_ge F.1 (i := 26) (tgt := 53) rfl (by decide) (fun c => ?_) (fun c => ?_)
      · replace h := if_T c h
        refine x_aload_n F.1 (i := 31) rfl rfl ?_
        refine x_getC F.1 (i := 32) rfl fl_RM_17 rfl (by rfl) ?_
        refine x_iload_n F.1 (i := 33) rfl rfl ?_
        refine gd_e h (fun g10 h => ?_)
        refine x_iald F.1 (i := 34) rfl rfl (inb_e g10) ?_
        refine x_aload_n F.1 (i := 35) rfl rfl ?_
        refine x_getC F.1 (i := 36) rfl fl_RM_35 rfl (by rfl) ?_
        refine x_iconst F.1 (i := 37) rfl ic_0 ?_
        refine gd_e h (fun g11 h => ?_)
        refine x_iald F.1 (i := 38) rfl rfl (inb_e g11) ?_
        refine x_icmp_ge F.1 (i := 39) (tgt := 74) rfl (by decide) (fun c => ?_) (fun c => ?_)
        · replace h := if_T c h
          refine x_iconst F.1 (i := 44) rfl ic_0 ?_
          refine x_istore_n F.1 (i := 45) rfl (Nat.le_of_ble_eq_true rfl) (Nat.le_of_ble_eq_true rfl) rfl ?_
          exact x_wk F.1 ((t_RM_copyRow_l76 F (res := (r, M')) hQ FU) _ _ h) ⟨rfl, rfl, rfl, rfl, trivial⟩
        · replace h := if_F c h
          refine x_aload_n F.1 (i := 40) rfl rfl ?_
          refine x_iconst F.1 (i := 41) rfl ic_4 ?_
          refine cal_e h (fun r12 M7 e13 h => ?_)
          refine x_cV1i F.1 (i := 42) rfl ml_RM_321 ok_RM_refuse rfl (Nat.le_of_ble_eq_true rfl) (Nat.le_of_ble_eq_true rfl) (fun _ => t_RM_refuse e13) ?_
          exact x_iretf F (i := 43) rfl rfl h (res := (r, M')) hQ
      · replace h := if_F c h
        refine x_aload_n F.1 (i := 27) rfl rfl ?_
        refine x_iconst F.1 (i := 28) rfl ic_3 ?_
        refine cal_e h (fun r14 M8 e15 h => ?_)
        refine x_cV1i F.1 (i := 29) rfl ml_RM_321 ok_RM_refuse rfl (Nat.le_of_ble_eq_true rfl) (Nat.le_of_ble_eq_true rfl) (fun _ => t_RM_refuse e15) ?_
        exact x_iretf F (i := 30) rfl rfl h (res := (r, M')) hQ
    · replace h := if_T c h
      refine x_aload_n F.1 (i := 18) rfl rfl ?_
      refine x_iconst F.1 (i := 19) rfl ic_2 ?_
      refine cal_e h (fun r7 M6 e8 h => ?_)
      refine x_cV1i F.1 (i := 20) rfl ml_RM_321 ok_RM_refuse rfl (Nat.le_of_ble_eq_true rfl) (Nat.le_of_ble_eq_true rfl) (fun _ => t_RM_refuse e8) ?_
      exact x_iretf F (i := 21) rfl rfl h (res := (r, M')) hQ
  · replace h := if_T c h
    refine x_aload_n F.1 (i := 10) rfl rfl ?_
    refine x_iconst F.1 (i := 11) rfl ic_1 ?_
    refine cal_e h (fun r3 M4 e4 h => ?_)
    refine x_cV1i F.1 (i := 12) rfl ml_RM_321 ok_RM_refuse rfl (Nat.le_of_ble_eq_true rfl) (Nat.le_of_ble_eq_true rfl) (fun _ => t_RM_refuse e4) ?_
    exact x_iretf F (i := 13) rfl rfl h (res := (r, M')) hQ
set_option maxHeartbeats 4000000 in
theorem t_RM_isLoose {w : kx_W} {d : Nat} {M : kx_M} {Q : Option Value → kx_M → Prop} {p1 : Int32} {r : Int32} {M' : kx_M} (h : f_RM_isLoose p1 M = some (r, M')) (hQ : Q (some (.int r)) M') : Ct w (d + 1) m_RM_isLoose [.ref 135, .int p1] M Q := by
  refine mk_ct ok_RM_isLoose (Nat.le_of_ble_eq_true rfl) (fun G F => ?_)
  rw [f_RM_isLoose] at h
  show G 0 [some (.ref 135), some (.int p1)] [] M
  refine x_aload_n F.1 (i := 0) rfl rfl ?_
  refine x_iload_n F.1 (i := 1) rfl rfl ?_
  refine cal_e h (fun r1 M1 e2 h => ?_)
  refine x_cV1i F.1 (i := 2) rfl ml_RM_306 ok_RM_isUndone rfl (Nat.le_of_ble_eq_true rfl) (Nat.le_of_ble_eq_true rfl) (fun _ => t_RM_isUndone e2) ?_
  refine x_if_ne F.1 (i := 3) (tgt := 25) rfl (by decide) (fun c => ?_) (fun c => ?_)
  · replace h := if_F c h
    refine x_iconst F.1 (i := 13) rfl ic_0 ?_
    exact x_zretf F (i := 14) rfl rfl (Or.inl rfl) h (res := (r, M')) hQ
  · replace h := if_T c h
    refine x_aload_n F.1 (i := 4) rfl rfl ?_
    refine x_getC F.1 (i := 5) rfl fl_RM_35 rfl (by rfl) ?_
    refine x_sipush F.1 (i := 6) rfl sp_400 ?_
    refine x_iload_n F.1 (i := 7) rfl rfl ?_
    refine x_iadd F.1 (i := 8) rfl ?_
    refine gd_e h (fun g3 h => ?_)
    refine x_iald F.1 (i := 9) rfl rfl (inb_e g3) ?_
    refine x_if_ne F.1 (i := 10) (tgt := 25) rfl (by decide) (fun c => ?_) (fun c => ?_)
    · replace h := if_F c h
      refine x_iconst F.1 (i := 13) rfl ic_0 ?_
      exact x_zretf F (i := 14) rfl rfl (Or.inl rfl) h (res := (r, M')) hQ
    · replace h := if_T c h
      refine x_iconst F.1 (i := 11) rfl ic_1 ?_
      refine x_goto F.1 (i := 12) (tgt := 26) rfl (by decide) ?_
      exact x_zretf F (i := 14) rfl rfl (Or.inr rfl) h (res := (r, M')) hQ
set_option maxHeartbeats 4000000 in
theorem t_RM_beside {w : kx_W} {d : Nat} {M : kx_M} {Q : Option Value → kx_M → Prop} {p1 : Int32} {p2 : Int32} {r : Int32} {M' : kx_M} (h : f_RM_beside p1 p2 M = some (r, M')) (hQ : Q (some (.int r)) M') : Ct w (d + 2) m_RM_beside [.ref 135, .int p1, .int p2] M Q := by
  refine mk_ct ok_RM_beside (Nat.le_of_ble_eq_true rfl) (fun G F => ?_)
  rw [f_RM_beside] at h
  show G 0 [some (.ref 135), some (.int p1), some (.int p2)] [] M
  refine x_aload_n F.1 (i := 0) rfl rfl ?_
  refine x_iload_n F.1 (i := 1) rfl rfl ?_
  refine cal_e h (fun r1 M1 e2 h => ?_)
  refine x_cV1i F.1 (i := 2) rfl ml_RM_333 ok_RM_isColumn rfl (Nat.le_of_ble_eq_true rfl) (Nat.le_of_ble_eq_true rfl) (fun _ => t_RM_isColumn e2) ?_
  refine x_if_ne F.1 (i := 3) (tgt := 10) rfl (by decide) (fun c => ?_) (fun c => ?_)
  · replace h := if_F c h
    refine x_aload_n F.1 (i := 6) rfl rfl ?_
    refine x_getC F.1 (i := 7) rfl fl_RM_35 rfl (by rfl) ?_
    refine x_bipush F.1 (i := 8) rfl bp_112 ?_
    refine x_iload_n F.1 (i := 9) rfl rfl ?_
    refine x_iload_n F.1 (i := 10) rfl rfl ?_
    refine cal_e h (fun r3 M2 e4 h => ?_)
    refine x_cS2i F.1 (i := 11) rfl ml_RM_303 ok_RM_place (Nat.le_of_ble_eq_true rfl) (Nat.le_of_ble_eq_true rfl) (fun _ => t_RM_place e4) ?_
    refine x_iadd F.1 (i := 12) rfl ?_
    refine gd_e h (fun g5 h => ?_)
    refine x_iald F.1 (i := 13) rfl rfl (inb_e g5) ?_
    refine x_iconst F.1 (i := 14) rfl ic_3 ?_
    refine x_icmp_eq F.1 (i := 15) (tgt := 39) rfl (by decide) (fun c => ?_) (fun c => ?_)
    · replace h := if_T c h
      refine x_iconst F.1 (i := 22) rfl ic_1 ?_
      refine x_goto F.1 (i := 23) (tgt := 44) rfl (by decide) ?_
      exact x_iretf F (i := 25) rfl rfl h (res := (r, M')) hQ
    · replace h := if_F c h
      refine x_aload_n F.1 (i := 16) rfl rfl ?_
      refine x_iload_n F.1 (i := 17) rfl rfl ?_
      refine x_iload_n F.1 (i := 18) rfl rfl ?_
      refine cal_e h (fun r6 M3 e7 h => ?_)
      refine x_cS2i F.1 (i := 19) rfl ml_RM_303 ok_RM_place (Nat.le_of_ble_eq_true rfl) (Nat.le_of_ble_eq_true rfl) (fun _ => t_RM_place e7) ?_
      refine cal_e h (fun r8 M4 e9 h => ?_)
      refine x_cV1i F.1 (i := 20) rfl ml_RM_306 ok_RM_isUndone rfl (Nat.le_of_ble_eq_true rfl) (Nat.le_of_ble_eq_true rfl) (fun _ => t_RM_isUndone e9) ?_
      refine x_if_eq F.1 (i := 21) (tgt := 43) rfl (by decide) (fun c => ?_) (fun c => ?_)
      · replace h := if_T c h
        refine x_iconst F.1 (i := 24) rfl ic_0 ?_
        exact x_iretf F (i := 25) rfl rfl h (res := (r, M')) hQ
      · replace h := if_F c h
        refine x_iconst F.1 (i := 22) rfl ic_1 ?_
        refine x_goto F.1 (i := 23) (tgt := 44) rfl (by decide) ?_
        exact x_iretf F (i := 25) rfl rfl h (res := (r, M')) hQ
  · replace h := if_T c h
    refine x_iconst F.1 (i := 4) rfl ic_0 ?_
    exact x_iretf F (i := 5) rfl rfl h (res := (r, M')) hQ
set_option maxHeartbeats 4000000 in
theorem t_RM_climbs {w : kx_W} {d : Nat} {M : kx_M} {Q : Option Value → kx_M → Prop} {p1 : Int32} {p2 : Int32} {r : Int32} {M' : kx_M} (h : f_RM_climbs p1 p2 M = some (r, M')) (hQ : Q (some (.int r)) M') : Ct w (d + 1) m_RM_climbs [.ref 135, .int p1, .int p2] M Q := by
  refine mk_ct ok_RM_climbs (Nat.le_of_ble_eq_true rfl) (fun G F => ?_)
  rw [f_RM_climbs] at h
  show G 0 [some (.ref 135), some (.int p1), some (.int p2), none] [] M
  refine x_iload_n F.1 (i := 0) rfl rfl ?_
  refine x_iload_n F.1 (i := 1) rfl rfl ?_
  refine cal_e h (fun r1 M1 e2 h => ?_)
  refine x_cS2i F.1 (i := 2) rfl ml_RM_303 ok_RM_place (Nat.le_of_ble_eq_true rfl) (Nat.le_of_ble_eq_true rfl) (fun _ => t_RM_place e2) ?_
  refine x_istore_n F.1 (i := 3) rfl (Nat.le_of_ble_eq_true rfl) (Nat.le_of_ble_eq_true rfl) rfl ?_
  refine x_aload_n F.1 (i := 4) rfl rfl ?_
  refine x_iload_n F.1 (i := 5) rfl rfl ?_
  refine cal_e h (fun r3 M2 e4 h => ?_)
  refine x_cV1i F.1 (i := 6) rfl ml_RM_306 ok_RM_isUndone rfl (Nat.le_of_ble_eq_true rfl) (Nat.le_of_ble_eq_true rfl) (fun _ => t_RM_isUndone e4) ?_
  refine x_if_ne F.1 (i := 7) (tgt := 57) rfl (by decide) (fun c => ?_) (fun c => ?_)
  · replace h := if_F c h
    refine x_iconst F.1 (i := 32) rfl ic_0 ?_
    exact x_zretf F (i := 33) rfl rfl (Or.inl rfl) h (res := (r, M')) hQ
  · replace h := if_T c h
    refine x_aload_n F.1 (i := 8) rfl rfl ?_
    refine x_getC F.1 (i := 9) rfl fl_RM_35 rfl (by rfl) ?_
    refine x_sipush F.1 (i := 10) rfl sp_400 ?_
    refine x_iload_n F.1 (i := 11) rfl rfl ?_
    refine x_iadd F.1 (i := 12) rfl ?_
    refine gd_e h (fun g5 h => ?_)
    refine x_iald F.1 (i := 13) rfl rfl (inb_e g5) ?_
    refine x_if_ne F.1 (i := 14) (tgt := 57) rfl (by decide) (fun c => ?_) (fun c => ?_)
    · replace h := if_F c h
      refine x_iconst F.1 (i := 32) rfl ic_0 ?_
      exact x_zretf F (i := 33) rfl rfl (Or.inl rfl) h (res := (r, M')) hQ
    · replace h := if_T c h
      refine x_aload_n F.1 (i := 15) rfl rfl ?_
      refine x_getC F.1 (i := 16) rfl fl_RM_35 rfl (by rfl) ?_
      refine x_bipush F.1 (i := 17) rfl bp_112 ?_
      refine x_iload_n F.1 (i := 18) rfl rfl ?_
      refine x_iadd F.1 (i := 19) rfl ?_
      refine gd_e h (fun g6 h => ?_)
      refine x_iald F.1 (i := 20) rfl rfl (inb_e g6) ?_
      refine x_if_ne F.1 (i := 21) (tgt := 57) rfl (by decide) (fun c => ?_) (fun c => ?_)
      · replace h := if_F c h
        refine x_iconst F.1 (i := 32) rfl ic_0 ?_
        exact x_zretf F (i := 33) rfl rfl (Or.inl rfl) h (res := (r, M')) hQ
      · replace h := if_T c h
        refine x_aload_n F.1 (i := 22) rfl rfl ?_
        refine x_iload_n F.1 (i := 23) rfl rfl ?_
        refine x_iconst F.1 (i := 24) rfl ic_1 ?_
        refine x_isub F.1 (i := 25) rfl ?_
        refine x_iload_n F.1 (i := 26) rfl rfl ?_
        refine cal_e h (fun r7 M3 e8 h => ?_)
        refine x_cS2i F.1 (i := 27) rfl ml_RM_303 ok_RM_place (Nat.le_of_ble_eq_true rfl) (Nat.le_of_ble_eq_true rfl) (fun _ => t_RM_place e8) ?_
        refine cal_e h (fun r9 M4 e10 h => ?_)
        refine x_cV1i F.1 (i := 28) rfl ml_RM_306 ok_RM_isUndone rfl (Nat.le_of_ble_eq_true rfl) (Nat.le_of_ble_eq_true rfl) (fun _ => t_RM_isUndone e10) ?_
        refine x_if_eq F.1 (i := 29) (tgt := 57) rfl (by decide) (fun c => ?_) (fun c => ?_)
        · replace h := if_T c h
          refine x_iconst F.1 (i := 32) rfl ic_0 ?_
          exact x_zretf F (i := 33) rfl rfl (Or.inl rfl) h (res := (r, M')) hQ
        · replace h := if_F c h
          refine x_iconst F.1 (i := 30) rfl ic_1 ?_
          refine x_goto F.1 (i := 31) (tgt := 58) rfl (by decide) ?_
          exact x_zretf F (i := 33) rfl rfl (Or.inr rfl) h (res := (r, M')) hQ
set_option maxHeartbeats 4000000 in
theorem t_RM_withLadders_l21 {w : kx_W} {d : Nat} {Q : Option Value → kx_M → Prop} {G : Nat → List (Option Value) → List Value → kx_M → Prop} (F : Sd w (d + 2) m_RM_withLadders Q G) {p1 : Int32} {k4 : Int32 → Int32 → kx_M → Option (Int32 × kx_M)} {res : Int32 × kx_M} (hQ : Q (some (.int res.1)) res.2) (hk4 : ∀ (x2 : Int32) (x3 : Int32) (M : kx_M), k4 x2 x3 M = some res → G 4 [some (.ref 135), some (.int p1), some (.int x2), some (.int x3), none] [] M) :
    ∀ (n : Nat) (x2 : Int32) (x3 : Int32) (x4 : Int32) (M : kx_M),
    f_RM_withLadders_l21 p1 k4 n x2 x3 x4 M = some res → G 21 [some (.ref 135), some (.int p1), some (.int x2), some (.int x3), some (.int x4)] [] M := by
  intro n
  induction n with
  | zero =>
    intro x2 x3 x4 M h
    exact absurd h (by rw [f_RM_withLadders_l21]; exact fun z => nomatch z)
  | succ n ih =>
    intro x2 x3 x4 M h
    rw [f_RM_withLadders_l21] at h
    refine x_iload F.1 (i := 14) rfl rfl ?_
    refine x_aload_n F.1 (i := 15) rfl rfl ?_
    refine x_getC F.1 (i := 16) rfl fl_RM_35 rfl (by rfl) ?_
    refine x_iconst F.1 (i := 17) rfl ic_0 ?_
    refine gd_e h (fun g1 h => ?_)
    refine x_iald F.1 (i := 18) rfl rfl (inb_e g1) ?_
    refine x_icmp_ge F.1 (i := 19) (tgt := 70) rfl (by decide) (fun c => ?_) (fun c => ?_)
    · replace h := if_T c h
      refine x_iinc F.1 (i := 38) rfl rfl rfl (Nat.le_of_ble_eq_true rfl) rfl ?_
      replace h := bd_e h
      refine x_goto F.1 (i := 39) (tgt := 4) rfl (by decide) ?_
      exact x_wk F.1 (hk4 _ _ _ h) ⟨rfl, rfl, rfl, rfl, trivial⟩
    · replace h := if_F c h
      refine x_aload_n F.1 (i := 20) rfl rfl ?_
      refine x_iload_n F.1 (i := 21) rfl rfl ?_
      refine x_iload F.1 (i := 22) rfl rfl ?_
      refine cal_e h (fun r3 M1 e4 h => ?_)
      refine x_cV2i F.1 (i := 23) rfl ml_RM_345 ok_RM_climbs rfl (Nat.le_of_ble_eq_true rfl) (Nat.le_of_ble_eq_true rfl) (fun _ => t_RM_climbs e4) ?_
      refine x_if_ne F.1 (i := 24) (tgt := 45) rfl (by decide) (fun c => ?_) (fun c => ?_)
      · replace h := if_F c h
        refine x_aload_n F.1 (i := 26) rfl rfl ?_
        refine x_getC F.1 (i := 27) rfl fl_RM_35 rfl (by rfl) ?_
        refine x_sipush F.1 (i := 28) rfl sp_304 ?_
        refine x_iload_n F.1 (i := 29) rfl rfl ?_
        refine x_iload F.1 (i := 30) rfl rfl ?_
        refine cal_e h (fun r6 M2 e7 h => ?_)
        refine x_cS2i F.1 (i := 31) rfl ml_RM_303 ok_RM_place (Nat.le_of_ble_eq_true rfl) (Nat.le_of_ble_eq_true rfl) (fun _ => t_RM_place e7) ?_
        refine x_iadd F.1 (i := 32) rfl ?_
        refine x_iconst F.1 (i := 33) rfl ic_1 ?_
        refine gd_e h (fun g8 h => ?_)
        refine x_iast F.1 (i := 34) rfl rfl (inb_e g8) ?_
        replace h := bd_e h
        refine x_iinc F.1 (i := 35) rfl rfl rfl (Nat.le_of_ble_eq_true rfl) rfl ?_
        replace h := bd_e h
        refine x_iinc F.1 (i := 36) rfl rfl rfl (Nat.le_of_ble_eq_true rfl) rfl ?_
        replace h := bd_e h
        refine x_goto F.1 (i := 37) (tgt := 21) rfl (by decide) ?_
        exact x_wk F.1 (ih _ _ _ _ h) ⟨rfl, rfl, rfl, rfl, rfl, trivial⟩
      · replace h := if_T c h
        refine x_goto F.1 (i := 25) (tgt := 64) rfl (by decide) ?_
        refine x_iinc F.1 (i := 36) rfl rfl rfl (Nat.le_of_ble_eq_true rfl) rfl ?_
        replace h := bd_e h
        refine x_goto F.1 (i := 37) (tgt := 21) rfl (by decide) ?_
        exact x_wk F.1 (ih _ _ _ _ h) ⟨rfl, rfl, rfl, rfl, rfl, trivial⟩
set_option maxHeartbeats 4000000 in
theorem t_RM_withLadders_l4 {w : kx_W} {d : Nat} {Q : Option Value → kx_M → Prop} {G : Nat → List (Option Value) → List Value → kx_M → Prop} (F : Sd w (d + 2) m_RM_withLadders Q G) {p1 : Int32} {res : Int32 × kx_M} (hQ : Q (some (.int res.1)) res.2) :
    ∀ (n : Nat) (x2 : Int32) (x3 : Int32) (M : kx_M),
    f_RM_withLadders_l4 p1 n x2 x3 M = some res → G 4 [some (.ref 135), some (.int p1), some (.int x2), some (.int x3), none] [] M := by
  intro n
  induction n with
  | zero =>
    intro x2 x3 M h
    exact absurd h (by rw [f_RM_withLadders_l4]; exact fun z => nomatch z)
  | succ n ih =>
    intro x2 x3 M h
    rw [f_RM_withLadders_l4] at h
    refine x_iload_n F.1 (i := 4) rfl rfl ?_
    refine x_aload_n F.1 (i := 5) rfl rfl ?_
    refine x_getC F.1 (i := 6) rfl fl_RM_35 rfl (by rfl) ?_
    refine x_iconst F.1 (i := 7) rfl ic_4 ?_
    refine gd_e h (fun g1 h => ?_)
    refine x_iald F.1 (i := 8) rfl rfl (inb_e g1) ?_
    refine x_icmp_ge F.1 (i := 9) (tgt := 76) rfl (by decide) (fun c => ?_) (fun c => ?_)
    · replace h := if_T c h
      refine x_iload_n F.1 (i := 40) rfl rfl ?_
      exact x_iretf F (i := 41) rfl rfl h hQ
    · replace h := if_F c h
      refine x_iload_n F.1 (i := 10) rfl rfl ?_
      refine x_if_le F.1 (i := 11) (tgt := 76) rfl (by decide) (fun c => ?_) (fun c => ?_)
      · replace h := if_T c h
        refine x_iload_n F.1 (i := 40) rfl rfl ?_
        exact x_iretf F (i := 41) rfl rfl h hQ
      · replace h := if_F c h
        refine x_iconst F.1 (i := 12) rfl ic_0 ?_
        refine x_istore F.1 (i := 13) rfl (Nat.le_of_ble_eq_true rfl) (Nat.le_of_ble_eq_true rfl) rfl ?_
        exact x_wk F.1 ((t_RM_withLadders_l21 F hQ ih FU) _ _ _ _ h) ⟨rfl, rfl, rfl, rfl, rfl, trivial⟩
set_option maxHeartbeats 4000000 in
theorem t_RM_withLadders {w : kx_W} {d : Nat} {M : kx_M} {Q : Option Value → kx_M → Prop} {p1 : Int32} {r : Int32} {M' : kx_M} (h : f_RM_withLadders p1 M = some (r, M')) (hQ : Q (some (.int r)) M') : Ct w (d + 2) m_RM_withLadders [.ref 135, .int p1] M Q := by
  refine mk_ct ok_RM_withLadders (Nat.le_of_ble_eq_true rfl) (fun G F => ?_)
  rw [f_RM_withLadders] at h
  show G 0 [some (.ref 135), some (.int p1), none, none, none] [] M
  refine x_iload_n F.1 (i := 0) rfl rfl ?_
  refine x_istore_n F.1 (i := 1) rfl (Nat.le_of_ble_eq_true rfl) (Nat.le_of_ble_eq_true rfl) rfl ?_
  refine x_iconst F.1 (i := 2) rfl ic_1 ?_
  refine x_istore_n F.1 (i := 3) rfl (Nat.le_of_ble_eq_true rfl) (Nat.le_of_ble_eq_true rfl) rfl ?_
  exact x_wk F.1 ((t_RM_withLadders_l4 F (res := (r, M')) hQ FU) _ _ _ h) ⟨rfl, rfl, rfl, rfl, trivial⟩
set_option maxHeartbeats 4000000 in
theorem t_RM_goesYear_l97 {w : kx_W} {d : Nat} {Q : Option Value → kx_M → Prop} {G : Nat → List (Option Value) → List Value → kx_M → Prop} (F : Sd w (d + 3) m_RM_goesYear Q G) {k85 : Int32 → Int32 → kx_M → Option (Int32 × kx_M)} {res : Int32 × kx_M} (hQ : Q (some (.int res.1)) res.2) (hk85 : ∀ (x1 : Int32) (x2 : Int32) (M : kx_M), k85 x1 x2 M = some res → G 85 [some (.ref 135), some (.int x1), some (.int x2), none, none] [] M) :
    ∀ (n : Nat) (x1 : Int32) (x2 : Int32) (x3 : Int32) (M : kx_M),
    f_RM_goesYear_l97 k85 n x1 x2 x3 M = some res → G 97 [some (.ref 135), some (.int x1), some (.int x2), some (.int x3), none] [] M := by
  intro n
  induction n with
  | zero =>
    intro x1 x2 x3 M h
    exact absurd h (by rw [f_RM_goesYear_l97]; exact fun z => nomatch z)
  | succ n ih =>
    intro x1 x2 x3 M h
    rw [f_RM_goesYear_l97] at h
    refine x_iload_n F.1 (i := 61) rfl rfl ?_
    refine x_aload_n F.1 (i := 62) rfl rfl ?_
    refine x_getC F.1 (i := 63) rfl fl_RM_35 rfl (by rfl) ?_
    refine x_iconst F.1 (i := 64) rfl ic_0 ?_
    refine gd_e h (fun g1 h => ?_)
    refine x_iald F.1 (i := 65) rfl rfl (inb_e g1) ?_
    refine x_icmp_ge F.1 (i := 66) (tgt := 205) rfl (by decide) (fun c => ?_) (fun c => ?_)
    · replace h := if_T c h
      refine x_iinc F.1 (i := 117) rfl rfl rfl (Nat.le_of_ble_eq_true rfl) rfl ?_
      replace h := bd_e h
      refine x_goto F.1 (i := 118) (tgt := 85) rfl (by decide) ?_
      exact x_wk F.1 (hk85 _ _ _ h) ⟨rfl, rfl, rfl, trivial⟩
    · replace h := if_F c h
      refine x_iload_n F.1 (i := 67) rfl rfl ?_
      refine x_iload_n F.1 (i := 68) rfl rfl ?_
      refine cal_e h (fun r3 M1 e4 h => ?_)
      refine x_cS2i F.1 (i := 69) rfl ml_RM_303 ok_RM_place (Nat.le_of_ble_eq_true rfl) (Nat.le_of_ble_eq_true rfl) (fun _ => t_RM_place e4) ?_
      refine x_istore F.1 (i := 70) rfl (Nat.le_of_ble_eq_true rfl) (Nat.le_of_ble_eq_true rfl) rfl ?_
      refine x_aload_n F.1 (i := 71) rfl rfl ?_
      refine x_iload F.1 (i := 72) rfl rfl ?_
      refine cal_e h (fun r5 M2 e6 h => ?_)
      refine x_cV1i F.1 (i := 73) rfl ml_RM_351 ok_RM_isLoose rfl (Nat.le_of_ble_eq_true rfl) (Nat.le_of_ble_eq_true rfl) (fun _ => t_RM_isLoose e6) ?_
      refine x_if_ne F.1 (i := 74) (tgt := 126) rfl (by decide) (fun c => ?_) (fun c => ?_)
      · replace h := if_F c h
        refine x_aload_n F.1 (i := 76) rfl rfl ?_
        refine x_getC F.1 (i := 77) rfl fl_RM_35 rfl (by rfl) ?_
        refine x_sipush F.1 (i := 78) rfl sp_208 ?_
        refine x_iload F.1 (i := 79) rfl rfl ?_
        refine x_iadd F.1 (i := 80) rfl ?_
        refine x_bipush F.1 (i := 81) rfl bp_99 ?_
        refine x_aload_n F.1 (i := 82) rfl rfl ?_
        refine x_getC F.1 (i := 83) rfl fl_RM_35 rfl (by rfl) ?_
        refine x_sipush F.1 (i := 84) rfl sp_208 ?_
        refine x_iload F.1 (i := 85) rfl rfl ?_
        refine x_iadd F.1 (i := 86) rfl ?_
        refine gd_e h (fun g8 h => ?_)
        refine x_iald F.1 (i := 87) rfl rfl (inb_e g8) ?_
        refine x_aload_n F.1 (i := 88) rfl rfl ?_
        refine x_getC F.1 (i := 89) rfl fl_RM_47 rfl (by rfl) ?_
        refine x_iload F.1 (i := 90) rfl rfl ?_
        refine gd_e h (fun g9 h => ?_)
        refine x_iald F.1 (i := 91) rfl rfl (inb_e g9) ?_
        refine x_iadd F.1 (i := 92) rfl ?_
        refine x_mmin F.1 (i := 93) rfl jm_RM_357 (Nat.le_of_ble_eq_true rfl) ?_
        refine gd_e h (fun g10 h => ?_)
        refine x_iast F.1 (i := 94) rfl rfl (inb_e g10) ?_
        replace h := bd_e h
        refine x_aload_n F.1 (i := 95) rfl rfl ?_
        refine x_getC F.1 (i := 96) rfl fl_RM_35 rfl (by rfl) ?_
        refine x_sipush F.1 (i := 97) rfl sp_208 ?_
        refine x_iload F.1 (i := 98) rfl rfl ?_
        refine x_iadd F.1 (i := 99) rfl ?_
        refine gd_e h (fun g11 h => ?_)
        refine x_iald F.1 (i := 100) rfl rfl (inb_e g11) ?_
        refine x_aload_n F.1 (i := 101) rfl rfl ?_
        refine x_getC F.1 (i := 102) rfl fl_RM_35 rfl (by rfl) ?_
        refine x_iconst F.1 (i := 103) rfl ic_1 ?_
        refine gd_e h (fun g12 h => ?_)
        refine x_iald F.1 (i := 104) rfl rfl (inb_e g12) ?_
        refine x_icmp_ge F.1 (i := 105) (tgt := 184) rfl (by decide) (fun c => ?_) (fun c => ?_)
        · replace h := if_T c h
          refine x_aload_n F.1 (i := 107) rfl rfl ?_
          refine x_getC F.1 (i := 108) rfl fl_RM_35 rfl (by rfl) ?_
          refine x_sipush F.1 (i := 109) rfl sp_304 ?_
          refine x_iload F.1 (i := 110) rfl rfl ?_
          refine x_iadd F.1 (i := 111) rfl ?_
          refine x_iconst F.1 (i := 112) rfl ic_1 ?_
          refine gd_e h (fun g13 h => ?_)
          refine x_iast F.1 (i := 113) rfl rfl (inb_e g13) ?_
          replace h := bd_e h
          refine x_iinc F.1 (i := 114) rfl rfl rfl (Nat.le_of_ble_eq_true rfl) rfl ?_
          replace h := bd_e h
          refine x_iinc F.1 (i := 115) rfl rfl rfl (Nat.le_of_ble_eq_true rfl) rfl ?_
          replace h := bd_e h
          refine x_goto F.1 (i := 116) (tgt := 97) rfl (by decide) ?_
          exact x_wk F.1 (ih _ _ _ _ h) ⟨rfl, rfl, rfl, rfl, trivial⟩
        · replace h := if_F c h
          refine x_goto F.1 (i := 106) (tgt := 199) rfl (by decide) ?_
          refine x_iinc F.1 (i := 115) rfl rfl rfl (Nat.le_of_ble_eq_true rfl) rfl ?_
          replace h := bd_e h
          refine x_goto F.1 (i := 116) (tgt := 97) rfl (by decide) ?_
          exact x_wk F.1 (ih _ _ _ _ h) ⟨rfl, rfl, rfl, rfl, trivial⟩
      · replace h := if_T c h
        refine x_goto F.1 (i := 75) (tgt := 199) rfl (by decide) ?_
        refine x_iinc F.1 (i := 115) rfl rfl rfl (Nat.le_of_ble_eq_true rfl) rfl ?_
        replace h := bd_e h
        refine x_goto F.1 (i := 116) (tgt := 97) rfl (by decide) ?_
        exact x_wk F.1 (ih _ _ _ _ h) ⟨rfl, rfl, rfl, rfl, trivial⟩
set_option maxHeartbeats 4000000 in
theorem t_RM_goesYear_l85 {w : kx_W} {d : Nat} {Q : Option Value → kx_M → Prop} {G : Nat → List (Option Value) → List Value → kx_M → Prop} (F : Sd w (d + 3) m_RM_goesYear Q G) {res : Int32 × kx_M} (hQ : Q (some (.int res.1)) res.2) :
    ∀ (n : Nat) (x1 : Int32) (x2 : Int32) (M : kx_M),
    f_RM_goesYear_l85 n x1 x2 M = some res → G 85 [some (.ref 135), some (.int x1), some (.int x2), none, none] [] M := by
  intro n
  induction n with
  | zero =>
    intro x1 x2 M h
    exact absurd h (by rw [f_RM_goesYear_l85]; exact fun z => nomatch z)
  | succ n ih =>
    intro x1 x2 M h
    rw [f_RM_goesYear_l85] at h
    refine x_iload_n F.1 (i := 53) rfl rfl ?_
    refine x_aload_n F.1 (i := 54) rfl rfl ?_
    refine x_getC F.1 (i := 55) rfl fl_RM_35 rfl (by rfl) ?_
    refine x_iconst F.1 (i := 56) rfl ic_4 ?_
    refine gd_e h (fun g1 h => ?_)
    refine x_iald F.1 (i := 57) rfl rfl (inb_e g1) ?_
    refine x_icmp_ge F.1 (i := 58) (tgt := 211) rfl (by decide) (fun c => ?_) (fun c => ?_)
    · replace h := if_T c h
      refine x_aload_n F.1 (i := 119) rfl rfl ?_
      refine x_getC F.1 (i := 120) rfl fl_RM_35 rfl (by rfl) ?_
      refine x_iconst F.1 (i := 121) rfl ic_5 ?_
      refine x_dup2 F.1 (i := 122) rfl rfl rfl ?_
      refine gd_e h (fun g2 h => ?_)
      refine x_iald F.1 (i := 123) rfl rfl (inb_e g2) ?_
      refine x_iconst F.1 (i := 124) rfl ic_1 ?_
      refine x_iadd F.1 (i := 125) rfl ?_
      refine gd_e h (fun g3 h => ?_)
      refine x_iast F.1 (i := 126) rfl rfl (inb_e g3) ?_
      replace h := bd_e h
      refine x_aload_n F.1 (i := 127) rfl rfl ?_
      refine x_iload_n F.1 (i := 128) rfl rfl ?_
      refine cal_e h (fun r4 M2 e5 h => ?_)
      refine x_cV1i F.1 (i := 129) rfl ml_RM_348 ok_RM_withLadders rfl (Nat.le_of_ble_eq_true rfl) (Nat.le_of_ble_eq_true rfl) (fun _ => t_RM_withLadders e5) ?_
      exact x_iretf F (i := 130) rfl rfl h hQ
    · replace h := if_F c h
      refine x_iconst F.1 (i := 59) rfl ic_0 ?_
      refine x_istore_n F.1 (i := 60) rfl (Nat.le_of_ble_eq_true rfl) (Nat.le_of_ble_eq_true rfl) rfl ?_
      exact x_wk F.1 ((t_RM_goesYear_l97 F hQ ih FU) _ _ _ _ h) ⟨rfl, rfl, rfl, rfl, trivial⟩
set_option maxHeartbeats 4000000 in
theorem t_RM_goesYear_l14 {w : kx_W} {d : Nat} {Q : Option Value → kx_M → Prop} {G : Nat → List (Option Value) → List Value → kx_M → Prop} (F : Sd w (d + 3) m_RM_goesYear Q G) {k2 : Int32 → kx_M → Option (Int32 × kx_M)} {res : Int32 × kx_M} (hQ : Q (some (.int res.1)) res.2) (hk2 : ∀ (x1 : Int32) (M : kx_M), k2 x1 M = some res → G 2 [some (.ref 135), some (.int x1), none, none, none] [] M) :
    ∀ (n : Nat) (x1 : Int32) (x2 : Int32) (M : kx_M),
    f_RM_goesYear_l14 k2 n x1 x2 M = some res → G 14 [some (.ref 135), some (.int x1), some (.int x2), none, none] [] M := by
  intro n
  induction n with
  | zero =>
    intro x1 x2 M h
    exact absurd h (by rw [f_RM_goesYear_l14]; exact fun z => nomatch z)
  | succ n ih =>
    intro x1 x2 M h
    rw [f_RM_goesYear_l14] at h
    refine x_iload_n F.1 (i := 10) rfl rfl ?_
    refine x_aload_n F.1 (i := 11) rfl rfl ?_
    refine x_getC F.1 (i := 12) rfl fl_RM_35 rfl (by rfl) ?_
    refine x_iconst F.1 (i := 13) rfl ic_0 ?_
    refine gd_e h (fun g1 h => ?_)
    refine x_iald F.1 (i := 14) rfl rfl (inb_e g1) ?_
    refine x_icmp_ge F.1 (i := 15) (tgt := 75) rfl (by decide) (fun c => ?_) (fun c => ?_)
    · replace h := if_T c h
      refine x_iinc F.1 (i := 47) rfl rfl rfl (Nat.le_of_ble_eq_true rfl) rfl ?_
      replace h := bd_e h
      refine x_goto F.1 (i := 48) (tgt := 2) rfl (by decide) ?_
      exact x_wk F.1 (hk2 _ _ h) ⟨rfl, rfl, trivial⟩
    · replace h := if_F c h
      refine x_aload_n F.1 (i := 16) rfl rfl ?_
      refine x_getC F.1 (i := 17) rfl fl_RM_47 rfl (by rfl) ?_
      refine x_iload_n F.1 (i := 18) rfl rfl ?_
      refine x_iload_n F.1 (i := 19) rfl rfl ?_
      refine cal_e h (fun r3 M1 e4 h => ?_)
      refine x_cS2i F.1 (i := 20) rfl ml_RM_303 ok_RM_place (Nat.le_of_ble_eq_true rfl) (Nat.le_of_ble_eq_true rfl) (fun _ => t_RM_place e4) ?_
      refine x_aload_n F.1 (i := 21) rfl rfl ?_
      refine x_iload_n F.1 (i := 22) rfl rfl ?_
      refine x_iload_n F.1 (i := 23) rfl rfl ?_
      refine cal_e h (fun r5 M2 e6 h => ?_)
      refine x_cS2i F.1 (i := 24) rfl ml_RM_303 ok_RM_place (Nat.le_of_ble_eq_true rfl) (Nat.le_of_ble_eq_true rfl) (fun _ => t_RM_place e6) ?_
      refine cal_e h (fun r7 M3 e8 h => ?_)
      refine x_cV1i F.1 (i := 25) rfl ml_RM_351 ok_RM_isLoose rfl (Nat.le_of_ble_eq_true rfl) (Nat.le_of_ble_eq_true rfl) (fun _ => t_RM_isLoose e8) ?_
      refine x_if_eq F.1 (i := 26) (tgt := 67) rfl (by decide) (fun c => ?_) (fun c => ?_)
      · replace h := if_T c h
        refine x_iconst F.1 (i := 43) rfl ic_0 ?_
        refine gd_e h (fun g9 h => ?_)
        refine x_iast F.1 (i := 44) rfl rfl (inb_e g9) ?_
        replace h := bd_e h
        refine x_iinc F.1 (i := 45) rfl rfl rfl (Nat.le_of_ble_eq_true rfl) rfl ?_
        replace h := bd_e h
        refine x_goto F.1 (i := 46) (tgt := 14) rfl (by decide) ?_
        exact x_wk F.1 (ih _ _ _ h) ⟨rfl, rfl, rfl, trivial⟩
      · replace h := if_F c h
        refine x_iconst F.1 (i := 27) rfl ic_1 ?_
        refine x_aload_n F.1 (i := 28) rfl rfl ?_
        refine x_iload_n F.1 (i := 29) rfl rfl ?_
        refine x_iload_n F.1 (i := 30) rfl rfl ?_
        refine x_iconst F.1 (i := 31) rfl ic_1 ?_
        refine x_isub F.1 (i := 32) rfl ?_
        refine cal_e h (fun r11 M5 e12 h => ?_)
        refine x_cV2i F.1 (i := 33) rfl ml_RM_354 ok_RM_beside rfl (Nat.le_of_ble_eq_true rfl) (Nat.le_of_ble_eq_true rfl) (fun _ => t_RM_beside e12) ?_
        refine x_iadd F.1 (i := 34) rfl ?_
        refine x_aload_n F.1 (i := 35) rfl rfl ?_
        refine x_iload_n F.1 (i := 36) rfl rfl ?_
        refine x_iload_n F.1 (i := 37) rfl rfl ?_
        refine x_iconst F.1 (i := 38) rfl ic_1 ?_
        refine x_iadd F.1 (i := 39) rfl ?_
        refine cal_e h (fun r13 M6 e14 h => ?_)
        refine x_cV2i F.1 (i := 40) rfl ml_RM_354 ok_RM_beside rfl (Nat.le_of_ble_eq_true rfl) (Nat.le_of_ble_eq_true rfl) (fun _ => t_RM_beside e14) ?_
        refine x_iadd F.1 (i := 41) rfl ?_
        refine x_goto F.1 (i := 42) (tgt := 68) rfl (by decide) ?_
        refine gd_e h (fun g15 h => ?_)
        refine x_iast F.1 (i := 44) rfl rfl (inb_e g15) ?_
        replace h := bd_e h
        refine x_iinc F.1 (i := 45) rfl rfl rfl (Nat.le_of_ble_eq_true rfl) rfl ?_
        replace h := bd_e h
        refine x_goto F.1 (i := 46) (tgt := 14) rfl (by decide) ?_
        exact x_wk F.1 (ih _ _ _ h) ⟨rfl, rfl, rfl, trivial⟩
set_option maxHeartbeats 4000000 in
theorem t_RM_goesYear_l2 {w : kx_W} {d : Nat} {Q : Option Value → kx_M → Prop} {G : Nat → List (Option Value) → List Value → kx_M → Prop} (F : Sd w (d + 3) m_RM_goesYear Q G) {res : Int32 × kx_M} (hQ : Q (some (.int res.1)) res.2) :
    ∀ (n : Nat) (x1 : Int32) (M : kx_M),
    f_RM_goesYear_l2 n x1 M = some res → G 2 [some (.ref 135), some (.int x1), none, none, none] [] M := by
  intro n
  induction n with
  | zero =>
    intro x1 M h
    exact absurd h (by rw [f_RM_goesYear_l2]; exact fun z => nomatch z)
  | succ n ih =>
    intro x1 M h
    rw [f_RM_goesYear_l2] at h
    refine x_iload_n F.1 (i := 2) rfl rfl ?_
    refine x_aload_n F.1 (i := 3) rfl rfl ?_
    refine x_getC F.1 (i := 4) rfl fl_RM_35 rfl (by rfl) ?_
    refine x_iconst F.1 (i := 5) rfl ic_4 ?_
    refine gd_e h (fun g1 h => ?_)
    refine x_iald F.1 (i := 6) rfl rfl (inb_e g1) ?_
    refine x_icmp_ge F.1 (i := 7) (tgt := 81) rfl (by decide) (fun c => ?_) (fun c => ?_)
    · replace h := if_T c h
      refine x_iconst F.1 (i := 49) rfl ic_0 ?_
      refine x_istore_n F.1 (i := 50) rfl (Nat.le_of_ble_eq_true rfl) (Nat.le_of_ble_eq_true rfl) rfl ?_
      refine x_iconst F.1 (i := 51) rfl ic_0 ?_
      refine x_istore_n F.1 (i := 52) rfl (Nat.le_of_ble_eq_true rfl) (Nat.le_of_ble_eq_true rfl) rfl ?_
      exact x_wk F.1 ((t_RM_goesYear_l85 F hQ FU) _ _ _ h) ⟨rfl, rfl, rfl, trivial⟩
    · replace h := if_F c h
      refine x_iconst F.1 (i := 8) rfl ic_0 ?_
      refine x_istore_n F.1 (i := 9) rfl (Nat.le_of_ble_eq_true rfl) (Nat.le_of_ble_eq_true rfl) rfl ?_
      exact x_wk F.1 ((t_RM_goesYear_l14 F hQ ih FU) _ _ _ h) ⟨rfl, rfl, rfl, trivial⟩
set_option maxHeartbeats 4000000 in
theorem t_RM_goesYear {w : kx_W} {d : Nat} {M : kx_M} {Q : Option Value → kx_M → Prop} {r : Int32} {M' : kx_M} (h : f_RM_goesYear M = some (r, M')) (hQ : Q (some (.int r)) M') : Ct w (d + 3) m_RM_goesYear [.ref 135] M Q := by
  refine mk_ct ok_RM_goesYear (Nat.le_of_ble_eq_true rfl) (fun G F => ?_)
  rw [f_RM_goesYear] at h
  show G 0 [some (.ref 135), none, none, none, none] [] M
  refine x_iconst F.1 (i := 0) rfl ic_0 ?_
  refine x_istore_n F.1 (i := 1) rfl (Nat.le_of_ble_eq_true rfl) (Nat.le_of_ble_eq_true rfl) rfl ?_
  exact x_wk F.1 ((t_RM_goesYear_l2 F (res := (r, M')) hQ FU) _ _ h) ⟨rfl, rfl, trivial⟩
set_option maxHeartbeats 4000000 in
theorem t_RM_year_l53 {w : kx_W} {d : Nat} {Q : Option Value → kx_M → Prop} {G : Nat → List (Option Value) → List Value → kx_M → Prop} (F : Sd w (d + 4) m_RM_year Q G) {p1 : Int32} {res : Int32 × kx_M} (hQ : Q (some (.int res.1)) res.2) :
    ∀ (n : Nat) (x2 : Int32) (x3 : Int32) (M : kx_M),
    f_RM_year_l53 p1 n x2 x3 M = some res → G 53 [some (.ref 135), some (.int p1), some (.int x2), some (.int x3)] [] M := by
  intro n
  induction n with
  | zero =>
    intro x2 x3 M h
    exact absurd h (by rw [f_RM_year_l53]; exact fun z => nomatch z)
  | succ n ih =>
    intro x2 x3 M h
    rw [f_RM_year_l53] at h
    refine x_iload_n F.1 (i := 32) rfl rfl ?_
    refine x_iload_n F.1 (i := 33) rfl rfl ?_
    refine x_icmp_ge F.1 (i := 34) (tgt := 71) rfl (by decide) (fun c => ?_) (fun c => ?_)
    · replace h := if_T c h
      refine x_iload_n F.1 (i := 42) rfl rfl ?_
      exact x_iretf F (i := 43) rfl rfl h hQ
    · replace h := if_F c h
      refine x_iload_n F.1 (i := 35) rfl rfl ?_
      refine x_aload_n F.1 (i := 36) rfl rfl ?_
      refine cal_e h (fun r1 M1 e2 h => ?_)
      refine x_cV0i F.1 (i := 37) rfl ml_RM_362 ok_RM_goesYear rfl (Nat.le_of_ble_eq_true rfl) (Nat.le_of_ble_eq_true rfl) (fun _ => t_RM_goesYear e2) ?_
      refine x_iadd F.1 (i := 38) rfl ?_
      refine x_istore_n F.1 (i := 39) rfl (Nat.le_of_ble_eq_true rfl) (Nat.le_of_ble_eq_true rfl) rfl ?_
      replace h := bd_e h
      refine x_iinc F.1 (i := 40) rfl rfl rfl (Nat.le_of_ble_eq_true rfl) rfl ?_
      replace h := bd_e h
      refine x_goto F.1 (i := 41) (tgt := 53) rfl (by decide) ?_
      exact x_wk F.1 (ih _ _ _ h) ⟨rfl, rfl, rfl, rfl, trivial⟩
set_option maxHeartbeats 4000000 in
theorem t_RM_year {w : kx_W} {d : Nat} {M : kx_M} {Q : Option Value → kx_M → Prop} {p1 : Int32} {r : Int32} {M' : kx_M} (h : f_RM_year p1 M = some (r, M')) (hQ : Q (some (.int r)) M') : Ct w (d + 4) m_RM_year [.ref 135, .int p1] M Q := by
  refine mk_ct ok_RM_year (Nat.le_of_ble_eq_true rfl) (fun G F => ?_)
  rw [f_RM_year] at h
  show G 0 [some (.ref 135), some (.int p1), none, none] [] M
  refine x_aload_n F.1 (i := 0) rfl rfl ?_
  refine x_iconst F.1 (i := 1) rfl ic_0 ?_
  refine x_putI F.1 (i := 2) rfl fl_RM_68 pf_RM_thrown rfl (by rfl) ?_
  replace h := bd_e h
  refine x_aload_n F.1 (i := 3) rfl rfl ?_
  refine x_iconst F.1 (i := 4) rfl ic_0 ?_
  refine x_putI F.1 (i := 5) rfl fl_RM_71 pf_RM_status rfl (by rfl) ?_
  replace h := bd_e h
  refine x_iload_n F.1 (i := 6) rfl rfl ?_
  refine x_i2l F.1 (i := 7) rfl ?_
  refine x_lconst F.1 (i := 8) (v := 1) rfl rfl ?_
  refine x_ldc2_w F.1 (i := 9) rfl cl_RM_360 ?_
  refine cal_e h (fun r1 M3 e2 h => ?_)
  refine x_cS3i F.1 (i := 10) rfl ml_RM_103 ok_RM_isIn (Nat.le_of_ble_eq_true rfl) (Nat.le_of_ble_eq_true rfl) (fun _ => t_RM_isIn e2) ?_
  refine x_if_ne F.1 (i := 11) (tgt := 28) rfl (by decide) (fun c => ?_) (fun c => ?_)
  · replace h := if_F c h
    refine x_aload_n F.1 (i := 16) rfl rfl ?_
    refine x_getC F.1 (i := 17) rfl fl_RM_35 rfl (by rfl) ?_
    refine x_iconst F.1 (i := 18) rfl ic_5 ?_
    refine gd_e h (fun g5 h => ?_)
    refine x_iald F.1 (i := 19) rfl rfl (inb_e g5) ?_
    refine x_iload_n F.1 (i := 20) rfl rfl ?_
    refine x_iadd F.1 (i := 21) rfl ?_
    refine x_sipush F.1 (i := 22) rfl sp_9999 ?_
    refine x_icmp_le F.1 (i := 23) (tgt := 49) rfl (by decide) (fun c => ?_) (fun c => ?_)
    · replace h := if_T c h
      refine x_iconst F.1 (i := 28) rfl ic_0 ?_
      refine x_istore_n F.1 (i := 29) rfl (Nat.le_of_ble_eq_true rfl) (Nat.le_of_ble_eq_true rfl) rfl ?_
      refine x_iconst F.1 (i := 30) rfl ic_0 ?_
      refine x_istore_n F.1 (i := 31) rfl (Nat.le_of_ble_eq_true rfl) (Nat.le_of_ble_eq_true rfl) rfl ?_
      exact x_wk F.1 ((t_RM_year_l53 F (res := (r, M')) hQ FU) _ _ _ h) ⟨rfl, rfl, rfl, rfl, trivial⟩
    · replace h := if_F c h
      refine x_aload_n F.1 (i := 24) rfl rfl ?_
      refine x_bipush F.1 (i := 25) rfl bp_7 ?_
      refine cal_e h (fun r6 M5 e7 h => ?_)
      refine x_cV1i F.1 (i := 26) rfl ml_RM_321 ok_RM_refuse rfl (Nat.le_of_ble_eq_true rfl) (Nat.le_of_ble_eq_true rfl) (fun _ => t_RM_refuse e7) ?_
      exact x_iretf F (i := 27) rfl rfl h (res := (r, M')) hQ
  · replace h := if_T c h
    refine x_aload_n F.1 (i := 12) rfl rfl ?_
    refine x_iconst F.1 (i := 13) rfl ic_5 ?_
    refine cal_e h (fun r3 M4 e4 h => ?_)
    refine x_cV1i F.1 (i := 14) rfl ml_RM_321 ok_RM_refuse rfl (Nat.le_of_ble_eq_true rfl) (Nat.le_of_ble_eq_true rfl) (fun _ => t_RM_refuse e4) ?_
    exact x_iretf F (i := 15) rfl rfl h (res := (r, M')) hQ
set_option maxHeartbeats 4000000 in
theorem t_RM_isSide {w : kx_W} {d : Nat} {M : kx_M} {Q : Option Value → kx_M → Prop} {p0 : Int32} {r : Int32} {M' : kx_M} (h : f_RM_isSide p0 M = some (r, M')) (hQ : Q (some (.int r)) M') : Ct w d m_RM_isSide [.int p0] M Q := by
  refine mk_ct ok_RM_isSide (Nat.le_of_ble_eq_true rfl) (fun G F => ?_)
  rw [f_RM_isSide] at h
  show G 0 [some (.int p0)] [] M
  refine x_iload_n F.1 (i := 0) rfl rfl ?_
  refine x_if_eq F.1 (i := 1) (tgt := 9) rfl (by decide) (fun c => ?_) (fun c => ?_)
  · replace h := if_T c h
    refine x_iconst F.1 (i := 5) rfl ic_1 ?_
    refine x_goto F.1 (i := 6) (tgt := 14) rfl (by decide) ?_
    exact x_zretf F (i := 8) rfl rfl (Or.inr rfl) h (res := (r, M')) hQ
  · replace h := if_F c h
    refine x_iload_n F.1 (i := 2) rfl rfl ?_
    refine x_iconst F.1 (i := 3) rfl ic_1 ?_
    refine x_icmp_ne F.1 (i := 4) (tgt := 13) rfl (by decide) (fun c => ?_) (fun c => ?_)
    · replace h := if_F c h
      refine x_iconst F.1 (i := 7) rfl ic_0 ?_
      exact x_zretf F (i := 8) rfl rfl (Or.inl rfl) h (res := (r, M')) hQ
    · replace h := if_T c h
      refine x_iconst F.1 (i := 5) rfl ic_1 ?_
      refine x_goto F.1 (i := 6) (tgt := 14) rfl (by decide) ?_
      exact x_zretf F (i := 8) rfl rfl (Or.inr rfl) h (res := (r, M')) hQ
set_option maxHeartbeats 4000000 in
theorem t_RM_pulls_l37 {w : kx_W} {d : Nat} {Q : Option Value → kx_M → Prop} {G : Nat → List (Option Value) → List Value → kx_M → Prop} (F : Sd w (d + 3) m_RM_pulls Q G) {p1 : Int32} {p2 : Int32} {k5 : Int32 → Int32 → kx_M → Option (Int32 × kx_M)} {res : Int32 × kx_M} (hQ : Q (some (.int res.1)) res.2) (hk5 : ∀ (x3 : Int32) (x4 : Int32) (M : kx_M), k5 x3 x4 M = some res → G 5 [some (.ref 135), some (.int p1), some (.int p2), some (.int x3), some (.int x4), none] [] M) :
    ∀ (x3 : Int32) (x4 : Int32) (s0 : Int32) (s1 : Int32) (M : kx_M),
    f_RM_pulls_l37 p1 p2 k5 x3 x4 s0 s1 M = some res → G 37 [some (.ref 135), some (.int p1), some (.int p2), some (.int x3), some (.int x4), none] [.int s1, .int s0] M := by
  intro x3 x4 s0 s1 M h
  rw [f_RM_pulls_l37] at h
  refine cal_e h (fun r1 M1 e2 h => ?_)
  refine x_cS2i F.1 (i := 23) rfl ml_RM_303 ok_RM_place (Nat.le_of_ble_eq_true rfl) (Nat.le_of_ble_eq_true rfl) (fun _ => t_RM_place e2) ?_
  refine x_istore F.1 (i := 24) rfl (Nat.le_of_ble_eq_true rfl) (Nat.le_of_ble_eq_true rfl) rfl ?_
  refine x_aload_n F.1 (i := 25) rfl rfl ?_
  refine x_iload F.1 (i := 26) rfl rfl ?_
  refine cal_e h (fun r3 M2 e4 h => ?_)
  refine x_cV1i F.1 (i := 27) rfl ml_RM_306 ok_RM_isUndone rfl (Nat.le_of_ble_eq_true rfl) (Nat.le_of_ble_eq_true rfl) (fun _ => t_RM_isUndone e4) ?_
  refine x_if_eq F.1 (i := 28) (tgt := 54) rfl (by decide) (fun c => ?_) (fun c => ?_)
  · replace h := if_T c h
    refine x_aload_n F.1 (i := 30) rfl rfl ?_
    refine x_getC F.1 (i := 31) rfl fl_RM_35 rfl (by rfl) ?_
    refine x_sipush F.1 (i := 32) rfl sp_400 ?_
    refine x_iload F.1 (i := 33) rfl rfl ?_
    refine x_iadd F.1 (i := 34) rfl ?_
    refine gd_e h (fun g5 h => ?_)
    refine x_iald F.1 (i := 35) rfl rfl (inb_e g5) ?_
    refine x_iconst F.1 (i := 36) rfl ic_1 ?_
    refine x_icmp_eq F.1 (i := 37) (tgt := 83) rfl (by decide) (fun c => ?_) (fun c => ?_)
    · replace h := if_T c h
      refine x_aload_n F.1 (i := 46) rfl rfl ?_
      refine x_iload_n F.1 (i := 47) rfl rfl ?_
      refine cal_e h (fun r6 M3 e7 h => ?_)
      refine x_cV1i F.1 (i := 48) rfl ml_RM_348 ok_RM_withLadders rfl (Nat.le_of_ble_eq_true rfl) (Nat.le_of_ble_eq_true rfl) (fun _ => t_RM_withLadders e7) ?_
      exact x_iretf F (i := 49) rfl rfl h hQ
    · replace h := if_F c h
      refine x_aload_n F.1 (i := 38) rfl rfl ?_
      refine x_getC F.1 (i := 39) rfl fl_RM_35 rfl (by rfl) ?_
      refine x_bipush F.1 (i := 40) rfl bp_112 ?_
      refine x_iload F.1 (i := 41) rfl rfl ?_
      refine x_iadd F.1 (i := 42) rfl ?_
      refine gd_e h (fun g8 h => ?_)
      refine x_iald F.1 (i := 43) rfl rfl (inb_e g8) ?_
      refine x_iconst F.1 (i := 44) rfl ic_2 ?_
      refine x_icmp_ne F.1 (i := 45) (tgt := 89) rfl (by decide) (fun c => ?_) (fun c => ?_)
      · replace h := if_F c h
        refine x_aload_n F.1 (i := 50) rfl rfl ?_
        refine x_getC F.1 (i := 51) rfl fl_RM_35 rfl (by rfl) ?_
        refine x_sipush F.1 (i := 52) rfl sp_304 ?_
        refine x_iload F.1 (i := 53) rfl rfl ?_
        refine x_iadd F.1 (i := 54) rfl ?_
        refine x_iconst F.1 (i := 55) rfl ic_1 ?_
        refine gd_e h (fun g11 h => ?_)
        refine x_iast F.1 (i := 56) rfl rfl (inb_e g11) ?_
        replace h := bd_e h
        refine x_iinc F.1 (i := 57) rfl rfl rfl (Nat.le_of_ble_eq_true rfl) rfl ?_
        replace h := bd_e h
        refine x_iinc F.1 (i := 58) rfl rfl rfl (Nat.le_of_ble_eq_true rfl) rfl ?_
        replace h := bd_e h
        refine x_goto F.1 (i := 59) (tgt := 5) rfl (by decide) ?_
        exact x_wk F.1 (hk5 _ _ _ h) ⟨rfl, rfl, rfl, rfl, rfl, trivial⟩
      · replace h := if_T c h
        refine x_aload_n F.1 (i := 46) rfl rfl ?_
        refine x_iload_n F.1 (i := 47) rfl rfl ?_
        refine cal_e h (fun r9 M4 e10 h => ?_)
        refine x_cV1i F.1 (i := 48) rfl ml_RM_348 ok_RM_withLadders rfl (Nat.le_of_ble_eq_true rfl) (Nat.le_of_ble_eq_true rfl) (fun _ => t_RM_withLadders e10) ?_
        exact x_iretf F (i := 49) rfl rfl h hQ
  · replace h := if_F c h
    refine x_goto F.1 (i := 29) (tgt := 104) rfl (by decide) ?_
    refine x_iinc F.1 (i := 58) rfl rfl rfl (Nat.le_of_ble_eq_true rfl) rfl ?_
    replace h := bd_e h
    refine x_goto F.1 (i := 59) (tgt := 5) rfl (by decide) ?_
    exact x_wk F.1 (hk5 _ _ _ h) ⟨rfl, rfl, rfl, rfl, rfl, trivial⟩
set_option maxHeartbeats 4000000 in
theorem t_RM_pulls_l5 {w : kx_W} {d : Nat} {Q : Option Value → kx_M → Prop} {G : Nat → List (Option Value) → List Value → kx_M → Prop} (F : Sd w (d + 3) m_RM_pulls Q G) {p1 : Int32} {p2 : Int32} {res : Int32 × kx_M} (hQ : Q (some (.int res.1)) res.2) :
    ∀ (n : Nat) (x3 : Int32) (x4 : Int32) (M : kx_M),
    f_RM_pulls_l5 p1 p2 n x3 x4 M = some res → G 5 [some (.ref 135), some (.int p1), some (.int p2), some (.int x3), some (.int x4), none] [] M := by
  intro n
  induction n with
  | zero =>
    intro x3 x4 M h
    exact absurd h (by rw [f_RM_pulls_l5]; exact fun z => nomatch z)
  | succ n ih =>
    intro x3 x4 M h
    rw [f_RM_pulls_l5] at h
    refine x_iload F.1 (i := 4) rfl rfl ?_
    refine x_aload_n F.1 (i := 5) rfl rfl ?_
    refine x_getC F.1 (i := 6) rfl fl_RM_35 rfl (by rfl) ?_
    refine x_iconst F.1 (i := 7) rfl ic_0 ?_
    refine gd_e h (fun g1 h => ?_)
    refine x_iald F.1 (i := 8) rfl rfl (inb_e g1) ?_
    refine x_icmp_ge F.1 (i := 9) (tgt := 110) rfl (by decide) (fun c => ?_) (fun c => ?_)
    · replace h := if_T c h
      refine x_aload_n F.1 (i := 60) rfl rfl ?_
      refine x_iload_n F.1 (i := 61) rfl rfl ?_
      refine cal_e h (fun r2 M1 e3 h => ?_)
      refine x_cV1i F.1 (i := 62) rfl ml_RM_348 ok_RM_withLadders rfl (Nat.le_of_ble_eq_true rfl) (Nat.le_of_ble_eq_true rfl) (fun _ => t_RM_withLadders e3) ?_
      exact x_iretf F (i := 63) rfl rfl h hQ
    · replace h := if_F c h
      refine x_iload_n F.1 (i := 10) rfl rfl ?_
      refine x_iload_n F.1 (i := 11) rfl rfl ?_
      refine x_if_ne F.1 (i := 12) (tgt := 26) rfl (by decide) (fun c => ?_) (fun c => ?_)
      · replace h := if_F c h
        refine x_aload_n F.1 (i := 15) rfl rfl ?_
        refine x_getC F.1 (i := 16) rfl fl_RM_35 rfl (by rfl) ?_
        refine x_iconst F.1 (i := 17) rfl ic_0 ?_
        refine gd_e h (fun g4 h => ?_)
        refine x_iald F.1 (i := 18) rfl rfl (inb_e g4) ?_
        refine x_iconst F.1 (i := 19) rfl ic_1 ?_
        refine x_isub F.1 (i := 20) rfl ?_
        refine x_iload F.1 (i := 21) rfl rfl ?_
        refine x_isub F.1 (i := 22) rfl ?_
        exact x_wk F.1 ((t_RM_pulls_l37 F hQ ih) _ _ _ _ _ h) ⟨rfl, rfl, rfl, rfl, rfl, trivial⟩
      · replace h := if_T c h
        refine x_iload F.1 (i := 13) rfl rfl ?_
        refine x_goto F.1 (i := 14) (tgt := 37) rfl (by decide) ?_
        exact x_wk F.1 ((t_RM_pulls_l37 F hQ ih) _ _ _ _ _ h) ⟨rfl, rfl, rfl, rfl, rfl, trivial⟩
set_option maxHeartbeats 4000000 in
theorem t_RM_pulls {w : kx_W} {d : Nat} {M : kx_M} {Q : Option Value → kx_M → Prop} {p1 : Int32} {p2 : Int32} {r : Int32} {M' : kx_M} (h : f_RM_pulls p1 p2 M = some (r, M')) (hQ : Q (some (.int r)) M') : Ct w (d + 3) m_RM_pulls [.ref 135, .int p1, .int p2] M Q := by
  refine mk_ct ok_RM_pulls (Nat.le_of_ble_eq_true rfl) (fun G F => ?_)
  rw [f_RM_pulls] at h
  show G 0 [some (.ref 135), some (.int p1), some (.int p2), none, none, none] [] M
  refine x_iconst F.1 (i := 0) rfl ic_0 ?_
  refine x_istore_n F.1 (i := 1) rfl (Nat.le_of_ble_eq_true rfl) (Nat.le_of_ble_eq_true rfl) rfl ?_
  refine x_iconst F.1 (i := 2) rfl ic_0 ?_
  refine x_istore F.1 (i := 3) rfl (Nat.le_of_ble_eq_true rfl) (Nat.le_of_ble_eq_true rfl) rfl ?_
  exact x_wk F.1 ((t_RM_pulls_l5 F (res := (r, M')) hQ FU) _ _ _ h) ⟨rfl, rfl, rfl, rfl, rfl, trivial⟩
set_option maxHeartbeats 4000000 in
theorem t_RM_pull {w : kx_W} {d : Nat} {M : kx_M} {Q : Option Value → kx_M → Prop} {p1 : Int32} {p2 : Int32} {r : Int32} {M' : kx_M} (h : f_RM_pull p1 p2 M = some (r, M')) (hQ : Q (some (.int r)) M') : Ct w (d + 4) m_RM_pull [.ref 135, .int p1, .int p2] M Q := by
  refine mk_ct ok_RM_pull (Nat.le_of_ble_eq_true rfl) (fun G F => ?_)
  rw [f_RM_pull] at h
  show G 0 [some (.ref 135), some (.int p1), some (.int p2)] [] M
  refine x_aload_n F.1 (i := 0) rfl rfl ?_
  refine x_iconst F.1 (i := 1) rfl ic_0 ?_
  refine x_putI F.1 (i := 2) rfl fl_RM_68 pf_RM_thrown rfl (by rfl) ?_
  replace h := bd_e h
  refine x_aload_n F.1 (i := 3) rfl rfl ?_
  refine x_iconst F.1 (i := 4) rfl ic_0 ?_
  refine x_putI F.1 (i := 5) rfl fl_RM_71 pf_RM_status rfl (by rfl) ?_
  replace h := bd_e h
  refine x_aload_n F.1 (i := 6) rfl rfl ?_
  refine x_iload_n F.1 (i := 7) rfl rfl ?_
  refine cal_e h (fun r1 M3 e2 h => ?_)
  refine x_cV1i F.1 (i := 8) rfl ml_RM_330 ok_RM_isRowAt rfl (Nat.le_of_ble_eq_true rfl) (Nat.le_of_ble_eq_true rfl) (fun _ => t_RM_isRowAt e2) ?_
  refine x_if_ne F.1 (i := 9) (tgt := 24) rfl (by decide) (fun c => ?_) (fun c => ?_)
  · replace h := if_F c h
    refine x_iload_n F.1 (i := 14) rfl rfl ?_
    refine cal_e h (fun r5 M5 e6 h => ?_)
    refine x_cS1i F.1 (i := 15) rfl ml_RM_365 ok_RM_isSide (Nat.le_of_ble_eq_true rfl) (Nat.le_of_ble_eq_true rfl) (fun _ => t_RM_isSide e6) ?_
    refine x_if_eq F.1 (i := 16) (tgt := 40) rfl (by decide) (fun c => ?_) (fun c => ?_)
    · replace h := if_T c h
      refine x_aload_n F.1 (i := 22) rfl rfl ?_
      refine x_iconst F.1 (i := 23) rfl ic_5 ?_
      refine cal_e h (fun r7 M6 e8 h => ?_)
      refine x_cV1i F.1 (i := 24) rfl ml_RM_321 ok_RM_refuse rfl (Nat.le_of_ble_eq_true rfl) (Nat.le_of_ble_eq_true rfl) (fun _ => t_RM_refuse e8) ?_
      exact x_iretf F (i := 25) rfl rfl h (res := (r, M')) hQ
    · replace h := if_F c h
      refine x_aload_n F.1 (i := 17) rfl rfl ?_
      refine x_iload_n F.1 (i := 18) rfl rfl ?_
      refine x_iload_n F.1 (i := 19) rfl rfl ?_
      refine cal_e h (fun r9 M7 e10 h => ?_)
      refine x_cV2i F.1 (i := 20) rfl ml_RM_368 ok_RM_pulls rfl (Nat.le_of_ble_eq_true rfl) (Nat.le_of_ble_eq_true rfl) (fun _ => t_RM_pulls e10) ?_
      refine x_goto F.1 (i := 21) (tgt := 45) rfl (by decide) ?_
      exact x_iretf F (i := 25) rfl rfl h (res := (r, M')) hQ
  · replace h := if_T c h
    refine x_aload_n F.1 (i := 10) rfl rfl ?_
    refine x_iconst F.1 (i := 11) rfl ic_2 ?_
    refine cal_e h (fun r3 M4 e4 h => ?_)
    refine x_cV1i F.1 (i := 12) rfl ml_RM_321 ok_RM_refuse rfl (Nat.le_of_ble_eq_true rfl) (Nat.le_of_ble_eq_true rfl) (fun _ => t_RM_refuse e4) ?_
    exact x_iretf F (i := 13) rfl rfl h (res := (r, M')) hQ
set_option maxHeartbeats 4000000 in
theorem t_RM_eats {w : kx_W} {d : Nat} {M : kx_M} {Q : Option Value → kx_M → Prop} {p1 : Int32} {p2 : Int32} {r : Int32} {M' : kx_M} (h : f_RM_eats p1 p2 M = some (r, M')) (hQ : Q (some (.int r)) M') : Ct w (d + 3) m_RM_eats [.ref 135, .int p1, .int p2] M Q := by
  refine mk_ct ok_RM_eats (Nat.le_of_ble_eq_true rfl) (fun G F => ?_)
  rw [f_RM_eats] at h
  show G 0 [some (.ref 135), some (.int p1), some (.int p2)] [] M
  refine x_aload_n F.1 (i := 0) rfl rfl ?_
  refine x_iload_n F.1 (i := 1) rfl rfl ?_
  refine x_iload_n F.1 (i := 2) rfl rfl ?_
  refine cal_e h (fun r1 M1 e2 h => ?_)
  refine x_cS2i F.1 (i := 3) rfl ml_RM_303 ok_RM_place (Nat.le_of_ble_eq_true rfl) (Nat.le_of_ble_eq_true rfl) (fun _ => t_RM_place e2) ?_
  refine cal_e h (fun r3 M2 e4 h => ?_)
  refine x_cV1i F.1 (i := 4) rfl ml_RM_351 ok_RM_isLoose rfl (Nat.le_of_ble_eq_true rfl) (Nat.le_of_ble_eq_true rfl) (fun _ => t_RM_isLoose e4) ?_
  refine x_if_ne F.1 (i := 5) (tgt := 14) rfl (by decide) (fun c => ?_) (fun c => ?_)
  · replace h := if_F c h
    refine x_aload_n F.1 (i := 8) rfl rfl ?_
    refine x_getC F.1 (i := 9) rfl fl_RM_35 rfl (by rfl) ?_
    refine x_sipush F.1 (i := 10) rfl sp_304 ?_
    refine x_iload_n F.1 (i := 11) rfl rfl ?_
    refine x_iload_n F.1 (i := 12) rfl rfl ?_
    refine cal_e h (fun r5 M3 e6 h => ?_)
    refine x_cS2i F.1 (i := 13) rfl ml_RM_303 ok_RM_place (Nat.le_of_ble_eq_true rfl) (Nat.le_of_ble_eq_true rfl) (fun _ => t_RM_place e6) ?_
    refine x_iadd F.1 (i := 14) rfl ?_
    refine x_iconst F.1 (i := 15) rfl ic_1 ?_
    refine gd_e h (fun g7 h => ?_)
    refine x_iast F.1 (i := 16) rfl rfl (inb_e g7) ?_
    replace h := bd_e h
    refine x_aload_n F.1 (i := 17) rfl rfl ?_
    refine x_iconst F.1 (i := 18) rfl ic_1 ?_
    refine cal_e h (fun r8 M5 e9 h => ?_)
    refine x_cV1i F.1 (i := 19) rfl ml_RM_348 ok_RM_withLadders rfl (Nat.le_of_ble_eq_true rfl) (Nat.le_of_ble_eq_true rfl) (fun _ => t_RM_withLadders e9) ?_
    exact x_iretf F (i := 20) rfl rfl h (res := (r, M')) hQ
  · replace h := if_T c h
    refine x_iconst F.1 (i := 6) rfl ic_n1 ?_
    exact x_iretf F (i := 7) rfl rfl h (res := (r, M')) hQ
set_option maxHeartbeats 4000000 in
theorem t_RM_moth {w : kx_W} {d : Nat} {M : kx_M} {Q : Option Value → kx_M → Prop} {p1 : Int32} {p2 : Int32} {r : Int32} {M' : kx_M} (h : f_RM_moth p1 p2 M = some (r, M')) (hQ : Q (some (.int r)) M') : Ct w (d + 4) m_RM_moth [.ref 135, .int p1, .int p2] M Q := by
  refine mk_ct ok_RM_moth (Nat.le_of_ble_eq_true rfl) (fun G F => ?_)
  rw [f_RM_moth] at h
  show G 0 [some (.ref 135), some (.int p1), some (.int p2), none] [] M
  refine x_aload_n F.1 (i := 0) rfl rfl ?_
  refine x_iconst F.1 (i := 1) rfl ic_0 ?_
  refine x_putI F.1 (i := 2) rfl fl_RM_68 pf_RM_thrown rfl (by rfl) ?_
  replace h := bd_e h
  refine x_aload_n F.1 (i := 3) rfl rfl ?_
  refine x_iconst F.1 (i := 4) rfl ic_0 ?_
  refine x_putI F.1 (i := 5) rfl fl_RM_71 pf_RM_status rfl (by rfl) ?_
  replace h := bd_e h
  refine x_aload_n F.1 (i := 6) rfl rfl ?_
  refine x_iload_n F.1 (i := 7) rfl rfl ?_
  refine cal_e h (fun r1 M3 e2 h => ?_)
  refine x_cV1i F.1 (i := 8) rfl ml_RM_330 ok_RM_isRowAt rfl (Nat.le_of_ble_eq_true rfl) (Nat.le_of_ble_eq_true rfl) (fun _ => t_RM_isRowAt e2) ?_
  refine x_if_eq F.1 (i := 9) (tgt := 26) rfl (by decide) (fun c => ?_) (fun c => ?_)
  · replace h := if_T c h
    refine x_aload_n F.1 (i := 14) rfl rfl ?_
    refine x_iconst F.1 (i := 15) rfl ic_2 ?_
    refine cal_e h (fun r3 M4 e4 h => ?_)
    refine x_cV1i F.1 (i := 16) rfl ml_RM_321 ok_RM_refuse rfl (Nat.le_of_ble_eq_true rfl) (Nat.le_of_ble_eq_true rfl) (fun _ => t_RM_refuse e4) ?_
    exact x_iretf F (i := 17) rfl rfl h (res := (r, M')) hQ
  · replace h := if_F c h
    refine x_aload_n F.1 (i := 10) rfl rfl ?_
    refine x_iload_n F.1 (i := 11) rfl rfl ?_
    refine cal_e h (fun r5 M5 e6 h => ?_)
    refine x_cV1i F.1 (i := 12) rfl ml_RM_333 ok_RM_isColumn rfl (Nat.le_of_ble_eq_true rfl) (Nat.le_of_ble_eq_true rfl) (fun _ => t_RM_isColumn e6) ?_
    refine x_if_ne F.1 (i := 13) (tgt := 32) rfl (by decide) (fun c => ?_) (fun c => ?_)
    · replace h := if_F c h
      refine x_aload_n F.1 (i := 18) rfl rfl ?_
      refine x_iload_n F.1 (i := 19) rfl rfl ?_
      refine x_iload_n F.1 (i := 20) rfl rfl ?_
      refine cal_e h (fun r9 M7 e10 h => ?_)
      refine x_cV2i F.1 (i := 21) rfl ml_RM_371 ok_RM_eats rfl (Nat.le_of_ble_eq_true rfl) (Nat.le_of_ble_eq_true rfl) (fun _ => t_RM_eats e10) ?_
      refine x_istore_n F.1 (i := 22) rfl (Nat.le_of_ble_eq_true rfl) (Nat.le_of_ble_eq_true rfl) rfl ?_
      refine x_iload_n F.1 (i := 23) rfl rfl ?_
      refine x_if_ge F.1 (i := 24) (tgt := 52) rfl (by decide) (fun c => ?_) (fun c => ?_)
      · replace h := if_T c h
        refine x_iload_n F.1 (i := 29) rfl rfl ?_
        exact x_iretf F (i := 30) rfl rfl h (res := (r, M')) hQ
      · replace h := if_F c h
        refine x_aload_n F.1 (i := 25) rfl rfl ?_
        refine x_bipush F.1 (i := 26) rfl bp_9 ?_
        refine cal_e h (fun r11 M8 e12 h => ?_)
        refine x_cV1i F.1 (i := 27) rfl ml_RM_321 ok_RM_refuse rfl (Nat.le_of_ble_eq_true rfl) (Nat.le_of_ble_eq_true rfl) (fun _ => t_RM_refuse e12) ?_
        refine x_goto F.1 (i := 28) (tgt := 53) rfl (by decide) ?_
        exact x_iretf F (i := 30) rfl rfl h (res := (r, M')) hQ
    · replace h := if_T c h
      refine x_aload_n F.1 (i := 14) rfl rfl ?_
      refine x_iconst F.1 (i := 15) rfl ic_2 ?_
      refine cal_e h (fun r7 M6 e8 h => ?_)
      refine x_cV1i F.1 (i := 16) rfl ml_RM_321 ok_RM_refuse rfl (Nat.le_of_ble_eq_true rfl) (Nat.le_of_ble_eq_true rfl) (fun _ => t_RM_refuse e8) ?_
      exact x_iretf F (i := 17) rfl rfl h (res := (r, M')) hQ
set_option maxHeartbeats 4000000 in
theorem t_RM_darns {w : kx_W} {d : Nat} {M : kx_M} {Q : Option Value → kx_M → Prop} {p1 : Int32} {r : Int32} {M' : kx_M} (h : f_RM_darns p1 M = some (r, M')) (hQ : Q (some (.int r)) M') : Ct w d m_RM_darns [.ref 135, .int p1] M Q := by
  refine mk_ct ok_RM_darns (Nat.le_of_ble_eq_true rfl) (fun G F => ?_)
  rw [f_RM_darns] at h
  show G 0 [some (.ref 135), some (.int p1), none] [] M
  refine x_aload_n F.1 (i := 0) rfl rfl ?_
  refine x_getC F.1 (i := 1) rfl fl_RM_35 rfl (by rfl) ?_
  refine x_sipush F.1 (i := 2) rfl sp_208 ?_
  refine x_iload_n F.1 (i := 3) rfl rfl ?_
  refine x_iadd F.1 (i := 4) rfl ?_
  refine gd_e h (fun g1 h => ?_)
  refine x_iald F.1 (i := 5) rfl rfl (inb_e g1) ?_
  refine x_istore_n F.1 (i := 6) rfl (Nat.le_of_ble_eq_true rfl) (Nat.le_of_ble_eq_true rfl) rfl ?_
  replace h := bd_e h
  refine x_aload_n F.1 (i := 7) rfl rfl ?_
  refine x_getC F.1 (i := 8) rfl fl_RM_35 rfl (by rfl) ?_
  refine x_sipush F.1 (i := 9) rfl sp_208 ?_
  refine x_iload_n F.1 (i := 10) rfl rfl ?_
  refine x_iadd F.1 (i := 11) rfl ?_
  refine x_iconst F.1 (i := 12) rfl ic_0 ?_
  refine gd_e h (fun g3 h => ?_)
  refine x_iast F.1 (i := 13) rfl rfl (inb_e g3) ?_
  replace h := bd_e h
  refine x_aload_n F.1 (i := 14) rfl rfl ?_
  refine x_getC F.1 (i := 15) rfl fl_RM_35 rfl (by rfl) ?_
  refine x_sipush F.1 (i := 16) rfl sp_304 ?_
  refine x_iload_n F.1 (i := 17) rfl rfl ?_
  refine x_iadd F.1 (i := 18) rfl ?_
  refine x_iconst F.1 (i := 19) rfl ic_0 ?_
  refine gd_e h (fun g4 h => ?_)
  refine x_iast F.1 (i := 20) rfl rfl (inb_e g4) ?_
  replace h := bd_e h
  refine x_aload_n F.1 (i := 21) rfl rfl ?_
  refine x_getC F.1 (i := 22) rfl fl_RM_35 rfl (by rfl) ?_
  refine x_sipush F.1 (i := 23) rfl sp_400 ?_
  refine x_iload_n F.1 (i := 24) rfl rfl ?_
  refine x_iadd F.1 (i := 25) rfl ?_
  refine x_iconst F.1 (i := 26) rfl ic_1 ?_
  refine gd_e h (fun g5 h => ?_)
  refine x_iast F.1 (i := 27) rfl rfl (inb_e g5) ?_
  replace h := bd_e h
  refine x_iload_n F.1 (i := 28) rfl rfl ?_
  exact x_iretf F (i := 29) rfl rfl h (res := (r, M')) hQ
set_option maxHeartbeats 4000000 in
theorem t_RM_darn {w : kx_W} {d : Nat} {M : kx_M} {Q : Option Value → kx_M → Prop} {p1 : Int32} {p2 : Int32} {r : Int32} {M' : kx_M} (h : f_RM_darn p1 p2 M = some (r, M')) (hQ : Q (some (.int r)) M') : Ct w (d + 2) m_RM_darn [.ref 135, .int p1, .int p2] M Q := by
  refine mk_ct ok_RM_darn (Nat.le_of_ble_eq_true rfl) (fun G F => ?_)
  rw [f_RM_darn] at h
  show G 0 [some (.ref 135), some (.int p1), some (.int p2)] [] M
  refine x_aload_n F.1 (i := 0) rfl rfl ?_
  refine x_iconst F.1 (i := 1) rfl ic_0 ?_
  refine x_putI F.1 (i := 2) rfl fl_RM_68 pf_RM_thrown rfl (by rfl) ?_
  replace h := bd_e h
  refine x_aload_n F.1 (i := 3) rfl rfl ?_
  refine x_iconst F.1 (i := 4) rfl ic_0 ?_
  refine x_putI F.1 (i := 5) rfl fl_RM_71 pf_RM_status rfl (by rfl) ?_
  replace h := bd_e h
  refine x_aload_n F.1 (i := 6) rfl rfl ?_
  refine x_iload_n F.1 (i := 7) rfl rfl ?_
  refine cal_e h (fun r1 M3 e2 h => ?_)
  refine x_cV1i F.1 (i := 8) rfl ml_RM_330 ok_RM_isRowAt rfl (Nat.le_of_ble_eq_true rfl) (Nat.le_of_ble_eq_true rfl) (fun _ => t_RM_isRowAt e2) ?_
  refine x_if_eq F.1 (i := 9) (tgt := 26) rfl (by decide) (fun c => ?_) (fun c => ?_)
  · replace h := if_T c h
    refine x_aload_n F.1 (i := 14) rfl rfl ?_
    refine x_iconst F.1 (i := 15) rfl ic_2 ?_
    refine cal_e h (fun r3 M4 e4 h => ?_)
    refine x_cV1i F.1 (i := 16) rfl ml_RM_321 ok_RM_refuse rfl (Nat.le_of_ble_eq_true rfl) (Nat.le_of_ble_eq_true rfl) (fun _ => t_RM_refuse e4) ?_
    exact x_iretf F (i := 17) rfl rfl h (res := (r, M')) hQ
  · replace h := if_F c h
    refine x_aload_n F.1 (i := 10) rfl rfl ?_
    refine x_iload_n F.1 (i := 11) rfl rfl ?_
    refine cal_e h (fun r5 M5 e6 h => ?_)
    refine x_cV1i F.1 (i := 12) rfl ml_RM_333 ok_RM_isColumn rfl (Nat.le_of_ble_eq_true rfl) (Nat.le_of_ble_eq_true rfl) (fun _ => t_RM_isColumn e6) ?_
    refine x_if_ne F.1 (i := 13) (tgt := 32) rfl (by decide) (fun c => ?_) (fun c => ?_)
    · replace h := if_F c h
      refine x_aload_n F.1 (i := 18) rfl rfl ?_
      refine x_iload_n F.1 (i := 19) rfl rfl ?_
      refine x_iload_n F.1 (i := 20) rfl rfl ?_
      refine cal_e h (fun r9 M7 e10 h => ?_)
      refine x_cS2i F.1 (i := 21) rfl ml_RM_303 ok_RM_place (Nat.le_of_ble_eq_true rfl) (Nat.le_of_ble_eq_true rfl) (fun _ => t_RM_place e10) ?_
      refine cal_e h (fun r11 M8 e12 h => ?_)
      refine x_cV1i F.1 (i := 22) rfl ml_RM_374 ok_RM_darns rfl (Nat.le_of_ble_eq_true rfl) (Nat.le_of_ble_eq_true rfl) (fun _ => t_RM_darns e12) ?_
      exact x_iretf F (i := 23) rfl rfl h (res := (r, M')) hQ
    · replace h := if_T c h
      refine x_aload_n F.1 (i := 14) rfl rfl ?_
      refine x_iconst F.1 (i := 15) rfl ic_2 ?_
      refine cal_e h (fun r7 M6 e8 h => ?_)
      refine x_cV1i F.1 (i := 16) rfl ml_RM_321 ok_RM_refuse rfl (Nat.le_of_ble_eq_true rfl) (Nat.le_of_ble_eq_true rfl) (fun _ => t_RM_refuse e8) ?_
      exact x_iretf F (i := 17) rfl rfl h (res := (r, M')) hQ
set_option maxHeartbeats 4000000 in
theorem t_RM_numberOf {w : kx_W} {d : Nat} {M : kx_M} {Q : Option Value → kx_M → Prop} {p1 : Int32} {p2 : Int32} {r : Int64} {M' : kx_M} (h : f_RM_numberOf p1 p2 M = some (r, M')) (hQ : Q (some (.long r)) M') : Ct w d m_RM_numberOf [.ref 135, .int p1, .int p2] M Q := by
  refine mk_ct ok_RM_numberOf (Nat.le_of_ble_eq_true rfl) (fun G F => ?_)
  rw [f_RM_numberOf] at h
  show G 0 [some (.ref 135), some (.int p1), some (.int p2)] [] M
  refine x_aload_n F.1 (i := 0) rfl rfl ?_
  refine x_getC F.1 (i := 1) rfl fl_RM_20 rfl (by rfl) ?_
  refine x_bipush F.1 (i := 2) rfl bp_60 ?_
  refine x_iload_n F.1 (i := 3) rfl rfl ?_
  refine x_imul F.1 (i := 4) rfl ?_
  refine x_iload_n F.1 (i := 5) rfl rfl ?_
  refine x_iadd F.1 (i := 6) rfl ?_
  refine gd_e h (fun g1 h => ?_)
  refine x_lald F.1 (i := 7) rfl rfl (inb_e g1) ?_
  exact x_lretf F (i := 8) rfl rfl h (res := (r, M')) hQ
set_option maxHeartbeats 4000000 in
theorem t_RM_whyNoRun_l30 {w : kx_W} {d : Nat} {Q : Option Value → kx_M → Prop} {G : Nat → List (Option Value) → List Value → kx_M → Prop} (F : Sd w (d + 1) m_RM_whyNoRun Q G) {p1 : Int32} {p2 : Int32} {res : Int32 × kx_M} (hQ : Q (some (.int res.1)) res.2) :
    ∀ (n : Nat) (x3 : Int32) (M : kx_M),
    f_RM_whyNoRun_l30 p1 p2 n x3 M = some res → G 30 [some (.ref 135), some (.int p1), some (.int p2), some (.int x3)] [] M := by
  intro n
  induction n with
  | zero =>
    intro x3 M h
    exact absurd h (by rw [f_RM_whyNoRun_l30]; exact fun z => nomatch z)
  | succ n ih =>
    intro x3 M h
    rw [f_RM_whyNoRun_l30] at h
    refine x_iload_n F.1 (i := 20) rfl rfl ?_
    refine x_aload_n F.1 (i := 21) rfl rfl ?_
    refine x_getC F.1 (i := 22) rfl fl_RM_35 rfl (by rfl) ?_
    refine x_iconst F.1 (i := 23) rfl ic_0 ?_
    refine gd_e h (fun g1 h => ?_)
    refine x_iald F.1 (i := 24) rfl rfl (inb_e g1) ?_
    refine x_icmp_ge F.1 (i := 25) (tgt := 65) rfl (by decide) (fun c => ?_) (fun c => ?_)
    · replace h := if_T c h
      refine x_iconst F.1 (i := 39) rfl ic_0 ?_
      exact x_iretf F (i := 40) rfl rfl h hQ
    · replace h := if_F c h
      refine x_aload_n F.1 (i := 26) rfl rfl ?_
      refine x_iload_n F.1 (i := 27) rfl rfl ?_
      refine x_iload_n F.1 (i := 28) rfl rfl ?_
      refine cal_e h (fun r2 M1 e3 h => ?_)
      refine x_cV2l F.1 (i := 29) rfl ml_RM_377 ok_RM_numberOf rfl (Nat.le_of_ble_eq_true rfl) (Nat.le_of_ble_eq_true rfl) (fun _ => t_RM_numberOf e3) ?_
      refine x_iload_n F.1 (i := 30) rfl rfl ?_
      refine x_i2l F.1 (i := 31) rfl ?_
      refine x_ldc2_w F.1 (i := 32) rfl cl_RM_101 ?_
      refine cal_e h (fun r4 M2 e5 h => ?_)
      refine x_cS3i F.1 (i := 33) rfl ml_RM_103 ok_RM_isIn (Nat.le_of_ble_eq_true rfl) (Nat.le_of_ble_eq_true rfl) (fun _ => t_RM_isIn e5) ?_
      refine x_if_ne F.1 (i := 34) (tgt := 59) rfl (by decide) (fun c => ?_) (fun c => ?_)
      · replace h := if_F c h
        refine x_iinc F.1 (i := 37) rfl rfl rfl (Nat.le_of_ble_eq_true rfl) rfl ?_
        replace h := bd_e h
        refine x_goto F.1 (i := 38) (tgt := 30) rfl (by decide) ?_
        exact x_wk F.1 (ih _ _ h) ⟨rfl, rfl, rfl, rfl, trivial⟩
      · replace h := if_T c h
        refine x_iconst F.1 (i := 35) rfl ic_5 ?_
        exact x_iretf F (i := 36) rfl rfl h hQ
set_option maxHeartbeats 4000000 in
theorem t_RM_whyNoRun {w : kx_W} {d : Nat} {M : kx_M} {Q : Option Value → kx_M → Prop} {p1 : Int32} {p2 : Int32} {r : Int32} {M' : kx_M} (h : f_RM_whyNoRun p1 p2 M = some (r, M')) (hQ : Q (some (.int r)) M') : Ct w (d + 1) m_RM_whyNoRun [.ref 135, .int p1, .int p2] M Q := by
  refine mk_ct ok_RM_whyNoRun (Nat.le_of_ble_eq_true rfl) (fun G F => ?_)
  rw [f_RM_whyNoRun] at h
  show G 0 [some (.ref 135), some (.int p1), some (.int p2), none] [] M
  refine x_aload_n F.1 (i := 0) rfl rfl ?_
  refine x_getC F.1 (i := 1) rfl fl_RM_17 rfl (by rfl) ?_
  refine x_iload_n F.1 (i := 2) rfl rfl ?_
  refine gd_e h (fun g1 h => ?_)
  refine x_iald F.1 (i := 3) rfl rfl (inb_e g1) ?_
  refine x_if_ge F.1 (i := 4) (tgt := 11) rfl (by decide) (fun c => ?_) (fun c => ?_)
  · replace h := if_T c h
    refine x_aload_n F.1 (i := 7) rfl rfl ?_
    refine x_getC F.1 (i := 8) rfl fl_RM_17 rfl (by rfl) ?_
    refine x_iload_n F.1 (i := 9) rfl rfl ?_
    refine gd_e h (fun g2 h => ?_)
    refine x_iald F.1 (i := 10) rfl rfl (inb_e g2) ?_
    refine x_aload_n F.1 (i := 11) rfl rfl ?_
    refine x_getC F.1 (i := 12) rfl fl_RM_35 rfl (by rfl) ?_
    refine x_iconst F.1 (i := 13) rfl ic_0 ?_
    refine gd_e h (fun g3 h => ?_)
    refine x_iald F.1 (i := 14) rfl rfl (inb_e g3) ?_
    refine x_icmp_ge F.1 (i := 15) (tgt := 28) rfl (by decide) (fun c => ?_) (fun c => ?_)
    · replace h := if_T c h
      refine x_iconst F.1 (i := 18) rfl ic_0 ?_
      refine x_istore_n F.1 (i := 19) rfl (Nat.le_of_ble_eq_true rfl) (Nat.le_of_ble_eq_true rfl) rfl ?_
      exact x_wk F.1 ((t_RM_whyNoRun_l30 F (res := (r, M')) hQ FU) _ _ h) ⟨rfl, rfl, rfl, rfl, trivial⟩
    · replace h := if_F c h
      refine x_iconst F.1 (i := 16) rfl ic_4 ?_
      exact x_iretf F (i := 17) rfl rfl h (res := (r, M')) hQ
  · replace h := if_F c h
    refine x_iconst F.1 (i := 5) rfl ic_3 ?_
    exact x_iretf F (i := 6) rfl rfl h (res := (r, M')) hQ
set_option maxHeartbeats 4000000 in
theorem t_RM_takes {w : kx_W} {d : Nat} {M : kx_M} {Q : Option Value → kx_M → Prop} {p0 : Int32} {r : Int32} {M' : kx_M} (h : f_RM_takes p0 M = some (r, M')) (hQ : Q (some (.int r)) M') : Ct w d m_RM_takes [.int p0] M Q := by
  refine mk_ct ok_RM_takes (Nat.le_of_ble_eq_true rfl) (fun G F => ?_)
  rw [f_RM_takes] at h
  show G 0 [some (.int p0)] [] M
  refine x_iload_n F.1 (i := 0) rfl rfl ?_
  refine x_iconst F.1 (i := 1) rfl ic_3 ?_
  refine x_icmp_ne F.1 (i := 2) (tgt := 9) rfl (by decide) (fun c => ?_) (fun c => ?_)
  · replace h := if_F c h
    refine x_iload_n F.1 (i := 5) rfl rfl ?_
    refine x_iconst F.1 (i := 6) rfl ic_2 ?_
    refine x_icmp_ne F.1 (i := 7) (tgt := 18) rfl (by decide) (fun c => ?_) (fun c => ?_)
    · replace h := if_F c h
      refine x_iconst F.1 (i := 10) rfl ic_1 ?_
      exact x_iretf F (i := 11) rfl rfl h (res := (r, M')) hQ
    · replace h := if_T c h
      refine x_iconst F.1 (i := 8) rfl ic_2 ?_
      refine x_goto F.1 (i := 9) (tgt := 19) rfl (by decide) ?_
      exact x_iretf F (i := 11) rfl rfl h (res := (r, M')) hQ
  · replace h := if_T c h
    refine x_iconst F.1 (i := 3) rfl ic_0 ?_
    refine x_goto F.1 (i := 4) (tgt := 19) rfl (by decide) ?_
    exact x_iretf F (i := 11) rfl rfl h (res := (r, M')) hQ
set_option maxHeartbeats 4000000 in
theorem t_RM_takesAll_l4 {w : kx_W} {d : Nat} {Q : Option Value → kx_M → Prop} {G : Nat → List (Option Value) → List Value → kx_M → Prop} (F : Sd w (d + 1) m_RM_takesAll Q G) {p1 : Int32} {res : Int32 × kx_M} (hQ : Q (some (.int res.1)) res.2) :
    ∀ (n : Nat) (x2 : Int32) (x3 : Int32) (M : kx_M),
    f_RM_takesAll_l4 p1 n x2 x3 M = some res → G 4 [some (.ref 135), some (.int p1), some (.int x2), some (.int x3)] [] M := by
  intro n
  induction n with
  | zero =>
    intro x2 x3 M h
    exact absurd h (by rw [f_RM_takesAll_l4]; exact fun z => nomatch z)
  | succ n ih =>
    intro x2 x3 M h
    rw [f_RM_takesAll_l4] at h
    refine x_iload_n F.1 (i := 4) rfl rfl ?_
    refine x_aload_n F.1 (i := 5) rfl rfl ?_
    refine x_getC F.1 (i := 6) rfl fl_RM_35 rfl (by rfl) ?_
    refine x_iconst F.1 (i := 7) rfl ic_0 ?_
    refine gd_e h (fun g1 h => ?_)
    refine x_iald F.1 (i := 8) rfl rfl (inb_e g1) ?_
    refine x_icmp_ge F.1 (i := 9) (tgt := 33) rfl (by decide) (fun c => ?_) (fun c => ?_)
    · replace h := if_T c h
      refine x_iload_n F.1 (i := 21) rfl rfl ?_
      exact x_iretf F (i := 22) rfl rfl h hQ
    · replace h := if_F c h
      refine x_iload_n F.1 (i := 10) rfl rfl ?_
      refine x_aload_n F.1 (i := 11) rfl rfl ?_
      refine x_iload_n F.1 (i := 12) rfl rfl ?_
      refine x_iload_n F.1 (i := 13) rfl rfl ?_
      refine cal_e h (fun r2 M1 e3 h => ?_)
      refine x_cV2l F.1 (i := 14) rfl ml_RM_377 ok_RM_numberOf rfl (Nat.le_of_ble_eq_true rfl) (Nat.le_of_ble_eq_true rfl) (fun _ => t_RM_numberOf e3) ?_
      refine x_l2i F.1 (i := 15) rfl ?_
      refine cal_e h (fun r4 M2 e5 h => ?_)
      refine x_cS1i F.1 (i := 16) rfl ml_RM_381 ok_RM_takes (Nat.le_of_ble_eq_true rfl) (Nat.le_of_ble_eq_true rfl) (fun _ => t_RM_takes e5) ?_
      refine x_iadd F.1 (i := 17) rfl ?_
      refine x_istore_n F.1 (i := 18) rfl (Nat.le_of_ble_eq_true rfl) (Nat.le_of_ble_eq_true rfl) rfl ?_
      replace h := bd_e h
      refine x_iinc F.1 (i := 19) rfl rfl rfl (Nat.le_of_ble_eq_true rfl) rfl ?_
      replace h := bd_e h
      refine x_goto F.1 (i := 20) (tgt := 4) rfl (by decide) ?_
      exact x_wk F.1 (ih _ _ _ h) ⟨rfl, rfl, rfl, rfl, trivial⟩
set_option maxHeartbeats 4000000 in
theorem t_RM_takesAll {w : kx_W} {d : Nat} {M : kx_M} {Q : Option Value → kx_M → Prop} {p1 : Int32} {r : Int32} {M' : kx_M} (h : f_RM_takesAll p1 M = some (r, M')) (hQ : Q (some (.int r)) M') : Ct w (d + 1) m_RM_takesAll [.ref 135, .int p1] M Q := by
  refine mk_ct ok_RM_takesAll (Nat.le_of_ble_eq_true rfl) (fun G F => ?_)
  rw [f_RM_takesAll] at h
  show G 0 [some (.ref 135), some (.int p1), none, none] [] M
  refine x_iconst F.1 (i := 0) rfl ic_0 ?_
  refine x_istore_n F.1 (i := 1) rfl (Nat.le_of_ble_eq_true rfl) (Nat.le_of_ble_eq_true rfl) rfl ?_
  refine x_iconst F.1 (i := 2) rfl ic_0 ?_
  refine x_istore_n F.1 (i := 3) rfl (Nat.le_of_ble_eq_true rfl) (Nat.le_of_ble_eq_true rfl) rfl ?_
  exact x_wk F.1 ((t_RM_takesAll_l4 F (res := (r, M')) hQ FU) _ _ _ h) ⟨rfl, rfl, rfl, rfl, trivial⟩
