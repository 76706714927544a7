set_option maxHeartbeats 4000000 in
theorem t_RM_knit_l137 {w : kx_W} {d : Nat} {Q : Option Value → kx_M → Prop} {G : Nat → List (Option Value) → List Value → kx_M → Prop} (F : Sd w (d + 2) m_RM_knit Q G) {p1 : Int32} {p2 : Int32} {res : Int32 × kx_M} (hQ : Q (some (.int res.1)) res.2) :
    ∀ (n : Nat) (x5 : Int32) (x6 : Int32) (M : kx_M),
    f_RM_knit_l137 p1 p2 n x5 x6 M = some res → G 137 [some (.ref 135), none, some (.int p2), none, none, some (.int x5), some (.int x6), none] [] M := by
  intro n
  induction n with
  | zero =>
    intro x5 x6 M h
    exact absurd h (by rw [f_RM_knit_l137]; exact fun z => nomatch z)
  | succ n ih =>
    intro x5 x6 M h
    rw [f_RM_knit_l137] at h
    refine x_iload F.1 (i := 83) rfl rfl ?_
    refine x_aload_n F.1 (i := 84) rfl rfl ?_
    refine x_getC F.1 (i := 85) rfl fl_RM_35 rfl (by rfl) ?_
    refine x_iconst F.1 (i := 86) rfl ic_0 ?_
    refine gd_e h (fun g1 h => ?_)
    refine x_iald F.1 (i := 87) rfl rfl (inb_e g1) ?_
    refine x_icmp_ge F.1 (i := 88) (tgt := 217) rfl (by decide) (fun c => ?_) (fun c => ?_)
    · replace h := if_T c h
      refine x_aload_n F.1 (i := 127) rfl rfl ?_
      refine x_getC F.1 (i := 128) rfl fl_RM_35 rfl (by rfl) ?_
      refine x_iconst F.1 (i := 129) rfl ic_4 ?_
      refine x_dup2 F.1 (i := 130) rfl rfl rfl ?_
      refine gd_e h (fun g2 h => ?_)
      refine x_iald F.1 (i := 131) rfl rfl (inb_e g2) ?_
      refine x_iconst F.1 (i := 132) rfl ic_1 ?_
      refine x_iadd F.1 (i := 133) rfl ?_
      refine gd_e h (fun g3 h => ?_)
      refine x_iast F.1 (i := 134) rfl rfl (inb_e g3) ?_
      replace h := bd_e h
      refine x_aload_n F.1 (i := 135) rfl rfl ?_
      refine x_getC F.1 (i := 136) rfl fl_RM_35 rfl (by rfl) ?_
      refine x_iconst F.1 (i := 137) rfl ic_4 ?_
      refine gd_e h (fun g4 h => ?_)
      refine x_iald F.1 (i := 138) rfl rfl (inb_e g4) ?_
      exact x_iretf F (i := 139) rfl rfl h hQ
    · replace h := if_F c h
      refine x_iload F.1 (i := 89) rfl rfl ?_
      refine x_iload F.1 (i := 90) rfl rfl ?_
      refine cal_e h (fun r5 M2 e6 h => ?_)
      refine x_cS2i F.1 (i := 91) rfl ml_RM_303 ok_RM_place (Nat.le_of_ble_eq_true rfl) (Nat.le_of_ble_eq_true rfl) (fun _ => t_RM_place e6) ?_
      refine x_istore F.1 (i := 92) rfl (Nat.le_of_ble_eq_true rfl) (Nat.le_of_ble_eq_true rfl) rfl ?_
      refine x_aload_n F.1 (i := 93) rfl rfl ?_
      refine x_getC F.1 (i := 94) rfl fl_RM_35 rfl (by rfl) ?_
      refine x_bipush F.1 (i := 95) rfl bp_112 ?_
      refine x_iload F.1 (i := 96) rfl rfl ?_
      refine x_iadd F.1 (i := 97) rfl ?_
      refine x_aload_n F.1 (i := 98) rfl rfl ?_
      refine x_iload_n F.1 (i := 99) rfl rfl ?_
      refine x_iload F.1 (i := 100) rfl rfl ?_
      refine cal_e h (fun r7 M3 e8 h => ?_)
      refine x_cV2l F.1 (i := 101) rfl ml_RM_377 ok_RM_numberOf rfl (Nat.le_of_ble_eq_true rfl) (Nat.le_of_ble_eq_true rfl) (fun _ => t_RM_numberOf e8) ?_
      refine x_l2i F.1 (i := 102) rfl ?_
      refine gd_e h (fun g9 h => ?_)
      refine x_iast F.1 (i := 103) rfl rfl (inb_e g9) ?_
      replace h := bd_e h
      refine x_aload_n F.1 (i := 104) rfl rfl ?_
      refine x_getC F.1 (i := 105) rfl fl_RM_35 rfl (by rfl) ?_
      refine x_sipush F.1 (i := 106) rfl sp_208 ?_
      refine x_iload F.1 (i := 107) rfl rfl ?_
      refine x_iadd F.1 (i := 108) rfl ?_
      refine x_iconst F.1 (i := 109) rfl ic_0 ?_
      refine gd_e h (fun g10 h => ?_)
      refine x_iast F.1 (i := 110) rfl rfl (inb_e g10) ?_
      replace h := bd_e h
      refine x_aload_n F.1 (i := 111) rfl rfl ?_
      refine x_getC F.1 (i := 112) rfl fl_RM_35 rfl (by rfl) ?_
      refine x_sipush F.1 (i := 113) rfl sp_304 ?_
      refine x_iload F.1 (i := 114) rfl rfl ?_
      refine x_iadd F.1 (i := 115) rfl ?_
      refine x_iconst F.1 (i := 116) rfl ic_0 ?_
      refine gd_e h (fun g11 h => ?_)
      refine x_iast F.1 (i := 117) rfl rfl (inb_e g11) ?_
      replace h := bd_e h
      refine x_aload_n F.1 (i := 118) rfl rfl ?_
      refine x_getC F.1 (i := 119) rfl fl_RM_35 rfl (by rfl) ?_
      refine x_sipush F.1 (i := 120) rfl sp_400 ?_
      refine x_iload F.1 (i := 121) rfl rfl ?_
      refine x_iadd F.1 (i := 122) rfl ?_
      refine x_iconst F.1 (i := 123) rfl ic_0 ?_
      refine gd_e h (fun g12 h => ?_)
      refine x_iast F.1 (i := 124) rfl rfl (inb_e g12) ?_
      replace h := bd_e h
      refine x_iinc F.1 (i := 125) rfl rfl rfl (Nat.le_of_ble_eq_true rfl) rfl ?_
      replace h := bd_e h
      refine x_goto F.1 (i := 126) (tgt := 137) rfl (by decide) ?_
      exact x_wk F.1 (ih _ _ _ h) ⟨rfl, rfl, rfl, rfl, trivial⟩
set_option maxHeartbeats 4000000 in
theorem t_RM_knit {w : kx_W} {d : Nat} {M : kx_M} {Q : Option Value → kx_M → Prop} {p1 : Int32} {p2 : Int32} {r : Int32} {M' : kx_M} (h : f_RM_knit p1 p2 M = some (r, M')) (hQ : Q (some (.int r)) M') : Ct w (d + 2) m_RM_knit [.ref 135, .int p1, .int p2] M Q := by
  refine mk_ct ok_RM_knit (Nat.le_of_ble_eq_true rfl) (fun G F => ?_)
  rw [f_RM_knit] at h
  show G 0 [some (.ref 135), some (.int p1), some (.int p2), none, none, none, none, none] [] M
  refine x_aload_n F.1 (i := 0) rfl rfl ?_
  refine x_iconst F.1 (i := 1) rfl ic_0 ?_
  refine x_putI F.1 (i := 2) rfl fl_RM_68 pf_RM_thrown rfl (by rfl) ?_
  replace h := bd_e h
  refine x_aload_n F.1 (i := 3) rfl rfl ?_
  refine x_iconst F.1 (i := 4) rfl ic_0 ?_
  refine x_putI F.1 (i := 5) rfl fl_RM_71 pf_RM_status rfl (by rfl) ?_
  replace h := bd_e h
  refine x_aload_n F.1 (i := 6) rfl rfl ?_
  refine x_iload_n F.1 (i := 7) rfl rfl ?_
  refine cal_e h (fun r1 M3 e2 h => ?_)
  refine x_cV1i F.1 (i := 8) rfl ml_RM_342 ok_RM_isTray rfl (Nat.le_of_ble_eq_true rfl) (Nat.le_of_ble_eq_true rfl) (fun _ => t_RM_isTray e2) ?_
  refine x_if_ne F.1 (i := 9) (tgt := 24) rfl (by decide) (fun c => ?_) (fun c => ?_)
  · replace h := if_F c h
    refine x_aload_n F.1 (i := 14) rfl rfl ?_
    refine x_iload_n F.1 (i := 15) rfl rfl ?_
    refine cal_e h (fun r5 M5 e6 h => ?_)
    refine x_cV1i F.1 (i := 16) rfl ml_RM_336 ok_RM_isQueenAt rfl (Nat.le_of_ble_eq_true rfl) (Nat.le_of_ble_eq_true rfl) (fun _ => t_RM_isQueenAt e6) ?_
    refine x_if_ne F.1 (i := 17) (tgt := 38) rfl (by decide) (fun c => ?_) (fun c => ?_)
    · replace h := if_F c h
      refine x_aload_n F.1 (i := 22) rfl rfl ?_
      refine x_iload_n F.1 (i := 23) rfl rfl ?_
      refine x_iconst F.1 (i := 24) rfl ic_0 ?_
      refine cal_e h (fun r9 M7 e10 h => ?_)
      refine x_cV2i F.1 (i := 25) rfl ml_RM_384 ok_RM_whyNoRun rfl (Nat.le_of_ble_eq_true rfl) (Nat.le_of_ble_eq_true rfl) (fun _ => t_RM_whyNoRun e10) ?_
      refine x_istore_n F.1 (i := 26) rfl (Nat.le_of_ble_eq_true rfl) (Nat.le_of_ble_eq_true rfl) rfl ?_
      refine x_iload_n F.1 (i := 27) rfl rfl ?_
      refine x_if_le F.1 (i := 28) (tgt := 55) rfl (by decide) (fun c => ?_) (fun c => ?_)
      · replace h := if_T c h
        refine x_aload_n F.1 (i := 33) rfl rfl ?_
        refine x_getC F.1 (i := 34) rfl fl_RM_35 rfl (by rfl) ?_
        refine x_iconst F.1 (i := 35) rfl ic_4 ?_
        refine gd_e h (fun g11 h => ?_)
        refine x_iald F.1 (i := 36) rfl rfl (inb_e g11) ?_
        refine x_bipush F.1 (i := 37) rfl bp_12 ?_
        refine x_icmp_ne F.1 (i := 38) (tgt := 73) rfl (by decide) (fun c => ?_) (fun c => ?_)
        · replace h := if_F c h
          refine x_aload_n F.1 (i := 43) rfl rfl ?_
          refine x_iload_n F.1 (i := 44) rfl rfl ?_
          refine cal_e h (fun r14 M9 e15 h => ?_)
          refine x_cV1i F.1 (i := 45) rfl ml_RM_387 ok_RM_takesAll rfl (Nat.le_of_ble_eq_true rfl) (Nat.le_of_ble_eq_true rfl) (fun _ => t_RM_takesAll e15) ?_
          refine x_istore F.1 (i := 46) rfl (Nat.le_of_ble_eq_true rfl) (Nat.le_of_ble_eq_true rfl) rfl ?_
          refine x_iload F.1 (i := 47) rfl rfl ?_
          refine x_aload_n F.1 (i := 48) rfl rfl ?_
          refine x_getC F.1 (i := 49) rfl fl_RM_35 rfl (by rfl) ?_
          refine x_bipush F.1 (i := 50) rfl bp_6 ?_
          refine x_iload_n F.1 (i := 51) rfl rfl ?_
          refine x_iadd F.1 (i := 52) rfl ?_
          refine gd_e h (fun g16 h => ?_)
          refine x_iald F.1 (i := 53) rfl rfl (inb_e g16) ?_
          refine x_icmp_le F.1 (i := 54) (tgt := 101) rfl (by decide) (fun c => ?_) (fun c => ?_)
          · replace h := if_T c h
            refine x_aload_n F.1 (i := 59) rfl rfl ?_
            refine x_getC F.1 (i := 60) rfl fl_RM_35 rfl (by rfl) ?_
            refine x_iconst F.1 (i := 61) rfl ic_4 ?_
            refine gd_e h (fun g17 h => ?_)
            refine x_iald F.1 (i := 62) rfl rfl (inb_e g17) ?_
            refine x_istore F.1 (i := 63) rfl (Nat.le_of_ble_eq_true rfl) (Nat.le_of_ble_eq_true rfl) rfl ?_
            replace h := bd_e h
            refine x_aload_n F.1 (i := 64) rfl rfl ?_
            refine x_getC F.1 (i := 65) rfl fl_RM_35 rfl (by rfl) ?_
            refine x_bipush F.1 (i := 66) rfl bp_6 ?_
            refine x_iload_n F.1 (i := 67) rfl rfl ?_
            refine x_iadd F.1 (i := 68) rfl ?_
            refine x_dup2 F.1 (i := 69) rfl rfl rfl ?_
            refine gd_e h (fun g19 h => ?_)
            refine x_iald F.1 (i := 70) rfl rfl (inb_e g19) ?_
            refine x_iload F.1 (i := 71) rfl rfl ?_
            refine x_isub F.1 (i := 72) rfl ?_
            refine gd_e h (fun g20 h => ?_)
            refine x_iast F.1 (i := 73) rfl rfl (inb_e g20) ?_
            replace h := bd_e h
            refine x_aload_n F.1 (i := 74) rfl rfl ?_
            refine x_getC F.1 (i := 75) rfl fl_RM_35 rfl (by rfl) ?_
            refine x_bipush F.1 (i := 76) rfl bp_100 ?_
            refine x_iload F.1 (i := 77) rfl rfl ?_
            refine x_iadd F.1 (i := 78) rfl ?_
            refine x_iload_n F.1 (i := 79) rfl rfl ?_
            refine gd_e h (fun g21 h => ?_)
            refine x_iast F.1 (i := 80) rfl rfl (inb_e g21) ?_
            replace h := bd_e h
            refine x_iconst F.1 (i := 81) rfl ic_0 ?_
            refine x_istore F.1 (i := 82) rfl (Nat.le_of_ble_eq_true rfl) (Nat.le_of_ble_eq_true rfl) rfl ?_
            exact x_wk F.1 ((t_RM_knit_l137 F (res := (r, M')) hQ FU) _ _ _ h) ⟨rfl, rfl, rfl, rfl, trivial⟩
          · replace h := if_F c h
            refine x_aload_n F.1 (i := 55) rfl rfl ?_
            refine x_bipush F.1 (i := 56) rfl bp_9 ?_
            refine cal_e h (fun r22 M12 e23 h => ?_)
            refine x_cV1i F.1 (i := 57) rfl ml_RM_321 ok_RM_refuse rfl (Nat.le_of_ble_eq_true rfl) (Nat.le_of_ble_eq_true rfl) (fun _ => t_RM_refuse e23) ?_
            exact x_iretf F (i := 58) rfl rfl h (res := (r, M')) hQ
        · replace h := if_T c h
          refine x_aload_n F.1 (i := 39) rfl rfl ?_
          refine x_bipush F.1 (i := 40) rfl bp_7 ?_
          refine cal_e h (fun r12 M8 e13 h => ?_)
          refine x_cV1i F.1 (i := 41) rfl ml_RM_321 ok_RM_refuse rfl (Nat.le_of_ble_eq_true rfl) (Nat.le_of_ble_eq_true rfl) (fun _ => t_RM_refuse e13) ?_
          exact x_iretf F (i := 42) rfl rfl h (res := (r, M')) hQ
      · replace h := if_F c h
        refine x_aload_n F.1 (i := 29) rfl rfl ?_
        refine x_iload_n F.1 (i := 30) rfl rfl ?_
        refine cal_e h (fun r24 M13 e25 h => ?_)
        refine x_cV1i F.1 (i := 31) rfl ml_RM_321 ok_RM_refuse rfl (Nat.le_of_ble_eq_true rfl) (Nat.le_of_ble_eq_true rfl) (fun _ => t_RM_refuse e25) ?_
        exact x_iretf F (i := 32) rfl rfl h (res := (r, M')) hQ
    · replace h := if_T c h
      refine x_aload_n F.1 (i := 18) rfl rfl ?_
      refine x_iconst F.1 (i := 19) rfl ic_2 ?_
      refine cal_e h (fun r7 M6 e8 h => ?_)
      refine x_cV1i F.1 (i := 20) rfl ml_RM_321 ok_RM_refuse rfl (Nat.le_of_ble_eq_true rfl) (Nat.le_of_ble_eq_true rfl) (fun _ => t_RM_refuse e8) ?_
      exact x_iretf F (i := 21) rfl rfl h (res := (r, M')) hQ
  · replace h := if_T c h
    refine x_aload_n F.1 (i := 10) rfl rfl ?_
    refine x_iconst F.1 (i := 11) rfl ic_1 ?_
    refine cal_e h (fun r3 M4 e4 h => ?_)
    refine x_cV1i F.1 (i := 12) rfl ml_RM_321 ok_RM_refuse rfl (Nat.le_of_ble_eq_true rfl) (Nat.le_of_ble_eq_true rfl) (fun _ => t_RM_refuse e4) ?_
    exact x_iretf F (i := 13) rfl rfl h (res := (r, M')) hQ
set_option maxHeartbeats 4000000 in
theorem t_RM_unravel_l140 {w : kx_W} {d : Nat} {Q : Option Value → kx_M → Prop} {G : Nat → List (Option Value) → List Value → kx_M → Prop} (F : Sd w (d + 1) m_RM_unravel Q G) {res : Int32 × kx_M} (hQ : Q (some (.int res.1)) res.2) :
    ∀ (n : Nat) (x1 : Int32) (x3 : Int32) (M : kx_M),
    f_RM_unravel_l140 n x1 x3 M = some res → G 140 [some (.ref 135), some (.int x1), none, some (.int x3)] [] M := by
  intro n
  induction n with
  | zero =>
    intro x1 x3 M h
    exact absurd h (by rw [f_RM_unravel_l140]; exact fun z => nomatch z)
  | succ n ih =>
    intro x1 x3 M h
    rw [f_RM_unravel_l140] at h
    refine x_iload_n F.1 (i := 86) rfl rfl ?_
    refine x_aload_n F.1 (i := 87) rfl rfl ?_
    refine x_getC F.1 (i := 88) rfl fl_RM_35 rfl (by rfl) ?_
    refine x_iconst F.1 (i := 89) rfl ic_0 ?_
    refine gd_e h (fun g1 h => ?_)
    refine x_iald F.1 (i := 90) rfl rfl (inb_e g1) ?_
    refine x_icmp_ge F.1 (i := 91) (tgt := 186) rfl (by decide) (fun c => ?_) (fun c => ?_)
    · replace h := if_T c h
      refine x_iload_n F.1 (i := 112) rfl rfl ?_
      exact x_iretf F (i := 113) rfl rfl h hQ
    · replace h := if_F c h
      refine x_aload_n F.1 (i := 92) rfl rfl ?_
      refine x_getC F.1 (i := 93) rfl fl_RM_35 rfl (by rfl) ?_
      refine x_sipush F.1 (i := 94) rfl sp_304 ?_
      refine x_iload_n F.1 (i := 95) rfl rfl ?_
      refine x_iload_n F.1 (i := 96) rfl rfl ?_
      refine cal_e h (fun r2 M1 e3 h => ?_)
      refine x_cS2i F.1 (i := 97) rfl ml_RM_303 ok_RM_place (Nat.le_of_ble_eq_true rfl) (Nat.le_of_ble_eq_true rfl) (fun _ => t_RM_place e3) ?_
      refine x_iadd F.1 (i := 98) rfl ?_
      refine x_iconst F.1 (i := 99) rfl ic_0 ?_
      refine gd_e h (fun g4 h => ?_)
      refine x_iast F.1 (i := 100) rfl rfl (inb_e g4) ?_
      replace h := bd_e h
      refine x_aload_n F.1 (i := 101) rfl rfl ?_
      refine x_getC F.1 (i := 102) rfl fl_RM_35 rfl (by rfl) ?_
      refine x_sipush F.1 (i := 103) rfl sp_400 ?_
      refine x_iload_n F.1 (i := 104) rfl rfl ?_
      refine x_iload_n F.1 (i := 105) rfl rfl ?_
      refine cal_e h (fun r5 M3 e6 h => ?_)
      refine x_cS2i F.1 (i := 106) rfl ml_RM_303 ok_RM_place (Nat.le_of_ble_eq_true rfl) (Nat.le_of_ble_eq_true rfl) (fun _ => t_RM_place e6) ?_
      refine x_iadd F.1 (i := 107) rfl ?_
      refine x_iconst F.1 (i := 108) rfl ic_0 ?_
      refine gd_e h (fun g7 h => ?_)
      refine x_iast F.1 (i := 109) rfl rfl (inb_e g7) ?_
      replace h := bd_e h
      refine x_iinc F.1 (i := 110) rfl rfl rfl (Nat.le_of_ble_eq_true rfl) rfl ?_
      replace h := bd_e h
      refine x_goto F.1 (i := 111) (tgt := 140) rfl (by decide) ?_
      exact x_wk F.1 (ih _ _ _ h) ⟨rfl, rfl, rfl, trivial⟩
set_option maxHeartbeats 4000000 in
theorem t_RM_unravel_l63 {w : kx_W} {d : Nat} {Q : Option Value → kx_M → Prop} {G : Nat → List (Option Value) → List Value → kx_M → Prop} (F : Sd w (d + 1) m_RM_unravel Q G) {res : Int32 × kx_M} (hQ : Q (some (.int res.1)) res.2) :
    ∀ (n : Nat) (x1 : Int32) (x2 : Int32) (x3 : Int32) (M : kx_M),
    f_RM_unravel_l63 n x1 x2 x3 M = some res → G 63 [some (.ref 135), some (.int x1), some (.int x2), some (.int x3)] [] M := by
  intro n
  induction n with
  | zero =>
    intro x1 x2 x3 M h
    exact absurd h (by rw [f_RM_unravel_l63]; exact fun z => nomatch z)
  | succ n ih =>
    intro x1 x2 x3 M h
    rw [f_RM_unravel_l63] at h
    refine x_iload_n F.1 (i := 42) rfl rfl ?_
    refine x_aload_n F.1 (i := 43) rfl rfl ?_
    refine x_getC F.1 (i := 44) rfl fl_RM_35 rfl (by rfl) ?_
    refine x_iconst F.1 (i := 45) rfl ic_0 ?_
    refine gd_e h (fun g1 h => ?_)
    refine x_iald F.1 (i := 46) rfl rfl (inb_e g1) ?_
    refine x_icmp_ge F.1 (i := 47) (tgt := 114) rfl (by decide) (fun c => ?_) (fun c => ?_)
    · replace h := if_T c h
      refine x_aload_n F.1 (i := 70) rfl rfl ?_
      refine x_getC F.1 (i := 71) rfl fl_RM_35 rfl (by rfl) ?_
      refine x_bipush F.1 (i := 72) rfl bp_6 ?_
      refine x_aload_n F.1 (i := 73) rfl rfl ?_
      refine x_getC F.1 (i := 74) rfl fl_RM_35 rfl (by rfl) ?_
      refine x_bipush F.1 (i := 75) rfl bp_100 ?_
      refine x_iload_n F.1 (i := 76) rfl rfl ?_
      refine x_iadd F.1 (i := 77) rfl ?_
      refine gd_e h (fun g2 h => ?_)
      refine x_iald F.1 (i := 78) rfl rfl (inb_e g2) ?_
      refine x_iadd F.1 (i := 79) rfl ?_
      refine x_sipush F.1 (i := 80) rfl sp_999 ?_
      refine x_iload_n F.1 (i := 81) rfl rfl ?_
      refine x_mmin F.1 (i := 82) rfl jm_RM_357 (Nat.le_of_ble_eq_true rfl) ?_
      refine gd_e h (fun g3 h => ?_)
      refine x_iast F.1 (i := 83) rfl rfl (inb_e g3) ?_
      replace h := bd_e h
      refine x_iconst F.1 (i := 84) rfl ic_0 ?_
      refine x_istore_n F.1 (i := 85) rfl (Nat.le_of_ble_eq_true rfl) (Nat.le_of_ble_eq_true rfl) rfl ?_
      exact x_wk F.1 ((t_RM_unravel_l140 F hQ FU) _ _ _ h) ⟨rfl, rfl, rfl, trivial⟩
    · replace h := if_F c h
      refine x_iload_n F.1 (i := 48) rfl rfl ?_
      refine x_aload_n F.1 (i := 49) rfl rfl ?_
      refine x_iload_n F.1 (i := 50) rfl rfl ?_
      refine x_iload_n F.1 (i := 51) rfl rfl ?_
      refine cal_e h (fun r4 M2 e5 h => ?_)
      refine x_cS2i F.1 (i := 52) rfl ml_RM_303 ok_RM_place (Nat.le_of_ble_eq_true rfl) (Nat.le_of_ble_eq_true rfl) (fun _ => t_RM_place e5) ?_
      refine cal_e h (fun r6 M3 e7 h => ?_)
      refine x_cV1i F.1 (i := 53) rfl ml_RM_306 ok_RM_isUndone rfl (Nat.le_of_ble_eq_true rfl) (Nat.le_of_ble_eq_true rfl) (fun _ => t_RM_isUndone e7) ?_
      refine x_if_eq F.1 (i := 54) (tgt := 90) rfl (by decide) (fun c => ?_) (fun c => ?_)
      · replace h := if_T c h
        refine x_aload_n F.1 (i := 57) rfl rfl ?_
        refine x_getC F.1 (i := 58) rfl fl_RM_35 rfl (by rfl) ?_
        refine x_bipush F.1 (i := 59) rfl bp_112 ?_
        refine x_iload_n F.1 (i := 60) rfl rfl ?_
        refine x_iload_n F.1 (i := 61) rfl rfl ?_
        refine cal_e h (fun r8 M4 e9 h => ?_)
        refine x_cS2i F.1 (i := 62) rfl ml_RM_303 ok_RM_place (Nat.le_of_ble_eq_true rfl) (Nat.le_of_ble_eq_true rfl) (fun _ => t_RM_place e9) ?_
        refine x_iadd F.1 (i := 63) rfl ?_
        refine gd_e h (fun g10 h => ?_)
        refine x_iald F.1 (i := 64) rfl rfl (inb_e g10) ?_
        refine cal_e h (fun r11 M5 e12 h => ?_)
        refine x_cS1i F.1 (i := 65) rfl ml_RM_381 ok_RM_takes (Nat.le_of_ble_eq_true rfl) (Nat.le_of_ble_eq_true rfl) (fun _ => t_RM_takes e12) ?_
        refine x_iadd F.1 (i := 66) rfl ?_
        refine x_istore_n F.1 (i := 67) rfl (Nat.le_of_ble_eq_true rfl) (Nat.le_of_ble_eq_true rfl) rfl ?_
        replace h := bd_e h
        refine x_iinc F.1 (i := 68) rfl rfl rfl (Nat.le_of_ble_eq_true rfl) rfl ?_
        replace h := bd_e h
        refine x_goto F.1 (i := 69) (tgt := 63) rfl (by decide) ?_
        exact x_wk F.1 (ih _ _ _ _ h) ⟨rfl, rfl, rfl, rfl, trivial⟩
      · replace h := if_F c h
        refine x_iconst F.1 (i := 55) rfl ic_0 ?_
        refine x_goto F.1 (i := 56) (tgt := 106) rfl (by decide) ?_
        refine x_iadd F.1 (i := 66) rfl ?_
        refine x_istore_n F.1 (i := 67) rfl (Nat.le_of_ble_eq_true rfl) (Nat.le_of_ble_eq_true rfl) rfl ?_
        replace h := bd_e h
        refine x_iinc F.1 (i := 68) rfl rfl rfl (Nat.le_of_ble_eq_true rfl) rfl ?_
        replace h := bd_e h
        refine x_goto F.1 (i := 69) (tgt := 63) rfl (by decide) ?_
        exact x_wk F.1 (ih _ _ _ _ h) ⟨rfl, rfl, rfl, rfl, trivial⟩
set_option maxHeartbeats 4000000 in
theorem t_RM_unravel {w : kx_W} {d : Nat} {M : kx_M} {Q : Option Value → kx_M → Prop} {r : Int32} {M' : kx_M} (h : f_RM_unravel M = some (r, M')) (hQ : Q (some (.int r)) M') : Ct w (d + 1) m_RM_unravel [.ref 135] M Q := by
  refine mk_ct ok_RM_unravel (Nat.le_of_ble_eq_true rfl) (fun G F => ?_)
  rw [f_RM_unravel] at h
  show G 0 [some (.ref 135), none, none, none] [] M
  refine x_aload_n F.1 (i := 0) rfl rfl ?_
  refine x_iconst F.1 (i := 1) rfl ic_0 ?_
  refine x_putI F.1 (i := 2) rfl fl_RM_68 pf_RM_thrown rfl (by rfl) ?_
  replace h := bd_e h
  refine x_aload_n F.1 (i := 3) rfl rfl ?_
  refine x_iconst F.1 (i := 4) rfl ic_0 ?_
  refine x_putI F.1 (i := 5) rfl fl_RM_71 pf_RM_status rfl (by rfl) ?_
  replace h := bd_e h
  refine x_aload_n F.1 (i := 6) rfl rfl ?_
  refine x_getC F.1 (i := 7) rfl fl_RM_35 rfl (by rfl) ?_
  refine x_iconst F.1 (i := 8) rfl ic_4 ?_
  refine gd_e h (fun g1 h => ?_)
  refine x_iald F.1 (i := 9) rfl rfl (inb_e g1) ?_
  refine x_if_ne F.1 (i := 10) (tgt := 26) rfl (by decide) (fun c => ?_) (fun c => ?_)
  · replace h := if_F c h
    refine x_aload_n F.1 (i := 15) rfl rfl ?_
    refine x_getC F.1 (i := 16) rfl fl_RM_35 rfl (by rfl) ?_
    refine x_iconst F.1 (i := 17) rfl ic_4 ?_
    refine x_dup2 F.1 (i := 18) rfl rfl rfl ?_
    refine gd_e h (fun g4 h => ?_)
    refine x_iald F.1 (i := 19) rfl rfl (inb_e g4) ?_
    refine x_iconst F.1 (i := 20) rfl ic_1 ?_
    refine x_isub F.1 (i := 21) rfl ?_
    refine gd_e h (fun g5 h => ?_)
    refine x_iast F.1 (i := 22) rfl rfl (inb_e g5) ?_
    replace h := bd_e h
    refine x_aload_n F.1 (i := 23) rfl rfl ?_
    refine x_getC F.1 (i := 24) rfl fl_RM_35 rfl (by rfl) ?_
    refine x_iconst F.1 (i := 25) rfl ic_4 ?_
    refine gd_e h (fun g6 h => ?_)
    refine x_iald F.1 (i := 26) rfl rfl (inb_e g6) ?_
    refine x_istore_n F.1 (i := 27) rfl (Nat.le_of_ble_eq_true rfl) (Nat.le_of_ble_eq_true rfl) rfl ?_
    replace h := bd_e h
    refine x_aload_n F.1 (i := 28) rfl rfl ?_
    refine x_getC F.1 (i := 29) rfl fl_RM_35 rfl (by rfl) ?_
    refine x_bipush F.1 (i := 30) rfl bp_6 ?_
    refine x_aload_n F.1 (i := 31) rfl rfl ?_
    refine x_getC F.1 (i := 32) rfl fl_RM_35 rfl (by rfl) ?_
    refine x_bipush F.1 (i := 33) rfl bp_100 ?_
    refine x_iload_n F.1 (i := 34) rfl rfl ?_
    refine x_iadd F.1 (i := 35) rfl ?_
    refine gd_e h (fun g8 h => ?_)
    refine x_iald F.1 (i := 36) rfl rfl (inb_e g8) ?_
    refine x_iadd F.1 (i := 37) rfl ?_
    refine gd_e h (fun g9 h => ?_)
    refine x_iald F.1 (i := 38) rfl rfl (inb_e g9) ?_
    refine x_istore_n F.1 (i := 39) rfl (Nat.le_of_ble_eq_true rfl) (Nat.le_of_ble_eq_true rfl) rfl ?_
    replace h := bd_e h
    refine x_iconst F.1 (i := 40) rfl ic_0 ?_
    refine x_istore_n F.1 (i := 41) rfl (Nat.le_of_ble_eq_true rfl) (Nat.le_of_ble_eq_true rfl) rfl ?_
    exact x_wk F.1 ((t_RM_unravel_l63 F (res := (r, M')) hQ FU) _ _ _ _ h) ⟨rfl, rfl, rfl, rfl, trivial⟩
  · replace h := if_T c h
    refine x_aload_n F.1 (i := 11) rfl rfl ?_
    refine x_bipush F.1 (i := 12) rfl bp_8 ?_
    refine cal_e h (fun r2 M3 e3 h => ?_)
    refine x_cV1i F.1 (i := 13) rfl ml_RM_321 ok_RM_refuse rfl (Nat.le_of_ble_eq_true rfl) (Nat.le_of_ble_eq_true rfl) (fun _ => t_RM_refuse e3) ?_
    exact x_iretf F (i := 14) rfl rfl h (res := (r, M')) hQ
set_option maxHeartbeats 4000000 in
theorem t_RM_shear {w : kx_W} {d : Nat} {M : kx_M} {Q : Option Value → kx_M → Prop} {p1 : Int32} {p2 : Int32} {r : Int32} {M' : kx_M} (h : f_RM_shear p1 p2 M = some (r, M')) (hQ : Q (some (.int r)) M') : Ct w (d + 2) m_RM_shear [.ref 135, .int p1, .int p2] M Q := by
  refine mk_ct ok_RM_shear (Nat.le_of_ble_eq_true rfl) (fun G F => ?_)
  rw [f_RM_shear] at h
  show G 0 [some (.ref 135), some (.int p1), some (.int p2)] [] M
  refine x_aload_n F.1 (i := 0) rfl rfl ?_
  refine x_iconst F.1 (i := 1) rfl ic_0 ?_
  refine x_putI F.1 (i := 2) rfl fl_RM_68 pf_RM_thrown rfl (by rfl) ?_
  replace h := bd_e h
  refine x_aload_n F.1 (i := 3) rfl rfl ?_
  refine x_iconst F.1 (i := 4) rfl ic_0 ?_
  refine x_putI F.1 (i := 5) rfl fl_RM_71 pf_RM_status rfl (by rfl) ?_
  replace h := bd_e h
  refine x_aload_n F.1 (i := 6) rfl rfl ?_
  refine x_iload_n F.1 (i := 7) rfl rfl ?_
  refine cal_e h (fun r1 M3 e2 h => ?_)
  refine x_cV1i F.1 (i := 8) rfl ml_RM_336 ok_RM_isQueenAt rfl (Nat.le_of_ble_eq_true rfl) (Nat.le_of_ble_eq_true rfl) (fun _ => t_RM_isQueenAt e2) ?_
  refine x_if_ne F.1 (i := 9) (tgt := 24) rfl (by decide) (fun c => ?_) (fun c => ?_)
  · replace h := if_F c h
    refine x_iload_n F.1 (i := 14) rfl rfl ?_
    refine x_i2l F.1 (i := 15) rfl ?_
    refine x_lconst F.1 (i := 16) (v := 1) rfl rfl ?_
    refine x_ldc2_w F.1 (i := 17) rfl cl_RM_390 ?_
    refine cal_e h (fun r5 M5 e6 h => ?_)
    refine x_cS3i F.1 (i := 18) rfl ml_RM_103 ok_RM_isIn (Nat.le_of_ble_eq_true rfl) (Nat.le_of_ble_eq_true rfl) (fun _ => t_RM_isIn e6) ?_
    refine x_if_ne F.1 (i := 19) (tgt := 42) rfl (by decide) (fun c => ?_) (fun c => ?_)
    · replace h := if_F c h
      refine x_aload_n F.1 (i := 24) rfl rfl ?_
      refine x_getC F.1 (i := 25) rfl fl_RM_35 rfl (by rfl) ?_
      refine x_bipush F.1 (i := 26) rfl bp_6 ?_
      refine x_iload_n F.1 (i := 27) rfl rfl ?_
      refine x_iadd F.1 (i := 28) rfl ?_
      refine x_sipush F.1 (i := 29) rfl sp_999 ?_
      refine x_aload_n F.1 (i := 30) rfl rfl ?_
      refine x_getC F.1 (i := 31) rfl fl_RM_35 rfl (by rfl) ?_
      refine x_bipush F.1 (i := 32) rfl bp_6 ?_
      refine x_iload_n F.1 (i := 33) rfl rfl ?_
      refine x_iadd F.1 (i := 34) rfl ?_
      refine gd_e h (fun g9 h => ?_)
      refine x_iald F.1 (i := 35) rfl rfl (inb_e g9) ?_
      refine x_iload_n F.1 (i := 36) rfl rfl ?_
      refine x_iadd F.1 (i := 37) rfl ?_
      refine x_mmin F.1 (i := 38) rfl jm_RM_357 (Nat.le_of_ble_eq_true rfl) ?_
      refine gd_e h (fun g10 h => ?_)
      refine x_iast F.1 (i := 39) rfl rfl (inb_e g10) ?_
      replace h := bd_e h
      refine x_aload_n F.1 (i := 40) rfl rfl ?_
      refine x_getC F.1 (i := 41) rfl fl_RM_35 rfl (by rfl) ?_
      refine x_bipush F.1 (i := 42) rfl bp_6 ?_
      refine x_iload_n F.1 (i := 43) rfl rfl ?_
      refine x_iadd F.1 (i := 44) rfl ?_
      refine gd_e h (fun g11 h => ?_)
      refine x_iald F.1 (i := 45) rfl rfl (inb_e g11) ?_
      exact x_iretf F (i := 46) rfl rfl h (res := (r, M')) hQ
    · replace h := if_T c h
      refine x_aload_n F.1 (i := 20) rfl rfl ?_
      refine x_iconst F.1 (i := 21) rfl ic_5 ?_
      refine cal_e h (fun r7 M6 e8 h => ?_)
      refine x_cV1i F.1 (i := 22) rfl ml_RM_321 ok_RM_refuse rfl (Nat.le_of_ble_eq_true rfl) (Nat.le_of_ble_eq_true rfl) (fun _ => t_RM_refuse e8) ?_
      exact x_iretf F (i := 23) rfl rfl h (res := (r, M')) hQ
  · replace h := if_T c h
    refine x_aload_n F.1 (i := 10) rfl rfl ?_
    refine x_iconst F.1 (i := 11) rfl ic_2 ?_
    refine cal_e h (fun r3 M4 e4 h => ?_)
    refine x_cV1i F.1 (i := 12) rfl ml_RM_321 ok_RM_refuse rfl (Nat.le_of_ble_eq_true rfl) (Nat.le_of_ble_eq_true rfl) (fun _ => t_RM_refuse e4) ?_
    exact x_iretf F (i := 13) rfl rfl h (res := (r, M')) hQ
set_option maxHeartbeats 4000000 in
theorem t_RM_rule {w : kx_W} {d : Nat} {M : kx_M} {Q : Option Value → kx_M → Prop} {p1 : Int32} {r : Int32} {M' : kx_M} (h : f_RM_rule p1 M = some (r, M')) (hQ : Q (some (.int r)) M') : Ct w (d + 1) m_RM_rule [.ref 135, .int p1] M Q := by
  refine mk_ct ok_RM_rule (Nat.le_of_ble_eq_true rfl) (fun G F => ?_)
  rw [f_RM_rule] at h
  show G 0 [some (.ref 135), some (.int p1)] [] M
  refine x_aload_n F.1 (i := 0) rfl rfl ?_
  refine x_iconst F.1 (i := 1) rfl ic_0 ?_
  refine x_putI F.1 (i := 2) rfl fl_RM_68 pf_RM_thrown rfl (by rfl) ?_
  replace h := bd_e h
  refine x_aload_n F.1 (i := 3) rfl rfl ?_
  refine x_iconst F.1 (i := 4) rfl ic_0 ?_
  refine x_putI F.1 (i := 5) rfl fl_RM_71 pf_RM_status rfl (by rfl) ?_
  replace h := bd_e h
  refine x_iload_n F.1 (i := 6) rfl rfl ?_
  refine x_i2l F.1 (i := 7) rfl ?_
  refine x_lconst F.1 (i := 8) (v := 1) rfl rfl ?_
  refine x_ldc2_w F.1 (i := 9) rfl cl_RM_392 ?_
  refine cal_e h (fun r1 M3 e2 h => ?_)
  refine x_cS3i F.1 (i := 10) rfl ml_RM_103 ok_RM_isIn (Nat.le_of_ble_eq_true rfl) (Nat.le_of_ble_eq_true rfl) (fun _ => t_RM_isIn e2) ?_
  refine x_if_ne F.1 (i := 11) (tgt := 28) rfl (by decide) (fun c => ?_) (fun c => ?_)
  · replace h := if_F c h
    refine x_aload_n F.1 (i := 16) rfl rfl ?_
    refine x_getC F.1 (i := 17) rfl fl_RM_35 rfl (by rfl) ?_
    refine x_iconst F.1 (i := 18) rfl ic_1 ?_
    refine x_iload_n F.1 (i := 19) rfl rfl ?_
    refine gd_e h (fun g6 h => ?_)
    refine x_iast F.1 (i := 20) rfl rfl (inb_e g6) ?_
    replace h := bd_e h
    refine x_iconst F.1 (i := 21) rfl ic_1 ?_
    exact x_zretf F (i := 22) rfl rfl (Or.inr rfl) h (res := (r, M')) hQ
  · replace h := if_T c h
    refine x_aload_n F.1 (i := 12) rfl rfl ?_
    refine x_iconst F.1 (i := 13) rfl ic_5 ?_
    refine cal_e h (fun r3 M4 e4 h => ?_)
    refine x_cV1i F.1 (i := 14) rfl ml_RM_83 ok_RM_no rfl (Nat.le_of_ble_eq_true rfl) (Nat.le_of_ble_eq_true rfl) (fun _ => t_RM_no e4) ?_
    refine gd_e h (fun g5 h => ?_)
    exact x_zretf F (i := 15) rfl rfl (b01_e g5) h (res := (r, M')) hQ
set_option maxHeartbeats 4000000 in
theorem t_RM_quarrel {w : kx_W} {d : Nat} {M : kx_M} {Q : Option Value → kx_M → Prop} {p1 : Int32} {p2 : Int32} {p3 : Int32} {r : Int32} {M' : kx_M} (h : f_RM_quarrel p1 p2 p3 M = some (r, M')) (hQ : Q (some (.int r)) M') : Ct w (d + 2) m_RM_quarrel [.ref 135, .int p1, .int p2, .int p3] M Q := by
  refine mk_ct ok_RM_quarrel (Nat.le_of_ble_eq_true rfl) (fun G F => ?_)
  rw [f_RM_quarrel] at h
  show G 0 [some (.ref 135), some (.int p1), some (.int p2), some (.int p3)] [] M
  refine x_aload_n F.1 (i := 0) rfl rfl ?_
  refine x_iconst F.1 (i := 1) rfl ic_0 ?_
  refine x_putI F.1 (i := 2) rfl fl_RM_68 pf_RM_thrown rfl (by rfl) ?_
  replace h := bd_e h
  refine x_aload_n F.1 (i := 3) rfl rfl ?_
  refine x_iconst F.1 (i := 4) rfl ic_0 ?_
  refine x_putI F.1 (i := 5) rfl fl_RM_71 pf_RM_status rfl (by rfl) ?_
  replace h := bd_e h
  refine x_aload_n F.1 (i := 6) rfl rfl ?_
  refine x_iload_n F.1 (i := 7) rfl rfl ?_
  refine cal_e h (fun r1 M3 e2 h => ?_)
  refine x_cV1i F.1 (i := 8) rfl ml_RM_339 ok_RM_isClauseAt rfl (Nat.le_of_ble_eq_true rfl) (Nat.le_of_ble_eq_true rfl) (fun _ => t_RM_isClauseAt e2) ?_
  refine x_if_eq F.1 (i := 9) (tgt := 26) rfl (by decide) (fun c => ?_) (fun c => ?_)
  · replace h := if_T c h
    refine x_aload_n F.1 (i := 14) rfl rfl ?_
    refine x_iconst F.1 (i := 15) rfl ic_2 ?_
    refine cal_e h (fun r3 M4 e4 h => ?_)
    refine x_cV1i F.1 (i := 16) rfl ml_RM_83 ok_RM_no rfl (Nat.le_of_ble_eq_true rfl) (Nat.le_of_ble_eq_true rfl) (fun _ => t_RM_no e4) ?_
    refine gd_e h (fun g5 h => ?_)
    exact x_zretf F (i := 17) rfl rfl (b01_e g5) h (res := (r, M')) hQ
  · replace h := if_F c h
    refine x_aload_n F.1 (i := 10) rfl rfl ?_
    refine x_iload_n F.1 (i := 11) rfl rfl ?_
    refine cal_e h (fun r6 M5 e7 h => ?_)
    refine x_cV1i F.1 (i := 12) rfl ml_RM_339 ok_RM_isClauseAt rfl (Nat.le_of_ble_eq_true rfl) (Nat.le_of_ble_eq_true rfl) (fun _ => t_RM_isClauseAt e7) ?_
    refine x_if_ne F.1 (i := 13) (tgt := 32) rfl (by decide) (fun c => ?_) (fun c => ?_)
    · replace h := if_F c h
      refine x_iload_n F.1 (i := 18) rfl rfl ?_
      refine x_iload_n F.1 (i := 19) rfl rfl ?_
      refine x_icmp_eq F.1 (i := 20) (tgt := 54) rfl (by decide) (fun c => ?_) (fun c => ?_)
      · replace h := if_T c h
        refine x_aload_n F.1 (i := 31) rfl rfl ?_
        refine x_bipush F.1 (i := 32) rfl bp_9 ?_
        refine cal_e h (fun r11 M7 e12 h => ?_)
        refine x_cV1i F.1 (i := 33) rfl ml_RM_83 ok_RM_no rfl (Nat.le_of_ble_eq_true rfl) (Nat.le_of_ble_eq_true rfl) (fun _ => t_RM_no e12) ?_
        refine gd_e h (fun g13 h => ?_)
        exact x_zretf F (i := 34) rfl rfl (b01_e g13) h (res := (r, M')) hQ
      · replace h := if_F c h
        refine x_aload_n F.1 (i := 21) rfl rfl ?_
        refine x_getC F.1 (i := 22) rfl fl_RM_35 rfl (by rfl) ?_
        refine x_bipush F.1 (i := 23) rfl bp_46 ?_
        refine x_iload_n F.1 (i := 24) rfl rfl ?_
        refine x_iadd F.1 (i := 25) rfl ?_
        refine gd_e h (fun g14 h => ?_)
        refine x_iald F.1 (i := 26) rfl rfl (inb_e g14) ?_
        refine x_iload_n F.1 (i := 27) rfl rfl ?_
        refine cal_e h (fun r15 M8 e16 h => ?_)
        refine x_cS2i F.1 (i := 28) rfl ml_RM_241 ok_RM_has (Nat.le_of_ble_eq_true rfl) (Nat.le_of_ble_eq_true rfl) (fun _ => t_RM_has e16) ?_
        refine x_iload_n F.1 (i := 29) rfl rfl ?_
        refine x_icmp_ne F.1 (i := 30) (tgt := 61) rfl (by decide) (fun c => ?_) (fun c => ?_)
        · replace h := if_F c h
          refine x_aload_n F.1 (i := 35) rfl rfl ?_
          refine x_getC F.1 (i := 36) rfl fl_RM_35 rfl (by rfl) ?_
          refine x_bipush F.1 (i := 37) rfl bp_46 ?_
          refine x_iload_n F.1 (i := 38) rfl rfl ?_
          refine x_iadd F.1 (i := 39) rfl ?_
          refine x_dup2 F.1 (i := 40) rfl rfl rfl ?_
          refine gd_e h (fun g20 h => ?_)
          refine x_iald F.1 (i := 41) rfl rfl (inb_e g20) ?_
          refine x_iconst F.1 (i := 42) rfl ic_1 ?_
          refine x_iload_n F.1 (i := 43) rfl rfl ?_
          refine x_ishl F.1 (i := 44) rfl ?_
          refine x_ixor F.1 (i := 45) rfl ?_
          refine gd_e h (fun g21 h => ?_)
          refine x_iast F.1 (i := 46) rfl rfl (inb_e g21) ?_
          replace h := bd_e h
          refine x_aload_n F.1 (i := 47) rfl rfl ?_
          refine x_getC F.1 (i := 48) rfl fl_RM_35 rfl (by rfl) ?_
          refine x_bipush F.1 (i := 49) rfl bp_46 ?_
          refine x_iload_n F.1 (i := 50) rfl rfl ?_
          refine x_iadd F.1 (i := 51) rfl ?_
          refine x_dup2 F.1 (i := 52) rfl rfl rfl ?_
          refine gd_e h (fun g22 h => ?_)
          refine x_iald F.1 (i := 53) rfl rfl (inb_e g22) ?_
          refine x_iconst F.1 (i := 54) rfl ic_1 ?_
          refine x_iload_n F.1 (i := 55) rfl rfl ?_
          refine x_ishl F.1 (i := 56) rfl ?_
          refine x_ixor F.1 (i := 57) rfl ?_
          refine gd_e h (fun g23 h => ?_)
          refine x_iast F.1 (i := 58) rfl rfl (inb_e g23) ?_
          replace h := bd_e h
          refine x_iconst F.1 (i := 59) rfl ic_1 ?_
          exact x_zretf F (i := 60) rfl rfl (Or.inr rfl) h (res := (r, M')) hQ
        · replace h := if_T c h
          refine x_aload_n F.1 (i := 31) rfl rfl ?_
          refine x_bipush F.1 (i := 32) rfl bp_9 ?_
          refine cal_e h (fun r17 M9 e18 h => ?_)
          refine x_cV1i F.1 (i := 33) rfl ml_RM_83 ok_RM_no rfl (Nat.le_of_ble_eq_true rfl) (Nat.le_of_ble_eq_true rfl) (fun _ => t_RM_no e18) ?_
          refine gd_e h (fun g19 h => ?_)
          exact x_zretf F (i := 34) rfl rfl (b01_e g19) h (res := (r, M')) hQ
    · replace h := if_T c h
      refine x_aload_n F.1 (i := 14) rfl rfl ?_
      refine x_iconst F.1 (i := 15) rfl ic_2 ?_
      refine cal_e h (fun r8 M6 e9 h => ?_)
      refine x_cV1i F.1 (i := 16) rfl ml_RM_83 ok_RM_no rfl (Nat.le_of_ble_eq_true rfl) (Nat.le_of_ble_eq_true rfl) (fun _ => t_RM_no e9) ?_
      refine gd_e h (fun g10 h => ?_)
      exact x_zretf F (i := 17) rfl rfl (b01_e g10) h (res := (r, M')) hQ
set_option maxHeartbeats 4000000 in
theorem t_RM_value {w : kx_W} {d : Nat} {M : kx_M} {Q : Option Value → kx_M → Prop} {p1 : Int32} {p2 : Int32} {p3 : Int32} {p4 : Int32} {r : Int32} {M' : kx_M} (h : f_RM_value p1 p2 p3 p4 M = some (r, M')) (hQ : Q (some (.int r)) M') : Ct w (d + 2) m_RM_value [.ref 135, .int p1, .int p2, .int p3, .int p4] M Q := by
  refine mk_ct ok_RM_value (Nat.le_of_ble_eq_true rfl) (fun G F => ?_)
  rw [f_RM_value] at h
  show G 0 [some (.ref 135), some (.int p1), some (.int p2), some (.int p3), some (.int p4)] [] M
  refine x_aload_n F.1 (i := 0) rfl rfl ?_
  refine x_iconst F.1 (i := 1) rfl ic_0 ?_
  refine x_putI F.1 (i := 2) rfl fl_RM_68 pf_RM_thrown rfl (by rfl) ?_
  replace h := bd_e h
  refine x_aload_n F.1 (i := 3) rfl rfl ?_
  refine x_iconst F.1 (i := 4) rfl ic_0 ?_
  refine x_putI F.1 (i := 5) rfl fl_RM_71 pf_RM_status rfl (by rfl) ?_
  replace h := bd_e h
  refine x_aload_n F.1 (i := 6) rfl rfl ?_
  refine x_iload_n F.1 (i := 7) rfl rfl ?_
  refine cal_e h (fun r1 M3 e2 h => ?_)
  refine x_cV1i F.1 (i := 8) rfl ml_RM_336 ok_RM_isQueenAt rfl (Nat.le_of_ble_eq_true rfl) (Nat.le_of_ble_eq_true rfl) (fun _ => t_RM_isQueenAt e2) ?_
  refine x_if_eq F.1 (i := 9) (tgt := 26) rfl (by decide) (fun c => ?_) (fun c => ?_)
  · replace h := if_T c h
    refine x_aload_n F.1 (i := 14) rfl rfl ?_
    refine x_iconst F.1 (i := 15) rfl ic_2 ?_
    refine cal_e h (fun r3 M4 e4 h => ?_)
    refine x_cV1i F.1 (i := 16) rfl ml_RM_83 ok_RM_no rfl (Nat.le_of_ble_eq_true rfl) (Nat.le_of_ble_eq_true rfl) (fun _ => t_RM_no e4) ?_
    refine gd_e h (fun g5 h => ?_)
    exact x_zretf F (i := 17) rfl rfl (b01_e g5) h (res := (r, M')) hQ
  · replace h := if_F c h
    refine x_aload_n F.1 (i := 10) rfl rfl ?_
    refine x_iload_n F.1 (i := 11) rfl rfl ?_
    refine cal_e h (fun r6 M5 e7 h => ?_)
    refine x_cV1i F.1 (i := 12) rfl ml_RM_339 ok_RM_isClauseAt rfl (Nat.le_of_ble_eq_true rfl) (Nat.le_of_ble_eq_true rfl) (fun _ => t_RM_isClauseAt e7) ?_
    refine x_if_ne F.1 (i := 13) (tgt := 32) rfl (by decide) (fun c => ?_) (fun c => ?_)
    · replace h := if_F c h
      refine x_iload_n F.1 (i := 18) rfl rfl ?_
      refine x_i2l F.1 (i := 19) rfl ?_
      refine x_lconst F.1 (i := 20) (v := 0) rfl rfl ?_
      refine x_lconst F.1 (i := 21) (v := 1) rfl rfl ?_
      refine cal_e h (fun r11 M7 e12 h => ?_)
      refine x_cS3i F.1 (i := 22) rfl ml_RM_103 ok_RM_isIn (Nat.le_of_ble_eq_true rfl) (Nat.le_of_ble_eq_true rfl) (fun _ => t_RM_isIn e12) ?_
      refine x_if_eq F.1 (i := 23) (tgt := 55) rfl (by decide) (fun c => ?_) (fun c => ?_)
      · replace h := if_T c h
        refine x_aload_n F.1 (i := 30) rfl rfl ?_
        refine x_iconst F.1 (i := 31) rfl ic_5 ?_
        refine cal_e h (fun r13 M8 e14 h => ?_)
        refine x_cV1i F.1 (i := 32) rfl ml_RM_83 ok_RM_no rfl (Nat.le_of_ble_eq_true rfl) (Nat.le_of_ble_eq_true rfl) (fun _ => t_RM_no e14) ?_
        refine gd_e h (fun g15 h => ?_)
        exact x_zretf F (i := 33) rfl rfl (b01_e g15) h (res := (r, M')) hQ
      · replace h := if_F c h
        refine x_iload F.1 (i := 24) rfl rfl ?_
        refine x_i2l F.1 (i := 25) rfl ?_
        refine x_lconst F.1 (i := 26) (v := 0) rfl rfl ?_
        refine x_ldc2_w F.1 (i := 27) rfl cl_RM_360 ?_
        refine cal_e h (fun r16 M9 e17 h => ?_)
        refine x_cS3i F.1 (i := 28) rfl ml_RM_103 ok_RM_isIn (Nat.le_of_ble_eq_true rfl) (Nat.le_of_ble_eq_true rfl) (fun _ => t_RM_isIn e17) ?_
        refine x_if_ne F.1 (i := 29) (tgt := 61) rfl (by decide) (fun c => ?_) (fun c => ?_)
        · replace h := if_F c h
          refine x_aload_n F.1 (i := 34) rfl rfl ?_
          refine x_getC F.1 (i := 35) rfl fl_RM_35 rfl (by rfl) ?_
          refine x_bipush F.1 (i := 36) rfl bp_52 ?_
          refine x_bipush F.1 (i := 37) rfl bp_24 ?_
          refine x_iload_n F.1 (i := 38) rfl rfl ?_
          refine x_imul F.1 (i := 39) rfl ?_
          refine x_iadd F.1 (i := 40) rfl ?_
          refine x_bipush F.1 (i := 41) rfl bp_6 ?_
          refine x_iload_n F.1 (i := 42) rfl rfl ?_
          refine x_imul F.1 (i := 43) rfl ?_
          refine x_iadd F.1 (i := 44) rfl ?_
          refine x_iload_n F.1 (i := 45) rfl rfl ?_
          refine x_iadd F.1 (i := 46) rfl ?_
          refine x_iload F.1 (i := 47) rfl rfl ?_
          refine gd_e h (fun g21 h => ?_)
          refine x_iast F.1 (i := 48) rfl rfl (inb_e g21) ?_
          replace h := bd_e h
          refine x_iconst F.1 (i := 49) rfl ic_1 ?_
          exact x_zretf F (i := 50) rfl rfl (Or.inr rfl) h (res := (r, M')) hQ
        · replace h := if_T c h
          refine x_aload_n F.1 (i := 30) rfl rfl ?_
          refine x_iconst F.1 (i := 31) rfl ic_5 ?_
          refine cal_e h (fun r18 M10 e19 h => ?_)
          refine x_cV1i F.1 (i := 32) rfl ml_RM_83 ok_RM_no rfl (Nat.le_of_ble_eq_true rfl) (Nat.le_of_ble_eq_true rfl) (fun _ => t_RM_no e19) ?_
          refine gd_e h (fun g20 h => ?_)
          exact x_zretf F (i := 33) rfl rfl (b01_e g20) h (res := (r, M')) hQ
    · replace h := if_T c h
      refine x_aload_n F.1 (i := 14) rfl rfl ?_
      refine x_iconst F.1 (i := 15) rfl ic_2 ?_
      refine cal_e h (fun r8 M6 e9 h => ?_)
      refine x_cV1i F.1 (i := 16) rfl ml_RM_83 ok_RM_no rfl (Nat.le_of_ble_eq_true rfl) (Nat.le_of_ble_eq_true rfl) (fun _ => t_RM_no e9) ?_
      refine gd_e h (fun g10 h => ?_)
      exact x_zretf F (i := 17) rfl rfl (b01_e g10) h (res := (r, M')) hQ
set_option maxHeartbeats 4000000 in
theorem t_RM_saidIn {w : kx_W} {d : Nat} {M : kx_M} {Q : Option Value → kx_M → Prop} {p1 : Int32} {p2 : Int32} {r : Int32} {M' : kx_M} (h : f_RM_saidIn p1 p2 M = some (r, M')) (hQ : Q (some (.int r)) M') : Ct w (d + 3) m_RM_saidIn [.ref 135, .int p1, .int p2] M Q := by
  refine mk_ct ok_RM_saidIn (Nat.le_of_ble_eq_true rfl) (fun G F => ?_)
  rw [f_RM_saidIn] at h
  show G 0 [some (.ref 135), some (.int p1), some (.int p2)] [] M
  refine x_aload_n F.1 (i := 0) rfl rfl ?_
  refine x_iconst F.1 (i := 1) rfl ic_0 ?_
  refine x_putI F.1 (i := 2) rfl fl_RM_68 pf_RM_thrown rfl (by rfl) ?_
  replace h := bd_e h
  refine x_aload_n F.1 (i := 3) rfl rfl ?_
  refine x_iconst F.1 (i := 4) rfl ic_0 ?_
  refine x_putI F.1 (i := 5) rfl fl_RM_71 pf_RM_status rfl (by rfl) ?_
  replace h := bd_e h
  refine x_aload_n F.1 (i := 6) rfl rfl ?_
  refine x_iload_n F.1 (i := 7) rfl rfl ?_
  refine cal_e h (fun r1 M3 e2 h => ?_)
  refine x_cV1i F.1 (i := 8) rfl ml_RM_339 ok_RM_isClauseAt rfl (Nat.le_of_ble_eq_true rfl) (Nat.le_of_ble_eq_true rfl) (fun _ => t_RM_isClauseAt e2) ?_
  refine x_if_eq F.1 (i := 9) (tgt := 35) rfl (by decide) (fun c => ?_) (fun c => ?_)
  · replace h := if_T c h
    refine x_aload_n F.1 (i := 19) rfl rfl ?_
    refine x_iconst F.1 (i := 20) rfl ic_2 ?_
    refine cal_e h (fun r3 M4 e4 h => ?_)
    refine x_cV1i F.1 (i := 21) rfl ml_RM_321 ok_RM_refuse rfl (Nat.le_of_ble_eq_true rfl) (Nat.le_of_ble_eq_true rfl) (fun _ => t_RM_refuse e4) ?_
    exact x_iretf F (i := 22) rfl rfl h (res := (r, M')) hQ
  · replace h := if_F c h
    refine x_aload_n F.1 (i := 10) rfl rfl ?_
    refine x_iload_n F.1 (i := 11) rfl rfl ?_
    refine cal_e h (fun r5 M5 e6 h => ?_)
    refine x_cV1i F.1 (i := 12) rfl ml_RM_330 ok_RM_isRowAt rfl (Nat.le_of_ble_eq_true rfl) (Nat.le_of_ble_eq_true rfl) (fun _ => t_RM_isRowAt e6) ?_
    refine x_if_eq F.1 (i := 13) (tgt := 35) rfl (by decide) (fun c => ?_) (fun c => ?_)
    · replace h := if_T c h
      refine x_aload_n F.1 (i := 19) rfl rfl ?_
      refine x_iconst F.1 (i := 20) rfl ic_2 ?_
      refine cal_e h (fun r7 M6 e8 h => ?_)
      refine x_cV1i F.1 (i := 21) rfl ml_RM_321 ok_RM_refuse rfl (Nat.le_of_ble_eq_true rfl) (Nat.le_of_ble_eq_true rfl) (fun _ => t_RM_refuse e8) ?_
      exact x_iretf F (i := 22) rfl rfl h (res := (r, M')) hQ
    · replace h := if_F c h
      refine x_aload_n F.1 (i := 14) rfl rfl ?_
      refine x_iload_n F.1 (i := 15) rfl rfl ?_
      refine x_iload_n F.1 (i := 16) rfl rfl ?_
      refine cal_e h (fun r9 M7 e10 h => ?_)
      refine x_cV2i F.1 (i := 17) rfl ml_RM_313 ok_RM_timesIn rfl (Nat.le_of_ble_eq_true rfl) (Nat.le_of_ble_eq_true rfl) (fun _ => t_RM_timesIn e10) ?_
      refine x_goto F.1 (i := 18) (tgt := 40) rfl (by decide) ?_
      exact x_iretf F (i := 22) rfl rfl h (res := (r, M')) hQ
set_option maxHeartbeats 4000000 in
theorem t_RM_said {w : kx_W} {d : Nat} {M : kx_M} {Q : Option Value → kx_M → Prop} {p1 : Int32} {r : Int32} {M' : kx_M} (h : f_RM_said p1 M = some (r, M')) (hQ : Q (some (.int r)) M') : Ct w (d + 4) m_RM_said [.ref 135, .int p1] M Q := by
  refine mk_ct ok_RM_said (Nat.le_of_ble_eq_true rfl) (fun G F => ?_)
  rw [f_RM_said] at h
  show G 0 [some (.ref 135), some (.int p1)] [] M
  refine x_aload_n F.1 (i := 0) rfl rfl ?_
  refine x_iconst F.1 (i := 1) rfl ic_0 ?_
  refine x_putI F.1 (i := 2) rfl fl_RM_68 pf_RM_thrown rfl (by rfl) ?_
  replace h := bd_e h
  refine x_aload_n F.1 (i := 3) rfl rfl ?_
  refine x_iconst F.1 (i := 4) rfl ic_0 ?_
  refine x_putI F.1 (i := 5) rfl fl_RM_71 pf_RM_status rfl (by rfl) ?_
  replace h := bd_e h
  refine x_aload_n F.1 (i := 6) rfl rfl ?_
  refine x_iload_n F.1 (i := 7) rfl rfl ?_
  refine cal_e h (fun r1 M3 e2 h => ?_)
  refine x_cV1i F.1 (i := 8) rfl ml_RM_339 ok_RM_isClauseAt rfl (Nat.le_of_ble_eq_true rfl) (Nat.le_of_ble_eq_true rfl) (fun _ => t_RM_isClauseAt e2) ?_
  refine x_if_eq F.1 (i := 9) (tgt := 26) rfl (by decide) (fun c => ?_) (fun c => ?_)
  · replace h := if_T c h
    refine x_aload_n F.1 (i := 14) rfl rfl ?_
    refine x_iconst F.1 (i := 15) rfl ic_2 ?_
    refine cal_e h (fun r3 M4 e4 h => ?_)
    refine x_cV1i F.1 (i := 16) rfl ml_RM_321 ok_RM_refuse rfl (Nat.le_of_ble_eq_true rfl) (Nat.le_of_ble_eq_true rfl) (fun _ => t_RM_refuse e4) ?_
    exact x_iretf F (i := 17) rfl rfl h (res := (r, M')) hQ
  · replace h := if_F c h
    refine x_aload_n F.1 (i := 10) rfl rfl ?_
    refine x_iload_n F.1 (i := 11) rfl rfl ?_
    refine cal_e h (fun r5 M5 e6 h => ?_)
    refine x_cV1i F.1 (i := 12) rfl ml_RM_316 ok_RM_times rfl (Nat.le_of_ble_eq_true rfl) (Nat.le_of_ble_eq_true rfl) (fun _ => t_RM_times e6) ?_
    refine x_goto F.1 (i := 13) (tgt := 31) rfl (by decide) ?_
    exact x_iretf F (i := 17) rfl rfl h (res := (r, M')) hQ
set_option maxHeartbeats 4000000 in
theorem t_RM_firstSaid_l38 {w : kx_W} {d : Nat} {Q : Option Value → kx_M → Prop} {G : Nat → List (Option Value) → List Value → kx_M → Prop} (F : Sd w (d + 2) m_RM_firstSaid Q G) {p1 : Int32} {k26 : Int32 → kx_M → Option (Int32 × kx_M)} {res : Int32 × kx_M} (hQ : Q (some (.int res.1)) res.2) (hk26 : ∀ (x2 : Int32) (M : kx_M), k26 x2 M = some res → G 26 [some (.ref 135), some (.int p1), some (.int x2), none] [] M) :
    ∀ (n : Nat) (x2 : Int32) (x3 : Int32) (M : kx_M),
    f_RM_firstSaid_l38 p1 k26 n x2 x3 M = some res → G 38 [some (.ref 135), some (.int p1), some (.int x2), some (.int x3)] [] M := by
  intro n
  induction n with
  | zero =>
    intro x2 x3 M h
    exact absurd h (by rw [f_RM_firstSaid_l38]; exact fun z => nomatch z)
  | succ n ih =>
    intro x2 x3 M h
    rw [f_RM_firstSaid_l38] at h
    refine x_iload_n F.1 (i := 24) rfl rfl ?_
    refine x_aload_n F.1 (i := 25) rfl rfl ?_
    refine x_getC F.1 (i := 26) rfl fl_RM_35 rfl (by rfl) ?_
    refine x_iconst F.1 (i := 27) rfl ic_0 ?_
    refine gd_e h (fun g1 h => ?_)
    refine x_iald F.1 (i := 28) rfl rfl (inb_e g1) ?_
    refine x_icmp_ge F.1 (i := 29) (tgt := 71) rfl (by decide) (fun c => ?_) (fun c => ?_)
    · replace h := if_T c h
      refine x_iinc F.1 (i := 44) rfl rfl rfl (Nat.le_of_ble_eq_true rfl) rfl ?_
      replace h := bd_e h
      refine x_goto F.1 (i := 45) (tgt := 26) rfl (by decide) ?_
      exact x_wk F.1 (hk26 _ _ h) ⟨rfl, rfl, rfl, trivial⟩
    · replace h := if_F c h
      refine x_aload_n F.1 (i := 30) rfl rfl ?_
      refine x_iload_n F.1 (i := 31) rfl rfl ?_
      refine x_iload_n F.1 (i := 32) rfl rfl ?_
      refine x_iload_n F.1 (i := 33) rfl rfl ?_
      refine cal_e h (fun r3 M1 e4 h => ?_)
      refine x_cV3i F.1 (i := 34) rfl ml_RM_309 ok_RM_isSaid rfl (Nat.le_of_ble_eq_true rfl) (Nat.le_of_ble_eq_true rfl) (fun _ => t_RM_isSaid e4) ?_
      refine x_if_eq F.1 (i := 35) (tgt := 65) rfl (by decide) (fun c => ?_) (fun c => ?_)
      · replace h := if_T c h
        refine x_iinc F.1 (i := 42) rfl rfl rfl (Nat.le_of_ble_eq_true rfl) rfl ?_
        replace h := bd_e h
        refine x_goto F.1 (i := 43) (tgt := 38) rfl (by decide) ?_
        exact x_wk F.1 (ih _ _ _ h) ⟨rfl, rfl, rfl, rfl, trivial⟩
      · replace h := if_F c h
        refine x_bipush F.1 (i := 36) rfl bp_10 ?_
        refine x_iload_n F.1 (i := 37) rfl rfl ?_
        refine x_imul F.1 (i := 38) rfl ?_
        refine x_iload_n F.1 (i := 39) rfl rfl ?_
        refine x_iadd F.1 (i := 40) rfl ?_
        exact x_iretf F (i := 41) rfl rfl h hQ
set_option maxHeartbeats 4000000 in
theorem t_RM_firstSaid_l26 {w : kx_W} {d : Nat} {Q : Option Value → kx_M → Prop} {G : Nat → List (Option Value) → List Value → kx_M → Prop} (F : Sd w (d + 2) m_RM_firstSaid Q G) {p1 : Int32} {res : Int32 × kx_M} (hQ : Q (some (.int res.1)) res.2) :
    ∀ (n : Nat) (x2 : Int32) (M : kx_M),
    f_RM_firstSaid_l26 p1 n x2 M = some res → G 26 [some (.ref 135), some (.int p1), some (.int x2), none] [] M := by
  intro n
  induction n with
  | zero =>
    intro x2 M h
    exact absurd h (by rw [f_RM_firstSaid_l26]; exact fun z => nomatch z)
  | succ n ih =>
    intro x2 M h
    rw [f_RM_firstSaid_l26] at h
    refine x_iload_n F.1 (i := 16) rfl rfl ?_
    refine x_aload_n F.1 (i := 17) rfl rfl ?_
    refine x_getC F.1 (i := 18) rfl fl_RM_35 rfl (by rfl) ?_
    refine x_iconst F.1 (i := 19) rfl ic_4 ?_
    refine gd_e h (fun g1 h => ?_)
    refine x_iald F.1 (i := 20) rfl rfl (inb_e g1) ?_
    refine x_icmp_ge F.1 (i := 21) (tgt := 77) rfl (by decide) (fun c => ?_) (fun c => ?_)
    · replace h := if_T c h
      refine x_aload_n F.1 (i := 46) rfl rfl ?_
      refine x_bipush F.1 (i := 47) rfl bp_8 ?_
      refine cal_e h (fun r2 M1 e3 h => ?_)
      refine x_cV1i F.1 (i := 48) rfl ml_RM_321 ok_RM_refuse rfl (Nat.le_of_ble_eq_true rfl) (Nat.le_of_ble_eq_true rfl) (fun _ => t_RM_refuse e3) ?_
      exact x_iretf F (i := 49) rfl rfl h hQ
    · replace h := if_F c h
      refine x_iconst F.1 (i := 22) rfl ic_0 ?_
      refine x_istore_n F.1 (i := 23) rfl (Nat.le_of_ble_eq_true rfl) (Nat.le_of_ble_eq_true rfl) rfl ?_
      exact x_wk F.1 ((t_RM_firstSaid_l38 F hQ ih FU) _ _ _ h) ⟨rfl, rfl, rfl, rfl, trivial⟩
set_option maxHeartbeats 4000000 in
theorem t_RM_firstSaid {w : kx_W} {d : Nat} {M : kx_M} {Q : Option Value → kx_M → Prop} {p1 : Int32} {r : Int32} {M' : kx_M} (h : f_RM_firstSaid p1 M = some (r, M')) (hQ : Q (some (.int r)) M') : Ct w (d + 2) m_RM_firstSaid [.ref 135, .int p1] M Q := by
  refine mk_ct ok_RM_firstSaid (Nat.le_of_ble_eq_true rfl) (fun G F => ?_)
  rw [f_RM_firstSaid] at h
  show G 0 [some (.ref 135), some (.int p1), none, none] [] M
  refine x_aload_n F.1 (i := 0) rfl rfl ?_
  refine x_iconst F.1 (i := 1) rfl ic_0 ?_
  refine x_putI F.1 (i := 2) rfl fl_RM_68 pf_RM_thrown rfl (by rfl) ?_
  replace h := bd_e h
  refine x_aload_n F.1 (i := 3) rfl rfl ?_
  refine x_iconst F.1 (i := 4) rfl ic_0 ?_
  refine x_putI F.1 (i := 5) rfl fl_RM_71 pf_RM_status rfl (by rfl) ?_
  replace h := bd_e h
  refine x_aload_n F.1 (i := 6) rfl rfl ?_
  refine x_iload_n F.1 (i := 7) rfl rfl ?_
  refine cal_e h (fun r1 M3 e2 h => ?_)
  refine x_cV1i F.1 (i := 8) rfl ml_RM_339 ok_RM_isClauseAt rfl (Nat.le_of_ble_eq_true rfl) (Nat.le_of_ble_eq_true rfl) (fun _ => t_RM_isClauseAt e2) ?_
  refine x_if_ne F.1 (i := 9) (tgt := 24) rfl (by decide) (fun c => ?_) (fun c => ?_)
  · replace h := if_F c h
    refine x_iconst F.1 (i := 14) rfl ic_0 ?_
    refine x_istore_n F.1 (i := 15) rfl (Nat.le_of_ble_eq_true rfl) (Nat.le_of_ble_eq_true rfl) rfl ?_
    exact x_wk F.1 ((t_RM_firstSaid_l26 F (res := (r, M')) hQ FU) _ _ h) ⟨rfl, rfl, rfl, trivial⟩
  · replace h := if_T c h
    refine x_aload_n F.1 (i := 10) rfl rfl ?_
    refine x_iconst F.1 (i := 11) rfl ic_2 ?_
    refine cal_e h (fun r3 M4 e4 h => ?_)
    refine x_cV1i F.1 (i := 12) rfl ml_RM_321 ok_RM_refuse rfl (Nat.le_of_ble_eq_true rfl) (Nat.le_of_ble_eq_true rfl) (fun _ => t_RM_refuse e4) ?_
    exact x_iretf F (i := 13) rfl rfl h (res := (r, M')) hQ
set_option maxHeartbeats 4000000 in
theorem t_RM_bound_l4 {w : kx_W} {d : Nat} {Q : Option Value → kx_M → Prop} {G : Nat → List (Option Value) → List Value → kx_M → Prop} (F : Sd w (d + 3) m_RM_bound Q G) {p1 : Int32} {res : Int32 × kx_M} (hQ : Q (some (.int res.1)) res.2) :
    ∀ (n : Nat) (x2 : Int32) (x3 : Int32) (M : kx_M),
    f_RM_bound_l4 p1 n x2 x3 M = some res → G 4 [some (.ref 135), some (.int p1), some (.int x2), some (.int x3)] [] M := by
  intro n
  induction n with
  | zero =>
    intro x2 x3 M h
    exact absurd h (by rw [f_RM_bound_l4]; exact fun z => nomatch z)
  | succ n ih =>
    intro x2 x3 M h
    rw [f_RM_bound_l4] at h
    refine x_iload_n F.1 (i := 4) rfl rfl ?_
    refine x_aload_n F.1 (i := 5) rfl rfl ?_
    refine x_getC F.1 (i := 6) rfl fl_RM_35 rfl (by rfl) ?_
    refine x_iconst F.1 (i := 7) rfl ic_4 ?_
    refine gd_e h (fun g1 h => ?_)
    refine x_iald F.1 (i := 8) rfl rfl (inb_e g1) ?_
    refine x_icmp_ge F.1 (i := 9) (tgt := 47) rfl (by decide) (fun c => ?_) (fun c => ?_)
    · replace h := if_T c h
      refine x_iload_n F.1 (i := 30) rfl rfl ?_
      exact x_iretf F (i := 31) rfl rfl h hQ
    · replace h := if_F c h
      refine x_iload_n F.1 (i := 10) rfl rfl ?_
      refine x_aload_n F.1 (i := 11) rfl rfl ?_
      refine x_iload_n F.1 (i := 12) rfl rfl ?_
      refine x_iload_n F.1 (i := 13) rfl rfl ?_
      refine cal_e h (fun r2 M1 e3 h => ?_)
      refine x_cV2i F.1 (i := 14) rfl ml_RM_313 ok_RM_timesIn rfl (Nat.le_of_ble_eq_true rfl) (Nat.le_of_ble_eq_true rfl) (fun _ => t_RM_timesIn e3) ?_
      refine x_if_le F.1 (i := 15) (tgt := 38) rfl (by decide) (fun c => ?_) (fun c => ?_)
      · replace h := if_T c h
        refine x_iconst F.1 (i := 25) rfl ic_0 ?_
        refine x_ior F.1 (i := 26) rfl ?_
        refine x_istore_n F.1 (i := 27) rfl (Nat.le_of_ble_eq_true rfl) (Nat.le_of_ble_eq_true rfl) rfl ?_
        replace h := bd_e h
        refine x_iinc F.1 (i := 28) rfl rfl rfl (Nat.le_of_ble_eq_true rfl) rfl ?_
        replace h := bd_e h
        refine x_goto F.1 (i := 29) (tgt := 4) rfl (by decide) ?_
        exact x_wk F.1 (ih _ _ _ h) ⟨rfl, rfl, rfl, rfl, trivial⟩
      · replace h := if_F c h
        refine x_iconst F.1 (i := 16) rfl ic_1 ?_
        refine x_aload_n F.1 (i := 17) rfl rfl ?_
        refine x_getC F.1 (i := 18) rfl fl_RM_35 rfl (by rfl) ?_
        refine x_bipush F.1 (i := 19) rfl bp_100 ?_
        refine x_iload_n F.1 (i := 20) rfl rfl ?_
        refine x_iadd F.1 (i := 21) rfl ?_
        refine gd_e h (fun g6 h => ?_)
        refine x_iald F.1 (i := 22) rfl rfl (inb_e g6) ?_
        refine x_ishl F.1 (i := 23) rfl ?_
        refine x_goto F.1 (i := 24) (tgt := 39) rfl (by decide) ?_
        refine x_ior F.1 (i := 26) rfl ?_
        refine x_istore_n F.1 (i := 27) rfl (Nat.le_of_ble_eq_true rfl) (Nat.le_of_ble_eq_true rfl) rfl ?_
        replace h := bd_e h
        refine x_iinc F.1 (i := 28) rfl rfl rfl (Nat.le_of_ble_eq_true rfl) rfl ?_
        replace h := bd_e h
        refine x_goto F.1 (i := 29) (tgt := 4) rfl (by decide) ?_
        exact x_wk F.1 (ih _ _ _ h) ⟨rfl, rfl, rfl, rfl, trivial⟩
set_option maxHeartbeats 4000000 in
theorem t_RM_bound {w : kx_W} {d : Nat} {M : kx_M} {Q : Option Value → kx_M → Prop} {p1 : Int32} {r : Int32} {M' : kx_M} (h : f_RM_bound p1 M = some (r, M')) (hQ : Q (some (.int r)) M') : Ct w (d + 3) m_RM_bound [.ref 135, .int p1] M Q := by
  refine mk_ct ok_RM_bound (Nat.le_of_ble_eq_true rfl) (fun G F => ?_)
  rw [f_RM_bound] at h
  show G 0 [some (.ref 135), some (.int p1), none, none] [] M
  refine x_iconst F.1 (i := 0) rfl ic_0 ?_
  refine x_istore_n F.1 (i := 1) rfl (Nat.le_of_ble_eq_true rfl) (Nat.le_of_ble_eq_true rfl) rfl ?_
  refine x_iconst F.1 (i := 2) rfl ic_0 ?_
  refine x_istore_n F.1 (i := 3) rfl (Nat.le_of_ble_eq_true rfl) (Nat.le_of_ble_eq_true rfl) rfl ?_
  exact x_wk F.1 ((t_RM_bound_l4 F (res := (r, M')) hQ FU) _ _ _ h) ⟨rfl, rfl, rfl, rfl, trivial⟩
set_option maxHeartbeats 4000000 in
theorem t_RM_binds {w : kx_W} {d : Nat} {M : kx_M} {Q : Option Value → kx_M → Prop} {p1 : Int32} {r : Int32} {M' : kx_M} (h : f_RM_binds p1 M = some (r, M')) (hQ : Q (some (.int r)) M') : Ct w (d + 4) m_RM_binds [.ref 135, .int p1] M Q := by
  refine mk_ct ok_RM_binds (Nat.le_of_ble_eq_true rfl) (fun G F => ?_)
  rw [f_RM_binds] at h
  show G 0 [some (.ref 135), some (.int p1)] [] M
  refine x_aload_n F.1 (i := 0) rfl rfl ?_
  refine x_iconst F.1 (i := 1) rfl ic_0 ?_
  refine x_putI F.1 (i := 2) rfl fl_RM_68 pf_RM_thrown rfl (by rfl) ?_
  replace h := bd_e h
  refine x_aload_n F.1 (i := 3) rfl rfl ?_
  refine x_iconst F.1 (i := 4) rfl ic_0 ?_
  refine x_putI F.1 (i := 5) rfl fl_RM_71 pf_RM_status rfl (by rfl) ?_
  replace h := bd_e h
  refine x_aload_n F.1 (i := 6) rfl rfl ?_
  refine x_iload_n F.1 (i := 7) rfl rfl ?_
  refine cal_e h (fun r1 M3 e2 h => ?_)
  refine x_cV1i F.1 (i := 8) rfl ml_RM_339 ok_RM_isClauseAt rfl (Nat.le_of_ble_eq_true rfl) (Nat.le_of_ble_eq_true rfl) (fun _ => t_RM_isClauseAt e2) ?_
  refine x_if_eq F.1 (i := 9) (tgt := 26) rfl (by decide) (fun c => ?_) (fun c => ?_)
  · replace h := if_T c h
    refine x_aload_n F.1 (i := 14) rfl rfl ?_
    refine x_iconst F.1 (i := 15) rfl ic_2 ?_
    refine cal_e h (fun r3 M4 e4 h => ?_)
    refine x_cV1i F.1 (i := 16) rfl ml_RM_321 ok_RM_refuse rfl (Nat.le_of_ble_eq_true rfl) (Nat.le_of_ble_eq_true rfl) (fun _ => t_RM_refuse e4) ?_
    exact x_iretf F (i := 17) rfl rfl h (res := (r, M')) hQ
  · replace h := if_F c h
    refine x_aload_n F.1 (i := 10) rfl rfl ?_
    refine x_iload_n F.1 (i := 11) rfl rfl ?_
    refine cal_e h (fun r5 M5 e6 h => ?_)
    refine x_cV1i F.1 (i := 12) rfl ml_RM_394 ok_RM_bound rfl (Nat.le_of_ble_eq_true rfl) (Nat.le_of_ble_eq_true rfl) (fun _ => t_RM_bound e6) ?_
    refine x_goto F.1 (i := 13) (tgt := 31) rfl (by decide) ?_
    exact x_iretf F (i := 17) rfl rfl h (res := (r, M')) hQ
set_option maxHeartbeats 4000000 in
theorem t_RM_boundBy_l28 {w : kx_W} {d : Nat} {Q : Option Value → kx_M → Prop} {G : Nat → List (Option Value) → List Value → kx_M → Prop} (F : Sd w (d + 4) m_RM_boundBy Q G) {p1 : Int32} {res : Int32 × kx_M} (hQ : Q (some (.int res.1)) res.2) :
    ∀ (n : Nat) (x2 : Int32) (x3 : Int32) (M : kx_M),
    f_RM_boundBy_l28 p1 n x2 x3 M = some res → G 28 [some (.ref 135), some (.int p1), some (.int x2), some (.int x3)] [] M := by
  intro n
  induction n with
  | zero =>
    intro x2 x3 M h
    exact absurd h (by rw [f_RM_boundBy_l28]; exact fun z => nomatch z)
  | succ n ih =>
    intro x2 x3 M h
    rw [f_RM_boundBy_l28] at h
    refine x_iload_n F.1 (i := 18) rfl rfl ?_
    refine x_aload_n F.1 (i := 19) rfl rfl ?_
    refine x_getC F.1 (i := 20) rfl fl_RM_35 rfl (by rfl) ?_
    refine x_iconst F.1 (i := 21) rfl ic_3 ?_
    refine gd_e h (fun g1 h => ?_)
    refine x_iald F.1 (i := 22) rfl rfl (inb_e g1) ?_
    refine x_icmp_ge F.1 (i := 23) (tgt := 66) rfl (by decide) (fun c => ?_) (fun c => ?_)
    · replace h := if_T c h
      refine x_iload_n F.1 (i := 40) rfl rfl ?_
      exact x_iretf F (i := 41) rfl rfl h hQ
    · replace h := if_F c h
      refine x_iload_n F.1 (i := 24) rfl rfl ?_
      refine x_aload_n F.1 (i := 25) rfl rfl ?_
      refine x_iload_n F.1 (i := 26) rfl rfl ?_
      refine cal_e h (fun r2 M1 e3 h => ?_)
      refine x_cV1i F.1 (i := 27) rfl ml_RM_394 ok_RM_bound rfl (Nat.le_of_ble_eq_true rfl) (Nat.le_of_ble_eq_true rfl) (fun _ => t_RM_bound e3) ?_
      refine x_iload_n F.1 (i := 28) rfl rfl ?_
      refine cal_e h (fun r4 M2 e5 h => ?_)
      refine x_cS2i F.1 (i := 29) rfl ml_RM_241 ok_RM_has (Nat.le_of_ble_eq_true rfl) (Nat.le_of_ble_eq_true rfl) (fun _ => t_RM_has e5) ?_
      refine x_if_eq F.1 (i := 30) (tgt := 57) rfl (by decide) (fun c => ?_) (fun c => ?_)
      · replace h := if_T c h
        refine x_iconst F.1 (i := 35) rfl ic_0 ?_
        refine x_ior F.1 (i := 36) rfl ?_
        refine x_istore_n F.1 (i := 37) rfl (Nat.le_of_ble_eq_true rfl) (Nat.le_of_ble_eq_true rfl) rfl ?_
        replace h := bd_e h
        refine x_iinc F.1 (i := 38) rfl rfl rfl (Nat.le_of_ble_eq_true rfl) rfl ?_
        replace h := bd_e h
        refine x_goto F.1 (i := 39) (tgt := 28) rfl (by decide) ?_
        exact x_wk F.1 (ih _ _ _ h) ⟨rfl, rfl, rfl, rfl, trivial⟩
      · replace h := if_F c h
        refine x_iconst F.1 (i := 31) rfl ic_1 ?_
        refine x_iload_n F.1 (i := 32) rfl rfl ?_
        refine x_ishl F.1 (i := 33) rfl ?_
        refine x_goto F.1 (i := 34) (tgt := 58) rfl (by decide) ?_
        refine x_ior F.1 (i := 36) rfl ?_
        refine x_istore_n F.1 (i := 37) rfl (Nat.le_of_ble_eq_true rfl) (Nat.le_of_ble_eq_true rfl) rfl ?_
        replace h := bd_e h
        refine x_iinc F.1 (i := 38) rfl rfl rfl (Nat.le_of_ble_eq_true rfl) rfl ?_
        replace h := bd_e h
        refine x_goto F.1 (i := 39) (tgt := 28) rfl (by decide) ?_
        exact x_wk F.1 (ih _ _ _ h) ⟨rfl, rfl, rfl, rfl, trivial⟩
set_option maxHeartbeats 4000000 in
theorem t_RM_boundBy {w : kx_W} {d : Nat} {M : kx_M} {Q : Option Value → kx_M → Prop} {p1 : Int32} {r : Int32} {M' : kx_M} (h : f_RM_boundBy p1 M = some (r, M')) (hQ : Q (some (.int r)) M') : Ct w (d + 4) m_RM_boundBy [.ref 135, .int p1] M Q := by
  refine mk_ct ok_RM_boundBy (Nat.le_of_ble_eq_true rfl) (fun G F => ?_)
  rw [f_RM_boundBy] at h
  show G 0 [some (.ref 135), some (.int p1), none, none] [] M
  refine x_aload_n F.1 (i := 0) rfl rfl ?_
  refine x_iconst F.1 (i := 1) rfl ic_0 ?_
  refine x_putI F.1 (i := 2) rfl fl_RM_68 pf_RM_thrown rfl (by rfl) ?_
  replace h := bd_e h
  refine x_aload_n F.1 (i := 3) rfl rfl ?_
  refine x_iconst F.1 (i := 4) rfl ic_0 ?_
  refine x_putI F.1 (i := 5) rfl fl_RM_71 pf_RM_status rfl (by rfl) ?_
  replace h := bd_e h
  refine x_aload_n F.1 (i := 6) rfl rfl ?_
  refine x_iload_n F.1 (i := 7) rfl rfl ?_
  refine cal_e h (fun r1 M3 e2 h => ?_)
  refine x_cV1i F.1 (i := 8) rfl ml_RM_336 ok_RM_isQueenAt rfl (Nat.le_of_ble_eq_true rfl) (Nat.le_of_ble_eq_true rfl) (fun _ => t_RM_isQueenAt e2) ?_
  refine x_if_ne F.1 (i := 9) (tgt := 24) rfl (by decide) (fun c => ?_) (fun c => ?_)
  · replace h := if_F c h
    refine x_iconst F.1 (i := 14) rfl ic_0 ?_
    refine x_istore_n F.1 (i := 15) rfl (Nat.le_of_ble_eq_true rfl) (Nat.le_of_ble_eq_true rfl) rfl ?_
    refine x_iconst F.1 (i := 16) rfl ic_0 ?_
    refine x_istore_n F.1 (i := 17) rfl (Nat.le_of_ble_eq_true rfl) (Nat.le_of_ble_eq_true rfl) rfl ?_
    exact x_wk F.1 ((t_RM_boundBy_l28 F (res := (r, M')) hQ FU) _ _ _ h) ⟨rfl, rfl, rfl, rfl, trivial⟩
  · replace h := if_T c h
    refine x_aload_n F.1 (i := 10) rfl rfl ?_
    refine x_iconst F.1 (i := 11) rfl ic_2 ?_
    refine cal_e h (fun r3 M4 e4 h => ?_)
    refine x_cV1i F.1 (i := 12) rfl ml_RM_321 ok_RM_refuse rfl (Nat.le_of_ble_eq_true rfl) (Nat.le_of_ble_eq_true rfl) (fun _ => t_RM_refuse e4) ?_
    exact x_iretf F (i := 13) rfl rfl h (res := (r, M')) hQ
set_option maxHeartbeats 4000000 in
theorem t_RM_clashing_l29 {w : kx_W} {d : Nat} {Q : Option Value → kx_M → Prop} {G : Nat → List (Option Value) → List Value → kx_M → Prop} (F : Sd w (d + 5) m_RM_clashing Q G) {k14 : Int32 → Int32 → Int32 → kx_M → Option (Int32 × kx_M)} {res : Int32 × kx_M} (hQ : Q (some (.int res.1)) res.2) (hk14 : ∀ (x1 : Int32) (x2 : Int32) (x3 : Int32) (M : kx_M), k14 x1 x2 x3 M = some res → G 14 [some (.ref 135), some (.int x1), some (.int x2), some (.int x3), none] [] M) :
    ∀ (n : Nat) (x1 : Int32) (x2 : Int32) (x3 : Int32) (x4 : Int32) (M : kx_M),
    f_RM_clashing_l29 k14 n x1 x2 x3 x4 M = some res → G 29 [some (.ref 135), some (.int x1), some (.int x2), some (.int x3), some (.int x4)] [] M := by
  intro n
  induction n with
  | zero =>
    intro x1 x2 x3 x4 M h
    exact absurd h (by rw [f_RM_clashing_l29]; exact fun z => nomatch z)
  | succ n ih =>
    intro x1 x2 x3 x4 M h
    rw [f_RM_clashing_l29] at h
    refine x_iload F.1 (i := 20) rfl rfl ?_
    refine x_aload_n F.1 (i := 21) rfl rfl ?_
    refine x_getC F.1 (i := 22) rfl fl_RM_35 rfl (by rfl) ?_
    refine x_iconst F.1 (i := 23) rfl ic_3 ?_
    refine gd_e h (fun g1 h => ?_)
    refine x_iald F.1 (i := 24) rfl rfl (inb_e g1) ?_
    refine x_icmp_ge F.1 (i := 25) (tgt := 101) rfl (by decide) (fun c => ?_) (fun c => ?_)
    · replace h := if_T c h
      refine x_iinc F.1 (i := 56) rfl rfl rfl (Nat.le_of_ble_eq_true rfl) rfl ?_
      replace h := bd_e h
      refine x_goto F.1 (i := 57) (tgt := 14) rfl (by decide) ?_
      exact x_wk F.1 (hk14 _ _ _ _ h) ⟨rfl, rfl, rfl, rfl, trivial⟩
    · replace h := if_F c h
      refine x_iload_n F.1 (i := 26) rfl rfl ?_
      refine x_iload_n F.1 (i := 27) rfl rfl ?_
      refine cal_e h (fun r3 M1 e4 h => ?_)
      refine x_cS2i F.1 (i := 28) rfl ml_RM_241 ok_RM_has (Nat.le_of_ble_eq_true rfl) (Nat.le_of_ble_eq_true rfl) (fun _ => t_RM_has e4) ?_
      refine x_if_eq F.1 (i := 29) (tgt := 95) rfl (by decide) (fun c => ?_) (fun c => ?_)
      · replace h := if_T c h
        refine x_iinc F.1 (i := 54) rfl rfl rfl (Nat.le_of_ble_eq_true rfl) rfl ?_
        replace h := bd_e h
        refine x_goto F.1 (i := 55) (tgt := 29) rfl (by decide) ?_
        exact x_wk F.1 (ih _ _ _ _ _ h) ⟨rfl, rfl, rfl, rfl, rfl, trivial⟩
      · replace h := if_F c h
        refine x_iload_n F.1 (i := 30) rfl rfl ?_
        refine x_iload F.1 (i := 31) rfl rfl ?_
        refine cal_e h (fun r6 M2 e7 h => ?_)
        refine x_cS2i F.1 (i := 32) rfl ml_RM_241 ok_RM_has (Nat.le_of_ble_eq_true rfl) (Nat.le_of_ble_eq_true rfl) (fun _ => t_RM_has e7) ?_
        refine x_if_eq F.1 (i := 33) (tgt := 95) rfl (by decide) (fun c => ?_) (fun c => ?_)
        · replace h := if_T c h
          refine x_iinc F.1 (i := 54) rfl rfl rfl (Nat.le_of_ble_eq_true rfl) rfl ?_
          replace h := bd_e h
          refine x_goto F.1 (i := 55) (tgt := 29) rfl (by decide) ?_
          exact x_wk F.1 (ih _ _ _ _ _ h) ⟨rfl, rfl, rfl, rfl, rfl, trivial⟩
        · replace h := if_F c h
          refine x_aload_n F.1 (i := 34) rfl rfl ?_
          refine x_getC F.1 (i := 35) rfl fl_RM_35 rfl (by rfl) ?_
          refine x_bipush F.1 (i := 36) rfl bp_46 ?_
          refine x_iload_n F.1 (i := 37) rfl rfl ?_
          refine x_iadd F.1 (i := 38) rfl ?_
          refine gd_e h (fun g9 h => ?_)
          refine x_iald F.1 (i := 39) rfl rfl (inb_e g9) ?_
          refine x_iload F.1 (i := 40) rfl rfl ?_
          refine cal_e h (fun r10 M3 e11 h => ?_)
          refine x_cS2i F.1 (i := 41) rfl ml_RM_241 ok_RM_has (Nat.le_of_ble_eq_true rfl) (Nat.le_of_ble_eq_true rfl) (fun _ => t_RM_has e11) ?_
          refine x_if_ne F.1 (i := 42) (tgt := 77) rfl (by decide) (fun c => ?_) (fun c => ?_)
          · replace h := if_F c h
            refine x_iload_n F.1 (i := 44) rfl rfl ?_
            refine x_if_ne F.1 (i := 45) (tgt := 92) rfl (by decide) (fun c => ?_) (fun c => ?_)
            · replace h := if_F c h
              refine x_iinc F.1 (i := 53) rfl rfl rfl (Nat.le_of_ble_eq_true rfl) rfl ?_
              replace h := bd_e h
              refine x_iinc F.1 (i := 54) rfl rfl rfl (Nat.le_of_ble_eq_true rfl) rfl ?_
              replace h := bd_e h
              refine x_goto F.1 (i := 55) (tgt := 29) rfl (by decide) ?_
              exact x_wk F.1 (ih _ _ _ _ _ h) ⟨rfl, rfl, rfl, rfl, rfl, trivial⟩
            · replace h := if_T c h
              refine x_aload_n F.1 (i := 46) rfl rfl ?_
              refine x_bipush F.1 (i := 47) rfl bp_10 ?_
              refine x_iload_n F.1 (i := 48) rfl rfl ?_
              refine x_imul F.1 (i := 49) rfl ?_
              refine x_iload F.1 (i := 50) rfl rfl ?_
              refine x_iadd F.1 (i := 51) rfl ?_
              refine x_putI F.1 (i := 52) rfl fl_RM_397 pf_RM_couple rfl (by rfl) ?_
              replace h := bd_e h
              refine x_iinc F.1 (i := 53) rfl rfl rfl (Nat.le_of_ble_eq_true rfl) rfl ?_
              replace h := bd_e h
              refine x_iinc F.1 (i := 54) rfl rfl rfl (Nat.le_of_ble_eq_true rfl) rfl ?_
              replace h := bd_e h
              refine x_goto F.1 (i := 55) (tgt := 29) rfl (by decide) ?_
              exact x_wk F.1 (ih _ _ _ _ _ h) ⟨rfl, rfl, rfl, rfl, rfl, trivial⟩
          · replace h := if_T c h
            refine x_goto F.1 (i := 43) (tgt := 95) rfl (by decide) ?_
            refine x_iinc F.1 (i := 54) rfl rfl rfl (Nat.le_of_ble_eq_true rfl) rfl ?_
            replace h := bd_e h
            refine x_goto F.1 (i := 55) (tgt := 29) rfl (by decide) ?_
            exact x_wk F.1 (ih _ _ _ _ _ h) ⟨rfl, rfl, rfl, rfl, rfl, trivial⟩
set_option maxHeartbeats 4000000 in
theorem t_RM_clashing_l14 {w : kx_W} {d : Nat} {Q : Option Value → kx_M → Prop} {G : Nat → List (Option Value) → List Value → kx_M → Prop} (F : Sd w (d + 5) m_RM_clashing Q G) {res : Int32 × kx_M} (hQ : Q (some (.int res.1)) res.2) :
    ∀ (n : Nat) (x1 : Int32) (x2 : Int32) (x3 : Int32) (M : kx_M),
    f_RM_clashing_l14 n x1 x2 x3 M = some res → G 14 [some (.ref 135), some (.int x1), some (.int x2), some (.int x3), none] [] M := by
  intro n
  induction n with
  | zero =>
    intro x1 x2 x3 M h
    exact absurd h (by rw [f_RM_clashing_l14]; exact fun z => nomatch z)
  | succ n ih =>
    intro x1 x2 x3 M h
    rw [f_RM_clashing_l14] at h
    refine x_iload_n F.1 (i := 10) rfl rfl ?_
    refine x_aload_n F.1 (i := 11) rfl rfl ?_
    refine x_getC F.1 (i := 12) rfl fl_RM_35 rfl (by rfl) ?_
    refine x_iconst F.1 (i := 13) rfl ic_3 ?_
    refine gd_e h (fun g1 h => ?_)
    refine x_iald F.1 (i := 14) rfl rfl (inb_e g1) ?_
    refine x_icmp_ge F.1 (i := 15) (tgt := 107) rfl (by decide) (fun c => ?_) (fun c => ?_)
    · replace h := if_T c h
      refine x_iload_n F.1 (i := 58) rfl rfl ?_
      exact x_iretf F (i := 59) rfl rfl h hQ
    · replace h := if_F c h
      refine x_iload_n F.1 (i := 16) rfl rfl ?_
      refine x_iconst F.1 (i := 17) rfl ic_1 ?_
      refine x_iadd F.1 (i := 18) rfl ?_
      refine x_istore F.1 (i := 19) rfl (Nat.le_of_ble_eq_true rfl) (Nat.le_of_ble_eq_true rfl) rfl ?_
      replace h := bd_e h
      exact x_wk F.1 ((t_RM_clashing_l29 F hQ ih FU) _ _ _ _ _ h) ⟨rfl, rfl, rfl, rfl, rfl, trivial⟩
set_option maxHeartbeats 4000000 in
theorem t_RM_clashing {w : kx_W} {d : Nat} {M : kx_M} {Q : Option Value → kx_M → Prop} {r : Int32} {M' : kx_M} (h : f_RM_clashing M = some (r, M')) (hQ : Q (some (.int r)) M') : Ct w (d + 5) m_RM_clashing [.ref 135] M Q := by
  refine mk_ct ok_RM_clashing (Nat.le_of_ble_eq_true rfl) (fun G F => ?_)
  rw [f_RM_clashing] at h
  show G 0 [some (.ref 135), none, none, none, none] [] M
  refine x_aload_n F.1 (i := 0) rfl rfl ?_
  refine cal_e h (fun r1 M1 e2 h => ?_)
  refine x_cV0i F.1 (i := 1) rfl ml_RM_327 ok_RM_saidOnes rfl (Nat.le_of_ble_eq_true rfl) (Nat.le_of_ble_eq_true rfl) (fun _ => t_RM_saidOnes e2) ?_
  refine x_istore_n F.1 (i := 2) rfl (Nat.le_of_ble_eq_true rfl) (Nat.le_of_ble_eq_true rfl) rfl ?_
  refine x_iconst F.1 (i := 3) rfl ic_0 ?_
  refine x_istore_n F.1 (i := 4) rfl (Nat.le_of_ble_eq_true rfl) (Nat.le_of_ble_eq_true rfl) rfl ?_
  refine x_aload_n F.1 (i := 5) rfl rfl ?_
  refine x_iconst F.1 (i := 6) rfl ic_n1 ?_
  refine x_putI F.1 (i := 7) rfl fl_RM_397 pf_RM_couple rfl (by rfl) ?_
  replace h := bd_e h
  refine x_iconst F.1 (i := 8) rfl ic_0 ?_
  refine x_istore_n F.1 (i := 9) rfl (Nat.le_of_ble_eq_true rfl) (Nat.le_of_ble_eq_true rfl) rfl ?_
  exact x_wk F.1 ((t_RM_clashing_l14 F (res := (r, M')) hQ FU) _ _ _ _ h) ⟨rfl, rfl, rfl, rfl, trivial⟩
set_option maxHeartbeats 4000000 in
theorem t_RM_clashes {w : kx_W} {d : Nat} {M : kx_M} {Q : Option Value → kx_M → Prop} {r : Int32} {M' : kx_M} (h : f_RM_clashes M = some (r, M')) (hQ : Q (some (.int r)) M') : Ct w (d + 6) m_RM_clashes [.ref 135] M Q := by
  refine mk_ct ok_RM_clashes (Nat.le_of_ble_eq_true rfl) (fun G F => ?_)
  rw [f_RM_clashes] at h
  show G 0 [some (.ref 135)] [] M
  refine x_aload_n F.1 (i := 0) rfl rfl ?_
  refine x_iconst F.1 (i := 1) rfl ic_0 ?_
  refine x_putI F.1 (i := 2) rfl fl_RM_68 pf_RM_thrown rfl (by rfl) ?_
  replace h := bd_e h
  refine x_aload_n F.1 (i := 3) rfl rfl ?_
  refine x_iconst F.1 (i := 4) rfl ic_0 ?_
  refine x_putI F.1 (i := 5) rfl fl_RM_71 pf_RM_status rfl (by rfl) ?_
  replace h := bd_e h
  refine x_aload_n F.1 (i := 6) rfl rfl ?_
  refine cal_e h (fun r1 M3 e2 h => ?_)
  refine x_cV0i F.1 (i := 7) rfl ml_RM_400 ok_RM_clashing rfl (Nat.le_of_ble_eq_true rfl) (Nat.le_of_ble_eq_true rfl) (fun _ => t_RM_clashing e2) ?_
  exact x_iretf F (i := 8) rfl rfl h (res := (r, M')) hQ
set_option maxHeartbeats 4000000 in
theorem t_RM_firstClash {w : kx_W} {d : Nat} {M : kx_M} {Q : Option Value → kx_M → Prop} {r : Int32} {M' : kx_M} (h : f_RM_firstClash M = some (r, M')) (hQ : Q (some (.int r)) M') : Ct w (d + 6) m_RM_firstClash [.ref 135] M Q := by
  refine mk_ct ok_RM_firstClash (Nat.le_of_ble_eq_true rfl) (fun G F => ?_)
  rw [f_RM_firstClash] at h
  show G 0 [some (.ref 135)] [] M
  refine x_aload_n F.1 (i := 0) rfl rfl ?_
  refine x_iconst F.1 (i := 1) rfl ic_0 ?_
  refine x_putI F.1 (i := 2) rfl fl_RM_68 pf_RM_thrown rfl (by rfl) ?_
  replace h := bd_e h
  refine x_aload_n F.1 (i := 3) rfl rfl ?_
  refine x_iconst F.1 (i := 4) rfl ic_0 ?_
  refine x_putI F.1 (i := 5) rfl fl_RM_71 pf_RM_status rfl (by rfl) ?_
  replace h := bd_e h
  refine x_aload_n F.1 (i := 6) rfl rfl ?_
  refine cal_e h (fun r1 M3 e2 h => ?_)
  refine x_cV0i F.1 (i := 7) rfl ml_RM_400 ok_RM_clashing rfl (Nat.le_of_ble_eq_true rfl) (Nat.le_of_ble_eq_true rfl) (fun _ => t_RM_clashing e2) ?_
  refine x_pop F.1 (i := 8) rfl rfl ?_
  refine x_aload_n F.1 (i := 9) rfl rfl ?_
  refine x_getI F.1 (i := 10) rfl fl_RM_397 rfl (by rfl) ?_
  refine x_if_ge F.1 (i := 11) (tgt := 31) rfl (by decide) (fun c => ?_) (fun c => ?_)
  · replace h := if_T c h
    refine x_aload_n F.1 (i := 16) rfl rfl ?_
    refine x_getI F.1 (i := 17) rfl fl_RM_397 rfl (by rfl) ?_
    exact x_iretf F (i := 18) rfl rfl h (res := (r, M')) hQ
  · replace h := if_F c h
    refine x_aload_n F.1 (i := 12) rfl rfl ?_
    refine x_bipush F.1 (i := 13) rfl bp_8 ?_
    refine cal_e h (fun r3 M4 e4 h => ?_)
    refine x_cV1i F.1 (i := 14) rfl ml_RM_321 ok_RM_refuse rfl (Nat.le_of_ble_eq_true rfl) (Nat.le_of_ble_eq_true rfl) (fun _ => t_RM_refuse e4) ?_
    refine x_goto F.1 (i := 15) (tgt := 35) rfl (by decide) ?_
    exact x_iretf F (i := 18) rfl rfl h (res := (r, M')) hQ
set_option maxHeartbeats 4000000 in
theorem t_RM_needs {w : kx_W} {d : Nat} {M : kx_M} {Q : Option Value → kx_M → Prop} {p1 : Int32} {r : Int32} {M' : kx_M} (h : f_RM_needs p1 M = some (r, M')) (hQ : Q (some (.int r)) M') : Ct w (d + 2) m_RM_needs [.ref 135, .int p1] M Q := by
  refine mk_ct ok_RM_needs (Nat.le_of_ble_eq_true rfl) (fun G F => ?_)
  rw [f_RM_needs] at h
  show G 0 [some (.ref 135), some (.int p1), none] [] M
  refine x_aload_n F.1 (i := 0) rfl rfl ?_
  refine x_iconst F.1 (i := 1) rfl ic_0 ?_
  refine x_putI F.1 (i := 2) rfl fl_RM_68 pf_RM_thrown rfl (by rfl) ?_
  replace h := bd_e h
  refine x_aload_n F.1 (i := 3) rfl rfl ?_
  refine x_iconst F.1 (i := 4) rfl ic_0 ?_
  refine x_putI F.1 (i := 5) rfl fl_RM_71 pf_RM_status rfl (by rfl) ?_
  replace h := bd_e h
  refine x_aload_n F.1 (i := 6) rfl rfl ?_
  refine x_iload_n F.1 (i := 7) rfl rfl ?_
  refine cal_e h (fun r1 M3 e2 h => ?_)
  refine x_cV1i F.1 (i := 8) rfl ml_RM_342 ok_RM_isTray rfl (Nat.le_of_ble_eq_true rfl) (Nat.le_of_ble_eq_true rfl) (fun _ => t_RM_isTray e2) ?_
  refine x_if_ne F.1 (i := 9) (tgt := 24) rfl (by decide) (fun c => ?_) (fun c => ?_)
  · replace h := if_F c h
    refine x_aload_n F.1 (i := 14) rfl rfl ?_
    refine x_iload_n F.1 (i := 15) rfl rfl ?_
    refine x_iconst F.1 (i := 16) rfl ic_0 ?_
    refine cal_e h (fun r5 M5 e6 h => ?_)
    refine x_cV2i F.1 (i := 17) rfl ml_RM_384 ok_RM_whyNoRun rfl (Nat.le_of_ble_eq_true rfl) (Nat.le_of_ble_eq_true rfl) (fun _ => t_RM_whyNoRun e6) ?_
    refine x_istore_n F.1 (i := 18) rfl (Nat.le_of_ble_eq_true rfl) (Nat.le_of_ble_eq_true rfl) rfl ?_
    refine x_iload_n F.1 (i := 19) rfl rfl ?_
    refine x_if_le F.1 (i := 20) (tgt := 43) rfl (by decide) (fun c => ?_) (fun c => ?_)
    · replace h := if_T c h
      refine x_aload_n F.1 (i := 25) rfl rfl ?_
      refine x_iload_n F.1 (i := 26) rfl rfl ?_
      refine cal_e h (fun r7 M6 e8 h => ?_)
      refine x_cV1i F.1 (i := 27) rfl ml_RM_387 ok_RM_takesAll rfl (Nat.le_of_ble_eq_true rfl) (Nat.le_of_ble_eq_true rfl) (fun _ => t_RM_takesAll e8) ?_
      exact x_iretf F (i := 28) rfl rfl h (res := (r, M')) hQ
    · replace h := if_F c h
      refine x_aload_n F.1 (i := 21) rfl rfl ?_
      refine x_iload_n F.1 (i := 22) rfl rfl ?_
      refine cal_e h (fun r9 M7 e10 h => ?_)
      refine x_cV1i F.1 (i := 23) rfl ml_RM_321 ok_RM_refuse rfl (Nat.le_of_ble_eq_true rfl) (Nat.le_of_ble_eq_true rfl) (fun _ => t_RM_refuse e10) ?_
      refine x_goto F.1 (i := 24) (tgt := 48) rfl (by decide) ?_
      exact x_iretf F (i := 28) rfl rfl h (res := (r, M')) hQ
  · replace h := if_T c h
    refine x_aload_n F.1 (i := 10) rfl rfl ?_
    refine x_iconst F.1 (i := 11) rfl ic_1 ?_
    refine cal_e h (fun r3 M4 e4 h => ?_)
    refine x_cV1i F.1 (i := 12) rfl ml_RM_321 ok_RM_refuse rfl (Nat.le_of_ble_eq_true rfl) (Nat.le_of_ble_eq_true rfl) (fun _ => t_RM_refuse e4) ?_
    exact x_iretf F (i := 13) rfl rfl h (res := (r, M')) hQ
set_option maxHeartbeats 4000000 in
theorem t_RM_keeps_l2 {w : kx_W} {d : Nat} {Q : Option Value → kx_M → Prop} {G : Nat → List (Option Value) → List Value → kx_M → Prop} (F : Sd w d m_RM_keeps Q G) {res : Unit × kx_M} (hQ : Q none res.2) :
    ∀ (n : Nat) (x1 : Int32) (M : kx_M),
    f_RM_keeps_l2 n x1 M = some res → G 2 [some (.ref 135), some (.int x1)] [] M := by
  intro n
  induction n with
  | zero =>
    intro x1 M h
    exact absurd h (by rw [f_RM_keeps_l2]; exact fun z => nomatch z)
  | succ n ih =>
    intro x1 M h
    rw [f_RM_keeps_l2] at h
    refine x_iload_n F.1 (i := 2) rfl rfl ?_
    refine x_sipush F.1 (i := 3) rfl sp_496 ?_
    refine x_icmp_ge F.1 (i := 4) (tgt := 27) rfl (by decide) (fun c => ?_) (fun c => ?_)
    · replace h := if_T c h
      exact x_vretf F (i := 15) rfl rfl h hQ
    · replace h := if_F c h
      refine x_aload_n F.1 (i := 5) rfl rfl ?_
      refine x_getC F.1 (i := 6) rfl fl_RM_38 rfl (by rfl) ?_
      refine x_iload_n F.1 (i := 7) rfl rfl ?_
      refine x_aload_n F.1 (i := 8) rfl rfl ?_
      refine x_getC F.1 (i := 9) rfl fl_RM_35 rfl (by rfl) ?_
      refine x_iload_n F.1 (i := 10) rfl rfl ?_
      refine gd_e h (fun g1 h => ?_)
      refine x_iald F.1 (i := 11) rfl rfl (inb_e g1) ?_
      refine gd_e h (fun g2 h => ?_)
      refine x_iast F.1 (i := 12) rfl rfl (inb_e g2) ?_
      replace h := bd_e h
      refine x_iinc F.1 (i := 13) rfl rfl rfl (Nat.le_of_ble_eq_true rfl) rfl ?_
      replace h := bd_e h
      refine x_goto F.1 (i := 14) (tgt := 2) rfl (by decide) ?_
      exact x_wk F.1 (ih _ _ h) ⟨rfl, rfl, trivial⟩
set_option maxHeartbeats 4000000 in
theorem t_RM_keeps {w : kx_W} {d : Nat} {M : kx_M} {Q : Option Value → kx_M → Prop} {r : Unit} {M' : kx_M} (h : f_RM_keeps M = some (r, M')) (hQ : Q none M') : Ct w d m_RM_keeps [.ref 135] M Q := by
  refine mk_ct ok_RM_keeps (Nat.le_of_ble_eq_true rfl) (fun G F => ?_)
  rw [f_RM_keeps] at h
  show G 0 [some (.ref 135), none] [] M
  refine x_iconst F.1 (i := 0) rfl ic_0 ?_
  refine x_istore_n F.1 (i := 1) rfl (Nat.le_of_ble_eq_true rfl) (Nat.le_of_ble_eq_true rfl) rfl ?_
  exact x_wk F.1 ((t_RM_keeps_l2 F (res := (r, M')) hQ FU) _ _ h) ⟨rfl, rfl, trivial⟩
set_option maxHeartbeats 4000000 in
theorem t_RM_gives_l2 {w : kx_W} {d : Nat} {Q : Option Value → kx_M → Prop} {G : Nat → List (Option Value) → List Value → kx_M → Prop} (F : Sd w d m_RM_gives Q G) {res : Unit × kx_M} (hQ : Q none res.2) :
    ∀ (n : Nat) (x1 : Int32) (M : kx_M),
    f_RM_gives_l2 n x1 M = some res → G 2 [some (.ref 135), some (.int x1)] [] M := by
  intro n
  induction n with
  | zero =>
    intro x1 M h
    exact absurd h (by rw [f_RM_gives_l2]; exact fun z => nomatch z)
  | succ n ih =>
    intro x1 M h
    rw [f_RM_gives_l2] at h
    refine x_iload_n F.1 (i := 2) rfl rfl ?_
    refine x_sipush F.1 (i := 3) rfl sp_496 ?_
    refine x_icmp_ge F.1 (i := 4) (tgt := 27) rfl (by decide) (fun c => ?_) (fun c => ?_)
    · replace h := if_T c h
      exact x_vretf F (i := 15) rfl rfl h hQ
    · replace h := if_F c h
      refine x_aload_n F.1 (i := 5) rfl rfl ?_
      refine x_getC F.1 (i := 6) rfl fl_RM_35 rfl (by rfl) ?_
      refine x_iload_n F.1 (i := 7) rfl rfl ?_
      refine x_aload_n F.1 (i := 8) rfl rfl ?_
      refine x_getC F.1 (i := 9) rfl fl_RM_38 rfl (by rfl) ?_
      refine x_iload_n F.1 (i := 10) rfl rfl ?_
      refine gd_e h (fun g1 h => ?_)
      refine x_iald F.1 (i := 11) rfl rfl (inb_e g1) ?_
      refine gd_e h (fun g2 h => ?_)
      refine x_iast F.1 (i := 12) rfl rfl (inb_e g2) ?_
      replace h := bd_e h
      refine x_iinc F.1 (i := 13) rfl rfl rfl (Nat.le_of_ble_eq_true rfl) rfl ?_
      replace h := bd_e h
      refine x_goto F.1 (i := 14) (tgt := 2) rfl (by decide) ?_
      exact x_wk F.1 (ih _ _ h) ⟨rfl, rfl, trivial⟩
set_option maxHeartbeats 4000000 in
theorem t_RM_gives {w : kx_W} {d : Nat} {M : kx_M} {Q : Option Value → kx_M → Prop} {r : Unit} {M' : kx_M} (h : f_RM_gives M = some (r, M')) (hQ : Q none M') : Ct w d m_RM_gives [.ref 135] M Q := by
  refine mk_ct ok_RM_gives (Nat.le_of_ble_eq_true rfl) (fun G F => ?_)
  rw [f_RM_gives] at h
  show G 0 [some (.ref 135), none] [] M
  refine x_iconst F.1 (i := 0) rfl ic_0 ?_
  refine x_istore_n F.1 (i := 1) rfl (Nat.le_of_ble_eq_true rfl) (Nat.le_of_ble_eq_true rfl) rfl ?_
  exact x_wk F.1 ((t_RM_gives_l2 F (res := (r, M')) hQ FU) _ _ h) ⟨rfl, rfl, trivial⟩
set_option maxHeartbeats 4000000 in
theorem t_RM_losing_l8 {w : kx_W} {d : Nat} {Q : Option Value → kx_M → Prop} {G : Nat → List (Option Value) → List Value → kx_M → Prop} (F : Sd w (d + 4) m_RM_losing Q G) {p1 : Int32} {res : Int32 × kx_M} (hQ : Q (some (.int res.1)) res.2) :
    ∀ (n : Nat) (x2 : Int32) (x3 : Int32) (M : kx_M),
    f_RM_losing_l8 p1 n x2 x3 M = some res → G 8 [some (.ref 135), some (.int p1), some (.int x2), some (.int x3)] [] M := by
  intro n
  induction n with
  | zero =>
    intro x2 x3 M h
    exact absurd h (by rw [f_RM_losing_l8]; exact fun z => nomatch z)
  | succ n ih =>
    intro x2 x3 M h
    rw [f_RM_losing_l8] at h
    refine x_iload_n F.1 (i := 6) rfl rfl ?_
    refine x_bipush F.1 (i := 7) rfl bp_99 ?_
    refine x_icmp_gt F.1 (i := 8) (tgt := 39) rfl (by decide) (fun c => ?_) (fun c => ?_)
    · replace h := if_T c h
      refine x_aload_n F.1 (i := 22) rfl rfl ?_
      refine cal_e h (fun r1 M1 e2 h => ?_)
      refine x_cV0v F.1 (i := 23) rfl ml_RM_406 ok_RM_gives rfl (Nat.le_of_ble_eq_true rfl) (Nat.le_of_ble_eq_true rfl) (fun _ => t_RM_gives e2) ?_
      refine x_iload_n F.1 (i := 24) rfl rfl ?_
      exact x_iretf F (i := 25) rfl rfl h hQ
    · replace h := if_F c h
      refine x_iload_n F.1 (i := 9) rfl rfl ?_
      refine x_if_ge F.1 (i := 10) (tgt := 39) rfl (by decide) (fun c => ?_) (fun c => ?_)
      · replace h := if_T c h
        refine x_aload_n F.1 (i := 22) rfl rfl ?_
        refine cal_e h (fun r3 M2 e4 h => ?_)
        refine x_cV0v F.1 (i := 23) rfl ml_RM_406 ok_RM_gives rfl (Nat.le_of_ble_eq_true rfl) (Nat.le_of_ble_eq_true rfl) (fun _ => t_RM_gives e4) ?_
        refine x_iload_n F.1 (i := 24) rfl rfl ?_
        exact x_iretf F (i := 25) rfl rfl h hQ
      · replace h := if_F c h
        refine x_aload_n F.1 (i := 11) rfl rfl ?_
        refine x_iload_n F.1 (i := 12) rfl rfl ?_
        refine cal_e h (fun r5 M3 e6 h => ?_)
        refine x_cV1i F.1 (i := 13) rfl ml_RM_316 ok_RM_times rfl (Nat.le_of_ble_eq_true rfl) (Nat.le_of_ble_eq_true rfl) (fun _ => t_RM_times e6) ?_
        refine x_if_ne F.1 (i := 14) (tgt := 28) rfl (by decide) (fun c => ?_) (fun c => ?_)
        · replace h := if_F c h
          refine x_aload_n F.1 (i := 17) rfl rfl ?_
          refine cal_e h (fun r10 M5 e11 h => ?_)
          refine x_cV0i F.1 (i := 18) rfl ml_RM_362 ok_RM_goesYear rfl (Nat.le_of_ble_eq_true rfl) (Nat.le_of_ble_eq_true rfl) (fun _ => t_RM_goesYear e11) ?_
          refine x_pop F.1 (i := 19) rfl rfl ?_
          refine x_iinc F.1 (i := 20) rfl rfl rfl (Nat.le_of_ble_eq_true rfl) rfl ?_
          replace h := bd_e h
          refine x_goto F.1 (i := 21) (tgt := 8) rfl (by decide) ?_
          exact x_wk F.1 (ih _ _ _ h) ⟨rfl, rfl, rfl, rfl, trivial⟩
        · replace h := if_T c h
          refine x_iload_n F.1 (i := 15) rfl rfl ?_
          refine x_istore_n F.1 (i := 16) rfl (Nat.le_of_ble_eq_true rfl) (Nat.le_of_ble_eq_true rfl) rfl ?_
          refine x_aload_n F.1 (i := 17) rfl rfl ?_
          refine cal_e h (fun r7 M4 e8 h => ?_)
          refine x_cV0i F.1 (i := 18) rfl ml_RM_362 ok_RM_goesYear rfl (Nat.le_of_ble_eq_true rfl) (Nat.le_of_ble_eq_true rfl) (fun _ => t_RM_goesYear e8) ?_
          refine x_pop F.1 (i := 19) rfl rfl ?_
          refine x_iinc F.1 (i := 20) rfl rfl rfl (Nat.le_of_ble_eq_true rfl) rfl ?_
          replace h := bd_e h
          refine x_goto F.1 (i := 21) (tgt := 8) rfl (by decide) ?_
          exact x_wk F.1 (ih _ _ _ h) ⟨rfl, rfl, rfl, rfl, trivial⟩
set_option maxHeartbeats 4000000 in
theorem t_RM_losing {w : kx_W} {d : Nat} {M : kx_M} {Q : Option Value → kx_M → Prop} {p1 : Int32} {r : Int32} {M' : kx_M} (h : f_RM_losing p1 M = some (r, M')) (hQ : Q (some (.int r)) M') : Ct w (d + 4) m_RM_losing [.ref 135, .int p1] M Q := by
  refine mk_ct ok_RM_losing (Nat.le_of_ble_eq_true rfl) (fun G F => ?_)
  rw [f_RM_losing] at h
  show G 0 [some (.ref 135), some (.int p1), none, none] [] M
  refine x_iconst F.1 (i := 0) rfl ic_n1 ?_
  refine x_istore_n F.1 (i := 1) rfl (Nat.le_of_ble_eq_true rfl) (Nat.le_of_ble_eq_true rfl) rfl ?_
  refine x_aload_n F.1 (i := 2) rfl rfl ?_
  refine cal_e h (fun r1 M1 e2 h => ?_)
  refine x_cV0v F.1 (i := 3) rfl ml_RM_403 ok_RM_keeps rfl (Nat.le_of_ble_eq_true rfl) (Nat.le_of_ble_eq_true rfl) (fun _ => t_RM_keeps e2) ?_
  refine x_iconst F.1 (i := 4) rfl ic_0 ?_
  refine x_istore_n F.1 (i := 5) rfl (Nat.le_of_ble_eq_true rfl) (Nat.le_of_ble_eq_true rfl) rfl ?_
  exact x_wk F.1 ((t_RM_losing_l8 F (res := (r, M')) hQ FU) _ _ _ h) ⟨rfl, rfl, rfl, rfl, trivial⟩
set_option maxHeartbeats 4000000 in
theorem t_RM_lost {w : kx_W} {d : Nat} {M : kx_M} {Q : Option Value → kx_M → Prop} {p1 : Int32} {r : Int32} {M' : kx_M} (h : f_RM_lost p1 M = some (r, M')) (hQ : Q (some (.int r)) M') : Ct w (d + 5) m_RM_lost [.ref 135, .int p1] M Q := by
  refine mk_ct ok_RM_lost (Nat.le_of_ble_eq_true rfl) (fun G F => ?_)
  rw [f_RM_lost] at h
  show G 0 [some (.ref 135), some (.int p1), none] [] M
  refine x_aload_n F.1 (i := 0) rfl rfl ?_
  refine x_iconst F.1 (i := 1) rfl ic_0 ?_
  refine x_putI F.1 (i := 2) rfl fl_RM_68 pf_RM_thrown rfl (by rfl) ?_
  replace h := bd_e h
  refine x_aload_n F.1 (i := 3) rfl rfl ?_
  refine x_iconst F.1 (i := 4) rfl ic_0 ?_
  refine x_putI F.1 (i := 5) rfl fl_RM_71 pf_RM_status rfl (by rfl) ?_
  replace h := bd_e h
  refine x_aload_n F.1 (i := 6) rfl rfl ?_
  refine x_iload_n F.1 (i := 7) rfl rfl ?_
  refine cal_e h (fun r1 M3 e2 h => ?_)
  refine x_cV1i F.1 (i := 8) rfl ml_RM_339 ok_RM_isClauseAt rfl (Nat.le_of_ble_eq_true rfl) (Nat.le_of_ble_eq_true rfl) (fun _ => t_RM_isClauseAt e2) ?_
  refine x_if_ne F.1 (i := 9) (tgt := 24) rfl (by decide) (fun c => ?_) (fun c => ?_)
  · replace h := if_F c h
    refine x_aload_n F.1 (i := 14) rfl rfl ?_
    refine x_iload_n F.1 (i := 15) rfl rfl ?_
    refine cal_e h (fun r5 M5 e6 h => ?_)
    refine x_cV1i F.1 (i := 16) rfl ml_RM_409 ok_RM_losing rfl (Nat.le_of_ble_eq_true rfl) (Nat.le_of_ble_eq_true rfl) (fun _ => t_RM_losing e6) ?_
    refine x_istore_n F.1 (i := 17) rfl (Nat.le_of_ble_eq_true rfl) (Nat.le_of_ble_eq_true rfl) rfl ?_
    refine x_iload_n F.1 (i := 18) rfl rfl ?_
    refine x_if_ge F.1 (i := 19) (tgt := 43) rfl (by decide) (fun c => ?_) (fun c => ?_)
    · replace h := if_T c h
      refine x_iload_n F.1 (i := 24) rfl rfl ?_
      exact x_iretf F (i := 25) rfl rfl h (res := (r, M')) hQ
    · replace h := if_F c h
      refine x_aload_n F.1 (i := 20) rfl rfl ?_
      refine x_bipush F.1 (i := 21) rfl bp_8 ?_
      refine cal_e h (fun r7 M6 e8 h => ?_)
      refine x_cV1i F.1 (i := 22) rfl ml_RM_321 ok_RM_refuse rfl (Nat.le_of_ble_eq_true rfl) (Nat.le_of_ble_eq_true rfl) (fun _ => t_RM_refuse e8) ?_
      refine x_goto F.1 (i := 23) (tgt := 44) rfl (by decide) ?_
      exact x_iretf F (i := 25) rfl rfl h (res := (r, M')) hQ
  · replace h := if_T c h
    refine x_aload_n F.1 (i := 10) rfl rfl ?_
    refine x_iconst F.1 (i := 11) rfl ic_2 ?_
    refine cal_e h (fun r3 M4 e4 h => ?_)
    refine x_cV1i F.1 (i := 12) rfl ml_RM_321 ok_RM_refuse rfl (Nat.le_of_ble_eq_true rfl) (Nat.le_of_ble_eq_true rfl) (fun _ => t_RM_refuse e4) ?_
    exact x_iretf F (i := 13) rfl rfl h (res := (r, M')) hQ
