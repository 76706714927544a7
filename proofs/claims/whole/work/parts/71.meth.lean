set_option maxHeartbeats 4000000 in
theorem t_RM_readTest_l15 {w : kx_W} {d : Nat} {Q : Option Value → kx_M → Prop} {G : Nat → List (Option Value) → List Value → kx_M → Prop} (F : Sd w (d + 6) m_RM_readTest Q G) {p1 : Int32} {res : Unit × kx_M} (hQ : Q none res.2) :
    ∀ (x2 : Int32) (s0 : Nat) (s1 : Int32) (M : kx_M),
    f_RM_readTest_l15 p1 x2 s0 s1 M = some res → G 15 [some (.ref 135), some (.int p1), some (.int x2)] [.int s1, .ref 135] M := by
  intro x2 s0 s1 M h
  rw [f_RM_readTest_l15] at h
  refine cal_e h (fun r1 M1 e2 h => ?_)
  refine x_cV1v F.1 (i := 9) rfl ml_RM_234 ok_RM_must rfl (Nat.le_of_ble_eq_true rfl) (Nat.le_of_ble_eq_true rfl) (fun _ => t_RM_must e2) ?_
  refine x_aload_n F.1 (i := 10) rfl rfl ?_
  refine x_getC F.1 (i := 11) rfl fl_RM_35 rfl (by rfl) ?_
  refine x_iload_n F.1 (i := 12) rfl rfl ?_
  refine x_bipush F.1 (i := 13) rfl bp_6 ?_
  refine x_iadd F.1 (i := 14) rfl ?_
  refine x_iload_n F.1 (i := 15) rfl rfl ?_
  refine gd_e h (fun g3 h => ?_)
  refine x_iast F.1 (i := 16) rfl rfl (inb_e g3) ?_
  replace h := bd_e h
  refine x_aload_n F.1 (i := 17) rfl rfl ?_
  refine x_getI F.1 (i := 18) rfl fl_RM_199 rfl (by rfl) ?_
  refine x_if_le F.1 (i := 19) (tgt := 36) rfl (by decide) (fun c => ?_) (fun c => ?_)
  · replace h := if_T c h
    refine x_iload_n F.1 (i := 21) rfl rfl ?_
    refine x_if_ne F.1 (i := 22) (tgt := 57) rfl (by decide) (fun c => ?_) (fun c => ?_)
    · replace h := if_F c h
      refine x_iload_n F.1 (i := 34) rfl rfl ?_
      refine x_iconst F.1 (i := 35) rfl ic_1 ?_
      refine x_icmp_ne F.1 (i := 36) (tgt := 86) rfl (by decide) (fun c => ?_) (fun c => ?_)
      · replace h := if_F c h
        refine x_aload_n F.1 (i := 53) rfl rfl ?_
        refine x_iload_n F.1 (i := 54) rfl rfl ?_
        refine cal_e h (fun r11 M7 e12 h => ?_)
        refine x_cV1v F.1 (i := 55) rfl ml_RM_288 ok_RM_readMany rfl (Nat.le_of_ble_eq_true rfl) (Nat.le_of_ble_eq_true rfl) (fun _ => t_RM_readMany e12) ?_
        exact x_vretf F (i := 56) rfl rfl h hQ
      · replace h := if_T c h
        refine x_aload_n F.1 (i := 37) rfl rfl ?_
        refine x_getC F.1 (i := 38) rfl fl_RM_35 rfl (by rfl) ?_
        refine x_iload_n F.1 (i := 39) rfl rfl ?_
        refine x_iconst F.1 (i := 40) rfl ic_1 ?_
        refine x_iadd F.1 (i := 41) rfl ?_
        refine x_aload_n F.1 (i := 42) rfl rfl ?_
        refine x_iconst F.1 (i := 43) rfl ic_0 ?_
        refine x_aload_n F.1 (i := 44) rfl rfl ?_
        refine x_getC F.1 (i := 45) rfl fl_RM_35 rfl (by rfl) ?_
        refine x_iconst F.1 (i := 46) rfl ic_4 ?_
        refine gd_e h (fun g7 h => ?_)
        refine x_iald F.1 (i := 47) rfl rfl (inb_e g7) ?_
        refine x_iconst F.1 (i := 48) rfl ic_1 ?_
        refine x_isub F.1 (i := 49) rfl ?_
        refine cal_e h (fun r8 M5 e9 h => ?_)
        refine x_cV2i F.1 (i := 50) rfl ml_RM_245 ok_RM_count rfl (Nat.le_of_ble_eq_true rfl) (Nat.le_of_ble_eq_true rfl) (fun _ => t_RM_count e9) ?_
        refine gd_e h (fun g10 h => ?_)
        refine x_iast F.1 (i := 51) rfl rfl (inb_e g10) ?_
        replace h := bd_e h
        refine x_goto F.1 (i := 52) (tgt := 91) rfl (by decide) ?_
        exact x_vretf F (i := 56) rfl rfl h hQ
    · replace h := if_T c h
      refine x_aload_n F.1 (i := 23) rfl rfl ?_
      refine x_getC F.1 (i := 24) rfl fl_RM_35 rfl (by rfl) ?_
      refine x_iload_n F.1 (i := 25) rfl rfl ?_
      refine x_iconst F.1 (i := 26) rfl ic_1 ?_
      refine x_iadd F.1 (i := 27) rfl ?_
      refine x_aload_n F.1 (i := 28) rfl rfl ?_
      refine x_iconst F.1 (i := 29) rfl ic_0 ?_
      refine x_iconst F.1 (i := 30) rfl ic_1 ?_
      refine cal_e h (fun r4 M3 e5 h => ?_)
      refine x_cV2i F.1 (i := 31) rfl ml_RM_251 ok_RM_readTold rfl (Nat.le_of_ble_eq_true rfl) (Nat.le_of_ble_eq_true rfl) (fun _ => t_RM_readTold e5) ?_
      refine gd_e h (fun g6 h => ?_)
      refine x_iast F.1 (i := 32) rfl rfl (inb_e g6) ?_
      replace h := bd_e h
      refine x_goto F.1 (i := 33) (tgt := 91) rfl (by decide) ?_
      exact x_vretf F (i := 56) rfl rfl h hQ
  · replace h := if_F c h
    exact x_vretf F (i := 20) rfl rfl h hQ
set_option maxHeartbeats 4000000 in
theorem t_RM_readTest {w : kx_W} {d : Nat} {M : kx_M} {Q : Option Value → kx_M → Prop} {p1 : Int32} {r : Unit} {M' : kx_M} (h : f_RM_readTest p1 M = some (r, M')) (hQ : Q none M') : Ct w (d + 6) m_RM_readTest [.ref 135, .int p1] M Q := by
  refine mk_ct ok_RM_readTest (Nat.le_of_ble_eq_true rfl) (fun G F => ?_)
  rw [f_RM_readTest] at h
  show G 0 [some (.ref 135), some (.int p1), none] [] M
  refine x_aload_n F.1 (i := 0) rfl rfl ?_
  refine cal_e h (fun r1 M1 e2 h => ?_)
  refine x_cV0i F.1 (i := 1) rfl ml_RM_190 ok_RM_testWord rfl (Nat.le_of_ble_eq_true rfl) (Nat.le_of_ble_eq_true rfl) (fun _ => t_RM_testWord e2) ?_
  refine x_istore_n F.1 (i := 2) rfl (Nat.le_of_ble_eq_true rfl) (Nat.le_of_ble_eq_true rfl) rfl ?_
  refine x_aload_n F.1 (i := 3) rfl rfl ?_
  refine x_iload_n F.1 (i := 4) rfl rfl ?_
  refine x_if_lt F.1 (i := 5) (tgt := 14) rfl (by decide) (fun c => ?_) (fun c => ?_)
  · replace h := if_T c h
    refine x_iconst F.1 (i := 8) rfl ic_0 ?_
    exact x_wk F.1 ((t_RM_readTest_l15 F (res := (r, M')) hQ) _ _ _ _ h) ⟨rfl, rfl, rfl, trivial⟩
  · replace h := if_F c h
    refine x_iconst F.1 (i := 6) rfl ic_1 ?_
    refine x_goto F.1 (i := 7) (tgt := 15) rfl (by decide) ?_
    exact x_wk F.1 ((t_RM_readTest_l15 F (res := (r, M')) hQ) _ _ _ _ h) ⟨rfl, rfl, rfl, trivial⟩
set_option maxHeartbeats 4000000 in
theorem t_RM_readRest_l92 {w : kx_W} {d : Nat} {Q : Option Value → kx_M → Prop} {G : Nat → List (Option Value) → List Value → kx_M → Prop} (F : Sd w (d + 7) m_RM_readRest Q G) {p1 : Int32} {res : Unit × kx_M} (hQ : Q none res.2) :
    ∀ (x2 : Int32) (M : kx_M),
    f_RM_readRest_l92 p1 x2 M = some res → G 92 [some (.ref 135), some (.int p1), some (.int x2)] [] M := by
  intro x2 M h
  rw [f_RM_readRest_l92] at h
  refine x_iload_n F.1 (i := 57) rfl rfl ?_
  refine x_if_le F.1 (i := 58) (tgt := 131) rfl (by decide) (fun c => ?_) (fun c => ?_)
  · replace h := if_T c h
    exact x_vretf F (i := 82) rfl rfl h hQ
  · replace h := if_F c h
    refine x_iload_n F.1 (i := 59) rfl rfl ?_
    refine x_iconst F.1 (i := 60) rfl ic_4 ?_
    refine x_icmp_ge F.1 (i := 61) (tgt := 131) rfl (by decide) (fun c => ?_) (fun c => ?_)
    · replace h := if_T c h
      exact x_vretf F (i := 82) rfl rfl h hQ
    · replace h := if_F c h
      refine x_aload_n F.1 (i := 62) rfl rfl ?_
      refine x_getC F.1 (i := 63) rfl fl_RM_35 rfl (by rfl) ?_
      refine x_iload_n F.1 (i := 64) rfl rfl ?_
      refine x_iconst F.1 (i := 65) rfl ic_2 ?_
      refine x_iadd F.1 (i := 66) rfl ?_
      refine x_aload_n F.1 (i := 67) rfl rfl ?_
      refine x_iconst F.1 (i := 68) rfl ic_0 ?_
      refine x_iload_n F.1 (i := 69) rfl rfl ?_
      refine x_iconst F.1 (i := 70) rfl ic_1 ?_
      refine x_icmp_ne F.1 (i := 71) (tgt := 119) rfl (by decide) (fun c => ?_) (fun c => ?_)
      · replace h := if_F c h
        refine x_aload_n F.1 (i := 74) rfl rfl ?_
        refine x_getC F.1 (i := 75) rfl fl_RM_35 rfl (by rfl) ?_
        refine x_iconst F.1 (i := 76) rfl ic_0 ?_
        refine gd_e h (fun g4 h => ?_)
        refine x_iald F.1 (i := 77) rfl rfl (inb_e g4) ?_
        refine x_iconst F.1 (i := 78) rfl ic_1 ?_
        refine x_isub F.1 (i := 79) rfl ?_
        refine cal_e h (fun r5 M3 e6 h => ?_)
        refine x_cV2i F.1 (i := 80) rfl ml_RM_245 ok_RM_count rfl (Nat.le_of_ble_eq_true rfl) (Nat.le_of_ble_eq_true rfl) (fun _ => t_RM_count e6) ?_
        refine gd_e h (fun g7 h => ?_)
        refine x_iast F.1 (i := 81) rfl rfl (inb_e g7) ?_
        replace h := bd_e h
        exact x_vretf F (i := 82) rfl rfl h hQ
      · replace h := if_T c h
        refine x_iconst F.1 (i := 72) rfl ic_1 ?_
        refine x_goto F.1 (i := 73) (tgt := 127) rfl (by decide) ?_
        refine cal_e h (fun r1 M1 e2 h => ?_)
        refine x_cV2i F.1 (i := 80) rfl ml_RM_245 ok_RM_count rfl (Nat.le_of_ble_eq_true rfl) (Nat.le_of_ble_eq_true rfl) (fun _ => t_RM_count e2) ?_
        refine gd_e h (fun g3 h => ?_)
        refine x_iast F.1 (i := 81) rfl rfl (inb_e g3) ?_
        replace h := bd_e h
        exact x_vretf F (i := 82) rfl rfl h hQ
set_option maxHeartbeats 4000000 in
theorem t_RM_readRest {w : kx_W} {d : Nat} {M : kx_M} {Q : Option Value → kx_M → Prop} {p1 : Int32} {r : Unit} {M' : kx_M} (h : f_RM_readRest p1 M = some (r, M')) (hQ : Q none M') : Ct w (d + 7) m_RM_readRest [.ref 135, .int p1] M Q := by
  refine mk_ct ok_RM_readRest (Nat.le_of_ble_eq_true rfl) (fun G F => ?_)
  rw [f_RM_readRest] at h
  show G 0 [some (.ref 135), some (.int p1), none] [] M
  refine x_aload_n F.1 (i := 0) rfl rfl ?_
  refine x_getC F.1 (i := 1) rfl fl_RM_35 rfl (by rfl) ?_
  refine x_iload_n F.1 (i := 2) rfl rfl ?_
  refine gd_e h (fun g1 h => ?_)
  refine x_iald F.1 (i := 3) rfl rfl (inb_e g1) ?_
  refine x_istore_n F.1 (i := 4) rfl (Nat.le_of_ble_eq_true rfl) (Nat.le_of_ble_eq_true rfl) rfl ?_
  replace h := bd_e h
  refine x_iload_n F.1 (i := 5) rfl rfl ?_
  refine x_if_ne F.1 (i := 6) (tgt := 29) rfl (by decide) (fun c => ?_) (fun c => ?_)
  · replace h := if_F c h
    refine x_iload_n F.1 (i := 18) rfl rfl ?_
    refine x_bipush F.1 (i := 19) rfl bp_6 ?_
    refine x_icmp_ne F.1 (i := 20) (tgt := 53) rfl (by decide) (fun c => ?_) (fun c => ?_)
    · replace h := if_F c h
      refine x_iload_n F.1 (i := 32) rfl rfl ?_
      refine x_iconst F.1 (i := 33) rfl ic_5 ?_
      refine x_icmp_ne F.1 (i := 34) (tgt := 66) rfl (by decide) (fun c => ?_) (fun c => ?_)
      · replace h := if_F c h
        refine x_iload_n F.1 (i := 39) rfl rfl ?_
        refine x_iconst F.1 (i := 40) rfl ic_4 ?_
        refine x_icmp_ge F.1 (i := 41) (tgt := 92) rfl (by decide) (fun c => ?_) (fun c => ?_)
        · replace h := if_T c h
          exact x_wk F.1 ((t_RM_readRest_l92 F (res := (r, M')) hQ) _ _ h) ⟨rfl, rfl, rfl, trivial⟩
        · replace h := if_F c h
          refine x_aload_n F.1 (i := 42) rfl rfl ?_
          refine x_getC F.1 (i := 43) rfl fl_RM_35 rfl (by rfl) ?_
          refine x_iload_n F.1 (i := 44) rfl rfl ?_
          refine x_iconst F.1 (i := 45) rfl ic_1 ?_
          refine x_iadd F.1 (i := 46) rfl ?_
          refine x_aload_n F.1 (i := 47) rfl rfl ?_
          refine x_iconst F.1 (i := 48) rfl ic_0 ?_
          refine x_aload_n F.1 (i := 49) rfl rfl ?_
          refine x_getC F.1 (i := 50) rfl fl_RM_35 rfl (by rfl) ?_
          refine x_iconst F.1 (i := 51) rfl ic_4 ?_
          refine gd_e h (fun g11 h => ?_)
          refine x_iald F.1 (i := 52) rfl rfl (inb_e g11) ?_
          refine x_iconst F.1 (i := 53) rfl ic_1 ?_
          refine x_isub F.1 (i := 54) rfl ?_
          refine cal_e h (fun r12 M6 e13 h => ?_)
          refine x_cV2i F.1 (i := 55) rfl ml_RM_245 ok_RM_count rfl (Nat.le_of_ble_eq_true rfl) (Nat.le_of_ble_eq_true rfl) (fun _ => t_RM_count e13) ?_
          refine gd_e h (fun g14 h => ?_)
          refine x_iast F.1 (i := 56) rfl rfl (inb_e g14) ?_
          replace h := bd_e h
          exact x_wk F.1 ((t_RM_readRest_l92 F (res := (r, M')) hQ) _ _ h) ⟨rfl, rfl, rfl, trivial⟩
      · replace h := if_T c h
        refine x_aload_n F.1 (i := 35) rfl rfl ?_
        refine x_iload_n F.1 (i := 36) rfl rfl ?_
        refine cal_e h (fun r9 M5 e10 h => ?_)
        refine x_cV1v F.1 (i := 37) rfl ml_RM_291 ok_RM_readTest rfl (Nat.le_of_ble_eq_true rfl) (Nat.le_of_ble_eq_true rfl) (fun _ => t_RM_readTest e10) ?_
        refine x_goto F.1 (i := 38) (tgt := 92) rfl (by decide) ?_
        exact x_wk F.1 ((t_RM_readRest_l92 F (res := (r, M')) hQ) _ _ h) ⟨rfl, rfl, rfl, trivial⟩
    · replace h := if_T c h
      refine x_aload_n F.1 (i := 21) rfl rfl ?_
      refine x_getC F.1 (i := 22) rfl fl_RM_35 rfl (by rfl) ?_
      refine x_iload_n F.1 (i := 23) rfl rfl ?_
      refine x_iconst F.1 (i := 24) rfl ic_1 ?_
      refine x_iadd F.1 (i := 25) rfl ?_
      refine x_aload_n F.1 (i := 26) rfl rfl ?_
      refine x_iconst F.1 (i := 27) rfl ic_1 ?_
      refine x_bipush F.1 (i := 28) rfl bp_99 ?_
      refine cal_e h (fun r6 M3 e7 h => ?_)
      refine x_cV2i F.1 (i := 29) rfl ml_RM_245 ok_RM_count rfl (Nat.le_of_ble_eq_true rfl) (Nat.le_of_ble_eq_true rfl) (fun _ => t_RM_count e7) ?_
      refine gd_e h (fun g8 h => ?_)
      refine x_iast F.1 (i := 30) rfl rfl (inb_e g8) ?_
      replace h := bd_e h
      refine x_goto F.1 (i := 31) (tgt := 92) rfl (by decide) ?_
      exact x_wk F.1 ((t_RM_readRest_l92 F (res := (r, M')) hQ) _ _ h) ⟨rfl, rfl, rfl, trivial⟩
  · replace h := if_T c h
    refine x_aload_n F.1 (i := 7) rfl rfl ?_
    refine x_getC F.1 (i := 8) rfl fl_RM_35 rfl (by rfl) ?_
    refine x_iload_n F.1 (i := 9) rfl rfl ?_
    refine x_iconst F.1 (i := 10) rfl ic_1 ?_
    refine x_iadd F.1 (i := 11) rfl ?_
    refine x_aload_n F.1 (i := 12) rfl rfl ?_
    refine x_iconst F.1 (i := 13) rfl ic_1 ?_
    refine x_bipush F.1 (i := 14) rfl bp_20 ?_
    refine cal_e h (fun r3 M1 e4 h => ?_)
    refine x_cV2i F.1 (i := 15) rfl ml_RM_245 ok_RM_count rfl (Nat.le_of_ble_eq_true rfl) (Nat.le_of_ble_eq_true rfl) (fun _ => t_RM_count e4) ?_
    refine gd_e h (fun g5 h => ?_)
    refine x_iast F.1 (i := 16) rfl rfl (inb_e g5) ?_
    replace h := bd_e h
    refine x_goto F.1 (i := 17) (tgt := 92) rfl (by decide) ?_
    exact x_wk F.1 ((t_RM_readRest_l92 F (res := (r, M')) hQ) _ _ h) ⟨rfl, rfl, rfl, trivial⟩
set_option maxHeartbeats 4000000 in
theorem t_RM_readStep_l169 {w : kx_W} {d : Nat} {Q : Option Value → kx_M → Prop} {G : Nat → List (Option Value) → List Value → kx_M → Prop} (F : Sd w (d + 8) m_RM_readStep Q G) {p1 : Int32} {c_readStep : Int32 → kx_M → Option (Unit × kx_M)} (hc_readStep : ∀ (k : Nat) (a1 : Int32) (M : kx_M) (r : Unit) (M' : kx_M) (Q : Option Value → kx_M → Prop), c_readStep a1 M = some (r, M') → Q none M' → Ct w (d + k) m_RM_readStep [.ref 135, .int a1] M Q) {res : Unit × kx_M} (hQ : Q none res.2) :
    ∀ (x3 : Int32) (x4 : Int32) (M : kx_M),
    f_RM_readStep_l169 c_readStep p1 x3 x4 M = some res → G 169 [some (.ref 135), none, none, some (.int x3), some (.int x4)] [] M := by
  intro x3 x4 M h
  rw [f_RM_readStep_l169] at h
  refine x_iload_n F.1 (i := 88) rfl rfl ?_
  refine x_if_eq F.1 (i := 89) (tgt := 191) rfl (by decide) (fun c => ?_) (fun c => ?_)
  · replace h := if_T c h
    refine x_aload_n F.1 (i := 99) rfl rfl ?_
    refine x_getC F.1 (i := 100) rfl fl_RM_35 rfl (by rfl) ?_
    refine x_iload F.1 (i := 101) rfl rfl ?_
    refine x_bipush F.1 (i := 102) rfl bp_8 ?_
    refine x_iadd F.1 (i := 103) rfl ?_
    refine x_aload_n F.1 (i := 104) rfl rfl ?_
    refine x_getI F.1 (i := 105) rfl fl_RM_294 rfl (by rfl) ?_
    refine gd_e h (fun g1 h => ?_)
    refine x_iast F.1 (i := 106) rfl rfl (inb_e g1) ?_
    replace h := bd_e h
    exact x_vretf F (i := 107) rfl rfl h hQ
  · replace h := if_F c h
    refine x_aload_n F.1 (i := 90) rfl rfl ?_
    refine x_aload_n F.1 (i := 91) rfl rfl ?_
    refine cal_e h (fun r2 M2 e3 h => ?_)
    refine x_cV0i F.1 (i := 92) rfl ml_RM_193 ok_RM_isEnd rfl (Nat.le_of_ble_eq_true rfl) (Nat.le_of_ble_eq_true rfl) (fun _ => t_RM_isEnd e3) ?_
    refine cal_e h (fun r4 M3 e5 h => ?_)
    refine x_cV1v F.1 (i := 93) rfl ml_RM_234 ok_RM_must rfl (Nat.le_of_ble_eq_true rfl) (Nat.le_of_ble_eq_true rfl) (fun _ => t_RM_must e5) ?_
    refine x_aload_n F.1 (i := 94) rfl rfl ?_
    refine x_aload_n F.1 (i := 95) rfl rfl ?_
    refine x_bipush F.1 (i := 96) rfl bp_59 ?_
    refine cal_e h (fun r6 M4 e7 h => ?_)
    refine x_cV1i F.1 (i := 97) rfl ml_RM_279 ok_RM_isSign rfl (Nat.le_of_ble_eq_true rfl) (Nat.le_of_ble_eq_true rfl) (fun _ => t_RM_isSign e7) ?_
    refine cal_e h (fun r8 M5 e9 h => ?_)
    refine x_cV1v F.1 (i := 98) rfl ml_RM_234 ok_RM_must rfl (Nat.le_of_ble_eq_true rfl) (Nat.le_of_ble_eq_true rfl) (fun _ => t_RM_must e9) ?_
    refine x_aload_n F.1 (i := 99) rfl rfl ?_
    refine x_getC F.1 (i := 100) rfl fl_RM_35 rfl (by rfl) ?_
    refine x_iload F.1 (i := 101) rfl rfl ?_
    refine x_bipush F.1 (i := 102) rfl bp_8 ?_
    refine x_iadd F.1 (i := 103) rfl ?_
    refine x_aload_n F.1 (i := 104) rfl rfl ?_
    refine x_getI F.1 (i := 105) rfl fl_RM_294 rfl (by rfl) ?_
    refine gd_e h (fun g10 h => ?_)
    refine x_iast F.1 (i := 106) rfl rfl (inb_e g10) ?_
    replace h := bd_e h
    exact x_vretf F (i := 107) rfl rfl h hQ
set_option maxHeartbeats 4000000 in
theorem t_RM_readStep_l141 {w : kx_W} {d : Nat} {Q : Option Value → kx_M → Prop} {G : Nat → List (Option Value) → List Value → kx_M → Prop} (F : Sd w (d + 8) m_RM_readStep Q G) {p1 : Int32} {c_readStep : Int32 → kx_M → Option (Unit × kx_M)} (hc_readStep : ∀ (k : Nat) (a1 : Int32) (M : kx_M) (r : Unit) (M' : kx_M) (Q : Option Value → kx_M → Prop), c_readStep a1 M = some (r, M') → Q none M' → Ct w (d + k) m_RM_readStep [.ref 135, .int a1] M Q) {res : Unit × kx_M} (hQ : Q none res.2) :
    ∀ (n : Nat) (x3 : Int32) (x4 : Int32) (M : kx_M),
    f_RM_readStep_l141 c_readStep p1 n x3 x4 M = some res → G 141 [some (.ref 135), some (.int p1), none, some (.int x3), some (.int x4)] [] M := by
  intro n
  induction n with
  | zero =>
    intro x3 x4 M h
    exact absurd h (by rw [f_RM_readStep_l141]; exact fun z => nomatch z)
  | succ n ih =>
    intro x3 x4 M h
    rw [f_RM_readStep_l141] at h
    refine x_iload_n F.1 (i := 74) rfl rfl ?_
    refine x_if_eq F.1 (i := 75) (tgt := 169) rfl (by decide) (fun c => ?_) (fun c => ?_)
    · replace h := if_T c h
      exact x_wk F.1 ((t_RM_readStep_l169 F hc_readStep hQ) _ _ _ h) ⟨rfl, rfl, rfl, trivial⟩
    · replace h := if_F c h
      refine x_aload_n F.1 (i := 76) rfl rfl ?_
      refine x_getI F.1 (i := 77) rfl fl_RM_199 rfl (by rfl) ?_
      refine x_if_ne F.1 (i := 78) (tgt := 169) rfl (by decide) (fun c => ?_) (fun c => ?_)
      · replace h := if_F c h
        exact x_wk F.1 ((t_RM_readStep_l169 F hc_readStep hQ) _ _ _ h) ⟨rfl, rfl, rfl, trivial⟩
      · replace h := if_T c h
        refine x_aload_n F.1 (i := 79) rfl rfl ?_
        refine cal_e h (fun r1 M1 e2 h => ?_)
        refine x_cV0i F.1 (i := 80) rfl ml_RM_193 ok_RM_isEnd rfl (Nat.le_of_ble_eq_true rfl) (Nat.le_of_ble_eq_true rfl) (fun _ => t_RM_isEnd e2) ?_
        refine x_if_ne F.1 (i := 81) (tgt := 169) rfl (by decide) (fun c => ?_) (fun c => ?_)
        · replace h := if_F c h
          exact x_wk F.1 ((t_RM_readStep_l169 F hc_readStep hQ) _ _ _ h) ⟨rfl, rfl, rfl, trivial⟩
        · replace h := if_T c h
          refine x_aload_n F.1 (i := 82) rfl rfl ?_
          refine x_iload_n F.1 (i := 83) rfl rfl ?_
          refine x_iconst F.1 (i := 84) rfl ic_1 ?_
          refine x_iadd F.1 (i := 85) rfl ?_
          refine cal_e h (fun r3 M2 e4 h => ?_)
          refine x_cV1v F.1 (i := 86) rfl ml_RM_300 ok_RM_readStep rfl (Nat.le_of_ble_eq_true rfl) (Nat.le_of_ble_eq_true rfl) (fun Q9 => hc_readStep _ _ _ _ _ Q9 e4) ?_
          refine x_goto F.1 (i := 87) (tgt := 141) rfl (by decide) ?_
          exact x_wk F.1 (ih _ _ _ h) ⟨rfl, rfl, rfl, rfl, trivial⟩
set_option maxHeartbeats 4000000 in
theorem t_RM_readStep_l82 {w : kx_W} {d : Nat} {Q : Option Value → kx_M → Prop} {G : Nat → List (Option Value) → List Value → kx_M → Prop} (F : Sd w (d + 8) m_RM_readStep Q G) {p1 : Int32} {c_readStep : Int32 → kx_M → Option (Unit × kx_M)} (hc_readStep : ∀ (k : Nat) (a1 : Int32) (M : kx_M) (r : Unit) (M' : kx_M) (Q : Option Value → kx_M → Prop), c_readStep a1 M = some (r, M') → Q none M' → Ct w (d + k) m_RM_readStep [.ref 135, .int a1] M Q) {res : Unit × kx_M} (hQ : Q none res.2) :
    ∀ (x2 : Int32) (x3 : Int32) (M : kx_M),
    f_RM_readStep_l82 c_readStep p1 x2 x3 M = some res → G 82 [some (.ref 135), some (.int p1), some (.int x2), some (.int x3), none] [] M := by
  intro x2 x3 M h
  rw [f_RM_readStep_l82] at h
  refine x_aload_n F.1 (i := 42) rfl rfl ?_
  refine x_getI F.1 (i := 43) rfl fl_RM_199 rfl (by rfl) ?_
  refine x_if_le F.1 (i := 44) (tgt := 90) rfl (by decide) (fun c => ?_) (fun c => ?_)
  · replace h := if_T c h
    refine x_sipush F.1 (i := 46) rfl sp_3570 ?_
    refine x_bipush F.1 (i := 47) rfl bp_9 ?_
    refine x_aload_n F.1 (i := 48) rfl rfl ?_
    refine x_getI F.1 (i := 49) rfl fl_RM_294 rfl (by rfl) ?_
    refine x_imul F.1 (i := 50) rfl ?_
    refine x_iadd F.1 (i := 51) rfl ?_
    refine x_istore F.1 (i := 52) rfl (Nat.le_of_ble_eq_true rfl) (Nat.le_of_ble_eq_true rfl) rfl ?_
    replace h := bd_e h
    refine x_aload_n F.1 (i := 53) rfl rfl ?_
    refine x_dup F.1 (i := 54) rfl rfl ?_
    refine x_getI F.1 (i := 55) rfl fl_RM_294 rfl (by rfl) ?_
    refine x_iconst F.1 (i := 56) rfl ic_1 ?_
    refine x_iadd F.1 (i := 57) rfl ?_
    refine x_putI F.1 (i := 58) rfl fl_RM_294 pf_RM_newSteps rfl (by rfl) ?_
    replace h := bd_e h
    refine x_aload_n F.1 (i := 59) rfl rfl ?_
    refine cal_e h (fun r2 M2 e3 h => ?_)
    refine x_cV0v F.1 (i := 60) rfl ml_RM_209 ok_RM_advance rfl (Nat.le_of_ble_eq_true rfl) (Nat.le_of_ble_eq_true rfl) (fun _ => t_RM_advance e3) ?_
    refine x_aload_n F.1 (i := 61) rfl rfl ?_
    refine x_getC F.1 (i := 62) rfl fl_RM_35 rfl (by rfl) ?_
    refine x_iload F.1 (i := 63) rfl rfl ?_
    refine x_iload_n F.1 (i := 64) rfl rfl ?_
    refine gd_e h (fun g4 h => ?_)
    refine x_iast F.1 (i := 65) rfl rfl (inb_e g4) ?_
    replace h := bd_e h
    refine x_aload_n F.1 (i := 66) rfl rfl ?_
    refine x_iload F.1 (i := 67) rfl rfl ?_
    refine cal_e h (fun r5 M4 e6 h => ?_)
    refine x_cV1v F.1 (i := 68) rfl ml_RM_297 ok_RM_readRest rfl (Nat.le_of_ble_eq_true rfl) (Nat.le_of_ble_eq_true rfl) (fun _ => t_RM_readRest e6) ?_
    refine x_aload_n F.1 (i := 69) rfl rfl ?_
    refine x_aload_n F.1 (i := 70) rfl rfl ?_
    refine x_bipush F.1 (i := 71) rfl bp_59 ?_
    refine cal_e h (fun r7 M5 e8 h => ?_)
    refine x_cV1i F.1 (i := 72) rfl ml_RM_279 ok_RM_isSign rfl (Nat.le_of_ble_eq_true rfl) (Nat.le_of_ble_eq_true rfl) (fun _ => t_RM_isSign e8) ?_
    refine cal_e h (fun r9 M6 e10 h => ?_)
    refine x_cV1v F.1 (i := 73) rfl ml_RM_234 ok_RM_must rfl (Nat.le_of_ble_eq_true rfl) (Nat.le_of_ble_eq_true rfl) (fun _ => t_RM_must e10) ?_
    exact x_wk F.1 ((t_RM_readStep_l141 F hc_readStep hQ FU) _ _ _ h) ⟨rfl, rfl, rfl, rfl, trivial⟩
  · replace h := if_F c h
    exact x_vretf F (i := 45) rfl rfl h hQ
set_option maxHeartbeats 4000000 in
theorem t_RM_readStep_l56 {w : kx_W} {d : Nat} {Q : Option Value → kx_M → Prop} {G : Nat → List (Option Value) → List Value → kx_M → Prop} (F : Sd w (d + 8) m_RM_readStep Q G) {p1 : Int32} {c_readStep : Int32 → kx_M → Option (Unit × kx_M)} (hc_readStep : ∀ (k : Nat) (a1 : Int32) (M : kx_M) (r : Unit) (M' : kx_M) (Q : Option Value → kx_M → Prop), c_readStep a1 M = some (r, M') → Q none M' → Ct w (d + k) m_RM_readStep [.ref 135, .int a1] M Q) {res : Unit × kx_M} (hQ : Q none res.2) :
    ∀ (x2 : Int32) (x3 : Int32) (M : kx_M),
    f_RM_readStep_l56 c_readStep p1 x2 x3 M = some res → G 56 [some (.ref 135), some (.int p1), some (.int x2), some (.int x3), none] [] M := by
  intro x2 x3 M h
  rw [f_RM_readStep_l56] at h
  refine x_aload_n F.1 (i := 29) rfl rfl ?_
  refine x_getI F.1 (i := 30) rfl fl_RM_199 rfl (by rfl) ?_
  refine x_if_ne F.1 (i := 31) (tgt := 82) rfl (by decide) (fun c => ?_) (fun c => ?_)
  · replace h := if_F c h
    exact x_wk F.1 ((t_RM_readStep_l82 F hc_readStep hQ) _ _ _ h) ⟨rfl, rfl, rfl, rfl, trivial⟩
  · replace h := if_T c h
    refine x_iload_n F.1 (i := 32) rfl rfl ?_
    refine x_if_eq F.1 (i := 33) (tgt := 82) rfl (by decide) (fun c => ?_) (fun c => ?_)
    · replace h := if_T c h
      exact x_wk F.1 ((t_RM_readStep_l82 F hc_readStep hQ) _ _ _ h) ⟨rfl, rfl, rfl, rfl, trivial⟩
    · replace h := if_F c h
      refine x_iload_n F.1 (i := 34) rfl rfl ?_
      refine x_iconst F.1 (i := 35) rfl ic_3 ?_
      refine x_icmp_ne F.1 (i := 36) (tgt := 82) rfl (by decide) (fun c => ?_) (fun c => ?_)
      · replace h := if_F c h
        exact x_wk F.1 ((t_RM_readStep_l82 F hc_readStep hQ) _ _ _ h) ⟨rfl, rfl, rfl, rfl, trivial⟩
      · replace h := if_T c h
        refine x_aload_n F.1 (i := 37) rfl rfl ?_
        refine x_bipush F.1 (i := 38) rfl bp_7 ?_
        refine x_aload_n F.1 (i := 39) rfl rfl ?_
        refine x_getI F.1 (i := 40) rfl fl_RM_113 rfl (by rfl) ?_
        refine cal_e h (fun r1 M1 e2 h => ?_)
        refine x_cV2v F.1 (i := 41) rfl ml_RM_205 ok_RM_fail rfl (Nat.le_of_ble_eq_true rfl) (Nat.le_of_ble_eq_true rfl) (fun _ => t_RM_fail e2) ?_
        exact x_wk F.1 ((t_RM_readStep_l82 F hc_readStep hQ) _ _ _ h) ⟨rfl, rfl, rfl, rfl, trivial⟩
set_option maxHeartbeats 4000000 in
theorem t_RM_readStep_l30 {w : kx_W} {d : Nat} {Q : Option Value → kx_M → Prop} {G : Nat → List (Option Value) → List Value → kx_M → Prop} (F : Sd w (d + 8) m_RM_readStep Q G) {p1 : Int32} {c_readStep : Int32 → kx_M → Option (Unit × kx_M)} (hc_readStep : ∀ (k : Nat) (a1 : Int32) (M : kx_M) (r : Unit) (M' : kx_M) (Q : Option Value → kx_M → Prop), c_readStep a1 M = some (r, M') → Q none M' → Ct w (d + k) m_RM_readStep [.ref 135, .int a1] M Q) {res : Unit × kx_M} (hQ : Q none res.2) :
    ∀ (x2 : Int32) (x3 : Int32) (M : kx_M),
    f_RM_readStep_l30 c_readStep p1 x2 x3 M = some res → G 30 [some (.ref 135), some (.int p1), some (.int x2), some (.int x3), none] [] M := by
  intro x2 x3 M h
  rw [f_RM_readStep_l30] at h
  refine x_aload_n F.1 (i := 17) rfl rfl ?_
  refine x_getI F.1 (i := 18) rfl fl_RM_199 rfl (by rfl) ?_
  refine x_if_ne F.1 (i := 19) (tgt := 56) rfl (by decide) (fun c => ?_) (fun c => ?_)
  · replace h := if_F c h
    exact x_wk F.1 ((t_RM_readStep_l56 F hc_readStep hQ) _ _ _ h) ⟨rfl, rfl, rfl, rfl, trivial⟩
  · replace h := if_T c h
    refine x_aload_n F.1 (i := 20) rfl rfl ?_
    refine x_getI F.1 (i := 21) rfl fl_RM_294 rfl (by rfl) ?_
    refine x_bipush F.1 (i := 22) rfl bp_30 ?_
    refine x_icmp_ne F.1 (i := 23) (tgt := 56) rfl (by decide) (fun c => ?_) (fun c => ?_)
    · replace h := if_F c h
      exact x_wk F.1 ((t_RM_readStep_l56 F hc_readStep hQ) _ _ _ h) ⟨rfl, rfl, rfl, rfl, trivial⟩
    · replace h := if_T c h
      refine x_aload_n F.1 (i := 24) rfl rfl ?_
      refine x_bipush F.1 (i := 25) rfl bp_6 ?_
      refine x_aload_n F.1 (i := 26) rfl rfl ?_
      refine x_getI F.1 (i := 27) rfl fl_RM_113 rfl (by rfl) ?_
      refine cal_e h (fun r1 M1 e2 h => ?_)
      refine x_cV2v F.1 (i := 28) rfl ml_RM_205 ok_RM_fail rfl (Nat.le_of_ble_eq_true rfl) (Nat.le_of_ble_eq_true rfl) (fun _ => t_RM_fail e2) ?_
      exact x_wk F.1 ((t_RM_readStep_l56 F hc_readStep hQ) _ _ _ h) ⟨rfl, rfl, rfl, rfl, trivial⟩
set_option maxHeartbeats 4000000 in
theorem t_RM_readStep_l16 {w : kx_W} {d : Nat} {Q : Option Value → kx_M → Prop} {G : Nat → List (Option Value) → List Value → kx_M → Prop} (F : Sd w (d + 8) m_RM_readStep Q G) {p1 : Int32} {c_readStep : Int32 → kx_M → Option (Unit × kx_M)} (hc_readStep : ∀ (k : Nat) (a1 : Int32) (M : kx_M) (r : Unit) (M' : kx_M) (Q : Option Value → kx_M → Prop), c_readStep a1 M = some (r, M') → Q none M' → Ct w (d + k) m_RM_readStep [.ref 135, .int a1] M Q) {k30 : Int32 → Int32 → kx_M → Option (Unit × kx_M)} {res : Unit × kx_M} (hQ : Q none res.2) (hk30 : ∀ (x2 : Int32) (x3 : Int32) (M : kx_M), k30 x2 x3 M = some res → G 30 [some (.ref 135), some (.int p1), some (.int x2), some (.int x3), none] [] M) :
    ∀ (x2 : Int32) (M : kx_M),
    f_RM_readStep_l16 c_readStep p1 k30 x2 M = some res → G 16 [some (.ref 135), some (.int p1), some (.int x2), none, none] [] M := by
  intro x2 M h
  rw [f_RM_readStep_l16] at h
  refine x_iconst F.1 (i := 9) rfl ic_1 ?_
  refine x_goto F.1 (i := 10) (tgt := 21) rfl (by decide) ?_
  refine x_istore_n F.1 (i := 12) rfl (Nat.le_of_ble_eq_true rfl) (Nat.le_of_ble_eq_true rfl) rfl ?_
  refine x_iload_n F.1 (i := 13) rfl rfl ?_
  refine x_if_ge F.1 (i := 14) (tgt := 30) rfl (by decide) (fun c => ?_) (fun c => ?_)
  · replace h := if_T c h
    exact x_wk F.1 (hk30 _ _ _ h) ⟨rfl, rfl, rfl, rfl, trivial⟩
  · replace h := if_F c h
    refine x_aload_n F.1 (i := 15) rfl rfl ?_
    refine cal_e h (fun r1 M1 e2 h => ?_)
    refine x_cV0v F.1 (i := 16) rfl ml_RM_212 ok_RM_amiss rfl (Nat.le_of_ble_eq_true rfl) (Nat.le_of_ble_eq_true rfl) (fun _ => t_RM_amiss e2) ?_
    exact x_wk F.1 (hk30 _ _ _ h) ⟨rfl, rfl, rfl, rfl, trivial⟩
set_option maxHeartbeats 4000000 in
theorem t_RM_readStep {w : kx_W} {d : Nat} {M : kx_M} {Q : Option Value → kx_M → Prop} {p1 : Int32} {r : Unit} {M' : kx_M} {c_readStep : Int32 → kx_M → Option (Unit × kx_M)} (hc_readStep : ∀ (k : Nat) (a1 : Int32) (M : kx_M) (r : Unit) (M' : kx_M) (Q : Option Value → kx_M → Prop), c_readStep a1 M = some (r, M') → Q none M' → Ct w (d + k) m_RM_readStep [.ref 135, .int a1] M Q) (h : f_RM_readStep c_readStep p1 M = some (r, M')) (hQ : Q none M') : Ct w (d + 8) m_RM_readStep [.ref 135, .int p1] M Q := by
  refine mk_ct ok_RM_readStep (Nat.le_of_ble_eq_true rfl) (fun G F => ?_)
  rw [f_RM_readStep] at h
  show G 0 [some (.ref 135), some (.int p1), none, none, none] [] M
  refine x_aload_n F.1 (i := 0) rfl rfl ?_
  refine cal_e h (fun r1 M1 e2 h => ?_)
  refine x_cV0i F.1 (i := 1) rfl ml_RM_187 ok_RM_stepWord rfl (Nat.le_of_ble_eq_true rfl) (Nat.le_of_ble_eq_true rfl) (fun _ => t_RM_stepWord e2) ?_
  refine x_istore_n F.1 (i := 2) rfl (Nat.le_of_ble_eq_true rfl) (Nat.le_of_ble_eq_true rfl) rfl ?_
  refine x_iload_n F.1 (i := 3) rfl rfl ?_
  refine x_iconst F.1 (i := 4) rfl ic_5 ?_
  refine x_icmp_eq F.1 (i := 5) (tgt := 16) rfl (by decide) (fun c => ?_) (fun c => ?_)
  · replace h := if_T c h
    exact x_wk F.1 ((t_RM_readStep_l16 F hc_readStep (res := (r, M')) hQ (t_RM_readStep_l30 F hc_readStep (res := (r, M')) hQ)) _ _ h) ⟨rfl, rfl, rfl, trivial⟩
  · replace h := if_F c h
    refine x_iload_n F.1 (i := 6) rfl rfl ?_
    refine x_bipush F.1 (i := 7) rfl bp_6 ?_
    refine x_icmp_ne F.1 (i := 8) (tgt := 20) rfl (by decide) (fun c => ?_) (fun c => ?_)
    · replace h := if_F c h
      refine x_iconst F.1 (i := 11) rfl ic_0 ?_
      refine x_istore_n F.1 (i := 12) rfl (Nat.le_of_ble_eq_true rfl) (Nat.le_of_ble_eq_true rfl) rfl ?_
      refine x_iload_n F.1 (i := 13) rfl rfl ?_
      refine x_if_ge F.1 (i := 14) (tgt := 30) rfl (by decide) (fun c => ?_) (fun c => ?_)
      · replace h := if_T c h
        exact x_wk F.1 ((t_RM_readStep_l30 F hc_readStep (res := (r, M')) hQ) _ _ _ h) ⟨rfl, rfl, rfl, rfl, trivial⟩
      · replace h := if_F c h
        refine x_aload_n F.1 (i := 15) rfl rfl ?_
        refine cal_e h (fun r3 M2 e4 h => ?_)
        refine x_cV0v F.1 (i := 16) rfl ml_RM_212 ok_RM_amiss rfl (Nat.le_of_ble_eq_true rfl) (Nat.le_of_ble_eq_true rfl) (fun _ => t_RM_amiss e4) ?_
        exact x_wk F.1 ((t_RM_readStep_l30 F hc_readStep (res := (r, M')) hQ) _ _ _ h) ⟨rfl, rfl, rfl, rfl, trivial⟩
    · replace h := if_T c h
      exact x_wk F.1 ((t_RM_readStep_l16 F hc_readStep (res := (r, M')) hQ (t_RM_readStep_l30 F hc_readStep (res := (r, M')) hQ)) _ _ h) ⟨rfl, rfl, rfl, trivial⟩
theorem tn_RM_readStep {w : kx_W} : ∀ (n d : Nat) (a1 : Int32) (M : kx_M) (r : Unit) (M' : kx_M) (Q : Option Value → kx_M → Prop), g_RM_readStep n a1 M = some (r, M') → Q none M' → Ct w (d + 8 * n + 8) m_RM_readStep [.ref 135, .int a1] M Q := by
  intro n
  induction n with
  | zero => intro d a1 M r M' Q h; exact nomatch h
  | succ n ih =>
    intro d a1 M r M' Q h hQ
    have := t_RM_readStep (w := w) (d := d + 8 * n + 8) (M := M) (Q := Q) (c_readStep := g_RM_readStep n) (fun k a1 M r M' Q h hQ => by
      have := ih (d + k) a1 M r M' Q h hQ
      rwa [show d + k + 8 * n + 8 = d + 8 * n + 8 + k by omega] at this) h hQ
    rwa [show d + 8 * n + 8 + 8 = d + 8 * (n + 1) + 8 by omega] at this
theorem tg_RM_readStep {w : kx_W} {d : Nat} (a1 : Int32) {M : kx_M} {r : Unit} {M' : kx_M} {Q : Option Value → kx_M → Prop} (h : g_RM_readStep 5 a1 M = some (r, M')) (hQ : Q none M') : Ct w (d + 48) m_RM_readStep [.ref 135, .int a1] M Q := tn_RM_readStep 5 d a1 M r M' Q h hQ
set_option maxHeartbeats 4000000 in
theorem t_RM_centuries_l82 {w : kx_W} {d : Nat} {Q : Option Value → kx_M → Prop} {G : Nat → List (Option Value) → List Value → kx_M → Prop} (F : Sd w (d + 49) m_RM_centuries Q G) {p1 : Int32} {res : Int32 × kx_M} (hQ : Q (some (.int res.1)) res.2) :
    ∀ (n : Nat) (x2 : Int32) (M : kx_M),
    f_RM_centuries_l82 p1 n x2 M = some res → G 82 [some (.ref 135), none, some (.int x2)] [] M := by
  intro n
  induction n with
  | zero =>
    intro x2 M h
    exact absurd h (by rw [f_RM_centuries_l82]; exact fun z => nomatch z)
  | succ n ih =>
    intro x2 M h
    rw [f_RM_centuries_l82] at h
    refine x_iload_n F.1 (i := 44) rfl rfl ?_
    refine x_bipush F.1 (i := 45) rfl bp_9 ?_
    refine x_aload_n F.1 (i := 46) rfl rfl ?_
    refine x_getI F.1 (i := 47) rfl fl_RM_294 rfl (by rfl) ?_
    refine x_imul F.1 (i := 48) rfl ?_
    refine x_icmp_ge F.1 (i := 49) (tgt := 119) rfl (by decide) (fun c => ?_) (fun c => ?_)
    · replace h := if_T c h
      refine x_aload_n F.1 (i := 64) rfl rfl ?_
      refine x_getI F.1 (i := 65) rfl fl_RM_294 rfl (by rfl) ?_
      exact x_iretf F (i := 66) rfl rfl h hQ
    · replace h := if_F c h
      refine x_aload_n F.1 (i := 50) rfl rfl ?_
      refine x_getC F.1 (i := 51) rfl fl_RM_35 rfl (by rfl) ?_
      refine x_sipush F.1 (i := 52) rfl sp_498 ?_
      refine x_iload_n F.1 (i := 53) rfl rfl ?_
      refine x_iadd F.1 (i := 54) rfl ?_
      refine x_aload_n F.1 (i := 55) rfl rfl ?_
      refine x_getC F.1 (i := 56) rfl fl_RM_35 rfl (by rfl) ?_
      refine x_sipush F.1 (i := 57) rfl sp_3570 ?_
      refine x_iload_n F.1 (i := 58) rfl rfl ?_
      refine x_iadd F.1 (i := 59) rfl ?_
      refine gd_e h (fun g1 h => ?_)
      refine x_iald F.1 (i := 60) rfl rfl (inb_e g1) ?_
      refine gd_e h (fun g2 h => ?_)
      refine x_iast F.1 (i := 61) rfl rfl (inb_e g2) ?_
      replace h := bd_e h
      refine x_iinc F.1 (i := 62) rfl rfl rfl (Nat.le_of_ble_eq_true rfl) rfl ?_
      replace h := bd_e h
      refine x_goto F.1 (i := 63) (tgt := 82) rfl (by decide) ?_
      exact x_wk F.1 (ih _ _ h) ⟨rfl, rfl, trivial⟩
set_option maxHeartbeats 4000000 in
theorem t_RM_centuries_l50 {w : kx_W} {d : Nat} {Q : Option Value → kx_M → Prop} {G : Nat → List (Option Value) → List Value → kx_M → Prop} (F : Sd w (d + 49) m_RM_centuries Q G) {p1 : Int32} {res : Int32 × kx_M} (hQ : Q (some (.int res.1)) res.2) :
    ∀ (M : kx_M),
    f_RM_centuries_l50 p1 M = some res → G 50 [some (.ref 135), none, none] [] M := by
  intro M h
  rw [f_RM_centuries_l50] at h
  refine x_aload_n F.1 (i := 26) rfl rfl ?_
  refine cal_e h (fun r1 M1 e2 h => ?_)
  refine x_cV0i F.1 (i := 27) rfl ml_RM_282 ok_RM_isWell rfl (Nat.le_of_ble_eq_true rfl) (Nat.le_of_ble_eq_true rfl) (fun _ => t_RM_isWell e2) ?_
  refine x_if_ne F.1 (i := 28) (tgt := 59) rfl (by decide) (fun c => ?_) (fun c => ?_)
  · replace h := if_F c h
    refine x_aload_n F.1 (i := 31) rfl rfl ?_
    refine x_getC F.1 (i := 32) rfl fl_RM_35 rfl (by rfl) ?_
    refine x_sipush F.1 (i := 33) rfl sp_496 ?_
    refine x_iconst F.1 (i := 34) rfl ic_1 ?_
    refine gd_e h (fun g3 h => ?_)
    refine x_iast F.1 (i := 35) rfl rfl (inb_e g3) ?_
    replace h := bd_e h
    refine x_aload_n F.1 (i := 36) rfl rfl ?_
    refine x_getC F.1 (i := 37) rfl fl_RM_35 rfl (by rfl) ?_
    refine x_sipush F.1 (i := 38) rfl sp_497 ?_
    refine x_aload_n F.1 (i := 39) rfl rfl ?_
    refine x_getI F.1 (i := 40) rfl fl_RM_294 rfl (by rfl) ?_
    refine gd_e h (fun g4 h => ?_)
    refine x_iast F.1 (i := 41) rfl rfl (inb_e g4) ?_
    replace h := bd_e h
    refine x_iconst F.1 (i := 42) rfl ic_0 ?_
    refine x_istore_n F.1 (i := 43) rfl (Nat.le_of_ble_eq_true rfl) (Nat.le_of_ble_eq_true rfl) rfl ?_
    exact x_wk F.1 ((t_RM_centuries_l82 F hQ FU) _ _ h) ⟨rfl, rfl, trivial⟩
  · replace h := if_T c h
    refine x_iconst F.1 (i := 29) rfl ic_n1 ?_
    exact x_iretf F (i := 30) rfl rfl h hQ
set_option maxHeartbeats 4000000 in
theorem t_RM_centuries_l28 {w : kx_W} {d : Nat} {Q : Option Value → kx_M → Prop} {G : Nat → List (Option Value) → List Value → kx_M → Prop} (F : Sd w (d + 49) m_RM_centuries Q G) {p1 : Int32} {res : Int32 × kx_M} (hQ : Q (some (.int res.1)) res.2) :
    ∀ (n : Nat) (M : kx_M),
    f_RM_centuries_l28 p1 n M = some res → G 28 [some (.ref 135), none, none] [] M := by
  intro n
  induction n with
  | zero =>
    intro M h
    exact absurd h (by rw [f_RM_centuries_l28]; exact fun z => nomatch z)
  | succ n ih =>
    intro M h
    rw [f_RM_centuries_l28] at h
    refine x_aload_n F.1 (i := 16) rfl rfl ?_
    refine x_getI F.1 (i := 17) rfl fl_RM_199 rfl (by rfl) ?_
    refine x_if_ne F.1 (i := 18) (tgt := 50) rfl (by decide) (fun c => ?_) (fun c => ?_)
    · replace h := if_F c h
      exact x_wk F.1 ((t_RM_centuries_l50 F hQ) _ h) ⟨rfl, trivial⟩
    · replace h := if_T c h
      refine x_aload_n F.1 (i := 19) rfl rfl ?_
      refine x_getI F.1 (i := 20) rfl fl_RM_119 rfl (by rfl) ?_
      refine x_if_eq F.1 (i := 21) (tgt := 50) rfl (by decide) (fun c => ?_) (fun c => ?_)
      · replace h := if_T c h
        exact x_wk F.1 ((t_RM_centuries_l50 F hQ) _ h) ⟨rfl, trivial⟩
      · replace h := if_F c h
        refine x_aload_n F.1 (i := 22) rfl rfl ?_
        refine x_iconst F.1 (i := 23) rfl ic_0 ?_
        refine cal_e h (fun r1 M1 e2 h => ?_)
        refine x_cV1v F.1 (i := 24) rfl ml_RM_300 ok_RM_readStep rfl (Nat.le_of_ble_eq_true rfl) (Nat.le_of_ble_eq_true rfl) (fun _ => tg_RM_readStep _ e2) ?_
        refine x_goto F.1 (i := 25) (tgt := 28) rfl (by decide) ?_
        exact x_wk F.1 (ih _ h) ⟨rfl, trivial⟩
set_option maxHeartbeats 4000000 in
theorem t_RM_centuries {w : kx_W} {d : Nat} {M : kx_M} {Q : Option Value → kx_M → Prop} {p1 : Int32} {r : Int32} {M' : kx_M} (h : f_RM_centuries p1 M = some (r, M')) (hQ : Q (some (.int r)) M') : Ct w (d + 49) m_RM_centuries [.ref 135, .int p1] M Q := by
  refine mk_ct ok_RM_centuries (Nat.le_of_ble_eq_true rfl) (fun G F => ?_)
  rw [f_RM_centuries] at h
  show G 0 [some (.ref 135), some (.int p1), none] [] M
  refine x_aload_n F.1 (i := 0) rfl rfl ?_
  refine x_iconst F.1 (i := 1) rfl ic_0 ?_
  refine x_putI F.1 (i := 2) rfl fl_RM_68 pf_RM_thrown rfl (by rfl) ?_
  replace h := bd_e h
  refine x_aload_n F.1 (i := 3) rfl rfl ?_
  refine x_iconst F.1 (i := 4) rfl ic_0 ?_
  refine x_putI F.1 (i := 5) rfl fl_RM_71 pf_RM_status rfl (by rfl) ?_
  replace h := bd_e h
  refine x_aload_n F.1 (i := 6) rfl rfl ?_
  refine x_iload_n F.1 (i := 7) rfl rfl ?_
  refine x_sipush F.1 (i := 8) rfl sp_300 ?_
  refine cal_e h (fun r1 M3 e2 h => ?_)
  refine x_cV2i F.1 (i := 9) rfl ml_RM_273 ok_RM_starts rfl (Nat.le_of_ble_eq_true rfl) (Nat.le_of_ble_eq_true rfl) (fun _ => t_RM_starts e2) ?_
  refine x_if_ne F.1 (i := 10) (tgt := 23) rfl (by decide) (fun c => ?_) (fun c => ?_)
  · replace h := if_F c h
    refine x_aload_n F.1 (i := 13) rfl rfl ?_
    refine x_iconst F.1 (i := 14) rfl ic_0 ?_
    refine x_putI F.1 (i := 15) rfl fl_RM_294 pf_RM_newSteps rfl (by rfl) ?_
    replace h := bd_e h
    exact x_wk F.1 ((t_RM_centuries_l28 F (res := (r, M')) hQ FU) _ h) ⟨rfl, trivial⟩
  · replace h := if_T c h
    refine x_iconst F.1 (i := 11) rfl ic_n1 ?_
    exact x_iretf F (i := 12) rfl rfl h (res := (r, M')) hQ
set_option maxHeartbeats 4000000 in
theorem t_RM_refuse {w : kx_W} {d : Nat} {M : kx_M} {Q : Option Value → kx_M → Prop} {p1 : Int32} {r : Int32} {M' : kx_M} (h : f_RM_refuse p1 M = some (r, M')) (hQ : Q (some (.int r)) M') : Ct w d m_RM_refuse [.ref 135, .int p1] M Q := by
  refine mk_ct ok_RM_refuse (Nat.le_of_ble_eq_true rfl) (fun G F => ?_)
  rw [f_RM_refuse] at h
  show G 0 [some (.ref 135), some (.int p1)] [] M
  refine x_aload_n F.1 (i := 0) rfl rfl ?_
  refine x_iload_n F.1 (i := 1) rfl rfl ?_
  refine x_putI F.1 (i := 2) rfl fl_RM_71 pf_RM_status rfl (by rfl) ?_
  replace h := bd_e h
  refine x_iconst F.1 (i := 3) rfl ic_n1 ?_
  exact x_iretf F (i := 4) rfl rfl h (res := (r, M')) hQ
set_option maxHeartbeats 4000000 in
theorem t_RM_place {w : kx_W} {d : Nat} {M : kx_M} {Q : Option Value → kx_M → Prop} {p0 : Int32} {p1 : Int32} {r : Int32} {M' : kx_M} (h : f_RM_place p0 p1 M = some (r, M')) (hQ : Q (some (.int r)) M') : Ct w d m_RM_place [.int p0, .int p1] M Q := by
  refine mk_ct ok_RM_place (Nat.le_of_ble_eq_true rfl) (fun G F => ?_)
  rw [f_RM_place] at h
  show G 0 [some (.int p0), some (.int p1)] [] M
  refine x_bipush F.1 (i := 0) rfl bp_8 ?_
  refine x_iload_n F.1 (i := 1) rfl rfl ?_
  refine x_imul F.1 (i := 2) rfl ?_
  refine x_iload_n F.1 (i := 3) rfl rfl ?_
  refine x_iadd F.1 (i := 4) rfl ?_
  exact x_iretf F (i := 5) rfl rfl h (res := (r, M')) hQ
set_option maxHeartbeats 4000000 in
theorem t_RM_isUndone {w : kx_W} {d : Nat} {M : kx_M} {Q : Option Value → kx_M → Prop} {p1 : Int32} {r : Int32} {M' : kx_M} (h : f_RM_isUndone p1 M = some (r, M')) (hQ : Q (some (.int r)) M') : Ct w d m_RM_isUndone [.ref 135, .int p1] M Q := by
  refine mk_ct ok_RM_isUndone (Nat.le_of_ble_eq_true rfl) (fun G F => ?_)
  rw [f_RM_isUndone] at h
  show G 0 [some (.ref 135), some (.int p1)] [] M
  refine x_aload_n F.1 (i := 0) rfl rfl ?_
  refine x_getC F.1 (i := 1) rfl fl_RM_35 rfl (by rfl) ?_
  refine x_sipush F.1 (i := 2) rfl sp_304 ?_
  refine x_iload_n F.1 (i := 3) rfl rfl ?_
  refine x_iadd F.1 (i := 4) rfl ?_
  refine gd_e h (fun g1 h => ?_)
  refine x_iald F.1 (i := 5) rfl rfl (inb_e g1) ?_
  refine x_iconst F.1 (i := 6) rfl ic_1 ?_
  refine x_icmp_ne F.1 (i := 7) (tgt := 18) rfl (by decide) (fun c => ?_) (fun c => ?_)
  · replace h := if_F c h
    refine x_iconst F.1 (i := 10) rfl ic_0 ?_
    exact x_zretf F (i := 11) rfl rfl (Or.inl rfl) h (res := (r, M')) hQ
  · replace h := if_T c h
    refine x_iconst F.1 (i := 8) rfl ic_1 ?_
    refine x_goto F.1 (i := 9) (tgt := 19) rfl (by decide) ?_
    exact x_zretf F (i := 11) rfl rfl (Or.inr rfl) h (res := (r, M')) hQ
set_option maxHeartbeats 4000000 in
theorem t_RM_sumOf_l86 {w : kx_W} {d : Nat} {Q : Option Value → kx_M → Prop} {G : Nat → List (Option Value) → List Value → kx_M → Prop} (F : Sd w (d + 1) m_RM_sumOf Q G) {p1 : Int32} {k17 : Int32 → Int32 → Int32 → kx_M → Option (Int32 × kx_M)} {res : Int32 × kx_M} (hQ : Q (some (.int res.1)) res.2) (hk17 : ∀ (x2 : Int32) (x3 : Int32) (x4 : Int32) (M : kx_M), k17 x2 x3 x4 M = some res → G 17 [some (.ref 135), some (.int p1), some (.int x2), some (.int x3), some (.int x4)] [] M) :
    ∀ (x3 : Int32) (x4 : Int32) (s0 : Int32) (s1 : Nat) (s2 : Int32) (M : kx_M),
    f_RM_sumOf_l86 p1 k17 x3 x4 s0 s1 s2 M = some res → G 86 [some (.ref 135), some (.int p1), none, some (.int x3), some (.int x4)] [.int s2, .ref s1, .int s0] M := by
  intro x3 x4 s0 s1 s2 M h
  rw [f_RM_sumOf_l86] at h
  refine x_iload_n F.1 (i := 46) rfl rfl ?_
  refine x_iload F.1 (i := 47) rfl rfl ?_
  refine cal_e h (fun r1 M1 e2 h => ?_)
  refine x_cS2i F.1 (i := 48) rfl ml_RM_303 ok_RM_place (Nat.le_of_ble_eq_true rfl) (Nat.le_of_ble_eq_true rfl) (fun _ => t_RM_place e2) ?_
  refine x_iadd F.1 (i := 49) rfl ?_
  refine gd_e h (fun g3 h => ?_)
  obtain ⟨ng3, kg3, lg3, ig3⟩ := aIb_e g3
  refine x_iald F.1 (i := 50) rfl lg3 ig3 ?_
  refine x_iadd F.1 (i := 51) rfl ?_
  refine x_istore_n F.1 (i := 52) rfl (Nat.le_of_ble_eq_true rfl) (Nat.le_of_ble_eq_true rfl) rfl ?_
  replace h := bd_e h
  refine x_iinc F.1 (i := 53) rfl rfl rfl (Nat.le_of_ble_eq_true rfl) rfl ?_
  replace h := bd_e h
  refine x_goto F.1 (i := 54) (tgt := 17) rfl (by decide) ?_
  exact x_wk F.1 (hk17 _ _ _ _ h) ⟨rfl, rfl, rfl, rfl, rfl, trivial⟩
set_option maxHeartbeats 4000000 in
theorem t_RM_sumOf_l17 {w : kx_W} {d : Nat} {Q : Option Value → kx_M → Prop} {G : Nat → List (Option Value) → List Value → kx_M → Prop} (F : Sd w (d + 1) m_RM_sumOf Q G) {p1 : Int32} {k4 : Int32 → Int32 → kx_M → Option (Int32 × kx_M)} {res : Int32 × kx_M} (hQ : Q (some (.int res.1)) res.2) (hk4 : ∀ (x2 : Int32) (x3 : Int32) (M : kx_M), k4 x2 x3 M = some res → G 4 [some (.ref 135), some (.int p1), some (.int x2), some (.int x3), none] [] M) :
    ∀ (n : Nat) (x2 : Int32) (x3 : Int32) (x4 : Int32) (M : kx_M),
    f_RM_sumOf_l17 p1 k4 n x2 x3 x4 M = some res → G 17 [some (.ref 135), some (.int p1), some (.int x2), some (.int x3), some (.int x4)] [] M := by
  intro n
  induction n with
  | zero =>
    intro x2 x3 x4 M h
    exact absurd h (by rw [f_RM_sumOf_l17]; exact fun z => nomatch z)
  | succ n ih =>
    intro x2 x3 x4 M h
    rw [f_RM_sumOf_l17] at h
    refine x_iload F.1 (i := 12) rfl rfl ?_
    refine x_aload_n F.1 (i := 13) rfl rfl ?_
    refine x_getC F.1 (i := 14) rfl fl_RM_35 rfl (by rfl) ?_
    refine x_iconst F.1 (i := 15) rfl ic_0 ?_
    refine gd_e h (fun g1 h => ?_)
    refine x_iald F.1 (i := 16) rfl rfl (inb_e g1) ?_
    refine x_icmp_ge F.1 (i := 17) (tgt := 102) rfl (by decide) (fun c => ?_) (fun c => ?_)
    · replace h := if_T c h
      refine x_iinc F.1 (i := 55) rfl rfl rfl (Nat.le_of_ble_eq_true rfl) rfl ?_
      replace h := bd_e h
      refine x_goto F.1 (i := 56) (tgt := 4) rfl (by decide) ?_
      exact x_wk F.1 (hk4 _ _ _ h) ⟨rfl, rfl, rfl, rfl, trivial⟩
    · replace h := if_F c h
      refine x_iload_n F.1 (i := 18) rfl rfl ?_
      refine x_iload_n F.1 (i := 19) rfl rfl ?_
      refine x_iconst F.1 (i := 20) rfl ic_2 ?_
      refine x_icmp_ne F.1 (i := 21) (tgt := 69) rfl (by decide) (fun c => ?_) (fun c => ?_)
      · replace h := if_F c h
        refine x_aload_n F.1 (i := 39) rfl rfl ?_
        refine x_getC F.1 (i := 40) rfl fl_RM_35 rfl (by rfl) ?_
        refine x_iload_n F.1 (i := 41) rfl rfl ?_
        refine x_if_ne F.1 (i := 42) (tgt := 83) rfl (by decide) (fun c => ?_) (fun c => ?_)
        · replace h := if_F c h
          refine x_sipush F.1 (i := 45) rfl sp_400 ?_
          exact x_wk F.1 ((t_RM_sumOf_l86 F hQ ih) _ _ _ _ _ _ h) ⟨rfl, rfl, rfl, rfl, trivial⟩
        · replace h := if_T c h
          refine x_sipush F.1 (i := 43) rfl sp_304 ?_
          refine x_goto F.1 (i := 44) (tgt := 86) rfl (by decide) ?_
          exact x_wk F.1 ((t_RM_sumOf_l86 F hQ ih) _ _ _ _ _ _ h) ⟨rfl, rfl, rfl, rfl, trivial⟩
      · replace h := if_T c h
        refine x_aload_n F.1 (i := 22) rfl rfl ?_
        refine x_iload_n F.1 (i := 23) rfl rfl ?_
        refine x_iload F.1 (i := 24) rfl rfl ?_
        refine cal_e h (fun r3 M1 e4 h => ?_)
        refine x_cS2i F.1 (i := 25) rfl ml_RM_303 ok_RM_place (Nat.le_of_ble_eq_true rfl) (Nat.le_of_ble_eq_true rfl) (fun _ => t_RM_place e4) ?_
        refine cal_e h (fun r5 M2 e6 h => ?_)
        refine x_cV1i F.1 (i := 26) rfl ml_RM_306 ok_RM_isUndone rfl (Nat.le_of_ble_eq_true rfl) (Nat.le_of_ble_eq_true rfl) (fun _ => t_RM_isUndone e6) ?_
        refine x_if_eq F.1 (i := 27) (tgt := 51) rfl (by decide) (fun c => ?_) (fun c => ?_)
        · replace h := if_T c h
          refine x_aload_n F.1 (i := 30) rfl rfl ?_
          refine x_getC F.1 (i := 31) rfl fl_RM_35 rfl (by rfl) ?_
          refine x_sipush F.1 (i := 32) rfl sp_208 ?_
          refine x_iload_n F.1 (i := 33) rfl rfl ?_
          refine x_iload F.1 (i := 34) rfl rfl ?_
          refine cal_e h (fun r7 M3 e8 h => ?_)
          refine x_cS2i F.1 (i := 35) rfl ml_RM_303 ok_RM_place (Nat.le_of_ble_eq_true rfl) (Nat.le_of_ble_eq_true rfl) (fun _ => t_RM_place e8) ?_
          refine x_iadd F.1 (i := 36) rfl ?_
          refine gd_e h (fun g9 h => ?_)
          refine x_iald F.1 (i := 37) rfl rfl (inb_e g9) ?_
          refine x_goto F.1 (i := 38) (tgt := 94) rfl (by decide) ?_
          refine x_iadd F.1 (i := 51) rfl ?_
          refine x_istore_n F.1 (i := 52) rfl (Nat.le_of_ble_eq_true rfl) (Nat.le_of_ble_eq_true rfl) rfl ?_
          replace h := bd_e h
          refine x_iinc F.1 (i := 53) rfl rfl rfl (Nat.le_of_ble_eq_true rfl) rfl ?_
          replace h := bd_e h
          refine x_goto F.1 (i := 54) (tgt := 17) rfl (by decide) ?_
          exact x_wk F.1 (ih _ _ _ _ h) ⟨rfl, rfl, rfl, rfl, rfl, trivial⟩
        · replace h := if_F c h
          refine x_iconst F.1 (i := 28) rfl ic_0 ?_
          refine x_goto F.1 (i := 29) (tgt := 94) rfl (by decide) ?_
          refine x_iadd F.1 (i := 51) rfl ?_
          refine x_istore_n F.1 (i := 52) rfl (Nat.le_of_ble_eq_true rfl) (Nat.le_of_ble_eq_true rfl) rfl ?_
          replace h := bd_e h
          refine x_iinc F.1 (i := 53) rfl rfl rfl (Nat.le_of_ble_eq_true rfl) rfl ?_
          replace h := bd_e h
          refine x_goto F.1 (i := 54) (tgt := 17) rfl (by decide) ?_
          exact x_wk F.1 (ih _ _ _ _ h) ⟨rfl, rfl, rfl, rfl, rfl, trivial⟩
set_option maxHeartbeats 4000000 in
theorem t_RM_sumOf_l4 {w : kx_W} {d : Nat} {Q : Option Value → kx_M → Prop} {G : Nat → List (Option Value) → List Value → kx_M → Prop} (F : Sd w (d + 1) m_RM_sumOf Q G) {p1 : Int32} {res : Int32 × kx_M} (hQ : Q (some (.int res.1)) res.2) :
    ∀ (n : Nat) (x2 : Int32) (x3 : Int32) (M : kx_M),
    f_RM_sumOf_l4 p1 n x2 x3 M = some res → G 4 [some (.ref 135), some (.int p1), some (.int x2), some (.int x3), none] [] M := by
  intro n
  induction n with
  | zero =>
    intro x2 x3 M h
    exact absurd h (by rw [f_RM_sumOf_l4]; exact fun z => nomatch z)
  | succ n ih =>
    intro x2 x3 M h
    rw [f_RM_sumOf_l4] at h
    refine x_iload_n F.1 (i := 4) rfl rfl ?_
    refine x_aload_n F.1 (i := 5) rfl rfl ?_
    refine x_getC F.1 (i := 6) rfl fl_RM_35 rfl (by rfl) ?_
    refine x_iconst F.1 (i := 7) rfl ic_4 ?_
    refine gd_e h (fun g1 h => ?_)
    refine x_iald F.1 (i := 8) rfl rfl (inb_e g1) ?_
    refine x_icmp_ge F.1 (i := 9) (tgt := 108) rfl (by decide) (fun c => ?_) (fun c => ?_)
    · replace h := if_T c h
      refine x_iload_n F.1 (i := 57) rfl rfl ?_
      exact x_iretf F (i := 58) rfl rfl h hQ
    · replace h := if_F c h
      refine x_iconst F.1 (i := 10) rfl ic_0 ?_
      refine x_istore F.1 (i := 11) rfl (Nat.le_of_ble_eq_true rfl) (Nat.le_of_ble_eq_true rfl) rfl ?_
      exact x_wk F.1 ((t_RM_sumOf_l17 F hQ ih FU) _ _ _ _ h) ⟨rfl, rfl, rfl, rfl, rfl, trivial⟩
set_option maxHeartbeats 4000000 in
theorem t_RM_sumOf {w : kx_W} {d : Nat} {M : kx_M} {Q : Option Value → kx_M → Prop} {p1 : Int32} {r : Int32} {M' : kx_M} (h : f_RM_sumOf p1 M = some (r, M')) (hQ : Q (some (.int r)) M') : Ct w (d + 1) m_RM_sumOf [.ref 135, .int p1] M Q := by
  refine mk_ct ok_RM_sumOf (Nat.le_of_ble_eq_true rfl) (fun G F => ?_)
  rw [f_RM_sumOf] at h
  show G 0 [some (.ref 135), some (.int p1), none, none, none] [] M
  refine x_iconst F.1 (i := 0) rfl ic_0 ?_
  refine x_istore_n F.1 (i := 1) rfl (Nat.le_of_ble_eq_true rfl) (Nat.le_of_ble_eq_true rfl) rfl ?_
  refine x_iconst F.1 (i := 2) rfl ic_0 ?_
  refine x_istore_n F.1 (i := 3) rfl (Nat.le_of_ble_eq_true rfl) (Nat.le_of_ble_eq_true rfl) rfl ?_
  exact x_wk F.1 ((t_RM_sumOf_l4 F (res := (r, M')) hQ FU) _ _ _ h) ⟨rfl, rfl, rfl, rfl, trivial⟩
set_option maxHeartbeats 4000000 in
theorem t_RM_isSaid_l3 {w : kx_W} {d : Nat} {Q : Option Value → kx_M → Prop} {G : Nat → List (Option Value) → List Value → kx_M → Prop} (F : Sd w (d + 1) m_RM_isSaid Q G) {p1 : Int32} {p2 : Int32} {p3 : Int32} {res : Int32 × kx_M} (hQ : Q (some (.int res.1)) res.2) :
    ∀ (n : Nat) (x4 : Int32) (M : kx_M),
    f_RM_isSaid_l3 p1 p2 p3 n x4 M = some res → G 3 [some (.ref 135), some (.int p1), some (.int p2), some (.int p3), some (.int x4)] [] M := by
  intro n
  induction n with
  | zero =>
    intro x4 M h
    exact absurd h (by rw [f_RM_isSaid_l3]; exact fun z => nomatch z)
  | succ n ih =>
    intro x4 M h
    rw [f_RM_isSaid_l3] at h
    refine x_iload F.1 (i := 2) rfl rfl ?_
    refine x_aload_n F.1 (i := 3) rfl rfl ?_
    refine x_getC F.1 (i := 4) rfl fl_RM_35 rfl (by rfl) ?_
    refine x_bipush F.1 (i := 5) rfl bp_10 ?_
    refine x_iload_n F.1 (i := 6) rfl rfl ?_
    refine x_iadd F.1 (i := 7) rfl ?_
    refine gd_e h (fun g1 h => ?_)
    refine x_iald F.1 (i := 8) rfl rfl (inb_e g1) ?_
    refine x_icmp_ge F.1 (i := 9) (tgt := 86) rfl (by decide) (fun c => ?_) (fun c => ?_)
    · replace h := if_T c h
      refine x_iconst F.1 (i := 51) rfl ic_1 ?_
      exact x_zretf F (i := 52) rfl rfl (Or.inr rfl) h hQ
    · replace h := if_F c h
      refine x_iload_n F.1 (i := 10) rfl rfl ?_
      refine x_iload F.1 (i := 11) rfl rfl ?_
      refine x_iadd F.1 (i := 12) rfl ?_
      refine x_aload_n F.1 (i := 13) rfl rfl ?_
      refine x_getC F.1 (i := 14) rfl fl_RM_35 rfl (by rfl) ?_
      refine x_iconst F.1 (i := 15) rfl ic_0 ?_
      refine gd_e h (fun g2 h => ?_)
      refine x_iald F.1 (i := 16) rfl rfl (inb_e g2) ?_
      refine x_icmp_ge F.1 (i := 17) (tgt := 78) rfl (by decide) (fun c => ?_) (fun c => ?_)
      · replace h := if_T c h
        refine x_iconst F.1 (i := 47) rfl ic_0 ?_
        exact x_zretf F (i := 48) rfl rfl (Or.inl rfl) h hQ
      · replace h := if_F c h
        refine x_aload_n F.1 (i := 18) rfl rfl ?_
        refine x_iload_n F.1 (i := 19) rfl rfl ?_
        refine x_iload_n F.1 (i := 20) rfl rfl ?_
        refine x_iload F.1 (i := 21) rfl rfl ?_
        refine x_iadd F.1 (i := 22) rfl ?_
        refine cal_e h (fun r3 M1 e4 h => ?_)
        refine x_cS2i F.1 (i := 23) rfl ml_RM_303 ok_RM_place (Nat.le_of_ble_eq_true rfl) (Nat.le_of_ble_eq_true rfl) (fun _ => t_RM_place e4) ?_
        refine cal_e h (fun r5 M2 e6 h => ?_)
        refine x_cV1i F.1 (i := 24) rfl ml_RM_306 ok_RM_isUndone rfl (Nat.le_of_ble_eq_true rfl) (Nat.le_of_ble_eq_true rfl) (fun _ => t_RM_isUndone e6) ?_
        refine x_if_ne F.1 (i := 25) (tgt := 78) rfl (by decide) (fun c => ?_) (fun c => ?_)
        · replace h := if_F c h
          refine x_iconst F.1 (i := 47) rfl ic_0 ?_
          exact x_zretf F (i := 48) rfl rfl (Or.inl rfl) h hQ
        · replace h := if_T c h
          refine x_aload_n F.1 (i := 26) rfl rfl ?_
          refine x_getC F.1 (i := 27) rfl fl_RM_35 rfl (by rfl) ?_
          refine x_bipush F.1 (i := 28) rfl bp_112 ?_
          refine x_iload_n F.1 (i := 29) rfl rfl ?_
          refine x_iload_n F.1 (i := 30) rfl rfl ?_
          refine x_iload F.1 (i := 31) rfl rfl ?_
          refine x_iadd F.1 (i := 32) rfl ?_
          refine cal_e h (fun r7 M3 e8 h => ?_)
          refine x_cS2i F.1 (i := 33) rfl ml_RM_303 ok_RM_place (Nat.le_of_ble_eq_true rfl) (Nat.le_of_ble_eq_true rfl) (fun _ => t_RM_place e8) ?_
          refine x_iadd F.1 (i := 34) rfl ?_
          refine gd_e h (fun g9 h => ?_)
          refine x_iald F.1 (i := 35) rfl rfl (inb_e g9) ?_
          refine x_aload_n F.1 (i := 36) rfl rfl ?_
          refine x_getC F.1 (i := 37) rfl fl_RM_35 rfl (by rfl) ?_
          refine x_bipush F.1 (i := 38) rfl bp_16 ?_
          refine x_iconst F.1 (i := 39) rfl ic_5 ?_
          refine x_iload_n F.1 (i := 40) rfl rfl ?_
          refine x_imul F.1 (i := 41) rfl ?_
          refine x_iadd F.1 (i := 42) rfl ?_
          refine x_iload F.1 (i := 43) rfl rfl ?_
          refine x_iadd F.1 (i := 44) rfl ?_
          refine gd_e h (fun g10 h => ?_)
          refine x_iald F.1 (i := 45) rfl rfl (inb_e g10) ?_
          refine x_icmp_eq F.1 (i := 46) (tgt := 80) rfl (by decide) (fun c => ?_) (fun c => ?_)
          · replace h := if_T c h
            refine x_iinc F.1 (i := 49) rfl rfl rfl (Nat.le_of_ble_eq_true rfl) rfl ?_
            replace h := bd_e h
            refine x_goto F.1 (i := 50) (tgt := 3) rfl (by decide) ?_
            exact x_wk F.1 (ih _ _ h) ⟨rfl, rfl, rfl, rfl, rfl, trivial⟩
          · replace h := if_F c h
            refine x_iconst F.1 (i := 47) rfl ic_0 ?_
            exact x_zretf F (i := 48) rfl rfl (Or.inl rfl) h hQ
set_option maxHeartbeats 4000000 in
theorem t_RM_isSaid {w : kx_W} {d : Nat} {M : kx_M} {Q : Option Value → kx_M → Prop} {p1 : Int32} {p2 : Int32} {p3 : Int32} {r : Int32} {M' : kx_M} (h : f_RM_isSaid p1 p2 p3 M = some (r, M')) (hQ : Q (some (.int r)) M') : Ct w (d + 1) m_RM_isSaid [.ref 135, .int p1, .int p2, .int p3] M Q := by
  refine mk_ct ok_RM_isSaid (Nat.le_of_ble_eq_true rfl) (fun G F => ?_)
  rw [f_RM_isSaid] at h
  show G 0 [some (.ref 135), some (.int p1), some (.int p2), some (.int p3), none] [] M
  refine x_iconst F.1 (i := 0) rfl ic_0 ?_
  refine x_istore F.1 (i := 1) rfl (Nat.le_of_ble_eq_true rfl) (Nat.le_of_ble_eq_true rfl) rfl ?_
  exact x_wk F.1 ((t_RM_isSaid_l3 F (res := (r, M')) hQ FU) _ _ h) ⟨rfl, rfl, rfl, rfl, rfl, trivial⟩
set_option maxHeartbeats 4000000 in
theorem t_RM_timesIn_l5 {w : kx_W} {d : Nat} {Q : Option Value → kx_M → Prop} {G : Nat → List (Option Value) → List Value → kx_M → Prop} (F : Sd w (d + 2) m_RM_timesIn Q G) {p1 : Int32} {p2 : Int32} {res : Int32 × kx_M} (hQ : Q (some (.int res.1)) res.2) :
    ∀ (n : Nat) (x3 : Int32) (x4 : Int32) (M : kx_M),
    f_RM_timesIn_l5 p1 p2 n x3 x4 M = some res → G 5 [some (.ref 135), some (.int p1), some (.int p2), some (.int x3), some (.int x4)] [] M := by
  intro n
  induction n with
  | zero =>
    intro x3 x4 M h
    exact absurd h (by rw [f_RM_timesIn_l5]; exact fun z => nomatch z)
  | succ n ih =>
    intro x3 x4 M h
    rw [f_RM_timesIn_l5] at h
    refine x_iload F.1 (i := 4) rfl rfl ?_
    refine x_aload_n F.1 (i := 5) rfl rfl ?_
    refine x_getC F.1 (i := 6) rfl fl_RM_35 rfl (by rfl) ?_
    refine x_iconst F.1 (i := 7) rfl ic_0 ?_
    refine gd_e h (fun g1 h => ?_)
    refine x_iald F.1 (i := 8) rfl rfl (inb_e g1) ?_
    refine x_icmp_ge F.1 (i := 9) (tgt := 41) rfl (by decide) (fun c => ?_) (fun c => ?_)
    · replace h := if_T c h
      refine x_iload_n F.1 (i := 24) rfl rfl ?_
      exact x_iretf F (i := 25) rfl rfl h hQ
    · replace h := if_F c h
      refine x_iload_n F.1 (i := 10) rfl rfl ?_
      refine x_aload_n F.1 (i := 11) rfl rfl ?_
      refine x_iload_n F.1 (i := 12) rfl rfl ?_
      refine x_iload_n F.1 (i := 13) rfl rfl ?_
      refine x_iload F.1 (i := 14) rfl rfl ?_
      refine cal_e h (fun r2 M1 e3 h => ?_)
      refine x_cV3i F.1 (i := 15) rfl ml_RM_309 ok_RM_isSaid rfl (Nat.le_of_ble_eq_true rfl) (Nat.le_of_ble_eq_true rfl) (fun _ => t_RM_isSaid e3) ?_
      refine x_if_eq F.1 (i := 16) (tgt := 32) rfl (by decide) (fun c => ?_) (fun c => ?_)
      · replace h := if_T c h
        refine x_iconst F.1 (i := 19) rfl ic_0 ?_
        refine x_iadd F.1 (i := 20) rfl ?_
        refine x_istore_n F.1 (i := 21) rfl (Nat.le_of_ble_eq_true rfl) (Nat.le_of_ble_eq_true rfl) rfl ?_
        replace h := bd_e h
        refine x_iinc F.1 (i := 22) rfl rfl rfl (Nat.le_of_ble_eq_true rfl) rfl ?_
        replace h := bd_e h
        refine x_goto F.1 (i := 23) (tgt := 5) rfl (by decide) ?_
        exact x_wk F.1 (ih _ _ _ h) ⟨rfl, rfl, rfl, rfl, rfl, trivial⟩
      · replace h := if_F c h
        refine x_iconst F.1 (i := 17) rfl ic_1 ?_
        refine x_goto F.1 (i := 18) (tgt := 33) rfl (by decide) ?_
        refine x_iadd F.1 (i := 20) rfl ?_
        refine x_istore_n F.1 (i := 21) rfl (Nat.le_of_ble_eq_true rfl) (Nat.le_of_ble_eq_true rfl) rfl ?_
        replace h := bd_e h
        refine x_iinc F.1 (i := 22) rfl rfl rfl (Nat.le_of_ble_eq_true rfl) rfl ?_
        replace h := bd_e h
        refine x_goto F.1 (i := 23) (tgt := 5) rfl (by decide) ?_
        exact x_wk F.1 (ih _ _ _ h) ⟨rfl, rfl, rfl, rfl, rfl, trivial⟩
set_option maxHeartbeats 4000000 in
theorem t_RM_timesIn {w : kx_W} {d : Nat} {M : kx_M} {Q : Option Value → kx_M → Prop} {p1 : Int32} {p2 : Int32} {r : Int32} {M' : kx_M} (h : f_RM_timesIn p1 p2 M = some (r, M')) (hQ : Q (some (.int r)) M') : Ct w (d + 2) m_RM_timesIn [.ref 135, .int p1, .int p2] M Q := by
  refine mk_ct ok_RM_timesIn (Nat.le_of_ble_eq_true rfl) (fun G F => ?_)
  rw [f_RM_timesIn] at h
  show G 0 [some (.ref 135), some (.int p1), some (.int p2), none, none] [] M
  refine x_iconst F.1 (i := 0) rfl ic_0 ?_
  refine x_istore_n F.1 (i := 1) rfl (Nat.le_of_ble_eq_true rfl) (Nat.le_of_ble_eq_true rfl) rfl ?_
  refine x_iconst F.1 (i := 2) rfl ic_0 ?_
  refine x_istore F.1 (i := 3) rfl (Nat.le_of_ble_eq_true rfl) (Nat.le_of_ble_eq_true rfl) rfl ?_
  exact x_wk F.1 ((t_RM_timesIn_l5 F (res := (r, M')) hQ FU) _ _ _ h) ⟨rfl, rfl, rfl, rfl, rfl, trivial⟩
set_option maxHeartbeats 4000000 in
theorem t_RM_times_l4 {w : kx_W} {d : Nat} {Q : Option Value → kx_M → Prop} {G : Nat → List (Option Value) → List Value → kx_M → Prop} (F : Sd w (d + 3) m_RM_times Q G) {p1 : Int32} {res : Int32 × kx_M} (hQ : Q (some (.int res.1)) res.2) :
    ∀ (n : Nat) (x2 : Int32) (x3 : Int32) (M : kx_M),
    f_RM_times_l4 p1 n x2 x3 M = some res → G 4 [some (.ref 135), some (.int p1), some (.int x2), some (.int x3)] [] M := by
  intro n
  induction n with
  | zero =>
    intro x2 x3 M h
    exact absurd h (by rw [f_RM_times_l4]; exact fun z => nomatch z)
  | succ n ih =>
    intro x2 x3 M h
    rw [f_RM_times_l4] at h
    refine x_iload_n F.1 (i := 4) rfl rfl ?_
    refine x_aload_n F.1 (i := 5) rfl rfl ?_
    refine x_getC F.1 (i := 6) rfl fl_RM_35 rfl (by rfl) ?_
    refine x_iconst F.1 (i := 7) rfl ic_4 ?_
    refine gd_e h (fun g1 h => ?_)
    refine x_iald F.1 (i := 8) rfl rfl (inb_e g1) ?_
    refine x_icmp_ge F.1 (i := 9) (tgt := 29) rfl (by decide) (fun c => ?_) (fun c => ?_)
    · replace h := if_T c h
      refine x_iload_n F.1 (i := 19) rfl rfl ?_
      exact x_iretf F (i := 20) rfl rfl h hQ
    · replace h := if_F c h
      refine x_iload_n F.1 (i := 10) rfl rfl ?_
      refine x_aload_n F.1 (i := 11) rfl rfl ?_
      refine x_iload_n F.1 (i := 12) rfl rfl ?_
      refine x_iload_n F.1 (i := 13) rfl rfl ?_
      refine cal_e h (fun r2 M1 e3 h => ?_)
      refine x_cV2i F.1 (i := 14) rfl ml_RM_313 ok_RM_timesIn rfl (Nat.le_of_ble_eq_true rfl) (Nat.le_of_ble_eq_true rfl) (fun _ => t_RM_timesIn e3) ?_
      refine x_iadd F.1 (i := 15) rfl ?_
      refine x_istore_n F.1 (i := 16) rfl (Nat.le_of_ble_eq_true rfl) (Nat.le_of_ble_eq_true rfl) rfl ?_
      replace h := bd_e h
      refine x_iinc F.1 (i := 17) rfl rfl rfl (Nat.le_of_ble_eq_true rfl) rfl ?_
      replace h := bd_e h
      refine x_goto F.1 (i := 18) (tgt := 4) rfl (by decide) ?_
      exact x_wk F.1 (ih _ _ _ h) ⟨rfl, rfl, rfl, rfl, trivial⟩
set_option maxHeartbeats 4000000 in
theorem t_RM_times {w : kx_W} {d : Nat} {M : kx_M} {Q : Option Value → kx_M → Prop} {p1 : Int32} {r : Int32} {M' : kx_M} (h : f_RM_times p1 M = some (r, M')) (hQ : Q (some (.int r)) M') : Ct w (d + 3) m_RM_times [.ref 135, .int p1] M Q := by
  refine mk_ct ok_RM_times (Nat.le_of_ble_eq_true rfl) (fun G F => ?_)
  rw [f_RM_times] at h
  show G 0 [some (.ref 135), some (.int p1), none, none] [] M
  refine x_iconst F.1 (i := 0) rfl ic_0 ?_
  refine x_istore_n F.1 (i := 1) rfl (Nat.le_of_ble_eq_true rfl) (Nat.le_of_ble_eq_true rfl) rfl ?_
  refine x_iconst F.1 (i := 2) rfl ic_0 ?_
  refine x_istore_n F.1 (i := 3) rfl (Nat.le_of_ble_eq_true rfl) (Nat.le_of_ble_eq_true rfl) rfl ?_
  exact x_wk F.1 ((t_RM_times_l4 F (res := (r, M')) hQ FU) _ _ _ h) ⟨rfl, rfl, rfl, rfl, trivial⟩
set_option maxHeartbeats 4000000 in
theorem t_RM_saidOnes_l4 {w : kx_W} {d : Nat} {Q : Option Value → kx_M → Prop} {G : Nat → List (Option Value) → List Value → kx_M → Prop} (F : Sd w (d + 4) m_RM_saidOnes Q G) {res : Int32 × kx_M} (hQ : Q (some (.int res.1)) res.2) :
    ∀ (n : Nat) (x1 : Int32) (x2 : Int32) (M : kx_M),
    f_RM_saidOnes_l4 n x1 x2 M = some res → G 4 [some (.ref 135), some (.int x1), some (.int x2)] [] M := by
  intro n
  induction n with
  | zero =>
    intro x1 x2 M h
    exact absurd h (by rw [f_RM_saidOnes_l4]; exact fun z => nomatch z)
  | succ n ih =>
    intro x1 x2 M h
    rw [f_RM_saidOnes_l4] at h
    refine x_iload_n F.1 (i := 4) rfl rfl ?_
    refine x_aload_n F.1 (i := 5) rfl rfl ?_
    refine x_getC F.1 (i := 6) rfl fl_RM_35 rfl (by rfl) ?_
    refine x_iconst F.1 (i := 7) rfl ic_3 ?_
    refine gd_e h (fun g1 h => ?_)
    refine x_iald F.1 (i := 8) rfl rfl (inb_e g1) ?_
    refine x_icmp_ge F.1 (i := 9) (tgt := 38) rfl (by decide) (fun c => ?_) (fun c => ?_)
    · replace h := if_T c h
      refine x_iload_n F.1 (i := 24) rfl rfl ?_
      exact x_iretf F (i := 25) rfl rfl h hQ
    · replace h := if_F c h
      refine x_iload_n F.1 (i := 10) rfl rfl ?_
      refine x_aload_n F.1 (i := 11) rfl rfl ?_
      refine x_iload_n F.1 (i := 12) rfl rfl ?_
      refine cal_e h (fun r2 M1 e3 h => ?_)
      refine x_cV1i F.1 (i := 13) rfl ml_RM_316 ok_RM_times rfl (Nat.le_of_ble_eq_true rfl) (Nat.le_of_ble_eq_true rfl) (fun _ => t_RM_times e3) ?_
      refine x_if_le F.1 (i := 14) (tgt := 29) rfl (by decide) (fun c => ?_) (fun c => ?_)
      · replace h := if_T c h
        refine x_iconst F.1 (i := 19) rfl ic_0 ?_
        refine x_ior F.1 (i := 20) rfl ?_
        refine x_istore_n F.1 (i := 21) rfl (Nat.le_of_ble_eq_true rfl) (Nat.le_of_ble_eq_true rfl) rfl ?_
        replace h := bd_e h
        refine x_iinc F.1 (i := 22) rfl rfl rfl (Nat.le_of_ble_eq_true rfl) rfl ?_
        replace h := bd_e h
        refine x_goto F.1 (i := 23) (tgt := 4) rfl (by decide) ?_
        exact x_wk F.1 (ih _ _ _ h) ⟨rfl, rfl, rfl, trivial⟩
      · replace h := if_F c h
        refine x_iconst F.1 (i := 15) rfl ic_1 ?_
        refine x_iload_n F.1 (i := 16) rfl rfl ?_
        refine x_ishl F.1 (i := 17) rfl ?_
        refine x_goto F.1 (i := 18) (tgt := 30) rfl (by decide) ?_
        refine x_ior F.1 (i := 20) rfl ?_
        refine x_istore_n F.1 (i := 21) rfl (Nat.le_of_ble_eq_true rfl) (Nat.le_of_ble_eq_true rfl) rfl ?_
        replace h := bd_e h
        refine x_iinc F.1 (i := 22) rfl rfl rfl (Nat.le_of_ble_eq_true rfl) rfl ?_
        replace h := bd_e h
        refine x_goto F.1 (i := 23) (tgt := 4) rfl (by decide) ?_
        exact x_wk F.1 (ih _ _ _ h) ⟨rfl, rfl, rfl, trivial⟩
set_option maxHeartbeats 4000000 in
theorem t_RM_saidOnes {w : kx_W} {d : Nat} {M : kx_M} {Q : Option Value → kx_M → Prop} {r : Int32} {M' : kx_M} (h : f_RM_saidOnes M = some (r, M')) (hQ : Q (some (.int r)) M') : Ct w (d + 4) m_RM_saidOnes [.ref 135] M Q := by
  refine mk_ct ok_RM_saidOnes (Nat.le_of_ble_eq_true rfl) (fun G F => ?_)
  rw [f_RM_saidOnes] at h
  show G 0 [some (.ref 135), none, none] [] M
  refine x_iconst F.1 (i := 0) rfl ic_0 ?_
  refine x_istore_n F.1 (i := 1) rfl (Nat.le_of_ble_eq_true rfl) (Nat.le_of_ble_eq_true rfl) rfl ?_
  refine x_iconst F.1 (i := 2) rfl ic_0 ?_
  refine x_istore_n F.1 (i := 3) rfl (Nat.le_of_ble_eq_true rfl) (Nat.le_of_ble_eq_true rfl) rfl ?_
  exact x_wk F.1 ((t_RM_saidOnes_l4 F (res := (r, M')) hQ FU) _ _ _ h) ⟨rfl, rfl, rfl, trivial⟩
set_option maxHeartbeats 4000000 in
theorem t_RM_many {w : kx_W} {d : Nat} {M : kx_M} {Q : Option Value → kx_M → Prop} {p1 : Int32} {r : Int32} {M' : kx_M} (h : f_RM_many p1 M = some (r, M')) (hQ : Q (some (.int r)) M') : Ct w (d + 5) m_RM_many [.ref 135, .int p1] M Q := by
  refine mk_ct ok_RM_many (Nat.le_of_ble_eq_true rfl) (fun G F => ?_)
  rw [f_RM_many] at h
  show G 0 [some (.ref 135), some (.int p1)] [] M
  refine x_aload_n F.1 (i := 0) rfl rfl ?_
  refine x_iconst F.1 (i := 1) rfl ic_0 ?_
  refine x_putI F.1 (i := 2) rfl fl_RM_68 pf_RM_thrown rfl (by rfl) ?_
  replace h := bd_e h
  refine x_aload_n F.1 (i := 3) rfl rfl ?_
  refine x_iconst F.1 (i := 4) rfl ic_0 ?_
  refine x_putI F.1 (i := 5) rfl fl_RM_71 pf_RM_status rfl (by rfl) ?_
  replace h := bd_e h
  refine x_iload_n F.1 (i := 6) rfl rfl ?_
  refine x_i2l F.1 (i := 7) rfl ?_
  refine x_lconst F.1 (i := 8) (v := 0) rfl rfl ?_
  refine x_ldc2_w F.1 (i := 9) rfl cl_RM_319 ?_
  refine cal_e h (fun r1 M3 e2 h => ?_)
  refine x_cS3i F.1 (i := 10) rfl ml_RM_103 ok_RM_isIn (Nat.le_of_ble_eq_true rfl) (Nat.le_of_ble_eq_true rfl) (fun _ => t_RM_isIn e2) ?_
  refine x_if_ne F.1 (i := 11) (tgt := 28) rfl (by decide) (fun c => ?_) (fun c => ?_)
  · replace h := if_F c h
    refine x_iload_n F.1 (i := 16) rfl rfl ?_
    refine x_bipush F.1 (i := 17) rfl bp_6 ?_
    refine x_icmp_ge F.1 (i := 18) (tgt := 43) rfl (by decide) (fun c => ?_) (fun c => ?_)
    · replace h := if_T c h
      refine x_iload_n F.1 (i := 24) rfl rfl ?_
      refine x_bipush F.1 (i := 25) rfl bp_9 ?_
      refine x_icmp_ge F.1 (i := 26) (tgt := 60) rfl (by decide) (fun c => ?_) (fun c => ?_)
      · replace h := if_T c h
        refine x_aload_n F.1 (i := 33) rfl rfl ?_
        refine cal_e h (fun r5 M5 e6 h => ?_)
        refine x_cV0i F.1 (i := 34) rfl ml_RM_327 ok_RM_saidOnes rfl (Nat.le_of_ble_eq_true rfl) (Nat.le_of_ble_eq_true rfl) (fun _ => t_RM_saidOnes e6) ?_
        exact x_iretf F (i := 35) rfl rfl h (res := (r, M')) hQ
      · replace h := if_F c h
        refine x_aload_n F.1 (i := 27) rfl rfl ?_
        refine x_iload_n F.1 (i := 28) rfl rfl ?_
        refine x_bipush F.1 (i := 29) rfl bp_6 ?_
        refine x_isub F.1 (i := 30) rfl ?_
        refine cal_e h (fun r7 M6 e8 h => ?_)
        refine x_cV1i F.1 (i := 31) rfl ml_RM_324 ok_RM_sumOf rfl (Nat.le_of_ble_eq_true rfl) (Nat.le_of_ble_eq_true rfl) (fun _ => t_RM_sumOf e8) ?_
        refine x_goto F.1 (i := 32) (tgt := 64) rfl (by decide) ?_
        exact x_iretf F (i := 35) rfl rfl h (res := (r, M')) hQ
    · replace h := if_F c h
      refine x_aload_n F.1 (i := 19) rfl rfl ?_
      refine x_getC F.1 (i := 20) rfl fl_RM_35 rfl (by rfl) ?_
      refine x_iload_n F.1 (i := 21) rfl rfl ?_
      refine gd_e h (fun g9 h => ?_)
      refine x_iald F.1 (i := 22) rfl rfl (inb_e g9) ?_
      refine x_goto F.1 (i := 23) (tgt := 64) rfl (by decide) ?_
      exact x_iretf F (i := 35) rfl rfl h (res := (r, M')) hQ
  · replace h := if_T c h
    refine x_aload_n F.1 (i := 12) rfl rfl ?_
    refine x_iconst F.1 (i := 13) rfl ic_5 ?_
    refine cal_e h (fun r3 M4 e4 h => ?_)
    refine x_cV1i F.1 (i := 14) rfl ml_RM_321 ok_RM_refuse rfl (Nat.le_of_ble_eq_true rfl) (Nat.le_of_ble_eq_true rfl) (fun _ => t_RM_refuse e4) ?_
    exact x_iretf F (i := 15) rfl rfl h (res := (r, M')) hQ
set_option maxHeartbeats 4000000 in
theorem t_RM_isRowAt {w : kx_W} {d : Nat} {M : kx_M} {Q : Option Value → kx_M → Prop} {p1 : Int32} {r : Int32} {M' : kx_M} (h : f_RM_isRowAt p1 M = some (r, M')) (hQ : Q (some (.int r)) M') : Ct w (d + 1) m_RM_isRowAt [.ref 135, .int p1] M Q := by
  refine mk_ct ok_RM_isRowAt (Nat.le_of_ble_eq_true rfl) (fun G F => ?_)
  rw [f_RM_isRowAt] at h
  show G 0 [some (.ref 135), some (.int p1)] [] M
  refine x_iload_n F.1 (i := 0) rfl rfl ?_
  refine x_i2l F.1 (i := 1) rfl ?_
  refine x_lconst F.1 (i := 2) (v := 0) rfl rfl ?_
  refine x_aload_n F.1 (i := 3) rfl rfl ?_
  refine x_getC F.1 (i := 4) rfl fl_RM_35 rfl (by rfl) ?_
  refine x_iconst F.1 (i := 5) rfl ic_4 ?_
  refine gd_e h (fun g1 h => ?_)
  refine x_iald F.1 (i := 6) rfl rfl (inb_e g1) ?_
  refine x_iconst F.1 (i := 7) rfl ic_1 ?_
  refine x_isub F.1 (i := 8) rfl ?_
  refine x_i2l F.1 (i := 9) rfl ?_
  refine cal_e h (fun r2 M1 e3 h => ?_)
  refine x_cS3i F.1 (i := 10) rfl ml_RM_103 ok_RM_isIn (Nat.le_of_ble_eq_true rfl) (Nat.le_of_ble_eq_true rfl) (fun _ => t_RM_isIn e3) ?_
  refine gd_e h (fun g4 h => ?_)
  exact x_zretf F (i := 11) rfl rfl (b01_e g4) h (res := (r, M')) hQ
set_option maxHeartbeats 4000000 in
theorem t_RM_isColumn {w : kx_W} {d : Nat} {M : kx_M} {Q : Option Value → kx_M → Prop} {p1 : Int32} {r : Int32} {M' : kx_M} (h : f_RM_isColumn p1 M = some (r, M')) (hQ : Q (some (.int r)) M') : Ct w (d + 1) m_RM_isColumn [.ref 135, .int p1] M Q := by
  refine mk_ct ok_RM_isColumn (Nat.le_of_ble_eq_true rfl) (fun G F => ?_)
  rw [f_RM_isColumn] at h
  show G 0 [some (.ref 135), some (.int p1)] [] M
  refine x_iload_n F.1 (i := 0) rfl rfl ?_
  refine x_i2l F.1 (i := 1) rfl ?_
  refine x_lconst F.1 (i := 2) (v := 0) rfl rfl ?_
  refine x_aload_n F.1 (i := 3) rfl rfl ?_
  refine x_getC F.1 (i := 4) rfl fl_RM_35 rfl (by rfl) ?_
  refine x_iconst F.1 (i := 5) rfl ic_0 ?_
  refine gd_e h (fun g1 h => ?_)
  refine x_iald F.1 (i := 6) rfl rfl (inb_e g1) ?_
  refine x_iconst F.1 (i := 7) rfl ic_1 ?_
  refine x_isub F.1 (i := 8) rfl ?_
  refine x_i2l F.1 (i := 9) rfl ?_
  refine cal_e h (fun r2 M1 e3 h => ?_)
  refine x_cS3i F.1 (i := 10) rfl ml_RM_103 ok_RM_isIn (Nat.le_of_ble_eq_true rfl) (Nat.le_of_ble_eq_true rfl) (fun _ => t_RM_isIn e3) ?_
  refine gd_e h (fun g4 h => ?_)
  exact x_zretf F (i := 11) rfl rfl (b01_e g4) h (res := (r, M')) hQ
set_option maxHeartbeats 4000000 in
theorem t_RM_stitch {w : kx_W} {d : Nat} {M : kx_M} {Q : Option Value → kx_M → Prop} {p1 : Int32} {p2 : Int32} {p3 : Int32} {r : Int32} {M' : kx_M} (h : f_RM_stitch p1 p2 p3 M = some (r, M')) (hQ : Q (some (.int r)) M') : Ct w (d + 2) m_RM_stitch [.ref 135, .int p1, .int p2, .int p3] M Q := by
  refine mk_ct ok_RM_stitch (Nat.le_of_ble_eq_true rfl) (fun G F => ?_)
  rw [f_RM_stitch] at h
  show G 0 [some (.ref 135), some (.int p1), some (.int p2), some (.int p3)] [] M
  refine x_aload_n F.1 (i := 0) rfl rfl ?_
  refine x_iconst F.1 (i := 1) rfl ic_0 ?_
  refine x_putI F.1 (i := 2) rfl fl_RM_68 pf_RM_thrown rfl (by rfl) ?_
  replace h := bd_e h
  refine x_aload_n F.1 (i := 3) rfl rfl ?_
  refine x_iconst F.1 (i := 4) rfl ic_0 ?_
  refine x_putI F.1 (i := 5) rfl fl_RM_71 pf_RM_status rfl (by rfl) ?_
  replace h := bd_e h
  refine x_aload_n F.1 (i := 6) rfl rfl ?_
  refine x_iload_n F.1 (i := 7) rfl rfl ?_
  refine cal_e h (fun r1 M3 e2 h => ?_)
  refine x_cV1i F.1 (i := 8) rfl ml_RM_330 ok_RM_isRowAt rfl (Nat.le_of_ble_eq_true rfl) (Nat.le_of_ble_eq_true rfl) (fun _ => t_RM_isRowAt e2) ?_
  refine x_if_eq F.1 (i := 9) (tgt := 26) rfl (by decide) (fun c => ?_) (fun c => ?_)
  · replace h := if_T c h
    refine x_aload_n F.1 (i := 14) rfl rfl ?_
    refine x_iconst F.1 (i := 15) rfl ic_2 ?_
    refine cal_e h (fun r3 M4 e4 h => ?_)
    refine x_cV1i F.1 (i := 16) rfl ml_RM_321 ok_RM_refuse rfl (Nat.le_of_ble_eq_true rfl) (Nat.le_of_ble_eq_true rfl) (fun _ => t_RM_refuse e4) ?_
    exact x_iretf F (i := 17) rfl rfl h (res := (r, M')) hQ
  · replace h := if_F c h
    refine x_aload_n F.1 (i := 10) rfl rfl ?_
    refine x_iload_n F.1 (i := 11) rfl rfl ?_
    refine cal_e h (fun r5 M5 e6 h => ?_)
    refine x_cV1i F.1 (i := 12) rfl ml_RM_333 ok_RM_isColumn rfl (Nat.le_of_ble_eq_true rfl) (Nat.le_of_ble_eq_true rfl) (fun _ => t_RM_isColumn e6) ?_
    refine x_if_ne F.1 (i := 13) (tgt := 32) rfl (by decide) (fun c => ?_) (fun c => ?_)
    · replace h := if_F c h
      refine x_iload_n F.1 (i := 18) rfl rfl ?_
      refine x_i2l F.1 (i := 19) rfl ?_
      refine x_lconst F.1 (i := 20) (v := 0) rfl rfl ?_
      refine x_ldc2_w F.1 (i := 21) rfl cl_RM_101 ?_
      refine cal_e h (fun r9 M7 e10 h => ?_)
      refine x_cS3i F.1 (i := 22) rfl ml_RM_103 ok_RM_isIn (Nat.le_of_ble_eq_true rfl) (Nat.le_of_ble_eq_true rfl) (fun _ => t_RM_isIn e10) ?_
      refine x_if_eq F.1 (i := 23) (tgt := 65) rfl (by decide) (fun c => ?_) (fun c => ?_)
      · replace h := if_T c h
        refine x_aload_n F.1 (i := 37) rfl rfl ?_
        refine x_iconst F.1 (i := 38) rfl ic_5 ?_
        refine cal_e h (fun r11 M8 e12 h => ?_)
        refine x_cV1i F.1 (i := 39) rfl ml_RM_321 ok_RM_refuse rfl (Nat.le_of_ble_eq_true rfl) (Nat.le_of_ble_eq_true rfl) (fun _ => t_RM_refuse e12) ?_
        exact x_iretf F (i := 40) rfl rfl h (res := (r, M')) hQ
      · replace h := if_F c h
        refine x_aload_n F.1 (i := 24) rfl rfl ?_
        refine x_getC F.1 (i := 25) rfl fl_RM_35 rfl (by rfl) ?_
        refine x_bipush F.1 (i := 26) rfl bp_112 ?_
        refine x_bipush F.1 (i := 27) rfl bp_96 ?_
        refine x_iload_n F.1 (i := 28) rfl rfl ?_
        refine x_imul F.1 (i := 29) rfl ?_
        refine x_iadd F.1 (i := 30) rfl ?_
        refine x_iload_n F.1 (i := 31) rfl rfl ?_
        refine x_iload_n F.1 (i := 32) rfl rfl ?_
        refine cal_e h (fun r13 M9 e14 h => ?_)
        refine x_cS2i F.1 (i := 33) rfl ml_RM_303 ok_RM_place (Nat.le_of_ble_eq_true rfl) (Nat.le_of_ble_eq_true rfl) (fun _ => t_RM_place e14) ?_
        refine x_iadd F.1 (i := 34) rfl ?_
        refine gd_e h (fun g15 h => ?_)
        refine x_iald F.1 (i := 35) rfl rfl (inb_e g15) ?_
        refine x_goto F.1 (i := 36) (tgt := 70) rfl (by decide) ?_
        exact x_iretf F (i := 40) rfl rfl h (res := (r, M')) hQ
    · replace h := if_T c h
      refine x_aload_n F.1 (i := 14) rfl rfl ?_
      refine x_iconst F.1 (i := 15) rfl ic_2 ?_
      refine cal_e h (fun r7 M6 e8 h => ?_)
      refine x_cV1i F.1 (i := 16) rfl ml_RM_321 ok_RM_refuse rfl (Nat.le_of_ble_eq_true rfl) (Nat.le_of_ble_eq_true rfl) (fun _ => t_RM_refuse e8) ?_
      exact x_iretf F (i := 17) rfl rfl h (res := (r, M')) hQ
set_option maxHeartbeats 4000000 in
theorem t_RM_queenOf {w : kx_W} {d : Nat} {M : kx_M} {Q : Option Value → kx_M → Prop} {p1 : Int32} {r : Int32} {M' : kx_M} (h : f_RM_queenOf p1 M = some (r, M')) (hQ : Q (some (.int r)) M') : Ct w (d + 2) m_RM_queenOf [.ref 135, .int p1] M Q := by
  refine mk_ct ok_RM_queenOf (Nat.le_of_ble_eq_true rfl) (fun G F => ?_)
  rw [f_RM_queenOf] at h
  show G 0 [some (.ref 135), some (.int p1)] [] M
  refine x_aload_n F.1 (i := 0) rfl rfl ?_
  refine x_iconst F.1 (i := 1) rfl ic_0 ?_
  refine x_putI F.1 (i := 2) rfl fl_RM_68 pf_RM_thrown rfl (by rfl) ?_
  replace h := bd_e h
  refine x_aload_n F.1 (i := 3) rfl rfl ?_
  refine x_iconst F.1 (i := 4) rfl ic_0 ?_
  refine x_putI F.1 (i := 5) rfl fl_RM_71 pf_RM_status rfl (by rfl) ?_
  replace h := bd_e h
  refine x_aload_n F.1 (i := 6) rfl rfl ?_
  refine x_iload_n F.1 (i := 7) rfl rfl ?_
  refine cal_e h (fun r1 M3 e2 h => ?_)
  refine x_cV1i F.1 (i := 8) rfl ml_RM_330 ok_RM_isRowAt rfl (Nat.le_of_ble_eq_true rfl) (Nat.le_of_ble_eq_true rfl) (fun _ => t_RM_isRowAt e2) ?_
  refine x_if_eq F.1 (i := 9) (tgt := 30) rfl (by decide) (fun c => ?_) (fun c => ?_)
  · replace h := if_T c h
    refine x_aload_n F.1 (i := 17) rfl rfl ?_
    refine x_iconst F.1 (i := 18) rfl ic_2 ?_
    refine cal_e h (fun r3 M4 e4 h => ?_)
    refine x_cV1i F.1 (i := 19) rfl ml_RM_321 ok_RM_refuse rfl (Nat.le_of_ble_eq_true rfl) (Nat.le_of_ble_eq_true rfl) (fun _ => t_RM_refuse e4) ?_
    exact x_iretf F (i := 20) rfl rfl h (res := (r, M')) hQ
  · replace h := if_F c h
    refine x_aload_n F.1 (i := 10) rfl rfl ?_
    refine x_getC F.1 (i := 11) rfl fl_RM_35 rfl (by rfl) ?_
    refine x_bipush F.1 (i := 12) rfl bp_100 ?_
    refine x_iload_n F.1 (i := 13) rfl rfl ?_
    refine x_iadd F.1 (i := 14) rfl ?_
    refine gd_e h (fun g5 h => ?_)
    refine x_iald F.1 (i := 15) rfl rfl (inb_e g5) ?_
    refine x_goto F.1 (i := 16) (tgt := 35) rfl (by decide) ?_
    exact x_iretf F (i := 20) rfl rfl h (res := (r, M')) hQ
set_option maxHeartbeats 4000000 in
theorem t_RM_isQueenAt {w : kx_W} {d : Nat} {M : kx_M} {Q : Option Value → kx_M → Prop} {p1 : Int32} {r : Int32} {M' : kx_M} (h : f_RM_isQueenAt p1 M = some (r, M')) (hQ : Q (some (.int r)) M') : Ct w (d + 1) m_RM_isQueenAt [.ref 135, .int p1] M Q := by
  refine mk_ct ok_RM_isQueenAt (Nat.le_of_ble_eq_true rfl) (fun G F => ?_)
  rw [f_RM_isQueenAt] at h
  show G 0 [some (.ref 135), some (.int p1)] [] M
  refine x_iload_n F.1 (i := 0) rfl rfl ?_
  refine x_i2l F.1 (i := 1) rfl ?_
  refine x_lconst F.1 (i := 2) (v := 0) rfl rfl ?_
  refine x_aload_n F.1 (i := 3) rfl rfl ?_
  refine x_getC F.1 (i := 4) rfl fl_RM_35 rfl (by rfl) ?_
  refine x_iconst F.1 (i := 5) rfl ic_2 ?_
  refine gd_e h (fun g1 h => ?_)
  refine x_iald F.1 (i := 6) rfl rfl (inb_e g1) ?_
  refine x_iconst F.1 (i := 7) rfl ic_1 ?_
  refine x_isub F.1 (i := 8) rfl ?_
  refine x_i2l F.1 (i := 9) rfl ?_
  refine cal_e h (fun r2 M1 e3 h => ?_)
  refine x_cS3i F.1 (i := 10) rfl ml_RM_103 ok_RM_isIn (Nat.le_of_ble_eq_true rfl) (Nat.le_of_ble_eq_true rfl) (fun _ => t_RM_isIn e3) ?_
  refine gd_e h (fun g4 h => ?_)
  exact x_zretf F (i := 11) rfl rfl (b01_e g4) h (res := (r, M')) hQ
set_option maxHeartbeats 4000000 in
theorem t_RM_wool {w : kx_W} {d : Nat} {M : kx_M} {Q : Option Value → kx_M → Prop} {p1 : Int32} {r : Int32} {M' : kx_M} (h : f_RM_wool p1 M = some (r, M')) (hQ : Q (some (.int r)) M') : Ct w (d + 2) m_RM_wool [.ref 135, .int p1] M Q := by
  refine mk_ct ok_RM_wool (Nat.le_of_ble_eq_true rfl) (fun G F => ?_)
  rw [f_RM_wool] at h
  show G 0 [some (.ref 135), some (.int p1)] [] M
  refine x_aload_n F.1 (i := 0) rfl rfl ?_
  refine x_iconst F.1 (i := 1) rfl ic_0 ?_
  refine x_putI F.1 (i := 2) rfl fl_RM_68 pf_RM_thrown rfl (by rfl) ?_
  replace h := bd_e h
  refine x_aload_n F.1 (i := 3) rfl rfl ?_
  refine x_iconst F.1 (i := 4) rfl ic_0 ?_
  refine x_putI F.1 (i := 5) rfl fl_RM_71 pf_RM_status rfl (by rfl) ?_
  replace h := bd_e h
  refine x_aload_n F.1 (i := 6) rfl rfl ?_
  refine x_iload_n F.1 (i := 7) rfl rfl ?_
  refine cal_e h (fun r1 M3 e2 h => ?_)
  refine x_cV1i F.1 (i := 8) rfl ml_RM_336 ok_RM_isQueenAt rfl (Nat.le_of_ble_eq_true rfl) (Nat.le_of_ble_eq_true rfl) (fun _ => t_RM_isQueenAt e2) ?_
  refine x_if_eq F.1 (i := 9) (tgt := 30) rfl (by decide) (fun c => ?_) (fun c => ?_)
  · replace h := if_T c h
    refine x_aload_n F.1 (i := 17) rfl rfl ?_
    refine x_iconst F.1 (i := 18) rfl ic_2 ?_
    refine cal_e h (fun r3 M4 e4 h => ?_)
    refine x_cV1i F.1 (i := 19) rfl ml_RM_321 ok_RM_refuse rfl (Nat.le_of_ble_eq_true rfl) (Nat.le_of_ble_eq_true rfl) (fun _ => t_RM_refuse e4) ?_
    exact x_iretf F (i := 20) rfl rfl h (res := (r, M')) hQ
  · replace h := if_F c h
    refine x_aload_n F.1 (i := 10) rfl rfl ?_
    refine x_getC F.1 (i := 11) rfl fl_RM_35 rfl (by rfl) ?_
    refine x_bipush F.1 (i := 12) rfl bp_6 ?_
    refine x_iload_n F.1 (i := 13) rfl rfl ?_
    refine x_iadd F.1 (i := 14) rfl ?_
    refine gd_e h (fun g5 h => ?_)
    refine x_iald F.1 (i := 15) rfl rfl (inb_e g5) ?_
    refine x_goto F.1 (i := 16) (tgt := 35) rfl (by decide) ?_
    exact x_iretf F (i := 20) rfl rfl h (res := (r, M')) hQ
set_option maxHeartbeats 4000000 in
theorem t_RM_isClauseAt {w : kx_W} {d : Nat} {M : kx_M} {Q : Option Value → kx_M → Prop} {p1 : Int32} {r : Int32} {M' : kx_M} (h : f_RM_isClauseAt p1 M = some (r, M')) (hQ : Q (some (.int r)) M') : Ct w (d + 1) m_RM_isClauseAt [.ref 135, .int p1] M Q := by
  refine mk_ct ok_RM_isClauseAt (Nat.le_of_ble_eq_true rfl) (fun G F => ?_)
  rw [f_RM_isClauseAt] at h
  show G 0 [some (.ref 135), some (.int p1)] [] M
  refine x_iload_n F.1 (i := 0) rfl rfl ?_
  refine x_i2l F.1 (i := 1) rfl ?_
  refine x_lconst F.1 (i := 2) (v := 0) rfl rfl ?_
  refine x_aload_n F.1 (i := 3) rfl rfl ?_
  refine x_getC F.1 (i := 4) rfl fl_RM_35 rfl (by rfl) ?_
  refine x_iconst F.1 (i := 5) rfl ic_3 ?_
  refine gd_e h (fun g1 h => ?_)
  refine x_iald F.1 (i := 6) rfl rfl (inb_e g1) ?_
  refine x_iconst F.1 (i := 7) rfl ic_1 ?_
  refine x_isub F.1 (i := 8) rfl ?_
  refine x_i2l F.1 (i := 9) rfl ?_
  refine cal_e h (fun r2 M1 e3 h => ?_)
  refine x_cS3i F.1 (i := 10) rfl ml_RM_103 ok_RM_isIn (Nat.le_of_ble_eq_true rfl) (Nat.le_of_ble_eq_true rfl) (fun _ => t_RM_isIn e3) ?_
  refine gd_e h (fun g4 h => ?_)
  exact x_zretf F (i := 11) rfl rfl (b01_e g4) h (res := (r, M')) hQ
set_option maxHeartbeats 4000000 in
theorem t_RM_length {w : kx_W} {d : Nat} {M : kx_M} {Q : Option Value → kx_M → Prop} {p1 : Int32} {r : Int32} {M' : kx_M} (h : f_RM_length p1 M = some (r, M')) (hQ : Q (some (.int r)) M') : Ct w (d + 2) m_RM_length [.ref 135, .int p1] M Q := by
  refine mk_ct ok_RM_length (Nat.le_of_ble_eq_true rfl) (fun G F => ?_)
  rw [f_RM_length] at h
  show G 0 [some (.ref 135), some (.int p1)] [] M
  refine x_aload_n F.1 (i := 0) rfl rfl ?_
  refine x_iconst F.1 (i := 1) rfl ic_0 ?_
  refine x_putI F.1 (i := 2) rfl fl_RM_68 pf_RM_thrown rfl (by rfl) ?_
  replace h := bd_e h
  refine x_aload_n F.1 (i := 3) rfl rfl ?_
  refine x_iconst F.1 (i := 4) rfl ic_0 ?_
  refine x_putI F.1 (i := 5) rfl fl_RM_71 pf_RM_status rfl (by rfl) ?_
  replace h := bd_e h
  refine x_aload_n F.1 (i := 6) rfl rfl ?_
  refine x_iload_n F.1 (i := 7) rfl rfl ?_
  refine cal_e h (fun r1 M3 e2 h => ?_)
  refine x_cV1i F.1 (i := 8) rfl ml_RM_339 ok_RM_isClauseAt rfl (Nat.le_of_ble_eq_true rfl) (Nat.le_of_ble_eq_true rfl) (fun _ => t_RM_isClauseAt e2) ?_
  refine x_if_eq F.1 (i := 9) (tgt := 30) rfl (by decide) (fun c => ?_) (fun c => ?_)
  · replace h := if_T c h
    refine x_aload_n F.1 (i := 17) rfl rfl ?_
    refine x_iconst F.1 (i := 18) rfl ic_2 ?_
    refine cal_e h (fun r3 M4 e4 h => ?_)
    refine x_cV1i F.1 (i := 19) rfl ml_RM_321 ok_RM_refuse rfl (Nat.le_of_ble_eq_true rfl) (Nat.le_of_ble_eq_true rfl) (fun _ => t_RM_refuse e4) ?_
    exact x_iretf F (i := 20) rfl rfl h (res := (r, M')) hQ
  · replace h := if_F c h
    refine x_aload_n F.1 (i := 10) rfl rfl ?_
    refine x_getC F.1 (i := 11) rfl fl_RM_35 rfl (by rfl) ?_
    refine x_bipush F.1 (i := 12) rfl bp_10 ?_
    refine x_iload_n F.1 (i := 13) rfl rfl ?_
    refine x_iadd F.1 (i := 14) rfl ?_
    refine gd_e h (fun g5 h => ?_)
    refine x_iald F.1 (i := 15) rfl rfl (inb_e g5) ?_
    refine x_goto F.1 (i := 16) (tgt := 35) rfl (by decide) ?_
    exact x_iretf F (i := 20) rfl rfl h (res := (r, M')) hQ
set_option maxHeartbeats 4000000 in
theorem t_RM_kind {w : kx_W} {d : Nat} {M : kx_M} {Q : Option Value → kx_M → Prop} {p1 : Int32} {p2 : Int32} {r : Int32} {M' : kx_M} (h : f_RM_kind p1 p2 M = some (r, M')) (hQ : Q (some (.int r)) M') : Ct w (d + 2) m_RM_kind [.ref 135, .int p1, .int p2] M Q := by
  refine mk_ct ok_RM_kind (Nat.le_of_ble_eq_true rfl) (fun G F => ?_)
  rw [f_RM_kind] at h
  show G 0 [some (.ref 135), some (.int p1), some (.int p2)] [] M
  refine x_aload_n F.1 (i := 0) rfl rfl ?_
  refine x_iconst F.1 (i := 1) rfl ic_0 ?_
  refine x_putI F.1 (i := 2) rfl fl_RM_68 pf_RM_thrown rfl (by rfl) ?_
  replace h := bd_e h
  refine x_aload_n F.1 (i := 3) rfl rfl ?_
  refine x_iconst F.1 (i := 4) rfl ic_0 ?_
  refine x_putI F.1 (i := 5) rfl fl_RM_71 pf_RM_status rfl (by rfl) ?_
  replace h := bd_e h
  refine x_aload_n F.1 (i := 6) rfl rfl ?_
  refine x_iload_n F.1 (i := 7) rfl rfl ?_
  refine cal_e h (fun r1 M3 e2 h => ?_)
  refine x_cV1i F.1 (i := 8) rfl ml_RM_339 ok_RM_isClauseAt rfl (Nat.le_of_ble_eq_true rfl) (Nat.le_of_ble_eq_true rfl) (fun _ => t_RM_isClauseAt e2) ?_
  refine x_if_ne F.1 (i := 9) (tgt := 24) rfl (by decide) (fun c => ?_) (fun c => ?_)
  · replace h := if_F c h
    refine x_iload_n F.1 (i := 14) rfl rfl ?_
    refine x_i2l F.1 (i := 15) rfl ?_
    refine x_lconst F.1 (i := 16) (v := 0) rfl rfl ?_
    refine x_aload_n F.1 (i := 17) rfl rfl ?_
    refine x_getC F.1 (i := 18) rfl fl_RM_35 rfl (by rfl) ?_
    refine x_bipush F.1 (i := 19) rfl bp_10 ?_
    refine x_iload_n F.1 (i := 20) rfl rfl ?_
    refine x_iadd F.1 (i := 21) rfl ?_
    refine gd_e h (fun g5 h => ?_)
    refine x_iald F.1 (i := 22) rfl rfl (inb_e g5) ?_
    refine x_iconst F.1 (i := 23) rfl ic_1 ?_
    refine x_isub F.1 (i := 24) rfl ?_
    refine x_i2l F.1 (i := 25) rfl ?_
    refine cal_e h (fun r6 M5 e7 h => ?_)
    refine x_cS3i F.1 (i := 26) rfl ml_RM_103 ok_RM_isIn (Nat.le_of_ble_eq_true rfl) (Nat.le_of_ble_eq_true rfl) (fun _ => t_RM_isIn e7) ?_
    refine x_if_eq F.1 (i := 27) (tgt := 61) rfl (by decide) (fun c => ?_) (fun c => ?_)
    · replace h := if_T c h
      refine x_aload_n F.1 (i := 39) rfl rfl ?_
      refine x_bipush F.1 (i := 40) rfl bp_8 ?_
      refine cal_e h (fun r8 M6 e9 h => ?_)
      refine x_cV1i F.1 (i := 41) rfl ml_RM_321 ok_RM_refuse rfl (Nat.le_of_ble_eq_true rfl) (Nat.le_of_ble_eq_true rfl) (fun _ => t_RM_refuse e9) ?_
      exact x_iretf F (i := 42) rfl rfl h (res := (r, M')) hQ
    · replace h := if_F c h
      refine x_aload_n F.1 (i := 28) rfl rfl ?_
      refine x_getC F.1 (i := 29) rfl fl_RM_35 rfl (by rfl) ?_
      refine x_bipush F.1 (i := 30) rfl bp_16 ?_
      refine x_iconst F.1 (i := 31) rfl ic_5 ?_
      refine x_iload_n F.1 (i := 32) rfl rfl ?_
      refine x_imul F.1 (i := 33) rfl ?_
      refine x_iadd F.1 (i := 34) rfl ?_
      refine x_iload_n F.1 (i := 35) rfl rfl ?_
      refine x_iadd F.1 (i := 36) rfl ?_
      refine gd_e h (fun g10 h => ?_)
      refine x_iald F.1 (i := 37) rfl rfl (inb_e g10) ?_
      refine x_goto F.1 (i := 38) (tgt := 67) rfl (by decide) ?_
      exact x_iretf F (i := 42) rfl rfl h (res := (r, M')) hQ
  · replace h := if_T c h
    refine x_aload_n F.1 (i := 10) rfl rfl ?_
    refine x_iconst F.1 (i := 11) rfl ic_2 ?_
    refine cal_e h (fun r3 M4 e4 h => ?_)
    refine x_cV1i F.1 (i := 12) rfl ml_RM_321 ok_RM_refuse rfl (Nat.le_of_ble_eq_true rfl) (Nat.le_of_ble_eq_true rfl) (fun _ => t_RM_refuse e4) ?_
    exact x_iretf F (i := 13) rfl rfl h (res := (r, M')) hQ
set_option maxHeartbeats 4000000 in
theorem t_RM_clash {w : kx_W} {d : Nat} {M : kx_M} {Q : Option Value → kx_M → Prop} {p1 : Int32} {p2 : Int32} {r : Int32} {M' : kx_M} (h : f_RM_clash p1 p2 M = some (r, M')) (hQ : Q (some (.int r)) M') : Ct w (d + 2) m_RM_clash [.ref 135, .int p1, .int p2] M Q := by
  refine mk_ct ok_RM_clash (Nat.le_of_ble_eq_true rfl) (fun G F => ?_)
  rw [f_RM_clash] at h
  show G 0 [some (.ref 135), some (.int p1), some (.int p2)] [] M
  refine x_aload_n F.1 (i := 0) rfl rfl ?_
  refine x_iconst F.1 (i := 1) rfl ic_0 ?_
  refine x_putI F.1 (i := 2) rfl fl_RM_68 pf_RM_thrown rfl (by rfl) ?_
  replace h := bd_e h
  refine x_aload_n F.1 (i := 3) rfl rfl ?_
  refine x_iconst F.1 (i := 4) rfl ic_0 ?_
  refine x_putI F.1 (i := 5) rfl fl_RM_71 pf_RM_status rfl (by rfl) ?_
  replace h := bd_e h
  refine x_aload_n F.1 (i := 6) rfl rfl ?_
  refine x_iload_n F.1 (i := 7) rfl rfl ?_
  refine cal_e h (fun r1 M3 e2 h => ?_)
  refine x_cV1i F.1 (i := 8) rfl ml_RM_339 ok_RM_isClauseAt rfl (Nat.le_of_ble_eq_true rfl) (Nat.le_of_ble_eq_true rfl) (fun _ => t_RM_isClauseAt e2) ?_
  refine x_if_eq F.1 (i := 9) (tgt := 26) rfl (by decide) (fun c => ?_) (fun c => ?_)
  · replace h := if_T c h
    refine x_aload_n F.1 (i := 14) rfl rfl ?_
    refine x_iconst F.1 (i := 15) rfl ic_2 ?_
    refine cal_e h (fun r3 M4 e4 h => ?_)
    refine x_cV1i F.1 (i := 16) rfl ml_RM_321 ok_RM_refuse rfl (Nat.le_of_ble_eq_true rfl) (Nat.le_of_ble_eq_true rfl) (fun _ => t_RM_refuse e4) ?_
    exact x_iretf F (i := 17) rfl rfl h (res := (r, M')) hQ
  · replace h := if_F c h
    refine x_aload_n F.1 (i := 10) rfl rfl ?_
    refine x_iload_n F.1 (i := 11) rfl rfl ?_
    refine cal_e h (fun r5 M5 e6 h => ?_)
    refine x_cV1i F.1 (i := 12) rfl ml_RM_339 ok_RM_isClauseAt rfl (Nat.le_of_ble_eq_true rfl) (Nat.le_of_ble_eq_true rfl) (fun _ => t_RM_isClauseAt e6) ?_
    refine x_if_ne F.1 (i := 13) (tgt := 32) rfl (by decide) (fun c => ?_) (fun c => ?_)
    · replace h := if_F c h
      refine x_iload_n F.1 (i := 18) rfl rfl ?_
      refine x_iload_n F.1 (i := 19) rfl rfl ?_
      refine x_icmp_ne F.1 (i := 20) (tgt := 44) rfl (by decide) (fun c => ?_) (fun c => ?_)
      · replace h := if_F c h
        refine x_aload_n F.1 (i := 25) rfl rfl ?_
        refine x_getC F.1 (i := 26) rfl fl_RM_35 rfl (by rfl) ?_
        refine x_bipush F.1 (i := 27) rfl bp_46 ?_
        refine x_iload_n F.1 (i := 28) rfl rfl ?_
        refine x_iadd F.1 (i := 29) rfl ?_
        refine gd_e h (fun g11 h => ?_)
        refine x_iald F.1 (i := 30) rfl rfl (inb_e g11) ?_
        refine x_iload_n F.1 (i := 31) rfl rfl ?_
        refine cal_e h (fun r12 M8 e13 h => ?_)
        refine x_cS2i F.1 (i := 32) rfl ml_RM_241 ok_RM_has (Nat.le_of_ble_eq_true rfl) (Nat.le_of_ble_eq_true rfl) (fun _ => t_RM_has e13) ?_
        refine x_if_eq F.1 (i := 33) (tgt := 64) rfl (by decide) (fun c => ?_) (fun c => ?_)
        · replace h := if_T c h
          refine x_iconst F.1 (i := 36) rfl ic_0 ?_
          exact x_iretf F (i := 37) rfl rfl h (res := (r, M')) hQ
        · replace h := if_F c h
          refine x_iconst F.1 (i := 34) rfl ic_1 ?_
          refine x_goto F.1 (i := 35) (tgt := 65) rfl (by decide) ?_
          exact x_iretf F (i := 37) rfl rfl h (res := (r, M')) hQ
      · replace h := if_T c h
        refine x_aload_n F.1 (i := 21) rfl rfl ?_
        refine x_bipush F.1 (i := 22) rfl bp_9 ?_
        refine cal_e h (fun r9 M7 e10 h => ?_)
        refine x_cV1i F.1 (i := 23) rfl ml_RM_321 ok_RM_refuse rfl (Nat.le_of_ble_eq_true rfl) (Nat.le_of_ble_eq_true rfl) (fun _ => t_RM_refuse e10) ?_
        exact x_iretf F (i := 24) rfl rfl h (res := (r, M')) hQ
    · replace h := if_T c h
      refine x_aload_n F.1 (i := 14) rfl rfl ?_
      refine x_iconst F.1 (i := 15) rfl ic_2 ?_
      refine cal_e h (fun r7 M6 e8 h => ?_)
      refine x_cV1i F.1 (i := 16) rfl ml_RM_321 ok_RM_refuse rfl (Nat.le_of_ble_eq_true rfl) (Nat.le_of_ble_eq_true rfl) (fun _ => t_RM_refuse e8) ?_
      exact x_iretf F (i := 17) rfl rfl h (res := (r, M')) hQ
