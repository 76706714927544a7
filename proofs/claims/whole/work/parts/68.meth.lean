set_option maxHeartbeats 4000000 in
theorem t_Life_behindStep {w : kx_W} {d : Nat} {M : kx_M} {Q : Option Value → kx_M → Prop} {p0 : Nat} {p1 : Nat} {p2 : Nat} {p3 : Nat} {p4 : Int32} {r : Int32} {M' : kx_M} (hp0 : isLife p0 = true) (hp1 : isScript p1 = true) (hp2 : isDeal p2 = true) (hp3 : isCloth p3 = true) (h : f_Life_behindStep p0 p1 p2 p3 p4 M = some (r, M')) (hQ : Q (some (.int r)) M') : Ct w (d + 4) m_Life_behindStep [.ref p0, .ref p1, .ref p2, .ref p3, .int p4] M Q := by
  refine mk_ct ok_Life_behindStep (Nat.le_of_ble_eq_true rfl) (fun G F => ?_)
  rw [f_Life_behindStep] at h
  show G 0 [some (.ref p0), some (.ref p1), some (.ref p2), some (.ref p3), some (.int p4), none, none, none] [] M
  refine x_aload_n F.1 (i := 0) rfl rfl ?_
  refine x_getC F.1 (i := 1) rfl fl_Life_43 (lk_Script hp1) (by rfl) ?_
  refine x_iload F.1 (i := 2) rfl rfl ?_
  refine gd_e h (fun g1 h => ?_)
  refine x_iald F.1 (i := 3) rfl (lk_Script_ops hp1) (inb_e g1) ?_
  refine x_istore F.1 (i := 4) rfl (Nat.le_of_ble_eq_true rfl) (Nat.le_of_ble_eq_true rfl) rfl ?_
  replace h := bd_e h
  refine x_aload_n F.1 (i := 5) rfl rfl ?_
  refine x_getC F.1 (i := 6) rfl fl_Life_52 (lk_Script hp1) (by rfl) ?_
  refine x_iload F.1 (i := 7) rfl rfl ?_
  refine gd_e h (fun g3 h => ?_)
  refine x_iald F.1 (i := 8) rfl (lk_Script_firsts hp1) (inb_e g3) ?_
  refine x_istore F.1 (i := 9) rfl (Nat.le_of_ble_eq_true rfl) (Nat.le_of_ble_eq_true rfl) rfl ?_
  replace h := bd_e h
  refine x_aload_n F.1 (i := 10) rfl rfl ?_
  refine x_getC F.1 (i := 11) rfl fl_Life_55 (lk_Script hp1) (by rfl) ?_
  refine x_iload F.1 (i := 12) rfl rfl ?_
  refine gd_e h (fun g5 h => ?_)
  refine x_iald F.1 (i := 13) rfl (lk_Script_seconds hp1) (inb_e g5) ?_
  refine x_istore F.1 (i := 14) rfl (Nat.le_of_ble_eq_true rfl) (Nat.le_of_ble_eq_true rfl) rfl ?_
  replace h := bd_e h
  refine x_iload F.1 (i := 15) rfl rfl ?_
  refine ite_e h (fun c20 h => ?_) (fun c20 h => ?_)
  · refine x_tabIn F.1 (i := 16) (tgt := 87) rfl (by rw [c20]; decide) (by rw [c20]; decide) (by rw [c20]; rfl) (by decide) ?_
    refine x_aload_n F.1 (i := 29) rfl rfl ?_
    refine x_aload_n F.1 (i := 30) rfl rfl ?_
    refine x_iload F.1 (i := 31) rfl rfl ?_
    refine cal_e h (fun r7 M1 e8 h => ?_)
    refine x_cV2i F.1 (i := 32) rfl ml_Life_69 ok_Cloth_saysAnywhere (lk_Cloth hp3) (Nat.le_of_ble_eq_true rfl) (Nat.le_of_ble_eq_true rfl) (fun _ => t_Cloth_saysAnywhere hp3 hp2 e8) ?_
    refine x_if_eq F.1 (i := 33) (tgt := 104) rfl (by decide) (fun c => ?_) (fun c => ?_)
    · replace h := if_T c h
      refine x_aload_n F.1 (i := 38) rfl rfl ?_
      refine x_getC F.1 (i := 39) rfl fl_Life_66 (lk_Script hp1) (by rfl) ?_
      refine x_iload F.1 (i := 40) rfl rfl ?_
      refine gd_e h (fun g9 h => ?_)
      refine x_iald F.1 (i := 41) rfl (lk_Script_mates hp1) (inb_e g9) ?_
      refine x_iconst F.1 (i := 42) rfl ic_1 ?_
      refine x_iadd F.1 (i := 43) rfl ?_
      exact x_iretf F (i := 44) rfl rfl h (res := (r, M')) hQ
    · replace h := if_F c h
      refine x_iload F.1 (i := 34) rfl rfl ?_
      refine x_iconst F.1 (i := 35) rfl ic_1 ?_
      refine x_iadd F.1 (i := 36) rfl ?_
      refine x_goto F.1 (i := 37) (tgt := 113) rfl (by decide) ?_
      exact x_iretf F (i := 44) rfl rfl h (res := (r, M')) hQ
  refine ite_e h (fun c21 h => ?_) (fun c21 h => ?_)
  · refine x_tabIn F.1 (i := 16) (tgt := 114) rfl (by rw [c21]; decide) (by rw [c21]; decide) (by rw [c21]; rfl) (by decide) ?_
    refine x_iload F.1 (i := 45) rfl rfl ?_
    refine x_aload_n F.1 (i := 46) rfl rfl ?_
    refine x_getI F.1 (i := 47) rfl fl_Life_75 (lk_Cloth hp3) (by rfl) ?_
    refine x_icmp_ge F.1 (i := 48) (tgt := 139) rfl (by decide) (fun c => ?_) (fun c => ?_)
    · replace h := if_T c h
      refine x_aload_n F.1 (i := 57) rfl rfl ?_
      refine x_getC F.1 (i := 58) rfl fl_Life_66 (lk_Script hp1) (by rfl) ?_
      refine x_iload F.1 (i := 59) rfl rfl ?_
      refine gd_e h (fun g10 h => ?_)
      refine x_iald F.1 (i := 60) rfl (lk_Script_mates hp1) (inb_e g10) ?_
      refine x_iconst F.1 (i := 61) rfl ic_1 ?_
      refine x_iadd F.1 (i := 62) rfl ?_
      exact x_iretf F (i := 63) rfl rfl h (res := (r, M')) hQ
    · replace h := if_F c h
      refine x_aload_n F.1 (i := 49) rfl rfl ?_
      refine x_iload F.1 (i := 50) rfl rfl ?_
      refine cal_e h (fun r11 M2 e12 h => ?_)
      refine x_cV1i F.1 (i := 51) rfl ml_Life_78 ok_Cloth_wholeRow (lk_Cloth hp3) (Nat.le_of_ble_eq_true rfl) (Nat.le_of_ble_eq_true rfl) (fun _ => t_Cloth_wholeRow hp3 e12) ?_
      refine x_if_eq F.1 (i := 52) (tgt := 139) rfl (by decide) (fun c => ?_) (fun c => ?_)
      · replace h := if_T c h
        refine x_aload_n F.1 (i := 57) rfl rfl ?_
        refine x_getC F.1 (i := 58) rfl fl_Life_66 (lk_Script hp1) (by rfl) ?_
        refine x_iload F.1 (i := 59) rfl rfl ?_
        refine gd_e h (fun g13 h => ?_)
        refine x_iald F.1 (i := 60) rfl (lk_Script_mates hp1) (inb_e g13) ?_
        refine x_iconst F.1 (i := 61) rfl ic_1 ?_
        refine x_iadd F.1 (i := 62) rfl ?_
        exact x_iretf F (i := 63) rfl rfl h (res := (r, M')) hQ
      · replace h := if_F c h
        refine x_iload F.1 (i := 53) rfl rfl ?_
        refine x_iconst F.1 (i := 54) rfl ic_1 ?_
        refine x_iadd F.1 (i := 55) rfl ?_
        refine x_goto F.1 (i := 56) (tgt := 148) rfl (by decide) ?_
        exact x_iretf F (i := 63) rfl rfl h (res := (r, M')) hQ
  refine ite_e h (fun c22 h => ?_) (fun c22 h => ?_)
  · refine x_tabIn F.1 (i := 16) (tgt := 149) rfl (by rw [c22]; decide) (by rw [c22]; decide) (by rw [c22]; rfl) (by decide) ?_
    refine x_aload_n F.1 (i := 64) rfl rfl ?_
    refine x_aload_n F.1 (i := 65) rfl rfl ?_
    refine x_getC F.1 (i := 66) rfl fl_Life_82 (lk_Cloth hp3) (by rfl) ?_
    refine cal_e h (fun r14 M3 e15 h => ?_)
    refine x_cV1i F.1 (i := 67) rfl ml_Life_85 ok_Cloth_sum (lk_Cloth hp3) (Nat.le_of_ble_eq_true rfl) (Nat.le_of_ble_eq_true rfl) (fun _ => t_Cloth_sum hp3 e15) ?_
    refine x_iload F.1 (i := 68) rfl rfl ?_
    refine x_iload F.1 (i := 69) rfl rfl ?_
    refine cal_e h (fun r16 M4 e17 h => ?_)
    refine x_cS3i F.1 (i := 70) rfl ml_Life_89 ok_Life_compares (Nat.le_of_ble_eq_true rfl) (Nat.le_of_ble_eq_true rfl) (fun _ => t_Life_compares e17) ?_
    refine x_if_eq F.1 (i := 71) (tgt := 174) rfl (by decide) (fun c => ?_) (fun c => ?_)
    · replace h := if_T c h
      refine x_aload_n F.1 (i := 76) rfl rfl ?_
      refine x_getC F.1 (i := 77) rfl fl_Life_66 (lk_Script hp1) (by rfl) ?_
      refine x_iload F.1 (i := 78) rfl rfl ?_
      refine gd_e h (fun g18 h => ?_)
      refine x_iald F.1 (i := 79) rfl (lk_Script_mates hp1) (inb_e g18) ?_
      refine x_iconst F.1 (i := 80) rfl ic_1 ?_
      refine x_iadd F.1 (i := 81) rfl ?_
      exact x_iretf F (i := 82) rfl rfl h (res := (r, M')) hQ
    · replace h := if_F c h
      refine x_iload F.1 (i := 72) rfl rfl ?_
      refine x_iconst F.1 (i := 73) rfl ic_1 ?_
      refine x_iadd F.1 (i := 74) rfl ?_
      refine x_goto F.1 (i := 75) (tgt := 183) rfl (by decide) ?_
      exact x_iretf F (i := 82) rfl rfl h (res := (r, M')) hQ
  refine ite_e h (fun c23 h => ?_) (fun c23 h => ?_)
  · refine x_tabIn F.1 (i := 16) (tgt := 73) rfl (by rw [c23]; decide) (by rw [c23]; decide) (by rw [c23]; rfl) (by decide) ?_
    refine x_aload_n F.1 (i := 20) rfl rfl ?_
    refine x_getC F.1 (i := 21) rfl fl_Life_11 (lk_Life hp0) (by rfl) ?_
    refine x_iload F.1 (i := 22) rfl rfl ?_
    refine x_iload F.1 (i := 23) rfl rfl ?_
    refine gd_e h (fun g19 h => ?_)
    refine x_iast F.1 (i := 24) rfl (lk_Life_left hp0) (inb_e g19) ?_
    replace h := bd_e h
    refine x_iload F.1 (i := 25) rfl rfl ?_
    refine x_iconst F.1 (i := 26) rfl ic_1 ?_
    refine x_iadd F.1 (i := 27) rfl ?_
    exact x_iretf F (i := 28) rfl rfl h (res := (r, M')) hQ
  refine ite_e h (fun c24 h => ?_) (fun c24 h => ?_)
  · refine x_tabIn F.1 (i := 16) (tgt := 184) rfl (by rw [c24]; decide) (by rw [c24]; decide) (by rw [c24]; rfl) (by decide) ?_
    refine x_iload F.1 (i := 83) rfl rfl ?_
    refine x_iconst F.1 (i := 84) rfl ic_1 ?_
    refine x_iadd F.1 (i := 85) rfl ?_
    exact x_iretf F (i := 86) rfl rfl h (res := (r, M')) hQ
  refine ite_e h (fun c25 h => ?_) (fun c25 h => ?_)
  · refine x_tabIn F.1 (i := 16) (tgt := 68) rfl (by rw [c25]; decide) (by rw [c25]; decide) (by rw [c25]; rfl) (by decide) ?_
    refine x_aload_n F.1 (i := 17) rfl rfl ?_
    refine x_getI F.1 (i := 18) rfl fl_Life_40 (lk_Script hp1) (by rfl) ?_
    exact x_iretf F (i := 19) rfl rfl h (res := (r, M')) hQ
  have c20z := ne_toInt (z := 20) c20 (by decide)
  have c21z := ne_toInt (z := 21) c21 (by decide)
  have c22z := ne_toInt (z := 22) c22 (by decide)
  have c23z := ne_toInt (z := 23) c23 (by decide)
  have c24z := ne_toInt (z := 24) c24 (by decide)
  have c25z := ne_toInt (z := 25) c25 (by decide)
  refine x_tabOut F.1 (i := 16) (tgt := 184) rfl (by omega) (by decide) ?_
  refine x_iload F.1 (i := 83) rfl rfl ?_
  refine x_iconst F.1 (i := 84) rfl ic_1 ?_
  refine x_iadd F.1 (i := 85) rfl ?_
  exact x_iretf F (i := 86) rfl rfl h (res := (r, M')) hQ
set_option maxHeartbeats 4000000 in
theorem t_Life_run_l42 {w : kx_W} {d : Nat} {Q : Option Value → kx_M → Prop} {G : Nat → List (Option Value) → List Value → kx_M → Prop} (F : Sd w (d + 5) m_Life_run Q G) {p0 : Nat} {p1 : Nat} {p2 : Nat} {p3 : Nat} {p4 : Int32} (hp0 : isLife p0 = true) (hp1 : isScript p1 = true) (hp2 : isDeal p2 = true) (hp3 : isCloth p3 = true) {res : Unit × kx_M} (hQ : Q none res.2) :
    ∀ (n : Nat) (x5 : Int32) (x6 : Int32) (M : kx_M),
    f_Life_run_l42 p0 p1 p2 p3 p4 n x5 x6 M = some res → G 42 [some (.ref p0), some (.ref p1), some (.ref p2), some (.ref p3), none, some (.int x5), some (.int x6)] [] M := by
  intro n
  induction n with
  | zero =>
    intro x5 x6 M h
    exact absurd h (by rw [f_Life_run_l42]; exact fun z => nomatch z)
  | succ n ih =>
    intro x5 x6 M h
    rw [f_Life_run_l42] at h
    refine x_iload F.1 (i := 25) rfl rfl ?_
    refine x_ldc F.1 (i := 26) rfl cn_Life_39 ?_
    refine x_icmp_ge F.1 (i := 27) (tgt := 151) rfl (by decide) (fun c => ?_) (fun c => ?_)
    · replace h := if_T c h
      exact x_vretf F (i := 82) rfl rfl h hQ
    · replace h := if_F c h
      refine x_iload F.1 (i := 28) rfl rfl ?_
      refine x_aload_n F.1 (i := 29) rfl rfl ?_
      refine x_getI F.1 (i := 30) rfl fl_Life_40 (lk_Script hp1) (by rfl) ?_
      refine x_icmp_ge F.1 (i := 31) (tgt := 151) rfl (by decide) (fun c => ?_) (fun c => ?_)
      · replace h := if_T c h
        exact x_vretf F (i := 82) rfl rfl h hQ
      · replace h := if_F c h
        refine x_aload_n F.1 (i := 32) rfl rfl ?_
        refine x_getC F.1 (i := 33) rfl fl_Life_43 (lk_Script hp1) (by rfl) ?_
        refine x_iload F.1 (i := 34) rfl rfl ?_
        refine gd_e h (fun g1 h => ?_)
        refine x_iald F.1 (i := 35) rfl (lk_Script_ops hp1) (inb_e g1) ?_
        refine x_bipush F.1 (i := 36) rfl bp_24 ?_
        refine x_icmp_ne F.1 (i := 37) (tgt := 82) rfl (by decide) (fun c => ?_) (fun c => ?_)
        · replace h := if_F c h
          refine x_aload_n F.1 (i := 44) rfl rfl ?_
          refine x_getI F.1 (i := 45) rfl fl_Life_21 (lk_Life hp0) (by rfl) ?_
          refine x_sipush F.1 (i := 46) rfl sp_300 ?_
          refine x_icmp_lt F.1 (i := 47) (tgt := 98) rfl (by decide) (fun c => ?_) (fun c => ?_)
          · replace h := if_T c h
            refine x_aload_n F.1 (i := 52) rfl rfl ?_
            refine x_dup F.1 (i := 53) rfl rfl ?_
            refine x_getI F.1 (i := 54) rfl fl_Life_21 (lk_Life hp0) (by rfl) ?_
            refine x_iconst F.1 (i := 55) rfl ic_1 ?_
            refine x_iadd F.1 (i := 56) rfl ?_
            refine x_putI F.1 (i := 57) rfl fl_Life_21 pf_Life_steps (lk_Life hp0) (by rfl) ?_
            replace h := bd_e h
            refine x_aload_n F.1 (i := 58) rfl rfl ?_
            refine x_aload_n F.1 (i := 59) rfl rfl ?_
            refine x_aload_n F.1 (i := 60) rfl rfl ?_
            refine x_getC F.1 (i := 61) rfl fl_Life_43 (lk_Script hp1) (by rfl) ?_
            refine x_iload F.1 (i := 62) rfl rfl ?_
            refine gd_e h (fun g5 h => ?_)
            refine x_iald F.1 (i := 63) rfl (lk_Script_ops hp1) (inb_e g5) ?_
            refine x_aload_n F.1 (i := 64) rfl rfl ?_
            refine x_getC F.1 (i := 65) rfl fl_Life_52 (lk_Script hp1) (by rfl) ?_
            refine x_iload F.1 (i := 66) rfl rfl ?_
            refine gd_e h (fun g6 h => ?_)
            refine x_iald F.1 (i := 67) rfl (lk_Script_firsts hp1) (inb_e g6) ?_
            refine x_aload_n F.1 (i := 68) rfl rfl ?_
            refine x_getC F.1 (i := 69) rfl fl_Life_55 (lk_Script hp1) (by rfl) ?_
            refine x_iload F.1 (i := 70) rfl rfl ?_
            refine gd_e h (fun g7 h => ?_)
            refine x_iald F.1 (i := 71) rfl (lk_Script_seconds hp1) (inb_e g7) ?_
            refine cal_e h (fun r8 M3 e9 h => ?_)
            refine x_cV4v F.1 (i := 72) rfl ml_Life_58 ok_Life_act (lk_Life hp0) (Nat.le_of_ble_eq_true rfl) (Nat.le_of_ble_eq_true rfl) (fun _ => t_Life_act hp0 hp3 e9) ?_
            refine x_aload_n F.1 (i := 73) rfl rfl ?_
            refine x_aload_n F.1 (i := 74) rfl rfl ?_
            refine x_aload_n F.1 (i := 75) rfl rfl ?_
            refine x_aload_n F.1 (i := 76) rfl rfl ?_
            refine x_iload F.1 (i := 77) rfl rfl ?_
            refine cal_e h (fun r10 M4 e11 h => ?_)
            refine x_cV4i F.1 (i := 78) rfl ml_Life_62 ok_Life_behindStep (lk_Life hp0) (Nat.le_of_ble_eq_true rfl) (Nat.le_of_ble_eq_true rfl) (fun _ => t_Life_behindStep hp0 hp1 hp2 hp3 e11) ?_
            refine x_istore F.1 (i := 79) rfl (Nat.le_of_ble_eq_true rfl) (Nat.le_of_ble_eq_true rfl) rfl ?_
            refine x_iinc F.1 (i := 80) rfl rfl rfl (Nat.le_of_ble_eq_true rfl) rfl ?_
            replace h := bd_e h
            refine x_goto F.1 (i := 81) (tgt := 42) rfl (by decide) ?_
            exact x_wk F.1 (ih _ _ _ h) ⟨rfl, rfl, rfl, rfl, rfl, rfl, trivial⟩
          · replace h := if_F c h
            refine x_aload_n F.1 (i := 48) rfl rfl ?_
            refine x_iconst F.1 (i := 49) rfl ic_1 ?_
            refine x_putI F.1 (i := 50) rfl fl_Life_36 pf_Life_cut (lk_Life hp0) (by rfl) ?_
            replace h := bd_e h
            exact x_vretf F (i := 51) rfl rfl h hQ
        · replace h := if_T c h
          refine x_aload_n F.1 (i := 38) rfl rfl ?_
          refine x_aload_n F.1 (i := 39) rfl rfl ?_
          refine x_iload F.1 (i := 40) rfl rfl ?_
          refine cal_e h (fun r2 M1 e3 h => ?_)
          refine x_cV2i F.1 (i := 41) rfl ml_Life_48 ok_Life_behindEnd (lk_Life hp0) (Nat.le_of_ble_eq_true rfl) (Nat.le_of_ble_eq_true rfl) (fun _ => t_Life_behindEnd hp0 hp1 e3) ?_
          refine x_istore F.1 (i := 42) rfl (Nat.le_of_ble_eq_true rfl) (Nat.le_of_ble_eq_true rfl) rfl ?_
          refine x_goto F.1 (i := 43) (tgt := 145) rfl (by decide) ?_
          refine x_iinc F.1 (i := 80) rfl rfl rfl (Nat.le_of_ble_eq_true rfl) rfl ?_
          replace h := bd_e h
          refine x_goto F.1 (i := 81) (tgt := 42) rfl (by decide) ?_
          exact x_wk F.1 (ih _ _ _ h) ⟨rfl, rfl, rfl, rfl, rfl, rfl, trivial⟩
set_option maxHeartbeats 4000000 in
theorem t_Life_run {w : kx_W} {d : Nat} {M : kx_M} {Q : Option Value → kx_M → Prop} {p0 : Nat} {p1 : Nat} {p2 : Nat} {p3 : Nat} {p4 : Int32} {r : Unit} {M' : kx_M} (hp0 : isLife p0 = true) (hp1 : isScript p1 = true) (hp2 : isDeal p2 = true) (hp3 : isCloth p3 = true) (h : f_Life_run p0 p1 p2 p3 p4 M = some (r, M')) (hQ : Q none M') : Ct w (d + 5) m_Life_run [.ref p0, .ref p1, .ref p2, .ref p3, .int p4] M Q := by
  refine mk_ct ok_Life_run (Nat.le_of_ble_eq_true rfl) (fun G F => ?_)
  rw [f_Life_run] at h
  show G 0 [some (.ref p0), some (.ref p1), some (.ref p2), some (.ref p3), some (.int p4), none, none] [] M
  refine x_aload_n F.1 (i := 0) rfl rfl ?_
  refine x_iload F.1 (i := 1) rfl rfl ?_
  refine x_putI F.1 (i := 2) rfl fl_Life_17 pf_Life_seed (lk_Life hp0) (by rfl) ?_
  replace h := bd_e h
  refine x_aload_n F.1 (i := 3) rfl rfl ?_
  refine x_iconst F.1 (i := 4) rfl ic_0 ?_
  refine x_putI F.1 (i := 5) rfl fl_Life_21 pf_Life_steps (lk_Life hp0) (by rfl) ?_
  replace h := bd_e h
  refine x_aload_n F.1 (i := 6) rfl rfl ?_
  refine x_iconst F.1 (i := 7) rfl ic_0 ?_
  refine x_putI F.1 (i := 8) rfl fl_Life_24 pf_Life_missed (lk_Life hp0) (by rfl) ?_
  replace h := bd_e h
  refine x_aload_n F.1 (i := 9) rfl rfl ?_
  refine x_iconst F.1 (i := 10) rfl ic_0 ?_
  refine x_putI F.1 (i := 11) rfl fl_Life_27 pf_Life_years (lk_Life hp0) (by rfl) ?_
  replace h := bd_e h
  refine x_aload_n F.1 (i := 12) rfl rfl ?_
  refine x_iconst F.1 (i := 13) rfl ic_0 ?_
  refine x_putI F.1 (i := 14) rfl fl_Life_30 pf_Life_fresh (lk_Life hp0) (by rfl) ?_
  replace h := bd_e h
  refine x_aload_n F.1 (i := 15) rfl rfl ?_
  refine x_iconst F.1 (i := 16) rfl ic_0 ?_
  refine x_putI F.1 (i := 17) rfl fl_Life_33 pf_Life_darns (lk_Life hp0) (by rfl) ?_
  replace h := bd_e h
  refine x_aload_n F.1 (i := 18) rfl rfl ?_
  refine x_iconst F.1 (i := 19) rfl ic_0 ?_
  refine x_putI F.1 (i := 20) rfl fl_Life_36 pf_Life_cut (lk_Life hp0) (by rfl) ?_
  replace h := bd_e h
  refine x_iconst F.1 (i := 21) rfl ic_0 ?_
  refine x_istore F.1 (i := 22) rfl (Nat.le_of_ble_eq_true rfl) (Nat.le_of_ble_eq_true rfl) rfl ?_
  refine x_iconst F.1 (i := 23) rfl ic_0 ?_
  refine x_istore F.1 (i := 24) rfl (Nat.le_of_ble_eq_true rfl) (Nat.le_of_ble_eq_true rfl) rfl ?_
  exact x_wk F.1 ((t_Life_run_l42 F hp0 hp1 hp2 hp3 (res := (r, M')) hQ FU) _ _ _ h) ⟨rfl, rfl, rfl, rfl, rfl, rfl, trivial⟩
set_option maxHeartbeats 4000000 in
theorem t_KT_live_l34 {w : kx_W} {d : Nat} {Q : Option Value → kx_M → Prop} {G : Nat → List (Option Value) → List Value → kx_M → Prop} (F : Sd w (d + 6) m_KT_live Q G) {p1 : Int32} {res : Int32 × kx_M} (hQ : Q (some (.int res.1)) res.2) :
    ∀ (x2 : Int32) (M : kx_M),
    f_KT_live_l34 p1 x2 M = some res → G 34 [some (.ref 0), some (.int p1), some (.int x2)] [] M := by
  intro x2 M h
  rw [f_KT_live_l34] at h
  refine x_aload_n F.1 (i := 17) rfl rfl ?_
  refine x_iload_n F.1 (i := 18) rfl rfl ?_
  refine cal_e h (fun r1 M1 e2 h => ?_)
  refine x_cV1i F.1 (i := 19) rfl ml_KT_103 ok_KT_refused rfl (Nat.le_of_ble_eq_true rfl) (Nat.le_of_ble_eq_true rfl) (fun _ => t_KT_refused e2) ?_
  refine x_if_eq F.1 (i := 20) (tgt := 44) rfl (by decide) (fun c => ?_) (fun c => ?_)
  · replace h := if_T c h
    refine x_aload_n F.1 (i := 23) rfl rfl ?_
    refine x_getC F.1 (i := 24) rfl fl_KT_56 rfl (by rfl) ?_
    refine x_aload_n F.1 (i := 25) rfl rfl ?_
    refine x_getR F.1 (i := 26) rfl fl_KT_64 rfl (by rfl) rfl ?_
    refine gd_e h (fun g3 h => ?_)
    replace h := bd_e h
    refine x_getC F.1 (i := 27) rfl fl_KT_165 (lk_State g3) (by rfl) ?_
    refine x_aload_n F.1 (i := 28) rfl rfl ?_
    refine x_getR F.1 (i := 29) rfl fl_KT_64 rfl (by rfl) rfl ?_
    refine gd_e h (fun g5 h => ?_)
    replace h := bd_e h
    refine x_getC F.1 (i := 30) rfl fl_KT_192 (lk_State g5) (by rfl) ?_
    refine x_aload_n F.1 (i := 31) rfl rfl ?_
    refine x_getR F.1 (i := 32) rfl fl_KT_64 rfl (by rfl) rfl ?_
    refine gd_e h (fun g7 h => ?_)
    replace h := bd_e h
    refine x_getC F.1 (i := 33) rfl fl_KT_156 (lk_State g7) (by rfl) ?_
    refine x_iload_n F.1 (i := 34) rfl rfl ?_
    refine cal_e h (fun r9 M2 e10 h => ?_)
    refine x_cV4v F.1 (i := 35) rfl ml_KT_428 ok_Life_run (lk_Life (show isLife 23 = true from rfl)) (Nat.le_of_ble_eq_true rfl) (Nat.le_of_ble_eq_true rfl) (fun _ => t_Life_run (show isLife 23 = true from rfl) (lD_State_script g3) (lD_State_deal g5) (lD_State_cloth g7) e10) ?_
    refine x_aload_n F.1 (i := 36) rfl rfl ?_
    refine x_iconst F.1 (i := 37) rfl ic_1 ?_
    refine x_putZ F.1 (i := 38) rfl fl_KT_87 pf_KT_livedOnce rfl (by rfl) (Or.inr rfl) ?_
    replace h := bd_e h
    refine x_aload_n F.1 (i := 39) rfl rfl ?_
    refine x_getC F.1 (i := 40) rfl fl_KT_56 rfl (by rfl) ?_
    refine x_getI F.1 (i := 41) rfl fl_KT_431 (lk_Life (show isLife 23 = true from rfl)) (by rfl) ?_
    exact x_iretf F (i := 42) rfl rfl h hQ
  · replace h := if_F c h
    refine x_iconst F.1 (i := 21) rfl ic_n1 ?_
    exact x_iretf F (i := 22) rfl rfl h hQ
set_option maxHeartbeats 4000000 in
theorem t_KT_live {w : kx_W} {d : Nat} {M : kx_M} {Q : Option Value → kx_M → Prop} {p1 : Int32} {r : Int32} {M' : kx_M} (h : f_KT_live p1 M = some (r, M')) (hQ : Q (some (.int r)) M') : Ct w (d + 6) m_KT_live [.ref 0, .int p1] M Q := by
  refine mk_ct ok_KT_live (Nat.le_of_ble_eq_true rfl) (fun G F => ?_)
  rw [f_KT_live] at h
  show G 0 [some (.ref 0), some (.int p1), none] [] M
  refine x_iconst F.1 (i := 0) rfl ic_0 ?_
  refine x_istore_n F.1 (i := 1) rfl (Nat.le_of_ble_eq_true rfl) (Nat.le_of_ble_eq_true rfl) rfl ?_
  refine x_iload_n F.1 (i := 2) rfl rfl ?_
  refine x_if_lt F.1 (i := 3) (tgt := 13) rfl (by decide) (fun c => ?_) (fun c => ?_)
  · replace h := if_T c h
    refine x_iconst F.1 (i := 7) rfl ic_5 ?_
    refine x_istore_n F.1 (i := 8) rfl (Nat.le_of_ble_eq_true rfl) (Nat.le_of_ble_eq_true rfl) rfl ?_
    refine x_goto F.1 (i := 9) (tgt := 34) rfl (by decide) ?_
    exact x_wk F.1 ((t_KT_live_l34 F (res := (r, M')) hQ) _ _ h) ⟨rfl, rfl, rfl, trivial⟩
  · replace h := if_F c h
    refine x_iload_n F.1 (i := 4) rfl rfl ?_
    refine x_sipush F.1 (i := 5) rfl sp_9999 ?_
    refine x_icmp_le F.1 (i := 6) (tgt := 18) rfl (by decide) (fun c => ?_) (fun c => ?_)
    · replace h := if_T c h
      refine x_aload_n F.1 (i := 10) rfl rfl ?_
      refine x_getR F.1 (i := 11) rfl fl_KT_64 rfl (by rfl) rfl ?_
      refine gd_e h (fun g1 h => ?_)
      replace h := bd_e h
      refine x_getC F.1 (i := 12) rfl fl_KT_165 (lk_State g1) (by rfl) ?_
      refine x_getI F.1 (i := 13) rfl fl_KT_425 (lk_Script (lD_State_script g1)) (by rfl) ?_
      refine x_if_ne F.1 (i := 14) (tgt := 34) rfl (by decide) (fun c => ?_) (fun c => ?_)
      · replace h := if_F c h
        exact x_wk F.1 ((t_KT_live_l34 F (res := (r, M')) hQ) _ _ h) ⟨rfl, rfl, rfl, trivial⟩
      · replace h := if_T c h
        refine x_bipush F.1 (i := 15) rfl bp_8 ?_
        refine x_istore_n F.1 (i := 16) rfl (Nat.le_of_ble_eq_true rfl) (Nat.le_of_ble_eq_true rfl) rfl ?_
        exact x_wk F.1 ((t_KT_live_l34 F (res := (r, M')) hQ) _ _ h) ⟨rfl, rfl, rfl, trivial⟩
    · replace h := if_F c h
      refine x_iconst F.1 (i := 7) rfl ic_5 ?_
      refine x_istore_n F.1 (i := 8) rfl (Nat.le_of_ble_eq_true rfl) (Nat.le_of_ble_eq_true rfl) rfl ?_
      refine x_goto F.1 (i := 9) (tgt := 34) rfl (by decide) ?_
      exact x_wk F.1 ((t_KT_live_l34 F (res := (r, M')) hQ) _ _ h) ⟨rfl, rfl, rfl, trivial⟩
set_option maxHeartbeats 4000000 in
theorem t_KT_lived_l26 {w : kx_W} {d : Nat} {Q : Option Value → kx_M → Prop} {G : Nat → List (Option Value) → List Value → kx_M → Prop} (F : Sd w (d + 1) m_KT_lived Q G) {p1 : Int32} {res : Int32 × kx_M} (hQ : Q (some (.int res.1)) res.2) :
    ∀ (x2 : Int32) (M : kx_M),
    f_KT_lived_l26 p1 x2 M = some res → G 26 [some (.ref 0), some (.int p1), some (.int x2)] [] M := by
  intro x2 M h
  rw [f_KT_lived_l26] at h
  refine x_aload_n F.1 (i := 15) rfl rfl ?_
  refine x_iload_n F.1 (i := 16) rfl rfl ?_
  refine cal_e h (fun r1 M1 e2 h => ?_)
  refine x_cV1i F.1 (i := 17) rfl ml_KT_103 ok_KT_refused rfl (Nat.le_of_ble_eq_true rfl) (Nat.le_of_ble_eq_true rfl) (fun _ => t_KT_refused e2) ?_
  refine x_if_eq F.1 (i := 18) (tgt := 36) rfl (by decide) (fun c => ?_) (fun c => ?_)
  · replace h := if_T c h
    refine x_iload_n F.1 (i := 21) rfl rfl ?_
    refine ite_e h (fun c0 h => ?_) (fun c0 h => ?_)
    · refine x_tabIn F.1 (i := 22) (tgt := 68) rfl (by rw [c0]; decide) (by rw [c0]; decide) (by rw [c0]; rfl) (by decide) ?_
      refine x_aload_n F.1 (i := 23) rfl rfl ?_
      refine x_getC F.1 (i := 24) rfl fl_KT_56 rfl (by rfl) ?_
      refine x_getI F.1 (i := 25) rfl fl_KT_432 (lk_Life (show isLife 23 = true from rfl)) (by rfl) ?_
      exact x_iretf F (i := 26) rfl rfl h hQ
    refine ite_e h (fun c1 h => ?_) (fun c1 h => ?_)
    · refine x_tabIn F.1 (i := 22) (tgt := 76) rfl (by rw [c1]; decide) (by rw [c1]; decide) (by rw [c1]; rfl) (by decide) ?_
      refine x_aload_n F.1 (i := 27) rfl rfl ?_
      refine x_getC F.1 (i := 28) rfl fl_KT_56 rfl (by rfl) ?_
      refine x_getI F.1 (i := 29) rfl fl_KT_435 (lk_Life (show isLife 23 = true from rfl)) (by rfl) ?_
      exact x_iretf F (i := 30) rfl rfl h hQ
    refine ite_e h (fun c2 h => ?_) (fun c2 h => ?_)
    · refine x_tabIn F.1 (i := 22) (tgt := 84) rfl (by rw [c2]; decide) (by rw [c2]; decide) (by rw [c2]; rfl) (by decide) ?_
      refine x_aload_n F.1 (i := 31) rfl rfl ?_
      refine x_getC F.1 (i := 32) rfl fl_KT_56 rfl (by rfl) ?_
      refine x_getI F.1 (i := 33) rfl fl_KT_438 (lk_Life (show isLife 23 = true from rfl)) (by rfl) ?_
      exact x_iretf F (i := 34) rfl rfl h hQ
    refine ite_e h (fun c3 h => ?_) (fun c3 h => ?_)
    · refine x_tabIn F.1 (i := 22) (tgt := 92) rfl (by rw [c3]; decide) (by rw [c3]; decide) (by rw [c3]; rfl) (by decide) ?_
      refine x_aload_n F.1 (i := 35) rfl rfl ?_
      refine x_getC F.1 (i := 36) rfl fl_KT_56 rfl (by rfl) ?_
      refine x_getI F.1 (i := 37) rfl fl_KT_441 (lk_Life (show isLife 23 = true from rfl)) (by rfl) ?_
      exact x_iretf F (i := 38) rfl rfl h hQ
    have c0z := ne_toInt (z := 0) c0 (by decide)
    have c1z := ne_toInt (z := 1) c1 (by decide)
    have c2z := ne_toInt (z := 2) c2 (by decide)
    have c3z := ne_toInt (z := 3) c3 (by decide)
    refine x_tabOut F.1 (i := 22) (tgt := 100) rfl (by omega) (by decide) ?_
    refine x_aload_n F.1 (i := 39) rfl rfl ?_
    refine x_getC F.1 (i := 40) rfl fl_KT_56 rfl (by rfl) ?_
    refine x_getI F.1 (i := 41) rfl fl_KT_444 (lk_Life (show isLife 23 = true from rfl)) (by rfl) ?_
    exact x_iretf F (i := 42) rfl rfl h hQ
  · replace h := if_F c h
    refine x_iconst F.1 (i := 19) rfl ic_n1 ?_
    exact x_iretf F (i := 20) rfl rfl h hQ
set_option maxHeartbeats 4000000 in
theorem t_KT_lived {w : kx_W} {d : Nat} {M : kx_M} {Q : Option Value → kx_M → Prop} {p1 : Int32} {r : Int32} {M' : kx_M} (h : f_KT_lived p1 M = some (r, M')) (hQ : Q (some (.int r)) M') : Ct w (d + 1) m_KT_lived [.ref 0, .int p1] M Q := by
  refine mk_ct ok_KT_lived (Nat.le_of_ble_eq_true rfl) (fun G F => ?_)
  rw [f_KT_lived] at h
  show G 0 [some (.ref 0), some (.int p1), none] [] M
  refine x_iconst F.1 (i := 0) rfl ic_0 ?_
  refine x_istore_n F.1 (i := 1) rfl (Nat.le_of_ble_eq_true rfl) (Nat.le_of_ble_eq_true rfl) rfl ?_
  refine x_iload_n F.1 (i := 2) rfl rfl ?_
  refine x_if_lt F.1 (i := 3) (tgt := 11) rfl (by decide) (fun c => ?_) (fun c => ?_)
  · replace h := if_T c h
    refine x_iconst F.1 (i := 7) rfl ic_5 ?_
    refine x_istore_n F.1 (i := 8) rfl (Nat.le_of_ble_eq_true rfl) (Nat.le_of_ble_eq_true rfl) rfl ?_
    refine x_goto F.1 (i := 9) (tgt := 26) rfl (by decide) ?_
    exact x_wk F.1 ((t_KT_lived_l26 F (res := (r, M')) hQ) _ _ h) ⟨rfl, rfl, rfl, trivial⟩
  · replace h := if_F c h
    refine x_iload_n F.1 (i := 4) rfl rfl ?_
    refine x_iconst F.1 (i := 5) rfl ic_4 ?_
    refine x_icmp_le F.1 (i := 6) (tgt := 16) rfl (by decide) (fun c => ?_) (fun c => ?_)
    · replace h := if_T c h
      refine x_aload_n F.1 (i := 10) rfl rfl ?_
      refine x_getI F.1 (i := 11) rfl fl_KT_87 rfl (by rfl) ?_
      refine x_if_ne F.1 (i := 12) (tgt := 26) rfl (by decide) (fun c => ?_) (fun c => ?_)
      · replace h := if_F c h
        exact x_wk F.1 ((t_KT_lived_l26 F (res := (r, M')) hQ) _ _ h) ⟨rfl, rfl, rfl, trivial⟩
      · replace h := if_T c h
        refine x_bipush F.1 (i := 13) rfl bp_8 ?_
        refine x_istore_n F.1 (i := 14) rfl (Nat.le_of_ble_eq_true rfl) (Nat.le_of_ble_eq_true rfl) rfl ?_
        exact x_wk F.1 ((t_KT_lived_l26 F (res := (r, M')) hQ) _ _ h) ⟨rfl, rfl, rfl, trivial⟩
    · replace h := if_F c h
      refine x_iconst F.1 (i := 7) rfl ic_5 ?_
      refine x_istore_n F.1 (i := 8) rfl (Nat.le_of_ble_eq_true rfl) (Nat.le_of_ble_eq_true rfl) rfl ?_
      refine x_goto F.1 (i := 9) (tgt := 26) rfl (by decide) ?_
      exact x_wk F.1 ((t_KT_lived_l26 F (res := (r, M')) hQ) _ _ h) ⟨rfl, rfl, rfl, trivial⟩
set_option maxHeartbeats 4000000 in
theorem t_KT_mean_l63 {w : kx_W} {d : Nat} {Q : Option Value → kx_M → Prop} {G : Nat → List (Option Value) → List Value → kx_M → Prop} (F : Sd w (d + 6) m_KT_mean Q G) {p1 : Int32} {p2 : Int32} {res : Int32 × kx_M} (hQ : Q (some (.int res.1)) res.2) :
    ∀ (n : Nat) (x4 : Int32) (x5 : Int32) (M : kx_M),
    f_KT_mean_l63 p1 p2 n x4 x5 M = some res → G 63 [some (.ref 0), some (.int p1), some (.int p2), none, some (.int x4), some (.int x5), none] [] M := by
  intro n
  induction n with
  | zero =>
    intro x4 x5 M h
    exact absurd h (by rw [f_KT_mean_l63]; exact fun z => nomatch z)
  | succ n ih =>
    intro x4 x5 M h
    rw [f_KT_mean_l63] at h
    refine x_iload F.1 (i := 35) rfl rfl ?_
    refine x_iload_n F.1 (i := 36) rfl rfl ?_
    refine x_icmp_ge F.1 (i := 37) (tgt := 123) rfl (by decide) (fun c => ?_) (fun c => ?_)
    · replace h := if_T c h
      refine x_aload_n F.1 (i := 63) rfl rfl ?_
      refine x_iload F.1 (i := 64) rfl rfl ?_
      refine x_i2l F.1 (i := 65) rfl ?_
      refine x_iload_n F.1 (i := 66) rfl rfl ?_
      refine x_i2l F.1 (i := 67) rfl ?_
      refine cal_e h (fun r1 M1 e2 h => ?_)
      refine x_cV2v F.1 (i := 68) rfl ml_KT_408 ok_KT_tellFraction rfl (Nat.le_of_ble_eq_true rfl) (Nat.le_of_ble_eq_true rfl) (fun _ => t_KT_tellFraction e2) ?_
      refine x_iconst F.1 (i := 69) rfl ic_1 ?_
      exact x_zretf F (i := 70) rfl rfl (Or.inr rfl) h hQ
    · replace h := if_F c h
      refine x_aload_n F.1 (i := 38) rfl rfl ?_
      refine cal_e h (fun r3 M2 e4 h => ?_)
      refine x_cV0a F.1 (i := 39) rfl ml_KT_344 ok_KT_tried rfl (Nat.le_of_ble_eq_true rfl) (Nat.le_of_ble_eq_true rfl) (fun _ => t_KT_tried e4) ?_
      refine gd_e h (fun g5 h => ?_)
      refine x_astore F.1 (i := 40) rfl (Nat.le_of_ble_eq_true rfl) (Nat.le_of_ble_eq_true rfl) rfl ?_
      refine x_aload_n F.1 (i := 41) rfl rfl ?_
      refine x_getC F.1 (i := 42) rfl fl_KT_60 rfl (by rfl) ?_
      refine x_aload_n F.1 (i := 43) rfl rfl ?_
      refine x_getR F.1 (i := 44) rfl fl_KT_64 rfl (by rfl) rfl ?_
      refine gd_e h (fun g6 h => ?_)
      replace h := bd_e h
      refine x_getC F.1 (i := 45) rfl fl_KT_165 (lk_State g6) (by rfl) ?_
      refine x_aload_n F.1 (i := 46) rfl rfl ?_
      refine x_getR F.1 (i := 47) rfl fl_KT_64 rfl (by rfl) rfl ?_
      refine gd_e h (fun g8 h => ?_)
      replace h := bd_e h
      refine x_getC F.1 (i := 48) rfl fl_KT_192 (lk_State g8) (by rfl) ?_
      refine x_aload F.1 (i := 49) rfl rfl ?_
      refine x_iload_n F.1 (i := 50) rfl rfl ?_
      refine x_iload F.1 (i := 51) rfl rfl ?_
      refine x_iadd F.1 (i := 52) rfl ?_
      refine cal_e h (fun r10 M3 e11 h => ?_)
      refine x_cV4v F.1 (i := 53) rfl ml_KT_428 ok_Life_run (lk_Life (show isLife 25 = true from rfl)) (Nat.le_of_ble_eq_true rfl) (Nat.le_of_ble_eq_true rfl) (fun _ => t_Life_run (show isLife 25 = true from rfl) (lD_State_script g6) (lD_State_deal g8) g5 e11) ?_
      refine x_iload F.1 (i := 54) rfl rfl ?_
      refine x_aload F.1 (i := 55) rfl rfl ?_
      refine x_aload F.1 (i := 56) rfl rfl ?_
      refine x_getC F.1 (i := 57) rfl fl_KT_207 (lk_Cloth g5) (by rfl) ?_
      refine cal_e h (fun r12 M4 e13 h => ?_)
      refine x_cV1i F.1 (i := 58) rfl ml_KT_210 ok_Cloth_sum (lk_Cloth g5) (Nat.le_of_ble_eq_true rfl) (Nat.le_of_ble_eq_true rfl) (fun _ => t_Cloth_sum g5 e13) ?_
      refine x_iadd F.1 (i := 59) rfl ?_
      refine x_istore F.1 (i := 60) rfl (Nat.le_of_ble_eq_true rfl) (Nat.le_of_ble_eq_true rfl) rfl ?_
      replace h := bd_e h
      refine x_iinc F.1 (i := 61) rfl rfl rfl (Nat.le_of_ble_eq_true rfl) rfl ?_
      replace h := bd_e h
      refine x_goto F.1 (i := 62) (tgt := 63) rfl (by decide) ?_
      exact x_wk F.1 (ih _ _ _ h) ⟨rfl, rfl, rfl, rfl, rfl, trivial⟩
set_option maxHeartbeats 4000000 in
theorem t_KT_mean_l47 {w : kx_W} {d : Nat} {Q : Option Value → kx_M → Prop} {G : Nat → List (Option Value) → List Value → kx_M → Prop} (F : Sd w (d + 6) m_KT_mean Q G) {p1 : Int32} {p2 : Int32} {res : Int32 × kx_M} (hQ : Q (some (.int res.1)) res.2) :
    ∀ (x3 : Int32) (M : kx_M),
    f_KT_mean_l47 p1 p2 x3 M = some res → G 47 [some (.ref 0), some (.int p1), some (.int p2), some (.int x3), none, none, none] [] M := by
  intro x3 M h
  rw [f_KT_mean_l47] at h
  refine x_aload_n F.1 (i := 25) rfl rfl ?_
  refine x_iload_n F.1 (i := 26) rfl rfl ?_
  refine cal_e h (fun r1 M1 e2 h => ?_)
  refine x_cV1i F.1 (i := 27) rfl ml_KT_103 ok_KT_refused rfl (Nat.le_of_ble_eq_true rfl) (Nat.le_of_ble_eq_true rfl) (fun _ => t_KT_refused e2) ?_
  refine x_if_eq F.1 (i := 28) (tgt := 57) rfl (by decide) (fun c => ?_) (fun c => ?_)
  · replace h := if_T c h
    refine x_iconst F.1 (i := 31) rfl ic_0 ?_
    refine x_istore F.1 (i := 32) rfl (Nat.le_of_ble_eq_true rfl) (Nat.le_of_ble_eq_true rfl) rfl ?_
    refine x_iconst F.1 (i := 33) rfl ic_0 ?_
    refine x_istore F.1 (i := 34) rfl (Nat.le_of_ble_eq_true rfl) (Nat.le_of_ble_eq_true rfl) rfl ?_
    exact x_wk F.1 ((t_KT_mean_l63 F hQ FU) _ _ _ h) ⟨rfl, rfl, rfl, rfl, rfl, trivial⟩
  · replace h := if_F c h
    refine x_iconst F.1 (i := 29) rfl ic_0 ?_
    exact x_zretf F (i := 30) rfl rfl (Or.inl rfl) h hQ
set_option maxHeartbeats 4000000 in
theorem t_KT_mean {w : kx_W} {d : Nat} {M : kx_M} {Q : Option Value → kx_M → Prop} {p1 : Int32} {p2 : Int32} {r : Int32} {M' : kx_M} (h : f_KT_mean p1 p2 M = some (r, M')) (hQ : Q (some (.int r)) M') : Ct w (d + 6) m_KT_mean [.ref 0, .int p1, .int p2] M Q := by
  refine mk_ct ok_KT_mean (Nat.le_of_ble_eq_true rfl) (fun G F => ?_)
  rw [f_KT_mean] at h
  show G 0 [some (.ref 0), some (.int p1), some (.int p2), none, none, none, none] [] M
  refine x_iconst F.1 (i := 0) rfl ic_0 ?_
  refine x_istore_n F.1 (i := 1) rfl (Nat.le_of_ble_eq_true rfl) (Nat.le_of_ble_eq_true rfl) rfl ?_
  refine x_iload_n F.1 (i := 2) rfl rfl ?_
  refine x_if_lt F.1 (i := 3) (tgt := 26) rfl (by decide) (fun c => ?_) (fun c => ?_)
  · replace h := if_T c h
    refine x_iconst F.1 (i := 15) rfl ic_5 ?_
    refine x_istore_n F.1 (i := 16) rfl (Nat.le_of_ble_eq_true rfl) (Nat.le_of_ble_eq_true rfl) rfl ?_
    refine x_goto F.1 (i := 17) (tgt := 47) rfl (by decide) ?_
    exact x_wk F.1 ((t_KT_mean_l47 F (res := (r, M')) hQ) _ _ h) ⟨rfl, rfl, rfl, rfl, trivial⟩
  · replace h := if_F c h
    refine x_iload_n F.1 (i := 4) rfl rfl ?_
    refine x_iconst F.1 (i := 5) rfl ic_1 ?_
    refine x_icmp_lt F.1 (i := 6) (tgt := 26) rfl (by decide) (fun c => ?_) (fun c => ?_)
    · replace h := if_T c h
      refine x_iconst F.1 (i := 15) rfl ic_5 ?_
      refine x_istore_n F.1 (i := 16) rfl (Nat.le_of_ble_eq_true rfl) (Nat.le_of_ble_eq_true rfl) rfl ?_
      refine x_goto F.1 (i := 17) (tgt := 47) rfl (by decide) ?_
      exact x_wk F.1 ((t_KT_mean_l47 F (res := (r, M')) hQ) _ _ h) ⟨rfl, rfl, rfl, rfl, trivial⟩
    · replace h := if_F c h
      refine x_iload_n F.1 (i := 7) rfl rfl ?_
      refine x_bipush F.1 (i := 8) rfl bp_20 ?_
      refine x_icmp_gt F.1 (i := 9) (tgt := 26) rfl (by decide) (fun c => ?_) (fun c => ?_)
      · replace h := if_T c h
        refine x_iconst F.1 (i := 15) rfl ic_5 ?_
        refine x_istore_n F.1 (i := 16) rfl (Nat.le_of_ble_eq_true rfl) (Nat.le_of_ble_eq_true rfl) rfl ?_
        refine x_goto F.1 (i := 17) (tgt := 47) rfl (by decide) ?_
        exact x_wk F.1 ((t_KT_mean_l47 F (res := (r, M')) hQ) _ _ h) ⟨rfl, rfl, rfl, rfl, trivial⟩
      · replace h := if_F c h
        refine x_iload_n F.1 (i := 10) rfl rfl ?_
        refine x_sipush F.1 (i := 11) rfl sp_10000 ?_
        refine x_iload_n F.1 (i := 12) rfl rfl ?_
        refine x_isub F.1 (i := 13) rfl ?_
        refine x_icmp_le F.1 (i := 14) (tgt := 31) rfl (by decide) (fun c => ?_) (fun c => ?_)
        · replace h := if_T c h
          refine x_aload_n F.1 (i := 18) rfl rfl ?_
          refine x_getR F.1 (i := 19) rfl fl_KT_64 rfl (by rfl) rfl ?_
          refine gd_e h (fun g1 h => ?_)
          replace h := bd_e h
          refine x_getC F.1 (i := 20) rfl fl_KT_165 (lk_State g1) (by rfl) ?_
          refine x_getI F.1 (i := 21) rfl fl_KT_425 (lk_Script (lD_State_script g1)) (by rfl) ?_
          refine x_if_ne F.1 (i := 22) (tgt := 47) rfl (by decide) (fun c => ?_) (fun c => ?_)
          · replace h := if_F c h
            exact x_wk F.1 ((t_KT_mean_l47 F (res := (r, M')) hQ) _ _ h) ⟨rfl, rfl, rfl, rfl, trivial⟩
          · replace h := if_T c h
            refine x_bipush F.1 (i := 23) rfl bp_8 ?_
            refine x_istore_n F.1 (i := 24) rfl (Nat.le_of_ble_eq_true rfl) (Nat.le_of_ble_eq_true rfl) rfl ?_
            exact x_wk F.1 ((t_KT_mean_l47 F (res := (r, M')) hQ) _ _ h) ⟨rfl, rfl, rfl, rfl, trivial⟩
        · replace h := if_F c h
          refine x_iconst F.1 (i := 15) rfl ic_5 ?_
          refine x_istore_n F.1 (i := 16) rfl (Nat.le_of_ble_eq_true rfl) (Nat.le_of_ble_eq_true rfl) rfl ?_
          refine x_goto F.1 (i := 17) (tgt := 47) rfl (by decide) ?_
          exact x_wk F.1 ((t_KT_mean_l47 F (res := (r, M')) hQ) _ _ h) ⟨rfl, rfl, rfl, rfl, trivial⟩
set_option maxHeartbeats 4000000 in
theorem t_Deal_copyFrom {w : kx_W} {d : Nat} {M : kx_M} {Q : Option Value → kx_M → Prop} {p0 : Nat} {p1 : Nat} {r : Unit} {M' : kx_M} (hp0 : isDeal p0 = true) (hp1 : isDeal p1 = true) (h : f_Deal_copyFrom p0 p1 M = some (r, M')) (hQ : Q none M') : Ct w (d + 1) m_Deal_copyFrom [.ref p0, .ref p1] M Q := by
  refine mk_ct ok_Deal_copyFrom (Nat.le_of_ble_eq_true rfl) (fun G F => ?_)
  rw [f_Deal_copyFrom] at h
  show G 0 [some (.ref p0), some (.ref p1)] [] M
  refine x_aload_n F.1 (i := 0) rfl rfl ?_
  refine x_aload_n F.1 (i := 1) rfl rfl ?_
  refine x_getI F.1 (i := 2) rfl fl_Deal_34 (lk_Deal hp1) (by rfl) ?_
  refine x_putI F.1 (i := 3) rfl fl_Deal_34 pf_Deal_queens (lk_Deal hp0) (by rfl) ?_
  replace h := bd_e h
  refine x_aload_n F.1 (i := 4) rfl rfl ?_
  refine x_aload_n F.1 (i := 5) rfl rfl ?_
  refine x_getI F.1 (i := 6) rfl fl_Deal_38 (lk_Deal hp1) (by rfl) ?_
  refine x_putI F.1 (i := 7) rfl fl_Deal_38 pf_Deal_clauses (lk_Deal hp0) (by rfl) ?_
  replace h := bd_e h
  refine x_aload_n F.1 (i := 8) rfl rfl ?_
  refine x_getC F.1 (i := 9) rfl fl_Deal_9 (lk_Deal hp1) (by rfl) ?_
  refine x_iconst F.1 (i := 10) rfl ic_0 ?_
  refine x_aload_n F.1 (i := 11) rfl rfl ?_
  refine x_getC F.1 (i := 12) rfl fl_Deal_9 (lk_Deal hp0) (by rfl) ?_
  refine x_iconst F.1 (i := 13) rfl ic_0 ?_
  refine x_iconst F.1 (i := 14) rfl ic_4 ?_
  refine x_copyi F.1 (i := 15) rfl jm_Deal_47 (lk_Deal_wools hp1) (lk_Deal_wools hp0) (by decide) (by decide) (by decide) (by decide) (by decide) (Nat.le_of_ble_eq_true rfl) ?_
  replace h := bd_e h
  refine x_aload_n F.1 (i := 16) rfl rfl ?_
  refine x_getC F.1 (i := 17) rfl fl_Deal_15 (lk_Deal hp1) (by rfl) ?_
  refine x_iconst F.1 (i := 18) rfl ic_0 ?_
  refine x_aload_n F.1 (i := 19) rfl rfl ?_
  refine x_getC F.1 (i := 20) rfl fl_Deal_15 (lk_Deal hp0) (by rfl) ?_
  refine x_iconst F.1 (i := 21) rfl ic_0 ?_
  refine x_iconst F.1 (i := 22) rfl ic_4 ?_
  refine x_copyl F.1 (i := 23) rfl jm_Deal_47 (lk_Deal_queenNames hp1) (lk_Deal_queenNames hp0) (by decide) (by decide) (by decide) (by decide) (by decide) (Nat.le_of_ble_eq_true rfl) ?_
  replace h := bd_e h
  refine x_aload_n F.1 (i := 24) rfl rfl ?_
  refine x_getC F.1 (i := 25) rfl fl_Deal_19 (lk_Deal hp1) (by rfl) ?_
  refine x_iconst F.1 (i := 26) rfl ic_0 ?_
  refine x_aload_n F.1 (i := 27) rfl rfl ?_
  refine x_getC F.1 (i := 28) rfl fl_Deal_19 (lk_Deal hp0) (by rfl) ?_
  refine x_iconst F.1 (i := 29) rfl ic_0 ?_
  refine x_bipush F.1 (i := 30) rfl bp_6 ?_
  refine x_copyl F.1 (i := 31) rfl jm_Deal_47 (lk_Deal_clauseNames hp1) (lk_Deal_clauseNames hp0) (by decide) (by decide) (by decide) (by decide) (by decide) (Nat.le_of_ble_eq_true rfl) ?_
  replace h := bd_e h
  refine x_aload_n F.1 (i := 32) rfl rfl ?_
  refine x_getC F.1 (i := 33) rfl fl_Deal_22 (lk_Deal hp1) (by rfl) ?_
  refine x_iconst F.1 (i := 34) rfl ic_0 ?_
  refine x_aload_n F.1 (i := 35) rfl rfl ?_
  refine x_getC F.1 (i := 36) rfl fl_Deal_22 (lk_Deal hp0) (by rfl) ?_
  refine x_iconst F.1 (i := 37) rfl ic_0 ?_
  refine x_bipush F.1 (i := 38) rfl bp_6 ?_
  refine x_copyi F.1 (i := 39) rfl jm_Deal_47 (lk_Deal_lengths hp1) (lk_Deal_lengths hp0) (by decide) (by decide) (by decide) (by decide) (by decide) (Nat.le_of_ble_eq_true rfl) ?_
  replace h := bd_e h
  refine x_aload_n F.1 (i := 40) rfl rfl ?_
  refine x_getC F.1 (i := 41) rfl fl_Deal_25 (lk_Deal hp1) (by rfl) ?_
  refine x_iconst F.1 (i := 42) rfl ic_0 ?_
  refine x_aload_n F.1 (i := 43) rfl rfl ?_
  refine x_getC F.1 (i := 44) rfl fl_Deal_25 (lk_Deal hp0) (by rfl) ?_
  refine x_iconst F.1 (i := 45) rfl ic_0 ?_
  refine x_bipush F.1 (i := 46) rfl bp_30 ?_
  refine x_copyi F.1 (i := 47) rfl jm_Deal_47 (lk_Deal_kinds hp1) (lk_Deal_kinds hp0) (by decide) (by decide) (by decide) (by decide) (by decide) (Nat.le_of_ble_eq_true rfl) ?_
  replace h := bd_e h
  refine x_aload_n F.1 (i := 48) rfl rfl ?_
  refine x_getC F.1 (i := 49) rfl fl_Deal_28 (lk_Deal hp1) (by rfl) ?_
  refine x_iconst F.1 (i := 50) rfl ic_0 ?_
  refine x_aload_n F.1 (i := 51) rfl rfl ?_
  refine x_getC F.1 (i := 52) rfl fl_Deal_28 (lk_Deal hp0) (by rfl) ?_
  refine x_iconst F.1 (i := 53) rfl ic_0 ?_
  refine x_bipush F.1 (i := 54) rfl bp_36 ?_
  refine x_copyi F.1 (i := 55) rfl jm_Deal_47 (lk_Deal_quarrels hp1) (lk_Deal_quarrels hp0) (by decide) (by decide) (by decide) (by decide) (by decide) (Nat.le_of_ble_eq_true rfl) ?_
  replace h := bd_e h
  refine x_aload_n F.1 (i := 56) rfl rfl ?_
  refine x_getC F.1 (i := 57) rfl fl_Deal_31 (lk_Deal hp1) (by rfl) ?_
  refine x_iconst F.1 (i := 58) rfl ic_0 ?_
  refine x_aload_n F.1 (i := 59) rfl rfl ?_
  refine x_getC F.1 (i := 60) rfl fl_Deal_31 (lk_Deal hp0) (by rfl) ?_
  refine x_iconst F.1 (i := 61) rfl ic_0 ?_
  refine x_bipush F.1 (i := 62) rfl bp_48 ?_
  refine x_copyi F.1 (i := 63) rfl jm_Deal_47 (lk_Deal_worths hp1) (lk_Deal_worths hp0) (by decide) (by decide) (by decide) (by decide) (by decide) (Nat.le_of_ble_eq_true rfl) ?_
  replace h := bd_e h
  exact x_vretf F (i := 64) rfl rfl h (res := (r, M')) hQ
set_option maxHeartbeats 4000000 in
theorem t_State_copyFrom {w : kx_W} {d : Nat} {M : kx_M} {Q : Option Value → kx_M → Prop} {p0 : Nat} {p1 : Nat} {r : Unit} {M' : kx_M} (hp0 : isState p0 = true) (hp1 : isState p1 = true) (h : f_State_copyFrom p0 p1 M = some (r, M')) (hQ : Q none M') : Ct w (d + 2) m_State_copyFrom [.ref p0, .ref p1] M Q := by
  refine mk_ct ok_State_copyFrom (Nat.le_of_ble_eq_true rfl) (fun G F => ?_)
  rw [f_State_copyFrom] at h
  show G 0 [some (.ref p0), some (.ref p1)] [] M
  refine x_aload_n F.1 (i := 0) rfl rfl ?_
  refine x_getC F.1 (i := 1) rfl fl_State_10 (lk_State hp0) (by rfl) ?_
  refine x_aload_n F.1 (i := 2) rfl rfl ?_
  refine x_getC F.1 (i := 3) rfl fl_State_10 (lk_State hp1) (by rfl) ?_
  refine cal_e h (fun r1 M1 e2 h => ?_)
  refine x_cV1v F.1 (i := 4) rfl ml_State_35 ok_Deal_copyFrom (lk_Deal (lD_State_deal hp0)) (Nat.le_of_ble_eq_true rfl) (Nat.le_of_ble_eq_true rfl) (fun _ => t_Deal_copyFrom (lD_State_deal hp0) (lD_State_deal hp1) e2) ?_
  refine x_aload_n F.1 (i := 5) rfl rfl ?_
  refine x_getC F.1 (i := 6) rfl fl_State_19 (lk_State hp0) (by rfl) ?_
  refine x_aload_n F.1 (i := 7) rfl rfl ?_
  refine x_getC F.1 (i := 8) rfl fl_State_19 (lk_State hp1) (by rfl) ?_
  refine cal_e h (fun r3 M2 e4 h => ?_)
  refine x_cV1v F.1 (i := 9) rfl ml_State_39 ok_Cloth_copyFrom (lk_Cloth (lD_State_cloth hp0)) (Nat.le_of_ble_eq_true rfl) (Nat.le_of_ble_eq_true rfl) (fun _ => t_Cloth_copyFrom (lD_State_cloth hp0) (lD_State_cloth hp1) e4) ?_
  refine x_aload_n F.1 (i := 10) rfl rfl ?_
  refine x_getC F.1 (i := 11) rfl fl_State_26 (lk_State hp0) (by rfl) ?_
  refine x_aload_n F.1 (i := 12) rfl rfl ?_
  refine x_getC F.1 (i := 13) rfl fl_State_26 (lk_State hp1) (by rfl) ?_
  refine cal_e h (fun r5 M3 e6 h => ?_)
  refine x_cV1v F.1 (i := 14) rfl ml_State_42 ok_Script_copyFrom (lk_Script (lD_State_script hp0)) (Nat.le_of_ble_eq_true rfl) (Nat.le_of_ble_eq_true rfl) (fun _ => t_Script_copyFrom (lD_State_script hp0) (lD_State_script hp1) e6) ?_
  exact x_vretf F (i := 15) rfl rfl h (res := (r, M')) hQ
set_option maxHeartbeats 4000000 in
theorem t_KT_mark_l15 {w : kx_W} {d : Nat} {Q : Option Value → kx_M → Prop} {G : Nat → List (Option Value) → List Value → kx_M → Prop} (F : Sd w (d + 3) m_KT_mark Q G) {res : Int32 × kx_M} (hQ : Q (some (.int res.1)) res.2) :
    ∀ (s0 : Nat) (s1 : Int32) (M : kx_M),
    f_KT_mark_l15 s0 s1 M = some res → G 15 [some (.ref 0)] [.int s1, .ref 0] M := by
  intro s0 s1 M h
  rw [f_KT_mark_l15] at h
  refine cal_e h (fun r1 M1 e2 h => ?_)
  refine x_cV1i F.1 (i := 8) rfl ml_KT_103 ok_KT_refused rfl (Nat.le_of_ble_eq_true rfl) (Nat.le_of_ble_eq_true rfl) (fun _ => t_KT_refused e2) ?_
  refine x_if_eq F.1 (i := 9) (tgt := 23) rfl (by decide) (fun c => ?_) (fun c => ?_)
  · replace h := if_T c h
    refine x_aload_n F.1 (i := 12) rfl rfl ?_
    refine x_getC F.1 (i := 13) rfl fl_KT_21 rfl (by rfl) ?_
    refine x_aload_n F.1 (i := 14) rfl rfl ?_
    refine x_getI F.1 (i := 15) rfl fl_KT_75 rfl (by rfl) ?_
    refine gd_e h (fun g3 h => ?_)
    refine x_kept F.1 (i := 16) rfl g3 ?_
    refine x_aload_n F.1 (i := 17) rfl rfl ?_
    refine x_getR F.1 (i := 18) rfl fl_KT_64 rfl (by rfl) rfl ?_
    refine gd_e h (fun g4 h => ?_)
    replace h := bd_e h
    refine cal_e h (fun r6 M2 e7 h => ?_)
    refine x_cV1v F.1 (i := 19) rfl ml_KT_447 ok_State_copyFrom (lk_State (isState_of g3)) (Nat.le_of_ble_eq_true rfl) (Nat.le_of_ble_eq_true rfl) (fun _ => t_State_copyFrom (isState_of g3) g4 e7) ?_
    refine x_aload_n F.1 (i := 20) rfl rfl ?_
    refine x_dup F.1 (i := 21) rfl rfl ?_
    refine x_getI F.1 (i := 22) rfl fl_KT_75 rfl (by rfl) ?_
    refine x_iconst F.1 (i := 23) rfl ic_1 ?_
    refine x_iadd F.1 (i := 24) rfl ?_
    refine x_putI F.1 (i := 25) rfl fl_KT_75 pf_KT_marks rfl (by rfl) ?_
    replace h := bd_e h
    refine x_aload_n F.1 (i := 26) rfl rfl ?_
    refine x_getI F.1 (i := 27) rfl fl_KT_75 rfl (by rfl) ?_
    exact x_iretf F (i := 28) rfl rfl h hQ
  · replace h := if_F c h
    refine x_iconst F.1 (i := 10) rfl ic_n1 ?_
    exact x_iretf F (i := 11) rfl rfl h hQ
set_option maxHeartbeats 4000000 in
theorem t_KT_mark {w : kx_W} {d : Nat} {M : kx_M} {Q : Option Value → kx_M → Prop} {r : Int32} {M' : kx_M} (h : f_KT_mark M = some (r, M')) (hQ : Q (some (.int r)) M') : Ct w (d + 3) m_KT_mark [.ref 0] M Q := by
  refine mk_ct ok_KT_mark (Nat.le_of_ble_eq_true rfl) (fun G F => ?_)
  rw [f_KT_mark] at h
  show G 0 [some (.ref 0)] [] M
  refine x_aload_n F.1 (i := 0) rfl rfl ?_
  refine x_aload_n F.1 (i := 1) rfl rfl ?_
  refine x_getI F.1 (i := 2) rfl fl_KT_75 rfl (by rfl) ?_
  refine x_iconst F.1 (i := 3) rfl ic_3 ?_
  refine x_icmp_lt F.1 (i := 4) (tgt := 14) rfl (by decide) (fun c => ?_) (fun c => ?_)
  · replace h := if_T c h
    refine x_iconst F.1 (i := 7) rfl ic_0 ?_
    exact x_wk F.1 ((t_KT_mark_l15 F (res := (r, M')) hQ) _ _ _ h) ⟨rfl, trivial⟩
  · replace h := if_F c h
    refine x_bipush F.1 (i := 5) rfl bp_7 ?_
    refine x_goto F.1 (i := 6) (tgt := 15) rfl (by decide) ?_
    exact x_wk F.1 ((t_KT_mark_l15 F (res := (r, M')) hQ) _ _ _ h) ⟨rfl, trivial⟩
set_option maxHeartbeats 4000000 in
theorem t_KT_back_l14 {w : kx_W} {d : Nat} {Q : Option Value → kx_M → Prop} {G : Nat → List (Option Value) → List Value → kx_M → Prop} (F : Sd w (d + 3) m_KT_back Q G) {res : Int32 × kx_M} (hQ : Q (some (.int res.1)) res.2) :
    ∀ (s0 : Nat) (s1 : Int32) (M : kx_M),
    f_KT_back_l14 s0 s1 M = some res → G 14 [some (.ref 0)] [.int s1, .ref 0] M := by
  intro s0 s1 M h
  rw [f_KT_back_l14] at h
  refine cal_e h (fun r1 M1 e2 h => ?_)
  refine x_cV1i F.1 (i := 7) rfl ml_KT_103 ok_KT_refused rfl (Nat.le_of_ble_eq_true rfl) (Nat.le_of_ble_eq_true rfl) (fun _ => t_KT_refused e2) ?_
  refine x_if_eq F.1 (i := 8) (tgt := 22) rfl (by decide) (fun c => ?_) (fun c => ?_)
  · replace h := if_T c h
    refine x_aload_n F.1 (i := 11) rfl rfl ?_
    refine x_dup F.1 (i := 12) rfl rfl ?_
    refine x_getI F.1 (i := 13) rfl fl_KT_75 rfl (by rfl) ?_
    refine x_iconst F.1 (i := 14) rfl ic_1 ?_
    refine x_isub F.1 (i := 15) rfl ?_
    refine x_putI F.1 (i := 16) rfl fl_KT_75 pf_KT_marks rfl (by rfl) ?_
    replace h := bd_e h
    refine x_aload_n F.1 (i := 17) rfl rfl ?_
    refine x_getR F.1 (i := 18) rfl fl_KT_64 rfl (by rfl) rfl ?_
    refine gd_e h (fun g3 h => ?_)
    replace h := bd_e h
    refine x_aload_n F.1 (i := 19) rfl rfl ?_
    refine x_getC F.1 (i := 20) rfl fl_KT_21 rfl (by rfl) ?_
    refine x_aload_n F.1 (i := 21) rfl rfl ?_
    refine x_getI F.1 (i := 22) rfl fl_KT_75 rfl (by rfl) ?_
    refine gd_e h (fun g5 h => ?_)
    refine x_kept F.1 (i := 23) rfl g5 ?_
    refine cal_e h (fun r6 M3 e7 h => ?_)
    refine x_cV1v F.1 (i := 24) rfl ml_KT_447 ok_State_copyFrom (lk_State g3) (Nat.le_of_ble_eq_true rfl) (Nat.le_of_ble_eq_true rfl) (fun _ => t_State_copyFrom g3 (isState_of g5) e7) ?_
    refine x_aload_n F.1 (i := 25) rfl rfl ?_
    refine x_getI F.1 (i := 26) rfl fl_KT_75 rfl (by rfl) ?_
    exact x_iretf F (i := 27) rfl rfl h hQ
  · replace h := if_F c h
    refine x_iconst F.1 (i := 9) rfl ic_n1 ?_
    exact x_iretf F (i := 10) rfl rfl h hQ
set_option maxHeartbeats 4000000 in
theorem t_KT_back {w : kx_W} {d : Nat} {M : kx_M} {Q : Option Value → kx_M → Prop} {r : Int32} {M' : kx_M} (h : f_KT_back M = some (r, M')) (hQ : Q (some (.int r)) M') : Ct w (d + 3) m_KT_back [.ref 0] M Q := by
  refine mk_ct ok_KT_back (Nat.le_of_ble_eq_true rfl) (fun G F => ?_)
  rw [f_KT_back] at h
  show G 0 [some (.ref 0)] [] M
  refine x_aload_n F.1 (i := 0) rfl rfl ?_
  refine x_aload_n F.1 (i := 1) rfl rfl ?_
  refine x_getI F.1 (i := 2) rfl fl_KT_75 rfl (by rfl) ?_
  refine x_if_ne F.1 (i := 3) (tgt := 13) rfl (by decide) (fun c => ?_) (fun c => ?_)
  · replace h := if_F c h
    refine x_iconst F.1 (i := 6) rfl ic_0 ?_
    exact x_wk F.1 ((t_KT_back_l14 F (res := (r, M')) hQ) _ _ _ h) ⟨rfl, trivial⟩
  · replace h := if_T c h
    refine x_bipush F.1 (i := 4) rfl bp_8 ?_
    refine x_goto F.1 (i := 5) (tgt := 14) rfl (by decide) ?_
    exact x_wk F.1 ((t_KT_back_l14 F (res := (r, M')) hQ) _ _ _ h) ⟨rfl, trivial⟩
set_option maxHeartbeats 4000000 in
theorem t_RM_status {w : kx_W} {d : Nat} {M : kx_M} {Q : Option Value → kx_M → Prop} {r : Int32} {M' : kx_M} (h : f_RM_status M = some (r, M')) (hQ : Q (some (.int r)) M') : Ct w d m_RM_status [.ref 135] M Q := by
  refine mk_ct ok_RM_status (Nat.le_of_ble_eq_true rfl) (fun G F => ?_)
  rw [f_RM_status] at h
  show G 0 [some (.ref 135)] [] M
  refine x_aload_n F.1 (i := 0) rfl rfl ?_
  refine x_iconst F.1 (i := 1) rfl ic_0 ?_
  refine x_putI F.1 (i := 2) rfl fl_RM_68 pf_RM_thrown rfl (by rfl) ?_
  replace h := bd_e h
  refine x_aload_n F.1 (i := 3) rfl rfl ?_
  refine x_getI F.1 (i := 4) rfl fl_RM_71 rfl (by rfl) ?_
  exact x_iretf F (i := 5) rfl rfl h (res := (r, M')) hQ
set_option maxHeartbeats 4000000 in
theorem t_RM_top {w : kx_W} {d : Nat} {M : kx_M} {Q : Option Value → kx_M → Prop} {r : Int64} {M' : kx_M} (h : f_RM_top M = some (r, M')) (hQ : Q (some (.long r)) M') : Ct w d m_RM_top [.ref 135] M Q := by
  refine mk_ct ok_RM_top (Nat.le_of_ble_eq_true rfl) (fun G F => ?_)
  rw [f_RM_top] at h
  show G 0 [some (.ref 135)] [] M
  refine x_aload_n F.1 (i := 0) rfl rfl ?_
  refine x_iconst F.1 (i := 1) rfl ic_0 ?_
  refine x_putI F.1 (i := 2) rfl fl_RM_68 pf_RM_thrown rfl (by rfl) ?_
  replace h := bd_e h
  refine x_aload_n F.1 (i := 3) rfl rfl ?_
  refine x_getJ F.1 (i := 4) rfl fl_RM_74 rfl (by rfl) ?_
  exact x_lretf F (i := 5) rfl rfl h (res := (r, M')) hQ
set_option maxHeartbeats 4000000 in
theorem t_RM_bottom {w : kx_W} {d : Nat} {M : kx_M} {Q : Option Value → kx_M → Prop} {r : Int64} {M' : kx_M} (h : f_RM_bottom M = some (r, M')) (hQ : Q (some (.long r)) M') : Ct w d m_RM_bottom [.ref 135] M Q := by
  refine mk_ct ok_RM_bottom (Nat.le_of_ble_eq_true rfl) (fun G F => ?_)
  rw [f_RM_bottom] at h
  show G 0 [some (.ref 135)] [] M
  refine x_aload_n F.1 (i := 0) rfl rfl ?_
  refine x_iconst F.1 (i := 1) rfl ic_0 ?_
  refine x_putI F.1 (i := 2) rfl fl_RM_68 pf_RM_thrown rfl (by rfl) ?_
  replace h := bd_e h
  refine x_aload_n F.1 (i := 3) rfl rfl ?_
  refine x_getJ F.1 (i := 4) rfl fl_RM_7 rfl (by rfl) ?_
  exact x_lretf F (i := 5) rfl rfl h (res := (r, M')) hQ
set_option maxHeartbeats 4000000 in
theorem t_RM_no {w : kx_W} {d : Nat} {M : kx_M} {Q : Option Value → kx_M → Prop} {p1 : Int32} {r : Int32} {M' : kx_M} (h : f_RM_no p1 M = some (r, M')) (hQ : Q (some (.int r)) M') : Ct w d m_RM_no [.ref 135, .int p1] M Q := by
  refine mk_ct ok_RM_no (Nat.le_of_ble_eq_true rfl) (fun G F => ?_)
  rw [f_RM_no] at h
  show G 0 [some (.ref 135), some (.int p1)] [] M
  refine x_aload_n F.1 (i := 0) rfl rfl ?_
  refine x_iload_n F.1 (i := 1) rfl rfl ?_
  refine x_putI F.1 (i := 2) rfl fl_RM_71 pf_RM_status rfl (by rfl) ?_
  replace h := bd_e h
  refine x_iconst F.1 (i := 3) rfl ic_0 ?_
  exact x_zretf F (i := 4) rfl rfl (Or.inl rfl) h (res := (r, M')) hQ
set_option maxHeartbeats 4000000 in
theorem t_RM_tray_l74 {w : kx_W} {d : Nat} {Q : Option Value → kx_M → Prop} {G : Nat → List (Option Value) → List Value → kx_M → Prop} (F : Sd w (d + 1) m_RM_tray Q G) {p1 : Int32} {p2 : Int32} {p3 : Int32} {res : Int32 × kx_M} (hQ : Q (some (.int res.1)) res.2) :
    ∀ (n : Nat) (x4 : Int32) (M : kx_M),
    f_RM_tray_l74 p1 p2 p3 n x4 M = some res → G 74 [some (.ref 135), some (.int p1), none, some (.int p3), some (.int x4)] [] M := by
  intro n
  induction n with
  | zero =>
    intro x4 M h
    exact absurd h (by rw [f_RM_tray_l74]; exact fun z => nomatch z)
  | succ n ih =>
    intro x4 M h
    rw [f_RM_tray_l74] at h
    refine x_iload F.1 (i := 45) rfl rfl ?_
    refine x_iload_n F.1 (i := 46) rfl rfl ?_
    refine x_icmp_ge F.1 (i := 47) (tgt := 99) rfl (by decide) (fun c => ?_) (fun c => ?_)
    · replace h := if_T c h
      refine x_iconst F.1 (i := 59) rfl ic_1 ?_
      exact x_zretf F (i := 60) rfl rfl (Or.inr rfl) h hQ
    · replace h := if_F c h
      refine x_aload_n F.1 (i := 48) rfl rfl ?_
      refine x_getC F.1 (i := 49) rfl fl_RM_20 rfl (by rfl) ?_
      refine x_bipush F.1 (i := 50) rfl bp_60 ?_
      refine x_iload_n F.1 (i := 51) rfl rfl ?_
      refine x_imul F.1 (i := 52) rfl ?_
      refine x_iload F.1 (i := 53) rfl rfl ?_
      refine x_iadd F.1 (i := 54) rfl ?_
      refine x_lconst F.1 (i := 55) (v := 0) rfl rfl ?_
      refine gd_e h (fun g1 h => ?_)
      refine x_last F.1 (i := 56) rfl rfl (inb_e g1) ?_
      replace h := bd_e h
      refine x_iinc F.1 (i := 57) rfl rfl rfl (Nat.le_of_ble_eq_true rfl) rfl ?_
      replace h := bd_e h
      refine x_goto F.1 (i := 58) (tgt := 74) rfl (by decide) ?_
      exact x_wk F.1 (ih _ _ h) ⟨rfl, rfl, rfl, rfl, trivial⟩
set_option maxHeartbeats 4000000 in
theorem t_RM_tray {w : kx_W} {d : Nat} {M : kx_M} {Q : Option Value → kx_M → Prop} {p1 : Int32} {p2 : Int32} {p3 : Int32} {r : Int32} {M' : kx_M} (h : f_RM_tray p1 p2 p3 M = some (r, M')) (hQ : Q (some (.int r)) M') : Ct w (d + 1) m_RM_tray [.ref 135, .int p1, .int p2, .int p3] M Q := by
  refine mk_ct ok_RM_tray (Nat.le_of_ble_eq_true rfl) (fun G F => ?_)
  rw [f_RM_tray] at h
  show G 0 [some (.ref 135), some (.int p1), some (.int p2), some (.int p3), none] [] M
  refine x_aload_n F.1 (i := 0) rfl rfl ?_
  refine x_iconst F.1 (i := 1) rfl ic_0 ?_
  refine x_putI F.1 (i := 2) rfl fl_RM_68 pf_RM_thrown rfl (by rfl) ?_
  replace h := bd_e h
  refine x_aload_n F.1 (i := 3) rfl rfl ?_
  refine x_iconst F.1 (i := 4) rfl ic_0 ?_
  refine x_putI F.1 (i := 5) rfl fl_RM_71 pf_RM_status rfl (by rfl) ?_
  replace h := bd_e h
  refine x_iload_n F.1 (i := 6) rfl rfl ?_
  refine x_if_lt F.1 (i := 7) (tgt := 28) rfl (by decide) (fun c => ?_) (fun c => ?_)
  · replace h := if_T c h
    refine x_aload_n F.1 (i := 16) rfl rfl ?_
    refine x_iconst F.1 (i := 17) rfl ic_1 ?_
    refine cal_e h (fun r1 M3 e2 h => ?_)
    refine x_cV1i F.1 (i := 18) rfl ml_RM_83 ok_RM_no rfl (Nat.le_of_ble_eq_true rfl) (Nat.le_of_ble_eq_true rfl) (fun _ => t_RM_no e2) ?_
    refine gd_e h (fun g3 h => ?_)
    exact x_zretf F (i := 19) rfl rfl (b01_e g3) h (res := (r, M')) hQ
  · replace h := if_F c h
    refine x_iload_n F.1 (i := 8) rfl rfl ?_
    refine x_iconst F.1 (i := 9) rfl ic_4 ?_
    refine x_icmp_ge F.1 (i := 10) (tgt := 28) rfl (by decide) (fun c => ?_) (fun c => ?_)
    · replace h := if_T c h
      refine x_aload_n F.1 (i := 16) rfl rfl ?_
      refine x_iconst F.1 (i := 17) rfl ic_1 ?_
      refine cal_e h (fun r4 M4 e5 h => ?_)
      refine x_cV1i F.1 (i := 18) rfl ml_RM_83 ok_RM_no rfl (Nat.le_of_ble_eq_true rfl) (Nat.le_of_ble_eq_true rfl) (fun _ => t_RM_no e5) ?_
      refine gd_e h (fun g6 h => ?_)
      exact x_zretf F (i := 19) rfl rfl (b01_e g6) h (res := (r, M')) hQ
    · replace h := if_F c h
      refine x_iload_n F.1 (i := 11) rfl rfl ?_
      refine x_if_lt F.1 (i := 12) (tgt := 28) rfl (by decide) (fun c => ?_) (fun c => ?_)
      · replace h := if_T c h
        refine x_aload_n F.1 (i := 16) rfl rfl ?_
        refine x_iconst F.1 (i := 17) rfl ic_1 ?_
        refine cal_e h (fun r7 M5 e8 h => ?_)
        refine x_cV1i F.1 (i := 18) rfl ml_RM_83 ok_RM_no rfl (Nat.le_of_ble_eq_true rfl) (Nat.le_of_ble_eq_true rfl) (fun _ => t_RM_no e8) ?_
        refine gd_e h (fun g9 h => ?_)
        exact x_zretf F (i := 19) rfl rfl (b01_e g9) h (res := (r, M')) hQ
      · replace h := if_F c h
        refine x_iload_n F.1 (i := 13) rfl rfl ?_
        refine x_iconst F.1 (i := 14) rfl ic_3 ?_
        refine x_icmp_le F.1 (i := 15) (tgt := 34) rfl (by decide) (fun c => ?_) (fun c => ?_)
        · replace h := if_T c h
          refine x_iload_n F.1 (i := 20) rfl rfl ?_
          refine x_bipush F.1 (i := 21) rfl bp_60 ?_
          refine x_icmp_le F.1 (i := 22) (tgt := 46) rfl (by decide) (fun c => ?_) (fun c => ?_)
          · replace h := if_T c h
            refine x_iload_n F.1 (i := 27) rfl rfl ?_
            refine x_if_ge F.1 (i := 28) (tgt := 57) rfl (by decide) (fun c => ?_) (fun c => ?_)
            · replace h := if_T c h
              refine x_aload_n F.1 (i := 33) rfl rfl ?_
              refine x_getC F.1 (i := 34) rfl fl_RM_13 rfl (by rfl) ?_
              refine x_iload_n F.1 (i := 35) rfl rfl ?_
              refine x_iload_n F.1 (i := 36) rfl rfl ?_
              refine gd_e h (fun g10 h => ?_)
              refine x_iast F.1 (i := 37) rfl rfl (inb_e g10) ?_
              replace h := bd_e h
              refine x_aload_n F.1 (i := 38) rfl rfl ?_
              refine x_getC F.1 (i := 39) rfl fl_RM_17 rfl (by rfl) ?_
              refine x_iload_n F.1 (i := 40) rfl rfl ?_
              refine x_iload_n F.1 (i := 41) rfl rfl ?_
              refine gd_e h (fun g11 h => ?_)
              refine x_iast F.1 (i := 42) rfl rfl (inb_e g11) ?_
              replace h := bd_e h
              refine x_iconst F.1 (i := 43) rfl ic_0 ?_
              refine x_istore F.1 (i := 44) rfl (Nat.le_of_ble_eq_true rfl) (Nat.le_of_ble_eq_true rfl) rfl ?_
              exact x_wk F.1 ((t_RM_tray_l74 F (res := (r, M')) hQ FU) _ _ h) ⟨rfl, rfl, rfl, rfl, trivial⟩
            · replace h := if_F c h
              refine x_aload_n F.1 (i := 29) rfl rfl ?_
              refine x_bipush F.1 (i := 30) rfl bp_6 ?_
              refine cal_e h (fun r12 M8 e13 h => ?_)
              refine x_cV1i F.1 (i := 31) rfl ml_RM_83 ok_RM_no rfl (Nat.le_of_ble_eq_true rfl) (Nat.le_of_ble_eq_true rfl) (fun _ => t_RM_no e13) ?_
              refine gd_e h (fun g14 h => ?_)
              exact x_zretf F (i := 32) rfl rfl (b01_e g14) h (res := (r, M')) hQ
          · replace h := if_F c h
            refine x_aload_n F.1 (i := 23) rfl rfl ?_
            refine x_iconst F.1 (i := 24) rfl ic_5 ?_
            refine cal_e h (fun r15 M9 e16 h => ?_)
            refine x_cV1i F.1 (i := 25) rfl ml_RM_83 ok_RM_no rfl (Nat.le_of_ble_eq_true rfl) (Nat.le_of_ble_eq_true rfl) (fun _ => t_RM_no e16) ?_
            refine gd_e h (fun g17 h => ?_)
            exact x_zretf F (i := 26) rfl rfl (b01_e g17) h (res := (r, M')) hQ
        · replace h := if_F c h
          refine x_aload_n F.1 (i := 16) rfl rfl ?_
          refine x_iconst F.1 (i := 17) rfl ic_1 ?_
          refine cal_e h (fun r18 M10 e19 h => ?_)
          refine x_cV1i F.1 (i := 18) rfl ml_RM_83 ok_RM_no rfl (Nat.le_of_ble_eq_true rfl) (Nat.le_of_ble_eq_true rfl) (fun _ => t_RM_no e19) ?_
          refine gd_e h (fun g20 h => ?_)
          exact x_zretf F (i := 19) rfl rfl (b01_e g20) h (res := (r, M')) hQ
set_option maxHeartbeats 4000000 in
theorem t_RM_trayed {w : kx_W} {d : Nat} {M : kx_M} {Q : Option Value → kx_M → Prop} {p1 : Int32} {r : Int32} {M' : kx_M} (h : f_RM_trayed p1 M = some (r, M')) (hQ : Q (some (.int r)) M') : Ct w d m_RM_trayed [.ref 135, .int p1] M Q := by
  refine mk_ct ok_RM_trayed (Nat.le_of_ble_eq_true rfl) (fun G F => ?_)
  rw [f_RM_trayed] at h
  show G 0 [some (.ref 135), some (.int p1)] [] M
  refine x_iload_n F.1 (i := 0) rfl rfl ?_
  refine x_if_lt F.1 (i := 1) (tgt := 9) rfl (by decide) (fun c => ?_) (fun c => ?_)
  · replace h := if_T c h
    refine x_iconst F.1 (i := 5) rfl ic_1 ?_
    refine x_goto F.1 (i := 6) (tgt := 27) rfl (by decide) ?_
    exact x_iretf F (i := 15) rfl rfl h (res := (r, M')) hQ
  · replace h := if_F c h
    refine x_iload_n F.1 (i := 2) rfl rfl ?_
    refine x_iconst F.1 (i := 3) rfl ic_4 ?_
    refine x_icmp_lt F.1 (i := 4) (tgt := 13) rfl (by decide) (fun c => ?_) (fun c => ?_)
    · replace h := if_T c h
      refine x_aload_n F.1 (i := 7) rfl rfl ?_
      refine x_getC F.1 (i := 8) rfl fl_RM_17 rfl (by rfl) ?_
      refine x_iload_n F.1 (i := 9) rfl rfl ?_
      refine gd_e h (fun g1 h => ?_)
      refine x_iald F.1 (i := 10) rfl rfl (inb_e g1) ?_
      refine x_if_ge F.1 (i := 11) (tgt := 26) rfl (by decide) (fun c => ?_) (fun c => ?_)
      · replace h := if_T c h
        refine x_iconst F.1 (i := 14) rfl ic_0 ?_
        exact x_iretf F (i := 15) rfl rfl h (res := (r, M')) hQ
      · replace h := if_F c h
        refine x_iconst F.1 (i := 12) rfl ic_3 ?_
        refine x_goto F.1 (i := 13) (tgt := 27) rfl (by decide) ?_
        exact x_iretf F (i := 15) rfl rfl h (res := (r, M')) hQ
    · replace h := if_F c h
      refine x_iconst F.1 (i := 5) rfl ic_1 ?_
      refine x_goto F.1 (i := 6) (tgt := 27) rfl (by decide) ?_
      exact x_iretf F (i := 15) rfl rfl h (res := (r, M')) hQ
set_option maxHeartbeats 4000000 in
theorem t_RM_placed {w : kx_W} {d : Nat} {M : kx_M} {Q : Option Value → kx_M → Prop} {p1 : Int32} {p2 : Int32} {r : Int32} {M' : kx_M} (h : f_RM_placed p1 p2 M = some (r, M')) (hQ : Q (some (.int r)) M') : Ct w (d + 1) m_RM_placed [.ref 135, .int p1, .int p2] M Q := by
  refine mk_ct ok_RM_placed (Nat.le_of_ble_eq_true rfl) (fun G F => ?_)
  rw [f_RM_placed] at h
  show G 0 [some (.ref 135), some (.int p1), some (.int p2), none] [] M
  refine x_aload_n F.1 (i := 0) rfl rfl ?_
  refine x_iload_n F.1 (i := 1) rfl rfl ?_
  refine cal_e h (fun r1 M1 e2 h => ?_)
  refine x_cV1i F.1 (i := 2) rfl ml_RM_87 ok_RM_trayed rfl (Nat.le_of_ble_eq_true rfl) (Nat.le_of_ble_eq_true rfl) (fun _ => t_RM_trayed e2) ?_
  refine x_istore_n F.1 (i := 3) rfl (Nat.le_of_ble_eq_true rfl) (Nat.le_of_ble_eq_true rfl) rfl ?_
  refine x_iload_n F.1 (i := 4) rfl rfl ?_
  refine x_if_le F.1 (i := 5) (tgt := 14) rfl (by decide) (fun c => ?_) (fun c => ?_)
  · replace h := if_T c h
    refine x_iload_n F.1 (i := 8) rfl rfl ?_
    refine x_if_lt F.1 (i := 9) (tgt := 28) rfl (by decide) (fun c => ?_) (fun c => ?_)
    · replace h := if_T c h
      refine x_iconst F.1 (i := 16) rfl ic_4 ?_
      refine x_goto F.1 (i := 17) (tgt := 33) rfl (by decide) ?_
      exact x_iretf F (i := 19) rfl rfl h (res := (r, M')) hQ
    · replace h := if_F c h
      refine x_iload_n F.1 (i := 10) rfl rfl ?_
      refine x_aload_n F.1 (i := 11) rfl rfl ?_
      refine x_getC F.1 (i := 12) rfl fl_RM_17 rfl (by rfl) ?_
      refine x_iload_n F.1 (i := 13) rfl rfl ?_
      refine gd_e h (fun g3 h => ?_)
      refine x_iald F.1 (i := 14) rfl rfl (inb_e g3) ?_
      refine x_icmp_lt F.1 (i := 15) (tgt := 32) rfl (by decide) (fun c => ?_) (fun c => ?_)
      · replace h := if_T c h
        refine x_iconst F.1 (i := 18) rfl ic_0 ?_
        exact x_iretf F (i := 19) rfl rfl h (res := (r, M')) hQ
      · replace h := if_F c h
        refine x_iconst F.1 (i := 16) rfl ic_4 ?_
        refine x_goto F.1 (i := 17) (tgt := 33) rfl (by decide) ?_
        exact x_iretf F (i := 19) rfl rfl h (res := (r, M')) hQ
  · replace h := if_F c h
    refine x_iload_n F.1 (i := 6) rfl rfl ?_
    refine x_goto F.1 (i := 7) (tgt := 33) rfl (by decide) ?_
    exact x_iretf F (i := 19) rfl rfl h (res := (r, M')) hQ
set_option maxHeartbeats 4000000 in
theorem t_RM_cut {w : kx_W} {d : Nat} {M : kx_M} {Q : Option Value → kx_M → Prop} {p0 : Int32} {p1 : Int64} {r : Int64} {M' : kx_M} (h : f_RM_cut p0 p1 M = some (r, M')) (hQ : Q (some (.long r)) M') : Ct w d m_RM_cut [.int p0, .long p1] M Q := by
  refine mk_ct ok_RM_cut (Nat.le_of_ble_eq_true rfl) (fun G F => ?_)
  rw [f_RM_cut] at h
  show G 0 [some (.int p0), some (.long p1), none] [] M
  refine x_iload_n F.1 (i := 0) rfl rfl ?_
  refine x_if_ne F.1 (i := 1) (tgt := 11) rfl (by decide) (fun c => ?_) (fun c => ?_)
  · replace h := if_F c h
    refine x_iload_n F.1 (i := 7) rfl rfl ?_
    refine x_iconst F.1 (i := 8) rfl ic_1 ?_
    refine x_icmp_ne F.1 (i := 9) (tgt := 23) rfl (by decide) (fun c => ?_) (fun c => ?_)
    · replace h := if_F c h
      refine x_iload_n F.1 (i := 15) rfl rfl ?_
      refine x_iconst F.1 (i := 16) rfl ic_2 ?_
      refine x_icmp_ne F.1 (i := 17) (tgt := 34) rfl (by decide) (fun c => ?_) (fun c => ?_)
      · replace h := if_F c h
        refine x_lload_n F.1 (i := 22) rfl rfl ?_
        exact x_lretf F (i := 23) rfl rfl h (res := (r, M')) hQ
      · replace h := if_T c h
        refine x_lload_n F.1 (i := 18) rfl rfl ?_
        refine x_l2i F.1 (i := 19) rfl ?_
        refine x_i2l F.1 (i := 20) rfl ?_
        refine x_goto F.1 (i := 21) (tgt := 35) rfl (by decide) ?_
        exact x_lretf F (i := 23) rfl rfl h (res := (r, M')) hQ
    · replace h := if_T c h
      refine x_lload_n F.1 (i := 10) rfl rfl ?_
      refine x_l2i F.1 (i := 11) rfl ?_
      refine x_i2s F.1 (i := 12) rfl ?_
      refine x_i2l F.1 (i := 13) rfl ?_
      refine x_goto F.1 (i := 14) (tgt := 35) rfl (by decide) ?_
      exact x_lretf F (i := 23) rfl rfl h (res := (r, M')) hQ
  · replace h := if_T c h
    refine x_lload_n F.1 (i := 2) rfl rfl ?_
    refine x_l2i F.1 (i := 3) rfl ?_
    refine x_i2b F.1 (i := 4) rfl ?_
    refine x_i2l F.1 (i := 5) rfl ?_
    refine x_goto F.1 (i := 6) (tgt := 35) rfl (by decide) ?_
    exact x_lretf F (i := 23) rfl rfl h (res := (r, M')) hQ
set_option maxHeartbeats 4000000 in
theorem t_RM_write {w : kx_W} {d : Nat} {M : kx_M} {Q : Option Value → kx_M → Prop} {p1 : Int32} {p2 : Int32} {p3 : Int64} {r : Int32} {M' : kx_M} (h : f_RM_write p1 p2 p3 M = some (r, M')) (hQ : Q (some (.int r)) M') : Ct w (d + 2) m_RM_write [.ref 135, .int p1, .int p2, .long p3] M Q := by
  refine mk_ct ok_RM_write (Nat.le_of_ble_eq_true rfl) (fun G F => ?_)
  rw [f_RM_write] at h
  show G 0 [some (.ref 135), some (.int p1), some (.int p2), some (.long p3), none] [] M
  refine x_aload_n F.1 (i := 0) rfl rfl ?_
  refine x_iconst F.1 (i := 1) rfl ic_0 ?_
  refine x_putI F.1 (i := 2) rfl fl_RM_68 pf_RM_thrown rfl (by rfl) ?_
  replace h := bd_e h
  refine x_aload_n F.1 (i := 3) rfl rfl ?_
  refine x_aload_n F.1 (i := 4) rfl rfl ?_
  refine x_iload_n F.1 (i := 5) rfl rfl ?_
  refine x_iload_n F.1 (i := 6) rfl rfl ?_
  refine cal_e h (fun r1 M2 e2 h => ?_)
  refine x_cV2i F.1 (i := 7) rfl ml_RM_91 ok_RM_placed rfl (Nat.le_of_ble_eq_true rfl) (Nat.le_of_ble_eq_true rfl) (fun _ => t_RM_placed e2) ?_
  refine x_putI F.1 (i := 8) rfl fl_RM_71 pf_RM_status rfl (by rfl) ?_
  replace h := bd_e h
  refine x_aload_n F.1 (i := 9) rfl rfl ?_
  refine x_getI F.1 (i := 10) rfl fl_RM_71 rfl (by rfl) ?_
  refine x_if_le F.1 (i := 11) (tgt := 24) rfl (by decide) (fun c => ?_) (fun c => ?_)
  · replace h := if_T c h
    refine x_aload_n F.1 (i := 14) rfl rfl ?_
    refine x_getC F.1 (i := 15) rfl fl_RM_20 rfl (by rfl) ?_
    refine x_bipush F.1 (i := 16) rfl bp_60 ?_
    refine x_iload_n F.1 (i := 17) rfl rfl ?_
    refine x_imul F.1 (i := 18) rfl ?_
    refine x_iload_n F.1 (i := 19) rfl rfl ?_
    refine x_iadd F.1 (i := 20) rfl ?_
    refine x_aload_n F.1 (i := 21) rfl rfl ?_
    refine x_getC F.1 (i := 22) rfl fl_RM_13 rfl (by rfl) ?_
    refine x_iload_n F.1 (i := 23) rfl rfl ?_
    refine gd_e h (fun g3 h => ?_)
    refine x_iald F.1 (i := 24) rfl rfl (inb_e g3) ?_
    refine x_lload_n F.1 (i := 25) rfl rfl ?_
    refine cal_e h (fun r4 M4 e5 h => ?_)
    refine x_cS2l F.1 (i := 26) rfl ml_RM_95 ok_RM_cut (Nat.le_of_ble_eq_true rfl) (Nat.le_of_ble_eq_true rfl) (fun _ => t_RM_cut e5) ?_
    refine gd_e h (fun g6 h => ?_)
    refine x_last F.1 (i := 27) rfl rfl (inb_e g6) ?_
    replace h := bd_e h
    refine x_iconst F.1 (i := 28) rfl ic_1 ?_
    exact x_zretf F (i := 29) rfl rfl (Or.inr rfl) h (res := (r, M')) hQ
  · replace h := if_F c h
    refine x_iconst F.1 (i := 12) rfl ic_0 ?_
    exact x_zretf F (i := 13) rfl rfl (Or.inl rfl) h (res := (r, M')) hQ
set_option maxHeartbeats 4000000 in
theorem t_RM_read {w : kx_W} {d : Nat} {M : kx_M} {Q : Option Value → kx_M → Prop} {p1 : Int32} {p2 : Int32} {r : Int64} {M' : kx_M} (h : f_RM_read p1 p2 M = some (r, M')) (hQ : Q (some (.long r)) M') : Ct w (d + 2) m_RM_read [.ref 135, .int p1, .int p2] M Q := by
  refine mk_ct ok_RM_read (Nat.le_of_ble_eq_true rfl) (fun G F => ?_)
  rw [f_RM_read] at h
  show G 0 [some (.ref 135), some (.int p1), some (.int p2)] [] M
  refine x_aload_n F.1 (i := 0) rfl rfl ?_
  refine x_iconst F.1 (i := 1) rfl ic_0 ?_
  refine x_putI F.1 (i := 2) rfl fl_RM_68 pf_RM_thrown rfl (by rfl) ?_
  replace h := bd_e h
  refine x_aload_n F.1 (i := 3) rfl rfl ?_
  refine x_aload_n F.1 (i := 4) rfl rfl ?_
  refine x_iload_n F.1 (i := 5) rfl rfl ?_
  refine x_iload_n F.1 (i := 6) rfl rfl ?_
  refine cal_e h (fun r1 M2 e2 h => ?_)
  refine x_cV2i F.1 (i := 7) rfl ml_RM_91 ok_RM_placed rfl (Nat.le_of_ble_eq_true rfl) (Nat.le_of_ble_eq_true rfl) (fun _ => t_RM_placed e2) ?_
  refine x_putI F.1 (i := 8) rfl fl_RM_71 pf_RM_status rfl (by rfl) ?_
  replace h := bd_e h
  refine x_aload_n F.1 (i := 9) rfl rfl ?_
  refine x_getI F.1 (i := 10) rfl fl_RM_71 rfl (by rfl) ?_
  refine x_if_le F.1 (i := 11) (tgt := 28) rfl (by decide) (fun c => ?_) (fun c => ?_)
  · replace h := if_T c h
    refine x_aload_n F.1 (i := 14) rfl rfl ?_
    refine x_getC F.1 (i := 15) rfl fl_RM_20 rfl (by rfl) ?_
    refine x_bipush F.1 (i := 16) rfl bp_60 ?_
    refine x_iload_n F.1 (i := 17) rfl rfl ?_
    refine x_imul F.1 (i := 18) rfl ?_
    refine x_iload_n F.1 (i := 19) rfl rfl ?_
    refine x_iadd F.1 (i := 20) rfl ?_
    refine gd_e h (fun g3 h => ?_)
    refine x_lald F.1 (i := 21) rfl rfl (inb_e g3) ?_
    exact x_lretf F (i := 22) rfl rfl h (res := (r, M')) hQ
  · replace h := if_F c h
    refine x_ldc2_w F.1 (i := 12) rfl cl_RM_99 ?_
    refine x_goto F.1 (i := 13) (tgt := 39) rfl (by decide) ?_
    exact x_lretf F (i := 22) rfl rfl h (res := (r, M')) hQ
set_option maxHeartbeats 4000000 in
theorem t_RM_pour_l182 {w : kx_W} {d : Nat} {Q : Option Value → kx_M → Prop} {G : Nat → List (Option Value) → List Value → kx_M → Prop} (F : Sd w (d + 1) m_RM_pour Q G) {p1 : Int32} {p2 : Int32} {p3 : Int32} {p4 : Int32} {p5 : Int32} {k158 : Int32 → Int32 → kx_M → Option (Int32 × kx_M)} {res : Int32 × kx_M} (hQ : Q (some (.int res.1)) res.2) (hk158 : ∀ (x6 : Int32) (x7 : Int32) (M : kx_M), k158 x6 x7 M = some res → G 158 [some (.ref 135), some (.int p1), some (.int p2), some (.int p3), some (.int p4), some (.int p5), some (.int x6), some (.int x7), none] [] M) :
    ∀ (x6 : Int32) (x7 : Int32) (s0 : Int32) (M : kx_M),
    f_RM_pour_l182 p1 p2 p3 p4 p5 k158 x6 x7 s0 M = some res → G 182 [some (.ref 135), some (.int p1), some (.int p2), some (.int p3), some (.int p4), some (.int p5), some (.int x6), some (.int x7), none] [.int s0] M := by
  intro x6 x7 s0 M h
  rw [f_RM_pour_l182] at h
  refine x_istore F.1 (i := 106) rfl (Nat.le_of_ble_eq_true rfl) (Nat.le_of_ble_eq_true rfl) rfl ?_
  refine x_aload_n F.1 (i := 107) rfl rfl ?_
  refine x_getC F.1 (i := 108) rfl fl_RM_20 rfl (by rfl) ?_
  refine x_bipush F.1 (i := 109) rfl bp_60 ?_
  refine x_iload_n F.1 (i := 110) rfl rfl ?_
  refine x_imul F.1 (i := 111) rfl ?_
  refine x_iload F.1 (i := 112) rfl rfl ?_
  refine x_iadd F.1 (i := 113) rfl ?_
  refine x_iload F.1 (i := 114) rfl rfl ?_
  refine x_iadd F.1 (i := 115) rfl ?_
  refine x_aload_n F.1 (i := 116) rfl rfl ?_
  refine x_getC F.1 (i := 117) rfl fl_RM_20 rfl (by rfl) ?_
  refine x_bipush F.1 (i := 118) rfl bp_60 ?_
  refine x_iload_n F.1 (i := 119) rfl rfl ?_
  refine x_imul F.1 (i := 120) rfl ?_
  refine x_iload_n F.1 (i := 121) rfl rfl ?_
  refine x_iadd F.1 (i := 122) rfl ?_
  refine x_iload F.1 (i := 123) rfl rfl ?_
  refine x_iadd F.1 (i := 124) rfl ?_
  refine gd_e h (fun g1 h => ?_)
  refine x_lald F.1 (i := 125) rfl rfl (inb_e g1) ?_
  refine gd_e h (fun g2 h => ?_)
  refine x_last F.1 (i := 126) rfl rfl (inb_e g2) ?_
  replace h := bd_e h
  refine x_iinc F.1 (i := 127) rfl rfl rfl (Nat.le_of_ble_eq_true rfl) rfl ?_
  replace h := bd_e h
  refine x_goto F.1 (i := 128) (tgt := 158) rfl (by decide) ?_
  exact x_wk F.1 (hk158 _ _ _ h) ⟨rfl, rfl, rfl, rfl, rfl, rfl, rfl, rfl, trivial⟩
set_option maxHeartbeats 4000000 in
theorem t_RM_pour_l158 {w : kx_W} {d : Nat} {Q : Option Value → kx_M → Prop} {G : Nat → List (Option Value) → List Value → kx_M → Prop} (F : Sd w (d + 1) m_RM_pour Q G) {p1 : Int32} {p2 : Int32} {p3 : Int32} {p4 : Int32} {p5 : Int32} {res : Int32 × kx_M} (hQ : Q (some (.int res.1)) res.2) :
    ∀ (n : Nat) (x6 : Int32) (x7 : Int32) (M : kx_M),
    f_RM_pour_l158 p1 p2 p3 p4 p5 n x6 x7 M = some res → G 158 [some (.ref 135), some (.int p1), some (.int p2), some (.int p3), some (.int p4), some (.int p5), some (.int x6), some (.int x7), none] [] M := by
  intro n
  induction n with
  | zero =>
    intro x6 x7 M h
    exact absurd h (by rw [f_RM_pour_l158]; exact fun z => nomatch z)
  | succ n ih =>
    intro x6 x7 M h
    rw [f_RM_pour_l158] at h
    refine x_iload F.1 (i := 94) rfl rfl ?_
    refine x_iload F.1 (i := 95) rfl rfl ?_
    refine x_icmp_ge F.1 (i := 96) (tgt := 219) rfl (by decide) (fun c => ?_) (fun c => ?_)
    · replace h := if_T c h
      refine x_iconst F.1 (i := 129) rfl ic_1 ?_
      exact x_zretf F (i := 130) rfl rfl (Or.inr rfl) h hQ
    · replace h := if_F c h
      refine x_iload F.1 (i := 97) rfl rfl ?_
      refine x_if_eq F.1 (i := 98) (tgt := 180) rfl (by decide) (fun c => ?_) (fun c => ?_)
      · replace h := if_T c h
        refine x_iload F.1 (i := 105) rfl rfl ?_
        exact x_wk F.1 ((t_RM_pour_l182 F hQ ih) _ _ _ _ h) ⟨rfl, rfl, rfl, rfl, rfl, rfl, rfl, rfl, trivial⟩
      · replace h := if_F c h
        refine x_iload F.1 (i := 99) rfl rfl ?_
        refine x_iconst F.1 (i := 100) rfl ic_1 ?_
        refine x_isub F.1 (i := 101) rfl ?_
        refine x_iload F.1 (i := 102) rfl rfl ?_
        refine x_isub F.1 (i := 103) rfl ?_
        refine x_goto F.1 (i := 104) (tgt := 182) rfl (by decide) ?_
        exact x_wk F.1 ((t_RM_pour_l182 F hQ ih) _ _ _ _ h) ⟨rfl, rfl, rfl, rfl, rfl, rfl, rfl, rfl, trivial⟩
set_option maxHeartbeats 4000000 in
theorem t_RM_pour {w : kx_W} {d : Nat} {M : kx_M} {Q : Option Value → kx_M → Prop} {p1 : Int32} {p2 : Int32} {p3 : Int32} {p4 : Int32} {p5 : Int32} {r : Int32} {M' : kx_M} (h : f_RM_pour p1 p2 p3 p4 p5 M = some (r, M')) (hQ : Q (some (.int r)) M') : Ct w (d + 1) m_RM_pour [.ref 135, .int p1, .int p2, .int p3, .int p4, .int p5] M Q := by
  refine mk_ct ok_RM_pour (Nat.le_of_ble_eq_true rfl) (fun G F => ?_)
  rw [f_RM_pour] at h
  show G 0 [some (.ref 135), some (.int p1), some (.int p2), some (.int p3), some (.int p4), some (.int p5), none, none, none] [] M
  refine x_aload_n F.1 (i := 0) rfl rfl ?_
  refine x_iconst F.1 (i := 1) rfl ic_0 ?_
  refine x_putI F.1 (i := 2) rfl fl_RM_68 pf_RM_thrown rfl (by rfl) ?_
  replace h := bd_e h
  refine x_aload_n F.1 (i := 3) rfl rfl ?_
  refine x_iconst F.1 (i := 4) rfl ic_0 ?_
  refine x_putI F.1 (i := 5) rfl fl_RM_71 pf_RM_status rfl (by rfl) ?_
  replace h := bd_e h
  refine x_iload_n F.1 (i := 6) rfl rfl ?_
  refine x_if_lt F.1 (i := 7) (tgt := 28) rfl (by decide) (fun c => ?_) (fun c => ?_)
  · replace h := if_T c h
    refine x_aload_n F.1 (i := 16) rfl rfl ?_
    refine x_iconst F.1 (i := 17) rfl ic_1 ?_
    refine cal_e h (fun r1 M3 e2 h => ?_)
    refine x_cV1i F.1 (i := 18) rfl ml_RM_83 ok_RM_no rfl (Nat.le_of_ble_eq_true rfl) (Nat.le_of_ble_eq_true rfl) (fun _ => t_RM_no e2) ?_
    refine gd_e h (fun g3 h => ?_)
    exact x_zretf F (i := 19) rfl rfl (b01_e g3) h (res := (r, M')) hQ
  · replace h := if_F c h
    refine x_iload_n F.1 (i := 8) rfl rfl ?_
    refine x_iconst F.1 (i := 9) rfl ic_4 ?_
    refine x_icmp_ge F.1 (i := 10) (tgt := 28) rfl (by decide) (fun c => ?_) (fun c => ?_)
    · replace h := if_T c h
      refine x_aload_n F.1 (i := 16) rfl rfl ?_
      refine x_iconst F.1 (i := 17) rfl ic_1 ?_
      refine cal_e h (fun r4 M4 e5 h => ?_)
      refine x_cV1i F.1 (i := 18) rfl ml_RM_83 ok_RM_no rfl (Nat.le_of_ble_eq_true rfl) (Nat.le_of_ble_eq_true rfl) (fun _ => t_RM_no e5) ?_
      refine gd_e h (fun g6 h => ?_)
      exact x_zretf F (i := 19) rfl rfl (b01_e g6) h (res := (r, M')) hQ
    · replace h := if_F c h
      refine x_iload_n F.1 (i := 11) rfl rfl ?_
      refine x_if_lt F.1 (i := 12) (tgt := 28) rfl (by decide) (fun c => ?_) (fun c => ?_)
      · replace h := if_T c h
        refine x_aload_n F.1 (i := 16) rfl rfl ?_
        refine x_iconst F.1 (i := 17) rfl ic_1 ?_
        refine cal_e h (fun r7 M5 e8 h => ?_)
        refine x_cV1i F.1 (i := 18) rfl ml_RM_83 ok_RM_no rfl (Nat.le_of_ble_eq_true rfl) (Nat.le_of_ble_eq_true rfl) (fun _ => t_RM_no e8) ?_
        refine gd_e h (fun g9 h => ?_)
        exact x_zretf F (i := 19) rfl rfl (b01_e g9) h (res := (r, M')) hQ
      · replace h := if_F c h
        refine x_iload_n F.1 (i := 13) rfl rfl ?_
        refine x_iconst F.1 (i := 14) rfl ic_4 ?_
        refine x_icmp_lt F.1 (i := 15) (tgt := 34) rfl (by decide) (fun c => ?_) (fun c => ?_)
        · replace h := if_T c h
          refine x_aload_n F.1 (i := 20) rfl rfl ?_
          refine x_getC F.1 (i := 21) rfl fl_RM_17 rfl (by rfl) ?_
          refine x_iload_n F.1 (i := 22) rfl rfl ?_
          refine gd_e h (fun g10 h => ?_)
          refine x_iald F.1 (i := 23) rfl rfl (inb_e g10) ?_
          refine x_if_lt F.1 (i := 24) (tgt := 52) rfl (by decide) (fun c => ?_) (fun c => ?_)
          · replace h := if_T c h
            refine x_aload_n F.1 (i := 30) rfl rfl ?_
            refine x_iconst F.1 (i := 31) rfl ic_3 ?_
            refine cal_e h (fun r11 M6 e12 h => ?_)
            refine x_cV1i F.1 (i := 32) rfl ml_RM_83 ok_RM_no rfl (Nat.le_of_ble_eq_true rfl) (Nat.le_of_ble_eq_true rfl) (fun _ => t_RM_no e12) ?_
            refine gd_e h (fun g13 h => ?_)
            exact x_zretf F (i := 33) rfl rfl (b01_e g13) h (res := (r, M')) hQ
          · replace h := if_F c h
            refine x_aload_n F.1 (i := 25) rfl rfl ?_
            refine x_getC F.1 (i := 26) rfl fl_RM_17 rfl (by rfl) ?_
            refine x_iload_n F.1 (i := 27) rfl rfl ?_
            refine gd_e h (fun g14 h => ?_)
            refine x_iald F.1 (i := 28) rfl rfl (inb_e g14) ?_
            refine x_if_ge F.1 (i := 29) (tgt := 58) rfl (by decide) (fun c => ?_) (fun c => ?_)
            · replace h := if_T c h
              refine x_aload_n F.1 (i := 34) rfl rfl ?_
              refine x_getC F.1 (i := 35) rfl fl_RM_13 rfl (by rfl) ?_
              refine x_iload_n F.1 (i := 36) rfl rfl ?_
              refine gd_e h (fun g15 h => ?_)
              refine x_iald F.1 (i := 37) rfl rfl (inb_e g15) ?_
              refine x_aload_n F.1 (i := 38) rfl rfl ?_
              refine x_getC F.1 (i := 39) rfl fl_RM_13 rfl (by rfl) ?_
              refine x_iload_n F.1 (i := 40) rfl rfl ?_
              refine gd_e h (fun g16 h => ?_)
              refine x_iald F.1 (i := 41) rfl rfl (inb_e g16) ?_
              refine x_icmp_eq F.1 (i := 42) (tgt := 80) rfl (by decide) (fun c => ?_) (fun c => ?_)
              · replace h := if_T c h
                refine x_iload F.1 (i := 47) rfl rfl ?_
                refine x_if_ge F.1 (i := 48) (tgt := 92) rfl (by decide) (fun c => ?_) (fun c => ?_)
                · replace h := if_T c h
                  refine x_iload_n F.1 (i := 53) rfl rfl ?_
                  refine x_if_lt F.1 (i := 54) (tgt := 136) rfl (by decide) (fun c => ?_) (fun c => ?_)
                  · replace h := if_T c h
                    refine x_aload_n F.1 (i := 81) rfl rfl ?_
                    refine x_iconst F.1 (i := 82) rfl ic_4 ?_
                    refine cal_e h (fun r17 M7 e18 h => ?_)
                    refine x_cV1i F.1 (i := 83) rfl ml_RM_83 ok_RM_no rfl (Nat.le_of_ble_eq_true rfl) (Nat.le_of_ble_eq_true rfl) (fun _ => t_RM_no e18) ?_
                    refine gd_e h (fun g19 h => ?_)
                    exact x_zretf F (i := 84) rfl rfl (b01_e g19) h (res := (r, M')) hQ
                  · replace h := if_F c h
                    refine x_iload F.1 (i := 55) rfl rfl ?_
                    refine x_if_lt F.1 (i := 56) (tgt := 136) rfl (by decide) (fun c => ?_) (fun c => ?_)
                    · replace h := if_T c h
                      refine x_aload_n F.1 (i := 81) rfl rfl ?_
                      refine x_iconst F.1 (i := 82) rfl ic_4 ?_
                      refine cal_e h (fun r20 M8 e21 h => ?_)
                      refine x_cV1i F.1 (i := 83) rfl ml_RM_83 ok_RM_no rfl (Nat.le_of_ble_eq_true rfl) (Nat.le_of_ble_eq_true rfl) (fun _ => t_RM_no e21) ?_
                      refine gd_e h (fun g22 h => ?_)
                      exact x_zretf F (i := 84) rfl rfl (b01_e g22) h (res := (r, M')) hQ
                    · replace h := if_F c h
                      refine x_iload_n F.1 (i := 57) rfl rfl ?_
                      refine x_i2l F.1 (i := 58) rfl ?_
                      refine x_iload F.1 (i := 59) rfl rfl ?_
                      refine x_i2l F.1 (i := 60) rfl ?_
                      refine x_ladd F.1 (i := 61) rfl ?_
                      refine x_aload_n F.1 (i := 62) rfl rfl ?_
                      refine x_getC F.1 (i := 63) rfl fl_RM_17 rfl (by rfl) ?_
                      refine x_iload_n F.1 (i := 64) rfl rfl ?_
                      refine gd_e h (fun g23 h => ?_)
                      refine x_iald F.1 (i := 65) rfl rfl (inb_e g23) ?_
                      refine x_i2l F.1 (i := 66) rfl ?_
                      refine x_lcmp F.1 (i := 67) rfl ?_
                      refine x_if_gt F.1 (i := 68) (tgt := 136) rfl (by decide) (fun c => ?_) (fun c => ?_)
                      · replace h := if_T c h
                        refine x_aload_n F.1 (i := 81) rfl rfl ?_
                        refine x_iconst F.1 (i := 82) rfl ic_4 ?_
                        refine cal_e h (fun r24 M9 e25 h => ?_)
                        refine x_cV1i F.1 (i := 83) rfl ml_RM_83 ok_RM_no rfl (Nat.le_of_ble_eq_true rfl) (Nat.le_of_ble_eq_true rfl) (fun _ => t_RM_no e25) ?_
                        refine gd_e h (fun g26 h => ?_)
                        exact x_zretf F (i := 84) rfl rfl (b01_e g26) h (res := (r, M')) hQ
                      · replace h := if_F c h
                        refine x_iload F.1 (i := 69) rfl rfl ?_
                        refine x_i2l F.1 (i := 70) rfl ?_
                        refine x_iload F.1 (i := 71) rfl rfl ?_
                        refine x_i2l F.1 (i := 72) rfl ?_
                        refine x_ladd F.1 (i := 73) rfl ?_
                        refine x_aload_n F.1 (i := 74) rfl rfl ?_
                        refine x_getC F.1 (i := 75) rfl fl_RM_17 rfl (by rfl) ?_
                        refine x_iload_n F.1 (i := 76) rfl rfl ?_
                        refine gd_e h (fun g27 h => ?_)
                        refine x_iald F.1 (i := 77) rfl rfl (inb_e g27) ?_
                        refine x_i2l F.1 (i := 78) rfl ?_
                        refine x_lcmp F.1 (i := 79) rfl ?_
                        refine x_if_le F.1 (i := 80) (tgt := 142) rfl (by decide) (fun c => ?_) (fun c => ?_)
                        · replace h := if_T c h
                          refine x_iload_n F.1 (i := 85) rfl rfl ?_
                          refine x_iload F.1 (i := 86) rfl rfl ?_
                          refine x_icmp_ge F.1 (i := 87) (tgt := 152) rfl (by decide) (fun c => ?_) (fun c => ?_)
                          · replace h := if_T c h
                            refine x_iconst F.1 (i := 90) rfl ic_0 ?_
                            refine x_istore F.1 (i := 91) rfl (Nat.le_of_ble_eq_true rfl) (Nat.le_of_ble_eq_true rfl) rfl ?_
                            refine x_iconst F.1 (i := 92) rfl ic_0 ?_
                            refine x_istore F.1 (i := 93) rfl (Nat.le_of_ble_eq_true rfl) (Nat.le_of_ble_eq_true rfl) rfl ?_
                            exact x_wk F.1 ((t_RM_pour_l158 F (res := (r, M')) hQ FU) _ _ _ h) ⟨rfl, rfl, rfl, rfl, rfl, rfl, rfl, rfl, trivial⟩
                          · replace h := if_F c h
                            refine x_iconst F.1 (i := 88) rfl ic_1 ?_
                            refine x_goto F.1 (i := 89) (tgt := 153) rfl (by decide) ?_
                            refine x_istore F.1 (i := 91) rfl (Nat.le_of_ble_eq_true rfl) (Nat.le_of_ble_eq_true rfl) rfl ?_
                            refine x_iconst F.1 (i := 92) rfl ic_0 ?_
                            refine x_istore F.1 (i := 93) rfl (Nat.le_of_ble_eq_true rfl) (Nat.le_of_ble_eq_true rfl) rfl ?_
                            exact x_wk F.1 ((t_RM_pour_l158 F (res := (r, M')) hQ FU) _ _ _ h) ⟨rfl, rfl, rfl, rfl, rfl, rfl, rfl, rfl, trivial⟩
                        · replace h := if_F c h
                          refine x_aload_n F.1 (i := 81) rfl rfl ?_
                          refine x_iconst F.1 (i := 82) rfl ic_4 ?_
                          refine cal_e h (fun r28 M10 e29 h => ?_)
                          refine x_cV1i F.1 (i := 83) rfl ml_RM_83 ok_RM_no rfl (Nat.le_of_ble_eq_true rfl) (Nat.le_of_ble_eq_true rfl) (fun _ => t_RM_no e29) ?_
                          refine gd_e h (fun g30 h => ?_)
                          exact x_zretf F (i := 84) rfl rfl (b01_e g30) h (res := (r, M')) hQ
                · replace h := if_F c h
                  refine x_aload_n F.1 (i := 49) rfl rfl ?_
                  refine x_bipush F.1 (i := 50) rfl bp_6 ?_
                  refine cal_e h (fun r31 M11 e32 h => ?_)
                  refine x_cV1i F.1 (i := 51) rfl ml_RM_83 ok_RM_no rfl (Nat.le_of_ble_eq_true rfl) (Nat.le_of_ble_eq_true rfl) (fun _ => t_RM_no e32) ?_
                  refine gd_e h (fun g33 h => ?_)
                  exact x_zretf F (i := 52) rfl rfl (b01_e g33) h (res := (r, M')) hQ
              · replace h := if_F c h
                refine x_aload_n F.1 (i := 43) rfl rfl ?_
                refine x_bipush F.1 (i := 44) rfl bp_11 ?_
                refine cal_e h (fun r34 M12 e35 h => ?_)
                refine x_cV1i F.1 (i := 45) rfl ml_RM_83 ok_RM_no rfl (Nat.le_of_ble_eq_true rfl) (Nat.le_of_ble_eq_true rfl) (fun _ => t_RM_no e35) ?_
                refine gd_e h (fun g36 h => ?_)
                exact x_zretf F (i := 46) rfl rfl (b01_e g36) h (res := (r, M')) hQ
            · replace h := if_F c h
              refine x_aload_n F.1 (i := 30) rfl rfl ?_
              refine x_iconst F.1 (i := 31) rfl ic_3 ?_
              refine cal_e h (fun r37 M13 e38 h => ?_)
              refine x_cV1i F.1 (i := 32) rfl ml_RM_83 ok_RM_no rfl (Nat.le_of_ble_eq_true rfl) (Nat.le_of_ble_eq_true rfl) (fun _ => t_RM_no e38) ?_
              refine gd_e h (fun g39 h => ?_)
              exact x_zretf F (i := 33) rfl rfl (b01_e g39) h (res := (r, M')) hQ
        · replace h := if_F c h
          refine x_aload_n F.1 (i := 16) rfl rfl ?_
          refine x_iconst F.1 (i := 17) rfl ic_1 ?_
          refine cal_e h (fun r40 M14 e41 h => ?_)
          refine x_cV1i F.1 (i := 18) rfl ml_RM_83 ok_RM_no rfl (Nat.le_of_ble_eq_true rfl) (Nat.le_of_ble_eq_true rfl) (fun _ => t_RM_no e41) ?_
          refine gd_e h (fun g42 h => ?_)
          exact x_zretf F (i := 19) rfl rfl (b01_e g42) h (res := (r, M')) hQ
set_option maxHeartbeats 4000000 in
theorem t_RM_lay_l2 {w : kx_W} {d : Nat} {Q : Option Value → kx_M → Prop} {G : Nat → List (Option Value) → List Value → kx_M → Prop} (F : Sd w d m_RM_lay Q G) {p1 : Int32} {res : Unit × kx_M} (hQ : Q none res.2) :
    ∀ (n : Nat) (x2 : Int32) (M : kx_M),
    f_RM_lay_l2 p1 n x2 M = some res → G 2 [some (.ref 135), some (.int p1), some (.int x2)] [] M := by
  intro n
  induction n with
  | zero =>
    intro x2 M h
    exact absurd h (by rw [f_RM_lay_l2]; exact fun z => nomatch z)
  | succ n ih =>
    intro x2 M h
    rw [f_RM_lay_l2] at h
    refine x_iload_n F.1 (i := 2) rfl rfl ?_
    refine x_if_lt F.1 (i := 3) (tgt := 38) rfl (by decide) (fun c => ?_) (fun c => ?_)
    · replace h := if_T c h
      exact x_vretf F (i := 23) rfl rfl h hQ
    · replace h := if_F c h
      refine x_aload_n F.1 (i := 4) rfl rfl ?_
      refine x_getC F.1 (i := 5) rfl fl_RM_24 rfl (by rfl) ?_
      refine x_aload_n F.1 (i := 6) rfl rfl ?_
      refine x_getI F.1 (i := 7) rfl fl_RM_215 rfl (by rfl) ?_
      refine x_iload_n F.1 (i := 8) rfl rfl ?_
      refine x_bipush F.1 (i := 9) rfl bp_8 ?_
      refine x_iload_n F.1 (i := 10) rfl rfl ?_
      refine x_imul F.1 (i := 11) rfl ?_
      refine x_ishr F.1 (i := 12) rfl ?_
      refine x_i2b F.1 (i := 13) rfl ?_
      refine gd_e h (fun g1 h => ?_)
      refine x_bast F.1 (i := 14) rfl rfl (inb_e g1) ?_
      replace h := bd_e h
      refine x_aload_n F.1 (i := 15) rfl rfl ?_
      refine x_dup F.1 (i := 16) rfl rfl ?_
      refine x_getI F.1 (i := 17) rfl fl_RM_215 rfl (by rfl) ?_
      refine x_iconst F.1 (i := 18) rfl ic_1 ?_
      refine x_iadd F.1 (i := 19) rfl ?_
      refine x_putI F.1 (i := 20) rfl fl_RM_215 pf_RM_taped rfl (by rfl) ?_
      replace h := bd_e h
      refine x_iinc F.1 (i := 21) rfl rfl rfl (Nat.le_of_ble_eq_true rfl) rfl ?_
      replace h := bd_e h
      refine x_goto F.1 (i := 22) (tgt := 2) rfl (by decide) ?_
      exact x_wk F.1 (ih _ _ h) ⟨rfl, rfl, rfl, trivial⟩
set_option maxHeartbeats 4000000 in
theorem t_RM_lay {w : kx_W} {d : Nat} {M : kx_M} {Q : Option Value → kx_M → Prop} {p1 : Int32} {r : Unit} {M' : kx_M} (h : f_RM_lay p1 M = some (r, M')) (hQ : Q none M') : Ct w d m_RM_lay [.ref 135, .int p1] M Q := by
  refine mk_ct ok_RM_lay (Nat.le_of_ble_eq_true rfl) (fun G F => ?_)
  rw [f_RM_lay] at h
  show G 0 [some (.ref 135), some (.int p1), none] [] M
  refine x_iconst F.1 (i := 0) rfl ic_3 ?_
  refine x_istore_n F.1 (i := 1) rfl (Nat.le_of_ble_eq_true rfl) (Nat.le_of_ble_eq_true rfl) rfl ?_
  exact x_wk F.1 ((t_RM_lay_l2 F (res := (r, M')) hQ FU) _ _ h) ⟨rfl, rfl, rfl, trivial⟩
set_option maxHeartbeats 4000000 in
theorem t_RM_feed {w : kx_W} {d : Nat} {M : kx_M} {Q : Option Value → kx_M → Prop} {p1 : Int32} {p2 : Int32} {p3 : Int32} {p4 : Int32} {p5 : Int32} {r : Int32} {M' : kx_M} (h : f_RM_feed p1 p2 p3 p4 p5 M = some (r, M')) (hQ : Q (some (.int r)) M') : Ct w (d + 1) m_RM_feed [.ref 135, .int p1, .int p2, .int p3, .int p4, .int p5] M Q := by
  refine mk_ct ok_RM_feed (Nat.le_of_ble_eq_true rfl) (fun G F => ?_)
  rw [f_RM_feed] at h
  show G 0 [some (.ref 135), some (.int p1), some (.int p2), some (.int p3), some (.int p4), some (.int p5)] [] M
  refine x_aload_n F.1 (i := 0) rfl rfl ?_
  refine x_iconst F.1 (i := 1) rfl ic_0 ?_
  refine x_putI F.1 (i := 2) rfl fl_RM_68 pf_RM_thrown rfl (by rfl) ?_
  replace h := bd_e h
  refine x_aload_n F.1 (i := 3) rfl rfl ?_
  refine x_getI F.1 (i := 4) rfl fl_RM_215 rfl (by rfl) ?_
  refine x_bipush F.1 (i := 5) rfl bp_20 ?_
  refine x_iadd F.1 (i := 6) rfl ?_
  refine x_sipush F.1 (i := 7) rfl sp_900 ?_
  refine x_icmp_le F.1 (i := 8) (tgt := 20) rfl (by decide) (fun c => ?_) (fun c => ?_)
  · replace h := if_T c h
    refine x_aload_n F.1 (i := 11) rfl rfl ?_
    refine x_iload_n F.1 (i := 12) rfl rfl ?_
    refine cal_e h (fun r1 M2 e2 h => ?_)
    refine x_cV1v F.1 (i := 13) rfl ml_RM_218 ok_RM_lay rfl (Nat.le_of_ble_eq_true rfl) (Nat.le_of_ble_eq_true rfl) (fun _ => t_RM_lay e2) ?_
    refine x_aload_n F.1 (i := 14) rfl rfl ?_
    refine x_iload_n F.1 (i := 15) rfl rfl ?_
    refine cal_e h (fun r3 M3 e4 h => ?_)
    refine x_cV1v F.1 (i := 16) rfl ml_RM_218 ok_RM_lay rfl (Nat.le_of_ble_eq_true rfl) (Nat.le_of_ble_eq_true rfl) (fun _ => t_RM_lay e4) ?_
    refine x_aload_n F.1 (i := 17) rfl rfl ?_
    refine x_iload_n F.1 (i := 18) rfl rfl ?_
    refine cal_e h (fun r5 M4 e6 h => ?_)
    refine x_cV1v F.1 (i := 19) rfl ml_RM_218 ok_RM_lay rfl (Nat.le_of_ble_eq_true rfl) (Nat.le_of_ble_eq_true rfl) (fun _ => t_RM_lay e6) ?_
    refine x_aload_n F.1 (i := 20) rfl rfl ?_
    refine x_iload F.1 (i := 21) rfl rfl ?_
    refine cal_e h (fun r7 M5 e8 h => ?_)
    refine x_cV1v F.1 (i := 22) rfl ml_RM_218 ok_RM_lay rfl (Nat.le_of_ble_eq_true rfl) (Nat.le_of_ble_eq_true rfl) (fun _ => t_RM_lay e8) ?_
    refine x_aload_n F.1 (i := 23) rfl rfl ?_
    refine x_iload F.1 (i := 24) rfl rfl ?_
    refine cal_e h (fun r9 M6 e10 h => ?_)
    refine x_cV1v F.1 (i := 25) rfl ml_RM_218 ok_RM_lay rfl (Nat.le_of_ble_eq_true rfl) (Nat.le_of_ble_eq_true rfl) (fun _ => t_RM_lay e10) ?_
    refine x_aload_n F.1 (i := 26) rfl rfl ?_
    refine x_getI F.1 (i := 27) rfl fl_RM_215 rfl (by rfl) ?_
    exact x_iretf F (i := 28) rfl rfl h (res := (r, M')) hQ
  · replace h := if_F c h
    refine x_iconst F.1 (i := 9) rfl ic_n1 ?_
    exact x_iretf F (i := 10) rfl rfl h (res := (r, M')) hQ
