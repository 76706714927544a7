set_option maxHeartbeats 4000000 in
theorem t_Reader_readNumber_l67 {w : kx_W} {d : Nat} {Q : Option Value → kx_M → Prop} {G : Nat → List (Option Value) → List Value → kx_M → Prop} (F : Sd w d m_Reader_readNumber Q G) {p0 : Nat} (hp0 : isReader p0 = true) {res : Unit × kx_M} (hQ : Q none res.2) :
    ∀ (x1 : Int32) (M : kx_M),
    f_Reader_readNumber_l67 p0 x1 M = some res → G 67 [some (.ref p0), some (.int x1)] [] M := by
  intro x1 M h
  rw [f_Reader_readNumber_l67] at h
  refine x_aload_n F.1 (i := 37) rfl rfl ?_
  refine x_iload_n F.1 (i := 38) rfl rfl ?_
  refine x_aload_n F.1 (i := 39) rfl rfl ?_
  refine x_getI F.1 (i := 40) rfl fl_Reader_26 (lk_Reader hp0) (by rfl) ?_
  refine x_isub F.1 (i := 41) rfl ?_
  refine x_iconst F.1 (i := 42) rfl ic_4 ?_
  refine x_icmp_le F.1 (i := 43) (tgt := 82) rfl (by decide) (fun c => ?_) (fun c => ?_)
  · replace h := if_T c h
    refine x_iconst F.1 (i := 46) rfl ic_3 ?_
    refine x_putI F.1 (i := 47) rfl fl_Reader_29 pf_Reader_sort (lk_Reader hp0) (by rfl) ?_
    replace h := bd_e h
    refine x_aload_n F.1 (i := 48) rfl rfl ?_
    refine x_iload_n F.1 (i := 49) rfl rfl ?_
    refine x_putI F.1 (i := 50) rfl fl_Reader_23 pf_Reader_after (lk_Reader hp0) (by rfl) ?_
    replace h := bd_e h
    exact x_vretf F (i := 51) rfl rfl h hQ
  · replace h := if_F c h
    refine x_iconst F.1 (i := 44) rfl ic_1 ?_
    refine x_goto F.1 (i := 45) (tgt := 83) rfl (by decide) ?_
    refine x_putI F.1 (i := 47) rfl fl_Reader_29 pf_Reader_sort (lk_Reader hp0) (by rfl) ?_
    replace h := bd_e h
    refine x_aload_n F.1 (i := 48) rfl rfl ?_
    refine x_iload_n F.1 (i := 49) rfl rfl ?_
    refine x_putI F.1 (i := 50) rfl fl_Reader_23 pf_Reader_after (lk_Reader hp0) (by rfl) ?_
    replace h := bd_e h
    exact x_vretf F (i := 51) rfl rfl h hQ
set_option maxHeartbeats 4000000 in
theorem t_Reader_readNumber_l10 {w : kx_W} {d : Nat} {Q : Option Value → kx_M → Prop} {G : Nat → List (Option Value) → List Value → kx_M → Prop} (F : Sd w d m_Reader_readNumber Q G) {p0 : Nat} (hp0 : isReader p0 = true) {res : Unit × kx_M} (hQ : Q none res.2) :
    ∀ (n : Nat) (x1 : Int32) (M : kx_M),
    f_Reader_readNumber_l10 p0 n x1 M = some res → G 10 [some (.ref p0), some (.int x1)] [] M := by
  intro n
  induction n with
  | zero =>
    intro x1 M h
    exact absurd h (by rw [f_Reader_readNumber_l10]; exact fun z => nomatch z)
  | succ n ih =>
    intro x1 M h
    rw [f_Reader_readNumber_l10] at h
    refine x_iload_n F.1 (i := 6) rfl rfl ?_
    refine x_aload_n F.1 (i := 7) rfl rfl ?_
    refine x_getI F.1 (i := 8) rfl fl_Reader_19 (lk_Reader hp0) (by rfl) ?_
    refine x_icmp_ge F.1 (i := 9) (tgt := 67) rfl (by decide) (fun c => ?_) (fun c => ?_)
    · replace h := if_T c h
      exact x_wk F.1 ((t_Reader_readNumber_l67 F hp0 hQ) _ _ h) ⟨rfl, rfl, trivial⟩
    · replace h := if_F c h
      refine x_aload_n F.1 (i := 10) rfl rfl ?_
      refine x_getR F.1 (i := 11) rfl fl_Reader_15 (lk_Reader hp0) (by rfl) rfl ?_
      refine x_iload_n F.1 (i := 12) rfl rfl ?_
      refine gd_e h (fun g1 h => ?_)
      obtain ⟨ng1, kg1, lg1, ig1⟩ := aIb_e g1
      refine x_iald F.1 (i := 13) rfl lg1 ig1 ?_
      refine x_bipush F.1 (i := 14) rfl bp_48 ?_
      refine x_icmp_lt F.1 (i := 15) (tgt := 67) rfl (by decide) (fun c => ?_) (fun c => ?_)
      · replace h := if_T c h
        exact x_wk F.1 ((t_Reader_readNumber_l67 F hp0 hQ) _ _ h) ⟨rfl, rfl, trivial⟩
      · replace h := if_F c h
        refine x_aload_n F.1 (i := 16) rfl rfl ?_
        refine x_getR F.1 (i := 17) rfl fl_Reader_15 (lk_Reader hp0) (by rfl) rfl ?_
        refine x_iload_n F.1 (i := 18) rfl rfl ?_
        refine gd_e h (fun g2 h => ?_)
        obtain ⟨ng2, kg2, lg2, ig2⟩ := aIb_e g2
        refine x_iald F.1 (i := 19) rfl lg2 ig2 ?_
        refine x_bipush F.1 (i := 20) rfl bp_57 ?_
        refine x_icmp_gt F.1 (i := 21) (tgt := 67) rfl (by decide) (fun c => ?_) (fun c => ?_)
        · replace h := if_T c h
          exact x_wk F.1 ((t_Reader_readNumber_l67 F hp0 hQ) _ _ h) ⟨rfl, rfl, trivial⟩
        · replace h := if_F c h
          refine x_aload_n F.1 (i := 22) rfl rfl ?_
          refine x_aload_n F.1 (i := 23) rfl rfl ?_
          refine x_getI F.1 (i := 24) rfl fl_Reader_39 (lk_Reader hp0) (by rfl) ?_
          refine x_bipush F.1 (i := 25) rfl bp_10 ?_
          refine x_imul F.1 (i := 26) rfl ?_
          refine x_aload_n F.1 (i := 27) rfl rfl ?_
          refine x_getR F.1 (i := 28) rfl fl_Reader_15 (lk_Reader hp0) (by rfl) rfl ?_
          refine x_iload_n F.1 (i := 29) rfl rfl ?_
          refine gd_e h (fun g3 h => ?_)
          obtain ⟨ng3, kg3, lg3, ig3⟩ := aIb_e g3
          refine x_iald F.1 (i := 30) rfl lg3 ig3 ?_
          refine x_bipush F.1 (i := 31) rfl bp_48 ?_
          refine x_isub F.1 (i := 32) rfl ?_
          refine x_iadd F.1 (i := 33) rfl ?_
          refine x_putI F.1 (i := 34) rfl fl_Reader_39 pf_Reader_number (lk_Reader hp0) (by rfl) ?_
          replace h := bd_e h
          refine x_iinc F.1 (i := 35) rfl rfl rfl (Nat.le_of_ble_eq_true rfl) rfl ?_
          replace h := bd_e h
          refine x_goto F.1 (i := 36) (tgt := 10) rfl (by decide) ?_
          exact x_wk F.1 (ih _ _ h) ⟨rfl, rfl, trivial⟩
set_option maxHeartbeats 4000000 in
theorem t_Reader_readNumber {w : kx_W} {d : Nat} {M : kx_M} {Q : Option Value → kx_M → Prop} {p0 : Nat} {r : Unit} {M' : kx_M} (hp0 : isReader p0 = true) (h : f_Reader_readNumber p0 M = some (r, M')) (hQ : Q none M') : Ct w d m_Reader_readNumber [.ref p0] M Q := by
  refine mk_ct ok_Reader_readNumber (Nat.le_of_ble_eq_true rfl) (fun G F => ?_)
  rw [f_Reader_readNumber] at h
  show G 0 [some (.ref p0), none] [] M
  refine x_aload_n F.1 (i := 0) rfl rfl ?_
  refine x_getI F.1 (i := 1) rfl fl_Reader_26 (lk_Reader hp0) (by rfl) ?_
  refine x_istore_n F.1 (i := 2) rfl (Nat.le_of_ble_eq_true rfl) (Nat.le_of_ble_eq_true rfl) rfl ?_
  replace h := bd_e h
  refine x_aload_n F.1 (i := 3) rfl rfl ?_
  refine x_iconst F.1 (i := 4) rfl ic_0 ?_
  refine x_putI F.1 (i := 5) rfl fl_Reader_39 pf_Reader_number (lk_Reader hp0) (by rfl) ?_
  replace h := bd_e h
  exact x_wk F.1 ((t_Reader_readNumber_l10 F hp0 (res := (r, M')) hQ FU) _ _ h) ⟨rfl, rfl, trivial⟩
set_option maxHeartbeats 4000000 in
theorem t_Reader_next_l161 {w : kx_W} {d : Nat} {Q : Option Value → kx_M → Prop} {G : Nat → List (Option Value) → List Value → kx_M → Prop} (F : Sd w (d + 1) m_Reader_next Q G) {p0 : Nat} (hp0 : isReader p0 = true) {res : Unit × kx_M} (hQ : Q none res.2) :
    ∀ (x1 : Int32) (M : kx_M),
    f_Reader_next_l161 p0 x1 M = some res → G 161 [some (.ref p0), some (.int x1)] [] M := by
  intro x1 M h
  rw [f_Reader_next_l161] at h
  refine x_aload_n F.1 (i := 83) rfl rfl ?_
  refine x_aload_n F.1 (i := 84) rfl rfl ?_
  refine x_getR F.1 (i := 85) rfl fl_Reader_15 (lk_Reader hp0) (by rfl) rfl ?_
  refine x_iload_n F.1 (i := 86) rfl rfl ?_
  refine gd_e h (fun g1 h => ?_)
  obtain ⟨ng1, kg1, lg1, ig1⟩ := aIb_e g1
  refine x_iald F.1 (i := 87) rfl lg1 ig1 ?_
  refine x_putI F.1 (i := 88) rfl fl_Reader_42 pf_Reader_sign (lk_Reader hp0) (by rfl) ?_
  replace h := bd_e h
  refine x_aload_n F.1 (i := 89) rfl rfl ?_
  refine x_aload_n F.1 (i := 90) rfl rfl ?_
  refine x_getI F.1 (i := 91) rfl fl_Reader_42 (lk_Reader hp0) (by rfl) ?_
  refine x_bipush F.1 (i := 92) rfl bp_59 ?_
  refine x_icmp_eq F.1 (i := 93) (tgt := 208) rfl (by decide) (fun c => ?_) (fun c => ?_)
  · replace h := if_T c h
    refine x_iconst F.1 (i := 106) rfl ic_4 ?_
    refine x_goto F.1 (i := 107) (tgt := 213) rfl (by decide) ?_
    refine x_putI F.1 (i := 109) rfl fl_Reader_29 pf_Reader_sort (lk_Reader hp0) (by rfl) ?_
    replace h := bd_e h
    refine x_aload_n F.1 (i := 110) rfl rfl ?_
    refine x_iload_n F.1 (i := 111) rfl rfl ?_
    refine x_iconst F.1 (i := 112) rfl ic_1 ?_
    refine x_iadd F.1 (i := 113) rfl ?_
    refine x_putI F.1 (i := 114) rfl fl_Reader_23 pf_Reader_after (lk_Reader hp0) (by rfl) ?_
    replace h := bd_e h
    exact x_vretf F (i := 115) rfl rfl h hQ
  · replace h := if_F c h
    refine x_aload_n F.1 (i := 94) rfl rfl ?_
    refine x_getI F.1 (i := 95) rfl fl_Reader_42 (lk_Reader hp0) (by rfl) ?_
    refine x_bipush F.1 (i := 96) rfl bp_60 ?_
    refine x_icmp_eq F.1 (i := 97) (tgt := 208) rfl (by decide) (fun c => ?_) (fun c => ?_)
    · replace h := if_T c h
      refine x_iconst F.1 (i := 106) rfl ic_4 ?_
      refine x_goto F.1 (i := 107) (tgt := 213) rfl (by decide) ?_
      refine x_putI F.1 (i := 109) rfl fl_Reader_29 pf_Reader_sort (lk_Reader hp0) (by rfl) ?_
      replace h := bd_e h
      refine x_aload_n F.1 (i := 110) rfl rfl ?_
      refine x_iload_n F.1 (i := 111) rfl rfl ?_
      refine x_iconst F.1 (i := 112) rfl ic_1 ?_
      refine x_iadd F.1 (i := 113) rfl ?_
      refine x_putI F.1 (i := 114) rfl fl_Reader_23 pf_Reader_after (lk_Reader hp0) (by rfl) ?_
      replace h := bd_e h
      exact x_vretf F (i := 115) rfl rfl h hQ
    · replace h := if_F c h
      refine x_aload_n F.1 (i := 98) rfl rfl ?_
      refine x_getI F.1 (i := 99) rfl fl_Reader_42 (lk_Reader hp0) (by rfl) ?_
      refine x_bipush F.1 (i := 100) rfl bp_61 ?_
      refine x_icmp_eq F.1 (i := 101) (tgt := 208) rfl (by decide) (fun c => ?_) (fun c => ?_)
      · replace h := if_T c h
        refine x_iconst F.1 (i := 106) rfl ic_4 ?_
        refine x_goto F.1 (i := 107) (tgt := 213) rfl (by decide) ?_
        refine x_putI F.1 (i := 109) rfl fl_Reader_29 pf_Reader_sort (lk_Reader hp0) (by rfl) ?_
        replace h := bd_e h
        refine x_aload_n F.1 (i := 110) rfl rfl ?_
        refine x_iload_n F.1 (i := 111) rfl rfl ?_
        refine x_iconst F.1 (i := 112) rfl ic_1 ?_
        refine x_iadd F.1 (i := 113) rfl ?_
        refine x_putI F.1 (i := 114) rfl fl_Reader_23 pf_Reader_after (lk_Reader hp0) (by rfl) ?_
        replace h := bd_e h
        exact x_vretf F (i := 115) rfl rfl h hQ
      · replace h := if_F c h
        refine x_aload_n F.1 (i := 102) rfl rfl ?_
        refine x_getI F.1 (i := 103) rfl fl_Reader_42 (lk_Reader hp0) (by rfl) ?_
        refine x_bipush F.1 (i := 104) rfl bp_62 ?_
        refine x_icmp_ne F.1 (i := 105) (tgt := 212) rfl (by decide) (fun c => ?_) (fun c => ?_)
        · replace h := if_F c h
          refine x_iconst F.1 (i := 108) rfl ic_1 ?_
          refine x_putI F.1 (i := 109) rfl fl_Reader_29 pf_Reader_sort (lk_Reader hp0) (by rfl) ?_
          replace h := bd_e h
          refine x_aload_n F.1 (i := 110) rfl rfl ?_
          refine x_iload_n F.1 (i := 111) rfl rfl ?_
          refine x_iconst F.1 (i := 112) rfl ic_1 ?_
          refine x_iadd F.1 (i := 113) rfl ?_
          refine x_putI F.1 (i := 114) rfl fl_Reader_23 pf_Reader_after (lk_Reader hp0) (by rfl) ?_
          replace h := bd_e h
          exact x_vretf F (i := 115) rfl rfl h hQ
        · replace h := if_T c h
          refine x_iconst F.1 (i := 106) rfl ic_4 ?_
          refine x_goto F.1 (i := 107) (tgt := 213) rfl (by decide) ?_
          refine x_putI F.1 (i := 109) rfl fl_Reader_29 pf_Reader_sort (lk_Reader hp0) (by rfl) ?_
          replace h := bd_e h
          refine x_aload_n F.1 (i := 110) rfl rfl ?_
          refine x_iload_n F.1 (i := 111) rfl rfl ?_
          refine x_iconst F.1 (i := 112) rfl ic_1 ?_
          refine x_iadd F.1 (i := 113) rfl ?_
          refine x_putI F.1 (i := 114) rfl fl_Reader_23 pf_Reader_after (lk_Reader hp0) (by rfl) ?_
          replace h := bd_e h
          exact x_vretf F (i := 115) rfl rfl h hQ
set_option maxHeartbeats 4000000 in
theorem t_Reader_next_l132 {w : kx_W} {d : Nat} {Q : Option Value → kx_M → Prop} {G : Nat → List (Option Value) → List Value → kx_M → Prop} (F : Sd w (d + 1) m_Reader_next Q G) {p0 : Nat} (hp0 : isReader p0 = true) {res : Unit × kx_M} (hQ : Q none res.2) :
    ∀ (x1 : Int32) (M : kx_M),
    f_Reader_next_l132 p0 x1 M = some res → G 132 [some (.ref p0), some (.int x1)] [] M := by
  intro x1 M h
  rw [f_Reader_next_l132] at h
  refine x_aload_n F.1 (i := 68) rfl rfl ?_
  refine x_getR F.1 (i := 69) rfl fl_Reader_15 (lk_Reader hp0) (by rfl) rfl ?_
  refine x_iload_n F.1 (i := 70) rfl rfl ?_
  refine gd_e h (fun g1 h => ?_)
  obtain ⟨ng1, kg1, lg1, ig1⟩ := aIb_e g1
  refine x_iald F.1 (i := 71) rfl lg1 ig1 ?_
  refine x_bipush F.1 (i := 72) rfl bp_48 ?_
  refine x_icmp_lt F.1 (i := 73) (tgt := 161) rfl (by decide) (fun c => ?_) (fun c => ?_)
  · replace h := if_T c h
    exact x_wk F.1 ((t_Reader_next_l161 F hp0 hQ) _ _ h) ⟨rfl, rfl, trivial⟩
  · replace h := if_F c h
    refine x_aload_n F.1 (i := 74) rfl rfl ?_
    refine x_getR F.1 (i := 75) rfl fl_Reader_15 (lk_Reader hp0) (by rfl) rfl ?_
    refine x_iload_n F.1 (i := 76) rfl rfl ?_
    refine gd_e h (fun g2 h => ?_)
    obtain ⟨ng2, kg2, lg2, ig2⟩ := aIb_e g2
    refine x_iald F.1 (i := 77) rfl lg2 ig2 ?_
    refine x_bipush F.1 (i := 78) rfl bp_57 ?_
    refine x_icmp_gt F.1 (i := 79) (tgt := 161) rfl (by decide) (fun c => ?_) (fun c => ?_)
    · replace h := if_T c h
      exact x_wk F.1 ((t_Reader_next_l161 F hp0 hQ) _ _ h) ⟨rfl, rfl, trivial⟩
    · replace h := if_F c h
      refine x_aload_n F.1 (i := 80) rfl rfl ?_
      refine cal_e h (fun r3 M1 e4 h => ?_)
      refine x_cV0v F.1 (i := 81) rfl ml_Reader_79 ok_Reader_readNumber (lk_Reader hp0) (Nat.le_of_ble_eq_true rfl) (Nat.le_of_ble_eq_true rfl) (fun _ => t_Reader_readNumber hp0 e4) ?_
      refine x_goto F.1 (i := 82) (tgt := 223) rfl (by decide) ?_
      exact x_vretf F (i := 115) rfl rfl h hQ
set_option maxHeartbeats 4000000 in
theorem t_Reader_next_l41 {w : kx_W} {d : Nat} {Q : Option Value → kx_M → Prop} {G : Nat → List (Option Value) → List Value → kx_M → Prop} (F : Sd w (d + 1) m_Reader_next Q G) {p0 : Nat} (hp0 : isReader p0 = true) {res : Unit × kx_M} (hQ : Q none res.2) :
    ∀ (x1 : Int32) (M : kx_M),
    f_Reader_next_l41 p0 x1 M = some res → G 41 [some (.ref p0), some (.int x1)] [] M := by
  intro x1 M h
  rw [f_Reader_next_l41] at h
  refine x_aload_n F.1 (i := 21) rfl rfl ?_
  refine x_iload_n F.1 (i := 22) rfl rfl ?_
  refine x_putI F.1 (i := 23) rfl fl_Reader_26 pf_Reader_place (lk_Reader hp0) (by rfl) ?_
  replace h := bd_e h
  refine x_aload_n F.1 (i := 24) rfl rfl ?_
  refine x_iconst F.1 (i := 25) rfl ic_n1 ?_
  refine x_putI F.1 (i := 26) rfl fl_Reader_32 pf_Reader_key (lk_Reader hp0) (by rfl) ?_
  replace h := bd_e h
  refine x_iload_n F.1 (i := 27) rfl rfl ?_
  refine x_aload_n F.1 (i := 28) rfl rfl ?_
  refine x_getI F.1 (i := 29) rfl fl_Reader_19 (lk_Reader hp0) (by rfl) ?_
  refine x_icmp_lt F.1 (i := 30) (tgt := 75) rfl (by decide) (fun c => ?_) (fun c => ?_)
  · replace h := if_T c h
    refine x_aload_n F.1 (i := 39) rfl rfl ?_
    refine x_getR F.1 (i := 40) rfl fl_Reader_15 (lk_Reader hp0) (by rfl) rfl ?_
    refine x_iload_n F.1 (i := 41) rfl rfl ?_
    refine gd_e h (fun g1 h => ?_)
    obtain ⟨ng1, kg1, lg1, ig1⟩ := aIb_e g1
    refine x_iald F.1 (i := 42) rfl lg1 ig1 ?_
    refine x_bipush F.1 (i := 43) rfl bp_97 ?_
    refine x_icmp_lt F.1 (i := 44) (tgt := 132) rfl (by decide) (fun c => ?_) (fun c => ?_)
    · replace h := if_T c h
      exact x_wk F.1 ((t_Reader_next_l132 F hp0 hQ) _ _ h) ⟨rfl, rfl, trivial⟩
    · replace h := if_F c h
      refine x_aload_n F.1 (i := 45) rfl rfl ?_
      refine x_getR F.1 (i := 46) rfl fl_Reader_15 (lk_Reader hp0) (by rfl) rfl ?_
      refine x_iload_n F.1 (i := 47) rfl rfl ?_
      refine gd_e h (fun g2 h => ?_)
      obtain ⟨ng2, kg2, lg2, ig2⟩ := aIb_e g2
      refine x_iald F.1 (i := 48) rfl lg2 ig2 ?_
      refine x_bipush F.1 (i := 49) rfl bp_122 ?_
      refine x_icmp_gt F.1 (i := 50) (tgt := 132) rfl (by decide) (fun c => ?_) (fun c => ?_)
      · replace h := if_T c h
        exact x_wk F.1 ((t_Reader_next_l132 F hp0 hQ) _ _ h) ⟨rfl, rfl, trivial⟩
      · replace h := if_F c h
        refine x_aload_n F.1 (i := 51) rfl rfl ?_
        refine cal_e h (fun r3 M3 e4 h => ?_)
        refine x_cV0v F.1 (i := 52) rfl ml_Reader_72 ok_Reader_readWord (lk_Reader hp0) (Nat.le_of_ble_eq_true rfl) (Nat.le_of_ble_eq_true rfl) (fun _ => t_Reader_readWord hp0 e4) ?_
        refine x_aload_n F.1 (i := 53) rfl rfl ?_
        refine x_aload_n F.1 (i := 54) rfl rfl ?_
        refine x_getI F.1 (i := 55) rfl fl_Reader_23 (lk_Reader hp0) (by rfl) ?_
        refine x_iload_n F.1 (i := 56) rfl rfl ?_
        refine x_isub F.1 (i := 57) rfl ?_
        refine x_bipush F.1 (i := 58) rfl bp_8 ?_
        refine x_icmp_le F.1 (i := 59) (tgt := 118) rfl (by decide) (fun c => ?_) (fun c => ?_)
        · replace h := if_T c h
          refine x_aload_n F.1 (i := 62) rfl rfl ?_
          refine x_aload_n F.1 (i := 63) rfl rfl ?_
          refine x_getJ F.1 (i := 64) rfl fl_Reader_35 (lk_Reader hp0) (by rfl) ?_
          refine cal_e h (fun r5 M4 e6 h => ?_)
          refine x_cV1i F.1 (i := 65) rfl ml_Reader_75 ok_Reader_keyOf (lk_Reader hp0) (Nat.le_of_ble_eq_true rfl) (Nat.le_of_ble_eq_true rfl) (fun _ => t_Reader_keyOf hp0 e6) ?_
          refine x_putI F.1 (i := 66) rfl fl_Reader_32 pf_Reader_key (lk_Reader hp0) (by rfl) ?_
          replace h := bd_e h
          refine x_goto F.1 (i := 67) (tgt := 223) rfl (by decide) ?_
          exact x_vretf F (i := 115) rfl rfl h hQ
        · replace h := if_F c h
          refine x_bipush F.1 (i := 60) rfl bp_27 ?_
          refine x_goto F.1 (i := 61) (tgt := 126) rfl (by decide) ?_
          refine x_putI F.1 (i := 66) rfl fl_Reader_32 pf_Reader_key (lk_Reader hp0) (by rfl) ?_
          replace h := bd_e h
          refine x_goto F.1 (i := 67) (tgt := 223) rfl (by decide) ?_
          exact x_vretf F (i := 115) rfl rfl h hQ
  · replace h := if_F c h
    refine x_aload_n F.1 (i := 31) rfl rfl ?_
    refine x_iconst F.1 (i := 32) rfl ic_0 ?_
    refine x_putI F.1 (i := 33) rfl fl_Reader_29 pf_Reader_sort (lk_Reader hp0) (by rfl) ?_
    replace h := bd_e h
    refine x_aload_n F.1 (i := 34) rfl rfl ?_
    refine x_aload_n F.1 (i := 35) rfl rfl ?_
    refine x_getI F.1 (i := 36) rfl fl_Reader_19 (lk_Reader hp0) (by rfl) ?_
    refine x_putI F.1 (i := 37) rfl fl_Reader_23 pf_Reader_after (lk_Reader hp0) (by rfl) ?_
    replace h := bd_e h
    refine x_goto F.1 (i := 38) (tgt := 223) rfl (by decide) ?_
    exact x_vretf F (i := 115) rfl rfl h hQ
set_option maxHeartbeats 4000000 in
theorem t_Reader_next_l5 {w : kx_W} {d : Nat} {Q : Option Value → kx_M → Prop} {G : Nat → List (Option Value) → List Value → kx_M → Prop} (F : Sd w (d + 1) m_Reader_next Q G) {p0 : Nat} (hp0 : isReader p0 = true) {res : Unit × kx_M} (hQ : Q none res.2) :
    ∀ (n : Nat) (x1 : Int32) (M : kx_M),
    f_Reader_next_l5 p0 n x1 M = some res → G 5 [some (.ref p0), some (.int x1)] [] M := by
  intro n
  induction n with
  | zero =>
    intro x1 M h
    exact absurd h (by rw [f_Reader_next_l5]; exact fun z => nomatch z)
  | succ n ih =>
    intro x1 M h
    rw [f_Reader_next_l5] at h
    refine x_iload_n F.1 (i := 3) rfl rfl ?_
    refine x_aload_n F.1 (i := 4) rfl rfl ?_
    refine x_getI F.1 (i := 5) rfl fl_Reader_19 (lk_Reader hp0) (by rfl) ?_
    refine x_icmp_ge F.1 (i := 6) (tgt := 41) rfl (by decide) (fun c => ?_) (fun c => ?_)
    · replace h := if_T c h
      exact x_wk F.1 ((t_Reader_next_l41 F hp0 hQ) _ _ h) ⟨rfl, rfl, trivial⟩
    · replace h := if_F c h
      refine x_aload_n F.1 (i := 7) rfl rfl ?_
      refine x_getR F.1 (i := 8) rfl fl_Reader_15 (lk_Reader hp0) (by rfl) rfl ?_
      refine x_iload_n F.1 (i := 9) rfl rfl ?_
      refine gd_e h (fun g1 h => ?_)
      obtain ⟨ng1, kg1, lg1, ig1⟩ := aIb_e g1
      refine x_iald F.1 (i := 10) rfl lg1 ig1 ?_
      refine x_bipush F.1 (i := 11) rfl bp_32 ?_
      refine x_icmp_eq F.1 (i := 12) (tgt := 35) rfl (by decide) (fun c => ?_) (fun c => ?_)
      · replace h := if_T c h
        refine x_iinc F.1 (i := 19) rfl rfl rfl (Nat.le_of_ble_eq_true rfl) rfl ?_
        replace h := bd_e h
        refine x_goto F.1 (i := 20) (tgt := 5) rfl (by decide) ?_
        exact x_wk F.1 (ih _ _ h) ⟨rfl, rfl, trivial⟩
      · replace h := if_F c h
        refine x_aload_n F.1 (i := 13) rfl rfl ?_
        refine x_getR F.1 (i := 14) rfl fl_Reader_15 (lk_Reader hp0) (by rfl) rfl ?_
        refine x_iload_n F.1 (i := 15) rfl rfl ?_
        refine gd_e h (fun g3 h => ?_)
        obtain ⟨ng3, kg3, lg3, ig3⟩ := aIb_e g3
        refine x_iald F.1 (i := 16) rfl lg3 ig3 ?_
        refine x_bipush F.1 (i := 17) rfl bp_10 ?_
        refine x_icmp_ne F.1 (i := 18) (tgt := 41) rfl (by decide) (fun c => ?_) (fun c => ?_)
        · replace h := if_F c h
          exact x_wk F.1 ((t_Reader_next_l41 F hp0 hQ) _ _ h) ⟨rfl, rfl, trivial⟩
        · replace h := if_T c h
          refine x_iinc F.1 (i := 19) rfl rfl rfl (Nat.le_of_ble_eq_true rfl) rfl ?_
          replace h := bd_e h
          refine x_goto F.1 (i := 20) (tgt := 5) rfl (by decide) ?_
          exact x_wk F.1 (ih _ _ h) ⟨rfl, rfl, trivial⟩
set_option maxHeartbeats 4000000 in
theorem t_Reader_next {w : kx_W} {d : Nat} {M : kx_M} {Q : Option Value → kx_M → Prop} {p0 : Nat} {r : Unit} {M' : kx_M} (hp0 : isReader p0 = true) (h : f_Reader_next p0 M = some (r, M')) (hQ : Q none M') : Ct w (d + 1) m_Reader_next [.ref p0] M Q := by
  refine mk_ct ok_Reader_next (Nat.le_of_ble_eq_true rfl) (fun G F => ?_)
  rw [f_Reader_next] at h
  show G 0 [some (.ref p0), none] [] M
  refine x_aload_n F.1 (i := 0) rfl rfl ?_
  refine x_getI F.1 (i := 1) rfl fl_Reader_23 (lk_Reader hp0) (by rfl) ?_
  refine x_istore_n F.1 (i := 2) rfl (Nat.le_of_ble_eq_true rfl) (Nat.le_of_ble_eq_true rfl) rfl ?_
  replace h := bd_e h
  exact x_wk F.1 ((t_Reader_next_l5 F hp0 (res := (r, M')) hQ FU) _ _ h) ⟨rfl, rfl, trivial⟩
set_option maxHeartbeats 4000000 in
theorem t_Reader_open {w : kx_W} {d : Nat} {M : kx_M} {Q : Option Value → kx_M → Prop} {p0 : Nat} {p1 : Nat} {p2 : Int32} {r : Unit} {M' : kx_M} (hp0 : isReader p0 = true) (h : f_Reader_open p0 p1 p2 M = some (r, M')) (hQ : Q none M') : Ct w (d + 2) m_Reader_open [.ref p0, .ref p1, .int p2] M Q := by
  refine mk_ct ok_Reader_open (Nat.le_of_ble_eq_true rfl) (fun G F => ?_)
  rw [f_Reader_open] at h
  show G 0 [some (.ref p0), some (.ref p1), some (.int p2)] [] M
  refine x_aload_n F.1 (i := 0) rfl rfl ?_
  refine x_aload_n F.1 (i := 1) rfl rfl ?_
  refine x_putQ F.1 (i := 2) rfl fl_Reader_15 pf_Reader_text (lk_Reader hp0) (by rfl) ?_
  replace h := bd_e h
  refine x_aload_n F.1 (i := 3) rfl rfl ?_
  refine x_iload_n F.1 (i := 4) rfl rfl ?_
  refine x_aload_n F.1 (i := 5) rfl rfl ?_
  refine gd_e h (fun g1 h => ?_)
  obtain ⟨kg1, lg1⟩ := aLk_e g1
  refine x_ialen F.1 (i := 6) rfl lg1 rfl ?_
  refine x_mmin F.1 (i := 7) rfl jm_Reader_63 (Nat.le_of_ble_eq_true rfl) ?_
  refine x_putI F.1 (i := 8) rfl fl_Reader_19 pf_Reader_size (lk_Reader hp0) (by rfl) ?_
  replace h := bd_e h
  refine x_aload_n F.1 (i := 9) rfl rfl ?_
  refine x_iconst F.1 (i := 10) rfl ic_0 ?_
  refine x_putI F.1 (i := 11) rfl fl_Reader_23 pf_Reader_after (lk_Reader hp0) (by rfl) ?_
  replace h := bd_e h
  refine x_aload_n F.1 (i := 12) rfl rfl ?_
  refine x_iconst F.1 (i := 13) rfl ic_0 ?_
  refine x_putI F.1 (i := 14) rfl fl_Reader_45 pf_Reader_faultKind (lk_Reader hp0) (by rfl) ?_
  replace h := bd_e h
  refine x_aload_n F.1 (i := 15) rfl rfl ?_
  refine x_iconst F.1 (i := 16) rfl ic_n1 ?_
  refine x_putI F.1 (i := 17) rfl fl_Reader_48 pf_Reader_faultPlace (lk_Reader hp0) (by rfl) ?_
  replace h := bd_e h
  refine x_aload_n F.1 (i := 18) rfl rfl ?_
  refine cal_e h (fun r2 M6 e3 h => ?_)
  refine x_cV0v F.1 (i := 19) rfl ml_Reader_69 ok_Reader_next (lk_Reader hp0) (Nat.le_of_ble_eq_true rfl) (Nat.le_of_ble_eq_true rfl) (fun _ => t_Reader_next hp0 e3) ?_
  exact x_vretf F (i := 20) rfl rfl h (res := (r, M')) hQ
set_option maxHeartbeats 4000000 in
theorem t_Reader_fail {w : kx_W} {d : Nat} {M : kx_M} {Q : Option Value → kx_M → Prop} {p0 : Nat} {p1 : Int32} {r : Int32} {M' : kx_M} (hp0 : isReader p0 = true) (h : f_Reader_fail p0 p1 M = some (r, M')) (hQ : Q (some (.int r)) M') : Ct w d m_Reader_fail [.ref p0, .int p1] M Q := by
  refine mk_ct ok_Reader_fail (Nat.le_of_ble_eq_true rfl) (fun G F => ?_)
  rw [f_Reader_fail] at h
  show G 0 [some (.ref p0), some (.int p1)] [] M
  refine x_aload_n F.1 (i := 0) rfl rfl ?_
  refine x_aload_n F.1 (i := 1) rfl rfl ?_
  refine x_getI F.1 (i := 2) rfl fl_Reader_29 (lk_Reader hp0) (by rfl) ?_
  refine x_iconst F.1 (i := 3) rfl ic_1 ?_
  refine x_icmp_ne F.1 (i := 4) (tgt := 13) rfl (by decide) (fun c => ?_) (fun c => ?_)
  · replace h := if_F c h
    refine x_iload_n F.1 (i := 7) rfl rfl ?_
    refine x_putI F.1 (i := 8) rfl fl_Reader_45 pf_Reader_faultKind (lk_Reader hp0) (by rfl) ?_
    replace h := bd_e h
    refine x_aload_n F.1 (i := 9) rfl rfl ?_
    refine x_aload_n F.1 (i := 10) rfl rfl ?_
    refine x_getI F.1 (i := 11) rfl fl_Reader_26 (lk_Reader hp0) (by rfl) ?_
    refine x_putI F.1 (i := 12) rfl fl_Reader_48 pf_Reader_faultPlace (lk_Reader hp0) (by rfl) ?_
    replace h := bd_e h
    refine x_iconst F.1 (i := 13) rfl ic_0 ?_
    exact x_zretf F (i := 14) rfl rfl (Or.inl rfl) h (res := (r, M')) hQ
  · replace h := if_T c h
    refine x_iconst F.1 (i := 5) rfl ic_1 ?_
    refine x_goto F.1 (i := 6) (tgt := 14) rfl (by decide) ?_
    refine x_putI F.1 (i := 8) rfl fl_Reader_45 pf_Reader_faultKind (lk_Reader hp0) (by rfl) ?_
    replace h := bd_e h
    refine x_aload_n F.1 (i := 9) rfl rfl ?_
    refine x_aload_n F.1 (i := 10) rfl rfl ?_
    refine x_getI F.1 (i := 11) rfl fl_Reader_26 (lk_Reader hp0) (by rfl) ?_
    refine x_putI F.1 (i := 12) rfl fl_Reader_48 pf_Reader_faultPlace (lk_Reader hp0) (by rfl) ?_
    replace h := bd_e h
    refine x_iconst F.1 (i := 13) rfl ic_0 ?_
    exact x_zretf F (i := 14) rfl rfl (Or.inl rfl) h (res := (r, M')) hQ
set_option maxHeartbeats 4000000 in
theorem t_Reader_atNumber {w : kx_W} {d : Nat} {M : kx_M} {Q : Option Value → kx_M → Prop} {p0 : Nat} {p1 : Int32} {p2 : Int32} {r : Int32} {M' : kx_M} (hp0 : isReader p0 = true) (h : f_Reader_atNumber p0 p1 p2 M = some (r, M')) (hQ : Q (some (.int r)) M') : Ct w (d + 1) m_Reader_atNumber [.ref p0, .int p1, .int p2] M Q := by
  refine mk_ct ok_Reader_atNumber (Nat.le_of_ble_eq_true rfl) (fun G F => ?_)
  rw [f_Reader_atNumber] at h
  show G 0 [some (.ref p0), some (.int p1), some (.int p2)] [] M
  refine x_aload_n F.1 (i := 0) rfl rfl ?_
  refine x_getI F.1 (i := 1) rfl fl_Reader_29 (lk_Reader hp0) (by rfl) ?_
  refine x_iconst F.1 (i := 2) rfl ic_3 ?_
  refine x_icmp_eq F.1 (i := 3) (tgt := 14) rfl (by decide) (fun c => ?_) (fun c => ?_)
  · replace h := if_T c h
    refine x_aload_n F.1 (i := 8) rfl rfl ?_
    refine x_getI F.1 (i := 9) rfl fl_Reader_39 (lk_Reader hp0) (by rfl) ?_
    refine x_iload_n F.1 (i := 10) rfl rfl ?_
    refine x_icmp_lt F.1 (i := 11) (tgt := 34) rfl (by decide) (fun c => ?_) (fun c => ?_)
    · replace h := if_T c h
      refine x_aload_n F.1 (i := 18) rfl rfl ?_
      refine x_iconst F.1 (i := 19) rfl ic_4 ?_
      refine cal_e h (fun r1 M1 e2 h => ?_)
      refine x_cV1i F.1 (i := 20) rfl ml_Reader_82 ok_Reader_fail (lk_Reader hp0) (Nat.le_of_ble_eq_true rfl) (Nat.le_of_ble_eq_true rfl) (fun _ => t_Reader_fail hp0 e2) ?_
      refine gd_e h (fun g3 h => ?_)
      exact x_zretf F (i := 21) rfl rfl (b01_e g3) h (res := (r, M')) hQ
    · replace h := if_F c h
      refine x_aload_n F.1 (i := 12) rfl rfl ?_
      refine x_getI F.1 (i := 13) rfl fl_Reader_39 (lk_Reader hp0) (by rfl) ?_
      refine x_iload_n F.1 (i := 14) rfl rfl ?_
      refine x_icmp_gt F.1 (i := 15) (tgt := 34) rfl (by decide) (fun c => ?_) (fun c => ?_)
      · replace h := if_T c h
        refine x_aload_n F.1 (i := 18) rfl rfl ?_
        refine x_iconst F.1 (i := 19) rfl ic_4 ?_
        refine cal_e h (fun r4 M2 e5 h => ?_)
        refine x_cV1i F.1 (i := 20) rfl ml_Reader_82 ok_Reader_fail (lk_Reader hp0) (Nat.le_of_ble_eq_true rfl) (Nat.le_of_ble_eq_true rfl) (fun _ => t_Reader_fail hp0 e5) ?_
        refine gd_e h (fun g6 h => ?_)
        exact x_zretf F (i := 21) rfl rfl (b01_e g6) h (res := (r, M')) hQ
      · replace h := if_F c h
        refine x_iconst F.1 (i := 16) rfl ic_1 ?_
        refine x_goto F.1 (i := 17) (tgt := 39) rfl (by decide) ?_
        exact x_zretf F (i := 21) rfl rfl (Or.inr rfl) h (res := (r, M')) hQ
  · replace h := if_F c h
    refine x_aload_n F.1 (i := 4) rfl rfl ?_
    refine x_iconst F.1 (i := 5) rfl ic_2 ?_
    refine cal_e h (fun r7 M3 e8 h => ?_)
    refine x_cV1i F.1 (i := 6) rfl ml_Reader_82 ok_Reader_fail (lk_Reader hp0) (Nat.le_of_ble_eq_true rfl) (Nat.le_of_ble_eq_true rfl) (fun _ => t_Reader_fail hp0 e8) ?_
    refine gd_e h (fun g9 h => ?_)
    exact x_zretf F (i := 7) rfl rfl (b01_e g9) h (res := (r, M')) hQ
set_option maxHeartbeats 4000000 in
theorem t_TreatyText_readMeasure_l92 {w : kx_W} {d : Nat} {Q : Option Value → kx_M → Prop} {G : Nat → List (Option Value) → List Value → kx_M → Prop} (F : Sd w (d + 2) m_TreatyText_readMeasure Q G) {p1 : Nat} {p2 : Int32} (hp1 : isState p1 = true) {res : Int32 × kx_M} (hQ : Q (some (.int res.1)) res.2) :
    ∀ (x3 : Int32) (s0 : Nat) (s1 : Int32) (s2 : Int32) (hs0 : isReader s0 = true) (M : kx_M),
    f_TreatyText_readMeasure_l92 p1 p2 x3 s0 s1 s2 M = some res → G 92 [some (.ref 4), some (.ref p1), none, some (.int x3)] [.int s2, .int s1, .ref s0] M := by
  intro x3 s0 s1 s2 hs0 M h
  rw [f_TreatyText_readMeasure_l92] at h
  refine cal_e h (fun r1 M1 e2 h => ?_)
  refine x_cV2i F.1 (i := 44) rfl ml_TreatyText_94 ok_Reader_atNumber (lk_Reader hs0) (Nat.le_of_ble_eq_true rfl) (Nat.le_of_ble_eq_true rfl) (fun _ => t_Reader_atNumber hs0 e2) ?_
  refine x_if_ne F.1 (i := 45) (tgt := 100) rfl (by decide) (fun c => ?_) (fun c => ?_)
  · replace h := if_F c h
    refine x_iload_n F.1 (i := 48) rfl rfl ?_
    refine x_if_eq F.1 (i := 49) (tgt := 126) rfl (by decide) (fun c => ?_) (fun c => ?_)
    · replace h := if_T c h
      refine x_aload_n F.1 (i := 60) rfl rfl ?_
      refine x_getC F.1 (i := 61) rfl fl_TreatyText_77 (lk_State hp1) (by rfl) ?_
      refine x_aload_n F.1 (i := 62) rfl rfl ?_
      refine x_getC F.1 (i := 63) rfl fl_TreatyText_12 rfl (by rfl) ?_
      refine x_getI F.1 (i := 64) rfl fl_TreatyText_98 (lk_Reader (show isReader 5 = true from rfl)) (by rfl) ?_
      refine x_putI F.1 (i := 65) rfl fl_TreatyText_104 pf_Cloth_tough (lk_Cloth (lD_State_cloth hp1)) (by rfl) ?_
      replace h := bd_e h
      refine x_aload_n F.1 (i := 66) rfl rfl ?_
      refine x_iconst F.1 (i := 67) rfl ic_1 ?_
      refine x_putZ F.1 (i := 68) rfl fl_TreatyText_22 pf_TreatyText_toughTold rfl (by rfl) (Or.inr rfl) ?_
      replace h := bd_e h
      refine x_aload_n F.1 (i := 69) rfl rfl ?_
      refine x_getC F.1 (i := 70) rfl fl_TreatyText_12 rfl (by rfl) ?_
      refine cal_e h (fun r3 M4 e4 h => ?_)
      refine x_cV0v F.1 (i := 71) rfl ml_TreatyText_91 ok_Reader_next (lk_Reader (show isReader 5 = true from rfl)) (Nat.le_of_ble_eq_true rfl) (Nat.le_of_ble_eq_true rfl) (fun _ => t_Reader_next (show isReader 5 = true from rfl) e4) ?_
      refine x_iconst F.1 (i := 72) rfl ic_1 ?_
      exact x_zretf F (i := 73) rfl rfl (Or.inr rfl) h hQ
    · replace h := if_F c h
      refine x_aload_n F.1 (i := 50) rfl rfl ?_
      refine x_getC F.1 (i := 51) rfl fl_TreatyText_77 (lk_State hp1) (by rfl) ?_
      refine x_aload_n F.1 (i := 52) rfl rfl ?_
      refine x_getC F.1 (i := 53) rfl fl_TreatyText_12 rfl (by rfl) ?_
      refine x_getI F.1 (i := 54) rfl fl_TreatyText_98 (lk_Reader (show isReader 5 = true from rfl)) (by rfl) ?_
      refine x_putI F.1 (i := 55) rfl fl_TreatyText_101 pf_Cloth_wide (lk_Cloth (lD_State_cloth hp1)) (by rfl) ?_
      replace h := bd_e h
      refine x_aload_n F.1 (i := 56) rfl rfl ?_
      refine x_iconst F.1 (i := 57) rfl ic_1 ?_
      refine x_putZ F.1 (i := 58) rfl fl_TreatyText_18 pf_TreatyText_wideTold rfl (by rfl) (Or.inr rfl) ?_
      replace h := bd_e h
      refine x_goto F.1 (i := 59) (tgt := 145) rfl (by decide) ?_
      refine x_aload_n F.1 (i := 69) rfl rfl ?_
      refine x_getC F.1 (i := 70) rfl fl_TreatyText_12 rfl (by rfl) ?_
      refine cal_e h (fun r5 M7 e6 h => ?_)
      refine x_cV0v F.1 (i := 71) rfl ml_TreatyText_91 ok_Reader_next (lk_Reader (show isReader 5 = true from rfl)) (Nat.le_of_ble_eq_true rfl) (Nat.le_of_ble_eq_true rfl) (fun _ => t_Reader_next (show isReader 5 = true from rfl) e6) ?_
      refine x_iconst F.1 (i := 72) rfl ic_1 ?_
      exact x_zretf F (i := 73) rfl rfl (Or.inr rfl) h hQ
  · replace h := if_T c h
    refine x_iconst F.1 (i := 46) rfl ic_0 ?_
    exact x_zretf F (i := 47) rfl rfl (Or.inl rfl) h hQ
set_option maxHeartbeats 4000000 in
theorem t_TreatyText_readMeasure_l69 {w : kx_W} {d : Nat} {Q : Option Value → kx_M → Prop} {G : Nat → List (Option Value) → List Value → kx_M → Prop} (F : Sd w (d + 2) m_TreatyText_readMeasure Q G) {p1 : Nat} {p2 : Int32} (hp1 : isState p1 = true) {res : Int32 × kx_M} (hQ : Q (some (.int res.1)) res.2) :
    ∀ (x3 : Int32) (M : kx_M),
    f_TreatyText_readMeasure_l69 p1 p2 x3 M = some res → G 69 [some (.ref 4), some (.ref p1), none, some (.int x3)] [] M := by
  intro x3 M h
  rw [f_TreatyText_readMeasure_l69] at h
  refine x_aload_n F.1 (i := 33) rfl rfl ?_
  refine x_getC F.1 (i := 34) rfl fl_TreatyText_12 rfl (by rfl) ?_
  refine cal_e h (fun r1 M1 e2 h => ?_)
  refine x_cV0v F.1 (i := 35) rfl ml_TreatyText_91 ok_Reader_next (lk_Reader (show isReader 5 = true from rfl)) (Nat.le_of_ble_eq_true rfl) (Nat.le_of_ble_eq_true rfl) (fun _ => t_Reader_next (show isReader 5 = true from rfl) e2) ?_
  refine x_aload_n F.1 (i := 36) rfl rfl ?_
  refine x_getC F.1 (i := 37) rfl fl_TreatyText_12 rfl (by rfl) ?_
  refine x_iconst F.1 (i := 38) rfl ic_1 ?_
  refine x_iload_n F.1 (i := 39) rfl rfl ?_
  refine x_if_eq F.1 (i := 40) (tgt := 90) rfl (by decide) (fun c => ?_) (fun c => ?_)
  · replace h := if_T c h
    refine x_bipush F.1 (i := 43) rfl bp_50 ?_
    exact x_wk F.1 ((t_TreatyText_readMeasure_l92 F hp1 hQ) _ _ _ _ (show isReader 5 = true from rfl) _ h) ⟨rfl, rfl, rfl, trivial⟩
  · replace h := if_F c h
    refine x_bipush F.1 (i := 41) rfl bp_8 ?_
    refine x_goto F.1 (i := 42) (tgt := 92) rfl (by decide) ?_
    exact x_wk F.1 ((t_TreatyText_readMeasure_l92 F hp1 hQ) _ _ _ _ (show isReader 5 = true from rfl) _ h) ⟨rfl, rfl, rfl, trivial⟩
set_option maxHeartbeats 4000000 in
theorem t_TreatyText_readMeasure_l38 {w : kx_W} {d : Nat} {Q : Option Value → kx_M → Prop} {G : Nat → List (Option Value) → List Value → kx_M → Prop} (F : Sd w (d + 2) m_TreatyText_readMeasure Q G) {p1 : Nat} {p2 : Int32} (hp1 : isState p1 = true) {res : Int32 × kx_M} (hQ : Q (some (.int res.1)) res.2) :
    ∀ (s0 : Int32) (M : kx_M),
    f_TreatyText_readMeasure_l38 p1 p2 s0 M = some res → G 38 [some (.ref 4), some (.ref p1), none, none] [.int s0] M := by
  intro s0 M h
  rw [f_TreatyText_readMeasure_l38] at h
  refine x_istore_n F.1 (i := 18) rfl (Nat.le_of_ble_eq_true rfl) (Nat.le_of_ble_eq_true rfl) rfl ?_
  refine x_iload_n F.1 (i := 19) rfl rfl ?_
  refine x_if_eq F.1 (i := 20) (tgt := 53) rfl (by decide) (fun c => ?_) (fun c => ?_)
  · replace h := if_T c h
    refine x_aload_n F.1 (i := 25) rfl rfl ?_
    refine x_getI F.1 (i := 26) rfl fl_TreatyText_22 rfl (by rfl) ?_
    refine x_if_eq F.1 (i := 27) (tgt := 69) rfl (by decide) (fun c => ?_) (fun c => ?_)
    · replace h := if_T c h
      exact x_wk F.1 ((t_TreatyText_readMeasure_l69 F hp1 hQ) _ _ h) ⟨rfl, rfl, rfl, trivial⟩
    · replace h := if_F c h
      refine x_aload_n F.1 (i := 28) rfl rfl ?_
      refine x_getC F.1 (i := 29) rfl fl_TreatyText_12 rfl (by rfl) ?_
      refine x_iconst F.1 (i := 30) rfl ic_5 ?_
      refine cal_e h (fun r1 M1 e2 h => ?_)
      refine x_cV1i F.1 (i := 31) rfl ml_TreatyText_74 ok_Reader_fail (lk_Reader (show isReader 5 = true from rfl)) (Nat.le_of_ble_eq_true rfl) (Nat.le_of_ble_eq_true rfl) (fun _ => t_Reader_fail (show isReader 5 = true from rfl) e2) ?_
      refine gd_e h (fun g3 h => ?_)
      exact x_zretf F (i := 32) rfl rfl (b01_e g3) h hQ
  · replace h := if_F c h
    refine x_aload_n F.1 (i := 21) rfl rfl ?_
    refine x_getI F.1 (i := 22) rfl fl_TreatyText_18 rfl (by rfl) ?_
    refine x_if_eq F.1 (i := 23) (tgt := 69) rfl (by decide) (fun c => ?_) (fun c => ?_)
    · replace h := if_T c h
      exact x_wk F.1 ((t_TreatyText_readMeasure_l69 F hp1 hQ) _ _ h) ⟨rfl, rfl, rfl, trivial⟩
    · replace h := if_F c h
      refine x_goto F.1 (i := 24) (tgt := 60) rfl (by decide) ?_
      refine x_aload_n F.1 (i := 28) rfl rfl ?_
      refine x_getC F.1 (i := 29) rfl fl_TreatyText_12 rfl (by rfl) ?_
      refine x_iconst F.1 (i := 30) rfl ic_5 ?_
      refine cal_e h (fun r4 M2 e5 h => ?_)
      refine x_cV1i F.1 (i := 31) rfl ml_TreatyText_74 ok_Reader_fail (lk_Reader (show isReader 5 = true from rfl)) (Nat.le_of_ble_eq_true rfl) (Nat.le_of_ble_eq_true rfl) (fun _ => t_Reader_fail (show isReader 5 = true from rfl) e5) ?_
      refine gd_e h (fun g6 h => ?_)
      exact x_zretf F (i := 32) rfl rfl (b01_e g6) h hQ
set_option maxHeartbeats 4000000 in
theorem t_TreatyText_readMeasure {w : kx_W} {d : Nat} {M : kx_M} {Q : Option Value → kx_M → Prop} {p1 : Nat} {p2 : Int32} {r : Int32} {M' : kx_M} (hp1 : isState p1 = true) (h : f_TreatyText_readMeasure p1 p2 M = some (r, M')) (hQ : Q (some (.int r)) M') : Ct w (d + 2) m_TreatyText_readMeasure [.ref 4, .ref p1, .int p2] M Q := by
  refine mk_ct ok_TreatyText_readMeasure (Nat.le_of_ble_eq_true rfl) (fun G F => ?_)
  rw [f_TreatyText_readMeasure] at h
  show G 0 [some (.ref 4), some (.ref p1), some (.int p2), none] [] M
  refine x_aload_n F.1 (i := 0) rfl rfl ?_
  refine x_getC F.1 (i := 1) rfl fl_TreatyText_77 (lk_State hp1) (by rfl) ?_
  refine x_getI F.1 (i := 2) rfl fl_TreatyText_81 (lk_Cloth (lD_State_cloth hp1)) (by rfl) ?_
  refine x_if_gt F.1 (i := 3) (tgt := 20) rfl (by decide) (fun c => ?_) (fun c => ?_)
  · replace h := if_T c h
    refine x_aload_n F.1 (i := 8) rfl rfl ?_
    refine x_getC F.1 (i := 9) rfl fl_TreatyText_12 rfl (by rfl) ?_
    refine x_iconst F.1 (i := 10) rfl ic_2 ?_
    refine cal_e h (fun r1 M1 e2 h => ?_)
    refine x_cV1i F.1 (i := 11) rfl ml_TreatyText_74 ok_Reader_fail (lk_Reader (show isReader 5 = true from rfl)) (Nat.le_of_ble_eq_true rfl) (Nat.le_of_ble_eq_true rfl) (fun _ => t_Reader_fail (show isReader 5 = true from rfl) e2) ?_
    refine gd_e h (fun g3 h => ?_)
    exact x_zretf F (i := 12) rfl rfl (b01_e g3) h (res := (r, M')) hQ
  · replace h := if_F c h
    refine x_aload_n F.1 (i := 4) rfl rfl ?_
    refine x_getC F.1 (i := 5) rfl fl_TreatyText_53 (lk_State hp1) (by rfl) ?_
    refine x_getI F.1 (i := 6) rfl fl_TreatyText_86 (lk_Deal (lD_State_deal hp1)) (by rfl) ?_
    refine x_if_le F.1 (i := 7) (tgt := 29) rfl (by decide) (fun c => ?_) (fun c => ?_)
    · replace h := if_T c h
      refine x_iload_n F.1 (i := 13) rfl rfl ?_
      refine x_if_ne F.1 (i := 14) (tgt := 37) rfl (by decide) (fun c => ?_) (fun c => ?_)
      · replace h := if_F c h
        refine x_iconst F.1 (i := 17) rfl ic_0 ?_
        exact x_wk F.1 ((t_TreatyText_readMeasure_l38 F hp1 (res := (r, M')) hQ) _ _ h) ⟨rfl, rfl, trivial⟩
      · replace h := if_T c h
        refine x_iconst F.1 (i := 15) rfl ic_1 ?_
        refine x_goto F.1 (i := 16) (tgt := 38) rfl (by decide) ?_
        exact x_wk F.1 ((t_TreatyText_readMeasure_l38 F hp1 (res := (r, M')) hQ) _ _ h) ⟨rfl, rfl, trivial⟩
    · replace h := if_F c h
      refine x_aload_n F.1 (i := 8) rfl rfl ?_
      refine x_getC F.1 (i := 9) rfl fl_TreatyText_12 rfl (by rfl) ?_
      refine x_iconst F.1 (i := 10) rfl ic_2 ?_
      refine cal_e h (fun r4 M2 e5 h => ?_)
      refine x_cV1i F.1 (i := 11) rfl ml_TreatyText_74 ok_Reader_fail (lk_Reader (show isReader 5 = true from rfl)) (Nat.le_of_ble_eq_true rfl) (Nat.le_of_ble_eq_true rfl) (fun _ => t_Reader_fail (show isReader 5 = true from rfl) e5) ?_
      refine gd_e h (fun g6 h => ?_)
      exact x_zretf F (i := 12) rfl rfl (b01_e g6) h (res := (r, M')) hQ
set_option maxHeartbeats 4000000 in
theorem t_Reader_takeSign {w : kx_W} {d : Nat} {M : kx_M} {Q : Option Value → kx_M → Prop} {p0 : Nat} {p1 : Int32} {r : Int32} {M' : kx_M} (hp0 : isReader p0 = true) (h : f_Reader_takeSign p0 p1 M = some (r, M')) (hQ : Q (some (.int r)) M') : Ct w (d + 2) m_Reader_takeSign [.ref p0, .int p1] M Q := by
  refine mk_ct ok_Reader_takeSign (Nat.le_of_ble_eq_true rfl) (fun G F => ?_)
  rw [f_Reader_takeSign] at h
  show G 0 [some (.ref p0), some (.int p1)] [] M
  refine x_aload_n F.1 (i := 0) rfl rfl ?_
  refine x_getI F.1 (i := 1) rfl fl_Reader_29 (lk_Reader hp0) (by rfl) ?_
  refine x_iconst F.1 (i := 2) rfl ic_4 ?_
  refine x_icmp_ne F.1 (i := 3) (tgt := 16) rfl (by decide) (fun c => ?_) (fun c => ?_)
  · replace h := if_F c h
    refine x_aload_n F.1 (i := 8) rfl rfl ?_
    refine x_iconst F.1 (i := 9) rfl ic_2 ?_
    refine cal_e h (fun r6 M3 e7 h => ?_)
    refine x_cV1i F.1 (i := 10) rfl ml_Reader_82 ok_Reader_fail (lk_Reader hp0) (Nat.le_of_ble_eq_true rfl) (Nat.le_of_ble_eq_true rfl) (fun _ => t_Reader_fail hp0 e7) ?_
    refine gd_e h (fun g8 h => ?_)
    exact x_zretf F (i := 11) rfl rfl (b01_e g8) h (res := (r, M')) hQ
  · replace h := if_T c h
    refine x_aload_n F.1 (i := 4) rfl rfl ?_
    refine x_getI F.1 (i := 5) rfl fl_Reader_42 (lk_Reader hp0) (by rfl) ?_
    refine x_iload_n F.1 (i := 6) rfl rfl ?_
    refine x_icmp_eq F.1 (i := 7) (tgt := 22) rfl (by decide) (fun c => ?_) (fun c => ?_)
    · replace h := if_T c h
      refine x_aload_n F.1 (i := 12) rfl rfl ?_
      refine cal_e h (fun r1 M1 e2 h => ?_)
      refine x_cV0v F.1 (i := 13) rfl ml_Reader_69 ok_Reader_next (lk_Reader hp0) (Nat.le_of_ble_eq_true rfl) (Nat.le_of_ble_eq_true rfl) (fun _ => t_Reader_next hp0 e2) ?_
      refine x_iconst F.1 (i := 14) rfl ic_1 ?_
      exact x_zretf F (i := 15) rfl rfl (Or.inr rfl) h (res := (r, M')) hQ
    · replace h := if_F c h
      refine x_aload_n F.1 (i := 8) rfl rfl ?_
      refine x_iconst F.1 (i := 9) rfl ic_2 ?_
      refine cal_e h (fun r3 M2 e4 h => ?_)
      refine x_cV1i F.1 (i := 10) rfl ml_Reader_82 ok_Reader_fail (lk_Reader hp0) (Nat.le_of_ble_eq_true rfl) (Nat.le_of_ble_eq_true rfl) (fun _ => t_Reader_fail hp0 e4) ?_
      refine gd_e h (fun g5 h => ?_)
      exact x_zretf F (i := 11) rfl rfl (b01_e g5) h (res := (r, M')) hQ
set_option maxHeartbeats 4000000 in
theorem t_Deal_indexIn_l3 {w : kx_W} {d : Nat} {Q : Option Value → kx_M → Prop} {G : Nat → List (Option Value) → List Value → kx_M → Prop} (F : Sd w d m_Deal_indexIn Q G) {p0 : Nat} {p1 : Int32} {p2 : Int64} {res : Int32 × kx_M} (hQ : Q (some (.int res.1)) res.2) :
    ∀ (n : Nat) (x4 : Int32) (M : kx_M),
    f_Deal_indexIn_l3 p0 p1 p2 n x4 M = some res → G 3 [some (.ref p0), some (.int p1), some (.long p2), none, some (.int x4)] [] M := by
  intro n
  induction n with
  | zero =>
    intro x4 M h
    exact absurd h (by rw [f_Deal_indexIn_l3]; exact fun z => nomatch z)
  | succ n ih =>
    intro x4 M h
    rw [f_Deal_indexIn_l3] at h
    refine x_iload F.1 (i := 2) rfl rfl ?_
    refine x_iload_n F.1 (i := 3) rfl rfl ?_
    refine x_icmp_ge F.1 (i := 4) (tgt := 27) rfl (by decide) (fun c => ?_) (fun c => ?_)
    · replace h := if_T c h
      refine x_iconst F.1 (i := 15) rfl ic_n1 ?_
      exact x_iretf F (i := 16) rfl rfl h hQ
    · replace h := if_F c h
      refine x_aload_n F.1 (i := 5) rfl rfl ?_
      refine x_iload F.1 (i := 6) rfl rfl ?_
      refine gd_e h (fun g1 h => ?_)
      obtain ⟨ng1, kg1, lg1, ig1⟩ := aIb_e g1
      refine x_lald F.1 (i := 7) rfl lg1 ig1 ?_
      refine x_lload_n F.1 (i := 8) rfl rfl ?_
      refine x_lcmp F.1 (i := 9) rfl ?_
      refine x_if_ne F.1 (i := 10) (tgt := 21) rfl (by decide) (fun c => ?_) (fun c => ?_)
      · replace h := if_F c h
        refine x_iinc F.1 (i := 13) rfl rfl rfl (Nat.le_of_ble_eq_true rfl) rfl ?_
        replace h := bd_e h
        refine x_goto F.1 (i := 14) (tgt := 3) rfl (by decide) ?_
        exact x_wk F.1 (ih _ _ h) ⟨rfl, rfl, rfl, rfl, trivial⟩
      · replace h := if_T c h
        refine x_iload F.1 (i := 11) rfl rfl ?_
        exact x_iretf F (i := 12) rfl rfl h hQ
set_option maxHeartbeats 4000000 in
theorem t_Deal_indexIn {w : kx_W} {d : Nat} {M : kx_M} {Q : Option Value → kx_M → Prop} {p0 : Nat} {p1 : Int32} {p2 : Int64} {r : Int32} {M' : kx_M} (h : f_Deal_indexIn p0 p1 p2 M = some (r, M')) (hQ : Q (some (.int r)) M') : Ct w d m_Deal_indexIn [.ref p0, .int p1, .long p2] M Q := by
  refine mk_ct ok_Deal_indexIn (Nat.le_of_ble_eq_true rfl) (fun G F => ?_)
  rw [f_Deal_indexIn] at h
  show G 0 [some (.ref p0), some (.int p1), some (.long p2), none, none] [] M
  refine x_iconst F.1 (i := 0) rfl ic_0 ?_
  refine x_istore F.1 (i := 1) rfl (Nat.le_of_ble_eq_true rfl) (Nat.le_of_ble_eq_true rfl) rfl ?_
  exact x_wk F.1 ((t_Deal_indexIn_l3 F (res := (r, M')) hQ FU) _ _ h) ⟨rfl, rfl, rfl, rfl, trivial⟩
set_option maxHeartbeats 4000000 in
theorem t_Deal_queenNamed {w : kx_W} {d : Nat} {M : kx_M} {Q : Option Value → kx_M → Prop} {p0 : Nat} {p1 : Int64} {r : Int32} {M' : kx_M} (hp0 : isDeal p0 = true) (h : f_Deal_queenNamed p0 p1 M = some (r, M')) (hQ : Q (some (.int r)) M') : Ct w (d + 1) m_Deal_queenNamed [.ref p0, .long p1] M Q := by
  refine mk_ct ok_Deal_queenNamed (Nat.le_of_ble_eq_true rfl) (fun G F => ?_)
  rw [f_Deal_queenNamed] at h
  show G 0 [some (.ref p0), some (.long p1), none] [] M
  refine x_aload_n F.1 (i := 0) rfl rfl ?_
  refine x_getC F.1 (i := 1) rfl fl_Deal_15 (lk_Deal hp0) (by rfl) ?_
  refine x_aload_n F.1 (i := 2) rfl rfl ?_
  refine x_getI F.1 (i := 3) rfl fl_Deal_34 (lk_Deal hp0) (by rfl) ?_
  refine x_lload_n F.1 (i := 4) rfl rfl ?_
  refine cal_e h (fun r1 M1 e2 h => ?_)
  refine x_cS3i F.1 (i := 5) rfl ml_Deal_53 ok_Deal_indexIn (Nat.le_of_ble_eq_true rfl) (Nat.le_of_ble_eq_true rfl) (fun _ => t_Deal_indexIn e2) ?_
  exact x_iretf F (i := 6) rfl rfl h (res := (r, M')) hQ
set_option maxHeartbeats 4000000 in
theorem t_Deal_clauseNamed {w : kx_W} {d : Nat} {M : kx_M} {Q : Option Value → kx_M → Prop} {p0 : Nat} {p1 : Int64} {r : Int32} {M' : kx_M} (hp0 : isDeal p0 = true) (h : f_Deal_clauseNamed p0 p1 M = some (r, M')) (hQ : Q (some (.int r)) M') : Ct w (d + 1) m_Deal_clauseNamed [.ref p0, .long p1] M Q := by
  refine mk_ct ok_Deal_clauseNamed (Nat.le_of_ble_eq_true rfl) (fun G F => ?_)
  rw [f_Deal_clauseNamed] at h
  show G 0 [some (.ref p0), some (.long p1), none] [] M
  refine x_aload_n F.1 (i := 0) rfl rfl ?_
  refine x_getC F.1 (i := 1) rfl fl_Deal_19 (lk_Deal hp0) (by rfl) ?_
  refine x_aload_n F.1 (i := 2) rfl rfl ?_
  refine x_getI F.1 (i := 3) rfl fl_Deal_38 (lk_Deal hp0) (by rfl) ?_
  refine x_lload_n F.1 (i := 4) rfl rfl ?_
  refine cal_e h (fun r1 M1 e2 h => ?_)
  refine x_cS3i F.1 (i := 5) rfl ml_Deal_53 ok_Deal_indexIn (Nat.le_of_ble_eq_true rfl) (Nat.le_of_ble_eq_true rfl) (fun _ => t_Deal_indexIn e2) ?_
  exact x_iretf F (i := 6) rfl rfl h (res := (r, M')) hQ
set_option maxHeartbeats 4000000 in
theorem t_TreatyText_newName_l56 {w : kx_W} {d : Nat} {Q : Option Value → kx_M → Prop} {G : Nat → List (Option Value) → List Value → kx_M → Prop} (F : Sd w (d + 2) m_TreatyText_newName Q G) {p1 : Nat} (hp1 : isDeal p1 = true) {res : Int32 × kx_M} (hQ : Q (some (.int res.1)) res.2) :
    ∀ (s0 : Int32) (M : kx_M),
    f_TreatyText_newName_l56 p1 s0 M = some res → G 56 [some (.ref 4), none, none] [.int s0] M := by
  intro s0 M h
  rw [f_TreatyText_newName_l56] at h
  refine x_istore_n F.1 (i := 27) rfl (Nat.le_of_ble_eq_true rfl) (Nat.le_of_ble_eq_true rfl) rfl ?_
  refine x_iload_n F.1 (i := 28) rfl rfl ?_
  refine x_if_eq F.1 (i := 29) (tgt := 72) rfl (by decide) (fun c => ?_) (fun c => ?_)
  · replace h := if_T c h
    refine x_iconst F.1 (i := 35) rfl ic_1 ?_
    exact x_zretf F (i := 36) rfl rfl (Or.inr rfl) h hQ
  · replace h := if_F c h
    refine x_aload_n F.1 (i := 30) rfl rfl ?_
    refine x_getC F.1 (i := 31) rfl fl_TreatyText_12 rfl (by rfl) ?_
    refine x_iconst F.1 (i := 32) rfl ic_3 ?_
    refine cal_e h (fun r1 M1 e2 h => ?_)
    refine x_cV1i F.1 (i := 33) rfl ml_TreatyText_74 ok_Reader_fail (lk_Reader (show isReader 5 = true from rfl)) (Nat.le_of_ble_eq_true rfl) (Nat.le_of_ble_eq_true rfl) (fun _ => t_Reader_fail (show isReader 5 = true from rfl) e2) ?_
    refine x_goto F.1 (i := 34) (tgt := 73) rfl (by decide) ?_
    refine gd_e h (fun g3 h => ?_)
    exact x_zretf F (i := 36) rfl rfl (b01_e g3) h hQ
set_option maxHeartbeats 4000000 in
theorem t_TreatyText_newName {w : kx_W} {d : Nat} {M : kx_M} {Q : Option Value → kx_M → Prop} {p1 : Nat} {r : Int32} {M' : kx_M} (hp1 : isDeal p1 = true) (h : f_TreatyText_newName p1 M = some (r, M')) (hQ : Q (some (.int r)) M') : Ct w (d + 2) m_TreatyText_newName [.ref 4, .ref p1] M Q := by
  refine mk_ct ok_TreatyText_newName (Nat.le_of_ble_eq_true rfl) (fun G F => ?_)
  rw [f_TreatyText_newName] at h
  show G 0 [some (.ref 4), some (.ref p1), none] [] M
  refine x_aload_n F.1 (i := 0) rfl rfl ?_
  refine x_getC F.1 (i := 1) rfl fl_TreatyText_12 rfl (by rfl) ?_
  refine x_getI F.1 (i := 2) rfl fl_TreatyText_42 (lk_Reader (show isReader 5 = true from rfl)) (by rfl) ?_
  refine x_bipush F.1 (i := 3) rfl bp_26 ?_
  refine x_icmp_eq F.1 (i := 4) (tgt := 21) rfl (by decide) (fun c => ?_) (fun c => ?_)
  · replace h := if_T c h
    refine x_aload_n F.1 (i := 10) rfl rfl ?_
    refine x_aload_n F.1 (i := 11) rfl rfl ?_
    refine x_getC F.1 (i := 12) rfl fl_TreatyText_12 rfl (by rfl) ?_
    refine x_getJ F.1 (i := 13) rfl fl_TreatyText_107 (lk_Reader (show isReader 5 = true from rfl)) (by rfl) ?_
    refine cal_e h (fun r1 M1 e2 h => ?_)
    refine x_cV1i F.1 (i := 14) rfl ml_TreatyText_111 ok_Deal_queenNamed (lk_Deal hp1) (Nat.le_of_ble_eq_true rfl) (Nat.le_of_ble_eq_true rfl) (fun _ => t_Deal_queenNamed hp1 e2) ?_
    refine x_iconst F.1 (i := 15) rfl ic_n1 ?_
    refine x_icmp_ne F.1 (i := 16) (tgt := 51) rfl (by decide) (fun c => ?_) (fun c => ?_)
    · replace h := if_F c h
      refine x_iconst F.1 (i := 24) rfl ic_1 ?_
      refine x_goto F.1 (i := 25) (tgt := 56) rfl (by decide) ?_
      exact x_wk F.1 ((t_TreatyText_newName_l56 F hp1 (res := (r, M')) hQ) _ _ h) ⟨rfl, trivial⟩
    · replace h := if_T c h
      refine x_aload_n F.1 (i := 17) rfl rfl ?_
      refine x_aload_n F.1 (i := 18) rfl rfl ?_
      refine x_getC F.1 (i := 19) rfl fl_TreatyText_12 rfl (by rfl) ?_
      refine x_getJ F.1 (i := 20) rfl fl_TreatyText_107 (lk_Reader (show isReader 5 = true from rfl)) (by rfl) ?_
      refine cal_e h (fun r3 M2 e4 h => ?_)
      refine x_cV1i F.1 (i := 21) rfl ml_TreatyText_115 ok_Deal_clauseNamed (lk_Deal hp1) (Nat.le_of_ble_eq_true rfl) (Nat.le_of_ble_eq_true rfl) (fun _ => t_Deal_clauseNamed hp1 e4) ?_
      refine x_iconst F.1 (i := 22) rfl ic_n1 ?_
      refine x_icmp_eq F.1 (i := 23) (tgt := 55) rfl (by decide) (fun c => ?_) (fun c => ?_)
      · replace h := if_T c h
        refine x_iconst F.1 (i := 26) rfl ic_0 ?_
        exact x_wk F.1 ((t_TreatyText_newName_l56 F hp1 (res := (r, M')) hQ) _ _ h) ⟨rfl, trivial⟩
      · replace h := if_F c h
        refine x_iconst F.1 (i := 24) rfl ic_1 ?_
        refine x_goto F.1 (i := 25) (tgt := 56) rfl (by decide) ?_
        exact x_wk F.1 ((t_TreatyText_newName_l56 F hp1 (res := (r, M')) hQ) _ _ h) ⟨rfl, trivial⟩
  · replace h := if_F c h
    refine x_aload_n F.1 (i := 5) rfl rfl ?_
    refine x_getC F.1 (i := 6) rfl fl_TreatyText_12 rfl (by rfl) ?_
    refine x_iconst F.1 (i := 7) rfl ic_2 ?_
    refine cal_e h (fun r5 M3 e6 h => ?_)
    refine x_cV1i F.1 (i := 8) rfl ml_TreatyText_74 ok_Reader_fail (lk_Reader (show isReader 5 = true from rfl)) (Nat.le_of_ble_eq_true rfl) (Nat.le_of_ble_eq_true rfl) (fun _ => t_Reader_fail (show isReader 5 = true from rfl) e6) ?_
    refine gd_e h (fun g7 h => ?_)
    exact x_zretf F (i := 9) rfl rfl (b01_e g7) h (res := (r, M')) hQ
set_option maxHeartbeats 4000000 in
theorem t_TreatyText_readQueen {w : kx_W} {d : Nat} {M : kx_M} {Q : Option Value → kx_M → Prop} {p1 : Nat} {r : Int32} {M' : kx_M} (hp1 : isDeal p1 = true) (h : f_TreatyText_readQueen p1 M = some (r, M')) (hQ : Q (some (.int r)) M') : Ct w (d + 3) m_TreatyText_readQueen [.ref 4, .ref p1] M Q := by
  refine mk_ct ok_TreatyText_readQueen (Nat.le_of_ble_eq_true rfl) (fun G F => ?_)
  rw [f_TreatyText_readQueen] at h
  show G 0 [some (.ref 4), some (.ref p1), none] [] M
  refine x_aload_n F.1 (i := 0) rfl rfl ?_
  refine x_getI F.1 (i := 1) rfl fl_TreatyText_118 (lk_Deal hp1) (by rfl) ?_
  refine x_istore_n F.1 (i := 2) rfl (Nat.le_of_ble_eq_true rfl) (Nat.le_of_ble_eq_true rfl) rfl ?_
  replace h := bd_e h
  refine x_iload_n F.1 (i := 3) rfl rfl ?_
  refine x_iconst F.1 (i := 4) rfl ic_4 ?_
  refine x_icmp_lt F.1 (i := 5) (tgt := 20) rfl (by decide) (fun c => ?_) (fun c => ?_)
  · replace h := if_T c h
    refine x_aload_n F.1 (i := 11) rfl rfl ?_
    refine x_getC F.1 (i := 12) rfl fl_TreatyText_12 rfl (by rfl) ?_
    refine cal_e h (fun r2 M1 e3 h => ?_)
    refine x_cV0v F.1 (i := 13) rfl ml_TreatyText_91 ok_Reader_next (lk_Reader (show isReader 5 = true from rfl)) (Nat.le_of_ble_eq_true rfl) (Nat.le_of_ble_eq_true rfl) (fun _ => t_Reader_next (show isReader 5 = true from rfl) e3) ?_
    refine x_aload_n F.1 (i := 14) rfl rfl ?_
    refine x_aload_n F.1 (i := 15) rfl rfl ?_
    refine cal_e h (fun r4 M2 e5 h => ?_)
    refine x_cV1i F.1 (i := 16) rfl ml_TreatyText_121 ok_TreatyText_newName rfl (Nat.le_of_ble_eq_true rfl) (Nat.le_of_ble_eq_true rfl) (fun _ => t_TreatyText_newName hp1 e5) ?_
    refine x_if_ne F.1 (i := 17) (tgt := 37) rfl (by decide) (fun c => ?_) (fun c => ?_)
    · replace h := if_F c h
      refine x_aload_n F.1 (i := 20) rfl rfl ?_
      refine x_getC F.1 (i := 21) rfl fl_TreatyText_124 (lk_Deal hp1) (by rfl) ?_
      refine x_iload_n F.1 (i := 22) rfl rfl ?_
      refine x_aload_n F.1 (i := 23) rfl rfl ?_
      refine x_getC F.1 (i := 24) rfl fl_TreatyText_12 rfl (by rfl) ?_
      refine x_getJ F.1 (i := 25) rfl fl_TreatyText_107 (lk_Reader (show isReader 5 = true from rfl)) (by rfl) ?_
      refine gd_e h (fun g6 h => ?_)
      refine x_last F.1 (i := 26) rfl (lk_Deal_queenNames hp1) (inb_e g6) ?_
      replace h := bd_e h
      refine x_aload_n F.1 (i := 27) rfl rfl ?_
      refine x_getC F.1 (i := 28) rfl fl_TreatyText_128 (lk_Deal hp1) (by rfl) ?_
      refine x_iload_n F.1 (i := 29) rfl rfl ?_
      refine x_bipush F.1 (i := 30) rfl bp_100 ?_
      refine gd_e h (fun g7 h => ?_)
      refine x_iast F.1 (i := 31) rfl (lk_Deal_wools hp1) (inb_e g7) ?_
      replace h := bd_e h
      refine x_aload_n F.1 (i := 32) rfl rfl ?_
      refine x_dup F.1 (i := 33) rfl rfl ?_
      refine x_getI F.1 (i := 34) rfl fl_TreatyText_118 (lk_Deal hp1) (by rfl) ?_
      refine x_iconst F.1 (i := 35) rfl ic_1 ?_
      refine x_iadd F.1 (i := 36) rfl ?_
      refine x_putI F.1 (i := 37) rfl fl_TreatyText_118 pf_Deal_queens (lk_Deal hp1) (by rfl) ?_
      replace h := bd_e h
      refine x_aload_n F.1 (i := 38) rfl rfl ?_
      refine x_getC F.1 (i := 39) rfl fl_TreatyText_12 rfl (by rfl) ?_
      refine cal_e h (fun r8 M6 e9 h => ?_)
      refine x_cV0v F.1 (i := 40) rfl ml_TreatyText_91 ok_Reader_next (lk_Reader (show isReader 5 = true from rfl)) (Nat.le_of_ble_eq_true rfl) (Nat.le_of_ble_eq_true rfl) (fun _ => t_Reader_next (show isReader 5 = true from rfl) e9) ?_
      refine x_aload_n F.1 (i := 41) rfl rfl ?_
      refine x_getC F.1 (i := 42) rfl fl_TreatyText_12 rfl (by rfl) ?_
      refine x_getI F.1 (i := 43) rfl fl_TreatyText_42 (lk_Reader (show isReader 5 = true from rfl)) (by rfl) ?_
      refine x_iconst F.1 (i := 44) rfl ic_3 ?_
      refine x_icmp_eq F.1 (i := 45) (tgt := 88) rfl (by decide) (fun c => ?_) (fun c => ?_)
      · replace h := if_T c h
        refine x_aload_n F.1 (i := 48) rfl rfl ?_
        refine x_getC F.1 (i := 49) rfl fl_TreatyText_12 rfl (by rfl) ?_
        refine cal_e h (fun r10 M7 e11 h => ?_)
        refine x_cV0v F.1 (i := 50) rfl ml_TreatyText_91 ok_Reader_next (lk_Reader (show isReader 5 = true from rfl)) (Nat.le_of_ble_eq_true rfl) (Nat.le_of_ble_eq_true rfl) (fun _ => t_Reader_next (show isReader 5 = true from rfl) e11) ?_
        refine x_aload_n F.1 (i := 51) rfl rfl ?_
        refine x_getC F.1 (i := 52) rfl fl_TreatyText_12 rfl (by rfl) ?_
        refine x_iconst F.1 (i := 53) rfl ic_0 ?_
        refine x_sipush F.1 (i := 54) rfl sp_999 ?_
        refine cal_e h (fun r12 M8 e13 h => ?_)
        refine x_cV2i F.1 (i := 55) rfl ml_TreatyText_94 ok_Reader_atNumber (lk_Reader (show isReader 5 = true from rfl)) (Nat.le_of_ble_eq_true rfl) (Nat.le_of_ble_eq_true rfl) (fun _ => t_Reader_atNumber (show isReader 5 = true from rfl) e13) ?_
        refine x_if_ne F.1 (i := 56) (tgt := 111) rfl (by decide) (fun c => ?_) (fun c => ?_)
        · replace h := if_F c h
          refine x_aload_n F.1 (i := 59) rfl rfl ?_
          refine x_getC F.1 (i := 60) rfl fl_TreatyText_128 (lk_Deal hp1) (by rfl) ?_
          refine x_iload_n F.1 (i := 61) rfl rfl ?_
          refine x_aload_n F.1 (i := 62) rfl rfl ?_
          refine x_getC F.1 (i := 63) rfl fl_TreatyText_12 rfl (by rfl) ?_
          refine x_getI F.1 (i := 64) rfl fl_TreatyText_98 (lk_Reader (show isReader 5 = true from rfl)) (by rfl) ?_
          refine gd_e h (fun g14 h => ?_)
          refine x_iast F.1 (i := 65) rfl (lk_Deal_wools hp1) (inb_e g14) ?_
          replace h := bd_e h
          refine x_aload_n F.1 (i := 66) rfl rfl ?_
          refine x_getC F.1 (i := 67) rfl fl_TreatyText_12 rfl (by rfl) ?_
          refine cal_e h (fun r15 M10 e16 h => ?_)
          refine x_cV0v F.1 (i := 68) rfl ml_TreatyText_91 ok_Reader_next (lk_Reader (show isReader 5 = true from rfl)) (Nat.le_of_ble_eq_true rfl) (Nat.le_of_ble_eq_true rfl) (fun _ => t_Reader_next (show isReader 5 = true from rfl) e16) ?_
          refine x_iconst F.1 (i := 69) rfl ic_1 ?_
          exact x_zretf F (i := 70) rfl rfl (Or.inr rfl) h (res := (r, M')) hQ
        · replace h := if_T c h
          refine x_iconst F.1 (i := 57) rfl ic_0 ?_
          exact x_zretf F (i := 58) rfl rfl (Or.inl rfl) h (res := (r, M')) hQ
      · replace h := if_F c h
        refine x_iconst F.1 (i := 46) rfl ic_1 ?_
        exact x_zretf F (i := 47) rfl rfl (Or.inr rfl) h (res := (r, M')) hQ
    · replace h := if_T c h
      refine x_iconst F.1 (i := 18) rfl ic_0 ?_
      exact x_zretf F (i := 19) rfl rfl (Or.inl rfl) h (res := (r, M')) hQ
  · replace h := if_F c h
    refine x_aload_n F.1 (i := 6) rfl rfl ?_
    refine x_getC F.1 (i := 7) rfl fl_TreatyText_12 rfl (by rfl) ?_
    refine x_bipush F.1 (i := 8) rfl bp_6 ?_
    refine cal_e h (fun r17 M11 e18 h => ?_)
    refine x_cV1i F.1 (i := 9) rfl ml_TreatyText_74 ok_Reader_fail (lk_Reader (show isReader 5 = true from rfl)) (Nat.le_of_ble_eq_true rfl) (Nat.le_of_ble_eq_true rfl) (fun _ => t_Reader_fail (show isReader 5 = true from rfl) e18) ?_
    refine gd_e h (fun g19 h => ?_)
    exact x_zretf F (i := 10) rfl rfl (b01_e g19) h (res := (r, M')) hQ
set_option maxHeartbeats 4000000 in
theorem t_Reader_takeWord {w : kx_W} {d : Nat} {M : kx_M} {Q : Option Value → kx_M → Prop} {p0 : Nat} {p1 : Int32} {r : Int32} {M' : kx_M} (hp0 : isReader p0 = true) (h : f_Reader_takeWord p0 p1 M = some (r, M')) (hQ : Q (some (.int r)) M') : Ct w (d + 2) m_Reader_takeWord [.ref p0, .int p1] M Q := by
  refine mk_ct ok_Reader_takeWord (Nat.le_of_ble_eq_true rfl) (fun G F => ?_)
  rw [f_Reader_takeWord] at h
  show G 0 [some (.ref p0), some (.int p1)] [] M
  refine x_aload_n F.1 (i := 0) rfl rfl ?_
  refine x_getI F.1 (i := 1) rfl fl_Reader_32 (lk_Reader hp0) (by rfl) ?_
  refine x_iload_n F.1 (i := 2) rfl rfl ?_
  refine x_icmp_eq F.1 (i := 3) (tgt := 14) rfl (by decide) (fun c => ?_) (fun c => ?_)
  · replace h := if_T c h
    refine x_aload_n F.1 (i := 8) rfl rfl ?_
    refine cal_e h (fun r1 M1 e2 h => ?_)
    refine x_cV0v F.1 (i := 9) rfl ml_Reader_69 ok_Reader_next (lk_Reader hp0) (Nat.le_of_ble_eq_true rfl) (Nat.le_of_ble_eq_true rfl) (fun _ => t_Reader_next hp0 e2) ?_
    refine x_iconst F.1 (i := 10) rfl ic_1 ?_
    exact x_zretf F (i := 11) rfl rfl (Or.inr rfl) h (res := (r, M')) hQ
  · replace h := if_F c h
    refine x_aload_n F.1 (i := 4) rfl rfl ?_
    refine x_iconst F.1 (i := 5) rfl ic_2 ?_
    refine cal_e h (fun r3 M2 e4 h => ?_)
    refine x_cV1i F.1 (i := 6) rfl ml_Reader_82 ok_Reader_fail (lk_Reader hp0) (Nat.le_of_ble_eq_true rfl) (Nat.le_of_ble_eq_true rfl) (fun _ => t_Reader_fail hp0 e4) ?_
    refine gd_e h (fun g5 h => ?_)
    exact x_zretf F (i := 7) rfl rfl (b01_e g5) h (res := (r, M')) hQ
set_option maxHeartbeats 4000000 in
theorem t_Reader_atKind {w : kx_W} {d : Nat} {M : kx_M} {Q : Option Value → kx_M → Prop} {p0 : Nat} {r : Int32} {M' : kx_M} (hp0 : isReader p0 = true) (h : f_Reader_atKind p0 M = some (r, M')) (hQ : Q (some (.int r)) M') : Ct w d m_Reader_atKind [.ref p0] M Q := by
  refine mk_ct ok_Reader_atKind (Nat.le_of_ble_eq_true rfl) (fun G F => ?_)
  rw [f_Reader_atKind] at h
  show G 0 [some (.ref p0)] [] M
  refine x_aload_n F.1 (i := 0) rfl rfl ?_
  refine x_getI F.1 (i := 1) rfl fl_Reader_32 (lk_Reader hp0) (by rfl) ?_
  refine x_bipush F.1 (i := 2) rfl bp_10 ?_
  refine x_icmp_lt F.1 (i := 3) (tgt := 22) rfl (by decide) (fun c => ?_) (fun c => ?_)
  · replace h := if_T c h
    refine x_iconst F.1 (i := 10) rfl ic_0 ?_
    exact x_zretf F (i := 11) rfl rfl (Or.inl rfl) h (res := (r, M')) hQ
  · replace h := if_F c h
    refine x_aload_n F.1 (i := 4) rfl rfl ?_
    refine x_getI F.1 (i := 5) rfl fl_Reader_32 (lk_Reader hp0) (by rfl) ?_
    refine x_bipush F.1 (i := 6) rfl bp_14 ?_
    refine x_icmp_ge F.1 (i := 7) (tgt := 22) rfl (by decide) (fun c => ?_) (fun c => ?_)
    · replace h := if_T c h
      refine x_iconst F.1 (i := 10) rfl ic_0 ?_
      exact x_zretf F (i := 11) rfl rfl (Or.inl rfl) h (res := (r, M')) hQ
    · replace h := if_F c h
      refine x_iconst F.1 (i := 8) rfl ic_1 ?_
      refine x_goto F.1 (i := 9) (tgt := 23) rfl (by decide) ?_
      exact x_zretf F (i := 11) rfl rfl (Or.inr rfl) h (res := (r, M')) hQ
set_option maxHeartbeats 4000000 in
theorem t_TreatyText_readClause_l176 {w : kx_W} {d : Nat} {Q : Option Value → kx_M → Prop} {G : Nat → List (Option Value) → List Value → kx_M → Prop} (F : Sd w (d + 3) m_TreatyText_readClause Q G) {p1 : Nat} (hp1 : isState p1 = true) {res : Int32 × kx_M} (hQ : Q (some (.int res.1)) res.2) :
    ∀ (x2 : Nat) (x3 : Int32) (x5 : Int32) (hx2 : isDeal x2 = true) (M : kx_M),
    f_TreatyText_readClause_l176 p1 x2 x3 x5 M = some res → G 176 [some (.ref 4), none, some (.ref x2), some (.int x3), none, some (.int x5), none] [] M := by
  intro x2 x3 x5 hx2 M h
  rw [f_TreatyText_readClause_l176] at h
  refine x_aload_n F.1 (i := 90) rfl rfl ?_
  refine x_getC F.1 (i := 91) rfl fl_TreatyText_151 (lk_Deal hx2) (by rfl) ?_
  refine x_iload_n F.1 (i := 92) rfl rfl ?_
  refine x_iload F.1 (i := 93) rfl rfl ?_
  refine gd_e h (fun g1 h => ?_)
  refine x_iast F.1 (i := 94) rfl (lk_Deal_lengths hx2) (inb_e g1) ?_
  replace h := bd_e h
  refine x_iload F.1 (i := 95) rfl rfl ?_
  refine x_if_ne F.1 (i := 96) (tgt := 200) rfl (by decide) (fun c => ?_) (fun c => ?_)
  · replace h := if_F c h
    refine x_iconst F.1 (i := 102) rfl ic_1 ?_
    exact x_zretf F (i := 103) rfl rfl (Or.inr rfl) h hQ
  · replace h := if_T c h
    refine x_aload_n F.1 (i := 97) rfl rfl ?_
    refine x_getC F.1 (i := 98) rfl fl_TreatyText_12 rfl (by rfl) ?_
    refine x_iconst F.1 (i := 99) rfl ic_2 ?_
    refine cal_e h (fun r2 M2 e3 h => ?_)
    refine x_cV1i F.1 (i := 100) rfl ml_TreatyText_74 ok_Reader_fail (lk_Reader (show isReader 5 = true from rfl)) (Nat.le_of_ble_eq_true rfl) (Nat.le_of_ble_eq_true rfl) (fun _ => t_Reader_fail (show isReader 5 = true from rfl) e3) ?_
    refine x_goto F.1 (i := 101) (tgt := 201) rfl (by decide) ?_
    refine gd_e h (fun g4 h => ?_)
    exact x_zretf F (i := 103) rfl rfl (b01_e g4) h hQ
set_option maxHeartbeats 4000000 in
theorem t_TreatyText_readClause_l105 {w : kx_W} {d : Nat} {Q : Option Value → kx_M → Prop} {G : Nat → List (Option Value) → List Value → kx_M → Prop} (F : Sd w (d + 3) m_TreatyText_readClause Q G) {p1 : Nat} (hp1 : isState p1 = true) {res : Int32 × kx_M} (hQ : Q (some (.int res.1)) res.2) :
    ∀ (n : Nat) (x2 : Nat) (x3 : Int32) (x4 : Int32) (x5 : Int32) (x6 : Int32) (hx2 : isDeal x2 = true) (M : kx_M),
    f_TreatyText_readClause_l105 p1 n x2 x3 x4 x5 x6 M = some res → G 105 [some (.ref 4), none, some (.ref x2), some (.int x3), some (.int x4), some (.int x5), some (.int x6)] [] M := by
  intro n
  induction n with
  | zero =>
    intro x2 x3 x4 x5 x6 hx2 M h
    exact absurd h (by rw [f_TreatyText_readClause_l105]; exact fun z => nomatch z)
  | succ n ih =>
    intro x2 x3 x4 x5 x6 hx2 M h
    rw [f_TreatyText_readClause_l105] at h
    refine x_iload F.1 (i := 56) rfl rfl ?_
    refine x_iload F.1 (i := 57) rfl rfl ?_
    refine x_icmp_gt F.1 (i := 58) (tgt := 176) rfl (by decide) (fun c => ?_) (fun c => ?_)
    · replace h := if_T c h
      exact x_wk F.1 ((t_TreatyText_readClause_l176 F hp1 hQ) _ _ _ hx2 _ h) ⟨rfl, rfl, rfl, rfl, trivial⟩
    · replace h := if_F c h
      refine x_aload_n F.1 (i := 59) rfl rfl ?_
      refine x_getC F.1 (i := 60) rfl fl_TreatyText_12 rfl (by rfl) ?_
      refine cal_e h (fun r1 M1 e2 h => ?_)
      refine x_cV0i F.1 (i := 61) rfl ml_TreatyText_144 ok_Reader_atKind (lk_Reader (show isReader 5 = true from rfl)) (Nat.le_of_ble_eq_true rfl) (Nat.le_of_ble_eq_true rfl) (fun _ => t_Reader_atKind (show isReader 5 = true from rfl) e2) ?_
      refine x_if_eq F.1 (i := 62) (tgt := 176) rfl (by decide) (fun c => ?_) (fun c => ?_)
      · replace h := if_T c h
        exact x_wk F.1 ((t_TreatyText_readClause_l176 F hp1 hQ) _ _ _ hx2 _ h) ⟨rfl, rfl, rfl, rfl, trivial⟩
      · replace h := if_F c h
        refine x_iload F.1 (i := 63) rfl rfl ?_
        refine x_iload F.1 (i := 64) rfl rfl ?_
        refine x_icmp_lt F.1 (i := 65) (tgt := 139) rfl (by decide) (fun c => ?_) (fun c => ?_)
        · replace h := if_T c h
          refine x_aload_n F.1 (i := 71) rfl rfl ?_
          refine x_getC F.1 (i := 72) rfl fl_TreatyText_148 (lk_Deal hx2) (by rfl) ?_
          refine x_iload_n F.1 (i := 73) rfl rfl ?_
          refine x_iconst F.1 (i := 74) rfl ic_5 ?_
          refine x_imul F.1 (i := 75) rfl ?_
          refine x_iload F.1 (i := 76) rfl rfl ?_
          refine x_iadd F.1 (i := 77) rfl ?_
          refine x_aload_n F.1 (i := 78) rfl rfl ?_
          refine x_getC F.1 (i := 79) rfl fl_TreatyText_12 rfl (by rfl) ?_
          refine x_getI F.1 (i := 80) rfl fl_TreatyText_42 (lk_Reader (show isReader 5 = true from rfl)) (by rfl) ?_
          refine x_bipush F.1 (i := 81) rfl bp_10 ?_
          refine x_isub F.1 (i := 82) rfl ?_
          refine gd_e h (fun g3 h => ?_)
          refine x_iast F.1 (i := 83) rfl (lk_Deal_kinds hx2) (inb_e g3) ?_
          replace h := bd_e h
          refine x_iinc F.1 (i := 84) rfl rfl rfl (Nat.le_of_ble_eq_true rfl) rfl ?_
          replace h := bd_e h
          refine x_aload_n F.1 (i := 85) rfl rfl ?_
          refine x_getC F.1 (i := 86) rfl fl_TreatyText_12 rfl (by rfl) ?_
          refine cal_e h (fun r5 M3 e6 h => ?_)
          refine x_cV0v F.1 (i := 87) rfl ml_TreatyText_91 ok_Reader_next (lk_Reader (show isReader 5 = true from rfl)) (Nat.le_of_ble_eq_true rfl) (Nat.le_of_ble_eq_true rfl) (fun _ => t_Reader_next (show isReader 5 = true from rfl) e6) ?_
          refine x_iinc F.1 (i := 88) rfl rfl rfl (Nat.le_of_ble_eq_true rfl) rfl ?_
          replace h := bd_e h
          refine x_goto F.1 (i := 89) (tgt := 105) rfl (by decide) ?_
          exact x_wk F.1 (ih _ _ _ _ _ hx2 _ h) ⟨rfl, rfl, rfl, rfl, rfl, rfl, trivial⟩
        · replace h := if_F c h
          refine x_aload_n F.1 (i := 66) rfl rfl ?_
          refine x_getC F.1 (i := 67) rfl fl_TreatyText_12 rfl (by rfl) ?_
          refine x_bipush F.1 (i := 68) rfl bp_6 ?_
          refine cal_e h (fun r8 M4 e9 h => ?_)
          refine x_cV1i F.1 (i := 69) rfl ml_TreatyText_74 ok_Reader_fail (lk_Reader (show isReader 5 = true from rfl)) (Nat.le_of_ble_eq_true rfl) (Nat.le_of_ble_eq_true rfl) (fun _ => t_Reader_fail (show isReader 5 = true from rfl) e9) ?_
          refine gd_e h (fun g10 h => ?_)
          exact x_zretf F (i := 70) rfl rfl (b01_e g10) h hQ
set_option maxHeartbeats 4000000 in
theorem t_TreatyText_readClause {w : kx_W} {d : Nat} {M : kx_M} {Q : Option Value → kx_M → Prop} {p1 : Nat} {r : Int32} {M' : kx_M} (hp1 : isState p1 = true) (h : f_TreatyText_readClause p1 M = some (r, M')) (hQ : Q (some (.int r)) M') : Ct w (d + 3) m_TreatyText_readClause [.ref 4, .ref p1] M Q := by
  refine mk_ct ok_TreatyText_readClause (Nat.le_of_ble_eq_true rfl) (fun G F => ?_)
  rw [f_TreatyText_readClause] at h
  show G 0 [some (.ref 4), some (.ref p1), none, none, none, none, none] [] M
  refine x_aload_n F.1 (i := 0) rfl rfl ?_
  refine x_getC F.1 (i := 1) rfl fl_TreatyText_53 (lk_State hp1) (by rfl) ?_
  refine x_astore_n F.1 (i := 2) rfl (Nat.le_of_ble_eq_true rfl) (Nat.le_of_ble_eq_true rfl) rfl ?_
  replace h := bd_e h
  refine x_aload_n F.1 (i := 3) rfl rfl ?_
  refine x_getI F.1 (i := 4) rfl fl_TreatyText_86 (lk_Deal (lD_State_deal hp1)) (by rfl) ?_
  refine x_istore_n F.1 (i := 5) rfl (Nat.le_of_ble_eq_true rfl) (Nat.le_of_ble_eq_true rfl) rfl ?_
  replace h := bd_e h
  refine x_iload_n F.1 (i := 6) rfl rfl ?_
  refine x_bipush F.1 (i := 7) rfl bp_6 ?_
  refine x_icmp_lt F.1 (i := 8) (tgt := 26) rfl (by decide) (fun c => ?_) (fun c => ?_)
  · replace h := if_T c h
    refine x_aload_n F.1 (i := 14) rfl rfl ?_
    refine x_getC F.1 (i := 15) rfl fl_TreatyText_12 rfl (by rfl) ?_
    refine cal_e h (fun r3 M1 e4 h => ?_)
    refine x_cV0v F.1 (i := 16) rfl ml_TreatyText_91 ok_Reader_next (lk_Reader (show isReader 5 = true from rfl)) (Nat.le_of_ble_eq_true rfl) (Nat.le_of_ble_eq_true rfl) (fun _ => t_Reader_next (show isReader 5 = true from rfl) e4) ?_
    refine x_aload_n F.1 (i := 17) rfl rfl ?_
    refine x_aload_n F.1 (i := 18) rfl rfl ?_
    refine cal_e h (fun r5 M2 e6 h => ?_)
    refine x_cV1i F.1 (i := 19) rfl ml_TreatyText_121 ok_TreatyText_newName rfl (Nat.le_of_ble_eq_true rfl) (Nat.le_of_ble_eq_true rfl) (fun _ => t_TreatyText_newName (lD_State_deal hp1) e6) ?_
    refine x_if_ne F.1 (i := 20) (tgt := 43) rfl (by decide) (fun c => ?_) (fun c => ?_)
    · replace h := if_F c h
      refine x_aload_n F.1 (i := 23) rfl rfl ?_
      refine x_getC F.1 (i := 24) rfl fl_TreatyText_132 (lk_Deal (lD_State_deal hp1)) (by rfl) ?_
      refine x_iload_n F.1 (i := 25) rfl rfl ?_
      refine x_aload_n F.1 (i := 26) rfl rfl ?_
      refine x_getC F.1 (i := 27) rfl fl_TreatyText_12 rfl (by rfl) ?_
      refine x_getJ F.1 (i := 28) rfl fl_TreatyText_107 (lk_Reader (show isReader 5 = true from rfl)) (by rfl) ?_
      refine gd_e h (fun g7 h => ?_)
      refine x_last F.1 (i := 29) rfl (lk_Deal_clauseNames (lD_State_deal hp1)) (inb_e g7) ?_
      replace h := bd_e h
      refine x_aload_n F.1 (i := 30) rfl rfl ?_
      refine x_dup F.1 (i := 31) rfl rfl ?_
      refine x_getI F.1 (i := 32) rfl fl_TreatyText_86 (lk_Deal (lD_State_deal hp1)) (by rfl) ?_
      refine x_iconst F.1 (i := 33) rfl ic_1 ?_
      refine x_iadd F.1 (i := 34) rfl ?_
      refine x_putI F.1 (i := 35) rfl fl_TreatyText_86 pf_Deal_clauses (lk_Deal (lD_State_deal hp1)) (by rfl) ?_
      replace h := bd_e h
      refine x_aload_n F.1 (i := 36) rfl rfl ?_
      refine x_getC F.1 (i := 37) rfl fl_TreatyText_12 rfl (by rfl) ?_
      refine cal_e h (fun r8 M5 e9 h => ?_)
      refine x_cV0v F.1 (i := 38) rfl ml_TreatyText_91 ok_Reader_next (lk_Reader (show isReader 5 = true from rfl)) (Nat.le_of_ble_eq_true rfl) (Nat.le_of_ble_eq_true rfl) (fun _ => t_Reader_next (show isReader 5 = true from rfl) e9) ?_
      refine x_aload_n F.1 (i := 39) rfl rfl ?_
      refine x_getC F.1 (i := 40) rfl fl_TreatyText_12 rfl (by rfl) ?_
      refine x_iconst F.1 (i := 41) rfl ic_5 ?_
      refine cal_e h (fun r10 M6 e11 h => ?_)
      refine x_cV1i F.1 (i := 42) rfl ml_TreatyText_135 ok_Reader_takeWord (lk_Reader (show isReader 5 = true from rfl)) (Nat.le_of_ble_eq_true rfl) (Nat.le_of_ble_eq_true rfl) (fun _ => t_Reader_takeWord (show isReader 5 = true from rfl) e11) ?_
      refine x_if_ne F.1 (i := 43) (tgt := 86) rfl (by decide) (fun c => ?_) (fun c => ?_)
      · replace h := if_F c h
        refine x_iconst F.1 (i := 46) rfl ic_5 ?_
        refine x_aload_n F.1 (i := 47) rfl rfl ?_
        refine x_getC F.1 (i := 48) rfl fl_TreatyText_77 (lk_State hp1) (by rfl) ?_
        refine x_getI F.1 (i := 49) rfl fl_TreatyText_101 (lk_Cloth (lD_State_cloth hp1)) (by rfl) ?_
        refine x_mmin F.1 (i := 50) rfl jm_TreatyText_138 (Nat.le_of_ble_eq_true rfl) ?_
        refine x_istore F.1 (i := 51) rfl (Nat.le_of_ble_eq_true rfl) (Nat.le_of_ble_eq_true rfl) rfl ?_
        replace h := bd_e h
        refine x_iconst F.1 (i := 52) rfl ic_0 ?_
        refine x_istore F.1 (i := 53) rfl (Nat.le_of_ble_eq_true rfl) (Nat.le_of_ble_eq_true rfl) rfl ?_
        refine x_iconst F.1 (i := 54) rfl ic_0 ?_
        refine x_istore F.1 (i := 55) rfl (Nat.le_of_ble_eq_true rfl) (Nat.le_of_ble_eq_true rfl) rfl ?_
        exact x_wk F.1 ((t_TreatyText_readClause_l105 F hp1 (res := (r, M')) hQ FU) _ _ _ _ _ (lD_State_deal hp1) _ h) ⟨rfl, rfl, rfl, rfl, rfl, rfl, trivial⟩
      · replace h := if_T c h
        refine x_iconst F.1 (i := 44) rfl ic_0 ?_
        exact x_zretf F (i := 45) rfl rfl (Or.inl rfl) h (res := (r, M')) hQ
    · replace h := if_T c h
      refine x_iconst F.1 (i := 21) rfl ic_0 ?_
      exact x_zretf F (i := 22) rfl rfl (Or.inl rfl) h (res := (r, M')) hQ
  · replace h := if_F c h
    refine x_aload_n F.1 (i := 9) rfl rfl ?_
    refine x_getC F.1 (i := 10) rfl fl_TreatyText_12 rfl (by rfl) ?_
    refine x_bipush F.1 (i := 11) rfl bp_6 ?_
    refine cal_e h (fun r13 M7 e14 h => ?_)
    refine x_cV1i F.1 (i := 12) rfl ml_TreatyText_74 ok_Reader_fail (lk_Reader (show isReader 5 = true from rfl)) (Nat.le_of_ble_eq_true rfl) (Nat.le_of_ble_eq_true rfl) (fun _ => t_Reader_fail (show isReader 5 = true from rfl) e14) ?_
    refine gd_e h (fun g15 h => ?_)
    exact x_zretf F (i := 13) rfl rfl (b01_e g15) h (res := (r, M')) hQ
set_option maxHeartbeats 4000000 in
theorem t_TreatyText_readClauseName {w : kx_W} {d : Nat} {M : kx_M} {Q : Option Value → kx_M → Prop} {p1 : Nat} {r : Int32} {M' : kx_M} (hp1 : isDeal p1 = true) (h : f_TreatyText_readClauseName p1 M = some (r, M')) (hQ : Q (some (.int r)) M') : Ct w (d + 2) m_TreatyText_readClauseName [.ref 4, .ref p1] M Q := by
  refine mk_ct ok_TreatyText_readClauseName (Nat.le_of_ble_eq_true rfl) (fun G F => ?_)
  rw [f_TreatyText_readClauseName] at h
  show G 0 [some (.ref 4), some (.ref p1), none] [] M
  refine x_aload_n F.1 (i := 0) rfl rfl ?_
  refine x_getC F.1 (i := 1) rfl fl_TreatyText_12 rfl (by rfl) ?_
  refine x_getI F.1 (i := 2) rfl fl_TreatyText_42 (lk_Reader (show isReader 5 = true from rfl)) (by rfl) ?_
  refine x_bipush F.1 (i := 3) rfl bp_26 ?_
  refine x_icmp_eq F.1 (i := 4) (tgt := 23) rfl (by decide) (fun c => ?_) (fun c => ?_)
  · replace h := if_T c h
    refine x_aload_n F.1 (i := 12) rfl rfl ?_
    refine x_aload_n F.1 (i := 13) rfl rfl ?_
    refine x_getC F.1 (i := 14) rfl fl_TreatyText_12 rfl (by rfl) ?_
    refine x_getJ F.1 (i := 15) rfl fl_TreatyText_107 (lk_Reader (show isReader 5 = true from rfl)) (by rfl) ?_
    refine cal_e h (fun r1 M1 e2 h => ?_)
    refine x_cV1i F.1 (i := 16) rfl ml_TreatyText_115 ok_Deal_clauseNamed (lk_Deal hp1) (Nat.le_of_ble_eq_true rfl) (Nat.le_of_ble_eq_true rfl) (fun _ => t_Deal_clauseNamed hp1 e2) ?_
    refine x_istore_n F.1 (i := 17) rfl (Nat.le_of_ble_eq_true rfl) (Nat.le_of_ble_eq_true rfl) rfl ?_
    refine x_iload_n F.1 (i := 18) rfl rfl ?_
    refine x_iconst F.1 (i := 19) rfl ic_n1 ?_
    refine x_icmp_ne F.1 (i := 20) (tgt := 49) rfl (by decide) (fun c => ?_) (fun c => ?_)
    · replace h := if_F c h
      refine x_iload_n F.1 (i := 26) rfl rfl ?_
      exact x_iretf F (i := 27) rfl rfl h (res := (r, M')) hQ
    · replace h := if_T c h
      refine x_aload_n F.1 (i := 21) rfl rfl ?_
      refine x_getC F.1 (i := 22) rfl fl_TreatyText_12 rfl (by rfl) ?_
      refine x_iconst F.1 (i := 23) rfl ic_3 ?_
      refine cal_e h (fun r3 M2 e4 h => ?_)
      refine x_cV1i F.1 (i := 24) rfl ml_TreatyText_74 ok_Reader_fail (lk_Reader (show isReader 5 = true from rfl)) (Nat.le_of_ble_eq_true rfl) (Nat.le_of_ble_eq_true rfl) (fun _ => t_Reader_fail (show isReader 5 = true from rfl) e4) ?_
      refine x_pop F.1 (i := 25) rfl rfl ?_
      refine x_iload_n F.1 (i := 26) rfl rfl ?_
      exact x_iretf F (i := 27) rfl rfl h (res := (r, M')) hQ
  · replace h := if_F c h
    refine x_aload_n F.1 (i := 5) rfl rfl ?_
    refine x_getC F.1 (i := 6) rfl fl_TreatyText_12 rfl (by rfl) ?_
    refine x_iconst F.1 (i := 7) rfl ic_2 ?_
    refine cal_e h (fun r5 M3 e6 h => ?_)
    refine x_cV1i F.1 (i := 8) rfl ml_TreatyText_74 ok_Reader_fail (lk_Reader (show isReader 5 = true from rfl)) (Nat.le_of_ble_eq_true rfl) (Nat.le_of_ble_eq_true rfl) (fun _ => t_Reader_fail (show isReader 5 = true from rfl) e6) ?_
    refine x_pop F.1 (i := 9) rfl rfl ?_
    refine x_iconst F.1 (i := 10) rfl ic_n1 ?_
    exact x_iretf F (i := 11) rfl rfl h (res := (r, M')) hQ
set_option maxHeartbeats 4000000 in
theorem t_Deal_setOdds {w : kx_W} {d : Nat} {M : kx_M} {Q : Option Value → kx_M → Prop} {p0 : Nat} {p1 : Int32} {p2 : Int32} {p3 : Int32} {r : Unit} {M' : kx_M} (hp0 : isDeal p0 = true) (h : f_Deal_setOdds p0 p1 p2 p3 M = some (r, M')) (hQ : Q none M') : Ct w d m_Deal_setOdds [.ref p0, .int p1, .int p2, .int p3] M Q := by
  refine mk_ct ok_Deal_setOdds (Nat.le_of_ble_eq_true rfl) (fun G F => ?_)
  rw [f_Deal_setOdds] at h
  show G 0 [some (.ref p0), some (.int p1), some (.int p2), some (.int p3)] [] M
  refine x_aload_n F.1 (i := 0) rfl rfl ?_
  refine x_getC F.1 (i := 1) rfl fl_Deal_28 (lk_Deal hp0) (by rfl) ?_
  refine x_iload_n F.1 (i := 2) rfl rfl ?_
  refine x_bipush F.1 (i := 3) rfl bp_6 ?_
  refine x_imul F.1 (i := 4) rfl ?_
  refine x_iload_n F.1 (i := 5) rfl rfl ?_
  refine x_iadd F.1 (i := 6) rfl ?_
  refine x_iload_n F.1 (i := 7) rfl rfl ?_
  refine gd_e h (fun g1 h => ?_)
  refine x_iast F.1 (i := 8) rfl (lk_Deal_quarrels hp0) (inb_e g1) ?_
  replace h := bd_e h
  refine x_aload_n F.1 (i := 9) rfl rfl ?_
  refine x_getC F.1 (i := 10) rfl fl_Deal_28 (lk_Deal hp0) (by rfl) ?_
  refine x_iload_n F.1 (i := 11) rfl rfl ?_
  refine x_bipush F.1 (i := 12) rfl bp_6 ?_
  refine x_imul F.1 (i := 13) rfl ?_
  refine x_iload_n F.1 (i := 14) rfl rfl ?_
  refine x_iadd F.1 (i := 15) rfl ?_
  refine x_iload_n F.1 (i := 16) rfl rfl ?_
  refine gd_e h (fun g2 h => ?_)
  refine x_iast F.1 (i := 17) rfl (lk_Deal_quarrels hp0) (inb_e g2) ?_
  replace h := bd_e h
  exact x_vretf F (i := 18) rfl rfl h (res := (r, M')) hQ
set_option maxHeartbeats 4000000 in
theorem t_TreatyText_readClash {w : kx_W} {d : Nat} {M : kx_M} {Q : Option Value → kx_M → Prop} {p1 : Nat} {r : Int32} {M' : kx_M} (hp1 : isDeal p1 = true) (h : f_TreatyText_readClash p1 M = some (r, M')) (hQ : Q (some (.int r)) M') : Ct w (d + 3) m_TreatyText_readClash [.ref 4, .ref p1] M Q := by
  refine mk_ct ok_TreatyText_readClash (Nat.le_of_ble_eq_true rfl) (fun G F => ?_)
  rw [f_TreatyText_readClash] at h
  show G 0 [some (.ref 4), some (.ref p1), none, none] [] M
  refine x_aload_n F.1 (i := 0) rfl rfl ?_
  refine x_getC F.1 (i := 1) rfl fl_TreatyText_12 rfl (by rfl) ?_
  refine cal_e h (fun r1 M1 e2 h => ?_)
  refine x_cV0v F.1 (i := 2) rfl ml_TreatyText_91 ok_Reader_next (lk_Reader (show isReader 5 = true from rfl)) (Nat.le_of_ble_eq_true rfl) (Nat.le_of_ble_eq_true rfl) (fun _ => t_Reader_next (show isReader 5 = true from rfl) e2) ?_
  refine x_aload_n F.1 (i := 3) rfl rfl ?_
  refine x_aload_n F.1 (i := 4) rfl rfl ?_
  refine cal_e h (fun r3 M2 e4 h => ?_)
  refine x_cV1i F.1 (i := 5) rfl ml_TreatyText_154 ok_TreatyText_readClauseName rfl (Nat.le_of_ble_eq_true rfl) (Nat.le_of_ble_eq_true rfl) (fun _ => t_TreatyText_readClauseName hp1 e4) ?_
  refine x_istore_n F.1 (i := 6) rfl (Nat.le_of_ble_eq_true rfl) (Nat.le_of_ble_eq_true rfl) rfl ?_
  refine x_iload_n F.1 (i := 7) rfl rfl ?_
  refine x_iconst F.1 (i := 8) rfl ic_n1 ?_
  refine x_icmp_ne F.1 (i := 9) (tgt := 20) rfl (by decide) (fun c => ?_) (fun c => ?_)
  · replace h := if_F c h
    refine x_aload_n F.1 (i := 12) rfl rfl ?_
    refine x_getC F.1 (i := 13) rfl fl_TreatyText_12 rfl (by rfl) ?_
    refine cal_e h (fun r5 M3 e6 h => ?_)
    refine x_cV0v F.1 (i := 14) rfl ml_TreatyText_91 ok_Reader_next (lk_Reader (show isReader 5 = true from rfl)) (Nat.le_of_ble_eq_true rfl) (Nat.le_of_ble_eq_true rfl) (fun _ => t_Reader_next (show isReader 5 = true from rfl) e6) ?_
    refine x_aload_n F.1 (i := 15) rfl rfl ?_
    refine x_aload_n F.1 (i := 16) rfl rfl ?_
    refine cal_e h (fun r7 M4 e8 h => ?_)
    refine x_cV1i F.1 (i := 17) rfl ml_TreatyText_154 ok_TreatyText_readClauseName rfl (Nat.le_of_ble_eq_true rfl) (Nat.le_of_ble_eq_true rfl) (fun _ => t_TreatyText_readClauseName hp1 e8) ?_
    refine x_istore_n F.1 (i := 18) rfl (Nat.le_of_ble_eq_true rfl) (Nat.le_of_ble_eq_true rfl) rfl ?_
    refine x_iload_n F.1 (i := 19) rfl rfl ?_
    refine x_iconst F.1 (i := 20) rfl ic_n1 ?_
    refine x_icmp_ne F.1 (i := 21) (tgt := 40) rfl (by decide) (fun c => ?_) (fun c => ?_)
    · replace h := if_F c h
      refine x_iload_n F.1 (i := 24) rfl rfl ?_
      refine x_iload_n F.1 (i := 25) rfl rfl ?_
      refine x_icmp_ne F.1 (i := 26) (tgt := 54) rfl (by decide) (fun c => ?_) (fun c => ?_)
      · replace h := if_F c h
        refine x_aload_n F.1 (i := 32) rfl rfl ?_
        refine x_iload_n F.1 (i := 33) rfl rfl ?_
        refine x_iload_n F.1 (i := 34) rfl rfl ?_
        refine x_iconst F.1 (i := 35) rfl ic_1 ?_
        refine cal_e h (fun r12 M6 e13 h => ?_)
        refine x_cV3v F.1 (i := 36) rfl ml_TreatyText_158 ok_Deal_setOdds (lk_Deal hp1) (Nat.le_of_ble_eq_true rfl) (Nat.le_of_ble_eq_true rfl) (fun _ => t_Deal_setOdds hp1 e13) ?_
        refine x_aload_n F.1 (i := 37) rfl rfl ?_
        refine x_getC F.1 (i := 38) rfl fl_TreatyText_12 rfl (by rfl) ?_
        refine cal_e h (fun r14 M7 e15 h => ?_)
        refine x_cV0v F.1 (i := 39) rfl ml_TreatyText_91 ok_Reader_next (lk_Reader (show isReader 5 = true from rfl)) (Nat.le_of_ble_eq_true rfl) (Nat.le_of_ble_eq_true rfl) (fun _ => t_Reader_next (show isReader 5 = true from rfl) e15) ?_
        refine x_iconst F.1 (i := 40) rfl ic_1 ?_
        exact x_zretf F (i := 41) rfl rfl (Or.inr rfl) h (res := (r, M')) hQ
      · replace h := if_T c h
        refine x_aload_n F.1 (i := 27) rfl rfl ?_
        refine x_getC F.1 (i := 28) rfl fl_TreatyText_12 rfl (by rfl) ?_
        refine x_iconst F.1 (i := 29) rfl ic_5 ?_
        refine cal_e h (fun r9 M5 e10 h => ?_)
        refine x_cV1i F.1 (i := 30) rfl ml_TreatyText_74 ok_Reader_fail (lk_Reader (show isReader 5 = true from rfl)) (Nat.le_of_ble_eq_true rfl) (Nat.le_of_ble_eq_true rfl) (fun _ => t_Reader_fail (show isReader 5 = true from rfl) e10) ?_
        refine gd_e h (fun g11 h => ?_)
        exact x_zretf F (i := 31) rfl rfl (b01_e g11) h (res := (r, M')) hQ
    · replace h := if_T c h
      refine x_iconst F.1 (i := 22) rfl ic_0 ?_
      exact x_zretf F (i := 23) rfl rfl (Or.inl rfl) h (res := (r, M')) hQ
  · replace h := if_T c h
    refine x_iconst F.1 (i := 10) rfl ic_0 ?_
    exact x_zretf F (i := 11) rfl rfl (Or.inl rfl) h (res := (r, M')) hQ
set_option maxHeartbeats 4000000 in
theorem t_TreatyText_readQueenName {w : kx_W} {d : Nat} {M : kx_M} {Q : Option Value → kx_M → Prop} {p1 : Nat} {r : Int32} {M' : kx_M} (hp1 : isDeal p1 = true) (h : f_TreatyText_readQueenName p1 M = some (r, M')) (hQ : Q (some (.int r)) M') : Ct w (d + 2) m_TreatyText_readQueenName [.ref 4, .ref p1] M Q := by
  refine mk_ct ok_TreatyText_readQueenName (Nat.le_of_ble_eq_true rfl) (fun G F => ?_)
  rw [f_TreatyText_readQueenName] at h
  show G 0 [some (.ref 4), some (.ref p1), none] [] M
  refine x_aload_n F.1 (i := 0) rfl rfl ?_
  refine x_getC F.1 (i := 1) rfl fl_TreatyText_12 rfl (by rfl) ?_
  refine x_getI F.1 (i := 2) rfl fl_TreatyText_42 (lk_Reader (show isReader 5 = true from rfl)) (by rfl) ?_
  refine x_bipush F.1 (i := 3) rfl bp_26 ?_
  refine x_icmp_eq F.1 (i := 4) (tgt := 23) rfl (by decide) (fun c => ?_) (fun c => ?_)
  · replace h := if_T c h
    refine x_aload_n F.1 (i := 12) rfl rfl ?_
    refine x_aload_n F.1 (i := 13) rfl rfl ?_
    refine x_getC F.1 (i := 14) rfl fl_TreatyText_12 rfl (by rfl) ?_
    refine x_getJ F.1 (i := 15) rfl fl_TreatyText_107 (lk_Reader (show isReader 5 = true from rfl)) (by rfl) ?_
    refine cal_e h (fun r1 M1 e2 h => ?_)
    refine x_cV1i F.1 (i := 16) rfl ml_TreatyText_111 ok_Deal_queenNamed (lk_Deal hp1) (Nat.le_of_ble_eq_true rfl) (Nat.le_of_ble_eq_true rfl) (fun _ => t_Deal_queenNamed hp1 e2) ?_
    refine x_istore_n F.1 (i := 17) rfl (Nat.le_of_ble_eq_true rfl) (Nat.le_of_ble_eq_true rfl) rfl ?_
    refine x_iload_n F.1 (i := 18) rfl rfl ?_
    refine x_iconst F.1 (i := 19) rfl ic_n1 ?_
    refine x_icmp_ne F.1 (i := 20) (tgt := 49) rfl (by decide) (fun c => ?_) (fun c => ?_)
    · replace h := if_F c h
      refine x_iload_n F.1 (i := 26) rfl rfl ?_
      exact x_iretf F (i := 27) rfl rfl h (res := (r, M')) hQ
    · replace h := if_T c h
      refine x_aload_n F.1 (i := 21) rfl rfl ?_
      refine x_getC F.1 (i := 22) rfl fl_TreatyText_12 rfl (by rfl) ?_
      refine x_iconst F.1 (i := 23) rfl ic_3 ?_
      refine cal_e h (fun r3 M2 e4 h => ?_)
      refine x_cV1i F.1 (i := 24) rfl ml_TreatyText_74 ok_Reader_fail (lk_Reader (show isReader 5 = true from rfl)) (Nat.le_of_ble_eq_true rfl) (Nat.le_of_ble_eq_true rfl) (fun _ => t_Reader_fail (show isReader 5 = true from rfl) e4) ?_
      refine x_pop F.1 (i := 25) rfl rfl ?_
      refine x_iload_n F.1 (i := 26) rfl rfl ?_
      exact x_iretf F (i := 27) rfl rfl h (res := (r, M')) hQ
  · replace h := if_F c h
    refine x_aload_n F.1 (i := 5) rfl rfl ?_
    refine x_getC F.1 (i := 6) rfl fl_TreatyText_12 rfl (by rfl) ?_
    refine x_iconst F.1 (i := 7) rfl ic_2 ?_
    refine cal_e h (fun r5 M3 e6 h => ?_)
    refine x_cV1i F.1 (i := 8) rfl ml_TreatyText_74 ok_Reader_fail (lk_Reader (show isReader 5 = true from rfl)) (Nat.le_of_ble_eq_true rfl) (Nat.le_of_ble_eq_true rfl) (fun _ => t_Reader_fail (show isReader 5 = true from rfl) e6) ?_
    refine x_pop F.1 (i := 9) rfl rfl ?_
    refine x_iconst F.1 (i := 10) rfl ic_n1 ?_
    exact x_iretf F (i := 11) rfl rfl h (res := (r, M')) hQ
set_option maxHeartbeats 4000000 in
theorem t_TreatyText_readWorth {w : kx_W} {d : Nat} {M : kx_M} {Q : Option Value → kx_M → Prop} {p1 : Nat} {p2 : Int32} {r : Int32} {M' : kx_M} (hp1 : isDeal p1 = true) (h : f_TreatyText_readWorth p1 p2 M = some (r, M')) (hQ : Q (some (.int r)) M') : Ct w (d + 3) m_TreatyText_readWorth [.ref 4, .ref p1, .int p2] M Q := by
  refine mk_ct ok_TreatyText_readWorth (Nat.le_of_ble_eq_true rfl) (fun G F => ?_)
  rw [f_TreatyText_readWorth] at h
  show G 0 [some (.ref 4), some (.ref p1), some (.int p2), none, none] [] M
  refine x_aload_n F.1 (i := 0) rfl rfl ?_
  refine x_getC F.1 (i := 1) rfl fl_TreatyText_12 rfl (by rfl) ?_
  refine cal_e h (fun r1 M1 e2 h => ?_)
  refine x_cV0v F.1 (i := 2) rfl ml_TreatyText_91 ok_Reader_next (lk_Reader (show isReader 5 = true from rfl)) (Nat.le_of_ble_eq_true rfl) (Nat.le_of_ble_eq_true rfl) (fun _ => t_Reader_next (show isReader 5 = true from rfl) e2) ?_
  refine x_aload_n F.1 (i := 3) rfl rfl ?_
  refine x_aload_n F.1 (i := 4) rfl rfl ?_
  refine cal_e h (fun r3 M2 e4 h => ?_)
  refine x_cV1i F.1 (i := 5) rfl ml_TreatyText_162 ok_TreatyText_readQueenName rfl (Nat.le_of_ble_eq_true rfl) (Nat.le_of_ble_eq_true rfl) (fun _ => t_TreatyText_readQueenName hp1 e4) ?_
  refine x_istore_n F.1 (i := 6) rfl (Nat.le_of_ble_eq_true rfl) (Nat.le_of_ble_eq_true rfl) rfl ?_
  refine x_iload_n F.1 (i := 7) rfl rfl ?_
  refine x_iconst F.1 (i := 8) rfl ic_n1 ?_
  refine x_icmp_ne F.1 (i := 9) (tgt := 20) rfl (by decide) (fun c => ?_) (fun c => ?_)
  · replace h := if_F c h
    refine x_aload_n F.1 (i := 12) rfl rfl ?_
    refine x_getC F.1 (i := 13) rfl fl_TreatyText_12 rfl (by rfl) ?_
    refine cal_e h (fun r5 M3 e6 h => ?_)
    refine x_cV0v F.1 (i := 14) rfl ml_TreatyText_91 ok_Reader_next (lk_Reader (show isReader 5 = true from rfl)) (Nat.le_of_ble_eq_true rfl) (Nat.le_of_ble_eq_true rfl) (fun _ => t_Reader_next (show isReader 5 = true from rfl) e6) ?_
    refine x_aload_n F.1 (i := 15) rfl rfl ?_
    refine x_aload_n F.1 (i := 16) rfl rfl ?_
    refine cal_e h (fun r7 M4 e8 h => ?_)
    refine x_cV1i F.1 (i := 17) rfl ml_TreatyText_154 ok_TreatyText_readClauseName rfl (Nat.le_of_ble_eq_true rfl) (Nat.le_of_ble_eq_true rfl) (fun _ => t_TreatyText_readClauseName hp1 e8) ?_
    refine x_istore F.1 (i := 18) rfl (Nat.le_of_ble_eq_true rfl) (Nat.le_of_ble_eq_true rfl) rfl ?_
    refine x_iload F.1 (i := 19) rfl rfl ?_
    refine x_iconst F.1 (i := 20) rfl ic_n1 ?_
    refine x_icmp_ne F.1 (i := 21) (tgt := 42) rfl (by decide) (fun c => ?_) (fun c => ?_)
    · replace h := if_F c h
      refine x_aload_n F.1 (i := 24) rfl rfl ?_
      refine x_getC F.1 (i := 25) rfl fl_TreatyText_12 rfl (by rfl) ?_
      refine cal_e h (fun r9 M5 e10 h => ?_)
      refine x_cV0v F.1 (i := 26) rfl ml_TreatyText_91 ok_Reader_next (lk_Reader (show isReader 5 = true from rfl)) (Nat.le_of_ble_eq_true rfl) (Nat.le_of_ble_eq_true rfl) (fun _ => t_Reader_next (show isReader 5 = true from rfl) e10) ?_
      refine x_aload_n F.1 (i := 27) rfl rfl ?_
      refine x_getC F.1 (i := 28) rfl fl_TreatyText_12 rfl (by rfl) ?_
      refine x_iconst F.1 (i := 29) rfl ic_0 ?_
      refine x_bipush F.1 (i := 30) rfl bp_99 ?_
      refine cal_e h (fun r11 M6 e12 h => ?_)
      refine x_cV2i F.1 (i := 31) rfl ml_TreatyText_94 ok_Reader_atNumber (lk_Reader (show isReader 5 = true from rfl)) (Nat.le_of_ble_eq_true rfl) (Nat.le_of_ble_eq_true rfl) (fun _ => t_Reader_atNumber (show isReader 5 = true from rfl) e12) ?_
      refine x_if_ne F.1 (i := 32) (tgt := 64) rfl (by decide) (fun c => ?_) (fun c => ?_)
      · replace h := if_F c h
        refine x_aload_n F.1 (i := 35) rfl rfl ?_
        refine x_getC F.1 (i := 36) rfl fl_TreatyText_165 (lk_Deal hp1) (by rfl) ?_
        refine x_iload_n F.1 (i := 37) rfl rfl ?_
        refine x_iload F.1 (i := 38) rfl rfl ?_
        refine x_iload_n F.1 (i := 39) rfl rfl ?_
        refine cal_e h (fun r13 M7 e14 h => ?_)
        refine x_cS3i F.1 (i := 40) rfl ml_TreatyText_168 ok_Deal_worthAt (Nat.le_of_ble_eq_true rfl) (Nat.le_of_ble_eq_true rfl) (fun _ => t_Deal_worthAt e14) ?_
        refine x_aload_n F.1 (i := 41) rfl rfl ?_
        refine x_getC F.1 (i := 42) rfl fl_TreatyText_12 rfl (by rfl) ?_
        refine x_getI F.1 (i := 43) rfl fl_TreatyText_98 (lk_Reader (show isReader 5 = true from rfl)) (by rfl) ?_
        refine gd_e h (fun g15 h => ?_)
        refine x_iast F.1 (i := 44) rfl (lk_Deal_worths hp1) (inb_e g15) ?_
        replace h := bd_e h
        refine x_aload_n F.1 (i := 45) rfl rfl ?_
        refine x_getC F.1 (i := 46) rfl fl_TreatyText_12 rfl (by rfl) ?_
        refine cal_e h (fun r16 M9 e17 h => ?_)
        refine x_cV0v F.1 (i := 47) rfl ml_TreatyText_91 ok_Reader_next (lk_Reader (show isReader 5 = true from rfl)) (Nat.le_of_ble_eq_true rfl) (Nat.le_of_ble_eq_true rfl) (fun _ => t_Reader_next (show isReader 5 = true from rfl) e17) ?_
        refine x_iconst F.1 (i := 48) rfl ic_1 ?_
        exact x_zretf F (i := 49) rfl rfl (Or.inr rfl) h (res := (r, M')) hQ
      · replace h := if_T c h
        refine x_iconst F.1 (i := 33) rfl ic_0 ?_
        exact x_zretf F (i := 34) rfl rfl (Or.inl rfl) h (res := (r, M')) hQ
    · replace h := if_T c h
      refine x_iconst F.1 (i := 22) rfl ic_0 ?_
      exact x_zretf F (i := 23) rfl rfl (Or.inl rfl) h (res := (r, M')) hQ
  · replace h := if_T c h
    refine x_iconst F.1 (i := 10) rfl ic_0 ?_
    exact x_zretf F (i := 11) rfl rfl (Or.inl rfl) h (res := (r, M')) hQ
set_option maxHeartbeats 4000000 in
theorem t_TreatyText_readRun_l109 {w : kx_W} {d : Nat} {Q : Option Value → kx_M → Prop} {G : Nat → List (Option Value) → List Value → kx_M → Prop} (F : Sd w (d + 2) m_TreatyText_readRun Q G) {p1 : Nat} {p2 : Int32} (hp1 : isCloth p1 = true) {res : Int32 × kx_M} (hQ : Q (some (.int res.1)) res.2) :
    ∀ (n : Nat) (x3 : Int32) (x4 : Int32) (x5 : Int32) (M : kx_M),
    f_TreatyText_readRun_l109 p1 p2 n x3 x4 x5 M = some res → G 109 [none, some (.ref p1), some (.int p2), some (.int x3), some (.int x4), some (.int x5)] [] M := by
  intro n
  induction n with
  | zero =>
    intro x3 x4 x5 M h
    exact absurd h (by rw [f_TreatyText_readRun_l109]; exact fun z => nomatch z)
  | succ n ih =>
    intro x3 x4 x5 M h
    rw [f_TreatyText_readRun_l109] at h
    refine x_iload F.1 (i := 57) rfl rfl ?_
    refine x_iload F.1 (i := 58) rfl rfl ?_
    refine x_icmp_ge F.1 (i := 59) (tgt := 131) rfl (by decide) (fun c => ?_) (fun c => ?_)
    · replace h := if_T c h
      refine x_iload_n F.1 (i := 68) rfl rfl ?_
      refine x_iload F.1 (i := 69) rfl rfl ?_
      refine x_iadd F.1 (i := 70) rfl ?_
      exact x_iretf F (i := 71) rfl rfl h hQ
    · replace h := if_F c h
      refine x_aload_n F.1 (i := 60) rfl rfl ?_
      refine x_iload_n F.1 (i := 61) rfl rfl ?_
      refine x_iload F.1 (i := 62) rfl rfl ?_
      refine x_iadd F.1 (i := 63) rfl ?_
      refine x_iload_n F.1 (i := 64) rfl rfl ?_
      refine cal_e h (fun r1 M1 e2 h => ?_)
      refine x_cV2v F.1 (i := 65) rfl ml_TreatyText_180 ok_Cloth_lay (lk_Cloth hp1) (Nat.le_of_ble_eq_true rfl) (Nat.le_of_ble_eq_true rfl) (fun _ => t_Cloth_lay hp1 e2) ?_
      refine x_iinc F.1 (i := 66) rfl rfl rfl (Nat.le_of_ble_eq_true rfl) rfl ?_
      replace h := bd_e h
      refine x_goto F.1 (i := 67) (tgt := 109) rfl (by decide) ?_
      exact x_wk F.1 (ih _ _ _ _ h) ⟨rfl, rfl, rfl, rfl, rfl, trivial⟩
set_option maxHeartbeats 4000000 in
theorem t_TreatyText_readRun {w : kx_W} {d : Nat} {M : kx_M} {Q : Option Value → kx_M → Prop} {p1 : Nat} {p2 : Int32} {r : Int32} {M' : kx_M} (hp1 : isCloth p1 = true) (h : f_TreatyText_readRun p1 p2 M = some (r, M')) (hQ : Q (some (.int r)) M') : Ct w (d + 2) m_TreatyText_readRun [.ref 4, .ref p1, .int p2] M Q := by
  refine mk_ct ok_TreatyText_readRun (Nat.le_of_ble_eq_true rfl) (fun G F => ?_)
  rw [f_TreatyText_readRun] at h
  show G 0 [some (.ref 4), some (.ref p1), some (.int p2), none, none, none] [] M
  refine x_iload_n F.1 (i := 0) rfl rfl ?_
  refine x_aload_n F.1 (i := 1) rfl rfl ?_
  refine x_getI F.1 (i := 2) rfl fl_TreatyText_101 (lk_Cloth hp1) (by rfl) ?_
  refine x_icmp_lt F.1 (i := 3) (tgt := 20) rfl (by decide) (fun c => ?_) (fun c => ?_)
  · replace h := if_T c h
    refine x_aload_n F.1 (i := 11) rfl rfl ?_
    refine x_getC F.1 (i := 12) rfl fl_TreatyText_12 rfl (by rfl) ?_
    refine x_getI F.1 (i := 13) rfl fl_TreatyText_42 (lk_Reader (show isReader 5 = true from rfl)) (by rfl) ?_
    refine x_bipush F.1 (i := 14) rfl bp_10 ?_
    refine x_isub F.1 (i := 15) rfl ?_
    refine x_istore_n F.1 (i := 16) rfl (Nat.le_of_ble_eq_true rfl) (Nat.le_of_ble_eq_true rfl) rfl ?_
    replace h := bd_e h
    refine x_iconst F.1 (i := 17) rfl ic_1 ?_
    refine x_istore F.1 (i := 18) rfl (Nat.le_of_ble_eq_true rfl) (Nat.le_of_ble_eq_true rfl) rfl ?_
    refine x_aload_n F.1 (i := 19) rfl rfl ?_
    refine x_getC F.1 (i := 20) rfl fl_TreatyText_12 rfl (by rfl) ?_
    refine cal_e h (fun r2 M1 e3 h => ?_)
    refine x_cV0v F.1 (i := 21) rfl ml_TreatyText_91 ok_Reader_next (lk_Reader (show isReader 5 = true from rfl)) (Nat.le_of_ble_eq_true rfl) (Nat.le_of_ble_eq_true rfl) (fun _ => t_Reader_next (show isReader 5 = true from rfl) e3) ?_
    refine x_aload_n F.1 (i := 22) rfl rfl ?_
    refine x_getC F.1 (i := 23) rfl fl_TreatyText_12 rfl (by rfl) ?_
    refine x_getI F.1 (i := 24) rfl fl_TreatyText_34 (lk_Reader (show isReader 5 = true from rfl)) (by rfl) ?_
    refine x_iconst F.1 (i := 25) rfl ic_3 ?_
    refine x_icmp_ne F.1 (i := 26) (tgt := 106) rfl (by decide) (fun c => ?_) (fun c => ?_)
    · replace h := if_F c h
      refine x_iconst F.1 (i := 55) rfl ic_0 ?_
      refine x_istore F.1 (i := 56) rfl (Nat.le_of_ble_eq_true rfl) (Nat.le_of_ble_eq_true rfl) rfl ?_
      exact x_wk F.1 ((t_TreatyText_readRun_l109 F hp1 (res := (r, M')) hQ FU) _ _ _ _ h) ⟨rfl, rfl, rfl, rfl, rfl, trivial⟩
    · replace h := if_T c h
      refine x_aload_n F.1 (i := 27) rfl rfl ?_
      refine x_getC F.1 (i := 28) rfl fl_TreatyText_12 rfl (by rfl) ?_
      refine x_iconst F.1 (i := 29) rfl ic_1 ?_
      refine x_bipush F.1 (i := 30) rfl bp_8 ?_
      refine cal_e h (fun r4 M2 e5 h => ?_)
      refine x_cV2i F.1 (i := 31) rfl ml_TreatyText_94 ok_Reader_atNumber (lk_Reader (show isReader 5 = true from rfl)) (Nat.le_of_ble_eq_true rfl) (Nat.le_of_ble_eq_true rfl) (fun _ => t_Reader_atNumber (show isReader 5 = true from rfl) e5) ?_
      refine x_if_ne F.1 (i := 32) (tgt := 67) rfl (by decide) (fun c => ?_) (fun c => ?_)
      · replace h := if_F c h
        refine x_aload_n F.1 (i := 35) rfl rfl ?_
        refine x_getC F.1 (i := 36) rfl fl_TreatyText_12 rfl (by rfl) ?_
        refine x_getI F.1 (i := 37) rfl fl_TreatyText_98 (lk_Reader (show isReader 5 = true from rfl)) (by rfl) ?_
        refine x_istore F.1 (i := 38) rfl (Nat.le_of_ble_eq_true rfl) (Nat.le_of_ble_eq_true rfl) rfl ?_
        replace h := bd_e h
        refine x_iload_n F.1 (i := 39) rfl rfl ?_
        refine x_iload F.1 (i := 40) rfl rfl ?_
        refine x_iadd F.1 (i := 41) rfl ?_
        refine x_aload_n F.1 (i := 42) rfl rfl ?_
        refine x_getI F.1 (i := 43) rfl fl_TreatyText_101 (lk_Cloth hp1) (by rfl) ?_
        refine x_icmp_le F.1 (i := 44) (tgt := 99) rfl (by decide) (fun c => ?_) (fun c => ?_)
        · replace h := if_T c h
          refine x_aload_n F.1 (i := 52) rfl rfl ?_
          refine x_getC F.1 (i := 53) rfl fl_TreatyText_12 rfl (by rfl) ?_
          refine cal_e h (fun r7 M3 e8 h => ?_)
          refine x_cV0v F.1 (i := 54) rfl ml_TreatyText_91 ok_Reader_next (lk_Reader (show isReader 5 = true from rfl)) (Nat.le_of_ble_eq_true rfl) (Nat.le_of_ble_eq_true rfl) (fun _ => t_Reader_next (show isReader 5 = true from rfl) e8) ?_
          refine x_iconst F.1 (i := 55) rfl ic_0 ?_
          refine x_istore F.1 (i := 56) rfl (Nat.le_of_ble_eq_true rfl) (Nat.le_of_ble_eq_true rfl) rfl ?_
          exact x_wk F.1 ((t_TreatyText_readRun_l109 F hp1 (res := (r, M')) hQ FU) _ _ _ _ h) ⟨rfl, rfl, rfl, rfl, rfl, trivial⟩
        · replace h := if_F c h
          refine x_aload_n F.1 (i := 45) rfl rfl ?_
          refine x_getC F.1 (i := 46) rfl fl_TreatyText_12 rfl (by rfl) ?_
          refine x_bipush F.1 (i := 47) rfl bp_6 ?_
          refine cal_e h (fun r9 M4 e10 h => ?_)
          refine x_cV1i F.1 (i := 48) rfl ml_TreatyText_74 ok_Reader_fail (lk_Reader (show isReader 5 = true from rfl)) (Nat.le_of_ble_eq_true rfl) (Nat.le_of_ble_eq_true rfl) (fun _ => t_Reader_fail (show isReader 5 = true from rfl) e10) ?_
          refine x_pop F.1 (i := 49) rfl rfl ?_
          refine x_iconst F.1 (i := 50) rfl ic_n1 ?_
          exact x_iretf F (i := 51) rfl rfl h (res := (r, M')) hQ
      · replace h := if_T c h
        refine x_iconst F.1 (i := 33) rfl ic_n1 ?_
        exact x_iretf F (i := 34) rfl rfl h (res := (r, M')) hQ
  · replace h := if_F c h
    refine x_aload_n F.1 (i := 4) rfl rfl ?_
    refine x_getC F.1 (i := 5) rfl fl_TreatyText_12 rfl (by rfl) ?_
    refine x_bipush F.1 (i := 6) rfl bp_6 ?_
    refine cal_e h (fun r11 M5 e12 h => ?_)
    refine x_cV1i F.1 (i := 7) rfl ml_TreatyText_74 ok_Reader_fail (lk_Reader (show isReader 5 = true from rfl)) (Nat.le_of_ble_eq_true rfl) (Nat.le_of_ble_eq_true rfl) (fun _ => t_Reader_fail (show isReader 5 = true from rfl) e12) ?_
    refine x_pop F.1 (i := 8) rfl rfl ?_
    refine x_iconst F.1 (i := 9) rfl ic_n1 ?_
    exact x_iretf F (i := 10) rfl rfl h (res := (r, M')) hQ
