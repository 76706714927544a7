set_option maxHeartbeats 4000000 in
theorem t_RM_fault {w : kx_W} {d : Nat} {M : kx_M} {Q : Option Value → kx_M → Prop} {p1 : Int32} {r : Int32} {M' : kx_M} (h : f_RM_fault p1 M = some (r, M')) (hQ : Q (some (.int r)) M') : Ct w d m_RM_fault [.ref 135, .int p1] M Q := by
  refine mk_ct ok_RM_fault (Nat.le_of_ble_eq_true rfl) (fun G F => ?_)
  rw [f_RM_fault] at h
  show G 0 [some (.ref 135), some (.int p1)] [] M
  refine x_aload_n F.1 (i := 0) rfl rfl ?_
  refine x_iconst F.1 (i := 1) rfl ic_0 ?_
  refine x_putI F.1 (i := 2) rfl fl_RM_68 pf_RM_thrown rfl (by rfl) ?_
  replace h := bd_e h
  refine x_iload_n F.1 (i := 3) rfl rfl ?_
  refine x_if_ne F.1 (i := 4) (tgt := 16) rfl (by decide) (fun c => ?_) (fun c => ?_)
  · replace h := if_F c h
    refine x_iload_n F.1 (i := 8) rfl rfl ?_
    refine x_iconst F.1 (i := 9) rfl ic_1 ?_
    refine x_icmp_ne F.1 (i := 10) (tgt := 28) rfl (by decide) (fun c => ?_) (fun c => ?_)
    · replace h := if_F c h
      refine x_iconst F.1 (i := 14) rfl ic_n1 ?_
      exact x_iretf F (i := 15) rfl rfl h (res := (r, M')) hQ
    · replace h := if_T c h
      refine x_aload_n F.1 (i := 11) rfl rfl ?_
      refine x_getI F.1 (i := 12) rfl fl_RM_32 rfl (by rfl) ?_
      refine x_goto F.1 (i := 13) (tgt := 29) rfl (by decide) ?_
      exact x_iretf F (i := 15) rfl rfl h (res := (r, M')) hQ
  · replace h := if_T c h
    refine x_aload_n F.1 (i := 5) rfl rfl ?_
    refine x_getI F.1 (i := 6) rfl fl_RM_28 rfl (by rfl) ?_
    refine x_goto F.1 (i := 7) (tgt := 29) rfl (by decide) ?_
    exact x_iretf F (i := 15) rfl rfl h (res := (r, M')) hQ
set_option maxHeartbeats 4000000 in
theorem t_RM_look2 {w : kx_W} {d : Nat} {M : kx_M} {Q : Option Value → kx_M → Prop} {p1 : Int32} {r : Int32} {M' : kx_M} (h : f_RM_look2 p1 M = some (r, M')) (hQ : Q (some (.int r)) M') : Ct w d m_RM_look2 [.ref 135, .int p1] M Q := by
  refine mk_ct ok_RM_look2 (Nat.le_of_ble_eq_true rfl) (fun G F => ?_)
  rw [f_RM_look2] at h
  show G 0 [some (.ref 135), some (.int p1)] [] M
  refine x_iload_n F.1 (i := 0) rfl rfl ?_
  refine x_aload_n F.1 (i := 1) rfl rfl ?_
  refine x_getI F.1 (i := 2) rfl fl_RM_107 rfl (by rfl) ?_
  refine x_icmp_ge F.1 (i := 3) (tgt := 21) rfl (by decide) (fun c => ?_) (fun c => ?_)
  · replace h := if_T c h
    refine x_iconst F.1 (i := 11) rfl ic_0 ?_
    exact x_iretf F (i := 12) rfl rfl h (res := (r, M')) hQ
  · replace h := if_F c h
    refine x_aload_n F.1 (i := 4) rfl rfl ?_
    refine x_getC F.1 (i := 5) rfl fl_RM_24 rfl (by rfl) ?_
    refine x_iload_n F.1 (i := 6) rfl rfl ?_
    refine gd_e h (fun g1 h => ?_)
    refine x_bald F.1 (i := 7) rfl rfl (inb_e g1) ?_
    refine x_sipush F.1 (i := 8) rfl sp_255 ?_
    refine x_iand F.1 (i := 9) rfl ?_
    refine x_goto F.1 (i := 10) (tgt := 22) rfl (by decide) ?_
    exact x_iretf F (i := 12) rfl rfl h (res := (r, M')) hQ
set_option maxHeartbeats 4000000 in
theorem t_RM_isLetter {w : kx_W} {d : Nat} {M : kx_M} {Q : Option Value → kx_M → Prop} {p0 : Int32} {r : Int32} {M' : kx_M} (h : f_RM_isLetter p0 M = some (r, M')) (hQ : Q (some (.int r)) M') : Ct w d m_RM_isLetter [.int p0] M Q := by
  refine mk_ct ok_RM_isLetter (Nat.le_of_ble_eq_true rfl) (fun G F => ?_)
  rw [f_RM_isLetter] at h
  show G 0 [some (.int p0)] [] M
  refine x_iload_n F.1 (i := 0) rfl rfl ?_
  refine x_bipush F.1 (i := 1) rfl bp_97 ?_
  refine x_icmp_lt F.1 (i := 2) (tgt := 16) rfl (by decide) (fun c => ?_) (fun c => ?_)
  · replace h := if_T c h
    refine x_iconst F.1 (i := 8) rfl ic_0 ?_
    exact x_zretf F (i := 9) rfl rfl (Or.inl rfl) h (res := (r, M')) hQ
  · replace h := if_F c h
    refine x_iload_n F.1 (i := 3) rfl rfl ?_
    refine x_bipush F.1 (i := 4) rfl bp_122 ?_
    refine x_icmp_gt F.1 (i := 5) (tgt := 16) rfl (by decide) (fun c => ?_) (fun c => ?_)
    · replace h := if_T c h
      refine x_iconst F.1 (i := 8) rfl ic_0 ?_
      exact x_zretf F (i := 9) rfl rfl (Or.inl rfl) h (res := (r, M')) hQ
    · replace h := if_F c h
      refine x_iconst F.1 (i := 6) rfl ic_1 ?_
      refine x_goto F.1 (i := 7) (tgt := 17) rfl (by decide) ?_
      exact x_zretf F (i := 9) rfl rfl (Or.inr rfl) h (res := (r, M')) hQ
set_option maxHeartbeats 4000000 in
theorem t_RM_isDigit {w : kx_W} {d : Nat} {M : kx_M} {Q : Option Value → kx_M → Prop} {p0 : Int32} {r : Int32} {M' : kx_M} (h : f_RM_isDigit p0 M = some (r, M')) (hQ : Q (some (.int r)) M') : Ct w d m_RM_isDigit [.int p0] M Q := by
  refine mk_ct ok_RM_isDigit (Nat.le_of_ble_eq_true rfl) (fun G F => ?_)
  rw [f_RM_isDigit] at h
  show G 0 [some (.int p0)] [] M
  refine x_iload_n F.1 (i := 0) rfl rfl ?_
  refine x_bipush F.1 (i := 1) rfl bp_48 ?_
  refine x_icmp_lt F.1 (i := 2) (tgt := 16) rfl (by decide) (fun c => ?_) (fun c => ?_)
  · replace h := if_T c h
    refine x_iconst F.1 (i := 8) rfl ic_0 ?_
    exact x_zretf F (i := 9) rfl rfl (Or.inl rfl) h (res := (r, M')) hQ
  · replace h := if_F c h
    refine x_iload_n F.1 (i := 3) rfl rfl ?_
    refine x_bipush F.1 (i := 4) rfl bp_57 ?_
    refine x_icmp_gt F.1 (i := 5) (tgt := 16) rfl (by decide) (fun c => ?_) (fun c => ?_)
    · replace h := if_T c h
      refine x_iconst F.1 (i := 8) rfl ic_0 ?_
      exact x_zretf F (i := 9) rfl rfl (Or.inl rfl) h (res := (r, M')) hQ
    · replace h := if_F c h
      refine x_iconst F.1 (i := 6) rfl ic_1 ?_
      refine x_goto F.1 (i := 7) (tgt := 17) rfl (by decide) ?_
      exact x_zretf F (i := 9) rfl rfl (Or.inr rfl) h (res := (r, M')) hQ
set_option maxHeartbeats 4000000 in
theorem t_RM_isSignByte {w : kx_W} {d : Nat} {M : kx_M} {Q : Option Value → kx_M → Prop} {p1 : Int32} {r : Int32} {M' : kx_M} (h : f_RM_isSignByte p1 M = some (r, M')) (hQ : Q (some (.int r)) M') : Ct w d m_RM_isSignByte [.ref 135, .int p1] M Q := by
  refine mk_ct ok_RM_isSignByte (Nat.le_of_ble_eq_true rfl) (fun G F => ?_)
  rw [f_RM_isSignByte] at h
  show G 0 [some (.ref 135), some (.int p1)] [] M
  refine x_iload_n F.1 (i := 0) rfl rfl ?_
  refine x_bipush F.1 (i := 1) rfl bp_59 ?_
  refine x_icmp_eq F.1 (i := 2) (tgt := 24) rfl (by decide) (fun c => ?_) (fun c => ?_)
  · replace h := if_T c h
    refine x_iconst F.1 (i := 12) rfl ic_1 ?_
    refine x_goto F.1 (i := 13) (tgt := 29) rfl (by decide) ?_
    exact x_zretf F (i := 15) rfl rfl (Or.inr rfl) h (res := (r, M')) hQ
  · replace h := if_F c h
    refine x_iload_n F.1 (i := 3) rfl rfl ?_
    refine x_bipush F.1 (i := 4) rfl bp_60 ?_
    refine x_icmp_eq F.1 (i := 5) (tgt := 24) rfl (by decide) (fun c => ?_) (fun c => ?_)
    · replace h := if_T c h
      refine x_iconst F.1 (i := 12) rfl ic_1 ?_
      refine x_goto F.1 (i := 13) (tgt := 29) rfl (by decide) ?_
      exact x_zretf F (i := 15) rfl rfl (Or.inr rfl) h (res := (r, M')) hQ
    · replace h := if_F c h
      refine x_iload_n F.1 (i := 6) rfl rfl ?_
      refine x_bipush F.1 (i := 7) rfl bp_62 ?_
      refine x_icmp_eq F.1 (i := 8) (tgt := 24) rfl (by decide) (fun c => ?_) (fun c => ?_)
      · replace h := if_T c h
        refine x_iconst F.1 (i := 12) rfl ic_1 ?_
        refine x_goto F.1 (i := 13) (tgt := 29) rfl (by decide) ?_
        exact x_zretf F (i := 15) rfl rfl (Or.inr rfl) h (res := (r, M')) hQ
      · replace h := if_F c h
        refine x_iload_n F.1 (i := 9) rfl rfl ?_
        refine x_bipush F.1 (i := 10) rfl bp_61 ?_
        refine x_icmp_ne F.1 (i := 11) (tgt := 28) rfl (by decide) (fun c => ?_) (fun c => ?_)
        · replace h := if_F c h
          refine x_iconst F.1 (i := 14) rfl ic_0 ?_
          exact x_zretf F (i := 15) rfl rfl (Or.inl rfl) h (res := (r, M')) hQ
        · replace h := if_T c h
          refine x_iconst F.1 (i := 12) rfl ic_1 ?_
          refine x_goto F.1 (i := 13) (tgt := 29) rfl (by decide) ?_
          exact x_zretf F (i := 15) rfl rfl (Or.inr rfl) h (res := (r, M')) hQ
set_option maxHeartbeats 4000000 in
theorem t_RM_advance_l210 {w : kx_W} {d : Nat} {Q : Option Value → kx_M → Prop} {G : Nat → List (Option Value) → List Value → kx_M → Prop} (F : Sd w (d + 1) m_RM_advance Q G) {res : Unit × kx_M} (hQ : Q none res.2) :
    ∀ (n : Nat) (M : kx_M),
    f_RM_advance_l210 n M = some res → G 210 [some (.ref 135), none] [] M := by
  intro n
  induction n with
  | zero =>
    intro M h
    exact absurd h (by rw [f_RM_advance_l210]; exact fun z => nomatch z)
  | succ n ih =>
    intro M h
    rw [f_RM_advance_l210] at h
    refine x_aload_n F.1 (i := 105) rfl rfl ?_
    refine x_aload_n F.1 (i := 106) rfl rfl ?_
    refine x_getI F.1 (i := 107) rfl fl_RM_110 rfl (by rfl) ?_
    refine cal_e h (fun r1 M1 e2 h => ?_)
    refine x_cV1i F.1 (i := 108) rfl ml_RM_116 ok_RM_look2 rfl (Nat.le_of_ble_eq_true rfl) (Nat.le_of_ble_eq_true rfl) (fun _ => t_RM_look2 e2) ?_
    refine cal_e h (fun r3 M2 e4 h => ?_)
    refine x_cS1i F.1 (i := 109) rfl ml_RM_135 ok_RM_isDigit (Nat.le_of_ble_eq_true rfl) (Nat.le_of_ble_eq_true rfl) (fun _ => t_RM_isDigit e4) ?_
    refine x_if_eq F.1 (i := 110) (tgt := 273) rfl (by decide) (fun c => ?_) (fun c => ?_)
    · replace h := if_T c h
      refine x_aload_n F.1 (i := 138) rfl rfl ?_
      refine x_aload_n F.1 (i := 139) rfl rfl ?_
      refine x_getI F.1 (i := 140) rfl fl_RM_110 rfl (by rfl) ?_
      refine x_aload_n F.1 (i := 141) rfl rfl ?_
      refine x_getI F.1 (i := 142) rfl fl_RM_113 rfl (by rfl) ?_
      refine x_isub F.1 (i := 143) rfl ?_
      refine x_iconst F.1 (i := 144) rfl ic_4 ?_
      refine x_icmp_le F.1 (i := 145) (tgt := 291) rfl (by decide) (fun c => ?_) (fun c => ?_)
      · replace h := if_T c h
        refine x_iconst F.1 (i := 148) rfl ic_2 ?_
        refine x_putI F.1 (i := 149) rfl fl_RM_119 pf_RM_token rfl (by rfl) ?_
        replace h := bd_e h
        refine x_goto F.1 (i := 150) (tgt := 330) rfl (by decide) ?_
        exact x_vretf F (i := 169) rfl rfl h hQ
      · replace h := if_F c h
        refine x_iconst F.1 (i := 146) rfl ic_4 ?_
        refine x_goto F.1 (i := 147) (tgt := 292) rfl (by decide) ?_
        refine x_putI F.1 (i := 149) rfl fl_RM_119 pf_RM_token rfl (by rfl) ?_
        replace h := bd_e h
        refine x_goto F.1 (i := 150) (tgt := 330) rfl (by decide) ?_
        exact x_vretf F (i := 169) rfl rfl h hQ
    · replace h := if_F c h
      refine x_aload_n F.1 (i := 111) rfl rfl ?_
      refine x_getI F.1 (i := 112) rfl fl_RM_110 rfl (by rfl) ?_
      refine x_aload_n F.1 (i := 113) rfl rfl ?_
      refine x_getI F.1 (i := 114) rfl fl_RM_113 rfl (by rfl) ?_
      refine x_isub F.1 (i := 115) rfl ?_
      refine x_iconst F.1 (i := 116) rfl ic_4 ?_
      refine x_icmp_ge F.1 (i := 117) (tgt := 260) rfl (by decide) (fun c => ?_) (fun c => ?_)
      · replace h := if_T c h
        refine x_aload_n F.1 (i := 131) rfl rfl ?_
        refine x_dup F.1 (i := 132) rfl rfl ?_
        refine x_getI F.1 (i := 133) rfl fl_RM_110 rfl (by rfl) ?_
        refine x_iconst F.1 (i := 134) rfl ic_1 ?_
        refine x_iadd F.1 (i := 135) rfl ?_
        refine x_putI F.1 (i := 136) rfl fl_RM_110 pf_RM_behind rfl (by rfl) ?_
        replace h := bd_e h
        refine x_goto F.1 (i := 137) (tgt := 210) rfl (by decide) ?_
        exact x_wk F.1 (ih _ h) ⟨rfl, trivial⟩
      · replace h := if_F c h
        refine x_aload_n F.1 (i := 118) rfl rfl ?_
        refine x_bipush F.1 (i := 119) rfl bp_10 ?_
        refine x_aload_n F.1 (i := 120) rfl rfl ?_
        refine x_getI F.1 (i := 121) rfl fl_RM_138 rfl (by rfl) ?_
        refine x_imul F.1 (i := 122) rfl ?_
        refine x_aload_n F.1 (i := 123) rfl rfl ?_
        refine x_aload_n F.1 (i := 124) rfl rfl ?_
        refine x_getI F.1 (i := 125) rfl fl_RM_110 rfl (by rfl) ?_
        refine cal_e h (fun r5 M6 e6 h => ?_)
        refine x_cV1i F.1 (i := 126) rfl ml_RM_116 ok_RM_look2 rfl (Nat.le_of_ble_eq_true rfl) (Nat.le_of_ble_eq_true rfl) (fun _ => t_RM_look2 e6) ?_
        refine x_iadd F.1 (i := 127) rfl ?_
        refine x_bipush F.1 (i := 128) rfl bp_48 ?_
        refine x_isub F.1 (i := 129) rfl ?_
        refine x_putI F.1 (i := 130) rfl fl_RM_138 pf_RM_number rfl (by rfl) ?_
        replace h := bd_e h
        refine x_aload_n F.1 (i := 131) rfl rfl ?_
        refine x_dup F.1 (i := 132) rfl rfl ?_
        refine x_getI F.1 (i := 133) rfl fl_RM_110 rfl (by rfl) ?_
        refine x_iconst F.1 (i := 134) rfl ic_1 ?_
        refine x_iadd F.1 (i := 135) rfl ?_
        refine x_putI F.1 (i := 136) rfl fl_RM_110 pf_RM_behind rfl (by rfl) ?_
        replace h := bd_e h
        refine x_goto F.1 (i := 137) (tgt := 210) rfl (by decide) ?_
        exact x_wk F.1 (ih _ h) ⟨rfl, trivial⟩
set_option maxHeartbeats 4000000 in
theorem t_RM_advance_l166 {w : kx_W} {d : Nat} {Q : Option Value → kx_M → Prop} {G : Nat → List (Option Value) → List Value → kx_M → Prop} (F : Sd w (d + 1) m_RM_advance Q G) {k109 : kx_M → Option (Unit × kx_M)} {res : Unit × kx_M} (hQ : Q none res.2) (hk109 : ∀ (M : kx_M), k109 M = some res → G 109 [some (.ref 135), none] [] M) :
    ∀ (s0 : Nat) (s1 : Int64) (M : kx_M),
    f_RM_advance_l166 k109 s0 s1 M = some res → G 166 [some (.ref 135), none] [.long s1, .ref 135] M := by
  intro s0 s1 M h
  rw [f_RM_advance_l166] at h
  refine x_putJ F.1 (i := 83) rfl fl_RM_125 pf_RM_word rfl (by rfl) ?_
  replace h := bd_e h
  refine x_aload_n F.1 (i := 84) rfl rfl ?_
  refine x_dup F.1 (i := 85) rfl rfl ?_
  refine x_getI F.1 (i := 86) rfl fl_RM_110 rfl (by rfl) ?_
  refine x_iconst F.1 (i := 87) rfl ic_1 ?_
  refine x_iadd F.1 (i := 88) rfl ?_
  refine x_putI F.1 (i := 89) rfl fl_RM_110 pf_RM_behind rfl (by rfl) ?_
  replace h := bd_e h
  refine x_goto F.1 (i := 90) (tgt := 109) rfl (by decide) ?_
  exact x_wk F.1 (hk109 _ h) ⟨rfl, trivial⟩
set_option maxHeartbeats 4000000 in
theorem t_RM_advance_l109 {w : kx_W} {d : Nat} {Q : Option Value → kx_M → Prop} {G : Nat → List (Option Value) → List Value → kx_M → Prop} (F : Sd w (d + 1) m_RM_advance Q G) {res : Unit × kx_M} (hQ : Q none res.2) :
    ∀ (n : Nat) (M : kx_M),
    f_RM_advance_l109 n M = some res → G 109 [some (.ref 135), none] [] M := by
  intro n
  induction n with
  | zero =>
    intro M h
    exact absurd h (by rw [f_RM_advance_l109]; exact fun z => nomatch z)
  | succ n ih =>
    intro M h
    rw [f_RM_advance_l109] at h
    refine x_aload_n F.1 (i := 55) rfl rfl ?_
    refine x_aload_n F.1 (i := 56) rfl rfl ?_
    refine x_getI F.1 (i := 57) rfl fl_RM_110 rfl (by rfl) ?_
    refine cal_e h (fun r1 M1 e2 h => ?_)
    refine x_cV1i F.1 (i := 58) rfl ml_RM_116 ok_RM_look2 rfl (Nat.le_of_ble_eq_true rfl) (Nat.le_of_ble_eq_true rfl) (fun _ => t_RM_look2 e2) ?_
    refine cal_e h (fun r3 M2 e4 h => ?_)
    refine x_cS1i F.1 (i := 59) rfl ml_RM_122 ok_RM_isLetter (Nat.le_of_ble_eq_true rfl) (Nat.le_of_ble_eq_true rfl) (fun _ => t_RM_isLetter e4) ?_
    refine x_if_eq F.1 (i := 60) (tgt := 182) rfl (by decide) (fun c => ?_) (fun c => ?_)
    · replace h := if_T c h
      refine x_aload_n F.1 (i := 91) rfl rfl ?_
      refine x_aload_n F.1 (i := 92) rfl rfl ?_
      refine x_getI F.1 (i := 93) rfl fl_RM_110 rfl (by rfl) ?_
      refine x_aload_n F.1 (i := 94) rfl rfl ?_
      refine x_getI F.1 (i := 95) rfl fl_RM_113 rfl (by rfl) ?_
      refine x_isub F.1 (i := 96) rfl ?_
      refine x_putI F.1 (i := 97) rfl fl_RM_132 pf_RM_letters rfl (by rfl) ?_
      replace h := bd_e h
      refine x_goto F.1 (i := 98) (tgt := 330) rfl (by decide) ?_
      exact x_vretf F (i := 169) rfl rfl h hQ
    · replace h := if_F c h
      refine x_aload_n F.1 (i := 61) rfl rfl ?_
      refine x_aload_n F.1 (i := 62) rfl rfl ?_
      refine x_getI F.1 (i := 63) rfl fl_RM_110 rfl (by rfl) ?_
      refine x_aload_n F.1 (i := 64) rfl rfl ?_
      refine x_getI F.1 (i := 65) rfl fl_RM_113 rfl (by rfl) ?_
      refine x_isub F.1 (i := 66) rfl ?_
      refine x_bipush F.1 (i := 67) rfl bp_8 ?_
      refine x_icmp_ge F.1 (i := 68) (tgt := 163) rfl (by decide) (fun c => ?_) (fun c => ?_)
      · replace h := if_T c h
        refine x_ldc2_w F.1 (i := 82) rfl cl_RM_99 ?_
        exact x_wk F.1 ((t_RM_advance_l166 F hQ ih) _ _ _ h) ⟨rfl, trivial⟩
      · replace h := if_F c h
        refine x_aload_n F.1 (i := 69) rfl rfl ?_
        refine x_getJ F.1 (i := 70) rfl fl_RM_125 rfl (by rfl) ?_
        refine x_ldc2_w F.1 (i := 71) rfl cl_RM_128 ?_
        refine x_lmul F.1 (i := 72) rfl ?_
        refine x_aload_n F.1 (i := 73) rfl rfl ?_
        refine x_aload_n F.1 (i := 74) rfl rfl ?_
        refine x_getI F.1 (i := 75) rfl fl_RM_110 rfl (by rfl) ?_
        refine cal_e h (fun r5 M4 e6 h => ?_)
        refine x_cV1i F.1 (i := 76) rfl ml_RM_116 ok_RM_look2 rfl (Nat.le_of_ble_eq_true rfl) (Nat.le_of_ble_eq_true rfl) (fun _ => t_RM_look2 e6) ?_
        refine x_i2l F.1 (i := 77) rfl ?_
        refine x_ladd F.1 (i := 78) rfl ?_
        refine x_ldc2_w F.1 (i := 79) rfl cl_RM_130 ?_
        refine x_lsub F.1 (i := 80) rfl ?_
        refine x_goto F.1 (i := 81) (tgt := 166) rfl (by decide) ?_
        exact x_wk F.1 ((t_RM_advance_l166 F hQ ih) _ _ _ h) ⟨rfl, trivial⟩
set_option maxHeartbeats 4000000 in
theorem t_RM_advance_l58 {w : kx_W} {d : Nat} {Q : Option Value → kx_M → Prop} {G : Nat → List (Option Value) → List Value → kx_M → Prop} (F : Sd w (d + 1) m_RM_advance Q G) {res : Unit × kx_M} (hQ : Q none res.2) :
    ∀ (M : kx_M),
    f_RM_advance_l58 M = some res → G 58 [some (.ref 135), none] [] M := by
  intro M h
  rw [f_RM_advance_l58] at h
  refine x_aload_n F.1 (i := 28) rfl rfl ?_
  refine x_aload_n F.1 (i := 29) rfl rfl ?_
  refine x_getI F.1 (i := 30) rfl fl_RM_113 rfl (by rfl) ?_
  refine x_putI F.1 (i := 31) rfl fl_RM_110 pf_RM_behind rfl (by rfl) ?_
  replace h := bd_e h
  refine x_aload_n F.1 (i := 32) rfl rfl ?_
  refine x_getI F.1 (i := 33) rfl fl_RM_113 rfl (by rfl) ?_
  refine x_aload_n F.1 (i := 34) rfl rfl ?_
  refine x_getI F.1 (i := 35) rfl fl_RM_107 rfl (by rfl) ?_
  refine x_icmp_lt F.1 (i := 36) (tgt := 83) rfl (by decide) (fun c => ?_) (fun c => ?_)
  · replace h := if_T c h
    refine x_aload_n F.1 (i := 41) rfl rfl ?_
    refine x_aload_n F.1 (i := 42) rfl rfl ?_
    refine x_getI F.1 (i := 43) rfl fl_RM_113 rfl (by rfl) ?_
    refine cal_e h (fun r1 M2 e2 h => ?_)
    refine x_cV1i F.1 (i := 44) rfl ml_RM_116 ok_RM_look2 rfl (Nat.le_of_ble_eq_true rfl) (Nat.le_of_ble_eq_true rfl) (fun _ => t_RM_look2 e2) ?_
    refine x_istore_n F.1 (i := 45) rfl (Nat.le_of_ble_eq_true rfl) (Nat.le_of_ble_eq_true rfl) rfl ?_
    refine x_iload_n F.1 (i := 46) rfl rfl ?_
    refine cal_e h (fun r3 M3 e4 h => ?_)
    refine x_cS1i F.1 (i := 47) rfl ml_RM_122 ok_RM_isLetter (Nat.le_of_ble_eq_true rfl) (Nat.le_of_ble_eq_true rfl) (fun _ => t_RM_isLetter e4) ?_
    refine x_if_eq F.1 (i := 48) (tgt := 198) rfl (by decide) (fun c => ?_) (fun c => ?_)
    · replace h := if_T c h
      refine x_iload_n F.1 (i := 99) rfl rfl ?_
      refine cal_e h (fun r5 M4 e6 h => ?_)
      refine x_cS1i F.1 (i := 100) rfl ml_RM_135 ok_RM_isDigit (Nat.le_of_ble_eq_true rfl) (Nat.le_of_ble_eq_true rfl) (fun _ => t_RM_isDigit e6) ?_
      refine x_if_eq F.1 (i := 101) (tgt := 298) rfl (by decide) (fun c => ?_) (fun c => ?_)
      · replace h := if_T c h
        refine x_aload_n F.1 (i := 151) rfl rfl ?_
        refine x_aload_n F.1 (i := 152) rfl rfl ?_
        refine x_getI F.1 (i := 153) rfl fl_RM_113 rfl (by rfl) ?_
        refine x_iconst F.1 (i := 154) rfl ic_1 ?_
        refine x_iadd F.1 (i := 155) rfl ?_
        refine x_putI F.1 (i := 156) rfl fl_RM_110 pf_RM_behind rfl (by rfl) ?_
        replace h := bd_e h
        refine x_aload_n F.1 (i := 157) rfl rfl ?_
        refine x_iload_n F.1 (i := 158) rfl rfl ?_
        refine x_putI F.1 (i := 159) rfl fl_RM_138 pf_RM_number rfl (by rfl) ?_
        replace h := bd_e h
        refine x_aload_n F.1 (i := 160) rfl rfl ?_
        refine x_aload_n F.1 (i := 161) rfl rfl ?_
        refine x_iload_n F.1 (i := 162) rfl rfl ?_
        refine cal_e h (fun r7 M7 e8 h => ?_)
        refine x_cV1i F.1 (i := 163) rfl ml_RM_141 ok_RM_isSignByte rfl (Nat.le_of_ble_eq_true rfl) (Nat.le_of_ble_eq_true rfl) (fun _ => t_RM_isSignByte e8) ?_
        refine x_if_eq F.1 (i := 164) (tgt := 326) rfl (by decide) (fun c => ?_) (fun c => ?_)
        · replace h := if_T c h
          refine x_iconst F.1 (i := 167) rfl ic_4 ?_
          refine x_putI F.1 (i := 168) rfl fl_RM_119 pf_RM_token rfl (by rfl) ?_
          replace h := bd_e h
          exact x_vretf F (i := 169) rfl rfl h hQ
        · replace h := if_F c h
          refine x_iconst F.1 (i := 165) rfl ic_3 ?_
          refine x_goto F.1 (i := 166) (tgt := 327) rfl (by decide) ?_
          refine x_putI F.1 (i := 168) rfl fl_RM_119 pf_RM_token rfl (by rfl) ?_
          replace h := bd_e h
          exact x_vretf F (i := 169) rfl rfl h hQ
      · replace h := if_F c h
        refine x_aload_n F.1 (i := 102) rfl rfl ?_
        refine x_iconst F.1 (i := 103) rfl ic_0 ?_
        refine x_putI F.1 (i := 104) rfl fl_RM_138 pf_RM_number rfl (by rfl) ?_
        replace h := bd_e h
        exact x_wk F.1 ((t_RM_advance_l210 F hQ FU) _ h) ⟨rfl, trivial⟩
    · replace h := if_F c h
      refine x_aload_n F.1 (i := 49) rfl rfl ?_
      refine x_iconst F.1 (i := 50) rfl ic_1 ?_
      refine x_putI F.1 (i := 51) rfl fl_RM_119 pf_RM_token rfl (by rfl) ?_
      replace h := bd_e h
      refine x_aload_n F.1 (i := 52) rfl rfl ?_
      refine x_lconst F.1 (i := 53) (v := 0) rfl rfl ?_
      refine x_putJ F.1 (i := 54) rfl fl_RM_125 pf_RM_word rfl (by rfl) ?_
      replace h := bd_e h
      exact x_wk F.1 ((t_RM_advance_l109 F hQ FU) _ h) ⟨rfl, trivial⟩
  · replace h := if_F c h
    refine x_aload_n F.1 (i := 37) rfl rfl ?_
    refine x_iconst F.1 (i := 38) rfl ic_0 ?_
    refine x_putI F.1 (i := 39) rfl fl_RM_119 pf_RM_token rfl (by rfl) ?_
    replace h := bd_e h
    exact x_vretf F (i := 40) rfl rfl h hQ
set_option maxHeartbeats 4000000 in
theorem t_RM_advance_l8 {w : kx_W} {d : Nat} {Q : Option Value → kx_M → Prop} {G : Nat → List (Option Value) → List Value → kx_M → Prop} (F : Sd w (d + 1) m_RM_advance Q G) {res : Unit × kx_M} (hQ : Q none res.2) :
    ∀ (n : Nat) (M : kx_M),
    f_RM_advance_l8 n M = some res → G 8 [some (.ref 135), none] [] M := by
  intro n
  induction n with
  | zero =>
    intro M h
    exact absurd h (by rw [f_RM_advance_l8]; exact fun z => nomatch z)
  | succ n ih =>
    intro M h
    rw [f_RM_advance_l8] at h
    refine x_aload_n F.1 (i := 4) rfl rfl ?_
    refine x_getI F.1 (i := 5) rfl fl_RM_113 rfl (by rfl) ?_
    refine x_aload_n F.1 (i := 6) rfl rfl ?_
    refine x_getI F.1 (i := 7) rfl fl_RM_107 rfl (by rfl) ?_
    refine x_icmp_ge F.1 (i := 8) (tgt := 58) rfl (by decide) (fun c => ?_) (fun c => ?_)
    · replace h := if_T c h
      exact x_wk F.1 ((t_RM_advance_l58 F hQ) _ h) ⟨rfl, trivial⟩
    · replace h := if_F c h
      refine x_aload_n F.1 (i := 9) rfl rfl ?_
      refine x_aload_n F.1 (i := 10) rfl rfl ?_
      refine x_getI F.1 (i := 11) rfl fl_RM_113 rfl (by rfl) ?_
      refine cal_e h (fun r1 M1 e2 h => ?_)
      refine x_cV1i F.1 (i := 12) rfl ml_RM_116 ok_RM_look2 rfl (Nat.le_of_ble_eq_true rfl) (Nat.le_of_ble_eq_true rfl) (fun _ => t_RM_look2 e2) ?_
      refine x_bipush F.1 (i := 13) rfl bp_10 ?_
      refine x_icmp_eq F.1 (i := 14) (tgt := 45) rfl (by decide) (fun c => ?_) (fun c => ?_)
      · replace h := if_T c h
        refine x_aload_n F.1 (i := 21) rfl rfl ?_
        refine x_dup F.1 (i := 22) rfl rfl ?_
        refine x_getI F.1 (i := 23) rfl fl_RM_113 rfl (by rfl) ?_
        refine x_iconst F.1 (i := 24) rfl ic_1 ?_
        refine x_iadd F.1 (i := 25) rfl ?_
        refine x_putI F.1 (i := 26) rfl fl_RM_113 pf_RM_at rfl (by rfl) ?_
        replace h := bd_e h
        refine x_goto F.1 (i := 27) (tgt := 8) rfl (by decide) ?_
        exact x_wk F.1 (ih _ h) ⟨rfl, trivial⟩
      · replace h := if_F c h
        refine x_aload_n F.1 (i := 15) rfl rfl ?_
        refine x_aload_n F.1 (i := 16) rfl rfl ?_
        refine x_getI F.1 (i := 17) rfl fl_RM_113 rfl (by rfl) ?_
        refine cal_e h (fun r3 M3 e4 h => ?_)
        refine x_cV1i F.1 (i := 18) rfl ml_RM_116 ok_RM_look2 rfl (Nat.le_of_ble_eq_true rfl) (Nat.le_of_ble_eq_true rfl) (fun _ => t_RM_look2 e4) ?_
        refine x_bipush F.1 (i := 19) rfl bp_32 ?_
        refine x_icmp_ne F.1 (i := 20) (tgt := 58) rfl (by decide) (fun c => ?_) (fun c => ?_)
        · replace h := if_F c h
          exact x_wk F.1 ((t_RM_advance_l58 F hQ) _ h) ⟨rfl, trivial⟩
        · replace h := if_T c h
          refine x_aload_n F.1 (i := 21) rfl rfl ?_
          refine x_dup F.1 (i := 22) rfl rfl ?_
          refine x_getI F.1 (i := 23) rfl fl_RM_113 rfl (by rfl) ?_
          refine x_iconst F.1 (i := 24) rfl ic_1 ?_
          refine x_iadd F.1 (i := 25) rfl ?_
          refine x_putI F.1 (i := 26) rfl fl_RM_113 pf_RM_at rfl (by rfl) ?_
          replace h := bd_e h
          refine x_goto F.1 (i := 27) (tgt := 8) rfl (by decide) ?_
          exact x_wk F.1 (ih _ h) ⟨rfl, trivial⟩
set_option maxHeartbeats 4000000 in
theorem t_RM_advance {w : kx_W} {d : Nat} {M : kx_M} {Q : Option Value → kx_M → Prop} {r : Unit} {M' : kx_M} (h : f_RM_advance M = some (r, M')) (hQ : Q none M') : Ct w (d + 1) m_RM_advance [.ref 135] M Q := by
  refine mk_ct ok_RM_advance (Nat.le_of_ble_eq_true rfl) (fun G F => ?_)
  rw [f_RM_advance] at h
  show G 0 [some (.ref 135), none] [] M
  refine x_aload_n F.1 (i := 0) rfl rfl ?_
  refine x_aload_n F.1 (i := 1) rfl rfl ?_
  refine x_getI F.1 (i := 2) rfl fl_RM_110 rfl (by rfl) ?_
  refine x_putI F.1 (i := 3) rfl fl_RM_113 pf_RM_at rfl (by rfl) ?_
  replace h := bd_e h
  exact x_wk F.1 ((t_RM_advance_l8 F (res := (r, M')) hQ FU) _ h) ⟨rfl, trivial⟩
set_option maxHeartbeats 4000000 in
theorem t_RM_starts {w : kx_W} {d : Nat} {M : kx_M} {Q : Option Value → kx_M → Prop} {p1 : Int32} {p2 : Int32} {r : Int32} {M' : kx_M} (h : f_RM_starts p1 p2 M = some (r, M')) (hQ : Q (some (.int r)) M') : Ct w (d + 2) m_RM_starts [.ref 135, .int p1, .int p2] M Q := by
  refine mk_ct ok_RM_starts (Nat.le_of_ble_eq_true rfl) (fun G F => ?_)
  rw [f_RM_starts] at h
  show G 0 [some (.ref 135), some (.int p1), some (.int p2)] [] M
  refine x_iload_n F.1 (i := 0) rfl rfl ?_
  refine x_if_lt F.1 (i := 1) (tgt := 17) rfl (by decide) (fun c => ?_) (fun c => ?_)
  · replace h := if_T c h
    refine x_aload_n F.1 (i := 9) rfl rfl ?_
    refine x_iconst F.1 (i := 10) rfl ic_5 ?_
    refine cal_e h (fun r1 M1 e2 h => ?_)
    refine x_cV1i F.1 (i := 11) rfl ml_RM_83 ok_RM_no rfl (Nat.le_of_ble_eq_true rfl) (Nat.le_of_ble_eq_true rfl) (fun _ => t_RM_no e2) ?_
    refine gd_e h (fun g3 h => ?_)
    exact x_zretf F (i := 12) rfl rfl (b01_e g3) h (res := (r, M')) hQ
  · replace h := if_F c h
    refine x_iload_n F.1 (i := 2) rfl rfl ?_
    refine x_aload_n F.1 (i := 3) rfl rfl ?_
    refine x_getI F.1 (i := 4) rfl fl_RM_215 rfl (by rfl) ?_
    refine x_icmp_gt F.1 (i := 5) (tgt := 17) rfl (by decide) (fun c => ?_) (fun c => ?_)
    · replace h := if_T c h
      refine x_aload_n F.1 (i := 9) rfl rfl ?_
      refine x_iconst F.1 (i := 10) rfl ic_5 ?_
      refine cal_e h (fun r4 M2 e5 h => ?_)
      refine x_cV1i F.1 (i := 11) rfl ml_RM_83 ok_RM_no rfl (Nat.le_of_ble_eq_true rfl) (Nat.le_of_ble_eq_true rfl) (fun _ => t_RM_no e5) ?_
      refine gd_e h (fun g6 h => ?_)
      exact x_zretf F (i := 12) rfl rfl (b01_e g6) h (res := (r, M')) hQ
    · replace h := if_F c h
      refine x_iload_n F.1 (i := 6) rfl rfl ?_
      refine x_iload_n F.1 (i := 7) rfl rfl ?_
      refine x_icmp_le F.1 (i := 8) (tgt := 23) rfl (by decide) (fun c => ?_) (fun c => ?_)
      · replace h := if_T c h
        refine x_aload_n F.1 (i := 13) rfl rfl ?_
        refine x_iload_n F.1 (i := 14) rfl rfl ?_
        refine x_putI F.1 (i := 15) rfl fl_RM_107 pf_RM_textEnd rfl (by rfl) ?_
        replace h := bd_e h
        refine x_aload_n F.1 (i := 16) rfl rfl ?_
        refine x_iconst F.1 (i := 17) rfl ic_0 ?_
        refine x_putI F.1 (i := 18) rfl fl_RM_215 pf_RM_taped rfl (by rfl) ?_
        replace h := bd_e h
        refine x_aload_n F.1 (i := 19) rfl rfl ?_
        refine x_iconst F.1 (i := 20) rfl ic_0 ?_
        refine x_putI F.1 (i := 21) rfl fl_RM_110 pf_RM_behind rfl (by rfl) ?_
        replace h := bd_e h
        refine x_aload_n F.1 (i := 22) rfl rfl ?_
        refine x_iconst F.1 (i := 23) rfl ic_0 ?_
        refine x_putI F.1 (i := 24) rfl fl_RM_199 pf_RM_bad rfl (by rfl) ?_
        replace h := bd_e h
        refine x_aload_n F.1 (i := 25) rfl rfl ?_
        refine cal_e h (fun r7 M7 e8 h => ?_)
        refine x_cV0v F.1 (i := 26) rfl ml_RM_209 ok_RM_advance rfl (Nat.le_of_ble_eq_true rfl) (Nat.le_of_ble_eq_true rfl) (fun _ => t_RM_advance e8) ?_
        refine x_iconst F.1 (i := 27) rfl ic_1 ?_
        exact x_zretf F (i := 28) rfl rfl (Or.inr rfl) h (res := (r, M')) hQ
      · replace h := if_F c h
        refine x_aload_n F.1 (i := 9) rfl rfl ?_
        refine x_iconst F.1 (i := 10) rfl ic_5 ?_
        refine cal_e h (fun r9 M8 e10 h => ?_)
        refine x_cV1i F.1 (i := 11) rfl ml_RM_83 ok_RM_no rfl (Nat.le_of_ble_eq_true rfl) (Nat.le_of_ble_eq_true rfl) (fun _ => t_RM_no e10) ?_
        refine gd_e h (fun g11 h => ?_)
        exact x_zretf F (i := 12) rfl rfl (b01_e g11) h (res := (r, M')) hQ
set_option maxHeartbeats 4000000 in
theorem t_RM_spelled_l91 {w : kx_W} {d : Nat} {Q : Option Value → kx_M → Prop} {G : Nat → List (Option Value) → List Value → kx_M → Prop} (F : Sd w d m_RM_spelled Q G) {p0 : Int32} {p1 : Int32} {p2 : Int32} {p3 : Int32} {p4 : Int32} {p5 : Int32} {res : Int64 × kx_M} (hQ : Q (some (.long res.1)) res.2) :
    ∀ (s0 : Int64) (M : kx_M),
    f_RM_spelled_l91 p0 p1 p2 p3 p4 p5 s0 M = some res → G 91 [none, none, none, none, none, some (.int p5), none, none] [.long s0] M := by
  intro s0 M h
  rw [f_RM_spelled_l91] at h
  refine x_lstore F.1 (i := 50) rfl (Nat.le_of_ble_eq_true rfl) (Nat.le_of_ble_eq_true rfl) rfl ?_
  refine x_iload F.1 (i := 51) rfl rfl ?_
  refine x_if_le F.1 (i := 52) (tgt := 115) rfl (by decide) (fun c => ?_) (fun c => ?_)
  · replace h := if_T c h
    refine x_lload F.1 (i := 62) rfl rfl ?_
    exact x_lretf F (i := 63) rfl rfl h hQ
  · replace h := if_F c h
    refine x_lload F.1 (i := 53) rfl rfl ?_
    refine x_ldc2_w F.1 (i := 54) rfl cl_RM_128 ?_
    refine x_lmul F.1 (i := 55) rfl ?_
    refine x_iload F.1 (i := 56) rfl rfl ?_
    refine x_i2l F.1 (i := 57) rfl ?_
    refine x_ladd F.1 (i := 58) rfl ?_
    refine x_ldc2_w F.1 (i := 59) rfl cl_RM_130 ?_
    refine x_lsub F.1 (i := 60) rfl ?_
    refine x_goto F.1 (i := 61) (tgt := 117) rfl (by decide) ?_
    exact x_lretf F (i := 63) rfl rfl h hQ
set_option maxHeartbeats 4000000 in
theorem t_RM_spelled_l65 {w : kx_W} {d : Nat} {Q : Option Value → kx_M → Prop} {G : Nat → List (Option Value) → List Value → kx_M → Prop} (F : Sd w d m_RM_spelled Q G) {p0 : Int32} {p1 : Int32} {p2 : Int32} {p3 : Int32} {p4 : Int32} {p5 : Int32} {res : Int64 × kx_M} (hQ : Q (some (.long res.1)) res.2) :
    ∀ (s0 : Int64) (M : kx_M),
    f_RM_spelled_l65 p0 p1 p2 p3 p4 p5 s0 M = some res → G 65 [none, none, none, none, some (.int p4), some (.int p5), none, none] [.long s0] M := by
  intro s0 M h
  rw [f_RM_spelled_l65] at h
  refine x_lstore F.1 (i := 37) rfl (Nat.le_of_ble_eq_true rfl) (Nat.le_of_ble_eq_true rfl) rfl ?_
  refine x_iload F.1 (i := 38) rfl rfl ?_
  refine x_if_le F.1 (i := 39) (tgt := 89) rfl (by decide) (fun c => ?_) (fun c => ?_)
  · replace h := if_T c h
    refine x_lload F.1 (i := 49) rfl rfl ?_
    exact x_wk F.1 ((t_RM_spelled_l91 F hQ) _ _ h) ⟨rfl, trivial⟩
  · replace h := if_F c h
    refine x_lload F.1 (i := 40) rfl rfl ?_
    refine x_ldc2_w F.1 (i := 41) rfl cl_RM_128 ?_
    refine x_lmul F.1 (i := 42) rfl ?_
    refine x_iload F.1 (i := 43) rfl rfl ?_
    refine x_i2l F.1 (i := 44) rfl ?_
    refine x_ladd F.1 (i := 45) rfl ?_
    refine x_ldc2_w F.1 (i := 46) rfl cl_RM_130 ?_
    refine x_lsub F.1 (i := 47) rfl ?_
    refine x_goto F.1 (i := 48) (tgt := 91) rfl (by decide) ?_
    exact x_wk F.1 ((t_RM_spelled_l91 F hQ) _ _ h) ⟨rfl, trivial⟩
set_option maxHeartbeats 4000000 in
theorem t_RM_spelled_l41 {w : kx_W} {d : Nat} {Q : Option Value → kx_M → Prop} {G : Nat → List (Option Value) → List Value → kx_M → Prop} (F : Sd w d m_RM_spelled Q G) {p0 : Int32} {p1 : Int32} {p2 : Int32} {p3 : Int32} {p4 : Int32} {p5 : Int32} {res : Int64 × kx_M} (hQ : Q (some (.long res.1)) res.2) :
    ∀ (s0 : Int64) (M : kx_M),
    f_RM_spelled_l41 p0 p1 p2 p3 p4 p5 s0 M = some res → G 41 [none, none, none, some (.int p3), some (.int p4), some (.int p5), none, none] [.long s0] M := by
  intro s0 M h
  rw [f_RM_spelled_l41] at h
  refine x_lstore F.1 (i := 24) rfl (Nat.le_of_ble_eq_true rfl) (Nat.le_of_ble_eq_true rfl) rfl ?_
  refine x_iload_n F.1 (i := 25) rfl rfl ?_
  refine x_if_le F.1 (i := 26) (tgt := 63) rfl (by decide) (fun c => ?_) (fun c => ?_)
  · replace h := if_T c h
    refine x_lload F.1 (i := 36) rfl rfl ?_
    exact x_wk F.1 ((t_RM_spelled_l65 F hQ) _ _ h) ⟨rfl, rfl, trivial⟩
  · replace h := if_F c h
    refine x_lload F.1 (i := 27) rfl rfl ?_
    refine x_ldc2_w F.1 (i := 28) rfl cl_RM_128 ?_
    refine x_lmul F.1 (i := 29) rfl ?_
    refine x_iload_n F.1 (i := 30) rfl rfl ?_
    refine x_i2l F.1 (i := 31) rfl ?_
    refine x_ladd F.1 (i := 32) rfl ?_
    refine x_ldc2_w F.1 (i := 33) rfl cl_RM_130 ?_
    refine x_lsub F.1 (i := 34) rfl ?_
    refine x_goto F.1 (i := 35) (tgt := 65) rfl (by decide) ?_
    exact x_wk F.1 ((t_RM_spelled_l65 F hQ) _ _ h) ⟨rfl, rfl, trivial⟩
set_option maxHeartbeats 4000000 in
theorem t_RM_spelled {w : kx_W} {d : Nat} {M : kx_M} {Q : Option Value → kx_M → Prop} {p0 : Int32} {p1 : Int32} {p2 : Int32} {p3 : Int32} {p4 : Int32} {p5 : Int32} {r : Int64} {M' : kx_M} (h : f_RM_spelled p0 p1 p2 p3 p4 p5 M = some (r, M')) (hQ : Q (some (.long r)) M') : Ct w d m_RM_spelled [.int p0, .int p1, .int p2, .int p3, .int p4, .int p5] M Q := by
  refine mk_ct ok_RM_spelled (Nat.le_of_ble_eq_true rfl) (fun G F => ?_)
  rw [f_RM_spelled] at h
  show G 0 [some (.int p0), some (.int p1), some (.int p2), some (.int p3), some (.int p4), some (.int p5), none, none] [] M
  refine x_iload_n F.1 (i := 0) rfl rfl ?_
  refine x_i2l F.1 (i := 1) rfl ?_
  refine x_ldc2_w F.1 (i := 2) rfl cl_RM_130 ?_
  refine x_lsub F.1 (i := 3) rfl ?_
  refine x_ldc2_w F.1 (i := 4) rfl cl_RM_128 ?_
  refine x_lmul F.1 (i := 5) rfl ?_
  refine x_iload_n F.1 (i := 6) rfl rfl ?_
  refine x_i2l F.1 (i := 7) rfl ?_
  refine x_ladd F.1 (i := 8) rfl ?_
  refine x_ldc2_w F.1 (i := 9) rfl cl_RM_130 ?_
  refine x_lsub F.1 (i := 10) rfl ?_
  refine x_lstore F.1 (i := 11) rfl (Nat.le_of_ble_eq_true rfl) (Nat.le_of_ble_eq_true rfl) rfl ?_
  replace h := bd_e h
  refine x_iload_n F.1 (i := 12) rfl rfl ?_
  refine x_if_le F.1 (i := 13) (tgt := 39) rfl (by decide) (fun c => ?_) (fun c => ?_)
  · replace h := if_T c h
    refine x_lload F.1 (i := 23) rfl rfl ?_
    exact x_wk F.1 ((t_RM_spelled_l41 F (res := (r, M')) hQ) _ _ h) ⟨rfl, rfl, rfl, trivial⟩
  · replace h := if_F c h
    refine x_lload F.1 (i := 14) rfl rfl ?_
    refine x_ldc2_w F.1 (i := 15) rfl cl_RM_128 ?_
    refine x_lmul F.1 (i := 16) rfl ?_
    refine x_iload_n F.1 (i := 17) rfl rfl ?_
    refine x_i2l F.1 (i := 18) rfl ?_
    refine x_ladd F.1 (i := 19) rfl ?_
    refine x_ldc2_w F.1 (i := 20) rfl cl_RM_130 ?_
    refine x_lsub F.1 (i := 21) rfl ?_
    refine x_goto F.1 (i := 22) (tgt := 41) rfl (by decide) ?_
    exact x_wk F.1 ((t_RM_spelled_l41 F (res := (r, M')) hQ) _ _ h) ⟨rfl, rfl, rfl, trivial⟩
set_option maxHeartbeats 4000000 in
theorem t_RM_isWord {w : kx_W} {d : Nat} {M : kx_M} {Q : Option Value → kx_M → Prop} {p1 : Int64} {r : Int32} {M' : kx_M} (h : f_RM_isWord p1 M = some (r, M')) (hQ : Q (some (.int r)) M') : Ct w d m_RM_isWord [.ref 135, .long p1] M Q := by
  refine mk_ct ok_RM_isWord (Nat.le_of_ble_eq_true rfl) (fun G F => ?_)
  rw [f_RM_isWord] at h
  show G 0 [some (.ref 135), some (.long p1), none] [] M
  refine x_aload_n F.1 (i := 0) rfl rfl ?_
  refine x_getI F.1 (i := 1) rfl fl_RM_119 rfl (by rfl) ?_
  refine x_iconst F.1 (i := 2) rfl ic_1 ?_
  refine x_icmp_ne F.1 (i := 3) (tgt := 21) rfl (by decide) (fun c => ?_) (fun c => ?_)
  · replace h := if_F c h
    refine x_iconst F.1 (i := 11) rfl ic_0 ?_
    exact x_zretf F (i := 12) rfl rfl (Or.inl rfl) h (res := (r, M')) hQ
  · replace h := if_T c h
    refine x_aload_n F.1 (i := 4) rfl rfl ?_
    refine x_getJ F.1 (i := 5) rfl fl_RM_125 rfl (by rfl) ?_
    refine x_lload_n F.1 (i := 6) rfl rfl ?_
    refine x_lcmp F.1 (i := 7) rfl ?_
    refine x_if_ne F.1 (i := 8) (tgt := 21) rfl (by decide) (fun c => ?_) (fun c => ?_)
    · replace h := if_F c h
      refine x_iconst F.1 (i := 11) rfl ic_0 ?_
      exact x_zretf F (i := 12) rfl rfl (Or.inl rfl) h (res := (r, M')) hQ
    · replace h := if_T c h
      refine x_iconst F.1 (i := 9) rfl ic_1 ?_
      refine x_goto F.1 (i := 10) (tgt := 22) rfl (by decide) ?_
      exact x_zretf F (i := 12) rfl rfl (Or.inr rfl) h (res := (r, M')) hQ
set_option maxHeartbeats 4000000 in
theorem t_RM_isWide {w : kx_W} {d : Nat} {M : kx_M} {Q : Option Value → kx_M → Prop} {r : Int32} {M' : kx_M} (h : f_RM_isWide M = some (r, M')) (hQ : Q (some (.int r)) M') : Ct w (d + 1) m_RM_isWide [.ref 135] M Q := by
  refine mk_ct ok_RM_isWide (Nat.le_of_ble_eq_true rfl) (fun G F => ?_)
  rw [f_RM_isWide] at h
  show G 0 [some (.ref 135)] [] M
  refine x_aload_n F.1 (i := 0) rfl rfl ?_
  refine x_bipush F.1 (i := 1) rfl bp_119 ?_
  refine x_bipush F.1 (i := 2) rfl bp_105 ?_
  refine x_bipush F.1 (i := 3) rfl bp_100 ?_
  refine x_bipush F.1 (i := 4) rfl bp_101 ?_
  refine x_iconst F.1 (i := 5) rfl ic_0 ?_
  refine x_iconst F.1 (i := 6) rfl ic_0 ?_
  refine cal_e h (fun r1 M1 e2 h => ?_)
  refine x_cS6l F.1 (i := 7) rfl ml_RM_144 ok_RM_spelled (Nat.le_of_ble_eq_true rfl) (Nat.le_of_ble_eq_true rfl) (fun _ => t_RM_spelled e2) ?_
  refine cal_e h (fun r3 M2 e4 h => ?_)
  refine x_cV1i F.1 (i := 8) rfl ml_RM_148 ok_RM_isWord rfl (Nat.le_of_ble_eq_true rfl) (Nat.le_of_ble_eq_true rfl) (fun _ => t_RM_isWord e4) ?_
  refine gd_e h (fun g5 h => ?_)
  exact x_zretf F (i := 9) rfl rfl (b01_e g5) h (res := (r, M')) hQ
set_option maxHeartbeats 4000000 in
theorem t_RM_fail {w : kx_W} {d : Nat} {M : kx_M} {Q : Option Value → kx_M → Prop} {p1 : Int32} {p2 : Int32} {r : Unit} {M' : kx_M} (h : f_RM_fail p1 p2 M = some (r, M')) (hQ : Q none M') : Ct w d m_RM_fail [.ref 135, .int p1, .int p2] M Q := by
  refine mk_ct ok_RM_fail (Nat.le_of_ble_eq_true rfl) (fun G F => ?_)
  rw [f_RM_fail] at h
  show G 0 [some (.ref 135), some (.int p1), some (.int p2)] [] M
  refine x_aload_n F.1 (i := 0) rfl rfl ?_
  refine x_getI F.1 (i := 1) rfl fl_RM_199 rfl (by rfl) ?_
  refine x_if_le F.1 (i := 2) (tgt := 8) rfl (by decide) (fun c => ?_) (fun c => ?_)
  · replace h := if_T c h
    refine x_aload_n F.1 (i := 4) rfl rfl ?_
    refine x_iload_n F.1 (i := 5) rfl rfl ?_
    refine x_putI F.1 (i := 6) rfl fl_RM_199 pf_RM_bad rfl (by rfl) ?_
    replace h := bd_e h
    refine x_aload_n F.1 (i := 7) rfl rfl ?_
    refine x_iload_n F.1 (i := 8) rfl rfl ?_
    refine x_putI F.1 (i := 9) rfl fl_RM_202 pf_RM_badAt rfl (by rfl) ?_
    replace h := bd_e h
    exact x_vretf F (i := 10) rfl rfl h (res := (r, M')) hQ
  · replace h := if_F c h
    exact x_vretf F (i := 3) rfl rfl h (res := (r, M')) hQ
set_option maxHeartbeats 4000000 in
theorem t_RM_amiss {w : kx_W} {d : Nat} {M : kx_M} {Q : Option Value → kx_M → Prop} {r : Unit} {M' : kx_M} (h : f_RM_amiss M = some (r, M')) (hQ : Q none M') : Ct w (d + 1) m_RM_amiss [.ref 135] M Q := by
  refine mk_ct ok_RM_amiss (Nat.le_of_ble_eq_true rfl) (fun G F => ?_)
  rw [f_RM_amiss] at h
  show G 0 [some (.ref 135)] [] M
  refine x_aload_n F.1 (i := 0) rfl rfl ?_
  refine x_aload_n F.1 (i := 1) rfl rfl ?_
  refine x_getI F.1 (i := 2) rfl fl_RM_119 rfl (by rfl) ?_
  refine x_iconst F.1 (i := 3) rfl ic_4 ?_
  refine x_icmp_ne F.1 (i := 4) (tgt := 13) rfl (by decide) (fun c => ?_) (fun c => ?_)
  · replace h := if_F c h
    refine x_iconst F.1 (i := 7) rfl ic_2 ?_
    refine x_aload_n F.1 (i := 8) rfl rfl ?_
    refine x_getI F.1 (i := 9) rfl fl_RM_113 rfl (by rfl) ?_
    refine cal_e h (fun r3 M2 e4 h => ?_)
    refine x_cV2v F.1 (i := 10) rfl ml_RM_205 ok_RM_fail rfl (Nat.le_of_ble_eq_true rfl) (Nat.le_of_ble_eq_true rfl) (fun _ => t_RM_fail e4) ?_
    exact x_vretf F (i := 11) rfl rfl h (res := (r, M')) hQ
  · replace h := if_T c h
    refine x_iconst F.1 (i := 5) rfl ic_1 ?_
    refine x_goto F.1 (i := 6) (tgt := 14) rfl (by decide) ?_
    refine x_aload_n F.1 (i := 8) rfl rfl ?_
    refine x_getI F.1 (i := 9) rfl fl_RM_113 rfl (by rfl) ?_
    refine cal_e h (fun r1 M1 e2 h => ?_)
    refine x_cV2v F.1 (i := 10) rfl ml_RM_205 ok_RM_fail rfl (Nat.le_of_ble_eq_true rfl) (Nat.le_of_ble_eq_true rfl) (fun _ => t_RM_fail e2) ?_
    exact x_vretf F (i := 11) rfl rfl h (res := (r, M')) hQ
set_option maxHeartbeats 4000000 in
theorem t_RM_has {w : kx_W} {d : Nat} {M : kx_M} {Q : Option Value → kx_M → Prop} {p0 : Int32} {p1 : Int32} {r : Int32} {M' : kx_M} (h : f_RM_has p0 p1 M = some (r, M')) (hQ : Q (some (.int r)) M') : Ct w d m_RM_has [.int p0, .int p1] M Q := by
  refine mk_ct ok_RM_has (Nat.le_of_ble_eq_true rfl) (fun G F => ?_)
  rw [f_RM_has] at h
  show G 0 [some (.int p0), some (.int p1)] [] M
  refine x_iload_n F.1 (i := 0) rfl rfl ?_
  refine x_iload_n F.1 (i := 1) rfl rfl ?_
  refine x_ishr F.1 (i := 2) rfl ?_
  refine x_iconst F.1 (i := 3) rfl ic_1 ?_
  refine x_iand F.1 (i := 4) rfl ?_
  refine x_iconst F.1 (i := 5) rfl ic_1 ?_
  refine x_icmp_ne F.1 (i := 6) (tgt := 13) rfl (by decide) (fun c => ?_) (fun c => ?_)
  · replace h := if_F c h
    refine x_iconst F.1 (i := 9) rfl ic_0 ?_
    exact x_zretf F (i := 10) rfl rfl (Or.inl rfl) h (res := (r, M')) hQ
  · replace h := if_T c h
    refine x_iconst F.1 (i := 7) rfl ic_1 ?_
    refine x_goto F.1 (i := 8) (tgt := 14) rfl (by decide) ?_
    exact x_zretf F (i := 10) rfl rfl (Or.inr rfl) h (res := (r, M')) hQ
set_option maxHeartbeats 4000000 in
theorem t_RM_isIn {w : kx_W} {d : Nat} {M : kx_M} {Q : Option Value → kx_M → Prop} {p0 : Int64} {p2 : Int64} {p4 : Int64} {r : Int32} {M' : kx_M} (h : f_RM_isIn p0 p2 p4 M = some (r, M')) (hQ : Q (some (.int r)) M') : Ct w d m_RM_isIn [.long p0, .long p2, .long p4] M Q := by
  refine mk_ct ok_RM_isIn (Nat.le_of_ble_eq_true rfl) (fun G F => ?_)
  rw [f_RM_isIn] at h
  show G 0 [some (.long p0), none, some (.long p2), none, some (.long p4), none] [] M
  refine x_lload_n F.1 (i := 0) rfl rfl ?_
  refine x_lload_n F.1 (i := 1) rfl rfl ?_
  refine x_lcmp F.1 (i := 2) rfl ?_
  refine x_if_lt F.1 (i := 3) (tgt := 17) rfl (by decide) (fun c => ?_) (fun c => ?_)
  · replace h := if_T c h
    refine x_iconst F.1 (i := 10) rfl ic_0 ?_
    exact x_zretf F (i := 11) rfl rfl (Or.inl rfl) h (res := (r, M')) hQ
  · replace h := if_F c h
    refine x_lload_n F.1 (i := 4) rfl rfl ?_
    refine x_lload F.1 (i := 5) rfl rfl ?_
    refine x_lcmp F.1 (i := 6) rfl ?_
    refine x_if_gt F.1 (i := 7) (tgt := 17) rfl (by decide) (fun c => ?_) (fun c => ?_)
    · replace h := if_T c h
      refine x_iconst F.1 (i := 10) rfl ic_0 ?_
      exact x_zretf F (i := 11) rfl rfl (Or.inl rfl) h (res := (r, M')) hQ
    · replace h := if_F c h
      refine x_iconst F.1 (i := 8) rfl ic_1 ?_
      refine x_goto F.1 (i := 9) (tgt := 18) rfl (by decide) ?_
      exact x_zretf F (i := 11) rfl rfl (Or.inr rfl) h (res := (r, M')) hQ
set_option maxHeartbeats 4000000 in
theorem t_RM_count_l50 {w : kx_W} {d : Nat} {Q : Option Value → kx_M → Prop} {G : Nat → List (Option Value) → List Value → kx_M → Prop} (F : Sd w (d + 2) m_RM_count Q G) {p1 : Int32} {p2 : Int32} {res : Int32 × kx_M} (hQ : Q (some (.int res.1)) res.2) :
    ∀ (M : kx_M),
    f_RM_count_l50 p1 p2 M = some res → G 50 [some (.ref 135), none, none, none] [] M := by
  intro M h
  rw [f_RM_count_l50] at h
  refine x_aload_n F.1 (i := 26) rfl rfl ?_
  refine x_getI F.1 (i := 27) rfl fl_RM_199 rfl (by rfl) ?_
  refine x_if_le F.1 (i := 28) (tgt := 59) rfl (by decide) (fun c => ?_) (fun c => ?_)
  · replace h := if_T c h
    refine x_aload_n F.1 (i := 31) rfl rfl ?_
    refine x_getI F.1 (i := 32) rfl fl_RM_138 rfl (by rfl) ?_
    refine x_istore_n F.1 (i := 33) rfl (Nat.le_of_ble_eq_true rfl) (Nat.le_of_ble_eq_true rfl) rfl ?_
    replace h := bd_e h
    refine x_aload_n F.1 (i := 34) rfl rfl ?_
    refine cal_e h (fun r2 M1 e3 h => ?_)
    refine x_cV0v F.1 (i := 35) rfl ml_RM_209 ok_RM_advance rfl (Nat.le_of_ble_eq_true rfl) (Nat.le_of_ble_eq_true rfl) (fun _ => t_RM_advance e3) ?_
    refine x_iload_n F.1 (i := 36) rfl rfl ?_
    exact x_iretf F (i := 37) rfl rfl h hQ
  · replace h := if_F c h
    refine x_iconst F.1 (i := 29) rfl ic_0 ?_
    exact x_iretf F (i := 30) rfl rfl h hQ
set_option maxHeartbeats 4000000 in
theorem t_RM_count_l19 {w : kx_W} {d : Nat} {Q : Option Value → kx_M → Prop} {G : Nat → List (Option Value) → List Value → kx_M → Prop} (F : Sd w (d + 2) m_RM_count Q G) {p1 : Int32} {p2 : Int32} {res : Int32 × kx_M} (hQ : Q (some (.int res.1)) res.2) :
    ∀ (M : kx_M),
    f_RM_count_l19 p1 p2 M = some res → G 19 [some (.ref 135), some (.int p1), some (.int p2), none] [] M := by
  intro M h
  rw [f_RM_count_l19] at h
  refine x_aload_n F.1 (i := 9) rfl rfl ?_
  refine x_getI F.1 (i := 10) rfl fl_RM_199 rfl (by rfl) ?_
  refine x_if_ne F.1 (i := 11) (tgt := 50) rfl (by decide) (fun c => ?_) (fun c => ?_)
  · replace h := if_F c h
    exact x_wk F.1 ((t_RM_count_l50 F hQ) _ h) ⟨rfl, trivial⟩
  · replace h := if_T c h
    refine x_aload_n F.1 (i := 12) rfl rfl ?_
    refine x_getI F.1 (i := 13) rfl fl_RM_138 rfl (by rfl) ?_
    refine x_i2l F.1 (i := 14) rfl ?_
    refine x_iload_n F.1 (i := 15) rfl rfl ?_
    refine x_i2l F.1 (i := 16) rfl ?_
    refine x_iload_n F.1 (i := 17) rfl rfl ?_
    refine x_i2l F.1 (i := 18) rfl ?_
    refine cal_e h (fun r1 M1 e2 h => ?_)
    refine x_cS3i F.1 (i := 19) rfl ml_RM_103 ok_RM_isIn (Nat.le_of_ble_eq_true rfl) (Nat.le_of_ble_eq_true rfl) (fun _ => t_RM_isIn e2) ?_
    refine x_if_ne F.1 (i := 20) (tgt := 50) rfl (by decide) (fun c => ?_) (fun c => ?_)
    · replace h := if_F c h
      exact x_wk F.1 ((t_RM_count_l50 F hQ) _ h) ⟨rfl, trivial⟩
    · replace h := if_T c h
      refine x_aload_n F.1 (i := 21) rfl rfl ?_
      refine x_iconst F.1 (i := 22) rfl ic_4 ?_
      refine x_aload_n F.1 (i := 23) rfl rfl ?_
      refine x_getI F.1 (i := 24) rfl fl_RM_113 rfl (by rfl) ?_
      refine cal_e h (fun r3 M2 e4 h => ?_)
      refine x_cV2v F.1 (i := 25) rfl ml_RM_205 ok_RM_fail rfl (Nat.le_of_ble_eq_true rfl) (Nat.le_of_ble_eq_true rfl) (fun _ => t_RM_fail e4) ?_
      exact x_wk F.1 ((t_RM_count_l50 F hQ) _ h) ⟨rfl, trivial⟩
set_option maxHeartbeats 4000000 in
theorem t_RM_count {w : kx_W} {d : Nat} {M : kx_M} {Q : Option Value → kx_M → Prop} {p1 : Int32} {p2 : Int32} {r : Int32} {M' : kx_M} (h : f_RM_count p1 p2 M = some (r, M')) (hQ : Q (some (.int r)) M') : Ct w (d + 2) m_RM_count [.ref 135, .int p1, .int p2] M Q := by
  refine mk_ct ok_RM_count (Nat.le_of_ble_eq_true rfl) (fun G F => ?_)
  rw [f_RM_count] at h
  show G 0 [some (.ref 135), some (.int p1), some (.int p2), none] [] M
  refine x_aload_n F.1 (i := 0) rfl rfl ?_
  refine x_getI F.1 (i := 1) rfl fl_RM_199 rfl (by rfl) ?_
  refine x_if_ne F.1 (i := 2) (tgt := 19) rfl (by decide) (fun c => ?_) (fun c => ?_)
  · replace h := if_F c h
    exact x_wk F.1 ((t_RM_count_l19 F (res := (r, M')) hQ) _ h) ⟨rfl, rfl, rfl, trivial⟩
  · replace h := if_T c h
    refine x_aload_n F.1 (i := 3) rfl rfl ?_
    refine x_getI F.1 (i := 4) rfl fl_RM_119 rfl (by rfl) ?_
    refine x_iconst F.1 (i := 5) rfl ic_2 ?_
    refine x_icmp_eq F.1 (i := 6) (tgt := 19) rfl (by decide) (fun c => ?_) (fun c => ?_)
    · replace h := if_T c h
      exact x_wk F.1 ((t_RM_count_l19 F (res := (r, M')) hQ) _ h) ⟨rfl, rfl, rfl, trivial⟩
    · replace h := if_F c h
      refine x_aload_n F.1 (i := 7) rfl rfl ?_
      refine cal_e h (fun r1 M1 e2 h => ?_)
      refine x_cV0v F.1 (i := 8) rfl ml_RM_212 ok_RM_amiss rfl (Nat.le_of_ble_eq_true rfl) (Nat.le_of_ble_eq_true rfl) (fun _ => t_RM_amiss e2) ?_
      exact x_wk F.1 ((t_RM_count_l19 F (res := (r, M')) hQ) _ h) ⟨rfl, rfl, rfl, trivial⟩
set_option maxHeartbeats 4000000 in
theorem t_RM_readOnce_l53 {w : kx_W} {d : Nat} {Q : Option Value → kx_M → Prop} {G : Nat → List (Option Value) → List Value → kx_M → Prop} (F : Sd w (d + 3) m_RM_readOnce Q G) {p1 : Int32} {p2 : Int32} {p3 : Int32} {res : Unit × kx_M} (hQ : Q none res.2) :
    ∀ (M : kx_M),
    f_RM_readOnce_l53 p1 p2 p3 M = some res → G 53 [some (.ref 135), some (.int p1), some (.int p2), some (.int p3)] [] M := by
  intro M h
  rw [f_RM_readOnce_l53] at h
  refine x_aload_n F.1 (i := 25) rfl rfl ?_
  refine x_getI F.1 (i := 26) rfl fl_RM_199 rfl (by rfl) ?_
  refine x_if_le F.1 (i := 27) (tgt := 61) rfl (by decide) (fun c => ?_) (fun c => ?_)
  · replace h := if_T c h
    refine x_aload_n F.1 (i := 29) rfl rfl ?_
    refine x_dup F.1 (i := 30) rfl rfl ?_
    refine x_getI F.1 (i := 31) rfl fl_RM_238 rfl (by rfl) ?_
    refine x_iconst F.1 (i := 32) rfl ic_1 ?_
    refine x_iload_n F.1 (i := 33) rfl rfl ?_
    refine x_ishl F.1 (i := 34) rfl ?_
    refine x_ior F.1 (i := 35) rfl ?_
    refine x_putI F.1 (i := 36) rfl fl_RM_238 pf_RM_toldOnce rfl (by rfl) ?_
    replace h := bd_e h
    refine x_aload_n F.1 (i := 37) rfl rfl ?_
    refine cal_e h (fun r1 M2 e2 h => ?_)
    refine x_cV0v F.1 (i := 38) rfl ml_RM_209 ok_RM_advance rfl (Nat.le_of_ble_eq_true rfl) (Nat.le_of_ble_eq_true rfl) (fun _ => t_RM_advance e2) ?_
    refine x_aload_n F.1 (i := 39) rfl rfl ?_
    refine x_getC F.1 (i := 40) rfl fl_RM_35 rfl (by rfl) ?_
    refine x_sipush F.1 (i := 41) rfl sp_3072 ?_
    refine x_iload_n F.1 (i := 42) rfl rfl ?_
    refine x_iadd F.1 (i := 43) rfl ?_
    refine x_aload_n F.1 (i := 44) rfl rfl ?_
    refine x_iload_n F.1 (i := 45) rfl rfl ?_
    refine x_iload_n F.1 (i := 46) rfl rfl ?_
    refine cal_e h (fun r3 M3 e4 h => ?_)
    refine x_cV2i F.1 (i := 47) rfl ml_RM_245 ok_RM_count rfl (Nat.le_of_ble_eq_true rfl) (Nat.le_of_ble_eq_true rfl) (fun _ => t_RM_count e4) ?_
    refine gd_e h (fun g5 h => ?_)
    refine x_iast F.1 (i := 48) rfl rfl (inb_e g5) ?_
    replace h := bd_e h
    exact x_vretf F (i := 49) rfl rfl h hQ
  · replace h := if_F c h
    exact x_vretf F (i := 28) rfl rfl h hQ
set_option maxHeartbeats 4000000 in
theorem t_RM_readOnce_l26 {w : kx_W} {d : Nat} {Q : Option Value → kx_M → Prop} {G : Nat → List (Option Value) → List Value → kx_M → Prop} (F : Sd w (d + 3) m_RM_readOnce Q G) {p1 : Int32} {p2 : Int32} {p3 : Int32} {res : Unit × kx_M} (hQ : Q none res.2) :
    ∀ (M : kx_M),
    f_RM_readOnce_l26 p1 p2 p3 M = some res → G 26 [some (.ref 135), some (.int p1), some (.int p2), some (.int p3)] [] M := by
  intro M h
  rw [f_RM_readOnce_l26] at h
  refine x_aload_n F.1 (i := 12) rfl rfl ?_
  refine x_getI F.1 (i := 13) rfl fl_RM_199 rfl (by rfl) ?_
  refine x_if_ne F.1 (i := 14) (tgt := 53) rfl (by decide) (fun c => ?_) (fun c => ?_)
  · replace h := if_F c h
    exact x_wk F.1 ((t_RM_readOnce_l53 F hQ) _ h) ⟨rfl, rfl, rfl, rfl, trivial⟩
  · replace h := if_T c h
    refine x_aload_n F.1 (i := 15) rfl rfl ?_
    refine x_getI F.1 (i := 16) rfl fl_RM_238 rfl (by rfl) ?_
    refine x_iload_n F.1 (i := 17) rfl rfl ?_
    refine cal_e h (fun r1 M1 e2 h => ?_)
    refine x_cS2i F.1 (i := 18) rfl ml_RM_241 ok_RM_has (Nat.le_of_ble_eq_true rfl) (Nat.le_of_ble_eq_true rfl) (fun _ => t_RM_has e2) ?_
    refine x_if_eq F.1 (i := 19) (tgt := 53) rfl (by decide) (fun c => ?_) (fun c => ?_)
    · replace h := if_T c h
      exact x_wk F.1 ((t_RM_readOnce_l53 F hQ) _ h) ⟨rfl, rfl, rfl, rfl, trivial⟩
    · replace h := if_F c h
      refine x_aload_n F.1 (i := 20) rfl rfl ?_
      refine x_iconst F.1 (i := 21) rfl ic_5 ?_
      refine x_aload_n F.1 (i := 22) rfl rfl ?_
      refine x_getI F.1 (i := 23) rfl fl_RM_113 rfl (by rfl) ?_
      refine cal_e h (fun r3 M2 e4 h => ?_)
      refine x_cV2v F.1 (i := 24) rfl ml_RM_205 ok_RM_fail rfl (Nat.le_of_ble_eq_true rfl) (Nat.le_of_ble_eq_true rfl) (fun _ => t_RM_fail e4) ?_
      exact x_wk F.1 ((t_RM_readOnce_l53 F hQ) _ h) ⟨rfl, rfl, rfl, rfl, trivial⟩
set_option maxHeartbeats 4000000 in
theorem t_RM_readOnce {w : kx_W} {d : Nat} {M : kx_M} {Q : Option Value → kx_M → Prop} {p1 : Int32} {p2 : Int32} {p3 : Int32} {r : Unit} {M' : kx_M} (h : f_RM_readOnce p1 p2 p3 M = some (r, M')) (hQ : Q none M') : Ct w (d + 3) m_RM_readOnce [.ref 135, .int p1, .int p2, .int p3] M Q := by
  refine mk_ct ok_RM_readOnce (Nat.le_of_ble_eq_true rfl) (fun G F => ?_)
  rw [f_RM_readOnce] at h
  show G 0 [some (.ref 135), some (.int p1), some (.int p2), some (.int p3)] [] M
  refine x_aload_n F.1 (i := 0) rfl rfl ?_
  refine x_getC F.1 (i := 1) rfl fl_RM_35 rfl (by rfl) ?_
  refine x_sipush F.1 (i := 2) rfl sp_3075 ?_
  refine gd_e h (fun g1 h => ?_)
  refine x_iald F.1 (i := 3) rfl rfl (inb_e g1) ?_
  refine x_if_gt F.1 (i := 4) (tgt := 22) rfl (by decide) (fun c => ?_) (fun c => ?_)
  · replace h := if_T c h
    refine x_aload_n F.1 (i := 10) rfl rfl ?_
    refine cal_e h (fun r2 M1 e3 h => ?_)
    refine x_cV0v F.1 (i := 11) rfl ml_RM_212 ok_RM_amiss rfl (Nat.le_of_ble_eq_true rfl) (Nat.le_of_ble_eq_true rfl) (fun _ => t_RM_amiss e3) ?_
    exact x_wk F.1 ((t_RM_readOnce_l26 F (res := (r, M')) hQ) _ h) ⟨rfl, rfl, rfl, rfl, trivial⟩
  · replace h := if_F c h
    refine x_aload_n F.1 (i := 5) rfl rfl ?_
    refine x_getC F.1 (i := 6) rfl fl_RM_35 rfl (by rfl) ?_
    refine x_sipush F.1 (i := 7) rfl sp_3076 ?_
    refine gd_e h (fun g4 h => ?_)
    refine x_iald F.1 (i := 8) rfl rfl (inb_e g4) ?_
    refine x_if_le F.1 (i := 9) (tgt := 26) rfl (by decide) (fun c => ?_) (fun c => ?_)
    · replace h := if_T c h
      exact x_wk F.1 ((t_RM_readOnce_l26 F (res := (r, M')) hQ) _ h) ⟨rfl, rfl, rfl, rfl, trivial⟩
    · replace h := if_F c h
      refine x_aload_n F.1 (i := 10) rfl rfl ?_
      refine cal_e h (fun r5 M2 e6 h => ?_)
      refine x_cV0v F.1 (i := 11) rfl ml_RM_212 ok_RM_amiss rfl (Nat.le_of_ble_eq_true rfl) (Nat.le_of_ble_eq_true rfl) (fun _ => t_RM_amiss e6) ?_
      exact x_wk F.1 ((t_RM_readOnce_l26 F (res := (r, M')) hQ) _ h) ⟨rfl, rfl, rfl, rfl, trivial⟩
set_option maxHeartbeats 4000000 in
theorem t_RM_isTough {w : kx_W} {d : Nat} {M : kx_M} {Q : Option Value → kx_M → Prop} {r : Int32} {M' : kx_M} (h : f_RM_isTough M = some (r, M')) (hQ : Q (some (.int r)) M') : Ct w (d + 1) m_RM_isTough [.ref 135] M Q := by
  refine mk_ct ok_RM_isTough (Nat.le_of_ble_eq_true rfl) (fun G F => ?_)
  rw [f_RM_isTough] at h
  show G 0 [some (.ref 135)] [] M
  refine x_aload_n F.1 (i := 0) rfl rfl ?_
  refine x_bipush F.1 (i := 1) rfl bp_116 ?_
  refine x_bipush F.1 (i := 2) rfl bp_111 ?_
  refine x_bipush F.1 (i := 3) rfl bp_117 ?_
  refine x_bipush F.1 (i := 4) rfl bp_103 ?_
  refine x_bipush F.1 (i := 5) rfl bp_104 ?_
  refine x_iconst F.1 (i := 6) rfl ic_0 ?_
  refine cal_e h (fun r1 M1 e2 h => ?_)
  refine x_cS6l F.1 (i := 7) rfl ml_RM_144 ok_RM_spelled (Nat.le_of_ble_eq_true rfl) (Nat.le_of_ble_eq_true rfl) (fun _ => t_RM_spelled e2) ?_
  refine cal_e h (fun r3 M2 e4 h => ?_)
  refine x_cV1i F.1 (i := 8) rfl ml_RM_148 ok_RM_isWord rfl (Nat.le_of_ble_eq_true rfl) (Nat.le_of_ble_eq_true rfl) (fun _ => t_RM_isWord e4) ?_
  refine gd_e h (fun g5 h => ?_)
  exact x_zretf F (i := 9) rfl rfl (b01_e g5) h (res := (r, M')) hQ
set_option maxHeartbeats 4000000 in
theorem t_RM_isQueen {w : kx_W} {d : Nat} {M : kx_M} {Q : Option Value → kx_M → Prop} {r : Int32} {M' : kx_M} (h : f_RM_isQueen M = some (r, M')) (hQ : Q (some (.int r)) M') : Ct w (d + 1) m_RM_isQueen [.ref 135] M Q := by
  refine mk_ct ok_RM_isQueen (Nat.le_of_ble_eq_true rfl) (fun G F => ?_)
  rw [f_RM_isQueen] at h
  show G 0 [some (.ref 135)] [] M
  refine x_aload_n F.1 (i := 0) rfl rfl ?_
  refine x_bipush F.1 (i := 1) rfl bp_113 ?_
  refine x_bipush F.1 (i := 2) rfl bp_117 ?_
  refine x_bipush F.1 (i := 3) rfl bp_101 ?_
  refine x_bipush F.1 (i := 4) rfl bp_101 ?_
  refine x_bipush F.1 (i := 5) rfl bp_110 ?_
  refine x_iconst F.1 (i := 6) rfl ic_0 ?_
  refine cal_e h (fun r1 M1 e2 h => ?_)
  refine x_cS6l F.1 (i := 7) rfl ml_RM_144 ok_RM_spelled (Nat.le_of_ble_eq_true rfl) (Nat.le_of_ble_eq_true rfl) (fun _ => t_RM_spelled e2) ?_
  refine cal_e h (fun r3 M2 e4 h => ?_)
  refine x_cV1i F.1 (i := 8) rfl ml_RM_148 ok_RM_isWord rfl (Nat.le_of_ble_eq_true rfl) (Nat.le_of_ble_eq_true rfl) (fun _ => t_RM_isWord e4) ?_
  refine gd_e h (fun g5 h => ?_)
  exact x_zretf F (i := 9) rfl rfl (b01_e g5) h (res := (r, M')) hQ
set_option maxHeartbeats 4000000 in
theorem t_RM_isWool {w : kx_W} {d : Nat} {M : kx_M} {Q : Option Value → kx_M → Prop} {r : Int32} {M' : kx_M} (h : f_RM_isWool M = some (r, M')) (hQ : Q (some (.int r)) M') : Ct w (d + 1) m_RM_isWool [.ref 135] M Q := by
  refine mk_ct ok_RM_isWool (Nat.le_of_ble_eq_true rfl) (fun G F => ?_)
  rw [f_RM_isWool] at h
  show G 0 [some (.ref 135)] [] M
  refine x_aload_n F.1 (i := 0) rfl rfl ?_
  refine x_bipush F.1 (i := 1) rfl bp_119 ?_
  refine x_bipush F.1 (i := 2) rfl bp_111 ?_
  refine x_bipush F.1 (i := 3) rfl bp_111 ?_
  refine x_bipush F.1 (i := 4) rfl bp_108 ?_
  refine x_iconst F.1 (i := 5) rfl ic_0 ?_
  refine x_iconst F.1 (i := 6) rfl ic_0 ?_
  refine cal_e h (fun r1 M1 e2 h => ?_)
  refine x_cS6l F.1 (i := 7) rfl ml_RM_144 ok_RM_spelled (Nat.le_of_ble_eq_true rfl) (Nat.le_of_ble_eq_true rfl) (fun _ => t_RM_spelled e2) ?_
  refine cal_e h (fun r3 M2 e4 h => ?_)
  refine x_cV1i F.1 (i := 8) rfl ml_RM_148 ok_RM_isWord rfl (Nat.le_of_ble_eq_true rfl) (Nat.le_of_ble_eq_true rfl) (fun _ => t_RM_isWord e4) ?_
  refine gd_e h (fun g5 h => ?_)
  exact x_zretf F (i := 9) rfl rfl (b01_e g5) h (res := (r, M')) hQ
set_option maxHeartbeats 4000000 in
theorem t_RM_isClause {w : kx_W} {d : Nat} {M : kx_M} {Q : Option Value → kx_M → Prop} {r : Int32} {M' : kx_M} (h : f_RM_isClause M = some (r, M')) (hQ : Q (some (.int r)) M') : Ct w (d + 1) m_RM_isClause [.ref 135] M Q := by
  refine mk_ct ok_RM_isClause (Nat.le_of_ble_eq_true rfl) (fun G F => ?_)
  rw [f_RM_isClause] at h
  show G 0 [some (.ref 135)] [] M
  refine x_aload_n F.1 (i := 0) rfl rfl ?_
  refine x_bipush F.1 (i := 1) rfl bp_99 ?_
  refine x_bipush F.1 (i := 2) rfl bp_108 ?_
  refine x_bipush F.1 (i := 3) rfl bp_97 ?_
  refine x_bipush F.1 (i := 4) rfl bp_117 ?_
  refine x_bipush F.1 (i := 5) rfl bp_115 ?_
  refine x_bipush F.1 (i := 6) rfl bp_101 ?_
  refine cal_e h (fun r1 M1 e2 h => ?_)
  refine x_cS6l F.1 (i := 7) rfl ml_RM_144 ok_RM_spelled (Nat.le_of_ble_eq_true rfl) (Nat.le_of_ble_eq_true rfl) (fun _ => t_RM_spelled e2) ?_
  refine cal_e h (fun r3 M2 e4 h => ?_)
  refine x_cV1i F.1 (i := 8) rfl ml_RM_148 ok_RM_isWord rfl (Nat.le_of_ble_eq_true rfl) (Nat.le_of_ble_eq_true rfl) (fun _ => t_RM_isWord e4) ?_
  refine gd_e h (fun g5 h => ?_)
  exact x_zretf F (i := 9) rfl rfl (b01_e g5) h (res := (r, M')) hQ
set_option maxHeartbeats 4000000 in
theorem t_RM_isIs {w : kx_W} {d : Nat} {M : kx_M} {Q : Option Value → kx_M → Prop} {r : Int32} {M' : kx_M} (h : f_RM_isIs M = some (r, M')) (hQ : Q (some (.int r)) M') : Ct w (d + 1) m_RM_isIs [.ref 135] M Q := by
  refine mk_ct ok_RM_isIs (Nat.le_of_ble_eq_true rfl) (fun G F => ?_)
  rw [f_RM_isIs] at h
  show G 0 [some (.ref 135)] [] M
  refine x_aload_n F.1 (i := 0) rfl rfl ?_
  refine x_bipush F.1 (i := 1) rfl bp_105 ?_
  refine x_bipush F.1 (i := 2) rfl bp_115 ?_
  refine x_iconst F.1 (i := 3) rfl ic_0 ?_
  refine x_iconst F.1 (i := 4) rfl ic_0 ?_
  refine x_iconst F.1 (i := 5) rfl ic_0 ?_
  refine x_iconst F.1 (i := 6) rfl ic_0 ?_
  refine cal_e h (fun r1 M1 e2 h => ?_)
  refine x_cS6l F.1 (i := 7) rfl ml_RM_144 ok_RM_spelled (Nat.le_of_ble_eq_true rfl) (Nat.le_of_ble_eq_true rfl) (fun _ => t_RM_spelled e2) ?_
  refine cal_e h (fun r3 M2 e4 h => ?_)
  refine x_cV1i F.1 (i := 8) rfl ml_RM_148 ok_RM_isWord rfl (Nat.le_of_ble_eq_true rfl) (Nat.le_of_ble_eq_true rfl) (fun _ => t_RM_isWord e4) ?_
  refine gd_e h (fun g5 h => ?_)
  exact x_zretf F (i := 9) rfl rfl (b01_e g5) h (res := (r, M')) hQ
set_option maxHeartbeats 4000000 in
theorem t_RM_isClash {w : kx_W} {d : Nat} {M : kx_M} {Q : Option Value → kx_M → Prop} {r : Int32} {M' : kx_M} (h : f_RM_isClash M = some (r, M')) (hQ : Q (some (.int r)) M') : Ct w (d + 1) m_RM_isClash [.ref 135] M Q := by
  refine mk_ct ok_RM_isClash (Nat.le_of_ble_eq_true rfl) (fun G F => ?_)
  rw [f_RM_isClash] at h
  show G 0 [some (.ref 135)] [] M
  refine x_aload_n F.1 (i := 0) rfl rfl ?_
  refine x_bipush F.1 (i := 1) rfl bp_99 ?_
  refine x_bipush F.1 (i := 2) rfl bp_108 ?_
  refine x_bipush F.1 (i := 3) rfl bp_97 ?_
  refine x_bipush F.1 (i := 4) rfl bp_115 ?_
  refine x_bipush F.1 (i := 5) rfl bp_104 ?_
  refine x_iconst F.1 (i := 6) rfl ic_0 ?_
  refine cal_e h (fun r1 M1 e2 h => ?_)
  refine x_cS6l F.1 (i := 7) rfl ml_RM_144 ok_RM_spelled (Nat.le_of_ble_eq_true rfl) (Nat.le_of_ble_eq_true rfl) (fun _ => t_RM_spelled e2) ?_
  refine cal_e h (fun r3 M2 e4 h => ?_)
  refine x_cV1i F.1 (i := 8) rfl ml_RM_148 ok_RM_isWord rfl (Nat.le_of_ble_eq_true rfl) (Nat.le_of_ble_eq_true rfl) (fun _ => t_RM_isWord e4) ?_
  refine gd_e h (fun g5 h => ?_)
  exact x_zretf F (i := 9) rfl rfl (b01_e g5) h (res := (r, M')) hQ
set_option maxHeartbeats 4000000 in
theorem t_RM_isGives {w : kx_W} {d : Nat} {M : kx_M} {Q : Option Value → kx_M → Prop} {r : Int32} {M' : kx_M} (h : f_RM_isGives M = some (r, M')) (hQ : Q (some (.int r)) M') : Ct w (d + 1) m_RM_isGives [.ref 135] M Q := by
  refine mk_ct ok_RM_isGives (Nat.le_of_ble_eq_true rfl) (fun G F => ?_)
  rw [f_RM_isGives] at h
  show G 0 [some (.ref 135)] [] M
  refine x_aload_n F.1 (i := 0) rfl rfl ?_
  refine x_bipush F.1 (i := 1) rfl bp_103 ?_
  refine x_bipush F.1 (i := 2) rfl bp_105 ?_
  refine x_bipush F.1 (i := 3) rfl bp_118 ?_
  refine x_bipush F.1 (i := 4) rfl bp_101 ?_
  refine x_bipush F.1 (i := 5) rfl bp_115 ?_
  refine x_iconst F.1 (i := 6) rfl ic_0 ?_
  refine cal_e h (fun r1 M1 e2 h => ?_)
  refine x_cS6l F.1 (i := 7) rfl ml_RM_144 ok_RM_spelled (Nat.le_of_ble_eq_true rfl) (Nat.le_of_ble_eq_true rfl) (fun _ => t_RM_spelled e2) ?_
  refine cal_e h (fun r3 M2 e4 h => ?_)
  refine x_cV1i F.1 (i := 8) rfl ml_RM_148 ok_RM_isWord rfl (Nat.le_of_ble_eq_true rfl) (Nat.le_of_ble_eq_true rfl) (fun _ => t_RM_isWord e4) ?_
  refine gd_e h (fun g5 h => ?_)
  exact x_zretf F (i := 9) rfl rfl (b01_e g5) h (res := (r, M')) hQ
set_option maxHeartbeats 4000000 in
theorem t_RM_isCosts {w : kx_W} {d : Nat} {M : kx_M} {Q : Option Value → kx_M → Prop} {r : Int32} {M' : kx_M} (h : f_RM_isCosts M = some (r, M')) (hQ : Q (some (.int r)) M') : Ct w (d + 1) m_RM_isCosts [.ref 135] M Q := by
  refine mk_ct ok_RM_isCosts (Nat.le_of_ble_eq_true rfl) (fun G F => ?_)
  rw [f_RM_isCosts] at h
  show G 0 [some (.ref 135)] [] M
  refine x_aload_n F.1 (i := 0) rfl rfl ?_
  refine x_bipush F.1 (i := 1) rfl bp_99 ?_
  refine x_bipush F.1 (i := 2) rfl bp_111 ?_
  refine x_bipush F.1 (i := 3) rfl bp_115 ?_
  refine x_bipush F.1 (i := 4) rfl bp_116 ?_
  refine x_bipush F.1 (i := 5) rfl bp_115 ?_
  refine x_iconst F.1 (i := 6) rfl ic_0 ?_
  refine cal_e h (fun r1 M1 e2 h => ?_)
  refine x_cS6l F.1 (i := 7) rfl ml_RM_144 ok_RM_spelled (Nat.le_of_ble_eq_true rfl) (Nat.le_of_ble_eq_true rfl) (fun _ => t_RM_spelled e2) ?_
  refine cal_e h (fun r3 M2 e4 h => ?_)
  refine x_cV1i F.1 (i := 8) rfl ml_RM_148 ok_RM_isWord rfl (Nat.le_of_ble_eq_true rfl) (Nat.le_of_ble_eq_true rfl) (fun _ => t_RM_isWord e4) ?_
  refine gd_e h (fun g5 h => ?_)
  exact x_zretf F (i := 9) rfl rfl (b01_e g5) h (res := (r, M')) hQ
set_option maxHeartbeats 4000000 in
theorem t_RM_isRow {w : kx_W} {d : Nat} {M : kx_M} {Q : Option Value → kx_M → Prop} {r : Int32} {M' : kx_M} (h : f_RM_isRow M = some (r, M')) (hQ : Q (some (.int r)) M') : Ct w (d + 1) m_RM_isRow [.ref 135] M Q := by
  refine mk_ct ok_RM_isRow (Nat.le_of_ble_eq_true rfl) (fun G F => ?_)
  rw [f_RM_isRow] at h
  show G 0 [some (.ref 135)] [] M
  refine x_aload_n F.1 (i := 0) rfl rfl ?_
  refine x_bipush F.1 (i := 1) rfl bp_114 ?_
  refine x_bipush F.1 (i := 2) rfl bp_111 ?_
  refine x_bipush F.1 (i := 3) rfl bp_119 ?_
  refine x_iconst F.1 (i := 4) rfl ic_0 ?_
  refine x_iconst F.1 (i := 5) rfl ic_0 ?_
  refine x_iconst F.1 (i := 6) rfl ic_0 ?_
  refine cal_e h (fun r1 M1 e2 h => ?_)
  refine x_cS6l F.1 (i := 7) rfl ml_RM_144 ok_RM_spelled (Nat.le_of_ble_eq_true rfl) (Nat.le_of_ble_eq_true rfl) (fun _ => t_RM_spelled e2) ?_
  refine cal_e h (fun r3 M2 e4 h => ?_)
  refine x_cV1i F.1 (i := 8) rfl ml_RM_148 ok_RM_isWord rfl (Nat.le_of_ble_eq_true rfl) (Nat.le_of_ble_eq_true rfl) (fun _ => t_RM_isWord e4) ?_
  refine gd_e h (fun g5 h => ?_)
  exact x_zretf F (i := 9) rfl rfl (b01_e g5) h (res := (r, M')) hQ
set_option maxHeartbeats 4000000 in
theorem t_RM_kindWord {w : kx_W} {d : Nat} {M : kx_M} {Q : Option Value → kx_M → Prop} {r : Int32} {M' : kx_M} (h : f_RM_kindWord M = some (r, M')) (hQ : Q (some (.int r)) M') : Ct w (d + 1) m_RM_kindWord [.ref 135] M Q := by
  refine mk_ct ok_RM_kindWord (Nat.le_of_ble_eq_true rfl) (fun G F => ?_)
  rw [f_RM_kindWord] at h
  show G 0 [some (.ref 135)] [] M
  refine x_aload_n F.1 (i := 0) rfl rfl ?_
  refine x_bipush F.1 (i := 1) rfl bp_107 ?_
  refine x_bipush F.1 (i := 2) rfl bp_110 ?_
  refine x_bipush F.1 (i := 3) rfl bp_105 ?_
  refine x_bipush F.1 (i := 4) rfl bp_116 ?_
  refine x_iconst F.1 (i := 5) rfl ic_0 ?_
  refine x_iconst F.1 (i := 6) rfl ic_0 ?_
  refine cal_e h (fun r1 M1 e2 h => ?_)
  refine x_cS6l F.1 (i := 7) rfl ml_RM_144 ok_RM_spelled (Nat.le_of_ble_eq_true rfl) (Nat.le_of_ble_eq_true rfl) (fun _ => t_RM_spelled e2) ?_
  refine cal_e h (fun r3 M2 e4 h => ?_)
  refine x_cV1i F.1 (i := 8) rfl ml_RM_148 ok_RM_isWord rfl (Nat.le_of_ble_eq_true rfl) (Nat.le_of_ble_eq_true rfl) (fun _ => t_RM_isWord e4) ?_
  refine x_if_eq F.1 (i := 9) (tgt := 22) rfl (by decide) (fun c => ?_) (fun c => ?_)
  · replace h := if_T c h
    refine x_aload_n F.1 (i := 12) rfl rfl ?_
    refine x_bipush F.1 (i := 13) rfl bp_112 ?_
    refine x_bipush F.1 (i := 14) rfl bp_117 ?_
    refine x_bipush F.1 (i := 15) rfl bp_114 ?_
    refine x_bipush F.1 (i := 16) rfl bp_108 ?_
    refine x_iconst F.1 (i := 17) rfl ic_0 ?_
    refine x_iconst F.1 (i := 18) rfl ic_0 ?_
    refine cal_e h (fun r5 M3 e6 h => ?_)
    refine x_cS6l F.1 (i := 19) rfl ml_RM_144 ok_RM_spelled (Nat.le_of_ble_eq_true rfl) (Nat.le_of_ble_eq_true rfl) (fun _ => t_RM_spelled e6) ?_
    refine cal_e h (fun r7 M4 e8 h => ?_)
    refine x_cV1i F.1 (i := 20) rfl ml_RM_148 ok_RM_isWord rfl (Nat.le_of_ble_eq_true rfl) (Nat.le_of_ble_eq_true rfl) (fun _ => t_RM_isWord e8) ?_
    refine x_if_eq F.1 (i := 21) (tgt := 44) rfl (by decide) (fun c => ?_) (fun c => ?_)
    · replace h := if_T c h
      refine x_aload_n F.1 (i := 24) rfl rfl ?_
      refine x_bipush F.1 (i := 25) rfl bp_99 ?_
      refine x_bipush F.1 (i := 26) rfl bp_97 ?_
      refine x_bipush F.1 (i := 27) rfl bp_98 ?_
      refine x_bipush F.1 (i := 28) rfl bp_108 ?_
      refine x_bipush F.1 (i := 29) rfl bp_101 ?_
      refine x_iconst F.1 (i := 30) rfl ic_0 ?_
      refine cal_e h (fun r9 M5 e10 h => ?_)
      refine x_cS6l F.1 (i := 31) rfl ml_RM_144 ok_RM_spelled (Nat.le_of_ble_eq_true rfl) (Nat.le_of_ble_eq_true rfl) (fun _ => t_RM_spelled e10) ?_
      refine cal_e h (fun r11 M6 e12 h => ?_)
      refine x_cV1i F.1 (i := 32) rfl ml_RM_148 ok_RM_isWord rfl (Nat.le_of_ble_eq_true rfl) (Nat.le_of_ble_eq_true rfl) (fun _ => t_RM_isWord e12) ?_
      refine x_if_eq F.1 (i := 33) (tgt := 67) rfl (by decide) (fun c => ?_) (fun c => ?_)
      · replace h := if_T c h
        refine x_aload_n F.1 (i := 36) rfl rfl ?_
        refine x_bipush F.1 (i := 37) rfl bp_104 ?_
        refine x_bipush F.1 (i := 38) rfl bp_111 ?_
        refine x_bipush F.1 (i := 39) rfl bp_108 ?_
        refine x_bipush F.1 (i := 40) rfl bp_101 ?_
        refine x_iconst F.1 (i := 41) rfl ic_0 ?_
        refine x_iconst F.1 (i := 42) rfl ic_0 ?_
        refine cal_e h (fun r13 M7 e14 h => ?_)
        refine x_cS6l F.1 (i := 43) rfl ml_RM_144 ok_RM_spelled (Nat.le_of_ble_eq_true rfl) (Nat.le_of_ble_eq_true rfl) (fun _ => t_RM_spelled e14) ?_
        refine cal_e h (fun r15 M8 e16 h => ?_)
        refine x_cV1i F.1 (i := 44) rfl ml_RM_148 ok_RM_isWord rfl (Nat.le_of_ble_eq_true rfl) (Nat.le_of_ble_eq_true rfl) (fun _ => t_RM_isWord e16) ?_
        refine x_if_eq F.1 (i := 45) (tgt := 91) rfl (by decide) (fun c => ?_) (fun c => ?_)
        · replace h := if_T c h
          refine x_iconst F.1 (i := 48) rfl ic_n1 ?_
          exact x_iretf F (i := 49) rfl rfl h (res := (r, M')) hQ
        · replace h := if_F c h
          refine x_iconst F.1 (i := 46) rfl ic_3 ?_
          refine x_goto F.1 (i := 47) (tgt := 92) rfl (by decide) ?_
          exact x_iretf F (i := 49) rfl rfl h (res := (r, M')) hQ
      · replace h := if_F c h
        refine x_iconst F.1 (i := 34) rfl ic_2 ?_
        exact x_iretf F (i := 35) rfl rfl h (res := (r, M')) hQ
    · replace h := if_F c h
      refine x_iconst F.1 (i := 22) rfl ic_1 ?_
      exact x_iretf F (i := 23) rfl rfl h (res := (r, M')) hQ
  · replace h := if_F c h
    refine x_iconst F.1 (i := 10) rfl ic_0 ?_
    exact x_iretf F (i := 11) rfl rfl h (res := (r, M')) hQ
set_option maxHeartbeats 4000000 in
theorem t_RM_stepWord {w : kx_W} {d : Nat} {M : kx_M} {Q : Option Value → kx_M → Prop} {r : Int32} {M' : kx_M} (h : f_RM_stepWord M = some (r, M')) (hQ : Q (some (.int r)) M') : Ct w (d + 1) m_RM_stepWord [.ref 135] M Q := by
  refine mk_ct ok_RM_stepWord (Nat.le_of_ble_eq_true rfl) (fun G F => ?_)
  rw [f_RM_stepWord] at h
  show G 0 [some (.ref 135)] [] M
  refine x_aload_n F.1 (i := 0) rfl rfl ?_
  refine x_bipush F.1 (i := 1) rfl bp_121 ?_
  refine x_bipush F.1 (i := 2) rfl bp_101 ?_
  refine x_bipush F.1 (i := 3) rfl bp_97 ?_
  refine x_bipush F.1 (i := 4) rfl bp_114 ?_
  refine x_iconst F.1 (i := 5) rfl ic_0 ?_
  refine x_iconst F.1 (i := 6) rfl ic_0 ?_
  refine cal_e h (fun r1 M1 e2 h => ?_)
  refine x_cS6l F.1 (i := 7) rfl ml_RM_144 ok_RM_spelled (Nat.le_of_ble_eq_true rfl) (Nat.le_of_ble_eq_true rfl) (fun _ => t_RM_spelled e2) ?_
  refine cal_e h (fun r3 M2 e4 h => ?_)
  refine x_cV1i F.1 (i := 8) rfl ml_RM_148 ok_RM_isWord rfl (Nat.le_of_ble_eq_true rfl) (Nat.le_of_ble_eq_true rfl) (fun _ => t_RM_isWord e4) ?_
  refine x_if_eq F.1 (i := 9) (tgt := 22) rfl (by decide) (fun c => ?_) (fun c => ?_)
  · replace h := if_T c h
    refine x_aload_n F.1 (i := 12) rfl rfl ?_
    refine x_bipush F.1 (i := 13) rfl bp_112 ?_
    refine x_bipush F.1 (i := 14) rfl bp_117 ?_
    refine x_bipush F.1 (i := 15) rfl bp_108 ?_
    refine x_bipush F.1 (i := 16) rfl bp_108 ?_
    refine x_iconst F.1 (i := 17) rfl ic_0 ?_
    refine x_iconst F.1 (i := 18) rfl ic_0 ?_
    refine cal_e h (fun r5 M3 e6 h => ?_)
    refine x_cS6l F.1 (i := 19) rfl ml_RM_144 ok_RM_spelled (Nat.le_of_ble_eq_true rfl) (Nat.le_of_ble_eq_true rfl) (fun _ => t_RM_spelled e6) ?_
    refine cal_e h (fun r7 M4 e8 h => ?_)
    refine x_cV1i F.1 (i := 20) rfl ml_RM_148 ok_RM_isWord rfl (Nat.le_of_ble_eq_true rfl) (Nat.le_of_ble_eq_true rfl) (fun _ => t_RM_isWord e8) ?_
    refine x_if_eq F.1 (i := 21) (tgt := 44) rfl (by decide) (fun c => ?_) (fun c => ?_)
    · replace h := if_T c h
      refine x_aload_n F.1 (i := 24) rfl rfl ?_
      refine x_bipush F.1 (i := 25) rfl bp_109 ?_
      refine x_bipush F.1 (i := 26) rfl bp_111 ?_
      refine x_bipush F.1 (i := 27) rfl bp_116 ?_
      refine x_bipush F.1 (i := 28) rfl bp_104 ?_
      refine x_iconst F.1 (i := 29) rfl ic_0 ?_
      refine x_iconst F.1 (i := 30) rfl ic_0 ?_
      refine cal_e h (fun r9 M5 e10 h => ?_)
      refine x_cS6l F.1 (i := 31) rfl ml_RM_144 ok_RM_spelled (Nat.le_of_ble_eq_true rfl) (Nat.le_of_ble_eq_true rfl) (fun _ => t_RM_spelled e10) ?_
      refine cal_e h (fun r11 M6 e12 h => ?_)
      refine x_cV1i F.1 (i := 32) rfl ml_RM_148 ok_RM_isWord rfl (Nat.le_of_ble_eq_true rfl) (Nat.le_of_ble_eq_true rfl) (fun _ => t_RM_isWord e12) ?_
      refine x_if_eq F.1 (i := 33) (tgt := 66) rfl (by decide) (fun c => ?_) (fun c => ?_)
      · replace h := if_T c h
        refine x_aload_n F.1 (i := 36) rfl rfl ?_
        refine x_bipush F.1 (i := 37) rfl bp_100 ?_
        refine x_bipush F.1 (i := 38) rfl bp_97 ?_
        refine x_bipush F.1 (i := 39) rfl bp_114 ?_
        refine x_bipush F.1 (i := 40) rfl bp_110 ?_
        refine x_iconst F.1 (i := 41) rfl ic_0 ?_
        refine x_iconst F.1 (i := 42) rfl ic_0 ?_
        refine cal_e h (fun r13 M7 e14 h => ?_)
        refine x_cS6l F.1 (i := 43) rfl ml_RM_144 ok_RM_spelled (Nat.le_of_ble_eq_true rfl) (Nat.le_of_ble_eq_true rfl) (fun _ => t_RM_spelled e14) ?_
        refine cal_e h (fun r15 M8 e16 h => ?_)
        refine x_cV1i F.1 (i := 44) rfl ml_RM_148 ok_RM_isWord rfl (Nat.le_of_ble_eq_true rfl) (Nat.le_of_ble_eq_true rfl) (fun _ => t_RM_isWord e16) ?_
        refine x_if_eq F.1 (i := 45) (tgt := 88) rfl (by decide) (fun c => ?_) (fun c => ?_)
        · replace h := if_T c h
          refine x_aload_n F.1 (i := 48) rfl rfl ?_
          refine x_bipush F.1 (i := 49) rfl bp_97 ?_
          refine x_bipush F.1 (i := 50) rfl bp_110 ?_
          refine x_bipush F.1 (i := 51) rfl bp_121 ?_
          refine x_iconst F.1 (i := 52) rfl ic_0 ?_
          refine x_iconst F.1 (i := 53) rfl ic_0 ?_
          refine x_iconst F.1 (i := 54) rfl ic_0 ?_
          refine cal_e h (fun r17 M9 e18 h => ?_)
          refine x_cS6l F.1 (i := 55) rfl ml_RM_144 ok_RM_spelled (Nat.le_of_ble_eq_true rfl) (Nat.le_of_ble_eq_true rfl) (fun _ => t_RM_spelled e18) ?_
          refine cal_e h (fun r19 M10 e20 h => ?_)
          refine x_cV1i F.1 (i := 56) rfl ml_RM_148 ok_RM_isWord rfl (Nat.le_of_ble_eq_true rfl) (Nat.le_of_ble_eq_true rfl) (fun _ => t_RM_isWord e20) ?_
          refine x_if_eq F.1 (i := 57) (tgt := 109) rfl (by decide) (fun c => ?_) (fun c => ?_)
          · replace h := if_T c h
            refine x_aload_n F.1 (i := 60) rfl rfl ?_
            refine x_bipush F.1 (i := 61) rfl bp_119 ?_
            refine x_bipush F.1 (i := 62) rfl bp_104 ?_
            refine x_bipush F.1 (i := 63) rfl bp_101 ?_
            refine x_bipush F.1 (i := 64) rfl bp_110 ?_
            refine x_iconst F.1 (i := 65) rfl ic_0 ?_
            refine x_iconst F.1 (i := 66) rfl ic_0 ?_
            refine cal_e h (fun r21 M11 e22 h => ?_)
            refine x_cS6l F.1 (i := 67) rfl ml_RM_144 ok_RM_spelled (Nat.le_of_ble_eq_true rfl) (Nat.le_of_ble_eq_true rfl) (fun _ => t_RM_spelled e22) ?_
            refine cal_e h (fun r23 M12 e24 h => ?_)
            refine x_cV1i F.1 (i := 68) rfl ml_RM_148 ok_RM_isWord rfl (Nat.le_of_ble_eq_true rfl) (Nat.le_of_ble_eq_true rfl) (fun _ => t_RM_isWord e24) ?_
            refine x_if_eq F.1 (i := 69) (tgt := 131) rfl (by decide) (fun c => ?_) (fun c => ?_)
            · replace h := if_T c h
              refine x_aload_n F.1 (i := 72) rfl rfl ?_
              refine x_bipush F.1 (i := 73) rfl bp_108 ?_
              refine x_bipush F.1 (i := 74) rfl bp_111 ?_
              refine x_bipush F.1 (i := 75) rfl bp_111 ?_
              refine x_bipush F.1 (i := 76) rfl bp_112 ?_
              refine x_iconst F.1 (i := 77) rfl ic_0 ?_
              refine x_iconst F.1 (i := 78) rfl ic_0 ?_
              refine cal_e h (fun r25 M13 e26 h => ?_)
              refine x_cS6l F.1 (i := 79) rfl ml_RM_144 ok_RM_spelled (Nat.le_of_ble_eq_true rfl) (Nat.le_of_ble_eq_true rfl) (fun _ => t_RM_spelled e26) ?_
              refine cal_e h (fun r27 M14 e28 h => ?_)
              refine x_cV1i F.1 (i := 80) rfl ml_RM_148 ok_RM_isWord rfl (Nat.le_of_ble_eq_true rfl) (Nat.le_of_ble_eq_true rfl) (fun _ => t_RM_isWord e28) ?_
              refine x_if_eq F.1 (i := 81) (tgt := 154) rfl (by decide) (fun c => ?_) (fun c => ?_)
              · replace h := if_T c h
                refine x_aload_n F.1 (i := 84) rfl rfl ?_
                refine x_bipush F.1 (i := 85) rfl bp_115 ?_
                refine x_bipush F.1 (i := 86) rfl bp_116 ?_
                refine x_bipush F.1 (i := 87) rfl bp_111 ?_
                refine x_bipush F.1 (i := 88) rfl bp_112 ?_
                refine x_iconst F.1 (i := 89) rfl ic_0 ?_
                refine x_iconst F.1 (i := 90) rfl ic_0 ?_
                refine cal_e h (fun r29 M15 e30 h => ?_)
                refine x_cS6l F.1 (i := 91) rfl ml_RM_144 ok_RM_spelled (Nat.le_of_ble_eq_true rfl) (Nat.le_of_ble_eq_true rfl) (fun _ => t_RM_spelled e30) ?_
                refine cal_e h (fun r31 M16 e32 h => ?_)
                refine x_cV1i F.1 (i := 92) rfl ml_RM_148 ok_RM_isWord rfl (Nat.le_of_ble_eq_true rfl) (Nat.le_of_ble_eq_true rfl) (fun _ => t_RM_isWord e32) ?_
                refine x_if_eq F.1 (i := 93) (tgt := 179) rfl (by decide) (fun c => ?_) (fun c => ?_)
                · replace h := if_T c h
                  refine x_iconst F.1 (i := 96) rfl ic_n1 ?_
                  exact x_iretf F (i := 97) rfl rfl h (res := (r, M')) hQ
                · replace h := if_F c h
                  refine x_bipush F.1 (i := 94) rfl bp_7 ?_
                  refine x_goto F.1 (i := 95) (tgt := 180) rfl (by decide) ?_
                  exact x_iretf F (i := 97) rfl rfl h (res := (r, M')) hQ
              · replace h := if_F c h
                refine x_bipush F.1 (i := 82) rfl bp_6 ?_
                exact x_iretf F (i := 83) rfl rfl h (res := (r, M')) hQ
            · replace h := if_F c h
              refine x_iconst F.1 (i := 70) rfl ic_5 ?_
              exact x_iretf F (i := 71) rfl rfl h (res := (r, M')) hQ
          · replace h := if_F c h
            refine x_iconst F.1 (i := 58) rfl ic_4 ?_
            exact x_iretf F (i := 59) rfl rfl h (res := (r, M')) hQ
        · replace h := if_F c h
          refine x_iconst F.1 (i := 46) rfl ic_3 ?_
          exact x_iretf F (i := 47) rfl rfl h (res := (r, M')) hQ
      · replace h := if_F c h
        refine x_iconst F.1 (i := 34) rfl ic_2 ?_
        exact x_iretf F (i := 35) rfl rfl h (res := (r, M')) hQ
    · replace h := if_F c h
      refine x_iconst F.1 (i := 22) rfl ic_1 ?_
      exact x_iretf F (i := 23) rfl rfl h (res := (r, M')) hQ
  · replace h := if_F c h
    refine x_iconst F.1 (i := 10) rfl ic_0 ?_
    exact x_iretf F (i := 11) rfl rfl h (res := (r, M')) hQ
set_option maxHeartbeats 4000000 in
theorem t_RM_testWord {w : kx_W} {d : Nat} {M : kx_M} {Q : Option Value → kx_M → Prop} {r : Int32} {M' : kx_M} (h : f_RM_testWord M = some (r, M')) (hQ : Q (some (.int r)) M') : Ct w (d + 1) m_RM_testWord [.ref 135] M Q := by
  refine mk_ct ok_RM_testWord (Nat.le_of_ble_eq_true rfl) (fun G F => ?_)
  rw [f_RM_testWord] at h
  show G 0 [some (.ref 135)] [] M
  refine x_aload_n F.1 (i := 0) rfl rfl ?_
  refine x_bipush F.1 (i := 1) rfl bp_115 ?_
  refine x_bipush F.1 (i := 2) rfl bp_97 ?_
  refine x_bipush F.1 (i := 3) rfl bp_105 ?_
  refine x_bipush F.1 (i := 4) rfl bp_100 ?_
  refine x_iconst F.1 (i := 5) rfl ic_0 ?_
  refine x_iconst F.1 (i := 6) rfl ic_0 ?_
  refine cal_e h (fun r1 M1 e2 h => ?_)
  refine x_cS6l F.1 (i := 7) rfl ml_RM_144 ok_RM_spelled (Nat.le_of_ble_eq_true rfl) (Nat.le_of_ble_eq_true rfl) (fun _ => t_RM_spelled e2) ?_
  refine cal_e h (fun r3 M2 e4 h => ?_)
  refine x_cV1i F.1 (i := 8) rfl ml_RM_148 ok_RM_isWord rfl (Nat.le_of_ble_eq_true rfl) (Nat.le_of_ble_eq_true rfl) (fun _ => t_RM_isWord e4) ?_
  refine x_if_eq F.1 (i := 9) (tgt := 22) rfl (by decide) (fun c => ?_) (fun c => ?_)
  · replace h := if_T c h
    refine x_aload_n F.1 (i := 12) rfl rfl ?_
    refine x_bipush F.1 (i := 13) rfl bp_119 ?_
    refine x_bipush F.1 (i := 14) rfl bp_104 ?_
    refine x_bipush F.1 (i := 15) rfl bp_111 ?_
    refine x_bipush F.1 (i := 16) rfl bp_108 ?_
    refine x_bipush F.1 (i := 17) rfl bp_101 ?_
    refine x_iconst F.1 (i := 18) rfl ic_0 ?_
    refine cal_e h (fun r5 M3 e6 h => ?_)
    refine x_cS6l F.1 (i := 19) rfl ml_RM_144 ok_RM_spelled (Nat.le_of_ble_eq_true rfl) (Nat.le_of_ble_eq_true rfl) (fun _ => t_RM_spelled e6) ?_
    refine cal_e h (fun r7 M4 e8 h => ?_)
    refine x_cV1i F.1 (i := 20) rfl ml_RM_148 ok_RM_isWord rfl (Nat.le_of_ble_eq_true rfl) (Nat.le_of_ble_eq_true rfl) (fun _ => t_RM_isWord e8) ?_
    refine x_if_eq F.1 (i := 21) (tgt := 45) rfl (by decide) (fun c => ?_) (fun c => ?_)
    · replace h := if_T c h
      refine x_aload_n F.1 (i := 24) rfl rfl ?_
      refine x_bipush F.1 (i := 25) rfl bp_117 ?_
      refine x_bipush F.1 (i := 26) rfl bp_110 ?_
      refine x_bipush F.1 (i := 27) rfl bp_100 ?_
      refine x_bipush F.1 (i := 28) rfl bp_111 ?_
      refine x_bipush F.1 (i := 29) rfl bp_110 ?_
      refine x_bipush F.1 (i := 30) rfl bp_101 ?_
      refine cal_e h (fun r9 M5 e10 h => ?_)
      refine x_cS6l F.1 (i := 31) rfl ml_RM_144 ok_RM_spelled (Nat.le_of_ble_eq_true rfl) (Nat.le_of_ble_eq_true rfl) (fun _ => t_RM_spelled e10) ?_
      refine cal_e h (fun r11 M6 e12 h => ?_)
      refine x_cV1i F.1 (i := 32) rfl ml_RM_148 ok_RM_isWord rfl (Nat.le_of_ble_eq_true rfl) (Nat.le_of_ble_eq_true rfl) (fun _ => t_RM_isWord e12) ?_
      refine x_if_eq F.1 (i := 33) (tgt := 71) rfl (by decide) (fun c => ?_) (fun c => ?_)
      · replace h := if_T c h
        refine x_iconst F.1 (i := 36) rfl ic_n1 ?_
        exact x_iretf F (i := 37) rfl rfl h (res := (r, M')) hQ
      · replace h := if_F c h
        refine x_iconst F.1 (i := 34) rfl ic_2 ?_
        refine x_goto F.1 (i := 35) (tgt := 72) rfl (by decide) ?_
        exact x_iretf F (i := 37) rfl rfl h (res := (r, M')) hQ
    · replace h := if_F c h
      refine x_iconst F.1 (i := 22) rfl ic_1 ?_
      exact x_iretf F (i := 23) rfl rfl h (res := (r, M')) hQ
  · replace h := if_F c h
    refine x_iconst F.1 (i := 10) rfl ic_0 ?_
    exact x_iretf F (i := 11) rfl rfl h (res := (r, M')) hQ
set_option maxHeartbeats 4000000 in
theorem t_RM_isEnd {w : kx_W} {d : Nat} {M : kx_M} {Q : Option Value → kx_M → Prop} {r : Int32} {M' : kx_M} (h : f_RM_isEnd M = some (r, M')) (hQ : Q (some (.int r)) M') : Ct w (d + 1) m_RM_isEnd [.ref 135] M Q := by
  refine mk_ct ok_RM_isEnd (Nat.le_of_ble_eq_true rfl) (fun G F => ?_)
  rw [f_RM_isEnd] at h
  show G 0 [some (.ref 135)] [] M
  refine x_aload_n F.1 (i := 0) rfl rfl ?_
  refine x_bipush F.1 (i := 1) rfl bp_101 ?_
  refine x_bipush F.1 (i := 2) rfl bp_110 ?_
  refine x_bipush F.1 (i := 3) rfl bp_100 ?_
  refine x_iconst F.1 (i := 4) rfl ic_0 ?_
  refine x_iconst F.1 (i := 5) rfl ic_0 ?_
  refine x_iconst F.1 (i := 6) rfl ic_0 ?_
  refine cal_e h (fun r1 M1 e2 h => ?_)
  refine x_cS6l F.1 (i := 7) rfl ml_RM_144 ok_RM_spelled (Nat.le_of_ble_eq_true rfl) (Nat.le_of_ble_eq_true rfl) (fun _ => t_RM_spelled e2) ?_
  refine cal_e h (fun r3 M2 e4 h => ?_)
  refine x_cV1i F.1 (i := 8) rfl ml_RM_148 ok_RM_isWord rfl (Nat.le_of_ble_eq_true rfl) (Nat.le_of_ble_eq_true rfl) (fun _ => t_RM_isWord e4) ?_
  refine gd_e h (fun g5 h => ?_)
  exact x_zretf F (i := 9) rfl rfl (b01_e g5) h (res := (r, M')) hQ
set_option maxHeartbeats 4000000 in
theorem t_RM_isKept {w : kx_W} {d : Nat} {M : kx_M} {Q : Option Value → kx_M → Prop} {r : Int32} {M' : kx_M} (h : f_RM_isKept M = some (r, M')) (hQ : Q (some (.int r)) M') : Ct w (d + 2) m_RM_isKept [.ref 135] M Q := by
  refine mk_ct ok_RM_isKept (Nat.le_of_ble_eq_true rfl) (fun G F => ?_)
  rw [f_RM_isKept] at h
  show G 0 [some (.ref 135)] [] M
  refine x_aload_n F.1 (i := 0) rfl rfl ?_
  refine cal_e h (fun r1 M1 e2 h => ?_)
  refine x_cV0i F.1 (i := 1) rfl ml_RM_152 ok_RM_isWide rfl (Nat.le_of_ble_eq_true rfl) (Nat.le_of_ble_eq_true rfl) (fun _ => t_RM_isWide e2) ?_
  refine x_if_ne F.1 (i := 2) (tgt := 70) rfl (by decide) (fun c => ?_) (fun c => ?_)
  · replace h := if_F c h
    refine x_iconst F.1 (i := 30) rfl ic_1 ?_
    exact x_zretf F (i := 31) rfl rfl (Or.inr rfl) h (res := (r, M')) hQ
  · replace h := if_T c h
    refine x_aload_n F.1 (i := 3) rfl rfl ?_
    refine cal_e h (fun r3 M2 e4 h => ?_)
    refine x_cV0i F.1 (i := 4) rfl ml_RM_156 ok_RM_isTough rfl (Nat.le_of_ble_eq_true rfl) (Nat.le_of_ble_eq_true rfl) (fun _ => t_RM_isTough e4) ?_
    refine x_if_ne F.1 (i := 5) (tgt := 70) rfl (by decide) (fun c => ?_) (fun c => ?_)
    · replace h := if_F c h
      refine x_iconst F.1 (i := 30) rfl ic_1 ?_
      exact x_zretf F (i := 31) rfl rfl (Or.inr rfl) h (res := (r, M')) hQ
    · replace h := if_T c h
      refine x_aload_n F.1 (i := 6) rfl rfl ?_
      refine cal_e h (fun r5 M3 e6 h => ?_)
      refine x_cV0i F.1 (i := 7) rfl ml_RM_159 ok_RM_isQueen rfl (Nat.le_of_ble_eq_true rfl) (Nat.le_of_ble_eq_true rfl) (fun _ => t_RM_isQueen e6) ?_
      refine x_if_ne F.1 (i := 8) (tgt := 70) rfl (by decide) (fun c => ?_) (fun c => ?_)
      · replace h := if_F c h
        refine x_iconst F.1 (i := 30) rfl ic_1 ?_
        exact x_zretf F (i := 31) rfl rfl (Or.inr rfl) h (res := (r, M')) hQ
      · replace h := if_T c h
        refine x_aload_n F.1 (i := 9) rfl rfl ?_
        refine cal_e h (fun r7 M4 e8 h => ?_)
        refine x_cV0i F.1 (i := 10) rfl ml_RM_162 ok_RM_isWool rfl (Nat.le_of_ble_eq_true rfl) (Nat.le_of_ble_eq_true rfl) (fun _ => t_RM_isWool e8) ?_
        refine x_if_ne F.1 (i := 11) (tgt := 70) rfl (by decide) (fun c => ?_) (fun c => ?_)
        · replace h := if_F c h
          refine x_iconst F.1 (i := 30) rfl ic_1 ?_
          exact x_zretf F (i := 31) rfl rfl (Or.inr rfl) h (res := (r, M')) hQ
        · replace h := if_T c h
          refine x_aload_n F.1 (i := 12) rfl rfl ?_
          refine cal_e h (fun r9 M5 e10 h => ?_)
          refine x_cV0i F.1 (i := 13) rfl ml_RM_165 ok_RM_isClause rfl (Nat.le_of_ble_eq_true rfl) (Nat.le_of_ble_eq_true rfl) (fun _ => t_RM_isClause e10) ?_
          refine x_if_ne F.1 (i := 14) (tgt := 70) rfl (by decide) (fun c => ?_) (fun c => ?_)
          · replace h := if_F c h
            refine x_iconst F.1 (i := 30) rfl ic_1 ?_
            exact x_zretf F (i := 31) rfl rfl (Or.inr rfl) h (res := (r, M')) hQ
          · replace h := if_T c h
            refine x_aload_n F.1 (i := 15) rfl rfl ?_
            refine cal_e h (fun r11 M6 e12 h => ?_)
            refine x_cV0i F.1 (i := 16) rfl ml_RM_168 ok_RM_isIs rfl (Nat.le_of_ble_eq_true rfl) (Nat.le_of_ble_eq_true rfl) (fun _ => t_RM_isIs e12) ?_
            refine x_if_ne F.1 (i := 17) (tgt := 70) rfl (by decide) (fun c => ?_) (fun c => ?_)
            · replace h := if_F c h
              refine x_iconst F.1 (i := 30) rfl ic_1 ?_
              exact x_zretf F (i := 31) rfl rfl (Or.inr rfl) h (res := (r, M')) hQ
            · replace h := if_T c h
              refine x_aload_n F.1 (i := 18) rfl rfl ?_
              refine cal_e h (fun r13 M7 e14 h => ?_)
              refine x_cV0i F.1 (i := 19) rfl ml_RM_171 ok_RM_isClash rfl (Nat.le_of_ble_eq_true rfl) (Nat.le_of_ble_eq_true rfl) (fun _ => t_RM_isClash e14) ?_
              refine x_if_ne F.1 (i := 20) (tgt := 70) rfl (by decide) (fun c => ?_) (fun c => ?_)
              · replace h := if_F c h
                refine x_iconst F.1 (i := 30) rfl ic_1 ?_
                exact x_zretf F (i := 31) rfl rfl (Or.inr rfl) h (res := (r, M')) hQ
              · replace h := if_T c h
                refine x_aload_n F.1 (i := 21) rfl rfl ?_
                refine cal_e h (fun r15 M8 e16 h => ?_)
                refine x_cV0i F.1 (i := 22) rfl ml_RM_174 ok_RM_isGives rfl (Nat.le_of_ble_eq_true rfl) (Nat.le_of_ble_eq_true rfl) (fun _ => t_RM_isGives e16) ?_
                refine x_if_ne F.1 (i := 23) (tgt := 70) rfl (by decide) (fun c => ?_) (fun c => ?_)
                · replace h := if_F c h
                  refine x_iconst F.1 (i := 30) rfl ic_1 ?_
                  exact x_zretf F (i := 31) rfl rfl (Or.inr rfl) h (res := (r, M')) hQ
                · replace h := if_T c h
                  refine x_aload_n F.1 (i := 24) rfl rfl ?_
                  refine cal_e h (fun r17 M9 e18 h => ?_)
                  refine x_cV0i F.1 (i := 25) rfl ml_RM_177 ok_RM_isCosts rfl (Nat.le_of_ble_eq_true rfl) (Nat.le_of_ble_eq_true rfl) (fun _ => t_RM_isCosts e18) ?_
                  refine x_if_ne F.1 (i := 26) (tgt := 70) rfl (by decide) (fun c => ?_) (fun c => ?_)
                  · replace h := if_F c h
                    refine x_iconst F.1 (i := 30) rfl ic_1 ?_
                    exact x_zretf F (i := 31) rfl rfl (Or.inr rfl) h (res := (r, M')) hQ
                  · replace h := if_T c h
                    refine x_aload_n F.1 (i := 27) rfl rfl ?_
                    refine cal_e h (fun r19 M10 e20 h => ?_)
                    refine x_cV0i F.1 (i := 28) rfl ml_RM_180 ok_RM_isRow rfl (Nat.le_of_ble_eq_true rfl) (Nat.le_of_ble_eq_true rfl) (fun _ => t_RM_isRow e20) ?_
                    refine x_if_eq F.1 (i := 29) (tgt := 72) rfl (by decide) (fun c => ?_) (fun c => ?_)
                    · replace h := if_T c h
                      refine x_aload_n F.1 (i := 32) rfl rfl ?_
                      refine cal_e h (fun r21 M11 e22 h => ?_)
                      refine x_cV0i F.1 (i := 33) rfl ml_RM_183 ok_RM_kindWord rfl (Nat.le_of_ble_eq_true rfl) (Nat.le_of_ble_eq_true rfl) (fun _ => t_RM_kindWord e22) ?_
                      refine x_if_ge F.1 (i := 34) (tgt := 100) rfl (by decide) (fun c => ?_) (fun c => ?_)
                      · replace h := if_T c h
                        refine x_iconst F.1 (i := 44) rfl ic_1 ?_
                        refine x_goto F.1 (i := 45) (tgt := 105) rfl (by decide) ?_
                        exact x_zretf F (i := 47) rfl rfl (Or.inr rfl) h (res := (r, M')) hQ
                      · replace h := if_F c h
                        refine x_aload_n F.1 (i := 35) rfl rfl ?_
                        refine cal_e h (fun r23 M12 e24 h => ?_)
                        refine x_cV0i F.1 (i := 36) rfl ml_RM_187 ok_RM_stepWord rfl (Nat.le_of_ble_eq_true rfl) (Nat.le_of_ble_eq_true rfl) (fun _ => t_RM_stepWord e24) ?_
                        refine x_if_ge F.1 (i := 37) (tgt := 100) rfl (by decide) (fun c => ?_) (fun c => ?_)
                        · replace h := if_T c h
                          refine x_iconst F.1 (i := 44) rfl ic_1 ?_
                          refine x_goto F.1 (i := 45) (tgt := 105) rfl (by decide) ?_
                          exact x_zretf F (i := 47) rfl rfl (Or.inr rfl) h (res := (r, M')) hQ
                        · replace h := if_F c h
                          refine x_aload_n F.1 (i := 38) rfl rfl ?_
                          refine cal_e h (fun r25 M13 e26 h => ?_)
                          refine x_cV0i F.1 (i := 39) rfl ml_RM_190 ok_RM_testWord rfl (Nat.le_of_ble_eq_true rfl) (Nat.le_of_ble_eq_true rfl) (fun _ => t_RM_testWord e26) ?_
                          refine x_if_ge F.1 (i := 40) (tgt := 100) rfl (by decide) (fun c => ?_) (fun c => ?_)
                          · replace h := if_T c h
                            refine x_iconst F.1 (i := 44) rfl ic_1 ?_
                            refine x_goto F.1 (i := 45) (tgt := 105) rfl (by decide) ?_
                            exact x_zretf F (i := 47) rfl rfl (Or.inr rfl) h (res := (r, M')) hQ
                          · replace h := if_F c h
                            refine x_aload_n F.1 (i := 41) rfl rfl ?_
                            refine cal_e h (fun r27 M14 e28 h => ?_)
                            refine x_cV0i F.1 (i := 42) rfl ml_RM_193 ok_RM_isEnd rfl (Nat.le_of_ble_eq_true rfl) (Nat.le_of_ble_eq_true rfl) (fun _ => t_RM_isEnd e28) ?_
                            refine x_if_eq F.1 (i := 43) (tgt := 104) rfl (by decide) (fun c => ?_) (fun c => ?_)
                            · replace h := if_T c h
                              refine x_iconst F.1 (i := 46) rfl ic_0 ?_
                              exact x_zretf F (i := 47) rfl rfl (Or.inl rfl) h (res := (r, M')) hQ
                            · replace h := if_F c h
                              refine x_iconst F.1 (i := 44) rfl ic_1 ?_
                              refine x_goto F.1 (i := 45) (tgt := 105) rfl (by decide) ?_
                              exact x_zretf F (i := 47) rfl rfl (Or.inr rfl) h (res := (r, M')) hQ
                    · replace h := if_F c h
                      refine x_iconst F.1 (i := 30) rfl ic_1 ?_
                      exact x_zretf F (i := 31) rfl rfl (Or.inr rfl) h (res := (r, M')) hQ
