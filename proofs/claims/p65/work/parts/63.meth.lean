set_option maxHeartbeats 4000000 in
theorem t_Joiner_overlap_l21 {w : kx_W} {d : Nat} {Q : Option Value → kx_M → Prop} {G : Nat → List (Option Value) → List Value → kx_M → Prop} (F : Sd w (d + 1) m_Joiner_overlap Q G) {p1 : Int32} {p2 : Int32} {res : Int32 × kx_M} (hQ : Q (some (.int res.1)) res.2) :
    ∀ (n : Nat) (x4 : Int32) (M : kx_M),
    f_Joiner_overlap_l21 p1 p2 n x4 M = some res → G 21 [some (.ref 18), some (.int p1), some (.int p2), none, some (.int x4)] [] M := by
  intro n
  induction n with
  | zero =>
    intro x4 M h
    exact absurd h (by rw [f_Joiner_overlap_l21]; exact fun z => nomatch z)
  | succ n ih =>
    intro x4 M h
    rw [f_Joiner_overlap_l21] at h
    refine x_iload F.1 (i := 14) rfl rfl ?_
    refine x_if_le F.1 (i := 15) (tgt := 69) rfl (by decide) (fun c => ?_) (fun c => ?_)
    · replace h := if_T c h
      refine x_iconst F.1 (i := 42) rfl ic_0 ?_
      exact x_iretf F (i := 43) rfl rfl h hQ
    · replace h := if_F c h
      refine x_aload_n F.1 (i := 16) rfl rfl ?_
      refine x_getC F.1 (i := 17) rfl fl_Joiner_15 rfl (by rfl) ?_
      refine x_iload_n F.1 (i := 18) rfl rfl ?_
      refine gd_e h (fun g1 h => ?_)
      refine x_lald F.1 (i := 19) rfl rfl (inb_e g1) ?_
      refine x_iload F.1 (i := 20) rfl rfl ?_
      refine cal_e h (fun r2 M1 e3 h => ?_)
      refine x_cS1l F.1 (i := 21) rfl ml_Joiner_75 ok_Joiner_lowest (Nat.le_of_ble_eq_true rfl) (Nat.le_of_ble_eq_true rfl) (fun _ => t_Joiner_lowest e3) ?_
      refine x_land F.1 (i := 22) rfl ?_
      refine x_aload_n F.1 (i := 23) rfl rfl ?_
      refine x_getC F.1 (i := 24) rfl fl_Joiner_15 rfl (by rfl) ?_
      refine x_iload_n F.1 (i := 25) rfl rfl ?_
      refine gd_e h (fun g4 h => ?_)
      refine x_lald F.1 (i := 26) rfl rfl (inb_e g4) ?_
      refine x_iconst F.1 (i := 27) rfl ic_2 ?_
      refine x_aload_n F.1 (i := 28) rfl rfl ?_
      refine x_getC F.1 (i := 29) rfl fl_Joiner_9 rfl (by rfl) ?_
      refine x_iload_n F.1 (i := 30) rfl rfl ?_
      refine gd_e h (fun g5 h => ?_)
      refine x_iald F.1 (i := 31) rfl rfl (inb_e g5) ?_
      refine x_iload F.1 (i := 32) rfl rfl ?_
      refine x_isub F.1 (i := 33) rfl ?_
      refine x_imul F.1 (i := 34) rfl ?_
      refine x_lshr F.1 (i := 35) rfl ?_
      refine x_lcmp F.1 (i := 36) rfl ?_
      refine x_if_ne F.1 (i := 37) (tgt := 63) rfl (by decide) (fun c => ?_) (fun c => ?_)
      · replace h := if_F c h
        refine x_iinc F.1 (i := 40) rfl rfl rfl (Nat.le_of_ble_eq_true rfl) rfl ?_
        replace h := bd_e h
        refine x_goto F.1 (i := 41) (tgt := 21) rfl (by decide) ?_
        exact x_wk F.1 (ih _ _ h) ⟨rfl, rfl, rfl, rfl, trivial⟩
      · replace h := if_T c h
        refine x_iload F.1 (i := 38) rfl rfl ?_
        exact x_iretf F (i := 39) rfl rfl h hQ
set_option maxHeartbeats 4000000 in
theorem t_Joiner_overlap {w : kx_W} {d : Nat} {M : kx_M} {Q : Option Value → kx_M → Prop} {p1 : Int32} {p2 : Int32} {r : Int32} {M' : kx_M} (h : f_Joiner_overlap p1 p2 M = some (r, M')) (hQ : Q (some (.int r)) M') : Ct w (d + 1) m_Joiner_overlap [.ref 18, .int p1, .int p2] M Q := by
  refine mk_ct ok_Joiner_overlap (Nat.le_of_ble_eq_true rfl) (fun G F => ?_)
  rw [f_Joiner_overlap] at h
  show G 0 [some (.ref 18), some (.int p1), some (.int p2), none, none] [] M
  refine x_aload_n F.1 (i := 0) rfl rfl ?_
  refine x_getC F.1 (i := 1) rfl fl_Joiner_9 rfl (by rfl) ?_
  refine x_iload_n F.1 (i := 2) rfl rfl ?_
  refine gd_e h (fun g1 h => ?_)
  refine x_iald F.1 (i := 3) rfl rfl (inb_e g1) ?_
  refine x_aload_n F.1 (i := 4) rfl rfl ?_
  refine x_getC F.1 (i := 5) rfl fl_Joiner_9 rfl (by rfl) ?_
  refine x_iload_n F.1 (i := 6) rfl rfl ?_
  refine gd_e h (fun g2 h => ?_)
  refine x_iald F.1 (i := 7) rfl rfl (inb_e g2) ?_
  refine x_mmin F.1 (i := 8) rfl jm_Joiner_78 (Nat.le_of_ble_eq_true rfl) ?_
  refine x_iconst F.1 (i := 9) rfl ic_1 ?_
  refine x_isub F.1 (i := 10) rfl ?_
  refine x_istore_n F.1 (i := 11) rfl (Nat.le_of_ble_eq_true rfl) (Nat.le_of_ble_eq_true rfl) rfl ?_
  replace h := bd_e h
  refine x_iload_n F.1 (i := 12) rfl rfl ?_
  refine x_istore F.1 (i := 13) rfl (Nat.le_of_ble_eq_true rfl) (Nat.le_of_ble_eq_true rfl) rfl ?_
  exact x_wk F.1 ((t_Joiner_overlap_l21 F (res := (r, M')) hQ FU) _ _ h) ⟨rfl, rfl, rfl, rfl, trivial⟩
set_option maxHeartbeats 4000000 in
theorem t_Joiner_extend_l10 {w : kx_W} {d : Nat} {Q : Option Value → kx_M → Prop} {G : Nat → List (Option Value) → List Value → kx_M → Prop} (F : Sd w (d + 2) m_Joiner_extend Q G) {p1 : Int32} {p2 : Int32} {res : Unit × kx_M} (hQ : Q none res.2) :
    ∀ (n : Nat) (x3 : Int32) (x4 : Int32) (M : kx_M),
    f_Joiner_extend_l10 p1 p2 n x3 x4 M = some res → G 10 [some (.ref 18), some (.int p1), some (.int p2), some (.int x3), some (.int x4), none, none, none] [] M := by
  intro n
  induction n with
  | zero =>
    intro x3 x4 M h
    exact absurd h (by rw [f_Joiner_extend_l10]; exact fun z => nomatch z)
  | succ n ih =>
    intro x3 x4 M h
    rw [f_Joiner_extend_l10] at h
    refine x_iload F.1 (i := 8) rfl rfl ?_
    refine x_aload_n F.1 (i := 9) rfl rfl ?_
    refine x_getI F.1 (i := 10) rfl fl_Joiner_25 rfl (by rfl) ?_
    refine x_icmp_ge F.1 (i := 11) (tgt := 101) rfl (by decide) (fun c => ?_) (fun c => ?_)
    · replace h := if_T c h
      exact x_vretf F (i := 60) rfl rfl h hQ
    · replace h := if_F c h
      refine x_iload_n F.1 (i := 12) rfl rfl ?_
      refine x_iload F.1 (i := 13) rfl rfl ?_
      refine cal_e h (fun r1 M1 e2 h => ?_)
      refine x_cN2i F.1 (i := 14) rfl ml_Joiner_62 ok_KT_inSet (Nat.le_of_ble_eq_true rfl) (Nat.le_of_ble_eq_true rfl) (fun _ => t_KT_inSet e2) ?_
      refine x_if_ne F.1 (i := 15) (tgt := 95) rfl (by decide) (fun c => ?_) (fun c => ?_)
      · replace h := if_F c h
        refine x_iinc F.1 (i := 58) rfl rfl rfl (Nat.le_of_ble_eq_true rfl) rfl ?_
        replace h := bd_e h
        refine x_goto F.1 (i := 59) (tgt := 10) rfl (by decide) ?_
        exact x_wk F.1 (ih _ _ _ h) ⟨rfl, rfl, rfl, rfl, rfl, trivial⟩
      · replace h := if_T c h
        refine x_aload_n F.1 (i := 16) rfl rfl ?_
        refine x_getC F.1 (i := 17) rfl fl_Joiner_9 rfl (by rfl) ?_
        refine x_iload F.1 (i := 18) rfl rfl ?_
        refine gd_e h (fun g3 h => ?_)
        refine x_iald F.1 (i := 19) rfl rfl (inb_e g3) ?_
        refine x_aload_n F.1 (i := 20) rfl rfl ?_
        refine x_iload_n F.1 (i := 21) rfl rfl ?_
        refine x_iload F.1 (i := 22) rfl rfl ?_
        refine cal_e h (fun r4 M2 e5 h => ?_)
        refine x_cV2i F.1 (i := 23) rfl ml_Joiner_84 ok_Joiner_overlap rfl (Nat.le_of_ble_eq_true rfl) (Nat.le_of_ble_eq_true rfl) (fun _ => t_Joiner_overlap e5) ?_
        refine x_isub F.1 (i := 24) rfl ?_
        refine x_istore F.1 (i := 25) rfl (Nat.le_of_ble_eq_true rfl) (Nat.le_of_ble_eq_true rfl) rfl ?_
        replace h := bd_e h
        refine x_aload_n F.1 (i := 26) rfl rfl ?_
        refine x_getC F.1 (i := 27) rfl fl_Joiner_22 rfl (by rfl) ?_
        refine x_iload_n F.1 (i := 28) rfl rfl ?_
        refine gd_e h (fun g7 h => ?_)
        refine x_lald F.1 (i := 29) rfl rfl (inb_e g7) ?_
        refine x_iconst F.1 (i := 30) rfl ic_2 ?_
        refine x_iload F.1 (i := 31) rfl rfl ?_
        refine x_imul F.1 (i := 32) rfl ?_
        refine x_lshl F.1 (i := 33) rfl ?_
        refine x_aload_n F.1 (i := 34) rfl rfl ?_
        refine x_getC F.1 (i := 35) rfl fl_Joiner_15 rfl (by rfl) ?_
        refine x_iload F.1 (i := 36) rfl rfl ?_
        refine gd_e h (fun g8 h => ?_)
        refine x_lald F.1 (i := 37) rfl rfl (inb_e g8) ?_
        refine x_iload F.1 (i := 38) rfl rfl ?_
        refine cal_e h (fun r9 M3 e10 h => ?_)
        refine x_cS1l F.1 (i := 39) rfl ml_Joiner_75 ok_Joiner_lowest (Nat.le_of_ble_eq_true rfl) (Nat.le_of_ble_eq_true rfl) (fun _ => t_Joiner_lowest e10) ?_
        refine x_land F.1 (i := 40) rfl ?_
        refine x_lor F.1 (i := 41) rfl ?_
        refine x_lstore F.1 (i := 42) rfl (Nat.le_of_ble_eq_true rfl) (Nat.le_of_ble_eq_true rfl) rfl ?_
        replace h := bd_e h
        refine x_aload_n F.1 (i := 43) rfl rfl ?_
        refine x_iload_n F.1 (i := 44) rfl rfl ?_
        refine x_iconst F.1 (i := 45) rfl ic_1 ?_
        refine x_iload F.1 (i := 46) rfl rfl ?_
        refine x_ishl F.1 (i := 47) rfl ?_
        refine x_ior F.1 (i := 48) rfl ?_
        refine x_iload F.1 (i := 49) rfl rfl ?_
        refine x_aload_n F.1 (i := 50) rfl rfl ?_
        refine x_getC F.1 (i := 51) rfl fl_Joiner_19 rfl (by rfl) ?_
        refine x_iload_n F.1 (i := 52) rfl rfl ?_
        refine gd_e h (fun g12 h => ?_)
        refine x_iald F.1 (i := 53) rfl rfl (inb_e g12) ?_
        refine x_iload F.1 (i := 54) rfl rfl ?_
        refine x_iadd F.1 (i := 55) rfl ?_
        refine x_lload F.1 (i := 56) rfl rfl ?_
        refine cal_e h (fun r13 M4 e14 h => ?_)
        refine x_cV4v F.1 (i := 57) rfl ml_Joiner_46 ok_Joiner_offer rfl (Nat.le_of_ble_eq_true rfl) (Nat.le_of_ble_eq_true rfl) (fun _ => t_Joiner_offer e14) ?_
        refine x_iinc F.1 (i := 58) rfl rfl rfl (Nat.le_of_ble_eq_true rfl) rfl ?_
        replace h := bd_e h
        refine x_goto F.1 (i := 59) (tgt := 10) rfl (by decide) ?_
        exact x_wk F.1 (ih _ _ _ h) ⟨rfl, rfl, rfl, rfl, rfl, trivial⟩
set_option maxHeartbeats 4000000 in
theorem t_Joiner_extend {w : kx_W} {d : Nat} {M : kx_M} {Q : Option Value → kx_M → Prop} {p1 : Int32} {p2 : Int32} {r : Unit} {M' : kx_M} (h : f_Joiner_extend p1 p2 M = some (r, M')) (hQ : Q none M') : Ct w (d + 2) m_Joiner_extend [.ref 18, .int p1, .int p2] M Q := by
  refine mk_ct ok_Joiner_extend (Nat.le_of_ble_eq_true rfl) (fun G F => ?_)
  rw [f_Joiner_extend] at h
  show G 0 [some (.ref 18), some (.int p1), some (.int p2), none, none, none, none, none] [] M
  refine x_iload_n F.1 (i := 0) rfl rfl ?_
  refine x_bipush F.1 (i := 1) rfl bp_6 ?_
  refine x_imul F.1 (i := 2) rfl ?_
  refine x_iload_n F.1 (i := 3) rfl rfl ?_
  refine x_iadd F.1 (i := 4) rfl ?_
  refine x_istore_n F.1 (i := 5) rfl (Nat.le_of_ble_eq_true rfl) (Nat.le_of_ble_eq_true rfl) rfl ?_
  replace h := bd_e h
  refine x_iconst F.1 (i := 6) rfl ic_0 ?_
  refine x_istore F.1 (i := 7) rfl (Nat.le_of_ble_eq_true rfl) (Nat.le_of_ble_eq_true rfl) rfl ?_
  exact x_wk F.1 ((t_Joiner_extend_l10 F (res := (r, M')) hQ FU) _ _ _ h) ⟨rfl, rfl, rfl, rfl, rfl, trivial⟩
set_option maxHeartbeats 4000000 in
theorem t_Joiner_choose_l81 {w : kx_W} {d : Nat} {Q : Option Value → kx_M → Prop} {G : Nat → List (Option Value) → List Value → kx_M → Prop} (F : Sd w d m_Joiner_choose Q G) {k12 : Int32 → kx_M → Option (Unit × kx_M)} {res : Unit × kx_M} (hQ : Q none res.2) (hk12 : ∀ (x1 : Int32) (M : kx_M), k12 x1 M = some res → G 12 [some (.ref 18), some (.int x1), none] [] M) :
    ∀ (x1 : Int32) (x2 : Int32) (M : kx_M),
    f_Joiner_choose_l81 k12 x1 x2 M = some res → G 81 [some (.ref 18), some (.int x1), some (.int x2)] [] M := by
  intro x1 x2 M h
  rw [f_Joiner_choose_l81] at h
  refine x_aload_n F.1 (i := 48) rfl rfl ?_
  refine x_aload_n F.1 (i := 49) rfl rfl ?_
  refine x_getC F.1 (i := 50) rfl fl_Joiner_19 rfl (by rfl) ?_
  refine x_iload_n F.1 (i := 51) rfl rfl ?_
  refine gd_e h (fun g1 h => ?_)
  refine x_iald F.1 (i := 52) rfl rfl (inb_e g1) ?_
  refine x_putI F.1 (i := 53) rfl fl_Joiner_29 pf_Joiner_total rfl (by rfl) ?_
  replace h := bd_e h
  refine x_aload_n F.1 (i := 54) rfl rfl ?_
  refine x_aload_n F.1 (i := 55) rfl rfl ?_
  refine x_getC F.1 (i := 56) rfl fl_Joiner_22 rfl (by rfl) ?_
  refine x_iload_n F.1 (i := 57) rfl rfl ?_
  refine gd_e h (fun g2 h => ?_)
  refine x_lald F.1 (i := 58) rfl rfl (inb_e g2) ?_
  refine x_putJ F.1 (i := 59) rfl fl_Joiner_32 pf_Joiner_whole rfl (by rfl) ?_
  replace h := bd_e h
  refine x_iinc F.1 (i := 60) rfl rfl rfl (Nat.le_of_ble_eq_true rfl) rfl ?_
  replace h := bd_e h
  refine x_goto F.1 (i := 61) (tgt := 12) rfl (by decide) ?_
  exact x_wk F.1 (hk12 _ _ h) ⟨rfl, rfl, trivial⟩
set_option maxHeartbeats 4000000 in
theorem t_Joiner_choose_l12 {w : kx_W} {d : Nat} {Q : Option Value → kx_M → Prop} {G : Nat → List (Option Value) → List Value → kx_M → Prop} (F : Sd w d m_Joiner_choose Q G) {res : Unit × kx_M} (hQ : Q none res.2) :
    ∀ (n : Nat) (x1 : Int32) (M : kx_M),
    f_Joiner_choose_l12 n x1 M = some res → G 12 [some (.ref 18), some (.int x1), none] [] M := by
  intro n
  induction n with
  | zero =>
    intro x1 M h
    exact absurd h (by rw [f_Joiner_choose_l12]; exact fun z => nomatch z)
  | succ n ih =>
    intro x1 M h
    rw [f_Joiner_choose_l12] at h
    refine x_iload_n F.1 (i := 8) rfl rfl ?_
    refine x_aload_n F.1 (i := 9) rfl rfl ?_
    refine x_getI F.1 (i := 10) rfl fl_Joiner_25 rfl (by rfl) ?_
    refine x_icmp_ge F.1 (i := 11) (tgt := 107) rfl (by decide) (fun c => ?_) (fun c => ?_)
    · replace h := if_T c h
      exact x_vretf F (i := 62) rfl rfl h hQ
    · replace h := if_F c h
      refine x_iconst F.1 (i := 12) rfl ic_1 ?_
      refine x_aload_n F.1 (i := 13) rfl rfl ?_
      refine x_getI F.1 (i := 14) rfl fl_Joiner_25 rfl (by rfl) ?_
      refine x_ishl F.1 (i := 15) rfl ?_
      refine x_iconst F.1 (i := 16) rfl ic_1 ?_
      refine x_isub F.1 (i := 17) rfl ?_
      refine x_bipush F.1 (i := 18) rfl bp_6 ?_
      refine x_imul F.1 (i := 19) rfl ?_
      refine x_iload_n F.1 (i := 20) rfl rfl ?_
      refine x_iadd F.1 (i := 21) rfl ?_
      refine x_istore_n F.1 (i := 22) rfl (Nat.le_of_ble_eq_true rfl) (Nat.le_of_ble_eq_true rfl) rfl ?_
      replace h := bd_e h
      refine x_aload_n F.1 (i := 23) rfl rfl ?_
      refine x_getI F.1 (i := 24) rfl fl_Joiner_29 rfl (by rfl) ?_
      refine x_if_eq F.1 (i := 25) (tgt := 81) rfl (by decide) (fun c => ?_) (fun c => ?_)
      · replace h := if_T c h
        exact x_wk F.1 ((t_Joiner_choose_l81 F hQ ih) _ _ _ h) ⟨rfl, rfl, rfl, trivial⟩
      · replace h := if_F c h
        refine x_aload_n F.1 (i := 26) rfl rfl ?_
        refine x_getC F.1 (i := 27) rfl fl_Joiner_19 rfl (by rfl) ?_
        refine x_iload_n F.1 (i := 28) rfl rfl ?_
        refine gd_e h (fun g2 h => ?_)
        refine x_iald F.1 (i := 29) rfl rfl (inb_e g2) ?_
        refine x_aload_n F.1 (i := 30) rfl rfl ?_
        refine x_getI F.1 (i := 31) rfl fl_Joiner_29 rfl (by rfl) ?_
        refine x_icmp_lt F.1 (i := 32) (tgt := 81) rfl (by decide) (fun c => ?_) (fun c => ?_)
        · replace h := if_T c h
          exact x_wk F.1 ((t_Joiner_choose_l81 F hQ ih) _ _ _ h) ⟨rfl, rfl, rfl, trivial⟩
        · replace h := if_F c h
          refine x_aload_n F.1 (i := 33) rfl rfl ?_
          refine x_getC F.1 (i := 34) rfl fl_Joiner_19 rfl (by rfl) ?_
          refine x_iload_n F.1 (i := 35) rfl rfl ?_
          refine gd_e h (fun g3 h => ?_)
          refine x_iald F.1 (i := 36) rfl rfl (inb_e g3) ?_
          refine x_aload_n F.1 (i := 37) rfl rfl ?_
          refine x_getI F.1 (i := 38) rfl fl_Joiner_29 rfl (by rfl) ?_
          refine x_icmp_ne F.1 (i := 39) (tgt := 101) rfl (by decide) (fun c => ?_) (fun c => ?_)
          · replace h := if_F c h
            refine x_iinc F.1 (i := 60) rfl rfl rfl (Nat.le_of_ble_eq_true rfl) rfl ?_
            replace h := bd_e h
            refine x_goto F.1 (i := 61) (tgt := 12) rfl (by decide) ?_
            exact x_wk F.1 (ih _ _ h) ⟨rfl, rfl, trivial⟩
          · replace h := if_T c h
            refine x_aload_n F.1 (i := 40) rfl rfl ?_
            refine x_getC F.1 (i := 41) rfl fl_Joiner_22 rfl (by rfl) ?_
            refine x_iload_n F.1 (i := 42) rfl rfl ?_
            refine gd_e h (fun g4 h => ?_)
            refine x_lald F.1 (i := 43) rfl rfl (inb_e g4) ?_
            refine x_aload_n F.1 (i := 44) rfl rfl ?_
            refine x_getJ F.1 (i := 45) rfl fl_Joiner_32 rfl (by rfl) ?_
            refine x_lcmp F.1 (i := 46) rfl ?_
            refine x_if_ge F.1 (i := 47) (tgt := 101) rfl (by decide) (fun c => ?_) (fun c => ?_)
            · replace h := if_T c h
              refine x_iinc F.1 (i := 60) rfl rfl rfl (Nat.le_of_ble_eq_true rfl) rfl ?_
              replace h := bd_e h
              refine x_goto F.1 (i := 61) (tgt := 12) rfl (by decide) ?_
              exact x_wk F.1 (ih _ _ h) ⟨rfl, rfl, trivial⟩
            · replace h := if_F c h
              exact x_wk F.1 ((t_Joiner_choose_l81 F hQ ih) _ _ _ h) ⟨rfl, rfl, rfl, trivial⟩
set_option maxHeartbeats 4000000 in
theorem t_Joiner_choose {w : kx_W} {d : Nat} {M : kx_M} {Q : Option Value → kx_M → Prop} {r : Unit} {M' : kx_M} (h : f_Joiner_choose M = some (r, M')) (hQ : Q none M') : Ct w d m_Joiner_choose [.ref 18] M Q := by
  refine mk_ct ok_Joiner_choose (Nat.le_of_ble_eq_true rfl) (fun G F => ?_)
  rw [f_Joiner_choose] at h
  show G 0 [some (.ref 18), none, none] [] M
  refine x_aload_n F.1 (i := 0) rfl rfl ?_
  refine x_iconst F.1 (i := 1) rfl ic_0 ?_
  refine x_putI F.1 (i := 2) rfl fl_Joiner_29 pf_Joiner_total rfl (by rfl) ?_
  replace h := bd_e h
  refine x_aload_n F.1 (i := 3) rfl rfl ?_
  refine x_lconst F.1 (i := 4) (v := 0) rfl rfl ?_
  refine x_putJ F.1 (i := 5) rfl fl_Joiner_32 pf_Joiner_whole rfl (by rfl) ?_
  replace h := bd_e h
  refine x_iconst F.1 (i := 6) rfl ic_0 ?_
  refine x_istore_n F.1 (i := 7) rfl (Nat.le_of_ble_eq_true rfl) (Nat.le_of_ble_eq_true rfl) rfl ?_
  exact x_wk F.1 ((t_Joiner_choose_l12 F (res := (r, M')) hQ FU) _ _ h) ⟨rfl, rfl, trivial⟩
set_option maxHeartbeats 4000000 in
theorem t_Joiner_join_l65 {w : kx_W} {d : Nat} {Q : Option Value → kx_M → Prop} {G : Nat → List (Option Value) → List Value → kx_M → Prop} (F : Sd w (d + 3) m_Joiner_join Q G) {p1 : Nat} {p2 : Int32} (hp1 : isDeal p1 = true) {k52 : Int32 → kx_M → Option (Unit × kx_M)} {res : Unit × kx_M} (hQ : Q none res.2) (hk52 : ∀ (x3 : Int32) (M : kx_M), k52 x3 M = some res → G 52 [some (.ref 18), none, none, some (.int x3), none] [] M) :
    ∀ (n : Nat) (x3 : Int32) (x4 : Int32) (M : kx_M),
    f_Joiner_join_l65 p1 p2 k52 n x3 x4 M = some res → G 65 [some (.ref 18), none, none, some (.int x3), some (.int x4)] [] M := by
  intro n
  induction n with
  | zero =>
    intro x3 x4 M h
    exact absurd h (by rw [f_Joiner_join_l65]; exact fun z => nomatch z)
  | succ n ih =>
    intro x3 x4 M h
    rw [f_Joiner_join_l65] at h
    refine x_iload F.1 (i := 40) rfl rfl ?_
    refine x_aload_n F.1 (i := 41) rfl rfl ?_
    refine x_getI F.1 (i := 42) rfl fl_Joiner_25 rfl (by rfl) ?_
    refine x_icmp_ge F.1 (i := 43) (tgt := 102) rfl (by decide) (fun c => ?_) (fun c => ?_)
    · replace h := if_T c h
      refine x_iinc F.1 (i := 59) rfl rfl rfl (Nat.le_of_ble_eq_true rfl) rfl ?_
      replace h := bd_e h
      refine x_goto F.1 (i := 60) (tgt := 52) rfl (by decide) ?_
      exact x_wk F.1 (hk52 _ _ h) ⟨rfl, rfl, trivial⟩
    · replace h := if_F c h
      refine x_aload_n F.1 (i := 44) rfl rfl ?_
      refine x_getC F.1 (i := 45) rfl fl_Joiner_19 rfl (by rfl) ?_
      refine x_iload_n F.1 (i := 46) rfl rfl ?_
      refine x_bipush F.1 (i := 47) rfl bp_6 ?_
      refine x_imul F.1 (i := 48) rfl ?_
      refine x_iload F.1 (i := 49) rfl rfl ?_
      refine x_iadd F.1 (i := 50) rfl ?_
      refine gd_e h (fun g2 h => ?_)
      refine x_iald F.1 (i := 51) rfl rfl (inb_e g2) ?_
      refine x_if_le F.1 (i := 52) (tgt := 96) rfl (by decide) (fun c => ?_) (fun c => ?_)
      · replace h := if_T c h
        refine x_iinc F.1 (i := 57) rfl rfl rfl (Nat.le_of_ble_eq_true rfl) rfl ?_
        replace h := bd_e h
        refine x_goto F.1 (i := 58) (tgt := 65) rfl (by decide) ?_
        exact x_wk F.1 (ih _ _ _ h) ⟨rfl, rfl, rfl, trivial⟩
      · replace h := if_F c h
        refine x_aload_n F.1 (i := 53) rfl rfl ?_
        refine x_iload_n F.1 (i := 54) rfl rfl ?_
        refine x_iload F.1 (i := 55) rfl rfl ?_
        refine cal_e h (fun r4 M1 e5 h => ?_)
        refine x_cV2v F.1 (i := 56) rfl ml_Joiner_50 ok_Joiner_extend rfl (Nat.le_of_ble_eq_true rfl) (Nat.le_of_ble_eq_true rfl) (fun _ => t_Joiner_extend e5) ?_
        refine x_iinc F.1 (i := 57) rfl rfl rfl (Nat.le_of_ble_eq_true rfl) rfl ?_
        replace h := bd_e h
        refine x_goto F.1 (i := 58) (tgt := 65) rfl (by decide) ?_
        exact x_wk F.1 (ih _ _ _ h) ⟨rfl, rfl, rfl, trivial⟩
set_option maxHeartbeats 4000000 in
theorem t_Joiner_join_l52 {w : kx_W} {d : Nat} {Q : Option Value → kx_M → Prop} {G : Nat → List (Option Value) → List Value → kx_M → Prop} (F : Sd w (d + 3) m_Joiner_join Q G) {p1 : Nat} {p2 : Int32} (hp1 : isDeal p1 = true) {res : Unit × kx_M} (hQ : Q none res.2) :
    ∀ (n : Nat) (x3 : Int32) (M : kx_M),
    f_Joiner_join_l52 p1 p2 n x3 M = some res → G 52 [some (.ref 18), none, none, some (.int x3), none] [] M := by
  intro n
  induction n with
  | zero =>
    intro x3 M h
    exact absurd h (by rw [f_Joiner_join_l52]; exact fun z => nomatch z)
  | succ n ih =>
    intro x3 M h
    rw [f_Joiner_join_l52] at h
    refine x_iload_n F.1 (i := 32) rfl rfl ?_
    refine x_iconst F.1 (i := 33) rfl ic_1 ?_
    refine x_aload_n F.1 (i := 34) rfl rfl ?_
    refine x_getI F.1 (i := 35) rfl fl_Joiner_25 rfl (by rfl) ?_
    refine x_ishl F.1 (i := 36) rfl ?_
    refine x_icmp_ge F.1 (i := 37) (tgt := 108) rfl (by decide) (fun c => ?_) (fun c => ?_)
    · replace h := if_T c h
      refine x_aload_n F.1 (i := 61) rfl rfl ?_
      refine cal_e h (fun r1 M1 e2 h => ?_)
      refine x_cV0v F.1 (i := 62) rfl ml_Joiner_54 ok_Joiner_choose rfl (Nat.le_of_ble_eq_true rfl) (Nat.le_of_ble_eq_true rfl) (fun _ => t_Joiner_choose e2) ?_
      exact x_vretf F (i := 63) rfl rfl h hQ
    · replace h := if_F c h
      refine x_iconst F.1 (i := 38) rfl ic_0 ?_
      refine x_istore F.1 (i := 39) rfl (Nat.le_of_ble_eq_true rfl) (Nat.le_of_ble_eq_true rfl) rfl ?_
      exact x_wk F.1 ((t_Joiner_join_l65 F hp1 hQ ih FU) _ _ _ h) ⟨rfl, rfl, rfl, trivial⟩
set_option maxHeartbeats 4000000 in
theorem t_Joiner_join_l16 {w : kx_W} {d : Nat} {Q : Option Value → kx_M → Prop} {G : Nat → List (Option Value) → List Value → kx_M → Prop} (F : Sd w (d + 3) m_Joiner_join Q G) {p1 : Nat} {p2 : Int32} (hp1 : isDeal p1 = true) {res : Unit × kx_M} (hQ : Q none res.2) :
    ∀ (n : Nat) (x3 : Int32) (M : kx_M),
    f_Joiner_join_l16 p1 p2 n x3 M = some res → G 16 [some (.ref 18), none, none, some (.int x3), none] [] M := by
  intro n
  induction n with
  | zero =>
    intro x3 M h
    exact absurd h (by rw [f_Joiner_join_l16]; exact fun z => nomatch z)
  | succ n ih =>
    intro x3 M h
    rw [f_Joiner_join_l16] at h
    refine x_iload_n F.1 (i := 10) rfl rfl ?_
    refine x_aload_n F.1 (i := 11) rfl rfl ?_
    refine x_getI F.1 (i := 12) rfl fl_Joiner_25 rfl (by rfl) ?_
    refine x_icmp_ge F.1 (i := 13) (tgt := 50) rfl (by decide) (fun c => ?_) (fun c => ?_)
    · replace h := if_T c h
      refine x_iconst F.1 (i := 30) rfl ic_1 ?_
      refine x_istore_n F.1 (i := 31) rfl (Nat.le_of_ble_eq_true rfl) (Nat.le_of_ble_eq_true rfl) rfl ?_
      exact x_wk F.1 ((t_Joiner_join_l52 F hp1 hQ FU) _ _ h) ⟨rfl, rfl, trivial⟩
    · replace h := if_F c h
      refine x_aload_n F.1 (i := 14) rfl rfl ?_
      refine x_iconst F.1 (i := 15) rfl ic_1 ?_
      refine x_iload_n F.1 (i := 16) rfl rfl ?_
      refine x_ishl F.1 (i := 17) rfl ?_
      refine x_iload_n F.1 (i := 18) rfl rfl ?_
      refine x_aload_n F.1 (i := 19) rfl rfl ?_
      refine x_getC F.1 (i := 20) rfl fl_Joiner_9 rfl (by rfl) ?_
      refine x_iload_n F.1 (i := 21) rfl rfl ?_
      refine gd_e h (fun g1 h => ?_)
      refine x_iald F.1 (i := 22) rfl rfl (inb_e g1) ?_
      refine x_aload_n F.1 (i := 23) rfl rfl ?_
      refine x_getC F.1 (i := 24) rfl fl_Joiner_15 rfl (by rfl) ?_
      refine x_iload_n F.1 (i := 25) rfl rfl ?_
      refine gd_e h (fun g2 h => ?_)
      refine x_lald F.1 (i := 26) rfl rfl (inb_e g2) ?_
      refine cal_e h (fun r3 M1 e4 h => ?_)
      refine x_cV4v F.1 (i := 27) rfl ml_Joiner_46 ok_Joiner_offer rfl (Nat.le_of_ble_eq_true rfl) (Nat.le_of_ble_eq_true rfl) (fun _ => t_Joiner_offer e4) ?_
      refine x_iinc F.1 (i := 28) rfl rfl rfl (Nat.le_of_ble_eq_true rfl) rfl ?_
      replace h := bd_e h
      refine x_goto F.1 (i := 29) (tgt := 16) rfl (by decide) ?_
      exact x_wk F.1 (ih _ _ h) ⟨rfl, rfl, trivial⟩
set_option maxHeartbeats 4000000 in
theorem t_Joiner_join {w : kx_W} {d : Nat} {M : kx_M} {Q : Option Value → kx_M → Prop} {p1 : Nat} {p2 : Int32} {r : Unit} {M' : kx_M} (hp1 : isDeal p1 = true) (h : f_Joiner_join p1 p2 M = some (r, M')) (hQ : Q none M') : Ct w (d + 3) m_Joiner_join [.ref 18, .ref p1, .int p2] M Q := by
  refine mk_ct ok_Joiner_join (Nat.le_of_ble_eq_true rfl) (fun G F => ?_)
  rw [f_Joiner_join] at h
  show G 0 [some (.ref 18), some (.ref p1), some (.int p2), none, none] [] M
  refine x_aload_n F.1 (i := 0) rfl rfl ?_
  refine x_aload_n F.1 (i := 1) rfl rfl ?_
  refine x_iload_n F.1 (i := 2) rfl rfl ?_
  refine cal_e h (fun r1 M1 e2 h => ?_)
  refine x_cV2v F.1 (i := 3) rfl ml_Joiner_36 ok_Joiner_gather rfl (Nat.le_of_ble_eq_true rfl) (Nat.le_of_ble_eq_true rfl) (fun _ => t_Joiner_gather hp1 e2) ?_
  refine x_aload_n F.1 (i := 4) rfl rfl ?_
  refine x_getC F.1 (i := 5) rfl fl_Joiner_19 rfl (by rfl) ?_
  refine x_iconst F.1 (i := 6) rfl ic_0 ?_
  refine cal_e h (fun r3 M2 e4 h => ?_)
  refine x_cS2v F.1 (i := 7) rfl ml_Joiner_40 ok_Arr_fill_2 (Nat.le_of_ble_eq_true rfl) (Nat.le_of_ble_eq_true rfl) (fun _ => t_Arr_fill_2 e4) ?_
  refine x_iconst F.1 (i := 8) rfl ic_0 ?_
  refine x_istore_n F.1 (i := 9) rfl (Nat.le_of_ble_eq_true rfl) (Nat.le_of_ble_eq_true rfl) rfl ?_
  exact x_wk F.1 ((t_Joiner_join_l16 F hp1 (res := (r, M')) hQ FU) _ _ h) ⟨rfl, rfl, trivial⟩
set_option maxHeartbeats 4000000 in
theorem t_KT_shortest_l14 {w : kx_W} {d : Nat} {Q : Option Value → kx_M → Prop} {G : Nat → List (Option Value) → List Value → kx_M → Prop} (F : Sd w (d + 4) m_KT_shortest Q G) {p1 : Int32} {res : Int32 × kx_M} (hQ : Q (some (.int res.1)) res.2) :
    ∀ (s0 : Nat) (s1 : Int32) (M : kx_M),
    f_KT_shortest_l14 p1 s0 s1 M = some res → G 14 [some (.ref 0), some (.int p1)] [.int s1, .ref 0] M := by
  intro s0 s1 M h
  rw [f_KT_shortest_l14] at h
  refine cal_e h (fun r1 M1 e2 h => ?_)
  refine x_cV1i F.1 (i := 8) rfl ml_KT_103 ok_KT_refused rfl (Nat.le_of_ble_eq_true rfl) (Nat.le_of_ble_eq_true rfl) (fun _ => t_KT_refused e2) ?_
  refine x_if_eq F.1 (i := 9) (tgt := 22) rfl (by decide) (fun c => ?_) (fun c => ?_)
  · replace h := if_T c h
    refine x_aload_n F.1 (i := 12) rfl rfl ?_
    refine x_getC F.1 (i := 13) rfl fl_KT_49 rfl (by rfl) ?_
    refine x_aload_n F.1 (i := 14) rfl rfl ?_
    refine x_getR F.1 (i := 15) rfl fl_KT_64 rfl (by rfl) rfl ?_
    refine gd_e h (fun g3 h => ?_)
    replace h := bd_e h
    refine x_getC F.1 (i := 16) rfl fl_KT_192 (lk_State g3) (by rfl) ?_
    refine x_iload_n F.1 (i := 17) rfl rfl ?_
    refine cal_e h (fun r5 M2 e6 h => ?_)
    refine x_cV2v F.1 (i := 18) rfl ml_KT_374 ok_Joiner_join rfl (Nat.le_of_ble_eq_true rfl) (Nat.le_of_ble_eq_true rfl) (fun _ => t_Joiner_join (lD_State_deal g3) e6) ?_
    refine x_aload_n F.1 (i := 19) rfl rfl ?_
    refine x_getC F.1 (i := 20) rfl fl_KT_49 rfl (by rfl) ?_
    refine x_getI F.1 (i := 21) rfl fl_KT_378 rfl (by rfl) ?_
    exact x_iretf F (i := 22) rfl rfl h hQ
  · replace h := if_F c h
    refine x_iconst F.1 (i := 10) rfl ic_n1 ?_
    exact x_iretf F (i := 11) rfl rfl h hQ
set_option maxHeartbeats 4000000 in
theorem t_KT_shortest {w : kx_W} {d : Nat} {M : kx_M} {Q : Option Value → kx_M → Prop} {p1 : Int32} {r : Int32} {M' : kx_M} (h : f_KT_shortest p1 M = some (r, M')) (hQ : Q (some (.int r)) M') : Ct w (d + 4) m_KT_shortest [.ref 0, .int p1] M Q := by
  refine mk_ct ok_KT_shortest (Nat.le_of_ble_eq_true rfl) (fun G F => ?_)
  rw [f_KT_shortest] at h
  show G 0 [some (.ref 0), some (.int p1)] [] M
  refine x_aload_n F.1 (i := 0) rfl rfl ?_
  refine x_aload_n F.1 (i := 1) rfl rfl ?_
  refine x_iload_n F.1 (i := 2) rfl rfl ?_
  refine cal_e h (fun r1 M1 e2 h => ?_)
  refine x_cV1i F.1 (i := 3) rfl ml_KT_371 ok_KT_noSet rfl (Nat.le_of_ble_eq_true rfl) (Nat.le_of_ble_eq_true rfl) (fun _ => t_KT_noSet e2) ?_
  refine x_if_eq F.1 (i := 4) (tgt := 13) rfl (by decide) (fun c => ?_) (fun c => ?_)
  · replace h := if_T c h
    refine x_iconst F.1 (i := 7) rfl ic_0 ?_
    exact x_wk F.1 ((t_KT_shortest_l14 F (res := (r, M')) hQ) _ _ _ h) ⟨rfl, rfl, trivial⟩
  · replace h := if_F c h
    refine x_iconst F.1 (i := 5) rfl ic_5 ?_
    refine x_goto F.1 (i := 6) (tgt := 14) rfl (by decide) ?_
    exact x_wk F.1 ((t_KT_shortest_l14 F (res := (r, M')) hQ) _ _ _ h) ⟨rfl, rfl, trivial⟩
set_option maxHeartbeats 4000000 in
theorem t_KT_shortestAt_l59 {w : kx_W} {d : Nat} {Q : Option Value → kx_M → Prop} {G : Nat → List (Option Value) → List Value → kx_M → Prop} (F : Sd w (d + 4) m_KT_shortestAt Q G) {p1 : Int32} {p2 : Int32} {res : Int32 × kx_M} (hQ : Q (some (.int res.1)) res.2) :
    ∀ (s0 : Nat) (s1 : Int32) (M : kx_M),
    f_KT_shortestAt_l59 p1 p2 s0 s1 M = some res → G 59 [some (.ref 0), none, some (.int p2)] [.int s1, .ref 0] M := by
  intro s0 s1 M h
  rw [f_KT_shortestAt_l59] at h
  refine cal_e h (fun r1 M1 e2 h => ?_)
  refine x_cV1i F.1 (i := 30) rfl ml_KT_103 ok_KT_refused rfl (Nat.le_of_ble_eq_true rfl) (Nat.le_of_ble_eq_true rfl) (fun _ => t_KT_refused e2) ?_
  refine x_if_eq F.1 (i := 31) (tgt := 67) rfl (by decide) (fun c => ?_) (fun c => ?_)
  · replace h := if_T c h
    refine x_aload_n F.1 (i := 34) rfl rfl ?_
    refine x_getC F.1 (i := 35) rfl fl_KT_49 rfl (by rfl) ?_
    refine x_getJ F.1 (i := 36) rfl fl_KT_381 rfl (by rfl) ?_
    refine x_iconst F.1 (i := 37) rfl ic_2 ?_
    refine x_aload_n F.1 (i := 38) rfl rfl ?_
    refine x_getC F.1 (i := 39) rfl fl_KT_49 rfl (by rfl) ?_
    refine x_getI F.1 (i := 40) rfl fl_KT_378 rfl (by rfl) ?_
    refine x_iconst F.1 (i := 41) rfl ic_1 ?_
    refine x_isub F.1 (i := 42) rfl ?_
    refine x_iload_n F.1 (i := 43) rfl rfl ?_
    refine x_isub F.1 (i := 44) rfl ?_
    refine x_imul F.1 (i := 45) rfl ?_
    refine x_lshr F.1 (i := 46) rfl ?_
    refine x_l2i F.1 (i := 47) rfl ?_
    refine x_iconst F.1 (i := 48) rfl ic_3 ?_
    refine x_iand F.1 (i := 49) rfl ?_
    exact x_iretf F (i := 50) rfl rfl h hQ
  · replace h := if_F c h
    refine x_iconst F.1 (i := 32) rfl ic_n1 ?_
    exact x_iretf F (i := 33) rfl rfl h hQ
set_option maxHeartbeats 4000000 in
theorem t_KT_shortestAt_l14 {w : kx_W} {d : Nat} {Q : Option Value → kx_M → Prop} {G : Nat → List (Option Value) → List Value → kx_M → Prop} (F : Sd w (d + 4) m_KT_shortestAt Q G) {p1 : Int32} {p2 : Int32} {res : Int32 × kx_M} (hQ : Q (some (.int res.1)) res.2) :
    ∀ (s0 : Nat) (s1 : Int32) (M : kx_M),
    f_KT_shortestAt_l14 p1 p2 s0 s1 M = some res → G 14 [some (.ref 0), some (.int p1), some (.int p2)] [.int s1, .ref 0] M := by
  intro s0 s1 M h
  rw [f_KT_shortestAt_l14] at h
  refine cal_e h (fun r1 M1 e2 h => ?_)
  refine x_cV1i F.1 (i := 8) rfl ml_KT_103 ok_KT_refused rfl (Nat.le_of_ble_eq_true rfl) (Nat.le_of_ble_eq_true rfl) (fun _ => t_KT_refused e2) ?_
  refine x_if_eq F.1 (i := 9) (tgt := 22) rfl (by decide) (fun c => ?_) (fun c => ?_)
  · replace h := if_T c h
    refine x_aload_n F.1 (i := 12) rfl rfl ?_
    refine x_getC F.1 (i := 13) rfl fl_KT_49 rfl (by rfl) ?_
    refine x_aload_n F.1 (i := 14) rfl rfl ?_
    refine x_getR F.1 (i := 15) rfl fl_KT_64 rfl (by rfl) rfl ?_
    refine gd_e h (fun g3 h => ?_)
    replace h := bd_e h
    refine x_getC F.1 (i := 16) rfl fl_KT_192 (lk_State g3) (by rfl) ?_
    refine x_iload_n F.1 (i := 17) rfl rfl ?_
    refine cal_e h (fun r5 M2 e6 h => ?_)
    refine x_cV2v F.1 (i := 18) rfl ml_KT_374 ok_Joiner_join rfl (Nat.le_of_ble_eq_true rfl) (Nat.le_of_ble_eq_true rfl) (fun _ => t_Joiner_join (lD_State_deal g3) e6) ?_
    refine x_aload_n F.1 (i := 19) rfl rfl ?_
    refine x_iload_n F.1 (i := 20) rfl rfl ?_
    refine x_if_lt F.1 (i := 21) (tgt := 53) rfl (by decide) (fun c => ?_) (fun c => ?_)
    · replace h := if_T c h
      refine x_bipush F.1 (i := 27) rfl bp_8 ?_
      refine x_goto F.1 (i := 28) (tgt := 59) rfl (by decide) ?_
      exact x_wk F.1 ((t_KT_shortestAt_l59 F hQ) _ _ _ h) ⟨rfl, rfl, trivial⟩
    · replace h := if_F c h
      refine x_iload_n F.1 (i := 22) rfl rfl ?_
      refine x_aload_n F.1 (i := 23) rfl rfl ?_
      refine x_getC F.1 (i := 24) rfl fl_KT_49 rfl (by rfl) ?_
      refine x_getI F.1 (i := 25) rfl fl_KT_378 rfl (by rfl) ?_
      refine x_icmp_lt F.1 (i := 26) (tgt := 58) rfl (by decide) (fun c => ?_) (fun c => ?_)
      · replace h := if_T c h
        refine x_iconst F.1 (i := 29) rfl ic_0 ?_
        exact x_wk F.1 ((t_KT_shortestAt_l59 F hQ) _ _ _ h) ⟨rfl, rfl, trivial⟩
      · replace h := if_F c h
        refine x_bipush F.1 (i := 27) rfl bp_8 ?_
        refine x_goto F.1 (i := 28) (tgt := 59) rfl (by decide) ?_
        exact x_wk F.1 ((t_KT_shortestAt_l59 F hQ) _ _ _ h) ⟨rfl, rfl, trivial⟩
  · replace h := if_F c h
    refine x_iconst F.1 (i := 10) rfl ic_n1 ?_
    exact x_iretf F (i := 11) rfl rfl h hQ
set_option maxHeartbeats 4000000 in
theorem t_KT_shortestAt {w : kx_W} {d : Nat} {M : kx_M} {Q : Option Value → kx_M → Prop} {p1 : Int32} {p2 : Int32} {r : Int32} {M' : kx_M} (h : f_KT_shortestAt p1 p2 M = some (r, M')) (hQ : Q (some (.int r)) M') : Ct w (d + 4) m_KT_shortestAt [.ref 0, .int p1, .int p2] M Q := by
  refine mk_ct ok_KT_shortestAt (Nat.le_of_ble_eq_true rfl) (fun G F => ?_)
  rw [f_KT_shortestAt] at h
  show G 0 [some (.ref 0), some (.int p1), some (.int p2)] [] M
  refine x_aload_n F.1 (i := 0) rfl rfl ?_
  refine x_aload_n F.1 (i := 1) rfl rfl ?_
  refine x_iload_n F.1 (i := 2) rfl rfl ?_
  refine cal_e h (fun r1 M1 e2 h => ?_)
  refine x_cV1i F.1 (i := 3) rfl ml_KT_371 ok_KT_noSet rfl (Nat.le_of_ble_eq_true rfl) (Nat.le_of_ble_eq_true rfl) (fun _ => t_KT_noSet e2) ?_
  refine x_if_eq F.1 (i := 4) (tgt := 13) rfl (by decide) (fun c => ?_) (fun c => ?_)
  · replace h := if_T c h
    refine x_iconst F.1 (i := 7) rfl ic_0 ?_
    exact x_wk F.1 ((t_KT_shortestAt_l14 F (res := (r, M')) hQ) _ _ _ h) ⟨rfl, rfl, rfl, trivial⟩
  · replace h := if_F c h
    refine x_iconst F.1 (i := 5) rfl ic_5 ?_
    refine x_goto F.1 (i := 6) (tgt := 14) rfl (by decide) ?_
    exact x_wk F.1 ((t_KT_shortestAt_l14 F (res := (r, M')) hQ) _ _ _ h) ⟨rfl, rfl, rfl, trivial⟩
set_option maxHeartbeats 4000000 in
theorem t_Deal_worthAt {w : kx_W} {d : Nat} {M : kx_M} {Q : Option Value → kx_M → Prop} {p0 : Int32} {p1 : Int32} {p2 : Int32} {r : Int32} {M' : kx_M} (h : f_Deal_worthAt p0 p1 p2 M = some (r, M')) (hQ : Q (some (.int r)) M') : Ct w d m_Deal_worthAt [.int p0, .int p1, .int p2] M Q := by
  refine mk_ct ok_Deal_worthAt (Nat.le_of_ble_eq_true rfl) (fun G F => ?_)
  rw [f_Deal_worthAt] at h
  show G 0 [some (.int p0), some (.int p1), some (.int p2)] [] M
  refine x_iload_n F.1 (i := 0) rfl rfl ?_
  refine x_iconst F.1 (i := 1) rfl ic_4 ?_
  refine x_imul F.1 (i := 2) rfl ?_
  refine x_iload_n F.1 (i := 3) rfl rfl ?_
  refine x_iadd F.1 (i := 4) rfl ?_
  refine x_bipush F.1 (i := 5) rfl bp_6 ?_
  refine x_imul F.1 (i := 6) rfl ?_
  refine x_iload_n F.1 (i := 7) rfl rfl ?_
  refine x_iadd F.1 (i := 8) rfl ?_
  exact x_iretf F (i := 9) rfl rfl h (res := (r, M')) hQ
set_option maxHeartbeats 4000000 in
theorem t_Deal_winOfOne {w : kx_W} {d : Nat} {M : kx_M} {Q : Option Value → kx_M → Prop} {p0 : Nat} {p1 : Int32} {p2 : Int32} {r : Int32} {M' : kx_M} (hp0 : isDeal p0 = true) (h : f_Deal_winOfOne p0 p1 p2 M = some (r, M')) (hQ : Q (some (.int r)) M') : Ct w (d + 1) m_Deal_winOfOne [.ref p0, .int p1, .int p2] M Q := by
  refine mk_ct ok_Deal_winOfOne (Nat.le_of_ble_eq_true rfl) (fun G F => ?_)
  rw [f_Deal_winOfOne] at h
  show G 0 [some (.ref p0), some (.int p1), some (.int p2)] [] M
  refine x_aload_n F.1 (i := 0) rfl rfl ?_
  refine x_getC F.1 (i := 1) rfl fl_Deal_31 (lk_Deal hp0) (by rfl) ?_
  refine x_iload_n F.1 (i := 2) rfl rfl ?_
  refine x_iload_n F.1 (i := 3) rfl rfl ?_
  refine x_iconst F.1 (i := 4) rfl ic_0 ?_
  refine cal_e h (fun r1 M1 e2 h => ?_)
  refine x_cS3i F.1 (i := 5) rfl ml_Deal_63 ok_Deal_worthAt (Nat.le_of_ble_eq_true rfl) (Nat.le_of_ble_eq_true rfl) (fun _ => t_Deal_worthAt e2) ?_
  refine gd_e h (fun g3 h => ?_)
  refine x_iald F.1 (i := 6) rfl (lk_Deal_worths hp0) (inb_e g3) ?_
  refine x_aload_n F.1 (i := 7) rfl rfl ?_
  refine x_getC F.1 (i := 8) rfl fl_Deal_31 (lk_Deal hp0) (by rfl) ?_
  refine x_iload_n F.1 (i := 9) rfl rfl ?_
  refine x_iload_n F.1 (i := 10) rfl rfl ?_
  refine x_iconst F.1 (i := 11) rfl ic_1 ?_
  refine cal_e h (fun r4 M2 e5 h => ?_)
  refine x_cS3i F.1 (i := 12) rfl ml_Deal_63 ok_Deal_worthAt (Nat.le_of_ble_eq_true rfl) (Nat.le_of_ble_eq_true rfl) (fun _ => t_Deal_worthAt e5) ?_
  refine gd_e h (fun g6 h => ?_)
  refine x_iald F.1 (i := 13) rfl (lk_Deal_worths hp0) (inb_e g6) ?_
  refine x_isub F.1 (i := 14) rfl ?_
  exact x_iretf F (i := 15) rfl rfl h (res := (r, M')) hQ
set_option maxHeartbeats 4000000 in
theorem t_Deal_winOf_l5 {w : kx_W} {d : Nat} {Q : Option Value → kx_M → Prop} {G : Nat → List (Option Value) → List Value → kx_M → Prop} (F : Sd w (d + 2) m_Deal_winOf Q G) {p0 : Nat} {p1 : Int32} {p2 : Int32} (hp0 : isDeal p0 = true) {res : Int32 × kx_M} (hQ : Q (some (.int res.1)) res.2) :
    ∀ (n : Nat) (x3 : Int32) (x4 : Int32) (M : kx_M),
    f_Deal_winOf_l5 p0 p1 p2 n x3 x4 M = some res → G 5 [some (.ref p0), some (.int p1), some (.int p2), some (.int x3), some (.int x4)] [] M := by
  intro n
  induction n with
  | zero =>
    intro x3 x4 M h
    exact absurd h (by rw [f_Deal_winOf_l5]; exact fun z => nomatch z)
  | succ n ih =>
    intro x3 x4 M h
    rw [f_Deal_winOf_l5] at h
    refine x_iload F.1 (i := 4) rfl rfl ?_
    refine x_aload_n F.1 (i := 5) rfl rfl ?_
    refine x_getI F.1 (i := 6) rfl fl_Deal_38 (lk_Deal hp0) (by rfl) ?_
    refine x_icmp_ge F.1 (i := 7) (tgt := 39) rfl (by decide) (fun c => ?_) (fun c => ?_)
    · replace h := if_T c h
      refine x_iload_n F.1 (i := 21) rfl rfl ?_
      exact x_iretf F (i := 22) rfl rfl h hQ
    · replace h := if_F c h
      refine x_iload_n F.1 (i := 8) rfl rfl ?_
      refine x_iload F.1 (i := 9) rfl rfl ?_
      refine cal_e h (fun r1 M1 e2 h => ?_)
      refine x_cN2i F.1 (i := 10) rfl ml_Deal_67 ok_KT_inSet (Nat.le_of_ble_eq_true rfl) (Nat.le_of_ble_eq_true rfl) (fun _ => t_KT_inSet e2) ?_
      refine x_if_eq F.1 (i := 11) (tgt := 33) rfl (by decide) (fun c => ?_) (fun c => ?_)
      · replace h := if_T c h
        refine x_iinc F.1 (i := 19) rfl rfl rfl (Nat.le_of_ble_eq_true rfl) rfl ?_
        replace h := bd_e h
        refine x_goto F.1 (i := 20) (tgt := 5) rfl (by decide) ?_
        exact x_wk F.1 (ih _ _ _ h) ⟨rfl, rfl, rfl, rfl, rfl, trivial⟩
      · replace h := if_F c h
        refine x_iload_n F.1 (i := 12) rfl rfl ?_
        refine x_aload_n F.1 (i := 13) rfl rfl ?_
        refine x_iload_n F.1 (i := 14) rfl rfl ?_
        refine x_iload F.1 (i := 15) rfl rfl ?_
        refine cal_e h (fun r4 M2 e5 h => ?_)
        refine x_cV2i F.1 (i := 16) rfl ml_Deal_71 ok_Deal_winOfOne (lk_Deal hp0) (Nat.le_of_ble_eq_true rfl) (Nat.le_of_ble_eq_true rfl) (fun _ => t_Deal_winOfOne hp0 e5) ?_
        refine x_iadd F.1 (i := 17) rfl ?_
        refine x_istore_n F.1 (i := 18) rfl (Nat.le_of_ble_eq_true rfl) (Nat.le_of_ble_eq_true rfl) rfl ?_
        replace h := bd_e h
        refine x_iinc F.1 (i := 19) rfl rfl rfl (Nat.le_of_ble_eq_true rfl) rfl ?_
        replace h := bd_e h
        refine x_goto F.1 (i := 20) (tgt := 5) rfl (by decide) ?_
        exact x_wk F.1 (ih _ _ _ h) ⟨rfl, rfl, rfl, rfl, rfl, trivial⟩
set_option maxHeartbeats 4000000 in
theorem t_Deal_winOf {w : kx_W} {d : Nat} {M : kx_M} {Q : Option Value → kx_M → Prop} {p0 : Nat} {p1 : Int32} {p2 : Int32} {r : Int32} {M' : kx_M} (hp0 : isDeal p0 = true) (h : f_Deal_winOf p0 p1 p2 M = some (r, M')) (hQ : Q (some (.int r)) M') : Ct w (d + 2) m_Deal_winOf [.ref p0, .int p1, .int p2] M Q := by
  refine mk_ct ok_Deal_winOf (Nat.le_of_ble_eq_true rfl) (fun G F => ?_)
  rw [f_Deal_winOf] at h
  show G 0 [some (.ref p0), some (.int p1), some (.int p2), none, none] [] M
  refine x_iconst F.1 (i := 0) rfl ic_0 ?_
  refine x_istore_n F.1 (i := 1) rfl (Nat.le_of_ble_eq_true rfl) (Nat.le_of_ble_eq_true rfl) rfl ?_
  refine x_iconst F.1 (i := 2) rfl ic_0 ?_
  refine x_istore F.1 (i := 3) rfl (Nat.le_of_ble_eq_true rfl) (Nat.le_of_ble_eq_true rfl) rfl ?_
  exact x_wk F.1 ((t_Deal_winOf_l5 F hp0 (res := (r, M')) hQ FU) _ _ _ h) ⟨rfl, rfl, rfl, rfl, rfl, trivial⟩
set_option maxHeartbeats 4000000 in
theorem t_KT_wins_l25 {w : kx_W} {d : Nat} {Q : Option Value → kx_M → Prop} {G : Nat → List (Option Value) → List Value → kx_M → Prop} (F : Sd w (d + 3) m_KT_wins Q G) {p1 : Int32} {p2 : Int32} {res : Int32 × kx_M} (hQ : Q (some (.int res.1)) res.2) :
    ∀ (x3 : Int32) (M : kx_M),
    f_KT_wins_l25 p1 p2 x3 M = some res → G 25 [some (.ref 0), some (.int p1), some (.int p2), some (.int x3)] [] M := by
  intro x3 M h
  rw [f_KT_wins_l25] at h
  refine x_aload_n F.1 (i := 15) rfl rfl ?_
  refine x_iload_n F.1 (i := 16) rfl rfl ?_
  refine cal_e h (fun r1 M1 e2 h => ?_)
  refine x_cV1i F.1 (i := 17) rfl ml_KT_103 ok_KT_refused rfl (Nat.le_of_ble_eq_true rfl) (Nat.le_of_ble_eq_true rfl) (fun _ => t_KT_refused e2) ?_
  refine x_if_eq F.1 (i := 18) (tgt := 35) rfl (by decide) (fun c => ?_) (fun c => ?_)
  · replace h := if_T c h
    refine x_aload_n F.1 (i := 21) rfl rfl ?_
    refine x_getR F.1 (i := 22) rfl fl_KT_64 rfl (by rfl) rfl ?_
    refine gd_e h (fun g3 h => ?_)
    replace h := bd_e h
    refine x_getC F.1 (i := 23) rfl fl_KT_192 (lk_State g3) (by rfl) ?_
    refine x_iload_n F.1 (i := 24) rfl rfl ?_
    refine x_iload_n F.1 (i := 25) rfl rfl ?_
    refine cal_e h (fun r5 M2 e6 h => ?_)
    refine x_cV2i F.1 (i := 26) rfl ml_KT_384 ok_Deal_winOf (lk_Deal (lD_State_deal g3)) (Nat.le_of_ble_eq_true rfl) (Nat.le_of_ble_eq_true rfl) (fun _ => t_Deal_winOf (lD_State_deal g3) e6) ?_
    exact x_iretf F (i := 27) rfl rfl h hQ
  · replace h := if_F c h
    refine x_iconst F.1 (i := 19) rfl ic_n1 ?_
    exact x_iretf F (i := 20) rfl rfl h hQ
set_option maxHeartbeats 4000000 in
theorem t_KT_wins {w : kx_W} {d : Nat} {M : kx_M} {Q : Option Value → kx_M → Prop} {p1 : Int32} {p2 : Int32} {r : Int32} {M' : kx_M} (h : f_KT_wins p1 p2 M = some (r, M')) (hQ : Q (some (.int r)) M') : Ct w (d + 3) m_KT_wins [.ref 0, .int p1, .int p2] M Q := by
  refine mk_ct ok_KT_wins (Nat.le_of_ble_eq_true rfl) (fun G F => ?_)
  rw [f_KT_wins] at h
  show G 0 [some (.ref 0), some (.int p1), some (.int p2), none] [] M
  refine x_iconst F.1 (i := 0) rfl ic_0 ?_
  refine x_istore_n F.1 (i := 1) rfl (Nat.le_of_ble_eq_true rfl) (Nat.le_of_ble_eq_true rfl) rfl ?_
  refine x_aload_n F.1 (i := 2) rfl rfl ?_
  refine x_iload_n F.1 (i := 3) rfl rfl ?_
  refine cal_e h (fun r1 M1 e2 h => ?_)
  refine x_cV1i F.1 (i := 4) rfl ml_KT_243 ok_KT_noQueen rfl (Nat.le_of_ble_eq_true rfl) (Nat.le_of_ble_eq_true rfl) (fun _ => t_KT_noQueen e2) ?_
  refine x_if_eq F.1 (i := 5) (tgt := 15) rfl (by decide) (fun c => ?_) (fun c => ?_)
  · replace h := if_T c h
    refine x_aload_n F.1 (i := 9) rfl rfl ?_
    refine x_iload_n F.1 (i := 10) rfl rfl ?_
    refine cal_e h (fun r3 M2 e4 h => ?_)
    refine x_cV1i F.1 (i := 11) rfl ml_KT_371 ok_KT_noSet rfl (Nat.le_of_ble_eq_true rfl) (Nat.le_of_ble_eq_true rfl) (fun _ => t_KT_noSet e4) ?_
    refine x_if_eq F.1 (i := 12) (tgt := 25) rfl (by decide) (fun c => ?_) (fun c => ?_)
    · replace h := if_T c h
      exact x_wk F.1 ((t_KT_wins_l25 F (res := (r, M')) hQ) _ _ h) ⟨rfl, rfl, rfl, rfl, trivial⟩
    · replace h := if_F c h
      refine x_iconst F.1 (i := 13) rfl ic_5 ?_
      refine x_istore_n F.1 (i := 14) rfl (Nat.le_of_ble_eq_true rfl) (Nat.le_of_ble_eq_true rfl) rfl ?_
      exact x_wk F.1 ((t_KT_wins_l25 F (res := (r, M')) hQ) _ _ h) ⟨rfl, rfl, rfl, rfl, trivial⟩
  · replace h := if_F c h
    refine x_iconst F.1 (i := 6) rfl ic_2 ?_
    refine x_istore_n F.1 (i := 7) rfl (Nat.le_of_ble_eq_true rfl) (Nat.le_of_ble_eq_true rfl) rfl ?_
    refine x_goto F.1 (i := 8) (tgt := 25) rfl (by decide) ?_
    exact x_wk F.1 ((t_KT_wins_l25 F (res := (r, M')) hQ) _ _ h) ⟨rfl, rfl, rfl, rfl, trivial⟩
set_option maxHeartbeats 4000000 in
theorem t_Deal_winOfAll_l4 {w : kx_W} {d : Nat} {Q : Option Value → kx_M → Prop} {G : Nat → List (Option Value) → List Value → kx_M → Prop} (F : Sd w (d + 3) m_Deal_winOfAll Q G) {p0 : Nat} {p1 : Int32} (hp0 : isDeal p0 = true) {res : Int32 × kx_M} (hQ : Q (some (.int res.1)) res.2) :
    ∀ (n : Nat) (x2 : Int32) (x3 : Int32) (M : kx_M),
    f_Deal_winOfAll_l4 p0 p1 n x2 x3 M = some res → G 4 [some (.ref p0), some (.int p1), some (.int x2), some (.int x3)] [] M := by
  intro n
  induction n with
  | zero =>
    intro x2 x3 M h
    exact absurd h (by rw [f_Deal_winOfAll_l4]; exact fun z => nomatch z)
  | succ n ih =>
    intro x2 x3 M h
    rw [f_Deal_winOfAll_l4] at h
    refine x_iload_n F.1 (i := 4) rfl rfl ?_
    refine x_aload_n F.1 (i := 5) rfl rfl ?_
    refine x_getI F.1 (i := 6) rfl fl_Deal_34 (lk_Deal hp0) (by rfl) ?_
    refine x_icmp_ge F.1 (i := 7) (tgt := 27) rfl (by decide) (fun c => ?_) (fun c => ?_)
    · replace h := if_T c h
      refine x_iload_n F.1 (i := 17) rfl rfl ?_
      exact x_iretf F (i := 18) rfl rfl h hQ
    · replace h := if_F c h
      refine x_iload_n F.1 (i := 8) rfl rfl ?_
      refine x_aload_n F.1 (i := 9) rfl rfl ?_
      refine x_iload_n F.1 (i := 10) rfl rfl ?_
      refine x_iload_n F.1 (i := 11) rfl rfl ?_
      refine cal_e h (fun r1 M1 e2 h => ?_)
      refine x_cV2i F.1 (i := 12) rfl ml_Deal_74 ok_Deal_winOf (lk_Deal hp0) (Nat.le_of_ble_eq_true rfl) (Nat.le_of_ble_eq_true rfl) (fun _ => t_Deal_winOf hp0 e2) ?_
      refine x_iadd F.1 (i := 13) rfl ?_
      refine x_istore_n F.1 (i := 14) rfl (Nat.le_of_ble_eq_true rfl) (Nat.le_of_ble_eq_true rfl) rfl ?_
      replace h := bd_e h
      refine x_iinc F.1 (i := 15) rfl rfl rfl (Nat.le_of_ble_eq_true rfl) rfl ?_
      replace h := bd_e h
      refine x_goto F.1 (i := 16) (tgt := 4) rfl (by decide) ?_
      exact x_wk F.1 (ih _ _ _ h) ⟨rfl, rfl, rfl, rfl, trivial⟩
set_option maxHeartbeats 4000000 in
theorem t_Deal_winOfAll {w : kx_W} {d : Nat} {M : kx_M} {Q : Option Value → kx_M → Prop} {p0 : Nat} {p1 : Int32} {r : Int32} {M' : kx_M} (hp0 : isDeal p0 = true) (h : f_Deal_winOfAll p0 p1 M = some (r, M')) (hQ : Q (some (.int r)) M') : Ct w (d + 3) m_Deal_winOfAll [.ref p0, .int p1] M Q := by
  refine mk_ct ok_Deal_winOfAll (Nat.le_of_ble_eq_true rfl) (fun G F => ?_)
  rw [f_Deal_winOfAll] at h
  show G 0 [some (.ref p0), some (.int p1), none, none] [] M
  refine x_iconst F.1 (i := 0) rfl ic_0 ?_
  refine x_istore_n F.1 (i := 1) rfl (Nat.le_of_ble_eq_true rfl) (Nat.le_of_ble_eq_true rfl) rfl ?_
  refine x_iconst F.1 (i := 2) rfl ic_0 ?_
  refine x_istore_n F.1 (i := 3) rfl (Nat.le_of_ble_eq_true rfl) (Nat.le_of_ble_eq_true rfl) rfl ?_
  exact x_wk F.1 ((t_Deal_winOfAll_l4 F hp0 (res := (r, M')) hQ FU) _ _ _ h) ⟨rfl, rfl, rfl, rfl, trivial⟩
set_option maxHeartbeats 4000000 in
theorem t_Deal_atOdds {w : kx_W} {d : Nat} {M : kx_M} {Q : Option Value → kx_M → Prop} {p0 : Nat} {p1 : Int32} {p2 : Int32} {r : Int32} {M' : kx_M} (hp0 : isDeal p0 = true) (h : f_Deal_atOdds p0 p1 p2 M = some (r, M')) (hQ : Q (some (.int r)) M') : Ct w d m_Deal_atOdds [.ref p0, .int p1, .int p2] M Q := by
  refine mk_ct ok_Deal_atOdds (Nat.le_of_ble_eq_true rfl) (fun G F => ?_)
  rw [f_Deal_atOdds] at h
  show G 0 [some (.ref p0), some (.int p1), some (.int p2)] [] M
  refine x_aload_n F.1 (i := 0) rfl rfl ?_
  refine x_getC F.1 (i := 1) rfl fl_Deal_28 (lk_Deal hp0) (by rfl) ?_
  refine x_iload_n F.1 (i := 2) rfl rfl ?_
  refine x_bipush F.1 (i := 3) rfl bp_6 ?_
  refine x_imul F.1 (i := 4) rfl ?_
  refine x_iload_n F.1 (i := 5) rfl rfl ?_
  refine x_iadd F.1 (i := 6) rfl ?_
  refine gd_e h (fun g1 h => ?_)
  refine x_iald F.1 (i := 7) rfl (lk_Deal_quarrels hp0) (inb_e g1) ?_
  refine x_iconst F.1 (i := 8) rfl ic_1 ?_
  refine x_icmp_ne F.1 (i := 9) (tgt := 19) rfl (by decide) (fun c => ?_) (fun c => ?_)
  · replace h := if_F c h
    refine x_iconst F.1 (i := 12) rfl ic_0 ?_
    exact x_zretf F (i := 13) rfl rfl (Or.inl rfl) h (res := (r, M')) hQ
  · replace h := if_T c h
    refine x_iconst F.1 (i := 10) rfl ic_1 ?_
    refine x_goto F.1 (i := 11) (tgt := 20) rfl (by decide) ?_
    exact x_zretf F (i := 13) rfl rfl (Or.inr rfl) h (res := (r, M')) hQ
set_option maxHeartbeats 4000000 in
theorem t_Deal_signable_l63 {w : kx_W} {d : Nat} {Q : Option Value → kx_M → Prop} {G : Nat → List (Option Value) → List Value → kx_M → Prop} (F : Sd w (d + 3) m_Deal_signable Q G) {p0 : Nat} {p1 : Int32} (hp0 : isDeal p0 = true) {res : Int32 × kx_M} (hQ : Q (some (.int res.1)) res.2) :
    ∀ (n : Nat) (x2 : Int32) (M : kx_M),
    f_Deal_signable_l63 p0 p1 n x2 M = some res → G 63 [some (.ref p0), some (.int p1), some (.int x2), none] [] M := by
  intro n
  induction n with
  | zero =>
    intro x2 M h
    exact absurd h (by rw [f_Deal_signable_l63]; exact fun z => nomatch z)
  | succ n ih =>
    intro x2 M h
    rw [f_Deal_signable_l63] at h
    refine x_iload_n F.1 (i := 35) rfl rfl ?_
    refine x_aload_n F.1 (i := 36) rfl rfl ?_
    refine x_getI F.1 (i := 37) rfl fl_Deal_34 (lk_Deal hp0) (by rfl) ?_
    refine x_icmp_ge F.1 (i := 38) (tgt := 88) rfl (by decide) (fun c => ?_) (fun c => ?_)
    · replace h := if_T c h
      refine x_iconst F.1 (i := 48) rfl ic_1 ?_
      exact x_zretf F (i := 49) rfl rfl (Or.inr rfl) h hQ
    · replace h := if_F c h
      refine x_aload_n F.1 (i := 39) rfl rfl ?_
      refine x_iload_n F.1 (i := 40) rfl rfl ?_
      refine x_iload_n F.1 (i := 41) rfl rfl ?_
      refine cal_e h (fun r1 M1 e2 h => ?_)
      refine x_cV2i F.1 (i := 42) rfl ml_Deal_74 ok_Deal_winOf (lk_Deal hp0) (Nat.le_of_ble_eq_true rfl) (Nat.le_of_ble_eq_true rfl) (fun _ => t_Deal_winOf hp0 e2) ?_
      refine x_if_ge F.1 (i := 43) (tgt := 82) rfl (by decide) (fun c => ?_) (fun c => ?_)
      · replace h := if_T c h
        refine x_iinc F.1 (i := 46) rfl rfl rfl (Nat.le_of_ble_eq_true rfl) rfl ?_
        replace h := bd_e h
        refine x_goto F.1 (i := 47) (tgt := 63) rfl (by decide) ?_
        exact x_wk F.1 (ih _ _ h) ⟨rfl, rfl, rfl, trivial⟩
      · replace h := if_F c h
        refine x_iconst F.1 (i := 44) rfl ic_0 ?_
        exact x_zretf F (i := 45) rfl rfl (Or.inl rfl) h hQ
set_option maxHeartbeats 4000000 in
theorem t_Deal_signable_l14 {w : kx_W} {d : Nat} {Q : Option Value → kx_M → Prop} {G : Nat → List (Option Value) → List Value → kx_M → Prop} (F : Sd w (d + 3) m_Deal_signable Q G) {p0 : Nat} {p1 : Int32} (hp0 : isDeal p0 = true) {k2 : Int32 → kx_M → Option (Int32 × kx_M)} {res : Int32 × kx_M} (hQ : Q (some (.int res.1)) res.2) (hk2 : ∀ (x2 : Int32) (M : kx_M), k2 x2 M = some res → G 2 [some (.ref p0), some (.int p1), some (.int x2), none] [] M) :
    ∀ (n : Nat) (x2 : Int32) (x3 : Int32) (M : kx_M),
    f_Deal_signable_l14 p0 p1 k2 n x2 x3 M = some res → G 14 [some (.ref p0), some (.int p1), some (.int x2), some (.int x3)] [] M := by
  intro n
  induction n with
  | zero =>
    intro x2 x3 M h
    exact absurd h (by rw [f_Deal_signable_l14]; exact fun z => nomatch z)
  | succ n ih =>
    intro x2 x3 M h
    rw [f_Deal_signable_l14] at h
    refine x_iload_n F.1 (i := 10) rfl rfl ?_
    refine x_aload_n F.1 (i := 11) rfl rfl ?_
    refine x_getI F.1 (i := 12) rfl fl_Deal_38 (lk_Deal hp0) (by rfl) ?_
    refine x_icmp_ge F.1 (i := 13) (tgt := 55) rfl (by decide) (fun c => ?_) (fun c => ?_)
    · replace h := if_T c h
      refine x_iinc F.1 (i := 31) rfl rfl rfl (Nat.le_of_ble_eq_true rfl) rfl ?_
      replace h := bd_e h
      refine x_goto F.1 (i := 32) (tgt := 2) rfl (by decide) ?_
      exact x_wk F.1 (hk2 _ _ h) ⟨rfl, rfl, rfl, trivial⟩
    · replace h := if_F c h
      refine x_iload_n F.1 (i := 14) rfl rfl ?_
      refine x_iload_n F.1 (i := 15) rfl rfl ?_
      refine cal_e h (fun r2 M1 e3 h => ?_)
      refine x_cN2i F.1 (i := 16) rfl ml_Deal_67 ok_KT_inSet (Nat.le_of_ble_eq_true rfl) (Nat.le_of_ble_eq_true rfl) (fun _ => t_KT_inSet e3) ?_
      refine x_if_eq F.1 (i := 17) (tgt := 49) rfl (by decide) (fun c => ?_) (fun c => ?_)
      · replace h := if_T c h
        refine x_iinc F.1 (i := 29) rfl rfl rfl (Nat.le_of_ble_eq_true rfl) rfl ?_
        replace h := bd_e h
        refine x_goto F.1 (i := 30) (tgt := 14) rfl (by decide) ?_
        exact x_wk F.1 (ih _ _ _ h) ⟨rfl, rfl, rfl, rfl, trivial⟩
      · replace h := if_F c h
        refine x_iload_n F.1 (i := 18) rfl rfl ?_
        refine x_iload_n F.1 (i := 19) rfl rfl ?_
        refine cal_e h (fun r5 M2 e6 h => ?_)
        refine x_cN2i F.1 (i := 20) rfl ml_Deal_67 ok_KT_inSet (Nat.le_of_ble_eq_true rfl) (Nat.le_of_ble_eq_true rfl) (fun _ => t_KT_inSet e6) ?_
        refine x_if_eq F.1 (i := 21) (tgt := 49) rfl (by decide) (fun c => ?_) (fun c => ?_)
        · replace h := if_T c h
          refine x_iinc F.1 (i := 29) rfl rfl rfl (Nat.le_of_ble_eq_true rfl) rfl ?_
          replace h := bd_e h
          refine x_goto F.1 (i := 30) (tgt := 14) rfl (by decide) ?_
          exact x_wk F.1 (ih _ _ _ h) ⟨rfl, rfl, rfl, rfl, trivial⟩
        · replace h := if_F c h
          refine x_aload_n F.1 (i := 22) rfl rfl ?_
          refine x_iload_n F.1 (i := 23) rfl rfl ?_
          refine x_iload_n F.1 (i := 24) rfl rfl ?_
          refine cal_e h (fun r8 M3 e9 h => ?_)
          refine x_cV2i F.1 (i := 25) rfl ml_Deal_77 ok_Deal_atOdds (lk_Deal hp0) (Nat.le_of_ble_eq_true rfl) (Nat.le_of_ble_eq_true rfl) (fun _ => t_Deal_atOdds hp0 e9) ?_
          refine x_if_eq F.1 (i := 26) (tgt := 49) rfl (by decide) (fun c => ?_) (fun c => ?_)
          · replace h := if_T c h
            refine x_iinc F.1 (i := 29) rfl rfl rfl (Nat.le_of_ble_eq_true rfl) rfl ?_
            replace h := bd_e h
            refine x_goto F.1 (i := 30) (tgt := 14) rfl (by decide) ?_
            exact x_wk F.1 (ih _ _ _ h) ⟨rfl, rfl, rfl, rfl, trivial⟩
          · replace h := if_F c h
            refine x_iconst F.1 (i := 27) rfl ic_0 ?_
            exact x_zretf F (i := 28) rfl rfl (Or.inl rfl) h hQ
set_option maxHeartbeats 4000000 in
theorem t_Deal_signable_l2 {w : kx_W} {d : Nat} {Q : Option Value → kx_M → Prop} {G : Nat → List (Option Value) → List Value → kx_M → Prop} (F : Sd w (d + 3) m_Deal_signable Q G) {p0 : Nat} {p1 : Int32} (hp0 : isDeal p0 = true) {res : Int32 × kx_M} (hQ : Q (some (.int res.1)) res.2) :
    ∀ (n : Nat) (x2 : Int32) (M : kx_M),
    f_Deal_signable_l2 p0 p1 n x2 M = some res → G 2 [some (.ref p0), some (.int p1), some (.int x2), none] [] M := by
  intro n
  induction n with
  | zero =>
    intro x2 M h
    exact absurd h (by rw [f_Deal_signable_l2]; exact fun z => nomatch z)
  | succ n ih =>
    intro x2 M h
    rw [f_Deal_signable_l2] at h
    refine x_iload_n F.1 (i := 2) rfl rfl ?_
    refine x_aload_n F.1 (i := 3) rfl rfl ?_
    refine x_getI F.1 (i := 4) rfl fl_Deal_38 (lk_Deal hp0) (by rfl) ?_
    refine x_icmp_ge F.1 (i := 5) (tgt := 61) rfl (by decide) (fun c => ?_) (fun c => ?_)
    · replace h := if_T c h
      refine x_iconst F.1 (i := 33) rfl ic_0 ?_
      refine x_istore_n F.1 (i := 34) rfl (Nat.le_of_ble_eq_true rfl) (Nat.le_of_ble_eq_true rfl) rfl ?_
      exact x_wk F.1 ((t_Deal_signable_l63 F hp0 hQ FU) _ _ h) ⟨rfl, rfl, rfl, trivial⟩
    · replace h := if_F c h
      refine x_iload_n F.1 (i := 6) rfl rfl ?_
      refine x_iconst F.1 (i := 7) rfl ic_1 ?_
      refine x_iadd F.1 (i := 8) rfl ?_
      refine x_istore_n F.1 (i := 9) rfl (Nat.le_of_ble_eq_true rfl) (Nat.le_of_ble_eq_true rfl) rfl ?_
      replace h := bd_e h
      exact x_wk F.1 ((t_Deal_signable_l14 F hp0 hQ ih FU) _ _ _ h) ⟨rfl, rfl, rfl, rfl, trivial⟩
set_option maxHeartbeats 4000000 in
theorem t_Deal_signable {w : kx_W} {d : Nat} {M : kx_M} {Q : Option Value → kx_M → Prop} {p0 : Nat} {p1 : Int32} {r : Int32} {M' : kx_M} (hp0 : isDeal p0 = true) (h : f_Deal_signable p0 p1 M = some (r, M')) (hQ : Q (some (.int r)) M') : Ct w (d + 3) m_Deal_signable [.ref p0, .int p1] M Q := by
  refine mk_ct ok_Deal_signable (Nat.le_of_ble_eq_true rfl) (fun G F => ?_)
  rw [f_Deal_signable] at h
  show G 0 [some (.ref p0), some (.int p1), none, none] [] M
  refine x_iconst F.1 (i := 0) rfl ic_0 ?_
  refine x_istore_n F.1 (i := 1) rfl (Nat.le_of_ble_eq_true rfl) (Nat.le_of_ble_eq_true rfl) rfl ?_
  exact x_wk F.1 ((t_Deal_signable_l2 F hp0 (res := (r, M')) hQ FU) _ _ h) ⟨rfl, rfl, rfl, trivial⟩
set_option maxHeartbeats 4000000 in
theorem t_Deal_bestSet_l6 {w : kx_W} {d : Nat} {Q : Option Value → kx_M → Prop} {G : Nat → List (Option Value) → List Value → kx_M → Prop} (F : Sd w (d + 4) m_Deal_bestSet Q G) {p0 : Nat} (hp0 : isDeal p0 = true) {res : Int32 × kx_M} (hQ : Q (some (.int res.1)) res.2) :
    ∀ (n : Nat) (x1 : Int32) (x2 : Int32) (x3 : Int32) (M : kx_M),
    f_Deal_bestSet_l6 p0 n x1 x2 x3 M = some res → G 6 [some (.ref p0), some (.int x1), some (.int x2), some (.int x3), none] [] M := by
  intro n
  induction n with
  | zero =>
    intro x1 x2 x3 M h
    exact absurd h (by rw [f_Deal_bestSet_l6]; exact fun z => nomatch z)
  | succ n ih =>
    intro x1 x2 x3 M h
    rw [f_Deal_bestSet_l6] at h
    refine x_iload_n F.1 (i := 6) rfl rfl ?_
    refine x_iconst F.1 (i := 7) rfl ic_1 ?_
    refine x_aload_n F.1 (i := 8) rfl rfl ?_
    refine x_getI F.1 (i := 9) rfl fl_Deal_38 (lk_Deal hp0) (by rfl) ?_
    refine x_ishl F.1 (i := 10) rfl ?_
    refine x_icmp_ge F.1 (i := 11) (tgt := 48) rfl (by decide) (fun c => ?_) (fun c => ?_)
    · replace h := if_T c h
      refine x_iload_n F.1 (i := 29) rfl rfl ?_
      exact x_iretf F (i := 30) rfl rfl h hQ
    · replace h := if_F c h
      refine x_aload_n F.1 (i := 12) rfl rfl ?_
      refine x_iload_n F.1 (i := 13) rfl rfl ?_
      refine cal_e h (fun r1 M1 e2 h => ?_)
      refine x_cV1i F.1 (i := 14) rfl ml_Deal_80 ok_Deal_winOfAll (lk_Deal hp0) (Nat.le_of_ble_eq_true rfl) (Nat.le_of_ble_eq_true rfl) (fun _ => t_Deal_winOfAll hp0 e2) ?_
      refine x_istore F.1 (i := 15) rfl (Nat.le_of_ble_eq_true rfl) (Nat.le_of_ble_eq_true rfl) rfl ?_
      refine x_iload F.1 (i := 16) rfl rfl ?_
      refine x_iload_n F.1 (i := 17) rfl rfl ?_
      refine x_icmp_le F.1 (i := 18) (tgt := 42) rfl (by decide) (fun c => ?_) (fun c => ?_)
      · replace h := if_T c h
        refine x_iinc F.1 (i := 27) rfl rfl rfl (Nat.le_of_ble_eq_true rfl) rfl ?_
        replace h := bd_e h
        refine x_goto F.1 (i := 28) (tgt := 6) rfl (by decide) ?_
        exact x_wk F.1 (ih _ _ _ _ h) ⟨rfl, rfl, rfl, rfl, trivial⟩
      · replace h := if_F c h
        refine x_aload_n F.1 (i := 19) rfl rfl ?_
        refine x_iload_n F.1 (i := 20) rfl rfl ?_
        refine cal_e h (fun r4 M2 e5 h => ?_)
        refine x_cV1i F.1 (i := 21) rfl ml_Deal_84 ok_Deal_signable (lk_Deal hp0) (Nat.le_of_ble_eq_true rfl) (Nat.le_of_ble_eq_true rfl) (fun _ => t_Deal_signable hp0 e5) ?_
        refine x_if_eq F.1 (i := 22) (tgt := 42) rfl (by decide) (fun c => ?_) (fun c => ?_)
        · replace h := if_T c h
          refine x_iinc F.1 (i := 27) rfl rfl rfl (Nat.le_of_ble_eq_true rfl) rfl ?_
          replace h := bd_e h
          refine x_goto F.1 (i := 28) (tgt := 6) rfl (by decide) ?_
          exact x_wk F.1 (ih _ _ _ _ h) ⟨rfl, rfl, rfl, rfl, trivial⟩
        · replace h := if_F c h
          refine x_iload F.1 (i := 23) rfl rfl ?_
          refine x_istore_n F.1 (i := 24) rfl (Nat.le_of_ble_eq_true rfl) (Nat.le_of_ble_eq_true rfl) rfl ?_
          refine x_iload_n F.1 (i := 25) rfl rfl ?_
          refine x_istore_n F.1 (i := 26) rfl (Nat.le_of_ble_eq_true rfl) (Nat.le_of_ble_eq_true rfl) rfl ?_
          refine x_iinc F.1 (i := 27) rfl rfl rfl (Nat.le_of_ble_eq_true rfl) rfl ?_
          replace h := bd_e h
          refine x_goto F.1 (i := 28) (tgt := 6) rfl (by decide) ?_
          exact x_wk F.1 (ih _ _ _ _ h) ⟨rfl, rfl, rfl, rfl, trivial⟩
set_option maxHeartbeats 4000000 in
theorem t_Deal_bestSet {w : kx_W} {d : Nat} {M : kx_M} {Q : Option Value → kx_M → Prop} {p0 : Nat} {r : Int32} {M' : kx_M} (hp0 : isDeal p0 = true) (h : f_Deal_bestSet p0 M = some (r, M')) (hQ : Q (some (.int r)) M') : Ct w (d + 4) m_Deal_bestSet [.ref p0] M Q := by
  refine mk_ct ok_Deal_bestSet (Nat.le_of_ble_eq_true rfl) (fun G F => ?_)
  rw [f_Deal_bestSet] at h
  show G 0 [some (.ref p0), none, none, none, none] [] M
  refine x_iconst F.1 (i := 0) rfl ic_0 ?_
  refine x_istore_n F.1 (i := 1) rfl (Nat.le_of_ble_eq_true rfl) (Nat.le_of_ble_eq_true rfl) rfl ?_
  refine x_iconst F.1 (i := 2) rfl ic_0 ?_
  refine x_istore_n F.1 (i := 3) rfl (Nat.le_of_ble_eq_true rfl) (Nat.le_of_ble_eq_true rfl) rfl ?_
  refine x_iconst F.1 (i := 4) rfl ic_1 ?_
  refine x_istore_n F.1 (i := 5) rfl (Nat.le_of_ble_eq_true rfl) (Nat.le_of_ble_eq_true rfl) rfl ?_
  exact x_wk F.1 ((t_Deal_bestSet_l6 F hp0 (res := (r, M')) hQ FU) _ _ _ _ h) ⟨rfl, rfl, rfl, rfl, trivial⟩
set_option maxHeartbeats 4000000 in
theorem t_KT_bargain {w : kx_W} {d : Nat} {M : kx_M} {Q : Option Value → kx_M → Prop} {r : Int32} {M' : kx_M} (h : f_KT_bargain M = some (r, M')) (hQ : Q (some (.int r)) M') : Ct w (d + 5) m_KT_bargain [.ref 0] M Q := by
  refine mk_ct ok_KT_bargain (Nat.le_of_ble_eq_true rfl) (fun G F => ?_)
  rw [f_KT_bargain] at h
  show G 0 [some (.ref 0)] [] M
  refine x_aload_n F.1 (i := 0) rfl rfl ?_
  refine x_iconst F.1 (i := 1) rfl ic_0 ?_
  refine x_putI F.1 (i := 2) rfl fl_KT_78 pf_KT_latest rfl (by rfl) ?_
  replace h := bd_e h
  refine x_aload_n F.1 (i := 3) rfl rfl ?_
  refine x_getR F.1 (i := 4) rfl fl_KT_64 rfl (by rfl) rfl ?_
  refine gd_e h (fun g1 h => ?_)
  replace h := bd_e h
  refine x_getC F.1 (i := 5) rfl fl_KT_192 (lk_State g1) (by rfl) ?_
  refine cal_e h (fun r3 M2 e4 h => ?_)
  refine x_cV0i F.1 (i := 6) rfl ml_KT_387 ok_Deal_bestSet (lk_Deal (lD_State_deal g1)) (Nat.le_of_ble_eq_true rfl) (Nat.le_of_ble_eq_true rfl) (fun _ => t_Deal_bestSet (lD_State_deal g1) e4) ?_
  exact x_iretf F (i := 7) rfl rfl h (res := (r, M')) hQ
set_option maxHeartbeats 4000000 in
theorem t_KT_bargainWorth {w : kx_W} {d : Nat} {M : kx_M} {Q : Option Value → kx_M → Prop} {r : Int32} {M' : kx_M} (h : f_KT_bargainWorth M = some (r, M')) (hQ : Q (some (.int r)) M') : Ct w (d + 5) m_KT_bargainWorth [.ref 0] M Q := by
  refine mk_ct ok_KT_bargainWorth (Nat.le_of_ble_eq_true rfl) (fun G F => ?_)
  rw [f_KT_bargainWorth] at h
  show G 0 [some (.ref 0)] [] M
  refine x_aload_n F.1 (i := 0) rfl rfl ?_
  refine x_iconst F.1 (i := 1) rfl ic_0 ?_
  refine x_putI F.1 (i := 2) rfl fl_KT_78 pf_KT_latest rfl (by rfl) ?_
  replace h := bd_e h
  refine x_aload_n F.1 (i := 3) rfl rfl ?_
  refine x_getR F.1 (i := 4) rfl fl_KT_64 rfl (by rfl) rfl ?_
  refine gd_e h (fun g1 h => ?_)
  replace h := bd_e h
  refine x_getC F.1 (i := 5) rfl fl_KT_192 (lk_State g1) (by rfl) ?_
  refine x_aload_n F.1 (i := 6) rfl rfl ?_
  refine x_getR F.1 (i := 7) rfl fl_KT_64 rfl (by rfl) rfl ?_
  refine gd_e h (fun g3 h => ?_)
  replace h := bd_e h
  refine x_getC F.1 (i := 8) rfl fl_KT_192 (lk_State g3) (by rfl) ?_
  refine cal_e h (fun r5 M2 e6 h => ?_)
  refine x_cV0i F.1 (i := 9) rfl ml_KT_387 ok_Deal_bestSet (lk_Deal (lD_State_deal g3)) (Nat.le_of_ble_eq_true rfl) (Nat.le_of_ble_eq_true rfl) (fun _ => t_Deal_bestSet (lD_State_deal g3) e6) ?_
  refine cal_e h (fun r7 M3 e8 h => ?_)
  refine x_cV1i F.1 (i := 10) rfl ml_KT_390 ok_Deal_winOfAll (lk_Deal (lD_State_deal g1)) (Nat.le_of_ble_eq_true rfl) (Nat.le_of_ble_eq_true rfl) (fun _ => t_Deal_winOfAll (lD_State_deal g1) e8) ?_
  exact x_iretf F (i := 11) rfl rfl h (res := (r, M')) hQ
set_option maxHeartbeats 4000000 in
theorem t_Deal_holdsFast_l22 {w : kx_W} {d : Nat} {Q : Option Value → kx_M → Prop} {G : Nat → List (Option Value) → List Value → kx_M → Prop} (F : Sd w (d + 4) m_Deal_holdsFast Q G) {p0 : Nat} {p1 : Int32} (hp0 : isDeal p0 = true) {k12 : Int32 → kx_M → Option (Int32 × kx_M)} {res : Int32 × kx_M} (hQ : Q (some (.int res.1)) res.2) (hk12 : ∀ (x2 : Int32) (M : kx_M), k12 x2 M = some res → G 12 [some (.ref p0), some (.int p1), some (.int x2), none] [] M) :
    ∀ (n : Nat) (x2 : Int32) (x3 : Int32) (M : kx_M),
    f_Deal_holdsFast_l22 p0 p1 k12 n x2 x3 M = some res → G 22 [some (.ref p0), some (.int p1), some (.int x2), some (.int x3)] [] M := by
  intro n
  induction n with
  | zero =>
    intro x2 x3 M h
    exact absurd h (by rw [f_Deal_holdsFast_l22]; exact fun z => nomatch z)
  | succ n ih =>
    intro x2 x3 M h
    rw [f_Deal_holdsFast_l22] at h
    refine x_iload_n F.1 (i := 14) rfl rfl ?_
    refine x_aload_n F.1 (i := 15) rfl rfl ?_
    refine x_getI F.1 (i := 16) rfl fl_Deal_34 (lk_Deal hp0) (by rfl) ?_
    refine x_icmp_ge F.1 (i := 17) (tgt := 55) rfl (by decide) (fun c => ?_) (fun c => ?_)
    · replace h := if_T c h
      refine x_iinc F.1 (i := 31) rfl rfl rfl (Nat.le_of_ble_eq_true rfl) rfl ?_
      replace h := bd_e h
      refine x_goto F.1 (i := 32) (tgt := 12) rfl (by decide) ?_
      exact x_wk F.1 (hk12 _ _ h) ⟨rfl, rfl, rfl, trivial⟩
    · replace h := if_F c h
      refine x_iload_n F.1 (i := 18) rfl rfl ?_
      refine x_iload_n F.1 (i := 19) rfl rfl ?_
      refine cal_e h (fun r2 M1 e3 h => ?_)
      refine x_cN2i F.1 (i := 20) rfl ml_Deal_67 ok_KT_inSet (Nat.le_of_ble_eq_true rfl) (Nat.le_of_ble_eq_true rfl) (fun _ => t_KT_inSet e3) ?_
      refine x_if_eq F.1 (i := 21) (tgt := 49) rfl (by decide) (fun c => ?_) (fun c => ?_)
      · replace h := if_T c h
        refine x_iinc F.1 (i := 29) rfl rfl rfl (Nat.le_of_ble_eq_true rfl) rfl ?_
        replace h := bd_e h
        refine x_goto F.1 (i := 30) (tgt := 22) rfl (by decide) ?_
        exact x_wk F.1 (ih _ _ _ h) ⟨rfl, rfl, rfl, rfl, trivial⟩
      · replace h := if_F c h
        refine x_aload_n F.1 (i := 22) rfl rfl ?_
        refine x_iload_n F.1 (i := 23) rfl rfl ?_
        refine x_iload_n F.1 (i := 24) rfl rfl ?_
        refine cal_e h (fun r5 M2 e6 h => ?_)
        refine x_cV2i F.1 (i := 25) rfl ml_Deal_71 ok_Deal_winOfOne (lk_Deal hp0) (Nat.le_of_ble_eq_true rfl) (Nat.le_of_ble_eq_true rfl) (fun _ => t_Deal_winOfOne hp0 e6) ?_
        refine x_if_ge F.1 (i := 26) (tgt := 49) rfl (by decide) (fun c => ?_) (fun c => ?_)
        · replace h := if_T c h
          refine x_iinc F.1 (i := 29) rfl rfl rfl (Nat.le_of_ble_eq_true rfl) rfl ?_
          replace h := bd_e h
          refine x_goto F.1 (i := 30) (tgt := 22) rfl (by decide) ?_
          exact x_wk F.1 (ih _ _ _ h) ⟨rfl, rfl, rfl, rfl, trivial⟩
        · replace h := if_F c h
          refine x_iconst F.1 (i := 27) rfl ic_0 ?_
          exact x_zretf F (i := 28) rfl rfl (Or.inl rfl) h hQ
set_option maxHeartbeats 4000000 in
theorem t_Deal_holdsFast_l12 {w : kx_W} {d : Nat} {Q : Option Value → kx_M → Prop} {G : Nat → List (Option Value) → List Value → kx_M → Prop} (F : Sd w (d + 4) m_Deal_holdsFast Q G) {p0 : Nat} {p1 : Int32} (hp0 : isDeal p0 = true) {res : Int32 × kx_M} (hQ : Q (some (.int res.1)) res.2) :
    ∀ (n : Nat) (x2 : Int32) (M : kx_M),
    f_Deal_holdsFast_l12 p0 p1 n x2 M = some res → G 12 [some (.ref p0), some (.int p1), some (.int x2), none] [] M := by
  intro n
  induction n with
  | zero =>
    intro x2 M h
    exact absurd h (by rw [f_Deal_holdsFast_l12]; exact fun z => nomatch z)
  | succ n ih =>
    intro x2 M h
    rw [f_Deal_holdsFast_l12] at h
    refine x_iload_n F.1 (i := 8) rfl rfl ?_
    refine x_aload_n F.1 (i := 9) rfl rfl ?_
    refine x_getI F.1 (i := 10) rfl fl_Deal_38 (lk_Deal hp0) (by rfl) ?_
    refine x_icmp_ge F.1 (i := 11) (tgt := 61) rfl (by decide) (fun c => ?_) (fun c => ?_)
    · replace h := if_T c h
      refine x_iconst F.1 (i := 33) rfl ic_1 ?_
      exact x_zretf F (i := 34) rfl rfl (Or.inr rfl) h hQ
    · replace h := if_F c h
      refine x_iconst F.1 (i := 12) rfl ic_0 ?_
      refine x_istore_n F.1 (i := 13) rfl (Nat.le_of_ble_eq_true rfl) (Nat.le_of_ble_eq_true rfl) rfl ?_
      exact x_wk F.1 ((t_Deal_holdsFast_l22 F hp0 hQ ih FU) _ _ _ h) ⟨rfl, rfl, rfl, rfl, trivial⟩
set_option maxHeartbeats 4000000 in
theorem t_Deal_holdsFast {w : kx_W} {d : Nat} {M : kx_M} {Q : Option Value → kx_M → Prop} {p0 : Nat} {p1 : Int32} {r : Int32} {M' : kx_M} (hp0 : isDeal p0 = true) (h : f_Deal_holdsFast p0 p1 M = some (r, M')) (hQ : Q (some (.int r)) M') : Ct w (d + 4) m_Deal_holdsFast [.ref p0, .int p1] M Q := by
  refine mk_ct ok_Deal_holdsFast (Nat.le_of_ble_eq_true rfl) (fun G F => ?_)
  rw [f_Deal_holdsFast] at h
  show G 0 [some (.ref p0), some (.int p1), none, none] [] M
  refine x_aload_n F.1 (i := 0) rfl rfl ?_
  refine x_iload_n F.1 (i := 1) rfl rfl ?_
  refine cal_e h (fun r1 M1 e2 h => ?_)
  refine x_cV1i F.1 (i := 2) rfl ml_Deal_84 ok_Deal_signable (lk_Deal hp0) (Nat.le_of_ble_eq_true rfl) (Nat.le_of_ble_eq_true rfl) (fun _ => t_Deal_signable hp0 e2) ?_
  refine x_if_ne F.1 (i := 3) (tgt := 10) rfl (by decide) (fun c => ?_) (fun c => ?_)
  · replace h := if_F c h
    refine x_iconst F.1 (i := 6) rfl ic_0 ?_
    refine x_istore_n F.1 (i := 7) rfl (Nat.le_of_ble_eq_true rfl) (Nat.le_of_ble_eq_true rfl) rfl ?_
    exact x_wk F.1 ((t_Deal_holdsFast_l12 F hp0 (res := (r, M')) hQ FU) _ _ h) ⟨rfl, rfl, rfl, trivial⟩
  · replace h := if_T c h
    refine x_iconst F.1 (i := 4) rfl ic_0 ?_
    exact x_zretf F (i := 5) rfl rfl (Or.inl rfl) h (res := (r, M')) hQ
set_option maxHeartbeats 4000000 in
theorem t_KT_stable_l14 {w : kx_W} {d : Nat} {Q : Option Value → kx_M → Prop} {G : Nat → List (Option Value) → List Value → kx_M → Prop} (F : Sd w (d + 5) m_KT_stable Q G) {p1 : Int32} {res : Int32 × kx_M} (hQ : Q (some (.int res.1)) res.2) :
    ∀ (s0 : Nat) (s1 : Int32) (M : kx_M),
    f_KT_stable_l14 p1 s0 s1 M = some res → G 14 [some (.ref 0), some (.int p1)] [.int s1, .ref 0] M := by
  intro s0 s1 M h
  rw [f_KT_stable_l14] at h
  refine cal_e h (fun r1 M1 e2 h => ?_)
  refine x_cV1i F.1 (i := 8) rfl ml_KT_103 ok_KT_refused rfl (Nat.le_of_ble_eq_true rfl) (Nat.le_of_ble_eq_true rfl) (fun _ => t_KT_refused e2) ?_
  refine x_if_eq F.1 (i := 9) (tgt := 22) rfl (by decide) (fun c => ?_) (fun c => ?_)
  · replace h := if_T c h
    refine x_aload_n F.1 (i := 12) rfl rfl ?_
    refine x_getR F.1 (i := 13) rfl fl_KT_64 rfl (by rfl) rfl ?_
    refine gd_e h (fun g3 h => ?_)
    replace h := bd_e h
    refine x_getC F.1 (i := 14) rfl fl_KT_192 (lk_State g3) (by rfl) ?_
    refine x_iload_n F.1 (i := 15) rfl rfl ?_
    refine cal_e h (fun r5 M2 e6 h => ?_)
    refine x_cV1i F.1 (i := 16) rfl ml_KT_393 ok_Deal_holdsFast (lk_Deal (lD_State_deal g3)) (Nat.le_of_ble_eq_true rfl) (Nat.le_of_ble_eq_true rfl) (fun _ => t_Deal_holdsFast (lD_State_deal g3) e6) ?_
    refine x_if_eq F.1 (i := 17) (tgt := 40) rfl (by decide) (fun c => ?_) (fun c => ?_)
    · replace h := if_T c h
      refine x_iconst F.1 (i := 20) rfl ic_0 ?_
      exact x_iretf F (i := 21) rfl rfl h hQ
    · replace h := if_F c h
      refine x_iconst F.1 (i := 18) rfl ic_1 ?_
      refine x_goto F.1 (i := 19) (tgt := 41) rfl (by decide) ?_
      exact x_iretf F (i := 21) rfl rfl h hQ
  · replace h := if_F c h
    refine x_iconst F.1 (i := 10) rfl ic_n1 ?_
    exact x_iretf F (i := 11) rfl rfl h hQ
set_option maxHeartbeats 4000000 in
theorem t_KT_stable {w : kx_W} {d : Nat} {M : kx_M} {Q : Option Value → kx_M → Prop} {p1 : Int32} {r : Int32} {M' : kx_M} (h : f_KT_stable p1 M = some (r, M')) (hQ : Q (some (.int r)) M') : Ct w (d + 5) m_KT_stable [.ref 0, .int p1] M Q := by
  refine mk_ct ok_KT_stable (Nat.le_of_ble_eq_true rfl) (fun G F => ?_)
  rw [f_KT_stable] at h
  show G 0 [some (.ref 0), some (.int p1)] [] M
  refine x_aload_n F.1 (i := 0) rfl rfl ?_
  refine x_aload_n F.1 (i := 1) rfl rfl ?_
  refine x_iload_n F.1 (i := 2) rfl rfl ?_
  refine cal_e h (fun r1 M1 e2 h => ?_)
  refine x_cV1i F.1 (i := 3) rfl ml_KT_371 ok_KT_noSet rfl (Nat.le_of_ble_eq_true rfl) (Nat.le_of_ble_eq_true rfl) (fun _ => t_KT_noSet e2) ?_
  refine x_if_eq F.1 (i := 4) (tgt := 13) rfl (by decide) (fun c => ?_) (fun c => ?_)
  · replace h := if_T c h
    refine x_iconst F.1 (i := 7) rfl ic_0 ?_
    exact x_wk F.1 ((t_KT_stable_l14 F (res := (r, M')) hQ) _ _ _ h) ⟨rfl, rfl, trivial⟩
  · replace h := if_F c h
    refine x_iconst F.1 (i := 5) rfl ic_5 ?_
    refine x_goto F.1 (i := 6) (tgt := 14) rfl (by decide) ?_
    exact x_wk F.1 ((t_KT_stable_l14 F (res := (r, M')) hQ) _ _ _ h) ⟨rfl, rfl, trivial⟩
set_option maxHeartbeats 4000000 in
theorem t_KT_stables_l9 {w : kx_W} {d : Nat} {Q : Option Value → kx_M → Prop} {G : Nat → List (Option Value) → List Value → kx_M → Prop} (F : Sd w (d + 5) m_KT_stables Q G) {res : Int32 × kx_M} (hQ : Q (some (.int res.1)) res.2) :
    ∀ (n : Nat) (x1 : Int32) (x2 : Int32) (M : kx_M),
    f_KT_stables_l9 n x1 x2 M = some res → G 9 [some (.ref 0), some (.int x1), some (.int x2)] [] M := by
  intro n
  induction n with
  | zero =>
    intro x1 x2 M h
    exact absurd h (by rw [f_KT_stables_l9]; exact fun z => nomatch z)
  | succ n ih =>
    intro x1 x2 M h
    rw [f_KT_stables_l9] at h
    refine x_iload_n F.1 (i := 7) rfl rfl ?_
    refine x_iconst F.1 (i := 8) rfl ic_1 ?_
    refine x_aload_n F.1 (i := 9) rfl rfl ?_
    refine x_getR F.1 (i := 10) rfl fl_KT_64 rfl (by rfl) rfl ?_
    refine gd_e h (fun g1 h => ?_)
    replace h := bd_e h
    refine x_getC F.1 (i := 11) rfl fl_KT_192 (lk_State g1) (by rfl) ?_
    refine x_getI F.1 (i := 12) rfl fl_KT_201 (lk_Deal (lD_State_deal g1)) (by rfl) ?_
    refine x_ishl F.1 (i := 13) rfl ?_
    refine x_icmp_ge F.1 (i := 14) (tgt := 48) rfl (by decide) (fun c => ?_) (fun c => ?_)
    · replace h := if_T c h
      refine x_iload_n F.1 (i := 24) rfl rfl ?_
      exact x_iretf F (i := 25) rfl rfl h hQ
    · replace h := if_F c h
      refine x_aload_n F.1 (i := 15) rfl rfl ?_
      refine x_getR F.1 (i := 16) rfl fl_KT_64 rfl (by rfl) rfl ?_
      refine gd_e h (fun g3 h => ?_)
      replace h := bd_e h
      refine x_getC F.1 (i := 17) rfl fl_KT_192 (lk_State g3) (by rfl) ?_
      refine x_iload_n F.1 (i := 18) rfl rfl ?_
      refine cal_e h (fun r5 M1 e6 h => ?_)
      refine x_cV1i F.1 (i := 19) rfl ml_KT_393 ok_Deal_holdsFast (lk_Deal (lD_State_deal g3)) (Nat.le_of_ble_eq_true rfl) (Nat.le_of_ble_eq_true rfl) (fun _ => t_Deal_holdsFast (lD_State_deal g3) e6) ?_
      refine x_if_eq F.1 (i := 20) (tgt := 42) rfl (by decide) (fun c => ?_) (fun c => ?_)
      · replace h := if_T c h
        refine x_iinc F.1 (i := 22) rfl rfl rfl (Nat.le_of_ble_eq_true rfl) rfl ?_
        replace h := bd_e h
        refine x_goto F.1 (i := 23) (tgt := 9) rfl (by decide) ?_
        exact x_wk F.1 (ih _ _ _ h) ⟨rfl, rfl, rfl, trivial⟩
      · replace h := if_F c h
        refine x_iinc F.1 (i := 21) rfl rfl rfl (Nat.le_of_ble_eq_true rfl) rfl ?_
        replace h := bd_e h
        refine x_iinc F.1 (i := 22) rfl rfl rfl (Nat.le_of_ble_eq_true rfl) rfl ?_
        replace h := bd_e h
        refine x_goto F.1 (i := 23) (tgt := 9) rfl (by decide) ?_
        exact x_wk F.1 (ih _ _ _ h) ⟨rfl, rfl, rfl, trivial⟩
set_option maxHeartbeats 4000000 in
theorem t_KT_stables {w : kx_W} {d : Nat} {M : kx_M} {Q : Option Value → kx_M → Prop} {r : Int32} {M' : kx_M} (h : f_KT_stables M = some (r, M')) (hQ : Q (some (.int r)) M') : Ct w (d + 5) m_KT_stables [.ref 0] M Q := by
  refine mk_ct ok_KT_stables (Nat.le_of_ble_eq_true rfl) (fun G F => ?_)
  rw [f_KT_stables] at h
  show G 0 [some (.ref 0), none, none] [] M
  refine x_aload_n F.1 (i := 0) rfl rfl ?_
  refine x_iconst F.1 (i := 1) rfl ic_0 ?_
  refine x_putI F.1 (i := 2) rfl fl_KT_78 pf_KT_latest rfl (by rfl) ?_
  replace h := bd_e h
  refine x_iconst F.1 (i := 3) rfl ic_0 ?_
  refine x_istore_n F.1 (i := 4) rfl (Nat.le_of_ble_eq_true rfl) (Nat.le_of_ble_eq_true rfl) rfl ?_
  refine x_iconst F.1 (i := 5) rfl ic_0 ?_
  refine x_istore_n F.1 (i := 6) rfl (Nat.le_of_ble_eq_true rfl) (Nat.le_of_ble_eq_true rfl) rfl ?_
  exact x_wk F.1 ((t_KT_stables_l9 F (res := (r, M')) hQ FU) _ _ _ h) ⟨rfl, rfl, rfl, trivial⟩
set_option maxHeartbeats 4000000 in
theorem t_KT_seenStatus {w : kx_W} {d : Nat} {M : kx_M} {Q : Option Value → kx_M → Prop} {p1 : Int32} {p2 : Int32} {r : Int32} {M' : kx_M} (h : f_KT_seenStatus p1 p2 M = some (r, M')) (hQ : Q (some (.int r)) M') : Ct w (d + 3) m_KT_seenStatus [.ref 0, .int p1, .int p2] M Q := by
  refine mk_ct ok_KT_seenStatus (Nat.le_of_ble_eq_true rfl) (fun G F => ?_)
  rw [f_KT_seenStatus] at h
  show G 0 [some (.ref 0), some (.int p1), some (.int p2)] [] M
  refine x_iload_n F.1 (i := 0) rfl rfl ?_
  refine cal_e h (fun r1 M1 e2 h => ?_)
  refine x_cS1i F.1 (i := 1) rfl ml_KT_99 ok_KT_noTray (Nat.le_of_ble_eq_true rfl) (Nat.le_of_ble_eq_true rfl) (fun _ => t_KT_noTray e2) ?_
  refine x_if_eq F.1 (i := 2) (tgt := 9) rfl (by decide) (fun c => ?_) (fun c => ?_)
  · replace h := if_T c h
    refine x_aload_n F.1 (i := 5) rfl rfl ?_
    refine x_iload_n F.1 (i := 6) rfl rfl ?_
    refine cal_e h (fun r3 M2 e4 h => ?_)
    refine x_cV1i F.1 (i := 7) rfl ml_KT_249 ok_KT_noClause rfl (Nat.le_of_ble_eq_true rfl) (Nat.le_of_ble_eq_true rfl) (fun _ => t_KT_noClause e4) ?_
    refine x_if_eq F.1 (i := 8) (tgt := 21) rfl (by decide) (fun c => ?_) (fun c => ?_)
    · replace h := if_T c h
      refine x_aload_n F.1 (i := 11) rfl rfl ?_
      refine x_iload_n F.1 (i := 12) rfl rfl ?_
      refine x_iconst F.1 (i := 13) rfl ic_n1 ?_
      refine cal_e h (fun r5 M3 e6 h => ?_)
      refine x_cV2i F.1 (i := 14) rfl ml_KT_310 ok_KT_kindsStatus rfl (Nat.le_of_ble_eq_true rfl) (Nat.le_of_ble_eq_true rfl) (fun _ => t_KT_kindsStatus e6) ?_
      exact x_iretf F (i := 15) rfl rfl h (res := (r, M')) hQ
    · replace h := if_F c h
      refine x_iconst F.1 (i := 9) rfl ic_2 ?_
      refine x_goto F.1 (i := 10) (tgt := 27) rfl (by decide) ?_
      exact x_iretf F (i := 15) rfl rfl h (res := (r, M')) hQ
  · replace h := if_F c h
    refine x_iconst F.1 (i := 3) rfl ic_1 ?_
    exact x_iretf F (i := 4) rfl rfl h (res := (r, M')) hQ
set_option maxHeartbeats 4000000 in
theorem t_Seen_firstOf {w : kx_W} {d : Nat} {M : kx_M} {Q : Option Value → kx_M → Prop} {p1 : Int64} {p3 : Int32} {r : Int64} {M' : kx_M} (h : f_Seen_firstOf p1 p3 M = some (r, M')) (hQ : Q (some (.long r)) M') : Ct w d m_Seen_firstOf [.ref 13, .long p1, .int p3] M Q := by
  refine mk_ct ok_Seen_firstOf (Nat.le_of_ble_eq_true rfl) (fun G F => ?_)
  rw [f_Seen_firstOf] at h
  show G 0 [some (.ref 13), some (.long p1), none, some (.int p3)] [] M
  refine x_lload_n F.1 (i := 0) rfl rfl ?_
  refine x_iconst F.1 (i := 1) rfl ic_2 ?_
  refine x_aload_n F.1 (i := 2) rfl rfl ?_
  refine x_getI F.1 (i := 3) rfl fl_Seen_22 rfl (by rfl) ?_
  refine x_iload_n F.1 (i := 4) rfl rfl ?_
  refine x_isub F.1 (i := 5) rfl ?_
  refine x_imul F.1 (i := 6) rfl ?_
  refine x_lshr F.1 (i := 7) rfl ?_
  exact x_lretf F (i := 8) rfl rfl h (res := (r, M')) hQ
set_option maxHeartbeats 4000000 in
theorem t_Seen_lowest {w : kx_W} {d : Nat} {M : kx_M} {Q : Option Value → kx_M → Prop} {p0 : Int32} {r : Int64} {M' : kx_M} (h : f_Seen_lowest p0 M = some (r, M')) (hQ : Q (some (.long r)) M') : Ct w d m_Seen_lowest [.int p0] M Q := by
  refine mk_ct ok_Seen_lowest (Nat.le_of_ble_eq_true rfl) (fun G F => ?_)
  rw [f_Seen_lowest] at h
  show G 0 [some (.int p0)] [] M
  refine x_lconst F.1 (i := 0) (v := 1) rfl rfl ?_
  refine x_iconst F.1 (i := 1) rfl ic_2 ?_
  refine x_iload_n F.1 (i := 2) rfl rfl ?_
  refine x_imul F.1 (i := 3) rfl ?_
  refine x_lshl F.1 (i := 4) rfl ?_
  refine x_lconst F.1 (i := 5) (v := 1) rfl rfl ?_
  refine x_lsub F.1 (i := 6) rfl ?_
  exact x_lretf F (i := 7) rfl rfl h (res := (r, M')) hQ
set_option maxHeartbeats 4000000 in
theorem t_Seen_learn_l88 {w : kx_W} {d : Nat} {Q : Option Value → kx_M → Prop} {G : Nat → List (Option Value) → List Value → kx_M → Prop} (F : Sd w (d + 1) m_Seen_learn Q G) {p1 : Nat} {p2 : Int32} (hp1 : isDeal p1 = true) {k31 : Int64 → Int32 → Int32 → kx_M → Option (Unit × kx_M)} {res : Unit × kx_M} (hQ : Q none res.2) (hk31 : ∀ (x3 : Int64) (x5 : Int32) (x6 : Int32) (M : kx_M), k31 x3 x5 x6 M = some res → G 31 [some (.ref 13), none, none, some (.long x3), none, some (.int x5), some (.int x6), none, none, none] [] M) :
    ∀ (x3 : Int64) (x5 : Int32) (x6 : Int32) (x9 : Int32) (M : kx_M),
    f_Seen_learn_l88 p1 p2 k31 x3 x5 x6 x9 M = some res → G 88 [some (.ref 13), none, none, some (.long x3), none, some (.int x5), some (.int x6), none, none, some (.int x9)] [] M := by
  intro x3 x5 x6 x9 M h
  rw [f_Seen_learn_l88] at h
  refine x_aload_n F.1 (i := 49) rfl rfl ?_
  refine x_getC F.1 (i := 50) rfl fl_Seen_19 rfl (by rfl) ?_
  refine x_iload F.1 (i := 51) rfl rfl ?_
  refine x_iconst F.1 (i := 52) rfl ic_4 ?_
  refine x_imul F.1 (i := 53) rfl ?_
  refine x_iload F.1 (i := 54) rfl rfl ?_
  refine x_iadd F.1 (i := 55) rfl ?_
  refine x_iload F.1 (i := 56) rfl rfl ?_
  refine gd_e h (fun g1 h => ?_)
  refine x_iast F.1 (i := 57) rfl rfl (inb_e g1) ?_
  replace h := bd_e h
  refine x_iinc F.1 (i := 58) rfl rfl rfl (Nat.le_of_ble_eq_true rfl) rfl ?_
  replace h := bd_e h
  refine x_goto F.1 (i := 59) (tgt := 31) rfl (by decide) ?_
  exact x_wk F.1 (hk31 _ _ _ _ h) ⟨rfl, rfl, rfl, rfl, trivial⟩
set_option maxHeartbeats 4000000 in
theorem t_Seen_learn_l58 {w : kx_W} {d : Nat} {Q : Option Value → kx_M → Prop} {G : Nat → List (Option Value) → List Value → kx_M → Prop} (F : Sd w (d + 1) m_Seen_learn Q G) {p1 : Nat} {p2 : Int32} (hp1 : isDeal p1 = true) {k31 : Int64 → Int32 → Int32 → kx_M → Option (Unit × kx_M)} {res : Unit × kx_M} (hQ : Q none res.2) (hk31 : ∀ (x3 : Int64) (x5 : Int32) (x6 : Int32) (M : kx_M), k31 x3 x5 x6 M = some res → G 31 [some (.ref 13), none, none, some (.long x3), none, some (.int x5), some (.int x6), none, none, none] [] M) :
    ∀ (n : Nat) (x3 : Int64) (x5 : Int32) (x6 : Int32) (x7 : Int64) (x9 : Int32) (M : kx_M),
    f_Seen_learn_l58 p1 p2 k31 n x3 x5 x6 x7 x9 M = some res → G 58 [some (.ref 13), none, none, some (.long x3), none, some (.int x5), some (.int x6), some (.long x7), none, some (.int x9)] [] M := by
  intro n
  induction n with
  | zero =>
    intro x3 x5 x6 x7 x9 M h
    exact absurd h (by rw [f_Seen_learn_l58]; exact fun z => nomatch z)
  | succ n ih =>
    intro x3 x5 x6 x7 x9 M h
    rw [f_Seen_learn_l58] at h
    refine x_iload F.1 (i := 35) rfl rfl ?_
    refine x_if_le F.1 (i := 36) (tgt := 88) rfl (by decide) (fun c => ?_) (fun c => ?_)
    · replace h := if_T c h
      exact x_wk F.1 ((t_Seen_learn_l88 F hp1 hQ hk31) _ _ _ _ _ h) ⟨rfl, rfl, rfl, rfl, rfl, trivial⟩
    · replace h := if_F c h
      refine x_lload F.1 (i := 37) rfl rfl ?_
      refine x_iload F.1 (i := 38) rfl rfl ?_
      refine cal_e h (fun r1 M1 e2 h => ?_)
      refine x_cS1l F.1 (i := 39) rfl ml_Seen_44 ok_Seen_lowest (Nat.le_of_ble_eq_true rfl) (Nat.le_of_ble_eq_true rfl) (fun _ => t_Seen_lowest e2) ?_
      refine x_land F.1 (i := 40) rfl ?_
      refine x_aload_n F.1 (i := 41) rfl rfl ?_
      refine x_lload_n F.1 (i := 42) rfl rfl ?_
      refine x_iload F.1 (i := 43) rfl rfl ?_
      refine cal_e h (fun r3 M2 e4 h => ?_)
      refine x_cV2l F.1 (i := 44) rfl ml_Seen_40 ok_Seen_firstOf rfl (Nat.le_of_ble_eq_true rfl) (Nat.le_of_ble_eq_true rfl) (fun _ => t_Seen_firstOf e4) ?_
      refine x_lcmp F.1 (i := 45) rfl ?_
      refine x_if_eq F.1 (i := 46) (tgt := 88) rfl (by decide) (fun c => ?_) (fun c => ?_)
      · replace h := if_T c h
        exact x_wk F.1 ((t_Seen_learn_l88 F hp1 hQ hk31) _ _ _ _ _ h) ⟨rfl, rfl, rfl, rfl, rfl, trivial⟩
      · replace h := if_F c h
        refine x_iinc F.1 (i := 47) rfl rfl rfl (Nat.le_of_ble_eq_true rfl) rfl ?_
        replace h := bd_e h
        refine x_goto F.1 (i := 48) (tgt := 58) rfl (by decide) ?_
        exact x_wk F.1 (ih _ _ _ _ _ _ h) ⟨rfl, rfl, rfl, rfl, rfl, rfl, trivial⟩
set_option maxHeartbeats 4000000 in
theorem t_Seen_learn_l31 {w : kx_W} {d : Nat} {Q : Option Value → kx_M → Prop} {G : Nat → List (Option Value) → List Value → kx_M → Prop} (F : Sd w (d + 1) m_Seen_learn Q G) {p1 : Nat} {p2 : Int32} (hp1 : isDeal p1 = true) {k19 : Int64 → Int32 → kx_M → Option (Unit × kx_M)} {res : Unit × kx_M} (hQ : Q none res.2) (hk19 : ∀ (x3 : Int64) (x5 : Int32) (M : kx_M), k19 x3 x5 M = some res → G 19 [some (.ref 13), none, none, some (.long x3), none, some (.int x5), none, none, none, none] [] M) :
    ∀ (n : Nat) (x3 : Int64) (x5 : Int32) (x6 : Int32) (M : kx_M),
    f_Seen_learn_l31 p1 p2 k19 n x3 x5 x6 M = some res → G 31 [some (.ref 13), none, none, some (.long x3), none, some (.int x5), some (.int x6), none, none, none] [] M := by
  intro n
  induction n with
  | zero =>
    intro x3 x5 x6 M h
    exact absurd h (by rw [f_Seen_learn_l31]; exact fun z => nomatch z)
  | succ n ih =>
    intro x3 x5 x6 M h
    rw [f_Seen_learn_l31] at h
    refine x_iload F.1 (i := 18) rfl rfl ?_
    refine x_iconst F.1 (i := 19) rfl ic_4 ?_
    refine x_icmp_ge F.1 (i := 20) (tgt := 108) rfl (by decide) (fun c => ?_) (fun c => ?_)
    · replace h := if_T c h
      refine x_iinc F.1 (i := 60) rfl rfl rfl (Nat.le_of_ble_eq_true rfl) rfl ?_
      replace h := bd_e h
      refine x_goto F.1 (i := 61) (tgt := 19) rfl (by decide) ?_
      exact x_wk F.1 (hk19 _ _ _ h) ⟨rfl, rfl, rfl, trivial⟩
    · replace h := if_F c h
      refine x_aload_n F.1 (i := 21) rfl rfl ?_
      refine x_lload_n F.1 (i := 22) rfl rfl ?_
      refine x_iload F.1 (i := 23) rfl rfl ?_
      refine cal_e h (fun r2 M1 e3 h => ?_)
      refine x_cV2l F.1 (i := 24) rfl ml_Seen_40 ok_Seen_firstOf rfl (Nat.le_of_ble_eq_true rfl) (Nat.le_of_ble_eq_true rfl) (fun _ => t_Seen_firstOf e3) ?_
      refine x_iconst F.1 (i := 25) rfl ic_2 ?_
      refine x_lshl F.1 (i := 26) rfl ?_
      refine x_iload F.1 (i := 27) rfl rfl ?_
      refine x_i2l F.1 (i := 28) rfl ?_
      refine x_lor F.1 (i := 29) rfl ?_
      refine x_lstore F.1 (i := 30) rfl (Nat.le_of_ble_eq_true rfl) (Nat.le_of_ble_eq_true rfl) rfl ?_
      replace h := bd_e h
      refine x_iload F.1 (i := 31) rfl rfl ?_
      refine x_iconst F.1 (i := 32) rfl ic_1 ?_
      refine x_iadd F.1 (i := 33) rfl ?_
      refine x_istore F.1 (i := 34) rfl (Nat.le_of_ble_eq_true rfl) (Nat.le_of_ble_eq_true rfl) rfl ?_
      replace h := bd_e h
      exact x_wk F.1 ((t_Seen_learn_l58 F hp1 hQ ih FU) _ _ _ _ _ _ h) ⟨rfl, rfl, rfl, rfl, rfl, rfl, trivial⟩
set_option maxHeartbeats 4000000 in
theorem t_Seen_learn_l19 {w : kx_W} {d : Nat} {Q : Option Value → kx_M → Prop} {G : Nat → List (Option Value) → List Value → kx_M → Prop} (F : Sd w (d + 1) m_Seen_learn Q G) {p1 : Nat} {p2 : Int32} (hp1 : isDeal p1 = true) {res : Unit × kx_M} (hQ : Q none res.2) :
    ∀ (n : Nat) (x3 : Int64) (x5 : Int32) (M : kx_M),
    f_Seen_learn_l19 p1 p2 n x3 x5 M = some res → G 19 [some (.ref 13), none, none, some (.long x3), none, some (.int x5), none, none, none, none] [] M := by
  intro n
  induction n with
  | zero =>
    intro x3 x5 M h
    exact absurd h (by rw [f_Seen_learn_l19]; exact fun z => nomatch z)
  | succ n ih =>
    intro x3 x5 M h
    rw [f_Seen_learn_l19] at h
    refine x_iload F.1 (i := 12) rfl rfl ?_
    refine x_aload_n F.1 (i := 13) rfl rfl ?_
    refine x_getI F.1 (i := 14) rfl fl_Seen_22 rfl (by rfl) ?_
    refine x_icmp_ge F.1 (i := 15) (tgt := 114) rfl (by decide) (fun c => ?_) (fun c => ?_)
    · replace h := if_T c h
      exact x_vretf F (i := 62) rfl rfl h hQ
    · replace h := if_F c h
      refine x_iconst F.1 (i := 16) rfl ic_0 ?_
      refine x_istore F.1 (i := 17) rfl (Nat.le_of_ble_eq_true rfl) (Nat.le_of_ble_eq_true rfl) rfl ?_
      exact x_wk F.1 ((t_Seen_learn_l31 F hp1 hQ ih FU) _ _ _ _ h) ⟨rfl, rfl, rfl, rfl, trivial⟩
set_option maxHeartbeats 4000000 in
theorem t_Seen_learn {w : kx_W} {d : Nat} {M : kx_M} {Q : Option Value → kx_M → Prop} {p1 : Nat} {p2 : Int32} {r : Unit} {M' : kx_M} (hp1 : isDeal p1 = true) (h : f_Seen_learn p1 p2 M = some (r, M')) (hQ : Q none M') : Ct w (d + 1) m_Seen_learn [.ref 13, .ref p1, .int p2] M Q := by
  refine mk_ct ok_Seen_learn (Nat.le_of_ble_eq_true rfl) (fun G F => ?_)
  rw [f_Seen_learn] at h
  show G 0 [some (.ref 13), some (.ref p1), some (.int p2), none, none, none, none, none, none, none] [] M
  refine x_aload_n F.1 (i := 0) rfl rfl ?_
  refine x_aload_n F.1 (i := 1) rfl rfl ?_
  refine x_getC F.1 (i := 2) rfl fl_Seen_31 (lk_Deal hp1) (by rfl) ?_
  refine x_iload_n F.1 (i := 3) rfl rfl ?_
  refine gd_e h (fun g1 h => ?_)
  refine x_iald F.1 (i := 4) rfl (lk_Deal_lengths hp1) (inb_e g1) ?_
  refine x_putI F.1 (i := 5) rfl fl_Seen_22 pf_Seen_length rfl (by rfl) ?_
  replace h := bd_e h
  refine x_aload_n F.1 (i := 6) rfl rfl ?_
  refine x_iload_n F.1 (i := 7) rfl rfl ?_
  refine cal_e h (fun r2 M2 e3 h => ?_)
  refine x_cV1l F.1 (i := 8) rfl ml_Seen_36 ok_Deal_runOf (lk_Deal hp1) (Nat.le_of_ble_eq_true rfl) (Nat.le_of_ble_eq_true rfl) (fun _ => t_Deal_runOf hp1 e3) ?_
  refine x_lstore_n F.1 (i := 9) rfl (Nat.le_of_ble_eq_true rfl) (Nat.le_of_ble_eq_true rfl) rfl ?_
  refine x_iconst F.1 (i := 10) rfl ic_0 ?_
  refine x_istore F.1 (i := 11) rfl (Nat.le_of_ble_eq_true rfl) (Nat.le_of_ble_eq_true rfl) rfl ?_
  exact x_wk F.1 ((t_Seen_learn_l19 F hp1 (res := (r, M')) hQ FU) _ _ _ h) ⟨rfl, rfl, rfl, trivial⟩
set_option maxHeartbeats 4000000 in
theorem t_KT_lookAt_l34 {w : kx_W} {d : Nat} {Q : Option Value → kx_M → Prop} {G : Nat → List (Option Value) → List Value → kx_M → Prop} (F : Sd w (d + 2) m_KT_lookAt Q G) {p1 : Int32} {p2 : Int32} {res : Unit × kx_M} (hQ : Q none res.2) :
    ∀ (n : Nat) (x3 : Int32) (M : kx_M),
    f_KT_lookAt_l34 p1 p2 n x3 M = some res → G 34 [some (.ref 0), none, some (.int p2), some (.int x3)] [] M := by
  intro n
  induction n with
  | zero =>
    intro x3 M h
    exact absurd h (by rw [f_KT_lookAt_l34]; exact fun z => nomatch z)
  | succ n ih =>
    intro x3 M h
    rw [f_KT_lookAt_l34] at h
    refine x_iload_n F.1 (i := 16) rfl rfl ?_
    refine x_aload_n F.1 (i := 17) rfl rfl ?_
    refine x_getC F.1 (i := 18) rfl fl_KT_42 rfl (by rfl) ?_
    refine x_getI F.1 (i := 19) rfl fl_KT_421 rfl (by rfl) ?_
    refine x_icmp_ge F.1 (i := 20) (tgt := 72) rfl (by decide) (fun c => ?_) (fun c => ?_)
    · replace h := if_T c h
      exact x_vretf F (i := 36) rfl rfl h hQ
    · replace h := if_F c h
      refine x_aload_n F.1 (i := 21) rfl rfl ?_
      refine x_getC F.1 (i := 22) rfl fl_KT_42 rfl (by rfl) ?_
      refine x_getC F.1 (i := 23) rfl fl_KT_422 rfl (by rfl) ?_
      refine x_iload_n F.1 (i := 24) rfl rfl ?_
      refine x_aload_n F.1 (i := 25) rfl rfl ?_
      refine x_getC F.1 (i := 26) rfl fl_KT_11 rfl (by rfl) ?_
      refine x_iload_n F.1 (i := 27) rfl rfl ?_
      refine gd_e h (fun g1 h => ?_)
      refine x_tray F.1 (i := 28) rfl g1 ?_
      refine x_getC F.1 (i := 29) rfl fl_KT_120 (lk_Tray (isTray_of g1)) (by rfl) ?_
      refine x_iload_n F.1 (i := 30) rfl rfl ?_
      refine gd_e h (fun g2 h => ?_)
      refine x_lald F.1 (i := 31) rfl (lk_Tray_numbers (isTray_of g1)) (inb_e g2) ?_
      refine x_l2i F.1 (i := 32) rfl ?_
      refine gd_e h (fun g3 h => ?_)
      refine x_iast F.1 (i := 33) rfl rfl (inb_e g3) ?_
      replace h := bd_e h
      refine x_iinc F.1 (i := 34) rfl rfl rfl (Nat.le_of_ble_eq_true rfl) rfl ?_
      replace h := bd_e h
      refine x_goto F.1 (i := 35) (tgt := 34) rfl (by decide) ?_
      exact x_wk F.1 (ih _ _ h) ⟨rfl, rfl, rfl, trivial⟩
set_option maxHeartbeats 4000000 in
theorem t_KT_lookAt {w : kx_W} {d : Nat} {M : kx_M} {Q : Option Value → kx_M → Prop} {p1 : Int32} {p2 : Int32} {r : Unit} {M' : kx_M} (h : f_KT_lookAt p1 p2 M = some (r, M')) (hQ : Q none M') : Ct w (d + 2) m_KT_lookAt [.ref 0, .int p1, .int p2] M Q := by
  refine mk_ct ok_KT_lookAt (Nat.le_of_ble_eq_true rfl) (fun G F => ?_)
  rw [f_KT_lookAt] at h
  show G 0 [some (.ref 0), some (.int p1), some (.int p2), none] [] M
  refine x_aload_n F.1 (i := 0) rfl rfl ?_
  refine x_getC F.1 (i := 1) rfl fl_KT_42 rfl (by rfl) ?_
  refine x_aload_n F.1 (i := 2) rfl rfl ?_
  refine x_getR F.1 (i := 3) rfl fl_KT_64 rfl (by rfl) rfl ?_
  refine gd_e h (fun g1 h => ?_)
  replace h := bd_e h
  refine x_getC F.1 (i := 4) rfl fl_KT_192 (lk_State g1) (by rfl) ?_
  refine x_iload_n F.1 (i := 5) rfl rfl ?_
  refine cal_e h (fun r3 M1 e4 h => ?_)
  refine x_cV2v F.1 (i := 6) rfl ml_KT_418 ok_Seen_learn rfl (Nat.le_of_ble_eq_true rfl) (Nat.le_of_ble_eq_true rfl) (fun _ => t_Seen_learn (lD_State_deal g1) e4) ?_
  refine x_aload_n F.1 (i := 7) rfl rfl ?_
  refine x_getC F.1 (i := 8) rfl fl_KT_42 rfl (by rfl) ?_
  refine x_aload_n F.1 (i := 9) rfl rfl ?_
  refine x_getR F.1 (i := 10) rfl fl_KT_64 rfl (by rfl) rfl ?_
  refine gd_e h (fun g5 h => ?_)
  replace h := bd_e h
  refine x_getC F.1 (i := 11) rfl fl_KT_156 (lk_State g5) (by rfl) ?_
  refine x_getI F.1 (i := 12) rfl fl_KT_186 (lk_Cloth (lD_State_cloth g5)) (by rfl) ?_
  refine x_putI F.1 (i := 13) rfl fl_KT_421 pf_Seen_wide rfl (by rfl) ?_
  replace h := bd_e h
  refine x_iconst F.1 (i := 14) rfl ic_0 ?_
  refine x_istore_n F.1 (i := 15) rfl (Nat.le_of_ble_eq_true rfl) (Nat.le_of_ble_eq_true rfl) rfl ?_
  exact x_wk F.1 ((t_KT_lookAt_l34 F (res := (r, M')) hQ FU) _ _ h) ⟨rfl, rfl, rfl, trivial⟩
