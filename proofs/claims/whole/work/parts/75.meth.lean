set_option maxHeartbeats 4000000 in
theorem t_RM_shortestAt {w : kx_W} {d : Nat} {M : kx_M} {Q : Option Value → kx_M → Prop} {p1 : Int32} {p2 : Int32} {r : Int32} {M' : kx_M} (h : f_RM_shortestAt p1 p2 M = some (r, M')) (hQ : Q (some (.int r)) M') : Ct w (d + 19) m_RM_shortestAt [.ref 135, .int p1, .int p2] M Q := by
  refine mk_ct ok_RM_shortestAt (Nat.le_of_ble_eq_true rfl) (fun G F => ?_)
  rw [f_RM_shortestAt] at h
  show G 0 [some (.ref 135), some (.int p1), some (.int p2)] [] M
  refine x_aload_n F.1 (i := 0) rfl rfl ?_
  refine x_iconst F.1 (i := 1) rfl ic_0 ?_
  refine x_putI F.1 (i := 2) rfl fl_RM_68 pf_RM_thrown rfl (by rfl) ?_
  replace h := bd_e h
  refine x_aload_n F.1 (i := 3) rfl rfl ?_
  refine x_iconst F.1 (i := 4) rfl ic_0 ?_
  refine x_putI F.1 (i := 5) rfl fl_RM_71 pf_RM_status rfl (by rfl) ?_
  replace h := bd_e h
  refine x_aload_n F.1 (i := 6) rfl rfl ?_
  refine x_iload_n F.1 (i := 7) rfl rfl ?_
  refine cal_e h (fun r1 M3 e2 h => ?_)
  refine x_cV1i F.1 (i := 8) rfl ml_RM_444 ok_RM_areClauses rfl (Nat.le_of_ble_eq_true rfl) (Nat.le_of_ble_eq_true rfl) (fun _ => t_RM_areClauses e2) ?_
  refine x_if_ne F.1 (i := 9) (tgt := 24) rfl (by decide) (fun c => ?_) (fun c => ?_)
  · replace h := if_F c h
    refine x_aload_n F.1 (i := 14) rfl rfl ?_
    refine x_iconst F.1 (i := 15) rfl ic_n1 ?_
    refine x_putI F.1 (i := 16) rfl fl_RM_432 pf_RM_bestLong rfl (by rfl) ?_
    replace h := bd_e h
    refine x_aload_n F.1 (i := 17) rfl rfl ?_
    refine x_aload_n F.1 (i := 18) rfl rfl ?_
    refine x_iload_n F.1 (i := 19) rfl rfl ?_
    refine cal_e h (fun r5 M6 e6 h => ?_)
    refine x_cV1i F.1 (i := 20) rfl ml_RM_447 ok_RM_kernel rfl (Nat.le_of_ble_eq_true rfl) (Nat.le_of_ble_eq_true rfl) (fun _ => t_RM_kernel e6) ?_
    refine x_iconst F.1 (i := 21) rfl ic_0 ?_
    refine cal_e h (fun r7 M7 e8 h => ?_)
    refine x_cV2v F.1 (i := 22) rfl ml_RM_441 ok_RM_lays rfl (Nat.le_of_ble_eq_true rfl) (Nat.le_of_ble_eq_true rfl) (fun _ => tg_RM_lays _ _ e8) ?_
    refine x_iload_n F.1 (i := 23) rfl rfl ?_
    refine x_i2l F.1 (i := 24) rfl ?_
    refine x_lconst F.1 (i := 25) (v := 0) rfl rfl ?_
    refine x_aload_n F.1 (i := 26) rfl rfl ?_
    refine x_getI F.1 (i := 27) rfl fl_RM_432 rfl (by rfl) ?_
    refine x_iconst F.1 (i := 28) rfl ic_1 ?_
    refine x_isub F.1 (i := 29) rfl ?_
    refine x_i2l F.1 (i := 30) rfl ?_
    refine cal_e h (fun r9 M8 e10 h => ?_)
    refine x_cS3i F.1 (i := 31) rfl ml_RM_103 ok_RM_isIn (Nat.le_of_ble_eq_true rfl) (Nat.le_of_ble_eq_true rfl) (fun _ => t_RM_isIn e10) ?_
    refine x_if_eq F.1 (i := 32) (tgt := 64) rfl (by decide) (fun c => ?_) (fun c => ?_)
    · replace h := if_T c h
      refine x_aload_n F.1 (i := 38) rfl rfl ?_
      refine x_bipush F.1 (i := 39) rfl bp_8 ?_
      refine cal_e h (fun r11 M9 e12 h => ?_)
      refine x_cV1i F.1 (i := 40) rfl ml_RM_321 ok_RM_refuse rfl (Nat.le_of_ble_eq_true rfl) (Nat.le_of_ble_eq_true rfl) (fun _ => t_RM_refuse e12) ?_
      exact x_iretf F (i := 41) rfl rfl h (res := (r, M')) hQ
    · replace h := if_F c h
      refine x_aload_n F.1 (i := 33) rfl rfl ?_
      refine x_getC F.1 (i := 34) rfl fl_RM_53 rfl (by rfl) ?_
      refine x_iload_n F.1 (i := 35) rfl rfl ?_
      refine gd_e h (fun g13 h => ?_)
      refine x_iald F.1 (i := 36) rfl rfl (inb_e g13) ?_
      refine x_goto F.1 (i := 37) (tgt := 70) rfl (by decide) ?_
      exact x_iretf F (i := 41) rfl rfl h (res := (r, M')) hQ
  · replace h := if_T c h
    refine x_aload_n F.1 (i := 10) rfl rfl ?_
    refine x_iconst F.1 (i := 11) rfl ic_5 ?_
    refine cal_e h (fun r3 M4 e4 h => ?_)
    refine x_cV1i F.1 (i := 12) rfl ml_RM_321 ok_RM_refuse rfl (Nat.le_of_ble_eq_true rfl) (Nat.le_of_ble_eq_true rfl) (fun _ => t_RM_refuse e4) ?_
    exact x_iretf F (i := 13) rfl rfl h (res := (r, M')) hQ
set_option maxHeartbeats 4000000 in
theorem t_RM_gain {w : kx_W} {d : Nat} {M : kx_M} {Q : Option Value → kx_M → Prop} {p1 : Int32} {p2 : Int32} {r : Int32} {M' : kx_M} (h : f_RM_gain p1 p2 M = some (r, M')) (hQ : Q (some (.int r)) M') : Ct w d m_RM_gain [.ref 135, .int p1, .int p2] M Q := by
  refine mk_ct ok_RM_gain (Nat.le_of_ble_eq_true rfl) (fun G F => ?_)
  rw [f_RM_gain] at h
  show G 0 [some (.ref 135), some (.int p1), some (.int p2)] [] M
  refine x_aload_n F.1 (i := 0) rfl rfl ?_
  refine x_getC F.1 (i := 1) rfl fl_RM_35 rfl (by rfl) ?_
  refine x_bipush F.1 (i := 2) rfl bp_52 ?_
  refine x_bipush F.1 (i := 3) rfl bp_6 ?_
  refine x_iload_n F.1 (i := 4) rfl rfl ?_
  refine x_imul F.1 (i := 5) rfl ?_
  refine x_iadd F.1 (i := 6) rfl ?_
  refine x_iload_n F.1 (i := 7) rfl rfl ?_
  refine x_iadd F.1 (i := 8) rfl ?_
  refine gd_e h (fun g1 h => ?_)
  refine x_iald F.1 (i := 9) rfl rfl (inb_e g1) ?_
  refine x_aload_n F.1 (i := 10) rfl rfl ?_
  refine x_getC F.1 (i := 11) rfl fl_RM_35 rfl (by rfl) ?_
  refine x_bipush F.1 (i := 12) rfl bp_76 ?_
  refine x_bipush F.1 (i := 13) rfl bp_6 ?_
  refine x_iload_n F.1 (i := 14) rfl rfl ?_
  refine x_imul F.1 (i := 15) rfl ?_
  refine x_iadd F.1 (i := 16) rfl ?_
  refine x_iload_n F.1 (i := 17) rfl rfl ?_
  refine x_iadd F.1 (i := 18) rfl ?_
  refine gd_e h (fun g2 h => ?_)
  refine x_iald F.1 (i := 19) rfl rfl (inb_e g2) ?_
  refine x_isub F.1 (i := 20) rfl ?_
  exact x_iretf F (i := 21) rfl rfl h (res := (r, M')) hQ
set_option maxHeartbeats 4000000 in
theorem t_RM_gains_l5 {w : kx_W} {d : Nat} {Q : Option Value → kx_M → Prop} {G : Nat → List (Option Value) → List Value → kx_M → Prop} (F : Sd w (d + 1) m_RM_gains Q G) {p1 : Int32} {p2 : Int32} {res : Int32 × kx_M} (hQ : Q (some (.int res.1)) res.2) :
    ∀ (n : Nat) (x3 : Int32) (x4 : Int32) (M : kx_M),
    f_RM_gains_l5 p1 p2 n x3 x4 M = some res → G 5 [some (.ref 135), some (.int p1), some (.int p2), some (.int x3), some (.int x4)] [] M := by
  intro n
  induction n with
  | zero =>
    intro x3 x4 M h
    exact absurd h (by rw [f_RM_gains_l5]; exact fun z => nomatch z)
  | succ n ih =>
    intro x3 x4 M h
    rw [f_RM_gains_l5] at h
    refine x_iload F.1 (i := 4) rfl rfl ?_
    refine x_aload_n F.1 (i := 5) rfl rfl ?_
    refine x_getC F.1 (i := 6) rfl fl_RM_35 rfl (by rfl) ?_
    refine x_iconst F.1 (i := 7) rfl ic_3 ?_
    refine gd_e h (fun g1 h => ?_)
    refine x_iald F.1 (i := 8) rfl rfl (inb_e g1) ?_
    refine x_icmp_ge F.1 (i := 9) (tgt := 45) rfl (by decide) (fun c => ?_) (fun c => ?_)
    · replace h := if_T c h
      refine x_iload_n F.1 (i := 25) rfl rfl ?_
      exact x_iretf F (i := 26) rfl rfl h hQ
    · replace h := if_F c h
      refine x_iload_n F.1 (i := 10) rfl rfl ?_
      refine x_iload_n F.1 (i := 11) rfl rfl ?_
      refine x_iload F.1 (i := 12) rfl rfl ?_
      refine cal_e h (fun r2 M1 e3 h => ?_)
      refine x_cS2i F.1 (i := 13) rfl ml_RM_241 ok_RM_has (Nat.le_of_ble_eq_true rfl) (Nat.le_of_ble_eq_true rfl) (fun _ => t_RM_has e3) ?_
      refine x_if_eq F.1 (i := 14) (tgt := 36) rfl (by decide) (fun c => ?_) (fun c => ?_)
      · replace h := if_T c h
        refine x_iconst F.1 (i := 20) rfl ic_0 ?_
        refine x_iadd F.1 (i := 21) rfl ?_
        refine x_istore_n F.1 (i := 22) rfl (Nat.le_of_ble_eq_true rfl) (Nat.le_of_ble_eq_true rfl) rfl ?_
        replace h := bd_e h
        refine x_iinc F.1 (i := 23) rfl rfl rfl (Nat.le_of_ble_eq_true rfl) rfl ?_
        replace h := bd_e h
        refine x_goto F.1 (i := 24) (tgt := 5) rfl (by decide) ?_
        exact x_wk F.1 (ih _ _ _ h) ⟨rfl, rfl, rfl, rfl, rfl, trivial⟩
      · replace h := if_F c h
        refine x_aload_n F.1 (i := 15) rfl rfl ?_
        refine x_iload_n F.1 (i := 16) rfl rfl ?_
        refine x_iload F.1 (i := 17) rfl rfl ?_
        refine cal_e h (fun r6 M2 e7 h => ?_)
        refine x_cV2i F.1 (i := 18) rfl ml_RM_450 ok_RM_gain rfl (Nat.le_of_ble_eq_true rfl) (Nat.le_of_ble_eq_true rfl) (fun _ => t_RM_gain e7) ?_
        refine x_goto F.1 (i := 19) (tgt := 37) rfl (by decide) ?_
        refine x_iadd F.1 (i := 21) rfl ?_
        refine x_istore_n F.1 (i := 22) rfl (Nat.le_of_ble_eq_true rfl) (Nat.le_of_ble_eq_true rfl) rfl ?_
        replace h := bd_e h
        refine x_iinc F.1 (i := 23) rfl rfl rfl (Nat.le_of_ble_eq_true rfl) rfl ?_
        replace h := bd_e h
        refine x_goto F.1 (i := 24) (tgt := 5) rfl (by decide) ?_
        exact x_wk F.1 (ih _ _ _ h) ⟨rfl, rfl, rfl, rfl, rfl, trivial⟩
set_option maxHeartbeats 4000000 in
theorem t_RM_gains {w : kx_W} {d : Nat} {M : kx_M} {Q : Option Value → kx_M → Prop} {p1 : Int32} {p2 : Int32} {r : Int32} {M' : kx_M} (h : f_RM_gains p1 p2 M = some (r, M')) (hQ : Q (some (.int r)) M') : Ct w (d + 1) m_RM_gains [.ref 135, .int p1, .int p2] M Q := by
  refine mk_ct ok_RM_gains (Nat.le_of_ble_eq_true rfl) (fun G F => ?_)
  rw [f_RM_gains] at h
  show G 0 [some (.ref 135), some (.int p1), some (.int p2), none, none] [] M
  refine x_iconst F.1 (i := 0) rfl ic_0 ?_
  refine x_istore_n F.1 (i := 1) rfl (Nat.le_of_ble_eq_true rfl) (Nat.le_of_ble_eq_true rfl) rfl ?_
  refine x_iconst F.1 (i := 2) rfl ic_0 ?_
  refine x_istore F.1 (i := 3) rfl (Nat.le_of_ble_eq_true rfl) (Nat.le_of_ble_eq_true rfl) rfl ?_
  exact x_wk F.1 ((t_RM_gains_l5 F (res := (r, M')) hQ FU) _ _ _ h) ⟨rfl, rfl, rfl, rfl, rfl, trivial⟩
set_option maxHeartbeats 4000000 in
theorem t_RM_wins {w : kx_W} {d : Nat} {M : kx_M} {Q : Option Value → kx_M → Prop} {p1 : Int32} {p2 : Int32} {r : Int32} {M' : kx_M} (h : f_RM_wins p1 p2 M = some (r, M')) (hQ : Q (some (.int r)) M') : Ct w (d + 2) m_RM_wins [.ref 135, .int p1, .int p2] M Q := by
  refine mk_ct ok_RM_wins (Nat.le_of_ble_eq_true rfl) (fun G F => ?_)
  rw [f_RM_wins] at h
  show G 0 [some (.ref 135), some (.int p1), some (.int p2)] [] M
  refine x_aload_n F.1 (i := 0) rfl rfl ?_
  refine x_iconst F.1 (i := 1) rfl ic_0 ?_
  refine x_putI F.1 (i := 2) rfl fl_RM_68 pf_RM_thrown rfl (by rfl) ?_
  replace h := bd_e h
  refine x_aload_n F.1 (i := 3) rfl rfl ?_
  refine x_iconst F.1 (i := 4) rfl ic_0 ?_
  refine x_putI F.1 (i := 5) rfl fl_RM_71 pf_RM_status rfl (by rfl) ?_
  replace h := bd_e h
  refine x_aload_n F.1 (i := 6) rfl rfl ?_
  refine x_iload_n F.1 (i := 7) rfl rfl ?_
  refine cal_e h (fun r1 M3 e2 h => ?_)
  refine x_cV1i F.1 (i := 8) rfl ml_RM_336 ok_RM_isQueenAt rfl (Nat.le_of_ble_eq_true rfl) (Nat.le_of_ble_eq_true rfl) (fun _ => t_RM_isQueenAt e2) ?_
  refine x_if_ne F.1 (i := 9) (tgt := 24) rfl (by decide) (fun c => ?_) (fun c => ?_)
  · replace h := if_F c h
    refine x_aload_n F.1 (i := 14) rfl rfl ?_
    refine x_iload_n F.1 (i := 15) rfl rfl ?_
    refine cal_e h (fun r5 M5 e6 h => ?_)
    refine x_cV1i F.1 (i := 16) rfl ml_RM_444 ok_RM_areClauses rfl (Nat.le_of_ble_eq_true rfl) (Nat.le_of_ble_eq_true rfl) (fun _ => t_RM_areClauses e6) ?_
    refine x_if_eq F.1 (i := 17) (tgt := 41) rfl (by decide) (fun c => ?_) (fun c => ?_)
    · replace h := if_T c h
      refine x_aload_n F.1 (i := 23) rfl rfl ?_
      refine x_iconst F.1 (i := 24) rfl ic_5 ?_
      refine cal_e h (fun r7 M6 e8 h => ?_)
      refine x_cV1i F.1 (i := 25) rfl ml_RM_321 ok_RM_refuse rfl (Nat.le_of_ble_eq_true rfl) (Nat.le_of_ble_eq_true rfl) (fun _ => t_RM_refuse e8) ?_
      exact x_iretf F (i := 26) rfl rfl h (res := (r, M')) hQ
    · replace h := if_F c h
      refine x_aload_n F.1 (i := 18) rfl rfl ?_
      refine x_iload_n F.1 (i := 19) rfl rfl ?_
      refine x_iload_n F.1 (i := 20) rfl rfl ?_
      refine cal_e h (fun r9 M7 e10 h => ?_)
      refine x_cV2i F.1 (i := 21) rfl ml_RM_453 ok_RM_gains rfl (Nat.le_of_ble_eq_true rfl) (Nat.le_of_ble_eq_true rfl) (fun _ => t_RM_gains e10) ?_
      refine x_goto F.1 (i := 22) (tgt := 46) rfl (by decide) ?_
      exact x_iretf F (i := 26) rfl rfl h (res := (r, M')) hQ
  · replace h := if_T c h
    refine x_aload_n F.1 (i := 10) rfl rfl ?_
    refine x_iconst F.1 (i := 11) rfl ic_2 ?_
    refine cal_e h (fun r3 M4 e4 h => ?_)
    refine x_cV1i F.1 (i := 12) rfl ml_RM_321 ok_RM_refuse rfl (Nat.le_of_ble_eq_true rfl) (Nat.le_of_ble_eq_true rfl) (fun _ => t_RM_refuse e4) ?_
    exact x_iretf F (i := 13) rfl rfl h (res := (r, M')) hQ
set_option maxHeartbeats 4000000 in
theorem t_RM_isFair_l44 {w : kx_W} {d : Nat} {Q : Option Value → kx_M → Prop} {G : Nat → List (Option Value) → List Value → kx_M → Prop} (F : Sd w (d + 2) m_RM_isFair Q G) {p1 : Int32} {res : Int32 × kx_M} (hQ : Q (some (.int res.1)) res.2) :
    ∀ (n : Nat) (x2 : Int32) (M : kx_M),
    f_RM_isFair_l44 p1 n x2 M = some res → G 44 [some (.ref 135), some (.int p1), some (.int x2)] [] M := by
  intro n
  induction n with
  | zero =>
    intro x2 M h
    exact absurd h (by rw [f_RM_isFair_l44]; exact fun z => nomatch z)
  | succ n ih =>
    intro x2 M h
    rw [f_RM_isFair_l44] at h
    refine x_iload_n F.1 (i := 27) rfl rfl ?_
    refine x_aload_n F.1 (i := 28) rfl rfl ?_
    refine x_getC F.1 (i := 29) rfl fl_RM_35 rfl (by rfl) ?_
    refine x_iconst F.1 (i := 30) rfl ic_2 ?_
    refine gd_e h (fun g1 h => ?_)
    refine x_iald F.1 (i := 31) rfl rfl (inb_e g1) ?_
    refine x_icmp_ge F.1 (i := 32) (tgt := 71) rfl (by decide) (fun c => ?_) (fun c => ?_)
    · replace h := if_T c h
      refine x_iconst F.1 (i := 42) rfl ic_1 ?_
      exact x_zretf F (i := 43) rfl rfl (Or.inr rfl) h hQ
    · replace h := if_F c h
      refine x_aload_n F.1 (i := 33) rfl rfl ?_
      refine x_iload_n F.1 (i := 34) rfl rfl ?_
      refine x_iload_n F.1 (i := 35) rfl rfl ?_
      refine cal_e h (fun r2 M1 e3 h => ?_)
      refine x_cV2i F.1 (i := 36) rfl ml_RM_453 ok_RM_gains rfl (Nat.le_of_ble_eq_true rfl) (Nat.le_of_ble_eq_true rfl) (fun _ => t_RM_gains e3) ?_
      refine x_if_ge F.1 (i := 37) (tgt := 65) rfl (by decide) (fun c => ?_) (fun c => ?_)
      · replace h := if_T c h
        refine x_iinc F.1 (i := 40) rfl rfl rfl (Nat.le_of_ble_eq_true rfl) rfl ?_
        replace h := bd_e h
        refine x_goto F.1 (i := 41) (tgt := 44) rfl (by decide) ?_
        exact x_wk F.1 (ih _ _ h) ⟨rfl, rfl, rfl, trivial⟩
      · replace h := if_F c h
        refine x_iconst F.1 (i := 38) rfl ic_0 ?_
        exact x_zretf F (i := 39) rfl rfl (Or.inl rfl) h hQ
set_option maxHeartbeats 4000000 in
theorem t_RM_isFair_l2 {w : kx_W} {d : Nat} {Q : Option Value → kx_M → Prop} {G : Nat → List (Option Value) → List Value → kx_M → Prop} (F : Sd w (d + 2) m_RM_isFair Q G) {p1 : Int32} {res : Int32 × kx_M} (hQ : Q (some (.int res.1)) res.2) :
    ∀ (n : Nat) (x2 : Int32) (M : kx_M),
    f_RM_isFair_l2 p1 n x2 M = some res → G 2 [some (.ref 135), some (.int p1), some (.int x2)] [] M := by
  intro n
  induction n with
  | zero =>
    intro x2 M h
    exact absurd h (by rw [f_RM_isFair_l2]; exact fun z => nomatch z)
  | succ n ih =>
    intro x2 M h
    rw [f_RM_isFair_l2] at h
    refine x_iload_n F.1 (i := 2) rfl rfl ?_
    refine x_aload_n F.1 (i := 3) rfl rfl ?_
    refine x_getC F.1 (i := 4) rfl fl_RM_35 rfl (by rfl) ?_
    refine x_iconst F.1 (i := 5) rfl ic_3 ?_
    refine gd_e h (fun g1 h => ?_)
    refine x_iald F.1 (i := 6) rfl rfl (inb_e g1) ?_
    refine x_icmp_ge F.1 (i := 7) (tgt := 42) rfl (by decide) (fun c => ?_) (fun c => ?_)
    · replace h := if_T c h
      refine x_iconst F.1 (i := 25) rfl ic_0 ?_
      refine x_istore_n F.1 (i := 26) rfl (Nat.le_of_ble_eq_true rfl) (Nat.le_of_ble_eq_true rfl) rfl ?_
      exact x_wk F.1 ((t_RM_isFair_l44 F hQ FU) _ _ h) ⟨rfl, rfl, rfl, trivial⟩
    · replace h := if_F c h
      refine x_iload_n F.1 (i := 8) rfl rfl ?_
      refine x_iload_n F.1 (i := 9) rfl rfl ?_
      refine cal_e h (fun r2 M1 e3 h => ?_)
      refine x_cS2i F.1 (i := 10) rfl ml_RM_241 ok_RM_has (Nat.le_of_ble_eq_true rfl) (Nat.le_of_ble_eq_true rfl) (fun _ => t_RM_has e3) ?_
      refine x_if_eq F.1 (i := 11) (tgt := 36) rfl (by decide) (fun c => ?_) (fun c => ?_)
      · replace h := if_T c h
        refine x_iinc F.1 (i := 23) rfl rfl rfl (Nat.le_of_ble_eq_true rfl) rfl ?_
        replace h := bd_e h
        refine x_goto F.1 (i := 24) (tgt := 2) rfl (by decide) ?_
        exact x_wk F.1 (ih _ _ h) ⟨rfl, rfl, rfl, trivial⟩
      · replace h := if_F c h
        refine x_aload_n F.1 (i := 12) rfl rfl ?_
        refine x_getC F.1 (i := 13) rfl fl_RM_35 rfl (by rfl) ?_
        refine x_bipush F.1 (i := 14) rfl bp_46 ?_
        refine x_iload_n F.1 (i := 15) rfl rfl ?_
        refine x_iadd F.1 (i := 16) rfl ?_
        refine gd_e h (fun g5 h => ?_)
        refine x_iald F.1 (i := 17) rfl rfl (inb_e g5) ?_
        refine x_iload_n F.1 (i := 18) rfl rfl ?_
        refine x_iand F.1 (i := 19) rfl ?_
        refine x_if_eq F.1 (i := 20) (tgt := 36) rfl (by decide) (fun c => ?_) (fun c => ?_)
        · replace h := if_T c h
          refine x_iinc F.1 (i := 23) rfl rfl rfl (Nat.le_of_ble_eq_true rfl) rfl ?_
          replace h := bd_e h
          refine x_goto F.1 (i := 24) (tgt := 2) rfl (by decide) ?_
          exact x_wk F.1 (ih _ _ h) ⟨rfl, rfl, rfl, trivial⟩
        · replace h := if_F c h
          refine x_iconst F.1 (i := 21) rfl ic_0 ?_
          exact x_zretf F (i := 22) rfl rfl (Or.inl rfl) h hQ
set_option maxHeartbeats 4000000 in
theorem t_RM_isFair {w : kx_W} {d : Nat} {M : kx_M} {Q : Option Value → kx_M → Prop} {p1 : Int32} {r : Int32} {M' : kx_M} (h : f_RM_isFair p1 M = some (r, M')) (hQ : Q (some (.int r)) M') : Ct w (d + 2) m_RM_isFair [.ref 135, .int p1] M Q := by
  refine mk_ct ok_RM_isFair (Nat.le_of_ble_eq_true rfl) (fun G F => ?_)
  rw [f_RM_isFair] at h
  show G 0 [some (.ref 135), some (.int p1), none] [] M
  refine x_iconst F.1 (i := 0) rfl ic_0 ?_
  refine x_istore_n F.1 (i := 1) rfl (Nat.le_of_ble_eq_true rfl) (Nat.le_of_ble_eq_true rfl) rfl ?_
  exact x_wk F.1 ((t_RM_isFair_l2 F (res := (r, M')) hQ FU) _ _ h) ⟨rfl, rfl, rfl, trivial⟩
set_option maxHeartbeats 4000000 in
theorem t_RM_allGains_l4 {w : kx_W} {d : Nat} {Q : Option Value → kx_M → Prop} {G : Nat → List (Option Value) → List Value → kx_M → Prop} (F : Sd w (d + 2) m_RM_allGains Q G) {p1 : Int32} {res : Int32 × kx_M} (hQ : Q (some (.int res.1)) res.2) :
    ∀ (n : Nat) (x2 : Int32) (x3 : Int32) (M : kx_M),
    f_RM_allGains_l4 p1 n x2 x3 M = some res → G 4 [some (.ref 135), some (.int p1), some (.int x2), some (.int x3)] [] M := by
  intro n
  induction n with
  | zero =>
    intro x2 x3 M h
    exact absurd h (by rw [f_RM_allGains_l4]; exact fun z => nomatch z)
  | succ n ih =>
    intro x2 x3 M h
    rw [f_RM_allGains_l4] at h
    refine x_iload_n F.1 (i := 4) rfl rfl ?_
    refine x_aload_n F.1 (i := 5) rfl rfl ?_
    refine x_getC F.1 (i := 6) rfl fl_RM_35 rfl (by rfl) ?_
    refine x_iconst F.1 (i := 7) rfl ic_2 ?_
    refine gd_e h (fun g1 h => ?_)
    refine x_iald F.1 (i := 8) rfl rfl (inb_e g1) ?_
    refine x_icmp_ge F.1 (i := 9) (tgt := 29) rfl (by decide) (fun c => ?_) (fun c => ?_)
    · replace h := if_T c h
      refine x_iload_n F.1 (i := 19) rfl rfl ?_
      exact x_iretf F (i := 20) rfl rfl h hQ
    · replace h := if_F c h
      refine x_iload_n F.1 (i := 10) rfl rfl ?_
      refine x_aload_n F.1 (i := 11) rfl rfl ?_
      refine x_iload_n F.1 (i := 12) rfl rfl ?_
      refine x_iload_n F.1 (i := 13) rfl rfl ?_
      refine cal_e h (fun r2 M1 e3 h => ?_)
      refine x_cV2i F.1 (i := 14) rfl ml_RM_453 ok_RM_gains rfl (Nat.le_of_ble_eq_true rfl) (Nat.le_of_ble_eq_true rfl) (fun _ => t_RM_gains e3) ?_
      refine x_iadd F.1 (i := 15) rfl ?_
      refine x_istore_n F.1 (i := 16) rfl (Nat.le_of_ble_eq_true rfl) (Nat.le_of_ble_eq_true rfl) rfl ?_
      replace h := bd_e h
      refine x_iinc F.1 (i := 17) rfl rfl rfl (Nat.le_of_ble_eq_true rfl) rfl ?_
      replace h := bd_e h
      refine x_goto F.1 (i := 18) (tgt := 4) rfl (by decide) ?_
      exact x_wk F.1 (ih _ _ _ h) ⟨rfl, rfl, rfl, rfl, trivial⟩
set_option maxHeartbeats 4000000 in
theorem t_RM_allGains {w : kx_W} {d : Nat} {M : kx_M} {Q : Option Value → kx_M → Prop} {p1 : Int32} {r : Int32} {M' : kx_M} (h : f_RM_allGains p1 M = some (r, M')) (hQ : Q (some (.int r)) M') : Ct w (d + 2) m_RM_allGains [.ref 135, .int p1] M Q := by
  refine mk_ct ok_RM_allGains (Nat.le_of_ble_eq_true rfl) (fun G F => ?_)
  rw [f_RM_allGains] at h
  show G 0 [some (.ref 135), some (.int p1), none, none] [] M
  refine x_iconst F.1 (i := 0) rfl ic_0 ?_
  refine x_istore_n F.1 (i := 1) rfl (Nat.le_of_ble_eq_true rfl) (Nat.le_of_ble_eq_true rfl) rfl ?_
  refine x_iconst F.1 (i := 2) rfl ic_0 ?_
  refine x_istore_n F.1 (i := 3) rfl (Nat.le_of_ble_eq_true rfl) (Nat.le_of_ble_eq_true rfl) rfl ?_
  exact x_wk F.1 ((t_RM_allGains_l4 F (res := (r, M')) hQ FU) _ _ _ h) ⟨rfl, rfl, rfl, rfl, trivial⟩
set_option maxHeartbeats 4000000 in
theorem t_RM_bestBargain_l4 {w : kx_W} {d : Nat} {Q : Option Value → kx_M → Prop} {G : Nat → List (Option Value) → List Value → kx_M → Prop} (F : Sd w (d + 3) m_RM_bestBargain Q G) {res : Int32 × kx_M} (hQ : Q (some (.int res.1)) res.2) :
    ∀ (n : Nat) (x1 : Int32) (x2 : Int32) (M : kx_M),
    f_RM_bestBargain_l4 n x1 x2 M = some res → G 4 [some (.ref 135), some (.int x1), some (.int x2)] [] M := by
  intro n
  induction n with
  | zero =>
    intro x1 x2 M h
    exact absurd h (by rw [f_RM_bestBargain_l4]; exact fun z => nomatch z)
  | succ n ih =>
    intro x1 x2 M h
    rw [f_RM_bestBargain_l4] at h
    refine x_iload_n F.1 (i := 4) rfl rfl ?_
    refine x_iconst F.1 (i := 5) rfl ic_1 ?_
    refine x_aload_n F.1 (i := 6) rfl rfl ?_
    refine x_getC F.1 (i := 7) rfl fl_RM_35 rfl (by rfl) ?_
    refine x_iconst F.1 (i := 8) rfl ic_3 ?_
    refine gd_e h (fun g1 h => ?_)
    refine x_iald F.1 (i := 9) rfl rfl (inb_e g1) ?_
    refine x_ishl F.1 (i := 10) rfl ?_
    refine x_icmp_ge F.1 (i := 11) (tgt := 45) rfl (by decide) (fun c => ?_) (fun c => ?_)
    · replace h := if_T c h
      refine x_iload_n F.1 (i := 27) rfl rfl ?_
      exact x_iretf F (i := 28) rfl rfl h hQ
    · replace h := if_F c h
      refine x_aload_n F.1 (i := 12) rfl rfl ?_
      refine x_iload_n F.1 (i := 13) rfl rfl ?_
      refine cal_e h (fun r2 M1 e3 h => ?_)
      refine x_cV1i F.1 (i := 14) rfl ml_RM_456 ok_RM_isFair rfl (Nat.le_of_ble_eq_true rfl) (Nat.le_of_ble_eq_true rfl) (fun _ => t_RM_isFair e3) ?_
      refine x_if_eq F.1 (i := 15) (tgt := 39) rfl (by decide) (fun c => ?_) (fun c => ?_)
      · replace h := if_T c h
        refine x_iinc F.1 (i := 25) rfl rfl rfl (Nat.le_of_ble_eq_true rfl) rfl ?_
        replace h := bd_e h
        refine x_goto F.1 (i := 26) (tgt := 4) rfl (by decide) ?_
        exact x_wk F.1 (ih _ _ _ h) ⟨rfl, rfl, rfl, trivial⟩
      · replace h := if_F c h
        refine x_aload_n F.1 (i := 16) rfl rfl ?_
        refine x_iload_n F.1 (i := 17) rfl rfl ?_
        refine cal_e h (fun r5 M2 e6 h => ?_)
        refine x_cV1i F.1 (i := 18) rfl ml_RM_459 ok_RM_allGains rfl (Nat.le_of_ble_eq_true rfl) (Nat.le_of_ble_eq_true rfl) (fun _ => t_RM_allGains e6) ?_
        refine x_aload_n F.1 (i := 19) rfl rfl ?_
        refine x_iload_n F.1 (i := 20) rfl rfl ?_
        refine cal_e h (fun r7 M3 e8 h => ?_)
        refine x_cV1i F.1 (i := 21) rfl ml_RM_459 ok_RM_allGains rfl (Nat.le_of_ble_eq_true rfl) (Nat.le_of_ble_eq_true rfl) (fun _ => t_RM_allGains e8) ?_
        refine x_icmp_le F.1 (i := 22) (tgt := 39) rfl (by decide) (fun c => ?_) (fun c => ?_)
        · replace h := if_T c h
          refine x_iinc F.1 (i := 25) rfl rfl rfl (Nat.le_of_ble_eq_true rfl) rfl ?_
          replace h := bd_e h
          refine x_goto F.1 (i := 26) (tgt := 4) rfl (by decide) ?_
          exact x_wk F.1 (ih _ _ _ h) ⟨rfl, rfl, rfl, trivial⟩
        · replace h := if_F c h
          refine x_iload_n F.1 (i := 23) rfl rfl ?_
          refine x_istore_n F.1 (i := 24) rfl (Nat.le_of_ble_eq_true rfl) (Nat.le_of_ble_eq_true rfl) rfl ?_
          refine x_iinc F.1 (i := 25) rfl rfl rfl (Nat.le_of_ble_eq_true rfl) rfl ?_
          replace h := bd_e h
          refine x_goto F.1 (i := 26) (tgt := 4) rfl (by decide) ?_
          exact x_wk F.1 (ih _ _ _ h) ⟨rfl, rfl, rfl, trivial⟩
set_option maxHeartbeats 4000000 in
theorem t_RM_bestBargain {w : kx_W} {d : Nat} {M : kx_M} {Q : Option Value → kx_M → Prop} {r : Int32} {M' : kx_M} (h : f_RM_bestBargain M = some (r, M')) (hQ : Q (some (.int r)) M') : Ct w (d + 3) m_RM_bestBargain [.ref 135] M Q := by
  refine mk_ct ok_RM_bestBargain (Nat.le_of_ble_eq_true rfl) (fun G F => ?_)
  rw [f_RM_bestBargain] at h
  show G 0 [some (.ref 135), none, none] [] M
  refine x_iconst F.1 (i := 0) rfl ic_0 ?_
  refine x_istore_n F.1 (i := 1) rfl (Nat.le_of_ble_eq_true rfl) (Nat.le_of_ble_eq_true rfl) rfl ?_
  refine x_iconst F.1 (i := 2) rfl ic_1 ?_
  refine x_istore_n F.1 (i := 3) rfl (Nat.le_of_ble_eq_true rfl) (Nat.le_of_ble_eq_true rfl) rfl ?_
  exact x_wk F.1 ((t_RM_bestBargain_l4 F (res := (r, M')) hQ FU) _ _ _ h) ⟨rfl, rfl, rfl, trivial⟩
set_option maxHeartbeats 4000000 in
theorem t_RM_bargain {w : kx_W} {d : Nat} {M : kx_M} {Q : Option Value → kx_M → Prop} {r : Int32} {M' : kx_M} (h : f_RM_bargain M = some (r, M')) (hQ : Q (some (.int r)) M') : Ct w (d + 4) m_RM_bargain [.ref 135] M Q := by
  refine mk_ct ok_RM_bargain (Nat.le_of_ble_eq_true rfl) (fun G F => ?_)
  rw [f_RM_bargain] at h
  show G 0 [some (.ref 135)] [] M
  refine x_aload_n F.1 (i := 0) rfl rfl ?_
  refine x_iconst F.1 (i := 1) rfl ic_0 ?_
  refine x_putI F.1 (i := 2) rfl fl_RM_68 pf_RM_thrown rfl (by rfl) ?_
  replace h := bd_e h
  refine x_aload_n F.1 (i := 3) rfl rfl ?_
  refine x_iconst F.1 (i := 4) rfl ic_0 ?_
  refine x_putI F.1 (i := 5) rfl fl_RM_71 pf_RM_status rfl (by rfl) ?_
  replace h := bd_e h
  refine x_aload_n F.1 (i := 6) rfl rfl ?_
  refine cal_e h (fun r1 M3 e2 h => ?_)
  refine x_cV0i F.1 (i := 7) rfl ml_RM_462 ok_RM_bestBargain rfl (Nat.le_of_ble_eq_true rfl) (Nat.le_of_ble_eq_true rfl) (fun _ => t_RM_bestBargain e2) ?_
  exact x_iretf F (i := 8) rfl rfl h (res := (r, M')) hQ
set_option maxHeartbeats 4000000 in
theorem t_RM_bargainWorth {w : kx_W} {d : Nat} {M : kx_M} {Q : Option Value → kx_M → Prop} {r : Int32} {M' : kx_M} (h : f_RM_bargainWorth M = some (r, M')) (hQ : Q (some (.int r)) M') : Ct w (d + 4) m_RM_bargainWorth [.ref 135] M Q := by
  refine mk_ct ok_RM_bargainWorth (Nat.le_of_ble_eq_true rfl) (fun G F => ?_)
  rw [f_RM_bargainWorth] at h
  show G 0 [some (.ref 135)] [] M
  refine x_aload_n F.1 (i := 0) rfl rfl ?_
  refine x_iconst F.1 (i := 1) rfl ic_0 ?_
  refine x_putI F.1 (i := 2) rfl fl_RM_68 pf_RM_thrown rfl (by rfl) ?_
  replace h := bd_e h
  refine x_aload_n F.1 (i := 3) rfl rfl ?_
  refine x_iconst F.1 (i := 4) rfl ic_0 ?_
  refine x_putI F.1 (i := 5) rfl fl_RM_71 pf_RM_status rfl (by rfl) ?_
  replace h := bd_e h
  refine x_aload_n F.1 (i := 6) rfl rfl ?_
  refine x_aload_n F.1 (i := 7) rfl rfl ?_
  refine cal_e h (fun r1 M3 e2 h => ?_)
  refine x_cV0i F.1 (i := 8) rfl ml_RM_462 ok_RM_bestBargain rfl (Nat.le_of_ble_eq_true rfl) (Nat.le_of_ble_eq_true rfl) (fun _ => t_RM_bestBargain e2) ?_
  refine cal_e h (fun r3 M4 e4 h => ?_)
  refine x_cV1i F.1 (i := 9) rfl ml_RM_459 ok_RM_allGains rfl (Nat.le_of_ble_eq_true rfl) (Nat.le_of_ble_eq_true rfl) (fun _ => t_RM_allGains e4) ?_
  exact x_iretf F (i := 10) rfl rfl h (res := (r, M')) hQ
set_option maxHeartbeats 4000000 in
theorem t_RM_isStable_l24 {w : kx_W} {d : Nat} {Q : Option Value → kx_M → Prop} {G : Nat → List (Option Value) → List Value → kx_M → Prop} (F : Sd w (d + 3) m_RM_isStable Q G) {p1 : Int32} {k12 : Int32 → kx_M → Option (Int32 × kx_M)} {res : Int32 × kx_M} (hQ : Q (some (.int res.1)) res.2) (hk12 : ∀ (x2 : Int32) (M : kx_M), k12 x2 M = some res → G 12 [some (.ref 135), some (.int p1), some (.int x2), none] [] M) :
    ∀ (n : Nat) (x2 : Int32) (x3 : Int32) (M : kx_M),
    f_RM_isStable_l24 p1 k12 n x2 x3 M = some res → G 24 [some (.ref 135), some (.int p1), some (.int x2), some (.int x3)] [] M := by
  intro n
  induction n with
  | zero =>
    intro x2 x3 M h
    exact absurd h (by rw [f_RM_isStable_l24]; exact fun z => nomatch z)
  | succ n ih =>
    intro x2 x3 M h
    rw [f_RM_isStable_l24] at h
    refine x_iload_n F.1 (i := 16) rfl rfl ?_
    refine x_aload_n F.1 (i := 17) rfl rfl ?_
    refine x_getC F.1 (i := 18) rfl fl_RM_35 rfl (by rfl) ?_
    refine x_iconst F.1 (i := 19) rfl ic_3 ?_
    refine gd_e h (fun g1 h => ?_)
    refine x_iald F.1 (i := 20) rfl rfl (inb_e g1) ?_
    refine x_icmp_ge F.1 (i := 21) (tgt := 59) rfl (by decide) (fun c => ?_) (fun c => ?_)
    · replace h := if_T c h
      refine x_iinc F.1 (i := 35) rfl rfl rfl (Nat.le_of_ble_eq_true rfl) rfl ?_
      replace h := bd_e h
      refine x_goto F.1 (i := 36) (tgt := 12) rfl (by decide) ?_
      exact x_wk F.1 (hk12 _ _ h) ⟨rfl, rfl, rfl, trivial⟩
    · replace h := if_F c h
      refine x_iload_n F.1 (i := 22) rfl rfl ?_
      refine x_iload_n F.1 (i := 23) rfl rfl ?_
      refine cal_e h (fun r3 M1 e4 h => ?_)
      refine x_cS2i F.1 (i := 24) rfl ml_RM_241 ok_RM_has (Nat.le_of_ble_eq_true rfl) (Nat.le_of_ble_eq_true rfl) (fun _ => t_RM_has e4) ?_
      refine x_if_eq F.1 (i := 25) (tgt := 53) rfl (by decide) (fun c => ?_) (fun c => ?_)
      · replace h := if_T c h
        refine x_iinc F.1 (i := 33) rfl rfl rfl (Nat.le_of_ble_eq_true rfl) rfl ?_
        replace h := bd_e h
        refine x_goto F.1 (i := 34) (tgt := 24) rfl (by decide) ?_
        exact x_wk F.1 (ih _ _ _ h) ⟨rfl, rfl, rfl, rfl, trivial⟩
      · replace h := if_F c h
        refine x_aload_n F.1 (i := 26) rfl rfl ?_
        refine x_iload_n F.1 (i := 27) rfl rfl ?_
        refine x_iload_n F.1 (i := 28) rfl rfl ?_
        refine cal_e h (fun r6 M2 e7 h => ?_)
        refine x_cV2i F.1 (i := 29) rfl ml_RM_450 ok_RM_gain rfl (Nat.le_of_ble_eq_true rfl) (Nat.le_of_ble_eq_true rfl) (fun _ => t_RM_gain e7) ?_
        refine x_if_ge F.1 (i := 30) (tgt := 53) rfl (by decide) (fun c => ?_) (fun c => ?_)
        · replace h := if_T c h
          refine x_iinc F.1 (i := 33) rfl rfl rfl (Nat.le_of_ble_eq_true rfl) rfl ?_
          replace h := bd_e h
          refine x_goto F.1 (i := 34) (tgt := 24) rfl (by decide) ?_
          exact x_wk F.1 (ih _ _ _ h) ⟨rfl, rfl, rfl, rfl, trivial⟩
        · replace h := if_F c h
          refine x_iconst F.1 (i := 31) rfl ic_0 ?_
          exact x_zretf F (i := 32) rfl rfl (Or.inl rfl) h hQ
set_option maxHeartbeats 4000000 in
theorem t_RM_isStable_l12 {w : kx_W} {d : Nat} {Q : Option Value → kx_M → Prop} {G : Nat → List (Option Value) → List Value → kx_M → Prop} (F : Sd w (d + 3) m_RM_isStable Q G) {p1 : Int32} {res : Int32 × kx_M} (hQ : Q (some (.int res.1)) res.2) :
    ∀ (n : Nat) (x2 : Int32) (M : kx_M),
    f_RM_isStable_l12 p1 n x2 M = some res → G 12 [some (.ref 135), some (.int p1), some (.int x2), none] [] M := by
  intro n
  induction n with
  | zero =>
    intro x2 M h
    exact absurd h (by rw [f_RM_isStable_l12]; exact fun z => nomatch z)
  | succ n ih =>
    intro x2 M h
    rw [f_RM_isStable_l12] at h
    refine x_iload_n F.1 (i := 8) rfl rfl ?_
    refine x_aload_n F.1 (i := 9) rfl rfl ?_
    refine x_getC F.1 (i := 10) rfl fl_RM_35 rfl (by rfl) ?_
    refine x_iconst F.1 (i := 11) rfl ic_2 ?_
    refine gd_e h (fun g1 h => ?_)
    refine x_iald F.1 (i := 12) rfl rfl (inb_e g1) ?_
    refine x_icmp_ge F.1 (i := 13) (tgt := 65) rfl (by decide) (fun c => ?_) (fun c => ?_)
    · replace h := if_T c h
      refine x_iconst F.1 (i := 37) rfl ic_1 ?_
      exact x_zretf F (i := 38) rfl rfl (Or.inr rfl) h hQ
    · replace h := if_F c h
      refine x_iconst F.1 (i := 14) rfl ic_0 ?_
      refine x_istore_n F.1 (i := 15) rfl (Nat.le_of_ble_eq_true rfl) (Nat.le_of_ble_eq_true rfl) rfl ?_
      exact x_wk F.1 ((t_RM_isStable_l24 F hQ ih FU) _ _ _ h) ⟨rfl, rfl, rfl, rfl, trivial⟩
set_option maxHeartbeats 4000000 in
theorem t_RM_isStable {w : kx_W} {d : Nat} {M : kx_M} {Q : Option Value → kx_M → Prop} {p1 : Int32} {r : Int32} {M' : kx_M} (h : f_RM_isStable p1 M = some (r, M')) (hQ : Q (some (.int r)) M') : Ct w (d + 3) m_RM_isStable [.ref 135, .int p1] M Q := by
  refine mk_ct ok_RM_isStable (Nat.le_of_ble_eq_true rfl) (fun G F => ?_)
  rw [f_RM_isStable] at h
  show G 0 [some (.ref 135), some (.int p1), none, none] [] M
  refine x_aload_n F.1 (i := 0) rfl rfl ?_
  refine x_iload_n F.1 (i := 1) rfl rfl ?_
  refine cal_e h (fun r1 M1 e2 h => ?_)
  refine x_cV1i F.1 (i := 2) rfl ml_RM_456 ok_RM_isFair rfl (Nat.le_of_ble_eq_true rfl) (Nat.le_of_ble_eq_true rfl) (fun _ => t_RM_isFair e2) ?_
  refine x_if_ne F.1 (i := 3) (tgt := 10) rfl (by decide) (fun c => ?_) (fun c => ?_)
  · replace h := if_F c h
    refine x_iconst F.1 (i := 6) rfl ic_0 ?_
    refine x_istore_n F.1 (i := 7) rfl (Nat.le_of_ble_eq_true rfl) (Nat.le_of_ble_eq_true rfl) rfl ?_
    exact x_wk F.1 ((t_RM_isStable_l12 F (res := (r, M')) hQ FU) _ _ h) ⟨rfl, rfl, rfl, trivial⟩
  · replace h := if_T c h
    refine x_iconst F.1 (i := 4) rfl ic_0 ?_
    exact x_zretf F (i := 5) rfl rfl (Or.inl rfl) h (res := (r, M')) hQ
set_option maxHeartbeats 4000000 in
theorem t_RM_stable {w : kx_W} {d : Nat} {M : kx_M} {Q : Option Value → kx_M → Prop} {p1 : Int32} {r : Int32} {M' : kx_M} (h : f_RM_stable p1 M = some (r, M')) (hQ : Q (some (.int r)) M') : Ct w (d + 4) m_RM_stable [.ref 135, .int p1] M Q := by
  refine mk_ct ok_RM_stable (Nat.le_of_ble_eq_true rfl) (fun G F => ?_)
  rw [f_RM_stable] at h
  show G 0 [some (.ref 135), some (.int p1)] [] M
  refine x_aload_n F.1 (i := 0) rfl rfl ?_
  refine x_iconst F.1 (i := 1) rfl ic_0 ?_
  refine x_putI F.1 (i := 2) rfl fl_RM_68 pf_RM_thrown rfl (by rfl) ?_
  replace h := bd_e h
  refine x_aload_n F.1 (i := 3) rfl rfl ?_
  refine x_iconst F.1 (i := 4) rfl ic_0 ?_
  refine x_putI F.1 (i := 5) rfl fl_RM_71 pf_RM_status rfl (by rfl) ?_
  replace h := bd_e h
  refine x_aload_n F.1 (i := 6) rfl rfl ?_
  refine x_iload_n F.1 (i := 7) rfl rfl ?_
  refine cal_e h (fun r1 M3 e2 h => ?_)
  refine x_cV1i F.1 (i := 8) rfl ml_RM_444 ok_RM_areClauses rfl (Nat.le_of_ble_eq_true rfl) (Nat.le_of_ble_eq_true rfl) (fun _ => t_RM_areClauses e2) ?_
  refine x_if_ne F.1 (i := 9) (tgt := 24) rfl (by decide) (fun c => ?_) (fun c => ?_)
  · replace h := if_F c h
    refine x_aload_n F.1 (i := 14) rfl rfl ?_
    refine x_iload_n F.1 (i := 15) rfl rfl ?_
    refine cal_e h (fun r5 M5 e6 h => ?_)
    refine x_cV1i F.1 (i := 16) rfl ml_RM_465 ok_RM_isStable rfl (Nat.le_of_ble_eq_true rfl) (Nat.le_of_ble_eq_true rfl) (fun _ => t_RM_isStable e6) ?_
    refine x_if_eq F.1 (i := 17) (tgt := 36) rfl (by decide) (fun c => ?_) (fun c => ?_)
    · replace h := if_T c h
      refine x_iconst F.1 (i := 20) rfl ic_0 ?_
      exact x_iretf F (i := 21) rfl rfl h (res := (r, M')) hQ
    · replace h := if_F c h
      refine x_iconst F.1 (i := 18) rfl ic_1 ?_
      refine x_goto F.1 (i := 19) (tgt := 37) rfl (by decide) ?_
      exact x_iretf F (i := 21) rfl rfl h (res := (r, M')) hQ
  · replace h := if_T c h
    refine x_aload_n F.1 (i := 10) rfl rfl ?_
    refine x_iconst F.1 (i := 11) rfl ic_5 ?_
    refine cal_e h (fun r3 M4 e4 h => ?_)
    refine x_cV1i F.1 (i := 12) rfl ml_RM_321 ok_RM_refuse rfl (Nat.le_of_ble_eq_true rfl) (Nat.le_of_ble_eq_true rfl) (fun _ => t_RM_refuse e4) ?_
    exact x_iretf F (i := 13) rfl rfl h (res := (r, M')) hQ
set_option maxHeartbeats 4000000 in
theorem t_RM_stables_l14 {w : kx_W} {d : Nat} {Q : Option Value → kx_M → Prop} {G : Nat → List (Option Value) → List Value → kx_M → Prop} (F : Sd w (d + 4) m_RM_stables Q G) {res : Int32 × kx_M} (hQ : Q (some (.int res.1)) res.2) :
    ∀ (n : Nat) (x1 : Int32) (x2 : Int32) (M : kx_M),
    f_RM_stables_l14 n x1 x2 M = some res → G 14 [some (.ref 135), some (.int x1), some (.int x2)] [] M := by
  intro n
  induction n with
  | zero =>
    intro x1 x2 M h
    exact absurd h (by rw [f_RM_stables_l14]; exact fun z => nomatch z)
  | succ n ih =>
    intro x1 x2 M h
    rw [f_RM_stables_l14] at h
    refine x_iload_n F.1 (i := 10) rfl rfl ?_
    refine x_iconst F.1 (i := 11) rfl ic_1 ?_
    refine x_aload_n F.1 (i := 12) rfl rfl ?_
    refine x_getC F.1 (i := 13) rfl fl_RM_35 rfl (by rfl) ?_
    refine x_iconst F.1 (i := 14) rfl ic_3 ?_
    refine gd_e h (fun g1 h => ?_)
    refine x_iald F.1 (i := 15) rfl rfl (inb_e g1) ?_
    refine x_ishl F.1 (i := 16) rfl ?_
    refine x_icmp_ge F.1 (i := 17) (tgt := 48) rfl (by decide) (fun c => ?_) (fun c => ?_)
    · replace h := if_T c h
      refine x_iload_n F.1 (i := 30) rfl rfl ?_
      exact x_iretf F (i := 31) rfl rfl h hQ
    · replace h := if_F c h
      refine x_iload_n F.1 (i := 18) rfl rfl ?_
      refine x_aload_n F.1 (i := 19) rfl rfl ?_
      refine x_iload_n F.1 (i := 20) rfl rfl ?_
      refine cal_e h (fun r2 M1 e3 h => ?_)
      refine x_cV1i F.1 (i := 21) rfl ml_RM_465 ok_RM_isStable rfl (Nat.le_of_ble_eq_true rfl) (Nat.le_of_ble_eq_true rfl) (fun _ => t_RM_isStable e3) ?_
      refine x_if_eq F.1 (i := 22) (tgt := 39) rfl (by decide) (fun c => ?_) (fun c => ?_)
      · replace h := if_T c h
        refine x_iconst F.1 (i := 25) rfl ic_0 ?_
        refine x_iadd F.1 (i := 26) rfl ?_
        refine x_istore_n F.1 (i := 27) rfl (Nat.le_of_ble_eq_true rfl) (Nat.le_of_ble_eq_true rfl) rfl ?_
        replace h := bd_e h
        refine x_iinc F.1 (i := 28) rfl rfl rfl (Nat.le_of_ble_eq_true rfl) rfl ?_
        replace h := bd_e h
        refine x_goto F.1 (i := 29) (tgt := 14) rfl (by decide) ?_
        exact x_wk F.1 (ih _ _ _ h) ⟨rfl, rfl, rfl, trivial⟩
      · replace h := if_F c h
        refine x_iconst F.1 (i := 23) rfl ic_1 ?_
        refine x_goto F.1 (i := 24) (tgt := 40) rfl (by decide) ?_
        refine x_iadd F.1 (i := 26) rfl ?_
        refine x_istore_n F.1 (i := 27) rfl (Nat.le_of_ble_eq_true rfl) (Nat.le_of_ble_eq_true rfl) rfl ?_
        replace h := bd_e h
        refine x_iinc F.1 (i := 28) rfl rfl rfl (Nat.le_of_ble_eq_true rfl) rfl ?_
        replace h := bd_e h
        refine x_goto F.1 (i := 29) (tgt := 14) rfl (by decide) ?_
        exact x_wk F.1 (ih _ _ _ h) ⟨rfl, rfl, rfl, trivial⟩
set_option maxHeartbeats 4000000 in
theorem t_RM_stables {w : kx_W} {d : Nat} {M : kx_M} {Q : Option Value → kx_M → Prop} {r : Int32} {M' : kx_M} (h : f_RM_stables M = some (r, M')) (hQ : Q (some (.int r)) M') : Ct w (d + 4) m_RM_stables [.ref 135] M Q := by
  refine mk_ct ok_RM_stables (Nat.le_of_ble_eq_true rfl) (fun G F => ?_)
  rw [f_RM_stables] at h
  show G 0 [some (.ref 135), none, none] [] M
  refine x_aload_n F.1 (i := 0) rfl rfl ?_
  refine x_iconst F.1 (i := 1) rfl ic_0 ?_
  refine x_putI F.1 (i := 2) rfl fl_RM_68 pf_RM_thrown rfl (by rfl) ?_
  replace h := bd_e h
  refine x_aload_n F.1 (i := 3) rfl rfl ?_
  refine x_iconst F.1 (i := 4) rfl ic_0 ?_
  refine x_putI F.1 (i := 5) rfl fl_RM_71 pf_RM_status rfl (by rfl) ?_
  replace h := bd_e h
  refine x_iconst F.1 (i := 6) rfl ic_0 ?_
  refine x_istore_n F.1 (i := 7) rfl (Nat.le_of_ble_eq_true rfl) (Nat.le_of_ble_eq_true rfl) rfl ?_
  refine x_iconst F.1 (i := 8) rfl ic_0 ?_
  refine x_istore_n F.1 (i := 9) rfl (Nat.le_of_ble_eq_true rfl) (Nat.le_of_ble_eq_true rfl) rfl ?_
  exact x_wk F.1 ((t_RM_stables_l14 F (res := (r, M')) hQ FU) _ _ _ h) ⟨rfl, rfl, rfl, trivial⟩
set_option maxHeartbeats 4000000 in
theorem t_RM_whyNoFill {w : kx_W} {d : Nat} {M : kx_M} {Q : Option Value → kx_M → Prop} {p1 : Int32} {p2 : Int32} {r : Int32} {M' : kx_M} (h : f_RM_whyNoFill p1 p2 M = some (r, M')) (hQ : Q (some (.int r)) M') : Ct w (d + 2) m_RM_whyNoFill [.ref 135, .int p1, .int p2] M Q := by
  refine mk_ct ok_RM_whyNoFill (Nat.le_of_ble_eq_true rfl) (fun G F => ?_)
  rw [f_RM_whyNoFill] at h
  show G 0 [some (.ref 135), some (.int p1), some (.int p2)] [] M
  refine x_aload_n F.1 (i := 0) rfl rfl ?_
  refine x_iload_n F.1 (i := 1) rfl rfl ?_
  refine cal_e h (fun r1 M1 e2 h => ?_)
  refine x_cV1i F.1 (i := 2) rfl ml_RM_342 ok_RM_isTray rfl (Nat.le_of_ble_eq_true rfl) (Nat.le_of_ble_eq_true rfl) (fun _ => t_RM_isTray e2) ?_
  refine x_if_ne F.1 (i := 3) (tgt := 12) rfl (by decide) (fun c => ?_) (fun c => ?_)
  · replace h := if_F c h
    refine x_aload_n F.1 (i := 6) rfl rfl ?_
    refine x_iload_n F.1 (i := 7) rfl rfl ?_
    refine cal_e h (fun r3 M2 e4 h => ?_)
    refine x_cV1i F.1 (i := 8) rfl ml_RM_339 ok_RM_isClauseAt rfl (Nat.le_of_ble_eq_true rfl) (Nat.le_of_ble_eq_true rfl) (fun _ => t_RM_isClauseAt e4) ?_
    refine x_if_eq F.1 (i := 9) (tgt := 29) rfl (by decide) (fun c => ?_) (fun c => ?_)
    · replace h := if_T c h
      refine x_iconst F.1 (i := 15) rfl ic_2 ?_
      exact x_iretf F (i := 16) rfl rfl h (res := (r, M')) hQ
    · replace h := if_F c h
      refine x_aload_n F.1 (i := 10) rfl rfl ?_
      refine x_iload_n F.1 (i := 11) rfl rfl ?_
      refine x_iconst F.1 (i := 12) rfl ic_n1 ?_
      refine cal_e h (fun r5 M3 e6 h => ?_)
      refine x_cV2i F.1 (i := 13) rfl ml_RM_384 ok_RM_whyNoRun rfl (Nat.le_of_ble_eq_true rfl) (Nat.le_of_ble_eq_true rfl) (fun _ => t_RM_whyNoRun e6) ?_
      refine x_goto F.1 (i := 14) (tgt := 30) rfl (by decide) ?_
      exact x_iretf F (i := 16) rfl rfl h (res := (r, M')) hQ
  · replace h := if_T c h
    refine x_iconst F.1 (i := 4) rfl ic_1 ?_
    refine x_goto F.1 (i := 5) (tgt := 30) rfl (by decide) ?_
    exact x_iretf F (i := 16) rfl rfl h (res := (r, M')) hQ
set_option maxHeartbeats 4000000 in
theorem t_RM_reads_l2 {w : kx_W} {d : Nat} {Q : Option Value → kx_M → Prop} {G : Nat → List (Option Value) → List Value → kx_M → Prop} (F : Sd w (d + 1) m_RM_reads Q G) {p1 : Int32} {res : Unit × kx_M} (hQ : Q none res.2) :
    ∀ (n : Nat) (x2 : Int32) (M : kx_M),
    f_RM_reads_l2 p1 n x2 M = some res → G 2 [some (.ref 135), some (.int p1), some (.int x2)] [] M := by
  intro n
  induction n with
  | zero =>
    intro x2 M h
    exact absurd h (by rw [f_RM_reads_l2]; exact fun z => nomatch z)
  | succ n ih =>
    intro x2 M h
    rw [f_RM_reads_l2] at h
    refine x_iload_n F.1 (i := 2) rfl rfl ?_
    refine x_aload_n F.1 (i := 3) rfl rfl ?_
    refine x_getC F.1 (i := 4) rfl fl_RM_35 rfl (by rfl) ?_
    refine x_iconst F.1 (i := 5) rfl ic_0 ?_
    refine gd_e h (fun g1 h => ?_)
    refine x_iald F.1 (i := 6) rfl rfl (inb_e g1) ?_
    refine x_icmp_ge F.1 (i := 7) (tgt := 31) rfl (by decide) (fun c => ?_) (fun c => ?_)
    · replace h := if_T c h
      exact x_vretf F (i := 19) rfl rfl h hQ
    · replace h := if_F c h
      refine x_aload_n F.1 (i := 8) rfl rfl ?_
      refine x_getC F.1 (i := 9) rfl fl_RM_56 rfl (by rfl) ?_
      refine x_iload_n F.1 (i := 10) rfl rfl ?_
      refine x_aload_n F.1 (i := 11) rfl rfl ?_
      refine x_iload_n F.1 (i := 12) rfl rfl ?_
      refine x_iload_n F.1 (i := 13) rfl rfl ?_
      refine cal_e h (fun r2 M1 e3 h => ?_)
      refine x_cV2l F.1 (i := 14) rfl ml_RM_377 ok_RM_numberOf rfl (Nat.le_of_ble_eq_true rfl) (Nat.le_of_ble_eq_true rfl) (fun _ => t_RM_numberOf e3) ?_
      refine x_l2i F.1 (i := 15) rfl ?_
      refine gd_e h (fun g4 h => ?_)
      refine x_iast F.1 (i := 16) rfl rfl (inb_e g4) ?_
      replace h := bd_e h
      refine x_iinc F.1 (i := 17) rfl rfl rfl (Nat.le_of_ble_eq_true rfl) rfl ?_
      replace h := bd_e h
      refine x_goto F.1 (i := 18) (tgt := 2) rfl (by decide) ?_
      exact x_wk F.1 (ih _ _ h) ⟨rfl, rfl, rfl, trivial⟩
set_option maxHeartbeats 4000000 in
theorem t_RM_reads {w : kx_W} {d : Nat} {M : kx_M} {Q : Option Value → kx_M → Prop} {p1 : Int32} {r : Unit} {M' : kx_M} (h : f_RM_reads p1 M = some (r, M')) (hQ : Q none M') : Ct w (d + 1) m_RM_reads [.ref 135, .int p1] M Q := by
  refine mk_ct ok_RM_reads (Nat.le_of_ble_eq_true rfl) (fun G F => ?_)
  rw [f_RM_reads] at h
  show G 0 [some (.ref 135), some (.int p1), none] [] M
  refine x_iconst F.1 (i := 0) rfl ic_0 ?_
  refine x_istore_n F.1 (i := 1) rfl (Nat.le_of_ble_eq_true rfl) (Nat.le_of_ble_eq_true rfl) rfl ?_
  exact x_wk F.1 ((t_RM_reads_l2 F (res := (r, M')) hQ FU) _ _ h) ⟨rfl, rfl, rfl, trivial⟩
set_option maxHeartbeats 4000000 in
theorem t_RM_led_l21 {w : kx_W} {d : Nat} {Q : Option Value → kx_M → Prop} {G : Nat → List (Option Value) → List Value → kx_M → Prop} (F : Sd w (d + 1) m_RM_led Q G) {p1 : Int32} {p2 : Int32} {p3 : Int32} {res : Int32 × kx_M} (hQ : Q (some (.int res.1)) res.2) :
    ∀ (n : Nat) (x4 : Int32) (x5 : Int32) (x6 : Int32) (M : kx_M),
    f_RM_led_l21 p1 p2 p3 n x4 x5 x6 M = some res → G 21 [some (.ref 135), some (.int p1), none, some (.int p3), some (.int x4), some (.int x5), some (.int x6)] [] M := by
  intro n
  induction n with
  | zero =>
    intro x4 x5 x6 M h
    exact absurd h (by rw [f_RM_led_l21]; exact fun z => nomatch z)
  | succ n ih =>
    intro x4 x5 x6 M h
    rw [f_RM_led_l21] at h
    refine x_iload F.1 (i := 15) rfl rfl ?_
    refine x_aload_n F.1 (i := 16) rfl rfl ?_
    refine x_getC F.1 (i := 17) rfl fl_RM_35 rfl (by rfl) ?_
    refine x_bipush F.1 (i := 18) rfl bp_10 ?_
    refine x_iload_n F.1 (i := 19) rfl rfl ?_
    refine x_iadd F.1 (i := 20) rfl ?_
    refine gd_e h (fun g1 h => ?_)
    refine x_iald F.1 (i := 21) rfl rfl (inb_e g1) ?_
    refine x_icmp_ge F.1 (i := 22) (tgt := 100) rfl (by decide) (fun c => ?_) (fun c => ?_)
    · replace h := if_T c h
      refine x_iload F.1 (i := 60) rfl rfl ?_
      exact x_iretf F (i := 61) rfl rfl h hQ
    · replace h := if_F c h
      refine x_iload F.1 (i := 23) rfl rfl ?_
      refine x_iload F.1 (i := 24) rfl rfl ?_
      refine cal_e h (fun r2 M1 e3 h => ?_)
      refine x_cS2i F.1 (i := 25) rfl ml_RM_241 ok_RM_has (Nat.le_of_ble_eq_true rfl) (Nat.le_of_ble_eq_true rfl) (fun _ => t_RM_has e3) ?_
      refine x_if_eq F.1 (i := 26) (tgt := 94) rfl (by decide) (fun c => ?_) (fun c => ?_)
      · replace h := if_T c h
        refine x_iinc F.1 (i := 58) rfl rfl rfl (Nat.le_of_ble_eq_true rfl) rfl ?_
        replace h := bd_e h
        refine x_goto F.1 (i := 59) (tgt := 21) rfl (by decide) ?_
        exact x_wk F.1 (ih _ _ _ _ h) ⟨rfl, rfl, rfl, rfl, rfl, rfl, trivial⟩
      · replace h := if_F c h
        refine x_aload_n F.1 (i := 27) rfl rfl ?_
        refine x_getC F.1 (i := 28) rfl fl_RM_35 rfl (by rfl) ?_
        refine x_bipush F.1 (i := 29) rfl bp_16 ?_
        refine x_iconst F.1 (i := 30) rfl ic_5 ?_
        refine x_iload_n F.1 (i := 31) rfl rfl ?_
        refine x_imul F.1 (i := 32) rfl ?_
        refine x_iadd F.1 (i := 33) rfl ?_
        refine x_iload F.1 (i := 34) rfl rfl ?_
        refine x_iadd F.1 (i := 35) rfl ?_
        refine gd_e h (fun g5 h => ?_)
        refine x_iald F.1 (i := 36) rfl rfl (inb_e g5) ?_
        refine x_iload_n F.1 (i := 37) rfl rfl ?_
        refine x_icmp_eq F.1 (i := 38) (tgt := 66) rfl (by decide) (fun c => ?_) (fun c => ?_)
        · replace h := if_T c h
          refine x_iload F.1 (i := 40) rfl rfl ?_
          refine x_iconst F.1 (i := 41) rfl ic_1 ?_
          refine x_iadd F.1 (i := 42) rfl ?_
          refine x_aload_n F.1 (i := 43) rfl rfl ?_
          refine x_getC F.1 (i := 44) rfl fl_RM_35 rfl (by rfl) ?_
          refine x_bipush F.1 (i := 45) rfl bp_10 ?_
          refine x_iload_n F.1 (i := 46) rfl rfl ?_
          refine x_iadd F.1 (i := 47) rfl ?_
          refine gd_e h (fun g6 h => ?_)
          refine x_iald F.1 (i := 48) rfl rfl (inb_e g6) ?_
          refine x_icmp_ne F.1 (i := 49) (tgt := 85) rfl (by decide) (fun c => ?_) (fun c => ?_)
          · replace h := if_F c h
            refine x_iload F.1 (i := 52) rfl rfl ?_
            refine x_iconst F.1 (i := 53) rfl ic_1 ?_
            refine x_iload F.1 (i := 54) rfl rfl ?_
            refine x_ishl F.1 (i := 55) rfl ?_
            refine x_ior F.1 (i := 56) rfl ?_
            refine x_istore F.1 (i := 57) rfl (Nat.le_of_ble_eq_true rfl) (Nat.le_of_ble_eq_true rfl) rfl ?_
            replace h := bd_e h
            refine x_iinc F.1 (i := 58) rfl rfl rfl (Nat.le_of_ble_eq_true rfl) rfl ?_
            replace h := bd_e h
            refine x_goto F.1 (i := 59) (tgt := 21) rfl (by decide) ?_
            exact x_wk F.1 (ih _ _ _ _ h) ⟨rfl, rfl, rfl, rfl, rfl, rfl, trivial⟩
          · replace h := if_T c h
            refine x_bipush F.1 (i := 50) rfl bp_32 ?_
            exact x_iretf F (i := 51) rfl rfl h hQ
        · replace h := if_F c h
          refine x_goto F.1 (i := 39) (tgt := 94) rfl (by decide) ?_
          refine x_iinc F.1 (i := 58) rfl rfl rfl (Nat.le_of_ble_eq_true rfl) rfl ?_
          replace h := bd_e h
          refine x_goto F.1 (i := 59) (tgt := 21) rfl (by decide) ?_
          exact x_wk F.1 (ih _ _ _ _ h) ⟨rfl, rfl, rfl, rfl, rfl, rfl, trivial⟩
set_option maxHeartbeats 4000000 in
theorem t_RM_led {w : kx_W} {d : Nat} {M : kx_M} {Q : Option Value → kx_M → Prop} {p1 : Int32} {p2 : Int32} {p3 : Int32} {r : Int32} {M' : kx_M} (h : f_RM_led p1 p2 p3 M = some (r, M')) (hQ : Q (some (.int r)) M') : Ct w (d + 1) m_RM_led [.ref 135, .int p1, .int p2, .int p3] M Q := by
  refine mk_ct ok_RM_led (Nat.le_of_ble_eq_true rfl) (fun G F => ?_)
  rw [f_RM_led] at h
  show G 0 [some (.ref 135), some (.int p1), some (.int p2), some (.int p3), none, none, none] [] M
  refine x_iload_n F.1 (i := 0) rfl rfl ?_
  refine x_bipush F.1 (i := 1) rfl bp_32 ?_
  refine x_icmp_ne F.1 (i := 2) (tgt := 8) rfl (by decide) (fun c => ?_) (fun c => ?_)
  · replace h := if_F c h
    refine x_iload_n F.1 (i := 5) rfl rfl ?_
    refine x_iconst F.1 (i := 6) rfl ic_1 ?_
    refine x_ishl F.1 (i := 7) rfl ?_
    refine x_iconst F.1 (i := 8) rfl ic_1 ?_
    refine x_ior F.1 (i := 9) rfl ?_
    refine x_istore F.1 (i := 10) rfl (Nat.le_of_ble_eq_true rfl) (Nat.le_of_ble_eq_true rfl) rfl ?_
    replace h := bd_e h
    refine x_iconst F.1 (i := 11) rfl ic_0 ?_
    refine x_istore F.1 (i := 12) rfl (Nat.le_of_ble_eq_true rfl) (Nat.le_of_ble_eq_true rfl) rfl ?_
    refine x_iconst F.1 (i := 13) rfl ic_0 ?_
    refine x_istore F.1 (i := 14) rfl (Nat.le_of_ble_eq_true rfl) (Nat.le_of_ble_eq_true rfl) rfl ?_
    exact x_wk F.1 ((t_RM_led_l21 F (res := (r, M')) hQ FU) _ _ _ _ h) ⟨rfl, rfl, rfl, rfl, rfl, rfl, trivial⟩
  · replace h := if_T c h
    refine x_iload_n F.1 (i := 3) rfl rfl ?_
    exact x_iretf F (i := 4) rfl rfl h (res := (r, M')) hQ
set_option maxHeartbeats 4000000 in
theorem t_RM_filling_l144 {w : kx_W} {d : Nat} {Q : Option Value → kx_M → Prop} {G : Nat → List (Option Value) → List Value → kx_M → Prop} (F : Sd w (d + 2) m_RM_filling Q G) {p1 : Int32} {k31 : Int32 → kx_M → Option (Int32 × kx_M)} {res : Int32 × kx_M} (hQ : Q (some (.int res.1)) res.2) (hk31 : ∀ (x2 : Int32) (M : kx_M), k31 x2 M = some res → G 31 [some (.ref 135), some (.int p1), some (.int x2), none, none] [] M) :
    ∀ (n : Nat) (x2 : Int32) (x3 : Int32) (M : kx_M),
    f_RM_filling_l144 p1 k31 n x2 x3 M = some res → G 144 [some (.ref 135), some (.int p1), some (.int x2), some (.int x3), none] [] M := by
  intro n
  induction n with
  | zero =>
    intro x2 x3 M h
    exact absurd h (by rw [f_RM_filling_l144]; exact fun z => nomatch z)
  | succ n ih =>
    intro x2 x3 M h
    rw [f_RM_filling_l144] at h
    refine x_iload_n F.1 (i := 83) rfl rfl ?_
    refine x_bipush F.1 (i := 84) rfl bp_33 ?_
    refine x_icmp_ge F.1 (i := 85) (tgt := 168) rfl (by decide) (fun c => ?_) (fun c => ?_)
    · replace h := if_T c h
      refine x_iinc F.1 (i := 96) rfl rfl rfl (Nat.le_of_ble_eq_true rfl) rfl ?_
      replace h := bd_e h
      refine x_goto F.1 (i := 97) (tgt := 31) rfl (by decide) ?_
      exact x_wk F.1 (hk31 _ _ h) ⟨rfl, rfl, rfl, trivial⟩
    · replace h := if_F c h
      refine x_aload_n F.1 (i := 86) rfl rfl ?_
      refine x_getC F.1 (i := 87) rfl fl_RM_59 rfl (by rfl) ?_
      refine x_iload_n F.1 (i := 88) rfl rfl ?_
      refine x_aload_n F.1 (i := 89) rfl rfl ?_
      refine x_getC F.1 (i := 90) rfl fl_RM_62 rfl (by rfl) ?_
      refine x_iload_n F.1 (i := 91) rfl rfl ?_
      refine gd_e h (fun g2 h => ?_)
      refine x_iald F.1 (i := 92) rfl rfl (inb_e g2) ?_
      refine gd_e h (fun g3 h => ?_)
      refine x_iast F.1 (i := 93) rfl rfl (inb_e g3) ?_
      replace h := bd_e h
      refine x_iinc F.1 (i := 94) rfl rfl rfl (Nat.le_of_ble_eq_true rfl) rfl ?_
      replace h := bd_e h
      refine x_goto F.1 (i := 95) (tgt := 144) rfl (by decide) ?_
      exact x_wk F.1 (ih _ _ _ h) ⟨rfl, rfl, rfl, rfl, trivial⟩
set_option maxHeartbeats 4000000 in
theorem t_RM_filling_l108 {w : kx_W} {d : Nat} {Q : Option Value → kx_M → Prop} {G : Nat → List (Option Value) → List Value → kx_M → Prop} (F : Sd w (d + 2) m_RM_filling Q G) {p1 : Int32} {k73 : Int32 → Int32 → Int32 → kx_M → Option (Int32 × kx_M)} {res : Int32 × kx_M} (hQ : Q (some (.int res.1)) res.2) (hk73 : ∀ (x2 : Int32) (x3 : Int32) (x4 : Int32) (M : kx_M), k73 x2 x3 x4 M = some res → G 73 [some (.ref 135), some (.int p1), some (.int x2), some (.int x3), some (.int x4)] [] M) :
    ∀ (x2 : Int32) (x3 : Int32) (x4 : Int32) (M : kx_M),
    f_RM_filling_l108 p1 k73 x2 x3 x4 M = some res → G 108 [some (.ref 135), some (.int p1), some (.int x2), some (.int x3), some (.int x4)] [] M := by
  intro x2 x3 x4 M h
  rw [f_RM_filling_l108] at h
  refine x_aload_n F.1 (i := 62) rfl rfl ?_
  refine x_getC F.1 (i := 63) rfl fl_RM_62 rfl (by rfl) ?_
  refine x_aload_n F.1 (i := 64) rfl rfl ?_
  refine x_iload_n F.1 (i := 65) rfl rfl ?_
  refine x_iload_n F.1 (i := 66) rfl rfl ?_
  refine x_iload F.1 (i := 67) rfl rfl ?_
  refine cal_e h (fun r1 M1 e2 h => ?_)
  refine x_cV3i F.1 (i := 68) rfl ml_RM_468 ok_RM_led rfl (Nat.le_of_ble_eq_true rfl) (Nat.le_of_ble_eq_true rfl) (fun _ => t_RM_led e2) ?_
  refine x_dup2 F.1 (i := 69) rfl rfl rfl ?_
  refine gd_e h (fun g3 h => ?_)
  refine x_iald F.1 (i := 70) rfl rfl (inb_e g3) ?_
  refine x_aload_n F.1 (i := 71) rfl rfl ?_
  refine x_getC F.1 (i := 72) rfl fl_RM_59 rfl (by rfl) ?_
  refine x_iload_n F.1 (i := 73) rfl rfl ?_
  refine gd_e h (fun g4 h => ?_)
  refine x_iald F.1 (i := 74) rfl rfl (inb_e g4) ?_
  refine x_iadd F.1 (i := 75) rfl ?_
  refine gd_e h (fun g5 h => ?_)
  refine x_iast F.1 (i := 76) rfl rfl (inb_e g5) ?_
  replace h := bd_e h
  refine x_iinc F.1 (i := 77) rfl rfl rfl (Nat.le_of_ble_eq_true rfl) rfl ?_
  replace h := bd_e h
  refine x_goto F.1 (i := 78) (tgt := 73) rfl (by decide) ?_
  exact x_wk F.1 (hk73 _ _ _ _ h) ⟨rfl, rfl, rfl, rfl, rfl, trivial⟩
set_option maxHeartbeats 4000000 in
theorem t_RM_filling_l73 {w : kx_W} {d : Nat} {Q : Option Value → kx_M → Prop} {G : Nat → List (Option Value) → List Value → kx_M → Prop} (F : Sd w (d + 2) m_RM_filling Q G) {p1 : Int32} {k64 : Int32 → Int32 → kx_M → Option (Int32 × kx_M)} {res : Int32 × kx_M} (hQ : Q (some (.int res.1)) res.2) (hk64 : ∀ (x2 : Int32) (x3 : Int32) (M : kx_M), k64 x2 x3 M = some res → G 64 [some (.ref 135), some (.int p1), some (.int x2), some (.int x3), none] [] M) :
    ∀ (n : Nat) (x2 : Int32) (x3 : Int32) (x4 : Int32) (M : kx_M),
    f_RM_filling_l73 p1 k64 n x2 x3 x4 M = some res → G 73 [some (.ref 135), some (.int p1), some (.int x2), some (.int x3), some (.int x4)] [] M := by
  intro n
  induction n with
  | zero =>
    intro x2 x3 x4 M h
    exact absurd h (by rw [f_RM_filling_l73]; exact fun z => nomatch z)
  | succ n ih =>
    intro x2 x3 x4 M h
    rw [f_RM_filling_l73] at h
    refine x_iload F.1 (i := 43) rfl rfl ?_
    refine x_iconst F.1 (i := 44) rfl ic_4 ?_
    refine x_icmp_ge F.1 (i := 45) (tgt := 136) rfl (by decide) (fun c => ?_) (fun c => ?_)
    · replace h := if_T c h
      refine x_iinc F.1 (i := 79) rfl rfl rfl (Nat.le_of_ble_eq_true rfl) rfl ?_
      replace h := bd_e h
      refine x_goto F.1 (i := 80) (tgt := 64) rfl (by decide) ?_
      exact x_wk F.1 (hk64 _ _ _ h) ⟨rfl, rfl, rfl, rfl, trivial⟩
    · replace h := if_F c h
      refine x_aload_n F.1 (i := 46) rfl rfl ?_
      refine x_getC F.1 (i := 47) rfl fl_RM_59 rfl (by rfl) ?_
      refine x_iload_n F.1 (i := 48) rfl rfl ?_
      refine gd_e h (fun g2 h => ?_)
      refine x_iald F.1 (i := 49) rfl rfl (inb_e g2) ?_
      refine x_if_le F.1 (i := 50) (tgt := 136) rfl (by decide) (fun c => ?_) (fun c => ?_)
      · replace h := if_T c h
        refine x_iinc F.1 (i := 79) rfl rfl rfl (Nat.le_of_ble_eq_true rfl) rfl ?_
        replace h := bd_e h
        refine x_goto F.1 (i := 80) (tgt := 64) rfl (by decide) ?_
        exact x_wk F.1 (hk64 _ _ _ h) ⟨rfl, rfl, rfl, rfl, trivial⟩
      · replace h := if_F c h
        refine x_aload_n F.1 (i := 51) rfl rfl ?_
        refine x_getC F.1 (i := 52) rfl fl_RM_56 rfl (by rfl) ?_
        refine x_iload_n F.1 (i := 53) rfl rfl ?_
        refine gd_e h (fun g4 h => ?_)
        refine x_iald F.1 (i := 54) rfl rfl (inb_e g4) ?_
        refine x_if_lt F.1 (i := 55) (tgt := 108) rfl (by decide) (fun c => ?_) (fun c => ?_)
        · replace h := if_T c h
          exact x_wk F.1 ((t_RM_filling_l108 F hQ ih) _ _ _ _ h) ⟨rfl, rfl, rfl, rfl, rfl, trivial⟩
        · replace h := if_F c h
          refine x_aload_n F.1 (i := 56) rfl rfl ?_
          refine x_getC F.1 (i := 57) rfl fl_RM_56 rfl (by rfl) ?_
          refine x_iload_n F.1 (i := 58) rfl rfl ?_
          refine gd_e h (fun g5 h => ?_)
          refine x_iald F.1 (i := 59) rfl rfl (inb_e g5) ?_
          refine x_iload F.1 (i := 60) rfl rfl ?_
          refine x_icmp_ne F.1 (i := 61) (tgt := 130) rfl (by decide) (fun c => ?_) (fun c => ?_)
          · replace h := if_F c h
            refine x_iinc F.1 (i := 77) rfl rfl rfl (Nat.le_of_ble_eq_true rfl) rfl ?_
            replace h := bd_e h
            refine x_goto F.1 (i := 78) (tgt := 73) rfl (by decide) ?_
            exact x_wk F.1 (ih _ _ _ _ h) ⟨rfl, rfl, rfl, rfl, rfl, trivial⟩
          · replace h := if_T c h
            exact x_wk F.1 ((t_RM_filling_l108 F hQ ih) _ _ _ _ h) ⟨rfl, rfl, rfl, rfl, rfl, trivial⟩
set_option maxHeartbeats 4000000 in
theorem t_RM_filling_l64 {w : kx_W} {d : Nat} {Q : Option Value → kx_M → Prop} {G : Nat → List (Option Value) → List Value → kx_M → Prop} (F : Sd w (d + 2) m_RM_filling Q G) {p1 : Int32} {k31 : Int32 → kx_M → Option (Int32 × kx_M)} {res : Int32 × kx_M} (hQ : Q (some (.int res.1)) res.2) (hk31 : ∀ (x2 : Int32) (M : kx_M), k31 x2 M = some res → G 31 [some (.ref 135), some (.int p1), some (.int x2), none, none] [] M) :
    ∀ (n : Nat) (x2 : Int32) (x3 : Int32) (M : kx_M),
    f_RM_filling_l64 p1 k31 n x2 x3 M = some res → G 64 [some (.ref 135), some (.int p1), some (.int x2), some (.int x3), none] [] M := by
  intro n
  induction n with
  | zero =>
    intro x2 x3 M h
    exact absurd h (by rw [f_RM_filling_l64]; exact fun z => nomatch z)
  | succ n ih =>
    intro x2 x3 M h
    rw [f_RM_filling_l64] at h
    refine x_iload_n F.1 (i := 38) rfl rfl ?_
    refine x_bipush F.1 (i := 39) rfl bp_33 ?_
    refine x_icmp_ge F.1 (i := 40) (tgt := 142) rfl (by decide) (fun c => ?_) (fun c => ?_)
    · replace h := if_T c h
      refine x_iconst F.1 (i := 81) rfl ic_0 ?_
      refine x_istore_n F.1 (i := 82) rfl (Nat.le_of_ble_eq_true rfl) (Nat.le_of_ble_eq_true rfl) rfl ?_
      exact x_wk F.1 ((t_RM_filling_l144 F hQ hk31 FU) _ _ _ h) ⟨rfl, rfl, rfl, rfl, trivial⟩
    · replace h := if_F c h
      refine x_iconst F.1 (i := 41) rfl ic_0 ?_
      refine x_istore F.1 (i := 42) rfl (Nat.le_of_ble_eq_true rfl) (Nat.le_of_ble_eq_true rfl) rfl ?_
      exact x_wk F.1 ((t_RM_filling_l73 F hQ ih FU) _ _ _ _ h) ⟨rfl, rfl, rfl, rfl, rfl, trivial⟩
set_option maxHeartbeats 4000000 in
theorem t_RM_filling_l43 {w : kx_W} {d : Nat} {Q : Option Value → kx_M → Prop} {G : Nat → List (Option Value) → List Value → kx_M → Prop} (F : Sd w (d + 2) m_RM_filling Q G) {p1 : Int32} {k31 : Int32 → kx_M → Option (Int32 × kx_M)} {res : Int32 × kx_M} (hQ : Q (some (.int res.1)) res.2) (hk31 : ∀ (x2 : Int32) (M : kx_M), k31 x2 M = some res → G 31 [some (.ref 135), some (.int p1), some (.int x2), none, none] [] M) :
    ∀ (n : Nat) (x2 : Int32) (x3 : Int32) (M : kx_M),
    f_RM_filling_l43 p1 k31 n x2 x3 M = some res → G 43 [some (.ref 135), some (.int p1), some (.int x2), some (.int x3), none] [] M := by
  intro n
  induction n with
  | zero =>
    intro x2 x3 M h
    exact absurd h (by rw [f_RM_filling_l43]; exact fun z => nomatch z)
  | succ n ih =>
    intro x2 x3 M h
    rw [f_RM_filling_l43] at h
    refine x_iload_n F.1 (i := 26) rfl rfl ?_
    refine x_bipush F.1 (i := 27) rfl bp_33 ?_
    refine x_icmp_ge F.1 (i := 28) (tgt := 62) rfl (by decide) (fun c => ?_) (fun c => ?_)
    · replace h := if_T c h
      refine x_iconst F.1 (i := 36) rfl ic_0 ?_
      refine x_istore_n F.1 (i := 37) rfl (Nat.le_of_ble_eq_true rfl) (Nat.le_of_ble_eq_true rfl) rfl ?_
      exact x_wk F.1 ((t_RM_filling_l64 F hQ hk31 FU) _ _ _ h) ⟨rfl, rfl, rfl, rfl, trivial⟩
    · replace h := if_F c h
      refine x_aload_n F.1 (i := 29) rfl rfl ?_
      refine x_getC F.1 (i := 30) rfl fl_RM_62 rfl (by rfl) ?_
      refine x_iload_n F.1 (i := 31) rfl rfl ?_
      refine x_iconst F.1 (i := 32) rfl ic_0 ?_
      refine gd_e h (fun g1 h => ?_)
      refine x_iast F.1 (i := 33) rfl rfl (inb_e g1) ?_
      replace h := bd_e h
      refine x_iinc F.1 (i := 34) rfl rfl rfl (Nat.le_of_ble_eq_true rfl) rfl ?_
      replace h := bd_e h
      refine x_goto F.1 (i := 35) (tgt := 43) rfl (by decide) ?_
      exact x_wk F.1 (ih _ _ _ h) ⟨rfl, rfl, rfl, rfl, trivial⟩
set_option maxHeartbeats 4000000 in
theorem t_RM_filling_l31 {w : kx_W} {d : Nat} {Q : Option Value → kx_M → Prop} {G : Nat → List (Option Value) → List Value → kx_M → Prop} (F : Sd w (d + 2) m_RM_filling Q G) {p1 : Int32} {res : Int32 × kx_M} (hQ : Q (some (.int res.1)) res.2) :
    ∀ (n : Nat) (x2 : Int32) (M : kx_M),
    f_RM_filling_l31 p1 n x2 M = some res → G 31 [some (.ref 135), some (.int p1), some (.int x2), none, none] [] M := by
  intro n
  induction n with
  | zero =>
    intro x2 M h
    exact absurd h (by rw [f_RM_filling_l31]; exact fun z => nomatch z)
  | succ n ih =>
    intro x2 M h
    rw [f_RM_filling_l31] at h
    refine x_iload_n F.1 (i := 18) rfl rfl ?_
    refine x_aload_n F.1 (i := 19) rfl rfl ?_
    refine x_getC F.1 (i := 20) rfl fl_RM_35 rfl (by rfl) ?_
    refine x_iconst F.1 (i := 21) rfl ic_0 ?_
    refine gd_e h (fun g1 h => ?_)
    refine x_iald F.1 (i := 22) rfl rfl (inb_e g1) ?_
    refine x_icmp_ge F.1 (i := 23) (tgt := 174) rfl (by decide) (fun c => ?_) (fun c => ?_)
    · replace h := if_T c h
      refine x_aload_n F.1 (i := 98) rfl rfl ?_
      refine x_getC F.1 (i := 99) rfl fl_RM_59 rfl (by rfl) ?_
      refine x_bipush F.1 (i := 100) rfl bp_32 ?_
      refine gd_e h (fun g2 h => ?_)
      refine x_iald F.1 (i := 101) rfl rfl (inb_e g2) ?_
      exact x_iretf F (i := 102) rfl rfl h hQ
    · replace h := if_F c h
      refine x_iconst F.1 (i := 24) rfl ic_0 ?_
      refine x_istore_n F.1 (i := 25) rfl (Nat.le_of_ble_eq_true rfl) (Nat.le_of_ble_eq_true rfl) rfl ?_
      exact x_wk F.1 ((t_RM_filling_l43 F hQ ih FU) _ _ _ h) ⟨rfl, rfl, rfl, rfl, trivial⟩
set_option maxHeartbeats 4000000 in
theorem t_RM_filling_l2 {w : kx_W} {d : Nat} {Q : Option Value → kx_M → Prop} {G : Nat → List (Option Value) → List Value → kx_M → Prop} (F : Sd w (d + 2) m_RM_filling Q G) {p1 : Int32} {res : Int32 × kx_M} (hQ : Q (some (.int res.1)) res.2) :
    ∀ (n : Nat) (x2 : Int32) (M : kx_M),
    f_RM_filling_l2 p1 n x2 M = some res → G 2 [some (.ref 135), some (.int p1), some (.int x2), none, none] [] M := by
  intro n
  induction n with
  | zero =>
    intro x2 M h
    exact absurd h (by rw [f_RM_filling_l2]; exact fun z => nomatch z)
  | succ n ih =>
    intro x2 M h
    rw [f_RM_filling_l2] at h
    refine x_iload_n F.1 (i := 2) rfl rfl ?_
    refine x_bipush F.1 (i := 3) rfl bp_33 ?_
    refine x_icmp_ge F.1 (i := 4) (tgt := 29) rfl (by decide) (fun c => ?_) (fun c => ?_)
    · replace h := if_T c h
      refine x_iconst F.1 (i := 16) rfl ic_0 ?_
      refine x_istore_n F.1 (i := 17) rfl (Nat.le_of_ble_eq_true rfl) (Nat.le_of_ble_eq_true rfl) rfl ?_
      exact x_wk F.1 ((t_RM_filling_l31 F hQ FU) _ _ h) ⟨rfl, rfl, rfl, trivial⟩
    · replace h := if_F c h
      refine x_aload_n F.1 (i := 5) rfl rfl ?_
      refine x_getC F.1 (i := 6) rfl fl_RM_59 rfl (by rfl) ?_
      refine x_iload_n F.1 (i := 7) rfl rfl ?_
      refine x_iload_n F.1 (i := 8) rfl rfl ?_
      refine x_if_ne F.1 (i := 9) (tgt := 21) rfl (by decide) (fun c => ?_) (fun c => ?_)
      · replace h := if_F c h
        refine x_iconst F.1 (i := 12) rfl ic_0 ?_
        refine gd_e h (fun g3 h => ?_)
        refine x_iast F.1 (i := 13) rfl rfl (inb_e g3) ?_
        replace h := bd_e h
        refine x_iinc F.1 (i := 14) rfl rfl rfl (Nat.le_of_ble_eq_true rfl) rfl ?_
        replace h := bd_e h
        refine x_goto F.1 (i := 15) (tgt := 2) rfl (by decide) ?_
        exact x_wk F.1 (ih _ _ h) ⟨rfl, rfl, rfl, trivial⟩
      · replace h := if_T c h
        refine x_iconst F.1 (i := 10) rfl ic_1 ?_
        refine x_goto F.1 (i := 11) (tgt := 22) rfl (by decide) ?_
        refine gd_e h (fun g1 h => ?_)
        refine x_iast F.1 (i := 13) rfl rfl (inb_e g1) ?_
        replace h := bd_e h
        refine x_iinc F.1 (i := 14) rfl rfl rfl (Nat.le_of_ble_eq_true rfl) rfl ?_
        replace h := bd_e h
        refine x_goto F.1 (i := 15) (tgt := 2) rfl (by decide) ?_
        exact x_wk F.1 (ih _ _ h) ⟨rfl, rfl, rfl, trivial⟩
set_option maxHeartbeats 4000000 in
theorem t_RM_filling {w : kx_W} {d : Nat} {M : kx_M} {Q : Option Value → kx_M → Prop} {p1 : Int32} {r : Int32} {M' : kx_M} (h : f_RM_filling p1 M = some (r, M')) (hQ : Q (some (.int r)) M') : Ct w (d + 2) m_RM_filling [.ref 135, .int p1] M Q := by
  refine mk_ct ok_RM_filling (Nat.le_of_ble_eq_true rfl) (fun G F => ?_)
  rw [f_RM_filling] at h
  show G 0 [some (.ref 135), some (.int p1), none, none, none] [] M
  refine x_iconst F.1 (i := 0) rfl ic_0 ?_
  refine x_istore_n F.1 (i := 1) rfl (Nat.le_of_ble_eq_true rfl) (Nat.le_of_ble_eq_true rfl) rfl ?_
  exact x_wk F.1 ((t_RM_filling_l2 F (res := (r, M')) hQ FU) _ _ h) ⟨rfl, rfl, rfl, trivial⟩
set_option maxHeartbeats 4000000 in
theorem t_RM_fills {w : kx_W} {d : Nat} {M : kx_M} {Q : Option Value → kx_M → Prop} {p1 : Int32} {p2 : Int32} {r : Int32} {M' : kx_M} (h : f_RM_fills p1 p2 M = some (r, M')) (hQ : Q (some (.int r)) M') : Ct w (d + 3) m_RM_fills [.ref 135, .int p1, .int p2] M Q := by
  refine mk_ct ok_RM_fills (Nat.le_of_ble_eq_true rfl) (fun G F => ?_)
  rw [f_RM_fills] at h
  show G 0 [some (.ref 135), some (.int p1), some (.int p2)] [] M
  refine x_aload_n F.1 (i := 0) rfl rfl ?_
  refine x_iconst F.1 (i := 1) rfl ic_0 ?_
  refine x_putI F.1 (i := 2) rfl fl_RM_68 pf_RM_thrown rfl (by rfl) ?_
  replace h := bd_e h
  refine x_aload_n F.1 (i := 3) rfl rfl ?_
  refine x_aload_n F.1 (i := 4) rfl rfl ?_
  refine x_iload_n F.1 (i := 5) rfl rfl ?_
  refine x_iload_n F.1 (i := 6) rfl rfl ?_
  refine cal_e h (fun r1 M2 e2 h => ?_)
  refine x_cV2i F.1 (i := 7) rfl ml_RM_474 ok_RM_whyNoFill rfl (Nat.le_of_ble_eq_true rfl) (Nat.le_of_ble_eq_true rfl) (fun _ => t_RM_whyNoFill e2) ?_
  refine x_putI F.1 (i := 8) rfl fl_RM_71 pf_RM_status rfl (by rfl) ?_
  replace h := bd_e h
  refine x_aload_n F.1 (i := 9) rfl rfl ?_
  refine x_getI F.1 (i := 10) rfl fl_RM_71 rfl (by rfl) ?_
  refine x_if_le F.1 (i := 11) (tgt := 24) rfl (by decide) (fun c => ?_) (fun c => ?_)
  · replace h := if_T c h
    refine x_aload_n F.1 (i := 14) rfl rfl ?_
    refine x_iload_n F.1 (i := 15) rfl rfl ?_
    refine cal_e h (fun r3 M4 e4 h => ?_)
    refine x_cV1v F.1 (i := 16) rfl ml_RM_477 ok_RM_reads rfl (Nat.le_of_ble_eq_true rfl) (Nat.le_of_ble_eq_true rfl) (fun _ => t_RM_reads e4) ?_
    refine x_aload_n F.1 (i := 17) rfl rfl ?_
    refine x_iload_n F.1 (i := 18) rfl rfl ?_
    refine cal_e h (fun r5 M5 e6 h => ?_)
    refine x_cV1i F.1 (i := 19) rfl ml_RM_471 ok_RM_filling rfl (Nat.le_of_ble_eq_true rfl) (Nat.le_of_ble_eq_true rfl) (fun _ => t_RM_filling e6) ?_
    exact x_iretf F (i := 20) rfl rfl h (res := (r, M')) hQ
  · replace h := if_F c h
    refine x_iconst F.1 (i := 12) rfl ic_n1 ?_
    exact x_iretf F (i := 13) rfl rfl h (res := (r, M')) hQ
set_option maxHeartbeats 4000000 in
theorem t_RM_fraction_l9 {w : kx_W} {d : Nat} {Q : Option Value → kx_M → Prop} {G : Nat → List (Option Value) → List Value → kx_M → Prop} (F : Sd w (d + 1) m_RM_fraction Q G) {p1 : Int64} {p3 : Int64} {res : Int32 × kx_M} (hQ : Q (some (.int res.1)) res.2) :
    ∀ (n : Nat) (x5 : Int64) (x7 : Int64) (M : kx_M),
    f_RM_fraction_l9 p1 p3 n x5 x7 M = some res → G 9 [some (.ref 135), some (.long p1), none, some (.long p3), none, some (.long x5), none, some (.long x7), none, none, none] [] M := by
  intro n
  induction n with
  | zero =>
    intro x5 x7 M h
    exact absurd h (by rw [f_RM_fraction_l9]; exact fun z => nomatch z)
  | succ n ih =>
    intro x5 x7 M h
    rw [f_RM_fraction_l9] at h
    refine x_lload F.1 (i := 5) rfl rfl ?_
    refine x_lconst F.1 (i := 6) (v := 0) rfl rfl ?_
    refine x_lcmp F.1 (i := 7) rfl ?_
    refine x_if_eq F.1 (i := 8) (tgt := 34) rfl (by decide) (fun c => ?_) (fun c => ?_)
    · replace h := if_T c h
      refine x_aload_n F.1 (i := 18) rfl rfl ?_
      refine x_lload_n F.1 (i := 19) rfl rfl ?_
      refine x_lload F.1 (i := 20) rfl rfl ?_
      refine gd_e h (fun g1 h => ?_)
      refine x_ldiv F.1 (i := 21) rfl (nzJ_e g1) ?_
      refine x_putJ F.1 (i := 22) rfl fl_RM_74 pf_RM_above rfl (by rfl) ?_
      replace h := bd_e h
      refine x_aload_n F.1 (i := 23) rfl rfl ?_
      refine x_lload_n F.1 (i := 24) rfl rfl ?_
      refine x_lload F.1 (i := 25) rfl rfl ?_
      refine gd_e h (fun g2 h => ?_)
      refine x_ldiv F.1 (i := 26) rfl (nzJ_e g2) ?_
      refine x_putJ F.1 (i := 27) rfl fl_RM_7 pf_RM_under rfl (by rfl) ?_
      replace h := bd_e h
      refine x_iconst F.1 (i := 28) rfl ic_1 ?_
      exact x_zretf F (i := 29) rfl rfl (Or.inr rfl) h hQ
    · replace h := if_F c h
      refine x_lload F.1 (i := 9) rfl rfl ?_
      refine x_lload F.1 (i := 10) rfl rfl ?_
      refine gd_e h (fun g3 h => ?_)
      refine x_lrem F.1 (i := 11) rfl (nzJ_e g3) ?_
      refine x_lstore F.1 (i := 12) rfl (Nat.le_of_ble_eq_true rfl) (Nat.le_of_ble_eq_true rfl) rfl ?_
      replace h := bd_e h
      refine x_lload F.1 (i := 13) rfl rfl ?_
      refine x_lstore F.1 (i := 14) rfl (Nat.le_of_ble_eq_true rfl) (Nat.le_of_ble_eq_true rfl) rfl ?_
      refine x_lload F.1 (i := 15) rfl rfl ?_
      refine x_lstore F.1 (i := 16) rfl (Nat.le_of_ble_eq_true rfl) (Nat.le_of_ble_eq_true rfl) rfl ?_
      refine x_goto F.1 (i := 17) (tgt := 9) rfl (by decide) ?_
      exact x_wk F.1 (ih _ _ _ h) ⟨rfl, rfl, rfl, rfl, rfl, trivial⟩
set_option maxHeartbeats 4000000 in
theorem t_RM_fraction {w : kx_W} {d : Nat} {M : kx_M} {Q : Option Value → kx_M → Prop} {p1 : Int64} {p3 : Int64} {r : Int32} {M' : kx_M} (h : f_RM_fraction p1 p3 M = some (r, M')) (hQ : Q (some (.int r)) M') : Ct w (d + 1) m_RM_fraction [.ref 135, .long p1, .long p3] M Q := by
  refine mk_ct ok_RM_fraction (Nat.le_of_ble_eq_true rfl) (fun G F => ?_)
  rw [f_RM_fraction] at h
  show G 0 [some (.ref 135), some (.long p1), none, some (.long p3), none, none, none, none, none, none, none] [] M
  refine x_lload_n F.1 (i := 0) rfl rfl ?_
  refine x_mabsl F.1 (i := 1) rfl jm_RM_77 (Nat.le_of_ble_eq_true rfl) ?_
  refine x_lstore F.1 (i := 2) rfl (Nat.le_of_ble_eq_true rfl) (Nat.le_of_ble_eq_true rfl) rfl ?_
  replace h := bd_e h
  refine x_lload_n F.1 (i := 3) rfl rfl ?_
  refine x_lstore F.1 (i := 4) rfl (Nat.le_of_ble_eq_true rfl) (Nat.le_of_ble_eq_true rfl) rfl ?_
  exact x_wk F.1 ((t_RM_fraction_l9 F (res := (r, M')) hQ FU) _ _ _ h) ⟨rfl, rfl, rfl, rfl, rfl, trivial⟩
set_option maxHeartbeats 4000000 in
theorem t_RM_chance_l34 {w : kx_W} {d : Nat} {Q : Option Value → kx_M → Prop} {G : Nat → List (Option Value) → List Value → kx_M → Prop} (F : Sd w (d + 3) m_RM_chance Q G) {p1 : Int32} {p2 : Int32} {res : Int32 × kx_M} (hQ : Q (some (.int res.1)) res.2) :
    ∀ (n : Nat) (x3 : Int32) (x4 : Int32) (M : kx_M),
    f_RM_chance_l34 p1 p2 n x3 x4 M = some res → G 34 [some (.ref 135), some (.int p1), none, some (.int x3), some (.int x4)] [] M := by
  intro n
  induction n with
  | zero =>
    intro x3 x4 M h
    exact absurd h (by rw [f_RM_chance_l34]; exact fun z => nomatch z)
  | succ n ih =>
    intro x3 x4 M h
    rw [f_RM_chance_l34] at h
    refine x_iload F.1 (i := 21) rfl rfl ?_
    refine x_aload_n F.1 (i := 22) rfl rfl ?_
    refine x_getC F.1 (i := 23) rfl fl_RM_35 rfl (by rfl) ?_
    refine x_iconst F.1 (i := 24) rfl ic_0 ?_
    refine gd_e h (fun g1 h => ?_)
    refine x_iald F.1 (i := 25) rfl rfl (inb_e g1) ?_
    refine x_icmp_ge F.1 (i := 26) (tgt := 69) rfl (by decide) (fun c => ?_) (fun c => ?_)
    · replace h := if_T c h
      refine x_aload_n F.1 (i := 40) rfl rfl ?_
      refine x_aload_n F.1 (i := 41) rfl rfl ?_
      refine x_iload_n F.1 (i := 42) rfl rfl ?_
      refine cal_e h (fun r2 M1 e3 h => ?_)
      refine x_cV1i F.1 (i := 43) rfl ml_RM_471 ok_RM_filling rfl (Nat.le_of_ble_eq_true rfl) (Nat.le_of_ble_eq_true rfl) (fun _ => t_RM_filling e3) ?_
      refine x_i2l F.1 (i := 44) rfl ?_
      refine x_iload_n F.1 (i := 45) rfl rfl ?_
      refine x_i2l F.1 (i := 46) rfl ?_
      refine cal_e h (fun r4 M2 e5 h => ?_)
      refine x_cV2i F.1 (i := 47) rfl ml_RM_480 ok_RM_fraction rfl (Nat.le_of_ble_eq_true rfl) (Nat.le_of_ble_eq_true rfl) (fun _ => t_RM_fraction e5) ?_
      refine gd_e h (fun g6 h => ?_)
      exact x_zretf F (i := 48) rfl rfl (b01_e g6) h hQ
    · replace h := if_F c h
      refine x_iload_n F.1 (i := 27) rfl rfl ?_
      refine x_aload_n F.1 (i := 28) rfl rfl ?_
      refine x_getC F.1 (i := 29) rfl fl_RM_56 rfl (by rfl) ?_
      refine x_iload F.1 (i := 30) rfl rfl ?_
      refine gd_e h (fun g7 h => ?_)
      refine x_iald F.1 (i := 31) rfl rfl (inb_e g7) ?_
      refine x_if_ge F.1 (i := 32) (tgt := 60) rfl (by decide) (fun c => ?_) (fun c => ?_)
      · replace h := if_T c h
        refine x_iconst F.1 (i := 35) rfl ic_1 ?_
        refine x_imul F.1 (i := 36) rfl ?_
        refine x_istore_n F.1 (i := 37) rfl (Nat.le_of_ble_eq_true rfl) (Nat.le_of_ble_eq_true rfl) rfl ?_
        replace h := bd_e h
        refine x_iinc F.1 (i := 38) rfl rfl rfl (Nat.le_of_ble_eq_true rfl) rfl ?_
        replace h := bd_e h
        refine x_goto F.1 (i := 39) (tgt := 34) rfl (by decide) ?_
        exact x_wk F.1 (ih _ _ _ h) ⟨rfl, rfl, rfl, rfl, trivial⟩
      · replace h := if_F c h
        refine x_iconst F.1 (i := 33) rfl ic_4 ?_
        refine x_goto F.1 (i := 34) (tgt := 61) rfl (by decide) ?_
        refine x_imul F.1 (i := 36) rfl ?_
        refine x_istore_n F.1 (i := 37) rfl (Nat.le_of_ble_eq_true rfl) (Nat.le_of_ble_eq_true rfl) rfl ?_
        replace h := bd_e h
        refine x_iinc F.1 (i := 38) rfl rfl rfl (Nat.le_of_ble_eq_true rfl) rfl ?_
        replace h := bd_e h
        refine x_goto F.1 (i := 39) (tgt := 34) rfl (by decide) ?_
        exact x_wk F.1 (ih _ _ _ h) ⟨rfl, rfl, rfl, rfl, trivial⟩
set_option maxHeartbeats 4000000 in
theorem t_RM_chance {w : kx_W} {d : Nat} {M : kx_M} {Q : Option Value → kx_M → Prop} {p1 : Int32} {p2 : Int32} {r : Int32} {M' : kx_M} (h : f_RM_chance p1 p2 M = some (r, M')) (hQ : Q (some (.int r)) M') : Ct w (d + 3) m_RM_chance [.ref 135, .int p1, .int p2] M Q := by
  refine mk_ct ok_RM_chance (Nat.le_of_ble_eq_true rfl) (fun G F => ?_)
  rw [f_RM_chance] at h
  show G 0 [some (.ref 135), some (.int p1), some (.int p2), none, none] [] M
  refine x_aload_n F.1 (i := 0) rfl rfl ?_
  refine x_iconst F.1 (i := 1) rfl ic_0 ?_
  refine x_putI F.1 (i := 2) rfl fl_RM_68 pf_RM_thrown rfl (by rfl) ?_
  replace h := bd_e h
  refine x_aload_n F.1 (i := 3) rfl rfl ?_
  refine x_aload_n F.1 (i := 4) rfl rfl ?_
  refine x_iload_n F.1 (i := 5) rfl rfl ?_
  refine x_iload_n F.1 (i := 6) rfl rfl ?_
  refine cal_e h (fun r1 M2 e2 h => ?_)
  refine x_cV2i F.1 (i := 7) rfl ml_RM_474 ok_RM_whyNoFill rfl (Nat.le_of_ble_eq_true rfl) (Nat.le_of_ble_eq_true rfl) (fun _ => t_RM_whyNoFill e2) ?_
  refine x_putI F.1 (i := 8) rfl fl_RM_71 pf_RM_status rfl (by rfl) ?_
  replace h := bd_e h
  refine x_aload_n F.1 (i := 9) rfl rfl ?_
  refine x_getI F.1 (i := 10) rfl fl_RM_71 rfl (by rfl) ?_
  refine x_if_le F.1 (i := 11) (tgt := 24) rfl (by decide) (fun c => ?_) (fun c => ?_)
  · replace h := if_T c h
    refine x_aload_n F.1 (i := 14) rfl rfl ?_
    refine x_iload_n F.1 (i := 15) rfl rfl ?_
    refine cal_e h (fun r3 M4 e4 h => ?_)
    refine x_cV1v F.1 (i := 16) rfl ml_RM_477 ok_RM_reads rfl (Nat.le_of_ble_eq_true rfl) (Nat.le_of_ble_eq_true rfl) (fun _ => t_RM_reads e4) ?_
    refine x_iconst F.1 (i := 17) rfl ic_1 ?_
    refine x_istore_n F.1 (i := 18) rfl (Nat.le_of_ble_eq_true rfl) (Nat.le_of_ble_eq_true rfl) rfl ?_
    refine x_iconst F.1 (i := 19) rfl ic_0 ?_
    refine x_istore F.1 (i := 20) rfl (Nat.le_of_ble_eq_true rfl) (Nat.le_of_ble_eq_true rfl) rfl ?_
    exact x_wk F.1 ((t_RM_chance_l34 F (res := (r, M')) hQ FU) _ _ _ h) ⟨rfl, rfl, rfl, rfl, trivial⟩
  · replace h := if_F c h
    refine x_iconst F.1 (i := 12) rfl ic_0 ?_
    exact x_zretf F (i := 13) rfl rfl (Or.inl rfl) h (res := (r, M')) hQ
set_option maxHeartbeats 4000000 in
theorem t_RM_fillingWith_l21 {w : kx_W} {d : Nat} {Q : Option Value → kx_M → Prop} {G : Nat → List (Option Value) → List Value → kx_M → Prop} (F : Sd w (d + 3) m_RM_fillingWith Q G) {p1 : Int32} {p2 : Int32} {p3 : Int32} {res : Int32 × kx_M} (hQ : Q (some (.int res.1)) res.2) :
    ∀ (x4 : Int32) (M : kx_M),
    f_RM_fillingWith_l21 p1 p2 p3 x4 M = some res → G 21 [some (.ref 135), some (.int p1), some (.int p2), some (.int p3), some (.int x4), none] [] M := by
  intro x4 M h
  rw [f_RM_fillingWith_l21] at h
  refine x_aload_n F.1 (i := 12) rfl rfl ?_
  refine x_getC F.1 (i := 13) rfl fl_RM_56 rfl (by rfl) ?_
  refine x_iload_n F.1 (i := 14) rfl rfl ?_
  refine x_iload_n F.1 (i := 15) rfl rfl ?_
  refine gd_e h (fun g1 h => ?_)
  refine x_iast F.1 (i := 16) rfl rfl (inb_e g1) ?_
  replace h := bd_e h
  refine x_aload_n F.1 (i := 17) rfl rfl ?_
  refine x_iload_n F.1 (i := 18) rfl rfl ?_
  refine cal_e h (fun r2 M2 e3 h => ?_)
  refine x_cV1i F.1 (i := 19) rfl ml_RM_471 ok_RM_filling rfl (Nat.le_of_ble_eq_true rfl) (Nat.le_of_ble_eq_true rfl) (fun _ => t_RM_filling e3) ?_
  refine x_istore F.1 (i := 20) rfl (Nat.le_of_ble_eq_true rfl) (Nat.le_of_ble_eq_true rfl) rfl ?_
  refine x_aload_n F.1 (i := 21) rfl rfl ?_
  refine x_getC F.1 (i := 22) rfl fl_RM_56 rfl (by rfl) ?_
  refine x_iload_n F.1 (i := 23) rfl rfl ?_
  refine x_iload F.1 (i := 24) rfl rfl ?_
  refine gd_e h (fun g4 h => ?_)
  refine x_iast F.1 (i := 25) rfl rfl (inb_e g4) ?_
  replace h := bd_e h
  refine x_iload F.1 (i := 26) rfl rfl ?_
  exact x_iretf F (i := 27) rfl rfl h hQ
set_option maxHeartbeats 4000000 in
theorem t_RM_fillingWith {w : kx_W} {d : Nat} {M : kx_M} {Q : Option Value → kx_M → Prop} {p1 : Int32} {p2 : Int32} {p3 : Int32} {r : Int32} {M' : kx_M} (h : f_RM_fillingWith p1 p2 p3 M = some (r, M')) (hQ : Q (some (.int r)) M') : Ct w (d + 3) m_RM_fillingWith [.ref 135, .int p1, .int p2, .int p3] M Q := by
  refine mk_ct ok_RM_fillingWith (Nat.le_of_ble_eq_true rfl) (fun G F => ?_)
  rw [f_RM_fillingWith] at h
  show G 0 [some (.ref 135), some (.int p1), some (.int p2), some (.int p3), none, none] [] M
  refine x_aload_n F.1 (i := 0) rfl rfl ?_
  refine x_getC F.1 (i := 1) rfl fl_RM_56 rfl (by rfl) ?_
  refine x_iload_n F.1 (i := 2) rfl rfl ?_
  refine gd_e h (fun g1 h => ?_)
  refine x_iald F.1 (i := 3) rfl rfl (inb_e g1) ?_
  refine x_istore F.1 (i := 4) rfl (Nat.le_of_ble_eq_true rfl) (Nat.le_of_ble_eq_true rfl) rfl ?_
  replace h := bd_e h
  refine x_iload F.1 (i := 5) rfl rfl ?_
  refine x_if_lt F.1 (i := 6) (tgt := 21) rfl (by decide) (fun c => ?_) (fun c => ?_)
  · replace h := if_T c h
    exact x_wk F.1 ((t_RM_fillingWith_l21 F (res := (r, M')) hQ) _ _ h) ⟨rfl, rfl, rfl, rfl, rfl, trivial⟩
  · replace h := if_F c h
    refine x_iload F.1 (i := 7) rfl rfl ?_
    refine x_iload_n F.1 (i := 8) rfl rfl ?_
    refine x_icmp_eq F.1 (i := 9) (tgt := 21) rfl (by decide) (fun c => ?_) (fun c => ?_)
    · replace h := if_T c h
      exact x_wk F.1 ((t_RM_fillingWith_l21 F (res := (r, M')) hQ) _ _ h) ⟨rfl, rfl, rfl, rfl, rfl, trivial⟩
    · replace h := if_F c h
      refine x_iconst F.1 (i := 10) rfl ic_0 ?_
      exact x_iretf F (i := 11) rfl rfl h (res := (r, M')) hQ
set_option maxHeartbeats 4000000 in
theorem t_RM_look_l83 {w : kx_W} {d : Nat} {Q : Option Value → kx_M → Prop} {G : Nat → List (Option Value) → List Value → kx_M → Prop} (F : Sd w (d + 4) m_RM_look Q G) {p1 : Int32} {p2 : Int32} {k53 : Int32 → Int32 → Int32 → kx_M → Option (Int32 × kx_M)} {res : Int32 × kx_M} (hQ : Q (some (.int res.1)) res.2) (hk53 : ∀ (x3 : Int32) (x4 : Int32) (x5 : Int32) (M : kx_M), k53 x3 x4 x5 M = some res → G 53 [some (.ref 135), some (.int p1), none, some (.int x3), some (.int x4), some (.int x5), none, none] [] M) :
    ∀ (n : Nat) (x3 : Int32) (x4 : Int32) (x5 : Int32) (x6 : Int32) (x7 : Int32) (M : kx_M),
    f_RM_look_l83 p1 p2 k53 n x3 x4 x5 x6 x7 M = some res → G 83 [some (.ref 135), some (.int p1), none, some (.int x3), some (.int x4), some (.int x5), some (.int x6), some (.int x7)] [] M := by
  intro n
  induction n with
  | zero =>
    intro x3 x4 x5 x6 x7 M h
    exact absurd h (by rw [f_RM_look_l83]; exact fun z => nomatch z)
  | succ n ih =>
    intro x3 x4 x5 x6 x7 M h
    rw [f_RM_look_l83] at h
    refine x_iload F.1 (i := 48) rfl rfl ?_
    refine x_iconst F.1 (i := 49) rfl ic_4 ?_
    refine x_icmp_ge F.1 (i := 50) (tgt := 111) rfl (by decide) (fun c => ?_) (fun c => ?_)
    · replace h := if_T c h
      refine x_iload_n F.1 (i := 61) rfl rfl ?_
      refine x_if_lt F.1 (i := 62) (tgt := 125) rfl (by decide) (fun c => ?_) (fun c => ?_)
      · replace h := if_T c h
        refine x_iload F.1 (i := 67) rfl rfl ?_
        refine x_istore_n F.1 (i := 68) rfl (Nat.le_of_ble_eq_true rfl) (Nat.le_of_ble_eq_true rfl) rfl ?_
        refine x_iload F.1 (i := 69) rfl rfl ?_
        refine x_istore F.1 (i := 70) rfl (Nat.le_of_ble_eq_true rfl) (Nat.le_of_ble_eq_true rfl) rfl ?_
        refine x_iinc F.1 (i := 71) rfl rfl rfl (Nat.le_of_ble_eq_true rfl) rfl ?_
        replace h := bd_e h
        refine x_goto F.1 (i := 72) (tgt := 53) rfl (by decide) ?_
        exact x_wk F.1 (hk53 _ _ _ _ h) ⟨rfl, rfl, rfl, rfl, rfl, trivial⟩
      · replace h := if_F c h
        refine x_iload F.1 (i := 63) rfl rfl ?_
        refine x_iload F.1 (i := 64) rfl rfl ?_
        refine x_icmp_lt F.1 (i := 65) (tgt := 125) rfl (by decide) (fun c => ?_) (fun c => ?_)
        · replace h := if_T c h
          refine x_iload F.1 (i := 67) rfl rfl ?_
          refine x_istore_n F.1 (i := 68) rfl (Nat.le_of_ble_eq_true rfl) (Nat.le_of_ble_eq_true rfl) rfl ?_
          refine x_iload F.1 (i := 69) rfl rfl ?_
          refine x_istore F.1 (i := 70) rfl (Nat.le_of_ble_eq_true rfl) (Nat.le_of_ble_eq_true rfl) rfl ?_
          refine x_iinc F.1 (i := 71) rfl rfl rfl (Nat.le_of_ble_eq_true rfl) rfl ?_
          replace h := bd_e h
          refine x_goto F.1 (i := 72) (tgt := 53) rfl (by decide) ?_
          exact x_wk F.1 (hk53 _ _ _ _ h) ⟨rfl, rfl, rfl, rfl, rfl, trivial⟩
        · replace h := if_F c h
          refine x_goto F.1 (i := 66) (tgt := 132) rfl (by decide) ?_
          refine x_iinc F.1 (i := 71) rfl rfl rfl (Nat.le_of_ble_eq_true rfl) rfl ?_
          replace h := bd_e h
          refine x_goto F.1 (i := 72) (tgt := 53) rfl (by decide) ?_
          exact x_wk F.1 (hk53 _ _ _ _ h) ⟨rfl, rfl, rfl, rfl, rfl, trivial⟩
    · replace h := if_F c h
      refine x_iload F.1 (i := 51) rfl rfl ?_
      refine x_aload_n F.1 (i := 52) rfl rfl ?_
      refine x_iload_n F.1 (i := 53) rfl rfl ?_
      refine x_iload F.1 (i := 54) rfl rfl ?_
      refine x_iload F.1 (i := 55) rfl rfl ?_
      refine cal_e h (fun r4 M1 e5 h => ?_)
      refine x_cV3i F.1 (i := 56) rfl ml_RM_484 ok_RM_fillingWith rfl (Nat.le_of_ble_eq_true rfl) (Nat.le_of_ble_eq_true rfl) (fun _ => t_RM_fillingWith e5) ?_
      refine x_mmax F.1 (i := 57) rfl jm_RM_228 (Nat.le_of_ble_eq_true rfl) ?_
      refine x_istore F.1 (i := 58) rfl (Nat.le_of_ble_eq_true rfl) (Nat.le_of_ble_eq_true rfl) rfl ?_
      replace h := bd_e h
      refine x_iinc F.1 (i := 59) rfl rfl rfl (Nat.le_of_ble_eq_true rfl) rfl ?_
      replace h := bd_e h
      refine x_goto F.1 (i := 60) (tgt := 83) rfl (by decide) ?_
      exact x_wk F.1 (ih _ _ _ _ _ _ h) ⟨rfl, rfl, rfl, rfl, rfl, rfl, rfl, trivial⟩
set_option maxHeartbeats 4000000 in
theorem t_RM_look_l53 {w : kx_W} {d : Nat} {Q : Option Value → kx_M → Prop} {G : Nat → List (Option Value) → List Value → kx_M → Prop} (F : Sd w (d + 4) m_RM_look Q G) {p1 : Int32} {p2 : Int32} {res : Int32 × kx_M} (hQ : Q (some (.int res.1)) res.2) :
    ∀ (n : Nat) (x3 : Int32) (x4 : Int32) (x5 : Int32) (M : kx_M),
    f_RM_look_l53 p1 p2 n x3 x4 x5 M = some res → G 53 [some (.ref 135), some (.int p1), none, some (.int x3), some (.int x4), some (.int x5), none, none] [] M := by
  intro n
  induction n with
  | zero =>
    intro x3 x4 x5 M h
    exact absurd h (by rw [f_RM_look_l53]; exact fun z => nomatch z)
  | succ n ih =>
    intro x3 x4 x5 M h
    rw [f_RM_look_l53] at h
    refine x_iload F.1 (i := 32) rfl rfl ?_
    refine x_aload_n F.1 (i := 33) rfl rfl ?_
    refine x_getC F.1 (i := 34) rfl fl_RM_35 rfl (by rfl) ?_
    refine x_iconst F.1 (i := 35) rfl ic_0 ?_
    refine gd_e h (fun g1 h => ?_)
    refine x_iald F.1 (i := 36) rfl rfl (inb_e g1) ?_
    refine x_icmp_ge F.1 (i := 37) (tgt := 138) rfl (by decide) (fun c => ?_) (fun c => ?_)
    · replace h := if_T c h
      refine x_iload_n F.1 (i := 73) rfl rfl ?_
      exact x_iretf F (i := 74) rfl rfl h hQ
    · replace h := if_F c h
      refine x_aload_n F.1 (i := 38) rfl rfl ?_
      refine x_getC F.1 (i := 39) rfl fl_RM_56 rfl (by rfl) ?_
      refine x_iload F.1 (i := 40) rfl rfl ?_
      refine gd_e h (fun g2 h => ?_)
      refine x_iald F.1 (i := 41) rfl rfl (inb_e g2) ?_
      refine x_if_lt F.1 (i := 42) (tgt := 77) rfl (by decide) (fun c => ?_) (fun c => ?_)
      · replace h := if_T c h
        refine x_iconst F.1 (i := 44) rfl ic_0 ?_
        refine x_istore F.1 (i := 45) rfl (Nat.le_of_ble_eq_true rfl) (Nat.le_of_ble_eq_true rfl) rfl ?_
        refine x_iconst F.1 (i := 46) rfl ic_0 ?_
        refine x_istore F.1 (i := 47) rfl (Nat.le_of_ble_eq_true rfl) (Nat.le_of_ble_eq_true rfl) rfl ?_
        exact x_wk F.1 ((t_RM_look_l83 F hQ ih FU) _ _ _ _ _ _ h) ⟨rfl, rfl, rfl, rfl, rfl, rfl, rfl, trivial⟩
      · replace h := if_F c h
        refine x_goto F.1 (i := 43) (tgt := 132) rfl (by decide) ?_
        refine x_iinc F.1 (i := 71) rfl rfl rfl (Nat.le_of_ble_eq_true rfl) rfl ?_
        replace h := bd_e h
        refine x_goto F.1 (i := 72) (tgt := 53) rfl (by decide) ?_
        exact x_wk F.1 (ih _ _ _ _ h) ⟨rfl, rfl, rfl, rfl, rfl, trivial⟩
set_option maxHeartbeats 4000000 in
theorem t_RM_look {w : kx_W} {d : Nat} {M : kx_M} {Q : Option Value → kx_M → Prop} {p1 : Int32} {p2 : Int32} {r : Int32} {M' : kx_M} (h : f_RM_look p1 p2 M = some (r, M')) (hQ : Q (some (.int r)) M') : Ct w (d + 4) m_RM_look [.ref 135, .int p1, .int p2] M Q := by
  refine mk_ct ok_RM_look (Nat.le_of_ble_eq_true rfl) (fun G F => ?_)
  rw [f_RM_look] at h
  show G 0 [some (.ref 135), some (.int p1), some (.int p2), none, none, none, none, none] [] M
  refine x_aload_n F.1 (i := 0) rfl rfl ?_
  refine x_iconst F.1 (i := 1) rfl ic_0 ?_
  refine x_putI F.1 (i := 2) rfl fl_RM_68 pf_RM_thrown rfl (by rfl) ?_
  replace h := bd_e h
  refine x_aload_n F.1 (i := 3) rfl rfl ?_
  refine x_aload_n F.1 (i := 4) rfl rfl ?_
  refine x_iload_n F.1 (i := 5) rfl rfl ?_
  refine x_iload_n F.1 (i := 6) rfl rfl ?_
  refine cal_e h (fun r1 M2 e2 h => ?_)
  refine x_cV2i F.1 (i := 7) rfl ml_RM_474 ok_RM_whyNoFill rfl (Nat.le_of_ble_eq_true rfl) (Nat.le_of_ble_eq_true rfl) (fun _ => t_RM_whyNoFill e2) ?_
  refine x_putI F.1 (i := 8) rfl fl_RM_71 pf_RM_status rfl (by rfl) ?_
  replace h := bd_e h
  refine x_aload_n F.1 (i := 9) rfl rfl ?_
  refine x_getI F.1 (i := 10) rfl fl_RM_71 rfl (by rfl) ?_
  refine x_if_le F.1 (i := 11) (tgt := 24) rfl (by decide) (fun c => ?_) (fun c => ?_)
  · replace h := if_T c h
    refine x_aload_n F.1 (i := 14) rfl rfl ?_
    refine x_iload_n F.1 (i := 15) rfl rfl ?_
    refine cal_e h (fun r3 M4 e4 h => ?_)
    refine x_cV1v F.1 (i := 16) rfl ml_RM_477 ok_RM_reads rfl (Nat.le_of_ble_eq_true rfl) (Nat.le_of_ble_eq_true rfl) (fun _ => t_RM_reads e4) ?_
    refine x_aload_n F.1 (i := 17) rfl rfl ?_
    refine x_iload_n F.1 (i := 18) rfl rfl ?_
    refine cal_e h (fun r5 M5 e6 h => ?_)
    refine x_cV1i F.1 (i := 19) rfl ml_RM_471 ok_RM_filling rfl (Nat.le_of_ble_eq_true rfl) (Nat.le_of_ble_eq_true rfl) (fun _ => t_RM_filling e6) ?_
    refine x_iconst F.1 (i := 20) rfl ic_2 ?_
    refine x_icmp_ge F.1 (i := 21) (tgt := 45) rfl (by decide) (fun c => ?_) (fun c => ?_)
    · replace h := if_T c h
      refine x_iconst F.1 (i := 26) rfl ic_n1 ?_
      refine x_istore_n F.1 (i := 27) rfl (Nat.le_of_ble_eq_true rfl) (Nat.le_of_ble_eq_true rfl) rfl ?_
      refine x_iconst F.1 (i := 28) rfl ic_0 ?_
      refine x_istore F.1 (i := 29) rfl (Nat.le_of_ble_eq_true rfl) (Nat.le_of_ble_eq_true rfl) rfl ?_
      refine x_iconst F.1 (i := 30) rfl ic_0 ?_
      refine x_istore F.1 (i := 31) rfl (Nat.le_of_ble_eq_true rfl) (Nat.le_of_ble_eq_true rfl) rfl ?_
      exact x_wk F.1 ((t_RM_look_l53 F (res := (r, M')) hQ FU) _ _ _ _ h) ⟨rfl, rfl, rfl, rfl, rfl, trivial⟩
    · replace h := if_F c h
      refine x_aload_n F.1 (i := 22) rfl rfl ?_
      refine x_bipush F.1 (i := 23) rfl bp_8 ?_
      refine cal_e h (fun r7 M6 e8 h => ?_)
      refine x_cV1i F.1 (i := 24) rfl ml_RM_321 ok_RM_refuse rfl (Nat.le_of_ble_eq_true rfl) (Nat.le_of_ble_eq_true rfl) (fun _ => t_RM_refuse e8) ?_
      exact x_iretf F (i := 25) rfl rfl h (res := (r, M')) hQ
  · replace h := if_F c h
    refine x_iconst F.1 (i := 12) rfl ic_n1 ?_
    exact x_iretf F (i := 13) rfl rfl h (res := (r, M')) hQ
