set_option maxHeartbeats 4000000 in
theorem t_RM_sure_l71 {w : kx_W} {d : Nat} {Q : Option Value → kx_M → Prop} {G : Nat → List (Option Value) → List Value → kx_M → Prop} (F : Sd w (d + 4) m_RM_sure Q G) {p1 : Int32} {p2 : Int32} {p3 : Int32} {res : Int32 × kx_M} (hQ : Q (some (.int res.1)) res.2) :
    ∀ (n : Nat) (x4 : Int32) (x5 : Int32) (M : kx_M),
    f_RM_sure_l71 p1 p2 p3 n x4 x5 M = some res → G 71 [some (.ref 135), some (.int p1), none, some (.int p3), some (.int x4), some (.int x5)] [] M := by
  intro n
  induction n with
  | zero =>
    intro x4 x5 M h
    exact absurd h (by rw [f_RM_sure_l71]; exact fun z => nomatch z)
  | succ n ih =>
    intro x4 x5 M h
    rw [f_RM_sure_l71] at h
    refine x_iload F.1 (i := 39) rfl rfl ?_
    refine x_iconst F.1 (i := 40) rfl ic_4 ?_
    refine x_icmp_ge F.1 (i := 41) (tgt := 104) rfl (by decide) (fun c => ?_) (fun c => ?_)
    · replace h := if_T c h
      refine x_aload_n F.1 (i := 55) rfl rfl ?_
      refine x_bipush F.1 (i := 56) rfl bp_8 ?_
      refine cal_e h (fun r1 M1 e2 h => ?_)
      refine x_cV1i F.1 (i := 57) rfl ml_RM_321 ok_RM_refuse rfl (Nat.le_of_ble_eq_true rfl) (Nat.le_of_ble_eq_true rfl) (fun _ => t_RM_refuse e2) ?_
      exact x_iretf F (i := 58) rfl rfl h hQ
    · replace h := if_F c h
      refine x_iload F.1 (i := 42) rfl rfl ?_
      refine x_if_le F.1 (i := 43) (tgt := 104) rfl (by decide) (fun c => ?_) (fun c => ?_)
      · replace h := if_T c h
        refine x_aload_n F.1 (i := 55) rfl rfl ?_
        refine x_bipush F.1 (i := 56) rfl bp_8 ?_
        refine cal_e h (fun r3 M2 e4 h => ?_)
        refine x_cV1i F.1 (i := 57) rfl ml_RM_321 ok_RM_refuse rfl (Nat.le_of_ble_eq_true rfl) (Nat.le_of_ble_eq_true rfl) (fun _ => t_RM_refuse e4) ?_
        exact x_iretf F (i := 58) rfl rfl h hQ
      · replace h := if_F c h
        refine x_aload_n F.1 (i := 44) rfl rfl ?_
        refine x_iload_n F.1 (i := 45) rfl rfl ?_
        refine x_iload_n F.1 (i := 46) rfl rfl ?_
        refine x_iload F.1 (i := 47) rfl rfl ?_
        refine cal_e h (fun r5 M3 e6 h => ?_)
        refine x_cV3i F.1 (i := 48) rfl ml_RM_484 ok_RM_fillingWith rfl (Nat.le_of_ble_eq_true rfl) (Nat.le_of_ble_eq_true rfl) (fun _ => t_RM_fillingWith e6) ?_
        refine x_iload F.1 (i := 49) rfl rfl ?_
        refine x_icmp_ne F.1 (i := 50) (tgt := 98) rfl (by decide) (fun c => ?_) (fun c => ?_)
        · replace h := if_F c h
          refine x_iinc F.1 (i := 53) rfl rfl rfl (Nat.le_of_ble_eq_true rfl) rfl ?_
          replace h := bd_e h
          refine x_goto F.1 (i := 54) (tgt := 71) rfl (by decide) ?_
          exact x_wk F.1 (ih _ _ _ h) ⟨rfl, rfl, rfl, rfl, rfl, trivial⟩
        · replace h := if_T c h
          refine x_iload F.1 (i := 51) rfl rfl ?_
          exact x_iretf F (i := 52) rfl rfl h hQ
set_option maxHeartbeats 4000000 in
theorem t_RM_sure_l44 {w : kx_W} {d : Nat} {Q : Option Value → kx_M → Prop} {G : Nat → List (Option Value) → List Value → kx_M → Prop} (F : Sd w (d + 4) m_RM_sure Q G) {p1 : Int32} {p2 : Int32} {p3 : Int32} {res : Int32 × kx_M} (hQ : Q (some (.int res.1)) res.2) :
    ∀ (s0 : Nat) (s1 : Int32) (M : kx_M),
    f_RM_sure_l44 p1 p2 p3 s0 s1 M = some res → G 44 [some (.ref 135), some (.int p1), some (.int p2), some (.int p3), none, none] [.int s1, .ref 135] M := by
  intro s0 s1 M h
  rw [f_RM_sure_l44] at h
  refine x_putI F.1 (i := 24) rfl fl_RM_71 pf_RM_status rfl (by rfl) ?_
  replace h := bd_e h
  refine x_aload_n F.1 (i := 25) rfl rfl ?_
  refine x_getI F.1 (i := 26) rfl fl_RM_71 rfl (by rfl) ?_
  refine x_if_le F.1 (i := 27) (tgt := 56) rfl (by decide) (fun c => ?_) (fun c => ?_)
  · replace h := if_T c h
    refine x_aload_n F.1 (i := 30) rfl rfl ?_
    refine x_iload_n F.1 (i := 31) rfl rfl ?_
    refine cal_e h (fun r1 M2 e2 h => ?_)
    refine x_cV1v F.1 (i := 32) rfl ml_RM_477 ok_RM_reads rfl (Nat.le_of_ble_eq_true rfl) (Nat.le_of_ble_eq_true rfl) (fun _ => t_RM_reads e2) ?_
    refine x_aload_n F.1 (i := 33) rfl rfl ?_
    refine x_iload_n F.1 (i := 34) rfl rfl ?_
    refine cal_e h (fun r3 M3 e4 h => ?_)
    refine x_cV1i F.1 (i := 35) rfl ml_RM_471 ok_RM_filling rfl (Nat.le_of_ble_eq_true rfl) (Nat.le_of_ble_eq_true rfl) (fun _ => t_RM_filling e4) ?_
    refine x_istore F.1 (i := 36) rfl (Nat.le_of_ble_eq_true rfl) (Nat.le_of_ble_eq_true rfl) rfl ?_
    refine x_iconst F.1 (i := 37) rfl ic_0 ?_
    refine x_istore F.1 (i := 38) rfl (Nat.le_of_ble_eq_true rfl) (Nat.le_of_ble_eq_true rfl) rfl ?_
    exact x_wk F.1 ((t_RM_sure_l71 F hQ FU) _ _ _ h) ⟨rfl, rfl, rfl, rfl, rfl, trivial⟩
  · replace h := if_F c h
    refine x_iconst F.1 (i := 28) rfl ic_n1 ?_
    exact x_iretf F (i := 29) rfl rfl h hQ
set_option maxHeartbeats 4000000 in
theorem t_RM_sure {w : kx_W} {d : Nat} {M : kx_M} {Q : Option Value → kx_M → Prop} {p1 : Int32} {p2 : Int32} {p3 : Int32} {r : Int32} {M' : kx_M} (h : f_RM_sure p1 p2 p3 M = some (r, M')) (hQ : Q (some (.int r)) M') : Ct w (d + 4) m_RM_sure [.ref 135, .int p1, .int p2, .int p3] M Q := by
  refine mk_ct ok_RM_sure (Nat.le_of_ble_eq_true rfl) (fun G F => ?_)
  rw [f_RM_sure] at h
  show G 0 [some (.ref 135), some (.int p1), some (.int p2), some (.int p3), none, none] [] M
  refine x_aload_n F.1 (i := 0) rfl rfl ?_
  refine x_iconst F.1 (i := 1) rfl ic_0 ?_
  refine x_putI F.1 (i := 2) rfl fl_RM_68 pf_RM_thrown rfl (by rfl) ?_
  replace h := bd_e h
  refine x_aload_n F.1 (i := 3) rfl rfl ?_
  refine x_aload_n F.1 (i := 4) rfl rfl ?_
  refine x_iload_n F.1 (i := 5) rfl rfl ?_
  refine cal_e h (fun r1 M2 e2 h => ?_)
  refine x_cV1i F.1 (i := 6) rfl ml_RM_342 ok_RM_isTray rfl (Nat.le_of_ble_eq_true rfl) (Nat.le_of_ble_eq_true rfl) (fun _ => t_RM_isTray e2) ?_
  refine x_if_ne F.1 (i := 7) (tgt := 18) rfl (by decide) (fun c => ?_) (fun c => ?_)
  · replace h := if_F c h
    refine x_aload_n F.1 (i := 10) rfl rfl ?_
    refine x_iload_n F.1 (i := 11) rfl rfl ?_
    refine cal_e h (fun r3 M3 e4 h => ?_)
    refine x_cV1i F.1 (i := 12) rfl ml_RM_339 ok_RM_isClauseAt rfl (Nat.le_of_ble_eq_true rfl) (Nat.le_of_ble_eq_true rfl) (fun _ => t_RM_isClauseAt e4) ?_
    refine x_if_eq F.1 (i := 13) (tgt := 43) rfl (by decide) (fun c => ?_) (fun c => ?_)
    · replace h := if_T c h
      refine x_iconst F.1 (i := 23) rfl ic_2 ?_
      exact x_wk F.1 ((t_RM_sure_l44 F (res := (r, M')) hQ) _ _ _ h) ⟨rfl, rfl, rfl, rfl, trivial⟩
    · replace h := if_F c h
      refine x_aload_n F.1 (i := 14) rfl rfl ?_
      refine x_iload_n F.1 (i := 15) rfl rfl ?_
      refine cal_e h (fun r5 M4 e6 h => ?_)
      refine x_cV1i F.1 (i := 16) rfl ml_RM_333 ok_RM_isColumn rfl (Nat.le_of_ble_eq_true rfl) (Nat.le_of_ble_eq_true rfl) (fun _ => t_RM_isColumn e6) ?_
      refine x_if_eq F.1 (i := 17) (tgt := 43) rfl (by decide) (fun c => ?_) (fun c => ?_)
      · replace h := if_T c h
        refine x_iconst F.1 (i := 23) rfl ic_2 ?_
        exact x_wk F.1 ((t_RM_sure_l44 F (res := (r, M')) hQ) _ _ _ h) ⟨rfl, rfl, rfl, rfl, trivial⟩
      · replace h := if_F c h
        refine x_aload_n F.1 (i := 18) rfl rfl ?_
        refine x_iload_n F.1 (i := 19) rfl rfl ?_
        refine x_iconst F.1 (i := 20) rfl ic_n1 ?_
        refine cal_e h (fun r7 M5 e8 h => ?_)
        refine x_cV2i F.1 (i := 21) rfl ml_RM_384 ok_RM_whyNoRun rfl (Nat.le_of_ble_eq_true rfl) (Nat.le_of_ble_eq_true rfl) (fun _ => t_RM_whyNoRun e8) ?_
        refine x_goto F.1 (i := 22) (tgt := 44) rfl (by decide) ?_
        exact x_wk F.1 ((t_RM_sure_l44 F (res := (r, M')) hQ) _ _ _ h) ⟨rfl, rfl, rfl, rfl, trivial⟩
  · replace h := if_T c h
    refine x_iconst F.1 (i := 8) rfl ic_1 ?_
    refine x_goto F.1 (i := 9) (tgt := 44) rfl (by decide) ?_
    exact x_wk F.1 ((t_RM_sure_l44 F (res := (r, M')) hQ) _ _ _ h) ⟨rfl, rfl, rfl, rfl, trivial⟩
set_option maxHeartbeats 4000000 in
theorem t_RM_anyYears_l18 {w : kx_W} {d : Nat} {Q : Option Value → kx_M → Prop} {G : Nat → List (Option Value) → List Value → kx_M → Prop} (F : Sd w (d + 4) m_RM_anyYears Q G) {p1 : Int32} {res : Int32 × kx_M} (hQ : Q (some (.int res.1)) res.2) :
    ∀ (n : Nat) (x2 : Int32) (M : kx_M),
    f_RM_anyYears_l18 p1 n x2 M = some res → G 18 [some (.ref 135), some (.int p1), some (.int x2)] [] M := by
  intro n
  induction n with
  | zero =>
    intro x2 M h
    exact absurd h (by rw [f_RM_anyYears_l18]; exact fun z => nomatch z)
  | succ n ih =>
    intro x2 M h
    rw [f_RM_anyYears_l18] at h
    refine x_iload_n F.1 (i := 12) rfl rfl ?_
    refine x_iload_n F.1 (i := 13) rfl rfl ?_
    refine x_icmp_ge F.1 (i := 14) (tgt := 42) rfl (by decide) (fun c => ?_) (fun c => ?_)
    · replace h := if_T c h
      refine x_aload_n F.1 (i := 24) rfl rfl ?_
      refine x_dup F.1 (i := 25) rfl rfl ?_
      refine x_getI F.1 (i := 26) rfl fl_RM_494 rfl (by rfl) ?_
      refine x_iload_n F.1 (i := 27) rfl rfl ?_
      refine x_iadd F.1 (i := 28) rfl ?_
      refine x_putI F.1 (i := 29) rfl fl_RM_494 pf_RM_years rfl (by rfl) ?_
      replace h := bd_e h
      refine x_iconst F.1 (i := 30) rfl ic_1 ?_
      exact x_zretf F (i := 31) rfl rfl (Or.inr rfl) h hQ
    · replace h := if_F c h
      refine x_aload_n F.1 (i := 15) rfl rfl ?_
      refine x_dup F.1 (i := 16) rfl rfl ?_
      refine x_getI F.1 (i := 17) rfl fl_RM_491 rfl (by rfl) ?_
      refine x_aload_n F.1 (i := 18) rfl rfl ?_
      refine cal_e h (fun r1 M2 e2 h => ?_)
      refine x_cV0i F.1 (i := 19) rfl ml_RM_362 ok_RM_goesYear rfl (Nat.le_of_ble_eq_true rfl) (Nat.le_of_ble_eq_true rfl) (fun _ => t_RM_goesYear e2) ?_
      refine x_iadd F.1 (i := 20) rfl ?_
      refine x_putI F.1 (i := 21) rfl fl_RM_491 pf_RM_undone rfl (by rfl) ?_
      replace h := bd_e h
      refine x_iinc F.1 (i := 22) rfl rfl rfl (Nat.le_of_ble_eq_true rfl) rfl ?_
      replace h := bd_e h
      refine x_goto F.1 (i := 23) (tgt := 18) rfl (by decide) ?_
      exact x_wk F.1 (ih _ _ h) ⟨rfl, rfl, rfl, trivial⟩
set_option maxHeartbeats 4000000 in
theorem t_RM_anyYears {w : kx_W} {d : Nat} {M : kx_M} {Q : Option Value → kx_M → Prop} {p1 : Int32} {r : Int32} {M' : kx_M} (h : f_RM_anyYears p1 M = some (r, M')) (hQ : Q (some (.int r)) M') : Ct w (d + 4) m_RM_anyYears [.ref 135, .int p1] M Q := by
  refine mk_ct ok_RM_anyYears (Nat.le_of_ble_eq_true rfl) (fun G F => ?_)
  rw [f_RM_anyYears] at h
  show G 0 [some (.ref 135), some (.int p1), none] [] M
  refine x_aload_n F.1 (i := 0) rfl rfl ?_
  refine x_getC F.1 (i := 1) rfl fl_RM_35 rfl (by rfl) ?_
  refine x_iconst F.1 (i := 2) rfl ic_5 ?_
  refine gd_e h (fun g1 h => ?_)
  refine x_iald F.1 (i := 3) rfl rfl (inb_e g1) ?_
  refine x_iload_n F.1 (i := 4) rfl rfl ?_
  refine x_iadd F.1 (i := 5) rfl ?_
  refine x_sipush F.1 (i := 6) rfl sp_9999 ?_
  refine x_icmp_le F.1 (i := 7) (tgt := 16) rfl (by decide) (fun c => ?_) (fun c => ?_)
  · replace h := if_T c h
    refine x_iconst F.1 (i := 10) rfl ic_0 ?_
    refine x_istore_n F.1 (i := 11) rfl (Nat.le_of_ble_eq_true rfl) (Nat.le_of_ble_eq_true rfl) rfl ?_
    exact x_wk F.1 ((t_RM_anyYears_l18 F (res := (r, M')) hQ FU) _ _ h) ⟨rfl, rfl, rfl, trivial⟩
  · replace h := if_F c h
    refine x_iconst F.1 (i := 8) rfl ic_0 ?_
    exact x_zretf F (i := 9) rfl rfl (Or.inl rfl) h (res := (r, M')) hQ
set_option maxHeartbeats 4000000 in
theorem t_RM_draw {w : kx_W} {d : Nat} {M : kx_M} {Q : Option Value → kx_M → Prop} {p1 : Int32} {r : Int32} {M' : kx_M} (h : f_RM_draw p1 M = some (r, M')) (hQ : Q (some (.int r)) M') : Ct w d m_RM_draw [.ref 135, .int p1] M Q := by
  refine mk_ct ok_RM_draw (Nat.le_of_ble_eq_true rfl) (fun G F => ?_)
  rw [f_RM_draw] at h
  show G 0 [some (.ref 135), some (.int p1)] [] M
  refine x_aload_n F.1 (i := 0) rfl rfl ?_
  refine x_aload_n F.1 (i := 1) rfl rfl ?_
  refine x_getI F.1 (i := 2) rfl fl_RM_487 rfl (by rfl) ?_
  refine x_sipush F.1 (i := 3) rfl sp_2971 ?_
  refine x_imul F.1 (i := 4) rfl ?_
  refine x_sipush F.1 (i := 5) rfl sp_10729 ?_
  refine x_iadd F.1 (i := 6) rfl ?_
  refine x_ldc_w F.1 (i := 7) rfl cn_RM_490 ?_
  refine x_irem F.1 (i := 8) (v := 0) rfl (by decide) ?_
  refine x_putI F.1 (i := 9) rfl fl_RM_487 pf_RM_random rfl (by rfl) ?_
  replace h := bd_e h
  refine x_aload_n F.1 (i := 10) rfl rfl ?_
  refine x_getI F.1 (i := 11) rfl fl_RM_487 rfl (by rfl) ?_
  refine x_bipush F.1 (i := 12) rfl bp_8 ?_
  refine x_idiv F.1 (i := 13) (v := 0) rfl (by decide) ?_
  refine x_iload_n F.1 (i := 14) rfl rfl ?_
  refine gd_e h (fun g1 h => ?_)
  refine x_irem F.1 (i := 15) (v := 0) rfl (nz_e g1) ?_
  exact x_iretf F (i := 16) rfl rfl h (res := (r, M')) hQ
set_option maxHeartbeats 4000000 in
theorem t_RM_isEaten {w : kx_W} {d : Nat} {M : kx_M} {Q : Option Value → kx_M → Prop} {p1 : Int32} {p2 : Int32} {r : Int32} {M' : kx_M} (h : f_RM_isEaten p1 p2 M = some (r, M')) (hQ : Q (some (.int r)) M') : Ct w (d + 4) m_RM_isEaten [.ref 135, .int p1, .int p2] M Q := by
  refine mk_ct ok_RM_isEaten (Nat.le_of_ble_eq_true rfl) (fun G F => ?_)
  rw [f_RM_isEaten] at h
  show G 0 [some (.ref 135), some (.int p1), some (.int p2), none] [] M
  refine x_aload_n F.1 (i := 0) rfl rfl ?_
  refine x_iload_n F.1 (i := 1) rfl rfl ?_
  refine x_iload_n F.1 (i := 2) rfl rfl ?_
  refine cal_e h (fun r1 M1 e2 h => ?_)
  refine x_cV2i F.1 (i := 3) rfl ml_RM_371 ok_RM_eats rfl (Nat.le_of_ble_eq_true rfl) (Nat.le_of_ble_eq_true rfl) (fun _ => t_RM_eats e2) ?_
  refine x_istore_n F.1 (i := 4) rfl (Nat.le_of_ble_eq_true rfl) (Nat.le_of_ble_eq_true rfl) rfl ?_
  refine x_aload_n F.1 (i := 5) rfl rfl ?_
  refine x_dup F.1 (i := 6) rfl rfl ?_
  refine x_getI F.1 (i := 7) rfl fl_RM_491 rfl (by rfl) ?_
  refine x_iconst F.1 (i := 8) rfl ic_0 ?_
  refine x_iload_n F.1 (i := 9) rfl rfl ?_
  refine x_mmax F.1 (i := 10) rfl jm_RM_228 (Nat.le_of_ble_eq_true rfl) ?_
  refine x_iadd F.1 (i := 11) rfl ?_
  refine x_putI F.1 (i := 12) rfl fl_RM_491 pf_RM_undone rfl (by rfl) ?_
  replace h := bd_e h
  refine x_iload_n F.1 (i := 13) rfl rfl ?_
  refine x_if_le F.1 (i := 14) (tgt := 29) rfl (by decide) (fun c => ?_) (fun c => ?_)
  · replace h := if_T c h
    refine x_iconst F.1 (i := 17) rfl ic_0 ?_
    exact x_zretf F (i := 18) rfl rfl (Or.inl rfl) h (res := (r, M')) hQ
  · replace h := if_F c h
    refine x_iconst F.1 (i := 15) rfl ic_1 ?_
    refine x_goto F.1 (i := 16) (tgt := 30) rfl (by decide) ?_
    exact x_zretf F (i := 18) rfl rfl (Or.inr rfl) h (res := (r, M')) hQ
set_option maxHeartbeats 4000000 in
theorem t_RM_isAny {w : kx_W} {d : Nat} {M : kx_M} {Q : Option Value → kx_M → Prop} {r : Int32} {M' : kx_M} (h : f_RM_isAny M = some (r, M')) (hQ : Q (some (.int r)) M') : Ct w (d + 5) m_RM_isAny [.ref 135] M Q := by
  refine mk_ct ok_RM_isAny (Nat.le_of_ble_eq_true rfl) (fun G F => ?_)
  rw [f_RM_isAny] at h
  show G 0 [some (.ref 135), none] [] M
  refine x_aload_n F.1 (i := 0) rfl rfl ?_
  refine x_getC F.1 (i := 1) rfl fl_RM_35 rfl (by rfl) ?_
  refine x_iconst F.1 (i := 2) rfl ic_4 ?_
  refine gd_e h (fun g1 h => ?_)
  refine x_iald F.1 (i := 3) rfl rfl (inb_e g1) ?_
  refine x_if_ne F.1 (i := 4) (tgt := 11) rfl (by decide) (fun c => ?_) (fun c => ?_)
  · replace h := if_F c h
    refine x_aload_n F.1 (i := 7) rfl rfl ?_
    refine x_aload_n F.1 (i := 8) rfl rfl ?_
    refine x_getC F.1 (i := 9) rfl fl_RM_35 rfl (by rfl) ?_
    refine x_iconst F.1 (i := 10) rfl ic_4 ?_
    refine gd_e h (fun g2 h => ?_)
    refine x_iald F.1 (i := 11) rfl rfl (inb_e g2) ?_
    refine cal_e h (fun r3 M1 e4 h => ?_)
    refine x_cV1i F.1 (i := 12) rfl ml_RM_497 ok_RM_draw rfl (Nat.le_of_ble_eq_true rfl) (Nat.le_of_ble_eq_true rfl) (fun _ => t_RM_draw e4) ?_
    refine x_istore_n F.1 (i := 13) rfl (Nat.le_of_ble_eq_true rfl) (Nat.le_of_ble_eq_true rfl) rfl ?_
    refine x_aload_n F.1 (i := 14) rfl rfl ?_
    refine x_iload_n F.1 (i := 15) rfl rfl ?_
    refine x_aload_n F.1 (i := 16) rfl rfl ?_
    refine x_aload_n F.1 (i := 17) rfl rfl ?_
    refine x_getC F.1 (i := 18) rfl fl_RM_35 rfl (by rfl) ?_
    refine x_iconst F.1 (i := 19) rfl ic_0 ?_
    refine gd_e h (fun g5 h => ?_)
    refine x_iald F.1 (i := 20) rfl rfl (inb_e g5) ?_
    refine cal_e h (fun r6 M2 e7 h => ?_)
    refine x_cV1i F.1 (i := 21) rfl ml_RM_497 ok_RM_draw rfl (Nat.le_of_ble_eq_true rfl) (Nat.le_of_ble_eq_true rfl) (fun _ => t_RM_draw e7) ?_
    refine cal_e h (fun r8 M3 e9 h => ?_)
    refine x_cV2i F.1 (i := 22) rfl ml_RM_500 ok_RM_isEaten rfl (Nat.le_of_ble_eq_true rfl) (Nat.le_of_ble_eq_true rfl) (fun _ => t_RM_isEaten e9) ?_
    refine gd_e h (fun g10 h => ?_)
    exact x_zretf F (i := 23) rfl rfl (b01_e g10) h (res := (r, M')) hQ
  · replace h := if_T c h
    refine x_iconst F.1 (i := 5) rfl ic_0 ?_
    exact x_zretf F (i := 6) rfl rfl (Or.inl rfl) h (res := (r, M')) hQ
set_option maxHeartbeats 4000000 in
theorem t_RM_isPulled {w : kx_W} {d : Nat} {M : kx_M} {Q : Option Value → kx_M → Prop} {p1 : Int32} {p2 : Int32} {r : Int32} {M' : kx_M} (h : f_RM_isPulled p1 p2 M = some (r, M')) (hQ : Q (some (.int r)) M') : Ct w (d + 4) m_RM_isPulled [.ref 135, .int p1, .int p2] M Q := by
  refine mk_ct ok_RM_isPulled (Nat.le_of_ble_eq_true rfl) (fun G F => ?_)
  rw [f_RM_isPulled] at h
  show G 0 [some (.ref 135), some (.int p1), some (.int p2), none] [] M
  refine x_aload_n F.1 (i := 0) rfl rfl ?_
  refine x_iload_n F.1 (i := 1) rfl rfl ?_
  refine x_iload_n F.1 (i := 2) rfl rfl ?_
  refine cal_e h (fun r1 M1 e2 h => ?_)
  refine x_cV2i F.1 (i := 3) rfl ml_RM_368 ok_RM_pulls rfl (Nat.le_of_ble_eq_true rfl) (Nat.le_of_ble_eq_true rfl) (fun _ => t_RM_pulls e2) ?_
  refine x_istore_n F.1 (i := 4) rfl (Nat.le_of_ble_eq_true rfl) (Nat.le_of_ble_eq_true rfl) rfl ?_
  refine x_aload_n F.1 (i := 5) rfl rfl ?_
  refine x_dup F.1 (i := 6) rfl rfl ?_
  refine x_getI F.1 (i := 7) rfl fl_RM_491 rfl (by rfl) ?_
  refine x_iload_n F.1 (i := 8) rfl rfl ?_
  refine x_iadd F.1 (i := 9) rfl ?_
  refine x_putI F.1 (i := 10) rfl fl_RM_491 pf_RM_undone rfl (by rfl) ?_
  replace h := bd_e h
  refine x_iload_n F.1 (i := 11) rfl rfl ?_
  refine x_if_le F.1 (i := 12) (tgt := 25) rfl (by decide) (fun c => ?_) (fun c => ?_)
  · replace h := if_T c h
    refine x_iconst F.1 (i := 15) rfl ic_0 ?_
    exact x_zretf F (i := 16) rfl rfl (Or.inl rfl) h (res := (r, M')) hQ
  · replace h := if_F c h
    refine x_iconst F.1 (i := 13) rfl ic_1 ?_
    refine x_goto F.1 (i := 14) (tgt := 26) rfl (by decide) ?_
    exact x_zretf F (i := 16) rfl rfl (Or.inr rfl) h (res := (r, M')) hQ
set_option maxHeartbeats 4000000 in
theorem t_RM_does {w : kx_W} {d : Nat} {M : kx_M} {Q : Option Value → kx_M → Prop} {p1 : Int32} {r : Int32} {M' : kx_M} (h : f_RM_does p1 M = some (r, M')) (hQ : Q (some (.int r)) M') : Ct w (d + 6) m_RM_does [.ref 135, .int p1] M Q := by
  refine mk_ct ok_RM_does (Nat.le_of_ble_eq_true rfl) (fun G F => ?_)
  rw [f_RM_does] at h
  show G 0 [some (.ref 135), some (.int p1), none, none, none] [] M
  refine x_aload_n F.1 (i := 0) rfl rfl ?_
  refine x_getC F.1 (i := 1) rfl fl_RM_35 rfl (by rfl) ?_
  refine x_iload_n F.1 (i := 2) rfl rfl ?_
  refine gd_e h (fun g1 h => ?_)
  refine x_iald F.1 (i := 3) rfl rfl (inb_e g1) ?_
  refine x_istore_n F.1 (i := 4) rfl (Nat.le_of_ble_eq_true rfl) (Nat.le_of_ble_eq_true rfl) rfl ?_
  replace h := bd_e h
  refine x_aload_n F.1 (i := 5) rfl rfl ?_
  refine x_getC F.1 (i := 6) rfl fl_RM_35 rfl (by rfl) ?_
  refine x_iload_n F.1 (i := 7) rfl rfl ?_
  refine x_iconst F.1 (i := 8) rfl ic_1 ?_
  refine x_iadd F.1 (i := 9) rfl ?_
  refine gd_e h (fun g3 h => ?_)
  refine x_iald F.1 (i := 10) rfl rfl (inb_e g3) ?_
  refine x_istore_n F.1 (i := 11) rfl (Nat.le_of_ble_eq_true rfl) (Nat.le_of_ble_eq_true rfl) rfl ?_
  replace h := bd_e h
  refine x_aload_n F.1 (i := 12) rfl rfl ?_
  refine x_getC F.1 (i := 13) rfl fl_RM_35 rfl (by rfl) ?_
  refine x_iload_n F.1 (i := 14) rfl rfl ?_
  refine x_iconst F.1 (i := 15) rfl ic_2 ?_
  refine x_iadd F.1 (i := 16) rfl ?_
  refine gd_e h (fun g5 h => ?_)
  refine x_iald F.1 (i := 17) rfl rfl (inb_e g5) ?_
  refine x_istore F.1 (i := 18) rfl (Nat.le_of_ble_eq_true rfl) (Nat.le_of_ble_eq_true rfl) rfl ?_
  replace h := bd_e h
  refine x_iload_n F.1 (i := 19) rfl rfl ?_
  refine x_if_ne F.1 (i := 20) (tgt := 36) rfl (by decide) (fun c => ?_) (fun c => ?_)
  · replace h := if_F c h
    refine x_iload_n F.1 (i := 25) rfl rfl ?_
    refine x_iconst F.1 (i := 26) rfl ic_4 ?_
    refine x_icmp_ne F.1 (i := 27) (tgt := 46) rfl (by decide) (fun c => ?_) (fun c => ?_)
    · replace h := if_F c h
      refine x_aload_n F.1 (i := 31) rfl rfl ?_
      refine x_iload_n F.1 (i := 32) rfl rfl ?_
      refine cal_e h (fun r13 M3 e14 h => ?_)
      refine x_cV1i F.1 (i := 33) rfl ml_RM_330 ok_RM_isRowAt rfl (Nat.le_of_ble_eq_true rfl) (Nat.le_of_ble_eq_true rfl) (fun _ => t_RM_isRowAt e14) ?_
      refine x_if_ne F.1 (i := 34) (tgt := 56) rfl (by decide) (fun c => ?_) (fun c => ?_)
      · replace h := if_F c h
        refine x_iload_n F.1 (i := 37) rfl rfl ?_
        refine x_iconst F.1 (i := 38) rfl ic_1 ?_
        refine x_icmp_ne F.1 (i := 39) (tgt := 69) rfl (by decide) (fun c => ?_) (fun c => ?_)
        · replace h := if_F c h
          refine x_iload_n F.1 (i := 45) rfl rfl ?_
          refine x_iconst F.1 (i := 46) rfl ic_2 ?_
          refine x_icmp_ne F.1 (i := 47) (tgt := 82) rfl (by decide) (fun c => ?_) (fun c => ?_)
          · replace h := if_F c h
            refine x_aload_n F.1 (i := 53) rfl rfl ?_
            refine x_iload_n F.1 (i := 54) rfl rfl ?_
            refine x_iload F.1 (i := 55) rfl rfl ?_
            refine cal_e h (fun r21 M6 e22 h => ?_)
            refine x_cS2i F.1 (i := 56) rfl ml_RM_303 ok_RM_place (Nat.le_of_ble_eq_true rfl) (Nat.le_of_ble_eq_true rfl) (fun _ => t_RM_place e22) ?_
            refine cal_e h (fun r23 M7 e24 h => ?_)
            refine x_cV1i F.1 (i := 57) rfl ml_RM_374 ok_RM_darns rfl (Nat.le_of_ble_eq_true rfl) (Nat.le_of_ble_eq_true rfl) (fun _ => t_RM_darns e24) ?_
            refine x_pop F.1 (i := 58) rfl rfl ?_
            refine x_aload_n F.1 (i := 59) rfl rfl ?_
            refine x_dup F.1 (i := 60) rfl rfl ?_
            refine x_getI F.1 (i := 61) rfl fl_RM_512 rfl (by rfl) ?_
            refine x_iconst F.1 (i := 62) rfl ic_1 ?_
            refine x_iadd F.1 (i := 63) rfl ?_
            refine x_putI F.1 (i := 64) rfl fl_RM_512 pf_RM_darned rfl (by rfl) ?_
            replace h := bd_e h
            refine x_iconst F.1 (i := 65) rfl ic_1 ?_
            exact x_zretf F (i := 66) rfl rfl (Or.inr rfl) h (res := (r, M')) hQ
          · replace h := if_T c h
            refine x_aload_n F.1 (i := 48) rfl rfl ?_
            refine x_iload_n F.1 (i := 49) rfl rfl ?_
            refine x_iload F.1 (i := 50) rfl rfl ?_
            refine cal_e h (fun r18 M5 e19 h => ?_)
            refine x_cV2i F.1 (i := 51) rfl ml_RM_500 ok_RM_isEaten rfl (Nat.le_of_ble_eq_true rfl) (Nat.le_of_ble_eq_true rfl) (fun _ => t_RM_isEaten e19) ?_
            refine gd_e h (fun g20 h => ?_)
            exact x_zretf F (i := 52) rfl rfl (b01_e g20) h (res := (r, M')) hQ
        · replace h := if_T c h
          refine x_aload_n F.1 (i := 40) rfl rfl ?_
          refine x_iload_n F.1 (i := 41) rfl rfl ?_
          refine x_iload F.1 (i := 42) rfl rfl ?_
          refine cal_e h (fun r15 M4 e16 h => ?_)
          refine x_cV2i F.1 (i := 43) rfl ml_RM_509 ok_RM_isPulled rfl (Nat.le_of_ble_eq_true rfl) (Nat.le_of_ble_eq_true rfl) (fun _ => t_RM_isPulled e16) ?_
          refine gd_e h (fun g17 h => ?_)
          exact x_zretf F (i := 44) rfl rfl (b01_e g17) h (res := (r, M')) hQ
      · replace h := if_T c h
        refine x_iconst F.1 (i := 35) rfl ic_0 ?_
        exact x_zretf F (i := 36) rfl rfl (Or.inl rfl) h (res := (r, M')) hQ
    · replace h := if_T c h
      refine x_aload_n F.1 (i := 28) rfl rfl ?_
      refine cal_e h (fun r10 M2 e11 h => ?_)
      refine x_cV0i F.1 (i := 29) rfl ml_RM_506 ok_RM_isAny rfl (Nat.le_of_ble_eq_true rfl) (Nat.le_of_ble_eq_true rfl) (fun _ => t_RM_isAny e11) ?_
      refine gd_e h (fun g12 h => ?_)
      exact x_zretf F (i := 30) rfl rfl (b01_e g12) h (res := (r, M')) hQ
  · replace h := if_T c h
    refine x_aload_n F.1 (i := 21) rfl rfl ?_
    refine x_iload_n F.1 (i := 22) rfl rfl ?_
    refine cal_e h (fun r7 M1 e8 h => ?_)
    refine x_cV1i F.1 (i := 23) rfl ml_RM_503 ok_RM_anyYears rfl (Nat.le_of_ble_eq_true rfl) (Nat.le_of_ble_eq_true rfl) (fun _ => t_RM_anyYears e8) ?_
    refine gd_e h (fun g9 h => ?_)
    exact x_zretf F (i := 24) rfl rfl (b01_e g9) h (res := (r, M')) hQ
set_option maxHeartbeats 4000000 in
theorem t_RM_isWhole_l12 {w : kx_W} {d : Nat} {Q : Option Value → kx_M → Prop} {G : Nat → List (Option Value) → List Value → kx_M → Prop} (F : Sd w (d + 2) m_RM_isWhole Q G) {p1 : Int32} {res : Int32 × kx_M} (hQ : Q (some (.int res.1)) res.2) :
    ∀ (n : Nat) (x2 : Int32) (M : kx_M),
    f_RM_isWhole_l12 p1 n x2 M = some res → G 12 [some (.ref 135), some (.int p1), some (.int x2)] [] M := by
  intro n
  induction n with
  | zero =>
    intro x2 M h
    exact absurd h (by rw [f_RM_isWhole_l12]; exact fun z => nomatch z)
  | succ n ih =>
    intro x2 M h
    rw [f_RM_isWhole_l12] at h
    refine x_iload_n F.1 (i := 8) rfl rfl ?_
    refine x_aload_n F.1 (i := 9) rfl rfl ?_
    refine x_getC F.1 (i := 10) rfl fl_RM_35 rfl (by rfl) ?_
    refine x_iconst F.1 (i := 11) rfl ic_0 ?_
    refine gd_e h (fun g1 h => ?_)
    refine x_iald F.1 (i := 12) rfl rfl (inb_e g1) ?_
    refine x_icmp_ge F.1 (i := 13) (tgt := 42) rfl (by decide) (fun c => ?_) (fun c => ?_)
    · replace h := if_T c h
      refine x_iconst F.1 (i := 24) rfl ic_1 ?_
      exact x_zretf F (i := 25) rfl rfl (Or.inr rfl) h hQ
    · replace h := if_F c h
      refine x_aload_n F.1 (i := 14) rfl rfl ?_
      refine x_iload_n F.1 (i := 15) rfl rfl ?_
      refine x_iload_n F.1 (i := 16) rfl rfl ?_
      refine cal_e h (fun r2 M1 e3 h => ?_)
      refine x_cS2i F.1 (i := 17) rfl ml_RM_303 ok_RM_place (Nat.le_of_ble_eq_true rfl) (Nat.le_of_ble_eq_true rfl) (fun _ => t_RM_place e3) ?_
      refine cal_e h (fun r4 M2 e5 h => ?_)
      refine x_cV1i F.1 (i := 18) rfl ml_RM_306 ok_RM_isUndone rfl (Nat.le_of_ble_eq_true rfl) (Nat.le_of_ble_eq_true rfl) (fun _ => t_RM_isUndone e5) ?_
      refine x_if_eq F.1 (i := 19) (tgt := 36) rfl (by decide) (fun c => ?_) (fun c => ?_)
      · replace h := if_T c h
        refine x_iinc F.1 (i := 22) rfl rfl rfl (Nat.le_of_ble_eq_true rfl) rfl ?_
        replace h := bd_e h
        refine x_goto F.1 (i := 23) (tgt := 12) rfl (by decide) ?_
        exact x_wk F.1 (ih _ _ h) ⟨rfl, rfl, rfl, trivial⟩
      · replace h := if_F c h
        refine x_iconst F.1 (i := 20) rfl ic_0 ?_
        exact x_zretf F (i := 21) rfl rfl (Or.inl rfl) h hQ
set_option maxHeartbeats 4000000 in
theorem t_RM_isWhole {w : kx_W} {d : Nat} {M : kx_M} {Q : Option Value → kx_M → Prop} {p1 : Int32} {r : Int32} {M' : kx_M} (h : f_RM_isWhole p1 M = some (r, M')) (hQ : Q (some (.int r)) M') : Ct w (d + 2) m_RM_isWhole [.ref 135, .int p1] M Q := by
  refine mk_ct ok_RM_isWhole (Nat.le_of_ble_eq_true rfl) (fun G F => ?_)
  rw [f_RM_isWhole] at h
  show G 0 [some (.ref 135), some (.int p1), none] [] M
  refine x_aload_n F.1 (i := 0) rfl rfl ?_
  refine x_iload_n F.1 (i := 1) rfl rfl ?_
  refine cal_e h (fun r1 M1 e2 h => ?_)
  refine x_cV1i F.1 (i := 2) rfl ml_RM_330 ok_RM_isRowAt rfl (Nat.le_of_ble_eq_true rfl) (Nat.le_of_ble_eq_true rfl) (fun _ => t_RM_isRowAt e2) ?_
  refine x_if_ne F.1 (i := 3) (tgt := 10) rfl (by decide) (fun c => ?_) (fun c => ?_)
  · replace h := if_F c h
    refine x_iconst F.1 (i := 6) rfl ic_0 ?_
    refine x_istore_n F.1 (i := 7) rfl (Nat.le_of_ble_eq_true rfl) (Nat.le_of_ble_eq_true rfl) rfl ?_
    exact x_wk F.1 ((t_RM_isWhole_l12 F (res := (r, M')) hQ FU) _ _ h) ⟨rfl, rfl, rfl, trivial⟩
  · replace h := if_T c h
    refine x_iconst F.1 (i := 4) rfl ic_0 ?_
    exact x_zretf F (i := 5) rfl rfl (Or.inl rfl) h (res := (r, M')) hQ
set_option maxHeartbeats 4000000 in
theorem t_RM_isSo {w : kx_W} {d : Nat} {M : kx_M} {Q : Option Value → kx_M → Prop} {p1 : Int32} {r : Int32} {M' : kx_M} (h : f_RM_isSo p1 M = some (r, M')) (hQ : Q (some (.int r)) M') : Ct w (d + 4) m_RM_isSo [.ref 135, .int p1] M Q := by
  refine mk_ct ok_RM_isSo (Nat.le_of_ble_eq_true rfl) (fun G F => ?_)
  rw [f_RM_isSo] at h
  show G 0 [some (.ref 135), some (.int p1), none, none, none] [] M
  refine x_aload_n F.1 (i := 0) rfl rfl ?_
  refine x_getC F.1 (i := 1) rfl fl_RM_35 rfl (by rfl) ?_
  refine x_iload_n F.1 (i := 2) rfl rfl ?_
  refine x_bipush F.1 (i := 3) rfl bp_6 ?_
  refine x_iadd F.1 (i := 4) rfl ?_
  refine gd_e h (fun g1 h => ?_)
  refine x_iald F.1 (i := 5) rfl rfl (inb_e g1) ?_
  refine x_istore_n F.1 (i := 6) rfl (Nat.le_of_ble_eq_true rfl) (Nat.le_of_ble_eq_true rfl) rfl ?_
  replace h := bd_e h
  refine x_aload_n F.1 (i := 7) rfl rfl ?_
  refine x_getC F.1 (i := 8) rfl fl_RM_35 rfl (by rfl) ?_
  refine x_iload_n F.1 (i := 9) rfl rfl ?_
  refine x_iconst F.1 (i := 10) rfl ic_1 ?_
  refine x_iadd F.1 (i := 11) rfl ?_
  refine gd_e h (fun g3 h => ?_)
  refine x_iald F.1 (i := 12) rfl rfl (inb_e g3) ?_
  refine x_istore_n F.1 (i := 13) rfl (Nat.le_of_ble_eq_true rfl) (Nat.le_of_ble_eq_true rfl) rfl ?_
  replace h := bd_e h
  refine x_iload_n F.1 (i := 14) rfl rfl ?_
  refine x_if_ne F.1 (i := 15) (tgt := 37) rfl (by decide) (fun c => ?_) (fun c => ?_)
  · replace h := if_F c h
    refine x_iload_n F.1 (i := 24) rfl rfl ?_
    refine x_iconst F.1 (i := 25) rfl ic_1 ?_
    refine x_icmp_ne F.1 (i := 26) (tgt := 48) rfl (by decide) (fun c => ?_) (fun c => ?_)
    · replace h := if_F c h
      refine x_aload_n F.1 (i := 31) rfl rfl ?_
      refine x_iconst F.1 (i := 32) rfl ic_0 ?_
      refine cal_e h (fun r10 M3 e11 h => ?_)
      refine x_cV1i F.1 (i := 33) rfl ml_RM_324 ok_RM_sumOf rfl (Nat.le_of_ble_eq_true rfl) (Nat.le_of_ble_eq_true rfl) (fun _ => t_RM_sumOf e11) ?_
      refine x_istore F.1 (i := 34) rfl (Nat.le_of_ble_eq_true rfl) (Nat.le_of_ble_eq_true rfl) rfl ?_
      refine x_aload_n F.1 (i := 35) rfl rfl ?_
      refine x_getC F.1 (i := 36) rfl fl_RM_35 rfl (by rfl) ?_
      refine x_iload_n F.1 (i := 37) rfl rfl ?_
      refine x_bipush F.1 (i := 38) rfl bp_7 ?_
      refine x_iadd F.1 (i := 39) rfl ?_
      refine gd_e h (fun g12 h => ?_)
      refine x_iald F.1 (i := 40) rfl rfl (inb_e g12) ?_
      refine x_bipush F.1 (i := 41) rfl bp_60 ?_
      refine x_icmp_ne F.1 (i := 42) (tgt := 83) rfl (by decide) (fun c => ?_) (fun c => ?_)
      · replace h := if_F c h
        refine x_aload_n F.1 (i := 50) rfl rfl ?_
        refine x_getC F.1 (i := 51) rfl fl_RM_35 rfl (by rfl) ?_
        refine x_iload_n F.1 (i := 52) rfl rfl ?_
        refine x_bipush F.1 (i := 53) rfl bp_7 ?_
        refine x_iadd F.1 (i := 54) rfl ?_
        refine gd_e h (fun g13 h => ?_)
        refine x_iald F.1 (i := 55) rfl rfl (inb_e g13) ?_
        refine x_bipush F.1 (i := 56) rfl bp_62 ?_
        refine x_icmp_ne F.1 (i := 57) (tgt := 111) rfl (by decide) (fun c => ?_) (fun c => ?_)
        · replace h := if_F c h
          refine x_iload F.1 (i := 65) rfl rfl ?_
          refine x_iload_n F.1 (i := 66) rfl rfl ?_
          refine x_icmp_ne F.1 (i := 67) (tgt := 121) rfl (by decide) (fun c => ?_) (fun c => ?_)
          · replace h := if_F c h
            refine x_iconst F.1 (i := 70) rfl ic_0 ?_
            exact x_zretf F (i := 71) rfl rfl (Or.inl rfl) h (res := (r, M')) hQ
          · replace h := if_T c h
            refine x_iconst F.1 (i := 68) rfl ic_1 ?_
            refine x_goto F.1 (i := 69) (tgt := 122) rfl (by decide) ?_
            exact x_zretf F (i := 71) rfl rfl (Or.inr rfl) h (res := (r, M')) hQ
        · replace h := if_T c h
          refine x_iload F.1 (i := 58) rfl rfl ?_
          refine x_iload_n F.1 (i := 59) rfl rfl ?_
          refine x_icmp_le F.1 (i := 60) (tgt := 107) rfl (by decide) (fun c => ?_) (fun c => ?_)
          · replace h := if_T c h
            refine x_iconst F.1 (i := 63) rfl ic_0 ?_
            refine x_goto F.1 (i := 64) (tgt := 122) rfl (by decide) ?_
            exact x_zretf F (i := 71) rfl rfl (Or.inl rfl) h (res := (r, M')) hQ
          · replace h := if_F c h
            refine x_iconst F.1 (i := 61) rfl ic_1 ?_
            refine x_goto F.1 (i := 62) (tgt := 122) rfl (by decide) ?_
            exact x_zretf F (i := 71) rfl rfl (Or.inr rfl) h (res := (r, M')) hQ
      · replace h := if_T c h
        refine x_iload F.1 (i := 43) rfl rfl ?_
        refine x_iload_n F.1 (i := 44) rfl rfl ?_
        refine x_icmp_ge F.1 (i := 45) (tgt := 79) rfl (by decide) (fun c => ?_) (fun c => ?_)
        · replace h := if_T c h
          refine x_iconst F.1 (i := 48) rfl ic_0 ?_
          refine x_goto F.1 (i := 49) (tgt := 122) rfl (by decide) ?_
          exact x_zretf F (i := 71) rfl rfl (Or.inl rfl) h (res := (r, M')) hQ
        · replace h := if_F c h
          refine x_iconst F.1 (i := 46) rfl ic_1 ?_
          refine x_goto F.1 (i := 47) (tgt := 122) rfl (by decide) ?_
          exact x_zretf F (i := 71) rfl rfl (Or.inr rfl) h (res := (r, M')) hQ
    · replace h := if_T c h
      refine x_aload_n F.1 (i := 27) rfl rfl ?_
      refine x_iload_n F.1 (i := 28) rfl rfl ?_
      refine cal_e h (fun r7 M2 e8 h => ?_)
      refine x_cV1i F.1 (i := 29) rfl ml_RM_515 ok_RM_isWhole rfl (Nat.le_of_ble_eq_true rfl) (Nat.le_of_ble_eq_true rfl) (fun _ => t_RM_isWhole e8) ?_
      refine gd_e h (fun g9 h => ?_)
      exact x_zretf F (i := 30) rfl rfl (b01_e g9) h (res := (r, M')) hQ
  · replace h := if_T c h
    refine x_aload_n F.1 (i := 16) rfl rfl ?_
    refine x_iload_n F.1 (i := 17) rfl rfl ?_
    refine cal_e h (fun r5 M1 e6 h => ?_)
    refine x_cV1i F.1 (i := 18) rfl ml_RM_316 ok_RM_times rfl (Nat.le_of_ble_eq_true rfl) (Nat.le_of_ble_eq_true rfl) (fun _ => t_RM_times e6) ?_
    refine x_if_le F.1 (i := 19) (tgt := 35) rfl (by decide) (fun c => ?_) (fun c => ?_)
    · replace h := if_T c h
      refine x_iconst F.1 (i := 22) rfl ic_0 ?_
      exact x_zretf F (i := 23) rfl rfl (Or.inl rfl) h (res := (r, M')) hQ
    · replace h := if_F c h
      refine x_iconst F.1 (i := 20) rfl ic_1 ?_
      refine x_goto F.1 (i := 21) (tgt := 36) rfl (by decide) ?_
      exact x_zretf F (i := 23) rfl rfl (Or.inr rfl) h (res := (r, M')) hQ
set_option maxHeartbeats 4000000 in
theorem t_RM_doOne_l118 {w : kx_W} {d : Nat} {Q : Option Value → kx_M → Prop} {G : Nat → List (Option Value) → List Value → kx_M → Prop} (F : Sd w (d + 7) m_RM_doOne Q G) {p1 : Int32} {c_doAll : Int32 → Int32 → kx_M → Option (Unit × kx_M)} (hc_doAll : ∀ (k : Nat) (a1 : Int32) (a2 : Int32) (M : kx_M) (r : Unit) (M' : kx_M) (Q : Option Value → kx_M → Prop), c_doAll a1 a2 M = some (r, M') → Q none M' → Ct w (d + k) m_RM_doAll [.ref 135, .int a1, .int a2] M Q) {res : Unit × kx_M} (hQ : Q none res.2) :
    ∀ (n : Nat) (x2 : Int32) (x4 : Int32) (M : kx_M),
    f_RM_doOne_l118 c_doAll p1 n x2 x4 M = some res → G 118 [some (.ref 135), some (.int p1), some (.int x2), none, some (.int x4)] [] M := by
  intro n
  induction n with
  | zero =>
    intro x2 x4 M h
    exact absurd h (by rw [f_RM_doOne_l118]; exact fun z => nomatch z)
  | succ n ih =>
    intro x2 x4 M h
    rw [f_RM_doOne_l118] at h
    refine x_iload F.1 (i := 68) rfl rfl ?_
    refine x_aload_n F.1 (i := 69) rfl rfl ?_
    refine x_getC F.1 (i := 70) rfl fl_RM_35 rfl (by rfl) ?_
    refine x_iload_n F.1 (i := 71) rfl rfl ?_
    refine x_iconst F.1 (i := 72) rfl ic_1 ?_
    refine x_iadd F.1 (i := 73) rfl ?_
    refine gd_e h (fun g1 h => ?_)
    refine x_iald F.1 (i := 74) rfl rfl (inb_e g1) ?_
    refine x_icmp_ge F.1 (i := 75) (tgt := 160) rfl (by decide) (fun c => ?_) (fun c => ?_)
    · replace h := if_T c h
      refine x_goto F.1 (i := 92) (tgt := 174) rfl (by decide) ?_
      exact x_vretf F (i := 99) rfl rfl h hQ
    · replace h := if_F c h
      refine x_aload_n F.1 (i := 76) rfl rfl ?_
      refine x_getI F.1 (i := 77) rfl fl_RM_521 rfl (by rfl) ?_
      refine x_if_ne F.1 (i := 78) (tgt := 160) rfl (by decide) (fun c => ?_) (fun c => ?_)
      · replace h := if_F c h
        refine x_goto F.1 (i := 92) (tgt := 174) rfl (by decide) ?_
        exact x_vretf F (i := 99) rfl rfl h hQ
      · replace h := if_T c h
        refine x_aload_n F.1 (i := 79) rfl rfl ?_
        refine x_iload_n F.1 (i := 80) rfl rfl ?_
        refine x_iconst F.1 (i := 81) rfl ic_1 ?_
        refine x_iadd F.1 (i := 82) rfl ?_
        refine x_aload_n F.1 (i := 83) rfl rfl ?_
        refine x_getC F.1 (i := 84) rfl fl_RM_35 rfl (by rfl) ?_
        refine x_iload_n F.1 (i := 85) rfl rfl ?_
        refine x_bipush F.1 (i := 86) rfl bp_8 ?_
        refine x_iadd F.1 (i := 87) rfl ?_
        refine gd_e h (fun g2 h => ?_)
        refine x_iald F.1 (i := 88) rfl rfl (inb_e g2) ?_
        refine cal_e h (fun r3 M1 e4 h => ?_)
        refine x_cV2v F.1 (i := 89) rfl ml_RM_537 ok_RM_doAll rfl (Nat.le_of_ble_eq_true rfl) (Nat.le_of_ble_eq_true rfl) (fun Q9 => hc_doAll _ _ _ _ _ _ Q9 e4) ?_
        refine x_iinc F.1 (i := 90) rfl rfl rfl (Nat.le_of_ble_eq_true rfl) rfl ?_
        replace h := bd_e h
        refine x_goto F.1 (i := 91) (tgt := 118) rfl (by decide) ?_
        exact x_wk F.1 (ih _ _ _ h) ⟨rfl, rfl, rfl, rfl, trivial⟩
set_option maxHeartbeats 4000000 in
theorem t_RM_doOne_l109 {w : kx_W} {d : Nat} {Q : Option Value → kx_M → Prop} {G : Nat → List (Option Value) → List Value → kx_M → Prop} (F : Sd w (d + 7) m_RM_doOne Q G) {p1 : Int32} {c_doAll : Int32 → Int32 → kx_M → Option (Unit × kx_M)} (hc_doAll : ∀ (k : Nat) (a1 : Int32) (a2 : Int32) (M : kx_M) (r : Unit) (M' : kx_M) (Q : Option Value → kx_M → Prop), c_doAll a1 a2 M = some (r, M') → Q none M' → Ct w (d + k) m_RM_doAll [.ref 135, .int a1, .int a2] M Q) {res : Unit × kx_M} (hQ : Q none res.2) :
    ∀ (x2 : Int32) (x3 : Int32) (M : kx_M),
    f_RM_doOne_l109 c_doAll p1 x2 x3 M = some res → G 109 [some (.ref 135), some (.int p1), some (.int x2), some (.int x3), none] [] M := by
  intro x2 x3 M h
  rw [f_RM_doOne_l109] at h
  refine x_iload_n F.1 (i := 63) rfl rfl ?_
  refine x_bipush F.1 (i := 64) rfl bp_6 ?_
  refine x_icmp_ne F.1 (i := 65) (tgt := 163) rfl (by decide) (fun c => ?_) (fun c => ?_)
  · replace h := if_F c h
    refine x_iload_n F.1 (i := 93) rfl rfl ?_
    refine x_bipush F.1 (i := 94) rfl bp_6 ?_
    refine x_icmp_le F.1 (i := 95) (tgt := 174) rfl (by decide) (fun c => ?_) (fun c => ?_)
    · replace h := if_T c h
      exact x_vretf F (i := 99) rfl rfl h hQ
    · replace h := if_F c h
      refine x_aload_n F.1 (i := 96) rfl rfl ?_
      refine x_iconst F.1 (i := 97) rfl ic_1 ?_
      refine x_putZ F.1 (i := 98) rfl fl_RM_521 pf_RM_isOver rfl (by rfl) (Or.inr rfl) ?_
      replace h := bd_e h
      exact x_vretf F (i := 99) rfl rfl h hQ
  · replace h := if_T c h
    refine x_iconst F.1 (i := 66) rfl ic_0 ?_
    refine x_istore F.1 (i := 67) rfl (Nat.le_of_ble_eq_true rfl) (Nat.le_of_ble_eq_true rfl) rfl ?_
    exact x_wk F.1 ((t_RM_doOne_l118 F hc_doAll hQ FU) _ _ _ h) ⟨rfl, rfl, rfl, rfl, trivial⟩
set_option maxHeartbeats 4000000 in
theorem t_RM_doOne {w : kx_W} {d : Nat} {M : kx_M} {Q : Option Value → kx_M → Prop} {p1 : Int32} {r : Unit} {M' : kx_M} {c_doAll : Int32 → Int32 → kx_M → Option (Unit × kx_M)} (hc_doAll : ∀ (k : Nat) (a1 : Int32) (a2 : Int32) (M : kx_M) (r : Unit) (M' : kx_M) (Q : Option Value → kx_M → Prop), c_doAll a1 a2 M = some (r, M') → Q none M' → Ct w (d + k) m_RM_doAll [.ref 135, .int a1, .int a2] M Q) (h : f_RM_doOne c_doAll p1 M = some (r, M')) (hQ : Q none M') : Ct w (d + 7) m_RM_doOne [.ref 135, .int p1] M Q := by
  refine mk_ct ok_RM_doOne (Nat.le_of_ble_eq_true rfl) (fun G F => ?_)
  rw [f_RM_doOne] at h
  show G 0 [some (.ref 135), some (.int p1), none, none, none] [] M
  refine x_aload_n F.1 (i := 0) rfl rfl ?_
  refine x_getI F.1 (i := 1) rfl fl_RM_518 rfl (by rfl) ?_
  refine x_sipush F.1 (i := 2) rfl sp_300 ?_
  refine x_icmp_ne F.1 (i := 3) (tgt := 21) rfl (by decide) (fun c => ?_) (fun c => ?_)
  · replace h := if_F c h
    refine x_aload_n F.1 (i := 11) rfl rfl ?_
    refine x_dup F.1 (i := 12) rfl rfl ?_
    refine x_getI F.1 (i := 13) rfl fl_RM_518 rfl (by rfl) ?_
    refine x_iconst F.1 (i := 14) rfl ic_1 ?_
    refine x_iadd F.1 (i := 15) rfl ?_
    refine x_putI F.1 (i := 16) rfl fl_RM_518 pf_RM_done rfl (by rfl) ?_
    replace h := bd_e h
    refine x_sipush F.1 (i := 17) rfl sp_498 ?_
    refine x_bipush F.1 (i := 18) rfl bp_9 ?_
    refine x_iload_n F.1 (i := 19) rfl rfl ?_
    refine x_imul F.1 (i := 20) rfl ?_
    refine x_iadd F.1 (i := 21) rfl ?_
    refine x_istore_n F.1 (i := 22) rfl (Nat.le_of_ble_eq_true rfl) (Nat.le_of_ble_eq_true rfl) rfl ?_
    replace h := bd_e h
    refine x_aload_n F.1 (i := 23) rfl rfl ?_
    refine x_getC F.1 (i := 24) rfl fl_RM_35 rfl (by rfl) ?_
    refine x_iload_n F.1 (i := 25) rfl rfl ?_
    refine gd_e h (fun g2 h => ?_)
    refine x_iald F.1 (i := 26) rfl rfl (inb_e g2) ?_
    refine x_istore_n F.1 (i := 27) rfl (Nat.le_of_ble_eq_true rfl) (Nat.le_of_ble_eq_true rfl) rfl ?_
    replace h := bd_e h
    refine x_iload_n F.1 (i := 28) rfl rfl ?_
    refine x_iconst F.1 (i := 29) rfl ic_5 ?_
    refine x_icmp_ge F.1 (i := 30) (tgt := 77) rfl (by decide) (fun c => ?_) (fun c => ?_)
    · replace h := if_T c h
      refine x_iload_n F.1 (i := 44) rfl rfl ?_
      refine x_iconst F.1 (i := 45) rfl ic_5 ?_
      refine x_icmp_ne F.1 (i := 46) (tgt := 109) rfl (by decide) (fun c => ?_) (fun c => ?_)
      · replace h := if_F c h
        exact x_wk F.1 ((t_RM_doOne_l109 F hc_doAll (res := (r, M')) hQ) _ _ _ h) ⟨rfl, rfl, rfl, rfl, trivial⟩
      · replace h := if_T c h
        refine x_aload_n F.1 (i := 47) rfl rfl ?_
        refine x_iload_n F.1 (i := 48) rfl rfl ?_
        refine cal_e h (fun r4 M4 e5 h => ?_)
        refine x_cV1i F.1 (i := 49) rfl ml_RM_534 ok_RM_isSo rfl (Nat.le_of_ble_eq_true rfl) (Nat.le_of_ble_eq_true rfl) (fun _ => t_RM_isSo e5) ?_
        refine x_if_eq F.1 (i := 50) (tgt := 109) rfl (by decide) (fun c => ?_) (fun c => ?_)
        · replace h := if_T c h
          exact x_wk F.1 ((t_RM_doOne_l109 F hc_doAll (res := (r, M')) hQ) _ _ _ h) ⟨rfl, rfl, rfl, rfl, trivial⟩
        · replace h := if_F c h
          refine x_aload_n F.1 (i := 51) rfl rfl ?_
          refine x_iload_n F.1 (i := 52) rfl rfl ?_
          refine x_iconst F.1 (i := 53) rfl ic_1 ?_
          refine x_iadd F.1 (i := 54) rfl ?_
          refine x_aload_n F.1 (i := 55) rfl rfl ?_
          refine x_getC F.1 (i := 56) rfl fl_RM_35 rfl (by rfl) ?_
          refine x_iload_n F.1 (i := 57) rfl rfl ?_
          refine x_bipush F.1 (i := 58) rfl bp_8 ?_
          refine x_iadd F.1 (i := 59) rfl ?_
          refine gd_e h (fun g6 h => ?_)
          refine x_iald F.1 (i := 60) rfl rfl (inb_e g6) ?_
          refine cal_e h (fun r7 M5 e8 h => ?_)
          refine x_cV2v F.1 (i := 61) rfl ml_RM_537 ok_RM_doAll rfl (Nat.le_of_ble_eq_true rfl) (Nat.le_of_ble_eq_true rfl) (fun Q9 => hc_doAll _ _ _ _ _ _ Q9 e8) ?_
          refine x_goto F.1 (i := 62) (tgt := 174) rfl (by decide) ?_
          exact x_vretf F (i := 99) rfl rfl h (res := (r, M')) hQ
    · replace h := if_F c h
      refine x_aload_n F.1 (i := 31) rfl rfl ?_
      refine x_dup F.1 (i := 32) rfl rfl ?_
      refine x_getI F.1 (i := 33) rfl fl_RM_528 rfl (by rfl) ?_
      refine x_aload_n F.1 (i := 34) rfl rfl ?_
      refine x_iload_n F.1 (i := 35) rfl rfl ?_
      refine cal_e h (fun r9 M6 e10 h => ?_)
      refine x_cV1i F.1 (i := 36) rfl ml_RM_531 ok_RM_does rfl (Nat.le_of_ble_eq_true rfl) (Nat.le_of_ble_eq_true rfl) (fun _ => t_RM_does e10) ?_
      refine x_if_eq F.1 (i := 37) (tgt := 69) rfl (by decide) (fun c => ?_) (fun c => ?_)
      · replace h := if_T c h
        refine x_iconst F.1 (i := 40) rfl ic_1 ?_
        refine x_iadd F.1 (i := 41) rfl ?_
        refine x_putI F.1 (i := 42) rfl fl_RM_528 pf_RM_missed rfl (by rfl) ?_
        replace h := bd_e h
        refine x_goto F.1 (i := 43) (tgt := 174) rfl (by decide) ?_
        exact x_vretf F (i := 99) rfl rfl h (res := (r, M')) hQ
      · replace h := if_F c h
        refine x_iconst F.1 (i := 38) rfl ic_0 ?_
        refine x_goto F.1 (i := 39) (tgt := 70) rfl (by decide) ?_
        refine x_iadd F.1 (i := 41) rfl ?_
        refine x_putI F.1 (i := 42) rfl fl_RM_528 pf_RM_missed rfl (by rfl) ?_
        replace h := bd_e h
        refine x_goto F.1 (i := 43) (tgt := 174) rfl (by decide) ?_
        exact x_vretf F (i := 99) rfl rfl h (res := (r, M')) hQ
  · replace h := if_T c h
    refine x_aload_n F.1 (i := 4) rfl rfl ?_
    refine x_iconst F.1 (i := 5) rfl ic_1 ?_
    refine x_putZ F.1 (i := 6) rfl fl_RM_521 pf_RM_isOver rfl (by rfl) (Or.inr rfl) ?_
    replace h := bd_e h
    refine x_aload_n F.1 (i := 7) rfl rfl ?_
    refine x_iconst F.1 (i := 8) rfl ic_1 ?_
    refine x_putI F.1 (i := 9) rfl fl_RM_525 pf_RM_leftOver rfl (by rfl) ?_
    replace h := bd_e h
    exact x_vretf F (i := 10) rfl rfl h (res := (r, M')) hQ
set_option maxHeartbeats 4000000 in
theorem t_RM_doAll_l2 {w : kx_W} {d : Nat} {Q : Option Value → kx_M → Prop} {G : Nat → List (Option Value) → List Value → kx_M → Prop} (F : Sd w (d + 8) m_RM_doAll Q G) {p1 : Int32} {p2 : Int32} {c_doAll : Int32 → Int32 → kx_M → Option (Unit × kx_M)} (hc_doAll : ∀ (k : Nat) (a1 : Int32) (a2 : Int32) (M : kx_M) (r : Unit) (M' : kx_M) (Q : Option Value → kx_M → Prop), c_doAll a1 a2 M = some (r, M') → Q none M' → Ct w (d + k) m_RM_doAll [.ref 135, .int a1, .int a2] M Q) {res : Unit × kx_M} (hQ : Q none res.2) :
    ∀ (n : Nat) (x3 : Int32) (M : kx_M),
    f_RM_doAll_l2 c_doAll p1 p2 n x3 M = some res → G 2 [some (.ref 135), none, some (.int p2), some (.int x3)] [] M := by
  intro n
  induction n with
  | zero =>
    intro x3 M h
    exact absurd h (by rw [f_RM_doAll_l2]; exact fun z => nomatch z)
  | succ n ih =>
    intro x3 M h
    rw [f_RM_doAll_l2] at h
    refine x_iload_n F.1 (i := 2) rfl rfl ?_
    refine x_iload_n F.1 (i := 3) rfl rfl ?_
    refine x_icmp_ge F.1 (i := 4) (tgt := 39) rfl (by decide) (fun c => ?_) (fun c => ?_)
    · replace h := if_T c h
      exact x_vretf F (i := 23) rfl rfl h hQ
    · replace h := if_F c h
      refine x_aload_n F.1 (i := 5) rfl rfl ?_
      refine x_getI F.1 (i := 6) rfl fl_RM_521 rfl (by rfl) ?_
      refine x_if_ne F.1 (i := 7) (tgt := 39) rfl (by decide) (fun c => ?_) (fun c => ?_)
      · replace h := if_F c h
        exact x_vretf F (i := 23) rfl rfl h hQ
      · replace h := if_T c h
        refine x_aload_n F.1 (i := 8) rfl rfl ?_
        refine x_iload_n F.1 (i := 9) rfl rfl ?_
        refine cal_e h (fun r1 M1 e2 h => ?_)
        refine x_cV1v F.1 (i := 10) rfl ml_RM_540 ok_RM_doOne rfl (Nat.le_of_ble_eq_true rfl) (Nat.le_of_ble_eq_true rfl) (fun _ => t_RM_doOne hc_doAll e2) ?_
        refine x_aload_n F.1 (i := 11) rfl rfl ?_
        refine x_getC F.1 (i := 12) rfl fl_RM_35 rfl (by rfl) ?_
        refine x_sipush F.1 (i := 13) rfl sp_498 ?_
        refine x_bipush F.1 (i := 14) rfl bp_9 ?_
        refine x_iload_n F.1 (i := 15) rfl rfl ?_
        refine x_imul F.1 (i := 16) rfl ?_
        refine x_iadd F.1 (i := 17) rfl ?_
        refine x_bipush F.1 (i := 18) rfl bp_8 ?_
        refine x_iadd F.1 (i := 19) rfl ?_
        refine gd_e h (fun g3 h => ?_)
        refine x_iald F.1 (i := 20) rfl rfl (inb_e g3) ?_
        refine x_istore_n F.1 (i := 21) rfl (Nat.le_of_ble_eq_true rfl) (Nat.le_of_ble_eq_true rfl) rfl ?_
        replace h := bd_e h
        refine x_goto F.1 (i := 22) (tgt := 2) rfl (by decide) ?_
        exact x_wk F.1 (ih _ _ h) ⟨rfl, rfl, rfl, trivial⟩
set_option maxHeartbeats 4000000 in
theorem t_RM_doAll {w : kx_W} {d : Nat} {M : kx_M} {Q : Option Value → kx_M → Prop} {p1 : Int32} {p2 : Int32} {r : Unit} {M' : kx_M} {c_doAll : Int32 → Int32 → kx_M → Option (Unit × kx_M)} (hc_doAll : ∀ (k : Nat) (a1 : Int32) (a2 : Int32) (M : kx_M) (r : Unit) (M' : kx_M) (Q : Option Value → kx_M → Prop), c_doAll a1 a2 M = some (r, M') → Q none M' → Ct w (d + k) m_RM_doAll [.ref 135, .int a1, .int a2] M Q) (h : f_RM_doAll c_doAll p1 p2 M = some (r, M')) (hQ : Q none M') : Ct w (d + 8) m_RM_doAll [.ref 135, .int p1, .int p2] M Q := by
  refine mk_ct ok_RM_doAll (Nat.le_of_ble_eq_true rfl) (fun G F => ?_)
  rw [f_RM_doAll] at h
  show G 0 [some (.ref 135), some (.int p1), some (.int p2), none] [] M
  refine x_iload_n F.1 (i := 0) rfl rfl ?_
  refine x_istore_n F.1 (i := 1) rfl (Nat.le_of_ble_eq_true rfl) (Nat.le_of_ble_eq_true rfl) rfl ?_
  exact x_wk F.1 ((t_RM_doAll_l2 F hc_doAll (res := (r, M')) hQ FU) _ _ h) ⟨rfl, rfl, rfl, trivial⟩
theorem tn_RM_doAll {w : kx_W} : ∀ (n d : Nat) (a1 : Int32) (a2 : Int32) (M : kx_M) (r : Unit) (M' : kx_M) (Q : Option Value → kx_M → Prop), g_RM_doAll n a1 a2 M = some (r, M') → Q none M' → Ct w (d + 8 * n + 8) m_RM_doAll [.ref 135, .int a1, .int a2] M Q := by
  intro n
  induction n with
  | zero => intro d a1 a2 M r M' Q h; exact nomatch h
  | succ n ih =>
    intro d a1 a2 M r M' Q h hQ
    have := t_RM_doAll (w := w) (d := d + 8 * n + 8) (M := M) (Q := Q) (c_doAll := g_RM_doAll n) (fun k a1 a2 M r M' Q h hQ => by
      have := ih (d + k) a1 a2 M r M' Q h hQ
      rwa [show d + k + 8 * n + 8 = d + 8 * n + 8 + k by omega] at this) h hQ
    rwa [show d + 8 * n + 8 + 8 = d + 8 * (n + 1) + 8 by omega] at this
theorem tg_RM_doAll {w : kx_W} {d : Nat} (a1 : Int32) (a2 : Int32) {M : kx_M} {r : Unit} {M' : kx_M} {Q : Option Value → kx_M → Prop} (h : g_RM_doAll 5 a1 a2 M = some (r, M')) (hQ : Q none M') : Ct w (d + 48) m_RM_doAll [.ref 135, .int a1, .int a2] M Q := tn_RM_doAll 5 d a1 a2 M r M' Q h hQ
set_option maxHeartbeats 4000000 in
theorem t_RM_runsCenturies {w : kx_W} {d : Nat} {M : kx_M} {Q : Option Value → kx_M → Prop} {p1 : Int32} {r : Unit} {M' : kx_M} (h : f_RM_runsCenturies p1 M = some (r, M')) (hQ : Q none M') : Ct w (d + 49) m_RM_runsCenturies [.ref 135, .int p1] M Q := by
  refine mk_ct ok_RM_runsCenturies (Nat.le_of_ble_eq_true rfl) (fun G F => ?_)
  rw [f_RM_runsCenturies] at h
  show G 0 [some (.ref 135), some (.int p1)] [] M
  refine x_aload_n F.1 (i := 0) rfl rfl ?_
  refine x_iload_n F.1 (i := 1) rfl rfl ?_
  refine x_putI F.1 (i := 2) rfl fl_RM_487 pf_RM_random rfl (by rfl) ?_
  replace h := bd_e h
  refine x_aload_n F.1 (i := 3) rfl rfl ?_
  refine x_iconst F.1 (i := 4) rfl ic_0 ?_
  refine x_putI F.1 (i := 5) rfl fl_RM_518 pf_RM_done rfl (by rfl) ?_
  replace h := bd_e h
  refine x_aload_n F.1 (i := 6) rfl rfl ?_
  refine x_iconst F.1 (i := 7) rfl ic_0 ?_
  refine x_putI F.1 (i := 8) rfl fl_RM_528 pf_RM_missed rfl (by rfl) ?_
  replace h := bd_e h
  refine x_aload_n F.1 (i := 9) rfl rfl ?_
  refine x_iconst F.1 (i := 10) rfl ic_0 ?_
  refine x_putI F.1 (i := 11) rfl fl_RM_494 pf_RM_years rfl (by rfl) ?_
  replace h := bd_e h
  refine x_aload_n F.1 (i := 12) rfl rfl ?_
  refine x_iconst F.1 (i := 13) rfl ic_0 ?_
  refine x_putI F.1 (i := 14) rfl fl_RM_491 pf_RM_undone rfl (by rfl) ?_
  replace h := bd_e h
  refine x_aload_n F.1 (i := 15) rfl rfl ?_
  refine x_iconst F.1 (i := 16) rfl ic_0 ?_
  refine x_putI F.1 (i := 17) rfl fl_RM_512 pf_RM_darned rfl (by rfl) ?_
  replace h := bd_e h
  refine x_aload_n F.1 (i := 18) rfl rfl ?_
  refine x_iconst F.1 (i := 19) rfl ic_0 ?_
  refine x_putI F.1 (i := 20) rfl fl_RM_525 pf_RM_leftOver rfl (by rfl) ?_
  replace h := bd_e h
  refine x_aload_n F.1 (i := 21) rfl rfl ?_
  refine x_iconst F.1 (i := 22) rfl ic_0 ?_
  refine x_putZ F.1 (i := 23) rfl fl_RM_521 pf_RM_isOver rfl (by rfl) (Or.inl rfl) ?_
  replace h := bd_e h
  refine x_aload_n F.1 (i := 24) rfl rfl ?_
  refine x_iconst F.1 (i := 25) rfl ic_0 ?_
  refine x_aload_n F.1 (i := 26) rfl rfl ?_
  refine x_getC F.1 (i := 27) rfl fl_RM_35 rfl (by rfl) ?_
  refine x_sipush F.1 (i := 28) rfl sp_497 ?_
  refine gd_e h (fun g1 h => ?_)
  refine x_iald F.1 (i := 29) rfl rfl (inb_e g1) ?_
  refine cal_e h (fun r2 M9 e3 h => ?_)
  refine x_cV2v F.1 (i := 30) rfl ml_RM_537 ok_RM_doAll rfl (Nat.le_of_ble_eq_true rfl) (Nat.le_of_ble_eq_true rfl) (fun _ => tg_RM_doAll _ _ e3) ?_
  exact x_vretf F (i := 31) rfl rfl h (res := (r, M')) hQ
set_option maxHeartbeats 4000000 in
theorem t_RM_live {w : kx_W} {d : Nat} {M : kx_M} {Q : Option Value → kx_M → Prop} {p1 : Int32} {r : Int32} {M' : kx_M} (h : f_RM_live p1 M = some (r, M')) (hQ : Q (some (.int r)) M') : Ct w (d + 50) m_RM_live [.ref 135, .int p1] M Q := by
  refine mk_ct ok_RM_live (Nat.le_of_ble_eq_true rfl) (fun G F => ?_)
  rw [f_RM_live] at h
  show G 0 [some (.ref 135), some (.int p1)] [] M
  refine x_aload_n F.1 (i := 0) rfl rfl ?_
  refine x_iconst F.1 (i := 1) rfl ic_0 ?_
  refine x_putI F.1 (i := 2) rfl fl_RM_68 pf_RM_thrown rfl (by rfl) ?_
  replace h := bd_e h
  refine x_aload_n F.1 (i := 3) rfl rfl ?_
  refine x_iconst F.1 (i := 4) rfl ic_0 ?_
  refine x_putI F.1 (i := 5) rfl fl_RM_71 pf_RM_status rfl (by rfl) ?_
  replace h := bd_e h
  refine x_iload_n F.1 (i := 6) rfl rfl ?_
  refine x_i2l F.1 (i := 7) rfl ?_
  refine x_lconst F.1 (i := 8) (v := 0) rfl rfl ?_
  refine x_ldc2_w F.1 (i := 9) rfl cl_RM_543 ?_
  refine cal_e h (fun r1 M3 e2 h => ?_)
  refine x_cS3i F.1 (i := 10) rfl ml_RM_103 ok_RM_isIn (Nat.le_of_ble_eq_true rfl) (Nat.le_of_ble_eq_true rfl) (fun _ => t_RM_isIn e2) ?_
  refine x_if_ne F.1 (i := 11) (tgt := 28) rfl (by decide) (fun c => ?_) (fun c => ?_)
  · replace h := if_F c h
    refine x_aload_n F.1 (i := 16) rfl rfl ?_
    refine x_getC F.1 (i := 17) rfl fl_RM_35 rfl (by rfl) ?_
    refine x_sipush F.1 (i := 18) rfl sp_496 ?_
    refine gd_e h (fun g5 h => ?_)
    refine x_iald F.1 (i := 19) rfl rfl (inb_e g5) ?_
    refine x_if_ne F.1 (i := 20) (tgt := 46) rfl (by decide) (fun c => ?_) (fun c => ?_)
    · replace h := if_F c h
      refine x_aload_n F.1 (i := 25) rfl rfl ?_
      refine x_iload_n F.1 (i := 26) rfl rfl ?_
      refine cal_e h (fun r8 M6 e9 h => ?_)
      refine x_cV1v F.1 (i := 27) rfl ml_RM_545 ok_RM_runsCenturies rfl (Nat.le_of_ble_eq_true rfl) (Nat.le_of_ble_eq_true rfl) (fun _ => t_RM_runsCenturies e9) ?_
      refine x_aload_n F.1 (i := 28) rfl rfl ?_
      refine x_getC F.1 (i := 29) rfl fl_RM_65 rfl (by rfl) ?_
      refine x_iconst F.1 (i := 30) rfl ic_0 ?_
      refine x_aload_n F.1 (i := 31) rfl rfl ?_
      refine x_getI F.1 (i := 32) rfl fl_RM_528 rfl (by rfl) ?_
      refine gd_e h (fun g10 h => ?_)
      refine x_iast F.1 (i := 33) rfl rfl (inb_e g10) ?_
      replace h := bd_e h
      refine x_aload_n F.1 (i := 34) rfl rfl ?_
      refine x_getC F.1 (i := 35) rfl fl_RM_65 rfl (by rfl) ?_
      refine x_iconst F.1 (i := 36) rfl ic_1 ?_
      refine x_aload_n F.1 (i := 37) rfl rfl ?_
      refine x_getI F.1 (i := 38) rfl fl_RM_494 rfl (by rfl) ?_
      refine gd_e h (fun g11 h => ?_)
      refine x_iast F.1 (i := 39) rfl rfl (inb_e g11) ?_
      replace h := bd_e h
      refine x_aload_n F.1 (i := 40) rfl rfl ?_
      refine x_getC F.1 (i := 41) rfl fl_RM_65 rfl (by rfl) ?_
      refine x_iconst F.1 (i := 42) rfl ic_2 ?_
      refine x_aload_n F.1 (i := 43) rfl rfl ?_
      refine x_getI F.1 (i := 44) rfl fl_RM_491 rfl (by rfl) ?_
      refine gd_e h (fun g12 h => ?_)
      refine x_iast F.1 (i := 45) rfl rfl (inb_e g12) ?_
      replace h := bd_e h
      refine x_aload_n F.1 (i := 46) rfl rfl ?_
      refine x_getC F.1 (i := 47) rfl fl_RM_65 rfl (by rfl) ?_
      refine x_iconst F.1 (i := 48) rfl ic_3 ?_
      refine x_aload_n F.1 (i := 49) rfl rfl ?_
      refine x_getI F.1 (i := 50) rfl fl_RM_512 rfl (by rfl) ?_
      refine gd_e h (fun g13 h => ?_)
      refine x_iast F.1 (i := 51) rfl rfl (inb_e g13) ?_
      replace h := bd_e h
      refine x_aload_n F.1 (i := 52) rfl rfl ?_
      refine x_getC F.1 (i := 53) rfl fl_RM_65 rfl (by rfl) ?_
      refine x_iconst F.1 (i := 54) rfl ic_4 ?_
      refine x_aload_n F.1 (i := 55) rfl rfl ?_
      refine x_getI F.1 (i := 56) rfl fl_RM_525 rfl (by rfl) ?_
      refine gd_e h (fun g14 h => ?_)
      refine x_iast F.1 (i := 57) rfl rfl (inb_e g14) ?_
      replace h := bd_e h
      refine x_aload_n F.1 (i := 58) rfl rfl ?_
      refine x_iconst F.1 (i := 59) rfl ic_1 ?_
      refine x_putZ F.1 (i := 60) rfl fl_RM_548 pf_RM_hasLived rfl (by rfl) (Or.inr rfl) ?_
      replace h := bd_e h
      refine x_aload_n F.1 (i := 61) rfl rfl ?_
      refine x_getI F.1 (i := 62) rfl fl_RM_518 rfl (by rfl) ?_
      exact x_iretf F (i := 63) rfl rfl h (res := (r, M')) hQ
    · replace h := if_T c h
      refine x_aload_n F.1 (i := 21) rfl rfl ?_
      refine x_bipush F.1 (i := 22) rfl bp_8 ?_
      refine cal_e h (fun r6 M5 e7 h => ?_)
      refine x_cV1i F.1 (i := 23) rfl ml_RM_321 ok_RM_refuse rfl (Nat.le_of_ble_eq_true rfl) (Nat.le_of_ble_eq_true rfl) (fun _ => t_RM_refuse e7) ?_
      exact x_iretf F (i := 24) rfl rfl h (res := (r, M')) hQ
  · replace h := if_T c h
    refine x_aload_n F.1 (i := 12) rfl rfl ?_
    refine x_iconst F.1 (i := 13) rfl ic_5 ?_
    refine cal_e h (fun r3 M4 e4 h => ?_)
    refine x_cV1i F.1 (i := 14) rfl ml_RM_321 ok_RM_refuse rfl (Nat.le_of_ble_eq_true rfl) (Nat.le_of_ble_eq_true rfl) (fun _ => t_RM_refuse e4) ?_
    exact x_iretf F (i := 15) rfl rfl h (res := (r, M')) hQ
set_option maxHeartbeats 4000000 in
theorem t_RM_lived {w : kx_W} {d : Nat} {M : kx_M} {Q : Option Value → kx_M → Prop} {p1 : Int32} {r : Int32} {M' : kx_M} (h : f_RM_lived p1 M = some (r, M')) (hQ : Q (some (.int r)) M') : Ct w (d + 1) m_RM_lived [.ref 135, .int p1] M Q := by
  refine mk_ct ok_RM_lived (Nat.le_of_ble_eq_true rfl) (fun G F => ?_)
  rw [f_RM_lived] at h
  show G 0 [some (.ref 135), some (.int p1)] [] M
  refine x_aload_n F.1 (i := 0) rfl rfl ?_
  refine x_iconst F.1 (i := 1) rfl ic_0 ?_
  refine x_putI F.1 (i := 2) rfl fl_RM_68 pf_RM_thrown rfl (by rfl) ?_
  replace h := bd_e h
  refine x_aload_n F.1 (i := 3) rfl rfl ?_
  refine x_iconst F.1 (i := 4) rfl ic_0 ?_
  refine x_putI F.1 (i := 5) rfl fl_RM_71 pf_RM_status rfl (by rfl) ?_
  replace h := bd_e h
  refine x_iload_n F.1 (i := 6) rfl rfl ?_
  refine x_i2l F.1 (i := 7) rfl ?_
  refine x_lconst F.1 (i := 8) (v := 0) rfl rfl ?_
  refine x_ldc2_w F.1 (i := 9) rfl cl_RM_551 ?_
  refine cal_e h (fun r1 M3 e2 h => ?_)
  refine x_cS3i F.1 (i := 10) rfl ml_RM_103 ok_RM_isIn (Nat.le_of_ble_eq_true rfl) (Nat.le_of_ble_eq_true rfl) (fun _ => t_RM_isIn e2) ?_
  refine x_if_ne F.1 (i := 11) (tgt := 28) rfl (by decide) (fun c => ?_) (fun c => ?_)
  · replace h := if_F c h
    refine x_aload_n F.1 (i := 16) rfl rfl ?_
    refine x_getI F.1 (i := 17) rfl fl_RM_548 rfl (by rfl) ?_
    refine x_if_eq F.1 (i := 18) (tgt := 44) rfl (by decide) (fun c => ?_) (fun c => ?_)
    · replace h := if_T c h
      refine x_aload_n F.1 (i := 24) rfl rfl ?_
      refine x_bipush F.1 (i := 25) rfl bp_8 ?_
      refine cal_e h (fun r5 M5 e6 h => ?_)
      refine x_cV1i F.1 (i := 26) rfl ml_RM_321 ok_RM_refuse rfl (Nat.le_of_ble_eq_true rfl) (Nat.le_of_ble_eq_true rfl) (fun _ => t_RM_refuse e6) ?_
      exact x_iretf F (i := 27) rfl rfl h (res := (r, M')) hQ
    · replace h := if_F c h
      refine x_aload_n F.1 (i := 19) rfl rfl ?_
      refine x_getC F.1 (i := 20) rfl fl_RM_65 rfl (by rfl) ?_
      refine x_iload_n F.1 (i := 21) rfl rfl ?_
      refine gd_e h (fun g7 h => ?_)
      refine x_iald F.1 (i := 22) rfl rfl (inb_e g7) ?_
      refine x_goto F.1 (i := 23) (tgt := 50) rfl (by decide) ?_
      exact x_iretf F (i := 27) rfl rfl h (res := (r, M')) hQ
  · replace h := if_T c h
    refine x_aload_n F.1 (i := 12) rfl rfl ?_
    refine x_iconst F.1 (i := 13) rfl ic_5 ?_
    refine cal_e h (fun r3 M4 e4 h => ?_)
    refine x_cV1i F.1 (i := 14) rfl ml_RM_321 ok_RM_refuse rfl (Nat.le_of_ble_eq_true rfl) (Nat.le_of_ble_eq_true rfl) (fun _ => t_RM_refuse e4) ?_
    exact x_iretf F (i := 15) rfl rfl h (res := (r, M')) hQ
set_option maxHeartbeats 4000000 in
theorem t_RM_mean_l119 {w : kx_W} {d : Nat} {Q : Option Value → kx_M → Prop} {G : Nat → List (Option Value) → List Value → kx_M → Prop} (F : Sd w (d + 50) m_RM_mean Q G) {p1 : Int32} {p2 : Int32} {k93 : Int64 → Int32 → kx_M → Option (Int32 × kx_M)} {res : Int32 × kx_M} (hQ : Q (some (.int res.1)) res.2) (hk93 : ∀ (x3 : Int64) (x5 : Int32) (M : kx_M), k93 x3 x5 M = some res → G 93 [some (.ref 135), some (.int p1), some (.int p2), some (.long x3), none, some (.int x5), none] [] M) :
    ∀ (n : Nat) (x3 : Int64) (x5 : Int32) (x6 : Int32) (M : kx_M),
    f_RM_mean_l119 p1 p2 k93 n x3 x5 x6 M = some res → G 119 [some (.ref 135), some (.int p1), some (.int p2), some (.long x3), none, some (.int x5), some (.int x6)] [] M := by
  intro n
  induction n with
  | zero =>
    intro x3 x5 x6 M h
    exact absurd h (by rw [f_RM_mean_l119]; exact fun z => nomatch z)
  | succ n ih =>
    intro x3 x5 x6 M h
    rw [f_RM_mean_l119] at h
    refine x_iload F.1 (i := 70) rfl rfl ?_
    refine x_sipush F.1 (i := 71) rfl sp_496 ?_
    refine x_icmp_ge F.1 (i := 72) (tgt := 147) rfl (by decide) (fun c => ?_) (fun c => ?_)
    · replace h := if_T c h
      refine x_iinc F.1 (i := 83) rfl rfl rfl (Nat.le_of_ble_eq_true rfl) rfl ?_
      replace h := bd_e h
      refine x_goto F.1 (i := 84) (tgt := 93) rfl (by decide) ?_
      exact x_wk F.1 (hk93 _ _ _ h) ⟨rfl, rfl, rfl, rfl, rfl, trivial⟩
    · replace h := if_F c h
      refine x_aload_n F.1 (i := 73) rfl rfl ?_
      refine x_getC F.1 (i := 74) rfl fl_RM_35 rfl (by rfl) ?_
      refine x_iload F.1 (i := 75) rfl rfl ?_
      refine x_aload_n F.1 (i := 76) rfl rfl ?_
      refine x_getC F.1 (i := 77) rfl fl_RM_41 rfl (by rfl) ?_
      refine x_iload F.1 (i := 78) rfl rfl ?_
      refine gd_e h (fun g2 h => ?_)
      refine x_iald F.1 (i := 79) rfl rfl (inb_e g2) ?_
      refine gd_e h (fun g3 h => ?_)
      refine x_iast F.1 (i := 80) rfl rfl (inb_e g3) ?_
      replace h := bd_e h
      refine x_iinc F.1 (i := 81) rfl rfl rfl (Nat.le_of_ble_eq_true rfl) rfl ?_
      replace h := bd_e h
      refine x_goto F.1 (i := 82) (tgt := 119) rfl (by decide) ?_
      exact x_wk F.1 (ih _ _ _ _ h) ⟨rfl, rfl, rfl, rfl, rfl, rfl, trivial⟩
set_option maxHeartbeats 4000000 in
theorem t_RM_mean_l93 {w : kx_W} {d : Nat} {Q : Option Value → kx_M → Prop} {G : Nat → List (Option Value) → List Value → kx_M → Prop} (F : Sd w (d + 50) m_RM_mean Q G) {p1 : Int32} {p2 : Int32} {res : Int32 × kx_M} (hQ : Q (some (.int res.1)) res.2) :
    ∀ (n : Nat) (x3 : Int64) (x5 : Int32) (M : kx_M),
    f_RM_mean_l93 p1 p2 n x3 x5 M = some res → G 93 [some (.ref 135), some (.int p1), some (.int p2), some (.long x3), none, some (.int x5), none] [] M := by
  intro n
  induction n with
  | zero =>
    intro x3 x5 M h
    exact absurd h (by rw [f_RM_mean_l93]; exact fun z => nomatch z)
  | succ n ih =>
    intro x3 x5 M h
    rw [f_RM_mean_l93] at h
    refine x_iload F.1 (i := 53) rfl rfl ?_
    refine x_iload_n F.1 (i := 54) rfl rfl ?_
    refine x_icmp_ge F.1 (i := 55) (tgt := 153) rfl (by decide) (fun c => ?_) (fun c => ?_)
    · replace h := if_T c h
      refine x_aload_n F.1 (i := 85) rfl rfl ?_
      refine x_lload_n F.1 (i := 86) rfl rfl ?_
      refine x_iload_n F.1 (i := 87) rfl rfl ?_
      refine x_i2l F.1 (i := 88) rfl ?_
      refine cal_e h (fun r1 M1 e2 h => ?_)
      refine x_cV2i F.1 (i := 89) rfl ml_RM_480 ok_RM_fraction rfl (Nat.le_of_ble_eq_true rfl) (Nat.le_of_ble_eq_true rfl) (fun _ => t_RM_fraction e2) ?_
      refine gd_e h (fun g3 h => ?_)
      exact x_zretf F (i := 90) rfl rfl (b01_e g3) h hQ
    · replace h := if_F c h
      refine x_aload_n F.1 (i := 56) rfl rfl ?_
      refine x_iload_n F.1 (i := 57) rfl rfl ?_
      refine x_iload F.1 (i := 58) rfl rfl ?_
      refine x_iadd F.1 (i := 59) rfl ?_
      refine cal_e h (fun r4 M2 e5 h => ?_)
      refine x_cV1v F.1 (i := 60) rfl ml_RM_545 ok_RM_runsCenturies rfl (Nat.le_of_ble_eq_true rfl) (Nat.le_of_ble_eq_true rfl) (fun _ => t_RM_runsCenturies e5) ?_
      refine x_lload_n F.1 (i := 61) rfl rfl ?_
      refine x_aload_n F.1 (i := 62) rfl rfl ?_
      refine x_iconst F.1 (i := 63) rfl ic_0 ?_
      refine cal_e h (fun r6 M3 e7 h => ?_)
      refine x_cV1i F.1 (i := 64) rfl ml_RM_324 ok_RM_sumOf rfl (Nat.le_of_ble_eq_true rfl) (Nat.le_of_ble_eq_true rfl) (fun _ => t_RM_sumOf e7) ?_
      refine x_i2l F.1 (i := 65) rfl ?_
      refine x_ladd F.1 (i := 66) rfl ?_
      refine x_lstore_n F.1 (i := 67) rfl (Nat.le_of_ble_eq_true rfl) (Nat.le_of_ble_eq_true rfl) rfl ?_
      replace h := bd_e h
      refine x_iconst F.1 (i := 68) rfl ic_0 ?_
      refine x_istore F.1 (i := 69) rfl (Nat.le_of_ble_eq_true rfl) (Nat.le_of_ble_eq_true rfl) rfl ?_
      exact x_wk F.1 ((t_RM_mean_l119 F hQ ih FU) _ _ _ _ h) ⟨rfl, rfl, rfl, rfl, rfl, rfl, trivial⟩
set_option maxHeartbeats 4000000 in
theorem t_RM_mean_l63 {w : kx_W} {d : Nat} {Q : Option Value → kx_M → Prop} {G : Nat → List (Option Value) → List Value → kx_M → Prop} (F : Sd w (d + 50) m_RM_mean Q G) {p1 : Int32} {p2 : Int32} {res : Int32 × kx_M} (hQ : Q (some (.int res.1)) res.2) :
    ∀ (n : Nat) (x3 : Int32) (M : kx_M),
    f_RM_mean_l63 p1 p2 n x3 M = some res → G 63 [some (.ref 135), some (.int p1), some (.int p2), some (.int x3), none, none, none] [] M := by
  intro n
  induction n with
  | zero =>
    intro x3 M h
    exact absurd h (by rw [f_RM_mean_l63]; exact fun z => nomatch z)
  | succ n ih =>
    intro x3 M h
    rw [f_RM_mean_l63] at h
    refine x_iload_n F.1 (i := 36) rfl rfl ?_
    refine x_sipush F.1 (i := 37) rfl sp_496 ?_
    refine x_icmp_ge F.1 (i := 38) (tgt := 88) rfl (by decide) (fun c => ?_) (fun c => ?_)
    · replace h := if_T c h
      refine x_lconst F.1 (i := 49) (v := 0) rfl rfl ?_
      refine x_lstore_n F.1 (i := 50) rfl (Nat.le_of_ble_eq_true rfl) (Nat.le_of_ble_eq_true rfl) rfl ?_
      refine x_iconst F.1 (i := 51) rfl ic_0 ?_
      refine x_istore F.1 (i := 52) rfl (Nat.le_of_ble_eq_true rfl) (Nat.le_of_ble_eq_true rfl) rfl ?_
      exact x_wk F.1 ((t_RM_mean_l93 F hQ FU) _ _ _ h) ⟨rfl, rfl, rfl, rfl, rfl, trivial⟩
    · replace h := if_F c h
      refine x_aload_n F.1 (i := 39) rfl rfl ?_
      refine x_getC F.1 (i := 40) rfl fl_RM_41 rfl (by rfl) ?_
      refine x_iload_n F.1 (i := 41) rfl rfl ?_
      refine x_aload_n F.1 (i := 42) rfl rfl ?_
      refine x_getC F.1 (i := 43) rfl fl_RM_35 rfl (by rfl) ?_
      refine x_iload_n F.1 (i := 44) rfl rfl ?_
      refine gd_e h (fun g1 h => ?_)
      refine x_iald F.1 (i := 45) rfl rfl (inb_e g1) ?_
      refine gd_e h (fun g2 h => ?_)
      refine x_iast F.1 (i := 46) rfl rfl (inb_e g2) ?_
      replace h := bd_e h
      refine x_iinc F.1 (i := 47) rfl rfl rfl (Nat.le_of_ble_eq_true rfl) rfl ?_
      replace h := bd_e h
      refine x_goto F.1 (i := 48) (tgt := 63) rfl (by decide) ?_
      exact x_wk F.1 (ih _ _ h) ⟨rfl, rfl, rfl, rfl, trivial⟩
set_option maxHeartbeats 4000000 in
theorem t_RM_mean {w : kx_W} {d : Nat} {M : kx_M} {Q : Option Value → kx_M → Prop} {p1 : Int32} {p2 : Int32} {r : Int32} {M' : kx_M} (h : f_RM_mean p1 p2 M = some (r, M')) (hQ : Q (some (.int r)) M') : Ct w (d + 50) m_RM_mean [.ref 135, .int p1, .int p2] M Q := by
  refine mk_ct ok_RM_mean (Nat.le_of_ble_eq_true rfl) (fun G F => ?_)
  rw [f_RM_mean] at h
  show G 0 [some (.ref 135), some (.int p1), some (.int p2), none, none, none, none] [] M
  refine x_aload_n F.1 (i := 0) rfl rfl ?_
  refine x_iconst F.1 (i := 1) rfl ic_0 ?_
  refine x_putI F.1 (i := 2) rfl fl_RM_68 pf_RM_thrown rfl (by rfl) ?_
  replace h := bd_e h
  refine x_aload_n F.1 (i := 3) rfl rfl ?_
  refine x_iconst F.1 (i := 4) rfl ic_0 ?_
  refine x_putI F.1 (i := 5) rfl fl_RM_71 pf_RM_status rfl (by rfl) ?_
  replace h := bd_e h
  refine x_iload_n F.1 (i := 6) rfl rfl ?_
  refine x_i2l F.1 (i := 7) rfl ?_
  refine x_lconst F.1 (i := 8) (v := 1) rfl rfl ?_
  refine x_ldc2_w F.1 (i := 9) rfl cl_RM_553 ?_
  refine cal_e h (fun r1 M3 e2 h => ?_)
  refine x_cS3i F.1 (i := 10) rfl ml_RM_103 ok_RM_isIn (Nat.le_of_ble_eq_true rfl) (Nat.le_of_ble_eq_true rfl) (fun _ => t_RM_isIn e2) ?_
  refine x_if_eq F.1 (i := 11) (tgt := 37) rfl (by decide) (fun c => ?_) (fun c => ?_)
  · replace h := if_T c h
    refine x_aload_n F.1 (i := 21) rfl rfl ?_
    refine x_iconst F.1 (i := 22) rfl ic_5 ?_
    refine cal_e h (fun r3 M4 e4 h => ?_)
    refine x_cV1i F.1 (i := 23) rfl ml_RM_83 ok_RM_no rfl (Nat.le_of_ble_eq_true rfl) (Nat.le_of_ble_eq_true rfl) (fun _ => t_RM_no e4) ?_
    refine gd_e h (fun g5 h => ?_)
    exact x_zretf F (i := 24) rfl rfl (b01_e g5) h (res := (r, M')) hQ
  · replace h := if_F c h
    refine x_iload_n F.1 (i := 12) rfl rfl ?_
    refine x_i2l F.1 (i := 13) rfl ?_
    refine x_lconst F.1 (i := 14) (v := 0) rfl rfl ?_
    refine x_sipush F.1 (i := 15) rfl sp_10000 ?_
    refine x_iload_n F.1 (i := 16) rfl rfl ?_
    refine x_isub F.1 (i := 17) rfl ?_
    refine x_i2l F.1 (i := 18) rfl ?_
    refine cal_e h (fun r6 M5 e7 h => ?_)
    refine x_cS3i F.1 (i := 19) rfl ml_RM_103 ok_RM_isIn (Nat.le_of_ble_eq_true rfl) (Nat.le_of_ble_eq_true rfl) (fun _ => t_RM_isIn e7) ?_
    refine x_if_ne F.1 (i := 20) (tgt := 43) rfl (by decide) (fun c => ?_) (fun c => ?_)
    · replace h := if_F c h
      refine x_aload_n F.1 (i := 25) rfl rfl ?_
      refine x_getC F.1 (i := 26) rfl fl_RM_35 rfl (by rfl) ?_
      refine x_sipush F.1 (i := 27) rfl sp_496 ?_
      refine gd_e h (fun g11 h => ?_)
      refine x_iald F.1 (i := 28) rfl rfl (inb_e g11) ?_
      refine x_if_ne F.1 (i := 29) (tgt := 61) rfl (by decide) (fun c => ?_) (fun c => ?_)
      · replace h := if_F c h
        refine x_iconst F.1 (i := 34) rfl ic_0 ?_
        refine x_istore_n F.1 (i := 35) rfl (Nat.le_of_ble_eq_true rfl) (Nat.le_of_ble_eq_true rfl) rfl ?_
        exact x_wk F.1 ((t_RM_mean_l63 F (res := (r, M')) hQ FU) _ _ h) ⟨rfl, rfl, rfl, rfl, trivial⟩
      · replace h := if_T c h
        refine x_aload_n F.1 (i := 30) rfl rfl ?_
        refine x_bipush F.1 (i := 31) rfl bp_8 ?_
        refine cal_e h (fun r12 M7 e13 h => ?_)
        refine x_cV1i F.1 (i := 32) rfl ml_RM_83 ok_RM_no rfl (Nat.le_of_ble_eq_true rfl) (Nat.le_of_ble_eq_true rfl) (fun _ => t_RM_no e13) ?_
        refine gd_e h (fun g14 h => ?_)
        exact x_zretf F (i := 33) rfl rfl (b01_e g14) h (res := (r, M')) hQ
    · replace h := if_T c h
      refine x_aload_n F.1 (i := 21) rfl rfl ?_
      refine x_iconst F.1 (i := 22) rfl ic_5 ?_
      refine cal_e h (fun r8 M6 e9 h => ?_)
      refine x_cV1i F.1 (i := 23) rfl ml_RM_83 ok_RM_no rfl (Nat.le_of_ble_eq_true rfl) (Nat.le_of_ble_eq_true rfl) (fun _ => t_RM_no e9) ?_
      refine gd_e h (fun g10 h => ?_)
      exact x_zretf F (i := 24) rfl rfl (b01_e g10) h (res := (r, M')) hQ
set_option maxHeartbeats 4000000 in
theorem t_RM_mark {w : kx_W} {d : Nat} {M : kx_M} {Q : Option Value → kx_M → Prop} {r : Int32} {M' : kx_M} (h : f_RM_mark M = some (r, M')) (hQ : Q (some (.int r)) M') : Ct w (d + 1) m_RM_mark [.ref 135] M Q := by
  refine mk_ct ok_RM_mark (Nat.le_of_ble_eq_true rfl) (fun G F => ?_)
  rw [f_RM_mark] at h
  show G 0 [some (.ref 135)] [] M
  refine x_aload_n F.1 (i := 0) rfl rfl ?_
  refine x_iconst F.1 (i := 1) rfl ic_0 ?_
  refine x_putI F.1 (i := 2) rfl fl_RM_68 pf_RM_thrown rfl (by rfl) ?_
  replace h := bd_e h
  refine x_aload_n F.1 (i := 3) rfl rfl ?_
  refine x_iconst F.1 (i := 4) rfl ic_0 ?_
  refine x_putI F.1 (i := 5) rfl fl_RM_71 pf_RM_status rfl (by rfl) ?_
  replace h := bd_e h
  refine x_aload_n F.1 (i := 6) rfl rfl ?_
  refine x_getI F.1 (i := 7) rfl fl_RM_555 rfl (by rfl) ?_
  refine x_iconst F.1 (i := 8) rfl ic_3 ?_
  refine x_icmp_ne F.1 (i := 9) (tgt := 25) rfl (by decide) (fun c => ?_) (fun c => ?_)
  · replace h := if_F c h
    refine x_aload_n F.1 (i := 14) rfl rfl ?_
    refine x_dup F.1 (i := 15) rfl rfl ?_
    refine x_getI F.1 (i := 16) rfl fl_RM_555 rfl (by rfl) ?_
    refine x_iconst F.1 (i := 17) rfl ic_1 ?_
    refine x_iadd F.1 (i := 18) rfl ?_
    refine x_putI F.1 (i := 19) rfl fl_RM_555 pf_RM_markMany rfl (by rfl) ?_
    replace h := bd_e h
    refine x_aload_n F.1 (i := 20) rfl rfl ?_
    refine x_iconst F.1 (i := 21) rfl ic_0 ?_
    refine x_aload_n F.1 (i := 22) rfl rfl ?_
    refine x_getI F.1 (i := 23) rfl fl_RM_555 rfl (by rfl) ?_
    refine cal_e h (fun r3 M5 e4 h => ?_)
    refine x_cV2v F.1 (i := 24) rfl ml_RM_285 ok_RM_copy rfl (Nat.le_of_ble_eq_true rfl) (Nat.le_of_ble_eq_true rfl) (fun _ => t_RM_copy e4) ?_
    refine x_aload_n F.1 (i := 25) rfl rfl ?_
    refine x_getI F.1 (i := 26) rfl fl_RM_555 rfl (by rfl) ?_
    exact x_iretf F (i := 27) rfl rfl h (res := (r, M')) hQ
  · replace h := if_T c h
    refine x_aload_n F.1 (i := 10) rfl rfl ?_
    refine x_bipush F.1 (i := 11) rfl bp_7 ?_
    refine cal_e h (fun r1 M3 e2 h => ?_)
    refine x_cV1i F.1 (i := 12) rfl ml_RM_321 ok_RM_refuse rfl (Nat.le_of_ble_eq_true rfl) (Nat.le_of_ble_eq_true rfl) (fun _ => t_RM_refuse e2) ?_
    exact x_iretf F (i := 13) rfl rfl h (res := (r, M')) hQ
set_option maxHeartbeats 4000000 in
theorem t_RM_back {w : kx_W} {d : Nat} {M : kx_M} {Q : Option Value → kx_M → Prop} {r : Int32} {M' : kx_M} (h : f_RM_back M = some (r, M')) (hQ : Q (some (.int r)) M') : Ct w (d + 1) m_RM_back [.ref 135] M Q := by
  refine mk_ct ok_RM_back (Nat.le_of_ble_eq_true rfl) (fun G F => ?_)
  rw [f_RM_back] at h
  show G 0 [some (.ref 135)] [] M
  refine x_aload_n F.1 (i := 0) rfl rfl ?_
  refine x_iconst F.1 (i := 1) rfl ic_0 ?_
  refine x_putI F.1 (i := 2) rfl fl_RM_68 pf_RM_thrown rfl (by rfl) ?_
  replace h := bd_e h
  refine x_aload_n F.1 (i := 3) rfl rfl ?_
  refine x_iconst F.1 (i := 4) rfl ic_0 ?_
  refine x_putI F.1 (i := 5) rfl fl_RM_71 pf_RM_status rfl (by rfl) ?_
  replace h := bd_e h
  refine x_aload_n F.1 (i := 6) rfl rfl ?_
  refine x_getI F.1 (i := 7) rfl fl_RM_555 rfl (by rfl) ?_
  refine x_if_ne F.1 (i := 8) (tgt := 24) rfl (by decide) (fun c => ?_) (fun c => ?_)
  · replace h := if_F c h
    refine x_aload_n F.1 (i := 13) rfl rfl ?_
    refine x_aload_n F.1 (i := 14) rfl rfl ?_
    refine x_getI F.1 (i := 15) rfl fl_RM_555 rfl (by rfl) ?_
    refine x_iconst F.1 (i := 16) rfl ic_0 ?_
    refine cal_e h (fun r3 M4 e4 h => ?_)
    refine x_cV2v F.1 (i := 17) rfl ml_RM_285 ok_RM_copy rfl (Nat.le_of_ble_eq_true rfl) (Nat.le_of_ble_eq_true rfl) (fun _ => t_RM_copy e4) ?_
    refine x_aload_n F.1 (i := 18) rfl rfl ?_
    refine x_dup F.1 (i := 19) rfl rfl ?_
    refine x_getI F.1 (i := 20) rfl fl_RM_555 rfl (by rfl) ?_
    refine x_iconst F.1 (i := 21) rfl ic_1 ?_
    refine x_isub F.1 (i := 22) rfl ?_
    refine x_putI F.1 (i := 23) rfl fl_RM_555 pf_RM_markMany rfl (by rfl) ?_
    replace h := bd_e h
    refine x_aload_n F.1 (i := 24) rfl rfl ?_
    refine x_getI F.1 (i := 25) rfl fl_RM_555 rfl (by rfl) ?_
    exact x_iretf F (i := 26) rfl rfl h (res := (r, M')) hQ
  · replace h := if_T c h
    refine x_aload_n F.1 (i := 9) rfl rfl ?_
    refine x_bipush F.1 (i := 10) rfl bp_8 ?_
    refine cal_e h (fun r1 M3 e2 h => ?_)
    refine x_cV1i F.1 (i := 11) rfl ml_RM_321 ok_RM_refuse rfl (Nat.le_of_ble_eq_true rfl) (Nat.le_of_ble_eq_true rfl) (fun _ => t_RM_refuse e2) ?_
    exact x_iretf F (i := 12) rfl rfl h (res := (r, M')) hQ
