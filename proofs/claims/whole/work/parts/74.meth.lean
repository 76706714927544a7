set_option maxHeartbeats 4000000 in
theorem t_RM_undoneIn_l34 {w : kx_W} {d : Nat} {Q : Option Value → kx_M → Prop} {G : Nat → List (Option Value) → List Value → kx_M → Prop} (F : Sd w (d + 4) m_RM_undoneIn Q G) {p1 : Int32} {res : Int32 × kx_M} (hQ : Q (some (.int res.1)) res.2) :
    ∀ (n : Nat) (x2 : Int32) (M : kx_M),
    f_RM_undoneIn_l34 p1 n x2 M = some res → G 34 [some (.ref 135), some (.int p1), some (.int x2)] [] M := by
  intro n
  induction n with
  | zero =>
    intro x2 M h
    exact absurd h (by rw [f_RM_undoneIn_l34]; exact fun z => nomatch z)
  | succ n ih =>
    intro x2 M h
    rw [f_RM_undoneIn_l34] at h
    refine x_iload_n F.1 (i := 20) rfl rfl ?_
    refine x_iload_n F.1 (i := 21) rfl rfl ?_
    refine x_icmp_ge F.1 (i := 22) (tgt := 50) rfl (by decide) (fun c => ?_) (fun c => ?_)
    · replace h := if_T c h
      refine x_aload_n F.1 (i := 28) rfl rfl ?_
      refine x_iconst F.1 (i := 29) rfl ic_0 ?_
      refine cal_e h (fun r1 M1 e2 h => ?_)
      refine x_cV1i F.1 (i := 30) rfl ml_RM_324 ok_RM_sumOf rfl (Nat.le_of_ble_eq_true rfl) (Nat.le_of_ble_eq_true rfl) (fun _ => t_RM_sumOf e2) ?_
      refine x_istore_n F.1 (i := 31) rfl (Nat.le_of_ble_eq_true rfl) (Nat.le_of_ble_eq_true rfl) rfl ?_
      refine x_aload_n F.1 (i := 32) rfl rfl ?_
      refine cal_e h (fun r3 M2 e4 h => ?_)
      refine x_cV0v F.1 (i := 33) rfl ml_RM_406 ok_RM_gives rfl (Nat.le_of_ble_eq_true rfl) (Nat.le_of_ble_eq_true rfl) (fun _ => t_RM_gives e4) ?_
      refine x_iload_n F.1 (i := 34) rfl rfl ?_
      exact x_iretf F (i := 35) rfl rfl h hQ
    · replace h := if_F c h
      refine x_aload_n F.1 (i := 23) rfl rfl ?_
      refine cal_e h (fun r5 M3 e6 h => ?_)
      refine x_cV0i F.1 (i := 24) rfl ml_RM_362 ok_RM_goesYear rfl (Nat.le_of_ble_eq_true rfl) (Nat.le_of_ble_eq_true rfl) (fun _ => t_RM_goesYear e6) ?_
      refine x_pop F.1 (i := 25) rfl rfl ?_
      refine x_iinc F.1 (i := 26) rfl rfl rfl (Nat.le_of_ble_eq_true rfl) rfl ?_
      replace h := bd_e h
      refine x_goto F.1 (i := 27) (tgt := 34) rfl (by decide) ?_
      exact x_wk F.1 (ih _ _ h) ⟨rfl, rfl, rfl, trivial⟩
set_option maxHeartbeats 4000000 in
theorem t_RM_undoneIn {w : kx_W} {d : Nat} {M : kx_M} {Q : Option Value → kx_M → Prop} {p1 : Int32} {r : Int32} {M' : kx_M} (h : f_RM_undoneIn p1 M = some (r, M')) (hQ : Q (some (.int r)) M') : Ct w (d + 4) m_RM_undoneIn [.ref 135, .int p1] M Q := by
  refine mk_ct ok_RM_undoneIn (Nat.le_of_ble_eq_true rfl) (fun G F => ?_)
  rw [f_RM_undoneIn] at h
  show G 0 [some (.ref 135), some (.int p1), none] [] M
  refine x_aload_n F.1 (i := 0) rfl rfl ?_
  refine x_iconst F.1 (i := 1) rfl ic_0 ?_
  refine x_putI F.1 (i := 2) rfl fl_RM_68 pf_RM_thrown rfl (by rfl) ?_
  replace h := bd_e h
  refine x_aload_n F.1 (i := 3) rfl rfl ?_
  refine x_iconst F.1 (i := 4) rfl ic_0 ?_
  refine x_putI F.1 (i := 5) rfl fl_RM_71 pf_RM_status rfl (by rfl) ?_
  replace h := bd_e h
  refine x_iload_n F.1 (i := 6) rfl rfl ?_
  refine x_i2l F.1 (i := 7) rfl ?_
  refine x_lconst F.1 (i := 8) (v := 0) rfl rfl ?_
  refine x_ldc2_w F.1 (i := 9) rfl cl_RM_360 ?_
  refine cal_e h (fun r1 M3 e2 h => ?_)
  refine x_cS3i F.1 (i := 10) rfl ml_RM_103 ok_RM_isIn (Nat.le_of_ble_eq_true rfl) (Nat.le_of_ble_eq_true rfl) (fun _ => t_RM_isIn e2) ?_
  refine x_if_ne F.1 (i := 11) (tgt := 28) rfl (by decide) (fun c => ?_) (fun c => ?_)
  · replace h := if_F c h
    refine x_aload_n F.1 (i := 16) rfl rfl ?_
    refine cal_e h (fun r5 M5 e6 h => ?_)
    refine x_cV0v F.1 (i := 17) rfl ml_RM_403 ok_RM_keeps rfl (Nat.le_of_ble_eq_true rfl) (Nat.le_of_ble_eq_true rfl) (fun _ => t_RM_keeps e6) ?_
    refine x_iconst F.1 (i := 18) rfl ic_0 ?_
    refine x_istore_n F.1 (i := 19) rfl (Nat.le_of_ble_eq_true rfl) (Nat.le_of_ble_eq_true rfl) rfl ?_
    exact x_wk F.1 ((t_RM_undoneIn_l34 F (res := (r, M')) hQ FU) _ _ h) ⟨rfl, rfl, rfl, trivial⟩
  · replace h := if_T c h
    refine x_aload_n F.1 (i := 12) rfl rfl ?_
    refine x_iconst F.1 (i := 13) rfl ic_5 ?_
    refine cal_e h (fun r3 M4 e4 h => ?_)
    refine x_cV1i F.1 (i := 14) rfl ml_RM_321 ok_RM_refuse rfl (Nat.le_of_ble_eq_true rfl) (Nat.le_of_ble_eq_true rfl) (fun _ => t_RM_refuse e4) ?_
    exact x_iretf F (i := 15) rfl rfl h (res := (r, M')) hQ
set_option maxHeartbeats 4000000 in
theorem t_RM_firstLost_l16 {w : kx_W} {d : Nat} {Q : Option Value → kx_M → Prop} {G : Nat → List (Option Value) → List Value → kx_M → Prop} (F : Sd w (d + 5) m_RM_firstLost Q G) {res : Int32 × kx_M} (hQ : Q (some (.int res.1)) res.2) :
    ∀ (n : Nat) (x1 : Int32) (x2 : Int32) (x3 : Int32) (M : kx_M),
    f_RM_firstLost_l16 n x1 x2 x3 M = some res → G 16 [some (.ref 135), some (.int x1), some (.int x2), some (.int x3), none] [] M := by
  intro n
  induction n with
  | zero =>
    intro x1 x2 x3 M h
    exact absurd h (by rw [f_RM_firstLost_l16]; exact fun z => nomatch z)
  | succ n ih =>
    intro x1 x2 x3 M h
    rw [f_RM_firstLost_l16] at h
    refine x_iload_n F.1 (i := 12) rfl rfl ?_
    refine x_aload_n F.1 (i := 13) rfl rfl ?_
    refine x_getC F.1 (i := 14) rfl fl_RM_35 rfl (by rfl) ?_
    refine x_iconst F.1 (i := 15) rfl ic_3 ?_
    refine gd_e h (fun g1 h => ?_)
    refine x_iald F.1 (i := 16) rfl rfl (inb_e g1) ?_
    refine x_icmp_ge F.1 (i := 17) (tgt := 62) rfl (by decide) (fun c => ?_) (fun c => ?_)
    · replace h := if_T c h
      refine x_iload_n F.1 (i := 36) rfl rfl ?_
      refine x_if_ge F.1 (i := 37) (tgt := 75) rfl (by decide) (fun c => ?_) (fun c => ?_)
      · replace h := if_T c h
        refine x_iload_n F.1 (i := 42) rfl rfl ?_
        exact x_iretf F (i := 43) rfl rfl h hQ
      · replace h := if_F c h
        refine x_aload_n F.1 (i := 38) rfl rfl ?_
        refine x_bipush F.1 (i := 39) rfl bp_8 ?_
        refine cal_e h (fun r2 M1 e3 h => ?_)
        refine x_cV1i F.1 (i := 40) rfl ml_RM_321 ok_RM_refuse rfl (Nat.le_of_ble_eq_true rfl) (Nat.le_of_ble_eq_true rfl) (fun _ => t_RM_refuse e3) ?_
        refine x_goto F.1 (i := 41) (tgt := 76) rfl (by decide) ?_
        exact x_iretf F (i := 43) rfl rfl h hQ
    · replace h := if_F c h
      refine x_aload_n F.1 (i := 18) rfl rfl ?_
      refine x_iload_n F.1 (i := 19) rfl rfl ?_
      refine cal_e h (fun r4 M2 e5 h => ?_)
      refine x_cV1i F.1 (i := 20) rfl ml_RM_409 ok_RM_losing rfl (Nat.le_of_ble_eq_true rfl) (Nat.le_of_ble_eq_true rfl) (fun _ => t_RM_losing e5) ?_
      refine x_istore F.1 (i := 21) rfl (Nat.le_of_ble_eq_true rfl) (Nat.le_of_ble_eq_true rfl) rfl ?_
      refine x_iload F.1 (i := 22) rfl rfl ?_
      refine x_if_le F.1 (i := 23) (tgt := 56) rfl (by decide) (fun c => ?_) (fun c => ?_)
      · replace h := if_T c h
        refine x_iinc F.1 (i := 34) rfl rfl rfl (Nat.le_of_ble_eq_true rfl) rfl ?_
        replace h := bd_e h
        refine x_goto F.1 (i := 35) (tgt := 16) rfl (by decide) ?_
        exact x_wk F.1 (ih _ _ _ _ h) ⟨rfl, rfl, rfl, rfl, trivial⟩
      · replace h := if_F c h
        refine x_iload_n F.1 (i := 24) rfl rfl ?_
        refine x_if_lt F.1 (i := 25) (tgt := 51) rfl (by decide) (fun c => ?_) (fun c => ?_)
        · replace h := if_T c h
          refine x_iload_n F.1 (i := 30) rfl rfl ?_
          refine x_istore_n F.1 (i := 31) rfl (Nat.le_of_ble_eq_true rfl) (Nat.le_of_ble_eq_true rfl) rfl ?_
          refine x_iload F.1 (i := 32) rfl rfl ?_
          refine x_istore_n F.1 (i := 33) rfl (Nat.le_of_ble_eq_true rfl) (Nat.le_of_ble_eq_true rfl) rfl ?_
          refine x_iinc F.1 (i := 34) rfl rfl rfl (Nat.le_of_ble_eq_true rfl) rfl ?_
          replace h := bd_e h
          refine x_goto F.1 (i := 35) (tgt := 16) rfl (by decide) ?_
          exact x_wk F.1 (ih _ _ _ _ h) ⟨rfl, rfl, rfl, rfl, trivial⟩
        · replace h := if_F c h
          refine x_iload F.1 (i := 26) rfl rfl ?_
          refine x_iload_n F.1 (i := 27) rfl rfl ?_
          refine x_icmp_lt F.1 (i := 28) (tgt := 51) rfl (by decide) (fun c => ?_) (fun c => ?_)
          · replace h := if_T c h
            refine x_iload_n F.1 (i := 30) rfl rfl ?_
            refine x_istore_n F.1 (i := 31) rfl (Nat.le_of_ble_eq_true rfl) (Nat.le_of_ble_eq_true rfl) rfl ?_
            refine x_iload F.1 (i := 32) rfl rfl ?_
            refine x_istore_n F.1 (i := 33) rfl (Nat.le_of_ble_eq_true rfl) (Nat.le_of_ble_eq_true rfl) rfl ?_
            refine x_iinc F.1 (i := 34) rfl rfl rfl (Nat.le_of_ble_eq_true rfl) rfl ?_
            replace h := bd_e h
            refine x_goto F.1 (i := 35) (tgt := 16) rfl (by decide) ?_
            exact x_wk F.1 (ih _ _ _ _ h) ⟨rfl, rfl, rfl, rfl, trivial⟩
          · replace h := if_F c h
            refine x_goto F.1 (i := 29) (tgt := 56) rfl (by decide) ?_
            refine x_iinc F.1 (i := 34) rfl rfl rfl (Nat.le_of_ble_eq_true rfl) rfl ?_
            replace h := bd_e h
            refine x_goto F.1 (i := 35) (tgt := 16) rfl (by decide) ?_
            exact x_wk F.1 (ih _ _ _ _ h) ⟨rfl, rfl, rfl, rfl, trivial⟩
set_option maxHeartbeats 4000000 in
theorem t_RM_firstLost {w : kx_W} {d : Nat} {M : kx_M} {Q : Option Value → kx_M → Prop} {r : Int32} {M' : kx_M} (h : f_RM_firstLost M = some (r, M')) (hQ : Q (some (.int r)) M') : Ct w (d + 5) m_RM_firstLost [.ref 135] M Q := by
  refine mk_ct ok_RM_firstLost (Nat.le_of_ble_eq_true rfl) (fun G F => ?_)
  rw [f_RM_firstLost] at h
  show G 0 [some (.ref 135), none, none, none, none] [] M
  refine x_aload_n F.1 (i := 0) rfl rfl ?_
  refine x_iconst F.1 (i := 1) rfl ic_0 ?_
  refine x_putI F.1 (i := 2) rfl fl_RM_68 pf_RM_thrown rfl (by rfl) ?_
  replace h := bd_e h
  refine x_aload_n F.1 (i := 3) rfl rfl ?_
  refine x_iconst F.1 (i := 4) rfl ic_0 ?_
  refine x_putI F.1 (i := 5) rfl fl_RM_71 pf_RM_status rfl (by rfl) ?_
  replace h := bd_e h
  refine x_iconst F.1 (i := 6) rfl ic_n1 ?_
  refine x_istore_n F.1 (i := 7) rfl (Nat.le_of_ble_eq_true rfl) (Nat.le_of_ble_eq_true rfl) rfl ?_
  refine x_iconst F.1 (i := 8) rfl ic_0 ?_
  refine x_istore_n F.1 (i := 9) rfl (Nat.le_of_ble_eq_true rfl) (Nat.le_of_ble_eq_true rfl) rfl ?_
  refine x_iconst F.1 (i := 10) rfl ic_0 ?_
  refine x_istore_n F.1 (i := 11) rfl (Nat.le_of_ble_eq_true rfl) (Nat.le_of_ble_eq_true rfl) rfl ?_
  exact x_wk F.1 ((t_RM_firstLost_l16 F (res := (r, M')) hQ FU) _ _ _ _ h) ⟨rfl, rfl, rfl, rfl, trivial⟩
set_option maxHeartbeats 4000000 in
theorem t_RM_wouldPull {w : kx_W} {d : Nat} {M : kx_M} {Q : Option Value → kx_M → Prop} {p1 : Int32} {p2 : Int32} {r : Int32} {M' : kx_M} (h : f_RM_wouldPull p1 p2 M = some (r, M')) (hQ : Q (some (.int r)) M') : Ct w (d + 4) m_RM_wouldPull [.ref 135, .int p1, .int p2] M Q := by
  refine mk_ct ok_RM_wouldPull (Nat.le_of_ble_eq_true rfl) (fun G F => ?_)
  rw [f_RM_wouldPull] at h
  show G 0 [some (.ref 135), some (.int p1), some (.int p2), none] [] M
  refine x_aload_n F.1 (i := 0) rfl rfl ?_
  refine cal_e h (fun r1 M1 e2 h => ?_)
  refine x_cV0v F.1 (i := 1) rfl ml_RM_403 ok_RM_keeps rfl (Nat.le_of_ble_eq_true rfl) (Nat.le_of_ble_eq_true rfl) (fun _ => t_RM_keeps e2) ?_
  refine x_aload_n F.1 (i := 2) rfl rfl ?_
  refine x_iload_n F.1 (i := 3) rfl rfl ?_
  refine x_iload_n F.1 (i := 4) rfl rfl ?_
  refine cal_e h (fun r3 M2 e4 h => ?_)
  refine x_cV2i F.1 (i := 5) rfl ml_RM_368 ok_RM_pulls rfl (Nat.le_of_ble_eq_true rfl) (Nat.le_of_ble_eq_true rfl) (fun _ => t_RM_pulls e4) ?_
  refine x_istore_n F.1 (i := 6) rfl (Nat.le_of_ble_eq_true rfl) (Nat.le_of_ble_eq_true rfl) rfl ?_
  refine x_aload_n F.1 (i := 7) rfl rfl ?_
  refine cal_e h (fun r5 M3 e6 h => ?_)
  refine x_cV0v F.1 (i := 8) rfl ml_RM_406 ok_RM_gives rfl (Nat.le_of_ble_eq_true rfl) (Nat.le_of_ble_eq_true rfl) (fun _ => t_RM_gives e6) ?_
  refine x_iload_n F.1 (i := 9) rfl rfl ?_
  exact x_iretf F (i := 10) rfl rfl h (res := (r, M')) hQ
set_option maxHeartbeats 4000000 in
theorem t_RM_pulled {w : kx_W} {d : Nat} {M : kx_M} {Q : Option Value → kx_M → Prop} {p1 : Int32} {p2 : Int32} {r : Int32} {M' : kx_M} (h : f_RM_pulled p1 p2 M = some (r, M')) (hQ : Q (some (.int r)) M') : Ct w (d + 5) m_RM_pulled [.ref 135, .int p1, .int p2] M Q := by
  refine mk_ct ok_RM_pulled (Nat.le_of_ble_eq_true rfl) (fun G F => ?_)
  rw [f_RM_pulled] at h
  show G 0 [some (.ref 135), some (.int p1), some (.int p2)] [] M
  refine x_aload_n F.1 (i := 0) rfl rfl ?_
  refine x_iconst F.1 (i := 1) rfl ic_0 ?_
  refine x_putI F.1 (i := 2) rfl fl_RM_68 pf_RM_thrown rfl (by rfl) ?_
  replace h := bd_e h
  refine x_aload_n F.1 (i := 3) rfl rfl ?_
  refine x_iconst F.1 (i := 4) rfl ic_0 ?_
  refine x_putI F.1 (i := 5) rfl fl_RM_71 pf_RM_status rfl (by rfl) ?_
  replace h := bd_e h
  refine x_aload_n F.1 (i := 6) rfl rfl ?_
  refine x_iload_n F.1 (i := 7) rfl rfl ?_
  refine cal_e h (fun r1 M3 e2 h => ?_)
  refine x_cV1i F.1 (i := 8) rfl ml_RM_330 ok_RM_isRowAt rfl (Nat.le_of_ble_eq_true rfl) (Nat.le_of_ble_eq_true rfl) (fun _ => t_RM_isRowAt e2) ?_
  refine x_if_ne F.1 (i := 9) (tgt := 24) rfl (by decide) (fun c => ?_) (fun c => ?_)
  · replace h := if_F c h
    refine x_iload_n F.1 (i := 14) rfl rfl ?_
    refine cal_e h (fun r5 M5 e6 h => ?_)
    refine x_cS1i F.1 (i := 15) rfl ml_RM_365 ok_RM_isSide (Nat.le_of_ble_eq_true rfl) (Nat.le_of_ble_eq_true rfl) (fun _ => t_RM_isSide e6) ?_
    refine x_if_eq F.1 (i := 16) (tgt := 40) rfl (by decide) (fun c => ?_) (fun c => ?_)
    · replace h := if_T c h
      refine x_aload_n F.1 (i := 22) rfl rfl ?_
      refine x_iconst F.1 (i := 23) rfl ic_5 ?_
      refine cal_e h (fun r7 M6 e8 h => ?_)
      refine x_cV1i F.1 (i := 24) rfl ml_RM_321 ok_RM_refuse rfl (Nat.le_of_ble_eq_true rfl) (Nat.le_of_ble_eq_true rfl) (fun _ => t_RM_refuse e8) ?_
      exact x_iretf F (i := 25) rfl rfl h (res := (r, M')) hQ
    · replace h := if_F c h
      refine x_aload_n F.1 (i := 17) rfl rfl ?_
      refine x_iload_n F.1 (i := 18) rfl rfl ?_
      refine x_iload_n F.1 (i := 19) rfl rfl ?_
      refine cal_e h (fun r9 M7 e10 h => ?_)
      refine x_cV2i F.1 (i := 20) rfl ml_RM_412 ok_RM_wouldPull rfl (Nat.le_of_ble_eq_true rfl) (Nat.le_of_ble_eq_true rfl) (fun _ => t_RM_wouldPull e10) ?_
      refine x_goto F.1 (i := 21) (tgt := 45) rfl (by decide) ?_
      exact x_iretf F (i := 25) rfl rfl h (res := (r, M')) hQ
  · replace h := if_T c h
    refine x_aload_n F.1 (i := 10) rfl rfl ?_
    refine x_iconst F.1 (i := 11) rfl ic_2 ?_
    refine cal_e h (fun r3 M4 e4 h => ?_)
    refine x_cV1i F.1 (i := 12) rfl ml_RM_321 ok_RM_refuse rfl (Nat.le_of_ble_eq_true rfl) (Nat.le_of_ble_eq_true rfl) (fun _ => t_RM_refuse e4) ?_
    exact x_iretf F (i := 13) rfl rfl h (res := (r, M')) hQ
set_option maxHeartbeats 4000000 in
theorem t_RM_worstPull_l16 {w : kx_W} {d : Nat} {Q : Option Value → kx_M → Prop} {G : Nat → List (Option Value) → List Value → kx_M → Prop} (F : Sd w (d + 5) m_RM_worstPull Q G) {res : Int32 × kx_M} (hQ : Q (some (.int res.1)) res.2) :
    ∀ (n : Nat) (x1 : Int32) (x2 : Int32) (x3 : Int32) (M : kx_M),
    f_RM_worstPull_l16 n x1 x2 x3 M = some res → G 16 [some (.ref 135), some (.int x1), some (.int x2), some (.int x3), none] [] M := by
  intro n
  induction n with
  | zero =>
    intro x1 x2 x3 M h
    exact absurd h (by rw [f_RM_worstPull_l16]; exact fun z => nomatch z)
  | succ n ih =>
    intro x1 x2 x3 M h
    rw [f_RM_worstPull_l16] at h
    refine x_iload_n F.1 (i := 12) rfl rfl ?_
    refine x_iconst F.1 (i := 13) rfl ic_2 ?_
    refine x_aload_n F.1 (i := 14) rfl rfl ?_
    refine x_getC F.1 (i := 15) rfl fl_RM_35 rfl (by rfl) ?_
    refine x_iconst F.1 (i := 16) rfl ic_4 ?_
    refine gd_e h (fun g1 h => ?_)
    refine x_iald F.1 (i := 17) rfl rfl (inb_e g1) ?_
    refine x_imul F.1 (i := 18) rfl ?_
    refine x_icmp_ge F.1 (i := 19) (tgt := 69) rfl (by decide) (fun c => ?_) (fun c => ?_)
    · replace h := if_T c h
      refine x_iload_n F.1 (i := 47) rfl rfl ?_
      refine x_if_ge F.1 (i := 48) (tgt := 82) rfl (by decide) (fun c => ?_) (fun c => ?_)
      · replace h := if_T c h
        refine x_iload_n F.1 (i := 53) rfl rfl ?_
        exact x_iretf F (i := 54) rfl rfl h hQ
      · replace h := if_F c h
        refine x_aload_n F.1 (i := 49) rfl rfl ?_
        refine x_bipush F.1 (i := 50) rfl bp_8 ?_
        refine cal_e h (fun r2 M1 e3 h => ?_)
        refine x_cV1i F.1 (i := 51) rfl ml_RM_321 ok_RM_refuse rfl (Nat.le_of_ble_eq_true rfl) (Nat.le_of_ble_eq_true rfl) (fun _ => t_RM_refuse e3) ?_
        refine x_goto F.1 (i := 52) (tgt := 83) rfl (by decide) ?_
        exact x_iretf F (i := 54) rfl rfl h hQ
    · replace h := if_F c h
      refine x_aload_n F.1 (i := 20) rfl rfl ?_
      refine x_iload_n F.1 (i := 21) rfl rfl ?_
      refine x_iconst F.1 (i := 22) rfl ic_2 ?_
      refine x_idiv F.1 (i := 23) (v := 0) rfl (by decide) ?_
      refine x_iload_n F.1 (i := 24) rfl rfl ?_
      refine x_iconst F.1 (i := 25) rfl ic_2 ?_
      refine x_irem F.1 (i := 26) (v := 0) rfl (by decide) ?_
      refine cal_e h (fun r4 M2 e5 h => ?_)
      refine x_cV2i F.1 (i := 27) rfl ml_RM_412 ok_RM_wouldPull rfl (Nat.le_of_ble_eq_true rfl) (Nat.le_of_ble_eq_true rfl) (fun _ => t_RM_wouldPull e5) ?_
      refine x_istore F.1 (i := 28) rfl (Nat.le_of_ble_eq_true rfl) (Nat.le_of_ble_eq_true rfl) rfl ?_
      refine x_iload F.1 (i := 29) rfl rfl ?_
      refine x_iload_n F.1 (i := 30) rfl rfl ?_
      refine x_icmp_gt F.1 (i := 31) (tgt := 49) rfl (by decide) (fun c => ?_) (fun c => ?_)
      · replace h := if_T c h
        refine x_iload F.1 (i := 33) rfl rfl ?_
        refine x_istore_n F.1 (i := 34) rfl (Nat.le_of_ble_eq_true rfl) (Nat.le_of_ble_eq_true rfl) rfl ?_
        refine x_bipush F.1 (i := 35) rfl bp_10 ?_
        refine x_iload_n F.1 (i := 36) rfl rfl ?_
        refine x_iconst F.1 (i := 37) rfl ic_2 ?_
        refine x_idiv F.1 (i := 38) (v := 0) rfl (by decide) ?_
        refine x_imul F.1 (i := 39) rfl ?_
        refine x_iload_n F.1 (i := 40) rfl rfl ?_
        refine x_iconst F.1 (i := 41) rfl ic_2 ?_
        refine x_irem F.1 (i := 42) (v := 0) rfl (by decide) ?_
        refine x_iadd F.1 (i := 43) rfl ?_
        refine x_istore_n F.1 (i := 44) rfl (Nat.le_of_ble_eq_true rfl) (Nat.le_of_ble_eq_true rfl) rfl ?_
        replace h := bd_e h
        refine x_iinc F.1 (i := 45) rfl rfl rfl (Nat.le_of_ble_eq_true rfl) rfl ?_
        replace h := bd_e h
        refine x_goto F.1 (i := 46) (tgt := 16) rfl (by decide) ?_
        exact x_wk F.1 (ih _ _ _ _ h) ⟨rfl, rfl, rfl, rfl, trivial⟩
      · replace h := if_F c h
        refine x_goto F.1 (i := 32) (tgt := 63) rfl (by decide) ?_
        refine x_iinc F.1 (i := 45) rfl rfl rfl (Nat.le_of_ble_eq_true rfl) rfl ?_
        replace h := bd_e h
        refine x_goto F.1 (i := 46) (tgt := 16) rfl (by decide) ?_
        exact x_wk F.1 (ih _ _ _ _ h) ⟨rfl, rfl, rfl, rfl, trivial⟩
set_option maxHeartbeats 4000000 in
theorem t_RM_worstPull {w : kx_W} {d : Nat} {M : kx_M} {Q : Option Value → kx_M → Prop} {r : Int32} {M' : kx_M} (h : f_RM_worstPull M = some (r, M')) (hQ : Q (some (.int r)) M') : Ct w (d + 5) m_RM_worstPull [.ref 135] M Q := by
  refine mk_ct ok_RM_worstPull (Nat.le_of_ble_eq_true rfl) (fun G F => ?_)
  rw [f_RM_worstPull] at h
  show G 0 [some (.ref 135), none, none, none, none] [] M
  refine x_aload_n F.1 (i := 0) rfl rfl ?_
  refine x_iconst F.1 (i := 1) rfl ic_0 ?_
  refine x_putI F.1 (i := 2) rfl fl_RM_68 pf_RM_thrown rfl (by rfl) ?_
  replace h := bd_e h
  refine x_aload_n F.1 (i := 3) rfl rfl ?_
  refine x_iconst F.1 (i := 4) rfl ic_0 ?_
  refine x_putI F.1 (i := 5) rfl fl_RM_71 pf_RM_status rfl (by rfl) ?_
  replace h := bd_e h
  refine x_iconst F.1 (i := 6) rfl ic_n1 ?_
  refine x_istore_n F.1 (i := 7) rfl (Nat.le_of_ble_eq_true rfl) (Nat.le_of_ble_eq_true rfl) rfl ?_
  refine x_iconst F.1 (i := 8) rfl ic_n1 ?_
  refine x_istore_n F.1 (i := 9) rfl (Nat.le_of_ble_eq_true rfl) (Nat.le_of_ble_eq_true rfl) rfl ?_
  refine x_iconst F.1 (i := 10) rfl ic_0 ?_
  refine x_istore_n F.1 (i := 11) rfl (Nat.le_of_ble_eq_true rfl) (Nat.le_of_ble_eq_true rfl) rfl ?_
  exact x_wk F.1 ((t_RM_worstPull_l16 F (res := (r, M')) hQ FU) _ _ _ _ h) ⟨rfl, rfl, rfl, rfl, trivial⟩
set_option maxHeartbeats 4000000 in
theorem t_RM_pulledOut {w : kx_W} {d : Nat} {M : kx_M} {Q : Option Value → kx_M → Prop} {p1 : Int32} {p2 : Int32} {r : Int32} {M' : kx_M} (h : f_RM_pulledOut p1 p2 M = some (r, M')) (hQ : Q (some (.int r)) M') : Ct w (d + 5) m_RM_pulledOut [.ref 135, .int p1, .int p2] M Q := by
  refine mk_ct ok_RM_pulledOut (Nat.le_of_ble_eq_true rfl) (fun G F => ?_)
  rw [f_RM_pulledOut] at h
  show G 0 [some (.ref 135), some (.int p1), some (.int p2), none] [] M
  refine x_aload_n F.1 (i := 0) rfl rfl ?_
  refine x_iconst F.1 (i := 1) rfl ic_0 ?_
  refine x_putI F.1 (i := 2) rfl fl_RM_68 pf_RM_thrown rfl (by rfl) ?_
  replace h := bd_e h
  refine x_aload_n F.1 (i := 3) rfl rfl ?_
  refine x_iconst F.1 (i := 4) rfl ic_0 ?_
  refine x_putI F.1 (i := 5) rfl fl_RM_71 pf_RM_status rfl (by rfl) ?_
  replace h := bd_e h
  refine x_aload_n F.1 (i := 6) rfl rfl ?_
  refine x_iload_n F.1 (i := 7) rfl rfl ?_
  refine cal_e h (fun r1 M3 e2 h => ?_)
  refine x_cV1i F.1 (i := 8) rfl ml_RM_330 ok_RM_isRowAt rfl (Nat.le_of_ble_eq_true rfl) (Nat.le_of_ble_eq_true rfl) (fun _ => t_RM_isRowAt e2) ?_
  refine x_if_ne F.1 (i := 9) (tgt := 24) rfl (by decide) (fun c => ?_) (fun c => ?_)
  · replace h := if_F c h
    refine x_iload_n F.1 (i := 14) rfl rfl ?_
    refine cal_e h (fun r5 M5 e6 h => ?_)
    refine x_cS1i F.1 (i := 15) rfl ml_RM_365 ok_RM_isSide (Nat.le_of_ble_eq_true rfl) (Nat.le_of_ble_eq_true rfl) (fun _ => t_RM_isSide e6) ?_
    refine x_if_ne F.1 (i := 16) (tgt := 37) rfl (by decide) (fun c => ?_) (fun c => ?_)
    · replace h := if_F c h
      refine x_aload_n F.1 (i := 21) rfl rfl ?_
      refine cal_e h (fun r9 M7 e10 h => ?_)
      refine x_cV0i F.1 (i := 22) rfl ml_RM_327 ok_RM_saidOnes rfl (Nat.le_of_ble_eq_true rfl) (Nat.le_of_ble_eq_true rfl) (fun _ => t_RM_saidOnes e10) ?_
      refine x_istore_n F.1 (i := 23) rfl (Nat.le_of_ble_eq_true rfl) (Nat.le_of_ble_eq_true rfl) rfl ?_
      refine x_aload_n F.1 (i := 24) rfl rfl ?_
      refine cal_e h (fun r11 M8 e12 h => ?_)
      refine x_cV0v F.1 (i := 25) rfl ml_RM_403 ok_RM_keeps rfl (Nat.le_of_ble_eq_true rfl) (Nat.le_of_ble_eq_true rfl) (fun _ => t_RM_keeps e12) ?_
      refine x_aload_n F.1 (i := 26) rfl rfl ?_
      refine x_iload_n F.1 (i := 27) rfl rfl ?_
      refine x_iload_n F.1 (i := 28) rfl rfl ?_
      refine cal_e h (fun r13 M9 e14 h => ?_)
      refine x_cV2i F.1 (i := 29) rfl ml_RM_368 ok_RM_pulls rfl (Nat.le_of_ble_eq_true rfl) (Nat.le_of_ble_eq_true rfl) (fun _ => t_RM_pulls e14) ?_
      refine x_pop F.1 (i := 30) rfl rfl ?_
      refine x_iload_n F.1 (i := 31) rfl rfl ?_
      refine x_aload_n F.1 (i := 32) rfl rfl ?_
      refine cal_e h (fun r15 M10 e16 h => ?_)
      refine x_cV0i F.1 (i := 33) rfl ml_RM_327 ok_RM_saidOnes rfl (Nat.le_of_ble_eq_true rfl) (Nat.le_of_ble_eq_true rfl) (fun _ => t_RM_saidOnes e16) ?_
      refine x_iconst F.1 (i := 34) rfl ic_n1 ?_
      refine x_ixor F.1 (i := 35) rfl ?_
      refine x_iand F.1 (i := 36) rfl ?_
      refine x_istore_n F.1 (i := 37) rfl (Nat.le_of_ble_eq_true rfl) (Nat.le_of_ble_eq_true rfl) rfl ?_
      replace h := bd_e h
      refine x_aload_n F.1 (i := 38) rfl rfl ?_
      refine cal_e h (fun r18 M11 e19 h => ?_)
      refine x_cV0v F.1 (i := 39) rfl ml_RM_406 ok_RM_gives rfl (Nat.le_of_ble_eq_true rfl) (Nat.le_of_ble_eq_true rfl) (fun _ => t_RM_gives e19) ?_
      refine x_iload_n F.1 (i := 40) rfl rfl ?_
      exact x_iretf F (i := 41) rfl rfl h (res := (r, M')) hQ
    · replace h := if_T c h
      refine x_aload_n F.1 (i := 17) rfl rfl ?_
      refine x_iconst F.1 (i := 18) rfl ic_5 ?_
      refine cal_e h (fun r7 M6 e8 h => ?_)
      refine x_cV1i F.1 (i := 19) rfl ml_RM_321 ok_RM_refuse rfl (Nat.le_of_ble_eq_true rfl) (Nat.le_of_ble_eq_true rfl) (fun _ => t_RM_refuse e8) ?_
      exact x_iretf F (i := 20) rfl rfl h (res := (r, M')) hQ
  · replace h := if_T c h
    refine x_aload_n F.1 (i := 10) rfl rfl ?_
    refine x_iconst F.1 (i := 11) rfl ic_2 ?_
    refine cal_e h (fun r3 M4 e4 h => ?_)
    refine x_cV1i F.1 (i := 12) rfl ml_RM_321 ok_RM_refuse rfl (Nat.le_of_ble_eq_true rfl) (Nat.le_of_ble_eq_true rfl) (fun _ => t_RM_refuse e4) ?_
    exact x_iretf F (i := 13) rfl rfl h (res := (r, M')) hQ
set_option maxHeartbeats 4000000 in
theorem t_RM_whyNoMend {w : kx_W} {d : Nat} {M : kx_M} {Q : Option Value → kx_M → Prop} {p1 : Int32} {p2 : Int32} {p3 : Int32} {r : Int32} {M' : kx_M} (h : f_RM_whyNoMend p1 p2 p3 M = some (r, M')) (hQ : Q (some (.int r)) M') : Ct w (d + 2) m_RM_whyNoMend [.ref 135, .int p1, .int p2, .int p3] M Q := by
  refine mk_ct ok_RM_whyNoMend (Nat.le_of_ble_eq_true rfl) (fun G F => ?_)
  rw [f_RM_whyNoMend] at h
  show G 0 [some (.ref 135), some (.int p1), some (.int p2), some (.int p3)] [] M
  refine x_aload_n F.1 (i := 0) rfl rfl ?_
  refine x_iload_n F.1 (i := 1) rfl rfl ?_
  refine cal_e h (fun r1 M1 e2 h => ?_)
  refine x_cV1i F.1 (i := 2) rfl ml_RM_339 ok_RM_isClauseAt rfl (Nat.le_of_ble_eq_true rfl) (Nat.le_of_ble_eq_true rfl) (fun _ => t_RM_isClauseAt e2) ?_
  refine x_if_eq F.1 (i := 3) (tgt := 16) rfl (by decide) (fun c => ?_) (fun c => ?_)
  · replace h := if_T c h
    refine x_iconst F.1 (i := 8) rfl ic_2 ?_
    refine x_goto F.1 (i := 9) (tgt := 32) rfl (by decide) ?_
    exact x_iretf F (i := 16) rfl rfl h (res := (r, M')) hQ
  · replace h := if_F c h
    refine x_aload_n F.1 (i := 4) rfl rfl ?_
    refine x_iload_n F.1 (i := 5) rfl rfl ?_
    refine cal_e h (fun r3 M2 e4 h => ?_)
    refine x_cV1i F.1 (i := 6) rfl ml_RM_330 ok_RM_isRowAt rfl (Nat.le_of_ble_eq_true rfl) (Nat.le_of_ble_eq_true rfl) (fun _ => t_RM_isRowAt e4) ?_
    refine x_if_ne F.1 (i := 7) (tgt := 20) rfl (by decide) (fun c => ?_) (fun c => ?_)
    · replace h := if_F c h
      refine x_iload_n F.1 (i := 10) rfl rfl ?_
      refine cal_e h (fun r5 M3 e6 h => ?_)
      refine x_cS1i F.1 (i := 11) rfl ml_RM_365 ok_RM_isSide (Nat.le_of_ble_eq_true rfl) (Nat.le_of_ble_eq_true rfl) (fun _ => t_RM_isSide e6) ?_
      refine x_if_eq F.1 (i := 12) (tgt := 31) rfl (by decide) (fun c => ?_) (fun c => ?_)
      · replace h := if_T c h
        refine x_iconst F.1 (i := 15) rfl ic_5 ?_
        exact x_iretf F (i := 16) rfl rfl h (res := (r, M')) hQ
      · replace h := if_F c h
        refine x_iconst F.1 (i := 13) rfl ic_0 ?_
        refine x_goto F.1 (i := 14) (tgt := 32) rfl (by decide) ?_
        exact x_iretf F (i := 16) rfl rfl h (res := (r, M')) hQ
    · replace h := if_T c h
      refine x_iconst F.1 (i := 8) rfl ic_2 ?_
      refine x_goto F.1 (i := 9) (tgt := 32) rfl (by decide) ?_
      exact x_iretf F (i := 16) rfl rfl h (res := (r, M')) hQ
set_option maxHeartbeats 4000000 in
theorem t_RM_sizeOf_l4 {w : kx_W} {d : Nat} {Q : Option Value → kx_M → Prop} {G : Nat → List (Option Value) → List Value → kx_M → Prop} (F : Sd w (d + 1) m_RM_sizeOf Q G) {p0 : Int32} {res : Int32 × kx_M} (hQ : Q (some (.int res.1)) res.2) :
    ∀ (n : Nat) (x1 : Int32) (x2 : Int32) (M : kx_M),
    f_RM_sizeOf_l4 p0 n x1 x2 M = some res → G 4 [some (.int p0), some (.int x1), some (.int x2)] [] M := by
  intro n
  induction n with
  | zero =>
    intro x1 x2 M h
    exact absurd h (by rw [f_RM_sizeOf_l4]; exact fun z => nomatch z)
  | succ n ih =>
    intro x1 x2 M h
    rw [f_RM_sizeOf_l4] at h
    refine x_iload_n F.1 (i := 4) rfl rfl ?_
    refine x_bipush F.1 (i := 5) rfl bp_8 ?_
    refine x_icmp_ge F.1 (i := 6) (tgt := 32) rfl (by decide) (fun c => ?_) (fun c => ?_)
    · replace h := if_T c h
      refine x_iload_n F.1 (i := 19) rfl rfl ?_
      exact x_iretf F (i := 20) rfl rfl h hQ
    · replace h := if_F c h
      refine x_iload_n F.1 (i := 7) rfl rfl ?_
      refine x_iload_n F.1 (i := 8) rfl rfl ?_
      refine x_iload_n F.1 (i := 9) rfl rfl ?_
      refine cal_e h (fun r1 M1 e2 h => ?_)
      refine x_cS2i F.1 (i := 10) rfl ml_RM_241 ok_RM_has (Nat.le_of_ble_eq_true rfl) (Nat.le_of_ble_eq_true rfl) (fun _ => t_RM_has e2) ?_
      refine x_if_eq F.1 (i := 11) (tgt := 23) rfl (by decide) (fun c => ?_) (fun c => ?_)
      · replace h := if_T c h
        refine x_iconst F.1 (i := 14) rfl ic_0 ?_
        refine x_iadd F.1 (i := 15) rfl ?_
        refine x_istore_n F.1 (i := 16) rfl (Nat.le_of_ble_eq_true rfl) (Nat.le_of_ble_eq_true rfl) rfl ?_
        replace h := bd_e h
        refine x_iinc F.1 (i := 17) rfl rfl rfl (Nat.le_of_ble_eq_true rfl) rfl ?_
        replace h := bd_e h
        refine x_goto F.1 (i := 18) (tgt := 4) rfl (by decide) ?_
        exact x_wk F.1 (ih _ _ _ h) ⟨rfl, rfl, rfl, trivial⟩
      · replace h := if_F c h
        refine x_iconst F.1 (i := 12) rfl ic_1 ?_
        refine x_goto F.1 (i := 13) (tgt := 24) rfl (by decide) ?_
        refine x_iadd F.1 (i := 15) rfl ?_
        refine x_istore_n F.1 (i := 16) rfl (Nat.le_of_ble_eq_true rfl) (Nat.le_of_ble_eq_true rfl) rfl ?_
        replace h := bd_e h
        refine x_iinc F.1 (i := 17) rfl rfl rfl (Nat.le_of_ble_eq_true rfl) rfl ?_
        replace h := bd_e h
        refine x_goto F.1 (i := 18) (tgt := 4) rfl (by decide) ?_
        exact x_wk F.1 (ih _ _ _ h) ⟨rfl, rfl, rfl, trivial⟩
set_option maxHeartbeats 4000000 in
theorem t_RM_sizeOf {w : kx_W} {d : Nat} {M : kx_M} {Q : Option Value → kx_M → Prop} {p0 : Int32} {r : Int32} {M' : kx_M} (h : f_RM_sizeOf p0 M = some (r, M')) (hQ : Q (some (.int r)) M') : Ct w (d + 1) m_RM_sizeOf [.int p0] M Q := by
  refine mk_ct ok_RM_sizeOf (Nat.le_of_ble_eq_true rfl) (fun G F => ?_)
  rw [f_RM_sizeOf] at h
  show G 0 [some (.int p0), none, none] [] M
  refine x_iconst F.1 (i := 0) rfl ic_0 ?_
  refine x_istore_n F.1 (i := 1) rfl (Nat.le_of_ble_eq_true rfl) (Nat.le_of_ble_eq_true rfl) rfl ?_
  refine x_iconst F.1 (i := 2) rfl ic_0 ?_
  refine x_istore_n F.1 (i := 3) rfl (Nat.le_of_ble_eq_true rfl) (Nat.le_of_ble_eq_true rfl) rfl ?_
  exact x_wk F.1 ((t_RM_sizeOf_l4 F (res := (r, M')) hQ FU) _ _ _ h) ⟨rfl, rfl, rfl, trivial⟩
set_option maxHeartbeats 4000000 in
theorem t_RM_isMended_l7 {w : kx_W} {d : Nat} {Q : Option Value → kx_M → Prop} {G : Nat → List (Option Value) → List Value → kx_M → Prop} (F : Sd w (d + 4) m_RM_isMended Q G) {p1 : Int32} {p2 : Int32} {p3 : Int32} {p4 : Int32} {res : Int32 × kx_M} (hQ : Q (some (.int res.1)) res.2) :
    ∀ (n : Nat) (x5 : Int32) (M : kx_M),
    f_RM_isMended_l7 p1 p2 p3 p4 n x5 M = some res → G 7 [some (.ref 135), some (.int p1), some (.int p2), some (.int p3), some (.int p4), some (.int x5)] [] M := by
  intro n
  induction n with
  | zero =>
    intro x5 M h
    exact absurd h (by rw [f_RM_isMended_l7]; exact fun z => nomatch z)
  | succ n ih =>
    intro x5 M h
    rw [f_RM_isMended_l7] at h
    refine x_iload F.1 (i := 4) rfl rfl ?_
    refine x_aload_n F.1 (i := 5) rfl rfl ?_
    refine x_getC F.1 (i := 6) rfl fl_RM_35 rfl (by rfl) ?_
    refine x_iconst F.1 (i := 7) rfl ic_0 ?_
    refine gd_e h (fun g1 h => ?_)
    refine x_iald F.1 (i := 8) rfl rfl (inb_e g1) ?_
    refine x_icmp_ge F.1 (i := 9) (tgt := 45) rfl (by decide) (fun c => ?_) (fun c => ?_)
    · replace h := if_T c h
      refine x_aload_n F.1 (i := 22) rfl rfl ?_
      refine x_iload_n F.1 (i := 23) rfl rfl ?_
      refine x_iload_n F.1 (i := 24) rfl rfl ?_
      refine cal_e h (fun r2 M1 e3 h => ?_)
      refine x_cV2i F.1 (i := 25) rfl ml_RM_368 ok_RM_pulls rfl (Nat.le_of_ble_eq_true rfl) (Nat.le_of_ble_eq_true rfl) (fun _ => t_RM_pulls e3) ?_
      refine x_pop F.1 (i := 26) rfl rfl ?_
      refine x_aload_n F.1 (i := 27) rfl rfl ?_
      refine x_iload_n F.1 (i := 28) rfl rfl ?_
      refine x_iload_n F.1 (i := 29) rfl rfl ?_
      refine cal_e h (fun r4 M2 e5 h => ?_)
      refine x_cV2i F.1 (i := 30) rfl ml_RM_313 ok_RM_timesIn rfl (Nat.le_of_ble_eq_true rfl) (Nat.le_of_ble_eq_true rfl) (fun _ => t_RM_timesIn e5) ?_
      refine x_if_le F.1 (i := 31) (tgt := 65) rfl (by decide) (fun c => ?_) (fun c => ?_)
      · replace h := if_T c h
        refine x_iconst F.1 (i := 34) rfl ic_0 ?_
        refine x_istore F.1 (i := 35) rfl (Nat.le_of_ble_eq_true rfl) (Nat.le_of_ble_eq_true rfl) rfl ?_
        refine x_aload_n F.1 (i := 36) rfl rfl ?_
        refine cal_e h (fun r6 M3 e7 h => ?_)
        refine x_cV0v F.1 (i := 37) rfl ml_RM_406 ok_RM_gives rfl (Nat.le_of_ble_eq_true rfl) (Nat.le_of_ble_eq_true rfl) (fun _ => t_RM_gives e7) ?_
        refine x_iload F.1 (i := 38) rfl rfl ?_
        exact x_zretf F (i := 39) rfl rfl (Or.inl rfl) h hQ
      · replace h := if_F c h
        refine x_iconst F.1 (i := 32) rfl ic_1 ?_
        refine x_goto F.1 (i := 33) (tgt := 66) rfl (by decide) ?_
        refine x_istore F.1 (i := 35) rfl (Nat.le_of_ble_eq_true rfl) (Nat.le_of_ble_eq_true rfl) rfl ?_
        refine x_aload_n F.1 (i := 36) rfl rfl ?_
        refine cal_e h (fun r8 M4 e9 h => ?_)
        refine x_cV0v F.1 (i := 37) rfl ml_RM_406 ok_RM_gives rfl (Nat.le_of_ble_eq_true rfl) (Nat.le_of_ble_eq_true rfl) (fun _ => t_RM_gives e9) ?_
        refine x_iload F.1 (i := 38) rfl rfl ?_
        exact x_zretf F (i := 39) rfl rfl (Or.inr rfl) h hQ
    · replace h := if_F c h
      refine x_iload F.1 (i := 10) rfl rfl ?_
      refine x_iload F.1 (i := 11) rfl rfl ?_
      refine cal_e h (fun r10 M5 e11 h => ?_)
      refine x_cS2i F.1 (i := 12) rfl ml_RM_241 ok_RM_has (Nat.le_of_ble_eq_true rfl) (Nat.le_of_ble_eq_true rfl) (fun _ => t_RM_has e11) ?_
      refine x_if_eq F.1 (i := 13) (tgt := 39) rfl (by decide) (fun c => ?_) (fun c => ?_)
      · replace h := if_T c h
        refine x_iinc F.1 (i := 20) rfl rfl rfl (Nat.le_of_ble_eq_true rfl) rfl ?_
        replace h := bd_e h
        refine x_goto F.1 (i := 21) (tgt := 7) rfl (by decide) ?_
        exact x_wk F.1 (ih _ _ h) ⟨rfl, rfl, rfl, rfl, rfl, rfl, trivial⟩
      · replace h := if_F c h
        refine x_aload_n F.1 (i := 14) rfl rfl ?_
        refine x_iload_n F.1 (i := 15) rfl rfl ?_
        refine x_iload F.1 (i := 16) rfl rfl ?_
        refine cal_e h (fun r13 M6 e14 h => ?_)
        refine x_cS2i F.1 (i := 17) rfl ml_RM_303 ok_RM_place (Nat.le_of_ble_eq_true rfl) (Nat.le_of_ble_eq_true rfl) (fun _ => t_RM_place e14) ?_
        refine cal_e h (fun r15 M7 e16 h => ?_)
        refine x_cV1i F.1 (i := 18) rfl ml_RM_374 ok_RM_darns rfl (Nat.le_of_ble_eq_true rfl) (Nat.le_of_ble_eq_true rfl) (fun _ => t_RM_darns e16) ?_
        refine x_pop F.1 (i := 19) rfl rfl ?_
        refine x_iinc F.1 (i := 20) rfl rfl rfl (Nat.le_of_ble_eq_true rfl) rfl ?_
        replace h := bd_e h
        refine x_goto F.1 (i := 21) (tgt := 7) rfl (by decide) ?_
        exact x_wk F.1 (ih _ _ h) ⟨rfl, rfl, rfl, rfl, rfl, rfl, trivial⟩
set_option maxHeartbeats 4000000 in
theorem t_RM_isMended {w : kx_W} {d : Nat} {M : kx_M} {Q : Option Value → kx_M → Prop} {p1 : Int32} {p2 : Int32} {p3 : Int32} {p4 : Int32} {r : Int32} {M' : kx_M} (h : f_RM_isMended p1 p2 p3 p4 M = some (r, M')) (hQ : Q (some (.int r)) M') : Ct w (d + 4) m_RM_isMended [.ref 135, .int p1, .int p2, .int p3, .int p4] M Q := by
  refine mk_ct ok_RM_isMended (Nat.le_of_ble_eq_true rfl) (fun G F => ?_)
  rw [f_RM_isMended] at h
  show G 0 [some (.ref 135), some (.int p1), some (.int p2), some (.int p3), some (.int p4), none] [] M
  refine x_aload_n F.1 (i := 0) rfl rfl ?_
  refine cal_e h (fun r1 M1 e2 h => ?_)
  refine x_cV0v F.1 (i := 1) rfl ml_RM_403 ok_RM_keeps rfl (Nat.le_of_ble_eq_true rfl) (Nat.le_of_ble_eq_true rfl) (fun _ => t_RM_keeps e2) ?_
  refine x_iconst F.1 (i := 2) rfl ic_0 ?_
  refine x_istore F.1 (i := 3) rfl (Nat.le_of_ble_eq_true rfl) (Nat.le_of_ble_eq_true rfl) rfl ?_
  exact x_wk F.1 ((t_RM_isMended_l7 F (res := (r, M')) hQ FU) _ _ h) ⟨rfl, rfl, rfl, rfl, rfl, rfl, trivial⟩
set_option maxHeartbeats 4000000 in
theorem t_RM_mending_l37 {w : kx_W} {d : Nat} {Q : Option Value → kx_M → Prop} {G : Nat → List (Option Value) → List Value → kx_M → Prop} (F : Sd w (d + 5) m_RM_mending Q G) {p1 : Int32} {p2 : Int32} {p3 : Int32} {k6 : Int32 → Int32 → kx_M → Option (Int32 × kx_M)} {res : Int32 × kx_M} (hQ : Q (some (.int res.1)) res.2) (hk6 : ∀ (x4 : Int32) (x5 : Int32) (M : kx_M), k6 x4 x5 M = some res → G 6 [some (.ref 135), some (.int p1), some (.int p2), some (.int p3), some (.int x4), some (.int x5)] [] M) :
    ∀ (x4 : Int32) (x5 : Int32) (M : kx_M),
    f_RM_mending_l37 p1 p2 p3 k6 x4 x5 M = some res → G 37 [some (.ref 135), some (.int p1), some (.int p2), some (.int p3), some (.int x4), some (.int x5)] [] M := by
  intro x4 x5 M h
  rw [f_RM_mending_l37] at h
  refine x_aload_n F.1 (i := 19) rfl rfl ?_
  refine x_iload_n F.1 (i := 20) rfl rfl ?_
  refine x_iload_n F.1 (i := 21) rfl rfl ?_
  refine x_iload_n F.1 (i := 22) rfl rfl ?_
  refine x_iload F.1 (i := 23) rfl rfl ?_
  refine cal_e h (fun r1 M1 e2 h => ?_)
  refine x_cV4i F.1 (i := 24) rfl ml_RM_418 ok_RM_isMended rfl (Nat.le_of_ble_eq_true rfl) (Nat.le_of_ble_eq_true rfl) (fun _ => t_RM_isMended e2) ?_
  refine x_if_eq F.1 (i := 25) (tgt := 53) rfl (by decide) (fun c => ?_) (fun c => ?_)
  · replace h := if_T c h
    refine x_iinc F.1 (i := 28) rfl rfl rfl (Nat.le_of_ble_eq_true rfl) rfl ?_
    replace h := bd_e h
    refine x_goto F.1 (i := 29) (tgt := 6) rfl (by decide) ?_
    exact x_wk F.1 (hk6 _ _ _ h) ⟨rfl, rfl, rfl, rfl, rfl, rfl, trivial⟩
  · replace h := if_F c h
    refine x_iload F.1 (i := 26) rfl rfl ?_
    refine x_istore F.1 (i := 27) rfl (Nat.le_of_ble_eq_true rfl) (Nat.le_of_ble_eq_true rfl) rfl ?_
    refine x_iinc F.1 (i := 28) rfl rfl rfl (Nat.le_of_ble_eq_true rfl) rfl ?_
    replace h := bd_e h
    refine x_goto F.1 (i := 29) (tgt := 6) rfl (by decide) ?_
    exact x_wk F.1 (hk6 _ _ _ h) ⟨rfl, rfl, rfl, rfl, rfl, rfl, trivial⟩
set_option maxHeartbeats 4000000 in
theorem t_RM_mending_l6 {w : kx_W} {d : Nat} {Q : Option Value → kx_M → Prop} {G : Nat → List (Option Value) → List Value → kx_M → Prop} (F : Sd w (d + 5) m_RM_mending Q G) {p1 : Int32} {p2 : Int32} {p3 : Int32} {res : Int32 × kx_M} (hQ : Q (some (.int res.1)) res.2) :
    ∀ (n : Nat) (x4 : Int32) (x5 : Int32) (M : kx_M),
    f_RM_mending_l6 p1 p2 p3 n x4 x5 M = some res → G 6 [some (.ref 135), some (.int p1), some (.int p2), some (.int p3), some (.int x4), some (.int x5)] [] M := by
  intro n
  induction n with
  | zero =>
    intro x4 x5 M h
    exact absurd h (by rw [f_RM_mending_l6]; exact fun z => nomatch z)
  | succ n ih =>
    intro x4 x5 M h
    rw [f_RM_mending_l6] at h
    refine x_iload F.1 (i := 4) rfl rfl ?_
    refine x_iconst F.1 (i := 5) rfl ic_1 ?_
    refine x_aload_n F.1 (i := 6) rfl rfl ?_
    refine x_getC F.1 (i := 7) rfl fl_RM_35 rfl (by rfl) ?_
    refine x_iconst F.1 (i := 8) rfl ic_0 ?_
    refine gd_e h (fun g1 h => ?_)
    refine x_iald F.1 (i := 9) rfl rfl (inb_e g1) ?_
    refine x_ishl F.1 (i := 10) rfl ?_
    refine x_icmp_ge F.1 (i := 11) (tgt := 59) rfl (by decide) (fun c => ?_) (fun c => ?_)
    · replace h := if_T c h
      refine x_iload F.1 (i := 30) rfl rfl ?_
      exact x_iretf F (i := 31) rfl rfl h hQ
    · replace h := if_F c h
      refine x_iload F.1 (i := 12) rfl rfl ?_
      refine x_if_lt F.1 (i := 13) (tgt := 37) rfl (by decide) (fun c => ?_) (fun c => ?_)
      · replace h := if_T c h
        exact x_wk F.1 ((t_RM_mending_l37 F hQ ih) _ _ _ h) ⟨rfl, rfl, rfl, rfl, rfl, rfl, trivial⟩
      · replace h := if_F c h
        refine x_iload F.1 (i := 14) rfl rfl ?_
        refine cal_e h (fun r2 M1 e3 h => ?_)
        refine x_cS1i F.1 (i := 15) rfl ml_RM_415 ok_RM_sizeOf (Nat.le_of_ble_eq_true rfl) (Nat.le_of_ble_eq_true rfl) (fun _ => t_RM_sizeOf e3) ?_
        refine x_iload F.1 (i := 16) rfl rfl ?_
        refine cal_e h (fun r4 M2 e5 h => ?_)
        refine x_cS1i F.1 (i := 17) rfl ml_RM_415 ok_RM_sizeOf (Nat.le_of_ble_eq_true rfl) (Nat.le_of_ble_eq_true rfl) (fun _ => t_RM_sizeOf e5) ?_
        refine x_icmp_ge F.1 (i := 18) (tgt := 53) rfl (by decide) (fun c => ?_) (fun c => ?_)
        · replace h := if_T c h
          refine x_iinc F.1 (i := 28) rfl rfl rfl (Nat.le_of_ble_eq_true rfl) rfl ?_
          replace h := bd_e h
          refine x_goto F.1 (i := 29) (tgt := 6) rfl (by decide) ?_
          exact x_wk F.1 (ih _ _ _ h) ⟨rfl, rfl, rfl, rfl, rfl, rfl, trivial⟩
        · replace h := if_F c h
          exact x_wk F.1 ((t_RM_mending_l37 F hQ ih) _ _ _ h) ⟨rfl, rfl, rfl, rfl, rfl, rfl, trivial⟩
set_option maxHeartbeats 4000000 in
theorem t_RM_mending {w : kx_W} {d : Nat} {M : kx_M} {Q : Option Value → kx_M → Prop} {p1 : Int32} {p2 : Int32} {p3 : Int32} {r : Int32} {M' : kx_M} (h : f_RM_mending p1 p2 p3 M = some (r, M')) (hQ : Q (some (.int r)) M') : Ct w (d + 5) m_RM_mending [.ref 135, .int p1, .int p2, .int p3] M Q := by
  refine mk_ct ok_RM_mending (Nat.le_of_ble_eq_true rfl) (fun G F => ?_)
  rw [f_RM_mending] at h
  show G 0 [some (.ref 135), some (.int p1), some (.int p2), some (.int p3), none, none] [] M
  refine x_iconst F.1 (i := 0) rfl ic_n1 ?_
  refine x_istore F.1 (i := 1) rfl (Nat.le_of_ble_eq_true rfl) (Nat.le_of_ble_eq_true rfl) rfl ?_
  refine x_iconst F.1 (i := 2) rfl ic_0 ?_
  refine x_istore F.1 (i := 3) rfl (Nat.le_of_ble_eq_true rfl) (Nat.le_of_ble_eq_true rfl) rfl ?_
  exact x_wk F.1 ((t_RM_mending_l6 F (res := (r, M')) hQ FU) _ _ _ h) ⟨rfl, rfl, rfl, rfl, rfl, rfl, trivial⟩
set_option maxHeartbeats 4000000 in
theorem t_RM_mend {w : kx_W} {d : Nat} {M : kx_M} {Q : Option Value → kx_M → Prop} {p1 : Int32} {p2 : Int32} {p3 : Int32} {r : Int32} {M' : kx_M} (h : f_RM_mend p1 p2 p3 M = some (r, M')) (hQ : Q (some (.int r)) M') : Ct w (d + 6) m_RM_mend [.ref 135, .int p1, .int p2, .int p3] M Q := by
  refine mk_ct ok_RM_mend (Nat.le_of_ble_eq_true rfl) (fun G F => ?_)
  rw [f_RM_mend] at h
  show G 0 [some (.ref 135), some (.int p1), some (.int p2), some (.int p3), none] [] M
  refine x_aload_n F.1 (i := 0) rfl rfl ?_
  refine x_iconst F.1 (i := 1) rfl ic_0 ?_
  refine x_putI F.1 (i := 2) rfl fl_RM_68 pf_RM_thrown rfl (by rfl) ?_
  replace h := bd_e h
  refine x_aload_n F.1 (i := 3) rfl rfl ?_
  refine x_aload_n F.1 (i := 4) rfl rfl ?_
  refine x_iload_n F.1 (i := 5) rfl rfl ?_
  refine x_iload_n F.1 (i := 6) rfl rfl ?_
  refine x_iload_n F.1 (i := 7) rfl rfl ?_
  refine cal_e h (fun r1 M2 e2 h => ?_)
  refine x_cV3i F.1 (i := 8) rfl ml_RM_422 ok_RM_whyNoMend rfl (Nat.le_of_ble_eq_true rfl) (Nat.le_of_ble_eq_true rfl) (fun _ => t_RM_whyNoMend e2) ?_
  refine x_putI F.1 (i := 9) rfl fl_RM_71 pf_RM_status rfl (by rfl) ?_
  replace h := bd_e h
  refine x_aload_n F.1 (i := 10) rfl rfl ?_
  refine x_getI F.1 (i := 11) rfl fl_RM_71 rfl (by rfl) ?_
  refine x_if_le F.1 (i := 12) (tgt := 25) rfl (by decide) (fun c => ?_) (fun c => ?_)
  · replace h := if_T c h
    refine x_aload_n F.1 (i := 15) rfl rfl ?_
    refine x_iload_n F.1 (i := 16) rfl rfl ?_
    refine x_iload_n F.1 (i := 17) rfl rfl ?_
    refine x_iload_n F.1 (i := 18) rfl rfl ?_
    refine cal_e h (fun r3 M4 e4 h => ?_)
    refine x_cV3i F.1 (i := 19) rfl ml_RM_426 ok_RM_mending rfl (Nat.le_of_ble_eq_true rfl) (Nat.le_of_ble_eq_true rfl) (fun _ => t_RM_mending e4) ?_
    refine x_istore F.1 (i := 20) rfl (Nat.le_of_ble_eq_true rfl) (Nat.le_of_ble_eq_true rfl) rfl ?_
    refine x_iload F.1 (i := 21) rfl rfl ?_
    refine x_if_ge F.1 (i := 22) (tgt := 48) rfl (by decide) (fun c => ?_) (fun c => ?_)
    · replace h := if_T c h
      refine x_iload F.1 (i := 27) rfl rfl ?_
      refine cal_e h (fun r5 M5 e6 h => ?_)
      refine x_cS1i F.1 (i := 28) rfl ml_RM_415 ok_RM_sizeOf (Nat.le_of_ble_eq_true rfl) (Nat.le_of_ble_eq_true rfl) (fun _ => t_RM_sizeOf e6) ?_
      exact x_iretf F (i := 29) rfl rfl h (res := (r, M')) hQ
    · replace h := if_F c h
      refine x_aload_n F.1 (i := 23) rfl rfl ?_
      refine x_bipush F.1 (i := 24) rfl bp_8 ?_
      refine cal_e h (fun r7 M6 e8 h => ?_)
      refine x_cV1i F.1 (i := 25) rfl ml_RM_321 ok_RM_refuse rfl (Nat.le_of_ble_eq_true rfl) (Nat.le_of_ble_eq_true rfl) (fun _ => t_RM_refuse e8) ?_
      refine x_goto F.1 (i := 26) (tgt := 53) rfl (by decide) ?_
      exact x_iretf F (i := 29) rfl rfl h (res := (r, M')) hQ
  · replace h := if_F c h
    refine x_iconst F.1 (i := 13) rfl ic_n1 ?_
    exact x_iretf F (i := 14) rfl rfl h (res := (r, M')) hQ
set_option maxHeartbeats 4000000 in
theorem t_RM_mendSet {w : kx_W} {d : Nat} {M : kx_M} {Q : Option Value → kx_M → Prop} {p1 : Int32} {p2 : Int32} {p3 : Int32} {r : Int32} {M' : kx_M} (h : f_RM_mendSet p1 p2 p3 M = some (r, M')) (hQ : Q (some (.int r)) M') : Ct w (d + 6) m_RM_mendSet [.ref 135, .int p1, .int p2, .int p3] M Q := by
  refine mk_ct ok_RM_mendSet (Nat.le_of_ble_eq_true rfl) (fun G F => ?_)
  rw [f_RM_mendSet] at h
  show G 0 [some (.ref 135), some (.int p1), some (.int p2), some (.int p3), none] [] M
  refine x_aload_n F.1 (i := 0) rfl rfl ?_
  refine x_iconst F.1 (i := 1) rfl ic_0 ?_
  refine x_putI F.1 (i := 2) rfl fl_RM_68 pf_RM_thrown rfl (by rfl) ?_
  replace h := bd_e h
  refine x_aload_n F.1 (i := 3) rfl rfl ?_
  refine x_aload_n F.1 (i := 4) rfl rfl ?_
  refine x_iload_n F.1 (i := 5) rfl rfl ?_
  refine x_iload_n F.1 (i := 6) rfl rfl ?_
  refine x_iload_n F.1 (i := 7) rfl rfl ?_
  refine cal_e h (fun r1 M2 e2 h => ?_)
  refine x_cV3i F.1 (i := 8) rfl ml_RM_422 ok_RM_whyNoMend rfl (Nat.le_of_ble_eq_true rfl) (Nat.le_of_ble_eq_true rfl) (fun _ => t_RM_whyNoMend e2) ?_
  refine x_putI F.1 (i := 9) rfl fl_RM_71 pf_RM_status rfl (by rfl) ?_
  replace h := bd_e h
  refine x_aload_n F.1 (i := 10) rfl rfl ?_
  refine x_getI F.1 (i := 11) rfl fl_RM_71 rfl (by rfl) ?_
  refine x_if_le F.1 (i := 12) (tgt := 25) rfl (by decide) (fun c => ?_) (fun c => ?_)
  · replace h := if_T c h
    refine x_aload_n F.1 (i := 15) rfl rfl ?_
    refine x_iload_n F.1 (i := 16) rfl rfl ?_
    refine x_iload_n F.1 (i := 17) rfl rfl ?_
    refine x_iload_n F.1 (i := 18) rfl rfl ?_
    refine cal_e h (fun r3 M4 e4 h => ?_)
    refine x_cV3i F.1 (i := 19) rfl ml_RM_426 ok_RM_mending rfl (Nat.le_of_ble_eq_true rfl) (Nat.le_of_ble_eq_true rfl) (fun _ => t_RM_mending e4) ?_
    refine x_istore F.1 (i := 20) rfl (Nat.le_of_ble_eq_true rfl) (Nat.le_of_ble_eq_true rfl) rfl ?_
    refine x_iload F.1 (i := 21) rfl rfl ?_
    refine x_if_ge F.1 (i := 22) (tgt := 48) rfl (by decide) (fun c => ?_) (fun c => ?_)
    · replace h := if_T c h
      refine x_iload F.1 (i := 27) rfl rfl ?_
      exact x_iretf F (i := 28) rfl rfl h (res := (r, M')) hQ
    · replace h := if_F c h
      refine x_aload_n F.1 (i := 23) rfl rfl ?_
      refine x_bipush F.1 (i := 24) rfl bp_8 ?_
      refine cal_e h (fun r5 M5 e6 h => ?_)
      refine x_cV1i F.1 (i := 25) rfl ml_RM_321 ok_RM_refuse rfl (Nat.le_of_ble_eq_true rfl) (Nat.le_of_ble_eq_true rfl) (fun _ => t_RM_refuse e6) ?_
      refine x_goto F.1 (i := 26) (tgt := 50) rfl (by decide) ?_
      exact x_iretf F (i := 28) rfl rfl h (res := (r, M')) hQ
  · replace h := if_F c h
    refine x_iconst F.1 (i := 13) rfl ic_n1 ?_
    exact x_iretf F (i := 14) rfl rfl h (res := (r, M')) hQ
set_option maxHeartbeats 4000000 in
theorem t_RM_areClauses {w : kx_W} {d : Nat} {M : kx_M} {Q : Option Value → kx_M → Prop} {p1 : Int32} {r : Int32} {M' : kx_M} (h : f_RM_areClauses p1 M = some (r, M')) (hQ : Q (some (.int r)) M') : Ct w (d + 1) m_RM_areClauses [.ref 135, .int p1] M Q := by
  refine mk_ct ok_RM_areClauses (Nat.le_of_ble_eq_true rfl) (fun G F => ?_)
  rw [f_RM_areClauses] at h
  show G 0 [some (.ref 135), some (.int p1)] [] M
  refine x_iload_n F.1 (i := 0) rfl rfl ?_
  refine x_i2l F.1 (i := 1) rfl ?_
  refine x_lconst F.1 (i := 2) (v := 0) rfl rfl ?_
  refine x_iconst F.1 (i := 3) rfl ic_1 ?_
  refine x_aload_n F.1 (i := 4) rfl rfl ?_
  refine x_getC F.1 (i := 5) rfl fl_RM_35 rfl (by rfl) ?_
  refine x_iconst F.1 (i := 6) rfl ic_3 ?_
  refine gd_e h (fun g1 h => ?_)
  refine x_iald F.1 (i := 7) rfl rfl (inb_e g1) ?_
  refine x_ishl F.1 (i := 8) rfl ?_
  refine x_iconst F.1 (i := 9) rfl ic_1 ?_
  refine x_isub F.1 (i := 10) rfl ?_
  refine x_i2l F.1 (i := 11) rfl ?_
  refine cal_e h (fun r2 M1 e3 h => ?_)
  refine x_cS3i F.1 (i := 12) rfl ml_RM_103 ok_RM_isIn (Nat.le_of_ble_eq_true rfl) (Nat.le_of_ble_eq_true rfl) (fun _ => t_RM_isIn e3) ?_
  refine gd_e h (fun g4 h => ?_)
  exact x_zretf F (i := 13) rfl rfl (b01_e g4) h (res := (r, M')) hQ
set_option maxHeartbeats 4000000 in
theorem t_RM_isWithin_l63 {w : kx_W} {d : Nat} {Q : Option Value → kx_M → Prop} {G : Nat → List (Option Value) → List Value → kx_M → Prop} (F : Sd w d m_RM_isWithin Q G) {p1 : Int32} {p2 : Int32} {k48 : Int32 → Int32 → Int32 → kx_M → Option (Int32 × kx_M)} {res : Int32 × kx_M} (hQ : Q (some (.int res.1)) res.2) (hk48 : ∀ (x3 : Int32) (x4 : Int32) (x5 : Int32) (M : kx_M), k48 x3 x4 x5 M = some res → G 48 [some (.ref 135), some (.int p1), some (.int p2), some (.int x3), some (.int x4), some (.int x5), none, none] [] M) :
    ∀ (n : Nat) (x3 : Int32) (x4 : Int32) (x5 : Int32) (x6 : Int32) (x7 : Int32) (M : kx_M),
    f_RM_isWithin_l63 p1 p2 k48 n x3 x4 x5 x6 x7 M = some res → G 63 [some (.ref 135), some (.int p1), some (.int p2), some (.int x3), some (.int x4), some (.int x5), some (.int x6), some (.int x7)] [] M := by
  intro n
  induction n with
  | zero =>
    intro x3 x4 x5 x6 x7 M h
    exact absurd h (by rw [f_RM_isWithin_l63]; exact fun z => nomatch z)
  | succ n ih =>
    intro x3 x4 x5 x6 x7 M h
    rw [f_RM_isWithin_l63] at h
    refine x_iload F.1 (i := 39) rfl rfl ?_
    refine x_iload_n F.1 (i := 40) rfl rfl ?_
    refine x_icmp_ge F.1 (i := 41) (tgt := 121) rfl (by decide) (fun c => ?_) (fun c => ?_)
    · replace h := if_T c h
      refine x_iload F.1 (i := 73) rfl rfl ?_
      refine x_if_eq F.1 (i := 74) (tgt := 128) rfl (by decide) (fun c => ?_) (fun c => ?_)
      · replace h := if_T c h
        refine x_iinc F.1 (i := 77) rfl rfl rfl (Nat.le_of_ble_eq_true rfl) rfl ?_
        replace h := bd_e h
        refine x_goto F.1 (i := 78) (tgt := 48) rfl (by decide) ?_
        exact x_wk F.1 (hk48 _ _ _ _ h) ⟨rfl, rfl, rfl, rfl, rfl, rfl, trivial⟩
      · replace h := if_F c h
        refine x_iconst F.1 (i := 75) rfl ic_1 ?_
        exact x_zretf F (i := 76) rfl rfl (Or.inr rfl) h hQ
    · replace h := if_F c h
      refine x_iload F.1 (i := 42) rfl rfl ?_
      refine x_if_eq F.1 (i := 43) (tgt := 112) rfl (by decide) (fun c => ?_) (fun c => ?_)
      · replace h := if_T c h
        refine x_iconst F.1 (i := 69) rfl ic_0 ?_
        refine x_istore F.1 (i := 70) rfl (Nat.le_of_ble_eq_true rfl) (Nat.le_of_ble_eq_true rfl) rfl ?_
        refine x_iinc F.1 (i := 71) rfl rfl rfl (Nat.le_of_ble_eq_true rfl) rfl ?_
        replace h := bd_e h
        refine x_goto F.1 (i := 72) (tgt := 63) rfl (by decide) ?_
        exact x_wk F.1 (ih _ _ _ _ _ _ h) ⟨rfl, rfl, rfl, rfl, rfl, rfl, rfl, rfl, trivial⟩
      · replace h := if_F c h
        refine x_aload_n F.1 (i := 44) rfl rfl ?_
        refine x_getC F.1 (i := 45) rfl fl_RM_35 rfl (by rfl) ?_
        refine x_bipush F.1 (i := 46) rfl bp_16 ?_
        refine x_iconst F.1 (i := 47) rfl ic_5 ?_
        refine x_iload_n F.1 (i := 48) rfl rfl ?_
        refine x_imul F.1 (i := 49) rfl ?_
        refine x_iadd F.1 (i := 50) rfl ?_
        refine x_iload F.1 (i := 51) rfl rfl ?_
        refine x_iadd F.1 (i := 52) rfl ?_
        refine gd_e h (fun g3 h => ?_)
        refine x_iald F.1 (i := 53) rfl rfl (inb_e g3) ?_
        refine x_aload_n F.1 (i := 54) rfl rfl ?_
        refine x_getC F.1 (i := 55) rfl fl_RM_35 rfl (by rfl) ?_
        refine x_bipush F.1 (i := 56) rfl bp_16 ?_
        refine x_iconst F.1 (i := 57) rfl ic_5 ?_
        refine x_iload_n F.1 (i := 58) rfl rfl ?_
        refine x_imul F.1 (i := 59) rfl ?_
        refine x_iadd F.1 (i := 60) rfl ?_
        refine x_iload F.1 (i := 61) rfl rfl ?_
        refine x_iadd F.1 (i := 62) rfl ?_
        refine x_iload F.1 (i := 63) rfl rfl ?_
        refine x_iadd F.1 (i := 64) rfl ?_
        refine gd_e h (fun g4 h => ?_)
        refine x_iald F.1 (i := 65) rfl rfl (inb_e g4) ?_
        refine x_icmp_ne F.1 (i := 66) (tgt := 112) rfl (by decide) (fun c => ?_) (fun c => ?_)
        · replace h := if_F c h
          refine x_iconst F.1 (i := 69) rfl ic_0 ?_
          refine x_istore F.1 (i := 70) rfl (Nat.le_of_ble_eq_true rfl) (Nat.le_of_ble_eq_true rfl) rfl ?_
          refine x_iinc F.1 (i := 71) rfl rfl rfl (Nat.le_of_ble_eq_true rfl) rfl ?_
          replace h := bd_e h
          refine x_goto F.1 (i := 72) (tgt := 63) rfl (by decide) ?_
          exact x_wk F.1 (ih _ _ _ _ _ _ h) ⟨rfl, rfl, rfl, rfl, rfl, rfl, rfl, rfl, trivial⟩
        · replace h := if_T c h
          refine x_iconst F.1 (i := 67) rfl ic_1 ?_
          refine x_goto F.1 (i := 68) (tgt := 113) rfl (by decide) ?_
          refine x_istore F.1 (i := 70) rfl (Nat.le_of_ble_eq_true rfl) (Nat.le_of_ble_eq_true rfl) rfl ?_
          refine x_iinc F.1 (i := 71) rfl rfl rfl (Nat.le_of_ble_eq_true rfl) rfl ?_
          replace h := bd_e h
          refine x_goto F.1 (i := 72) (tgt := 63) rfl (by decide) ?_
          exact x_wk F.1 (ih _ _ _ _ _ _ h) ⟨rfl, rfl, rfl, rfl, rfl, rfl, rfl, rfl, trivial⟩
set_option maxHeartbeats 4000000 in
theorem t_RM_isWithin_l48 {w : kx_W} {d : Nat} {Q : Option Value → kx_M → Prop} {G : Nat → List (Option Value) → List Value → kx_M → Prop} (F : Sd w d m_RM_isWithin Q G) {p1 : Int32} {p2 : Int32} {res : Int32 × kx_M} (hQ : Q (some (.int res.1)) res.2) :
    ∀ (n : Nat) (x3 : Int32) (x4 : Int32) (x5 : Int32) (M : kx_M),
    f_RM_isWithin_l48 p1 p2 n x3 x4 x5 M = some res → G 48 [some (.ref 135), some (.int p1), some (.int p2), some (.int x3), some (.int x4), some (.int x5), none, none] [] M := by
  intro n
  induction n with
  | zero =>
    intro x3 x4 x5 M h
    exact absurd h (by rw [f_RM_isWithin_l48]; exact fun z => nomatch z)
  | succ n ih =>
    intro x3 x4 x5 M h
    rw [f_RM_isWithin_l48] at h
    refine x_iload F.1 (i := 30) rfl rfl ?_
    refine x_iload_n F.1 (i := 31) rfl rfl ?_
    refine x_iadd F.1 (i := 32) rfl ?_
    refine x_iload F.1 (i := 33) rfl rfl ?_
    refine x_icmp_gt F.1 (i := 34) (tgt := 134) rfl (by decide) (fun c => ?_) (fun c => ?_)
    · replace h := if_T c h
      refine x_iconst F.1 (i := 79) rfl ic_0 ?_
      exact x_zretf F (i := 80) rfl rfl (Or.inl rfl) h hQ
    · replace h := if_F c h
      refine x_iconst F.1 (i := 35) rfl ic_1 ?_
      refine x_istore F.1 (i := 36) rfl (Nat.le_of_ble_eq_true rfl) (Nat.le_of_ble_eq_true rfl) rfl ?_
      refine x_iconst F.1 (i := 37) rfl ic_0 ?_
      refine x_istore F.1 (i := 38) rfl (Nat.le_of_ble_eq_true rfl) (Nat.le_of_ble_eq_true rfl) rfl ?_
      exact x_wk F.1 ((t_RM_isWithin_l63 F hQ ih FU) _ _ _ _ _ _ h) ⟨rfl, rfl, rfl, rfl, rfl, rfl, rfl, rfl, trivial⟩
set_option maxHeartbeats 4000000 in
theorem t_RM_isWithin {w : kx_W} {d : Nat} {M : kx_M} {Q : Option Value → kx_M → Prop} {p1 : Int32} {p2 : Int32} {r : Int32} {M' : kx_M} (h : f_RM_isWithin p1 p2 M = some (r, M')) (hQ : Q (some (.int r)) M') : Ct w d m_RM_isWithin [.ref 135, .int p1, .int p2] M Q := by
  refine mk_ct ok_RM_isWithin (Nat.le_of_ble_eq_true rfl) (fun G F => ?_)
  rw [f_RM_isWithin] at h
  show G 0 [some (.ref 135), some (.int p1), some (.int p2), none, none, none, none, none] [] M
  refine x_aload_n F.1 (i := 0) rfl rfl ?_
  refine x_getC F.1 (i := 1) rfl fl_RM_35 rfl (by rfl) ?_
  refine x_bipush F.1 (i := 2) rfl bp_10 ?_
  refine x_iload_n F.1 (i := 3) rfl rfl ?_
  refine x_iadd F.1 (i := 4) rfl ?_
  refine gd_e h (fun g1 h => ?_)
  refine x_iald F.1 (i := 5) rfl rfl (inb_e g1) ?_
  refine x_istore_n F.1 (i := 6) rfl (Nat.le_of_ble_eq_true rfl) (Nat.le_of_ble_eq_true rfl) rfl ?_
  replace h := bd_e h
  refine x_aload_n F.1 (i := 7) rfl rfl ?_
  refine x_getC F.1 (i := 8) rfl fl_RM_35 rfl (by rfl) ?_
  refine x_bipush F.1 (i := 9) rfl bp_10 ?_
  refine x_iload_n F.1 (i := 10) rfl rfl ?_
  refine x_iadd F.1 (i := 11) rfl ?_
  refine gd_e h (fun g3 h => ?_)
  refine x_iald F.1 (i := 12) rfl rfl (inb_e g3) ?_
  refine x_istore F.1 (i := 13) rfl (Nat.le_of_ble_eq_true rfl) (Nat.le_of_ble_eq_true rfl) rfl ?_
  replace h := bd_e h
  refine x_iload_n F.1 (i := 14) rfl rfl ?_
  refine x_iload_n F.1 (i := 15) rfl rfl ?_
  refine x_icmp_eq F.1 (i := 16) (tgt := 43) rfl (by decide) (fun c => ?_) (fun c => ?_)
  · replace h := if_T c h
    refine x_iconst F.1 (i := 26) rfl ic_0 ?_
    exact x_zretf F (i := 27) rfl rfl (Or.inl rfl) h (res := (r, M')) hQ
  · replace h := if_F c h
    refine x_iload_n F.1 (i := 17) rfl rfl ?_
    refine x_iload F.1 (i := 18) rfl rfl ?_
    refine x_icmp_gt F.1 (i := 19) (tgt := 43) rfl (by decide) (fun c => ?_) (fun c => ?_)
    · replace h := if_T c h
      refine x_iconst F.1 (i := 26) rfl ic_0 ?_
      exact x_zretf F (i := 27) rfl rfl (Or.inl rfl) h (res := (r, M')) hQ
    · replace h := if_F c h
      refine x_iload_n F.1 (i := 20) rfl rfl ?_
      refine x_iload F.1 (i := 21) rfl rfl ?_
      refine x_icmp_ne F.1 (i := 22) (tgt := 45) rfl (by decide) (fun c => ?_) (fun c => ?_)
      · replace h := if_F c h
        refine x_iconst F.1 (i := 28) rfl ic_0 ?_
        refine x_istore F.1 (i := 29) rfl (Nat.le_of_ble_eq_true rfl) (Nat.le_of_ble_eq_true rfl) rfl ?_
        exact x_wk F.1 ((t_RM_isWithin_l48 F (res := (r, M')) hQ FU) _ _ _ _ h) ⟨rfl, rfl, rfl, rfl, rfl, rfl, trivial⟩
      · replace h := if_T c h
        refine x_iload_n F.1 (i := 23) rfl rfl ?_
        refine x_iload_n F.1 (i := 24) rfl rfl ?_
        refine x_icmp_ge F.1 (i := 25) (tgt := 45) rfl (by decide) (fun c => ?_) (fun c => ?_)
        · replace h := if_T c h
          refine x_iconst F.1 (i := 28) rfl ic_0 ?_
          refine x_istore F.1 (i := 29) rfl (Nat.le_of_ble_eq_true rfl) (Nat.le_of_ble_eq_true rfl) rfl ?_
          exact x_wk F.1 ((t_RM_isWithin_l48 F (res := (r, M')) hQ FU) _ _ _ _ h) ⟨rfl, rfl, rfl, rfl, rfl, rfl, trivial⟩
        · replace h := if_F c h
          refine x_iconst F.1 (i := 26) rfl ic_0 ?_
          exact x_zretf F (i := 27) rfl rfl (Or.inl rfl) h (res := (r, M')) hQ
set_option maxHeartbeats 4000000 in
theorem t_RM_kernel_l17 {w : kx_W} {d : Nat} {Q : Option Value → kx_M → Prop} {G : Nat → List (Option Value) → List Value → kx_M → Prop} (F : Sd w (d + 1) m_RM_kernel Q G) {p1 : Int32} {k4 : Int32 → Int32 → kx_M → Option (Int32 × kx_M)} {res : Int32 × kx_M} (hQ : Q (some (.int res.1)) res.2) (hk4 : ∀ (x2 : Int32) (x3 : Int32) (M : kx_M), k4 x2 x3 M = some res → G 4 [some (.ref 135), some (.int p1), some (.int x2), some (.int x3), none] [] M) :
    ∀ (n : Nat) (x2 : Int32) (x3 : Int32) (x4 : Int32) (M : kx_M),
    f_RM_kernel_l17 p1 k4 n x2 x3 x4 M = some res → G 17 [some (.ref 135), some (.int p1), some (.int x2), some (.int x3), some (.int x4)] [] M := by
  intro n
  induction n with
  | zero =>
    intro x2 x3 x4 M h
    exact absurd h (by rw [f_RM_kernel_l17]; exact fun z => nomatch z)
  | succ n ih =>
    intro x2 x3 x4 M h
    rw [f_RM_kernel_l17] at h
    refine x_iload F.1 (i := 12) rfl rfl ?_
    refine x_aload_n F.1 (i := 13) rfl rfl ?_
    refine x_getC F.1 (i := 14) rfl fl_RM_35 rfl (by rfl) ?_
    refine x_iconst F.1 (i := 15) rfl ic_3 ?_
    refine gd_e h (fun g1 h => ?_)
    refine x_iald F.1 (i := 16) rfl rfl (inb_e g1) ?_
    refine x_icmp_ge F.1 (i := 17) (tgt := 69) rfl (by decide) (fun c => ?_) (fun c => ?_)
    · replace h := if_T c h
      refine x_iinc F.1 (i := 41) rfl rfl rfl (Nat.le_of_ble_eq_true rfl) rfl ?_
      replace h := bd_e h
      refine x_goto F.1 (i := 42) (tgt := 4) rfl (by decide) ?_
      exact x_wk F.1 (hk4 _ _ _ h) ⟨rfl, rfl, rfl, rfl, trivial⟩
    · replace h := if_F c h
      refine x_iload_n F.1 (i := 18) rfl rfl ?_
      refine x_iload_n F.1 (i := 19) rfl rfl ?_
      refine cal_e h (fun r3 M1 e4 h => ?_)
      refine x_cS2i F.1 (i := 20) rfl ml_RM_241 ok_RM_has (Nat.le_of_ble_eq_true rfl) (Nat.le_of_ble_eq_true rfl) (fun _ => t_RM_has e4) ?_
      refine x_if_eq F.1 (i := 21) (tgt := 63) rfl (by decide) (fun c => ?_) (fun c => ?_)
      · replace h := if_T c h
        refine x_iinc F.1 (i := 39) rfl rfl rfl (Nat.le_of_ble_eq_true rfl) rfl ?_
        replace h := bd_e h
        refine x_goto F.1 (i := 40) (tgt := 17) rfl (by decide) ?_
        exact x_wk F.1 (ih _ _ _ _ h) ⟨rfl, rfl, rfl, rfl, rfl, trivial⟩
      · replace h := if_F c h
        refine x_iload_n F.1 (i := 22) rfl rfl ?_
        refine x_iload F.1 (i := 23) rfl rfl ?_
        refine cal_e h (fun r6 M2 e7 h => ?_)
        refine x_cS2i F.1 (i := 24) rfl ml_RM_241 ok_RM_has (Nat.le_of_ble_eq_true rfl) (Nat.le_of_ble_eq_true rfl) (fun _ => t_RM_has e7) ?_
        refine x_if_eq F.1 (i := 25) (tgt := 63) rfl (by decide) (fun c => ?_) (fun c => ?_)
        · replace h := if_T c h
          refine x_iinc F.1 (i := 39) rfl rfl rfl (Nat.le_of_ble_eq_true rfl) rfl ?_
          replace h := bd_e h
          refine x_goto F.1 (i := 40) (tgt := 17) rfl (by decide) ?_
          exact x_wk F.1 (ih _ _ _ _ h) ⟨rfl, rfl, rfl, rfl, rfl, trivial⟩
        · replace h := if_F c h
          refine x_aload_n F.1 (i := 26) rfl rfl ?_
          refine x_iload_n F.1 (i := 27) rfl rfl ?_
          refine x_iload F.1 (i := 28) rfl rfl ?_
          refine cal_e h (fun r9 M3 e10 h => ?_)
          refine x_cV2i F.1 (i := 29) rfl ml_RM_429 ok_RM_isWithin rfl (Nat.le_of_ble_eq_true rfl) (Nat.le_of_ble_eq_true rfl) (fun _ => t_RM_isWithin e10) ?_
          refine x_if_eq F.1 (i := 30) (tgt := 63) rfl (by decide) (fun c => ?_) (fun c => ?_)
          · replace h := if_T c h
            refine x_iinc F.1 (i := 39) rfl rfl rfl (Nat.le_of_ble_eq_true rfl) rfl ?_
            replace h := bd_e h
            refine x_goto F.1 (i := 40) (tgt := 17) rfl (by decide) ?_
            exact x_wk F.1 (ih _ _ _ _ h) ⟨rfl, rfl, rfl, rfl, rfl, trivial⟩
          · replace h := if_F c h
            refine x_iload_n F.1 (i := 31) rfl rfl ?_
            refine x_iconst F.1 (i := 32) rfl ic_1 ?_
            refine x_iload_n F.1 (i := 33) rfl rfl ?_
            refine x_ishl F.1 (i := 34) rfl ?_
            refine x_iconst F.1 (i := 35) rfl ic_n1 ?_
            refine x_ixor F.1 (i := 36) rfl ?_
            refine x_iand F.1 (i := 37) rfl ?_
            refine x_istore_n F.1 (i := 38) rfl (Nat.le_of_ble_eq_true rfl) (Nat.le_of_ble_eq_true rfl) rfl ?_
            replace h := bd_e h
            refine x_iinc F.1 (i := 39) rfl rfl rfl (Nat.le_of_ble_eq_true rfl) rfl ?_
            replace h := bd_e h
            refine x_goto F.1 (i := 40) (tgt := 17) rfl (by decide) ?_
            exact x_wk F.1 (ih _ _ _ _ h) ⟨rfl, rfl, rfl, rfl, rfl, trivial⟩
set_option maxHeartbeats 4000000 in
theorem t_RM_kernel_l4 {w : kx_W} {d : Nat} {Q : Option Value → kx_M → Prop} {G : Nat → List (Option Value) → List Value → kx_M → Prop} (F : Sd w (d + 1) m_RM_kernel Q G) {p1 : Int32} {res : Int32 × kx_M} (hQ : Q (some (.int res.1)) res.2) :
    ∀ (n : Nat) (x2 : Int32) (x3 : Int32) (M : kx_M),
    f_RM_kernel_l4 p1 n x2 x3 M = some res → G 4 [some (.ref 135), some (.int p1), some (.int x2), some (.int x3), none] [] M := by
  intro n
  induction n with
  | zero =>
    intro x2 x3 M h
    exact absurd h (by rw [f_RM_kernel_l4]; exact fun z => nomatch z)
  | succ n ih =>
    intro x2 x3 M h
    rw [f_RM_kernel_l4] at h
    refine x_iload_n F.1 (i := 4) rfl rfl ?_
    refine x_aload_n F.1 (i := 5) rfl rfl ?_
    refine x_getC F.1 (i := 6) rfl fl_RM_35 rfl (by rfl) ?_
    refine x_iconst F.1 (i := 7) rfl ic_3 ?_
    refine gd_e h (fun g1 h => ?_)
    refine x_iald F.1 (i := 8) rfl rfl (inb_e g1) ?_
    refine x_icmp_ge F.1 (i := 9) (tgt := 75) rfl (by decide) (fun c => ?_) (fun c => ?_)
    · replace h := if_T c h
      refine x_iload_n F.1 (i := 43) rfl rfl ?_
      exact x_iretf F (i := 44) rfl rfl h hQ
    · replace h := if_F c h
      refine x_iconst F.1 (i := 10) rfl ic_0 ?_
      refine x_istore F.1 (i := 11) rfl (Nat.le_of_ble_eq_true rfl) (Nat.le_of_ble_eq_true rfl) rfl ?_
      exact x_wk F.1 ((t_RM_kernel_l17 F hQ ih FU) _ _ _ _ h) ⟨rfl, rfl, rfl, rfl, rfl, trivial⟩
set_option maxHeartbeats 4000000 in
theorem t_RM_kernel {w : kx_W} {d : Nat} {M : kx_M} {Q : Option Value → kx_M → Prop} {p1 : Int32} {r : Int32} {M' : kx_M} (h : f_RM_kernel p1 M = some (r, M')) (hQ : Q (some (.int r)) M') : Ct w (d + 1) m_RM_kernel [.ref 135, .int p1] M Q := by
  refine mk_ct ok_RM_kernel (Nat.le_of_ble_eq_true rfl) (fun G F => ?_)
  rw [f_RM_kernel] at h
  show G 0 [some (.ref 135), some (.int p1), none, none, none] [] M
  refine x_iload_n F.1 (i := 0) rfl rfl ?_
  refine x_istore_n F.1 (i := 1) rfl (Nat.le_of_ble_eq_true rfl) (Nat.le_of_ble_eq_true rfl) rfl ?_
  refine x_iconst F.1 (i := 2) rfl ic_0 ?_
  refine x_istore_n F.1 (i := 3) rfl (Nat.le_of_ble_eq_true rfl) (Nat.le_of_ble_eq_true rfl) rfl ?_
  exact x_wk F.1 ((t_RM_kernel_l4 F (res := (r, M')) hQ FU) _ _ _ h) ⟨rfl, rfl, rfl, rfl, trivial⟩
set_option maxHeartbeats 4000000 in
theorem t_RM_isBetter_l29 {w : kx_W} {d : Nat} {Q : Option Value → kx_M → Prop} {G : Nat → List (Option Value) → List Value → kx_M → Prop} (F : Sd w d m_RM_isBetter Q G) {p1 : Int32} {res : Int32 × kx_M} (hQ : Q (some (.int res.1)) res.2) :
    ∀ (n : Nat) (x2 : Int32) (M : kx_M),
    f_RM_isBetter_l29 p1 n x2 M = some res → G 29 [some (.ref 135), some (.int p1), some (.int x2)] [] M := by
  intro n
  induction n with
  | zero =>
    intro x2 M h
    exact absurd h (by rw [f_RM_isBetter_l29]; exact fun z => nomatch z)
  | succ n ih =>
    intro x2 M h
    rw [f_RM_isBetter_l29] at h
    refine x_iload_n F.1 (i := 17) rfl rfl ?_
    refine x_iload_n F.1 (i := 18) rfl rfl ?_
    refine x_icmp_ge F.1 (i := 19) (tgt := 76) rfl (by decide) (fun c => ?_) (fun c => ?_)
    · replace h := if_T c h
      refine x_iconst F.1 (i := 44) rfl ic_0 ?_
      exact x_zretf F (i := 45) rfl rfl (Or.inl rfl) h hQ
    · replace h := if_F c h
      refine x_aload_n F.1 (i := 20) rfl rfl ?_
      refine x_getC F.1 (i := 21) rfl fl_RM_50 rfl (by rfl) ?_
      refine x_iload_n F.1 (i := 22) rfl rfl ?_
      refine gd_e h (fun g1 h => ?_)
      refine x_iald F.1 (i := 23) rfl rfl (inb_e g1) ?_
      refine x_aload_n F.1 (i := 24) rfl rfl ?_
      refine x_getC F.1 (i := 25) rfl fl_RM_53 rfl (by rfl) ?_
      refine x_iload_n F.1 (i := 26) rfl rfl ?_
      refine gd_e h (fun g2 h => ?_)
      refine x_iald F.1 (i := 27) rfl rfl (inb_e g2) ?_
      refine x_icmp_eq F.1 (i := 28) (tgt := 70) rfl (by decide) (fun c => ?_) (fun c => ?_)
      · replace h := if_T c h
        refine x_iinc F.1 (i := 42) rfl rfl rfl (Nat.le_of_ble_eq_true rfl) rfl ?_
        replace h := bd_e h
        refine x_goto F.1 (i := 43) (tgt := 29) rfl (by decide) ?_
        exact x_wk F.1 (ih _ _ h) ⟨rfl, rfl, rfl, trivial⟩
      · replace h := if_F c h
        refine x_aload_n F.1 (i := 29) rfl rfl ?_
        refine x_getC F.1 (i := 30) rfl fl_RM_50 rfl (by rfl) ?_
        refine x_iload_n F.1 (i := 31) rfl rfl ?_
        refine gd_e h (fun g4 h => ?_)
        refine x_iald F.1 (i := 32) rfl rfl (inb_e g4) ?_
        refine x_aload_n F.1 (i := 33) rfl rfl ?_
        refine x_getC F.1 (i := 34) rfl fl_RM_53 rfl (by rfl) ?_
        refine x_iload_n F.1 (i := 35) rfl rfl ?_
        refine gd_e h (fun g5 h => ?_)
        refine x_iald F.1 (i := 36) rfl rfl (inb_e g5) ?_
        refine x_icmp_ge F.1 (i := 37) (tgt := 68) rfl (by decide) (fun c => ?_) (fun c => ?_)
        · replace h := if_T c h
          refine x_iconst F.1 (i := 40) rfl ic_0 ?_
          exact x_zretf F (i := 41) rfl rfl (Or.inl rfl) h hQ
        · replace h := if_F c h
          refine x_iconst F.1 (i := 38) rfl ic_1 ?_
          refine x_goto F.1 (i := 39) (tgt := 69) rfl (by decide) ?_
          exact x_zretf F (i := 41) rfl rfl (Or.inr rfl) h hQ
set_option maxHeartbeats 4000000 in
theorem t_RM_isBetter {w : kx_W} {d : Nat} {M : kx_M} {Q : Option Value → kx_M → Prop} {p1 : Int32} {r : Int32} {M' : kx_M} (h : f_RM_isBetter p1 M = some (r, M')) (hQ : Q (some (.int r)) M') : Ct w d m_RM_isBetter [.ref 135, .int p1] M Q := by
  refine mk_ct ok_RM_isBetter (Nat.le_of_ble_eq_true rfl) (fun G F => ?_)
  rw [f_RM_isBetter] at h
  show G 0 [some (.ref 135), some (.int p1), none] [] M
  refine x_aload_n F.1 (i := 0) rfl rfl ?_
  refine x_getI F.1 (i := 1) rfl fl_RM_432 rfl (by rfl) ?_
  refine x_if_lt F.1 (i := 2) (tgt := 15) rfl (by decide) (fun c => ?_) (fun c => ?_)
  · replace h := if_T c h
    refine x_iconst F.1 (i := 7) rfl ic_1 ?_
    exact x_zretf F (i := 8) rfl rfl (Or.inr rfl) h (res := (r, M')) hQ
  · replace h := if_F c h
    refine x_iload_n F.1 (i := 3) rfl rfl ?_
    refine x_aload_n F.1 (i := 4) rfl rfl ?_
    refine x_getI F.1 (i := 5) rfl fl_RM_432 rfl (by rfl) ?_
    refine x_icmp_ge F.1 (i := 6) (tgt := 17) rfl (by decide) (fun c => ?_) (fun c => ?_)
    · replace h := if_T c h
      refine x_iload_n F.1 (i := 9) rfl rfl ?_
      refine x_aload_n F.1 (i := 10) rfl rfl ?_
      refine x_getI F.1 (i := 11) rfl fl_RM_432 rfl (by rfl) ?_
      refine x_icmp_le F.1 (i := 12) (tgt := 27) rfl (by decide) (fun c => ?_) (fun c => ?_)
      · replace h := if_T c h
        refine x_iconst F.1 (i := 15) rfl ic_0 ?_
        refine x_istore_n F.1 (i := 16) rfl (Nat.le_of_ble_eq_true rfl) (Nat.le_of_ble_eq_true rfl) rfl ?_
        exact x_wk F.1 ((t_RM_isBetter_l29 F (res := (r, M')) hQ FU) _ _ h) ⟨rfl, rfl, rfl, trivial⟩
      · replace h := if_F c h
        refine x_iconst F.1 (i := 13) rfl ic_0 ?_
        exact x_zretf F (i := 14) rfl rfl (Or.inl rfl) h (res := (r, M')) hQ
    · replace h := if_F c h
      refine x_iconst F.1 (i := 7) rfl ic_1 ?_
      exact x_zretf F (i := 8) rfl rfl (Or.inr rfl) h (res := (r, M')) hQ
set_option maxHeartbeats 4000000 in
theorem t_RM_laps_l26 {w : kx_W} {d : Nat} {Q : Option Value → kx_M → Prop} {G : Nat → List (Option Value) → List Value → kx_M → Prop} (F : Sd w (d + 1) m_RM_laps Q G) {p1 : Int32} {p2 : Int32} {k16 : Int32 → kx_M → Option (Int32 × kx_M)} {res : Int32 × kx_M} (hQ : Q (some (.int res.1)) res.2) (hk16 : ∀ (x3 : Int32) (M : kx_M), k16 x3 M = some res → G 16 [some (.ref 135), some (.int p1), some (.int p2), some (.int x3), none, none] [] M) :
    ∀ (n : Nat) (x3 : Int32) (x4 : Int32) (x5 : Int32) (M : kx_M),
    f_RM_laps_l26 p1 p2 k16 n x3 x4 x5 M = some res → G 26 [some (.ref 135), some (.int p1), some (.int p2), some (.int x3), some (.int x4), some (.int x5)] [] M := by
  intro n
  induction n with
  | zero =>
    intro x3 x4 x5 M h
    exact absurd h (by rw [f_RM_laps_l26]; exact fun z => nomatch z)
  | succ n ih =>
    intro x3 x4 x5 M h
    rw [f_RM_laps_l26] at h
    refine x_iload F.1 (i := 17) rfl rfl ?_
    refine x_iload_n F.1 (i := 18) rfl rfl ?_
    refine x_icmp_ge F.1 (i := 19) (tgt := 78) rfl (by decide) (fun c => ?_) (fun c => ?_)
    · replace h := if_T c h
      refine x_iload F.1 (i := 47) rfl rfl ?_
      refine x_if_eq F.1 (i := 48) (tgt := 85) rfl (by decide) (fun c => ?_) (fun c => ?_)
      · replace h := if_T c h
        refine x_iinc F.1 (i := 51) rfl rfl rfl (Nat.le_of_ble_eq_true rfl) rfl ?_
        replace h := bd_e h
        refine x_goto F.1 (i := 52) (tgt := 16) rfl (by decide) ?_
        exact x_wk F.1 (hk16 _ _ h) ⟨rfl, rfl, rfl, rfl, trivial⟩
      · replace h := if_F c h
        refine x_iload_n F.1 (i := 49) rfl rfl ?_
        exact x_iretf F (i := 50) rfl rfl h hQ
    · replace h := if_F c h
      refine x_iload F.1 (i := 20) rfl rfl ?_
      refine x_if_eq F.1 (i := 21) (tgt := 69) rfl (by decide) (fun c => ?_) (fun c => ?_)
      · replace h := if_T c h
        refine x_iconst F.1 (i := 43) rfl ic_0 ?_
        refine x_istore F.1 (i := 44) rfl (Nat.le_of_ble_eq_true rfl) (Nat.le_of_ble_eq_true rfl) rfl ?_
        refine x_iinc F.1 (i := 45) rfl rfl rfl (Nat.le_of_ble_eq_true rfl) rfl ?_
        replace h := bd_e h
        refine x_goto F.1 (i := 46) (tgt := 26) rfl (by decide) ?_
        exact x_wk F.1 (ih _ _ _ _ h) ⟨rfl, rfl, rfl, rfl, rfl, rfl, trivial⟩
      · replace h := if_F c h
        refine x_aload_n F.1 (i := 22) rfl rfl ?_
        refine x_getC F.1 (i := 23) rfl fl_RM_50 rfl (by rfl) ?_
        refine x_iload_n F.1 (i := 24) rfl rfl ?_
        refine x_iload_n F.1 (i := 25) rfl rfl ?_
        refine x_isub F.1 (i := 26) rfl ?_
        refine x_iload F.1 (i := 27) rfl rfl ?_
        refine x_iadd F.1 (i := 28) rfl ?_
        refine gd_e h (fun g3 h => ?_)
        refine x_iald F.1 (i := 29) rfl rfl (inb_e g3) ?_
        refine x_aload_n F.1 (i := 30) rfl rfl ?_
        refine x_getC F.1 (i := 31) rfl fl_RM_35 rfl (by rfl) ?_
        refine x_bipush F.1 (i := 32) rfl bp_16 ?_
        refine x_iconst F.1 (i := 33) rfl ic_5 ?_
        refine x_iload_n F.1 (i := 34) rfl rfl ?_
        refine x_imul F.1 (i := 35) rfl ?_
        refine x_iadd F.1 (i := 36) rfl ?_
        refine x_iload F.1 (i := 37) rfl rfl ?_
        refine x_iadd F.1 (i := 38) rfl ?_
        refine gd_e h (fun g4 h => ?_)
        refine x_iald F.1 (i := 39) rfl rfl (inb_e g4) ?_
        refine x_icmp_ne F.1 (i := 40) (tgt := 69) rfl (by decide) (fun c => ?_) (fun c => ?_)
        · replace h := if_F c h
          refine x_iconst F.1 (i := 43) rfl ic_0 ?_
          refine x_istore F.1 (i := 44) rfl (Nat.le_of_ble_eq_true rfl) (Nat.le_of_ble_eq_true rfl) rfl ?_
          refine x_iinc F.1 (i := 45) rfl rfl rfl (Nat.le_of_ble_eq_true rfl) rfl ?_
          replace h := bd_e h
          refine x_goto F.1 (i := 46) (tgt := 26) rfl (by decide) ?_
          exact x_wk F.1 (ih _ _ _ _ h) ⟨rfl, rfl, rfl, rfl, rfl, rfl, trivial⟩
        · replace h := if_T c h
          refine x_iconst F.1 (i := 41) rfl ic_1 ?_
          refine x_goto F.1 (i := 42) (tgt := 70) rfl (by decide) ?_
          refine x_istore F.1 (i := 44) rfl (Nat.le_of_ble_eq_true rfl) (Nat.le_of_ble_eq_true rfl) rfl ?_
          refine x_iinc F.1 (i := 45) rfl rfl rfl (Nat.le_of_ble_eq_true rfl) rfl ?_
          replace h := bd_e h
          refine x_goto F.1 (i := 46) (tgt := 26) rfl (by decide) ?_
          exact x_wk F.1 (ih _ _ _ _ h) ⟨rfl, rfl, rfl, rfl, rfl, rfl, trivial⟩
set_option maxHeartbeats 4000000 in
theorem t_RM_laps_l16 {w : kx_W} {d : Nat} {Q : Option Value → kx_M → Prop} {G : Nat → List (Option Value) → List Value → kx_M → Prop} (F : Sd w (d + 1) m_RM_laps Q G) {p1 : Int32} {p2 : Int32} {res : Int32 × kx_M} (hQ : Q (some (.int res.1)) res.2) :
    ∀ (n : Nat) (x3 : Int32) (M : kx_M),
    f_RM_laps_l16 p1 p2 n x3 M = some res → G 16 [some (.ref 135), some (.int p1), some (.int p2), some (.int x3), none, none] [] M := by
  intro n
  induction n with
  | zero =>
    intro x3 M h
    exact absurd h (by rw [f_RM_laps_l16]; exact fun z => nomatch z)
  | succ n ih =>
    intro x3 M h
    rw [f_RM_laps_l16] at h
    refine x_iload_n F.1 (i := 11) rfl rfl ?_
    refine x_if_le F.1 (i := 12) (tgt := 91) rfl (by decide) (fun c => ?_) (fun c => ?_)
    · replace h := if_T c h
      refine x_iconst F.1 (i := 53) rfl ic_0 ?_
      exact x_iretf F (i := 54) rfl rfl h hQ
    · replace h := if_F c h
      refine x_iconst F.1 (i := 13) rfl ic_1 ?_
      refine x_istore F.1 (i := 14) rfl (Nat.le_of_ble_eq_true rfl) (Nat.le_of_ble_eq_true rfl) rfl ?_
      refine x_iconst F.1 (i := 15) rfl ic_0 ?_
      refine x_istore F.1 (i := 16) rfl (Nat.le_of_ble_eq_true rfl) (Nat.le_of_ble_eq_true rfl) rfl ?_
      exact x_wk F.1 ((t_RM_laps_l26 F hQ ih FU) _ _ _ _ h) ⟨rfl, rfl, rfl, rfl, rfl, rfl, trivial⟩
set_option maxHeartbeats 4000000 in
theorem t_RM_laps {w : kx_W} {d : Nat} {M : kx_M} {Q : Option Value → kx_M → Prop} {p1 : Int32} {p2 : Int32} {r : Int32} {M' : kx_M} (h : f_RM_laps p1 p2 M = some (r, M')) (hQ : Q (some (.int r)) M') : Ct w (d + 1) m_RM_laps [.ref 135, .int p1, .int p2] M Q := by
  refine mk_ct ok_RM_laps (Nat.le_of_ble_eq_true rfl) (fun G F => ?_)
  rw [f_RM_laps] at h
  show G 0 [some (.ref 135), some (.int p1), some (.int p2), none, none, none] [] M
  refine x_iload_n F.1 (i := 0) rfl rfl ?_
  refine x_aload_n F.1 (i := 1) rfl rfl ?_
  refine x_getC F.1 (i := 2) rfl fl_RM_35 rfl (by rfl) ?_
  refine x_bipush F.1 (i := 3) rfl bp_10 ?_
  refine x_iload_n F.1 (i := 4) rfl rfl ?_
  refine x_iadd F.1 (i := 5) rfl ?_
  refine gd_e h (fun g1 h => ?_)
  refine x_iald F.1 (i := 6) rfl rfl (inb_e g1) ?_
  refine x_iconst F.1 (i := 7) rfl ic_1 ?_
  refine x_isub F.1 (i := 8) rfl ?_
  refine x_mmin F.1 (i := 9) rfl jm_RM_357 (Nat.le_of_ble_eq_true rfl) ?_
  refine x_istore_n F.1 (i := 10) rfl (Nat.le_of_ble_eq_true rfl) (Nat.le_of_ble_eq_true rfl) rfl ?_
  replace h := bd_e h
  exact x_wk F.1 ((t_RM_laps_l16 F (res := (r, M')) hQ FU) _ _ h) ⟨rfl, rfl, rfl, rfl, trivial⟩
set_option maxHeartbeats 4000000 in
theorem t_RM_lays_l79 {w : kx_W} {d : Nat} {Q : Option Value → kx_M → Prop} {G : Nat → List (Option Value) → List Value → kx_M → Prop} (F : Sd w (d + 2) m_RM_lays Q G) {p1 : Int32} {p2 : Int32} {c_lays : Int32 → Int32 → kx_M → Option (Unit × kx_M)} (hc_lays : ∀ (k : Nat) (a1 : Int32) (a2 : Int32) (M : kx_M) (r : Unit) (M' : kx_M) (Q : Option Value → kx_M → Prop), c_lays a1 a2 M = some (r, M') → Q none M' → Ct w (d + k) m_RM_lays [.ref 135, .int a1, .int a2] M Q) {k46 : Int32 → kx_M → Option (Unit × kx_M)} {res : Unit × kx_M} (hQ : Q none res.2) (hk46 : ∀ (x3 : Int32) (M : kx_M), k46 x3 M = some res → G 46 [some (.ref 135), some (.int p1), some (.int p2), some (.int x3), none, none] [] M) :
    ∀ (n : Nat) (x3 : Int32) (x4 : Int32) (x5 : Int32) (M : kx_M),
    f_RM_lays_l79 c_lays p1 p2 k46 n x3 x4 x5 M = some res → G 79 [some (.ref 135), some (.int p1), some (.int p2), some (.int x3), some (.int x4), some (.int x5)] [] M := by
  intro n
  induction n with
  | zero =>
    intro x3 x4 x5 M h
    exact absurd h (by rw [f_RM_lays_l79]; exact fun z => nomatch z)
  | succ n ih =>
    intro x3 x4 x5 M h
    rw [f_RM_lays_l79] at h
    refine x_iload F.1 (i := 46) rfl rfl ?_
    refine x_aload_n F.1 (i := 47) rfl rfl ?_
    refine x_getC F.1 (i := 48) rfl fl_RM_35 rfl (by rfl) ?_
    refine x_bipush F.1 (i := 49) rfl bp_10 ?_
    refine x_iload_n F.1 (i := 50) rfl rfl ?_
    refine x_iadd F.1 (i := 51) rfl ?_
    refine gd_e h (fun g1 h => ?_)
    refine x_iald F.1 (i := 52) rfl rfl (inb_e g1) ?_
    refine x_icmp_ge F.1 (i := 53) (tgt := 125) rfl (by decide) (fun c => ?_) (fun c => ?_)
    · replace h := if_T c h
      refine x_aload_n F.1 (i := 74) rfl rfl ?_
      refine x_iload_n F.1 (i := 75) rfl rfl ?_
      refine x_iconst F.1 (i := 76) rfl ic_1 ?_
      refine x_iload_n F.1 (i := 77) rfl rfl ?_
      refine x_ishl F.1 (i := 78) rfl ?_
      refine x_iconst F.1 (i := 79) rfl ic_n1 ?_
      refine x_ixor F.1 (i := 80) rfl ?_
      refine x_iand F.1 (i := 81) rfl ?_
      refine x_iload_n F.1 (i := 82) rfl rfl ?_
      refine x_aload_n F.1 (i := 83) rfl rfl ?_
      refine x_getC F.1 (i := 84) rfl fl_RM_35 rfl (by rfl) ?_
      refine x_bipush F.1 (i := 85) rfl bp_10 ?_
      refine x_iload_n F.1 (i := 86) rfl rfl ?_
      refine x_iadd F.1 (i := 87) rfl ?_
      refine gd_e h (fun g2 h => ?_)
      refine x_iald F.1 (i := 88) rfl rfl (inb_e g2) ?_
      refine x_iadd F.1 (i := 89) rfl ?_
      refine x_iload F.1 (i := 90) rfl rfl ?_
      refine x_isub F.1 (i := 91) rfl ?_
      refine cal_e h (fun r3 M1 e4 h => ?_)
      refine x_cV2v F.1 (i := 92) rfl ml_RM_441 ok_RM_lays rfl (Nat.le_of_ble_eq_true rfl) (Nat.le_of_ble_eq_true rfl) (fun Q9 => hc_lays _ _ _ _ _ _ Q9 e4) ?_
      refine x_iinc F.1 (i := 93) rfl rfl rfl (Nat.le_of_ble_eq_true rfl) rfl ?_
      replace h := bd_e h
      refine x_goto F.1 (i := 94) (tgt := 46) rfl (by decide) ?_
      exact x_wk F.1 (hk46 _ _ h) ⟨rfl, rfl, rfl, rfl, trivial⟩
    · replace h := if_F c h
      refine x_aload_n F.1 (i := 54) rfl rfl ?_
      refine x_getC F.1 (i := 55) rfl fl_RM_50 rfl (by rfl) ?_
      refine x_iload_n F.1 (i := 56) rfl rfl ?_
      refine x_iload F.1 (i := 57) rfl rfl ?_
      refine x_iadd F.1 (i := 58) rfl ?_
      refine x_iload F.1 (i := 59) rfl rfl ?_
      refine x_isub F.1 (i := 60) rfl ?_
      refine x_aload_n F.1 (i := 61) rfl rfl ?_
      refine x_getC F.1 (i := 62) rfl fl_RM_35 rfl (by rfl) ?_
      refine x_bipush F.1 (i := 63) rfl bp_16 ?_
      refine x_iconst F.1 (i := 64) rfl ic_5 ?_
      refine x_iload_n F.1 (i := 65) rfl rfl ?_
      refine x_imul F.1 (i := 66) rfl ?_
      refine x_iadd F.1 (i := 67) rfl ?_
      refine x_iload F.1 (i := 68) rfl rfl ?_
      refine x_iadd F.1 (i := 69) rfl ?_
      refine gd_e h (fun g6 h => ?_)
      refine x_iald F.1 (i := 70) rfl rfl (inb_e g6) ?_
      refine gd_e h (fun g7 h => ?_)
      refine x_iast F.1 (i := 71) rfl rfl (inb_e g7) ?_
      replace h := bd_e h
      refine x_iinc F.1 (i := 72) rfl rfl rfl (Nat.le_of_ble_eq_true rfl) rfl ?_
      replace h := bd_e h
      refine x_goto F.1 (i := 73) (tgt := 79) rfl (by decide) ?_
      exact x_wk F.1 (ih _ _ _ _ h) ⟨rfl, rfl, rfl, rfl, rfl, rfl, trivial⟩
set_option maxHeartbeats 4000000 in
theorem t_RM_lays_l46 {w : kx_W} {d : Nat} {Q : Option Value → kx_M → Prop} {G : Nat → List (Option Value) → List Value → kx_M → Prop} (F : Sd w (d + 2) m_RM_lays Q G) {p1 : Int32} {p2 : Int32} {c_lays : Int32 → Int32 → kx_M → Option (Unit × kx_M)} (hc_lays : ∀ (k : Nat) (a1 : Int32) (a2 : Int32) (M : kx_M) (r : Unit) (M' : kx_M) (Q : Option Value → kx_M → Prop), c_lays a1 a2 M = some (r, M') → Q none M' → Ct w (d + k) m_RM_lays [.ref 135, .int a1, .int a2] M Q) {res : Unit × kx_M} (hQ : Q none res.2) :
    ∀ (n : Nat) (x3 : Int32) (M : kx_M),
    f_RM_lays_l46 c_lays p1 p2 n x3 M = some res → G 46 [some (.ref 135), some (.int p1), some (.int p2), some (.int x3), none, none] [] M := by
  intro n
  induction n with
  | zero =>
    intro x3 M h
    exact absurd h (by rw [f_RM_lays_l46]; exact fun z => nomatch z)
  | succ n ih =>
    intro x3 M h
    rw [f_RM_lays_l46] at h
    refine x_iload_n F.1 (i := 28) rfl rfl ?_
    refine x_aload_n F.1 (i := 29) rfl rfl ?_
    refine x_getC F.1 (i := 30) rfl fl_RM_35 rfl (by rfl) ?_
    refine x_iconst F.1 (i := 31) rfl ic_3 ?_
    refine gd_e h (fun g1 h => ?_)
    refine x_iald F.1 (i := 32) rfl rfl (inb_e g1) ?_
    refine x_icmp_ge F.1 (i := 33) (tgt := 156) rfl (by decide) (fun c => ?_) (fun c => ?_)
    · replace h := if_T c h
      exact x_vretf F (i := 95) rfl rfl h hQ
    · replace h := if_F c h
      refine x_iload_n F.1 (i := 34) rfl rfl ?_
      refine x_iload_n F.1 (i := 35) rfl rfl ?_
      refine cal_e h (fun r2 M1 e3 h => ?_)
      refine x_cS2i F.1 (i := 36) rfl ml_RM_241 ok_RM_has (Nat.le_of_ble_eq_true rfl) (Nat.le_of_ble_eq_true rfl) (fun _ => t_RM_has e3) ?_
      refine x_if_ne F.1 (i := 37) (tgt := 67) rfl (by decide) (fun c => ?_) (fun c => ?_)
      · replace h := if_F c h
        refine x_aload_n F.1 (i := 39) rfl rfl ?_
        refine x_iload_n F.1 (i := 40) rfl rfl ?_
        refine x_iload_n F.1 (i := 41) rfl rfl ?_
        refine cal_e h (fun r5 M2 e6 h => ?_)
        refine x_cV2i F.1 (i := 42) rfl ml_RM_438 ok_RM_laps rfl (Nat.le_of_ble_eq_true rfl) (Nat.le_of_ble_eq_true rfl) (fun _ => t_RM_laps e6) ?_
        refine x_istore F.1 (i := 43) rfl (Nat.le_of_ble_eq_true rfl) (Nat.le_of_ble_eq_true rfl) rfl ?_
        refine x_iload F.1 (i := 44) rfl rfl ?_
        refine x_istore F.1 (i := 45) rfl (Nat.le_of_ble_eq_true rfl) (Nat.le_of_ble_eq_true rfl) rfl ?_
        exact x_wk F.1 ((t_RM_lays_l79 F hc_lays hQ ih FU) _ _ _ _ h) ⟨rfl, rfl, rfl, rfl, rfl, rfl, trivial⟩
      · replace h := if_T c h
        refine x_goto F.1 (i := 38) (tgt := 150) rfl (by decide) ?_
        refine x_iinc F.1 (i := 93) rfl rfl rfl (Nat.le_of_ble_eq_true rfl) rfl ?_
        replace h := bd_e h
        refine x_goto F.1 (i := 94) (tgt := 46) rfl (by decide) ?_
        exact x_wk F.1 (ih _ _ h) ⟨rfl, rfl, rfl, rfl, trivial⟩
set_option maxHeartbeats 4000000 in
theorem t_RM_lays_l20 {w : kx_W} {d : Nat} {Q : Option Value → kx_M → Prop} {G : Nat → List (Option Value) → List Value → kx_M → Prop} (F : Sd w (d + 2) m_RM_lays Q G) {p1 : Int32} {p2 : Int32} {c_lays : Int32 → Int32 → kx_M → Option (Unit × kx_M)} (hc_lays : ∀ (k : Nat) (a1 : Int32) (a2 : Int32) (M : kx_M) (r : Unit) (M' : kx_M) (Q : Option Value → kx_M → Prop), c_lays a1 a2 M = some (r, M') → Q none M' → Ct w (d + k) m_RM_lays [.ref 135, .int a1, .int a2] M Q) {res : Unit × kx_M} (hQ : Q none res.2) :
    ∀ (n : Nat) (x3 : Int32) (M : kx_M),
    f_RM_lays_l20 c_lays p1 p2 n x3 M = some res → G 20 [some (.ref 135), none, some (.int p2), some (.int x3), none, none] [] M := by
  intro n
  induction n with
  | zero =>
    intro x3 M h
    exact absurd h (by rw [f_RM_lays_l20]; exact fun z => nomatch z)
  | succ n ih =>
    intro x3 M h
    rw [f_RM_lays_l20] at h
    refine x_iload_n F.1 (i := 12) rfl rfl ?_
    refine x_iload_n F.1 (i := 13) rfl rfl ?_
    refine x_icmp_ge F.1 (i := 14) (tgt := 43) rfl (by decide) (fun c => ?_) (fun c => ?_)
    · replace h := if_T c h
      exact x_vretf F (i := 25) rfl rfl h hQ
    · replace h := if_F c h
      refine x_aload_n F.1 (i := 15) rfl rfl ?_
      refine x_getC F.1 (i := 16) rfl fl_RM_53 rfl (by rfl) ?_
      refine x_iload_n F.1 (i := 17) rfl rfl ?_
      refine x_aload_n F.1 (i := 18) rfl rfl ?_
      refine x_getC F.1 (i := 19) rfl fl_RM_50 rfl (by rfl) ?_
      refine x_iload_n F.1 (i := 20) rfl rfl ?_
      refine gd_e h (fun g1 h => ?_)
      refine x_iald F.1 (i := 21) rfl rfl (inb_e g1) ?_
      refine gd_e h (fun g2 h => ?_)
      refine x_iast F.1 (i := 22) rfl rfl (inb_e g2) ?_
      replace h := bd_e h
      refine x_iinc F.1 (i := 23) rfl rfl rfl (Nat.le_of_ble_eq_true rfl) rfl ?_
      replace h := bd_e h
      refine x_goto F.1 (i := 24) (tgt := 20) rfl (by decide) ?_
      exact x_wk F.1 (ih _ _ h) ⟨rfl, rfl, rfl, trivial⟩
set_option maxHeartbeats 4000000 in
theorem t_RM_lays {w : kx_W} {d : Nat} {M : kx_M} {Q : Option Value → kx_M → Prop} {p1 : Int32} {p2 : Int32} {r : Unit} {M' : kx_M} {c_lays : Int32 → Int32 → kx_M → Option (Unit × kx_M)} (hc_lays : ∀ (k : Nat) (a1 : Int32) (a2 : Int32) (M : kx_M) (r : Unit) (M' : kx_M) (Q : Option Value → kx_M → Prop), c_lays a1 a2 M = some (r, M') → Q none M' → Ct w (d + k) m_RM_lays [.ref 135, .int a1, .int a2] M Q) (h : f_RM_lays c_lays p1 p2 M = some (r, M')) (hQ : Q none M') : Ct w (d + 2) m_RM_lays [.ref 135, .int p1, .int p2] M Q := by
  refine mk_ct ok_RM_lays (Nat.le_of_ble_eq_true rfl) (fun G F => ?_)
  rw [f_RM_lays] at h
  show G 0 [some (.ref 135), some (.int p1), some (.int p2), none, none, none] [] M
  refine x_iload_n F.1 (i := 0) rfl rfl ?_
  refine x_if_ne F.1 (i := 1) (tgt := 44) rfl (by decide) (fun c => ?_) (fun c => ?_)
  · replace h := if_F c h
    refine x_iconst F.1 (i := 26) rfl ic_0 ?_
    refine x_istore_n F.1 (i := 27) rfl (Nat.le_of_ble_eq_true rfl) (Nat.le_of_ble_eq_true rfl) rfl ?_
    exact x_wk F.1 ((t_RM_lays_l46 F hc_lays (res := (r, M')) hQ FU) _ _ h) ⟨rfl, rfl, rfl, rfl, trivial⟩
  · replace h := if_T c h
    refine x_aload_n F.1 (i := 2) rfl rfl ?_
    refine x_iload_n F.1 (i := 3) rfl rfl ?_
    refine cal_e h (fun r1 M1 e2 h => ?_)
    refine x_cV1i F.1 (i := 4) rfl ml_RM_435 ok_RM_isBetter rfl (Nat.le_of_ble_eq_true rfl) (Nat.le_of_ble_eq_true rfl) (fun _ => t_RM_isBetter e2) ?_
    refine x_if_ne F.1 (i := 5) (tgt := 13) rfl (by decide) (fun c => ?_) (fun c => ?_)
    · replace h := if_F c h
      refine x_aload_n F.1 (i := 7) rfl rfl ?_
      refine x_iload_n F.1 (i := 8) rfl rfl ?_
      refine x_putI F.1 (i := 9) rfl fl_RM_432 pf_RM_bestLong rfl (by rfl) ?_
      replace h := bd_e h
      refine x_iconst F.1 (i := 10) rfl ic_0 ?_
      refine x_istore_n F.1 (i := 11) rfl (Nat.le_of_ble_eq_true rfl) (Nat.le_of_ble_eq_true rfl) rfl ?_
      exact x_wk F.1 ((t_RM_lays_l20 F hc_lays (res := (r, M')) hQ FU) _ _ h) ⟨rfl, rfl, rfl, trivial⟩
    · replace h := if_T c h
      exact x_vretf F (i := 6) rfl rfl h (res := (r, M')) hQ
theorem tn_RM_lays {w : kx_W} : ∀ (n d : Nat) (a1 : Int32) (a2 : Int32) (M : kx_M) (r : Unit) (M' : kx_M) (Q : Option Value → kx_M → Prop), g_RM_lays n a1 a2 M = some (r, M') → Q none M' → Ct w (d + 2 * n + 2) m_RM_lays [.ref 135, .int a1, .int a2] M Q := by
  intro n
  induction n with
  | zero => intro d a1 a2 M r M' Q h; exact nomatch h
  | succ n ih =>
    intro d a1 a2 M r M' Q h hQ
    have := t_RM_lays (w := w) (d := d + 2 * n + 2) (M := M) (Q := Q) (c_lays := g_RM_lays n) (fun k a1 a2 M r M' Q h hQ => by
      have := ih (d + k) a1 a2 M r M' Q h hQ
      rwa [show d + k + 2 * n + 2 = d + 2 * n + 2 + k by omega] at this) h hQ
    rwa [show d + 2 * n + 2 + 2 = d + 2 * (n + 1) + 2 by omega] at this
theorem tg_RM_lays {w : kx_W} {d : Nat} (a1 : Int32) (a2 : Int32) {M : kx_M} {r : Unit} {M' : kx_M} {Q : Option Value → kx_M → Prop} (h : g_RM_lays 8 a1 a2 M = some (r, M')) (hQ : Q none M') : Ct w (d + 18) m_RM_lays [.ref 135, .int a1, .int a2] M Q := tn_RM_lays 8 d a1 a2 M r M' Q h hQ
set_option maxHeartbeats 4000000 in
theorem t_RM_shortest {w : kx_W} {d : Nat} {M : kx_M} {Q : Option Value → kx_M → Prop} {p1 : Int32} {r : Int32} {M' : kx_M} (h : f_RM_shortest p1 M = some (r, M')) (hQ : Q (some (.int r)) M') : Ct w (d + 19) m_RM_shortest [.ref 135, .int p1] M Q := by
  refine mk_ct ok_RM_shortest (Nat.le_of_ble_eq_true rfl) (fun G F => ?_)
  rw [f_RM_shortest] at h
  show G 0 [some (.ref 135), some (.int p1)] [] M
  refine x_aload_n F.1 (i := 0) rfl rfl ?_
  refine x_iconst F.1 (i := 1) rfl ic_0 ?_
  refine x_putI F.1 (i := 2) rfl fl_RM_68 pf_RM_thrown rfl (by rfl) ?_
  replace h := bd_e h
  refine x_aload_n F.1 (i := 3) rfl rfl ?_
  refine x_iconst F.1 (i := 4) rfl ic_0 ?_
  refine x_putI F.1 (i := 5) rfl fl_RM_71 pf_RM_status rfl (by rfl) ?_
  replace h := bd_e h
  refine x_aload_n F.1 (i := 6) rfl rfl ?_
  refine x_iload_n F.1 (i := 7) rfl rfl ?_
  refine cal_e h (fun r1 M3 e2 h => ?_)
  refine x_cV1i F.1 (i := 8) rfl ml_RM_444 ok_RM_areClauses rfl (Nat.le_of_ble_eq_true rfl) (Nat.le_of_ble_eq_true rfl) (fun _ => t_RM_areClauses e2) ?_
  refine x_if_ne F.1 (i := 9) (tgt := 24) rfl (by decide) (fun c => ?_) (fun c => ?_)
  · replace h := if_F c h
    refine x_aload_n F.1 (i := 14) rfl rfl ?_
    refine x_iconst F.1 (i := 15) rfl ic_n1 ?_
    refine x_putI F.1 (i := 16) rfl fl_RM_432 pf_RM_bestLong rfl (by rfl) ?_
    replace h := bd_e h
    refine x_aload_n F.1 (i := 17) rfl rfl ?_
    refine x_aload_n F.1 (i := 18) rfl rfl ?_
    refine x_iload_n F.1 (i := 19) rfl rfl ?_
    refine cal_e h (fun r5 M6 e6 h => ?_)
    refine x_cV1i F.1 (i := 20) rfl ml_RM_447 ok_RM_kernel rfl (Nat.le_of_ble_eq_true rfl) (Nat.le_of_ble_eq_true rfl) (fun _ => t_RM_kernel e6) ?_
    refine x_iconst F.1 (i := 21) rfl ic_0 ?_
    refine cal_e h (fun r7 M7 e8 h => ?_)
    refine x_cV2v F.1 (i := 22) rfl ml_RM_441 ok_RM_lays rfl (Nat.le_of_ble_eq_true rfl) (Nat.le_of_ble_eq_true rfl) (fun _ => tg_RM_lays _ _ e8) ?_
    refine x_aload_n F.1 (i := 23) rfl rfl ?_
    refine x_getI F.1 (i := 24) rfl fl_RM_432 rfl (by rfl) ?_
    exact x_iretf F (i := 25) rfl rfl h (res := (r, M')) hQ
  · replace h := if_T c h
    refine x_aload_n F.1 (i := 10) rfl rfl ?_
    refine x_iconst F.1 (i := 11) rfl ic_5 ?_
    refine cal_e h (fun r3 M4 e4 h => ?_)
    refine x_cV1i F.1 (i := 12) rfl ml_RM_321 ok_RM_refuse rfl (Nat.le_of_ble_eq_true rfl) (Nat.le_of_ble_eq_true rfl) (fun _ => t_RM_refuse e4) ?_
    exact x_iretf F (i := 13) rfl rfl h (res := (r, M')) hQ
