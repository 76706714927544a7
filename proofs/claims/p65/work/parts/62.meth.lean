set_option maxHeartbeats 4000000 in
theorem t_KT_saidIn_l22 {w : kx_W} {d : Nat} {Q : Option Value → kx_M → Prop} {G : Nat → List (Option Value) → List Value → kx_M → Prop} (F : Sd w (d + 3) m_KT_saidIn Q G) {p1 : Int32} {p2 : Int32} {res : Int32 × kx_M} (hQ : Q (some (.int res.1)) res.2) :
    ∀ (s0 : Nat) (s1 : Int32) (M : kx_M),
    f_KT_saidIn_l22 p1 p2 s0 s1 M = some res → G 22 [some (.ref 0), some (.int p1), some (.int p2)] [.int s1, .ref 0] M := by
  intro s0 s1 M h
  rw [f_KT_saidIn_l22] at h
  refine cal_e h (fun r1 M1 e2 h => ?_)
  refine x_cV1i F.1 (i := 12) rfl ml_KT_103 ok_KT_refused rfl (Nat.le_of_ble_eq_true rfl) (Nat.le_of_ble_eq_true rfl) (fun _ => t_KT_refused e2) ?_
  refine x_if_eq F.1 (i := 13) (tgt := 30) rfl (by decide) (fun c => ?_) (fun c => ?_)
  · replace h := if_T c h
    refine x_aload_n F.1 (i := 16) rfl rfl ?_
    refine x_getR F.1 (i := 17) rfl fl_KT_64 rfl (by rfl) rfl ?_
    refine gd_e h (fun g3 h => ?_)
    replace h := bd_e h
    refine x_getC F.1 (i := 18) rfl fl_KT_156 (lk_State g3) (by rfl) ?_
    refine x_aload_n F.1 (i := 19) rfl rfl ?_
    refine x_getR F.1 (i := 20) rfl fl_KT_64 rfl (by rfl) rfl ?_
    refine gd_e h (fun g5 h => ?_)
    replace h := bd_e h
    refine x_getC F.1 (i := 21) rfl fl_KT_192 (lk_State g5) (by rfl) ?_
    refine x_iload_n F.1 (i := 22) rfl rfl ?_
    refine x_iload_n F.1 (i := 23) rfl rfl ?_
    refine cal_e h (fun r7 M2 e8 h => ?_)
    refine x_cV3i F.1 (i := 24) rfl ml_KT_326 ok_Cloth_timesIn (lk_Cloth (lD_State_cloth g3)) (Nat.le_of_ble_eq_true rfl) (Nat.le_of_ble_eq_true rfl) (fun _ => t_Cloth_timesIn (lD_State_cloth g3) (lD_State_deal g5) e8) ?_
    exact x_iretf F (i := 25) rfl rfl h hQ
  · replace h := if_F c h
    refine x_iconst F.1 (i := 14) rfl ic_n1 ?_
    exact x_iretf F (i := 15) rfl rfl h hQ
set_option maxHeartbeats 4000000 in
theorem t_KT_saidIn {w : kx_W} {d : Nat} {M : kx_M} {Q : Option Value → kx_M → Prop} {p1 : Int32} {p2 : Int32} {r : Int32} {M' : kx_M} (h : f_KT_saidIn p1 p2 M = some (r, M')) (hQ : Q (some (.int r)) M') : Ct w (d + 3) m_KT_saidIn [.ref 0, .int p1, .int p2] M Q := by
  refine mk_ct ok_KT_saidIn (Nat.le_of_ble_eq_true rfl) (fun G F => ?_)
  rw [f_KT_saidIn] at h
  show G 0 [some (.ref 0), some (.int p1), some (.int p2)] [] M
  refine x_aload_n F.1 (i := 0) rfl rfl ?_
  refine x_aload_n F.1 (i := 1) rfl rfl ?_
  refine x_iload_n F.1 (i := 2) rfl rfl ?_
  refine cal_e h (fun r1 M1 e2 h => ?_)
  refine x_cV1i F.1 (i := 3) rfl ml_KT_249 ok_KT_noClause rfl (Nat.le_of_ble_eq_true rfl) (Nat.le_of_ble_eq_true rfl) (fun _ => t_KT_noClause e2) ?_
  refine x_if_ne F.1 (i := 4) (tgt := 17) rfl (by decide) (fun c => ?_) (fun c => ?_)
  · replace h := if_F c h
    refine x_iconst F.1 (i := 9) rfl ic_2 ?_
    refine x_goto F.1 (i := 10) (tgt := 22) rfl (by decide) ?_
    exact x_wk F.1 ((t_KT_saidIn_l22 F (res := (r, M')) hQ) _ _ _ h) ⟨rfl, rfl, rfl, trivial⟩
  · replace h := if_T c h
    refine x_aload_n F.1 (i := 5) rfl rfl ?_
    refine x_iload_n F.1 (i := 6) rfl rfl ?_
    refine cal_e h (fun r3 M2 e4 h => ?_)
    refine x_cV1i F.1 (i := 7) rfl ml_KT_225 ok_KT_noRow rfl (Nat.le_of_ble_eq_true rfl) (Nat.le_of_ble_eq_true rfl) (fun _ => t_KT_noRow e4) ?_
    refine x_if_eq F.1 (i := 8) (tgt := 21) rfl (by decide) (fun c => ?_) (fun c => ?_)
    · replace h := if_T c h
      refine x_iconst F.1 (i := 11) rfl ic_0 ?_
      exact x_wk F.1 ((t_KT_saidIn_l22 F (res := (r, M')) hQ) _ _ _ h) ⟨rfl, rfl, rfl, trivial⟩
    · replace h := if_F c h
      refine x_iconst F.1 (i := 9) rfl ic_2 ?_
      refine x_goto F.1 (i := 10) (tgt := 22) rfl (by decide) ?_
      exact x_wk F.1 ((t_KT_saidIn_l22 F (res := (r, M')) hQ) _ _ _ h) ⟨rfl, rfl, rfl, trivial⟩
set_option maxHeartbeats 4000000 in
theorem t_KT_said_l26 {w : kx_W} {d : Nat} {Q : Option Value → kx_M → Prop} {G : Nat → List (Option Value) → List Value → kx_M → Prop} (F : Sd w (d + 3) m_KT_said Q G) {p1 : Int32} {res : Int32 × kx_M} (hQ : Q (some (.int res.1)) res.2) :
    ∀ (n : Nat) (x2 : Int32) (x3 : Int32) (M : kx_M),
    f_KT_said_l26 p1 n x2 x3 M = some res → G 26 [some (.ref 0), some (.int p1), some (.int x2), some (.int x3)] [] M := by
  intro n
  induction n with
  | zero =>
    intro x2 x3 M h
    exact absurd h (by rw [f_KT_said_l26]; exact fun z => nomatch z)
  | succ n ih =>
    intro x2 x3 M h
    rw [f_KT_said_l26] at h
    refine x_iload_n F.1 (i := 16) rfl rfl ?_
    refine x_aload_n F.1 (i := 17) rfl rfl ?_
    refine x_getR F.1 (i := 18) rfl fl_KT_64 rfl (by rfl) rfl ?_
    refine gd_e h (fun g1 h => ?_)
    replace h := bd_e h
    refine x_getC F.1 (i := 19) rfl fl_KT_156 (lk_State g1) (by rfl) ?_
    refine x_getI F.1 (i := 20) rfl fl_KT_160 (lk_Cloth (lD_State_cloth g1)) (by rfl) ?_
    refine x_icmp_ge F.1 (i := 21) (tgt := 68) rfl (by decide) (fun c => ?_) (fun c => ?_)
    · replace h := if_T c h
      refine x_iload_n F.1 (i := 36) rfl rfl ?_
      exact x_iretf F (i := 37) rfl rfl h hQ
    · replace h := if_F c h
      refine x_iload_n F.1 (i := 22) rfl rfl ?_
      refine x_aload_n F.1 (i := 23) rfl rfl ?_
      refine x_getR F.1 (i := 24) rfl fl_KT_64 rfl (by rfl) rfl ?_
      refine gd_e h (fun g3 h => ?_)
      replace h := bd_e h
      refine x_getC F.1 (i := 25) rfl fl_KT_156 (lk_State g3) (by rfl) ?_
      refine x_aload_n F.1 (i := 26) rfl rfl ?_
      refine x_getR F.1 (i := 27) rfl fl_KT_64 rfl (by rfl) rfl ?_
      refine gd_e h (fun g5 h => ?_)
      replace h := bd_e h
      refine x_getC F.1 (i := 28) rfl fl_KT_192 (lk_State g5) (by rfl) ?_
      refine x_iload_n F.1 (i := 29) rfl rfl ?_
      refine x_iload_n F.1 (i := 30) rfl rfl ?_
      refine cal_e h (fun r7 M1 e8 h => ?_)
      refine x_cV3i F.1 (i := 31) rfl ml_KT_326 ok_Cloth_timesIn (lk_Cloth (lD_State_cloth g3)) (Nat.le_of_ble_eq_true rfl) (Nat.le_of_ble_eq_true rfl) (fun _ => t_Cloth_timesIn (lD_State_cloth g3) (lD_State_deal g5) e8) ?_
      refine x_iadd F.1 (i := 32) rfl ?_
      refine x_istore_n F.1 (i := 33) rfl (Nat.le_of_ble_eq_true rfl) (Nat.le_of_ble_eq_true rfl) rfl ?_
      replace h := bd_e h
      refine x_iinc F.1 (i := 34) rfl rfl rfl (Nat.le_of_ble_eq_true rfl) rfl ?_
      replace h := bd_e h
      refine x_goto F.1 (i := 35) (tgt := 26) rfl (by decide) ?_
      exact x_wk F.1 (ih _ _ _ h) ⟨rfl, rfl, rfl, rfl, trivial⟩
set_option maxHeartbeats 4000000 in
theorem t_KT_said_l14 {w : kx_W} {d : Nat} {Q : Option Value → kx_M → Prop} {G : Nat → List (Option Value) → List Value → kx_M → Prop} (F : Sd w (d + 3) m_KT_said Q G) {p1 : Int32} {res : Int32 × kx_M} (hQ : Q (some (.int res.1)) res.2) :
    ∀ (s0 : Nat) (s1 : Int32) (M : kx_M),
    f_KT_said_l14 p1 s0 s1 M = some res → G 14 [some (.ref 0), some (.int p1), none, none] [.int s1, .ref 0] M := by
  intro s0 s1 M h
  rw [f_KT_said_l14] at h
  refine cal_e h (fun r1 M1 e2 h => ?_)
  refine x_cV1i F.1 (i := 8) rfl ml_KT_103 ok_KT_refused rfl (Nat.le_of_ble_eq_true rfl) (Nat.le_of_ble_eq_true rfl) (fun _ => t_KT_refused e2) ?_
  refine x_if_eq F.1 (i := 9) (tgt := 22) rfl (by decide) (fun c => ?_) (fun c => ?_)
  · replace h := if_T c h
    refine x_iconst F.1 (i := 12) rfl ic_0 ?_
    refine x_istore_n F.1 (i := 13) rfl (Nat.le_of_ble_eq_true rfl) (Nat.le_of_ble_eq_true rfl) rfl ?_
    refine x_iconst F.1 (i := 14) rfl ic_0 ?_
    refine x_istore_n F.1 (i := 15) rfl (Nat.le_of_ble_eq_true rfl) (Nat.le_of_ble_eq_true rfl) rfl ?_
    exact x_wk F.1 ((t_KT_said_l26 F hQ FU) _ _ _ h) ⟨rfl, rfl, rfl, rfl, trivial⟩
  · replace h := if_F c h
    refine x_iconst F.1 (i := 10) rfl ic_n1 ?_
    exact x_iretf F (i := 11) rfl rfl h hQ
set_option maxHeartbeats 4000000 in
theorem t_KT_said {w : kx_W} {d : Nat} {M : kx_M} {Q : Option Value → kx_M → Prop} {p1 : Int32} {r : Int32} {M' : kx_M} (h : f_KT_said p1 M = some (r, M')) (hQ : Q (some (.int r)) M') : Ct w (d + 3) m_KT_said [.ref 0, .int p1] M Q := by
  refine mk_ct ok_KT_said (Nat.le_of_ble_eq_true rfl) (fun G F => ?_)
  rw [f_KT_said] at h
  show G 0 [some (.ref 0), some (.int p1), none, none] [] M
  refine x_aload_n F.1 (i := 0) rfl rfl ?_
  refine x_aload_n F.1 (i := 1) rfl rfl ?_
  refine x_iload_n F.1 (i := 2) rfl rfl ?_
  refine cal_e h (fun r1 M1 e2 h => ?_)
  refine x_cV1i F.1 (i := 3) rfl ml_KT_249 ok_KT_noClause rfl (Nat.le_of_ble_eq_true rfl) (Nat.le_of_ble_eq_true rfl) (fun _ => t_KT_noClause e2) ?_
  refine x_if_eq F.1 (i := 4) (tgt := 13) rfl (by decide) (fun c => ?_) (fun c => ?_)
  · replace h := if_T c h
    refine x_iconst F.1 (i := 7) rfl ic_0 ?_
    exact x_wk F.1 ((t_KT_said_l14 F (res := (r, M')) hQ) _ _ _ h) ⟨rfl, rfl, trivial⟩
  · replace h := if_F c h
    refine x_iconst F.1 (i := 5) rfl ic_2 ?_
    refine x_goto F.1 (i := 6) (tgt := 14) rfl (by decide) ?_
    exact x_wk F.1 ((t_KT_said_l14 F (res := (r, M')) hQ) _ _ _ h) ⟨rfl, rfl, trivial⟩
set_option maxHeartbeats 4000000 in
theorem t_KT_needs_l18 {w : kx_W} {d : Nat} {Q : Option Value → kx_M → Prop} {G : Nat → List (Option Value) → List Value → kx_M → Prop} (F : Sd w (d + 3) m_KT_needs Q G) {p1 : Int32} {res : Int32 × kx_M} (hQ : Q (some (.int res.1)) res.2) :
    ∀ (s0 : Nat) (s1 : Int32) (M : kx_M),
    f_KT_needs_l18 p1 s0 s1 M = some res → G 18 [some (.ref 0), some (.int p1)] [.int s1, .ref 0] M := by
  intro s0 s1 M h
  rw [f_KT_needs_l18] at h
  refine cal_e h (fun r1 M1 e2 h => ?_)
  refine x_cV1i F.1 (i := 10) rfl ml_KT_103 ok_KT_refused rfl (Nat.le_of_ble_eq_true rfl) (Nat.le_of_ble_eq_true rfl) (fun _ => t_KT_refused e2) ?_
  refine x_if_eq F.1 (i := 11) (tgt := 26) rfl (by decide) (fun c => ?_) (fun c => ?_)
  · replace h := if_T c h
    refine x_aload_n F.1 (i := 14) rfl rfl ?_
    refine x_getC F.1 (i := 15) rfl fl_KT_11 rfl (by rfl) ?_
    refine x_iload_n F.1 (i := 16) rfl rfl ?_
    refine gd_e h (fun g3 h => ?_)
    refine x_tray F.1 (i := 17) rfl g3 ?_
    refine x_aload_n F.1 (i := 18) rfl rfl ?_
    refine x_getR F.1 (i := 19) rfl fl_KT_64 rfl (by rfl) rfl ?_
    refine gd_e h (fun g4 h => ?_)
    replace h := bd_e h
    refine x_getC F.1 (i := 20) rfl fl_KT_156 (lk_State g4) (by rfl) ?_
    refine x_getI F.1 (i := 21) rfl fl_KT_186 (lk_Cloth (lD_State_cloth g4)) (by rfl) ?_
    refine cal_e h (fun r6 M2 e7 h => ?_)
    refine x_cV1i F.1 (i := 22) rfl ml_KT_303 ok_Tray_woolOf (lk_Tray (isTray_of g3)) (Nat.le_of_ble_eq_true rfl) (Nat.le_of_ble_eq_true rfl) (fun _ => t_Tray_woolOf (isTray_of g3) e7) ?_
    exact x_iretf F (i := 23) rfl rfl h hQ
  · replace h := if_F c h
    refine x_iconst F.1 (i := 12) rfl ic_n1 ?_
    exact x_iretf F (i := 13) rfl rfl h hQ
set_option maxHeartbeats 4000000 in
theorem t_KT_needs {w : kx_W} {d : Nat} {M : kx_M} {Q : Option Value → kx_M → Prop} {p1 : Int32} {r : Int32} {M' : kx_M} (h : f_KT_needs p1 M = some (r, M')) (hQ : Q (some (.int r)) M') : Ct w (d + 3) m_KT_needs [.ref 0, .int p1] M Q := by
  refine mk_ct ok_KT_needs (Nat.le_of_ble_eq_true rfl) (fun G F => ?_)
  rw [f_KT_needs] at h
  show G 0 [some (.ref 0), some (.int p1)] [] M
  refine x_aload_n F.1 (i := 0) rfl rfl ?_
  refine x_iload_n F.1 (i := 1) rfl rfl ?_
  refine cal_e h (fun r1 M1 e2 h => ?_)
  refine x_cS1i F.1 (i := 2) rfl ml_KT_99 ok_KT_noTray (Nat.le_of_ble_eq_true rfl) (Nat.le_of_ble_eq_true rfl) (fun _ => t_KT_noTray e2) ?_
  refine x_if_eq F.1 (i := 3) (tgt := 12) rfl (by decide) (fun c => ?_) (fun c => ?_)
  · replace h := if_T c h
    refine x_aload_n F.1 (i := 6) rfl rfl ?_
    refine x_iload_n F.1 (i := 7) rfl rfl ?_
    refine x_iconst F.1 (i := 8) rfl ic_0 ?_
    refine cal_e h (fun r3 M2 e4 h => ?_)
    refine x_cV2i F.1 (i := 9) rfl ml_KT_310 ok_KT_kindsStatus rfl (Nat.le_of_ble_eq_true rfl) (Nat.le_of_ble_eq_true rfl) (fun _ => t_KT_kindsStatus e4) ?_
    exact x_wk F.1 ((t_KT_needs_l18 F (res := (r, M')) hQ) _ _ _ h) ⟨rfl, rfl, trivial⟩
  · replace h := if_F c h
    refine x_iconst F.1 (i := 4) rfl ic_1 ?_
    refine x_goto F.1 (i := 5) (tgt := 18) rfl (by decide) ?_
    exact x_wk F.1 ((t_KT_needs_l18 F (res := (r, M')) hQ) _ _ _ h) ⟨rfl, rfl, trivial⟩
set_option maxHeartbeats 4000000 in
theorem t_Cloth_copyFrom {w : kx_W} {d : Nat} {M : kx_M} {Q : Option Value → kx_M → Prop} {p0 : Nat} {p1 : Nat} {r : Unit} {M' : kx_M} (hp0 : isCloth p0 = true) (hp1 : isCloth p1 = true) (h : f_Cloth_copyFrom p0 p1 M = some (r, M')) (hQ : Q none M') : Ct w (d + 1) m_Cloth_copyFrom [.ref p0, .ref p1] M Q := by
  refine mk_ct ok_Cloth_copyFrom (Nat.le_of_ble_eq_true rfl) (fun G F => ?_)
  rw [f_Cloth_copyFrom] at h
  show G 0 [some (.ref p0), some (.ref p1)] [] M
  refine x_aload_n F.1 (i := 0) rfl rfl ?_
  refine x_aload_n F.1 (i := 1) rfl rfl ?_
  refine x_getI F.1 (i := 2) rfl fl_Cloth_27 (lk_Cloth hp1) (by rfl) ?_
  refine x_putI F.1 (i := 3) rfl fl_Cloth_27 pf_Cloth_wide (lk_Cloth hp0) (by rfl) ?_
  replace h := bd_e h
  refine x_aload_n F.1 (i := 4) rfl rfl ?_
  refine x_aload_n F.1 (i := 5) rfl rfl ?_
  refine x_getI F.1 (i := 6) rfl fl_Cloth_31 (lk_Cloth hp1) (by rfl) ?_
  refine x_putI F.1 (i := 7) rfl fl_Cloth_31 pf_Cloth_tough (lk_Cloth hp0) (by rfl) ?_
  replace h := bd_e h
  refine x_aload_n F.1 (i := 8) rfl rfl ?_
  refine x_aload_n F.1 (i := 9) rfl rfl ?_
  refine x_getI F.1 (i := 10) rfl fl_Cloth_34 (lk_Cloth hp1) (by rfl) ?_
  refine x_putI F.1 (i := 11) rfl fl_Cloth_34 pf_Cloth_rows (lk_Cloth hp0) (by rfl) ?_
  replace h := bd_e h
  refine x_aload_n F.1 (i := 12) rfl rfl ?_
  refine x_aload_n F.1 (i := 13) rfl rfl ?_
  refine x_getI F.1 (i := 14) rfl fl_Cloth_37 (lk_Cloth hp1) (by rfl) ?_
  refine x_putI F.1 (i := 15) rfl fl_Cloth_37 pf_Cloth_date (lk_Cloth hp0) (by rfl) ?_
  replace h := bd_e h
  refine x_aload_n F.1 (i := 16) rfl rfl ?_
  refine x_getC F.1 (i := 17) rfl fl_Cloth_9 (lk_Cloth hp1) (by rfl) ?_
  refine x_iconst F.1 (i := 18) rfl ic_0 ?_
  refine x_aload_n F.1 (i := 19) rfl rfl ?_
  refine x_getC F.1 (i := 20) rfl fl_Cloth_9 (lk_Cloth hp0) (by rfl) ?_
  refine x_iconst F.1 (i := 21) rfl ic_0 ?_
  refine x_bipush F.1 (i := 22) rfl bp_12 ?_
  refine x_copyi F.1 (i := 23) rfl jm_Cloth_40 (lk_Cloth_owner hp1) (lk_Cloth_owner hp0) (by decide) (by decide) (by decide) (by decide) (by decide) (Nat.le_of_ble_eq_true rfl) ?_
  replace h := bd_e h
  refine x_aload_n F.1 (i := 24) rfl rfl ?_
  refine x_getC F.1 (i := 25) rfl fl_Cloth_15 (lk_Cloth hp1) (by rfl) ?_
  refine x_iconst F.1 (i := 26) rfl ic_0 ?_
  refine x_aload_n F.1 (i := 27) rfl rfl ?_
  refine x_getC F.1 (i := 28) rfl fl_Cloth_15 (lk_Cloth hp0) (by rfl) ?_
  refine x_iconst F.1 (i := 29) rfl ic_0 ?_
  refine x_bipush F.1 (i := 30) rfl bp_96 ?_
  refine x_copyi F.1 (i := 31) rfl jm_Cloth_40 (lk_Cloth_kinds hp1) (lk_Cloth_kinds hp0) (by decide) (by decide) (by decide) (by decide) (by decide) (Nat.le_of_ble_eq_true rfl) ?_
  replace h := bd_e h
  refine x_aload_n F.1 (i := 32) rfl rfl ?_
  refine x_getC F.1 (i := 33) rfl fl_Cloth_18 (lk_Cloth hp1) (by rfl) ?_
  refine x_iconst F.1 (i := 34) rfl ic_0 ?_
  refine x_aload_n F.1 (i := 35) rfl rfl ?_
  refine x_getC F.1 (i := 36) rfl fl_Cloth_18 (lk_Cloth hp0) (by rfl) ?_
  refine x_iconst F.1 (i := 37) rfl ic_0 ?_
  refine x_bipush F.1 (i := 38) rfl bp_96 ?_
  refine x_copyi F.1 (i := 39) rfl jm_Cloth_40 (lk_Cloth_worn hp1) (lk_Cloth_worn hp0) (by decide) (by decide) (by decide) (by decide) (by decide) (Nat.le_of_ble_eq_true rfl) ?_
  replace h := bd_e h
  refine x_aload_n F.1 (i := 40) rfl rfl ?_
  refine x_getC F.1 (i := 41) rfl fl_Cloth_21 (lk_Cloth hp1) (by rfl) ?_
  refine x_iconst F.1 (i := 42) rfl ic_0 ?_
  refine x_aload_n F.1 (i := 43) rfl rfl ?_
  refine x_getC F.1 (i := 44) rfl fl_Cloth_21 (lk_Cloth hp0) (by rfl) ?_
  refine x_iconst F.1 (i := 45) rfl ic_0 ?_
  refine x_bipush F.1 (i := 46) rfl bp_96 ?_
  refine x_copyi F.1 (i := 47) rfl jm_Cloth_40 (lk_Cloth_undone hp1) (lk_Cloth_undone hp0) (by decide) (by decide) (by decide) (by decide) (by decide) (Nat.le_of_ble_eq_true rfl) ?_
  replace h := bd_e h
  refine x_aload_n F.1 (i := 48) rfl rfl ?_
  refine x_getC F.1 (i := 49) rfl fl_Cloth_24 (lk_Cloth hp1) (by rfl) ?_
  refine x_iconst F.1 (i := 50) rfl ic_0 ?_
  refine x_aload_n F.1 (i := 51) rfl rfl ?_
  refine x_getC F.1 (i := 52) rfl fl_Cloth_24 (lk_Cloth hp0) (by rfl) ?_
  refine x_iconst F.1 (i := 53) rfl ic_0 ?_
  refine x_bipush F.1 (i := 54) rfl bp_96 ?_
  refine x_copyi F.1 (i := 55) rfl jm_Cloth_40 (lk_Cloth_darned hp1) (lk_Cloth_darned hp0) (by decide) (by decide) (by decide) (by decide) (by decide) (Nat.le_of_ble_eq_true rfl) ?_
  replace h := bd_e h
  exact x_vretf F (i := 56) rfl rfl h (res := (r, M')) hQ
set_option maxHeartbeats 4000000 in
theorem t_KT_tried {w : kx_W} {d : Nat} {M : kx_M} {Q : Option Value → kx_M → Prop} {r : Nat} {M' : kx_M} (h : f_KT_tried M = some (r, M')) (hQ : Q (some (.ref r)) M') : Ct w (d + 2) m_KT_tried [.ref 0] M Q := by
  refine mk_ct ok_KT_tried (Nat.le_of_ble_eq_true rfl) (fun G F => ?_)
  rw [f_KT_tried] at h
  show G 0 [some (.ref 0)] [] M
  refine x_aload_n F.1 (i := 0) rfl rfl ?_
  refine x_getR F.1 (i := 1) rfl fl_KT_68 rfl (by rfl) rfl ?_
  refine gd_e h (fun g1 h => ?_)
  replace h := bd_e h
  refine x_getC F.1 (i := 2) rfl fl_KT_156 (lk_State g1) (by rfl) ?_
  refine x_aload_n F.1 (i := 3) rfl rfl ?_
  refine x_getR F.1 (i := 4) rfl fl_KT_64 rfl (by rfl) rfl ?_
  refine gd_e h (fun g3 h => ?_)
  replace h := bd_e h
  refine x_getC F.1 (i := 5) rfl fl_KT_156 (lk_State g3) (by rfl) ?_
  refine cal_e h (fun r5 M1 e6 h => ?_)
  refine x_cV1v F.1 (i := 6) rfl ml_KT_341 ok_Cloth_copyFrom (lk_Cloth (lD_State_cloth g1)) (Nat.le_of_ble_eq_true rfl) (Nat.le_of_ble_eq_true rfl) (fun _ => t_Cloth_copyFrom (lD_State_cloth g1) (lD_State_cloth g3) e6) ?_
  refine x_aload_n F.1 (i := 7) rfl rfl ?_
  refine x_getR F.1 (i := 8) rfl fl_KT_68 rfl (by rfl) rfl ?_
  refine gd_e h (fun g7 h => ?_)
  replace h := bd_e h
  refine x_getC F.1 (i := 9) rfl fl_KT_156 (lk_State g7) (by rfl) ?_
  exact x_aretf F (i := 10) rfl rfl h (res := (r, M')) hQ
set_option maxHeartbeats 4000000 in
theorem t_Cloth_saysAnywhere_l2 {w : kx_W} {d : Nat} {Q : Option Value → kx_M → Prop} {G : Nat → List (Option Value) → List Value → kx_M → Prop} (F : Sd w (d + 3) m_Cloth_saysAnywhere Q G) {p0 : Nat} {p1 : Nat} {p2 : Int32} (hp0 : isCloth p0 = true) (hp1 : isDeal p1 = true) {res : Int32 × kx_M} (hQ : Q (some (.int res.1)) res.2) :
    ∀ (n : Nat) (x3 : Int32) (M : kx_M),
    f_Cloth_saysAnywhere_l2 p0 p1 p2 n x3 M = some res → G 2 [some (.ref p0), some (.ref p1), some (.int p2), some (.int x3)] [] M := by
  intro n
  induction n with
  | zero =>
    intro x3 M h
    exact absurd h (by rw [f_Cloth_saysAnywhere_l2]; exact fun z => nomatch z)
  | succ n ih =>
    intro x3 M h
    rw [f_Cloth_saysAnywhere_l2] at h
    refine x_iload_n F.1 (i := 2) rfl rfl ?_
    refine x_aload_n F.1 (i := 3) rfl rfl ?_
    refine x_getI F.1 (i := 4) rfl fl_Cloth_34 (lk_Cloth hp0) (by rfl) ?_
    refine x_icmp_ge F.1 (i := 5) (tgt := 28) rfl (by decide) (fun c => ?_) (fun c => ?_)
    · replace h := if_T c h
      refine x_iconst F.1 (i := 16) rfl ic_0 ?_
      exact x_zretf F (i := 17) rfl rfl (Or.inl rfl) h hQ
    · replace h := if_F c h
      refine x_aload_n F.1 (i := 6) rfl rfl ?_
      refine x_aload_n F.1 (i := 7) rfl rfl ?_
      refine x_iload_n F.1 (i := 8) rfl rfl ?_
      refine x_iload_n F.1 (i := 9) rfl rfl ?_
      refine cal_e h (fun r1 M1 e2 h => ?_)
      refine x_cV3i F.1 (i := 10) rfl ml_Cloth_94 ok_Cloth_timesIn (lk_Cloth hp0) (Nat.le_of_ble_eq_true rfl) (Nat.le_of_ble_eq_true rfl) (fun _ => t_Cloth_timesIn hp0 hp1 e2) ?_
      refine x_if_le F.1 (i := 11) (tgt := 22) rfl (by decide) (fun c => ?_) (fun c => ?_)
      · replace h := if_T c h
        refine x_iinc F.1 (i := 14) rfl rfl rfl (Nat.le_of_ble_eq_true rfl) rfl ?_
        replace h := bd_e h
        refine x_goto F.1 (i := 15) (tgt := 2) rfl (by decide) ?_
        exact x_wk F.1 (ih _ _ h) ⟨rfl, rfl, rfl, rfl, trivial⟩
      · replace h := if_F c h
        refine x_iconst F.1 (i := 12) rfl ic_1 ?_
        exact x_zretf F (i := 13) rfl rfl (Or.inr rfl) h hQ
set_option maxHeartbeats 4000000 in
theorem t_Cloth_saysAnywhere {w : kx_W} {d : Nat} {M : kx_M} {Q : Option Value → kx_M → Prop} {p0 : Nat} {p1 : Nat} {p2 : Int32} {r : Int32} {M' : kx_M} (hp0 : isCloth p0 = true) (hp1 : isDeal p1 = true) (h : f_Cloth_saysAnywhere p0 p1 p2 M = some (r, M')) (hQ : Q (some (.int r)) M') : Ct w (d + 3) m_Cloth_saysAnywhere [.ref p0, .ref p1, .int p2] M Q := by
  refine mk_ct ok_Cloth_saysAnywhere (Nat.le_of_ble_eq_true rfl) (fun G F => ?_)
  rw [f_Cloth_saysAnywhere] at h
  show G 0 [some (.ref p0), some (.ref p1), some (.int p2), none] [] M
  refine x_iconst F.1 (i := 0) rfl ic_0 ?_
  refine x_istore_n F.1 (i := 1) rfl (Nat.le_of_ble_eq_true rfl) (Nat.le_of_ble_eq_true rfl) rfl ?_
  exact x_wk F.1 ((t_Cloth_saysAnywhere_l2 F hp0 hp1 (res := (r, M')) hQ FU) _ _ h) ⟨rfl, rfl, rfl, rfl, trivial⟩
set_option maxHeartbeats 4000000 in
theorem t_KT_lost_l29 {w : kx_W} {d : Nat} {Q : Option Value → kx_M → Prop} {G : Nat → List (Option Value) → List Value → kx_M → Prop} (F : Sd w (d + 4) m_KT_lost Q G) {p1 : Int32} {res : Int32 × kx_M} (hQ : Q (some (.int res.1)) res.2) :
    ∀ (n : Nat) (x2 : Nat) (x3 : Int32) (hx2 : isCloth x2 = true) (M : kx_M),
    f_KT_lost_l29 p1 n x2 x3 M = some res → G 29 [some (.ref 0), some (.int p1), some (.ref x2), some (.int x3)] [] M := by
  intro n
  induction n with
  | zero =>
    intro x2 x3 hx2 M h
    exact absurd h (by rw [f_KT_lost_l29]; exact fun z => nomatch z)
  | succ n ih =>
    intro x2 x3 hx2 M h
    rw [f_KT_lost_l29] at h
    refine x_iload_n F.1 (i := 17) rfl rfl ?_
    refine x_bipush F.1 (i := 18) rfl bp_99 ?_
    refine x_icmp_gt F.1 (i := 19) (tgt := 73) rfl (by decide) (fun c => ?_) (fun c => ?_)
    · replace h := if_T c h
      refine x_aload_n F.1 (i := 38) rfl rfl ?_
      refine x_bipush F.1 (i := 39) rfl bp_8 ?_
      refine x_putI F.1 (i := 40) rfl fl_KT_78 pf_KT_latest rfl (by rfl) ?_
      replace h := bd_e h
      refine x_iconst F.1 (i := 41) rfl ic_n1 ?_
      exact x_iretf F (i := 42) rfl rfl h hQ
    · replace h := if_F c h
      refine x_aload_n F.1 (i := 20) rfl rfl ?_
      refine x_aload_n F.1 (i := 21) rfl rfl ?_
      refine x_getR F.1 (i := 22) rfl fl_KT_64 rfl (by rfl) rfl ?_
      refine gd_e h (fun g1 h => ?_)
      replace h := bd_e h
      refine x_getC F.1 (i := 23) rfl fl_KT_192 (lk_State g1) (by rfl) ?_
      refine x_iload_n F.1 (i := 24) rfl rfl ?_
      refine cal_e h (fun r3 M2 e4 h => ?_)
      refine x_cV2i F.1 (i := 25) rfl ml_KT_348 ok_Cloth_saysAnywhere (lk_Cloth hx2) (Nat.le_of_ble_eq_true rfl) (Nat.le_of_ble_eq_true rfl) (fun _ => t_Cloth_saysAnywhere hx2 (lD_State_deal g1) e4) ?_
      refine x_if_ne F.1 (i := 26) (tgt := 52) rfl (by decide) (fun c => ?_) (fun c => ?_)
      · replace h := if_F c h
        refine x_aload_n F.1 (i := 29) rfl rfl ?_
        refine cal_e h (fun r5 M3 e6 h => ?_)
        refine x_cV0i F.1 (i := 30) rfl ml_KT_352 ok_Cloth_anyLoose (lk_Cloth hx2) (Nat.le_of_ble_eq_true rfl) (Nat.le_of_ble_eq_true rfl) (fun _ => t_Cloth_anyLoose hx2 e6) ?_
        refine x_if_ne F.1 (i := 31) (tgt := 62) rfl (by decide) (fun c => ?_) (fun c => ?_)
        · replace h := if_F c h
          refine x_aload_n F.1 (i := 33) rfl rfl ?_
          refine cal_e h (fun r7 M5 e8 h => ?_)
          refine x_cV0i F.1 (i := 34) rfl ml_KT_356 ok_Cloth_passYear (lk_Cloth hx2) (Nat.le_of_ble_eq_true rfl) (Nat.le_of_ble_eq_true rfl) (fun _ => t_Cloth_passYear hx2 e8) ?_
          refine x_pop F.1 (i := 35) rfl rfl ?_
          refine x_iinc F.1 (i := 36) rfl rfl rfl (Nat.le_of_ble_eq_true rfl) rfl ?_
          replace h := bd_e h
          refine x_goto F.1 (i := 37) (tgt := 29) rfl (by decide) ?_
          exact x_wk F.1 (ih _ _ hx2 _ h) ⟨rfl, rfl, rfl, rfl, trivial⟩
        · replace h := if_T c h
          refine x_goto F.1 (i := 32) (tgt := 73) rfl (by decide) ?_
          refine x_aload_n F.1 (i := 38) rfl rfl ?_
          refine x_bipush F.1 (i := 39) rfl bp_8 ?_
          refine x_putI F.1 (i := 40) rfl fl_KT_78 pf_KT_latest rfl (by rfl) ?_
          replace h := bd_e h
          refine x_iconst F.1 (i := 41) rfl ic_n1 ?_
          exact x_iretf F (i := 42) rfl rfl h hQ
      · replace h := if_T c h
        refine x_iload_n F.1 (i := 27) rfl rfl ?_
        exact x_iretf F (i := 28) rfl rfl h hQ
set_option maxHeartbeats 4000000 in
theorem t_KT_lost_l14 {w : kx_W} {d : Nat} {Q : Option Value → kx_M → Prop} {G : Nat → List (Option Value) → List Value → kx_M → Prop} (F : Sd w (d + 4) m_KT_lost Q G) {p1 : Int32} {res : Int32 × kx_M} (hQ : Q (some (.int res.1)) res.2) :
    ∀ (s0 : Nat) (s1 : Int32) (M : kx_M),
    f_KT_lost_l14 p1 s0 s1 M = some res → G 14 [some (.ref 0), some (.int p1), none, none] [.int s1, .ref 0] M := by
  intro s0 s1 M h
  rw [f_KT_lost_l14] at h
  refine cal_e h (fun r1 M1 e2 h => ?_)
  refine x_cV1i F.1 (i := 8) rfl ml_KT_103 ok_KT_refused rfl (Nat.le_of_ble_eq_true rfl) (Nat.le_of_ble_eq_true rfl) (fun _ => t_KT_refused e2) ?_
  refine x_if_eq F.1 (i := 9) (tgt := 22) rfl (by decide) (fun c => ?_) (fun c => ?_)
  · replace h := if_T c h
    refine x_aload_n F.1 (i := 12) rfl rfl ?_
    refine cal_e h (fun r3 M2 e4 h => ?_)
    refine x_cV0a F.1 (i := 13) rfl ml_KT_344 ok_KT_tried rfl (Nat.le_of_ble_eq_true rfl) (Nat.le_of_ble_eq_true rfl) (fun _ => t_KT_tried e4) ?_
    refine gd_e h (fun g5 h => ?_)
    refine x_astore_n F.1 (i := 14) rfl (Nat.le_of_ble_eq_true rfl) (Nat.le_of_ble_eq_true rfl) rfl ?_
    refine x_iconst F.1 (i := 15) rfl ic_0 ?_
    refine x_istore_n F.1 (i := 16) rfl (Nat.le_of_ble_eq_true rfl) (Nat.le_of_ble_eq_true rfl) rfl ?_
    exact x_wk F.1 ((t_KT_lost_l29 F hQ FU) _ _ g5 _ h) ⟨rfl, rfl, rfl, rfl, trivial⟩
  · replace h := if_F c h
    refine x_iconst F.1 (i := 10) rfl ic_n1 ?_
    exact x_iretf F (i := 11) rfl rfl h hQ
set_option maxHeartbeats 4000000 in
theorem t_KT_lost {w : kx_W} {d : Nat} {M : kx_M} {Q : Option Value → kx_M → Prop} {p1 : Int32} {r : Int32} {M' : kx_M} (h : f_KT_lost p1 M = some (r, M')) (hQ : Q (some (.int r)) M') : Ct w (d + 4) m_KT_lost [.ref 0, .int p1] M Q := by
  refine mk_ct ok_KT_lost (Nat.le_of_ble_eq_true rfl) (fun G F => ?_)
  rw [f_KT_lost] at h
  show G 0 [some (.ref 0), some (.int p1), none, none] [] M
  refine x_aload_n F.1 (i := 0) rfl rfl ?_
  refine x_aload_n F.1 (i := 1) rfl rfl ?_
  refine x_iload_n F.1 (i := 2) rfl rfl ?_
  refine cal_e h (fun r1 M1 e2 h => ?_)
  refine x_cV1i F.1 (i := 3) rfl ml_KT_249 ok_KT_noClause rfl (Nat.le_of_ble_eq_true rfl) (Nat.le_of_ble_eq_true rfl) (fun _ => t_KT_noClause e2) ?_
  refine x_if_eq F.1 (i := 4) (tgt := 13) rfl (by decide) (fun c => ?_) (fun c => ?_)
  · replace h := if_T c h
    refine x_iconst F.1 (i := 7) rfl ic_0 ?_
    exact x_wk F.1 ((t_KT_lost_l14 F (res := (r, M')) hQ) _ _ _ h) ⟨rfl, rfl, trivial⟩
  · replace h := if_F c h
    refine x_iconst F.1 (i := 5) rfl ic_2 ?_
    refine x_goto F.1 (i := 6) (tgt := 14) rfl (by decide) ?_
    exact x_wk F.1 ((t_KT_lost_l14 F (res := (r, M')) hQ) _ _ _ h) ⟨rfl, rfl, trivial⟩
set_option maxHeartbeats 4000000 in
theorem t_KT_undoneIn_l16 {w : kx_W} {d : Nat} {Q : Option Value → kx_M → Prop} {G : Nat → List (Option Value) → List Value → kx_M → Prop} (F : Sd w (d + 4) m_KT_undoneIn Q G) {p1 : Int32} {res : Int32 × kx_M} (hQ : Q (some (.int res.1)) res.2) :
    ∀ (s0 : Nat) (s1 : Int32) (M : kx_M),
    f_KT_undoneIn_l16 p1 s0 s1 M = some res → G 16 [some (.ref 0), some (.int p1), none] [.int s1, .ref 0] M := by
  intro s0 s1 M h
  rw [f_KT_undoneIn_l16] at h
  refine cal_e h (fun r1 M1 e2 h => ?_)
  refine x_cV1i F.1 (i := 9) rfl ml_KT_103 ok_KT_refused rfl (Nat.le_of_ble_eq_true rfl) (Nat.le_of_ble_eq_true rfl) (fun _ => t_KT_refused e2) ?_
  refine x_if_eq F.1 (i := 10) (tgt := 24) rfl (by decide) (fun c => ?_) (fun c => ?_)
  · replace h := if_T c h
    refine x_aload_n F.1 (i := 13) rfl rfl ?_
    refine cal_e h (fun r3 M2 e4 h => ?_)
    refine x_cV0a F.1 (i := 14) rfl ml_KT_344 ok_KT_tried rfl (Nat.le_of_ble_eq_true rfl) (Nat.le_of_ble_eq_true rfl) (fun _ => t_KT_tried e4) ?_
    refine gd_e h (fun g5 h => ?_)
    refine x_astore_n F.1 (i := 15) rfl (Nat.le_of_ble_eq_true rfl) (Nat.le_of_ble_eq_true rfl) rfl ?_
    refine x_aload_n F.1 (i := 16) rfl rfl ?_
    refine x_iload_n F.1 (i := 17) rfl rfl ?_
    refine cal_e h (fun r6 M3 e7 h => ?_)
    refine x_cV1i F.1 (i := 18) rfl ml_KT_282 ok_Cloth_passYears (lk_Cloth g5) (Nat.le_of_ble_eq_true rfl) (Nat.le_of_ble_eq_true rfl) (fun _ => t_Cloth_passYears g5 e7) ?_
    refine x_pop F.1 (i := 19) rfl rfl ?_
    refine x_aload_n F.1 (i := 20) rfl rfl ?_
    refine x_aload_n F.1 (i := 21) rfl rfl ?_
    refine x_getC F.1 (i := 22) rfl fl_KT_207 (lk_Cloth g5) (by rfl) ?_
    refine cal_e h (fun r8 M4 e9 h => ?_)
    refine x_cV1i F.1 (i := 23) rfl ml_KT_210 ok_Cloth_sum (lk_Cloth g5) (Nat.le_of_ble_eq_true rfl) (Nat.le_of_ble_eq_true rfl) (fun _ => t_Cloth_sum g5 e9) ?_
    exact x_iretf F (i := 24) rfl rfl h hQ
  · replace h := if_F c h
    refine x_iconst F.1 (i := 11) rfl ic_n1 ?_
    exact x_iretf F (i := 12) rfl rfl h hQ
set_option maxHeartbeats 4000000 in
theorem t_KT_undoneIn {w : kx_W} {d : Nat} {M : kx_M} {Q : Option Value → kx_M → Prop} {p1 : Int32} {r : Int32} {M' : kx_M} (h : f_KT_undoneIn p1 M = some (r, M')) (hQ : Q (some (.int r)) M') : Ct w (d + 4) m_KT_undoneIn [.ref 0, .int p1] M Q := by
  refine mk_ct ok_KT_undoneIn (Nat.le_of_ble_eq_true rfl) (fun G F => ?_)
  rw [f_KT_undoneIn] at h
  show G 0 [some (.ref 0), some (.int p1), none] [] M
  refine x_aload_n F.1 (i := 0) rfl rfl ?_
  refine x_iload_n F.1 (i := 1) rfl rfl ?_
  refine x_if_lt F.1 (i := 2) (tgt := 11) rfl (by decide) (fun c => ?_) (fun c => ?_)
  · replace h := if_T c h
    refine x_iconst F.1 (i := 6) rfl ic_5 ?_
    refine x_goto F.1 (i := 7) (tgt := 16) rfl (by decide) ?_
    exact x_wk F.1 ((t_KT_undoneIn_l16 F (res := (r, M')) hQ) _ _ _ h) ⟨rfl, rfl, trivial⟩
  · replace h := if_F c h
    refine x_iload_n F.1 (i := 3) rfl rfl ?_
    refine x_bipush F.1 (i := 4) rfl bp_99 ?_
    refine x_icmp_le F.1 (i := 5) (tgt := 15) rfl (by decide) (fun c => ?_) (fun c => ?_)
    · replace h := if_T c h
      refine x_iconst F.1 (i := 8) rfl ic_0 ?_
      exact x_wk F.1 ((t_KT_undoneIn_l16 F (res := (r, M')) hQ) _ _ _ h) ⟨rfl, rfl, trivial⟩
    · replace h := if_F c h
      refine x_iconst F.1 (i := 6) rfl ic_5 ?_
      refine x_goto F.1 (i := 7) (tgt := 16) rfl (by decide) ?_
      exact x_wk F.1 ((t_KT_undoneIn_l16 F (res := (r, M')) hQ) _ _ _ h) ⟨rfl, rfl, trivial⟩
set_option maxHeartbeats 4000000 in
theorem t_KT_pulled {w : kx_W} {d : Nat} {M : kx_M} {Q : Option Value → kx_M → Prop} {p1 : Int32} {p2 : Int32} {r : Int32} {M' : kx_M} (h : f_KT_pulled p1 p2 M = some (r, M')) (hQ : Q (some (.int r)) M') : Ct w (d + 3) m_KT_pulled [.ref 0, .int p1, .int p2] M Q := by
  refine mk_ct ok_KT_pulled (Nat.le_of_ble_eq_true rfl) (fun G F => ?_)
  rw [f_KT_pulled] at h
  show G 0 [some (.ref 0), some (.int p1), some (.int p2)] [] M
  refine x_aload_n F.1 (i := 0) rfl rfl ?_
  refine x_aload_n F.1 (i := 1) rfl rfl ?_
  refine x_iload_n F.1 (i := 2) rfl rfl ?_
  refine x_iload_n F.1 (i := 3) rfl rfl ?_
  refine cal_e h (fun r1 M1 e2 h => ?_)
  refine x_cV2i F.1 (i := 4) rfl ml_KT_285 ok_KT_pullStatus rfl (Nat.le_of_ble_eq_true rfl) (Nat.le_of_ble_eq_true rfl) (fun _ => t_KT_pullStatus e2) ?_
  refine cal_e h (fun r3 M2 e4 h => ?_)
  refine x_cV1i F.1 (i := 5) rfl ml_KT_103 ok_KT_refused rfl (Nat.le_of_ble_eq_true rfl) (Nat.le_of_ble_eq_true rfl) (fun _ => t_KT_refused e4) ?_
  refine x_if_eq F.1 (i := 6) (tgt := 15) rfl (by decide) (fun c => ?_) (fun c => ?_)
  · replace h := if_T c h
    refine x_aload_n F.1 (i := 9) rfl rfl ?_
    refine cal_e h (fun r5 M3 e6 h => ?_)
    refine x_cV0a F.1 (i := 10) rfl ml_KT_344 ok_KT_tried rfl (Nat.le_of_ble_eq_true rfl) (Nat.le_of_ble_eq_true rfl) (fun _ => t_KT_tried e6) ?_
    refine gd_e h (fun g7 h => ?_)
    refine x_iload_n F.1 (i := 11) rfl rfl ?_
    refine x_iload_n F.1 (i := 12) rfl rfl ?_
    refine cal_e h (fun r8 M4 e9 h => ?_)
    refine x_cV2i F.1 (i := 13) rfl ml_KT_288 ok_Cloth_pullThread (lk_Cloth g7) (Nat.le_of_ble_eq_true rfl) (Nat.le_of_ble_eq_true rfl) (fun _ => t_Cloth_pullThread g7 e9) ?_
    exact x_iretf F (i := 14) rfl rfl h (res := (r, M')) hQ
  · replace h := if_F c h
    refine x_iconst F.1 (i := 7) rfl ic_n1 ?_
    exact x_iretf F (i := 8) rfl rfl h (res := (r, M')) hQ
set_option maxHeartbeats 4000000 in
theorem t_KT_worstPull_l51 {w : kx_W} {d : Nat} {Q : Option Value → kx_M → Prop} {G : Nat → List (Option Value) → List Value → kx_M → Prop} (F : Sd w (d + 3) m_KT_worstPull Q G) {k34 : Int32 → Int32 → Int32 → kx_M → Option (Int32 × kx_M)} {res : Int32 × kx_M} (hQ : Q (some (.int res.1)) res.2) (hk34 : ∀ (x1 : Int32) (x2 : Int32) (x3 : Int32) (M : kx_M), k34 x1 x2 x3 M = some res → G 34 [some (.ref 0), some (.int x1), some (.int x2), some (.int x3), none, none] [] M) :
    ∀ (n : Nat) (x1 : Int32) (x2 : Int32) (x3 : Int32) (x4 : Int32) (M : kx_M),
    f_KT_worstPull_l51 k34 n x1 x2 x3 x4 M = some res → G 51 [some (.ref 0), some (.int x1), some (.int x2), some (.int x3), some (.int x4), none] [] M := by
  intro n
  induction n with
  | zero =>
    intro x1 x2 x3 x4 M h
    exact absurd h (by rw [f_KT_worstPull_l51]; exact fun z => nomatch z)
  | succ n ih =>
    intro x1 x2 x3 x4 M h
    rw [f_KT_worstPull_l51] at h
    refine x_iload F.1 (i := 27) rfl rfl ?_
    refine x_iconst F.1 (i := 28) rfl ic_2 ?_
    refine x_icmp_ge F.1 (i := 29) (tgt := 92) rfl (by decide) (fun c => ?_) (fun c => ?_)
    · replace h := if_T c h
      refine x_iinc F.1 (i := 49) rfl rfl rfl (Nat.le_of_ble_eq_true rfl) rfl ?_
      replace h := bd_e h
      refine x_goto F.1 (i := 50) (tgt := 34) rfl (by decide) ?_
      exact x_wk F.1 (hk34 _ _ _ _ h) ⟨rfl, rfl, rfl, rfl, trivial⟩
    · replace h := if_F c h
      refine x_aload_n F.1 (i := 30) rfl rfl ?_
      refine cal_e h (fun r2 M1 e3 h => ?_)
      refine x_cV0a F.1 (i := 31) rfl ml_KT_344 ok_KT_tried rfl (Nat.le_of_ble_eq_true rfl) (Nat.le_of_ble_eq_true rfl) (fun _ => t_KT_tried e3) ?_
      refine gd_e h (fun g4 h => ?_)
      refine x_iload_n F.1 (i := 32) rfl rfl ?_
      refine x_iload F.1 (i := 33) rfl rfl ?_
      refine cal_e h (fun r5 M2 e6 h => ?_)
      refine x_cV2i F.1 (i := 34) rfl ml_KT_288 ok_Cloth_pullThread (lk_Cloth g4) (Nat.le_of_ble_eq_true rfl) (Nat.le_of_ble_eq_true rfl) (fun _ => t_Cloth_pullThread g4 e6) ?_
      refine x_istore F.1 (i := 35) rfl (Nat.le_of_ble_eq_true rfl) (Nat.le_of_ble_eq_true rfl) rfl ?_
      refine x_iload F.1 (i := 36) rfl rfl ?_
      refine x_iload_n F.1 (i := 37) rfl rfl ?_
      refine x_icmp_le F.1 (i := 38) (tgt := 86) rfl (by decide) (fun c => ?_) (fun c => ?_)
      · replace h := if_T c h
        refine x_iinc F.1 (i := 47) rfl rfl rfl (Nat.le_of_ble_eq_true rfl) rfl ?_
        replace h := bd_e h
        refine x_goto F.1 (i := 48) (tgt := 51) rfl (by decide) ?_
        exact x_wk F.1 (ih _ _ _ _ _ h) ⟨rfl, rfl, rfl, rfl, rfl, trivial⟩
      · replace h := if_F c h
        refine x_iload F.1 (i := 39) rfl rfl ?_
        refine x_istore_n F.1 (i := 40) rfl (Nat.le_of_ble_eq_true rfl) (Nat.le_of_ble_eq_true rfl) rfl ?_
        refine x_bipush F.1 (i := 41) rfl bp_10 ?_
        refine x_iload_n F.1 (i := 42) rfl rfl ?_
        refine x_imul F.1 (i := 43) rfl ?_
        refine x_iload F.1 (i := 44) rfl rfl ?_
        refine x_iadd F.1 (i := 45) rfl ?_
        refine x_istore_n F.1 (i := 46) rfl (Nat.le_of_ble_eq_true rfl) (Nat.le_of_ble_eq_true rfl) rfl ?_
        replace h := bd_e h
        refine x_iinc F.1 (i := 47) rfl rfl rfl (Nat.le_of_ble_eq_true rfl) rfl ?_
        replace h := bd_e h
        refine x_goto F.1 (i := 48) (tgt := 51) rfl (by decide) ?_
        exact x_wk F.1 (ih _ _ _ _ _ h) ⟨rfl, rfl, rfl, rfl, rfl, trivial⟩
set_option maxHeartbeats 4000000 in
theorem t_KT_worstPull_l34 {w : kx_W} {d : Nat} {Q : Option Value → kx_M → Prop} {G : Nat → List (Option Value) → List Value → kx_M → Prop} (F : Sd w (d + 3) m_KT_worstPull Q G) {res : Int32 × kx_M} (hQ : Q (some (.int res.1)) res.2) :
    ∀ (n : Nat) (x1 : Int32) (x2 : Int32) (x3 : Int32) (M : kx_M),
    f_KT_worstPull_l34 n x1 x2 x3 M = some res → G 34 [some (.ref 0), some (.int x1), some (.int x2), some (.int x3), none, none] [] M := by
  intro n
  induction n with
  | zero =>
    intro x1 x2 x3 M h
    exact absurd h (by rw [f_KT_worstPull_l34]; exact fun z => nomatch z)
  | succ n ih =>
    intro x1 x2 x3 M h
    rw [f_KT_worstPull_l34] at h
    refine x_iload_n F.1 (i := 19) rfl rfl ?_
    refine x_aload_n F.1 (i := 20) rfl rfl ?_
    refine x_getR F.1 (i := 21) rfl fl_KT_64 rfl (by rfl) rfl ?_
    refine gd_e h (fun g1 h => ?_)
    replace h := bd_e h
    refine x_getC F.1 (i := 22) rfl fl_KT_156 (lk_State g1) (by rfl) ?_
    refine x_getI F.1 (i := 23) rfl fl_KT_160 (lk_Cloth (lD_State_cloth g1)) (by rfl) ?_
    refine x_icmp_ge F.1 (i := 24) (tgt := 98) rfl (by decide) (fun c => ?_) (fun c => ?_)
    · replace h := if_T c h
      refine x_iload_n F.1 (i := 51) rfl rfl ?_
      exact x_iretf F (i := 52) rfl rfl h hQ
    · replace h := if_F c h
      refine x_iconst F.1 (i := 25) rfl ic_0 ?_
      refine x_istore F.1 (i := 26) rfl (Nat.le_of_ble_eq_true rfl) (Nat.le_of_ble_eq_true rfl) rfl ?_
      exact x_wk F.1 ((t_KT_worstPull_l51 F hQ ih FU) _ _ _ _ _ h) ⟨rfl, rfl, rfl, rfl, rfl, trivial⟩
set_option maxHeartbeats 4000000 in
theorem t_KT_worstPull_l20 {w : kx_W} {d : Nat} {Q : Option Value → kx_M → Prop} {G : Nat → List (Option Value) → List Value → kx_M → Prop} (F : Sd w (d + 3) m_KT_worstPull Q G) {res : Int32 × kx_M} (hQ : Q (some (.int res.1)) res.2) :
    ∀ (s0 : Nat) (s1 : Int32) (M : kx_M),
    f_KT_worstPull_l20 s0 s1 M = some res → G 20 [some (.ref 0), none, none, none, none, none] [.int s1, .ref 0] M := by
  intro s0 s1 M h
  rw [f_KT_worstPull_l20] at h
  refine cal_e h (fun r1 M1 e2 h => ?_)
  refine x_cV1i F.1 (i := 9) rfl ml_KT_103 ok_KT_refused rfl (Nat.le_of_ble_eq_true rfl) (Nat.le_of_ble_eq_true rfl) (fun _ => t_KT_refused e2) ?_
  refine x_if_eq F.1 (i := 10) (tgt := 28) rfl (by decide) (fun c => ?_) (fun c => ?_)
  · replace h := if_T c h
    refine x_iconst F.1 (i := 13) rfl ic_0 ?_
    refine x_istore_n F.1 (i := 14) rfl (Nat.le_of_ble_eq_true rfl) (Nat.le_of_ble_eq_true rfl) rfl ?_
    refine x_iconst F.1 (i := 15) rfl ic_n1 ?_
    refine x_istore_n F.1 (i := 16) rfl (Nat.le_of_ble_eq_true rfl) (Nat.le_of_ble_eq_true rfl) rfl ?_
    refine x_iconst F.1 (i := 17) rfl ic_0 ?_
    refine x_istore_n F.1 (i := 18) rfl (Nat.le_of_ble_eq_true rfl) (Nat.le_of_ble_eq_true rfl) rfl ?_
    exact x_wk F.1 ((t_KT_worstPull_l34 F hQ FU) _ _ _ _ h) ⟨rfl, rfl, rfl, rfl, trivial⟩
  · replace h := if_F c h
    refine x_iconst F.1 (i := 11) rfl ic_n1 ?_
    exact x_iretf F (i := 12) rfl rfl h hQ
set_option maxHeartbeats 4000000 in
theorem t_KT_worstPull {w : kx_W} {d : Nat} {M : kx_M} {Q : Option Value → kx_M → Prop} {r : Int32} {M' : kx_M} (h : f_KT_worstPull M = some (r, M')) (hQ : Q (some (.int r)) M') : Ct w (d + 3) m_KT_worstPull [.ref 0] M Q := by
  refine mk_ct ok_KT_worstPull (Nat.le_of_ble_eq_true rfl) (fun G F => ?_)
  rw [f_KT_worstPull] at h
  show G 0 [some (.ref 0), none, none, none, none, none] [] M
  refine x_aload_n F.1 (i := 0) rfl rfl ?_
  refine x_aload_n F.1 (i := 1) rfl rfl ?_
  refine x_getR F.1 (i := 2) rfl fl_KT_64 rfl (by rfl) rfl ?_
  refine gd_e h (fun g1 h => ?_)
  replace h := bd_e h
  refine x_getC F.1 (i := 3) rfl fl_KT_156 (lk_State g1) (by rfl) ?_
  refine x_getI F.1 (i := 4) rfl fl_KT_160 (lk_Cloth (lD_State_cloth g1)) (by rfl) ?_
  refine x_if_ne F.1 (i := 5) (tgt := 19) rfl (by decide) (fun c => ?_) (fun c => ?_)
  · replace h := if_F c h
    refine x_iconst F.1 (i := 8) rfl ic_0 ?_
    exact x_wk F.1 ((t_KT_worstPull_l20 F (res := (r, M')) hQ) _ _ _ h) ⟨rfl, trivial⟩
  · replace h := if_T c h
    refine x_bipush F.1 (i := 6) rfl bp_8 ?_
    refine x_goto F.1 (i := 7) (tgt := 20) rfl (by decide) ?_
    exact x_wk F.1 ((t_KT_worstPull_l20 F (res := (r, M')) hQ) _ _ _ h) ⟨rfl, trivial⟩
set_option maxHeartbeats 4000000 in
theorem t_KT_pulledOut {w : kx_W} {d : Nat} {M : kx_M} {Q : Option Value → kx_M → Prop} {p1 : Int32} {p2 : Int32} {r : Int32} {M' : kx_M} (h : f_KT_pulledOut p1 p2 M = some (r, M')) (hQ : Q (some (.int r)) M') : Ct w (d + 5) m_KT_pulledOut [.ref 0, .int p1, .int p2] M Q := by
  refine mk_ct ok_KT_pulledOut (Nat.le_of_ble_eq_true rfl) (fun G F => ?_)
  rw [f_KT_pulledOut] at h
  show G 0 [some (.ref 0), some (.int p1), some (.int p2), none, none] [] M
  refine x_aload_n F.1 (i := 0) rfl rfl ?_
  refine x_aload_n F.1 (i := 1) rfl rfl ?_
  refine x_iload_n F.1 (i := 2) rfl rfl ?_
  refine x_iload_n F.1 (i := 3) rfl rfl ?_
  refine cal_e h (fun r1 M1 e2 h => ?_)
  refine x_cV2i F.1 (i := 4) rfl ml_KT_285 ok_KT_pullStatus rfl (Nat.le_of_ble_eq_true rfl) (Nat.le_of_ble_eq_true rfl) (fun _ => t_KT_pullStatus e2) ?_
  refine cal_e h (fun r3 M2 e4 h => ?_)
  refine x_cV1i F.1 (i := 5) rfl ml_KT_103 ok_KT_refused rfl (Nat.le_of_ble_eq_true rfl) (Nat.le_of_ble_eq_true rfl) (fun _ => t_KT_refused e4) ?_
  refine x_if_eq F.1 (i := 6) (tgt := 15) rfl (by decide) (fun c => ?_) (fun c => ?_)
  · replace h := if_T c h
    refine x_aload_n F.1 (i := 9) rfl rfl ?_
    refine cal_e h (fun r5 M3 e6 h => ?_)
    refine x_cV0a F.1 (i := 10) rfl ml_KT_344 ok_KT_tried rfl (Nat.le_of_ble_eq_true rfl) (Nat.le_of_ble_eq_true rfl) (fun _ => t_KT_tried e6) ?_
    refine gd_e h (fun g7 h => ?_)
    refine x_astore_n F.1 (i := 11) rfl (Nat.le_of_ble_eq_true rfl) (Nat.le_of_ble_eq_true rfl) rfl ?_
    refine x_aload_n F.1 (i := 12) rfl rfl ?_
    refine x_aload_n F.1 (i := 13) rfl rfl ?_
    refine x_getR F.1 (i := 14) rfl fl_KT_64 rfl (by rfl) rfl ?_
    refine gd_e h (fun g8 h => ?_)
    replace h := bd_e h
    refine x_getC F.1 (i := 15) rfl fl_KT_192 (lk_State g8) (by rfl) ?_
    refine cal_e h (fun r10 M4 e11 h => ?_)
    refine x_cV1i F.1 (i := 16) rfl ml_KT_221 ok_Cloth_saidSet (lk_Cloth g7) (Nat.le_of_ble_eq_true rfl) (Nat.le_of_ble_eq_true rfl) (fun _ => t_Cloth_saidSet g7 (lD_State_deal g8) e11) ?_
    refine x_istore F.1 (i := 17) rfl (Nat.le_of_ble_eq_true rfl) (Nat.le_of_ble_eq_true rfl) rfl ?_
    refine x_aload_n F.1 (i := 18) rfl rfl ?_
    refine x_iload_n F.1 (i := 19) rfl rfl ?_
    refine x_iload_n F.1 (i := 20) rfl rfl ?_
    refine cal_e h (fun r12 M5 e13 h => ?_)
    refine x_cV2i F.1 (i := 21) rfl ml_KT_288 ok_Cloth_pullThread (lk_Cloth g7) (Nat.le_of_ble_eq_true rfl) (Nat.le_of_ble_eq_true rfl) (fun _ => t_Cloth_pullThread g7 e13) ?_
    refine x_pop F.1 (i := 22) rfl rfl ?_
    refine x_iload F.1 (i := 23) rfl rfl ?_
    refine x_aload_n F.1 (i := 24) rfl rfl ?_
    refine x_aload_n F.1 (i := 25) rfl rfl ?_
    refine x_getR F.1 (i := 26) rfl fl_KT_64 rfl (by rfl) rfl ?_
    refine gd_e h (fun g14 h => ?_)
    replace h := bd_e h
    refine x_getC F.1 (i := 27) rfl fl_KT_192 (lk_State g14) (by rfl) ?_
    refine cal_e h (fun r16 M6 e17 h => ?_)
    refine x_cV1i F.1 (i := 28) rfl ml_KT_221 ok_Cloth_saidSet (lk_Cloth g7) (Nat.le_of_ble_eq_true rfl) (Nat.le_of_ble_eq_true rfl) (fun _ => t_Cloth_saidSet g7 (lD_State_deal g14) e17) ?_
    refine x_iconst F.1 (i := 29) rfl ic_n1 ?_
    refine x_ixor F.1 (i := 30) rfl ?_
    refine x_iand F.1 (i := 31) rfl ?_
    exact x_iretf F (i := 32) rfl rfl h (res := (r, M')) hQ
  · replace h := if_F c h
    refine x_iconst F.1 (i := 7) rfl ic_n1 ?_
    exact x_iretf F (i := 8) rfl rfl h (res := (r, M')) hQ
set_option maxHeartbeats 4000000 in
theorem t_Int_bitCount {w : kx_W} {d : Nat} {M : kx_M} {Q : Option Value → kx_M → Prop} {p0 : Int32} {r : Int32} {M' : kx_M} (h : f_Int_bitCount p0 M = some (r, M')) (hQ : Q (some (.int r)) M') : Ct w d m_Int_bitCount [.int p0] M Q := by
  refine mk_ct ok_Int_bitCount (Nat.le_of_ble_eq_true rfl) (fun G F => ?_)
  rw [f_Int_bitCount] at h
  show G 0 [some (.int p0)] [] M
  refine x_iload_n F.1 (i := 0) rfl rfl ?_
  refine x_iload_n F.1 (i := 1) rfl rfl ?_
  refine x_iconst F.1 (i := 2) rfl ic_1 ?_
  refine x_iushr F.1 (i := 3) rfl ?_
  refine x_ldc_w F.1 (i := 4) rfl cn_Int_265 ?_
  refine x_iand F.1 (i := 5) rfl ?_
  refine x_isub F.1 (i := 6) rfl ?_
  refine x_istore_n F.1 (i := 7) rfl (Nat.le_of_ble_eq_true rfl) (Nat.le_of_ble_eq_true rfl) rfl ?_
  replace h := bd_e h
  refine x_iload_n F.1 (i := 8) rfl rfl ?_
  refine x_ldc_w F.1 (i := 9) rfl cn_Int_266 ?_
  refine x_iand F.1 (i := 10) rfl ?_
  refine x_iload_n F.1 (i := 11) rfl rfl ?_
  refine x_iconst F.1 (i := 12) rfl ic_2 ?_
  refine x_iushr F.1 (i := 13) rfl ?_
  refine x_ldc_w F.1 (i := 14) rfl cn_Int_266 ?_
  refine x_iand F.1 (i := 15) rfl ?_
  refine x_iadd F.1 (i := 16) rfl ?_
  refine x_istore_n F.1 (i := 17) rfl (Nat.le_of_ble_eq_true rfl) (Nat.le_of_ble_eq_true rfl) rfl ?_
  replace h := bd_e h
  refine x_iload_n F.1 (i := 18) rfl rfl ?_
  refine x_iload_n F.1 (i := 19) rfl rfl ?_
  refine x_iconst F.1 (i := 20) rfl ic_4 ?_
  refine x_iushr F.1 (i := 21) rfl ?_
  refine x_iadd F.1 (i := 22) rfl ?_
  refine x_ldc_w F.1 (i := 23) rfl cn_Int_267 ?_
  refine x_iand F.1 (i := 24) rfl ?_
  refine x_istore_n F.1 (i := 25) rfl (Nat.le_of_ble_eq_true rfl) (Nat.le_of_ble_eq_true rfl) rfl ?_
  replace h := bd_e h
  refine x_iload_n F.1 (i := 26) rfl rfl ?_
  refine x_iload_n F.1 (i := 27) rfl rfl ?_
  refine x_bipush F.1 (i := 28) rfl bp_8 ?_
  refine x_iushr F.1 (i := 29) rfl ?_
  refine x_iadd F.1 (i := 30) rfl ?_
  refine x_istore_n F.1 (i := 31) rfl (Nat.le_of_ble_eq_true rfl) (Nat.le_of_ble_eq_true rfl) rfl ?_
  replace h := bd_e h
  refine x_iload_n F.1 (i := 32) rfl rfl ?_
  refine x_iload_n F.1 (i := 33) rfl rfl ?_
  refine x_bipush F.1 (i := 34) rfl bp_16 ?_
  refine x_iushr F.1 (i := 35) rfl ?_
  refine x_iadd F.1 (i := 36) rfl ?_
  refine x_istore_n F.1 (i := 37) rfl (Nat.le_of_ble_eq_true rfl) (Nat.le_of_ble_eq_true rfl) rfl ?_
  replace h := bd_e h
  refine x_iload_n F.1 (i := 38) rfl rfl ?_
  refine x_bipush F.1 (i := 39) rfl bp_63 ?_
  refine x_iand F.1 (i := 40) rfl ?_
  exact x_iretf F (i := 41) rfl rfl h (res := (r, M')) hQ
set_option maxHeartbeats 4000000 in
theorem t_KT_inSet {w : kx_W} {d : Nat} {M : kx_M} {Q : Option Value → kx_M → Prop} {p0 : Int32} {p1 : Int32} {r : Int32} {M' : kx_M} (h : f_KT_inSet p0 p1 M = some (r, M')) (hQ : Q (some (.int r)) M') : Ct w d m_KT_inSet [.int p0, .int p1] M Q := by
  refine mk_ct ok_KT_inSet (Nat.le_of_ble_eq_true rfl) (fun G F => ?_)
  rw [f_KT_inSet] at h
  show G 0 [some (.int p0), some (.int p1)] [] M
  refine x_iload_n F.1 (i := 0) rfl rfl ?_
  refine x_iload_n F.1 (i := 1) rfl rfl ?_
  refine x_ishr F.1 (i := 2) rfl ?_
  refine x_iconst F.1 (i := 3) rfl ic_1 ?_
  refine x_iand F.1 (i := 4) rfl ?_
  refine x_iconst F.1 (i := 5) rfl ic_1 ?_
  refine x_icmp_ne F.1 (i := 6) (tgt := 13) rfl (by decide) (fun c => ?_) (fun c => ?_)
  · replace h := if_F c h
    refine x_iconst F.1 (i := 9) rfl ic_0 ?_
    exact x_zretf F (i := 10) rfl rfl (Or.inl rfl) h (res := (r, M')) hQ
  · replace h := if_T c h
    refine x_iconst F.1 (i := 7) rfl ic_1 ?_
    refine x_goto F.1 (i := 8) (tgt := 14) rfl (by decide) ?_
    exact x_zretf F (i := 10) rfl rfl (Or.inr rfl) h (res := (r, M')) hQ
set_option maxHeartbeats 4000000 in
theorem t_KT_staysBy_l9 {w : kx_W} {d : Nat} {Q : Option Value → kx_M → Prop} {G : Nat → List (Option Value) → List Value → kx_M → Prop} (F : Sd w (d + 3) m_KT_staysBy Q G) {p1 : Int32} {p2 : Int32} {p3 : Int32} {p4 : Int32} {res : Int32 × kx_M} (hQ : Q (some (.int res.1)) res.2) :
    ∀ (n : Nat) (x5 : Nat) (x6 : Int32) (hx5 : isCloth x5 = true) (M : kx_M),
    f_KT_staysBy_l9 p1 p2 p3 p4 n x5 x6 M = some res → G 9 [some (.ref 0), some (.int p1), some (.int p2), some (.int p3), some (.int p4), some (.ref x5), some (.int x6)] [] M := by
  intro n
  induction n with
  | zero =>
    intro x5 x6 hx5 M h
    exact absurd h (by rw [f_KT_staysBy_l9]; exact fun z => nomatch z)
  | succ n ih =>
    intro x5 x6 hx5 M h
    rw [f_KT_staysBy_l9] at h
    refine x_iload F.1 (i := 5) rfl rfl ?_
    refine x_aload F.1 (i := 6) rfl rfl ?_
    refine x_getI F.1 (i := 7) rfl fl_KT_186 (lk_Cloth hx5) (by rfl) ?_
    refine x_icmp_ge F.1 (i := 8) (tgt := 43) rfl (by decide) (fun c => ?_) (fun c => ?_)
    · replace h := if_T c h
      refine x_aload F.1 (i := 20) rfl rfl ?_
      refine x_iload_n F.1 (i := 21) rfl rfl ?_
      refine x_iload F.1 (i := 22) rfl rfl ?_
      refine cal_e h (fun r1 M1 e2 h => ?_)
      refine x_cV2i F.1 (i := 23) rfl ml_KT_288 ok_Cloth_pullThread (lk_Cloth hx5) (Nat.le_of_ble_eq_true rfl) (Nat.le_of_ble_eq_true rfl) (fun _ => t_Cloth_pullThread hx5 e2) ?_
      refine x_pop F.1 (i := 24) rfl rfl ?_
      refine x_aload F.1 (i := 25) rfl rfl ?_
      refine x_aload_n F.1 (i := 26) rfl rfl ?_
      refine x_getR F.1 (i := 27) rfl fl_KT_64 rfl (by rfl) rfl ?_
      refine gd_e h (fun g3 h => ?_)
      replace h := bd_e h
      refine x_getC F.1 (i := 28) rfl fl_KT_192 (lk_State g3) (by rfl) ?_
      refine x_iload_n F.1 (i := 29) rfl rfl ?_
      refine x_iload_n F.1 (i := 30) rfl rfl ?_
      refine cal_e h (fun r5 M2 e6 h => ?_)
      refine x_cV3i F.1 (i := 31) rfl ml_KT_326 ok_Cloth_timesIn (lk_Cloth hx5) (Nat.le_of_ble_eq_true rfl) (Nat.le_of_ble_eq_true rfl) (fun _ => t_Cloth_timesIn hx5 (lD_State_deal g3) e6) ?_
      refine x_if_le F.1 (i := 32) (tgt := 73) rfl (by decide) (fun c => ?_) (fun c => ?_)
      · replace h := if_T c h
        refine x_iconst F.1 (i := 35) rfl ic_0 ?_
        exact x_zretf F (i := 36) rfl rfl (Or.inl rfl) h hQ
      · replace h := if_F c h
        refine x_iconst F.1 (i := 33) rfl ic_1 ?_
        refine x_goto F.1 (i := 34) (tgt := 74) rfl (by decide) ?_
        exact x_zretf F (i := 36) rfl rfl (Or.inr rfl) h hQ
    · replace h := if_F c h
      refine x_iload_n F.1 (i := 9) rfl rfl ?_
      refine x_iload F.1 (i := 10) rfl rfl ?_
      refine cal_e h (fun r7 M3 e8 h => ?_)
      refine x_cS2i F.1 (i := 11) rfl ml_KT_338 ok_KT_inSet (Nat.le_of_ble_eq_true rfl) (Nat.le_of_ble_eq_true rfl) (fun _ => t_KT_inSet e8) ?_
      refine x_if_eq F.1 (i := 12) (tgt := 37) rfl (by decide) (fun c => ?_) (fun c => ?_)
      · replace h := if_T c h
        refine x_iinc F.1 (i := 18) rfl rfl rfl (Nat.le_of_ble_eq_true rfl) rfl ?_
        replace h := bd_e h
        refine x_goto F.1 (i := 19) (tgt := 9) rfl (by decide) ?_
        exact x_wk F.1 (ih _ _ hx5 _ h) ⟨rfl, rfl, rfl, rfl, rfl, rfl, rfl, trivial⟩
      · replace h := if_F c h
        refine x_aload F.1 (i := 13) rfl rfl ?_
        refine x_iload_n F.1 (i := 14) rfl rfl ?_
        refine x_iload F.1 (i := 15) rfl rfl ?_
        refine cal_e h (fun r10 M4 e11 h => ?_)
        refine x_cV2i F.1 (i := 16) rfl ml_KT_297 ok_Cloth_patch (lk_Cloth hx5) (Nat.le_of_ble_eq_true rfl) (Nat.le_of_ble_eq_true rfl) (fun _ => t_Cloth_patch hx5 e11) ?_
        refine x_pop F.1 (i := 17) rfl rfl ?_
        refine x_iinc F.1 (i := 18) rfl rfl rfl (Nat.le_of_ble_eq_true rfl) rfl ?_
        replace h := bd_e h
        refine x_goto F.1 (i := 19) (tgt := 9) rfl (by decide) ?_
        exact x_wk F.1 (ih _ _ hx5 _ h) ⟨rfl, rfl, rfl, rfl, rfl, rfl, rfl, trivial⟩
set_option maxHeartbeats 4000000 in
theorem t_KT_staysBy {w : kx_W} {d : Nat} {M : kx_M} {Q : Option Value → kx_M → Prop} {p1 : Int32} {p2 : Int32} {p3 : Int32} {p4 : Int32} {r : Int32} {M' : kx_M} (h : f_KT_staysBy p1 p2 p3 p4 M = some (r, M')) (hQ : Q (some (.int r)) M') : Ct w (d + 3) m_KT_staysBy [.ref 0, .int p1, .int p2, .int p3, .int p4] M Q := by
  refine mk_ct ok_KT_staysBy (Nat.le_of_ble_eq_true rfl) (fun G F => ?_)
  rw [f_KT_staysBy] at h
  show G 0 [some (.ref 0), some (.int p1), some (.int p2), some (.int p3), some (.int p4), none, none] [] M
  refine x_aload_n F.1 (i := 0) rfl rfl ?_
  refine cal_e h (fun r1 M1 e2 h => ?_)
  refine x_cV0a F.1 (i := 1) rfl ml_KT_344 ok_KT_tried rfl (Nat.le_of_ble_eq_true rfl) (Nat.le_of_ble_eq_true rfl) (fun _ => t_KT_tried e2) ?_
  refine gd_e h (fun g3 h => ?_)
  refine x_astore F.1 (i := 2) rfl (Nat.le_of_ble_eq_true rfl) (Nat.le_of_ble_eq_true rfl) rfl ?_
  refine x_iconst F.1 (i := 3) rfl ic_0 ?_
  refine x_istore F.1 (i := 4) rfl (Nat.le_of_ble_eq_true rfl) (Nat.le_of_ble_eq_true rfl) rfl ?_
  exact x_wk F.1 ((t_KT_staysBy_l9 F (res := (r, M')) hQ FU) _ _ g3 _ h) ⟨rfl, rfl, rfl, rfl, rfl, rfl, rfl, trivial⟩
set_option maxHeartbeats 4000000 in
theorem t_KT_mendingSet_l37 {w : kx_W} {d : Nat} {Q : Option Value → kx_M → Prop} {G : Nat → List (Option Value) → List Value → kx_M → Prop} (F : Sd w (d + 4) m_KT_mendingSet Q G) {p1 : Int32} {p2 : Int32} {p3 : Int32} {res : Int32 × kx_M} (hQ : Q (some (.int res.1)) res.2) :
    ∀ (n : Nat) (x4 : Int32) (x5 : Int32) (x6 : Int32) (M : kx_M),
    f_KT_mendingSet_l37 p1 p2 p3 n x4 x5 x6 M = some res → G 37 [some (.ref 0), some (.int p1), some (.int p2), some (.int p3), some (.int x4), some (.int x5), some (.int x6), none] [] M := by
  intro n
  induction n with
  | zero =>
    intro x4 x5 x6 M h
    exact absurd h (by rw [f_KT_mendingSet_l37]; exact fun z => nomatch z)
  | succ n ih =>
    intro x4 x5 x6 M h
    rw [f_KT_mendingSet_l37] at h
    refine x_iload F.1 (i := 21) rfl rfl ?_
    refine x_iconst F.1 (i := 22) rfl ic_1 ?_
    refine x_aload_n F.1 (i := 23) rfl rfl ?_
    refine x_getR F.1 (i := 24) rfl fl_KT_64 rfl (by rfl) rfl ?_
    refine gd_e h (fun g1 h => ?_)
    replace h := bd_e h
    refine x_getC F.1 (i := 25) rfl fl_KT_156 (lk_State g1) (by rfl) ?_
    refine x_getI F.1 (i := 26) rfl fl_KT_186 (lk_Cloth (lD_State_cloth g1)) (by rfl) ?_
    refine x_ishl F.1 (i := 27) rfl ?_
    refine x_icmp_ge F.1 (i := 28) (tgt := 94) rfl (by decide) (fun c => ?_) (fun c => ?_)
    · replace h := if_T c h
      refine x_aload_n F.1 (i := 48) rfl rfl ?_
      refine x_iload F.1 (i := 49) rfl rfl ?_
      refine x_iconst F.1 (i := 50) rfl ic_n1 ?_
      refine x_icmp_ne F.1 (i := 51) (tgt := 106) rfl (by decide) (fun c => ?_) (fun c => ?_)
      · replace h := if_F c h
        refine x_iconst F.1 (i := 54) rfl ic_0 ?_
        refine x_putI F.1 (i := 55) rfl fl_KT_78 pf_KT_latest rfl (by rfl) ?_
        replace h := bd_e h
        refine x_iload F.1 (i := 56) rfl rfl ?_
        exact x_iretf F (i := 57) rfl rfl h hQ
      · replace h := if_T c h
        refine x_bipush F.1 (i := 52) rfl bp_8 ?_
        refine x_goto F.1 (i := 53) (tgt := 107) rfl (by decide) ?_
        refine x_putI F.1 (i := 55) rfl fl_KT_78 pf_KT_latest rfl (by rfl) ?_
        replace h := bd_e h
        refine x_iload F.1 (i := 56) rfl rfl ?_
        exact x_iretf F (i := 57) rfl rfl h hQ
    · replace h := if_F c h
      refine x_iload F.1 (i := 29) rfl rfl ?_
      refine cal_e h (fun r3 M3 e4 h => ?_)
      refine x_cS1i F.1 (i := 30) rfl ml_KT_362 ok_Int_bitCount (Nat.le_of_ble_eq_true rfl) (Nat.le_of_ble_eq_true rfl) (fun _ => t_Int_bitCount e4) ?_
      refine x_istore F.1 (i := 31) rfl (Nat.le_of_ble_eq_true rfl) (Nat.le_of_ble_eq_true rfl) rfl ?_
      refine x_iload F.1 (i := 32) rfl rfl ?_
      refine x_iload F.1 (i := 33) rfl rfl ?_
      refine x_icmp_ge F.1 (i := 34) (tgt := 88) rfl (by decide) (fun c => ?_) (fun c => ?_)
      · replace h := if_T c h
        refine x_iinc F.1 (i := 46) rfl rfl rfl (Nat.le_of_ble_eq_true rfl) rfl ?_
        replace h := bd_e h
        refine x_goto F.1 (i := 47) (tgt := 37) rfl (by decide) ?_
        exact x_wk F.1 (ih _ _ _ _ h) ⟨rfl, rfl, rfl, rfl, rfl, rfl, rfl, trivial⟩
      · replace h := if_F c h
        refine x_aload_n F.1 (i := 35) rfl rfl ?_
        refine x_iload F.1 (i := 36) rfl rfl ?_
        refine x_iload_n F.1 (i := 37) rfl rfl ?_
        refine x_iload_n F.1 (i := 38) rfl rfl ?_
        refine x_iload_n F.1 (i := 39) rfl rfl ?_
        refine cal_e h (fun r6 M4 e7 h => ?_)
        refine x_cV4i F.1 (i := 40) rfl ml_KT_367 ok_KT_staysBy rfl (Nat.le_of_ble_eq_true rfl) (Nat.le_of_ble_eq_true rfl) (fun _ => t_KT_staysBy e7) ?_
        refine x_if_eq F.1 (i := 41) (tgt := 88) rfl (by decide) (fun c => ?_) (fun c => ?_)
        · replace h := if_T c h
          refine x_iinc F.1 (i := 46) rfl rfl rfl (Nat.le_of_ble_eq_true rfl) rfl ?_
          replace h := bd_e h
          refine x_goto F.1 (i := 47) (tgt := 37) rfl (by decide) ?_
          exact x_wk F.1 (ih _ _ _ _ h) ⟨rfl, rfl, rfl, rfl, rfl, rfl, rfl, trivial⟩
        · replace h := if_F c h
          refine x_iload F.1 (i := 42) rfl rfl ?_
          refine x_istore F.1 (i := 43) rfl (Nat.le_of_ble_eq_true rfl) (Nat.le_of_ble_eq_true rfl) rfl ?_
          refine x_iload F.1 (i := 44) rfl rfl ?_
          refine x_istore F.1 (i := 45) rfl (Nat.le_of_ble_eq_true rfl) (Nat.le_of_ble_eq_true rfl) rfl ?_
          refine x_iinc F.1 (i := 46) rfl rfl rfl (Nat.le_of_ble_eq_true rfl) rfl ?_
          replace h := bd_e h
          refine x_goto F.1 (i := 47) (tgt := 37) rfl (by decide) ?_
          exact x_wk F.1 (ih _ _ _ _ h) ⟨rfl, rfl, rfl, rfl, rfl, rfl, rfl, trivial⟩
set_option maxHeartbeats 4000000 in
theorem t_KT_mendingSet_l19 {w : kx_W} {d : Nat} {Q : Option Value → kx_M → Prop} {G : Nat → List (Option Value) → List Value → kx_M → Prop} (F : Sd w (d + 4) m_KT_mendingSet Q G) {p1 : Int32} {p2 : Int32} {p3 : Int32} {res : Int32 × kx_M} (hQ : Q (some (.int res.1)) res.2) :
    ∀ (s0 : Nat) (s1 : Int32) (M : kx_M),
    f_KT_mendingSet_l19 p1 p2 p3 s0 s1 M = some res → G 19 [some (.ref 0), some (.int p1), some (.int p2), some (.int p3), none, none, none, none] [.int s1, .ref 0] M := by
  intro s0 s1 M h
  rw [f_KT_mendingSet_l19] at h
  refine cal_e h (fun r1 M1 e2 h => ?_)
  refine x_cV1i F.1 (i := 11) rfl ml_KT_103 ok_KT_refused rfl (Nat.le_of_ble_eq_true rfl) (Nat.le_of_ble_eq_true rfl) (fun _ => t_KT_refused e2) ?_
  refine x_if_eq F.1 (i := 12) (tgt := 27) rfl (by decide) (fun c => ?_) (fun c => ?_)
  · replace h := if_T c h
    refine x_iconst F.1 (i := 15) rfl ic_n1 ?_
    refine x_istore F.1 (i := 16) rfl (Nat.le_of_ble_eq_true rfl) (Nat.le_of_ble_eq_true rfl) rfl ?_
    refine x_bipush F.1 (i := 17) rfl bp_9 ?_
    refine x_istore F.1 (i := 18) rfl (Nat.le_of_ble_eq_true rfl) (Nat.le_of_ble_eq_true rfl) rfl ?_
    refine x_iconst F.1 (i := 19) rfl ic_0 ?_
    refine x_istore F.1 (i := 20) rfl (Nat.le_of_ble_eq_true rfl) (Nat.le_of_ble_eq_true rfl) rfl ?_
    exact x_wk F.1 ((t_KT_mendingSet_l37 F hQ FU) _ _ _ _ h) ⟨rfl, rfl, rfl, rfl, rfl, rfl, rfl, trivial⟩
  · replace h := if_F c h
    refine x_iconst F.1 (i := 13) rfl ic_n1 ?_
    exact x_iretf F (i := 14) rfl rfl h hQ
set_option maxHeartbeats 4000000 in
theorem t_KT_mendingSet {w : kx_W} {d : Nat} {M : kx_M} {Q : Option Value → kx_M → Prop} {p1 : Int32} {p2 : Int32} {p3 : Int32} {r : Int32} {M' : kx_M} (h : f_KT_mendingSet p1 p2 p3 M = some (r, M')) (hQ : Q (some (.int r)) M') : Ct w (d + 4) m_KT_mendingSet [.ref 0, .int p1, .int p2, .int p3] M Q := by
  refine mk_ct ok_KT_mendingSet (Nat.le_of_ble_eq_true rfl) (fun G F => ?_)
  rw [f_KT_mendingSet] at h
  show G 0 [some (.ref 0), some (.int p1), some (.int p2), some (.int p3), none, none, none, none] [] M
  refine x_aload_n F.1 (i := 0) rfl rfl ?_
  refine x_aload_n F.1 (i := 1) rfl rfl ?_
  refine x_iload_n F.1 (i := 2) rfl rfl ?_
  refine cal_e h (fun r1 M1 e2 h => ?_)
  refine x_cV1i F.1 (i := 3) rfl ml_KT_249 ok_KT_noClause rfl (Nat.le_of_ble_eq_true rfl) (Nat.le_of_ble_eq_true rfl) (fun _ => t_KT_noClause e2) ?_
  refine x_if_eq F.1 (i := 4) (tgt := 13) rfl (by decide) (fun c => ?_) (fun c => ?_)
  · replace h := if_T c h
    refine x_aload_n F.1 (i := 7) rfl rfl ?_
    refine x_iload_n F.1 (i := 8) rfl rfl ?_
    refine x_iload_n F.1 (i := 9) rfl rfl ?_
    refine cal_e h (fun r3 M2 e4 h => ?_)
    refine x_cV2i F.1 (i := 10) rfl ml_KT_285 ok_KT_pullStatus rfl (Nat.le_of_ble_eq_true rfl) (Nat.le_of_ble_eq_true rfl) (fun _ => t_KT_pullStatus e4) ?_
    exact x_wk F.1 ((t_KT_mendingSet_l19 F (res := (r, M')) hQ) _ _ _ h) ⟨rfl, rfl, rfl, rfl, trivial⟩
  · replace h := if_F c h
    refine x_iconst F.1 (i := 5) rfl ic_2 ?_
    refine x_goto F.1 (i := 6) (tgt := 19) rfl (by decide) ?_
    exact x_wk F.1 ((t_KT_mendingSet_l19 F (res := (r, M')) hQ) _ _ _ h) ⟨rfl, rfl, rfl, rfl, trivial⟩
set_option maxHeartbeats 4000000 in
theorem t_KT_mend {w : kx_W} {d : Nat} {M : kx_M} {Q : Option Value → kx_M → Prop} {p1 : Int32} {p2 : Int32} {p3 : Int32} {r : Int32} {M' : kx_M} (h : f_KT_mend p1 p2 p3 M = some (r, M')) (hQ : Q (some (.int r)) M') : Ct w (d + 5) m_KT_mend [.ref 0, .int p1, .int p2, .int p3] M Q := by
  refine mk_ct ok_KT_mend (Nat.le_of_ble_eq_true rfl) (fun G F => ?_)
  rw [f_KT_mend] at h
  show G 0 [some (.ref 0), some (.int p1), some (.int p2), some (.int p3), none] [] M
  refine x_aload_n F.1 (i := 0) rfl rfl ?_
  refine x_iload_n F.1 (i := 1) rfl rfl ?_
  refine x_iload_n F.1 (i := 2) rfl rfl ?_
  refine x_iload_n F.1 (i := 3) rfl rfl ?_
  refine cal_e h (fun r1 M1 e2 h => ?_)
  refine x_cV3i F.1 (i := 4) rfl ml_KT_359 ok_KT_mendingSet rfl (Nat.le_of_ble_eq_true rfl) (Nat.le_of_ble_eq_true rfl) (fun _ => t_KT_mendingSet e2) ?_
  refine x_istore F.1 (i := 5) rfl (Nat.le_of_ble_eq_true rfl) (Nat.le_of_ble_eq_true rfl) rfl ?_
  refine x_aload_n F.1 (i := 6) rfl rfl ?_
  refine x_getI F.1 (i := 7) rfl fl_KT_78 rfl (by rfl) ?_
  refine x_if_ne F.1 (i := 8) (tgt := 24) rfl (by decide) (fun c => ?_) (fun c => ?_)
  · replace h := if_F c h
    refine x_iconst F.1 (i := 12) rfl ic_n1 ?_
    exact x_iretf F (i := 13) rfl rfl h (res := (r, M')) hQ
  · replace h := if_T c h
    refine x_iload F.1 (i := 9) rfl rfl ?_
    refine cal_e h (fun r3 M2 e4 h => ?_)
    refine x_cS1i F.1 (i := 10) rfl ml_KT_362 ok_Int_bitCount (Nat.le_of_ble_eq_true rfl) (Nat.le_of_ble_eq_true rfl) (fun _ => t_Int_bitCount e4) ?_
    refine x_goto F.1 (i := 11) (tgt := 25) rfl (by decide) ?_
    exact x_iretf F (i := 13) rfl rfl h (res := (r, M')) hQ
set_option maxHeartbeats 4000000 in
theorem t_KT_mendSet {w : kx_W} {d : Nat} {M : kx_M} {Q : Option Value → kx_M → Prop} {p1 : Int32} {p2 : Int32} {p3 : Int32} {r : Int32} {M' : kx_M} (h : f_KT_mendSet p1 p2 p3 M = some (r, M')) (hQ : Q (some (.int r)) M') : Ct w (d + 5) m_KT_mendSet [.ref 0, .int p1, .int p2, .int p3] M Q := by
  refine mk_ct ok_KT_mendSet (Nat.le_of_ble_eq_true rfl) (fun G F => ?_)
  rw [f_KT_mendSet] at h
  show G 0 [some (.ref 0), some (.int p1), some (.int p2), some (.int p3)] [] M
  refine x_aload_n F.1 (i := 0) rfl rfl ?_
  refine x_iload_n F.1 (i := 1) rfl rfl ?_
  refine x_iload_n F.1 (i := 2) rfl rfl ?_
  refine x_iload_n F.1 (i := 3) rfl rfl ?_
  refine cal_e h (fun r1 M1 e2 h => ?_)
  refine x_cV3i F.1 (i := 4) rfl ml_KT_359 ok_KT_mendingSet rfl (Nat.le_of_ble_eq_true rfl) (Nat.le_of_ble_eq_true rfl) (fun _ => t_KT_mendingSet e2) ?_
  exact x_iretf F (i := 5) rfl rfl h (res := (r, M')) hQ
set_option maxHeartbeats 4000000 in
theorem t_KT_noSet {w : kx_W} {d : Nat} {M : kx_M} {Q : Option Value → kx_M → Prop} {p1 : Int32} {r : Int32} {M' : kx_M} (h : f_KT_noSet p1 M = some (r, M')) (hQ : Q (some (.int r)) M') : Ct w d m_KT_noSet [.ref 0, .int p1] M Q := by
  refine mk_ct ok_KT_noSet (Nat.le_of_ble_eq_true rfl) (fun G F => ?_)
  rw [f_KT_noSet] at h
  show G 0 [some (.ref 0), some (.int p1)] [] M
  refine x_iload_n F.1 (i := 0) rfl rfl ?_
  refine x_if_lt F.1 (i := 1) (tgt := 20) rfl (by decide) (fun c => ?_) (fun c => ?_)
  · replace h := if_T c h
    refine x_iconst F.1 (i := 10) rfl ic_1 ?_
    refine x_goto F.1 (i := 11) (tgt := 25) rfl (by decide) ?_
    exact x_zretf F (i := 13) rfl rfl (Or.inr rfl) h (res := (r, M')) hQ
  · replace h := if_F c h
    refine x_iload_n F.1 (i := 2) rfl rfl ?_
    refine x_iconst F.1 (i := 3) rfl ic_1 ?_
    refine x_aload_n F.1 (i := 4) rfl rfl ?_
    refine x_getR F.1 (i := 5) rfl fl_KT_64 rfl (by rfl) rfl ?_
    refine gd_e h (fun g1 h => ?_)
    replace h := bd_e h
    refine x_getC F.1 (i := 6) rfl fl_KT_192 (lk_State g1) (by rfl) ?_
    refine x_getI F.1 (i := 7) rfl fl_KT_201 (lk_Deal (lD_State_deal g1)) (by rfl) ?_
    refine x_ishl F.1 (i := 8) rfl ?_
    refine x_icmp_lt F.1 (i := 9) (tgt := 24) rfl (by decide) (fun c => ?_) (fun c => ?_)
    · replace h := if_T c h
      refine x_iconst F.1 (i := 12) rfl ic_0 ?_
      exact x_zretf F (i := 13) rfl rfl (Or.inl rfl) h (res := (r, M')) hQ
    · replace h := if_F c h
      refine x_iconst F.1 (i := 10) rfl ic_1 ?_
      refine x_goto F.1 (i := 11) (tgt := 25) rfl (by decide) ?_
      exact x_zretf F (i := 13) rfl rfl (Or.inr rfl) h (res := (r, M')) hQ
set_option maxHeartbeats 4000000 in
theorem t_Deal_runOf_l5 {w : kx_W} {d : Nat} {Q : Option Value → kx_M → Prop} {G : Nat → List (Option Value) → List Value → kx_M → Prop} (F : Sd w d m_Deal_runOf Q G) {p0 : Nat} {p1 : Int32} (hp0 : isDeal p0 = true) {res : Int64 × kx_M} (hQ : Q (some (.long res.1)) res.2) :
    ∀ (n : Nat) (x2 : Int64) (x4 : Int32) (M : kx_M),
    f_Deal_runOf_l5 p0 p1 n x2 x4 M = some res → G 5 [some (.ref p0), some (.int p1), some (.long x2), none, some (.int x4)] [] M := by
  intro n
  induction n with
  | zero =>
    intro x2 x4 M h
    exact absurd h (by rw [f_Deal_runOf_l5]; exact fun z => nomatch z)
  | succ n ih =>
    intro x2 x4 M h
    rw [f_Deal_runOf_l5] at h
    refine x_iload F.1 (i := 4) rfl rfl ?_
    refine x_aload_n F.1 (i := 5) rfl rfl ?_
    refine x_getC F.1 (i := 6) rfl fl_Deal_22 (lk_Deal hp0) (by rfl) ?_
    refine x_iload_n F.1 (i := 7) rfl rfl ?_
    refine gd_e h (fun g1 h => ?_)
    refine x_iald F.1 (i := 8) rfl (lk_Deal_lengths hp0) (inb_e g1) ?_
    refine x_icmp_ge F.1 (i := 9) (tgt := 39) rfl (by decide) (fun c => ?_) (fun c => ?_)
    · replace h := if_T c h
      refine x_lload_n F.1 (i := 26) rfl rfl ?_
      exact x_lretf F (i := 27) rfl rfl h hQ
    · replace h := if_F c h
      refine x_lload_n F.1 (i := 10) rfl rfl ?_
      refine x_iconst F.1 (i := 11) rfl ic_2 ?_
      refine x_lshl F.1 (i := 12) rfl ?_
      refine x_aload_n F.1 (i := 13) rfl rfl ?_
      refine x_getC F.1 (i := 14) rfl fl_Deal_25 (lk_Deal hp0) (by rfl) ?_
      refine x_iload_n F.1 (i := 15) rfl rfl ?_
      refine x_iconst F.1 (i := 16) rfl ic_5 ?_
      refine x_imul F.1 (i := 17) rfl ?_
      refine x_iload F.1 (i := 18) rfl rfl ?_
      refine x_iadd F.1 (i := 19) rfl ?_
      refine gd_e h (fun g2 h => ?_)
      refine x_iald F.1 (i := 20) rfl (lk_Deal_kinds hp0) (inb_e g2) ?_
      refine x_i2l F.1 (i := 21) rfl ?_
      refine x_lor F.1 (i := 22) rfl ?_
      refine x_lstore_n F.1 (i := 23) rfl (Nat.le_of_ble_eq_true rfl) (Nat.le_of_ble_eq_true rfl) rfl ?_
      replace h := bd_e h
      refine x_iinc F.1 (i := 24) rfl rfl rfl (Nat.le_of_ble_eq_true rfl) rfl ?_
      replace h := bd_e h
      refine x_goto F.1 (i := 25) (tgt := 5) rfl (by decide) ?_
      exact x_wk F.1 (ih _ _ _ h) ⟨rfl, rfl, rfl, rfl, trivial⟩
set_option maxHeartbeats 4000000 in
theorem t_Deal_runOf {w : kx_W} {d : Nat} {M : kx_M} {Q : Option Value → kx_M → Prop} {p0 : Nat} {p1 : Int32} {r : Int64} {M' : kx_M} (hp0 : isDeal p0 = true) (h : f_Deal_runOf p0 p1 M = some (r, M')) (hQ : Q (some (.long r)) M') : Ct w d m_Deal_runOf [.ref p0, .int p1] M Q := by
  refine mk_ct ok_Deal_runOf (Nat.le_of_ble_eq_true rfl) (fun G F => ?_)
  rw [f_Deal_runOf] at h
  show G 0 [some (.ref p0), some (.int p1), none, none, none] [] M
  refine x_lconst F.1 (i := 0) (v := 0) rfl rfl ?_
  refine x_lstore_n F.1 (i := 1) rfl (Nat.le_of_ble_eq_true rfl) (Nat.le_of_ble_eq_true rfl) rfl ?_
  refine x_iconst F.1 (i := 2) rfl ic_0 ?_
  refine x_istore F.1 (i := 3) rfl (Nat.le_of_ble_eq_true rfl) (Nat.le_of_ble_eq_true rfl) rfl ?_
  exact x_wk F.1 ((t_Deal_runOf_l5 F hp0 (res := (r, M')) hQ FU) _ _ _ h) ⟨rfl, rfl, rfl, rfl, trivial⟩
set_option maxHeartbeats 4000000 in
theorem t_Joiner_lowest {w : kx_W} {d : Nat} {M : kx_M} {Q : Option Value → kx_M → Prop} {p0 : Int32} {r : Int64} {M' : kx_M} (h : f_Joiner_lowest p0 M = some (r, M')) (hQ : Q (some (.long r)) M') : Ct w d m_Joiner_lowest [.int p0] M Q := by
  refine mk_ct ok_Joiner_lowest (Nat.le_of_ble_eq_true rfl) (fun G F => ?_)
  rw [f_Joiner_lowest] at h
  show G 0 [some (.int p0)] [] M
  refine x_lconst F.1 (i := 0) (v := 1) rfl rfl ?_
  refine x_iconst F.1 (i := 1) rfl ic_2 ?_
  refine x_iload_n F.1 (i := 2) rfl rfl ?_
  refine x_imul F.1 (i := 3) rfl ?_
  refine x_lshl F.1 (i := 4) rfl ?_
  refine x_lconst F.1 (i := 5) (v := 1) rfl rfl ?_
  refine x_lsub F.1 (i := 6) rfl ?_
  exact x_lretf F (i := 7) rfl rfl h (res := (r, M')) hQ
set_option maxHeartbeats 4000000 in
theorem t_Joiner_standsInOther_l80 {w : kx_W} {d : Nat} {Q : Option Value → kx_M → Prop} {G : Nat → List (Option Value) → List Value → kx_M → Prop} (F : Sd w (d + 1) m_Joiner_standsInOther Q G) {p0 : Nat} {p1 : Int32} {p2 : Int32} (hp0 : isDeal p0 = true) {k17 : Int32 → Int64 → Int32 → kx_M → Option (Int32 × kx_M)} {res : Int32 × kx_M} (hQ : Q (some (.int res.1)) res.2) (hk17 : ∀ (x3 : Int32) (x4 : Int64) (x6 : Int32) (M : kx_M), k17 x3 x4 x6 M = some res → G 17 [some (.ref p0), some (.int p1), some (.int p2), some (.int x3), some (.long x4), none, some (.int x6), none, none, none, none, none] [] M) :
    ∀ (n : Nat) (x3 : Int32) (x4 : Int64) (x6 : Int32) (x7 : Int32) (x8 : Int32) (x9 : Int64) (x11 : Int32) (M : kx_M),
    f_Joiner_standsInOther_l80 p0 p1 p2 k17 n x3 x4 x6 x7 x8 x9 x11 M = some res → G 80 [some (.ref p0), some (.int p1), some (.int p2), some (.int x3), some (.long x4), none, some (.int x6), some (.int x7), some (.int x8), some (.long x9), none, some (.int x11)] [] M := by
  intro n
  induction n with
  | zero =>
    intro x3 x4 x6 x7 x8 x9 x11 M h
    exact absurd h (by rw [f_Joiner_standsInOther_l80]; exact fun z => nomatch z)
  | succ n ih =>
    intro x3 x4 x6 x7 x8 x9 x11 M h
    rw [f_Joiner_standsInOther_l80] at h
    refine x_iload F.1 (i := 43) rfl rfl ?_
    refine x_if_eq F.1 (i := 44) (tgt := 118) rfl (by decide) (fun c => ?_) (fun c => ?_)
    · replace h := if_T c h
      refine x_iinc F.1 (i := 63) rfl rfl rfl (Nat.le_of_ble_eq_true rfl) rfl ?_
      replace h := bd_e h
      refine x_goto F.1 (i := 64) (tgt := 17) rfl (by decide) ?_
      exact x_wk F.1 (hk17 _ _ _ _ h) ⟨rfl, rfl, rfl, rfl, rfl, rfl, trivial⟩
    · replace h := if_F c h
      refine x_iload F.1 (i := 45) rfl rfl ?_
      refine x_iload F.1 (i := 46) rfl rfl ?_
      refine x_icmp_gt F.1 (i := 47) (tgt := 118) rfl (by decide) (fun c => ?_) (fun c => ?_)
      · replace h := if_T c h
        refine x_iinc F.1 (i := 63) rfl rfl rfl (Nat.le_of_ble_eq_true rfl) rfl ?_
        replace h := bd_e h
        refine x_goto F.1 (i := 64) (tgt := 17) rfl (by decide) ?_
        exact x_wk F.1 (hk17 _ _ _ _ h) ⟨rfl, rfl, rfl, rfl, rfl, rfl, trivial⟩
      · replace h := if_F c h
        refine x_lload F.1 (i := 48) rfl rfl ?_
        refine x_iconst F.1 (i := 49) rfl ic_2 ?_
        refine x_iload F.1 (i := 50) rfl rfl ?_
        refine x_imul F.1 (i := 51) rfl ?_
        refine x_lshr F.1 (i := 52) rfl ?_
        refine x_iload_n F.1 (i := 53) rfl rfl ?_
        refine cal_e h (fun r3 M1 e4 h => ?_)
        refine x_cS1l F.1 (i := 54) rfl ml_Joiner_75 ok_Joiner_lowest (Nat.le_of_ble_eq_true rfl) (Nat.le_of_ble_eq_true rfl) (fun _ => t_Joiner_lowest e4) ?_
        refine x_land F.1 (i := 55) rfl ?_
        refine x_lload F.1 (i := 56) rfl rfl ?_
        refine x_lcmp F.1 (i := 57) rfl ?_
        refine x_if_ne F.1 (i := 58) (tgt := 112) rfl (by decide) (fun c => ?_) (fun c => ?_)
        · replace h := if_F c h
          refine x_iinc F.1 (i := 61) rfl rfl rfl (Nat.le_of_ble_eq_true rfl) rfl ?_
          replace h := bd_e h
          refine x_goto F.1 (i := 62) (tgt := 80) rfl (by decide) ?_
          exact x_wk F.1 (ih _ _ _ _ _ _ _ _ h) ⟨rfl, rfl, rfl, rfl, rfl, rfl, rfl, rfl, rfl, rfl, trivial⟩
        · replace h := if_T c h
          refine x_iconst F.1 (i := 59) rfl ic_1 ?_
          exact x_zretf F (i := 60) rfl rfl (Or.inr rfl) h hQ
set_option maxHeartbeats 4000000 in
theorem t_Joiner_standsInOther_l66 {w : kx_W} {d : Nat} {Q : Option Value → kx_M → Prop} {G : Nat → List (Option Value) → List Value → kx_M → Prop} (F : Sd w (d + 1) m_Joiner_standsInOther Q G) {p0 : Nat} {p1 : Int32} {p2 : Int32} (hp0 : isDeal p0 = true) {k80 : Int32 → Int64 → Int32 → Int32 → Int32 → Int64 → Int32 → kx_M → Option (Int32 × kx_M)} {res : Int32 × kx_M} (hQ : Q (some (.int res.1)) res.2) (hk80 : ∀ (x3 : Int32) (x4 : Int64) (x6 : Int32) (x7 : Int32) (x8 : Int32) (x9 : Int64) (x11 : Int32) (M : kx_M), k80 x3 x4 x6 x7 x8 x9 x11 M = some res → G 80 [some (.ref p0), some (.int p1), some (.int p2), some (.int x3), some (.long x4), none, some (.int x6), some (.int x7), some (.int x8), some (.long x9), none, some (.int x11)] [] M) :
    ∀ (x3 : Int32) (x4 : Int64) (x6 : Int32) (x7 : Int32) (M : kx_M),
    f_Joiner_standsInOther_l66 p0 p1 p2 k80 x3 x4 x6 x7 M = some res → G 66 [some (.ref p0), some (.int p1), some (.int p2), some (.int x3), some (.long x4), none, some (.int x6), some (.int x7), none, none, none, none] [] M := by
  intro x3 x4 x6 x7 M h
  rw [f_Joiner_standsInOther_l66] at h
  refine x_iconst F.1 (i := 35) rfl ic_0 ?_
  refine x_istore F.1 (i := 36) rfl (Nat.le_of_ble_eq_true rfl) (Nat.le_of_ble_eq_true rfl) rfl ?_
  refine x_aload_n F.1 (i := 37) rfl rfl ?_
  refine x_iload F.1 (i := 38) rfl rfl ?_
  refine cal_e h (fun r1 M1 e2 h => ?_)
  refine x_cV1l F.1 (i := 39) rfl ml_Joiner_71 ok_Deal_runOf (lk_Deal hp0) (Nat.le_of_ble_eq_true rfl) (Nat.le_of_ble_eq_true rfl) (fun _ => t_Deal_runOf hp0 e2) ?_
  refine x_lstore F.1 (i := 40) rfl (Nat.le_of_ble_eq_true rfl) (Nat.le_of_ble_eq_true rfl) rfl ?_
  refine x_iconst F.1 (i := 41) rfl ic_0 ?_
  refine x_istore F.1 (i := 42) rfl (Nat.le_of_ble_eq_true rfl) (Nat.le_of_ble_eq_true rfl) rfl ?_
  exact x_wk F.1 (hk80 _ _ _ _ _ _ _ _ h) ⟨rfl, rfl, rfl, rfl, rfl, rfl, rfl, rfl, rfl, rfl, trivial⟩
set_option maxHeartbeats 4000000 in
theorem t_Joiner_standsInOther_l62 {w : kx_W} {d : Nat} {Q : Option Value → kx_M → Prop} {G : Nat → List (Option Value) → List Value → kx_M → Prop} (F : Sd w (d + 1) m_Joiner_standsInOther Q G) {p0 : Nat} {p1 : Int32} {p2 : Int32} (hp0 : isDeal p0 = true) {k80 : Int32 → Int64 → Int32 → Int32 → Int32 → Int64 → Int32 → kx_M → Option (Int32 × kx_M)} {res : Int32 × kx_M} (hQ : Q (some (.int res.1)) res.2) (hk80 : ∀ (x3 : Int32) (x4 : Int64) (x6 : Int32) (x7 : Int32) (x8 : Int32) (x9 : Int64) (x11 : Int32) (M : kx_M), k80 x3 x4 x6 x7 x8 x9 x11 M = some res → G 80 [some (.ref p0), some (.int p1), some (.int p2), some (.int x3), some (.long x4), none, some (.int x6), some (.int x7), some (.int x8), some (.long x9), none, some (.int x11)] [] M) :
    ∀ (x3 : Int32) (x4 : Int64) (x6 : Int32) (x7 : Int32) (M : kx_M),
    f_Joiner_standsInOther_l62 p0 p1 p2 k80 x3 x4 x6 x7 M = some res → G 62 [some (.ref p0), some (.int p1), some (.int p2), some (.int x3), some (.long x4), none, some (.int x6), some (.int x7), none, none, none, none] [] M := by
  intro x3 x4 x6 x7 M h
  rw [f_Joiner_standsInOther_l62] at h
  refine x_iconst F.1 (i := 33) rfl ic_1 ?_
  refine x_goto F.1 (i := 34) (tgt := 67) rfl (by decide) ?_
  refine x_istore F.1 (i := 36) rfl (Nat.le_of_ble_eq_true rfl) (Nat.le_of_ble_eq_true rfl) rfl ?_
  refine x_aload_n F.1 (i := 37) rfl rfl ?_
  refine x_iload F.1 (i := 38) rfl rfl ?_
  refine cal_e h (fun r1 M1 e2 h => ?_)
  refine x_cV1l F.1 (i := 39) rfl ml_Joiner_71 ok_Deal_runOf (lk_Deal hp0) (Nat.le_of_ble_eq_true rfl) (Nat.le_of_ble_eq_true rfl) (fun _ => t_Deal_runOf hp0 e2) ?_
  refine x_lstore F.1 (i := 40) rfl (Nat.le_of_ble_eq_true rfl) (Nat.le_of_ble_eq_true rfl) rfl ?_
  refine x_iconst F.1 (i := 41) rfl ic_0 ?_
  refine x_istore F.1 (i := 42) rfl (Nat.le_of_ble_eq_true rfl) (Nat.le_of_ble_eq_true rfl) rfl ?_
  exact x_wk F.1 (hk80 _ _ _ _ _ _ _ _ h) ⟨rfl, rfl, rfl, rfl, rfl, rfl, rfl, rfl, rfl, rfl, trivial⟩
set_option maxHeartbeats 4000000 in
theorem t_Joiner_standsInOther_l17 {w : kx_W} {d : Nat} {Q : Option Value → kx_M → Prop} {G : Nat → List (Option Value) → List Value → kx_M → Prop} (F : Sd w (d + 1) m_Joiner_standsInOther Q G) {p0 : Nat} {p1 : Int32} {p2 : Int32} (hp0 : isDeal p0 = true) {res : Int32 × kx_M} (hQ : Q (some (.int res.1)) res.2) :
    ∀ (n : Nat) (x3 : Int32) (x4 : Int64) (x6 : Int32) (M : kx_M),
    f_Joiner_standsInOther_l17 p0 p1 p2 n x3 x4 x6 M = some res → G 17 [some (.ref p0), some (.int p1), some (.int p2), some (.int x3), some (.long x4), none, some (.int x6), none, none, none, none, none] [] M := by
  intro n
  induction n with
  | zero =>
    intro x3 x4 x6 M h
    exact absurd h (by rw [f_Joiner_standsInOther_l17]; exact fun z => nomatch z)
  | succ n ih =>
    intro x3 x4 x6 M h
    rw [f_Joiner_standsInOther_l17] at h
    refine x_iload F.1 (i := 11) rfl rfl ?_
    refine x_aload_n F.1 (i := 12) rfl rfl ?_
    refine x_getI F.1 (i := 13) rfl fl_Joiner_57 (lk_Deal hp0) (by rfl) ?_
    refine x_icmp_ge F.1 (i := 14) (tgt := 124) rfl (by decide) (fun c => ?_) (fun c => ?_)
    · replace h := if_T c h
      refine x_iconst F.1 (i := 65) rfl ic_0 ?_
      exact x_zretf F (i := 66) rfl rfl (Or.inl rfl) h hQ
    · replace h := if_F c h
      refine x_aload_n F.1 (i := 15) rfl rfl ?_
      refine x_getC F.1 (i := 16) rfl fl_Joiner_70 (lk_Deal hp0) (by rfl) ?_
      refine x_iload F.1 (i := 17) rfl rfl ?_
      refine gd_e h (fun g1 h => ?_)
      refine x_iald F.1 (i := 18) rfl (lk_Deal_lengths hp0) (inb_e g1) ?_
      refine x_iload_n F.1 (i := 19) rfl rfl ?_
      refine x_isub F.1 (i := 20) rfl ?_
      refine x_istore F.1 (i := 21) rfl (Nat.le_of_ble_eq_true rfl) (Nat.le_of_ble_eq_true rfl) rfl ?_
      replace h := bd_e h
      refine x_iload_n F.1 (i := 22) rfl rfl ?_
      refine x_iload F.1 (i := 23) rfl rfl ?_
      refine cal_e h (fun r3 M1 e4 h => ?_)
      refine x_cN2i F.1 (i := 24) rfl ml_Joiner_62 ok_KT_inSet (Nat.le_of_ble_eq_true rfl) (Nat.le_of_ble_eq_true rfl) (fun _ => t_KT_inSet e4) ?_
      refine x_if_eq F.1 (i := 25) (tgt := 66) rfl (by decide) (fun c => ?_) (fun c => ?_)
      · replace h := if_T c h
        exact x_wk F.1 ((t_Joiner_standsInOther_l66 F hp0 hQ (t_Joiner_standsInOther_l80 F hp0 hQ ih FU)) _ _ _ _ _ h) ⟨rfl, rfl, rfl, rfl, rfl, rfl, rfl, trivial⟩
      · replace h := if_F c h
        refine x_iload F.1 (i := 26) rfl rfl ?_
        refine x_if_gt F.1 (i := 27) (tgt := 62) rfl (by decide) (fun c => ?_) (fun c => ?_)
        · replace h := if_T c h
          exact x_wk F.1 ((t_Joiner_standsInOther_l62 F hp0 hQ (t_Joiner_standsInOther_l80 F hp0 hQ ih FU)) _ _ _ _ _ h) ⟨rfl, rfl, rfl, rfl, rfl, rfl, rfl, trivial⟩
        · replace h := if_F c h
          refine x_iload F.1 (i := 28) rfl rfl ?_
          refine x_if_ne F.1 (i := 29) (tgt := 66) rfl (by decide) (fun c => ?_) (fun c => ?_)
          · replace h := if_F c h
            exact x_wk F.1 ((t_Joiner_standsInOther_l66 F hp0 hQ (t_Joiner_standsInOther_l80 F hp0 hQ ih FU)) _ _ _ _ _ h) ⟨rfl, rfl, rfl, rfl, rfl, rfl, rfl, trivial⟩
          · replace h := if_T c h
            refine x_iload F.1 (i := 30) rfl rfl ?_
            refine x_iload_n F.1 (i := 31) rfl rfl ?_
            refine x_icmp_ge F.1 (i := 32) (tgt := 66) rfl (by decide) (fun c => ?_) (fun c => ?_)
            · replace h := if_T c h
              exact x_wk F.1 ((t_Joiner_standsInOther_l66 F hp0 hQ (t_Joiner_standsInOther_l80 F hp0 hQ ih FU)) _ _ _ _ _ h) ⟨rfl, rfl, rfl, rfl, rfl, rfl, rfl, trivial⟩
            · replace h := if_F c h
              exact x_wk F.1 ((t_Joiner_standsInOther_l62 F hp0 hQ (t_Joiner_standsInOther_l80 F hp0 hQ ih FU)) _ _ _ _ _ h) ⟨rfl, rfl, rfl, rfl, rfl, rfl, rfl, trivial⟩
set_option maxHeartbeats 4000000 in
theorem t_Joiner_standsInOther {w : kx_W} {d : Nat} {M : kx_M} {Q : Option Value → kx_M → Prop} {p0 : Nat} {p1 : Int32} {p2 : Int32} {r : Int32} {M' : kx_M} (hp0 : isDeal p0 = true) (h : f_Joiner_standsInOther p0 p1 p2 M = some (r, M')) (hQ : Q (some (.int r)) M') : Ct w (d + 1) m_Joiner_standsInOther [.ref p0, .int p1, .int p2] M Q := by
  refine mk_ct ok_Joiner_standsInOther (Nat.le_of_ble_eq_true rfl) (fun G F => ?_)
  rw [f_Joiner_standsInOther] at h
  show G 0 [some (.ref p0), some (.int p1), some (.int p2), none, none, none, none, none, none, none, none, none] [] M
  refine x_aload_n F.1 (i := 0) rfl rfl ?_
  refine x_getC F.1 (i := 1) rfl fl_Joiner_70 (lk_Deal hp0) (by rfl) ?_
  refine x_iload_n F.1 (i := 2) rfl rfl ?_
  refine gd_e h (fun g1 h => ?_)
  refine x_iald F.1 (i := 3) rfl (lk_Deal_lengths hp0) (inb_e g1) ?_
  refine x_istore_n F.1 (i := 4) rfl (Nat.le_of_ble_eq_true rfl) (Nat.le_of_ble_eq_true rfl) rfl ?_
  replace h := bd_e h
  refine x_aload_n F.1 (i := 5) rfl rfl ?_
  refine x_iload_n F.1 (i := 6) rfl rfl ?_
  refine cal_e h (fun r3 M1 e4 h => ?_)
  refine x_cV1l F.1 (i := 7) rfl ml_Joiner_71 ok_Deal_runOf (lk_Deal hp0) (Nat.le_of_ble_eq_true rfl) (Nat.le_of_ble_eq_true rfl) (fun _ => t_Deal_runOf hp0 e4) ?_
  refine x_lstore F.1 (i := 8) rfl (Nat.le_of_ble_eq_true rfl) (Nat.le_of_ble_eq_true rfl) rfl ?_
  refine x_iconst F.1 (i := 9) rfl ic_0 ?_
  refine x_istore F.1 (i := 10) rfl (Nat.le_of_ble_eq_true rfl) (Nat.le_of_ble_eq_true rfl) rfl ?_
  exact x_wk F.1 ((t_Joiner_standsInOther_l17 F hp0 (res := (r, M')) hQ FU) _ _ _ _ h) ⟨rfl, rfl, rfl, rfl, rfl, rfl, trivial⟩
set_option maxHeartbeats 4000000 in
theorem t_Joiner_gather_l7 {w : kx_W} {d : Nat} {Q : Option Value → kx_M → Prop} {G : Nat → List (Option Value) → List Value → kx_M → Prop} (F : Sd w (d + 2) m_Joiner_gather Q G) {p1 : Nat} {p2 : Int32} (hp1 : isDeal p1 = true) {res : Unit × kx_M} (hQ : Q none res.2) :
    ∀ (n : Nat) (x3 : Int32) (M : kx_M),
    f_Joiner_gather_l7 p1 p2 n x3 M = some res → G 7 [some (.ref 18), some (.ref p1), some (.int p2), some (.int x3)] [] M := by
  intro n
  induction n with
  | zero =>
    intro x3 M h
    exact absurd h (by rw [f_Joiner_gather_l7]; exact fun z => nomatch z)
  | succ n ih =>
    intro x3 M h
    rw [f_Joiner_gather_l7] at h
    refine x_iload_n F.1 (i := 5) rfl rfl ?_
    refine x_aload_n F.1 (i := 6) rfl rfl ?_
    refine x_getI F.1 (i := 7) rfl fl_Joiner_57 (lk_Deal hp1) (by rfl) ?_
    refine x_icmp_ge F.1 (i := 8) (tgt := 77) rfl (by decide) (fun c => ?_) (fun c => ?_)
    · replace h := if_T c h
      exact x_vretf F (i := 43) rfl rfl h hQ
    · replace h := if_F c h
      refine x_iload_n F.1 (i := 9) rfl rfl ?_
      refine x_iload_n F.1 (i := 10) rfl rfl ?_
      refine cal_e h (fun r1 M1 e2 h => ?_)
      refine x_cN2i F.1 (i := 11) rfl ml_Joiner_62 ok_KT_inSet (Nat.le_of_ble_eq_true rfl) (Nat.le_of_ble_eq_true rfl) (fun _ => t_KT_inSet e2) ?_
      refine x_if_eq F.1 (i := 12) (tgt := 71) rfl (by decide) (fun c => ?_) (fun c => ?_)
      · replace h := if_T c h
        refine x_iinc F.1 (i := 41) rfl rfl rfl (Nat.le_of_ble_eq_true rfl) rfl ?_
        replace h := bd_e h
        refine x_goto F.1 (i := 42) (tgt := 7) rfl (by decide) ?_
        exact x_wk F.1 (ih _ _ h) ⟨rfl, rfl, rfl, rfl, trivial⟩
      · replace h := if_F c h
        refine x_aload_n F.1 (i := 13) rfl rfl ?_
        refine x_iload_n F.1 (i := 14) rfl rfl ?_
        refine x_iload_n F.1 (i := 15) rfl rfl ?_
        refine cal_e h (fun r4 M2 e5 h => ?_)
        refine x_cS3i F.1 (i := 16) rfl ml_Joiner_66 ok_Joiner_standsInOther (Nat.le_of_ble_eq_true rfl) (Nat.le_of_ble_eq_true rfl) (fun _ => t_Joiner_standsInOther hp1 e5) ?_
        refine x_if_ne F.1 (i := 17) (tgt := 71) rfl (by decide) (fun c => ?_) (fun c => ?_)
        · replace h := if_F c h
          refine x_iinc F.1 (i := 41) rfl rfl rfl (Nat.le_of_ble_eq_true rfl) rfl ?_
          replace h := bd_e h
          refine x_goto F.1 (i := 42) (tgt := 7) rfl (by decide) ?_
          exact x_wk F.1 (ih _ _ h) ⟨rfl, rfl, rfl, rfl, trivial⟩
        · replace h := if_T c h
          refine x_aload_n F.1 (i := 18) rfl rfl ?_
          refine x_getC F.1 (i := 19) rfl fl_Joiner_9 rfl (by rfl) ?_
          refine x_aload_n F.1 (i := 20) rfl rfl ?_
          refine x_getI F.1 (i := 21) rfl fl_Joiner_25 rfl (by rfl) ?_
          refine x_aload_n F.1 (i := 22) rfl rfl ?_
          refine x_getC F.1 (i := 23) rfl fl_Joiner_70 (lk_Deal hp1) (by rfl) ?_
          refine x_iload_n F.1 (i := 24) rfl rfl ?_
          refine gd_e h (fun g6 h => ?_)
          refine x_iald F.1 (i := 25) rfl (lk_Deal_lengths hp1) (inb_e g6) ?_
          refine gd_e h (fun g7 h => ?_)
          refine x_iast F.1 (i := 26) rfl rfl (inb_e g7) ?_
          replace h := bd_e h
          refine x_aload_n F.1 (i := 27) rfl rfl ?_
          refine x_getC F.1 (i := 28) rfl fl_Joiner_15 rfl (by rfl) ?_
          refine x_aload_n F.1 (i := 29) rfl rfl ?_
          refine x_getI F.1 (i := 30) rfl fl_Joiner_25 rfl (by rfl) ?_
          refine x_aload_n F.1 (i := 31) rfl rfl ?_
          refine x_iload_n F.1 (i := 32) rfl rfl ?_
          refine cal_e h (fun r8 M4 e9 h => ?_)
          refine x_cV1l F.1 (i := 33) rfl ml_Joiner_71 ok_Deal_runOf (lk_Deal hp1) (Nat.le_of_ble_eq_true rfl) (Nat.le_of_ble_eq_true rfl) (fun _ => t_Deal_runOf hp1 e9) ?_
          refine gd_e h (fun g10 h => ?_)
          refine x_last F.1 (i := 34) rfl rfl (inb_e g10) ?_
          replace h := bd_e h
          refine x_aload_n F.1 (i := 35) rfl rfl ?_
          refine x_dup F.1 (i := 36) rfl rfl ?_
          refine x_getI F.1 (i := 37) rfl fl_Joiner_25 rfl (by rfl) ?_
          refine x_iconst F.1 (i := 38) rfl ic_1 ?_
          refine x_iadd F.1 (i := 39) rfl ?_
          refine x_putI F.1 (i := 40) rfl fl_Joiner_25 pf_Joiner_count rfl (by rfl) ?_
          replace h := bd_e h
          refine x_iinc F.1 (i := 41) rfl rfl rfl (Nat.le_of_ble_eq_true rfl) rfl ?_
          replace h := bd_e h
          refine x_goto F.1 (i := 42) (tgt := 7) rfl (by decide) ?_
          exact x_wk F.1 (ih _ _ h) ⟨rfl, rfl, rfl, rfl, trivial⟩
set_option maxHeartbeats 4000000 in
theorem t_Joiner_gather {w : kx_W} {d : Nat} {M : kx_M} {Q : Option Value → kx_M → Prop} {p1 : Nat} {p2 : Int32} {r : Unit} {M' : kx_M} (hp1 : isDeal p1 = true) (h : f_Joiner_gather p1 p2 M = some (r, M')) (hQ : Q none M') : Ct w (d + 2) m_Joiner_gather [.ref 18, .ref p1, .int p2] M Q := by
  refine mk_ct ok_Joiner_gather (Nat.le_of_ble_eq_true rfl) (fun G F => ?_)
  rw [f_Joiner_gather] at h
  show G 0 [some (.ref 18), some (.ref p1), some (.int p2), none] [] M
  refine x_aload_n F.1 (i := 0) rfl rfl ?_
  refine x_iconst F.1 (i := 1) rfl ic_0 ?_
  refine x_putI F.1 (i := 2) rfl fl_Joiner_25 pf_Joiner_count rfl (by rfl) ?_
  replace h := bd_e h
  refine x_iconst F.1 (i := 3) rfl ic_0 ?_
  refine x_istore_n F.1 (i := 4) rfl (Nat.le_of_ble_eq_true rfl) (Nat.le_of_ble_eq_true rfl) rfl ?_
  exact x_wk F.1 ((t_Joiner_gather_l7 F hp1 (res := (r, M')) hQ FU) _ _ h) ⟨rfl, rfl, rfl, rfl, trivial⟩
set_option maxHeartbeats 4000000 in
theorem t_Arr_fill_2_l5 {w : kx_W} {d : Nat} {Q : Option Value → kx_M → Prop} {G : Nat → List (Option Value) → List Value → kx_M → Prop} (F : Sd w d m_Arr_fill_2 Q G) {p0 : Nat} {p1 : Int32} {res : Unit × kx_M} (hQ : Q none res.2) :
    ∀ (n : Nat) (x2 : Int32) (x3 : Int32) (M : kx_M),
    f_Arr_fill_2_l5 p0 p1 n x2 x3 M = some res → G 5 [some (.ref p0), some (.int p1), some (.int x2), some (.int x3)] [] M := by
  intro n
  induction n with
  | zero =>
    intro x2 x3 M h
    exact absurd h (by rw [f_Arr_fill_2_l5]; exact fun z => nomatch z)
  | succ n ih =>
    intro x2 x3 M h
    rw [f_Arr_fill_2_l5] at h
    refine x_iload_n F.1 (i := 5) rfl rfl ?_
    refine x_iload_n F.1 (i := 6) rfl rfl ?_
    refine x_icmp_ge F.1 (i := 7) (tgt := 20) rfl (by decide) (fun c => ?_) (fun c => ?_)
    · replace h := if_T c h
      exact x_vretf F (i := 14) rfl rfl h hQ
    · replace h := if_F c h
      refine x_aload_n F.1 (i := 8) rfl rfl ?_
      refine x_iload_n F.1 (i := 9) rfl rfl ?_
      refine x_iload_n F.1 (i := 10) rfl rfl ?_
      refine gd_e h (fun g1 h => ?_)
      obtain ⟨ng1, kg1, lg1, ig1⟩ := aIb_e g1
      refine x_iast F.1 (i := 11) rfl lg1 ig1 ?_
      replace h := bd_e h
      refine x_iinc F.1 (i := 12) rfl rfl rfl (Nat.le_of_ble_eq_true rfl) rfl ?_
      replace h := bd_e h
      refine x_goto F.1 (i := 13) (tgt := 5) rfl (by decide) ?_
      exact x_wk F.1 (ih _ _ _ h) ⟨rfl, rfl, rfl, rfl, trivial⟩
set_option maxHeartbeats 4000000 in
theorem t_Arr_fill_2 {w : kx_W} {d : Nat} {M : kx_M} {Q : Option Value → kx_M → Prop} {p0 : Nat} {p1 : Int32} {r : Unit} {M' : kx_M} (h : f_Arr_fill_2 p0 p1 M = some (r, M')) (hQ : Q none M') : Ct w d m_Arr_fill_2 [.ref p0, .int p1] M Q := by
  refine mk_ct ok_Arr_fill_2 (Nat.le_of_ble_eq_true rfl) (fun G F => ?_)
  rw [f_Arr_fill_2] at h
  show G 0 [some (.ref p0), some (.int p1), none, none] [] M
  refine x_iconst F.1 (i := 0) rfl ic_0 ?_
  refine x_istore_n F.1 (i := 1) rfl (Nat.le_of_ble_eq_true rfl) (Nat.le_of_ble_eq_true rfl) rfl ?_
  refine x_aload_n F.1 (i := 2) rfl rfl ?_
  refine gd_e h (fun g1 h => ?_)
  obtain ⟨kg1, lg1⟩ := aLk_e g1
  refine x_ialen F.1 (i := 3) rfl lg1 rfl ?_
  refine x_istore_n F.1 (i := 4) rfl (Nat.le_of_ble_eq_true rfl) (Nat.le_of_ble_eq_true rfl) rfl ?_
  replace h := bd_e h
  exact x_wk F.1 ((t_Arr_fill_2_l5 F (res := (r, M')) hQ FU) _ _ _ h) ⟨rfl, rfl, rfl, rfl, trivial⟩
set_option maxHeartbeats 4000000 in
theorem t_Joiner_offer_l53 {w : kx_W} {d : Nat} {Q : Option Value → kx_M → Prop} {G : Nat → List (Option Value) → List Value → kx_M → Prop} (F : Sd w d m_Joiner_offer Q G) {p1 : Int32} {p2 : Int32} {p3 : Int32} {p4 : Int64} {res : Unit × kx_M} (hQ : Q none res.2) :
    ∀ (x6 : Int32) (M : kx_M),
    f_Joiner_offer_l53 p1 p2 p3 p4 x6 M = some res → G 53 [some (.ref 18), none, none, some (.int p3), some (.long p4), none, some (.int x6)] [] M := by
  intro x6 M h
  rw [f_Joiner_offer_l53] at h
  refine x_aload_n F.1 (i := 30) rfl rfl ?_
  refine x_getC F.1 (i := 31) rfl fl_Joiner_19 rfl (by rfl) ?_
  refine x_iload F.1 (i := 32) rfl rfl ?_
  refine x_iload_n F.1 (i := 33) rfl rfl ?_
  refine gd_e h (fun g1 h => ?_)
  refine x_iast F.1 (i := 34) rfl rfl (inb_e g1) ?_
  replace h := bd_e h
  refine x_aload_n F.1 (i := 35) rfl rfl ?_
  refine x_getC F.1 (i := 36) rfl fl_Joiner_22 rfl (by rfl) ?_
  refine x_iload F.1 (i := 37) rfl rfl ?_
  refine x_lload F.1 (i := 38) rfl rfl ?_
  refine gd_e h (fun g2 h => ?_)
  refine x_last F.1 (i := 39) rfl rfl (inb_e g2) ?_
  replace h := bd_e h
  exact x_vretf F (i := 40) rfl rfl h hQ
set_option maxHeartbeats 4000000 in
theorem t_Joiner_offer {w : kx_W} {d : Nat} {M : kx_M} {Q : Option Value → kx_M → Prop} {p1 : Int32} {p2 : Int32} {p3 : Int32} {p4 : Int64} {r : Unit} {M' : kx_M} (h : f_Joiner_offer p1 p2 p3 p4 M = some (r, M')) (hQ : Q none M') : Ct w d m_Joiner_offer [.ref 18, .int p1, .int p2, .int p3, .long p4] M Q := by
  refine mk_ct ok_Joiner_offer (Nat.le_of_ble_eq_true rfl) (fun G F => ?_)
  rw [f_Joiner_offer] at h
  show G 0 [some (.ref 18), some (.int p1), some (.int p2), some (.int p3), some (.long p4), none, none] [] M
  refine x_iload_n F.1 (i := 0) rfl rfl ?_
  refine x_bipush F.1 (i := 1) rfl bp_6 ?_
  refine x_imul F.1 (i := 2) rfl ?_
  refine x_iload_n F.1 (i := 3) rfl rfl ?_
  refine x_iadd F.1 (i := 4) rfl ?_
  refine x_istore F.1 (i := 5) rfl (Nat.le_of_ble_eq_true rfl) (Nat.le_of_ble_eq_true rfl) rfl ?_
  replace h := bd_e h
  refine x_aload_n F.1 (i := 6) rfl rfl ?_
  refine x_getC F.1 (i := 7) rfl fl_Joiner_19 rfl (by rfl) ?_
  refine x_iload F.1 (i := 8) rfl rfl ?_
  refine gd_e h (fun g2 h => ?_)
  refine x_iald F.1 (i := 9) rfl rfl (inb_e g2) ?_
  refine x_if_eq F.1 (i := 10) (tgt := 53) rfl (by decide) (fun c => ?_) (fun c => ?_)
  · replace h := if_T c h
    exact x_wk F.1 ((t_Joiner_offer_l53 F (res := (r, M')) hQ) _ _ h) ⟨rfl, rfl, rfl, rfl, trivial⟩
  · replace h := if_F c h
    refine x_iload_n F.1 (i := 11) rfl rfl ?_
    refine x_aload_n F.1 (i := 12) rfl rfl ?_
    refine x_getC F.1 (i := 13) rfl fl_Joiner_19 rfl (by rfl) ?_
    refine x_iload F.1 (i := 14) rfl rfl ?_
    refine gd_e h (fun g3 h => ?_)
    refine x_iald F.1 (i := 15) rfl rfl (inb_e g3) ?_
    refine x_icmp_lt F.1 (i := 16) (tgt := 53) rfl (by decide) (fun c => ?_) (fun c => ?_)
    · replace h := if_T c h
      exact x_wk F.1 ((t_Joiner_offer_l53 F (res := (r, M')) hQ) _ _ h) ⟨rfl, rfl, rfl, rfl, trivial⟩
    · replace h := if_F c h
      refine x_iload_n F.1 (i := 17) rfl rfl ?_
      refine x_aload_n F.1 (i := 18) rfl rfl ?_
      refine x_getC F.1 (i := 19) rfl fl_Joiner_19 rfl (by rfl) ?_
      refine x_iload F.1 (i := 20) rfl rfl ?_
      refine gd_e h (fun g4 h => ?_)
      refine x_iald F.1 (i := 21) rfl rfl (inb_e g4) ?_
      refine x_icmp_ne F.1 (i := 22) (tgt := 70) rfl (by decide) (fun c => ?_) (fun c => ?_)
      · replace h := if_F c h
        exact x_vretf F (i := 40) rfl rfl h (res := (r, M')) hQ
      · replace h := if_T c h
        refine x_lload F.1 (i := 23) rfl rfl ?_
        refine x_aload_n F.1 (i := 24) rfl rfl ?_
        refine x_getC F.1 (i := 25) rfl fl_Joiner_22 rfl (by rfl) ?_
        refine x_iload F.1 (i := 26) rfl rfl ?_
        refine gd_e h (fun g5 h => ?_)
        refine x_lald F.1 (i := 27) rfl rfl (inb_e g5) ?_
        refine x_lcmp F.1 (i := 28) rfl ?_
        refine x_if_ge F.1 (i := 29) (tgt := 70) rfl (by decide) (fun c => ?_) (fun c => ?_)
        · replace h := if_T c h
          exact x_vretf F (i := 40) rfl rfl h (res := (r, M')) hQ
        · replace h := if_F c h
          exact x_wk F.1 ((t_Joiner_offer_l53 F (res := (r, M')) hQ) _ _ h) ⟨rfl, rfl, rfl, rfl, trivial⟩
