set_option maxHeartbeats 4000000 in
theorem t_KT_noTray {w : kx_W} {d : Nat} {M : kx_M} {Q : Option Value → kx_M → Prop} {p0 : Int32} {r : Int32} {M' : kx_M} (h : f_KT_noTray p0 M = some (r, M')) (hQ : Q (some (.int r)) M') : Ct w d m_KT_noTray [.int p0] M Q := by
  refine mk_ct ok_KT_noTray (Nat.le_of_ble_eq_true rfl) (fun G F => ?_)
  rw [f_KT_noTray] at h
  show G 0 [some (.int p0)] [] M
  refine x_iload_n F.1 (i := 0) rfl rfl ?_
  refine x_if_lt F.1 (i := 1) (tgt := 9) rfl (by decide) (fun c => ?_) (fun c => ?_)
  · replace h := if_T c h
    refine x_iconst F.1 (i := 5) rfl ic_1 ?_
    refine x_goto F.1 (i := 6) (tgt := 14) rfl (by decide) ?_
    exact x_zretf F (i := 8) rfl rfl (Or.inr rfl) h (res := (r, M')) hQ
  · replace h := if_F c h
    refine x_iload_n F.1 (i := 2) rfl rfl ?_
    refine x_iconst F.1 (i := 3) rfl ic_4 ?_
    refine x_icmp_lt F.1 (i := 4) (tgt := 13) rfl (by decide) (fun c => ?_) (fun c => ?_)
    · replace h := if_T c h
      refine x_iconst F.1 (i := 7) rfl ic_0 ?_
      exact x_zretf F (i := 8) rfl rfl (Or.inl rfl) h (res := (r, M')) hQ
    · replace h := if_F c h
      refine x_iconst F.1 (i := 5) rfl ic_1 ?_
      refine x_goto F.1 (i := 6) (tgt := 14) rfl (by decide) ?_
      exact x_zretf F (i := 8) rfl rfl (Or.inr rfl) h (res := (r, M')) hQ
set_option maxHeartbeats 4000000 in
theorem t_KT_refused {w : kx_W} {d : Nat} {M : kx_M} {Q : Option Value → kx_M → Prop} {p1 : Int32} {r : Int32} {M' : kx_M} (h : f_KT_refused p1 M = some (r, M')) (hQ : Q (some (.int r)) M') : Ct w d m_KT_refused [.ref 0, .int p1] M Q := by
  refine mk_ct ok_KT_refused (Nat.le_of_ble_eq_true rfl) (fun G F => ?_)
  rw [f_KT_refused] at h
  show G 0 [some (.ref 0), some (.int p1)] [] M
  refine x_aload_n F.1 (i := 0) rfl rfl ?_
  refine x_iload_n F.1 (i := 1) rfl rfl ?_
  refine x_putI F.1 (i := 2) rfl fl_KT_78 pf_KT_latest rfl (by rfl) ?_
  replace h := bd_e h
  refine x_iload_n F.1 (i := 3) rfl rfl ?_
  refine x_if_eq F.1 (i := 4) (tgt := 13) rfl (by decide) (fun c => ?_) (fun c => ?_)
  · replace h := if_T c h
    refine x_iconst F.1 (i := 7) rfl ic_0 ?_
    exact x_zretf F (i := 8) rfl rfl (Or.inl rfl) h (res := (r, M')) hQ
  · replace h := if_F c h
    refine x_iconst F.1 (i := 5) rfl ic_1 ?_
    refine x_goto F.1 (i := 6) (tgt := 14) rfl (by decide) ?_
    exact x_zretf F (i := 8) rfl rfl (Or.inr rfl) h (res := (r, M')) hQ
set_option maxHeartbeats 4000000 in
theorem t_Arr_fill_l6 {w : kx_W} {d : Nat} {Q : Option Value → kx_M → Prop} {G : Nat → List (Option Value) → List Value → kx_M → Prop} (F : Sd w d m_Arr_fill Q G) {p0 : Nat} {p1 : Int64} {res : Unit × kx_M} (hQ : Q none res.2) :
    ∀ (n : Nat) (x3 : Int32) (x4 : Int32) (M : kx_M),
    f_Arr_fill_l6 p0 p1 n x3 x4 M = some res → G 6 [some (.ref p0), some (.long p1), none, some (.int x3), some (.int x4)] [] M := by
  intro n
  induction n with
  | zero =>
    intro x3 x4 M h
    exact absurd h (by rw [f_Arr_fill_l6]; exact fun z => nomatch z)
  | succ n ih =>
    intro x3 x4 M h
    rw [f_Arr_fill_l6] at h
    refine x_iload_n F.1 (i := 5) rfl rfl ?_
    refine x_iload F.1 (i := 6) rfl rfl ?_
    refine x_icmp_ge F.1 (i := 7) (tgt := 22) rfl (by decide) (fun c => ?_) (fun c => ?_)
    · replace h := if_T c h
      exact x_vretf F (i := 14) rfl rfl h hQ
    · replace h := if_F c h
      refine x_aload_n F.1 (i := 8) rfl rfl ?_
      refine x_iload_n F.1 (i := 9) rfl rfl ?_
      refine x_lload_n F.1 (i := 10) rfl rfl ?_
      refine gd_e h (fun g1 h => ?_)
      obtain ⟨ng1, kg1, lg1, ig1⟩ := aIb_e g1
      refine x_last F.1 (i := 11) rfl lg1 ig1 ?_
      replace h := bd_e h
      refine x_iinc F.1 (i := 12) rfl rfl rfl (Nat.le_of_ble_eq_true rfl) rfl ?_
      replace h := bd_e h
      refine x_goto F.1 (i := 13) (tgt := 6) rfl (by decide) ?_
      exact x_wk F.1 (ih _ _ _ h) ⟨rfl, rfl, rfl, rfl, trivial⟩
set_option maxHeartbeats 4000000 in
theorem t_Arr_fill {w : kx_W} {d : Nat} {M : kx_M} {Q : Option Value → kx_M → Prop} {p0 : Nat} {p1 : Int64} {r : Unit} {M' : kx_M} (h : f_Arr_fill p0 p1 M = some (r, M')) (hQ : Q none M') : Ct w d m_Arr_fill [.ref p0, .long p1] M Q := by
  refine mk_ct ok_Arr_fill (Nat.le_of_ble_eq_true rfl) (fun G F => ?_)
  rw [f_Arr_fill] at h
  show G 0 [some (.ref p0), some (.long p1), none, none, none] [] M
  refine x_iconst F.1 (i := 0) rfl ic_0 ?_
  refine x_istore_n F.1 (i := 1) rfl (Nat.le_of_ble_eq_true rfl) (Nat.le_of_ble_eq_true rfl) rfl ?_
  refine x_aload_n F.1 (i := 2) rfl rfl ?_
  refine gd_e h (fun g1 h => ?_)
  obtain ⟨kg1, lg1⟩ := aLk_e g1
  refine x_lalen F.1 (i := 3) rfl lg1 rfl ?_
  refine x_istore F.1 (i := 4) rfl (Nat.le_of_ble_eq_true rfl) (Nat.le_of_ble_eq_true rfl) rfl ?_
  replace h := bd_e h
  exact x_wk F.1 ((t_Arr_fill_l6 F (res := (r, M')) hQ FU) _ _ _ h) ⟨rfl, rfl, rfl, rfl, trivial⟩
set_option maxHeartbeats 4000000 in
theorem t_Tray_lay {w : kx_W} {d : Nat} {M : kx_M} {Q : Option Value → kx_M → Prop} {p0 : Nat} {p1 : Int32} {p2 : Int32} {r : Unit} {M' : kx_M} (hp0 : isTray p0 = true) (h : f_Tray_lay p0 p1 p2 M = some (r, M')) (hQ : Q none M') : Ct w (d + 1) m_Tray_lay [.ref p0, .int p1, .int p2] M Q := by
  refine mk_ct ok_Tray_lay (Nat.le_of_ble_eq_true rfl) (fun G F => ?_)
  rw [f_Tray_lay] at h
  show G 0 [some (.ref p0), some (.int p1), some (.int p2)] [] M
  refine x_aload_n F.1 (i := 0) rfl rfl ?_
  refine x_iconst F.1 (i := 1) rfl ic_0 ?_
  refine x_putZ F.1 (i := 2) rfl fl_Tray_15 pf_Tray_missing (lk_Tray hp0) (by rfl) (Or.inl rfl) ?_
  replace h := bd_e h
  refine x_aload_n F.1 (i := 3) rfl rfl ?_
  refine x_iload_n F.1 (i := 4) rfl rfl ?_
  refine x_putI F.1 (i := 5) rfl fl_Tray_19 pf_Tray_sort (lk_Tray hp0) (by rfl) ?_
  replace h := bd_e h
  refine x_aload_n F.1 (i := 6) rfl rfl ?_
  refine x_iload_n F.1 (i := 7) rfl rfl ?_
  refine x_putI F.1 (i := 8) rfl fl_Tray_23 pf_Tray_many (lk_Tray hp0) (by rfl) ?_
  replace h := bd_e h
  refine x_aload_n F.1 (i := 9) rfl rfl ?_
  refine x_getC F.1 (i := 10) rfl fl_Tray_9 (lk_Tray hp0) (by rfl) ?_
  refine x_lconst F.1 (i := 11) (v := 0) rfl rfl ?_
  refine cal_e h (fun r1 M4 e2 h => ?_)
  refine x_cS2v F.1 (i := 12) rfl ml_Tray_26 ok_Arr_fill (Nat.le_of_ble_eq_true rfl) (Nat.le_of_ble_eq_true rfl) (fun _ => t_Arr_fill e2) ?_
  exact x_vretf F (i := 13) rfl rfl h (res := (r, M')) hQ
set_option maxHeartbeats 4000000 in
theorem t_KT_tray_l45 {w : kx_W} {d : Nat} {Q : Option Value → kx_M → Prop} {G : Nat → List (Option Value) → List Value → kx_M → Prop} (F : Sd w (d + 2) m_KT_tray Q G) {p1 : Int32} {p2 : Int32} {p3 : Int32} {res : Int32 × kx_M} (hQ : Q (some (.int res.1)) res.2) :
    ∀ (x4 : Int32) (M : kx_M),
    f_KT_tray_l45 p1 p2 p3 x4 M = some res → G 45 [some (.ref 0), some (.int p1), some (.int p2), some (.int p3), some (.int x4)] [] M := by
  intro x4 M h
  rw [f_KT_tray_l45] at h
  refine x_aload_n F.1 (i := 23) rfl rfl ?_
  refine x_iload F.1 (i := 24) rfl rfl ?_
  refine cal_e h (fun r1 M1 e2 h => ?_)
  refine x_cV1i F.1 (i := 25) rfl ml_KT_103 ok_KT_refused rfl (Nat.le_of_ble_eq_true rfl) (Nat.le_of_ble_eq_true rfl) (fun _ => t_KT_refused e2) ?_
  refine x_if_eq F.1 (i := 26) (tgt := 56) rfl (by decide) (fun c => ?_) (fun c => ?_)
  · replace h := if_T c h
    refine x_aload_n F.1 (i := 29) rfl rfl ?_
    refine x_getC F.1 (i := 30) rfl fl_KT_11 rfl (by rfl) ?_
    refine x_iload_n F.1 (i := 31) rfl rfl ?_
    refine gd_e h (fun g3 h => ?_)
    refine x_tray F.1 (i := 32) rfl g3 ?_
    refine x_iload_n F.1 (i := 33) rfl rfl ?_
    refine x_iload_n F.1 (i := 34) rfl rfl ?_
    refine cal_e h (fun r4 M2 e5 h => ?_)
    refine x_cV2v F.1 (i := 35) rfl ml_KT_106 ok_Tray_lay (lk_Tray (isTray_of g3)) (Nat.le_of_ble_eq_true rfl) (Nat.le_of_ble_eq_true rfl) (fun _ => t_Tray_lay (isTray_of g3) e5) ?_
    refine x_iconst F.1 (i := 36) rfl ic_1 ?_
    exact x_zretf F (i := 37) rfl rfl (Or.inr rfl) h hQ
  · replace h := if_F c h
    refine x_iconst F.1 (i := 27) rfl ic_0 ?_
    exact x_zretf F (i := 28) rfl rfl (Or.inl rfl) h hQ
set_option maxHeartbeats 4000000 in
theorem t_KT_tray {w : kx_W} {d : Nat} {M : kx_M} {Q : Option Value → kx_M → Prop} {p1 : Int32} {p2 : Int32} {p3 : Int32} {r : Int32} {M' : kx_M} (h : f_KT_tray p1 p2 p3 M = some (r, M')) (hQ : Q (some (.int r)) M') : Ct w (d + 2) m_KT_tray [.ref 0, .int p1, .int p2, .int p3] M Q := by
  refine mk_ct ok_KT_tray (Nat.le_of_ble_eq_true rfl) (fun G F => ?_)
  rw [f_KT_tray] at h
  show G 0 [some (.ref 0), some (.int p1), some (.int p2), some (.int p3), none] [] M
  refine x_iconst F.1 (i := 0) rfl ic_0 ?_
  refine x_istore F.1 (i := 1) rfl (Nat.le_of_ble_eq_true rfl) (Nat.le_of_ble_eq_true rfl) rfl ?_
  refine x_iload_n F.1 (i := 2) rfl rfl ?_
  refine cal_e h (fun r1 M1 e2 h => ?_)
  refine x_cS1i F.1 (i := 3) rfl ml_KT_99 ok_KT_noTray (Nat.le_of_ble_eq_true rfl) (Nat.le_of_ble_eq_true rfl) (fun _ => t_KT_noTray e2) ?_
  refine x_if_ne F.1 (i := 4) (tgt := 19) rfl (by decide) (fun c => ?_) (fun c => ?_)
  · replace h := if_F c h
    refine x_iconst F.1 (i := 10) rfl ic_1 ?_
    refine x_istore F.1 (i := 11) rfl (Nat.le_of_ble_eq_true rfl) (Nat.le_of_ble_eq_true rfl) rfl ?_
    refine x_goto F.1 (i := 12) (tgt := 45) rfl (by decide) ?_
    exact x_wk F.1 ((t_KT_tray_l45 F (res := (r, M')) hQ) _ _ h) ⟨rfl, rfl, rfl, rfl, rfl, trivial⟩
  · replace h := if_T c h
    refine x_iload_n F.1 (i := 5) rfl rfl ?_
    refine x_if_lt F.1 (i := 6) (tgt := 19) rfl (by decide) (fun c => ?_) (fun c => ?_)
    · replace h := if_T c h
      refine x_iconst F.1 (i := 10) rfl ic_1 ?_
      refine x_istore F.1 (i := 11) rfl (Nat.le_of_ble_eq_true rfl) (Nat.le_of_ble_eq_true rfl) rfl ?_
      refine x_goto F.1 (i := 12) (tgt := 45) rfl (by decide) ?_
      exact x_wk F.1 ((t_KT_tray_l45 F (res := (r, M')) hQ) _ _ h) ⟨rfl, rfl, rfl, rfl, rfl, trivial⟩
    · replace h := if_F c h
      refine x_iload_n F.1 (i := 7) rfl rfl ?_
      refine x_iconst F.1 (i := 8) rfl ic_3 ?_
      refine x_icmp_le F.1 (i := 9) (tgt := 25) rfl (by decide) (fun c => ?_) (fun c => ?_)
      · replace h := if_T c h
        refine x_iload_n F.1 (i := 13) rfl rfl ?_
        refine x_bipush F.1 (i := 14) rfl bp_60 ?_
        refine x_icmp_le F.1 (i := 15) (tgt := 37) rfl (by decide) (fun c => ?_) (fun c => ?_)
        · replace h := if_T c h
          refine x_iload_n F.1 (i := 19) rfl rfl ?_
          refine x_if_ge F.1 (i := 20) (tgt := 45) rfl (by decide) (fun c => ?_) (fun c => ?_)
          · replace h := if_T c h
            exact x_wk F.1 ((t_KT_tray_l45 F (res := (r, M')) hQ) _ _ h) ⟨rfl, rfl, rfl, rfl, rfl, trivial⟩
          · replace h := if_F c h
            refine x_bipush F.1 (i := 21) rfl bp_6 ?_
            refine x_istore F.1 (i := 22) rfl (Nat.le_of_ble_eq_true rfl) (Nat.le_of_ble_eq_true rfl) rfl ?_
            exact x_wk F.1 ((t_KT_tray_l45 F (res := (r, M')) hQ) _ _ h) ⟨rfl, rfl, rfl, rfl, rfl, trivial⟩
        · replace h := if_F c h
          refine x_iconst F.1 (i := 16) rfl ic_5 ?_
          refine x_istore F.1 (i := 17) rfl (Nat.le_of_ble_eq_true rfl) (Nat.le_of_ble_eq_true rfl) rfl ?_
          refine x_goto F.1 (i := 18) (tgt := 45) rfl (by decide) ?_
          exact x_wk F.1 ((t_KT_tray_l45 F (res := (r, M')) hQ) _ _ h) ⟨rfl, rfl, rfl, rfl, rfl, trivial⟩
      · replace h := if_F c h
        refine x_iconst F.1 (i := 10) rfl ic_1 ?_
        refine x_istore F.1 (i := 11) rfl (Nat.le_of_ble_eq_true rfl) (Nat.le_of_ble_eq_true rfl) rfl ?_
        refine x_goto F.1 (i := 12) (tgt := 45) rfl (by decide) ?_
        exact x_wk F.1 ((t_KT_tray_l45 F (res := (r, M')) hQ) _ _ h) ⟨rfl, rfl, rfl, rfl, rfl, trivial⟩
set_option maxHeartbeats 4000000 in
theorem t_Tray_lacks {w : kx_W} {d : Nat} {M : kx_M} {Q : Option Value → kx_M → Prop} {p0 : Nat} {p1 : Int32} {p2 : Int32} {r : Int32} {M' : kx_M} (hp0 : isTray p0 = true) (h : f_Tray_lacks p0 p1 p2 M = some (r, M')) (hQ : Q (some (.int r)) M') : Ct w d m_Tray_lacks [.ref p0, .int p1, .int p2] M Q := by
  refine mk_ct ok_Tray_lacks (Nat.le_of_ble_eq_true rfl) (fun G F => ?_)
  rw [f_Tray_lacks] at h
  show G 0 [some (.ref p0), some (.int p1), some (.int p2)] [] M
  refine x_iload_n F.1 (i := 0) rfl rfl ?_
  refine x_if_lt F.1 (i := 1) (tgt := 22) rfl (by decide) (fun c => ?_) (fun c => ?_)
  · replace h := if_T c h
    refine x_iconst F.1 (i := 12) rfl ic_1 ?_
    refine x_goto F.1 (i := 13) (tgt := 27) rfl (by decide) ?_
    exact x_zretf F (i := 15) rfl rfl (Or.inr rfl) h (res := (r, M')) hQ
  · replace h := if_F c h
    refine x_iload_n F.1 (i := 2) rfl rfl ?_
    refine x_aload_n F.1 (i := 3) rfl rfl ?_
    refine x_getI F.1 (i := 4) rfl fl_Tray_23 (lk_Tray hp0) (by rfl) ?_
    refine x_icmp_gt F.1 (i := 5) (tgt := 22) rfl (by decide) (fun c => ?_) (fun c => ?_)
    · replace h := if_T c h
      refine x_iconst F.1 (i := 12) rfl ic_1 ?_
      refine x_goto F.1 (i := 13) (tgt := 27) rfl (by decide) ?_
      exact x_zretf F (i := 15) rfl rfl (Or.inr rfl) h (res := (r, M')) hQ
    · replace h := if_F c h
      refine x_iload_n F.1 (i := 6) rfl rfl ?_
      refine x_aload_n F.1 (i := 7) rfl rfl ?_
      refine x_getI F.1 (i := 8) rfl fl_Tray_23 (lk_Tray hp0) (by rfl) ?_
      refine x_iload_n F.1 (i := 9) rfl rfl ?_
      refine x_isub F.1 (i := 10) rfl ?_
      refine x_icmp_le F.1 (i := 11) (tgt := 26) rfl (by decide) (fun c => ?_) (fun c => ?_)
      · replace h := if_T c h
        refine x_iconst F.1 (i := 14) rfl ic_0 ?_
        exact x_zretf F (i := 15) rfl rfl (Or.inl rfl) h (res := (r, M')) hQ
      · replace h := if_F c h
        refine x_iconst F.1 (i := 12) rfl ic_1 ?_
        refine x_goto F.1 (i := 13) (tgt := 27) rfl (by decide) ?_
        exact x_zretf F (i := 15) rfl rfl (Or.inr rfl) h (res := (r, M')) hQ
set_option maxHeartbeats 4000000 in
theorem t_KT_placeStatus {w : kx_W} {d : Nat} {M : kx_M} {Q : Option Value → kx_M → Prop} {p1 : Int32} {p2 : Int32} {r : Int32} {M' : kx_M} (h : f_KT_placeStatus p1 p2 M = some (r, M')) (hQ : Q (some (.int r)) M') : Ct w (d + 1) m_KT_placeStatus [.ref 0, .int p1, .int p2] M Q := by
  refine mk_ct ok_KT_placeStatus (Nat.le_of_ble_eq_true rfl) (fun G F => ?_)
  rw [f_KT_placeStatus] at h
  show G 0 [some (.ref 0), some (.int p1), some (.int p2)] [] M
  refine x_iload_n F.1 (i := 0) rfl rfl ?_
  refine cal_e h (fun r1 M1 e2 h => ?_)
  refine x_cS1i F.1 (i := 1) rfl ml_KT_99 ok_KT_noTray (Nat.le_of_ble_eq_true rfl) (Nat.le_of_ble_eq_true rfl) (fun _ => t_KT_noTray e2) ?_
  refine x_if_eq F.1 (i := 2) (tgt := 9) rfl (by decide) (fun c => ?_) (fun c => ?_)
  · replace h := if_T c h
    refine x_aload_n F.1 (i := 5) rfl rfl ?_
    refine x_getC F.1 (i := 6) rfl fl_KT_11 rfl (by rfl) ?_
    refine x_iload_n F.1 (i := 7) rfl rfl ?_
    refine gd_e h (fun g3 h => ?_)
    refine x_tray F.1 (i := 8) rfl g3 ?_
    refine x_getI F.1 (i := 9) rfl fl_KT_124 (lk_Tray (isTray_of g3)) (by rfl) ?_
    refine x_if_eq F.1 (i := 10) (tgt := 23) rfl (by decide) (fun c => ?_) (fun c => ?_)
    · replace h := if_T c h
      refine x_aload_n F.1 (i := 13) rfl rfl ?_
      refine x_getC F.1 (i := 14) rfl fl_KT_11 rfl (by rfl) ?_
      refine x_iload_n F.1 (i := 15) rfl rfl ?_
      refine gd_e h (fun g4 h => ?_)
      refine x_tray F.1 (i := 16) rfl g4 ?_
      refine x_iload_n F.1 (i := 17) rfl rfl ?_
      refine x_iconst F.1 (i := 18) rfl ic_1 ?_
      refine cal_e h (fun r5 M2 e6 h => ?_)
      refine x_cV2i F.1 (i := 19) rfl ml_KT_130 ok_Tray_lacks (lk_Tray (isTray_of g4)) (Nat.le_of_ble_eq_true rfl) (Nat.le_of_ble_eq_true rfl) (fun _ => t_Tray_lacks (isTray_of g4) e6) ?_
      refine x_if_eq F.1 (i := 20) (tgt := 41) rfl (by decide) (fun c => ?_) (fun c => ?_)
      · replace h := if_T c h
        refine x_iconst F.1 (i := 23) rfl ic_0 ?_
        exact x_iretf F (i := 24) rfl rfl h (res := (r, M')) hQ
      · replace h := if_F c h
        refine x_iconst F.1 (i := 21) rfl ic_4 ?_
        refine x_goto F.1 (i := 22) (tgt := 42) rfl (by decide) ?_
        exact x_iretf F (i := 24) rfl rfl h (res := (r, M')) hQ
    · replace h := if_F c h
      refine x_iconst F.1 (i := 11) rfl ic_3 ?_
      exact x_iretf F (i := 12) rfl rfl h (res := (r, M')) hQ
  · replace h := if_F c h
    refine x_iconst F.1 (i := 3) rfl ic_1 ?_
    exact x_iretf F (i := 4) rfl rfl h (res := (r, M')) hQ
set_option maxHeartbeats 4000000 in
theorem t_Tray_put {w : kx_W} {d : Nat} {M : kx_M} {Q : Option Value → kx_M → Prop} {p0 : Nat} {p1 : Int32} {p2 : Int64} {r : Unit} {M' : kx_M} (hp0 : isTray p0 = true) (h : f_Tray_put p0 p1 p2 M = some (r, M')) (hQ : Q none M') : Ct w d m_Tray_put [.ref p0, .int p1, .long p2] M Q := by
  refine mk_ct ok_Tray_put (Nat.le_of_ble_eq_true rfl) (fun G F => ?_)
  rw [f_Tray_put] at h
  show G 0 [some (.ref p0), some (.int p1), some (.long p2), none] [] M
  refine x_aload_n F.1 (i := 0) rfl rfl ?_
  refine x_getI F.1 (i := 1) rfl fl_Tray_19 (lk_Tray hp0) (by rfl) ?_
  refine ite_e h (fun c0 h => ?_) (fun c0 h => ?_)
  · refine x_tabIn F.1 (i := 2) (tgt := 32) rfl (by rw [c0]; decide) (by rw [c0]; decide) (by rw [c0]; rfl) (by decide) ?_
    refine x_aload_n F.1 (i := 3) rfl rfl ?_
    refine x_getC F.1 (i := 4) rfl fl_Tray_9 (lk_Tray hp0) (by rfl) ?_
    refine x_iload_n F.1 (i := 5) rfl rfl ?_
    refine x_lload_n F.1 (i := 6) rfl rfl ?_
    refine x_l2i F.1 (i := 7) rfl ?_
    refine x_i2b F.1 (i := 8) rfl ?_
    refine x_i2l F.1 (i := 9) rfl ?_
    refine gd_e h (fun g1 h => ?_)
    refine x_last F.1 (i := 10) rfl (lk_Tray_numbers hp0) (inb_e g1) ?_
    replace h := bd_e h
    refine x_goto F.1 (i := 11) (tgt := 77) rfl (by decide) ?_
    exact x_vretf F (i := 34) rfl rfl h (res := (r, M')) hQ
  refine ite_e h (fun c1 h => ?_) (fun c1 h => ?_)
  · refine x_tabIn F.1 (i := 2) (tgt := 45) rfl (by rw [c1]; decide) (by rw [c1]; decide) (by rw [c1]; rfl) (by decide) ?_
    refine x_aload_n F.1 (i := 12) rfl rfl ?_
    refine x_getC F.1 (i := 13) rfl fl_Tray_9 (lk_Tray hp0) (by rfl) ?_
    refine x_iload_n F.1 (i := 14) rfl rfl ?_
    refine x_lload_n F.1 (i := 15) rfl rfl ?_
    refine x_l2i F.1 (i := 16) rfl ?_
    refine x_i2s F.1 (i := 17) rfl ?_
    refine x_i2l F.1 (i := 18) rfl ?_
    refine gd_e h (fun g2 h => ?_)
    refine x_last F.1 (i := 19) rfl (lk_Tray_numbers hp0) (inb_e g2) ?_
    replace h := bd_e h
    refine x_goto F.1 (i := 20) (tgt := 77) rfl (by decide) ?_
    exact x_vretf F (i := 34) rfl rfl h (res := (r, M')) hQ
  refine ite_e h (fun c2 h => ?_) (fun c2 h => ?_)
  · refine x_tabIn F.1 (i := 2) (tgt := 58) rfl (by rw [c2]; decide) (by rw [c2]; decide) (by rw [c2]; rfl) (by decide) ?_
    refine x_aload_n F.1 (i := 21) rfl rfl ?_
    refine x_getC F.1 (i := 22) rfl fl_Tray_9 (lk_Tray hp0) (by rfl) ?_
    refine x_iload_n F.1 (i := 23) rfl rfl ?_
    refine x_lload_n F.1 (i := 24) rfl rfl ?_
    refine x_l2i F.1 (i := 25) rfl ?_
    refine x_i2l F.1 (i := 26) rfl ?_
    refine gd_e h (fun g3 h => ?_)
    refine x_last F.1 (i := 27) rfl (lk_Tray_numbers hp0) (inb_e g3) ?_
    replace h := bd_e h
    refine x_goto F.1 (i := 28) (tgt := 77) rfl (by decide) ?_
    exact x_vretf F (i := 34) rfl rfl h (res := (r, M')) hQ
  have c0z := ne_toInt (z := 0) c0 (by decide)
  have c1z := ne_toInt (z := 1) c1 (by decide)
  have c2z := ne_toInt (z := 2) c2 (by decide)
  refine x_tabOut F.1 (i := 2) (tgt := 70) rfl (by omega) (by decide) ?_
  refine x_aload_n F.1 (i := 29) rfl rfl ?_
  refine x_getC F.1 (i := 30) rfl fl_Tray_9 (lk_Tray hp0) (by rfl) ?_
  refine x_iload_n F.1 (i := 31) rfl rfl ?_
  refine x_lload_n F.1 (i := 32) rfl rfl ?_
  refine gd_e h (fun g4 h => ?_)
  refine x_last F.1 (i := 33) rfl (lk_Tray_numbers hp0) (inb_e g4) ?_
  replace h := bd_e h
  exact x_vretf F (i := 34) rfl rfl h (res := (r, M')) hQ
set_option maxHeartbeats 4000000 in
theorem t_KT_write {w : kx_W} {d : Nat} {M : kx_M} {Q : Option Value → kx_M → Prop} {p1 : Int32} {p2 : Int32} {p3 : Int64} {r : Int32} {M' : kx_M} (h : f_KT_write p1 p2 p3 M = some (r, M')) (hQ : Q (some (.int r)) M') : Ct w (d + 2) m_KT_write [.ref 0, .int p1, .int p2, .long p3] M Q := by
  refine mk_ct ok_KT_write (Nat.le_of_ble_eq_true rfl) (fun G F => ?_)
  rw [f_KT_write] at h
  show G 0 [some (.ref 0), some (.int p1), some (.int p2), some (.long p3), none] [] M
  refine x_aload_n F.1 (i := 0) rfl rfl ?_
  refine x_aload_n F.1 (i := 1) rfl rfl ?_
  refine x_iload_n F.1 (i := 2) rfl rfl ?_
  refine x_iload_n F.1 (i := 3) rfl rfl ?_
  refine cal_e h (fun r1 M1 e2 h => ?_)
  refine x_cV2i F.1 (i := 4) rfl ml_KT_110 ok_KT_placeStatus rfl (Nat.le_of_ble_eq_true rfl) (Nat.le_of_ble_eq_true rfl) (fun _ => t_KT_placeStatus e2) ?_
  refine cal_e h (fun r3 M2 e4 h => ?_)
  refine x_cV1i F.1 (i := 5) rfl ml_KT_103 ok_KT_refused rfl (Nat.le_of_ble_eq_true rfl) (Nat.le_of_ble_eq_true rfl) (fun _ => t_KT_refused e4) ?_
  refine x_if_eq F.1 (i := 6) (tgt := 15) rfl (by decide) (fun c => ?_) (fun c => ?_)
  · replace h := if_T c h
    refine x_aload_n F.1 (i := 9) rfl rfl ?_
    refine x_getC F.1 (i := 10) rfl fl_KT_11 rfl (by rfl) ?_
    refine x_iload_n F.1 (i := 11) rfl rfl ?_
    refine gd_e h (fun g5 h => ?_)
    refine x_tray F.1 (i := 12) rfl g5 ?_
    refine x_iload_n F.1 (i := 13) rfl rfl ?_
    refine x_lload_n F.1 (i := 14) rfl rfl ?_
    refine cal_e h (fun r6 M3 e7 h => ?_)
    refine x_cV2v F.1 (i := 15) rfl ml_KT_114 ok_Tray_put (lk_Tray (isTray_of g5)) (Nat.le_of_ble_eq_true rfl) (Nat.le_of_ble_eq_true rfl) (fun _ => t_Tray_put (isTray_of g5) e7) ?_
    refine x_iconst F.1 (i := 16) rfl ic_1 ?_
    exact x_zretf F (i := 17) rfl rfl (Or.inr rfl) h (res := (r, M')) hQ
  · replace h := if_F c h
    refine x_iconst F.1 (i := 7) rfl ic_0 ?_
    exact x_zretf F (i := 8) rfl rfl (Or.inl rfl) h (res := (r, M')) hQ
set_option maxHeartbeats 4000000 in
theorem t_KT_read {w : kx_W} {d : Nat} {M : kx_M} {Q : Option Value → kx_M → Prop} {p1 : Int32} {p2 : Int32} {r : Int64} {M' : kx_M} (h : f_KT_read p1 p2 M = some (r, M')) (hQ : Q (some (.long r)) M') : Ct w (d + 2) m_KT_read [.ref 0, .int p1, .int p2] M Q := by
  refine mk_ct ok_KT_read (Nat.le_of_ble_eq_true rfl) (fun G F => ?_)
  rw [f_KT_read] at h
  show G 0 [some (.ref 0), some (.int p1), some (.int p2)] [] M
  refine x_aload_n F.1 (i := 0) rfl rfl ?_
  refine x_aload_n F.1 (i := 1) rfl rfl ?_
  refine x_iload_n F.1 (i := 2) rfl rfl ?_
  refine x_iload_n F.1 (i := 3) rfl rfl ?_
  refine cal_e h (fun r1 M1 e2 h => ?_)
  refine x_cV2i F.1 (i := 4) rfl ml_KT_110 ok_KT_placeStatus rfl (Nat.le_of_ble_eq_true rfl) (Nat.le_of_ble_eq_true rfl) (fun _ => t_KT_placeStatus e2) ?_
  refine cal_e h (fun r3 M2 e4 h => ?_)
  refine x_cV1i F.1 (i := 5) rfl ml_KT_103 ok_KT_refused rfl (Nat.le_of_ble_eq_true rfl) (Nat.le_of_ble_eq_true rfl) (fun _ => t_KT_refused e4) ?_
  refine x_if_eq F.1 (i := 6) (tgt := 17) rfl (by decide) (fun c => ?_) (fun c => ?_)
  · replace h := if_T c h
    refine x_aload_n F.1 (i := 9) rfl rfl ?_
    refine x_getC F.1 (i := 10) rfl fl_KT_11 rfl (by rfl) ?_
    refine x_iload_n F.1 (i := 11) rfl rfl ?_
    refine gd_e h (fun g5 h => ?_)
    refine x_tray F.1 (i := 12) rfl g5 ?_
    refine x_getC F.1 (i := 13) rfl fl_KT_120 (lk_Tray (isTray_of g5)) (by rfl) ?_
    refine x_iload_n F.1 (i := 14) rfl rfl ?_
    refine gd_e h (fun g6 h => ?_)
    refine x_lald F.1 (i := 15) rfl (lk_Tray_numbers (isTray_of g5)) (inb_e g6) ?_
    exact x_lretf F (i := 16) rfl rfl h (res := (r, M')) hQ
  · replace h := if_F c h
    refine x_ldc2_w F.1 (i := 7) rfl cl_KT_118 ?_
    exact x_lretf F (i := 8) rfl rfl h (res := (r, M')) hQ
set_option maxHeartbeats 4000000 in
theorem t_Cloth_at {w : kx_W} {d : Nat} {M : kx_M} {Q : Option Value → kx_M → Prop} {p0 : Int32} {p1 : Int32} {r : Int32} {M' : kx_M} (h : f_Cloth_at p0 p1 M = some (r, M')) (hQ : Q (some (.int r)) M') : Ct w d m_Cloth_at [.int p0, .int p1] M Q := by
  refine mk_ct ok_Cloth_at (Nat.le_of_ble_eq_true rfl) (fun G F => ?_)
  rw [f_Cloth_at] at h
  show G 0 [some (.int p0), some (.int p1)] [] M
  refine x_iload_n F.1 (i := 0) rfl rfl ?_
  refine x_bipush F.1 (i := 1) rfl bp_8 ?_
  refine x_imul F.1 (i := 2) rfl ?_
  refine x_iload_n F.1 (i := 3) rfl rfl ?_
  refine x_iadd F.1 (i := 4) rfl ?_
  exact x_iretf F (i := 5) rfl rfl h (res := (r, M')) hQ
set_option maxHeartbeats 4000000 in
theorem t_Cloth_sum_l15 {w : kx_W} {d : Nat} {Q : Option Value → kx_M → Prop} {G : Nat → List (Option Value) → List Value → kx_M → Prop} (F : Sd w (d + 1) m_Cloth_sum Q G) {p0 : Nat} {p1 : Nat} (hp0 : isCloth p0 = true) {k4 : Int32 → Int32 → kx_M → Option (Int32 × kx_M)} {res : Int32 × kx_M} (hQ : Q (some (.int res.1)) res.2) (hk4 : ∀ (x2 : Int32) (x3 : Int32) (M : kx_M), k4 x2 x3 M = some res → G 4 [some (.ref p0), some (.ref p1), some (.int x2), some (.int x3), none] [] M) :
    ∀ (n : Nat) (x2 : Int32) (x3 : Int32) (x4 : Int32) (M : kx_M),
    f_Cloth_sum_l15 p0 p1 k4 n x2 x3 x4 M = some res → G 15 [some (.ref p0), some (.ref p1), some (.int x2), some (.int x3), some (.int x4)] [] M := by
  intro n
  induction n with
  | zero =>
    intro x2 x3 x4 M h
    exact absurd h (by rw [f_Cloth_sum_l15]; exact fun z => nomatch z)
  | succ n ih =>
    intro x2 x3 x4 M h
    rw [f_Cloth_sum_l15] at h
    refine x_iload F.1 (i := 10) rfl rfl ?_
    refine x_aload_n F.1 (i := 11) rfl rfl ?_
    refine x_getI F.1 (i := 12) rfl fl_Cloth_27 (lk_Cloth hp0) (by rfl) ?_
    refine x_icmp_ge F.1 (i := 13) (tgt := 41) rfl (by decide) (fun c => ?_) (fun c => ?_)
    · replace h := if_T c h
      refine x_iinc F.1 (i := 24) rfl rfl rfl (Nat.le_of_ble_eq_true rfl) rfl ?_
      replace h := bd_e h
      refine x_goto F.1 (i := 25) (tgt := 4) rfl (by decide) ?_
      exact x_wk F.1 (hk4 _ _ _ h) ⟨rfl, rfl, rfl, rfl, trivial⟩
    · replace h := if_F c h
      refine x_iload_n F.1 (i := 14) rfl rfl ?_
      refine x_aload_n F.1 (i := 15) rfl rfl ?_
      refine x_iload_n F.1 (i := 16) rfl rfl ?_
      refine x_iload F.1 (i := 17) rfl rfl ?_
      refine cal_e h (fun r2 M1 e3 h => ?_)
      refine x_cS2i F.1 (i := 18) rfl ml_Cloth_46 ok_Cloth_at (Nat.le_of_ble_eq_true rfl) (Nat.le_of_ble_eq_true rfl) (fun _ => t_Cloth_at e3) ?_
      refine gd_e h (fun g4 h => ?_)
      obtain ⟨ng4, kg4, lg4, ig4⟩ := aIb_e g4
      refine x_iald F.1 (i := 19) rfl lg4 ig4 ?_
      refine x_iadd F.1 (i := 20) rfl ?_
      refine x_istore_n F.1 (i := 21) rfl (Nat.le_of_ble_eq_true rfl) (Nat.le_of_ble_eq_true rfl) rfl ?_
      replace h := bd_e h
      refine x_iinc F.1 (i := 22) rfl rfl rfl (Nat.le_of_ble_eq_true rfl) rfl ?_
      replace h := bd_e h
      refine x_goto F.1 (i := 23) (tgt := 15) rfl (by decide) ?_
      exact x_wk F.1 (ih _ _ _ _ h) ⟨rfl, rfl, rfl, rfl, rfl, trivial⟩
set_option maxHeartbeats 4000000 in
theorem t_Cloth_sum_l4 {w : kx_W} {d : Nat} {Q : Option Value → kx_M → Prop} {G : Nat → List (Option Value) → List Value → kx_M → Prop} (F : Sd w (d + 1) m_Cloth_sum Q G) {p0 : Nat} {p1 : Nat} (hp0 : isCloth p0 = true) {res : Int32 × kx_M} (hQ : Q (some (.int res.1)) res.2) :
    ∀ (n : Nat) (x2 : Int32) (x3 : Int32) (M : kx_M),
    f_Cloth_sum_l4 p0 p1 n x2 x3 M = some res → G 4 [some (.ref p0), some (.ref p1), some (.int x2), some (.int x3), none] [] M := by
  intro n
  induction n with
  | zero =>
    intro x2 x3 M h
    exact absurd h (by rw [f_Cloth_sum_l4]; exact fun z => nomatch z)
  | succ n ih =>
    intro x2 x3 M h
    rw [f_Cloth_sum_l4] at h
    refine x_iload_n F.1 (i := 4) rfl rfl ?_
    refine x_aload_n F.1 (i := 5) rfl rfl ?_
    refine x_getI F.1 (i := 6) rfl fl_Cloth_34 (lk_Cloth hp0) (by rfl) ?_
    refine x_icmp_ge F.1 (i := 7) (tgt := 47) rfl (by decide) (fun c => ?_) (fun c => ?_)
    · replace h := if_T c h
      refine x_iload_n F.1 (i := 26) rfl rfl ?_
      exact x_iretf F (i := 27) rfl rfl h hQ
    · replace h := if_F c h
      refine x_iconst F.1 (i := 8) rfl ic_0 ?_
      refine x_istore F.1 (i := 9) rfl (Nat.le_of_ble_eq_true rfl) (Nat.le_of_ble_eq_true rfl) rfl ?_
      exact x_wk F.1 ((t_Cloth_sum_l15 F hp0 hQ ih FU) _ _ _ _ h) ⟨rfl, rfl, rfl, rfl, rfl, trivial⟩
set_option maxHeartbeats 4000000 in
theorem t_Cloth_sum {w : kx_W} {d : Nat} {M : kx_M} {Q : Option Value → kx_M → Prop} {p0 : Nat} {p1 : Nat} {r : Int32} {M' : kx_M} (hp0 : isCloth p0 = true) (h : f_Cloth_sum p0 p1 M = some (r, M')) (hQ : Q (some (.int r)) M') : Ct w (d + 1) m_Cloth_sum [.ref p0, .ref p1] M Q := by
  refine mk_ct ok_Cloth_sum (Nat.le_of_ble_eq_true rfl) (fun G F => ?_)
  rw [f_Cloth_sum] at h
  show G 0 [some (.ref p0), some (.ref p1), none, none, none] [] M
  refine x_iconst F.1 (i := 0) rfl ic_0 ?_
  refine x_istore_n F.1 (i := 1) rfl (Nat.le_of_ble_eq_true rfl) (Nat.le_of_ble_eq_true rfl) rfl ?_
  refine x_iconst F.1 (i := 2) rfl ic_0 ?_
  refine x_istore_n F.1 (i := 3) rfl (Nat.le_of_ble_eq_true rfl) (Nat.le_of_ble_eq_true rfl) rfl ?_
  exact x_wk F.1 ((t_Cloth_sum_l4 F hp0 (res := (r, M')) hQ FU) _ _ _ h) ⟨rfl, rfl, rfl, rfl, trivial⟩
set_option maxHeartbeats 4000000 in
theorem t_Cloth_wornInAll_l14 {w : kx_W} {d : Nat} {Q : Option Value → kx_M → Prop} {G : Nat → List (Option Value) → List Value → kx_M → Prop} (F : Sd w (d + 1) m_Cloth_wornInAll Q G) {p0 : Nat} (hp0 : isCloth p0 = true) {k4 : Int32 → Int32 → kx_M → Option (Int32 × kx_M)} {res : Int32 × kx_M} (hQ : Q (some (.int res.1)) res.2) (hk4 : ∀ (x1 : Int32) (x2 : Int32) (M : kx_M), k4 x1 x2 M = some res → G 4 [some (.ref p0), some (.int x1), some (.int x2), none, none] [] M) :
    ∀ (n : Nat) (x1 : Int32) (x2 : Int32) (x3 : Int32) (M : kx_M),
    f_Cloth_wornInAll_l14 p0 k4 n x1 x2 x3 M = some res → G 14 [some (.ref p0), some (.int x1), some (.int x2), some (.int x3), none] [] M := by
  intro n
  induction n with
  | zero =>
    intro x1 x2 x3 M h
    exact absurd h (by rw [f_Cloth_wornInAll_l14]; exact fun z => nomatch z)
  | succ n ih =>
    intro x1 x2 x3 M h
    rw [f_Cloth_wornInAll_l14] at h
    refine x_iload_n F.1 (i := 10) rfl rfl ?_
    refine x_aload_n F.1 (i := 11) rfl rfl ?_
    refine x_getI F.1 (i := 12) rfl fl_Cloth_27 (lk_Cloth hp0) (by rfl) ?_
    refine x_icmp_ge F.1 (i := 13) (tgt := 55) rfl (by decide) (fun c => ?_) (fun c => ?_)
    · replace h := if_T c h
      refine x_iinc F.1 (i := 32) rfl rfl rfl (Nat.le_of_ble_eq_true rfl) rfl ?_
      replace h := bd_e h
      refine x_goto F.1 (i := 33) (tgt := 4) rfl (by decide) ?_
      exact x_wk F.1 (hk4 _ _ _ h) ⟨rfl, rfl, rfl, trivial⟩
    · replace h := if_F c h
      refine x_iload_n F.1 (i := 14) rfl rfl ?_
      refine x_iload_n F.1 (i := 15) rfl rfl ?_
      refine cal_e h (fun r2 M1 e3 h => ?_)
      refine x_cS2i F.1 (i := 16) rfl ml_Cloth_46 ok_Cloth_at (Nat.le_of_ble_eq_true rfl) (Nat.le_of_ble_eq_true rfl) (fun _ => t_Cloth_at e3) ?_
      refine x_istore F.1 (i := 17) rfl (Nat.le_of_ble_eq_true rfl) (Nat.le_of_ble_eq_true rfl) rfl ?_
      refine x_aload_n F.1 (i := 18) rfl rfl ?_
      refine x_getC F.1 (i := 19) rfl fl_Cloth_21 (lk_Cloth hp0) (by rfl) ?_
      refine x_iload F.1 (i := 20) rfl rfl ?_
      refine gd_e h (fun g4 h => ?_)
      refine x_iald F.1 (i := 21) rfl (lk_Cloth_undone hp0) (inb_e g4) ?_
      refine x_if_ne F.1 (i := 22) (tgt := 49) rfl (by decide) (fun c => ?_) (fun c => ?_)
      · replace h := if_F c h
        refine x_iinc F.1 (i := 30) rfl rfl rfl (Nat.le_of_ble_eq_true rfl) rfl ?_
        replace h := bd_e h
        refine x_goto F.1 (i := 31) (tgt := 14) rfl (by decide) ?_
        exact x_wk F.1 (ih _ _ _ _ h) ⟨rfl, rfl, rfl, rfl, trivial⟩
      · replace h := if_T c h
        refine x_iload_n F.1 (i := 23) rfl rfl ?_
        refine x_aload_n F.1 (i := 24) rfl rfl ?_
        refine x_getC F.1 (i := 25) rfl fl_Cloth_18 (lk_Cloth hp0) (by rfl) ?_
        refine x_iload F.1 (i := 26) rfl rfl ?_
        refine gd_e h (fun g5 h => ?_)
        refine x_iald F.1 (i := 27) rfl (lk_Cloth_worn hp0) (inb_e g5) ?_
        refine x_iadd F.1 (i := 28) rfl ?_
        refine x_istore_n F.1 (i := 29) rfl (Nat.le_of_ble_eq_true rfl) (Nat.le_of_ble_eq_true rfl) rfl ?_
        replace h := bd_e h
        refine x_iinc F.1 (i := 30) rfl rfl rfl (Nat.le_of_ble_eq_true rfl) rfl ?_
        replace h := bd_e h
        refine x_goto F.1 (i := 31) (tgt := 14) rfl (by decide) ?_
        exact x_wk F.1 (ih _ _ _ _ h) ⟨rfl, rfl, rfl, rfl, trivial⟩
set_option maxHeartbeats 4000000 in
theorem t_Cloth_wornInAll_l4 {w : kx_W} {d : Nat} {Q : Option Value → kx_M → Prop} {G : Nat → List (Option Value) → List Value → kx_M → Prop} (F : Sd w (d + 1) m_Cloth_wornInAll Q G) {p0 : Nat} (hp0 : isCloth p0 = true) {res : Int32 × kx_M} (hQ : Q (some (.int res.1)) res.2) :
    ∀ (n : Nat) (x1 : Int32) (x2 : Int32) (M : kx_M),
    f_Cloth_wornInAll_l4 p0 n x1 x2 M = some res → G 4 [some (.ref p0), some (.int x1), some (.int x2), none, none] [] M := by
  intro n
  induction n with
  | zero =>
    intro x1 x2 M h
    exact absurd h (by rw [f_Cloth_wornInAll_l4]; exact fun z => nomatch z)
  | succ n ih =>
    intro x1 x2 M h
    rw [f_Cloth_wornInAll_l4] at h
    refine x_iload_n F.1 (i := 4) rfl rfl ?_
    refine x_aload_n F.1 (i := 5) rfl rfl ?_
    refine x_getI F.1 (i := 6) rfl fl_Cloth_34 (lk_Cloth hp0) (by rfl) ?_
    refine x_icmp_ge F.1 (i := 7) (tgt := 61) rfl (by decide) (fun c => ?_) (fun c => ?_)
    · replace h := if_T c h
      refine x_iload_n F.1 (i := 34) rfl rfl ?_
      exact x_iretf F (i := 35) rfl rfl h hQ
    · replace h := if_F c h
      refine x_iconst F.1 (i := 8) rfl ic_0 ?_
      refine x_istore_n F.1 (i := 9) rfl (Nat.le_of_ble_eq_true rfl) (Nat.le_of_ble_eq_true rfl) rfl ?_
      exact x_wk F.1 ((t_Cloth_wornInAll_l14 F hp0 hQ ih FU) _ _ _ _ h) ⟨rfl, rfl, rfl, rfl, trivial⟩
set_option maxHeartbeats 4000000 in
theorem t_Cloth_wornInAll {w : kx_W} {d : Nat} {M : kx_M} {Q : Option Value → kx_M → Prop} {p0 : Nat} {r : Int32} {M' : kx_M} (hp0 : isCloth p0 = true) (h : f_Cloth_wornInAll p0 M = some (r, M')) (hQ : Q (some (.int r)) M') : Ct w (d + 1) m_Cloth_wornInAll [.ref p0] M Q := by
  refine mk_ct ok_Cloth_wornInAll (Nat.le_of_ble_eq_true rfl) (fun G F => ?_)
  rw [f_Cloth_wornInAll] at h
  show G 0 [some (.ref p0), none, none, none, none] [] M
  refine x_iconst F.1 (i := 0) rfl ic_0 ?_
  refine x_istore_n F.1 (i := 1) rfl (Nat.le_of_ble_eq_true rfl) (Nat.le_of_ble_eq_true rfl) rfl ?_
  refine x_iconst F.1 (i := 2) rfl ic_0 ?_
  refine x_istore_n F.1 (i := 3) rfl (Nat.le_of_ble_eq_true rfl) (Nat.le_of_ble_eq_true rfl) rfl ?_
  exact x_wk F.1 ((t_Cloth_wornInAll_l4 F hp0 (res := (r, M')) hQ FU) _ _ _ h) ⟨rfl, rfl, rfl, trivial⟩
set_option maxHeartbeats 4000000 in
theorem t_Cloth_saysAt_l25 {w : kx_W} {d : Nat} {Q : Option Value → kx_M → Prop} {G : Nat → List (Option Value) → List Value → kx_M → Prop} (F : Sd w (d + 1) m_Cloth_saysAt Q G) {p0 : Nat} {p1 : Nat} {p2 : Int32} {p3 : Int32} {p4 : Int32} (hp0 : isCloth p0 = true) (hp1 : isDeal p1 = true) {res : Int32 × kx_M} (hQ : Q (some (.int res.1)) res.2) :
    ∀ (n : Nat) (x5 : Int32) (x6 : Int32) (M : kx_M),
    f_Cloth_saysAt_l25 p0 p1 p2 p3 p4 n x5 x6 M = some res → G 25 [some (.ref p0), some (.ref p1), some (.int p2), some (.int p3), some (.int p4), some (.int x5), some (.int x6), none] [] M := by
  intro n
  induction n with
  | zero =>
    intro x5 x6 M h
    exact absurd h (by rw [f_Cloth_saysAt_l25]; exact fun z => nomatch z)
  | succ n ih =>
    intro x5 x6 M h
    rw [f_Cloth_saysAt_l25] at h
    refine x_iload F.1 (i := 15) rfl rfl ?_
    refine x_iload F.1 (i := 16) rfl rfl ?_
    refine x_icmp_ge F.1 (i := 17) (tgt := 83) rfl (by decide) (fun c => ?_) (fun c => ?_)
    · replace h := if_T c h
      refine x_iconst F.1 (i := 47) rfl ic_1 ?_
      exact x_zretf F (i := 48) rfl rfl (Or.inr rfl) h hQ
    · replace h := if_F c h
      refine x_iload_n F.1 (i := 18) rfl rfl ?_
      refine x_iload F.1 (i := 19) rfl rfl ?_
      refine x_iload F.1 (i := 20) rfl rfl ?_
      refine x_iadd F.1 (i := 21) rfl ?_
      refine cal_e h (fun r1 M1 e2 h => ?_)
      refine x_cS2i F.1 (i := 22) rfl ml_Cloth_46 ok_Cloth_at (Nat.le_of_ble_eq_true rfl) (Nat.le_of_ble_eq_true rfl) (fun _ => t_Cloth_at e2) ?_
      refine x_istore F.1 (i := 23) rfl (Nat.le_of_ble_eq_true rfl) (Nat.le_of_ble_eq_true rfl) rfl ?_
      refine x_aload_n F.1 (i := 24) rfl rfl ?_
      refine x_getC F.1 (i := 25) rfl fl_Cloth_21 (lk_Cloth hp0) (by rfl) ?_
      refine x_iload F.1 (i := 26) rfl rfl ?_
      refine gd_e h (fun g3 h => ?_)
      refine x_iald F.1 (i := 27) rfl (lk_Cloth_undone hp0) (inb_e g3) ?_
      refine x_iconst F.1 (i := 28) rfl ic_1 ?_
      refine x_icmp_eq F.1 (i := 29) (tgt := 75) rfl (by decide) (fun c => ?_) (fun c => ?_)
      · replace h := if_T c h
        refine x_iconst F.1 (i := 43) rfl ic_0 ?_
        exact x_zretf F (i := 44) rfl rfl (Or.inl rfl) h hQ
      · replace h := if_F c h
        refine x_aload_n F.1 (i := 30) rfl rfl ?_
        refine x_getC F.1 (i := 31) rfl fl_Cloth_15 (lk_Cloth hp0) (by rfl) ?_
        refine x_iload F.1 (i := 32) rfl rfl ?_
        refine gd_e h (fun g4 h => ?_)
        refine x_iald F.1 (i := 33) rfl (lk_Cloth_kinds hp0) (inb_e g4) ?_
        refine x_aload_n F.1 (i := 34) rfl rfl ?_
        refine x_getC F.1 (i := 35) rfl fl_Cloth_89 (lk_Deal hp1) (by rfl) ?_
        refine x_iload_n F.1 (i := 36) rfl rfl ?_
        refine x_iconst F.1 (i := 37) rfl ic_5 ?_
        refine x_imul F.1 (i := 38) rfl ?_
        refine x_iload F.1 (i := 39) rfl rfl ?_
        refine x_iadd F.1 (i := 40) rfl ?_
        refine gd_e h (fun g5 h => ?_)
        refine x_iald F.1 (i := 41) rfl (lk_Deal_kinds hp1) (inb_e g5) ?_
        refine x_icmp_eq F.1 (i := 42) (tgt := 77) rfl (by decide) (fun c => ?_) (fun c => ?_)
        · replace h := if_T c h
          refine x_iinc F.1 (i := 45) rfl rfl rfl (Nat.le_of_ble_eq_true rfl) rfl ?_
          replace h := bd_e h
          refine x_goto F.1 (i := 46) (tgt := 25) rfl (by decide) ?_
          exact x_wk F.1 (ih _ _ _ h) ⟨rfl, rfl, rfl, rfl, rfl, rfl, rfl, trivial⟩
        · replace h := if_F c h
          refine x_iconst F.1 (i := 43) rfl ic_0 ?_
          exact x_zretf F (i := 44) rfl rfl (Or.inl rfl) h hQ
set_option maxHeartbeats 4000000 in
theorem t_Cloth_saysAt {w : kx_W} {d : Nat} {M : kx_M} {Q : Option Value → kx_M → Prop} {p0 : Nat} {p1 : Nat} {p2 : Int32} {p3 : Int32} {p4 : Int32} {r : Int32} {M' : kx_M} (hp0 : isCloth p0 = true) (hp1 : isDeal p1 = true) (h : f_Cloth_saysAt p0 p1 p2 p3 p4 M = some (r, M')) (hQ : Q (some (.int r)) M') : Ct w (d + 1) m_Cloth_saysAt [.ref p0, .ref p1, .int p2, .int p3, .int p4] M Q := by
  refine mk_ct ok_Cloth_saysAt (Nat.le_of_ble_eq_true rfl) (fun G F => ?_)
  rw [f_Cloth_saysAt] at h
  show G 0 [some (.ref p0), some (.ref p1), some (.int p2), some (.int p3), some (.int p4), none, none, none] [] M
  refine x_aload_n F.1 (i := 0) rfl rfl ?_
  refine x_getC F.1 (i := 1) rfl fl_Cloth_84 (lk_Deal hp1) (by rfl) ?_
  refine x_iload_n F.1 (i := 2) rfl rfl ?_
  refine gd_e h (fun g1 h => ?_)
  refine x_iald F.1 (i := 3) rfl (lk_Deal_lengths hp1) (inb_e g1) ?_
  refine x_istore F.1 (i := 4) rfl (Nat.le_of_ble_eq_true rfl) (Nat.le_of_ble_eq_true rfl) rfl ?_
  replace h := bd_e h
  refine x_iload F.1 (i := 5) rfl rfl ?_
  refine x_iload F.1 (i := 6) rfl rfl ?_
  refine x_iadd F.1 (i := 7) rfl ?_
  refine x_aload_n F.1 (i := 8) rfl rfl ?_
  refine x_getI F.1 (i := 9) rfl fl_Cloth_27 (lk_Cloth hp0) (by rfl) ?_
  refine x_icmp_le F.1 (i := 10) (tgt := 22) rfl (by decide) (fun c => ?_) (fun c => ?_)
  · replace h := if_T c h
    refine x_iconst F.1 (i := 13) rfl ic_0 ?_
    refine x_istore F.1 (i := 14) rfl (Nat.le_of_ble_eq_true rfl) (Nat.le_of_ble_eq_true rfl) rfl ?_
    exact x_wk F.1 ((t_Cloth_saysAt_l25 F hp0 hp1 (res := (r, M')) hQ FU) _ _ _ h) ⟨rfl, rfl, rfl, rfl, rfl, rfl, rfl, trivial⟩
  · replace h := if_F c h
    refine x_iconst F.1 (i := 11) rfl ic_0 ?_
    exact x_zretf F (i := 12) rfl rfl (Or.inl rfl) h (res := (r, M')) hQ
set_option maxHeartbeats 4000000 in
theorem t_Cloth_timesIn_l6 {w : kx_W} {d : Nat} {Q : Option Value → kx_M → Prop} {G : Nat → List (Option Value) → List Value → kx_M → Prop} (F : Sd w (d + 2) m_Cloth_timesIn Q G) {p0 : Nat} {p1 : Nat} {p2 : Int32} {p3 : Int32} (hp0 : isCloth p0 = true) (hp1 : isDeal p1 = true) {res : Int32 × kx_M} (hQ : Q (some (.int res.1)) res.2) :
    ∀ (n : Nat) (x4 : Int32) (x5 : Int32) (M : kx_M),
    f_Cloth_timesIn_l6 p0 p1 p2 p3 n x4 x5 M = some res → G 6 [some (.ref p0), some (.ref p1), some (.int p2), some (.int p3), some (.int x4), some (.int x5)] [] M := by
  intro n
  induction n with
  | zero =>
    intro x4 x5 M h
    exact absurd h (by rw [f_Cloth_timesIn_l6]; exact fun z => nomatch z)
  | succ n ih =>
    intro x4 x5 M h
    rw [f_Cloth_timesIn_l6] at h
    refine x_iload F.1 (i := 4) rfl rfl ?_
    refine x_aload_n F.1 (i := 5) rfl rfl ?_
    refine x_getI F.1 (i := 6) rfl fl_Cloth_27 (lk_Cloth hp0) (by rfl) ?_
    refine x_icmp_ge F.1 (i := 7) (tgt := 36) rfl (by decide) (fun c => ?_) (fun c => ?_)
    · replace h := if_T c h
      refine x_iload F.1 (i := 18) rfl rfl ?_
      exact x_iretf F (i := 19) rfl rfl h hQ
    · replace h := if_F c h
      refine x_aload_n F.1 (i := 8) rfl rfl ?_
      refine x_aload_n F.1 (i := 9) rfl rfl ?_
      refine x_iload_n F.1 (i := 10) rfl rfl ?_
      refine x_iload_n F.1 (i := 11) rfl rfl ?_
      refine x_iload F.1 (i := 12) rfl rfl ?_
      refine cal_e h (fun r1 M1 e2 h => ?_)
      refine x_cV4i F.1 (i := 13) rfl ml_Cloth_90 ok_Cloth_saysAt (lk_Cloth hp0) (Nat.le_of_ble_eq_true rfl) (Nat.le_of_ble_eq_true rfl) (fun _ => t_Cloth_saysAt hp0 hp1 e2) ?_
      refine x_if_eq F.1 (i := 14) (tgt := 30) rfl (by decide) (fun c => ?_) (fun c => ?_)
      · replace h := if_T c h
        refine x_iinc F.1 (i := 16) rfl rfl rfl (Nat.le_of_ble_eq_true rfl) rfl ?_
        replace h := bd_e h
        refine x_goto F.1 (i := 17) (tgt := 6) rfl (by decide) ?_
        exact x_wk F.1 (ih _ _ _ h) ⟨rfl, rfl, rfl, rfl, rfl, rfl, trivial⟩
      · replace h := if_F c h
        refine x_iinc F.1 (i := 15) rfl rfl rfl (Nat.le_of_ble_eq_true rfl) rfl ?_
        replace h := bd_e h
        refine x_iinc F.1 (i := 16) rfl rfl rfl (Nat.le_of_ble_eq_true rfl) rfl ?_
        replace h := bd_e h
        refine x_goto F.1 (i := 17) (tgt := 6) rfl (by decide) ?_
        exact x_wk F.1 (ih _ _ _ h) ⟨rfl, rfl, rfl, rfl, rfl, rfl, trivial⟩
set_option maxHeartbeats 4000000 in
theorem t_Cloth_timesIn {w : kx_W} {d : Nat} {M : kx_M} {Q : Option Value → kx_M → Prop} {p0 : Nat} {p1 : Nat} {p2 : Int32} {p3 : Int32} {r : Int32} {M' : kx_M} (hp0 : isCloth p0 = true) (hp1 : isDeal p1 = true) (h : f_Cloth_timesIn p0 p1 p2 p3 M = some (r, M')) (hQ : Q (some (.int r)) M') : Ct w (d + 2) m_Cloth_timesIn [.ref p0, .ref p1, .int p2, .int p3] M Q := by
  refine mk_ct ok_Cloth_timesIn (Nat.le_of_ble_eq_true rfl) (fun G F => ?_)
  rw [f_Cloth_timesIn] at h
  show G 0 [some (.ref p0), some (.ref p1), some (.int p2), some (.int p3), none, none] [] M
  refine x_iconst F.1 (i := 0) rfl ic_0 ?_
  refine x_istore F.1 (i := 1) rfl (Nat.le_of_ble_eq_true rfl) (Nat.le_of_ble_eq_true rfl) rfl ?_
  refine x_iconst F.1 (i := 2) rfl ic_0 ?_
  refine x_istore F.1 (i := 3) rfl (Nat.le_of_ble_eq_true rfl) (Nat.le_of_ble_eq_true rfl) rfl ?_
  exact x_wk F.1 ((t_Cloth_timesIn_l6 F hp0 hp1 (res := (r, M')) hQ FU) _ _ _ h) ⟨rfl, rfl, rfl, rfl, rfl, rfl, trivial⟩
set_option maxHeartbeats 4000000 in
theorem t_Cloth_saidSetIn_l5 {w : kx_W} {d : Nat} {Q : Option Value → kx_M → Prop} {G : Nat → List (Option Value) → List Value → kx_M → Prop} (F : Sd w (d + 3) m_Cloth_saidSetIn Q G) {p0 : Nat} {p1 : Nat} {p2 : Int32} (hp0 : isCloth p0 = true) (hp1 : isDeal p1 = true) {res : Int32 × kx_M} (hQ : Q (some (.int res.1)) res.2) :
    ∀ (n : Nat) (x3 : Int32) (x4 : Int32) (M : kx_M),
    f_Cloth_saidSetIn_l5 p0 p1 p2 n x3 x4 M = some res → G 5 [some (.ref p0), some (.ref p1), some (.int p2), some (.int x3), some (.int x4)] [] M := by
  intro n
  induction n with
  | zero =>
    intro x3 x4 M h
    exact absurd h (by rw [f_Cloth_saidSetIn_l5]; exact fun z => nomatch z)
  | succ n ih =>
    intro x3 x4 M h
    rw [f_Cloth_saidSetIn_l5] at h
    refine x_iload F.1 (i := 4) rfl rfl ?_
    refine x_aload_n F.1 (i := 5) rfl rfl ?_
    refine x_getI F.1 (i := 6) rfl fl_Cloth_98 (lk_Deal hp1) (by rfl) ?_
    refine x_icmp_ge F.1 (i := 7) (tgt := 38) rfl (by decide) (fun c => ?_) (fun c => ?_)
    · replace h := if_T c h
      refine x_iload_n F.1 (i := 22) rfl rfl ?_
      exact x_iretf F (i := 23) rfl rfl h hQ
    · replace h := if_F c h
      refine x_aload_n F.1 (i := 8) rfl rfl ?_
      refine x_aload_n F.1 (i := 9) rfl rfl ?_
      refine x_iload F.1 (i := 10) rfl rfl ?_
      refine x_iload_n F.1 (i := 11) rfl rfl ?_
      refine cal_e h (fun r1 M1 e2 h => ?_)
      refine x_cV3i F.1 (i := 12) rfl ml_Cloth_94 ok_Cloth_timesIn (lk_Cloth hp0) (Nat.le_of_ble_eq_true rfl) (Nat.le_of_ble_eq_true rfl) (fun _ => t_Cloth_timesIn hp0 hp1 e2) ?_
      refine x_if_le F.1 (i := 13) (tgt := 32) rfl (by decide) (fun c => ?_) (fun c => ?_)
      · replace h := if_T c h
        refine x_iinc F.1 (i := 20) rfl rfl rfl (Nat.le_of_ble_eq_true rfl) rfl ?_
        replace h := bd_e h
        refine x_goto F.1 (i := 21) (tgt := 5) rfl (by decide) ?_
        exact x_wk F.1 (ih _ _ _ h) ⟨rfl, rfl, rfl, rfl, rfl, trivial⟩
      · replace h := if_F c h
        refine x_iload_n F.1 (i := 14) rfl rfl ?_
        refine x_iconst F.1 (i := 15) rfl ic_1 ?_
        refine x_iload F.1 (i := 16) rfl rfl ?_
        refine x_ishl F.1 (i := 17) rfl ?_
        refine x_ior F.1 (i := 18) rfl ?_
        refine x_istore_n F.1 (i := 19) rfl (Nat.le_of_ble_eq_true rfl) (Nat.le_of_ble_eq_true rfl) rfl ?_
        replace h := bd_e h
        refine x_iinc F.1 (i := 20) rfl rfl rfl (Nat.le_of_ble_eq_true rfl) rfl ?_
        replace h := bd_e h
        refine x_goto F.1 (i := 21) (tgt := 5) rfl (by decide) ?_
        exact x_wk F.1 (ih _ _ _ h) ⟨rfl, rfl, rfl, rfl, rfl, trivial⟩
set_option maxHeartbeats 4000000 in
theorem t_Cloth_saidSetIn {w : kx_W} {d : Nat} {M : kx_M} {Q : Option Value → kx_M → Prop} {p0 : Nat} {p1 : Nat} {p2 : Int32} {r : Int32} {M' : kx_M} (hp0 : isCloth p0 = true) (hp1 : isDeal p1 = true) (h : f_Cloth_saidSetIn p0 p1 p2 M = some (r, M')) (hQ : Q (some (.int r)) M') : Ct w (d + 3) m_Cloth_saidSetIn [.ref p0, .ref p1, .int p2] M Q := by
  refine mk_ct ok_Cloth_saidSetIn (Nat.le_of_ble_eq_true rfl) (fun G F => ?_)
  rw [f_Cloth_saidSetIn] at h
  show G 0 [some (.ref p0), some (.ref p1), some (.int p2), none, none] [] M
  refine x_iconst F.1 (i := 0) rfl ic_0 ?_
  refine x_istore_n F.1 (i := 1) rfl (Nat.le_of_ble_eq_true rfl) (Nat.le_of_ble_eq_true rfl) rfl ?_
  refine x_iconst F.1 (i := 2) rfl ic_0 ?_
  refine x_istore F.1 (i := 3) rfl (Nat.le_of_ble_eq_true rfl) (Nat.le_of_ble_eq_true rfl) rfl ?_
  exact x_wk F.1 ((t_Cloth_saidSetIn_l5 F hp0 hp1 (res := (r, M')) hQ FU) _ _ _ h) ⟨rfl, rfl, rfl, rfl, rfl, trivial⟩
set_option maxHeartbeats 4000000 in
theorem t_Cloth_saidSet_l4 {w : kx_W} {d : Nat} {Q : Option Value → kx_M → Prop} {G : Nat → List (Option Value) → List Value → kx_M → Prop} (F : Sd w (d + 4) m_Cloth_saidSet Q G) {p0 : Nat} {p1 : Nat} (hp0 : isCloth p0 = true) (hp1 : isDeal p1 = true) {res : Int32 × kx_M} (hQ : Q (some (.int res.1)) res.2) :
    ∀ (n : Nat) (x2 : Int32) (x3 : Int32) (M : kx_M),
    f_Cloth_saidSet_l4 p0 p1 n x2 x3 M = some res → G 4 [some (.ref p0), some (.ref p1), some (.int x2), some (.int x3)] [] M := by
  intro n
  induction n with
  | zero =>
    intro x2 x3 M h
    exact absurd h (by rw [f_Cloth_saidSet_l4]; exact fun z => nomatch z)
  | succ n ih =>
    intro x2 x3 M h
    rw [f_Cloth_saidSet_l4] at h
    refine x_iload_n F.1 (i := 4) rfl rfl ?_
    refine x_aload_n F.1 (i := 5) rfl rfl ?_
    refine x_getI F.1 (i := 6) rfl fl_Cloth_34 (lk_Cloth hp0) (by rfl) ?_
    refine x_icmp_ge F.1 (i := 7) (tgt := 27) rfl (by decide) (fun c => ?_) (fun c => ?_)
    · replace h := if_T c h
      refine x_iload_n F.1 (i := 17) rfl rfl ?_
      exact x_iretf F (i := 18) rfl rfl h hQ
    · replace h := if_F c h
      refine x_iload_n F.1 (i := 8) rfl rfl ?_
      refine x_aload_n F.1 (i := 9) rfl rfl ?_
      refine x_aload_n F.1 (i := 10) rfl rfl ?_
      refine x_iload_n F.1 (i := 11) rfl rfl ?_
      refine cal_e h (fun r1 M1 e2 h => ?_)
      refine x_cV2i F.1 (i := 12) rfl ml_Cloth_101 ok_Cloth_saidSetIn (lk_Cloth hp0) (Nat.le_of_ble_eq_true rfl) (Nat.le_of_ble_eq_true rfl) (fun _ => t_Cloth_saidSetIn hp0 hp1 e2) ?_
      refine x_ior F.1 (i := 13) rfl ?_
      refine x_istore_n F.1 (i := 14) rfl (Nat.le_of_ble_eq_true rfl) (Nat.le_of_ble_eq_true rfl) rfl ?_
      replace h := bd_e h
      refine x_iinc F.1 (i := 15) rfl rfl rfl (Nat.le_of_ble_eq_true rfl) rfl ?_
      replace h := bd_e h
      refine x_goto F.1 (i := 16) (tgt := 4) rfl (by decide) ?_
      exact x_wk F.1 (ih _ _ _ h) ⟨rfl, rfl, rfl, rfl, trivial⟩
set_option maxHeartbeats 4000000 in
theorem t_Cloth_saidSet {w : kx_W} {d : Nat} {M : kx_M} {Q : Option Value → kx_M → Prop} {p0 : Nat} {p1 : Nat} {r : Int32} {M' : kx_M} (hp0 : isCloth p0 = true) (hp1 : isDeal p1 = true) (h : f_Cloth_saidSet p0 p1 M = some (r, M')) (hQ : Q (some (.int r)) M') : Ct w (d + 4) m_Cloth_saidSet [.ref p0, .ref p1] M Q := by
  refine mk_ct ok_Cloth_saidSet (Nat.le_of_ble_eq_true rfl) (fun G F => ?_)
  rw [f_Cloth_saidSet] at h
  show G 0 [some (.ref p0), some (.ref p1), none, none] [] M
  refine x_iconst F.1 (i := 0) rfl ic_0 ?_
  refine x_istore_n F.1 (i := 1) rfl (Nat.le_of_ble_eq_true rfl) (Nat.le_of_ble_eq_true rfl) rfl ?_
  refine x_iconst F.1 (i := 2) rfl ic_0 ?_
  refine x_istore_n F.1 (i := 3) rfl (Nat.le_of_ble_eq_true rfl) (Nat.le_of_ble_eq_true rfl) rfl ?_
  exact x_wk F.1 ((t_Cloth_saidSet_l4 F hp0 hp1 (res := (r, M')) hQ FU) _ _ _ h) ⟨rfl, rfl, rfl, rfl, trivial⟩
set_option maxHeartbeats 4000000 in
theorem t_KT_many_l16 {w : kx_W} {d : Nat} {Q : Option Value → kx_M → Prop} {G : Nat → List (Option Value) → List Value → kx_M → Prop} (F : Sd w (d + 5) m_KT_many Q G) {p1 : Int32} {res : Int32 × kx_M} (hQ : Q (some (.int res.1)) res.2) :
    ∀ (s0 : Nat) (s1 : Int32) (M : kx_M),
    f_KT_many_l16 p1 s0 s1 M = some res → G 16 [some (.ref 0), some (.int p1), none] [.int s1, .ref 0] M := by
  intro s0 s1 M h
  rw [f_KT_many_l16] at h
  refine cal_e h (fun r1 M1 e2 h => ?_)
  refine x_cV1i F.1 (i := 9) rfl ml_KT_103 ok_KT_refused rfl (Nat.le_of_ble_eq_true rfl) (Nat.le_of_ble_eq_true rfl) (fun _ => t_KT_refused e2) ?_
  refine x_if_eq F.1 (i := 10) (tgt := 24) rfl (by decide) (fun c => ?_) (fun c => ?_)
  · replace h := if_T c h
    refine x_aload_n F.1 (i := 13) rfl rfl ?_
    refine x_getR F.1 (i := 14) rfl fl_KT_64 rfl (by rfl) rfl ?_
    refine gd_e h (fun g3 h => ?_)
    replace h := bd_e h
    refine x_getC F.1 (i := 15) rfl fl_KT_156 (lk_State g3) (by rfl) ?_
    refine x_astore_n F.1 (i := 16) rfl (Nat.le_of_ble_eq_true rfl) (Nat.le_of_ble_eq_true rfl) rfl ?_
    replace h := bd_e h
    refine x_iload_n F.1 (i := 17) rfl rfl ?_
    refine ite_e h (fun c0 h => ?_) (fun c0 h => ?_)
    · refine x_tabIn F.1 (i := 18) (tgt := 84) rfl (by rw [c0]; decide) (by rw [c0]; decide) (by rw [c0]; rfl) (by decide) ?_
      refine x_aload_n F.1 (i := 19) rfl rfl ?_
      refine x_getI F.1 (i := 20) rfl fl_KT_186 (lk_Cloth (lD_State_cloth g3)) (by rfl) ?_
      exact x_iretf F (i := 21) rfl rfl h hQ
    refine ite_e h (fun c1 h => ?_) (fun c1 h => ?_)
    · refine x_tabIn F.1 (i := 18) (tgt := 89) rfl (by rw [c1]; decide) (by rw [c1]; decide) (by rw [c1]; rfl) (by decide) ?_
      refine x_aload_n F.1 (i := 22) rfl rfl ?_
      refine x_getI F.1 (i := 23) rfl fl_KT_189 (lk_Cloth (lD_State_cloth g3)) (by rfl) ?_
      exact x_iretf F (i := 24) rfl rfl h hQ
    refine ite_e h (fun c2 h => ?_) (fun c2 h => ?_)
    · refine x_tabIn F.1 (i := 18) (tgt := 94) rfl (by rw [c2]; decide) (by rw [c2]; decide) (by rw [c2]; rfl) (by decide) ?_
      refine x_aload_n F.1 (i := 25) rfl rfl ?_
      refine x_getR F.1 (i := 26) rfl fl_KT_64 rfl (by rfl) rfl ?_
      refine gd_e h (fun g6 h => ?_)
      replace h := bd_e h
      refine x_getC F.1 (i := 27) rfl fl_KT_192 (lk_State g6) (by rfl) ?_
      refine x_getI F.1 (i := 28) rfl fl_KT_196 (lk_Deal (lD_State_deal g6)) (by rfl) ?_
      exact x_iretf F (i := 29) rfl rfl h hQ
    refine ite_e h (fun c3 h => ?_) (fun c3 h => ?_)
    · refine x_tabIn F.1 (i := 18) (tgt := 105) rfl (by rw [c3]; decide) (by rw [c3]; decide) (by rw [c3]; rfl) (by decide) ?_
      refine x_aload_n F.1 (i := 30) rfl rfl ?_
      refine x_getR F.1 (i := 31) rfl fl_KT_64 rfl (by rfl) rfl ?_
      refine gd_e h (fun g8 h => ?_)
      replace h := bd_e h
      refine x_getC F.1 (i := 32) rfl fl_KT_192 (lk_State g8) (by rfl) ?_
      refine x_getI F.1 (i := 33) rfl fl_KT_201 (lk_Deal (lD_State_deal g8)) (by rfl) ?_
      exact x_iretf F (i := 34) rfl rfl h hQ
    refine ite_e h (fun c4 h => ?_) (fun c4 h => ?_)
    · refine x_tabIn F.1 (i := 18) (tgt := 116) rfl (by rw [c4]; decide) (by rw [c4]; decide) (by rw [c4]; rfl) (by decide) ?_
      refine x_aload_n F.1 (i := 35) rfl rfl ?_
      refine x_getI F.1 (i := 36) rfl fl_KT_160 (lk_Cloth (lD_State_cloth g3)) (by rfl) ?_
      exact x_iretf F (i := 37) rfl rfl h hQ
    refine ite_e h (fun c5 h => ?_) (fun c5 h => ?_)
    · refine x_tabIn F.1 (i := 18) (tgt := 121) rfl (by rw [c5]; decide) (by rw [c5]; decide) (by rw [c5]; rfl) (by decide) ?_
      refine x_aload_n F.1 (i := 38) rfl rfl ?_
      refine x_getI F.1 (i := 39) rfl fl_KT_204 (lk_Cloth (lD_State_cloth g3)) (by rfl) ?_
      exact x_iretf F (i := 40) rfl rfl h hQ
    refine ite_e h (fun c6 h => ?_) (fun c6 h => ?_)
    · refine x_tabIn F.1 (i := 18) (tgt := 126) rfl (by rw [c6]; decide) (by rw [c6]; decide) (by rw [c6]; rfl) (by decide) ?_
      refine x_aload_n F.1 (i := 41) rfl rfl ?_
      refine x_aload_n F.1 (i := 42) rfl rfl ?_
      refine x_getC F.1 (i := 43) rfl fl_KT_207 (lk_Cloth (lD_State_cloth g3)) (by rfl) ?_
      refine cal_e h (fun r10 M2 e11 h => ?_)
      refine x_cV1i F.1 (i := 44) rfl ml_KT_210 ok_Cloth_sum (lk_Cloth (lD_State_cloth g3)) (Nat.le_of_ble_eq_true rfl) (Nat.le_of_ble_eq_true rfl) (fun _ => t_Cloth_sum (lD_State_cloth g3) e11) ?_
      exact x_iretf F (i := 45) rfl rfl h hQ
    refine ite_e h (fun c7 h => ?_) (fun c7 h => ?_)
    · refine x_tabIn F.1 (i := 18) (tgt := 135) rfl (by rw [c7]; decide) (by rw [c7]; decide) (by rw [c7]; rfl) (by decide) ?_
      refine x_aload_n F.1 (i := 46) rfl rfl ?_
      refine x_aload_n F.1 (i := 47) rfl rfl ?_
      refine x_getC F.1 (i := 48) rfl fl_KT_214 (lk_Cloth (lD_State_cloth g3)) (by rfl) ?_
      refine cal_e h (fun r12 M3 e13 h => ?_)
      refine x_cV1i F.1 (i := 49) rfl ml_KT_210 ok_Cloth_sum (lk_Cloth (lD_State_cloth g3)) (Nat.le_of_ble_eq_true rfl) (Nat.le_of_ble_eq_true rfl) (fun _ => t_Cloth_sum (lD_State_cloth g3) e13) ?_
      exact x_iretf F (i := 50) rfl rfl h hQ
    refine ite_e h (fun c8 h => ?_) (fun c8 h => ?_)
    · refine x_tabIn F.1 (i := 18) (tgt := 144) rfl (by rw [c8]; decide) (by rw [c8]; decide) (by rw [c8]; rfl) (by decide) ?_
      refine x_aload_n F.1 (i := 51) rfl rfl ?_
      refine cal_e h (fun r14 M4 e15 h => ?_)
      refine x_cV0i F.1 (i := 52) rfl ml_KT_217 ok_Cloth_wornInAll (lk_Cloth (lD_State_cloth g3)) (Nat.le_of_ble_eq_true rfl) (Nat.le_of_ble_eq_true rfl) (fun _ => t_Cloth_wornInAll (lD_State_cloth g3) e15) ?_
      exact x_iretf F (i := 53) rfl rfl h hQ
    have c0z := ne_toInt (z := 0) c0 (by decide)
    have c1z := ne_toInt (z := 1) c1 (by decide)
    have c2z := ne_toInt (z := 2) c2 (by decide)
    have c3z := ne_toInt (z := 3) c3 (by decide)
    have c4z := ne_toInt (z := 4) c4 (by decide)
    have c5z := ne_toInt (z := 5) c5 (by decide)
    have c6z := ne_toInt (z := 6) c6 (by decide)
    have c7z := ne_toInt (z := 7) c7 (by decide)
    have c8z := ne_toInt (z := 8) c8 (by decide)
    refine x_tabOut F.1 (i := 18) (tgt := 149) rfl (by omega) (by decide) ?_
    refine x_aload_n F.1 (i := 54) rfl rfl ?_
    refine x_aload_n F.1 (i := 55) rfl rfl ?_
    refine x_getR F.1 (i := 56) rfl fl_KT_64 rfl (by rfl) rfl ?_
    refine gd_e h (fun g16 h => ?_)
    replace h := bd_e h
    refine x_getC F.1 (i := 57) rfl fl_KT_192 (lk_State g16) (by rfl) ?_
    refine cal_e h (fun r18 M5 e19 h => ?_)
    refine x_cV1i F.1 (i := 58) rfl ml_KT_221 ok_Cloth_saidSet (lk_Cloth (lD_State_cloth g3)) (Nat.le_of_ble_eq_true rfl) (Nat.le_of_ble_eq_true rfl) (fun _ => t_Cloth_saidSet (lD_State_cloth g3) (lD_State_deal g16) e19) ?_
    exact x_iretf F (i := 59) rfl rfl h hQ
  · replace h := if_F c h
    refine x_iconst F.1 (i := 11) rfl ic_n1 ?_
    exact x_iretf F (i := 12) rfl rfl h hQ
set_option maxHeartbeats 4000000 in
theorem t_KT_many {w : kx_W} {d : Nat} {M : kx_M} {Q : Option Value → kx_M → Prop} {p1 : Int32} {r : Int32} {M' : kx_M} (h : f_KT_many p1 M = some (r, M')) (hQ : Q (some (.int r)) M') : Ct w (d + 5) m_KT_many [.ref 0, .int p1] M Q := by
  refine mk_ct ok_KT_many (Nat.le_of_ble_eq_true rfl) (fun G F => ?_)
  rw [f_KT_many] at h
  show G 0 [some (.ref 0), some (.int p1), none] [] M
  refine x_aload_n F.1 (i := 0) rfl rfl ?_
  refine x_iload_n F.1 (i := 1) rfl rfl ?_
  refine x_if_lt F.1 (i := 2) (tgt := 11) rfl (by decide) (fun c => ?_) (fun c => ?_)
  · replace h := if_T c h
    refine x_iconst F.1 (i := 6) rfl ic_5 ?_
    refine x_goto F.1 (i := 7) (tgt := 16) rfl (by decide) ?_
    exact x_wk F.1 ((t_KT_many_l16 F (res := (r, M')) hQ) _ _ _ h) ⟨rfl, rfl, trivial⟩
  · replace h := if_F c h
    refine x_iload_n F.1 (i := 3) rfl rfl ?_
    refine x_bipush F.1 (i := 4) rfl bp_9 ?_
    refine x_icmp_le F.1 (i := 5) (tgt := 15) rfl (by decide) (fun c => ?_) (fun c => ?_)
    · replace h := if_T c h
      refine x_iconst F.1 (i := 8) rfl ic_0 ?_
      exact x_wk F.1 ((t_KT_many_l16 F (res := (r, M')) hQ) _ _ _ h) ⟨rfl, rfl, trivial⟩
    · replace h := if_F c h
      refine x_iconst F.1 (i := 6) rfl ic_5 ?_
      refine x_goto F.1 (i := 7) (tgt := 16) rfl (by decide) ?_
      exact x_wk F.1 ((t_KT_many_l16 F (res := (r, M')) hQ) _ _ _ h) ⟨rfl, rfl, trivial⟩
set_option maxHeartbeats 4000000 in
theorem t_KT_noRow {w : kx_W} {d : Nat} {M : kx_M} {Q : Option Value → kx_M → Prop} {p1 : Int32} {r : Int32} {M' : kx_M} (h : f_KT_noRow p1 M = some (r, M')) (hQ : Q (some (.int r)) M') : Ct w d m_KT_noRow [.ref 0, .int p1] M Q := by
  refine mk_ct ok_KT_noRow (Nat.le_of_ble_eq_true rfl) (fun G F => ?_)
  rw [f_KT_noRow] at h
  show G 0 [some (.ref 0), some (.int p1)] [] M
  refine x_iload_n F.1 (i := 0) rfl rfl ?_
  refine x_if_lt F.1 (i := 1) (tgt := 18) rfl (by decide) (fun c => ?_) (fun c => ?_)
  · replace h := if_T c h
    refine x_iconst F.1 (i := 8) rfl ic_1 ?_
    refine x_goto F.1 (i := 9) (tgt := 23) rfl (by decide) ?_
    exact x_zretf F (i := 11) rfl rfl (Or.inr rfl) h (res := (r, M')) hQ
  · replace h := if_F c h
    refine x_iload_n F.1 (i := 2) rfl rfl ?_
    refine x_aload_n F.1 (i := 3) rfl rfl ?_
    refine x_getR F.1 (i := 4) rfl fl_KT_64 rfl (by rfl) rfl ?_
    refine gd_e h (fun g1 h => ?_)
    replace h := bd_e h
    refine x_getC F.1 (i := 5) rfl fl_KT_156 (lk_State g1) (by rfl) ?_
    refine x_getI F.1 (i := 6) rfl fl_KT_160 (lk_Cloth (lD_State_cloth g1)) (by rfl) ?_
    refine x_icmp_lt F.1 (i := 7) (tgt := 22) rfl (by decide) (fun c => ?_) (fun c => ?_)
    · replace h := if_T c h
      refine x_iconst F.1 (i := 10) rfl ic_0 ?_
      exact x_zretf F (i := 11) rfl rfl (Or.inl rfl) h (res := (r, M')) hQ
    · replace h := if_F c h
      refine x_iconst F.1 (i := 8) rfl ic_1 ?_
      refine x_goto F.1 (i := 9) (tgt := 23) rfl (by decide) ?_
      exact x_zretf F (i := 11) rfl rfl (Or.inr rfl) h (res := (r, M')) hQ
set_option maxHeartbeats 4000000 in
theorem t_KT_noColumn {w : kx_W} {d : Nat} {M : kx_M} {Q : Option Value → kx_M → Prop} {p1 : Int32} {r : Int32} {M' : kx_M} (h : f_KT_noColumn p1 M = some (r, M')) (hQ : Q (some (.int r)) M') : Ct w d m_KT_noColumn [.ref 0, .int p1] M Q := by
  refine mk_ct ok_KT_noColumn (Nat.le_of_ble_eq_true rfl) (fun G F => ?_)
  rw [f_KT_noColumn] at h
  show G 0 [some (.ref 0), some (.int p1)] [] M
  refine x_iload_n F.1 (i := 0) rfl rfl ?_
  refine x_if_lt F.1 (i := 1) (tgt := 18) rfl (by decide) (fun c => ?_) (fun c => ?_)
  · replace h := if_T c h
    refine x_iconst F.1 (i := 8) rfl ic_1 ?_
    refine x_goto F.1 (i := 9) (tgt := 23) rfl (by decide) ?_
    exact x_zretf F (i := 11) rfl rfl (Or.inr rfl) h (res := (r, M')) hQ
  · replace h := if_F c h
    refine x_iload_n F.1 (i := 2) rfl rfl ?_
    refine x_aload_n F.1 (i := 3) rfl rfl ?_
    refine x_getR F.1 (i := 4) rfl fl_KT_64 rfl (by rfl) rfl ?_
    refine gd_e h (fun g1 h => ?_)
    replace h := bd_e h
    refine x_getC F.1 (i := 5) rfl fl_KT_156 (lk_State g1) (by rfl) ?_
    refine x_getI F.1 (i := 6) rfl fl_KT_186 (lk_Cloth (lD_State_cloth g1)) (by rfl) ?_
    refine x_icmp_lt F.1 (i := 7) (tgt := 22) rfl (by decide) (fun c => ?_) (fun c => ?_)
    · replace h := if_T c h
      refine x_iconst F.1 (i := 10) rfl ic_0 ?_
      exact x_zretf F (i := 11) rfl rfl (Or.inl rfl) h (res := (r, M')) hQ
    · replace h := if_F c h
      refine x_iconst F.1 (i := 8) rfl ic_1 ?_
      refine x_goto F.1 (i := 9) (tgt := 23) rfl (by decide) ?_
      exact x_zretf F (i := 11) rfl rfl (Or.inr rfl) h (res := (r, M')) hQ
set_option maxHeartbeats 4000000 in
theorem t_KT_stitch_l37 {w : kx_W} {d : Nat} {Q : Option Value → kx_M → Prop} {G : Nat → List (Option Value) → List Value → kx_M → Prop} (F : Sd w (d + 1) m_KT_stitch Q G) {p1 : Int32} {p2 : Int32} {p3 : Int32} {res : Int32 × kx_M} (hQ : Q (some (.int res.1)) res.2) :
    ∀ (x4 : Int32) (M : kx_M),
    f_KT_stitch_l37 p1 p2 p3 x4 M = some res → G 37 [some (.ref 0), some (.int p1), some (.int p2), some (.int p3), some (.int x4), none, none] [] M := by
  intro x4 M h
  rw [f_KT_stitch_l37] at h
  refine x_aload_n F.1 (i := 20) rfl rfl ?_
  refine x_iload F.1 (i := 21) rfl rfl ?_
  refine cal_e h (fun r1 M1 e2 h => ?_)
  refine x_cV1i F.1 (i := 22) rfl ml_KT_103 ok_KT_refused rfl (Nat.le_of_ble_eq_true rfl) (Nat.le_of_ble_eq_true rfl) (fun _ => t_KT_refused e2) ?_
  refine x_if_eq F.1 (i := 23) (tgt := 48) rfl (by decide) (fun c => ?_) (fun c => ?_)
  · replace h := if_T c h
    refine x_aload_n F.1 (i := 26) rfl rfl ?_
    refine x_getR F.1 (i := 27) rfl fl_KT_64 rfl (by rfl) rfl ?_
    refine gd_e h (fun g3 h => ?_)
    replace h := bd_e h
    refine x_getC F.1 (i := 28) rfl fl_KT_156 (lk_State g3) (by rfl) ?_
    refine x_astore F.1 (i := 29) rfl (Nat.le_of_ble_eq_true rfl) (Nat.le_of_ble_eq_true rfl) rfl ?_
    replace h := bd_e h
    refine x_iload_n F.1 (i := 30) rfl rfl ?_
    refine x_iload_n F.1 (i := 31) rfl rfl ?_
    refine cal_e h (fun r6 M2 e7 h => ?_)
    refine x_cS2i F.1 (i := 32) rfl ml_KT_231 ok_Cloth_at (Nat.le_of_ble_eq_true rfl) (Nat.le_of_ble_eq_true rfl) (fun _ => t_Cloth_at e7) ?_
    refine x_istore F.1 (i := 33) rfl (Nat.le_of_ble_eq_true rfl) (Nat.le_of_ble_eq_true rfl) rfl ?_
    refine x_iload_n F.1 (i := 34) rfl rfl ?_
    refine ite_e h (fun c0 h => ?_) (fun c0 h => ?_)
    · refine x_tabIn F.1 (i := 35) (tgt := 92) rfl (by rw [c0]; decide) (by rw [c0]; decide) (by rw [c0]; rfl) (by decide) ?_
      refine x_aload F.1 (i := 36) rfl rfl ?_
      refine x_getC F.1 (i := 37) rfl fl_KT_234 (lk_Cloth (lD_State_cloth g3)) (by rfl) ?_
      refine x_iload F.1 (i := 38) rfl rfl ?_
      refine gd_e h (fun g8 h => ?_)
      refine x_iald F.1 (i := 39) rfl (lk_Cloth_kinds (lD_State_cloth g3)) (inb_e g8) ?_
      exact x_iretf F (i := 40) rfl rfl h hQ
    refine ite_e h (fun c1 h => ?_) (fun c1 h => ?_)
    · refine x_tabIn F.1 (i := 35) (tgt := 101) rfl (by rw [c1]; decide) (by rw [c1]; decide) (by rw [c1]; rfl) (by decide) ?_
      refine x_aload F.1 (i := 41) rfl rfl ?_
      refine x_getC F.1 (i := 42) rfl fl_KT_237 (lk_Cloth (lD_State_cloth g3)) (by rfl) ?_
      refine x_iload F.1 (i := 43) rfl rfl ?_
      refine gd_e h (fun g9 h => ?_)
      refine x_iald F.1 (i := 44) rfl (lk_Cloth_worn (lD_State_cloth g3)) (inb_e g9) ?_
      exact x_iretf F (i := 45) rfl rfl h hQ
    refine ite_e h (fun c2 h => ?_) (fun c2 h => ?_)
    · refine x_tabIn F.1 (i := 35) (tgt := 110) rfl (by rw [c2]; decide) (by rw [c2]; decide) (by rw [c2]; rfl) (by decide) ?_
      refine x_aload F.1 (i := 46) rfl rfl ?_
      refine x_getC F.1 (i := 47) rfl fl_KT_207 (lk_Cloth (lD_State_cloth g3)) (by rfl) ?_
      refine x_iload F.1 (i := 48) rfl rfl ?_
      refine gd_e h (fun g10 h => ?_)
      refine x_iald F.1 (i := 49) rfl (lk_Cloth_undone (lD_State_cloth g3)) (inb_e g10) ?_
      exact x_iretf F (i := 50) rfl rfl h hQ
    have c0z := ne_toInt (z := 0) c0 (by decide)
    have c1z := ne_toInt (z := 1) c1 (by decide)
    have c2z := ne_toInt (z := 2) c2 (by decide)
    refine x_tabOut F.1 (i := 35) (tgt := 119) rfl (by omega) (by decide) ?_
    refine x_aload F.1 (i := 51) rfl rfl ?_
    refine x_getC F.1 (i := 52) rfl fl_KT_214 (lk_Cloth (lD_State_cloth g3)) (by rfl) ?_
    refine x_iload F.1 (i := 53) rfl rfl ?_
    refine gd_e h (fun g11 h => ?_)
    refine x_iald F.1 (i := 54) rfl (lk_Cloth_darned (lD_State_cloth g3)) (inb_e g11) ?_
    exact x_iretf F (i := 55) rfl rfl h hQ
  · replace h := if_F c h
    refine x_iconst F.1 (i := 24) rfl ic_n1 ?_
    exact x_iretf F (i := 25) rfl rfl h hQ
set_option maxHeartbeats 4000000 in
theorem t_KT_stitch {w : kx_W} {d : Nat} {M : kx_M} {Q : Option Value → kx_M → Prop} {p1 : Int32} {p2 : Int32} {p3 : Int32} {r : Int32} {M' : kx_M} (h : f_KT_stitch p1 p2 p3 M = some (r, M')) (hQ : Q (some (.int r)) M') : Ct w (d + 1) m_KT_stitch [.ref 0, .int p1, .int p2, .int p3] M Q := by
  refine mk_ct ok_KT_stitch (Nat.le_of_ble_eq_true rfl) (fun G F => ?_)
  rw [f_KT_stitch] at h
  show G 0 [some (.ref 0), some (.int p1), some (.int p2), some (.int p3), none, none, none] [] M
  refine x_iconst F.1 (i := 0) rfl ic_0 ?_
  refine x_istore F.1 (i := 1) rfl (Nat.le_of_ble_eq_true rfl) (Nat.le_of_ble_eq_true rfl) rfl ?_
  refine x_aload_n F.1 (i := 2) rfl rfl ?_
  refine x_iload_n F.1 (i := 3) rfl rfl ?_
  refine cal_e h (fun r1 M1 e2 h => ?_)
  refine x_cV1i F.1 (i := 4) rfl ml_KT_225 ok_KT_noRow rfl (Nat.le_of_ble_eq_true rfl) (Nat.le_of_ble_eq_true rfl) (fun _ => t_KT_noRow e2) ?_
  refine x_if_ne F.1 (i := 5) (tgt := 19) rfl (by decide) (fun c => ?_) (fun c => ?_)
  · replace h := if_F c h
    refine x_iconst F.1 (i := 10) rfl ic_2 ?_
    refine x_istore F.1 (i := 11) rfl (Nat.le_of_ble_eq_true rfl) (Nat.le_of_ble_eq_true rfl) rfl ?_
    refine x_goto F.1 (i := 12) (tgt := 37) rfl (by decide) ?_
    exact x_wk F.1 ((t_KT_stitch_l37 F (res := (r, M')) hQ) _ _ h) ⟨rfl, rfl, rfl, rfl, rfl, trivial⟩
  · replace h := if_T c h
    refine x_aload_n F.1 (i := 6) rfl rfl ?_
    refine x_iload_n F.1 (i := 7) rfl rfl ?_
    refine cal_e h (fun r3 M2 e4 h => ?_)
    refine x_cV1i F.1 (i := 8) rfl ml_KT_228 ok_KT_noColumn rfl (Nat.le_of_ble_eq_true rfl) (Nat.le_of_ble_eq_true rfl) (fun _ => t_KT_noColumn e4) ?_
    refine x_if_eq F.1 (i := 9) (tgt := 25) rfl (by decide) (fun c => ?_) (fun c => ?_)
    · replace h := if_T c h
      refine x_iload_n F.1 (i := 13) rfl rfl ?_
      refine x_if_lt F.1 (i := 14) (tgt := 34) rfl (by decide) (fun c => ?_) (fun c => ?_)
      · replace h := if_T c h
        refine x_iconst F.1 (i := 18) rfl ic_5 ?_
        refine x_istore F.1 (i := 19) rfl (Nat.le_of_ble_eq_true rfl) (Nat.le_of_ble_eq_true rfl) rfl ?_
        exact x_wk F.1 ((t_KT_stitch_l37 F (res := (r, M')) hQ) _ _ h) ⟨rfl, rfl, rfl, rfl, rfl, trivial⟩
      · replace h := if_F c h
        refine x_iload_n F.1 (i := 15) rfl rfl ?_
        refine x_iconst F.1 (i := 16) rfl ic_3 ?_
        refine x_icmp_le F.1 (i := 17) (tgt := 37) rfl (by decide) (fun c => ?_) (fun c => ?_)
        · replace h := if_T c h
          exact x_wk F.1 ((t_KT_stitch_l37 F (res := (r, M')) hQ) _ _ h) ⟨rfl, rfl, rfl, rfl, rfl, trivial⟩
        · replace h := if_F c h
          refine x_iconst F.1 (i := 18) rfl ic_5 ?_
          refine x_istore F.1 (i := 19) rfl (Nat.le_of_ble_eq_true rfl) (Nat.le_of_ble_eq_true rfl) rfl ?_
          exact x_wk F.1 ((t_KT_stitch_l37 F (res := (r, M')) hQ) _ _ h) ⟨rfl, rfl, rfl, rfl, rfl, trivial⟩
    · replace h := if_F c h
      refine x_iconst F.1 (i := 10) rfl ic_2 ?_
      refine x_istore F.1 (i := 11) rfl (Nat.le_of_ble_eq_true rfl) (Nat.le_of_ble_eq_true rfl) rfl ?_
      refine x_goto F.1 (i := 12) (tgt := 37) rfl (by decide) ?_
      exact x_wk F.1 ((t_KT_stitch_l37 F (res := (r, M')) hQ) _ _ h) ⟨rfl, rfl, rfl, rfl, rfl, trivial⟩
set_option maxHeartbeats 4000000 in
theorem t_KT_queenOf_l14 {w : kx_W} {d : Nat} {Q : Option Value → kx_M → Prop} {G : Nat → List (Option Value) → List Value → kx_M → Prop} (F : Sd w (d + 1) m_KT_queenOf Q G) {p1 : Int32} {res : Int32 × kx_M} (hQ : Q (some (.int res.1)) res.2) :
    ∀ (s0 : Nat) (s1 : Int32) (M : kx_M),
    f_KT_queenOf_l14 p1 s0 s1 M = some res → G 14 [some (.ref 0), some (.int p1)] [.int s1, .ref 0] M := by
  intro s0 s1 M h
  rw [f_KT_queenOf_l14] at h
  refine cal_e h (fun r1 M1 e2 h => ?_)
  refine x_cV1i F.1 (i := 8) rfl ml_KT_103 ok_KT_refused rfl (Nat.le_of_ble_eq_true rfl) (Nat.le_of_ble_eq_true rfl) (fun _ => t_KT_refused e2) ?_
  refine x_if_eq F.1 (i := 9) (tgt := 22) rfl (by decide) (fun c => ?_) (fun c => ?_)
  · replace h := if_T c h
    refine x_aload_n F.1 (i := 12) rfl rfl ?_
    refine x_getR F.1 (i := 13) rfl fl_KT_64 rfl (by rfl) rfl ?_
    refine gd_e h (fun g3 h => ?_)
    replace h := bd_e h
    refine x_getC F.1 (i := 14) rfl fl_KT_156 (lk_State g3) (by rfl) ?_
    refine x_getC F.1 (i := 15) rfl fl_KT_240 (lk_Cloth (lD_State_cloth g3)) (by rfl) ?_
    refine x_iload_n F.1 (i := 16) rfl rfl ?_
    refine gd_e h (fun g5 h => ?_)
    refine x_iald F.1 (i := 17) rfl (lk_Cloth_owner (lD_State_cloth g3)) (inb_e g5) ?_
    exact x_iretf F (i := 18) rfl rfl h hQ
  · replace h := if_F c h
    refine x_iconst F.1 (i := 10) rfl ic_n1 ?_
    exact x_iretf F (i := 11) rfl rfl h hQ
set_option maxHeartbeats 4000000 in
theorem t_KT_queenOf {w : kx_W} {d : Nat} {M : kx_M} {Q : Option Value → kx_M → Prop} {p1 : Int32} {r : Int32} {M' : kx_M} (h : f_KT_queenOf p1 M = some (r, M')) (hQ : Q (some (.int r)) M') : Ct w (d + 1) m_KT_queenOf [.ref 0, .int p1] M Q := by
  refine mk_ct ok_KT_queenOf (Nat.le_of_ble_eq_true rfl) (fun G F => ?_)
  rw [f_KT_queenOf] at h
  show G 0 [some (.ref 0), some (.int p1)] [] M
  refine x_aload_n F.1 (i := 0) rfl rfl ?_
  refine x_aload_n F.1 (i := 1) rfl rfl ?_
  refine x_iload_n F.1 (i := 2) rfl rfl ?_
  refine cal_e h (fun r1 M1 e2 h => ?_)
  refine x_cV1i F.1 (i := 3) rfl ml_KT_225 ok_KT_noRow rfl (Nat.le_of_ble_eq_true rfl) (Nat.le_of_ble_eq_true rfl) (fun _ => t_KT_noRow e2) ?_
  refine x_if_eq F.1 (i := 4) (tgt := 13) rfl (by decide) (fun c => ?_) (fun c => ?_)
  · replace h := if_T c h
    refine x_iconst F.1 (i := 7) rfl ic_0 ?_
    exact x_wk F.1 ((t_KT_queenOf_l14 F (res := (r, M')) hQ) _ _ _ h) ⟨rfl, rfl, trivial⟩
  · replace h := if_F c h
    refine x_iconst F.1 (i := 5) rfl ic_2 ?_
    refine x_goto F.1 (i := 6) (tgt := 14) rfl (by decide) ?_
    exact x_wk F.1 ((t_KT_queenOf_l14 F (res := (r, M')) hQ) _ _ _ h) ⟨rfl, rfl, trivial⟩
set_option maxHeartbeats 4000000 in
theorem t_KT_noQueen {w : kx_W} {d : Nat} {M : kx_M} {Q : Option Value → kx_M → Prop} {p1 : Int32} {r : Int32} {M' : kx_M} (h : f_KT_noQueen p1 M = some (r, M')) (hQ : Q (some (.int r)) M') : Ct w d m_KT_noQueen [.ref 0, .int p1] M Q := by
  refine mk_ct ok_KT_noQueen (Nat.le_of_ble_eq_true rfl) (fun G F => ?_)
  rw [f_KT_noQueen] at h
  show G 0 [some (.ref 0), some (.int p1)] [] M
  refine x_iload_n F.1 (i := 0) rfl rfl ?_
  refine x_if_lt F.1 (i := 1) (tgt := 18) rfl (by decide) (fun c => ?_) (fun c => ?_)
  · replace h := if_T c h
    refine x_iconst F.1 (i := 8) rfl ic_1 ?_
    refine x_goto F.1 (i := 9) (tgt := 23) rfl (by decide) ?_
    exact x_zretf F (i := 11) rfl rfl (Or.inr rfl) h (res := (r, M')) hQ
  · replace h := if_F c h
    refine x_iload_n F.1 (i := 2) rfl rfl ?_
    refine x_aload_n F.1 (i := 3) rfl rfl ?_
    refine x_getR F.1 (i := 4) rfl fl_KT_64 rfl (by rfl) rfl ?_
    refine gd_e h (fun g1 h => ?_)
    replace h := bd_e h
    refine x_getC F.1 (i := 5) rfl fl_KT_192 (lk_State g1) (by rfl) ?_
    refine x_getI F.1 (i := 6) rfl fl_KT_196 (lk_Deal (lD_State_deal g1)) (by rfl) ?_
    refine x_icmp_lt F.1 (i := 7) (tgt := 22) rfl (by decide) (fun c => ?_) (fun c => ?_)
    · replace h := if_T c h
      refine x_iconst F.1 (i := 10) rfl ic_0 ?_
      exact x_zretf F (i := 11) rfl rfl (Or.inl rfl) h (res := (r, M')) hQ
    · replace h := if_F c h
      refine x_iconst F.1 (i := 8) rfl ic_1 ?_
      refine x_goto F.1 (i := 9) (tgt := 23) rfl (by decide) ?_
      exact x_zretf F (i := 11) rfl rfl (Or.inr rfl) h (res := (r, M')) hQ
set_option maxHeartbeats 4000000 in
theorem t_KT_wool_l14 {w : kx_W} {d : Nat} {Q : Option Value → kx_M → Prop} {G : Nat → List (Option Value) → List Value → kx_M → Prop} (F : Sd w (d + 1) m_KT_wool Q G) {p1 : Int32} {res : Int32 × kx_M} (hQ : Q (some (.int res.1)) res.2) :
    ∀ (s0 : Nat) (s1 : Int32) (M : kx_M),
    f_KT_wool_l14 p1 s0 s1 M = some res → G 14 [some (.ref 0), some (.int p1)] [.int s1, .ref 0] M := by
  intro s0 s1 M h
  rw [f_KT_wool_l14] at h
  refine cal_e h (fun r1 M1 e2 h => ?_)
  refine x_cV1i F.1 (i := 8) rfl ml_KT_103 ok_KT_refused rfl (Nat.le_of_ble_eq_true rfl) (Nat.le_of_ble_eq_true rfl) (fun _ => t_KT_refused e2) ?_
  refine x_if_eq F.1 (i := 9) (tgt := 22) rfl (by decide) (fun c => ?_) (fun c => ?_)
  · replace h := if_T c h
    refine x_aload_n F.1 (i := 12) rfl rfl ?_
    refine x_getR F.1 (i := 13) rfl fl_KT_64 rfl (by rfl) rfl ?_
    refine gd_e h (fun g3 h => ?_)
    replace h := bd_e h
    refine x_getC F.1 (i := 14) rfl fl_KT_192 (lk_State g3) (by rfl) ?_
    refine x_getC F.1 (i := 15) rfl fl_KT_246 (lk_Deal (lD_State_deal g3)) (by rfl) ?_
    refine x_iload_n F.1 (i := 16) rfl rfl ?_
    refine gd_e h (fun g5 h => ?_)
    refine x_iald F.1 (i := 17) rfl (lk_Deal_wools (lD_State_deal g3)) (inb_e g5) ?_
    exact x_iretf F (i := 18) rfl rfl h hQ
  · replace h := if_F c h
    refine x_iconst F.1 (i := 10) rfl ic_n1 ?_
    exact x_iretf F (i := 11) rfl rfl h hQ
set_option maxHeartbeats 4000000 in
theorem t_KT_wool {w : kx_W} {d : Nat} {M : kx_M} {Q : Option Value → kx_M → Prop} {p1 : Int32} {r : Int32} {M' : kx_M} (h : f_KT_wool p1 M = some (r, M')) (hQ : Q (some (.int r)) M') : Ct w (d + 1) m_KT_wool [.ref 0, .int p1] M Q := by
  refine mk_ct ok_KT_wool (Nat.le_of_ble_eq_true rfl) (fun G F => ?_)
  rw [f_KT_wool] at h
  show G 0 [some (.ref 0), some (.int p1)] [] M
  refine x_aload_n F.1 (i := 0) rfl rfl ?_
  refine x_aload_n F.1 (i := 1) rfl rfl ?_
  refine x_iload_n F.1 (i := 2) rfl rfl ?_
  refine cal_e h (fun r1 M1 e2 h => ?_)
  refine x_cV1i F.1 (i := 3) rfl ml_KT_243 ok_KT_noQueen rfl (Nat.le_of_ble_eq_true rfl) (Nat.le_of_ble_eq_true rfl) (fun _ => t_KT_noQueen e2) ?_
  refine x_if_eq F.1 (i := 4) (tgt := 13) rfl (by decide) (fun c => ?_) (fun c => ?_)
  · replace h := if_T c h
    refine x_iconst F.1 (i := 7) rfl ic_0 ?_
    exact x_wk F.1 ((t_KT_wool_l14 F (res := (r, M')) hQ) _ _ _ h) ⟨rfl, rfl, trivial⟩
  · replace h := if_F c h
    refine x_iconst F.1 (i := 5) rfl ic_2 ?_
    refine x_goto F.1 (i := 6) (tgt := 14) rfl (by decide) ?_
    exact x_wk F.1 ((t_KT_wool_l14 F (res := (r, M')) hQ) _ _ _ h) ⟨rfl, rfl, trivial⟩
set_option maxHeartbeats 4000000 in
theorem t_KT_noClause {w : kx_W} {d : Nat} {M : kx_M} {Q : Option Value → kx_M → Prop} {p1 : Int32} {r : Int32} {M' : kx_M} (h : f_KT_noClause p1 M = some (r, M')) (hQ : Q (some (.int r)) M') : Ct w d m_KT_noClause [.ref 0, .int p1] M Q := by
  refine mk_ct ok_KT_noClause (Nat.le_of_ble_eq_true rfl) (fun G F => ?_)
  rw [f_KT_noClause] at h
  show G 0 [some (.ref 0), some (.int p1)] [] M
  refine x_iload_n F.1 (i := 0) rfl rfl ?_
  refine x_if_lt F.1 (i := 1) (tgt := 18) rfl (by decide) (fun c => ?_) (fun c => ?_)
  · replace h := if_T c h
    refine x_iconst F.1 (i := 8) rfl ic_1 ?_
    refine x_goto F.1 (i := 9) (tgt := 23) rfl (by decide) ?_
    exact x_zretf F (i := 11) rfl rfl (Or.inr rfl) h (res := (r, M')) hQ
  · replace h := if_F c h
    refine x_iload_n F.1 (i := 2) rfl rfl ?_
    refine x_aload_n F.1 (i := 3) rfl rfl ?_
    refine x_getR F.1 (i := 4) rfl fl_KT_64 rfl (by rfl) rfl ?_
    refine gd_e h (fun g1 h => ?_)
    replace h := bd_e h
    refine x_getC F.1 (i := 5) rfl fl_KT_192 (lk_State g1) (by rfl) ?_
    refine x_getI F.1 (i := 6) rfl fl_KT_201 (lk_Deal (lD_State_deal g1)) (by rfl) ?_
    refine x_icmp_lt F.1 (i := 7) (tgt := 22) rfl (by decide) (fun c => ?_) (fun c => ?_)
    · replace h := if_T c h
      refine x_iconst F.1 (i := 10) rfl ic_0 ?_
      exact x_zretf F (i := 11) rfl rfl (Or.inl rfl) h (res := (r, M')) hQ
    · replace h := if_F c h
      refine x_iconst F.1 (i := 8) rfl ic_1 ?_
      refine x_goto F.1 (i := 9) (tgt := 23) rfl (by decide) ?_
      exact x_zretf F (i := 11) rfl rfl (Or.inr rfl) h (res := (r, M')) hQ
set_option maxHeartbeats 4000000 in
theorem t_KT_length_l14 {w : kx_W} {d : Nat} {Q : Option Value → kx_M → Prop} {G : Nat → List (Option Value) → List Value → kx_M → Prop} (F : Sd w (d + 1) m_KT_length Q G) {p1 : Int32} {res : Int32 × kx_M} (hQ : Q (some (.int res.1)) res.2) :
    ∀ (s0 : Nat) (s1 : Int32) (M : kx_M),
    f_KT_length_l14 p1 s0 s1 M = some res → G 14 [some (.ref 0), some (.int p1)] [.int s1, .ref 0] M := by
  intro s0 s1 M h
  rw [f_KT_length_l14] at h
  refine cal_e h (fun r1 M1 e2 h => ?_)
  refine x_cV1i F.1 (i := 8) rfl ml_KT_103 ok_KT_refused rfl (Nat.le_of_ble_eq_true rfl) (Nat.le_of_ble_eq_true rfl) (fun _ => t_KT_refused e2) ?_
  refine x_if_eq F.1 (i := 9) (tgt := 22) rfl (by decide) (fun c => ?_) (fun c => ?_)
  · replace h := if_T c h
    refine x_aload_n F.1 (i := 12) rfl rfl ?_
    refine x_getR F.1 (i := 13) rfl fl_KT_64 rfl (by rfl) rfl ?_
    refine gd_e h (fun g3 h => ?_)
    replace h := bd_e h
    refine x_getC F.1 (i := 14) rfl fl_KT_192 (lk_State g3) (by rfl) ?_
    refine x_getC F.1 (i := 15) rfl fl_KT_252 (lk_Deal (lD_State_deal g3)) (by rfl) ?_
    refine x_iload_n F.1 (i := 16) rfl rfl ?_
    refine gd_e h (fun g5 h => ?_)
    refine x_iald F.1 (i := 17) rfl (lk_Deal_lengths (lD_State_deal g3)) (inb_e g5) ?_
    exact x_iretf F (i := 18) rfl rfl h hQ
  · replace h := if_F c h
    refine x_iconst F.1 (i := 10) rfl ic_n1 ?_
    exact x_iretf F (i := 11) rfl rfl h hQ
set_option maxHeartbeats 4000000 in
theorem t_KT_length {w : kx_W} {d : Nat} {M : kx_M} {Q : Option Value → kx_M → Prop} {p1 : Int32} {r : Int32} {M' : kx_M} (h : f_KT_length p1 M = some (r, M')) (hQ : Q (some (.int r)) M') : Ct w (d + 1) m_KT_length [.ref 0, .int p1] M Q := by
  refine mk_ct ok_KT_length (Nat.le_of_ble_eq_true rfl) (fun G F => ?_)
  rw [f_KT_length] at h
  show G 0 [some (.ref 0), some (.int p1)] [] M
  refine x_aload_n F.1 (i := 0) rfl rfl ?_
  refine x_aload_n F.1 (i := 1) rfl rfl ?_
  refine x_iload_n F.1 (i := 2) rfl rfl ?_
  refine cal_e h (fun r1 M1 e2 h => ?_)
  refine x_cV1i F.1 (i := 3) rfl ml_KT_249 ok_KT_noClause rfl (Nat.le_of_ble_eq_true rfl) (Nat.le_of_ble_eq_true rfl) (fun _ => t_KT_noClause e2) ?_
  refine x_if_eq F.1 (i := 4) (tgt := 13) rfl (by decide) (fun c => ?_) (fun c => ?_)
  · replace h := if_T c h
    refine x_iconst F.1 (i := 7) rfl ic_0 ?_
    exact x_wk F.1 ((t_KT_length_l14 F (res := (r, M')) hQ) _ _ _ h) ⟨rfl, rfl, trivial⟩
  · replace h := if_F c h
    refine x_iconst F.1 (i := 5) rfl ic_2 ?_
    refine x_goto F.1 (i := 6) (tgt := 14) rfl (by decide) ?_
    exact x_wk F.1 ((t_KT_length_l14 F (res := (r, M')) hQ) _ _ _ h) ⟨rfl, rfl, trivial⟩
set_option maxHeartbeats 4000000 in
theorem t_KT_kind_l38 {w : kx_W} {d : Nat} {Q : Option Value → kx_M → Prop} {G : Nat → List (Option Value) → List Value → kx_M → Prop} (F : Sd w (d + 1) m_KT_kind Q G) {p1 : Int32} {p2 : Int32} {res : Int32 × kx_M} (hQ : Q (some (.int res.1)) res.2) :
    ∀ (x3 : Int32) (M : kx_M),
    f_KT_kind_l38 p1 p2 x3 M = some res → G 38 [some (.ref 0), some (.int p1), some (.int p2), some (.int x3)] [] M := by
  intro x3 M h
  rw [f_KT_kind_l38] at h
  refine x_aload_n F.1 (i := 21) rfl rfl ?_
  refine x_iload_n F.1 (i := 22) rfl rfl ?_
  refine cal_e h (fun r1 M1 e2 h => ?_)
  refine x_cV1i F.1 (i := 23) rfl ml_KT_103 ok_KT_refused rfl (Nat.le_of_ble_eq_true rfl) (Nat.le_of_ble_eq_true rfl) (fun _ => t_KT_refused e2) ?_
  refine x_if_eq F.1 (i := 24) (tgt := 48) rfl (by decide) (fun c => ?_) (fun c => ?_)
  · replace h := if_T c h
    refine x_aload_n F.1 (i := 27) rfl rfl ?_
    refine x_getR F.1 (i := 28) rfl fl_KT_64 rfl (by rfl) rfl ?_
    refine gd_e h (fun g3 h => ?_)
    replace h := bd_e h
    refine x_getC F.1 (i := 29) rfl fl_KT_192 (lk_State g3) (by rfl) ?_
    refine x_getC F.1 (i := 30) rfl fl_KT_255 (lk_Deal (lD_State_deal g3)) (by rfl) ?_
    refine x_iload_n F.1 (i := 31) rfl rfl ?_
    refine x_iconst F.1 (i := 32) rfl ic_5 ?_
    refine x_imul F.1 (i := 33) rfl ?_
    refine x_iload_n F.1 (i := 34) rfl rfl ?_
    refine x_iadd F.1 (i := 35) rfl ?_
    refine gd_e h (fun g5 h => ?_)
    refine x_iald F.1 (i := 36) rfl (lk_Deal_kinds (lD_State_deal g3)) (inb_e g5) ?_
    exact x_iretf F (i := 37) rfl rfl h hQ
  · replace h := if_F c h
    refine x_iconst F.1 (i := 25) rfl ic_n1 ?_
    exact x_iretf F (i := 26) rfl rfl h hQ
set_option maxHeartbeats 4000000 in
theorem t_KT_kind {w : kx_W} {d : Nat} {M : kx_M} {Q : Option Value → kx_M → Prop} {p1 : Int32} {p2 : Int32} {r : Int32} {M' : kx_M} (h : f_KT_kind p1 p2 M = some (r, M')) (hQ : Q (some (.int r)) M') : Ct w (d + 1) m_KT_kind [.ref 0, .int p1, .int p2] M Q := by
  refine mk_ct ok_KT_kind (Nat.le_of_ble_eq_true rfl) (fun G F => ?_)
  rw [f_KT_kind] at h
  show G 0 [some (.ref 0), some (.int p1), some (.int p2), none] [] M
  refine x_iconst F.1 (i := 0) rfl ic_0 ?_
  refine x_istore_n F.1 (i := 1) rfl (Nat.le_of_ble_eq_true rfl) (Nat.le_of_ble_eq_true rfl) rfl ?_
  refine x_aload_n F.1 (i := 2) rfl rfl ?_
  refine x_iload_n F.1 (i := 3) rfl rfl ?_
  refine cal_e h (fun r1 M1 e2 h => ?_)
  refine x_cV1i F.1 (i := 4) rfl ml_KT_249 ok_KT_noClause rfl (Nat.le_of_ble_eq_true rfl) (Nat.le_of_ble_eq_true rfl) (fun _ => t_KT_noClause e2) ?_
  refine x_if_eq F.1 (i := 5) (tgt := 15) rfl (by decide) (fun c => ?_) (fun c => ?_)
  · replace h := if_T c h
    refine x_iload_n F.1 (i := 9) rfl rfl ?_
    refine x_if_lt F.1 (i := 10) (tgt := 35) rfl (by decide) (fun c => ?_) (fun c => ?_)
    · replace h := if_T c h
      refine x_bipush F.1 (i := 19) rfl bp_8 ?_
      refine x_istore_n F.1 (i := 20) rfl (Nat.le_of_ble_eq_true rfl) (Nat.le_of_ble_eq_true rfl) rfl ?_
      exact x_wk F.1 ((t_KT_kind_l38 F (res := (r, M')) hQ) _ _ h) ⟨rfl, rfl, rfl, rfl, trivial⟩
    · replace h := if_F c h
      refine x_iload_n F.1 (i := 11) rfl rfl ?_
      refine x_aload_n F.1 (i := 12) rfl rfl ?_
      refine x_getR F.1 (i := 13) rfl fl_KT_64 rfl (by rfl) rfl ?_
      refine gd_e h (fun g3 h => ?_)
      replace h := bd_e h
      refine x_getC F.1 (i := 14) rfl fl_KT_192 (lk_State g3) (by rfl) ?_
      refine x_getC F.1 (i := 15) rfl fl_KT_252 (lk_Deal (lD_State_deal g3)) (by rfl) ?_
      refine x_iload_n F.1 (i := 16) rfl rfl ?_
      refine gd_e h (fun g5 h => ?_)
      refine x_iald F.1 (i := 17) rfl (lk_Deal_lengths (lD_State_deal g3)) (inb_e g5) ?_
      refine x_icmp_lt F.1 (i := 18) (tgt := 38) rfl (by decide) (fun c => ?_) (fun c => ?_)
      · replace h := if_T c h
        exact x_wk F.1 ((t_KT_kind_l38 F (res := (r, M')) hQ) _ _ h) ⟨rfl, rfl, rfl, rfl, trivial⟩
      · replace h := if_F c h
        refine x_bipush F.1 (i := 19) rfl bp_8 ?_
        refine x_istore_n F.1 (i := 20) rfl (Nat.le_of_ble_eq_true rfl) (Nat.le_of_ble_eq_true rfl) rfl ?_
        exact x_wk F.1 ((t_KT_kind_l38 F (res := (r, M')) hQ) _ _ h) ⟨rfl, rfl, rfl, rfl, trivial⟩
  · replace h := if_F c h
    refine x_iconst F.1 (i := 6) rfl ic_2 ?_
    refine x_istore_n F.1 (i := 7) rfl (Nat.le_of_ble_eq_true rfl) (Nat.le_of_ble_eq_true rfl) rfl ?_
    refine x_goto F.1 (i := 8) (tgt := 38) rfl (by decide) ?_
    exact x_wk F.1 ((t_KT_kind_l38 F (res := (r, M')) hQ) _ _ h) ⟨rfl, rfl, rfl, rfl, trivial⟩
set_option maxHeartbeats 4000000 in
theorem t_KT_coupleStatus {w : kx_W} {d : Nat} {M : kx_M} {Q : Option Value → kx_M → Prop} {p1 : Int32} {p2 : Int32} {r : Int32} {M' : kx_M} (h : f_KT_coupleStatus p1 p2 M = some (r, M')) (hQ : Q (some (.int r)) M') : Ct w (d + 1) m_KT_coupleStatus [.ref 0, .int p1, .int p2] M Q := by
  refine mk_ct ok_KT_coupleStatus (Nat.le_of_ble_eq_true rfl) (fun G F => ?_)
  rw [f_KT_coupleStatus] at h
  show G 0 [some (.ref 0), some (.int p1), some (.int p2)] [] M
  refine x_aload_n F.1 (i := 0) rfl rfl ?_
  refine x_iload_n F.1 (i := 1) rfl rfl ?_
  refine cal_e h (fun r1 M1 e2 h => ?_)
  refine x_cV1i F.1 (i := 2) rfl ml_KT_249 ok_KT_noClause rfl (Nat.le_of_ble_eq_true rfl) (Nat.le_of_ble_eq_true rfl) (fun _ => t_KT_noClause e2) ?_
  refine x_if_ne F.1 (i := 3) (tgt := 16) rfl (by decide) (fun c => ?_) (fun c => ?_)
  · replace h := if_F c h
    refine x_iconst F.1 (i := 8) rfl ic_2 ?_
    exact x_iretf F (i := 9) rfl rfl h (res := (r, M')) hQ
  · replace h := if_T c h
    refine x_aload_n F.1 (i := 4) rfl rfl ?_
    refine x_iload_n F.1 (i := 5) rfl rfl ?_
    refine cal_e h (fun r3 M2 e4 h => ?_)
    refine x_cV1i F.1 (i := 6) rfl ml_KT_249 ok_KT_noClause rfl (Nat.le_of_ble_eq_true rfl) (Nat.le_of_ble_eq_true rfl) (fun _ => t_KT_noClause e4) ?_
    refine x_if_eq F.1 (i := 7) (tgt := 18) rfl (by decide) (fun c => ?_) (fun c => ?_)
    · replace h := if_T c h
      refine x_iload_n F.1 (i := 10) rfl rfl ?_
      refine x_iload_n F.1 (i := 11) rfl rfl ?_
      refine x_icmp_ne F.1 (i := 12) (tgt := 28) rfl (by decide) (fun c => ?_) (fun c => ?_)
      · replace h := if_F c h
        refine x_iconst F.1 (i := 15) rfl ic_0 ?_
        exact x_iretf F (i := 16) rfl rfl h (res := (r, M')) hQ
      · replace h := if_T c h
        refine x_bipush F.1 (i := 13) rfl bp_9 ?_
        refine x_goto F.1 (i := 14) (tgt := 29) rfl (by decide) ?_
        exact x_iretf F (i := 16) rfl rfl h (res := (r, M')) hQ
    · replace h := if_F c h
      refine x_iconst F.1 (i := 8) rfl ic_2 ?_
      exact x_iretf F (i := 9) rfl rfl h (res := (r, M')) hQ
set_option maxHeartbeats 4000000 in
theorem t_KT_clash {w : kx_W} {d : Nat} {M : kx_M} {Q : Option Value → kx_M → Prop} {p1 : Int32} {p2 : Int32} {r : Int32} {M' : kx_M} (h : f_KT_clash p1 p2 M = some (r, M')) (hQ : Q (some (.int r)) M') : Ct w (d + 2) m_KT_clash [.ref 0, .int p1, .int p2] M Q := by
  refine mk_ct ok_KT_clash (Nat.le_of_ble_eq_true rfl) (fun G F => ?_)
  rw [f_KT_clash] at h
  show G 0 [some (.ref 0), some (.int p1), some (.int p2)] [] M
  refine x_aload_n F.1 (i := 0) rfl rfl ?_
  refine x_aload_n F.1 (i := 1) rfl rfl ?_
  refine x_iload_n F.1 (i := 2) rfl rfl ?_
  refine x_iload_n F.1 (i := 3) rfl rfl ?_
  refine cal_e h (fun r1 M1 e2 h => ?_)
  refine x_cV2i F.1 (i := 4) rfl ml_KT_256 ok_KT_coupleStatus rfl (Nat.le_of_ble_eq_true rfl) (Nat.le_of_ble_eq_true rfl) (fun _ => t_KT_coupleStatus e2) ?_
  refine cal_e h (fun r3 M2 e4 h => ?_)
  refine x_cV1i F.1 (i := 5) rfl ml_KT_103 ok_KT_refused rfl (Nat.le_of_ble_eq_true rfl) (Nat.le_of_ble_eq_true rfl) (fun _ => t_KT_refused e4) ?_
  refine x_if_eq F.1 (i := 6) (tgt := 15) rfl (by decide) (fun c => ?_) (fun c => ?_)
  · replace h := if_T c h
    refine x_aload_n F.1 (i := 9) rfl rfl ?_
    refine x_getR F.1 (i := 10) rfl fl_KT_64 rfl (by rfl) rfl ?_
    refine gd_e h (fun g5 h => ?_)
    replace h := bd_e h
    refine x_getC F.1 (i := 11) rfl fl_KT_192 (lk_State g5) (by rfl) ?_
    refine x_getC F.1 (i := 12) rfl fl_KT_259 (lk_Deal (lD_State_deal g5)) (by rfl) ?_
    refine x_iload_n F.1 (i := 13) rfl rfl ?_
    refine x_bipush F.1 (i := 14) rfl bp_6 ?_
    refine x_imul F.1 (i := 15) rfl ?_
    refine x_iload_n F.1 (i := 16) rfl rfl ?_
    refine x_iadd F.1 (i := 17) rfl ?_
    refine gd_e h (fun g7 h => ?_)
    refine x_iald F.1 (i := 18) rfl (lk_Deal_quarrels (lD_State_deal g5)) (inb_e g7) ?_
    exact x_iretf F (i := 19) rfl rfl h (res := (r, M')) hQ
  · replace h := if_F c h
    refine x_iconst F.1 (i := 7) rfl ic_n1 ?_
    exact x_iretf F (i := 8) rfl rfl h (res := (r, M')) hQ
set_option maxHeartbeats 4000000 in
theorem t_Cloth_loose {w : kx_W} {d : Nat} {M : kx_M} {Q : Option Value → kx_M → Prop} {p0 : Nat} {p1 : Int32} {r : Int32} {M' : kx_M} (hp0 : isCloth p0 = true) (h : f_Cloth_loose p0 p1 M = some (r, M')) (hQ : Q (some (.int r)) M') : Ct w d m_Cloth_loose [.ref p0, .int p1] M Q := by
  refine mk_ct ok_Cloth_loose (Nat.le_of_ble_eq_true rfl) (fun G F => ?_)
  rw [f_Cloth_loose] at h
  show G 0 [some (.ref p0), some (.int p1)] [] M
  refine x_aload_n F.1 (i := 0) rfl rfl ?_
  refine x_getC F.1 (i := 1) rfl fl_Cloth_21 (lk_Cloth hp0) (by rfl) ?_
  refine x_iload_n F.1 (i := 2) rfl rfl ?_
  refine gd_e h (fun g1 h => ?_)
  refine x_iald F.1 (i := 3) rfl (lk_Cloth_undone hp0) (inb_e g1) ?_
  refine x_if_ne F.1 (i := 4) (tgt := 22) rfl (by decide) (fun c => ?_) (fun c => ?_)
  · replace h := if_F c h
    refine x_iconst F.1 (i := 12) rfl ic_0 ?_
    exact x_zretf F (i := 13) rfl rfl (Or.inl rfl) h (res := (r, M')) hQ
  · replace h := if_T c h
    refine x_aload_n F.1 (i := 5) rfl rfl ?_
    refine x_getC F.1 (i := 6) rfl fl_Cloth_24 (lk_Cloth hp0) (by rfl) ?_
    refine x_iload_n F.1 (i := 7) rfl rfl ?_
    refine gd_e h (fun g2 h => ?_)
    refine x_iald F.1 (i := 8) rfl (lk_Cloth_darned hp0) (inb_e g2) ?_
    refine x_if_ne F.1 (i := 9) (tgt := 22) rfl (by decide) (fun c => ?_) (fun c => ?_)
    · replace h := if_F c h
      refine x_iconst F.1 (i := 12) rfl ic_0 ?_
      exact x_zretf F (i := 13) rfl rfl (Or.inl rfl) h (res := (r, M')) hQ
    · replace h := if_T c h
      refine x_iconst F.1 (i := 10) rfl ic_1 ?_
      refine x_goto F.1 (i := 11) (tgt := 23) rfl (by decide) ?_
      exact x_zretf F (i := 13) rfl rfl (Or.inr rfl) h (res := (r, M')) hQ
set_option maxHeartbeats 4000000 in
theorem t_Cloth_anyLoose_l12 {w : kx_W} {d : Nat} {Q : Option Value → kx_M → Prop} {G : Nat → List (Option Value) → List Value → kx_M → Prop} (F : Sd w (d + 1) m_Cloth_anyLoose Q G) {p0 : Nat} (hp0 : isCloth p0 = true) {k2 : Int32 → kx_M → Option (Int32 × kx_M)} {res : Int32 × kx_M} (hQ : Q (some (.int res.1)) res.2) (hk2 : ∀ (x1 : Int32) (M : kx_M), k2 x1 M = some res → G 2 [some (.ref p0), some (.int x1), none] [] M) :
    ∀ (n : Nat) (x1 : Int32) (x2 : Int32) (M : kx_M),
    f_Cloth_anyLoose_l12 p0 k2 n x1 x2 M = some res → G 12 [some (.ref p0), some (.int x1), some (.int x2)] [] M := by
  intro n
  induction n with
  | zero =>
    intro x1 x2 M h
    exact absurd h (by rw [f_Cloth_anyLoose_l12]; exact fun z => nomatch z)
  | succ n ih =>
    intro x1 x2 M h
    rw [f_Cloth_anyLoose_l12] at h
    refine x_iload_n F.1 (i := 8) rfl rfl ?_
    refine x_aload_n F.1 (i := 9) rfl rfl ?_
    refine x_getI F.1 (i := 10) rfl fl_Cloth_27 (lk_Cloth hp0) (by rfl) ?_
    refine x_icmp_ge F.1 (i := 11) (tgt := 40) rfl (by decide) (fun c => ?_) (fun c => ?_)
    · replace h := if_T c h
      refine x_iinc F.1 (i := 22) rfl rfl rfl (Nat.le_of_ble_eq_true rfl) rfl ?_
      replace h := bd_e h
      refine x_goto F.1 (i := 23) (tgt := 2) rfl (by decide) ?_
      exact x_wk F.1 (hk2 _ _ h) ⟨rfl, rfl, trivial⟩
    · replace h := if_F c h
      refine x_aload_n F.1 (i := 12) rfl rfl ?_
      refine x_iload_n F.1 (i := 13) rfl rfl ?_
      refine x_iload_n F.1 (i := 14) rfl rfl ?_
      refine cal_e h (fun r2 M1 e3 h => ?_)
      refine x_cS2i F.1 (i := 15) rfl ml_Cloth_46 ok_Cloth_at (Nat.le_of_ble_eq_true rfl) (Nat.le_of_ble_eq_true rfl) (fun _ => t_Cloth_at e3) ?_
      refine cal_e h (fun r4 M2 e5 h => ?_)
      refine x_cV1i F.1 (i := 16) rfl ml_Cloth_61 ok_Cloth_loose (lk_Cloth hp0) (Nat.le_of_ble_eq_true rfl) (Nat.le_of_ble_eq_true rfl) (fun _ => t_Cloth_loose hp0 e5) ?_
      refine x_if_eq F.1 (i := 17) (tgt := 34) rfl (by decide) (fun c => ?_) (fun c => ?_)
      · replace h := if_T c h
        refine x_iinc F.1 (i := 20) rfl rfl rfl (Nat.le_of_ble_eq_true rfl) rfl ?_
        replace h := bd_e h
        refine x_goto F.1 (i := 21) (tgt := 12) rfl (by decide) ?_
        exact x_wk F.1 (ih _ _ _ h) ⟨rfl, rfl, rfl, trivial⟩
      · replace h := if_F c h
        refine x_iconst F.1 (i := 18) rfl ic_1 ?_
        exact x_zretf F (i := 19) rfl rfl (Or.inr rfl) h hQ
set_option maxHeartbeats 4000000 in
theorem t_Cloth_anyLoose_l2 {w : kx_W} {d : Nat} {Q : Option Value → kx_M → Prop} {G : Nat → List (Option Value) → List Value → kx_M → Prop} (F : Sd w (d + 1) m_Cloth_anyLoose Q G) {p0 : Nat} (hp0 : isCloth p0 = true) {res : Int32 × kx_M} (hQ : Q (some (.int res.1)) res.2) :
    ∀ (n : Nat) (x1 : Int32) (M : kx_M),
    f_Cloth_anyLoose_l2 p0 n x1 M = some res → G 2 [some (.ref p0), some (.int x1), none] [] M := by
  intro n
  induction n with
  | zero =>
    intro x1 M h
    exact absurd h (by rw [f_Cloth_anyLoose_l2]; exact fun z => nomatch z)
  | succ n ih =>
    intro x1 M h
    rw [f_Cloth_anyLoose_l2] at h
    refine x_iload_n F.1 (i := 2) rfl rfl ?_
    refine x_aload_n F.1 (i := 3) rfl rfl ?_
    refine x_getI F.1 (i := 4) rfl fl_Cloth_34 (lk_Cloth hp0) (by rfl) ?_
    refine x_icmp_ge F.1 (i := 5) (tgt := 46) rfl (by decide) (fun c => ?_) (fun c => ?_)
    · replace h := if_T c h
      refine x_iconst F.1 (i := 24) rfl ic_0 ?_
      exact x_zretf F (i := 25) rfl rfl (Or.inl rfl) h hQ
    · replace h := if_F c h
      refine x_iconst F.1 (i := 6) rfl ic_0 ?_
      refine x_istore_n F.1 (i := 7) rfl (Nat.le_of_ble_eq_true rfl) (Nat.le_of_ble_eq_true rfl) rfl ?_
      exact x_wk F.1 ((t_Cloth_anyLoose_l12 F hp0 hQ ih FU) _ _ _ h) ⟨rfl, rfl, rfl, trivial⟩
set_option maxHeartbeats 4000000 in
theorem t_Cloth_anyLoose {w : kx_W} {d : Nat} {M : kx_M} {Q : Option Value → kx_M → Prop} {p0 : Nat} {r : Int32} {M' : kx_M} (hp0 : isCloth p0 = true) (h : f_Cloth_anyLoose p0 M = some (r, M')) (hQ : Q (some (.int r)) M') : Ct w (d + 1) m_Cloth_anyLoose [.ref p0] M Q := by
  refine mk_ct ok_Cloth_anyLoose (Nat.le_of_ble_eq_true rfl) (fun G F => ?_)
  rw [f_Cloth_anyLoose] at h
  show G 0 [some (.ref p0), none, none] [] M
  refine x_iconst F.1 (i := 0) rfl ic_0 ?_
  refine x_istore_n F.1 (i := 1) rfl (Nat.le_of_ble_eq_true rfl) (Nat.le_of_ble_eq_true rfl) rfl ?_
  exact x_wk F.1 ((t_Cloth_anyLoose_l2 F hp0 (res := (r, M')) hQ FU) _ _ h) ⟨rfl, rfl, trivial⟩
