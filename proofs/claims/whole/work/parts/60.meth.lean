set_option maxHeartbeats 4000000 in
theorem t_KT_status {w : kx_W} {d : Nat} {M : kx_M} {Q : Option Value → kx_M → Prop} {r : Int32} {M' : kx_M} (h : f_KT_status M = some (r, M')) (hQ : Q (some (.int r)) M') : Ct w d m_KT_status [.ref 0] M Q := by
  refine mk_ct ok_KT_status (Nat.le_of_ble_eq_true rfl) (fun G F => ?_)
  rw [f_KT_status] at h
  show G 0 [some (.ref 0)] [] M
  refine x_aload_n F.1 (i := 0) rfl rfl ?_
  refine x_getI F.1 (i := 1) rfl fl_KT_78 rfl (by rfl) ?_
  exact x_iretf F (i := 2) rfl rfl h (res := (r, M')) hQ
set_option maxHeartbeats 4000000 in
theorem t_KT_top {w : kx_W} {d : Nat} {M : kx_M} {Q : Option Value → kx_M → Prop} {r : Int64} {M' : kx_M} (h : f_KT_top M = some (r, M')) (hQ : Q (some (.long r)) M') : Ct w d m_KT_top [.ref 0] M Q := by
  refine mk_ct ok_KT_top (Nat.le_of_ble_eq_true rfl) (fun G F => ?_)
  rw [f_KT_top] at h
  show G 0 [some (.ref 0)] [] M
  refine x_aload_n F.1 (i := 0) rfl rfl ?_
  refine x_getJ F.1 (i := 1) rfl fl_KT_91 rfl (by rfl) ?_
  exact x_lretf F (i := 2) rfl rfl h (res := (r, M')) hQ
set_option maxHeartbeats 4000000 in
theorem t_KT_bottom {w : kx_W} {d : Nat} {M : kx_M} {Q : Option Value → kx_M → Prop} {r : Int64} {M' : kx_M} (h : f_KT_bottom M = some (r, M')) (hQ : Q (some (.long r)) M') : Ct w d m_KT_bottom [.ref 0] M Q := by
  refine mk_ct ok_KT_bottom (Nat.le_of_ble_eq_true rfl) (fun G F => ?_)
  rw [f_KT_bottom] at h
  show G 0 [some (.ref 0)] [] M
  refine x_aload_n F.1 (i := 0) rfl rfl ?_
  refine x_getJ F.1 (i := 1) rfl fl_KT_95 rfl (by rfl) ?_
  exact x_lretf F (i := 2) rfl rfl h (res := (r, M')) hQ
set_option maxHeartbeats 4000000 in
theorem t_KT_noTray {w : kx_W} {d : Nat} {M : kx_M} {Q : Option Value → kx_M → Prop} {p0 : Int32} {r : Int32} {M' : kx_M} (h : f_KT_noTray p0 M = some (r, M')) (hQ : Q (some (.int r)) M') : Ct w d m_KT_noTray [.int p0] M Q := by
  refine mk_ct ok_KT_noTray (Nat.le_of_ble_eq_true rfl) (fun G F => ?_)
  rw [f_KT_noTray] at h
  show G 0 [some (.int p0)] [] M
  refine x_iload_n F.1 (i := 0) rfl rfl ?_
  refine x_if_lt F.1 (i := 1) (tgt := 9) rfl (by decide) (fun c => ?_) (fun c => ?_)
  · replace h := if_T c h
    refine x_iconst F.1 (i := 5) rfl ic_1 ?_
    refine x_goto F.1 (i := 6) (tgt := 14) rfl (by decide) ?_
    exact x_zretf F (i := 8) rfl rfl (Or.inr rfl) h (res := (r, M')) hQ
  · replace h := if_F c h
    refine x_iload_n F.1 (i := 2) rfl rfl ?_
    refine x_iconst F.1 (i := 3) rfl ic_4 ?_
    refine x_icmp_lt F.1 (i := 4) (tgt := 13) rfl (by decide) (fun c => ?_) (fun c => ?_)
    · replace h := if_T c h
      refine x_iconst F.1 (i := 7) rfl ic_0 ?_
      exact x_zretf F (i := 8) rfl rfl (Or.inl rfl) h (res := (r, M')) hQ
    · replace h := if_F c h
      refine x_iconst F.1 (i := 5) rfl ic_1 ?_
      refine x_goto F.1 (i := 6) (tgt := 14) rfl (by decide) ?_
      exact x_zretf F (i := 8) rfl rfl (Or.inr rfl) h (res := (r, M')) hQ
set_option maxHeartbeats 4000000 in
theorem t_KT_refused {w : kx_W} {d : Nat} {M : kx_M} {Q : Option Value → kx_M → Prop} {p1 : Int32} {r : Int32} {M' : kx_M} (h : f_KT_refused p1 M = some (r, M')) (hQ : Q (some (.int r)) M') : Ct w d m_KT_refused [.ref 0, .int p1] M Q := by
  refine mk_ct ok_KT_refused (Nat.le_of_ble_eq_true rfl) (fun G F => ?_)
  rw [f_KT_refused] at h
  show G 0 [some (.ref 0), some (.int p1)] [] M
  refine x_aload_n F.1 (i := 0) rfl rfl ?_
  refine x_iload_n F.1 (i := 1) rfl rfl ?_
  refine x_putI F.1 (i := 2) rfl fl_KT_78 pf_KT_latest rfl (by rfl) ?_
  replace h := bd_e h
  refine x_iload_n F.1 (i := 3) rfl rfl ?_
  refine x_if_eq F.1 (i := 4) (tgt := 13) rfl (by decide) (fun c => ?_) (fun c => ?_)
  · replace h := if_T c h
    refine x_iconst F.1 (i := 7) rfl ic_0 ?_
    exact x_zretf F (i := 8) rfl rfl (Or.inl rfl) h (res := (r, M')) hQ
  · replace h := if_F c h
    refine x_iconst F.1 (i := 5) rfl ic_1 ?_
    refine x_goto F.1 (i := 6) (tgt := 14) rfl (by decide) ?_
    exact x_zretf F (i := 8) rfl rfl (Or.inr rfl) h (res := (r, M')) hQ
set_option maxHeartbeats 4000000 in
theorem t_Arr_fill_l6 {w : kx_W} {d : Nat} {Q : Option Value → kx_M → Prop} {G : Nat → List (Option Value) → List Value → kx_M → Prop} (F : Sd w d m_Arr_fill Q G) {p0 : Nat} {p1 : Int64} {res : Unit × kx_M} (hQ : Q none res.2) :
    ∀ (n : Nat) (x3 : Int32) (x4 : Int32) (M : kx_M),
    f_Arr_fill_l6 p0 p1 n x3 x4 M = some res → G 6 [some (.ref p0), some (.long p1), none, some (.int x3), some (.int x4)] [] M := by
  intro n
  induction n with
  | zero =>
    intro x3 x4 M h
    exact absurd h (by rw [f_Arr_fill_l6]; exact fun z => nomatch z)
  | succ n ih =>
    intro x3 x4 M h
    rw [f_Arr_fill_l6] at h
    refine x_iload_n F.1 (i := 5) rfl rfl ?_
    refine x_iload F.1 (i := 6) rfl rfl ?_
    refine x_icmp_ge F.1 (i := 7) (tgt := 22) rfl (by decide) (fun c => ?_) (fun c => ?_)
    · replace h := if_T c h
      exact x_vretf F (i := 14) rfl rfl h hQ
    · replace h := if_F c h
      refine x_aload_n F.1 (i := 8) rfl rfl ?_
      refine x_iload_n F.1 (i := 9) rfl rfl ?_
      refine x_lload_n F.1 (i := 10) rfl rfl ?_
      refine gd_e h (fun g1 h => ?_)
      obtain ⟨ng1, kg1, lg1, ig1⟩ := aIb_e g1
      refine x_last F.1 (i := 11) rfl lg1 ig1 ?_
      replace h := bd_e h
      refine x_iinc F.1 (i := 12) rfl rfl rfl (Nat.le_of_ble_eq_true rfl) rfl ?_
      replace h := bd_e h
      refine x_goto F.1 (i := 13) (tgt := 6) rfl (by decide) ?_
      exact x_wk F.1 (ih _ _ _ h) ⟨rfl, rfl, rfl, rfl, trivial⟩
set_option maxHeartbeats 4000000 in
theorem t_Arr_fill {w : kx_W} {d : Nat} {M : kx_M} {Q : Option Value → kx_M → Prop} {p0 : Nat} {p1 : Int64} {r : Unit} {M' : kx_M} (h : f_Arr_fill p0 p1 M = some (r, M')) (hQ : Q none M') : Ct w d m_Arr_fill [.ref p0, .long p1] M Q := by
  refine mk_ct ok_Arr_fill (Nat.le_of_ble_eq_true rfl) (fun G F => ?_)
  rw [f_Arr_fill] at h
  show G 0 [some (.ref p0), some (.long p1), none, none, none] [] M
  refine x_iconst F.1 (i := 0) rfl ic_0 ?_
  refine x_istore_n F.1 (i := 1) rfl (Nat.le_of_ble_eq_true rfl) (Nat.le_of_ble_eq_true rfl) rfl ?_
  refine x_aload_n F.1 (i := 2) rfl rfl ?_
  refine gd_e h (fun g1 h => ?_)
  obtain ⟨kg1, lg1⟩ := aLk_e g1
  refine x_lalen F.1 (i := 3) rfl lg1 rfl ?_
  refine x_istore F.1 (i := 4) rfl (Nat.le_of_ble_eq_true rfl) (Nat.le_of_ble_eq_true rfl) rfl ?_
  replace h := bd_e h
  exact x_wk F.1 ((t_Arr_fill_l6 F (res := (r, M')) hQ FU) _ _ _ h) ⟨rfl, rfl, rfl, rfl, trivial⟩
set_option maxHeartbeats 4000000 in
theorem t_Tray_lay {w : kx_W} {d : Nat} {M : kx_M} {Q : Option Value → kx_M → Prop} {p0 : Nat} {p1 : Int32} {p2 : Int32} {r : Unit} {M' : kx_M} (hp0 : isTray p0 = true) (h : f_Tray_lay p0 p1 p2 M = some (r, M')) (hQ : Q none M') : Ct w (d + 1) m_Tray_lay [.ref p0, .int p1, .int p2] M Q := by
  refine mk_ct ok_Tray_lay (Nat.le_of_ble_eq_true rfl) (fun G F => ?_)
  rw [f_Tray_lay] at h
  show G 0 [some (.ref p0), some (.int p1), some (.int p2)] [] M
  refine x_aload_n F.1 (i := 0) rfl rfl ?_
  refine x_iconst F.1 (i := 1) rfl ic_0 ?_
  refine x_putZ F.1 (i := 2) rfl fl_Tray_15 pf_Tray_missing (lk_Tray hp0) (by rfl) (Or.inl rfl) ?_
  replace h := bd_e h
  refine x_aload_n F.1 (i := 3) rfl rfl ?_
  refine x_iload_n F.1 (i := 4) rfl rfl ?_
  refine x_putI F.1 (i := 5) rfl fl_Tray_19 pf_Tray_sort (lk_Tray hp0) (by rfl) ?_
  replace h := bd_e h
  refine x_aload_n F.1 (i := 6) rfl rfl ?_
  refine x_iload_n F.1 (i := 7) rfl rfl ?_
  refine x_putI F.1 (i := 8) rfl fl_Tray_23 pf_Tray_many (lk_Tray hp0) (by rfl) ?_
  replace h := bd_e h
  refine x_aload_n F.1 (i := 9) rfl rfl ?_
  refine x_getC F.1 (i := 10) rfl fl_Tray_9 (lk_Tray hp0) (by rfl) ?_
  refine x_lconst F.1 (i := 11) (v := 0) rfl rfl ?_
  refine cal_e h (fun r1 M4 e2 h => ?_)
  refine x_cS2v F.1 (i := 12) rfl ml_Tray_26 ok_Arr_fill (Nat.le_of_ble_eq_true rfl) (Nat.le_of_ble_eq_true rfl) (fun _ => t_Arr_fill e2) ?_
  exact x_vretf F (i := 13) rfl rfl h (res := (r, M')) hQ
set_option maxHeartbeats 4000000 in
theorem t_KT_tray_l45 {w : kx_W} {d : Nat} {Q : Option Value → kx_M → Prop} {G : Nat → List (Option Value) → List Value → kx_M → Prop} (F : Sd w (d + 2) m_KT_tray Q G) {p1 : Int32} {p2 : Int32} {p3 : Int32} {res : Int32 × kx_M} (hQ : Q (some (.int res.1)) res.2) :
    ∀ (x4 : Int32) (M : kx_M),
    f_KT_tray_l45 p1 p2 p3 x4 M = some res → G 45 [some (.ref 0), some (.int p1), some (.int p2), some (.int p3), some (.int x4)] [] M := by
  intro x4 M h
  rw [f_KT_tray_l45] at h
  refine x_aload_n F.1 (i := 23) rfl rfl ?_
  refine x_iload F.1 (i := 24) rfl rfl ?_
  refine cal_e h (fun r1 M1 e2 h => ?_)
  refine x_cV1i F.1 (i := 25) rfl ml_KT_103 ok_KT_refused rfl (Nat.le_of_ble_eq_true rfl) (Nat.le_of_ble_eq_true rfl) (fun _ => t_KT_refused e2) ?_
  refine x_if_eq F.1 (i := 26) (tgt := 56) rfl (by decide) (fun c => ?_) (fun c => ?_)
  · replace h := if_T c h
    refine x_aload_n F.1 (i := 29) rfl rfl ?_
    refine x_getC F.1 (i := 30) rfl fl_KT_11 rfl (by rfl) ?_
    refine x_iload_n F.1 (i := 31) rfl rfl ?_
    refine gd_e h (fun g3 h => ?_)
    refine x_tray F.1 (i := 32) rfl g3 ?_
    refine x_iload_n F.1 (i := 33) rfl rfl ?_
    refine x_iload_n F.1 (i := 34) rfl rfl ?_
    refine cal_e h (fun r4 M2 e5 h => ?_)
    refine x_cV2v F.1 (i := 35) rfl ml_KT_106 ok_Tray_lay (lk_Tray (isTray_of g3)) (Nat.le_of_ble_eq_true rfl) (Nat.le_of_ble_eq_true rfl) (fun _ => t_Tray_lay (isTray_of g3) e5) ?_
    refine x_iconst F.1 (i := 36) rfl ic_1 ?_
    exact x_zretf F (i := 37) rfl rfl (Or.inr rfl) h hQ
  · replace h := if_F c h
    refine x_iconst F.1 (i := 27) rfl ic_0 ?_
    exact x_zretf F (i := 28) rfl rfl (Or.inl rfl) h hQ
set_option maxHeartbeats 4000000 in
theorem t_KT_tray {w : kx_W} {d : Nat} {M : kx_M} {Q : Option Value → kx_M → Prop} {p1 : Int32} {p2 : Int32} {p3 : Int32} {r : Int32} {M' : kx_M} (h : f_KT_tray p1 p2 p3 M = some (r, M')) (hQ : Q (some (.int r)) M') : Ct w (d + 2) m_KT_tray [.ref 0, .int p1, .int p2, .int p3] M Q := by
  refine mk_ct ok_KT_tray (Nat.le_of_ble_eq_true rfl) (fun G F => ?_)
  rw [f_KT_tray] at h
  show G 0 [some (.ref 0), some (.int p1), some (.int p2), some (.int p3), none] [] M
  refine x_iconst F.1 (i := 0) rfl ic_0 ?_
  refine x_istore F.1 (i := 1) rfl (Nat.le_of_ble_eq_true rfl) (Nat.le_of_ble_eq_true rfl) rfl ?_
  refine x_iload_n F.1 (i := 2) rfl rfl ?_
  refine cal_e h (fun r1 M1 e2 h => ?_)
  refine x_cS1i F.1 (i := 3) rfl ml_KT_99 ok_KT_noTray (Nat.le_of_ble_eq_true rfl) (Nat.le_of_ble_eq_true rfl) (fun _ => t_KT_noTray e2) ?_
  refine x_if_ne F.1 (i := 4) (tgt := 19) rfl (by decide) (fun c => ?_) (fun c => ?_)
  · replace h := if_F c h
    refine x_iconst F.1 (i := 10) rfl ic_1 ?_
    refine x_istore F.1 (i := 11) rfl (Nat.le_of_ble_eq_true rfl) (Nat.le_of_ble_eq_true rfl) rfl ?_
    refine x_goto F.1 (i := 12) (tgt := 45) rfl (by decide) ?_
    exact x_wk F.1 ((t_KT_tray_l45 F (res := (r, M')) hQ) _ _ h) ⟨rfl, rfl, rfl, rfl, rfl, trivial⟩
  · replace h := if_T c h
    refine x_iload_n F.1 (i := 5) rfl rfl ?_
    refine x_if_lt F.1 (i := 6) (tgt := 19) rfl (by decide) (fun c => ?_) (fun c => ?_)
    · replace h := if_T c h
      refine x_iconst F.1 (i := 10) rfl ic_1 ?_
      refine x_istore F.1 (i := 11) rfl (Nat.le_of_ble_eq_true rfl) (Nat.le_of_ble_eq_true rfl) rfl ?_
      refine x_goto F.1 (i := 12) (tgt := 45) rfl (by decide) ?_
      exact x_wk F.1 ((t_KT_tray_l45 F (res := (r, M')) hQ) _ _ h) ⟨rfl, rfl, rfl, rfl, rfl, trivial⟩
    · replace h := if_F c h
      refine x_iload_n F.1 (i := 7) rfl rfl ?_
      refine x_iconst F.1 (i := 8) rfl ic_3 ?_
      refine x_icmp_le F.1 (i := 9) (tgt := 25) rfl (by decide) (fun c => ?_) (fun c => ?_)
      · replace h := if_T c h
        refine x_iload_n F.1 (i := 13) rfl rfl ?_
        refine x_bipush F.1 (i := 14) rfl bp_60 ?_
        refine x_icmp_le F.1 (i := 15) (tgt := 37) rfl (by decide) (fun c => ?_) (fun c => ?_)
        · replace h := if_T c h
          refine x_iload_n F.1 (i := 19) rfl rfl ?_
          refine x_if_ge F.1 (i := 20) (tgt := 45) rfl (by decide) (fun c => ?_) (fun c => ?_)
          · replace h := if_T c h
            exact x_wk F.1 ((t_KT_tray_l45 F (res := (r, M')) hQ) _ _ h) ⟨rfl, rfl, rfl, rfl, rfl, trivial⟩
          · replace h := if_F c h
            refine x_bipush F.1 (i := 21) rfl bp_6 ?_
            refine x_istore F.1 (i := 22) rfl (Nat.le_of_ble_eq_true rfl) (Nat.le_of_ble_eq_true rfl) rfl ?_
            exact x_wk F.1 ((t_KT_tray_l45 F (res := (r, M')) hQ) _ _ h) ⟨rfl, rfl, rfl, rfl, rfl, trivial⟩
        · replace h := if_F c h
          refine x_iconst F.1 (i := 16) rfl ic_5 ?_
          refine x_istore F.1 (i := 17) rfl (Nat.le_of_ble_eq_true rfl) (Nat.le_of_ble_eq_true rfl) rfl ?_
          refine x_goto F.1 (i := 18) (tgt := 45) rfl (by decide) ?_
          exact x_wk F.1 ((t_KT_tray_l45 F (res := (r, M')) hQ) _ _ h) ⟨rfl, rfl, rfl, rfl, rfl, trivial⟩
      · replace h := if_F c h
        refine x_iconst F.1 (i := 10) rfl ic_1 ?_
        refine x_istore F.1 (i := 11) rfl (Nat.le_of_ble_eq_true rfl) (Nat.le_of_ble_eq_true rfl) rfl ?_
        refine x_goto F.1 (i := 12) (tgt := 45) rfl (by decide) ?_
        exact x_wk F.1 ((t_KT_tray_l45 F (res := (r, M')) hQ) _ _ h) ⟨rfl, rfl, rfl, rfl, rfl, trivial⟩
set_option maxHeartbeats 4000000 in
theorem t_Tray_lacks {w : kx_W} {d : Nat} {M : kx_M} {Q : Option Value → kx_M → Prop} {p0 : Nat} {p1 : Int32} {p2 : Int32} {r : Int32} {M' : kx_M} (hp0 : isTray p0 = true) (h : f_Tray_lacks p0 p1 p2 M = some (r, M')) (hQ : Q (some (.int r)) M') : Ct w d m_Tray_lacks [.ref p0, .int p1, .int p2] M Q := by
  refine mk_ct ok_Tray_lacks (Nat.le_of_ble_eq_true rfl) (fun G F => ?_)
  rw [f_Tray_lacks] at h
  show G 0 [some (.ref p0), some (.int p1), some (.int p2)] [] M
  refine x_iload_n F.1 (i := 0) rfl rfl ?_
  refine x_if_lt F.1 (i := 1) (tgt := 22) rfl (by decide) (fun c => ?_) (fun c => ?_)
  · replace h := if_T c h
    refine x_iconst F.1 (i := 12) rfl ic_1 ?_
    refine x_goto F.1 (i := 13) (tgt := 27) rfl (by decide) ?_
    exact x_zretf F (i := 15) rfl rfl (Or.inr rfl) h (res := (r, M')) hQ
  · replace h := if_F c h
    refine x_iload_n F.1 (i := 2) rfl rfl ?_
    refine x_aload_n F.1 (i := 3) rfl rfl ?_
    refine x_getI F.1 (i := 4) rfl fl_Tray_23 (lk_Tray hp0) (by rfl) ?_
    refine x_icmp_gt F.1 (i := 5) (tgt := 22) rfl (by decide) (fun c => ?_) (fun c => ?_)
    · replace h := if_T c h
      refine x_iconst F.1 (i := 12) rfl ic_1 ?_
      refine x_goto F.1 (i := 13) (tgt := 27) rfl (by decide) ?_
      exact x_zretf F (i := 15) rfl rfl (Or.inr rfl) h (res := (r, M')) hQ
    · replace h := if_F c h
      refine x_iload_n F.1 (i := 6) rfl rfl ?_
      refine x_aload_n F.1 (i := 7) rfl rfl ?_
      refine x_getI F.1 (i := 8) rfl fl_Tray_23 (lk_Tray hp0) (by rfl) ?_
      refine x_iload_n F.1 (i := 9) rfl rfl ?_
      refine x_isub F.1 (i := 10) rfl ?_
      refine x_icmp_le F.1 (i := 11) (tgt := 26) rfl (by decide) (fun c => ?_) (fun c => ?_)
      · replace h := if_T c h
        refine x_iconst F.1 (i := 14) rfl ic_0 ?_
        exact x_zretf F (i := 15) rfl rfl (Or.inl rfl) h (res := (r, M')) hQ
      · replace h := if_F c h
        refine x_iconst F.1 (i := 12) rfl ic_1 ?_
        refine x_goto F.1 (i := 13) (tgt := 27) rfl (by decide) ?_
        exact x_zretf F (i := 15) rfl rfl (Or.inr rfl) h (res := (r, M')) hQ
set_option maxHeartbeats 4000000 in
theorem t_KT_placeStatus {w : kx_W} {d : Nat} {M : kx_M} {Q : Option Value → kx_M → Prop} {p1 : Int32} {p2 : Int32} {r : Int32} {M' : kx_M} (h : f_KT_placeStatus p1 p2 M = some (r, M')) (hQ : Q (some (.int r)) M') : Ct w (d + 1) m_KT_placeStatus [.ref 0, .int p1, .int p2] M Q := by
  refine mk_ct ok_KT_placeStatus (Nat.le_of_ble_eq_true rfl) (fun G F => ?_)
  rw [f_KT_placeStatus] at h
  show G 0 [some (.ref 0), some (.int p1), some (.int p2)] [] M
  refine x_iload_n F.1 (i := 0) rfl rfl ?_
  refine cal_e h (fun r1 M1 e2 h => ?_)
  refine x_cS1i F.1 (i := 1) rfl ml_KT_99 ok_KT_noTray (Nat.le_of_ble_eq_true rfl) (Nat.le_of_ble_eq_true rfl) (fun _ => t_KT_noTray e2) ?_
  refine x_if_eq F.1 (i := 2) (tgt := 9) rfl (by decide) (fun c => ?_) (fun c => ?_)
  · replace h := if_T c h
    refine x_aload_n F.1 (i := 5) rfl rfl ?_
    refine x_getC F.1 (i := 6) rfl fl_KT_11 rfl (by rfl) ?_
    refine x_iload_n F.1 (i := 7) rfl rfl ?_
    refine gd_e h (fun g3 h => ?_)
    refine x_tray F.1 (i := 8) rfl g3 ?_
    refine x_getI F.1 (i := 9) rfl fl_KT_124 (lk_Tray (isTray_of g3)) (by rfl) ?_
    refine x_if_eq F.1 (i := 10) (tgt := 23) rfl (by decide) (fun c => ?_) (fun c => ?_)
    · replace h := if_T c h
      refine x_aload_n F.1 (i := 13) rfl rfl ?_
      refine x_getC F.1 (i := 14) rfl fl_KT_11 rfl (by rfl) ?_
      refine x_iload_n F.1 (i := 15) rfl rfl ?_
      refine gd_e h (fun g4 h => ?_)
      refine x_tray F.1 (i := 16) rfl g4 ?_
      refine x_iload_n F.1 (i := 17) rfl rfl ?_
      refine x_iconst F.1 (i := 18) rfl ic_1 ?_
      refine cal_e h (fun r5 M2 e6 h => ?_)
      refine x_cV2i F.1 (i := 19) rfl ml_KT_130 ok_Tray_lacks (lk_Tray (isTray_of g4)) (Nat.le_of_ble_eq_true rfl) (Nat.le_of_ble_eq_true rfl) (fun _ => t_Tray_lacks (isTray_of g4) e6) ?_
      refine x_if_eq F.1 (i := 20) (tgt := 41) rfl (by decide) (fun c => ?_) (fun c => ?_)
      · replace h := if_T c h
        refine x_iconst F.1 (i := 23) rfl ic_0 ?_
        exact x_iretf F (i := 24) rfl rfl h (res := (r, M')) hQ
      · replace h := if_F c h
        refine x_iconst F.1 (i := 21) rfl ic_4 ?_
        refine x_goto F.1 (i := 22) (tgt := 42) rfl (by decide) ?_
        exact x_iretf F (i := 24) rfl rfl h (res := (r, M')) hQ
    · replace h := if_F c h
      refine x_iconst F.1 (i := 11) rfl ic_3 ?_
      exact x_iretf F (i := 12) rfl rfl h (res := (r, M')) hQ
  · replace h := if_F c h
    refine x_iconst F.1 (i := 3) rfl ic_1 ?_
    exact x_iretf F (i := 4) rfl rfl h (res := (r, M')) hQ
set_option maxHeartbeats 4000000 in
theorem t_Tray_put {w : kx_W} {d : Nat} {M : kx_M} {Q : Option Value → kx_M → Prop} {p0 : Nat} {p1 : Int32} {p2 : Int64} {r : Unit} {M' : kx_M} (hp0 : isTray p0 = true) (h : f_Tray_put p0 p1 p2 M = some (r, M')) (hQ : Q none M') : Ct w d m_Tray_put [.ref p0, .int p1, .long p2] M Q := by
  refine mk_ct ok_Tray_put (Nat.le_of_ble_eq_true rfl) (fun G F => ?_)
  rw [f_Tray_put] at h
  show G 0 [some (.ref p0), some (.int p1), some (.long p2), none] [] M
  refine x_aload_n F.1 (i := 0) rfl rfl ?_
  refine x_getI F.1 (i := 1) rfl fl_Tray_19 (lk_Tray hp0) (by rfl) ?_
  refine ite_e h (fun c0 h => ?_) (fun c0 h => ?_)
  · refine x_tabIn F.1 (i := 2) (tgt := 32) rfl (by rw [c0]; decide) (by rw [c0]; decide) (by rw [c0]; rfl) (by decide) ?_
    refine x_aload_n F.1 (i := 3) rfl rfl ?_
    refine x_getC F.1 (i := 4) rfl fl_Tray_9 (lk_Tray hp0) (by rfl) ?_
    refine x_iload_n F.1 (i := 5) rfl rfl ?_
    refine x_lload_n F.1 (i := 6) rfl rfl ?_
    refine x_l2i F.1 (i := 7) rfl ?_
    refine x_i2b F.1 (i := 8) rfl ?_
    refine x_i2l F.1 (i := 9) rfl ?_
    refine gd_e h (fun g1 h => ?_)
    refine x_last F.1 (i := 10) rfl (lk_Tray_numbers hp0) (inb_e g1) ?_
    replace h := bd_e h
    refine x_goto F.1 (i := 11) (tgt := 77) rfl (by decide) ?_
    exact x_vretf F (i := 34) rfl rfl h (res := (r, M')) hQ
  refine ite_e h (fun c1 h => ?_) (fun c1 h => ?_)
  · refine x_tabIn F.1 (i := 2) (tgt := 45) rfl (by rw [c1]; decide) (by rw [c1]; decide) (by rw [c1]; rfl) (by decide) ?_
    refine x_aload_n F.1 (i := 12) rfl rfl ?_
    refine x_getC F.1 (i := 13) rfl fl_Tray_9 (lk_Tray hp0) (by rfl) ?_
    refine x_iload_n F.1 (i := 14) rfl rfl ?_
    refine x_lload_n F.1 (i := 15) rfl rfl ?_
    refine x_l2i F.1 (i := 16) rfl ?_
    refine x_i2s F.1 (i := 17) rfl ?_
    refine x_i2l F.1 (i := 18) rfl ?_
    refine gd_e h (fun g2 h => ?_)
    refine x_last F.1 (i := 19) rfl (lk_Tray_numbers hp0) (inb_e g2) ?_
    replace h := bd_e h
    refine x_goto F.1 (i := 20) (tgt := 77) rfl (by decide) ?_
    exact x_vretf F (i := 34) rfl rfl h (res := (r, M')) hQ
  refine ite_e h (fun c2 h => ?_) (fun c2 h => ?_)
  · refine x_tabIn F.1 (i := 2) (tgt := 58) rfl (by rw [c2]; decide) (by rw [c2]; decide) (by rw [c2]; rfl) (by decide) ?_
    refine x_aload_n F.1 (i := 21) rfl rfl ?_
    refine x_getC F.1 (i := 22) rfl fl_Tray_9 (lk_Tray hp0) (by rfl) ?_
    refine x_iload_n F.1 (i := 23) rfl rfl ?_
    refine x_lload_n F.1 (i := 24) rfl rfl ?_
    refine x_l2i F.1 (i := 25) rfl ?_
    refine x_i2l F.1 (i := 26) rfl ?_
    refine gd_e h (fun g3 h => ?_)
    refine x_last F.1 (i := 27) rfl (lk_Tray_numbers hp0) (inb_e g3) ?_
    replace h := bd_e h
    refine x_goto F.1 (i := 28) (tgt := 77) rfl (by decide) ?_
    exact x_vretf F (i := 34) rfl rfl h (res := (r, M')) hQ
  have c0z := ne_toInt (z := 0) c0 (by decide)
  have c1z := ne_toInt (z := 1) c1 (by decide)
  have c2z := ne_toInt (z := 2) c2 (by decide)
  refine x_tabOut F.1 (i := 2) (tgt := 70) rfl (by omega) (by decide) ?_
  refine x_aload_n F.1 (i := 29) rfl rfl ?_
  refine x_getC F.1 (i := 30) rfl fl_Tray_9 (lk_Tray hp0) (by rfl) ?_
  refine x_iload_n F.1 (i := 31) rfl rfl ?_
  refine x_lload_n F.1 (i := 32) rfl rfl ?_
  refine gd_e h (fun g4 h => ?_)
  refine x_last F.1 (i := 33) rfl (lk_Tray_numbers hp0) (inb_e g4) ?_
  replace h := bd_e h
  exact x_vretf F (i := 34) rfl rfl h (res := (r, M')) hQ
set_option maxHeartbeats 4000000 in
theorem t_KT_write {w : kx_W} {d : Nat} {M : kx_M} {Q : Option Value → kx_M → Prop} {p1 : Int32} {p2 : Int32} {p3 : Int64} {r : Int32} {M' : kx_M} (h : f_KT_write p1 p2 p3 M = some (r, M')) (hQ : Q (some (.int r)) M') : Ct w (d + 2) m_KT_write [.ref 0, .int p1, .int p2, .long p3] M Q := by
  refine mk_ct ok_KT_write (Nat.le_of_ble_eq_true rfl) (fun G F => ?_)
  rw [f_KT_write] at h
  show G 0 [some (.ref 0), some (.int p1), some (.int p2), some (.long p3), none] [] M
  refine x_aload_n F.1 (i := 0) rfl rfl ?_
  refine x_aload_n F.1 (i := 1) rfl rfl ?_
  refine x_iload_n F.1 (i := 2) rfl rfl ?_
  refine x_iload_n F.1 (i := 3) rfl rfl ?_
  refine cal_e h (fun r1 M1 e2 h => ?_)
  refine x_cV2i F.1 (i := 4) rfl ml_KT_110 ok_KT_placeStatus rfl (Nat.le_of_ble_eq_true rfl) (Nat.le_of_ble_eq_true rfl) (fun _ => t_KT_placeStatus e2) ?_
  refine cal_e h (fun r3 M2 e4 h => ?_)
  refine x_cV1i F.1 (i := 5) rfl ml_KT_103 ok_KT_refused rfl (Nat.le_of_ble_eq_true rfl) (Nat.le_of_ble_eq_true rfl) (fun _ => t_KT_refused e4) ?_
  refine x_if_eq F.1 (i := 6) (tgt := 15) rfl (by decide) (fun c => ?_) (fun c => ?_)
  · replace h := if_T c h
    refine x_aload_n F.1 (i := 9) rfl rfl ?_
    refine x_getC F.1 (i := 10) rfl fl_KT_11 rfl (by rfl) ?_
    refine x_iload_n F.1 (i := 11) rfl rfl ?_
    refine gd_e h (fun g5 h => ?_)
    refine x_tray F.1 (i := 12) rfl g5 ?_
    refine x_iload_n F.1 (i := 13) rfl rfl ?_
    refine x_lload_n F.1 (i := 14) rfl rfl ?_
    refine cal_e h (fun r6 M3 e7 h => ?_)
    refine x_cV2v F.1 (i := 15) rfl ml_KT_114 ok_Tray_put (lk_Tray (isTray_of g5)) (Nat.le_of_ble_eq_true rfl) (Nat.le_of_ble_eq_true rfl) (fun _ => t_Tray_put (isTray_of g5) e7) ?_
    refine x_iconst F.1 (i := 16) rfl ic_1 ?_
    exact x_zretf F (i := 17) rfl rfl (Or.inr rfl) h (res := (r, M')) hQ
  · replace h := if_F c h
    refine x_iconst F.1 (i := 7) rfl ic_0 ?_
    exact x_zretf F (i := 8) rfl rfl (Or.inl rfl) h (res := (r, M')) hQ
set_option maxHeartbeats 4000000 in
theorem t_KT_read {w : kx_W} {d : Nat} {M : kx_M} {Q : Option Value → kx_M → Prop} {p1 : Int32} {p2 : Int32} {r : Int64} {M' : kx_M} (h : f_KT_read p1 p2 M = some (r, M')) (hQ : Q (some (.long r)) M') : Ct w (d + 2) m_KT_read [.ref 0, .int p1, .int p2] M Q := by
  refine mk_ct ok_KT_read (Nat.le_of_ble_eq_true rfl) (fun G F => ?_)
  rw [f_KT_read] at h
  show G 0 [some (.ref 0), some (.int p1), some (.int p2)] [] M
  refine x_aload_n F.1 (i := 0) rfl rfl ?_
  refine x_aload_n F.1 (i := 1) rfl rfl ?_
  refine x_iload_n F.1 (i := 2) rfl rfl ?_
  refine x_iload_n F.1 (i := 3) rfl rfl ?_
  refine cal_e h (fun r1 M1 e2 h => ?_)
  refine x_cV2i F.1 (i := 4) rfl ml_KT_110 ok_KT_placeStatus rfl (Nat.le_of_ble_eq_true rfl) (Nat.le_of_ble_eq_true rfl) (fun _ => t_KT_placeStatus e2) ?_
  refine cal_e h (fun r3 M2 e4 h => ?_)
  refine x_cV1i F.1 (i := 5) rfl ml_KT_103 ok_KT_refused rfl (Nat.le_of_ble_eq_true rfl) (Nat.le_of_ble_eq_true rfl) (fun _ => t_KT_refused e4) ?_
  refine x_if_eq F.1 (i := 6) (tgt := 17) rfl (by decide) (fun c => ?_) (fun c => ?_)
  · replace h := if_T c h
    refine x_aload_n F.1 (i := 9) rfl rfl ?_
    refine x_getC F.1 (i := 10) rfl fl_KT_11 rfl (by rfl) ?_
    refine x_iload_n F.1 (i := 11) rfl rfl ?_
    refine gd_e h (fun g5 h => ?_)
    refine x_tray F.1 (i := 12) rfl g5 ?_
    refine x_getC F.1 (i := 13) rfl fl_KT_120 (lk_Tray (isTray_of g5)) (by rfl) ?_
    refine x_iload_n F.1 (i := 14) rfl rfl ?_
    refine gd_e h (fun g6 h => ?_)
    refine x_lald F.1 (i := 15) rfl (lk_Tray_numbers (isTray_of g5)) (inb_e g6) ?_
    exact x_lretf F (i := 16) rfl rfl h (res := (r, M')) hQ
  · replace h := if_F c h
    refine x_ldc2_w F.1 (i := 7) rfl cl_KT_118 ?_
    exact x_lretf F (i := 8) rfl rfl h (res := (r, M')) hQ
set_option maxHeartbeats 4000000 in
theorem t_KT_pour_l127 {w : kx_W} {d : Nat} {Q : Option Value → kx_M → Prop} {G : Nat → List (Option Value) → List Value → kx_M → Prop} (F : Sd w (d + 1) m_KT_pour Q G) {p1 : Int32} {p2 : Int32} {p3 : Int32} {p4 : Int32} {p5 : Int32} {res : Int32 × kx_M} (hQ : Q (some (.int res.1)) res.2) :
    ∀ (x6 : Int32) (M : kx_M),
    f_KT_pour_l127 p1 p2 p3 p4 p5 x6 M = some res → G 127 [some (.ref 0), some (.int p1), some (.int p2), some (.int p3), some (.int p4), some (.int p5), some (.int x6)] [] M := by
  intro x6 M h
  rw [f_KT_pour_l127] at h
  refine x_aload_n F.1 (i := 63) rfl rfl ?_
  refine x_iload F.1 (i := 64) rfl rfl ?_
  refine cal_e h (fun r1 M1 e2 h => ?_)
  refine x_cV1i F.1 (i := 65) rfl ml_KT_103 ok_KT_refused rfl (Nat.le_of_ble_eq_true rfl) (Nat.le_of_ble_eq_true rfl) (fun _ => t_KT_refused e2) ?_
  refine x_if_eq F.1 (i := 66) (tgt := 138) rfl (by decide) (fun c => ?_) (fun c => ?_)
  · replace h := if_T c h
    refine x_aload_n F.1 (i := 69) rfl rfl ?_
    refine x_getC F.1 (i := 70) rfl fl_KT_11 rfl (by rfl) ?_
    refine x_iload_n F.1 (i := 71) rfl rfl ?_
    refine gd_e h (fun g3 h => ?_)
    refine x_tray F.1 (i := 72) rfl g3 ?_
    refine x_getC F.1 (i := 73) rfl fl_KT_120 (lk_Tray (isTray_of g3)) (by rfl) ?_
    refine x_iload_n F.1 (i := 74) rfl rfl ?_
    refine x_aload_n F.1 (i := 75) rfl rfl ?_
    refine x_getC F.1 (i := 76) rfl fl_KT_11 rfl (by rfl) ?_
    refine x_iload_n F.1 (i := 77) rfl rfl ?_
    refine gd_e h (fun g4 h => ?_)
    refine x_tray F.1 (i := 78) rfl g4 ?_
    refine x_getC F.1 (i := 79) rfl fl_KT_120 (lk_Tray (isTray_of g4)) (by rfl) ?_
    refine x_iload F.1 (i := 80) rfl rfl ?_
    refine x_iload F.1 (i := 81) rfl rfl ?_
    refine gd_e h (fun g5 h => ?_)
    have g5z := cpb_e g5
    refine x_copyl F.1 (i := 82) rfl jm_KT_134 (lk_Tray_numbers (isTray_of g3)) (lk_Tray_numbers (isTray_of g4)) g5z.1 g5z.2.1 g5z.2.2.1 g5z.2.2.2.1 g5z.2.2.2.2 (Nat.le_of_ble_eq_true rfl) ?_
    replace h := bd_e h
    refine x_iconst F.1 (i := 83) rfl ic_1 ?_
    exact x_zretf F (i := 84) rfl rfl (Or.inr rfl) h hQ
  · replace h := if_F c h
    refine x_iconst F.1 (i := 67) rfl ic_0 ?_
    exact x_zretf F (i := 68) rfl rfl (Or.inl rfl) h hQ
set_option maxHeartbeats 4000000 in
theorem t_KT_pour {w : kx_W} {d : Nat} {M : kx_M} {Q : Option Value → kx_M → Prop} {p1 : Int32} {p2 : Int32} {p3 : Int32} {p4 : Int32} {p5 : Int32} {r : Int32} {M' : kx_M} (h : f_KT_pour p1 p2 p3 p4 p5 M = some (r, M')) (hQ : Q (some (.int r)) M') : Ct w (d + 1) m_KT_pour [.ref 0, .int p1, .int p2, .int p3, .int p4, .int p5] M Q := by
  refine mk_ct ok_KT_pour (Nat.le_of_ble_eq_true rfl) (fun G F => ?_)
  rw [f_KT_pour] at h
  show G 0 [some (.ref 0), some (.int p1), some (.int p2), some (.int p3), some (.int p4), some (.int p5), none] [] M
  refine x_iconst F.1 (i := 0) rfl ic_0 ?_
  refine x_istore F.1 (i := 1) rfl (Nat.le_of_ble_eq_true rfl) (Nat.le_of_ble_eq_true rfl) rfl ?_
  refine x_iload_n F.1 (i := 2) rfl rfl ?_
  refine cal_e h (fun r1 M1 e2 h => ?_)
  refine x_cS1i F.1 (i := 3) rfl ml_KT_99 ok_KT_noTray (Nat.le_of_ble_eq_true rfl) (Nat.le_of_ble_eq_true rfl) (fun _ => t_KT_noTray e2) ?_
  refine x_if_ne F.1 (i := 4) (tgt := 17) rfl (by decide) (fun c => ?_) (fun c => ?_)
  · replace h := if_F c h
    refine x_iconst F.1 (i := 8) rfl ic_1 ?_
    refine x_istore F.1 (i := 9) rfl (Nat.le_of_ble_eq_true rfl) (Nat.le_of_ble_eq_true rfl) rfl ?_
    refine x_goto F.1 (i := 10) (tgt := 127) rfl (by decide) ?_
    exact x_wk F.1 ((t_KT_pour_l127 F (res := (r, M')) hQ) _ _ h) ⟨rfl, rfl, rfl, rfl, rfl, rfl, rfl, trivial⟩
  · replace h := if_T c h
    refine x_iload_n F.1 (i := 5) rfl rfl ?_
    refine cal_e h (fun r3 M2 e4 h => ?_)
    refine x_cS1i F.1 (i := 6) rfl ml_KT_99 ok_KT_noTray (Nat.le_of_ble_eq_true rfl) (Nat.le_of_ble_eq_true rfl) (fun _ => t_KT_noTray e4) ?_
    refine x_if_eq F.1 (i := 7) (tgt := 23) rfl (by decide) (fun c => ?_) (fun c => ?_)
    · replace h := if_T c h
      refine x_aload_n F.1 (i := 11) rfl rfl ?_
      refine x_getC F.1 (i := 12) rfl fl_KT_11 rfl (by rfl) ?_
      refine x_iload_n F.1 (i := 13) rfl rfl ?_
      refine gd_e h (fun g5 h => ?_)
      refine x_tray F.1 (i := 14) rfl g5 ?_
      refine x_getI F.1 (i := 15) rfl fl_KT_124 (lk_Tray (isTray_of g5)) (by rfl) ?_
      refine x_if_ne F.1 (i := 16) (tgt := 47) rfl (by decide) (fun c => ?_) (fun c => ?_)
      · replace h := if_F c h
        refine x_iconst F.1 (i := 23) rfl ic_3 ?_
        refine x_istore F.1 (i := 24) rfl (Nat.le_of_ble_eq_true rfl) (Nat.le_of_ble_eq_true rfl) rfl ?_
        refine x_goto F.1 (i := 25) (tgt := 127) rfl (by decide) ?_
        exact x_wk F.1 ((t_KT_pour_l127 F (res := (r, M')) hQ) _ _ h) ⟨rfl, rfl, rfl, rfl, rfl, rfl, rfl, trivial⟩
      · replace h := if_T c h
        refine x_aload_n F.1 (i := 17) rfl rfl ?_
        refine x_getC F.1 (i := 18) rfl fl_KT_11 rfl (by rfl) ?_
        refine x_iload_n F.1 (i := 19) rfl rfl ?_
        refine gd_e h (fun g6 h => ?_)
        refine x_tray F.1 (i := 20) rfl g6 ?_
        refine x_getI F.1 (i := 21) rfl fl_KT_124 (lk_Tray (isTray_of g6)) (by rfl) ?_
        refine x_if_eq F.1 (i := 22) (tgt := 53) rfl (by decide) (fun c => ?_) (fun c => ?_)
        · replace h := if_T c h
          refine x_aload_n F.1 (i := 26) rfl rfl ?_
          refine x_getC F.1 (i := 27) rfl fl_KT_11 rfl (by rfl) ?_
          refine x_iload_n F.1 (i := 28) rfl rfl ?_
          refine gd_e h (fun g7 h => ?_)
          refine x_tray F.1 (i := 29) rfl g7 ?_
          refine x_getI F.1 (i := 30) rfl fl_KT_127 (lk_Tray (isTray_of g7)) (by rfl) ?_
          refine x_aload_n F.1 (i := 31) rfl rfl ?_
          refine x_getC F.1 (i := 32) rfl fl_KT_11 rfl (by rfl) ?_
          refine x_iload_n F.1 (i := 33) rfl rfl ?_
          refine gd_e h (fun g8 h => ?_)
          refine x_tray F.1 (i := 34) rfl g8 ?_
          refine x_getI F.1 (i := 35) rfl fl_KT_127 (lk_Tray (isTray_of g8)) (by rfl) ?_
          refine x_icmp_eq F.1 (i := 36) (tgt := 81) rfl (by decide) (fun c => ?_) (fun c => ?_)
          · replace h := if_T c h
            refine x_iload F.1 (i := 40) rfl rfl ?_
            refine x_if_ge F.1 (i := 41) (tgt := 93) rfl (by decide) (fun c => ?_) (fun c => ?_)
            · replace h := if_T c h
              refine x_aload_n F.1 (i := 45) rfl rfl ?_
              refine x_getC F.1 (i := 46) rfl fl_KT_11 rfl (by rfl) ?_
              refine x_iload_n F.1 (i := 47) rfl rfl ?_
              refine gd_e h (fun g9 h => ?_)
              refine x_tray F.1 (i := 48) rfl g9 ?_
              refine x_iload_n F.1 (i := 49) rfl rfl ?_
              refine x_iload F.1 (i := 50) rfl rfl ?_
              refine cal_e h (fun r10 M3 e11 h => ?_)
              refine x_cV2i F.1 (i := 51) rfl ml_KT_130 ok_Tray_lacks (lk_Tray (isTray_of g9)) (Nat.le_of_ble_eq_true rfl) (Nat.le_of_ble_eq_true rfl) (fun _ => t_Tray_lacks (isTray_of g9) e11) ?_
              refine x_if_ne F.1 (i := 52) (tgt := 124) rfl (by decide) (fun c => ?_) (fun c => ?_)
              · replace h := if_F c h
                refine x_iconst F.1 (i := 61) rfl ic_4 ?_
                refine x_istore F.1 (i := 62) rfl (Nat.le_of_ble_eq_true rfl) (Nat.le_of_ble_eq_true rfl) rfl ?_
                exact x_wk F.1 ((t_KT_pour_l127 F (res := (r, M')) hQ) _ _ h) ⟨rfl, rfl, rfl, rfl, rfl, rfl, rfl, trivial⟩
              · replace h := if_T c h
                refine x_aload_n F.1 (i := 53) rfl rfl ?_
                refine x_getC F.1 (i := 54) rfl fl_KT_11 rfl (by rfl) ?_
                refine x_iload_n F.1 (i := 55) rfl rfl ?_
                refine gd_e h (fun g12 h => ?_)
                refine x_tray F.1 (i := 56) rfl g12 ?_
                refine x_iload F.1 (i := 57) rfl rfl ?_
                refine x_iload F.1 (i := 58) rfl rfl ?_
                refine cal_e h (fun r13 M4 e14 h => ?_)
                refine x_cV2i F.1 (i := 59) rfl ml_KT_130 ok_Tray_lacks (lk_Tray (isTray_of g12)) (Nat.le_of_ble_eq_true rfl) (Nat.le_of_ble_eq_true rfl) (fun _ => t_Tray_lacks (isTray_of g12) e14) ?_
                refine x_if_eq F.1 (i := 60) (tgt := 127) rfl (by decide) (fun c => ?_) (fun c => ?_)
                · replace h := if_T c h
                  exact x_wk F.1 ((t_KT_pour_l127 F (res := (r, M')) hQ) _ _ h) ⟨rfl, rfl, rfl, rfl, rfl, rfl, rfl, trivial⟩
                · replace h := if_F c h
                  refine x_iconst F.1 (i := 61) rfl ic_4 ?_
                  refine x_istore F.1 (i := 62) rfl (Nat.le_of_ble_eq_true rfl) (Nat.le_of_ble_eq_true rfl) rfl ?_
                  exact x_wk F.1 ((t_KT_pour_l127 F (res := (r, M')) hQ) _ _ h) ⟨rfl, rfl, rfl, rfl, rfl, rfl, rfl, trivial⟩
            · replace h := if_F c h
              refine x_bipush F.1 (i := 42) rfl bp_6 ?_
              refine x_istore F.1 (i := 43) rfl (Nat.le_of_ble_eq_true rfl) (Nat.le_of_ble_eq_true rfl) rfl ?_
              refine x_goto F.1 (i := 44) (tgt := 127) rfl (by decide) ?_
              exact x_wk F.1 ((t_KT_pour_l127 F (res := (r, M')) hQ) _ _ h) ⟨rfl, rfl, rfl, rfl, rfl, rfl, rfl, trivial⟩
          · replace h := if_F c h
            refine x_bipush F.1 (i := 37) rfl bp_11 ?_
            refine x_istore F.1 (i := 38) rfl (Nat.le_of_ble_eq_true rfl) (Nat.le_of_ble_eq_true rfl) rfl ?_
            refine x_goto F.1 (i := 39) (tgt := 127) rfl (by decide) ?_
            exact x_wk F.1 ((t_KT_pour_l127 F (res := (r, M')) hQ) _ _ h) ⟨rfl, rfl, rfl, rfl, rfl, rfl, rfl, trivial⟩
        · replace h := if_F c h
          refine x_iconst F.1 (i := 23) rfl ic_3 ?_
          refine x_istore F.1 (i := 24) rfl (Nat.le_of_ble_eq_true rfl) (Nat.le_of_ble_eq_true rfl) rfl ?_
          refine x_goto F.1 (i := 25) (tgt := 127) rfl (by decide) ?_
          exact x_wk F.1 ((t_KT_pour_l127 F (res := (r, M')) hQ) _ _ h) ⟨rfl, rfl, rfl, rfl, rfl, rfl, rfl, trivial⟩
    · replace h := if_F c h
      refine x_iconst F.1 (i := 8) rfl ic_1 ?_
      refine x_istore F.1 (i := 9) rfl (Nat.le_of_ble_eq_true rfl) (Nat.le_of_ble_eq_true rfl) rfl ?_
      refine x_goto F.1 (i := 10) (tgt := 127) rfl (by decide) ?_
      exact x_wk F.1 ((t_KT_pour_l127 F (res := (r, M')) hQ) _ _ h) ⟨rfl, rfl, rfl, rfl, rfl, rfl, rfl, trivial⟩
set_option maxHeartbeats 4000000 in
theorem t_KT_feedInt_l3 {w : kx_W} {d : Nat} {Q : Option Value → kx_M → Prop} {G : Nat → List (Option Value) → List Value → kx_M → Prop} (F : Sd w d m_KT_feedInt Q G) {p1 : Int32} {res : Unit × kx_M} (hQ : Q none res.2) :
    ∀ (n : Nat) (x2 : Int32) (M : kx_M),
    f_KT_feedInt_l3 p1 n x2 M = some res → G 3 [some (.ref 0), some (.int p1), some (.int x2)] [] M := by
  intro n
  induction n with
  | zero =>
    intro x2 M h
    exact absurd h (by rw [f_KT_feedInt_l3]; exact fun z => nomatch z)
  | succ n ih =>
    intro x2 M h
    rw [f_KT_feedInt_l3] at h
    refine x_iload_n F.1 (i := 2) rfl rfl ?_
    refine x_if_lt F.1 (i := 3) (tgt := 49) rfl (by decide) (fun c => ?_) (fun c => ?_)
    · replace h := if_T c h
      exact x_vretf F (i := 26) rfl rfl h hQ
    · replace h := if_F c h
      refine x_aload_n F.1 (i := 4) rfl rfl ?_
      refine x_getI F.1 (i := 5) rfl fl_KT_71 rfl (by rfl) ?_
      refine x_sipush F.1 (i := 6) rfl sp_900 ?_
      refine x_icmp_ge F.1 (i := 7) (tgt := 43) rfl (by decide) (fun c => ?_) (fun c => ?_)
      · replace h := if_T c h
        refine x_iinc F.1 (i := 24) rfl rfl rfl (Nat.le_of_ble_eq_true rfl) rfl ?_
        replace h := bd_e h
        refine x_goto F.1 (i := 25) (tgt := 3) rfl (by decide) ?_
        exact x_wk F.1 (ih _ _ h) ⟨rfl, rfl, rfl, trivial⟩
      · replace h := if_F c h
        refine x_aload_n F.1 (i := 8) rfl rfl ?_
        refine x_getC F.1 (i := 9) rfl fl_KT_15 rfl (by rfl) ?_
        refine x_aload_n F.1 (i := 10) rfl rfl ?_
        refine x_getI F.1 (i := 11) rfl fl_KT_71 rfl (by rfl) ?_
        refine x_iload_n F.1 (i := 12) rfl rfl ?_
        refine x_iload_n F.1 (i := 13) rfl rfl ?_
        refine x_iushr F.1 (i := 14) rfl ?_
        refine x_sipush F.1 (i := 15) rfl sp_255 ?_
        refine x_iand F.1 (i := 16) rfl ?_
        refine gd_e h (fun g2 h => ?_)
        refine x_iast F.1 (i := 17) rfl rfl (inb_e g2) ?_
        replace h := bd_e h
        refine x_aload_n F.1 (i := 18) rfl rfl ?_
        refine x_dup F.1 (i := 19) rfl rfl ?_
        refine x_getI F.1 (i := 20) rfl fl_KT_71 rfl (by rfl) ?_
        refine x_iconst F.1 (i := 21) rfl ic_1 ?_
        refine x_iadd F.1 (i := 22) rfl ?_
        refine x_putI F.1 (i := 23) rfl fl_KT_71 pf_KT_taped rfl (by rfl) ?_
        replace h := bd_e h
        refine x_iinc F.1 (i := 24) rfl rfl rfl (Nat.le_of_ble_eq_true rfl) rfl ?_
        replace h := bd_e h
        refine x_goto F.1 (i := 25) (tgt := 3) rfl (by decide) ?_
        exact x_wk F.1 (ih _ _ h) ⟨rfl, rfl, rfl, trivial⟩
set_option maxHeartbeats 4000000 in
theorem t_KT_feedInt {w : kx_W} {d : Nat} {M : kx_M} {Q : Option Value → kx_M → Prop} {p1 : Int32} {r : Unit} {M' : kx_M} (h : f_KT_feedInt p1 M = some (r, M')) (hQ : Q none M') : Ct w d m_KT_feedInt [.ref 0, .int p1] M Q := by
  refine mk_ct ok_KT_feedInt (Nat.le_of_ble_eq_true rfl) (fun G F => ?_)
  rw [f_KT_feedInt] at h
  show G 0 [some (.ref 0), some (.int p1), none] [] M
  refine x_bipush F.1 (i := 0) rfl bp_24 ?_
  refine x_istore_n F.1 (i := 1) rfl (Nat.le_of_ble_eq_true rfl) (Nat.le_of_ble_eq_true rfl) rfl ?_
  exact x_wk F.1 ((t_KT_feedInt_l3 F (res := (r, M')) hQ FU) _ _ h) ⟨rfl, rfl, rfl, trivial⟩
set_option maxHeartbeats 4000000 in
theorem t_KT_feed {w : kx_W} {d : Nat} {M : kx_M} {Q : Option Value → kx_M → Prop} {p1 : Int32} {p2 : Int32} {p3 : Int32} {p4 : Int32} {p5 : Int32} {r : Int32} {M' : kx_M} (h : f_KT_feed p1 p2 p3 p4 p5 M = some (r, M')) (hQ : Q (some (.int r)) M') : Ct w (d + 1) m_KT_feed [.ref 0, .int p1, .int p2, .int p3, .int p4, .int p5] M Q := by
  refine mk_ct ok_KT_feed (Nat.le_of_ble_eq_true rfl) (fun G F => ?_)
  rw [f_KT_feed] at h
  show G 0 [some (.ref 0), some (.int p1), some (.int p2), some (.int p3), some (.int p4), some (.int p5)] [] M
  refine x_aload_n F.1 (i := 0) rfl rfl ?_
  refine x_getI F.1 (i := 1) rfl fl_KT_71 rfl (by rfl) ?_
  refine x_bipush F.1 (i := 2) rfl bp_20 ?_
  refine x_iadd F.1 (i := 3) rfl ?_
  refine x_sipush F.1 (i := 4) rfl sp_900 ?_
  refine x_icmp_le F.1 (i := 5) (tgt := 15) rfl (by decide) (fun c => ?_) (fun c => ?_)
  · replace h := if_T c h
    refine x_aload_n F.1 (i := 8) rfl rfl ?_
    refine x_iload_n F.1 (i := 9) rfl rfl ?_
    refine cal_e h (fun r1 M1 e2 h => ?_)
    refine x_cV1v F.1 (i := 10) rfl ml_KT_140 ok_KT_feedInt rfl (Nat.le_of_ble_eq_true rfl) (Nat.le_of_ble_eq_true rfl) (fun _ => t_KT_feedInt e2) ?_
    refine x_aload_n F.1 (i := 11) rfl rfl ?_
    refine x_iload_n F.1 (i := 12) rfl rfl ?_
    refine cal_e h (fun r3 M2 e4 h => ?_)
    refine x_cV1v F.1 (i := 13) rfl ml_KT_140 ok_KT_feedInt rfl (Nat.le_of_ble_eq_true rfl) (Nat.le_of_ble_eq_true rfl) (fun _ => t_KT_feedInt e4) ?_
    refine x_aload_n F.1 (i := 14) rfl rfl ?_
    refine x_iload_n F.1 (i := 15) rfl rfl ?_
    refine cal_e h (fun r5 M3 e6 h => ?_)
    refine x_cV1v F.1 (i := 16) rfl ml_KT_140 ok_KT_feedInt rfl (Nat.le_of_ble_eq_true rfl) (Nat.le_of_ble_eq_true rfl) (fun _ => t_KT_feedInt e6) ?_
    refine x_aload_n F.1 (i := 17) rfl rfl ?_
    refine x_iload F.1 (i := 18) rfl rfl ?_
    refine cal_e h (fun r7 M4 e8 h => ?_)
    refine x_cV1v F.1 (i := 19) rfl ml_KT_140 ok_KT_feedInt rfl (Nat.le_of_ble_eq_true rfl) (Nat.le_of_ble_eq_true rfl) (fun _ => t_KT_feedInt e8) ?_
    refine x_aload_n F.1 (i := 20) rfl rfl ?_
    refine x_iload F.1 (i := 21) rfl rfl ?_
    refine cal_e h (fun r9 M5 e10 h => ?_)
    refine x_cV1v F.1 (i := 22) rfl ml_KT_140 ok_KT_feedInt rfl (Nat.le_of_ble_eq_true rfl) (Nat.le_of_ble_eq_true rfl) (fun _ => t_KT_feedInt e10) ?_
    refine x_aload_n F.1 (i := 23) rfl rfl ?_
    refine x_getI F.1 (i := 24) rfl fl_KT_71 rfl (by rfl) ?_
    exact x_iretf F (i := 25) rfl rfl h (res := (r, M')) hQ
  · replace h := if_F c h
    refine x_iconst F.1 (i := 6) rfl ic_n1 ?_
    exact x_iretf F (i := 7) rfl rfl h (res := (r, M')) hQ
set_option maxHeartbeats 4000000 in
theorem t_Arr_fill_2_l5 {w : kx_W} {d : Nat} {Q : Option Value → kx_M → Prop} {G : Nat → List (Option Value) → List Value → kx_M → Prop} (F : Sd w d m_Arr_fill_2 Q G) {p0 : Nat} {p1 : Int32} {res : Unit × kx_M} (hQ : Q none res.2) :
    ∀ (n : Nat) (x2 : Int32) (x3 : Int32) (M : kx_M),
    f_Arr_fill_2_l5 p0 p1 n x2 x3 M = some res → G 5 [some (.ref p0), some (.int p1), some (.int x2), some (.int x3)] [] M := by
  intro n
  induction n with
  | zero =>
    intro x2 x3 M h
    exact absurd h (by rw [f_Arr_fill_2_l5]; exact fun z => nomatch z)
  | succ n ih =>
    intro x2 x3 M h
    rw [f_Arr_fill_2_l5] at h
    refine x_iload_n F.1 (i := 5) rfl rfl ?_
    refine x_iload_n F.1 (i := 6) rfl rfl ?_
    refine x_icmp_ge F.1 (i := 7) (tgt := 20) rfl (by decide) (fun c => ?_) (fun c => ?_)
    · replace h := if_T c h
      exact x_vretf F (i := 14) rfl rfl h hQ
    · replace h := if_F c h
      refine x_aload_n F.1 (i := 8) rfl rfl ?_
      refine x_iload_n F.1 (i := 9) rfl rfl ?_
      refine x_iload_n F.1 (i := 10) rfl rfl ?_
      refine gd_e h (fun g1 h => ?_)
      obtain ⟨ng1, kg1, lg1, ig1⟩ := aIb_e g1
      refine x_iast F.1 (i := 11) rfl lg1 ig1 ?_
      replace h := bd_e h
      refine x_iinc F.1 (i := 12) rfl rfl rfl (Nat.le_of_ble_eq_true rfl) rfl ?_
      replace h := bd_e h
      refine x_goto F.1 (i := 13) (tgt := 5) rfl (by decide) ?_
      exact x_wk F.1 (ih _ _ _ h) ⟨rfl, rfl, rfl, rfl, trivial⟩
set_option maxHeartbeats 4000000 in
theorem t_Arr_fill_2 {w : kx_W} {d : Nat} {M : kx_M} {Q : Option Value → kx_M → Prop} {p0 : Nat} {p1 : Int32} {r : Unit} {M' : kx_M} (h : f_Arr_fill_2 p0 p1 M = some (r, M')) (hQ : Q none M') : Ct w d m_Arr_fill_2 [.ref p0, .int p1] M Q := by
  refine mk_ct ok_Arr_fill_2 (Nat.le_of_ble_eq_true rfl) (fun G F => ?_)
  rw [f_Arr_fill_2] at h
  show G 0 [some (.ref p0), some (.int p1), none, none] [] M
  refine x_iconst F.1 (i := 0) rfl ic_0 ?_
  refine x_istore_n F.1 (i := 1) rfl (Nat.le_of_ble_eq_true rfl) (Nat.le_of_ble_eq_true rfl) rfl ?_
  refine x_aload_n F.1 (i := 2) rfl rfl ?_
  refine gd_e h (fun g1 h => ?_)
  obtain ⟨kg1, lg1⟩ := aLk_e g1
  refine x_ialen F.1 (i := 3) rfl lg1 rfl ?_
  refine x_istore_n F.1 (i := 4) rfl (Nat.le_of_ble_eq_true rfl) (Nat.le_of_ble_eq_true rfl) rfl ?_
  replace h := bd_e h
  exact x_wk F.1 ((t_Arr_fill_2_l5 F (res := (r, M')) hQ FU) _ _ _ h) ⟨rfl, rfl, rfl, rfl, trivial⟩
set_option maxHeartbeats 4000000 in
theorem t_Deal_clear {w : kx_W} {d : Nat} {M : kx_M} {Q : Option Value → kx_M → Prop} {p0 : Nat} {r : Unit} {M' : kx_M} (hp0 : isDeal p0 = true) (h : f_Deal_clear p0 M = some (r, M')) (hQ : Q none M') : Ct w (d + 1) m_Deal_clear [.ref p0] M Q := by
  refine mk_ct ok_Deal_clear (Nat.le_of_ble_eq_true rfl) (fun G F => ?_)
  rw [f_Deal_clear] at h
  show G 0 [some (.ref p0)] [] M
  refine x_aload_n F.1 (i := 0) rfl rfl ?_
  refine x_iconst F.1 (i := 1) rfl ic_0 ?_
  refine x_putI F.1 (i := 2) rfl fl_Deal_34 pf_Deal_queens (lk_Deal hp0) (by rfl) ?_
  replace h := bd_e h
  refine x_aload_n F.1 (i := 3) rfl rfl ?_
  refine x_iconst F.1 (i := 4) rfl ic_0 ?_
  refine x_putI F.1 (i := 5) rfl fl_Deal_38 pf_Deal_clauses (lk_Deal hp0) (by rfl) ?_
  replace h := bd_e h
  refine x_aload_n F.1 (i := 6) rfl rfl ?_
  refine x_getC F.1 (i := 7) rfl fl_Deal_28 (lk_Deal hp0) (by rfl) ?_
  refine x_iconst F.1 (i := 8) rfl ic_0 ?_
  refine cal_e h (fun r1 M3 e2 h => ?_)
  refine x_cS2v F.1 (i := 9) rfl ml_Deal_41 ok_Arr_fill_2 (Nat.le_of_ble_eq_true rfl) (Nat.le_of_ble_eq_true rfl) (fun _ => t_Arr_fill_2 e2) ?_
  refine x_aload_n F.1 (i := 10) rfl rfl ?_
  refine x_getC F.1 (i := 11) rfl fl_Deal_31 (lk_Deal hp0) (by rfl) ?_
  refine x_iconst F.1 (i := 12) rfl ic_0 ?_
  refine cal_e h (fun r3 M4 e4 h => ?_)
  refine x_cS2v F.1 (i := 13) rfl ml_Deal_41 ok_Arr_fill_2 (Nat.le_of_ble_eq_true rfl) (Nat.le_of_ble_eq_true rfl) (fun _ => t_Arr_fill_2 e4) ?_
  exact x_vretf F (i := 14) rfl rfl h (res := (r, M')) hQ
set_option maxHeartbeats 4000000 in
theorem t_Cloth_clear {w : kx_W} {d : Nat} {M : kx_M} {Q : Option Value → kx_M → Prop} {p0 : Nat} {r : Unit} {M' : kx_M} (hp0 : isCloth p0 = true) (h : f_Cloth_clear p0 M = some (r, M')) (hQ : Q none M') : Ct w d m_Cloth_clear [.ref p0] M Q := by
  refine mk_ct ok_Cloth_clear (Nat.le_of_ble_eq_true rfl) (fun G F => ?_)
  rw [f_Cloth_clear] at h
  show G 0 [some (.ref p0)] [] M
  refine x_aload_n F.1 (i := 0) rfl rfl ?_
  refine x_bipush F.1 (i := 1) rfl bp_6 ?_
  refine x_putI F.1 (i := 2) rfl fl_Cloth_27 pf_Cloth_wide (lk_Cloth hp0) (by rfl) ?_
  replace h := bd_e h
  refine x_aload_n F.1 (i := 3) rfl rfl ?_
  refine x_bipush F.1 (i := 4) rfl bp_20 ?_
  refine x_putI F.1 (i := 5) rfl fl_Cloth_31 pf_Cloth_tough (lk_Cloth hp0) (by rfl) ?_
  replace h := bd_e h
  refine x_aload_n F.1 (i := 6) rfl rfl ?_
  refine x_iconst F.1 (i := 7) rfl ic_0 ?_
  refine x_putI F.1 (i := 8) rfl fl_Cloth_34 pf_Cloth_rows (lk_Cloth hp0) (by rfl) ?_
  replace h := bd_e h
  refine x_aload_n F.1 (i := 9) rfl rfl ?_
  refine x_iconst F.1 (i := 10) rfl ic_0 ?_
  refine x_putI F.1 (i := 11) rfl fl_Cloth_37 pf_Cloth_date (lk_Cloth hp0) (by rfl) ?_
  replace h := bd_e h
  exact x_vretf F (i := 12) rfl rfl h (res := (r, M')) hQ
set_option maxHeartbeats 4000000 in
theorem t_Script_clear {w : kx_W} {d : Nat} {M : kx_M} {Q : Option Value → kx_M → Prop} {p0 : Nat} {r : Unit} {M' : kx_M} (hp0 : isScript p0 = true) (h : f_Script_clear p0 M = some (r, M')) (hQ : Q none M') : Ct w d m_Script_clear [.ref p0] M Q := by
  refine mk_ct ok_Script_clear (Nat.le_of_ble_eq_true rfl) (fun G F => ?_)
  rw [f_Script_clear] at h
  show G 0 [some (.ref p0)] [] M
  refine x_aload_n F.1 (i := 0) rfl rfl ?_
  refine x_iconst F.1 (i := 1) rfl ic_0 ?_
  refine x_putZ F.1 (i := 2) rfl fl_Script_22 pf_Script_there (lk_Script hp0) (by rfl) (Or.inl rfl) ?_
  replace h := bd_e h
  refine x_aload_n F.1 (i := 3) rfl rfl ?_
  refine x_iconst F.1 (i := 4) rfl ic_0 ?_
  refine x_putI F.1 (i := 5) rfl fl_Script_26 pf_Script_steps (lk_Script hp0) (by rfl) ?_
  replace h := bd_e h
  refine x_aload_n F.1 (i := 6) rfl rfl ?_
  refine x_iconst F.1 (i := 7) rfl ic_0 ?_
  refine x_putI F.1 (i := 8) rfl fl_Script_30 pf_Script_entries (lk_Script hp0) (by rfl) ?_
  replace h := bd_e h
  exact x_vretf F (i := 9) rfl rfl h (res := (r, M')) hQ
set_option maxHeartbeats 4000000 in
theorem t_State_clear {w : kx_W} {d : Nat} {M : kx_M} {Q : Option Value → kx_M → Prop} {p0 : Nat} {r : Unit} {M' : kx_M} (hp0 : isState p0 = true) (h : f_State_clear p0 M = some (r, M')) (hQ : Q none M') : Ct w (d + 2) m_State_clear [.ref p0] M Q := by
  refine mk_ct ok_State_clear (Nat.le_of_ble_eq_true rfl) (fun G F => ?_)
  rw [f_State_clear] at h
  show G 0 [some (.ref p0)] [] M
  refine x_aload_n F.1 (i := 0) rfl rfl ?_
  refine x_getC F.1 (i := 1) rfl fl_State_10 (lk_State hp0) (by rfl) ?_
  refine cal_e h (fun r1 M1 e2 h => ?_)
  refine x_cV0v F.1 (i := 2) rfl ml_State_30 ok_Deal_clear (lk_Deal (lD_State_deal hp0)) (Nat.le_of_ble_eq_true rfl) (Nat.le_of_ble_eq_true rfl) (fun _ => t_Deal_clear (lD_State_deal hp0) e2) ?_
  refine x_aload_n F.1 (i := 3) rfl rfl ?_
  refine x_getC F.1 (i := 4) rfl fl_State_19 (lk_State hp0) (by rfl) ?_
  refine cal_e h (fun r3 M2 e4 h => ?_)
  refine x_cV0v F.1 (i := 5) rfl ml_State_33 ok_Cloth_clear (lk_Cloth (lD_State_cloth hp0)) (Nat.le_of_ble_eq_true rfl) (Nat.le_of_ble_eq_true rfl) (fun _ => t_Cloth_clear (lD_State_cloth hp0) e4) ?_
  refine x_aload_n F.1 (i := 6) rfl rfl ?_
  refine x_getC F.1 (i := 7) rfl fl_State_26 (lk_State hp0) (by rfl) ?_
  refine cal_e h (fun r5 M3 e6 h => ?_)
  refine x_cV0v F.1 (i := 8) rfl ml_State_34 ok_Script_clear (lk_Script (lD_State_script hp0)) (Nat.le_of_ble_eq_true rfl) (Nat.le_of_ble_eq_true rfl) (fun _ => t_Script_clear (lD_State_script hp0) e6) ?_
  exact x_vretf F (i := 9) rfl rfl h (res := (r, M')) hQ
set_option maxHeartbeats 4000000 in
theorem t_Reader_readWord_l10 {w : kx_W} {d : Nat} {Q : Option Value → kx_M → Prop} {G : Nat → List (Option Value) → List Value → kx_M → Prop} (F : Sd w d m_Reader_readWord Q G) {p0 : Nat} (hp0 : isReader p0 = true) {res : Unit × kx_M} (hQ : Q none res.2) :
    ∀ (n : Nat) (x1 : Int32) (M : kx_M),
    f_Reader_readWord_l10 p0 n x1 M = some res → G 10 [some (.ref p0), some (.int x1)] [] M := by
  intro n
  induction n with
  | zero =>
    intro x1 M h
    exact absurd h (by rw [f_Reader_readWord_l10]; exact fun z => nomatch z)
  | succ n ih =>
    intro x1 M h
    rw [f_Reader_readWord_l10] at h
    refine x_iload_n F.1 (i := 6) rfl rfl ?_
    refine x_aload_n F.1 (i := 7) rfl rfl ?_
    refine x_getI F.1 (i := 8) rfl fl_Reader_19 (lk_Reader hp0) (by rfl) ?_
    refine x_icmp_ge F.1 (i := 9) (tgt := 69) rfl (by decide) (fun c => ?_) (fun c => ?_)
    · replace h := if_T c h
      refine x_aload_n F.1 (i := 40) rfl rfl ?_
      refine x_iconst F.1 (i := 41) rfl ic_2 ?_
      refine x_putI F.1 (i := 42) rfl fl_Reader_29 pf_Reader_sort (lk_Reader hp0) (by rfl) ?_
      replace h := bd_e h
      refine x_aload_n F.1 (i := 43) rfl rfl ?_
      refine x_iload_n F.1 (i := 44) rfl rfl ?_
      refine x_putI F.1 (i := 45) rfl fl_Reader_23 pf_Reader_after (lk_Reader hp0) (by rfl) ?_
      replace h := bd_e h
      exact x_vretf F (i := 46) rfl rfl h hQ
    · replace h := if_F c h
      refine x_aload_n F.1 (i := 10) rfl rfl ?_
      refine x_getR F.1 (i := 11) rfl fl_Reader_15 (lk_Reader hp0) (by rfl) rfl ?_
      refine x_iload_n F.1 (i := 12) rfl rfl ?_
      refine gd_e h (fun g1 h => ?_)
      obtain ⟨ng1, kg1, lg1, ig1⟩ := aIb_e g1
      refine x_iald F.1 (i := 13) rfl lg1 ig1 ?_
      refine x_bipush F.1 (i := 14) rfl bp_97 ?_
      refine x_icmp_lt F.1 (i := 15) (tgt := 69) rfl (by decide) (fun c => ?_) (fun c => ?_)
      · replace h := if_T c h
        refine x_aload_n F.1 (i := 40) rfl rfl ?_
        refine x_iconst F.1 (i := 41) rfl ic_2 ?_
        refine x_putI F.1 (i := 42) rfl fl_Reader_29 pf_Reader_sort (lk_Reader hp0) (by rfl) ?_
        replace h := bd_e h
        refine x_aload_n F.1 (i := 43) rfl rfl ?_
        refine x_iload_n F.1 (i := 44) rfl rfl ?_
        refine x_putI F.1 (i := 45) rfl fl_Reader_23 pf_Reader_after (lk_Reader hp0) (by rfl) ?_
        replace h := bd_e h
        exact x_vretf F (i := 46) rfl rfl h hQ
      · replace h := if_F c h
        refine x_aload_n F.1 (i := 16) rfl rfl ?_
        refine x_getR F.1 (i := 17) rfl fl_Reader_15 (lk_Reader hp0) (by rfl) rfl ?_
        refine x_iload_n F.1 (i := 18) rfl rfl ?_
        refine gd_e h (fun g2 h => ?_)
        obtain ⟨ng2, kg2, lg2, ig2⟩ := aIb_e g2
        refine x_iald F.1 (i := 19) rfl lg2 ig2 ?_
        refine x_bipush F.1 (i := 20) rfl bp_122 ?_
        refine x_icmp_gt F.1 (i := 21) (tgt := 69) rfl (by decide) (fun c => ?_) (fun c => ?_)
        · replace h := if_T c h
          refine x_aload_n F.1 (i := 40) rfl rfl ?_
          refine x_iconst F.1 (i := 41) rfl ic_2 ?_
          refine x_putI F.1 (i := 42) rfl fl_Reader_29 pf_Reader_sort (lk_Reader hp0) (by rfl) ?_
          replace h := bd_e h
          refine x_aload_n F.1 (i := 43) rfl rfl ?_
          refine x_iload_n F.1 (i := 44) rfl rfl ?_
          refine x_putI F.1 (i := 45) rfl fl_Reader_23 pf_Reader_after (lk_Reader hp0) (by rfl) ?_
          replace h := bd_e h
          exact x_vretf F (i := 46) rfl rfl h hQ
        · replace h := if_F c h
          refine x_aload_n F.1 (i := 22) rfl rfl ?_
          refine x_aload_n F.1 (i := 23) rfl rfl ?_
          refine x_getJ F.1 (i := 24) rfl fl_Reader_35 (lk_Reader hp0) (by rfl) ?_
          refine x_iconst F.1 (i := 25) rfl ic_5 ?_
          refine x_lshl F.1 (i := 26) rfl ?_
          refine x_aload_n F.1 (i := 27) rfl rfl ?_
          refine x_getR F.1 (i := 28) rfl fl_Reader_15 (lk_Reader hp0) (by rfl) rfl ?_
          refine x_iload_n F.1 (i := 29) rfl rfl ?_
          refine gd_e h (fun g3 h => ?_)
          obtain ⟨ng3, kg3, lg3, ig3⟩ := aIb_e g3
          refine x_iald F.1 (i := 30) rfl lg3 ig3 ?_
          refine x_bipush F.1 (i := 31) rfl bp_97 ?_
          refine x_isub F.1 (i := 32) rfl ?_
          refine x_iconst F.1 (i := 33) rfl ic_1 ?_
          refine x_iadd F.1 (i := 34) rfl ?_
          refine x_i2l F.1 (i := 35) rfl ?_
          refine x_lor F.1 (i := 36) rfl ?_
          refine x_putJ F.1 (i := 37) rfl fl_Reader_35 pf_Reader_word (lk_Reader hp0) (by rfl) ?_
          replace h := bd_e h
          refine x_iinc F.1 (i := 38) rfl rfl rfl (Nat.le_of_ble_eq_true rfl) rfl ?_
          replace h := bd_e h
          refine x_goto F.1 (i := 39) (tgt := 10) rfl (by decide) ?_
          exact x_wk F.1 (ih _ _ h) ⟨rfl, rfl, trivial⟩
set_option maxHeartbeats 4000000 in
theorem t_Reader_readWord {w : kx_W} {d : Nat} {M : kx_M} {Q : Option Value → kx_M → Prop} {p0 : Nat} {r : Unit} {M' : kx_M} (hp0 : isReader p0 = true) (h : f_Reader_readWord p0 M = some (r, M')) (hQ : Q none M') : Ct w d m_Reader_readWord [.ref p0] M Q := by
  refine mk_ct ok_Reader_readWord (Nat.le_of_ble_eq_true rfl) (fun G F => ?_)
  rw [f_Reader_readWord] at h
  show G 0 [some (.ref p0), none] [] M
  refine x_aload_n F.1 (i := 0) rfl rfl ?_
  refine x_getI F.1 (i := 1) rfl fl_Reader_26 (lk_Reader hp0) (by rfl) ?_
  refine x_istore_n F.1 (i := 2) rfl (Nat.le_of_ble_eq_true rfl) (Nat.le_of_ble_eq_true rfl) rfl ?_
  replace h := bd_e h
  refine x_aload_n F.1 (i := 3) rfl rfl ?_
  refine x_lconst F.1 (i := 4) (v := 0) rfl rfl ?_
  refine x_putJ F.1 (i := 5) rfl fl_Reader_35 pf_Reader_word (lk_Reader hp0) (by rfl) ?_
  replace h := bd_e h
  exact x_wk F.1 ((t_Reader_readWord_l10 F hp0 (res := (r, M')) hQ FU) _ _ h) ⟨rfl, rfl, trivial⟩
set_option maxHeartbeats 4000000 in
theorem t_Reader_keyOf_l2 {w : kx_W} {d : Nat} {Q : Option Value → kx_M → Prop} {G : Nat → List (Option Value) → List Value → kx_M → Prop} (F : Sd w d m_Reader_keyOf Q G) {p0 : Nat} {p1 : Int64} (hp0 : isReader p0 = true) {res : Int32 × kx_M} (hQ : Q (some (.int res.1)) res.2) :
    ∀ (n : Nat) (x3 : Int32) (M : kx_M),
    f_Reader_keyOf_l2 p0 p1 n x3 M = some res → G 2 [some (.ref p0), some (.long p1), none, some (.int x3)] [] M := by
  intro n
  induction n with
  | zero =>
    intro x3 M h
    exact absurd h (by rw [f_Reader_keyOf_l2]; exact fun z => nomatch z)
  | succ n ih =>
    intro x3 M h
    rw [f_Reader_keyOf_l2] at h
    refine x_iload_n F.1 (i := 2) rfl rfl ?_
    refine x_bipush F.1 (i := 3) rfl bp_26 ?_
    refine x_icmp_ge F.1 (i := 4) (tgt := 27) rfl (by decide) (fun c => ?_) (fun c => ?_)
    · replace h := if_T c h
      refine x_bipush F.1 (i := 16) rfl bp_26 ?_
      exact x_iretf F (i := 17) rfl rfl h hQ
    · replace h := if_F c h
      refine x_aload_n F.1 (i := 5) rfl rfl ?_
      refine x_getC F.1 (i := 6) rfl fl_Reader_11 (lk_Reader hp0) (by rfl) ?_
      refine x_iload_n F.1 (i := 7) rfl rfl ?_
      refine gd_e h (fun g1 h => ?_)
      refine x_lald F.1 (i := 8) rfl (lk_Reader_known hp0) (inb_e g1) ?_
      refine x_lload_n F.1 (i := 9) rfl rfl ?_
      refine x_lcmp F.1 (i := 10) rfl ?_
      refine x_if_ne F.1 (i := 11) (tgt := 21) rfl (by decide) (fun c => ?_) (fun c => ?_)
      · replace h := if_F c h
        refine x_iinc F.1 (i := 14) rfl rfl rfl (Nat.le_of_ble_eq_true rfl) rfl ?_
        replace h := bd_e h
        refine x_goto F.1 (i := 15) (tgt := 2) rfl (by decide) ?_
        exact x_wk F.1 (ih _ _ h) ⟨rfl, rfl, rfl, trivial⟩
      · replace h := if_T c h
        refine x_iload_n F.1 (i := 12) rfl rfl ?_
        exact x_iretf F (i := 13) rfl rfl h hQ
set_option maxHeartbeats 4000000 in
theorem t_Reader_keyOf {w : kx_W} {d : Nat} {M : kx_M} {Q : Option Value → kx_M → Prop} {p0 : Nat} {p1 : Int64} {r : Int32} {M' : kx_M} (hp0 : isReader p0 = true) (h : f_Reader_keyOf p0 p1 M = some (r, M')) (hQ : Q (some (.int r)) M') : Ct w d m_Reader_keyOf [.ref p0, .long p1] M Q := by
  refine mk_ct ok_Reader_keyOf (Nat.le_of_ble_eq_true rfl) (fun G F => ?_)
  rw [f_Reader_keyOf] at h
  show G 0 [some (.ref p0), some (.long p1), none, none] [] M
  refine x_iconst F.1 (i := 0) rfl ic_0 ?_
  refine x_istore_n F.1 (i := 1) rfl (Nat.le_of_ble_eq_true rfl) (Nat.le_of_ble_eq_true rfl) rfl ?_
  exact x_wk F.1 ((t_Reader_keyOf_l2 F hp0 (res := (r, M')) hQ FU) _ _ h) ⟨rfl, rfl, rfl, trivial⟩
set_option maxHeartbeats 4000000 in
theorem t_Reader_readNumber_l67 {w : kx_W} {d : Nat} {Q : Option Value → kx_M → Prop} {G : Nat → List (Option Value) → List Value → kx_M → Prop} (F : Sd w d m_Reader_readNumber Q G) {p0 : Nat} (hp0 : isReader p0 = true) {res : Unit × kx_M} (hQ : Q none res.2) :
    ∀ (x1 : Int32) (M : kx_M),
    f_Reader_readNumber_l67 p0 x1 M = some res → G 67 [some (.ref p0), some (.int x1)] [] M := by
  intro x1 M h
  rw [f_Reader_readNumber_l67] at h
  refine x_aload_n F.1 (i := 37) rfl rfl ?_
  refine x_iload_n F.1 (i := 38) rfl rfl ?_
  refine x_aload_n F.1 (i := 39) rfl rfl ?_
  refine x_getI F.1 (i := 40) rfl fl_Reader_26 (lk_Reader hp0) (by rfl) ?_
  refine x_isub F.1 (i := 41) rfl ?_
  refine x_iconst F.1 (i := 42) rfl ic_4 ?_
  refine x_icmp_le F.1 (i := 43) (tgt := 82) rfl (by decide) (fun c => ?_) (fun c => ?_)
  · replace h := if_T c h
    refine x_iconst F.1 (i := 46) rfl ic_3 ?_
    refine x_putI F.1 (i := 47) rfl fl_Reader_29 pf_Reader_sort (lk_Reader hp0) (by rfl) ?_
    replace h := bd_e h
    refine x_aload_n F.1 (i := 48) rfl rfl ?_
    refine x_iload_n F.1 (i := 49) rfl rfl ?_
    refine x_putI F.1 (i := 50) rfl fl_Reader_23 pf_Reader_after (lk_Reader hp0) (by rfl) ?_
    replace h := bd_e h
    exact x_vretf F (i := 51) rfl rfl h hQ
  · replace h := if_F c h
    refine x_iconst F.1 (i := 44) rfl ic_1 ?_
    refine x_goto F.1 (i := 45) (tgt := 83) rfl (by decide) ?_
    refine x_putI F.1 (i := 47) rfl fl_Reader_29 pf_Reader_sort (lk_Reader hp0) (by rfl) ?_
    replace h := bd_e h
    refine x_aload_n F.1 (i := 48) rfl rfl ?_
    refine x_iload_n F.1 (i := 49) rfl rfl ?_
    refine x_putI F.1 (i := 50) rfl fl_Reader_23 pf_Reader_after (lk_Reader hp0) (by rfl) ?_
    replace h := bd_e h
    exact x_vretf F (i := 51) rfl rfl h hQ
set_option maxHeartbeats 4000000 in
theorem t_Reader_readNumber_l10 {w : kx_W} {d : Nat} {Q : Option Value → kx_M → Prop} {G : Nat → List (Option Value) → List Value → kx_M → Prop} (F : Sd w d m_Reader_readNumber Q G) {p0 : Nat} (hp0 : isReader p0 = true) {res : Unit × kx_M} (hQ : Q none res.2) :
    ∀ (n : Nat) (x1 : Int32) (M : kx_M),
    f_Reader_readNumber_l10 p0 n x1 M = some res → G 10 [some (.ref p0), some (.int x1)] [] M := by
  intro n
  induction n with
  | zero =>
    intro x1 M h
    exact absurd h (by rw [f_Reader_readNumber_l10]; exact fun z => nomatch z)
  | succ n ih =>
    intro x1 M h
    rw [f_Reader_readNumber_l10] at h
    refine x_iload_n F.1 (i := 6) rfl rfl ?_
    refine x_aload_n F.1 (i := 7) rfl rfl ?_
    refine x_getI F.1 (i := 8) rfl fl_Reader_19 (lk_Reader hp0) (by rfl) ?_
    refine x_icmp_ge F.1 (i := 9) (tgt := 67) rfl (by decide) (fun c => ?_) (fun c => ?_)
    · replace h := if_T c h
      exact x_wk F.1 ((t_Reader_readNumber_l67 F hp0 hQ) _ _ h) ⟨rfl, rfl, trivial⟩
    · replace h := if_F c h
      refine x_aload_n F.1 (i := 10) rfl rfl ?_
      refine x_getR F.1 (i := 11) rfl fl_Reader_15 (lk_Reader hp0) (by rfl) rfl ?_
      refine x_iload_n F.1 (i := 12) rfl rfl ?_
      refine gd_e h (fun g1 h => ?_)
      obtain ⟨ng1, kg1, lg1, ig1⟩ := aIb_e g1
      refine x_iald F.1 (i := 13) rfl lg1 ig1 ?_
      refine x_bipush F.1 (i := 14) rfl bp_48 ?_
      refine x_icmp_lt F.1 (i := 15) (tgt := 67) rfl (by decide) (fun c => ?_) (fun c => ?_)
      · replace h := if_T c h
        exact x_wk F.1 ((t_Reader_readNumber_l67 F hp0 hQ) _ _ h) ⟨rfl, rfl, trivial⟩
      · replace h := if_F c h
        refine x_aload_n F.1 (i := 16) rfl rfl ?_
        refine x_getR F.1 (i := 17) rfl fl_Reader_15 (lk_Reader hp0) (by rfl) rfl ?_
        refine x_iload_n F.1 (i := 18) rfl rfl ?_
        refine gd_e h (fun g2 h => ?_)
        obtain ⟨ng2, kg2, lg2, ig2⟩ := aIb_e g2
        refine x_iald F.1 (i := 19) rfl lg2 ig2 ?_
        refine x_bipush F.1 (i := 20) rfl bp_57 ?_
        refine x_icmp_gt F.1 (i := 21) (tgt := 67) rfl (by decide) (fun c => ?_) (fun c => ?_)
        · replace h := if_T c h
          exact x_wk F.1 ((t_Reader_readNumber_l67 F hp0 hQ) _ _ h) ⟨rfl, rfl, trivial⟩
        · replace h := if_F c h
          refine x_aload_n F.1 (i := 22) rfl rfl ?_
          refine x_aload_n F.1 (i := 23) rfl rfl ?_
          refine x_getI F.1 (i := 24) rfl fl_Reader_39 (lk_Reader hp0) (by rfl) ?_
          refine x_bipush F.1 (i := 25) rfl bp_10 ?_
          refine x_imul F.1 (i := 26) rfl ?_
          refine x_aload_n F.1 (i := 27) rfl rfl ?_
          refine x_getR F.1 (i := 28) rfl fl_Reader_15 (lk_Reader hp0) (by rfl) rfl ?_
          refine x_iload_n F.1 (i := 29) rfl rfl ?_
          refine gd_e h (fun g3 h => ?_)
          obtain ⟨ng3, kg3, lg3, ig3⟩ := aIb_e g3
          refine x_iald F.1 (i := 30) rfl lg3 ig3 ?_
          refine x_bipush F.1 (i := 31) rfl bp_48 ?_
          refine x_isub F.1 (i := 32) rfl ?_
          refine x_iadd F.1 (i := 33) rfl ?_
          refine x_putI F.1 (i := 34) rfl fl_Reader_39 pf_Reader_number (lk_Reader hp0) (by rfl) ?_
          replace h := bd_e h
          refine x_iinc F.1 (i := 35) rfl rfl rfl (Nat.le_of_ble_eq_true rfl) rfl ?_
          replace h := bd_e h
          refine x_goto F.1 (i := 36) (tgt := 10) rfl (by decide) ?_
          exact x_wk F.1 (ih _ _ h) ⟨rfl, rfl, trivial⟩
set_option maxHeartbeats 4000000 in
theorem t_Reader_readNumber {w : kx_W} {d : Nat} {M : kx_M} {Q : Option Value → kx_M → Prop} {p0 : Nat} {r : Unit} {M' : kx_M} (hp0 : isReader p0 = true) (h : f_Reader_readNumber p0 M = some (r, M')) (hQ : Q none M') : Ct w d m_Reader_readNumber [.ref p0] M Q := by
  refine mk_ct ok_Reader_readNumber (Nat.le_of_ble_eq_true rfl) (fun G F => ?_)
  rw [f_Reader_readNumber] at h
  show G 0 [some (.ref p0), none] [] M
  refine x_aload_n F.1 (i := 0) rfl rfl ?_
  refine x_getI F.1 (i := 1) rfl fl_Reader_26 (lk_Reader hp0) (by rfl) ?_
  refine x_istore_n F.1 (i := 2) rfl (Nat.le_of_ble_eq_true rfl) (Nat.le_of_ble_eq_true rfl) rfl ?_
  replace h := bd_e h
  refine x_aload_n F.1 (i := 3) rfl rfl ?_
  refine x_iconst F.1 (i := 4) rfl ic_0 ?_
  refine x_putI F.1 (i := 5) rfl fl_Reader_39 pf_Reader_number (lk_Reader hp0) (by rfl) ?_
  replace h := bd_e h
  exact x_wk F.1 ((t_Reader_readNumber_l10 F hp0 (res := (r, M')) hQ FU) _ _ h) ⟨rfl, rfl, trivial⟩
set_option maxHeartbeats 4000000 in
theorem t_Reader_next_l161 {w : kx_W} {d : Nat} {Q : Option Value → kx_M → Prop} {G : Nat → List (Option Value) → List Value → kx_M → Prop} (F : Sd w (d + 1) m_Reader_next Q G) {p0 : Nat} (hp0 : isReader p0 = true) {res : Unit × kx_M} (hQ : Q none res.2) :
    ∀ (x1 : Int32) (M : kx_M),
    f_Reader_next_l161 p0 x1 M = some res → G 161 [some (.ref p0), some (.int x1)] [] M := by
  intro x1 M h
  rw [f_Reader_next_l161] at h
  refine x_aload_n F.1 (i := 83) rfl rfl ?_
  refine x_aload_n F.1 (i := 84) rfl rfl ?_
  refine x_getR F.1 (i := 85) rfl fl_Reader_15 (lk_Reader hp0) (by rfl) rfl ?_
  refine x_iload_n F.1 (i := 86) rfl rfl ?_
  refine gd_e h (fun g1 h => ?_)
  obtain ⟨ng1, kg1, lg1, ig1⟩ := aIb_e g1
  refine x_iald F.1 (i := 87) rfl lg1 ig1 ?_
  refine x_putI F.1 (i := 88) rfl fl_Reader_42 pf_Reader_sign (lk_Reader hp0) (by rfl) ?_
  replace h := bd_e h
  refine x_aload_n F.1 (i := 89) rfl rfl ?_
  refine x_aload_n F.1 (i := 90) rfl rfl ?_
  refine x_getI F.1 (i := 91) rfl fl_Reader_42 (lk_Reader hp0) (by rfl) ?_
  refine x_bipush F.1 (i := 92) rfl bp_59 ?_
  refine x_icmp_eq F.1 (i := 93) (tgt := 208) rfl (by decide) (fun c => ?_) (fun c => ?_)
  · replace h := if_T c h
    refine x_iconst F.1 (i := 106) rfl ic_4 ?_
    refine x_goto F.1 (i := 107) (tgt := 213) rfl (by decide) ?_
    refine x_putI F.1 (i := 109) rfl fl_Reader_29 pf_Reader_sort (lk_Reader hp0) (by rfl) ?_
    replace h := bd_e h
    refine x_aload_n F.1 (i := 110) rfl rfl ?_
    refine x_iload_n F.1 (i := 111) rfl rfl ?_
    refine x_iconst F.1 (i := 112) rfl ic_1 ?_
    refine x_iadd F.1 (i := 113) rfl ?_
    refine x_putI F.1 (i := 114) rfl fl_Reader_23 pf_Reader_after (lk_Reader hp0) (by rfl) ?_
    replace h := bd_e h
    exact x_vretf F (i := 115) rfl rfl h hQ
  · replace h := if_F c h
    refine x_aload_n F.1 (i := 94) rfl rfl ?_
    refine x_getI F.1 (i := 95) rfl fl_Reader_42 (lk_Reader hp0) (by rfl) ?_
    refine x_bipush F.1 (i := 96) rfl bp_60 ?_
    refine x_icmp_eq F.1 (i := 97) (tgt := 208) rfl (by decide) (fun c => ?_) (fun c => ?_)
    · replace h := if_T c h
      refine x_iconst F.1 (i := 106) rfl ic_4 ?_
      refine x_goto F.1 (i := 107) (tgt := 213) rfl (by decide) ?_
      refine x_putI F.1 (i := 109) rfl fl_Reader_29 pf_Reader_sort (lk_Reader hp0) (by rfl) ?_
      replace h := bd_e h
      refine x_aload_n F.1 (i := 110) rfl rfl ?_
      refine x_iload_n F.1 (i := 111) rfl rfl ?_
      refine x_iconst F.1 (i := 112) rfl ic_1 ?_
      refine x_iadd F.1 (i := 113) rfl ?_
      refine x_putI F.1 (i := 114) rfl fl_Reader_23 pf_Reader_after (lk_Reader hp0) (by rfl) ?_
      replace h := bd_e h
      exact x_vretf F (i := 115) rfl rfl h hQ
    · replace h := if_F c h
      refine x_aload_n F.1 (i := 98) rfl rfl ?_
      refine x_getI F.1 (i := 99) rfl fl_Reader_42 (lk_Reader hp0) (by rfl) ?_
      refine x_bipush F.1 (i := 100) rfl bp_61 ?_
      refine x_icmp_eq F.1 (i := 101) (tgt := 208) rfl (by decide) (fun c => ?_) (fun c => ?_)
      · replace h := if_T c h
        refine x_iconst F.1 (i := 106) rfl ic_4 ?_
        refine x_goto F.1 (i := 107) (tgt := 213) rfl (by decide) ?_
        refine x_putI F.1 (i := 109) rfl fl_Reader_29 pf_Reader_sort (lk_Reader hp0) (by rfl) ?_
        replace h := bd_e h
        refine x_aload_n F.1 (i := 110) rfl rfl ?_
        refine x_iload_n F.1 (i := 111) rfl rfl ?_
        refine x_iconst F.1 (i := 112) rfl ic_1 ?_
        refine x_iadd F.1 (i := 113) rfl ?_
        refine x_putI F.1 (i := 114) rfl fl_Reader_23 pf_Reader_after (lk_Reader hp0) (by rfl) ?_
        replace h := bd_e h
        exact x_vretf F (i := 115) rfl rfl h hQ
      · replace h := if_F c h
        refine x_aload_n F.1 (i := 102) rfl rfl ?_
        refine x_getI F.1 (i := 103) rfl fl_Reader_42 (lk_Reader hp0) (by rfl) ?_
        refine x_bipush F.1 (i := 104) rfl bp_62 ?_
        refine x_icmp_ne F.1 (i := 105) (tgt := 212) rfl (by decide) (fun c => ?_) (fun c => ?_)
        · replace h := if_F c h
          refine x_iconst F.1 (i := 108) rfl ic_1 ?_
          refine x_putI F.1 (i := 109) rfl fl_Reader_29 pf_Reader_sort (lk_Reader hp0) (by rfl) ?_
          replace h := bd_e h
          refine x_aload_n F.1 (i := 110) rfl rfl ?_
          refine x_iload_n F.1 (i := 111) rfl rfl ?_
          refine x_iconst F.1 (i := 112) rfl ic_1 ?_
          refine x_iadd F.1 (i := 113) rfl ?_
          refine x_putI F.1 (i := 114) rfl fl_Reader_23 pf_Reader_after (lk_Reader hp0) (by rfl) ?_
          replace h := bd_e h
          exact x_vretf F (i := 115) rfl rfl h hQ
        · replace h := if_T c h
          refine x_iconst F.1 (i := 106) rfl ic_4 ?_
          refine x_goto F.1 (i := 107) (tgt := 213) rfl (by decide) ?_
          refine x_putI F.1 (i := 109) rfl fl_Reader_29 pf_Reader_sort (lk_Reader hp0) (by rfl) ?_
          replace h := bd_e h
          refine x_aload_n F.1 (i := 110) rfl rfl ?_
          refine x_iload_n F.1 (i := 111) rfl rfl ?_
          refine x_iconst F.1 (i := 112) rfl ic_1 ?_
          refine x_iadd F.1 (i := 113) rfl ?_
          refine x_putI F.1 (i := 114) rfl fl_Reader_23 pf_Reader_after (lk_Reader hp0) (by rfl) ?_
          replace h := bd_e h
          exact x_vretf F (i := 115) rfl rfl h hQ
set_option maxHeartbeats 4000000 in
theorem t_Reader_next_l132 {w : kx_W} {d : Nat} {Q : Option Value → kx_M → Prop} {G : Nat → List (Option Value) → List Value → kx_M → Prop} (F : Sd w (d + 1) m_Reader_next Q G) {p0 : Nat} (hp0 : isReader p0 = true) {res : Unit × kx_M} (hQ : Q none res.2) :
    ∀ (x1 : Int32) (M : kx_M),
    f_Reader_next_l132 p0 x1 M = some res → G 132 [some (.ref p0), some (.int x1)] [] M := by
  intro x1 M h
  rw [f_Reader_next_l132] at h
  refine x_aload_n F.1 (i := 68) rfl rfl ?_
  refine x_getR F.1 (i := 69) rfl fl_Reader_15 (lk_Reader hp0) (by rfl) rfl ?_
  refine x_iload_n F.1 (i := 70) rfl rfl ?_
  refine gd_e h (fun g1 h => ?_)
  obtain ⟨ng1, kg1, lg1, ig1⟩ := aIb_e g1
  refine x_iald F.1 (i := 71) rfl lg1 ig1 ?_
  refine x_bipush F.1 (i := 72) rfl bp_48 ?_
  refine x_icmp_lt F.1 (i := 73) (tgt := 161) rfl (by decide) (fun c => ?_) (fun c => ?_)
  · replace h := if_T c h
    exact x_wk F.1 ((t_Reader_next_l161 F hp0 hQ) _ _ h) ⟨rfl, rfl, trivial⟩
  · replace h := if_F c h
    refine x_aload_n F.1 (i := 74) rfl rfl ?_
    refine x_getR F.1 (i := 75) rfl fl_Reader_15 (lk_Reader hp0) (by rfl) rfl ?_
    refine x_iload_n F.1 (i := 76) rfl rfl ?_
    refine gd_e h (fun g2 h => ?_)
    obtain ⟨ng2, kg2, lg2, ig2⟩ := aIb_e g2
    refine x_iald F.1 (i := 77) rfl lg2 ig2 ?_
    refine x_bipush F.1 (i := 78) rfl bp_57 ?_
    refine x_icmp_gt F.1 (i := 79) (tgt := 161) rfl (by decide) (fun c => ?_) (fun c => ?_)
    · replace h := if_T c h
      exact x_wk F.1 ((t_Reader_next_l161 F hp0 hQ) _ _ h) ⟨rfl, rfl, trivial⟩
    · replace h := if_F c h
      refine x_aload_n F.1 (i := 80) rfl rfl ?_
      refine cal_e h (fun r3 M1 e4 h => ?_)
      refine x_cV0v F.1 (i := 81) rfl ml_Reader_79 ok_Reader_readNumber (lk_Reader hp0) (Nat.le_of_ble_eq_true rfl) (Nat.le_of_ble_eq_true rfl) (fun _ => t_Reader_readNumber hp0 e4) ?_
      refine x_goto F.1 (i := 82) (tgt := 223) rfl (by decide) ?_
      exact x_vretf F (i := 115) rfl rfl h hQ
set_option maxHeartbeats 4000000 in
theorem t_Reader_next_l41 {w : kx_W} {d : Nat} {Q : Option Value → kx_M → Prop} {G : Nat → List (Option Value) → List Value → kx_M → Prop} (F : Sd w (d + 1) m_Reader_next Q G) {p0 : Nat} (hp0 : isReader p0 = true) {res : Unit × kx_M} (hQ : Q none res.2) :
    ∀ (x1 : Int32) (M : kx_M),
    f_Reader_next_l41 p0 x1 M = some res → G 41 [some (.ref p0), some (.int x1)] [] M := by
  intro x1 M h
  rw [f_Reader_next_l41] at h
  refine x_aload_n F.1 (i := 21) rfl rfl ?_
  refine x_iload_n F.1 (i := 22) rfl rfl ?_
  refine x_putI F.1 (i := 23) rfl fl_Reader_26 pf_Reader_place (lk_Reader hp0) (by rfl) ?_
  replace h := bd_e h
  refine x_aload_n F.1 (i := 24) rfl rfl ?_
  refine x_iconst F.1 (i := 25) rfl ic_n1 ?_
  refine x_putI F.1 (i := 26) rfl fl_Reader_32 pf_Reader_key (lk_Reader hp0) (by rfl) ?_
  replace h := bd_e h
  refine x_iload_n F.1 (i := 27) rfl rfl ?_
  refine x_aload_n F.1 (i := 28) rfl rfl ?_
  refine x_getI F.1 (i := 29) rfl fl_Reader_19 (lk_Reader hp0) (by rfl) ?_
  refine x_icmp_lt F.1 (i := 30) (tgt := 75) rfl (by decide) (fun c => ?_) (fun c => ?_)
  · replace h := if_T c h
    refine x_aload_n F.1 (i := 39) rfl rfl ?_
    refine x_getR F.1 (i := 40) rfl fl_Reader_15 (lk_Reader hp0) (by rfl) rfl ?_
    refine x_iload_n F.1 (i := 41) rfl rfl ?_
    refine gd_e h (fun g1 h => ?_)
    obtain ⟨ng1, kg1, lg1, ig1⟩ := aIb_e g1
    refine x_iald F.1 (i := 42) rfl lg1 ig1 ?_
    refine x_bipush F.1 (i := 43) rfl bp_97 ?_
    refine x_icmp_lt F.1 (i := 44) (tgt := 132) rfl (by decide) (fun c => ?_) (fun c => ?_)
    · replace h := if_T c h
      exact x_wk F.1 ((t_Reader_next_l132 F hp0 hQ) _ _ h) ⟨rfl, rfl, trivial⟩
    · replace h := if_F c h
      refine x_aload_n F.1 (i := 45) rfl rfl ?_
      refine x_getR F.1 (i := 46) rfl fl_Reader_15 (lk_Reader hp0) (by rfl) rfl ?_
      refine x_iload_n F.1 (i := 47) rfl rfl ?_
      refine gd_e h (fun g2 h => ?_)
      obtain ⟨ng2, kg2, lg2, ig2⟩ := aIb_e g2
      refine x_iald F.1 (i := 48) rfl lg2 ig2 ?_
      refine x_bipush F.1 (i := 49) rfl bp_122 ?_
      refine x_icmp_gt F.1 (i := 50) (tgt := 132) rfl (by decide) (fun c => ?_) (fun c => ?_)
      · replace h := if_T c h
        exact x_wk F.1 ((t_Reader_next_l132 F hp0 hQ) _ _ h) ⟨rfl, rfl, trivial⟩
      · replace h := if_F c h
        refine x_aload_n F.1 (i := 51) rfl rfl ?_
        refine cal_e h (fun r3 M3 e4 h => ?_)
        refine x_cV0v F.1 (i := 52) rfl ml_Reader_72 ok_Reader_readWord (lk_Reader hp0) (Nat.le_of_ble_eq_true rfl) (Nat.le_of_ble_eq_true rfl) (fun _ => t_Reader_readWord hp0 e4) ?_
        refine x_aload_n F.1 (i := 53) rfl rfl ?_
        refine x_aload_n F.1 (i := 54) rfl rfl ?_
        refine x_getI F.1 (i := 55) rfl fl_Reader_23 (lk_Reader hp0) (by rfl) ?_
        refine x_iload_n F.1 (i := 56) rfl rfl ?_
        refine x_isub F.1 (i := 57) rfl ?_
        refine x_bipush F.1 (i := 58) rfl bp_8 ?_
        refine x_icmp_le F.1 (i := 59) (tgt := 118) rfl (by decide) (fun c => ?_) (fun c => ?_)
        · replace h := if_T c h
          refine x_aload_n F.1 (i := 62) rfl rfl ?_
          refine x_aload_n F.1 (i := 63) rfl rfl ?_
          refine x_getJ F.1 (i := 64) rfl fl_Reader_35 (lk_Reader hp0) (by rfl) ?_
          refine cal_e h (fun r5 M4 e6 h => ?_)
          refine x_cV1i F.1 (i := 65) rfl ml_Reader_75 ok_Reader_keyOf (lk_Reader hp0) (Nat.le_of_ble_eq_true rfl) (Nat.le_of_ble_eq_true rfl) (fun _ => t_Reader_keyOf hp0 e6) ?_
          refine x_putI F.1 (i := 66) rfl fl_Reader_32 pf_Reader_key (lk_Reader hp0) (by rfl) ?_
          replace h := bd_e h
          refine x_goto F.1 (i := 67) (tgt := 223) rfl (by decide) ?_
          exact x_vretf F (i := 115) rfl rfl h hQ
        · replace h := if_F c h
          refine x_bipush F.1 (i := 60) rfl bp_27 ?_
          refine x_goto F.1 (i := 61) (tgt := 126) rfl (by decide) ?_
          refine x_putI F.1 (i := 66) rfl fl_Reader_32 pf_Reader_key (lk_Reader hp0) (by rfl) ?_
          replace h := bd_e h
          refine x_goto F.1 (i := 67) (tgt := 223) rfl (by decide) ?_
          exact x_vretf F (i := 115) rfl rfl h hQ
  · replace h := if_F c h
    refine x_aload_n F.1 (i := 31) rfl rfl ?_
    refine x_iconst F.1 (i := 32) rfl ic_0 ?_
    refine x_putI F.1 (i := 33) rfl fl_Reader_29 pf_Reader_sort (lk_Reader hp0) (by rfl) ?_
    replace h := bd_e h
    refine x_aload_n F.1 (i := 34) rfl rfl ?_
    refine x_aload_n F.1 (i := 35) rfl rfl ?_
    refine x_getI F.1 (i := 36) rfl fl_Reader_19 (lk_Reader hp0) (by rfl) ?_
    refine x_putI F.1 (i := 37) rfl fl_Reader_23 pf_Reader_after (lk_Reader hp0) (by rfl) ?_
    replace h := bd_e h
    refine x_goto F.1 (i := 38) (tgt := 223) rfl (by decide) ?_
    exact x_vretf F (i := 115) rfl rfl h hQ
set_option maxHeartbeats 4000000 in
theorem t_Reader_next_l5 {w : kx_W} {d : Nat} {Q : Option Value → kx_M → Prop} {G : Nat → List (Option Value) → List Value → kx_M → Prop} (F : Sd w (d + 1) m_Reader_next Q G) {p0 : Nat} (hp0 : isReader p0 = true) {res : Unit × kx_M} (hQ : Q none res.2) :
    ∀ (n : Nat) (x1 : Int32) (M : kx_M),
    f_Reader_next_l5 p0 n x1 M = some res → G 5 [some (.ref p0), some (.int x1)] [] M := by
  intro n
  induction n with
  | zero =>
    intro x1 M h
    exact absurd h (by rw [f_Reader_next_l5]; exact fun z => nomatch z)
  | succ n ih =>
    intro x1 M h
    rw [f_Reader_next_l5] at h
    refine x_iload_n F.1 (i := 3) rfl rfl ?_
    refine x_aload_n F.1 (i := 4) rfl rfl ?_
    refine x_getI F.1 (i := 5) rfl fl_Reader_19 (lk_Reader hp0) (by rfl) ?_
    refine x_icmp_ge F.1 (i := 6) (tgt := 41) rfl (by decide) (fun c => ?_) (fun c => ?_)
    · replace h := if_T c h
      exact x_wk F.1 ((t_Reader_next_l41 F hp0 hQ) _ _ h) ⟨rfl, rfl, trivial⟩
    · replace h := if_F c h
      refine x_aload_n F.1 (i := 7) rfl rfl ?_
      refine x_getR F.1 (i := 8) rfl fl_Reader_15 (lk_Reader hp0) (by rfl) rfl ?_
      refine x_iload_n F.1 (i := 9) rfl rfl ?_
      refine gd_e h (fun g1 h => ?_)
      obtain ⟨ng1, kg1, lg1, ig1⟩ := aIb_e g1
      refine x_iald F.1 (i := 10) rfl lg1 ig1 ?_
      refine x_bipush F.1 (i := 11) rfl bp_32 ?_
      refine x_icmp_eq F.1 (i := 12) (tgt := 35) rfl (by decide) (fun c => ?_) (fun c => ?_)
      · replace h := if_T c h
        refine x_iinc F.1 (i := 19) rfl rfl rfl (Nat.le_of_ble_eq_true rfl) rfl ?_
        replace h := bd_e h
        refine x_goto F.1 (i := 20) (tgt := 5) rfl (by decide) ?_
        exact x_wk F.1 (ih _ _ h) ⟨rfl, rfl, trivial⟩
      · replace h := if_F c h
        refine x_aload_n F.1 (i := 13) rfl rfl ?_
        refine x_getR F.1 (i := 14) rfl fl_Reader_15 (lk_Reader hp0) (by rfl) rfl ?_
        refine x_iload_n F.1 (i := 15) rfl rfl ?_
        refine gd_e h (fun g3 h => ?_)
        obtain ⟨ng3, kg3, lg3, ig3⟩ := aIb_e g3
        refine x_iald F.1 (i := 16) rfl lg3 ig3 ?_
        refine x_bipush F.1 (i := 17) rfl bp_10 ?_
        refine x_icmp_ne F.1 (i := 18) (tgt := 41) rfl (by decide) (fun c => ?_) (fun c => ?_)
        · replace h := if_F c h
          exact x_wk F.1 ((t_Reader_next_l41 F hp0 hQ) _ _ h) ⟨rfl, rfl, trivial⟩
        · replace h := if_T c h
          refine x_iinc F.1 (i := 19) rfl rfl rfl (Nat.le_of_ble_eq_true rfl) rfl ?_
          replace h := bd_e h
          refine x_goto F.1 (i := 20) (tgt := 5) rfl (by decide) ?_
          exact x_wk F.1 (ih _ _ h) ⟨rfl, rfl, trivial⟩
set_option maxHeartbeats 4000000 in
theorem t_Reader_next {w : kx_W} {d : Nat} {M : kx_M} {Q : Option Value → kx_M → Prop} {p0 : Nat} {r : Unit} {M' : kx_M} (hp0 : isReader p0 = true) (h : f_Reader_next p0 M = some (r, M')) (hQ : Q none M') : Ct w (d + 1) m_Reader_next [.ref p0] M Q := by
  refine mk_ct ok_Reader_next (Nat.le_of_ble_eq_true rfl) (fun G F => ?_)
  rw [f_Reader_next] at h
  show G 0 [some (.ref p0), none] [] M
  refine x_aload_n F.1 (i := 0) rfl rfl ?_
  refine x_getI F.1 (i := 1) rfl fl_Reader_23 (lk_Reader hp0) (by rfl) ?_
  refine x_istore_n F.1 (i := 2) rfl (Nat.le_of_ble_eq_true rfl) (Nat.le_of_ble_eq_true rfl) rfl ?_
  replace h := bd_e h
  exact x_wk F.1 ((t_Reader_next_l5 F hp0 (res := (r, M')) hQ FU) _ _ h) ⟨rfl, rfl, trivial⟩
set_option maxHeartbeats 4000000 in
theorem t_Reader_open {w : kx_W} {d : Nat} {M : kx_M} {Q : Option Value → kx_M → Prop} {p0 : Nat} {p1 : Nat} {p2 : Int32} {r : Unit} {M' : kx_M} (hp0 : isReader p0 = true) (h : f_Reader_open p0 p1 p2 M = some (r, M')) (hQ : Q none M') : Ct w (d + 2) m_Reader_open [.ref p0, .ref p1, .int p2] M Q := by
  refine mk_ct ok_Reader_open (Nat.le_of_ble_eq_true rfl) (fun G F => ?_)
  rw [f_Reader_open] at h
  show G 0 [some (.ref p0), some (.ref p1), some (.int p2)] [] M
  refine x_aload_n F.1 (i := 0) rfl rfl ?_
  refine x_aload_n F.1 (i := 1) rfl rfl ?_
  refine x_putQ F.1 (i := 2) rfl fl_Reader_15 pf_Reader_text (lk_Reader hp0) (by rfl) ?_
  replace h := bd_e h
  refine x_aload_n F.1 (i := 3) rfl rfl ?_
  refine x_iload_n F.1 (i := 4) rfl rfl ?_
  refine x_aload_n F.1 (i := 5) rfl rfl ?_
  refine gd_e h (fun g1 h => ?_)
  obtain ⟨kg1, lg1⟩ := aLk_e g1
  refine x_ialen F.1 (i := 6) rfl lg1 rfl ?_
  refine x_mmin F.1 (i := 7) rfl jm_Reader_63 (Nat.le_of_ble_eq_true rfl) ?_
  refine x_putI F.1 (i := 8) rfl fl_Reader_19 pf_Reader_size (lk_Reader hp0) (by rfl) ?_
  replace h := bd_e h
  refine x_aload_n F.1 (i := 9) rfl rfl ?_
  refine x_iconst F.1 (i := 10) rfl ic_0 ?_
  refine x_putI F.1 (i := 11) rfl fl_Reader_23 pf_Reader_after (lk_Reader hp0) (by rfl) ?_
  replace h := bd_e h
  refine x_aload_n F.1 (i := 12) rfl rfl ?_
  refine x_iconst F.1 (i := 13) rfl ic_0 ?_
  refine x_putI F.1 (i := 14) rfl fl_Reader_45 pf_Reader_faultKind (lk_Reader hp0) (by rfl) ?_
  replace h := bd_e h
  refine x_aload_n F.1 (i := 15) rfl rfl ?_
  refine x_iconst F.1 (i := 16) rfl ic_n1 ?_
  refine x_putI F.1 (i := 17) rfl fl_Reader_48 pf_Reader_faultPlace (lk_Reader hp0) (by rfl) ?_
  replace h := bd_e h
  refine x_aload_n F.1 (i := 18) rfl rfl ?_
  refine cal_e h (fun r2 M6 e3 h => ?_)
  refine x_cV0v F.1 (i := 19) rfl ml_Reader_69 ok_Reader_next (lk_Reader hp0) (Nat.le_of_ble_eq_true rfl) (Nat.le_of_ble_eq_true rfl) (fun _ => t_Reader_next hp0 e3) ?_
  exact x_vretf F (i := 20) rfl rfl h (res := (r, M')) hQ
set_option maxHeartbeats 4000000 in
theorem t_Reader_fail {w : kx_W} {d : Nat} {M : kx_M} {Q : Option Value → kx_M → Prop} {p0 : Nat} {p1 : Int32} {r : Int32} {M' : kx_M} (hp0 : isReader p0 = true) (h : f_Reader_fail p0 p1 M = some (r, M')) (hQ : Q (some (.int r)) M') : Ct w d m_Reader_fail [.ref p0, .int p1] M Q := by
  refine mk_ct ok_Reader_fail (Nat.le_of_ble_eq_true rfl) (fun G F => ?_)
  rw [f_Reader_fail] at h
  show G 0 [some (.ref p0), some (.int p1)] [] M
  refine x_aload_n F.1 (i := 0) rfl rfl ?_
  refine x_aload_n F.1 (i := 1) rfl rfl ?_
  refine x_getI F.1 (i := 2) rfl fl_Reader_29 (lk_Reader hp0) (by rfl) ?_
  refine x_iconst F.1 (i := 3) rfl ic_1 ?_
  refine x_icmp_ne F.1 (i := 4) (tgt := 13) rfl (by decide) (fun c => ?_) (fun c => ?_)
  · replace h := if_F c h
    refine x_iload_n F.1 (i := 7) rfl rfl ?_
    refine x_putI F.1 (i := 8) rfl fl_Reader_45 pf_Reader_faultKind (lk_Reader hp0) (by rfl) ?_
    replace h := bd_e h
    refine x_aload_n F.1 (i := 9) rfl rfl ?_
    refine x_aload_n F.1 (i := 10) rfl rfl ?_
    refine x_getI F.1 (i := 11) rfl fl_Reader_26 (lk_Reader hp0) (by rfl) ?_
    refine x_putI F.1 (i := 12) rfl fl_Reader_48 pf_Reader_faultPlace (lk_Reader hp0) (by rfl) ?_
    replace h := bd_e h
    refine x_iconst F.1 (i := 13) rfl ic_0 ?_
    exact x_zretf F (i := 14) rfl rfl (Or.inl rfl) h (res := (r, M')) hQ
  · replace h := if_T c h
    refine x_iconst F.1 (i := 5) rfl ic_1 ?_
    refine x_goto F.1 (i := 6) (tgt := 14) rfl (by decide) ?_
    refine x_putI F.1 (i := 8) rfl fl_Reader_45 pf_Reader_faultKind (lk_Reader hp0) (by rfl) ?_
    replace h := bd_e h
    refine x_aload_n F.1 (i := 9) rfl rfl ?_
    refine x_aload_n F.1 (i := 10) rfl rfl ?_
    refine x_getI F.1 (i := 11) rfl fl_Reader_26 (lk_Reader hp0) (by rfl) ?_
    refine x_putI F.1 (i := 12) rfl fl_Reader_48 pf_Reader_faultPlace (lk_Reader hp0) (by rfl) ?_
    replace h := bd_e h
    refine x_iconst F.1 (i := 13) rfl ic_0 ?_
    exact x_zretf F (i := 14) rfl rfl (Or.inl rfl) h (res := (r, M')) hQ
set_option maxHeartbeats 4000000 in
theorem t_Reader_atNumber {w : kx_W} {d : Nat} {M : kx_M} {Q : Option Value → kx_M → Prop} {p0 : Nat} {p1 : Int32} {p2 : Int32} {r : Int32} {M' : kx_M} (hp0 : isReader p0 = true) (h : f_Reader_atNumber p0 p1 p2 M = some (r, M')) (hQ : Q (some (.int r)) M') : Ct w (d + 1) m_Reader_atNumber [.ref p0, .int p1, .int p2] M Q := by
  refine mk_ct ok_Reader_atNumber (Nat.le_of_ble_eq_true rfl) (fun G F => ?_)
  rw [f_Reader_atNumber] at h
  show G 0 [some (.ref p0), some (.int p1), some (.int p2)] [] M
  refine x_aload_n F.1 (i := 0) rfl rfl ?_
  refine x_getI F.1 (i := 1) rfl fl_Reader_29 (lk_Reader hp0) (by rfl) ?_
  refine x_iconst F.1 (i := 2) rfl ic_3 ?_
  refine x_icmp_eq F.1 (i := 3) (tgt := 14) rfl (by decide) (fun c => ?_) (fun c => ?_)
  · replace h := if_T c h
    refine x_aload_n F.1 (i := 8) rfl rfl ?_
    refine x_getI F.1 (i := 9) rfl fl_Reader_39 (lk_Reader hp0) (by rfl) ?_
    refine x_iload_n F.1 (i := 10) rfl rfl ?_
    refine x_icmp_lt F.1 (i := 11) (tgt := 34) rfl (by decide) (fun c => ?_) (fun c => ?_)
    · replace h := if_T c h
      refine x_aload_n F.1 (i := 18) rfl rfl ?_
      refine x_iconst F.1 (i := 19) rfl ic_4 ?_
      refine cal_e h (fun r1 M1 e2 h => ?_)
      refine x_cV1i F.1 (i := 20) rfl ml_Reader_82 ok_Reader_fail (lk_Reader hp0) (Nat.le_of_ble_eq_true rfl) (Nat.le_of_ble_eq_true rfl) (fun _ => t_Reader_fail hp0 e2) ?_
      refine gd_e h (fun g3 h => ?_)
      exact x_zretf F (i := 21) rfl rfl (b01_e g3) h (res := (r, M')) hQ
    · replace h := if_F c h
      refine x_aload_n F.1 (i := 12) rfl rfl ?_
      refine x_getI F.1 (i := 13) rfl fl_Reader_39 (lk_Reader hp0) (by rfl) ?_
      refine x_iload_n F.1 (i := 14) rfl rfl ?_
      refine x_icmp_gt F.1 (i := 15) (tgt := 34) rfl (by decide) (fun c => ?_) (fun c => ?_)
      · replace h := if_T c h
        refine x_aload_n F.1 (i := 18) rfl rfl ?_
        refine x_iconst F.1 (i := 19) rfl ic_4 ?_
        refine cal_e h (fun r4 M2 e5 h => ?_)
        refine x_cV1i F.1 (i := 20) rfl ml_Reader_82 ok_Reader_fail (lk_Reader hp0) (Nat.le_of_ble_eq_true rfl) (Nat.le_of_ble_eq_true rfl) (fun _ => t_Reader_fail hp0 e5) ?_
        refine gd_e h (fun g6 h => ?_)
        exact x_zretf F (i := 21) rfl rfl (b01_e g6) h (res := (r, M')) hQ
      · replace h := if_F c h
        refine x_iconst F.1 (i := 16) rfl ic_1 ?_
        refine x_goto F.1 (i := 17) (tgt := 39) rfl (by decide) ?_
        exact x_zretf F (i := 21) rfl rfl (Or.inr rfl) h (res := (r, M')) hQ
  · replace h := if_F c h
    refine x_aload_n F.1 (i := 4) rfl rfl ?_
    refine x_iconst F.1 (i := 5) rfl ic_2 ?_
    refine cal_e h (fun r7 M3 e8 h => ?_)
    refine x_cV1i F.1 (i := 6) rfl ml_Reader_82 ok_Reader_fail (lk_Reader hp0) (Nat.le_of_ble_eq_true rfl) (Nat.le_of_ble_eq_true rfl) (fun _ => t_Reader_fail hp0 e8) ?_
    refine gd_e h (fun g9 h => ?_)
    exact x_zretf F (i := 7) rfl rfl (b01_e g9) h (res := (r, M')) hQ
