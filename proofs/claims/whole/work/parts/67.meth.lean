set_option maxHeartbeats 4000000 in
theorem t_KT_stables_l9 {w : kx_W} {d : Nat} {Q : Option Value → kx_M → Prop} {G : Nat → List (Option Value) → List Value → kx_M → Prop} (F : Sd w (d + 5) m_KT_stables Q G) {res : Int32 × kx_M} (hQ : Q (some (.int res.1)) res.2) :
    ∀ (n : Nat) (x1 : Int32) (x2 : Int32) (M : kx_M),
    f_KT_stables_l9 n x1 x2 M = some res → G 9 [some (.ref 0), some (.int x1), some (.int x2)] [] M := by
  intro n
  induction n with
  | zero =>
    intro x1 x2 M h
    exact absurd h (by rw [f_KT_stables_l9]; exact fun z => nomatch z)
  | succ n ih =>
    intro x1 x2 M h
    rw [f_KT_stables_l9] at h
    refine x_iload_n F.1 (i := 7) rfl rfl ?_
    refine x_iconst F.1 (i := 8) rfl ic_1 ?_
    refine x_aload_n F.1 (i := 9) rfl rfl ?_
    refine x_getR F.1 (i := 10) rfl fl_KT_64 rfl (by rfl) rfl ?_
    refine gd_e h (fun g1 h => ?_)
    replace h := bd_e h
    refine x_getC F.1 (i := 11) rfl fl_KT_192 (lk_State g1) (by rfl) ?_
    refine x_getI F.1 (i := 12) rfl fl_KT_201 (lk_Deal (lD_State_deal g1)) (by rfl) ?_
    refine x_ishl F.1 (i := 13) rfl ?_
    refine x_icmp_ge F.1 (i := 14) (tgt := 48) rfl (by decide) (fun c => ?_) (fun c => ?_)
    · replace h := if_T c h
      refine x_iload_n F.1 (i := 24) rfl rfl ?_
      exact x_iretf F (i := 25) rfl rfl h hQ
    · replace h := if_F c h
      refine x_aload_n F.1 (i := 15) rfl rfl ?_
      refine x_getR F.1 (i := 16) rfl fl_KT_64 rfl (by rfl) rfl ?_
      refine gd_e h (fun g3 h => ?_)
      replace h := bd_e h
      refine x_getC F.1 (i := 17) rfl fl_KT_192 (lk_State g3) (by rfl) ?_
      refine x_iload_n F.1 (i := 18) rfl rfl ?_
      refine cal_e h (fun r5 M1 e6 h => ?_)
      refine x_cV1i F.1 (i := 19) rfl ml_KT_393 ok_Deal_holdsFast (lk_Deal (lD_State_deal g3)) (Nat.le_of_ble_eq_true rfl) (Nat.le_of_ble_eq_true rfl) (fun _ => t_Deal_holdsFast (lD_State_deal g3) e6) ?_
      refine x_if_eq F.1 (i := 20) (tgt := 42) rfl (by decide) (fun c => ?_) (fun c => ?_)
      · replace h := if_T c h
        refine x_iinc F.1 (i := 22) rfl rfl rfl (Nat.le_of_ble_eq_true rfl) rfl ?_
        replace h := bd_e h
        refine x_goto F.1 (i := 23) (tgt := 9) rfl (by decide) ?_
        exact x_wk F.1 (ih _ _ _ h) ⟨rfl, rfl, rfl, trivial⟩
      · replace h := if_F c h
        refine x_iinc F.1 (i := 21) rfl rfl rfl (Nat.le_of_ble_eq_true rfl) rfl ?_
        replace h := bd_e h
        refine x_iinc F.1 (i := 22) rfl rfl rfl (Nat.le_of_ble_eq_true rfl) rfl ?_
        replace h := bd_e h
        refine x_goto F.1 (i := 23) (tgt := 9) rfl (by decide) ?_
        exact x_wk F.1 (ih _ _ _ h) ⟨rfl, rfl, rfl, trivial⟩
set_option maxHeartbeats 4000000 in
theorem t_KT_stables {w : kx_W} {d : Nat} {M : kx_M} {Q : Option Value → kx_M → Prop} {r : Int32} {M' : kx_M} (h : f_KT_stables M = some (r, M')) (hQ : Q (some (.int r)) M') : Ct w (d + 5) m_KT_stables [.ref 0] M Q := by
  refine mk_ct ok_KT_stables (Nat.le_of_ble_eq_true rfl) (fun G F => ?_)
  rw [f_KT_stables] at h
  show G 0 [some (.ref 0), none, none] [] M
  refine x_aload_n F.1 (i := 0) rfl rfl ?_
  refine x_iconst F.1 (i := 1) rfl ic_0 ?_
  refine x_putI F.1 (i := 2) rfl fl_KT_78 pf_KT_latest rfl (by rfl) ?_
  replace h := bd_e h
  refine x_iconst F.1 (i := 3) rfl ic_0 ?_
  refine x_istore_n F.1 (i := 4) rfl (Nat.le_of_ble_eq_true rfl) (Nat.le_of_ble_eq_true rfl) rfl ?_
  refine x_iconst F.1 (i := 5) rfl ic_0 ?_
  refine x_istore_n F.1 (i := 6) rfl (Nat.le_of_ble_eq_true rfl) (Nat.le_of_ble_eq_true rfl) rfl ?_
  exact x_wk F.1 ((t_KT_stables_l9 F (res := (r, M')) hQ FU) _ _ _ h) ⟨rfl, rfl, rfl, trivial⟩
set_option maxHeartbeats 4000000 in
theorem t_KT_seenStatus {w : kx_W} {d : Nat} {M : kx_M} {Q : Option Value → kx_M → Prop} {p1 : Int32} {p2 : Int32} {r : Int32} {M' : kx_M} (h : f_KT_seenStatus p1 p2 M = some (r, M')) (hQ : Q (some (.int r)) M') : Ct w (d + 3) m_KT_seenStatus [.ref 0, .int p1, .int p2] M Q := by
  refine mk_ct ok_KT_seenStatus (Nat.le_of_ble_eq_true rfl) (fun G F => ?_)
  rw [f_KT_seenStatus] at h
  show G 0 [some (.ref 0), some (.int p1), some (.int p2)] [] M
  refine x_iload_n F.1 (i := 0) rfl rfl ?_
  refine cal_e h (fun r1 M1 e2 h => ?_)
  refine x_cS1i F.1 (i := 1) rfl ml_KT_99 ok_KT_noTray (Nat.le_of_ble_eq_true rfl) (Nat.le_of_ble_eq_true rfl) (fun _ => t_KT_noTray e2) ?_
  refine x_if_eq F.1 (i := 2) (tgt := 9) rfl (by decide) (fun c => ?_) (fun c => ?_)
  · replace h := if_T c h
    refine x_aload_n F.1 (i := 5) rfl rfl ?_
    refine x_iload_n F.1 (i := 6) rfl rfl ?_
    refine cal_e h (fun r3 M2 e4 h => ?_)
    refine x_cV1i F.1 (i := 7) rfl ml_KT_249 ok_KT_noClause rfl (Nat.le_of_ble_eq_true rfl) (Nat.le_of_ble_eq_true rfl) (fun _ => t_KT_noClause e4) ?_
    refine x_if_eq F.1 (i := 8) (tgt := 21) rfl (by decide) (fun c => ?_) (fun c => ?_)
    · replace h := if_T c h
      refine x_aload_n F.1 (i := 11) rfl rfl ?_
      refine x_iload_n F.1 (i := 12) rfl rfl ?_
      refine x_iconst F.1 (i := 13) rfl ic_n1 ?_
      refine cal_e h (fun r5 M3 e6 h => ?_)
      refine x_cV2i F.1 (i := 14) rfl ml_KT_310 ok_KT_kindsStatus rfl (Nat.le_of_ble_eq_true rfl) (Nat.le_of_ble_eq_true rfl) (fun _ => t_KT_kindsStatus e6) ?_
      exact x_iretf F (i := 15) rfl rfl h (res := (r, M')) hQ
    · replace h := if_F c h
      refine x_iconst F.1 (i := 9) rfl ic_2 ?_
      refine x_goto F.1 (i := 10) (tgt := 27) rfl (by decide) ?_
      exact x_iretf F (i := 15) rfl rfl h (res := (r, M')) hQ
  · replace h := if_F c h
    refine x_iconst F.1 (i := 3) rfl ic_1 ?_
    exact x_iretf F (i := 4) rfl rfl h (res := (r, M')) hQ
set_option maxHeartbeats 4000000 in
theorem t_Seen_firstOf {w : kx_W} {d : Nat} {M : kx_M} {Q : Option Value → kx_M → Prop} {p1 : Int64} {p3 : Int32} {r : Int64} {M' : kx_M} (h : f_Seen_firstOf p1 p3 M = some (r, M')) (hQ : Q (some (.long r)) M') : Ct w d m_Seen_firstOf [.ref 13, .long p1, .int p3] M Q := by
  refine mk_ct ok_Seen_firstOf (Nat.le_of_ble_eq_true rfl) (fun G F => ?_)
  rw [f_Seen_firstOf] at h
  show G 0 [some (.ref 13), some (.long p1), none, some (.int p3)] [] M
  refine x_lload_n F.1 (i := 0) rfl rfl ?_
  refine x_iconst F.1 (i := 1) rfl ic_2 ?_
  refine x_aload_n F.1 (i := 2) rfl rfl ?_
  refine x_getI F.1 (i := 3) rfl fl_Seen_22 rfl (by rfl) ?_
  refine x_iload_n F.1 (i := 4) rfl rfl ?_
  refine x_isub F.1 (i := 5) rfl ?_
  refine x_imul F.1 (i := 6) rfl ?_
  refine x_lshr F.1 (i := 7) rfl ?_
  exact x_lretf F (i := 8) rfl rfl h (res := (r, M')) hQ
set_option maxHeartbeats 4000000 in
theorem t_Seen_lowest {w : kx_W} {d : Nat} {M : kx_M} {Q : Option Value → kx_M → Prop} {p0 : Int32} {r : Int64} {M' : kx_M} (h : f_Seen_lowest p0 M = some (r, M')) (hQ : Q (some (.long r)) M') : Ct w d m_Seen_lowest [.int p0] M Q := by
  refine mk_ct ok_Seen_lowest (Nat.le_of_ble_eq_true rfl) (fun G F => ?_)
  rw [f_Seen_lowest] at h
  show G 0 [some (.int p0)] [] M
  refine x_lconst F.1 (i := 0) (v := 1) rfl rfl ?_
  refine x_iconst F.1 (i := 1) rfl ic_2 ?_
  refine x_iload_n F.1 (i := 2) rfl rfl ?_
  refine x_imul F.1 (i := 3) rfl ?_
  refine x_lshl F.1 (i := 4) rfl ?_
  refine x_lconst F.1 (i := 5) (v := 1) rfl rfl ?_
  refine x_lsub F.1 (i := 6) rfl ?_
  exact x_lretf F (i := 7) rfl rfl h (res := (r, M')) hQ
set_option maxHeartbeats 4000000 in
theorem t_Seen_learn_l88 {w : kx_W} {d : Nat} {Q : Option Value → kx_M → Prop} {G : Nat → List (Option Value) → List Value → kx_M → Prop} (F : Sd w (d + 1) m_Seen_learn Q G) {p1 : Nat} {p2 : Int32} (hp1 : isDeal p1 = true) {k31 : Int64 → Int32 → Int32 → kx_M → Option (Unit × kx_M)} {res : Unit × kx_M} (hQ : Q none res.2) (hk31 : ∀ (x3 : Int64) (x5 : Int32) (x6 : Int32) (M : kx_M), k31 x3 x5 x6 M = some res → G 31 [some (.ref 13), none, none, some (.long x3), none, some (.int x5), some (.int x6), none, none, none] [] M) :
    ∀ (x3 : Int64) (x5 : Int32) (x6 : Int32) (x9 : Int32) (M : kx_M),
    f_Seen_learn_l88 p1 p2 k31 x3 x5 x6 x9 M = some res → G 88 [some (.ref 13), none, none, some (.long x3), none, some (.int x5), some (.int x6), none, none, some (.int x9)] [] M := by
  intro x3 x5 x6 x9 M h
  rw [f_Seen_learn_l88] at h
  refine x_aload_n F.1 (i := 49) rfl rfl ?_
  refine x_getC F.1 (i := 50) rfl fl_Seen_19 rfl (by rfl) ?_
  refine x_iload F.1 (i := 51) rfl rfl ?_
  refine x_iconst F.1 (i := 52) rfl ic_4 ?_
  refine x_imul F.1 (i := 53) rfl ?_
  refine x_iload F.1 (i := 54) rfl rfl ?_
  refine x_iadd F.1 (i := 55) rfl ?_
  refine x_iload F.1 (i := 56) rfl rfl ?_
  refine gd_e h (fun g1 h => ?_)
  refine x_iast F.1 (i := 57) rfl rfl (inb_e g1) ?_
  replace h := bd_e h
  refine x_iinc F.1 (i := 58) rfl rfl rfl (Nat.le_of_ble_eq_true rfl) rfl ?_
  replace h := bd_e h
  refine x_goto F.1 (i := 59) (tgt := 31) rfl (by decide) ?_
  exact x_wk F.1 (hk31 _ _ _ _ h) ⟨rfl, rfl, rfl, rfl, trivial⟩
set_option maxHeartbeats 4000000 in
theorem t_Seen_learn_l58 {w : kx_W} {d : Nat} {Q : Option Value → kx_M → Prop} {G : Nat → List (Option Value) → List Value → kx_M → Prop} (F : Sd w (d + 1) m_Seen_learn Q G) {p1 : Nat} {p2 : Int32} (hp1 : isDeal p1 = true) {k31 : Int64 → Int32 → Int32 → kx_M → Option (Unit × kx_M)} {res : Unit × kx_M} (hQ : Q none res.2) (hk31 : ∀ (x3 : Int64) (x5 : Int32) (x6 : Int32) (M : kx_M), k31 x3 x5 x6 M = some res → G 31 [some (.ref 13), none, none, some (.long x3), none, some (.int x5), some (.int x6), none, none, none] [] M) :
    ∀ (n : Nat) (x3 : Int64) (x5 : Int32) (x6 : Int32) (x7 : Int64) (x9 : Int32) (M : kx_M),
    f_Seen_learn_l58 p1 p2 k31 n x3 x5 x6 x7 x9 M = some res → G 58 [some (.ref 13), none, none, some (.long x3), none, some (.int x5), some (.int x6), some (.long x7), none, some (.int x9)] [] M := by
  intro n
  induction n with
  | zero =>
    intro x3 x5 x6 x7 x9 M h
    exact absurd h (by rw [f_Seen_learn_l58]; exact fun z => nomatch z)
  | succ n ih =>
    intro x3 x5 x6 x7 x9 M h
    rw [f_Seen_learn_l58] at h
    refine x_iload F.1 (i := 35) rfl rfl ?_
    refine x_if_le F.1 (i := 36) (tgt := 88) rfl (by decide) (fun c => ?_) (fun c => ?_)
    · replace h := if_T c h
      exact x_wk F.1 ((t_Seen_learn_l88 F hp1 hQ hk31) _ _ _ _ _ h) ⟨rfl, rfl, rfl, rfl, rfl, trivial⟩
    · replace h := if_F c h
      refine x_lload F.1 (i := 37) rfl rfl ?_
      refine x_iload F.1 (i := 38) rfl rfl ?_
      refine cal_e h (fun r1 M1 e2 h => ?_)
      refine x_cS1l F.1 (i := 39) rfl ml_Seen_44 ok_Seen_lowest (Nat.le_of_ble_eq_true rfl) (Nat.le_of_ble_eq_true rfl) (fun _ => t_Seen_lowest e2) ?_
      refine x_land F.1 (i := 40) rfl ?_
      refine x_aload_n F.1 (i := 41) rfl rfl ?_
      refine x_lload_n F.1 (i := 42) rfl rfl ?_
      refine x_iload F.1 (i := 43) rfl rfl ?_
      refine cal_e h (fun r3 M2 e4 h => ?_)
      refine x_cV2l F.1 (i := 44) rfl ml_Seen_40 ok_Seen_firstOf rfl (Nat.le_of_ble_eq_true rfl) (Nat.le_of_ble_eq_true rfl) (fun _ => t_Seen_firstOf e4) ?_
      refine x_lcmp F.1 (i := 45) rfl ?_
      refine x_if_eq F.1 (i := 46) (tgt := 88) rfl (by decide) (fun c => ?_) (fun c => ?_)
      · replace h := if_T c h
        exact x_wk F.1 ((t_Seen_learn_l88 F hp1 hQ hk31) _ _ _ _ _ h) ⟨rfl, rfl, rfl, rfl, rfl, trivial⟩
      · replace h := if_F c h
        refine x_iinc F.1 (i := 47) rfl rfl rfl (Nat.le_of_ble_eq_true rfl) rfl ?_
        replace h := bd_e h
        refine x_goto F.1 (i := 48) (tgt := 58) rfl (by decide) ?_
        exact x_wk F.1 (ih _ _ _ _ _ _ h) ⟨rfl, rfl, rfl, rfl, rfl, rfl, trivial⟩
set_option maxHeartbeats 4000000 in
theorem t_Seen_learn_l31 {w : kx_W} {d : Nat} {Q : Option Value → kx_M → Prop} {G : Nat → List (Option Value) → List Value → kx_M → Prop} (F : Sd w (d + 1) m_Seen_learn Q G) {p1 : Nat} {p2 : Int32} (hp1 : isDeal p1 = true) {k19 : Int64 → Int32 → kx_M → Option (Unit × kx_M)} {res : Unit × kx_M} (hQ : Q none res.2) (hk19 : ∀ (x3 : Int64) (x5 : Int32) (M : kx_M), k19 x3 x5 M = some res → G 19 [some (.ref 13), none, none, some (.long x3), none, some (.int x5), none, none, none, none] [] M) :
    ∀ (n : Nat) (x3 : Int64) (x5 : Int32) (x6 : Int32) (M : kx_M),
    f_Seen_learn_l31 p1 p2 k19 n x3 x5 x6 M = some res → G 31 [some (.ref 13), none, none, some (.long x3), none, some (.int x5), some (.int x6), none, none, none] [] M := by
  intro n
  induction n with
  | zero =>
    intro x3 x5 x6 M h
    exact absurd h (by rw [f_Seen_learn_l31]; exact fun z => nomatch z)
  | succ n ih =>
    intro x3 x5 x6 M h
    rw [f_Seen_learn_l31] at h
    refine x_iload F.1 (i := 18) rfl rfl ?_
    refine x_iconst F.1 (i := 19) rfl ic_4 ?_
    refine x_icmp_ge F.1 (i := 20) (tgt := 108) rfl (by decide) (fun c => ?_) (fun c => ?_)
    · replace h := if_T c h
      refine x_iinc F.1 (i := 60) rfl rfl rfl (Nat.le_of_ble_eq_true rfl) rfl ?_
      replace h := bd_e h
      refine x_goto F.1 (i := 61) (tgt := 19) rfl (by decide) ?_
      exact x_wk F.1 (hk19 _ _ _ h) ⟨rfl, rfl, rfl, trivial⟩
    · replace h := if_F c h
      refine x_aload_n F.1 (i := 21) rfl rfl ?_
      refine x_lload_n F.1 (i := 22) rfl rfl ?_
      refine x_iload F.1 (i := 23) rfl rfl ?_
      refine cal_e h (fun r2 M1 e3 h => ?_)
      refine x_cV2l F.1 (i := 24) rfl ml_Seen_40 ok_Seen_firstOf rfl (Nat.le_of_ble_eq_true rfl) (Nat.le_of_ble_eq_true rfl) (fun _ => t_Seen_firstOf e3) ?_
      refine x_iconst F.1 (i := 25) rfl ic_2 ?_
      refine x_lshl F.1 (i := 26) rfl ?_
      refine x_iload F.1 (i := 27) rfl rfl ?_
      refine x_i2l F.1 (i := 28) rfl ?_
      refine x_lor F.1 (i := 29) rfl ?_
      refine x_lstore F.1 (i := 30) rfl (Nat.le_of_ble_eq_true rfl) (Nat.le_of_ble_eq_true rfl) rfl ?_
      replace h := bd_e h
      refine x_iload F.1 (i := 31) rfl rfl ?_
      refine x_iconst F.1 (i := 32) rfl ic_1 ?_
      refine x_iadd F.1 (i := 33) rfl ?_
      refine x_istore F.1 (i := 34) rfl (Nat.le_of_ble_eq_true rfl) (Nat.le_of_ble_eq_true rfl) rfl ?_
      replace h := bd_e h
      exact x_wk F.1 ((t_Seen_learn_l58 F hp1 hQ ih FU) _ _ _ _ _ _ h) ⟨rfl, rfl, rfl, rfl, rfl, rfl, trivial⟩
set_option maxHeartbeats 4000000 in
theorem t_Seen_learn_l19 {w : kx_W} {d : Nat} {Q : Option Value → kx_M → Prop} {G : Nat → List (Option Value) → List Value → kx_M → Prop} (F : Sd w (d + 1) m_Seen_learn Q G) {p1 : Nat} {p2 : Int32} (hp1 : isDeal p1 = true) {res : Unit × kx_M} (hQ : Q none res.2) :
    ∀ (n : Nat) (x3 : Int64) (x5 : Int32) (M : kx_M),
    f_Seen_learn_l19 p1 p2 n x3 x5 M = some res → G 19 [some (.ref 13), none, none, some (.long x3), none, some (.int x5), none, none, none, none] [] M := by
  intro n
  induction n with
  | zero =>
    intro x3 x5 M h
    exact absurd h (by rw [f_Seen_learn_l19]; exact fun z => nomatch z)
  | succ n ih =>
    intro x3 x5 M h
    rw [f_Seen_learn_l19] at h
    refine x_iload F.1 (i := 12) rfl rfl ?_
    refine x_aload_n F.1 (i := 13) rfl rfl ?_
    refine x_getI F.1 (i := 14) rfl fl_Seen_22 rfl (by rfl) ?_
    refine x_icmp_ge F.1 (i := 15) (tgt := 114) rfl (by decide) (fun c => ?_) (fun c => ?_)
    · replace h := if_T c h
      exact x_vretf F (i := 62) rfl rfl h hQ
    · replace h := if_F c h
      refine x_iconst F.1 (i := 16) rfl ic_0 ?_
      refine x_istore F.1 (i := 17) rfl (Nat.le_of_ble_eq_true rfl) (Nat.le_of_ble_eq_true rfl) rfl ?_
      exact x_wk F.1 ((t_Seen_learn_l31 F hp1 hQ ih FU) _ _ _ _ h) ⟨rfl, rfl, rfl, rfl, trivial⟩
set_option maxHeartbeats 4000000 in
theorem t_Seen_learn {w : kx_W} {d : Nat} {M : kx_M} {Q : Option Value → kx_M → Prop} {p1 : Nat} {p2 : Int32} {r : Unit} {M' : kx_M} (hp1 : isDeal p1 = true) (h : f_Seen_learn p1 p2 M = some (r, M')) (hQ : Q none M') : Ct w (d + 1) m_Seen_learn [.ref 13, .ref p1, .int p2] M Q := by
  refine mk_ct ok_Seen_learn (Nat.le_of_ble_eq_true rfl) (fun G F => ?_)
  rw [f_Seen_learn] at h
  show G 0 [some (.ref 13), some (.ref p1), some (.int p2), none, none, none, none, none, none, none] [] M
  refine x_aload_n F.1 (i := 0) rfl rfl ?_
  refine x_aload_n F.1 (i := 1) rfl rfl ?_
  refine x_getC F.1 (i := 2) rfl fl_Seen_31 (lk_Deal hp1) (by rfl) ?_
  refine x_iload_n F.1 (i := 3) rfl rfl ?_
  refine gd_e h (fun g1 h => ?_)
  refine x_iald F.1 (i := 4) rfl (lk_Deal_lengths hp1) (inb_e g1) ?_
  refine x_putI F.1 (i := 5) rfl fl_Seen_22 pf_Seen_length rfl (by rfl) ?_
  replace h := bd_e h
  refine x_aload_n F.1 (i := 6) rfl rfl ?_
  refine x_iload_n F.1 (i := 7) rfl rfl ?_
  refine cal_e h (fun r2 M2 e3 h => ?_)
  refine x_cV1l F.1 (i := 8) rfl ml_Seen_36 ok_Deal_runOf (lk_Deal hp1) (Nat.le_of_ble_eq_true rfl) (Nat.le_of_ble_eq_true rfl) (fun _ => t_Deal_runOf hp1 e3) ?_
  refine x_lstore_n F.1 (i := 9) rfl (Nat.le_of_ble_eq_true rfl) (Nat.le_of_ble_eq_true rfl) rfl ?_
  refine x_iconst F.1 (i := 10) rfl ic_0 ?_
  refine x_istore F.1 (i := 11) rfl (Nat.le_of_ble_eq_true rfl) (Nat.le_of_ble_eq_true rfl) rfl ?_
  exact x_wk F.1 ((t_Seen_learn_l19 F hp1 (res := (r, M')) hQ FU) _ _ _ h) ⟨rfl, rfl, rfl, trivial⟩
set_option maxHeartbeats 4000000 in
theorem t_KT_lookAt_l34 {w : kx_W} {d : Nat} {Q : Option Value → kx_M → Prop} {G : Nat → List (Option Value) → List Value → kx_M → Prop} (F : Sd w (d + 2) m_KT_lookAt Q G) {p1 : Int32} {p2 : Int32} {res : Unit × kx_M} (hQ : Q none res.2) :
    ∀ (n : Nat) (x3 : Int32) (M : kx_M),
    f_KT_lookAt_l34 p1 p2 n x3 M = some res → G 34 [some (.ref 0), none, some (.int p2), some (.int x3)] [] M := by
  intro n
  induction n with
  | zero =>
    intro x3 M h
    exact absurd h (by rw [f_KT_lookAt_l34]; exact fun z => nomatch z)
  | succ n ih =>
    intro x3 M h
    rw [f_KT_lookAt_l34] at h
    refine x_iload_n F.1 (i := 16) rfl rfl ?_
    refine x_aload_n F.1 (i := 17) rfl rfl ?_
    refine x_getC F.1 (i := 18) rfl fl_KT_42 rfl (by rfl) ?_
    refine x_getI F.1 (i := 19) rfl fl_KT_421 rfl (by rfl) ?_
    refine x_icmp_ge F.1 (i := 20) (tgt := 72) rfl (by decide) (fun c => ?_) (fun c => ?_)
    · replace h := if_T c h
      exact x_vretf F (i := 36) rfl rfl h hQ
    · replace h := if_F c h
      refine x_aload_n F.1 (i := 21) rfl rfl ?_
      refine x_getC F.1 (i := 22) rfl fl_KT_42 rfl (by rfl) ?_
      refine x_getC F.1 (i := 23) rfl fl_KT_422 rfl (by rfl) ?_
      refine x_iload_n F.1 (i := 24) rfl rfl ?_
      refine x_aload_n F.1 (i := 25) rfl rfl ?_
      refine x_getC F.1 (i := 26) rfl fl_KT_11 rfl (by rfl) ?_
      refine x_iload_n F.1 (i := 27) rfl rfl ?_
      refine gd_e h (fun g1 h => ?_)
      refine x_tray F.1 (i := 28) rfl g1 ?_
      refine x_getC F.1 (i := 29) rfl fl_KT_120 (lk_Tray (isTray_of g1)) (by rfl) ?_
      refine x_iload_n F.1 (i := 30) rfl rfl ?_
      refine gd_e h (fun g2 h => ?_)
      refine x_lald F.1 (i := 31) rfl (lk_Tray_numbers (isTray_of g1)) (inb_e g2) ?_
      refine x_l2i F.1 (i := 32) rfl ?_
      refine gd_e h (fun g3 h => ?_)
      refine x_iast F.1 (i := 33) rfl rfl (inb_e g3) ?_
      replace h := bd_e h
      refine x_iinc F.1 (i := 34) rfl rfl rfl (Nat.le_of_ble_eq_true rfl) rfl ?_
      replace h := bd_e h
      refine x_goto F.1 (i := 35) (tgt := 34) rfl (by decide) ?_
      exact x_wk F.1 (ih _ _ h) ⟨rfl, rfl, rfl, trivial⟩
set_option maxHeartbeats 4000000 in
theorem t_KT_lookAt {w : kx_W} {d : Nat} {M : kx_M} {Q : Option Value → kx_M → Prop} {p1 : Int32} {p2 : Int32} {r : Unit} {M' : kx_M} (h : f_KT_lookAt p1 p2 M = some (r, M')) (hQ : Q none M') : Ct w (d + 2) m_KT_lookAt [.ref 0, .int p1, .int p2] M Q := by
  refine mk_ct ok_KT_lookAt (Nat.le_of_ble_eq_true rfl) (fun G F => ?_)
  rw [f_KT_lookAt] at h
  show G 0 [some (.ref 0), some (.int p1), some (.int p2), none] [] M
  refine x_aload_n F.1 (i := 0) rfl rfl ?_
  refine x_getC F.1 (i := 1) rfl fl_KT_42 rfl (by rfl) ?_
  refine x_aload_n F.1 (i := 2) rfl rfl ?_
  refine x_getR F.1 (i := 3) rfl fl_KT_64 rfl (by rfl) rfl ?_
  refine gd_e h (fun g1 h => ?_)
  replace h := bd_e h
  refine x_getC F.1 (i := 4) rfl fl_KT_192 (lk_State g1) (by rfl) ?_
  refine x_iload_n F.1 (i := 5) rfl rfl ?_
  refine cal_e h (fun r3 M1 e4 h => ?_)
  refine x_cV2v F.1 (i := 6) rfl ml_KT_418 ok_Seen_learn rfl (Nat.le_of_ble_eq_true rfl) (Nat.le_of_ble_eq_true rfl) (fun _ => t_Seen_learn (lD_State_deal g1) e4) ?_
  refine x_aload_n F.1 (i := 7) rfl rfl ?_
  refine x_getC F.1 (i := 8) rfl fl_KT_42 rfl (by rfl) ?_
  refine x_aload_n F.1 (i := 9) rfl rfl ?_
  refine x_getR F.1 (i := 10) rfl fl_KT_64 rfl (by rfl) rfl ?_
  refine gd_e h (fun g5 h => ?_)
  replace h := bd_e h
  refine x_getC F.1 (i := 11) rfl fl_KT_156 (lk_State g5) (by rfl) ?_
  refine x_getI F.1 (i := 12) rfl fl_KT_186 (lk_Cloth (lD_State_cloth g5)) (by rfl) ?_
  refine x_putI F.1 (i := 13) rfl fl_KT_421 pf_Seen_wide rfl (by rfl) ?_
  replace h := bd_e h
  refine x_iconst F.1 (i := 14) rfl ic_0 ?_
  refine x_istore_n F.1 (i := 15) rfl (Nat.le_of_ble_eq_true rfl) (Nat.le_of_ble_eq_true rfl) rfl ?_
  exact x_wk F.1 ((t_KT_lookAt_l34 F (res := (r, M')) hQ FU) _ _ h) ⟨rfl, rfl, rfl, trivial⟩
set_option maxHeartbeats 4000000 in
theorem t_Seen_passColumn_l27 {w : kx_W} {d : Nat} {Q : Option Value → kx_M → Prop} {G : Nat → List (Option Value) → List Value → kx_M → Prop} (F : Sd w (d + 1) m_Seen_passColumn Q G) {p1 : Int32} {k10 : Int32 → kx_M → Option (Unit × kx_M)} {res : Unit × kx_M} (hQ : Q none res.2) (hk10 : ∀ (x2 : Int32) (M : kx_M), k10 x2 M = some res → G 10 [some (.ref 13), some (.int p1), some (.int x2), none] [] M) :
    ∀ (n : Nat) (x2 : Int32) (x3 : Int32) (M : kx_M),
    f_Seen_passColumn_l27 p1 k10 n x2 x3 M = some res → G 27 [some (.ref 13), some (.int p1), some (.int x2), some (.int x3)] [] M := by
  intro n
  induction n with
  | zero =>
    intro x2 x3 M h
    exact absurd h (by rw [f_Seen_passColumn_l27]; exact fun z => nomatch z)
  | succ n ih =>
    intro x2 x3 M h
    rw [f_Seen_passColumn_l27] at h
    refine x_iload_n F.1 (i := 17) rfl rfl ?_
    refine x_aload_n F.1 (i := 18) rfl rfl ?_
    refine x_getI F.1 (i := 19) rfl fl_Seen_22 rfl (by rfl) ?_
    refine x_icmp_ge F.1 (i := 20) (tgt := 65) rfl (by decide) (fun c => ?_) (fun c => ?_)
    · replace h := if_T c h
      refine x_aload_n F.1 (i := 41) rfl rfl ?_
      refine x_getR F.1 (i := 42) rfl fl_Seen_28 rfl (by rfl) rfl ?_
      refine x_aload_n F.1 (i := 43) rfl rfl ?_
      refine x_getI F.1 (i := 44) rfl fl_Seen_22 rfl (by rfl) ?_
      refine x_dup2 F.1 (i := 45) rfl rfl rfl ?_
      refine gd_e h (fun g1 h => ?_)
      obtain ⟨ng1, kg1, lg1, ig1⟩ := aIb_e g1
      refine x_iald F.1 (i := 46) rfl lg1 ig1 ?_
      refine x_aload_n F.1 (i := 47) rfl rfl ?_
      refine x_getR F.1 (i := 48) rfl fl_Seen_25 rfl (by rfl) rfl ?_
      refine x_aload_n F.1 (i := 49) rfl rfl ?_
      refine x_getI F.1 (i := 50) rfl fl_Seen_22 rfl (by rfl) ?_
      refine gd_e h (fun g2 h => ?_)
      obtain ⟨ng2, kg2, lg2, ig2⟩ := aIb_e g2
      refine x_iald F.1 (i := 51) rfl lg2 ig2 ?_
      refine x_iadd F.1 (i := 52) rfl ?_
      refine gd_e h (fun g3 h => ?_)
      obtain ⟨ng3, kg3, lg3, ig3⟩ := aIb_e g3
      refine x_iast F.1 (i := 53) rfl lg3 ig3 ?_
      replace h := bd_e h
      refine x_iinc F.1 (i := 54) rfl rfl rfl (Nat.le_of_ble_eq_true rfl) rfl ?_
      replace h := bd_e h
      refine x_goto F.1 (i := 55) (tgt := 10) rfl (by decide) ?_
      exact x_wk F.1 (hk10 _ _ h) ⟨rfl, rfl, rfl, trivial⟩
    · replace h := if_F c h
      refine x_aload_n F.1 (i := 21) rfl rfl ?_
      refine x_getR F.1 (i := 22) rfl fl_Seen_28 rfl (by rfl) rfl ?_
      refine x_aload_n F.1 (i := 23) rfl rfl ?_
      refine x_getC F.1 (i := 24) rfl fl_Seen_19 rfl (by rfl) ?_
      refine x_iload_n F.1 (i := 25) rfl rfl ?_
      refine x_iconst F.1 (i := 26) rfl ic_4 ?_
      refine x_imul F.1 (i := 27) rfl ?_
      refine x_iload_n F.1 (i := 28) rfl rfl ?_
      refine x_iadd F.1 (i := 29) rfl ?_
      refine gd_e h (fun g5 h => ?_)
      refine x_iald F.1 (i := 30) rfl rfl (inb_e g5) ?_
      refine x_dup2 F.1 (i := 31) rfl rfl rfl ?_
      refine gd_e h (fun g6 h => ?_)
      obtain ⟨ng6, kg6, lg6, ig6⟩ := aIb_e g6
      refine x_iald F.1 (i := 32) rfl lg6 ig6 ?_
      refine x_aload_n F.1 (i := 33) rfl rfl ?_
      refine x_getR F.1 (i := 34) rfl fl_Seen_25 rfl (by rfl) rfl ?_
      refine x_iload_n F.1 (i := 35) rfl rfl ?_
      refine gd_e h (fun g7 h => ?_)
      obtain ⟨ng7, kg7, lg7, ig7⟩ := aIb_e g7
      refine x_iald F.1 (i := 36) rfl lg7 ig7 ?_
      refine x_iadd F.1 (i := 37) rfl ?_
      refine gd_e h (fun g8 h => ?_)
      obtain ⟨ng8, kg8, lg8, ig8⟩ := aIb_e g8
      refine x_iast F.1 (i := 38) rfl lg8 ig8 ?_
      replace h := bd_e h
      refine x_iinc F.1 (i := 39) rfl rfl rfl (Nat.le_of_ble_eq_true rfl) rfl ?_
      replace h := bd_e h
      refine x_goto F.1 (i := 40) (tgt := 27) rfl (by decide) ?_
      exact x_wk F.1 (ih _ _ _ h) ⟨rfl, rfl, rfl, rfl, trivial⟩
set_option maxHeartbeats 4000000 in
theorem t_Seen_passColumn_l10 {w : kx_W} {d : Nat} {Q : Option Value → kx_M → Prop} {G : Nat → List (Option Value) → List Value → kx_M → Prop} (F : Sd w (d + 1) m_Seen_passColumn Q G) {p1 : Int32} {res : Unit × kx_M} (hQ : Q none res.2) :
    ∀ (n : Nat) (x2 : Int32) (M : kx_M),
    f_Seen_passColumn_l10 p1 n x2 M = some res → G 10 [some (.ref 13), some (.int p1), some (.int x2), none] [] M := by
  intro n
  induction n with
  | zero =>
    intro x2 M h
    exact absurd h (by rw [f_Seen_passColumn_l10]; exact fun z => nomatch z)
  | succ n ih =>
    intro x2 M h
    rw [f_Seen_passColumn_l10] at h
    refine x_iload_n F.1 (i := 6) rfl rfl ?_
    refine x_iconst F.1 (i := 7) rfl ic_4 ?_
    refine x_icmp_ge F.1 (i := 8) (tgt := 92) rfl (by decide) (fun c => ?_) (fun c => ?_)
    · replace h := if_T c h
      refine x_aload_n F.1 (i := 56) rfl rfl ?_
      refine x_getR F.1 (i := 57) rfl fl_Seen_25 rfl (by rfl) rfl ?_
      refine x_astore_n F.1 (i := 58) rfl (Nat.le_of_ble_eq_true rfl) (Nat.le_of_ble_eq_true rfl) rfl ?_
      replace h := bd_e h
      refine x_aload_n F.1 (i := 59) rfl rfl ?_
      refine x_aload_n F.1 (i := 60) rfl rfl ?_
      refine x_getR F.1 (i := 61) rfl fl_Seen_28 rfl (by rfl) rfl ?_
      refine x_putQ F.1 (i := 62) rfl fl_Seen_25 pf_Seen_ways rfl (by rfl) ?_
      replace h := bd_e h
      refine x_aload_n F.1 (i := 63) rfl rfl ?_
      refine x_aload_n F.1 (i := 64) rfl rfl ?_
      refine x_putQ F.1 (i := 65) rfl fl_Seen_28 pf_Seen_later rfl (by rfl) ?_
      replace h := bd_e h
      exact x_vretf F (i := 66) rfl rfl h hQ
    · replace h := if_F c h
      refine x_iload_n F.1 (i := 9) rfl rfl ?_
      refine x_iconst F.1 (i := 10) rfl ic_n1 ?_
      refine x_icmp_eq F.1 (i := 11) (tgt := 25) rfl (by decide) (fun c => ?_) (fun c => ?_)
      · replace h := if_T c h
        refine x_iconst F.1 (i := 15) rfl ic_0 ?_
        refine x_istore_n F.1 (i := 16) rfl (Nat.le_of_ble_eq_true rfl) (Nat.le_of_ble_eq_true rfl) rfl ?_
        exact x_wk F.1 ((t_Seen_passColumn_l27 F hQ ih FU) _ _ _ h) ⟨rfl, rfl, rfl, rfl, trivial⟩
      · replace h := if_F c h
        refine x_iload_n F.1 (i := 12) rfl rfl ?_
        refine x_iload_n F.1 (i := 13) rfl rfl ?_
        refine x_icmp_ne F.1 (i := 14) (tgt := 86) rfl (by decide) (fun c => ?_) (fun c => ?_)
        · replace h := if_F c h
          refine x_iinc F.1 (i := 54) rfl rfl rfl (Nat.le_of_ble_eq_true rfl) rfl ?_
          replace h := bd_e h
          refine x_goto F.1 (i := 55) (tgt := 10) rfl (by decide) ?_
          exact x_wk F.1 (ih _ _ h) ⟨rfl, rfl, rfl, trivial⟩
        · replace h := if_T c h
          refine x_iconst F.1 (i := 15) rfl ic_0 ?_
          refine x_istore_n F.1 (i := 16) rfl (Nat.le_of_ble_eq_true rfl) (Nat.le_of_ble_eq_true rfl) rfl ?_
          exact x_wk F.1 ((t_Seen_passColumn_l27 F hQ ih FU) _ _ _ h) ⟨rfl, rfl, rfl, rfl, trivial⟩
set_option maxHeartbeats 4000000 in
theorem t_Seen_passColumn {w : kx_W} {d : Nat} {M : kx_M} {Q : Option Value → kx_M → Prop} {p1 : Int32} {r : Unit} {M' : kx_M} (h : f_Seen_passColumn p1 M = some (r, M')) (hQ : Q none M') : Ct w (d + 1) m_Seen_passColumn [.ref 13, .int p1] M Q := by
  refine mk_ct ok_Seen_passColumn (Nat.le_of_ble_eq_true rfl) (fun G F => ?_)
  rw [f_Seen_passColumn] at h
  show G 0 [some (.ref 13), some (.int p1), none, none] [] M
  refine x_aload_n F.1 (i := 0) rfl rfl ?_
  refine x_getR F.1 (i := 1) rfl fl_Seen_28 rfl (by rfl) rfl ?_
  refine x_iconst F.1 (i := 2) rfl ic_0 ?_
  refine cal_e h (fun r1 M1 e2 h => ?_)
  refine x_cS2v F.1 (i := 3) rfl ml_Seen_47 ok_Arr_fill_2 (Nat.le_of_ble_eq_true rfl) (Nat.le_of_ble_eq_true rfl) (fun _ => t_Arr_fill_2 e2) ?_
  refine x_iconst F.1 (i := 4) rfl ic_0 ?_
  refine x_istore_n F.1 (i := 5) rfl (Nat.le_of_ble_eq_true rfl) (Nat.le_of_ble_eq_true rfl) rfl ?_
  exact x_wk F.1 ((t_Seen_passColumn_l10 F (res := (r, M')) hQ FU) _ _ h) ⟨rfl, rfl, rfl, trivial⟩
set_option maxHeartbeats 4000000 in
theorem t_Seen_count_l17 {w : kx_W} {d : Nat} {Q : Option Value → kx_M → Prop} {G : Nat → List (Option Value) → List Value → kx_M → Prop} (F : Sd w (d + 2) m_Seen_count Q G) {res : Int32 × kx_M} (hQ : Q (some (.int res.1)) res.2) :
    ∀ (n : Nat) (x1 : Int32) (M : kx_M),
    f_Seen_count_l17 n x1 M = some res → G 17 [some (.ref 13), some (.int x1)] [] M := by
  intro n
  induction n with
  | zero =>
    intro x1 M h
    exact absurd h (by rw [f_Seen_count_l17]; exact fun z => nomatch z)
  | succ n ih =>
    intro x1 M h
    rw [f_Seen_count_l17] at h
    refine x_iload_n F.1 (i := 11) rfl rfl ?_
    refine x_aload_n F.1 (i := 12) rfl rfl ?_
    refine x_getI F.1 (i := 13) rfl fl_Seen_15 rfl (by rfl) ?_
    refine x_icmp_ge F.1 (i := 14) (tgt := 41) rfl (by decide) (fun c => ?_) (fun c => ?_)
    · replace h := if_T c h
      refine x_aload_n F.1 (i := 23) rfl rfl ?_
      refine x_getR F.1 (i := 24) rfl fl_Seen_25 rfl (by rfl) rfl ?_
      refine x_aload_n F.1 (i := 25) rfl rfl ?_
      refine x_getI F.1 (i := 26) rfl fl_Seen_22 rfl (by rfl) ?_
      refine gd_e h (fun g1 h => ?_)
      obtain ⟨ng1, kg1, lg1, ig1⟩ := aIb_e g1
      refine x_iald F.1 (i := 27) rfl lg1 ig1 ?_
      exact x_iretf F (i := 28) rfl rfl h hQ
    · replace h := if_F c h
      refine x_aload_n F.1 (i := 15) rfl rfl ?_
      refine x_aload_n F.1 (i := 16) rfl rfl ?_
      refine x_getC F.1 (i := 17) rfl fl_Seen_9 rfl (by rfl) ?_
      refine x_iload_n F.1 (i := 18) rfl rfl ?_
      refine gd_e h (fun g2 h => ?_)
      refine x_iald F.1 (i := 19) rfl rfl (inb_e g2) ?_
      refine cal_e h (fun r3 M1 e4 h => ?_)
      refine x_cV1v F.1 (i := 20) rfl ml_Seen_53 ok_Seen_passColumn rfl (Nat.le_of_ble_eq_true rfl) (Nat.le_of_ble_eq_true rfl) (fun _ => t_Seen_passColumn e4) ?_
      refine x_iinc F.1 (i := 21) rfl rfl rfl (Nat.le_of_ble_eq_true rfl) rfl ?_
      replace h := bd_e h
      refine x_goto F.1 (i := 22) (tgt := 17) rfl (by decide) ?_
      exact x_wk F.1 (ih _ _ h) ⟨rfl, rfl, trivial⟩
set_option maxHeartbeats 4000000 in
theorem t_Seen_count {w : kx_W} {d : Nat} {M : kx_M} {Q : Option Value → kx_M → Prop} {r : Int32} {M' : kx_M} (h : f_Seen_count M = some (r, M')) (hQ : Q (some (.int r)) M') : Ct w (d + 2) m_Seen_count [.ref 13] M Q := by
  refine mk_ct ok_Seen_count (Nat.le_of_ble_eq_true rfl) (fun G F => ?_)
  rw [f_Seen_count] at h
  show G 0 [some (.ref 13), none] [] M
  refine x_aload_n F.1 (i := 0) rfl rfl ?_
  refine x_getR F.1 (i := 1) rfl fl_Seen_25 rfl (by rfl) rfl ?_
  refine x_iconst F.1 (i := 2) rfl ic_0 ?_
  refine cal_e h (fun r1 M1 e2 h => ?_)
  refine x_cS2v F.1 (i := 3) rfl ml_Seen_47 ok_Arr_fill_2 (Nat.le_of_ble_eq_true rfl) (Nat.le_of_ble_eq_true rfl) (fun _ => t_Arr_fill_2 e2) ?_
  refine x_aload_n F.1 (i := 4) rfl rfl ?_
  refine x_getR F.1 (i := 5) rfl fl_Seen_25 rfl (by rfl) rfl ?_
  refine x_iconst F.1 (i := 6) rfl ic_0 ?_
  refine x_iconst F.1 (i := 7) rfl ic_1 ?_
  refine gd_e h (fun g3 h => ?_)
  obtain ⟨ng3, kg3, lg3, ig3⟩ := aIb_e g3
  refine x_iast F.1 (i := 8) rfl lg3 ig3 ?_
  replace h := bd_e h
  refine x_iconst F.1 (i := 9) rfl ic_0 ?_
  refine x_istore_n F.1 (i := 10) rfl (Nat.le_of_ble_eq_true rfl) (Nat.le_of_ble_eq_true rfl) rfl ?_
  exact x_wk F.1 ((t_Seen_count_l17 F (res := (r, M')) hQ FU) _ _ h) ⟨rfl, rfl, trivial⟩
set_option maxHeartbeats 4000000 in
theorem t_KT_fills {w : kx_W} {d : Nat} {M : kx_M} {Q : Option Value → kx_M → Prop} {p1 : Int32} {p2 : Int32} {r : Int32} {M' : kx_M} (h : f_KT_fills p1 p2 M = some (r, M')) (hQ : Q (some (.int r)) M') : Ct w (d + 4) m_KT_fills [.ref 0, .int p1, .int p2] M Q := by
  refine mk_ct ok_KT_fills (Nat.le_of_ble_eq_true rfl) (fun G F => ?_)
  rw [f_KT_fills] at h
  show G 0 [some (.ref 0), some (.int p1), some (.int p2)] [] M
  refine x_aload_n F.1 (i := 0) rfl rfl ?_
  refine x_aload_n F.1 (i := 1) rfl rfl ?_
  refine x_iload_n F.1 (i := 2) rfl rfl ?_
  refine x_iload_n F.1 (i := 3) rfl rfl ?_
  refine cal_e h (fun r1 M1 e2 h => ?_)
  refine x_cV2i F.1 (i := 4) rfl ml_KT_396 ok_KT_seenStatus rfl (Nat.le_of_ble_eq_true rfl) (Nat.le_of_ble_eq_true rfl) (fun _ => t_KT_seenStatus e2) ?_
  refine cal_e h (fun r3 M2 e4 h => ?_)
  refine x_cV1i F.1 (i := 5) rfl ml_KT_103 ok_KT_refused rfl (Nat.le_of_ble_eq_true rfl) (Nat.le_of_ble_eq_true rfl) (fun _ => t_KT_refused e4) ?_
  refine x_if_eq F.1 (i := 6) (tgt := 15) rfl (by decide) (fun c => ?_) (fun c => ?_)
  · replace h := if_T c h
    refine x_aload_n F.1 (i := 9) rfl rfl ?_
    refine x_iload_n F.1 (i := 10) rfl rfl ?_
    refine x_iload_n F.1 (i := 11) rfl rfl ?_
    refine cal_e h (fun r5 M3 e6 h => ?_)
    refine x_cV2v F.1 (i := 12) rfl ml_KT_399 ok_KT_lookAt rfl (Nat.le_of_ble_eq_true rfl) (Nat.le_of_ble_eq_true rfl) (fun _ => t_KT_lookAt e6) ?_
    refine x_aload_n F.1 (i := 13) rfl rfl ?_
    refine x_getC F.1 (i := 14) rfl fl_KT_42 rfl (by rfl) ?_
    refine cal_e h (fun r7 M4 e8 h => ?_)
    refine x_cV0i F.1 (i := 15) rfl ml_KT_402 ok_Seen_count rfl (Nat.le_of_ble_eq_true rfl) (Nat.le_of_ble_eq_true rfl) (fun _ => t_Seen_count e8) ?_
    exact x_iretf F (i := 16) rfl rfl h (res := (r, M')) hQ
  · replace h := if_F c h
    refine x_iconst F.1 (i := 7) rfl ic_n1 ?_
    exact x_iretf F (i := 8) rfl rfl h (res := (r, M')) hQ
set_option maxHeartbeats 4000000 in
theorem t_Seen_unknown_l4 {w : kx_W} {d : Nat} {Q : Option Value → kx_M → Prop} {G : Nat → List (Option Value) → List Value → kx_M → Prop} (F : Sd w d m_Seen_unknown Q G) {res : Int32 × kx_M} (hQ : Q (some (.int res.1)) res.2) :
    ∀ (n : Nat) (x1 : Int32) (x2 : Int32) (M : kx_M),
    f_Seen_unknown_l4 n x1 x2 M = some res → G 4 [some (.ref 13), some (.int x1), some (.int x2)] [] M := by
  intro n
  induction n with
  | zero =>
    intro x1 x2 M h
    exact absurd h (by rw [f_Seen_unknown_l4]; exact fun z => nomatch z)
  | succ n ih =>
    intro x1 x2 M h
    rw [f_Seen_unknown_l4] at h
    refine x_iload_n F.1 (i := 4) rfl rfl ?_
    refine x_aload_n F.1 (i := 5) rfl rfl ?_
    refine x_getI F.1 (i := 6) rfl fl_Seen_15 rfl (by rfl) ?_
    refine x_icmp_ge F.1 (i := 7) (tgt := 31) rfl (by decide) (fun c => ?_) (fun c => ?_)
    · replace h := if_T c h
      refine x_iload_n F.1 (i := 17) rfl rfl ?_
      exact x_iretf F (i := 18) rfl rfl h hQ
    · replace h := if_F c h
      refine x_aload_n F.1 (i := 8) rfl rfl ?_
      refine x_getC F.1 (i := 9) rfl fl_Seen_9 rfl (by rfl) ?_
      refine x_iload_n F.1 (i := 10) rfl rfl ?_
      refine gd_e h (fun g1 h => ?_)
      refine x_iald F.1 (i := 11) rfl rfl (inb_e g1) ?_
      refine x_iconst F.1 (i := 12) rfl ic_n1 ?_
      refine x_icmp_ne F.1 (i := 13) (tgt := 25) rfl (by decide) (fun c => ?_) (fun c => ?_)
      · replace h := if_F c h
        refine x_iinc F.1 (i := 15) rfl rfl rfl (Nat.le_of_ble_eq_true rfl) rfl ?_
        replace h := bd_e h
        refine x_goto F.1 (i := 16) (tgt := 4) rfl (by decide) ?_
        exact x_wk F.1 (ih _ _ _ h) ⟨rfl, rfl, rfl, trivial⟩
      · replace h := if_T c h
        refine x_iinc F.1 (i := 14) rfl rfl rfl (Nat.le_of_ble_eq_true rfl) rfl ?_
        replace h := bd_e h
        refine x_iinc F.1 (i := 15) rfl rfl rfl (Nat.le_of_ble_eq_true rfl) rfl ?_
        replace h := bd_e h
        refine x_goto F.1 (i := 16) (tgt := 4) rfl (by decide) ?_
        exact x_wk F.1 (ih _ _ _ h) ⟨rfl, rfl, rfl, trivial⟩
set_option maxHeartbeats 4000000 in
theorem t_Seen_unknown {w : kx_W} {d : Nat} {M : kx_M} {Q : Option Value → kx_M → Prop} {r : Int32} {M' : kx_M} (h : f_Seen_unknown M = some (r, M')) (hQ : Q (some (.int r)) M') : Ct w d m_Seen_unknown [.ref 13] M Q := by
  refine mk_ct ok_Seen_unknown (Nat.le_of_ble_eq_true rfl) (fun G F => ?_)
  rw [f_Seen_unknown] at h
  show G 0 [some (.ref 13), none, none] [] M
  refine x_iconst F.1 (i := 0) rfl ic_0 ?_
  refine x_istore_n F.1 (i := 1) rfl (Nat.le_of_ble_eq_true rfl) (Nat.le_of_ble_eq_true rfl) rfl ?_
  refine x_iconst F.1 (i := 2) rfl ic_0 ?_
  refine x_istore_n F.1 (i := 3) rfl (Nat.le_of_ble_eq_true rfl) (Nat.le_of_ble_eq_true rfl) rfl ?_
  exact x_wk F.1 ((t_Seen_unknown_l4 F (res := (r, M')) hQ FU) _ _ _ h) ⟨rfl, rfl, rfl, trivial⟩
set_option maxHeartbeats 4000000 in
theorem t_KT_tellFraction_l45 {w : kx_W} {d : Nat} {Q : Option Value → kx_M → Prop} {G : Nat → List (Option Value) → List Value → kx_M → Prop} (F : Sd w d m_KT_tellFraction Q G) {p1 : Int64} {p3 : Int64} {res : Unit × kx_M} (hQ : Q none res.2) :
    ∀ (x5 : Int64) (M : kx_M),
    f_KT_tellFraction_l45 p1 p3 x5 M = some res → G 45 [some (.ref 0), some (.long p1), none, some (.long p3), none, some (.long x5), none, none, none, none, none, none] [] M := by
  intro x5 M h
  rw [f_KT_tellFraction_l45] at h
  refine x_lload F.1 (i := 23) rfl rfl ?_
  refine x_lconst F.1 (i := 24) (v := 0) rfl rfl ?_
  refine x_lcmp F.1 (i := 25) rfl ?_
  refine x_if_eq F.1 (i := 26) (tgt := 68) rfl (by decide) (fun c => ?_) (fun c => ?_)
  · replace h := if_T c h
    exact x_vretf F (i := 37) rfl rfl h hQ
  · replace h := if_F c h
    refine x_aload_n F.1 (i := 27) rfl rfl ?_
    refine x_lload_n F.1 (i := 28) rfl rfl ?_
    refine x_lload F.1 (i := 29) rfl rfl ?_
    refine gd_e h (fun g1 h => ?_)
    refine x_ldiv F.1 (i := 30) rfl (nzJ_e g1) ?_
    refine x_putJ F.1 (i := 31) rfl fl_KT_91 pf_KT_fractionTop rfl (by rfl) ?_
    replace h := bd_e h
    refine x_aload_n F.1 (i := 32) rfl rfl ?_
    refine x_lload_n F.1 (i := 33) rfl rfl ?_
    refine x_lload F.1 (i := 34) rfl rfl ?_
    refine gd_e h (fun g2 h => ?_)
    refine x_ldiv F.1 (i := 35) rfl (nzJ_e g2) ?_
    refine x_putJ F.1 (i := 36) rfl fl_KT_95 pf_KT_fractionBottom rfl (by rfl) ?_
    replace h := bd_e h
    exact x_vretf F (i := 37) rfl rfl h hQ
set_option maxHeartbeats 4000000 in
theorem t_KT_tellFraction_l9 {w : kx_W} {d : Nat} {Q : Option Value → kx_M → Prop} {G : Nat → List (Option Value) → List Value → kx_M → Prop} (F : Sd w d m_KT_tellFraction Q G) {p1 : Int64} {p3 : Int64} {res : Unit × kx_M} (hQ : Q none res.2) :
    ∀ (n : Nat) (x5 : Int64) (x7 : Int64) (x9 : Int32) (M : kx_M),
    f_KT_tellFraction_l9 p1 p3 n x5 x7 x9 M = some res → G 9 [some (.ref 0), some (.long p1), none, some (.long p3), none, some (.long x5), none, some (.long x7), none, some (.int x9), none, none] [] M := by
  intro n
  induction n with
  | zero =>
    intro x5 x7 x9 M h
    exact absurd h (by rw [f_KT_tellFraction_l9]; exact fun z => nomatch z)
  | succ n ih =>
    intro x5 x7 x9 M h
    rw [f_KT_tellFraction_l9] at h
    refine x_iload F.1 (i := 6) rfl rfl ?_
    refine x_sipush F.1 (i := 7) rfl sp_200 ?_
    refine x_icmp_ge F.1 (i := 8) (tgt := 45) rfl (by decide) (fun c => ?_) (fun c => ?_)
    · replace h := if_T c h
      exact x_wk F.1 ((t_KT_tellFraction_l45 F hQ) _ _ h) ⟨rfl, rfl, rfl, rfl, trivial⟩
    · replace h := if_F c h
      refine x_lload F.1 (i := 9) rfl rfl ?_
      refine x_lconst F.1 (i := 10) (v := 0) rfl rfl ?_
      refine x_lcmp F.1 (i := 11) rfl ?_
      refine x_if_eq F.1 (i := 12) (tgt := 45) rfl (by decide) (fun c => ?_) (fun c => ?_)
      · replace h := if_T c h
        exact x_wk F.1 ((t_KT_tellFraction_l45 F hQ) _ _ h) ⟨rfl, rfl, rfl, rfl, trivial⟩
      · replace h := if_F c h
        refine x_lload F.1 (i := 13) rfl rfl ?_
        refine x_lload F.1 (i := 14) rfl rfl ?_
        refine gd_e h (fun g1 h => ?_)
        refine x_lrem F.1 (i := 15) rfl (nzJ_e g1) ?_
        refine x_lstore F.1 (i := 16) rfl (Nat.le_of_ble_eq_true rfl) (Nat.le_of_ble_eq_true rfl) rfl ?_
        replace h := bd_e h
        refine x_lload F.1 (i := 17) rfl rfl ?_
        refine x_lstore F.1 (i := 18) rfl (Nat.le_of_ble_eq_true rfl) (Nat.le_of_ble_eq_true rfl) rfl ?_
        refine x_lload F.1 (i := 19) rfl rfl ?_
        refine x_lstore F.1 (i := 20) rfl (Nat.le_of_ble_eq_true rfl) (Nat.le_of_ble_eq_true rfl) rfl ?_
        refine x_iinc F.1 (i := 21) rfl rfl rfl (Nat.le_of_ble_eq_true rfl) rfl ?_
        replace h := bd_e h
        refine x_goto F.1 (i := 22) (tgt := 9) rfl (by decide) ?_
        exact x_wk F.1 (ih _ _ _ _ h) ⟨rfl, rfl, rfl, rfl, rfl, rfl, trivial⟩
set_option maxHeartbeats 4000000 in
theorem t_KT_tellFraction {w : kx_W} {d : Nat} {M : kx_M} {Q : Option Value → kx_M → Prop} {p1 : Int64} {p3 : Int64} {r : Unit} {M' : kx_M} (h : f_KT_tellFraction p1 p3 M = some (r, M')) (hQ : Q none M') : Ct w d m_KT_tellFraction [.ref 0, .long p1, .long p3] M Q := by
  refine mk_ct ok_KT_tellFraction (Nat.le_of_ble_eq_true rfl) (fun G F => ?_)
  rw [f_KT_tellFraction] at h
  show G 0 [some (.ref 0), some (.long p1), none, some (.long p3), none, none, none, none, none, none, none, none] [] M
  refine x_lload_n F.1 (i := 0) rfl rfl ?_
  refine x_lstore F.1 (i := 1) rfl (Nat.le_of_ble_eq_true rfl) (Nat.le_of_ble_eq_true rfl) rfl ?_
  refine x_lload_n F.1 (i := 2) rfl rfl ?_
  refine x_lstore F.1 (i := 3) rfl (Nat.le_of_ble_eq_true rfl) (Nat.le_of_ble_eq_true rfl) rfl ?_
  refine x_iconst F.1 (i := 4) rfl ic_0 ?_
  refine x_istore F.1 (i := 5) rfl (Nat.le_of_ble_eq_true rfl) (Nat.le_of_ble_eq_true rfl) rfl ?_
  exact x_wk F.1 ((t_KT_tellFraction_l9 F (res := (r, M')) hQ FU) _ _ _ _ h) ⟨rfl, rfl, rfl, rfl, rfl, rfl, trivial⟩
set_option maxHeartbeats 4000000 in
theorem t_KT_chance {w : kx_W} {d : Nat} {M : kx_M} {Q : Option Value → kx_M → Prop} {p1 : Int32} {p2 : Int32} {r : Int32} {M' : kx_M} (h : f_KT_chance p1 p2 M = some (r, M')) (hQ : Q (some (.int r)) M') : Ct w (d + 4) m_KT_chance [.ref 0, .int p1, .int p2] M Q := by
  refine mk_ct ok_KT_chance (Nat.le_of_ble_eq_true rfl) (fun G F => ?_)
  rw [f_KT_chance] at h
  show G 0 [some (.ref 0), some (.int p1), some (.int p2)] [] M
  refine x_aload_n F.1 (i := 0) rfl rfl ?_
  refine x_aload_n F.1 (i := 1) rfl rfl ?_
  refine x_iload_n F.1 (i := 2) rfl rfl ?_
  refine x_iload_n F.1 (i := 3) rfl rfl ?_
  refine cal_e h (fun r1 M1 e2 h => ?_)
  refine x_cV2i F.1 (i := 4) rfl ml_KT_396 ok_KT_seenStatus rfl (Nat.le_of_ble_eq_true rfl) (Nat.le_of_ble_eq_true rfl) (fun _ => t_KT_seenStatus e2) ?_
  refine cal_e h (fun r3 M2 e4 h => ?_)
  refine x_cV1i F.1 (i := 5) rfl ml_KT_103 ok_KT_refused rfl (Nat.le_of_ble_eq_true rfl) (Nat.le_of_ble_eq_true rfl) (fun _ => t_KT_refused e4) ?_
  refine x_if_eq F.1 (i := 6) (tgt := 15) rfl (by decide) (fun c => ?_) (fun c => ?_)
  · replace h := if_T c h
    refine x_aload_n F.1 (i := 9) rfl rfl ?_
    refine x_iload_n F.1 (i := 10) rfl rfl ?_
    refine x_iload_n F.1 (i := 11) rfl rfl ?_
    refine cal_e h (fun r5 M3 e6 h => ?_)
    refine x_cV2v F.1 (i := 12) rfl ml_KT_399 ok_KT_lookAt rfl (Nat.le_of_ble_eq_true rfl) (Nat.le_of_ble_eq_true rfl) (fun _ => t_KT_lookAt e6) ?_
    refine x_aload_n F.1 (i := 13) rfl rfl ?_
    refine x_aload_n F.1 (i := 14) rfl rfl ?_
    refine x_getC F.1 (i := 15) rfl fl_KT_42 rfl (by rfl) ?_
    refine cal_e h (fun r7 M4 e8 h => ?_)
    refine x_cV0i F.1 (i := 16) rfl ml_KT_402 ok_Seen_count rfl (Nat.le_of_ble_eq_true rfl) (Nat.le_of_ble_eq_true rfl) (fun _ => t_Seen_count e8) ?_
    refine x_i2l F.1 (i := 17) rfl ?_
    refine x_lconst F.1 (i := 18) (v := 1) rfl rfl ?_
    refine x_iconst F.1 (i := 19) rfl ic_2 ?_
    refine x_aload_n F.1 (i := 20) rfl rfl ?_
    refine x_getC F.1 (i := 21) rfl fl_KT_42 rfl (by rfl) ?_
    refine cal_e h (fun r9 M5 e10 h => ?_)
    refine x_cV0i F.1 (i := 22) rfl ml_KT_405 ok_Seen_unknown rfl (Nat.le_of_ble_eq_true rfl) (Nat.le_of_ble_eq_true rfl) (fun _ => t_Seen_unknown e10) ?_
    refine x_imul F.1 (i := 23) rfl ?_
    refine x_lshl F.1 (i := 24) rfl ?_
    refine cal_e h (fun r11 M6 e12 h => ?_)
    refine x_cV2v F.1 (i := 25) rfl ml_KT_408 ok_KT_tellFraction rfl (Nat.le_of_ble_eq_true rfl) (Nat.le_of_ble_eq_true rfl) (fun _ => t_KT_tellFraction e12) ?_
    refine x_iconst F.1 (i := 26) rfl ic_1 ?_
    exact x_zretf F (i := 27) rfl rfl (Or.inr rfl) h (res := (r, M')) hQ
  · replace h := if_F c h
    refine x_iconst F.1 (i := 7) rfl ic_0 ?_
    exact x_zretf F (i := 8) rfl rfl (Or.inl rfl) h (res := (r, M')) hQ
set_option maxHeartbeats 4000000 in
theorem t_Seen_countWith {w : kx_W} {d : Nat} {M : kx_M} {Q : Option Value → kx_M → Prop} {p1 : Int32} {p2 : Int32} {r : Int32} {M' : kx_M} (h : f_Seen_countWith p1 p2 M = some (r, M')) (hQ : Q (some (.int r)) M') : Ct w (d + 3) m_Seen_countWith [.ref 13, .int p1, .int p2] M Q := by
  refine mk_ct ok_Seen_countWith (Nat.le_of_ble_eq_true rfl) (fun G F => ?_)
  rw [f_Seen_countWith] at h
  show G 0 [some (.ref 13), some (.int p1), some (.int p2), none, none] [] M
  refine x_aload_n F.1 (i := 0) rfl rfl ?_
  refine x_getC F.1 (i := 1) rfl fl_Seen_9 rfl (by rfl) ?_
  refine x_iload_n F.1 (i := 2) rfl rfl ?_
  refine gd_e h (fun g1 h => ?_)
  refine x_iald F.1 (i := 3) rfl rfl (inb_e g1) ?_
  refine x_istore_n F.1 (i := 4) rfl (Nat.le_of_ble_eq_true rfl) (Nat.le_of_ble_eq_true rfl) rfl ?_
  replace h := bd_e h
  refine x_aload_n F.1 (i := 5) rfl rfl ?_
  refine x_getC F.1 (i := 6) rfl fl_Seen_9 rfl (by rfl) ?_
  refine x_iload_n F.1 (i := 7) rfl rfl ?_
  refine x_iload_n F.1 (i := 8) rfl rfl ?_
  refine gd_e h (fun g3 h => ?_)
  refine x_iast F.1 (i := 9) rfl rfl (inb_e g3) ?_
  replace h := bd_e h
  refine x_aload_n F.1 (i := 10) rfl rfl ?_
  refine cal_e h (fun r4 M2 e5 h => ?_)
  refine x_cV0i F.1 (i := 11) rfl ml_Seen_57 ok_Seen_count rfl (Nat.le_of_ble_eq_true rfl) (Nat.le_of_ble_eq_true rfl) (fun _ => t_Seen_count e5) ?_
  refine x_istore F.1 (i := 12) rfl (Nat.le_of_ble_eq_true rfl) (Nat.le_of_ble_eq_true rfl) rfl ?_
  refine x_aload_n F.1 (i := 13) rfl rfl ?_
  refine x_getC F.1 (i := 14) rfl fl_Seen_9 rfl (by rfl) ?_
  refine x_iload_n F.1 (i := 15) rfl rfl ?_
  refine x_iload_n F.1 (i := 16) rfl rfl ?_
  refine gd_e h (fun g6 h => ?_)
  refine x_iast F.1 (i := 17) rfl rfl (inb_e g6) ?_
  replace h := bd_e h
  refine x_iload F.1 (i := 18) rfl rfl ?_
  exact x_iretf F (i := 19) rfl rfl h (res := (r, M')) hQ
set_option maxHeartbeats 4000000 in
theorem t_Seen_bestColumn_l31 {w : kx_W} {d : Nat} {Q : Option Value → kx_M → Prop} {G : Nat → List (Option Value) → List Value → kx_M → Prop} (F : Sd w (d + 4) m_Seen_bestColumn Q G) {k7 : Int32 → Int32 → Int32 → kx_M → Option (Int32 × kx_M)} {res : Int32 × kx_M} (hQ : Q (some (.int res.1)) res.2) (hk7 : ∀ (x1 : Int32) (x2 : Int32) (x3 : Int32) (M : kx_M), k7 x1 x2 x3 M = some res → G 7 [some (.ref 13), some (.int x1), some (.int x2), some (.int x3), none, none] [] M) :
    ∀ (n : Nat) (x1 : Int32) (x2 : Int32) (x3 : Int32) (x4 : Int32) (x5 : Int32) (M : kx_M),
    f_Seen_bestColumn_l31 k7 n x1 x2 x3 x4 x5 M = some res → G 31 [some (.ref 13), some (.int x1), some (.int x2), some (.int x3), some (.int x4), some (.int x5)] [] M := by
  intro n
  induction n with
  | zero =>
    intro x1 x2 x3 x4 x5 M h
    exact absurd h (by rw [f_Seen_bestColumn_l31]; exact fun z => nomatch z)
  | succ n ih =>
    intro x1 x2 x3 x4 x5 M h
    rw [f_Seen_bestColumn_l31] at h
    refine x_iload F.1 (i := 20) rfl rfl ?_
    refine x_iconst F.1 (i := 21) rfl ic_4 ?_
    refine x_icmp_ge F.1 (i := 22) (tgt := 57) rfl (by decide) (fun c => ?_) (fun c => ?_)
    · replace h := if_T c h
      refine x_iload F.1 (i := 32) rfl rfl ?_
      refine x_iload_n F.1 (i := 33) rfl rfl ?_
      refine x_icmp_ge F.1 (i := 34) (tgt := 68) rfl (by decide) (fun c => ?_) (fun c => ?_)
      · replace h := if_T c h
        refine x_iinc F.1 (i := 39) rfl rfl rfl (Nat.le_of_ble_eq_true rfl) rfl ?_
        replace h := bd_e h
        refine x_goto F.1 (i := 40) (tgt := 7) rfl (by decide) ?_
        exact x_wk F.1 (hk7 _ _ _ _ h) ⟨rfl, rfl, rfl, rfl, trivial⟩
      · replace h := if_F c h
        refine x_iload F.1 (i := 35) rfl rfl ?_
        refine x_istore_n F.1 (i := 36) rfl (Nat.le_of_ble_eq_true rfl) (Nat.le_of_ble_eq_true rfl) rfl ?_
        refine x_iload_n F.1 (i := 37) rfl rfl ?_
        refine x_istore_n F.1 (i := 38) rfl (Nat.le_of_ble_eq_true rfl) (Nat.le_of_ble_eq_true rfl) rfl ?_
        refine x_iinc F.1 (i := 39) rfl rfl rfl (Nat.le_of_ble_eq_true rfl) rfl ?_
        replace h := bd_e h
        refine x_goto F.1 (i := 40) (tgt := 7) rfl (by decide) ?_
        exact x_wk F.1 (hk7 _ _ _ _ h) ⟨rfl, rfl, rfl, rfl, trivial⟩
    · replace h := if_F c h
      refine x_iload F.1 (i := 23) rfl rfl ?_
      refine x_aload_n F.1 (i := 24) rfl rfl ?_
      refine x_iload_n F.1 (i := 25) rfl rfl ?_
      refine x_iload F.1 (i := 26) rfl rfl ?_
      refine cal_e h (fun r3 M1 e4 h => ?_)
      refine x_cV2i F.1 (i := 27) rfl ml_Seen_62 ok_Seen_countWith rfl (Nat.le_of_ble_eq_true rfl) (Nat.le_of_ble_eq_true rfl) (fun _ => t_Seen_countWith e4) ?_
      refine x_mmax F.1 (i := 28) rfl jm_Seen_66 (Nat.le_of_ble_eq_true rfl) ?_
      refine x_istore F.1 (i := 29) rfl (Nat.le_of_ble_eq_true rfl) (Nat.le_of_ble_eq_true rfl) rfl ?_
      replace h := bd_e h
      refine x_iinc F.1 (i := 30) rfl rfl rfl (Nat.le_of_ble_eq_true rfl) rfl ?_
      replace h := bd_e h
      refine x_goto F.1 (i := 31) (tgt := 31) rfl (by decide) ?_
      exact x_wk F.1 (ih _ _ _ _ _ _ h) ⟨rfl, rfl, rfl, rfl, rfl, rfl, trivial⟩
set_option maxHeartbeats 4000000 in
theorem t_Seen_bestColumn_l7 {w : kx_W} {d : Nat} {Q : Option Value → kx_M → Prop} {G : Nat → List (Option Value) → List Value → kx_M → Prop} (F : Sd w (d + 4) m_Seen_bestColumn Q G) {res : Int32 × kx_M} (hQ : Q (some (.int res.1)) res.2) :
    ∀ (n : Nat) (x1 : Int32) (x2 : Int32) (x3 : Int32) (M : kx_M),
    f_Seen_bestColumn_l7 n x1 x2 x3 M = some res → G 7 [some (.ref 13), some (.int x1), some (.int x2), some (.int x3), none, none] [] M := by
  intro n
  induction n with
  | zero =>
    intro x1 x2 x3 M h
    exact absurd h (by rw [f_Seen_bestColumn_l7]; exact fun z => nomatch z)
  | succ n ih =>
    intro x1 x2 x3 M h
    rw [f_Seen_bestColumn_l7] at h
    refine x_iload_n F.1 (i := 6) rfl rfl ?_
    refine x_aload_n F.1 (i := 7) rfl rfl ?_
    refine x_getI F.1 (i := 8) rfl fl_Seen_15 rfl (by rfl) ?_
    refine x_icmp_ge F.1 (i := 9) (tgt := 74) rfl (by decide) (fun c => ?_) (fun c => ?_)
    · replace h := if_T c h
      refine x_iload_n F.1 (i := 41) rfl rfl ?_
      exact x_iretf F (i := 42) rfl rfl h hQ
    · replace h := if_F c h
      refine x_aload_n F.1 (i := 10) rfl rfl ?_
      refine x_getC F.1 (i := 11) rfl fl_Seen_9 rfl (by rfl) ?_
      refine x_iload_n F.1 (i := 12) rfl rfl ?_
      refine gd_e h (fun g1 h => ?_)
      refine x_iald F.1 (i := 13) rfl rfl (inb_e g1) ?_
      refine x_iconst F.1 (i := 14) rfl ic_n1 ?_
      refine x_icmp_ne F.1 (i := 15) (tgt := 68) rfl (by decide) (fun c => ?_) (fun c => ?_)
      · replace h := if_F c h
        refine x_iinc F.1 (i := 39) rfl rfl rfl (Nat.le_of_ble_eq_true rfl) rfl ?_
        replace h := bd_e h
        refine x_goto F.1 (i := 40) (tgt := 7) rfl (by decide) ?_
        exact x_wk F.1 (ih _ _ _ _ h) ⟨rfl, rfl, rfl, rfl, trivial⟩
      · replace h := if_T c h
        refine x_iconst F.1 (i := 16) rfl ic_0 ?_
        refine x_istore F.1 (i := 17) rfl (Nat.le_of_ble_eq_true rfl) (Nat.le_of_ble_eq_true rfl) rfl ?_
        refine x_iconst F.1 (i := 18) rfl ic_0 ?_
        refine x_istore F.1 (i := 19) rfl (Nat.le_of_ble_eq_true rfl) (Nat.le_of_ble_eq_true rfl) rfl ?_
        exact x_wk F.1 ((t_Seen_bestColumn_l31 F hQ ih FU) _ _ _ _ _ _ h) ⟨rfl, rfl, rfl, rfl, rfl, rfl, trivial⟩
set_option maxHeartbeats 4000000 in
theorem t_Seen_bestColumn {w : kx_W} {d : Nat} {M : kx_M} {Q : Option Value → kx_M → Prop} {r : Int32} {M' : kx_M} (h : f_Seen_bestColumn M = some (r, M')) (hQ : Q (some (.int r)) M') : Ct w (d + 4) m_Seen_bestColumn [.ref 13] M Q := by
  refine mk_ct ok_Seen_bestColumn (Nat.le_of_ble_eq_true rfl) (fun G F => ?_)
  rw [f_Seen_bestColumn] at h
  show G 0 [some (.ref 13), none, none, none, none, none] [] M
  refine x_iconst F.1 (i := 0) rfl ic_n1 ?_
  refine x_istore_n F.1 (i := 1) rfl (Nat.le_of_ble_eq_true rfl) (Nat.le_of_ble_eq_true rfl) rfl ?_
  refine x_ldc F.1 (i := 2) rfl cn_Seen_61 ?_
  refine x_istore_n F.1 (i := 3) rfl (Nat.le_of_ble_eq_true rfl) (Nat.le_of_ble_eq_true rfl) rfl ?_
  refine x_iconst F.1 (i := 4) rfl ic_0 ?_
  refine x_istore_n F.1 (i := 5) rfl (Nat.le_of_ble_eq_true rfl) (Nat.le_of_ble_eq_true rfl) rfl ?_
  exact x_wk F.1 ((t_Seen_bestColumn_l7 F (res := (r, M')) hQ FU) _ _ _ _ h) ⟨rfl, rfl, rfl, rfl, trivial⟩
set_option maxHeartbeats 4000000 in
theorem t_KT_look {w : kx_W} {d : Nat} {M : kx_M} {Q : Option Value → kx_M → Prop} {p1 : Int32} {p2 : Int32} {r : Int32} {M' : kx_M} (h : f_KT_look p1 p2 M = some (r, M')) (hQ : Q (some (.int r)) M') : Ct w (d + 5) m_KT_look [.ref 0, .int p1, .int p2] M Q := by
  refine mk_ct ok_KT_look (Nat.le_of_ble_eq_true rfl) (fun G F => ?_)
  rw [f_KT_look] at h
  show G 0 [some (.ref 0), some (.int p1), some (.int p2)] [] M
  refine x_aload_n F.1 (i := 0) rfl rfl ?_
  refine x_aload_n F.1 (i := 1) rfl rfl ?_
  refine x_iload_n F.1 (i := 2) rfl rfl ?_
  refine x_iload_n F.1 (i := 3) rfl rfl ?_
  refine cal_e h (fun r1 M1 e2 h => ?_)
  refine x_cV2i F.1 (i := 4) rfl ml_KT_396 ok_KT_seenStatus rfl (Nat.le_of_ble_eq_true rfl) (Nat.le_of_ble_eq_true rfl) (fun _ => t_KT_seenStatus e2) ?_
  refine cal_e h (fun r3 M2 e4 h => ?_)
  refine x_cV1i F.1 (i := 5) rfl ml_KT_103 ok_KT_refused rfl (Nat.le_of_ble_eq_true rfl) (Nat.le_of_ble_eq_true rfl) (fun _ => t_KT_refused e4) ?_
  refine x_if_eq F.1 (i := 6) (tgt := 15) rfl (by decide) (fun c => ?_) (fun c => ?_)
  · replace h := if_T c h
    refine x_aload_n F.1 (i := 9) rfl rfl ?_
    refine x_iload_n F.1 (i := 10) rfl rfl ?_
    refine x_iload_n F.1 (i := 11) rfl rfl ?_
    refine cal_e h (fun r5 M3 e6 h => ?_)
    refine x_cV2v F.1 (i := 12) rfl ml_KT_399 ok_KT_lookAt rfl (Nat.le_of_ble_eq_true rfl) (Nat.le_of_ble_eq_true rfl) (fun _ => t_KT_lookAt e6) ?_
    refine x_aload_n F.1 (i := 13) rfl rfl ?_
    refine x_aload_n F.1 (i := 14) rfl rfl ?_
    refine x_getC F.1 (i := 15) rfl fl_KT_42 rfl (by rfl) ?_
    refine cal_e h (fun r7 M4 e8 h => ?_)
    refine x_cV0i F.1 (i := 16) rfl ml_KT_402 ok_Seen_count rfl (Nat.le_of_ble_eq_true rfl) (Nat.le_of_ble_eq_true rfl) (fun _ => t_Seen_count e8) ?_
    refine x_iconst F.1 (i := 17) rfl ic_2 ?_
    refine x_icmp_ge F.1 (i := 18) (tgt := 38) rfl (by decide) (fun c => ?_) (fun c => ?_)
    · replace h := if_T c h
      refine x_iconst F.1 (i := 21) rfl ic_0 ?_
      refine cal_e h (fun r9 M5 e10 h => ?_)
      refine x_cV1i F.1 (i := 22) rfl ml_KT_103 ok_KT_refused rfl (Nat.le_of_ble_eq_true rfl) (Nat.le_of_ble_eq_true rfl) (fun _ => t_KT_refused e10) ?_
      refine x_if_eq F.1 (i := 23) (tgt := 47) rfl (by decide) (fun c => ?_) (fun c => ?_)
      · replace h := if_T c h
        refine x_aload_n F.1 (i := 26) rfl rfl ?_
        refine x_getC F.1 (i := 27) rfl fl_KT_42 rfl (by rfl) ?_
        refine cal_e h (fun r11 M6 e12 h => ?_)
        refine x_cV0i F.1 (i := 28) rfl ml_KT_412 ok_Seen_bestColumn rfl (Nat.le_of_ble_eq_true rfl) (Nat.le_of_ble_eq_true rfl) (fun _ => t_Seen_bestColumn e12) ?_
        exact x_iretf F (i := 29) rfl rfl h (res := (r, M')) hQ
      · replace h := if_F c h
        refine x_iconst F.1 (i := 24) rfl ic_n1 ?_
        exact x_iretf F (i := 25) rfl rfl h (res := (r, M')) hQ
    · replace h := if_F c h
      refine x_bipush F.1 (i := 19) rfl bp_8 ?_
      refine x_goto F.1 (i := 20) (tgt := 39) rfl (by decide) ?_
      refine cal_e h (fun r13 M7 e14 h => ?_)
      refine x_cV1i F.1 (i := 22) rfl ml_KT_103 ok_KT_refused rfl (Nat.le_of_ble_eq_true rfl) (Nat.le_of_ble_eq_true rfl) (fun _ => t_KT_refused e14) ?_
      refine x_if_eq F.1 (i := 23) (tgt := 47) rfl (by decide) (fun c => ?_) (fun c => ?_)
      · replace h := if_T c h
        refine x_aload_n F.1 (i := 26) rfl rfl ?_
        refine x_getC F.1 (i := 27) rfl fl_KT_42 rfl (by rfl) ?_
        refine cal_e h (fun r15 M8 e16 h => ?_)
        refine x_cV0i F.1 (i := 28) rfl ml_KT_412 ok_Seen_bestColumn rfl (Nat.le_of_ble_eq_true rfl) (Nat.le_of_ble_eq_true rfl) (fun _ => t_Seen_bestColumn e16) ?_
        exact x_iretf F (i := 29) rfl rfl h (res := (r, M')) hQ
      · replace h := if_F c h
        refine x_iconst F.1 (i := 24) rfl ic_n1 ?_
        exact x_iretf F (i := 25) rfl rfl h (res := (r, M')) hQ
  · replace h := if_F c h
    refine x_iconst F.1 (i := 7) rfl ic_n1 ?_
    exact x_iretf F (i := 8) rfl rfl h (res := (r, M')) hQ
set_option maxHeartbeats 4000000 in
theorem t_Seen_onlyKind_l30 {w : kx_W} {d : Nat} {Q : Option Value → kx_M → Prop} {G : Nat → List (Option Value) → List Value → kx_M → Prop} (F : Sd w (d + 4) m_Seen_onlyKind Q G) {p1 : Int32} {res : Int32 × kx_M} (hQ : Q (some (.int res.1)) res.2) :
    ∀ (n : Nat) (x2 : Int32) (x3 : Int32) (M : kx_M),
    f_Seen_onlyKind_l30 p1 n x2 x3 M = some res → G 30 [some (.ref 13), some (.int p1), some (.int x2), some (.int x3)] [] M := by
  intro n
  induction n with
  | zero =>
    intro x2 x3 M h
    exact absurd h (by rw [f_Seen_onlyKind_l30]; exact fun z => nomatch z)
  | succ n ih =>
    intro x2 x3 M h
    rw [f_Seen_onlyKind_l30] at h
    refine x_iload_n F.1 (i := 20) rfl rfl ?_
    refine x_iconst F.1 (i := 21) rfl ic_4 ?_
    refine x_icmp_ge F.1 (i := 22) (tgt := 53) rfl (by decide) (fun c => ?_) (fun c => ?_)
    · replace h := if_T c h
      refine x_iconst F.1 (i := 33) rfl ic_n1 ?_
      exact x_iretf F (i := 34) rfl rfl h hQ
    · replace h := if_F c h
      refine x_aload_n F.1 (i := 23) rfl rfl ?_
      refine x_iload_n F.1 (i := 24) rfl rfl ?_
      refine x_iload_n F.1 (i := 25) rfl rfl ?_
      refine cal_e h (fun r1 M1 e2 h => ?_)
      refine x_cV2i F.1 (i := 26) rfl ml_Seen_62 ok_Seen_countWith rfl (Nat.le_of_ble_eq_true rfl) (Nat.le_of_ble_eq_true rfl) (fun _ => t_Seen_countWith e2) ?_
      refine x_iload_n F.1 (i := 27) rfl rfl ?_
      refine x_icmp_ne F.1 (i := 28) (tgt := 47) rfl (by decide) (fun c => ?_) (fun c => ?_)
      · replace h := if_F c h
        refine x_iinc F.1 (i := 31) rfl rfl rfl (Nat.le_of_ble_eq_true rfl) rfl ?_
        replace h := bd_e h
        refine x_goto F.1 (i := 32) (tgt := 30) rfl (by decide) ?_
        exact x_wk F.1 (ih _ _ _ h) ⟨rfl, rfl, rfl, rfl, trivial⟩
      · replace h := if_T c h
        refine x_iload_n F.1 (i := 29) rfl rfl ?_
        exact x_iretf F (i := 30) rfl rfl h hQ
set_option maxHeartbeats 4000000 in
theorem t_Seen_onlyKind {w : kx_W} {d : Nat} {M : kx_M} {Q : Option Value → kx_M → Prop} {p1 : Int32} {r : Int32} {M' : kx_M} (h : f_Seen_onlyKind p1 M = some (r, M')) (hQ : Q (some (.int r)) M') : Ct w (d + 4) m_Seen_onlyKind [.ref 13, .int p1] M Q := by
  refine mk_ct ok_Seen_onlyKind (Nat.le_of_ble_eq_true rfl) (fun G F => ?_)
  rw [f_Seen_onlyKind] at h
  show G 0 [some (.ref 13), some (.int p1), none, none] [] M
  refine x_aload_n F.1 (i := 0) rfl rfl ?_
  refine cal_e h (fun r1 M1 e2 h => ?_)
  refine x_cV0i F.1 (i := 1) rfl ml_Seen_57 ok_Seen_count rfl (Nat.le_of_ble_eq_true rfl) (Nat.le_of_ble_eq_true rfl) (fun _ => t_Seen_count e2) ?_
  refine x_istore_n F.1 (i := 2) rfl (Nat.le_of_ble_eq_true rfl) (Nat.le_of_ble_eq_true rfl) rfl ?_
  refine x_iload_n F.1 (i := 3) rfl rfl ?_
  refine x_if_ne F.1 (i := 4) (tgt := 11) rfl (by decide) (fun c => ?_) (fun c => ?_)
  · replace h := if_F c h
    refine x_aload_n F.1 (i := 7) rfl rfl ?_
    refine x_getC F.1 (i := 8) rfl fl_Seen_9 rfl (by rfl) ?_
    refine x_iload_n F.1 (i := 9) rfl rfl ?_
    refine gd_e h (fun g3 h => ?_)
    refine x_iald F.1 (i := 10) rfl rfl (inb_e g3) ?_
    refine x_iconst F.1 (i := 11) rfl ic_n1 ?_
    refine x_icmp_eq F.1 (i := 12) (tgt := 28) rfl (by decide) (fun c => ?_) (fun c => ?_)
    · replace h := if_T c h
      refine x_iconst F.1 (i := 18) rfl ic_0 ?_
      refine x_istore_n F.1 (i := 19) rfl (Nat.le_of_ble_eq_true rfl) (Nat.le_of_ble_eq_true rfl) rfl ?_
      exact x_wk F.1 ((t_Seen_onlyKind_l30 F (res := (r, M')) hQ FU) _ _ _ h) ⟨rfl, rfl, rfl, rfl, trivial⟩
    · replace h := if_F c h
      refine x_aload_n F.1 (i := 13) rfl rfl ?_
      refine x_getC F.1 (i := 14) rfl fl_Seen_9 rfl (by rfl) ?_
      refine x_iload_n F.1 (i := 15) rfl rfl ?_
      refine gd_e h (fun g4 h => ?_)
      refine x_iald F.1 (i := 16) rfl rfl (inb_e g4) ?_
      exact x_iretf F (i := 17) rfl rfl h (res := (r, M')) hQ
  · replace h := if_T c h
    refine x_iconst F.1 (i := 5) rfl ic_n1 ?_
    exact x_iretf F (i := 6) rfl rfl h (res := (r, M')) hQ
set_option maxHeartbeats 4000000 in
theorem t_KT_sure_l38 {w : kx_W} {d : Nat} {Q : Option Value → kx_M → Prop} {G : Nat → List (Option Value) → List Value → kx_M → Prop} (F : Sd w (d + 5) m_KT_sure Q G) {p1 : Int32} {p2 : Int32} {p3 : Int32} {res : Int32 × kx_M} (hQ : Q (some (.int res.1)) res.2) :
    ∀ (x4 : Int32) (M : kx_M),
    f_KT_sure_l38 p1 p2 p3 x4 M = some res → G 38 [some (.ref 0), some (.int p1), some (.int p2), some (.int p3), some (.int x4), none] [] M := by
  intro x4 M h
  rw [f_KT_sure_l38] at h
  refine x_aload_n F.1 (i := 20) rfl rfl ?_
  refine x_iload F.1 (i := 21) rfl rfl ?_
  refine cal_e h (fun r1 M1 e2 h => ?_)
  refine x_cV1i F.1 (i := 22) rfl ml_KT_103 ok_KT_refused rfl (Nat.le_of_ble_eq_true rfl) (Nat.le_of_ble_eq_true rfl) (fun _ => t_KT_refused e2) ?_
  refine x_if_eq F.1 (i := 23) (tgt := 49) rfl (by decide) (fun c => ?_) (fun c => ?_)
  · replace h := if_T c h
    refine x_aload_n F.1 (i := 26) rfl rfl ?_
    refine x_iload_n F.1 (i := 27) rfl rfl ?_
    refine x_iload_n F.1 (i := 28) rfl rfl ?_
    refine cal_e h (fun r3 M2 e4 h => ?_)
    refine x_cV2v F.1 (i := 29) rfl ml_KT_399 ok_KT_lookAt rfl (Nat.le_of_ble_eq_true rfl) (Nat.le_of_ble_eq_true rfl) (fun _ => t_KT_lookAt e4) ?_
    refine x_aload_n F.1 (i := 30) rfl rfl ?_
    refine x_getC F.1 (i := 31) rfl fl_KT_42 rfl (by rfl) ?_
    refine x_iload_n F.1 (i := 32) rfl rfl ?_
    refine cal_e h (fun r5 M3 e6 h => ?_)
    refine x_cV1i F.1 (i := 33) rfl ml_KT_415 ok_Seen_onlyKind rfl (Nat.le_of_ble_eq_true rfl) (Nat.le_of_ble_eq_true rfl) (fun _ => t_Seen_onlyKind e6) ?_
    refine x_istore F.1 (i := 34) rfl (Nat.le_of_ble_eq_true rfl) (Nat.le_of_ble_eq_true rfl) rfl ?_
    refine x_aload_n F.1 (i := 35) rfl rfl ?_
    refine x_iload F.1 (i := 36) rfl rfl ?_
    refine x_iconst F.1 (i := 37) rfl ic_n1 ?_
    refine x_icmp_ne F.1 (i := 38) (tgt := 77) rfl (by decide) (fun c => ?_) (fun c => ?_)
    · replace h := if_F c h
      refine x_iconst F.1 (i := 41) rfl ic_0 ?_
      refine x_putI F.1 (i := 42) rfl fl_KT_78 pf_KT_latest rfl (by rfl) ?_
      replace h := bd_e h
      refine x_iload F.1 (i := 43) rfl rfl ?_
      exact x_iretf F (i := 44) rfl rfl h hQ
    · replace h := if_T c h
      refine x_bipush F.1 (i := 39) rfl bp_8 ?_
      refine x_goto F.1 (i := 40) (tgt := 78) rfl (by decide) ?_
      refine x_putI F.1 (i := 42) rfl fl_KT_78 pf_KT_latest rfl (by rfl) ?_
      replace h := bd_e h
      refine x_iload F.1 (i := 43) rfl rfl ?_
      exact x_iretf F (i := 44) rfl rfl h hQ
  · replace h := if_F c h
    refine x_iconst F.1 (i := 24) rfl ic_n1 ?_
    exact x_iretf F (i := 25) rfl rfl h hQ
set_option maxHeartbeats 4000000 in
theorem t_KT_sure {w : kx_W} {d : Nat} {M : kx_M} {Q : Option Value → kx_M → Prop} {p1 : Int32} {p2 : Int32} {p3 : Int32} {r : Int32} {M' : kx_M} (h : f_KT_sure p1 p2 p3 M = some (r, M')) (hQ : Q (some (.int r)) M') : Ct w (d + 5) m_KT_sure [.ref 0, .int p1, .int p2, .int p3] M Q := by
  refine mk_ct ok_KT_sure (Nat.le_of_ble_eq_true rfl) (fun G F => ?_)
  rw [f_KT_sure] at h
  show G 0 [some (.ref 0), some (.int p1), some (.int p2), some (.int p3), none, none] [] M
  refine x_iconst F.1 (i := 0) rfl ic_0 ?_
  refine x_istore F.1 (i := 1) rfl (Nat.le_of_ble_eq_true rfl) (Nat.le_of_ble_eq_true rfl) rfl ?_
  refine x_iload_n F.1 (i := 2) rfl rfl ?_
  refine cal_e h (fun r1 M1 e2 h => ?_)
  refine x_cS1i F.1 (i := 3) rfl ml_KT_99 ok_KT_noTray (Nat.le_of_ble_eq_true rfl) (Nat.le_of_ble_eq_true rfl) (fun _ => t_KT_noTray e2) ?_
  refine x_if_eq F.1 (i := 4) (tgt := 16) rfl (by decide) (fun c => ?_) (fun c => ?_)
  · replace h := if_T c h
    refine x_aload_n F.1 (i := 8) rfl rfl ?_
    refine x_iload_n F.1 (i := 9) rfl rfl ?_
    refine cal_e h (fun r3 M2 e4 h => ?_)
    refine x_cV1i F.1 (i := 10) rfl ml_KT_228 ok_KT_noColumn rfl (Nat.le_of_ble_eq_true rfl) (Nat.le_of_ble_eq_true rfl) (fun _ => t_KT_noColumn e4) ?_
    refine x_if_eq F.1 (i := 11) (tgt := 30) rfl (by decide) (fun c => ?_) (fun c => ?_)
    · replace h := if_T c h
      refine x_aload_n F.1 (i := 15) rfl rfl ?_
      refine x_iload_n F.1 (i := 16) rfl rfl ?_
      refine x_iload_n F.1 (i := 17) rfl rfl ?_
      refine cal_e h (fun r5 M3 e6 h => ?_)
      refine x_cV2i F.1 (i := 18) rfl ml_KT_396 ok_KT_seenStatus rfl (Nat.le_of_ble_eq_true rfl) (Nat.le_of_ble_eq_true rfl) (fun _ => t_KT_seenStatus e6) ?_
      refine x_istore F.1 (i := 19) rfl (Nat.le_of_ble_eq_true rfl) (Nat.le_of_ble_eq_true rfl) rfl ?_
      exact x_wk F.1 ((t_KT_sure_l38 F (res := (r, M')) hQ) _ _ h) ⟨rfl, rfl, rfl, rfl, rfl, trivial⟩
    · replace h := if_F c h
      refine x_iconst F.1 (i := 12) rfl ic_2 ?_
      refine x_istore F.1 (i := 13) rfl (Nat.le_of_ble_eq_true rfl) (Nat.le_of_ble_eq_true rfl) rfl ?_
      refine x_goto F.1 (i := 14) (tgt := 38) rfl (by decide) ?_
      exact x_wk F.1 ((t_KT_sure_l38 F (res := (r, M')) hQ) _ _ h) ⟨rfl, rfl, rfl, rfl, rfl, trivial⟩
  · replace h := if_F c h
    refine x_iconst F.1 (i := 5) rfl ic_1 ?_
    refine x_istore F.1 (i := 6) rfl (Nat.le_of_ble_eq_true rfl) (Nat.le_of_ble_eq_true rfl) rfl ?_
    refine x_goto F.1 (i := 7) (tgt := 38) rfl (by decide) ?_
    exact x_wk F.1 ((t_KT_sure_l38 F (res := (r, M')) hQ) _ _ h) ⟨rfl, rfl, rfl, rfl, rfl, trivial⟩
set_option maxHeartbeats 4000000 in
theorem t_Life_behindEnd {w : kx_W} {d : Nat} {M : kx_M} {Q : Option Value → kx_M → Prop} {p0 : Nat} {p1 : Nat} {p2 : Int32} {r : Int32} {M' : kx_M} (hp0 : isLife p0 = true) (hp1 : isScript p1 = true) (h : f_Life_behindEnd p0 p1 p2 M = some (r, M')) (hQ : Q (some (.int r)) M') : Ct w d m_Life_behindEnd [.ref p0, .ref p1, .int p2] M Q := by
  refine mk_ct ok_Life_behindEnd (Nat.le_of_ble_eq_true rfl) (fun G F => ?_)
  rw [f_Life_behindEnd] at h
  show G 0 [some (.ref p0), some (.ref p1), some (.int p2), none] [] M
  refine x_aload_n F.1 (i := 0) rfl rfl ?_
  refine x_getC F.1 (i := 1) rfl fl_Life_66 (lk_Script hp1) (by rfl) ?_
  refine x_iload_n F.1 (i := 2) rfl rfl ?_
  refine gd_e h (fun g1 h => ?_)
  refine x_iald F.1 (i := 3) rfl (lk_Script_mates hp1) (inb_e g1) ?_
  refine x_istore_n F.1 (i := 4) rfl (Nat.le_of_ble_eq_true rfl) (Nat.le_of_ble_eq_true rfl) rfl ?_
  replace h := bd_e h
  refine x_aload_n F.1 (i := 5) rfl rfl ?_
  refine x_getC F.1 (i := 6) rfl fl_Life_43 (lk_Script hp1) (by rfl) ?_
  refine x_iload_n F.1 (i := 7) rfl rfl ?_
  refine gd_e h (fun g3 h => ?_)
  refine x_iald F.1 (i := 8) rfl (lk_Script_ops hp1) (inb_e g3) ?_
  refine x_bipush F.1 (i := 9) rfl bp_23 ?_
  refine x_icmp_ne F.1 (i := 10) (tgt := 41) rfl (by decide) (fun c => ?_) (fun c => ?_)
  · replace h := if_F c h
    refine x_iload_n F.1 (i := 28) rfl rfl ?_
    refine x_iconst F.1 (i := 29) rfl ic_1 ?_
    refine x_iadd F.1 (i := 30) rfl ?_
    exact x_iretf F (i := 31) rfl rfl h (res := (r, M')) hQ
  · replace h := if_T c h
    refine x_aload_n F.1 (i := 11) rfl rfl ?_
    refine x_getC F.1 (i := 12) rfl fl_Life_11 (lk_Life hp0) (by rfl) ?_
    refine x_iload_n F.1 (i := 13) rfl rfl ?_
    refine x_dup2 F.1 (i := 14) rfl rfl rfl ?_
    refine gd_e h (fun g4 h => ?_)
    refine x_iald F.1 (i := 15) rfl (lk_Life_left hp0) (inb_e g4) ?_
    refine x_iconst F.1 (i := 16) rfl ic_1 ?_
    refine x_isub F.1 (i := 17) rfl ?_
    refine gd_e h (fun g5 h => ?_)
    refine x_iast F.1 (i := 18) rfl (lk_Life_left hp0) (inb_e g5) ?_
    replace h := bd_e h
    refine x_aload_n F.1 (i := 19) rfl rfl ?_
    refine x_getC F.1 (i := 20) rfl fl_Life_11 (lk_Life hp0) (by rfl) ?_
    refine x_iload_n F.1 (i := 21) rfl rfl ?_
    refine gd_e h (fun g6 h => ?_)
    refine x_iald F.1 (i := 22) rfl (lk_Life_left hp0) (inb_e g6) ?_
    refine x_if_le F.1 (i := 23) (tgt := 41) rfl (by decide) (fun c => ?_) (fun c => ?_)
    · replace h := if_T c h
      refine x_iload_n F.1 (i := 28) rfl rfl ?_
      refine x_iconst F.1 (i := 29) rfl ic_1 ?_
      refine x_iadd F.1 (i := 30) rfl ?_
      exact x_iretf F (i := 31) rfl rfl h (res := (r, M')) hQ
    · replace h := if_F c h
      refine x_iload_n F.1 (i := 24) rfl rfl ?_
      refine x_iconst F.1 (i := 25) rfl ic_1 ?_
      refine x_iadd F.1 (i := 26) rfl ?_
      exact x_iretf F (i := 27) rfl rfl h (res := (r, M')) hQ
set_option maxHeartbeats 4000000 in
theorem t_Life_came {w : kx_W} {d : Nat} {M : kx_M} {Q : Option Value → kx_M → Prop} {p0 : Nat} {p1 : Int32} {r : Unit} {M' : kx_M} (hp0 : isLife p0 = true) (h : f_Life_came p0 p1 M = some (r, M')) (hQ : Q none M') : Ct w d m_Life_came [.ref p0, .int p1] M Q := by
  refine mk_ct ok_Life_came (Nat.le_of_ble_eq_true rfl) (fun G F => ?_)
  rw [f_Life_came] at h
  show G 0 [some (.ref p0), some (.int p1)] [] M
  refine x_aload_n F.1 (i := 0) rfl rfl ?_
  refine x_dup F.1 (i := 1) rfl rfl ?_
  refine x_getI F.1 (i := 2) rfl fl_Life_30 (lk_Life hp0) (by rfl) ?_
  refine x_iload_n F.1 (i := 3) rfl rfl ?_
  refine x_iadd F.1 (i := 4) rfl ?_
  refine x_putI F.1 (i := 5) rfl fl_Life_30 pf_Life_fresh (lk_Life hp0) (by rfl) ?_
  replace h := bd_e h
  refine x_iload_n F.1 (i := 6) rfl rfl ?_
  refine x_if_ne F.1 (i := 7) (tgt := 24) rfl (by decide) (fun c => ?_) (fun c => ?_)
  · replace h := if_F c h
    exact x_vretf F (i := 14) rfl rfl h (res := (r, M')) hQ
  · replace h := if_T c h
    refine x_aload_n F.1 (i := 8) rfl rfl ?_
    refine x_dup F.1 (i := 9) rfl rfl ?_
    refine x_getI F.1 (i := 10) rfl fl_Life_24 (lk_Life hp0) (by rfl) ?_
    refine x_iconst F.1 (i := 11) rfl ic_1 ?_
    refine x_iadd F.1 (i := 12) rfl ?_
    refine x_putI F.1 (i := 13) rfl fl_Life_24 pf_Life_missed (lk_Life hp0) (by rfl) ?_
    replace h := bd_e h
    exact x_vretf F (i := 14) rfl rfl h (res := (r, M')) hQ
set_option maxHeartbeats 4000000 in
theorem t_Life_patchOne {w : kx_W} {d : Nat} {M : kx_M} {Q : Option Value → kx_M → Prop} {p0 : Nat} {p1 : Nat} {p2 : Int32} {p3 : Int32} {r : Unit} {M' : kx_M} (hp0 : isLife p0 = true) (hp1 : isCloth p1 = true) (h : f_Life_patchOne p0 p1 p2 p3 M = some (r, M')) (hQ : Q none M') : Ct w (d + 2) m_Life_patchOne [.ref p0, .ref p1, .int p2, .int p3] M Q := by
  refine mk_ct ok_Life_patchOne (Nat.le_of_ble_eq_true rfl) (fun G F => ?_)
  rw [f_Life_patchOne] at h
  show G 0 [some (.ref p0), some (.ref p1), some (.int p2), some (.int p3)] [] M
  refine x_iload_n F.1 (i := 0) rfl rfl ?_
  refine x_aload_n F.1 (i := 1) rfl rfl ?_
  refine x_getI F.1 (i := 2) rfl fl_Life_75 (lk_Cloth hp1) (by rfl) ?_
  refine x_icmp_lt F.1 (i := 3) (tgt := 19) rfl (by decide) (fun c => ?_) (fun c => ?_)
  · replace h := if_T c h
    refine x_aload_n F.1 (i := 11) rfl rfl ?_
    refine x_iload_n F.1 (i := 12) rfl rfl ?_
    refine x_iload_n F.1 (i := 13) rfl rfl ?_
    refine cal_e h (fun r1 M1 e2 h => ?_)
    refine x_cV2i F.1 (i := 14) rfl ml_Life_119 ok_Cloth_patch (lk_Cloth hp1) (Nat.le_of_ble_eq_true rfl) (Nat.le_of_ble_eq_true rfl) (fun _ => t_Cloth_patch hp1 e2) ?_
    refine x_pop F.1 (i := 15) rfl rfl ?_
    refine x_aload_n F.1 (i := 16) rfl rfl ?_
    refine x_dup F.1 (i := 17) rfl rfl ?_
    refine x_getI F.1 (i := 18) rfl fl_Life_33 (lk_Life hp0) (by rfl) ?_
    refine x_iconst F.1 (i := 19) rfl ic_1 ?_
    refine x_iadd F.1 (i := 20) rfl ?_
    refine x_putI F.1 (i := 21) rfl fl_Life_33 pf_Life_darns (lk_Life hp0) (by rfl) ?_
    replace h := bd_e h
    exact x_vretf F (i := 22) rfl rfl h (res := (r, M')) hQ
  · replace h := if_F c h
    refine x_aload_n F.1 (i := 4) rfl rfl ?_
    refine x_dup F.1 (i := 5) rfl rfl ?_
    refine x_getI F.1 (i := 6) rfl fl_Life_24 (lk_Life hp0) (by rfl) ?_
    refine x_iconst F.1 (i := 7) rfl ic_1 ?_
    refine x_iadd F.1 (i := 8) rfl ?_
    refine x_putI F.1 (i := 9) rfl fl_Life_24 pf_Life_missed (lk_Life hp0) (by rfl) ?_
    replace h := bd_e h
    exact x_vretf F (i := 10) rfl rfl h (res := (r, M')) hQ
set_option maxHeartbeats 4000000 in
theorem t_Life_draw {w : kx_W} {d : Nat} {M : kx_M} {Q : Option Value → kx_M → Prop} {p0 : Nat} {p1 : Int32} {r : Int32} {M' : kx_M} (hp0 : isLife p0 = true) (h : f_Life_draw p0 p1 M = some (r, M')) (hQ : Q (some (.int r)) M') : Ct w d m_Life_draw [.ref p0, .int p1] M Q := by
  refine mk_ct ok_Life_draw (Nat.le_of_ble_eq_true rfl) (fun G F => ?_)
  rw [f_Life_draw] at h
  show G 0 [some (.ref p0), some (.int p1)] [] M
  refine x_aload_n F.1 (i := 0) rfl rfl ?_
  refine x_aload_n F.1 (i := 1) rfl rfl ?_
  refine x_getI F.1 (i := 2) rfl fl_Life_17 (lk_Life hp0) (by rfl) ?_
  refine x_sipush F.1 (i := 3) rfl sp_2971 ?_
  refine x_imul F.1 (i := 4) rfl ?_
  refine x_sipush F.1 (i := 5) rfl sp_10729 ?_
  refine x_iadd F.1 (i := 6) rfl ?_
  refine x_ldc F.1 (i := 7) rfl cn_Life_128 ?_
  refine x_irem F.1 (i := 8) (v := 0) rfl (by decide) ?_
  refine x_putI F.1 (i := 9) rfl fl_Life_17 pf_Life_seed (lk_Life hp0) (by rfl) ?_
  replace h := bd_e h
  refine x_iload_n F.1 (i := 10) rfl rfl ?_
  refine x_if_le F.1 (i := 11) (tgt := 35) rfl (by decide) (fun c => ?_) (fun c => ?_)
  · replace h := if_T c h
    refine x_iconst F.1 (i := 19) rfl ic_0 ?_
    exact x_iretf F (i := 20) rfl rfl h (res := (r, M')) hQ
  · replace h := if_F c h
    refine x_aload_n F.1 (i := 12) rfl rfl ?_
    refine x_getI F.1 (i := 13) rfl fl_Life_17 (lk_Life hp0) (by rfl) ?_
    refine x_bipush F.1 (i := 14) rfl bp_8 ?_
    refine x_idiv F.1 (i := 15) (v := 0) rfl (by decide) ?_
    refine x_iload_n F.1 (i := 16) rfl rfl ?_
    refine gd_e h (fun g1 h => ?_)
    refine x_irem F.1 (i := 17) (v := 0) rfl (nz_e g1) ?_
    refine x_goto F.1 (i := 18) (tgt := 36) rfl (by decide) ?_
    exact x_iretf F (i := 20) rfl rfl h (res := (r, M')) hQ
set_option maxHeartbeats 4000000 in
theorem t_Life_anyMoth {w : kx_W} {d : Nat} {M : kx_M} {Q : Option Value → kx_M → Prop} {p0 : Nat} {p1 : Nat} {r : Unit} {M' : kx_M} (hp0 : isLife p0 = true) (hp1 : isCloth p1 = true) (h : f_Life_anyMoth p0 p1 M = some (r, M')) (hQ : Q none M') : Ct w (d + 3) m_Life_anyMoth [.ref p0, .ref p1] M Q := by
  refine mk_ct ok_Life_anyMoth (Nat.le_of_ble_eq_true rfl) (fun G F => ?_)
  rw [f_Life_anyMoth] at h
  show G 0 [some (.ref p0), some (.ref p1), none, none] [] M
  refine x_aload_n F.1 (i := 0) rfl rfl ?_
  refine x_getI F.1 (i := 1) rfl fl_Life_75 (lk_Cloth hp1) (by rfl) ?_
  refine x_if_ne F.1 (i := 2) (tgt := 18) rfl (by decide) (fun c => ?_) (fun c => ?_)
  · replace h := if_F c h
    refine x_aload_n F.1 (i := 10) rfl rfl ?_
    refine x_aload_n F.1 (i := 11) rfl rfl ?_
    refine x_getI F.1 (i := 12) rfl fl_Life_75 (lk_Cloth hp1) (by rfl) ?_
    refine cal_e h (fun r1 M2 e2 h => ?_)
    refine x_cV1i F.1 (i := 13) rfl ml_Life_122 ok_Life_draw (lk_Life hp0) (Nat.le_of_ble_eq_true rfl) (Nat.le_of_ble_eq_true rfl) (fun _ => t_Life_draw hp0 e2) ?_
    refine x_istore_n F.1 (i := 14) rfl (Nat.le_of_ble_eq_true rfl) (Nat.le_of_ble_eq_true rfl) rfl ?_
    refine x_aload_n F.1 (i := 15) rfl rfl ?_
    refine x_aload_n F.1 (i := 16) rfl rfl ?_
    refine x_getI F.1 (i := 17) rfl fl_Life_125 (lk_Cloth hp1) (by rfl) ?_
    refine cal_e h (fun r3 M3 e4 h => ?_)
    refine x_cV1i F.1 (i := 18) rfl ml_Life_122 ok_Life_draw (lk_Life hp0) (Nat.le_of_ble_eq_true rfl) (Nat.le_of_ble_eq_true rfl) (fun _ => t_Life_draw hp0 e4) ?_
    refine x_istore_n F.1 (i := 19) rfl (Nat.le_of_ble_eq_true rfl) (Nat.le_of_ble_eq_true rfl) rfl ?_
    refine x_aload_n F.1 (i := 20) rfl rfl ?_
    refine x_aload_n F.1 (i := 21) rfl rfl ?_
    refine x_iload_n F.1 (i := 22) rfl rfl ?_
    refine x_iload_n F.1 (i := 23) rfl rfl ?_
    refine cal_e h (fun r5 M4 e6 h => ?_)
    refine x_cV2i F.1 (i := 24) rfl ml_Life_108 ok_Cloth_eat (lk_Cloth hp1) (Nat.le_of_ble_eq_true rfl) (Nat.le_of_ble_eq_true rfl) (fun _ => t_Cloth_eat hp1 e6) ?_
    refine cal_e h (fun r7 M5 e8 h => ?_)
    refine x_cV1v F.1 (i := 25) rfl ml_Life_104 ok_Life_came (lk_Life hp0) (Nat.le_of_ble_eq_true rfl) (Nat.le_of_ble_eq_true rfl) (fun _ => t_Life_came hp0 e8) ?_
    exact x_vretf F (i := 26) rfl rfl h (res := (r, M')) hQ
  · replace h := if_T c h
    refine x_aload_n F.1 (i := 3) rfl rfl ?_
    refine x_dup F.1 (i := 4) rfl rfl ?_
    refine x_getI F.1 (i := 5) rfl fl_Life_24 (lk_Life hp0) (by rfl) ?_
    refine x_iconst F.1 (i := 6) rfl ic_1 ?_
    refine x_iadd F.1 (i := 7) rfl ?_
    refine x_putI F.1 (i := 8) rfl fl_Life_24 pf_Life_missed (lk_Life hp0) (by rfl) ?_
    replace h := bd_e h
    exact x_vretf F (i := 9) rfl rfl h (res := (r, M')) hQ
set_option maxHeartbeats 4000000 in
theorem t_Life_act {w : kx_W} {d : Nat} {M : kx_M} {Q : Option Value → kx_M → Prop} {p0 : Nat} {p1 : Nat} {p2 : Int32} {p3 : Int32} {p4 : Int32} {r : Unit} {M' : kx_M} (hp0 : isLife p0 = true) (hp1 : isCloth p1 = true) (h : f_Life_act p0 p1 p2 p3 p4 M = some (r, M')) (hQ : Q none M') : Ct w (d + 4) m_Life_act [.ref p0, .ref p1, .int p2, .int p3, .int p4] M Q := by
  refine mk_ct ok_Life_act (Nat.le_of_ble_eq_true rfl) (fun G F => ?_)
  rw [f_Life_act] at h
  show G 0 [some (.ref p0), some (.ref p1), some (.int p2), some (.int p3), some (.int p4)] [] M
  refine x_iload_n F.1 (i := 0) rfl rfl ?_
  refine ite_e h (fun c14 h => ?_) (fun c14 h => ?_)
  · refine x_tabIn F.1 (i := 1) (tgt := 36) rfl (by rw [c14]; decide) (by rw [c14]; decide) (by rw [c14]; rfl) (by decide) ?_
    refine x_aload_n F.1 (i := 2) rfl rfl ?_
    refine x_getI F.1 (i := 3) rfl fl_Life_93 (lk_Cloth hp1) (by rfl) ?_
    refine x_iload_n F.1 (i := 4) rfl rfl ?_
    refine x_iadd F.1 (i := 5) rfl ?_
    refine x_sipush F.1 (i := 6) rfl sp_9999 ?_
    refine x_icmp_le F.1 (i := 7) (tgt := 61) rfl (by decide) (fun c => ?_) (fun c => ?_)
    · replace h := if_T c h
      refine x_aload_n F.1 (i := 15) rfl rfl ?_
      refine x_dup F.1 (i := 16) rfl rfl ?_
      refine x_getI F.1 (i := 17) rfl fl_Life_27 (lk_Life hp0) (by rfl) ?_
      refine x_iload_n F.1 (i := 18) rfl rfl ?_
      refine x_iadd F.1 (i := 19) rfl ?_
      refine x_putI F.1 (i := 20) rfl fl_Life_27 pf_Life_years (lk_Life hp0) (by rfl) ?_
      replace h := bd_e h
      refine x_aload_n F.1 (i := 21) rfl rfl ?_
      refine x_dup F.1 (i := 22) rfl rfl ?_
      refine x_getI F.1 (i := 23) rfl fl_Life_30 (lk_Life hp0) (by rfl) ?_
      refine x_aload_n F.1 (i := 24) rfl rfl ?_
      refine x_iload_n F.1 (i := 25) rfl rfl ?_
      refine cal_e h (fun r1 M2 e2 h => ?_)
      refine x_cV1i F.1 (i := 26) rfl ml_Life_96 ok_Cloth_passYears (lk_Cloth hp1) (Nat.le_of_ble_eq_true rfl) (Nat.le_of_ble_eq_true rfl) (fun _ => t_Cloth_passYears hp1 e2) ?_
      refine x_iadd F.1 (i := 27) rfl ?_
      refine x_putI F.1 (i := 28) rfl fl_Life_30 pf_Life_fresh (lk_Life hp0) (by rfl) ?_
      replace h := bd_e h
      refine x_goto F.1 (i := 29) (tgt := 159) rfl (by decide) ?_
      exact x_vretf F (i := 66) rfl rfl h (res := (r, M')) hQ
    · replace h := if_F c h
      refine x_aload_n F.1 (i := 8) rfl rfl ?_
      refine x_dup F.1 (i := 9) rfl rfl ?_
      refine x_getI F.1 (i := 10) rfl fl_Life_24 (lk_Life hp0) (by rfl) ?_
      refine x_iconst F.1 (i := 11) rfl ic_1 ?_
      refine x_iadd F.1 (i := 12) rfl ?_
      refine x_putI F.1 (i := 13) rfl fl_Life_24 pf_Life_missed (lk_Life hp0) (by rfl) ?_
      replace h := bd_e h
      refine x_goto F.1 (i := 14) (tgt := 159) rfl (by decide) ?_
      exact x_vretf F (i := 66) rfl rfl h (res := (r, M')) hQ
  refine ite_e h (fun c15 h => ?_) (fun c15 h => ?_)
  · refine x_tabIn F.1 (i := 1) (tgt := 88) rfl (by rw [c15]; decide) (by rw [c15]; decide) (by rw [c15]; rfl) (by decide) ?_
    refine x_aload_n F.1 (i := 30) rfl rfl ?_
    refine x_iload_n F.1 (i := 31) rfl rfl ?_
    refine x_aload_n F.1 (i := 32) rfl rfl ?_
    refine x_getI F.1 (i := 33) rfl fl_Life_75 (lk_Cloth hp1) (by rfl) ?_
    refine x_icmp_ge F.1 (i := 34) (tgt := 107) rfl (by decide) (fun c => ?_) (fun c => ?_)
    · replace h := if_T c h
      refine x_iconst F.1 (i := 40) rfl ic_0 ?_
      refine cal_e h (fun r3 M5 e4 h => ?_)
      refine x_cV1v F.1 (i := 41) rfl ml_Life_104 ok_Life_came (lk_Life hp0) (Nat.le_of_ble_eq_true rfl) (Nat.le_of_ble_eq_true rfl) (fun _ => t_Life_came hp0 e4) ?_
      refine x_goto F.1 (i := 42) (tgt := 159) rfl (by decide) ?_
      exact x_vretf F (i := 66) rfl rfl h (res := (r, M')) hQ
    · replace h := if_F c h
      refine x_aload_n F.1 (i := 35) rfl rfl ?_
      refine x_iload_n F.1 (i := 36) rfl rfl ?_
      refine x_iload F.1 (i := 37) rfl rfl ?_
      refine cal_e h (fun r5 M6 e6 h => ?_)
      refine x_cV2i F.1 (i := 38) rfl ml_Life_100 ok_Cloth_pullThread (lk_Cloth hp1) (Nat.le_of_ble_eq_true rfl) (Nat.le_of_ble_eq_true rfl) (fun _ => t_Cloth_pullThread hp1 e6) ?_
      refine x_goto F.1 (i := 39) (tgt := 108) rfl (by decide) ?_
      refine cal_e h (fun r7 M7 e8 h => ?_)
      refine x_cV1v F.1 (i := 41) rfl ml_Life_104 ok_Life_came (lk_Life hp0) (Nat.le_of_ble_eq_true rfl) (Nat.le_of_ble_eq_true rfl) (fun _ => t_Life_came hp0 e8) ?_
      refine x_goto F.1 (i := 42) (tgt := 159) rfl (by decide) ?_
      exact x_vretf F (i := 66) rfl rfl h (res := (r, M')) hQ
  refine ite_e h (fun c16 h => ?_) (fun c16 h => ?_)
  · refine x_tabIn F.1 (i := 1) (tgt := 114) rfl (by rw [c16]; decide) (by rw [c16]; decide) (by rw [c16]; rfl) (by decide) ?_
    refine x_aload_n F.1 (i := 43) rfl rfl ?_
    refine x_iload_n F.1 (i := 44) rfl rfl ?_
    refine x_aload_n F.1 (i := 45) rfl rfl ?_
    refine x_getI F.1 (i := 46) rfl fl_Life_75 (lk_Cloth hp1) (by rfl) ?_
    refine x_icmp_ge F.1 (i := 47) (tgt := 133) rfl (by decide) (fun c => ?_) (fun c => ?_)
    · replace h := if_T c h
      refine x_iconst F.1 (i := 53) rfl ic_0 ?_
      refine cal_e h (fun r9 M8 e10 h => ?_)
      refine x_cV1v F.1 (i := 54) rfl ml_Life_104 ok_Life_came (lk_Life hp0) (Nat.le_of_ble_eq_true rfl) (Nat.le_of_ble_eq_true rfl) (fun _ => t_Life_came hp0 e10) ?_
      refine x_goto F.1 (i := 55) (tgt := 159) rfl (by decide) ?_
      exact x_vretf F (i := 66) rfl rfl h (res := (r, M')) hQ
    · replace h := if_F c h
      refine x_aload_n F.1 (i := 48) rfl rfl ?_
      refine x_iload_n F.1 (i := 49) rfl rfl ?_
      refine x_iload F.1 (i := 50) rfl rfl ?_
      refine cal_e h (fun r11 M9 e12 h => ?_)
      refine x_cV2i F.1 (i := 51) rfl ml_Life_108 ok_Cloth_eat (lk_Cloth hp1) (Nat.le_of_ble_eq_true rfl) (Nat.le_of_ble_eq_true rfl) (fun _ => t_Cloth_eat hp1 e12) ?_
      refine x_goto F.1 (i := 52) (tgt := 134) rfl (by decide) ?_
      refine cal_e h (fun r13 M10 e14 h => ?_)
      refine x_cV1v F.1 (i := 54) rfl ml_Life_104 ok_Life_came (lk_Life hp0) (Nat.le_of_ble_eq_true rfl) (Nat.le_of_ble_eq_true rfl) (fun _ => t_Life_came hp0 e14) ?_
      refine x_goto F.1 (i := 55) (tgt := 159) rfl (by decide) ?_
      exact x_vretf F (i := 66) rfl rfl h (res := (r, M')) hQ
  refine ite_e h (fun c17 h => ?_) (fun c17 h => ?_)
  · refine x_tabIn F.1 (i := 1) (tgt := 140) rfl (by rw [c17]; decide) (by rw [c17]; decide) (by rw [c17]; rfl) (by decide) ?_
    refine x_aload_n F.1 (i := 56) rfl rfl ?_
    refine x_aload_n F.1 (i := 57) rfl rfl ?_
    refine x_iload_n F.1 (i := 58) rfl rfl ?_
    refine x_iload F.1 (i := 59) rfl rfl ?_
    refine cal_e h (fun r15 M11 e16 h => ?_)
    refine x_cV3v F.1 (i := 60) rfl ml_Life_111 ok_Life_patchOne (lk_Life hp0) (Nat.le_of_ble_eq_true rfl) (Nat.le_of_ble_eq_true rfl) (fun _ => t_Life_patchOne hp0 hp1 e16) ?_
    refine x_goto F.1 (i := 61) (tgt := 159) rfl (by decide) ?_
    exact x_vretf F (i := 66) rfl rfl h (res := (r, M')) hQ
  refine ite_e h (fun c18 h => ?_) (fun c18 h => ?_)
  · refine x_tabIn F.1 (i := 1) (tgt := 151) rfl (by rw [c18]; decide) (by rw [c18]; decide) (by rw [c18]; rfl) (by decide) ?_
    refine x_aload_n F.1 (i := 62) rfl rfl ?_
    refine x_aload_n F.1 (i := 63) rfl rfl ?_
    refine cal_e h (fun r17 M12 e18 h => ?_)
    refine x_cV1v F.1 (i := 64) rfl ml_Life_115 ok_Life_anyMoth (lk_Life hp0) (Nat.le_of_ble_eq_true rfl) (Nat.le_of_ble_eq_true rfl) (fun _ => t_Life_anyMoth hp0 hp1 e18) ?_
    refine x_goto F.1 (i := 65) (tgt := 159) rfl (by decide) ?_
    exact x_vretf F (i := 66) rfl rfl h (res := (r, M')) hQ
  have c14z := ne_toInt (z := 14) c14 (by decide)
  have c15z := ne_toInt (z := 15) c15 (by decide)
  have c16z := ne_toInt (z := 16) c16 (by decide)
  have c17z := ne_toInt (z := 17) c17 (by decide)
  have c18z := ne_toInt (z := 18) c18 (by decide)
  refine x_tabOut F.1 (i := 1) (tgt := 159) rfl (by omega) (by decide) ?_
  exact x_vretf F (i := 66) rfl rfl h (res := (r, M')) hQ
set_option maxHeartbeats 4000000 in
theorem t_Cloth_wholeRow_l2 {w : kx_W} {d : Nat} {Q : Option Value → kx_M → Prop} {G : Nat → List (Option Value) → List Value → kx_M → Prop} (F : Sd w (d + 1) m_Cloth_wholeRow Q G) {p0 : Nat} {p1 : Int32} (hp0 : isCloth p0 = true) {res : Int32 × kx_M} (hQ : Q (some (.int res.1)) res.2) :
    ∀ (n : Nat) (x2 : Int32) (M : kx_M),
    f_Cloth_wholeRow_l2 p0 p1 n x2 M = some res → G 2 [some (.ref p0), some (.int p1), some (.int x2)] [] M := by
  intro n
  induction n with
  | zero =>
    intro x2 M h
    exact absurd h (by rw [f_Cloth_wholeRow_l2]; exact fun z => nomatch z)
  | succ n ih =>
    intro x2 M h
    rw [f_Cloth_wholeRow_l2] at h
    refine x_iload_n F.1 (i := 2) rfl rfl ?_
    refine x_aload_n F.1 (i := 3) rfl rfl ?_
    refine x_getI F.1 (i := 4) rfl fl_Cloth_27 (lk_Cloth hp0) (by rfl) ?_
    refine x_icmp_ge F.1 (i := 5) (tgt := 32) rfl (by decide) (fun c => ?_) (fun c => ?_)
    · replace h := if_T c h
      refine x_iconst F.1 (i := 18) rfl ic_1 ?_
      exact x_zretf F (i := 19) rfl rfl (Or.inr rfl) h hQ
    · replace h := if_F c h
      refine x_aload_n F.1 (i := 6) rfl rfl ?_
      refine x_getC F.1 (i := 7) rfl fl_Cloth_21 (lk_Cloth hp0) (by rfl) ?_
      refine x_iload_n F.1 (i := 8) rfl rfl ?_
      refine x_iload_n F.1 (i := 9) rfl rfl ?_
      refine cal_e h (fun r1 M1 e2 h => ?_)
      refine x_cS2i F.1 (i := 10) rfl ml_Cloth_46 ok_Cloth_at (Nat.le_of_ble_eq_true rfl) (Nat.le_of_ble_eq_true rfl) (fun _ => t_Cloth_at e2) ?_
      refine gd_e h (fun g3 h => ?_)
      refine x_iald F.1 (i := 11) rfl (lk_Cloth_undone hp0) (inb_e g3) ?_
      refine x_iconst F.1 (i := 12) rfl ic_1 ?_
      refine x_icmp_ne F.1 (i := 13) (tgt := 26) rfl (by decide) (fun c => ?_) (fun c => ?_)
      · replace h := if_F c h
        refine x_iinc F.1 (i := 16) rfl rfl rfl (Nat.le_of_ble_eq_true rfl) rfl ?_
        replace h := bd_e h
        refine x_goto F.1 (i := 17) (tgt := 2) rfl (by decide) ?_
        exact x_wk F.1 (ih _ _ h) ⟨rfl, rfl, rfl, trivial⟩
      · replace h := if_T c h
        refine x_iconst F.1 (i := 14) rfl ic_0 ?_
        exact x_zretf F (i := 15) rfl rfl (Or.inl rfl) h hQ
set_option maxHeartbeats 4000000 in
theorem t_Cloth_wholeRow {w : kx_W} {d : Nat} {M : kx_M} {Q : Option Value → kx_M → Prop} {p0 : Nat} {p1 : Int32} {r : Int32} {M' : kx_M} (hp0 : isCloth p0 = true) (h : f_Cloth_wholeRow p0 p1 M = some (r, M')) (hQ : Q (some (.int r)) M') : Ct w (d + 1) m_Cloth_wholeRow [.ref p0, .int p1] M Q := by
  refine mk_ct ok_Cloth_wholeRow (Nat.le_of_ble_eq_true rfl) (fun G F => ?_)
  rw [f_Cloth_wholeRow] at h
  show G 0 [some (.ref p0), some (.int p1), none] [] M
  refine x_iconst F.1 (i := 0) rfl ic_0 ?_
  refine x_istore_n F.1 (i := 1) rfl (Nat.le_of_ble_eq_true rfl) (Nat.le_of_ble_eq_true rfl) rfl ?_
  exact x_wk F.1 ((t_Cloth_wholeRow_l2 F hp0 (res := (r, M')) hQ FU) _ _ h) ⟨rfl, rfl, rfl, trivial⟩
set_option maxHeartbeats 4000000 in
theorem t_Life_compares {w : kx_W} {d : Nat} {M : kx_M} {Q : Option Value → kx_M → Prop} {p0 : Int32} {p1 : Int32} {p2 : Int32} {r : Int32} {M' : kx_M} (h : f_Life_compares p0 p1 p2 M = some (r, M')) (hQ : Q (some (.int r)) M') : Ct w d m_Life_compares [.int p0, .int p1, .int p2] M Q := by
  refine mk_ct ok_Life_compares (Nat.le_of_ble_eq_true rfl) (fun G F => ?_)
  rw [f_Life_compares] at h
  show G 0 [some (.int p0), some (.int p1), some (.int p2)] [] M
  refine x_iload_n F.1 (i := 0) rfl rfl ?_
  refine x_bipush F.1 (i := 1) rfl bp_60 ?_
  refine x_icmp_ne F.1 (i := 2) (tgt := 17) rfl (by decide) (fun c => ?_) (fun c => ?_)
  · replace h := if_F c h
    refine x_iload_n F.1 (i := 10) rfl rfl ?_
    refine x_bipush F.1 (i := 11) rfl bp_62 ?_
    refine x_icmp_ne F.1 (i := 12) (tgt := 36) rfl (by decide) (fun c => ?_) (fun c => ?_)
    · replace h := if_F c h
      refine x_iload_n F.1 (i := 20) rfl rfl ?_
      refine x_iload_n F.1 (i := 21) rfl rfl ?_
      refine x_icmp_ne F.1 (i := 22) (tgt := 45) rfl (by decide) (fun c => ?_) (fun c => ?_)
      · replace h := if_F c h
        refine x_iconst F.1 (i := 25) rfl ic_0 ?_
        exact x_zretf F (i := 26) rfl rfl (Or.inl rfl) h (res := (r, M')) hQ
      · replace h := if_T c h
        refine x_iconst F.1 (i := 23) rfl ic_1 ?_
        refine x_goto F.1 (i := 24) (tgt := 46) rfl (by decide) ?_
        exact x_zretf F (i := 26) rfl rfl (Or.inr rfl) h (res := (r, M')) hQ
    · replace h := if_T c h
      refine x_iload_n F.1 (i := 13) rfl rfl ?_
      refine x_iload_n F.1 (i := 14) rfl rfl ?_
      refine x_icmp_le F.1 (i := 15) (tgt := 32) rfl (by decide) (fun c => ?_) (fun c => ?_)
      · replace h := if_T c h
        refine x_iconst F.1 (i := 18) rfl ic_0 ?_
        refine x_goto F.1 (i := 19) (tgt := 46) rfl (by decide) ?_
        exact x_zretf F (i := 26) rfl rfl (Or.inl rfl) h (res := (r, M')) hQ
      · replace h := if_F c h
        refine x_iconst F.1 (i := 16) rfl ic_1 ?_
        refine x_goto F.1 (i := 17) (tgt := 46) rfl (by decide) ?_
        exact x_zretf F (i := 26) rfl rfl (Or.inr rfl) h (res := (r, M')) hQ
  · replace h := if_T c h
    refine x_iload_n F.1 (i := 3) rfl rfl ?_
    refine x_iload_n F.1 (i := 4) rfl rfl ?_
    refine x_icmp_ge F.1 (i := 5) (tgt := 15) rfl (by decide) (fun c => ?_) (fun c => ?_)
    · replace h := if_T c h
      refine x_iconst F.1 (i := 8) rfl ic_0 ?_
      exact x_zretf F (i := 9) rfl rfl (Or.inl rfl) h (res := (r, M')) hQ
    · replace h := if_F c h
      refine x_iconst F.1 (i := 6) rfl ic_1 ?_
      refine x_goto F.1 (i := 7) (tgt := 16) rfl (by decide) ?_
      exact x_zretf F (i := 9) rfl rfl (Or.inr rfl) h (res := (r, M')) hQ
