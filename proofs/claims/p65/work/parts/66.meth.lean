set_option maxHeartbeats 4000000 in
theorem t_TreatyText_readRow_l102 {w : kx_W} {d : Nat} {Q : Option Value → kx_M → Prop} {G : Nat → List (Option Value) → List Value → kx_M → Prop} (F : Sd w (d + 3) m_TreatyText_readRow Q G) {p1 : Nat} (hp1 : isState p1 = true) {res : Int32 × kx_M} (hQ : Q (some (.int res.1)) res.2) :
    ∀ (x2 : Nat) (x3 : Int32) (x4 : Int32) (hx2 : isCloth x2 = true) (M : kx_M),
    f_TreatyText_readRow_l102 p1 x2 x3 x4 M = some res → G 102 [some (.ref 4), none, some (.ref x2), some (.int x3), some (.int x4), none] [] M := by
  intro x2 x3 x4 hx2 M h
  rw [f_TreatyText_readRow_l102] at h
  refine x_iload F.1 (i := 52) rfl rfl ?_
  refine x_aload_n F.1 (i := 53) rfl rfl ?_
  refine x_getI F.1 (i := 54) rfl fl_TreatyText_101 (lk_Cloth hx2) (by rfl) ?_
  refine x_icmp_ge F.1 (i := 55) (tgt := 120) rfl (by decide) (fun c => ?_) (fun c => ?_)
  · replace h := if_T c h
    refine x_aload_n F.1 (i := 61) rfl rfl ?_
    refine x_iload_n F.1 (i := 62) rfl rfl ?_
    refine cal_e h (fun r1 M1 e2 h => ?_)
    refine x_cV1v F.1 (i := 63) rfl ml_TreatyText_176 ok_Cloth_closeRow (lk_Cloth hx2) (Nat.le_of_ble_eq_true rfl) (Nat.le_of_ble_eq_true rfl) (fun _ => t_Cloth_closeRow hx2 e2) ?_
    refine x_iconst F.1 (i := 64) rfl ic_1 ?_
    exact x_zretf F (i := 65) rfl rfl (Or.inr rfl) h hQ
  · replace h := if_F c h
    refine x_aload_n F.1 (i := 56) rfl rfl ?_
    refine x_getC F.1 (i := 57) rfl fl_TreatyText_12 rfl (by rfl) ?_
    refine x_iconst F.1 (i := 58) rfl ic_2 ?_
    refine cal_e h (fun r3 M2 e4 h => ?_)
    refine x_cV1i F.1 (i := 59) rfl ml_TreatyText_74 ok_Reader_fail (lk_Reader (show isReader 5 = true from rfl)) (Nat.le_of_ble_eq_true rfl) (Nat.le_of_ble_eq_true rfl) (fun _ => t_Reader_fail (show isReader 5 = true from rfl) e4) ?_
    refine gd_e h (fun g5 h => ?_)
    exact x_zretf F (i := 60) rfl rfl (b01_e g5) h hQ
set_option maxHeartbeats 4000000 in
theorem t_TreatyText_readRow_l60 {w : kx_W} {d : Nat} {Q : Option Value → kx_M → Prop} {G : Nat → List (Option Value) → List Value → kx_M → Prop} (F : Sd w (d + 3) m_TreatyText_readRow Q G) {p1 : Nat} (hp1 : isState p1 = true) {res : Int32 × kx_M} (hQ : Q (some (.int res.1)) res.2) :
    ∀ (n : Nat) (x2 : Nat) (x3 : Int32) (x4 : Int32) (x5 : Int32) (hx2 : isCloth x2 = true) (M : kx_M),
    f_TreatyText_readRow_l60 p1 n x2 x3 x4 x5 M = some res → G 60 [some (.ref 4), none, some (.ref x2), some (.int x3), some (.int x4), some (.int x5)] [] M := by
  intro n
  induction n with
  | zero =>
    intro x2 x3 x4 x5 hx2 M h
    exact absurd h (by rw [f_TreatyText_readRow_l60]; exact fun z => nomatch z)
  | succ n ih =>
    intro x2 x3 x4 x5 hx2 M h
    rw [f_TreatyText_readRow_l60] at h
    refine x_iload F.1 (i := 32) rfl rfl ?_
    refine x_aload_n F.1 (i := 33) rfl rfl ?_
    refine x_getI F.1 (i := 34) rfl fl_TreatyText_101 (lk_Cloth hx2) (by rfl) ?_
    refine x_icmp_gt F.1 (i := 35) (tgt := 102) rfl (by decide) (fun c => ?_) (fun c => ?_)
    · replace h := if_T c h
      exact x_wk F.1 ((t_TreatyText_readRow_l102 F hp1 hQ) _ _ _ hx2 _ h) ⟨rfl, rfl, rfl, rfl, trivial⟩
    · replace h := if_F c h
      refine x_aload_n F.1 (i := 36) rfl rfl ?_
      refine x_getC F.1 (i := 37) rfl fl_TreatyText_12 rfl (by rfl) ?_
      refine cal_e h (fun r1 M1 e2 h => ?_)
      refine x_cV0i F.1 (i := 38) rfl ml_TreatyText_144 ok_Reader_atKind (lk_Reader (show isReader 5 = true from rfl)) (Nat.le_of_ble_eq_true rfl) (Nat.le_of_ble_eq_true rfl) (fun _ => t_Reader_atKind (show isReader 5 = true from rfl) e2) ?_
      refine x_if_eq F.1 (i := 39) (tgt := 102) rfl (by decide) (fun c => ?_) (fun c => ?_)
      · replace h := if_T c h
        exact x_wk F.1 ((t_TreatyText_readRow_l102 F hp1 hQ) _ _ _ hx2 _ h) ⟨rfl, rfl, rfl, rfl, trivial⟩
      · replace h := if_F c h
        refine x_aload_n F.1 (i := 40) rfl rfl ?_
        refine x_aload_n F.1 (i := 41) rfl rfl ?_
        refine x_iload F.1 (i := 42) rfl rfl ?_
        refine cal_e h (fun r3 M2 e4 h => ?_)
        refine x_cV2i F.1 (i := 43) rfl ml_TreatyText_172 ok_TreatyText_readRun rfl (Nat.le_of_ble_eq_true rfl) (Nat.le_of_ble_eq_true rfl) (fun _ => t_TreatyText_readRun hx2 e4) ?_
        refine x_istore F.1 (i := 44) rfl (Nat.le_of_ble_eq_true rfl) (Nat.le_of_ble_eq_true rfl) rfl ?_
        refine x_iload F.1 (i := 45) rfl rfl ?_
        refine x_iconst F.1 (i := 46) rfl ic_n1 ?_
        refine x_icmp_ne F.1 (i := 47) (tgt := 96) rfl (by decide) (fun c => ?_) (fun c => ?_)
        · replace h := if_F c h
          refine x_iinc F.1 (i := 50) rfl rfl rfl (Nat.le_of_ble_eq_true rfl) rfl ?_
          replace h := bd_e h
          refine x_goto F.1 (i := 51) (tgt := 60) rfl (by decide) ?_
          exact x_wk F.1 (ih _ _ _ _ hx2 _ h) ⟨rfl, rfl, rfl, rfl, rfl, trivial⟩
        · replace h := if_T c h
          refine x_iconst F.1 (i := 48) rfl ic_0 ?_
          exact x_zretf F (i := 49) rfl rfl (Or.inl rfl) h hQ
set_option maxHeartbeats 4000000 in
theorem t_TreatyText_readRow {w : kx_W} {d : Nat} {M : kx_M} {Q : Option Value → kx_M → Prop} {p1 : Nat} {r : Int32} {M' : kx_M} (hp1 : isState p1 = true) (h : f_TreatyText_readRow p1 M = some (r, M')) (hQ : Q (some (.int r)) M') : Ct w (d + 3) m_TreatyText_readRow [.ref 4, .ref p1] M Q := by
  refine mk_ct ok_TreatyText_readRow (Nat.le_of_ble_eq_true rfl) (fun G F => ?_)
  rw [f_TreatyText_readRow] at h
  show G 0 [some (.ref 4), some (.ref p1), none, none, none, none] [] M
  refine x_aload_n F.1 (i := 0) rfl rfl ?_
  refine x_getC F.1 (i := 1) rfl fl_TreatyText_77 (lk_State hp1) (by rfl) ?_
  refine x_astore_n F.1 (i := 2) rfl (Nat.le_of_ble_eq_true rfl) (Nat.le_of_ble_eq_true rfl) rfl ?_
  replace h := bd_e h
  refine x_aload_n F.1 (i := 3) rfl rfl ?_
  refine x_getI F.1 (i := 4) rfl fl_TreatyText_81 (lk_Cloth (lD_State_cloth hp1)) (by rfl) ?_
  refine x_bipush F.1 (i := 5) rfl bp_12 ?_
  refine x_icmp_lt F.1 (i := 6) (tgt := 24) rfl (by decide) (fun c => ?_) (fun c => ?_)
  · replace h := if_T c h
    refine x_aload_n F.1 (i := 12) rfl rfl ?_
    refine x_getC F.1 (i := 13) rfl fl_TreatyText_12 rfl (by rfl) ?_
    refine cal_e h (fun r2 M1 e3 h => ?_)
    refine x_cV0v F.1 (i := 14) rfl ml_TreatyText_91 ok_Reader_next (lk_Reader (show isReader 5 = true from rfl)) (Nat.le_of_ble_eq_true rfl) (Nat.le_of_ble_eq_true rfl) (fun _ => t_Reader_next (show isReader 5 = true from rfl) e3) ?_
    refine x_aload_n F.1 (i := 15) rfl rfl ?_
    refine x_aload_n F.1 (i := 16) rfl rfl ?_
    refine x_getC F.1 (i := 17) rfl fl_TreatyText_53 (lk_State hp1) (by rfl) ?_
    refine cal_e h (fun r4 M2 e5 h => ?_)
    refine x_cV1i F.1 (i := 18) rfl ml_TreatyText_162 ok_TreatyText_readQueenName rfl (Nat.le_of_ble_eq_true rfl) (Nat.le_of_ble_eq_true rfl) (fun _ => t_TreatyText_readQueenName (lD_State_deal hp1) e5) ?_
    refine x_istore_n F.1 (i := 19) rfl (Nat.le_of_ble_eq_true rfl) (Nat.le_of_ble_eq_true rfl) rfl ?_
    refine x_iload_n F.1 (i := 20) rfl rfl ?_
    refine x_iconst F.1 (i := 21) rfl ic_n1 ?_
    refine x_icmp_ne F.1 (i := 22) (tgt := 47) rfl (by decide) (fun c => ?_) (fun c => ?_)
    · replace h := if_F c h
      refine x_aload_n F.1 (i := 25) rfl rfl ?_
      refine x_getC F.1 (i := 26) rfl fl_TreatyText_12 rfl (by rfl) ?_
      refine cal_e h (fun r6 M3 e7 h => ?_)
      refine x_cV0v F.1 (i := 27) rfl ml_TreatyText_91 ok_Reader_next (lk_Reader (show isReader 5 = true from rfl)) (Nat.le_of_ble_eq_true rfl) (Nat.le_of_ble_eq_true rfl) (fun _ => t_Reader_next (show isReader 5 = true from rfl) e7) ?_
      refine x_iconst F.1 (i := 28) rfl ic_0 ?_
      refine x_istore F.1 (i := 29) rfl (Nat.le_of_ble_eq_true rfl) (Nat.le_of_ble_eq_true rfl) rfl ?_
      refine x_iconst F.1 (i := 30) rfl ic_0 ?_
      refine x_istore F.1 (i := 31) rfl (Nat.le_of_ble_eq_true rfl) (Nat.le_of_ble_eq_true rfl) rfl ?_
      exact x_wk F.1 ((t_TreatyText_readRow_l60 F hp1 (res := (r, M')) hQ FU) _ _ _ _ (lD_State_cloth hp1) _ h) ⟨rfl, rfl, rfl, rfl, rfl, trivial⟩
    · replace h := if_T c h
      refine x_iconst F.1 (i := 23) rfl ic_0 ?_
      exact x_zretf F (i := 24) rfl rfl (Or.inl rfl) h (res := (r, M')) hQ
  · replace h := if_F c h
    refine x_aload_n F.1 (i := 7) rfl rfl ?_
    refine x_getC F.1 (i := 8) rfl fl_TreatyText_12 rfl (by rfl) ?_
    refine x_bipush F.1 (i := 9) rfl bp_6 ?_
    refine cal_e h (fun r8 M4 e9 h => ?_)
    refine x_cV1i F.1 (i := 10) rfl ml_TreatyText_74 ok_Reader_fail (lk_Reader (show isReader 5 = true from rfl)) (Nat.le_of_ble_eq_true rfl) (Nat.le_of_ble_eq_true rfl) (fun _ => t_Reader_fail (show isReader 5 = true from rfl) e9) ?_
    refine gd_e h (fun g10 h => ?_)
    exact x_zretf F (i := 11) rfl rfl (b01_e g10) h (res := (r, M')) hQ
set_option maxHeartbeats 4000000 in
theorem t_TreatyText_readPart_l191 {w : kx_W} {d : Nat} {Q : Option Value → kx_M → Prop} {G : Nat → List (Option Value) → List Value → kx_M → Prop} (F : Sd w (d + 4) m_TreatyText_readPart Q G) {p1 : Nat} (hp1 : isState p1 = true) {res : Int32 × kx_M} (hQ : Q (some (.int res.1)) res.2) :
    ∀ (s0 : Nat) (s1 : Nat) (s2 : Int32) (hs1 : isDeal s1 = true) (M : kx_M),
    f_TreatyText_readPart_l191 p1 s0 s1 s2 M = some res → G 191 [some (.ref 4), none, none] [.int s2, .ref s1, .ref 4] M := by
  intro s0 s1 s2 hs1 M h
  rw [f_TreatyText_readPart_l191] at h
  refine cal_e h (fun r1 M1 e2 h => ?_)
  refine x_cV2i F.1 (i := 70) rfl ml_TreatyText_67 ok_TreatyText_readWorth rfl (Nat.le_of_ble_eq_true rfl) (Nat.le_of_ble_eq_true rfl) (fun _ => t_TreatyText_readWorth hs1 e2) ?_
  refine x_if_eq F.1 (i := 71) (tgt := 213) rfl (by decide) (fun c => ?_) (fun c => ?_)
  · replace h := if_T c h
    refine x_iconst F.1 (i := 79) rfl ic_0 ?_
    exact x_zretf F (i := 80) rfl rfl (Or.inl rfl) h hQ
  · replace h := if_F c h
    refine x_aload_n F.1 (i := 72) rfl rfl ?_
    refine x_getC F.1 (i := 73) rfl fl_TreatyText_12 rfl (by rfl) ?_
    refine x_bipush F.1 (i := 74) rfl bp_59 ?_
    refine cal_e h (fun r3 M2 e4 h => ?_)
    refine x_cV1i F.1 (i := 75) rfl ml_TreatyText_49 ok_Reader_takeSign (lk_Reader (show isReader 5 = true from rfl)) (Nat.le_of_ble_eq_true rfl) (Nat.le_of_ble_eq_true rfl) (fun _ => t_Reader_takeSign (show isReader 5 = true from rfl) e4) ?_
    refine x_if_eq F.1 (i := 76) (tgt := 213) rfl (by decide) (fun c => ?_) (fun c => ?_)
    · replace h := if_T c h
      refine x_iconst F.1 (i := 79) rfl ic_0 ?_
      exact x_zretf F (i := 80) rfl rfl (Or.inl rfl) h hQ
    · replace h := if_F c h
      refine x_iconst F.1 (i := 77) rfl ic_1 ?_
      refine x_goto F.1 (i := 78) (tgt := 214) rfl (by decide) ?_
      exact x_zretf F (i := 80) rfl rfl (Or.inr rfl) h hQ
set_option maxHeartbeats 4000000 in
theorem t_TreatyText_readPart {w : kx_W} {d : Nat} {M : kx_M} {Q : Option Value → kx_M → Prop} {p1 : Nat} {r : Int32} {M' : kx_M} (hp1 : isState p1 = true) (h : f_TreatyText_readPart p1 M = some (r, M')) (hQ : Q (some (.int r)) M') : Ct w (d + 4) m_TreatyText_readPart [.ref 4, .ref p1] M Q := by
  refine mk_ct ok_TreatyText_readPart (Nat.le_of_ble_eq_true rfl) (fun G F => ?_)
  rw [f_TreatyText_readPart] at h
  show G 0 [some (.ref 4), some (.ref p1), none] [] M
  refine x_aload_n F.1 (i := 0) rfl rfl ?_
  refine x_getC F.1 (i := 1) rfl fl_TreatyText_12 rfl (by rfl) ?_
  refine x_getI F.1 (i := 2) rfl fl_TreatyText_42 (lk_Reader (show isReader 5 = true from rfl)) (by rfl) ?_
  refine x_istore_n F.1 (i := 3) rfl (Nat.le_of_ble_eq_true rfl) (Nat.le_of_ble_eq_true rfl) rfl ?_
  replace h := bd_e h
  refine x_iload_n F.1 (i := 4) rfl rfl ?_
  refine ite_e h (fun c0 h => ?_) (fun c0 h => ?_)
  · refine x_tabIn F.1 (i := 5) (tgt := 64) rfl (by rw [c0]; decide) (by rw [c0]; decide) (by rw [c0]; rfl) (by decide) ?_
    refine x_aload_n F.1 (i := 6) rfl rfl ?_
    refine x_aload_n F.1 (i := 7) rfl rfl ?_
    refine x_iload_n F.1 (i := 8) rfl rfl ?_
    refine cal_e h (fun r2 M1 e3 h => ?_)
    refine x_cV2i F.1 (i := 9) rfl ml_TreatyText_45 ok_TreatyText_readMeasure rfl (Nat.le_of_ble_eq_true rfl) (Nat.le_of_ble_eq_true rfl) (fun _ => t_TreatyText_readMeasure hp1 e3) ?_
    refine x_if_eq F.1 (i := 10) (tgt := 89) rfl (by decide) (fun c => ?_) (fun c => ?_)
    · replace h := if_T c h
      refine x_iconst F.1 (i := 18) rfl ic_0 ?_
      exact x_zretf F (i := 19) rfl rfl (Or.inl rfl) h (res := (r, M')) hQ
    · replace h := if_F c h
      refine x_aload_n F.1 (i := 11) rfl rfl ?_
      refine x_getC F.1 (i := 12) rfl fl_TreatyText_12 rfl (by rfl) ?_
      refine x_bipush F.1 (i := 13) rfl bp_59 ?_
      refine cal_e h (fun r4 M2 e5 h => ?_)
      refine x_cV1i F.1 (i := 14) rfl ml_TreatyText_49 ok_Reader_takeSign (lk_Reader (show isReader 5 = true from rfl)) (Nat.le_of_ble_eq_true rfl) (Nat.le_of_ble_eq_true rfl) (fun _ => t_Reader_takeSign (show isReader 5 = true from rfl) e5) ?_
      refine x_if_eq F.1 (i := 15) (tgt := 89) rfl (by decide) (fun c => ?_) (fun c => ?_)
      · replace h := if_T c h
        refine x_iconst F.1 (i := 18) rfl ic_0 ?_
        exact x_zretf F (i := 19) rfl rfl (Or.inl rfl) h (res := (r, M')) hQ
      · replace h := if_F c h
        refine x_iconst F.1 (i := 16) rfl ic_1 ?_
        refine x_goto F.1 (i := 17) (tgt := 90) rfl (by decide) ?_
        exact x_zretf F (i := 19) rfl rfl (Or.inr rfl) h (res := (r, M')) hQ
  refine ite_e h (fun c1 h => ?_) (fun c1 h => ?_)
  · refine x_tabIn F.1 (i := 5) (tgt := 64) rfl (by rw [c1]; decide) (by rw [c1]; decide) (by rw [c1]; rfl) (by decide) ?_
    refine x_aload_n F.1 (i := 6) rfl rfl ?_
    refine x_aload_n F.1 (i := 7) rfl rfl ?_
    refine x_iload_n F.1 (i := 8) rfl rfl ?_
    refine cal_e h (fun r6 M3 e7 h => ?_)
    refine x_cV2i F.1 (i := 9) rfl ml_TreatyText_45 ok_TreatyText_readMeasure rfl (Nat.le_of_ble_eq_true rfl) (Nat.le_of_ble_eq_true rfl) (fun _ => t_TreatyText_readMeasure hp1 e7) ?_
    refine x_if_eq F.1 (i := 10) (tgt := 89) rfl (by decide) (fun c => ?_) (fun c => ?_)
    · replace h := if_T c h
      refine x_iconst F.1 (i := 18) rfl ic_0 ?_
      exact x_zretf F (i := 19) rfl rfl (Or.inl rfl) h (res := (r, M')) hQ
    · replace h := if_F c h
      refine x_aload_n F.1 (i := 11) rfl rfl ?_
      refine x_getC F.1 (i := 12) rfl fl_TreatyText_12 rfl (by rfl) ?_
      refine x_bipush F.1 (i := 13) rfl bp_59 ?_
      refine cal_e h (fun r8 M4 e9 h => ?_)
      refine x_cV1i F.1 (i := 14) rfl ml_TreatyText_49 ok_Reader_takeSign (lk_Reader (show isReader 5 = true from rfl)) (Nat.le_of_ble_eq_true rfl) (Nat.le_of_ble_eq_true rfl) (fun _ => t_Reader_takeSign (show isReader 5 = true from rfl) e9) ?_
      refine x_if_eq F.1 (i := 15) (tgt := 89) rfl (by decide) (fun c => ?_) (fun c => ?_)
      · replace h := if_T c h
        refine x_iconst F.1 (i := 18) rfl ic_0 ?_
        exact x_zretf F (i := 19) rfl rfl (Or.inl rfl) h (res := (r, M')) hQ
      · replace h := if_F c h
        refine x_iconst F.1 (i := 16) rfl ic_1 ?_
        refine x_goto F.1 (i := 17) (tgt := 90) rfl (by decide) ?_
        exact x_zretf F (i := 19) rfl rfl (Or.inr rfl) h (res := (r, M')) hQ
  refine ite_e h (fun c2 h => ?_) (fun c2 h => ?_)
  · refine x_tabIn F.1 (i := 5) (tgt := 91) rfl (by rw [c2]; decide) (by rw [c2]; decide) (by rw [c2]; rfl) (by decide) ?_
    refine x_aload_n F.1 (i := 20) rfl rfl ?_
    refine x_aload_n F.1 (i := 21) rfl rfl ?_
    refine x_getC F.1 (i := 22) rfl fl_TreatyText_53 (lk_State hp1) (by rfl) ?_
    refine cal_e h (fun r10 M5 e11 h => ?_)
    refine x_cV1i F.1 (i := 23) rfl ml_TreatyText_57 ok_TreatyText_readQueen rfl (Nat.le_of_ble_eq_true rfl) (Nat.le_of_ble_eq_true rfl) (fun _ => t_TreatyText_readQueen (lD_State_deal hp1) e11) ?_
    refine x_if_eq F.1 (i := 24) (tgt := 118) rfl (by decide) (fun c => ?_) (fun c => ?_)
    · replace h := if_T c h
      refine x_iconst F.1 (i := 32) rfl ic_0 ?_
      exact x_zretf F (i := 33) rfl rfl (Or.inl rfl) h (res := (r, M')) hQ
    · replace h := if_F c h
      refine x_aload_n F.1 (i := 25) rfl rfl ?_
      refine x_getC F.1 (i := 26) rfl fl_TreatyText_12 rfl (by rfl) ?_
      refine x_bipush F.1 (i := 27) rfl bp_59 ?_
      refine cal_e h (fun r12 M6 e13 h => ?_)
      refine x_cV1i F.1 (i := 28) rfl ml_TreatyText_49 ok_Reader_takeSign (lk_Reader (show isReader 5 = true from rfl)) (Nat.le_of_ble_eq_true rfl) (Nat.le_of_ble_eq_true rfl) (fun _ => t_Reader_takeSign (show isReader 5 = true from rfl) e13) ?_
      refine x_if_eq F.1 (i := 29) (tgt := 118) rfl (by decide) (fun c => ?_) (fun c => ?_)
      · replace h := if_T c h
        refine x_iconst F.1 (i := 32) rfl ic_0 ?_
        exact x_zretf F (i := 33) rfl rfl (Or.inl rfl) h (res := (r, M')) hQ
      · replace h := if_F c h
        refine x_iconst F.1 (i := 30) rfl ic_1 ?_
        refine x_goto F.1 (i := 31) (tgt := 119) rfl (by decide) ?_
        exact x_zretf F (i := 33) rfl rfl (Or.inr rfl) h (res := (r, M')) hQ
  refine ite_e h (fun c3 h => ?_) (fun c3 h => ?_)
  · refine x_tabIn F.1 (i := 5) (tgt := 241) rfl (by rw [c3]; decide) (by rw [c3]; decide) (by rw [c3]; rfl) (by decide) ?_
    refine x_aload_n F.1 (i := 94) rfl rfl ?_
    refine x_getC F.1 (i := 95) rfl fl_TreatyText_12 rfl (by rfl) ?_
    refine x_iconst F.1 (i := 96) rfl ic_2 ?_
    refine cal_e h (fun r14 M7 e15 h => ?_)
    refine x_cV1i F.1 (i := 97) rfl ml_TreatyText_74 ok_Reader_fail (lk_Reader (show isReader 5 = true from rfl)) (Nat.le_of_ble_eq_true rfl) (Nat.le_of_ble_eq_true rfl) (fun _ => t_Reader_fail (show isReader 5 = true from rfl) e15) ?_
    refine gd_e h (fun g16 h => ?_)
    exact x_zretf F (i := 98) rfl rfl (b01_e g16) h (res := (r, M')) hQ
  refine ite_e h (fun c4 h => ?_) (fun c4 h => ?_)
  · refine x_tabIn F.1 (i := 5) (tgt := 120) rfl (by rw [c4]; decide) (by rw [c4]; decide) (by rw [c4]; rfl) (by decide) ?_
    refine x_aload_n F.1 (i := 34) rfl rfl ?_
    refine x_aload_n F.1 (i := 35) rfl rfl ?_
    refine cal_e h (fun r17 M8 e18 h => ?_)
    refine x_cV1i F.1 (i := 36) rfl ml_TreatyText_61 ok_TreatyText_readClause rfl (Nat.le_of_ble_eq_true rfl) (Nat.le_of_ble_eq_true rfl) (fun _ => t_TreatyText_readClause hp1 e18) ?_
    refine x_if_eq F.1 (i := 37) (tgt := 144) rfl (by decide) (fun c => ?_) (fun c => ?_)
    · replace h := if_T c h
      refine x_iconst F.1 (i := 45) rfl ic_0 ?_
      exact x_zretf F (i := 46) rfl rfl (Or.inl rfl) h (res := (r, M')) hQ
    · replace h := if_F c h
      refine x_aload_n F.1 (i := 38) rfl rfl ?_
      refine x_getC F.1 (i := 39) rfl fl_TreatyText_12 rfl (by rfl) ?_
      refine x_bipush F.1 (i := 40) rfl bp_59 ?_
      refine cal_e h (fun r19 M9 e20 h => ?_)
      refine x_cV1i F.1 (i := 41) rfl ml_TreatyText_49 ok_Reader_takeSign (lk_Reader (show isReader 5 = true from rfl)) (Nat.le_of_ble_eq_true rfl) (Nat.le_of_ble_eq_true rfl) (fun _ => t_Reader_takeSign (show isReader 5 = true from rfl) e20) ?_
      refine x_if_eq F.1 (i := 42) (tgt := 144) rfl (by decide) (fun c => ?_) (fun c => ?_)
      · replace h := if_T c h
        refine x_iconst F.1 (i := 45) rfl ic_0 ?_
        exact x_zretf F (i := 46) rfl rfl (Or.inl rfl) h (res := (r, M')) hQ
      · replace h := if_F c h
        refine x_iconst F.1 (i := 43) rfl ic_1 ?_
        refine x_goto F.1 (i := 44) (tgt := 145) rfl (by decide) ?_
        exact x_zretf F (i := 46) rfl rfl (Or.inr rfl) h (res := (r, M')) hQ
  refine ite_e h (fun c5 h => ?_) (fun c5 h => ?_)
  · refine x_tabIn F.1 (i := 5) (tgt := 241) rfl (by rw [c5]; decide) (by rw [c5]; decide) (by rw [c5]; rfl) (by decide) ?_
    refine x_aload_n F.1 (i := 94) rfl rfl ?_
    refine x_getC F.1 (i := 95) rfl fl_TreatyText_12 rfl (by rfl) ?_
    refine x_iconst F.1 (i := 96) rfl ic_2 ?_
    refine cal_e h (fun r21 M10 e22 h => ?_)
    refine x_cV1i F.1 (i := 97) rfl ml_TreatyText_74 ok_Reader_fail (lk_Reader (show isReader 5 = true from rfl)) (Nat.le_of_ble_eq_true rfl) (Nat.le_of_ble_eq_true rfl) (fun _ => t_Reader_fail (show isReader 5 = true from rfl) e22) ?_
    refine gd_e h (fun g23 h => ?_)
    exact x_zretf F (i := 98) rfl rfl (b01_e g23) h (res := (r, M')) hQ
  refine ite_e h (fun c6 h => ?_) (fun c6 h => ?_)
  · refine x_tabIn F.1 (i := 5) (tgt := 146) rfl (by rw [c6]; decide) (by rw [c6]; decide) (by rw [c6]; rfl) (by decide) ?_
    refine x_aload_n F.1 (i := 47) rfl rfl ?_
    refine x_aload_n F.1 (i := 48) rfl rfl ?_
    refine x_getC F.1 (i := 49) rfl fl_TreatyText_53 (lk_State hp1) (by rfl) ?_
    refine cal_e h (fun r24 M11 e25 h => ?_)
    refine x_cV1i F.1 (i := 50) rfl ml_TreatyText_64 ok_TreatyText_readClash rfl (Nat.le_of_ble_eq_true rfl) (Nat.le_of_ble_eq_true rfl) (fun _ => t_TreatyText_readClash (lD_State_deal hp1) e25) ?_
    refine x_if_eq F.1 (i := 51) (tgt := 173) rfl (by decide) (fun c => ?_) (fun c => ?_)
    · replace h := if_T c h
      refine x_iconst F.1 (i := 59) rfl ic_0 ?_
      exact x_zretf F (i := 60) rfl rfl (Or.inl rfl) h (res := (r, M')) hQ
    · replace h := if_F c h
      refine x_aload_n F.1 (i := 52) rfl rfl ?_
      refine x_getC F.1 (i := 53) rfl fl_TreatyText_12 rfl (by rfl) ?_
      refine x_bipush F.1 (i := 54) rfl bp_59 ?_
      refine cal_e h (fun r26 M12 e27 h => ?_)
      refine x_cV1i F.1 (i := 55) rfl ml_TreatyText_49 ok_Reader_takeSign (lk_Reader (show isReader 5 = true from rfl)) (Nat.le_of_ble_eq_true rfl) (Nat.le_of_ble_eq_true rfl) (fun _ => t_Reader_takeSign (show isReader 5 = true from rfl) e27) ?_
      refine x_if_eq F.1 (i := 56) (tgt := 173) rfl (by decide) (fun c => ?_) (fun c => ?_)
      · replace h := if_T c h
        refine x_iconst F.1 (i := 59) rfl ic_0 ?_
        exact x_zretf F (i := 60) rfl rfl (Or.inl rfl) h (res := (r, M')) hQ
      · replace h := if_F c h
        refine x_iconst F.1 (i := 57) rfl ic_1 ?_
        refine x_goto F.1 (i := 58) (tgt := 174) rfl (by decide) ?_
        exact x_zretf F (i := 60) rfl rfl (Or.inr rfl) h (res := (r, M')) hQ
  refine ite_e h (fun c7 h => ?_) (fun c7 h => ?_)
  · refine x_tabIn F.1 (i := 5) (tgt := 175) rfl (by rw [c7]; decide) (by rw [c7]; decide) (by rw [c7]; rfl) (by decide) ?_
    refine x_aload_n F.1 (i := 61) rfl rfl ?_
    refine x_aload_n F.1 (i := 62) rfl rfl ?_
    refine x_getC F.1 (i := 63) rfl fl_TreatyText_53 (lk_State hp1) (by rfl) ?_
    refine x_iload_n F.1 (i := 64) rfl rfl ?_
    refine x_bipush F.1 (i := 65) rfl bp_7 ?_
    refine x_icmp_ne F.1 (i := 66) (tgt := 190) rfl (by decide) (fun c => ?_) (fun c => ?_)
    · replace h := if_F c h
      refine x_iconst F.1 (i := 69) rfl ic_1 ?_
      exact x_wk F.1 ((t_TreatyText_readPart_l191 F hp1 (res := (r, M')) hQ) _ _ _ (lD_State_deal hp1) _ h) ⟨rfl, trivial⟩
    · replace h := if_T c h
      refine x_iconst F.1 (i := 67) rfl ic_0 ?_
      refine x_goto F.1 (i := 68) (tgt := 191) rfl (by decide) ?_
      exact x_wk F.1 ((t_TreatyText_readPart_l191 F hp1 (res := (r, M')) hQ) _ _ _ (lD_State_deal hp1) _ h) ⟨rfl, trivial⟩
  refine ite_e h (fun c8 h => ?_) (fun c8 h => ?_)
  · refine x_tabIn F.1 (i := 5) (tgt := 175) rfl (by rw [c8]; decide) (by rw [c8]; decide) (by rw [c8]; rfl) (by decide) ?_
    refine x_aload_n F.1 (i := 61) rfl rfl ?_
    refine x_aload_n F.1 (i := 62) rfl rfl ?_
    refine x_getC F.1 (i := 63) rfl fl_TreatyText_53 (lk_State hp1) (by rfl) ?_
    refine x_iload_n F.1 (i := 64) rfl rfl ?_
    refine x_bipush F.1 (i := 65) rfl bp_7 ?_
    refine x_icmp_ne F.1 (i := 66) (tgt := 190) rfl (by decide) (fun c => ?_) (fun c => ?_)
    · replace h := if_F c h
      refine x_iconst F.1 (i := 69) rfl ic_1 ?_
      exact x_wk F.1 ((t_TreatyText_readPart_l191 F hp1 (res := (r, M')) hQ) _ _ _ (lD_State_deal hp1) _ h) ⟨rfl, trivial⟩
    · replace h := if_T c h
      refine x_iconst F.1 (i := 67) rfl ic_0 ?_
      refine x_goto F.1 (i := 68) (tgt := 191) rfl (by decide) ?_
      exact x_wk F.1 ((t_TreatyText_readPart_l191 F hp1 (res := (r, M')) hQ) _ _ _ (lD_State_deal hp1) _ h) ⟨rfl, trivial⟩
  refine ite_e h (fun c9 h => ?_) (fun c9 h => ?_)
  · refine x_tabIn F.1 (i := 5) (tgt := 215) rfl (by rw [c9]; decide) (by rw [c9]; decide) (by rw [c9]; rfl) (by decide) ?_
    refine x_aload_n F.1 (i := 81) rfl rfl ?_
    refine x_aload_n F.1 (i := 82) rfl rfl ?_
    refine cal_e h (fun r28 M13 e29 h => ?_)
    refine x_cV1i F.1 (i := 83) rfl ml_TreatyText_71 ok_TreatyText_readRow rfl (Nat.le_of_ble_eq_true rfl) (Nat.le_of_ble_eq_true rfl) (fun _ => t_TreatyText_readRow hp1 e29) ?_
    refine x_if_eq F.1 (i := 84) (tgt := 239) rfl (by decide) (fun c => ?_) (fun c => ?_)
    · replace h := if_T c h
      refine x_iconst F.1 (i := 92) rfl ic_0 ?_
      exact x_zretf F (i := 93) rfl rfl (Or.inl rfl) h (res := (r, M')) hQ
    · replace h := if_F c h
      refine x_aload_n F.1 (i := 85) rfl rfl ?_
      refine x_getC F.1 (i := 86) rfl fl_TreatyText_12 rfl (by rfl) ?_
      refine x_bipush F.1 (i := 87) rfl bp_59 ?_
      refine cal_e h (fun r30 M14 e31 h => ?_)
      refine x_cV1i F.1 (i := 88) rfl ml_TreatyText_49 ok_Reader_takeSign (lk_Reader (show isReader 5 = true from rfl)) (Nat.le_of_ble_eq_true rfl) (Nat.le_of_ble_eq_true rfl) (fun _ => t_Reader_takeSign (show isReader 5 = true from rfl) e31) ?_
      refine x_if_eq F.1 (i := 89) (tgt := 239) rfl (by decide) (fun c => ?_) (fun c => ?_)
      · replace h := if_T c h
        refine x_iconst F.1 (i := 92) rfl ic_0 ?_
        exact x_zretf F (i := 93) rfl rfl (Or.inl rfl) h (res := (r, M')) hQ
      · replace h := if_F c h
        refine x_iconst F.1 (i := 90) rfl ic_1 ?_
        refine x_goto F.1 (i := 91) (tgt := 240) rfl (by decide) ?_
        exact x_zretf F (i := 93) rfl rfl (Or.inr rfl) h (res := (r, M')) hQ
  have c0z := ne_toInt (z := 0) c0 (by decide)
  have c1z := ne_toInt (z := 1) c1 (by decide)
  have c2z := ne_toInt (z := 2) c2 (by decide)
  have c3z := ne_toInt (z := 3) c3 (by decide)
  have c4z := ne_toInt (z := 4) c4 (by decide)
  have c5z := ne_toInt (z := 5) c5 (by decide)
  have c6z := ne_toInt (z := 6) c6 (by decide)
  have c7z := ne_toInt (z := 7) c7 (by decide)
  have c8z := ne_toInt (z := 8) c8 (by decide)
  have c9z := ne_toInt (z := 9) c9 (by decide)
  refine x_tabOut F.1 (i := 5) (tgt := 241) rfl (by omega) (by decide) ?_
  refine x_aload_n F.1 (i := 94) rfl rfl ?_
  refine x_getC F.1 (i := 95) rfl fl_TreatyText_12 rfl (by rfl) ?_
  refine x_iconst F.1 (i := 96) rfl ic_2 ?_
  refine cal_e h (fun r32 M15 e33 h => ?_)
  refine x_cV1i F.1 (i := 97) rfl ml_TreatyText_74 ok_Reader_fail (lk_Reader (show isReader 5 = true from rfl)) (Nat.le_of_ble_eq_true rfl) (Nat.le_of_ble_eq_true rfl) (fun _ => t_Reader_fail (show isReader 5 = true from rfl) e33) ?_
  refine gd_e h (fun g34 h => ?_)
  exact x_zretf F (i := 98) rfl rfl (b01_e g34) h (res := (r, M')) hQ
set_option maxHeartbeats 4000000 in
theorem t_TreatyText_parse_l26 {w : kx_W} {d : Nat} {Q : Option Value → kx_M → Prop} {G : Nat → List (Option Value) → List Value → kx_M → Prop} (F : Sd w (d + 5) m_TreatyText_parse Q G) {p1 : Nat} {p2 : Int32} {p3 : Nat} (hp3 : isState p3 = true) {res : Int32 × kx_M} (hQ : Q (some (.int res.1)) res.2) :
    ∀ (n : Nat) (x4 : Int32) (M : kx_M),
    f_TreatyText_parse_l26 p1 p2 p3 n x4 M = some res → G 26 [some (.ref 4), none, some (.int p2), some (.ref p3), some (.int x4)] [] M := by
  intro n
  induction n with
  | zero =>
    intro x4 M h
    exact absurd h (by rw [f_TreatyText_parse_l26]; exact fun z => nomatch z)
  | succ n ih =>
    intro x4 M h
    rw [f_TreatyText_parse_l26] at h
    refine x_iload F.1 (i := 15) rfl rfl ?_
    refine x_iload_n F.1 (i := 16) rfl rfl ?_
    refine x_icmp_gt F.1 (i := 17) (tgt := 58) rfl (by decide) (fun c => ?_) (fun c => ?_)
    · replace h := if_T c h
      refine x_iconst F.1 (i := 30) rfl ic_1 ?_
      exact x_zretf F (i := 31) rfl rfl (Or.inr rfl) h hQ
    · replace h := if_F c h
      refine x_aload_n F.1 (i := 18) rfl rfl ?_
      refine x_getC F.1 (i := 19) rfl fl_TreatyText_12 rfl (by rfl) ?_
      refine x_getI F.1 (i := 20) rfl fl_TreatyText_34 (lk_Reader (show isReader 5 = true from rfl)) (by rfl) ?_
      refine x_if_eq F.1 (i := 21) (tgt := 58) rfl (by decide) (fun c => ?_) (fun c => ?_)
      · replace h := if_T c h
        refine x_iconst F.1 (i := 30) rfl ic_1 ?_
        exact x_zretf F (i := 31) rfl rfl (Or.inr rfl) h hQ
      · replace h := if_F c h
        refine x_aload_n F.1 (i := 22) rfl rfl ?_
        refine x_aload_n F.1 (i := 23) rfl rfl ?_
        refine cal_e h (fun r1 M1 e2 h => ?_)
        refine x_cV1i F.1 (i := 24) rfl ml_TreatyText_38 ok_TreatyText_readPart rfl (Nat.le_of_ble_eq_true rfl) (Nat.le_of_ble_eq_true rfl) (fun _ => t_TreatyText_readPart hp3 e2) ?_
        refine x_if_ne F.1 (i := 25) (tgt := 52) rfl (by decide) (fun c => ?_) (fun c => ?_)
        · replace h := if_F c h
          refine x_iinc F.1 (i := 28) rfl rfl rfl (Nat.le_of_ble_eq_true rfl) rfl ?_
          replace h := bd_e h
          refine x_goto F.1 (i := 29) (tgt := 26) rfl (by decide) ?_
          exact x_wk F.1 (ih _ _ h) ⟨rfl, rfl, rfl, rfl, trivial⟩
        · replace h := if_T c h
          refine x_iconst F.1 (i := 26) rfl ic_0 ?_
          exact x_zretf F (i := 27) rfl rfl (Or.inl rfl) h hQ
set_option maxHeartbeats 4000000 in
theorem t_TreatyText_parse {w : kx_W} {d : Nat} {M : kx_M} {Q : Option Value → kx_M → Prop} {p1 : Nat} {p2 : Int32} {p3 : Nat} {r : Int32} {M' : kx_M} (hp3 : isState p3 = true) (h : f_TreatyText_parse p1 p2 p3 M = some (r, M')) (hQ : Q (some (.int r)) M') : Ct w (d + 5) m_TreatyText_parse [.ref 4, .ref p1, .int p2, .ref p3] M Q := by
  refine mk_ct ok_TreatyText_parse (Nat.le_of_ble_eq_true rfl) (fun G F => ?_)
  rw [f_TreatyText_parse] at h
  show G 0 [some (.ref 4), some (.ref p1), some (.int p2), some (.ref p3), none] [] M
  refine x_aload_n F.1 (i := 0) rfl rfl ?_
  refine cal_e h (fun r1 M1 e2 h => ?_)
  refine x_cV0v F.1 (i := 1) rfl ml_TreatyText_25 ok_State_clear (lk_State hp3) (Nat.le_of_ble_eq_true rfl) (Nat.le_of_ble_eq_true rfl) (fun _ => t_State_clear hp3 e2) ?_
  refine x_aload_n F.1 (i := 2) rfl rfl ?_
  refine x_iconst F.1 (i := 3) rfl ic_0 ?_
  refine x_putZ F.1 (i := 4) rfl fl_TreatyText_18 pf_TreatyText_wideTold rfl (by rfl) (Or.inl rfl) ?_
  replace h := bd_e h
  refine x_aload_n F.1 (i := 5) rfl rfl ?_
  refine x_iconst F.1 (i := 6) rfl ic_0 ?_
  refine x_putZ F.1 (i := 7) rfl fl_TreatyText_22 pf_TreatyText_toughTold rfl (by rfl) (Or.inl rfl) ?_
  replace h := bd_e h
  refine x_aload_n F.1 (i := 8) rfl rfl ?_
  refine x_getC F.1 (i := 9) rfl fl_TreatyText_12 rfl (by rfl) ?_
  refine x_aload_n F.1 (i := 10) rfl rfl ?_
  refine x_iload_n F.1 (i := 11) rfl rfl ?_
  refine cal_e h (fun r3 M4 e4 h => ?_)
  refine x_cV2v F.1 (i := 12) rfl ml_TreatyText_30 ok_Reader_open (lk_Reader (show isReader 5 = true from rfl)) (Nat.le_of_ble_eq_true rfl) (Nat.le_of_ble_eq_true rfl) (fun _ => t_Reader_open (show isReader 5 = true from rfl) e4) ?_
  refine x_iconst F.1 (i := 13) rfl ic_0 ?_
  refine x_istore F.1 (i := 14) rfl (Nat.le_of_ble_eq_true rfl) (Nat.le_of_ble_eq_true rfl) rfl ?_
  exact x_wk F.1 ((t_TreatyText_parse_l26 F hp3 (res := (r, M')) hQ FU) _ _ h) ⟨rfl, rfl, rfl, rfl, trivial⟩
set_option maxHeartbeats 4000000 in
theorem t_KT_told_l13 {w : kx_W} {d : Nat} {Q : Option Value → kx_M → Prop} {G : Nat → List (Option Value) → List Value → kx_M → Prop} (F : Sd w d m_KT_told Q G) {p1 : Int32} {p2 : Nat} (hp2 : isReader p2 = true) {res : Int32 × kx_M} (hQ : Q (some (.int res.1)) res.2) :
    ∀ (s0 : Nat) (s1 : Int32) (M : kx_M),
    f_KT_told_l13 p1 p2 s0 s1 M = some res → G 13 [some (.ref 0), some (.int p1), some (.ref p2)] [.int s1, .ref 0] M := by
  intro s0 s1 M h
  rw [f_KT_told_l13] at h
  refine x_putI F.1 (i := 7) rfl fl_KT_81 pf_KT_faultKind rfl (by rfl) ?_
  replace h := bd_e h
  refine x_aload_n F.1 (i := 8) rfl rfl ?_
  refine x_iload_n F.1 (i := 9) rfl rfl ?_
  refine x_if_eq F.1 (i := 10) (tgt := 25) rfl (by decide) (fun c => ?_) (fun c => ?_)
  · replace h := if_T c h
    refine x_aload_n F.1 (i := 13) rfl rfl ?_
    refine x_getI F.1 (i := 14) rfl fl_KT_185 (lk_Reader hp2) (by rfl) ?_
    refine x_putI F.1 (i := 15) rfl fl_KT_84 pf_KT_faultPlace rfl (by rfl) ?_
    replace h := bd_e h
    refine x_iload_n F.1 (i := 16) rfl rfl ?_
    refine x_if_eq F.1 (i := 17) (tgt := 40) rfl (by decide) (fun c => ?_) (fun c => ?_)
    · replace h := if_T c h
      refine x_bipush F.1 (i := 20) rfl bp_10 ?_
      exact x_iretf F (i := 21) rfl rfl h hQ
    · replace h := if_F c h
      refine x_iconst F.1 (i := 18) rfl ic_0 ?_
      refine x_goto F.1 (i := 19) (tgt := 42) rfl (by decide) ?_
      exact x_iretf F (i := 21) rfl rfl h hQ
  · replace h := if_F c h
    refine x_iconst F.1 (i := 11) rfl ic_n1 ?_
    refine x_goto F.1 (i := 12) (tgt := 29) rfl (by decide) ?_
    refine x_putI F.1 (i := 15) rfl fl_KT_84 pf_KT_faultPlace rfl (by rfl) ?_
    replace h := bd_e h
    refine x_iload_n F.1 (i := 16) rfl rfl ?_
    refine x_if_eq F.1 (i := 17) (tgt := 40) rfl (by decide) (fun c => ?_) (fun c => ?_)
    · replace h := if_T c h
      refine x_bipush F.1 (i := 20) rfl bp_10 ?_
      exact x_iretf F (i := 21) rfl rfl h hQ
    · replace h := if_F c h
      refine x_iconst F.1 (i := 18) rfl ic_0 ?_
      refine x_goto F.1 (i := 19) (tgt := 42) rfl (by decide) ?_
      exact x_iretf F (i := 21) rfl rfl h hQ
set_option maxHeartbeats 4000000 in
theorem t_KT_told {w : kx_W} {d : Nat} {M : kx_M} {Q : Option Value → kx_M → Prop} {p1 : Int32} {p2 : Nat} {r : Int32} {M' : kx_M} (hp2 : isReader p2 = true) (h : f_KT_told p1 p2 M = some (r, M')) (hQ : Q (some (.int r)) M') : Ct w d m_KT_told [.ref 0, .int p1, .ref p2] M Q := by
  refine mk_ct ok_KT_told (Nat.le_of_ble_eq_true rfl) (fun G F => ?_)
  rw [f_KT_told] at h
  show G 0 [some (.ref 0), some (.int p1), some (.ref p2)] [] M
  refine x_aload_n F.1 (i := 0) rfl rfl ?_
  refine x_iload_n F.1 (i := 1) rfl rfl ?_
  refine x_if_eq F.1 (i := 2) (tgt := 9) rfl (by decide) (fun c => ?_) (fun c => ?_)
  · replace h := if_T c h
    refine x_aload_n F.1 (i := 5) rfl rfl ?_
    refine x_getI F.1 (i := 6) rfl fl_KT_182 (lk_Reader hp2) (by rfl) ?_
    exact x_wk F.1 ((t_KT_told_l13 F hp2 (res := (r, M')) hQ) _ _ _ h) ⟨rfl, rfl, rfl, trivial⟩
  · replace h := if_F c h
    refine x_iconst F.1 (i := 3) rfl ic_0 ?_
    refine x_goto F.1 (i := 4) (tgt := 13) rfl (by decide) ?_
    exact x_wk F.1 ((t_KT_told_l13 F hp2 (res := (r, M')) hQ) _ _ _ h) ⟨rfl, rfl, rfl, trivial⟩
set_option maxHeartbeats 4000000 in
theorem t_KT_treaty {w : kx_W} {d : Nat} {M : kx_M} {Q : Option Value → kx_M → Prop} {p1 : Int32} {r : Int32} {M' : kx_M} (h : f_KT_treaty p1 M = some (r, M')) (hQ : Q (some (.int r)) M') : Ct w (d + 6) m_KT_treaty [.ref 0, .int p1] M Q := by
  refine mk_ct ok_KT_treaty (Nat.le_of_ble_eq_true rfl) (fun G F => ?_)
  rw [f_KT_treaty] at h
  show G 0 [some (.ref 0), some (.int p1), none, none] [] M
  refine x_iload_n F.1 (i := 0) rfl rfl ?_
  refine x_if_lt F.1 (i := 1) (tgt := 12) rfl (by decide) (fun c => ?_) (fun c => ?_)
  · replace h := if_T c h
    refine x_aload_n F.1 (i := 6) rfl rfl ?_
    refine x_iconst F.1 (i := 7) rfl ic_5 ?_
    refine x_putI F.1 (i := 8) rfl fl_KT_78 pf_KT_latest rfl (by rfl) ?_
    replace h := bd_e h
    refine x_iconst F.1 (i := 9) rfl ic_n1 ?_
    exact x_iretf F (i := 10) rfl rfl h (res := (r, M')) hQ
  · replace h := if_F c h
    refine x_iload_n F.1 (i := 2) rfl rfl ?_
    refine x_aload_n F.1 (i := 3) rfl rfl ?_
    refine x_getI F.1 (i := 4) rfl fl_KT_71 rfl (by rfl) ?_
    refine x_icmp_le F.1 (i := 5) (tgt := 19) rfl (by decide) (fun c => ?_) (fun c => ?_)
    · replace h := if_T c h
      refine x_aload_n F.1 (i := 11) rfl rfl ?_
      refine x_iconst F.1 (i := 12) rfl ic_0 ?_
      refine x_putI F.1 (i := 13) rfl fl_KT_71 pf_KT_taped rfl (by rfl) ?_
      replace h := bd_e h
      refine x_aload_n F.1 (i := 14) rfl rfl ?_
      refine x_getC F.1 (i := 15) rfl fl_KT_28 rfl (by rfl) ?_
      refine x_aload_n F.1 (i := 16) rfl rfl ?_
      refine x_getC F.1 (i := 17) rfl fl_KT_15 rfl (by rfl) ?_
      refine x_iload_n F.1 (i := 18) rfl rfl ?_
      refine x_aload_n F.1 (i := 19) rfl rfl ?_
      refine x_getR F.1 (i := 20) rfl fl_KT_68 rfl (by rfl) rfl ?_
      refine gd_e h (fun g1 h => ?_)
      replace h := bd_e h
      refine cal_e h (fun r3 M3 e4 h => ?_)
      refine x_cV3i F.1 (i := 21) rfl ml_KT_144 ok_TreatyText_parse rfl (Nat.le_of_ble_eq_true rfl) (Nat.le_of_ble_eq_true rfl) (fun _ => t_TreatyText_parse g1 e4) ?_
      refine x_istore_n F.1 (i := 22) rfl (Nat.le_of_ble_eq_true rfl) (Nat.le_of_ble_eq_true rfl) rfl ?_
      refine x_aload_n F.1 (i := 23) rfl rfl ?_
      refine x_aload_n F.1 (i := 24) rfl rfl ?_
      refine x_iload_n F.1 (i := 25) rfl rfl ?_
      refine x_aload_n F.1 (i := 26) rfl rfl ?_
      refine x_getC F.1 (i := 27) rfl fl_KT_28 rfl (by rfl) ?_
      refine x_getC F.1 (i := 28) rfl fl_KT_148 rfl (by rfl) ?_
      refine cal_e h (fun r5 M4 e6 h => ?_)
      refine x_cV2i F.1 (i := 29) rfl ml_KT_152 ok_KT_told rfl (Nat.le_of_ble_eq_true rfl) (Nat.le_of_ble_eq_true rfl) (fun _ => t_KT_told (show isReader 5 = true from rfl) e6) ?_
      refine cal_e h (fun r7 M5 e8 h => ?_)
      refine x_cV1i F.1 (i := 30) rfl ml_KT_103 ok_KT_refused rfl (Nat.le_of_ble_eq_true rfl) (Nat.le_of_ble_eq_true rfl) (fun _ => t_KT_refused e8) ?_
      refine x_if_eq F.1 (i := 31) (tgt := 62) rfl (by decide) (fun c => ?_) (fun c => ?_)
      · replace h := if_T c h
        refine x_aload_n F.1 (i := 34) rfl rfl ?_
        refine x_getR F.1 (i := 35) rfl fl_KT_64 rfl (by rfl) rfl ?_
        refine gd_e h (fun g9 h => ?_)
        replace h := bd_e h
        refine x_astore_n F.1 (i := 36) rfl (Nat.le_of_ble_eq_true rfl) (Nat.le_of_ble_eq_true rfl) rfl ?_
        refine x_aload_n F.1 (i := 37) rfl rfl ?_
        refine x_aload_n F.1 (i := 38) rfl rfl ?_
        refine x_getR F.1 (i := 39) rfl fl_KT_68 rfl (by rfl) rfl ?_
        refine gd_e h (fun g11 h => ?_)
        replace h := bd_e h
        refine x_putR F.1 (i := 40) rfl fl_KT_64 pf_KT_now rfl (by rfl) ?_
        replace h := bd_e h
        refine x_aload_n F.1 (i := 41) rfl rfl ?_
        refine x_aload_n F.1 (i := 42) rfl rfl ?_
        refine x_putR F.1 (i := 43) rfl fl_KT_68 pf_KT_trial rfl (by rfl) ?_
        replace h := bd_e h
        refine x_aload_n F.1 (i := 44) rfl rfl ?_
        refine x_getR F.1 (i := 45) rfl fl_KT_64 rfl (by rfl) rfl ?_
        refine gd_e h (fun g13 h => ?_)
        replace h := bd_e h
        refine x_getC F.1 (i := 46) rfl fl_KT_156 (lk_State g13) (by rfl) ?_
        refine x_getI F.1 (i := 47) rfl fl_KT_160 (lk_Cloth (lD_State_cloth g13)) (by rfl) ?_
        exact x_iretf F (i := 48) rfl rfl h (res := (r, M')) hQ
      · replace h := if_F c h
        refine x_iconst F.1 (i := 32) rfl ic_n1 ?_
        exact x_iretf F (i := 33) rfl rfl h (res := (r, M')) hQ
    · replace h := if_F c h
      refine x_aload_n F.1 (i := 6) rfl rfl ?_
      refine x_iconst F.1 (i := 7) rfl ic_5 ?_
      refine x_putI F.1 (i := 8) rfl fl_KT_78 pf_KT_latest rfl (by rfl) ?_
      replace h := bd_e h
      refine x_iconst F.1 (i := 9) rfl ic_n1 ?_
      exact x_iretf F (i := 10) rfl rfl h (res := (r, M')) hQ
set_option maxHeartbeats 4000000 in
theorem t_Script_add {w : kx_W} {d : Nat} {M : kx_M} {Q : Option Value → kx_M → Prop} {p0 : Nat} {p1 : Int32} {p2 : Int32} {p3 : Int32} {r : Unit} {M' : kx_M} (hp0 : isScript p0 = true) (h : f_Script_add p0 p1 p2 p3 M = some (r, M')) (hQ : Q none M') : Ct w d m_Script_add [.ref p0, .int p1, .int p2, .int p3] M Q := by
  refine mk_ct ok_Script_add (Nat.le_of_ble_eq_true rfl) (fun G F => ?_)
  rw [f_Script_add] at h
  show G 0 [some (.ref p0), some (.int p1), some (.int p2), some (.int p3)] [] M
  refine x_aload_n F.1 (i := 0) rfl rfl ?_
  refine x_getC F.1 (i := 1) rfl fl_Script_9 (lk_Script hp0) (by rfl) ?_
  refine x_aload_n F.1 (i := 2) rfl rfl ?_
  refine x_getI F.1 (i := 3) rfl fl_Script_30 (lk_Script hp0) (by rfl) ?_
  refine x_iload_n F.1 (i := 4) rfl rfl ?_
  refine gd_e h (fun g1 h => ?_)
  refine x_iast F.1 (i := 5) rfl (lk_Script_ops hp0) (inb_e g1) ?_
  replace h := bd_e h
  refine x_aload_n F.1 (i := 6) rfl rfl ?_
  refine x_getC F.1 (i := 7) rfl fl_Script_13 (lk_Script hp0) (by rfl) ?_
  refine x_aload_n F.1 (i := 8) rfl rfl ?_
  refine x_getI F.1 (i := 9) rfl fl_Script_30 (lk_Script hp0) (by rfl) ?_
  refine x_iload_n F.1 (i := 10) rfl rfl ?_
  refine gd_e h (fun g2 h => ?_)
  refine x_iast F.1 (i := 11) rfl (lk_Script_firsts hp0) (inb_e g2) ?_
  replace h := bd_e h
  refine x_aload_n F.1 (i := 12) rfl rfl ?_
  refine x_getC F.1 (i := 13) rfl fl_Script_16 (lk_Script hp0) (by rfl) ?_
  refine x_aload_n F.1 (i := 14) rfl rfl ?_
  refine x_getI F.1 (i := 15) rfl fl_Script_30 (lk_Script hp0) (by rfl) ?_
  refine x_iload_n F.1 (i := 16) rfl rfl ?_
  refine gd_e h (fun g3 h => ?_)
  refine x_iast F.1 (i := 17) rfl (lk_Script_seconds hp0) (inb_e g3) ?_
  replace h := bd_e h
  refine x_aload_n F.1 (i := 18) rfl rfl ?_
  refine x_getC F.1 (i := 19) rfl fl_Script_19 (lk_Script hp0) (by rfl) ?_
  refine x_aload_n F.1 (i := 20) rfl rfl ?_
  refine x_getI F.1 (i := 21) rfl fl_Script_30 (lk_Script hp0) (by rfl) ?_
  refine x_aload_n F.1 (i := 22) rfl rfl ?_
  refine x_getI F.1 (i := 23) rfl fl_Script_30 (lk_Script hp0) (by rfl) ?_
  refine gd_e h (fun g4 h => ?_)
  refine x_iast F.1 (i := 24) rfl (lk_Script_mates hp0) (inb_e g4) ?_
  replace h := bd_e h
  refine x_aload_n F.1 (i := 25) rfl rfl ?_
  refine x_dup F.1 (i := 26) rfl rfl ?_
  refine x_getI F.1 (i := 27) rfl fl_Script_30 (lk_Script hp0) (by rfl) ?_
  refine x_iconst F.1 (i := 28) rfl ic_1 ?_
  refine x_iadd F.1 (i := 29) rfl ?_
  refine x_putI F.1 (i := 30) rfl fl_Script_30 pf_Script_entries (lk_Script hp0) (by rfl) ?_
  replace h := bd_e h
  exact x_vretf F (i := 31) rfl rfl h (res := (r, M')) hQ
set_option maxHeartbeats 4000000 in
theorem t_Script_couple {w : kx_W} {d : Nat} {M : kx_M} {Q : Option Value → kx_M → Prop} {p0 : Nat} {p1 : Int32} {p2 : Int32} {r : Unit} {M' : kx_M} (hp0 : isScript p0 = true) (h : f_Script_couple p0 p1 p2 M = some (r, M')) (hQ : Q none M') : Ct w d m_Script_couple [.ref p0, .int p1, .int p2] M Q := by
  refine mk_ct ok_Script_couple (Nat.le_of_ble_eq_true rfl) (fun G F => ?_)
  rw [f_Script_couple] at h
  show G 0 [some (.ref p0), some (.int p1), some (.int p2)] [] M
  refine x_aload_n F.1 (i := 0) rfl rfl ?_
  refine x_getC F.1 (i := 1) rfl fl_Script_19 (lk_Script hp0) (by rfl) ?_
  refine x_iload_n F.1 (i := 2) rfl rfl ?_
  refine x_iload_n F.1 (i := 3) rfl rfl ?_
  refine gd_e h (fun g1 h => ?_)
  refine x_iast F.1 (i := 4) rfl (lk_Script_mates hp0) (inb_e g1) ?_
  replace h := bd_e h
  refine x_aload_n F.1 (i := 5) rfl rfl ?_
  refine x_getC F.1 (i := 6) rfl fl_Script_19 (lk_Script hp0) (by rfl) ?_
  refine x_iload_n F.1 (i := 7) rfl rfl ?_
  refine x_iload_n F.1 (i := 8) rfl rfl ?_
  refine gd_e h (fun g2 h => ?_)
  refine x_iast F.1 (i := 9) rfl (lk_Script_mates hp0) (inb_e g2) ?_
  replace h := bd_e h
  exact x_vretf F (i := 10) rfl rfl h (res := (r, M')) hQ
set_option maxHeartbeats 4000000 in
theorem t_CenturyText_readEnd {w : kx_W} {d : Nat} {M : kx_M} {Q : Option Value → kx_M → Prop} {p1 : Nat} {r : Int32} {M' : kx_M} (hp1 : isScript p1 = true) (h : f_CenturyText_readEnd p1 M = some (r, M')) (hQ : Q (some (.int r)) M') : Ct w (d + 2) m_CenturyText_readEnd [.ref 8, .ref p1] M Q := by
  refine mk_ct ok_CenturyText_readEnd (Nat.le_of_ble_eq_true rfl) (fun G F => ?_)
  rw [f_CenturyText_readEnd] at h
  show G 0 [some (.ref 8), some (.ref p1)] [] M
  refine x_aload_n F.1 (i := 0) rfl rfl ?_
  refine x_getI F.1 (i := 1) rfl fl_CenturyText_22 rfl (by rfl) ?_
  refine x_if_ne F.1 (i := 2) (tgt := 16) rfl (by decide) (fun c => ?_) (fun c => ?_)
  · replace h := if_F c h
    refine x_aload_n F.1 (i := 8) rfl rfl ?_
    refine x_dup F.1 (i := 9) rfl rfl ?_
    refine x_getI F.1 (i := 10) rfl fl_CenturyText_22 rfl (by rfl) ?_
    refine x_iconst F.1 (i := 11) rfl ic_1 ?_
    refine x_isub F.1 (i := 12) rfl ?_
    refine x_putI F.1 (i := 13) rfl fl_CenturyText_22 pf_CenturyText_depth rfl (by rfl) ?_
    replace h := bd_e h
    refine x_aload_n F.1 (i := 14) rfl rfl ?_
    refine x_bipush F.1 (i := 15) rfl bp_24 ?_
    refine x_iconst F.1 (i := 16) rfl ic_0 ?_
    refine x_iconst F.1 (i := 17) rfl ic_0 ?_
    refine cal_e h (fun r4 M3 e5 h => ?_)
    refine x_cV3v F.1 (i := 18) rfl ml_CenturyText_59 ok_Script_add (lk_Script hp1) (Nat.le_of_ble_eq_true rfl) (Nat.le_of_ble_eq_true rfl) (fun _ => t_Script_add hp1 e5) ?_
    refine x_aload_n F.1 (i := 19) rfl rfl ?_
    refine x_aload_n F.1 (i := 20) rfl rfl ?_
    refine x_getC F.1 (i := 21) rfl fl_CenturyText_18 rfl (by rfl) ?_
    refine x_aload_n F.1 (i := 22) rfl rfl ?_
    refine x_getI F.1 (i := 23) rfl fl_CenturyText_22 rfl (by rfl) ?_
    refine gd_e h (fun g6 h => ?_)
    refine x_iald F.1 (i := 24) rfl rfl (inb_e g6) ?_
    refine x_aload_n F.1 (i := 25) rfl rfl ?_
    refine x_getI F.1 (i := 26) rfl fl_CenturyText_63 (lk_Script hp1) (by rfl) ?_
    refine x_iconst F.1 (i := 27) rfl ic_1 ?_
    refine x_isub F.1 (i := 28) rfl ?_
    refine cal_e h (fun r7 M4 e8 h => ?_)
    refine x_cV2v F.1 (i := 29) rfl ml_CenturyText_66 ok_Script_couple (lk_Script hp1) (Nat.le_of_ble_eq_true rfl) (Nat.le_of_ble_eq_true rfl) (fun _ => t_Script_couple hp1 e8) ?_
    refine x_aload_n F.1 (i := 30) rfl rfl ?_
    refine x_getC F.1 (i := 31) rfl fl_CenturyText_12 rfl (by rfl) ?_
    refine cal_e h (fun r9 M5 e10 h => ?_)
    refine x_cV0v F.1 (i := 32) rfl ml_CenturyText_70 ok_Reader_next (lk_Reader (show isReader 9 = true from rfl)) (Nat.le_of_ble_eq_true rfl) (Nat.le_of_ble_eq_true rfl) (fun _ => t_Reader_next (show isReader 9 = true from rfl) e10) ?_
    refine x_iconst F.1 (i := 33) rfl ic_1 ?_
    exact x_zretf F (i := 34) rfl rfl (Or.inr rfl) h (res := (r, M')) hQ
  · replace h := if_T c h
    refine x_aload_n F.1 (i := 3) rfl rfl ?_
    refine x_getC F.1 (i := 4) rfl fl_CenturyText_12 rfl (by rfl) ?_
    refine x_iconst F.1 (i := 5) rfl ic_2 ?_
    refine cal_e h (fun r1 M1 e2 h => ?_)
    refine x_cV1i F.1 (i := 6) rfl ml_CenturyText_52 ok_Reader_fail (lk_Reader (show isReader 9 = true from rfl)) (Nat.le_of_ble_eq_true rfl) (Nat.le_of_ble_eq_true rfl) (fun _ => t_Reader_fail (show isReader 9 = true from rfl) e2) ?_
    refine gd_e h (fun g3 h => ?_)
    exact x_zretf F (i := 7) rfl rfl (b01_e g3) h (res := (r, M')) hQ
set_option maxHeartbeats 4000000 in
theorem t_CenturyText_beginsStep_l12 {w : kx_W} {d : Nat} {Q : Option Value → kx_M → Prop} {G : Nat → List (Option Value) → List Value → kx_M → Prop} (F : Sd w d m_CenturyText_beginsStep Q G) {p0 : Int32} {res : Int32 × kx_M} (hQ : Q (some (.int res.1)) res.2) :
    ∀ (M : kx_M),
    f_CenturyText_beginsStep_l12 p0 M = some res → G 12 [some (.int p0)] [] M := by
  intro M h
  rw [f_CenturyText_beginsStep_l12] at h
  refine x_iload_n F.1 (i := 6) rfl rfl ?_
  refine x_bipush F.1 (i := 7) rfl bp_23 ?_
  refine x_icmp_eq F.1 (i := 8) (tgt := 24) rfl (by decide) (fun c => ?_) (fun c => ?_)
  · replace h := if_T c h
    refine x_iconst F.1 (i := 12) rfl ic_1 ?_
    refine x_goto F.1 (i := 13) (tgt := 29) rfl (by decide) ?_
    exact x_zretf F (i := 15) rfl rfl (Or.inr rfl) h hQ
  · replace h := if_F c h
    refine x_iload_n F.1 (i := 9) rfl rfl ?_
    refine x_bipush F.1 (i := 10) rfl bp_25 ?_
    refine x_icmp_ne F.1 (i := 11) (tgt := 28) rfl (by decide) (fun c => ?_) (fun c => ?_)
    · replace h := if_F c h
      refine x_iconst F.1 (i := 14) rfl ic_0 ?_
      exact x_zretf F (i := 15) rfl rfl (Or.inl rfl) h hQ
    · replace h := if_T c h
      refine x_iconst F.1 (i := 12) rfl ic_1 ?_
      refine x_goto F.1 (i := 13) (tgt := 29) rfl (by decide) ?_
      exact x_zretf F (i := 15) rfl rfl (Or.inr rfl) h hQ
set_option maxHeartbeats 4000000 in
theorem t_CenturyText_beginsStep {w : kx_W} {d : Nat} {M : kx_M} {Q : Option Value → kx_M → Prop} {p0 : Int32} {r : Int32} {M' : kx_M} (h : f_CenturyText_beginsStep p0 M = some (r, M')) (hQ : Q (some (.int r)) M') : Ct w d m_CenturyText_beginsStep [.int p0] M Q := by
  refine mk_ct ok_CenturyText_beginsStep (Nat.le_of_ble_eq_true rfl) (fun G F => ?_)
  rw [f_CenturyText_beginsStep] at h
  show G 0 [some (.int p0)] [] M
  refine x_iload_n F.1 (i := 0) rfl rfl ?_
  refine x_bipush F.1 (i := 1) rfl bp_14 ?_
  refine x_icmp_lt F.1 (i := 2) (tgt := 12) rfl (by decide) (fun c => ?_) (fun c => ?_)
  · replace h := if_T c h
    exact x_wk F.1 ((t_CenturyText_beginsStep_l12 F (res := (r, M')) hQ) _ h) ⟨rfl, trivial⟩
  · replace h := if_F c h
    refine x_iload_n F.1 (i := 3) rfl rfl ?_
    refine x_bipush F.1 (i := 4) rfl bp_19 ?_
    refine x_icmp_le F.1 (i := 5) (tgt := 24) rfl (by decide) (fun c => ?_) (fun c => ?_)
    · replace h := if_T c h
      refine x_iconst F.1 (i := 12) rfl ic_1 ?_
      refine x_goto F.1 (i := 13) (tgt := 29) rfl (by decide) ?_
      exact x_zretf F (i := 15) rfl rfl (Or.inr rfl) h (res := (r, M')) hQ
    · replace h := if_F c h
      exact x_wk F.1 ((t_CenturyText_beginsStep_l12 F (res := (r, M')) hQ) _ h) ⟨rfl, trivial⟩
set_option maxHeartbeats 4000000 in
theorem t_CenturyText_readOne {w : kx_W} {d : Nat} {M : kx_M} {Q : Option Value → kx_M → Prop} {p1 : Nat} {p2 : Int32} {p3 : Int32} {p4 : Int32} {r : Int32} {M' : kx_M} (hp1 : isScript p1 = true) (h : f_CenturyText_readOne p1 p2 p3 p4 M = some (r, M')) (hQ : Q (some (.int r)) M') : Ct w (d + 2) m_CenturyText_readOne [.ref 8, .ref p1, .int p2, .int p3, .int p4] M Q := by
  refine mk_ct ok_CenturyText_readOne (Nat.le_of_ble_eq_true rfl) (fun G F => ?_)
  rw [f_CenturyText_readOne] at h
  show G 0 [some (.ref 8), some (.ref p1), some (.int p2), some (.int p3), some (.int p4)] [] M
  refine x_aload_n F.1 (i := 0) rfl rfl ?_
  refine x_getC F.1 (i := 1) rfl fl_CenturyText_12 rfl (by rfl) ?_
  refine x_iload_n F.1 (i := 2) rfl rfl ?_
  refine x_iload F.1 (i := 3) rfl rfl ?_
  refine cal_e h (fun r1 M1 e2 h => ?_)
  refine x_cV2i F.1 (i := 4) rfl ml_CenturyText_103 ok_Reader_atNumber (lk_Reader (show isReader 9 = true from rfl)) (Nat.le_of_ble_eq_true rfl) (Nat.le_of_ble_eq_true rfl) (fun _ => t_Reader_atNumber (show isReader 9 = true from rfl) e2) ?_
  refine x_if_ne F.1 (i := 5) (tgt := 15) rfl (by decide) (fun c => ?_) (fun c => ?_)
  · replace h := if_F c h
    refine x_aload_n F.1 (i := 8) rfl rfl ?_
    refine x_iload_n F.1 (i := 9) rfl rfl ?_
    refine x_aload_n F.1 (i := 10) rfl rfl ?_
    refine x_getC F.1 (i := 11) rfl fl_CenturyText_12 rfl (by rfl) ?_
    refine x_getI F.1 (i := 12) rfl fl_CenturyText_107 (lk_Reader (show isReader 9 = true from rfl)) (by rfl) ?_
    refine x_iconst F.1 (i := 13) rfl ic_0 ?_
    refine cal_e h (fun r3 M2 e4 h => ?_)
    refine x_cV3v F.1 (i := 14) rfl ml_CenturyText_59 ok_Script_add (lk_Script hp1) (Nat.le_of_ble_eq_true rfl) (Nat.le_of_ble_eq_true rfl) (fun _ => t_Script_add hp1 e4) ?_
    refine x_aload_n F.1 (i := 15) rfl rfl ?_
    refine x_getC F.1 (i := 16) rfl fl_CenturyText_12 rfl (by rfl) ?_
    refine cal_e h (fun r5 M3 e6 h => ?_)
    refine x_cV0v F.1 (i := 17) rfl ml_CenturyText_70 ok_Reader_next (lk_Reader (show isReader 9 = true from rfl)) (Nat.le_of_ble_eq_true rfl) (Nat.le_of_ble_eq_true rfl) (fun _ => t_Reader_next (show isReader 9 = true from rfl) e6) ?_
    refine x_iconst F.1 (i := 18) rfl ic_1 ?_
    exact x_zretf F (i := 19) rfl rfl (Or.inr rfl) h (res := (r, M')) hQ
  · replace h := if_T c h
    refine x_iconst F.1 (i := 6) rfl ic_0 ?_
    exact x_zretf F (i := 7) rfl rfl (Or.inl rfl) h (res := (r, M')) hQ
set_option maxHeartbeats 4000000 in
theorem t_CenturyText_readTwo {w : kx_W} {d : Nat} {M : kx_M} {Q : Option Value → kx_M → Prop} {p1 : Nat} {p2 : Int32} {p3 : Int32} {p4 : Int32} {r : Int32} {M' : kx_M} (hp1 : isScript p1 = true) (h : f_CenturyText_readTwo p1 p2 p3 p4 M = some (r, M')) (hQ : Q (some (.int r)) M') : Ct w (d + 2) m_CenturyText_readTwo [.ref 8, .ref p1, .int p2, .int p3, .int p4] M Q := by
  refine mk_ct ok_CenturyText_readTwo (Nat.le_of_ble_eq_true rfl) (fun G F => ?_)
  rw [f_CenturyText_readTwo] at h
  show G 0 [some (.ref 8), some (.ref p1), some (.int p2), some (.int p3), some (.int p4), none] [] M
  refine x_aload_n F.1 (i := 0) rfl rfl ?_
  refine x_getC F.1 (i := 1) rfl fl_CenturyText_12 rfl (by rfl) ?_
  refine x_iconst F.1 (i := 2) rfl ic_0 ?_
  refine x_iload_n F.1 (i := 3) rfl rfl ?_
  refine cal_e h (fun r1 M1 e2 h => ?_)
  refine x_cV2i F.1 (i := 4) rfl ml_CenturyText_103 ok_Reader_atNumber (lk_Reader (show isReader 9 = true from rfl)) (Nat.le_of_ble_eq_true rfl) (Nat.le_of_ble_eq_true rfl) (fun _ => t_Reader_atNumber (show isReader 9 = true from rfl) e2) ?_
  refine x_if_ne F.1 (i := 5) (tgt := 14) rfl (by decide) (fun c => ?_) (fun c => ?_)
  · replace h := if_F c h
    refine x_aload_n F.1 (i := 8) rfl rfl ?_
    refine x_getC F.1 (i := 9) rfl fl_CenturyText_12 rfl (by rfl) ?_
    refine x_getI F.1 (i := 10) rfl fl_CenturyText_107 (lk_Reader (show isReader 9 = true from rfl)) (by rfl) ?_
    refine x_istore F.1 (i := 11) rfl (Nat.le_of_ble_eq_true rfl) (Nat.le_of_ble_eq_true rfl) rfl ?_
    replace h := bd_e h
    refine x_aload_n F.1 (i := 12) rfl rfl ?_
    refine x_getC F.1 (i := 13) rfl fl_CenturyText_12 rfl (by rfl) ?_
    refine cal_e h (fun r4 M2 e5 h => ?_)
    refine x_cV0v F.1 (i := 14) rfl ml_CenturyText_70 ok_Reader_next (lk_Reader (show isReader 9 = true from rfl)) (Nat.le_of_ble_eq_true rfl) (Nat.le_of_ble_eq_true rfl) (fun _ => t_Reader_next (show isReader 9 = true from rfl) e5) ?_
    refine x_aload_n F.1 (i := 15) rfl rfl ?_
    refine x_getC F.1 (i := 16) rfl fl_CenturyText_12 rfl (by rfl) ?_
    refine x_iconst F.1 (i := 17) rfl ic_0 ?_
    refine x_iload F.1 (i := 18) rfl rfl ?_
    refine cal_e h (fun r6 M3 e7 h => ?_)
    refine x_cV2i F.1 (i := 19) rfl ml_CenturyText_103 ok_Reader_atNumber (lk_Reader (show isReader 9 = true from rfl)) (Nat.le_of_ble_eq_true rfl) (Nat.le_of_ble_eq_true rfl) (fun _ => t_Reader_atNumber (show isReader 9 = true from rfl) e7) ?_
    refine x_if_ne F.1 (i := 20) (tgt := 45) rfl (by decide) (fun c => ?_) (fun c => ?_)
    · replace h := if_F c h
      refine x_aload_n F.1 (i := 23) rfl rfl ?_
      refine x_iload_n F.1 (i := 24) rfl rfl ?_
      refine x_iload F.1 (i := 25) rfl rfl ?_
      refine x_aload_n F.1 (i := 26) rfl rfl ?_
      refine x_getC F.1 (i := 27) rfl fl_CenturyText_12 rfl (by rfl) ?_
      refine x_getI F.1 (i := 28) rfl fl_CenturyText_107 (lk_Reader (show isReader 9 = true from rfl)) (by rfl) ?_
      refine cal_e h (fun r8 M4 e9 h => ?_)
      refine x_cV3v F.1 (i := 29) rfl ml_CenturyText_59 ok_Script_add (lk_Script hp1) (Nat.le_of_ble_eq_true rfl) (Nat.le_of_ble_eq_true rfl) (fun _ => t_Script_add hp1 e9) ?_
      refine x_aload_n F.1 (i := 30) rfl rfl ?_
      refine x_getC F.1 (i := 31) rfl fl_CenturyText_12 rfl (by rfl) ?_
      refine cal_e h (fun r10 M5 e11 h => ?_)
      refine x_cV0v F.1 (i := 32) rfl ml_CenturyText_70 ok_Reader_next (lk_Reader (show isReader 9 = true from rfl)) (Nat.le_of_ble_eq_true rfl) (Nat.le_of_ble_eq_true rfl) (fun _ => t_Reader_next (show isReader 9 = true from rfl) e11) ?_
      refine x_iconst F.1 (i := 33) rfl ic_1 ?_
      exact x_zretf F (i := 34) rfl rfl (Or.inr rfl) h (res := (r, M')) hQ
    · replace h := if_T c h
      refine x_iconst F.1 (i := 21) rfl ic_0 ?_
      exact x_zretf F (i := 22) rfl rfl (Or.inl rfl) h (res := (r, M')) hQ
  · replace h := if_T c h
    refine x_iconst F.1 (i := 6) rfl ic_0 ?_
    exact x_zretf F (i := 7) rfl rfl (Or.inl rfl) h (res := (r, M')) hQ
set_option maxHeartbeats 4000000 in
theorem t_CenturyText_readSaid {w : kx_W} {d : Nat} {M : kx_M} {Q : Option Value → kx_M → Prop} {p1 : Nat} {p2 : Nat} {r : Int32} {M' : kx_M} (hp1 : isDeal p1 = true) (hp2 : isScript p2 = true) (h : f_CenturyText_readSaid p1 p2 M = some (r, M')) (hQ : Q (some (.int r)) M') : Ct w (d + 2) m_CenturyText_readSaid [.ref 8, .ref p1, .ref p2] M Q := by
  refine mk_ct ok_CenturyText_readSaid (Nat.le_of_ble_eq_true rfl) (fun G F => ?_)
  rw [f_CenturyText_readSaid] at h
  show G 0 [some (.ref 8), some (.ref p1), some (.ref p2), none] [] M
  refine x_aload_n F.1 (i := 0) rfl rfl ?_
  refine x_getC F.1 (i := 1) rfl fl_CenturyText_12 rfl (by rfl) ?_
  refine x_getI F.1 (i := 2) rfl fl_CenturyText_37 (lk_Reader (show isReader 9 = true from rfl)) (by rfl) ?_
  refine x_bipush F.1 (i := 3) rfl bp_26 ?_
  refine x_icmp_eq F.1 (i := 4) (tgt := 21) rfl (by decide) (fun c => ?_) (fun c => ?_)
  · replace h := if_T c h
    refine x_aload_n F.1 (i := 10) rfl rfl ?_
    refine x_aload_n F.1 (i := 11) rfl rfl ?_
    refine x_getC F.1 (i := 12) rfl fl_CenturyText_12 rfl (by rfl) ?_
    refine x_getJ F.1 (i := 13) rfl fl_CenturyText_121 (lk_Reader (show isReader 9 = true from rfl)) (by rfl) ?_
    refine cal_e h (fun r1 M1 e2 h => ?_)
    refine x_cV1i F.1 (i := 14) rfl ml_CenturyText_125 ok_Deal_clauseNamed (lk_Deal hp1) (Nat.le_of_ble_eq_true rfl) (Nat.le_of_ble_eq_true rfl) (fun _ => t_Deal_clauseNamed hp1 e2) ?_
    refine x_istore_n F.1 (i := 15) rfl (Nat.le_of_ble_eq_true rfl) (Nat.le_of_ble_eq_true rfl) rfl ?_
    refine x_iload_n F.1 (i := 16) rfl rfl ?_
    refine x_iconst F.1 (i := 17) rfl ic_n1 ?_
    refine x_icmp_ne F.1 (i := 18) (tgt := 47) rfl (by decide) (fun c => ?_) (fun c => ?_)
    · replace h := if_F c h
      refine x_aload_n F.1 (i := 24) rfl rfl ?_
      refine x_bipush F.1 (i := 25) rfl bp_20 ?_
      refine x_iload_n F.1 (i := 26) rfl rfl ?_
      refine x_iconst F.1 (i := 27) rfl ic_0 ?_
      refine cal_e h (fun r6 M3 e7 h => ?_)
      refine x_cV3v F.1 (i := 28) rfl ml_CenturyText_59 ok_Script_add (lk_Script hp2) (Nat.le_of_ble_eq_true rfl) (Nat.le_of_ble_eq_true rfl) (fun _ => t_Script_add hp2 e7) ?_
      refine x_aload_n F.1 (i := 29) rfl rfl ?_
      refine x_getC F.1 (i := 30) rfl fl_CenturyText_12 rfl (by rfl) ?_
      refine cal_e h (fun r8 M4 e9 h => ?_)
      refine x_cV0v F.1 (i := 31) rfl ml_CenturyText_70 ok_Reader_next (lk_Reader (show isReader 9 = true from rfl)) (Nat.le_of_ble_eq_true rfl) (Nat.le_of_ble_eq_true rfl) (fun _ => t_Reader_next (show isReader 9 = true from rfl) e9) ?_
      refine x_iconst F.1 (i := 32) rfl ic_1 ?_
      exact x_zretf F (i := 33) rfl rfl (Or.inr rfl) h (res := (r, M')) hQ
    · replace h := if_T c h
      refine x_aload_n F.1 (i := 19) rfl rfl ?_
      refine x_getC F.1 (i := 20) rfl fl_CenturyText_12 rfl (by rfl) ?_
      refine x_iconst F.1 (i := 21) rfl ic_3 ?_
      refine cal_e h (fun r3 M2 e4 h => ?_)
      refine x_cV1i F.1 (i := 22) rfl ml_CenturyText_52 ok_Reader_fail (lk_Reader (show isReader 9 = true from rfl)) (Nat.le_of_ble_eq_true rfl) (Nat.le_of_ble_eq_true rfl) (fun _ => t_Reader_fail (show isReader 9 = true from rfl) e4) ?_
      refine gd_e h (fun g5 h => ?_)
      exact x_zretf F (i := 23) rfl rfl (b01_e g5) h (res := (r, M')) hQ
  · replace h := if_F c h
    refine x_aload_n F.1 (i := 5) rfl rfl ?_
    refine x_getC F.1 (i := 6) rfl fl_CenturyText_12 rfl (by rfl) ?_
    refine x_iconst F.1 (i := 7) rfl ic_2 ?_
    refine cal_e h (fun r10 M5 e11 h => ?_)
    refine x_cV1i F.1 (i := 8) rfl ml_CenturyText_52 ok_Reader_fail (lk_Reader (show isReader 9 = true from rfl)) (Nat.le_of_ble_eq_true rfl) (Nat.le_of_ble_eq_true rfl) (fun _ => t_Reader_fail (show isReader 9 = true from rfl) e11) ?_
    refine gd_e h (fun g12 h => ?_)
    exact x_zretf F (i := 9) rfl rfl (b01_e g12) h (res := (r, M')) hQ
set_option maxHeartbeats 4000000 in
theorem t_CenturyText_readUndone {w : kx_W} {d : Nat} {M : kx_M} {Q : Option Value → kx_M → Prop} {p1 : Nat} {r : Int32} {M' : kx_M} (hp1 : isScript p1 = true) (h : f_CenturyText_readUndone p1 M = some (r, M')) (hQ : Q (some (.int r)) M') : Ct w (d + 2) m_CenturyText_readUndone [.ref 8, .ref p1] M Q := by
  refine mk_ct ok_CenturyText_readUndone (Nat.le_of_ble_eq_true rfl) (fun G F => ?_)
  rw [f_CenturyText_readUndone] at h
  show G 0 [some (.ref 8), some (.ref p1), none] [] M
  refine x_aload_n F.1 (i := 0) rfl rfl ?_
  refine x_getC F.1 (i := 1) rfl fl_CenturyText_12 rfl (by rfl) ?_
  refine x_getI F.1 (i := 2) rfl fl_CenturyText_34 (lk_Reader (show isReader 9 = true from rfl)) (by rfl) ?_
  refine x_iconst F.1 (i := 3) rfl ic_4 ?_
  refine x_icmp_ne F.1 (i := 4) (tgt := 23) rfl (by decide) (fun c => ?_) (fun c => ?_)
  · replace h := if_F c h
    refine x_aload_n F.1 (i := 10) rfl rfl ?_
    refine x_getC F.1 (i := 11) rfl fl_CenturyText_12 rfl (by rfl) ?_
    refine x_iconst F.1 (i := 12) rfl ic_2 ?_
    refine cal_e h (fun r13 M6 e14 h => ?_)
    refine x_cV1i F.1 (i := 13) rfl ml_CenturyText_52 ok_Reader_fail (lk_Reader (show isReader 9 = true from rfl)) (Nat.le_of_ble_eq_true rfl) (Nat.le_of_ble_eq_true rfl) (fun _ => t_Reader_fail (show isReader 9 = true from rfl) e14) ?_
    refine gd_e h (fun g15 h => ?_)
    exact x_zretf F (i := 14) rfl rfl (b01_e g15) h (res := (r, M')) hQ
  · replace h := if_T c h
    refine x_aload_n F.1 (i := 5) rfl rfl ?_
    refine x_getC F.1 (i := 6) rfl fl_CenturyText_12 rfl (by rfl) ?_
    refine x_getI F.1 (i := 7) rfl fl_CenturyText_131 (lk_Reader (show isReader 9 = true from rfl)) (by rfl) ?_
    refine x_bipush F.1 (i := 8) rfl bp_59 ?_
    refine x_icmp_ne F.1 (i := 9) (tgt := 32) rfl (by decide) (fun c => ?_) (fun c => ?_)
    · replace h := if_F c h
      refine x_aload_n F.1 (i := 15) rfl rfl ?_
      refine x_getC F.1 (i := 16) rfl fl_CenturyText_12 rfl (by rfl) ?_
      refine x_getI F.1 (i := 17) rfl fl_CenturyText_131 (lk_Reader (show isReader 9 = true from rfl)) (by rfl) ?_
      refine x_istore_n F.1 (i := 18) rfl (Nat.le_of_ble_eq_true rfl) (Nat.le_of_ble_eq_true rfl) rfl ?_
      replace h := bd_e h
      refine x_aload_n F.1 (i := 19) rfl rfl ?_
      refine x_getC F.1 (i := 20) rfl fl_CenturyText_12 rfl (by rfl) ?_
      refine cal_e h (fun r5 M2 e6 h => ?_)
      refine x_cV0v F.1 (i := 21) rfl ml_CenturyText_70 ok_Reader_next (lk_Reader (show isReader 9 = true from rfl)) (Nat.le_of_ble_eq_true rfl) (Nat.le_of_ble_eq_true rfl) (fun _ => t_Reader_next (show isReader 9 = true from rfl) e6) ?_
      refine x_aload_n F.1 (i := 22) rfl rfl ?_
      refine x_getC F.1 (i := 23) rfl fl_CenturyText_12 rfl (by rfl) ?_
      refine x_iconst F.1 (i := 24) rfl ic_0 ?_
      refine x_bipush F.1 (i := 25) rfl bp_99 ?_
      refine cal_e h (fun r7 M3 e8 h => ?_)
      refine x_cV2i F.1 (i := 26) rfl ml_CenturyText_103 ok_Reader_atNumber (lk_Reader (show isReader 9 = true from rfl)) (Nat.le_of_ble_eq_true rfl) (Nat.le_of_ble_eq_true rfl) (fun _ => t_Reader_atNumber (show isReader 9 = true from rfl) e8) ?_
      refine x_if_ne F.1 (i := 27) (tgt := 62) rfl (by decide) (fun c => ?_) (fun c => ?_)
      · replace h := if_F c h
        refine x_aload_n F.1 (i := 30) rfl rfl ?_
        refine x_bipush F.1 (i := 31) rfl bp_22 ?_
        refine x_iload_n F.1 (i := 32) rfl rfl ?_
        refine x_aload_n F.1 (i := 33) rfl rfl ?_
        refine x_getC F.1 (i := 34) rfl fl_CenturyText_12 rfl (by rfl) ?_
        refine x_getI F.1 (i := 35) rfl fl_CenturyText_107 (lk_Reader (show isReader 9 = true from rfl)) (by rfl) ?_
        refine cal_e h (fun r9 M4 e10 h => ?_)
        refine x_cV3v F.1 (i := 36) rfl ml_CenturyText_59 ok_Script_add (lk_Script hp1) (Nat.le_of_ble_eq_true rfl) (Nat.le_of_ble_eq_true rfl) (fun _ => t_Script_add hp1 e10) ?_
        refine x_aload_n F.1 (i := 37) rfl rfl ?_
        refine x_getC F.1 (i := 38) rfl fl_CenturyText_12 rfl (by rfl) ?_
        refine cal_e h (fun r11 M5 e12 h => ?_)
        refine x_cV0v F.1 (i := 39) rfl ml_CenturyText_70 ok_Reader_next (lk_Reader (show isReader 9 = true from rfl)) (Nat.le_of_ble_eq_true rfl) (Nat.le_of_ble_eq_true rfl) (fun _ => t_Reader_next (show isReader 9 = true from rfl) e12) ?_
        refine x_iconst F.1 (i := 40) rfl ic_1 ?_
        exact x_zretf F (i := 41) rfl rfl (Or.inr rfl) h (res := (r, M')) hQ
      · replace h := if_T c h
        refine x_iconst F.1 (i := 28) rfl ic_0 ?_
        exact x_zretf F (i := 29) rfl rfl (Or.inl rfl) h (res := (r, M')) hQ
    · replace h := if_T c h
      refine x_aload_n F.1 (i := 10) rfl rfl ?_
      refine x_getC F.1 (i := 11) rfl fl_CenturyText_12 rfl (by rfl) ?_
      refine x_iconst F.1 (i := 12) rfl ic_2 ?_
      refine cal_e h (fun r1 M1 e2 h => ?_)
      refine x_cV1i F.1 (i := 13) rfl ml_CenturyText_52 ok_Reader_fail (lk_Reader (show isReader 9 = true from rfl)) (Nat.le_of_ble_eq_true rfl) (Nat.le_of_ble_eq_true rfl) (fun _ => t_Reader_fail (show isReader 9 = true from rfl) e2) ?_
      refine gd_e h (fun g3 h => ?_)
      exact x_zretf F (i := 14) rfl rfl (b01_e g3) h (res := (r, M')) hQ
set_option maxHeartbeats 4000000 in
theorem t_CenturyText_readTest {w : kx_W} {d : Nat} {M : kx_M} {Q : Option Value → kx_M → Prop} {p1 : Nat} {p2 : Nat} {r : Int32} {M' : kx_M} (hp1 : isState p1 = true) (hp2 : isScript p2 = true) (h : f_CenturyText_readTest p1 p2 M = some (r, M')) (hQ : Q (some (.int r)) M') : Ct w (d + 3) m_CenturyText_readTest [.ref 8, .ref p1, .ref p2] M Q := by
  refine mk_ct ok_CenturyText_readTest (Nat.le_of_ble_eq_true rfl) (fun G F => ?_)
  rw [f_CenturyText_readTest] at h
  show G 0 [some (.ref 8), some (.ref p1), some (.ref p2), none] [] M
  refine x_aload_n F.1 (i := 0) rfl rfl ?_
  refine x_getC F.1 (i := 1) rfl fl_CenturyText_12 rfl (by rfl) ?_
  refine x_getI F.1 (i := 2) rfl fl_CenturyText_37 (lk_Reader (show isReader 9 = true from rfl)) (by rfl) ?_
  refine x_istore_n F.1 (i := 3) rfl (Nat.le_of_ble_eq_true rfl) (Nat.le_of_ble_eq_true rfl) rfl ?_
  replace h := bd_e h
  refine x_iload_n F.1 (i := 4) rfl rfl ?_
  refine ite_e h (fun c20 h => ?_) (fun c20 h => ?_)
  · refine x_tabIn F.1 (i := 5) (tgt := 36) rfl (by rw [c20]; decide) (by rw [c20]; decide) (by rw [c20]; rfl) (by decide) ?_
    refine x_aload_n F.1 (i := 6) rfl rfl ?_
    refine x_getC F.1 (i := 7) rfl fl_CenturyText_12 rfl (by rfl) ?_
    refine cal_e h (fun r2 M1 e3 h => ?_)
    refine x_cV0v F.1 (i := 8) rfl ml_CenturyText_70 ok_Reader_next (lk_Reader (show isReader 9 = true from rfl)) (Nat.le_of_ble_eq_true rfl) (Nat.le_of_ble_eq_true rfl) (fun _ => t_Reader_next (show isReader 9 = true from rfl) e3) ?_
    refine x_aload_n F.1 (i := 9) rfl rfl ?_
    refine x_aload_n F.1 (i := 10) rfl rfl ?_
    refine x_getC F.1 (i := 11) rfl fl_CenturyText_110 (lk_State hp1) (by rfl) ?_
    refine x_aload_n F.1 (i := 12) rfl rfl ?_
    refine cal_e h (fun r4 M2 e5 h => ?_)
    refine x_cV2i F.1 (i := 13) rfl ml_CenturyText_114 ok_CenturyText_readSaid rfl (Nat.le_of_ble_eq_true rfl) (Nat.le_of_ble_eq_true rfl) (fun _ => t_CenturyText_readSaid (lD_State_deal hp1) hp2 e5) ?_
    refine gd_e h (fun g6 h => ?_)
    exact x_zretf F (i := 14) rfl rfl (b01_e g6) h (res := (r, M')) hQ
  refine ite_e h (fun c21 h => ?_) (fun c21 h => ?_)
  · refine x_tabIn F.1 (i := 5) (tgt := 53) rfl (by rw [c21]; decide) (by rw [c21]; decide) (by rw [c21]; rfl) (by decide) ?_
    refine x_aload_n F.1 (i := 15) rfl rfl ?_
    refine x_getC F.1 (i := 16) rfl fl_CenturyText_12 rfl (by rfl) ?_
    refine cal_e h (fun r7 M3 e8 h => ?_)
    refine x_cV0v F.1 (i := 17) rfl ml_CenturyText_70 ok_Reader_next (lk_Reader (show isReader 9 = true from rfl)) (Nat.le_of_ble_eq_true rfl) (Nat.le_of_ble_eq_true rfl) (fun _ => t_Reader_next (show isReader 9 = true from rfl) e8) ?_
    refine x_aload_n F.1 (i := 18) rfl rfl ?_
    refine x_aload_n F.1 (i := 19) rfl rfl ?_
    refine x_iload_n F.1 (i := 20) rfl rfl ?_
    refine x_iconst F.1 (i := 21) rfl ic_0 ?_
    refine x_aload_n F.1 (i := 22) rfl rfl ?_
    refine x_getC F.1 (i := 23) rfl fl_CenturyText_83 (lk_State hp1) (by rfl) ?_
    refine x_getI F.1 (i := 24) rfl fl_CenturyText_89 (lk_Cloth (lD_State_cloth hp1)) (by rfl) ?_
    refine x_iconst F.1 (i := 25) rfl ic_1 ?_
    refine x_isub F.1 (i := 26) rfl ?_
    refine cal_e h (fun r9 M4 e10 h => ?_)
    refine x_cV4i F.1 (i := 27) rfl ml_CenturyText_79 ok_CenturyText_readOne rfl (Nat.le_of_ble_eq_true rfl) (Nat.le_of_ble_eq_true rfl) (fun _ => t_CenturyText_readOne hp2 e10) ?_
    refine gd_e h (fun g11 h => ?_)
    exact x_zretf F (i := 28) rfl rfl (b01_e g11) h (res := (r, M')) hQ
  refine ite_e h (fun c22 h => ?_) (fun c22 h => ?_)
  · refine x_tabIn F.1 (i := 5) (tgt := 77) rfl (by rw [c22]; decide) (by rw [c22]; decide) (by rw [c22]; rfl) (by decide) ?_
    refine x_aload_n F.1 (i := 29) rfl rfl ?_
    refine x_getC F.1 (i := 30) rfl fl_CenturyText_12 rfl (by rfl) ?_
    refine cal_e h (fun r12 M5 e13 h => ?_)
    refine x_cV0v F.1 (i := 31) rfl ml_CenturyText_70 ok_Reader_next (lk_Reader (show isReader 9 = true from rfl)) (Nat.le_of_ble_eq_true rfl) (Nat.le_of_ble_eq_true rfl) (fun _ => t_Reader_next (show isReader 9 = true from rfl) e13) ?_
    refine x_aload_n F.1 (i := 32) rfl rfl ?_
    refine x_aload_n F.1 (i := 33) rfl rfl ?_
    refine cal_e h (fun r14 M6 e15 h => ?_)
    refine x_cV1i F.1 (i := 34) rfl ml_CenturyText_118 ok_CenturyText_readUndone rfl (Nat.le_of_ble_eq_true rfl) (Nat.le_of_ble_eq_true rfl) (fun _ => t_CenturyText_readUndone hp2 e15) ?_
    refine gd_e h (fun g16 h => ?_)
    exact x_zretf F (i := 35) rfl rfl (b01_e g16) h (res := (r, M')) hQ
  have c20z := ne_toInt (z := 20) c20 (by decide)
  have c21z := ne_toInt (z := 21) c21 (by decide)
  have c22z := ne_toInt (z := 22) c22 (by decide)
  refine x_tabOut F.1 (i := 5) (tgt := 90) rfl (by omega) (by decide) ?_
  refine x_aload_n F.1 (i := 36) rfl rfl ?_
  refine x_getC F.1 (i := 37) rfl fl_CenturyText_12 rfl (by rfl) ?_
  refine x_iconst F.1 (i := 38) rfl ic_2 ?_
  refine cal_e h (fun r17 M7 e18 h => ?_)
  refine x_cV1i F.1 (i := 39) rfl ml_CenturyText_52 ok_Reader_fail (lk_Reader (show isReader 9 = true from rfl)) (Nat.le_of_ble_eq_true rfl) (Nat.le_of_ble_eq_true rfl) (fun _ => t_Reader_fail (show isReader 9 = true from rfl) e18) ?_
  refine gd_e h (fun g19 h => ?_)
  exact x_zretf F (i := 40) rfl rfl (b01_e g19) h (res := (r, M')) hQ
set_option maxHeartbeats 4000000 in
theorem t_CenturyText_readStep_l123 {w : kx_W} {d : Nat} {Q : Option Value → kx_M → Prop} {G : Nat → List (Option Value) → List Value → kx_M → Prop} (F : Sd w (d + 4) m_CenturyText_readStep Q G) {p1 : Nat} {p2 : Nat} (hp1 : isState p1 = true) (hp2 : isScript p2 = true) {res : Int32 × kx_M} (hQ : Q (some (.int res.1)) res.2) :
    ∀ (x3 : Int32) (M : kx_M),
    f_CenturyText_readStep_l123 p1 p2 x3 M = some res → G 123 [some (.ref 8), some (.ref p1), some (.ref p2), some (.int x3), none] [] M := by
  intro x3 M h
  rw [f_CenturyText_readStep_l123] at h
  refine x_aload_n F.1 (i := 63) rfl rfl ?_
  refine x_getC F.1 (i := 64) rfl fl_CenturyText_12 rfl (by rfl) ?_
  refine cal_e h (fun r1 M1 e2 h => ?_)
  refine x_cV0v F.1 (i := 65) rfl ml_CenturyText_70 ok_Reader_next (lk_Reader (show isReader 9 = true from rfl)) (Nat.le_of_ble_eq_true rfl) (Nat.le_of_ble_eq_true rfl) (fun _ => t_Reader_next (show isReader 9 = true from rfl) e2) ?_
  refine x_iload_n F.1 (i := 66) rfl rfl ?_
  refine ite_e h (fun c14 h => ?_) (fun c14 h => ?_)
  · refine x_tabIn F.1 (i := 67) (tgt := 184) rfl (by rw [c14]; decide) (by rw [c14]; decide) (by rw [c14]; rfl) (by decide) ?_
    refine x_aload_n F.1 (i := 68) rfl rfl ?_
    refine x_aload_n F.1 (i := 69) rfl rfl ?_
    refine x_iload_n F.1 (i := 70) rfl rfl ?_
    refine x_iconst F.1 (i := 71) rfl ic_1 ?_
    refine x_bipush F.1 (i := 72) rfl bp_20 ?_
    refine cal_e h (fun r3 M2 e4 h => ?_)
    refine x_cV4i F.1 (i := 73) rfl ml_CenturyText_79 ok_CenturyText_readOne rfl (Nat.le_of_ble_eq_true rfl) (Nat.le_of_ble_eq_true rfl) (fun _ => t_CenturyText_readOne hp2 e4) ?_
    refine gd_e h (fun g5 h => ?_)
    exact x_zretf F (i := 74) rfl rfl (b01_e g5) h hQ
  refine ite_e h (fun c15 h => ?_) (fun c15 h => ?_)
  · refine x_tabIn F.1 (i := 67) (tgt := 204) rfl (by rw [c15]; decide) (by rw [c15]; decide) (by rw [c15]; rfl) (by decide) ?_
    refine x_aload_n F.1 (i := 82) rfl rfl ?_
    refine x_aload_n F.1 (i := 83) rfl rfl ?_
    refine x_iload_n F.1 (i := 84) rfl rfl ?_
    refine x_aload_n F.1 (i := 85) rfl rfl ?_
    refine x_getC F.1 (i := 86) rfl fl_CenturyText_83 (lk_State hp1) (by rfl) ?_
    refine x_getI F.1 (i := 87) rfl fl_CenturyText_89 (lk_Cloth (lD_State_cloth hp1)) (by rfl) ?_
    refine x_iconst F.1 (i := 88) rfl ic_1 ?_
    refine x_isub F.1 (i := 89) rfl ?_
    refine x_iconst F.1 (i := 90) rfl ic_1 ?_
    refine cal_e h (fun r6 M3 e7 h => ?_)
    refine x_cV4i F.1 (i := 91) rfl ml_CenturyText_94 ok_CenturyText_readTwo rfl (Nat.le_of_ble_eq_true rfl) (Nat.le_of_ble_eq_true rfl) (fun _ => t_CenturyText_readTwo hp2 e7) ?_
    refine gd_e h (fun g8 h => ?_)
    exact x_zretf F (i := 92) rfl rfl (b01_e g8) h hQ
  refine ite_e h (fun c16 h => ?_) (fun c16 h => ?_)
  · refine x_tabIn F.1 (i := 67) (tgt := 221) rfl (by rw [c16]; decide) (by rw [c16]; decide) (by rw [c16]; rfl) (by decide) ?_
    refine x_aload_n F.1 (i := 93) rfl rfl ?_
    refine x_aload_n F.1 (i := 94) rfl rfl ?_
    refine x_iload_n F.1 (i := 95) rfl rfl ?_
    refine x_aload_n F.1 (i := 96) rfl rfl ?_
    refine x_getC F.1 (i := 97) rfl fl_CenturyText_83 (lk_State hp1) (by rfl) ?_
    refine x_getI F.1 (i := 98) rfl fl_CenturyText_89 (lk_Cloth (lD_State_cloth hp1)) (by rfl) ?_
    refine x_iconst F.1 (i := 99) rfl ic_1 ?_
    refine x_isub F.1 (i := 100) rfl ?_
    refine x_aload_n F.1 (i := 101) rfl rfl ?_
    refine x_getC F.1 (i := 102) rfl fl_CenturyText_83 (lk_State hp1) (by rfl) ?_
    refine x_getI F.1 (i := 103) rfl fl_CenturyText_97 (lk_Cloth (lD_State_cloth hp1)) (by rfl) ?_
    refine x_iconst F.1 (i := 104) rfl ic_1 ?_
    refine x_isub F.1 (i := 105) rfl ?_
    refine cal_e h (fun r9 M4 e10 h => ?_)
    refine x_cV4i F.1 (i := 106) rfl ml_CenturyText_94 ok_CenturyText_readTwo rfl (Nat.le_of_ble_eq_true rfl) (Nat.le_of_ble_eq_true rfl) (fun _ => t_CenturyText_readTwo hp2 e10) ?_
    refine gd_e h (fun g11 h => ?_)
    exact x_zretf F (i := 107) rfl rfl (b01_e g11) h hQ
  refine ite_e h (fun c17 h => ?_) (fun c17 h => ?_)
  · refine x_tabIn F.1 (i := 67) (tgt := 221) rfl (by rw [c17]; decide) (by rw [c17]; decide) (by rw [c17]; rfl) (by decide) ?_
    refine x_aload_n F.1 (i := 93) rfl rfl ?_
    refine x_aload_n F.1 (i := 94) rfl rfl ?_
    refine x_iload_n F.1 (i := 95) rfl rfl ?_
    refine x_aload_n F.1 (i := 96) rfl rfl ?_
    refine x_getC F.1 (i := 97) rfl fl_CenturyText_83 (lk_State hp1) (by rfl) ?_
    refine x_getI F.1 (i := 98) rfl fl_CenturyText_89 (lk_Cloth (lD_State_cloth hp1)) (by rfl) ?_
    refine x_iconst F.1 (i := 99) rfl ic_1 ?_
    refine x_isub F.1 (i := 100) rfl ?_
    refine x_aload_n F.1 (i := 101) rfl rfl ?_
    refine x_getC F.1 (i := 102) rfl fl_CenturyText_83 (lk_State hp1) (by rfl) ?_
    refine x_getI F.1 (i := 103) rfl fl_CenturyText_97 (lk_Cloth (lD_State_cloth hp1)) (by rfl) ?_
    refine x_iconst F.1 (i := 104) rfl ic_1 ?_
    refine x_isub F.1 (i := 105) rfl ?_
    refine cal_e h (fun r12 M5 e13 h => ?_)
    refine x_cV4i F.1 (i := 106) rfl ml_CenturyText_94 ok_CenturyText_readTwo rfl (Nat.le_of_ble_eq_true rfl) (Nat.le_of_ble_eq_true rfl) (fun _ => t_CenturyText_readTwo hp2 e13) ?_
    refine gd_e h (fun g14 h => ?_)
    exact x_zretf F (i := 107) rfl rfl (b01_e g14) h hQ
  refine ite_e h (fun c18 h => ?_) (fun c18 h => ?_)
  · refine x_tabIn F.1 (i := 67) (tgt := 253) rfl (by rw [c18]; decide) (by rw [c18]; decide) (by rw [c18]; rfl) (by decide) ?_
    refine x_aload_n F.1 (i := 113) rfl rfl ?_
    refine x_iload_n F.1 (i := 114) rfl rfl ?_
    refine x_iconst F.1 (i := 115) rfl ic_0 ?_
    refine x_iconst F.1 (i := 116) rfl ic_0 ?_
    refine cal_e h (fun r15 M6 e16 h => ?_)
    refine x_cV3v F.1 (i := 117) rfl ml_CenturyText_59 ok_Script_add (lk_Script hp2) (Nat.le_of_ble_eq_true rfl) (Nat.le_of_ble_eq_true rfl) (fun _ => t_Script_add hp2 e16) ?_
    refine x_iconst F.1 (i := 118) rfl ic_1 ?_
    exact x_zretf F (i := 119) rfl rfl (Or.inr rfl) h hQ
  refine ite_e h (fun c19 h => ?_) (fun c19 h => ?_)
  · refine x_tabIn F.1 (i := 67) (tgt := 246) rfl (by rw [c19]; decide) (by rw [c19]; decide) (by rw [c19]; rfl) (by decide) ?_
    refine x_aload_n F.1 (i := 108) rfl rfl ?_
    refine x_aload_n F.1 (i := 109) rfl rfl ?_
    refine x_aload_n F.1 (i := 110) rfl rfl ?_
    refine cal_e h (fun r17 M7 e18 h => ?_)
    refine x_cV2i F.1 (i := 111) rfl ml_CenturyText_100 ok_CenturyText_readTest rfl (Nat.le_of_ble_eq_true rfl) (Nat.le_of_ble_eq_true rfl) (fun _ => t_CenturyText_readTest hp1 hp2 e18) ?_
    refine gd_e h (fun g19 h => ?_)
    exact x_zretf F (i := 112) rfl rfl (b01_e g19) h hQ
  refine ite_e h (fun c20 h => ?_) (fun c20 h => ?_)
  · refine x_tabIn F.1 (i := 67) (tgt := 253) rfl (by rw [c20]; decide) (by rw [c20]; decide) (by rw [c20]; rfl) (by decide) ?_
    refine x_aload_n F.1 (i := 113) rfl rfl ?_
    refine x_iload_n F.1 (i := 114) rfl rfl ?_
    refine x_iconst F.1 (i := 115) rfl ic_0 ?_
    refine x_iconst F.1 (i := 116) rfl ic_0 ?_
    refine cal_e h (fun r20 M8 e21 h => ?_)
    refine x_cV3v F.1 (i := 117) rfl ml_CenturyText_59 ok_Script_add (lk_Script hp2) (Nat.le_of_ble_eq_true rfl) (Nat.le_of_ble_eq_true rfl) (fun _ => t_Script_add hp2 e21) ?_
    refine x_iconst F.1 (i := 118) rfl ic_1 ?_
    exact x_zretf F (i := 119) rfl rfl (Or.inr rfl) h hQ
  refine ite_e h (fun c21 h => ?_) (fun c21 h => ?_)
  · refine x_tabIn F.1 (i := 67) (tgt := 253) rfl (by rw [c21]; decide) (by rw [c21]; decide) (by rw [c21]; rfl) (by decide) ?_
    refine x_aload_n F.1 (i := 113) rfl rfl ?_
    refine x_iload_n F.1 (i := 114) rfl rfl ?_
    refine x_iconst F.1 (i := 115) rfl ic_0 ?_
    refine x_iconst F.1 (i := 116) rfl ic_0 ?_
    refine cal_e h (fun r22 M9 e23 h => ?_)
    refine x_cV3v F.1 (i := 117) rfl ml_CenturyText_59 ok_Script_add (lk_Script hp2) (Nat.le_of_ble_eq_true rfl) (Nat.le_of_ble_eq_true rfl) (fun _ => t_Script_add hp2 e23) ?_
    refine x_iconst F.1 (i := 118) rfl ic_1 ?_
    exact x_zretf F (i := 119) rfl rfl (Or.inr rfl) h hQ
  refine ite_e h (fun c22 h => ?_) (fun c22 h => ?_)
  · refine x_tabIn F.1 (i := 67) (tgt := 253) rfl (by rw [c22]; decide) (by rw [c22]; decide) (by rw [c22]; rfl) (by decide) ?_
    refine x_aload_n F.1 (i := 113) rfl rfl ?_
    refine x_iload_n F.1 (i := 114) rfl rfl ?_
    refine x_iconst F.1 (i := 115) rfl ic_0 ?_
    refine x_iconst F.1 (i := 116) rfl ic_0 ?_
    refine cal_e h (fun r24 M10 e25 h => ?_)
    refine x_cV3v F.1 (i := 117) rfl ml_CenturyText_59 ok_Script_add (lk_Script hp2) (Nat.le_of_ble_eq_true rfl) (Nat.le_of_ble_eq_true rfl) (fun _ => t_Script_add hp2 e25) ?_
    refine x_iconst F.1 (i := 118) rfl ic_1 ?_
    exact x_zretf F (i := 119) rfl rfl (Or.inr rfl) h hQ
  refine ite_e h (fun c23 h => ?_) (fun c23 h => ?_)
  · refine x_tabIn F.1 (i := 67) (tgt := 194) rfl (by rw [c23]; decide) (by rw [c23]; decide) (by rw [c23]; rfl) (by decide) ?_
    refine x_aload_n F.1 (i := 75) rfl rfl ?_
    refine x_aload_n F.1 (i := 76) rfl rfl ?_
    refine x_iload_n F.1 (i := 77) rfl rfl ?_
    refine x_iconst F.1 (i := 78) rfl ic_1 ?_
    refine x_bipush F.1 (i := 79) rfl bp_99 ?_
    refine cal_e h (fun r26 M11 e27 h => ?_)
    refine x_cV4i F.1 (i := 80) rfl ml_CenturyText_79 ok_CenturyText_readOne rfl (Nat.le_of_ble_eq_true rfl) (Nat.le_of_ble_eq_true rfl) (fun _ => t_CenturyText_readOne hp2 e27) ?_
    refine gd_e h (fun g28 h => ?_)
    exact x_zretf F (i := 81) rfl rfl (b01_e g28) h hQ
  have c14z := ne_toInt (z := 14) c14 (by decide)
  have c15z := ne_toInt (z := 15) c15 (by decide)
  have c16z := ne_toInt (z := 16) c16 (by decide)
  have c17z := ne_toInt (z := 17) c17 (by decide)
  have c18z := ne_toInt (z := 18) c18 (by decide)
  have c19z := ne_toInt (z := 19) c19 (by decide)
  have c20z := ne_toInt (z := 20) c20 (by decide)
  have c21z := ne_toInt (z := 21) c21 (by decide)
  have c22z := ne_toInt (z := 22) c22 (by decide)
  have c23z := ne_toInt (z := 23) c23 (by decide)
  refine x_tabOut F.1 (i := 67) (tgt := 253) rfl (by omega) (by decide) ?_
  refine x_aload_n F.1 (i := 113) rfl rfl ?_
  refine x_iload_n F.1 (i := 114) rfl rfl ?_
  refine x_iconst F.1 (i := 115) rfl ic_0 ?_
  refine x_iconst F.1 (i := 116) rfl ic_0 ?_
  refine cal_e h (fun r29 M12 e30 h => ?_)
  refine x_cV3v F.1 (i := 117) rfl ml_CenturyText_59 ok_Script_add (lk_Script hp2) (Nat.le_of_ble_eq_true rfl) (Nat.le_of_ble_eq_true rfl) (fun _ => t_Script_add hp2 e30) ?_
  refine x_iconst F.1 (i := 118) rfl ic_1 ?_
  exact x_zretf F (i := 119) rfl rfl (Or.inr rfl) h hQ
set_option maxHeartbeats 4000000 in
theorem t_CenturyText_readStep_l85 {w : kx_W} {d : Nat} {Q : Option Value → kx_M → Prop} {G : Nat → List (Option Value) → List Value → kx_M → Prop} (F : Sd w (d + 4) m_CenturyText_readStep Q G) {p1 : Nat} {p2 : Nat} (hp1 : isState p1 = true) (hp2 : isScript p2 = true) {res : Int32 × kx_M} (hQ : Q (some (.int res.1)) res.2) :
    ∀ (x3 : Int32) (x4 : Int32) (M : kx_M),
    f_CenturyText_readStep_l85 p1 p2 x3 x4 M = some res → G 85 [some (.ref 8), some (.ref p1), some (.ref p2), some (.int x3), some (.int x4)] [] M := by
  intro x3 x4 M h
  rw [f_CenturyText_readStep_l85] at h
  refine x_aload_n F.1 (i := 42) rfl rfl ?_
  refine x_dup F.1 (i := 43) rfl rfl ?_
  refine x_getI F.1 (i := 44) rfl fl_CenturyText_76 (lk_Script hp2) (by rfl) ?_
  refine x_iconst F.1 (i := 45) rfl ic_1 ?_
  refine x_iadd F.1 (i := 46) rfl ?_
  refine x_putI F.1 (i := 47) rfl fl_CenturyText_76 pf_Script_steps (lk_Script hp2) (by rfl) ?_
  replace h := bd_e h
  refine x_iload F.1 (i := 48) rfl rfl ?_
  refine x_if_eq F.1 (i := 49) (tgt := 123) rfl (by decide) (fun c => ?_) (fun c => ?_)
  · replace h := if_T c h
    exact x_wk F.1 ((t_CenturyText_readStep_l123 F hp1 hp2 hQ) _ _ h) ⟨rfl, rfl, rfl, rfl, trivial⟩
  · replace h := if_F c h
    refine x_aload_n F.1 (i := 50) rfl rfl ?_
    refine x_getC F.1 (i := 51) rfl fl_CenturyText_18 rfl (by rfl) ?_
    refine x_aload_n F.1 (i := 52) rfl rfl ?_
    refine x_getI F.1 (i := 53) rfl fl_CenturyText_22 rfl (by rfl) ?_
    refine x_aload_n F.1 (i := 54) rfl rfl ?_
    refine x_getI F.1 (i := 55) rfl fl_CenturyText_63 (lk_Script hp2) (by rfl) ?_
    refine gd_e h (fun g1 h => ?_)
    refine x_iast F.1 (i := 56) rfl rfl (inb_e g1) ?_
    replace h := bd_e h
    refine x_aload_n F.1 (i := 57) rfl rfl ?_
    refine x_dup F.1 (i := 58) rfl rfl ?_
    refine x_getI F.1 (i := 59) rfl fl_CenturyText_22 rfl (by rfl) ?_
    refine x_iconst F.1 (i := 60) rfl ic_1 ?_
    refine x_iadd F.1 (i := 61) rfl ?_
    refine x_putI F.1 (i := 62) rfl fl_CenturyText_22 pf_CenturyText_depth rfl (by rfl) ?_
    replace h := bd_e h
    exact x_wk F.1 ((t_CenturyText_readStep_l123 F hp1 hp2 hQ) _ _ h) ⟨rfl, rfl, rfl, rfl, trivial⟩
set_option maxHeartbeats 4000000 in
theorem t_CenturyText_readStep_l60 {w : kx_W} {d : Nat} {Q : Option Value → kx_M → Prop} {G : Nat → List (Option Value) → List Value → kx_M → Prop} (F : Sd w (d + 4) m_CenturyText_readStep Q G) {p1 : Nat} {p2 : Nat} (hp1 : isState p1 = true) (hp2 : isScript p2 = true) {res : Int32 × kx_M} (hQ : Q (some (.int res.1)) res.2) :
    ∀ (x3 : Int32) (s0 : Int32) (M : kx_M),
    f_CenturyText_readStep_l60 p1 p2 x3 s0 M = some res → G 60 [some (.ref 8), some (.ref p1), some (.ref p2), some (.int x3), none] [.int s0] M := by
  intro x3 s0 M h
  rw [f_CenturyText_readStep_l60] at h
  refine x_istore F.1 (i := 30) rfl (Nat.le_of_ble_eq_true rfl) (Nat.le_of_ble_eq_true rfl) rfl ?_
  refine x_iload F.1 (i := 31) rfl rfl ?_
  refine x_if_eq F.1 (i := 32) (tgt := 85) rfl (by decide) (fun c => ?_) (fun c => ?_)
  · replace h := if_T c h
    exact x_wk F.1 ((t_CenturyText_readStep_l85 F hp1 hp2 hQ) _ _ _ h) ⟨rfl, rfl, rfl, rfl, rfl, trivial⟩
  · replace h := if_F c h
    refine x_aload_n F.1 (i := 33) rfl rfl ?_
    refine x_getI F.1 (i := 34) rfl fl_CenturyText_22 rfl (by rfl) ?_
    refine x_iconst F.1 (i := 35) rfl ic_3 ?_
    refine x_icmp_lt F.1 (i := 36) (tgt := 85) rfl (by decide) (fun c => ?_) (fun c => ?_)
    · replace h := if_T c h
      exact x_wk F.1 ((t_CenturyText_readStep_l85 F hp1 hp2 hQ) _ _ _ h) ⟨rfl, rfl, rfl, rfl, rfl, trivial⟩
    · replace h := if_F c h
      refine x_aload_n F.1 (i := 37) rfl rfl ?_
      refine x_getC F.1 (i := 38) rfl fl_CenturyText_12 rfl (by rfl) ?_
      refine x_bipush F.1 (i := 39) rfl bp_7 ?_
      refine cal_e h (fun r1 M1 e2 h => ?_)
      refine x_cV1i F.1 (i := 40) rfl ml_CenturyText_52 ok_Reader_fail (lk_Reader (show isReader 9 = true from rfl)) (Nat.le_of_ble_eq_true rfl) (Nat.le_of_ble_eq_true rfl) (fun _ => t_Reader_fail (show isReader 9 = true from rfl) e2) ?_
      refine gd_e h (fun g3 h => ?_)
      exact x_zretf F (i := 41) rfl rfl (b01_e g3) h hQ
set_option maxHeartbeats 4000000 in
theorem t_CenturyText_readStep {w : kx_W} {d : Nat} {M : kx_M} {Q : Option Value → kx_M → Prop} {p1 : Nat} {p2 : Nat} {r : Int32} {M' : kx_M} (hp1 : isState p1 = true) (hp2 : isScript p2 = true) (h : f_CenturyText_readStep p1 p2 M = some (r, M')) (hQ : Q (some (.int r)) M') : Ct w (d + 4) m_CenturyText_readStep [.ref 8, .ref p1, .ref p2] M Q := by
  refine mk_ct ok_CenturyText_readStep (Nat.le_of_ble_eq_true rfl) (fun G F => ?_)
  rw [f_CenturyText_readStep] at h
  show G 0 [some (.ref 8), some (.ref p1), some (.ref p2), none, none] [] M
  refine x_aload_n F.1 (i := 0) rfl rfl ?_
  refine x_getC F.1 (i := 1) rfl fl_CenturyText_12 rfl (by rfl) ?_
  refine x_getI F.1 (i := 2) rfl fl_CenturyText_37 (lk_Reader (show isReader 9 = true from rfl)) (by rfl) ?_
  refine x_istore_n F.1 (i := 3) rfl (Nat.le_of_ble_eq_true rfl) (Nat.le_of_ble_eq_true rfl) rfl ?_
  replace h := bd_e h
  refine x_iload_n F.1 (i := 4) rfl rfl ?_
  refine cal_e h (fun r2 M1 e3 h => ?_)
  refine x_cS1i F.1 (i := 5) rfl ml_CenturyText_73 ok_CenturyText_beginsStep (Nat.le_of_ble_eq_true rfl) (Nat.le_of_ble_eq_true rfl) (fun _ => t_CenturyText_beginsStep e3) ?_
  refine x_if_ne F.1 (i := 6) (tgt := 24) rfl (by decide) (fun c => ?_) (fun c => ?_)
  · replace h := if_F c h
    refine x_aload_n F.1 (i := 12) rfl rfl ?_
    refine x_getI F.1 (i := 13) rfl fl_CenturyText_76 (lk_Script hp2) (by rfl) ?_
    refine x_bipush F.1 (i := 14) rfl bp_30 ?_
    refine x_icmp_lt F.1 (i := 15) (tgt := 43) rfl (by decide) (fun c => ?_) (fun c => ?_)
    · replace h := if_T c h
      refine x_iload_n F.1 (i := 21) rfl rfl ?_
      refine x_bipush F.1 (i := 22) rfl bp_19 ?_
      refine x_icmp_eq F.1 (i := 23) (tgt := 55) rfl (by decide) (fun c => ?_) (fun c => ?_)
      · replace h := if_T c h
        refine x_iconst F.1 (i := 27) rfl ic_1 ?_
        refine x_goto F.1 (i := 28) (tgt := 60) rfl (by decide) ?_
        exact x_wk F.1 ((t_CenturyText_readStep_l60 F hp1 hp2 (res := (r, M')) hQ) _ _ _ h) ⟨rfl, rfl, rfl, rfl, trivial⟩
      · replace h := if_F c h
        refine x_iload_n F.1 (i := 24) rfl rfl ?_
        refine x_bipush F.1 (i := 25) rfl bp_23 ?_
        refine x_icmp_ne F.1 (i := 26) (tgt := 59) rfl (by decide) (fun c => ?_) (fun c => ?_)
        · replace h := if_F c h
          refine x_iconst F.1 (i := 29) rfl ic_0 ?_
          exact x_wk F.1 ((t_CenturyText_readStep_l60 F hp1 hp2 (res := (r, M')) hQ) _ _ _ h) ⟨rfl, rfl, rfl, rfl, trivial⟩
        · replace h := if_T c h
          refine x_iconst F.1 (i := 27) rfl ic_1 ?_
          refine x_goto F.1 (i := 28) (tgt := 60) rfl (by decide) ?_
          exact x_wk F.1 ((t_CenturyText_readStep_l60 F hp1 hp2 (res := (r, M')) hQ) _ _ _ h) ⟨rfl, rfl, rfl, rfl, trivial⟩
    · replace h := if_F c h
      refine x_aload_n F.1 (i := 16) rfl rfl ?_
      refine x_getC F.1 (i := 17) rfl fl_CenturyText_12 rfl (by rfl) ?_
      refine x_bipush F.1 (i := 18) rfl bp_6 ?_
      refine cal_e h (fun r7 M3 e8 h => ?_)
      refine x_cV1i F.1 (i := 19) rfl ml_CenturyText_52 ok_Reader_fail (lk_Reader (show isReader 9 = true from rfl)) (Nat.le_of_ble_eq_true rfl) (Nat.le_of_ble_eq_true rfl) (fun _ => t_Reader_fail (show isReader 9 = true from rfl) e8) ?_
      refine gd_e h (fun g9 h => ?_)
      exact x_zretf F (i := 20) rfl rfl (b01_e g9) h (res := (r, M')) hQ
  · replace h := if_T c h
    refine x_aload_n F.1 (i := 7) rfl rfl ?_
    refine x_getC F.1 (i := 8) rfl fl_CenturyText_12 rfl (by rfl) ?_
    refine x_iconst F.1 (i := 9) rfl ic_2 ?_
    refine cal_e h (fun r4 M2 e5 h => ?_)
    refine x_cV1i F.1 (i := 10) rfl ml_CenturyText_52 ok_Reader_fail (lk_Reader (show isReader 9 = true from rfl)) (Nat.le_of_ble_eq_true rfl) (Nat.le_of_ble_eq_true rfl) (fun _ => t_Reader_fail (show isReader 9 = true from rfl) e5) ?_
    refine gd_e h (fun g6 h => ?_)
    exact x_zretf F (i := 11) rfl rfl (b01_e g6) h (res := (r, M')) hQ
set_option maxHeartbeats 4000000 in
theorem t_CenturyText_parse_l93 {w : kx_W} {d : Nat} {Q : Option Value → kx_M → Prop} {G : Nat → List (Option Value) → List Value → kx_M → Prop} (F : Sd w (d + 5) m_CenturyText_parse Q G) {p1 : Nat} {p2 : Int32} {p3 : Nat} {p4 : Nat} (hp3 : isState p3 = true) (hp4 : isScript p4 = true) {res : Int32 × kx_M} (hQ : Q (some (.int res.1)) res.2) :
    ∀ (M : kx_M),
    f_CenturyText_parse_l93 p1 p2 p3 p4 M = some res → G 93 [some (.ref 8), none, none, none, some (.ref p4), none, none] [] M := by
  intro M h
  rw [f_CenturyText_parse_l93] at h
  refine x_aload_n F.1 (i := 44) rfl rfl ?_
  refine x_getI F.1 (i := 45) rfl fl_CenturyText_22 rfl (by rfl) ?_
  refine x_if_le F.1 (i := 46) (tgt := 109) rfl (by decide) (fun c => ?_) (fun c => ?_)
  · replace h := if_T c h
    refine x_aload F.1 (i := 52) rfl rfl ?_
    refine x_iconst F.1 (i := 53) rfl ic_1 ?_
    refine x_putZ F.1 (i := 54) rfl fl_CenturyText_55 pf_Script_there (lk_Script hp4) (by rfl) (Or.inr rfl) ?_
    replace h := bd_e h
    refine x_iconst F.1 (i := 55) rfl ic_1 ?_
    exact x_zretf F (i := 56) rfl rfl (Or.inr rfl) h hQ
  · replace h := if_F c h
    refine x_aload_n F.1 (i := 47) rfl rfl ?_
    refine x_getC F.1 (i := 48) rfl fl_CenturyText_12 rfl (by rfl) ?_
    refine x_iconst F.1 (i := 49) rfl ic_2 ?_
    refine cal_e h (fun r1 M2 e2 h => ?_)
    refine x_cV1i F.1 (i := 50) rfl ml_CenturyText_52 ok_Reader_fail (lk_Reader (show isReader 9 = true from rfl)) (Nat.le_of_ble_eq_true rfl) (Nat.le_of_ble_eq_true rfl) (fun _ => t_Reader_fail (show isReader 9 = true from rfl) e2) ?_
    refine gd_e h (fun g3 h => ?_)
    exact x_zretf F (i := 51) rfl rfl (b01_e g3) h hQ
set_option maxHeartbeats 4000000 in
theorem t_CenturyText_parse_l66 {w : kx_W} {d : Nat} {Q : Option Value → kx_M → Prop} {G : Nat → List (Option Value) → List Value → kx_M → Prop} (F : Sd w (d + 5) m_CenturyText_parse Q G) {p1 : Nat} {p2 : Int32} {p3 : Nat} {p4 : Nat} (hp3 : isState p3 = true) (hp4 : isScript p4 = true) {k22 : Int32 → kx_M → Option (Int32 × kx_M)} {res : Int32 × kx_M} (hQ : Q (some (.int res.1)) res.2) (hk22 : ∀ (x5 : Int32) (M : kx_M), k22 x5 M = some res → G 22 [some (.ref 8), none, some (.int p2), some (.ref p3), some (.ref p4), some (.int x5), none] [] M) :
    ∀ (x5 : Int32) (s0 : Int32) (M : kx_M),
    f_CenturyText_parse_l66 p1 p2 p3 p4 k22 x5 s0 M = some res → G 66 [some (.ref 8), none, some (.int p2), some (.ref p3), some (.ref p4), some (.int x5), none] [.int s0] M := by
  intro x5 s0 M h
  rw [f_CenturyText_parse_l66] at h
  refine x_istore F.1 (i := 32) rfl (Nat.le_of_ble_eq_true rfl) (Nat.le_of_ble_eq_true rfl) rfl ?_
  refine x_iload F.1 (i := 33) rfl rfl ?_
  refine x_if_eq F.1 (i := 34) (tgt := 85) rfl (by decide) (fun c => ?_) (fun c => ?_)
  · replace h := if_T c h
    refine x_iconst F.1 (i := 40) rfl ic_0 ?_
    exact x_zretf F (i := 41) rfl rfl (Or.inl rfl) h hQ
  · replace h := if_F c h
    refine x_aload_n F.1 (i := 35) rfl rfl ?_
    refine x_getC F.1 (i := 36) rfl fl_CenturyText_12 rfl (by rfl) ?_
    refine x_bipush F.1 (i := 37) rfl bp_59 ?_
    refine cal_e h (fun r1 M1 e2 h => ?_)
    refine x_cV1i F.1 (i := 38) rfl ml_CenturyText_48 ok_Reader_takeSign (lk_Reader (show isReader 9 = true from rfl)) (Nat.le_of_ble_eq_true rfl) (Nat.le_of_ble_eq_true rfl) (fun _ => t_Reader_takeSign (show isReader 9 = true from rfl) e2) ?_
    refine x_if_ne F.1 (i := 39) (tgt := 87) rfl (by decide) (fun c => ?_) (fun c => ?_)
    · replace h := if_F c h
      refine x_iinc F.1 (i := 42) rfl rfl rfl (Nat.le_of_ble_eq_true rfl) rfl ?_
      replace h := bd_e h
      refine x_goto F.1 (i := 43) (tgt := 22) rfl (by decide) ?_
      exact x_wk F.1 (hk22 _ _ h) ⟨rfl, rfl, rfl, rfl, rfl, trivial⟩
    · replace h := if_T c h
      refine x_iconst F.1 (i := 40) rfl ic_0 ?_
      exact x_zretf F (i := 41) rfl rfl (Or.inl rfl) h hQ
set_option maxHeartbeats 4000000 in
theorem t_CenturyText_parse_l22 {w : kx_W} {d : Nat} {Q : Option Value → kx_M → Prop} {G : Nat → List (Option Value) → List Value → kx_M → Prop} (F : Sd w (d + 5) m_CenturyText_parse Q G) {p1 : Nat} {p2 : Int32} {p3 : Nat} {p4 : Nat} (hp3 : isState p3 = true) (hp4 : isScript p4 = true) {res : Int32 × kx_M} (hQ : Q (some (.int res.1)) res.2) :
    ∀ (n : Nat) (x5 : Int32) (M : kx_M),
    f_CenturyText_parse_l22 p1 p2 p3 p4 n x5 M = some res → G 22 [some (.ref 8), none, some (.int p2), some (.ref p3), some (.ref p4), some (.int x5), none] [] M := by
  intro n
  induction n with
  | zero =>
    intro x5 M h
    exact absurd h (by rw [f_CenturyText_parse_l22]; exact fun z => nomatch z)
  | succ n ih =>
    intro x5 M h
    rw [f_CenturyText_parse_l22] at h
    refine x_iload F.1 (i := 12) rfl rfl ?_
    refine x_iload_n F.1 (i := 13) rfl rfl ?_
    refine x_icmp_gt F.1 (i := 14) (tgt := 93) rfl (by decide) (fun c => ?_) (fun c => ?_)
    · replace h := if_T c h
      exact x_wk F.1 ((t_CenturyText_parse_l93 F hp3 hp4 hQ) _ h) ⟨rfl, rfl, trivial⟩
    · replace h := if_F c h
      refine x_aload_n F.1 (i := 15) rfl rfl ?_
      refine x_getC F.1 (i := 16) rfl fl_CenturyText_12 rfl (by rfl) ?_
      refine x_getI F.1 (i := 17) rfl fl_CenturyText_34 (lk_Reader (show isReader 9 = true from rfl)) (by rfl) ?_
      refine x_if_eq F.1 (i := 18) (tgt := 93) rfl (by decide) (fun c => ?_) (fun c => ?_)
      · replace h := if_T c h
        exact x_wk F.1 ((t_CenturyText_parse_l93 F hp3 hp4 hQ) _ h) ⟨rfl, rfl, trivial⟩
      · replace h := if_F c h
        refine x_aload_n F.1 (i := 19) rfl rfl ?_
        refine x_getC F.1 (i := 20) rfl fl_CenturyText_12 rfl (by rfl) ?_
        refine x_getI F.1 (i := 21) rfl fl_CenturyText_37 (lk_Reader (show isReader 9 = true from rfl)) (by rfl) ?_
        refine x_bipush F.1 (i := 22) rfl bp_24 ?_
        refine x_icmp_ne F.1 (i := 23) (tgt := 59) rfl (by decide) (fun c => ?_) (fun c => ?_)
        · replace h := if_F c h
          refine x_aload_n F.1 (i := 28) rfl rfl ?_
          refine x_aload_n F.1 (i := 29) rfl rfl ?_
          refine x_aload F.1 (i := 30) rfl rfl ?_
          refine cal_e h (fun r3 M2 e4 h => ?_)
          refine x_cV2i F.1 (i := 31) rfl ml_CenturyText_44 ok_CenturyText_readStep rfl (Nat.le_of_ble_eq_true rfl) (Nat.le_of_ble_eq_true rfl) (fun _ => t_CenturyText_readStep hp3 hp4 e4) ?_
          exact x_wk F.1 ((t_CenturyText_parse_l66 F hp3 hp4 hQ ih) _ _ _ h) ⟨rfl, rfl, rfl, rfl, rfl, trivial⟩
        · replace h := if_T c h
          refine x_aload_n F.1 (i := 24) rfl rfl ?_
          refine x_aload F.1 (i := 25) rfl rfl ?_
          refine cal_e h (fun r1 M1 e2 h => ?_)
          refine x_cV1i F.1 (i := 26) rfl ml_CenturyText_40 ok_CenturyText_readEnd rfl (Nat.le_of_ble_eq_true rfl) (Nat.le_of_ble_eq_true rfl) (fun _ => t_CenturyText_readEnd hp4 e2) ?_
          refine x_goto F.1 (i := 27) (tgt := 66) rfl (by decide) ?_
          exact x_wk F.1 ((t_CenturyText_parse_l66 F hp3 hp4 hQ ih) _ _ _ h) ⟨rfl, rfl, rfl, rfl, rfl, trivial⟩
set_option maxHeartbeats 4000000 in
theorem t_CenturyText_parse {w : kx_W} {d : Nat} {M : kx_M} {Q : Option Value → kx_M → Prop} {p1 : Nat} {p2 : Int32} {p3 : Nat} {p4 : Nat} {r : Int32} {M' : kx_M} (hp3 : isState p3 = true) (hp4 : isScript p4 = true) (h : f_CenturyText_parse p1 p2 p3 p4 M = some (r, M')) (hQ : Q (some (.int r)) M') : Ct w (d + 5) m_CenturyText_parse [.ref 8, .ref p1, .int p2, .ref p3, .ref p4] M Q := by
  refine mk_ct ok_CenturyText_parse (Nat.le_of_ble_eq_true rfl) (fun G F => ?_)
  rw [f_CenturyText_parse] at h
  show G 0 [some (.ref 8), some (.ref p1), some (.int p2), some (.ref p3), some (.ref p4), none, none] [] M
  refine x_aload F.1 (i := 0) rfl rfl ?_
  refine cal_e h (fun r1 M1 e2 h => ?_)
  refine x_cV0v F.1 (i := 1) rfl ml_CenturyText_26 ok_Script_clear (lk_Script hp4) (Nat.le_of_ble_eq_true rfl) (Nat.le_of_ble_eq_true rfl) (fun _ => t_Script_clear hp4 e2) ?_
  refine x_aload_n F.1 (i := 2) rfl rfl ?_
  refine x_iconst F.1 (i := 3) rfl ic_0 ?_
  refine x_putI F.1 (i := 4) rfl fl_CenturyText_22 pf_CenturyText_depth rfl (by rfl) ?_
  replace h := bd_e h
  refine x_aload_n F.1 (i := 5) rfl rfl ?_
  refine x_getC F.1 (i := 6) rfl fl_CenturyText_12 rfl (by rfl) ?_
  refine x_aload_n F.1 (i := 7) rfl rfl ?_
  refine x_iload_n F.1 (i := 8) rfl rfl ?_
  refine cal_e h (fun r3 M3 e4 h => ?_)
  refine x_cV2v F.1 (i := 9) rfl ml_CenturyText_31 ok_Reader_open (lk_Reader (show isReader 9 = true from rfl)) (Nat.le_of_ble_eq_true rfl) (Nat.le_of_ble_eq_true rfl) (fun _ => t_Reader_open (show isReader 9 = true from rfl) e4) ?_
  refine x_iconst F.1 (i := 10) rfl ic_0 ?_
  refine x_istore F.1 (i := 11) rfl (Nat.le_of_ble_eq_true rfl) (Nat.le_of_ble_eq_true rfl) rfl ?_
  exact x_wk F.1 ((t_CenturyText_parse_l22 F hp3 hp4 (res := (r, M')) hQ FU) _ _ h) ⟨rfl, rfl, rfl, rfl, rfl, trivial⟩
set_option maxHeartbeats 4000000 in
theorem t_KT_centuries {w : kx_W} {d : Nat} {M : kx_M} {Q : Option Value → kx_M → Prop} {p1 : Int32} {r : Int32} {M' : kx_M} (h : f_KT_centuries p1 M = some (r, M')) (hQ : Q (some (.int r)) M') : Ct w (d + 6) m_KT_centuries [.ref 0, .int p1] M Q := by
  refine mk_ct ok_KT_centuries (Nat.le_of_ble_eq_true rfl) (fun G F => ?_)
  rw [f_KT_centuries] at h
  show G 0 [some (.ref 0), some (.int p1), none] [] M
  refine x_iload_n F.1 (i := 0) rfl rfl ?_
  refine x_if_lt F.1 (i := 1) (tgt := 19) rfl (by decide) (fun c => ?_) (fun c => ?_)
  · replace h := if_T c h
    refine x_aload_n F.1 (i := 9) rfl rfl ?_
    refine x_iconst F.1 (i := 10) rfl ic_5 ?_
    refine x_putI F.1 (i := 11) rfl fl_KT_78 pf_KT_latest rfl (by rfl) ?_
    replace h := bd_e h
    refine x_iconst F.1 (i := 12) rfl ic_n1 ?_
    exact x_iretf F (i := 13) rfl rfl h (res := (r, M')) hQ
  · replace h := if_F c h
    refine x_iload_n F.1 (i := 2) rfl rfl ?_
    refine x_aload_n F.1 (i := 3) rfl rfl ?_
    refine x_getI F.1 (i := 4) rfl fl_KT_71 rfl (by rfl) ?_
    refine x_icmp_gt F.1 (i := 5) (tgt := 19) rfl (by decide) (fun c => ?_) (fun c => ?_)
    · replace h := if_T c h
      refine x_aload_n F.1 (i := 9) rfl rfl ?_
      refine x_iconst F.1 (i := 10) rfl ic_5 ?_
      refine x_putI F.1 (i := 11) rfl fl_KT_78 pf_KT_latest rfl (by rfl) ?_
      replace h := bd_e h
      refine x_iconst F.1 (i := 12) rfl ic_n1 ?_
      exact x_iretf F (i := 13) rfl rfl h (res := (r, M')) hQ
    · replace h := if_F c h
      refine x_iload_n F.1 (i := 6) rfl rfl ?_
      refine x_sipush F.1 (i := 7) rfl sp_300 ?_
      refine x_icmp_le F.1 (i := 8) (tgt := 26) rfl (by decide) (fun c => ?_) (fun c => ?_)
      · replace h := if_T c h
        refine x_aload_n F.1 (i := 14) rfl rfl ?_
        refine x_iconst F.1 (i := 15) rfl ic_0 ?_
        refine x_putI F.1 (i := 16) rfl fl_KT_71 pf_KT_taped rfl (by rfl) ?_
        replace h := bd_e h
        refine x_aload_n F.1 (i := 17) rfl rfl ?_
        refine x_getC F.1 (i := 18) rfl fl_KT_35 rfl (by rfl) ?_
        refine x_aload_n F.1 (i := 19) rfl rfl ?_
        refine x_getC F.1 (i := 20) rfl fl_KT_15 rfl (by rfl) ?_
        refine x_iload_n F.1 (i := 21) rfl rfl ?_
        refine x_aload_n F.1 (i := 22) rfl rfl ?_
        refine x_getR F.1 (i := 23) rfl fl_KT_64 rfl (by rfl) rfl ?_
        refine gd_e h (fun g1 h => ?_)
        replace h := bd_e h
        refine x_aload_n F.1 (i := 24) rfl rfl ?_
        refine x_getR F.1 (i := 25) rfl fl_KT_68 rfl (by rfl) rfl ?_
        refine gd_e h (fun g3 h => ?_)
        replace h := bd_e h
        refine x_getC F.1 (i := 26) rfl fl_KT_165 (lk_State g3) (by rfl) ?_
        refine cal_e h (fun r5 M4 e6 h => ?_)
        refine x_cV4i F.1 (i := 27) rfl ml_KT_169 ok_CenturyText_parse rfl (Nat.le_of_ble_eq_true rfl) (Nat.le_of_ble_eq_true rfl) (fun _ => t_CenturyText_parse g1 (lD_State_script g3) e6) ?_
        refine x_istore_n F.1 (i := 28) rfl (Nat.le_of_ble_eq_true rfl) (Nat.le_of_ble_eq_true rfl) rfl ?_
        refine x_aload_n F.1 (i := 29) rfl rfl ?_
        refine x_aload_n F.1 (i := 30) rfl rfl ?_
        refine x_iload_n F.1 (i := 31) rfl rfl ?_
        refine x_aload_n F.1 (i := 32) rfl rfl ?_
        refine x_getC F.1 (i := 33) rfl fl_KT_35 rfl (by rfl) ?_
        refine x_getC F.1 (i := 34) rfl fl_KT_172 rfl (by rfl) ?_
        refine cal_e h (fun r7 M5 e8 h => ?_)
        refine x_cV2i F.1 (i := 35) rfl ml_KT_152 ok_KT_told rfl (Nat.le_of_ble_eq_true rfl) (Nat.le_of_ble_eq_true rfl) (fun _ => t_KT_told (show isReader 9 = true from rfl) e8) ?_
        refine cal_e h (fun r9 M6 e10 h => ?_)
        refine x_cV1i F.1 (i := 36) rfl ml_KT_103 ok_KT_refused rfl (Nat.le_of_ble_eq_true rfl) (Nat.le_of_ble_eq_true rfl) (fun _ => t_KT_refused e10) ?_
        refine x_if_eq F.1 (i := 37) (tgt := 76) rfl (by decide) (fun c => ?_) (fun c => ?_)
        · replace h := if_T c h
          refine x_aload_n F.1 (i := 40) rfl rfl ?_
          refine x_getR F.1 (i := 41) rfl fl_KT_64 rfl (by rfl) rfl ?_
          refine gd_e h (fun g11 h => ?_)
          replace h := bd_e h
          refine x_getC F.1 (i := 42) rfl fl_KT_165 (lk_State g11) (by rfl) ?_
          refine x_aload_n F.1 (i := 43) rfl rfl ?_
          refine x_getR F.1 (i := 44) rfl fl_KT_68 rfl (by rfl) rfl ?_
          refine gd_e h (fun g13 h => ?_)
          replace h := bd_e h
          refine x_getC F.1 (i := 45) rfl fl_KT_165 (lk_State g13) (by rfl) ?_
          refine cal_e h (fun r15 M7 e16 h => ?_)
          refine x_cV1v F.1 (i := 46) rfl ml_KT_173 ok_Script_copyFrom (lk_Script (lD_State_script g11)) (Nat.le_of_ble_eq_true rfl) (Nat.le_of_ble_eq_true rfl) (fun _ => t_Script_copyFrom (lD_State_script g11) (lD_State_script g13) e16) ?_
          refine x_aload_n F.1 (i := 47) rfl rfl ?_
          refine x_getR F.1 (i := 48) rfl fl_KT_64 rfl (by rfl) rfl ?_
          refine gd_e h (fun g17 h => ?_)
          replace h := bd_e h
          refine x_getC F.1 (i := 49) rfl fl_KT_165 (lk_State g17) (by rfl) ?_
          refine x_getI F.1 (i := 50) rfl fl_KT_179 (lk_Script (lD_State_script g17)) (by rfl) ?_
          exact x_iretf F (i := 51) rfl rfl h (res := (r, M')) hQ
        · replace h := if_F c h
          refine x_iconst F.1 (i := 38) rfl ic_n1 ?_
          exact x_iretf F (i := 39) rfl rfl h (res := (r, M')) hQ
      · replace h := if_F c h
        refine x_aload_n F.1 (i := 9) rfl rfl ?_
        refine x_iconst F.1 (i := 10) rfl ic_5 ?_
        refine x_putI F.1 (i := 11) rfl fl_KT_78 pf_KT_latest rfl (by rfl) ?_
        replace h := bd_e h
        refine x_iconst F.1 (i := 12) rfl ic_n1 ?_
        exact x_iretf F (i := 13) rfl rfl h (res := (r, M')) hQ
