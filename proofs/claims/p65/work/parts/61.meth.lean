set_option maxHeartbeats 4000000 in
theorem t_Cloth_gapAt {w : kx_W} {d : Nat} {M : kx_M} {Q : Option Value → kx_M → Prop} {p0 : Nat} {p1 : Int32} {p2 : Int32} {r : Int32} {M' : kx_M} (hp0 : isCloth p0 = true) (h : f_Cloth_gapAt p0 p1 p2 M = some (r, M')) (hQ : Q (some (.int r)) M') : Ct w d m_Cloth_gapAt [.ref p0, .int p1, .int p2] M Q := by
  refine mk_ct ok_Cloth_gapAt (Nat.le_of_ble_eq_true rfl) (fun G F => ?_)
  rw [f_Cloth_gapAt] at h
  show G 0 [some (.ref p0), some (.int p1), some (.int p2), none] [] M
  refine x_iload_n F.1 (i := 0) rfl rfl ?_
  refine x_if_lt F.1 (i := 1) (tgt := 12) rfl (by decide) (fun c => ?_) (fun c => ?_)
  · replace h := if_T c h
    refine x_iconst F.1 (i := 6) rfl ic_0 ?_
    exact x_iretf F (i := 7) rfl rfl h (res := (r, M')) hQ
  · replace h := if_F c h
    refine x_iload_n F.1 (i := 2) rfl rfl ?_
    refine x_aload_n F.1 (i := 3) rfl rfl ?_
    refine x_getI F.1 (i := 4) rfl fl_Cloth_27 (lk_Cloth hp0) (by rfl) ?_
    refine x_icmp_lt F.1 (i := 5) (tgt := 14) rfl (by decide) (fun c => ?_) (fun c => ?_)
    · replace h := if_T c h
      refine x_iload_n F.1 (i := 8) rfl rfl ?_
      refine x_bipush F.1 (i := 9) rfl bp_8 ?_
      refine x_imul F.1 (i := 10) rfl ?_
      refine x_iload_n F.1 (i := 11) rfl rfl ?_
      refine x_iadd F.1 (i := 12) rfl ?_
      refine x_istore_n F.1 (i := 13) rfl (Nat.le_of_ble_eq_true rfl) (Nat.le_of_ble_eq_true rfl) rfl ?_
      replace h := bd_e h
      refine x_aload_n F.1 (i := 14) rfl rfl ?_
      refine x_getC F.1 (i := 15) rfl fl_Cloth_15 (lk_Cloth hp0) (by rfl) ?_
      refine x_iload_n F.1 (i := 16) rfl rfl ?_
      refine gd_e h (fun g2 h => ?_)
      refine x_iald F.1 (i := 17) rfl (lk_Cloth_kinds hp0) (inb_e g2) ?_
      refine x_iconst F.1 (i := 18) rfl ic_3 ?_
      refine x_icmp_eq F.1 (i := 19) (tgt := 41) rfl (by decide) (fun c => ?_) (fun c => ?_)
      · replace h := if_T c h
        refine x_iconst F.1 (i := 26) rfl ic_1 ?_
        refine x_goto F.1 (i := 27) (tgt := 46) rfl (by decide) ?_
        exact x_iretf F (i := 29) rfl rfl h (res := (r, M')) hQ
      · replace h := if_F c h
        refine x_aload_n F.1 (i := 20) rfl rfl ?_
        refine x_getC F.1 (i := 21) rfl fl_Cloth_21 (lk_Cloth hp0) (by rfl) ?_
        refine x_iload_n F.1 (i := 22) rfl rfl ?_
        refine gd_e h (fun g3 h => ?_)
        refine x_iald F.1 (i := 23) rfl (lk_Cloth_undone hp0) (inb_e g3) ?_
        refine x_iconst F.1 (i := 24) rfl ic_1 ?_
        refine x_icmp_ne F.1 (i := 25) (tgt := 45) rfl (by decide) (fun c => ?_) (fun c => ?_)
        · replace h := if_F c h
          refine x_iconst F.1 (i := 28) rfl ic_0 ?_
          exact x_iretf F (i := 29) rfl rfl h (res := (r, M')) hQ
        · replace h := if_T c h
          refine x_iconst F.1 (i := 26) rfl ic_1 ?_
          refine x_goto F.1 (i := 27) (tgt := 46) rfl (by decide) ?_
          exact x_iretf F (i := 29) rfl rfl h (res := (r, M')) hQ
    · replace h := if_F c h
      refine x_iconst F.1 (i := 6) rfl ic_0 ?_
      exact x_iretf F (i := 7) rfl rfl h (res := (r, M')) hQ
set_option maxHeartbeats 4000000 in
theorem t_Cloth_wearRow_l2 {w : kx_W} {d : Nat} {Q : Option Value → kx_M → Prop} {G : Nat → List (Option Value) → List Value → kx_M → Prop} (F : Sd w (d + 1) m_Cloth_wearRow Q G) {p0 : Nat} {p1 : Int32} (hp0 : isCloth p0 = true) {res : Unit × kx_M} (hQ : Q none res.2) :
    ∀ (n : Nat) (x2 : Int32) (M : kx_M),
    f_Cloth_wearRow_l2 p0 p1 n x2 M = some res → G 2 [some (.ref p0), some (.int p1), some (.int x2), none, none] [] M := by
  intro n
  induction n with
  | zero =>
    intro x2 M h
    exact absurd h (by rw [f_Cloth_wearRow_l2]; exact fun z => nomatch z)
  | succ n ih =>
    intro x2 M h
    rw [f_Cloth_wearRow_l2] at h
    refine x_iload_n F.1 (i := 2) rfl rfl ?_
    refine x_aload_n F.1 (i := 3) rfl rfl ?_
    refine x_getI F.1 (i := 4) rfl fl_Cloth_27 (lk_Cloth hp0) (by rfl) ?_
    refine x_icmp_ge F.1 (i := 5) (tgt := 71) rfl (by decide) (fun c => ?_) (fun c => ?_)
    · replace h := if_T c h
      exact x_vretf F (i := 44) rfl rfl h hQ
    · replace h := if_F c h
      refine x_iload_n F.1 (i := 6) rfl rfl ?_
      refine x_iload_n F.1 (i := 7) rfl rfl ?_
      refine cal_e h (fun r1 M1 e2 h => ?_)
      refine x_cS2i F.1 (i := 8) rfl ml_Cloth_46 ok_Cloth_at (Nat.le_of_ble_eq_true rfl) (Nat.le_of_ble_eq_true rfl) (fun _ => t_Cloth_at e2) ?_
      refine x_istore_n F.1 (i := 9) rfl (Nat.le_of_ble_eq_true rfl) (Nat.le_of_ble_eq_true rfl) rfl ?_
      refine x_aload_n F.1 (i := 10) rfl rfl ?_
      refine x_iload_n F.1 (i := 11) rfl rfl ?_
      refine cal_e h (fun r3 M2 e4 h => ?_)
      refine x_cV1i F.1 (i := 12) rfl ml_Cloth_61 ok_Cloth_loose (lk_Cloth hp0) (Nat.le_of_ble_eq_true rfl) (Nat.le_of_ble_eq_true rfl) (fun _ => t_Cloth_loose hp0 e4) ?_
      refine x_if_eq F.1 (i := 13) (tgt := 65) rfl (by decide) (fun c => ?_) (fun c => ?_)
      · replace h := if_T c h
        refine x_iinc F.1 (i := 42) rfl rfl rfl (Nat.le_of_ble_eq_true rfl) rfl ?_
        replace h := bd_e h
        refine x_goto F.1 (i := 43) (tgt := 2) rfl (by decide) ?_
        exact x_wk F.1 (ih _ _ h) ⟨rfl, rfl, rfl, trivial⟩
      · replace h := if_F c h
        refine x_iconst F.1 (i := 14) rfl ic_1 ?_
        refine x_aload_n F.1 (i := 15) rfl rfl ?_
        refine x_iload_n F.1 (i := 16) rfl rfl ?_
        refine x_iload_n F.1 (i := 17) rfl rfl ?_
        refine x_iconst F.1 (i := 18) rfl ic_1 ?_
        refine x_isub F.1 (i := 19) rfl ?_
        refine cal_e h (fun r6 M3 e7 h => ?_)
        refine x_cV2i F.1 (i := 20) rfl ml_Cloth_76 ok_Cloth_gapAt (lk_Cloth hp0) (Nat.le_of_ble_eq_true rfl) (Nat.le_of_ble_eq_true rfl) (fun _ => t_Cloth_gapAt hp0 e7) ?_
        refine x_iadd F.1 (i := 21) rfl ?_
        refine x_aload_n F.1 (i := 22) rfl rfl ?_
        refine x_iload_n F.1 (i := 23) rfl rfl ?_
        refine x_iload_n F.1 (i := 24) rfl rfl ?_
        refine x_iconst F.1 (i := 25) rfl ic_1 ?_
        refine x_iadd F.1 (i := 26) rfl ?_
        refine cal_e h (fun r8 M4 e9 h => ?_)
        refine x_cV2i F.1 (i := 27) rfl ml_Cloth_76 ok_Cloth_gapAt (lk_Cloth hp0) (Nat.le_of_ble_eq_true rfl) (Nat.le_of_ble_eq_true rfl) (fun _ => t_Cloth_gapAt hp0 e9) ?_
        refine x_iadd F.1 (i := 28) rfl ?_
        refine x_istore F.1 (i := 29) rfl (Nat.le_of_ble_eq_true rfl) (Nat.le_of_ble_eq_true rfl) rfl ?_
        replace h := bd_e h
        refine x_aload_n F.1 (i := 30) rfl rfl ?_
        refine x_getC F.1 (i := 31) rfl fl_Cloth_18 (lk_Cloth hp0) (by rfl) ?_
        refine x_iload_n F.1 (i := 32) rfl rfl ?_
        refine x_bipush F.1 (i := 33) rfl bp_99 ?_
        refine x_aload_n F.1 (i := 34) rfl rfl ?_
        refine x_getC F.1 (i := 35) rfl fl_Cloth_18 (lk_Cloth hp0) (by rfl) ?_
        refine x_iload_n F.1 (i := 36) rfl rfl ?_
        refine gd_e h (fun g11 h => ?_)
        refine x_iald F.1 (i := 37) rfl (lk_Cloth_worn hp0) (inb_e g11) ?_
        refine x_iload F.1 (i := 38) rfl rfl ?_
        refine x_iadd F.1 (i := 39) rfl ?_
        refine x_mmin F.1 (i := 40) rfl jm_Cloth_79 (Nat.le_of_ble_eq_true rfl) ?_
        refine gd_e h (fun g12 h => ?_)
        refine x_iast F.1 (i := 41) rfl (lk_Cloth_worn hp0) (inb_e g12) ?_
        replace h := bd_e h
        refine x_iinc F.1 (i := 42) rfl rfl rfl (Nat.le_of_ble_eq_true rfl) rfl ?_
        replace h := bd_e h
        refine x_goto F.1 (i := 43) (tgt := 2) rfl (by decide) ?_
        exact x_wk F.1 (ih _ _ h) ⟨rfl, rfl, rfl, trivial⟩
set_option maxHeartbeats 4000000 in
theorem t_Cloth_wearRow {w : kx_W} {d : Nat} {M : kx_M} {Q : Option Value → kx_M → Prop} {p0 : Nat} {p1 : Int32} {r : Unit} {M' : kx_M} (hp0 : isCloth p0 = true) (h : f_Cloth_wearRow p0 p1 M = some (r, M')) (hQ : Q none M') : Ct w (d + 1) m_Cloth_wearRow [.ref p0, .int p1] M Q := by
  refine mk_ct ok_Cloth_wearRow (Nat.le_of_ble_eq_true rfl) (fun G F => ?_)
  rw [f_Cloth_wearRow] at h
  show G 0 [some (.ref p0), some (.int p1), none, none, none] [] M
  refine x_iconst F.1 (i := 0) rfl ic_0 ?_
  refine x_istore_n F.1 (i := 1) rfl (Nat.le_of_ble_eq_true rfl) (Nat.le_of_ble_eq_true rfl) rfl ?_
  exact x_wk F.1 ((t_Cloth_wearRow_l2 F hp0 (res := (r, M')) hQ FU) _ _ h) ⟨rfl, rfl, rfl, trivial⟩
set_option maxHeartbeats 4000000 in
theorem t_Cloth_openRow_l4 {w : kx_W} {d : Nat} {Q : Option Value → kx_M → Prop} {G : Nat → List (Option Value) → List Value → kx_M → Prop} (F : Sd w (d + 1) m_Cloth_openRow Q G) {p0 : Nat} {p1 : Int32} (hp0 : isCloth p0 = true) {res : Int32 × kx_M} (hQ : Q (some (.int res.1)) res.2) :
    ∀ (n : Nat) (x2 : Int32) (x3 : Int32) (M : kx_M),
    f_Cloth_openRow_l4 p0 p1 n x2 x3 M = some res → G 4 [some (.ref p0), some (.int p1), some (.int x2), some (.int x3), none] [] M := by
  intro n
  induction n with
  | zero =>
    intro x2 x3 M h
    exact absurd h (by rw [f_Cloth_openRow_l4]; exact fun z => nomatch z)
  | succ n ih =>
    intro x2 x3 M h
    rw [f_Cloth_openRow_l4] at h
    refine x_iload_n F.1 (i := 4) rfl rfl ?_
    refine x_aload_n F.1 (i := 5) rfl rfl ?_
    refine x_getI F.1 (i := 6) rfl fl_Cloth_27 (lk_Cloth hp0) (by rfl) ?_
    refine x_icmp_ge F.1 (i := 7) (tgt := 59) rfl (by decide) (fun c => ?_) (fun c => ?_)
    · replace h := if_T c h
      refine x_iload_n F.1 (i := 31) rfl rfl ?_
      exact x_iretf F (i := 32) rfl rfl h hQ
    · replace h := if_F c h
      refine x_iload_n F.1 (i := 8) rfl rfl ?_
      refine x_iload_n F.1 (i := 9) rfl rfl ?_
      refine cal_e h (fun r1 M1 e2 h => ?_)
      refine x_cS2i F.1 (i := 10) rfl ml_Cloth_46 ok_Cloth_at (Nat.le_of_ble_eq_true rfl) (Nat.le_of_ble_eq_true rfl) (fun _ => t_Cloth_at e2) ?_
      refine x_istore F.1 (i := 11) rfl (Nat.le_of_ble_eq_true rfl) (Nat.le_of_ble_eq_true rfl) rfl ?_
      refine x_aload_n F.1 (i := 12) rfl rfl ?_
      refine x_iload F.1 (i := 13) rfl rfl ?_
      refine cal_e h (fun r3 M2 e4 h => ?_)
      refine x_cV1i F.1 (i := 14) rfl ml_Cloth_61 ok_Cloth_loose (lk_Cloth hp0) (Nat.le_of_ble_eq_true rfl) (Nat.le_of_ble_eq_true rfl) (fun _ => t_Cloth_loose hp0 e4) ?_
      refine x_if_eq F.1 (i := 15) (tgt := 53) rfl (by decide) (fun c => ?_) (fun c => ?_)
      · replace h := if_T c h
        refine x_iinc F.1 (i := 29) rfl rfl rfl (Nat.le_of_ble_eq_true rfl) rfl ?_
        replace h := bd_e h
        refine x_goto F.1 (i := 30) (tgt := 4) rfl (by decide) ?_
        exact x_wk F.1 (ih _ _ _ h) ⟨rfl, rfl, rfl, rfl, trivial⟩
      · replace h := if_F c h
        refine x_aload_n F.1 (i := 16) rfl rfl ?_
        refine x_getC F.1 (i := 17) rfl fl_Cloth_18 (lk_Cloth hp0) (by rfl) ?_
        refine x_iload F.1 (i := 18) rfl rfl ?_
        refine gd_e h (fun g6 h => ?_)
        refine x_iald F.1 (i := 19) rfl (lk_Cloth_worn hp0) (inb_e g6) ?_
        refine x_aload_n F.1 (i := 20) rfl rfl ?_
        refine x_getI F.1 (i := 21) rfl fl_Cloth_31 (lk_Cloth hp0) (by rfl) ?_
        refine x_icmp_lt F.1 (i := 22) (tgt := 53) rfl (by decide) (fun c => ?_) (fun c => ?_)
        · replace h := if_T c h
          refine x_iinc F.1 (i := 29) rfl rfl rfl (Nat.le_of_ble_eq_true rfl) rfl ?_
          replace h := bd_e h
          refine x_goto F.1 (i := 30) (tgt := 4) rfl (by decide) ?_
          exact x_wk F.1 (ih _ _ _ h) ⟨rfl, rfl, rfl, rfl, trivial⟩
        · replace h := if_F c h
          refine x_aload_n F.1 (i := 23) rfl rfl ?_
          refine x_getC F.1 (i := 24) rfl fl_Cloth_21 (lk_Cloth hp0) (by rfl) ?_
          refine x_iload F.1 (i := 25) rfl rfl ?_
          refine x_iconst F.1 (i := 26) rfl ic_1 ?_
          refine gd_e h (fun g8 h => ?_)
          refine x_iast F.1 (i := 27) rfl (lk_Cloth_undone hp0) (inb_e g8) ?_
          replace h := bd_e h
          refine x_iinc F.1 (i := 28) rfl rfl rfl (Nat.le_of_ble_eq_true rfl) rfl ?_
          replace h := bd_e h
          refine x_iinc F.1 (i := 29) rfl rfl rfl (Nat.le_of_ble_eq_true rfl) rfl ?_
          replace h := bd_e h
          refine x_goto F.1 (i := 30) (tgt := 4) rfl (by decide) ?_
          exact x_wk F.1 (ih _ _ _ h) ⟨rfl, rfl, rfl, rfl, trivial⟩
set_option maxHeartbeats 4000000 in
theorem t_Cloth_openRow {w : kx_W} {d : Nat} {M : kx_M} {Q : Option Value → kx_M → Prop} {p0 : Nat} {p1 : Int32} {r : Int32} {M' : kx_M} (hp0 : isCloth p0 = true) (h : f_Cloth_openRow p0 p1 M = some (r, M')) (hQ : Q (some (.int r)) M') : Ct w (d + 1) m_Cloth_openRow [.ref p0, .int p1] M Q := by
  refine mk_ct ok_Cloth_openRow (Nat.le_of_ble_eq_true rfl) (fun G F => ?_)
  rw [f_Cloth_openRow] at h
  show G 0 [some (.ref p0), some (.int p1), none, none, none] [] M
  refine x_iconst F.1 (i := 0) rfl ic_0 ?_
  refine x_istore_n F.1 (i := 1) rfl (Nat.le_of_ble_eq_true rfl) (Nat.le_of_ble_eq_true rfl) rfl ?_
  refine x_iconst F.1 (i := 2) rfl ic_0 ?_
  refine x_istore_n F.1 (i := 3) rfl (Nat.le_of_ble_eq_true rfl) (Nat.le_of_ble_eq_true rfl) rfl ?_
  exact x_wk F.1 ((t_Cloth_openRow_l4 F hp0 (res := (r, M')) hQ FU) _ _ _ h) ⟨rfl, rfl, rfl, rfl, trivial⟩
set_option maxHeartbeats 4000000 in
theorem t_Cloth_withLadders_l21 {w : kx_W} {d : Nat} {Q : Option Value → kx_M → Prop} {G : Nat → List (Option Value) → List Value → kx_M → Prop} (F : Sd w (d + 1) m_Cloth_withLadders Q G) {p0 : Nat} {p1 : Int32} (hp0 : isCloth p0 = true) {k10 : Int32 → Int32 → kx_M → Option (Int32 × kx_M)} {res : Int32 × kx_M} (hQ : Q (some (.int res.1)) res.2) (hk10 : ∀ (x2 : Int32) (x3 : Int32) (M : kx_M), k10 x2 x3 M = some res → G 10 [some (.ref p0), none, some (.int x2), some (.int x3), none, none] [] M) :
    ∀ (n : Nat) (x2 : Int32) (x3 : Int32) (x4 : Int32) (M : kx_M),
    f_Cloth_withLadders_l21 p0 p1 k10 n x2 x3 x4 M = some res → G 21 [some (.ref p0), none, some (.int x2), some (.int x3), some (.int x4), none] [] M := by
  intro n
  induction n with
  | zero =>
    intro x2 x3 x4 M h
    exact absurd h (by rw [f_Cloth_withLadders_l21]; exact fun z => nomatch z)
  | succ n ih =>
    intro x2 x3 x4 M h
    rw [f_Cloth_withLadders_l21] at h
    refine x_iload F.1 (i := 14) rfl rfl ?_
    refine x_aload_n F.1 (i := 15) rfl rfl ?_
    refine x_getI F.1 (i := 16) rfl fl_Cloth_27 (lk_Cloth hp0) (by rfl) ?_
    refine x_icmp_ge F.1 (i := 17) (tgt := 88) rfl (by decide) (fun c => ?_) (fun c => ?_)
    · replace h := if_T c h
      refine x_iinc F.1 (i := 47) rfl rfl rfl (Nat.le_of_ble_eq_true rfl) rfl ?_
      replace h := bd_e h
      refine x_goto F.1 (i := 48) (tgt := 10) rfl (by decide) ?_
      exact x_wk F.1 (hk10 _ _ _ h) ⟨rfl, rfl, rfl, trivial⟩
    · replace h := if_F c h
      refine x_iload_n F.1 (i := 18) rfl rfl ?_
      refine x_iload F.1 (i := 19) rfl rfl ?_
      refine cal_e h (fun r2 M1 e3 h => ?_)
      refine x_cS2i F.1 (i := 20) rfl ml_Cloth_46 ok_Cloth_at (Nat.le_of_ble_eq_true rfl) (Nat.le_of_ble_eq_true rfl) (fun _ => t_Cloth_at e3) ?_
      refine x_istore F.1 (i := 21) rfl (Nat.le_of_ble_eq_true rfl) (Nat.le_of_ble_eq_true rfl) rfl ?_
      refine x_aload_n F.1 (i := 22) rfl rfl ?_
      refine x_getC F.1 (i := 23) rfl fl_Cloth_15 (lk_Cloth hp0) (by rfl) ?_
      refine x_iload F.1 (i := 24) rfl rfl ?_
      refine gd_e h (fun g4 h => ?_)
      refine x_iald F.1 (i := 25) rfl (lk_Cloth_kinds hp0) (inb_e g4) ?_
      refine x_if_ne F.1 (i := 26) (tgt := 82) rfl (by decide) (fun c => ?_) (fun c => ?_)
      · replace h := if_F c h
        refine x_iinc F.1 (i := 45) rfl rfl rfl (Nat.le_of_ble_eq_true rfl) rfl ?_
        replace h := bd_e h
        refine x_goto F.1 (i := 46) (tgt := 21) rfl (by decide) ?_
        exact x_wk F.1 (ih _ _ _ _ h) ⟨rfl, rfl, rfl, rfl, trivial⟩
      · replace h := if_T c h
        refine x_aload_n F.1 (i := 27) rfl rfl ?_
        refine x_iload F.1 (i := 28) rfl rfl ?_
        refine cal_e h (fun r5 M2 e6 h => ?_)
        refine x_cV1i F.1 (i := 29) rfl ml_Cloth_61 ok_Cloth_loose (lk_Cloth hp0) (Nat.le_of_ble_eq_true rfl) (Nat.le_of_ble_eq_true rfl) (fun _ => t_Cloth_loose hp0 e6) ?_
        refine x_if_eq F.1 (i := 30) (tgt := 82) rfl (by decide) (fun c => ?_) (fun c => ?_)
        · replace h := if_T c h
          refine x_iinc F.1 (i := 45) rfl rfl rfl (Nat.le_of_ble_eq_true rfl) rfl ?_
          replace h := bd_e h
          refine x_goto F.1 (i := 46) (tgt := 21) rfl (by decide) ?_
          exact x_wk F.1 (ih _ _ _ _ h) ⟨rfl, rfl, rfl, rfl, trivial⟩
        · replace h := if_F c h
          refine x_aload_n F.1 (i := 31) rfl rfl ?_
          refine x_getC F.1 (i := 32) rfl fl_Cloth_21 (lk_Cloth hp0) (by rfl) ?_
          refine x_iload F.1 (i := 33) rfl rfl ?_
          refine x_bipush F.1 (i := 34) rfl bp_8 ?_
          refine x_isub F.1 (i := 35) rfl ?_
          refine gd_e h (fun g8 h => ?_)
          refine x_iald F.1 (i := 36) rfl (lk_Cloth_undone hp0) (inb_e g8) ?_
          refine x_iconst F.1 (i := 37) rfl ic_1 ?_
          refine x_icmp_ne F.1 (i := 38) (tgt := 82) rfl (by decide) (fun c => ?_) (fun c => ?_)
          · replace h := if_F c h
            refine x_iinc F.1 (i := 45) rfl rfl rfl (Nat.le_of_ble_eq_true rfl) rfl ?_
            replace h := bd_e h
            refine x_goto F.1 (i := 46) (tgt := 21) rfl (by decide) ?_
            exact x_wk F.1 (ih _ _ _ _ h) ⟨rfl, rfl, rfl, rfl, trivial⟩
          · replace h := if_T c h
            refine x_aload_n F.1 (i := 39) rfl rfl ?_
            refine x_getC F.1 (i := 40) rfl fl_Cloth_21 (lk_Cloth hp0) (by rfl) ?_
            refine x_iload F.1 (i := 41) rfl rfl ?_
            refine x_iconst F.1 (i := 42) rfl ic_1 ?_
            refine gd_e h (fun g9 h => ?_)
            refine x_iast F.1 (i := 43) rfl (lk_Cloth_undone hp0) (inb_e g9) ?_
            replace h := bd_e h
            refine x_iinc F.1 (i := 44) rfl rfl rfl (Nat.le_of_ble_eq_true rfl) rfl ?_
            replace h := bd_e h
            refine x_iinc F.1 (i := 45) rfl rfl rfl (Nat.le_of_ble_eq_true rfl) rfl ?_
            replace h := bd_e h
            refine x_goto F.1 (i := 46) (tgt := 21) rfl (by decide) ?_
            exact x_wk F.1 (ih _ _ _ _ h) ⟨rfl, rfl, rfl, rfl, trivial⟩
set_option maxHeartbeats 4000000 in
theorem t_Cloth_withLadders_l10 {w : kx_W} {d : Nat} {Q : Option Value → kx_M → Prop} {G : Nat → List (Option Value) → List Value → kx_M → Prop} (F : Sd w (d + 1) m_Cloth_withLadders Q G) {p0 : Nat} {p1 : Int32} (hp0 : isCloth p0 = true) {res : Int32 × kx_M} (hQ : Q (some (.int res.1)) res.2) :
    ∀ (n : Nat) (x2 : Int32) (x3 : Int32) (M : kx_M),
    f_Cloth_withLadders_l10 p0 p1 n x2 x3 M = some res → G 10 [some (.ref p0), none, some (.int x2), some (.int x3), none, none] [] M := by
  intro n
  induction n with
  | zero =>
    intro x2 x3 M h
    exact absurd h (by rw [f_Cloth_withLadders_l10]; exact fun z => nomatch z)
  | succ n ih =>
    intro x2 x3 M h
    rw [f_Cloth_withLadders_l10] at h
    refine x_iload_n F.1 (i := 8) rfl rfl ?_
    refine x_aload_n F.1 (i := 9) rfl rfl ?_
    refine x_getI F.1 (i := 10) rfl fl_Cloth_34 (lk_Cloth hp0) (by rfl) ?_
    refine x_icmp_ge F.1 (i := 11) (tgt := 94) rfl (by decide) (fun c => ?_) (fun c => ?_)
    · replace h := if_T c h
      refine x_iload_n F.1 (i := 49) rfl rfl ?_
      exact x_iretf F (i := 50) rfl rfl h hQ
    · replace h := if_F c h
      refine x_iconst F.1 (i := 12) rfl ic_0 ?_
      refine x_istore F.1 (i := 13) rfl (Nat.le_of_ble_eq_true rfl) (Nat.le_of_ble_eq_true rfl) rfl ?_
      exact x_wk F.1 ((t_Cloth_withLadders_l21 F hp0 hQ ih FU) _ _ _ _ h) ⟨rfl, rfl, rfl, rfl, trivial⟩
set_option maxHeartbeats 4000000 in
theorem t_Cloth_withLadders {w : kx_W} {d : Nat} {M : kx_M} {Q : Option Value → kx_M → Prop} {p0 : Nat} {p1 : Int32} {r : Int32} {M' : kx_M} (hp0 : isCloth p0 = true) (h : f_Cloth_withLadders p0 p1 M = some (r, M')) (hQ : Q (some (.int r)) M') : Ct w (d + 1) m_Cloth_withLadders [.ref p0, .int p1] M Q := by
  refine mk_ct ok_Cloth_withLadders (Nat.le_of_ble_eq_true rfl) (fun G F => ?_)
  rw [f_Cloth_withLadders] at h
  show G 0 [some (.ref p0), some (.int p1), none, none, none, none] [] M
  refine x_iload_n F.1 (i := 0) rfl rfl ?_
  refine x_if_ne F.1 (i := 1) (tgt := 6) rfl (by decide) (fun c => ?_) (fun c => ?_)
  · replace h := if_F c h
    refine x_iload_n F.1 (i := 4) rfl rfl ?_
    refine x_istore_n F.1 (i := 5) rfl (Nat.le_of_ble_eq_true rfl) (Nat.le_of_ble_eq_true rfl) rfl ?_
    refine x_iconst F.1 (i := 6) rfl ic_1 ?_
    refine x_istore_n F.1 (i := 7) rfl (Nat.le_of_ble_eq_true rfl) (Nat.le_of_ble_eq_true rfl) rfl ?_
    exact x_wk F.1 ((t_Cloth_withLadders_l10 F hp0 (res := (r, M')) hQ FU) _ _ _ h) ⟨rfl, rfl, rfl, trivial⟩
  · replace h := if_T c h
    refine x_iconst F.1 (i := 2) rfl ic_0 ?_
    exact x_iretf F (i := 3) rfl rfl h (res := (r, M')) hQ
set_option maxHeartbeats 4000000 in
theorem t_Cloth_passYear_l4 {w : kx_W} {d : Nat} {Q : Option Value → kx_M → Prop} {G : Nat → List (Option Value) → List Value → kx_M → Prop} (F : Sd w (d + 2) m_Cloth_passYear Q G) {p0 : Nat} (hp0 : isCloth p0 = true) {res : Int32 × kx_M} (hQ : Q (some (.int res.1)) res.2) :
    ∀ (n : Nat) (x1 : Int32) (x2 : Int32) (M : kx_M),
    f_Cloth_passYear_l4 p0 n x1 x2 M = some res → G 4 [some (.ref p0), some (.int x1), some (.int x2)] [] M := by
  intro n
  induction n with
  | zero =>
    intro x1 x2 M h
    exact absurd h (by rw [f_Cloth_passYear_l4]; exact fun z => nomatch z)
  | succ n ih =>
    intro x1 x2 M h
    rw [f_Cloth_passYear_l4] at h
    refine x_iload_n F.1 (i := 4) rfl rfl ?_
    refine x_aload_n F.1 (i := 5) rfl rfl ?_
    refine x_getI F.1 (i := 6) rfl fl_Cloth_34 (lk_Cloth hp0) (by rfl) ?_
    refine x_icmp_ge F.1 (i := 7) (tgt := 31) rfl (by decide) (fun c => ?_) (fun c => ?_)
    · replace h := if_T c h
      refine x_aload_n F.1 (i := 19) rfl rfl ?_
      refine x_iload_n F.1 (i := 20) rfl rfl ?_
      refine cal_e h (fun r1 M1 e2 h => ?_)
      refine x_cV1i F.1 (i := 21) rfl ml_Cloth_73 ok_Cloth_withLadders (lk_Cloth hp0) (Nat.le_of_ble_eq_true rfl) (Nat.le_of_ble_eq_true rfl) (fun _ => t_Cloth_withLadders hp0 e2) ?_
      exact x_iretf F (i := 22) rfl rfl h hQ
    · replace h := if_F c h
      refine x_aload_n F.1 (i := 8) rfl rfl ?_
      refine x_iload_n F.1 (i := 9) rfl rfl ?_
      refine cal_e h (fun r3 M2 e4 h => ?_)
      refine x_cV1v F.1 (i := 10) rfl ml_Cloth_65 ok_Cloth_wearRow (lk_Cloth hp0) (Nat.le_of_ble_eq_true rfl) (Nat.le_of_ble_eq_true rfl) (fun _ => t_Cloth_wearRow hp0 e4) ?_
      refine x_iload_n F.1 (i := 11) rfl rfl ?_
      refine x_aload_n F.1 (i := 12) rfl rfl ?_
      refine x_iload_n F.1 (i := 13) rfl rfl ?_
      refine cal_e h (fun r5 M3 e6 h => ?_)
      refine x_cV1i F.1 (i := 14) rfl ml_Cloth_69 ok_Cloth_openRow (lk_Cloth hp0) (Nat.le_of_ble_eq_true rfl) (Nat.le_of_ble_eq_true rfl) (fun _ => t_Cloth_openRow hp0 e6) ?_
      refine x_iadd F.1 (i := 15) rfl ?_
      refine x_istore_n F.1 (i := 16) rfl (Nat.le_of_ble_eq_true rfl) (Nat.le_of_ble_eq_true rfl) rfl ?_
      replace h := bd_e h
      refine x_iinc F.1 (i := 17) rfl rfl rfl (Nat.le_of_ble_eq_true rfl) rfl ?_
      replace h := bd_e h
      refine x_goto F.1 (i := 18) (tgt := 4) rfl (by decide) ?_
      exact x_wk F.1 (ih _ _ _ h) ⟨rfl, rfl, rfl, trivial⟩
set_option maxHeartbeats 4000000 in
theorem t_Cloth_passYear {w : kx_W} {d : Nat} {M : kx_M} {Q : Option Value → kx_M → Prop} {p0 : Nat} {r : Int32} {M' : kx_M} (hp0 : isCloth p0 = true) (h : f_Cloth_passYear p0 M = some (r, M')) (hQ : Q (some (.int r)) M') : Ct w (d + 2) m_Cloth_passYear [.ref p0] M Q := by
  refine mk_ct ok_Cloth_passYear (Nat.le_of_ble_eq_true rfl) (fun G F => ?_)
  rw [f_Cloth_passYear] at h
  show G 0 [some (.ref p0), none, none] [] M
  refine x_iconst F.1 (i := 0) rfl ic_0 ?_
  refine x_istore_n F.1 (i := 1) rfl (Nat.le_of_ble_eq_true rfl) (Nat.le_of_ble_eq_true rfl) rfl ?_
  refine x_iconst F.1 (i := 2) rfl ic_0 ?_
  refine x_istore_n F.1 (i := 3) rfl (Nat.le_of_ble_eq_true rfl) (Nat.le_of_ble_eq_true rfl) rfl ?_
  exact x_wk F.1 ((t_Cloth_passYear_l4 F hp0 (res := (r, M')) hQ FU) _ _ _ h) ⟨rfl, rfl, rfl, trivial⟩
set_option maxHeartbeats 4000000 in
theorem t_Cloth_passYears_l4 {w : kx_W} {d : Nat} {Q : Option Value → kx_M → Prop} {G : Nat → List (Option Value) → List Value → kx_M → Prop} (F : Sd w (d + 3) m_Cloth_passYears Q G) {p0 : Nat} {p1 : Int32} (hp0 : isCloth p0 = true) {res : Int32 × kx_M} (hQ : Q (some (.int res.1)) res.2) :
    ∀ (n : Nat) (x2 : Int32) (x3 : Int32) (M : kx_M),
    f_Cloth_passYears_l4 p0 p1 n x2 x3 M = some res → G 4 [some (.ref p0), some (.int p1), some (.int x2), some (.int x3)] [] M := by
  intro n
  induction n with
  | zero =>
    intro x2 x3 M h
    exact absurd h (by rw [f_Cloth_passYears_l4]; exact fun z => nomatch z)
  | succ n ih =>
    intro x2 x3 M h
    rw [f_Cloth_passYears_l4] at h
    refine x_iload_n F.1 (i := 4) rfl rfl ?_
    refine x_iload_n F.1 (i := 5) rfl rfl ?_
    refine x_icmp_ge F.1 (i := 6) (tgt := 29) rfl (by decide) (fun c => ?_) (fun c => ?_)
    · replace h := if_T c h
      refine x_aload_n F.1 (i := 17) rfl rfl ?_
      refine x_dup F.1 (i := 18) rfl rfl ?_
      refine x_getI F.1 (i := 19) rfl fl_Cloth_37 (lk_Cloth hp0) (by rfl) ?_
      refine x_iload_n F.1 (i := 20) rfl rfl ?_
      refine x_iadd F.1 (i := 21) rfl ?_
      refine x_putI F.1 (i := 22) rfl fl_Cloth_37 pf_Cloth_date (lk_Cloth hp0) (by rfl) ?_
      replace h := bd_e h
      refine x_iload_n F.1 (i := 23) rfl rfl ?_
      exact x_iretf F (i := 24) rfl rfl h hQ
    · replace h := if_F c h
      refine x_aload_n F.1 (i := 7) rfl rfl ?_
      refine cal_e h (fun r1 M2 e2 h => ?_)
      refine x_cV0i F.1 (i := 8) rfl ml_Cloth_53 ok_Cloth_anyLoose (lk_Cloth hp0) (Nat.le_of_ble_eq_true rfl) (Nat.le_of_ble_eq_true rfl) (fun _ => t_Cloth_anyLoose hp0 e2) ?_
      refine x_if_eq F.1 (i := 9) (tgt := 29) rfl (by decide) (fun c => ?_) (fun c => ?_)
      · replace h := if_T c h
        refine x_aload_n F.1 (i := 17) rfl rfl ?_
        refine x_dup F.1 (i := 18) rfl rfl ?_
        refine x_getI F.1 (i := 19) rfl fl_Cloth_37 (lk_Cloth hp0) (by rfl) ?_
        refine x_iload_n F.1 (i := 20) rfl rfl ?_
        refine x_iadd F.1 (i := 21) rfl ?_
        refine x_putI F.1 (i := 22) rfl fl_Cloth_37 pf_Cloth_date (lk_Cloth hp0) (by rfl) ?_
        replace h := bd_e h
        refine x_iload_n F.1 (i := 23) rfl rfl ?_
        exact x_iretf F (i := 24) rfl rfl h hQ
      · replace h := if_F c h
        refine x_iload_n F.1 (i := 10) rfl rfl ?_
        refine x_aload_n F.1 (i := 11) rfl rfl ?_
        refine cal_e h (fun r3 M4 e4 h => ?_)
        refine x_cV0i F.1 (i := 12) rfl ml_Cloth_57 ok_Cloth_passYear (lk_Cloth hp0) (Nat.le_of_ble_eq_true rfl) (Nat.le_of_ble_eq_true rfl) (fun _ => t_Cloth_passYear hp0 e4) ?_
        refine x_iadd F.1 (i := 13) rfl ?_
        refine x_istore_n F.1 (i := 14) rfl (Nat.le_of_ble_eq_true rfl) (Nat.le_of_ble_eq_true rfl) rfl ?_
        replace h := bd_e h
        refine x_iinc F.1 (i := 15) rfl rfl rfl (Nat.le_of_ble_eq_true rfl) rfl ?_
        replace h := bd_e h
        refine x_goto F.1 (i := 16) (tgt := 4) rfl (by decide) ?_
        exact x_wk F.1 (ih _ _ _ h) ⟨rfl, rfl, rfl, rfl, trivial⟩
set_option maxHeartbeats 4000000 in
theorem t_Cloth_passYears {w : kx_W} {d : Nat} {M : kx_M} {Q : Option Value → kx_M → Prop} {p0 : Nat} {p1 : Int32} {r : Int32} {M' : kx_M} (hp0 : isCloth p0 = true) (h : f_Cloth_passYears p0 p1 M = some (r, M')) (hQ : Q (some (.int r)) M') : Ct w (d + 3) m_Cloth_passYears [.ref p0, .int p1] M Q := by
  refine mk_ct ok_Cloth_passYears (Nat.le_of_ble_eq_true rfl) (fun G F => ?_)
  rw [f_Cloth_passYears] at h
  show G 0 [some (.ref p0), some (.int p1), none, none] [] M
  refine x_iconst F.1 (i := 0) rfl ic_0 ?_
  refine x_istore_n F.1 (i := 1) rfl (Nat.le_of_ble_eq_true rfl) (Nat.le_of_ble_eq_true rfl) rfl ?_
  refine x_iconst F.1 (i := 2) rfl ic_0 ?_
  refine x_istore_n F.1 (i := 3) rfl (Nat.le_of_ble_eq_true rfl) (Nat.le_of_ble_eq_true rfl) rfl ?_
  exact x_wk F.1 ((t_Cloth_passYears_l4 F hp0 (res := (r, M')) hQ FU) _ _ _ h) ⟨rfl, rfl, rfl, rfl, trivial⟩
set_option maxHeartbeats 4000000 in
theorem t_KT_year_l39 {w : kx_W} {d : Nat} {Q : Option Value → kx_M → Prop} {G : Nat → List (Option Value) → List Value → kx_M → Prop} (F : Sd w (d + 4) m_KT_year Q G) {p1 : Int32} {res : Int32 × kx_M} (hQ : Q (some (.int res.1)) res.2) :
    ∀ (x2 : Int32) (M : kx_M),
    f_KT_year_l39 p1 x2 M = some res → G 39 [some (.ref 0), some (.int p1), some (.int x2)] [] M := by
  intro x2 M h
  rw [f_KT_year_l39] at h
  refine x_aload_n F.1 (i := 21) rfl rfl ?_
  refine x_iload_n F.1 (i := 22) rfl rfl ?_
  refine cal_e h (fun r1 M1 e2 h => ?_)
  refine x_cV1i F.1 (i := 23) rfl ml_KT_103 ok_KT_refused rfl (Nat.le_of_ble_eq_true rfl) (Nat.le_of_ble_eq_true rfl) (fun _ => t_KT_refused e2) ?_
  refine x_if_eq F.1 (i := 24) (tgt := 49) rfl (by decide) (fun c => ?_) (fun c => ?_)
  · replace h := if_T c h
    refine x_aload_n F.1 (i := 27) rfl rfl ?_
    refine x_getR F.1 (i := 28) rfl fl_KT_64 rfl (by rfl) rfl ?_
    refine gd_e h (fun g3 h => ?_)
    replace h := bd_e h
    refine x_getC F.1 (i := 29) rfl fl_KT_156 (lk_State g3) (by rfl) ?_
    refine x_iload_n F.1 (i := 30) rfl rfl ?_
    refine cal_e h (fun r5 M2 e6 h => ?_)
    refine x_cV1i F.1 (i := 31) rfl ml_KT_282 ok_Cloth_passYears (lk_Cloth (lD_State_cloth g3)) (Nat.le_of_ble_eq_true rfl) (Nat.le_of_ble_eq_true rfl) (fun _ => t_Cloth_passYears (lD_State_cloth g3) e6) ?_
    exact x_iretf F (i := 32) rfl rfl h hQ
  · replace h := if_F c h
    refine x_iconst F.1 (i := 25) rfl ic_n1 ?_
    exact x_iretf F (i := 26) rfl rfl h hQ
set_option maxHeartbeats 4000000 in
theorem t_KT_year {w : kx_W} {d : Nat} {M : kx_M} {Q : Option Value → kx_M → Prop} {p1 : Int32} {r : Int32} {M' : kx_M} (h : f_KT_year p1 M = some (r, M')) (hQ : Q (some (.int r)) M') : Ct w (d + 4) m_KT_year [.ref 0, .int p1] M Q := by
  refine mk_ct ok_KT_year (Nat.le_of_ble_eq_true rfl) (fun G F => ?_)
  rw [f_KT_year] at h
  show G 0 [some (.ref 0), some (.int p1), none] [] M
  refine x_iconst F.1 (i := 0) rfl ic_0 ?_
  refine x_istore_n F.1 (i := 1) rfl (Nat.le_of_ble_eq_true rfl) (Nat.le_of_ble_eq_true rfl) rfl ?_
  refine x_iload_n F.1 (i := 2) rfl rfl ?_
  refine x_iconst F.1 (i := 3) rfl ic_1 ?_
  refine x_icmp_lt F.1 (i := 4) (tgt := 13) rfl (by decide) (fun c => ?_) (fun c => ?_)
  · replace h := if_T c h
    refine x_iconst F.1 (i := 8) rfl ic_5 ?_
    refine x_istore_n F.1 (i := 9) rfl (Nat.le_of_ble_eq_true rfl) (Nat.le_of_ble_eq_true rfl) rfl ?_
    refine x_goto F.1 (i := 10) (tgt := 39) rfl (by decide) ?_
    exact x_wk F.1 ((t_KT_year_l39 F (res := (r, M')) hQ) _ _ h) ⟨rfl, rfl, rfl, trivial⟩
  · replace h := if_F c h
    refine x_iload_n F.1 (i := 5) rfl rfl ?_
    refine x_bipush F.1 (i := 6) rfl bp_99 ?_
    refine x_icmp_le F.1 (i := 7) (tgt := 18) rfl (by decide) (fun c => ?_) (fun c => ?_)
    · replace h := if_T c h
      refine x_aload_n F.1 (i := 11) rfl rfl ?_
      refine x_getR F.1 (i := 12) rfl fl_KT_64 rfl (by rfl) rfl ?_
      refine gd_e h (fun g1 h => ?_)
      replace h := bd_e h
      refine x_getC F.1 (i := 13) rfl fl_KT_156 (lk_State g1) (by rfl) ?_
      refine x_getI F.1 (i := 14) rfl fl_KT_204 (lk_Cloth (lD_State_cloth g1)) (by rfl) ?_
      refine x_iload_n F.1 (i := 15) rfl rfl ?_
      refine x_iadd F.1 (i := 16) rfl ?_
      refine x_sipush F.1 (i := 17) rfl sp_9999 ?_
      refine x_icmp_le F.1 (i := 18) (tgt := 39) rfl (by decide) (fun c => ?_) (fun c => ?_)
      · replace h := if_T c h
        exact x_wk F.1 ((t_KT_year_l39 F (res := (r, M')) hQ) _ _ h) ⟨rfl, rfl, rfl, trivial⟩
      · replace h := if_F c h
        refine x_bipush F.1 (i := 19) rfl bp_7 ?_
        refine x_istore_n F.1 (i := 20) rfl (Nat.le_of_ble_eq_true rfl) (Nat.le_of_ble_eq_true rfl) rfl ?_
        exact x_wk F.1 ((t_KT_year_l39 F (res := (r, M')) hQ) _ _ h) ⟨rfl, rfl, rfl, trivial⟩
    · replace h := if_F c h
      refine x_iconst F.1 (i := 8) rfl ic_5 ?_
      refine x_istore_n F.1 (i := 9) rfl (Nat.le_of_ble_eq_true rfl) (Nat.le_of_ble_eq_true rfl) rfl ?_
      refine x_goto F.1 (i := 10) (tgt := 39) rfl (by decide) ?_
      exact x_wk F.1 ((t_KT_year_l39 F (res := (r, M')) hQ) _ _ h) ⟨rfl, rfl, rfl, trivial⟩
set_option maxHeartbeats 4000000 in
theorem t_KT_pullStatus {w : kx_W} {d : Nat} {M : kx_M} {Q : Option Value → kx_M → Prop} {p1 : Int32} {p2 : Int32} {r : Int32} {M' : kx_M} (h : f_KT_pullStatus p1 p2 M = some (r, M')) (hQ : Q (some (.int r)) M') : Ct w (d + 1) m_KT_pullStatus [.ref 0, .int p1, .int p2] M Q := by
  refine mk_ct ok_KT_pullStatus (Nat.le_of_ble_eq_true rfl) (fun G F => ?_)
  rw [f_KT_pullStatus] at h
  show G 0 [some (.ref 0), some (.int p1), some (.int p2)] [] M
  refine x_aload_n F.1 (i := 0) rfl rfl ?_
  refine x_iload_n F.1 (i := 1) rfl rfl ?_
  refine cal_e h (fun r1 M1 e2 h => ?_)
  refine x_cV1i F.1 (i := 2) rfl ml_KT_225 ok_KT_noRow rfl (Nat.le_of_ble_eq_true rfl) (Nat.le_of_ble_eq_true rfl) (fun _ => t_KT_noRow e2) ?_
  refine x_if_eq F.1 (i := 3) (tgt := 10) rfl (by decide) (fun c => ?_) (fun c => ?_)
  · replace h := if_T c h
    refine x_iload_n F.1 (i := 6) rfl rfl ?_
    refine x_if_lt F.1 (i := 7) (tgt := 19) rfl (by decide) (fun c => ?_) (fun c => ?_)
    · replace h := if_T c h
      refine x_iconst F.1 (i := 11) rfl ic_5 ?_
      refine x_goto F.1 (i := 12) (tgt := 24) rfl (by decide) ?_
      exact x_iretf F (i := 14) rfl rfl h (res := (r, M')) hQ
    · replace h := if_F c h
      refine x_iload_n F.1 (i := 8) rfl rfl ?_
      refine x_iconst F.1 (i := 9) rfl ic_1 ?_
      refine x_icmp_le F.1 (i := 10) (tgt := 23) rfl (by decide) (fun c => ?_) (fun c => ?_)
      · replace h := if_T c h
        refine x_iconst F.1 (i := 13) rfl ic_0 ?_
        exact x_iretf F (i := 14) rfl rfl h (res := (r, M')) hQ
      · replace h := if_F c h
        refine x_iconst F.1 (i := 11) rfl ic_5 ?_
        refine x_goto F.1 (i := 12) (tgt := 24) rfl (by decide) ?_
        exact x_iretf F (i := 14) rfl rfl h (res := (r, M')) hQ
  · replace h := if_F c h
    refine x_iconst F.1 (i := 4) rfl ic_2 ?_
    exact x_iretf F (i := 5) rfl rfl h (res := (r, M')) hQ
set_option maxHeartbeats 4000000 in
theorem t_Cloth_pullThread_l33 {w : kx_W} {d : Nat} {Q : Option Value → kx_M → Prop} {G : Nat → List (Option Value) → List Value → kx_M → Prop} (F : Sd w (d + 2) m_Cloth_pullThread Q G) {p0 : Nat} {p1 : Int32} {p2 : Int32} (hp0 : isCloth p0 = true) {k5 : Int32 → Int32 → kx_M → Option (Int32 × kx_M)} {res : Int32 × kx_M} (hQ : Q (some (.int res.1)) res.2) (hk5 : ∀ (x3 : Int32) (x4 : Int32) (M : kx_M), k5 x3 x4 M = some res → G 5 [some (.ref p0), some (.int p1), some (.int p2), some (.int x3), some (.int x4), none] [] M) :
    ∀ (x3 : Int32) (x4 : Int32) (s0 : Int32) (s1 : Int32) (M : kx_M),
    f_Cloth_pullThread_l33 p0 p1 p2 k5 x3 x4 s0 s1 M = some res → G 33 [some (.ref p0), some (.int p1), some (.int p2), some (.int x3), some (.int x4), none] [.int s1, .int s0] M := by
  intro x3 x4 s0 s1 M h
  rw [f_Cloth_pullThread_l33] at h
  refine cal_e h (fun r1 M1 e2 h => ?_)
  refine x_cS2i F.1 (i := 19) rfl ml_Cloth_46 ok_Cloth_at (Nat.le_of_ble_eq_true rfl) (Nat.le_of_ble_eq_true rfl) (fun _ => t_Cloth_at e2) ?_
  refine x_istore F.1 (i := 20) rfl (Nat.le_of_ble_eq_true rfl) (Nat.le_of_ble_eq_true rfl) rfl ?_
  refine x_aload_n F.1 (i := 21) rfl rfl ?_
  refine x_getC F.1 (i := 22) rfl fl_Cloth_21 (lk_Cloth hp0) (by rfl) ?_
  refine x_iload F.1 (i := 23) rfl rfl ?_
  refine gd_e h (fun g3 h => ?_)
  refine x_iald F.1 (i := 24) rfl (lk_Cloth_undone hp0) (inb_e g3) ?_
  refine x_if_ne F.1 (i := 25) (tgt := 84) rfl (by decide) (fun c => ?_) (fun c => ?_)
  · replace h := if_F c h
    refine x_iinc F.1 (i := 45) rfl rfl rfl (Nat.le_of_ble_eq_true rfl) rfl ?_
    replace h := bd_e h
    refine x_goto F.1 (i := 46) (tgt := 5) rfl (by decide) ?_
    exact x_wk F.1 (hk5 _ _ _ h) ⟨rfl, rfl, rfl, rfl, rfl, trivial⟩
  · replace h := if_T c h
    refine x_aload_n F.1 (i := 26) rfl rfl ?_
    refine x_getC F.1 (i := 27) rfl fl_Cloth_24 (lk_Cloth hp0) (by rfl) ?_
    refine x_iload F.1 (i := 28) rfl rfl ?_
    refine gd_e h (fun g4 h => ?_)
    refine x_iald F.1 (i := 29) rfl (lk_Cloth_darned hp0) (inb_e g4) ?_
    refine x_iconst F.1 (i := 30) rfl ic_1 ?_
    refine x_icmp_eq F.1 (i := 31) (tgt := 90) rfl (by decide) (fun c => ?_) (fun c => ?_)
    · replace h := if_T c h
      refine x_aload_n F.1 (i := 47) rfl rfl ?_
      refine x_iload_n F.1 (i := 48) rfl rfl ?_
      refine cal_e h (fun r5 M2 e6 h => ?_)
      refine x_cV1i F.1 (i := 49) rfl ml_Cloth_73 ok_Cloth_withLadders (lk_Cloth hp0) (Nat.le_of_ble_eq_true rfl) (Nat.le_of_ble_eq_true rfl) (fun _ => t_Cloth_withLadders hp0 e6) ?_
      exact x_iretf F (i := 50) rfl rfl h hQ
    · replace h := if_F c h
      refine x_aload_n F.1 (i := 32) rfl rfl ?_
      refine x_getC F.1 (i := 33) rfl fl_Cloth_15 (lk_Cloth hp0) (by rfl) ?_
      refine x_iload F.1 (i := 34) rfl rfl ?_
      refine gd_e h (fun g7 h => ?_)
      refine x_iald F.1 (i := 35) rfl (lk_Cloth_kinds hp0) (inb_e g7) ?_
      refine x_iconst F.1 (i := 36) rfl ic_2 ?_
      refine x_icmp_ne F.1 (i := 37) (tgt := 73) rfl (by decide) (fun c => ?_) (fun c => ?_)
      · replace h := if_F c h
        refine x_aload_n F.1 (i := 39) rfl rfl ?_
        refine x_getC F.1 (i := 40) rfl fl_Cloth_21 (lk_Cloth hp0) (by rfl) ?_
        refine x_iload F.1 (i := 41) rfl rfl ?_
        refine x_iconst F.1 (i := 42) rfl ic_1 ?_
        refine gd_e h (fun g10 h => ?_)
        refine x_iast F.1 (i := 43) rfl (lk_Cloth_undone hp0) (inb_e g10) ?_
        replace h := bd_e h
        refine x_iinc F.1 (i := 44) rfl rfl rfl (Nat.le_of_ble_eq_true rfl) rfl ?_
        replace h := bd_e h
        refine x_iinc F.1 (i := 45) rfl rfl rfl (Nat.le_of_ble_eq_true rfl) rfl ?_
        replace h := bd_e h
        refine x_goto F.1 (i := 46) (tgt := 5) rfl (by decide) ?_
        exact x_wk F.1 (hk5 _ _ _ h) ⟨rfl, rfl, rfl, rfl, rfl, trivial⟩
      · replace h := if_T c h
        refine x_goto F.1 (i := 38) (tgt := 90) rfl (by decide) ?_
        refine x_aload_n F.1 (i := 47) rfl rfl ?_
        refine x_iload_n F.1 (i := 48) rfl rfl ?_
        refine cal_e h (fun r8 M3 e9 h => ?_)
        refine x_cV1i F.1 (i := 49) rfl ml_Cloth_73 ok_Cloth_withLadders (lk_Cloth hp0) (Nat.le_of_ble_eq_true rfl) (Nat.le_of_ble_eq_true rfl) (fun _ => t_Cloth_withLadders hp0 e9) ?_
        exact x_iretf F (i := 50) rfl rfl h hQ
set_option maxHeartbeats 4000000 in
theorem t_Cloth_pullThread_l5 {w : kx_W} {d : Nat} {Q : Option Value → kx_M → Prop} {G : Nat → List (Option Value) → List Value → kx_M → Prop} (F : Sd w (d + 2) m_Cloth_pullThread Q G) {p0 : Nat} {p1 : Int32} {p2 : Int32} (hp0 : isCloth p0 = true) {res : Int32 × kx_M} (hQ : Q (some (.int res.1)) res.2) :
    ∀ (n : Nat) (x3 : Int32) (x4 : Int32) (M : kx_M),
    f_Cloth_pullThread_l5 p0 p1 p2 n x3 x4 M = some res → G 5 [some (.ref p0), some (.int p1), some (.int p2), some (.int x3), some (.int x4), none] [] M := by
  intro n
  induction n with
  | zero =>
    intro x3 x4 M h
    exact absurd h (by rw [f_Cloth_pullThread_l5]; exact fun z => nomatch z)
  | succ n ih =>
    intro x3 x4 M h
    rw [f_Cloth_pullThread_l5] at h
    refine x_iload F.1 (i := 4) rfl rfl ?_
    refine x_aload_n F.1 (i := 5) rfl rfl ?_
    refine x_getI F.1 (i := 6) rfl fl_Cloth_27 (lk_Cloth hp0) (by rfl) ?_
    refine x_icmp_ge F.1 (i := 7) (tgt := 90) rfl (by decide) (fun c => ?_) (fun c => ?_)
    · replace h := if_T c h
      refine x_aload_n F.1 (i := 47) rfl rfl ?_
      refine x_iload_n F.1 (i := 48) rfl rfl ?_
      refine cal_e h (fun r1 M1 e2 h => ?_)
      refine x_cV1i F.1 (i := 49) rfl ml_Cloth_73 ok_Cloth_withLadders (lk_Cloth hp0) (Nat.le_of_ble_eq_true rfl) (Nat.le_of_ble_eq_true rfl) (fun _ => t_Cloth_withLadders hp0 e2) ?_
      exact x_iretf F (i := 50) rfl rfl h hQ
    · replace h := if_F c h
      refine x_iload_n F.1 (i := 8) rfl rfl ?_
      refine x_iload_n F.1 (i := 9) rfl rfl ?_
      refine x_if_ne F.1 (i := 10) (tgt := 24) rfl (by decide) (fun c => ?_) (fun c => ?_)
      · replace h := if_F c h
        refine x_aload_n F.1 (i := 13) rfl rfl ?_
        refine x_getI F.1 (i := 14) rfl fl_Cloth_27 (lk_Cloth hp0) (by rfl) ?_
        refine x_iconst F.1 (i := 15) rfl ic_1 ?_
        refine x_isub F.1 (i := 16) rfl ?_
        refine x_iload F.1 (i := 17) rfl rfl ?_
        refine x_isub F.1 (i := 18) rfl ?_
        exact x_wk F.1 ((t_Cloth_pullThread_l33 F hp0 hQ ih) _ _ _ _ _ h) ⟨rfl, rfl, rfl, rfl, rfl, trivial⟩
      · replace h := if_T c h
        refine x_iload F.1 (i := 11) rfl rfl ?_
        refine x_goto F.1 (i := 12) (tgt := 33) rfl (by decide) ?_
        exact x_wk F.1 ((t_Cloth_pullThread_l33 F hp0 hQ ih) _ _ _ _ _ h) ⟨rfl, rfl, rfl, rfl, rfl, trivial⟩
set_option maxHeartbeats 4000000 in
theorem t_Cloth_pullThread {w : kx_W} {d : Nat} {M : kx_M} {Q : Option Value → kx_M → Prop} {p0 : Nat} {p1 : Int32} {p2 : Int32} {r : Int32} {M' : kx_M} (hp0 : isCloth p0 = true) (h : f_Cloth_pullThread p0 p1 p2 M = some (r, M')) (hQ : Q (some (.int r)) M') : Ct w (d + 2) m_Cloth_pullThread [.ref p0, .int p1, .int p2] M Q := by
  refine mk_ct ok_Cloth_pullThread (Nat.le_of_ble_eq_true rfl) (fun G F => ?_)
  rw [f_Cloth_pullThread] at h
  show G 0 [some (.ref p0), some (.int p1), some (.int p2), none, none, none] [] M
  refine x_iconst F.1 (i := 0) rfl ic_0 ?_
  refine x_istore_n F.1 (i := 1) rfl (Nat.le_of_ble_eq_true rfl) (Nat.le_of_ble_eq_true rfl) rfl ?_
  refine x_iconst F.1 (i := 2) rfl ic_0 ?_
  refine x_istore F.1 (i := 3) rfl (Nat.le_of_ble_eq_true rfl) (Nat.le_of_ble_eq_true rfl) rfl ?_
  exact x_wk F.1 ((t_Cloth_pullThread_l5 F hp0 (res := (r, M')) hQ FU) _ _ _ h) ⟨rfl, rfl, rfl, rfl, rfl, trivial⟩
set_option maxHeartbeats 4000000 in
theorem t_KT_pull {w : kx_W} {d : Nat} {M : kx_M} {Q : Option Value → kx_M → Prop} {p1 : Int32} {p2 : Int32} {r : Int32} {M' : kx_M} (h : f_KT_pull p1 p2 M = some (r, M')) (hQ : Q (some (.int r)) M') : Ct w (d + 3) m_KT_pull [.ref 0, .int p1, .int p2] M Q := by
  refine mk_ct ok_KT_pull (Nat.le_of_ble_eq_true rfl) (fun G F => ?_)
  rw [f_KT_pull] at h
  show G 0 [some (.ref 0), some (.int p1), some (.int p2)] [] M
  refine x_aload_n F.1 (i := 0) rfl rfl ?_
  refine x_aload_n F.1 (i := 1) rfl rfl ?_
  refine x_iload_n F.1 (i := 2) rfl rfl ?_
  refine x_iload_n F.1 (i := 3) rfl rfl ?_
  refine cal_e h (fun r1 M1 e2 h => ?_)
  refine x_cV2i F.1 (i := 4) rfl ml_KT_285 ok_KT_pullStatus rfl (Nat.le_of_ble_eq_true rfl) (Nat.le_of_ble_eq_true rfl) (fun _ => t_KT_pullStatus e2) ?_
  refine cal_e h (fun r3 M2 e4 h => ?_)
  refine x_cV1i F.1 (i := 5) rfl ml_KT_103 ok_KT_refused rfl (Nat.le_of_ble_eq_true rfl) (Nat.le_of_ble_eq_true rfl) (fun _ => t_KT_refused e4) ?_
  refine x_if_eq F.1 (i := 6) (tgt := 15) rfl (by decide) (fun c => ?_) (fun c => ?_)
  · replace h := if_T c h
    refine x_aload_n F.1 (i := 9) rfl rfl ?_
    refine x_getR F.1 (i := 10) rfl fl_KT_64 rfl (by rfl) rfl ?_
    refine gd_e h (fun g5 h => ?_)
    replace h := bd_e h
    refine x_getC F.1 (i := 11) rfl fl_KT_156 (lk_State g5) (by rfl) ?_
    refine x_iload_n F.1 (i := 12) rfl rfl ?_
    refine x_iload_n F.1 (i := 13) rfl rfl ?_
    refine cal_e h (fun r7 M3 e8 h => ?_)
    refine x_cV2i F.1 (i := 14) rfl ml_KT_288 ok_Cloth_pullThread (lk_Cloth (lD_State_cloth g5)) (Nat.le_of_ble_eq_true rfl) (Nat.le_of_ble_eq_true rfl) (fun _ => t_Cloth_pullThread (lD_State_cloth g5) e8) ?_
    exact x_iretf F (i := 15) rfl rfl h (res := (r, M')) hQ
  · replace h := if_F c h
    refine x_iconst F.1 (i := 7) rfl ic_n1 ?_
    exact x_iretf F (i := 8) rfl rfl h (res := (r, M')) hQ
set_option maxHeartbeats 4000000 in
theorem t_Cloth_eat {w : kx_W} {d : Nat} {M : kx_M} {Q : Option Value → kx_M → Prop} {p0 : Nat} {p1 : Int32} {p2 : Int32} {r : Int32} {M' : kx_M} (hp0 : isCloth p0 = true) (h : f_Cloth_eat p0 p1 p2 M = some (r, M')) (hQ : Q (some (.int r)) M') : Ct w (d + 2) m_Cloth_eat [.ref p0, .int p1, .int p2] M Q := by
  refine mk_ct ok_Cloth_eat (Nat.le_of_ble_eq_true rfl) (fun G F => ?_)
  rw [f_Cloth_eat] at h
  show G 0 [some (.ref p0), some (.int p1), some (.int p2), none] [] M
  refine x_iload_n F.1 (i := 0) rfl rfl ?_
  refine x_iload_n F.1 (i := 1) rfl rfl ?_
  refine cal_e h (fun r1 M1 e2 h => ?_)
  refine x_cS2i F.1 (i := 2) rfl ml_Cloth_46 ok_Cloth_at (Nat.le_of_ble_eq_true rfl) (Nat.le_of_ble_eq_true rfl) (fun _ => t_Cloth_at e2) ?_
  refine x_istore_n F.1 (i := 3) rfl (Nat.le_of_ble_eq_true rfl) (Nat.le_of_ble_eq_true rfl) rfl ?_
  refine x_aload_n F.1 (i := 4) rfl rfl ?_
  refine x_iload_n F.1 (i := 5) rfl rfl ?_
  refine cal_e h (fun r3 M2 e4 h => ?_)
  refine x_cV1i F.1 (i := 6) rfl ml_Cloth_61 ok_Cloth_loose (lk_Cloth hp0) (Nat.le_of_ble_eq_true rfl) (Nat.le_of_ble_eq_true rfl) (fun _ => t_Cloth_loose hp0 e4) ?_
  refine x_if_ne F.1 (i := 7) (tgt := 16) rfl (by decide) (fun c => ?_) (fun c => ?_)
  · replace h := if_F c h
    refine x_aload_n F.1 (i := 10) rfl rfl ?_
    refine x_getC F.1 (i := 11) rfl fl_Cloth_21 (lk_Cloth hp0) (by rfl) ?_
    refine x_iload_n F.1 (i := 12) rfl rfl ?_
    refine x_iconst F.1 (i := 13) rfl ic_1 ?_
    refine gd_e h (fun g5 h => ?_)
    refine x_iast F.1 (i := 14) rfl (lk_Cloth_undone hp0) (inb_e g5) ?_
    replace h := bd_e h
    refine x_aload_n F.1 (i := 15) rfl rfl ?_
    refine x_iconst F.1 (i := 16) rfl ic_1 ?_
    refine cal_e h (fun r6 M4 e7 h => ?_)
    refine x_cV1i F.1 (i := 17) rfl ml_Cloth_73 ok_Cloth_withLadders (lk_Cloth hp0) (Nat.le_of_ble_eq_true rfl) (Nat.le_of_ble_eq_true rfl) (fun _ => t_Cloth_withLadders hp0 e7) ?_
    exact x_iretf F (i := 18) rfl rfl h (res := (r, M')) hQ
  · replace h := if_T c h
    refine x_iconst F.1 (i := 8) rfl ic_0 ?_
    exact x_iretf F (i := 9) rfl rfl h (res := (r, M')) hQ
set_option maxHeartbeats 4000000 in
theorem t_KT_moth_l44 {w : kx_W} {d : Nat} {Q : Option Value → kx_M → Prop} {G : Nat → List (Option Value) → List Value → kx_M → Prop} (F : Sd w (d + 3) m_KT_moth Q G) {p1 : Int32} {p2 : Int32} {res : Int32 × kx_M} (hQ : Q (some (.int res.1)) res.2) :
    ∀ (x3 : Int32) (M : kx_M),
    f_KT_moth_l44 p1 p2 x3 M = some res → G 44 [some (.ref 0), some (.int p1), some (.int p2), some (.int x3)] [] M := by
  intro x3 M h
  rw [f_KT_moth_l44] at h
  refine x_aload_n F.1 (i := 23) rfl rfl ?_
  refine x_iload_n F.1 (i := 24) rfl rfl ?_
  refine cal_e h (fun r1 M1 e2 h => ?_)
  refine x_cV1i F.1 (i := 25) rfl ml_KT_103 ok_KT_refused rfl (Nat.le_of_ble_eq_true rfl) (Nat.le_of_ble_eq_true rfl) (fun _ => t_KT_refused e2) ?_
  refine x_if_eq F.1 (i := 26) (tgt := 54) rfl (by decide) (fun c => ?_) (fun c => ?_)
  · replace h := if_T c h
    refine x_aload_n F.1 (i := 29) rfl rfl ?_
    refine x_getR F.1 (i := 30) rfl fl_KT_64 rfl (by rfl) rfl ?_
    refine gd_e h (fun g3 h => ?_)
    replace h := bd_e h
    refine x_getC F.1 (i := 31) rfl fl_KT_156 (lk_State g3) (by rfl) ?_
    refine x_iload_n F.1 (i := 32) rfl rfl ?_
    refine x_iload_n F.1 (i := 33) rfl rfl ?_
    refine cal_e h (fun r5 M2 e6 h => ?_)
    refine x_cV2i F.1 (i := 34) rfl ml_KT_294 ok_Cloth_eat (lk_Cloth (lD_State_cloth g3)) (Nat.le_of_ble_eq_true rfl) (Nat.le_of_ble_eq_true rfl) (fun _ => t_Cloth_eat (lD_State_cloth g3) e6) ?_
    exact x_iretf F (i := 35) rfl rfl h hQ
  · replace h := if_F c h
    refine x_iconst F.1 (i := 27) rfl ic_n1 ?_
    exact x_iretf F (i := 28) rfl rfl h hQ
set_option maxHeartbeats 4000000 in
theorem t_KT_moth {w : kx_W} {d : Nat} {M : kx_M} {Q : Option Value → kx_M → Prop} {p1 : Int32} {p2 : Int32} {r : Int32} {M' : kx_M} (h : f_KT_moth p1 p2 M = some (r, M')) (hQ : Q (some (.int r)) M') : Ct w (d + 3) m_KT_moth [.ref 0, .int p1, .int p2] M Q := by
  refine mk_ct ok_KT_moth (Nat.le_of_ble_eq_true rfl) (fun G F => ?_)
  rw [f_KT_moth] at h
  show G 0 [some (.ref 0), some (.int p1), some (.int p2), none] [] M
  refine x_iconst F.1 (i := 0) rfl ic_0 ?_
  refine x_istore_n F.1 (i := 1) rfl (Nat.le_of_ble_eq_true rfl) (Nat.le_of_ble_eq_true rfl) rfl ?_
  refine x_aload_n F.1 (i := 2) rfl rfl ?_
  refine x_iload_n F.1 (i := 3) rfl rfl ?_
  refine cal_e h (fun r1 M1 e2 h => ?_)
  refine x_cV1i F.1 (i := 4) rfl ml_KT_225 ok_KT_noRow rfl (Nat.le_of_ble_eq_true rfl) (Nat.le_of_ble_eq_true rfl) (fun _ => t_KT_noRow e2) ?_
  refine x_if_ne F.1 (i := 5) (tgt := 18) rfl (by decide) (fun c => ?_) (fun c => ?_)
  · replace h := if_F c h
    refine x_iconst F.1 (i := 10) rfl ic_2 ?_
    refine x_istore_n F.1 (i := 11) rfl (Nat.le_of_ble_eq_true rfl) (Nat.le_of_ble_eq_true rfl) rfl ?_
    refine x_goto F.1 (i := 12) (tgt := 44) rfl (by decide) ?_
    exact x_wk F.1 ((t_KT_moth_l44 F (res := (r, M')) hQ) _ _ h) ⟨rfl, rfl, rfl, rfl, trivial⟩
  · replace h := if_T c h
    refine x_aload_n F.1 (i := 6) rfl rfl ?_
    refine x_iload_n F.1 (i := 7) rfl rfl ?_
    refine cal_e h (fun r3 M2 e4 h => ?_)
    refine x_cV1i F.1 (i := 8) rfl ml_KT_228 ok_KT_noColumn rfl (Nat.le_of_ble_eq_true rfl) (Nat.le_of_ble_eq_true rfl) (fun _ => t_KT_noColumn e4) ?_
    refine x_if_eq F.1 (i := 9) (tgt := 23) rfl (by decide) (fun c => ?_) (fun c => ?_)
    · replace h := if_T c h
      refine x_aload_n F.1 (i := 13) rfl rfl ?_
      refine x_getR F.1 (i := 14) rfl fl_KT_64 rfl (by rfl) rfl ?_
      refine gd_e h (fun g5 h => ?_)
      replace h := bd_e h
      refine x_getC F.1 (i := 15) rfl fl_KT_156 (lk_State g5) (by rfl) ?_
      refine x_iload_n F.1 (i := 16) rfl rfl ?_
      refine x_iload_n F.1 (i := 17) rfl rfl ?_
      refine cal_e h (fun r7 M3 e8 h => ?_)
      refine x_cS2i F.1 (i := 18) rfl ml_KT_231 ok_Cloth_at (Nat.le_of_ble_eq_true rfl) (Nat.le_of_ble_eq_true rfl) (fun _ => t_Cloth_at e8) ?_
      refine cal_e h (fun r9 M4 e10 h => ?_)
      refine x_cV1i F.1 (i := 19) rfl ml_KT_291 ok_Cloth_loose (lk_Cloth (lD_State_cloth g5)) (Nat.le_of_ble_eq_true rfl) (Nat.le_of_ble_eq_true rfl) (fun _ => t_Cloth_loose (lD_State_cloth g5) e10) ?_
      refine x_if_ne F.1 (i := 20) (tgt := 44) rfl (by decide) (fun c => ?_) (fun c => ?_)
      · replace h := if_F c h
        exact x_wk F.1 ((t_KT_moth_l44 F (res := (r, M')) hQ) _ _ h) ⟨rfl, rfl, rfl, rfl, trivial⟩
      · replace h := if_T c h
        refine x_bipush F.1 (i := 21) rfl bp_9 ?_
        refine x_istore_n F.1 (i := 22) rfl (Nat.le_of_ble_eq_true rfl) (Nat.le_of_ble_eq_true rfl) rfl ?_
        exact x_wk F.1 ((t_KT_moth_l44 F (res := (r, M')) hQ) _ _ h) ⟨rfl, rfl, rfl, rfl, trivial⟩
    · replace h := if_F c h
      refine x_iconst F.1 (i := 10) rfl ic_2 ?_
      refine x_istore_n F.1 (i := 11) rfl (Nat.le_of_ble_eq_true rfl) (Nat.le_of_ble_eq_true rfl) rfl ?_
      refine x_goto F.1 (i := 12) (tgt := 44) rfl (by decide) ?_
      exact x_wk F.1 ((t_KT_moth_l44 F (res := (r, M')) hQ) _ _ h) ⟨rfl, rfl, rfl, rfl, trivial⟩
set_option maxHeartbeats 4000000 in
theorem t_Cloth_patch {w : kx_W} {d : Nat} {M : kx_M} {Q : Option Value → kx_M → Prop} {p0 : Nat} {p1 : Int32} {p2 : Int32} {r : Int32} {M' : kx_M} (hp0 : isCloth p0 = true) (h : f_Cloth_patch p0 p1 p2 M = some (r, M')) (hQ : Q (some (.int r)) M') : Ct w (d + 1) m_Cloth_patch [.ref p0, .int p1, .int p2] M Q := by
  refine mk_ct ok_Cloth_patch (Nat.le_of_ble_eq_true rfl) (fun G F => ?_)
  rw [f_Cloth_patch] at h
  show G 0 [some (.ref p0), some (.int p1), some (.int p2), none, none] [] M
  refine x_iload_n F.1 (i := 0) rfl rfl ?_
  refine x_iload_n F.1 (i := 1) rfl rfl ?_
  refine cal_e h (fun r1 M1 e2 h => ?_)
  refine x_cS2i F.1 (i := 2) rfl ml_Cloth_46 ok_Cloth_at (Nat.le_of_ble_eq_true rfl) (Nat.le_of_ble_eq_true rfl) (fun _ => t_Cloth_at e2) ?_
  refine x_istore_n F.1 (i := 3) rfl (Nat.le_of_ble_eq_true rfl) (Nat.le_of_ble_eq_true rfl) rfl ?_
  refine x_aload_n F.1 (i := 4) rfl rfl ?_
  refine x_getC F.1 (i := 5) rfl fl_Cloth_18 (lk_Cloth hp0) (by rfl) ?_
  refine x_iload_n F.1 (i := 6) rfl rfl ?_
  refine gd_e h (fun g3 h => ?_)
  refine x_iald F.1 (i := 7) rfl (lk_Cloth_worn hp0) (inb_e g3) ?_
  refine x_istore F.1 (i := 8) rfl (Nat.le_of_ble_eq_true rfl) (Nat.le_of_ble_eq_true rfl) rfl ?_
  replace h := bd_e h
  refine x_aload_n F.1 (i := 9) rfl rfl ?_
  refine x_getC F.1 (i := 10) rfl fl_Cloth_18 (lk_Cloth hp0) (by rfl) ?_
  refine x_iload_n F.1 (i := 11) rfl rfl ?_
  refine x_iconst F.1 (i := 12) rfl ic_0 ?_
  refine gd_e h (fun g5 h => ?_)
  refine x_iast F.1 (i := 13) rfl (lk_Cloth_worn hp0) (inb_e g5) ?_
  replace h := bd_e h
  refine x_aload_n F.1 (i := 14) rfl rfl ?_
  refine x_getC F.1 (i := 15) rfl fl_Cloth_21 (lk_Cloth hp0) (by rfl) ?_
  refine x_iload_n F.1 (i := 16) rfl rfl ?_
  refine x_iconst F.1 (i := 17) rfl ic_0 ?_
  refine gd_e h (fun g6 h => ?_)
  refine x_iast F.1 (i := 18) rfl (lk_Cloth_undone hp0) (inb_e g6) ?_
  replace h := bd_e h
  refine x_aload_n F.1 (i := 19) rfl rfl ?_
  refine x_getC F.1 (i := 20) rfl fl_Cloth_24 (lk_Cloth hp0) (by rfl) ?_
  refine x_iload_n F.1 (i := 21) rfl rfl ?_
  refine x_iconst F.1 (i := 22) rfl ic_1 ?_
  refine gd_e h (fun g7 h => ?_)
  refine x_iast F.1 (i := 23) rfl (lk_Cloth_darned hp0) (inb_e g7) ?_
  replace h := bd_e h
  refine x_iload F.1 (i := 24) rfl rfl ?_
  exact x_iretf F (i := 25) rfl rfl h (res := (r, M')) hQ
set_option maxHeartbeats 4000000 in
theorem t_KT_darn_l22 {w : kx_W} {d : Nat} {Q : Option Value → kx_M → Prop} {G : Nat → List (Option Value) → List Value → kx_M → Prop} (F : Sd w (d + 2) m_KT_darn Q G) {p1 : Int32} {p2 : Int32} {res : Int32 × kx_M} (hQ : Q (some (.int res.1)) res.2) :
    ∀ (s0 : Nat) (s1 : Int32) (M : kx_M),
    f_KT_darn_l22 p1 p2 s0 s1 M = some res → G 22 [some (.ref 0), some (.int p1), some (.int p2)] [.int s1, .ref 0] M := by
  intro s0 s1 M h
  rw [f_KT_darn_l22] at h
  refine cal_e h (fun r1 M1 e2 h => ?_)
  refine x_cV1i F.1 (i := 12) rfl ml_KT_103 ok_KT_refused rfl (Nat.le_of_ble_eq_true rfl) (Nat.le_of_ble_eq_true rfl) (fun _ => t_KT_refused e2) ?_
  refine x_if_eq F.1 (i := 13) (tgt := 30) rfl (by decide) (fun c => ?_) (fun c => ?_)
  · replace h := if_T c h
    refine x_aload_n F.1 (i := 16) rfl rfl ?_
    refine x_getR F.1 (i := 17) rfl fl_KT_64 rfl (by rfl) rfl ?_
    refine gd_e h (fun g3 h => ?_)
    replace h := bd_e h
    refine x_getC F.1 (i := 18) rfl fl_KT_156 (lk_State g3) (by rfl) ?_
    refine x_iload_n F.1 (i := 19) rfl rfl ?_
    refine x_iload_n F.1 (i := 20) rfl rfl ?_
    refine cal_e h (fun r5 M2 e6 h => ?_)
    refine x_cV2i F.1 (i := 21) rfl ml_KT_297 ok_Cloth_patch (lk_Cloth (lD_State_cloth g3)) (Nat.le_of_ble_eq_true rfl) (Nat.le_of_ble_eq_true rfl) (fun _ => t_Cloth_patch (lD_State_cloth g3) e6) ?_
    exact x_iretf F (i := 22) rfl rfl h hQ
  · replace h := if_F c h
    refine x_iconst F.1 (i := 14) rfl ic_n1 ?_
    exact x_iretf F (i := 15) rfl rfl h hQ
set_option maxHeartbeats 4000000 in
theorem t_KT_darn {w : kx_W} {d : Nat} {M : kx_M} {Q : Option Value → kx_M → Prop} {p1 : Int32} {p2 : Int32} {r : Int32} {M' : kx_M} (h : f_KT_darn p1 p2 M = some (r, M')) (hQ : Q (some (.int r)) M') : Ct w (d + 2) m_KT_darn [.ref 0, .int p1, .int p2] M Q := by
  refine mk_ct ok_KT_darn (Nat.le_of_ble_eq_true rfl) (fun G F => ?_)
  rw [f_KT_darn] at h
  show G 0 [some (.ref 0), some (.int p1), some (.int p2)] [] M
  refine x_aload_n F.1 (i := 0) rfl rfl ?_
  refine x_aload_n F.1 (i := 1) rfl rfl ?_
  refine x_iload_n F.1 (i := 2) rfl rfl ?_
  refine cal_e h (fun r1 M1 e2 h => ?_)
  refine x_cV1i F.1 (i := 3) rfl ml_KT_225 ok_KT_noRow rfl (Nat.le_of_ble_eq_true rfl) (Nat.le_of_ble_eq_true rfl) (fun _ => t_KT_noRow e2) ?_
  refine x_if_ne F.1 (i := 4) (tgt := 17) rfl (by decide) (fun c => ?_) (fun c => ?_)
  · replace h := if_F c h
    refine x_iconst F.1 (i := 9) rfl ic_2 ?_
    refine x_goto F.1 (i := 10) (tgt := 22) rfl (by decide) ?_
    exact x_wk F.1 ((t_KT_darn_l22 F (res := (r, M')) hQ) _ _ _ h) ⟨rfl, rfl, rfl, trivial⟩
  · replace h := if_T c h
    refine x_aload_n F.1 (i := 5) rfl rfl ?_
    refine x_iload_n F.1 (i := 6) rfl rfl ?_
    refine cal_e h (fun r3 M2 e4 h => ?_)
    refine x_cV1i F.1 (i := 7) rfl ml_KT_228 ok_KT_noColumn rfl (Nat.le_of_ble_eq_true rfl) (Nat.le_of_ble_eq_true rfl) (fun _ => t_KT_noColumn e4) ?_
    refine x_if_eq F.1 (i := 8) (tgt := 21) rfl (by decide) (fun c => ?_) (fun c => ?_)
    · replace h := if_T c h
      refine x_iconst F.1 (i := 11) rfl ic_0 ?_
      exact x_wk F.1 ((t_KT_darn_l22 F (res := (r, M')) hQ) _ _ _ h) ⟨rfl, rfl, rfl, trivial⟩
    · replace h := if_F c h
      refine x_iconst F.1 (i := 9) rfl ic_2 ?_
      refine x_goto F.1 (i := 10) (tgt := 22) rfl (by decide) ?_
      exact x_wk F.1 ((t_KT_darn_l22 F (res := (r, M')) hQ) _ _ _ h) ⟨rfl, rfl, rfl, trivial⟩
set_option maxHeartbeats 4000000 in
theorem t_KT_runStatus {w : kx_W} {d : Nat} {M : kx_M} {Q : Option Value → kx_M → Prop} {p1 : Int32} {r : Int32} {M' : kx_M} (h : f_KT_runStatus p1 M = some (r, M')) (hQ : Q (some (.int r)) M') : Ct w (d + 1) m_KT_runStatus [.ref 0, .int p1] M Q := by
  refine mk_ct ok_KT_runStatus (Nat.le_of_ble_eq_true rfl) (fun G F => ?_)
  rw [f_KT_runStatus] at h
  show G 0 [some (.ref 0), some (.int p1)] [] M
  refine x_aload_n F.1 (i := 0) rfl rfl ?_
  refine x_getC F.1 (i := 1) rfl fl_KT_11 rfl (by rfl) ?_
  refine x_iload_n F.1 (i := 2) rfl rfl ?_
  refine gd_e h (fun g1 h => ?_)
  refine x_tray F.1 (i := 3) rfl g1 ?_
  refine x_getI F.1 (i := 4) rfl fl_KT_124 (lk_Tray (isTray_of g1)) (by rfl) ?_
  refine x_if_eq F.1 (i := 5) (tgt := 14) rfl (by decide) (fun c => ?_) (fun c => ?_)
  · replace h := if_T c h
    refine x_aload_n F.1 (i := 8) rfl rfl ?_
    refine x_getC F.1 (i := 9) rfl fl_KT_11 rfl (by rfl) ?_
    refine x_iload_n F.1 (i := 10) rfl rfl ?_
    refine gd_e h (fun g2 h => ?_)
    refine x_tray F.1 (i := 11) rfl g2 ?_
    refine x_iconst F.1 (i := 12) rfl ic_0 ?_
    refine x_aload_n F.1 (i := 13) rfl rfl ?_
    refine x_getR F.1 (i := 14) rfl fl_KT_64 rfl (by rfl) rfl ?_
    refine gd_e h (fun g3 h => ?_)
    replace h := bd_e h
    refine x_getC F.1 (i := 15) rfl fl_KT_156 (lk_State g3) (by rfl) ?_
    refine x_getI F.1 (i := 16) rfl fl_KT_186 (lk_Cloth (lD_State_cloth g3)) (by rfl) ?_
    refine cal_e h (fun r5 M1 e6 h => ?_)
    refine x_cV2i F.1 (i := 17) rfl ml_KT_130 ok_Tray_lacks (lk_Tray (isTray_of g2)) (Nat.le_of_ble_eq_true rfl) (Nat.le_of_ble_eq_true rfl) (fun _ => t_Tray_lacks (isTray_of g2) e6) ?_
    refine x_if_eq F.1 (i := 18) (tgt := 41) rfl (by decide) (fun c => ?_) (fun c => ?_)
    · replace h := if_T c h
      refine x_iconst F.1 (i := 21) rfl ic_0 ?_
      exact x_iretf F (i := 22) rfl rfl h (res := (r, M')) hQ
    · replace h := if_F c h
      refine x_iconst F.1 (i := 19) rfl ic_4 ?_
      refine x_goto F.1 (i := 20) (tgt := 42) rfl (by decide) ?_
      exact x_iretf F (i := 22) rfl rfl h (res := (r, M')) hQ
  · replace h := if_F c h
    refine x_iconst F.1 (i := 6) rfl ic_3 ?_
    exact x_iretf F (i := 7) rfl rfl h (res := (r, M')) hQ
set_option maxHeartbeats 4000000 in
theorem t_Tray_within_l3 {w : kx_W} {d : Nat} {Q : Option Value → kx_M → Prop} {G : Nat → List (Option Value) → List Value → kx_M → Prop} (F : Sd w d m_Tray_within Q G) {p0 : Nat} {p1 : Int32} {p2 : Int64} {p4 : Int64} (hp0 : isTray p0 = true) {res : Int32 × kx_M} (hQ : Q (some (.int res.1)) res.2) :
    ∀ (n : Nat) (x6 : Int32) (M : kx_M),
    f_Tray_within_l3 p0 p1 p2 p4 n x6 M = some res → G 3 [some (.ref p0), some (.int p1), some (.long p2), none, some (.long p4), none, some (.int x6)] [] M := by
  intro n
  induction n with
  | zero =>
    intro x6 M h
    exact absurd h (by rw [f_Tray_within_l3]; exact fun z => nomatch z)
  | succ n ih =>
    intro x6 M h
    rw [f_Tray_within_l3] at h
    refine x_iload F.1 (i := 2) rfl rfl ?_
    refine x_iload_n F.1 (i := 3) rfl rfl ?_
    refine x_icmp_ge F.1 (i := 4) (tgt := 42) rfl (by decide) (fun c => ?_) (fun c => ?_)
    · replace h := if_T c h
      refine x_iconst F.1 (i := 23) rfl ic_1 ?_
      exact x_zretf F (i := 24) rfl rfl (Or.inr rfl) h hQ
    · replace h := if_F c h
      refine x_aload_n F.1 (i := 5) rfl rfl ?_
      refine x_getC F.1 (i := 6) rfl fl_Tray_9 (lk_Tray hp0) (by rfl) ?_
      refine x_iload F.1 (i := 7) rfl rfl ?_
      refine gd_e h (fun g1 h => ?_)
      refine x_lald F.1 (i := 8) rfl (lk_Tray_numbers hp0) (inb_e g1) ?_
      refine x_lload_n F.1 (i := 9) rfl rfl ?_
      refine x_lcmp F.1 (i := 10) rfl ?_
      refine x_if_lt F.1 (i := 11) (tgt := 34) rfl (by decide) (fun c => ?_) (fun c => ?_)
      · replace h := if_T c h
        refine x_iconst F.1 (i := 19) rfl ic_0 ?_
        exact x_zretf F (i := 20) rfl rfl (Or.inl rfl) h hQ
      · replace h := if_F c h
        refine x_aload_n F.1 (i := 12) rfl rfl ?_
        refine x_getC F.1 (i := 13) rfl fl_Tray_9 (lk_Tray hp0) (by rfl) ?_
        refine x_iload F.1 (i := 14) rfl rfl ?_
        refine gd_e h (fun g2 h => ?_)
        refine x_lald F.1 (i := 15) rfl (lk_Tray_numbers hp0) (inb_e g2) ?_
        refine x_lload F.1 (i := 16) rfl rfl ?_
        refine x_lcmp F.1 (i := 17) rfl ?_
        refine x_if_le F.1 (i := 18) (tgt := 36) rfl (by decide) (fun c => ?_) (fun c => ?_)
        · replace h := if_T c h
          refine x_iinc F.1 (i := 21) rfl rfl rfl (Nat.le_of_ble_eq_true rfl) rfl ?_
          replace h := bd_e h
          refine x_goto F.1 (i := 22) (tgt := 3) rfl (by decide) ?_
          exact x_wk F.1 (ih _ _ h) ⟨rfl, rfl, rfl, rfl, rfl, trivial⟩
        · replace h := if_F c h
          refine x_iconst F.1 (i := 19) rfl ic_0 ?_
          exact x_zretf F (i := 20) rfl rfl (Or.inl rfl) h hQ
set_option maxHeartbeats 4000000 in
theorem t_Tray_within {w : kx_W} {d : Nat} {M : kx_M} {Q : Option Value → kx_M → Prop} {p0 : Nat} {p1 : Int32} {p2 : Int64} {p4 : Int64} {r : Int32} {M' : kx_M} (hp0 : isTray p0 = true) (h : f_Tray_within p0 p1 p2 p4 M = some (r, M')) (hQ : Q (some (.int r)) M') : Ct w d m_Tray_within [.ref p0, .int p1, .long p2, .long p4] M Q := by
  refine mk_ct ok_Tray_within (Nat.le_of_ble_eq_true rfl) (fun G F => ?_)
  rw [f_Tray_within] at h
  show G 0 [some (.ref p0), some (.int p1), some (.long p2), none, some (.long p4), none, none] [] M
  refine x_iconst F.1 (i := 0) rfl ic_0 ?_
  refine x_istore F.1 (i := 1) rfl (Nat.le_of_ble_eq_true rfl) (Nat.le_of_ble_eq_true rfl) rfl ?_
  exact x_wk F.1 ((t_Tray_within_l3 F hp0 (res := (r, M')) hQ FU) _ _ h) ⟨rfl, rfl, rfl, rfl, rfl, trivial⟩
set_option maxHeartbeats 4000000 in
theorem t_KT_kindsStatus {w : kx_W} {d : Nat} {M : kx_M} {Q : Option Value → kx_M → Prop} {p1 : Int32} {p2 : Int32} {r : Int32} {M' : kx_M} (h : f_KT_kindsStatus p1 p2 M = some (r, M')) (hQ : Q (some (.int r)) M') : Ct w (d + 2) m_KT_kindsStatus [.ref 0, .int p1, .int p2] M Q := by
  refine mk_ct ok_KT_kindsStatus (Nat.le_of_ble_eq_true rfl) (fun G F => ?_)
  rw [f_KT_kindsStatus] at h
  show G 0 [some (.ref 0), some (.int p1), some (.int p2), none] [] M
  refine x_aload_n F.1 (i := 0) rfl rfl ?_
  refine x_iload_n F.1 (i := 1) rfl rfl ?_
  refine cal_e h (fun r1 M1 e2 h => ?_)
  refine x_cV1i F.1 (i := 2) rfl ml_KT_272 ok_KT_runStatus rfl (Nat.le_of_ble_eq_true rfl) (Nat.le_of_ble_eq_true rfl) (fun _ => t_KT_runStatus e2) ?_
  refine x_istore_n F.1 (i := 3) rfl (Nat.le_of_ble_eq_true rfl) (Nat.le_of_ble_eq_true rfl) rfl ?_
  refine x_iload_n F.1 (i := 4) rfl rfl ?_
  refine x_if_eq F.1 (i := 5) (tgt := 12) rfl (by decide) (fun c => ?_) (fun c => ?_)
  · replace h := if_T c h
    refine x_aload_n F.1 (i := 8) rfl rfl ?_
    refine x_getC F.1 (i := 9) rfl fl_KT_11 rfl (by rfl) ?_
    refine x_iload_n F.1 (i := 10) rfl rfl ?_
    refine gd_e h (fun g3 h => ?_)
    refine x_tray F.1 (i := 11) rfl g3 ?_
    refine x_aload_n F.1 (i := 12) rfl rfl ?_
    refine x_getR F.1 (i := 13) rfl fl_KT_64 rfl (by rfl) rfl ?_
    refine gd_e h (fun g4 h => ?_)
    replace h := bd_e h
    refine x_getC F.1 (i := 14) rfl fl_KT_156 (lk_State g4) (by rfl) ?_
    refine x_getI F.1 (i := 15) rfl fl_KT_186 (lk_Cloth (lD_State_cloth g4)) (by rfl) ?_
    refine x_iload_n F.1 (i := 16) rfl rfl ?_
    refine x_i2l F.1 (i := 17) rfl ?_
    refine x_ldc2_w F.1 (i := 18) rfl cl_KT_276 ?_
    refine cal_e h (fun r6 M2 e7 h => ?_)
    refine x_cV3i F.1 (i := 19) rfl ml_KT_278 ok_Tray_within (lk_Tray (isTray_of g3)) (Nat.le_of_ble_eq_true rfl) (Nat.le_of_ble_eq_true rfl) (fun _ => t_Tray_within (isTray_of g3) e7) ?_
    refine x_if_eq F.1 (i := 20) (tgt := 43) rfl (by decide) (fun c => ?_) (fun c => ?_)
    · replace h := if_T c h
      refine x_iconst F.1 (i := 23) rfl ic_5 ?_
      exact x_iretf F (i := 24) rfl rfl h (res := (r, M')) hQ
    · replace h := if_F c h
      refine x_iconst F.1 (i := 21) rfl ic_0 ?_
      refine x_goto F.1 (i := 22) (tgt := 44) rfl (by decide) ?_
      exact x_iretf F (i := 24) rfl rfl h (res := (r, M')) hQ
  · replace h := if_F c h
    refine x_iload_n F.1 (i := 6) rfl rfl ?_
    exact x_iretf F (i := 7) rfl rfl h (res := (r, M')) hQ
set_option maxHeartbeats 4000000 in
theorem t_Tray_woolOf_l4 {w : kx_W} {d : Nat} {Q : Option Value → kx_M → Prop} {G : Nat → List (Option Value) → List Value → kx_M → Prop} (F : Sd w d m_Tray_woolOf Q G) {p0 : Nat} {p1 : Int32} (hp0 : isTray p0 = true) {res : Int32 × kx_M} (hQ : Q (some (.int res.1)) res.2) :
    ∀ (n : Nat) (x2 : Int32) (x3 : Int32) (M : kx_M),
    f_Tray_woolOf_l4 p0 p1 n x2 x3 M = some res → G 4 [some (.ref p0), some (.int p1), some (.int x2), some (.int x3)] [] M := by
  intro n
  induction n with
  | zero =>
    intro x2 x3 M h
    exact absurd h (by rw [f_Tray_woolOf_l4]; exact fun z => nomatch z)
  | succ n ih =>
    intro x2 x3 M h
    rw [f_Tray_woolOf_l4] at h
    refine x_iload_n F.1 (i := 4) rfl rfl ?_
    refine x_iload_n F.1 (i := 5) rfl rfl ?_
    refine x_icmp_ge F.1 (i := 6) (tgt := 31) rfl (by decide) (fun c => ?_) (fun c => ?_)
    · replace h := if_T c h
      refine x_iload_n F.1 (i := 21) rfl rfl ?_
      exact x_iretf F (i := 22) rfl rfl h hQ
    · replace h := if_F c h
      refine x_iload_n F.1 (i := 7) rfl rfl ?_
      refine x_gets F.1 (i := 8) rfl (by decide +kernel) ?_
      refine x_aload_n F.1 (i := 9) rfl rfl ?_
      refine x_getC F.1 (i := 10) rfl fl_Tray_9 (lk_Tray hp0) (by rfl) ?_
      refine x_iload_n F.1 (i := 11) rfl rfl ?_
      refine gd_e h (fun g1 h => ?_)
      refine x_lald F.1 (i := 12) rfl (lk_Tray_numbers hp0) (inb_e g1) ?_
      refine x_l2i F.1 (i := 13) rfl ?_
      refine x_iconst F.1 (i := 14) rfl ic_3 ?_
      refine x_iand F.1 (i := 15) rfl ?_
      refine gd_e h (fun g2 h => ?_)
      refine x_tald F.1 (i := 16) rfl (inb_e g2) ?_
      refine x_iadd F.1 (i := 17) rfl ?_
      refine x_istore_n F.1 (i := 18) rfl (Nat.le_of_ble_eq_true rfl) (Nat.le_of_ble_eq_true rfl) rfl ?_
      replace h := bd_e h
      refine x_iinc F.1 (i := 19) rfl rfl rfl (Nat.le_of_ble_eq_true rfl) rfl ?_
      replace h := bd_e h
      refine x_goto F.1 (i := 20) (tgt := 4) rfl (by decide) ?_
      exact x_wk F.1 (ih _ _ _ h) ⟨rfl, rfl, rfl, rfl, trivial⟩
set_option maxHeartbeats 4000000 in
theorem t_Tray_woolOf {w : kx_W} {d : Nat} {M : kx_M} {Q : Option Value → kx_M → Prop} {p0 : Nat} {p1 : Int32} {r : Int32} {M' : kx_M} (hp0 : isTray p0 = true) (h : f_Tray_woolOf p0 p1 M = some (r, M')) (hQ : Q (some (.int r)) M') : Ct w d m_Tray_woolOf [.ref p0, .int p1] M Q := by
  refine mk_ct ok_Tray_woolOf (Nat.le_of_ble_eq_true rfl) (fun G F => ?_)
  rw [f_Tray_woolOf] at h
  show G 0 [some (.ref p0), some (.int p1), none, none] [] M
  refine x_iconst F.1 (i := 0) rfl ic_0 ?_
  refine x_istore_n F.1 (i := 1) rfl (Nat.le_of_ble_eq_true rfl) (Nat.le_of_ble_eq_true rfl) rfl ?_
  refine x_iconst F.1 (i := 2) rfl ic_0 ?_
  refine x_istore_n F.1 (i := 3) rfl (Nat.le_of_ble_eq_true rfl) (Nat.le_of_ble_eq_true rfl) rfl ?_
  exact x_wk F.1 ((t_Tray_woolOf_l4 F hp0 (res := (r, M')) hQ FU) _ _ _ h) ⟨rfl, rfl, rfl, rfl, trivial⟩
set_option maxHeartbeats 4000000 in
theorem t_KT_knitStatus {w : kx_W} {d : Nat} {M : kx_M} {Q : Option Value → kx_M → Prop} {p1 : Int32} {p2 : Int32} {r : Int32} {M' : kx_M} (h : f_KT_knitStatus p1 p2 M = some (r, M')) (hQ : Q (some (.int r)) M') : Ct w (d + 3) m_KT_knitStatus [.ref 0, .int p1, .int p2] M Q := by
  refine mk_ct ok_KT_knitStatus (Nat.le_of_ble_eq_true rfl) (fun G F => ?_)
  rw [f_KT_knitStatus] at h
  show G 0 [some (.ref 0), some (.int p1), some (.int p2), none] [] M
  refine x_iload_n F.1 (i := 0) rfl rfl ?_
  refine cal_e h (fun r1 M1 e2 h => ?_)
  refine x_cS1i F.1 (i := 1) rfl ml_KT_99 ok_KT_noTray (Nat.le_of_ble_eq_true rfl) (Nat.le_of_ble_eq_true rfl) (fun _ => t_KT_noTray e2) ?_
  refine x_if_eq F.1 (i := 2) (tgt := 9) rfl (by decide) (fun c => ?_) (fun c => ?_)
  · replace h := if_T c h
    refine x_aload_n F.1 (i := 5) rfl rfl ?_
    refine x_iload_n F.1 (i := 6) rfl rfl ?_
    refine cal_e h (fun r3 M2 e4 h => ?_)
    refine x_cV1i F.1 (i := 7) rfl ml_KT_243 ok_KT_noQueen rfl (Nat.le_of_ble_eq_true rfl) (Nat.le_of_ble_eq_true rfl) (fun _ => t_KT_noQueen e4) ?_
    refine x_if_eq F.1 (i := 8) (tgt := 19) rfl (by decide) (fun c => ?_) (fun c => ?_)
    · replace h := if_T c h
      refine x_aload_n F.1 (i := 11) rfl rfl ?_
      refine x_iload_n F.1 (i := 12) rfl rfl ?_
      refine x_iconst F.1 (i := 13) rfl ic_0 ?_
      refine cal_e h (fun r5 M3 e6 h => ?_)
      refine x_cV2i F.1 (i := 14) rfl ml_KT_310 ok_KT_kindsStatus rfl (Nat.le_of_ble_eq_true rfl) (Nat.le_of_ble_eq_true rfl) (fun _ => t_KT_kindsStatus e6) ?_
      refine x_istore_n F.1 (i := 15) rfl (Nat.le_of_ble_eq_true rfl) (Nat.le_of_ble_eq_true rfl) rfl ?_
      refine x_iload_n F.1 (i := 16) rfl rfl ?_
      refine x_if_eq F.1 (i := 17) (tgt := 32) rfl (by decide) (fun c => ?_) (fun c => ?_)
      · replace h := if_T c h
        refine x_aload_n F.1 (i := 20) rfl rfl ?_
        refine x_getR F.1 (i := 21) rfl fl_KT_64 rfl (by rfl) rfl ?_
        refine gd_e h (fun g7 h => ?_)
        replace h := bd_e h
        refine x_getC F.1 (i := 22) rfl fl_KT_156 (lk_State g7) (by rfl) ?_
        refine x_getI F.1 (i := 23) rfl fl_KT_160 (lk_Cloth (lD_State_cloth g7)) (by rfl) ?_
        refine x_bipush F.1 (i := 24) rfl bp_12 ?_
        refine x_icmp_lt F.1 (i := 25) (tgt := 50) rfl (by decide) (fun c => ?_) (fun c => ?_)
        · replace h := if_T c h
          refine x_aload_n F.1 (i := 28) rfl rfl ?_
          refine x_getC F.1 (i := 29) rfl fl_KT_11 rfl (by rfl) ?_
          refine x_iload_n F.1 (i := 30) rfl rfl ?_
          refine gd_e h (fun g9 h => ?_)
          refine x_tray F.1 (i := 31) rfl g9 ?_
          refine x_aload_n F.1 (i := 32) rfl rfl ?_
          refine x_getR F.1 (i := 33) rfl fl_KT_64 rfl (by rfl) rfl ?_
          refine gd_e h (fun g10 h => ?_)
          replace h := bd_e h
          refine x_getC F.1 (i := 34) rfl fl_KT_156 (lk_State g10) (by rfl) ?_
          refine x_getI F.1 (i := 35) rfl fl_KT_186 (lk_Cloth (lD_State_cloth g10)) (by rfl) ?_
          refine cal_e h (fun r12 M4 e13 h => ?_)
          refine x_cV1i F.1 (i := 36) rfl ml_KT_303 ok_Tray_woolOf (lk_Tray (isTray_of g9)) (Nat.le_of_ble_eq_true rfl) (Nat.le_of_ble_eq_true rfl) (fun _ => t_Tray_woolOf (isTray_of g9) e13) ?_
          refine x_aload_n F.1 (i := 37) rfl rfl ?_
          refine x_getR F.1 (i := 38) rfl fl_KT_64 rfl (by rfl) rfl ?_
          refine gd_e h (fun g14 h => ?_)
          replace h := bd_e h
          refine x_getC F.1 (i := 39) rfl fl_KT_192 (lk_State g14) (by rfl) ?_
          refine x_getC F.1 (i := 40) rfl fl_KT_246 (lk_Deal (lD_State_deal g14)) (by rfl) ?_
          refine x_iload_n F.1 (i := 41) rfl rfl ?_
          refine gd_e h (fun g16 h => ?_)
          refine x_iald F.1 (i := 42) rfl (lk_Deal_wools (lD_State_deal g14)) (inb_e g16) ?_
          refine x_icmp_le F.1 (i := 43) (tgt := 89) rfl (by decide) (fun c => ?_) (fun c => ?_)
          · replace h := if_T c h
            refine x_iconst F.1 (i := 46) rfl ic_0 ?_
            exact x_iretf F (i := 47) rfl rfl h (res := (r, M')) hQ
          · replace h := if_F c h
            refine x_bipush F.1 (i := 44) rfl bp_9 ?_
            refine x_goto F.1 (i := 45) (tgt := 90) rfl (by decide) ?_
            exact x_iretf F (i := 47) rfl rfl h (res := (r, M')) hQ
        · replace h := if_F c h
          refine x_bipush F.1 (i := 26) rfl bp_7 ?_
          exact x_iretf F (i := 27) rfl rfl h (res := (r, M')) hQ
      · replace h := if_F c h
        refine x_iload_n F.1 (i := 18) rfl rfl ?_
        exact x_iretf F (i := 19) rfl rfl h (res := (r, M')) hQ
    · replace h := if_F c h
      refine x_iconst F.1 (i := 9) rfl ic_2 ?_
      exact x_iretf F (i := 10) rfl rfl h (res := (r, M')) hQ
  · replace h := if_F c h
    refine x_iconst F.1 (i := 3) rfl ic_1 ?_
    exact x_iretf F (i := 4) rfl rfl h (res := (r, M')) hQ
set_option maxHeartbeats 4000000 in
theorem t_Cloth_lay {w : kx_W} {d : Nat} {M : kx_M} {Q : Option Value → kx_M → Prop} {p0 : Nat} {p1 : Int32} {p2 : Int32} {r : Unit} {M' : kx_M} (hp0 : isCloth p0 = true) (h : f_Cloth_lay p0 p1 p2 M = some (r, M')) (hQ : Q none M') : Ct w (d + 1) m_Cloth_lay [.ref p0, .int p1, .int p2] M Q := by
  refine mk_ct ok_Cloth_lay (Nat.le_of_ble_eq_true rfl) (fun G F => ?_)
  rw [f_Cloth_lay] at h
  show G 0 [some (.ref p0), some (.int p1), some (.int p2), none] [] M
  refine x_aload_n F.1 (i := 0) rfl rfl ?_
  refine x_getI F.1 (i := 1) rfl fl_Cloth_34 (lk_Cloth hp0) (by rfl) ?_
  refine x_iload_n F.1 (i := 2) rfl rfl ?_
  refine cal_e h (fun r1 M1 e2 h => ?_)
  refine x_cS2i F.1 (i := 3) rfl ml_Cloth_46 ok_Cloth_at (Nat.le_of_ble_eq_true rfl) (Nat.le_of_ble_eq_true rfl) (fun _ => t_Cloth_at e2) ?_
  refine x_istore_n F.1 (i := 4) rfl (Nat.le_of_ble_eq_true rfl) (Nat.le_of_ble_eq_true rfl) rfl ?_
  refine x_aload_n F.1 (i := 5) rfl rfl ?_
  refine x_getC F.1 (i := 6) rfl fl_Cloth_15 (lk_Cloth hp0) (by rfl) ?_
  refine x_iload_n F.1 (i := 7) rfl rfl ?_
  refine x_iload_n F.1 (i := 8) rfl rfl ?_
  refine gd_e h (fun g3 h => ?_)
  refine x_iast F.1 (i := 9) rfl (lk_Cloth_kinds hp0) (inb_e g3) ?_
  replace h := bd_e h
  refine x_aload_n F.1 (i := 10) rfl rfl ?_
  refine x_getC F.1 (i := 11) rfl fl_Cloth_18 (lk_Cloth hp0) (by rfl) ?_
  refine x_iload_n F.1 (i := 12) rfl rfl ?_
  refine x_iconst F.1 (i := 13) rfl ic_0 ?_
  refine gd_e h (fun g4 h => ?_)
  refine x_iast F.1 (i := 14) rfl (lk_Cloth_worn hp0) (inb_e g4) ?_
  replace h := bd_e h
  refine x_aload_n F.1 (i := 15) rfl rfl ?_
  refine x_getC F.1 (i := 16) rfl fl_Cloth_21 (lk_Cloth hp0) (by rfl) ?_
  refine x_iload_n F.1 (i := 17) rfl rfl ?_
  refine x_iconst F.1 (i := 18) rfl ic_0 ?_
  refine gd_e h (fun g5 h => ?_)
  refine x_iast F.1 (i := 19) rfl (lk_Cloth_undone hp0) (inb_e g5) ?_
  replace h := bd_e h
  refine x_aload_n F.1 (i := 20) rfl rfl ?_
  refine x_getC F.1 (i := 21) rfl fl_Cloth_24 (lk_Cloth hp0) (by rfl) ?_
  refine x_iload_n F.1 (i := 22) rfl rfl ?_
  refine x_iconst F.1 (i := 23) rfl ic_0 ?_
  refine gd_e h (fun g6 h => ?_)
  refine x_iast F.1 (i := 24) rfl (lk_Cloth_darned hp0) (inb_e g6) ?_
  replace h := bd_e h
  exact x_vretf F (i := 25) rfl rfl h (res := (r, M')) hQ
set_option maxHeartbeats 4000000 in
theorem t_Cloth_closeRow {w : kx_W} {d : Nat} {M : kx_M} {Q : Option Value → kx_M → Prop} {p0 : Nat} {p1 : Int32} {r : Unit} {M' : kx_M} (hp0 : isCloth p0 = true) (h : f_Cloth_closeRow p0 p1 M = some (r, M')) (hQ : Q none M') : Ct w d m_Cloth_closeRow [.ref p0, .int p1] M Q := by
  refine mk_ct ok_Cloth_closeRow (Nat.le_of_ble_eq_true rfl) (fun G F => ?_)
  rw [f_Cloth_closeRow] at h
  show G 0 [some (.ref p0), some (.int p1)] [] M
  refine x_aload_n F.1 (i := 0) rfl rfl ?_
  refine x_getC F.1 (i := 1) rfl fl_Cloth_9 (lk_Cloth hp0) (by rfl) ?_
  refine x_aload_n F.1 (i := 2) rfl rfl ?_
  refine x_getI F.1 (i := 3) rfl fl_Cloth_34 (lk_Cloth hp0) (by rfl) ?_
  refine x_iload_n F.1 (i := 4) rfl rfl ?_
  refine gd_e h (fun g1 h => ?_)
  refine x_iast F.1 (i := 5) rfl (lk_Cloth_owner hp0) (inb_e g1) ?_
  replace h := bd_e h
  refine x_aload_n F.1 (i := 6) rfl rfl ?_
  refine x_dup F.1 (i := 7) rfl rfl ?_
  refine x_getI F.1 (i := 8) rfl fl_Cloth_34 (lk_Cloth hp0) (by rfl) ?_
  refine x_iconst F.1 (i := 9) rfl ic_1 ?_
  refine x_iadd F.1 (i := 10) rfl ?_
  refine x_putI F.1 (i := 11) rfl fl_Cloth_34 pf_Cloth_rows (lk_Cloth hp0) (by rfl) ?_
  replace h := bd_e h
  exact x_vretf F (i := 12) rfl rfl h (res := (r, M')) hQ
set_option maxHeartbeats 4000000 in
theorem t_KT_knit_l54 {w : kx_W} {d : Nat} {Q : Option Value → kx_M → Prop} {G : Nat → List (Option Value) → List Value → kx_M → Prop} (F : Sd w (d + 4) m_KT_knit Q G) {p1 : Int32} {p2 : Int32} {res : Int32 × kx_M} (hQ : Q (some (.int res.1)) res.2) :
    ∀ (n : Nat) (x3 : Nat) (x4 : Int32) (hx3 : isCloth x3 = true) (M : kx_M),
    f_KT_knit_l54 p1 p2 n x3 x4 M = some res → G 54 [some (.ref 0), some (.int p1), some (.int p2), some (.ref x3), some (.int x4)] [] M := by
  intro n
  induction n with
  | zero =>
    intro x3 x4 hx3 M h
    exact absurd h (by rw [f_KT_knit_l54]; exact fun z => nomatch z)
  | succ n ih =>
    intro x3 x4 hx3 M h
    rw [f_KT_knit_l54] at h
    refine x_iload F.1 (i := 31) rfl rfl ?_
    refine x_aload_n F.1 (i := 32) rfl rfl ?_
    refine x_getI F.1 (i := 33) rfl fl_KT_186 (lk_Cloth hx3) (by rfl) ?_
    refine x_icmp_ge F.1 (i := 34) (tgt := 88) rfl (by decide) (fun c => ?_) (fun c => ?_)
    · replace h := if_T c h
      refine x_aload_n F.1 (i := 48) rfl rfl ?_
      refine x_iload_n F.1 (i := 49) rfl rfl ?_
      refine cal_e h (fun r1 M1 e2 h => ?_)
      refine x_cV1v F.1 (i := 50) rfl ml_KT_307 ok_Cloth_closeRow (lk_Cloth hx3) (Nat.le_of_ble_eq_true rfl) (Nat.le_of_ble_eq_true rfl) (fun _ => t_Cloth_closeRow hx3 e2) ?_
      refine x_aload_n F.1 (i := 51) rfl rfl ?_
      refine x_getI F.1 (i := 52) rfl fl_KT_160 (lk_Cloth hx3) (by rfl) ?_
      exact x_iretf F (i := 53) rfl rfl h hQ
    · replace h := if_F c h
      refine x_aload_n F.1 (i := 35) rfl rfl ?_
      refine x_iload F.1 (i := 36) rfl rfl ?_
      refine x_aload_n F.1 (i := 37) rfl rfl ?_
      refine x_getC F.1 (i := 38) rfl fl_KT_11 rfl (by rfl) ?_
      refine x_iload_n F.1 (i := 39) rfl rfl ?_
      refine gd_e h (fun g3 h => ?_)
      refine x_tray F.1 (i := 40) rfl g3 ?_
      refine x_getC F.1 (i := 41) rfl fl_KT_120 (lk_Tray (isTray_of g3)) (by rfl) ?_
      refine x_iload F.1 (i := 42) rfl rfl ?_
      refine gd_e h (fun g4 h => ?_)
      refine x_lald F.1 (i := 43) rfl (lk_Tray_numbers (isTray_of g3)) (inb_e g4) ?_
      refine x_l2i F.1 (i := 44) rfl ?_
      refine cal_e h (fun r5 M2 e6 h => ?_)
      refine x_cV2v F.1 (i := 45) rfl ml_KT_306 ok_Cloth_lay (lk_Cloth hx3) (Nat.le_of_ble_eq_true rfl) (Nat.le_of_ble_eq_true rfl) (fun _ => t_Cloth_lay hx3 e6) ?_
      refine x_iinc F.1 (i := 46) rfl rfl rfl (Nat.le_of_ble_eq_true rfl) rfl ?_
      replace h := bd_e h
      refine x_goto F.1 (i := 47) (tgt := 54) rfl (by decide) ?_
      exact x_wk F.1 (ih _ _ hx3 _ h) ⟨rfl, rfl, rfl, rfl, rfl, trivial⟩
set_option maxHeartbeats 4000000 in
theorem t_KT_knit {w : kx_W} {d : Nat} {M : kx_M} {Q : Option Value → kx_M → Prop} {p1 : Int32} {p2 : Int32} {r : Int32} {M' : kx_M} (h : f_KT_knit p1 p2 M = some (r, M')) (hQ : Q (some (.int r)) M') : Ct w (d + 4) m_KT_knit [.ref 0, .int p1, .int p2] M Q := by
  refine mk_ct ok_KT_knit (Nat.le_of_ble_eq_true rfl) (fun G F => ?_)
  rw [f_KT_knit] at h
  show G 0 [some (.ref 0), some (.int p1), some (.int p2), none, none] [] M
  refine x_aload_n F.1 (i := 0) rfl rfl ?_
  refine x_aload_n F.1 (i := 1) rfl rfl ?_
  refine x_iload_n F.1 (i := 2) rfl rfl ?_
  refine x_iload_n F.1 (i := 3) rfl rfl ?_
  refine cal_e h (fun r1 M1 e2 h => ?_)
  refine x_cV2i F.1 (i := 4) rfl ml_KT_300 ok_KT_knitStatus rfl (Nat.le_of_ble_eq_true rfl) (Nat.le_of_ble_eq_true rfl) (fun _ => t_KT_knitStatus e2) ?_
  refine cal_e h (fun r3 M2 e4 h => ?_)
  refine x_cV1i F.1 (i := 5) rfl ml_KT_103 ok_KT_refused rfl (Nat.le_of_ble_eq_true rfl) (Nat.le_of_ble_eq_true rfl) (fun _ => t_KT_refused e4) ?_
  refine x_if_eq F.1 (i := 6) (tgt := 15) rfl (by decide) (fun c => ?_) (fun c => ?_)
  · replace h := if_T c h
    refine x_aload_n F.1 (i := 9) rfl rfl ?_
    refine x_getR F.1 (i := 10) rfl fl_KT_64 rfl (by rfl) rfl ?_
    refine gd_e h (fun g5 h => ?_)
    replace h := bd_e h
    refine x_getC F.1 (i := 11) rfl fl_KT_156 (lk_State g5) (by rfl) ?_
    refine x_astore_n F.1 (i := 12) rfl (Nat.le_of_ble_eq_true rfl) (Nat.le_of_ble_eq_true rfl) rfl ?_
    replace h := bd_e h
    refine x_aload_n F.1 (i := 13) rfl rfl ?_
    refine x_getR F.1 (i := 14) rfl fl_KT_64 rfl (by rfl) rfl ?_
    refine gd_e h (fun g8 h => ?_)
    replace h := bd_e h
    refine x_getC F.1 (i := 15) rfl fl_KT_192 (lk_State g8) (by rfl) ?_
    refine x_getC F.1 (i := 16) rfl fl_KT_246 (lk_Deal (lD_State_deal g8)) (by rfl) ?_
    refine x_iload_n F.1 (i := 17) rfl rfl ?_
    refine x_dup2 F.1 (i := 18) rfl rfl rfl ?_
    refine gd_e h (fun g10 h => ?_)
    refine x_iald F.1 (i := 19) rfl (lk_Deal_wools (lD_State_deal g8)) (inb_e g10) ?_
    refine x_aload_n F.1 (i := 20) rfl rfl ?_
    refine x_getC F.1 (i := 21) rfl fl_KT_11 rfl (by rfl) ?_
    refine x_iload_n F.1 (i := 22) rfl rfl ?_
    refine gd_e h (fun g11 h => ?_)
    refine x_tray F.1 (i := 23) rfl g11 ?_
    refine x_aload_n F.1 (i := 24) rfl rfl ?_
    refine x_getI F.1 (i := 25) rfl fl_KT_186 (lk_Cloth (lD_State_cloth g5)) (by rfl) ?_
    refine cal_e h (fun r12 M3 e13 h => ?_)
    refine x_cV1i F.1 (i := 26) rfl ml_KT_303 ok_Tray_woolOf (lk_Tray (isTray_of g11)) (Nat.le_of_ble_eq_true rfl) (Nat.le_of_ble_eq_true rfl) (fun _ => t_Tray_woolOf (isTray_of g11) e13) ?_
    refine x_isub F.1 (i := 27) rfl ?_
    refine gd_e h (fun g14 h => ?_)
    refine x_iast F.1 (i := 28) rfl (lk_Deal_wools (lD_State_deal g8)) (inb_e g14) ?_
    replace h := bd_e h
    refine x_iconst F.1 (i := 29) rfl ic_0 ?_
    refine x_istore F.1 (i := 30) rfl (Nat.le_of_ble_eq_true rfl) (Nat.le_of_ble_eq_true rfl) rfl ?_
    exact x_wk F.1 ((t_KT_knit_l54 F (res := (r, M')) hQ FU) _ _ (lD_State_cloth g5) _ h) ⟨rfl, rfl, rfl, rfl, rfl, trivial⟩
  · replace h := if_F c h
    refine x_iconst F.1 (i := 7) rfl ic_n1 ?_
    exact x_iretf F (i := 8) rfl rfl h (res := (r, M')) hQ
set_option maxHeartbeats 4000000 in
theorem t_Cloth_woolIn_l4 {w : kx_W} {d : Nat} {Q : Option Value → kx_M → Prop} {G : Nat → List (Option Value) → List Value → kx_M → Prop} (F : Sd w (d + 1) m_Cloth_woolIn Q G) {p0 : Nat} {p1 : Int32} (hp0 : isCloth p0 = true) {res : Int32 × kx_M} (hQ : Q (some (.int res.1)) res.2) :
    ∀ (n : Nat) (x2 : Int32) (x3 : Int32) (M : kx_M),
    f_Cloth_woolIn_l4 p0 p1 n x2 x3 M = some res → G 4 [some (.ref p0), some (.int p1), some (.int x2), some (.int x3), none] [] M := by
  intro n
  induction n with
  | zero =>
    intro x2 x3 M h
    exact absurd h (by rw [f_Cloth_woolIn_l4]; exact fun z => nomatch z)
  | succ n ih =>
    intro x2 x3 M h
    rw [f_Cloth_woolIn_l4] at h
    refine x_iload_n F.1 (i := 4) rfl rfl ?_
    refine x_aload_n F.1 (i := 5) rfl rfl ?_
    refine x_getI F.1 (i := 6) rfl fl_Cloth_27 (lk_Cloth hp0) (by rfl) ?_
    refine x_icmp_ge F.1 (i := 7) (tgt := 51) rfl (by decide) (fun c => ?_) (fun c => ?_)
    · replace h := if_T c h
      refine x_iload_n F.1 (i := 30) rfl rfl ?_
      exact x_iretf F (i := 31) rfl rfl h hQ
    · replace h := if_F c h
      refine x_iload_n F.1 (i := 8) rfl rfl ?_
      refine x_iload_n F.1 (i := 9) rfl rfl ?_
      refine cal_e h (fun r1 M1 e2 h => ?_)
      refine x_cS2i F.1 (i := 10) rfl ml_Cloth_46 ok_Cloth_at (Nat.le_of_ble_eq_true rfl) (Nat.le_of_ble_eq_true rfl) (fun _ => t_Cloth_at e2) ?_
      refine x_istore F.1 (i := 11) rfl (Nat.le_of_ble_eq_true rfl) (Nat.le_of_ble_eq_true rfl) rfl ?_
      refine x_aload_n F.1 (i := 12) rfl rfl ?_
      refine x_getC F.1 (i := 13) rfl fl_Cloth_21 (lk_Cloth hp0) (by rfl) ?_
      refine x_iload F.1 (i := 14) rfl rfl ?_
      refine gd_e h (fun g3 h => ?_)
      refine x_iald F.1 (i := 15) rfl (lk_Cloth_undone hp0) (inb_e g3) ?_
      refine x_if_ne F.1 (i := 16) (tgt := 45) rfl (by decide) (fun c => ?_) (fun c => ?_)
      · replace h := if_F c h
        refine x_iinc F.1 (i := 28) rfl rfl rfl (Nat.le_of_ble_eq_true rfl) rfl ?_
        replace h := bd_e h
        refine x_goto F.1 (i := 29) (tgt := 4) rfl (by decide) ?_
        exact x_wk F.1 (ih _ _ _ h) ⟨rfl, rfl, rfl, rfl, trivial⟩
      · replace h := if_T c h
        refine x_iload_n F.1 (i := 17) rfl rfl ?_
        refine x_gets F.1 (i := 18) rfl (by decide +kernel) ?_
        refine x_aload_n F.1 (i := 19) rfl rfl ?_
        refine x_getC F.1 (i := 20) rfl fl_Cloth_15 (lk_Cloth hp0) (by rfl) ?_
        refine x_iload F.1 (i := 21) rfl rfl ?_
        refine gd_e h (fun g4 h => ?_)
        refine x_iald F.1 (i := 22) rfl (lk_Cloth_kinds hp0) (inb_e g4) ?_
        refine x_iconst F.1 (i := 23) rfl ic_3 ?_
        refine x_iand F.1 (i := 24) rfl ?_
        refine gd_e h (fun g5 h => ?_)
        refine x_tald F.1 (i := 25) rfl (inb_e g5) ?_
        refine x_iadd F.1 (i := 26) rfl ?_
        refine x_istore_n F.1 (i := 27) rfl (Nat.le_of_ble_eq_true rfl) (Nat.le_of_ble_eq_true rfl) rfl ?_
        replace h := bd_e h
        refine x_iinc F.1 (i := 28) rfl rfl rfl (Nat.le_of_ble_eq_true rfl) rfl ?_
        replace h := bd_e h
        refine x_goto F.1 (i := 29) (tgt := 4) rfl (by decide) ?_
        exact x_wk F.1 (ih _ _ _ h) ⟨rfl, rfl, rfl, rfl, trivial⟩
set_option maxHeartbeats 4000000 in
theorem t_Cloth_woolIn {w : kx_W} {d : Nat} {M : kx_M} {Q : Option Value → kx_M → Prop} {p0 : Nat} {p1 : Int32} {r : Int32} {M' : kx_M} (hp0 : isCloth p0 = true) (h : f_Cloth_woolIn p0 p1 M = some (r, M')) (hQ : Q (some (.int r)) M') : Ct w (d + 1) m_Cloth_woolIn [.ref p0, .int p1] M Q := by
  refine mk_ct ok_Cloth_woolIn (Nat.le_of_ble_eq_true rfl) (fun G F => ?_)
  rw [f_Cloth_woolIn] at h
  show G 0 [some (.ref p0), some (.int p1), none, none, none] [] M
  refine x_iconst F.1 (i := 0) rfl ic_0 ?_
  refine x_istore_n F.1 (i := 1) rfl (Nat.le_of_ble_eq_true rfl) (Nat.le_of_ble_eq_true rfl) rfl ?_
  refine x_iconst F.1 (i := 2) rfl ic_0 ?_
  refine x_istore_n F.1 (i := 3) rfl (Nat.le_of_ble_eq_true rfl) (Nat.le_of_ble_eq_true rfl) rfl ?_
  exact x_wk F.1 ((t_Cloth_woolIn_l4 F hp0 (res := (r, M')) hQ FU) _ _ _ h) ⟨rfl, rfl, rfl, rfl, trivial⟩
set_option maxHeartbeats 4000000 in
theorem t_Deal_giveWool {w : kx_W} {d : Nat} {M : kx_M} {Q : Option Value → kx_M → Prop} {p0 : Nat} {p1 : Int32} {p2 : Int32} {r : Unit} {M' : kx_M} (hp0 : isDeal p0 = true) (h : f_Deal_giveWool p0 p1 p2 M = some (r, M')) (hQ : Q none M') : Ct w (d + 1) m_Deal_giveWool [.ref p0, .int p1, .int p2] M Q := by
  refine mk_ct ok_Deal_giveWool (Nat.le_of_ble_eq_true rfl) (fun G F => ?_)
  rw [f_Deal_giveWool] at h
  show G 0 [some (.ref p0), some (.int p1), some (.int p2)] [] M
  refine x_aload_n F.1 (i := 0) rfl rfl ?_
  refine x_getC F.1 (i := 1) rfl fl_Deal_9 (lk_Deal hp0) (by rfl) ?_
  refine x_iload_n F.1 (i := 2) rfl rfl ?_
  refine x_sipush F.1 (i := 3) rfl sp_999 ?_
  refine x_aload_n F.1 (i := 4) rfl rfl ?_
  refine x_getC F.1 (i := 5) rfl fl_Deal_9 (lk_Deal hp0) (by rfl) ?_
  refine x_iload_n F.1 (i := 6) rfl rfl ?_
  refine gd_e h (fun g1 h => ?_)
  refine x_iald F.1 (i := 7) rfl (lk_Deal_wools hp0) (inb_e g1) ?_
  refine x_iload_n F.1 (i := 8) rfl rfl ?_
  refine x_iadd F.1 (i := 9) rfl ?_
  refine x_mmin F.1 (i := 10) rfl jm_Deal_57 (Nat.le_of_ble_eq_true rfl) ?_
  refine gd_e h (fun g2 h => ?_)
  refine x_iast F.1 (i := 11) rfl (lk_Deal_wools hp0) (inb_e g2) ?_
  replace h := bd_e h
  exact x_vretf F (i := 12) rfl rfl h (res := (r, M')) hQ
set_option maxHeartbeats 4000000 in
theorem t_KT_unravel_l22 {w : kx_W} {d : Nat} {Q : Option Value → kx_M → Prop} {G : Nat → List (Option Value) → List Value → kx_M → Prop} (F : Sd w (d + 2) m_KT_unravel Q G) {res : Int32 × kx_M} (hQ : Q (some (.int res.1)) res.2) :
    ∀ (x1 : Nat) (s0 : Nat) (s1 : Int32) (hx1 : isCloth x1 = true) (M : kx_M),
    f_KT_unravel_l22 x1 s0 s1 M = some res → G 22 [some (.ref 0), some (.ref x1), none] [.int s1, .ref 0] M := by
  intro x1 s0 s1 hx1 M h
  rw [f_KT_unravel_l22] at h
  refine cal_e h (fun r1 M1 e2 h => ?_)
  refine x_cV1i F.1 (i := 11) rfl ml_KT_103 ok_KT_refused rfl (Nat.le_of_ble_eq_true rfl) (Nat.le_of_ble_eq_true rfl) (fun _ => t_KT_refused e2) ?_
  refine x_if_eq F.1 (i := 12) (tgt := 30) rfl (by decide) (fun c => ?_) (fun c => ?_)
  · replace h := if_T c h
    refine x_aload_n F.1 (i := 15) rfl rfl ?_
    refine x_getI F.1 (i := 16) rfl fl_KT_160 (lk_Cloth hx1) (by rfl) ?_
    refine x_iconst F.1 (i := 17) rfl ic_1 ?_
    refine x_isub F.1 (i := 18) rfl ?_
    refine x_istore_n F.1 (i := 19) rfl (Nat.le_of_ble_eq_true rfl) (Nat.le_of_ble_eq_true rfl) rfl ?_
    replace h := bd_e h
    refine x_aload_n F.1 (i := 20) rfl rfl ?_
    refine x_getR F.1 (i := 21) rfl fl_KT_64 rfl (by rfl) rfl ?_
    refine gd_e h (fun g4 h => ?_)
    replace h := bd_e h
    refine x_getC F.1 (i := 22) rfl fl_KT_192 (lk_State g4) (by rfl) ?_
    refine x_aload_n F.1 (i := 23) rfl rfl ?_
    refine x_getC F.1 (i := 24) rfl fl_KT_240 (lk_Cloth hx1) (by rfl) ?_
    refine x_iload_n F.1 (i := 25) rfl rfl ?_
    refine gd_e h (fun g6 h => ?_)
    refine x_iald F.1 (i := 26) rfl (lk_Cloth_owner hx1) (inb_e g6) ?_
    refine x_aload_n F.1 (i := 27) rfl rfl ?_
    refine x_iload_n F.1 (i := 28) rfl rfl ?_
    refine cal_e h (fun r7 M2 e8 h => ?_)
    refine x_cV1i F.1 (i := 29) rfl ml_KT_313 ok_Cloth_woolIn (lk_Cloth hx1) (Nat.le_of_ble_eq_true rfl) (Nat.le_of_ble_eq_true rfl) (fun _ => t_Cloth_woolIn hx1 e8) ?_
    refine cal_e h (fun r9 M3 e10 h => ?_)
    refine x_cV2v F.1 (i := 30) rfl ml_KT_316 ok_Deal_giveWool (lk_Deal (lD_State_deal g4)) (Nat.le_of_ble_eq_true rfl) (Nat.le_of_ble_eq_true rfl) (fun _ => t_Deal_giveWool (lD_State_deal g4) e10) ?_
    refine x_aload_n F.1 (i := 31) rfl rfl ?_
    refine x_iload_n F.1 (i := 32) rfl rfl ?_
    refine x_putI F.1 (i := 33) rfl fl_KT_160 pf_Cloth_rows (lk_Cloth hx1) (by rfl) ?_
    replace h := bd_e h
    refine x_iload_n F.1 (i := 34) rfl rfl ?_
    exact x_iretf F (i := 35) rfl rfl h hQ
  · replace h := if_F c h
    refine x_iconst F.1 (i := 13) rfl ic_n1 ?_
    exact x_iretf F (i := 14) rfl rfl h hQ
set_option maxHeartbeats 4000000 in
theorem t_KT_unravel {w : kx_W} {d : Nat} {M : kx_M} {Q : Option Value → kx_M → Prop} {r : Int32} {M' : kx_M} (h : f_KT_unravel M = some (r, M')) (hQ : Q (some (.int r)) M') : Ct w (d + 2) m_KT_unravel [.ref 0] M Q := by
  refine mk_ct ok_KT_unravel (Nat.le_of_ble_eq_true rfl) (fun G F => ?_)
  rw [f_KT_unravel] at h
  show G 0 [some (.ref 0), none, none] [] M
  refine x_aload_n F.1 (i := 0) rfl rfl ?_
  refine x_getR F.1 (i := 1) rfl fl_KT_64 rfl (by rfl) rfl ?_
  refine gd_e h (fun g1 h => ?_)
  replace h := bd_e h
  refine x_getC F.1 (i := 2) rfl fl_KT_156 (lk_State g1) (by rfl) ?_
  refine x_astore_n F.1 (i := 3) rfl (Nat.le_of_ble_eq_true rfl) (Nat.le_of_ble_eq_true rfl) rfl ?_
  replace h := bd_e h
  refine x_aload_n F.1 (i := 4) rfl rfl ?_
  refine x_aload_n F.1 (i := 5) rfl rfl ?_
  refine x_getI F.1 (i := 6) rfl fl_KT_160 (lk_Cloth (lD_State_cloth g1)) (by rfl) ?_
  refine x_if_ne F.1 (i := 7) (tgt := 21) rfl (by decide) (fun c => ?_) (fun c => ?_)
  · replace h := if_F c h
    refine x_iconst F.1 (i := 10) rfl ic_0 ?_
    exact x_wk F.1 ((t_KT_unravel_l22 F (res := (r, M')) hQ) _ _ _ (lD_State_cloth g1) _ h) ⟨rfl, rfl, trivial⟩
  · replace h := if_T c h
    refine x_bipush F.1 (i := 8) rfl bp_8 ?_
    refine x_goto F.1 (i := 9) (tgt := 22) rfl (by decide) ?_
    exact x_wk F.1 ((t_KT_unravel_l22 F (res := (r, M')) hQ) _ _ _ (lD_State_cloth g1) _ h) ⟨rfl, rfl, trivial⟩
set_option maxHeartbeats 4000000 in
theorem t_KT_shear_l29 {w : kx_W} {d : Nat} {Q : Option Value → kx_M → Prop} {G : Nat → List (Option Value) → List Value → kx_M → Prop} (F : Sd w (d + 2) m_KT_shear Q G) {p1 : Int32} {p2 : Int32} {res : Int32 × kx_M} (hQ : Q (some (.int res.1)) res.2) :
    ∀ (x3 : Int32) (M : kx_M),
    f_KT_shear_l29 p1 p2 x3 M = some res → G 29 [some (.ref 0), some (.int p1), some (.int p2), some (.int x3)] [] M := by
  intro x3 M h
  rw [f_KT_shear_l29] at h
  refine x_aload_n F.1 (i := 17) rfl rfl ?_
  refine x_iload_n F.1 (i := 18) rfl rfl ?_
  refine cal_e h (fun r1 M1 e2 h => ?_)
  refine x_cV1i F.1 (i := 19) rfl ml_KT_103 ok_KT_refused rfl (Nat.le_of_ble_eq_true rfl) (Nat.le_of_ble_eq_true rfl) (fun _ => t_KT_refused e2) ?_
  refine x_if_eq F.1 (i := 20) (tgt := 39) rfl (by decide) (fun c => ?_) (fun c => ?_)
  · replace h := if_T c h
    refine x_aload_n F.1 (i := 23) rfl rfl ?_
    refine x_getR F.1 (i := 24) rfl fl_KT_64 rfl (by rfl) rfl ?_
    refine gd_e h (fun g3 h => ?_)
    replace h := bd_e h
    refine x_getC F.1 (i := 25) rfl fl_KT_192 (lk_State g3) (by rfl) ?_
    refine x_iload_n F.1 (i := 26) rfl rfl ?_
    refine x_iload_n F.1 (i := 27) rfl rfl ?_
    refine cal_e h (fun r5 M2 e6 h => ?_)
    refine x_cV2v F.1 (i := 28) rfl ml_KT_316 ok_Deal_giveWool (lk_Deal (lD_State_deal g3)) (Nat.le_of_ble_eq_true rfl) (Nat.le_of_ble_eq_true rfl) (fun _ => t_Deal_giveWool (lD_State_deal g3) e6) ?_
    refine x_aload_n F.1 (i := 29) rfl rfl ?_
    refine x_getR F.1 (i := 30) rfl fl_KT_64 rfl (by rfl) rfl ?_
    refine gd_e h (fun g7 h => ?_)
    replace h := bd_e h
    refine x_getC F.1 (i := 31) rfl fl_KT_192 (lk_State g7) (by rfl) ?_
    refine x_getC F.1 (i := 32) rfl fl_KT_246 (lk_Deal (lD_State_deal g7)) (by rfl) ?_
    refine x_iload_n F.1 (i := 33) rfl rfl ?_
    refine gd_e h (fun g9 h => ?_)
    refine x_iald F.1 (i := 34) rfl (lk_Deal_wools (lD_State_deal g7)) (inb_e g9) ?_
    exact x_iretf F (i := 35) rfl rfl h hQ
  · replace h := if_F c h
    refine x_iconst F.1 (i := 21) rfl ic_n1 ?_
    exact x_iretf F (i := 22) rfl rfl h hQ
set_option maxHeartbeats 4000000 in
theorem t_KT_shear {w : kx_W} {d : Nat} {M : kx_M} {Q : Option Value → kx_M → Prop} {p1 : Int32} {p2 : Int32} {r : Int32} {M' : kx_M} (h : f_KT_shear p1 p2 M = some (r, M')) (hQ : Q (some (.int r)) M') : Ct w (d + 2) m_KT_shear [.ref 0, .int p1, .int p2] M Q := by
  refine mk_ct ok_KT_shear (Nat.le_of_ble_eq_true rfl) (fun G F => ?_)
  rw [f_KT_shear] at h
  show G 0 [some (.ref 0), some (.int p1), some (.int p2), none] [] M
  refine x_iconst F.1 (i := 0) rfl ic_0 ?_
  refine x_istore_n F.1 (i := 1) rfl (Nat.le_of_ble_eq_true rfl) (Nat.le_of_ble_eq_true rfl) rfl ?_
  refine x_aload_n F.1 (i := 2) rfl rfl ?_
  refine x_iload_n F.1 (i := 3) rfl rfl ?_
  refine cal_e h (fun r1 M1 e2 h => ?_)
  refine x_cV1i F.1 (i := 4) rfl ml_KT_243 ok_KT_noQueen rfl (Nat.le_of_ble_eq_true rfl) (Nat.le_of_ble_eq_true rfl) (fun _ => t_KT_noQueen e2) ?_
  refine x_if_eq F.1 (i := 5) (tgt := 15) rfl (by decide) (fun c => ?_) (fun c => ?_)
  · replace h := if_T c h
    refine x_iload_n F.1 (i := 9) rfl rfl ?_
    refine x_iconst F.1 (i := 10) rfl ic_1 ?_
    refine x_icmp_lt F.1 (i := 11) (tgt := 27) rfl (by decide) (fun c => ?_) (fun c => ?_)
    · replace h := if_T c h
      refine x_iconst F.1 (i := 15) rfl ic_5 ?_
      refine x_istore_n F.1 (i := 16) rfl (Nat.le_of_ble_eq_true rfl) (Nat.le_of_ble_eq_true rfl) rfl ?_
      exact x_wk F.1 ((t_KT_shear_l29 F (res := (r, M')) hQ) _ _ h) ⟨rfl, rfl, rfl, rfl, trivial⟩
    · replace h := if_F c h
      refine x_iload_n F.1 (i := 12) rfl rfl ?_
      refine x_sipush F.1 (i := 13) rfl sp_999 ?_
      refine x_icmp_le F.1 (i := 14) (tgt := 29) rfl (by decide) (fun c => ?_) (fun c => ?_)
      · replace h := if_T c h
        exact x_wk F.1 ((t_KT_shear_l29 F (res := (r, M')) hQ) _ _ h) ⟨rfl, rfl, rfl, rfl, trivial⟩
      · replace h := if_F c h
        refine x_iconst F.1 (i := 15) rfl ic_5 ?_
        refine x_istore_n F.1 (i := 16) rfl (Nat.le_of_ble_eq_true rfl) (Nat.le_of_ble_eq_true rfl) rfl ?_
        exact x_wk F.1 ((t_KT_shear_l29 F (res := (r, M')) hQ) _ _ h) ⟨rfl, rfl, rfl, rfl, trivial⟩
  · replace h := if_F c h
    refine x_iconst F.1 (i := 6) rfl ic_2 ?_
    refine x_istore_n F.1 (i := 7) rfl (Nat.le_of_ble_eq_true rfl) (Nat.le_of_ble_eq_true rfl) rfl ?_
    refine x_goto F.1 (i := 8) (tgt := 29) rfl (by decide) ?_
    exact x_wk F.1 ((t_KT_shear_l29 F (res := (r, M')) hQ) _ _ h) ⟨rfl, rfl, rfl, rfl, trivial⟩
