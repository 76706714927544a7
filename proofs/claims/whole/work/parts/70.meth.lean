set_option maxHeartbeats 4000000 in
theorem t_RM_isName {w : kx_W} {d : Nat} {M : kx_M} {Q : Option Value → kx_M → Prop} {r : Int32} {M' : kx_M} (h : f_RM_isName M = some (r, M')) (hQ : Q (some (.int r)) M') : Ct w (d + 3) m_RM_isName [.ref 135] M Q := by
  refine mk_ct ok_RM_isName (Nat.le_of_ble_eq_true rfl) (fun G F => ?_)
  rw [f_RM_isName] at h
  show G 0 [some (.ref 135)] [] M
  refine x_aload_n F.1 (i := 0) rfl rfl ?_
  refine x_getI F.1 (i := 1) rfl fl_RM_119 rfl (by rfl) ?_
  refine x_iconst F.1 (i := 2) rfl ic_1 ?_
  refine x_icmp_ne F.1 (i := 3) (tgt := 28) rfl (by decide) (fun c => ?_) (fun c => ?_)
  · replace h := if_F c h
    refine x_iconst F.1 (i := 13) rfl ic_0 ?_
    exact x_zretf F (i := 14) rfl rfl (Or.inl rfl) h (res := (r, M')) hQ
  · replace h := if_T c h
    refine x_aload_n F.1 (i := 4) rfl rfl ?_
    refine x_getI F.1 (i := 5) rfl fl_RM_132 rfl (by rfl) ?_
    refine x_bipush F.1 (i := 6) rfl bp_8 ?_
    refine x_icmp_gt F.1 (i := 7) (tgt := 28) rfl (by decide) (fun c => ?_) (fun c => ?_)
    · replace h := if_T c h
      refine x_iconst F.1 (i := 13) rfl ic_0 ?_
      exact x_zretf F (i := 14) rfl rfl (Or.inl rfl) h (res := (r, M')) hQ
    · replace h := if_F c h
      refine x_aload_n F.1 (i := 8) rfl rfl ?_
      refine cal_e h (fun r1 M1 e2 h => ?_)
      refine x_cV0i F.1 (i := 9) rfl ml_RM_196 ok_RM_isKept rfl (Nat.le_of_ble_eq_true rfl) (Nat.le_of_ble_eq_true rfl) (fun _ => t_RM_isKept e2) ?_
      refine x_if_ne F.1 (i := 10) (tgt := 28) rfl (by decide) (fun c => ?_) (fun c => ?_)
      · replace h := if_F c h
        refine x_iconst F.1 (i := 13) rfl ic_0 ?_
        exact x_zretf F (i := 14) rfl rfl (Or.inl rfl) h (res := (r, M')) hQ
      · replace h := if_T c h
        refine x_iconst F.1 (i := 11) rfl ic_1 ?_
        refine x_goto F.1 (i := 12) (tgt := 29) rfl (by decide) ?_
        exact x_zretf F (i := 14) rfl rfl (Or.inr rfl) h (res := (r, M')) hQ
set_option maxHeartbeats 4000000 in
theorem t_RM_named_l2 {w : kx_W} {d : Nat} {Q : Option Value → kx_M → Prop} {G : Nat → List (Option Value) → List Value → kx_M → Prop} (F : Sd w d m_RM_named Q G) {p1 : Int32} {p2 : Int32} {res : Int32 × kx_M} (hQ : Q (some (.int res.1)) res.2) :
    ∀ (n : Nat) (x3 : Int32) (M : kx_M),
    f_RM_named_l2 p1 p2 n x3 M = some res → G 2 [some (.ref 135), some (.int p1), some (.int p2), some (.int x3)] [] M := by
  intro n
  induction n with
  | zero =>
    intro x3 M h
    exact absurd h (by rw [f_RM_named_l2]; exact fun z => nomatch z)
  | succ n ih =>
    intro x3 M h
    rw [f_RM_named_l2] at h
    refine x_iload_n F.1 (i := 2) rfl rfl ?_
    refine x_aload_n F.1 (i := 3) rfl rfl ?_
    refine x_getC F.1 (i := 4) rfl fl_RM_35 rfl (by rfl) ?_
    refine x_sipush F.1 (i := 5) rfl sp_768 ?_
    refine x_iload_n F.1 (i := 6) rfl rfl ?_
    refine x_imul F.1 (i := 7) rfl ?_
    refine x_iconst F.1 (i := 8) rfl ic_2 ?_
    refine x_iadd F.1 (i := 9) rfl ?_
    refine x_iload_n F.1 (i := 10) rfl rfl ?_
    refine x_iadd F.1 (i := 11) rfl ?_
    refine gd_e h (fun g1 h => ?_)
    refine x_iald F.1 (i := 12) rfl rfl (inb_e g1) ?_
    refine x_icmp_ge F.1 (i := 13) (tgt := 51) rfl (by decide) (fun c => ?_) (fun c => ?_)
    · replace h := if_T c h
      refine x_iconst F.1 (i := 34) rfl ic_n1 ?_
      exact x_iretf F (i := 35) rfl rfl h hQ
    · replace h := if_F c h
      refine x_aload_n F.1 (i := 14) rfl rfl ?_
      refine x_getC F.1 (i := 15) rfl fl_RM_44 rfl (by rfl) ?_
      refine x_bipush F.1 (i := 16) rfl bp_10 ?_
      refine x_iload_n F.1 (i := 17) rfl rfl ?_
      refine x_imul F.1 (i := 18) rfl ?_
      refine x_iconst F.1 (i := 19) rfl ic_4 ?_
      refine x_iload_n F.1 (i := 20) rfl rfl ?_
      refine x_imul F.1 (i := 21) rfl ?_
      refine x_iadd F.1 (i := 22) rfl ?_
      refine x_iload_n F.1 (i := 23) rfl rfl ?_
      refine x_iadd F.1 (i := 24) rfl ?_
      refine gd_e h (fun g2 h => ?_)
      refine x_lald F.1 (i := 25) rfl rfl (inb_e g2) ?_
      refine x_aload_n F.1 (i := 26) rfl rfl ?_
      refine x_getJ F.1 (i := 27) rfl fl_RM_125 rfl (by rfl) ?_
      refine x_lcmp F.1 (i := 28) rfl ?_
      refine x_if_ne F.1 (i := 29) (tgt := 45) rfl (by decide) (fun c => ?_) (fun c => ?_)
      · replace h := if_F c h
        refine x_iinc F.1 (i := 32) rfl rfl rfl (Nat.le_of_ble_eq_true rfl) rfl ?_
        replace h := bd_e h
        refine x_goto F.1 (i := 33) (tgt := 2) rfl (by decide) ?_
        exact x_wk F.1 (ih _ _ h) ⟨rfl, rfl, rfl, rfl, trivial⟩
      · replace h := if_T c h
        refine x_iload_n F.1 (i := 30) rfl rfl ?_
        exact x_iretf F (i := 31) rfl rfl h hQ
set_option maxHeartbeats 4000000 in
theorem t_RM_named {w : kx_W} {d : Nat} {M : kx_M} {Q : Option Value → kx_M → Prop} {p1 : Int32} {p2 : Int32} {r : Int32} {M' : kx_M} (h : f_RM_named p1 p2 M = some (r, M')) (hQ : Q (some (.int r)) M') : Ct w d m_RM_named [.ref 135, .int p1, .int p2] M Q := by
  refine mk_ct ok_RM_named (Nat.le_of_ble_eq_true rfl) (fun G F => ?_)
  rw [f_RM_named] at h
  show G 0 [some (.ref 135), some (.int p1), some (.int p2), none] [] M
  refine x_iconst F.1 (i := 0) rfl ic_0 ?_
  refine x_istore_n F.1 (i := 1) rfl (Nat.le_of_ble_eq_true rfl) (Nat.le_of_ble_eq_true rfl) rfl ?_
  exact x_wk F.1 ((t_RM_named_l2 F (res := (r, M')) hQ FU) _ _ h) ⟨rfl, rfl, rfl, rfl, trivial⟩
set_option maxHeartbeats 4000000 in
theorem t_RM_readNew_l84 {w : kx_W} {d : Nat} {Q : Option Value → kx_M → Prop} {G : Nat → List (Option Value) → List Value → kx_M → Prop} (F : Sd w (d + 4) m_RM_readNew Q G) {p1 : Int32} {p2 : Int32} {res : Int32 × kx_M} (hQ : Q (some (.int res.1)) res.2) :
    ∀ (x3 : Int32) (M : kx_M),
    f_RM_readNew_l84 p1 p2 x3 M = some res → G 84 [some (.ref 135), some (.int p1), none, some (.int x3)] [] M := by
  intro x3 M h
  rw [f_RM_readNew_l84] at h
  refine x_aload_n F.1 (i := 45) rfl rfl ?_
  refine x_getI F.1 (i := 46) rfl fl_RM_199 rfl (by rfl) ?_
  refine x_if_le F.1 (i := 47) (tgt := 93) rfl (by decide) (fun c => ?_) (fun c => ?_)
  · replace h := if_T c h
    refine x_aload_n F.1 (i := 50) rfl rfl ?_
    refine x_getC F.1 (i := 51) rfl fl_RM_44 rfl (by rfl) ?_
    refine x_bipush F.1 (i := 52) rfl bp_40 ?_
    refine x_iconst F.1 (i := 53) rfl ic_4 ?_
    refine x_iload_n F.1 (i := 54) rfl rfl ?_
    refine x_imul F.1 (i := 55) rfl ?_
    refine x_iadd F.1 (i := 56) rfl ?_
    refine x_iload_n F.1 (i := 57) rfl rfl ?_
    refine x_iadd F.1 (i := 58) rfl ?_
    refine x_aload_n F.1 (i := 59) rfl rfl ?_
    refine x_getJ F.1 (i := 60) rfl fl_RM_125 rfl (by rfl) ?_
    refine gd_e h (fun g1 h => ?_)
    refine x_last F.1 (i := 61) rfl rfl (inb_e g1) ?_
    replace h := bd_e h
    refine x_aload_n F.1 (i := 62) rfl rfl ?_
    refine cal_e h (fun r2 M2 e3 h => ?_)
    refine x_cV0v F.1 (i := 63) rfl ml_RM_209 ok_RM_advance rfl (Nat.le_of_ble_eq_true rfl) (Nat.le_of_ble_eq_true rfl) (fun _ => t_RM_advance e3) ?_
    refine x_iload_n F.1 (i := 64) rfl rfl ?_
    exact x_iretf F (i := 65) rfl rfl h hQ
  · replace h := if_F c h
    refine x_iconst F.1 (i := 48) rfl ic_0 ?_
    exact x_iretf F (i := 49) rfl rfl h hQ
set_option maxHeartbeats 4000000 in
theorem t_RM_readNew_l50 {w : kx_W} {d : Nat} {Q : Option Value → kx_M → Prop} {G : Nat → List (Option Value) → List Value → kx_M → Prop} (F : Sd w (d + 4) m_RM_readNew Q G) {p1 : Int32} {p2 : Int32} {res : Int32 × kx_M} (hQ : Q (some (.int res.1)) res.2) :
    ∀ (x3 : Int32) (M : kx_M),
    f_RM_readNew_l50 p1 p2 x3 M = some res → G 50 [some (.ref 135), some (.int p1), none, some (.int x3)] [] M := by
  intro x3 M h
  rw [f_RM_readNew_l50] at h
  refine x_aload_n F.1 (i := 27) rfl rfl ?_
  refine x_getI F.1 (i := 28) rfl fl_RM_199 rfl (by rfl) ?_
  refine x_if_ne F.1 (i := 29) (tgt := 84) rfl (by decide) (fun c => ?_) (fun c => ?_)
  · replace h := if_F c h
    exact x_wk F.1 ((t_RM_readNew_l84 F hQ) _ _ h) ⟨rfl, rfl, rfl, trivial⟩
  · replace h := if_T c h
    refine x_aload_n F.1 (i := 30) rfl rfl ?_
    refine x_iconst F.1 (i := 31) rfl ic_4 ?_
    refine x_iconst F.1 (i := 32) rfl ic_0 ?_
    refine cal_e h (fun r1 M1 e2 h => ?_)
    refine x_cV2i F.1 (i := 33) rfl ml_RM_225 ok_RM_named rfl (Nat.le_of_ble_eq_true rfl) (Nat.le_of_ble_eq_true rfl) (fun _ => t_RM_named e2) ?_
    refine x_if_ge F.1 (i := 34) (tgt := 75) rfl (by decide) (fun c => ?_) (fun c => ?_)
    · replace h := if_T c h
      refine x_aload_n F.1 (i := 40) rfl rfl ?_
      refine x_iconst F.1 (i := 41) rfl ic_3 ?_
      refine x_aload_n F.1 (i := 42) rfl rfl ?_
      refine x_getI F.1 (i := 43) rfl fl_RM_113 rfl (by rfl) ?_
      refine cal_e h (fun r3 M2 e4 h => ?_)
      refine x_cV2v F.1 (i := 44) rfl ml_RM_205 ok_RM_fail rfl (Nat.le_of_ble_eq_true rfl) (Nat.le_of_ble_eq_true rfl) (fun _ => t_RM_fail e4) ?_
      exact x_wk F.1 ((t_RM_readNew_l84 F hQ) _ _ h) ⟨rfl, rfl, rfl, trivial⟩
    · replace h := if_F c h
      refine x_aload_n F.1 (i := 35) rfl rfl ?_
      refine x_iconst F.1 (i := 36) rfl ic_4 ?_
      refine x_iconst F.1 (i := 37) rfl ic_1 ?_
      refine cal_e h (fun r5 M3 e6 h => ?_)
      refine x_cV2i F.1 (i := 38) rfl ml_RM_225 ok_RM_named rfl (Nat.le_of_ble_eq_true rfl) (Nat.le_of_ble_eq_true rfl) (fun _ => t_RM_named e6) ?_
      refine x_if_lt F.1 (i := 39) (tgt := 84) rfl (by decide) (fun c => ?_) (fun c => ?_)
      · replace h := if_T c h
        exact x_wk F.1 ((t_RM_readNew_l84 F hQ) _ _ h) ⟨rfl, rfl, rfl, trivial⟩
      · replace h := if_F c h
        refine x_aload_n F.1 (i := 40) rfl rfl ?_
        refine x_iconst F.1 (i := 41) rfl ic_3 ?_
        refine x_aload_n F.1 (i := 42) rfl rfl ?_
        refine x_getI F.1 (i := 43) rfl fl_RM_113 rfl (by rfl) ?_
        refine cal_e h (fun r7 M4 e8 h => ?_)
        refine x_cV2v F.1 (i := 44) rfl ml_RM_205 ok_RM_fail rfl (Nat.le_of_ble_eq_true rfl) (Nat.le_of_ble_eq_true rfl) (fun _ => t_RM_fail e8) ?_
        exact x_wk F.1 ((t_RM_readNew_l84 F hQ) _ _ h) ⟨rfl, rfl, rfl, trivial⟩
set_option maxHeartbeats 4000000 in
theorem t_RM_readNew_l26 {w : kx_W} {d : Nat} {Q : Option Value → kx_M → Prop} {G : Nat → List (Option Value) → List Value → kx_M → Prop} (F : Sd w (d + 4) m_RM_readNew Q G) {p1 : Int32} {p2 : Int32} {res : Int32 × kx_M} (hQ : Q (some (.int res.1)) res.2) :
    ∀ (x3 : Int32) (M : kx_M),
    f_RM_readNew_l26 p1 p2 x3 M = some res → G 26 [some (.ref 135), some (.int p1), none, some (.int x3)] [] M := by
  intro x3 M h
  rw [f_RM_readNew_l26] at h
  refine x_aload_n F.1 (i := 15) rfl rfl ?_
  refine x_getI F.1 (i := 16) rfl fl_RM_199 rfl (by rfl) ?_
  refine x_if_le F.1 (i := 17) (tgt := 35) rfl (by decide) (fun c => ?_) (fun c => ?_)
  · replace h := if_T c h
    refine x_aload_n F.1 (i := 20) rfl rfl ?_
    refine cal_e h (fun r1 M1 e2 h => ?_)
    refine x_cV0v F.1 (i := 21) rfl ml_RM_209 ok_RM_advance rfl (Nat.le_of_ble_eq_true rfl) (Nat.le_of_ble_eq_true rfl) (fun _ => t_RM_advance e2) ?_
    refine x_aload_n F.1 (i := 22) rfl rfl ?_
    refine cal_e h (fun r3 M2 e4 h => ?_)
    refine x_cV0i F.1 (i := 23) rfl ml_RM_222 ok_RM_isName rfl (Nat.le_of_ble_eq_true rfl) (Nat.le_of_ble_eq_true rfl) (fun _ => t_RM_isName e4) ?_
    refine x_if_ne F.1 (i := 24) (tgt := 50) rfl (by decide) (fun c => ?_) (fun c => ?_)
    · replace h := if_F c h
      exact x_wk F.1 ((t_RM_readNew_l50 F hQ) _ _ h) ⟨rfl, rfl, rfl, trivial⟩
    · replace h := if_T c h
      refine x_aload_n F.1 (i := 25) rfl rfl ?_
      refine cal_e h (fun r5 M3 e6 h => ?_)
      refine x_cV0v F.1 (i := 26) rfl ml_RM_212 ok_RM_amiss rfl (Nat.le_of_ble_eq_true rfl) (Nat.le_of_ble_eq_true rfl) (fun _ => t_RM_amiss e6) ?_
      exact x_wk F.1 ((t_RM_readNew_l50 F hQ) _ _ h) ⟨rfl, rfl, rfl, trivial⟩
  · replace h := if_F c h
    refine x_iconst F.1 (i := 18) rfl ic_0 ?_
    exact x_iretf F (i := 19) rfl rfl h hQ
set_option maxHeartbeats 4000000 in
theorem t_RM_readNew {w : kx_W} {d : Nat} {M : kx_M} {Q : Option Value → kx_M → Prop} {p1 : Int32} {p2 : Int32} {r : Int32} {M' : kx_M} (h : f_RM_readNew p1 p2 M = some (r, M')) (hQ : Q (some (.int r)) M') : Ct w (d + 4) m_RM_readNew [.ref 135, .int p1, .int p2] M Q := by
  refine mk_ct ok_RM_readNew (Nat.le_of_ble_eq_true rfl) (fun G F => ?_)
  rw [f_RM_readNew] at h
  show G 0 [some (.ref 135), some (.int p1), some (.int p2), none] [] M
  refine x_aload_n F.1 (i := 0) rfl rfl ?_
  refine x_getC F.1 (i := 1) rfl fl_RM_35 rfl (by rfl) ?_
  refine x_sipush F.1 (i := 2) rfl sp_3074 ?_
  refine x_iload_n F.1 (i := 3) rfl rfl ?_
  refine x_iadd F.1 (i := 4) rfl ?_
  refine gd_e h (fun g1 h => ?_)
  refine x_iald F.1 (i := 5) rfl rfl (inb_e g1) ?_
  refine x_istore_n F.1 (i := 6) rfl (Nat.le_of_ble_eq_true rfl) (Nat.le_of_ble_eq_true rfl) rfl ?_
  replace h := bd_e h
  refine x_iload_n F.1 (i := 7) rfl rfl ?_
  refine x_iload_n F.1 (i := 8) rfl rfl ?_
  refine x_icmp_ne F.1 (i := 9) (tgt := 26) rfl (by decide) (fun c => ?_) (fun c => ?_)
  · replace h := if_F c h
    exact x_wk F.1 ((t_RM_readNew_l26 F (res := (r, M')) hQ) _ _ h) ⟨rfl, rfl, rfl, trivial⟩
  · replace h := if_T c h
    refine x_aload_n F.1 (i := 10) rfl rfl ?_
    refine x_bipush F.1 (i := 11) rfl bp_6 ?_
    refine x_aload_n F.1 (i := 12) rfl rfl ?_
    refine x_getI F.1 (i := 13) rfl fl_RM_113 rfl (by rfl) ?_
    refine cal_e h (fun r3 M1 e4 h => ?_)
    refine x_cV2v F.1 (i := 14) rfl ml_RM_205 ok_RM_fail rfl (Nat.le_of_ble_eq_true rfl) (Nat.le_of_ble_eq_true rfl) (fun _ => t_RM_fail e4) ?_
    exact x_wk F.1 ((t_RM_readNew_l26 F (res := (r, M')) hQ) _ _ h) ⟨rfl, rfl, rfl, trivial⟩
set_option maxHeartbeats 4000000 in
theorem t_RM_readQueen_l37 {w : kx_W} {d : Nat} {Q : Option Value → kx_M → Prop} {G : Nat → List (Option Value) → List Value → kx_M → Prop} (F : Sd w (d + 5) m_RM_readQueen Q G) {res : Unit × kx_M} (hQ : Q none res.2) :
    ∀ (x1 : Int32) (x2 : Int32) (M : kx_M),
    f_RM_readQueen_l37 x1 x2 M = some res → G 37 [some (.ref 135), some (.int x1), some (.int x2)] [] M := by
  intro x1 x2 M h
  rw [f_RM_readQueen_l37] at h
  refine x_aload_n F.1 (i := 20) rfl rfl ?_
  refine x_getC F.1 (i := 21) rfl fl_RM_35 rfl (by rfl) ?_
  refine x_sipush F.1 (i := 22) rfl sp_3078 ?_
  refine x_iload_n F.1 (i := 23) rfl rfl ?_
  refine x_iadd F.1 (i := 24) rfl ?_
  refine x_iload_n F.1 (i := 25) rfl rfl ?_
  refine gd_e h (fun g1 h => ?_)
  refine x_iast F.1 (i := 26) rfl rfl (inb_e g1) ?_
  replace h := bd_e h
  refine x_aload_n F.1 (i := 27) rfl rfl ?_
  refine x_getI F.1 (i := 28) rfl fl_RM_199 rfl (by rfl) ?_
  refine x_if_ne F.1 (i := 29) (tgt := 67) rfl (by decide) (fun c => ?_) (fun c => ?_)
  · replace h := if_F c h
    exact x_vretf F (i := 38) rfl rfl h hQ
  · replace h := if_T c h
    refine x_aload_n F.1 (i := 30) rfl rfl ?_
    refine x_getC F.1 (i := 31) rfl fl_RM_35 rfl (by rfl) ?_
    refine x_sipush F.1 (i := 32) rfl sp_3074 ?_
    refine x_dup2 F.1 (i := 33) rfl rfl rfl ?_
    refine gd_e h (fun g2 h => ?_)
    refine x_iald F.1 (i := 34) rfl rfl (inb_e g2) ?_
    refine x_iconst F.1 (i := 35) rfl ic_1 ?_
    refine x_iadd F.1 (i := 36) rfl ?_
    refine gd_e h (fun g3 h => ?_)
    refine x_iast F.1 (i := 37) rfl rfl (inb_e g3) ?_
    replace h := bd_e h
    exact x_vretf F (i := 38) rfl rfl h hQ
set_option maxHeartbeats 4000000 in
theorem t_RM_readQueen {w : kx_W} {d : Nat} {M : kx_M} {Q : Option Value → kx_M → Prop} {r : Unit} {M' : kx_M} (h : f_RM_readQueen M = some (r, M')) (hQ : Q none M') : Ct w (d + 5) m_RM_readQueen [.ref 135] M Q := by
  refine mk_ct ok_RM_readQueen (Nat.le_of_ble_eq_true rfl) (fun G F => ?_)
  rw [f_RM_readQueen] at h
  show G 0 [some (.ref 135), none, none] [] M
  refine x_aload_n F.1 (i := 0) rfl rfl ?_
  refine x_iconst F.1 (i := 1) rfl ic_0 ?_
  refine x_iconst F.1 (i := 2) rfl ic_4 ?_
  refine cal_e h (fun r1 M1 e2 h => ?_)
  refine x_cV2i F.1 (i := 3) rfl ml_RM_248 ok_RM_readNew rfl (Nat.le_of_ble_eq_true rfl) (Nat.le_of_ble_eq_true rfl) (fun _ => t_RM_readNew e2) ?_
  refine x_istore_n F.1 (i := 4) rfl (Nat.le_of_ble_eq_true rfl) (Nat.le_of_ble_eq_true rfl) rfl ?_
  refine x_bipush F.1 (i := 5) rfl bp_100 ?_
  refine x_istore_n F.1 (i := 6) rfl (Nat.le_of_ble_eq_true rfl) (Nat.le_of_ble_eq_true rfl) rfl ?_
  refine x_aload_n F.1 (i := 7) rfl rfl ?_
  refine x_getI F.1 (i := 8) rfl fl_RM_199 rfl (by rfl) ?_
  refine x_if_ne F.1 (i := 9) (tgt := 37) rfl (by decide) (fun c => ?_) (fun c => ?_)
  · replace h := if_F c h
    exact x_wk F.1 ((t_RM_readQueen_l37 F (res := (r, M')) hQ) _ _ _ h) ⟨rfl, rfl, rfl, trivial⟩
  · replace h := if_T c h
    refine x_aload_n F.1 (i := 10) rfl rfl ?_
    refine cal_e h (fun r3 M2 e4 h => ?_)
    refine x_cV0i F.1 (i := 11) rfl ml_RM_162 ok_RM_isWool rfl (Nat.le_of_ble_eq_true rfl) (Nat.le_of_ble_eq_true rfl) (fun _ => t_RM_isWool e4) ?_
    refine x_if_eq F.1 (i := 12) (tgt := 37) rfl (by decide) (fun c => ?_) (fun c => ?_)
    · replace h := if_T c h
      exact x_wk F.1 ((t_RM_readQueen_l37 F (res := (r, M')) hQ) _ _ _ h) ⟨rfl, rfl, rfl, trivial⟩
    · replace h := if_F c h
      refine x_aload_n F.1 (i := 13) rfl rfl ?_
      refine cal_e h (fun r5 M3 e6 h => ?_)
      refine x_cV0v F.1 (i := 14) rfl ml_RM_209 ok_RM_advance rfl (Nat.le_of_ble_eq_true rfl) (Nat.le_of_ble_eq_true rfl) (fun _ => t_RM_advance e6) ?_
      refine x_aload_n F.1 (i := 15) rfl rfl ?_
      refine x_iconst F.1 (i := 16) rfl ic_0 ?_
      refine x_sipush F.1 (i := 17) rfl sp_999 ?_
      refine cal_e h (fun r7 M4 e8 h => ?_)
      refine x_cV2i F.1 (i := 18) rfl ml_RM_245 ok_RM_count rfl (Nat.le_of_ble_eq_true rfl) (Nat.le_of_ble_eq_true rfl) (fun _ => t_RM_count e8) ?_
      refine x_istore_n F.1 (i := 19) rfl (Nat.le_of_ble_eq_true rfl) (Nat.le_of_ble_eq_true rfl) rfl ?_
      exact x_wk F.1 ((t_RM_readQueen_l37 F (res := (r, M')) hQ) _ _ _ h) ⟨rfl, rfl, rfl, trivial⟩
set_option maxHeartbeats 4000000 in
theorem t_RM_must {w : kx_W} {d : Nat} {M : kx_M} {Q : Option Value → kx_M → Prop} {p1 : Int32} {r : Unit} {M' : kx_M} (h : f_RM_must p1 M = some (r, M')) (hQ : Q none M') : Ct w (d + 2) m_RM_must [.ref 135, .int p1] M Q := by
  refine mk_ct ok_RM_must (Nat.le_of_ble_eq_true rfl) (fun G F => ?_)
  rw [f_RM_must] at h
  show G 0 [some (.ref 135), some (.int p1)] [] M
  refine x_aload_n F.1 (i := 0) rfl rfl ?_
  refine x_getI F.1 (i := 1) rfl fl_RM_199 rfl (by rfl) ?_
  refine x_if_le F.1 (i := 2) (tgt := 8) rfl (by decide) (fun c => ?_) (fun c => ?_)
  · replace h := if_T c h
    refine x_iload_n F.1 (i := 4) rfl rfl ?_
    refine x_if_eq F.1 (i := 5) (tgt := 19) rfl (by decide) (fun c => ?_) (fun c => ?_)
    · replace h := if_T c h
      refine x_aload_n F.1 (i := 9) rfl rfl ?_
      refine cal_e h (fun r1 M1 e2 h => ?_)
      refine x_cV0v F.1 (i := 10) rfl ml_RM_212 ok_RM_amiss rfl (Nat.le_of_ble_eq_true rfl) (Nat.le_of_ble_eq_true rfl) (fun _ => t_RM_amiss e2) ?_
      exact x_vretf F (i := 11) rfl rfl h (res := (r, M')) hQ
    · replace h := if_F c h
      refine x_aload_n F.1 (i := 6) rfl rfl ?_
      refine cal_e h (fun r3 M2 e4 h => ?_)
      refine x_cV0v F.1 (i := 7) rfl ml_RM_209 ok_RM_advance rfl (Nat.le_of_ble_eq_true rfl) (Nat.le_of_ble_eq_true rfl) (fun _ => t_RM_advance e4) ?_
      refine x_goto F.1 (i := 8) (tgt := 23) rfl (by decide) ?_
      exact x_vretf F (i := 11) rfl rfl h (res := (r, M')) hQ
  · replace h := if_F c h
    exact x_vretf F (i := 3) rfl rfl h (res := (r, M')) hQ
set_option maxHeartbeats 4000000 in
theorem t_RM_readClause_l113 {w : kx_W} {d : Nat} {Q : Option Value → kx_M → Prop} {G : Nat → List (Option Value) → List Value → kx_M → Prop} (F : Sd w (d + 5) m_RM_readClause Q G) {res : Unit × kx_M} (hQ : Q none res.2) :
    ∀ (x1 : Int32) (x2 : Int32) (M : kx_M),
    f_RM_readClause_l113 x1 x2 M = some res → G 113 [some (.ref 135), some (.int x1), some (.int x2)] [] M := by
  intro x1 x2 M h
  rw [f_RM_readClause_l113] at h
  refine x_aload_n F.1 (i := 59) rfl rfl ?_
  refine x_getC F.1 (i := 60) rfl fl_RM_35 rfl (by rfl) ?_
  refine x_sipush F.1 (i := 61) rfl sp_3082 ?_
  refine x_iload_n F.1 (i := 62) rfl rfl ?_
  refine x_iadd F.1 (i := 63) rfl ?_
  refine x_iload_n F.1 (i := 64) rfl rfl ?_
  refine gd_e h (fun g1 h => ?_)
  refine x_iast F.1 (i := 65) rfl rfl (inb_e g1) ?_
  replace h := bd_e h
  refine x_aload_n F.1 (i := 66) rfl rfl ?_
  refine x_getI F.1 (i := 67) rfl fl_RM_199 rfl (by rfl) ?_
  refine x_if_ne F.1 (i := 68) (tgt := 143) rfl (by decide) (fun c => ?_) (fun c => ?_)
  · replace h := if_F c h
    exact x_vretf F (i := 77) rfl rfl h hQ
  · replace h := if_T c h
    refine x_aload_n F.1 (i := 69) rfl rfl ?_
    refine x_getC F.1 (i := 70) rfl fl_RM_35 rfl (by rfl) ?_
    refine x_sipush F.1 (i := 71) rfl sp_3075 ?_
    refine x_dup2 F.1 (i := 72) rfl rfl rfl ?_
    refine gd_e h (fun g2 h => ?_)
    refine x_iald F.1 (i := 73) rfl rfl (inb_e g2) ?_
    refine x_iconst F.1 (i := 74) rfl ic_1 ?_
    refine x_iadd F.1 (i := 75) rfl ?_
    refine gd_e h (fun g3 h => ?_)
    refine x_iast F.1 (i := 76) rfl rfl (inb_e g3) ?_
    replace h := bd_e h
    exact x_vretf F (i := 77) rfl rfl h hQ
set_option maxHeartbeats 4000000 in
theorem t_RM_readClause_l77 {w : kx_W} {d : Nat} {Q : Option Value → kx_M → Prop} {G : Nat → List (Option Value) → List Value → kx_M → Prop} (F : Sd w (d + 5) m_RM_readClause Q G) {k36 : Int32 → Int32 → kx_M → Option (Unit × kx_M)} {res : Unit × kx_M} (hQ : Q none res.2) (hk36 : ∀ (x1 : Int32) (x2 : Int32) (M : kx_M), k36 x1 x2 M = some res → G 36 [some (.ref 135), some (.int x1), some (.int x2)] [] M) :
    ∀ (x1 : Int32) (x2 : Int32) (M : kx_M),
    f_RM_readClause_l77 k36 x1 x2 M = some res → G 77 [some (.ref 135), some (.int x1), some (.int x2)] [] M := by
  intro x1 x2 M h
  rw [f_RM_readClause_l77] at h
  refine x_aload_n F.1 (i := 39) rfl rfl ?_
  refine x_getI F.1 (i := 40) rfl fl_RM_199 rfl (by rfl) ?_
  refine x_if_le F.1 (i := 41) (tgt := 85) rfl (by decide) (fun c => ?_) (fun c => ?_)
  · replace h := if_T c h
    refine x_aload_n F.1 (i := 43) rfl rfl ?_
    refine x_getC F.1 (i := 44) rfl fl_RM_35 rfl (by rfl) ?_
    refine x_sipush F.1 (i := 45) rfl sp_3088 ?_
    refine x_iconst F.1 (i := 46) rfl ic_5 ?_
    refine x_iload_n F.1 (i := 47) rfl rfl ?_
    refine x_imul F.1 (i := 48) rfl ?_
    refine x_iadd F.1 (i := 49) rfl ?_
    refine x_iload_n F.1 (i := 50) rfl rfl ?_
    refine x_iadd F.1 (i := 51) rfl ?_
    refine x_aload_n F.1 (i := 52) rfl rfl ?_
    refine cal_e h (fun r1 M1 e2 h => ?_)
    refine x_cV0i F.1 (i := 53) rfl ml_RM_183 ok_RM_kindWord rfl (Nat.le_of_ble_eq_true rfl) (Nat.le_of_ble_eq_true rfl) (fun _ => t_RM_kindWord e2) ?_
    refine gd_e h (fun g3 h => ?_)
    refine x_iast F.1 (i := 54) rfl rfl (inb_e g3) ?_
    replace h := bd_e h
    refine x_iinc F.1 (i := 55) rfl rfl rfl (Nat.le_of_ble_eq_true rfl) rfl ?_
    replace h := bd_e h
    refine x_aload_n F.1 (i := 56) rfl rfl ?_
    refine cal_e h (fun r5 M3 e6 h => ?_)
    refine x_cV0v F.1 (i := 57) rfl ml_RM_209 ok_RM_advance rfl (Nat.le_of_ble_eq_true rfl) (Nat.le_of_ble_eq_true rfl) (fun _ => t_RM_advance e6) ?_
    refine x_goto F.1 (i := 58) (tgt := 36) rfl (by decide) ?_
    exact x_wk F.1 (hk36 _ _ _ h) ⟨rfl, rfl, rfl, trivial⟩
  · replace h := if_F c h
    exact x_vretf F (i := 42) rfl rfl h hQ
set_option maxHeartbeats 4000000 in
theorem t_RM_readClause_l36 {w : kx_W} {d : Nat} {Q : Option Value → kx_M → Prop} {G : Nat → List (Option Value) → List Value → kx_M → Prop} (F : Sd w (d + 5) m_RM_readClause Q G) {res : Unit × kx_M} (hQ : Q none res.2) :
    ∀ (n : Nat) (x1 : Int32) (x2 : Int32) (M : kx_M),
    f_RM_readClause_l36 n x1 x2 M = some res → G 36 [some (.ref 135), some (.int x1), some (.int x2)] [] M := by
  intro n
  induction n with
  | zero =>
    intro x1 x2 M h
    exact absurd h (by rw [f_RM_readClause_l36]; exact fun z => nomatch z)
  | succ n ih =>
    intro x1 x2 M h
    rw [f_RM_readClause_l36] at h
    refine x_aload_n F.1 (i := 19) rfl rfl ?_
    refine x_getI F.1 (i := 20) rfl fl_RM_199 rfl (by rfl) ?_
    refine x_if_ne F.1 (i := 21) (tgt := 113) rfl (by decide) (fun c => ?_) (fun c => ?_)
    · replace h := if_F c h
      exact x_wk F.1 ((t_RM_readClause_l113 F hQ) _ _ _ h) ⟨rfl, rfl, rfl, trivial⟩
    · replace h := if_T c h
      refine x_aload_n F.1 (i := 22) rfl rfl ?_
      refine cal_e h (fun r1 M1 e2 h => ?_)
      refine x_cV0i F.1 (i := 23) rfl ml_RM_183 ok_RM_kindWord rfl (Nat.le_of_ble_eq_true rfl) (Nat.le_of_ble_eq_true rfl) (fun _ => t_RM_kindWord e2) ?_
      refine x_if_lt F.1 (i := 24) (tgt := 113) rfl (by decide) (fun c => ?_) (fun c => ?_)
      · replace h := if_T c h
        exact x_wk F.1 ((t_RM_readClause_l113 F hQ) _ _ _ h) ⟨rfl, rfl, rfl, trivial⟩
      · replace h := if_F c h
        refine x_iload_n F.1 (i := 25) rfl rfl ?_
        refine x_iconst F.1 (i := 26) rfl ic_5 ?_
        refine x_icmp_eq F.1 (i := 27) (tgt := 67) rfl (by decide) (fun c => ?_) (fun c => ?_)
        · replace h := if_T c h
          refine x_aload_n F.1 (i := 34) rfl rfl ?_
          refine x_bipush F.1 (i := 35) rfl bp_6 ?_
          refine x_aload_n F.1 (i := 36) rfl rfl ?_
          refine x_getI F.1 (i := 37) rfl fl_RM_113 rfl (by rfl) ?_
          refine cal_e h (fun r3 M2 e4 h => ?_)
          refine x_cV2v F.1 (i := 38) rfl ml_RM_205 ok_RM_fail rfl (Nat.le_of_ble_eq_true rfl) (Nat.le_of_ble_eq_true rfl) (fun _ => t_RM_fail e4) ?_
          exact x_wk F.1 ((t_RM_readClause_l77 F hQ ih) _ _ _ h) ⟨rfl, rfl, rfl, trivial⟩
        · replace h := if_F c h
          refine x_iload_n F.1 (i := 28) rfl rfl ?_
          refine x_aload_n F.1 (i := 29) rfl rfl ?_
          refine x_getC F.1 (i := 30) rfl fl_RM_35 rfl (by rfl) ?_
          refine x_sipush F.1 (i := 31) rfl sp_3072 ?_
          refine gd_e h (fun g5 h => ?_)
          refine x_iald F.1 (i := 32) rfl rfl (inb_e g5) ?_
          refine x_icmp_ne F.1 (i := 33) (tgt := 77) rfl (by decide) (fun c => ?_) (fun c => ?_)
          · replace h := if_F c h
            exact x_wk F.1 ((t_RM_readClause_l77 F hQ ih) _ _ _ h) ⟨rfl, rfl, rfl, trivial⟩
          · replace h := if_T c h
            refine x_aload_n F.1 (i := 34) rfl rfl ?_
            refine x_bipush F.1 (i := 35) rfl bp_6 ?_
            refine x_aload_n F.1 (i := 36) rfl rfl ?_
            refine x_getI F.1 (i := 37) rfl fl_RM_113 rfl (by rfl) ?_
            refine cal_e h (fun r6 M3 e7 h => ?_)
            refine x_cV2v F.1 (i := 38) rfl ml_RM_205 ok_RM_fail rfl (Nat.le_of_ble_eq_true rfl) (Nat.le_of_ble_eq_true rfl) (fun _ => t_RM_fail e7) ?_
            exact x_wk F.1 ((t_RM_readClause_l77 F hQ ih) _ _ _ h) ⟨rfl, rfl, rfl, trivial⟩
set_option maxHeartbeats 4000000 in
theorem t_RM_readClause {w : kx_W} {d : Nat} {M : kx_M} {Q : Option Value → kx_M → Prop} {r : Unit} {M' : kx_M} (h : f_RM_readClause M = some (r, M')) (hQ : Q none M') : Ct w (d + 5) m_RM_readClause [.ref 135] M Q := by
  refine mk_ct ok_RM_readClause (Nat.le_of_ble_eq_true rfl) (fun G F => ?_)
  rw [f_RM_readClause] at h
  show G 0 [some (.ref 135), none, none] [] M
  refine x_aload_n F.1 (i := 0) rfl rfl ?_
  refine x_iconst F.1 (i := 1) rfl ic_1 ?_
  refine x_bipush F.1 (i := 2) rfl bp_6 ?_
  refine cal_e h (fun r1 M1 e2 h => ?_)
  refine x_cV2i F.1 (i := 3) rfl ml_RM_248 ok_RM_readNew rfl (Nat.le_of_ble_eq_true rfl) (Nat.le_of_ble_eq_true rfl) (fun _ => t_RM_readNew e2) ?_
  refine x_istore_n F.1 (i := 4) rfl (Nat.le_of_ble_eq_true rfl) (Nat.le_of_ble_eq_true rfl) rfl ?_
  refine x_aload_n F.1 (i := 5) rfl rfl ?_
  refine x_aload_n F.1 (i := 6) rfl rfl ?_
  refine cal_e h (fun r3 M2 e4 h => ?_)
  refine x_cV0i F.1 (i := 7) rfl ml_RM_168 ok_RM_isIs rfl (Nat.le_of_ble_eq_true rfl) (Nat.le_of_ble_eq_true rfl) (fun _ => t_RM_isIs e4) ?_
  refine cal_e h (fun r5 M3 e6 h => ?_)
  refine x_cV1v F.1 (i := 8) rfl ml_RM_234 ok_RM_must rfl (Nat.le_of_ble_eq_true rfl) (Nat.le_of_ble_eq_true rfl) (fun _ => t_RM_must e6) ?_
  refine x_aload_n F.1 (i := 9) rfl rfl ?_
  refine x_getI F.1 (i := 10) rfl fl_RM_199 rfl (by rfl) ?_
  refine x_if_ne F.1 (i := 11) (tgt := 34) rfl (by decide) (fun c => ?_) (fun c => ?_)
  · replace h := if_F c h
    refine x_iconst F.1 (i := 17) rfl ic_0 ?_
    refine x_istore_n F.1 (i := 18) rfl (Nat.le_of_ble_eq_true rfl) (Nat.le_of_ble_eq_true rfl) rfl ?_
    exact x_wk F.1 ((t_RM_readClause_l36 F (res := (r, M')) hQ FU) _ _ _ h) ⟨rfl, rfl, rfl, trivial⟩
  · replace h := if_T c h
    refine x_aload_n F.1 (i := 12) rfl rfl ?_
    refine cal_e h (fun r7 M4 e8 h => ?_)
    refine x_cV0i F.1 (i := 13) rfl ml_RM_183 ok_RM_kindWord rfl (Nat.le_of_ble_eq_true rfl) (Nat.le_of_ble_eq_true rfl) (fun _ => t_RM_kindWord e8) ?_
    refine x_if_ge F.1 (i := 14) (tgt := 34) rfl (by decide) (fun c => ?_) (fun c => ?_)
    · replace h := if_T c h
      refine x_iconst F.1 (i := 17) rfl ic_0 ?_
      refine x_istore_n F.1 (i := 18) rfl (Nat.le_of_ble_eq_true rfl) (Nat.le_of_ble_eq_true rfl) rfl ?_
      exact x_wk F.1 ((t_RM_readClause_l36 F (res := (r, M')) hQ FU) _ _ _ h) ⟨rfl, rfl, rfl, trivial⟩
    · replace h := if_F c h
      refine x_aload_n F.1 (i := 15) rfl rfl ?_
      refine cal_e h (fun r9 M5 e10 h => ?_)
      refine x_cV0v F.1 (i := 16) rfl ml_RM_212 ok_RM_amiss rfl (Nat.le_of_ble_eq_true rfl) (Nat.le_of_ble_eq_true rfl) (fun _ => t_RM_amiss e10) ?_
      refine x_iconst F.1 (i := 17) rfl ic_0 ?_
      refine x_istore_n F.1 (i := 18) rfl (Nat.le_of_ble_eq_true rfl) (Nat.le_of_ble_eq_true rfl) rfl ?_
      exact x_wk F.1 ((t_RM_readClause_l36 F (res := (r, M')) hQ FU) _ _ _ h) ⟨rfl, rfl, rfl, trivial⟩
set_option maxHeartbeats 4000000 in
theorem t_RM_told_l18 {w : kx_W} {d : Nat} {Q : Option Value → kx_M → Prop} {G : Nat → List (Option Value) → List Value → kx_M → Prop} (F : Sd w (d + 4) m_RM_told Q G) {p1 : Int32} {p2 : Int32} {res : Int32 × kx_M} (hQ : Q (some (.int res.1)) res.2) :
    ∀ (M : kx_M),
    f_RM_told_l18 p1 p2 M = some res → G 18 [some (.ref 135), some (.int p1), some (.int p2), none] [] M := by
  intro M h
  rw [f_RM_told_l18] at h
  refine x_aload_n F.1 (i := 8) rfl rfl ?_
  refine x_getI F.1 (i := 9) rfl fl_RM_199 rfl (by rfl) ?_
  refine x_if_le F.1 (i := 10) (tgt := 27) rfl (by decide) (fun c => ?_) (fun c => ?_)
  · replace h := if_T c h
    refine x_aload_n F.1 (i := 13) rfl rfl ?_
    refine x_iload_n F.1 (i := 14) rfl rfl ?_
    refine x_iload_n F.1 (i := 15) rfl rfl ?_
    refine cal_e h (fun r1 M1 e2 h => ?_)
    refine x_cV2i F.1 (i := 16) rfl ml_RM_225 ok_RM_named rfl (Nat.le_of_ble_eq_true rfl) (Nat.le_of_ble_eq_true rfl) (fun _ => t_RM_named e2) ?_
    refine x_istore_n F.1 (i := 17) rfl (Nat.le_of_ble_eq_true rfl) (Nat.le_of_ble_eq_true rfl) rfl ?_
    refine x_iload_n F.1 (i := 18) rfl rfl ?_
    refine x_if_ge F.1 (i := 19) (tgt := 47) rfl (by decide) (fun c => ?_) (fun c => ?_)
    · replace h := if_T c h
      refine x_iconst F.1 (i := 25) rfl ic_0 ?_
      refine x_iload_n F.1 (i := 26) rfl rfl ?_
      refine x_mmax F.1 (i := 27) rfl jm_RM_228 (Nat.le_of_ble_eq_true rfl) ?_
      exact x_iretf F (i := 28) rfl rfl h hQ
    · replace h := if_F c h
      refine x_aload_n F.1 (i := 20) rfl rfl ?_
      refine x_iconst F.1 (i := 21) rfl ic_3 ?_
      refine x_aload_n F.1 (i := 22) rfl rfl ?_
      refine x_getI F.1 (i := 23) rfl fl_RM_113 rfl (by rfl) ?_
      refine cal_e h (fun r3 M2 e4 h => ?_)
      refine x_cV2v F.1 (i := 24) rfl ml_RM_205 ok_RM_fail rfl (Nat.le_of_ble_eq_true rfl) (Nat.le_of_ble_eq_true rfl) (fun _ => t_RM_fail e4) ?_
      refine x_iconst F.1 (i := 25) rfl ic_0 ?_
      refine x_iload_n F.1 (i := 26) rfl rfl ?_
      refine x_mmax F.1 (i := 27) rfl jm_RM_228 (Nat.le_of_ble_eq_true rfl) ?_
      exact x_iretf F (i := 28) rfl rfl h hQ
  · replace h := if_F c h
    refine x_iconst F.1 (i := 11) rfl ic_0 ?_
    exact x_iretf F (i := 12) rfl rfl h hQ
set_option maxHeartbeats 4000000 in
theorem t_RM_told {w : kx_W} {d : Nat} {M : kx_M} {Q : Option Value → kx_M → Prop} {p1 : Int32} {p2 : Int32} {r : Int32} {M' : kx_M} (h : f_RM_told p1 p2 M = some (r, M')) (hQ : Q (some (.int r)) M') : Ct w (d + 4) m_RM_told [.ref 135, .int p1, .int p2] M Q := by
  refine mk_ct ok_RM_told (Nat.le_of_ble_eq_true rfl) (fun G F => ?_)
  rw [f_RM_told] at h
  show G 0 [some (.ref 135), some (.int p1), some (.int p2), none] [] M
  refine x_aload_n F.1 (i := 0) rfl rfl ?_
  refine x_getI F.1 (i := 1) rfl fl_RM_199 rfl (by rfl) ?_
  refine x_if_ne F.1 (i := 2) (tgt := 18) rfl (by decide) (fun c => ?_) (fun c => ?_)
  · replace h := if_F c h
    exact x_wk F.1 ((t_RM_told_l18 F (res := (r, M')) hQ) _ h) ⟨rfl, rfl, rfl, trivial⟩
  · replace h := if_T c h
    refine x_aload_n F.1 (i := 3) rfl rfl ?_
    refine cal_e h (fun r1 M1 e2 h => ?_)
    refine x_cV0i F.1 (i := 4) rfl ml_RM_222 ok_RM_isName rfl (Nat.le_of_ble_eq_true rfl) (Nat.le_of_ble_eq_true rfl) (fun _ => t_RM_isName e2) ?_
    refine x_if_ne F.1 (i := 5) (tgt := 18) rfl (by decide) (fun c => ?_) (fun c => ?_)
    · replace h := if_F c h
      exact x_wk F.1 ((t_RM_told_l18 F (res := (r, M')) hQ) _ h) ⟨rfl, rfl, rfl, trivial⟩
    · replace h := if_T c h
      refine x_aload_n F.1 (i := 6) rfl rfl ?_
      refine cal_e h (fun r3 M2 e4 h => ?_)
      refine x_cV0v F.1 (i := 7) rfl ml_RM_212 ok_RM_amiss rfl (Nat.le_of_ble_eq_true rfl) (Nat.le_of_ble_eq_true rfl) (fun _ => t_RM_amiss e4) ?_
      exact x_wk F.1 ((t_RM_told_l18 F (res := (r, M')) hQ) _ h) ⟨rfl, rfl, rfl, trivial⟩
set_option maxHeartbeats 4000000 in
theorem t_RM_readTold {w : kx_W} {d : Nat} {M : kx_M} {Q : Option Value → kx_M → Prop} {p1 : Int32} {p2 : Int32} {r : Int32} {M' : kx_M} (h : f_RM_readTold p1 p2 M = some (r, M')) (hQ : Q (some (.int r)) M') : Ct w (d + 5) m_RM_readTold [.ref 135, .int p1, .int p2] M Q := by
  refine mk_ct ok_RM_readTold (Nat.le_of_ble_eq_true rfl) (fun G F => ?_)
  rw [f_RM_readTold] at h
  show G 0 [some (.ref 135), some (.int p1), some (.int p2), none] [] M
  refine x_aload_n F.1 (i := 0) rfl rfl ?_
  refine x_iload_n F.1 (i := 1) rfl rfl ?_
  refine x_iload_n F.1 (i := 2) rfl rfl ?_
  refine cal_e h (fun r1 M1 e2 h => ?_)
  refine x_cV2i F.1 (i := 3) rfl ml_RM_231 ok_RM_told rfl (Nat.le_of_ble_eq_true rfl) (Nat.le_of_ble_eq_true rfl) (fun _ => t_RM_told e2) ?_
  refine x_istore_n F.1 (i := 4) rfl (Nat.le_of_ble_eq_true rfl) (Nat.le_of_ble_eq_true rfl) rfl ?_
  refine x_aload_n F.1 (i := 5) rfl rfl ?_
  refine x_iconst F.1 (i := 6) rfl ic_1 ?_
  refine cal_e h (fun r3 M2 e4 h => ?_)
  refine x_cV1v F.1 (i := 7) rfl ml_RM_234 ok_RM_must rfl (Nat.le_of_ble_eq_true rfl) (Nat.le_of_ble_eq_true rfl) (fun _ => t_RM_must e4) ?_
  refine x_iload_n F.1 (i := 8) rfl rfl ?_
  exact x_iretf F (i := 9) rfl rfl h (res := (r, M')) hQ
set_option maxHeartbeats 4000000 in
theorem t_RM_readClash_l39 {w : kx_W} {d : Nat} {Q : Option Value → kx_M → Prop} {G : Nat → List (Option Value) → List Value → kx_M → Prop} (F : Sd w (d + 6) m_RM_readClash Q G) {res : Unit × kx_M} (hQ : Q none res.2) :
    ∀ (x1 : Int32) (x2 : Int32) (M : kx_M),
    f_RM_readClash_l39 x1 x2 M = some res → G 39 [some (.ref 135), some (.int x1), some (.int x2)] [] M := by
  intro x1 x2 M h
  rw [f_RM_readClash_l39] at h
  refine x_aload_n F.1 (i := 23) rfl rfl ?_
  refine x_iconst F.1 (i := 24) rfl ic_1 ?_
  refine cal_e h (fun r1 M1 e2 h => ?_)
  refine x_cV1v F.1 (i := 25) rfl ml_RM_234 ok_RM_must rfl (Nat.le_of_ble_eq_true rfl) (Nat.le_of_ble_eq_true rfl) (fun _ => t_RM_must e2) ?_
  refine x_aload_n F.1 (i := 26) rfl rfl ?_
  refine x_getI F.1 (i := 27) rfl fl_RM_199 rfl (by rfl) ?_
  refine x_if_le F.1 (i := 28) (tgt := 52) rfl (by decide) (fun c => ?_) (fun c => ?_)
  · replace h := if_T c h
    refine x_aload_n F.1 (i := 30) rfl rfl ?_
    refine x_getC F.1 (i := 31) rfl fl_RM_35 rfl (by rfl) ?_
    refine x_sipush F.1 (i := 32) rfl sp_3118 ?_
    refine x_iload_n F.1 (i := 33) rfl rfl ?_
    refine x_iadd F.1 (i := 34) rfl ?_
    refine x_dup2 F.1 (i := 35) rfl rfl rfl ?_
    refine gd_e h (fun g3 h => ?_)
    refine x_iald F.1 (i := 36) rfl rfl (inb_e g3) ?_
    refine x_iconst F.1 (i := 37) rfl ic_1 ?_
    refine x_iload_n F.1 (i := 38) rfl rfl ?_
    refine x_ishl F.1 (i := 39) rfl ?_
    refine x_ior F.1 (i := 40) rfl ?_
    refine gd_e h (fun g4 h => ?_)
    refine x_iast F.1 (i := 41) rfl rfl (inb_e g4) ?_
    replace h := bd_e h
    refine x_aload_n F.1 (i := 42) rfl rfl ?_
    refine x_getC F.1 (i := 43) rfl fl_RM_35 rfl (by rfl) ?_
    refine x_sipush F.1 (i := 44) rfl sp_3118 ?_
    refine x_iload_n F.1 (i := 45) rfl rfl ?_
    refine x_iadd F.1 (i := 46) rfl ?_
    refine x_dup2 F.1 (i := 47) rfl rfl rfl ?_
    refine gd_e h (fun g5 h => ?_)
    refine x_iald F.1 (i := 48) rfl rfl (inb_e g5) ?_
    refine x_iconst F.1 (i := 49) rfl ic_1 ?_
    refine x_iload_n F.1 (i := 50) rfl rfl ?_
    refine x_ishl F.1 (i := 51) rfl ?_
    refine x_ior F.1 (i := 52) rfl ?_
    refine gd_e h (fun g6 h => ?_)
    refine x_iast F.1 (i := 53) rfl rfl (inb_e g6) ?_
    replace h := bd_e h
    exact x_vretf F (i := 54) rfl rfl h hQ
  · replace h := if_F c h
    exact x_vretf F (i := 29) rfl rfl h hQ
set_option maxHeartbeats 4000000 in
theorem t_RM_readClash {w : kx_W} {d : Nat} {M : kx_M} {Q : Option Value → kx_M → Prop} {r : Unit} {M' : kx_M} (h : f_RM_readClash M = some (r, M')) (hQ : Q none M') : Ct w (d + 6) m_RM_readClash [.ref 135] M Q := by
  refine mk_ct ok_RM_readClash (Nat.le_of_ble_eq_true rfl) (fun G F => ?_)
  rw [f_RM_readClash] at h
  show G 0 [some (.ref 135), none, none] [] M
  refine x_aload_n F.1 (i := 0) rfl rfl ?_
  refine cal_e h (fun r1 M1 e2 h => ?_)
  refine x_cV0v F.1 (i := 1) rfl ml_RM_209 ok_RM_advance rfl (Nat.le_of_ble_eq_true rfl) (Nat.le_of_ble_eq_true rfl) (fun _ => t_RM_advance e2) ?_
  refine x_aload_n F.1 (i := 2) rfl rfl ?_
  refine x_iconst F.1 (i := 3) rfl ic_4 ?_
  refine x_iconst F.1 (i := 4) rfl ic_1 ?_
  refine cal_e h (fun r3 M2 e4 h => ?_)
  refine x_cV2i F.1 (i := 5) rfl ml_RM_251 ok_RM_readTold rfl (Nat.le_of_ble_eq_true rfl) (Nat.le_of_ble_eq_true rfl) (fun _ => t_RM_readTold e4) ?_
  refine x_istore_n F.1 (i := 6) rfl (Nat.le_of_ble_eq_true rfl) (Nat.le_of_ble_eq_true rfl) rfl ?_
  refine x_aload_n F.1 (i := 7) rfl rfl ?_
  refine x_iconst F.1 (i := 8) rfl ic_4 ?_
  refine x_iconst F.1 (i := 9) rfl ic_1 ?_
  refine cal_e h (fun r5 M3 e6 h => ?_)
  refine x_cV2i F.1 (i := 10) rfl ml_RM_231 ok_RM_told rfl (Nat.le_of_ble_eq_true rfl) (Nat.le_of_ble_eq_true rfl) (fun _ => t_RM_told e6) ?_
  refine x_istore_n F.1 (i := 11) rfl (Nat.le_of_ble_eq_true rfl) (Nat.le_of_ble_eq_true rfl) rfl ?_
  refine x_aload_n F.1 (i := 12) rfl rfl ?_
  refine x_getI F.1 (i := 13) rfl fl_RM_199 rfl (by rfl) ?_
  refine x_if_ne F.1 (i := 14) (tgt := 39) rfl (by decide) (fun c => ?_) (fun c => ?_)
  · replace h := if_F c h
    exact x_wk F.1 ((t_RM_readClash_l39 F (res := (r, M')) hQ) _ _ _ h) ⟨rfl, rfl, rfl, trivial⟩
  · replace h := if_T c h
    refine x_iload_n F.1 (i := 15) rfl rfl ?_
    refine x_iload_n F.1 (i := 16) rfl rfl ?_
    refine x_icmp_ne F.1 (i := 17) (tgt := 39) rfl (by decide) (fun c => ?_) (fun c => ?_)
    · replace h := if_F c h
      exact x_wk F.1 ((t_RM_readClash_l39 F (res := (r, M')) hQ) _ _ _ h) ⟨rfl, rfl, rfl, trivial⟩
    · replace h := if_T c h
      refine x_aload_n F.1 (i := 18) rfl rfl ?_
      refine x_iconst F.1 (i := 19) rfl ic_5 ?_
      refine x_aload_n F.1 (i := 20) rfl rfl ?_
      refine x_getI F.1 (i := 21) rfl fl_RM_113 rfl (by rfl) ?_
      refine cal_e h (fun r7 M4 e8 h => ?_)
      refine x_cV2v F.1 (i := 22) rfl ml_RM_205 ok_RM_fail rfl (Nat.le_of_ble_eq_true rfl) (Nat.le_of_ble_eq_true rfl) (fun _ => t_RM_fail e8) ?_
      exact x_wk F.1 ((t_RM_readClash_l39 F (res := (r, M')) hQ) _ _ _ h) ⟨rfl, rfl, rfl, trivial⟩
set_option maxHeartbeats 4000000 in
theorem t_RM_readWorth {w : kx_W} {d : Nat} {M : kx_M} {Q : Option Value → kx_M → Prop} {p1 : Int32} {r : Unit} {M' : kx_M} (h : f_RM_readWorth p1 M = some (r, M')) (hQ : Q none M') : Ct w (d + 6) m_RM_readWorth [.ref 135, .int p1] M Q := by
  refine mk_ct ok_RM_readWorth (Nat.le_of_ble_eq_true rfl) (fun G F => ?_)
  rw [f_RM_readWorth] at h
  show G 0 [some (.ref 135), some (.int p1), none, none, none] [] M
  refine x_aload_n F.1 (i := 0) rfl rfl ?_
  refine cal_e h (fun r1 M1 e2 h => ?_)
  refine x_cV0v F.1 (i := 1) rfl ml_RM_209 ok_RM_advance rfl (Nat.le_of_ble_eq_true rfl) (Nat.le_of_ble_eq_true rfl) (fun _ => t_RM_advance e2) ?_
  refine x_aload_n F.1 (i := 2) rfl rfl ?_
  refine x_iconst F.1 (i := 3) rfl ic_4 ?_
  refine x_iconst F.1 (i := 4) rfl ic_0 ?_
  refine cal_e h (fun r3 M2 e4 h => ?_)
  refine x_cV2i F.1 (i := 5) rfl ml_RM_251 ok_RM_readTold rfl (Nat.le_of_ble_eq_true rfl) (Nat.le_of_ble_eq_true rfl) (fun _ => t_RM_readTold e4) ?_
  refine x_istore_n F.1 (i := 6) rfl (Nat.le_of_ble_eq_true rfl) (Nat.le_of_ble_eq_true rfl) rfl ?_
  refine x_aload_n F.1 (i := 7) rfl rfl ?_
  refine x_iconst F.1 (i := 8) rfl ic_4 ?_
  refine x_iconst F.1 (i := 9) rfl ic_1 ?_
  refine cal_e h (fun r5 M3 e6 h => ?_)
  refine x_cV2i F.1 (i := 10) rfl ml_RM_251 ok_RM_readTold rfl (Nat.le_of_ble_eq_true rfl) (Nat.le_of_ble_eq_true rfl) (fun _ => t_RM_readTold e6) ?_
  refine x_istore_n F.1 (i := 11) rfl (Nat.le_of_ble_eq_true rfl) (Nat.le_of_ble_eq_true rfl) rfl ?_
  refine x_aload_n F.1 (i := 12) rfl rfl ?_
  refine x_iconst F.1 (i := 13) rfl ic_0 ?_
  refine x_bipush F.1 (i := 14) rfl bp_99 ?_
  refine cal_e h (fun r7 M4 e8 h => ?_)
  refine x_cV2i F.1 (i := 15) rfl ml_RM_245 ok_RM_count rfl (Nat.le_of_ble_eq_true rfl) (Nat.le_of_ble_eq_true rfl) (fun _ => t_RM_count e8) ?_
  refine x_istore F.1 (i := 16) rfl (Nat.le_of_ble_eq_true rfl) (Nat.le_of_ble_eq_true rfl) rfl ?_
  refine x_aload_n F.1 (i := 17) rfl rfl ?_
  refine x_getI F.1 (i := 18) rfl fl_RM_199 rfl (by rfl) ?_
  refine x_if_ne F.1 (i := 19) (tgt := 53) rfl (by decide) (fun c => ?_) (fun c => ?_)
  · replace h := if_F c h
    exact x_vretf F (i := 33) rfl rfl h (res := (r, M')) hQ
  · replace h := if_T c h
    refine x_aload_n F.1 (i := 20) rfl rfl ?_
    refine x_getC F.1 (i := 21) rfl fl_RM_35 rfl (by rfl) ?_
    refine x_sipush F.1 (i := 22) rfl sp_3072 ?_
    refine x_iload_n F.1 (i := 23) rfl rfl ?_
    refine x_iadd F.1 (i := 24) rfl ?_
    refine x_bipush F.1 (i := 25) rfl bp_6 ?_
    refine x_iload_n F.1 (i := 26) rfl rfl ?_
    refine x_imul F.1 (i := 27) rfl ?_
    refine x_iadd F.1 (i := 28) rfl ?_
    refine x_iload_n F.1 (i := 29) rfl rfl ?_
    refine x_iadd F.1 (i := 30) rfl ?_
    refine x_iload F.1 (i := 31) rfl rfl ?_
    refine gd_e h (fun g9 h => ?_)
    refine x_iast F.1 (i := 32) rfl rfl (inb_e g9) ?_
    replace h := bd_e h
    exact x_vretf F (i := 33) rfl rfl h (res := (r, M')) hQ
set_option maxHeartbeats 4000000 in
theorem t_RM_readRow_l260 {w : kx_W} {d : Nat} {Q : Option Value → kx_M → Prop} {G : Nat → List (Option Value) → List Value → kx_M → Prop} (F : Sd w (d + 6) m_RM_readRow Q G) {res : Unit × kx_M} (hQ : Q none res.2) :
    ∀ (M : kx_M),
    f_RM_readRow_l260 M = some res → G 260 [some (.ref 135), none, none, none, none, none, none] [] M := by
  intro M h
  rw [f_RM_readRow_l260] at h
  refine x_aload_n F.1 (i := 135) rfl rfl ?_
  refine x_getI F.1 (i := 136) rfl fl_RM_199 rfl (by rfl) ?_
  refine x_if_ne F.1 (i := 137) (tgt := 279) rfl (by decide) (fun c => ?_) (fun c => ?_)
  · replace h := if_F c h
    exact x_vretf F (i := 146) rfl rfl h hQ
  · replace h := if_T c h
    refine x_aload_n F.1 (i := 138) rfl rfl ?_
    refine x_getC F.1 (i := 139) rfl fl_RM_35 rfl (by rfl) ?_
    refine x_sipush F.1 (i := 140) rfl sp_3076 ?_
    refine x_dup2 F.1 (i := 141) rfl rfl rfl ?_
    refine gd_e h (fun g1 h => ?_)
    refine x_iald F.1 (i := 142) rfl rfl (inb_e g1) ?_
    refine x_iconst F.1 (i := 143) rfl ic_1 ?_
    refine x_iadd F.1 (i := 144) rfl ?_
    refine gd_e h (fun g2 h => ?_)
    refine x_iast F.1 (i := 145) rfl rfl (inb_e g2) ?_
    replace h := bd_e h
    exact x_vretf F (i := 146) rfl rfl h hQ
set_option maxHeartbeats 4000000 in
theorem t_RM_readRow_l237 {w : kx_W} {d : Nat} {Q : Option Value → kx_M → Prop} {G : Nat → List (Option Value) → List Value → kx_M → Prop} (F : Sd w (d + 6) m_RM_readRow Q G) {res : Unit × kx_M} (hQ : Q none res.2) :
    ∀ (x2 : Int32) (M : kx_M),
    f_RM_readRow_l237 x2 M = some res → G 237 [some (.ref 135), none, some (.int x2), none, none, none, none] [] M := by
  intro x2 M h
  rw [f_RM_readRow_l237] at h
  refine x_aload_n F.1 (i := 124) rfl rfl ?_
  refine x_getI F.1 (i := 125) rfl fl_RM_199 rfl (by rfl) ?_
  refine x_if_ne F.1 (i := 126) (tgt := 260) rfl (by decide) (fun c => ?_) (fun c => ?_)
  · replace h := if_F c h
    exact x_wk F.1 ((t_RM_readRow_l260 F hQ) _ h) ⟨rfl, trivial⟩
  · replace h := if_T c h
    refine x_iload_n F.1 (i := 127) rfl rfl ?_
    refine x_aload_n F.1 (i := 128) rfl rfl ?_
    refine x_getC F.1 (i := 129) rfl fl_RM_35 rfl (by rfl) ?_
    refine x_sipush F.1 (i := 130) rfl sp_3072 ?_
    refine gd_e h (fun g1 h => ?_)
    refine x_iald F.1 (i := 131) rfl rfl (inb_e g1) ?_
    refine x_icmp_ge F.1 (i := 132) (tgt := 260) rfl (by decide) (fun c => ?_) (fun c => ?_)
    · replace h := if_T c h
      exact x_wk F.1 ((t_RM_readRow_l260 F hQ) _ h) ⟨rfl, trivial⟩
    · replace h := if_F c h
      refine x_aload_n F.1 (i := 133) rfl rfl ?_
      refine cal_e h (fun r2 M1 e3 h => ?_)
      refine x_cV0v F.1 (i := 134) rfl ml_RM_212 ok_RM_amiss rfl (Nat.le_of_ble_eq_true rfl) (Nat.le_of_ble_eq_true rfl) (fun _ => t_RM_amiss e3) ?_
      exact x_wk F.1 ((t_RM_readRow_l260 F hQ) _ h) ⟨rfl, trivial⟩
set_option maxHeartbeats 4000000 in
theorem t_RM_readRow_l190 {w : kx_W} {d : Nat} {Q : Option Value → kx_M → Prop} {G : Nat → List (Option Value) → List Value → kx_M → Prop} (F : Sd w (d + 6) m_RM_readRow Q G) {k55 : Int32 → Int32 → kx_M → Option (Unit × kx_M)} {res : Unit × kx_M} (hQ : Q none res.2) (hk55 : ∀ (x1 : Int32) (x2 : Int32) (M : kx_M), k55 x1 x2 M = some res → G 55 [some (.ref 135), some (.int x1), some (.int x2), none, none, none, none] [] M) :
    ∀ (n : Nat) (x1 : Int32) (x2 : Int32) (x3 : Int32) (x5 : Int32) (x6 : Int32) (M : kx_M),
    f_RM_readRow_l190 k55 n x1 x2 x3 x5 x6 M = some res → G 190 [some (.ref 135), some (.int x1), some (.int x2), some (.int x3), none, some (.int x5), some (.int x6)] [] M := by
  intro n
  induction n with
  | zero =>
    intro x1 x2 x3 x5 x6 M h
    exact absurd h (by rw [f_RM_readRow_l190]; exact fun z => nomatch z)
  | succ n ih =>
    intro x1 x2 x3 x5 x6 M h
    rw [f_RM_readRow_l190] at h
    refine x_iload F.1 (i := 98) rfl rfl ?_
    refine x_iload F.1 (i := 99) rfl rfl ?_
    refine x_icmp_ge F.1 (i := 100) (tgt := 229) rfl (by decide) (fun c => ?_) (fun c => ?_)
    · replace h := if_T c h
      refine x_iload_n F.1 (i := 119) rfl rfl ?_
      refine x_iload F.1 (i := 120) rfl rfl ?_
      refine x_iadd F.1 (i := 121) rfl ?_
      refine x_istore_n F.1 (i := 122) rfl (Nat.le_of_ble_eq_true rfl) (Nat.le_of_ble_eq_true rfl) rfl ?_
      replace h := bd_e h
      refine x_goto F.1 (i := 123) (tgt := 55) rfl (by decide) ?_
      exact x_wk F.1 (hk55 _ _ _ h) ⟨rfl, rfl, rfl, trivial⟩
    · replace h := if_F c h
      refine x_aload_n F.1 (i := 101) rfl rfl ?_
      refine x_getI F.1 (i := 102) rfl fl_RM_199 rfl (by rfl) ?_
      refine x_if_ne F.1 (i := 103) (tgt := 229) rfl (by decide) (fun c => ?_) (fun c => ?_)
      · replace h := if_F c h
        refine x_iload_n F.1 (i := 119) rfl rfl ?_
        refine x_iload F.1 (i := 120) rfl rfl ?_
        refine x_iadd F.1 (i := 121) rfl ?_
        refine x_istore_n F.1 (i := 122) rfl (Nat.le_of_ble_eq_true rfl) (Nat.le_of_ble_eq_true rfl) rfl ?_
        replace h := bd_e h
        refine x_goto F.1 (i := 123) (tgt := 55) rfl (by decide) ?_
        exact x_wk F.1 (hk55 _ _ _ h) ⟨rfl, rfl, rfl, trivial⟩
      · replace h := if_T c h
        refine x_aload_n F.1 (i := 104) rfl rfl ?_
        refine x_getC F.1 (i := 105) rfl fl_RM_35 rfl (by rfl) ?_
        refine x_sipush F.1 (i := 106) rfl sp_3184 ?_
        refine x_bipush F.1 (i := 107) rfl bp_8 ?_
        refine x_iload_n F.1 (i := 108) rfl rfl ?_
        refine x_imul F.1 (i := 109) rfl ?_
        refine x_iadd F.1 (i := 110) rfl ?_
        refine x_iload_n F.1 (i := 111) rfl rfl ?_
        refine x_iadd F.1 (i := 112) rfl ?_
        refine x_iload F.1 (i := 113) rfl rfl ?_
        refine x_iadd F.1 (i := 114) rfl ?_
        refine x_iload_n F.1 (i := 115) rfl rfl ?_
        refine gd_e h (fun g2 h => ?_)
        refine x_iast F.1 (i := 116) rfl rfl (inb_e g2) ?_
        replace h := bd_e h
        refine x_iinc F.1 (i := 117) rfl rfl rfl (Nat.le_of_ble_eq_true rfl) rfl ?_
        replace h := bd_e h
        refine x_goto F.1 (i := 118) (tgt := 190) rfl (by decide) ?_
        exact x_wk F.1 (ih _ _ _ _ _ _ h) ⟨rfl, rfl, rfl, rfl, rfl, rfl, trivial⟩
set_option maxHeartbeats 4000000 in
theorem t_RM_readRow_l155 {w : kx_W} {d : Nat} {Q : Option Value → kx_M → Prop} {G : Nat → List (Option Value) → List Value → kx_M → Prop} (F : Sd w (d + 6) m_RM_readRow Q G) {k55 : Int32 → Int32 → kx_M → Option (Unit × kx_M)} {res : Unit × kx_M} (hQ : Q none res.2) (hk55 : ∀ (x1 : Int32) (x2 : Int32) (M : kx_M), k55 x1 x2 M = some res → G 55 [some (.ref 135), some (.int x1), some (.int x2), none, none, none, none] [] M) :
    ∀ (x1 : Int32) (x2 : Int32) (x3 : Int32) (x4 : Int32) (s0 : Int32) (M : kx_M),
    f_RM_readRow_l155 k55 x1 x2 x3 x4 s0 M = some res → G 155 [some (.ref 135), some (.int x1), some (.int x2), some (.int x3), some (.int x4), none, none] [.int s0] M := by
  intro x1 x2 x3 x4 s0 M h
  rw [f_RM_readRow_l155] at h
  refine x_istore F.1 (i := 80) rfl (Nat.le_of_ble_eq_true rfl) (Nat.le_of_ble_eq_true rfl) rfl ?_
  refine x_aload_n F.1 (i := 81) rfl rfl ?_
  refine x_getI F.1 (i := 82) rfl fl_RM_199 rfl (by rfl) ?_
  refine x_if_ne F.1 (i := 83) (tgt := 187) rfl (by decide) (fun c => ?_) (fun c => ?_)
  · replace h := if_F c h
    refine x_iconst F.1 (i := 96) rfl ic_0 ?_
    refine x_istore F.1 (i := 97) rfl (Nat.le_of_ble_eq_true rfl) (Nat.le_of_ble_eq_true rfl) rfl ?_
    exact x_wk F.1 ((t_RM_readRow_l190 F hQ hk55 FU) _ _ _ _ _ _ h) ⟨rfl, rfl, rfl, rfl, rfl, rfl, trivial⟩
  · replace h := if_T c h
    refine x_iload_n F.1 (i := 84) rfl rfl ?_
    refine x_iload F.1 (i := 85) rfl rfl ?_
    refine x_iadd F.1 (i := 86) rfl ?_
    refine x_aload_n F.1 (i := 87) rfl rfl ?_
    refine x_getC F.1 (i := 88) rfl fl_RM_35 rfl (by rfl) ?_
    refine x_sipush F.1 (i := 89) rfl sp_3072 ?_
    refine gd_e h (fun g1 h => ?_)
    refine x_iald F.1 (i := 90) rfl rfl (inb_e g1) ?_
    refine x_icmp_le F.1 (i := 91) (tgt := 187) rfl (by decide) (fun c => ?_) (fun c => ?_)
    · replace h := if_T c h
      refine x_iconst F.1 (i := 96) rfl ic_0 ?_
      refine x_istore F.1 (i := 97) rfl (Nat.le_of_ble_eq_true rfl) (Nat.le_of_ble_eq_true rfl) rfl ?_
      exact x_wk F.1 ((t_RM_readRow_l190 F hQ hk55 FU) _ _ _ _ _ _ h) ⟨rfl, rfl, rfl, rfl, rfl, rfl, trivial⟩
    · replace h := if_F c h
      refine x_aload_n F.1 (i := 92) rfl rfl ?_
      refine x_bipush F.1 (i := 93) rfl bp_6 ?_
      refine x_iload F.1 (i := 94) rfl rfl ?_
      refine cal_e h (fun r2 M1 e3 h => ?_)
      refine x_cV2v F.1 (i := 95) rfl ml_RM_205 ok_RM_fail rfl (Nat.le_of_ble_eq_true rfl) (Nat.le_of_ble_eq_true rfl) (fun _ => t_RM_fail e3) ?_
      refine x_iconst F.1 (i := 96) rfl ic_0 ?_
      refine x_istore F.1 (i := 97) rfl (Nat.le_of_ble_eq_true rfl) (Nat.le_of_ble_eq_true rfl) rfl ?_
      exact x_wk F.1 ((t_RM_readRow_l190 F hQ hk55 FU) _ _ _ _ _ _ h) ⟨rfl, rfl, rfl, rfl, rfl, rfl, trivial⟩
set_option maxHeartbeats 4000000 in
theorem t_RM_readRow_l91 {w : kx_W} {d : Nat} {Q : Option Value → kx_M → Prop} {G : Nat → List (Option Value) → List Value → kx_M → Prop} (F : Sd w (d + 6) m_RM_readRow Q G) {k55 : Int32 → Int32 → kx_M → Option (Unit × kx_M)} {res : Unit × kx_M} (hQ : Q none res.2) (hk55 : ∀ (x1 : Int32) (x2 : Int32) (M : kx_M), k55 x1 x2 M = some res → G 55 [some (.ref 135), some (.int x1), some (.int x2), none, none, none, none] [] M) :
    ∀ (x1 : Int32) (x2 : Int32) (M : kx_M),
    f_RM_readRow_l91 k55 x1 x2 M = some res → G 91 [some (.ref 135), some (.int x1), some (.int x2), none, none, none, none] [] M := by
  intro x1 x2 M h
  rw [f_RM_readRow_l91] at h
  refine x_aload_n F.1 (i := 48) rfl rfl ?_
  refine x_getI F.1 (i := 49) rfl fl_RM_199 rfl (by rfl) ?_
  refine x_if_le F.1 (i := 50) (tgt := 99) rfl (by decide) (fun c => ?_) (fun c => ?_)
  · replace h := if_T c h
    refine x_aload_n F.1 (i := 52) rfl rfl ?_
    refine cal_e h (fun r1 M1 e2 h => ?_)
    refine x_cV0i F.1 (i := 53) rfl ml_RM_183 ok_RM_kindWord rfl (Nat.le_of_ble_eq_true rfl) (Nat.le_of_ble_eq_true rfl) (fun _ => t_RM_kindWord e2) ?_
    refine x_istore_n F.1 (i := 54) rfl (Nat.le_of_ble_eq_true rfl) (Nat.le_of_ble_eq_true rfl) rfl ?_
    refine x_aload_n F.1 (i := 55) rfl rfl ?_
    refine cal_e h (fun r3 M2 e4 h => ?_)
    refine x_cV0v F.1 (i := 56) rfl ml_RM_209 ok_RM_advance rfl (Nat.le_of_ble_eq_true rfl) (Nat.le_of_ble_eq_true rfl) (fun _ => t_RM_advance e4) ?_
    refine x_aload_n F.1 (i := 57) rfl rfl ?_
    refine x_getI F.1 (i := 58) rfl fl_RM_113 rfl (by rfl) ?_
    refine x_istore F.1 (i := 59) rfl (Nat.le_of_ble_eq_true rfl) (Nat.le_of_ble_eq_true rfl) rfl ?_
    replace h := bd_e h
    refine x_aload_n F.1 (i := 60) rfl rfl ?_
    refine x_getI F.1 (i := 61) rfl fl_RM_119 rfl (by rfl) ?_
    refine x_iconst F.1 (i := 62) rfl ic_2 ?_
    refine x_icmp_eq F.1 (i := 63) (tgt := 144) rfl (by decide) (fun c => ?_) (fun c => ?_)
    · replace h := if_T c h
      refine x_aload_n F.1 (i := 74) rfl rfl ?_
      refine x_iconst F.1 (i := 75) rfl ic_1 ?_
      refine x_bipush F.1 (i := 76) rfl bp_8 ?_
      refine cal_e h (fun r6 M3 e7 h => ?_)
      refine x_cV2i F.1 (i := 77) rfl ml_RM_245 ok_RM_count rfl (Nat.le_of_ble_eq_true rfl) (Nat.le_of_ble_eq_true rfl) (fun _ => t_RM_count e7) ?_
      refine x_goto F.1 (i := 78) (tgt := 155) rfl (by decide) ?_
      exact x_wk F.1 ((t_RM_readRow_l155 F hQ hk55) _ _ _ _ _ _ h) ⟨rfl, rfl, rfl, rfl, rfl, trivial⟩
    · replace h := if_F c h
      refine x_aload_n F.1 (i := 64) rfl rfl ?_
      refine x_getI F.1 (i := 65) rfl fl_RM_119 rfl (by rfl) ?_
      refine x_iconst F.1 (i := 66) rfl ic_4 ?_
      refine x_icmp_ne F.1 (i := 67) (tgt := 154) rfl (by decide) (fun c => ?_) (fun c => ?_)
      · replace h := if_F c h
        refine x_iconst F.1 (i := 79) rfl ic_1 ?_
        exact x_wk F.1 ((t_RM_readRow_l155 F hQ hk55) _ _ _ _ _ _ h) ⟨rfl, rfl, rfl, rfl, rfl, trivial⟩
      · replace h := if_T c h
        refine x_aload_n F.1 (i := 68) rfl rfl ?_
        refine x_aload_n F.1 (i := 69) rfl rfl ?_
        refine x_getI F.1 (i := 70) rfl fl_RM_113 rfl (by rfl) ?_
        refine cal_e h (fun r8 M4 e9 h => ?_)
        refine x_cV1i F.1 (i := 71) rfl ml_RM_116 ok_RM_look2 rfl (Nat.le_of_ble_eq_true rfl) (Nat.le_of_ble_eq_true rfl) (fun _ => t_RM_look2 e9) ?_
        refine cal_e h (fun r10 M5 e11 h => ?_)
        refine x_cS1i F.1 (i := 72) rfl ml_RM_135 ok_RM_isDigit (Nat.le_of_ble_eq_true rfl) (Nat.le_of_ble_eq_true rfl) (fun _ => t_RM_isDigit e11) ?_
        refine x_if_eq F.1 (i := 73) (tgt := 154) rfl (by decide) (fun c => ?_) (fun c => ?_)
        · replace h := if_T c h
          refine x_iconst F.1 (i := 79) rfl ic_1 ?_
          exact x_wk F.1 ((t_RM_readRow_l155 F hQ hk55) _ _ _ _ _ _ h) ⟨rfl, rfl, rfl, rfl, rfl, trivial⟩
        · replace h := if_F c h
          refine x_aload_n F.1 (i := 74) rfl rfl ?_
          refine x_iconst F.1 (i := 75) rfl ic_1 ?_
          refine x_bipush F.1 (i := 76) rfl bp_8 ?_
          refine cal_e h (fun r12 M6 e13 h => ?_)
          refine x_cV2i F.1 (i := 77) rfl ml_RM_245 ok_RM_count rfl (Nat.le_of_ble_eq_true rfl) (Nat.le_of_ble_eq_true rfl) (fun _ => t_RM_count e13) ?_
          refine x_goto F.1 (i := 78) (tgt := 155) rfl (by decide) ?_
          exact x_wk F.1 ((t_RM_readRow_l155 F hQ hk55) _ _ _ _ _ _ h) ⟨rfl, rfl, rfl, rfl, rfl, trivial⟩
  · replace h := if_F c h
    exact x_vretf F (i := 51) rfl rfl h hQ
set_option maxHeartbeats 4000000 in
theorem t_RM_readRow_l55 {w : kx_W} {d : Nat} {Q : Option Value → kx_M → Prop} {G : Nat → List (Option Value) → List Value → kx_M → Prop} (F : Sd w (d + 6) m_RM_readRow Q G) {res : Unit × kx_M} (hQ : Q none res.2) :
    ∀ (n : Nat) (x1 : Int32) (x2 : Int32) (M : kx_M),
    f_RM_readRow_l55 n x1 x2 M = some res → G 55 [some (.ref 135), some (.int x1), some (.int x2), none, none, none, none] [] M := by
  intro n
  induction n with
  | zero =>
    intro x1 x2 M h
    exact absurd h (by rw [f_RM_readRow_l55]; exact fun z => nomatch z)
  | succ n ih =>
    intro x1 x2 M h
    rw [f_RM_readRow_l55] at h
    refine x_aload_n F.1 (i := 31) rfl rfl ?_
    refine x_getI F.1 (i := 32) rfl fl_RM_199 rfl (by rfl) ?_
    refine x_if_ne F.1 (i := 33) (tgt := 237) rfl (by decide) (fun c => ?_) (fun c => ?_)
    · replace h := if_F c h
      exact x_wk F.1 ((t_RM_readRow_l237 F hQ) _ _ h) ⟨rfl, rfl, trivial⟩
    · replace h := if_T c h
      refine x_aload_n F.1 (i := 34) rfl rfl ?_
      refine cal_e h (fun r1 M1 e2 h => ?_)
      refine x_cV0i F.1 (i := 35) rfl ml_RM_183 ok_RM_kindWord rfl (Nat.le_of_ble_eq_true rfl) (Nat.le_of_ble_eq_true rfl) (fun _ => t_RM_kindWord e2) ?_
      refine x_if_lt F.1 (i := 36) (tgt := 237) rfl (by decide) (fun c => ?_) (fun c => ?_)
      · replace h := if_T c h
        exact x_wk F.1 ((t_RM_readRow_l237 F hQ) _ _ h) ⟨rfl, rfl, trivial⟩
      · replace h := if_F c h
        refine x_iload_n F.1 (i := 37) rfl rfl ?_
        refine x_aload_n F.1 (i := 38) rfl rfl ?_
        refine x_getC F.1 (i := 39) rfl fl_RM_35 rfl (by rfl) ?_
        refine x_sipush F.1 (i := 40) rfl sp_3072 ?_
        refine gd_e h (fun g3 h => ?_)
        refine x_iald F.1 (i := 41) rfl rfl (inb_e g3) ?_
        refine x_icmp_ne F.1 (i := 42) (tgt := 91) rfl (by decide) (fun c => ?_) (fun c => ?_)
        · replace h := if_F c h
          exact x_wk F.1 ((t_RM_readRow_l91 F hQ ih) _ _ _ h) ⟨rfl, rfl, rfl, trivial⟩
        · replace h := if_T c h
          refine x_aload_n F.1 (i := 43) rfl rfl ?_
          refine x_bipush F.1 (i := 44) rfl bp_6 ?_
          refine x_aload_n F.1 (i := 45) rfl rfl ?_
          refine x_getI F.1 (i := 46) rfl fl_RM_113 rfl (by rfl) ?_
          refine cal_e h (fun r4 M2 e5 h => ?_)
          refine x_cV2v F.1 (i := 47) rfl ml_RM_205 ok_RM_fail rfl (Nat.le_of_ble_eq_true rfl) (Nat.le_of_ble_eq_true rfl) (fun _ => t_RM_fail e5) ?_
          exact x_wk F.1 ((t_RM_readRow_l91 F hQ ih) _ _ _ h) ⟨rfl, rfl, rfl, trivial⟩
set_option maxHeartbeats 4000000 in
theorem t_RM_readRow_l25 {w : kx_W} {d : Nat} {Q : Option Value → kx_M → Prop} {G : Nat → List (Option Value) → List Value → kx_M → Prop} (F : Sd w (d + 6) m_RM_readRow Q G) {res : Unit × kx_M} (hQ : Q none res.2) :
    ∀ (x1 : Int32) (M : kx_M),
    f_RM_readRow_l25 x1 M = some res → G 25 [some (.ref 135), some (.int x1), none, none, none, none, none] [] M := by
  intro x1 M h
  rw [f_RM_readRow_l25] at h
  refine x_aload_n F.1 (i := 13) rfl rfl ?_
  refine x_getI F.1 (i := 14) rfl fl_RM_199 rfl (by rfl) ?_
  refine x_if_le F.1 (i := 15) (tgt := 33) rfl (by decide) (fun c => ?_) (fun c => ?_)
  · replace h := if_T c h
    refine x_aload_n F.1 (i := 17) rfl rfl ?_
    refine cal_e h (fun r1 M1 e2 h => ?_)
    refine x_cV0v F.1 (i := 18) rfl ml_RM_209 ok_RM_advance rfl (Nat.le_of_ble_eq_true rfl) (Nat.le_of_ble_eq_true rfl) (fun _ => t_RM_advance e2) ?_
    refine x_aload_n F.1 (i := 19) rfl rfl ?_
    refine x_getC F.1 (i := 20) rfl fl_RM_35 rfl (by rfl) ?_
    refine x_sipush F.1 (i := 21) rfl sp_3172 ?_
    refine x_iload_n F.1 (i := 22) rfl rfl ?_
    refine x_iadd F.1 (i := 23) rfl ?_
    refine x_aload_n F.1 (i := 24) rfl rfl ?_
    refine x_iconst F.1 (i := 25) rfl ic_4 ?_
    refine x_iconst F.1 (i := 26) rfl ic_0 ?_
    refine cal_e h (fun r3 M2 e4 h => ?_)
    refine x_cV2i F.1 (i := 27) rfl ml_RM_251 ok_RM_readTold rfl (Nat.le_of_ble_eq_true rfl) (Nat.le_of_ble_eq_true rfl) (fun _ => t_RM_readTold e4) ?_
    refine gd_e h (fun g5 h => ?_)
    refine x_iast F.1 (i := 28) rfl rfl (inb_e g5) ?_
    replace h := bd_e h
    refine x_iconst F.1 (i := 29) rfl ic_0 ?_
    refine x_istore_n F.1 (i := 30) rfl (Nat.le_of_ble_eq_true rfl) (Nat.le_of_ble_eq_true rfl) rfl ?_
    exact x_wk F.1 ((t_RM_readRow_l55 F hQ FU) _ _ _ h) ⟨rfl, rfl, rfl, trivial⟩
  · replace h := if_F c h
    exact x_vretf F (i := 16) rfl rfl h hQ
set_option maxHeartbeats 4000000 in
theorem t_RM_readRow {w : kx_W} {d : Nat} {M : kx_M} {Q : Option Value → kx_M → Prop} {r : Unit} {M' : kx_M} (h : f_RM_readRow M = some (r, M')) (hQ : Q none M') : Ct w (d + 6) m_RM_readRow [.ref 135] M Q := by
  refine mk_ct ok_RM_readRow (Nat.le_of_ble_eq_true rfl) (fun G F => ?_)
  rw [f_RM_readRow] at h
  show G 0 [some (.ref 135), none, none, none, none, none, none] [] M
  refine x_aload_n F.1 (i := 0) rfl rfl ?_
  refine x_getC F.1 (i := 1) rfl fl_RM_35 rfl (by rfl) ?_
  refine x_sipush F.1 (i := 2) rfl sp_3076 ?_
  refine gd_e h (fun g1 h => ?_)
  refine x_iald F.1 (i := 3) rfl rfl (inb_e g1) ?_
  refine x_istore_n F.1 (i := 4) rfl (Nat.le_of_ble_eq_true rfl) (Nat.le_of_ble_eq_true rfl) rfl ?_
  replace h := bd_e h
  refine x_iload_n F.1 (i := 5) rfl rfl ?_
  refine x_bipush F.1 (i := 6) rfl bp_12 ?_
  refine x_icmp_ne F.1 (i := 7) (tgt := 25) rfl (by decide) (fun c => ?_) (fun c => ?_)
  · replace h := if_F c h
    exact x_wk F.1 ((t_RM_readRow_l25 F (res := (r, M')) hQ) _ _ h) ⟨rfl, rfl, trivial⟩
  · replace h := if_T c h
    refine x_aload_n F.1 (i := 8) rfl rfl ?_
    refine x_bipush F.1 (i := 9) rfl bp_6 ?_
    refine x_aload_n F.1 (i := 10) rfl rfl ?_
    refine x_getI F.1 (i := 11) rfl fl_RM_113 rfl (by rfl) ?_
    refine cal_e h (fun r3 M1 e4 h => ?_)
    refine x_cV2v F.1 (i := 12) rfl ml_RM_205 ok_RM_fail rfl (Nat.le_of_ble_eq_true rfl) (Nat.le_of_ble_eq_true rfl) (fun _ => t_RM_fail e4) ?_
    exact x_wk F.1 ((t_RM_readRow_l25 F (res := (r, M')) hQ) _ _ h) ⟨rfl, rfl, trivial⟩
set_option maxHeartbeats 4000000 in
theorem t_RM_readPart {w : kx_W} {d : Nat} {M : kx_M} {Q : Option Value → kx_M → Prop} {r : Unit} {M' : kx_M} (h : f_RM_readPart M = some (r, M')) (hQ : Q none M') : Ct w (d + 7) m_RM_readPart [.ref 135] M Q := by
  refine mk_ct ok_RM_readPart (Nat.le_of_ble_eq_true rfl) (fun G F => ?_)
  rw [f_RM_readPart] at h
  show G 0 [some (.ref 135)] [] M
  refine x_aload_n F.1 (i := 0) rfl rfl ?_
  refine cal_e h (fun r1 M1 e2 h => ?_)
  refine x_cV0i F.1 (i := 1) rfl ml_RM_152 ok_RM_isWide rfl (Nat.le_of_ble_eq_true rfl) (Nat.le_of_ble_eq_true rfl) (fun _ => t_RM_isWide e2) ?_
  refine x_if_eq F.1 (i := 2) (tgt := 18) rfl (by decide) (fun c => ?_) (fun c => ?_)
  · replace h := if_T c h
    refine x_aload_n F.1 (i := 9) rfl rfl ?_
    refine cal_e h (fun r3 M2 e4 h => ?_)
    refine x_cV0i F.1 (i := 10) rfl ml_RM_156 ok_RM_isTough rfl (Nat.le_of_ble_eq_true rfl) (Nat.le_of_ble_eq_true rfl) (fun _ => t_RM_isTough e4) ?_
    refine x_if_eq F.1 (i := 11) (tgt := 36) rfl (by decide) (fun c => ?_) (fun c => ?_)
    · replace h := if_T c h
      refine x_aload_n F.1 (i := 18) rfl rfl ?_
      refine cal_e h (fun r5 M3 e6 h => ?_)
      refine x_cV0i F.1 (i := 19) rfl ml_RM_159 ok_RM_isQueen rfl (Nat.le_of_ble_eq_true rfl) (Nat.le_of_ble_eq_true rfl) (fun _ => t_RM_isQueen e6) ?_
      refine x_if_eq F.1 (i := 20) (tgt := 50) rfl (by decide) (fun c => ?_) (fun c => ?_)
      · replace h := if_T c h
        refine x_aload_n F.1 (i := 24) rfl rfl ?_
        refine cal_e h (fun r7 M4 e8 h => ?_)
        refine x_cV0i F.1 (i := 25) rfl ml_RM_165 ok_RM_isClause rfl (Nat.le_of_ble_eq_true rfl) (Nat.le_of_ble_eq_true rfl) (fun _ => t_RM_isClause e8) ?_
        refine x_if_eq F.1 (i := 26) (tgt := 64) rfl (by decide) (fun c => ?_) (fun c => ?_)
        · replace h := if_T c h
          refine x_aload_n F.1 (i := 30) rfl rfl ?_
          refine cal_e h (fun r9 M5 e10 h => ?_)
          refine x_cV0i F.1 (i := 31) rfl ml_RM_171 ok_RM_isClash rfl (Nat.le_of_ble_eq_true rfl) (Nat.le_of_ble_eq_true rfl) (fun _ => t_RM_isClash e10) ?_
          refine x_if_eq F.1 (i := 32) (tgt := 78) rfl (by decide) (fun c => ?_) (fun c => ?_)
          · replace h := if_T c h
            refine x_aload_n F.1 (i := 36) rfl rfl ?_
            refine cal_e h (fun r11 M6 e12 h => ?_)
            refine x_cV0i F.1 (i := 37) rfl ml_RM_174 ok_RM_isGives rfl (Nat.le_of_ble_eq_true rfl) (Nat.le_of_ble_eq_true rfl) (fun _ => t_RM_isGives e12) ?_
            refine x_if_eq F.1 (i := 38) (tgt := 94) rfl (by decide) (fun c => ?_) (fun c => ?_)
            · replace h := if_T c h
              refine x_aload_n F.1 (i := 43) rfl rfl ?_
              refine cal_e h (fun r13 M7 e14 h => ?_)
              refine x_cV0i F.1 (i := 44) rfl ml_RM_177 ok_RM_isCosts rfl (Nat.le_of_ble_eq_true rfl) (Nat.le_of_ble_eq_true rfl) (fun _ => t_RM_isCosts e14) ?_
              refine x_if_eq F.1 (i := 45) (tgt := 110) rfl (by decide) (fun c => ?_) (fun c => ?_)
              · replace h := if_T c h
                refine x_aload_n F.1 (i := 50) rfl rfl ?_
                refine cal_e h (fun r15 M8 e16 h => ?_)
                refine x_cV0i F.1 (i := 51) rfl ml_RM_180 ok_RM_isRow rfl (Nat.le_of_ble_eq_true rfl) (Nat.le_of_ble_eq_true rfl) (fun _ => t_RM_isRow e16) ?_
                refine x_if_eq F.1 (i := 52) (tgt := 124) rfl (by decide) (fun c => ?_) (fun c => ?_)
                · replace h := if_T c h
                  refine x_aload_n F.1 (i := 56) rfl rfl ?_
                  refine cal_e h (fun r17 M9 e18 h => ?_)
                  refine x_cV0v F.1 (i := 57) rfl ml_RM_212 ok_RM_amiss rfl (Nat.le_of_ble_eq_true rfl) (Nat.le_of_ble_eq_true rfl) (fun _ => t_RM_amiss e18) ?_
                  exact x_vretf F (i := 58) rfl rfl h (res := (r, M')) hQ
                · replace h := if_F c h
                  refine x_aload_n F.1 (i := 53) rfl rfl ?_
                  refine cal_e h (fun r19 M10 e20 h => ?_)
                  refine x_cV0v F.1 (i := 54) rfl ml_RM_270 ok_RM_readRow rfl (Nat.le_of_ble_eq_true rfl) (Nat.le_of_ble_eq_true rfl) (fun _ => t_RM_readRow e20) ?_
                  refine x_goto F.1 (i := 55) (tgt := 128) rfl (by decide) ?_
                  exact x_vretf F (i := 58) rfl rfl h (res := (r, M')) hQ
              · replace h := if_F c h
                refine x_aload_n F.1 (i := 46) rfl rfl ?_
                refine x_bipush F.1 (i := 47) rfl bp_76 ?_
                refine cal_e h (fun r21 M11 e22 h => ?_)
                refine x_cV1v F.1 (i := 48) rfl ml_RM_267 ok_RM_readWorth rfl (Nat.le_of_ble_eq_true rfl) (Nat.le_of_ble_eq_true rfl) (fun _ => t_RM_readWorth e22) ?_
                refine x_goto F.1 (i := 49) (tgt := 128) rfl (by decide) ?_
                exact x_vretf F (i := 58) rfl rfl h (res := (r, M')) hQ
            · replace h := if_F c h
              refine x_aload_n F.1 (i := 39) rfl rfl ?_
              refine x_bipush F.1 (i := 40) rfl bp_52 ?_
              refine cal_e h (fun r23 M12 e24 h => ?_)
              refine x_cV1v F.1 (i := 41) rfl ml_RM_267 ok_RM_readWorth rfl (Nat.le_of_ble_eq_true rfl) (Nat.le_of_ble_eq_true rfl) (fun _ => t_RM_readWorth e24) ?_
              refine x_goto F.1 (i := 42) (tgt := 128) rfl (by decide) ?_
              exact x_vretf F (i := 58) rfl rfl h (res := (r, M')) hQ
          · replace h := if_F c h
            refine x_aload_n F.1 (i := 33) rfl rfl ?_
            refine cal_e h (fun r25 M13 e26 h => ?_)
            refine x_cV0v F.1 (i := 34) rfl ml_RM_264 ok_RM_readClash rfl (Nat.le_of_ble_eq_true rfl) (Nat.le_of_ble_eq_true rfl) (fun _ => t_RM_readClash e26) ?_
            refine x_goto F.1 (i := 35) (tgt := 128) rfl (by decide) ?_
            exact x_vretf F (i := 58) rfl rfl h (res := (r, M')) hQ
        · replace h := if_F c h
          refine x_aload_n F.1 (i := 27) rfl rfl ?_
          refine cal_e h (fun r27 M14 e28 h => ?_)
          refine x_cV0v F.1 (i := 28) rfl ml_RM_261 ok_RM_readClause rfl (Nat.le_of_ble_eq_true rfl) (Nat.le_of_ble_eq_true rfl) (fun _ => t_RM_readClause e28) ?_
          refine x_goto F.1 (i := 29) (tgt := 128) rfl (by decide) ?_
          exact x_vretf F (i := 58) rfl rfl h (res := (r, M')) hQ
      · replace h := if_F c h
        refine x_aload_n F.1 (i := 21) rfl rfl ?_
        refine cal_e h (fun r29 M15 e30 h => ?_)
        refine x_cV0v F.1 (i := 22) rfl ml_RM_258 ok_RM_readQueen rfl (Nat.le_of_ble_eq_true rfl) (Nat.le_of_ble_eq_true rfl) (fun _ => t_RM_readQueen e30) ?_
        refine x_goto F.1 (i := 23) (tgt := 128) rfl (by decide) ?_
        exact x_vretf F (i := 58) rfl rfl h (res := (r, M')) hQ
    · replace h := if_F c h
      refine x_aload_n F.1 (i := 12) rfl rfl ?_
      refine x_iconst F.1 (i := 13) rfl ic_1 ?_
      refine x_iconst F.1 (i := 14) rfl ic_1 ?_
      refine x_bipush F.1 (i := 15) rfl bp_50 ?_
      refine cal_e h (fun r31 M16 e32 h => ?_)
      refine x_cV3v F.1 (i := 16) rfl ml_RM_254 ok_RM_readOnce rfl (Nat.le_of_ble_eq_true rfl) (Nat.le_of_ble_eq_true rfl) (fun _ => t_RM_readOnce e32) ?_
      refine x_goto F.1 (i := 17) (tgt := 128) rfl (by decide) ?_
      exact x_vretf F (i := 58) rfl rfl h (res := (r, M')) hQ
  · replace h := if_F c h
    refine x_aload_n F.1 (i := 3) rfl rfl ?_
    refine x_iconst F.1 (i := 4) rfl ic_0 ?_
    refine x_iconst F.1 (i := 5) rfl ic_1 ?_
    refine x_bipush F.1 (i := 6) rfl bp_8 ?_
    refine cal_e h (fun r33 M17 e34 h => ?_)
    refine x_cV3v F.1 (i := 7) rfl ml_RM_254 ok_RM_readOnce rfl (Nat.le_of_ble_eq_true rfl) (Nat.le_of_ble_eq_true rfl) (fun _ => t_RM_readOnce e34) ?_
    refine x_goto F.1 (i := 8) (tgt := 128) rfl (by decide) ?_
    exact x_vretf F (i := 58) rfl rfl h (res := (r, M')) hQ
set_option maxHeartbeats 4000000 in
theorem t_RM_isSign {w : kx_W} {d : Nat} {M : kx_M} {Q : Option Value → kx_M → Prop} {p1 : Int32} {r : Int32} {M' : kx_M} (h : f_RM_isSign p1 M = some (r, M')) (hQ : Q (some (.int r)) M') : Ct w d m_RM_isSign [.ref 135, .int p1] M Q := by
  refine mk_ct ok_RM_isSign (Nat.le_of_ble_eq_true rfl) (fun G F => ?_)
  rw [f_RM_isSign] at h
  show G 0 [some (.ref 135), some (.int p1)] [] M
  refine x_aload_n F.1 (i := 0) rfl rfl ?_
  refine x_getI F.1 (i := 1) rfl fl_RM_119 rfl (by rfl) ?_
  refine x_iconst F.1 (i := 2) rfl ic_3 ?_
  refine x_icmp_ne F.1 (i := 3) (tgt := 20) rfl (by decide) (fun c => ?_) (fun c => ?_)
  · replace h := if_F c h
    refine x_iconst F.1 (i := 10) rfl ic_0 ?_
    exact x_zretf F (i := 11) rfl rfl (Or.inl rfl) h (res := (r, M')) hQ
  · replace h := if_T c h
    refine x_aload_n F.1 (i := 4) rfl rfl ?_
    refine x_getI F.1 (i := 5) rfl fl_RM_138 rfl (by rfl) ?_
    refine x_iload_n F.1 (i := 6) rfl rfl ?_
    refine x_icmp_ne F.1 (i := 7) (tgt := 20) rfl (by decide) (fun c => ?_) (fun c => ?_)
    · replace h := if_F c h
      refine x_iconst F.1 (i := 10) rfl ic_0 ?_
      exact x_zretf F (i := 11) rfl rfl (Or.inl rfl) h (res := (r, M')) hQ
    · replace h := if_T c h
      refine x_iconst F.1 (i := 8) rfl ic_1 ?_
      refine x_goto F.1 (i := 9) (tgt := 21) rfl (by decide) ?_
      exact x_zretf F (i := 11) rfl rfl (Or.inr rfl) h (res := (r, M')) hQ
set_option maxHeartbeats 4000000 in
theorem t_RM_isWell_l24 {w : kx_W} {d : Nat} {Q : Option Value → kx_M → Prop} {G : Nat → List (Option Value) → List Value → kx_M → Prop} (F : Sd w (d + 1) m_RM_isWell Q G) {res : Int32 × kx_M} (hQ : Q (some (.int res.1)) res.2) :
    ∀ (s0 : Nat) (s1 : Int32) (M : kx_M),
    f_RM_isWell_l24 s0 s1 M = some res → G 24 [some (.ref 135)] [.int s1, .ref 135] M := by
  intro s0 s1 M h
  rw [f_RM_isWell_l24] at h
  refine x_putI F.1 (i := 12) rfl fl_RM_32 pf_RM_faultAt rfl (by rfl) ?_
  replace h := bd_e h
  refine x_aload_n F.1 (i := 13) rfl rfl ?_
  refine x_getI F.1 (i := 14) rfl fl_RM_199 rfl (by rfl) ?_
  refine x_if_eq F.1 (i := 15) (tgt := 43) rfl (by decide) (fun c => ?_) (fun c => ?_)
  · replace h := if_T c h
    refine x_iconst F.1 (i := 20) rfl ic_1 ?_
    refine x_goto F.1 (i := 21) (tgt := 48) rfl (by decide) ?_
    exact x_zretf F (i := 23) rfl rfl (Or.inr rfl) h hQ
  · replace h := if_F c h
    refine x_aload_n F.1 (i := 16) rfl rfl ?_
    refine x_bipush F.1 (i := 17) rfl bp_10 ?_
    refine cal_e h (fun r1 M2 e2 h => ?_)
    refine x_cV1i F.1 (i := 18) rfl ml_RM_83 ok_RM_no rfl (Nat.le_of_ble_eq_true rfl) (Nat.le_of_ble_eq_true rfl) (fun _ => t_RM_no e2) ?_
    refine x_if_eq F.1 (i := 19) (tgt := 47) rfl (by decide) (fun c => ?_) (fun c => ?_)
    · replace h := if_T c h
      refine x_iconst F.1 (i := 22) rfl ic_0 ?_
      exact x_zretf F (i := 23) rfl rfl (Or.inl rfl) h hQ
    · replace h := if_F c h
      refine x_iconst F.1 (i := 20) rfl ic_1 ?_
      refine x_goto F.1 (i := 21) (tgt := 48) rfl (by decide) ?_
      exact x_zretf F (i := 23) rfl rfl (Or.inr rfl) h hQ
set_option maxHeartbeats 4000000 in
theorem t_RM_isWell {w : kx_W} {d : Nat} {M : kx_M} {Q : Option Value → kx_M → Prop} {r : Int32} {M' : kx_M} (h : f_RM_isWell M = some (r, M')) (hQ : Q (some (.int r)) M') : Ct w (d + 1) m_RM_isWell [.ref 135] M Q := by
  refine mk_ct ok_RM_isWell (Nat.le_of_ble_eq_true rfl) (fun G F => ?_)
  rw [f_RM_isWell] at h
  show G 0 [some (.ref 135)] [] M
  refine x_aload_n F.1 (i := 0) rfl rfl ?_
  refine x_aload_n F.1 (i := 1) rfl rfl ?_
  refine x_getI F.1 (i := 2) rfl fl_RM_199 rfl (by rfl) ?_
  refine x_putI F.1 (i := 3) rfl fl_RM_28 pf_RM_faultKind rfl (by rfl) ?_
  replace h := bd_e h
  refine x_aload_n F.1 (i := 4) rfl rfl ?_
  refine x_aload_n F.1 (i := 5) rfl rfl ?_
  refine x_getI F.1 (i := 6) rfl fl_RM_199 rfl (by rfl) ?_
  refine x_if_ne F.1 (i := 7) (tgt := 20) rfl (by decide) (fun c => ?_) (fun c => ?_)
  · replace h := if_F c h
    refine x_aload_n F.1 (i := 10) rfl rfl ?_
    refine x_getI F.1 (i := 11) rfl fl_RM_202 rfl (by rfl) ?_
    exact x_wk F.1 ((t_RM_isWell_l24 F (res := (r, M')) hQ) _ _ _ h) ⟨rfl, trivial⟩
  · replace h := if_T c h
    refine x_iconst F.1 (i := 8) rfl ic_n1 ?_
    refine x_goto F.1 (i := 9) (tgt := 24) rfl (by decide) ?_
    exact x_wk F.1 ((t_RM_isWell_l24 F (res := (r, M')) hQ) _ _ _ h) ⟨rfl, trivial⟩
set_option maxHeartbeats 4000000 in
theorem t_RM_copy_l41 {w : kx_W} {d : Nat} {Q : Option Value → kx_M → Prop} {G : Nat → List (Option Value) → List Value → kx_M → Prop} (F : Sd w d m_RM_copy Q G) {p1 : Int32} {p2 : Int32} {res : Unit × kx_M} (hQ : Q none res.2) :
    ∀ (n : Nat) (x3 : Int32) (M : kx_M),
    f_RM_copy_l41 p1 p2 n x3 M = some res → G 41 [some (.ref 135), some (.int p1), some (.int p2), some (.int x3)] [] M := by
  intro n
  induction n with
  | zero =>
    intro x3 M h
    exact absurd h (by rw [f_RM_copy_l41]; exact fun z => nomatch z)
  | succ n ih =>
    intro x3 M h
    rw [f_RM_copy_l41] at h
    refine x_iload_n F.1 (i := 25) rfl rfl ?_
    refine x_bipush F.1 (i := 26) rfl bp_10 ?_
    refine x_icmp_ge F.1 (i := 27) (tgt := 75) rfl (by decide) (fun c => ?_) (fun c => ?_)
    · replace h := if_T c h
      exact x_vretf F (i := 46) rfl rfl h hQ
    · replace h := if_F c h
      refine x_aload_n F.1 (i := 28) rfl rfl ?_
      refine x_getC F.1 (i := 29) rfl fl_RM_44 rfl (by rfl) ?_
      refine x_bipush F.1 (i := 30) rfl bp_10 ?_
      refine x_iload_n F.1 (i := 31) rfl rfl ?_
      refine x_imul F.1 (i := 32) rfl ?_
      refine x_iload_n F.1 (i := 33) rfl rfl ?_
      refine x_iadd F.1 (i := 34) rfl ?_
      refine x_aload_n F.1 (i := 35) rfl rfl ?_
      refine x_getC F.1 (i := 36) rfl fl_RM_44 rfl (by rfl) ?_
      refine x_bipush F.1 (i := 37) rfl bp_10 ?_
      refine x_iload_n F.1 (i := 38) rfl rfl ?_
      refine x_imul F.1 (i := 39) rfl ?_
      refine x_iload_n F.1 (i := 40) rfl rfl ?_
      refine x_iadd F.1 (i := 41) rfl ?_
      refine gd_e h (fun g1 h => ?_)
      refine x_lald F.1 (i := 42) rfl rfl (inb_e g1) ?_
      refine gd_e h (fun g2 h => ?_)
      refine x_last F.1 (i := 43) rfl rfl (inb_e g2) ?_
      replace h := bd_e h
      refine x_iinc F.1 (i := 44) rfl rfl rfl (Nat.le_of_ble_eq_true rfl) rfl ?_
      replace h := bd_e h
      refine x_goto F.1 (i := 45) (tgt := 41) rfl (by decide) ?_
      exact x_wk F.1 (ih _ _ h) ⟨rfl, rfl, rfl, rfl, trivial⟩
set_option maxHeartbeats 4000000 in
theorem t_RM_copy_l2 {w : kx_W} {d : Nat} {Q : Option Value → kx_M → Prop} {G : Nat → List (Option Value) → List Value → kx_M → Prop} (F : Sd w d m_RM_copy Q G) {p1 : Int32} {p2 : Int32} {res : Unit × kx_M} (hQ : Q none res.2) :
    ∀ (n : Nat) (x3 : Int32) (M : kx_M),
    f_RM_copy_l2 p1 p2 n x3 M = some res → G 2 [some (.ref 135), some (.int p1), some (.int p2), some (.int x3)] [] M := by
  intro n
  induction n with
  | zero =>
    intro x3 M h
    exact absurd h (by rw [f_RM_copy_l2]; exact fun z => nomatch z)
  | succ n ih =>
    intro x3 M h
    rw [f_RM_copy_l2] at h
    refine x_iload_n F.1 (i := 2) rfl rfl ?_
    refine x_sipush F.1 (i := 3) rfl sp_768 ?_
    refine x_icmp_ge F.1 (i := 4) (tgt := 39) rfl (by decide) (fun c => ?_) (fun c => ?_)
    · replace h := if_T c h
      refine x_iconst F.1 (i := 23) rfl ic_0 ?_
      refine x_istore_n F.1 (i := 24) rfl (Nat.le_of_ble_eq_true rfl) (Nat.le_of_ble_eq_true rfl) rfl ?_
      exact x_wk F.1 ((t_RM_copy_l41 F hQ FU) _ _ h) ⟨rfl, rfl, rfl, rfl, trivial⟩
    · replace h := if_F c h
      refine x_aload_n F.1 (i := 5) rfl rfl ?_
      refine x_getC F.1 (i := 6) rfl fl_RM_35 rfl (by rfl) ?_
      refine x_sipush F.1 (i := 7) rfl sp_768 ?_
      refine x_iload_n F.1 (i := 8) rfl rfl ?_
      refine x_imul F.1 (i := 9) rfl ?_
      refine x_iload_n F.1 (i := 10) rfl rfl ?_
      refine x_iadd F.1 (i := 11) rfl ?_
      refine x_aload_n F.1 (i := 12) rfl rfl ?_
      refine x_getC F.1 (i := 13) rfl fl_RM_35 rfl (by rfl) ?_
      refine x_sipush F.1 (i := 14) rfl sp_768 ?_
      refine x_iload_n F.1 (i := 15) rfl rfl ?_
      refine x_imul F.1 (i := 16) rfl ?_
      refine x_iload_n F.1 (i := 17) rfl rfl ?_
      refine x_iadd F.1 (i := 18) rfl ?_
      refine gd_e h (fun g1 h => ?_)
      refine x_iald F.1 (i := 19) rfl rfl (inb_e g1) ?_
      refine gd_e h (fun g2 h => ?_)
      refine x_iast F.1 (i := 20) rfl rfl (inb_e g2) ?_
      replace h := bd_e h
      refine x_iinc F.1 (i := 21) rfl rfl rfl (Nat.le_of_ble_eq_true rfl) rfl ?_
      replace h := bd_e h
      refine x_goto F.1 (i := 22) (tgt := 2) rfl (by decide) ?_
      exact x_wk F.1 (ih _ _ h) ⟨rfl, rfl, rfl, rfl, trivial⟩
set_option maxHeartbeats 4000000 in
theorem t_RM_copy {w : kx_W} {d : Nat} {M : kx_M} {Q : Option Value → kx_M → Prop} {p1 : Int32} {p2 : Int32} {r : Unit} {M' : kx_M} (h : f_RM_copy p1 p2 M = some (r, M')) (hQ : Q none M') : Ct w d m_RM_copy [.ref 135, .int p1, .int p2] M Q := by
  refine mk_ct ok_RM_copy (Nat.le_of_ble_eq_true rfl) (fun G F => ?_)
  rw [f_RM_copy] at h
  show G 0 [some (.ref 135), some (.int p1), some (.int p2), none] [] M
  refine x_iconst F.1 (i := 0) rfl ic_0 ?_
  refine x_istore_n F.1 (i := 1) rfl (Nat.le_of_ble_eq_true rfl) (Nat.le_of_ble_eq_true rfl) rfl ?_
  exact x_wk F.1 ((t_RM_copy_l2 F (res := (r, M')) hQ FU) _ _ h) ⟨rfl, rfl, rfl, rfl, trivial⟩
set_option maxHeartbeats 4000000 in
theorem t_RM_treaty_l105 {w : kx_W} {d : Nat} {Q : Option Value → kx_M → Prop} {G : Nat → List (Option Value) → List Value → kx_M → Prop} (F : Sd w (d + 8) m_RM_treaty Q G) {p1 : Int32} {res : Int32 × kx_M} (hQ : Q (some (.int res.1)) res.2) :
    ∀ (M : kx_M),
    f_RM_treaty_l105 p1 M = some res → G 105 [some (.ref 135), none, none] [] M := by
  intro M h
  rw [f_RM_treaty_l105] at h
  refine x_aload_n F.1 (i := 54) rfl rfl ?_
  refine cal_e h (fun r1 M1 e2 h => ?_)
  refine x_cV0i F.1 (i := 55) rfl ml_RM_282 ok_RM_isWell rfl (Nat.le_of_ble_eq_true rfl) (Nat.le_of_ble_eq_true rfl) (fun _ => t_RM_isWell e2) ?_
  refine x_if_ne F.1 (i := 56) (tgt := 114) rfl (by decide) (fun c => ?_) (fun c => ?_)
  · replace h := if_F c h
    refine x_aload_n F.1 (i := 59) rfl rfl ?_
    refine x_iconst F.1 (i := 60) rfl ic_4 ?_
    refine x_iconst F.1 (i := 61) rfl ic_0 ?_
    refine cal_e h (fun r3 M2 e4 h => ?_)
    refine x_cV2v F.1 (i := 62) rfl ml_RM_285 ok_RM_copy rfl (Nat.le_of_ble_eq_true rfl) (Nat.le_of_ble_eq_true rfl) (fun _ => t_RM_copy e4) ?_
    refine x_aload_n F.1 (i := 63) rfl rfl ?_
    refine x_getC F.1 (i := 64) rfl fl_RM_35 rfl (by rfl) ?_
    refine x_iconst F.1 (i := 65) rfl ic_4 ?_
    refine gd_e h (fun g5 h => ?_)
    refine x_iald F.1 (i := 66) rfl rfl (inb_e g5) ?_
    exact x_iretf F (i := 67) rfl rfl h hQ
  · replace h := if_T c h
    refine x_iconst F.1 (i := 57) rfl ic_n1 ?_
    exact x_iretf F (i := 58) rfl rfl h hQ
set_option maxHeartbeats 4000000 in
theorem t_RM_treaty_l74 {w : kx_W} {d : Nat} {Q : Option Value → kx_M → Prop} {G : Nat → List (Option Value) → List Value → kx_M → Prop} (F : Sd w (d + 8) m_RM_treaty Q G) {p1 : Int32} {res : Int32 × kx_M} (hQ : Q (some (.int res.1)) res.2) :
    ∀ (n : Nat) (M : kx_M),
    f_RM_treaty_l74 p1 n M = some res → G 74 [some (.ref 135), none, none] [] M := by
  intro n
  induction n with
  | zero =>
    intro M h
    exact absurd h (by rw [f_RM_treaty_l74]; exact fun z => nomatch z)
  | succ n ih =>
    intro M h
    rw [f_RM_treaty_l74] at h
    refine x_aload_n F.1 (i := 40) rfl rfl ?_
    refine x_getI F.1 (i := 41) rfl fl_RM_199 rfl (by rfl) ?_
    refine x_if_ne F.1 (i := 42) (tgt := 105) rfl (by decide) (fun c => ?_) (fun c => ?_)
    · replace h := if_F c h
      exact x_wk F.1 ((t_RM_treaty_l105 F hQ) _ h) ⟨rfl, trivial⟩
    · replace h := if_T c h
      refine x_aload_n F.1 (i := 43) rfl rfl ?_
      refine x_getI F.1 (i := 44) rfl fl_RM_119 rfl (by rfl) ?_
      refine x_if_eq F.1 (i := 45) (tgt := 105) rfl (by decide) (fun c => ?_) (fun c => ?_)
      · replace h := if_T c h
        exact x_wk F.1 ((t_RM_treaty_l105 F hQ) _ h) ⟨rfl, trivial⟩
      · replace h := if_F c h
        refine x_aload_n F.1 (i := 46) rfl rfl ?_
        refine cal_e h (fun r1 M1 e2 h => ?_)
        refine x_cV0v F.1 (i := 47) rfl ml_RM_276 ok_RM_readPart rfl (Nat.le_of_ble_eq_true rfl) (Nat.le_of_ble_eq_true rfl) (fun _ => t_RM_readPart e2) ?_
        refine x_aload_n F.1 (i := 48) rfl rfl ?_
        refine x_aload_n F.1 (i := 49) rfl rfl ?_
        refine x_bipush F.1 (i := 50) rfl bp_59 ?_
        refine cal_e h (fun r3 M2 e4 h => ?_)
        refine x_cV1i F.1 (i := 51) rfl ml_RM_279 ok_RM_isSign rfl (Nat.le_of_ble_eq_true rfl) (Nat.le_of_ble_eq_true rfl) (fun _ => t_RM_isSign e4) ?_
        refine cal_e h (fun r5 M3 e6 h => ?_)
        refine x_cV1v F.1 (i := 52) rfl ml_RM_234 ok_RM_must rfl (Nat.le_of_ble_eq_true rfl) (Nat.le_of_ble_eq_true rfl) (fun _ => t_RM_must e6) ?_
        refine x_goto F.1 (i := 53) (tgt := 74) rfl (by decide) ?_
        exact x_wk F.1 (ih _ h) ⟨rfl, trivial⟩
set_option maxHeartbeats 4000000 in
theorem t_RM_treaty_l25 {w : kx_W} {d : Nat} {Q : Option Value → kx_M → Prop} {G : Nat → List (Option Value) → List Value → kx_M → Prop} (F : Sd w (d + 8) m_RM_treaty Q G) {p1 : Int32} {res : Int32 × kx_M} (hQ : Q (some (.int res.1)) res.2) :
    ∀ (n : Nat) (x2 : Int32) (M : kx_M),
    f_RM_treaty_l25 p1 n x2 M = some res → G 25 [some (.ref 135), none, some (.int x2)] [] M := by
  intro n
  induction n with
  | zero =>
    intro x2 M h
    exact absurd h (by rw [f_RM_treaty_l25]; exact fun z => nomatch z)
  | succ n ih =>
    intro x2 M h
    rw [f_RM_treaty_l25] at h
    refine x_iload_n F.1 (i := 15) rfl rfl ?_
    refine x_sipush F.1 (i := 16) rfl sp_768 ?_
    refine x_icmp_ge F.1 (i := 17) (tgt := 49) rfl (by decide) (fun c => ?_) (fun c => ?_)
    · replace h := if_T c h
      refine x_aload_n F.1 (i := 27) rfl rfl ?_
      refine x_getC F.1 (i := 28) rfl fl_RM_35 rfl (by rfl) ?_
      refine x_sipush F.1 (i := 29) rfl sp_3072 ?_
      refine x_bipush F.1 (i := 30) rfl bp_6 ?_
      refine gd_e h (fun g1 h => ?_)
      refine x_iast F.1 (i := 31) rfl rfl (inb_e g1) ?_
      replace h := bd_e h
      refine x_aload_n F.1 (i := 32) rfl rfl ?_
      refine x_getC F.1 (i := 33) rfl fl_RM_35 rfl (by rfl) ?_
      refine x_sipush F.1 (i := 34) rfl sp_3073 ?_
      refine x_bipush F.1 (i := 35) rfl bp_20 ?_
      refine gd_e h (fun g2 h => ?_)
      refine x_iast F.1 (i := 36) rfl rfl (inb_e g2) ?_
      replace h := bd_e h
      refine x_aload_n F.1 (i := 37) rfl rfl ?_
      refine x_iconst F.1 (i := 38) rfl ic_0 ?_
      refine x_putI F.1 (i := 39) rfl fl_RM_238 pf_RM_toldOnce rfl (by rfl) ?_
      replace h := bd_e h
      exact x_wk F.1 ((t_RM_treaty_l74 F hQ FU) _ h) ⟨rfl, trivial⟩
    · replace h := if_F c h
      refine x_aload_n F.1 (i := 18) rfl rfl ?_
      refine x_getC F.1 (i := 19) rfl fl_RM_35 rfl (by rfl) ?_
      refine x_sipush F.1 (i := 20) rfl sp_3072 ?_
      refine x_iload_n F.1 (i := 21) rfl rfl ?_
      refine x_iadd F.1 (i := 22) rfl ?_
      refine x_iconst F.1 (i := 23) rfl ic_0 ?_
      refine gd_e h (fun g3 h => ?_)
      refine x_iast F.1 (i := 24) rfl rfl (inb_e g3) ?_
      replace h := bd_e h
      refine x_iinc F.1 (i := 25) rfl rfl rfl (Nat.le_of_ble_eq_true rfl) rfl ?_
      replace h := bd_e h
      refine x_goto F.1 (i := 26) (tgt := 25) rfl (by decide) ?_
      exact x_wk F.1 (ih _ _ h) ⟨rfl, rfl, trivial⟩
set_option maxHeartbeats 4000000 in
theorem t_RM_treaty {w : kx_W} {d : Nat} {M : kx_M} {Q : Option Value → kx_M → Prop} {p1 : Int32} {r : Int32} {M' : kx_M} (h : f_RM_treaty p1 M = some (r, M')) (hQ : Q (some (.int r)) M') : Ct w (d + 8) m_RM_treaty [.ref 135, .int p1] M Q := by
  refine mk_ct ok_RM_treaty (Nat.le_of_ble_eq_true rfl) (fun G F => ?_)
  rw [f_RM_treaty] at h
  show G 0 [some (.ref 135), some (.int p1), none] [] M
  refine x_aload_n F.1 (i := 0) rfl rfl ?_
  refine x_iconst F.1 (i := 1) rfl ic_0 ?_
  refine x_putI F.1 (i := 2) rfl fl_RM_68 pf_RM_thrown rfl (by rfl) ?_
  replace h := bd_e h
  refine x_aload_n F.1 (i := 3) rfl rfl ?_
  refine x_iconst F.1 (i := 4) rfl ic_0 ?_
  refine x_putI F.1 (i := 5) rfl fl_RM_71 pf_RM_status rfl (by rfl) ?_
  replace h := bd_e h
  refine x_aload_n F.1 (i := 6) rfl rfl ?_
  refine x_iload_n F.1 (i := 7) rfl rfl ?_
  refine x_sipush F.1 (i := 8) rfl sp_900 ?_
  refine cal_e h (fun r1 M3 e2 h => ?_)
  refine x_cV2i F.1 (i := 9) rfl ml_RM_273 ok_RM_starts rfl (Nat.le_of_ble_eq_true rfl) (Nat.le_of_ble_eq_true rfl) (fun _ => t_RM_starts e2) ?_
  refine x_if_ne F.1 (i := 10) (tgt := 23) rfl (by decide) (fun c => ?_) (fun c => ?_)
  · replace h := if_F c h
    refine x_iconst F.1 (i := 13) rfl ic_0 ?_
    refine x_istore_n F.1 (i := 14) rfl (Nat.le_of_ble_eq_true rfl) (Nat.le_of_ble_eq_true rfl) rfl ?_
    exact x_wk F.1 ((t_RM_treaty_l25 F (res := (r, M')) hQ FU) _ _ h) ⟨rfl, rfl, trivial⟩
  · replace h := if_T c h
    refine x_iconst F.1 (i := 11) rfl ic_n1 ?_
    exact x_iretf F (i := 12) rfl rfl h (res := (r, M')) hQ
set_option maxHeartbeats 4000000 in
theorem t_RM_readMany_l58 {w : kx_W} {d : Nat} {Q : Option Value → kx_M → Prop} {G : Nat → List (Option Value) → List Value → kx_M → Prop} (F : Sd w (d + 3) m_RM_readMany Q G) {p1 : Int32} {res : Unit × kx_M} (hQ : Q none res.2) :
    ∀ (s0 : Nat) (s1 : Int32) (M : kx_M),
    f_RM_readMany_l58 p1 s0 s1 M = some res → G 58 [some (.ref 135), some (.int p1)] [.int s1, .ref 135] M := by
  intro s0 s1 M h
  rw [f_RM_readMany_l58] at h
  refine cal_e h (fun r1 M1 e2 h => ?_)
  refine x_cV1v F.1 (i := 30) rfl ml_RM_234 ok_RM_must rfl (Nat.le_of_ble_eq_true rfl) (Nat.le_of_ble_eq_true rfl) (fun _ => t_RM_must e2) ?_
  refine x_aload_n F.1 (i := 31) rfl rfl ?_
  refine x_getC F.1 (i := 32) rfl fl_RM_35 rfl (by rfl) ?_
  refine x_iload_n F.1 (i := 33) rfl rfl ?_
  refine x_iconst F.1 (i := 34) rfl ic_1 ?_
  refine x_iadd F.1 (i := 35) rfl ?_
  refine x_aload_n F.1 (i := 36) rfl rfl ?_
  refine x_iconst F.1 (i := 37) rfl ic_0 ?_
  refine x_bipush F.1 (i := 38) rfl bp_99 ?_
  refine cal_e h (fun r3 M2 e4 h => ?_)
  refine x_cV2i F.1 (i := 39) rfl ml_RM_245 ok_RM_count rfl (Nat.le_of_ble_eq_true rfl) (Nat.le_of_ble_eq_true rfl) (fun _ => t_RM_count e4) ?_
  refine gd_e h (fun g5 h => ?_)
  refine x_iast F.1 (i := 40) rfl rfl (inb_e g5) ?_
  replace h := bd_e h
  exact x_vretf F (i := 41) rfl rfl h hQ
set_option maxHeartbeats 4000000 in
theorem t_RM_readMany_l24 {w : kx_W} {d : Nat} {Q : Option Value → kx_M → Prop} {G : Nat → List (Option Value) → List Value → kx_M → Prop} (F : Sd w (d + 3) m_RM_readMany Q G) {p1 : Int32} {res : Unit × kx_M} (hQ : Q none res.2) :
    ∀ (s0 : Nat) (s1 : Int32) (s2 : Int32) (M : kx_M),
    f_RM_readMany_l24 p1 s0 s1 s2 M = some res → G 24 [some (.ref 135), some (.int p1)] [.int s2, .int s1, .ref s0] M := by
  intro s0 s1 s2 M h
  rw [f_RM_readMany_l24] at h
  refine gd_e h (fun g1 h => ?_)
  obtain ⟨ng1, kg1, lg1, ig1⟩ := aIb_e g1
  refine x_iast F.1 (i := 13) rfl lg1 ig1 ?_
  replace h := bd_e h
  refine x_aload_n F.1 (i := 14) rfl rfl ?_
  refine x_aload_n F.1 (i := 15) rfl rfl ?_
  refine x_bipush F.1 (i := 16) rfl bp_60 ?_
  refine cal_e h (fun r2 M2 e3 h => ?_)
  refine x_cV1i F.1 (i := 17) rfl ml_RM_279 ok_RM_isSign rfl (Nat.le_of_ble_eq_true rfl) (Nat.le_of_ble_eq_true rfl) (fun _ => t_RM_isSign e3) ?_
  refine x_if_ne F.1 (i := 18) (tgt := 53) rfl (by decide) (fun c => ?_) (fun c => ?_)
  · replace h := if_F c h
    refine x_iconst F.1 (i := 27) rfl ic_1 ?_
    refine x_goto F.1 (i := 28) (tgt := 58) rfl (by decide) ?_
    exact x_wk F.1 ((t_RM_readMany_l58 F hQ) _ _ _ h) ⟨rfl, rfl, trivial⟩
  · replace h := if_T c h
    refine x_aload_n F.1 (i := 19) rfl rfl ?_
    refine x_bipush F.1 (i := 20) rfl bp_62 ?_
    refine cal_e h (fun r4 M3 e5 h => ?_)
    refine x_cV1i F.1 (i := 21) rfl ml_RM_279 ok_RM_isSign rfl (Nat.le_of_ble_eq_true rfl) (Nat.le_of_ble_eq_true rfl) (fun _ => t_RM_isSign e5) ?_
    refine x_if_ne F.1 (i := 22) (tgt := 53) rfl (by decide) (fun c => ?_) (fun c => ?_)
    · replace h := if_F c h
      refine x_iconst F.1 (i := 27) rfl ic_1 ?_
      refine x_goto F.1 (i := 28) (tgt := 58) rfl (by decide) ?_
      exact x_wk F.1 ((t_RM_readMany_l58 F hQ) _ _ _ h) ⟨rfl, rfl, trivial⟩
    · replace h := if_T c h
      refine x_aload_n F.1 (i := 23) rfl rfl ?_
      refine x_bipush F.1 (i := 24) rfl bp_61 ?_
      refine cal_e h (fun r6 M4 e7 h => ?_)
      refine x_cV1i F.1 (i := 25) rfl ml_RM_279 ok_RM_isSign rfl (Nat.le_of_ble_eq_true rfl) (Nat.le_of_ble_eq_true rfl) (fun _ => t_RM_isSign e7) ?_
      refine x_if_eq F.1 (i := 26) (tgt := 57) rfl (by decide) (fun c => ?_) (fun c => ?_)
      · replace h := if_T c h
        refine x_iconst F.1 (i := 29) rfl ic_0 ?_
        exact x_wk F.1 ((t_RM_readMany_l58 F hQ) _ _ _ h) ⟨rfl, rfl, trivial⟩
      · replace h := if_F c h
        refine x_iconst F.1 (i := 27) rfl ic_1 ?_
        refine x_goto F.1 (i := 28) (tgt := 58) rfl (by decide) ?_
        exact x_wk F.1 ((t_RM_readMany_l58 F hQ) _ _ _ h) ⟨rfl, rfl, trivial⟩
set_option maxHeartbeats 4000000 in
theorem t_RM_readMany {w : kx_W} {d : Nat} {M : kx_M} {Q : Option Value → kx_M → Prop} {p1 : Int32} {r : Unit} {M' : kx_M} (h : f_RM_readMany p1 M = some (r, M')) (hQ : Q none M') : Ct w (d + 3) m_RM_readMany [.ref 135, .int p1] M Q := by
  refine mk_ct ok_RM_readMany (Nat.le_of_ble_eq_true rfl) (fun G F => ?_)
  rw [f_RM_readMany] at h
  show G 0 [some (.ref 135), some (.int p1)] [] M
  refine x_aload_n F.1 (i := 0) rfl rfl ?_
  refine x_getC F.1 (i := 1) rfl fl_RM_35 rfl (by rfl) ?_
  refine x_iload_n F.1 (i := 2) rfl rfl ?_
  refine x_bipush F.1 (i := 3) rfl bp_7 ?_
  refine x_iadd F.1 (i := 4) rfl ?_
  refine x_aload_n F.1 (i := 5) rfl rfl ?_
  refine x_getI F.1 (i := 6) rfl fl_RM_119 rfl (by rfl) ?_
  refine x_iconst F.1 (i := 7) rfl ic_3 ?_
  refine x_icmp_ne F.1 (i := 8) (tgt := 23) rfl (by decide) (fun c => ?_) (fun c => ?_)
  · replace h := if_F c h
    refine x_iconst F.1 (i := 12) rfl ic_0 ?_
    exact x_wk F.1 ((t_RM_readMany_l24 F (res := (r, M')) hQ) _ _ _ _ h) ⟨rfl, rfl, trivial⟩
  · replace h := if_T c h
    refine x_aload_n F.1 (i := 9) rfl rfl ?_
    refine x_getI F.1 (i := 10) rfl fl_RM_138 rfl (by rfl) ?_
    refine x_goto F.1 (i := 11) (tgt := 24) rfl (by decide) ?_
    exact x_wk F.1 ((t_RM_readMany_l24 F (res := (r, M')) hQ) _ _ _ _ h) ⟨rfl, rfl, trivial⟩
