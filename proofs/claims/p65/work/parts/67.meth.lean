set_option maxHeartbeats 4000000 in
theorem t_LW_load_l17 {w : kx_W} {d : Nat} {Q : Option Value → kx_M → Prop} {G : Nat → List (Option Value) → List Value → kx_M → Prop} (F : Sd w (d + 7) m_LW_load Q G) {res : Int32 × kx_M} (hQ : Q (some (.int res.1)) res.2) :
    ∀ (x2 : Int32) (M : kx_M),
    f_LW_load_l17 x2 M = some res → G 17 [some (.ref 0), some (.ref 135), some (.int x2)] [] M := by
  intro x2 M h
  rw [f_LW_load_l17] at h
  refine x_aload_n F.1 (i := 11) rfl rfl ?_
  refine x_bipush F.1 (i := 12) rfl bp_21 ?_
  refine x_iconst F.1 (i := 13) rfl ic_0 ?_
  refine gd_e h (fun g1 h => ?_)
  refine x_iast F.1 (i := 14) rfl rfl (inb_e g1) ?_
  replace h := bd_e h
  refine x_aload_n F.1 (i := 15) rfl rfl ?_
  refine x_bipush F.1 (i := 16) rfl bp_22 ?_
  refine gd_e h (fun g2 h => ?_)
  refine x_iald F.1 (i := 17) rfl rfl (inb_e g2) ?_
  refine x_if_ne F.1 (i := 18) (tgt := 37) rfl (by decide) (fun c => ?_) (fun c => ?_)
  · replace h := if_F c h
    refine x_aload_n F.1 (i := 23) rfl rfl ?_
    refine x_iload_n F.1 (i := 24) rfl rfl ?_
    refine cal_e h (fun r5 M3 e6 h => ?_)
    refine x_cV1i F.1 (i := 25) rfl ml_LW_40 ok_KT_centuries rfl (Nat.le_of_ble_eq_true rfl) (Nat.le_of_ble_eq_true rfl) (fun _ => t_KT_centuries e6) ?_
    exact x_iretf F (i := 26) rfl rfl h hQ
  · replace h := if_T c h
    refine x_aload_n F.1 (i := 19) rfl rfl ?_
    refine x_iload_n F.1 (i := 20) rfl rfl ?_
    refine cal_e h (fun r3 M2 e4 h => ?_)
    refine x_cV1i F.1 (i := 21) rfl ml_LW_36 ok_KT_treaty rfl (Nat.le_of_ble_eq_true rfl) (Nat.le_of_ble_eq_true rfl) (fun _ => t_KT_treaty e4) ?_
    refine x_goto F.1 (i := 22) (tgt := 42) rfl (by decide) ?_
    exact x_iretf F (i := 26) rfl rfl h hQ
set_option maxHeartbeats 4000000 in
theorem t_LW_load {w : kx_W} {d : Nat} {M : kx_M} {Q : Option Value → kx_M → Prop} {r : Int32} {M' : kx_M} (h : f_LW_load M = some (r, M')) (hQ : Q (some (.int r)) M') : Ct w (d + 7) m_LW_load [.ref 0, .ref 135] M Q := by
  refine mk_ct ok_LW_load (Nat.le_of_ble_eq_true rfl) (fun G F => ?_)
  rw [f_LW_load] at h
  show G 0 [some (.ref 0), some (.ref 135), none] [] M
  refine x_aload_n F.1 (i := 0) rfl rfl ?_
  refine x_bipush F.1 (i := 1) rfl bp_21 ?_
  refine gd_e h (fun g1 h => ?_)
  refine x_iald F.1 (i := 2) rfl rfl (inb_e g1) ?_
  refine x_istore_n F.1 (i := 3) rfl (Nat.le_of_ble_eq_true rfl) (Nat.le_of_ble_eq_true rfl) rfl ?_
  replace h := bd_e h
  refine x_aload_n F.1 (i := 4) rfl rfl ?_
  refine x_bipush F.1 (i := 5) rfl bp_20 ?_
  refine gd_e h (fun g3 h => ?_)
  refine x_iald F.1 (i := 6) rfl rfl (inb_e g3) ?_
  refine x_if_le F.1 (i := 7) (tgt := 17) rfl (by decide) (fun c => ?_) (fun c => ?_)
  · replace h := if_T c h
    exact x_wk F.1 ((t_LW_load_l17 F (res := (r, M')) hQ) _ _ h) ⟨rfl, rfl, rfl, trivial⟩
  · replace h := if_F c h
    refine x_aload_n F.1 (i := 8) rfl rfl ?_
    refine x_aload_n F.1 (i := 9) rfl rfl ?_
    refine cal_e h (fun r4 M1 e5 h => ?_)
    refine x_cS2v F.1 (i := 10) rfl ml_LW_7 ok_LW_feed (Nat.le_of_ble_eq_true rfl) (Nat.le_of_ble_eq_true rfl) (fun _ => t_LW_feed e5) ?_
    exact x_wk F.1 ((t_LW_load_l17 F (res := (r, M')) hQ) _ _ h) ⟨rfl, rfl, rfl, trivial⟩
set_option maxHeartbeats 4000000 in
theorem t_LW_lay_l447 {w : kx_W} {d : Nat} {Q : Option Value → kx_M → Prop} {G : Nat → List (Option Value) → List Value → kx_M → Prop} (F : Sd w (d + 8) m_LW_lay Q G) {k390 : Int32 → Int32 → kx_M → Option (Int32 × kx_M)} {res : Int32 × kx_M} (hQ : Q (some (.int res.1)) res.2) (hk390 : ∀ (x3 : Int32) (x4 : Int32) (M : kx_M), k390 x3 x4 M = some res → G 390 [some (.ref 0), some (.ref 135), some (.ref 136), some (.int x3), some (.int x4), none] [] M) :
    ∀ (x3 : Int32) (x4 : Int32) (x5 : Int32) (M : kx_M),
    f_LW_lay_l447 k390 x3 x4 x5 M = some res → G 447 [some (.ref 0), some (.ref 135), some (.ref 136), some (.int x3), some (.int x4), some (.int x5)] [] M := by
  intro x3 x4 x5 M h
  rw [f_LW_lay_l447] at h
  refine x_aload_n F.1 (i := 281) rfl rfl ?_
  refine x_aload_n F.1 (i := 282) rfl rfl ?_
  refine x_aload_n F.1 (i := 283) rfl rfl ?_
  refine x_bipush F.1 (i := 284) rfl bp_37 ?_
  refine x_iconst F.1 (i := 285) rfl ic_5 ?_
  refine x_iload_n F.1 (i := 286) rfl rfl ?_
  refine x_imul F.1 (i := 287) rfl ?_
  refine x_iadd F.1 (i := 288) rfl ?_
  refine x_iload F.1 (i := 289) rfl rfl ?_
  refine x_iadd F.1 (i := 290) rfl ?_
  refine gd_e h (fun g1 h => ?_)
  refine x_iald F.1 (i := 291) rfl rfl (inb_e g1) ?_
  refine cal_e h (fun r2 M1 e3 h => ?_)
  refine x_cS3v F.1 (i := 292) rfl ml_LW_76 ok_LW_kind (Nat.le_of_ble_eq_true rfl) (Nat.le_of_ble_eq_true rfl) (fun _ => t_LW_kind e3) ?_
  refine x_iload F.1 (i := 293) rfl rfl ?_
  refine x_iconst F.1 (i := 294) rfl ic_1 ?_
  refine x_icmp_le F.1 (i := 295) (tgt := 476) rfl (by decide) (fun c => ?_) (fun c => ?_)
  · replace h := if_T c h
    refine x_iinc F.1 (i := 300) rfl rfl rfl (Nat.le_of_ble_eq_true rfl) rfl ?_
    replace h := bd_e h
    refine x_goto F.1 (i := 301) (tgt := 390) rfl (by decide) ?_
    exact x_wk F.1 (hk390 _ _ _ h) ⟨rfl, rfl, rfl, rfl, rfl, trivial⟩
  · replace h := if_F c h
    refine x_aload_n F.1 (i := 296) rfl rfl ?_
    refine x_aload_n F.1 (i := 297) rfl rfl ?_
    refine x_iload F.1 (i := 298) rfl rfl ?_
    refine cal_e h (fun r5 M2 e6 h => ?_)
    refine x_cS3v F.1 (i := 299) rfl ml_LW_57 ok_LW_number (Nat.le_of_ble_eq_true rfl) (Nat.le_of_ble_eq_true rfl) (fun _ => t_LW_number e6) ?_
    refine x_iinc F.1 (i := 300) rfl rfl rfl (Nat.le_of_ble_eq_true rfl) rfl ?_
    replace h := bd_e h
    refine x_goto F.1 (i := 301) (tgt := 390) rfl (by decide) ?_
    exact x_wk F.1 (hk390 _ _ _ h) ⟨rfl, rfl, rfl, rfl, rfl, trivial⟩
set_option maxHeartbeats 4000000 in
theorem t_LW_lay_l401 {w : kx_W} {d : Nat} {Q : Option Value → kx_M → Prop} {G : Nat → List (Option Value) → List Value → kx_M → Prop} (F : Sd w (d + 8) m_LW_lay Q G) {k390 : Int32 → Int32 → kx_M → Option (Int32 × kx_M)} {res : Int32 × kx_M} (hQ : Q (some (.int res.1)) res.2) (hk390 : ∀ (x3 : Int32) (x4 : Int32) (M : kx_M), k390 x3 x4 M = some res → G 390 [some (.ref 0), some (.ref 135), some (.ref 136), some (.int x3), some (.int x4), none] [] M) :
    ∀ (n : Nat) (x3 : Int32) (x4 : Int32) (x5 : Int32) (M : kx_M),
    f_LW_lay_l401 k390 n x3 x4 x5 M = some res → G 401 [some (.ref 0), some (.ref 135), some (.ref 136), some (.int x3), some (.int x4), some (.int x5)] [] M := by
  intro n
  induction n with
  | zero =>
    intro x3 x4 x5 M h
    exact absurd h (by rw [f_LW_lay_l401]; exact fun z => nomatch z)
  | succ n ih =>
    intro x3 x4 x5 M h
    rw [f_LW_lay_l401] at h
    refine x_iload F.1 (i := 250) rfl rfl ?_
    refine x_iconst F.1 (i := 251) rfl ic_1 ?_
    refine x_iadd F.1 (i := 252) rfl ?_
    refine x_aload_n F.1 (i := 253) rfl rfl ?_
    refine x_iconst F.1 (i := 254) rfl ic_0 ?_
    refine gd_e h (fun g1 h => ?_)
    refine x_iald F.1 (i := 255) rfl rfl (inb_e g1) ?_
    refine x_icmp_ge F.1 (i := 256) (tgt := 447) rfl (by decide) (fun c => ?_) (fun c => ?_)
    · replace h := if_T c h
      exact x_wk F.1 ((t_LW_lay_l447 F hQ hk390) _ _ _ _ h) ⟨rfl, rfl, rfl, rfl, rfl, rfl, trivial⟩
    · replace h := if_F c h
      refine x_aload_n F.1 (i := 257) rfl rfl ?_
      refine x_bipush F.1 (i := 258) rfl bp_37 ?_
      refine x_iconst F.1 (i := 259) rfl ic_5 ?_
      refine x_iload_n F.1 (i := 260) rfl rfl ?_
      refine x_imul F.1 (i := 261) rfl ?_
      refine x_iadd F.1 (i := 262) rfl ?_
      refine x_iload F.1 (i := 263) rfl rfl ?_
      refine x_iadd F.1 (i := 264) rfl ?_
      refine x_iconst F.1 (i := 265) rfl ic_1 ?_
      refine x_iadd F.1 (i := 266) rfl ?_
      refine gd_e h (fun g2 h => ?_)
      refine x_iald F.1 (i := 267) rfl rfl (inb_e g2) ?_
      refine x_aload_n F.1 (i := 268) rfl rfl ?_
      refine x_bipush F.1 (i := 269) rfl bp_37 ?_
      refine x_iconst F.1 (i := 270) rfl ic_5 ?_
      refine x_iload_n F.1 (i := 271) rfl rfl ?_
      refine x_imul F.1 (i := 272) rfl ?_
      refine x_iadd F.1 (i := 273) rfl ?_
      refine x_iload F.1 (i := 274) rfl rfl ?_
      refine x_iadd F.1 (i := 275) rfl ?_
      refine gd_e h (fun g3 h => ?_)
      refine x_iald F.1 (i := 276) rfl rfl (inb_e g3) ?_
      refine x_icmp_ne F.1 (i := 277) (tgt := 447) rfl (by decide) (fun c => ?_) (fun c => ?_)
      · replace h := if_F c h
        exact x_wk F.1 ((t_LW_lay_l447 F hQ hk390) _ _ _ _ h) ⟨rfl, rfl, rfl, rfl, rfl, rfl, trivial⟩
      · replace h := if_T c h
        refine x_iinc F.1 (i := 278) rfl rfl rfl (Nat.le_of_ble_eq_true rfl) rfl ?_
        replace h := bd_e h
        refine x_iinc F.1 (i := 279) rfl rfl rfl (Nat.le_of_ble_eq_true rfl) rfl ?_
        replace h := bd_e h
        refine x_goto F.1 (i := 280) (tgt := 401) rfl (by decide) ?_
        exact x_wk F.1 (ih _ _ _ _ h) ⟨rfl, rfl, rfl, rfl, rfl, rfl, trivial⟩
set_option maxHeartbeats 4000000 in
theorem t_LW_lay_l390 {w : kx_W} {d : Nat} {Q : Option Value → kx_M → Prop} {G : Nat → List (Option Value) → List Value → kx_M → Prop} (F : Sd w (d + 8) m_LW_lay Q G) {k360 : Int32 → kx_M → Option (Int32 × kx_M)} {res : Int32 × kx_M} (hQ : Q (some (.int res.1)) res.2) (hk360 : ∀ (x3 : Int32) (M : kx_M), k360 x3 M = some res → G 360 [some (.ref 0), some (.ref 135), some (.ref 136), some (.int x3), none, none] [] M) :
    ∀ (n : Nat) (x3 : Int32) (x4 : Int32) (M : kx_M),
    f_LW_lay_l390 k360 n x3 x4 M = some res → G 390 [some (.ref 0), some (.ref 135), some (.ref 136), some (.int x3), some (.int x4), none] [] M := by
  intro n
  induction n with
  | zero =>
    intro x3 x4 M h
    exact absurd h (by rw [f_LW_lay_l390]; exact fun z => nomatch z)
  | succ n ih =>
    intro x3 x4 M h
    rw [f_LW_lay_l390] at h
    refine x_iload F.1 (i := 243) rfl rfl ?_
    refine x_aload_n F.1 (i := 244) rfl rfl ?_
    refine x_iconst F.1 (i := 245) rfl ic_0 ?_
    refine gd_e h (fun g1 h => ?_)
    refine x_iald F.1 (i := 246) rfl rfl (inb_e g1) ?_
    refine x_icmp_ge F.1 (i := 247) (tgt := 482) rfl (by decide) (fun c => ?_) (fun c => ?_)
    · replace h := if_T c h
      refine x_aload_n F.1 (i := 302) rfl rfl ?_
      refine x_aload_n F.1 (i := 303) rfl rfl ?_
      refine x_ldcS F.1 (i := 304) (j := 2) rfl (by decide) rfl ?_
      refine cal_e h (fun r2 M1 e3 h => ?_)
      refine x_cS3v F.1 (i := 305) rfl ml_LW_51 ok_LW_say (Nat.le_of_ble_eq_true rfl) (Nat.le_of_ble_eq_true rfl) (fun _ => t_LW_say e3) ?_
      refine x_iinc F.1 (i := 306) rfl rfl rfl (Nat.le_of_ble_eq_true rfl) rfl ?_
      replace h := bd_e h
      refine x_goto F.1 (i := 307) (tgt := 360) rfl (by decide) ?_
      exact x_wk F.1 (hk360 _ _ h) ⟨rfl, rfl, rfl, rfl, trivial⟩
    · replace h := if_F c h
      refine x_iconst F.1 (i := 248) rfl ic_1 ?_
      refine x_istore F.1 (i := 249) rfl (Nat.le_of_ble_eq_true rfl) (Nat.le_of_ble_eq_true rfl) rfl ?_
      exact x_wk F.1 ((t_LW_lay_l401 F hQ ih FU) _ _ _ _ h) ⟨rfl, rfl, rfl, rfl, rfl, rfl, trivial⟩
set_option maxHeartbeats 4000000 in
theorem t_LW_lay_l360 {w : kx_W} {d : Nat} {Q : Option Value → kx_M → Prop} {G : Nat → List (Option Value) → List Value → kx_M → Prop} (F : Sd w (d + 8) m_LW_lay Q G) {res : Int32 × kx_M} (hQ : Q (some (.int res.1)) res.2) :
    ∀ (n : Nat) (x3 : Int32) (M : kx_M),
    f_LW_lay_l360 n x3 M = some res → G 360 [some (.ref 0), some (.ref 135), some (.ref 136), some (.int x3), none, none] [] M := by
  intro n
  induction n with
  | zero =>
    intro x3 M h
    exact absurd h (by rw [f_LW_lay_l360]; exact fun z => nomatch z)
  | succ n ih =>
    intro x3 M h
    rw [f_LW_lay_l360] at h
    refine x_iload_n F.1 (i := 223) rfl rfl ?_
    refine x_aload_n F.1 (i := 224) rfl rfl ?_
    refine x_iconst F.1 (i := 225) rfl ic_4 ?_
    refine gd_e h (fun g1 h => ?_)
    refine x_iald F.1 (i := 226) rfl rfl (inb_e g1) ?_
    refine x_icmp_ge F.1 (i := 227) (tgt := 495) rfl (by decide) (fun c => ?_) (fun c => ?_)
    · replace h := if_T c h
      refine x_aload_n F.1 (i := 308) rfl rfl ?_
      refine x_aload_n F.1 (i := 309) rfl rfl ?_
      refine cal_e h (fun r2 M1 e3 h => ?_)
      refine x_cS2i F.1 (i := 310) rfl ml_LW_87 ok_LW_load (Nat.le_of_ble_eq_true rfl) (Nat.le_of_ble_eq_true rfl) (fun _ => t_LW_load e3) ?_
      refine x_aload_n F.1 (i := 311) rfl rfl ?_
      refine x_iconst F.1 (i := 312) rfl ic_4 ?_
      refine gd_e h (fun g4 h => ?_)
      refine x_iald F.1 (i := 313) rfl rfl (inb_e g4) ?_
      refine x_icmp_ne F.1 (i := 314) (tgt := 510) rfl (by decide) (fun c => ?_) (fun c => ?_)
      · replace h := if_F c h
        refine x_iconst F.1 (i := 317) rfl ic_0 ?_
        exact x_zretf F (i := 318) rfl rfl (Or.inl rfl) h hQ
      · replace h := if_T c h
        refine x_iconst F.1 (i := 315) rfl ic_1 ?_
        refine x_goto F.1 (i := 316) (tgt := 511) rfl (by decide) ?_
        exact x_zretf F (i := 318) rfl rfl (Or.inr rfl) h hQ
    · replace h := if_F c h
      refine x_aload_n F.1 (i := 228) rfl rfl ?_
      refine x_aload_n F.1 (i := 229) rfl rfl ?_
      refine x_ldcS F.1 (i := 230) (j := 14) rfl (by decide) rfl ?_
      refine cal_e h (fun r5 M2 e6 h => ?_)
      refine x_cS3v F.1 (i := 231) rfl ml_LW_51 ok_LW_say (Nat.le_of_ble_eq_true rfl) (Nat.le_of_ble_eq_true rfl) (fun _ => t_LW_say e6) ?_
      refine x_aload_n F.1 (i := 232) rfl rfl ?_
      refine x_aload_n F.1 (i := 233) rfl rfl ?_
      refine x_bipush F.1 (i := 234) rfl bp_113 ?_
      refine x_aload_n F.1 (i := 235) rfl rfl ?_
      refine x_bipush F.1 (i := 236) rfl bp_34 ?_
      refine x_iload_n F.1 (i := 237) rfl rfl ?_
      refine x_iadd F.1 (i := 238) rfl ?_
      refine gd_e h (fun g7 h => ?_)
      refine x_iald F.1 (i := 239) rfl rfl (inb_e g7) ?_
      refine cal_e h (fun r8 M3 e9 h => ?_)
      refine x_cS4v F.1 (i := 240) rfl ml_LW_66 ok_LW_name (Nat.le_of_ble_eq_true rfl) (Nat.le_of_ble_eq_true rfl) (fun _ => t_LW_name e9) ?_
      refine x_iconst F.1 (i := 241) rfl ic_0 ?_
      refine x_istore F.1 (i := 242) rfl (Nat.le_of_ble_eq_true rfl) (Nat.le_of_ble_eq_true rfl) rfl ?_
      exact x_wk F.1 ((t_LW_lay_l390 F hQ ih FU) _ _ _ h) ⟨rfl, rfl, rfl, rfl, rfl, trivial⟩
set_option maxHeartbeats 4000000 in
theorem t_LW_lay_l251 {w : kx_W} {d : Nat} {Q : Option Value → kx_M → Prop} {G : Nat → List (Option Value) → List Value → kx_M → Prop} (F : Sd w (d + 8) m_LW_lay Q G) {k178 : Int32 → kx_M → Option (Int32 × kx_M)} {res : Int32 × kx_M} (hQ : Q (some (.int res.1)) res.2) (hk178 : ∀ (x3 : Int32) (M : kx_M), k178 x3 M = some res → G 178 [some (.ref 0), some (.ref 135), some (.ref 136), some (.int x3), none, none] [] M) :
    ∀ (n : Nat) (x3 : Int32) (x4 : Int32) (M : kx_M),
    f_LW_lay_l251 k178 n x3 x4 M = some res → G 251 [some (.ref 0), some (.ref 135), some (.ref 136), some (.int x3), some (.int x4), none] [] M := by
  intro n
  induction n with
  | zero =>
    intro x3 x4 M h
    exact absurd h (by rw [f_LW_lay_l251]; exact fun z => nomatch z)
  | succ n ih =>
    intro x3 x4 M h
    rw [f_LW_lay_l251] at h
    refine x_iload F.1 (i := 156) rfl rfl ?_
    refine x_aload_n F.1 (i := 157) rfl rfl ?_
    refine x_iconst F.1 (i := 158) rfl ic_2 ?_
    refine gd_e h (fun g1 h => ?_)
    refine x_iald F.1 (i := 159) rfl rfl (inb_e g1) ?_
    refine x_icmp_ge F.1 (i := 160) (tgt := 352) rfl (by decide) (fun c => ?_) (fun c => ?_)
    · replace h := if_T c h
      refine x_iinc F.1 (i := 219) rfl rfl rfl (Nat.le_of_ble_eq_true rfl) rfl ?_
      replace h := bd_e h
      refine x_goto F.1 (i := 220) (tgt := 178) rfl (by decide) ?_
      exact x_wk F.1 (hk178 _ _ h) ⟨rfl, rfl, rfl, rfl, trivial⟩
    · replace h := if_F c h
      refine x_aload_n F.1 (i := 161) rfl rfl ?_
      refine x_aload_n F.1 (i := 162) rfl rfl ?_
      refine x_ldcS F.1 (i := 163) (j := 12) rfl (by decide) rfl ?_
      refine cal_e h (fun r3 M1 e4 h => ?_)
      refine x_cS3v F.1 (i := 164) rfl ml_LW_51 ok_LW_say (Nat.le_of_ble_eq_true rfl) (Nat.le_of_ble_eq_true rfl) (fun _ => t_LW_say e4) ?_
      refine x_aload_n F.1 (i := 165) rfl rfl ?_
      refine x_aload_n F.1 (i := 166) rfl rfl ?_
      refine x_bipush F.1 (i := 167) rfl bp_113 ?_
      refine x_iload F.1 (i := 168) rfl rfl ?_
      refine cal_e h (fun r5 M2 e6 h => ?_)
      refine x_cS4v F.1 (i := 169) rfl ml_LW_66 ok_LW_name (Nat.le_of_ble_eq_true rfl) (Nat.le_of_ble_eq_true rfl) (fun _ => t_LW_name e6) ?_
      refine x_aload_n F.1 (i := 170) rfl rfl ?_
      refine x_aload_n F.1 (i := 171) rfl rfl ?_
      refine x_bipush F.1 (i := 172) rfl bp_99 ?_
      refine x_iload_n F.1 (i := 173) rfl rfl ?_
      refine cal_e h (fun r7 M3 e8 h => ?_)
      refine x_cS4v F.1 (i := 174) rfl ml_LW_66 ok_LW_name (Nat.le_of_ble_eq_true rfl) (Nat.le_of_ble_eq_true rfl) (fun _ => t_LW_name e8) ?_
      refine x_aload_n F.1 (i := 175) rfl rfl ?_
      refine x_aload_n F.1 (i := 176) rfl rfl ?_
      refine x_aload_n F.1 (i := 177) rfl rfl ?_
      refine x_bipush F.1 (i := 178) rfl bp_22 ?_
      refine x_iconst F.1 (i := 179) rfl ic_3 ?_
      refine x_iload F.1 (i := 180) rfl rfl ?_
      refine x_imul F.1 (i := 181) rfl ?_
      refine x_iadd F.1 (i := 182) rfl ?_
      refine x_iload_n F.1 (i := 183) rfl rfl ?_
      refine x_iadd F.1 (i := 184) rfl ?_
      refine gd_e h (fun g9 h => ?_)
      refine x_iald F.1 (i := 185) rfl rfl (inb_e g9) ?_
      refine cal_e h (fun r10 M4 e11 h => ?_)
      refine x_cS3v F.1 (i := 186) rfl ml_LW_57 ok_LW_number (Nat.le_of_ble_eq_true rfl) (Nat.le_of_ble_eq_true rfl) (fun _ => t_LW_number e11) ?_
      refine x_aload_n F.1 (i := 187) rfl rfl ?_
      refine x_aload_n F.1 (i := 188) rfl rfl ?_
      refine x_ldcS F.1 (i := 189) (j := 13) rfl (by decide) rfl ?_
      refine cal_e h (fun r12 M5 e13 h => ?_)
      refine x_cS3v F.1 (i := 190) rfl ml_LW_51 ok_LW_say (Nat.le_of_ble_eq_true rfl) (Nat.le_of_ble_eq_true rfl) (fun _ => t_LW_say e13) ?_
      refine x_aload_n F.1 (i := 191) rfl rfl ?_
      refine x_aload_n F.1 (i := 192) rfl rfl ?_
      refine x_bipush F.1 (i := 193) rfl bp_113 ?_
      refine x_iload F.1 (i := 194) rfl rfl ?_
      refine cal_e h (fun r14 M6 e15 h => ?_)
      refine x_cS4v F.1 (i := 195) rfl ml_LW_66 ok_LW_name (Nat.le_of_ble_eq_true rfl) (Nat.le_of_ble_eq_true rfl) (fun _ => t_LW_name e15) ?_
      refine x_aload_n F.1 (i := 196) rfl rfl ?_
      refine x_aload_n F.1 (i := 197) rfl rfl ?_
      refine x_bipush F.1 (i := 198) rfl bp_99 ?_
      refine x_iload_n F.1 (i := 199) rfl rfl ?_
      refine cal_e h (fun r16 M7 e17 h => ?_)
      refine x_cS4v F.1 (i := 200) rfl ml_LW_66 ok_LW_name (Nat.le_of_ble_eq_true rfl) (Nat.le_of_ble_eq_true rfl) (fun _ => t_LW_name e17) ?_
      refine x_aload_n F.1 (i := 201) rfl rfl ?_
      refine x_aload_n F.1 (i := 202) rfl rfl ?_
      refine x_aload_n F.1 (i := 203) rfl rfl ?_
      refine x_bipush F.1 (i := 204) rfl bp_28 ?_
      refine x_iconst F.1 (i := 205) rfl ic_3 ?_
      refine x_iload F.1 (i := 206) rfl rfl ?_
      refine x_imul F.1 (i := 207) rfl ?_
      refine x_iadd F.1 (i := 208) rfl ?_
      refine x_iload_n F.1 (i := 209) rfl rfl ?_
      refine x_iadd F.1 (i := 210) rfl ?_
      refine gd_e h (fun g18 h => ?_)
      refine x_iald F.1 (i := 211) rfl rfl (inb_e g18) ?_
      refine cal_e h (fun r19 M8 e20 h => ?_)
      refine x_cS3v F.1 (i := 212) rfl ml_LW_57 ok_LW_number (Nat.le_of_ble_eq_true rfl) (Nat.le_of_ble_eq_true rfl) (fun _ => t_LW_number e20) ?_
      refine x_aload_n F.1 (i := 213) rfl rfl ?_
      refine x_aload_n F.1 (i := 214) rfl rfl ?_
      refine x_ldcS F.1 (i := 215) (j := 2) rfl (by decide) rfl ?_
      refine cal_e h (fun r21 M9 e22 h => ?_)
      refine x_cS3v F.1 (i := 216) rfl ml_LW_51 ok_LW_say (Nat.le_of_ble_eq_true rfl) (Nat.le_of_ble_eq_true rfl) (fun _ => t_LW_say e22) ?_
      refine x_iinc F.1 (i := 217) rfl rfl rfl (Nat.le_of_ble_eq_true rfl) rfl ?_
      replace h := bd_e h
      refine x_goto F.1 (i := 218) (tgt := 251) rfl (by decide) ?_
      exact x_wk F.1 (ih _ _ _ h) ⟨rfl, rfl, rfl, rfl, rfl, trivial⟩
set_option maxHeartbeats 4000000 in
theorem t_LW_lay_l188 {w : kx_W} {d : Nat} {Q : Option Value → kx_M → Prop} {G : Nat → List (Option Value) → List Value → kx_M → Prop} (F : Sd w (d + 8) m_LW_lay Q G) {k178 : Int32 → kx_M → Option (Int32 × kx_M)} {res : Int32 × kx_M} (hQ : Q (some (.int res.1)) res.2) (hk178 : ∀ (x3 : Int32) (M : kx_M), k178 x3 M = some res → G 178 [some (.ref 0), some (.ref 135), some (.ref 136), some (.int x3), none, none] [] M) :
    ∀ (n : Nat) (x3 : Int32) (x4 : Int32) (M : kx_M),
    f_LW_lay_l188 k178 n x3 x4 M = some res → G 188 [some (.ref 0), some (.ref 135), some (.ref 136), some (.int x3), some (.int x4), none] [] M := by
  intro n
  induction n with
  | zero =>
    intro x3 x4 M h
    exact absurd h (by rw [f_LW_lay_l188]; exact fun z => nomatch z)
  | succ n ih =>
    intro x3 x4 M h
    rw [f_LW_lay_l188] at h
    refine x_iload F.1 (i := 120) rfl rfl ?_
    refine x_iload_n F.1 (i := 121) rfl rfl ?_
    refine x_icmp_ge F.1 (i := 122) (tgt := 248) rfl (by decide) (fun c => ?_) (fun c => ?_)
    · replace h := if_T c h
      refine x_iconst F.1 (i := 154) rfl ic_0 ?_
      refine x_istore F.1 (i := 155) rfl (Nat.le_of_ble_eq_true rfl) (Nat.le_of_ble_eq_true rfl) rfl ?_
      exact x_wk F.1 ((t_LW_lay_l251 F hQ hk178 FU) _ _ _ h) ⟨rfl, rfl, rfl, rfl, rfl, trivial⟩
    · replace h := if_F c h
      refine x_aload_n F.1 (i := 123) rfl rfl ?_
      refine x_bipush F.1 (i := 124) rfl bp_19 ?_
      refine x_iload_n F.1 (i := 125) rfl rfl ?_
      refine x_iadd F.1 (i := 126) rfl ?_
      refine gd_e h (fun g1 h => ?_)
      refine x_iald F.1 (i := 127) rfl rfl (inb_e g1) ?_
      refine x_iload F.1 (i := 128) rfl rfl ?_
      refine x_ishr F.1 (i := 129) rfl ?_
      refine x_iconst F.1 (i := 130) rfl ic_1 ?_
      refine x_iand F.1 (i := 131) rfl ?_
      refine x_if_ne F.1 (i := 132) (tgt := 211) rfl (by decide) (fun c => ?_) (fun c => ?_)
      · replace h := if_F c h
        refine x_aload_n F.1 (i := 134) rfl rfl ?_
        refine x_aload_n F.1 (i := 135) rfl rfl ?_
        refine x_ldcS F.1 (i := 136) (j := 11) rfl (by decide) rfl ?_
        refine cal_e h (fun r3 M1 e4 h => ?_)
        refine x_cS3v F.1 (i := 137) rfl ml_LW_51 ok_LW_say (Nat.le_of_ble_eq_true rfl) (Nat.le_of_ble_eq_true rfl) (fun _ => t_LW_say e4) ?_
        refine x_aload_n F.1 (i := 138) rfl rfl ?_
        refine x_aload_n F.1 (i := 139) rfl rfl ?_
        refine x_bipush F.1 (i := 140) rfl bp_99 ?_
        refine x_iload_n F.1 (i := 141) rfl rfl ?_
        refine cal_e h (fun r5 M2 e6 h => ?_)
        refine x_cS4v F.1 (i := 142) rfl ml_LW_66 ok_LW_name (Nat.le_of_ble_eq_true rfl) (Nat.le_of_ble_eq_true rfl) (fun _ => t_LW_name e6) ?_
        refine x_aload_n F.1 (i := 143) rfl rfl ?_
        refine x_aload_n F.1 (i := 144) rfl rfl ?_
        refine x_bipush F.1 (i := 145) rfl bp_99 ?_
        refine x_iload F.1 (i := 146) rfl rfl ?_
        refine cal_e h (fun r7 M3 e8 h => ?_)
        refine x_cS4v F.1 (i := 147) rfl ml_LW_66 ok_LW_name (Nat.le_of_ble_eq_true rfl) (Nat.le_of_ble_eq_true rfl) (fun _ => t_LW_name e8) ?_
        refine x_aload_n F.1 (i := 148) rfl rfl ?_
        refine x_aload_n F.1 (i := 149) rfl rfl ?_
        refine x_ldcS F.1 (i := 150) (j := 2) rfl (by decide) rfl ?_
        refine cal_e h (fun r9 M4 e10 h => ?_)
        refine x_cS3v F.1 (i := 151) rfl ml_LW_51 ok_LW_say (Nat.le_of_ble_eq_true rfl) (Nat.le_of_ble_eq_true rfl) (fun _ => t_LW_say e10) ?_
        refine x_iinc F.1 (i := 152) rfl rfl rfl (Nat.le_of_ble_eq_true rfl) rfl ?_
        replace h := bd_e h
        refine x_goto F.1 (i := 153) (tgt := 188) rfl (by decide) ?_
        exact x_wk F.1 (ih _ _ _ h) ⟨rfl, rfl, rfl, rfl, rfl, trivial⟩
      · replace h := if_T c h
        refine x_goto F.1 (i := 133) (tgt := 242) rfl (by decide) ?_
        refine x_iinc F.1 (i := 152) rfl rfl rfl (Nat.le_of_ble_eq_true rfl) rfl ?_
        replace h := bd_e h
        refine x_goto F.1 (i := 153) (tgt := 188) rfl (by decide) ?_
        exact x_wk F.1 (ih _ _ _ h) ⟨rfl, rfl, rfl, rfl, rfl, trivial⟩
set_option maxHeartbeats 4000000 in
theorem t_LW_lay_l178 {w : kx_W} {d : Nat} {Q : Option Value → kx_M → Prop} {G : Nat → List (Option Value) → List Value → kx_M → Prop} (F : Sd w (d + 8) m_LW_lay Q G) {res : Int32 × kx_M} (hQ : Q (some (.int res.1)) res.2) :
    ∀ (n : Nat) (x3 : Int32) (M : kx_M),
    f_LW_lay_l178 n x3 M = some res → G 178 [some (.ref 0), some (.ref 135), some (.ref 136), some (.int x3), none, none] [] M := by
  intro n
  induction n with
  | zero =>
    intro x3 M h
    exact absurd h (by rw [f_LW_lay_l178]; exact fun z => nomatch z)
  | succ n ih =>
    intro x3 M h
    rw [f_LW_lay_l178] at h
    refine x_iload_n F.1 (i := 113) rfl rfl ?_
    refine x_aload_n F.1 (i := 114) rfl rfl ?_
    refine x_iconst F.1 (i := 115) rfl ic_3 ?_
    refine gd_e h (fun g1 h => ?_)
    refine x_iald F.1 (i := 116) rfl rfl (inb_e g1) ?_
    refine x_icmp_ge F.1 (i := 117) (tgt := 358) rfl (by decide) (fun c => ?_) (fun c => ?_)
    · replace h := if_T c h
      refine x_iconst F.1 (i := 221) rfl ic_0 ?_
      refine x_istore_n F.1 (i := 222) rfl (Nat.le_of_ble_eq_true rfl) (Nat.le_of_ble_eq_true rfl) rfl ?_
      exact x_wk F.1 ((t_LW_lay_l360 F hQ FU) _ _ h) ⟨rfl, rfl, rfl, rfl, trivial⟩
    · replace h := if_F c h
      refine x_iconst F.1 (i := 118) rfl ic_0 ?_
      refine x_istore F.1 (i := 119) rfl (Nat.le_of_ble_eq_true rfl) (Nat.le_of_ble_eq_true rfl) rfl ?_
      exact x_wk F.1 ((t_LW_lay_l188 F hQ ih FU) _ _ _ h) ⟨rfl, rfl, rfl, rfl, rfl, trivial⟩
set_option maxHeartbeats 4000000 in
theorem t_LW_lay_l130 {w : kx_W} {d : Nat} {Q : Option Value → kx_M → Prop} {G : Nat → List (Option Value) → List Value → kx_M → Prop} (F : Sd w (d + 8) m_LW_lay Q G) {k98 : Int32 → kx_M → Option (Int32 × kx_M)} {res : Int32 × kx_M} (hQ : Q (some (.int res.1)) res.2) (hk98 : ∀ (x3 : Int32) (M : kx_M), k98 x3 M = some res → G 98 [some (.ref 0), some (.ref 135), some (.ref 136), some (.int x3), none, none] [] M) :
    ∀ (n : Nat) (x3 : Int32) (x4 : Int32) (M : kx_M),
    f_LW_lay_l130 k98 n x3 x4 M = some res → G 130 [some (.ref 0), some (.ref 135), some (.ref 136), some (.int x3), some (.int x4), none] [] M := by
  intro n
  induction n with
  | zero =>
    intro x3 x4 M h
    exact absurd h (by rw [f_LW_lay_l130]; exact fun z => nomatch z)
  | succ n ih =>
    intro x3 x4 M h
    rw [f_LW_lay_l130] at h
    refine x_iload F.1 (i := 84) rfl rfl ?_
    refine x_aload_n F.1 (i := 85) rfl rfl ?_
    refine x_bipush F.1 (i := 86) rfl bp_7 ?_
    refine x_iload_n F.1 (i := 87) rfl rfl ?_
    refine x_iadd F.1 (i := 88) rfl ?_
    refine gd_e h (fun g1 h => ?_)
    refine x_iald F.1 (i := 89) rfl rfl (inb_e g1) ?_
    refine x_icmp_ge F.1 (i := 90) (tgt := 163) rfl (by decide) (fun c => ?_) (fun c => ?_)
    · replace h := if_T c h
      refine x_aload_n F.1 (i := 105) rfl rfl ?_
      refine x_aload_n F.1 (i := 106) rfl rfl ?_
      refine x_ldcS F.1 (i := 107) (j := 2) rfl (by decide) rfl ?_
      refine cal_e h (fun r2 M1 e3 h => ?_)
      refine x_cS3v F.1 (i := 108) rfl ml_LW_51 ok_LW_say (Nat.le_of_ble_eq_true rfl) (Nat.le_of_ble_eq_true rfl) (fun _ => t_LW_say e3) ?_
      refine x_iinc F.1 (i := 109) rfl rfl rfl (Nat.le_of_ble_eq_true rfl) rfl ?_
      replace h := bd_e h
      refine x_goto F.1 (i := 110) (tgt := 98) rfl (by decide) ?_
      exact x_wk F.1 (hk98 _ _ h) ⟨rfl, rfl, rfl, rfl, trivial⟩
    · replace h := if_F c h
      refine x_aload_n F.1 (i := 91) rfl rfl ?_
      refine x_aload_n F.1 (i := 92) rfl rfl ?_
      refine x_aload_n F.1 (i := 93) rfl rfl ?_
      refine x_bipush F.1 (i := 94) rfl bp_10 ?_
      refine x_iconst F.1 (i := 95) rfl ic_3 ?_
      refine x_iload_n F.1 (i := 96) rfl rfl ?_
      refine x_imul F.1 (i := 97) rfl ?_
      refine x_iadd F.1 (i := 98) rfl ?_
      refine x_iload F.1 (i := 99) rfl rfl ?_
      refine x_iadd F.1 (i := 100) rfl ?_
      refine gd_e h (fun g5 h => ?_)
      refine x_iald F.1 (i := 101) rfl rfl (inb_e g5) ?_
      refine cal_e h (fun r6 M2 e7 h => ?_)
      refine x_cS3v F.1 (i := 102) rfl ml_LW_76 ok_LW_kind (Nat.le_of_ble_eq_true rfl) (Nat.le_of_ble_eq_true rfl) (fun _ => t_LW_kind e7) ?_
      refine x_iinc F.1 (i := 103) rfl rfl rfl (Nat.le_of_ble_eq_true rfl) rfl ?_
      replace h := bd_e h
      refine x_goto F.1 (i := 104) (tgt := 130) rfl (by decide) ?_
      exact x_wk F.1 (ih _ _ _ h) ⟨rfl, rfl, rfl, rfl, rfl, trivial⟩
set_option maxHeartbeats 4000000 in
theorem t_LW_lay_l98 {w : kx_W} {d : Nat} {Q : Option Value → kx_M → Prop} {G : Nat → List (Option Value) → List Value → kx_M → Prop} (F : Sd w (d + 8) m_LW_lay Q G) {res : Int32 × kx_M} (hQ : Q (some (.int res.1)) res.2) :
    ∀ (n : Nat) (x3 : Int32) (M : kx_M),
    f_LW_lay_l98 n x3 M = some res → G 98 [some (.ref 0), some (.ref 135), some (.ref 136), some (.int x3), none, none] [] M := by
  intro n
  induction n with
  | zero =>
    intro x3 M h
    exact absurd h (by rw [f_LW_lay_l98]; exact fun z => nomatch z)
  | succ n ih =>
    intro x3 M h
    rw [f_LW_lay_l98] at h
    refine x_iload_n F.1 (i := 64) rfl rfl ?_
    refine x_aload_n F.1 (i := 65) rfl rfl ?_
    refine x_iconst F.1 (i := 66) rfl ic_3 ?_
    refine gd_e h (fun g1 h => ?_)
    refine x_iald F.1 (i := 67) rfl rfl (inb_e g1) ?_
    refine x_icmp_ge F.1 (i := 68) (tgt := 176) rfl (by decide) (fun c => ?_) (fun c => ?_)
    · replace h := if_T c h
      refine x_iconst F.1 (i := 111) rfl ic_0 ?_
      refine x_istore_n F.1 (i := 112) rfl (Nat.le_of_ble_eq_true rfl) (Nat.le_of_ble_eq_true rfl) rfl ?_
      exact x_wk F.1 ((t_LW_lay_l178 F hQ FU) _ _ h) ⟨rfl, rfl, rfl, rfl, trivial⟩
    · replace h := if_F c h
      refine x_aload_n F.1 (i := 69) rfl rfl ?_
      refine x_aload_n F.1 (i := 70) rfl rfl ?_
      refine x_ldcS F.1 (i := 71) (j := 5) rfl (by decide) rfl ?_
      refine cal_e h (fun r2 M1 e3 h => ?_)
      refine x_cS3v F.1 (i := 72) rfl ml_LW_51 ok_LW_say (Nat.le_of_ble_eq_true rfl) (Nat.le_of_ble_eq_true rfl) (fun _ => t_LW_say e3) ?_
      refine x_aload_n F.1 (i := 73) rfl rfl ?_
      refine x_aload_n F.1 (i := 74) rfl rfl ?_
      refine x_bipush F.1 (i := 75) rfl bp_99 ?_
      refine x_iload_n F.1 (i := 76) rfl rfl ?_
      refine cal_e h (fun r4 M2 e5 h => ?_)
      refine x_cS4v F.1 (i := 77) rfl ml_LW_66 ok_LW_name (Nat.le_of_ble_eq_true rfl) (Nat.le_of_ble_eq_true rfl) (fun _ => t_LW_name e5) ?_
      refine x_aload_n F.1 (i := 78) rfl rfl ?_
      refine x_aload_n F.1 (i := 79) rfl rfl ?_
      refine x_ldcS F.1 (i := 80) (j := 6) rfl (by decide) rfl ?_
      refine cal_e h (fun r6 M3 e7 h => ?_)
      refine x_cS3v F.1 (i := 81) rfl ml_LW_51 ok_LW_say (Nat.le_of_ble_eq_true rfl) (Nat.le_of_ble_eq_true rfl) (fun _ => t_LW_say e7) ?_
      refine x_iconst F.1 (i := 82) rfl ic_0 ?_
      refine x_istore F.1 (i := 83) rfl (Nat.le_of_ble_eq_true rfl) (Nat.le_of_ble_eq_true rfl) rfl ?_
      exact x_wk F.1 ((t_LW_lay_l130 F hQ ih FU) _ _ _ h) ⟨rfl, rfl, rfl, rfl, rfl, trivial⟩
set_option maxHeartbeats 4000000 in
theorem t_LW_lay_l44 {w : kx_W} {d : Nat} {Q : Option Value → kx_M → Prop} {G : Nat → List (Option Value) → List Value → kx_M → Prop} (F : Sd w (d + 8) m_LW_lay Q G) {res : Int32 × kx_M} (hQ : Q (some (.int res.1)) res.2) :
    ∀ (n : Nat) (x3 : Int32) (M : kx_M),
    f_LW_lay_l44 n x3 M = some res → G 44 [some (.ref 0), some (.ref 135), some (.ref 136), some (.int x3), none, none] [] M := by
  intro n
  induction n with
  | zero =>
    intro x3 M h
    exact absurd h (by rw [f_LW_lay_l44]; exact fun z => nomatch z)
  | succ n ih =>
    intro x3 M h
    rw [f_LW_lay_l44] at h
    refine x_iload_n F.1 (i := 30) rfl rfl ?_
    refine x_aload_n F.1 (i := 31) rfl rfl ?_
    refine x_iconst F.1 (i := 32) rfl ic_2 ?_
    refine gd_e h (fun g1 h => ?_)
    refine x_iald F.1 (i := 33) rfl rfl (inb_e g1) ?_
    refine x_icmp_ge F.1 (i := 34) (tgt := 96) rfl (by decide) (fun c => ?_) (fun c => ?_)
    · replace h := if_T c h
      refine x_iconst F.1 (i := 62) rfl ic_0 ?_
      refine x_istore_n F.1 (i := 63) rfl (Nat.le_of_ble_eq_true rfl) (Nat.le_of_ble_eq_true rfl) rfl ?_
      exact x_wk F.1 ((t_LW_lay_l98 F hQ FU) _ _ h) ⟨rfl, rfl, rfl, rfl, trivial⟩
    · replace h := if_F c h
      refine x_aload_n F.1 (i := 35) rfl rfl ?_
      refine x_aload_n F.1 (i := 36) rfl rfl ?_
      refine x_ldcS F.1 (i := 37) (j := 3) rfl (by decide) rfl ?_
      refine cal_e h (fun r2 M1 e3 h => ?_)
      refine x_cS3v F.1 (i := 38) rfl ml_LW_51 ok_LW_say (Nat.le_of_ble_eq_true rfl) (Nat.le_of_ble_eq_true rfl) (fun _ => t_LW_say e3) ?_
      refine x_aload_n F.1 (i := 39) rfl rfl ?_
      refine x_aload_n F.1 (i := 40) rfl rfl ?_
      refine x_bipush F.1 (i := 41) rfl bp_113 ?_
      refine x_iload_n F.1 (i := 42) rfl rfl ?_
      refine cal_e h (fun r4 M2 e5 h => ?_)
      refine x_cS4v F.1 (i := 43) rfl ml_LW_66 ok_LW_name (Nat.le_of_ble_eq_true rfl) (Nat.le_of_ble_eq_true rfl) (fun _ => t_LW_name e5) ?_
      refine x_aload_n F.1 (i := 44) rfl rfl ?_
      refine x_aload_n F.1 (i := 45) rfl rfl ?_
      refine x_ldcS F.1 (i := 46) (j := 4) rfl (by decide) rfl ?_
      refine cal_e h (fun r6 M3 e7 h => ?_)
      refine x_cS3v F.1 (i := 47) rfl ml_LW_51 ok_LW_say (Nat.le_of_ble_eq_true rfl) (Nat.le_of_ble_eq_true rfl) (fun _ => t_LW_say e7) ?_
      refine x_aload_n F.1 (i := 48) rfl rfl ?_
      refine x_aload_n F.1 (i := 49) rfl rfl ?_
      refine x_aload_n F.1 (i := 50) rfl rfl ?_
      refine x_iconst F.1 (i := 51) rfl ic_5 ?_
      refine x_iload_n F.1 (i := 52) rfl rfl ?_
      refine x_iadd F.1 (i := 53) rfl ?_
      refine gd_e h (fun g8 h => ?_)
      refine x_iald F.1 (i := 54) rfl rfl (inb_e g8) ?_
      refine cal_e h (fun r9 M4 e10 h => ?_)
      refine x_cS3v F.1 (i := 55) rfl ml_LW_57 ok_LW_number (Nat.le_of_ble_eq_true rfl) (Nat.le_of_ble_eq_true rfl) (fun _ => t_LW_number e10) ?_
      refine x_aload_n F.1 (i := 56) rfl rfl ?_
      refine x_aload_n F.1 (i := 57) rfl rfl ?_
      refine x_ldcS F.1 (i := 58) (j := 2) rfl (by decide) rfl ?_
      refine cal_e h (fun r11 M5 e12 h => ?_)
      refine x_cS3v F.1 (i := 59) rfl ml_LW_51 ok_LW_say (Nat.le_of_ble_eq_true rfl) (Nat.le_of_ble_eq_true rfl) (fun _ => t_LW_say e12) ?_
      refine x_iinc F.1 (i := 60) rfl rfl rfl (Nat.le_of_ble_eq_true rfl) rfl ?_
      replace h := bd_e h
      refine x_goto F.1 (i := 61) (tgt := 44) rfl (by decide) ?_
      exact x_wk F.1 (ih _ _ h) ⟨rfl, rfl, rfl, rfl, trivial⟩
set_option maxHeartbeats 4000000 in
theorem t_LW_lay {w : kx_W} {d : Nat} {M : kx_M} {Q : Option Value → kx_M → Prop} {r : Int32} {M' : kx_M} (h : f_LW_lay M = some (r, M')) (hQ : Q (some (.int r)) M') : Ct w (d + 8) m_LW_lay [.ref 0, .ref 135, .ref 136] M Q := by
  refine mk_ct ok_LW_lay (Nat.le_of_ble_eq_true rfl) (fun G F => ?_)
  rw [f_LW_lay] at h
  show G 0 [some (.ref 0), some (.ref 135), some (.ref 136), none, none, none] [] M
  refine x_aload_n F.1 (i := 0) rfl rfl ?_
  refine x_bipush F.1 (i := 1) rfl bp_22 ?_
  refine x_iconst F.1 (i := 2) rfl ic_0 ?_
  refine gd_e h (fun g1 h => ?_)
  refine x_iast F.1 (i := 3) rfl rfl (inb_e g1) ?_
  replace h := bd_e h
  refine x_aload_n F.1 (i := 4) rfl rfl ?_
  refine x_aload_n F.1 (i := 5) rfl rfl ?_
  refine x_ldcS F.1 (i := 6) (j := 0) rfl (by decide) rfl ?_
  refine cal_e h (fun r2 M2 e3 h => ?_)
  refine x_cS3v F.1 (i := 7) rfl ml_LW_51 ok_LW_say (Nat.le_of_ble_eq_true rfl) (Nat.le_of_ble_eq_true rfl) (fun _ => t_LW_say e3) ?_
  refine x_aload_n F.1 (i := 8) rfl rfl ?_
  refine x_aload_n F.1 (i := 9) rfl rfl ?_
  refine x_aload_n F.1 (i := 10) rfl rfl ?_
  refine x_iconst F.1 (i := 11) rfl ic_0 ?_
  refine gd_e h (fun g4 h => ?_)
  refine x_iald F.1 (i := 12) rfl rfl (inb_e g4) ?_
  refine cal_e h (fun r5 M3 e6 h => ?_)
  refine x_cS3v F.1 (i := 13) rfl ml_LW_57 ok_LW_number (Nat.le_of_ble_eq_true rfl) (Nat.le_of_ble_eq_true rfl) (fun _ => t_LW_number e6) ?_
  refine x_aload_n F.1 (i := 14) rfl rfl ?_
  refine x_aload_n F.1 (i := 15) rfl rfl ?_
  refine x_ldcS F.1 (i := 16) (j := 1) rfl (by decide) rfl ?_
  refine cal_e h (fun r7 M4 e8 h => ?_)
  refine x_cS3v F.1 (i := 17) rfl ml_LW_51 ok_LW_say (Nat.le_of_ble_eq_true rfl) (Nat.le_of_ble_eq_true rfl) (fun _ => t_LW_say e8) ?_
  refine x_aload_n F.1 (i := 18) rfl rfl ?_
  refine x_aload_n F.1 (i := 19) rfl rfl ?_
  refine x_aload_n F.1 (i := 20) rfl rfl ?_
  refine x_iconst F.1 (i := 21) rfl ic_1 ?_
  refine gd_e h (fun g9 h => ?_)
  refine x_iald F.1 (i := 22) rfl rfl (inb_e g9) ?_
  refine cal_e h (fun r10 M5 e11 h => ?_)
  refine x_cS3v F.1 (i := 23) rfl ml_LW_57 ok_LW_number (Nat.le_of_ble_eq_true rfl) (Nat.le_of_ble_eq_true rfl) (fun _ => t_LW_number e11) ?_
  refine x_aload_n F.1 (i := 24) rfl rfl ?_
  refine x_aload_n F.1 (i := 25) rfl rfl ?_
  refine x_ldcS F.1 (i := 26) (j := 2) rfl (by decide) rfl ?_
  refine cal_e h (fun r12 M6 e13 h => ?_)
  refine x_cS3v F.1 (i := 27) rfl ml_LW_51 ok_LW_say (Nat.le_of_ble_eq_true rfl) (Nat.le_of_ble_eq_true rfl) (fun _ => t_LW_say e13) ?_
  refine x_iconst F.1 (i := 28) rfl ic_0 ?_
  refine x_istore_n F.1 (i := 29) rfl (Nat.le_of_ble_eq_true rfl) (Nat.le_of_ble_eq_true rfl) rfl ?_
  exact x_wk F.1 ((t_LW_lay_l44 F (res := (r, M')) hQ FU) _ _ h) ⟨rfl, rfl, rfl, rfl, trivial⟩
set_option maxHeartbeats 4000000 in
theorem t_LW_draw_l391 {w : kx_W} {d : Nat} {Q : Option Value → kx_M → Prop} {G : Nat → List (Option Value) → List Value → kx_M → Prop} (F : Sd w d m_LW_draw Q G) {p0 : Nat × (Nat → Int32)} (hp0 : p0 = kx_sc w) {k360 : Int32 → Int32 → kx_M → Option (Unit × kx_M)} {res : Unit × kx_M} (hQ : Q none res.2) (hk360 : ∀ (x2 : Int32) (x3 : Int32) (M : kx_M), k360 x2 x3 M = some res → G 360 [some (.retAddr 3), some (.ref 136), some (.int x2), some (.int x3), none, none] [] M) :
    ∀ (x2 : Int32) (x3 : Int32) (s0 : Int32) (M : kx_M),
    f_LW_draw_l391 p0 k360 x2 x3 s0 M = some res → G 391 [some (.retAddr 3), some (.ref 136), some (.int x2), some (.int x3), none, none] [.int s0] M := by
  intro x2 x3 s0 M h
  rw [f_LW_draw_l391] at h
  refine x_istore F.1 (i := 285) rfl (Nat.le_of_ble_eq_true rfl) (Nat.le_of_ble_eq_true rfl) rfl ?_
  refine x_aload_n F.1 (i := 286) rfl rfl ?_
  refine x_bipush F.1 (i := 287) rfl bp_22 ?_
  refine x_iload_n F.1 (i := 288) rfl rfl ?_
  refine x_iadd F.1 (i := 289) rfl ?_
  refine x_iload F.1 (i := 290) rfl rfl ?_
  refine x_bipush F.1 (i := 291) rfl bp_15 ?_
  refine x_iand F.1 (i := 292) rfl ?_
  refine gd_e h (fun g1 h => ?_)
  refine x_iast F.1 (i := 293) rfl rfl (inb_e g1) ?_
  replace h := bd_e h
  refine x_aload_n F.1 (i := 294) rfl rfl ?_
  refine x_bipush F.1 (i := 295) rfl bp_28 ?_
  refine x_iload_n F.1 (i := 296) rfl rfl ?_
  refine x_iadd F.1 (i := 297) rfl ?_
  refine x_iload F.1 (i := 298) rfl rfl ?_
  refine x_iconst F.1 (i := 299) rfl ic_3 ?_
  refine x_ishr F.1 (i := 300) rfl ?_
  refine x_bipush F.1 (i := 301) rfl bp_15 ?_
  refine x_iand F.1 (i := 302) rfl ?_
  refine gd_e h (fun g2 h => ?_)
  refine x_iast F.1 (i := 303) rfl rfl (inb_e g2) ?_
  replace h := bd_e h
  refine x_iinc F.1 (i := 304) rfl rfl rfl (Nat.le_of_ble_eq_true rfl) rfl ?_
  replace h := bd_e h
  refine x_goto F.1 (i := 305) (tgt := 360) rfl (by decide) ?_
  exact x_wk F.1 (hk360 _ _ _ h) ⟨rfl, rfl, rfl, rfl, trivial⟩
set_option maxHeartbeats 4000000 in
theorem t_LW_draw_l360 {w : kx_W} {d : Nat} {Q : Option Value → kx_M → Prop} {G : Nat → List (Option Value) → List Value → kx_M → Prop} (F : Sd w d m_LW_draw Q G) {p0 : Nat × (Nat → Int32)} (hp0 : p0 = kx_sc w) {res : Unit × kx_M} (hQ : Q none res.2) :
    ∀ (n : Nat) (x2 : Int32) (x3 : Int32) (M : kx_M),
    f_LW_draw_l360 p0 n x2 x3 M = some res → G 360 [some (.retAddr 3), some (.ref 136), some (.int x2), some (.int x3), none, none] [] M := by
  intro n
  induction n with
  | zero =>
    intro x2 x3 M h
    exact absurd h (by rw [f_LW_draw_l360]; exact fun z => nomatch z)
  | succ n ih =>
    intro x2 x3 M h
    rw [f_LW_draw_l360] at h
    refine x_iload_n F.1 (i := 263) rfl rfl ?_
    refine x_bipush F.1 (i := 264) rfl bp_6 ?_
    refine x_icmp_ge F.1 (i := 265) (tgt := 423) rfl (by decide) (fun c => ?_) (fun c => ?_)
    · replace h := if_T c h
      exact x_vretf F (i := 306) rfl rfl h hQ
    · replace h := if_F c h
      refine x_iload_n F.1 (i := 266) rfl rfl ?_
      refine x_iconst F.1 (i := 267) rfl ic_2 ?_
      refine x_iadd F.1 (i := 268) rfl ?_
      refine x_aloadz_n F.1 (i := 269) rfl rfl ?_
      refine x_sclen F.1 (i := 270) rfl hp0 ?_
      refine x_icmp_ge F.1 (i := 271) (tgt := 384) rfl (by decide) (fun c => ?_) (fun c => ?_)
      · replace h := if_T c h
        refine x_sipush F.1 (i := 280) rfl sp_947 ?_
        refine x_iload_n F.1 (i := 281) rfl rfl ?_
        refine x_imul F.1 (i := 282) rfl ?_
        refine x_iload_n F.1 (i := 283) rfl rfl ?_
        refine x_iadd F.1 (i := 284) rfl ?_
        exact x_wk F.1 ((t_LW_draw_l391 F hp0 hQ ih) _ _ _ _ h) ⟨rfl, rfl, rfl, rfl, trivial⟩
      · replace h := if_F c h
        refine x_aloadz_n F.1 (i := 272) rfl rfl ?_
        refine x_iload_n F.1 (i := 273) rfl rfl ?_
        refine x_iconst F.1 (i := 274) rfl ic_2 ?_
        refine x_iadd F.1 (i := 275) rfl ?_
        refine gd_e h (fun g2 h => ?_)
        refine x_scld F.1 (i := 276) rfl hp0 (inb_e g2) ?_
        refine x_iconst F.1 (i := 277) rfl ic_1 ?_
        refine x_ishr F.1 (i := 278) rfl ?_
        refine x_goto F.1 (i := 279) (tgt := 391) rfl (by decide) ?_
        exact x_wk F.1 ((t_LW_draw_l391 F hp0 hQ ih) _ _ _ _ h) ⟨rfl, rfl, rfl, rfl, trivial⟩
set_option maxHeartbeats 4000000 in
theorem t_LW_draw_l294 {w : kx_W} {d : Nat} {Q : Option Value → kx_M → Prop} {G : Nat → List (Option Value) → List Value → kx_M → Prop} (F : Sd w d m_LW_draw Q G) {p0 : Nat × (Nat → Int32)} (hp0 : p0 = kx_sc w) {k261 : Int32 → Int32 → kx_M → Option (Unit × kx_M)} {res : Unit × kx_M} (hQ : Q none res.2) (hk261 : ∀ (x2 : Int32) (x3 : Int32) (M : kx_M), k261 x2 x3 M = some res → G 261 [some (.retAddr 3), some (.ref 136), some (.int x2), some (.int x3), none, none] [] M) :
    ∀ (n : Nat) (x2 : Int32) (x3 : Int32) (x4 : Int32) (x5 : Int32) (M : kx_M),
    f_LW_draw_l294 p0 k261 n x2 x3 x4 x5 M = some res → G 294 [some (.retAddr 3), some (.ref 136), some (.int x2), some (.int x3), some (.int x4), some (.int x5)] [] M := by
  intro n
  induction n with
  | zero =>
    intro x2 x3 x4 x5 M h
    exact absurd h (by rw [f_LW_draw_l294]; exact fun z => nomatch z)
  | succ n ih =>
    intro x2 x3 x4 x5 M h
    rw [f_LW_draw_l294] at h
    refine x_iload F.1 (i := 220) rfl rfl ?_
    refine x_iload_n F.1 (i := 221) rfl rfl ?_
    refine x_icmp_ge F.1 (i := 222) (tgt := 352) rfl (by decide) (fun c => ?_) (fun c => ?_)
    · replace h := if_T c h
      refine x_iinc F.1 (i := 259) rfl rfl rfl (Nat.le_of_ble_eq_true rfl) rfl ?_
      replace h := bd_e h
      refine x_goto F.1 (i := 260) (tgt := 261) rfl (by decide) ?_
      exact x_wk F.1 (hk261 _ _ _ h) ⟨rfl, rfl, rfl, rfl, trivial⟩
    · replace h := if_F c h
      refine x_iload_n F.1 (i := 223) rfl rfl ?_
      refine x_aload_n F.1 (i := 224) rfl rfl ?_
      refine x_iconst F.1 (i := 225) rfl ic_3 ?_
      refine gd_e h (fun g2 h => ?_)
      refine x_iald F.1 (i := 226) rfl rfl (inb_e g2) ?_
      refine x_icmp_ge F.1 (i := 227) (tgt := 346) rfl (by decide) (fun c => ?_) (fun c => ?_)
      · replace h := if_T c h
        refine x_iinc F.1 (i := 257) rfl rfl rfl (Nat.le_of_ble_eq_true rfl) rfl ?_
        replace h := bd_e h
        refine x_goto F.1 (i := 258) (tgt := 294) rfl (by decide) ?_
        exact x_wk F.1 (ih _ _ _ _ _ h) ⟨rfl, rfl, rfl, rfl, rfl, rfl, trivial⟩
      · replace h := if_F c h
        refine x_iload F.1 (i := 228) rfl rfl ?_
        refine x_iload F.1 (i := 229) rfl rfl ?_
        refine x_ishr F.1 (i := 230) rfl ?_
        refine x_iconst F.1 (i := 231) rfl ic_1 ?_
        refine x_iand F.1 (i := 232) rfl ?_
        refine x_if_ne F.1 (i := 233) (tgt := 320) rfl (by decide) (fun c => ?_) (fun c => ?_)
        · replace h := if_F c h
          refine x_aload_n F.1 (i := 235) rfl rfl ?_
          refine x_bipush F.1 (i := 236) rfl bp_19 ?_
          refine x_iload_n F.1 (i := 237) rfl rfl ?_
          refine x_iadd F.1 (i := 238) rfl ?_
          refine x_dup2 F.1 (i := 239) rfl rfl rfl ?_
          refine gd_e h (fun g5 h => ?_)
          refine x_iald F.1 (i := 240) rfl rfl (inb_e g5) ?_
          refine x_iconst F.1 (i := 241) rfl ic_1 ?_
          refine x_iload F.1 (i := 242) rfl rfl ?_
          refine x_ishl F.1 (i := 243) rfl ?_
          refine x_ior F.1 (i := 244) rfl ?_
          refine gd_e h (fun g6 h => ?_)
          refine x_iast F.1 (i := 245) rfl rfl (inb_e g6) ?_
          replace h := bd_e h
          refine x_aload_n F.1 (i := 246) rfl rfl ?_
          refine x_bipush F.1 (i := 247) rfl bp_19 ?_
          refine x_iload F.1 (i := 248) rfl rfl ?_
          refine x_iadd F.1 (i := 249) rfl ?_
          refine x_dup2 F.1 (i := 250) rfl rfl rfl ?_
          refine gd_e h (fun g7 h => ?_)
          refine x_iald F.1 (i := 251) rfl rfl (inb_e g7) ?_
          refine x_iconst F.1 (i := 252) rfl ic_1 ?_
          refine x_iload_n F.1 (i := 253) rfl rfl ?_
          refine x_ishl F.1 (i := 254) rfl ?_
          refine x_ior F.1 (i := 255) rfl ?_
          refine gd_e h (fun g8 h => ?_)
          refine x_iast F.1 (i := 256) rfl rfl (inb_e g8) ?_
          replace h := bd_e h
          refine x_iinc F.1 (i := 257) rfl rfl rfl (Nat.le_of_ble_eq_true rfl) rfl ?_
          replace h := bd_e h
          refine x_goto F.1 (i := 258) (tgt := 294) rfl (by decide) ?_
          exact x_wk F.1 (ih _ _ _ _ _ h) ⟨rfl, rfl, rfl, rfl, rfl, rfl, trivial⟩
        · replace h := if_T c h
          refine x_goto F.1 (i := 234) (tgt := 346) rfl (by decide) ?_
          refine x_iinc F.1 (i := 257) rfl rfl rfl (Nat.le_of_ble_eq_true rfl) rfl ?_
          replace h := bd_e h
          refine x_goto F.1 (i := 258) (tgt := 294) rfl (by decide) ?_
          exact x_wk F.1 (ih _ _ _ _ _ h) ⟨rfl, rfl, rfl, rfl, rfl, rfl, trivial⟩
set_option maxHeartbeats 4000000 in
theorem t_LW_draw_l261 {w : kx_W} {d : Nat} {Q : Option Value → kx_M → Prop} {G : Nat → List (Option Value) → List Value → kx_M → Prop} (F : Sd w d m_LW_draw Q G) {p0 : Nat × (Nat → Int32)} (hp0 : p0 = kx_sc w) {res : Unit × kx_M} (hQ : Q none res.2) :
    ∀ (n : Nat) (x2 : Int32) (x3 : Int32) (M : kx_M),
    f_LW_draw_l261 p0 n x2 x3 M = some res → G 261 [some (.retAddr 3), some (.ref 136), some (.int x2), some (.int x3), none, none] [] M := by
  intro n
  induction n with
  | zero =>
    intro x2 x3 M h
    exact absurd h (by rw [f_LW_draw_l261]; exact fun z => nomatch z)
  | succ n ih =>
    intro x2 x3 M h
    rw [f_LW_draw_l261] at h
    refine x_iload_n F.1 (i := 197) rfl rfl ?_
    refine x_iconst F.1 (i := 198) rfl ic_3 ?_
    refine x_icmp_ge F.1 (i := 199) (tgt := 358) rfl (by decide) (fun c => ?_) (fun c => ?_)
    · replace h := if_T c h
      refine x_iconst F.1 (i := 261) rfl ic_0 ?_
      refine x_istore_n F.1 (i := 262) rfl (Nat.le_of_ble_eq_true rfl) (Nat.le_of_ble_eq_true rfl) rfl ?_
      exact x_wk F.1 ((t_LW_draw_l360 F hp0 hQ FU) _ _ _ h) ⟨rfl, rfl, rfl, rfl, trivial⟩
    · replace h := if_F c h
      refine x_iload_n F.1 (i := 200) rfl rfl ?_
      refine x_iconst F.1 (i := 201) rfl ic_4 ?_
      refine x_iadd F.1 (i := 202) rfl ?_
      refine x_aloadz_n F.1 (i := 203) rfl rfl ?_
      refine x_sclen F.1 (i := 204) rfl hp0 ?_
      refine x_icmp_ge F.1 (i := 205) (tgt := 282) rfl (by decide) (fun c => ?_) (fun c => ?_)
      · replace h := if_T c h
        refine x_sipush F.1 (i := 212) rfl sp_941 ?_
        refine x_iload_n F.1 (i := 213) rfl rfl ?_
        refine x_imul F.1 (i := 214) rfl ?_
        refine x_iload_n F.1 (i := 215) rfl rfl ?_
        refine x_iadd F.1 (i := 216) rfl ?_
        refine x_istore F.1 (i := 217) rfl (Nat.le_of_ble_eq_true rfl) (Nat.le_of_ble_eq_true rfl) rfl ?_
        replace h := bd_e h
        refine x_iconst F.1 (i := 218) rfl ic_0 ?_
        refine x_istore F.1 (i := 219) rfl (Nat.le_of_ble_eq_true rfl) (Nat.le_of_ble_eq_true rfl) rfl ?_
        exact x_wk F.1 ((t_LW_draw_l294 F hp0 hQ ih FU) _ _ _ _ _ h) ⟨rfl, rfl, rfl, rfl, rfl, rfl, trivial⟩
      · replace h := if_F c h
        refine x_aloadz_n F.1 (i := 206) rfl rfl ?_
        refine x_iload_n F.1 (i := 207) rfl rfl ?_
        refine x_iconst F.1 (i := 208) rfl ic_4 ?_
        refine x_iadd F.1 (i := 209) rfl ?_
        refine gd_e h (fun g3 h => ?_)
        refine x_scld F.1 (i := 210) rfl hp0 (inb_e g3) ?_
        refine x_goto F.1 (i := 211) (tgt := 289) rfl (by decide) ?_
        refine x_istore F.1 (i := 217) rfl (Nat.le_of_ble_eq_true rfl) (Nat.le_of_ble_eq_true rfl) rfl ?_
        replace h := bd_e h
        refine x_iconst F.1 (i := 218) rfl ic_0 ?_
        refine x_istore F.1 (i := 219) rfl (Nat.le_of_ble_eq_true rfl) (Nat.le_of_ble_eq_true rfl) rfl ?_
        exact x_wk F.1 ((t_LW_draw_l294 F hp0 hQ ih FU) _ _ _ _ _ h) ⟨rfl, rfl, rfl, rfl, rfl, rfl, trivial⟩
set_option maxHeartbeats 4000000 in
theorem t_LW_draw_l204 {w : kx_W} {d : Nat} {Q : Option Value → kx_M → Prop} {G : Nat → List (Option Value) → List Value → kx_M → Prop} (F : Sd w d m_LW_draw Q G) {p0 : Nat × (Nat → Int32)} (hp0 : p0 = kx_sc w) {k65 : Int32 → Int32 → kx_M → Option (Unit × kx_M)} {res : Unit × kx_M} (hQ : Q none res.2) (hk65 : ∀ (x2 : Int32) (x3 : Int32) (M : kx_M), k65 x2 x3 M = some res → G 65 [some (.retAddr 3), some (.ref 136), some (.int x2), some (.int x3), none, none] [] M) :
    ∀ (n : Nat) (x2 : Int32) (x3 : Int32) (x4 : Int32) (x5 : Int32) (M : kx_M),
    f_LW_draw_l204 p0 k65 n x2 x3 x4 x5 M = some res → G 204 [some (.retAddr 3), some (.ref 136), some (.int x2), some (.int x3), some (.int x4), some (.int x5)] [] M := by
  intro n
  induction n with
  | zero =>
    intro x2 x3 x4 x5 M h
    exact absurd h (by rw [f_LW_draw_l204]; exact fun z => nomatch z)
  | succ n ih =>
    intro x2 x3 x4 x5 M h
    rw [f_LW_draw_l204] at h
    refine x_iload F.1 (i := 161) rfl rfl ?_
    refine x_iconst F.1 (i := 162) rfl ic_5 ?_
    refine x_icmp_ge F.1 (i := 163) (tgt := 253) rfl (by decide) (fun c => ?_) (fun c => ?_)
    · replace h := if_T c h
      refine x_iinc F.1 (i := 193) rfl rfl rfl (Nat.le_of_ble_eq_true rfl) rfl ?_
      replace h := bd_e h
      refine x_goto F.1 (i := 194) (tgt := 65) rfl (by decide) ?_
      exact x_wk F.1 (hk65 _ _ _ h) ⟨rfl, rfl, rfl, rfl, trivial⟩
    · replace h := if_F c h
      refine x_aload_n F.1 (i := 164) rfl rfl ?_
      refine x_bipush F.1 (i := 165) rfl bp_37 ?_
      refine x_iconst F.1 (i := 166) rfl ic_5 ?_
      refine x_iload_n F.1 (i := 167) rfl rfl ?_
      refine x_imul F.1 (i := 168) rfl ?_
      refine x_iadd F.1 (i := 169) rfl ?_
      refine x_iload F.1 (i := 170) rfl rfl ?_
      refine x_iadd F.1 (i := 171) rfl ?_
      refine x_iload F.1 (i := 172) rfl rfl ?_
      refine x_iconst F.1 (i := 173) rfl ic_3 ?_
      refine x_icmp_ne F.1 (i := 174) (tgt := 237) rfl (by decide) (fun c => ?_) (fun c => ?_)
      · replace h := if_F c h
        refine x_iload F.1 (i := 183) rfl rfl ?_
        refine x_iload F.1 (i := 184) rfl rfl ?_
        refine x_iconst F.1 (i := 185) rfl ic_1 ?_
        refine x_iadd F.1 (i := 186) rfl ?_
        refine x_ishr F.1 (i := 187) rfl ?_
        refine x_iconst F.1 (i := 188) rfl ic_3 ?_
        refine x_iand F.1 (i := 189) rfl ?_
        refine gd_e h (fun g5 h => ?_)
        refine x_iast F.1 (i := 190) rfl rfl (inb_e g5) ?_
        replace h := bd_e h
        refine x_iinc F.1 (i := 191) rfl rfl rfl (Nat.le_of_ble_eq_true rfl) rfl ?_
        replace h := bd_e h
        refine x_goto F.1 (i := 192) (tgt := 204) rfl (by decide) ?_
        exact x_wk F.1 (ih _ _ _ _ _ h) ⟨rfl, rfl, rfl, rfl, rfl, rfl, trivial⟩
      · replace h := if_T c h
        refine x_aload_n F.1 (i := 175) rfl rfl ?_
        refine x_bipush F.1 (i := 176) rfl bp_10 ?_
        refine x_iconst F.1 (i := 177) rfl ic_3 ?_
        refine x_iload_n F.1 (i := 178) rfl rfl ?_
        refine x_imul F.1 (i := 179) rfl ?_
        refine x_iadd F.1 (i := 180) rfl ?_
        refine gd_e h (fun g2 h => ?_)
        refine x_iald F.1 (i := 181) rfl rfl (inb_e g2) ?_
        refine x_goto F.1 (i := 182) (tgt := 246) rfl (by decide) ?_
        refine gd_e h (fun g3 h => ?_)
        refine x_iast F.1 (i := 190) rfl rfl (inb_e g3) ?_
        replace h := bd_e h
        refine x_iinc F.1 (i := 191) rfl rfl rfl (Nat.le_of_ble_eq_true rfl) rfl ?_
        replace h := bd_e h
        refine x_goto F.1 (i := 192) (tgt := 204) rfl (by decide) ?_
        exact x_wk F.1 (ih _ _ _ _ _ h) ⟨rfl, rfl, rfl, rfl, rfl, rfl, trivial⟩
set_option maxHeartbeats 4000000 in
theorem t_LW_draw_l144 {w : kx_W} {d : Nat} {Q : Option Value → kx_M → Prop} {G : Nat → List (Option Value) → List Value → kx_M → Prop} (F : Sd w d m_LW_draw Q G) {p0 : Nat × (Nat → Int32)} (hp0 : p0 = kx_sc w) {k65 : Int32 → Int32 → kx_M → Option (Unit × kx_M)} {res : Unit × kx_M} (hQ : Q none res.2) (hk65 : ∀ (x2 : Int32) (x3 : Int32) (M : kx_M), k65 x2 x3 M = some res → G 65 [some (.retAddr 3), some (.ref 136), some (.int x2), some (.int x3), none, none] [] M) :
    ∀ (n : Nat) (x2 : Int32) (x3 : Int32) (x4 : Int32) (x5 : Int32) (M : kx_M),
    f_LW_draw_l144 p0 k65 n x2 x3 x4 x5 M = some res → G 144 [some (.retAddr 3), some (.ref 136), some (.int x2), some (.int x3), some (.int x4), some (.int x5)] [] M := by
  intro n
  induction n with
  | zero =>
    intro x2 x3 x4 x5 M h
    exact absurd h (by rw [f_LW_draw_l144]; exact fun z => nomatch z)
  | succ n ih =>
    intro x2 x3 x4 x5 M h
    rw [f_LW_draw_l144] at h
    refine x_iload F.1 (i := 116) rfl rfl ?_
    refine x_iconst F.1 (i := 117) rfl ic_3 ?_
    refine x_icmp_ge F.1 (i := 118) (tgt := 178) rfl (by decide) (fun c => ?_) (fun c => ?_)
    · replace h := if_T c h
      refine x_aload_n F.1 (i := 139) rfl rfl ?_
      refine x_bipush F.1 (i := 140) rfl bp_19 ?_
      refine x_iload_n F.1 (i := 141) rfl rfl ?_
      refine x_iadd F.1 (i := 142) rfl ?_
      refine x_iconst F.1 (i := 143) rfl ic_0 ?_
      refine gd_e h (fun g1 h => ?_)
      refine x_iast F.1 (i := 144) rfl rfl (inb_e g1) ?_
      replace h := bd_e h
      refine x_aload_n F.1 (i := 145) rfl rfl ?_
      refine x_bipush F.1 (i := 146) rfl bp_34 ?_
      refine x_iload_n F.1 (i := 147) rfl rfl ?_
      refine x_iadd F.1 (i := 148) rfl ?_
      refine x_iload F.1 (i := 149) rfl rfl ?_
      refine x_iconst F.1 (i := 150) rfl ic_4 ?_
      refine x_ishr F.1 (i := 151) rfl ?_
      refine x_iconst F.1 (i := 152) rfl ic_1 ?_
      refine x_iand F.1 (i := 153) rfl ?_
      refine x_aload_n F.1 (i := 154) rfl rfl ?_
      refine x_iconst F.1 (i := 155) rfl ic_2 ?_
      refine gd_e h (fun g2 h => ?_)
      refine x_iald F.1 (i := 156) rfl rfl (inb_e g2) ?_
      refine gd_e h (fun g3 h => ?_)
      refine x_irem F.1 (i := 157) (v := 0) rfl (nz_e g3) ?_
      refine gd_e h (fun g4 h => ?_)
      refine x_iast F.1 (i := 158) rfl rfl (inb_e g4) ?_
      replace h := bd_e h
      refine x_iconst F.1 (i := 159) rfl ic_0 ?_
      refine x_istore F.1 (i := 160) rfl (Nat.le_of_ble_eq_true rfl) (Nat.le_of_ble_eq_true rfl) rfl ?_
      exact x_wk F.1 ((t_LW_draw_l204 F hp0 hQ hk65 FU) _ _ _ _ _ h) ⟨rfl, rfl, rfl, rfl, rfl, rfl, trivial⟩
    · replace h := if_F c h
      refine x_aload_n F.1 (i := 119) rfl rfl ?_
      refine x_bipush F.1 (i := 120) rfl bp_10 ?_
      refine x_iconst F.1 (i := 121) rfl ic_3 ?_
      refine x_iload_n F.1 (i := 122) rfl rfl ?_
      refine x_imul F.1 (i := 123) rfl ?_
      refine x_iadd F.1 (i := 124) rfl ?_
      refine x_iload F.1 (i := 125) rfl rfl ?_
      refine x_iadd F.1 (i := 126) rfl ?_
      refine x_iload F.1 (i := 127) rfl rfl ?_
      refine x_iconst F.1 (i := 128) rfl ic_2 ?_
      refine x_iload F.1 (i := 129) rfl rfl ?_
      refine x_imul F.1 (i := 130) rfl ?_
      refine x_iconst F.1 (i := 131) rfl ic_3 ?_
      refine x_iadd F.1 (i := 132) rfl ?_
      refine x_ishr F.1 (i := 133) rfl ?_
      refine x_iconst F.1 (i := 134) rfl ic_3 ?_
      refine x_iand F.1 (i := 135) rfl ?_
      refine gd_e h (fun g5 h => ?_)
      refine x_iast F.1 (i := 136) rfl rfl (inb_e g5) ?_
      replace h := bd_e h
      refine x_iinc F.1 (i := 137) rfl rfl rfl (Nat.le_of_ble_eq_true rfl) rfl ?_
      replace h := bd_e h
      refine x_goto F.1 (i := 138) (tgt := 144) rfl (by decide) ?_
      exact x_wk F.1 (ih _ _ _ _ _ h) ⟨rfl, rfl, rfl, rfl, rfl, rfl, trivial⟩
set_option maxHeartbeats 4000000 in
theorem t_LW_draw_l112 {w : kx_W} {d : Nat} {Q : Option Value → kx_M → Prop} {G : Nat → List (Option Value) → List Value → kx_M → Prop} (F : Sd w d m_LW_draw Q G) {p0 : Nat × (Nat → Int32)} (hp0 : p0 = kx_sc w) {k65 : Int32 → Int32 → kx_M → Option (Unit × kx_M)} {res : Unit × kx_M} (hQ : Q none res.2) (hk65 : ∀ (x2 : Int32) (x3 : Int32) (M : kx_M), k65 x2 x3 M = some res → G 65 [some (.retAddr 3), some (.ref 136), some (.int x2), some (.int x3), none, none] [] M) :
    ∀ (x2 : Int32) (x3 : Int32) (x4 : Int32) (M : kx_M),
    f_LW_draw_l112 p0 k65 x2 x3 x4 M = some res → G 112 [some (.retAddr 3), some (.ref 136), some (.int x2), some (.int x3), some (.int x4), none] [] M := by
  intro x2 x3 x4 M h
  rw [f_LW_draw_l112] at h
  refine x_aload_n F.1 (i := 91) rfl rfl ?_
  refine x_bipush F.1 (i := 92) rfl bp_7 ?_
  refine x_iload_n F.1 (i := 93) rfl rfl ?_
  refine x_iadd F.1 (i := 94) rfl ?_
  refine x_iconst F.1 (i := 95) rfl ic_1 ?_
  refine x_iload F.1 (i := 96) rfl rfl ?_
  refine x_iconst F.1 (i := 97) rfl ic_2 ?_
  refine x_ishr F.1 (i := 98) rfl ?_
  refine x_iconst F.1 (i := 99) rfl ic_3 ?_
  refine x_iand F.1 (i := 100) rfl ?_
  refine x_aload_n F.1 (i := 101) rfl rfl ?_
  refine x_iconst F.1 (i := 102) rfl ic_0 ?_
  refine gd_e h (fun g1 h => ?_)
  refine x_iald F.1 (i := 103) rfl rfl (inb_e g1) ?_
  refine x_iconst F.1 (i := 104) rfl ic_3 ?_
  refine x_icmp_ge F.1 (i := 105) (tgt := 137) rfl (by decide) (fun c => ?_) (fun c => ?_)
  · replace h := if_T c h
    refine x_iconst F.1 (i := 110) rfl ic_3 ?_
    refine x_irem F.1 (i := 111) (v := 0) rfl (by decide) ?_
    refine x_iadd F.1 (i := 112) rfl ?_
    refine gd_e h (fun g2 h => ?_)
    refine x_iast F.1 (i := 113) rfl rfl (inb_e g2) ?_
    replace h := bd_e h
    refine x_iconst F.1 (i := 114) rfl ic_0 ?_
    refine x_istore F.1 (i := 115) rfl (Nat.le_of_ble_eq_true rfl) (Nat.le_of_ble_eq_true rfl) rfl ?_
    exact x_wk F.1 ((t_LW_draw_l144 F hp0 hQ hk65 FU) _ _ _ _ _ h) ⟨rfl, rfl, rfl, rfl, rfl, rfl, trivial⟩
  · replace h := if_F c h
    refine x_aload_n F.1 (i := 106) rfl rfl ?_
    refine x_iconst F.1 (i := 107) rfl ic_0 ?_
    refine gd_e h (fun g3 h => ?_)
    refine x_iald F.1 (i := 108) rfl rfl (inb_e g3) ?_
    refine x_goto F.1 (i := 109) (tgt := 138) rfl (by decide) ?_
    refine gd_e h (fun g4 h => ?_)
    refine x_irem F.1 (i := 111) (v := 0) rfl (nz_e g4) ?_
    refine x_iadd F.1 (i := 112) rfl ?_
    refine gd_e h (fun g5 h => ?_)
    refine x_iast F.1 (i := 113) rfl rfl (inb_e g5) ?_
    replace h := bd_e h
    refine x_iconst F.1 (i := 114) rfl ic_0 ?_
    refine x_istore F.1 (i := 115) rfl (Nat.le_of_ble_eq_true rfl) (Nat.le_of_ble_eq_true rfl) rfl ?_
    exact x_wk F.1 ((t_LW_draw_l144 F hp0 hQ hk65 FU) _ _ _ _ _ h) ⟨rfl, rfl, rfl, rfl, rfl, rfl, trivial⟩
set_option maxHeartbeats 4000000 in
theorem t_LW_draw_l93 {w : kx_W} {d : Nat} {Q : Option Value → kx_M → Prop} {G : Nat → List (Option Value) → List Value → kx_M → Prop} (F : Sd w d m_LW_draw Q G) {p0 : Nat × (Nat → Int32)} (hp0 : p0 = kx_sc w) {k65 : Int32 → Int32 → kx_M → Option (Unit × kx_M)} {res : Unit × kx_M} (hQ : Q none res.2) (hk65 : ∀ (x2 : Int32) (x3 : Int32) (M : kx_M), k65 x2 x3 M = some res → G 65 [some (.retAddr 3), some (.ref 136), some (.int x2), some (.int x3), none, none] [] M) :
    ∀ (x2 : Int32) (x3 : Int32) (s0 : Int32) (M : kx_M),
    f_LW_draw_l93 p0 k65 x2 x3 s0 M = some res → G 93 [some (.retAddr 3), some (.ref 136), some (.int x2), some (.int x3), none, none] [.int s0] M := by
  intro x2 x3 s0 M h
  rw [f_LW_draw_l93] at h
  refine x_istore F.1 (i := 77) rfl (Nat.le_of_ble_eq_true rfl) (Nat.le_of_ble_eq_true rfl) rfl ?_
  refine x_iload_n F.1 (i := 78) rfl rfl ?_
  refine x_iconst F.1 (i := 79) rfl ic_2 ?_
  refine x_icmp_ge F.1 (i := 80) (tgt := 112) rfl (by decide) (fun c => ?_) (fun c => ?_)
  · replace h := if_T c h
    exact x_wk F.1 ((t_LW_draw_l112 F hp0 hQ hk65) _ _ _ _ h) ⟨rfl, rfl, rfl, rfl, rfl, trivial⟩
  · replace h := if_F c h
    refine x_aload_n F.1 (i := 81) rfl rfl ?_
    refine x_iconst F.1 (i := 82) rfl ic_5 ?_
    refine x_iload_n F.1 (i := 83) rfl rfl ?_
    refine x_iadd F.1 (i := 84) rfl ?_
    refine x_iload F.1 (i := 85) rfl rfl ?_
    refine x_iconst F.1 (i := 86) rfl ic_1 ?_
    refine x_ishr F.1 (i := 87) rfl ?_
    refine x_bipush F.1 (i := 88) rfl bp_127 ?_
    refine x_iand F.1 (i := 89) rfl ?_
    refine gd_e h (fun g1 h => ?_)
    refine x_iast F.1 (i := 90) rfl rfl (inb_e g1) ?_
    replace h := bd_e h
    exact x_wk F.1 ((t_LW_draw_l112 F hp0 hQ hk65) _ _ _ _ h) ⟨rfl, rfl, rfl, rfl, rfl, trivial⟩
set_option maxHeartbeats 4000000 in
theorem t_LW_draw_l65 {w : kx_W} {d : Nat} {Q : Option Value → kx_M → Prop} {G : Nat → List (Option Value) → List Value → kx_M → Prop} (F : Sd w d m_LW_draw Q G) {p0 : Nat × (Nat → Int32)} (hp0 : p0 = kx_sc w) {res : Unit × kx_M} (hQ : Q none res.2) :
    ∀ (n : Nat) (x2 : Int32) (x3 : Int32) (M : kx_M),
    f_LW_draw_l65 p0 n x2 x3 M = some res → G 65 [some (.retAddr 3), some (.ref 136), some (.int x2), some (.int x3), none, none] [] M := by
  intro n
  induction n with
  | zero =>
    intro x2 x3 M h
    exact absurd h (by rw [f_LW_draw_l65]; exact fun z => nomatch z)
  | succ n ih =>
    intro x2 x3 M h
    rw [f_LW_draw_l65] at h
    refine x_iload_n F.1 (i := 57) rfl rfl ?_
    refine x_iconst F.1 (i := 58) rfl ic_3 ?_
    refine x_icmp_ge F.1 (i := 59) (tgt := 259) rfl (by decide) (fun c => ?_) (fun c => ?_)
    · replace h := if_T c h
      refine x_iconst F.1 (i := 195) rfl ic_1 ?_
      refine x_istore_n F.1 (i := 196) rfl (Nat.le_of_ble_eq_true rfl) (Nat.le_of_ble_eq_true rfl) rfl ?_
      exact x_wk F.1 ((t_LW_draw_l261 F hp0 hQ FU) _ _ _ h) ⟨rfl, rfl, rfl, rfl, trivial⟩
    · replace h := if_F c h
      refine x_iload_n F.1 (i := 60) rfl rfl ?_
      refine x_iconst F.1 (i := 61) rfl ic_1 ?_
      refine x_iadd F.1 (i := 62) rfl ?_
      refine x_aloadz_n F.1 (i := 63) rfl rfl ?_
      refine x_sclen F.1 (i := 64) rfl hp0 ?_
      refine x_icmp_ge F.1 (i := 65) (tgt := 86) rfl (by decide) (fun c => ?_) (fun c => ?_)
      · replace h := if_T c h
        refine x_sipush F.1 (i := 72) rfl sp_2081 ?_
        refine x_iload_n F.1 (i := 73) rfl rfl ?_
        refine x_imul F.1 (i := 74) rfl ?_
        refine x_iload_n F.1 (i := 75) rfl rfl ?_
        refine x_iadd F.1 (i := 76) rfl ?_
        exact x_wk F.1 ((t_LW_draw_l93 F hp0 hQ ih) _ _ _ _ h) ⟨rfl, rfl, rfl, rfl, trivial⟩
      · replace h := if_F c h
        refine x_aloadz_n F.1 (i := 66) rfl rfl ?_
        refine x_iload_n F.1 (i := 67) rfl rfl ?_
        refine x_iconst F.1 (i := 68) rfl ic_1 ?_
        refine x_iadd F.1 (i := 69) rfl ?_
        refine gd_e h (fun g2 h => ?_)
        refine x_scld F.1 (i := 70) rfl hp0 (inb_e g2) ?_
        refine x_goto F.1 (i := 71) (tgt := 93) rfl (by decide) ?_
        exact x_wk F.1 ((t_LW_draw_l93 F hp0 hQ ih) _ _ _ _ h) ⟨rfl, rfl, rfl, rfl, trivial⟩
set_option maxHeartbeats 4000000 in
theorem t_LW_draw_l14 {w : kx_W} {d : Nat} {Q : Option Value → kx_M → Prop} {G : Nat → List (Option Value) → List Value → kx_M → Prop} (F : Sd w d m_LW_draw Q G) {p0 : Nat × (Nat → Int32)} (hp0 : p0 = kx_sc w) {res : Unit × kx_M} (hQ : Q none res.2) :
    ∀ (s0 : Int32) (M : kx_M),
    f_LW_draw_l14 p0 s0 M = some res → G 14 [some (.retAddr 3), some (.ref 136), none, none, none, none] [.int s0] M := by
  intro s0 M h
  rw [f_LW_draw_l14] at h
  refine x_istore_n F.1 (i := 8) rfl (Nat.le_of_ble_eq_true rfl) (Nat.le_of_ble_eq_true rfl) rfl ?_
  refine x_aload_n F.1 (i := 9) rfl rfl ?_
  refine x_iconst F.1 (i := 10) rfl ic_0 ?_
  refine x_iconst F.1 (i := 11) rfl ic_1 ?_
  refine x_iload_n F.1 (i := 12) rfl rfl ?_
  refine x_bipush F.1 (i := 13) rfl bp_7 ?_
  refine x_iand F.1 (i := 14) rfl ?_
  refine x_iconst F.1 (i := 15) rfl ic_5 ?_
  refine x_irem F.1 (i := 16) (v := 0) rfl (by decide) ?_
  refine x_iadd F.1 (i := 17) rfl ?_
  refine gd_e h (fun g1 h => ?_)
  refine x_iast F.1 (i := 18) rfl rfl (inb_e g1) ?_
  replace h := bd_e h
  refine x_aload_n F.1 (i := 19) rfl rfl ?_
  refine x_iconst F.1 (i := 20) rfl ic_1 ?_
  refine x_iconst F.1 (i := 21) rfl ic_1 ?_
  refine x_iload_n F.1 (i := 22) rfl rfl ?_
  refine x_iconst F.1 (i := 23) rfl ic_2 ?_
  refine x_ishr F.1 (i := 24) rfl ?_
  refine x_bipush F.1 (i := 25) rfl bp_31 ?_
  refine x_iand F.1 (i := 26) rfl ?_
  refine x_iadd F.1 (i := 27) rfl ?_
  refine gd_e h (fun g2 h => ?_)
  refine x_iast F.1 (i := 28) rfl rfl (inb_e g2) ?_
  replace h := bd_e h
  refine x_aload_n F.1 (i := 29) rfl rfl ?_
  refine x_iconst F.1 (i := 30) rfl ic_2 ?_
  refine x_iconst F.1 (i := 31) rfl ic_1 ?_
  refine x_iload_n F.1 (i := 32) rfl rfl ?_
  refine x_iconst F.1 (i := 33) rfl ic_3 ?_
  refine x_ishr F.1 (i := 34) rfl ?_
  refine x_iconst F.1 (i := 35) rfl ic_1 ?_
  refine x_iand F.1 (i := 36) rfl ?_
  refine x_iadd F.1 (i := 37) rfl ?_
  refine gd_e h (fun g3 h => ?_)
  refine x_iast F.1 (i := 38) rfl rfl (inb_e g3) ?_
  replace h := bd_e h
  refine x_aload_n F.1 (i := 39) rfl rfl ?_
  refine x_iconst F.1 (i := 40) rfl ic_3 ?_
  refine x_iload_n F.1 (i := 41) rfl rfl ?_
  refine x_iconst F.1 (i := 42) rfl ic_5 ?_
  refine x_ishr F.1 (i := 43) rfl ?_
  refine x_iconst F.1 (i := 44) rfl ic_3 ?_
  refine x_iand F.1 (i := 45) rfl ?_
  refine gd_e h (fun g4 h => ?_)
  refine x_iast F.1 (i := 46) rfl rfl (inb_e g4) ?_
  replace h := bd_e h
  refine x_aload_n F.1 (i := 47) rfl rfl ?_
  refine x_iconst F.1 (i := 48) rfl ic_4 ?_
  refine x_iload_n F.1 (i := 49) rfl rfl ?_
  refine x_iconst F.1 (i := 50) rfl ic_4 ?_
  refine x_ishr F.1 (i := 51) rfl ?_
  refine x_iconst F.1 (i := 52) rfl ic_3 ?_
  refine x_iand F.1 (i := 53) rfl ?_
  refine gd_e h (fun g5 h => ?_)
  refine x_iast F.1 (i := 54) rfl rfl (inb_e g5) ?_
  replace h := bd_e h
  refine x_iconst F.1 (i := 55) rfl ic_0 ?_
  refine x_istore_n F.1 (i := 56) rfl (Nat.le_of_ble_eq_true rfl) (Nat.le_of_ble_eq_true rfl) rfl ?_
  exact x_wk F.1 ((t_LW_draw_l65 F hp0 hQ FU) _ _ _ h) ⟨rfl, rfl, rfl, rfl, trivial⟩
set_option maxHeartbeats 4000000 in
theorem t_LW_draw {w : kx_W} {d : Nat} {M : kx_M} {Q : Option Value → kx_M → Prop} {p0 : Nat × (Nat → Int32)} {r : Unit} {M' : kx_M} (hp0 : p0 = kx_sc w) (h : f_LW_draw p0 M = some (r, M')) (hQ : Q none M') : Ct w d m_LW_draw [.retAddr 3, .ref 136] M Q := by
  refine mk_ct ok_LW_draw (Nat.le_of_ble_eq_true rfl) (fun G F => ?_)
  rw [f_LW_draw] at h
  show G 0 [some (.retAddr 3), some (.ref 136), none, none, none, none] [] M
  refine x_aloadz_n F.1 (i := 0) rfl rfl ?_
  refine x_sclen F.1 (i := 1) rfl hp0 ?_
  refine x_if_ne F.1 (i := 2) (tgt := 11) rfl (by decide) (fun c => ?_) (fun c => ?_)
  · replace h := if_F c h
    refine x_aloadz_n F.1 (i := 5) rfl rfl ?_
    refine x_iconst F.1 (i := 6) rfl ic_0 ?_
    refine gd_e h (fun g2 h => ?_)
    refine x_scld F.1 (i := 7) rfl hp0 (inb_e g2) ?_
    exact x_wk F.1 ((t_LW_draw_l14 F hp0 (res := (r, M')) hQ) _ _ h) ⟨rfl, rfl, trivial⟩
  · replace h := if_T c h
    refine x_sipush F.1 (i := 3) rfl sp_7919 ?_
    refine x_goto F.1 (i := 4) (tgt := 14) rfl (by decide) ?_
    exact x_wk F.1 ((t_LW_draw_l14 F hp0 (res := (r, M')) hQ) _ _ h) ⟨rfl, rfl, trivial⟩
set_option maxHeartbeats 4000000 in
theorem t_LW_size_l4 {w : kx_W} {d : Nat} {Q : Option Value → kx_M → Prop} {G : Nat → List (Option Value) → List Value → kx_M → Prop} (F : Sd w d m_LW_size Q G) {p0 : Int32} {res : Int32 × kx_M} (hQ : Q (some (.int res.1)) res.2) :
    ∀ (n : Nat) (x1 : Int32) (x2 : Int32) (M : kx_M),
    f_LW_size_l4 p0 n x1 x2 M = some res → G 4 [some (.int p0), some (.int x1), some (.int x2)] [] M := by
  intro n
  induction n with
  | zero =>
    intro x1 x2 M h
    exact absurd h (by rw [f_LW_size_l4]; exact fun z => nomatch z)
  | succ n ih =>
    intro x1 x2 M h
    rw [f_LW_size_l4] at h
    refine x_iload_n F.1 (i := 4) rfl rfl ?_
    refine x_bipush F.1 (i := 5) rfl bp_16 ?_
    refine x_icmp_ge F.1 (i := 6) (tgt := 24) rfl (by decide) (fun c => ?_) (fun c => ?_)
    · replace h := if_T c h
      refine x_iload_n F.1 (i := 17) rfl rfl ?_
      exact x_iretf F (i := 18) rfl rfl h hQ
    · replace h := if_F c h
      refine x_iload_n F.1 (i := 7) rfl rfl ?_
      refine x_iload_n F.1 (i := 8) rfl rfl ?_
      refine x_iload_n F.1 (i := 9) rfl rfl ?_
      refine x_ishr F.1 (i := 10) rfl ?_
      refine x_iconst F.1 (i := 11) rfl ic_1 ?_
      refine x_iand F.1 (i := 12) rfl ?_
      refine x_iadd F.1 (i := 13) rfl ?_
      refine x_istore_n F.1 (i := 14) rfl (Nat.le_of_ble_eq_true rfl) (Nat.le_of_ble_eq_true rfl) rfl ?_
      replace h := bd_e h
      refine x_iinc F.1 (i := 15) rfl rfl rfl (Nat.le_of_ble_eq_true rfl) rfl ?_
      replace h := bd_e h
      refine x_goto F.1 (i := 16) (tgt := 4) rfl (by decide) ?_
      exact x_wk F.1 (ih _ _ _ h) ⟨rfl, rfl, rfl, trivial⟩
set_option maxHeartbeats 4000000 in
theorem t_LW_size {w : kx_W} {d : Nat} {M : kx_M} {Q : Option Value → kx_M → Prop} {p0 : Int32} {r : Int32} {M' : kx_M} (h : f_LW_size p0 M = some (r, M')) (hQ : Q (some (.int r)) M') : Ct w d m_LW_size [.int p0] M Q := by
  refine mk_ct ok_LW_size (Nat.le_of_ble_eq_true rfl) (fun G F => ?_)
  rw [f_LW_size] at h
  show G 0 [some (.int p0), none, none] [] M
  refine x_iconst F.1 (i := 0) rfl ic_0 ?_
  refine x_istore_n F.1 (i := 1) rfl (Nat.le_of_ble_eq_true rfl) (Nat.le_of_ble_eq_true rfl) rfl ?_
  refine x_iconst F.1 (i := 2) rfl ic_0 ?_
  refine x_istore_n F.1 (i := 3) rfl (Nat.le_of_ble_eq_true rfl) (Nat.le_of_ble_eq_true rfl) rfl ?_
  exact x_wk F.1 ((t_LW_size_l4 F (res := (r, M')) hQ FU) _ _ _ h) ⟨rfl, rfl, rfl, trivial⟩
