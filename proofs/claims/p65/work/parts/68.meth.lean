set_option maxRecDepth 20000 in
set_option maxHeartbeats 4000000 in
theorem t_LW_law_l1541 {w : kx_W} {d : Nat} {Q : Option Value → kx_M → Prop} {G : Nat → List (Option Value) → List Value → kx_M → Prop} (F : Sd w (d + 9) m_LW_law Q G) {p0 : Nat × (Nat → Int32)} (hp0 : p0 = kx_sc w) {k84 : Int32 → Int32 → Int32 → kx_M → Option (Int32 × kx_M)} {res : Int32 × kx_M} (hQ : Q (some (.int res.1)) res.2) (hk84 : ∀ (x4 : Int32) (x5 : Int32) (x6 : Int32) (M : kx_M), k84 x4 x5 x6 M = some res → G 84 [some (.retAddr 3), some (.ref 0), none, some (.ref 136), some (.int x4), some (.int x5), some (.int x6), none, none, none, none, none, none, none, none, none, none, none, none] [] M) :
    ∀ (x4 : Int32) (x5 : Int32) (x6 : Int32) (x7 : Int32) (x8 : Int32) (M : kx_M),
    f_LW_law_l1541 p0 k84 x4 x5 x6 x7 x8 M = some res → G 1541 [some (.retAddr 3), some (.ref 0), none, some (.ref 136), some (.int x4), some (.int x5), some (.int x6), some (.int x7), some (.int x8), none, none, none, none, none, none, none, none, none, none] [] M := by
  intro x4 x5 x6 x7 x8 M h
  rw [f_LW_law_l1541] at h
  refine x_iload F.1 (i := 833) rfl rfl ?_
  refine x_if_ne F.1 (i := 834) (tgt := 1549) rfl (by decide) (fun c => ?_) (fun c => ?_)
  · replace h := if_F c h
    refine x_iload F.1 (i := 836) rfl rfl ?_
    refine x_iconst F.1 (i := 837) rfl ic_4 ?_
    refine x_ishr F.1 (i := 838) rfl ?_
    refine x_iconst F.1 (i := 839) rfl ic_1 ?_
    refine x_iand F.1 (i := 840) rfl ?_
    refine x_if_ne F.1 (i := 841) (tgt := 1587) rfl (by decide) (fun c => ?_) (fun c => ?_)
    · replace h := if_F c h
      refine x_aload_n F.1 (i := 862) rfl rfl ?_
      refine x_iload F.1 (i := 863) rfl rfl ?_
      refine x_iconst F.1 (i := 864) rfl ic_5 ?_
      refine x_ishr F.1 (i := 865) rfl ?_
      refine x_iconst F.1 (i := 866) rfl ic_3 ?_
      refine x_iand F.1 (i := 867) rfl ?_
      refine x_iload F.1 (i := 868) rfl rfl ?_
      refine gd_e h (fun g8 h => ?_)
      refine x_irem F.1 (i := 869) (v := 0) rfl (nz_e g8) ?_
      refine x_iload F.1 (i := 870) rfl rfl ?_
      refine x_bipush F.1 (i := 871) rfl bp_6 ?_
      refine x_ishr F.1 (i := 872) rfl ?_
      refine x_bipush F.1 (i := 873) rfl bp_7 ?_
      refine x_iand F.1 (i := 874) rfl ?_
      refine x_aload_n F.1 (i := 875) rfl rfl ?_
      refine x_iconst F.1 (i := 876) rfl ic_0 ?_
      refine gd_e h (fun g9 h => ?_)
      refine x_iald F.1 (i := 877) rfl rfl (inb_e g9) ?_
      refine gd_e h (fun g10 h => ?_)
      refine x_irem F.1 (i := 878) (v := 0) rfl (nz_e g10) ?_
      refine cal_e h (fun r11 M2 e12 h => ?_)
      refine x_cV2i F.1 (i := 879) rfl ml_LW_162 ok_KT_darn rfl (Nat.le_of_ble_eq_true rfl) (Nat.le_of_ble_eq_true rfl) (fun _ => t_KT_darn e12) ?_
      refine x_pop F.1 (i := 880) rfl rfl ?_
      refine x_iinc F.1 (i := 881) rfl rfl rfl (Nat.le_of_ble_eq_true rfl) rfl ?_
      replace h := bd_e h
      refine x_goto F.1 (i := 882) (tgt := 84) rfl (by decide) ?_
      exact x_wk F.1 (hk84 _ _ _ _ h) ⟨rfl, rfl, rfl, rfl, rfl, rfl, trivial⟩
    · replace h := if_T c h
      refine x_aload_n F.1 (i := 842) rfl rfl ?_
      refine x_iload F.1 (i := 843) rfl rfl ?_
      refine x_iconst F.1 (i := 844) rfl ic_5 ?_
      refine x_ishr F.1 (i := 845) rfl ?_
      refine x_iconst F.1 (i := 846) rfl ic_3 ?_
      refine x_iand F.1 (i := 847) rfl ?_
      refine x_iload F.1 (i := 848) rfl rfl ?_
      refine gd_e h (fun g2 h => ?_)
      refine x_irem F.1 (i := 849) (v := 0) rfl (nz_e g2) ?_
      refine x_iload F.1 (i := 850) rfl rfl ?_
      refine x_bipush F.1 (i := 851) rfl bp_6 ?_
      refine x_ishr F.1 (i := 852) rfl ?_
      refine x_bipush F.1 (i := 853) rfl bp_7 ?_
      refine x_iand F.1 (i := 854) rfl ?_
      refine x_aload_n F.1 (i := 855) rfl rfl ?_
      refine x_iconst F.1 (i := 856) rfl ic_0 ?_
      refine gd_e h (fun g3 h => ?_)
      refine x_iald F.1 (i := 857) rfl rfl (inb_e g3) ?_
      refine gd_e h (fun g4 h => ?_)
      refine x_irem F.1 (i := 858) (v := 0) rfl (nz_e g4) ?_
      refine cal_e h (fun r5 M1 e6 h => ?_)
      refine x_cV2i F.1 (i := 859) rfl ml_LW_249 ok_KT_moth rfl (Nat.le_of_ble_eq_true rfl) (Nat.le_of_ble_eq_true rfl) (fun _ => t_KT_moth e6) ?_
      refine x_pop F.1 (i := 860) rfl rfl ?_
      refine x_goto F.1 (i := 861) (tgt := 1613) rfl (by decide) ?_
      refine x_iinc F.1 (i := 881) rfl rfl rfl (Nat.le_of_ble_eq_true rfl) rfl ?_
      replace h := bd_e h
      refine x_goto F.1 (i := 882) (tgt := 84) rfl (by decide) ?_
      exact x_wk F.1 (hk84 _ _ _ _ h) ⟨rfl, rfl, rfl, rfl, rfl, rfl, trivial⟩
  · replace h := if_T c h
    refine x_goto F.1 (i := 835) (tgt := 1613) rfl (by decide) ?_
    refine x_iinc F.1 (i := 881) rfl rfl rfl (Nat.le_of_ble_eq_true rfl) rfl ?_
    replace h := bd_e h
    refine x_goto F.1 (i := 882) (tgt := 84) rfl (by decide) ?_
    exact x_wk F.1 (hk84 _ _ _ _ h) ⟨rfl, rfl, rfl, rfl, rfl, rfl, trivial⟩
set_option maxRecDepth 20000 in
set_option maxHeartbeats 4000000 in
theorem t_LW_law_l1524 {w : kx_W} {d : Nat} {Q : Option Value → kx_M → Prop} {G : Nat → List (Option Value) → List Value → kx_M → Prop} (F : Sd w (d + 9) m_LW_law Q G) {p0 : Nat × (Nat → Int32)} (hp0 : p0 = kx_sc w) {k1541 : Int32 → Int32 → Int32 → Int32 → Int32 → kx_M → Option (Int32 × kx_M)} {res : Int32 × kx_M} (hQ : Q (some (.int res.1)) res.2) (hk1541 : ∀ (x4 : Int32) (x5 : Int32) (x6 : Int32) (x7 : Int32) (x8 : Int32) (M : kx_M), k1541 x4 x5 x6 x7 x8 M = some res → G 1541 [some (.retAddr 3), some (.ref 0), none, some (.ref 136), some (.int x4), some (.int x5), some (.int x6), some (.int x7), some (.int x8), none, none, none, none, none, none, none, none, none, none] [] M) :
    ∀ (x4 : Int32) (x5 : Int32) (x6 : Int32) (x7 : Int32) (x8 : Int32) (x12 : Int32) (x14 : Int32) (s0 : Int32) (M : kx_M),
    f_LW_law_l1524 p0 k1541 x4 x5 x6 x7 x8 x12 x14 s0 M = some res → G 1524 [some (.retAddr 3), some (.ref 0), none, some (.ref 136), some (.int x4), some (.int x5), some (.int x6), some (.int x7), some (.int x8), none, none, none, some (.int x12), none, some (.int x14), none, none, none, none] [.int s0] M := by
  intro x4 x5 x6 x7 x8 x12 x14 s0 M h
  rw [f_LW_law_l1524] at h
  refine x_iload F.1 (i := 824) rfl rfl ?_
  refine x_iload F.1 (i := 825) rfl rfl ?_
  refine x_icmp_gt F.1 (i := 826) (tgt := 1535) rfl (by decide) (fun c => ?_) (fun c => ?_)
  · replace h := if_T c h
    refine x_iconst F.1 (i := 829) rfl ic_0 ?_
    refine x_icmp_eq F.1 (i := 830) (tgt := 1541) rfl (by decide) (fun c => ?_) (fun c => ?_)
    · replace h := if_T c h
      exact x_wk F.1 (hk1541 _ _ _ _ _ _ h) ⟨rfl, rfl, rfl, rfl, rfl, rfl, rfl, rfl, trivial⟩
    · replace h := if_F c h
      refine x_iconst F.1 (i := 831) rfl ic_0 ?_
      exact x_zretf F (i := 832) rfl rfl (Or.inl rfl) h hQ
  · replace h := if_F c h
    refine x_iconst F.1 (i := 827) rfl ic_1 ?_
    refine x_goto F.1 (i := 828) (tgt := 1536) rfl (by decide) ?_
    refine x_icmp_eq F.1 (i := 830) (tgt := 1541) rfl (by decide) (fun c => ?_) (fun c => ?_)
    · replace h := if_T c h
      exact x_wk F.1 (hk1541 _ _ _ _ _ _ h) ⟨rfl, rfl, rfl, rfl, rfl, rfl, rfl, rfl, trivial⟩
    · replace h := if_F c h
      refine x_iconst F.1 (i := 831) rfl ic_0 ?_
      exact x_zretf F (i := 832) rfl rfl (Or.inl rfl) h hQ
set_option maxRecDepth 20000 in
set_option maxHeartbeats 4000000 in
theorem t_LW_law_l1471 {w : kx_W} {d : Nat} {Q : Option Value → kx_M → Prop} {G : Nat → List (Option Value) → List Value → kx_M → Prop} (F : Sd w (d + 9) m_LW_law Q G) {p0 : Nat × (Nat → Int32)} (hp0 : p0 = kx_sc w) {k84 : Int32 → Int32 → Int32 → kx_M → Option (Int32 × kx_M)} {res : Int32 × kx_M} (hQ : Q (some (.int res.1)) res.2) (hk84 : ∀ (x4 : Int32) (x5 : Int32) (x6 : Int32) (M : kx_M), k84 x4 x5 x6 M = some res → G 84 [some (.retAddr 3), some (.ref 0), none, some (.ref 136), some (.int x4), some (.int x5), some (.int x6), none, none, none, none, none, none, none, none, none, none, none, none] [] M) :
    ∀ (x4 : Int32) (x5 : Int32) (x6 : Int32) (x7 : Int32) (x8 : Int32) (x9 : Int32) (x12 : Int32) (x13 : Int32) (s0 : Int32) (M : kx_M),
    f_LW_law_l1471 p0 k84 x4 x5 x6 x7 x8 x9 x12 x13 s0 M = some res → G 1471 [some (.retAddr 3), some (.ref 0), none, some (.ref 136), some (.int x4), some (.int x5), some (.int x6), some (.int x7), some (.int x8), some (.int x9), none, none, some (.int x12), some (.int x13), none, none, none, none, none] [.int s0] M := by
  intro x4 x5 x6 x7 x8 x9 x12 x13 s0 M h
  rw [f_LW_law_l1471] at h
  refine x_istore F.1 (i := 796) rfl (Nat.le_of_ble_eq_true rfl) (Nat.le_of_ble_eq_true rfl) rfl ?_
  refine x_aload_n F.1 (i := 797) rfl rfl ?_
  refine x_iload F.1 (i := 798) rfl rfl ?_
  refine cal_e h (fun r1 M1 e2 h => ?_)
  refine x_cV1i F.1 (i := 799) rfl ml_LW_244 ok_KT_year rfl (Nat.le_of_ble_eq_true rfl) (Nat.le_of_ble_eq_true rfl) (fun _ => t_KT_year e2) ?_
  refine x_iload F.1 (i := 800) rfl rfl ?_
  refine x_iload F.1 (i := 801) rfl rfl ?_
  refine x_isub F.1 (i := 802) rfl ?_
  refine x_icmp_ne F.1 (i := 803) (tgt := 1498) rfl (by decide) (fun c => ?_) (fun c => ?_)
  · replace h := if_F c h
    refine x_iconst F.1 (i := 809) rfl ic_0 ?_
    exact x_zretf F (i := 810) rfl rfl (Or.inl rfl) h hQ
  · replace h := if_T c h
    refine x_aload_n F.1 (i := 804) rfl rfl ?_
    refine x_bipush F.1 (i := 805) rfl bp_6 ?_
    refine cal_e h (fun r3 M2 e4 h => ?_)
    refine x_cV1i F.1 (i := 806) rfl ml_LW_133 ok_KT_many rfl (Nat.le_of_ble_eq_true rfl) (Nat.le_of_ble_eq_true rfl) (fun _ => t_KT_many e4) ?_
    refine x_iload F.1 (i := 807) rfl rfl ?_
    refine x_icmp_eq F.1 (i := 808) (tgt := 1500) rfl (by decide) (fun c => ?_) (fun c => ?_)
    · replace h := if_T c h
      refine x_aload_n F.1 (i := 811) rfl rfl ?_
      refine x_iconst F.1 (i := 812) rfl ic_3 ?_
      refine gd_e h (fun g5 h => ?_)
      refine x_iald F.1 (i := 813) rfl rfl (inb_e g5) ?_
      refine x_if_le F.1 (i := 814) (tgt := 1541) rfl (by decide) (fun c => ?_) (fun c => ?_)
      · replace h := if_T c h
        exact x_wk F.1 ((t_LW_law_l1541 F hp0 hQ hk84) _ _ _ _ _ _ h) ⟨rfl, rfl, rfl, rfl, rfl, rfl, rfl, rfl, trivial⟩
      · replace h := if_F c h
        refine x_iload F.1 (i := 815) rfl rfl ?_
        refine x_if_lt F.1 (i := 816) (tgt := 1541) rfl (by decide) (fun c => ?_) (fun c => ?_)
        · replace h := if_T c h
          exact x_wk F.1 ((t_LW_law_l1541 F hp0 hQ hk84) _ _ _ _ _ _ h) ⟨rfl, rfl, rfl, rfl, rfl, rfl, rfl, rfl, trivial⟩
        · replace h := if_F c h
          refine x_aload_n F.1 (i := 817) rfl rfl ?_
          refine x_iconst F.1 (i := 818) rfl ic_0 ?_
          refine cal_e h (fun r6 M3 e7 h => ?_)
          refine x_cV1i F.1 (i := 819) rfl ml_LW_247 ok_KT_said rfl (Nat.le_of_ble_eq_true rfl) (Nat.le_of_ble_eq_true rfl) (fun _ => t_KT_said e7) ?_
          refine x_if_ne F.1 (i := 820) (tgt := 1523) rfl (by decide) (fun c => ?_) (fun c => ?_)
          · replace h := if_F c h
            refine x_iconst F.1 (i := 823) rfl ic_0 ?_
            exact x_wk F.1 ((t_LW_law_l1524 F hp0 hQ (t_LW_law_l1541 F hp0 hQ hk84)) _ _ _ _ _ _ _ _ _ h) ⟨rfl, rfl, rfl, rfl, rfl, rfl, rfl, rfl, rfl, rfl, trivial⟩
          · replace h := if_T c h
            refine x_iconst F.1 (i := 821) rfl ic_1 ?_
            refine x_goto F.1 (i := 822) (tgt := 1524) rfl (by decide) ?_
            exact x_wk F.1 ((t_LW_law_l1524 F hp0 hQ (t_LW_law_l1541 F hp0 hQ hk84)) _ _ _ _ _ _ _ _ _ h) ⟨rfl, rfl, rfl, rfl, rfl, rfl, rfl, rfl, rfl, rfl, trivial⟩
    · replace h := if_F c h
      refine x_iconst F.1 (i := 809) rfl ic_0 ?_
      exact x_zretf F (i := 810) rfl rfl (Or.inl rfl) h hQ
set_option maxRecDepth 20000 in
set_option maxHeartbeats 4000000 in
theorem t_LW_law_l1439 {w : kx_W} {d : Nat} {Q : Option Value → kx_M → Prop} {G : Nat → List (Option Value) → List Value → kx_M → Prop} (F : Sd w (d + 9) m_LW_law Q G) {p0 : Nat × (Nat → Int32)} (hp0 : p0 = kx_sc w) {k84 : Int32 → Int32 → Int32 → kx_M → Option (Int32 × kx_M)} {res : Int32 × kx_M} (hQ : Q (some (.int res.1)) res.2) (hk84 : ∀ (x4 : Int32) (x5 : Int32) (x6 : Int32) (M : kx_M), k84 x4 x5 x6 M = some res → G 84 [some (.retAddr 3), some (.ref 0), none, some (.ref 136), some (.int x4), some (.int x5), some (.int x6), none, none, none, none, none, none, none, none, none, none, none, none] [] M) :
    ∀ (x4 : Int32) (x5 : Int32) (x6 : Int32) (x7 : Int32) (x8 : Int32) (x9 : Int32) (M : kx_M),
    f_LW_law_l1439 p0 k84 x4 x5 x6 x7 x8 x9 M = some res → G 1439 [some (.retAddr 3), some (.ref 0), none, some (.ref 136), some (.int x4), some (.int x5), some (.int x6), some (.int x7), some (.int x8), some (.int x9), none, none, none, none, none, none, none, none, none] [] M := by
  intro x4 x5 x6 x7 x8 x9 M h
  rw [f_LW_law_l1439] at h
  refine x_iconst F.1 (i := 777) rfl ic_1 ?_
  refine x_iload F.1 (i := 778) rfl rfl ?_
  refine x_bipush F.1 (i := 779) rfl bp_7 ?_
  refine x_iand F.1 (i := 780) rfl ?_
  refine x_iadd F.1 (i := 781) rfl ?_
  refine x_istore F.1 (i := 782) rfl (Nat.le_of_ble_eq_true rfl) (Nat.le_of_ble_eq_true rfl) rfl ?_
  replace h := bd_e h
  refine x_aload_n F.1 (i := 783) rfl rfl ?_
  refine x_iload F.1 (i := 784) rfl rfl ?_
  refine cal_e h (fun r2 M1 e3 h => ?_)
  refine x_cV1i F.1 (i := 785) rfl ml_LW_238 ok_KT_undoneIn rfl (Nat.le_of_ble_eq_true rfl) (Nat.le_of_ble_eq_true rfl) (fun _ => t_KT_undoneIn e3) ?_
  refine x_istore F.1 (i := 786) rfl (Nat.le_of_ble_eq_true rfl) (Nat.le_of_ble_eq_true rfl) rfl ?_
  refine x_aload_n F.1 (i := 787) rfl rfl ?_
  refine x_iconst F.1 (i := 788) rfl ic_3 ?_
  refine gd_e h (fun g4 h => ?_)
  refine x_iald F.1 (i := 789) rfl rfl (inb_e g4) ?_
  refine x_if_ne F.1 (i := 790) (tgt := 1466) rfl (by decide) (fun c => ?_) (fun c => ?_)
  · replace h := if_F c h
    refine x_aload_n F.1 (i := 793) rfl rfl ?_
    refine x_iconst F.1 (i := 794) rfl ic_0 ?_
    refine cal_e h (fun r5 M2 e6 h => ?_)
    refine x_cV1i F.1 (i := 795) rfl ml_LW_241 ok_KT_lost rfl (Nat.le_of_ble_eq_true rfl) (Nat.le_of_ble_eq_true rfl) (fun _ => t_KT_lost e6) ?_
    exact x_wk F.1 ((t_LW_law_l1471 F hp0 hQ hk84) _ _ _ _ _ _ _ _ _ _ h) ⟨rfl, rfl, rfl, rfl, rfl, rfl, rfl, rfl, rfl, rfl, rfl, trivial⟩
  · replace h := if_T c h
    refine x_iconst F.1 (i := 791) rfl ic_n1 ?_
    refine x_goto F.1 (i := 792) (tgt := 1471) rfl (by decide) ?_
    exact x_wk F.1 ((t_LW_law_l1471 F hp0 hQ hk84) _ _ _ _ _ _ _ _ _ _ h) ⟨rfl, rfl, rfl, rfl, rfl, rfl, rfl, rfl, rfl, rfl, rfl, trivial⟩
set_option maxRecDepth 20000 in
set_option maxHeartbeats 4000000 in
theorem t_LW_law_l1361 {w : kx_W} {d : Nat} {Q : Option Value → kx_M → Prop} {G : Nat → List (Option Value) → List Value → kx_M → Prop} (F : Sd w (d + 9) m_LW_law Q G) {p0 : Nat × (Nat → Int32)} (hp0 : p0 = kx_sc w) {k1439 : Int32 → Int32 → Int32 → Int32 → Int32 → Int32 → kx_M → Option (Int32 × kx_M)} {res : Int32 × kx_M} (hQ : Q (some (.int res.1)) res.2) (hk1439 : ∀ (x4 : Int32) (x5 : Int32) (x6 : Int32) (x7 : Int32) (x8 : Int32) (x9 : Int32) (M : kx_M), k1439 x4 x5 x6 x7 x8 x9 M = some res → G 1439 [some (.retAddr 3), some (.ref 0), none, some (.ref 136), some (.int x4), some (.int x5), some (.int x6), some (.int x7), some (.int x8), some (.int x9), none, none, none, none, none, none, none, none, none] [] M) :
    ∀ (n : Nat) (x4 : Int32) (x5 : Int32) (x6 : Int32) (x7 : Int32) (x8 : Int32) (x9 : Int32) (x15 : Int32) (M : kx_M),
    f_LW_law_l1361 p0 k1439 n x4 x5 x6 x7 x8 x9 x15 M = some res → G 1361 [some (.retAddr 3), some (.ref 0), none, some (.ref 136), some (.int x4), some (.int x5), some (.int x6), some (.int x7), some (.int x8), some (.int x9), none, none, none, none, none, some (.int x15), none, none, none] [] M := by
  intro n
  induction n with
  | zero =>
    intro x4 x5 x6 x7 x8 x9 x15 M h
    exact absurd h (by rw [f_LW_law_l1361]; exact fun z => nomatch z)
  | succ n ih =>
    intro x4 x5 x6 x7 x8 x9 x15 M h
    rw [f_LW_law_l1361] at h
    refine x_iload F.1 (i := 734) rfl rfl ?_
    refine x_aload_n F.1 (i := 735) rfl rfl ?_
    refine x_iconst F.1 (i := 736) rfl ic_0 ?_
    refine gd_e h (fun g1 h => ?_)
    refine x_iald F.1 (i := 737) rfl rfl (inb_e g1) ?_
    refine x_icmp_ge F.1 (i := 738) (tgt := 1419) rfl (by decide) (fun c => ?_) (fun c => ?_)
    · replace h := if_T c h
      refine x_aload_n F.1 (i := 767) rfl rfl ?_
      refine cal_e h (fun r2 M1 e3 h => ?_)
      refine x_cV0i F.1 (i := 768) rfl ml_LW_153 ok_KT_back rfl (Nat.le_of_ble_eq_true rfl) (Nat.le_of_ble_eq_true rfl) (fun _ => t_KT_back e3) ?_
      refine x_if_ne F.1 (i := 769) (tgt := 1437) rfl (by decide) (fun c => ?_) (fun c => ?_)
      · replace h := if_F c h
        refine x_iconst F.1 (i := 775) rfl ic_0 ?_
        exact x_zretf F (i := 776) rfl rfl (Or.inl rfl) h hQ
      · replace h := if_T c h
        refine x_aload_n F.1 (i := 770) rfl rfl ?_
        refine x_bipush F.1 (i := 771) rfl bp_6 ?_
        refine cal_e h (fun r4 M2 e5 h => ?_)
        refine x_cV1i F.1 (i := 772) rfl ml_LW_133 ok_KT_many rfl (Nat.le_of_ble_eq_true rfl) (Nat.le_of_ble_eq_true rfl) (fun _ => t_KT_many e5) ?_
        refine x_iload F.1 (i := 773) rfl rfl ?_
        refine x_icmp_eq F.1 (i := 774) (tgt := 1439) rfl (by decide) (fun c => ?_) (fun c => ?_)
        · replace h := if_T c h
          exact x_wk F.1 (hk1439 _ _ _ _ _ _ _ h) ⟨rfl, rfl, rfl, rfl, rfl, rfl, rfl, rfl, rfl, trivial⟩
        · replace h := if_F c h
          refine x_iconst F.1 (i := 775) rfl ic_0 ?_
          exact x_zretf F (i := 776) rfl rfl (Or.inl rfl) h hQ
    · replace h := if_F c h
      refine x_aload_n F.1 (i := 739) rfl rfl ?_
      refine x_iload F.1 (i := 740) rfl rfl ?_
      refine x_iconst F.1 (i := 741) rfl ic_1 ?_
      refine x_isub F.1 (i := 742) rfl ?_
      refine x_iload F.1 (i := 743) rfl rfl ?_
      refine x_iconst F.1 (i := 744) rfl ic_1 ?_
      refine cal_e h (fun r6 M3 e7 h => ?_)
      refine x_cV3i F.1 (i := 745) rfl ml_LW_136 ok_KT_stitch rfl (Nat.le_of_ble_eq_true rfl) (Nat.le_of_ble_eq_true rfl) (fun _ => t_KT_stitch e7) ?_
      refine x_if_ne F.1 (i := 746) (tgt := 1411) rfl (by decide) (fun c => ?_) (fun c => ?_)
      · replace h := if_F c h
        refine x_iconst F.1 (i := 763) rfl ic_0 ?_
        exact x_zretf F (i := 764) rfl rfl (Or.inl rfl) h hQ
      · replace h := if_T c h
        refine x_aload_n F.1 (i := 747) rfl rfl ?_
        refine x_iload F.1 (i := 748) rfl rfl ?_
        refine x_iconst F.1 (i := 749) rfl ic_1 ?_
        refine x_isub F.1 (i := 750) rfl ?_
        refine x_iload F.1 (i := 751) rfl rfl ?_
        refine x_iconst F.1 (i := 752) rfl ic_2 ?_
        refine cal_e h (fun r8 M4 e9 h => ?_)
        refine x_cV3i F.1 (i := 753) rfl ml_LW_136 ok_KT_stitch rfl (Nat.le_of_ble_eq_true rfl) (Nat.le_of_ble_eq_true rfl) (fun _ => t_KT_stitch e9) ?_
        refine x_if_ne F.1 (i := 754) (tgt := 1411) rfl (by decide) (fun c => ?_) (fun c => ?_)
        · replace h := if_F c h
          refine x_iconst F.1 (i := 763) rfl ic_0 ?_
          exact x_zretf F (i := 764) rfl rfl (Or.inl rfl) h hQ
        · replace h := if_T c h
          refine x_aload_n F.1 (i := 755) rfl rfl ?_
          refine x_iload F.1 (i := 756) rfl rfl ?_
          refine x_iconst F.1 (i := 757) rfl ic_1 ?_
          refine x_isub F.1 (i := 758) rfl ?_
          refine x_iload F.1 (i := 759) rfl rfl ?_
          refine x_iconst F.1 (i := 760) rfl ic_3 ?_
          refine cal_e h (fun r10 M5 e11 h => ?_)
          refine x_cV3i F.1 (i := 761) rfl ml_LW_136 ok_KT_stitch rfl (Nat.le_of_ble_eq_true rfl) (Nat.le_of_ble_eq_true rfl) (fun _ => t_KT_stitch e11) ?_
          refine x_if_eq F.1 (i := 762) (tgt := 1413) rfl (by decide) (fun c => ?_) (fun c => ?_)
          · replace h := if_T c h
            refine x_iinc F.1 (i := 765) rfl rfl rfl (Nat.le_of_ble_eq_true rfl) rfl ?_
            replace h := bd_e h
            refine x_goto F.1 (i := 766) (tgt := 1361) rfl (by decide) ?_
            exact x_wk F.1 (ih _ _ _ _ _ _ _ _ h) ⟨rfl, rfl, rfl, rfl, rfl, rfl, rfl, rfl, rfl, rfl, trivial⟩
          · replace h := if_F c h
            refine x_iconst F.1 (i := 763) rfl ic_0 ?_
            exact x_zretf F (i := 764) rfl rfl (Or.inl rfl) h hQ
set_option maxRecDepth 20000 in
set_option maxHeartbeats 4000000 in
theorem t_LW_law_l1239 {w : kx_W} {d : Nat} {Q : Option Value → kx_M → Prop} {G : Nat → List (Option Value) → List Value → kx_M → Prop} (F : Sd w (d + 9) m_LW_law Q G) {p0 : Nat × (Nat → Int32)} (hp0 : p0 = kx_sc w) {k1439 : Int32 → Int32 → Int32 → Int32 → Int32 → Int32 → kx_M → Option (Int32 × kx_M)} {res : Int32 × kx_M} (hQ : Q (some (.int res.1)) res.2) (hk1439 : ∀ (x4 : Int32) (x5 : Int32) (x6 : Int32) (x7 : Int32) (x8 : Int32) (x9 : Int32) (M : kx_M), k1439 x4 x5 x6 x7 x8 x9 M = some res → G 1439 [some (.retAddr 3), some (.ref 0), none, some (.ref 136), some (.int x4), some (.int x5), some (.int x6), some (.int x7), some (.int x8), some (.int x9), none, none, none, none, none, none, none, none, none] [] M) :
    ∀ (n : Nat) (x4 : Int32) (x5 : Int32) (x6 : Int32) (x7 : Int32) (x8 : Int32) (x9 : Int32) (x12 : Int32) (x13 : Int32) (M : kx_M),
    f_LW_law_l1239 p0 k1439 n x4 x5 x6 x7 x8 x9 x12 x13 M = some res → G 1239 [some (.retAddr 3), some (.ref 0), none, some (.ref 136), some (.int x4), some (.int x5), some (.int x6), some (.int x7), some (.int x8), some (.int x9), none, none, some (.int x12), some (.int x13), none, none, none, none, none] [] M := by
  intro n
  induction n with
  | zero =>
    intro x4 x5 x6 x7 x8 x9 x12 x13 M h
    exact absurd h (by rw [f_LW_law_l1239]; exact fun z => nomatch z)
  | succ n ih =>
    intro x4 x5 x6 x7 x8 x9 x12 x13 M h
    rw [f_LW_law_l1239] at h
    refine x_iload F.1 (i := 666) rfl rfl ?_
    refine x_aload_n F.1 (i := 667) rfl rfl ?_
    refine x_iconst F.1 (i := 668) rfl ic_0 ?_
    refine gd_e h (fun g1 h => ?_)
    refine x_iald F.1 (i := 669) rfl rfl (inb_e g1) ?_
    refine x_icmp_ge F.1 (i := 670) (tgt := 1277) rfl (by decide) (fun c => ?_) (fun c => ?_)
    · replace h := if_T c h
      refine x_aload_n F.1 (i := 688) rfl rfl ?_
      refine x_iconst F.1 (i := 689) rfl ic_1 ?_
      refine cal_e h (fun r2 M1 e3 h => ?_)
      refine x_cV1i F.1 (i := 690) rfl ml_LW_223 ok_KT_needs rfl (Nat.le_of_ble_eq_true rfl) (Nat.le_of_ble_eq_true rfl) (fun _ => t_KT_needs e3) ?_
      refine x_istore F.1 (i := 691) rfl (Nat.le_of_ble_eq_true rfl) (Nat.le_of_ble_eq_true rfl) rfl ?_
      refine x_aload_n F.1 (i := 692) rfl rfl ?_
      refine x_iload F.1 (i := 693) rfl rfl ?_
      refine cal_e h (fun r4 M2 e5 h => ?_)
      refine x_cV1i F.1 (i := 694) rfl ml_LW_226 ok_KT_wool rfl (Nat.le_of_ble_eq_true rfl) (Nat.le_of_ble_eq_true rfl) (fun _ => t_KT_wool e5) ?_
      refine x_istore F.1 (i := 695) rfl (Nat.le_of_ble_eq_true rfl) (Nat.le_of_ble_eq_true rfl) rfl ?_
      refine x_aload_n F.1 (i := 696) rfl rfl ?_
      refine cal_e h (fun r6 M3 e7 h => ?_)
      refine x_cV0i F.1 (i := 697) rfl ml_LW_229 ok_KT_unravel rfl (Nat.le_of_ble_eq_true rfl) (Nat.le_of_ble_eq_true rfl) (fun _ => t_KT_unravel e7) ?_
      refine x_iload F.1 (i := 698) rfl rfl ?_
      refine x_iconst F.1 (i := 699) rfl ic_1 ?_
      refine x_isub F.1 (i := 700) rfl ?_
      refine x_icmp_ne F.1 (i := 701) (tgt := 1328) rfl (by decide) (fun c => ?_) (fun c => ?_)
      · replace h := if_F c h
        refine x_iconst F.1 (i := 714) rfl ic_0 ?_
        exact x_zretf F (i := 715) rfl rfl (Or.inl rfl) h hQ
      · replace h := if_T c h
        refine x_aload_n F.1 (i := 702) rfl rfl ?_
        refine x_iload F.1 (i := 703) rfl rfl ?_
        refine cal_e h (fun r8 M4 e9 h => ?_)
        refine x_cV1i F.1 (i := 704) rfl ml_LW_226 ok_KT_wool rfl (Nat.le_of_ble_eq_true rfl) (Nat.le_of_ble_eq_true rfl) (fun _ => t_KT_wool e9) ?_
        refine x_iload F.1 (i := 705) rfl rfl ?_
        refine x_icmp_lt F.1 (i := 706) (tgt := 1328) rfl (by decide) (fun c => ?_) (fun c => ?_)
        · replace h := if_T c h
          refine x_iconst F.1 (i := 714) rfl ic_0 ?_
          exact x_zretf F (i := 715) rfl rfl (Or.inl rfl) h hQ
        · replace h := if_F c h
          refine x_aload_n F.1 (i := 707) rfl rfl ?_
          refine x_iload F.1 (i := 708) rfl rfl ?_
          refine cal_e h (fun r10 M5 e11 h => ?_)
          refine x_cV1i F.1 (i := 709) rfl ml_LW_226 ok_KT_wool rfl (Nat.le_of_ble_eq_true rfl) (Nat.le_of_ble_eq_true rfl) (fun _ => t_KT_wool e11) ?_
          refine x_iload F.1 (i := 710) rfl rfl ?_
          refine x_iload F.1 (i := 711) rfl rfl ?_
          refine x_iadd F.1 (i := 712) rfl ?_
          refine x_icmp_le F.1 (i := 713) (tgt := 1330) rfl (by decide) (fun c => ?_) (fun c => ?_)
          · replace h := if_T c h
            refine x_aload_n F.1 (i := 716) rfl rfl ?_
            refine x_iload F.1 (i := 717) rfl rfl ?_
            refine x_iconst F.1 (i := 718) rfl ic_1 ?_
            refine x_iload F.1 (i := 719) rfl rfl ?_
            refine x_iadd F.1 (i := 720) rfl ?_
            refine cal_e h (fun r12 M6 e13 h => ?_)
            refine x_cV2i F.1 (i := 721) rfl ml_LW_232 ok_KT_shear rfl (Nat.le_of_ble_eq_true rfl) (Nat.le_of_ble_eq_true rfl) (fun _ => t_KT_shear e13) ?_
            refine x_iconst F.1 (i := 722) rfl ic_1 ?_
            refine x_icmp_lt F.1 (i := 723) (tgt := 1356) rfl (by decide) (fun c => ?_) (fun c => ?_)
            · replace h := if_T c h
              refine x_iconst F.1 (i := 730) rfl ic_0 ?_
              exact x_zretf F (i := 731) rfl rfl (Or.inl rfl) h hQ
            · replace h := if_F c h
              refine x_aload_n F.1 (i := 724) rfl rfl ?_
              refine x_iload F.1 (i := 725) rfl rfl ?_
              refine x_iconst F.1 (i := 726) rfl ic_1 ?_
              refine cal_e h (fun r14 M7 e15 h => ?_)
              refine x_cV2i F.1 (i := 727) rfl ml_LW_235 ok_KT_knit rfl (Nat.le_of_ble_eq_true rfl) (Nat.le_of_ble_eq_true rfl) (fun _ => t_KT_knit e15) ?_
              refine x_iload F.1 (i := 728) rfl rfl ?_
              refine x_icmp_eq F.1 (i := 729) (tgt := 1358) rfl (by decide) (fun c => ?_) (fun c => ?_)
              · replace h := if_T c h
                refine x_iconst F.1 (i := 732) rfl ic_0 ?_
                refine x_istore F.1 (i := 733) rfl (Nat.le_of_ble_eq_true rfl) (Nat.le_of_ble_eq_true rfl) rfl ?_
                exact x_wk F.1 ((t_LW_law_l1361 F hp0 hQ hk1439 FU) _ _ _ _ _ _ _ _ h) ⟨rfl, rfl, rfl, rfl, rfl, rfl, rfl, rfl, rfl, rfl, trivial⟩
              · replace h := if_F c h
                refine x_iconst F.1 (i := 730) rfl ic_0 ?_
                exact x_zretf F (i := 731) rfl rfl (Or.inl rfl) h hQ
          · replace h := if_F c h
            refine x_iconst F.1 (i := 714) rfl ic_0 ?_
            exact x_zretf F (i := 715) rfl rfl (Or.inl rfl) h hQ
    · replace h := if_F c h
      refine x_aload_n F.1 (i := 671) rfl rfl ?_
      refine x_iconst F.1 (i := 672) rfl ic_1 ?_
      refine x_iload F.1 (i := 673) rfl rfl ?_
      refine x_aload_n F.1 (i := 674) rfl rfl ?_
      refine x_iload F.1 (i := 675) rfl rfl ?_
      refine x_iconst F.1 (i := 676) rfl ic_1 ?_
      refine x_isub F.1 (i := 677) rfl ?_
      refine x_iload F.1 (i := 678) rfl rfl ?_
      refine x_iconst F.1 (i := 679) rfl ic_0 ?_
      refine cal_e h (fun r16 M8 e17 h => ?_)
      refine x_cV3i F.1 (i := 680) rfl ml_LW_136 ok_KT_stitch rfl (Nat.le_of_ble_eq_true rfl) (Nat.le_of_ble_eq_true rfl) (fun _ => t_KT_stitch e17) ?_
      refine x_i2l F.1 (i := 681) rfl ?_
      refine cal_e h (fun r18 M9 e19 h => ?_)
      refine x_cV3i F.1 (i := 682) rfl ml_LW_203 ok_KT_write rfl (Nat.le_of_ble_eq_true rfl) (Nat.le_of_ble_eq_true rfl) (fun _ => t_KT_write e19) ?_
      refine x_if_ne F.1 (i := 683) (tgt := 1271) rfl (by decide) (fun c => ?_) (fun c => ?_)
      · replace h := if_F c h
        refine x_iinc F.1 (i := 686) rfl rfl rfl (Nat.le_of_ble_eq_true rfl) rfl ?_
        replace h := bd_e h
        refine x_goto F.1 (i := 687) (tgt := 1239) rfl (by decide) ?_
        exact x_wk F.1 (ih _ _ _ _ _ _ _ _ _ h) ⟨rfl, rfl, rfl, rfl, rfl, rfl, rfl, rfl, rfl, rfl, rfl, trivial⟩
      · replace h := if_T c h
        refine x_iconst F.1 (i := 684) rfl ic_0 ?_
        exact x_zretf F (i := 685) rfl rfl (Or.inl rfl) h hQ
set_option maxRecDepth 20000 in
set_option maxHeartbeats 4000000 in
theorem t_LW_law_l1183 {w : kx_W} {d : Nat} {Q : Option Value → kx_M → Prop} {G : Nat → List (Option Value) → List Value → kx_M → Prop} (F : Sd w (d + 9) m_LW_law Q G) {p0 : Nat × (Nat → Int32)} (hp0 : p0 = kx_sc w) {k892 : Int32 → Int32 → Int32 → Int32 → Int32 → Int32 → Int32 → Int32 → kx_M → Option (Int32 × kx_M)} {res : Int32 × kx_M} (hQ : Q (some (.int res.1)) res.2) (hk892 : ∀ (x4 : Int32) (x5 : Int32) (x6 : Int32) (x7 : Int32) (x8 : Int32) (x9 : Int32) (x10 : Int32) (x12 : Int32) (M : kx_M), k892 x4 x5 x6 x7 x8 x9 x10 x12 M = some res → G 892 [some (.retAddr 3), some (.ref 0), none, some (.ref 136), some (.int x4), some (.int x5), some (.int x6), some (.int x7), some (.int x8), some (.int x9), some (.int x10), none, some (.int x12), none, none, none, none, none, none] [] M) :
    ∀ (x4 : Int32) (x5 : Int32) (x6 : Int32) (x7 : Int32) (x8 : Int32) (x9 : Int32) (x10 : Int32) (x12 : Int32) (x18 : Int32) (s0 : Int32) (s1 : Int32) (M : kx_M),
    f_LW_law_l1183 p0 k892 x4 x5 x6 x7 x8 x9 x10 x12 x18 s0 s1 M = some res → G 1183 [some (.retAddr 3), some (.ref 0), none, some (.ref 136), some (.int x4), some (.int x5), some (.int x6), some (.int x7), some (.int x8), some (.int x9), some (.int x10), none, some (.int x12), none, none, none, none, none, some (.int x18)] [.int s1, .int s0] M := by
  intro x4 x5 x6 x7 x8 x9 x10 x12 x18 s0 s1 M h
  rw [f_LW_law_l1183] at h
  refine x_icmp_ne F.1 (i := 636) (tgt := 1203) rfl (by decide) (fun c => ?_) (fun c => ?_)
  · replace h := if_F c h
    refine x_iconst F.1 (i := 646) rfl ic_0 ?_
    exact x_zretf F (i := 647) rfl rfl (Or.inl rfl) h hQ
  · replace h := if_T c h
    refine x_iload F.1 (i := 637) rfl rfl ?_
    refine x_if_lt F.1 (i := 638) (tgt := 1205) rfl (by decide) (fun c => ?_) (fun c => ?_)
    · replace h := if_T c h
      refine x_iinc F.1 (i := 648) rfl rfl rfl (Nat.le_of_ble_eq_true rfl) rfl ?_
      replace h := bd_e h
      refine x_goto F.1 (i := 649) (tgt := 892) rfl (by decide) ?_
      exact x_wk F.1 (hk892 _ _ _ _ _ _ _ _ _ h) ⟨rfl, rfl, rfl, rfl, rfl, rfl, rfl, rfl, rfl, rfl, rfl, trivial⟩
    · replace h := if_F c h
      refine x_aload_n F.1 (i := 639) rfl rfl ?_
      refine x_iconst F.1 (i := 640) rfl ic_1 ?_
      refine x_iload F.1 (i := 641) rfl rfl ?_
      refine cal_e h (fun r2 M1 e3 h => ?_)
      refine x_cV2l F.1 (i := 642) rfl ml_LW_210 ok_KT_read rfl (Nat.le_of_ble_eq_true rfl) (Nat.le_of_ble_eq_true rfl) (fun _ => t_KT_read e3) ?_
      refine x_lconst F.1 (i := 643) (v := 0) rfl rfl ?_
      refine x_lcmp F.1 (i := 644) rfl ?_
      refine x_if_lt F.1 (i := 645) (tgt := 1205) rfl (by decide) (fun c => ?_) (fun c => ?_)
      · replace h := if_T c h
        refine x_iinc F.1 (i := 648) rfl rfl rfl (Nat.le_of_ble_eq_true rfl) rfl ?_
        replace h := bd_e h
        refine x_goto F.1 (i := 649) (tgt := 892) rfl (by decide) ?_
        exact x_wk F.1 (hk892 _ _ _ _ _ _ _ _ _ h) ⟨rfl, rfl, rfl, rfl, rfl, rfl, rfl, rfl, rfl, rfl, rfl, trivial⟩
      · replace h := if_F c h
        refine x_iconst F.1 (i := 646) rfl ic_0 ?_
        exact x_zretf F (i := 647) rfl rfl (Or.inl rfl) h hQ
set_option maxRecDepth 20000 in
set_option maxHeartbeats 4000000 in
theorem t_LW_law_l1172 {w : kx_W} {d : Nat} {Q : Option Value → kx_M → Prop} {G : Nat → List (Option Value) → List Value → kx_M → Prop} (F : Sd w (d + 9) m_LW_law Q G) {p0 : Nat × (Nat → Int32)} (hp0 : p0 = kx_sc w) {k892 : Int32 → Int32 → Int32 → Int32 → Int32 → Int32 → Int32 → Int32 → kx_M → Option (Int32 × kx_M)} {res : Int32 × kx_M} (hQ : Q (some (.int res.1)) res.2) (hk892 : ∀ (x4 : Int32) (x5 : Int32) (x6 : Int32) (x7 : Int32) (x8 : Int32) (x9 : Int32) (x10 : Int32) (x12 : Int32) (M : kx_M), k892 x4 x5 x6 x7 x8 x9 x10 x12 M = some res → G 892 [some (.retAddr 3), some (.ref 0), none, some (.ref 136), some (.int x4), some (.int x5), some (.int x6), some (.int x7), some (.int x8), some (.int x9), some (.int x10), none, some (.int x12), none, none, none, none, none, none] [] M) :
    ∀ (x4 : Int32) (x5 : Int32) (x6 : Int32) (x7 : Int32) (x8 : Int32) (x9 : Int32) (x10 : Int32) (x12 : Int32) (x13 : Int32) (x18 : Int32) (s0 : Int32) (M : kx_M),
    f_LW_law_l1172 p0 k892 x4 x5 x6 x7 x8 x9 x10 x12 x13 x18 s0 M = some res → G 1172 [some (.retAddr 3), some (.ref 0), none, some (.ref 136), some (.int x4), some (.int x5), some (.int x6), some (.int x7), some (.int x8), some (.int x9), some (.int x10), none, some (.int x12), some (.int x13), none, none, none, none, some (.int x18)] [.int s0] M := by
  intro x4 x5 x6 x7 x8 x9 x10 x12 x13 x18 s0 M h
  rw [f_LW_law_l1172] at h
  refine x_iload F.1 (i := 630) rfl rfl ?_
  refine x_iconst F.1 (i := 631) rfl ic_1 ?_
  refine x_icmp_le F.1 (i := 632) (tgt := 1182) rfl (by decide) (fun c => ?_) (fun c => ?_)
  · replace h := if_T c h
    refine x_iconst F.1 (i := 635) rfl ic_0 ?_
    exact x_wk F.1 ((t_LW_law_l1183 F hp0 hQ hk892) _ _ _ _ _ _ _ _ _ _ _ _ h) ⟨rfl, rfl, rfl, rfl, rfl, rfl, rfl, rfl, rfl, rfl, rfl, rfl, trivial⟩
  · replace h := if_F c h
    refine x_iconst F.1 (i := 633) rfl ic_1 ?_
    refine x_goto F.1 (i := 634) (tgt := 1183) rfl (by decide) ?_
    exact x_wk F.1 ((t_LW_law_l1183 F hp0 hQ hk892) _ _ _ _ _ _ _ _ _ _ _ _ h) ⟨rfl, rfl, rfl, rfl, rfl, rfl, rfl, rfl, rfl, rfl, rfl, rfl, trivial⟩
set_option maxRecDepth 20000 in
set_option maxHeartbeats 4000000 in
theorem t_LW_law_l1073 {w : kx_W} {d : Nat} {Q : Option Value → kx_M → Prop} {G : Nat → List (Option Value) → List Value → kx_M → Prop} (F : Sd w (d + 9) m_LW_law Q G) {p0 : Nat × (Nat → Int32)} (hp0 : p0 = kx_sc w) {k1048 : Int32 → Int32 → Int32 → Int32 → Int32 → Int32 → Int32 → Int32 → Int32 → Int32 → Int64 → Int32 → Int32 → kx_M → Option (Int32 × kx_M)} {res : Int32 × kx_M} (hQ : Q (some (.int res.1)) res.2) (hk1048 : ∀ (x4 : Int32) (x5 : Int32) (x6 : Int32) (x7 : Int32) (x8 : Int32) (x9 : Int32) (x10 : Int32) (x12 : Int32) (x13 : Int32) (x14 : Int32) (x15 : Int64) (x17 : Int32) (x18 : Int32) (M : kx_M), k1048 x4 x5 x6 x7 x8 x9 x10 x12 x13 x14 x15 x17 x18 M = some res → G 1048 [some (.retAddr 3), some (.ref 0), none, some (.ref 136), some (.int x4), some (.int x5), some (.int x6), some (.int x7), some (.int x8), some (.int x9), some (.int x10), none, some (.int x12), some (.int x13), some (.int x14), some (.long x15), none, some (.int x17), some (.int x18)] [] M) :
    ∀ (x4 : Int32) (x5 : Int32) (x6 : Int32) (x7 : Int32) (x8 : Int32) (x9 : Int32) (x10 : Int32) (x12 : Int32) (x13 : Int32) (x14 : Int32) (x15 : Int64) (x17 : Int32) (x18 : Int32) (M : kx_M),
    f_LW_law_l1073 p0 k1048 x4 x5 x6 x7 x8 x9 x10 x12 x13 x14 x15 x17 x18 M = some res → G 1073 [some (.retAddr 3), some (.ref 0), none, some (.ref 136), some (.int x4), some (.int x5), some (.int x6), some (.int x7), some (.int x8), some (.int x9), some (.int x10), none, some (.int x12), some (.int x13), some (.int x14), some (.long x15), none, some (.int x17), some (.int x18)] [] M := by
  intro x4 x5 x6 x7 x8 x9 x10 x12 x13 x14 x15 x17 x18 M h
  rw [f_LW_law_l1073] at h
  refine x_aload_n F.1 (i := 577) rfl rfl ?_
  refine x_iconst F.1 (i := 578) rfl ic_1 ?_
  refine x_iload F.1 (i := 579) rfl rfl ?_
  refine x_iload F.1 (i := 580) rfl rfl ?_
  refine x_i2l F.1 (i := 581) rfl ?_
  refine cal_e h (fun r1 M1 e2 h => ?_)
  refine x_cV3i F.1 (i := 582) rfl ml_LW_203 ok_KT_write rfl (Nat.le_of_ble_eq_true rfl) (Nat.le_of_ble_eq_true rfl) (fun _ => t_KT_write e2) ?_
  refine x_if_ne F.1 (i := 583) (tgt := 1088) rfl (by decide) (fun c => ?_) (fun c => ?_)
  · replace h := if_F c h
    refine x_iload F.1 (i := 586) rfl rfl ?_
    refine x_aload_n F.1 (i := 587) rfl rfl ?_
    refine x_iload F.1 (i := 588) rfl rfl ?_
    refine x_iconst F.1 (i := 589) rfl ic_1 ?_
    refine cal_e h (fun r3 M2 e4 h => ?_)
    refine x_cV2i F.1 (i := 590) rfl ml_LW_207 ok_KT_fills rfl (Nat.le_of_ble_eq_true rfl) (Nat.le_of_ble_eq_true rfl) (fun _ => t_KT_fills e4) ?_
    refine x_iadd F.1 (i := 591) rfl ?_
    refine x_istore F.1 (i := 592) rfl (Nat.le_of_ble_eq_true rfl) (Nat.le_of_ble_eq_true rfl) rfl ?_
    replace h := bd_e h
    refine x_aload_n F.1 (i := 593) rfl rfl ?_
    refine x_iload F.1 (i := 594) rfl rfl ?_
    refine x_iconst F.1 (i := 595) rfl ic_1 ?_
    refine cal_e h (fun r6 M3 e7 h => ?_)
    refine x_cV2i F.1 (i := 596) rfl ml_LW_207 ok_KT_fills rfl (Nat.le_of_ble_eq_true rfl) (Nat.le_of_ble_eq_true rfl) (fun _ => t_KT_fills e7) ?_
    refine x_if_le F.1 (i := 597) (tgt := 1126) rfl (by decide) (fun c => ?_) (fun c => ?_)
    · replace h := if_T c h
      refine x_iinc F.1 (i := 607) rfl rfl rfl (Nat.le_of_ble_eq_true rfl) rfl ?_
      replace h := bd_e h
      refine x_goto F.1 (i := 608) (tgt := 1048) rfl (by decide) ?_
      exact x_wk F.1 (hk1048 _ _ _ _ _ _ _ _ _ _ _ _ _ _ h) ⟨rfl, rfl, rfl, rfl, rfl, rfl, rfl, rfl, rfl, rfl, rfl, rfl, rfl, rfl, rfl, rfl, trivial⟩
    · replace h := if_F c h
      refine x_aload_n F.1 (i := 598) rfl rfl ?_
      refine x_iload F.1 (i := 599) rfl rfl ?_
      refine x_iconst F.1 (i := 600) rfl ic_1 ?_
      refine x_iload F.1 (i := 601) rfl rfl ?_
      refine cal_e h (fun r9 M4 e10 h => ?_)
      refine x_cV3i F.1 (i := 602) rfl ml_LW_214 ok_KT_sure rfl (Nat.le_of_ble_eq_true rfl) (Nat.le_of_ble_eq_true rfl) (fun _ => t_KT_sure e10) ?_
      refine x_iload F.1 (i := 603) rfl rfl ?_
      refine x_icmp_eq F.1 (i := 604) (tgt := 1126) rfl (by decide) (fun c => ?_) (fun c => ?_)
      · replace h := if_T c h
        refine x_iinc F.1 (i := 607) rfl rfl rfl (Nat.le_of_ble_eq_true rfl) rfl ?_
        replace h := bd_e h
        refine x_goto F.1 (i := 608) (tgt := 1048) rfl (by decide) ?_
        exact x_wk F.1 (hk1048 _ _ _ _ _ _ _ _ _ _ _ _ _ _ h) ⟨rfl, rfl, rfl, rfl, rfl, rfl, rfl, rfl, rfl, rfl, rfl, rfl, rfl, rfl, rfl, rfl, trivial⟩
      · replace h := if_F c h
        refine x_iconst F.1 (i := 605) rfl ic_0 ?_
        exact x_zretf F (i := 606) rfl rfl (Or.inl rfl) h hQ
  · replace h := if_T c h
    refine x_iconst F.1 (i := 584) rfl ic_0 ?_
    exact x_zretf F (i := 585) rfl rfl (Or.inl rfl) h hQ
set_option maxRecDepth 20000 in
set_option maxHeartbeats 4000000 in
theorem t_LW_law_l1048 {w : kx_W} {d : Nat} {Q : Option Value → kx_M → Prop} {G : Nat → List (Option Value) → List Value → kx_M → Prop} (F : Sd w (d + 9) m_LW_law Q G) {p0 : Nat × (Nat → Int32)} (hp0 : p0 = kx_sc w) {k892 : Int32 → Int32 → Int32 → Int32 → Int32 → Int32 → Int32 → Int32 → kx_M → Option (Int32 × kx_M)} {res : Int32 × kx_M} (hQ : Q (some (.int res.1)) res.2) (hk892 : ∀ (x4 : Int32) (x5 : Int32) (x6 : Int32) (x7 : Int32) (x8 : Int32) (x9 : Int32) (x10 : Int32) (x12 : Int32) (M : kx_M), k892 x4 x5 x6 x7 x8 x9 x10 x12 M = some res → G 892 [some (.retAddr 3), some (.ref 0), none, some (.ref 136), some (.int x4), some (.int x5), some (.int x6), some (.int x7), some (.int x8), some (.int x9), some (.int x10), none, some (.int x12), none, none, none, none, none, none] [] M) :
    ∀ (n : Nat) (x4 : Int32) (x5 : Int32) (x6 : Int32) (x7 : Int32) (x8 : Int32) (x9 : Int32) (x10 : Int32) (x12 : Int32) (x13 : Int32) (x14 : Int32) (x15 : Int64) (x17 : Int32) (x18 : Int32) (M : kx_M),
    f_LW_law_l1048 p0 k892 n x4 x5 x6 x7 x8 x9 x10 x12 x13 x14 x15 x17 x18 M = some res → G 1048 [some (.retAddr 3), some (.ref 0), none, some (.ref 136), some (.int x4), some (.int x5), some (.int x6), some (.int x7), some (.int x8), some (.int x9), some (.int x10), none, some (.int x12), some (.int x13), some (.int x14), some (.long x15), none, some (.int x17), some (.int x18)] [] M := by
  intro n
  induction n with
  | zero =>
    intro x4 x5 x6 x7 x8 x9 x10 x12 x13 x14 x15 x17 x18 M h
    exact absurd h (by rw [f_LW_law_l1048]; exact fun z => nomatch z)
  | succ n ih =>
    intro x4 x5 x6 x7 x8 x9 x10 x12 x13 x14 x15 x17 x18 M h
    rw [f_LW_law_l1048] at h
    refine x_iload F.1 (i := 564) rfl rfl ?_
    refine x_iconst F.1 (i := 565) rfl ic_4 ?_
    refine x_icmp_ge F.1 (i := 566) (tgt := 1132) rfl (by decide) (fun c => ?_) (fun c => ?_)
    · replace h := if_T c h
      refine x_iload F.1 (i := 609) rfl rfl ?_
      refine x_iload F.1 (i := 610) rfl rfl ?_
      refine x_icmp_ne F.1 (i := 611) (tgt := 1151) rfl (by decide) (fun c => ?_) (fun c => ?_)
      · replace h := if_F c h
        refine x_iconst F.1 (i := 618) rfl ic_0 ?_
        exact x_zretf F (i := 619) rfl rfl (Or.inl rfl) h hQ
      · replace h := if_T c h
        refine x_aload_n F.1 (i := 612) rfl rfl ?_
        refine x_iconst F.1 (i := 613) rfl ic_1 ?_
        refine x_iload F.1 (i := 614) rfl rfl ?_
        refine x_lload F.1 (i := 615) rfl rfl ?_
        refine cal_e h (fun r1 M1 e2 h => ?_)
        refine x_cV3i F.1 (i := 616) rfl ml_LW_203 ok_KT_write rfl (Nat.le_of_ble_eq_true rfl) (Nat.le_of_ble_eq_true rfl) (fun _ => t_KT_write e2) ?_
        refine x_if_ne F.1 (i := 617) (tgt := 1153) rfl (by decide) (fun c => ?_) (fun c => ?_)
        · replace h := if_F c h
          refine x_aload_n F.1 (i := 620) rfl rfl ?_
          refine x_iload F.1 (i := 621) rfl rfl ?_
          refine x_iconst F.1 (i := 622) rfl ic_1 ?_
          refine cal_e h (fun r3 M2 e4 h => ?_)
          refine x_cV2i F.1 (i := 623) rfl ml_LW_217 ok_KT_look rfl (Nat.le_of_ble_eq_true rfl) (Nat.le_of_ble_eq_true rfl) (fun _ => t_KT_look e4) ?_
          refine x_istore F.1 (i := 624) rfl (Nat.le_of_ble_eq_true rfl) (Nat.le_of_ble_eq_true rfl) rfl ?_
          refine x_iload F.1 (i := 625) rfl rfl ?_
          refine x_if_lt F.1 (i := 626) (tgt := 1171) rfl (by decide) (fun c => ?_) (fun c => ?_)
          · replace h := if_T c h
            refine x_iconst F.1 (i := 629) rfl ic_0 ?_
            exact x_wk F.1 ((t_LW_law_l1172 F hp0 hQ hk892) _ _ _ _ _ _ _ _ _ _ _ _ h) ⟨rfl, rfl, rfl, rfl, rfl, rfl, rfl, rfl, rfl, rfl, rfl, rfl, rfl, trivial⟩
          · replace h := if_F c h
            refine x_iconst F.1 (i := 627) rfl ic_1 ?_
            refine x_goto F.1 (i := 628) (tgt := 1172) rfl (by decide) ?_
            exact x_wk F.1 ((t_LW_law_l1172 F hp0 hQ hk892) _ _ _ _ _ _ _ _ _ _ _ _ h) ⟨rfl, rfl, rfl, rfl, rfl, rfl, rfl, rfl, rfl, rfl, rfl, rfl, rfl, trivial⟩
        · replace h := if_T c h
          refine x_iconst F.1 (i := 618) rfl ic_0 ?_
          exact x_zretf F (i := 619) rfl rfl (Or.inl rfl) h hQ
    · replace h := if_F c h
      refine x_lload F.1 (i := 567) rfl rfl ?_
      refine x_lconst F.1 (i := 568) (v := 0) rfl rfl ?_
      refine x_lcmp F.1 (i := 569) rfl ?_
      refine x_if_lt F.1 (i := 570) (tgt := 1073) rfl (by decide) (fun c => ?_) (fun c => ?_)
      · replace h := if_T c h
        exact x_wk F.1 ((t_LW_law_l1073 F hp0 hQ ih) _ _ _ _ _ _ _ _ _ _ _ _ _ _ h) ⟨rfl, rfl, rfl, rfl, rfl, rfl, rfl, rfl, rfl, rfl, rfl, rfl, rfl, rfl, rfl, rfl, trivial⟩
      · replace h := if_F c h
        refine x_lload F.1 (i := 571) rfl rfl ?_
        refine x_iload F.1 (i := 572) rfl rfl ?_
        refine x_i2l F.1 (i := 573) rfl ?_
        refine x_lcmp F.1 (i := 574) rfl ?_
        refine x_if_eq F.1 (i := 575) (tgt := 1073) rfl (by decide) (fun c => ?_) (fun c => ?_)
        · replace h := if_T c h
          exact x_wk F.1 ((t_LW_law_l1073 F hp0 hQ ih) _ _ _ _ _ _ _ _ _ _ _ _ _ _ h) ⟨rfl, rfl, rfl, rfl, rfl, rfl, rfl, rfl, rfl, rfl, rfl, rfl, rfl, rfl, rfl, rfl, trivial⟩
        · replace h := if_F c h
          refine x_goto F.1 (i := 576) (tgt := 1126) rfl (by decide) ?_
          refine x_iinc F.1 (i := 607) rfl rfl rfl (Nat.le_of_ble_eq_true rfl) rfl ?_
          replace h := bd_e h
          refine x_goto F.1 (i := 608) (tgt := 1048) rfl (by decide) ?_
          exact x_wk F.1 (ih _ _ _ _ _ _ _ _ _ _ _ _ _ _ h) ⟨rfl, rfl, rfl, rfl, rfl, rfl, rfl, rfl, rfl, rfl, rfl, rfl, rfl, rfl, rfl, rfl, trivial⟩
set_option maxRecDepth 20000 in
set_option maxHeartbeats 4000000 in
theorem t_LW_law_l958 {w : kx_W} {d : Nat} {Q : Option Value → kx_M → Prop} {G : Nat → List (Option Value) → List Value → kx_M → Prop} (F : Sd w (d + 9) m_LW_law Q G) {p0 : Nat × (Nat → Int32)} (hp0 : p0 = kx_sc w) {k892 : Int32 → Int32 → Int32 → Int32 → Int32 → Int32 → Int32 → Int32 → kx_M → Option (Int32 × kx_M)} {res : Int32 × kx_M} (hQ : Q (some (.int res.1)) res.2) (hk892 : ∀ (x4 : Int32) (x5 : Int32) (x6 : Int32) (x7 : Int32) (x8 : Int32) (x9 : Int32) (x10 : Int32) (x12 : Int32) (M : kx_M), k892 x4 x5 x6 x7 x8 x9 x10 x12 M = some res → G 892 [some (.retAddr 3), some (.ref 0), none, some (.ref 136), some (.int x4), some (.int x5), some (.int x6), some (.int x7), some (.int x8), some (.int x9), some (.int x10), none, some (.int x12), none, none, none, none, none, none] [] M) :
    ∀ (n : Nat) (x4 : Int32) (x5 : Int32) (x6 : Int32) (x7 : Int32) (x8 : Int32) (x9 : Int32) (x10 : Int32) (x12 : Int32) (x13 : Int32) (M : kx_M),
    f_LW_law_l958 p0 k892 n x4 x5 x6 x7 x8 x9 x10 x12 x13 M = some res → G 958 [some (.retAddr 3), some (.ref 0), none, some (.ref 136), some (.int x4), some (.int x5), some (.int x6), some (.int x7), some (.int x8), some (.int x9), some (.int x10), none, some (.int x12), some (.int x13), none, none, none, none, none] [] M := by
  intro n
  induction n with
  | zero =>
    intro x4 x5 x6 x7 x8 x9 x10 x12 x13 M h
    exact absurd h (by rw [f_LW_law_l958]; exact fun z => nomatch z)
  | succ n ih =>
    intro x4 x5 x6 x7 x8 x9 x10 x12 x13 M h
    rw [f_LW_law_l958] at h
    refine x_iload F.1 (i := 509) rfl rfl ?_
    refine x_aload_n F.1 (i := 510) rfl rfl ?_
    refine x_iconst F.1 (i := 511) rfl ic_0 ?_
    refine gd_e h (fun g1 h => ?_)
    refine x_iald F.1 (i := 512) rfl rfl (inb_e g1) ?_
    refine x_icmp_ge F.1 (i := 513) (tgt := 1011) rfl (by decide) (fun c => ?_) (fun c => ?_)
    · replace h := if_T c h
      refine x_aload_n F.1 (i := 540) rfl rfl ?_
      refine x_iload F.1 (i := 541) rfl rfl ?_
      refine x_iconst F.1 (i := 542) rfl ic_1 ?_
      refine cal_e h (fun r2 M1 e3 h => ?_)
      refine x_cV2i F.1 (i := 543) rfl ml_LW_207 ok_KT_fills rfl (Nat.le_of_ble_eq_true rfl) (Nat.le_of_ble_eq_true rfl) (fun _ => t_KT_fills e3) ?_
      refine x_istore F.1 (i := 544) rfl (Nat.le_of_ble_eq_true rfl) (Nat.le_of_ble_eq_true rfl) rfl ?_
      refine x_iload F.1 (i := 545) rfl rfl ?_
      refine x_iconst F.1 (i := 546) rfl ic_3 ?_
      refine x_ishr F.1 (i := 547) rfl ?_
      refine x_bipush F.1 (i := 548) rfl bp_7 ?_
      refine x_iand F.1 (i := 549) rfl ?_
      refine x_aload_n F.1 (i := 550) rfl rfl ?_
      refine x_iconst F.1 (i := 551) rfl ic_0 ?_
      refine gd_e h (fun g4 h => ?_)
      refine x_iald F.1 (i := 552) rfl rfl (inb_e g4) ?_
      refine gd_e h (fun g5 h => ?_)
      refine x_irem F.1 (i := 553) (v := 0) rfl (nz_e g5) ?_
      refine x_istore F.1 (i := 554) rfl (Nat.le_of_ble_eq_true rfl) (Nat.le_of_ble_eq_true rfl) rfl ?_
      replace h := bd_e h
      refine x_aload_n F.1 (i := 555) rfl rfl ?_
      refine x_iconst F.1 (i := 556) rfl ic_1 ?_
      refine x_iload F.1 (i := 557) rfl rfl ?_
      refine cal_e h (fun r7 M2 e8 h => ?_)
      refine x_cV2l F.1 (i := 558) rfl ml_LW_210 ok_KT_read rfl (Nat.le_of_ble_eq_true rfl) (Nat.le_of_ble_eq_true rfl) (fun _ => t_KT_read e8) ?_
      refine x_lstore F.1 (i := 559) rfl (Nat.le_of_ble_eq_true rfl) (Nat.le_of_ble_eq_true rfl) rfl ?_
      refine x_iconst F.1 (i := 560) rfl ic_0 ?_
      refine x_istore F.1 (i := 561) rfl (Nat.le_of_ble_eq_true rfl) (Nat.le_of_ble_eq_true rfl) rfl ?_
      refine x_iconst F.1 (i := 562) rfl ic_0 ?_
      refine x_istore F.1 (i := 563) rfl (Nat.le_of_ble_eq_true rfl) (Nat.le_of_ble_eq_true rfl) rfl ?_
      exact x_wk F.1 ((t_LW_law_l1048 F hp0 hQ hk892 FU) _ _ _ _ _ _ _ _ _ _ _ _ _ _ h) ⟨rfl, rfl, rfl, rfl, rfl, rfl, rfl, rfl, rfl, rfl, rfl, rfl, rfl, rfl, rfl, rfl, trivial⟩
    · replace h := if_F c h
      refine x_aload_n F.1 (i := 514) rfl rfl ?_
      refine x_iconst F.1 (i := 515) rfl ic_1 ?_
      refine x_iload F.1 (i := 516) rfl rfl ?_
      refine x_iload F.1 (i := 517) rfl rfl ?_
      refine x_iload F.1 (i := 518) rfl rfl ?_
      refine x_ishr F.1 (i := 519) rfl ?_
      refine x_iconst F.1 (i := 520) rfl ic_3 ?_
      refine x_iand F.1 (i := 521) rfl ?_
      refine x_iconst F.1 (i := 522) rfl ic_2 ?_
      refine x_icmp_ne F.1 (i := 523) (tgt := 994) rfl (by decide) (fun c => ?_) (fun c => ?_)
      · replace h := if_F c h
        refine x_ldc2_w F.1 (i := 533) rfl cl_LW_201 ?_
        refine cal_e h (fun r12 M4 e13 h => ?_)
        refine x_cV3i F.1 (i := 534) rfl ml_LW_203 ok_KT_write rfl (Nat.le_of_ble_eq_true rfl) (Nat.le_of_ble_eq_true rfl) (fun _ => t_KT_write e13) ?_
        refine x_if_ne F.1 (i := 535) (tgt := 1005) rfl (by decide) (fun c => ?_) (fun c => ?_)
        · replace h := if_F c h
          refine x_iinc F.1 (i := 538) rfl rfl rfl (Nat.le_of_ble_eq_true rfl) rfl ?_
          replace h := bd_e h
          refine x_goto F.1 (i := 539) (tgt := 958) rfl (by decide) ?_
          exact x_wk F.1 (ih _ _ _ _ _ _ _ _ _ _ h) ⟨rfl, rfl, rfl, rfl, rfl, rfl, rfl, rfl, rfl, rfl, rfl, rfl, trivial⟩
        · replace h := if_T c h
          refine x_iconst F.1 (i := 536) rfl ic_0 ?_
          exact x_zretf F (i := 537) rfl rfl (Or.inl rfl) h hQ
      · replace h := if_T c h
        refine x_iload F.1 (i := 524) rfl rfl ?_
        refine x_iload F.1 (i := 525) rfl rfl ?_
        refine x_iconst F.1 (i := 526) rfl ic_2 ?_
        refine x_iadd F.1 (i := 527) rfl ?_
        refine x_ishr F.1 (i := 528) rfl ?_
        refine x_iconst F.1 (i := 529) rfl ic_3 ?_
        refine x_iand F.1 (i := 530) rfl ?_
        refine x_i2l F.1 (i := 531) rfl ?_
        refine x_goto F.1 (i := 532) (tgt := 997) rfl (by decide) ?_
        refine cal_e h (fun r9 M3 e10 h => ?_)
        refine x_cV3i F.1 (i := 534) rfl ml_LW_203 ok_KT_write rfl (Nat.le_of_ble_eq_true rfl) (Nat.le_of_ble_eq_true rfl) (fun _ => t_KT_write e10) ?_
        refine x_if_ne F.1 (i := 535) (tgt := 1005) rfl (by decide) (fun c => ?_) (fun c => ?_)
        · replace h := if_F c h
          refine x_iinc F.1 (i := 538) rfl rfl rfl (Nat.le_of_ble_eq_true rfl) rfl ?_
          replace h := bd_e h
          refine x_goto F.1 (i := 539) (tgt := 958) rfl (by decide) ?_
          exact x_wk F.1 (ih _ _ _ _ _ _ _ _ _ _ h) ⟨rfl, rfl, rfl, rfl, rfl, rfl, rfl, rfl, rfl, rfl, rfl, rfl, trivial⟩
        · replace h := if_T c h
          refine x_iconst F.1 (i := 536) rfl ic_0 ?_
          exact x_zretf F (i := 537) rfl rfl (Or.inl rfl) h hQ
set_option maxRecDepth 20000 in
set_option maxHeartbeats 4000000 in
theorem t_LW_law_l903 {w : kx_W} {d : Nat} {Q : Option Value → kx_M → Prop} {G : Nat → List (Option Value) → List Value → kx_M → Prop} (F : Sd w (d + 9) m_LW_law Q G) {p0 : Nat × (Nat → Int32)} (hp0 : p0 = kx_sc w) {k892 : Int32 → Int32 → Int32 → Int32 → Int32 → Int32 → Int32 → Int32 → kx_M → Option (Int32 × kx_M)} {res : Int32 × kx_M} (hQ : Q (some (.int res.1)) res.2) (hk892 : ∀ (x4 : Int32) (x5 : Int32) (x6 : Int32) (x7 : Int32) (x8 : Int32) (x9 : Int32) (x10 : Int32) (x12 : Int32) (M : kx_M), k892 x4 x5 x6 x7 x8 x9 x10 x12 M = some res → G 892 [some (.retAddr 3), some (.ref 0), none, some (.ref 136), some (.int x4), some (.int x5), some (.int x6), some (.int x7), some (.int x8), some (.int x9), some (.int x10), none, some (.int x12), none, none, none, none, none, none] [] M) :
    ∀ (n : Nat) (x4 : Int32) (x5 : Int32) (x6 : Int32) (x7 : Int32) (x8 : Int32) (x9 : Int32) (x10 : Int32) (x12 : Int32) (x13 : Int32) (M : kx_M),
    f_LW_law_l903 p0 k892 n x4 x5 x6 x7 x8 x9 x10 x12 x13 M = some res → G 903 [some (.retAddr 3), some (.ref 0), none, some (.ref 136), some (.int x4), some (.int x5), some (.int x6), some (.int x7), some (.int x8), some (.int x9), some (.int x10), none, some (.int x12), some (.int x13), none, none, none, none, none] [] M := by
  intro n
  induction n with
  | zero =>
    intro x4 x5 x6 x7 x8 x9 x10 x12 x13 M h
    exact absurd h (by rw [f_LW_law_l903]; exact fun z => nomatch z)
  | succ n ih =>
    intro x4 x5 x6 x7 x8 x9 x10 x12 x13 M h
    rw [f_LW_law_l903] at h
    refine x_iload F.1 (i := 478) rfl rfl ?_
    refine x_aload_n F.1 (i := 479) rfl rfl ?_
    refine x_iconst F.1 (i := 480) rfl ic_3 ?_
    refine gd_e h (fun g1 h => ?_)
    refine x_iald F.1 (i := 481) rfl rfl (inb_e g1) ?_
    refine x_icmp_ge F.1 (i := 482) (tgt := 955) rfl (by decide) (fun c => ?_) (fun c => ?_)
    · replace h := if_T c h
      refine x_iconst F.1 (i := 507) rfl ic_0 ?_
      refine x_istore F.1 (i := 508) rfl (Nat.le_of_ble_eq_true rfl) (Nat.le_of_ble_eq_true rfl) rfl ?_
      exact x_wk F.1 ((t_LW_law_l958 F hp0 hQ hk892 FU) _ _ _ _ _ _ _ _ _ _ h) ⟨rfl, rfl, rfl, rfl, rfl, rfl, rfl, rfl, rfl, rfl, rfl, rfl, trivial⟩
    · replace h := if_F c h
      refine x_iload F.1 (i := 483) rfl rfl ?_
      refine x_iload F.1 (i := 484) rfl rfl ?_
      refine x_icmp_eq F.1 (i := 485) (tgt := 949) rfl (by decide) (fun c => ?_) (fun c => ?_)
      · replace h := if_T c h
        refine x_iinc F.1 (i := 505) rfl rfl rfl (Nat.le_of_ble_eq_true rfl) rfl ?_
        replace h := bd_e h
        refine x_goto F.1 (i := 506) (tgt := 903) rfl (by decide) ?_
        exact x_wk F.1 (ih _ _ _ _ _ _ _ _ _ _ h) ⟨rfl, rfl, rfl, rfl, rfl, rfl, rfl, rfl, rfl, rfl, rfl, rfl, trivial⟩
      · replace h := if_F c h
        refine x_aload_n F.1 (i := 486) rfl rfl ?_
        refine x_iload F.1 (i := 487) rfl rfl ?_
        refine x_iload F.1 (i := 488) rfl rfl ?_
        refine cal_e h (fun r3 M1 e4 h => ?_)
        refine x_cV2i F.1 (i := 489) rfl ml_LW_199 ok_KT_clash rfl (Nat.le_of_ble_eq_true rfl) (Nat.le_of_ble_eq_true rfl) (fun _ => t_KT_clash e4) ?_
        refine x_iconst F.1 (i := 490) rfl ic_1 ?_
        refine x_icmp_ne F.1 (i := 491) (tgt := 949) rfl (by decide) (fun c => ?_) (fun c => ?_)
        · replace h := if_F c h
          refine x_iinc F.1 (i := 505) rfl rfl rfl (Nat.le_of_ble_eq_true rfl) rfl ?_
          replace h := bd_e h
          refine x_goto F.1 (i := 506) (tgt := 903) rfl (by decide) ?_
          exact x_wk F.1 (ih _ _ _ _ _ _ _ _ _ _ h) ⟨rfl, rfl, rfl, rfl, rfl, rfl, rfl, rfl, rfl, rfl, rfl, rfl, trivial⟩
        · replace h := if_T c h
          refine x_iload F.1 (i := 492) rfl rfl ?_
          refine x_iload F.1 (i := 493) rfl rfl ?_
          refine x_ishr F.1 (i := 494) rfl ?_
          refine x_iload F.1 (i := 495) rfl rfl ?_
          refine x_iload F.1 (i := 496) rfl rfl ?_
          refine x_ishr F.1 (i := 497) rfl ?_
          refine x_iand F.1 (i := 498) rfl ?_
          refine x_iconst F.1 (i := 499) rfl ic_1 ?_
          refine x_iand F.1 (i := 500) rfl ?_
          refine x_iconst F.1 (i := 501) rfl ic_1 ?_
          refine x_icmp_ne F.1 (i := 502) (tgt := 949) rfl (by decide) (fun c => ?_) (fun c => ?_)
          · replace h := if_F c h
            refine x_iinc F.1 (i := 505) rfl rfl rfl (Nat.le_of_ble_eq_true rfl) rfl ?_
            replace h := bd_e h
            refine x_goto F.1 (i := 506) (tgt := 903) rfl (by decide) ?_
            exact x_wk F.1 (ih _ _ _ _ _ _ _ _ _ _ h) ⟨rfl, rfl, rfl, rfl, rfl, rfl, rfl, rfl, rfl, rfl, rfl, rfl, trivial⟩
          · replace h := if_T c h
            refine x_iconst F.1 (i := 503) rfl ic_0 ?_
            exact x_zretf F (i := 504) rfl rfl (Or.inl rfl) h hQ
set_option maxRecDepth 20000 in
set_option maxHeartbeats 4000000 in
theorem t_LW_law_l892 {w : kx_W} {d : Nat} {Q : Option Value → kx_M → Prop} {G : Nat → List (Option Value) → List Value → kx_M → Prop} (F : Sd w (d + 9) m_LW_law Q G) {p0 : Nat × (Nat → Int32)} (hp0 : p0 = kx_sc w) {k84 : Int32 → Int32 → Int32 → kx_M → Option (Int32 × kx_M)} {res : Int32 × kx_M} (hQ : Q (some (.int res.1)) res.2) (hk84 : ∀ (x4 : Int32) (x5 : Int32) (x6 : Int32) (M : kx_M), k84 x4 x5 x6 M = some res → G 84 [some (.retAddr 3), some (.ref 0), none, some (.ref 136), some (.int x4), some (.int x5), some (.int x6), none, none, none, none, none, none, none, none, none, none, none, none] [] M) :
    ∀ (n : Nat) (x4 : Int32) (x5 : Int32) (x6 : Int32) (x7 : Int32) (x8 : Int32) (x9 : Int32) (x10 : Int32) (x12 : Int32) (M : kx_M),
    f_LW_law_l892 p0 k84 n x4 x5 x6 x7 x8 x9 x10 x12 M = some res → G 892 [some (.retAddr 3), some (.ref 0), none, some (.ref 136), some (.int x4), some (.int x5), some (.int x6), some (.int x7), some (.int x8), some (.int x9), some (.int x10), none, some (.int x12), none, none, none, none, none, none] [] M := by
  intro n
  induction n with
  | zero =>
    intro x4 x5 x6 x7 x8 x9 x10 x12 M h
    exact absurd h (by rw [f_LW_law_l892]; exact fun z => nomatch z)
  | succ n ih =>
    intro x4 x5 x6 x7 x8 x9 x10 x12 M h
    rw [f_LW_law_l892] at h
    refine x_iload F.1 (i := 471) rfl rfl ?_
    refine x_aload_n F.1 (i := 472) rfl rfl ?_
    refine x_iconst F.1 (i := 473) rfl ic_3 ?_
    refine gd_e h (fun g1 h => ?_)
    refine x_iald F.1 (i := 474) rfl rfl (inb_e g1) ?_
    refine x_icmp_ge F.1 (i := 475) (tgt := 1211) rfl (by decide) (fun c => ?_) (fun c => ?_)
    · replace h := if_T c h
      refine x_iload F.1 (i := 650) rfl rfl ?_
      refine x_if_le F.1 (i := 651) (tgt := 1439) rfl (by decide) (fun c => ?_) (fun c => ?_)
      · replace h := if_T c h
        exact x_wk F.1 ((t_LW_law_l1439 F hp0 hQ hk84) _ _ _ _ _ _ _ h) ⟨rfl, rfl, rfl, rfl, rfl, rfl, rfl, rfl, rfl, trivial⟩
      · replace h := if_F c h
        refine x_aload_n F.1 (i := 652) rfl rfl ?_
        refine x_iload F.1 (i := 653) rfl rfl ?_
        refine x_iconst F.1 (i := 654) rfl ic_1 ?_
        refine x_isub F.1 (i := 655) rfl ?_
        refine cal_e h (fun r2 M1 e3 h => ?_)
        refine x_cV1i F.1 (i := 656) rfl ml_LW_220 ok_KT_queenOf rfl (Nat.le_of_ble_eq_true rfl) (Nat.le_of_ble_eq_true rfl) (fun _ => t_KT_queenOf e3) ?_
        refine x_istore F.1 (i := 657) rfl (Nat.le_of_ble_eq_true rfl) (Nat.le_of_ble_eq_true rfl) rfl ?_
        refine x_aload_n F.1 (i := 658) rfl rfl ?_
        refine cal_e h (fun r4 M2 e5 h => ?_)
        refine x_cV0i F.1 (i := 659) rfl ml_LW_147 ok_KT_mark rfl (Nat.le_of_ble_eq_true rfl) (Nat.le_of_ble_eq_true rfl) (fun _ => t_KT_mark e5) ?_
        refine x_iconst F.1 (i := 660) rfl ic_1 ?_
        refine x_icmp_eq F.1 (i := 661) (tgt := 1236) rfl (by decide) (fun c => ?_) (fun c => ?_)
        · replace h := if_T c h
          refine x_iconst F.1 (i := 664) rfl ic_0 ?_
          refine x_istore F.1 (i := 665) rfl (Nat.le_of_ble_eq_true rfl) (Nat.le_of_ble_eq_true rfl) rfl ?_
          exact x_wk F.1 ((t_LW_law_l1239 F hp0 hQ (t_LW_law_l1439 F hp0 hQ hk84) FU) _ _ _ _ _ _ _ _ _ h) ⟨rfl, rfl, rfl, rfl, rfl, rfl, rfl, rfl, rfl, rfl, rfl, trivial⟩
        · replace h := if_F c h
          refine x_iconst F.1 (i := 662) rfl ic_0 ?_
          exact x_zretf F (i := 663) rfl rfl (Or.inl rfl) h hQ
    · replace h := if_F c h
      refine x_iconst F.1 (i := 476) rfl ic_0 ?_
      refine x_istore F.1 (i := 477) rfl (Nat.le_of_ble_eq_true rfl) (Nat.le_of_ble_eq_true rfl) rfl ?_
      exact x_wk F.1 ((t_LW_law_l903 F hp0 hQ ih FU) _ _ _ _ _ _ _ _ _ _ h) ⟨rfl, rfl, rfl, rfl, rfl, rfl, rfl, rfl, rfl, rfl, rfl, rfl, trivial⟩
set_option maxRecDepth 20000 in
set_option maxHeartbeats 4000000 in
theorem t_LW_law_l812 {w : kx_W} {d : Nat} {Q : Option Value → kx_M → Prop} {G : Nat → List (Option Value) → List Value → kx_M → Prop} (F : Sd w (d + 9) m_LW_law Q G) {p0 : Nat × (Nat → Int32)} (hp0 : p0 = kx_sc w) {k84 : Int32 → Int32 → Int32 → kx_M → Option (Int32 × kx_M)} {res : Int32 × kx_M} (hQ : Q (some (.int res.1)) res.2) (hk84 : ∀ (x4 : Int32) (x5 : Int32) (x6 : Int32) (M : kx_M), k84 x4 x5 x6 M = some res → G 84 [some (.retAddr 3), some (.ref 0), none, some (.ref 136), some (.int x4), some (.int x5), some (.int x6), none, none, none, none, none, none, none, none, none, none, none, none] [] M) :
    ∀ (n : Nat) (x4 : Int32) (x5 : Int32) (x6 : Int32) (x7 : Int32) (x8 : Int32) (x9 : Int32) (x10 : Int32) (x11 : Int32) (x12 : Int32) (M : kx_M),
    f_LW_law_l812 p0 k84 n x4 x5 x6 x7 x8 x9 x10 x11 x12 M = some res → G 812 [some (.retAddr 3), some (.ref 0), none, some (.ref 136), some (.int x4), some (.int x5), some (.int x6), some (.int x7), some (.int x8), some (.int x9), some (.int x10), some (.int x11), some (.int x12), none, none, none, none, none, none] [] M := by
  intro n
  induction n with
  | zero =>
    intro x4 x5 x6 x7 x8 x9 x10 x11 x12 M h
    exact absurd h (by rw [f_LW_law_l812]; exact fun z => nomatch z)
  | succ n ih =>
    intro x4 x5 x6 x7 x8 x9 x10 x11 x12 M h
    rw [f_LW_law_l812] at h
    refine x_iload F.1 (i := 429) rfl rfl ?_
    refine x_aload_n F.1 (i := 430) rfl rfl ?_
    refine x_iconst F.1 (i := 431) rfl ic_2 ?_
    refine gd_e h (fun g1 h => ?_)
    refine x_iald F.1 (i := 432) rfl rfl (inb_e g1) ?_
    refine x_icmp_ge F.1 (i := 433) (tgt := 852) rfl (by decide) (fun c => ?_) (fun c => ?_)
    · replace h := if_T c h
      refine x_iload F.1 (i := 450) rfl rfl ?_
      refine x_aload_n F.1 (i := 451) rfl rfl ?_
      refine cal_e h (fun r2 M1 e3 h => ?_)
      refine x_cV0i F.1 (i := 452) rfl ml_LW_190 ok_KT_bargainWorth rfl (Nat.le_of_ble_eq_true rfl) (Nat.le_of_ble_eq_true rfl) (fun _ => t_KT_bargainWorth e3) ?_
      refine x_icmp_ne F.1 (i := 453) (tgt := 887) rfl (by decide) (fun c => ?_) (fun c => ?_)
      · replace h := if_F c h
        refine x_iconst F.1 (i := 467) rfl ic_0 ?_
        exact x_zretf F (i := 468) rfl rfl (Or.inl rfl) h hQ
      · replace h := if_T c h
        refine x_aload_n F.1 (i := 454) rfl rfl ?_
        refine cal_e h (fun r4 M2 e5 h => ?_)
        refine x_cV0i F.1 (i := 455) rfl ml_LW_193 ok_KT_stables rfl (Nat.le_of_ble_eq_true rfl) (Nat.le_of_ble_eq_true rfl) (fun _ => t_KT_stables e5) ?_
        refine x_iconst F.1 (i := 456) rfl ic_1 ?_
        refine x_icmp_lt F.1 (i := 457) (tgt := 887) rfl (by decide) (fun c => ?_) (fun c => ?_)
        · replace h := if_T c h
          refine x_iconst F.1 (i := 467) rfl ic_0 ?_
          exact x_zretf F (i := 468) rfl rfl (Or.inl rfl) h hQ
        · replace h := if_F c h
          refine x_aload_n F.1 (i := 458) rfl rfl ?_
          refine cal_e h (fun r6 M3 e7 h => ?_)
          refine x_cV0i F.1 (i := 459) rfl ml_LW_193 ok_KT_stables rfl (Nat.le_of_ble_eq_true rfl) (Nat.le_of_ble_eq_true rfl) (fun _ => t_KT_stables e7) ?_
          refine x_iload F.1 (i := 460) rfl rfl ?_
          refine x_icmp_gt F.1 (i := 461) (tgt := 887) rfl (by decide) (fun c => ?_) (fun c => ?_)
          · replace h := if_T c h
            refine x_iconst F.1 (i := 467) rfl ic_0 ?_
            exact x_zretf F (i := 468) rfl rfl (Or.inl rfl) h hQ
          · replace h := if_F c h
            refine x_aload_n F.1 (i := 462) rfl rfl ?_
            refine x_iconst F.1 (i := 463) rfl ic_0 ?_
            refine cal_e h (fun r8 M4 e9 h => ?_)
            refine x_cV1i F.1 (i := 464) rfl ml_LW_196 ok_KT_stable rfl (Nat.le_of_ble_eq_true rfl) (Nat.le_of_ble_eq_true rfl) (fun _ => t_KT_stable e9) ?_
            refine x_iconst F.1 (i := 465) rfl ic_1 ?_
            refine x_icmp_eq F.1 (i := 466) (tgt := 889) rfl (by decide) (fun c => ?_) (fun c => ?_)
            · replace h := if_T c h
              refine x_iconst F.1 (i := 469) rfl ic_0 ?_
              refine x_istore F.1 (i := 470) rfl (Nat.le_of_ble_eq_true rfl) (Nat.le_of_ble_eq_true rfl) rfl ?_
              exact x_wk F.1 ((t_LW_law_l892 F hp0 hQ hk84 FU) _ _ _ _ _ _ _ _ _ h) ⟨rfl, rfl, rfl, rfl, rfl, rfl, rfl, rfl, rfl, rfl, rfl, trivial⟩
            · replace h := if_F c h
              refine x_iconst F.1 (i := 467) rfl ic_0 ?_
              exact x_zretf F (i := 468) rfl rfl (Or.inl rfl) h hQ
    · replace h := if_F c h
      refine x_aload_n F.1 (i := 434) rfl rfl ?_
      refine x_iload F.1 (i := 435) rfl rfl ?_
      refine x_iload F.1 (i := 436) rfl rfl ?_
      refine cal_e h (fun r10 M5 e11 h => ?_)
      refine x_cV2i F.1 (i := 437) rfl ml_LW_187 ok_KT_wins rfl (Nat.le_of_ble_eq_true rfl) (Nat.le_of_ble_eq_true rfl) (fun _ => t_KT_wins e11) ?_
      refine x_if_ge F.1 (i := 438) (tgt := 833) rfl (by decide) (fun c => ?_) (fun c => ?_)
      · replace h := if_T c h
        refine x_iload F.1 (i := 441) rfl rfl ?_
        refine x_aload_n F.1 (i := 442) rfl rfl ?_
        refine x_iload F.1 (i := 443) rfl rfl ?_
        refine x_iload F.1 (i := 444) rfl rfl ?_
        refine cal_e h (fun r12 M6 e13 h => ?_)
        refine x_cV2i F.1 (i := 445) rfl ml_LW_187 ok_KT_wins rfl (Nat.le_of_ble_eq_true rfl) (Nat.le_of_ble_eq_true rfl) (fun _ => t_KT_wins e13) ?_
        refine x_iadd F.1 (i := 446) rfl ?_
        refine x_istore F.1 (i := 447) rfl (Nat.le_of_ble_eq_true rfl) (Nat.le_of_ble_eq_true rfl) rfl ?_
        replace h := bd_e h
        refine x_iinc F.1 (i := 448) rfl rfl rfl (Nat.le_of_ble_eq_true rfl) rfl ?_
        replace h := bd_e h
        refine x_goto F.1 (i := 449) (tgt := 812) rfl (by decide) ?_
        exact x_wk F.1 (ih _ _ _ _ _ _ _ _ _ _ h) ⟨rfl, rfl, rfl, rfl, rfl, rfl, rfl, rfl, rfl, rfl, rfl, rfl, trivial⟩
      · replace h := if_F c h
        refine x_iconst F.1 (i := 439) rfl ic_0 ?_
        exact x_zretf F (i := 440) rfl rfl (Or.inl rfl) h hQ
set_option maxRecDepth 20000 in
set_option maxHeartbeats 4000000 in
theorem t_LW_law_l724 {w : kx_W} {d : Nat} {Q : Option Value → kx_M → Prop} {G : Nat → List (Option Value) → List Value → kx_M → Prop} (F : Sd w (d + 9) m_LW_law Q G) {p0 : Nat × (Nat → Int32)} (hp0 : p0 = kx_sc w) {k699 : Int32 → Int32 → Int32 → Int32 → Int32 → Int32 → Int32 → Int32 → Int32 → Int32 → Int32 → kx_M → Option (Int32 × kx_M)} {res : Int32 × kx_M} (hQ : Q (some (.int res.1)) res.2) (hk699 : ∀ (x4 : Int32) (x5 : Int32) (x6 : Int32) (x7 : Int32) (x8 : Int32) (x9 : Int32) (x10 : Int32) (x11 : Int32) (x13 : Int32) (x14 : Int32) (x15 : Int32) (M : kx_M), k699 x4 x5 x6 x7 x8 x9 x10 x11 x13 x14 x15 M = some res → G 699 [some (.retAddr 3), some (.ref 0), none, some (.ref 136), some (.int x4), some (.int x5), some (.int x6), some (.int x7), some (.int x8), some (.int x9), some (.int x10), some (.int x11), none, some (.int x13), some (.int x14), some (.int x15), none, none, none] [] M) :
    ∀ (n : Nat) (x4 : Int32) (x5 : Int32) (x6 : Int32) (x7 : Int32) (x8 : Int32) (x9 : Int32) (x10 : Int32) (x11 : Int32) (x13 : Int32) (x14 : Int32) (x15 : Int32) (x16 : Int32) (M : kx_M),
    f_LW_law_l724 p0 k699 n x4 x5 x6 x7 x8 x9 x10 x11 x13 x14 x15 x16 M = some res → G 724 [some (.retAddr 3), some (.ref 0), none, some (.ref 136), some (.int x4), some (.int x5), some (.int x6), some (.int x7), some (.int x8), some (.int x9), some (.int x10), some (.int x11), none, some (.int x13), some (.int x14), some (.int x15), some (.int x16), none, none] [] M := by
  intro n
  induction n with
  | zero =>
    intro x4 x5 x6 x7 x8 x9 x10 x11 x13 x14 x15 x16 M h
    exact absurd h (by rw [f_LW_law_l724]; exact fun z => nomatch z)
  | succ n ih =>
    intro x4 x5 x6 x7 x8 x9 x10 x11 x13 x14 x15 x16 M h
    rw [f_LW_law_l724] at h
    refine x_iload F.1 (i := 388) rfl rfl ?_
    refine x_aload_n F.1 (i := 389) rfl rfl ?_
    refine x_iload F.1 (i := 390) rfl rfl ?_
    refine cal_e h (fun r1 M1 e2 h => ?_)
    refine x_cV1i F.1 (i := 391) rfl ml_LW_177 ok_KT_length rfl (Nat.le_of_ble_eq_true rfl) (Nat.le_of_ble_eq_true rfl) (fun _ => t_KT_length e2) ?_
    refine x_icmp_ge F.1 (i := 392) (tgt := 775) rfl (by decide) (fun c => ?_) (fun c => ?_)
    · replace h := if_T c h
      refine x_iinc F.1 (i := 412) rfl rfl rfl (Nat.le_of_ble_eq_true rfl) rfl ?_
      replace h := bd_e h
      refine x_goto F.1 (i := 413) (tgt := 699) rfl (by decide) ?_
      exact x_wk F.1 (hk699 _ _ _ _ _ _ _ _ _ _ _ _ h) ⟨rfl, rfl, rfl, rfl, rfl, rfl, rfl, rfl, rfl, rfl, rfl, rfl, rfl, rfl, trivial⟩
    · replace h := if_F c h
      refine x_iload F.1 (i := 393) rfl rfl ?_
      refine x_if_eq F.1 (i := 394) (tgt := 766) rfl (by decide) (fun c => ?_) (fun c => ?_)
      · replace h := if_T c h
        refine x_iconst F.1 (i := 408) rfl ic_0 ?_
        refine x_istore F.1 (i := 409) rfl (Nat.le_of_ble_eq_true rfl) (Nat.le_of_ble_eq_true rfl) rfl ?_
        refine x_iinc F.1 (i := 410) rfl rfl rfl (Nat.le_of_ble_eq_true rfl) rfl ?_
        replace h := bd_e h
        refine x_goto F.1 (i := 411) (tgt := 724) rfl (by decide) ?_
        exact x_wk F.1 (ih _ _ _ _ _ _ _ _ _ _ _ _ _ h) ⟨rfl, rfl, rfl, rfl, rfl, rfl, rfl, rfl, rfl, rfl, rfl, rfl, rfl, rfl, rfl, trivial⟩
      · replace h := if_F c h
        refine x_aload_n F.1 (i := 395) rfl rfl ?_
        refine x_iload F.1 (i := 396) rfl rfl ?_
        refine x_iload F.1 (i := 397) rfl rfl ?_
        refine x_iload F.1 (i := 398) rfl rfl ?_
        refine x_iadd F.1 (i := 399) rfl ?_
        refine cal_e h (fun r5 M2 e6 h => ?_)
        refine x_cV2i F.1 (i := 400) rfl ml_LW_179 ok_KT_shortestAt rfl (Nat.le_of_ble_eq_true rfl) (Nat.le_of_ble_eq_true rfl) (fun _ => t_KT_shortestAt e6) ?_
        refine x_aload_n F.1 (i := 401) rfl rfl ?_
        refine x_iload F.1 (i := 402) rfl rfl ?_
        refine x_iload F.1 (i := 403) rfl rfl ?_
        refine cal_e h (fun r7 M3 e8 h => ?_)
        refine x_cV2i F.1 (i := 404) rfl ml_LW_182 ok_KT_kind rfl (Nat.le_of_ble_eq_true rfl) (Nat.le_of_ble_eq_true rfl) (fun _ => t_KT_kind e8) ?_
        refine x_icmp_ne F.1 (i := 405) (tgt := 766) rfl (by decide) (fun c => ?_) (fun c => ?_)
        · replace h := if_F c h
          refine x_iconst F.1 (i := 408) rfl ic_0 ?_
          refine x_istore F.1 (i := 409) rfl (Nat.le_of_ble_eq_true rfl) (Nat.le_of_ble_eq_true rfl) rfl ?_
          refine x_iinc F.1 (i := 410) rfl rfl rfl (Nat.le_of_ble_eq_true rfl) rfl ?_
          replace h := bd_e h
          refine x_goto F.1 (i := 411) (tgt := 724) rfl (by decide) ?_
          exact x_wk F.1 (ih _ _ _ _ _ _ _ _ _ _ _ _ _ h) ⟨rfl, rfl, rfl, rfl, rfl, rfl, rfl, rfl, rfl, rfl, rfl, rfl, rfl, rfl, rfl, trivial⟩
        · replace h := if_T c h
          refine x_iconst F.1 (i := 406) rfl ic_1 ?_
          refine x_goto F.1 (i := 407) (tgt := 767) rfl (by decide) ?_
          refine x_istore F.1 (i := 409) rfl (Nat.le_of_ble_eq_true rfl) (Nat.le_of_ble_eq_true rfl) rfl ?_
          refine x_iinc F.1 (i := 410) rfl rfl rfl (Nat.le_of_ble_eq_true rfl) rfl ?_
          replace h := bd_e h
          refine x_goto F.1 (i := 411) (tgt := 724) rfl (by decide) ?_
          exact x_wk F.1 (ih _ _ _ _ _ _ _ _ _ _ _ _ _ h) ⟨rfl, rfl, rfl, rfl, rfl, rfl, rfl, rfl, rfl, rfl, rfl, rfl, rfl, rfl, rfl, trivial⟩
set_option maxRecDepth 20000 in
set_option maxHeartbeats 4000000 in
theorem t_LW_law_l699 {w : kx_W} {d : Nat} {Q : Option Value → kx_M → Prop} {G : Nat → List (Option Value) → List Value → kx_M → Prop} (F : Sd w (d + 9) m_LW_law Q G) {p0 : Nat × (Nat → Int32)} (hp0 : p0 = kx_sc w) {k672 : Int32 → Int32 → Int32 → Int32 → Int32 → Int32 → Int32 → Int32 → Int32 → kx_M → Option (Int32 × kx_M)} {res : Int32 × kx_M} (hQ : Q (some (.int res.1)) res.2) (hk672 : ∀ (x4 : Int32) (x5 : Int32) (x6 : Int32) (x7 : Int32) (x8 : Int32) (x9 : Int32) (x10 : Int32) (x11 : Int32) (x13 : Int32) (M : kx_M), k672 x4 x5 x6 x7 x8 x9 x10 x11 x13 M = some res → G 672 [some (.retAddr 3), some (.ref 0), none, some (.ref 136), some (.int x4), some (.int x5), some (.int x6), some (.int x7), some (.int x8), some (.int x9), some (.int x10), some (.int x11), none, some (.int x13), none, none, none, none, none] [] M) :
    ∀ (n : Nat) (x4 : Int32) (x5 : Int32) (x6 : Int32) (x7 : Int32) (x8 : Int32) (x9 : Int32) (x10 : Int32) (x11 : Int32) (x13 : Int32) (x14 : Int32) (x15 : Int32) (M : kx_M),
    f_LW_law_l699 p0 k672 n x4 x5 x6 x7 x8 x9 x10 x11 x13 x14 x15 M = some res → G 699 [some (.retAddr 3), some (.ref 0), none, some (.ref 136), some (.int x4), some (.int x5), some (.int x6), some (.int x7), some (.int x8), some (.int x9), some (.int x10), some (.int x11), none, some (.int x13), some (.int x14), some (.int x15), none, none, none] [] M := by
  intro n
  induction n with
  | zero =>
    intro x4 x5 x6 x7 x8 x9 x10 x11 x13 x14 x15 M h
    exact absurd h (by rw [f_LW_law_l699]; exact fun z => nomatch z)
  | succ n ih =>
    intro x4 x5 x6 x7 x8 x9 x10 x11 x13 x14 x15 M h
    rw [f_LW_law_l699] at h
    refine x_iload F.1 (i := 375) rfl rfl ?_
    refine x_aload_n F.1 (i := 376) rfl rfl ?_
    refine x_iload F.1 (i := 377) rfl rfl ?_
    refine cal_e h (fun r1 M1 e2 h => ?_)
    refine x_cV1i F.1 (i := 378) rfl ml_LW_177 ok_KT_length rfl (Nat.le_of_ble_eq_true rfl) (Nat.le_of_ble_eq_true rfl) (fun _ => t_KT_length e2) ?_
    refine x_iadd F.1 (i := 379) rfl ?_
    refine x_iload F.1 (i := 380) rfl rfl ?_
    refine x_icmp_gt F.1 (i := 381) (tgt := 781) rfl (by decide) (fun c => ?_) (fun c => ?_)
    · replace h := if_T c h
      refine x_iload F.1 (i := 414) rfl rfl ?_
      refine x_if_ne F.1 (i := 415) (tgt := 788) rfl (by decide) (fun c => ?_) (fun c => ?_)
      · replace h := if_F c h
        refine x_iinc F.1 (i := 418) rfl rfl rfl (Nat.le_of_ble_eq_true rfl) rfl ?_
        replace h := bd_e h
        refine x_goto F.1 (i := 419) (tgt := 672) rfl (by decide) ?_
        exact x_wk F.1 (hk672 _ _ _ _ _ _ _ _ _ _ h) ⟨rfl, rfl, rfl, rfl, rfl, rfl, rfl, rfl, rfl, rfl, rfl, rfl, trivial⟩
      · replace h := if_T c h
        refine x_iconst F.1 (i := 416) rfl ic_0 ?_
        exact x_zretf F (i := 417) rfl rfl (Or.inl rfl) h hQ
    · replace h := if_F c h
      refine x_iload F.1 (i := 382) rfl rfl ?_
      refine x_if_ne F.1 (i := 383) (tgt := 781) rfl (by decide) (fun c => ?_) (fun c => ?_)
      · replace h := if_F c h
        refine x_iload F.1 (i := 414) rfl rfl ?_
        refine x_if_ne F.1 (i := 415) (tgt := 788) rfl (by decide) (fun c => ?_) (fun c => ?_)
        · replace h := if_F c h
          refine x_iinc F.1 (i := 418) rfl rfl rfl (Nat.le_of_ble_eq_true rfl) rfl ?_
          replace h := bd_e h
          refine x_goto F.1 (i := 419) (tgt := 672) rfl (by decide) ?_
          exact x_wk F.1 (hk672 _ _ _ _ _ _ _ _ _ _ h) ⟨rfl, rfl, rfl, rfl, rfl, rfl, rfl, rfl, rfl, rfl, rfl, rfl, trivial⟩
        · replace h := if_T c h
          refine x_iconst F.1 (i := 416) rfl ic_0 ?_
          exact x_zretf F (i := 417) rfl rfl (Or.inl rfl) h hQ
      · replace h := if_T c h
        refine x_iconst F.1 (i := 384) rfl ic_1 ?_
        refine x_istore F.1 (i := 385) rfl (Nat.le_of_ble_eq_true rfl) (Nat.le_of_ble_eq_true rfl) rfl ?_
        refine x_iconst F.1 (i := 386) rfl ic_0 ?_
        refine x_istore F.1 (i := 387) rfl (Nat.le_of_ble_eq_true rfl) (Nat.le_of_ble_eq_true rfl) rfl ?_
        exact x_wk F.1 ((t_LW_law_l724 F hp0 hQ ih FU) _ _ _ _ _ _ _ _ _ _ _ _ _ h) ⟨rfl, rfl, rfl, rfl, rfl, rfl, rfl, rfl, rfl, rfl, rfl, rfl, rfl, rfl, rfl, trivial⟩
set_option maxRecDepth 20000 in
set_option maxHeartbeats 4000000 in
theorem t_LW_law_l672 {w : kx_W} {d : Nat} {Q : Option Value → kx_M → Prop} {G : Nat → List (Option Value) → List Value → kx_M → Prop} (F : Sd w (d + 9) m_LW_law Q G) {p0 : Nat × (Nat → Int32)} (hp0 : p0 = kx_sc w) {k588 : Int32 → Int32 → Int32 → Int32 → Int32 → Int32 → Int32 → kx_M → Option (Int32 × kx_M)} {res : Int32 × kx_M} (hQ : Q (some (.int res.1)) res.2) (hk588 : ∀ (x4 : Int32) (x5 : Int32) (x6 : Int32) (x7 : Int32) (x8 : Int32) (x9 : Int32) (x10 : Int32) (M : kx_M), k588 x4 x5 x6 x7 x8 x9 x10 M = some res → G 588 [some (.retAddr 3), some (.ref 0), none, some (.ref 136), some (.int x4), some (.int x5), some (.int x6), some (.int x7), some (.int x8), some (.int x9), some (.int x10), none, none, none, none, none, none, none, none] [] M) :
    ∀ (n : Nat) (x4 : Int32) (x5 : Int32) (x6 : Int32) (x7 : Int32) (x8 : Int32) (x9 : Int32) (x10 : Int32) (x11 : Int32) (x13 : Int32) (M : kx_M),
    f_LW_law_l672 p0 k588 n x4 x5 x6 x7 x8 x9 x10 x11 x13 M = some res → G 672 [some (.retAddr 3), some (.ref 0), none, some (.ref 136), some (.int x4), some (.int x5), some (.int x6), some (.int x7), some (.int x8), some (.int x9), some (.int x10), some (.int x11), none, some (.int x13), none, none, none, none, none] [] M := by
  intro n
  induction n with
  | zero =>
    intro x4 x5 x6 x7 x8 x9 x10 x11 x13 M h
    exact absurd h (by rw [f_LW_law_l672]; exact fun z => nomatch z)
  | succ n ih =>
    intro x4 x5 x6 x7 x8 x9 x10 x11 x13 M h
    rw [f_LW_law_l672] at h
    refine x_iload F.1 (i := 359) rfl rfl ?_
    refine x_aload_n F.1 (i := 360) rfl rfl ?_
    refine x_iconst F.1 (i := 361) rfl ic_3 ?_
    refine gd_e h (fun g1 h => ?_)
    refine x_iald F.1 (i := 362) rfl rfl (inb_e g1) ?_
    refine x_icmp_ge F.1 (i := 363) (tgt := 794) rfl (by decide) (fun c => ?_) (fun c => ?_)
    · replace h := if_T c h
      refine x_iinc F.1 (i := 420) rfl rfl rfl (Nat.le_of_ble_eq_true rfl) rfl ?_
      replace h := bd_e h
      refine x_goto F.1 (i := 421) (tgt := 588) rfl (by decide) ?_
      exact x_wk F.1 (hk588 _ _ _ _ _ _ _ _ h) ⟨rfl, rfl, rfl, rfl, rfl, rfl, rfl, rfl, rfl, rfl, trivial⟩
    · replace h := if_F c h
      refine x_iload F.1 (i := 364) rfl rfl ?_
      refine x_iload F.1 (i := 365) rfl rfl ?_
      refine x_ishr F.1 (i := 366) rfl ?_
      refine x_iconst F.1 (i := 367) rfl ic_1 ?_
      refine x_iand F.1 (i := 368) rfl ?_
      refine x_if_ne F.1 (i := 369) (tgt := 693) rfl (by decide) (fun c => ?_) (fun c => ?_)
      · replace h := if_F c h
        refine x_iconst F.1 (i := 371) rfl ic_0 ?_
        refine x_istore F.1 (i := 372) rfl (Nat.le_of_ble_eq_true rfl) (Nat.le_of_ble_eq_true rfl) rfl ?_
        refine x_iconst F.1 (i := 373) rfl ic_0 ?_
        refine x_istore F.1 (i := 374) rfl (Nat.le_of_ble_eq_true rfl) (Nat.le_of_ble_eq_true rfl) rfl ?_
        exact x_wk F.1 ((t_LW_law_l699 F hp0 hQ ih FU) _ _ _ _ _ _ _ _ _ _ _ _ h) ⟨rfl, rfl, rfl, rfl, rfl, rfl, rfl, rfl, rfl, rfl, rfl, rfl, rfl, rfl, trivial⟩
      · replace h := if_T c h
        refine x_goto F.1 (i := 370) (tgt := 788) rfl (by decide) ?_
        refine x_iinc F.1 (i := 418) rfl rfl rfl (Nat.le_of_ble_eq_true rfl) rfl ?_
        replace h := bd_e h
        refine x_goto F.1 (i := 419) (tgt := 672) rfl (by decide) ?_
        exact x_wk F.1 (ih _ _ _ _ _ _ _ _ _ _ h) ⟨rfl, rfl, rfl, rfl, rfl, rfl, rfl, rfl, rfl, rfl, rfl, rfl, trivial⟩
set_option maxRecDepth 20000 in
set_option maxHeartbeats 4000000 in
theorem t_LW_law_l609 {w : kx_W} {d : Nat} {Q : Option Value → kx_M → Prop} {G : Nat → List (Option Value) → List Value → kx_M → Prop} (F : Sd w (d + 9) m_LW_law Q G) {p0 : Nat × (Nat → Int32)} (hp0 : p0 = kx_sc w) {k588 : Int32 → Int32 → Int32 → Int32 → Int32 → Int32 → Int32 → kx_M → Option (Int32 × kx_M)} {res : Int32 × kx_M} (hQ : Q (some (.int res.1)) res.2) (hk588 : ∀ (x4 : Int32) (x5 : Int32) (x6 : Int32) (x7 : Int32) (x8 : Int32) (x9 : Int32) (x10 : Int32) (M : kx_M), k588 x4 x5 x6 x7 x8 x9 x10 M = some res → G 588 [some (.retAddr 3), some (.ref 0), none, some (.ref 136), some (.int x4), some (.int x5), some (.int x6), some (.int x7), some (.int x8), some (.int x9), some (.int x10), none, none, none, none, none, none, none, none] [] M) :
    ∀ (n : Nat) (x4 : Int32) (x5 : Int32) (x6 : Int32) (x7 : Int32) (x8 : Int32) (x9 : Int32) (x10 : Int32) (x11 : Int32) (x12 : Int32) (x13 : Int32) (M : kx_M),
    f_LW_law_l609 p0 k588 n x4 x5 x6 x7 x8 x9 x10 x11 x12 x13 M = some res → G 609 [some (.retAddr 3), some (.ref 0), none, some (.ref 136), some (.int x4), some (.int x5), some (.int x6), some (.int x7), some (.int x8), some (.int x9), some (.int x10), some (.int x11), some (.int x12), some (.int x13), none, none, none, none, none] [] M := by
  intro n
  induction n with
  | zero =>
    intro x4 x5 x6 x7 x8 x9 x10 x11 x12 x13 M h
    exact absurd h (by rw [f_LW_law_l609]; exact fun z => nomatch z)
  | succ n ih =>
    intro x4 x5 x6 x7 x8 x9 x10 x11 x12 x13 M h
    rw [f_LW_law_l609] at h
    refine x_iload F.1 (i := 326) rfl rfl ?_
    refine x_aload_n F.1 (i := 327) rfl rfl ?_
    refine x_iconst F.1 (i := 328) rfl ic_3 ?_
    refine gd_e h (fun g1 h => ?_)
    refine x_iald F.1 (i := 329) rfl rfl (inb_e g1) ?_
    refine x_icmp_ge F.1 (i := 330) (tgt := 645) rfl (by decide) (fun c => ?_) (fun c => ?_)
    · replace h := if_T c h
      refine x_iload F.1 (i := 346) rfl rfl ?_
      refine x_if_lt F.1 (i := 347) (tgt := 667) rfl (by decide) (fun c => ?_) (fun c => ?_)
      · replace h := if_T c h
        refine x_iconst F.1 (i := 355) rfl ic_0 ?_
        exact x_zretf F (i := 356) rfl rfl (Or.inl rfl) h hQ
      · replace h := if_F c h
        refine x_iload F.1 (i := 348) rfl rfl ?_
        refine x_iload F.1 (i := 349) rfl rfl ?_
        refine x_icmp_gt F.1 (i := 350) (tgt := 667) rfl (by decide) (fun c => ?_) (fun c => ?_)
        · replace h := if_T c h
          refine x_iconst F.1 (i := 355) rfl ic_0 ?_
          exact x_zretf F (i := 356) rfl rfl (Or.inl rfl) h hQ
        · replace h := if_F c h
          refine x_iload F.1 (i := 351) rfl rfl ?_
          refine x_if_le F.1 (i := 352) (tgt := 669) rfl (by decide) (fun c => ?_) (fun c => ?_)
          · replace h := if_T c h
            refine x_iconst F.1 (i := 357) rfl ic_0 ?_
            refine x_istore F.1 (i := 358) rfl (Nat.le_of_ble_eq_true rfl) (Nat.le_of_ble_eq_true rfl) rfl ?_
            exact x_wk F.1 ((t_LW_law_l672 F hp0 hQ hk588 FU) _ _ _ _ _ _ _ _ _ _ h) ⟨rfl, rfl, rfl, rfl, rfl, rfl, rfl, rfl, rfl, rfl, rfl, rfl, trivial⟩
          · replace h := if_F c h
            refine x_iload F.1 (i := 353) rfl rfl ?_
            refine x_if_ne F.1 (i := 354) (tgt := 669) rfl (by decide) (fun c => ?_) (fun c => ?_)
            · replace h := if_F c h
              refine x_iconst F.1 (i := 357) rfl ic_0 ?_
              refine x_istore F.1 (i := 358) rfl (Nat.le_of_ble_eq_true rfl) (Nat.le_of_ble_eq_true rfl) rfl ?_
              exact x_wk F.1 ((t_LW_law_l672 F hp0 hQ hk588 FU) _ _ _ _ _ _ _ _ _ _ h) ⟨rfl, rfl, rfl, rfl, rfl, rfl, rfl, rfl, rfl, rfl, rfl, rfl, trivial⟩
            · replace h := if_T c h
              refine x_iconst F.1 (i := 355) rfl ic_0 ?_
              exact x_zretf F (i := 356) rfl rfl (Or.inl rfl) h hQ
    · replace h := if_F c h
      refine x_iload F.1 (i := 331) rfl rfl ?_
      refine x_iload F.1 (i := 332) rfl rfl ?_
      refine x_ishr F.1 (i := 333) rfl ?_
      refine x_iconst F.1 (i := 334) rfl ic_1 ?_
      refine x_iand F.1 (i := 335) rfl ?_
      refine x_iconst F.1 (i := 336) rfl ic_1 ?_
      refine x_icmp_ne F.1 (i := 337) (tgt := 639) rfl (by decide) (fun c => ?_) (fun c => ?_)
      · replace h := if_F c h
        refine x_iinc F.1 (i := 344) rfl rfl rfl (Nat.le_of_ble_eq_true rfl) rfl ?_
        replace h := bd_e h
        refine x_goto F.1 (i := 345) (tgt := 609) rfl (by decide) ?_
        exact x_wk F.1 (ih _ _ _ _ _ _ _ _ _ _ _ h) ⟨rfl, rfl, rfl, rfl, rfl, rfl, rfl, rfl, rfl, rfl, rfl, rfl, rfl, trivial⟩
      · replace h := if_T c h
        refine x_iload F.1 (i := 338) rfl rfl ?_
        refine x_aload_n F.1 (i := 339) rfl rfl ?_
        refine x_iload F.1 (i := 340) rfl rfl ?_
        refine cal_e h (fun r2 M1 e3 h => ?_)
        refine x_cV1i F.1 (i := 341) rfl ml_LW_177 ok_KT_length rfl (Nat.le_of_ble_eq_true rfl) (Nat.le_of_ble_eq_true rfl) (fun _ => t_KT_length e3) ?_
        refine x_iadd F.1 (i := 342) rfl ?_
        refine x_istore F.1 (i := 343) rfl (Nat.le_of_ble_eq_true rfl) (Nat.le_of_ble_eq_true rfl) rfl ?_
        replace h := bd_e h
        refine x_iinc F.1 (i := 344) rfl rfl rfl (Nat.le_of_ble_eq_true rfl) rfl ?_
        replace h := bd_e h
        refine x_goto F.1 (i := 345) (tgt := 609) rfl (by decide) ?_
        exact x_wk F.1 (ih _ _ _ _ _ _ _ _ _ _ _ h) ⟨rfl, rfl, rfl, rfl, rfl, rfl, rfl, rfl, rfl, rfl, rfl, rfl, rfl, trivial⟩
set_option maxRecDepth 20000 in
set_option maxHeartbeats 4000000 in
theorem t_LW_law_l588 {w : kx_W} {d : Nat} {Q : Option Value → kx_M → Prop} {G : Nat → List (Option Value) → List Value → kx_M → Prop} (F : Sd w (d + 9) m_LW_law Q G) {p0 : Nat × (Nat → Int32)} (hp0 : p0 = kx_sc w) {k84 : Int32 → Int32 → Int32 → kx_M → Option (Int32 × kx_M)} {res : Int32 × kx_M} (hQ : Q (some (.int res.1)) res.2) (hk84 : ∀ (x4 : Int32) (x5 : Int32) (x6 : Int32) (M : kx_M), k84 x4 x5 x6 M = some res → G 84 [some (.retAddr 3), some (.ref 0), none, some (.ref 136), some (.int x4), some (.int x5), some (.int x6), none, none, none, none, none, none, none, none, none, none, none, none] [] M) :
    ∀ (n : Nat) (x4 : Int32) (x5 : Int32) (x6 : Int32) (x7 : Int32) (x8 : Int32) (x9 : Int32) (x10 : Int32) (M : kx_M),
    f_LW_law_l588 p0 k84 n x4 x5 x6 x7 x8 x9 x10 M = some res → G 588 [some (.retAddr 3), some (.ref 0), none, some (.ref 136), some (.int x4), some (.int x5), some (.int x6), some (.int x7), some (.int x8), some (.int x9), some (.int x10), none, none, none, none, none, none, none, none] [] M := by
  intro n
  induction n with
  | zero =>
    intro x4 x5 x6 x7 x8 x9 x10 M h
    exact absurd h (by rw [f_LW_law_l588]; exact fun z => nomatch z)
  | succ n ih =>
    intro x4 x5 x6 x7 x8 x9 x10 M h
    rw [f_LW_law_l588] at h
    refine x_iload F.1 (i := 315) rfl rfl ?_
    refine x_iload F.1 (i := 316) rfl rfl ?_
    refine x_icmp_ge F.1 (i := 317) (tgt := 800) rfl (by decide) (fun c => ?_) (fun c => ?_)
    · replace h := if_T c h
      refine x_aload_n F.1 (i := 422) rfl rfl ?_
      refine cal_e h (fun r1 M1 e2 h => ?_)
      refine x_cV0i F.1 (i := 423) rfl ml_LW_184 ok_KT_bargain rfl (Nat.le_of_ble_eq_true rfl) (Nat.le_of_ble_eq_true rfl) (fun _ => t_KT_bargain e2) ?_
      refine x_istore F.1 (i := 424) rfl (Nat.le_of_ble_eq_true rfl) (Nat.le_of_ble_eq_true rfl) rfl ?_
      refine x_iconst F.1 (i := 425) rfl ic_0 ?_
      refine x_istore F.1 (i := 426) rfl (Nat.le_of_ble_eq_true rfl) (Nat.le_of_ble_eq_true rfl) rfl ?_
      refine x_iconst F.1 (i := 427) rfl ic_0 ?_
      refine x_istore F.1 (i := 428) rfl (Nat.le_of_ble_eq_true rfl) (Nat.le_of_ble_eq_true rfl) rfl ?_
      exact x_wk F.1 ((t_LW_law_l812 F hp0 hQ hk84 FU) _ _ _ _ _ _ _ _ _ _ h) ⟨rfl, rfl, rfl, rfl, rfl, rfl, rfl, rfl, rfl, rfl, rfl, rfl, trivial⟩
    · replace h := if_F c h
      refine x_aload_n F.1 (i := 318) rfl rfl ?_
      refine x_iload F.1 (i := 319) rfl rfl ?_
      refine cal_e h (fun r3 M2 e4 h => ?_)
      refine x_cV1i F.1 (i := 320) rfl ml_LW_174 ok_KT_shortest rfl (Nat.le_of_ble_eq_true rfl) (Nat.le_of_ble_eq_true rfl) (fun _ => t_KT_shortest e4) ?_
      refine x_istore F.1 (i := 321) rfl (Nat.le_of_ble_eq_true rfl) (Nat.le_of_ble_eq_true rfl) rfl ?_
      refine x_iconst F.1 (i := 322) rfl ic_0 ?_
      refine x_istore F.1 (i := 323) rfl (Nat.le_of_ble_eq_true rfl) (Nat.le_of_ble_eq_true rfl) rfl ?_
      refine x_iconst F.1 (i := 324) rfl ic_0 ?_
      refine x_istore F.1 (i := 325) rfl (Nat.le_of_ble_eq_true rfl) (Nat.le_of_ble_eq_true rfl) rfl ?_
      exact x_wk F.1 ((t_LW_law_l609 F hp0 hQ ih FU) _ _ _ _ _ _ _ _ _ _ _ h) ⟨rfl, rfl, rfl, rfl, rfl, rfl, rfl, rfl, rfl, rfl, rfl, rfl, rfl, trivial⟩
set_option maxRecDepth 20000 in
set_option maxHeartbeats 4000000 in
theorem t_LW_law_l529 {w : kx_W} {d : Nat} {Q : Option Value → kx_M → Prop} {G : Nat → List (Option Value) → List Value → kx_M → Prop} (F : Sd w (d + 9) m_LW_law Q G) {p0 : Nat × (Nat → Int32)} (hp0 : p0 = kx_sc w) {k408 : Int32 → Int32 → Int32 → Int32 → Int32 → Int32 → Int32 → Int32 → Int32 → Int32 → Int32 → kx_M → Option (Int32 × kx_M)} {res : Int32 × kx_M} (hQ : Q (some (.int res.1)) res.2) (hk408 : ∀ (x4 : Int32) (x5 : Int32) (x6 : Int32) (x7 : Int32) (x8 : Int32) (x9 : Int32) (x10 : Int32) (x11 : Int32) (x15 : Int32) (x16 : Int32) (x17 : Int32) (M : kx_M), k408 x4 x5 x6 x7 x8 x9 x10 x11 x15 x16 x17 M = some res → G 408 [some (.retAddr 3), some (.ref 0), none, some (.ref 136), some (.int x4), some (.int x5), some (.int x6), some (.int x7), some (.int x8), some (.int x9), some (.int x10), some (.int x11), none, none, none, some (.int x15), some (.int x16), some (.int x17), none] [] M) :
    ∀ (x4 : Int32) (x5 : Int32) (x6 : Int32) (x7 : Int32) (x8 : Int32) (x9 : Int32) (x10 : Int32) (x11 : Int32) (x15 : Int32) (x16 : Int32) (x17 : Int32) (s0 : Int32) (s1 : Int32) (M : kx_M),
    f_LW_law_l529 p0 k408 x4 x5 x6 x7 x8 x9 x10 x11 x15 x16 x17 s0 s1 M = some res → G 529 [some (.retAddr 3), some (.ref 0), none, some (.ref 136), some (.int x4), some (.int x5), some (.int x6), some (.int x7), some (.int x8), some (.int x9), some (.int x10), some (.int x11), none, none, none, some (.int x15), some (.int x16), some (.int x17), none] [.int s1, .int s0] M := by
  intro x4 x5 x6 x7 x8 x9 x10 x11 x15 x16 x17 s0 s1 M h
  rw [f_LW_law_l529] at h
  refine x_icmp_ne F.1 (i := 289) (tgt := 539) rfl (by decide) (fun c => ?_) (fun c => ?_)
  · replace h := if_F c h
    refine x_iconst F.1 (i := 293) rfl ic_0 ?_
    exact x_zretf F (i := 294) rfl rfl (Or.inl rfl) h hQ
  · replace h := if_T c h
    refine x_aload_n F.1 (i := 290) rfl rfl ?_
    refine cal_e h (fun r1 M1 e2 h => ?_)
    refine x_cV0i F.1 (i := 291) rfl ml_LW_153 ok_KT_back rfl (Nat.le_of_ble_eq_true rfl) (Nat.le_of_ble_eq_true rfl) (fun _ => t_KT_back e2) ?_
    refine x_if_eq F.1 (i := 292) (tgt := 541) rfl (by decide) (fun c => ?_) (fun c => ?_)
    · replace h := if_T c h
      refine x_iinc F.1 (i := 295) rfl rfl rfl (Nat.le_of_ble_eq_true rfl) rfl ?_
      replace h := bd_e h
      refine x_goto F.1 (i := 296) (tgt := 408) rfl (by decide) ?_
      exact x_wk F.1 (hk408 _ _ _ _ _ _ _ _ _ _ _ _ h) ⟨rfl, rfl, rfl, rfl, rfl, rfl, rfl, rfl, rfl, rfl, rfl, rfl, rfl, rfl, trivial⟩
    · replace h := if_F c h
      refine x_iconst F.1 (i := 293) rfl ic_0 ?_
      exact x_zretf F (i := 294) rfl rfl (Or.inl rfl) h hQ
set_option maxRecDepth 20000 in
set_option maxHeartbeats 4000000 in
theorem t_LW_law_l447 {w : kx_W} {d : Nat} {Q : Option Value → kx_M → Prop} {G : Nat → List (Option Value) → List Value → kx_M → Prop} (F : Sd w (d + 9) m_LW_law Q G) {p0 : Nat × (Nat → Int32)} (hp0 : p0 = kx_sc w) {k408 : Int32 → Int32 → Int32 → Int32 → Int32 → Int32 → Int32 → Int32 → Int32 → Int32 → Int32 → kx_M → Option (Int32 × kx_M)} {res : Int32 × kx_M} (hQ : Q (some (.int res.1)) res.2) (hk408 : ∀ (x4 : Int32) (x5 : Int32) (x6 : Int32) (x7 : Int32) (x8 : Int32) (x9 : Int32) (x10 : Int32) (x11 : Int32) (x15 : Int32) (x16 : Int32) (x17 : Int32) (M : kx_M), k408 x4 x5 x6 x7 x8 x9 x10 x11 x15 x16 x17 M = some res → G 408 [some (.retAddr 3), some (.ref 0), none, some (.ref 136), some (.int x4), some (.int x5), some (.int x6), some (.int x7), some (.int x8), some (.int x9), some (.int x10), some (.int x11), none, none, none, some (.int x15), some (.int x16), some (.int x17), none] [] M) :
    ∀ (n : Nat) (x4 : Int32) (x5 : Int32) (x6 : Int32) (x7 : Int32) (x8 : Int32) (x9 : Int32) (x10 : Int32) (x11 : Int32) (x15 : Int32) (x16 : Int32) (x17 : Int32) (x18 : Int32) (M : kx_M),
    f_LW_law_l447 p0 k408 n x4 x5 x6 x7 x8 x9 x10 x11 x15 x16 x17 x18 M = some res → G 447 [some (.retAddr 3), some (.ref 0), none, some (.ref 136), some (.int x4), some (.int x5), some (.int x6), some (.int x7), some (.int x8), some (.int x9), some (.int x10), some (.int x11), none, none, none, some (.int x15), some (.int x16), some (.int x17), some (.int x18)] [] M := by
  intro n
  induction n with
  | zero =>
    intro x4 x5 x6 x7 x8 x9 x10 x11 x15 x16 x17 x18 M h
    exact absurd h (by rw [f_LW_law_l447]; exact fun z => nomatch z)
  | succ n ih =>
    intro x4 x5 x6 x7 x8 x9 x10 x11 x15 x16 x17 x18 M h
    rw [f_LW_law_l447] at h
    refine x_iload F.1 (i := 247) rfl rfl ?_
    refine x_aload_n F.1 (i := 248) rfl rfl ?_
    refine x_iconst F.1 (i := 249) rfl ic_0 ?_
    refine gd_e h (fun g1 h => ?_)
    refine x_iald F.1 (i := 250) rfl rfl (inb_e g1) ?_
    refine x_icmp_ge F.1 (i := 251) (tgt := 492) rfl (by decide) (fun c => ?_) (fun c => ?_)
    · replace h := if_T c h
      refine x_aload_n F.1 (i := 271) rfl rfl ?_
      refine x_iload F.1 (i := 272) rfl rfl ?_
      refine x_iload F.1 (i := 273) rfl rfl ?_
      refine cal_e h (fun r2 M1 e3 h => ?_)
      refine x_cV2i F.1 (i := 274) rfl ml_LW_150 ok_KT_pull rfl (Nat.le_of_ble_eq_true rfl) (Nat.le_of_ble_eq_true rfl) (fun _ => t_KT_pull e3) ?_
      refine x_if_lt F.1 (i := 275) (tgt := 539) rfl (by decide) (fun c => ?_) (fun c => ?_)
      · replace h := if_T c h
        refine x_iconst F.1 (i := 293) rfl ic_0 ?_
        exact x_zretf F (i := 294) rfl rfl (Or.inl rfl) h hQ
      · replace h := if_F c h
        refine x_aload_n F.1 (i := 276) rfl rfl ?_
        refine x_iload F.1 (i := 277) rfl rfl ?_
        refine x_iload F.1 (i := 278) rfl rfl ?_
        refine cal_e h (fun r4 M2 e5 h => ?_)
        refine x_cV2i F.1 (i := 279) rfl ml_LW_165 ok_KT_saidIn rfl (Nat.le_of_ble_eq_true rfl) (Nat.le_of_ble_eq_true rfl) (fun _ => t_KT_saidIn e5) ?_
        refine x_if_le F.1 (i := 280) (tgt := 518) rfl (by decide) (fun c => ?_) (fun c => ?_)
        · replace h := if_T c h
          refine x_iconst F.1 (i := 283) rfl ic_0 ?_
          refine x_iload F.1 (i := 284) rfl rfl ?_
          refine x_if_ge F.1 (i := 285) (tgt := 528) rfl (by decide) (fun c => ?_) (fun c => ?_)
          · replace h := if_T c h
            refine x_iconst F.1 (i := 288) rfl ic_0 ?_
            exact x_wk F.1 ((t_LW_law_l529 F hp0 hQ hk408) _ _ _ _ _ _ _ _ _ _ _ _ _ _ h) ⟨rfl, rfl, rfl, rfl, rfl, rfl, rfl, rfl, rfl, rfl, rfl, rfl, rfl, rfl, trivial⟩
          · replace h := if_F c h
            refine x_iconst F.1 (i := 286) rfl ic_1 ?_
            refine x_goto F.1 (i := 287) (tgt := 529) rfl (by decide) ?_
            exact x_wk F.1 ((t_LW_law_l529 F hp0 hQ hk408) _ _ _ _ _ _ _ _ _ _ _ _ _ _ h) ⟨rfl, rfl, rfl, rfl, rfl, rfl, rfl, rfl, rfl, rfl, rfl, rfl, rfl, rfl, trivial⟩
        · replace h := if_F c h
          refine x_iconst F.1 (i := 281) rfl ic_1 ?_
          refine x_goto F.1 (i := 282) (tgt := 519) rfl (by decide) ?_
          refine x_iload F.1 (i := 284) rfl rfl ?_
          refine x_if_ge F.1 (i := 285) (tgt := 528) rfl (by decide) (fun c => ?_) (fun c => ?_)
          · replace h := if_T c h
            refine x_iconst F.1 (i := 288) rfl ic_0 ?_
            exact x_wk F.1 ((t_LW_law_l529 F hp0 hQ hk408) _ _ _ _ _ _ _ _ _ _ _ _ _ _ h) ⟨rfl, rfl, rfl, rfl, rfl, rfl, rfl, rfl, rfl, rfl, rfl, rfl, rfl, rfl, trivial⟩
          · replace h := if_F c h
            refine x_iconst F.1 (i := 286) rfl ic_1 ?_
            refine x_goto F.1 (i := 287) (tgt := 529) rfl (by decide) ?_
            exact x_wk F.1 ((t_LW_law_l529 F hp0 hQ hk408) _ _ _ _ _ _ _ _ _ _ _ _ _ _ h) ⟨rfl, rfl, rfl, rfl, rfl, rfl, rfl, rfl, rfl, rfl, rfl, rfl, rfl, rfl, trivial⟩
    · replace h := if_F c h
      refine x_iload F.1 (i := 252) rfl rfl ?_
      refine x_iload F.1 (i := 253) rfl rfl ?_
      refine x_ishr F.1 (i := 254) rfl ?_
      refine x_iconst F.1 (i := 255) rfl ic_1 ?_
      refine x_iand F.1 (i := 256) rfl ?_
      refine x_iconst F.1 (i := 257) rfl ic_1 ?_
      refine x_icmp_ne F.1 (i := 258) (tgt := 486) rfl (by decide) (fun c => ?_) (fun c => ?_)
      · replace h := if_F c h
        refine x_iinc F.1 (i := 269) rfl rfl rfl (Nat.le_of_ble_eq_true rfl) rfl ?_
        replace h := bd_e h
        refine x_goto F.1 (i := 270) (tgt := 447) rfl (by decide) ?_
        exact x_wk F.1 (ih _ _ _ _ _ _ _ _ _ _ _ _ _ h) ⟨rfl, rfl, rfl, rfl, rfl, rfl, rfl, rfl, rfl, rfl, rfl, rfl, rfl, rfl, rfl, trivial⟩
      · replace h := if_T c h
        refine x_iload F.1 (i := 259) rfl rfl ?_
        refine x_iload F.1 (i := 260) rfl rfl ?_
        refine x_icmp_eq F.1 (i := 261) (tgt := 486) rfl (by decide) (fun c => ?_) (fun c => ?_)
        · replace h := if_T c h
          refine x_iinc F.1 (i := 269) rfl rfl rfl (Nat.le_of_ble_eq_true rfl) rfl ?_
          replace h := bd_e h
          refine x_goto F.1 (i := 270) (tgt := 447) rfl (by decide) ?_
          exact x_wk F.1 (ih _ _ _ _ _ _ _ _ _ _ _ _ _ h) ⟨rfl, rfl, rfl, rfl, rfl, rfl, rfl, rfl, rfl, rfl, rfl, rfl, rfl, rfl, rfl, trivial⟩
        · replace h := if_F c h
          refine x_aload_n F.1 (i := 262) rfl rfl ?_
          refine x_iload F.1 (i := 263) rfl rfl ?_
          refine x_iload F.1 (i := 264) rfl rfl ?_
          refine cal_e h (fun r7 M3 e8 h => ?_)
          refine x_cV2i F.1 (i := 265) rfl ml_LW_162 ok_KT_darn rfl (Nat.le_of_ble_eq_true rfl) (Nat.le_of_ble_eq_true rfl) (fun _ => t_KT_darn e8) ?_
          refine x_if_ge F.1 (i := 266) (tgt := 486) rfl (by decide) (fun c => ?_) (fun c => ?_)
          · replace h := if_T c h
            refine x_iinc F.1 (i := 269) rfl rfl rfl (Nat.le_of_ble_eq_true rfl) rfl ?_
            replace h := bd_e h
            refine x_goto F.1 (i := 270) (tgt := 447) rfl (by decide) ?_
            exact x_wk F.1 (ih _ _ _ _ _ _ _ _ _ _ _ _ _ h) ⟨rfl, rfl, rfl, rfl, rfl, rfl, rfl, rfl, rfl, rfl, rfl, rfl, rfl, rfl, rfl, trivial⟩
          · replace h := if_F c h
            refine x_iconst F.1 (i := 267) rfl ic_0 ?_
            exact x_zretf F (i := 268) rfl rfl (Or.inl rfl) h hQ
set_option maxRecDepth 20000 in
set_option maxHeartbeats 4000000 in
theorem t_LW_law_l434 {w : kx_W} {d : Nat} {Q : Option Value → kx_M → Prop} {G : Nat → List (Option Value) → List Value → kx_M → Prop} (F : Sd w (d + 9) m_LW_law Q G) {p0 : Nat × (Nat → Int32)} (hp0 : p0 = kx_sc w) {k408 : Int32 → Int32 → Int32 → Int32 → Int32 → Int32 → Int32 → Int32 → Int32 → Int32 → Int32 → kx_M → Option (Int32 × kx_M)} {res : Int32 × kx_M} (hQ : Q (some (.int res.1)) res.2) (hk408 : ∀ (x4 : Int32) (x5 : Int32) (x6 : Int32) (x7 : Int32) (x8 : Int32) (x9 : Int32) (x10 : Int32) (x11 : Int32) (x15 : Int32) (x16 : Int32) (x17 : Int32) (M : kx_M), k408 x4 x5 x6 x7 x8 x9 x10 x11 x15 x16 x17 M = some res → G 408 [some (.retAddr 3), some (.ref 0), none, some (.ref 136), some (.int x4), some (.int x5), some (.int x6), some (.int x7), some (.int x8), some (.int x9), some (.int x10), some (.int x11), none, none, none, some (.int x15), some (.int x16), some (.int x17), none] [] M) :
    ∀ (x4 : Int32) (x5 : Int32) (x6 : Int32) (x7 : Int32) (x8 : Int32) (x9 : Int32) (x10 : Int32) (x11 : Int32) (x15 : Int32) (x16 : Int32) (x17 : Int32) (M : kx_M),
    f_LW_law_l434 p0 k408 x4 x5 x6 x7 x8 x9 x10 x11 x15 x16 x17 M = some res → G 434 [some (.retAddr 3), some (.ref 0), none, some (.ref 136), some (.int x4), some (.int x5), some (.int x6), some (.int x7), some (.int x8), some (.int x9), some (.int x10), some (.int x11), none, none, none, some (.int x15), some (.int x16), some (.int x17), none] [] M := by
  intro x4 x5 x6 x7 x8 x9 x10 x11 x15 x16 x17 M h
  rw [f_LW_law_l434] at h
  refine x_aload_n F.1 (i := 239) rfl rfl ?_
  refine cal_e h (fun r1 M1 e2 h => ?_)
  refine x_cV0i F.1 (i := 240) rfl ml_LW_147 ok_KT_mark rfl (Nat.le_of_ble_eq_true rfl) (Nat.le_of_ble_eq_true rfl) (fun _ => t_KT_mark e2) ?_
  refine x_iconst F.1 (i := 241) rfl ic_1 ?_
  refine x_icmp_eq F.1 (i := 242) (tgt := 444) rfl (by decide) (fun c => ?_) (fun c => ?_)
  · replace h := if_T c h
    refine x_iconst F.1 (i := 245) rfl ic_0 ?_
    refine x_istore F.1 (i := 246) rfl (Nat.le_of_ble_eq_true rfl) (Nat.le_of_ble_eq_true rfl) rfl ?_
    exact x_wk F.1 ((t_LW_law_l447 F hp0 hQ hk408 FU) _ _ _ _ _ _ _ _ _ _ _ _ _ h) ⟨rfl, rfl, rfl, rfl, rfl, rfl, rfl, rfl, rfl, rfl, rfl, rfl, rfl, rfl, rfl, trivial⟩
  · replace h := if_F c h
    refine x_iconst F.1 (i := 243) rfl ic_0 ?_
    exact x_zretf F (i := 244) rfl rfl (Or.inl rfl) h hQ
set_option maxRecDepth 20000 in
set_option maxHeartbeats 4000000 in
theorem t_LW_law_l408 {w : kx_W} {d : Nat} {Q : Option Value → kx_M → Prop} {G : Nat → List (Option Value) → List Value → kx_M → Prop} (F : Sd w (d + 9) m_LW_law Q G) {p0 : Nat × (Nat → Int32)} (hp0 : p0 = kx_sc w) {k377 : Int32 → Int32 → Int32 → Int32 → Int32 → Int32 → Int32 → Int32 → Int32 → kx_M → Option (Int32 × kx_M)} {res : Int32 × kx_M} (hQ : Q (some (.int res.1)) res.2) (hk377 : ∀ (x4 : Int32) (x5 : Int32) (x6 : Int32) (x7 : Int32) (x8 : Int32) (x9 : Int32) (x10 : Int32) (x11 : Int32) (x15 : Int32) (M : kx_M), k377 x4 x5 x6 x7 x8 x9 x10 x11 x15 M = some res → G 377 [some (.retAddr 3), some (.ref 0), none, some (.ref 136), some (.int x4), some (.int x5), some (.int x6), some (.int x7), some (.int x8), some (.int x9), some (.int x10), some (.int x11), none, none, none, some (.int x15), none, none, none] [] M) :
    ∀ (n : Nat) (x4 : Int32) (x5 : Int32) (x6 : Int32) (x7 : Int32) (x8 : Int32) (x9 : Int32) (x10 : Int32) (x11 : Int32) (x15 : Int32) (x16 : Int32) (x17 : Int32) (M : kx_M),
    f_LW_law_l408 p0 k377 n x4 x5 x6 x7 x8 x9 x10 x11 x15 x16 x17 M = some res → G 408 [some (.retAddr 3), some (.ref 0), none, some (.ref 136), some (.int x4), some (.int x5), some (.int x6), some (.int x7), some (.int x8), some (.int x9), some (.int x10), some (.int x11), none, none, none, some (.int x15), some (.int x16), some (.int x17), none] [] M := by
  intro n
  induction n with
  | zero =>
    intro x4 x5 x6 x7 x8 x9 x10 x11 x15 x16 x17 M h
    exact absurd h (by rw [f_LW_law_l408]; exact fun z => nomatch z)
  | succ n ih =>
    intro x4 x5 x6 x7 x8 x9 x10 x11 x15 x16 x17 M h
    rw [f_LW_law_l408] at h
    refine x_iload F.1 (i := 225) rfl rfl ?_
    refine x_aload_n F.1 (i := 226) rfl rfl ?_
    refine x_iconst F.1 (i := 227) rfl ic_0 ?_
    refine gd_e h (fun g1 h => ?_)
    refine x_iald F.1 (i := 228) rfl rfl (inb_e g1) ?_
    refine x_icmp_ge F.1 (i := 229) (tgt := 547) rfl (by decide) (fun c => ?_) (fun c => ?_)
    · replace h := if_T c h
      refine x_iload F.1 (i := 297) rfl rfl ?_
      refine cal_e h (fun r2 M1 e3 h => ?_)
      refine x_cS1i F.1 (i := 298) rfl ml_LW_168 ok_LW_size (Nat.le_of_ble_eq_true rfl) (Nat.le_of_ble_eq_true rfl) (fun _ => t_LW_size e3) ?_
      refine x_aload_n F.1 (i := 299) rfl rfl ?_
      refine x_iload F.1 (i := 300) rfl rfl ?_
      refine x_iload F.1 (i := 301) rfl rfl ?_
      refine x_iload F.1 (i := 302) rfl rfl ?_
      refine cal_e h (fun r4 M2 e5 h => ?_)
      refine x_cV3i F.1 (i := 303) rfl ml_LW_171 ok_KT_mend rfl (Nat.le_of_ble_eq_true rfl) (Nat.le_of_ble_eq_true rfl) (fun _ => t_KT_mend e5) ?_
      refine x_icmp_eq F.1 (i := 304) (tgt := 567) rfl (by decide) (fun c => ?_) (fun c => ?_)
      · replace h := if_T c h
        refine x_iinc F.1 (i := 307) rfl rfl rfl (Nat.le_of_ble_eq_true rfl) rfl ?_
        replace h := bd_e h
        refine x_goto F.1 (i := 308) (tgt := 377) rfl (by decide) ?_
        exact x_wk F.1 (hk377 _ _ _ _ _ _ _ _ _ _ h) ⟨rfl, rfl, rfl, rfl, rfl, rfl, rfl, rfl, rfl, rfl, rfl, rfl, trivial⟩
      · replace h := if_F c h
        refine x_iconst F.1 (i := 305) rfl ic_0 ?_
        exact x_zretf F (i := 306) rfl rfl (Or.inl rfl) h hQ
    · replace h := if_F c h
      refine x_iload F.1 (i := 230) rfl rfl ?_
      refine x_if_lt F.1 (i := 231) (tgt := 434) rfl (by decide) (fun c => ?_) (fun c => ?_)
      · replace h := if_T c h
        exact x_wk F.1 ((t_LW_law_l434 F hp0 hQ ih) _ _ _ _ _ _ _ _ _ _ _ _ h) ⟨rfl, rfl, rfl, rfl, rfl, rfl, rfl, rfl, rfl, rfl, rfl, rfl, rfl, rfl, trivial⟩
      · replace h := if_F c h
        refine x_iload F.1 (i := 232) rfl rfl ?_
        refine x_iload F.1 (i := 233) rfl rfl ?_
        refine x_ishr F.1 (i := 234) rfl ?_
        refine x_iconst F.1 (i := 235) rfl ic_1 ?_
        refine x_iand F.1 (i := 236) rfl ?_
        refine x_if_ne F.1 (i := 237) (tgt := 434) rfl (by decide) (fun c => ?_) (fun c => ?_)
        · replace h := if_F c h
          exact x_wk F.1 ((t_LW_law_l434 F hp0 hQ ih) _ _ _ _ _ _ _ _ _ _ _ _ h) ⟨rfl, rfl, rfl, rfl, rfl, rfl, rfl, rfl, rfl, rfl, rfl, rfl, rfl, rfl, trivial⟩
        · replace h := if_T c h
          refine x_goto F.1 (i := 238) (tgt := 541) rfl (by decide) ?_
          refine x_iinc F.1 (i := 295) rfl rfl rfl (Nat.le_of_ble_eq_true rfl) rfl ?_
          replace h := bd_e h
          refine x_goto F.1 (i := 296) (tgt := 408) rfl (by decide) ?_
          exact x_wk F.1 (ih _ _ _ _ _ _ _ _ _ _ _ _ h) ⟨rfl, rfl, rfl, rfl, rfl, rfl, rfl, rfl, rfl, rfl, rfl, rfl, rfl, rfl, trivial⟩
set_option maxRecDepth 20000 in
set_option maxHeartbeats 4000000 in
theorem t_LW_law_l377 {w : kx_W} {d : Nat} {Q : Option Value → kx_M → Prop} {G : Nat → List (Option Value) → List Value → kx_M → Prop} (F : Sd w (d + 9) m_LW_law Q G) {p0 : Nat × (Nat → Int32)} (hp0 : p0 = kx_sc w) {k222 : Int32 → Int32 → Int32 → Int32 → Int32 → Int32 → Int32 → Int32 → kx_M → Option (Int32 × kx_M)} {res : Int32 × kx_M} (hQ : Q (some (.int res.1)) res.2) (hk222 : ∀ (x4 : Int32) (x5 : Int32) (x6 : Int32) (x7 : Int32) (x8 : Int32) (x9 : Int32) (x10 : Int32) (x11 : Int32) (M : kx_M), k222 x4 x5 x6 x7 x8 x9 x10 x11 M = some res → G 222 [some (.retAddr 3), some (.ref 0), none, some (.ref 136), some (.int x4), some (.int x5), some (.int x6), some (.int x7), some (.int x8), some (.int x9), some (.int x10), some (.int x11), none, none, none, none, none, none, none] [] M) :
    ∀ (n : Nat) (x4 : Int32) (x5 : Int32) (x6 : Int32) (x7 : Int32) (x8 : Int32) (x9 : Int32) (x10 : Int32) (x11 : Int32) (x15 : Int32) (M : kx_M),
    f_LW_law_l377 p0 k222 n x4 x5 x6 x7 x8 x9 x10 x11 x15 M = some res → G 377 [some (.retAddr 3), some (.ref 0), none, some (.ref 136), some (.int x4), some (.int x5), some (.int x6), some (.int x7), some (.int x8), some (.int x9), some (.int x10), some (.int x11), none, none, none, some (.int x15), none, none, none] [] M := by
  intro n
  induction n with
  | zero =>
    intro x4 x5 x6 x7 x8 x9 x10 x11 x15 M h
    exact absurd h (by rw [f_LW_law_l377]; exact fun z => nomatch z)
  | succ n ih =>
    intro x4 x5 x6 x7 x8 x9 x10 x11 x15 M h
    rw [f_LW_law_l377] at h
    refine x_iload F.1 (i := 209) rfl rfl ?_
    refine x_aload_n F.1 (i := 210) rfl rfl ?_
    refine x_iconst F.1 (i := 211) rfl ic_3 ?_
    refine gd_e h (fun g1 h => ?_)
    refine x_iald F.1 (i := 212) rfl rfl (inb_e g1) ?_
    refine x_icmp_ge F.1 (i := 213) (tgt := 573) rfl (by decide) (fun c => ?_) (fun c => ?_)
    · replace h := if_T c h
      refine x_iinc F.1 (i := 309) rfl rfl rfl (Nat.le_of_ble_eq_true rfl) rfl ?_
      replace h := bd_e h
      refine x_goto F.1 (i := 310) (tgt := 222) rfl (by decide) ?_
      exact x_wk F.1 (hk222 _ _ _ _ _ _ _ _ _ h) ⟨rfl, rfl, rfl, rfl, rfl, rfl, rfl, rfl, rfl, rfl, rfl, trivial⟩
    · replace h := if_F c h
      refine x_aload_n F.1 (i := 214) rfl rfl ?_
      refine x_iload F.1 (i := 215) rfl rfl ?_
      refine x_iload F.1 (i := 216) rfl rfl ?_
      refine x_iload F.1 (i := 217) rfl rfl ?_
      refine cal_e h (fun r3 M1 e4 h => ?_)
      refine x_cV3i F.1 (i := 218) rfl ml_LW_159 ok_KT_mendSet rfl (Nat.le_of_ble_eq_true rfl) (Nat.le_of_ble_eq_true rfl) (fun _ => t_KT_mendSet e4) ?_
      refine x_istore F.1 (i := 219) rfl (Nat.le_of_ble_eq_true rfl) (Nat.le_of_ble_eq_true rfl) rfl ?_
      refine x_iload F.1 (i := 220) rfl rfl ?_
      refine x_if_ge F.1 (i := 221) (tgt := 405) rfl (by decide) (fun c => ?_) (fun c => ?_)
      · replace h := if_T c h
        refine x_iconst F.1 (i := 223) rfl ic_n1 ?_
        refine x_istore F.1 (i := 224) rfl (Nat.le_of_ble_eq_true rfl) (Nat.le_of_ble_eq_true rfl) rfl ?_
        exact x_wk F.1 ((t_LW_law_l408 F hp0 hQ ih FU) _ _ _ _ _ _ _ _ _ _ _ _ h) ⟨rfl, rfl, rfl, rfl, rfl, rfl, rfl, rfl, rfl, rfl, rfl, rfl, rfl, rfl, trivial⟩
      · replace h := if_F c h
        refine x_goto F.1 (i := 222) (tgt := 567) rfl (by decide) ?_
        refine x_iinc F.1 (i := 307) rfl rfl rfl (Nat.le_of_ble_eq_true rfl) rfl ?_
        replace h := bd_e h
        refine x_goto F.1 (i := 308) (tgt := 377) rfl (by decide) ?_
        exact x_wk F.1 (ih _ _ _ _ _ _ _ _ _ _ h) ⟨rfl, rfl, rfl, rfl, rfl, rfl, rfl, rfl, rfl, rfl, rfl, rfl, trivial⟩
set_option maxRecDepth 20000 in
set_option maxHeartbeats 4000000 in
theorem t_LW_law_l222 {w : kx_W} {d : Nat} {Q : Option Value → kx_M → Prop} {G : Nat → List (Option Value) → List Value → kx_M → Prop} (F : Sd w (d + 9) m_LW_law Q G) {p0 : Nat × (Nat → Int32)} (hp0 : p0 = kx_sc w) {k142 : Int32 → Int32 → Int32 → Int32 → Int32 → Int32 → Int32 → kx_M → Option (Int32 × kx_M)} {res : Int32 × kx_M} (hQ : Q (some (.int res.1)) res.2) (hk142 : ∀ (x4 : Int32) (x5 : Int32) (x6 : Int32) (x7 : Int32) (x8 : Int32) (x9 : Int32) (x10 : Int32) (M : kx_M), k142 x4 x5 x6 x7 x8 x9 x10 M = some res → G 142 [some (.retAddr 3), some (.ref 0), none, some (.ref 136), some (.int x4), some (.int x5), some (.int x6), some (.int x7), some (.int x8), some (.int x9), some (.int x10), none, none, none, none, none, none, none, none] [] M) :
    ∀ (n : Nat) (x4 : Int32) (x5 : Int32) (x6 : Int32) (x7 : Int32) (x8 : Int32) (x9 : Int32) (x10 : Int32) (x11 : Int32) (M : kx_M),
    f_LW_law_l222 p0 k142 n x4 x5 x6 x7 x8 x9 x10 x11 M = some res → G 222 [some (.retAddr 3), some (.ref 0), none, some (.ref 136), some (.int x4), some (.int x5), some (.int x6), some (.int x7), some (.int x8), some (.int x9), some (.int x10), some (.int x11), none, none, none, none, none, none, none] [] M := by
  intro n
  induction n with
  | zero =>
    intro x4 x5 x6 x7 x8 x9 x10 x11 M h
    exact absurd h (by rw [f_LW_law_l222]; exact fun z => nomatch z)
  | succ n ih =>
    intro x4 x5 x6 x7 x8 x9 x10 x11 M h
    rw [f_LW_law_l222] at h
    refine x_iload F.1 (i := 130) rfl rfl ?_
    refine x_iconst F.1 (i := 131) rfl ic_2 ?_
    refine x_icmp_ge F.1 (i := 132) (tgt := 579) rfl (by decide) (fun c => ?_) (fun c => ?_)
    · replace h := if_T c h
      refine x_iinc F.1 (i := 311) rfl rfl rfl (Nat.le_of_ble_eq_true rfl) rfl ?_
      replace h := bd_e h
      refine x_goto F.1 (i := 312) (tgt := 142) rfl (by decide) ?_
      exact x_wk F.1 (hk142 _ _ _ _ _ _ _ _ h) ⟨rfl, rfl, rfl, rfl, rfl, rfl, rfl, rfl, rfl, rfl, trivial⟩
    · replace h := if_F c h
      refine x_aload_n F.1 (i := 133) rfl rfl ?_
      refine x_iload F.1 (i := 134) rfl rfl ?_
      refine x_iload F.1 (i := 135) rfl rfl ?_
      refine cal_e h (fun r2 M1 e3 h => ?_)
      refine x_cV2i F.1 (i := 136) rfl ml_LW_140 ok_KT_pulled rfl (Nat.le_of_ble_eq_true rfl) (Nat.le_of_ble_eq_true rfl) (fun _ => t_KT_pulled e3) ?_
      refine x_istore F.1 (i := 137) rfl (Nat.le_of_ble_eq_true rfl) (Nat.le_of_ble_eq_true rfl) rfl ?_
      refine x_aload_n F.1 (i := 138) rfl rfl ?_
      refine x_iload F.1 (i := 139) rfl rfl ?_
      refine x_iload F.1 (i := 140) rfl rfl ?_
      refine cal_e h (fun r4 M2 e5 h => ?_)
      refine x_cV2i F.1 (i := 141) rfl ml_LW_144 ok_KT_pulledOut rfl (Nat.le_of_ble_eq_true rfl) (Nat.le_of_ble_eq_true rfl) (fun _ => t_KT_pulledOut e5) ?_
      refine x_istore F.1 (i := 142) rfl (Nat.le_of_ble_eq_true rfl) (Nat.le_of_ble_eq_true rfl) rfl ?_
      refine x_aload_n F.1 (i := 143) rfl rfl ?_
      refine x_bipush F.1 (i := 144) rfl bp_9 ?_
      refine cal_e h (fun r6 M3 e7 h => ?_)
      refine x_cV1i F.1 (i := 145) rfl ml_LW_133 ok_KT_many rfl (Nat.le_of_ble_eq_true rfl) (Nat.le_of_ble_eq_true rfl) (fun _ => t_KT_many e7) ?_
      refine x_istore F.1 (i := 146) rfl (Nat.le_of_ble_eq_true rfl) (Nat.le_of_ble_eq_true rfl) rfl ?_
      refine x_aload_n F.1 (i := 147) rfl rfl ?_
      refine cal_e h (fun r8 M4 e9 h => ?_)
      refine x_cV0i F.1 (i := 148) rfl ml_LW_147 ok_KT_mark rfl (Nat.le_of_ble_eq_true rfl) (Nat.le_of_ble_eq_true rfl) (fun _ => t_KT_mark e9) ?_
      refine x_iconst F.1 (i := 149) rfl ic_1 ?_
      refine x_icmp_ne F.1 (i := 150) (tgt := 347) rfl (by decide) (fun c => ?_) (fun c => ?_)
      · replace h := if_F c h
        refine x_iconst F.1 (i := 191) rfl ic_0 ?_
        exact x_zretf F (i := 192) rfl rfl (Or.inl rfl) h hQ
      · replace h := if_T c h
        refine x_aload_n F.1 (i := 151) rfl rfl ?_
        refine x_iload F.1 (i := 152) rfl rfl ?_
        refine x_iload F.1 (i := 153) rfl rfl ?_
        refine cal_e h (fun r10 M5 e11 h => ?_)
        refine x_cV2i F.1 (i := 154) rfl ml_LW_150 ok_KT_pull rfl (Nat.le_of_ble_eq_true rfl) (Nat.le_of_ble_eq_true rfl) (fun _ => t_KT_pull e11) ?_
        refine x_iload F.1 (i := 155) rfl rfl ?_
        refine x_icmp_ne F.1 (i := 156) (tgt := 347) rfl (by decide) (fun c => ?_) (fun c => ?_)
        · replace h := if_F c h
          refine x_iconst F.1 (i := 191) rfl ic_0 ?_
          exact x_zretf F (i := 192) rfl rfl (Or.inl rfl) h hQ
        · replace h := if_T c h
          refine x_aload_n F.1 (i := 157) rfl rfl ?_
          refine x_bipush F.1 (i := 158) rfl bp_6 ?_
          refine cal_e h (fun r12 M6 e13 h => ?_)
          refine x_cV1i F.1 (i := 159) rfl ml_LW_133 ok_KT_many rfl (Nat.le_of_ble_eq_true rfl) (Nat.le_of_ble_eq_true rfl) (fun _ => t_KT_many e13) ?_
          refine x_iload F.1 (i := 160) rfl rfl ?_
          refine x_iload F.1 (i := 161) rfl rfl ?_
          refine x_iadd F.1 (i := 162) rfl ?_
          refine x_icmp_ne F.1 (i := 163) (tgt := 347) rfl (by decide) (fun c => ?_) (fun c => ?_)
          · replace h := if_F c h
            refine x_iconst F.1 (i := 191) rfl ic_0 ?_
            exact x_zretf F (i := 192) rfl rfl (Or.inl rfl) h hQ
          · replace h := if_T c h
            refine x_iload F.1 (i := 164) rfl rfl ?_
            refine x_aload_n F.1 (i := 165) rfl rfl ?_
            refine x_bipush F.1 (i := 166) rfl bp_9 ?_
            refine cal_e h (fun r14 M7 e15 h => ?_)
            refine x_cV1i F.1 (i := 167) rfl ml_LW_133 ok_KT_many rfl (Nat.le_of_ble_eq_true rfl) (Nat.le_of_ble_eq_true rfl) (fun _ => t_KT_many e15) ?_
            refine x_iconst F.1 (i := 168) rfl ic_n1 ?_
            refine x_ixor F.1 (i := 169) rfl ?_
            refine x_iand F.1 (i := 170) rfl ?_
            refine x_iload F.1 (i := 171) rfl rfl ?_
            refine x_icmp_ne F.1 (i := 172) (tgt := 347) rfl (by decide) (fun c => ?_) (fun c => ?_)
            · replace h := if_F c h
              refine x_iconst F.1 (i := 191) rfl ic_0 ?_
              exact x_zretf F (i := 192) rfl rfl (Or.inl rfl) h hQ
            · replace h := if_T c h
              refine x_aload_n F.1 (i := 173) rfl rfl ?_
              refine x_iload F.1 (i := 174) rfl rfl ?_
              refine x_iload F.1 (i := 175) rfl rfl ?_
              refine cal_e h (fun r16 M8 e17 h => ?_)
              refine x_cV2i F.1 (i := 176) rfl ml_LW_140 ok_KT_pulled rfl (Nat.le_of_ble_eq_true rfl) (Nat.le_of_ble_eq_true rfl) (fun _ => t_KT_pulled e17) ?_
              refine x_if_ne F.1 (i := 177) (tgt := 347) rfl (by decide) (fun c => ?_) (fun c => ?_)
              · replace h := if_F c h
                refine x_iconst F.1 (i := 191) rfl ic_0 ?_
                exact x_zretf F (i := 192) rfl rfl (Or.inl rfl) h hQ
              · replace h := if_T c h
                refine x_aload_n F.1 (i := 178) rfl rfl ?_
                refine cal_e h (fun r18 M9 e19 h => ?_)
                refine x_cV0i F.1 (i := 179) rfl ml_LW_153 ok_KT_back rfl (Nat.le_of_ble_eq_true rfl) (Nat.le_of_ble_eq_true rfl) (fun _ => t_KT_back e19) ?_
                refine x_if_ne F.1 (i := 180) (tgt := 347) rfl (by decide) (fun c => ?_) (fun c => ?_)
                · replace h := if_F c h
                  refine x_iconst F.1 (i := 191) rfl ic_0 ?_
                  exact x_zretf F (i := 192) rfl rfl (Or.inl rfl) h hQ
                · replace h := if_T c h
                  refine x_aload_n F.1 (i := 181) rfl rfl ?_
                  refine x_bipush F.1 (i := 182) rfl bp_6 ?_
                  refine cal_e h (fun r20 M10 e21 h => ?_)
                  refine x_cV1i F.1 (i := 183) rfl ml_LW_133 ok_KT_many rfl (Nat.le_of_ble_eq_true rfl) (Nat.le_of_ble_eq_true rfl) (fun _ => t_KT_many e21) ?_
                  refine x_iload F.1 (i := 184) rfl rfl ?_
                  refine x_icmp_ne F.1 (i := 185) (tgt := 347) rfl (by decide) (fun c => ?_) (fun c => ?_)
                  · replace h := if_F c h
                    refine x_iconst F.1 (i := 191) rfl ic_0 ?_
                    exact x_zretf F (i := 192) rfl rfl (Or.inl rfl) h hQ
                  · replace h := if_T c h
                    refine x_aload_n F.1 (i := 186) rfl rfl ?_
                    refine x_bipush F.1 (i := 187) rfl bp_9 ?_
                    refine cal_e h (fun r22 M11 e23 h => ?_)
                    refine x_cV1i F.1 (i := 188) rfl ml_LW_133 ok_KT_many rfl (Nat.le_of_ble_eq_true rfl) (Nat.le_of_ble_eq_true rfl) (fun _ => t_KT_many e23) ?_
                    refine x_iload F.1 (i := 189) rfl rfl ?_
                    refine x_icmp_eq F.1 (i := 190) (tgt := 349) rfl (by decide) (fun c => ?_) (fun c => ?_)
                    · replace h := if_T c h
                      refine x_iload F.1 (i := 193) rfl rfl ?_
                      refine x_aload_n F.1 (i := 194) rfl rfl ?_
                      refine x_aload_n F.1 (i := 195) rfl rfl ?_
                      refine cal_e h (fun r24 M12 e25 h => ?_)
                      refine x_cV0i F.1 (i := 196) rfl ml_LW_156 ok_KT_worstPull rfl (Nat.le_of_ble_eq_true rfl) (Nat.le_of_ble_eq_true rfl) (fun _ => t_KT_worstPull e25) ?_
                      refine x_bipush F.1 (i := 197) rfl bp_10 ?_
                      refine x_idiv F.1 (i := 198) (v := 0) rfl (by decide) ?_
                      refine x_aload_n F.1 (i := 199) rfl rfl ?_
                      refine cal_e h (fun r26 M13 e27 h => ?_)
                      refine x_cV0i F.1 (i := 200) rfl ml_LW_156 ok_KT_worstPull rfl (Nat.le_of_ble_eq_true rfl) (Nat.le_of_ble_eq_true rfl) (fun _ => t_KT_worstPull e27) ?_
                      refine x_bipush F.1 (i := 201) rfl bp_10 ?_
                      refine x_irem F.1 (i := 202) (v := 0) rfl (by decide) ?_
                      refine cal_e h (fun r28 M14 e29 h => ?_)
                      refine x_cV2i F.1 (i := 203) rfl ml_LW_140 ok_KT_pulled rfl (Nat.le_of_ble_eq_true rfl) (Nat.le_of_ble_eq_true rfl) (fun _ => t_KT_pulled e29) ?_
                      refine x_icmp_le F.1 (i := 204) (tgt := 374) rfl (by decide) (fun c => ?_) (fun c => ?_)
                      · replace h := if_T c h
                        refine x_iconst F.1 (i := 207) rfl ic_0 ?_
                        refine x_istore F.1 (i := 208) rfl (Nat.le_of_ble_eq_true rfl) (Nat.le_of_ble_eq_true rfl) rfl ?_
                        exact x_wk F.1 ((t_LW_law_l377 F hp0 hQ ih FU) _ _ _ _ _ _ _ _ _ _ h) ⟨rfl, rfl, rfl, rfl, rfl, rfl, rfl, rfl, rfl, rfl, rfl, rfl, trivial⟩
                      · replace h := if_F c h
                        refine x_iconst F.1 (i := 205) rfl ic_0 ?_
                        exact x_zretf F (i := 206) rfl rfl (Or.inl rfl) h hQ
                    · replace h := if_F c h
                      refine x_iconst F.1 (i := 191) rfl ic_0 ?_
                      exact x_zretf F (i := 192) rfl rfl (Or.inl rfl) h hQ
set_option maxRecDepth 20000 in
set_option maxHeartbeats 4000000 in
theorem t_LW_law_l186 {w : kx_W} {d : Nat} {Q : Option Value → kx_M → Prop} {G : Nat → List (Option Value) → List Value → kx_M → Prop} (F : Sd w (d + 9) m_LW_law Q G) {p0 : Nat × (Nat → Int32)} (hp0 : p0 = kx_sc w) {k152 : Int32 → Int32 → Int32 → Int32 → Int32 → Int32 → Int32 → Int32 → kx_M → Option (Int32 × kx_M)} {res : Int32 × kx_M} (hQ : Q (some (.int res.1)) res.2) (hk152 : ∀ (x4 : Int32) (x5 : Int32) (x6 : Int32) (x7 : Int32) (x8 : Int32) (x9 : Int32) (x10 : Int32) (x11 : Int32) (M : kx_M), k152 x4 x5 x6 x7 x8 x9 x10 x11 M = some res → G 152 [some (.retAddr 3), some (.ref 0), none, some (.ref 136), some (.int x4), some (.int x5), some (.int x6), some (.int x7), some (.int x8), some (.int x9), some (.int x10), some (.int x11), none, none, none, none, none, none, none] [] M) :
    ∀ (x4 : Int32) (x5 : Int32) (x6 : Int32) (x7 : Int32) (x8 : Int32) (x9 : Int32) (x10 : Int32) (x11 : Int32) (M : kx_M),
    f_LW_law_l186 p0 k152 x4 x5 x6 x7 x8 x9 x10 x11 M = some res → G 186 [some (.retAddr 3), some (.ref 0), none, some (.ref 136), some (.int x4), some (.int x5), some (.int x6), some (.int x7), some (.int x8), some (.int x9), some (.int x10), some (.int x11), none, none, none, none, none, none, none] [] M := by
  intro x4 x5 x6 x7 x8 x9 x10 x11 M h
  rw [f_LW_law_l186] at h
  refine x_aload_n F.1 (i := 111) rfl rfl ?_
  refine x_iload F.1 (i := 112) rfl rfl ?_
  refine x_iload F.1 (i := 113) rfl rfl ?_
  refine x_iconst F.1 (i := 114) rfl ic_3 ?_
  refine cal_e h (fun r1 M1 e2 h => ?_)
  refine x_cV3i F.1 (i := 115) rfl ml_LW_136 ok_KT_stitch rfl (Nat.le_of_ble_eq_true rfl) (Nat.le_of_ble_eq_true rfl) (fun _ => t_KT_stitch e2) ?_
  refine x_iconst F.1 (i := 116) rfl ic_1 ?_
  refine x_icmp_ne F.1 (i := 117) (tgt := 213) rfl (by decide) (fun c => ?_) (fun c => ?_)
  · replace h := if_F c h
    refine x_iinc F.1 (i := 126) rfl rfl rfl (Nat.le_of_ble_eq_true rfl) rfl ?_
    replace h := bd_e h
    refine x_goto F.1 (i := 127) (tgt := 152) rfl (by decide) ?_
    exact x_wk F.1 (hk152 _ _ _ _ _ _ _ _ _ h) ⟨rfl, rfl, rfl, rfl, rfl, rfl, rfl, rfl, rfl, rfl, rfl, trivial⟩
  · replace h := if_T c h
    refine x_aload_n F.1 (i := 118) rfl rfl ?_
    refine x_iload F.1 (i := 119) rfl rfl ?_
    refine x_iload F.1 (i := 120) rfl rfl ?_
    refine x_iconst F.1 (i := 121) rfl ic_1 ?_
    refine cal_e h (fun r3 M2 e4 h => ?_)
    refine x_cV3i F.1 (i := 122) rfl ml_LW_136 ok_KT_stitch rfl (Nat.le_of_ble_eq_true rfl) (Nat.le_of_ble_eq_true rfl) (fun _ => t_KT_stitch e4) ?_
    refine x_if_eq F.1 (i := 123) (tgt := 213) rfl (by decide) (fun c => ?_) (fun c => ?_)
    · replace h := if_T c h
      refine x_iinc F.1 (i := 126) rfl rfl rfl (Nat.le_of_ble_eq_true rfl) rfl ?_
      replace h := bd_e h
      refine x_goto F.1 (i := 127) (tgt := 152) rfl (by decide) ?_
      exact x_wk F.1 (hk152 _ _ _ _ _ _ _ _ _ h) ⟨rfl, rfl, rfl, rfl, rfl, rfl, rfl, rfl, rfl, rfl, rfl, trivial⟩
    · replace h := if_F c h
      refine x_iconst F.1 (i := 124) rfl ic_0 ?_
      exact x_zretf F (i := 125) rfl rfl (Or.inl rfl) h hQ
set_option maxRecDepth 20000 in
set_option maxHeartbeats 4000000 in
theorem t_LW_law_l152 {w : kx_W} {d : Nat} {Q : Option Value → kx_M → Prop} {G : Nat → List (Option Value) → List Value → kx_M → Prop} (F : Sd w (d + 9) m_LW_law Q G) {p0 : Nat × (Nat → Int32)} (hp0 : p0 = kx_sc w) {k142 : Int32 → Int32 → Int32 → Int32 → Int32 → Int32 → Int32 → kx_M → Option (Int32 × kx_M)} {res : Int32 × kx_M} (hQ : Q (some (.int res.1)) res.2) (hk142 : ∀ (x4 : Int32) (x5 : Int32) (x6 : Int32) (x7 : Int32) (x8 : Int32) (x9 : Int32) (x10 : Int32) (M : kx_M), k142 x4 x5 x6 x7 x8 x9 x10 M = some res → G 142 [some (.retAddr 3), some (.ref 0), none, some (.ref 136), some (.int x4), some (.int x5), some (.int x6), some (.int x7), some (.int x8), some (.int x9), some (.int x10), none, none, none, none, none, none, none, none] [] M) :
    ∀ (n : Nat) (x4 : Int32) (x5 : Int32) (x6 : Int32) (x7 : Int32) (x8 : Int32) (x9 : Int32) (x10 : Int32) (x11 : Int32) (M : kx_M),
    f_LW_law_l152 p0 k142 n x4 x5 x6 x7 x8 x9 x10 x11 M = some res → G 152 [some (.retAddr 3), some (.ref 0), none, some (.ref 136), some (.int x4), some (.int x5), some (.int x6), some (.int x7), some (.int x8), some (.int x9), some (.int x10), some (.int x11), none, none, none, none, none, none, none] [] M := by
  intro n
  induction n with
  | zero =>
    intro x4 x5 x6 x7 x8 x9 x10 x11 M h
    exact absurd h (by rw [f_LW_law_l152]; exact fun z => nomatch z)
  | succ n ih =>
    intro x4 x5 x6 x7 x8 x9 x10 x11 M h
    rw [f_LW_law_l152] at h
    refine x_iload F.1 (i := 92) rfl rfl ?_
    refine x_aload_n F.1 (i := 93) rfl rfl ?_
    refine x_iconst F.1 (i := 94) rfl ic_0 ?_
    refine gd_e h (fun g1 h => ?_)
    refine x_iald F.1 (i := 95) rfl rfl (inb_e g1) ?_
    refine x_icmp_ge F.1 (i := 96) (tgt := 219) rfl (by decide) (fun c => ?_) (fun c => ?_)
    · replace h := if_T c h
      refine x_iconst F.1 (i := 128) rfl ic_0 ?_
      refine x_istore F.1 (i := 129) rfl (Nat.le_of_ble_eq_true rfl) (Nat.le_of_ble_eq_true rfl) rfl ?_
      exact x_wk F.1 ((t_LW_law_l222 F hp0 hQ hk142 FU) _ _ _ _ _ _ _ _ _ h) ⟨rfl, rfl, rfl, rfl, rfl, rfl, rfl, rfl, rfl, rfl, rfl, trivial⟩
    · replace h := if_F c h
      refine x_aload_n F.1 (i := 97) rfl rfl ?_
      refine x_iload F.1 (i := 98) rfl rfl ?_
      refine x_iload F.1 (i := 99) rfl rfl ?_
      refine x_iconst F.1 (i := 100) rfl ic_2 ?_
      refine cal_e h (fun r2 M1 e3 h => ?_)
      refine x_cV3i F.1 (i := 101) rfl ml_LW_136 ok_KT_stitch rfl (Nat.le_of_ble_eq_true rfl) (Nat.le_of_ble_eq_true rfl) (fun _ => t_KT_stitch e3) ?_
      refine x_iconst F.1 (i := 102) rfl ic_1 ?_
      refine x_icmp_ne F.1 (i := 103) (tgt := 186) rfl (by decide) (fun c => ?_) (fun c => ?_)
      · replace h := if_F c h
        exact x_wk F.1 ((t_LW_law_l186 F hp0 hQ ih) _ _ _ _ _ _ _ _ _ h) ⟨rfl, rfl, rfl, rfl, rfl, rfl, rfl, rfl, rfl, rfl, rfl, trivial⟩
      · replace h := if_T c h
        refine x_aload_n F.1 (i := 104) rfl rfl ?_
        refine x_iload F.1 (i := 105) rfl rfl ?_
        refine x_iload F.1 (i := 106) rfl rfl ?_
        refine x_iconst F.1 (i := 107) rfl ic_3 ?_
        refine cal_e h (fun r4 M2 e5 h => ?_)
        refine x_cV3i F.1 (i := 108) rfl ml_LW_136 ok_KT_stitch rfl (Nat.le_of_ble_eq_true rfl) (Nat.le_of_ble_eq_true rfl) (fun _ => t_KT_stitch e5) ?_
        refine x_iconst F.1 (i := 109) rfl ic_1 ?_
        refine x_icmp_eq F.1 (i := 110) (tgt := 211) rfl (by decide) (fun c => ?_) (fun c => ?_)
        · replace h := if_T c h
          refine x_iconst F.1 (i := 124) rfl ic_0 ?_
          exact x_zretf F (i := 125) rfl rfl (Or.inl rfl) h hQ
        · replace h := if_F c h
          exact x_wk F.1 ((t_LW_law_l186 F hp0 hQ ih) _ _ _ _ _ _ _ _ _ h) ⟨rfl, rfl, rfl, rfl, rfl, rfl, rfl, rfl, rfl, rfl, rfl, trivial⟩
set_option maxRecDepth 20000 in
set_option maxHeartbeats 4000000 in
theorem t_LW_law_l142 {w : kx_W} {d : Nat} {Q : Option Value → kx_M → Prop} {G : Nat → List (Option Value) → List Value → kx_M → Prop} (F : Sd w (d + 9) m_LW_law Q G) {p0 : Nat × (Nat → Int32)} (hp0 : p0 = kx_sc w) {k84 : Int32 → Int32 → Int32 → kx_M → Option (Int32 × kx_M)} {res : Int32 × kx_M} (hQ : Q (some (.int res.1)) res.2) (hk84 : ∀ (x4 : Int32) (x5 : Int32) (x6 : Int32) (M : kx_M), k84 x4 x5 x6 M = some res → G 84 [some (.retAddr 3), some (.ref 0), none, some (.ref 136), some (.int x4), some (.int x5), some (.int x6), none, none, none, none, none, none, none, none, none, none, none, none] [] M) :
    ∀ (n : Nat) (x4 : Int32) (x5 : Int32) (x6 : Int32) (x7 : Int32) (x8 : Int32) (x9 : Int32) (x10 : Int32) (M : kx_M),
    f_LW_law_l142 p0 k84 n x4 x5 x6 x7 x8 x9 x10 M = some res → G 142 [some (.retAddr 3), some (.ref 0), none, some (.ref 136), some (.int x4), some (.int x5), some (.int x6), some (.int x7), some (.int x8), some (.int x9), some (.int x10), none, none, none, none, none, none, none, none] [] M := by
  intro n
  induction n with
  | zero =>
    intro x4 x5 x6 x7 x8 x9 x10 M h
    exact absurd h (by rw [f_LW_law_l142]; exact fun z => nomatch z)
  | succ n ih =>
    intro x4 x5 x6 x7 x8 x9 x10 M h
    rw [f_LW_law_l142] at h
    refine x_iload F.1 (i := 87) rfl rfl ?_
    refine x_iload F.1 (i := 88) rfl rfl ?_
    refine x_icmp_ge F.1 (i := 89) (tgt := 585) rfl (by decide) (fun c => ?_) (fun c => ?_)
    · replace h := if_T c h
      refine x_iconst F.1 (i := 313) rfl ic_0 ?_
      refine x_istore F.1 (i := 314) rfl (Nat.le_of_ble_eq_true rfl) (Nat.le_of_ble_eq_true rfl) rfl ?_
      exact x_wk F.1 ((t_LW_law_l588 F hp0 hQ hk84 FU) _ _ _ _ _ _ _ _ h) ⟨rfl, rfl, rfl, rfl, rfl, rfl, rfl, rfl, rfl, rfl, trivial⟩
    · replace h := if_F c h
      refine x_iconst F.1 (i := 90) rfl ic_0 ?_
      refine x_istore F.1 (i := 91) rfl (Nat.le_of_ble_eq_true rfl) (Nat.le_of_ble_eq_true rfl) rfl ?_
      exact x_wk F.1 ((t_LW_law_l152 F hp0 hQ ih FU) _ _ _ _ _ _ _ _ _ h) ⟨rfl, rfl, rfl, rfl, rfl, rfl, rfl, rfl, rfl, rfl, rfl, trivial⟩
set_option maxRecDepth 20000 in
set_option maxHeartbeats 4000000 in
theorem t_LW_law_l122 {w : kx_W} {d : Nat} {Q : Option Value → kx_M → Prop} {G : Nat → List (Option Value) → List Value → kx_M → Prop} (F : Sd w (d + 9) m_LW_law Q G) {p0 : Nat × (Nat → Int32)} (hp0 : p0 = kx_sc w) {k84 : Int32 → Int32 → Int32 → kx_M → Option (Int32 × kx_M)} {res : Int32 × kx_M} (hQ : Q (some (.int res.1)) res.2) (hk84 : ∀ (x4 : Int32) (x5 : Int32) (x6 : Int32) (M : kx_M), k84 x4 x5 x6 M = some res → G 84 [some (.retAddr 3), some (.ref 0), none, some (.ref 136), some (.int x4), some (.int x5), some (.int x6), none, none, none, none, none, none, none, none, none, none, none, none] [] M) :
    ∀ (x4 : Int32) (x5 : Int32) (x6 : Int32) (s0 : Int32) (M : kx_M),
    f_LW_law_l122 p0 k84 x4 x5 x6 s0 M = some res → G 122 [some (.retAddr 3), some (.ref 0), none, some (.ref 136), some (.int x4), some (.int x5), some (.int x6), none, none, none, none, none, none, none, none, none, none, none, none] [.int s0] M := by
  intro x4 x5 x6 s0 M h
  rw [f_LW_law_l122] at h
  refine x_istore F.1 (i := 76) rfl (Nat.le_of_ble_eq_true rfl) (Nat.le_of_ble_eq_true rfl) rfl ?_
  refine x_aload_n F.1 (i := 77) rfl rfl ?_
  refine x_iconst F.1 (i := 78) rfl ic_4 ?_
  refine cal_e h (fun r1 M1 e2 h => ?_)
  refine x_cV1i F.1 (i := 79) rfl ml_LW_133 ok_KT_many rfl (Nat.le_of_ble_eq_true rfl) (Nat.le_of_ble_eq_true rfl) (fun _ => t_KT_many e2) ?_
  refine x_istore F.1 (i := 80) rfl (Nat.le_of_ble_eq_true rfl) (Nat.le_of_ble_eq_true rfl) rfl ?_
  refine x_aload_n F.1 (i := 81) rfl rfl ?_
  refine x_bipush F.1 (i := 82) rfl bp_6 ?_
  refine cal_e h (fun r3 M2 e4 h => ?_)
  refine x_cV1i F.1 (i := 83) rfl ml_LW_133 ok_KT_many rfl (Nat.le_of_ble_eq_true rfl) (Nat.le_of_ble_eq_true rfl) (fun _ => t_KT_many e4) ?_
  refine x_istore F.1 (i := 84) rfl (Nat.le_of_ble_eq_true rfl) (Nat.le_of_ble_eq_true rfl) rfl ?_
  refine x_iconst F.1 (i := 85) rfl ic_0 ?_
  refine x_istore F.1 (i := 86) rfl (Nat.le_of_ble_eq_true rfl) (Nat.le_of_ble_eq_true rfl) rfl ?_
  exact x_wk F.1 ((t_LW_law_l142 F hp0 hQ hk84 FU) _ _ _ _ _ _ _ _ h) ⟨rfl, rfl, rfl, rfl, rfl, rfl, rfl, rfl, rfl, rfl, trivial⟩
set_option maxRecDepth 20000 in
set_option maxHeartbeats 4000000 in
theorem t_LW_law_l84 {w : kx_W} {d : Nat} {Q : Option Value → kx_M → Prop} {G : Nat → List (Option Value) → List Value → kx_M → Prop} (F : Sd w (d + 9) m_LW_law Q G) {p0 : Nat × (Nat → Int32)} (hp0 : p0 = kx_sc w) {res : Int32 × kx_M} (hQ : Q (some (.int res.1)) res.2) :
    ∀ (n : Nat) (x4 : Int32) (x5 : Int32) (x6 : Int32) (M : kx_M),
    f_LW_law_l84 p0 n x4 x5 x6 M = some res → G 84 [some (.retAddr 3), some (.ref 0), none, some (.ref 136), some (.int x4), some (.int x5), some (.int x6), none, none, none, none, none, none, none, none, none, none, none, none] [] M := by
  intro n
  induction n with
  | zero =>
    intro x4 x5 x6 M h
    exact absurd h (by rw [f_LW_law_l84]; exact fun z => nomatch z)
  | succ n ih =>
    intro x4 x5 x6 M h
    rw [f_LW_law_l84] at h
    refine x_iload F.1 (i := 54) rfl rfl ?_
    refine x_bipush F.1 (i := 55) rfl bp_7 ?_
    refine x_icmp_ge F.1 (i := 56) (tgt := 1619) rfl (by decide) (fun c => ?_) (fun c => ?_)
    · replace h := if_T c h
      refine x_iconst F.1 (i := 883) rfl ic_1 ?_
      exact x_zretf F (i := 884) rfl rfl (Or.inr rfl) h hQ
    · replace h := if_F c h
      refine x_iload F.1 (i := 57) rfl rfl ?_
      refine x_aloadz_n F.1 (i := 58) rfl rfl ?_
      refine x_sclen F.1 (i := 59) rfl hp0 ?_
      refine x_icmp_ge F.1 (i := 60) (tgt := 113) rfl (by decide) (fun c => ?_) (fun c => ?_)
      · replace h := if_T c h
        refine x_sipush F.1 (i := 71) rfl sp_389 ?_
        refine x_iload F.1 (i := 72) rfl rfl ?_
        refine x_imul F.1 (i := 73) rfl ?_
        refine x_iload F.1 (i := 74) rfl rfl ?_
        refine x_iadd F.1 (i := 75) rfl ?_
        exact x_wk F.1 ((t_LW_law_l122 F hp0 hQ ih) _ _ _ _ _ h) ⟨rfl, rfl, rfl, rfl, rfl, rfl, trivial⟩
      · replace h := if_F c h
        refine x_aloadz_n F.1 (i := 61) rfl rfl ?_
        refine x_iload F.1 (i := 62) rfl rfl ?_
        refine gd_e h (fun g2 h => ?_)
        refine x_scld F.1 (i := 63) rfl hp0 (inb_e g2) ?_
        refine x_iconst F.1 (i := 64) rfl ic_1 ?_
        refine x_ishr F.1 (i := 65) rfl ?_
        refine x_bipush F.1 (i := 66) rfl bp_67 ?_
        refine x_iload F.1 (i := 67) rfl rfl ?_
        refine x_imul F.1 (i := 68) rfl ?_
        refine x_ixor F.1 (i := 69) rfl ?_
        refine x_goto F.1 (i := 70) (tgt := 122) rfl (by decide) ?_
        exact x_wk F.1 ((t_LW_law_l122 F hp0 hQ ih) _ _ _ _ _ h) ⟨rfl, rfl, rfl, rfl, rfl, rfl, trivial⟩
set_option maxRecDepth 20000 in
set_option maxHeartbeats 4000000 in
theorem t_LW_law_l33 {w : kx_W} {d : Nat} {Q : Option Value → kx_M → Prop} {G : Nat → List (Option Value) → List Value → kx_M → Prop} (F : Sd w (d + 9) m_LW_law Q G) {p0 : Nat × (Nat → Int32)} (hp0 : p0 = kx_sc w) {res : Int32 × kx_M} (hQ : Q (some (.int res.1)) res.2) :
    ∀ (s0 : Int32) (M : kx_M),
    f_LW_law_l33 p0 s0 M = some res → G 33 [some (.retAddr 3), some (.ref 0), some (.ref 135), some (.ref 136), none, none, none, none, none, none, none, none, none, none, none, none, none, none, none] [.int s0] M := by
  intro s0 M h
  rw [f_LW_law_l33] at h
  refine x_istore F.1 (i := 21) rfl (Nat.le_of_ble_eq_true rfl) (Nat.le_of_ble_eq_true rfl) rfl ?_
  refine x_aloadz_n F.1 (i := 22) rfl rfl ?_
  refine x_aload_n F.1 (i := 23) rfl rfl ?_
  refine cal_e h (fun r1 M1 e2 h => ?_)
  refine x_cS2v F.1 (i := 24) rfl ml_LW_121 ok_LW_draw (Nat.le_of_ble_eq_true rfl) (Nat.le_of_ble_eq_true rfl) (fun _ => t_LW_draw hp0 e2) ?_
  refine x_aload_n F.1 (i := 25) rfl rfl ?_
  refine x_aload_n F.1 (i := 26) rfl rfl ?_
  refine x_aload_n F.1 (i := 27) rfl rfl ?_
  refine cal_e h (fun r3 M2 e4 h => ?_)
  refine x_cS3i F.1 (i := 28) rfl ml_LW_125 ok_LW_lay (Nat.le_of_ble_eq_true rfl) (Nat.le_of_ble_eq_true rfl) (fun _ => t_LW_lay e4) ?_
  refine x_if_eq F.1 (i := 29) (tgt := 72) rfl (by decide) (fun c => ?_) (fun c => ?_)
  · replace h := if_T c h
    refine x_iconst F.1 (i := 44) rfl ic_0 ?_
    exact x_zretf F (i := 45) rfl rfl (Or.inl rfl) h hQ
  · replace h := if_F c h
    refine x_aload_n F.1 (i := 30) rfl rfl ?_
    refine x_iconst F.1 (i := 31) rfl ic_0 ?_
    refine x_iconst F.1 (i := 32) rfl ic_0 ?_
    refine x_bipush F.1 (i := 33) rfl bp_12 ?_
    refine cal_e h (fun r5 M3 e6 h => ?_)
    refine x_cV3i F.1 (i := 34) rfl ml_LW_129 ok_KT_tray rfl (Nat.le_of_ble_eq_true rfl) (Nat.le_of_ble_eq_true rfl) (fun _ => t_KT_tray e6) ?_
    refine x_if_eq F.1 (i := 35) (tgt := 72) rfl (by decide) (fun c => ?_) (fun c => ?_)
    · replace h := if_T c h
      refine x_iconst F.1 (i := 44) rfl ic_0 ?_
      exact x_zretf F (i := 45) rfl rfl (Or.inl rfl) h hQ
    · replace h := if_F c h
      refine x_aload_n F.1 (i := 36) rfl rfl ?_
      refine x_iconst F.1 (i := 37) rfl ic_1 ?_
      refine x_iconst F.1 (i := 38) rfl ic_0 ?_
      refine x_aload_n F.1 (i := 39) rfl rfl ?_
      refine x_iconst F.1 (i := 40) rfl ic_0 ?_
      refine gd_e h (fun g7 h => ?_)
      refine x_iald F.1 (i := 41) rfl rfl (inb_e g7) ?_
      refine cal_e h (fun r8 M4 e9 h => ?_)
      refine x_cV3i F.1 (i := 42) rfl ml_LW_129 ok_KT_tray rfl (Nat.le_of_ble_eq_true rfl) (Nat.le_of_ble_eq_true rfl) (fun _ => t_KT_tray e9) ?_
      refine x_if_ne F.1 (i := 43) (tgt := 74) rfl (by decide) (fun c => ?_) (fun c => ?_)
      · replace h := if_F c h
        refine x_iconst F.1 (i := 46) rfl ic_1 ?_
        refine x_aload_n F.1 (i := 47) rfl rfl ?_
        refine x_iconst F.1 (i := 48) rfl ic_3 ?_
        refine gd_e h (fun g10 h => ?_)
        refine x_iald F.1 (i := 49) rfl rfl (inb_e g10) ?_
        refine x_ishl F.1 (i := 50) rfl ?_
        refine x_istore F.1 (i := 51) rfl (Nat.le_of_ble_eq_true rfl) (Nat.le_of_ble_eq_true rfl) rfl ?_
        replace h := bd_e h
        refine x_iconst F.1 (i := 52) rfl ic_0 ?_
        refine x_istore F.1 (i := 53) rfl (Nat.le_of_ble_eq_true rfl) (Nat.le_of_ble_eq_true rfl) rfl ?_
        exact x_wk F.1 ((t_LW_law_l84 F hp0 hQ FU) _ _ _ _ h) ⟨rfl, rfl, rfl, rfl, rfl, rfl, trivial⟩
      · replace h := if_T c h
        refine x_iconst F.1 (i := 44) rfl ic_0 ?_
        exact x_zretf F (i := 45) rfl rfl (Or.inl rfl) h hQ
set_option maxRecDepth 20000 in
set_option maxHeartbeats 4000000 in
theorem t_LW_law_l18 {w : kx_W} {d : Nat} {Q : Option Value → kx_M → Prop} {G : Nat → List (Option Value) → List Value → kx_M → Prop} (F : Sd w (d + 9) m_LW_law Q G) {p0 : Nat × (Nat → Int32)} (hp0 : p0 = kx_sc w) {res : Int32 × kx_M} (hQ : Q (some (.int res.1)) res.2) :
    ∀ (M : kx_M),
    f_LW_law_l18 p0 M = some res → G 18 [some (.retAddr 3), some (.ref 0), some (.ref 135), some (.ref 136), none, none, none, none, none, none, none, none, none, none, none, none, none, none, none] [] M := by
  intro M h
  rw [f_LW_law_l18] at h
  refine x_aloadz_n F.1 (i := 10) rfl rfl ?_
  refine x_sclen F.1 (i := 11) rfl hp0 ?_
  refine x_if_ne F.1 (i := 12) (tgt := 27) rfl (by decide) (fun c => ?_) (fun c => ?_)
  · replace h := if_F c h
    refine x_aloadz_n F.1 (i := 15) rfl rfl ?_
    refine x_aloadz_n F.1 (i := 16) rfl rfl ?_
    refine x_sclen F.1 (i := 17) rfl hp0 ?_
    refine x_iconst F.1 (i := 18) rfl ic_1 ?_
    refine x_isub F.1 (i := 19) rfl ?_
    refine gd_e h (fun g3 h => ?_)
    refine x_scld F.1 (i := 20) rfl hp0 (inb_e g3) ?_
    exact x_wk F.1 ((t_LW_law_l33 F hp0 hQ) _ _ h) ⟨rfl, rfl, rfl, rfl, trivial⟩
  · replace h := if_T c h
    refine x_iconst F.1 (i := 13) rfl ic_5 ?_
    refine x_goto F.1 (i := 14) (tgt := 33) rfl (by decide) ?_
    exact x_wk F.1 ((t_LW_law_l33 F hp0 hQ) _ _ h) ⟨rfl, rfl, rfl, rfl, trivial⟩
