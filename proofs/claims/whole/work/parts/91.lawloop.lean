/-! ## the law: its loop -/
def lwT : List Nat := [296, 309, 323, 337, 380, 453, 487, 550, 613, 636, 659, 682, 705, 748, 771, 794, 817, 850, 883, 926, 959, 982, 1015, 1048, 1081, 1114, 1127, 1160, 1183, 1242, 1295, 1328, 1351, 1374, 1397, 1420, 1433, 1446, 1469, 1492, 1515, 1528, 1561, 1574, 1607, 1650, 1693, 1716, 1749, 1782, 1795, 1808, 1831, 1844, 1877, 1910, 1943, 1986, 2009, 2032, 2065, 2078]
def lwc_h : List (Nat × Instr × Nat) := [(18, .iload_n 3, 1), (19, .aload_n 0, 1), (20, .arraylength, 1), (21, .bipush 6, 2), (23, .isub, 1), (24, .if_icmp .gt 2073, 3), (27, .aload_n 0, 1), (28, .iload_n 3, 1), (29, .iaload, 1), (30, .bipush 63, 2), (32, .iand, 1), (33, .tableswitch 2058 0 61 #[263, 276, 290, 304, 347, 420, 454, 517, 580, 603, 626, 649, 672, 715, 738, 761, 784, 817, 850, 893, 926, 949, 982, 1015, 1048, 1081, 1094, 1127, 1150, 1209, 1262, 1295, 1318, 1341, 1364, 1387, 1400, 1413, 1436, 1459, 1482, 1495, 1528, 1541, 1574, 1617, 1660, 1683, 1716, 1749, 1762, 1775, 1798, 1811, 1844, 1877, 1910, 1953, 1976, 1999, 2032, 2045], 263), (2091, .iinc 3 6, 3), (2094, .goto (-2076), 3), (2097, .iconst 1, 1), (2098, .ireturn, 1)]
set_option maxRecDepth 20000 in
theorem lwk_h : lw_ok code lwc_h := by
  unfold lw_ok
  decide +kernel
def lwO : Array Int := #[263, 276, 290, 304, 347, 420, 454, 517, 580, 603, 626, 649, 672, 715, 738, 761, 784, 817, 850, 893, 926, 949, 982, 1015, 1048, 1081, 1094, 1127, 1150, 1209, 1262, 1295, 1318, 1341, 1364, 1387, 1400, 1413, 1436, 1459, 1482, 1495, 1528, 1541, 1574, 1617, 1660, 1683, 1716, 1749, 1762, 1775, 1798, 1811, 1844, 1877, 1910, 1953, 1976, 1999, 2032, 2045]
theorem lwO_T : ∀ k, k < 62 → ∃ off : Int, lwO[k]? = some off ∧ (33 : Int) + off = ((lwT.getD k 0 : Nat) : Int) := by
  intro k hk
  have h : ∀ k, k < 62 → lwO[k]? = some (((lwT.getD k 0 : Nat) : Int) - 33) := by decide +kernel
  exact ⟨_, h k hk, by omega⟩
theorem lcs_10 {w : kx_W} {n : Nat} {xs : Nat → Int32} {G : Nat → List (Option Value) → List Value → kx_M → Prop} (B : lw_B code w n xs G) (i : Nat) : ∀ k, k < 10 → (fun k => lw_C w n xs G i (lwT.getD k 0)) k := all_S (P := fun k => lw_C w n xs G i (lwT.getD k 0)) (all_S (P := fun k => lw_C w n xs G i (lwT.getD k 0)) (all_S (P := fun k => lw_C w n xs G i (lwT.getD k 0)) (all_S (P := fun k => lw_C w n xs G i (lwT.getD k 0)) (all_S (P := fun k => lw_C w n xs G i (lwT.getD k 0)) (all_S (P := fun k => lw_C w n xs G i (lwT.getD k 0)) (all_S (P := fun k => lw_C w n xs G i (lwT.getD k 0)) (all_S (P := fun k => lw_C w n xs G i (lwT.getD k 0)) (all_S (P := fun k => lw_C w n xs G i (lwT.getD k 0)) (all_S (P := fun k => lw_C w n xs G i (lwT.getD k 0)) ((fun k h => absurd h (Nat.not_lt_zero k))) (lc_0 B i)) (lc_1 B i)) (lc_2 B i)) (lc_3 B i)) (lc_4 B i)) (lc_5 B i)) (lc_6 B i)) (lc_7 B i)) (lc_8 B i)) (lc_9 B i)
theorem lcs_20 {w : kx_W} {n : Nat} {xs : Nat → Int32} {G : Nat → List (Option Value) → List Value → kx_M → Prop} (B : lw_B code w n xs G) (i : Nat) : ∀ k, k < 20 → (fun k => lw_C w n xs G i (lwT.getD k 0)) k := all_S (P := fun k => lw_C w n xs G i (lwT.getD k 0)) (all_S (P := fun k => lw_C w n xs G i (lwT.getD k 0)) (all_S (P := fun k => lw_C w n xs G i (lwT.getD k 0)) (all_S (P := fun k => lw_C w n xs G i (lwT.getD k 0)) (all_S (P := fun k => lw_C w n xs G i (lwT.getD k 0)) (all_S (P := fun k => lw_C w n xs G i (lwT.getD k 0)) (all_S (P := fun k => lw_C w n xs G i (lwT.getD k 0)) (all_S (P := fun k => lw_C w n xs G i (lwT.getD k 0)) (all_S (P := fun k => lw_C w n xs G i (lwT.getD k 0)) (all_S (P := fun k => lw_C w n xs G i (lwT.getD k 0)) (lcs_10 B i) (lc_10 B i)) (lc_11 B i)) (lc_12 B i)) (lc_13 B i)) (lc_14 B i)) (lc_15 B i)) (lc_16 B i)) (lc_17 B i)) (lc_18 B i)) (lc_19 B i)
theorem lcs_30 {w : kx_W} {n : Nat} {xs : Nat → Int32} {G : Nat → List (Option Value) → List Value → kx_M → Prop} (B : lw_B code w n xs G) (i : Nat) : ∀ k, k < 30 → (fun k => lw_C w n xs G i (lwT.getD k 0)) k := all_S (P := fun k => lw_C w n xs G i (lwT.getD k 0)) (all_S (P := fun k => lw_C w n xs G i (lwT.getD k 0)) (all_S (P := fun k => lw_C w n xs G i (lwT.getD k 0)) (all_S (P := fun k => lw_C w n xs G i (lwT.getD k 0)) (all_S (P := fun k => lw_C w n xs G i (lwT.getD k 0)) (all_S (P := fun k => lw_C w n xs G i (lwT.getD k 0)) (all_S (P := fun k => lw_C w n xs G i (lwT.getD k 0)) (all_S (P := fun k => lw_C w n xs G i (lwT.getD k 0)) (all_S (P := fun k => lw_C w n xs G i (lwT.getD k 0)) (all_S (P := fun k => lw_C w n xs G i (lwT.getD k 0)) (lcs_20 B i) (lc_20 B i)) (lc_21 B i)) (lc_22 B i)) (lc_23 B i)) (lc_24 B i)) (lc_25 B i)) (lc_26 B i)) (lc_27 B i)) (lc_28 B i)) (lc_29 B i)
theorem lcs_40 {w : kx_W} {n : Nat} {xs : Nat → Int32} {G : Nat → List (Option Value) → List Value → kx_M → Prop} (B : lw_B code w n xs G) (i : Nat) : ∀ k, k < 40 → (fun k => lw_C w n xs G i (lwT.getD k 0)) k := all_S (P := fun k => lw_C w n xs G i (lwT.getD k 0)) (all_S (P := fun k => lw_C w n xs G i (lwT.getD k 0)) (all_S (P := fun k => lw_C w n xs G i (lwT.getD k 0)) (all_S (P := fun k => lw_C w n xs G i (lwT.getD k 0)) (all_S (P := fun k => lw_C w n xs G i (lwT.getD k 0)) (all_S (P := fun k => lw_C w n xs G i (lwT.getD k 0)) (all_S (P := fun k => lw_C w n xs G i (lwT.getD k 0)) (all_S (P := fun k => lw_C w n xs G i (lwT.getD k 0)) (all_S (P := fun k => lw_C w n xs G i (lwT.getD k 0)) (all_S (P := fun k => lw_C w n xs G i (lwT.getD k 0)) (lcs_30 B i) (lc_30 B i)) (lc_31 B i)) (lc_32 B i)) (lc_33 B i)) (lc_34 B i)) (lc_35 B i)) (lc_36 B i)) (lc_37 B i)) (lc_38 B i)) (lc_39 B i)
theorem lcs_50 {w : kx_W} {n : Nat} {xs : Nat → Int32} {G : Nat → List (Option Value) → List Value → kx_M → Prop} (B : lw_B code w n xs G) (i : Nat) : ∀ k, k < 50 → (fun k => lw_C w n xs G i (lwT.getD k 0)) k := all_S (P := fun k => lw_C w n xs G i (lwT.getD k 0)) (all_S (P := fun k => lw_C w n xs G i (lwT.getD k 0)) (all_S (P := fun k => lw_C w n xs G i (lwT.getD k 0)) (all_S (P := fun k => lw_C w n xs G i (lwT.getD k 0)) (all_S (P := fun k => lw_C w n xs G i (lwT.getD k 0)) (all_S (P := fun k => lw_C w n xs G i (lwT.getD k 0)) (all_S (P := fun k => lw_C w n xs G i (lwT.getD k 0)) (all_S (P := fun k => lw_C w n xs G i (lwT.getD k 0)) (all_S (P := fun k => lw_C w n xs G i (lwT.getD k 0)) (all_S (P := fun k => lw_C w n xs G i (lwT.getD k 0)) (lcs_40 B i) (lc_40 B i)) (lc_41 B i)) (lc_42 B i)) (lc_43 B i)) (lc_44 B i)) (lc_45 B i)) (lc_46 B i)) (lc_47 B i)) (lc_48 B i)) (lc_49 B i)
theorem lcs_60 {w : kx_W} {n : Nat} {xs : Nat → Int32} {G : Nat → List (Option Value) → List Value → kx_M → Prop} (B : lw_B code w n xs G) (i : Nat) : ∀ k, k < 60 → (fun k => lw_C w n xs G i (lwT.getD k 0)) k := all_S (P := fun k => lw_C w n xs G i (lwT.getD k 0)) (all_S (P := fun k => lw_C w n xs G i (lwT.getD k 0)) (all_S (P := fun k => lw_C w n xs G i (lwT.getD k 0)) (all_S (P := fun k => lw_C w n xs G i (lwT.getD k 0)) (all_S (P := fun k => lw_C w n xs G i (lwT.getD k 0)) (all_S (P := fun k => lw_C w n xs G i (lwT.getD k 0)) (all_S (P := fun k => lw_C w n xs G i (lwT.getD k 0)) (all_S (P := fun k => lw_C w n xs G i (lwT.getD k 0)) (all_S (P := fun k => lw_C w n xs G i (lwT.getD k 0)) (all_S (P := fun k => lw_C w n xs G i (lwT.getD k 0)) (lcs_50 B i) (lc_50 B i)) (lc_51 B i)) (lc_52 B i)) (lc_53 B i)) (lc_54 B i)) (lc_55 B i)) (lc_56 B i)) (lc_57 B i)) (lc_58 B i)) (lc_59 B i)
theorem lcs_62 {w : kx_W} {n : Nat} {xs : Nat → Int32} {G : Nat → List (Option Value) → List Value → kx_M → Prop} (B : lw_B code w n xs G) (i : Nat) : ∀ k, k < 62 → (fun k => lw_C w n xs G i (lwT.getD k 0)) k := all_S (P := fun k => lw_C w n xs G i (lwT.getD k 0)) (all_S (P := fun k => lw_C w n xs G i (lwT.getD k 0)) (lcs_60 B i) (lc_60 B i)) (lc_61 B i)
set_option maxHeartbeats 4000000 in
theorem lw_loop {w : kx_W} {n : Nat} {xs : Nat → Int32} {G : Nat → List (Option Value) → List Value → kx_M → Prop} (B : lw_B code w n xs G) : ∀ m i, n < i + m → ∀ (M : kx_M) (σ : Sg), i ≤ n → IC M σ → IM M σ → G 18 (lw_L i) [] M := by
  intro m
  induction m with
  | zero => intro i h M σ hi; omega
  | succ m ih =>
    intro i h M σ hi hC hM
    have hn : n ≤ 3072 := lw_n B
    have F := B.1 lwc_h lwk_h
    refine x_iload_n F (i := 0) rfl rfl ?_
    refine x_aloadz_n F (i := 1) rfl rfl ?_
    refine lw_len B lwk_h (k := 2) rfl ?_
    refine x_bipush F (i := 3) (v := 6) rfl (by decide) ?_
    refine x_isub F (i := 4) rfl ?_
    refine x_icmp_gt F (i := 5) (tgt := 2097) rfl (by decide) (fun c => ?_) (fun c => ?_)
    · refine x_iconst F (i := 14) (v := 1) rfl (by decide) ?_
      exact lw_end B lwk_h (k := 15) rfl
    · have h6 : i + 6 ≤ n := by
        rcases Nat.lt_or_ge n (i + 6) with g | g
        · exfalso
          apply c
          rcases Nat.lt_or_ge n 6 with g6 | g6
          · have e : nI n - 6 < nI 0 := by
              have hv : n = 0 ∨ n = 1 ∨ n = 2 ∨ n = 3 ∨ n = 4 ∨ n = 5 := by omega
              rcases hv with rfl | rfl | rfl | rfl | rfl | rfl <;> decide
            exact Int32.lt_of_lt_of_le e (nI_le (Nat.zero_le i) (by omega))
          · have e : nI n - 6 = nI (n - 6) := nI_subI (b := 6) g6
            rw [e]
            exact nI_lt (by omega) (by omega)
        · exact g
      have next : ∀ (M' : kx_M) (σ' : Sg), IC M' σ' → IM M' σ' → G 2091 (lw_L i) [] M' := by
        intro M' σ' hC' hM'
        refine x_iinc F (i := 12) (v := nI (i + 6)) rfl rfl (nI_add i 6) (by decide) rfl ?_
        refine x_goto F (i := 13) (tgt := 18) rfl (by decide) ?_
        exact ih (i + 6) (by omega) M' σ' (by omega) hC' hM'
      refine x_aloadz_n F (i := 6) rfl rfl ?_
      refine x_iload_n F (i := 7) rfl rfl ?_
      refine lw_sld B lwk_h (k := 8) rfl (by omega) ?_
      refine x_bipush F (i := 9) (v := 63) rfl (by decide) ?_
      refine x_iand F (i := 10) rfl ?_
      obtain ⟨v, hv, e⟩ := and63 (xs i)
      rw [e]
      have et : (nI v).toInt = (v : Int) := nI_toInt (by omega)
      rcases Nat.lt_or_ge v 62 with g | g
      · obtain ⟨off, ho, ht⟩ := lwO_T v g
        refine x_tabIn F (i := 11) (offs := lwO) (tgt := lwT.getD v 0) rfl (by rw [et]; omega) (by rw [et]; omega) (by rw [et]; show lwO[((v : Int) - 0).toNat]? = some off; rw [Int.sub_zero, Int.toNat_natCast]; exact ho) ht ?_
        exact lcs_62 B i v g h6 M σ hC hM next
      · refine x_tabOut F (i := 11) (offs := lwO) (tgt := 2091) rfl (Or.inr (by rw [et]; omega)) (by decide) ?_
        exact next M σ hC hM
