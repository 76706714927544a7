/-! ## the law: its cases -/
def lwc_0 : List (Nat × Instr × Nat) := [(296, .aload_n 1, 1), (297, .invokevirtual 13, 3), (300, .aload_n 2, 1), (301, .invokevirtual 17, 3), (304, .if_icmp .eq 1787, 3), (307, .iconst 0, 1), (308, .ireturn, 1)]
set_option maxRecDepth 20000 in
theorem lwk_0 : lw_ok code lwc_0 := by
  unfold lw_ok
  decide +kernel
set_option maxHeartbeats 4000000 in
theorem lc_0 {w : kx_W} {n : Nat} {xs : Nat → Int32} {G : Nat → List (Option Value) → List Value → kx_M → Prop} (B : lw_B code w n xs G) (i : Nat) : lw_C w n xs G i 296 := by
  intro hi M σ hC hM kk
  have F := B.1 lwc_0 lwk_0
  obtain ⟨M1, h1, hC1, hH1⟩ := pC_status  M σ hC
  obtain ⟨M2, h2, hM2, hL2⟩ := pM_status  M1 σ (IM_hi hH1 hM)
  have hC2 := IC_lo hL2 hC1
  refine x_aload_n F (i := 0) rfl rfl ?_
  refine x_cV0i F (i := 1) rfl ml_LW_13 ok_KT_status rfl (Nat.le_of_ble_eq_true rfl) (Nat.le_of_ble_eq_true rfl) (fun _ => t_KT_status h1) ?_
  refine x_aload_n F (i := 2) rfl rfl ?_
  refine x_cV0i F (i := 3) rfl ml_LW_17 ok_RM_status rfl (Nat.le_of_ble_eq_true rfl) (Nat.le_of_ble_eq_true rfl) (fun _ => t_RM_status h2) ?_
  exact x_icmp_eq F (i := 4) (tgt := 2091) rfl (by decide) (fun _ => kk _ _ hC2 hM2) (fun c => absurd rfl c)
def lwc_1 : List (Nat × Instr × Nat) := [(309, .aload_n 1, 1), (310, .invokevirtual 18, 3), (313, .aload_n 2, 1), (314, .invokevirtual 22, 3), (317, .lcmp, 1), (318, .ifCond .eq 1773, 3), (321, .iconst 0, 1), (322, .ireturn, 1)]
set_option maxRecDepth 20000 in
theorem lwk_1 : lw_ok code lwc_1 := by
  unfold lw_ok
  decide +kernel
set_option maxHeartbeats 4000000 in
theorem lc_1 {w : kx_W} {n : Nat} {xs : Nat → Int32} {G : Nat → List (Option Value) → List Value → kx_M → Prop} (B : lw_B code w n xs G) (i : Nat) : lw_C w n xs G i 309 := by
  intro hi M σ hC hM kk
  have F := B.1 lwc_1 lwk_1
  obtain ⟨M1, h1, hC1, hH1⟩ := pC_top  M σ hC
  obtain ⟨M2, h2, hM2, hL2⟩ := pM_top  M1 σ (IM_hi hH1 hM)
  have hC2 := IC_lo hL2 hC1
  refine x_aload_n F (i := 0) rfl rfl ?_
  refine x_cV0l F (i := 1) rfl ml_LW_18 ok_KT_top rfl (Nat.le_of_ble_eq_true rfl) (Nat.le_of_ble_eq_true rfl) (fun _ => t_KT_top h1) ?_
  refine x_aload_n F (i := 2) rfl rfl ?_
  refine x_cV0l F (i := 3) rfl ml_LW_22 ok_RM_top rfl (Nat.le_of_ble_eq_true rfl) (Nat.le_of_ble_eq_true rfl) (fun _ => t_RM_top h2) ?_
  refine x_lcmp F (i := 4) rfl ?_
  exact x_if_eq F (i := 5) (tgt := 2091) rfl (by decide) (fun _ => kk _ _ hC2 hM2) (fun c => absurd ((lg_cmp_eq _ _).mpr rfl) c)
def lwc_2 : List (Nat × Instr × Nat) := [(323, .aload_n 1, 1), (324, .invokevirtual 23, 3), (327, .aload_n 2, 1), (328, .invokevirtual 26, 3), (331, .lcmp, 1), (332, .ifCond .eq 1759, 3), (335, .iconst 0, 1), (336, .ireturn, 1)]
set_option maxRecDepth 20000 in
theorem lwk_2 : lw_ok code lwc_2 := by
  unfold lw_ok
  decide +kernel
set_option maxHeartbeats 4000000 in
theorem lc_2 {w : kx_W} {n : Nat} {xs : Nat → Int32} {G : Nat → List (Option Value) → List Value → kx_M → Prop} (B : lw_B code w n xs G) (i : Nat) : lw_C w n xs G i 323 := by
  intro hi M σ hC hM kk
  have F := B.1 lwc_2 lwk_2
  obtain ⟨M1, h1, hC1, hH1⟩ := pC_bottom  M σ hC
  obtain ⟨M2, h2, hM2, hL2⟩ := pM_bottom  M1 σ (IM_hi hH1 hM)
  have hC2 := IC_lo hL2 hC1
  refine x_aload_n F (i := 0) rfl rfl ?_
  refine x_cV0l F (i := 1) rfl ml_LW_23 ok_KT_bottom rfl (Nat.le_of_ble_eq_true rfl) (Nat.le_of_ble_eq_true rfl) (fun _ => t_KT_bottom h1) ?_
  refine x_aload_n F (i := 2) rfl rfl ?_
  refine x_cV0l F (i := 3) rfl ml_LW_26 ok_RM_bottom rfl (Nat.le_of_ble_eq_true rfl) (Nat.le_of_ble_eq_true rfl) (fun _ => t_RM_bottom h2) ?_
  refine x_lcmp F (i := 4) rfl ?_
  exact x_if_eq F (i := 5) (tgt := 2091) rfl (by decide) (fun _ => kk _ _ hC2 hM2) (fun c => absurd ((lg_cmp_eq _ _).mpr rfl) c)
def lwc_3 : List (Nat × Instr × Nat) := [(337, .aload_n 1, 1), (338, .aload_n 0, 1), (339, .iload_n 3, 1), (340, .iconst 1, 1), (341, .iadd, 1), (342, .iaload, 1), (343, .aload_n 0, 1), (344, .iload_n 3, 1), (345, .iconst 2, 1), (346, .iadd, 1), (347, .iaload, 1), (348, .aload_n 0, 1), (349, .iload_n 3, 1), (350, .iconst 3, 1), (351, .iadd, 1), (352, .iaload, 1), (353, .invokevirtual 27, 3), (356, .aload_n 2, 1), (357, .aload_n 0, 1), (358, .iload_n 3, 1), (359, .iconst 1, 1), (360, .iadd, 1), (361, .iaload, 1), (362, .aload_n 0, 1), (363, .iload_n 3, 1), (364, .iconst 2, 1), (365, .iadd, 1), (366, .iaload, 1), (367, .aload_n 0, 1), (368, .iload_n 3, 1), (369, .iconst 3, 1), (370, .iadd, 1), (371, .iaload, 1), (372, .invokevirtual 31, 3), (375, .if_icmp .eq 1716, 3), (378, .iconst 0, 1), (379, .ireturn, 1)]
set_option maxRecDepth 20000 in
theorem lwk_3 : lw_ok code lwc_3 := by
  unfold lw_ok
  decide +kernel
set_option maxHeartbeats 4000000 in
theorem lc_3 {w : kx_W} {n : Nat} {xs : Nat → Int32} {G : Nat → List (Option Value) → List Value → kx_M → Prop} (B : lw_B code w n xs G) (i : Nat) : lw_C w n xs G i 337 := by
  intro hi M σ hC hM kk
  have F := B.1 lwc_3 lwk_3
  obtain ⟨M1, h1, hC1, hH1⟩ := pC_tray (xs (i + 1)) (xs (i + 2)) (xs (i + 3)) M σ hC
  obtain ⟨M2, h2, hM2, hL2⟩ := pM_tray (xs (i + 1)) (xs (i + 2)) (xs (i + 3)) M1 σ (IM_hi hH1 hM)
  have hC2 := IC_lo hL2 hC1
  refine x_aload_n F (i := 0) rfl rfl ?_
  refine lw_arg B lwk_3 (k := 1) (jn := 1) rfl rfl rfl rfl rfl rfl (by omega) ?_
  refine lw_arg B lwk_3 (k := 6) (jn := 2) rfl rfl rfl rfl rfl rfl (by omega) ?_
  refine lw_arg B lwk_3 (k := 11) (jn := 3) rfl rfl rfl rfl rfl rfl (by omega) ?_
  refine x_cV3i F (i := 16) rfl ml_LW_27 ok_KT_tray rfl (Nat.le_of_ble_eq_true rfl) (Nat.le_of_ble_eq_true rfl) (fun _ => t_KT_tray h1) ?_
  refine x_aload_n F (i := 17) rfl rfl ?_
  refine lw_arg B lwk_3 (k := 18) (jn := 1) rfl rfl rfl rfl rfl rfl (by omega) ?_
  refine lw_arg B lwk_3 (k := 23) (jn := 2) rfl rfl rfl rfl rfl rfl (by omega) ?_
  refine lw_arg B lwk_3 (k := 28) (jn := 3) rfl rfl rfl rfl rfl rfl (by omega) ?_
  refine x_cV3i F (i := 33) rfl ml_LW_31 ok_RM_tray rfl (Nat.le_of_ble_eq_true rfl) (Nat.le_of_ble_eq_true rfl) (fun _ => t_RM_tray h2) ?_
  exact x_icmp_eq F (i := 34) (tgt := 2091) rfl (by decide) (fun _ => kk _ _ hC2 hM2) (fun c => absurd rfl c)
def lwc_4 : List (Nat × Instr × Nat) := [(380, .aload_n 1, 1), (381, .aload_n 0, 1), (382, .iload_n 3, 1), (383, .iconst 1, 1), (384, .iadd, 1), (385, .iaload, 1), (386, .aload_n 0, 1), (387, .iload_n 3, 1), (388, .iconst 2, 1), (389, .iadd, 1), (390, .iaload, 1), (391, .aload_n 0, 1), (392, .iload_n 3, 1), (393, .iconst 3, 1), (394, .iadd, 1), (395, .iaload, 1), (396, .i2l, 1), (397, .bipush 32, 2), (399, .lshl, 1), (400, .aload_n 0, 1), (401, .iload_n 3, 1), (402, .iconst 4, 1), (403, .iadd, 1), (404, .iaload, 1), (405, .i2l, 1), (406, .ldc2_w 32, 3), (409, .land, 1), (410, .lor, 1), (411, .invokevirtual 34, 3), (414, .aload_n 2, 1), (415, .aload_n 0, 1), (416, .iload_n 3, 1), (417, .iconst 1, 1), (418, .iadd, 1), (419, .iaload, 1), (420, .aload_n 0, 1), (421, .iload_n 3, 1), (422, .iconst 2, 1), (423, .iadd, 1), (424, .iaload, 1), (425, .aload_n 0, 1), (426, .iload_n 3, 1), (427, .iconst 3, 1), (428, .iadd, 1), (429, .iaload, 1), (430, .i2l, 1), (431, .bipush 32, 2), (433, .lshl, 1), (434, .aload_n 0, 1), (435, .iload_n 3, 1), (436, .iconst 4, 1), (437, .iadd, 1), (438, .iaload, 1), (439, .i2l, 1), (440, .ldc2_w 32, 3), (443, .land, 1), (444, .lor, 1), (445, .invokevirtual 38, 3), (448, .if_icmp .eq 1643, 3), (451, .iconst 0, 1), (452, .ireturn, 1)]
set_option maxRecDepth 20000 in
theorem lwk_4 : lw_ok code lwc_4 := by
  unfold lw_ok
  decide +kernel
set_option maxHeartbeats 4000000 in
theorem lc_4 {w : kx_W} {n : Nat} {xs : Nat → Int32} {G : Nat → List (Option Value) → List Value → kx_M → Prop} (B : lw_B code w n xs G) (i : Nat) : lw_C w n xs G i 380 := by
  intro hi M σ hC hM kk
  have F := B.1 lwc_4 lwk_4
  obtain ⟨M1, h1, hC1, hH1⟩ := pC_write (xs (i + 1)) (xs (i + 2)) ((((xs (i + 3)).toInt64 <<< ((32 : Int32).toInt64 &&& 63)) ||| ((xs (i + 4)).toInt64 &&& 4294967295))) M σ hC
  obtain ⟨M2, h2, hM2, hL2⟩ := pM_write (xs (i + 1)) (xs (i + 2)) ((((xs (i + 3)).toInt64 <<< ((32 : Int32).toInt64 &&& 63)) ||| ((xs (i + 4)).toInt64 &&& 4294967295))) M1 σ (IM_hi hH1 hM)
  have hC2 := IC_lo hL2 hC1
  refine x_aload_n F (i := 0) rfl rfl ?_
  refine lw_arg B lwk_4 (k := 1) (jn := 1) rfl rfl rfl rfl rfl rfl (by omega) ?_
  refine lw_arg B lwk_4 (k := 6) (jn := 2) rfl rfl rfl rfl rfl rfl (by omega) ?_
  refine lw_arg B lwk_4 (k := 11) (jn := 3) rfl rfl rfl rfl rfl rfl (by omega) ?_
  refine x_i2l F (i := 16) rfl ?_
  refine x_bipush F (i := 17) (v := 32) rfl (by decide) ?_
  refine x_lshl F (i := 18) rfl ?_
  refine lw_arg B lwk_4 (k := 19) (jn := 4) rfl rfl rfl rfl rfl rfl (by omega) ?_
  refine x_i2l F (i := 24) rfl ?_
  refine x_ldc2_w F (i := 25) rfl cl_LW_32 ?_
  refine x_land F (i := 26) rfl ?_
  refine x_lor F (i := 27) rfl ?_
  refine x_cV3i F (i := 28) rfl ml_LW_34 ok_KT_write rfl (Nat.le_of_ble_eq_true rfl) (Nat.le_of_ble_eq_true rfl) (fun _ => t_KT_write h1) ?_
  refine x_aload_n F (i := 29) rfl rfl ?_
  refine lw_arg B lwk_4 (k := 30) (jn := 1) rfl rfl rfl rfl rfl rfl (by omega) ?_
  refine lw_arg B lwk_4 (k := 35) (jn := 2) rfl rfl rfl rfl rfl rfl (by omega) ?_
  refine lw_arg B lwk_4 (k := 40) (jn := 3) rfl rfl rfl rfl rfl rfl (by omega) ?_
  refine x_i2l F (i := 45) rfl ?_
  refine x_bipush F (i := 46) (v := 32) rfl (by decide) ?_
  refine x_lshl F (i := 47) rfl ?_
  refine lw_arg B lwk_4 (k := 48) (jn := 4) rfl rfl rfl rfl rfl rfl (by omega) ?_
  refine x_i2l F (i := 53) rfl ?_
  refine x_ldc2_w F (i := 54) rfl cl_LW_32 ?_
  refine x_land F (i := 55) rfl ?_
  refine x_lor F (i := 56) rfl ?_
  refine x_cV3i F (i := 57) rfl ml_LW_38 ok_RM_write rfl (Nat.le_of_ble_eq_true rfl) (Nat.le_of_ble_eq_true rfl) (fun _ => t_RM_write h2) ?_
  exact x_icmp_eq F (i := 58) (tgt := 2091) rfl (by decide) (fun _ => kk _ _ hC2 hM2) (fun c => absurd rfl c)
def lwc_5 : List (Nat × Instr × Nat) := [(453, .aload_n 1, 1), (454, .aload_n 0, 1), (455, .iload_n 3, 1), (456, .iconst 1, 1), (457, .iadd, 1), (458, .iaload, 1), (459, .aload_n 0, 1), (460, .iload_n 3, 1), (461, .iconst 2, 1), (462, .iadd, 1), (463, .iaload, 1), (464, .invokevirtual 39, 3), (467, .aload_n 2, 1), (468, .aload_n 0, 1), (469, .iload_n 3, 1), (470, .iconst 1, 1), (471, .iadd, 1), (472, .iaload, 1), (473, .aload_n 0, 1), (474, .iload_n 3, 1), (475, .iconst 2, 1), (476, .iadd, 1), (477, .iaload, 1), (478, .invokevirtual 43, 3), (481, .lcmp, 1), (482, .ifCond .eq 1609, 3), (485, .iconst 0, 1), (486, .ireturn, 1)]
set_option maxRecDepth 20000 in
theorem lwk_5 : lw_ok code lwc_5 := by
  unfold lw_ok
  decide +kernel
set_option maxHeartbeats 4000000 in
theorem lc_5 {w : kx_W} {n : Nat} {xs : Nat → Int32} {G : Nat → List (Option Value) → List Value → kx_M → Prop} (B : lw_B code w n xs G) (i : Nat) : lw_C w n xs G i 453 := by
  intro hi M σ hC hM kk
  have F := B.1 lwc_5 lwk_5
  obtain ⟨M1, h1, hC1, hH1⟩ := pC_read (xs (i + 1)) (xs (i + 2)) M σ hC
  obtain ⟨M2, h2, hM2, hL2⟩ := pM_read (xs (i + 1)) (xs (i + 2)) M1 σ (IM_hi hH1 hM)
  have hC2 := IC_lo hL2 hC1
  refine x_aload_n F (i := 0) rfl rfl ?_
  refine lw_arg B lwk_5 (k := 1) (jn := 1) rfl rfl rfl rfl rfl rfl (by omega) ?_
  refine lw_arg B lwk_5 (k := 6) (jn := 2) rfl rfl rfl rfl rfl rfl (by omega) ?_
  refine x_cV2l F (i := 11) rfl ml_LW_39 ok_KT_read rfl (Nat.le_of_ble_eq_true rfl) (Nat.le_of_ble_eq_true rfl) (fun _ => t_KT_read h1) ?_
  refine x_aload_n F (i := 12) rfl rfl ?_
  refine lw_arg B lwk_5 (k := 13) (jn := 1) rfl rfl rfl rfl rfl rfl (by omega) ?_
  refine lw_arg B lwk_5 (k := 18) (jn := 2) rfl rfl rfl rfl rfl rfl (by omega) ?_
  refine x_cV2l F (i := 23) rfl ml_LW_43 ok_RM_read rfl (Nat.le_of_ble_eq_true rfl) (Nat.le_of_ble_eq_true rfl) (fun _ => t_RM_read h2) ?_
  refine x_lcmp F (i := 24) rfl ?_
  exact x_if_eq F (i := 25) (tgt := 2091) rfl (by decide) (fun _ => kk _ _ hC2 hM2) (fun c => absurd ((lg_cmp_eq _ _).mpr rfl) c)
def lwc_6 : List (Nat × Instr × Nat) := [(487, .aload_n 1, 1), (488, .aload_n 0, 1), (489, .iload_n 3, 1), (490, .iconst 1, 1), (491, .iadd, 1), (492, .iaload, 1), (493, .aload_n 0, 1), (494, .iload_n 3, 1), (495, .iconst 2, 1), (496, .iadd, 1), (497, .iaload, 1), (498, .aload_n 0, 1), (499, .iload_n 3, 1), (500, .iconst 3, 1), (501, .iadd, 1), (502, .iaload, 1), (503, .aload_n 0, 1), (504, .iload_n 3, 1), (505, .iconst 4, 1), (506, .iadd, 1), (507, .iaload, 1), (508, .aload_n 0, 1), (509, .iload_n 3, 1), (510, .iconst 5, 1), (511, .iadd, 1), (512, .iaload, 1), (513, .invokevirtual 44, 3), (516, .aload_n 2, 1), (517, .aload_n 0, 1), (518, .iload_n 3, 1), (519, .iconst 1, 1), (520, .iadd, 1), (521, .iaload, 1), (522, .aload_n 0, 1), (523, .iload_n 3, 1), (524, .iconst 2, 1), (525, .iadd, 1), (526, .iaload, 1), (527, .aload_n 0, 1), (528, .iload_n 3, 1), (529, .iconst 3, 1), (530, .iadd, 1), (531, .iaload, 1), (532, .aload_n 0, 1), (533, .iload_n 3, 1), (534, .iconst 4, 1), (535, .iadd, 1), (536, .iaload, 1), (537, .aload_n 0, 1), (538, .iload_n 3, 1), (539, .iconst 5, 1), (540, .iadd, 1), (541, .iaload, 1), (542, .invokevirtual 48, 3), (545, .if_icmp .eq 1546, 3), (548, .iconst 0, 1), (549, .ireturn, 1)]
set_option maxRecDepth 20000 in
theorem lwk_6 : lw_ok code lwc_6 := by
  unfold lw_ok
  decide +kernel
set_option maxHeartbeats 4000000 in
theorem lc_6 {w : kx_W} {n : Nat} {xs : Nat → Int32} {G : Nat → List (Option Value) → List Value → kx_M → Prop} (B : lw_B code w n xs G) (i : Nat) : lw_C w n xs G i 487 := by
  intro hi M σ hC hM kk
  have F := B.1 lwc_6 lwk_6
  obtain ⟨M1, h1, hC1, hH1⟩ := pC_pour (xs (i + 1)) (xs (i + 2)) (xs (i + 3)) (xs (i + 4)) (xs (i + 5)) M σ hC
  obtain ⟨M2, h2, hM2, hL2⟩ := pM_pour (xs (i + 1)) (xs (i + 2)) (xs (i + 3)) (xs (i + 4)) (xs (i + 5)) M1 σ (IM_hi hH1 hM)
  have hC2 := IC_lo hL2 hC1
  refine x_aload_n F (i := 0) rfl rfl ?_
  refine lw_arg B lwk_6 (k := 1) (jn := 1) rfl rfl rfl rfl rfl rfl (by omega) ?_
  refine lw_arg B lwk_6 (k := 6) (jn := 2) rfl rfl rfl rfl rfl rfl (by omega) ?_
  refine lw_arg B lwk_6 (k := 11) (jn := 3) rfl rfl rfl rfl rfl rfl (by omega) ?_
  refine lw_arg B lwk_6 (k := 16) (jn := 4) rfl rfl rfl rfl rfl rfl (by omega) ?_
  refine lw_arg B lwk_6 (k := 21) (jn := 5) rfl rfl rfl rfl rfl rfl (by omega) ?_
  refine x_cV5i F (i := 26) rfl ml_LW_44 ok_KT_pour rfl (Nat.le_of_ble_eq_true rfl) (Nat.le_of_ble_eq_true rfl) (fun _ => t_KT_pour h1) ?_
  refine x_aload_n F (i := 27) rfl rfl ?_
  refine lw_arg B lwk_6 (k := 28) (jn := 1) rfl rfl rfl rfl rfl rfl (by omega) ?_
  refine lw_arg B lwk_6 (k := 33) (jn := 2) rfl rfl rfl rfl rfl rfl (by omega) ?_
  refine lw_arg B lwk_6 (k := 38) (jn := 3) rfl rfl rfl rfl rfl rfl (by omega) ?_
  refine lw_arg B lwk_6 (k := 43) (jn := 4) rfl rfl rfl rfl rfl rfl (by omega) ?_
  refine lw_arg B lwk_6 (k := 48) (jn := 5) rfl rfl rfl rfl rfl rfl (by omega) ?_
  refine x_cV5i F (i := 53) rfl ml_LW_48 ok_RM_pour rfl (Nat.le_of_ble_eq_true rfl) (Nat.le_of_ble_eq_true rfl) (fun _ => t_RM_pour h2) ?_
  exact x_icmp_eq F (i := 54) (tgt := 2091) rfl (by decide) (fun _ => kk _ _ hC2 hM2) (fun c => absurd rfl c)
def lwc_7 : List (Nat × Instr × Nat) := [(550, .aload_n 1, 1), (551, .aload_n 0, 1), (552, .iload_n 3, 1), (553, .iconst 1, 1), (554, .iadd, 1), (555, .iaload, 1), (556, .aload_n 0, 1), (557, .iload_n 3, 1), (558, .iconst 2, 1), (559, .iadd, 1), (560, .iaload, 1), (561, .aload_n 0, 1), (562, .iload_n 3, 1), (563, .iconst 3, 1), (564, .iadd, 1), (565, .iaload, 1), (566, .aload_n 0, 1), (567, .iload_n 3, 1), (568, .iconst 4, 1), (569, .iadd, 1), (570, .iaload, 1), (571, .aload_n 0, 1), (572, .iload_n 3, 1), (573, .iconst 5, 1), (574, .iadd, 1), (575, .iaload, 1), (576, .invokevirtual 49, 3), (579, .aload_n 2, 1), (580, .aload_n 0, 1), (581, .iload_n 3, 1), (582, .iconst 1, 1), (583, .iadd, 1), (584, .iaload, 1), (585, .aload_n 0, 1), (586, .iload_n 3, 1), (587, .iconst 2, 1), (588, .iadd, 1), (589, .iaload, 1), (590, .aload_n 0, 1), (591, .iload_n 3, 1), (592, .iconst 3, 1), (593, .iadd, 1), (594, .iaload, 1), (595, .aload_n 0, 1), (596, .iload_n 3, 1), (597, .iconst 4, 1), (598, .iadd, 1), (599, .iaload, 1), (600, .aload_n 0, 1), (601, .iload_n 3, 1), (602, .iconst 5, 1), (603, .iadd, 1), (604, .iaload, 1), (605, .invokevirtual 53, 3), (608, .if_icmp .eq 1483, 3), (611, .iconst 0, 1), (612, .ireturn, 1)]
set_option maxRecDepth 20000 in
theorem lwk_7 : lw_ok code lwc_7 := by
  unfold lw_ok
  decide +kernel
set_option maxHeartbeats 4000000 in
theorem lc_7 {w : kx_W} {n : Nat} {xs : Nat → Int32} {G : Nat → List (Option Value) → List Value → kx_M → Prop} (B : lw_B code w n xs G) (i : Nat) : lw_C w n xs G i 550 := by
  intro hi M σ hC hM kk
  have F := B.1 lwc_7 lwk_7
  obtain ⟨M1, h1, hC1, hH1⟩ := pC_feed (xs (i + 1)) (xs (i + 2)) (xs (i + 3)) (xs (i + 4)) (xs (i + 5)) M σ hC
  obtain ⟨M2, h2, hM2, hL2⟩ := pM_feed (xs (i + 1)) (xs (i + 2)) (xs (i + 3)) (xs (i + 4)) (xs (i + 5)) M1 σ (IM_hi hH1 hM)
  have hC2 := IC_lo hL2 hC1
  refine x_aload_n F (i := 0) rfl rfl ?_
  refine lw_arg B lwk_7 (k := 1) (jn := 1) rfl rfl rfl rfl rfl rfl (by omega) ?_
  refine lw_arg B lwk_7 (k := 6) (jn := 2) rfl rfl rfl rfl rfl rfl (by omega) ?_
  refine lw_arg B lwk_7 (k := 11) (jn := 3) rfl rfl rfl rfl rfl rfl (by omega) ?_
  refine lw_arg B lwk_7 (k := 16) (jn := 4) rfl rfl rfl rfl rfl rfl (by omega) ?_
  refine lw_arg B lwk_7 (k := 21) (jn := 5) rfl rfl rfl rfl rfl rfl (by omega) ?_
  refine x_cV5i F (i := 26) rfl ml_LW_49 ok_KT_feed rfl (Nat.le_of_ble_eq_true rfl) (Nat.le_of_ble_eq_true rfl) (fun _ => t_KT_feed h1) ?_
  refine x_aload_n F (i := 27) rfl rfl ?_
  refine lw_arg B lwk_7 (k := 28) (jn := 1) rfl rfl rfl rfl rfl rfl (by omega) ?_
  refine lw_arg B lwk_7 (k := 33) (jn := 2) rfl rfl rfl rfl rfl rfl (by omega) ?_
  refine lw_arg B lwk_7 (k := 38) (jn := 3) rfl rfl rfl rfl rfl rfl (by omega) ?_
  refine lw_arg B lwk_7 (k := 43) (jn := 4) rfl rfl rfl rfl rfl rfl (by omega) ?_
  refine lw_arg B lwk_7 (k := 48) (jn := 5) rfl rfl rfl rfl rfl rfl (by omega) ?_
  refine x_cV5i F (i := 53) rfl ml_LW_53 ok_RM_feed rfl (Nat.le_of_ble_eq_true rfl) (Nat.le_of_ble_eq_true rfl) (fun _ => t_RM_feed h2) ?_
  exact x_icmp_eq F (i := 54) (tgt := 2091) rfl (by decide) (fun _ => kk _ _ hC2 hM2) (fun c => absurd rfl c)
def lwc_8 : List (Nat × Instr × Nat) := [(613, .aload_n 1, 1), (614, .aload_n 0, 1), (615, .iload_n 3, 1), (616, .iconst 1, 1), (617, .iadd, 1), (618, .iaload, 1), (619, .invokevirtual 54, 3), (622, .aload_n 2, 1), (623, .aload_n 0, 1), (624, .iload_n 3, 1), (625, .iconst 1, 1), (626, .iadd, 1), (627, .iaload, 1), (628, .invokevirtual 58, 3), (631, .if_icmp .eq 1460, 3), (634, .iconst 0, 1), (635, .ireturn, 1)]
set_option maxRecDepth 20000 in
theorem lwk_8 : lw_ok code lwc_8 := by
  unfold lw_ok
  decide +kernel
set_option maxHeartbeats 4000000 in
theorem lc_8 {w : kx_W} {n : Nat} {xs : Nat → Int32} {G : Nat → List (Option Value) → List Value → kx_M → Prop} (B : lw_B code w n xs G) (i : Nat) : lw_C w n xs G i 613 := by
  intro hi M σ hC hM kk
  have F := B.1 lwc_8 lwk_8
  obtain ⟨M1, h1, hC1, hH1⟩ := pC_treaty (xs (i + 1)) M σ hC
  obtain ⟨M2, h2, hM2, hL2⟩ := pM_treaty (xs (i + 1)) M1 σ (IM_hi hH1 hM)
  have hC2 := IC_lo hL2 hC1
  refine x_aload_n F (i := 0) rfl rfl ?_
  refine lw_arg B lwk_8 (k := 1) (jn := 1) rfl rfl rfl rfl rfl rfl (by omega) ?_
  refine x_cV1i F (i := 6) rfl ml_LW_54 ok_KT_treaty rfl (Nat.le_of_ble_eq_true rfl) (Nat.le_of_ble_eq_true rfl) (fun _ => t_KT_treaty h1) ?_
  refine x_aload_n F (i := 7) rfl rfl ?_
  refine lw_arg B lwk_8 (k := 8) (jn := 1) rfl rfl rfl rfl rfl rfl (by omega) ?_
  refine x_cV1i F (i := 13) rfl ml_LW_58 ok_RM_treaty rfl (Nat.le_of_ble_eq_true rfl) (Nat.le_of_ble_eq_true rfl) (fun _ => t_RM_treaty h2) ?_
  exact x_icmp_eq F (i := 14) (tgt := 2091) rfl (by decide) (fun _ => kk _ _ hC2 hM2) (fun c => absurd rfl c)
def lwc_9 : List (Nat × Instr × Nat) := [(636, .aload_n 1, 1), (637, .aload_n 0, 1), (638, .iload_n 3, 1), (639, .iconst 1, 1), (640, .iadd, 1), (641, .iaload, 1), (642, .invokevirtual 59, 3), (645, .aload_n 2, 1), (646, .aload_n 0, 1), (647, .iload_n 3, 1), (648, .iconst 1, 1), (649, .iadd, 1), (650, .iaload, 1), (651, .invokevirtual 62, 3), (654, .if_icmp .eq 1437, 3), (657, .iconst 0, 1), (658, .ireturn, 1)]
set_option maxRecDepth 20000 in
theorem lwk_9 : lw_ok code lwc_9 := by
  unfold lw_ok
  decide +kernel
set_option maxHeartbeats 4000000 in
theorem lc_9 {w : kx_W} {n : Nat} {xs : Nat → Int32} {G : Nat → List (Option Value) → List Value → kx_M → Prop} (B : lw_B code w n xs G) (i : Nat) : lw_C w n xs G i 636 := by
  intro hi M σ hC hM kk
  have F := B.1 lwc_9 lwk_9
  obtain ⟨M1, hz1, hz2, hH1⟩ := pC_centuries (xs (i + 1)) M σ hC
  obtain ⟨M2, z, hz, h2, hM2, hL2⟩ := pM_centuries (xs (i + 1)) M1 σ (IM_hi hH1 hM)
  have h1 := hz1 z
  have hC2 := IC_lo hL2 (hz2 z hz)
  refine x_aload_n F (i := 0) rfl rfl ?_
  refine lw_arg B lwk_9 (k := 1) (jn := 1) rfl rfl rfl rfl rfl rfl (by omega) ?_
  refine x_cV1i F (i := 6) rfl ml_LW_59 ok_KT_centuries rfl (Nat.le_of_ble_eq_true rfl) (Nat.le_of_ble_eq_true rfl) (fun _ => t_KT_centuries h1) ?_
  refine x_aload_n F (i := 7) rfl rfl ?_
  refine lw_arg B lwk_9 (k := 8) (jn := 1) rfl rfl rfl rfl rfl rfl (by omega) ?_
  refine x_cV1i F (i := 13) rfl ml_LW_62 ok_RM_centuries rfl (Nat.le_of_ble_eq_true rfl) (Nat.le_of_ble_eq_true rfl) (fun _ => t_RM_centuries h2) ?_
  exact x_icmp_eq F (i := 14) (tgt := 2091) rfl (by decide) (fun _ => kk _ _ hC2 hM2) (fun c => absurd rfl c)
def lwc_10 : List (Nat × Instr × Nat) := [(659, .aload_n 1, 1), (660, .aload_n 0, 1), (661, .iload_n 3, 1), (662, .iconst 1, 1), (663, .iadd, 1), (664, .iaload, 1), (665, .invokevirtual 63, 3), (668, .aload_n 2, 1), (669, .aload_n 0, 1), (670, .iload_n 3, 1), (671, .iconst 1, 1), (672, .iadd, 1), (673, .iaload, 1), (674, .invokevirtual 66, 3), (677, .if_icmp .eq 1414, 3), (680, .iconst 0, 1), (681, .ireturn, 1)]
set_option maxRecDepth 20000 in
theorem lwk_10 : lw_ok code lwc_10 := by
  unfold lw_ok
  decide +kernel
set_option maxHeartbeats 4000000 in
theorem lc_10 {w : kx_W} {n : Nat} {xs : Nat → Int32} {G : Nat → List (Option Value) → List Value → kx_M → Prop} (B : lw_B code w n xs G) (i : Nat) : lw_C w n xs G i 659 := by
  intro hi M σ hC hM kk
  have F := B.1 lwc_10 lwk_10
  obtain ⟨M1, h1, hC1, hH1⟩ := pC_fault (xs (i + 1)) M σ hC
  obtain ⟨M2, h2, hM2, hL2⟩ := pM_fault (xs (i + 1)) M1 σ (IM_hi hH1 hM)
  have hC2 := IC_lo hL2 hC1
  refine x_aload_n F (i := 0) rfl rfl ?_
  refine lw_arg B lwk_10 (k := 1) (jn := 1) rfl rfl rfl rfl rfl rfl (by omega) ?_
  refine x_cV1i F (i := 6) rfl ml_LW_63 ok_KT_fault rfl (Nat.le_of_ble_eq_true rfl) (Nat.le_of_ble_eq_true rfl) (fun _ => t_KT_fault h1) ?_
  refine x_aload_n F (i := 7) rfl rfl ?_
  refine lw_arg B lwk_10 (k := 8) (jn := 1) rfl rfl rfl rfl rfl rfl (by omega) ?_
  refine x_cV1i F (i := 13) rfl ml_LW_66 ok_RM_fault rfl (Nat.le_of_ble_eq_true rfl) (Nat.le_of_ble_eq_true rfl) (fun _ => t_RM_fault h2) ?_
  exact x_icmp_eq F (i := 14) (tgt := 2091) rfl (by decide) (fun _ => kk _ _ hC2 hM2) (fun c => absurd rfl c)
def lwc_11 : List (Nat × Instr × Nat) := [(682, .aload_n 1, 1), (683, .aload_n 0, 1), (684, .iload_n 3, 1), (685, .iconst 1, 1), (686, .iadd, 1), (687, .iaload, 1), (688, .invokevirtual 67, 3), (691, .aload_n 2, 1), (692, .aload_n 0, 1), (693, .iload_n 3, 1), (694, .iconst 1, 1), (695, .iadd, 1), (696, .iaload, 1), (697, .invokevirtual 70, 3), (700, .if_icmp .eq 1391, 3), (703, .iconst 0, 1), (704, .ireturn, 1)]
set_option maxRecDepth 20000 in
theorem lwk_11 : lw_ok code lwc_11 := by
  unfold lw_ok
  decide +kernel
set_option maxHeartbeats 4000000 in
theorem lc_11 {w : kx_W} {n : Nat} {xs : Nat → Int32} {G : Nat → List (Option Value) → List Value → kx_M → Prop} (B : lw_B code w n xs G) (i : Nat) : lw_C w n xs G i 682 := by
  intro hi M σ hC hM kk
  have F := B.1 lwc_11 lwk_11
  obtain ⟨M1, h1, hC1, hH1⟩ := pC_many (xs (i + 1)) M σ hC
  obtain ⟨M2, h2, hM2, hL2⟩ := pM_many (xs (i + 1)) M1 σ (IM_hi hH1 hM)
  have hC2 := IC_lo hL2 hC1
  refine x_aload_n F (i := 0) rfl rfl ?_
  refine lw_arg B lwk_11 (k := 1) (jn := 1) rfl rfl rfl rfl rfl rfl (by omega) ?_
  refine x_cV1i F (i := 6) rfl ml_LW_67 ok_KT_many rfl (Nat.le_of_ble_eq_true rfl) (Nat.le_of_ble_eq_true rfl) (fun _ => t_KT_many h1) ?_
  refine x_aload_n F (i := 7) rfl rfl ?_
  refine lw_arg B lwk_11 (k := 8) (jn := 1) rfl rfl rfl rfl rfl rfl (by omega) ?_
  refine x_cV1i F (i := 13) rfl ml_LW_70 ok_RM_many rfl (Nat.le_of_ble_eq_true rfl) (Nat.le_of_ble_eq_true rfl) (fun _ => t_RM_many h2) ?_
  exact x_icmp_eq F (i := 14) (tgt := 2091) rfl (by decide) (fun _ => kk _ _ hC2 hM2) (fun c => absurd rfl c)
def lwc_12 : List (Nat × Instr × Nat) := [(705, .aload_n 1, 1), (706, .aload_n 0, 1), (707, .iload_n 3, 1), (708, .iconst 1, 1), (709, .iadd, 1), (710, .iaload, 1), (711, .aload_n 0, 1), (712, .iload_n 3, 1), (713, .iconst 2, 1), (714, .iadd, 1), (715, .iaload, 1), (716, .aload_n 0, 1), (717, .iload_n 3, 1), (718, .iconst 3, 1), (719, .iadd, 1), (720, .iaload, 1), (721, .invokevirtual 71, 3), (724, .aload_n 2, 1), (725, .aload_n 0, 1), (726, .iload_n 3, 1), (727, .iconst 1, 1), (728, .iadd, 1), (729, .iaload, 1), (730, .aload_n 0, 1), (731, .iload_n 3, 1), (732, .iconst 2, 1), (733, .iadd, 1), (734, .iaload, 1), (735, .aload_n 0, 1), (736, .iload_n 3, 1), (737, .iconst 3, 1), (738, .iadd, 1), (739, .iaload, 1), (740, .invokevirtual 75, 3), (743, .if_icmp .eq 1348, 3), (746, .iconst 0, 1), (747, .ireturn, 1)]
set_option maxRecDepth 20000 in
theorem lwk_12 : lw_ok code lwc_12 := by
  unfold lw_ok
  decide +kernel
set_option maxHeartbeats 4000000 in
theorem lc_12 {w : kx_W} {n : Nat} {xs : Nat → Int32} {G : Nat → List (Option Value) → List Value → kx_M → Prop} (B : lw_B code w n xs G) (i : Nat) : lw_C w n xs G i 705 := by
  intro hi M σ hC hM kk
  have F := B.1 lwc_12 lwk_12
  obtain ⟨M1, h1, hC1, hH1⟩ := pC_stitch (xs (i + 1)) (xs (i + 2)) (xs (i + 3)) M σ hC
  obtain ⟨M2, h2, hM2, hL2⟩ := pM_stitch (xs (i + 1)) (xs (i + 2)) (xs (i + 3)) M1 σ (IM_hi hH1 hM)
  have hC2 := IC_lo hL2 hC1
  refine x_aload_n F (i := 0) rfl rfl ?_
  refine lw_arg B lwk_12 (k := 1) (jn := 1) rfl rfl rfl rfl rfl rfl (by omega) ?_
  refine lw_arg B lwk_12 (k := 6) (jn := 2) rfl rfl rfl rfl rfl rfl (by omega) ?_
  refine lw_arg B lwk_12 (k := 11) (jn := 3) rfl rfl rfl rfl rfl rfl (by omega) ?_
  refine x_cV3i F (i := 16) rfl ml_LW_71 ok_KT_stitch rfl (Nat.le_of_ble_eq_true rfl) (Nat.le_of_ble_eq_true rfl) (fun _ => t_KT_stitch h1) ?_
  refine x_aload_n F (i := 17) rfl rfl ?_
  refine lw_arg B lwk_12 (k := 18) (jn := 1) rfl rfl rfl rfl rfl rfl (by omega) ?_
  refine lw_arg B lwk_12 (k := 23) (jn := 2) rfl rfl rfl rfl rfl rfl (by omega) ?_
  refine lw_arg B lwk_12 (k := 28) (jn := 3) rfl rfl rfl rfl rfl rfl (by omega) ?_
  refine x_cV3i F (i := 33) rfl ml_LW_75 ok_RM_stitch rfl (Nat.le_of_ble_eq_true rfl) (Nat.le_of_ble_eq_true rfl) (fun _ => t_RM_stitch h2) ?_
  exact x_icmp_eq F (i := 34) (tgt := 2091) rfl (by decide) (fun _ => kk _ _ hC2 hM2) (fun c => absurd rfl c)
def lwc_13 : List (Nat × Instr × Nat) := [(748, .aload_n 1, 1), (749, .aload_n 0, 1), (750, .iload_n 3, 1), (751, .iconst 1, 1), (752, .iadd, 1), (753, .iaload, 1), (754, .invokevirtual 76, 3), (757, .aload_n 2, 1), (758, .aload_n 0, 1), (759, .iload_n 3, 1), (760, .iconst 1, 1), (761, .iadd, 1), (762, .iaload, 1), (763, .invokevirtual 79, 3), (766, .if_icmp .eq 1325, 3), (769, .iconst 0, 1), (770, .ireturn, 1)]
set_option maxRecDepth 20000 in
theorem lwk_13 : lw_ok code lwc_13 := by
  unfold lw_ok
  decide +kernel
set_option maxHeartbeats 4000000 in
theorem lc_13 {w : kx_W} {n : Nat} {xs : Nat → Int32} {G : Nat → List (Option Value) → List Value → kx_M → Prop} (B : lw_B code w n xs G) (i : Nat) : lw_C w n xs G i 748 := by
  intro hi M σ hC hM kk
  have F := B.1 lwc_13 lwk_13
  obtain ⟨M1, h1, hC1, hH1⟩ := pC_queenOf (xs (i + 1)) M σ hC
  obtain ⟨M2, h2, hM2, hL2⟩ := pM_queenOf (xs (i + 1)) M1 σ (IM_hi hH1 hM)
  have hC2 := IC_lo hL2 hC1
  refine x_aload_n F (i := 0) rfl rfl ?_
  refine lw_arg B lwk_13 (k := 1) (jn := 1) rfl rfl rfl rfl rfl rfl (by omega) ?_
  refine x_cV1i F (i := 6) rfl ml_LW_76 ok_KT_queenOf rfl (Nat.le_of_ble_eq_true rfl) (Nat.le_of_ble_eq_true rfl) (fun _ => t_KT_queenOf h1) ?_
  refine x_aload_n F (i := 7) rfl rfl ?_
  refine lw_arg B lwk_13 (k := 8) (jn := 1) rfl rfl rfl rfl rfl rfl (by omega) ?_
  refine x_cV1i F (i := 13) rfl ml_LW_79 ok_RM_queenOf rfl (Nat.le_of_ble_eq_true rfl) (Nat.le_of_ble_eq_true rfl) (fun _ => t_RM_queenOf h2) ?_
  exact x_icmp_eq F (i := 14) (tgt := 2091) rfl (by decide) (fun _ => kk _ _ hC2 hM2) (fun c => absurd rfl c)
def lwc_14 : List (Nat × Instr × Nat) := [(771, .aload_n 1, 1), (772, .aload_n 0, 1), (773, .iload_n 3, 1), (774, .iconst 1, 1), (775, .iadd, 1), (776, .iaload, 1), (777, .invokevirtual 80, 3), (780, .aload_n 2, 1), (781, .aload_n 0, 1), (782, .iload_n 3, 1), (783, .iconst 1, 1), (784, .iadd, 1), (785, .iaload, 1), (786, .invokevirtual 83, 3), (789, .if_icmp .eq 1302, 3), (792, .iconst 0, 1), (793, .ireturn, 1)]
set_option maxRecDepth 20000 in
theorem lwk_14 : lw_ok code lwc_14 := by
  unfold lw_ok
  decide +kernel
set_option maxHeartbeats 4000000 in
theorem lc_14 {w : kx_W} {n : Nat} {xs : Nat → Int32} {G : Nat → List (Option Value) → List Value → kx_M → Prop} (B : lw_B code w n xs G) (i : Nat) : lw_C w n xs G i 771 := by
  intro hi M σ hC hM kk
  have F := B.1 lwc_14 lwk_14
  obtain ⟨M1, h1, hC1, hH1⟩ := pC_wool (xs (i + 1)) M σ hC
  obtain ⟨M2, h2, hM2, hL2⟩ := pM_wool (xs (i + 1)) M1 σ (IM_hi hH1 hM)
  have hC2 := IC_lo hL2 hC1
  refine x_aload_n F (i := 0) rfl rfl ?_
  refine lw_arg B lwk_14 (k := 1) (jn := 1) rfl rfl rfl rfl rfl rfl (by omega) ?_
  refine x_cV1i F (i := 6) rfl ml_LW_80 ok_KT_wool rfl (Nat.le_of_ble_eq_true rfl) (Nat.le_of_ble_eq_true rfl) (fun _ => t_KT_wool h1) ?_
  refine x_aload_n F (i := 7) rfl rfl ?_
  refine lw_arg B lwk_14 (k := 8) (jn := 1) rfl rfl rfl rfl rfl rfl (by omega) ?_
  refine x_cV1i F (i := 13) rfl ml_LW_83 ok_RM_wool rfl (Nat.le_of_ble_eq_true rfl) (Nat.le_of_ble_eq_true rfl) (fun _ => t_RM_wool h2) ?_
  exact x_icmp_eq F (i := 14) (tgt := 2091) rfl (by decide) (fun _ => kk _ _ hC2 hM2) (fun c => absurd rfl c)
def lwc_15 : List (Nat × Instr × Nat) := [(794, .aload_n 1, 1), (795, .aload_n 0, 1), (796, .iload_n 3, 1), (797, .iconst 1, 1), (798, .iadd, 1), (799, .iaload, 1), (800, .invokevirtual 84, 3), (803, .aload_n 2, 1), (804, .aload_n 0, 1), (805, .iload_n 3, 1), (806, .iconst 1, 1), (807, .iadd, 1), (808, .iaload, 1), (809, .invokevirtual 87, 3), (812, .if_icmp .eq 1279, 3), (815, .iconst 0, 1), (816, .ireturn, 1)]
set_option maxRecDepth 20000 in
theorem lwk_15 : lw_ok code lwc_15 := by
  unfold lw_ok
  decide +kernel
set_option maxHeartbeats 4000000 in
theorem lc_15 {w : kx_W} {n : Nat} {xs : Nat → Int32} {G : Nat → List (Option Value) → List Value → kx_M → Prop} (B : lw_B code w n xs G) (i : Nat) : lw_C w n xs G i 794 := by
  intro hi M σ hC hM kk
  have F := B.1 lwc_15 lwk_15
  obtain ⟨M1, h1, hC1, hH1⟩ := pC_length (xs (i + 1)) M σ hC
  obtain ⟨M2, h2, hM2, hL2⟩ := pM_length (xs (i + 1)) M1 σ (IM_hi hH1 hM)
  have hC2 := IC_lo hL2 hC1
  refine x_aload_n F (i := 0) rfl rfl ?_
  refine lw_arg B lwk_15 (k := 1) (jn := 1) rfl rfl rfl rfl rfl rfl (by omega) ?_
  refine x_cV1i F (i := 6) rfl ml_LW_84 ok_KT_length rfl (Nat.le_of_ble_eq_true rfl) (Nat.le_of_ble_eq_true rfl) (fun _ => t_KT_length h1) ?_
  refine x_aload_n F (i := 7) rfl rfl ?_
  refine lw_arg B lwk_15 (k := 8) (jn := 1) rfl rfl rfl rfl rfl rfl (by omega) ?_
  refine x_cV1i F (i := 13) rfl ml_LW_87 ok_RM_length rfl (Nat.le_of_ble_eq_true rfl) (Nat.le_of_ble_eq_true rfl) (fun _ => t_RM_length h2) ?_
  exact x_icmp_eq F (i := 14) (tgt := 2091) rfl (by decide) (fun _ => kk _ _ hC2 hM2) (fun c => absurd rfl c)
def lwc_16 : List (Nat × Instr × Nat) := [(817, .aload_n 1, 1), (818, .aload_n 0, 1), (819, .iload_n 3, 1), (820, .iconst 1, 1), (821, .iadd, 1), (822, .iaload, 1), (823, .aload_n 0, 1), (824, .iload_n 3, 1), (825, .iconst 2, 1), (826, .iadd, 1), (827, .iaload, 1), (828, .invokevirtual 88, 3), (831, .aload_n 2, 1), (832, .aload_n 0, 1), (833, .iload_n 3, 1), (834, .iconst 1, 1), (835, .iadd, 1), (836, .iaload, 1), (837, .aload_n 0, 1), (838, .iload_n 3, 1), (839, .iconst 2, 1), (840, .iadd, 1), (841, .iaload, 1), (842, .invokevirtual 92, 3), (845, .if_icmp .eq 1246, 3), (848, .iconst 0, 1), (849, .ireturn, 1)]
set_option maxRecDepth 20000 in
theorem lwk_16 : lw_ok code lwc_16 := by
  unfold lw_ok
  decide +kernel
set_option maxHeartbeats 4000000 in
theorem lc_16 {w : kx_W} {n : Nat} {xs : Nat → Int32} {G : Nat → List (Option Value) → List Value → kx_M → Prop} (B : lw_B code w n xs G) (i : Nat) : lw_C w n xs G i 817 := by
  intro hi M σ hC hM kk
  have F := B.1 lwc_16 lwk_16
  obtain ⟨M1, h1, hC1, hH1⟩ := pC_kind (xs (i + 1)) (xs (i + 2)) M σ hC
  obtain ⟨M2, h2, hM2, hL2⟩ := pM_kind (xs (i + 1)) (xs (i + 2)) M1 σ (IM_hi hH1 hM)
  have hC2 := IC_lo hL2 hC1
  refine x_aload_n F (i := 0) rfl rfl ?_
  refine lw_arg B lwk_16 (k := 1) (jn := 1) rfl rfl rfl rfl rfl rfl (by omega) ?_
  refine lw_arg B lwk_16 (k := 6) (jn := 2) rfl rfl rfl rfl rfl rfl (by omega) ?_
  refine x_cV2i F (i := 11) rfl ml_LW_88 ok_KT_kind rfl (Nat.le_of_ble_eq_true rfl) (Nat.le_of_ble_eq_true rfl) (fun _ => t_KT_kind h1) ?_
  refine x_aload_n F (i := 12) rfl rfl ?_
  refine lw_arg B lwk_16 (k := 13) (jn := 1) rfl rfl rfl rfl rfl rfl (by omega) ?_
  refine lw_arg B lwk_16 (k := 18) (jn := 2) rfl rfl rfl rfl rfl rfl (by omega) ?_
  refine x_cV2i F (i := 23) rfl ml_LW_92 ok_RM_kind rfl (Nat.le_of_ble_eq_true rfl) (Nat.le_of_ble_eq_true rfl) (fun _ => t_RM_kind h2) ?_
  exact x_icmp_eq F (i := 24) (tgt := 2091) rfl (by decide) (fun _ => kk _ _ hC2 hM2) (fun c => absurd rfl c)
def lwc_17 : List (Nat × Instr × Nat) := [(850, .aload_n 1, 1), (851, .aload_n 0, 1), (852, .iload_n 3, 1), (853, .iconst 1, 1), (854, .iadd, 1), (855, .iaload, 1), (856, .aload_n 0, 1), (857, .iload_n 3, 1), (858, .iconst 2, 1), (859, .iadd, 1), (860, .iaload, 1), (861, .invokevirtual 93, 3), (864, .aload_n 2, 1), (865, .aload_n 0, 1), (866, .iload_n 3, 1), (867, .iconst 1, 1), (868, .iadd, 1), (869, .iaload, 1), (870, .aload_n 0, 1), (871, .iload_n 3, 1), (872, .iconst 2, 1), (873, .iadd, 1), (874, .iaload, 1), (875, .invokevirtual 96, 3), (878, .if_icmp .eq 1213, 3), (881, .iconst 0, 1), (882, .ireturn, 1)]
set_option maxRecDepth 20000 in
theorem lwk_17 : lw_ok code lwc_17 := by
  unfold lw_ok
  decide +kernel
set_option maxHeartbeats 4000000 in
theorem lc_17 {w : kx_W} {n : Nat} {xs : Nat → Int32} {G : Nat → List (Option Value) → List Value → kx_M → Prop} (B : lw_B code w n xs G) (i : Nat) : lw_C w n xs G i 850 := by
  intro hi M σ hC hM kk
  have F := B.1 lwc_17 lwk_17
  obtain ⟨M1, h1, hC1, hH1⟩ := pC_clash (xs (i + 1)) (xs (i + 2)) M σ hC
  obtain ⟨M2, h2, hM2, hL2⟩ := pM_clash (xs (i + 1)) (xs (i + 2)) M1 σ (IM_hi hH1 hM)
  have hC2 := IC_lo hL2 hC1
  refine x_aload_n F (i := 0) rfl rfl ?_
  refine lw_arg B lwk_17 (k := 1) (jn := 1) rfl rfl rfl rfl rfl rfl (by omega) ?_
  refine lw_arg B lwk_17 (k := 6) (jn := 2) rfl rfl rfl rfl rfl rfl (by omega) ?_
  refine x_cV2i F (i := 11) rfl ml_LW_93 ok_KT_clash rfl (Nat.le_of_ble_eq_true rfl) (Nat.le_of_ble_eq_true rfl) (fun _ => t_KT_clash h1) ?_
  refine x_aload_n F (i := 12) rfl rfl ?_
  refine lw_arg B lwk_17 (k := 13) (jn := 1) rfl rfl rfl rfl rfl rfl (by omega) ?_
  refine lw_arg B lwk_17 (k := 18) (jn := 2) rfl rfl rfl rfl rfl rfl (by omega) ?_
  refine x_cV2i F (i := 23) rfl ml_LW_96 ok_RM_clash rfl (Nat.le_of_ble_eq_true rfl) (Nat.le_of_ble_eq_true rfl) (fun _ => t_RM_clash h2) ?_
  exact x_icmp_eq F (i := 24) (tgt := 2091) rfl (by decide) (fun _ => kk _ _ hC2 hM2) (fun c => absurd rfl c)
def lwc_18 : List (Nat × Instr × Nat) := [(883, .aload_n 1, 1), (884, .aload_n 0, 1), (885, .iload_n 3, 1), (886, .iconst 1, 1), (887, .iadd, 1), (888, .iaload, 1), (889, .aload_n 0, 1), (890, .iload_n 3, 1), (891, .iconst 2, 1), (892, .iadd, 1), (893, .iaload, 1), (894, .aload_n 0, 1), (895, .iload_n 3, 1), (896, .iconst 3, 1), (897, .iadd, 1), (898, .iaload, 1), (899, .invokevirtual 97, 3), (902, .aload_n 2, 1), (903, .aload_n 0, 1), (904, .iload_n 3, 1), (905, .iconst 1, 1), (906, .iadd, 1), (907, .iaload, 1), (908, .aload_n 0, 1), (909, .iload_n 3, 1), (910, .iconst 2, 1), (911, .iadd, 1), (912, .iaload, 1), (913, .aload_n 0, 1), (914, .iload_n 3, 1), (915, .iconst 3, 1), (916, .iadd, 1), (917, .iaload, 1), (918, .invokevirtual 100, 3), (921, .if_icmp .eq 1170, 3), (924, .iconst 0, 1), (925, .ireturn, 1)]
set_option maxRecDepth 20000 in
theorem lwk_18 : lw_ok code lwc_18 := by
  unfold lw_ok
  decide +kernel
set_option maxHeartbeats 4000000 in
theorem lc_18 {w : kx_W} {n : Nat} {xs : Nat → Int32} {G : Nat → List (Option Value) → List Value → kx_M → Prop} (B : lw_B code w n xs G) (i : Nat) : lw_C w n xs G i 883 := by
  intro hi M σ hC hM kk
  have F := B.1 lwc_18 lwk_18
  obtain ⟨M1, h1, hC1, hH1⟩ := pC_worth (xs (i + 1)) (xs (i + 2)) (xs (i + 3)) M σ hC
  obtain ⟨M2, h2, hM2, hL2⟩ := pM_worth (xs (i + 1)) (xs (i + 2)) (xs (i + 3)) M1 σ (IM_hi hH1 hM)
  have hC2 := IC_lo hL2 hC1
  refine x_aload_n F (i := 0) rfl rfl ?_
  refine lw_arg B lwk_18 (k := 1) (jn := 1) rfl rfl rfl rfl rfl rfl (by omega) ?_
  refine lw_arg B lwk_18 (k := 6) (jn := 2) rfl rfl rfl rfl rfl rfl (by omega) ?_
  refine lw_arg B lwk_18 (k := 11) (jn := 3) rfl rfl rfl rfl rfl rfl (by omega) ?_
  refine x_cV3i F (i := 16) rfl ml_LW_97 ok_KT_worth rfl (Nat.le_of_ble_eq_true rfl) (Nat.le_of_ble_eq_true rfl) (fun _ => t_KT_worth h1) ?_
  refine x_aload_n F (i := 17) rfl rfl ?_
  refine lw_arg B lwk_18 (k := 18) (jn := 1) rfl rfl rfl rfl rfl rfl (by omega) ?_
  refine lw_arg B lwk_18 (k := 23) (jn := 2) rfl rfl rfl rfl rfl rfl (by omega) ?_
  refine lw_arg B lwk_18 (k := 28) (jn := 3) rfl rfl rfl rfl rfl rfl (by omega) ?_
  refine x_cV3i F (i := 33) rfl ml_LW_100 ok_RM_worth rfl (Nat.le_of_ble_eq_true rfl) (Nat.le_of_ble_eq_true rfl) (fun _ => t_RM_worth h2) ?_
  exact x_icmp_eq F (i := 34) (tgt := 2091) rfl (by decide) (fun _ => kk _ _ hC2 hM2) (fun c => absurd rfl c)
def lwc_19 : List (Nat × Instr × Nat) := [(926, .aload_n 1, 1), (927, .aload_n 0, 1), (928, .iload_n 3, 1), (929, .iconst 1, 1), (930, .iadd, 1), (931, .iaload, 1), (932, .aload_n 0, 1), (933, .iload_n 3, 1), (934, .iconst 2, 1), (935, .iadd, 1), (936, .iaload, 1), (937, .invokevirtual 101, 3), (940, .aload_n 2, 1), (941, .aload_n 0, 1), (942, .iload_n 3, 1), (943, .iconst 1, 1), (944, .iadd, 1), (945, .iaload, 1), (946, .aload_n 0, 1), (947, .iload_n 3, 1), (948, .iconst 2, 1), (949, .iadd, 1), (950, .iaload, 1), (951, .invokevirtual 104, 3), (954, .if_icmp .eq 1137, 3), (957, .iconst 0, 1), (958, .ireturn, 1)]
set_option maxRecDepth 20000 in
theorem lwk_19 : lw_ok code lwc_19 := by
  unfold lw_ok
  decide +kernel
set_option maxHeartbeats 4000000 in
theorem lc_19 {w : kx_W} {n : Nat} {xs : Nat → Int32} {G : Nat → List (Option Value) → List Value → kx_M → Prop} (B : lw_B code w n xs G) (i : Nat) : lw_C w n xs G i 926 := by
  intro hi M σ hC hM kk
  have F := B.1 lwc_19 lwk_19
  obtain ⟨M1, h1, hC1, hH1⟩ := pC_copyRow (xs (i + 1)) (xs (i + 2)) M σ hC
  obtain ⟨M2, h2, hM2, hL2⟩ := pM_copyRow (xs (i + 1)) (xs (i + 2)) M1 σ (IM_hi hH1 hM)
  have hC2 := IC_lo hL2 hC1
  refine x_aload_n F (i := 0) rfl rfl ?_
  refine lw_arg B lwk_19 (k := 1) (jn := 1) rfl rfl rfl rfl rfl rfl (by omega) ?_
  refine lw_arg B lwk_19 (k := 6) (jn := 2) rfl rfl rfl rfl rfl rfl (by omega) ?_
  refine x_cV2i F (i := 11) rfl ml_LW_101 ok_KT_copyRow rfl (Nat.le_of_ble_eq_true rfl) (Nat.le_of_ble_eq_true rfl) (fun _ => t_KT_copyRow h1) ?_
  refine x_aload_n F (i := 12) rfl rfl ?_
  refine lw_arg B lwk_19 (k := 13) (jn := 1) rfl rfl rfl rfl rfl rfl (by omega) ?_
  refine lw_arg B lwk_19 (k := 18) (jn := 2) rfl rfl rfl rfl rfl rfl (by omega) ?_
  refine x_cV2i F (i := 23) rfl ml_LW_104 ok_RM_copyRow rfl (Nat.le_of_ble_eq_true rfl) (Nat.le_of_ble_eq_true rfl) (fun _ => t_RM_copyRow h2) ?_
  exact x_icmp_eq F (i := 24) (tgt := 2091) rfl (by decide) (fun _ => kk _ _ hC2 hM2) (fun c => absurd rfl c)
def lwc_20 : List (Nat × Instr × Nat) := [(959, .aload_n 1, 1), (960, .aload_n 0, 1), (961, .iload_n 3, 1), (962, .iconst 1, 1), (963, .iadd, 1), (964, .iaload, 1), (965, .invokevirtual 105, 3), (968, .aload_n 2, 1), (969, .aload_n 0, 1), (970, .iload_n 3, 1), (971, .iconst 1, 1), (972, .iadd, 1), (973, .iaload, 1), (974, .invokevirtual 108, 3), (977, .if_icmp .eq 1114, 3), (980, .iconst 0, 1), (981, .ireturn, 1)]
set_option maxRecDepth 20000 in
theorem lwk_20 : lw_ok code lwc_20 := by
  unfold lw_ok
  decide +kernel
set_option maxHeartbeats 4000000 in
theorem lc_20 {w : kx_W} {n : Nat} {xs : Nat → Int32} {G : Nat → List (Option Value) → List Value → kx_M → Prop} (B : lw_B code w n xs G) (i : Nat) : lw_C w n xs G i 959 := by
  intro hi M σ hC hM kk
  have F := B.1 lwc_20 lwk_20
  obtain ⟨M1, h1, hC1, hH1⟩ := pC_year (xs (i + 1)) M σ hC
  obtain ⟨M2, h2, hM2, hL2⟩ := pM_year (xs (i + 1)) M1 σ (IM_hi hH1 hM)
  have hC2 := IC_lo hL2 hC1
  refine x_aload_n F (i := 0) rfl rfl ?_
  refine lw_arg B lwk_20 (k := 1) (jn := 1) rfl rfl rfl rfl rfl rfl (by omega) ?_
  refine x_cV1i F (i := 6) rfl ml_LW_105 ok_KT_year rfl (Nat.le_of_ble_eq_true rfl) (Nat.le_of_ble_eq_true rfl) (fun _ => t_KT_year h1) ?_
  refine x_aload_n F (i := 7) rfl rfl ?_
  refine lw_arg B lwk_20 (k := 8) (jn := 1) rfl rfl rfl rfl rfl rfl (by omega) ?_
  refine x_cV1i F (i := 13) rfl ml_LW_108 ok_RM_year rfl (Nat.le_of_ble_eq_true rfl) (Nat.le_of_ble_eq_true rfl) (fun _ => t_RM_year h2) ?_
  exact x_icmp_eq F (i := 14) (tgt := 2091) rfl (by decide) (fun _ => kk _ _ hC2 hM2) (fun c => absurd rfl c)
def lwc_21 : List (Nat × Instr × Nat) := [(982, .aload_n 1, 1), (983, .aload_n 0, 1), (984, .iload_n 3, 1), (985, .iconst 1, 1), (986, .iadd, 1), (987, .iaload, 1), (988, .aload_n 0, 1), (989, .iload_n 3, 1), (990, .iconst 2, 1), (991, .iadd, 1), (992, .iaload, 1), (993, .invokevirtual 109, 3), (996, .aload_n 2, 1), (997, .aload_n 0, 1), (998, .iload_n 3, 1), (999, .iconst 1, 1), (1000, .iadd, 1), (1001, .iaload, 1), (1002, .aload_n 0, 1), (1003, .iload_n 3, 1), (1004, .iconst 2, 1), (1005, .iadd, 1), (1006, .iaload, 1), (1007, .invokevirtual 112, 3), (1010, .if_icmp .eq 1081, 3), (1013, .iconst 0, 1), (1014, .ireturn, 1)]
set_option maxRecDepth 20000 in
theorem lwk_21 : lw_ok code lwc_21 := by
  unfold lw_ok
  decide +kernel
set_option maxHeartbeats 4000000 in
theorem lc_21 {w : kx_W} {n : Nat} {xs : Nat → Int32} {G : Nat → List (Option Value) → List Value → kx_M → Prop} (B : lw_B code w n xs G) (i : Nat) : lw_C w n xs G i 982 := by
  intro hi M σ hC hM kk
  have F := B.1 lwc_21 lwk_21
  obtain ⟨M1, h1, hC1, hH1⟩ := pC_pull (xs (i + 1)) (xs (i + 2)) M σ hC
  obtain ⟨M2, h2, hM2, hL2⟩ := pM_pull (xs (i + 1)) (xs (i + 2)) M1 σ (IM_hi hH1 hM)
  have hC2 := IC_lo hL2 hC1
  refine x_aload_n F (i := 0) rfl rfl ?_
  refine lw_arg B lwk_21 (k := 1) (jn := 1) rfl rfl rfl rfl rfl rfl (by omega) ?_
  refine lw_arg B lwk_21 (k := 6) (jn := 2) rfl rfl rfl rfl rfl rfl (by omega) ?_
  refine x_cV2i F (i := 11) rfl ml_LW_109 ok_KT_pull rfl (Nat.le_of_ble_eq_true rfl) (Nat.le_of_ble_eq_true rfl) (fun _ => t_KT_pull h1) ?_
  refine x_aload_n F (i := 12) rfl rfl ?_
  refine lw_arg B lwk_21 (k := 13) (jn := 1) rfl rfl rfl rfl rfl rfl (by omega) ?_
  refine lw_arg B lwk_21 (k := 18) (jn := 2) rfl rfl rfl rfl rfl rfl (by omega) ?_
  refine x_cV2i F (i := 23) rfl ml_LW_112 ok_RM_pull rfl (Nat.le_of_ble_eq_true rfl) (Nat.le_of_ble_eq_true rfl) (fun _ => t_RM_pull h2) ?_
  exact x_icmp_eq F (i := 24) (tgt := 2091) rfl (by decide) (fun _ => kk _ _ hC2 hM2) (fun c => absurd rfl c)
def lwc_22 : List (Nat × Instr × Nat) := [(1015, .aload_n 1, 1), (1016, .aload_n 0, 1), (1017, .iload_n 3, 1), (1018, .iconst 1, 1), (1019, .iadd, 1), (1020, .iaload, 1), (1021, .aload_n 0, 1), (1022, .iload_n 3, 1), (1023, .iconst 2, 1), (1024, .iadd, 1), (1025, .iaload, 1), (1026, .invokevirtual 113, 3), (1029, .aload_n 2, 1), (1030, .aload_n 0, 1), (1031, .iload_n 3, 1), (1032, .iconst 1, 1), (1033, .iadd, 1), (1034, .iaload, 1), (1035, .aload_n 0, 1), (1036, .iload_n 3, 1), (1037, .iconst 2, 1), (1038, .iadd, 1), (1039, .iaload, 1), (1040, .invokevirtual 116, 3), (1043, .if_icmp .eq 1048, 3), (1046, .iconst 0, 1), (1047, .ireturn, 1)]
set_option maxRecDepth 20000 in
theorem lwk_22 : lw_ok code lwc_22 := by
  unfold lw_ok
  decide +kernel
set_option maxHeartbeats 4000000 in
theorem lc_22 {w : kx_W} {n : Nat} {xs : Nat → Int32} {G : Nat → List (Option Value) → List Value → kx_M → Prop} (B : lw_B code w n xs G) (i : Nat) : lw_C w n xs G i 1015 := by
  intro hi M σ hC hM kk
  have F := B.1 lwc_22 lwk_22
  obtain ⟨M1, h1, hC1, hH1⟩ := pC_moth (xs (i + 1)) (xs (i + 2)) M σ hC
  obtain ⟨M2, h2, hM2, hL2⟩ := pM_moth (xs (i + 1)) (xs (i + 2)) M1 σ (IM_hi hH1 hM)
  have hC2 := IC_lo hL2 hC1
  refine x_aload_n F (i := 0) rfl rfl ?_
  refine lw_arg B lwk_22 (k := 1) (jn := 1) rfl rfl rfl rfl rfl rfl (by omega) ?_
  refine lw_arg B lwk_22 (k := 6) (jn := 2) rfl rfl rfl rfl rfl rfl (by omega) ?_
  refine x_cV2i F (i := 11) rfl ml_LW_113 ok_KT_moth rfl (Nat.le_of_ble_eq_true rfl) (Nat.le_of_ble_eq_true rfl) (fun _ => t_KT_moth h1) ?_
  refine x_aload_n F (i := 12) rfl rfl ?_
  refine lw_arg B lwk_22 (k := 13) (jn := 1) rfl rfl rfl rfl rfl rfl (by omega) ?_
  refine lw_arg B lwk_22 (k := 18) (jn := 2) rfl rfl rfl rfl rfl rfl (by omega) ?_
  refine x_cV2i F (i := 23) rfl ml_LW_116 ok_RM_moth rfl (Nat.le_of_ble_eq_true rfl) (Nat.le_of_ble_eq_true rfl) (fun _ => t_RM_moth h2) ?_
  exact x_icmp_eq F (i := 24) (tgt := 2091) rfl (by decide) (fun _ => kk _ _ hC2 hM2) (fun c => absurd rfl c)
def lwc_23 : List (Nat × Instr × Nat) := [(1048, .aload_n 1, 1), (1049, .aload_n 0, 1), (1050, .iload_n 3, 1), (1051, .iconst 1, 1), (1052, .iadd, 1), (1053, .iaload, 1), (1054, .aload_n 0, 1), (1055, .iload_n 3, 1), (1056, .iconst 2, 1), (1057, .iadd, 1), (1058, .iaload, 1), (1059, .invokevirtual 117, 3), (1062, .aload_n 2, 1), (1063, .aload_n 0, 1), (1064, .iload_n 3, 1), (1065, .iconst 1, 1), (1066, .iadd, 1), (1067, .iaload, 1), (1068, .aload_n 0, 1), (1069, .iload_n 3, 1), (1070, .iconst 2, 1), (1071, .iadd, 1), (1072, .iaload, 1), (1073, .invokevirtual 120, 3), (1076, .if_icmp .eq 1015, 3), (1079, .iconst 0, 1), (1080, .ireturn, 1)]
set_option maxRecDepth 20000 in
theorem lwk_23 : lw_ok code lwc_23 := by
  unfold lw_ok
  decide +kernel
set_option maxHeartbeats 4000000 in
theorem lc_23 {w : kx_W} {n : Nat} {xs : Nat → Int32} {G : Nat → List (Option Value) → List Value → kx_M → Prop} (B : lw_B code w n xs G) (i : Nat) : lw_C w n xs G i 1048 := by
  intro hi M σ hC hM kk
  have F := B.1 lwc_23 lwk_23
  obtain ⟨M1, h1, hC1, hH1⟩ := pC_darn (xs (i + 1)) (xs (i + 2)) M σ hC
  obtain ⟨M2, h2, hM2, hL2⟩ := pM_darn (xs (i + 1)) (xs (i + 2)) M1 σ (IM_hi hH1 hM)
  have hC2 := IC_lo hL2 hC1
  refine x_aload_n F (i := 0) rfl rfl ?_
  refine lw_arg B lwk_23 (k := 1) (jn := 1) rfl rfl rfl rfl rfl rfl (by omega) ?_
  refine lw_arg B lwk_23 (k := 6) (jn := 2) rfl rfl rfl rfl rfl rfl (by omega) ?_
  refine x_cV2i F (i := 11) rfl ml_LW_117 ok_KT_darn rfl (Nat.le_of_ble_eq_true rfl) (Nat.le_of_ble_eq_true rfl) (fun _ => t_KT_darn h1) ?_
  refine x_aload_n F (i := 12) rfl rfl ?_
  refine lw_arg B lwk_23 (k := 13) (jn := 1) rfl rfl rfl rfl rfl rfl (by omega) ?_
  refine lw_arg B lwk_23 (k := 18) (jn := 2) rfl rfl rfl rfl rfl rfl (by omega) ?_
  refine x_cV2i F (i := 23) rfl ml_LW_120 ok_RM_darn rfl (Nat.le_of_ble_eq_true rfl) (Nat.le_of_ble_eq_true rfl) (fun _ => t_RM_darn h2) ?_
  exact x_icmp_eq F (i := 24) (tgt := 2091) rfl (by decide) (fun _ => kk _ _ hC2 hM2) (fun c => absurd rfl c)
def lwc_24 : List (Nat × Instr × Nat) := [(1081, .aload_n 1, 1), (1082, .aload_n 0, 1), (1083, .iload_n 3, 1), (1084, .iconst 1, 1), (1085, .iadd, 1), (1086, .iaload, 1), (1087, .aload_n 0, 1), (1088, .iload_n 3, 1), (1089, .iconst 2, 1), (1090, .iadd, 1), (1091, .iaload, 1), (1092, .invokevirtual 121, 3), (1095, .aload_n 2, 1), (1096, .aload_n 0, 1), (1097, .iload_n 3, 1), (1098, .iconst 1, 1), (1099, .iadd, 1), (1100, .iaload, 1), (1101, .aload_n 0, 1), (1102, .iload_n 3, 1), (1103, .iconst 2, 1), (1104, .iadd, 1), (1105, .iaload, 1), (1106, .invokevirtual 124, 3), (1109, .if_icmp .eq 982, 3), (1112, .iconst 0, 1), (1113, .ireturn, 1)]
set_option maxRecDepth 20000 in
theorem lwk_24 : lw_ok code lwc_24 := by
  unfold lw_ok
  decide +kernel
set_option maxHeartbeats 4000000 in
theorem lc_24 {w : kx_W} {n : Nat} {xs : Nat → Int32} {G : Nat → List (Option Value) → List Value → kx_M → Prop} (B : lw_B code w n xs G) (i : Nat) : lw_C w n xs G i 1081 := by
  intro hi M σ hC hM kk
  have F := B.1 lwc_24 lwk_24
  obtain ⟨M1, h1, hC1, hH1⟩ := pC_knit (xs (i + 1)) (xs (i + 2)) M σ hC
  obtain ⟨M2, h2, hM2, hL2⟩ := pM_knit (xs (i + 1)) (xs (i + 2)) M1 σ (IM_hi hH1 hM)
  have hC2 := IC_lo hL2 hC1
  refine x_aload_n F (i := 0) rfl rfl ?_
  refine lw_arg B lwk_24 (k := 1) (jn := 1) rfl rfl rfl rfl rfl rfl (by omega) ?_
  refine lw_arg B lwk_24 (k := 6) (jn := 2) rfl rfl rfl rfl rfl rfl (by omega) ?_
  refine x_cV2i F (i := 11) rfl ml_LW_121 ok_KT_knit rfl (Nat.le_of_ble_eq_true rfl) (Nat.le_of_ble_eq_true rfl) (fun _ => t_KT_knit h1) ?_
  refine x_aload_n F (i := 12) rfl rfl ?_
  refine lw_arg B lwk_24 (k := 13) (jn := 1) rfl rfl rfl rfl rfl rfl (by omega) ?_
  refine lw_arg B lwk_24 (k := 18) (jn := 2) rfl rfl rfl rfl rfl rfl (by omega) ?_
  refine x_cV2i F (i := 23) rfl ml_LW_124 ok_RM_knit rfl (Nat.le_of_ble_eq_true rfl) (Nat.le_of_ble_eq_true rfl) (fun _ => t_RM_knit h2) ?_
  exact x_icmp_eq F (i := 24) (tgt := 2091) rfl (by decide) (fun _ => kk _ _ hC2 hM2) (fun c => absurd rfl c)
def lwc_25 : List (Nat × Instr × Nat) := [(1114, .aload_n 1, 1), (1115, .invokevirtual 125, 3), (1118, .aload_n 2, 1), (1119, .invokevirtual 128, 3), (1122, .if_icmp .eq 969, 3), (1125, .iconst 0, 1), (1126, .ireturn, 1)]
set_option maxRecDepth 20000 in
theorem lwk_25 : lw_ok code lwc_25 := by
  unfold lw_ok
  decide +kernel
set_option maxHeartbeats 4000000 in
theorem lc_25 {w : kx_W} {n : Nat} {xs : Nat → Int32} {G : Nat → List (Option Value) → List Value → kx_M → Prop} (B : lw_B code w n xs G) (i : Nat) : lw_C w n xs G i 1114 := by
  intro hi M σ hC hM kk
  have F := B.1 lwc_25 lwk_25
  obtain ⟨M1, h1, hC1, hH1⟩ := pC_unravel  M σ hC
  obtain ⟨M2, h2, hM2, hL2⟩ := pM_unravel  M1 σ (IM_hi hH1 hM)
  have hC2 := IC_lo hL2 hC1
  refine x_aload_n F (i := 0) rfl rfl ?_
  refine x_cV0i F (i := 1) rfl ml_LW_125 ok_KT_unravel rfl (Nat.le_of_ble_eq_true rfl) (Nat.le_of_ble_eq_true rfl) (fun _ => t_KT_unravel h1) ?_
  refine x_aload_n F (i := 2) rfl rfl ?_
  refine x_cV0i F (i := 3) rfl ml_LW_128 ok_RM_unravel rfl (Nat.le_of_ble_eq_true rfl) (Nat.le_of_ble_eq_true rfl) (fun _ => t_RM_unravel h2) ?_
  exact x_icmp_eq F (i := 4) (tgt := 2091) rfl (by decide) (fun _ => kk _ _ hC2 hM2) (fun c => absurd rfl c)
def lwc_26 : List (Nat × Instr × Nat) := [(1127, .aload_n 1, 1), (1128, .aload_n 0, 1), (1129, .iload_n 3, 1), (1130, .iconst 1, 1), (1131, .iadd, 1), (1132, .iaload, 1), (1133, .aload_n 0, 1), (1134, .iload_n 3, 1), (1135, .iconst 2, 1), (1136, .iadd, 1), (1137, .iaload, 1), (1138, .invokevirtual 129, 3), (1141, .aload_n 2, 1), (1142, .aload_n 0, 1), (1143, .iload_n 3, 1), (1144, .iconst 1, 1), (1145, .iadd, 1), (1146, .iaload, 1), (1147, .aload_n 0, 1), (1148, .iload_n 3, 1), (1149, .iconst 2, 1), (1150, .iadd, 1), (1151, .iaload, 1), (1152, .invokevirtual 132, 3), (1155, .if_icmp .eq 936, 3), (1158, .iconst 0, 1), (1159, .ireturn, 1)]
set_option maxRecDepth 20000 in
theorem lwk_26 : lw_ok code lwc_26 := by
  unfold lw_ok
  decide +kernel
set_option maxHeartbeats 4000000 in
theorem lc_26 {w : kx_W} {n : Nat} {xs : Nat → Int32} {G : Nat → List (Option Value) → List Value → kx_M → Prop} (B : lw_B code w n xs G) (i : Nat) : lw_C w n xs G i 1127 := by
  intro hi M σ hC hM kk
  have F := B.1 lwc_26 lwk_26
  obtain ⟨M1, h1, hC1, hH1⟩ := pC_shear (xs (i + 1)) (xs (i + 2)) M σ hC
  obtain ⟨M2, h2, hM2, hL2⟩ := pM_shear (xs (i + 1)) (xs (i + 2)) M1 σ (IM_hi hH1 hM)
  have hC2 := IC_lo hL2 hC1
  refine x_aload_n F (i := 0) rfl rfl ?_
  refine lw_arg B lwk_26 (k := 1) (jn := 1) rfl rfl rfl rfl rfl rfl (by omega) ?_
  refine lw_arg B lwk_26 (k := 6) (jn := 2) rfl rfl rfl rfl rfl rfl (by omega) ?_
  refine x_cV2i F (i := 11) rfl ml_LW_129 ok_KT_shear rfl (Nat.le_of_ble_eq_true rfl) (Nat.le_of_ble_eq_true rfl) (fun _ => t_KT_shear h1) ?_
  refine x_aload_n F (i := 12) rfl rfl ?_
  refine lw_arg B lwk_26 (k := 13) (jn := 1) rfl rfl rfl rfl rfl rfl (by omega) ?_
  refine lw_arg B lwk_26 (k := 18) (jn := 2) rfl rfl rfl rfl rfl rfl (by omega) ?_
  refine x_cV2i F (i := 23) rfl ml_LW_132 ok_RM_shear rfl (Nat.le_of_ble_eq_true rfl) (Nat.le_of_ble_eq_true rfl) (fun _ => t_RM_shear h2) ?_
  exact x_icmp_eq F (i := 24) (tgt := 2091) rfl (by decide) (fun _ => kk _ _ hC2 hM2) (fun c => absurd rfl c)
def lwc_27 : List (Nat × Instr × Nat) := [(1160, .aload_n 1, 1), (1161, .aload_n 0, 1), (1162, .iload_n 3, 1), (1163, .iconst 1, 1), (1164, .iadd, 1), (1165, .iaload, 1), (1166, .invokevirtual 133, 3), (1169, .aload_n 2, 1), (1170, .aload_n 0, 1), (1171, .iload_n 3, 1), (1172, .iconst 1, 1), (1173, .iadd, 1), (1174, .iaload, 1), (1175, .invokevirtual 137, 3), (1178, .if_icmp .eq 913, 3), (1181, .iconst 0, 1), (1182, .ireturn, 1)]
set_option maxRecDepth 20000 in
theorem lwk_27 : lw_ok code lwc_27 := by
  unfold lw_ok
  decide +kernel
set_option maxHeartbeats 4000000 in
theorem lc_27 {w : kx_W} {n : Nat} {xs : Nat → Int32} {G : Nat → List (Option Value) → List Value → kx_M → Prop} (B : lw_B code w n xs G) (i : Nat) : lw_C w n xs G i 1160 := by
  intro hi M σ hC hM kk
  have F := B.1 lwc_27 lwk_27
  obtain ⟨M1, h1, hC1, hH1⟩ := pC_rule (xs (i + 1)) M σ hC
  obtain ⟨M2, h2, hM2, hL2⟩ := pM_rule (xs (i + 1)) M1 σ (IM_hi hH1 hM)
  have hC2 := IC_lo hL2 hC1
  refine x_aload_n F (i := 0) rfl rfl ?_
  refine lw_arg B lwk_27 (k := 1) (jn := 1) rfl rfl rfl rfl rfl rfl (by omega) ?_
  refine x_cV1i F (i := 6) rfl ml_LW_133 ok_KT_rule rfl (Nat.le_of_ble_eq_true rfl) (Nat.le_of_ble_eq_true rfl) (fun _ => t_KT_rule h1) ?_
  refine x_aload_n F (i := 7) rfl rfl ?_
  refine lw_arg B lwk_27 (k := 8) (jn := 1) rfl rfl rfl rfl rfl rfl (by omega) ?_
  refine x_cV1i F (i := 13) rfl ml_LW_137 ok_RM_rule rfl (Nat.le_of_ble_eq_true rfl) (Nat.le_of_ble_eq_true rfl) (fun _ => t_RM_rule h2) ?_
  exact x_icmp_eq F (i := 14) (tgt := 2091) rfl (by decide) (fun _ => kk _ _ hC2 hM2) (fun c => absurd rfl c)
def lwc_28 : List (Nat × Instr × Nat) := [(1183, .aload_n 1, 1), (1184, .aload_n 0, 1), (1185, .iload_n 3, 1), (1186, .iconst 1, 1), (1187, .iadd, 1), (1188, .iaload, 1), (1189, .aload_n 0, 1), (1190, .iload_n 3, 1), (1191, .iconst 2, 1), (1192, .iadd, 1), (1193, .iaload, 1), (1194, .aload_n 0, 1), (1195, .iload_n 3, 1), (1196, .iconst 3, 1), (1197, .iadd, 1), (1198, .iaload, 1), (1199, .ifCond .eq 7, 3), (1202, .iconst 1, 1), (1203, .goto 4, 3), (1206, .iconst 0, 1), (1207, .invokevirtual 138, 3), (1210, .aload_n 2, 1), (1211, .aload_n 0, 1), (1212, .iload_n 3, 1), (1213, .iconst 1, 1), (1214, .iadd, 1), (1215, .iaload, 1), (1216, .aload_n 0, 1), (1217, .iload_n 3, 1), (1218, .iconst 2, 1), (1219, .iadd, 1), (1220, .iaload, 1), (1221, .aload_n 0, 1), (1222, .iload_n 3, 1), (1223, .iconst 3, 1), (1224, .iadd, 1), (1225, .iaload, 1), (1226, .ifCond .eq 7, 3), (1229, .iconst 1, 1), (1230, .goto 4, 3), (1233, .iconst 0, 1), (1234, .invokevirtual 142, 3), (1237, .if_icmp .eq 854, 3), (1240, .iconst 0, 1), (1241, .ireturn, 1)]
set_option maxRecDepth 20000 in
theorem lwk_28 : lw_ok code lwc_28 := by
  unfold lw_ok
  decide +kernel
set_option maxHeartbeats 4000000 in
theorem lc_28 {w : kx_W} {n : Nat} {xs : Nat → Int32} {G : Nat → List (Option Value) → List Value → kx_M → Prop} (B : lw_B code w n xs G) (i : Nat) : lw_C w n xs G i 1183 := by
  intro hi M σ hC hM kk
  have F := B.1 lwc_28 lwk_28
  by_cases hb : xs (i + 3) = 0
  · obtain ⟨M1, h1, hC1, hH1⟩ := pC_quarrel (xs (i + 1)) (xs (i + 2)) false M σ hC
    obtain ⟨M2, h2, hM2, hL2⟩ := pM_quarrel (xs (i + 1)) (xs (i + 2)) false M1 σ (IM_hi hH1 hM)
    have hC2 := IC_lo hL2 hC1
    refine x_aload_n F (i := 0) rfl rfl ?_
    refine lw_arg B lwk_28 (k := 1) (jn := 1) rfl rfl rfl rfl rfl rfl (by omega) ?_
    refine lw_arg B lwk_28 (k := 6) (jn := 2) rfl rfl rfl rfl rfl rfl (by omega) ?_
    refine lw_arg B lwk_28 (k := 11) (jn := 3) rfl rfl rfl rfl rfl rfl (by omega) ?_
    refine x_if_eq F (i := 16) (tgt := 1206) rfl (by decide) (fun _ => ?_) (fun c => absurd hb c)
    refine x_iconst F (i := 19) (v := 0) rfl (by decide) ?_
    refine x_cV3i F (i := 20) rfl ml_LW_138 ok_KT_quarrel rfl (Nat.le_of_ble_eq_true rfl) (Nat.le_of_ble_eq_true rfl) (fun _ => t_KT_quarrel h1) ?_
    refine x_aload_n F (i := 21) rfl rfl ?_
    refine lw_arg B lwk_28 (k := 22) (jn := 1) rfl rfl rfl rfl rfl rfl (by omega) ?_
    refine lw_arg B lwk_28 (k := 27) (jn := 2) rfl rfl rfl rfl rfl rfl (by omega) ?_
    refine lw_arg B lwk_28 (k := 32) (jn := 3) rfl rfl rfl rfl rfl rfl (by omega) ?_
    refine x_if_eq F (i := 37) (tgt := 1233) rfl (by decide) (fun _ => ?_) (fun c => absurd hb c)
    refine x_iconst F (i := 40) (v := 0) rfl (by decide) ?_
    refine x_cV3i F (i := 41) rfl ml_LW_142 ok_RM_quarrel rfl (Nat.le_of_ble_eq_true rfl) (Nat.le_of_ble_eq_true rfl) (fun _ => t_RM_quarrel h2) ?_
    exact x_icmp_eq F (i := 42) (tgt := 2091) rfl (by decide) (fun _ => kk _ _ hC2 hM2) (fun c => absurd rfl c)
  · obtain ⟨M1, h1, hC1, hH1⟩ := pC_quarrel (xs (i + 1)) (xs (i + 2)) true M σ hC
    obtain ⟨M2, h2, hM2, hL2⟩ := pM_quarrel (xs (i + 1)) (xs (i + 2)) true M1 σ (IM_hi hH1 hM)
    have hC2 := IC_lo hL2 hC1
    refine x_aload_n F (i := 0) rfl rfl ?_
    refine lw_arg B lwk_28 (k := 1) (jn := 1) rfl rfl rfl rfl rfl rfl (by omega) ?_
    refine lw_arg B lwk_28 (k := 6) (jn := 2) rfl rfl rfl rfl rfl rfl (by omega) ?_
    refine lw_arg B lwk_28 (k := 11) (jn := 3) rfl rfl rfl rfl rfl rfl (by omega) ?_
    refine x_if_eq F (i := 16) (tgt := 1206) rfl (by decide) (fun c => absurd c hb) (fun _ => ?_)
    refine x_iconst F (i := 17) (v := 1) rfl (by decide) ?_
    refine x_goto F (i := 18) (tgt := 1207) rfl (by decide) ?_
    refine x_cV3i F (i := 20) rfl ml_LW_138 ok_KT_quarrel rfl (Nat.le_of_ble_eq_true rfl) (Nat.le_of_ble_eq_true rfl) (fun _ => t_KT_quarrel h1) ?_
    refine x_aload_n F (i := 21) rfl rfl ?_
    refine lw_arg B lwk_28 (k := 22) (jn := 1) rfl rfl rfl rfl rfl rfl (by omega) ?_
    refine lw_arg B lwk_28 (k := 27) (jn := 2) rfl rfl rfl rfl rfl rfl (by omega) ?_
    refine lw_arg B lwk_28 (k := 32) (jn := 3) rfl rfl rfl rfl rfl rfl (by omega) ?_
    refine x_if_eq F (i := 37) (tgt := 1233) rfl (by decide) (fun c => absurd c hb) (fun _ => ?_)
    refine x_iconst F (i := 38) (v := 1) rfl (by decide) ?_
    refine x_goto F (i := 39) (tgt := 1234) rfl (by decide) ?_
    refine x_cV3i F (i := 41) rfl ml_LW_142 ok_RM_quarrel rfl (Nat.le_of_ble_eq_true rfl) (Nat.le_of_ble_eq_true rfl) (fun _ => t_RM_quarrel h2) ?_
    exact x_icmp_eq F (i := 42) (tgt := 2091) rfl (by decide) (fun _ => kk _ _ hC2 hM2) (fun c => absurd rfl c)
def lwc_29 : List (Nat × Instr × Nat) := [(1242, .aload_n 1, 1), (1243, .aload_n 0, 1), (1244, .iload_n 3, 1), (1245, .iconst 1, 1), (1246, .iadd, 1), (1247, .iaload, 1), (1248, .aload_n 0, 1), (1249, .iload_n 3, 1), (1250, .iconst 2, 1), (1251, .iadd, 1), (1252, .iaload, 1), (1253, .aload_n 0, 1), (1254, .iload_n 3, 1), (1255, .iconst 3, 1), (1256, .iadd, 1), (1257, .iaload, 1), (1258, .aload_n 0, 1), (1259, .iload_n 3, 1), (1260, .iconst 4, 1), (1261, .iadd, 1), (1262, .iaload, 1), (1263, .invokevirtual 143, 3), (1266, .aload_n 2, 1), (1267, .aload_n 0, 1), (1268, .iload_n 3, 1), (1269, .iconst 1, 1), (1270, .iadd, 1), (1271, .iaload, 1), (1272, .aload_n 0, 1), (1273, .iload_n 3, 1), (1274, .iconst 2, 1), (1275, .iadd, 1), (1276, .iaload, 1), (1277, .aload_n 0, 1), (1278, .iload_n 3, 1), (1279, .iconst 3, 1), (1280, .iadd, 1), (1281, .iaload, 1), (1282, .aload_n 0, 1), (1283, .iload_n 3, 1), (1284, .iconst 4, 1), (1285, .iadd, 1), (1286, .iaload, 1), (1287, .invokevirtual 147, 3), (1290, .if_icmp .eq 801, 3), (1293, .iconst 0, 1), (1294, .ireturn, 1)]
set_option maxRecDepth 20000 in
theorem lwk_29 : lw_ok code lwc_29 := by
  unfold lw_ok
  decide +kernel
set_option maxHeartbeats 4000000 in
theorem lc_29 {w : kx_W} {n : Nat} {xs : Nat → Int32} {G : Nat → List (Option Value) → List Value → kx_M → Prop} (B : lw_B code w n xs G) (i : Nat) : lw_C w n xs G i 1242 := by
  intro hi M σ hC hM kk
  have F := B.1 lwc_29 lwk_29
  obtain ⟨M1, h1, hC1, hH1⟩ := pC_value (xs (i + 1)) (xs (i + 2)) (xs (i + 3)) (xs (i + 4)) M σ hC
  obtain ⟨M2, h2, hM2, hL2⟩ := pM_value (xs (i + 1)) (xs (i + 2)) (xs (i + 3)) (xs (i + 4)) M1 σ (IM_hi hH1 hM)
  have hC2 := IC_lo hL2 hC1
  refine x_aload_n F (i := 0) rfl rfl ?_
  refine lw_arg B lwk_29 (k := 1) (jn := 1) rfl rfl rfl rfl rfl rfl (by omega) ?_
  refine lw_arg B lwk_29 (k := 6) (jn := 2) rfl rfl rfl rfl rfl rfl (by omega) ?_
  refine lw_arg B lwk_29 (k := 11) (jn := 3) rfl rfl rfl rfl rfl rfl (by omega) ?_
  refine lw_arg B lwk_29 (k := 16) (jn := 4) rfl rfl rfl rfl rfl rfl (by omega) ?_
  refine x_cV4i F (i := 21) rfl ml_LW_143 ok_KT_value rfl (Nat.le_of_ble_eq_true rfl) (Nat.le_of_ble_eq_true rfl) (fun _ => t_KT_value h1) ?_
  refine x_aload_n F (i := 22) rfl rfl ?_
  refine lw_arg B lwk_29 (k := 23) (jn := 1) rfl rfl rfl rfl rfl rfl (by omega) ?_
  refine lw_arg B lwk_29 (k := 28) (jn := 2) rfl rfl rfl rfl rfl rfl (by omega) ?_
  refine lw_arg B lwk_29 (k := 33) (jn := 3) rfl rfl rfl rfl rfl rfl (by omega) ?_
  refine lw_arg B lwk_29 (k := 38) (jn := 4) rfl rfl rfl rfl rfl rfl (by omega) ?_
  refine x_cV4i F (i := 43) rfl ml_LW_147 ok_RM_value rfl (Nat.le_of_ble_eq_true rfl) (Nat.le_of_ble_eq_true rfl) (fun _ => t_RM_value h2) ?_
  exact x_icmp_eq F (i := 44) (tgt := 2091) rfl (by decide) (fun _ => kk _ _ hC2 hM2) (fun c => absurd rfl c)
def lwc_30 : List (Nat × Instr × Nat) := [(1295, .aload_n 1, 1), (1296, .aload_n 0, 1), (1297, .iload_n 3, 1), (1298, .iconst 1, 1), (1299, .iadd, 1), (1300, .iaload, 1), (1301, .aload_n 0, 1), (1302, .iload_n 3, 1), (1303, .iconst 2, 1), (1304, .iadd, 1), (1305, .iaload, 1), (1306, .invokevirtual 148, 3), (1309, .aload_n 2, 1), (1310, .aload_n 0, 1), (1311, .iload_n 3, 1), (1312, .iconst 1, 1), (1313, .iadd, 1), (1314, .iaload, 1), (1315, .aload_n 0, 1), (1316, .iload_n 3, 1), (1317, .iconst 2, 1), (1318, .iadd, 1), (1319, .iaload, 1), (1320, .invokevirtual 151, 3), (1323, .if_icmp .eq 768, 3), (1326, .iconst 0, 1), (1327, .ireturn, 1)]
set_option maxRecDepth 20000 in
theorem lwk_30 : lw_ok code lwc_30 := by
  unfold lw_ok
  decide +kernel
set_option maxHeartbeats 4000000 in
theorem lc_30 {w : kx_W} {n : Nat} {xs : Nat → Int32} {G : Nat → List (Option Value) → List Value → kx_M → Prop} (B : lw_B code w n xs G) (i : Nat) : lw_C w n xs G i 1295 := by
  intro hi M σ hC hM kk
  have F := B.1 lwc_30 lwk_30
  obtain ⟨M1, h1, hC1, hH1⟩ := pC_saidIn (xs (i + 1)) (xs (i + 2)) M σ hC
  obtain ⟨M2, h2, hM2, hL2⟩ := pM_saidIn (xs (i + 1)) (xs (i + 2)) M1 σ (IM_hi hH1 hM)
  have hC2 := IC_lo hL2 hC1
  refine x_aload_n F (i := 0) rfl rfl ?_
  refine lw_arg B lwk_30 (k := 1) (jn := 1) rfl rfl rfl rfl rfl rfl (by omega) ?_
  refine lw_arg B lwk_30 (k := 6) (jn := 2) rfl rfl rfl rfl rfl rfl (by omega) ?_
  refine x_cV2i F (i := 11) rfl ml_LW_148 ok_KT_saidIn rfl (Nat.le_of_ble_eq_true rfl) (Nat.le_of_ble_eq_true rfl) (fun _ => t_KT_saidIn h1) ?_
  refine x_aload_n F (i := 12) rfl rfl ?_
  refine lw_arg B lwk_30 (k := 13) (jn := 1) rfl rfl rfl rfl rfl rfl (by omega) ?_
  refine lw_arg B lwk_30 (k := 18) (jn := 2) rfl rfl rfl rfl rfl rfl (by omega) ?_
  refine x_cV2i F (i := 23) rfl ml_LW_151 ok_RM_saidIn rfl (Nat.le_of_ble_eq_true rfl) (Nat.le_of_ble_eq_true rfl) (fun _ => t_RM_saidIn h2) ?_
  exact x_icmp_eq F (i := 24) (tgt := 2091) rfl (by decide) (fun _ => kk _ _ hC2 hM2) (fun c => absurd rfl c)
def lwc_31 : List (Nat × Instr × Nat) := [(1328, .aload_n 1, 1), (1329, .aload_n 0, 1), (1330, .iload_n 3, 1), (1331, .iconst 1, 1), (1332, .iadd, 1), (1333, .iaload, 1), (1334, .invokevirtual 152, 3), (1337, .aload_n 2, 1), (1338, .aload_n 0, 1), (1339, .iload_n 3, 1), (1340, .iconst 1, 1), (1341, .iadd, 1), (1342, .iaload, 1), (1343, .invokevirtual 155, 3), (1346, .if_icmp .eq 745, 3), (1349, .iconst 0, 1), (1350, .ireturn, 1)]
set_option maxRecDepth 20000 in
theorem lwk_31 : lw_ok code lwc_31 := by
  unfold lw_ok
  decide +kernel
set_option maxHeartbeats 4000000 in
theorem lc_31 {w : kx_W} {n : Nat} {xs : Nat → Int32} {G : Nat → List (Option Value) → List Value → kx_M → Prop} (B : lw_B code w n xs G) (i : Nat) : lw_C w n xs G i 1328 := by
  intro hi M σ hC hM kk
  have F := B.1 lwc_31 lwk_31
  obtain ⟨M1, h1, hC1, hH1⟩ := pC_said (xs (i + 1)) M σ hC
  obtain ⟨M2, h2, hM2, hL2⟩ := pM_said (xs (i + 1)) M1 σ (IM_hi hH1 hM)
  have hC2 := IC_lo hL2 hC1
  refine x_aload_n F (i := 0) rfl rfl ?_
  refine lw_arg B lwk_31 (k := 1) (jn := 1) rfl rfl rfl rfl rfl rfl (by omega) ?_
  refine x_cV1i F (i := 6) rfl ml_LW_152 ok_KT_said rfl (Nat.le_of_ble_eq_true rfl) (Nat.le_of_ble_eq_true rfl) (fun _ => t_KT_said h1) ?_
  refine x_aload_n F (i := 7) rfl rfl ?_
  refine lw_arg B lwk_31 (k := 8) (jn := 1) rfl rfl rfl rfl rfl rfl (by omega) ?_
  refine x_cV1i F (i := 13) rfl ml_LW_155 ok_RM_said rfl (Nat.le_of_ble_eq_true rfl) (Nat.le_of_ble_eq_true rfl) (fun _ => t_RM_said h2) ?_
  exact x_icmp_eq F (i := 14) (tgt := 2091) rfl (by decide) (fun _ => kk _ _ hC2 hM2) (fun c => absurd rfl c)
def lwc_32 : List (Nat × Instr × Nat) := [(1351, .aload_n 1, 1), (1352, .aload_n 0, 1), (1353, .iload_n 3, 1), (1354, .iconst 1, 1), (1355, .iadd, 1), (1356, .iaload, 1), (1357, .invokevirtual 156, 3), (1360, .aload_n 2, 1), (1361, .aload_n 0, 1), (1362, .iload_n 3, 1), (1363, .iconst 1, 1), (1364, .iadd, 1), (1365, .iaload, 1), (1366, .invokevirtual 159, 3), (1369, .if_icmp .eq 722, 3), (1372, .iconst 0, 1), (1373, .ireturn, 1)]
set_option maxRecDepth 20000 in
theorem lwk_32 : lw_ok code lwc_32 := by
  unfold lw_ok
  decide +kernel
set_option maxHeartbeats 4000000 in
theorem lc_32 {w : kx_W} {n : Nat} {xs : Nat → Int32} {G : Nat → List (Option Value) → List Value → kx_M → Prop} (B : lw_B code w n xs G) (i : Nat) : lw_C w n xs G i 1351 := by
  intro hi M σ hC hM kk
  have F := B.1 lwc_32 lwk_32
  obtain ⟨M1, h1, hC1, hH1⟩ := pC_firstSaid (xs (i + 1)) M σ hC
  obtain ⟨M2, h2, hM2, hL2⟩ := pM_firstSaid (xs (i + 1)) M1 σ (IM_hi hH1 hM)
  have hC2 := IC_lo hL2 hC1
  refine x_aload_n F (i := 0) rfl rfl ?_
  refine lw_arg B lwk_32 (k := 1) (jn := 1) rfl rfl rfl rfl rfl rfl (by omega) ?_
  refine x_cV1i F (i := 6) rfl ml_LW_156 ok_KT_firstSaid rfl (Nat.le_of_ble_eq_true rfl) (Nat.le_of_ble_eq_true rfl) (fun _ => t_KT_firstSaid h1) ?_
  refine x_aload_n F (i := 7) rfl rfl ?_
  refine lw_arg B lwk_32 (k := 8) (jn := 1) rfl rfl rfl rfl rfl rfl (by omega) ?_
  refine x_cV1i F (i := 13) rfl ml_LW_159 ok_RM_firstSaid rfl (Nat.le_of_ble_eq_true rfl) (Nat.le_of_ble_eq_true rfl) (fun _ => t_RM_firstSaid h2) ?_
  exact x_icmp_eq F (i := 14) (tgt := 2091) rfl (by decide) (fun _ => kk _ _ hC2 hM2) (fun c => absurd rfl c)
def lwc_33 : List (Nat × Instr × Nat) := [(1374, .aload_n 1, 1), (1375, .aload_n 0, 1), (1376, .iload_n 3, 1), (1377, .iconst 1, 1), (1378, .iadd, 1), (1379, .iaload, 1), (1380, .invokevirtual 160, 3), (1383, .aload_n 2, 1), (1384, .aload_n 0, 1), (1385, .iload_n 3, 1), (1386, .iconst 1, 1), (1387, .iadd, 1), (1388, .iaload, 1), (1389, .invokevirtual 163, 3), (1392, .if_icmp .eq 699, 3), (1395, .iconst 0, 1), (1396, .ireturn, 1)]
set_option maxRecDepth 20000 in
theorem lwk_33 : lw_ok code lwc_33 := by
  unfold lw_ok
  decide +kernel
set_option maxHeartbeats 4000000 in
theorem lc_33 {w : kx_W} {n : Nat} {xs : Nat → Int32} {G : Nat → List (Option Value) → List Value → kx_M → Prop} (B : lw_B code w n xs G) (i : Nat) : lw_C w n xs G i 1374 := by
  intro hi M σ hC hM kk
  have F := B.1 lwc_33 lwk_33
  obtain ⟨M1, h1, hC1, hH1⟩ := pC_binds (xs (i + 1)) M σ hC
  obtain ⟨M2, h2, hM2, hL2⟩ := pM_binds (xs (i + 1)) M1 σ (IM_hi hH1 hM)
  have hC2 := IC_lo hL2 hC1
  refine x_aload_n F (i := 0) rfl rfl ?_
  refine lw_arg B lwk_33 (k := 1) (jn := 1) rfl rfl rfl rfl rfl rfl (by omega) ?_
  refine x_cV1i F (i := 6) rfl ml_LW_160 ok_KT_binds rfl (Nat.le_of_ble_eq_true rfl) (Nat.le_of_ble_eq_true rfl) (fun _ => t_KT_binds h1) ?_
  refine x_aload_n F (i := 7) rfl rfl ?_
  refine lw_arg B lwk_33 (k := 8) (jn := 1) rfl rfl rfl rfl rfl rfl (by omega) ?_
  refine x_cV1i F (i := 13) rfl ml_LW_163 ok_RM_binds rfl (Nat.le_of_ble_eq_true rfl) (Nat.le_of_ble_eq_true rfl) (fun _ => t_RM_binds h2) ?_
  exact x_icmp_eq F (i := 14) (tgt := 2091) rfl (by decide) (fun _ => kk _ _ hC2 hM2) (fun c => absurd rfl c)
def lwc_34 : List (Nat × Instr × Nat) := [(1397, .aload_n 1, 1), (1398, .aload_n 0, 1), (1399, .iload_n 3, 1), (1400, .iconst 1, 1), (1401, .iadd, 1), (1402, .iaload, 1), (1403, .invokevirtual 164, 3), (1406, .aload_n 2, 1), (1407, .aload_n 0, 1), (1408, .iload_n 3, 1), (1409, .iconst 1, 1), (1410, .iadd, 1), (1411, .iaload, 1), (1412, .invokevirtual 167, 3), (1415, .if_icmp .eq 676, 3), (1418, .iconst 0, 1), (1419, .ireturn, 1)]
set_option maxRecDepth 20000 in
theorem lwk_34 : lw_ok code lwc_34 := by
  unfold lw_ok
  decide +kernel
set_option maxHeartbeats 4000000 in
theorem lc_34 {w : kx_W} {n : Nat} {xs : Nat → Int32} {G : Nat → List (Option Value) → List Value → kx_M → Prop} (B : lw_B code w n xs G) (i : Nat) : lw_C w n xs G i 1397 := by
  intro hi M σ hC hM kk
  have F := B.1 lwc_34 lwk_34
  obtain ⟨M1, h1, hC1, hH1⟩ := pC_boundBy (xs (i + 1)) M σ hC
  obtain ⟨M2, h2, hM2, hL2⟩ := pM_boundBy (xs (i + 1)) M1 σ (IM_hi hH1 hM)
  have hC2 := IC_lo hL2 hC1
  refine x_aload_n F (i := 0) rfl rfl ?_
  refine lw_arg B lwk_34 (k := 1) (jn := 1) rfl rfl rfl rfl rfl rfl (by omega) ?_
  refine x_cV1i F (i := 6) rfl ml_LW_164 ok_KT_boundBy rfl (Nat.le_of_ble_eq_true rfl) (Nat.le_of_ble_eq_true rfl) (fun _ => t_KT_boundBy h1) ?_
  refine x_aload_n F (i := 7) rfl rfl ?_
  refine lw_arg B lwk_34 (k := 8) (jn := 1) rfl rfl rfl rfl rfl rfl (by omega) ?_
  refine x_cV1i F (i := 13) rfl ml_LW_167 ok_RM_boundBy rfl (Nat.le_of_ble_eq_true rfl) (Nat.le_of_ble_eq_true rfl) (fun _ => t_RM_boundBy h2) ?_
  exact x_icmp_eq F (i := 14) (tgt := 2091) rfl (by decide) (fun _ => kk _ _ hC2 hM2) (fun c => absurd rfl c)
def lwc_35 : List (Nat × Instr × Nat) := [(1420, .aload_n 1, 1), (1421, .invokevirtual 168, 3), (1424, .aload_n 2, 1), (1425, .invokevirtual 171, 3), (1428, .if_icmp .eq 663, 3), (1431, .iconst 0, 1), (1432, .ireturn, 1)]
set_option maxRecDepth 20000 in
theorem lwk_35 : lw_ok code lwc_35 := by
  unfold lw_ok
  decide +kernel
set_option maxHeartbeats 4000000 in
theorem lc_35 {w : kx_W} {n : Nat} {xs : Nat → Int32} {G : Nat → List (Option Value) → List Value → kx_M → Prop} (B : lw_B code w n xs G) (i : Nat) : lw_C w n xs G i 1420 := by
  intro hi M σ hC hM kk
  have F := B.1 lwc_35 lwk_35
  obtain ⟨M1, h1, hC1, hH1⟩ := pC_clashes  M σ hC
  obtain ⟨M2, h2, hM2, hL2⟩ := pM_clashes  M1 σ (IM_hi hH1 hM)
  have hC2 := IC_lo hL2 hC1
  refine x_aload_n F (i := 0) rfl rfl ?_
  refine x_cV0i F (i := 1) rfl ml_LW_168 ok_KT_clashes rfl (Nat.le_of_ble_eq_true rfl) (Nat.le_of_ble_eq_true rfl) (fun _ => t_KT_clashes h1) ?_
  refine x_aload_n F (i := 2) rfl rfl ?_
  refine x_cV0i F (i := 3) rfl ml_LW_171 ok_RM_clashes rfl (Nat.le_of_ble_eq_true rfl) (Nat.le_of_ble_eq_true rfl) (fun _ => t_RM_clashes h2) ?_
  exact x_icmp_eq F (i := 4) (tgt := 2091) rfl (by decide) (fun _ => kk _ _ hC2 hM2) (fun c => absurd rfl c)
def lwc_36 : List (Nat × Instr × Nat) := [(1433, .aload_n 1, 1), (1434, .invokevirtual 172, 3), (1437, .aload_n 2, 1), (1438, .invokevirtual 175, 3), (1441, .if_icmp .eq 650, 3), (1444, .iconst 0, 1), (1445, .ireturn, 1)]
set_option maxRecDepth 20000 in
theorem lwk_36 : lw_ok code lwc_36 := by
  unfold lw_ok
  decide +kernel
set_option maxHeartbeats 4000000 in
theorem lc_36 {w : kx_W} {n : Nat} {xs : Nat → Int32} {G : Nat → List (Option Value) → List Value → kx_M → Prop} (B : lw_B code w n xs G) (i : Nat) : lw_C w n xs G i 1433 := by
  intro hi M σ hC hM kk
  have F := B.1 lwc_36 lwk_36
  obtain ⟨M1, h1, hC1, hH1⟩ := pC_firstClash  M σ hC
  obtain ⟨M2, h2, hM2, hL2⟩ := pM_firstClash  M1 σ (IM_hi hH1 hM)
  have hC2 := IC_lo hL2 hC1
  refine x_aload_n F (i := 0) rfl rfl ?_
  refine x_cV0i F (i := 1) rfl ml_LW_172 ok_KT_firstClash rfl (Nat.le_of_ble_eq_true rfl) (Nat.le_of_ble_eq_true rfl) (fun _ => t_KT_firstClash h1) ?_
  refine x_aload_n F (i := 2) rfl rfl ?_
  refine x_cV0i F (i := 3) rfl ml_LW_175 ok_RM_firstClash rfl (Nat.le_of_ble_eq_true rfl) (Nat.le_of_ble_eq_true rfl) (fun _ => t_RM_firstClash h2) ?_
  exact x_icmp_eq F (i := 4) (tgt := 2091) rfl (by decide) (fun _ => kk _ _ hC2 hM2) (fun c => absurd rfl c)
def lwc_37 : List (Nat × Instr × Nat) := [(1446, .aload_n 1, 1), (1447, .aload_n 0, 1), (1448, .iload_n 3, 1), (1449, .iconst 1, 1), (1450, .iadd, 1), (1451, .iaload, 1), (1452, .invokevirtual 176, 3), (1455, .aload_n 2, 1), (1456, .aload_n 0, 1), (1457, .iload_n 3, 1), (1458, .iconst 1, 1), (1459, .iadd, 1), (1460, .iaload, 1), (1461, .invokevirtual 179, 3), (1464, .if_icmp .eq 627, 3), (1467, .iconst 0, 1), (1468, .ireturn, 1)]
set_option maxRecDepth 20000 in
theorem lwk_37 : lw_ok code lwc_37 := by
  unfold lw_ok
  decide +kernel
set_option maxHeartbeats 4000000 in
theorem lc_37 {w : kx_W} {n : Nat} {xs : Nat → Int32} {G : Nat → List (Option Value) → List Value → kx_M → Prop} (B : lw_B code w n xs G) (i : Nat) : lw_C w n xs G i 1446 := by
  intro hi M σ hC hM kk
  have F := B.1 lwc_37 lwk_37
  obtain ⟨M1, h1, hC1, hH1⟩ := pC_needs (xs (i + 1)) M σ hC
  obtain ⟨M2, h2, hM2, hL2⟩ := pM_needs (xs (i + 1)) M1 σ (IM_hi hH1 hM)
  have hC2 := IC_lo hL2 hC1
  refine x_aload_n F (i := 0) rfl rfl ?_
  refine lw_arg B lwk_37 (k := 1) (jn := 1) rfl rfl rfl rfl rfl rfl (by omega) ?_
  refine x_cV1i F (i := 6) rfl ml_LW_176 ok_KT_needs rfl (Nat.le_of_ble_eq_true rfl) (Nat.le_of_ble_eq_true rfl) (fun _ => t_KT_needs h1) ?_
  refine x_aload_n F (i := 7) rfl rfl ?_
  refine lw_arg B lwk_37 (k := 8) (jn := 1) rfl rfl rfl rfl rfl rfl (by omega) ?_
  refine x_cV1i F (i := 13) rfl ml_LW_179 ok_RM_needs rfl (Nat.le_of_ble_eq_true rfl) (Nat.le_of_ble_eq_true rfl) (fun _ => t_RM_needs h2) ?_
  exact x_icmp_eq F (i := 14) (tgt := 2091) rfl (by decide) (fun _ => kk _ _ hC2 hM2) (fun c => absurd rfl c)
def lwc_38 : List (Nat × Instr × Nat) := [(1469, .aload_n 1, 1), (1470, .aload_n 0, 1), (1471, .iload_n 3, 1), (1472, .iconst 1, 1), (1473, .iadd, 1), (1474, .iaload, 1), (1475, .invokevirtual 180, 3), (1478, .aload_n 2, 1), (1479, .aload_n 0, 1), (1480, .iload_n 3, 1), (1481, .iconst 1, 1), (1482, .iadd, 1), (1483, .iaload, 1), (1484, .invokevirtual 183, 3), (1487, .if_icmp .eq 604, 3), (1490, .iconst 0, 1), (1491, .ireturn, 1)]
set_option maxRecDepth 20000 in
theorem lwk_38 : lw_ok code lwc_38 := by
  unfold lw_ok
  decide +kernel
set_option maxHeartbeats 4000000 in
theorem lc_38 {w : kx_W} {n : Nat} {xs : Nat → Int32} {G : Nat → List (Option Value) → List Value → kx_M → Prop} (B : lw_B code w n xs G) (i : Nat) : lw_C w n xs G i 1469 := by
  intro hi M σ hC hM kk
  have F := B.1 lwc_38 lwk_38
  obtain ⟨M1, h1, hC1, hH1⟩ := pC_lost (xs (i + 1)) M σ hC
  obtain ⟨M2, h2, hM2, hL2⟩ := pM_lost (xs (i + 1)) M1 σ (IM_hi hH1 hM)
  have hC2 := IC_lo hL2 hC1
  refine x_aload_n F (i := 0) rfl rfl ?_
  refine lw_arg B lwk_38 (k := 1) (jn := 1) rfl rfl rfl rfl rfl rfl (by omega) ?_
  refine x_cV1i F (i := 6) rfl ml_LW_180 ok_KT_lost rfl (Nat.le_of_ble_eq_true rfl) (Nat.le_of_ble_eq_true rfl) (fun _ => t_KT_lost h1) ?_
  refine x_aload_n F (i := 7) rfl rfl ?_
  refine lw_arg B lwk_38 (k := 8) (jn := 1) rfl rfl rfl rfl rfl rfl (by omega) ?_
  refine x_cV1i F (i := 13) rfl ml_LW_183 ok_RM_lost rfl (Nat.le_of_ble_eq_true rfl) (Nat.le_of_ble_eq_true rfl) (fun _ => t_RM_lost h2) ?_
  exact x_icmp_eq F (i := 14) (tgt := 2091) rfl (by decide) (fun _ => kk _ _ hC2 hM2) (fun c => absurd rfl c)
def lwc_39 : List (Nat × Instr × Nat) := [(1492, .aload_n 1, 1), (1493, .aload_n 0, 1), (1494, .iload_n 3, 1), (1495, .iconst 1, 1), (1496, .iadd, 1), (1497, .iaload, 1), (1498, .invokevirtual 184, 3), (1501, .aload_n 2, 1), (1502, .aload_n 0, 1), (1503, .iload_n 3, 1), (1504, .iconst 1, 1), (1505, .iadd, 1), (1506, .iaload, 1), (1507, .invokevirtual 187, 3), (1510, .if_icmp .eq 581, 3), (1513, .iconst 0, 1), (1514, .ireturn, 1)]
set_option maxRecDepth 20000 in
theorem lwk_39 : lw_ok code lwc_39 := by
  unfold lw_ok
  decide +kernel
set_option maxHeartbeats 4000000 in
theorem lc_39 {w : kx_W} {n : Nat} {xs : Nat → Int32} {G : Nat → List (Option Value) → List Value → kx_M → Prop} (B : lw_B code w n xs G) (i : Nat) : lw_C w n xs G i 1492 := by
  intro hi M σ hC hM kk
  have F := B.1 lwc_39 lwk_39
  obtain ⟨M1, h1, hC1, hH1⟩ := pC_undoneIn (xs (i + 1)) M σ hC
  obtain ⟨M2, h2, hM2, hL2⟩ := pM_undoneIn (xs (i + 1)) M1 σ (IM_hi hH1 hM)
  have hC2 := IC_lo hL2 hC1
  refine x_aload_n F (i := 0) rfl rfl ?_
  refine lw_arg B lwk_39 (k := 1) (jn := 1) rfl rfl rfl rfl rfl rfl (by omega) ?_
  refine x_cV1i F (i := 6) rfl ml_LW_184 ok_KT_undoneIn rfl (Nat.le_of_ble_eq_true rfl) (Nat.le_of_ble_eq_true rfl) (fun _ => t_KT_undoneIn h1) ?_
  refine x_aload_n F (i := 7) rfl rfl ?_
  refine lw_arg B lwk_39 (k := 8) (jn := 1) rfl rfl rfl rfl rfl rfl (by omega) ?_
  refine x_cV1i F (i := 13) rfl ml_LW_187 ok_RM_undoneIn rfl (Nat.le_of_ble_eq_true rfl) (Nat.le_of_ble_eq_true rfl) (fun _ => t_RM_undoneIn h2) ?_
  exact x_icmp_eq F (i := 14) (tgt := 2091) rfl (by decide) (fun _ => kk _ _ hC2 hM2) (fun c => absurd rfl c)
def lwc_40 : List (Nat × Instr × Nat) := [(1515, .aload_n 1, 1), (1516, .invokevirtual 188, 3), (1519, .aload_n 2, 1), (1520, .invokevirtual 191, 3), (1523, .if_icmp .eq 568, 3), (1526, .iconst 0, 1), (1527, .ireturn, 1)]
set_option maxRecDepth 20000 in
theorem lwk_40 : lw_ok code lwc_40 := by
  unfold lw_ok
  decide +kernel
set_option maxHeartbeats 4000000 in
theorem lc_40 {w : kx_W} {n : Nat} {xs : Nat → Int32} {G : Nat → List (Option Value) → List Value → kx_M → Prop} (B : lw_B code w n xs G) (i : Nat) : lw_C w n xs G i 1515 := by
  intro hi M σ hC hM kk
  have F := B.1 lwc_40 lwk_40
  obtain ⟨M1, h1, hC1, hH1⟩ := pC_firstLost  M σ hC
  obtain ⟨M2, h2, hM2, hL2⟩ := pM_firstLost  M1 σ (IM_hi hH1 hM)
  have hC2 := IC_lo hL2 hC1
  refine x_aload_n F (i := 0) rfl rfl ?_
  refine x_cV0i F (i := 1) rfl ml_LW_188 ok_KT_firstLost rfl (Nat.le_of_ble_eq_true rfl) (Nat.le_of_ble_eq_true rfl) (fun _ => t_KT_firstLost h1) ?_
  refine x_aload_n F (i := 2) rfl rfl ?_
  refine x_cV0i F (i := 3) rfl ml_LW_191 ok_RM_firstLost rfl (Nat.le_of_ble_eq_true rfl) (Nat.le_of_ble_eq_true rfl) (fun _ => t_RM_firstLost h2) ?_
  exact x_icmp_eq F (i := 4) (tgt := 2091) rfl (by decide) (fun _ => kk _ _ hC2 hM2) (fun c => absurd rfl c)
def lwc_41 : List (Nat × Instr × Nat) := [(1528, .aload_n 1, 1), (1529, .aload_n 0, 1), (1530, .iload_n 3, 1), (1531, .iconst 1, 1), (1532, .iadd, 1), (1533, .iaload, 1), (1534, .aload_n 0, 1), (1535, .iload_n 3, 1), (1536, .iconst 2, 1), (1537, .iadd, 1), (1538, .iaload, 1), (1539, .invokevirtual 192, 3), (1542, .aload_n 2, 1), (1543, .aload_n 0, 1), (1544, .iload_n 3, 1), (1545, .iconst 1, 1), (1546, .iadd, 1), (1547, .iaload, 1), (1548, .aload_n 0, 1), (1549, .iload_n 3, 1), (1550, .iconst 2, 1), (1551, .iadd, 1), (1552, .iaload, 1), (1553, .invokevirtual 195, 3), (1556, .if_icmp .eq 535, 3), (1559, .iconst 0, 1), (1560, .ireturn, 1)]
set_option maxRecDepth 20000 in
theorem lwk_41 : lw_ok code lwc_41 := by
  unfold lw_ok
  decide +kernel
set_option maxHeartbeats 4000000 in
theorem lc_41 {w : kx_W} {n : Nat} {xs : Nat → Int32} {G : Nat → List (Option Value) → List Value → kx_M → Prop} (B : lw_B code w n xs G) (i : Nat) : lw_C w n xs G i 1528 := by
  intro hi M σ hC hM kk
  have F := B.1 lwc_41 lwk_41
  obtain ⟨M1, h1, hC1, hH1⟩ := pC_pulled (xs (i + 1)) (xs (i + 2)) M σ hC
  obtain ⟨M2, h2, hM2, hL2⟩ := pM_pulled (xs (i + 1)) (xs (i + 2)) M1 σ (IM_hi hH1 hM)
  have hC2 := IC_lo hL2 hC1
  refine x_aload_n F (i := 0) rfl rfl ?_
  refine lw_arg B lwk_41 (k := 1) (jn := 1) rfl rfl rfl rfl rfl rfl (by omega) ?_
  refine lw_arg B lwk_41 (k := 6) (jn := 2) rfl rfl rfl rfl rfl rfl (by omega) ?_
  refine x_cV2i F (i := 11) rfl ml_LW_192 ok_KT_pulled rfl (Nat.le_of_ble_eq_true rfl) (Nat.le_of_ble_eq_true rfl) (fun _ => t_KT_pulled h1) ?_
  refine x_aload_n F (i := 12) rfl rfl ?_
  refine lw_arg B lwk_41 (k := 13) (jn := 1) rfl rfl rfl rfl rfl rfl (by omega) ?_
  refine lw_arg B lwk_41 (k := 18) (jn := 2) rfl rfl rfl rfl rfl rfl (by omega) ?_
  refine x_cV2i F (i := 23) rfl ml_LW_195 ok_RM_pulled rfl (Nat.le_of_ble_eq_true rfl) (Nat.le_of_ble_eq_true rfl) (fun _ => t_RM_pulled h2) ?_
  exact x_icmp_eq F (i := 24) (tgt := 2091) rfl (by decide) (fun _ => kk _ _ hC2 hM2) (fun c => absurd rfl c)
def lwc_42 : List (Nat × Instr × Nat) := [(1561, .aload_n 1, 1), (1562, .invokevirtual 196, 3), (1565, .aload_n 2, 1), (1566, .invokevirtual 199, 3), (1569, .if_icmp .eq 522, 3), (1572, .iconst 0, 1), (1573, .ireturn, 1)]
set_option maxRecDepth 20000 in
theorem lwk_42 : lw_ok code lwc_42 := by
  unfold lw_ok
  decide +kernel
set_option maxHeartbeats 4000000 in
theorem lc_42 {w : kx_W} {n : Nat} {xs : Nat → Int32} {G : Nat → List (Option Value) → List Value → kx_M → Prop} (B : lw_B code w n xs G) (i : Nat) : lw_C w n xs G i 1561 := by
  intro hi M σ hC hM kk
  have F := B.1 lwc_42 lwk_42
  obtain ⟨M1, h1, hC1, hH1⟩ := pC_worstPull  M σ hC
  obtain ⟨M2, h2, hM2, hL2⟩ := pM_worstPull  M1 σ (IM_hi hH1 hM)
  have hC2 := IC_lo hL2 hC1
  refine x_aload_n F (i := 0) rfl rfl ?_
  refine x_cV0i F (i := 1) rfl ml_LW_196 ok_KT_worstPull rfl (Nat.le_of_ble_eq_true rfl) (Nat.le_of_ble_eq_true rfl) (fun _ => t_KT_worstPull h1) ?_
  refine x_aload_n F (i := 2) rfl rfl ?_
  refine x_cV0i F (i := 3) rfl ml_LW_199 ok_RM_worstPull rfl (Nat.le_of_ble_eq_true rfl) (Nat.le_of_ble_eq_true rfl) (fun _ => t_RM_worstPull h2) ?_
  exact x_icmp_eq F (i := 4) (tgt := 2091) rfl (by decide) (fun _ => kk _ _ hC2 hM2) (fun c => absurd rfl c)
def lwc_43 : List (Nat × Instr × Nat) := [(1574, .aload_n 1, 1), (1575, .aload_n 0, 1), (1576, .iload_n 3, 1), (1577, .iconst 1, 1), (1578, .iadd, 1), (1579, .iaload, 1), (1580, .aload_n 0, 1), (1581, .iload_n 3, 1), (1582, .iconst 2, 1), (1583, .iadd, 1), (1584, .iaload, 1), (1585, .invokevirtual 200, 3), (1588, .aload_n 2, 1), (1589, .aload_n 0, 1), (1590, .iload_n 3, 1), (1591, .iconst 1, 1), (1592, .iadd, 1), (1593, .iaload, 1), (1594, .aload_n 0, 1), (1595, .iload_n 3, 1), (1596, .iconst 2, 1), (1597, .iadd, 1), (1598, .iaload, 1), (1599, .invokevirtual 203, 3), (1602, .if_icmp .eq 489, 3), (1605, .iconst 0, 1), (1606, .ireturn, 1)]
set_option maxRecDepth 20000 in
theorem lwk_43 : lw_ok code lwc_43 := by
  unfold lw_ok
  decide +kernel
set_option maxHeartbeats 4000000 in
theorem lc_43 {w : kx_W} {n : Nat} {xs : Nat → Int32} {G : Nat → List (Option Value) → List Value → kx_M → Prop} (B : lw_B code w n xs G) (i : Nat) : lw_C w n xs G i 1574 := by
  intro hi M σ hC hM kk
  have F := B.1 lwc_43 lwk_43
  obtain ⟨M1, h1, hC1, hH1⟩ := pC_pulledOut (xs (i + 1)) (xs (i + 2)) M σ hC
  obtain ⟨M2, h2, hM2, hL2⟩ := pM_pulledOut (xs (i + 1)) (xs (i + 2)) M1 σ (IM_hi hH1 hM)
  have hC2 := IC_lo hL2 hC1
  refine x_aload_n F (i := 0) rfl rfl ?_
  refine lw_arg B lwk_43 (k := 1) (jn := 1) rfl rfl rfl rfl rfl rfl (by omega) ?_
  refine lw_arg B lwk_43 (k := 6) (jn := 2) rfl rfl rfl rfl rfl rfl (by omega) ?_
  refine x_cV2i F (i := 11) rfl ml_LW_200 ok_KT_pulledOut rfl (Nat.le_of_ble_eq_true rfl) (Nat.le_of_ble_eq_true rfl) (fun _ => t_KT_pulledOut h1) ?_
  refine x_aload_n F (i := 12) rfl rfl ?_
  refine lw_arg B lwk_43 (k := 13) (jn := 1) rfl rfl rfl rfl rfl rfl (by omega) ?_
  refine lw_arg B lwk_43 (k := 18) (jn := 2) rfl rfl rfl rfl rfl rfl (by omega) ?_
  refine x_cV2i F (i := 23) rfl ml_LW_203 ok_RM_pulledOut rfl (Nat.le_of_ble_eq_true rfl) (Nat.le_of_ble_eq_true rfl) (fun _ => t_RM_pulledOut h2) ?_
  exact x_icmp_eq F (i := 24) (tgt := 2091) rfl (by decide) (fun _ => kk _ _ hC2 hM2) (fun c => absurd rfl c)
def lwc_44 : List (Nat × Instr × Nat) := [(1607, .aload_n 1, 1), (1608, .aload_n 0, 1), (1609, .iload_n 3, 1), (1610, .iconst 1, 1), (1611, .iadd, 1), (1612, .iaload, 1), (1613, .aload_n 0, 1), (1614, .iload_n 3, 1), (1615, .iconst 2, 1), (1616, .iadd, 1), (1617, .iaload, 1), (1618, .aload_n 0, 1), (1619, .iload_n 3, 1), (1620, .iconst 3, 1), (1621, .iadd, 1), (1622, .iaload, 1), (1623, .invokevirtual 204, 3), (1626, .aload_n 2, 1), (1627, .aload_n 0, 1), (1628, .iload_n 3, 1), (1629, .iconst 1, 1), (1630, .iadd, 1), (1631, .iaload, 1), (1632, .aload_n 0, 1), (1633, .iload_n 3, 1), (1634, .iconst 2, 1), (1635, .iadd, 1), (1636, .iaload, 1), (1637, .aload_n 0, 1), (1638, .iload_n 3, 1), (1639, .iconst 3, 1), (1640, .iadd, 1), (1641, .iaload, 1), (1642, .invokevirtual 207, 3), (1645, .if_icmp .eq 446, 3), (1648, .iconst 0, 1), (1649, .ireturn, 1)]
set_option maxRecDepth 20000 in
theorem lwk_44 : lw_ok code lwc_44 := by
  unfold lw_ok
  decide +kernel
set_option maxHeartbeats 4000000 in
theorem lc_44 {w : kx_W} {n : Nat} {xs : Nat → Int32} {G : Nat → List (Option Value) → List Value → kx_M → Prop} (B : lw_B code w n xs G) (i : Nat) : lw_C w n xs G i 1607 := by
  intro hi M σ hC hM kk
  have F := B.1 lwc_44 lwk_44
  obtain ⟨M1, h1, hC1, hH1⟩ := pC_mend (xs (i + 1)) (xs (i + 2)) (xs (i + 3)) M σ hC
  obtain ⟨M2, h2, hM2, hL2⟩ := pM_mend (xs (i + 1)) (xs (i + 2)) (xs (i + 3)) M1 σ (IM_hi hH1 hM)
  have hC2 := IC_lo hL2 hC1
  refine x_aload_n F (i := 0) rfl rfl ?_
  refine lw_arg B lwk_44 (k := 1) (jn := 1) rfl rfl rfl rfl rfl rfl (by omega) ?_
  refine lw_arg B lwk_44 (k := 6) (jn := 2) rfl rfl rfl rfl rfl rfl (by omega) ?_
  refine lw_arg B lwk_44 (k := 11) (jn := 3) rfl rfl rfl rfl rfl rfl (by omega) ?_
  refine x_cV3i F (i := 16) rfl ml_LW_204 ok_KT_mend rfl (Nat.le_of_ble_eq_true rfl) (Nat.le_of_ble_eq_true rfl) (fun _ => t_KT_mend h1) ?_
  refine x_aload_n F (i := 17) rfl rfl ?_
  refine lw_arg B lwk_44 (k := 18) (jn := 1) rfl rfl rfl rfl rfl rfl (by omega) ?_
  refine lw_arg B lwk_44 (k := 23) (jn := 2) rfl rfl rfl rfl rfl rfl (by omega) ?_
  refine lw_arg B lwk_44 (k := 28) (jn := 3) rfl rfl rfl rfl rfl rfl (by omega) ?_
  refine x_cV3i F (i := 33) rfl ml_LW_207 ok_RM_mend rfl (Nat.le_of_ble_eq_true rfl) (Nat.le_of_ble_eq_true rfl) (fun _ => t_RM_mend h2) ?_
  exact x_icmp_eq F (i := 34) (tgt := 2091) rfl (by decide) (fun _ => kk _ _ hC2 hM2) (fun c => absurd rfl c)
def lwc_45 : List (Nat × Instr × Nat) := [(1650, .aload_n 1, 1), (1651, .aload_n 0, 1), (1652, .iload_n 3, 1), (1653, .iconst 1, 1), (1654, .iadd, 1), (1655, .iaload, 1), (1656, .aload_n 0, 1), (1657, .iload_n 3, 1), (1658, .iconst 2, 1), (1659, .iadd, 1), (1660, .iaload, 1), (1661, .aload_n 0, 1), (1662, .iload_n 3, 1), (1663, .iconst 3, 1), (1664, .iadd, 1), (1665, .iaload, 1), (1666, .invokevirtual 208, 3), (1669, .aload_n 2, 1), (1670, .aload_n 0, 1), (1671, .iload_n 3, 1), (1672, .iconst 1, 1), (1673, .iadd, 1), (1674, .iaload, 1), (1675, .aload_n 0, 1), (1676, .iload_n 3, 1), (1677, .iconst 2, 1), (1678, .iadd, 1), (1679, .iaload, 1), (1680, .aload_n 0, 1), (1681, .iload_n 3, 1), (1682, .iconst 3, 1), (1683, .iadd, 1), (1684, .iaload, 1), (1685, .invokevirtual 211, 3), (1688, .if_icmp .eq 403, 3), (1691, .iconst 0, 1), (1692, .ireturn, 1)]
set_option maxRecDepth 20000 in
theorem lwk_45 : lw_ok code lwc_45 := by
  unfold lw_ok
  decide +kernel
set_option maxHeartbeats 4000000 in
theorem lc_45 {w : kx_W} {n : Nat} {xs : Nat → Int32} {G : Nat → List (Option Value) → List Value → kx_M → Prop} (B : lw_B code w n xs G) (i : Nat) : lw_C w n xs G i 1650 := by
  intro hi M σ hC hM kk
  have F := B.1 lwc_45 lwk_45
  obtain ⟨M1, h1, hC1, hH1⟩ := pC_mendSet (xs (i + 1)) (xs (i + 2)) (xs (i + 3)) M σ hC
  obtain ⟨M2, h2, hM2, hL2⟩ := pM_mendSet (xs (i + 1)) (xs (i + 2)) (xs (i + 3)) M1 σ (IM_hi hH1 hM)
  have hC2 := IC_lo hL2 hC1
  refine x_aload_n F (i := 0) rfl rfl ?_
  refine lw_arg B lwk_45 (k := 1) (jn := 1) rfl rfl rfl rfl rfl rfl (by omega) ?_
  refine lw_arg B lwk_45 (k := 6) (jn := 2) rfl rfl rfl rfl rfl rfl (by omega) ?_
  refine lw_arg B lwk_45 (k := 11) (jn := 3) rfl rfl rfl rfl rfl rfl (by omega) ?_
  refine x_cV3i F (i := 16) rfl ml_LW_208 ok_KT_mendSet rfl (Nat.le_of_ble_eq_true rfl) (Nat.le_of_ble_eq_true rfl) (fun _ => t_KT_mendSet h1) ?_
  refine x_aload_n F (i := 17) rfl rfl ?_
  refine lw_arg B lwk_45 (k := 18) (jn := 1) rfl rfl rfl rfl rfl rfl (by omega) ?_
  refine lw_arg B lwk_45 (k := 23) (jn := 2) rfl rfl rfl rfl rfl rfl (by omega) ?_
  refine lw_arg B lwk_45 (k := 28) (jn := 3) rfl rfl rfl rfl rfl rfl (by omega) ?_
  refine x_cV3i F (i := 33) rfl ml_LW_211 ok_RM_mendSet rfl (Nat.le_of_ble_eq_true rfl) (Nat.le_of_ble_eq_true rfl) (fun _ => t_RM_mendSet h2) ?_
  exact x_icmp_eq F (i := 34) (tgt := 2091) rfl (by decide) (fun _ => kk _ _ hC2 hM2) (fun c => absurd rfl c)
def lwc_46 : List (Nat × Instr × Nat) := [(1693, .aload_n 1, 1), (1694, .aload_n 0, 1), (1695, .iload_n 3, 1), (1696, .iconst 1, 1), (1697, .iadd, 1), (1698, .iaload, 1), (1699, .invokevirtual 212, 3), (1702, .aload_n 2, 1), (1703, .aload_n 0, 1), (1704, .iload_n 3, 1), (1705, .iconst 1, 1), (1706, .iadd, 1), (1707, .iaload, 1), (1708, .invokevirtual 215, 3), (1711, .if_icmp .eq 380, 3), (1714, .iconst 0, 1), (1715, .ireturn, 1)]
set_option maxRecDepth 20000 in
theorem lwk_46 : lw_ok code lwc_46 := by
  unfold lw_ok
  decide +kernel
set_option maxHeartbeats 4000000 in
theorem lc_46 {w : kx_W} {n : Nat} {xs : Nat → Int32} {G : Nat → List (Option Value) → List Value → kx_M → Prop} (B : lw_B code w n xs G) (i : Nat) : lw_C w n xs G i 1693 := by
  intro hi M σ hC hM kk
  have F := B.1 lwc_46 lwk_46
  obtain ⟨M1, h1, hC1, hH1⟩ := pC_shortest (xs (i + 1)) M σ hC
  obtain ⟨M2, h2, hM2, hL2⟩ := pM_shortest (xs (i + 1)) M1 σ (IM_hi hH1 hM)
  have hC2 := IC_lo hL2 hC1
  refine x_aload_n F (i := 0) rfl rfl ?_
  refine lw_arg B lwk_46 (k := 1) (jn := 1) rfl rfl rfl rfl rfl rfl (by omega) ?_
  refine x_cV1i F (i := 6) rfl ml_LW_212 ok_KT_shortest rfl (Nat.le_of_ble_eq_true rfl) (Nat.le_of_ble_eq_true rfl) (fun _ => t_KT_shortest h1) ?_
  refine x_aload_n F (i := 7) rfl rfl ?_
  refine lw_arg B lwk_46 (k := 8) (jn := 1) rfl rfl rfl rfl rfl rfl (by omega) ?_
  refine x_cV1i F (i := 13) rfl ml_LW_215 ok_RM_shortest rfl (Nat.le_of_ble_eq_true rfl) (Nat.le_of_ble_eq_true rfl) (fun _ => t_RM_shortest h2) ?_
  exact x_icmp_eq F (i := 14) (tgt := 2091) rfl (by decide) (fun _ => kk _ _ hC2 hM2) (fun c => absurd rfl c)
def lwc_47 : List (Nat × Instr × Nat) := [(1716, .aload_n 1, 1), (1717, .aload_n 0, 1), (1718, .iload_n 3, 1), (1719, .iconst 1, 1), (1720, .iadd, 1), (1721, .iaload, 1), (1722, .aload_n 0, 1), (1723, .iload_n 3, 1), (1724, .iconst 2, 1), (1725, .iadd, 1), (1726, .iaload, 1), (1727, .invokevirtual 216, 3), (1730, .aload_n 2, 1), (1731, .aload_n 0, 1), (1732, .iload_n 3, 1), (1733, .iconst 1, 1), (1734, .iadd, 1), (1735, .iaload, 1), (1736, .aload_n 0, 1), (1737, .iload_n 3, 1), (1738, .iconst 2, 1), (1739, .iadd, 1), (1740, .iaload, 1), (1741, .invokevirtual 219, 3), (1744, .if_icmp .eq 347, 3), (1747, .iconst 0, 1), (1748, .ireturn, 1)]
set_option maxRecDepth 20000 in
theorem lwk_47 : lw_ok code lwc_47 := by
  unfold lw_ok
  decide +kernel
set_option maxHeartbeats 4000000 in
theorem lc_47 {w : kx_W} {n : Nat} {xs : Nat → Int32} {G : Nat → List (Option Value) → List Value → kx_M → Prop} (B : lw_B code w n xs G) (i : Nat) : lw_C w n xs G i 1716 := by
  intro hi M σ hC hM kk
  have F := B.1 lwc_47 lwk_47
  obtain ⟨M1, h1, hC1, hH1⟩ := pC_shortestAt (xs (i + 1)) (xs (i + 2)) M σ hC
  obtain ⟨M2, h2, hM2, hL2⟩ := pM_shortestAt (xs (i + 1)) (xs (i + 2)) M1 σ (IM_hi hH1 hM)
  have hC2 := IC_lo hL2 hC1
  refine x_aload_n F (i := 0) rfl rfl ?_
  refine lw_arg B lwk_47 (k := 1) (jn := 1) rfl rfl rfl rfl rfl rfl (by omega) ?_
  refine lw_arg B lwk_47 (k := 6) (jn := 2) rfl rfl rfl rfl rfl rfl (by omega) ?_
  refine x_cV2i F (i := 11) rfl ml_LW_216 ok_KT_shortestAt rfl (Nat.le_of_ble_eq_true rfl) (Nat.le_of_ble_eq_true rfl) (fun _ => t_KT_shortestAt h1) ?_
  refine x_aload_n F (i := 12) rfl rfl ?_
  refine lw_arg B lwk_47 (k := 13) (jn := 1) rfl rfl rfl rfl rfl rfl (by omega) ?_
  refine lw_arg B lwk_47 (k := 18) (jn := 2) rfl rfl rfl rfl rfl rfl (by omega) ?_
  refine x_cV2i F (i := 23) rfl ml_LW_219 ok_RM_shortestAt rfl (Nat.le_of_ble_eq_true rfl) (Nat.le_of_ble_eq_true rfl) (fun _ => t_RM_shortestAt h2) ?_
  exact x_icmp_eq F (i := 24) (tgt := 2091) rfl (by decide) (fun _ => kk _ _ hC2 hM2) (fun c => absurd rfl c)
def lwc_48 : List (Nat × Instr × Nat) := [(1749, .aload_n 1, 1), (1750, .aload_n 0, 1), (1751, .iload_n 3, 1), (1752, .iconst 1, 1), (1753, .iadd, 1), (1754, .iaload, 1), (1755, .aload_n 0, 1), (1756, .iload_n 3, 1), (1757, .iconst 2, 1), (1758, .iadd, 1), (1759, .iaload, 1), (1760, .invokevirtual 220, 3), (1763, .aload_n 2, 1), (1764, .aload_n 0, 1), (1765, .iload_n 3, 1), (1766, .iconst 1, 1), (1767, .iadd, 1), (1768, .iaload, 1), (1769, .aload_n 0, 1), (1770, .iload_n 3, 1), (1771, .iconst 2, 1), (1772, .iadd, 1), (1773, .iaload, 1), (1774, .invokevirtual 223, 3), (1777, .if_icmp .eq 314, 3), (1780, .iconst 0, 1), (1781, .ireturn, 1)]
set_option maxRecDepth 20000 in
theorem lwk_48 : lw_ok code lwc_48 := by
  unfold lw_ok
  decide +kernel
set_option maxHeartbeats 4000000 in
theorem lc_48 {w : kx_W} {n : Nat} {xs : Nat → Int32} {G : Nat → List (Option Value) → List Value → kx_M → Prop} (B : lw_B code w n xs G) (i : Nat) : lw_C w n xs G i 1749 := by
  intro hi M σ hC hM kk
  have F := B.1 lwc_48 lwk_48
  obtain ⟨M1, h1, hC1, hH1⟩ := pC_wins (xs (i + 1)) (xs (i + 2)) M σ hC
  obtain ⟨M2, h2, hM2, hL2⟩ := pM_wins (xs (i + 1)) (xs (i + 2)) M1 σ (IM_hi hH1 hM)
  have hC2 := IC_lo hL2 hC1
  refine x_aload_n F (i := 0) rfl rfl ?_
  refine lw_arg B lwk_48 (k := 1) (jn := 1) rfl rfl rfl rfl rfl rfl (by omega) ?_
  refine lw_arg B lwk_48 (k := 6) (jn := 2) rfl rfl rfl rfl rfl rfl (by omega) ?_
  refine x_cV2i F (i := 11) rfl ml_LW_220 ok_KT_wins rfl (Nat.le_of_ble_eq_true rfl) (Nat.le_of_ble_eq_true rfl) (fun _ => t_KT_wins h1) ?_
  refine x_aload_n F (i := 12) rfl rfl ?_
  refine lw_arg B lwk_48 (k := 13) (jn := 1) rfl rfl rfl rfl rfl rfl (by omega) ?_
  refine lw_arg B lwk_48 (k := 18) (jn := 2) rfl rfl rfl rfl rfl rfl (by omega) ?_
  refine x_cV2i F (i := 23) rfl ml_LW_223 ok_RM_wins rfl (Nat.le_of_ble_eq_true rfl) (Nat.le_of_ble_eq_true rfl) (fun _ => t_RM_wins h2) ?_
  exact x_icmp_eq F (i := 24) (tgt := 2091) rfl (by decide) (fun _ => kk _ _ hC2 hM2) (fun c => absurd rfl c)
def lwc_49 : List (Nat × Instr × Nat) := [(1782, .aload_n 1, 1), (1783, .invokevirtual 224, 3), (1786, .aload_n 2, 1), (1787, .invokevirtual 227, 3), (1790, .if_icmp .eq 301, 3), (1793, .iconst 0, 1), (1794, .ireturn, 1)]
set_option maxRecDepth 20000 in
theorem lwk_49 : lw_ok code lwc_49 := by
  unfold lw_ok
  decide +kernel
set_option maxHeartbeats 4000000 in
theorem lc_49 {w : kx_W} {n : Nat} {xs : Nat → Int32} {G : Nat → List (Option Value) → List Value → kx_M → Prop} (B : lw_B code w n xs G) (i : Nat) : lw_C w n xs G i 1782 := by
  intro hi M σ hC hM kk
  have F := B.1 lwc_49 lwk_49
  obtain ⟨M1, h1, hC1, hH1⟩ := pC_bargain  M σ hC
  obtain ⟨M2, h2, hM2, hL2⟩ := pM_bargain  M1 σ (IM_hi hH1 hM)
  have hC2 := IC_lo hL2 hC1
  refine x_aload_n F (i := 0) rfl rfl ?_
  refine x_cV0i F (i := 1) rfl ml_LW_224 ok_KT_bargain rfl (Nat.le_of_ble_eq_true rfl) (Nat.le_of_ble_eq_true rfl) (fun _ => t_KT_bargain h1) ?_
  refine x_aload_n F (i := 2) rfl rfl ?_
  refine x_cV0i F (i := 3) rfl ml_LW_227 ok_RM_bargain rfl (Nat.le_of_ble_eq_true rfl) (Nat.le_of_ble_eq_true rfl) (fun _ => t_RM_bargain h2) ?_
  exact x_icmp_eq F (i := 4) (tgt := 2091) rfl (by decide) (fun _ => kk _ _ hC2 hM2) (fun c => absurd rfl c)
def lwc_50 : List (Nat × Instr × Nat) := [(1795, .aload_n 1, 1), (1796, .invokevirtual 228, 3), (1799, .aload_n 2, 1), (1800, .invokevirtual 231, 3), (1803, .if_icmp .eq 288, 3), (1806, .iconst 0, 1), (1807, .ireturn, 1)]
set_option maxRecDepth 20000 in
theorem lwk_50 : lw_ok code lwc_50 := by
  unfold lw_ok
  decide +kernel
set_option maxHeartbeats 4000000 in
theorem lc_50 {w : kx_W} {n : Nat} {xs : Nat → Int32} {G : Nat → List (Option Value) → List Value → kx_M → Prop} (B : lw_B code w n xs G) (i : Nat) : lw_C w n xs G i 1795 := by
  intro hi M σ hC hM kk
  have F := B.1 lwc_50 lwk_50
  obtain ⟨M1, h1, hC1, hH1⟩ := pC_bargainWorth  M σ hC
  obtain ⟨M2, h2, hM2, hL2⟩ := pM_bargainWorth  M1 σ (IM_hi hH1 hM)
  have hC2 := IC_lo hL2 hC1
  refine x_aload_n F (i := 0) rfl rfl ?_
  refine x_cV0i F (i := 1) rfl ml_LW_228 ok_KT_bargainWorth rfl (Nat.le_of_ble_eq_true rfl) (Nat.le_of_ble_eq_true rfl) (fun _ => t_KT_bargainWorth h1) ?_
  refine x_aload_n F (i := 2) rfl rfl ?_
  refine x_cV0i F (i := 3) rfl ml_LW_231 ok_RM_bargainWorth rfl (Nat.le_of_ble_eq_true rfl) (Nat.le_of_ble_eq_true rfl) (fun _ => t_RM_bargainWorth h2) ?_
  exact x_icmp_eq F (i := 4) (tgt := 2091) rfl (by decide) (fun _ => kk _ _ hC2 hM2) (fun c => absurd rfl c)
def lwc_51 : List (Nat × Instr × Nat) := [(1808, .aload_n 1, 1), (1809, .aload_n 0, 1), (1810, .iload_n 3, 1), (1811, .iconst 1, 1), (1812, .iadd, 1), (1813, .iaload, 1), (1814, .invokevirtual 232, 3), (1817, .aload_n 2, 1), (1818, .aload_n 0, 1), (1819, .iload_n 3, 1), (1820, .iconst 1, 1), (1821, .iadd, 1), (1822, .iaload, 1), (1823, .invokevirtual 235, 3), (1826, .if_icmp .eq 265, 3), (1829, .iconst 0, 1), (1830, .ireturn, 1)]
set_option maxRecDepth 20000 in
theorem lwk_51 : lw_ok code lwc_51 := by
  unfold lw_ok
  decide +kernel
set_option maxHeartbeats 4000000 in
theorem lc_51 {w : kx_W} {n : Nat} {xs : Nat → Int32} {G : Nat → List (Option Value) → List Value → kx_M → Prop} (B : lw_B code w n xs G) (i : Nat) : lw_C w n xs G i 1808 := by
  intro hi M σ hC hM kk
  have F := B.1 lwc_51 lwk_51
  obtain ⟨M1, h1, hC1, hH1⟩ := pC_stable (xs (i + 1)) M σ hC
  obtain ⟨M2, h2, hM2, hL2⟩ := pM_stable (xs (i + 1)) M1 σ (IM_hi hH1 hM)
  have hC2 := IC_lo hL2 hC1
  refine x_aload_n F (i := 0) rfl rfl ?_
  refine lw_arg B lwk_51 (k := 1) (jn := 1) rfl rfl rfl rfl rfl rfl (by omega) ?_
  refine x_cV1i F (i := 6) rfl ml_LW_232 ok_KT_stable rfl (Nat.le_of_ble_eq_true rfl) (Nat.le_of_ble_eq_true rfl) (fun _ => t_KT_stable h1) ?_
  refine x_aload_n F (i := 7) rfl rfl ?_
  refine lw_arg B lwk_51 (k := 8) (jn := 1) rfl rfl rfl rfl rfl rfl (by omega) ?_
  refine x_cV1i F (i := 13) rfl ml_LW_235 ok_RM_stable rfl (Nat.le_of_ble_eq_true rfl) (Nat.le_of_ble_eq_true rfl) (fun _ => t_RM_stable h2) ?_
  exact x_icmp_eq F (i := 14) (tgt := 2091) rfl (by decide) (fun _ => kk _ _ hC2 hM2) (fun c => absurd rfl c)
def lwc_52 : List (Nat × Instr × Nat) := [(1831, .aload_n 1, 1), (1832, .invokevirtual 236, 3), (1835, .aload_n 2, 1), (1836, .invokevirtual 239, 3), (1839, .if_icmp .eq 252, 3), (1842, .iconst 0, 1), (1843, .ireturn, 1)]
set_option maxRecDepth 20000 in
theorem lwk_52 : lw_ok code lwc_52 := by
  unfold lw_ok
  decide +kernel
set_option maxHeartbeats 4000000 in
theorem lc_52 {w : kx_W} {n : Nat} {xs : Nat → Int32} {G : Nat → List (Option Value) → List Value → kx_M → Prop} (B : lw_B code w n xs G) (i : Nat) : lw_C w n xs G i 1831 := by
  intro hi M σ hC hM kk
  have F := B.1 lwc_52 lwk_52
  obtain ⟨M1, h1, hC1, hH1⟩ := pC_stables  M σ hC
  obtain ⟨M2, h2, hM2, hL2⟩ := pM_stables  M1 σ (IM_hi hH1 hM)
  have hC2 := IC_lo hL2 hC1
  refine x_aload_n F (i := 0) rfl rfl ?_
  refine x_cV0i F (i := 1) rfl ml_LW_236 ok_KT_stables rfl (Nat.le_of_ble_eq_true rfl) (Nat.le_of_ble_eq_true rfl) (fun _ => t_KT_stables h1) ?_
  refine x_aload_n F (i := 2) rfl rfl ?_
  refine x_cV0i F (i := 3) rfl ml_LW_239 ok_RM_stables rfl (Nat.le_of_ble_eq_true rfl) (Nat.le_of_ble_eq_true rfl) (fun _ => t_RM_stables h2) ?_
  exact x_icmp_eq F (i := 4) (tgt := 2091) rfl (by decide) (fun _ => kk _ _ hC2 hM2) (fun c => absurd rfl c)
def lwc_53 : List (Nat × Instr × Nat) := [(1844, .aload_n 1, 1), (1845, .aload_n 0, 1), (1846, .iload_n 3, 1), (1847, .iconst 1, 1), (1848, .iadd, 1), (1849, .iaload, 1), (1850, .aload_n 0, 1), (1851, .iload_n 3, 1), (1852, .iconst 2, 1), (1853, .iadd, 1), (1854, .iaload, 1), (1855, .invokevirtual 240, 3), (1858, .aload_n 2, 1), (1859, .aload_n 0, 1), (1860, .iload_n 3, 1), (1861, .iconst 1, 1), (1862, .iadd, 1), (1863, .iaload, 1), (1864, .aload_n 0, 1), (1865, .iload_n 3, 1), (1866, .iconst 2, 1), (1867, .iadd, 1), (1868, .iaload, 1), (1869, .invokevirtual 243, 3), (1872, .if_icmp .eq 219, 3), (1875, .iconst 0, 1), (1876, .ireturn, 1)]
set_option maxRecDepth 20000 in
theorem lwk_53 : lw_ok code lwc_53 := by
  unfold lw_ok
  decide +kernel
set_option maxHeartbeats 4000000 in
theorem lc_53 {w : kx_W} {n : Nat} {xs : Nat → Int32} {G : Nat → List (Option Value) → List Value → kx_M → Prop} (B : lw_B code w n xs G) (i : Nat) : lw_C w n xs G i 1844 := by
  intro hi M σ hC hM kk
  have F := B.1 lwc_53 lwk_53
  obtain ⟨M1, h1, hC1, hH1⟩ := pC_fills (xs (i + 1)) (xs (i + 2)) M σ hC
  obtain ⟨M2, h2, hM2, hL2⟩ := pM_fills (xs (i + 1)) (xs (i + 2)) M1 σ (IM_hi hH1 hM)
  have hC2 := IC_lo hL2 hC1
  refine x_aload_n F (i := 0) rfl rfl ?_
  refine lw_arg B lwk_53 (k := 1) (jn := 1) rfl rfl rfl rfl rfl rfl (by omega) ?_
  refine lw_arg B lwk_53 (k := 6) (jn := 2) rfl rfl rfl rfl rfl rfl (by omega) ?_
  refine x_cV2i F (i := 11) rfl ml_LW_240 ok_KT_fills rfl (Nat.le_of_ble_eq_true rfl) (Nat.le_of_ble_eq_true rfl) (fun _ => t_KT_fills h1) ?_
  refine x_aload_n F (i := 12) rfl rfl ?_
  refine lw_arg B lwk_53 (k := 13) (jn := 1) rfl rfl rfl rfl rfl rfl (by omega) ?_
  refine lw_arg B lwk_53 (k := 18) (jn := 2) rfl rfl rfl rfl rfl rfl (by omega) ?_
  refine x_cV2i F (i := 23) rfl ml_LW_243 ok_RM_fills rfl (Nat.le_of_ble_eq_true rfl) (Nat.le_of_ble_eq_true rfl) (fun _ => t_RM_fills h2) ?_
  exact x_icmp_eq F (i := 24) (tgt := 2091) rfl (by decide) (fun _ => kk _ _ hC2 hM2) (fun c => absurd rfl c)
def lwc_54 : List (Nat × Instr × Nat) := [(1877, .aload_n 1, 1), (1878, .aload_n 0, 1), (1879, .iload_n 3, 1), (1880, .iconst 1, 1), (1881, .iadd, 1), (1882, .iaload, 1), (1883, .aload_n 0, 1), (1884, .iload_n 3, 1), (1885, .iconst 2, 1), (1886, .iadd, 1), (1887, .iaload, 1), (1888, .invokevirtual 244, 3), (1891, .aload_n 2, 1), (1892, .aload_n 0, 1), (1893, .iload_n 3, 1), (1894, .iconst 1, 1), (1895, .iadd, 1), (1896, .iaload, 1), (1897, .aload_n 0, 1), (1898, .iload_n 3, 1), (1899, .iconst 2, 1), (1900, .iadd, 1), (1901, .iaload, 1), (1902, .invokevirtual 248, 3), (1905, .if_icmp .eq 186, 3), (1908, .iconst 0, 1), (1909, .ireturn, 1)]
set_option maxRecDepth 20000 in
theorem lwk_54 : lw_ok code lwc_54 := by
  unfold lw_ok
  decide +kernel
set_option maxHeartbeats 4000000 in
theorem lc_54 {w : kx_W} {n : Nat} {xs : Nat → Int32} {G : Nat → List (Option Value) → List Value → kx_M → Prop} (B : lw_B code w n xs G) (i : Nat) : lw_C w n xs G i 1877 := by
  intro hi M σ hC hM kk
  have F := B.1 lwc_54 lwk_54
  obtain ⟨M1, h1, hC1, hH1⟩ := pC_chance (xs (i + 1)) (xs (i + 2)) M σ hC
  obtain ⟨M2, h2, hM2, hL2⟩ := pM_chance (xs (i + 1)) (xs (i + 2)) M1 σ (IM_hi hH1 hM)
  have hC2 := IC_lo hL2 hC1
  refine x_aload_n F (i := 0) rfl rfl ?_
  refine lw_arg B lwk_54 (k := 1) (jn := 1) rfl rfl rfl rfl rfl rfl (by omega) ?_
  refine lw_arg B lwk_54 (k := 6) (jn := 2) rfl rfl rfl rfl rfl rfl (by omega) ?_
  refine x_cV2i F (i := 11) rfl ml_LW_244 ok_KT_chance rfl (Nat.le_of_ble_eq_true rfl) (Nat.le_of_ble_eq_true rfl) (fun _ => t_KT_chance h1) ?_
  refine x_aload_n F (i := 12) rfl rfl ?_
  refine lw_arg B lwk_54 (k := 13) (jn := 1) rfl rfl rfl rfl rfl rfl (by omega) ?_
  refine lw_arg B lwk_54 (k := 18) (jn := 2) rfl rfl rfl rfl rfl rfl (by omega) ?_
  refine x_cV2i F (i := 23) rfl ml_LW_248 ok_RM_chance rfl (Nat.le_of_ble_eq_true rfl) (Nat.le_of_ble_eq_true rfl) (fun _ => t_RM_chance h2) ?_
  exact x_icmp_eq F (i := 24) (tgt := 2091) rfl (by decide) (fun _ => kk _ _ hC2 hM2) (fun c => absurd rfl c)
def lwc_55 : List (Nat × Instr × Nat) := [(1910, .aload_n 1, 1), (1911, .aload_n 0, 1), (1912, .iload_n 3, 1), (1913, .iconst 1, 1), (1914, .iadd, 1), (1915, .iaload, 1), (1916, .aload_n 0, 1), (1917, .iload_n 3, 1), (1918, .iconst 2, 1), (1919, .iadd, 1), (1920, .iaload, 1), (1921, .invokevirtual 249, 3), (1924, .aload_n 2, 1), (1925, .aload_n 0, 1), (1926, .iload_n 3, 1), (1927, .iconst 1, 1), (1928, .iadd, 1), (1929, .iaload, 1), (1930, .aload_n 0, 1), (1931, .iload_n 3, 1), (1932, .iconst 2, 1), (1933, .iadd, 1), (1934, .iaload, 1), (1935, .invokevirtual 252, 3), (1938, .if_icmp .eq 153, 3), (1941, .iconst 0, 1), (1942, .ireturn, 1)]
set_option maxRecDepth 20000 in
theorem lwk_55 : lw_ok code lwc_55 := by
  unfold lw_ok
  decide +kernel
set_option maxHeartbeats 4000000 in
theorem lc_55 {w : kx_W} {n : Nat} {xs : Nat → Int32} {G : Nat → List (Option Value) → List Value → kx_M → Prop} (B : lw_B code w n xs G) (i : Nat) : lw_C w n xs G i 1910 := by
  intro hi M σ hC hM kk
  have F := B.1 lwc_55 lwk_55
  obtain ⟨M1, h1, hC1, hH1⟩ := pC_look (xs (i + 1)) (xs (i + 2)) M σ hC
  obtain ⟨M2, h2, hM2, hL2⟩ := pM_look (xs (i + 1)) (xs (i + 2)) M1 σ (IM_hi hH1 hM)
  have hC2 := IC_lo hL2 hC1
  refine x_aload_n F (i := 0) rfl rfl ?_
  refine lw_arg B lwk_55 (k := 1) (jn := 1) rfl rfl rfl rfl rfl rfl (by omega) ?_
  refine lw_arg B lwk_55 (k := 6) (jn := 2) rfl rfl rfl rfl rfl rfl (by omega) ?_
  refine x_cV2i F (i := 11) rfl ml_LW_249 ok_KT_look rfl (Nat.le_of_ble_eq_true rfl) (Nat.le_of_ble_eq_true rfl) (fun _ => t_KT_look h1) ?_
  refine x_aload_n F (i := 12) rfl rfl ?_
  refine lw_arg B lwk_55 (k := 13) (jn := 1) rfl rfl rfl rfl rfl rfl (by omega) ?_
  refine lw_arg B lwk_55 (k := 18) (jn := 2) rfl rfl rfl rfl rfl rfl (by omega) ?_
  refine x_cV2i F (i := 23) rfl ml_LW_252 ok_RM_look rfl (Nat.le_of_ble_eq_true rfl) (Nat.le_of_ble_eq_true rfl) (fun _ => t_RM_look h2) ?_
  exact x_icmp_eq F (i := 24) (tgt := 2091) rfl (by decide) (fun _ => kk _ _ hC2 hM2) (fun c => absurd rfl c)
def lwc_56 : List (Nat × Instr × Nat) := [(1943, .aload_n 1, 1), (1944, .aload_n 0, 1), (1945, .iload_n 3, 1), (1946, .iconst 1, 1), (1947, .iadd, 1), (1948, .iaload, 1), (1949, .aload_n 0, 1), (1950, .iload_n 3, 1), (1951, .iconst 2, 1), (1952, .iadd, 1), (1953, .iaload, 1), (1954, .aload_n 0, 1), (1955, .iload_n 3, 1), (1956, .iconst 3, 1), (1957, .iadd, 1), (1958, .iaload, 1), (1959, .invokevirtual 253, 3), (1962, .aload_n 2, 1), (1963, .aload_n 0, 1), (1964, .iload_n 3, 1), (1965, .iconst 1, 1), (1966, .iadd, 1), (1967, .iaload, 1), (1968, .aload_n 0, 1), (1969, .iload_n 3, 1), (1970, .iconst 2, 1), (1971, .iadd, 1), (1972, .iaload, 1), (1973, .aload_n 0, 1), (1974, .iload_n 3, 1), (1975, .iconst 3, 1), (1976, .iadd, 1), (1977, .iaload, 1), (1978, .invokevirtual 256, 3), (1981, .if_icmp .eq 110, 3), (1984, .iconst 0, 1), (1985, .ireturn, 1)]
set_option maxRecDepth 20000 in
theorem lwk_56 : lw_ok code lwc_56 := by
  unfold lw_ok
  decide +kernel
set_option maxHeartbeats 4000000 in
theorem lc_56 {w : kx_W} {n : Nat} {xs : Nat → Int32} {G : Nat → List (Option Value) → List Value → kx_M → Prop} (B : lw_B code w n xs G) (i : Nat) : lw_C w n xs G i 1943 := by
  intro hi M σ hC hM kk
  have F := B.1 lwc_56 lwk_56
  obtain ⟨M1, h1, hC1, hH1⟩ := pC_sure (xs (i + 1)) (xs (i + 2)) (xs (i + 3)) M σ hC
  obtain ⟨M2, h2, hM2, hL2⟩ := pM_sure (xs (i + 1)) (xs (i + 2)) (xs (i + 3)) M1 σ (IM_hi hH1 hM)
  have hC2 := IC_lo hL2 hC1
  refine x_aload_n F (i := 0) rfl rfl ?_
  refine lw_arg B lwk_56 (k := 1) (jn := 1) rfl rfl rfl rfl rfl rfl (by omega) ?_
  refine lw_arg B lwk_56 (k := 6) (jn := 2) rfl rfl rfl rfl rfl rfl (by omega) ?_
  refine lw_arg B lwk_56 (k := 11) (jn := 3) rfl rfl rfl rfl rfl rfl (by omega) ?_
  refine x_cV3i F (i := 16) rfl ml_LW_253 ok_KT_sure rfl (Nat.le_of_ble_eq_true rfl) (Nat.le_of_ble_eq_true rfl) (fun _ => t_KT_sure h1) ?_
  refine x_aload_n F (i := 17) rfl rfl ?_
  refine lw_arg B lwk_56 (k := 18) (jn := 1) rfl rfl rfl rfl rfl rfl (by omega) ?_
  refine lw_arg B lwk_56 (k := 23) (jn := 2) rfl rfl rfl rfl rfl rfl (by omega) ?_
  refine lw_arg B lwk_56 (k := 28) (jn := 3) rfl rfl rfl rfl rfl rfl (by omega) ?_
  refine x_cV3i F (i := 33) rfl ml_LW_256 ok_RM_sure rfl (Nat.le_of_ble_eq_true rfl) (Nat.le_of_ble_eq_true rfl) (fun _ => t_RM_sure h2) ?_
  exact x_icmp_eq F (i := 34) (tgt := 2091) rfl (by decide) (fun _ => kk _ _ hC2 hM2) (fun c => absurd rfl c)
def lwc_57 : List (Nat × Instr × Nat) := [(1986, .aload_n 1, 1), (1987, .aload_n 0, 1), (1988, .iload_n 3, 1), (1989, .iconst 1, 1), (1990, .iadd, 1), (1991, .iaload, 1), (1992, .invokevirtual 257, 3), (1995, .aload_n 2, 1), (1996, .aload_n 0, 1), (1997, .iload_n 3, 1), (1998, .iconst 1, 1), (1999, .iadd, 1), (2000, .iaload, 1), (2001, .invokevirtual 260, 3), (2004, .if_icmp .eq 87, 3), (2007, .iconst 0, 1), (2008, .ireturn, 1)]
set_option maxRecDepth 20000 in
theorem lwk_57 : lw_ok code lwc_57 := by
  unfold lw_ok
  decide +kernel
set_option maxHeartbeats 4000000 in
theorem lc_57 {w : kx_W} {n : Nat} {xs : Nat → Int32} {G : Nat → List (Option Value) → List Value → kx_M → Prop} (B : lw_B code w n xs G) (i : Nat) : lw_C w n xs G i 1986 := by
  intro hi M σ hC hM kk
  have F := B.1 lwc_57 lwk_57
  obtain ⟨M1, h1, hC1, hH1⟩ := pC_live (xs (i + 1)) M σ hC
  obtain ⟨M2, h2, hM2, hL2⟩ := pM_live (xs (i + 1)) M1 σ (IM_hi hH1 hM)
  have hC2 := IC_lo hL2 hC1
  refine x_aload_n F (i := 0) rfl rfl ?_
  refine lw_arg B lwk_57 (k := 1) (jn := 1) rfl rfl rfl rfl rfl rfl (by omega) ?_
  refine x_cV1i F (i := 6) rfl ml_LW_257 ok_KT_live rfl (Nat.le_of_ble_eq_true rfl) (Nat.le_of_ble_eq_true rfl) (fun _ => t_KT_live h1) ?_
  refine x_aload_n F (i := 7) rfl rfl ?_
  refine lw_arg B lwk_57 (k := 8) (jn := 1) rfl rfl rfl rfl rfl rfl (by omega) ?_
  refine x_cV1i F (i := 13) rfl ml_LW_260 ok_RM_live rfl (Nat.le_of_ble_eq_true rfl) (Nat.le_of_ble_eq_true rfl) (fun _ => t_RM_live h2) ?_
  exact x_icmp_eq F (i := 14) (tgt := 2091) rfl (by decide) (fun _ => kk _ _ hC2 hM2) (fun c => absurd rfl c)
def lwc_58 : List (Nat × Instr × Nat) := [(2009, .aload_n 1, 1), (2010, .aload_n 0, 1), (2011, .iload_n 3, 1), (2012, .iconst 1, 1), (2013, .iadd, 1), (2014, .iaload, 1), (2015, .invokevirtual 261, 3), (2018, .aload_n 2, 1), (2019, .aload_n 0, 1), (2020, .iload_n 3, 1), (2021, .iconst 1, 1), (2022, .iadd, 1), (2023, .iaload, 1), (2024, .invokevirtual 264, 3), (2027, .if_icmp .eq 64, 3), (2030, .iconst 0, 1), (2031, .ireturn, 1)]
set_option maxRecDepth 20000 in
theorem lwk_58 : lw_ok code lwc_58 := by
  unfold lw_ok
  decide +kernel
set_option maxHeartbeats 4000000 in
theorem lc_58 {w : kx_W} {n : Nat} {xs : Nat → Int32} {G : Nat → List (Option Value) → List Value → kx_M → Prop} (B : lw_B code w n xs G) (i : Nat) : lw_C w n xs G i 2009 := by
  intro hi M σ hC hM kk
  have F := B.1 lwc_58 lwk_58
  obtain ⟨M1, h1, hC1, hH1⟩ := pC_lived (xs (i + 1)) M σ hC
  obtain ⟨M2, h2, hM2, hL2⟩ := pM_lived (xs (i + 1)) M1 σ (IM_hi hH1 hM)
  have hC2 := IC_lo hL2 hC1
  refine x_aload_n F (i := 0) rfl rfl ?_
  refine lw_arg B lwk_58 (k := 1) (jn := 1) rfl rfl rfl rfl rfl rfl (by omega) ?_
  refine x_cV1i F (i := 6) rfl ml_LW_261 ok_KT_lived rfl (Nat.le_of_ble_eq_true rfl) (Nat.le_of_ble_eq_true rfl) (fun _ => t_KT_lived h1) ?_
  refine x_aload_n F (i := 7) rfl rfl ?_
  refine lw_arg B lwk_58 (k := 8) (jn := 1) rfl rfl rfl rfl rfl rfl (by omega) ?_
  refine x_cV1i F (i := 13) rfl ml_LW_264 ok_RM_lived rfl (Nat.le_of_ble_eq_true rfl) (Nat.le_of_ble_eq_true rfl) (fun _ => t_RM_lived h2) ?_
  exact x_icmp_eq F (i := 14) (tgt := 2091) rfl (by decide) (fun _ => kk _ _ hC2 hM2) (fun c => absurd rfl c)
def lwc_59 : List (Nat × Instr × Nat) := [(2032, .aload_n 1, 1), (2033, .aload_n 0, 1), (2034, .iload_n 3, 1), (2035, .iconst 1, 1), (2036, .iadd, 1), (2037, .iaload, 1), (2038, .aload_n 0, 1), (2039, .iload_n 3, 1), (2040, .iconst 2, 1), (2041, .iadd, 1), (2042, .iaload, 1), (2043, .invokevirtual 265, 3), (2046, .aload_n 2, 1), (2047, .aload_n 0, 1), (2048, .iload_n 3, 1), (2049, .iconst 1, 1), (2050, .iadd, 1), (2051, .iaload, 1), (2052, .aload_n 0, 1), (2053, .iload_n 3, 1), (2054, .iconst 2, 1), (2055, .iadd, 1), (2056, .iaload, 1), (2057, .invokevirtual 268, 3), (2060, .if_icmp .eq 31, 3), (2063, .iconst 0, 1), (2064, .ireturn, 1)]
set_option maxRecDepth 20000 in
theorem lwk_59 : lw_ok code lwc_59 := by
  unfold lw_ok
  decide +kernel
set_option maxHeartbeats 4000000 in
theorem lc_59 {w : kx_W} {n : Nat} {xs : Nat → Int32} {G : Nat → List (Option Value) → List Value → kx_M → Prop} (B : lw_B code w n xs G) (i : Nat) : lw_C w n xs G i 2032 := by
  intro hi M σ hC hM kk
  have F := B.1 lwc_59 lwk_59
  obtain ⟨M1, h1, hC1, hH1⟩ := pC_mean (xs (i + 1)) (xs (i + 2)) M σ hC
  obtain ⟨M2, h2, hM2, hL2⟩ := pM_mean (xs (i + 1)) (xs (i + 2)) M1 σ (IM_hi hH1 hM)
  have hC2 := IC_lo hL2 hC1
  refine x_aload_n F (i := 0) rfl rfl ?_
  refine lw_arg B lwk_59 (k := 1) (jn := 1) rfl rfl rfl rfl rfl rfl (by omega) ?_
  refine lw_arg B lwk_59 (k := 6) (jn := 2) rfl rfl rfl rfl rfl rfl (by omega) ?_
  refine x_cV2i F (i := 11) rfl ml_LW_265 ok_KT_mean rfl (Nat.le_of_ble_eq_true rfl) (Nat.le_of_ble_eq_true rfl) (fun _ => t_KT_mean h1) ?_
  refine x_aload_n F (i := 12) rfl rfl ?_
  refine lw_arg B lwk_59 (k := 13) (jn := 1) rfl rfl rfl rfl rfl rfl (by omega) ?_
  refine lw_arg B lwk_59 (k := 18) (jn := 2) rfl rfl rfl rfl rfl rfl (by omega) ?_
  refine x_cV2i F (i := 23) rfl ml_LW_268 ok_RM_mean rfl (Nat.le_of_ble_eq_true rfl) (Nat.le_of_ble_eq_true rfl) (fun _ => t_RM_mean h2) ?_
  exact x_icmp_eq F (i := 24) (tgt := 2091) rfl (by decide) (fun _ => kk _ _ hC2 hM2) (fun c => absurd rfl c)
def lwc_60 : List (Nat × Instr × Nat) := [(2065, .aload_n 1, 1), (2066, .invokevirtual 269, 3), (2069, .aload_n 2, 1), (2070, .invokevirtual 272, 3), (2073, .if_icmp .eq 18, 3), (2076, .iconst 0, 1), (2077, .ireturn, 1)]
set_option maxRecDepth 20000 in
theorem lwk_60 : lw_ok code lwc_60 := by
  unfold lw_ok
  decide +kernel
set_option maxHeartbeats 4000000 in
theorem lc_60 {w : kx_W} {n : Nat} {xs : Nat → Int32} {G : Nat → List (Option Value) → List Value → kx_M → Prop} (B : lw_B code w n xs G) (i : Nat) : lw_C w n xs G i 2065 := by
  intro hi M σ hC hM kk
  have F := B.1 lwc_60 lwk_60
  obtain ⟨M1, h1, hC1, hH1⟩ := pC_mark  M σ hC
  obtain ⟨M2, h2, hM2, hL2⟩ := pM_mark  M1 σ (IM_hi hH1 hM)
  have hC2 := IC_lo hL2 hC1
  refine x_aload_n F (i := 0) rfl rfl ?_
  refine x_cV0i F (i := 1) rfl ml_LW_269 ok_KT_mark rfl (Nat.le_of_ble_eq_true rfl) (Nat.le_of_ble_eq_true rfl) (fun _ => t_KT_mark h1) ?_
  refine x_aload_n F (i := 2) rfl rfl ?_
  refine x_cV0i F (i := 3) rfl ml_LW_272 ok_RM_mark rfl (Nat.le_of_ble_eq_true rfl) (Nat.le_of_ble_eq_true rfl) (fun _ => t_RM_mark h2) ?_
  exact x_icmp_eq F (i := 4) (tgt := 2091) rfl (by decide) (fun _ => kk _ _ hC2 hM2) (fun c => absurd rfl c)
def lwc_61 : List (Nat × Instr × Nat) := [(2078, .aload_n 1, 1), (2079, .invokevirtual 273, 3), (2082, .aload_n 2, 1), (2083, .invokevirtual 276, 3), (2086, .if_icmp .eq 5, 3), (2089, .iconst 0, 1), (2090, .ireturn, 1)]
set_option maxRecDepth 20000 in
theorem lwk_61 : lw_ok code lwc_61 := by
  unfold lw_ok
  decide +kernel
set_option maxHeartbeats 4000000 in
theorem lc_61 {w : kx_W} {n : Nat} {xs : Nat → Int32} {G : Nat → List (Option Value) → List Value → kx_M → Prop} (B : lw_B code w n xs G) (i : Nat) : lw_C w n xs G i 2078 := by
  intro hi M σ hC hM kk
  have F := B.1 lwc_61 lwk_61
  obtain ⟨M1, h1, hC1, hH1⟩ := pC_back  M σ hC
  obtain ⟨M2, h2, hM2, hL2⟩ := pM_back  M1 σ (IM_hi hH1 hM)
  have hC2 := IC_lo hL2 hC1
  refine x_aload_n F (i := 0) rfl rfl ?_
  refine x_cV0i F (i := 1) rfl ml_LW_273 ok_KT_back rfl (Nat.le_of_ble_eq_true rfl) (Nat.le_of_ble_eq_true rfl) (fun _ => t_KT_back h1) ?_
  refine x_aload_n F (i := 2) rfl rfl ?_
  refine x_cV0i F (i := 3) rfl ml_LW_276 ok_RM_back rfl (Nat.le_of_ble_eq_true rfl) (Nat.le_of_ble_eq_true rfl) (fun _ => t_RM_back h2) ?_
  exact x_icmp_eq F (i := 4) (tgt := 2091) rfl (by decide) (fun _ => kk _ _ hC2 hM2) (fun c => absurd rfl c)
