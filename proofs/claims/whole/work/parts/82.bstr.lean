/-! ## the text of the words: what the JDK does with it -/
def m_Slen : kx_md := (⟨"java/lang/String", "length", "()I"⟩, prog_17_method_54_code, 1, (some .int), [(0, .aload_n 0, 1), (1, .getfield 9, 3), (4, .arraylength, 1), (5, .aload_n 0, 1), (6, .invokevirtual 335, 3), (9, .ishr, 1), (10, .ireturn, 1)])
set_option maxRecDepth 20000 in
theorem ok_Slen : kx_mok m_Slen := ⟨by decide +kernel, kx_in (List.mem_of_getElem? (i := 219) (by decide +kernel)) rfl, kx_in (List.mem_of_getElem? (i := 173) (by decide +kernel)) rfl, by decide +kernel, by decide +kernel⟩
def m_Scod : kx_md := (⟨"java/lang/String", "coder", "()B"⟩, prog_17_method_152_code, 1, (some .byte), [(0, .getstatic 38, 3), (3, .ifCond .eq 10, 3), (6, .aload_n 0, 1), (7, .getfield 15, 3), (10, .goto 4, 3), (13, .iconst 1, 1), (14, .ireturn, 1)])
set_option maxRecDepth 20000 in
theorem ok_Scod : kx_mok m_Scod := ⟨by decide +kernel, kx_in (List.mem_of_getElem? (i := 223) (by decide +kernel)) rfl, kx_in (List.mem_of_getElem? (i := 173) (by decide +kernel)) rfl, by decide +kernel, by decide +kernel⟩
def m_Slat : kx_md := (⟨"java/lang/String", "isLatin1", "()Z"⟩, prog_17_method_154_code, 1, (some .boolean), [(0, .getstatic 38, 3), (3, .ifCond .eq 14, 3), (6, .aload_n 0, 1), (7, .getfield 15, 3), (10, .ifCond .ne 7, 3), (13, .iconst 1, 1), (14, .goto 4, 3), (17, .iconst 0, 1), (18, .ireturn, 1)])
set_option maxRecDepth 20000 in
theorem ok_Slat : kx_mok m_Slat := ⟨by decide +kernel, kx_in (List.mem_of_getElem? (i := 233) (by decide +kernel)) rfl, kx_in (List.mem_of_getElem? (i := 173) (by decide +kernel)) rfl, by decide +kernel, by decide +kernel⟩
def m_Scha : kx_md := (⟨"java/lang/String", "charAt", "(I)C"⟩, prog_17_method_56_code, 2, (some .char), [(0, .aload_n 0, 1), (1, .invokevirtual 492, 3), (4, .ifCond .eq 12, 3), (7, .aload_n 0, 1), (8, .getfield 9, 3), (11, .iload_n 1, 1), (12, .invokestatic 495, 3), (15, .ireturn, 1), (16, .aload_n 0, 1), (17, .getfield 9, 3), (20, .iload_n 1, 1), (21, .invokestatic 498, 3), (24, .ireturn, 1)])
set_option maxRecDepth 20000 in
theorem ok_Scha : kx_mok m_Scha := ⟨by decide +kernel, kx_in (List.mem_of_getElem? (i := 229) (by decide +kernel)) rfl, kx_in (List.mem_of_getElem? (i := 173) (by decide +kernel)) rfl, by decide +kernel, by decide +kernel⟩
def m_Lcha : kx_md := (⟨"java/lang/StringLatin1", "charAt", "([BI)C"⟩, prog_18_method_2_code, 2, (some .char), [(0, .iload_n 1, 1), (1, .aload_n 0, 1), (2, .arraylength, 1), (3, .invokestatic 9, 3), (6, .aload_n 0, 1), (7, .iload_n 1, 1), (8, .baload, 1), (9, .sipush 255, 3), (12, .iand, 1), (13, .i2c, 1), (14, .ireturn, 1)])
set_option maxRecDepth 20000 in
theorem ok_Lcha : kx_mok m_Lcha := ⟨by decide +kernel, kx_in (List.mem_of_getElem? (i := 236) (by decide +kernel)) rfl, kx_in (List.mem_of_getElem? (i := 174) (by decide +kernel)) rfl, by decide +kernel, by decide +kernel⟩
def m_Schk : kx_md := (⟨"java/lang/String", "checkIndex", "(II)V"⟩, prog_17_method_155_code, 2, none, [(0, .iload_n 0, 1), (1, .iload_n 1, 1), (2, .getstatic 1053, 3), (5, .invokestatic 1059, 3), (8, .pop, 1), (9, .return_, 1)])
set_option maxRecDepth 20000 in
theorem ok_Schk : kx_mok m_Schk := ⟨by decide +kernel, kx_in (List.mem_of_getElem? (i := 239) (by decide +kernel)) rfl, kx_in (List.mem_of_getElem? (i := 173) (by decide +kernel)) rfl, by decide +kernel, by decide +kernel⟩
def m_Pchk : kx_md := (⟨"jdk/internal/util/Preconditions", "checkIndex", "(IILjava/util/function/BiFunction;)I"⟩, prog_22_method_11_code, 3, (some .int), [(0, .iload_n 0, 1), (1, .ifCond .lt 8, 3), (4, .iload_n 0, 1), (5, .iload_n 1, 1), (6, .if_icmp .lt 10, 3), (9, .aload_n 2, 1), (10, .iload_n 0, 1), (11, .iload_n 1, 1), (12, .invokestatic 95, 3), (15, .athrow, 1), (16, .iload_n 0, 1), (17, .ireturn, 1)])
set_option maxRecDepth 20000 in
theorem ok_Pchk : kx_mok m_Pchk := ⟨by decide +kernel, kx_in (List.mem_of_getElem? (i := 244) (by decide +kernel)) rfl, kx_in (List.mem_of_getElem? (i := 175) (by decide +kernel)) rfl, by decide +kernel, by decide +kernel⟩
theorem bl_Reader_53 : Cond.methodLink "KnitTreaty$Reader" 53 m_Slen.1 ∈ kx_tb ∧ Cond.instanceMethod m_Slen.1 ∈ kx_tb ∧ Cond.selects m_Slen.1.cls m_Slen.1 m_Slen.1 ∈ kx_tb ∧ kx_par m_Slen 0 ∧ m_Slen.1.cls = "java/lang/String" := ⟨kx_in (List.mem_of_getElem? (i := 216) (by decide +kernel)) rfl, kx_in (List.mem_of_getElem? (i := 217) (by decide +kernel)) rfl, kx_in (List.mem_of_getElem? (i := 218) (by decide +kernel)) rfl, by decide +kernel, rfl⟩
theorem bl_Reader_59 : Cond.methodLink "KnitTreaty$Reader" 59 m_Scha.1 ∈ kx_tb ∧ Cond.instanceMethod m_Scha.1 ∈ kx_tb ∧ Cond.selects m_Scha.1.cls m_Scha.1 m_Scha.1 ∈ kx_tb ∧ kx_par m_Scha 1 ∧ m_Scha.1.cls = "java/lang/String" := ⟨kx_in (List.mem_of_getElem? (i := 226) (by decide +kernel)) rfl, kx_in (List.mem_of_getElem? (i := 227) (by decide +kernel)) rfl, kx_in (List.mem_of_getElem? (i := 228) (by decide +kernel)) rfl, by decide +kernel, rfl⟩
theorem bl_Str_335 : Cond.methodLink "java/lang/String" 335 m_Scod.1 ∈ kx_tb ∧ Cond.instanceMethod m_Scod.1 ∈ kx_tb ∧ Cond.selects m_Scod.1.cls m_Scod.1 m_Scod.1 ∈ kx_tb ∧ kx_par m_Scod 0 ∧ m_Scod.1.cls = "java/lang/String" := ⟨kx_in (List.mem_of_getElem? (i := 220) (by decide +kernel)) rfl, kx_in (List.mem_of_getElem? (i := 221) (by decide +kernel)) rfl, kx_in (List.mem_of_getElem? (i := 222) (by decide +kernel)) rfl, by decide +kernel, rfl⟩
theorem bl_Str_492 : Cond.methodLink "java/lang/String" 492 m_Slat.1 ∈ kx_tb ∧ Cond.instanceMethod m_Slat.1 ∈ kx_tb ∧ Cond.selects m_Slat.1.cls m_Slat.1 m_Slat.1 ∈ kx_tb ∧ kx_par m_Slat 0 ∧ m_Slat.1.cls = "java/lang/String" := ⟨kx_in (List.mem_of_getElem? (i := 230) (by decide +kernel)) rfl, kx_in (List.mem_of_getElem? (i := 231) (by decide +kernel)) rfl, kx_in (List.mem_of_getElem? (i := 232) (by decide +kernel)) rfl, by decide +kernel, rfl⟩
theorem bl_Str_495 : Cond.methodLink "java/lang/String" 495 m_Lcha.1 ∈ kx_tb ∧ Cond.static m_Lcha.1 ∈ kx_tb ∧ kx_par m_Lcha 2 := ⟨kx_in (List.mem_of_getElem? (i := 234) (by decide +kernel)) rfl, kx_in (List.mem_of_getElem? (i := 235) (by decide +kernel)) rfl, by decide +kernel⟩
theorem bl_Str_1059 : Cond.methodLink "java/lang/String" 1059 m_Pchk.1 ∈ kx_tb ∧ Cond.static m_Pchk.1 ∈ kx_tb ∧ kx_par m_Pchk 3 := ⟨kx_in (List.mem_of_getElem? (i := 242) (by decide +kernel)) rfl, kx_in (List.mem_of_getElem? (i := 243) (by decide +kernel)) rfl, by decide +kernel⟩
theorem bl_java_lang_StringLatin1_9 : Cond.methodLink "java/lang/StringLatin1" 9 m_Schk.1 ∈ kx_tb ∧ Cond.static m_Schk.1 ∈ kx_tb ∧ kx_par m_Schk 2 := ⟨kx_in (List.mem_of_getElem? (i := 237) (by decide +kernel)) rfl, kx_in (List.mem_of_getElem? (i := 238) (by decide +kernel)) rfl, by decide +kernel⟩
theorem bf_9 : Cond.fieldLink "java/lang/String" 9 "java/lang/String" "value" "[B" ∈ kx_tb := kx_in (List.mem_of_getElem? (i := 2395) (by decide +kernel)) rfl
theorem bf_15 : Cond.fieldLink "java/lang/String" 15 "java/lang/String" "coder" "B" ∈ kx_tb := kx_in (List.mem_of_getElem? (i := 2396) (by decide +kernel)) rfl
theorem bf_38 : Cond.fieldLink "java/lang/String" 38 "java/lang/String" "COMPACT_STRINGS" "Z" ∈ kx_tb := kx_in (List.mem_of_getElem? (i := 224) (by decide +kernel)) rfl
theorem bf_1053 : Cond.fieldLink "java/lang/String" 1053 "jdk/internal/util/Preconditions" "SIOOBE_FORMATTER" "Ljava/util/function/BiFunction;" ∈ kx_tb := kx_in (List.mem_of_getElem? (i := 240) (by decide +kernel)) rfl
theorem bytW_n : ([bytW.length] : List Nat).getD 0 0 = 136 := by decide +kernel
theorem l1_g (x : List Int32) : ([x] : List (List Int32)).getD 0 [] = x := rfl
theorem bytW_g : ([bytW] : List (List Int32)).getD 0 [] = bytW := l1_g _
theorem bytW_v : ∀ k, k < 136 → ((bytW.getD k 0 &&& 255).toUInt32 % 65536).toInt32 = bytW.getD k 0 ∧ narrow .char (.int (bytW.getD k 0)) = .int (bytW.getD k 0) := by decide +kernel
section
variable {w : kx_W} {d mc ms : Nat} {own nm : String} {b : ByteArray} {nL : Nat} {cl : List (Nat × Instr × Nat)} {G : Nat → List (Option Value) → List Value → bx_St → Prop} {i pc : Nat} {L : List (Option Value)} {S : List Value} {M : bx_St}
theorem y_i2c (F : bx_Sb w d mc ms own nm b nL cl G) {x v : Int32} (hi : cl[i]? = some (pc, .i2c, 1)) (hv : (x.toUInt32 % 65536).toInt32 = v) (k : G (pc + 1) L (.int v :: S) M) : G pc L (.int x :: S) M := by
  obtain ⟨p, e, R, s, mi, args, below, meth, c, Qf, rfl, hx, hb, hml, hown, hts, hK, hSt, hba, hroom, hini, hdec⟩ := F
  have h1 := hdec _ (List.mem_of_getElem? hi)
  intro H locs ls hP hz hS hl
  exact lv_i2c hx hb h1 hv (k H locs ls hP hz hS hl)
theorem y_ldcS (F : bx_Sb w d mc ms "KnitTreaty$Reader" nm b nL cl G) (hi : cl[i]? = some (pc, .ldc 51, 2)) (k : G (pc + 2) L (.retAddr 1 :: S) M) : G pc L S M := by
  obtain ⟨p, e, R, s, mi, args, below, meth, c, Qf, rfl, hx, hb, hml, hown, hts, hK, hSt, hba, hroom, hini, hdec⟩ := F
  have h1 := hdec _ (List.mem_of_getElem? hi)
  intro H locs ls hP hz hS hl
  exact va_ldcS hx hb hown hSt.2.2.2.1 h1 (k H locs ls hP hz hS hl)
theorem y_getV (F : bx_Sb w d mc ms "java/lang/String" nm b nL cl G) (hi : cl[i]? = some (pc, .getfield 9, 3)) (k : G (pc + 3) L (.retAddr 2 :: S) M) : G pc L (.retAddr 1 :: S) M := by
  obtain ⟨p, e, R, s, mi, args, below, meth, c, Qf, rfl, hx, hb, hml, hown, hts, hK, hSt, hba, hroom, hini, hdec⟩ := F
  have h1 := hdec _ (List.mem_of_getElem? hi)
  intro H locs ls hP hz hS hl
  exact vk_getf hx hb (hSt.1.1 0 (by decide)).2.2.1 hS hown (hts _ bf_9) (fun _ h => h) h1 (k H locs ls hP hz hS hl)
theorem y_getC (F : bx_Sb w d mc ms "java/lang/String" nm b nL cl G) (hi : cl[i]? = some (pc, .getfield 15, 3)) (k : G (pc + 3) L (.int 0 :: S) M) : G pc L (.retAddr 1 :: S) M := by
  obtain ⟨p, e, R, s, mi, args, below, meth, c, Qf, rfl, hx, hb, hml, hown, hts, hK, hSt, hba, hroom, hini, hdec⟩ := F
  have h1 := hdec _ (List.mem_of_getElem? hi)
  intro H locs ls hP hz hS hl
  exact vk_getf hx hb (hSt.1.1 0 (by decide)).2.1 hS hown (hts _ bf_15) (fun _ h => h) h1 (k H locs ls hP hz hS hl)
theorem y_gsC (F : bx_Sb w d mc ms "java/lang/String" nm b nL cl G) (hi : cl[i]? = some (pc, .getstatic 38, 3)) (k : G (pc + 3) L (.int 1 :: S) M) : G pc L S M := by
  obtain ⟨p, e, R, s, mi, args, below, meth, c, Qf, rfl, hx, hb, hml, hown, hts, hK, hSt, hba, hroom, hini, hdec⟩ := F
  have h1 := hdec _ (List.mem_of_getElem? hi)
  intro H locs ls hP hz hS hl
  exact va_gets hx hb hSt.2.1 hS hown (hts _ bf_38) (fun _ h => h) h1 (k H locs ls hP hz hS hl)
theorem y_gsP (F : bx_Sb w d mc ms "java/lang/String" nm b nL cl G) (hi : cl[i]? = some (pc, .getstatic 1053, 3)) (k : ∀ v0 : Value, (v0 = .null ∨ v0 = .retAddr 4) → G (pc + 3) L (v0 :: S) M) : G pc L S M := by
  obtain ⟨p, e, R, s, mi, args, below, meth, c, Qf, rfl, hx, hb, hml, hown, hts, hK, hSt, hba, hroom, hini, hdec⟩ := F
  have h1 := hdec _ (List.mem_of_getElem? hi)
  intro H locs ls hP hz hS hl
  obtain ⟨v0, hv, hZ⟩ := hSt.2.2.1
  exact va_gets hx hb hZ hS hown (hts _ bf_1053) (fun _ h => h) h1 (k v0 hv H locs ls hP hz hS hl)
theorem y_blen (F : bx_Sb w d mc ms own nm b nL cl G) (hi : cl[i]? = some (pc, .arraylength, 1)) (k : G (pc + 1) L (.int 136 :: S) M) : G pc L (.retAddr 2 :: S) M := by
  obtain ⟨p, e, R, s, mi, args, below, meth, c, Qf, rfl, hx, hb, hml, hown, hts, hK, hSt, hba, hroom, hini, hdec⟩ := F
  have h1 := hdec _ (List.mem_of_getElem? hi)
  intro H locs ls hP hz hS hl
  exact va_tlen hx hb (hSt.1.1 0 (by decide)).2.2.2 hS (by rw [bytW_n]; rfl) h1 (k H locs ls hP hz hS hl)
theorem y_bald (F : bx_Sb w d mc ms own nm b nL cl G) {j : Nat} (hj : j < 136) (hi : cl[i]? = some (pc, .baload, 1)) (k : G (pc + 1) L (.int (bytW.getD j 0) :: S) M) : G pc L (.int (nI j) :: .retAddr 2 :: S) M := by
  obtain ⟨p, e, R, s, mi, args, below, meth, c, Qf, rfl, hx, hb, hml, hown, hts, hK, hSt, hba, hroom, hini, hdec⟩ := F
  have h1 := hdec _ (List.mem_of_getElem? hi)
  intro H locs ls hP hz hS hl
  exact va_tb hx hb (hSt.1.1 0 (by decide)).2.2.2 hS (by rw [bytW_n]; exact vp_in_nI hj (by omega)) (by rw [bytW_g, nI_clamp (by omega)]; rfl) h1 (k H locs ls hP hz hS hl)
/-- a method of the text is called -/
theorem y_callV (F : bx_Sb w (d + 1) mc ms own nm b nL cl G) {idx n : Nat} {m' : kx_md} {As st : List Value} {v : Value} (hi : cl[i]? = some (pc, .invokevirtual idx, 3)) (hm : Cond.methodLink own idx m'.1 ∈ kx_tb ∧ Cond.instanceMethod m'.1 ∈ kx_tb ∧ Cond.selects m'.1.cls m'.1 m'.1 ∈ kx_tb ∧ kx_par m' n ∧ m'.1.cls = "java/lang/String") (ok : kx_mok m') (hst : st = As.reverse ++ .retAddr 1 :: S) (hn : As.length = n) (hrest : (S.map fun v => v.category).sum ≤ 8) (hml' : m'.2.2.1 ≤ 45) (hC : Bt w d 0 0 m' (.retAddr 1 :: As) M.1 (fun r E => r = some v ∧ E = M.1)) (hc : M.2.1 ≤ mc) (hs : M.2.2 ≤ ms) (k : G (pc + 3) L (v :: S) M) : G pc L st M := by
  obtain ⟨p, e, R, s, mi, args, below, meth, c, Qf, rfl, hx, hb, hml, hown, hts, hK, hSt, hba, hroom, hini, hdec⟩ := F
  have h1 := hdec _ (List.mem_of_getElem? hi)
  intro H locs ls hP hz hS hl
  obtain ⟨hm1, hm2, hm3, hm4, hm5⟩ := hm
  have hrec := vk_recv (i := 0) hSt.1 (by decide) hS
  rw [← hm5] at hrec
  have hpre := bx_pre (av := (Value.retAddr 1 :: As).map (kx_cv w)) hP hz hK hSt hS
  have hG : GoodIn kx_tb (wsV own idx m'.1.cls m'.1 (kx_wd m')) := by
    intro x hx1
    rcases List.mem_append.mp hx1 with h | h
    · simp only [List.mem_cons, List.not_mem_nil, or_false] at h
      rcases h with rfl | rfl | rfl | rfl
      · exact kx_tb_good _ hm1
      · exact kx_tb_good _ hm2
      · exact kx_tb_good _ hm3
      · exact kx_tb_good _ ok.2.2.1
    · exact kx_wd_good ok x h
  subst hst
  have hr := va_runV (As := As.map (kx_cv w)) (rest := S.map (kx_cv w)) (g := F0 mi pc ls ((As.reverse ++ .retAddr 1 :: S).map (kx_cv w))) (H := H) (locs := locs) (cells := M.2.1) (slots := M.2.2) (e := e) (below := below) (meth := meth) (args := args) (R := R) (b := w.2.2.2.2 1) ⟨hx, hb, hml, hown, hts⟩ hC
    (cwV n hts hG rfl rfl rfl ⟨rfl, ok.2.2.2.1.1, ok.2.2.2.1.2, hm4⟩ ⟨Nat.le_trans (Nat.le_refl _) hroom.1, by have := hroom.2.1; show 8 + (m'.2.2.1 + 11) + 64 * d ≤ R.locals; omega⟩)
    ⟨hpre.1, hrec, hpre.2⟩ rfl (by rw [List.length_map]; exact hn) hl.1 (by show List.map _ _ = _; rw [List.map_append, List.map_reverse]; rfl) (lv_room (by rw [kx_cat]; exact hrest)) h1 ⟨by have := hroom.2.2.1; omega, by have := hroom.2.2.2; omega⟩
  refine bx_go hr hS (fun r E1 H1 locs1 hQ hP1 hz1 hS1 => ?_)
  obtain ⟨rfl, rfl⟩ := hQ
  exact k H1 locs1 ls hP1 hz1 hS1 hl
theorem y_callS (F : bx_Sb w (d + 1) mc ms own nm b nL cl G) {idx n : Nat} {m' : kx_md} {As st : List Value} {v : Option Value} (hi : cl[i]? = some (pc, .invokestatic idx, 3)) (hm : Cond.methodLink own idx m'.1 ∈ kx_tb ∧ Cond.static m'.1 ∈ kx_tb ∧ kx_par m' n) (ok : kx_mok m') (hst : st = As.reverse ++ S) (hn : As.length = n) (hrest : (S.map fun v => v.category).sum ≤ 8) (hml' : m'.2.2.1 ≤ 45) (hC : Bt w d 0 0 m' As M.1 (fun r E => r = v ∧ E = M.1)) (hc : M.2.1 ≤ mc) (hs : M.2.2 ≤ ms) (k : G (pc + 3) L (v.toList ++ S) M) : G pc L st M := by
  obtain ⟨p, e, R, s, mi, args, below, meth, c, Qf, rfl, hx, hb, hml, hown, hts, hK, hSt, hba, hroom, hini, hdec⟩ := F
  have h1 := hdec _ (List.mem_of_getElem? hi)
  intro H locs ls hP hz hS hl
  obtain ⟨hm1, hm2, hm4⟩ := hm
  have hpre := bx_pre (av := As.map (kx_cv w)) hP hz hK hSt hS
  have hG : GoodIn kx_tb (va_wsS own idx m'.1 (kx_wd m')) := by
    intro x hx1
    rcases List.mem_append.mp hx1 with h | h
    · simp only [List.mem_cons, List.not_mem_nil, or_false] at h
      rcases h with rfl | rfl | rfl
      · exact kx_tb_good _ hm1
      · exact kx_tb_good _ hm2
      · exact kx_tb_good _ ok.2.2.1
    · exact kx_wd_good ok x h
  subst hst
  have hr := va_runS (As := As.map (kx_cv w)) (rest := S.map (kx_cv w)) (g := F0 mi pc ls ((As.reverse ++ S).map (kx_cv w))) (H := H) (locs := locs) (cells := M.2.1) (slots := M.2.2) (e := e) (below := below) (meth := meth) (args := args) (R := R) ⟨hx, hb, hml, hown, hts⟩ hC
    (va_cwS n hts hG rfl rfl rfl ⟨ok.2.2.2.1.1, ok.2.2.2.1.2, hm4⟩ ⟨Nat.le_trans (Nat.le_refl _) hroom.1, by have := hroom.2.1; show 8 + (m'.2.2.1 + 11) + 64 * d ≤ R.locals; omega⟩)
    hpre rfl (by rw [List.length_map]; exact hn) hl.1 (by show List.map _ _ = _; rw [List.map_append, List.map_reverse]) (lv_room (by rw [kx_cat]; exact hrest)) h1 ⟨by have := hroom.2.2.1; omega, by have := hroom.2.2.2; omega⟩
  refine bx_go hr hS (fun r E1 H1 locs1 hQ hP1 hz1 hS1 => ?_)
  obtain ⟨rfl, rfl⟩ := hQ
  rw [kx_stack]
  exact k H1 locs1 ls hP1 hz1 hS1 hl
end
theorem b_Scod {w : kx_W} {d : Nat} (E : List va_E) : Bt w d 0 0 m_Scod [.retAddr 1] E (fun r E' => r = some (.int 0) ∧ E' = E) := by
  refine mk_bt ok_Scod (Nat.le_of_ble_eq_true rfl) (fun G F => ?_)
  show G 0 [some (.retAddr 1)] [] (E, 0, 0)
  refine y_gsC F.1 (i := 0) rfl ?_
  refine y_if_eq F.1 (i := 1) (tgt := 13) rfl (by decide) (fun c => absurd c (by decide)) (fun c => ?_)
  refine y_aloadz_n F.1 (i := 2) rfl rfl ?_
  refine y_getC F.1 (i := 3) rfl ?_
  refine y_goto F.1 (i := 4) (tgt := 14) rfl (by decide) ?_
  exact y_iret F (i := 6) rfl rfl rfl (Nat.le_refl _) (Nat.le_refl _) ⟨rfl, rfl⟩
theorem b_Slat {w : kx_W} {d : Nat} (E : List va_E) : Bt w d 0 0 m_Slat [.retAddr 1] E (fun r E' => r = some (.int 1) ∧ E' = E) := by
  refine mk_bt ok_Slat (Nat.le_of_ble_eq_true rfl) (fun G F => ?_)
  show G 0 [some (.retAddr 1)] [] (E, 0, 0)
  refine y_gsC F.1 (i := 0) rfl ?_
  refine y_if_eq F.1 (i := 1) (tgt := 17) rfl (by decide) (fun c => absurd c (by decide)) (fun c => ?_)
  refine y_aloadz_n F.1 (i := 2) rfl rfl ?_
  refine y_getC F.1 (i := 3) rfl ?_
  refine y_if_ne F.1 (i := 4) (tgt := 17) rfl (by decide) (fun c => absurd rfl c) (fun c => ?_)
  refine y_iconst F.1 (i := 5) (v := 1) rfl (by decide) ?_
  refine y_goto F.1 (i := 6) (tgt := 18) rfl (by decide) ?_
  exact y_iret F (i := 8) rfl rfl rfl (Nat.le_refl _) (Nat.le_refl _) ⟨rfl, rfl⟩
theorem b_Slen {w : kx_W} {d : Nat} (E : List va_E) : Bt w (d + 1) 0 0 m_Slen [.retAddr 1] E (fun r E' => r = some (.int 136) ∧ E' = E) := by
  refine mk_bt ok_Slen (Nat.le_of_ble_eq_true rfl) (fun G F => ?_)
  show G 0 [some (.retAddr 1)] [] (E, 0, 0)
  refine y_aloadz_n F.1 (i := 0) rfl rfl ?_
  refine y_getV F.1 (i := 1) rfl ?_
  refine y_blen F.1 (i := 2) rfl ?_
  refine y_aloadz_n F.1 (i := 3) rfl rfl ?_
  refine y_callV F.1 (i := 4) (As := []) rfl bl_Str_335 ok_Scod rfl rfl (Nat.le_of_ble_eq_true rfl) (Nat.le_of_ble_eq_true rfl) (b_Scod E) (Nat.le_refl _) (Nat.le_refl _) ?_
  refine y_ishr F.1 (i := 5) rfl ?_
  exact y_iret F (i := 6) rfl rfl rfl (Nat.le_refl _) (Nat.le_refl _) ⟨congrArg _ (congrArg _ (by decide)), rfl⟩
theorem b_Pchk {w : kx_W} {d j : Nat} (hj : j < 136) (E : List va_E) {v0 : Value} (hv : v0 = .null ∨ v0 = .retAddr 4) : Bt w d 0 0 m_Pchk [.int (nI j), .int 136, v0] E (fun r E' => r = some (.int (nI j)) ∧ E' = E) := by
  have he : kx_e [v0] = [some v0] := by rcases hv with rfl | rfl <;> rfl
  have hl : (kx_e [.int (nI j), .int 136, v0]).length ≤ m_Pchk.2.2.1 := by rcases hv with rfl | rfl <;> exact Nat.le_of_ble_eq_true rfl
  refine mk_bt ok_Pchk hl (fun G F => ?_)
  have h0 : kx_en0 [.int (nI j), .int 136, v0] m_Pchk.2.2.1 = [some (.int (nI j)), some (.int 136), some v0] := by rcases hv with rfl | rfl <;> rfl
  rw [h0]
  refine y_iload_n F.1 (i := 0) rfl rfl ?_
  refine y_if_lt F.1 (i := 1) (tgt := 9) rfl (by decide) (fun c => absurd c (nI_pos (by omega))) (fun c => ?_)
  refine y_iload_n F.1 (i := 2) rfl rfl ?_
  refine y_iload_n F.1 (i := 3) rfl rfl ?_
  refine y_icmp_lt F.1 (i := 4) (tgt := 16) rfl (by decide) (fun c => ?_) (fun c => absurd (show nI j < (136 : Int32) from nI_lt (b := 136) hj (by decide)) c)
  refine y_iload_n F.1 (i := 10) rfl rfl ?_
  exact y_iret F (i := 11) rfl rfl rfl (Nat.le_refl _) (Nat.le_refl _) ⟨rfl, rfl⟩
theorem b_Schk {w : kx_W} {d j : Nat} (hj : j < 136) (E : List va_E) : Bt w (d + 1) 0 0 m_Schk [.int (nI j), .int 136] E (fun r E' => r = none ∧ E' = E) := by
  refine mk_bt ok_Schk (Nat.le_of_ble_eq_true rfl) (fun G F => ?_)
  show G 0 [some (.int (nI j)), some (.int 136)] [] (E, 0, 0)
  refine y_iload_n F.1 (i := 0) rfl rfl ?_
  refine y_iload_n F.1 (i := 1) rfl rfl ?_
  refine y_gsP F.1 (i := 2) rfl (fun v0 hv => ?_)
  refine y_callS F.1 (i := 3) (As := [.int (nI j), .int 136, v0]) (v := some (.int (nI j))) rfl bl_Str_1059 ok_Pchk rfl rfl (Nat.le_of_ble_eq_true rfl) (Nat.le_of_ble_eq_true rfl) (b_Pchk hj E hv) (Nat.le_refl _) (Nat.le_refl _) ?_
  refine y_pop F.1 (i := 4) rfl rfl ?_
  exact y_vret F (i := 5) rfl rfl (Nat.le_refl _) (Nat.le_refl _) ⟨rfl, rfl⟩
theorem b_Lcha {w : kx_W} {d j : Nat} (hj : j < 136) (E : List va_E) : Bt w (d + 2) 0 0 m_Lcha [.retAddr 2, .int (nI j)] E (fun r E' => r = some (.int (bytW.getD j 0)) ∧ E' = E) := by
  refine mk_bt ok_Lcha (Nat.le_of_ble_eq_true rfl) (fun G F => ?_)
  show G 0 [some (.retAddr 2), some (.int (nI j))] [] (E, 0, 0)
  refine y_iload_n F.1 (i := 0) rfl rfl ?_
  refine y_aloadz_n F.1 (i := 1) rfl rfl ?_
  refine y_blen F.1 (i := 2) rfl ?_
  refine y_callS F.1 (i := 3) (As := [.int (nI j), .int 136]) (v := none) rfl bl_java_lang_StringLatin1_9 ok_Schk rfl rfl (Nat.le_of_ble_eq_true rfl) (Nat.le_of_ble_eq_true rfl) (b_Schk hj E) (Nat.le_refl _) (Nat.le_refl _) ?_
  refine y_aloadz_n F.1 (i := 4) rfl rfl ?_
  refine y_iload_n F.1 (i := 5) rfl rfl ?_
  refine y_bald F.1 (i := 6) hj rfl ?_
  refine y_sipush F.1 (i := 7) (v := 255) rfl (by decide) ?_
  refine y_iand F.1 (i := 8) rfl ?_
  refine y_i2c F.1 (i := 9) rfl (bytW_v j hj).1 ?_
  exact y_iret F (i := 10) rfl rfl (bytW_v j hj).2 (Nat.le_refl _) (Nat.le_refl _) ⟨rfl, rfl⟩
theorem b_Scha {w : kx_W} {d j : Nat} (hj : j < 136) (E : List va_E) : Bt w (d + 3) 0 0 m_Scha [.retAddr 1, .int (nI j)] E (fun r E' => r = some (.int (bytW.getD j 0)) ∧ E' = E) := by
  refine mk_bt ok_Scha (Nat.le_of_ble_eq_true rfl) (fun G F => ?_)
  show G 0 [some (.retAddr 1), some (.int (nI j))] [] (E, 0, 0)
  refine y_aloadz_n F.1 (i := 0) rfl rfl ?_
  refine y_callV F.1 (i := 1) (As := []) rfl bl_Str_492 ok_Slat rfl rfl (Nat.le_of_ble_eq_true rfl) (Nat.le_of_ble_eq_true rfl) (b_Slat E) (Nat.le_refl _) (Nat.le_refl _) ?_
  refine y_if_eq F.1 (i := 2) (tgt := 16) rfl (by decide) (fun c => absurd c (by decide)) (fun c => ?_)
  refine y_aloadz_n F.1 (i := 3) rfl rfl ?_
  refine y_getV F.1 (i := 4) rfl ?_
  refine y_iload_n F.1 (i := 5) rfl rfl ?_
  refine y_callS F.1 (i := 6) (As := [.retAddr 2, .int (nI j)]) (v := some (.int (bytW.getD j 0))) rfl bl_Str_495 ok_Lcha rfl rfl (Nat.le_of_ble_eq_true rfl) (Nat.le_of_ble_eq_true rfl) (b_Lcha hj E) (Nat.le_refl _) (Nat.le_refl _) ?_
  exact y_iret F (i := 7) rfl rfl (bytW_v j hj).2 (Nat.le_refl _) (Nat.le_refl _) ⟨rfl, rfl⟩
