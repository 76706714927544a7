/-! ## the law's strings: what the JDK does with them; the script -/
def m_Slen : kx_md := (⟨"java/lang/String", "length", "()I"⟩, prog_17_method_54_code, 1, (some .int), [(0, .aload_n 0, 1), (1, .getfield 9, 3), (4, .arraylength, 1), (5, .aload_n 0, 1), (6, .invokevirtual 335, 3), (9, .ishr, 1), (10, .ireturn, 1)])
set_option maxRecDepth 20000 in
theorem ok_Slen : kx_mok m_Slen := ⟨by decide +kernel, kx_in (List.mem_of_getElem? (i := 101) (by decide +kernel)) rfl, kx_in (List.mem_of_getElem? (i := 56) (by decide +kernel)) rfl, by decide +kernel, by decide +kernel⟩
def m_Scod : kx_md := (⟨"java/lang/String", "coder", "()B"⟩, prog_17_method_152_code, 1, (some .byte), [(0, .getstatic 38, 3), (3, .ifCond .eq 10, 3), (6, .aload_n 0, 1), (7, .getfield 15, 3), (10, .goto 4, 3), (13, .iconst 1, 1), (14, .ireturn, 1)])
set_option maxRecDepth 20000 in
theorem ok_Scod : kx_mok m_Scod := ⟨by decide +kernel, kx_in (List.mem_of_getElem? (i := 105) (by decide +kernel)) rfl, kx_in (List.mem_of_getElem? (i := 56) (by decide +kernel)) rfl, by decide +kernel, by decide +kernel⟩
def m_Slat : kx_md := (⟨"java/lang/String", "isLatin1", "()Z"⟩, prog_17_method_154_code, 1, (some .boolean), [(0, .getstatic 38, 3), (3, .ifCond .eq 14, 3), (6, .aload_n 0, 1), (7, .getfield 15, 3), (10, .ifCond .ne 7, 3), (13, .iconst 1, 1), (14, .goto 4, 3), (17, .iconst 0, 1), (18, .ireturn, 1)])
set_option maxRecDepth 20000 in
theorem ok_Slat : kx_mok m_Slat := ⟨by decide +kernel, kx_in (List.mem_of_getElem? (i := 115) (by decide +kernel)) rfl, kx_in (List.mem_of_getElem? (i := 56) (by decide +kernel)) rfl, by decide +kernel, by decide +kernel⟩
def m_Scha : kx_md := (⟨"java/lang/String", "charAt", "(I)C"⟩, prog_17_method_56_code, 2, (some .char), [(0, .aload_n 0, 1), (1, .invokevirtual 492, 3), (4, .ifCond .eq 12, 3), (7, .aload_n 0, 1), (8, .getfield 9, 3), (11, .iload_n 1, 1), (12, .invokestatic 495, 3), (15, .ireturn, 1), (16, .aload_n 0, 1), (17, .getfield 9, 3), (20, .iload_n 1, 1), (21, .invokestatic 498, 3), (24, .ireturn, 1)])
set_option maxRecDepth 20000 in
theorem ok_Scha : kx_mok m_Scha := ⟨by decide +kernel, kx_in (List.mem_of_getElem? (i := 111) (by decide +kernel)) rfl, kx_in (List.mem_of_getElem? (i := 56) (by decide +kernel)) rfl, by decide +kernel, by decide +kernel⟩
def m_Lcha : kx_md := (⟨"java/lang/StringLatin1", "charAt", "([BI)C"⟩, prog_18_method_2_code, 2, (some .char), [(0, .iload_n 1, 1), (1, .aload_n 0, 1), (2, .arraylength, 1), (3, .invokestatic 9, 3), (6, .aload_n 0, 1), (7, .iload_n 1, 1), (8, .baload, 1), (9, .sipush 255, 3), (12, .iand, 1), (13, .i2c, 1), (14, .ireturn, 1)])
set_option maxRecDepth 20000 in
theorem ok_Lcha : kx_mok m_Lcha := ⟨by decide +kernel, kx_in (List.mem_of_getElem? (i := 118) (by decide +kernel)) rfl, kx_in (List.mem_of_getElem? (i := 57) (by decide +kernel)) rfl, by decide +kernel, by decide +kernel⟩
def m_Schk : kx_md := (⟨"java/lang/String", "checkIndex", "(II)V"⟩, prog_17_method_155_code, 2, none, [(0, .iload_n 0, 1), (1, .iload_n 1, 1), (2, .getstatic 1053, 3), (5, .invokestatic 1059, 3), (8, .pop, 1), (9, .return_, 1)])
set_option maxRecDepth 20000 in
theorem ok_Schk : kx_mok m_Schk := ⟨by decide +kernel, kx_in (List.mem_of_getElem? (i := 121) (by decide +kernel)) rfl, kx_in (List.mem_of_getElem? (i := 56) (by decide +kernel)) rfl, by decide +kernel, by decide +kernel⟩
def m_Pchk : kx_md := (⟨"jdk/internal/util/Preconditions", "checkIndex", "(IILjava/util/function/BiFunction;)I"⟩, prog_22_method_11_code, 3, (some .int), [(0, .iload_n 0, 1), (1, .ifCond .lt 8, 3), (4, .iload_n 0, 1), (5, .iload_n 1, 1), (6, .if_icmp .lt 10, 3), (9, .aload_n 2, 1), (10, .iload_n 0, 1), (11, .iload_n 1, 1), (12, .invokestatic 95, 3), (15, .athrow, 1), (16, .iload_n 0, 1), (17, .ireturn, 1)])
set_option maxRecDepth 20000 in
theorem ok_Pchk : kx_mok m_Pchk := ⟨by decide +kernel, kx_in (List.mem_of_getElem? (i := 126) (by decide +kernel)) rfl, kx_in (List.mem_of_getElem? (i := 58) (by decide +kernel)) rfl, by decide +kernel, by decide +kernel⟩
theorem bl_Reader_53 : Cond.methodLink "KnitTreaty$Reader" 53 m_Slen.1 ∈ kx_tb ∧ Cond.instanceMethod m_Slen.1 ∈ kx_tb ∧ Cond.selects m_Slen.1.cls m_Slen.1 m_Slen.1 ∈ kx_tb ∧ kx_par m_Slen 0 ∧ m_Slen.1.cls = "java/lang/String" := ⟨kx_in (List.mem_of_getElem? (i := 98) (by decide +kernel)) rfl, kx_in (List.mem_of_getElem? (i := 99) (by decide +kernel)) rfl, kx_in (List.mem_of_getElem? (i := 100) (by decide +kernel)) rfl, by decide +kernel, rfl⟩
theorem bl_Reader_59 : Cond.methodLink "KnitTreaty$Reader" 59 m_Scha.1 ∈ kx_tb ∧ Cond.instanceMethod m_Scha.1 ∈ kx_tb ∧ Cond.selects m_Scha.1.cls m_Scha.1 m_Scha.1 ∈ kx_tb ∧ kx_par m_Scha 1 ∧ m_Scha.1.cls = "java/lang/String" := ⟨kx_in (List.mem_of_getElem? (i := 108) (by decide +kernel)) rfl, kx_in (List.mem_of_getElem? (i := 109) (by decide +kernel)) rfl, kx_in (List.mem_of_getElem? (i := 110) (by decide +kernel)) rfl, by decide +kernel, rfl⟩
theorem bl_LW_22 : Cond.methodLink "KnitTreatyLaw" 22 m_Slen.1 ∈ kx_tb ∧ Cond.instanceMethod m_Slen.1 ∈ kx_tb ∧ Cond.selects m_Slen.1.cls m_Slen.1 m_Slen.1 ∈ kx_tb ∧ kx_par m_Slen 0 ∧ m_Slen.1.cls = "java/lang/String" := ⟨kx_in (List.mem_of_getElem? (i := 1053) (by decide +kernel)) rfl, kx_in (List.mem_of_getElem? (i := 99) (by decide +kernel)) rfl, kx_in (List.mem_of_getElem? (i := 100) (by decide +kernel)) rfl, by decide +kernel, rfl⟩
theorem bl_LW_28 : Cond.methodLink "KnitTreatyLaw" 28 m_Scha.1 ∈ kx_tb ∧ Cond.instanceMethod m_Scha.1 ∈ kx_tb ∧ Cond.selects m_Scha.1.cls m_Scha.1 m_Scha.1 ∈ kx_tb ∧ kx_par m_Scha 1 ∧ m_Scha.1.cls = "java/lang/String" := ⟨kx_in (List.mem_of_getElem? (i := 1054) (by decide +kernel)) rfl, kx_in (List.mem_of_getElem? (i := 109) (by decide +kernel)) rfl, kx_in (List.mem_of_getElem? (i := 110) (by decide +kernel)) rfl, by decide +kernel, rfl⟩
theorem bl_Str_335 : Cond.methodLink "java/lang/String" 335 m_Scod.1 ∈ kx_tb ∧ Cond.instanceMethod m_Scod.1 ∈ kx_tb ∧ Cond.selects m_Scod.1.cls m_Scod.1 m_Scod.1 ∈ kx_tb ∧ kx_par m_Scod 0 ∧ m_Scod.1.cls = "java/lang/String" := ⟨kx_in (List.mem_of_getElem? (i := 102) (by decide +kernel)) rfl, kx_in (List.mem_of_getElem? (i := 103) (by decide +kernel)) rfl, kx_in (List.mem_of_getElem? (i := 104) (by decide +kernel)) rfl, by decide +kernel, rfl⟩
theorem bl_Str_492 : Cond.methodLink "java/lang/String" 492 m_Slat.1 ∈ kx_tb ∧ Cond.instanceMethod m_Slat.1 ∈ kx_tb ∧ Cond.selects m_Slat.1.cls m_Slat.1 m_Slat.1 ∈ kx_tb ∧ kx_par m_Slat 0 ∧ m_Slat.1.cls = "java/lang/String" := ⟨kx_in (List.mem_of_getElem? (i := 112) (by decide +kernel)) rfl, kx_in (List.mem_of_getElem? (i := 113) (by decide +kernel)) rfl, kx_in (List.mem_of_getElem? (i := 114) (by decide +kernel)) rfl, by decide +kernel, rfl⟩
theorem bl_Str_495 : Cond.methodLink "java/lang/String" 495 m_Lcha.1 ∈ kx_tb ∧ Cond.static m_Lcha.1 ∈ kx_tb ∧ kx_par m_Lcha 2 := ⟨kx_in (List.mem_of_getElem? (i := 116) (by decide +kernel)) rfl, kx_in (List.mem_of_getElem? (i := 117) (by decide +kernel)) rfl, by decide +kernel⟩
theorem bl_Str_1059 : Cond.methodLink "java/lang/String" 1059 m_Pchk.1 ∈ kx_tb ∧ Cond.static m_Pchk.1 ∈ kx_tb ∧ kx_par m_Pchk 3 := ⟨kx_in (List.mem_of_getElem? (i := 124) (by decide +kernel)) rfl, kx_in (List.mem_of_getElem? (i := 125) (by decide +kernel)) rfl, by decide +kernel⟩
theorem bl_java_lang_StringLatin1_9 : Cond.methodLink "java/lang/StringLatin1" 9 m_Schk.1 ∈ kx_tb ∧ Cond.static m_Schk.1 ∈ kx_tb ∧ kx_par m_Schk 2 := ⟨kx_in (List.mem_of_getElem? (i := 119) (by decide +kernel)) rfl, kx_in (List.mem_of_getElem? (i := 120) (by decide +kernel)) rfl, by decide +kernel⟩
theorem bf_9 : Cond.fieldLink "java/lang/String" 9 "java/lang/String" "value" "[B" ∈ kx_tb := kx_in (List.mem_of_getElem? (i := 1295) (by decide +kernel)) rfl
theorem bf_15 : Cond.fieldLink "java/lang/String" 15 "java/lang/String" "coder" "B" ∈ kx_tb := kx_in (List.mem_of_getElem? (i := 1296) (by decide +kernel)) rfl
theorem bf_38 : Cond.fieldLink "java/lang/String" 38 "java/lang/String" "COMPACT_STRINGS" "Z" ∈ kx_tb := kx_in (List.mem_of_getElem? (i := 106) (by decide +kernel)) rfl
theorem bf_1053 : Cond.fieldLink "java/lang/String" 1053 "jdk/internal/util/Preconditions" "SIOOBE_FORMATTER" "Ljava/util/function/BiFunction;" ∈ kx_tb := kx_in (List.mem_of_getElem? (i := 122) (by decide +kernel)) rfl
theorem x_sclen {w : kx_W} {d : Nat} {own : String} {b : ByteArray} {nL : Nat} {cl : List (Nat × Instr × Nat)} {G : Nat → List (Option Value) → List Value → kx_M → Prop} (F : kx_Sb w d own b nL cl G) {i pc : Nat} {L : List (Option Value)} {S : List Value} {M : kx_M} {sc : Nat × (Nat → Int32)} (hi : cl[i]? = some (pc, .arraylength, 1)) (hp : sc = kx_sc w) (k : G (pc + 1) L (.int (Int32.ofNat sc.1) :: S) M) : G pc L (.retAddr 3 :: S) M := by
  obtain ⟨p, e, R, s, mi, args, below, meth, c, cells, slots, Qf, rfl, hx, hb, hml, hown, hts, hK, hSt, hNe, hroom, hdec⟩ := F
  have h1 := hdec _ (List.mem_of_getElem? hi)
  intro H locs ls hP hS hl
  subst hp
  exact va_tlen hx hb hSt.2.2.1 hS rfl h1 (k H locs ls hP hS hl)
theorem x_scld {w : kx_W} {d : Nat} {own : String} {b : ByteArray} {nL : Nat} {cl : List (Nat × Instr × Nat)} {G : Nat → List (Option Value) → List Value → kx_M → Prop} (F : kx_Sb w d own b nL cl G) {i pc : Nat} {L : List (Option Value)} {S : List Value} {M : kx_M} {sc : Nat × (Nat → Int32)} {j : Int32} (hi : cl[i]? = some (pc, .iaload, 1)) (hp : sc = kx_sc w) (hj : vp_in j sc.1) (k : G (pc + 1) L (.int (sc.2 j.toNatClampNeg) :: S) M) : G pc L (.int j :: .retAddr 3 :: S) M := by
  obtain ⟨p, e, R, s, mi, args, below, meth, c, cells, slots, Qf, rfl, hx, hb, hml, hown, hts, hK, hSt, hNe, hroom, hdec⟩ := F
  have h1 := hdec _ (List.mem_of_getElem? hi)
  intro H locs ls hP hS hl
  subst hp
  exact va_ti hx hb hSt.2.2.1 hS hj rfl h1 (k H locs ls hP hS hl)
theorem x_ldcS {w : kx_W} {d : Nat} {b : ByteArray} {nL : Nat} {cl : List (Nat × Instr × Nat)} {G : Nat → List (Option Value) → List Value → kx_M → Prop} (F : kx_Sb w d "KnitTreatyLaw" b nL cl G) {i pc : Nat} {L : List (Option Value)} {S : List Value} {M : kx_M} {j n : Nat} (hi : cl[i]? = some (pc, .ldc n, 2)) (hj : j < 15) (hn : lw_sK.getD j 0 = n) (k : G (pc + 2) L (.retAddr (j + 10) :: S) M) : G pc L S M := by
  subst hn
  obtain ⟨p, e, R, s, mi, args, below, meth, c, cells, slots, Qf, rfl, hx, hb, hml, hown, hts, hK, hSt, hNe, hroom, hdec⟩ := F
  have h1 := hdec _ (List.mem_of_getElem? hi)
  intro H locs ls hP hS hl
  exact va_ldcS hx hb hown (hNe.2 j hj) h1 (k H locs ls hP hS hl)
theorem x_getV {w : kx_W} {d : Nat} {b : ByteArray} {nL : Nat} {cl : List (Nat × Instr × Nat)} {G : Nat → List (Option Value) → List Value → kx_M → Prop} (F : kx_Sb w d "java/lang/String" b nL cl G) {i pc : Nat} {L : List (Option Value)} {S : List Value} {M : kx_M} {j : Nat} (hi : cl[i]? = some (pc, .getfield 9, 3)) (hj : j < 15) (k : G (pc + 3) L (.retAddr (j + 30) :: S) M) : G pc L (.retAddr (j + 10) :: S) M := by
  obtain ⟨p, e, R, s, mi, args, below, meth, c, cells, slots, Qf, rfl, hx, hb, hml, hown, hts, hK, hSt, hNe, hroom, hdec⟩ := F
  have h1 := hdec _ (List.mem_of_getElem? hi)
  intro H locs ls hP hS hl
  exact vk_getf hx hb (hSt.2.2.2.1.1 j hj).2.2.1 hS hown (hts _ bf_9) (fun _ h => h) h1 (k H locs ls hP hS hl)
theorem x_getCo {w : kx_W} {d : Nat} {b : ByteArray} {nL : Nat} {cl : List (Nat × Instr × Nat)} {G : Nat → List (Option Value) → List Value → kx_M → Prop} (F : kx_Sb w d "java/lang/String" b nL cl G) {i pc : Nat} {L : List (Option Value)} {S : List Value} {M : kx_M} {j : Nat} (hi : cl[i]? = some (pc, .getfield 15, 3)) (hj : j < 15) (k : G (pc + 3) L (.int 0 :: S) M) : G pc L (.retAddr (j + 10) :: S) M := by
  obtain ⟨p, e, R, s, mi, args, below, meth, c, cells, slots, Qf, rfl, hx, hb, hml, hown, hts, hK, hSt, hNe, hroom, hdec⟩ := F
  have h1 := hdec _ (List.mem_of_getElem? hi)
  intro H locs ls hP hS hl
  exact vk_getf hx hb (hSt.2.2.2.1.1 j hj).2.1 hS hown (hts _ bf_15) (fun _ h => h) h1 (k H locs ls hP hS hl)
theorem x_gsC {w : kx_W} {d : Nat} {b : ByteArray} {nL : Nat} {cl : List (Nat × Instr × Nat)} {G : Nat → List (Option Value) → List Value → kx_M → Prop} (F : kx_Sb w d "java/lang/String" b nL cl G) {i pc : Nat} {L : List (Option Value)} {S : List Value} {M : kx_M} (hi : cl[i]? = some (pc, .getstatic 38, 3)) (k : G (pc + 3) L (.int 1 :: S) M) : G pc L S M := by
  obtain ⟨p, e, R, s, mi, args, below, meth, c, cells, slots, Qf, rfl, hx, hb, hml, hown, hts, hK, hSt, hNe, hroom, hdec⟩ := F
  have h1 := hdec _ (List.mem_of_getElem? hi)
  intro H locs ls hP hS hl
  exact va_gets hx hb hSt.2.2.2.2.1 hS hown (hts _ bf_38) (fun _ h => h) h1 (k H locs ls hP hS hl)
theorem x_gsP {w : kx_W} {d : Nat} {b : ByteArray} {nL : Nat} {cl : List (Nat × Instr × Nat)} {G : Nat → List (Option Value) → List Value → kx_M → Prop} (F : kx_Sb w d "java/lang/String" b nL cl G) {i pc : Nat} {L : List (Option Value)} {S : List Value} {M : kx_M} (hi : cl[i]? = some (pc, .getstatic 1053, 3)) (k : ∀ v0 : Value, (v0 = .null ∨ v0 = .retAddr 4) → G (pc + 3) L (v0 :: S) M) : G pc L S M := by
  obtain ⟨p, e, R, s, mi, args, below, meth, c, cells, slots, Qf, rfl, hx, hb, hml, hown, hts, hK, hSt, hNe, hroom, hdec⟩ := F
  have h1 := hdec _ (List.mem_of_getElem? hi)
  intro H locs ls hP hS hl
  obtain ⟨v0, hv, hZ⟩ := hSt.2.2.2.2.2
  exact va_gets hx hb hZ hS hown (hts _ bf_1053) (fun _ h => h) h1 (k v0 hv H locs ls hP hS hl)
theorem x_blen {w : kx_W} {d : Nat} {own : String} {b : ByteArray} {nL : Nat} {cl : List (Nat × Instr × Nat)} {G : Nat → List (Option Value) → List Value → kx_M → Prop} (F : kx_Sb w d own b nL cl G) {i pc : Nat} {L : List (Option Value)} {S : List Value} {M : kx_M} {j : Nat} (hi : cl[i]? = some (pc, .arraylength, 1)) (hj : j < 15) (k : G (pc + 1) L (.int (nI (lw_sN.getD j 0)) :: S) M) : G pc L (.retAddr (j + 30) :: S) M := by
  obtain ⟨p, e, R, s, mi, args, below, meth, c, cells, slots, Qf, rfl, hx, hb, hml, hown, hts, hK, hSt, hNe, hroom, hdec⟩ := F
  have h1 := hdec _ (List.mem_of_getElem? hi)
  intro H locs ls hP hS hl
  exact va_tlen hx hb (hSt.2.2.2.1.1 j hj).2.2.2 hS rfl h1 (k H locs ls hP hS hl)
theorem x_btld {w : kx_W} {d : Nat} {own : String} {b : ByteArray} {nL : Nat} {cl : List (Nat × Instr × Nat)} {G : Nat → List (Option Value) → List Value → kx_M → Prop} (F : kx_Sb w d own b nL cl G) {i pc : Nat} {L : List (Option Value)} {S : List Value} {M : kx_M} {j q : Nat} (hi : cl[i]? = some (pc, .baload, 1)) (hj : j < 15) (hq : q < lw_sN.getD j 0) (hq2 : lw_sN.getD j 0 < 100) (k : G (pc + 1) L (.int ((lw_sL.getD j []).getD q 0) :: S) M) : G pc L (.int (nI q) :: .retAddr (j + 30) :: S) M := by
  obtain ⟨p, e, R, s, mi, args, below, meth, c, cells, slots, Qf, rfl, hx, hb, hml, hown, hts, hK, hSt, hNe, hroom, hdec⟩ := F
  have h1 := hdec _ (List.mem_of_getElem? hi)
  intro H locs ls hP hS hl
  exact va_tb hx hb (hSt.2.2.2.1.1 j hj).2.2.2 hS (vp_in_nI hq (by omega)) (by rw [nI_clamp (by omega)]; rfl) h1 (k H locs ls hP hS hl)
theorem x_i2c {w : kx_W} {d : Nat} {own : String} {b : ByteArray} {nL : Nat} {cl : List (Nat × Instr × Nat)} {G : Nat → List (Option Value) → List Value → kx_M → Prop} (F : kx_Sb w d own b nL cl G) {i pc : Nat} {L : List (Option Value)} {S : List Value} {M : kx_M} {x v : Int32} (hi : cl[i]? = some (pc, .i2c, 1)) (hv : (x.toUInt32 % 65536).toInt32 = v) (k : G (pc + 1) L (.int v :: S) M) : G pc L (.int x :: S) M := by
  obtain ⟨p, e, R, s, mi, args, below, meth, c, cells, slots, Qf, rfl, hx, hb, hml, hown, hts, hK, hSt, hNe, hroom, hdec⟩ := F
  have h1 := hdec _ (List.mem_of_getElem? hi)
  intro H locs ls hP hS hl
  exact lv_i2c hx hb h1 hv (k H locs ls hP hS hl)
/-- a method of a string is called -/
theorem x_callT {w : kx_W} {d : Nat} {own : String} {b : ByteArray} {nL : Nat} {cl : List (Nat × Instr × Nat)} {G : Nat → List (Option Value) → List Value → kx_M → Prop} (F : kx_Sb w (d + 1) own b nL cl G) {i pc : Nat} {L : List (Option Value)} {S : List Value} {M : kx_M} {idx n j : Nat} {m' : kx_md} {As st : List Value} {v : Value} (hi : cl[i]? = some (pc, .invokevirtual idx, 3)) (hm : Cond.methodLink own idx m'.1 ∈ kx_tb ∧ Cond.instanceMethod m'.1 ∈ kx_tb ∧ Cond.selects m'.1.cls m'.1 m'.1 ∈ kx_tb ∧ kx_par m' n ∧ m'.1.cls = "java/lang/String") (ok : kx_mok m') (hj : j < 15) (hst : st = As.reverse ++ .retAddr (j + 10) :: S) (hn : As.length = n) (hrest : (S.map fun v => v.category).sum ≤ 8) (hml' : m'.2.2.1 ≤ 19) (hC : Ct w d m' (.retAddr (j + 10) :: As) M (fun r M' => r = some v ∧ M' = M)) (k : G (pc + 3) L (v :: S) M) : G pc L st M := by
  obtain ⟨p, e, R, s, mi, args, below, meth, c, cells, slots, Qf, rfl, hx, hb, hml, hown, hts, hK, hSt, hNe, hroom, hdec⟩ := F
  have h1 := hdec _ (List.mem_of_getElem? hi)
  intro H locs ls hP hS hl
  obtain ⟨hm1, hm2, hm3, hm4, hm5⟩ := hm
  have hrec := vk_recv (i := j) hSt.2.2.2.1 hj hS
  rw [← hm5] at hrec
  have hpre := kx_pre (av := (Value.retAddr (j + 10) :: As).map (kx_cv w)) hP hK hSt hNe hS
  have hG : GoodIn kx_tb (wsV own idx m'.1.cls m'.1 (kx_wd m')) := by
    intro x hx1
    rcases List.mem_append.mp hx1 with h | h
    · simp only [List.mem_cons, List.not_mem_nil, or_false] at h
      rcases h with rfl | rfl | rfl | rfl
      · exact kx_tb_good _ hm1
      · exact kx_tb_good _ hm2
      · exact kx_tb_good _ hm3
      · exact kx_tb_good _ ok.2.2.1
    · exact kx_wd_good ok x h
  subst hst
  have hr := va_runV (As := As.map (kx_cv w)) (rest := S.map (kx_cv w)) (g := F0 mi pc ls ((As.reverse ++ .retAddr (j + 10) :: S).map (kx_cv w))) (H := H) (locs := locs) (cells := cells) (slots := slots) (e := e) (below := below) (meth := meth) (args := args) (R := R) (b := w.2.2.2.2 (j + 10)) ⟨hx, hb, hml, hown, hts⟩ hC
    (cwV n hts hG rfl rfl rfl ⟨rfl, ok.2.2.2.1.1, ok.2.2.2.1.2, hm4⟩ ⟨Nat.le_trans (Nat.le_refl _) hroom.1, by have := hroom.2.1; show 8 + (m'.2.2.1 + 11) + (38 * d + 27) ≤ R.locals; omega⟩)
    ⟨hpre.1, hrec, hpre.2⟩ rfl (by rw [List.length_map]; exact hn) hl.1 (by show List.map _ _ = _; rw [List.map_append, List.map_reverse]; rfl) (lv_room (by rw [kx_cat]; exact hrest)) h1 ⟨by have := hroom.2.2.1; omega, by have := hroom.2.2.2; omega⟩
  refine kx_go hr hS (fun r M' H1 locs1 hQ hP1 hS1 => ?_)
  obtain ⟨rfl, rfl⟩ := hQ
  exact k H1 locs1 ls hP1 hS1 hl
theorem x_callU {w : kx_W} {d : Nat} {own : String} {b : ByteArray} {nL : Nat} {cl : List (Nat × Instr × Nat)} {G : Nat → List (Option Value) → List Value → kx_M → Prop} (F : kx_Sb w (d + 1) own b nL cl G) {i pc : Nat} {L : List (Option Value)} {S : List Value} {M : kx_M} {idx n : Nat} {m' : kx_md} {As st : List Value} {v : Option Value} (hi : cl[i]? = some (pc, .invokestatic idx, 3)) (hm : Cond.methodLink own idx m'.1 ∈ kx_tb ∧ Cond.static m'.1 ∈ kx_tb ∧ kx_par m' n) (ok : kx_mok m') (hst : st = As.reverse ++ S) (hn : As.length = n) (hrest : (S.map fun v => v.category).sum ≤ 8) (hml' : m'.2.2.1 ≤ 19) (hC : Ct w d m' As M (fun r M' => r = v ∧ M' = M)) (k : G (pc + 3) L (v.toList ++ S) M) : G pc L st M := by
  refine x_callS F hi hm ok hst hn hrest hml' hC (fun r M' hQ => ?_)
  obtain ⟨rfl, rfl⟩ := hQ
  exact k
theorem ls_v : ∀ j, j < 15 → ∀ q, q < lw_sN.getD j 0 → (((lw_sL.getD j []).getD q 0 &&& 255).toUInt32 % 65536).toInt32 = (lw_sL.getD j []).getD q 0 ∧ narrow .char (.int ((lw_sL.getD j []).getD q 0)) = .int ((lw_sL.getD j []).getD q 0) := by decide +kernel
theorem ls_n : ∀ j, j < 15 → lw_sN.getD j 0 < 100 ∧ (lw_sL.getD j []).length = lw_sN.getD j 0 := by decide +kernel
theorem k_Scod {w : kx_W} {d j : Nat} {M : kx_M} (hj : j < 15) : Ct w d m_Scod [.retAddr (j + 10)] M (fun r M' => r = some (.int 0) ∧ M' = M) := by
  refine mk_ct ok_Scod (Nat.le_of_ble_eq_true rfl) (fun G F => ?_)
  show G 0 [some (.retAddr (j + 10))] [] M
  refine x_gsC F.1 (i := 0) rfl ?_
  refine x_if_eq F.1 (i := 1) (tgt := 13) rfl (by decide) (fun c => absurd c (by decide)) (fun c => ?_)
  refine x_aloadz_n F.1 (i := 2) rfl rfl ?_
  refine x_getCo F.1 (i := 3) rfl hj ?_
  refine x_goto F.1 (i := 4) (tgt := 14) rfl (by decide) ?_
  exact x_yret F (i := 6) rfl rfl rfl ⟨rfl, rfl⟩
theorem k_Slat {w : kx_W} {d j : Nat} {M : kx_M} (hj : j < 15) : Ct w d m_Slat [.retAddr (j + 10)] M (fun r M' => r = some (.int 1) ∧ M' = M) := by
  refine mk_ct ok_Slat (Nat.le_of_ble_eq_true rfl) (fun G F => ?_)
  show G 0 [some (.retAddr (j + 10))] [] M
  refine x_gsC F.1 (i := 0) rfl ?_
  refine x_if_eq F.1 (i := 1) (tgt := 17) rfl (by decide) (fun c => absurd c (by decide)) (fun c => ?_)
  refine x_aloadz_n F.1 (i := 2) rfl rfl ?_
  refine x_getCo F.1 (i := 3) rfl hj ?_
  refine x_if_ne F.1 (i := 4) (tgt := 17) rfl (by decide) (fun c => absurd rfl c) (fun c => ?_)
  refine x_iconst F.1 (i := 5) (v := 1) rfl (by decide) ?_
  refine x_goto F.1 (i := 6) (tgt := 18) rfl (by decide) ?_
  exact x_yret F (i := 8) rfl rfl rfl ⟨rfl, rfl⟩
theorem k_shr : ∀ j, j < 15 → nI (lw_sN.getD j 0) >>> ((0 : Int32) &&& 31) = nI (lw_sN.getD j 0) := by decide +kernel
theorem k_Slen {w : kx_W} {d j : Nat} {M : kx_M} (hj : j < 15) : Ct w (d + 1) m_Slen [.retAddr (j + 10)] M (fun r M' => r = some (.int (nI (lw_sN.getD j 0))) ∧ M' = M) := by
  refine mk_ct ok_Slen (Nat.le_of_ble_eq_true rfl) (fun G F => ?_)
  show G 0 [some (.retAddr (j + 10))] [] M
  refine x_aloadz_n F.1 (i := 0) rfl rfl ?_
  refine x_getV F.1 (i := 1) rfl hj ?_
  refine x_blen F.1 (i := 2) rfl hj ?_
  refine x_aloadz_n F.1 (i := 3) rfl rfl ?_
  refine x_callT F.1 (i := 4) (As := []) rfl bl_Str_335 ok_Scod hj rfl rfl (Nat.le_of_ble_eq_true rfl) (Nat.le_of_ble_eq_true rfl) (k_Scod hj) ?_
  refine x_ishr F.1 (i := 5) rfl ?_
  refine x_yret F (i := 6) rfl rfl rfl ⟨?_, rfl⟩
  exact congrArg _ (congrArg _ (k_shr j hj))
theorem k_Pchk {w : kx_W} {d q n : Nat} {M : kx_M} (hq : q < n) (hn : n < 100) {v0 : Value} (hv : v0 = .null ∨ v0 = .retAddr 4) : Ct w d m_Pchk [.int (nI q), .int (nI n), v0] M (fun r M' => r = some (.int (nI q)) ∧ M' = M) := by
  have hl : (kx_e [.int (nI q), .int (nI n), v0]).length ≤ m_Pchk.2.2.1 := by rcases hv with rfl | rfl <;> exact Nat.le_of_ble_eq_true rfl
  refine mk_ct ok_Pchk hl (fun G F => ?_)
  have h0 : kx_en0 [.int (nI q), .int (nI n), v0] m_Pchk.2.2.1 = [some (.int (nI q)), some (.int (nI n)), some v0] := by rcases hv with rfl | rfl <;> rfl
  rw [h0]
  refine x_iload_n F.1 (i := 0) rfl rfl ?_
  refine x_if_lt F.1 (i := 1) (tgt := 9) rfl (by decide) (fun c => absurd c (nI_pos (by omega))) (fun c => ?_)
  refine x_iload_n F.1 (i := 2) rfl rfl ?_
  refine x_iload_n F.1 (i := 3) rfl rfl ?_
  refine x_icmp_lt F.1 (i := 4) (tgt := 16) rfl (by decide) (fun c => ?_) (fun c => absurd (nI_lt hq (by omega)) c)
  refine x_iload_n F.1 (i := 10) rfl rfl ?_
  exact x_yret F (i := 11) rfl rfl rfl ⟨rfl, rfl⟩
theorem k_Schk {w : kx_W} {d q n : Nat} {M : kx_M} (hq : q < n) (hn : n < 100) : Ct w (d + 1) m_Schk [.int (nI q), .int (nI n)] M (fun r M' => r = none ∧ M' = M) := by
  refine mk_ct ok_Schk (Nat.le_of_ble_eq_true rfl) (fun G F => ?_)
  show G 0 [some (.int (nI q)), some (.int (nI n))] [] M
  refine x_iload_n F.1 (i := 0) rfl rfl ?_
  refine x_iload_n F.1 (i := 1) rfl rfl ?_
  refine x_gsP F.1 (i := 2) rfl (fun v0 hv => ?_)
  refine x_callU F.1 (i := 3) (As := [.int (nI q), .int (nI n), v0]) (v := some (.int (nI q))) rfl bl_Str_1059 ok_Pchk rfl rfl (Nat.le_of_ble_eq_true rfl) (Nat.le_of_ble_eq_true rfl) (k_Pchk hq hn hv) ?_
  refine x_pop F.1 (i := 4) rfl rfl ?_
  exact x_vret F (i := 5) rfl rfl ⟨rfl, rfl⟩
theorem k_Lcha {w : kx_W} {d j q : Nat} {M : kx_M} (hj : j < 15) (hq : q < lw_sN.getD j 0) : Ct w (d + 2) m_Lcha [.retAddr (j + 30), .int (nI q)] M (fun r M' => r = some (.int ((lw_sL.getD j []).getD q 0)) ∧ M' = M) := by
  have hn := (ls_n j hj).1
  have hv := ls_v j hj q hq
  refine mk_ct ok_Lcha (Nat.le_of_ble_eq_true rfl) (fun G F => ?_)
  show G 0 [some (.retAddr (j + 30)), some (.int (nI q))] [] M
  refine x_iload_n F.1 (i := 0) rfl rfl ?_
  refine x_aloadz_n F.1 (i := 1) rfl rfl ?_
  refine x_blen F.1 (i := 2) rfl hj ?_
  refine x_callU F.1 (i := 3) (As := [.int (nI q), .int (nI (lw_sN.getD j 0))]) (v := none) rfl bl_java_lang_StringLatin1_9 ok_Schk rfl rfl (Nat.le_of_ble_eq_true rfl) (Nat.le_of_ble_eq_true rfl) (k_Schk hq hn) ?_
  refine x_aloadz_n F.1 (i := 4) rfl rfl ?_
  refine x_iload_n F.1 (i := 5) rfl rfl ?_
  refine x_btld F.1 (i := 6) rfl hj hq hn ?_
  refine x_sipush F.1 (i := 7) (v := 255) rfl (by decide) ?_
  refine x_iand F.1 (i := 8) rfl ?_
  refine x_i2c F.1 (i := 9) rfl hv.1 ?_
  exact x_yret F (i := 10) rfl rfl hv.2 ⟨rfl, rfl⟩
theorem k_Scha {w : kx_W} {d j q : Nat} {M : kx_M} (hj : j < 15) (hq : q < lw_sN.getD j 0) : Ct w (d + 3) m_Scha [.retAddr (j + 10), .int (nI q)] M (fun r M' => r = some (.int ((lw_sL.getD j []).getD q 0)) ∧ M' = M) := by
  have hv := ls_v j hj q hq
  refine mk_ct ok_Scha (Nat.le_of_ble_eq_true rfl) (fun G F => ?_)
  show G 0 [some (.retAddr (j + 10)), some (.int (nI q))] [] M
  refine x_aloadz_n F.1 (i := 0) rfl rfl ?_
  refine x_callT F.1 (i := 1) (As := []) rfl bl_Str_492 ok_Slat hj rfl rfl (Nat.le_of_ble_eq_true rfl) (Nat.le_of_ble_eq_true rfl) (k_Slat hj) ?_
  refine x_if_eq F.1 (i := 2) (tgt := 16) rfl (by decide) (fun c => absurd c (by decide)) (fun c => ?_)
  refine x_aloadz_n F.1 (i := 3) rfl rfl ?_
  refine x_getV F.1 (i := 4) rfl hj ?_
  refine x_iload_n F.1 (i := 5) rfl rfl ?_
  refine x_callU F.1 (i := 6) (As := [.retAddr (j + 30), .int (nI q)]) (v := some (.int ((lw_sL.getD j []).getD q 0))) rfl bl_Str_495 ok_Lcha rfl rfl (Nat.le_of_ble_eq_true rfl) (Nat.le_of_ble_eq_true rfl) (k_Lcha hj hq) ?_
  exact x_yret F (i := 7) rfl rfl hv.2 ⟨rfl, rfl⟩
def isST (j : Nat) : Bool := decide (j < 15)
theorem isST_e {j : Nat} (h : isST j = true) : j < 15 := of_decide_eq_true h
/-! the rows of length and charAt, for the printed functions -/
theorem x_slen {w : kx_W} {d : Nat} {own : String} {b : ByteArray} {nL : Nat} {cl : List (Nat × Instr × Nat)} {G : Nat → List (Option Value) → List Value → kx_M → Prop} (F : kx_Sb w (d + 2) own b nL cl G) {i pc : Nat} {L : List (Option Value)} {S : List Value} {M : kx_M} {idx j : Nat} (hi : cl[i]? = some (pc, .invokevirtual idx, 3)) (hm : Cond.methodLink own idx m_Slen.1 ∈ kx_tb ∧ Cond.instanceMethod m_Slen.1 ∈ kx_tb ∧ Cond.selects m_Slen.1.cls m_Slen.1 m_Slen.1 ∈ kx_tb ∧ kx_par m_Slen 0 ∧ m_Slen.1.cls = "java/lang/String") (hj : j < 15) (hrest : (S.map fun v => v.category).sum ≤ 8) (k : G (pc + 3) L (.int (Int32.ofNat (lw_sL.getD j []).length) :: S) M) : G pc L (.retAddr (j + 10) :: S) M := by
  rw [(ls_n j hj).2] at k
  exact x_callT F (As := []) hi hm ok_Slen hj rfl rfl hrest (Nat.le_of_ble_eq_true rfl) (k_Slen hj) k
theorem x_scha {w : kx_W} {d : Nat} {own : String} {b : ByteArray} {nL : Nat} {cl : List (Nat × Instr × Nat)} {G : Nat → List (Option Value) → List Value → kx_M → Prop} (F : kx_Sb w (d + 4) own b nL cl G) {i pc : Nat} {L : List (Option Value)} {S : List Value} {M : kx_M} {idx j : Nat} {q : Int32} (hi : cl[i]? = some (pc, .invokevirtual idx, 3)) (hm : Cond.methodLink own idx m_Scha.1 ∈ kx_tb ∧ Cond.instanceMethod m_Scha.1 ∈ kx_tb ∧ Cond.selects m_Scha.1.cls m_Scha.1 m_Scha.1 ∈ kx_tb ∧ kx_par m_Scha 1 ∧ m_Scha.1.cls = "java/lang/String") (hq : vp_in q (lw_sL.getD j []).length) (hj : j < 15) (hrest : (S.map fun v => v.category).sum ≤ 8) (k : G (pc + 3) L (.int ((lw_sL.getD j []).getD q.toNatClampNeg 0) :: S) M) : G pc L (.int q :: .retAddr (j + 10) :: S) M := by
  rw [(ls_n j hj).2] at hq
  have h1 : q.toNatClampNeg < lw_sN.getD j 0 := by
    unfold vp_in at hq
    omega
  have h2 : nI q.toNatClampNeg = q := by
    obtain ⟨a, ha, rfl⟩ := nI_of (x := q) (fun c => hq (Or.inl c))
    rw [nI_clamp ha]
  have hC := k_Scha (w := w) (d := d) (M := M) hj h1
  rw [h2] at hC
  exact x_callT F (As := [.int q]) hi hm ok_Scha hj rfl rfl hrest (Nat.le_of_ble_eq_true rfl) hC k
