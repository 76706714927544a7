/-! ## the text of the words: what the JDK does with it -/
theorem bytW_n : ([bytW.length] : List Nat).getD 0 0 = 136 := by decide +kernel
theorem l1_g (x : List Int32) : ([x] : List (List Int32)).getD 0 [] = x := rfl
theorem bytW_g : ([bytW] : List (List Int32)).getD 0 [] = bytW := l1_g _
theorem bytW_v : ∀ k, k < 136 → ((bytW.getD k 0 &&& 255).toUInt32 % 65536).toInt32 = bytW.getD k 0 ∧ narrow .char (.int (bytW.getD k 0)) = .int (bytW.getD k 0) := by decide +kernel
section
variable {w : kx_W} {d mc ms : Nat} {own nm : String} {b : ByteArray} {nL : Nat} {cl : List (Nat × Instr × Nat)} {G : Nat → List (Option Value) → List Value → bx_St → Prop} {i pc : Nat} {L : List (Option Value)} {S : List Value} {M : bx_St}
theorem y_i2c (F : bx_Sb w d mc ms own nm b nL cl G) {x v : Int32} (hi : cl[i]? = some (pc, .i2c, 1)) (hv : (x.toUInt32 % 65536).toInt32 = v) (k : G (pc + 1) L (.int v :: S) M) : G pc L (.int x :: S) M := by
  obtain ⟨p, e, R, s, mi, args, below, meth, c, Qf, rfl, hx, hb, hml, hown, hts, hK, hSt, hba, hroom, hini, hdec⟩ := F
  have h1 := hdec _ (List.mem_of_getElem? hi)
  intro H locs ls hP hz hS hl
  exact lv_i2c hx hb h1 hv (k H locs ls hP hz hS hl)
theorem y_ldcS (F : bx_Sb w d mc ms "KnitTreaty$Reader" nm b nL cl G) (hi : cl[i]? = some (pc, .ldc 51, 2)) (k : G (pc + 2) L (.retAddr 1 :: S) M) : G pc L S M := by
  obtain ⟨p, e, R, s, mi, args, below, meth, c, Qf, rfl, hx, hb, hml, hown, hts, hK, hSt, hba, hroom, hini, hdec⟩ := F
  have h1 := hdec _ (List.mem_of_getElem? hi)
  intro H locs ls hP hz hS hl
  exact va_ldcS hx hb hown hSt.2.2.2.1 h1 (k H locs ls hP hz hS hl)
theorem y_getV (F : bx_Sb w d mc ms "java/lang/String" nm b nL cl G) (hi : cl[i]? = some (pc, .getfield 9, 3)) (k : G (pc + 3) L (.retAddr 2 :: S) M) : G pc L (.retAddr 1 :: S) M := by
  obtain ⟨p, e, R, s, mi, args, below, meth, c, Qf, rfl, hx, hb, hml, hown, hts, hK, hSt, hba, hroom, hini, hdec⟩ := F
  have h1 := hdec _ (List.mem_of_getElem? hi)
  intro H locs ls hP hz hS hl
  exact vk_getf hx hb (hSt.1.1 0 (by decide)).2.2.1 hS hown (hts _ bf_9) (fun _ h => h) h1 (k H locs ls hP hz hS hl)
theorem y_getC (F : bx_Sb w d mc ms "java/lang/String" nm b nL cl G) (hi : cl[i]? = some (pc, .getfield 15, 3)) (k : G (pc + 3) L (.int 0 :: S) M) : G pc L (.retAddr 1 :: S) M := by
  obtain ⟨p, e, R, s, mi, args, below, meth, c, Qf, rfl, hx, hb, hml, hown, hts, hK, hSt, hba, hroom, hini, hdec⟩ := F
  have h1 := hdec _ (List.mem_of_getElem? hi)
  intro H locs ls hP hz hS hl
  exact vk_getf hx hb (hSt.1.1 0 (by decide)).2.1 hS hown (hts _ bf_15) (fun _ h => h) h1 (k H locs ls hP hz hS hl)
theorem y_gsC (F : bx_Sb w d mc ms "java/lang/String" nm b nL cl G) (hi : cl[i]? = some (pc, .getstatic 38, 3)) (k : G (pc + 3) L (.int 1 :: S) M) : G pc L S M := by
  obtain ⟨p, e, R, s, mi, args, below, meth, c, Qf, rfl, hx, hb, hml, hown, hts, hK, hSt, hba, hroom, hini, hdec⟩ := F
  have h1 := hdec _ (List.mem_of_getElem? hi)
  intro H locs ls hP hz hS hl
  exact va_gets hx hb hSt.2.1 hS hown (hts _ bf_38) (fun _ h => h) h1 (k H locs ls hP hz hS hl)
theorem y_gsP (F : bx_Sb w d mc ms "java/lang/String" nm b nL cl G) (hi : cl[i]? = some (pc, .getstatic 1053, 3)) (k : ∀ v0 : Value, (v0 = .null ∨ v0 = .retAddr 4) → G (pc + 3) L (v0 :: S) M) : G pc L S M := by
  obtain ⟨p, e, R, s, mi, args, below, meth, c, Qf, rfl, hx, hb, hml, hown, hts, hK, hSt, hba, hroom, hini, hdec⟩ := F
  have h1 := hdec _ (List.mem_of_getElem? hi)
  intro H locs ls hP hz hS hl
  obtain ⟨v0, hv, hZ⟩ := hSt.2.2.1
  exact va_gets hx hb hZ hS hown (hts _ bf_1053) (fun _ h => h) h1 (k v0 hv H locs ls hP hz hS hl)
theorem y_blen (F : bx_Sb w d mc ms own nm b nL cl G) (hi : cl[i]? = some (pc, .arraylength, 1)) (k : G (pc + 1) L (.int 136 :: S) M) : G pc L (.retAddr 2 :: S) M := by
  obtain ⟨p, e, R, s, mi, args, below, meth, c, Qf, rfl, hx, hb, hml, hown, hts, hK, hSt, hba, hroom, hini, hdec⟩ := F
  have h1 := hdec _ (List.mem_of_getElem? hi)
  intro H locs ls hP hz hS hl
  exact va_tlen hx hb (hSt.1.1 0 (by decide)).2.2.2 hS (by rw [bytW_n]; rfl) h1 (k H locs ls hP hz hS hl)
theorem y_bald (F : bx_Sb w d mc ms own nm b nL cl G) {j : Nat} (hj : j < 136) (hi : cl[i]? = some (pc, .baload, 1)) (k : G (pc + 1) L (.int (bytW.getD j 0) :: S) M) : G pc L (.int (nI j) :: .retAddr 2 :: S) M := by
  obtain ⟨p, e, R, s, mi, args, below, meth, c, Qf, rfl, hx, hb, hml, hown, hts, hK, hSt, hba, hroom, hini, hdec⟩ := F
  have h1 := hdec _ (List.mem_of_getElem? hi)
  intro H locs ls hP hz hS hl
  exact va_tb hx hb (hSt.1.1 0 (by decide)).2.2.2 hS (by rw [bytW_n]; exact vp_in_nI hj (by omega)) (by rw [bytW_g, nI_clamp (by omega)]; rfl) h1 (k H locs ls hP hz hS hl)
/-- a method of the text is called -/
theorem y_callV (F : bx_Sb w (d + 1) mc ms own nm b nL cl G) {idx n : Nat} {m' : kx_md} {As st : List Value} {v : Value} (hi : cl[i]? = some (pc, .invokevirtual idx, 3)) (hm : Cond.methodLink own idx m'.1 ∈ kx_tb ∧ Cond.instanceMethod m'.1 ∈ kx_tb ∧ Cond.selects m'.1.cls m'.1 m'.1 ∈ kx_tb ∧ kx_par m' n ∧ m'.1.cls = "java/lang/String") (ok : kx_mok m') (hst : st = As.reverse ++ .retAddr 1 :: S) (hn : As.length = n) (hrest : (S.map fun v => v.category).sum ≤ 8) (hml' : m'.2.2.1 ≤ 19) (hC : Bt w d 0 0 m' (.retAddr 1 :: As) M.1 (fun r E => r = some v ∧ E = M.1)) (hc : M.2.1 ≤ mc) (hs : M.2.2 ≤ ms) (k : G (pc + 3) L (v :: S) M) : G pc L st M := by
  obtain ⟨p, e, R, s, mi, args, below, meth, c, Qf, rfl, hx, hb, hml, hown, hts, hK, hSt, hba, hroom, hini, hdec⟩ := F
  have h1 := hdec _ (List.mem_of_getElem? hi)
  intro H locs ls hP hz hS hl
  obtain ⟨hm1, hm2, hm3, hm4, hm5⟩ := hm
  have hrec := vk_recv (i := 0) hSt.1 (by decide) hS
  rw [← hm5] at hrec
  have hpre := bx_pre (av := (Value.retAddr 1 :: As).map (kx_cv w)) hP hz hK hSt hS
  have hG : GoodIn kx_tb (wsV own idx m'.1.cls m'.1 (kx_wd m')) := by
    intro x hx1
    rcases List.mem_append.mp hx1 with h | h
    · simp only [List.mem_cons, List.not_mem_nil, or_false] at h
      rcases h with rfl | rfl | rfl | rfl
      · exact kx_tb_good _ hm1
      · exact kx_tb_good _ hm2
      · exact kx_tb_good _ hm3
      · exact kx_tb_good _ ok.2.2.1
    · exact kx_wd_good ok x h
  subst hst
  have hr := va_runV (As := As.map (kx_cv w)) (rest := S.map (kx_cv w)) (g := F0 mi pc ls ((As.reverse ++ .retAddr 1 :: S).map (kx_cv w))) (H := H) (locs := locs) (cells := M.2.1) (slots := M.2.2) (e := e) (below := below) (meth := meth) (args := args) (R := R) (b := w.2.2.2.2 1) ⟨hx, hb, hml, hown, hts⟩ hC
    (cwV n hts hG rfl rfl rfl ⟨rfl, ok.2.2.2.1.1, ok.2.2.2.1.2, hm4⟩ ⟨Nat.le_trans (Nat.le_refl _) hroom.1, by have := hroom.2.1; show 8 + (m'.2.2.1 + 11) + (38 * d + 27) ≤ R.locals; omega⟩)
    ⟨hpre.1, hrec, hpre.2⟩ rfl (by rw [List.length_map]; exact hn) hl.1 (by show List.map _ _ = _; rw [List.map_append, List.map_reverse]; rfl) (lv_room (by rw [kx_cat]; exact hrest)) h1 ⟨by have := hroom.2.2.1; omega, by have := hroom.2.2.2; omega⟩
  refine bx_go hr hS (fun r E1 H1 locs1 hQ hP1 hz1 hS1 => ?_)
  obtain ⟨rfl, rfl⟩ := hQ
  exact k H1 locs1 ls hP1 hz1 hS1 hl
theorem y_callS (F : bx_Sb w (d + 1) mc ms own nm b nL cl G) {idx n : Nat} {m' : kx_md} {As st : List Value} {v : Option Value} (hi : cl[i]? = some (pc, .invokestatic idx, 3)) (hm : Cond.methodLink own idx m'.1 ∈ kx_tb ∧ Cond.static m'.1 ∈ kx_tb ∧ kx_par m' n) (ok : kx_mok m') (hst : st = As.reverse ++ S) (hn : As.length = n) (hrest : (S.map fun v => v.category).sum ≤ 8) (hml' : m'.2.2.1 ≤ 19) (hC : Bt w d 0 0 m' As M.1 (fun r E => r = v ∧ E = M.1)) (hc : M.2.1 ≤ mc) (hs : M.2.2 ≤ ms) (k : G (pc + 3) L (v.toList ++ S) M) : G pc L st M := by
  obtain ⟨p, e, R, s, mi, args, below, meth, c, Qf, rfl, hx, hb, hml, hown, hts, hK, hSt, hba, hroom, hini, hdec⟩ := F
  have h1 := hdec _ (List.mem_of_getElem? hi)
  intro H locs ls hP hz hS hl
  obtain ⟨hm1, hm2, hm4⟩ := hm
  have hpre := bx_pre (av := As.map (kx_cv w)) hP hz hK hSt hS
  have hG : GoodIn kx_tb (va_wsS own idx m'.1 (kx_wd m')) := by
    intro x hx1
    rcases List.mem_append.mp hx1 with h | h
    · simp only [List.mem_cons, List.not_mem_nil, or_false] at h
      rcases h with rfl | rfl | rfl
      · exact kx_tb_good _ hm1
      · exact kx_tb_good _ hm2
      · exact kx_tb_good _ ok.2.2.1
    · exact kx_wd_good ok x h
  subst hst
  have hr := va_runS (As := As.map (kx_cv w)) (rest := S.map (kx_cv w)) (g := F0 mi pc ls ((As.reverse ++ S).map (kx_cv w))) (H := H) (locs := locs) (cells := M.2.1) (slots := M.2.2) (e := e) (below := below) (meth := meth) (args := args) (R := R) ⟨hx, hb, hml, hown, hts⟩ hC
    (va_cwS n hts hG rfl rfl rfl ⟨ok.2.2.2.1.1, ok.2.2.2.1.2, hm4⟩ ⟨Nat.le_trans (Nat.le_refl _) hroom.1, by have := hroom.2.1; show 8 + (m'.2.2.1 + 11) + (38 * d + 27) ≤ R.locals; omega⟩)
    hpre rfl (by rw [List.length_map]; exact hn) hl.1 (by show List.map _ _ = _; rw [List.map_append, List.map_reverse]) (lv_room (by rw [kx_cat]; exact hrest)) h1 ⟨by have := hroom.2.2.1; omega, by have := hroom.2.2.2; omega⟩
  refine bx_go hr hS (fun r E1 H1 locs1 hQ hP1 hz1 hS1 => ?_)
  obtain ⟨rfl, rfl⟩ := hQ
  rw [kx_stack]
  exact k H1 locs1 ls hP1 hz1 hS1 hl
end
theorem b_Scod {w : kx_W} {d : Nat} (E : List va_E) : Bt w d 0 0 m_Scod [.retAddr 1] E (fun r E' => r = some (.int 0) ∧ E' = E) := by
  refine mk_bt ok_Scod (Nat.le_of_ble_eq_true rfl) (fun G F => ?_)
  show G 0 [some (.retAddr 1)] [] (E, 0, 0)
  refine y_gsC F.1 (i := 0) rfl ?_
  refine y_if_eq F.1 (i := 1) (tgt := 13) rfl (by decide) (fun c => absurd c (by decide)) (fun c => ?_)
  refine y_aloadz_n F.1 (i := 2) rfl rfl ?_
  refine y_getC F.1 (i := 3) rfl ?_
  refine y_goto F.1 (i := 4) (tgt := 14) rfl (by decide) ?_
  exact y_iret F (i := 6) rfl rfl rfl (Nat.le_refl _) (Nat.le_refl _) ⟨rfl, rfl⟩
theorem b_Slat {w : kx_W} {d : Nat} (E : List va_E) : Bt w d 0 0 m_Slat [.retAddr 1] E (fun r E' => r = some (.int 1) ∧ E' = E) := by
  refine mk_bt ok_Slat (Nat.le_of_ble_eq_true rfl) (fun G F => ?_)
  show G 0 [some (.retAddr 1)] [] (E, 0, 0)
  refine y_gsC F.1 (i := 0) rfl ?_
  refine y_if_eq F.1 (i := 1) (tgt := 17) rfl (by decide) (fun c => absurd c (by decide)) (fun c => ?_)
  refine y_aloadz_n F.1 (i := 2) rfl rfl ?_
  refine y_getC F.1 (i := 3) rfl ?_
  refine y_if_ne F.1 (i := 4) (tgt := 17) rfl (by decide) (fun c => absurd rfl c) (fun c => ?_)
  refine y_iconst F.1 (i := 5) (v := 1) rfl (by decide) ?_
  refine y_goto F.1 (i := 6) (tgt := 18) rfl (by decide) ?_
  exact y_iret F (i := 8) rfl rfl rfl (Nat.le_refl _) (Nat.le_refl _) ⟨rfl, rfl⟩
theorem b_Slen {w : kx_W} {d : Nat} (E : List va_E) : Bt w (d + 1) 0 0 m_Slen [.retAddr 1] E (fun r E' => r = some (.int 136) ∧ E' = E) := by
  refine mk_bt ok_Slen (Nat.le_of_ble_eq_true rfl) (fun G F => ?_)
  show G 0 [some (.retAddr 1)] [] (E, 0, 0)
  refine y_aloadz_n F.1 (i := 0) rfl rfl ?_
  refine y_getV F.1 (i := 1) rfl ?_
  refine y_blen F.1 (i := 2) rfl ?_
  refine y_aloadz_n F.1 (i := 3) rfl rfl ?_
  refine y_callV F.1 (i := 4) (As := []) rfl bl_Str_335 ok_Scod rfl rfl (Nat.le_of_ble_eq_true rfl) (Nat.le_of_ble_eq_true rfl) (b_Scod E) (Nat.le_refl _) (Nat.le_refl _) ?_
  refine y_ishr F.1 (i := 5) rfl ?_
  exact y_iret F (i := 6) rfl rfl rfl (Nat.le_refl _) (Nat.le_refl _) ⟨congrArg _ (congrArg _ (by decide)), rfl⟩
theorem b_Pchk {w : kx_W} {d j : Nat} (hj : j < 136) (E : List va_E) {v0 : Value} (hv : v0 = .null ∨ v0 = .retAddr 4) : Bt w d 0 0 m_Pchk [.int (nI j), .int 136, v0] E (fun r E' => r = some (.int (nI j)) ∧ E' = E) := by
  have he : kx_e [v0] = [some v0] := by rcases hv with rfl | rfl <;> rfl
  have hl : (kx_e [.int (nI j), .int 136, v0]).length ≤ m_Pchk.2.2.1 := by rcases hv with rfl | rfl <;> exact Nat.le_of_ble_eq_true rfl
  refine mk_bt ok_Pchk hl (fun G F => ?_)
  have h0 : kx_en0 [.int (nI j), .int 136, v0] m_Pchk.2.2.1 = [some (.int (nI j)), some (.int 136), some v0] := by rcases hv with rfl | rfl <;> rfl
  rw [h0]
  refine y_iload_n F.1 (i := 0) rfl rfl ?_
  refine y_if_lt F.1 (i := 1) (tgt := 9) rfl (by decide) (fun c => absurd c (nI_pos (by omega))) (fun c => ?_)
  refine y_iload_n F.1 (i := 2) rfl rfl ?_
  refine y_iload_n F.1 (i := 3) rfl rfl ?_
  refine y_icmp_lt F.1 (i := 4) (tgt := 16) rfl (by decide) (fun c => ?_) (fun c => absurd (show nI j < (136 : Int32) from nI_lt (b := 136) hj (by decide)) c)
  refine y_iload_n F.1 (i := 10) rfl rfl ?_
  exact y_iret F (i := 11) rfl rfl rfl (Nat.le_refl _) (Nat.le_refl _) ⟨rfl, rfl⟩
theorem b_Schk {w : kx_W} {d j : Nat} (hj : j < 136) (E : List va_E) : Bt w (d + 1) 0 0 m_Schk [.int (nI j), .int 136] E (fun r E' => r = none ∧ E' = E) := by
  refine mk_bt ok_Schk (Nat.le_of_ble_eq_true rfl) (fun G F => ?_)
  show G 0 [some (.int (nI j)), some (.int 136)] [] (E, 0, 0)
  refine y_iload_n F.1 (i := 0) rfl rfl ?_
  refine y_iload_n F.1 (i := 1) rfl rfl ?_
  refine y_gsP F.1 (i := 2) rfl (fun v0 hv => ?_)
  refine y_callS F.1 (i := 3) (As := [.int (nI j), .int 136, v0]) (v := some (.int (nI j))) rfl bl_Str_1059 ok_Pchk rfl rfl (Nat.le_of_ble_eq_true rfl) (Nat.le_of_ble_eq_true rfl) (b_Pchk hj E hv) (Nat.le_refl _) (Nat.le_refl _) ?_
  refine y_pop F.1 (i := 4) rfl rfl ?_
  exact y_vret F (i := 5) rfl rfl (Nat.le_refl _) (Nat.le_refl _) ⟨rfl, rfl⟩
theorem b_Lcha {w : kx_W} {d j : Nat} (hj : j < 136) (E : List va_E) : Bt w (d + 2) 0 0 m_Lcha [.retAddr 2, .int (nI j)] E (fun r E' => r = some (.int (bytW.getD j 0)) ∧ E' = E) := by
  refine mk_bt ok_Lcha (Nat.le_of_ble_eq_true rfl) (fun G F => ?_)
  show G 0 [some (.retAddr 2), some (.int (nI j))] [] (E, 0, 0)
  refine y_iload_n F.1 (i := 0) rfl rfl ?_
  refine y_aloadz_n F.1 (i := 1) rfl rfl ?_
  refine y_blen F.1 (i := 2) rfl ?_
  refine y_callS F.1 (i := 3) (As := [.int (nI j), .int 136]) (v := none) rfl bl_java_lang_StringLatin1_9 ok_Schk rfl rfl (Nat.le_of_ble_eq_true rfl) (Nat.le_of_ble_eq_true rfl) (b_Schk hj E) (Nat.le_refl _) (Nat.le_refl _) ?_
  refine y_aloadz_n F.1 (i := 4) rfl rfl ?_
  refine y_iload_n F.1 (i := 5) rfl rfl ?_
  refine y_bald F.1 (i := 6) hj rfl ?_
  refine y_sipush F.1 (i := 7) (v := 255) rfl (by decide) ?_
  refine y_iand F.1 (i := 8) rfl ?_
  refine y_i2c F.1 (i := 9) rfl (bytW_v j hj).1 ?_
  exact y_iret F (i := 10) rfl rfl (bytW_v j hj).2 (Nat.le_refl _) (Nat.le_refl _) ⟨rfl, rfl⟩
theorem b_Scha {w : kx_W} {d j : Nat} (hj : j < 136) (E : List va_E) : Bt w (d + 3) 0 0 m_Scha [.retAddr 1, .int (nI j)] E (fun r E' => r = some (.int (bytW.getD j 0)) ∧ E' = E) := by
  refine mk_bt ok_Scha (Nat.le_of_ble_eq_true rfl) (fun G F => ?_)
  show G 0 [some (.retAddr 1), some (.int (nI j))] [] (E, 0, 0)
  refine y_aloadz_n F.1 (i := 0) rfl rfl ?_
  refine y_callV F.1 (i := 1) (As := []) rfl bl_Str_492 ok_Slat rfl rfl (Nat.le_of_ble_eq_true rfl) (Nat.le_of_ble_eq_true rfl) (b_Slat E) (Nat.le_refl _) (Nat.le_refl _) ?_
  refine y_if_eq F.1 (i := 2) (tgt := 16) rfl (by decide) (fun c => absurd c (by decide)) (fun c => ?_)
  refine y_aloadz_n F.1 (i := 3) rfl rfl ?_
  refine y_getV F.1 (i := 4) rfl ?_
  refine y_iload_n F.1 (i := 5) rfl rfl ?_
  refine y_callS F.1 (i := 6) (As := [.retAddr 2, .int (nI j)]) (v := some (.int (bytW.getD j 0))) rfl bl_Str_495 ok_Lcha rfl rfl (Nat.le_of_ble_eq_true rfl) (Nat.le_of_ble_eq_true rfl) (b_Lcha hj E) (Nat.le_refl _) (Nat.le_refl _) ?_
  exact y_iret F (i := 7) rfl rfl (bytW_v j hj).2 (Nat.le_refl _) (Nat.le_refl _) ⟨rfl, rfl⟩
