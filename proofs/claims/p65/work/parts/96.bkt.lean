/-! ## the class, made -/
section
variable {w : kx_W} {d mc ms : Nat} {own nm : String} {b : ByteArray} {nL : Nat} {cl : List (Nat × Instr × Nat)} {G : Nat → List (Option Value) → List Value → bx_St → Prop} {i pc : Nat} {L : List (Option Value)} {S : List Value} {P R : List va_E} {c s : Nat}
theorem y_iast1 (F : bx_Sb w d mc ms own nm b nL cl G) {n m jn : Nat} {f : Nat → Int32} {j x : Int32} {o : va_E} (hi : cl[i]? = some (pc, .iastore, 1)) (ho : R[m]? = some (.inl (w.2.2.1 0, n, .inl f))) (hj : vp_in j n) (hjn : j.toNatClampNeg = jn) {R' : List va_E} (hR : R.set m (.inl (w.2.2.1 0, n, .inl (upd f jn x))) = R') (k : G (pc + 1) L S (P ++ (o :: R'), c, s)) : G pc L (.int x :: .int j :: .ref (P.length + (m + 1)) :: S) (P ++ (o :: R), c, s) := by
  subst hjn
  subst hR
  refine y_iast F (M := (P ++ (o :: R), c, s)) hi (bx_1.trans ho) hj ?_
  show G (pc + 1) L S ((P ++ (o :: R)).set (P.length + (m + 1)) _, c, s)
  rw [bx_s1]
  exact k
theorem y_astq1 (F : bx_Sb w d mc ms own nm b nL cl G) {n m t q ci jn : Nat} {r : vw_C} {vs : List Value} {f : Nat → Option Nat} {j : Int32} {o : va_E} (hi : cl[i]? = some (pc, .aastore, 1)) (ho : R[m]? = some (.inl (w.2.2.1 t, n, .inr (.inr (.inr (.inr f)))))) (ht : (kx_tys w)[t]? = some (w.2.2.1 t, .object r.1)) (hv : R[q]? = some (.inr (ci, vs))) (hc : kx_cl[ci]? = some r) (hj : vp_in j n) (hjn : j.toNatClampNeg = jn) {R' : List va_E} (hR : R.set m (.inl (w.2.2.1 t, n, .inr (.inr (.inr (.inr (va_up f jn (some (w.2.2.2.1 + (P.length + (q + 1)))))))))) = R') (k : G (pc + 1) L S (P ++ (o :: R'), c, s)) : G pc L (.ref (P.length + (q + 1)) :: .int j :: .ref (P.length + (m + 1)) :: S) (P ++ (o :: R), c, s) := by
  subst hjn
  subst hR
  refine y_astq F (M := (P ++ (o :: R), c, s)) hi (bx_1.trans ho) ht (bx_1.trans hv) hc hj ?_
  show G (pc + 1) L S ((P ++ (o :: R)).set (P.length + (m + 1)) _, c, s)
  rw [bx_s1]
  exact k
theorem bx_Req {R' : List va_E} {o : va_E} (e : R = R') (k : G pc L S (P ++ (o :: R'), c, s)) : G pc L S (P ++ (o :: R), c, s) := by
  rw [e]
  exact k
theorem bx_at3 {T Y : List va_E} {a b c x : va_E} {q : Nat} (h : T.length + 3 = q) : (a :: b :: c :: (T ++ (x :: Y)))[q]? = some x := by
  subst h
  show (T ++ (x :: Y))[T.length]? = some x
  rw [List.getElem?_append_right (Nat.le_refl _), Nat.sub_self]
  rfl
end
theorem bL_TreatyText (w : kx_W) (r : Nat) : (blk_TreatyText w r).length = 4 := rfl
theorem bL_CenturyText (w : kx_W) (r : Nat) : (blk_CenturyText w r).length = 5 := rfl
theorem bL_Seen (w : kx_W) (r : Nat) : (blk_Seen w r).length = 5 := rfl
theorem bL_Joiner (w : kx_W) (r : Nat) : (blk_Joiner w r).length = 5 := rfl
theorem bL_Life (w : kx_W) (r : Nat) : (blk_Life w r).length = 2 := rfl
theorem bL_State (w : kx_W) (r : Nat) : (blk_State w r).length = 20 := rfl
theorem bL_Tray (w : kx_W) (r : Nat) : (blk_Tray w r).length = 2 := rfl
def blk_KT (w : kx_W) (r : Nat) : List va_E := .inr (0, [.ref (w.2.2.2.1 + (r + 1)), .ref (w.2.2.2.1 + (r + 2)), .ref (w.2.2.2.1 + (r + 3)), .ref (w.2.2.2.1 + (r + 4)), .ref (w.2.2.2.1 + (r + 8)), .ref (w.2.2.2.1 + (r + 13)), .ref (w.2.2.2.1 + (r + 18)), .ref (w.2.2.2.1 + (r + 23)), .ref (w.2.2.2.1 + (r + 25)), .ref (w.2.2.2.1 + (r + 27)), .ref (w.2.2.2.1 + (r + 47)), .int 0, .int 0, .int 0, .int (-1), .int (-1), .int 0, .long 0, .long 1]) :: (.inl (w.2.2.1 3, 4, .inr (.inr (.inr (.inr (va_up (va_up (va_up (va_up (fun _ => none) 0 (some (w.2.2.2.1 + (r + 67)))) 1 (some (w.2.2.2.1 + (r + 69)))) 2 (some (w.2.2.2.1 + (r + 71)))) 3 (some (w.2.2.2.1 + (r + 73)))))))) :: .inl (w.2.2.1 0, 900, .inl (fun _ => 0)) :: .inl (w.2.2.1 4, 3, .inr (.inr (.inr (.inr (va_up (va_up (va_up (fun _ => none) 0 (some (w.2.2.2.1 + (r + 75)))) 1 (some (w.2.2.2.1 + (r + 95)))) 2 (some (w.2.2.2.1 + (r + 115)))))))) :: ((((((((blk_TreatyText w (r + 4) ++ (blk_CenturyText w (r + 8) ++ (blk_Seen w (r + 13) ++ (blk_Joiner w (r + 18) ++ (blk_Life w (r + 23) ++ (blk_Life w (r + 25) ++ (blk_State w (r + 27) ++ (blk_State w (r + 47))))))))) ++ blk_Tray w (r + 67)) ++ blk_Tray w (r + 69)) ++ blk_Tray w (r + 71)) ++ blk_Tray w (r + 73)) ++ blk_State w (r + 75)) ++ blk_State w (r + 95)) ++ blk_State w (r + 115)))
theorem kt_tray {w : kx_W} {d : Nat} {Q : Option Value → List va_E → Prop} {G : Nat → List (Option Value) → List Value → bx_St → Prop} (F : Bd2 w (d + 8) 134 6207 m_KT_init Q G) {P T : List va_E} {fs : List Value} {f : Nat → Option Nat} {a1 a2 : va_E} {c s n i : Nat} (hf : fs[0]? = some (.ref (w.2.2.2.1 + (P.length + 1)))) (hi : i < 4) (hn : T.length + 4 = n + 1) (hc : c + 2 ≤ 134) (hs : s + 64 ≤ 6207) (k : G 159 [some (.ref P.length), some (.int (nI (i + 1)))] [] (P ++ (.inr (0, fs) :: .inl (w.2.2.1 3, 4, .inr (.inr (.inr (.inr (va_up f i (some (w.2.2.2.1 + (P.length + (n + 1))))))))) :: a1 :: a2 :: (T ++ blk_Tray w (P.length + (n + 1)))), c + 2, s + 64)) : G 159 [some (.ref P.length), some (.int (nI i))] [] (P ++ (.inr (0, fs) :: .inl (w.2.2.1 3, 4, .inr (.inr (.inr (.inr (f))))) :: a1 :: a2 :: T), c, s) := by
  refine y_iload_n F.1 (i := 80) rfl rfl ?_
  refine y_iconst F.1 (i := 81) (v := 4) rfl (by decide) ?_
  refine y_icmp_ge F.1 (i := 82) (tgt := 183) rfl (by decide) (fun c => absurd (show nI i < (4 : Int32) from nI_lt (b := 4) hi (by decide)) (Int32.not_lt.mpr c)) (fun _ => ?_)
  refine y_aload_n F.1 (i := 83) rfl rfl ?_
  refine y_get1 F.1 (i := 84) (v := .ref (P.length + 1)) rfl fl_KT_11 hf ?_
  refine y_iload_n F.1 (i := 85) rfl rfl ?_
  refine y_new1 F.1 (m := n + 1) (fs := [.null, .int 0, .int 0, .int 0]) (i := 86) rfl bc_KT_9 bs_Tray bn_Tray (ci := 1) rfl (by decide +kernel) (by omega) (by omega) (show T.length + 1 + 1 + 1 + 1 = n + 1 by omega) ?_
  refine y_dup F.1 (i := 87) rfl rfl ?_
  refine y_initN1 F.1 (blk := blk_Tray w) (n := n + 1) (i := 88) rfl bm_KT_98 rfl rfl ok_Tray_init (Nat.le_of_ble_eq_true rfl) (Nat.le_of_ble_eq_true rfl) (fun P => b_Tray P) (show T.length + 1 + 1 + 1 + 1 = n + 1 by omega) (by omega) (by omega) ?_
  refine y_astq1 F.1 (m := 0) (q := n) (jn := i) (i := 89) rfl rfl rfl (bx_at3 (by omega)) rfl (vp_in_nI hi (by decide)) (nI_clamp (by omega)) rfl ?_
  refine y_iinc F.1 (i := 90) (v := nI (i + 1)) rfl rfl (nI_succ i).symm (by decide) rfl ?_
  refine y_goto F.1 (i := 91) (tgt := 159) rfl (by decide) ?_
  exact k
theorem kt_kept {w : kx_W} {d : Nat} {Q : Option Value → List va_E → Prop} {G : Nat → List (Option Value) → List Value → bx_St → Prop} (F : Bd2 w (d + 8) 134 6207 m_KT_init Q G) {P T : List va_E} {fs : List Value} {f : Nat → Option Nat} {a0 a1 : va_E} {c s n i : Nat} (hf : fs[2]? = some (.ref (w.2.2.2.1 + (P.length + 3)))) (hi : i < 3) (hn : T.length + 4 = n + 1) (hc : c + 20 ≤ 134) (hs : s + 798 ≤ 6207) (k : G 185 [some (.ref P.length), some (.int (nI (i + 1)))] [] (P ++ (.inr (0, fs) :: a0 :: a1 :: .inl (w.2.2.1 4, 3, .inr (.inr (.inr (.inr (va_up f i (some (w.2.2.2.1 + (P.length + (n + 1))))))))) :: (T ++ blk_State w (P.length + (n + 1)))), c + 20, s + 798)) : G 185 [some (.ref P.length), some (.int (nI i))] [] (P ++ (.inr (0, fs) :: a0 :: a1 :: .inl (w.2.2.1 4, 3, .inr (.inr (.inr (.inr (f))))) :: T), c, s) := by
  refine y_iload_n F.1 (i := 94) rfl rfl ?_
  refine y_iconst F.1 (i := 95) (v := 3) rfl (by decide) ?_
  refine y_icmp_ge F.1 (i := 96) (tgt := 209) rfl (by decide) (fun c => absurd (show nI i < (3 : Int32) from nI_lt (b := 3) hi (by decide)) (Int32.not_lt.mpr c)) (fun _ => ?_)
  refine y_aload_n F.1 (i := 97) rfl rfl ?_
  refine y_get1 F.1 (i := 98) (v := .ref (P.length + 3)) rfl fl_KT_21 hf ?_
  refine y_iload_n F.1 (i := 99) rfl rfl ?_
  refine y_new1 F.1 (m := n + 1) (fs := [.null, .null, .null]) (i := 100) rfl bc_KT_19 bs_State bn_State (ci := 2) rfl (by decide +kernel) (by omega) (by omega) (show T.length + 1 + 1 + 1 + 1 = n + 1 by omega) ?_
  refine y_dup F.1 (i := 101) rfl rfl ?_
  refine y_initN1 F.1 (blk := blk_State w) (n := n + 1) (i := 102) rfl bm_KT_63 rfl rfl ok_State_init (Nat.le_of_ble_eq_true rfl) (Nat.le_of_ble_eq_true rfl) (fun P => b_State P) (show T.length + 1 + 1 + 1 + 1 = n + 1 by omega) (by omega) (by omega) ?_
  refine y_astq1 F.1 (m := 2) (q := n) (jn := i) (i := 103) rfl rfl rfl (bx_at3 (by omega)) rfl (vp_in_nI hi (by decide)) (nI_clamp (by omega)) rfl ?_
  refine y_iinc F.1 (i := 104) (v := nI (i + 1)) rfl rfl (nI_succ i).symm (by decide) rfl ?_
  refine y_goto F.1 (i := 105) (tgt := 185) rfl (by decide) ?_
  exact k
set_option maxHeartbeats 40000000 in
set_option maxRecDepth 20000 in
theorem b_KT {w : kx_W} {d : Nat} (P : List va_E) : Bt w (d + 8) 134 6207 m_KT_init [.ref P.length] (P ++ [.inr (0, [.null, .null, .null, .null, .null, .null, .null, .null, .null, .null, .null, .int 0, .int 0, .int 0, .int 0, .int 0, .int 0, .long 0, .long 0])]) (fun r E => r = none ∧ E = P ++ blk_KT w P.length) := by
  refine mk_bt ok_KT_init (Nat.le_of_ble_eq_true rfl) (fun G F => ?_)
  show G 0 [some (.ref P.length), none] [] (P ++ (.inr (0, [.null, .null, .null, .null, .null, .null, .null, .null, .null, .null, .null, .int 0, .int 0, .int 0, .int 0, .int 0, .int 0, .long 0, .long 0]) :: []), 0, 0)
  refine y_aload_n F.1 (i := 0) rfl rfl ?_
  refine y_oinit F.1 (by omega) (i := 1) rfl bm_KT_1 bo_2 (Nat.le_of_ble_eq_true rfl) ?_
  refine y_aload_n F.1 (i := 2) rfl rfl ?_
  refine y_iconst F.1 (i := 3) (v := 4) rfl (by decide) ?_
  refine y_newq1 F.1 (t := 3) (N := 4) (m := 1) (i := 4) rfl bc_KT_9 (Or.inl rfl) rfl (by decide) (by decide) (Nat.le_of_ble_eq_true rfl) (by omega) (by omega) (by simp only [List.length_append, List.length_cons, List.length_nil, bL_TreatyText, bL_CenturyText, bL_Seen, bL_Joiner, bL_Life, bL_State, bL_Tray]) ?_
  refine y_put1 F.1 (fs' := [.ref (w.2.2.2.1 + (P.length + 1)), .null, .null, .null, .null, .null, .null, .null, .null, .null, .null, .int 0, .int 0, .int 0, .int 0, .int 0, .int 0, .long 0, .long 0]) (i := 5) rfl fl_KT_11 bp_KT_0 (Nat.le_of_ble_eq_true rfl) rfl rfl rfl ?_
  refine y_aload_n F.1 (i := 6) rfl rfl ?_
  refine y_sipush F.1 (i := 7) (v := 900) rfl (by decide) ?_
  refine y_newa1 F.1 (t := 0) (N := 900) (m := 2) (a0 := (900, .inl (fun _ => 0))) (i := 8) rfl ba_int rfl (fun _ => rfl) (by decide) (by decide) (Nat.le_of_ble_eq_true rfl) (by omega) (by omega) (by simp only [List.length_append, List.length_cons, List.length_nil, bL_TreatyText, bL_CenturyText, bL_Seen, bL_Joiner, bL_Life, bL_State, bL_Tray]) ?_
  refine y_put1 F.1 (fs' := [.ref (w.2.2.2.1 + (P.length + 1)), .ref (w.2.2.2.1 + (P.length + 2)), .null, .null, .null, .null, .null, .null, .null, .null, .null, .int 0, .int 0, .int 0, .int 0, .int 0, .int 0, .long 0, .long 0]) (i := 9) rfl fl_KT_15 bp_KT_1 (Nat.le_of_ble_eq_true rfl) rfl rfl rfl ?_
  refine y_aload_n F.1 (i := 10) rfl rfl ?_
  refine y_iconst F.1 (i := 11) (v := 3) rfl (by decide) ?_
  refine y_newq1 F.1 (t := 4) (N := 3) (m := 3) (i := 12) rfl bc_KT_19 (Or.inr rfl) rfl (by decide) (by decide) (Nat.le_of_ble_eq_true rfl) (by omega) (by omega) (by simp only [List.length_append, List.length_cons, List.length_nil, bL_TreatyText, bL_CenturyText, bL_Seen, bL_Joiner, bL_Life, bL_State, bL_Tray]) ?_
  refine y_put1 F.1 (fs' := [.ref (w.2.2.2.1 + (P.length + 1)), .ref (w.2.2.2.1 + (P.length + 2)), .ref (w.2.2.2.1 + (P.length + 3)), .null, .null, .null, .null, .null, .null, .null, .null, .int 0, .int 0, .int 0, .int 0, .int 0, .int 0, .long 0, .long 0]) (i := 13) rfl fl_KT_21 bp_KT_2 (Nat.le_of_ble_eq_true rfl) rfl rfl rfl ?_
  refine y_aload_n F.1 (i := 14) rfl rfl ?_
  refine y_new1 F.1 (m := 4) (fs := [.null, .int 0, .int 0]) (i := 15) rfl bc_KT_25 bs_TreatyText bn_TreatyText (ci := 7) rfl (by decide +kernel) (by omega) (by omega) (by simp only [List.length_append, List.length_cons, List.length_nil, bL_TreatyText, bL_CenturyText, bL_Seen, bL_Joiner, bL_Life, bL_State, bL_Tray]) ?_
  refine y_dup F.1 (i := 16) rfl rfl ?_
  refine y_initN1 F.1 (blk := blk_TreatyText w) (n := 4) (i := 17) rfl bm_KT_27 rfl rfl ok_TreatyText_init (Nat.le_of_ble_eq_true rfl) (Nat.le_of_ble_eq_true rfl) (fun P => b_TreatyText P) (by simp only [List.length_append, List.length_cons, List.length_nil, bL_TreatyText, bL_CenturyText, bL_Seen, bL_Joiner, bL_Life, bL_State, bL_Tray]) (by omega) (by omega) ?_
  refine y_put1 F.1 (fs' := [.ref (w.2.2.2.1 + (P.length + 1)), .ref (w.2.2.2.1 + (P.length + 2)), .ref (w.2.2.2.1 + (P.length + 3)), .ref (w.2.2.2.1 + (P.length + 4)), .null, .null, .null, .null, .null, .null, .null, .int 0, .int 0, .int 0, .int 0, .int 0, .int 0, .long 0, .long 0]) (i := 18) rfl fl_KT_28 bp_KT_3 (Nat.le_of_ble_eq_true rfl) rfl rfl rfl ?_
  refine y_aload_n F.1 (i := 19) rfl rfl ?_
  refine y_new1 F.1 (m := 8) (fs := [.null, .null, .int 0]) (i := 20) rfl bc_KT_32 bs_CenturyText bn_CenturyText (ci := 8) rfl (by decide +kernel) (by omega) (by omega) (by simp only [List.length_append, List.length_cons, List.length_nil, bL_TreatyText, bL_CenturyText, bL_Seen, bL_Joiner, bL_Life, bL_State, bL_Tray]) ?_
  refine y_dup F.1 (i := 21) rfl rfl ?_
  refine y_initN1 F.1 (blk := blk_CenturyText w) (n := 8) (i := 22) rfl bm_KT_34 rfl rfl ok_CenturyText_init (Nat.le_of_ble_eq_true rfl) (Nat.le_of_ble_eq_true rfl) (fun P => b_CenturyText P) (by simp only [List.length_append, List.length_cons, List.length_nil, bL_TreatyText, bL_CenturyText, bL_Seen, bL_Joiner, bL_Life, bL_State, bL_Tray]) (by omega) (by omega) ?_
  refine y_put1 F.1 (fs' := [.ref (w.2.2.2.1 + (P.length + 1)), .ref (w.2.2.2.1 + (P.length + 2)), .ref (w.2.2.2.1 + (P.length + 3)), .ref (w.2.2.2.1 + (P.length + 4)), .ref (w.2.2.2.1 + (P.length + 8)), .null, .null, .null, .null, .null, .null, .int 0, .int 0, .int 0, .int 0, .int 0, .int 0, .long 0, .long 0]) (i := 23) rfl fl_KT_35 bp_KT_4 (Nat.le_of_ble_eq_true rfl) rfl rfl rfl ?_
  refine y_aload_n F.1 (i := 24) rfl rfl ?_
  refine y_new1 F.1 (m := 13) (fs := [.null, .int 0, .null, .int 0, .null, .null]) (i := 25) rfl bc_KT_39 bs_Seen bn_Seen (ci := 10) rfl (by decide +kernel) (by omega) (by omega) (by simp only [List.length_append, List.length_cons, List.length_nil, bL_TreatyText, bL_CenturyText, bL_Seen, bL_Joiner, bL_Life, bL_State, bL_Tray]) ?_
  refine y_dup F.1 (i := 26) rfl rfl ?_
  refine y_initN1 F.1 (blk := blk_Seen w) (n := 13) (i := 27) rfl bm_KT_41 rfl rfl ok_Seen_init (Nat.le_of_ble_eq_true rfl) (Nat.le_of_ble_eq_true rfl) (fun P => b_Seen P) (by simp only [List.length_append, List.length_cons, List.length_nil, bL_TreatyText, bL_CenturyText, bL_Seen, bL_Joiner, bL_Life, bL_State, bL_Tray]) (by omega) (by omega) ?_
  refine y_put1 F.1 (fs' := [.ref (w.2.2.2.1 + (P.length + 1)), .ref (w.2.2.2.1 + (P.length + 2)), .ref (w.2.2.2.1 + (P.length + 3)), .ref (w.2.2.2.1 + (P.length + 4)), .ref (w.2.2.2.1 + (P.length + 8)), .ref (w.2.2.2.1 + (P.length + 13)), .null, .null, .null, .null, .null, .int 0, .int 0, .int 0, .int 0, .int 0, .int 0, .long 0, .long 0]) (i := 28) rfl fl_KT_42 bp_KT_5 (Nat.le_of_ble_eq_true rfl) rfl rfl rfl ?_
  refine y_aload_n F.1 (i := 29) rfl rfl ?_
  refine y_new1 F.1 (m := 18) (fs := [.null, .null, .null, .null, .int 0, .int 0, .long 0]) (i := 30) rfl bc_KT_46 bs_Joiner bn_Joiner (ci := 11) rfl (by decide +kernel) (by omega) (by omega) (by simp only [List.length_append, List.length_cons, List.length_nil, bL_TreatyText, bL_CenturyText, bL_Seen, bL_Joiner, bL_Life, bL_State, bL_Tray]) ?_
  refine y_dup F.1 (i := 31) rfl rfl ?_
  refine y_initN1 F.1 (blk := blk_Joiner w) (n := 18) (i := 32) rfl bm_KT_48 rfl rfl ok_Joiner_init (Nat.le_of_ble_eq_true rfl) (Nat.le_of_ble_eq_true rfl) (fun P => b_Joiner P) (by simp only [List.length_append, List.length_cons, List.length_nil, bL_TreatyText, bL_CenturyText, bL_Seen, bL_Joiner, bL_Life, bL_State, bL_Tray]) (by omega) (by omega) ?_
  refine y_put1 F.1 (fs' := [.ref (w.2.2.2.1 + (P.length + 1)), .ref (w.2.2.2.1 + (P.length + 2)), .ref (w.2.2.2.1 + (P.length + 3)), .ref (w.2.2.2.1 + (P.length + 4)), .ref (w.2.2.2.1 + (P.length + 8)), .ref (w.2.2.2.1 + (P.length + 13)), .ref (w.2.2.2.1 + (P.length + 18)), .null, .null, .null, .null, .int 0, .int 0, .int 0, .int 0, .int 0, .int 0, .long 0, .long 0]) (i := 33) rfl fl_KT_49 bp_KT_6 (Nat.le_of_ble_eq_true rfl) rfl rfl rfl ?_
  refine y_aload_n F.1 (i := 34) rfl rfl ?_
  refine y_new1 F.1 (m := 23) (fs := [.null, .int 0, .int 0, .int 0, .int 0, .int 0, .int 0, .int 0]) (i := 35) rfl bc_KT_53 bs_Life bn_Life (ci := 9) rfl (by decide +kernel) (by omega) (by omega) (by simp only [List.length_append, List.length_cons, List.length_nil, bL_TreatyText, bL_CenturyText, bL_Seen, bL_Joiner, bL_Life, bL_State, bL_Tray]) ?_
  refine y_dup F.1 (i := 36) rfl rfl ?_
  refine y_initN1 F.1 (blk := blk_Life w) (n := 23) (i := 37) rfl bm_KT_55 rfl rfl ok_Life_init (Nat.le_of_ble_eq_true rfl) (Nat.le_of_ble_eq_true rfl) (fun P => b_Life P) (by simp only [List.length_append, List.length_cons, List.length_nil, bL_TreatyText, bL_CenturyText, bL_Seen, bL_Joiner, bL_Life, bL_State, bL_Tray]) (by omega) (by omega) ?_
  refine y_put1 F.1 (fs' := [.ref (w.2.2.2.1 + (P.length + 1)), .ref (w.2.2.2.1 + (P.length + 2)), .ref (w.2.2.2.1 + (P.length + 3)), .ref (w.2.2.2.1 + (P.length + 4)), .ref (w.2.2.2.1 + (P.length + 8)), .ref (w.2.2.2.1 + (P.length + 13)), .ref (w.2.2.2.1 + (P.length + 18)), .ref (w.2.2.2.1 + (P.length + 23)), .null, .null, .null, .int 0, .int 0, .int 0, .int 0, .int 0, .int 0, .long 0, .long 0]) (i := 38) rfl fl_KT_56 bp_KT_7 (Nat.le_of_ble_eq_true rfl) rfl rfl rfl ?_
  refine y_aload_n F.1 (i := 39) rfl rfl ?_
  refine y_new1 F.1 (m := 25) (fs := [.null, .int 0, .int 0, .int 0, .int 0, .int 0, .int 0, .int 0]) (i := 40) rfl bc_KT_53 bs_Life bn_Life (ci := 9) rfl (by decide +kernel) (by omega) (by omega) (by simp only [List.length_append, List.length_cons, List.length_nil, bL_TreatyText, bL_CenturyText, bL_Seen, bL_Joiner, bL_Life, bL_State, bL_Tray]) ?_
  refine y_dup F.1 (i := 41) rfl rfl ?_
  refine y_initN1 F.1 (blk := blk_Life w) (n := 25) (i := 42) rfl bm_KT_55 rfl rfl ok_Life_init (Nat.le_of_ble_eq_true rfl) (Nat.le_of_ble_eq_true rfl) (fun P => b_Life P) (by simp only [List.length_append, List.length_cons, List.length_nil, bL_TreatyText, bL_CenturyText, bL_Seen, bL_Joiner, bL_Life, bL_State, bL_Tray]) (by omega) (by omega) ?_
  refine y_put1 F.1 (fs' := [.ref (w.2.2.2.1 + (P.length + 1)), .ref (w.2.2.2.1 + (P.length + 2)), .ref (w.2.2.2.1 + (P.length + 3)), .ref (w.2.2.2.1 + (P.length + 4)), .ref (w.2.2.2.1 + (P.length + 8)), .ref (w.2.2.2.1 + (P.length + 13)), .ref (w.2.2.2.1 + (P.length + 18)), .ref (w.2.2.2.1 + (P.length + 23)), .ref (w.2.2.2.1 + (P.length + 25)), .null, .null, .int 0, .int 0, .int 0, .int 0, .int 0, .int 0, .long 0, .long 0]) (i := 43) rfl fl_KT_60 bp_KT_8 (Nat.le_of_ble_eq_true rfl) rfl rfl rfl ?_
  refine y_aload_n F.1 (i := 44) rfl rfl ?_
  refine y_new1 F.1 (m := 27) (fs := [.null, .null, .null]) (i := 45) rfl bc_KT_19 bs_State bn_State (ci := 2) rfl (by decide +kernel) (by omega) (by omega) (by simp only [List.length_append, List.length_cons, List.length_nil, bL_TreatyText, bL_CenturyText, bL_Seen, bL_Joiner, bL_Life, bL_State, bL_Tray]) ?_
  refine y_dup F.1 (i := 46) rfl rfl ?_
  refine y_initN1 F.1 (blk := blk_State w) (n := 27) (i := 47) rfl bm_KT_63 rfl rfl ok_State_init (Nat.le_of_ble_eq_true rfl) (Nat.le_of_ble_eq_true rfl) (fun P => b_State P) (by simp only [List.length_append, List.length_cons, List.length_nil, bL_TreatyText, bL_CenturyText, bL_Seen, bL_Joiner, bL_Life, bL_State, bL_Tray]) (by omega) (by omega) ?_
  refine y_put1 F.1 (fs' := [.ref (w.2.2.2.1 + (P.length + 1)), .ref (w.2.2.2.1 + (P.length + 2)), .ref (w.2.2.2.1 + (P.length + 3)), .ref (w.2.2.2.1 + (P.length + 4)), .ref (w.2.2.2.1 + (P.length + 8)), .ref (w.2.2.2.1 + (P.length + 13)), .ref (w.2.2.2.1 + (P.length + 18)), .ref (w.2.2.2.1 + (P.length + 23)), .ref (w.2.2.2.1 + (P.length + 25)), .ref (w.2.2.2.1 + (P.length + 27)), .null, .int 0, .int 0, .int 0, .int 0, .int 0, .int 0, .long 0, .long 0]) (i := 48) rfl fl_KT_64 bp_KT_9 (Nat.le_of_ble_eq_true rfl) rfl rfl rfl ?_
  refine y_aload_n F.1 (i := 49) rfl rfl ?_
  refine y_new1 F.1 (m := 47) (fs := [.null, .null, .null]) (i := 50) rfl bc_KT_19 bs_State bn_State (ci := 2) rfl (by decide +kernel) (by omega) (by omega) (by simp only [List.length_append, List.length_cons, List.length_nil, bL_TreatyText, bL_CenturyText, bL_Seen, bL_Joiner, bL_Life, bL_State, bL_Tray]) ?_
  refine y_dup F.1 (i := 51) rfl rfl ?_
  refine y_initN1 F.1 (blk := blk_State w) (n := 47) (i := 52) rfl bm_KT_63 rfl rfl ok_State_init (Nat.le_of_ble_eq_true rfl) (Nat.le_of_ble_eq_true rfl) (fun P => b_State P) (by simp only [List.length_append, List.length_cons, List.length_nil, bL_TreatyText, bL_CenturyText, bL_Seen, bL_Joiner, bL_Life, bL_State, bL_Tray]) (by omega) (by omega) ?_
  refine y_put1 F.1 (fs' := [.ref (w.2.2.2.1 + (P.length + 1)), .ref (w.2.2.2.1 + (P.length + 2)), .ref (w.2.2.2.1 + (P.length + 3)), .ref (w.2.2.2.1 + (P.length + 4)), .ref (w.2.2.2.1 + (P.length + 8)), .ref (w.2.2.2.1 + (P.length + 13)), .ref (w.2.2.2.1 + (P.length + 18)), .ref (w.2.2.2.1 + (P.length + 23)), .ref (w.2.2.2.1 + (P.length + 25)), .ref (w.2.2.2.1 + (P.length + 27)), .ref (w.2.2.2.1 + (P.length + 47)), .int 0, .int 0, .int 0, .int 0, .int 0, .int 0, .long 0, .long 0]) (i := 53) rfl fl_KT_68 bp_KT_10 (Nat.le_of_ble_eq_true rfl) rfl rfl rfl ?_
  refine y_aload_n F.1 (i := 54) rfl rfl ?_
  refine y_iconst F.1 (i := 55) (v := 0) rfl (by decide) ?_
  refine y_put1 F.1 (fs' := [.ref (w.2.2.2.1 + (P.length + 1)), .ref (w.2.2.2.1 + (P.length + 2)), .ref (w.2.2.2.1 + (P.length + 3)), .ref (w.2.2.2.1 + (P.length + 4)), .ref (w.2.2.2.1 + (P.length + 8)), .ref (w.2.2.2.1 + (P.length + 13)), .ref (w.2.2.2.1 + (P.length + 18)), .ref (w.2.2.2.1 + (P.length + 23)), .ref (w.2.2.2.1 + (P.length + 25)), .ref (w.2.2.2.1 + (P.length + 27)), .ref (w.2.2.2.1 + (P.length + 47)), .int 0, .int 0, .int 0, .int 0, .int 0, .int 0, .long 0, .long 0]) (i := 56) rfl fl_KT_71 bp_KT_11 (Nat.le_of_ble_eq_true rfl) rfl rfl rfl ?_
  refine y_aload_n F.1 (i := 57) rfl rfl ?_
  refine y_iconst F.1 (i := 58) (v := 0) rfl (by decide) ?_
  refine y_put1 F.1 (fs' := [.ref (w.2.2.2.1 + (P.length + 1)), .ref (w.2.2.2.1 + (P.length + 2)), .ref (w.2.2.2.1 + (P.length + 3)), .ref (w.2.2.2.1 + (P.length + 4)), .ref (w.2.2.2.1 + (P.length + 8)), .ref (w.2.2.2.1 + (P.length + 13)), .ref (w.2.2.2.1 + (P.length + 18)), .ref (w.2.2.2.1 + (P.length + 23)), .ref (w.2.2.2.1 + (P.length + 25)), .ref (w.2.2.2.1 + (P.length + 27)), .ref (w.2.2.2.1 + (P.length + 47)), .int 0, .int 0, .int 0, .int 0, .int 0, .int 0, .long 0, .long 0]) (i := 59) rfl fl_KT_75 bp_KT_12 (Nat.le_of_ble_eq_true rfl) rfl rfl rfl ?_
  refine y_aload_n F.1 (i := 60) rfl rfl ?_
  refine y_iconst F.1 (i := 61) (v := 0) rfl (by decide) ?_
  refine y_put1 F.1 (fs' := [.ref (w.2.2.2.1 + (P.length + 1)), .ref (w.2.2.2.1 + (P.length + 2)), .ref (w.2.2.2.1 + (P.length + 3)), .ref (w.2.2.2.1 + (P.length + 4)), .ref (w.2.2.2.1 + (P.length + 8)), .ref (w.2.2.2.1 + (P.length + 13)), .ref (w.2.2.2.1 + (P.length + 18)), .ref (w.2.2.2.1 + (P.length + 23)), .ref (w.2.2.2.1 + (P.length + 25)), .ref (w.2.2.2.1 + (P.length + 27)), .ref (w.2.2.2.1 + (P.length + 47)), .int 0, .int 0, .int 0, .int 0, .int 0, .int 0, .long 0, .long 0]) (i := 62) rfl fl_KT_78 bp_KT_13 (Nat.le_of_ble_eq_true rfl) rfl rfl rfl ?_
  refine y_aload_n F.1 (i := 63) rfl rfl ?_
  refine y_iconst F.1 (i := 64) (v := -1) rfl (by decide) ?_
  refine y_put1 F.1 (fs' := [.ref (w.2.2.2.1 + (P.length + 1)), .ref (w.2.2.2.1 + (P.length + 2)), .ref (w.2.2.2.1 + (P.length + 3)), .ref (w.2.2.2.1 + (P.length + 4)), .ref (w.2.2.2.1 + (P.length + 8)), .ref (w.2.2.2.1 + (P.length + 13)), .ref (w.2.2.2.1 + (P.length + 18)), .ref (w.2.2.2.1 + (P.length + 23)), .ref (w.2.2.2.1 + (P.length + 25)), .ref (w.2.2.2.1 + (P.length + 27)), .ref (w.2.2.2.1 + (P.length + 47)), .int 0, .int 0, .int 0, .int (-1), .int 0, .int 0, .long 0, .long 0]) (i := 65) rfl fl_KT_81 bp_KT_14 (Nat.le_of_ble_eq_true rfl) rfl rfl rfl ?_
  refine y_aload_n F.1 (i := 66) rfl rfl ?_
  refine y_iconst F.1 (i := 67) (v := -1) rfl (by decide) ?_
  refine y_put1 F.1 (fs' := [.ref (w.2.2.2.1 + (P.length + 1)), .ref (w.2.2.2.1 + (P.length + 2)), .ref (w.2.2.2.1 + (P.length + 3)), .ref (w.2.2.2.1 + (P.length + 4)), .ref (w.2.2.2.1 + (P.length + 8)), .ref (w.2.2.2.1 + (P.length + 13)), .ref (w.2.2.2.1 + (P.length + 18)), .ref (w.2.2.2.1 + (P.length + 23)), .ref (w.2.2.2.1 + (P.length + 25)), .ref (w.2.2.2.1 + (P.length + 27)), .ref (w.2.2.2.1 + (P.length + 47)), .int 0, .int 0, .int 0, .int (-1), .int (-1), .int 0, .long 0, .long 0]) (i := 68) rfl fl_KT_84 bp_KT_15 (Nat.le_of_ble_eq_true rfl) rfl rfl rfl ?_
  refine y_aload_n F.1 (i := 69) rfl rfl ?_
  refine y_iconst F.1 (i := 70) (v := 0) rfl (by decide) ?_
  refine y_put1 F.1 (fs' := [.ref (w.2.2.2.1 + (P.length + 1)), .ref (w.2.2.2.1 + (P.length + 2)), .ref (w.2.2.2.1 + (P.length + 3)), .ref (w.2.2.2.1 + (P.length + 4)), .ref (w.2.2.2.1 + (P.length + 8)), .ref (w.2.2.2.1 + (P.length + 13)), .ref (w.2.2.2.1 + (P.length + 18)), .ref (w.2.2.2.1 + (P.length + 23)), .ref (w.2.2.2.1 + (P.length + 25)), .ref (w.2.2.2.1 + (P.length + 27)), .ref (w.2.2.2.1 + (P.length + 47)), .int 0, .int 0, .int 0, .int (-1), .int (-1), .int 0, .long 0, .long 0]) (i := 71) rfl fl_KT_87 bp_KT_16 (Nat.le_of_ble_eq_true rfl) rfl rfl rfl ?_
  refine y_aload_n F.1 (i := 72) rfl rfl ?_
  refine y_lconst F.1 (i := 73) (v := 0) rfl (by decide) ?_
  refine y_put1 F.1 (fs' := [.ref (w.2.2.2.1 + (P.length + 1)), .ref (w.2.2.2.1 + (P.length + 2)), .ref (w.2.2.2.1 + (P.length + 3)), .ref (w.2.2.2.1 + (P.length + 4)), .ref (w.2.2.2.1 + (P.length + 8)), .ref (w.2.2.2.1 + (P.length + 13)), .ref (w.2.2.2.1 + (P.length + 18)), .ref (w.2.2.2.1 + (P.length + 23)), .ref (w.2.2.2.1 + (P.length + 25)), .ref (w.2.2.2.1 + (P.length + 27)), .ref (w.2.2.2.1 + (P.length + 47)), .int 0, .int 0, .int 0, .int (-1), .int (-1), .int 0, .long 0, .long 0]) (i := 74) rfl fl_KT_91 bp_KT_17 (Nat.le_of_ble_eq_true rfl) rfl rfl rfl ?_
  refine y_aload_n F.1 (i := 75) rfl rfl ?_
  refine y_lconst F.1 (i := 76) (v := 1) rfl (by decide) ?_
  refine y_put1 F.1 (fs' := [.ref (w.2.2.2.1 + (P.length + 1)), .ref (w.2.2.2.1 + (P.length + 2)), .ref (w.2.2.2.1 + (P.length + 3)), .ref (w.2.2.2.1 + (P.length + 4)), .ref (w.2.2.2.1 + (P.length + 8)), .ref (w.2.2.2.1 + (P.length + 13)), .ref (w.2.2.2.1 + (P.length + 18)), .ref (w.2.2.2.1 + (P.length + 23)), .ref (w.2.2.2.1 + (P.length + 25)), .ref (w.2.2.2.1 + (P.length + 27)), .ref (w.2.2.2.1 + (P.length + 47)), .int 0, .int 0, .int 0, .int (-1), .int (-1), .int 0, .long 0, .long 1]) (i := 77) rfl fl_KT_95 bp_KT_18 (Nat.le_of_ble_eq_true rfl) rfl rfl rfl ?_
  refine bx_Req (R' := .inl (w.2.2.1 3, 4, .inr (.inr (.inr (.inr (fun _ => none))))) :: .inl (w.2.2.1 0, 900, .inl (fun _ => 0)) :: .inl (w.2.2.1 4, 3, .inr (.inr (.inr (.inr (fun _ => none))))) :: (blk_TreatyText w (P.length + 4) ++ (blk_CenturyText w (P.length + 8) ++ (blk_Seen w (P.length + 13) ++ (blk_Joiner w (P.length + 18) ++ (blk_Life w (P.length + 23) ++ (blk_Life w (P.length + 25) ++ (blk_State w (P.length + 27) ++ (blk_State w (P.length + 47)))))))))) (by simp only [List.nil_append, List.cons_append, List.append_assoc]) ?_
  refine y_iconst F.1 (i := 78) (v := 0) rfl (by decide) ?_
  refine y_istore_n F.1 (i := 79) rfl (by decide) (Nat.le_of_ble_eq_true rfl) rfl ?_
  refine kt_tray F (i := 0) (n := 66) rfl (by decide) (by simp only [List.length_append, List.length_cons, List.length_nil, bL_TreatyText, bL_CenturyText, bL_Seen, bL_Joiner, bL_Life, bL_State, bL_Tray]) (by omega) (by omega) ?_
  refine kt_tray F (i := 1) (n := 68) rfl (by decide) (by simp only [List.length_append, List.length_cons, List.length_nil, bL_TreatyText, bL_CenturyText, bL_Seen, bL_Joiner, bL_Life, bL_State, bL_Tray]) (by omega) (by omega) ?_
  refine kt_tray F (i := 2) (n := 70) rfl (by decide) (by simp only [List.length_append, List.length_cons, List.length_nil, bL_TreatyText, bL_CenturyText, bL_Seen, bL_Joiner, bL_Life, bL_State, bL_Tray]) (by omega) (by omega) ?_
  refine kt_tray F (i := 3) (n := 72) rfl (by decide) (by simp only [List.length_append, List.length_cons, List.length_nil, bL_TreatyText, bL_CenturyText, bL_Seen, bL_Joiner, bL_Life, bL_State, bL_Tray]) (by omega) (by omega) ?_
  refine y_iload_n F.1 (i := 80) rfl rfl ?_
  refine y_iconst F.1 (i := 81) (v := 4) rfl (by decide) ?_
  refine y_icmp_ge F.1 (i := 82) (tgt := 183) rfl (by decide) (fun _ => ?_) (fun c => absurd (by decide) c)
  refine y_iconst F.1 (i := 92) (v := 0) rfl (by decide) ?_
  refine y_istore_n F.1 (i := 93) rfl (by decide) (Nat.le_of_ble_eq_true rfl) rfl ?_
  refine kt_kept F (i := 0) (n := 74) rfl (by decide) (by simp only [List.length_append, List.length_cons, List.length_nil, bL_TreatyText, bL_CenturyText, bL_Seen, bL_Joiner, bL_Life, bL_State, bL_Tray]) (by omega) (by omega) ?_
  refine kt_kept F (i := 1) (n := 94) rfl (by decide) (by simp only [List.length_append, List.length_cons, List.length_nil, bL_TreatyText, bL_CenturyText, bL_Seen, bL_Joiner, bL_Life, bL_State, bL_Tray]) (by omega) (by omega) ?_
  refine kt_kept F (i := 2) (n := 114) rfl (by decide) (by simp only [List.length_append, List.length_cons, List.length_nil, bL_TreatyText, bL_CenturyText, bL_Seen, bL_Joiner, bL_Life, bL_State, bL_Tray]) (by omega) (by omega) ?_
  refine y_iload_n F.1 (i := 94) rfl rfl ?_
  refine y_iconst F.1 (i := 95) (v := 3) rfl (by decide) ?_
  refine y_icmp_ge F.1 (i := 96) (tgt := 209) rfl (by decide) (fun _ => ?_) (fun c => absurd (by decide) c)
  exact y_vret F (i := 106) rfl rfl (by omega) (by omega) ⟨rfl, rfl⟩
