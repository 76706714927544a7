/-! ## the law from its entry -/
theorem bL_KTa (w : kx_W) {a : va_E} : (blk_KT w 0 ++ [a]).length = 136 := by
  rw [List.length_append, bL_KT0]
  rfl
set_option maxHeartbeats 4000000 in
theorem lw_make {w : kx_W} {nm : String} {G : Nat → List (Option Value) → List Value → bx_St → Prop} (F : bx_Sb w 9 137 6302 "KnitTreatyLaw" nm code 19 m_LW_law.2.2.2.2 G) (k : G 18 [some (.retAddr 3), some (.ref 0), some (.ref 135), some (.ref 136), none, none, none, none, none, none, none, none, none, none, none, none, none, none, none] [] (blk_KT w 0 ++ blk_LA w, 137, 6302)) : G 0 [some (.retAddr 3), none, none, none, none, none, none, none, none, none, none, none, none, none, none, none, none, none, none] [] ([], 0, 0) := by
  refine y_new F (i := 0) (ci := 0) (fs := [.null, .null, .null, .null, .null, .null, .null, .null, .null, .null, .null, .int 0, .int 0, .int 0, .int 0, .int 0, .int 0, .long 0, .long 0]) (M' := ([.inr (0, [.null, .null, .null, .null, .null, .null, .null, .null, .null, .null, .null, .int 0, .int 0, .int 0, .int 0, .int 0, .int 0, .long 0, .long 0])], 1, 19)) (q0 := 0) rfl bc_LW_18 bs_KT bn_KT rfl (by decide +kernel) (Nat.le_of_ble_eq_true rfl) (Nat.le_of_ble_eq_true rfl) rfl rfl ?_
  refine y_dup F (i := 1) rfl rfl ?_
  refine y_init F (i := 2) (E' := blk_KT w 0) (mc' := 134) (ms' := 6207) rfl bm_LW_120 rfl rfl ok_KT_init (Nat.le_of_ble_eq_true rfl) (Nat.le_of_ble_eq_true rfl) (b_KT (w := w) (d := 0) []) (Nat.le_of_ble_eq_true rfl) (Nat.le_of_ble_eq_true rfl) ?_
  refine y_astore_n F (i := 3) rfl (by decide) (Nat.le_of_ble_eq_true rfl) rfl ?_
  refine y_bipush F (i := 4) (v := 24) rfl (by decide) ?_
  refine y_newa F (i := 5) (t := 0) (N := 24) (a0 := (24, .inl (fun _ => 0))) (M' := (blk_KT w 0 ++ [.inl (w.2.2.1 0, 24, .inl (fun _ => 0))], 136, 6250)) (q0 := 135) rfl ba_int rfl (fun _ => rfl) (by decide) (by decide) (Nat.le_of_ble_eq_true rfl) (Nat.le_of_ble_eq_true rfl) (Nat.le_of_ble_eq_true rfl) (bL_KT0 w) rfl ?_
  refine y_astore_n F (i := 6) rfl (by decide) (Nat.le_of_ble_eq_true rfl) rfl ?_
  refine y_bipush F (i := 7) (v := 52) rfl (by decide) ?_
  refine y_newa F (i := 8) (t := 0) (N := 52) (a0 := (52, .inl (fun _ => 0))) (M' := (blk_KT w 0 ++ blk_LA w, 137, 6302)) (q0 := 136) rfl ba_int rfl (fun _ => rfl) (by decide) (by decide) (Nat.le_of_ble_eq_true rfl) (Nat.le_of_ble_eq_true rfl) (Nat.le_of_ble_eq_true rfl) (bL_KTa w) (by rw [List.append_assoc]; rfl) ?_
  refine y_astore_n F (i := 9) rfl (by decide) (Nat.le_of_ble_eq_true rfl) rfl ?_
  exact k
/-- the law's places in the machine: what w says where -/
def st_wF (tw z4 b n : Nat) (K V : Nat → Nat) (xs : Nat → Int32) (k : Nat) : Nat := if k = 0 then tw else if k = 1 then K 0 else if k = 2 then V 0 else if k = 3 then b else if k = 4 then z4 else if k = 5 then n else if k < 30 then K (k - 9) else if k < 100 then V (k - 29) else (xs (k - 100)).toBitVec.toNat
theorem st_wK {tw z4 b n : Nat} {K V : Nat → Nat} {xs : Nat → Int32} {i : Nat} (h : i < 15) : st_wF tw z4 b n K V xs (i + 10) = K (i + 1) := by
  unfold st_wF
  rw [if_neg (by omega), if_neg (by omega), if_neg (by omega), if_neg (by omega), if_neg (by omega), if_neg (by omega), if_pos (by omega)]
  exact congrArg K (by omega)
theorem st_wV {tw z4 b n : Nat} {K V : Nat → Nat} {xs : Nat → Int32} {i : Nat} (h : i < 15) : st_wF tw z4 b n K V xs (i + 30) = V (i + 1) := by
  unfold st_wF
  rw [if_neg (by omega), if_neg (by omega), if_neg (by omega), if_neg (by omega), if_neg (by omega), if_neg (by omega), if_neg (by omega), if_pos (by omega)]
  exact congrArg V (by omega)
theorem st_wX {tw z4 b n : Nat} {K V : Nat → Nat} {xs : Nat → Int32} {i : Nat} : Int32.ofBitVec (BitVec.ofNat 32 (st_wF tw z4 b n K V xs (i + 100))) = xs i := by
  unfold st_wF
  rw [if_neg (by omega), if_neg (by omega), if_neg (by omega), if_neg (by omega), if_neg (by omega), if_neg (by omega), if_neg (by omega), if_neg (by omega), Nat.add_sub_cancel, BitVec.ofNat_toNat, BitVec.setWidth_eq]
  rfl
theorem whole_start {p : Program} {e : Env} {s : State} {m : MethodId} {below : List Frame} {meth : Method} {c : Code} (l : Launch) (hflags : l.flags = flags0) {b L : Nat} {xs : Nat → Int32} (hL : L ≤ 260) (C0 : lw_At p s m meth c b L xs) : W p l e room_1 s m #[Value.ref b] below meth c s.heap [] 0 0 (lw_Z below #[Value.ref b] s) (entryFrame m ([Value.ref b] : List Value).toArray 19) := by
  obtain ⟨hx, hb, hr, hml, hown, hts, hX, hbl, hlocks, hgv⟩ := id C0
  have hs : ∀ x ∈ lw_F, x.before #[Value.ref b] s = true := flat_of_before _ hgv
  obtain ⟨dC, dI, hKc⟩ := st_known hts
  obtain ⟨cA, hKa⟩ := st_arr hts
  have hA : ∀ a : Nat, a < s.heap.size → ¬ (fun q : Nat => s.heap.size ≤ q) a := fun a h => Nat.not_le.mpr h
  obtain ⟨tw, hw1, hw2⟩ := st_wool hts hs hA
  have hc := st_comp hts hs hA
  obtain ⟨vs, hv, hsio⟩ := st_sio hts hs hA
  obtain ⟨K, V, hstr, hev⟩ := st_str hs hA
  obtain ⟨z4, v0, hv0, hz4⟩ : ∃ (z4 : Nat) (v0 : Value), (v0 = .null ∨ v0 = .retAddr 4) ∧ ∀ w : kx_W, w.2.2.2.2 4 = z4 → kx_cv w v0 = vs := by
    rcases hv with e | ⟨a, e⟩
    · exact ⟨0, .null, Or.inl rfl, fun w _ => e.symm⟩
    · refine ⟨a, .retAddr 4, Or.inr rfl, fun w h => ?_⟩
      rw [e]
      show Value.ref (w.2.2.2.2 4) = _
      rw [h]
  obtain ⟨w, hwd⟩ : ∃ w : kx_W, w = (l, (dC, dI), cA, s.heap.size, st_wF tw z4 b L K V xs) := ⟨_, rfl⟩
  have w1 : w.1 = l := by rw [hwd]
  have w2 : w.2.1 = (dC, dI) := by rw [hwd]
  have w3 : w.2.2.1 = cA := by rw [hwd]
  have w4 : w.2.2.2.1 = s.heap.size := by rw [hwd]
  have w5 : w.2.2.2.2 = st_wF tw z4 b L K V xs := by rw [hwd]
  have hwA : kx_A w = fun q : Nat => s.heap.size ≤ q := by
    unfold kx_A
    rw [w4]
  have q0 : w.2.2.2.2 0 = tw := by rw [w5]; rfl
  have q1 : w.2.2.2.2 1 = K 0 := by rw [w5]; rfl
  have q2 : w.2.2.2.2 2 = V 0 := by rw [w5]; rfl
  have q3 : w.2.2.2.2 3 = b := by rw [w5]; rfl
  have q4 : w.2.2.2.2 4 = z4 := by rw [w5]; rfl
  have q5 : w.2.2.2.2 5 = L := by rw [w5]; rfl
  have hsc : kx_sc w = (L, xs) := by
    unfold kx_sc
    rw [q5]
    refine congrArg _ (funext fun j => ?_)
    rw [w5]
    exact st_wX
  have hK : va_K w.2.1 kx_cl (kx_tys w) s := by
    refine ⟨fun k q hq => ?_, fun k q hq => ?_⟩
    · rw [w2]; exact hKc k q hq
    · unfold kx_tys at hq
      rw [w3] at hq
      exact hKa k q hq
  have hbA : ¬ kx_A w b := by
    rw [hwA]
    exact Nat.not_le.mpr hbl
  have hF : bx_F w s s.heap := by
    refine ⟨v0, hv0, ?_⟩
    rw [hz4 w q4, hwA]
    exact hsio
  have hkS : kx_S w s s.heap := by
    unfold kx_S kx_S2
    rw [q0, q3, hsc]
    refine ⟨by rw [hwA]; exact hw1, by rw [hwA]; exact hw2, ?_, ?_, by rw [hwA]; exact hc, hF⟩
    · obtain ⟨scr, x1, x2, x3, x4, x5⟩ := hX
      exact ⟨scr, x1, x2, x3, Nat.le_of_eq x4.symm, by rw [x4], x5, hbA⟩
    · rw [hwA, w5]
      exact st_15 hstr (fun i hi => ⟨st_wK hi, st_wV hi⟩)
  have hkN : kx_N w s := by
    refine ⟨fun n hn => va_Nw.of (st_nk n hn).2 (hts n (st_nk n hn).1), fun i hi => ?_⟩
    have h1 := hev (i + 1) (by omega)
    rw [st_te i hi] at h1
    rw [w5, st_wK hi]
    exact vk_R.of (st_RL hts i hi) h1
  have hZ : bx_Z w s s.heap := by
    unfold bx_Z
    rw [q1, q2]
    exact ⟨by rw [hwA]; exact st_1 hstr, by rw [hwA]; exact hc, hF, st_R hts (hev 0 (by decide)), fun n hn => va_Nw.of (bx_nest_on n hn) (hts n (st_nb n hn)), (st_AO hts).1, (st_AO hts).2⟩
  obtain ⟨M', hM'⟩ := law_l18 (sc := (L, xs)) (show L < 1000 by omega) L0_0
  obtain ⟨G, hG⟩ : ∃ G, G = kx_g w p e room_1 s m #[Value.ref b] below meth c 19 137 6302 (lw_Z below #[Value.ref b] s) := ⟨_, rfl⟩
  have hret : ∀ pc LL M, decode code pc = .ok (.ireturn, 1) → G pc LL [.int 1] M := by
    intro pc LL M hd
    rw [hG]
    intro H locs ls hP hS hl
    rw [w1]
    refine va_forget (fun q hq => ?_) ?_
    · have := hS.2.2 q hq
      rw [hwA] at this
      exact this
    · exact W.widen (k := 600000) (n := 7302250) (by decide) (by decide) (lw_ret hx hb hr hlocks hd)
  have hSd : Sd w (0 + 9) m_LW_law (fun r _ => r = some (.int 1)) G := by
    refine ⟨⟨p, e, room_1, s, m, #[Value.ref b], below, meth, c, 137, 6302, _, hG, hx, hb, hml, hown, st_tb hts, hK, hkS, hkN, ⟨by decide, by decide, by decide, by decide⟩, lwk_s⟩, ⟨?_, ?_, ?_, ?_, ?_⟩, lwk_s⟩
    · intro pc LL v M hd _ hq
      cases hq
      exact hret pc LL M hd
    · intro pc LL v M ty hd _ _ hq
      cases hq
      exact hret pc LL M hd
    · intro pc LL v M hd h0 _
      exact nomatch h0
    · intro pc LL M hd h0 _
      exact nomatch h0
    · intro pc LL v M C hd h0 _
      exact nomatch h0
  have hG18 := t_LW_law_l18 hSd (p0 := (L, xs)) hsc.symm (res := (nI 1, M')) rfl M0 hM'
  rw [hG] at hG18
  have hl := lv_entry ([.ref b]) (n := 19) (Nat.le_of_ble_eq_true rfl)
  rw [lg_entry_eq]
  generalize (lg_sl ([.ref b]) ++ List.replicate (19 - (lg_sl ([.ref b])).length) Slot.unset).toArray = ls at hl ⊢
  have hl : lv_has ls 19 [(0, .ref b)] := hl
  have hl' : kx_ls w ls 19 [some (.retAddr 3), none, none, none, none, none, none, none, none, none, none, none, none, none, none, none, none, none, none] := by
    show lv_has ls 19 [(0, Value.ref (w.2.2.2.2 3))]
    rw [q3]
    exact hl
  have hX2 : bx_X w 9 137 6302 "KnitTreatyLaw" meth.name code 19 m_LW_law.2.2.2.2 p room_1 s m #[Value.ref b] c meth :=
    ⟨hx, hb, hml, hown, st_tb hts, hK, hZ, by rw [w4]; exact Nat.le_refl _, ⟨by decide, by decide, by decide, by decide⟩, rfl, lwk_s⟩
  have K0 := lw_make (w := w) (nm := meth.name) (G := bx_g w p e room_1 s m #[Value.ref b] below meth c 19 (lw_Z below #[Value.ref b] s)) ⟨p, e, room_1, s, m, #[Value.ref b], below, meth, c, _, rfl, hX2⟩ (fun H locs ls hP hz hS hl => hG18 H locs ls (bx_fin hP) hS hl)
  have K1 := K0 s.heap [] ls (fun k q h => by simp [bx_ws] at h) (by rw [w4]; rfl) va_S.rf hl'
  rw [w1] at K1
  exact K1
