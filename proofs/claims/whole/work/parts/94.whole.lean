/-! ## the law from its entry -/
def lwc_s : List (Nat × Instr × Nat) := [(0, .new 7, 3), (3, .dup, 1), (4, .invokespecial 9, 3), (7, .astore_n 1, 1), (8, .new 10, 3), (11, .dup, 1), (12, .invokespecial 12, 3), (15, .astore_n 2, 1), (16, .iconst 0, 1), (17, .istore_n 3, 1)]
set_option maxRecDepth 20000 in
theorem lwk_s : lw_ok code lwc_s := by
  unfold lw_ok
  decide +kernel
set_option maxHeartbeats 4000000 in
theorem lw_make {w : kx_W} {nm : String} {G : Nat → List (Option Value) → List Value → bx_St → Prop} (F : bx_Sb w 61 151 12536 "KnitTreatyLaw" nm code 4 lwc_s G) (k : G 18 (lw_L 0) [] (blk_KT w 0 ++ blk_RM w 135, 151, 12536)) : G 0 [some (.retAddr 3), none, none, none] [] ([], 0, 0) := by
  refine y_new F (i := 0) (ci := 0) (fs := [.null, .null, .null, .null, .null, .null, .null, .null, .null, .null, .null, .int 0, .int 0, .int 0, .int 0, .int 0, .int 0, .long 0, .long 0]) (M' := ([.inr (0, [.null, .null, .null, .null, .null, .null, .null, .null, .null, .null, .null, .int 0, .int 0, .int 0, .int 0, .int 0, .int 0, .long 0, .long 0])], 1, 19)) (q0 := 0) rfl bc_LW_7 bs_KT bn_KT rfl (by decide +kernel) (Nat.le_of_ble_eq_true rfl) (Nat.le_of_ble_eq_true rfl) rfl rfl ?_
  refine y_dup F (i := 1) rfl rfl ?_
  refine y_init F (i := 2) (E' := blk_KT w 0) (mc' := 134) (ms' := 6207) rfl bm_LW_9 rfl rfl ok_KT_init (Nat.le_of_ble_eq_true rfl) (Nat.le_of_ble_eq_true rfl) (b_KT (w := w) (d := 52) []) (Nat.le_of_ble_eq_true rfl) (Nat.le_of_ble_eq_true rfl) ?_
  refine y_astore_n F (i := 3) rfl (by decide) (Nat.le_of_ble_eq_true rfl) rfl ?_
  refine y_new F (i := 4) (ci := 1) (fs := [.int 0, .int 0, .long 0, .long 0, .null, .null, .null, .null, .int 0, .int 0, .int 0, .int 0, .int 0, .int 0, .int 0, .int 0, .int 0, .int 0, .int 0, .long 0, .null, .null, .null, .null, .int 0, .int 0, .int 0, .null, .int 0, .null, .null, .int 0, .null, .null, .null, .null, .int 0, .int 0, .int 0, .int 0, .int 0, .int 0, .int 0, .int 0, .int 0]) (M' := (blk_KT w 0 ++ [.inr (1, [.int 0, .int 0, .long 0, .long 0, .null, .null, .null, .null, .int 0, .int 0, .int 0, .int 0, .int 0, .int 0, .int 0, .int 0, .int 0, .int 0, .int 0, .long 0, .null, .null, .null, .null, .int 0, .int 0, .int 0, .null, .int 0, .null, .null, .int 0, .null, .null, .null, .null, .int 0, .int 0, .int 0, .int 0, .int 0, .int 0, .int 0, .int 0, .int 0])], 136, 6271)) (q0 := 135) rfl bc_LW_10 bs_RM bn_RM rfl (by decide +kernel) (Nat.le_of_ble_eq_true rfl) (Nat.le_of_ble_eq_true rfl) (bL_KT0 w) rfl ?_
  refine y_dup F (i := 5) rfl rfl ?_
  have hb := b_RM (w := w) (d := 59) (blk_KT w 0)
  rw [bL_KT0] at hb
  refine y_init F (i := 6) (E' := blk_KT w 0 ++ blk_RM w 135) (mc' := 15) (ms' := 6265) rfl bm_LW_12 rfl rfl ok_RM_init (Nat.le_of_ble_eq_true rfl) (Nat.le_of_ble_eq_true rfl) hb (show 136 + 15 ≤ 151 by decide) (show 6271 + 6265 ≤ 12536 by decide) ?_
  refine y_astore_n F (i := 7) rfl (by decide) (Nat.le_of_ble_eq_true rfl) rfl ?_
  refine y_iconst F (i := 8) (v := 0) rfl (by decide) ?_
  refine y_istore_n F (i := 9) rfl (by decide) (Nat.le_of_ble_eq_true rfl) rfl ?_
  exact k
theorem whole_start {p : Program} {e : Env} {s : State} {m : MethodId} {below : List Frame} {meth : Method} {c : Code} (l : Launch) (hflags : l.flags = flags0) {b L : Nat} {xs : Nat → Int32} (hL : L ≤ 3072) (C0 : lw_At p s m meth c b L xs) : W p l e room_1 s m #[Value.ref b] below meth c s.heap [] 0 0 (lw_Z below #[Value.ref b] s) (entryFrame m ([Value.ref b] : List Value).toArray 4) := by
  obtain ⟨hx, hb, hr, hml, hown, hts, hX, hbl, hlocks, hgv⟩ := id C0
  have hs : ∀ x ∈ lw_F, x.before #[Value.ref b] s = true := flat_of_before _ hgv
  obtain ⟨dC, dI, hKc⟩ := st_known hts
  obtain ⟨cA, hKa⟩ := st_arr hts
  have hA : ∀ a : Nat, a < s.heap.size → ¬ (fun q : Nat => s.heap.size ≤ q) a := fun a h => Nat.not_le.mpr h
  obtain ⟨tw, hw1, hw2⟩ := st_wool hts hs hA
  have hc := st_comp hts hs hA
  obtain ⟨vs, hv, hsio⟩ := st_sio hts hs hA
  obtain ⟨ak, av, hstr, hev⟩ := st_str hs hA
  obtain ⟨z4, v0, hv0, hz4⟩ : ∃ (z4 : Nat) (v0 : Value), (v0 = .null ∨ v0 = .retAddr 4) ∧ ∀ w : kx_W, w.2.2.2.2 4 = z4 → kx_cv w v0 = vs := by
    rcases hv with e | ⟨a, e⟩
    · exact ⟨0, .null, Or.inl rfl, fun w _ => e.symm⟩
    · refine ⟨a, .retAddr 4, Or.inr rfl, fun w h => ?_⟩
      rw [e]
      show Value.ref (w.2.2.2.2 4) = _
      rw [h]
  obtain ⟨w, hwd⟩ : ∃ w : kx_W, w = (l, (dC, dI), cA, s.heap.size, fun k => [tw, ak, av, b, z4].getD k 0) := ⟨_, rfl⟩
  have w1 : w.1 = l := by rw [hwd]
  have w2 : w.2.1 = (dC, dI) := by rw [hwd]
  have w3 : w.2.2.1 = cA := by rw [hwd]
  have w4 : w.2.2.2.1 = s.heap.size := by rw [hwd]
  have hwA : kx_A w = fun q : Nat => s.heap.size ≤ q := by
    unfold kx_A
    rw [w4]
  have q0 : w.2.2.2.2 0 = tw := by rw [hwd]; rfl
  have q1 : w.2.2.2.2 1 = ak := by rw [hwd]; rfl
  have q2 : w.2.2.2.2 2 = av := by rw [hwd]; rfl
  have q3 : w.2.2.2.2 3 = b := by rw [hwd]; rfl
  have q4 : w.2.2.2.2 4 = z4 := by rw [hwd]; rfl
  have hK : va_K w.2.1 kx_cl (kx_tys w) s := by
    refine ⟨fun k q hq => ?_, fun k q hq => ?_⟩
    · rw [w2]; exact hKc k q hq
    · unfold kx_tys at hq
      rw [w3] at hq
      exact hKa k q hq
  have hkS : kx_S w s s.heap := by
    unfold kx_S
    rw [q0, hwA]
    exact ⟨hw1, hw2⟩
  have hkN : kx_N s := fun n hn => va_Nw.of (st_nk n hn).2 (hts n (st_nk n hn).1)
  have hZ : bx_Z w s s.heap := by
    unfold bx_Z bx_F
    rw [q1, q2, hwA]
    refine ⟨hstr, hc, ⟨v0, hv0, ?_⟩, st_R hts hev, fun n hn => va_Nw.of (bx_nest_on n hn) (hts n (st_nb n hn)), (st_AO hts).1, (st_AO hts).2⟩
    rw [hz4 w q4]
    exact hsio
  have hbA : ¬ kx_A w b := by
    rw [hwA]
    exact Nat.not_le.mpr hbl
  have hB : lw_B code w L xs (kx_g w p e room_1 s m #[Value.ref b] below meth c 4 151 12536 (lw_Z below #[Value.ref b] s)) := by
    refine ⟨fun cl hok => ⟨p, e, room_1, s, m, #[Value.ref b], below, meth, c, 151, 12536, _, rfl, hx, hb, hml, hown, st_tb hts, hK, hkS, hkN, ⟨by decide, by decide, by decide, by decide⟩, hok⟩, ?_, ?_, ?_, hL⟩
    · intro pc LL S M hd kk H locs ls hP hS hl
      have k1 := kk H locs ls hP hS hl
      rw [w1] at k1 ⊢
      show W p l e room_1 s m #[Value.ref b] below meth c H locs 151 12536 _ (F0 m pc ls (Value.ref (w.2.2.2.2 3) :: S.map (kx_cv w)))
      rw [q3]
      exact va_slen hx hb hX hbl hbA hS hd k1
    · intro pc LL S M j hj hd kk H locs ls hP hS hl
      have k1 := kk H locs ls hP hS hl
      rw [w1] at k1 ⊢
      show W p l e room_1 s m #[Value.ref b] below meth c H locs 151 12536 _ (F0 m pc ls (Value.int j :: Value.ref (w.2.2.2.2 3) :: S.map (kx_cv w)))
      rw [q3]
      exact va_sld hx hb hX hbl hbA hS hj hd k1
    · intro pc LL M hd H locs ls hP hS hl
      rw [w1]
      refine va_forget (fun q hq => ?_) ?_
      · have := hS.2.2 q hq
        rw [hwA] at this
        exact this
      · exact W.widen (k := 600000) (n := 7302249) (by decide) (by decide) (lw_ret hx hb hr hlocks hd)
  have hl := lv_entry ([.ref b]) (n := 4) (Nat.le_of_ble_eq_true rfl)
  rw [lg_entry_eq]
  generalize (lg_sl ([.ref b]) ++ List.replicate (4 - (lg_sl ([.ref b])).length) Slot.unset).toArray = ls at hl ⊢
  have hl : lv_has ls 4 [(0, .ref b)] := hl
  have hl' : kx_ls w ls 4 [some (.retAddr 3), none, none, none] := by
    show lv_has ls 4 [(0, Value.ref (w.2.2.2.2 3))]
    rw [q3]
    exact hl
  have hX2 : bx_X w 61 151 12536 "KnitTreatyLaw" meth.name code 4 lwc_s p room_1 s m #[Value.ref b] c meth :=
    ⟨hx, hb, hml, hown, st_tb hts, hK, hZ, by rw [w4]; exact Nat.le_refl _, ⟨by decide, by decide, by decide, by decide⟩, rfl, lwk_s⟩
  have K := lw_make (w := w) (nm := meth.name) (G := bx_g w p e room_1 s m #[Value.ref b] below meth c 4 (lw_Z below #[Value.ref b] s)) ⟨p, e, room_1, s, m, #[Value.ref b], below, meth, c, _, rfl, hX2⟩ (fun H locs ls hP hz hS hl => lw_loop hB (L + 1) 0 (by omega) M0 σ0 (Nat.zero_le _) IC_0 IM_0 H locs ls (bx_fin hP) hS hl)
  have K1 := K s.heap [] ls (fun k q h => by simp [bx_ws] at h) (by rw [w4]; rfl) va_S.rf hl'
  rw [w1] at K1
  exact K1
