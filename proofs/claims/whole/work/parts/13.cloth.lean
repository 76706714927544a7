theorem s_saysAt {w : kx_W} {d : Nat} {M : kx_M} {Q : Option Value → kx_M → Prop} {r dl W len cl row col : Nat} (hL : L_Cloth r) (hD : L_Deal dl) (hW : mI M r 5 = nI W) (hlen : mA M (dl + 4) cl = nI len) (b1 : W ≤ 8) (b2 : len ≤ 5) (b3 : cl ≤ 5) (b4 : row ≤ 11) (b5 : col ≤ 8)
    (hQ : Q (some (.int (b2i (saidAt W len (mA M (r + 4)) (mA M (r + 2)) (mA M (dl + 5)) cl row col)))) M) : Ct w (d + 1) m_Cloth_saysAt [.ref r, .ref dl, .int (nI cl), .int (nI row), .int (nI col)] M Q := by
  obtain ⟨hr, hr1, hr2, hr3, hr4, hr5⟩ := hL
  obtain ⟨hd0, hd1, hd2, hd3, hd4, hd5, hd6, hd7⟩ := hD
  refine mk_ct ok_Cloth_saysAt (Nat.le_of_ble_eq_true rfl) (fun G F => ?_)
  have loop : ∀ (k i : Nat) (z : Option Value), i + k = len → col + len ≤ W → kx_nl [some (.ref r), some (.ref dl), some (.int (nI cl)), some (.int (nI row)), some (.int (nI col)), some (.int (nI len)), some (.int (nI i)), z] 7 = true → (∀ j, j < i → (!decide (mA M (r + 4) (8 * row + (col + j)) = 1) && decide (mA M (r + 2) (8 * row + (col + j)) = mA M (dl + 5) (5 * cl + j))) = true) → G 25 [some (.ref r), some (.ref dl), some (.int (nI cl)), some (.int (nI row)), some (.int (nI col)), some (.int (nI len)), some (.int (nI i)), z] [] M := by
    intro k
    induction k with
    | zero =>
      intro i z hi hc hz hall
      refine x_iload F.1 (i := 15) rfl rfl ?_
      refine x_iload F.1 (i := 16) rfl rfl ?_
      refine x_icmpn_ge F.1 (i := 17) (tgt := 83) rfl (by decide) (by omega) (by omega) (fun _ => ?_) (fun h9 => absurd (show len ≤ i by omega) h9)
      refine x_iconst F.1 (i := 47) rfl ic_1 ?_
      refine x_zret F (i := 48) rfl rfl (by first | exact Or.inl rfl | exact Or.inr rfl | assumption) ?_
      have e : saidAt W len (mA M (r + 4)) (mA M (r + 2)) (mA M (dl + 5)) cl row col = true := by
        unfold saidAt
        rw [Bool.and_eq_true, decide_eq_true_eq, allb_iff]
        exact ⟨hc, fun j hj => hall j (by omega)⟩
      rw [e] at hQ
      exact hQ
    | succ k ih =>
      intro i z hi hc hz hall
      refine x_iload F.1 (i := 15) rfl rfl ?_
      refine x_iload F.1 (i := 16) rfl rfl ?_
      refine x_icmpn_ge F.1 (i := 17) (tgt := 83) rfl (by decide) (by omega) (by omega) (fun h9 => absurd h9 (show ¬ len ≤ i by omega)) (fun _ => ?_)
      refine x_iload_n F.1 (i := 18) rfl rfl ?_
      refine x_iload F.1 (i := 19) rfl rfl ?_
      refine x_iload F.1 (i := 20) rfl rfl ?_
      refine x_iadd F.1 (i := 21) rfl ?_
      refine x_inS2 F.1 (i := 22) rfl ml_Cloth_46 ok_Cloth_at (Nat.le_of_ble_eq_true rfl) (Nat.le_of_ble_eq_true rfl) (mk_ct ok_Cloth_at (Nat.le_of_ble_eq_true rfl) (fun G1 F1 => ?_))
      refine x_iload_n F1.1 (i := 0) rfl rfl ?_
      refine x_bipush F1.1 (i := 1) rfl bp_8 ?_
      refine x_imul F1.1 (i := 2) rfl ?_
      refine x_iload_n F1.1 (i := 3) rfl rfl ?_
      refine x_iadd F1.1 (i := 4) rfl ?_
      refine x_iret F1 (i := 5) rfl rfl ?_
      refine x_nm (v' := nI (8 * row + (col + i))) (by first | rfl | (simp only [nI_lit, nI_add, nI_mul, nI_ii1]; done) | (simp only [nI_lit, nI_add, nI_mul, nI_ii1]; congr 1; omega)) ?_
      refine x_istore F.1 (i := 23) rfl (Nat.le_of_ble_eq_true rfl) (Nat.le_of_ble_eq_true rfl) rfl ?_
      refine x_aload_n F.1 (i := 24) rfl rfl ?_
      refine x_getC F.1 (i := 25) rfl fl_Cloth_21 (by first | assumption | rfl) (by rfl) ?_
      refine x_iload F.1 (i := 26) rfl rfl ?_
      refine x_ialdn F.1 (i := 27) rfl (by first | assumption | rfl) (by omega) (by decide) ?_
      refine x_iconst F.1 (i := 28) rfl ic_1 ?_
      refine x_icmp_eq F.1 (i := 29) (tgt := 75) rfl (by decide) (fun h51 => ?_) (fun h51 => ?_)
      · refine x_iconst F.1 (i := 43) rfl ic_0 ?_
        refine x_zret F (i := 44) rfl rfl (by first | exact Or.inl rfl | exact Or.inr rfl | assumption) ?_
        have e : saidAt W len (mA M (r + 4)) (mA M (r + 2)) (mA M (dl + 5)) cl row col = false := by
          unfold saidAt
          rw [Bool.and_eq_false_iff]
          exact Or.inr (allb_false (i := i) (by omega) (by first | (simp [h51]; done) | (simp [h51, h72]; done)))
        rw [e] at hQ
        exact hQ
      · refine x_aload_n F.1 (i := 30) rfl rfl ?_
        refine x_getC F.1 (i := 31) rfl fl_Cloth_15 (by first | assumption | rfl) (by rfl) ?_
        refine x_iload F.1 (i := 32) rfl rfl ?_
        refine x_ialdn F.1 (i := 33) rfl (by first | assumption | rfl) (by omega) (by decide) ?_
        refine x_aload_n F.1 (i := 34) rfl rfl ?_
        refine x_getC F.1 (i := 35) rfl fl_Cloth_89 (by first | assumption | rfl) (by rfl) ?_
        refine x_iload_n F.1 (i := 36) rfl rfl ?_
        refine x_iconst F.1 (i := 37) rfl ic_5 ?_
        refine x_imul F.1 (i := 38) rfl ?_
        refine x_iload F.1 (i := 39) rfl rfl ?_
        refine x_iadd F.1 (i := 40) rfl ?_
        refine x_nm (v' := nI (5 * cl + i)) (by first | rfl | (simp only [nI_lit, nI_add, nI_mul, nI_ii1]; done) | (simp only [nI_lit, nI_add, nI_mul, nI_ii1]; congr 1; omega)) ?_
        refine x_ialdn F.1 (i := 41) rfl (by first | assumption | rfl) (by omega) (by decide) ?_
        refine x_icmp_eq F.1 (i := 42) (tgt := 77) rfl (by decide) (fun h72 => ?_) (fun h72 => ?_)
        · refine x_iinc F.1 (i := 45) rfl rfl (nI_ii1 i) (Nat.le_of_ble_eq_true rfl) rfl ?_
          refine x_goto F.1 (i := 46) (tgt := 25) rfl (by decide) ?_
          exact ih (i + 1) _ (by omega) hc rfl (fun j hj => by
            rcases Nat.lt_succ_iff_lt_or_eq.mp hj with h | h
            · exact hall j h
            · subst h; simp [h51, h72])
        · refine x_iconst F.1 (i := 43) rfl ic_0 ?_
          refine x_zret F (i := 44) rfl rfl (by first | exact Or.inl rfl | exact Or.inr rfl | assumption) ?_
          have e : saidAt W len (mA M (r + 4)) (mA M (r + 2)) (mA M (dl + 5)) cl row col = false := by
            unfold saidAt
            rw [Bool.and_eq_false_iff]
            exact Or.inr (allb_false (i := i) (by omega) (by first | (simp [h51]; done) | (simp [h51, h72]; done)))
          rw [e] at hQ
          exact hQ
  refine x_aload_n F.1 (i := 0) rfl rfl ?_
  refine x_getC F.1 (i := 1) rfl fl_Cloth_84 (by first | assumption | rfl) (by rfl) ?_
  refine x_iload_n F.1 (i := 2) rfl rfl ?_
  refine x_ialdn F.1 (i := 3) rfl (by first | assumption | rfl) (by omega) (by decide) ?_
  rw [hlen]
  refine x_istore F.1 (i := 4) rfl (Nat.le_of_ble_eq_true rfl) (Nat.le_of_ble_eq_true rfl) rfl ?_
  refine x_iload F.1 (i := 5) rfl rfl ?_
  refine x_iload F.1 (i := 6) rfl rfl ?_
  refine x_iadd F.1 (i := 7) rfl ?_
  refine x_nm (v' := nI (col + len)) (nI_add _ _) ?_
  refine x_aload_n F.1 (i := 8) rfl rfl ?_
  refine x_getI F.1 (i := 9) rfl fl_Cloth_27 (by first | assumption | rfl) (by rfl) ?_
  rw [hW]
  refine x_icmpn_le F.1 (i := 10) (tgt := 22) rfl (by decide) (by omega) (by omega) (fun h17 => ?_) (fun h17 => ?_)
  · refine x_iconst F.1 (i := 13) rfl ic_0 ?_
    refine x_istore F.1 (i := 14) rfl (Nat.le_of_ble_eq_true rfl) (Nat.le_of_ble_eq_true rfl) rfl ?_
    exact loop len 0 _ (by omega) h17 rfl (fun j hj => absurd hj (Nat.not_lt_zero j))
  · refine x_iconst F.1 (i := 11) rfl ic_0 ?_
    refine x_zret F (i := 12) rfl rfl (by first | exact Or.inl rfl | exact Or.inr rfl | assumption) ?_
    have e : saidAt W len (mA M (r + 4)) (mA M (r + 2)) (mA M (dl + 5)) cl row col = false := by
      unfold saidAt
      rw [Bool.and_eq_false_iff]
      exact Or.inl (by simp; omega)
    rw [e] at hQ
    exact hQ

theorem s_Cloth_sum {w : kx_W} {d : Nat} {M : kx_M} {Q : Option Value → kx_M → Prop} {r t W R : Nat} (hL : L_Cloth r) (hW : mI M r 5 = nI W) (hR : mI M r 7 = nI R) (b1 : W ≤ 8) (b2 : R ≤ 12) (ht : kx_lay[t]? = some (1, 96, []))
    (hQ : Q (some (.int (accRC (mA M t) W R))) M) : Ct w (d + 1) m_Cloth_sum [.ref r, .ref t] M Q := by
  obtain ⟨hr, hr1, hr2, hr3, hr4, hr5⟩ := hL
  refine mk_ct ok_Cloth_sum (Nat.le_of_ble_eq_true rfl) (fun G F => ?_)
  have outer : ∀ (k i : Nat), i + k = R → G 4 [some (.ref r), some (.ref t), some (.int (accRC (mA M t) W i)), some (.int (nI i)), none] [] M := by
    intro k
    induction k with
    | zero =>
      intro i hi
      obtain rfl : i = R := by omega
      refine x_iload_n F.1 (i := 4) rfl rfl ?_
      refine x_aload_n F.1 (i := 5) rfl rfl ?_
      refine x_getI F.1 (i := 6) rfl fl_Cloth_34 (by first | assumption | rfl) (by rfl) ?_
      rw [hR]
      refine x_icmpn_ge F.1 (i := 7) (tgt := 47) rfl (by decide) (by omega) (by omega) (fun _ => ?_) (fun h9 => absurd (Nat.le_refl _) h9)
      refine x_iload_n F.1 (i := 26) rfl rfl ?_
      refine x_iret F (i := 27) rfl rfl ?_
      exact hQ
    | succ k ih =>
      intro i hi
      have inner : ∀ (k2 j : Nat), j + k2 = W → G 15 [some (.ref r), some (.ref t), some (.int (accN (fun x => mA M t (8 * i + x)) (accRC (mA M t) W i) j)), some (.int (nI i)), some (.int (nI j))] [] M := by
        intro k2
        induction k2 with
        | zero =>
          intro j hj
          obtain rfl : j = W := by omega
          refine x_iload F.1 (i := 10) rfl rfl ?_
          refine x_aload_n F.1 (i := 11) rfl rfl ?_
          refine x_getI F.1 (i := 12) rfl fl_Cloth_27 (by first | assumption | rfl) (by rfl) ?_
          rw [hW]
          refine x_icmpn_ge F.1 (i := 13) (tgt := 41) rfl (by decide) (by omega) (by omega) (fun _ => ?_) (fun h9 => absurd (Nat.le_refl _) h9)
          refine x_iinc F.1 (i := 24) rfl rfl (nI_ii1 i) (Nat.le_of_ble_eq_true rfl) rfl ?_
          refine x_goto F.1 (i := 25) (tgt := 4) rfl (by decide) ?_
          exact x_wk F.1 (ih (i + 1) (by omega)) ⟨rfl, rfl, rfl, rfl, trivial⟩
        | succ k2 ih2 =>
          intro j hj
          refine x_iload F.1 (i := 10) rfl rfl ?_
          refine x_aload_n F.1 (i := 11) rfl rfl ?_
          refine x_getI F.1 (i := 12) rfl fl_Cloth_27 (by first | assumption | rfl) (by rfl) ?_
          rw [hW]
          refine x_icmpn_ge F.1 (i := 13) (tgt := 41) rfl (by decide) (by omega) (by omega) (fun h9 => absurd h9 (show ¬ W ≤ j by omega)) (fun _ => ?_)
          refine x_iload_n F.1 (i := 14) rfl rfl ?_
          refine x_aload_n F.1 (i := 15) rfl rfl ?_
          refine x_iload_n F.1 (i := 16) rfl rfl ?_
          refine x_iload F.1 (i := 17) rfl rfl ?_
          refine x_inS2 F.1 (i := 18) rfl ml_Cloth_46 ok_Cloth_at (Nat.le_of_ble_eq_true rfl) (Nat.le_of_ble_eq_true rfl) (mk_ct ok_Cloth_at (Nat.le_of_ble_eq_true rfl) (fun G1 F1 => ?_))
          refine x_iload_n F1.1 (i := 0) rfl rfl ?_
          refine x_bipush F1.1 (i := 1) rfl bp_8 ?_
          refine x_imul F1.1 (i := 2) rfl ?_
          refine x_iload_n F1.1 (i := 3) rfl rfl ?_
          refine x_iadd F1.1 (i := 4) rfl ?_
          refine x_iret F1 (i := 5) rfl rfl ?_
          refine x_nm (v' := nI (8 * i + j)) (by first | rfl | (simp only [nI_lit, nI_add, nI_mul, nI_ii1]; done) | (simp only [nI_lit, nI_add, nI_mul, nI_ii1]; congr 1; omega)) ?_
          refine x_ialdn F.1 (i := 19) rfl (by first | assumption | rfl) (by omega) (by decide) ?_
          refine x_iadd F.1 (i := 20) rfl ?_
          refine x_istore_n F.1 (i := 21) rfl (Nat.le_of_ble_eq_true rfl) (Nat.le_of_ble_eq_true rfl) rfl ?_
          refine x_iinc F.1 (i := 22) rfl rfl (nI_ii1 j) (Nat.le_of_ble_eq_true rfl) rfl ?_
          refine x_goto F.1 (i := 23) (tgt := 15) rfl (by decide) ?_
          exact x_wk F.1 (ih2 (j + 1) (by omega)) ⟨rfl, rfl, rfl, rfl, rfl, trivial⟩
      refine x_iload_n F.1 (i := 4) rfl rfl ?_
      refine x_aload_n F.1 (i := 5) rfl rfl ?_
      refine x_getI F.1 (i := 6) rfl fl_Cloth_34 (by first | assumption | rfl) (by rfl) ?_
      rw [hR]
      refine x_icmpn_ge F.1 (i := 7) (tgt := 47) rfl (by decide) (by omega) (by omega) (fun h9 => absurd h9 (show ¬ R ≤ i by omega)) (fun _ => ?_)
      refine x_iconst F.1 (i := 8) rfl ic_0 ?_
      refine x_istore F.1 (i := 9) rfl (Nat.le_of_ble_eq_true rfl) (Nat.le_of_ble_eq_true rfl) rfl ?_
      exact x_wk F.1 (inner W 0 (by omega)) ⟨rfl, rfl, rfl, rfl, rfl, trivial⟩
  refine x_iconst F.1 (i := 0) rfl ic_0 ?_
  refine x_istore_n F.1 (i := 1) rfl (Nat.le_of_ble_eq_true rfl) (Nat.le_of_ble_eq_true rfl) rfl ?_
  refine x_iconst F.1 (i := 2) rfl ic_0 ?_
  refine x_istore_n F.1 (i := 3) rfl (Nat.le_of_ble_eq_true rfl) (Nat.le_of_ble_eq_true rfl) rfl ?_
  exact x_wk F.1 (outer R 0 (by omega)) ⟨rfl, rfl, rfl, rfl, trivial⟩
theorem s_timesIn {w : kx_W} {d : Nat} {M : kx_M} {Q : Option Value → kx_M → Prop} {r dl W len cl row : Nat} (hL : L_Cloth r) (hD : L_Deal dl) (hW : mI M r 5 = nI W) (hlen : mA M (dl + 4) cl = nI len) (b1 : W ≤ 8) (b2 : len ≤ 5) (b3 : cl ≤ 5) (b4 : row ≤ 11)
    (hQ : Q (some (.int (nI (cnt (saidAt W len (mA M (r + 4)) (mA M (r + 2)) (mA M (dl + 5)) cl row) W)))) M) : Ct w (d + 2) m_Cloth_timesIn [.ref r, .ref dl, .int (nI cl), .int (nI row)] M Q := by
  have hL0 := hL
  obtain ⟨hr, hr1, hr2, hr3, hr4, hr5⟩ := hL
  have hD0 := hD
  obtain ⟨hd0, hd1, hd2, hd3, hd4, hd5, hd6, hd7⟩ := hD
  refine mk_ct ok_Cloth_timesIn (Nat.le_of_ble_eq_true rfl) (fun G F => ?_)
  have loop : ∀ (k i a : Nat), i + k = W → a = cnt (saidAt W len (mA M (r + 4)) (mA M (r + 2)) (mA M (dl + 5)) cl row) i → G 6 [some (.ref r), some (.ref dl), some (.int (nI cl)), some (.int (nI row)), some (.int (nI a)), some (.int (nI i))] [] M := by
    intro k
    induction k with
    | zero =>
      intro i a hi ha
      obtain rfl : i = W := by omega
      subst ha
      refine x_iload F.1 (i := 4) rfl rfl ?_
      refine x_aload_n F.1 (i := 5) rfl rfl ?_
      refine x_getI F.1 (i := 6) rfl fl_Cloth_27 (by first | assumption | rfl) (by rfl) ?_
      rw [hW]
      refine x_icmpn_ge F.1 (i := 7) (tgt := 36) rfl (by decide) (by omega) (by omega) (fun _ => ?_) (fun h9 => absurd (Nat.le_refl _) h9)
      refine x_iload F.1 (i := 18) rfl rfl ?_
      refine x_iret F (i := 19) rfl rfl ?_
      exact hQ
    | succ k ih =>
      intro i a hi ha
      refine x_iload F.1 (i := 4) rfl rfl ?_
      refine x_aload_n F.1 (i := 5) rfl rfl ?_
      refine x_getI F.1 (i := 6) rfl fl_Cloth_27 (by first | assumption | rfl) (by rfl) ?_
      rw [hW]
      refine x_icmpn_ge F.1 (i := 7) (tgt := 36) rfl (by decide) (by omega) (by omega) (fun h9 => absurd h9 (show ¬ W ≤ i by omega)) (fun _ => ?_)
      refine x_aload_n F.1 (i := 8) rfl rfl ?_
      refine x_aload_n F.1 (i := 9) rfl rfl ?_
      refine x_iload_n F.1 (i := 10) rfl rfl ?_
      refine x_iload_n F.1 (i := 11) rfl rfl ?_
      refine x_iload F.1 (i := 12) rfl rfl ?_
      refine x_inV4 F.1 (i := 13) rfl ml_Cloth_90 ok_Cloth_saysAt (by first | assumption | rfl) (Nat.le_of_ble_eq_true rfl) (Nat.le_of_ble_eq_true rfl) (s_saysAt hL0 hD0 hW hlen b1 b2 b3 b4 (by omega) ?_)
      refine x_ifb_eq F.1 (i := 14) (tgt := 30) rfl (by decide) (fun h24 => ?_) (fun h24 => ?_)
      · refine x_iinc F.1 (i := 16) rfl rfl (nI_ii1 i) (Nat.le_of_ble_eq_true rfl) rfl ?_
        refine x_goto F.1 (i := 17) (tgt := 6) rfl (by decide) ?_
        exact x_wk F.1 (ih (i + 1) _ (by omega) (by simp [cnt, h24, ha])) ⟨rfl, rfl, rfl, rfl, rfl, rfl, trivial⟩
      · refine x_iinc F.1 (i := 15) rfl rfl (nI_ii1 a) (Nat.le_of_ble_eq_true rfl) rfl ?_
        refine x_iinc F.1 (i := 16) rfl rfl (nI_ii1 i) (Nat.le_of_ble_eq_true rfl) rfl ?_
        refine x_goto F.1 (i := 17) (tgt := 6) rfl (by decide) ?_
        exact x_wk F.1 (ih (i + 1) _ (by omega) (by simp [cnt, h24, ha])) ⟨rfl, rfl, rfl, rfl, rfl, rfl, trivial⟩
  refine x_iconst F.1 (i := 0) rfl ic_0 ?_
  refine x_istore F.1 (i := 1) rfl (Nat.le_of_ble_eq_true rfl) (Nat.le_of_ble_eq_true rfl) rfl ?_
  refine x_iconst F.1 (i := 2) rfl ic_0 ?_
  refine x_istore F.1 (i := 3) rfl (Nat.le_of_ble_eq_true rfl) (Nat.le_of_ble_eq_true rfl) rfl ?_
  exact x_wk F.1 (loop W 0 0 (by omega) rfl) ⟨rfl, rfl, rfl, rfl, rfl, rfl, trivial⟩
theorem s_saysAnywhere {w : kx_W} {d : Nat} {M : kx_M} {Q : Option Value → kx_M → Prop} {r dl W R len cl : Nat} (hL : L_Cloth r) (hD : L_Deal dl) (hW : mI M r 5 = nI W) (hR : mI M r 7 = nI R) (hlen : mA M (dl + 4) cl = nI len) (b1 : W ≤ 8) (b0 : R ≤ 12) (b2 : len ≤ 5) (b3 : cl ≤ 5)
    (hQ : Q (some (.int (b2i (!allb (fun row => decide (cnt (saidAt W len (mA M (r + 4)) (mA M (r + 2)) (mA M (dl + 5)) cl row) W = 0)) R)))) M) : Ct w (d + 3) m_Cloth_saysAnywhere [.ref r, .ref dl, .int (nI cl)] M Q := by
  have hL0 := hL
  obtain ⟨hr, hr1, hr2, hr3, hr4, hr5⟩ := hL
  have hD0 := hD
  obtain ⟨hd0, hd1, hd2, hd3, hd4, hd5, hd6, hd7⟩ := hD
  refine mk_ct ok_Cloth_saysAnywhere (Nat.le_of_ble_eq_true rfl) (fun G F => ?_)
  have loop : ∀ (k i : Nat), i + k = R → (∀ j, j < i → cnt (saidAt W len (mA M (r + 4)) (mA M (r + 2)) (mA M (dl + 5)) cl j) W = 0) → G 2 [some (.ref r), some (.ref dl), some (.int (nI cl)), some (.int (nI i))] [] M := by
    intro k
    induction k with
    | zero =>
      intro i hi hall
      obtain rfl : i = R := by omega
      refine x_iload_n F.1 (i := 2) rfl rfl ?_
      refine x_aload_n F.1 (i := 3) rfl rfl ?_
      refine x_getI F.1 (i := 4) rfl fl_Cloth_34 (by first | assumption | rfl) (by rfl) ?_
      rw [hR]
      refine x_icmpn_ge F.1 (i := 5) (tgt := 28) rfl (by decide) (by omega) (by omega) (fun _ => ?_) (fun h9 => absurd (Nat.le_refl _) h9)
      refine x_iconst F.1 (i := 16) rfl ic_0 ?_
      refine x_zret F (i := 17) rfl rfl (by first | exact Or.inl rfl | exact Or.inr rfl | assumption) ?_
      have e : allb (fun row => decide (cnt (saidAt W len (mA M (r + 4)) (mA M (r + 2)) (mA M (dl + 5)) cl row) W = 0)) i = true := allb_iff.mpr (fun j hj => by simpa using hall j hj)
      rw [e] at hQ
      exact hQ
    | succ k ih =>
      intro i hi hall
      refine x_iload_n F.1 (i := 2) rfl rfl ?_
      refine x_aload_n F.1 (i := 3) rfl rfl ?_
      refine x_getI F.1 (i := 4) rfl fl_Cloth_34 (by first | assumption | rfl) (by rfl) ?_
      rw [hR]
      refine x_icmpn_ge F.1 (i := 5) (tgt := 28) rfl (by decide) (by omega) (by omega) (fun h9 => absurd h9 (show ¬ R ≤ i by omega)) (fun _ => ?_)
      refine x_aload_n F.1 (i := 6) rfl rfl ?_
      refine x_aload_n F.1 (i := 7) rfl rfl ?_
      refine x_iload_n F.1 (i := 8) rfl rfl ?_
      refine x_iload_n F.1 (i := 9) rfl rfl ?_
      refine x_inV3 F.1 (i := 10) rfl ml_Cloth_94 ok_Cloth_timesIn (by first | assumption | rfl) (Nat.le_of_ble_eq_true rfl) (Nat.le_of_ble_eq_true rfl) (s_timesIn hL0 hD0 hW hlen b1 b2 b3 (by omega) ?_)
      have hc := cnt_le (saidAt W len (mA M (r + 4)) (mA M (r + 2)) (mA M (dl + 5)) cl i) W
      refine x_ifn_le F.1 (i := 11) (tgt := 22) rfl (by decide) (by omega) (fun h17 => ?_) (fun h17 => ?_)
      · refine x_iinc F.1 (i := 14) rfl rfl (nI_ii1 i) (Nat.le_of_ble_eq_true rfl) rfl ?_
        refine x_goto F.1 (i := 15) (tgt := 2) rfl (by decide) ?_
        exact x_wk F.1 (ih (i + 1) (by omega) (fun j hj => by
          rcases Nat.lt_succ_iff_lt_or_eq.mp hj with h | h
          · exact hall j h
          · subst h; exact h17)) ⟨rfl, rfl, rfl, rfl, trivial⟩
      · refine x_iconst F.1 (i := 12) rfl ic_1 ?_
        refine x_zret F (i := 13) rfl rfl (by first | exact Or.inl rfl | exact Or.inr rfl | assumption) ?_
        have e : allb (fun row => decide (cnt (saidAt W len (mA M (r + 4)) (mA M (r + 2)) (mA M (dl + 5)) cl row) W = 0)) R = false := allb_false (i := i) (by omega) (by simp; omega)
        rw [e] at hQ
        exact hQ
  refine x_iconst F.1 (i := 0) rfl ic_0 ?_
  refine x_istore_n F.1 (i := 1) rfl (Nat.le_of_ble_eq_true rfl) (Nat.le_of_ble_eq_true rfl) rfl ?_
  exact x_wk F.1 (loop R 0 (by omega) (fun j hj => absurd hj (Nat.not_lt_zero j))) ⟨rfl, rfl, rfl, rfl, trivial⟩
