/-! ## whether a number is one of so many; a year of the reference's cloth -/
def ix (p : Int32) (R : Nat) : Bool := decide (0 ≤ p.toInt) && decide (p.toInt < R)
theorem ix_ex {p : Int32} {R : Nat} (hR : R < 2147483648) (h : ix p R = true) : ∃ n, n < R ∧ p = nI n := by
  unfold ix at h
  rw [Bool.and_eq_true] at h
  have h1 := of_decide_eq_true h.1
  have h2 := of_decide_eq_true h.2
  refine ⟨p.toInt.toNat, by omega, Int32.toInt_inj.mp ?_⟩
  rw [nI_toInt (by omega)]
  omega
theorem ix_nI {n R : Nat} (hn : n < 2147483648) : ix (nI n) R = decide (n < R) := by
  unfold ix
  rw [nI_toInt (by omega), decide_eq_true (by omega), Bool.true_and]
  exact decide_eq_decide.mpr (by omega)
theorem i32_lt0 (p : Int32) : (p < 0) = (p.toInt < 0) := propext (Int32.lt_iff_toInt_lt.trans (by rw [show (0 : Int32).toInt = 0 from rfl]))
theorem i32_lt (p : Int32) {R : Nat} (hR : R < 2147483648) : (p < nI R) = (p.toInt < R) := propext (Int32.lt_iff_toInt_lt.trans (by rw [nI_toInt (by omega)]))
theorem i32_le (p : Int32) {R : Nat} (hR : R < 2147483648) : (nI R ≤ p) = ((R : Int) ≤ p.toInt) := propext (Int32.le_iff_toInt_le.trans (by rw [nI_toInt (by omega)]))
theorem z_isIn (a b c : Int64) (M : kx_M) : f_RM_isIn a b c M = some (b2i (decide (b ≤ a) && decide (a ≤ c)), M) := by
  rw [f_RM_isIn]
  by_cases h1 : a < b
  · rw [if_pos ((lg_cmp_lt a b).mpr h1), decide_eq_false (by rw [Int64.not_le]; exact h1)]
    rfl
  · rw [if_neg (fun g => h1 ((lg_cmp_lt a b).mp g)), decide_eq_true (by rw [← Int64.not_lt]; exact h1)]
    by_cases h2 : c < a
    · rw [if_pos ((lg_cmp_gt a c).mpr h2), decide_eq_false (by rw [Int64.not_le]; exact h2)]
      rfl
    · rw [if_neg (fun g => h2 ((lg_cmp_gt a c).mp g)), decide_eq_true (by rw [← Int64.not_lt]; exact h2)]
      rfl
theorem ix_isIn (p : Int32) {R : Nat} (hR : R < 1000) (M : kx_M) : f_RM_isIn p.toInt64 0 (nI R - nI 1).toInt64 M = some (b2i (ix p R), M) := by
  rw [z_isIn]
  congr 2
  congr 1
  unfold ix
  have e1 : (nI R - nI 1).toInt = (R : Int) - 1 := by
    rcases Nat.eq_zero_or_pos R with h | h
    · subst h; rfl
    · rw [z_sub (by omega), nI_toInt (by omega)]; omega
  congr 1
  · refine decide_eq_decide.mpr ?_
    rw [Int64.le_iff_toInt_le, Int32.toInt_toInt64, show (0 : Int64).toInt = 0 from rfl]
  · refine decide_eq_decide.mpr ?_
    rw [Int64.le_iff_toInt_le, Int32.toInt_toInt64, Int32.toInt_toInt64, e1]
    omega
theorem ladR_wY (x : Cl) (n r : Nat) : ∀ (m i : Nat) (s : Us), ladR (wY x n) r m i s = ladR x r m i s
  | 0, _, _ => rfl
  | m + 1, i, s => ladR_wY x n r m (i + 1) _
theorem ladA_wY (x : Cl) (n : Nat) : ∀ (m r : Nat) (s : Us), ladA (wY x n) m r s = ladA x m r s
  | 0, _, _ => rfl
  | m + 1, r, s => by
    show ladA (wY x n) m (r + 1) (ladR (wY x n) r (cW x) 0 s) = ladA x m (r + 1) (ladR x r (cW x) 0 s)
    rw [ladR_wY, ladA_wY x n m]
theorem ladders_wY (x : Cl) (n : Nat) (s : Us) : ladders (wY x n) s = ladders x s := by
  unfold ladders
  split
  · rfl
  · exact ladA_wY x n _ _ _
theorem MC_congr {g : Nat → Int32} {x x' : Cl} (h : MC g x) (h1 : x'.1 = x.1) (h2 : ∀ r, r < cR x → cO x' r = cO x r) (h3 : ∀ r i, r < cR x → i < cW x → cK x' (8 * r + i) = cK x (8 * r + i) ∧ cN x' (8 * r + i) = cN x (8 * r + i) ∧ cU x' (8 * r + i) = cU x (8 * r + i) ∧ cD x' (8 * r + i) = cD x (8 * r + i)) : MC g x' := by
  obtain ⟨a1, a2, a3, a4, a5, a6⟩ := h
  have eW : cW x' = cW x := by unfold cW; rw [h1]
  have eR : cR x' = cR x := by unfold cR; rw [h1]
  have eT : cT x' = cT x := by unfold cT; rw [h1]
  have eY : cY x' = cY x := by unfold cY; rw [h1]
  refine ⟨by rw [eW]; exact a1, by rw [eT]; exact a2, by rw [eR]; exact a3, by rw [eY]; exact a4, fun r hr => ?_, fun r i hr hi => ?_⟩
  · rw [eR] at hr; rw [h2 r hr]; exact a5 r hr
  · rw [eR] at hr; rw [eW] at hi
    obtain ⟨b1, b2, b3, b4⟩ := h3 r i hr hi
    rw [b1, b2, b3, b4]
    exact a6 r i hr hi
section
variable {M : kx_M} {h : Nat → Int64} {x : Cl} {y : De}
theorem q_isRowAt (hO : OkC x) (hC : MC (mA M 140) x) (p : Int32) : f_RM_isRowAt p M = some (b2i (ix p (cR x)), M) := by
  have w3 := hO.2.2.1
  have e2 := hC.2.2.1
  have e := ix_isIn p (R := cR x) (by omega) M
  rw [f_RM_isRowAt]
  simp (disch := first | assumption | omega) only [z_bd, z_cal, z_gd, z_iT, z_iF, z_le_t, z_le_f, z_lt_t, z_lt_f, z_cl, z_inb, z_at, z_pl, nI_lit, nI_ii1, nI_add, nI_mul, e2, e, z_b01]
theorem q_isColumn (hO : OkC x) (hC : MC (mA M 140) x) (p : Int32) : f_RM_isColumn p M = some (b2i (ix p (cW x)), M) := by
  have w3 := hO.1.2
  have e2 := hC.1
  have e := ix_isIn p (R := cW x) (by omega) M
  rw [f_RM_isColumn]
  simp (disch := first | assumption | omega) only [z_bd, z_cal, z_gd, z_iT, z_iF, z_le_t, z_le_f, z_lt_t, z_lt_f, z_cl, z_inb, z_at, z_pl, nI_lit, nI_ii1, nI_add, nI_mul, e2, e, z_b01]
theorem q_isClauseAt (hP : OkD (cW x) y) (hD : MD (mA M 140) h y) (p : Int32) : f_RM_isClauseAt p M = some (b2i (ix p (dC y)), M) := by
  have w3 := hP.2.1
  have e2 := hD.2.1
  have e := ix_isIn p (R := dC y) (by omega) M
  rw [f_RM_isClauseAt]
  simp (disch := first | assumption | omega) only [z_bd, z_cal, z_gd, z_iT, z_iF, z_le_t, z_le_f, z_lt_t, z_lt_f, z_cl, z_inb, z_at, z_pl, nI_lit, nI_ii1, nI_add, nI_mul, e2, e, z_b01]
theorem q_isQueenAt (hP : OkD (cW x) y) (hD : MD (mA M 140) h y) (p : Int32) : f_RM_isQueenAt p M = some (b2i (ix p (dQ y)), M) := by
  have w3 := hP.1
  have e2 := hD.1
  have e := ix_isIn p (R := dQ y) (by omega) M
  rw [f_RM_isQueenAt]
  simp (disch := first | assumption | omega) only [z_bd, z_cal, z_gd, z_iT, z_iF, z_le_t, z_le_f, z_lt_t, z_lt_f, z_cl, z_inb, z_at, z_pl, nI_lit, nI_ii1, nI_add, nI_mul, e2, e, z_b01]
theorem q_beside (hO : OkC x) (hC : MC (mA M 140) x) {r i : Nat} (hr : r < cR x) (hi : i < cW x) : f_RM_beside (nI r) (nI i) M = some (nI (gapB x (8 * r + i)), M) := by
  have hcol := q_isColumn hO hC (nI i)
  have w2 := hO.1.2
  have w3 := hO.2.2.1
  rw [ix_nI (by omega), decide_eq_true hi, b2i_t] at hcol
  obtain ⟨c1, -, c3, -⟩ := hO.2.2.2.2.2 r i hr hi
  obtain ⟨m1, -, -, -⟩ := hC.2.2.2.2.2 r i hr hi
  have hu := q_isUndone hO hC hr hi
  rw [f_RM_beside]
  by_cases h1 : cK x (8 * r + i) = 3
  · have eg : gapB x (8 * r + i) = 1 := if_pos (Or.inl h1)
    simp (disch := first | assumption | omega) only [z_bd, z_cal, z_gd, z_iT, z_iF, z_le_t, z_le_f, z_lt_t, z_lt_f, z_cl, z_inb, z_at, z_pl, nI_lit, nI_ii1, nI_add, nI_mul, hcol, z_eq_f, m1, h1, eg]
  · by_cases h2 : cU x (8 * r + i) = 1
    · have eg : gapB x (8 * r + i) = 1 := if_pos (Or.inr h2)
      rw [decide_eq_true h2, b2i_t] at hu
      simp (disch := first | assumption | omega) only [z_bd, z_cal, z_gd, z_iT, z_iF, z_le_t, z_le_f, z_lt_t, z_lt_f, z_cl, z_inb, z_at, z_pl, nI_lit, nI_ii1, nI_add, nI_mul, hcol, z_eq_f, m1, hu, eg]
    · have eg : gapB x (8 * r + i) = 0 := if_neg (fun h => h.elim h1 h2)
      rw [decide_eq_false h2, b2i_f] at hu
      simp (disch := first | assumption | omega) only [z_bd, z_cal, z_gd, z_iT, z_iF, z_le_t, z_le_f, z_lt_t, z_lt_f, z_cl, z_inb, z_at, z_pl, nI_lit, nI_ii1, nI_add, nI_mul, hcol, z_eq_f, m1, hu, eg]
theorem q_besideL (hO : OkC x) (hC : MC (mA M 140) x) {r i : Nat} (hr : r < cR x) (hi : i < cW x) : f_RM_beside (nI r) (nI i - nI 1) M = some (nI (gapL x (8 * r + i)), M) := by
  have w2 := hO.1.2
  unfold gapL
  by_cases h : i = 0
  · subst h
    have hcol := q_isColumn hO hC (nI 0 - nI 1)
    rw [show ix (nI 0 - nI 1) (cW x) = false by unfold ix; rw [show decide (0 ≤ (nI 0 - nI 1).toInt) = false from rfl]; rfl, b2i_f] at hcol
    rw [if_pos (by omega), f_RM_beside]
    simp (disch := first | assumption | omega) only [z_bd, z_cal, z_gd, z_iT, z_iF, z_le_t, z_le_f, z_lt_t, z_lt_f, z_cl, z_inb, z_at, z_pl, nI_lit, nI_ii1, nI_add, nI_mul, hcol]
  · rw [if_neg (by omega), z_sub (by omega), q_beside hO hC hr (by omega), show 8 * r + i - 1 = 8 * r + (i - 1) by omega]
theorem q_besideR (hO : OkC x) (hC : MC (mA M 140) x) {r i : Nat} (hr : r < cR x) (hi : i < cW x) : f_RM_beside (nI r) (nI i + nI 1) M = some (nI (gapR x (8 * r + i)), M) := by
  have w2 := hO.1.2
  unfold gapR
  rw [nI_add]
  by_cases h : i + 1 < cW x
  · rw [if_pos (by omega), q_beside hO hC hr (by omega)]
    rfl
  · have hcol := q_isColumn hO hC (nI (i + 1))
    rw [ix_nI (by omega), decide_eq_false h, b2i_f] at hcol
    rw [if_neg (by omega), f_RM_beside]
    simp (disch := first | assumption | omega) only [z_bd, z_cal, z_gd, z_iT, z_iF, z_le_t, z_le_f, z_lt_t, z_lt_f, z_cl, z_inb, z_at, z_pl, nI_lit, nI_ii1, nI_add, nI_mul, hcol]
def wearP (x : Cl) (p : Nat) : Nat := if looseB x p = true then 1 + gapL x p + gapR x p else 0
theorem wearP_le (x : Cl) (p : Nat) : wearP x p ≤ 3 := by
  have := gapL_le x p
  have := gapR_le x p
  unfold wearP
  split <;> omega
/-- the wears ahead of p are laid -/
def wearsTo (M : kx_M) (x : Cl) (p : Nat) : Prop := ∀ r i, r < cR x → i < cW x → 8 * r + i < p → mA M 144 (8 * r + i) = nI (wearP x (8 * r + i))
theorem q_wears_l14 {K : Int32 → kx_M → Option (Int32 × kx_M)} (hO : OkC x) {r : Nat} (hr : r < cR x) :
    ∀ (m n i : Nat) (M : kx_M), i + m = cW x → m < n → MC (mA M 140) x → wearsTo M x (8 * r + i) → ∃ M', f_RM_goesYear_l14 K n (nI r) (nI i) M = K (nI (r + 1)) M' ∧ MC (mA M' 140) x ∧ FrM M M' ∧ wearsTo M' x (8 * (r + 1)) := by
  have w2 := hO.1.2
  have w3 := hO.2.2.1
  intro m
  induction m with
  | zero =>
    intro n i M hi hn hC hw
    obtain ⟨n, rfl, hn⟩ := z_succ hn
    obtain rfl : i = cW x := by omega
    have e2 := hC.1
    refine ⟨M, ?_, hC, FrM.rf, fun r' i' hr' hi' hp => hw r' i' hr' hi' (by omega)⟩
    rw [f_RM_goesYear_l14]
    simp (disch := first | assumption | omega) only [z_bd, z_cal, z_gd, z_iT, z_iF, z_le_t, z_le_f, z_lt_t, z_lt_f, z_cl, z_inb, z_at, z_pl, nI_lit, nI_ii1, nI_add, nI_mul, e2]
  | succ m ih =>
    intro n i M hi hn hC hw
    obtain ⟨n, rfl, hn⟩ := z_succ hn
    have e2 := hC.1
    have hiw : i < cW x := by omega
    have hl := q_isLoose hO hC hr hiw
    have hC2 : MC (mA (sA M 144 (upd (mA M 144) (8 * r + i) (nI (wearP x (8 * r + i))))) 140) x := MC_w hC
    have hw2 : wearsTo (sA M 144 (upd (mA M 144) (8 * r + i) (nI (wearP x (8 * r + i))))) x (8 * r + (i + 1)) := fun r' i' hr' hi' hp => by
      rw [mA_sA, if_pos rfl, upd_at]
      by_cases hq : 8 * r' + i' = 8 * r + i
      · rw [if_pos hq, hq]
      · rw [if_neg hq]
        exact hw r' i' hr' hi' (by omega)
    obtain ⟨M', b1, b2, b3, b4⟩ := ih n (i + 1) _ (by omega) (by omega) hC2 hw2
    refine ⟨M', ?_, b2, FrM.w.tr b3, b4⟩
    rw [f_RM_goesYear_l14]
    cases hlo : looseB x (8 * r + i)
    · rw [hlo, b2i_f] at hl
      rw [show wearP x (8 * r + i) = 0 by unfold wearP; rw [hlo]; rfl] at b1
      simp (disch := first | assumption | omega) only [z_bd, z_cal, z_gd, z_iT, z_iF, z_le_t, z_le_f, z_lt_t, z_lt_f, z_cl, z_inb, z_at, z_pl, nI_lit, nI_ii1, nI_add, nI_mul, e2, hl]
      exact b1
    · rw [hlo, b2i_t] at hl
      rw [show wearP x (8 * r + i) = 1 + gapL x (8 * r + i) + gapR x (8 * r + i) by unfold wearP; rw [hlo]; rfl] at b1
      have g1 := q_besideL hO hC hr hiw
      have g2 := q_besideR hO hC hr hiw
      rw [nI_add] at g2
      simp (disch := first | assumption | omega) only [z_bd, z_cal, z_gd, z_iT, z_iF, z_le_t, z_le_f, z_lt_t, z_lt_f, z_cl, z_inb, z_at, z_pl, nI_lit, nI_ii1, nI_add, nI_mul, e2, hl, g1, g2, z_eq_f]
      exact b1
theorem q_wears_l2 (hO : OkC x) {R : Option (Int32 × kx_M) → Prop}
    (hk : ∀ M', MC (mA M' 140) x → FrM M M' → wearsTo M' x 1000 → R (f_RM_goesYear_l85 FU (nI 0) (nI 0) M')) :
    ∀ (m n r : Nat) (M1 : kx_M), r + m = cR x → m < n → MC (mA M1 140) x → FrM M M1 → wearsTo M1 x (8 * r) → R (f_RM_goesYear_l2 n (nI r) M1) := by
  have w2 := hO.1.2
  have w3 := hO.2.2.1
  intro m
  induction m with
  | zero =>
    intro n r M1 hr hn hC hF hw
    obtain ⟨n, rfl, hn⟩ := z_succ hn
    obtain rfl : r = cR x := by omega
    have e2 := hC.2.2.1
    rw [f_RM_goesYear_l2]
    simp (disch := first | assumption | omega) only [z_bd, z_cal, z_gd, z_iT, z_iF, z_le_t, z_le_f, z_lt_t, z_lt_f, z_cl, z_inb, z_at, z_pl, nI_lit, nI_ii1, nI_add, nI_mul, e2]
    exact hk M1 hC hF (fun r' i' hr' hi' _ => hw r' i' hr' hi' (by omega))
  | succ m ih =>
    intro n r M1 hr hn hC hF hw
    obtain ⟨n, rfl, hn⟩ := z_succ hn
    have e2 := hC.2.2.1
    obtain ⟨M2, b1, b2, b3, b4⟩ := q_wears_l14 (K := f_RM_goesYear_l2 n) hO (show r < cR x by omega) (cW x) FU 0 M1 (by omega) (FU_lt (by omega)) hC hw
    rw [f_RM_goesYear_l2]
    simp (disch := first | assumption | omega) only [z_bd, z_cal, z_gd, z_iT, z_iF, z_le_t, z_le_f, z_lt_t, z_lt_f, z_cl, z_inb, z_at, z_pl, nI_lit, nI_ii1, nI_add, nI_mul, e2]
    rw [b1]
    exact ih n (r + 1) M2 (by omega) (by omega) b2 (hF.tr b3) b4
theorem mixX_loose (hO : OkC x) {p : Nat} : looseB (mixX x p p) p = looseB x p := by
  have hcu : cU (mixX x p p) p = cU x p := if_neg (by omega)
  unfold looseB
  rw [hcu]
  rfl
theorem q_goes_l97 {K : Int32 → Int32 → kx_M → Option (Int32 × kx_M)} (hO : OkC x) {r A : Nat} (hr : r < cR x) :
    ∀ (m n i : Nat) (M : kx_M), i + m = cW x → m < n → MC (mA M 140) (mixX x (8 * r + i) (8 * r + i)) → wearsTo M x 1000 → ∃ M', f_RM_goesYear_l97 K n (nI (A + sumN (fun i => opn1 x (8 * r + i)) i)) (nI r) (nI i) M = K (nI (A + sumN (fun i => opn1 x (8 * r + i)) (cW x))) (nI (r + 1)) M' ∧ MC (mA M' 140) (mixX x (8 * (r + 1)) (8 * (r + 1))) ∧ FrM M M' ∧ wearsTo M' x 1000 := by
  have w2 := hO.1.2
  have w3 := hO.2.2.1
  have hT := hO.2.1
  intro m
  induction m with
  | zero =>
    intro n i M hi hn hC hw
    obtain ⟨n, rfl, hn⟩ := z_succ hn
    obtain rfl : i = cW x := by omega
    have e2 : mA M 140 0 = nI (cW x) := hC.1
    refine ⟨M, ?_, ?_, FrM.rf, hw⟩
    · rw [f_RM_goesYear_l97]
      simp (disch := first | assumption | omega) only [z_bd, z_cal, z_gd, z_iT, z_iF, z_le_t, z_le_f, z_lt_t, z_lt_f, z_cl, z_inb, z_at, z_pl, nI_lit, nI_ii1, nI_add, nI_mul, e2]
    · refine MC_congr hC rfl (fun _ _ => rfl) (fun r' i' hr' hi' => ?_)
      have hr2 : r' < cR x := hr'
      have hi2 : i' < cW x := hi'
      have hiff : (8 * r' + i' < 8 * (r + 1)) ↔ (8 * r' + i' < 8 * r + cW x) := by omega
      refine ⟨rfl, ?_, ?_, rfl⟩
      · show mixN x _ _ = mixN x _ _
        unfold mixN
        simp only [hiff]
      · show mixU x _ _ = mixU x _ _
        unfold mixU
        simp only [hiff]
  | succ m ih =>
    intro n i M hi hn hC hw
    obtain ⟨n, rfl, hn⟩ := z_succ hn
    have hiw : i < cW x := by omega
    have e2 : mA M 140 0 = nI (cW x) := hC.1
    have e3 : mA M 140 1 = nI (cT x) := hC.2.1
    have hO' := mix_ok hO (8 * r + i) (8 * r + i)
    have hl := q_isLoose hO' hC hr hiw
    rw [mixX_loose hO] at hl
    have a2 : mA M 140 (208 + (8 * r + i)) = nI (cN x (8 * r + i)) := by
      rw [(hC.2.2.2.2.2 r i hr hiw).2.1]
      congr 1
      exact if_neg (by omega)
    have hwp := hw r i hr hiw (by omega)
    have b2 := OkU_N hO r i hr hiw
    have bN := newN_ok hO r i hr hiw
    have wl := wearP_le x (8 * r + i)
    have hp : 8 * r + i < 96 := by omega
    cases hlo : looseB x (8 * r + i)
    · have hop : opnB x (8 * r + i) = false := by unfold opnB; rw [hlo, Bool.and_false, Bool.false_and]
      have hC2 : MC (mA M 140) (mixX x (8 * r + (i + 1)) (8 * r + (i + 1))) := by
        refine MC_congr hC rfl (fun _ _ => rfl) (fun r' i' hr' hi' => ⟨rfl, ?_, ?_, rfl⟩)
        · show mixN x _ _ = mixN x _ _
          unfold mixN
          by_cases hq : 8 * r' + i' = 8 * r + i
          · rw [hq, if_pos (by omega), if_neg (by omega)]
            unfold newN
            rw [hlo, Bool.and_false]
            rfl
          · have hiff : (8 * r' + i' < 8 * r + (i + 1)) ↔ (8 * r' + i' < 8 * r + i) := by omega
            simp only [hiff]
        · show mixU x _ _ = mixU x _ _
          unfold mixU
          by_cases hq : 8 * r' + i' = 8 * r + i
          · rw [hq, if_pos (by omega), if_neg (by omega)]
            unfold newU
            rw [hop]
            rfl
          · have hiff : (8 * r' + i' < 8 * r + (i + 1)) ↔ (8 * r' + i' < 8 * r + i) := by omega
            simp only [hiff]
      obtain ⟨M', d1, d2, d3, d4⟩ := ih n (i + 1) M (by omega) (by omega) hC2 hw
      refine ⟨M', ?_, d2, d3, d4⟩
      rw [show sumN (fun i => opn1 x (8 * r + i)) (i + 1) = sumN (fun i => opn1 x (8 * r + i)) i by
        show _ + opn1 x (8 * r + i) = _
        unfold opn1
        rw [hop]
        rfl] at d1
      rw [hlo, b2i_f] at hl
      rw [f_RM_goesYear_l97]
      simp (disch := first | assumption | omega) only [z_bd, z_cal, z_gd, z_iT, z_iF, z_le_t, z_le_f, z_lt_t, z_lt_f, z_cl, z_inb, z_at, z_pl, nI_lit, nI_ii1, nI_add, nI_mul, e2, hl]
      exact d1
    · rw [hlo, b2i_t] at hl
      have hwp2 : wearP x (8 * r + i) = 1 + gapL x (8 * r + i) + gapR x (8 * r + i) := by unfold wearP; rw [hlo]; rfl
      have hnew : newN x (8 * r + i) = if cN x (8 * r + i) + wearP x (8 * r + i) < 99 then cN x (8 * r + i) + wearP x (8 * r + i) else 99 := by
        unfold newN
        rw [hlo, inD_of hO hr hiw, hwp2]
        rfl
      have hC1 := MC_N (p := 8 * r + i) (v := newN x (8 * r + i)) hO' hC hp
      have hO1 : OkC (wN (mixX x (8 * r + i) (8 * r + i)) (updN (cN (mixX x (8 * r + i) (8 * r + i))) (8 * r + i) (newN x (8 * r + i)))) := OkC_N hO' (OkU_upd (OkU_N hO') bN)
      have hF1 : FrM M (sA M 140 (upd (mA M 140) (208 + (8 * r + i)) (nI (newN x (8 * r + i))))) := FrM.up (by omega)
      have hw1 : wearsTo (sA M 140 (upd (mA M 140) (208 + (8 * r + i)) (nI (newN x (8 * r + i))))) x 1000 := hw
      have f1 : mA (sA M 140 (upd (mA M 140) (208 + (8 * r + i)) (nI (newN x (8 * r + i))))) 140 (208 + (8 * r + i)) = nI (newN x (8 * r + i)) := by
        rw [mA_sA, if_pos rfl, upd_at, if_pos rfl]
      have f2 : mA (sA M 140 (upd (mA M 140) (208 + (8 * r + i)) (nI (newN x (8 * r + i))))) 140 1 = nI (cT x) := hC1.2.1
      have hval : (if nI (cN x (8 * r + i)) + nI (wearP x (8 * r + i)) < nI 99 then nI (cN x (8 * r + i)) + nI (wearP x (8 * r + i)) else nI 99) = nI (newN x (8 * r + i)) := by
        rw [hnew, nI_add]
        by_cases hlt : cN x (8 * r + i) + wearP x (8 * r + i) < 99
        · rw [if_pos hlt, if_pos (nI_lt hlt (by omega))]
        · rw [if_neg hlt, if_neg (nI_nlt (by omega) (by omega))]
      rw [nI_add] at hval
      by_cases hT2 : cT x ≤ newN x (8 * r + i)
      · have hop : opnB x (8 * r + i) = true := by unfold opnB; rw [hlo, inD_of hO hr hiw, decide_eq_true hT2]; rfl
        have hC2 := MC_U (p := 8 * r + i) (v := 1) hO1 hC1 hp
        have hC3 : MC (mA (sA (sA M 140 (upd (mA M 140) (208 + (8 * r + i)) (nI (newN x (8 * r + i))))) 140 (upd (mA (sA M 140 (upd (mA M 140) (208 + (8 * r + i)) (nI (newN x (8 * r + i))))) 140) (304 + (8 * r + i)) (nI 1))) 140) (mixX x (8 * r + (i + 1)) (8 * r + (i + 1))) := by
          refine MC_congr hC2 rfl (fun _ _ => rfl) (fun r' i' hr' hi' => ⟨rfl, ?_, ?_, rfl⟩)
          · show mixN x _ _ = updN (mixN x _) _ _ _
            unfold mixN updN
            by_cases hq : 8 * r' + i' = 8 * r + i
            · rw [hq, if_pos (by omega), if_pos rfl]
            · have hiff : (8 * r' + i' < 8 * r + (i + 1)) ↔ (8 * r' + i' < 8 * r + i) := by omega
              simp only [hiff, if_neg hq]
          · show mixU x _ _ = updN (mixU x _) _ _ _
            unfold mixU updN
            by_cases hq : 8 * r' + i' = 8 * r + i
            · rw [hq, if_pos (by omega), if_pos rfl]
              unfold newU
              rw [hop]
              rfl
            · have hiff : (8 * r' + i' < 8 * r + (i + 1)) ↔ (8 * r' + i' < 8 * r + i) := by omega
              simp only [hiff, if_neg hq]
        obtain ⟨M', d1, d2, d3, d4⟩ := ih n (i + 1) _ (by omega) (by omega) hC3 hw1
        refine ⟨M', ?_, d2, (hF1.tr (FrM.up (by omega))).tr d3, d4⟩
        rw [show sumN (fun i => opn1 x (8 * r + i)) (i + 1) = sumN (fun i => opn1 x (8 * r + i)) i + 1 by
          show _ + opn1 x (8 * r + i) = _
          unfold opn1
          rw [hop]
          rfl] at d1
        rw [f_RM_goesYear_l97]
        simp (disch := first | assumption | omega) only [z_bd, z_cal, z_gd, z_iT, z_iF, z_le_t, z_le_f, z_lt_t, z_lt_f, z_cl, z_inb, z_at, z_pl, nI_lit, nI_ii1, nI_add, nI_mul, e2, hl, z_eq_f, a2, hwp, hval, f1, f2, Nat.add_assoc]
        exact d1
      · have hop : opnB x (8 * r + i) = false := by unfold opnB; rw [decide_eq_false hT2, Bool.and_false]
        have hC3 : MC (mA (sA M 140 (upd (mA M 140) (208 + (8 * r + i)) (nI (newN x (8 * r + i))))) 140) (mixX x (8 * r + (i + 1)) (8 * r + (i + 1))) := by
          refine MC_congr hC1 rfl (fun _ _ => rfl) (fun r' i' hr' hi' => ⟨rfl, ?_, ?_, rfl⟩)
          · show mixN x _ _ = updN (mixN x _) _ _ _
            unfold mixN updN
            by_cases hq : 8 * r' + i' = 8 * r + i
            · rw [hq, if_pos (by omega), if_pos rfl]
            · have hiff : (8 * r' + i' < 8 * r + (i + 1)) ↔ (8 * r' + i' < 8 * r + i) := by omega
              simp only [hiff, if_neg hq]
          · show mixU x _ _ = mixU x _ _
            unfold mixU
            by_cases hq : 8 * r' + i' = 8 * r + i
            · rw [hq, if_pos (by omega), if_neg (by omega)]
              unfold newU
              rw [hop]
              rfl
            · have hiff : (8 * r' + i' < 8 * r + (i + 1)) ↔ (8 * r' + i' < 8 * r + i) := by omega
              simp only [hiff]
        obtain ⟨M', d1, d2, d3, d4⟩ := ih n (i + 1) _ (by omega) (by omega) hC3 hw1
        refine ⟨M', ?_, d2, hF1.tr d3, d4⟩
        rw [show sumN (fun i => opn1 x (8 * r + i)) (i + 1) = sumN (fun i => opn1 x (8 * r + i)) i by
          show _ + opn1 x (8 * r + i) = _
          unfold opn1
          rw [hop]
          rfl] at d1
        rw [f_RM_goesYear_l97]
        simp (disch := first | assumption | omega) only [z_bd, z_cal, z_gd, z_iT, z_iF, z_le_t, z_le_f, z_lt_t, z_lt_f, z_cl, z_inb, z_at, z_pl, nI_lit, nI_ii1, nI_add, nI_mul, e2, hl, z_eq_f, a2, hwp, hval, f1, f2]
        exact d1
theorem q_goes_l85 (hO : OkC x) (hY : cY x < 19000) :
    ∀ (m n r : Nat) (M : kx_M), r + m = cR x → m < n → MC (mA M 140) (mixX x (8 * r) (8 * r)) → wearsTo M x 1000 → ∃ M', f_RM_goesYear_l85 n (nI (sumRC (opn1 x) (cW x) r)) (nI r) M = some (nI (yearU x).2, M') ∧ MC (mA M' 140) (wY (yearX x) (cY x + 1)) ∧ FrM M M' := by
  have w2 := hO.1.2
  have w3 := hO.2.2.1
  intro m
  induction m with
  | zero =>
    intro n r M hi hn hC hw
    obtain ⟨n, rfl, hn⟩ := z_succ hn
    obtain rfl : r = cR x := by omega
    have e2 : mA M 140 4 = nI (cR x) := hC.2.2.1
    have e5 : mA M 140 5 = nI (cY x) := hC.2.2.2.1
    have hC2 : MC (mA M 140) (wU (wN x (newN x)) (newU x)) := by
      refine MC_congr hC rfl (fun _ _ => rfl) (fun r' i' hr' hi' => ?_)
      have hr2 : r' < cR x := hr'
      have hi2 : i' < cW x := hi'
      exact ⟨rfl, (show newN x _ = mixN x _ _ from (if_pos (by omega)).symm), (show newU x _ = mixU x _ _ from (if_pos (by omega)).symm), rfl⟩
    have hC3 := MC_Y (n := cY x + 1) (OkC_NU hO) hC2
    have hO3 : OkC (wY (wU (wN x (newN x)) (newU x)) (cY x + 1)) := by
      have h1 := OkC_NU hO
      exact ⟨h1.1, h1.2.1, h1.2.2.1, (show cY x + 1 ≤ 20000 by omega), h1.2.2.2.2⟩
    have g := sum_le96 hO (opn1_le x)
    obtain ⟨M', b1, b2, b3⟩ := q_Mlad (x := wY (wU (wN x (newN x)) (newU x)) (cY x + 1)) (u := newU x) (t := sumRC (opn1 x) (cW x) (cR x)) hO3 (by have h3 := newU_ok hO; exact h3) (by omega) hC3
    have el : ladders (wY (wU (wN x (newN x)) (newU x)) (cY x + 1)) (newU x, sumRC (opn1 x) (cW x) (cR x)) = yearU x := ladders_wY _ _ _
    rw [el] at b1 b2
    refine ⟨M', ?_, b2, (FrM.up (Or.inl rfl)).tr b3⟩
    rw [f_RM_goesYear_l85]
    simp (disch := first | assumption | omega) only [z_bd, z_cal, z_gd, z_iT, z_iF, z_le_t, z_le_f, z_lt_t, z_lt_f, z_cl, z_inb, z_at, z_pl, nI_lit, nI_ii1, nI_add, nI_mul, e2, e5, b1]
  | succ m ih =>
    intro n r M hi hn hC hw
    obtain ⟨n, rfl, hn⟩ := z_succ hn
    have e2 : mA M 140 4 = nI (cR x) := hC.2.2.1
    obtain ⟨M1, a1, a2, a3, a4⟩ := q_goes_l97 (A := sumRC (opn1 x) (cW x) r) (K := f_RM_goesYear_l85 n) hO (show r < cR x by omega) (cW x) FU 0 M (by omega) (FU_lt (by omega)) hC hw
    obtain ⟨M3, d1, d2, d3⟩ := ih n (r + 1) M1 (by omega) (by omega) a2 a4
    refine ⟨M3, ?_, d2, a3.tr d3⟩
    rw [f_RM_goesYear_l85]
    simp (disch := first | assumption | omega) only [z_bd, z_cal, z_gd, z_iT, z_iF, z_le_t, z_le_f, z_lt_t, z_lt_f, z_cl, z_inb, z_at, z_pl, nI_lit, nI_ii1, nI_add, nI_mul, e2]
    exact a1.trans d1
theorem q_goesYear (hO : OkC x) (hY : cY x < 19000) (hC : MC (mA M 140) x) : ∃ M', f_RM_goesYear M = some (nI (yearU x).2, M') ∧ MC (mA M' 140) (wY (yearX x) (cY x + 1)) ∧ FrM M M' := by
  have w3 := hO.2.2.1
  refine q_wears_l2 (M := M) (R := fun z => ∃ M', z = some (nI (yearU x).2, M') ∧ MC (mA M' 140) (wY (yearX x) (cY x + 1)) ∧ FrM M M') hO (fun M1 h1 h2 h3 => ?_) (cR x) FU 0 M (by omega) (FU_lt (by omega)) hC FrM.rf (fun _ _ _ _ h => absurd h (by omega))
  have hC2 : MC (mA M1 140) (mixX x (8 * 0) (8 * 0)) := MC_congr h1 rfl (fun _ _ => rfl) (fun r i _ _ => ⟨rfl, (show mixN x (8 * 0) (8 * r + i) = cN x (8 * r + i) from if_neg (by omega)), (show mixU x (8 * 0) (8 * r + i) = cU x (8 * r + i) from if_neg (by omega)), rfl⟩)
  obtain ⟨M', b1, b2, b3⟩ := q_goes_l85 hO hY (cR x) FU 0 M1 (by omega) (FU_lt (by omega)) hC2 h3
  exact ⟨M', b1, b2, h2.tr b3⟩
theorem q_isWhole (hO : OkC x) (hC : MC (mA M 140) x) {r : Nat} (hr13 : r < 100) : f_RM_isWhole (nI r) M = some (b2i (decide (r < cR x) && wholeB x r), M) := by
  have hrow := q_isRowAt hO hC (nI r)
  rw [ix_nI (by omega)] at hrow
  have w2 := hO.1.2
  have w3 := hO.2.2.1
  have e2 := hC.1
  rw [f_RM_isWhole]
  by_cases hr : r < cR x
  · rw [decide_eq_true hr, b2i_t] at hrow
    have key : ∀ (m n i : Nat), i + m = cW x → m < n → allb (fun i => decide (cU x (8 * r + i) ≠ 1)) i = true → f_RM_isWhole_l12 (nI r) n (nI i) M = some (b2i (wholeB x r), M) := by
      intro m
      induction m with
      | zero =>
        intro n i hi hn hall
        obtain ⟨n, rfl, hn⟩ := z_succ hn
        obtain rfl : i = cW x := by omega
        rw [f_RM_isWhole_l12]
        unfold wholeB
        simp (disch := first | assumption | omega) only [z_bd, z_cal, z_gd, z_iT, z_iF, z_le_t, z_le_f, z_lt_t, z_lt_f, z_cl, z_inb, z_at, z_pl, nI_lit, nI_ii1, nI_add, nI_mul, e2, hall, b2i_t]
      | succ m ih =>
        intro n i hi hn hall
        obtain ⟨n, rfl, hn⟩ := z_succ hn
        have hu := q_isUndone hO hC hr (show i < cW x by omega)
        rw [f_RM_isWhole_l12]
        by_cases hz : cU x (8 * r + i) = 1
        · unfold wholeB
          rw [allb_false (show i < cW x by omega) (decide_eq_false (fun h => h hz))]
          rw [decide_eq_true hz, b2i_t] at hu
          simp (disch := first | assumption | omega) only [z_bd, z_cal, z_gd, z_iT, z_iF, z_le_t, z_le_f, z_lt_t, z_lt_f, z_cl, z_inb, z_at, z_pl, nI_lit, nI_ii1, nI_add, nI_mul, e2, hu, z_eq_f, b2i_f]
        · rw [decide_eq_false hz, b2i_f] at hu
          simp (disch := first | assumption | omega) only [z_bd, z_cal, z_gd, z_iT, z_iF, z_le_t, z_le_f, z_lt_t, z_lt_f, z_cl, z_inb, z_at, z_pl, nI_lit, nI_ii1, nI_add, nI_mul, e2, hu]
          exact ih n (i + 1) (by omega) (by omega) (by simp only [allb, hall, ne_eq, hz, not_false_eq_true, decide_true, Bool.and_self])
    have hk := key (cW x) FU 0 (by omega) (FU_lt (by omega)) rfl
    rw [decide_eq_true hr, Bool.true_and]
    simp (disch := first | assumption | omega) only [z_bd, z_cal, z_gd, z_iT, z_iF, z_le_t, z_le_f, z_lt_t, z_lt_f, z_cl, z_inb, z_at, z_pl, nI_lit, nI_ii1, nI_add, nI_mul, hrow, z_eq_f, hk]
  · rw [decide_eq_false hr, b2i_f] at hrow
    rw [decide_eq_false hr, Bool.false_and, b2i_f]
    simp (disch := first | assumption | omega) only [z_bd, z_cal, z_gd, z_iT, z_iF, z_le_t, z_le_f, z_lt_t, z_lt_f, z_cl, z_inb, z_at, z_pl, nI_lit, nI_ii1, nI_add, nI_mul, hrow]
end
