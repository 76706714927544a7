def inD (x : Cl) (p : Nat) : Bool := decide (p / 8 < cR x) && decide (p % 8 < cW x)
def gapB (x : Cl) (p : Nat) : Nat := if cK x p = 3 ∨ cU x p = 1 then 1 else 0
def gapL (x : Cl) (p : Nat) : Nat := if p % 8 = 0 then 0 else gapB x (p - 1)
def gapR (x : Cl) (p : Nat) : Nat := if p % 8 + 1 < cW x then gapB x (p + 1) else 0
def newN (x : Cl) (p : Nat) : Nat := if (inD x p && looseB x p) = true then (if cN x p + (1 + gapL x p + gapR x p) < 99 then cN x p + (1 + gapL x p + gapR x p) else 99) else cN x p
def opnB (x : Cl) (p : Nat) : Bool := inD x p && looseB x p && decide (cT x ≤ newN x p)
def newU (x : Cl) (p : Nat) : Nat := if opnB x p = true then 1 else cU x p
def opn1 (x : Cl) (p : Nat) : Nat := if opnB x p = true then 1 else 0
def yearU (x : Cl) : Us := ladders (wU (wN x (newN x)) (newU x)) (newU x, sumRC (opn1 x) (cW x) (cR x))
def yearX (x : Cl) : Cl := wU (wN x (newN x)) (yearU x).1
theorem inD_of {x : Cl} {r i : Nat} (hO : OkC x) (hr : r < cR x) (hi : i < cW x) : inD x (8 * r + i) = true := by
  have := hO.1.2
  unfold inD
  rw [decide_eq_true (show (8 * r + i) / 8 < cR x by omega), decide_eq_true (show (8 * r + i) % 8 < cW x by omega)]
  rfl
theorem gapB_le (x : Cl) (p : Nat) : gapB x p ≤ 1 := by unfold gapB; split <;> omega
theorem gapL_le (x : Cl) (p : Nat) : gapL x p ≤ 1 := by unfold gapL; split; omega; exact gapB_le _ _
theorem gapR_le (x : Cl) (p : Nat) : gapR x p ≤ 1 := by unfold gapR; split; exact gapB_le _ _; omega
theorem opn1_le (x : Cl) (p : Nat) : opn1 x p ≤ 1 := by unfold opn1; split <;> omega
theorem newN_ok {x : Cl} (hO : OkC x) : OkU x 99 (newN x) := fun r i hr hi => by
  have := OkU_N hO r i hr hi
  unfold newN
  split
  · split <;> omega
  · exact this
theorem newU_ok {x : Cl} (hO : OkC x) : OkU x 1 (newU x) := fun r i hr hi => by
  have := OkU_U hO r i hr hi
  unfold newU
  split
  · omega
  · exact this
theorem sumRC_le {f : Nat → Nat} {b W R : Nat} (h : ∀ r i, r < R → i < W → f (8 * r + i) ≤ b) : sumRC f W R ≤ b * W * R := sumN_le (fun r hr => sumN_le (fun i hi => h r i hr hi))
theorem sum_le96 {x : Cl} (hO : OkC x) {f : Nat → Nat} (h : ∀ p, f p ≤ 1) : sumRC f (cW x) (cR x) ≤ 96 := by
  have h1 := sumRC_le (f := f) (b := 1) (W := cW x) (R := cR x) (fun r i _ _ => h _)
  have h2 : 1 * cW x * cR x ≤ 1 * 8 * 12 := Nat.mul_le_mul (Nat.mul_le_mul (Nat.le_refl _) hO.1.2) hO.2.2.1
  omega
theorem OkC_NU {x : Cl} (hO : OkC x) : OkC (wU (wN x (newN x)) (newU x)) := by
  have h1 := OkC_N hO (newN_ok hO)
  have h2 : OkU (wN x (newN x)) 1 (newU x) := by have h3 := newU_ok hO; exact h3
  exact OkC_U h1 h2
theorem OkC_year {x : Cl} (hO : OkC x) : OkC (yearX x) := by
  have h1 := OkC_N hO (newN_ok hO)
  have h2 : OkU (wU (wN x (newN x)) (newU x)) 1 (newU x) := by have h3 := newU_ok hO; exact h3
  have h3 : OkU (wN x (newN x)) 1 (yearU x).1 := ladders_ok (s := (newU x, sumRC (opn1 x) (cW x) (cR x))) h2
  exact OkC_U h1 h3
/-- the cells ahead of p are new already -/
def mixN (x : Cl) (p : Nat) (q : Nat) : Nat := if q < p then newN x q else cN x q
def mixU (x : Cl) (p : Nat) (q : Nat) : Nat := if q < p then newU x q else cU x q
theorem mixN_ok {x : Cl} (hO : OkC x) (p : Nat) : OkU x 99 (mixN x p) := fun r i hr hi => by unfold mixN; split; exact newN_ok hO r i hr hi; exact OkU_N hO r i hr hi
theorem mixU_ok {x : Cl} (hO : OkC x) (p : Nat) : OkU x 1 (mixU x p) := fun r i hr hi => by unfold mixU; split; exact newU_ok hO r i hr hi; exact OkU_U hO r i hr hi
def mixX (x : Cl) (p q : Nat) : Cl := wU (wN x (mixN x p)) (mixU x q)
theorem mix_ok {x : Cl} (hO : OkC x) (p q : Nat) : OkC (mixX x p q) := OkC_U (OkC_N hO (mixN_ok hO p)) (mixU_ok hO q)
theorem CC_congr {M : kx_M} {c : Nat} {x x' : Cl} (h : CC M c x) (h1 : x'.1 = x.1) (h2 : ∀ r, r < cR x → cO x' r = cO x r) (h3 : ∀ r i, r < cR x → i < cW x → cK x' (8 * r + i) = cK x (8 * r + i) ∧ cN x' (8 * r + i) = cN x (8 * r + i) ∧ cU x' (8 * r + i) = cU x (8 * r + i) ∧ cD x' (8 * r + i) = cD x (8 * r + i)) : CC M c x' := by
  obtain ⟨a1, a2, a3, a4, a5, a6⟩ := h
  have eW : cW x' = cW x := by unfold cW; rw [h1]
  have eR : cR x' = cR x := by unfold cR; rw [h1]
  have eT : cT x' = cT x := by unfold cT; rw [h1]
  have eY : cY x' = cY x := by unfold cY; rw [h1]
  refine ⟨by rw [eW]; exact a1, by rw [eT]; exact a2, by rw [eR]; exact a3, by rw [eY]; exact a4, fun r hr => ?_, fun r i hr hi => ?_⟩
  · rw [eR] at hr; rw [h2 r hr]; exact a5 r hr
  · rw [eR] at hr; rw [eW] at hi
    obtain ⟨b1, b2, b3, b4⟩ := h3 r i hr hi
    rw [b1, b2, b3, b4]
    exact a6 r i hr hi
section
variable {M : kx_M} {c d : Nat} {x : Cl} {y : De}
theorem q_gapAt (hO : OkC x) (hC : CC M c x) {r i : Nat} (hr : r < cR x) (hi : i < cW x) : f_Cloth_gapAt c (nI r) (nI i) M = some (nI (gapB x (8 * r + i)), M) := by
  obtain ⟨⟨w1, w2⟩, -, w3, -, -, hcell⟩ := hO
  obtain ⟨c1, -, c3, -⟩ := hcell r i hr hi
  obtain ⟨m1, -, m3, -⟩ := hC.2.2.2.2.2 r i hr hi
  have e2 := hC.1
  have hz : ¬ nI i < 0 := nI_pos (by omega)
  rw [f_Cloth_gapAt, if_neg hz]
  by_cases h1 : cK x (8 * r + i) = 3
  · have eg : gapB x (8 * r + i) = 1 := if_pos (Or.inl h1)
    simp (disch := first | assumption | omega) only [z_bd, z_cal, z_gd, z_iT, z_iF, z_le_t, z_le_f, z_lt_t, z_lt_f, z_cl, z_inb, z_at, nI_lit, nI_ii1, nI_add, z_mr, e2, m1, h1, eg]
  · by_cases h2 : cU x (8 * r + i) = 1
    · have eg : gapB x (8 * r + i) = 1 := if_pos (Or.inr h2)
      simp (disch := first | assumption | omega) only [z_bd, z_cal, z_gd, z_iT, z_iF, z_le_t, z_le_f, z_lt_t, z_lt_f, z_cl, z_inb, z_at, nI_lit, nI_ii1, nI_add, z_mr, e2, m1, m3, h2, z_eq_f, eg]
    · have eg : gapB x (8 * r + i) = 0 := if_neg (fun h => h.elim h1 h2)
      simp (disch := first | assumption | omega) only [z_bd, z_cal, z_gd, z_iT, z_iF, z_le_t, z_le_f, z_lt_t, z_lt_f, z_cl, z_inb, z_at, nI_lit, nI_ii1, nI_add, z_mr, e2, m1, m3, z_eq_f, eg]
theorem q_gapL (hO : OkC x) (hC : CC M c x) {r i : Nat} (hr : r < cR x) (hi : i < cW x) : f_Cloth_gapAt c (nI r) (nI i - nI 1) M = some (nI (gapL x (8 * r + i)), M) := by
  have w2 := hO.1.2
  unfold gapL
  by_cases h : i = 0
  · subst h
    rw [if_pos (by omega), f_Cloth_gapAt, if_pos (show nI 0 - nI 1 < 0 by decide)]
    simp (disch := first | assumption | omega) only [z_bd, z_cal, z_gd, z_iT, z_iF, z_le_t, z_le_f, z_lt_t, z_lt_f, z_cl, z_inb, z_at, nI_lit, nI_ii1, nI_add, z_mr]
  · rw [if_neg (by omega), z_sub (by omega), q_gapAt hO hC hr (by omega), show 8 * r + i - 1 = 8 * r + (i - 1) by omega]
theorem q_gapR (hO : OkC x) (hC : CC M c x) {r i : Nat} (hr : r < cR x) (hi : i < cW x) : f_Cloth_gapAt c (nI r) (nI i + nI 1) M = some (nI (gapR x (8 * r + i)), M) := by
  have w2 := hO.1.2
  unfold gapR
  rw [nI_add]
  by_cases h : i + 1 < cW x
  · rw [if_pos (by omega), q_gapAt hO hC hr (by omega)]
    rfl
  · have e2 := hC.1
    have hz : ¬ nI (i + 1) < 0 := nI_pos (by omega)
    rw [if_neg (by omega), f_Cloth_gapAt, if_neg hz]
    simp (disch := first | assumption | omega) only [z_bd, z_cal, z_gd, z_iT, z_iF, z_le_t, z_le_f, z_lt_t, z_lt_f, z_cl, z_inb, z_at, nI_lit, nI_ii1, nI_add, z_mr, e2]
theorem mix_gap (hO : OkC x) {r i : Nat} (hi : i < cW x) {p : Nat} : gapL (mixX x p (8 * r)) (8 * r + i) = gapL x (8 * r + i) ∧ gapR (mixX x p (8 * r)) (8 * r + i) = gapR x (8 * r + i) ∧ looseB (mixX x p (8 * r)) (8 * r + i) = looseB x (8 * r + i) := by
  have hu : ∀ q, 8 * r ≤ q → cU (mixX x p (8 * r)) q = cU x q := fun q hq => if_neg (by omega)
  have w2 := hO.1.2
  refine ⟨?_, ?_, ?_⟩
  · unfold gapL gapB
    by_cases h : (8 * r + i) % 8 = 0
    · rw [if_pos h, if_pos h]
    · rw [if_neg h, if_neg h, hu _ (by omega)]
      rfl
  · unfold gapR gapB
    rw [hu _ (by omega)]
    rfl
  · unfold looseB
    rw [hu _ (by omega)]
    rfl
theorem q_wear_l2 (hO : OkC x) {r : Nat} (hr : r < cR x) :
    ∀ (m n i : Nat) (M : kx_M), i + m = cW x → m < n → CC M c (mixX x (8 * r + i) (8 * r)) → ∃ M', f_Cloth_wearRow_l2 c (nI r) n (nI i) M = some ((), M') ∧ CC M' c (mixX x (8 * r + cW x) (8 * r)) ∧ Fr (inC c) M M' := by
  have w2 := hO.1.2
  have w3 := hO.2.2.1
  intro m
  induction m with
  | zero =>
    intro n i M hi hn hC
    obtain ⟨n, rfl, hn⟩ := z_succ hn
    obtain rfl : i = cW x := by omega
    have e2 : mI M c 5 = nI (cW x) := hC.1
    refine ⟨M, ?_, hC, Fr.rf⟩
    rw [f_Cloth_wearRow_l2]
    simp (disch := first | assumption | omega) only [z_bd, z_cal, z_gd, z_iT, z_iF, z_le_t, z_le_f, z_lt_t, z_lt_f, z_cl, z_inb, z_at, nI_lit, nI_ii1, nI_add, z_mr, e2]
  | succ m ih =>
    intro n i M hi hn hC
    obtain ⟨n, rfl, hn⟩ := z_succ hn
    have e2 : mI M c 5 = nI (cW x) := hC.1
    have hiw : i < cW x := by omega
    have hO' := mix_ok hO (8 * r + i) (8 * r)
    obtain ⟨g1, g2, g3⟩ := mix_gap (r := r) hO hiw (p := 8 * r + i)
    have hl := q_loose hO' hC hr hiw
    rw [g3] at hl
    have hcn : cN (mixX x (8 * r + i) (8 * r)) (8 * r + i) = cN x (8 * r + i) := if_neg (by omega)
    have a2 := (hC.2.2.2.2.2 r i hr hiw).2.1
    rw [hcn] at a2
    have b2 := OkU_N hO r i hr hiw
    have l1 := gapL_le x (8 * r + i)
    have l2 := gapR_le x (8 * r + i)
    rw [f_Cloth_wearRow_l2]
    cases h : looseB x (8 * r + i)
    · rw [h, b2i_f] at hl
      have hC2 : CC M c (mixX x (8 * r + (i + 1)) (8 * r)) := by
        refine CC_congr hC rfl (fun _ _ => rfl) (fun r' i' hr' hi' => ⟨rfl, ?_, rfl, rfl⟩)
        show mixN x _ _ = mixN x _ _
        unfold mixN
        by_cases hq : 8 * r' + i' = 8 * r + i
        · rw [hq, if_pos (by omega), if_neg (by omega)]
          unfold newN
          rw [h, Bool.and_false]
          rfl
        · have hiff : (8 * r' + i' < 8 * r + (i + 1)) ↔ (8 * r' + i' < 8 * r + i) := by omega
          simp only [hiff]
      obtain ⟨M', b1, b2, b3⟩ := ih n (i + 1) M (by omega) (by omega) hC2
      refine ⟨M', ?_, b2, b3⟩
      simp (disch := first | assumption | omega) only [z_bd, z_cal, z_gd, z_iT, z_iF, z_le_t, z_le_f, z_lt_t, z_lt_f, z_cl, z_inb, z_at, nI_lit, nI_ii1, nI_add, z_mr, e2, hl]
      exact b1
    · rw [h, b2i_t] at hl
      have q1 := q_gapL hO' hC hr hiw
      have q2 := q_gapR hO' hC hr hiw
      rw [g1] at q1
      rw [g2, nI_add] at q2
      have hnew : newN x (8 * r + i) = if cN x (8 * r + i) + (1 + gapL x (8 * r + i) + gapR x (8 * r + i)) < 99 then cN x (8 * r + i) + (1 + gapL x (8 * r + i) + gapR x (8 * r + i)) else 99 := by
        unfold newN
        rw [h, inD_of hO hr hiw]
        rfl
      have hC1 := CC_N (p := 8 * r + i) (v := newN x (8 * r + i)) hC
      have hC2 : CC (sA M (c + 3) (upd (mA M (c + 3)) (8 * r + i) (nI (newN x (8 * r + i))))) c (mixX x (8 * r + (i + 1)) (8 * r)) := by
        refine CC_congr hC1 rfl (fun _ _ => rfl) (fun r' i' hr' hi' => ⟨rfl, ?_, rfl, rfl⟩)
        show mixN x _ _ = updN (mixN x _) _ _ _
        unfold mixN updN
        by_cases hq : 8 * r' + i' = 8 * r + i
        · rw [hq, if_pos (by omega), if_pos rfl]
        · have hiff : (8 * r' + i' < 8 * r + (i + 1)) ↔ (8 * r' + i' < 8 * r + i) := by omega
          simp only [hiff, if_neg hq]
      obtain ⟨M', b1, b2, b3⟩ := ih n (i + 1) _ (by omega) (by omega) hC2
      refine ⟨M', ?_, b2, (Fr.sA ⟨by omega, by omega⟩).tr b3⟩
      rw [hnew] at b1
      by_cases hlt : cN x (8 * r + i) + (1 + gapL x (8 * r + i) + gapR x (8 * r + i)) < 99
      · rw [if_pos hlt] at b1
        simp (disch := first | assumption | omega) only [z_bd, z_cal, z_gd, z_iT, z_iF, z_le_t, z_le_f, z_lt_t, z_lt_f, z_cl, z_inb, z_at, nI_lit, nI_ii1, nI_add, z_mr, e2, hl, q1, q2, z_eq_f, a2]
        exact b1
      · rw [if_neg hlt] at b1
        simp (disch := first | assumption | omega) only [z_bd, z_cal, z_gd, z_iT, z_iF, z_le_t, z_le_f, z_lt_t, z_lt_f, z_cl, z_inb, z_at, nI_lit, nI_ii1, nI_add, z_mr, e2, hl, q1, q2, z_eq_f, a2]
        exact b1
theorem q_open_l4 (hO : OkC x) {r : Nat} (hr : r < cR x) :
    ∀ (m n i t : Nat) (M : kx_M), i + m = cW x → m < n → CC M c (mixX x (8 * r + cW x) (8 * r + i)) → ∃ M', f_Cloth_openRow_l4 c (nI r) n (nI (t + sumN (fun i => opn1 x (8 * r + i)) i)) (nI i) M = some (nI (t + sumN (fun i => opn1 x (8 * r + i)) (cW x)), M') ∧ CC M' c (mixX x (8 * r + cW x) (8 * r + cW x)) ∧ Fr (inC c) M M' := by
  have w2 := hO.1.2
  have w3 := hO.2.2.1
  intro m
  induction m with
  | zero =>
    intro n i t M hi hn hC
    obtain ⟨n, rfl, hn⟩ := z_succ hn
    obtain rfl : i = cW x := by omega
    have e2 : mI M c 5 = nI (cW x) := hC.1
    refine ⟨M, ?_, hC, Fr.rf⟩
    rw [f_Cloth_openRow_l4]
    simp (disch := first | assumption | omega) only [z_bd, z_cal, z_gd, z_iT, z_iF, z_le_t, z_le_f, z_lt_t, z_lt_f, z_cl, z_inb, z_at, nI_lit, nI_ii1, nI_add, z_mr, e2]
  | succ m ih =>
    intro n i t M hi hn hC
    obtain ⟨n, rfl, hn⟩ := z_succ hn
    have e2 : mI M c 5 = nI (cW x) := hC.1
    have e3 : mI M c 6 = nI (cT x) := hC.2.1
    have hiw : i < cW x := by omega
    have hT := hO.2.1
    have hO' := mix_ok hO (8 * r + cW x) (8 * r + i)
    have hcu : cU (mixX x (8 * r + cW x) (8 * r + i)) (8 * r + i) = cU x (8 * r + i) := if_neg (by omega)
    have hcn : cN (mixX x (8 * r + cW x) (8 * r + i)) (8 * r + i) = newN x (8 * r + i) := if_pos (by omega)
    have g3 : looseB (mixX x (8 * r + cW x) (8 * r + i)) (8 * r + i) = looseB x (8 * r + i) := by
      unfold looseB
      rw [hcu]
      rfl
    have hl := q_loose hO' hC hr hiw
    rw [g3] at hl
    have a2 := (hC.2.2.2.2.2 r i hr hiw).2.1
    rw [hcn] at a2
    have b2 := newN_ok hO r i hr hiw
    rw [f_Cloth_openRow_l4]
    cases h : opnB x (8 * r + i)
    · have hC2 : CC M c (mixX x (8 * r + cW x) (8 * r + (i + 1))) := by
        refine CC_congr hC rfl (fun _ _ => rfl) (fun r' i' hr' hi' => ⟨rfl, rfl, ?_, rfl⟩)
        show mixU x _ _ = mixU x _ _
        unfold mixU
        by_cases hq : 8 * r' + i' = 8 * r + i
        · rw [hq, if_pos (by omega), if_neg (by omega)]
          unfold newU
          rw [h]
          rfl
        · have hiff : (8 * r' + i' < 8 * r + (i + 1)) ↔ (8 * r' + i' < 8 * r + i) := by omega
          simp only [hiff]
      obtain ⟨M', b1, b2', b3⟩ := ih n (i + 1) t M (by omega) (by omega) hC2
      refine ⟨M', ?_, b2', b3⟩
      rw [show sumN (fun i => opn1 x (8 * r + i)) (i + 1) = sumN (fun i => opn1 x (8 * r + i)) i by
        show _ + opn1 x (8 * r + i) = _
        unfold opn1
        rw [h]
        rfl] at b1
      unfold opnB at h
      rw [inD_of hO hr hiw, Bool.true_and, Bool.and_eq_false_iff] at h
      cases hlo : looseB x (8 * r + i)
      · rw [hlo, b2i_f] at hl
        simp (disch := first | assumption | omega) only [z_bd, z_cal, z_gd, z_iT, z_iF, z_le_t, z_le_f, z_lt_t, z_lt_f, z_cl, z_inb, z_at, nI_lit, nI_ii1, nI_add, z_mr, e2, hl]
        exact b1
      · rw [hlo, b2i_t] at hl
        have hlt : ¬ cT x ≤ newN x (8 * r + i) := by
          rcases h with h | h
          · rw [hlo] at h; cases h
          · exact of_decide_eq_false h
        simp (disch := first | assumption | omega) only [z_bd, z_cal, z_gd, z_iT, z_iF, z_le_t, z_le_f, z_lt_t, z_lt_f, z_cl, z_inb, z_at, nI_lit, nI_ii1, nI_add, z_mr, e2, hl, z_eq_f, a2, e3]
        exact b1
    · have hC1 := CC_U (p := 8 * r + i) (v := 1) hC
      have hC2 : CC (sA M (c + 4) (upd (mA M (c + 4)) (8 * r + i) (nI 1))) c (mixX x (8 * r + cW x) (8 * r + (i + 1))) := by
        refine CC_congr hC1 rfl (fun _ _ => rfl) (fun r' i' hr' hi' => ⟨rfl, rfl, ?_, rfl⟩)
        show mixU x _ _ = updN (mixU x _) _ _ _
        unfold mixU updN
        by_cases hq : 8 * r' + i' = 8 * r + i
        · rw [hq, if_pos (by omega), if_pos rfl]
          unfold newU
          rw [h]
          rfl
        · have hiff : (8 * r' + i' < 8 * r + (i + 1)) ↔ (8 * r' + i' < 8 * r + i) := by omega
          simp only [hiff, if_neg hq]
      obtain ⟨M', b1, b2', b3⟩ := ih n (i + 1) t _ (by omega) (by omega) hC2
      refine ⟨M', ?_, b2', (Fr.sA ⟨by omega, by omega⟩).tr b3⟩
      rw [show sumN (fun i => opn1 x (8 * r + i)) (i + 1) = sumN (fun i => opn1 x (8 * r + i)) i + 1 by
        show _ + opn1 x (8 * r + i) = _
        unfold opn1
        rw [h]
        rfl] at b1
      unfold opnB at h
      rw [inD_of hO hr hiw, Bool.true_and, Bool.and_eq_true] at h
      rw [h.1, b2i_t] at hl
      have hle := of_decide_eq_true h.2
      simp (disch := first | assumption | omega) only [z_bd, z_cal, z_gd, z_iT, z_iF, z_le_t, z_le_f, z_lt_t, z_lt_f, z_cl, z_inb, z_at, nI_lit, nI_ii1, nI_add, z_mr, e2, hl, z_eq_f, a2, e3, Nat.add_assoc]
      exact b1
theorem q_year_l4 (hO : OkC x) :
    ∀ (m n r : Nat) (M : kx_M), r + m = cR x → m < n → CC M c (mixX x (8 * r) (8 * r)) → ∃ M', f_Cloth_passYear_l4 c n (nI (sumRC (opn1 x) (cW x) r)) (nI r) M = some (nI (yearU x).2, M') ∧ CC M' c (yearX x) ∧ Fr (inC c) M M' := by
  have w2 := hO.1.2
  have w3 := hO.2.2.1
  intro m
  induction m with
  | zero =>
    intro n r M hi hn hC
    obtain ⟨n, rfl, hn⟩ := z_succ hn
    obtain rfl : r = cR x := by omega
    have e2 : mI M c 7 = nI (cR x) := hC.2.2.1
    have hC2 : CC M c (wU (wN x (newN x)) (newU x)) := by
      refine CC_congr hC rfl (fun _ _ => rfl) (fun r' i' hr' hi' => ?_)
      have hr2 : r' < cR x := hr'
      have hi2 : i' < cW x := hi'
      refine ⟨rfl, ?_, ?_, rfl⟩
      · exact (if_pos (by omega)).symm
      · exact (if_pos (by omega)).symm
    have g := sum_le96 hO (opn1_le x)
    obtain ⟨M', b1, b2, b3⟩ := q_lad (x := wU (wN x (newN x)) (newU x)) (u := newU x) (t := sumRC (opn1 x) (cW x) (cR x)) (OkC_NU hO) (by have h3 := newU_ok hO; exact h3) (by omega) hC2
    refine ⟨M', ?_, b2, b3⟩
    rw [f_Cloth_passYear_l4]
    simp (disch := first | assumption | omega) only [z_bd, z_cal, z_gd, z_iT, z_iF, z_le_t, z_le_f, z_lt_t, z_lt_f, z_cl, z_inb, z_at, nI_lit, nI_ii1, nI_add, z_mr, e2, b1]
    rfl
  | succ m ih =>
    intro n r M hi hn hC
    obtain ⟨n, rfl, hn⟩ := z_succ hn
    have e2 : mI M c 7 = nI (cR x) := hC.2.2.1
    obtain ⟨M1, a1, a2, a3⟩ := q_wear_l2 hO (show r < cR x by omega) (cW x) FU 0 M (by omega) (FU_lt (by omega)) hC
    obtain ⟨M2, b1, b2, b3⟩ := q_open_l4 hO (show r < cR x by omega) (cW x) FU 0 0 M1 (by omega) (FU_lt (by omega)) a2
    have hC3 : CC M2 c (mixX x (8 * (r + 1)) (8 * (r + 1))) := by
      refine CC_congr b2 rfl (fun _ _ => rfl) (fun r' i' hr' hi' => ?_)
      have hr2 : r' < cR x := hr'
      have hi2 : i' < cW x := hi'
      have hiff : (8 * r' + i' < 8 * (r + 1)) ↔ (8 * r' + i' < 8 * r + cW x) := by omega
      refine ⟨rfl, ?_, ?_, rfl⟩
      · show mixN x _ _ = mixN x _ _
        unfold mixN
        simp only [hiff]
      · show mixU x _ _ = mixU x _ _
        unfold mixU
        simp only [hiff]
    obtain ⟨M3, d1, d2, d3⟩ := ih n (r + 1) M2 (by omega) (by omega) hC3
    refine ⟨M3, ?_, d2, (a3.tr b3).tr d3⟩
    have b1' : f_Cloth_openRow c (nI r) M1 = some (nI (sumN (fun i => opn1 x (8 * r + i)) (cW x)), M2) := by
      have := b1
      rw [Nat.zero_add, Nat.zero_add] at this
      exact this
    have a1' : f_Cloth_wearRow c (nI r) M = some ((), M1) := a1
    rw [f_Cloth_passYear_l4]
    simp (disch := first | assumption | omega) only [z_bd, z_cal, z_gd, z_iT, z_iF, z_le_t, z_le_f, z_lt_t, z_lt_f, z_cl, z_inb, z_at, nI_lit, nI_ii1, nI_add, z_mr, e2, a1', b1']
    exact d1
theorem q_year (hO : OkC x) (hC : CC M c x) : ∃ M', f_Cloth_passYear c M = some (nI (yearU x).2, M') ∧ CC M' c (yearX x) ∧ Fr (inC c) M M' :=
  q_year_l4 hO (cR x) FU 0 M (by omega) (FU_lt (by have := hO.2.2.1; omega)) (CC_congr hC rfl (fun _ _ => rfl) (fun r i _ _ => ⟨rfl, (show mixN x (8 * 0) (8 * r + i) = cN x (8 * r + i) from if_neg (by omega)), (show mixU x (8 * 0) (8 * r + i) = cU x (8 * r + i) from if_neg (by omega)), rfl⟩))
end
theorem year_still {x : Cl} (hO : OkC x) (h : anyLs x = false) : yearX x = x ∧ (yearU x).2 = 0 := by
  have hall : ∀ p, (inD x p && looseB x p) = false := fun p => by
    cases hd : inD x p
    · rfl
    · unfold anyLs at h
      rw [Bool.not_eq_false'] at h
      unfold inD at hd
      rw [Bool.and_eq_true] at hd
      have h1 := allb_iff.mp h (p / 8) (of_decide_eq_true hd.1)
      have h2 := allb_iff.mp h1 (p % 8) (of_decide_eq_true hd.2)
      rw [show 8 * (p / 8) + p % 8 = p by omega] at h2
      cases hl : looseB x p
      · rfl
      · rw [hl] at h2; cases h2
  have hn : newN x = cN x := funext fun p => by unfold newN; rw [hall p]; rfl
  have ho : ∀ p, opnB x p = false := fun p => by unfold opnB; rw [hall p]; rfl
  have hu : newU x = cU x := funext fun p => by unfold newU; rw [ho p]; rfl
  have hs : sumRC (opn1 x) (cW x) (cR x) = 0 := by
    have : sumRC (opn1 x) (cW x) (cR x) ≤ 0 * cW x * cR x := sumRC_le (fun r i _ _ => by unfold opn1; rw [ho]; exact Nat.le_refl _)
    rw [Nat.zero_mul, Nat.zero_mul] at this
    omega
  have hy : yearU x = (cU x, 0) := by
    unfold yearU
    rw [hn, hu, hs]
    rfl
  unfold yearX
  rw [hy, hn]
  exact ⟨rfl, rfl⟩
def yrs (x : Cl) : Nat → Cl × Nat
  | 0 => (x, 0)
  | m + 1 => ((yrs (yearX x) m).1, (yearU x).2 + (yrs (yearX x) m).2)
theorem yrs_still {x : Cl} (hO : OkC x) (h : anyLs x = false) : ∀ m, yrs x m = (x, 0)
  | 0 => rfl
  | m + 1 => by
    obtain ⟨a, b⟩ := year_still hO h
    show ((yrs (yearX x) m).1, (yearU x).2 + (yrs (yearX x) m).2) = _
    rw [a, b, yrs_still hO h m]
    rfl
theorem OkC_yrs : ∀ (m : Nat) {x : Cl}, OkC x → OkC (yrs x m).1
  | 0, _, h => h
  | m + 1, _, h => OkC_yrs m (OkC_year h)
theorem yrs_sh : ∀ (m : Nat) (x : Cl), (yrs x m).1.1 = x.1
  | 0, _ => rfl
  | m + 1, x => (yrs_sh m (yearX x)).trans rfl
def wY (x : Cl) (n : Nat) : Cl := ((cW x, cT x, cR x, n), x.2)
section
variable {M : kx_M} {c d : Nat} {x : Cl} {y : De}
theorem CC_Y {n : Nat} (h : CC M c x) : CC (sI M c 8 (nI n)) c (wY x n) := by
  obtain ⟨h1, h2, h3, h4, h5, h6⟩ := h
  refine ⟨?_, ?_, ?_, ?_, h5, h6⟩
  · rw [mI_sI, if_neg (by omega)]; exact h1
  · rw [mI_sI, if_neg (by omega)]; exact h2
  · rw [mI_sI, if_neg (by omega)]; exact h3
  · rw [mI_sI, if_pos ⟨rfl, rfl⟩]; rfl
/-- what is tried on may lie beyond the year 9,999 -/
theorem q_years_l4 {N : Nat} (hN : N ≤ 99) : ∀ (m n i t : Nat) (M : kx_M) (x : Cl), i + m = N → m < n → OkC x → CC M c x → ∃ M', f_Cloth_passYears_l4 c (nI N) n (nI t) (nI i) M = some (nI (t + (yrs x m).2), M') ∧ CC M' c (wY (yrs x m).1 (cY x + N)) ∧ Fr (inC c) M M' := by
  intro m
  induction m with
  | zero =>
    intro n i t M x hi hn hO hC
    obtain ⟨n, rfl, hn⟩ := z_succ hn
    have e4 : mI M c 8 = nI (cY x) := hC.2.2.2.1
    refine ⟨_, ?_, CC_Y (n := cY x + N) hC, Fr.sI ⟨by omega, by omega⟩⟩
    rw [f_Cloth_passYears_l4]
    simp (disch := first | assumption | omega) only [z_bd, z_cal, z_gd, z_iT, z_iF, z_le_t, z_le_f, z_lt_t, z_lt_f, z_cl, z_inb, z_at, nI_lit, nI_ii1, nI_add, z_mr, e4]
    rfl
  | succ m ih =>
    intro n i t M x hi hn hO hC
    obtain ⟨n, rfl, hn⟩ := z_succ hn
    have e4 : mI M c 8 = nI (cY x) := hC.2.2.2.1
    have hl := q_anyLs hO hC
    rw [f_Cloth_passYears_l4]
    cases h : anyLs x
    · rw [h, b2i_f] at hl
      rw [yrs_still hO h]
      refine ⟨_, ?_, CC_Y (n := cY x + N) hC, Fr.sI ⟨by omega, by omega⟩⟩
      simp (disch := first | assumption | omega) only [z_bd, z_cal, z_gd, z_iT, z_iF, z_le_t, z_le_f, z_lt_t, z_lt_f, z_cl, z_inb, z_at, nI_lit, nI_ii1, nI_add, z_mr, e4, hl]
      rfl
    · rw [h, b2i_t] at hl
      obtain ⟨M1, a1, a2, a3⟩ := q_year hO hC
      obtain ⟨M2, b1, b2, b3⟩ := ih n (i + 1) (t + (yearU x).2) M1 (yearX x) (by omega) (by omega) (OkC_year hO) a2
      refine ⟨M2, ?_, b2, a3.tr b3⟩
      simp (disch := first | assumption | omega) only [z_bd, z_cal, z_gd, z_iT, z_iF, z_le_t, z_le_f, z_lt_t, z_lt_f, z_cl, z_inb, z_at, nI_lit, nI_ii1, nI_add, z_mr, hl, z_eq_f, a1]
      rw [Nat.add_assoc] at b1
      exact b1
theorem q_years {N : Nat} (hN : N ≤ 99) (hO : OkC x) (hC : CC M c x) : ∃ M', f_Cloth_passYears c (nI N) M = some (nI (yrs x N).2, M') ∧ CC M' c (wY (yrs x N).1 (cY x + N)) ∧ Fr (inC c) M M' := by
  have h := q_years_l4 (c := c) hN N FU 0 0 M x (by omega) (FU_lt (by omega)) hO hC
  rw [Nat.zero_add] at h
  exact h
end
