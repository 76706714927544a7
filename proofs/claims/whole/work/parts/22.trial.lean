/-! ## what is carried over a frame; the cloth that is tried on -/
theorem CC_fr {p : Nat → Prop} {M M' : kx_M} {c : Nat} {x : Cl} (h : Fr p M M') (hp : ∀ id, c ≤ id → id ≤ c + 5 → ¬ p id) (hC : CC M c x) : CC M' c x := by
  obtain ⟨h1, h2, h3, h4, h5, h6⟩ := hC
  have g0 := h c (hp c (by omega) (by omega))
  have g1 := (h (c + 1) (hp _ (by omega) (by omega))).2.2.1
  have g2 := (h (c + 2) (hp _ (by omega) (by omega))).2.2.1
  have g3 := (h (c + 3) (hp _ (by omega) (by omega))).2.2.1
  have g4 := (h (c + 4) (hp _ (by omega) (by omega))).2.2.1
  have g5 := (h (c + 5) (hp _ (by omega) (by omega))).2.2.1
  refine ⟨(g0.1 _).trans h1, (g0.1 _).trans h2, (g0.1 _).trans h3, (g0.1 _).trans h4, ?_, ?_⟩
  · rw [g1]; exact h5
  · rw [g2, g3, g4, g5]; exact h6
theorem CD_fr {p : Nat → Prop} {M M' : kx_M} {d : Nat} {y : De} (h : Fr p M M') (hp : ∀ id, d ≤ id → id ≤ d + 7 → ¬ p id) (hD : CD M d y) : CD M' d y := by
  obtain ⟨h1, h2, h3, h4, h5, h6, h7⟩ := hD
  have g0 := h d (hp d (by omega) (by omega))
  have g1 := (h (d + 1) (hp _ (by omega) (by omega))).2.2.1
  have g2 := (h (d + 2) (hp _ (by omega) (by omega))).2.2.2.1
  have g3 := (h (d + 3) (hp _ (by omega) (by omega))).2.2.2.1
  have g4 := (h (d + 4) (hp _ (by omega) (by omega))).2.2.1
  have g5 := (h (d + 5) (hp _ (by omega) (by omega))).2.2.1
  have g6 := (h (d + 6) (hp _ (by omega) (by omega))).2.2.1
  have g7 := (h (d + 7) (hp _ (by omega) (by omega))).2.2.1
  refine ⟨(g0.1 _).trans h1, (g0.1 _).trans h2, ?_, ?_, ?_, ?_, ?_⟩
  · rw [g1, g2]; exact h3
  · rw [g3, g4]; exact h4
  · rw [g5]; exact h5
  · rw [g6]; exact h6
  · rw [g7]; exact h7
theorem MD_congr {g g' : Nat → Int32} {h : Nat → Int64} {W : Nat} {y : De} (hP : OkD W y) (hg : ∀ p, 2 ≤ p → p < 100 → p ≠ 4 → p ≠ 5 → g' p = g p) (hD : MD g h y) : MD g' h y := by
  obtain ⟨h1, h2, h3, h4, h5, h6, h7⟩ := hD
  have q1 := hP.1
  have q2 := hP.2.1
  refine ⟨by rw [hg 2 (by omega) (by omega) (by omega) (by omega)]; exact h1, by rw [hg 3 (by omega) (by omega) (by omega) (by omega)]; exact h2, fun q hq => ?_, fun k hk => ?_, fun k i hk hi => ?_, fun k hk => ?_, fun v q k hv hq hk => ?_⟩
  · rw [hg _ (by omega) (by omega) (by omega) (by omega)]; exact h3 q hq
  · rw [hg _ (by omega) (by omega) (by omega) (by omega)]; exact h4 k hk
  · have := hP.2.2.2.1 k hk
    rw [hg _ (by omega) (by omega) (by omega) (by omega)]; exact h5 k i hk hi
  · rw [hg _ (by omega) (by omega) (by omega) (by omega)]; exact h6 k hk
  · rw [hg _ (by omega) (by omega) (by omega) (by omega)]; exact h7 v q k hv hq hk
theorem MD_frM {M M' : kx_M} {h : Nat → Int64} {W : Nat} {y : De} (hP : OkD W y) (hF : FrM M M') (hD : MD (mA M 140) h y) : MD (mA M' 140) h y :=
  MD_congr hP (fun p h1 h2 h3 h4 => hF.2 p h4 (by omega)) hD
/-- which state is now, which one is for trying -/
def KN (M : kx_M) (s t : Nat) : Prop := mR M 0 9 = s ∧ mR M 0 10 = t ∧ (s = 27 ∧ t = 47 ∨ s = 47 ∧ t = 27)
theorem KN.s1 {M : kx_M} {s t : Nat} (h : KN M s t) : isState s = true := by rcases h.2.2 with ⟨rfl, rfl⟩ | ⟨rfl, rfl⟩ <;> rfl
theorem KN.s2 {M : kx_M} {s t : Nat} (h : KN M s t) : isState t = true := by rcases h.2.2 with ⟨rfl, rfl⟩ | ⟨rfl, rfl⟩ <;> rfl
theorem KN.ap {M : kx_M} {s t : Nat} (h : KN M s t) : 27 ≤ s ∧ 27 ≤ t ∧ s ≤ 47 ∧ t ≤ 47 ∧ (s + 20 ≤ t ∨ t + 20 ≤ s) := by rcases h.2.2 with ⟨rfl, rfl⟩ | ⟨rfl, rfl⟩ <;> omega
theorem KN.fr {p : Nat → Prop} {M M' : kx_M} {s t : Nat} (h : KN M s t) (hF : Fr p M M') (h0 : ¬ p 0) : KN M' s t := ⟨((hF 0 h0).2.2.2.2 9).trans h.1, ((hF 0 h0).2.2.2.2 10).trans h.2.1, h.2.2⟩
theorem va_cpy0 {α : Type} (f g : Nat → α) {n k : Nat} (h : k < n) : va_cpy f g 0 0 n k = f k := by
  unfold va_cpy
  rw [if_pos (by omega)]
  congr 1
  omega
section
variable {M : kx_M} {s t : Nat} {x : Cl} {y : De} {h : Nat → Int64}
theorem q_Ccopy {c c2 : Nat} (hO : OkC x) (hC : CC M c x) (ha : c2 + 5 < c ∨ c + 5 < c2) : ∃ M', f_Cloth_copyFrom c2 c M = some ((), M') ∧ CC M' c2 x ∧ Fr (inC c2) M M' := by
  obtain ⟨h1, h2, h3, h4, h5, h6⟩ := hC
  have w2 := hO.1.2
  have w3 := hO.2.2.1
  have i0 : inC c2 c2 := ⟨by omega, by omega⟩
  have i1 : inC c2 (c2 + 1) := ⟨by omega, by omega⟩
  have i2 : inC c2 (c2 + 2) := ⟨by omega, by omega⟩
  have i3 : inC c2 (c2 + 3) := ⟨by omega, by omega⟩
  have i4 : inC c2 (c2 + 4) := ⟨by omega, by omega⟩
  have i5 : inC c2 (c2 + 5) := ⟨by omega, by omega⟩
  have a0 : ¬ c = c2 := by omega
  have a1 : ¬ c + 1 = c2 + 1 := by omega
  have e : ∀ a b, a ≤ 5 → b ≤ 5 → ¬ c + a = c2 + b := by intro a b _ _; omega
  refine ⟨_, rfl, ?_, ((((((((Fr.sI i0).tr (Fr.sI i0)).tr (Fr.sI i0)).tr (Fr.sI i0)).tr (Fr.sA i1)).tr (Fr.sA i2)).tr (Fr.sA i3)).tr (Fr.sA i4)).tr (Fr.sA i5)⟩
  · refine ⟨?_, ?_, ?_, ?_, fun r hr => ?_, fun r i hr hi => ?_⟩
    · simp only [mI_sI, mI_sJ, mI_sA, mI_sB, mI_sR, mJ_sI, mJ_sJ, mJ_sA, mJ_sB, mJ_sR, mA_sI, mA_sJ, mA_sA, mA_sB, mA_sR, mB_sI, mB_sJ, mB_sA, mB_sB, mB_sR, mR_sI, mR_sJ, mR_sA, mR_sB, mR_sR, a0, false_and, if_false, true_and, and_self, if_true]
      try simp (disch := omega) only [reduceCtorEq, Nat.reduceEqDiff, and_false, if_false, and_self, if_true]
      exact h1
    · simp only [mI_sI, mI_sJ, mI_sA, mI_sB, mI_sR, mJ_sI, mJ_sJ, mJ_sA, mJ_sB, mJ_sR, mA_sI, mA_sJ, mA_sA, mA_sB, mA_sR, mB_sI, mB_sJ, mB_sA, mB_sB, mB_sR, mR_sI, mR_sJ, mR_sA, mR_sB, mR_sR, a0, false_and, if_false, true_and, and_self, if_true]
      try simp (disch := omega) only [reduceCtorEq, Nat.reduceEqDiff, and_false, if_false, and_self, if_true]
      exact h2
    · simp only [mI_sI, mI_sJ, mI_sA, mI_sB, mI_sR, mJ_sI, mJ_sJ, mJ_sA, mJ_sB, mJ_sR, mA_sI, mA_sJ, mA_sA, mA_sB, mA_sR, mB_sI, mB_sJ, mB_sA, mB_sB, mB_sR, mR_sI, mR_sJ, mR_sA, mR_sB, mR_sR, a0, false_and, if_false, true_and, and_self, if_true]
      try simp (disch := omega) only [reduceCtorEq, Nat.reduceEqDiff, and_false, if_false, and_self, if_true]
      exact h3
    · simp only [mI_sI, mI_sJ, mI_sA, mI_sB, mI_sR, mJ_sI, mJ_sJ, mJ_sA, mJ_sB, mJ_sR, mA_sI, mA_sJ, mA_sA, mA_sB, mA_sR, mB_sI, mB_sJ, mB_sA, mB_sB, mB_sR, mR_sI, mR_sJ, mR_sA, mR_sB, mR_sR, a0, false_and, if_false, true_and, and_self, if_true]
      try simp (disch := omega) only [reduceCtorEq, Nat.reduceEqDiff, and_false, if_false, and_self, if_true]
      exact h4
    · simp (disch := omega) only [mI_sI, mI_sJ, mI_sA, mI_sB, mI_sR, mJ_sI, mJ_sJ, mJ_sA, mJ_sB, mJ_sR, mA_sI, mA_sJ, mA_sA, mA_sB, mA_sR, mB_sI, mB_sJ, mB_sA, mB_sB, mB_sR, mR_sI, mR_sJ, mR_sA, mR_sB, mR_sR, Nat.add_left_cancel_iff, Nat.reduceEqDiff, e, if_false, if_true]
      rw [show (0 : Int32).toNatClampNeg = 0 from rfl, show (12 : Int32).toNatClampNeg = 12 from rfl, va_cpy0 _ _ (by omega)]
      exact h5 r hr
    · obtain ⟨b1, b2, b3, b4⟩ := h6 r i hr hi
      simp (disch := omega) only [mI_sI, mI_sJ, mI_sA, mI_sB, mI_sR, mJ_sI, mJ_sJ, mJ_sA, mJ_sB, mJ_sR, mA_sI, mA_sJ, mA_sA, mA_sB, mA_sR, mB_sI, mB_sJ, mB_sA, mB_sB, mB_sR, mR_sI, mR_sJ, mR_sA, mR_sB, mR_sR, Nat.add_left_cancel_iff, Nat.reduceEqDiff, e, if_false, if_true]
      rw [show (0 : Int32).toNatClampNeg = 0 from rfl, show (96 : Int32).toNatClampNeg = 96 from rfl]
      rw [va_cpy0 _ _ (by omega), va_cpy0 _ _ (by omega), va_cpy0 _ _ (by omega), va_cpy0 _ _ (by omega)]
      exact ⟨b1, b2, b3, b4⟩
theorem q_tried (hK : KN M s t) (hO : OkC x) (hC : CC M (s + 9) x) : ∃ M', f_KT_tried M = some (t + 9, M') ∧ CC M' (t + 9) x ∧ Fr (inC (t + 9)) M M' := by
  have ha := hK.ap
  obtain ⟨M', b1, b2, b3⟩ := q_Ccopy (c := s + 9) (c2 := t + 9) hO hC (by omega)
  have hK' := hK.fr b3 (fun hz => by have := hz.1; omega)
  refine ⟨M', ?_, b2, b3⟩
  rw [f_KT_tried]
  simp only [z_bd, z_gd, hK.1, hK.2.1, hK.s1, hK.s2, b1, z_cal, hK'.2.1]
theorem trial_ap (hK : KN M s t) : (∀ id, s ≤ id → id ≤ s + 19 → ¬ inC (t + 9) id) ∧ ¬ inC (t + 9) 0 ∧ isCloth (t + 9) = true := by
  have ha := hK.ap
  refine ⟨fun id h1 h2 hz => ?_, fun hz => ?_, lD_State_cloth hK.s2⟩
  · have := hz.1; have := hz.2; omega
  · have := hz.1; omega
/-! what is lost -/
theorem yearU_wY (x : Cl) (n : Nat) : yearU (wY x n) = yearU x := ladders_wY (wU (wN x (newN x)) (newU x)) n _
theorem yearX_wY (x : Cl) (n : Nat) : yearX (wY x n) = wY (yearX x) n := by
  show wU (wN (wY x n) (newN (wY x n))) (yearU (wY x n)).1 = _
  rw [yearU_wY]
  rfl
theorem wY_wY (x : Cl) (n m : Nat) : wY (wY x n) m = wY x m := rfl
theorem yrs_wY : ∀ (m : Nat) (x : Cl) (n : Nat), yrs (wY x n) m = (wY (yrs x m).1 n, (yrs x m).2)
  | 0, _, _ => rfl
  | m + 1, x, n => by
    show ((yrs (yearX (wY x n)) m).1, (yearU (wY x n)).2 + (yrs (yearX (wY x n)) m).2) = _
    rw [yearX_wY, yearU_wY, yrs_wY m (yearX x) n]
    rfl
theorem OkC_Y {n : Nat} (hO : OkC x) (hn : n ≤ 20000) : OkC (wY x n) := ⟨hO.1, hO.2.1, hO.2.2.1, hn, hO.2.2.2.2⟩
def lostF (y : De) (k : Nat) : Nat → Nat → Cl → Option Nat
  | 0, _, _ => none
  | m + 1, t, x => if sdAny x y k = false then some t else lostF y k m (t + 1) (yearX x)
theorem lostF_still (hO : OkC x) {k : Nat} (h1 : anyLs x = false) (h2 : sdAny x y k = true) : ∀ m t, lostF y k m t x = none
  | 0, _ => rfl
  | m + 1, t => by
    show (if sdAny x y k = false then some t else lostF y k m (t + 1) (yearX x)) = none
    rw [h2, (year_still hO h1).1, lostF_still hO h1 h2 m (t + 1)]
    rfl
theorem lostF_lt {k : Nat} : ∀ (m t : Nat) (x : Cl) (r : Nat), lostF y k m t x = some r → r < t + m
  | 0, _, _, _, h => by cases h
  | m + 1, t, x, r, h => by
    unfold lostF at h
    split at h
    · cases h; omega
    · have := lostF_lt m (t + 1) (yearX x) r h
      omega
theorem OkD_W {x' : Cl} (h : cW x' = cW x) (hP : OkD (cW x) y) : OkD (cW x') y := by rw [h]; exact hP
theorem q_lost_l29 (hP : OkD (cW x) y) {k : Nat} (hk : k < dC y) :
    ∀ (m n i : Nat) (M : kx_M) (z : Cl), i + m = 100 → m < n → OkC z → cW z = cW x → KN M s t → CC M (t + 9) z → CD M (s + 1) y →
    ∃ M', f_KT_lost_l29 (nI k) n (t + 9) (nI i) M = some (match lostF y k m i z with | some r => nI r | none => -1, M') ∧ Fr (inC (t + 9)) (match lostF y k m i z with | some _ => M | none => sI M 0 13 (nI 8)) M' := by
  intro m
  induction m with
  | zero =>
    intro n i M z hi hn hO hW hK hC hD
    obtain ⟨n, rfl, hn⟩ := z_succ hn
    obtain rfl : i = 100 := by omega
    refine ⟨_, ?_, Fr.rf⟩
    rw [f_KT_lost_l29]
    simp (disch := first | assumption | omega) only [z_bd, z_cal, z_gd, z_iT, z_iF, z_le_t, z_le_f, z_lt_t, z_lt_f, z_cl, z_inb, z_at, z_pl, nI_lit, nI_ii1, nI_add, z_mr]
    rfl
  | succ m ih =>
    intro n i M z hi hn hO hW hK hC hD
    obtain ⟨n, rfl, hn⟩ := z_succ hn
    have hs := q_saysAny hO hC (OkD_W hW hP) hD hk
    have hl := q_anyLs hO hC
    obtain ⟨ta, t0, tc⟩ := trial_ap hK
    rw [f_KT_lost_l29]
    cases h1 : sdAny z y k
    · rw [h1, b2i_f] at hs
      have e1 : lostF y k (m + 1) i z = some i := if_pos h1
      rw [e1]
      refine ⟨M, ?_, Fr.rf⟩
      simp (disch := first | assumption | omega) only [z_bd, z_cal, z_gd, z_iT, z_iF, z_le_t, z_le_f, z_lt_t, z_lt_f, z_cl, z_inb, z_at, z_pl, nI_lit, nI_ii1, nI_add, z_mr, hK.1, hK.s1, hs]
    · rw [h1, b2i_t] at hs
      cases h2 : anyLs z
      · rw [h2, b2i_f] at hl
        rw [lostF_still hO h2 h1]
        refine ⟨_, ?_, Fr.rf⟩
        simp (disch := first | assumption | omega) only [z_bd, z_cal, z_gd, z_iT, z_iF, z_le_t, z_le_f, z_lt_t, z_lt_f, z_cl, z_inb, z_at, z_pl, nI_lit, nI_ii1, nI_add, z_mr, hK.1, hK.s1, hs, z_eq_f, hl]
      · rw [h2, b2i_t] at hl
        obtain ⟨M1, a1, a2, a3⟩ := q_year hO hC
        have e1 : lostF y k (m + 1) i z = lostF y k m (i + 1) (yearX z) := if_neg (by rw [h1]; decide)
        obtain ⟨M2, b1, b2⟩ := ih n (i + 1) M1 (yearX z) (by omega) (by omega) (OkC_year hO) hW (hK.fr a3 t0) a2 (CD_fr a3 (fun id g1 g2 => ta id (by omega) (by omega)) hD)
        rw [e1]
        refine ⟨M2, ?_, ?_⟩
        · simp (disch := first | assumption | omega) only [z_bd, z_cal, z_gd, z_iT, z_iF, z_le_t, z_le_f, z_lt_t, z_lt_f, z_cl, z_inb, z_at, z_pl, nI_lit, nI_ii1, nI_add, z_mr, hK.1, hK.s1, hs, z_eq_f, hl, a1]
          exact b1
        · cases h3 : lostF y k m (i + 1) (yearX z)
          · rw [h3] at b2
            refine Fr.tr ?_ b2
            intro id hid
            obtain ⟨f1, f2, f3, f4, f5⟩ := a3 id hid
            refine ⟨fun q => ?_, f2, f3, f4, f5⟩
            rw [mI_sI, mI_sI, f1]
          · rw [h3] at b2
            exact a3.tr b2
end
/-! the reference: laid aside and given back -/
section
variable {M : kx_M} {s t : Nat} {x : Cl} {y : De} {h : Nat → Int64}
def FrK (M M' : kx_M) : Prop := Fr (fun id => id = 141) M M'
theorem q_keeps_l2 : ∀ (m n i : Nat) (M : kx_M), i + m = 496 → m < n → (∀ k, k < i → mA M 141 k = mA M 140 k) → ∃ M', f_RM_keeps_l2 n (nI i) M = some ((), M') ∧ FrK M M' ∧ ∀ k, k < 496 → mA M' 141 k = mA M 140 k := by
  intro m
  induction m with
  | zero =>
    intro n i M hi hn hk
    obtain ⟨n, rfl, hn⟩ := z_succ hn
    obtain rfl : i = 496 := by omega
    refine ⟨M, ?_, Fr.rf, hk⟩
    rw [f_RM_keeps_l2]
    simp (disch := first | assumption | omega) only [z_bd, z_cal, z_gd, z_iT, z_iF, z_le_t, z_le_f, z_lt_t, z_lt_f, z_cl, z_inb, z_at, z_pl, nI_lit, nI_ii1, nI_add, nI_mul]
  | succ m ih =>
    intro n i M hi hn hk
    obtain ⟨n, rfl, hn⟩ := z_succ hn
    obtain ⟨M', b1, b2, b3⟩ := ih n (i + 1) (sA M 141 (upd (mA M 141) i (mA M 140 i))) (by omega) (by omega) (fun k hk1 => by
      rw [mA_sA, if_pos rfl, mA_sA, if_neg (by decide), upd_at]
      split
      · rename_i e; rw [e]
      · exact hk k (by omega))
    refine ⟨M', ?_, Fr.tr (Fr.sA rfl) b2, fun k hk1 => ?_⟩
    · rw [f_RM_keeps_l2]
      simp (disch := first | assumption | omega) only [z_bd, z_cal, z_gd, z_iT, z_iF, z_le_t, z_le_f, z_lt_t, z_lt_f, z_cl, z_inb, z_at, z_pl, nI_lit, nI_ii1, nI_add, nI_mul]
      exact b1
    · rw [b3 k hk1, mA_sA, if_neg (by decide)]
theorem q_keeps (M : kx_M) : ∃ M', f_RM_keeps M = some ((), M') ∧ FrK M M' ∧ ∀ k, k < 496 → mA M' 141 k = mA M 140 k :=
  q_keeps_l2 496 FU 0 M (by omega) (FU_lt (by omega)) (fun k hk => absurd hk (by omega))
theorem q_gives_l2 : ∀ (m n i : Nat) (M : kx_M), i + m = 496 → m < n → (∀ k, k < i → mA M 140 k = mA M 141 k) → ∃ M', f_RM_gives_l2 n (nI i) M = some ((), M') ∧ Fr (fun id => id = 140) M M' ∧ (∀ k, k < 496 → mA M' 140 k = mA M 141 k) ∧ ∀ k, 496 ≤ k → mA M' 140 k = mA M 140 k := by
  intro m
  induction m with
  | zero =>
    intro n i M hi hn hk
    obtain ⟨n, rfl, hn⟩ := z_succ hn
    obtain rfl : i = 496 := by omega
    refine ⟨M, ?_, Fr.rf, hk, fun _ _ => rfl⟩
    rw [f_RM_gives_l2]
    simp (disch := first | assumption | omega) only [z_bd, z_cal, z_gd, z_iT, z_iF, z_le_t, z_le_f, z_lt_t, z_lt_f, z_cl, z_inb, z_at, z_pl, nI_lit, nI_ii1, nI_add, nI_mul]
  | succ m ih =>
    intro n i M hi hn hk
    obtain ⟨n, rfl, hn⟩ := z_succ hn
    obtain ⟨M', b1, b2, b3, b4⟩ := ih n (i + 1) (sA M 140 (upd (mA M 140) i (mA M 141 i))) (by omega) (by omega) (fun k hk1 => by
      rw [mA_sA, if_pos rfl, mA_sA, if_neg (by decide), upd_at]
      split
      · rename_i e; rw [e]
      · exact hk k (by omega))
    refine ⟨M', ?_, Fr.tr (Fr.sA rfl) b2, fun k hk1 => ?_, fun k hk1 => ?_⟩
    · rw [f_RM_gives_l2]
      simp (disch := first | assumption | omega) only [z_bd, z_cal, z_gd, z_iT, z_iF, z_le_t, z_le_f, z_lt_t, z_lt_f, z_cl, z_inb, z_at, z_pl, nI_lit, nI_ii1, nI_add, nI_mul]
      exact b1
    · rw [b3 k hk1, mA_sA, if_neg (by decide)]
    · rw [b4 k hk1, mA_sA, if_pos rfl, upd_at, if_neg (by omega)]
/-- M' has all of M but what is laid aside and the wears -/
def FrA (M M' : kx_M) : Prop := Fr (fun id => id = 140 ∨ id = 141 ∨ id = 144) M M' ∧ mA M' 140 = mA M 140
theorem FrA.rf {M : kx_M} : FrA M M := ⟨Fr.rf, rfl⟩
theorem FrA.tr {A B C : kx_M} (h : FrA A B) (g : FrA B C) : FrA A C := ⟨h.1.tr g.1, g.2.trans h.2⟩
/-- kept, changed in the cloth alone, given back: all is as it was -/
theorem q_gives {M0 M1 M2 : kx_M} (h1 : FrK M0 M1) (hk : ∀ k, k < 496 → mA M1 141 k = mA M0 140 k) (h2 : FrM M1 M2) : ∃ M3, f_RM_gives M2 = some ((), M3) ∧ FrA M0 M3 := by
  obtain ⟨M3, b1, b2, b3, b4⟩ := q_gives_l2 496 FU 0 M2 (by omega) (FU_lt (by omega)) (fun k hk => absurd hk (by omega))
  refine ⟨M3, b1, ?_⟩
  have e141 : mA M2 141 = mA M1 141 := (h2.1 141 (by decide)).2.2.1
  have e140 : mA M1 140 = mA M0 140 := (h1 140 (by decide)).2.2.1
  have eA : mA M3 140 = mA M0 140 := funext fun k => by
    by_cases hk1 : k < 496
    · rw [b3 k hk1, e141, hk k hk1]
    · rw [b4 k (by omega), h2.2 k (by omega) (by omega), e140]
  exact ⟨((h1.mono (fun id e => Or.inr (Or.inl e))).tr (h2.1.mono (fun id e => e.elim Or.inl (fun e => Or.inr (Or.inr e))))).tr (b2.mono (fun id e => Or.inl e)), eA⟩
/-! the reference: what is lost -/
theorem lostF_wY {k : Nat} : ∀ (m t : Nat) (z : Cl) (n : Nat), lostF y k m t (wY z n) = lostF y k m t z
  | 0, _, _, _ => rfl
  | m + 1, t, z, n => by
    show (if sdAny (wY z n) y k = false then some t else lostF y k m (t + 1) (yearX (wY z n))) = _
    rw [yearX_wY, lostF_wY m (t + 1) (yearX z) n]
    rfl
theorem q_losing_l8 (hP : OkD (cW x) y) {k : Nat} (hk : k < dC y) {M0 M1 : kx_M} (h1 : FrK M0 M1) (hkk : ∀ k, k < 496 → mA M1 141 k = mA M0 140 k) :
    ∀ (m n i : Nat) (M : kx_M) (z : Cl), i + m = 100 → m < n → OkC z → cW z = cW x → cY z ≤ 10000 + i → MC (mA M 140) z → MD (mA M 140) h y → FrM M1 M →
    ∃ M', f_RM_losing_l8 (nI k) n (-1) (nI i) M = some (match lostF y k m i z with | some r => nI r | none => -1, M') ∧ FrA M0 M' := by
  intro m
  induction m with
  | zero =>
    intro n i M z hi hn hO hW hY hC hD hF
    obtain ⟨n, rfl, hn⟩ := z_succ hn
    obtain rfl : i = 100 := by omega
    obtain ⟨M3, g1, g2⟩ := q_gives h1 hkk hF
    refine ⟨M3, ?_, g2⟩
    rw [f_RM_losing_l8]
    simp (disch := first | assumption | omega) only [z_bd, z_cal, z_gd, z_iT, z_iF, z_le_t, z_le_f, z_lt_t, z_lt_f, z_cl, z_inb, z_at, z_pl, nI_lit, nI_ii1, nI_add, nI_mul, g1]
    rfl
  | succ m ih =>
    intro n i M z hi hn hO hW hY hC hD hF
    obtain ⟨n, rfl, hn⟩ := z_succ hn
    have hs := q_times hO hC (OkD_W hW hP) hD hk
    have sl := sayN_le hO y k
    obtain ⟨M2, a1, a2, a3⟩ := q_goesYear hO (by omega) hC
    have hO2 : OkC (wY (yearX z) (cY z + 1)) := OkC_Y (OkC_year hO) (by omega)
    have hD2 := MD_frM (OkD_W hW hP) a3 hD
    rw [f_RM_losing_l8, if_neg (show ¬ (0 : Int32) ≤ -1 by decide)]
    by_cases h2 : sdAny z y k = false
    · have e1 : lostF y k (m + 1) i z = some i := if_pos h2
      have h0 : sayN z y k = 0 := by
        have := of_decide_eq_false h2
        omega
      rw [e1]
      obtain ⟨M3, g1, g2⟩ := q_gives h1 hkk (hF.tr a3)
      refine ⟨M3, ?_, g2⟩
      obtain ⟨n', hn'⟩ : ∃ n', n = n' + 1 := ⟨n - 1, by omega⟩
      subst hn'
      have hlast : f_RM_losing_l8 (nI k) (n' + 1) (nI i) (nI (i + 1)) M2 = some (nI i, M3) := by
        rw [f_RM_losing_l8, if_pos (show (0 : Int32) ≤ nI i from nI_pos' (by omega))]
        by_cases h9 : 99 < i + 1
        · simp (disch := first | assumption | omega) only [z_bd, z_cal, z_gd, z_iT, z_iF, z_le_t, z_le_f, z_lt_t, z_lt_f, z_cl, z_inb, z_at, z_pl, nI_lit, nI_ii1, nI_add, nI_mul, g1]
        · simp (disch := first | assumption | omega) only [z_bd, z_cal, z_gd, z_iT, z_iF, z_le_t, z_le_f, z_lt_t, z_lt_f, z_cl, z_inb, z_at, z_pl, nI_lit, nI_ii1, nI_add, nI_mul, g1]
      simp (disch := first | assumption | omega) only [z_bd, z_cal, z_gd, z_iT, z_iF, z_le_t, z_le_f, z_lt_t, z_lt_f, z_cl, z_inb, z_at, z_pl, nI_lit, nI_ii1, nI_add, nI_mul, hs, h0, a1]
      exact hlast
    · have e1 : lostF y k (m + 1) i z = lostF y k m (i + 1) (yearX z) := if_neg h2
      have h0 : sayN z y k ≠ 0 := by
        intro e
        exact h2 (decide_eq_false (by omega))
      rw [e1]
      obtain ⟨M3, g1, g2⟩ := ih n (i + 1) M2 (wY (yearX z) (cY z + 1)) (by omega) (by omega) hO2 hW (by show cY z + 1 ≤ _; omega) a2 hD2 (hF.tr a3)
      rw [lostF_wY] at g1
      refine ⟨M3, ?_, g2⟩
      simp (disch := first | assumption | omega) only [z_bd, z_cal, z_gd, z_iT, z_iF, z_le_t, z_le_f, z_lt_t, z_lt_f, z_cl, z_inb, z_at, z_pl, nI_lit, nI_ii1, nI_add, nI_mul, hs, z_eq_f, a1]
      exact g1
def lostN (x : Cl) (y : De) (k : Nat) : Option Nat := lostF y k 100 0 x
theorem q_losing (hO : OkC x) (hY : cY x ≤ 9999) (hC : MC (mA M 140) x) (hP : OkD (cW x) y) (hD : MD (mA M 140) h y) {k : Nat} (hk : k < dC y) :
    ∃ M', f_RM_losing (nI k) M = some (match lostN x y k with | some r => nI r | none => -1, M') ∧ FrA M M' := by
  obtain ⟨M1, a1, a2, a3⟩ := q_keeps M
  have e140 : mA M1 140 = mA M 140 := (a2 140 (by decide)).2.2.1
  obtain ⟨M', b1, b2⟩ := q_losing_l8 (M0 := M) (M1 := M1) hP hk a2 a3 100 FU 0 M1 x (by omega) (FU_lt (by omega)) hO rfl (by omega) (by rw [e140]; exact hC) (by rw [e140]; exact hD) FrM.rf
  refine ⟨M', ?_, b2⟩
  rw [f_RM_losing]
  simp (disch := first | assumption | omega) only [z_bd, z_cal, z_gd, z_iT, z_iF, z_le_t, z_le_f, z_lt_t, z_lt_f, z_cl, z_inb, z_at, z_pl, nI_lit, nI_ii1, nI_add, nI_mul, a1]
  exact b1
/-! years gone by, one after another -/
theorem yrs_succ : ∀ (m : Nat) (x : Cl), yrs x (m + 1) = (yearX (yrs x m).1, (yrs x m).2 + (yearU (yrs x m).1).2)
  | 0, x => by
    show (yearX x, (yearU x).2 + 0) = (yearX x, 0 + (yearU x).2)
    rw [Nat.add_zero, Nat.zero_add]
  | m + 1, x => by
    show ((yrs (yearX x) (m + 1)).1, (yearU x).2 + (yrs (yearX x) (m + 1)).2) = (yearX (yrs (yearX x) m).1, (yearU x).2 + (yrs (yearX x) m).2 + (yearU (yrs (yearX x) m).1).2)
    rw [yrs_succ m (yearX x), Nat.add_assoc]
/-- the state of the reference's cloth behind m years -/
def yrM (x : Cl) (m : Nat) : Cl := wY (yrs x m).1 (cY x + m)
theorem OkC_yrM (hO : OkC x) {m : Nat} (h : cY x + m ≤ 20000) : OkC (yrM x m) := OkC_Y (OkC_yrs m hO) h
theorem q_goesM (hO : OkC x) {m : Nat} (h : cY x + m < 19000) (hC : MC (mA M 140) (yrM x m)) : ∃ M', f_RM_goesYear M = some (nI (yearU (yrs x m).1).2, M') ∧ MC (mA M' 140) (yrM x (m + 1)) ∧ FrM M M' := by
  obtain ⟨M', a1, a2, a3⟩ := q_goesYear (OkC_yrM hO (by omega)) (show cY (yrM x m) < 19000 from h) hC
  have e1 : yearU (yrM x m) = yearU (yrs x m).1 := yearU_wY _ _
  have e2 : wY (yearX (yrM x m)) (cY (yrM x m) + 1) = yrM x (m + 1) := by
    unfold yrM
    rw [yearX_wY, yrs_succ]
    rfl
  rw [e1] at a1
  rw [e2] at a2
  exact ⟨M', a1, a2, a3⟩
theorem q_Myear_l53 (hO : OkC x) {N : Nat} (hN : N ≤ 99) (hY : cY x + N ≤ 10200) :
    ∀ (m n i : Nat) (M : kx_M), i + m = N → m < n → MC (mA M 140) (yrM x i) → ∃ M', f_RM_year_l53 (nI N) n (nI (yrs x i).2) (nI i) M = some (nI (yrs x N).2, M') ∧ MC (mA M' 140) (yrM x N) ∧ FrM M M' := by
  intro m
  induction m with
  | zero =>
    intro n i M hi hn hC
    obtain ⟨n, rfl, hn⟩ := z_succ hn
    obtain rfl : i = N := by omega
    refine ⟨M, ?_, hC, FrM.rf⟩
    rw [f_RM_year_l53]
    simp (disch := first | assumption | omega) only [z_bd, z_cal, z_gd, z_iT, z_iF, z_le_t, z_le_f, z_lt_t, z_lt_f, z_cl, z_inb, z_at, z_pl, nI_lit, nI_ii1, nI_add, nI_mul]
  | succ m ih =>
    intro n i M hi hn hC
    obtain ⟨n, rfl, hn⟩ := z_succ hn
    obtain ⟨M1, a1, a2, a3⟩ := q_goesM hO (by omega) hC
    obtain ⟨M2, b1, b2, b3⟩ := ih n (i + 1) M1 (by omega) (by omega) a2
    refine ⟨M2, ?_, b2, a3.tr b3⟩
    rw [yrs_succ] at b1
    rw [f_RM_year_l53]
    simp (disch := first | assumption | omega) only [z_bd, z_cal, z_gd, z_iT, z_iF, z_le_t, z_le_f, z_lt_t, z_lt_f, z_cl, z_inb, z_at, z_pl, nI_lit, nI_ii1, nI_add, nI_mul, a1]
    exact b1
theorem q_MundoneIn_l34 (hO : OkC x) {N : Nat} (hN : N ≤ 99) (hY : cY x + N ≤ 10200) {M0 M1 : kx_M} (h1 : FrK M0 M1) (hkk : ∀ k, k < 496 → mA M1 141 k = mA M0 140 k) :
    ∀ (m n i : Nat) (M : kx_M), i + m = N → m < n → MC (mA M 140) (yrM x i) → FrM M1 M → ∃ M', f_RM_undoneIn_l34 (nI N) n (nI i) M = some (nI (sumRC (cU (yrs x N).1) (cW x) (cR x)), M') ∧ FrA M0 M' := by
  intro m
  induction m with
  | zero =>
    intro n i M hi hn hC hF
    obtain ⟨n, rfl, hn⟩ := z_succ hn
    obtain rfl : i = N := by omega
    obtain ⟨M3, g1, g2⟩ := q_gives h1 hkk hF
    have hs := q_sumOf (v := 0) (u := cU (yrM x i)) (OkC_yrM hO (by omega)) hC (Or.inl ⟨rfl, rfl⟩)
    have e : sumRC (cU (yrM x i)) (cW (yrM x i)) (cR (yrM x i)) = sumRC (cU (yrs x i).1) (cW x) (cR x) := by
      have e0 := yrs_sh i x
      show sumRC (cU (yrs x i).1) (yrs x i).1.1.1 (yrs x i).1.1.2.2.1 = _
      rw [e0]
      rfl
    rw [e] at hs
    refine ⟨M3, ?_, g2⟩
    rw [f_RM_undoneIn_l34]
    simp (disch := first | assumption | omega) only [z_bd, z_cal, z_gd, z_iT, z_iF, z_le_t, z_le_f, z_lt_t, z_lt_f, z_cl, z_inb, z_at, z_pl, nI_lit, nI_ii1, nI_add, nI_mul, hs, g1]
  | succ m ih =>
    intro n i M hi hn hC hF
    obtain ⟨n, rfl, hn⟩ := z_succ hn
    obtain ⟨M1, a1, a2, a3⟩ := q_goesM hO (by omega) hC
    obtain ⟨M2, b1, b2⟩ := ih n (i + 1) M1 (by omega) (by omega) a2 (hF.tr a3)
    refine ⟨M2, ?_, b2⟩
    rw [f_RM_undoneIn_l34]
    simp (disch := first | assumption | omega) only [z_bd, z_cal, z_gd, z_iT, z_iF, z_le_t, z_le_f, z_lt_t, z_lt_f, z_cl, z_inb, z_at, z_pl, nI_lit, nI_ii1, nI_add, nI_mul, a1]
    exact b1
theorem yrM0 (x : Cl) : yrM x 0 = x := rfl
theorem q_wouldPull (hO : OkC x) (hC : MC (mA M 140) x) {r side : Nat} (hr : r < cR x) (hs : side ≤ 1) : ∃ M', f_RM_wouldPull (nI r) (nI side) M = some (nI (pulU x r side).2, M') ∧ FrA M M' := by
  obtain ⟨M1, a1, a2, a3⟩ := q_keeps M
  have e140 : mA M1 140 = mA M 140 := (a2 140 (by decide)).2.2.1
  obtain ⟨M2, b1, b2, b3⟩ := q_Mpull (M := M1) hO (by rw [e140]; exact hC) hr hs
  obtain ⟨M3, g1, g2⟩ := q_gives a2 a3 b3
  refine ⟨M3, ?_, g2⟩
  rw [f_RM_wouldPull]
  simp (disch := first | assumption | omega) only [z_bd, z_cal, z_gd, z_iT, z_iF, z_le_t, z_le_f, z_lt_t, z_lt_f, z_cl, z_inb, z_at, z_pl, nI_lit, nI_ii1, nI_add, nI_mul, a1, b1, g1]
end
