theorem CC_fr {p : Nat → Prop} {M M' : kx_M} {c : Nat} {x : Cl} (h : Fr p M M') (hp : ∀ id, c ≤ id → id ≤ c + 5 → ¬ p id) (hC : CC M c x) : CC M' c x := by
  obtain ⟨h1, h2, h3, h4, h5, h6⟩ := hC
  have g0 := h c (hp c (by omega) (by omega))
  have g1 := (h (c + 1) (hp _ (by omega) (by omega))).2.2.1
  have g2 := (h (c + 2) (hp _ (by omega) (by omega))).2.2.1
  have g3 := (h (c + 3) (hp _ (by omega) (by omega))).2.2.1
  have g4 := (h (c + 4) (hp _ (by omega) (by omega))).2.2.1
  have g5 := (h (c + 5) (hp _ (by omega) (by omega))).2.2.1
  refine ⟨(g0.1 _).trans h1, (g0.1 _).trans h2, (g0.1 _).trans h3, (g0.1 _).trans h4, ?_, ?_⟩
  · rw [g1]; exact h5
  · rw [g2, g3, g4, g5]; exact h6
theorem CD_fr {p : Nat → Prop} {M M' : kx_M} {d : Nat} {y : De} (h : Fr p M M') (hp : ∀ id, d ≤ id → id ≤ d + 7 → ¬ p id) (hD : CD M d y) : CD M' d y := by
  obtain ⟨h1, h2, h3, h4, h5, h6, h7⟩ := hD
  have g0 := h d (hp d (by omega) (by omega))
  have g1 := (h (d + 1) (hp _ (by omega) (by omega))).2.2.1
  have g2 := (h (d + 2) (hp _ (by omega) (by omega))).2.2.2.1
  have g3 := (h (d + 3) (hp _ (by omega) (by omega))).2.2.2.1
  have g4 := (h (d + 4) (hp _ (by omega) (by omega))).2.2.1
  have g5 := (h (d + 5) (hp _ (by omega) (by omega))).2.2.1
  have g6 := (h (d + 6) (hp _ (by omega) (by omega))).2.2.1
  have g7 := (h (d + 7) (hp _ (by omega) (by omega))).2.2.1
  refine ⟨(g0.1 _).trans h1, (g0.1 _).trans h2, ?_, ?_, ?_, ?_, ?_⟩
  · rw [g1, g2]; exact h3
  · rw [g3, g4]; exact h4
  · rw [g5]; exact h5
  · rw [g6]; exact h6
  · rw [g7]; exact h7
/-- which state is now, which one is for trying -/
def KN (M : kx_M) (s t : Nat) : Prop := mR M 0 9 = s ∧ mR M 0 10 = t ∧ (s = 27 ∧ t = 47 ∨ s = 47 ∧ t = 27)
theorem KN.s1 {M : kx_M} {s t : Nat} (h : KN M s t) : isState s = true := by rcases h.2.2 with ⟨rfl, rfl⟩ | ⟨rfl, rfl⟩ <;> rfl
theorem KN.s2 {M : kx_M} {s t : Nat} (h : KN M s t) : isState t = true := by rcases h.2.2 with ⟨rfl, rfl⟩ | ⟨rfl, rfl⟩ <;> rfl
theorem KN.ap {M : kx_M} {s t : Nat} (h : KN M s t) : 27 ≤ s ∧ 27 ≤ t ∧ s ≤ 47 ∧ t ≤ 47 ∧ (s + 20 ≤ t ∨ t + 20 ≤ s) := by rcases h.2.2 with ⟨rfl, rfl⟩ | ⟨rfl, rfl⟩ <;> omega
theorem KN.fr {p : Nat → Prop} {M M' : kx_M} {s t : Nat} (h : KN M s t) (hF : Fr p M M') (h0 : ¬ p 0) : KN M' s t := ⟨((hF 0 h0).2.2.2.2 9).trans h.1, ((hF 0 h0).2.2.2.2 10).trans h.2.1, h.2.2⟩
theorem va_cpy0 {α : Type} (f g : Nat → α) {n k : Nat} (h : k < n) : va_cpy f g 0 0 n k = f k := by
  unfold va_cpy
  rw [if_pos (by omega)]
  congr 1
  omega
section
variable {M : kx_M} {s t : Nat} {x : Cl} {y : De} {h : Nat → Int64}
theorem q_Ccopy {c c2 : Nat} (hO : OkC x) (hC : CC M c x) (ha : c2 + 5 < c ∨ c + 5 < c2) : ∃ M', f_Cloth_copyFrom c2 c M = some ((), M') ∧ CC M' c2 x ∧ Fr (inC c2) M M' := by
  obtain ⟨h1, h2, h3, h4, h5, h6⟩ := hC
  have w2 := hO.1.2
  have w3 := hO.2.2.1
  have i0 : inC c2 c2 := ⟨by omega, by omega⟩
  have i1 : inC c2 (c2 + 1) := ⟨by omega, by omega⟩
  have i2 : inC c2 (c2 + 2) := ⟨by omega, by omega⟩
  have i3 : inC c2 (c2 + 3) := ⟨by omega, by omega⟩
  have i4 : inC c2 (c2 + 4) := ⟨by omega, by omega⟩
  have i5 : inC c2 (c2 + 5) := ⟨by omega, by omega⟩
  have a0 : ¬ c = c2 := by omega
  have a1 : ¬ c + 1 = c2 + 1 := by omega
  have e : ∀ a b, a ≤ 5 → b ≤ 5 → ¬ c + a = c2 + b := by intro a b _ _; omega
  refine ⟨_, rfl, ?_, ((((((((Fr.sI i0).tr (Fr.sI i0)).tr (Fr.sI i0)).tr (Fr.sI i0)).tr (Fr.sA i1)).tr (Fr.sA i2)).tr (Fr.sA i3)).tr (Fr.sA i4)).tr (Fr.sA i5)⟩
  · refine ⟨?_, ?_, ?_, ?_, fun r hr => ?_, fun r i hr hi => ?_⟩
    · simp only [mI_sI, mI_sJ, mI_sA, mI_sB, mI_sR, mJ_sI, mJ_sJ, mJ_sA, mJ_sB, mJ_sR, mA_sI, mA_sJ, mA_sA, mA_sB, mA_sR, mB_sI, mB_sJ, mB_sA, mB_sB, mB_sR, mR_sI, mR_sJ, mR_sA, mR_sB, mR_sR, a0, false_and, if_false, true_and, and_self, if_true]
      try simp (disch := omega) only [reduceCtorEq, Nat.reduceEqDiff, and_false, if_false, and_self, if_true]
      exact h1
    · simp only [mI_sI, mI_sJ, mI_sA, mI_sB, mI_sR, mJ_sI, mJ_sJ, mJ_sA, mJ_sB, mJ_sR, mA_sI, mA_sJ, mA_sA, mA_sB, mA_sR, mB_sI, mB_sJ, mB_sA, mB_sB, mB_sR, mR_sI, mR_sJ, mR_sA, mR_sB, mR_sR, a0, false_and, if_false, true_and, and_self, if_true]
      try simp (disch := omega) only [reduceCtorEq, Nat.reduceEqDiff, and_false, if_false, and_self, if_true]
      exact h2
    · simp only [mI_sI, mI_sJ, mI_sA, mI_sB, mI_sR, mJ_sI, mJ_sJ, mJ_sA, mJ_sB, mJ_sR, mA_sI, mA_sJ, mA_sA, mA_sB, mA_sR, mB_sI, mB_sJ, mB_sA, mB_sB, mB_sR, mR_sI, mR_sJ, mR_sA, mR_sB, mR_sR, a0, false_and, if_false, true_and, and_self, if_true]
      try simp (disch := omega) only [reduceCtorEq, Nat.reduceEqDiff, and_false, if_false, and_self, if_true]
      exact h3
    · simp only [mI_sI, mI_sJ, mI_sA, mI_sB, mI_sR, mJ_sI, mJ_sJ, mJ_sA, mJ_sB, mJ_sR, mA_sI, mA_sJ, mA_sA, mA_sB, mA_sR, mB_sI, mB_sJ, mB_sA, mB_sB, mB_sR, mR_sI, mR_sJ, mR_sA, mR_sB, mR_sR, a0, false_and, if_false, true_and, and_self, if_true]
      try simp (disch := omega) only [reduceCtorEq, Nat.reduceEqDiff, and_false, if_false, and_self, if_true]
      exact h4
    · simp (disch := omega) only [mI_sI, mI_sJ, mI_sA, mI_sB, mI_sR, mJ_sI, mJ_sJ, mJ_sA, mJ_sB, mJ_sR, mA_sI, mA_sJ, mA_sA, mA_sB, mA_sR, mB_sI, mB_sJ, mB_sA, mB_sB, mB_sR, mR_sI, mR_sJ, mR_sA, mR_sB, mR_sR, Nat.add_left_cancel_iff, Nat.reduceEqDiff, e, if_false, if_true]
      rw [show (0 : Int32).toNatClampNeg = 0 from rfl, show (12 : Int32).toNatClampNeg = 12 from rfl, va_cpy0 _ _ (by omega)]
      exact h5 r hr
    · obtain ⟨b1, b2, b3, b4⟩ := h6 r i hr hi
      simp (disch := omega) only [mI_sI, mI_sJ, mI_sA, mI_sB, mI_sR, mJ_sI, mJ_sJ, mJ_sA, mJ_sB, mJ_sR, mA_sI, mA_sJ, mA_sA, mA_sB, mA_sR, mB_sI, mB_sJ, mB_sA, mB_sB, mB_sR, mR_sI, mR_sJ, mR_sA, mR_sB, mR_sR, Nat.add_left_cancel_iff, Nat.reduceEqDiff, e, if_false, if_true]
      rw [show (0 : Int32).toNatClampNeg = 0 from rfl, show (96 : Int32).toNatClampNeg = 96 from rfl]
      rw [va_cpy0 _ _ (by omega), va_cpy0 _ _ (by omega), va_cpy0 _ _ (by omega), va_cpy0 _ _ (by omega)]
      exact ⟨b1, b2, b3, b4⟩
theorem q_tried (hK : KN M s t) (hO : OkC x) (hC : CC M (s + 9) x) : ∃ M', f_KT_tried M = some (t + 9, M') ∧ CC M' (t + 9) x ∧ Fr (inC (t + 9)) M M' := by
  have ha := hK.ap
  obtain ⟨M', b1, b2, b3⟩ := q_Ccopy (c := s + 9) (c2 := t + 9) hO hC (by omega)
  have hK' := hK.fr b3 (fun hz => by have := hz.1; omega)
  refine ⟨M', ?_, b2, b3⟩
  rw [f_KT_tried]
  simp only [z_bd, z_gd, hK.1, hK.2.1, hK.s1, hK.s2, b1, z_cal, hK'.2.1]
theorem trial_ap (hK : KN M s t) : (∀ id, s ≤ id → id ≤ s + 19 → ¬ inC (t + 9) id) ∧ ¬ inC (t + 9) 0 ∧ isCloth (t + 9) = true := by
  have ha := hK.ap
  refine ⟨fun id h1 h2 hz => ?_, fun hz => ?_, lD_State_cloth hK.s2⟩
  · have := hz.1; have := hz.2; omega
  · have := hz.1; omega
theorem OkC_Y {n : Nat} (hO : OkC x) (hn : n ≤ 20000) : OkC (wY x n) := ⟨hO.1, hO.2.1, hO.2.2.1, hn, hO.2.2.2.2⟩
def lostF (y : De) (k : Nat) : Nat → Nat → Cl → Option Nat
  | 0, _, _ => none
  | m + 1, t, x => if sdAny x y k = false then some t else lostF y k m (t + 1) (yearX x)
theorem lostF_still (hO : OkC x) {k : Nat} (h1 : anyLs x = false) (h2 : sdAny x y k = true) : ∀ m t, lostF y k m t x = none
  | 0, _ => rfl
  | m + 1, t => by
    show (if sdAny x y k = false then some t else lostF y k m (t + 1) (yearX x)) = none
    rw [h2, (year_still hO h1).1, lostF_still hO h1 h2 m (t + 1)]
    rfl
theorem OkD_W {x' : Cl} (h : cW x' = cW x) (hP : OkD (cW x) y) : OkD (cW x') y := by rw [h]; exact hP
theorem q_lost_l29 (hP : OkD (cW x) y) {k : Nat} (hk : k < dC y) :
    ∀ (m n i : Nat) (M : kx_M) (z : Cl), i + m = 100 → m < n → OkC z → cW z = cW x → KN M s t → CC M (t + 9) z → CD M (s + 1) y →
    ∃ M', f_KT_lost_l29 (nI k) n (t + 9) (nI i) M = some (match lostF y k m i z with | some r => nI r | none => -1, M') ∧ Fr (inC (t + 9)) (match lostF y k m i z with | some _ => M | none => sI M 0 13 (nI 8)) M' := by
  intro m
  induction m with
  | zero =>
    intro n i M z hi hn hO hW hK hC hD
    obtain ⟨n, rfl, hn⟩ := z_succ hn
    obtain rfl : i = 100 := by omega
    refine ⟨_, ?_, Fr.rf⟩
    rw [f_KT_lost_l29]
    simp (disch := first | assumption | omega) only [z_bd, z_cal, z_gd, z_iT, z_iF, z_le_t, z_le_f, z_lt_t, z_lt_f, z_cl, z_inb, z_at, nI_lit, nI_ii1, nI_add, z_mr]
    rfl
  | succ m ih =>
    intro n i M z hi hn hO hW hK hC hD
    obtain ⟨n, rfl, hn⟩ := z_succ hn
    have hs := q_saysAny hO hC (OkD_W hW hP) hD hk
    have hl := q_anyLs hO hC
    obtain ⟨ta, t0, tc⟩ := trial_ap hK
    rw [f_KT_lost_l29]
    cases h1 : sdAny z y k
    · rw [h1, b2i_f] at hs
      have e1 : lostF y k (m + 1) i z = some i := if_pos h1
      rw [e1]
      refine ⟨M, ?_, Fr.rf⟩
      simp (disch := first | assumption | omega) only [z_bd, z_cal, z_gd, z_iT, z_iF, z_le_t, z_le_f, z_lt_t, z_lt_f, z_cl, z_inb, z_at, nI_lit, nI_ii1, nI_add, z_mr, hK.1, hK.s1, hs]
    · rw [h1, b2i_t] at hs
      cases h2 : anyLs z
      · rw [h2, b2i_f] at hl
        rw [lostF_still hO h2 h1]
        refine ⟨_, ?_, Fr.rf⟩
        simp (disch := first | assumption | omega) only [z_bd, z_cal, z_gd, z_iT, z_iF, z_le_t, z_le_f, z_lt_t, z_lt_f, z_cl, z_inb, z_at, nI_lit, nI_ii1, nI_add, z_mr, hK.1, hK.s1, hs, z_eq_f, hl]
      · rw [h2, b2i_t] at hl
        obtain ⟨M1, a1, a2, a3⟩ := q_year hO hC
        have e1 : lostF y k (m + 1) i z = lostF y k m (i + 1) (yearX z) := if_neg (by rw [h1]; decide)
        obtain ⟨M2, b1, b2⟩ := ih n (i + 1) M1 (yearX z) (by omega) (by omega) (OkC_year hO) hW (hK.fr a3 t0) a2 (CD_fr a3 (fun id g1 g2 => ta id (by omega) (by omega)) hD)
        rw [e1]
        refine ⟨M2, ?_, ?_⟩
        · simp (disch := first | assumption | omega) only [z_bd, z_cal, z_gd, z_iT, z_iF, z_le_t, z_le_f, z_lt_t, z_lt_f, z_cl, z_inb, z_at, nI_lit, nI_ii1, nI_add, z_mr, hK.1, hK.s1, hs, z_eq_f, hl, a1]
          exact b1
        · cases h3 : lostF y k m (i + 1) (yearX z)
          · rw [h3] at b2
            refine Fr.tr ?_ b2
            intro id hid
            obtain ⟨f1, f2, f3, f4, f5⟩ := a3 id hid
            refine ⟨fun q => ?_, f2, f3, f4, f5⟩
            rw [mI_sI, mI_sI, f1]
          · rw [h3] at b2
            exact a3.tr b2
end
section
variable {M : kx_M} {s t : Nat} {x : Cl} {y : De} {h : Nat → Int64}
/-- M' has all of M but what is laid aside and the wears -/
def FrA (M M' : kx_M) : Prop := Fr (fun id => id = 140 ∨ id = 141 ∨ id = 144) M M' ∧ mA M' 140 = mA M 140
theorem FrA.rf {M : kx_M} : FrA M M := ⟨Fr.rf, rfl⟩
theorem FrA.tr {A B C : kx_M} (h : FrA A B) (g : FrA B C) : FrA A C := ⟨h.1.tr g.1, g.2.trans h.2⟩
def lostN (x : Cl) (y : De) (k : Nat) : Option Nat := lostF y k 100 0 x
/-- the state of the reference's cloth behind m years -/
def yrM (x : Cl) (m : Nat) : Cl := wY (yrs x m).1 (cY x + m)
theorem OkC_yrM (hO : OkC x) {m : Nat} (h : cY x + m ≤ 20000) : OkC (yrM x m) := OkC_Y (OkC_yrs m hO) h
end
