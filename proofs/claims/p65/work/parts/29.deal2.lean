section
variable {M M' : kx_M} {σ : Sg}
theorem q_noSet (h : IC M σ) (p : Int32) : f_KT_noSet p M = some (b2i (!ix p (2 ^ dC (gY σ))), M) := by
  obtain ⟨s, t, hK, hO, hC, hP, hD⟩ := IC_get (u := gS σ) h
  have w2 := hP.2.1
  have hp := pow6 w2
  have e2 := hD.2.1
  rw [f_KT_noSet]
  cases hx : ix p (2 ^ dC (gY σ))
  · rcases ix_f (by omega) hx with h1 | h1
    · simp (disch := first | assumption | omega) only [z_bd, z_cal, z_gd, z_iT, z_iF, z_le_t, z_le_f, z_lt_t, z_lt_f, z_cl, z_inb, z_at, z_lit, nI_ii1, nI_add, z_mr, z_ref0, z_refn, z_eq_f, Bool.not_true, Bool.not_false, b2i_t, b2i_f, show p < nI 0 from h1]
    · by_cases h3 : p < nI 0
      · simp (disch := first | assumption | omega) only [z_bd, z_cal, z_gd, z_iT, z_iF, z_le_t, z_le_f, z_lt_t, z_lt_f, z_cl, z_inb, z_at, z_lit, nI_ii1, nI_add, z_mr, z_ref0, z_refn, z_eq_f, Bool.not_true, Bool.not_false, b2i_t, b2i_f, h3]
      · simp (disch := first | assumption | omega) only [z_bd, z_cal, z_gd, z_iT, z_iF, z_le_t, z_le_f, z_lt_t, z_lt_f, z_cl, z_inb, z_at, z_lit, nI_ii1, nI_add, z_mr, z_ref0, z_refn, z_eq_f, Bool.not_true, Bool.not_false, b2i_t, b2i_f, hK.1, hK.s1, e2, z_bit (show dC (gY σ) < 31 by omega), h1, h3]
  · obtain ⟨n, hn, rfl⟩ := ix_ex (by omega) hx
    simp (disch := first | assumption | omega) only [z_bd, z_cal, z_gd, z_iT, z_iF, z_le_t, z_le_f, z_lt_t, z_lt_f, z_cl, z_inb, z_at, z_lit, nI_ii1, nI_add, z_mr, z_ref0, z_refn, z_eq_f, Bool.not_true, Bool.not_false, b2i_t, b2i_f, nI_pos0, hK.1, hK.s1, e2, z_bit (show dC (gY σ) < 31 by omega)]
def o_wins (q s : Int32) (σ : Sg) : Int32 × Sg := oG (ix q (dQ (gY σ))) 2 (oG (ix s (2 ^ dC (gY σ))) 5 (gsN (gY σ) q.toNatClampNeg s.toNatClampNeg (dC (gY σ)), wS σ (nI 0)) σ) σ
theorem pC_wins (q s : Int32) : PC (f_KT_wins q s) (o_wins q s) := by
  intro M σ h
  have g1 := q_noQueen h q
  have g2 := q_noSet h s
  rw [f_KT_wins]
  unfold o_wins
  cases hx : ix q (dQ (gY σ))
  · rw [hx] at g1
    refine ⟨_, ?_, IC_st (nI 2) h, Hi_st⟩
    simp (disch := first | assumption | omega) only [z_bd, z_cal, z_gd, z_iT, z_iF, z_le_t, z_le_f, z_lt_t, z_lt_f, z_cl, z_inb, z_at, z_lit, nI_ii1, nI_add, z_mr, z_ref0, z_refn, z_eq_f, Bool.not_true, Bool.not_false, b2i_t, b2i_f, g1, oG, f_KT_wins_l25]
  · rw [hx] at g1
    cases hy : ix s (2 ^ dC (gY σ))
    · rw [hy] at g2
      refine ⟨_, ?_, IC_st (nI 5) h, Hi_st⟩
      simp (disch := first | assumption | omega) only [z_bd, z_cal, z_gd, z_iT, z_iF, z_le_t, z_le_f, z_lt_t, z_lt_f, z_cl, z_inb, z_at, z_lit, nI_ii1, nI_add, z_mr, z_ref0, z_refn, z_eq_f, Bool.not_true, Bool.not_false, b2i_t, b2i_f, g1, g2, oG, f_KT_wins_l25]
    · rw [hy] at g2
      have h1 := IC_st (nI 0) h
      obtain ⟨s1, t, hK, hO, hC, hP, hD⟩ := IC_get h1
      have w1 := hP.1
      have hp := pow6 hP.2.1
      obtain ⟨a, ha, rfl⟩ := ix_ex (by omega) hx
      obtain ⟨b, hb, rfl⟩ := ix_ex (by omega) hy
      have e := q_winOf hP hD ha (show b < 64 by omega)
      refine ⟨_, ?_, h1, Hi_st⟩
      simp (disch := first | assumption | omega) only [z_bd, z_cal, z_gd, z_iT, z_iF, z_le_t, z_le_f, z_lt_t, z_lt_f, z_cl, z_inb, z_at, z_lit, nI_ii1, nI_add, z_mr, z_ref0, z_refn, z_eq_f, Bool.not_true, Bool.not_false, b2i_t, b2i_f, g1, g2, oG, f_KT_wins_l25, hK.1, hK.s1, e]
def o_bargain (σ : Sg) : Int32 × Sg := (nI (bestS (gY σ)), wS σ (nI 0))
theorem pC_bargain : PC f_KT_bargain o_bargain := by
  intro M σ h
  have h1 := IC_st (nI 0) h
  obtain ⟨s1, t, hK, hO, hC, hP, hD⟩ := IC_get h1
  have e := q_bestSet hP hD
  refine ⟨_, ?_, h1, Hi_st⟩
  rw [f_KT_bargain]
  simp (disch := first | assumption | omega) only [z_bd, z_cal, z_gd, z_iT, z_iF, z_le_t, z_le_f, z_lt_t, z_lt_f, z_cl, z_inb, z_at, z_lit, nI_ii1, nI_add, z_mr, z_ref0, z_refn, z_eq_f, Bool.not_true, Bool.not_false, b2i_t, b2i_f, hK.1, hK.s1, e, o_bargain]
def o_bargainWorth (σ : Sg) : Int32 × Sg := (awN (gY σ) (bestS (gY σ)) (dQ (gY σ)), wS σ (nI 0))
theorem bestS_lt {W : Nat} {y : De} (hP : OkD W y) : bestS y < 64 := by
  have hp := pow6 hP.2.1
  have := bsF_lt y (B := 2 ^ dC y) (2 ^ dC y - 1) 1 0 (by omega) (by omega)
  unfold bestS
  omega
theorem pC_bargainWorth : PC f_KT_bargainWorth o_bargainWorth := by
  intro M σ h
  have h1 := IC_st (nI 0) h
  obtain ⟨s1, t, hK, hO, hC, hP, hD⟩ := IC_get h1
  have e := q_bestSet hP hD
  have e2 := q_winAll hP hD (bestS_lt hP)
  refine ⟨_, ?_, h1, Hi_st⟩
  rw [f_KT_bargainWorth]
  simp (disch := first | assumption | omega) only [z_bd, z_cal, z_gd, z_iT, z_iF, z_le_t, z_le_f, z_lt_t, z_lt_f, z_cl, z_inb, z_at, z_lit, nI_ii1, nI_add, z_mr, z_ref0, z_refn, z_eq_f, Bool.not_true, Bool.not_false, b2i_t, b2i_f, hK.1, hK.s1, e, e2, o_bargainWorth]
def o_stable (s : Int32) (σ : Sg) : Int32 × Sg := oG (ix s (2 ^ dC (gY σ))) 5 (b2i (stB (gY σ) s.toNatClampNeg), wS σ (nI 0)) σ
theorem pC_stable (s : Int32) : PC (f_KT_stable s) (o_stable s) := by
  intro M σ h
  have g2 := q_noSet h s
  rw [f_KT_stable]
  unfold o_stable
  cases hy : ix s (2 ^ dC (gY σ))
  · rw [hy] at g2
    refine ⟨_, ?_, IC_st (nI 5) h, Hi_st⟩
    simp (disch := first | assumption | omega) only [z_bd, z_cal, z_gd, z_iT, z_iF, z_le_t, z_le_f, z_lt_t, z_lt_f, z_cl, z_inb, z_at, z_lit, nI_ii1, nI_add, z_mr, z_ref0, z_refn, z_eq_f, Bool.not_true, Bool.not_false, b2i_t, b2i_f, g2, oG, f_KT_stable_l14]
  · rw [hy] at g2
    have h1 := IC_st (nI 0) h
    obtain ⟨s1, t, hK, hO, hC, hP, hD⟩ := IC_get h1
    have hp := pow6 hP.2.1
    obtain ⟨b, hb, rfl⟩ := ix_ex (by omega) hy
    have e := q_fast hP hD (show b < 64 by omega)
    refine ⟨_, ?_, h1, Hi_st⟩
    cases hs : stB (gY σ) b
    · rw [hs] at e
      simp (disch := first | assumption | omega) only [z_bd, z_cal, z_gd, z_iT, z_iF, z_le_t, z_le_f, z_lt_t, z_lt_f, z_cl, z_inb, z_at, z_lit, nI_ii1, nI_add, z_mr, z_ref0, z_refn, z_eq_f, Bool.not_true, Bool.not_false, b2i_t, b2i_f, g2, oG, f_KT_stable_l14, hK.1, hK.s1, e, hs]
    · rw [hs] at e
      simp (disch := first | assumption | omega) only [z_bd, z_cal, z_gd, z_iT, z_iF, z_le_t, z_le_f, z_lt_t, z_lt_f, z_cl, z_inb, z_at, z_lit, nI_ii1, nI_add, z_mr, z_ref0, z_refn, z_eq_f, Bool.not_true, Bool.not_false, b2i_t, b2i_f, g2, oG, f_KT_stable_l14, hK.1, hK.s1, e, hs]
def o_stables (σ : Sg) : Int32 × Sg := (nI (cnt (stB (gY σ)) (2 ^ dC (gY σ))), wS σ (nI 0))
theorem q_stables_l9 {W s t : Nat} {y : De} (hK : KN M s t) (hP : OkD W y) (hD : CD M (s + 1) y) : ∀ (m n i : Nat), i + m = 2 ^ dC y → m < n → f_KT_stables_l9 n (nI (cnt (stB y) i)) (nI i) M = some (nI (cnt (stB y) (2 ^ dC y)), M) := by
  have hp := pow6 hP.2.1
  have w2 := hP.2.1
  have e2 := hD.2.1
  intro m
  induction m with
  | zero =>
    intro n i hi hn
    obtain ⟨n, rfl, hn⟩ := z_succ hn
    obtain rfl : i = 2 ^ dC y := by omega
    rw [f_KT_stables_l9]
    simp (disch := first | assumption | omega) only [z_bd, z_cal, z_gd, z_iT, z_iF, z_le_t, z_le_f, z_lt_t, z_lt_f, z_cl, z_inb, z_at, z_lit, nI_ii1, nI_add, z_mr, z_ref0, z_refn, z_eq_f, Bool.not_true, Bool.not_false, b2i_t, b2i_f, hK.1, hK.s1, e2, z_bit (show dC y < 31 by omega)]
  | succ m ih =>
    intro n i hi hn
    obtain ⟨n, rfl, hn⟩ := z_succ hn
    have e := q_fast hP hD (show i < 64 by omega)
    have h1 := ih n (i + 1) (by omega) (by omega)
    rw [cnt_succ] at h1
    rw [f_KT_stables_l9]
    cases hs : stB y i
    · rw [hs] at e h1
      simp (disch := first | assumption | omega) only [z_bd, z_cal, z_gd, z_iT, z_iF, z_le_t, z_le_f, z_lt_t, z_lt_f, z_cl, z_inb, z_at, z_lit, nI_ii1, nI_add, z_mr, z_ref0, z_refn, z_eq_f, Bool.not_true, Bool.not_false, b2i_t, b2i_f, hK.1, hK.s1, e2, z_bit (show dC y < 31 by omega), e]
      exact h1
    · rw [hs] at e h1
      simp (disch := first | assumption | omega) only [z_bd, z_cal, z_gd, z_iT, z_iF, z_le_t, z_le_f, z_lt_t, z_lt_f, z_cl, z_inb, z_at, z_lit, nI_ii1, nI_add, z_mr, z_ref0, z_refn, z_eq_f, Bool.not_true, Bool.not_false, b2i_t, b2i_f, hK.1, hK.s1, e2, z_bit (show dC y < 31 by omega), e]
      exact h1
theorem pC_stables : PC f_KT_stables o_stables := by
  intro M σ h
  have h1 := IC_st (nI 0) h
  obtain ⟨s1, t, hK, hO, hC, hP, hD⟩ := IC_get h1
  have hp := pow6 hP.2.1
  have e := q_stables_l9 hK hP hD (2 ^ dC (gY σ)) FU 0 (by omega) (FU_lt (by omega))
  refine ⟨_, ?_, h1, Hi_st⟩
  rw [f_KT_stables]
  simp (disch := first | assumption | omega) only [z_bd, z_cal, z_gd, z_iT, z_iF, z_le_t, z_le_f, z_lt_t, z_lt_f, z_cl, z_inb, z_at, z_lit, nI_ii1, nI_add, z_mr, z_ref0, z_refn, z_eq_f, Bool.not_true, Bool.not_false, b2i_t, b2i_f, o_stables]
  exact e
def wdO (y : De) (f : Nat → Nat) : De := (y.1, f, dL y, dK y, dX y, dV y, dN y, dM y)
def wdX (y : De) (f : Nat → Nat) : De := (y.1, dO y, dL y, dK y, f, dV y, dN y, dM y)
def wdV (y : De) (f : Nat → Nat) : De := (y.1, dO y, dL y, dK y, dX y, f, dN y, dM y)
def inDl (d : Nat) : Nat → Prop := fun id => d ≤ id ∧ id ≤ d + 7
theorem CD_O {d q v : Nat} {y : De} (hD : CD M d y) : CD (sA M (d + 1) (upd (mA M (d + 1)) q (nI v))) d (wdO y (updN (dO y) q v)) := by
  obtain ⟨h1, h2, h3, h4, h5, h6, h7⟩ := hD
  refine ⟨h1, h2, fun p hp => ⟨?_, (h3 p hp).2⟩, fun k hk => ⟨(h4 k hk).1, ?_⟩, fun k i hk hi => ?_, fun k i hk hi => ?_, fun w p k hw hp hk => ?_⟩
  · rw [mA_sA, if_pos rfl, upd_at]
    show _ = nI (updN (dO y) q v p)
    unfold updN
    split
    · rfl
    · exact (h3 p hp).1
  · rw [mA_sA, if_neg (by omega)]; exact (h4 k hk).2
  · rw [mA_sA, if_neg (by omega)]; exact h5 k i hk hi
  · rw [mA_sA, if_neg (by omega)]; exact h6 k i hk hi
  · rw [mA_sA, if_neg (by omega)]; exact h7 w p k hw hp hk
theorem IC_deal {s t : Nat} {y : De} (hI : IC M σ) (hK : KN M s t) (hF : Fr (inDl (s + 1)) M M') (hD : CD M' (s + 1) y) (hP : OkD (cW (gX σ)) y) (hC : dC y = dC (gY σ)) : IC M' (wYd σ y) := by
  have hI2 := hI
  obtain ⟨hO, s1, t1, hK1, hS, -⟩ := hI2
  have es : s1 = s := hK1.1.symm.trans hK.1
  subst es
  refine IC_now hI hK (hF.mono (fun id e => by have := e.1; have := e.2; omega)) ⟨CC_fr hF (fun id h1 h2 e => by have := e.2; omega) hS.1, hD, ?_⟩ ⟨hO.1.1, hO.1.2.1, hP, fun e => by show _ ∧ Wel _ (dC y) _ _ _ _ _; rw [hC]; exact hO.1.2.2.2 e⟩
  have hz := CZ_fr hF (fun id h1 h2 e => by have := e.2; omega) hS.2.2
  show CZ M' (s1 + 15) _ (dC y) _
  rw [hC]
  exact hz
theorem OkD_O {W q v : Nat} {y : De} (hP : OkD W y) (hv : v ≤ 999) : OkD W (wdO y (updN (dO y) q v)) := ⟨hP.1, hP.2.1, fun p hp => by
  show updN (dO y) q v p ≤ 999
  unfold updN
  split
  · exact hv
  · exact hP.2.2.1 p hp, hP.2.2.2⟩
def o_shear (q n : Int32) (σ : Sg) : Int32 × Sg := oG (ix q (dQ (gY σ))) 2 (oG (rg n 1 999) 5 (nI (min 999 (dO (gY σ) q.toNatClampNeg + n.toNatClampNeg)), wYd (wS σ (nI 0)) (wdO (gY σ) (updN (dO (gY σ)) q.toNatClampNeg (min 999 (dO (gY σ) q.toNatClampNeg + n.toNatClampNeg))))) σ) σ
theorem z_min {a b : Nat} (ha : a < 2147483648) (hb : b < 2147483648) : (if nI a < nI b then nI a else nI b) = nI (min b a) := by
  by_cases h : a < b
  · rw [if_pos (nI_lt h (by omega)), Nat.min_eq_right (by omega)]
  · rw [if_neg (nI_nlt (by omega) (by omega)), Nat.min_eq_left (by omega)]
theorem q_giveWool {d q n W : Nat} {y : De} (hP : OkD W y) (hD : CD M d y) (hq : q < dQ y) (hn : n ≤ 999) : ∃ M', f_Deal_giveWool d (nI q) (nI n) M = some ((), M') ∧ CD M' d (wdO y (updN (dO y) q (min 999 (dO y q + n)))) ∧ Fr (inDl d) M M' := by
  have w1 := hP.1
  have e := (hD.2.2.1 q hq).1
  have b := hP.2.2.1 q hq
  refine ⟨_, ?_, CD_O (q := q) (v := min 999 (dO y q + n)) hD, Fr.sA ⟨by omega, by omega⟩⟩
  rw [f_Deal_giveWool]
  simp (disch := first | assumption | omega) only [z_bd, z_cal, z_gd, z_iT, z_iF, z_le_t, z_le_f, z_lt_t, z_lt_f, z_cl, z_inb, z_at, z_lit, nI_ii1, nI_add, z_mr, z_ref0, z_refn, z_eq_f, Bool.not_true, Bool.not_false, b2i_t, b2i_f, e, z_min (show dO y q + n < 2147483648 by omega) (show 999 < 2147483648 by omega)]
theorem hi_inD {s t : Nat} (hK : KN M s t) (hF : Fr (inDl (s + 1)) M M') : Hi M M' := hF.mono (fun id e => by have := hK.ap; have := e.2; show id < 135; omega)
theorem not_inDl0 {s t : Nat} (hK : KN M s t) : ¬ inDl (s + 1) 0 := fun e => by have := e.1; omega
theorem pC_shear (q n : Int32) : PC (f_KT_shear q n) (o_shear q n) := by
  intro M σ h
  have g1 := q_noQueen h q
  rw [f_KT_shear]
  unfold o_shear
  cases hx : ix q (dQ (gY σ))
  · rw [hx] at g1
    refine ⟨_, ?_, IC_st (nI 2) h, Hi_st⟩
    simp (disch := first | assumption | omega) only [z_bd, z_cal, z_gd, z_iT, z_iF, z_le_t, z_le_f, z_lt_t, z_lt_f, z_cl, z_inb, z_at, z_lit, nI_ii1, nI_add, z_mr, z_ref0, z_refn, z_eq_f, Bool.not_true, Bool.not_false, b2i_t, b2i_f, g1, oG, f_KT_shear_l29]
  · rw [hx] at g1
    cases hz : rg n 1 999
    · refine ⟨_, ?_, IC_st (nI 5) h, Hi_st⟩
      rcases rg_f (by omega) (by omega) hz with h1 | ⟨h1, h2⟩
      · simp (disch := first | assumption | omega) only [z_bd, z_cal, z_gd, z_iT, z_iF, z_le_t, z_le_f, z_lt_t, z_lt_f, z_cl, z_inb, z_at, z_lit, nI_ii1, nI_add, z_mr, z_ref0, z_refn, z_eq_f, Bool.not_true, Bool.not_false, b2i_t, b2i_f, g1, oG, f_KT_shear_l29, h1]
      · simp (disch := first | assumption | omega) only [z_bd, z_cal, z_gd, z_iT, z_iF, z_le_t, z_le_f, z_lt_t, z_lt_f, z_cl, z_inb, z_at, z_lit, nI_ii1, nI_add, z_mr, z_ref0, z_refn, z_eq_f, Bool.not_true, Bool.not_false, b2i_t, b2i_f, g1, oG, f_KT_shear_l29, h1, h2]
    · have h1 := IC_st (nI 0) h
      obtain ⟨s, t, hK, hO, hC, hP, hD⟩ := IC_get h1
      have w1 := hP.1
      obtain ⟨a, ha, rfl⟩ := ix_ex (by omega) hx
      obtain ⟨b, hb1, hb, rfl⟩ := rg_ex (by omega) hz
      have e1 : (nI a).toNatClampNeg = a := z_cl (by omega)
      have e2 : (nI b).toNatClampNeg = b := z_cl (by omega)
      obtain ⟨M', b1, b2, b3⟩ := q_giveWool hP hD ha hb
      have hK' := hK.fr b3 (not_inDl0 hK)
      have er : mA M' (s + 2) a = nI (min 999 (dO (gY σ) a + b)) := by
        rw [(b2.2.2.1 a ha).1]
        exact congrArg nI (updN_at _ _ _)
      simp only [oG]
      rw [e1, e2]
      refine ⟨M', ?_, IC_deal h1 hK b3 b2 (OkD_O hP (by omega)) rfl, Hi_st.tr (hi_inD hK b3)⟩
      simp (disch := first | assumption | omega) only [z_bd, z_cal, z_gd, z_iT, z_iF, z_le_t, z_le_f, z_lt_t, z_lt_f, z_cl, z_inb, z_at, z_lit, nI_ii1, nI_add, z_mr, z_ref0, z_refn, z_eq_f, Bool.not_true, Bool.not_false, b2i_t, b2i_f, g1, f_KT_shear_l29, hK.1, hK.s1, b1, hK'.1, er]
end
