/-- not by unfolding: so the kernel need not look into what stands around -/
theorem z_lit (n : Nat) : (OfNat.ofNat n : Int32) = nI n := id (nI_lit n)
def bt (x : Int32) (i : Nat) : Bool := x.toBitVec.getLsbD i
theorem b_ext {x y : Int32} (h : ∀ i, i < 32 → bt x i = bt y i) : x = y := Int32.toBitVec_inj.mp (BitVec.eq_of_getLsbD_eq (fun i hi => h i hi))
theorem b_and (x y : Int32) (i : Nat) : bt (x &&& y) i = (bt x i && bt y i) := by unfold bt; rw [Int32.toBitVec_and, BitVec.getLsbD_and]
theorem s_l : ∀ n, n < 32 → ((nI n &&& nI 31).toBitVec.smod 32).toNat = n := by decide +kernel
theorem b_sshr (n : Nat) (hn : n < 32) (x : Int32) {i : Nat} (hi : i < 32) : bt (x >>> (nI n &&& nI 31)) i = if n + i < 32 then bt x (n + i) else bt x 31 := by
  unfold bt
  rw [Int32.toBitVec_shiftRight]
  show (x.toBitVec.sshiftRight ((nI n &&& nI 31).toBitVec.smod 32).toNat).getLsbD i = _
  rw [s_l n hn, BitVec.getLsbD_sshiftRight, BitVec.msb_eq_getLsbD_last]
  simp [hi]
theorem bt_nI (s i : Nat) (hi : i < 32) : bt (nI s) i = s.testBit i := by
  show (BitVec.ofNat 32 s).getLsbD i = _
  rw [BitVec.getLsbD_ofNat]
  simp [hi]
theorem bt_1 : ∀ i, i < 32 → bt (nI 1) i = decide (i = 0) := by decide +kernel
theorem b_one (x : Int32) : (x &&& nI 1 = nI 1) = (bt x 0 = true) := by
  refine propext ⟨fun h => ?_, fun h => b_ext fun i hi => ?_⟩
  · have h1 : bt (x &&& nI 1) 0 = bt (nI 1) 0 := by rw [h]
    rw [b_and, bt_1 0 (by omega)] at h1
    simpa using h1
  · rw [b_and, bt_1 i hi]
    by_cases h0 : i = 0
    · subst h0; rw [h]; rfl
    · rw [decide_eq_false h0, Bool.and_false]
theorem z_inSet {x : Int32} {k : Nat} (hk : k < 32) (M : kx_M) : f_KT_inSet x (nI k) M = some (b2i (bt x k), M) := by
  show (if ((x >>> (nI k &&& nI 31)) &&& nI 1) = nI 1 then some ((nI 1), M) else some (nI 0, M)) = _
  have e := b_sshr k hk x (i := 0) (by omega)
  rw [if_pos (show k + 0 < 32 by omega)] at e
  have e2 := b_one (x >>> (nI k &&& nI 31))
  rw [e] at e2
  cases hb : bt x k
  · rw [if_neg (fun g => by have := e2.mp g; rw [Nat.add_zero, hb] at this; cases this)]; rfl
  · rw [if_pos (e2.mpr hb)]; rfl
theorem pow_lt6 {q n : Nat} (h : q < n) : 2 ^ q < 2 ^ n := Nat.pow_lt_pow_right (by omega) h
section
variable {M : kx_M} {σ : Sg}
theorem IC_get {u : Int32} (h : IC M (wS σ u)) : ∃ s t, KN M s t ∧ OkC (gX σ) ∧ CC M (s + 9) (gX σ) ∧ OkD (cW (gX σ)) (gY σ) ∧ CD M (s + 1) (gY σ) := by
  obtain ⟨hO, s, t, hK, hS, -⟩ := h
  exact ⟨s, t, hK, hO.1.1, hS.1, hO.1.2.2.1, hS.2.1⟩
def mnN (x : Cl) (y : De) (v : Nat) : Nat := if v = 0 then cW x else if v = 1 then cT x else if v = 2 then dQ y else if v = 3 then dC y else if v = 4 then cR x else if v = 5 then cY x else if v = 6 then sumRC (cU x) (cW x) (cR x) else if v = 7 then sumRC (cD x) (cW x) (cR x) else if v = 8 then wornR x else sdSet x y
def o_many (v : Int32) (σ : Sg) : Int32 × Sg := oG (rg v 0 9) 5 (nI (mnN (gX σ) (gY σ) v.toNatClampNeg), wS σ (nI 0)) σ
theorem pC_many (v : Int32) : PC (f_KT_many v) (o_many v) := by
  intro M σ h
  rw [f_KT_many]
  unfold o_many
  cases hz : rg v 0 9
  · refine ⟨_, ?_, IC_st (nI 5) h, Hi_st⟩
    rcases rg_f (by omega) (by omega) hz with h1 | ⟨h1, h2⟩
    · simp (disch := first | assumption | omega) only [z_bd, z_cal, z_gd, z_iT, z_iF, z_le_t, z_le_f, z_lt_t, z_lt_f, z_cl, z_inb, z_at, nI_lit, nI_ii1, nI_add, z_mr, z_ref0, z_refn, z_eq_f, Bool.not_true, Bool.not_false, b2i_t, b2i_f, oG, f_KT_many_l16, h1]
    · simp (disch := first | assumption | omega) only [z_bd, z_cal, z_gd, z_iT, z_iF, z_le_t, z_le_f, z_lt_t, z_lt_f, z_cl, z_inb, z_at, nI_lit, nI_ii1, nI_add, z_mr, z_ref0, z_refn, z_eq_f, Bool.not_true, Bool.not_false, b2i_t, b2i_f, oG, f_KT_many_l16, h1, h2]
  · have h1 := IC_st (nI 0) h
    obtain ⟨hO, s, t, hK, hS, -⟩ := h1
    obtain ⟨c, -, hc, rfl⟩ := rg_ex (by omega) hz
    have ec : (nI c).toNatClampNeg = c := z_cl (by omega)
    refine ⟨_, ?_, IC_st (nI 0) h, Hi_st⟩
    rw [ec]
    have ha := hK.ap
    have l4 : kx_lay[s + 9 + 4]? = some (1, 96, []) := lk_Cloth_undone (lD_State_cloth hK.s1)
    have l5 : kx_lay[s + 9 + 5]? = some (1, 96, []) := lk_Cloth_darned (lD_State_cloth hK.s1)
    have hc4 : c = 0 ∨ c = 1 ∨ c = 2 ∨ c = 3 ∨ c = 4 ∨ c = 5 ∨ c = 6 ∨ c = 7 ∨ c = 8 ∨ c = 9 := by omega
    rcases hc4 with rfl | rfl | rfl | rfl | rfl | rfl | rfl | rfl | rfl | rfl
    · have e : mI (sI M 0 13 (nI 0)) (s + 9) 5 = nI (mnN (gX σ) (gY σ) 0) := hS.1.1
      simp (disch := first | assumption | omega) only [z_bd, z_cal, z_gd, z_iT, z_iF, z_le_t, z_le_f, z_lt_t, z_lt_f, z_cl, z_inb, z_at, z_lit, nI_ii1, nI_add, z_mr, z_ref0, z_refn, z_eq_f, Bool.not_true, Bool.not_false, b2i_t, b2i_f, oG, f_KT_many_l16, nI_pos0, hK.1, hK.s1, e]
    · have e : mI (sI M 0 13 (nI 0)) (s + 9) 6 = nI (mnN (gX σ) (gY σ) 1) := hS.1.2.1
      simp (disch := first | assumption | omega) only [z_bd, z_cal, z_gd, z_iT, z_iF, z_le_t, z_le_f, z_lt_t, z_lt_f, z_cl, z_inb, z_at, z_lit, nI_ii1, nI_add, z_mr, z_ref0, z_refn, z_eq_f, Bool.not_true, Bool.not_false, b2i_t, b2i_f, oG, f_KT_many_l16, nI_pos0, hK.1, hK.s1, e]
    · have e : mI (sI M 0 13 (nI 0)) (s + 1) 7 = nI (mnN (gX σ) (gY σ) 2) := hS.2.1.1
      simp (disch := first | assumption | omega) only [z_bd, z_cal, z_gd, z_iT, z_iF, z_le_t, z_le_f, z_lt_t, z_lt_f, z_cl, z_inb, z_at, z_lit, nI_ii1, nI_add, z_mr, z_ref0, z_refn, z_eq_f, Bool.not_true, Bool.not_false, b2i_t, b2i_f, oG, f_KT_many_l16, nI_pos0, hK.1, hK.s1, e]
    · have e : mI (sI M 0 13 (nI 0)) (s + 1) 8 = nI (mnN (gX σ) (gY σ) 3) := hS.2.1.2.1
      simp (disch := first | assumption | omega) only [z_bd, z_cal, z_gd, z_iT, z_iF, z_le_t, z_le_f, z_lt_t, z_lt_f, z_cl, z_inb, z_at, z_lit, nI_ii1, nI_add, z_mr, z_ref0, z_refn, z_eq_f, Bool.not_true, Bool.not_false, b2i_t, b2i_f, oG, f_KT_many_l16, nI_pos0, hK.1, hK.s1, e]
    · have e : mI (sI M 0 13 (nI 0)) (s + 9) 7 = nI (mnN (gX σ) (gY σ) 4) := hS.1.2.2.1
      simp (disch := first | assumption | omega) only [z_bd, z_cal, z_gd, z_iT, z_iF, z_le_t, z_le_f, z_lt_t, z_lt_f, z_cl, z_inb, z_at, z_lit, nI_ii1, nI_add, z_mr, z_ref0, z_refn, z_eq_f, Bool.not_true, Bool.not_false, b2i_t, b2i_f, oG, f_KT_many_l16, nI_pos0, hK.1, hK.s1, e]
    · have e : mI (sI M 0 13 (nI 0)) (s + 9) 8 = nI (mnN (gX σ) (gY σ) 5) := hS.1.2.2.2.1
      simp (disch := first | assumption | omega) only [z_bd, z_cal, z_gd, z_iT, z_iF, z_le_t, z_le_f, z_lt_t, z_lt_f, z_cl, z_inb, z_at, z_lit, nI_ii1, nI_add, z_mr, z_ref0, z_refn, z_eq_f, Bool.not_true, Bool.not_false, b2i_t, b2i_f, oG, f_KT_many_l16, nI_pos0, hK.1, hK.s1, e]
    · have e : f_Cloth_sum (s + 9) (s + 9 + 4) (sI M 0 13 (nI 0)) = some (nI (mnN (gX σ) (gY σ) 6), _) := q_sum (u := cU (gX σ)) hO.1.1 hS.1 l4 (fun r i hr hi => (hS.1.2.2.2.2.2 r i hr hi).2.2.1)
      simp (disch := first | assumption | omega) only [z_bd, z_cal, z_gd, z_iT, z_iF, z_le_t, z_le_f, z_lt_t, z_lt_f, z_cl, z_inb, z_at, z_lit, nI_ii1, nI_add, z_mr, z_ref0, z_refn, z_eq_f, Bool.not_true, Bool.not_false, b2i_t, b2i_f, oG, f_KT_many_l16, nI_pos0, hK.1, hK.s1, e]
    · have e : f_Cloth_sum (s + 9) (s + 9 + 5) (sI M 0 13 (nI 0)) = some (nI (mnN (gX σ) (gY σ) 7), _) := q_sum (u := cD (gX σ)) hO.1.1 hS.1 l5 (fun r i hr hi => (hS.1.2.2.2.2.2 r i hr hi).2.2.2)
      simp (disch := first | assumption | omega) only [z_bd, z_cal, z_gd, z_iT, z_iF, z_le_t, z_le_f, z_lt_t, z_lt_f, z_cl, z_inb, z_at, z_lit, nI_ii1, nI_add, z_mr, z_ref0, z_refn, z_eq_f, Bool.not_true, Bool.not_false, b2i_t, b2i_f, oG, f_KT_many_l16, nI_pos0, hK.1, hK.s1, e]
    · have e : f_Cloth_wornInAll (s + 9) (sI M 0 13 (nI 0)) = some (nI (mnN (gX σ) (gY σ) 8), _) := q_wornAll hO.1.1 hS.1
      simp (disch := first | assumption | omega) only [z_bd, z_cal, z_gd, z_iT, z_iF, z_le_t, z_le_f, z_lt_t, z_lt_f, z_cl, z_inb, z_at, z_lit, nI_ii1, nI_add, z_mr, z_ref0, z_refn, z_eq_f, Bool.not_true, Bool.not_false, b2i_t, b2i_f, oG, f_KT_many_l16, nI_pos0, hK.1, hK.s1, e]
    · have e : f_Cloth_saidSet (s + 9) (s + 1) (sI M 0 13 (nI 0)) = some (nI (mnN (gX σ) (gY σ) 9), _) := q_saidSet hO.1.1 hS.1 hO.1.2.2.1 hS.2.1
      simp (disch := first | assumption | omega) only [z_bd, z_cal, z_gd, z_iT, z_iF, z_le_t, z_le_f, z_lt_t, z_lt_f, z_cl, z_inb, z_at, z_lit, nI_ii1, nI_add, z_mr, z_ref0, z_refn, z_eq_f, Bool.not_true, Bool.not_false, b2i_t, b2i_f, oG, f_KT_many_l16, nI_pos0, hK.1, hK.s1, e]
end
