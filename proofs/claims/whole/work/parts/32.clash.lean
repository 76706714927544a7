/-! ## quarrels between clauses -/
section
variable {M M' : kx_M} {σ : Sg}
theorem nx_xor (a b : Nat) : nI a ^^^ nI b = nI (a ^^^ b) := b_ext fun i hi => by
  rw [b_xor, bt_nI _ _ hi, bt_nI _ _ hi, bt_nI _ _ hi, Nat.testBit_xor]
theorem clN_bit (y : De) {a b : Nat} (hb : b < dC y) : (clN y a).testBit b = decide (dX y (6 * a + b) = 1) := by
  unfold clN
  rw [setN_bit, decide_eq_true hb, Bool.true_and]
def o_clash (p q : Int32) (σ : Sg) : Int32 × Sg := oG (ix p (dC (gY σ))) 2 (oG (ix q (dC (gY σ))) 2 (oG (!decide (p = q)) 9 (nI (dX (gY σ) (6 * p.toNatClampNeg + q.toNatClampNeg)), wS σ (nI 0)) σ) σ) σ
theorem pC_clash (p q : Int32) : PC (f_KT_clash p q) (o_clash p q) := by
  intro M σ h
  have g1 := q_noClause h p
  have g2 := q_noClause h q
  rw [f_KT_clash, f_KT_coupleStatus]
  unfold o_clash
  cases hx : ix p (dC (gY σ))
  · rw [hx] at g1
    refine ⟨_, ?_, IC_st (nI 2) h, Hi_st⟩
    simp (disch := first | assumption | omega) only [z_bd, z_cal, z_gd, z_iT, z_iF, z_le_t, z_le_f, z_lt_t, z_lt_f, z_cl, z_inb, z_at, z_pl, z_lit, nI_ii1, nI_add, z_mr, z_ref0, z_refn, z_eq_f, Bool.not_true, Bool.not_false, b2i_t, b2i_f, g1, oG]
  · rw [hx] at g1
    cases hy : ix q (dC (gY σ))
    · rw [hy] at g2
      refine ⟨_, ?_, IC_st (nI 2) h, Hi_st⟩
      simp (disch := first | assumption | omega) only [z_bd, z_cal, z_gd, z_iT, z_iF, z_le_t, z_le_f, z_lt_t, z_lt_f, z_cl, z_inb, z_at, z_pl, z_lit, nI_ii1, nI_add, z_mr, z_ref0, z_refn, z_eq_f, Bool.not_true, Bool.not_false, b2i_t, b2i_f, g1, g2, oG]
    · rw [hy] at g2
      by_cases hpq : p = q
      · rw [show decide (p = q) = true from decide_eq_true hpq]
        refine ⟨_, ?_, IC_st (nI 9) h, Hi_st⟩
        simp (disch := first | assumption | omega) only [z_bd, z_cal, z_gd, z_iT, z_iF, z_le_t, z_le_f, z_lt_t, z_lt_f, z_cl, z_inb, z_at, z_pl, z_lit, nI_ii1, nI_add, z_mr, z_ref0, z_refn, z_eq_f, Bool.not_true, Bool.not_false, b2i_t, b2i_f, g1, g2, hpq, oG, decide_true]
      · have h1 := IC_st (nI 0) h
        obtain ⟨s, t, hK, hO, hC, hP, hD⟩ := IC_get h1
        have w2 := hP.2.1
        obtain ⟨a, ha, rfl⟩ := ix_ex (by omega) hx
        obtain ⟨b, hb, rfl⟩ := ix_ex (by omega) hy
        have e0 : mA (sI M 0 13 (nI 0)) (s + 7) (6 * a + b) = nI (dX (gY σ) (6 * a + b)) := hD.2.2.2.2.2.1 a b ha hb
        have e1 : (nI a).toNatClampNeg = a := z_cl (by omega)
        have e2 : (nI b).toNatClampNeg = b := z_cl (by omega)
        rw [e1, e2, decide_eq_false hpq]
        refine ⟨_, ?_, h1, Hi_st⟩
        simp (disch := first | assumption | omega) only [z_bd, z_cal, z_gd, z_iT, z_iF, z_le_t, z_le_f, z_lt_t, z_lt_f, z_cl, z_inb, z_at, z_pl, z_lit, nI_ii1, nI_add, z_mr, z_ref0, z_refn, z_eq_f, Bool.not_true, Bool.not_false, b2i_t, b2i_f, g1, g2, hpq, oG, hK.1, hK.s1, e0, decide_false]
theorem pM_clash (p q : Int32) : PM (f_RM_clash p q) (o_clash p q) := by
  intro M σ h
  have h0 := IM_00 h
  have g1 := g_isClause h0 p
  have g2 := g_isClause h0 q
  rw [f_RM_clash]
  unfold o_clash
  cases hx : ix p (dC (gY σ))
  · rw [show ix p (dC (gY (wS σ (nI 0)))) = false from hx] at g1
    refine ⟨_, ?_, IM_r (nI 2) h0, lo_ref Lo_00⟩
    simp (disch := first | assumption | omega) only [z_bd, z_cal, z_gd, z_iT, z_iF, z_le_t, z_le_f, z_lt_t, z_lt_f, z_cl, z_inb, z_at, z_pl, z_lit, nI_ii1, nI_add, nI_mul, z_eq_f, z_refuse, z_no, z_M00, b2i_t, b2i_f, g1, oG]
  · rw [show ix p (dC (gY (wS σ (nI 0)))) = true from hx] at g1
    cases hy : ix q (dC (gY σ))
    · rw [show ix q (dC (gY (wS σ (nI 0)))) = false from hy] at g2
      refine ⟨_, ?_, IM_r (nI 2) h0, lo_ref Lo_00⟩
      simp (disch := first | assumption | omega) only [z_bd, z_cal, z_gd, z_iT, z_iF, z_le_t, z_le_f, z_lt_t, z_lt_f, z_cl, z_inb, z_at, z_pl, z_lit, nI_ii1, nI_add, nI_mul, z_eq_f, z_refuse, z_no, z_M00, b2i_t, b2i_f, g1, g2, oG]
    · rw [show ix q (dC (gY (wS σ (nI 0)))) = true from hy] at g2
      by_cases hpq : p = q
      · rw [show decide (p = q) = true from decide_eq_true hpq]
        refine ⟨_, ?_, IM_r (nI 9) h0, lo_ref Lo_00⟩
        simp (disch := first | assumption | omega) only [z_bd, z_cal, z_gd, z_iT, z_iF, z_le_t, z_le_f, z_lt_t, z_lt_f, z_cl, z_inb, z_at, z_pl, z_lit, nI_ii1, nI_add, nI_mul, z_eq_f, z_refuse, z_no, z_M00, b2i_t, b2i_f, g1, g2, hpq, oG, decide_true, Bool.not_true]
      · obtain ⟨hO, hC, hP, hD⟩ := IM_get h0
        have w2 := hP.2.1
        obtain ⟨a, ha, rfl⟩ := ix_ex (by omega) hx
        obtain ⟨b, hb, rfl⟩ := ix_ex (by omega) hy
        have e0 := hD.2.2.2.2.2.1 a ha
        have eb : bt (nI (clN (gY σ) a)) b = decide (dX (gY σ) (6 * a + b) = 1) := by rw [bt_nI _ _ (by omega), clN_bit _ hb]
        have hl := (hP.2.2.2.2.2.1 a b ha hb).1
        have e1 : (nI a).toNatClampNeg = a := z_cl (by omega)
        have e2 : (nI b).toNatClampNeg = b := z_cl (by omega)
        rw [e1, e2, decide_eq_false hpq]
        refine ⟨_, ?_, h0, Lo_00⟩
        by_cases h1 : dX (gY σ) (6 * a + b) = 1
        · rw [decide_eq_true h1] at eb
          simp (disch := first | assumption | omega) only [z_bd, z_cal, z_gd, z_iT, z_iF, z_le_t, z_le_f, z_lt_t, z_lt_f, z_cl, z_inb, z_at, z_pl, z_lit, nI_ii1, nI_add, nI_mul, z_eq_f, z_refuse, z_no, z_M00, b2i_t, b2i_f, g1, g2, hpq, oG, e0, z_has (show b < 32 by omega), eb, h1, decide_false, Bool.not_false]
        · rw [decide_eq_false h1] at eb
          obtain h1 : dX (gY σ) (6 * a + b) = 0 := by omega
          simp (disch := first | assumption | omega) only [z_bd, z_cal, z_gd, z_iT, z_iF, z_le_t, z_le_f, z_lt_t, z_lt_f, z_cl, z_inb, z_at, z_pl, z_lit, nI_ii1, nI_add, nI_mul, z_eq_f, z_refuse, z_no, z_M00, b2i_t, b2i_f, g1, g2, hpq, oG, e0, z_has (show b < 32 by omega), eb, h1, decide_false, Bool.not_false]
/-! a quarrel begins or ends -/
def qrY (y : De) (a b v : Nat) : De := wdX y (updN (updN (dX y) (6 * a + b) v) (6 * b + a) v)
def bN (v : Bool) : Nat := if v = true then 1 else 0
def o_quarrel (p q : Int32) (v : Bool) (σ : Sg) : Int32 × Sg := oB (ix p (dC (gY σ))) 2 (oB (ix q (dC (gY σ))) 2 (oB (!decide (p = q)) 9 (oB (!(v == decide (dX (gY σ) (6 * p.toNatClampNeg + q.toNatClampNeg) = 1))) 9 (nI 1, wYd (wS σ (nI 0)) (qrY (gY σ) p.toNatClampNeg q.toNatClampNeg (bN v))) σ) σ) σ) σ
theorem qrX (y : De) (a b v p : Nat) : dX (qrY y a b v) p = if p = 6 * b + a then v else if p = 6 * a + b then v else dX y p := rfl
theorem OkD_Q {W a b v : Nat} {y : De} (hP : OkD W y) (ha : a < dC y) (hb : b < dC y) (hab : a ≠ b) (hv : v ≤ 1) : OkD W (qrY y a b v) := by
  have w2 := hP.2.1
  refine ⟨hP.1, hP.2.1, hP.2.2.1, hP.2.2.2.1, hP.2.2.2.2.1, fun k i hk hi => ?_, fun k hk => ?_, hP.2.2.2.2.2.2.2⟩
  · have hk' : k < dC y := hk
    have hi' : i < dC y := hi
    obtain ⟨g1, g2⟩ := hP.2.2.2.2.2.1 k i hk hi
    rw [qrX, qrX]
    by_cases h1 : k = b ∧ i = a
    · rw [if_pos (by omega), if_neg (by omega), if_pos (by omega)]; exact ⟨hv, rfl⟩
    · by_cases h2 : k = a ∧ i = b
      · rw [if_neg (by omega), if_pos (by omega), if_pos (by omega)]; exact ⟨hv, rfl⟩
      · rw [if_neg (by omega), if_neg (by omega), if_neg (by omega), if_neg (by omega)]; exact ⟨g1, g2⟩
  · have hk' : k < dC y := hk
    rw [qrX, if_neg (by omega), if_neg (by omega)]; exact hP.2.2.2.2.2.2.1 k hk
theorem clN_eq {y : De} {u : Nat → Nat} {k b : Nat} (hb : b < dC y) (h1 : ∀ j, j < dC y → j ≠ b → u (6 * k + j) = dX y (6 * k + j)) (h2 : decide (u (6 * k + b) = 1) = !decide (dX y (6 * k + b) = 1)) : clN (wdX y u) k = clN y k ^^^ 2 ^ b := by
  apply Nat.eq_of_testBit_eq
  intro j
  rw [Nat.testBit_xor, Nat.testBit_two_pow]
  unfold clN
  rw [setN_bit, setN_bit]
  show (decide (j < dC y) && decide (u (6 * k + j) = 1)) = _
  by_cases hj : j = b
  · subst hj
    rw [h2, decide_eq_true hb, decide_eq_true rfl]
    cases decide (dX y (6 * k + j) = 1) <;> rfl
  · rw [decide_eq_false (show ¬ b = j from fun e => hj e.symm)]
    by_cases hjc : j < dC y
    · rw [h1 j hjc hj, Bool.xor_false]
    · rw [decide_eq_false hjc]; rfl
theorem clN_same {y : De} {u : Nat → Nat} {k : Nat} (h1 : ∀ j, j < dC y → u (6 * k + j) = dX y (6 * k + j)) : clN (wdX y u) k = clN y k := setN_congr (fun j hj => by
  show decide (u (6 * k + j) = 1) = _
  rw [h1 j hj])
theorem pC_quarrel (p q : Int32) (v : Bool) : PC (f_KT_quarrel p q (b2i v)) (o_quarrel p q v) := by
  intro M σ h
  have g1 := q_noClause h p
  have g2 := q_noClause h q
  rw [f_KT_quarrel, f_KT_coupleStatus]
  unfold o_quarrel
  cases hx : ix p (dC (gY σ))
  · rw [hx] at g1
    refine ⟨_, ?_, IC_st (nI 2) h, Hi_st⟩
    simp (disch := first | assumption | omega) only [z_bd, z_cal, z_gd, z_iT, z_iF, z_le_t, z_le_f, z_lt_t, z_lt_f, z_cl, z_inb, z_at, z_pl, z_lit, nI_ii1, nI_add, z_mr, z_ref0, z_refn, z_eq_f, Bool.not_true, Bool.not_false, b2i_t, b2i_f, g1, oB, f_KT_quarrel_l33]
  · rw [hx] at g1
    cases hy : ix q (dC (gY σ))
    · rw [hy] at g2
      refine ⟨_, ?_, IC_st (nI 2) h, Hi_st⟩
      simp (disch := first | assumption | omega) only [z_bd, z_cal, z_gd, z_iT, z_iF, z_le_t, z_le_f, z_lt_t, z_lt_f, z_cl, z_inb, z_at, z_pl, z_lit, nI_ii1, nI_add, z_mr, z_ref0, z_refn, z_eq_f, Bool.not_true, Bool.not_false, b2i_t, b2i_f, g1, g2, oB, f_KT_quarrel_l33]
    · rw [hy] at g2
      by_cases hpq : p = q
      · rw [show decide (p = q) = true from decide_eq_true hpq]
        refine ⟨_, ?_, IC_st (nI 9) h, Hi_st⟩
        simp (disch := first | assumption | omega) only [z_bd, z_cal, z_gd, z_iT, z_iF, z_le_t, z_le_f, z_lt_t, z_lt_f, z_cl, z_inb, z_at, z_pl, z_lit, nI_ii1, nI_add, z_mr, z_ref0, z_refn, z_eq_f, Bool.not_true, Bool.not_false, b2i_t, b2i_f, g1, g2, hpq, oB, decide_true, f_KT_quarrel_l33]
      · obtain ⟨s2, t2, hK2, hO2, hC2, hP2, hD2⟩ := IC_get (u := gS σ) h
        have h1 := IC_st (nI 0) h
        obtain ⟨s, t, hK, hO, hC, hP, hD⟩ := IC_get h1
        have w2 := hP.2.1
        obtain ⟨a, ha, rfl⟩ := ix_ex (by omega) hx
        obtain ⟨b, hb, rfl⟩ := ix_ex (by omega) hy
        have hab : a ≠ b := fun e => hpq (by rw [e])
        have ea := q_atOdds hP2 hD2 ha hb
        have e1 : (nI a).toNatClampNeg = a := z_cl (by omega)
        have e2 : (nI b).toNatClampNeg = b := z_cl (by omega)
        rw [e1, e2, decide_eq_false hpq]
        have fin : v ≠ decide (dX (gY σ) (6 * a + b) = 1) → ∃ M', f_KT_quarrel_l33 (nI a) (nI b) (b2i v) (nI 0) M = some (nI 1, M') ∧ IC M' (wYd (wS σ (nI 0)) (qrY (gY σ) a b (bN v))) ∧ Hi M M' := by
          intro _
          have hF : Fr (inDl (s + 1)) (sI M 0 13 (nI 0)) (sA (sA (sI M 0 13 (nI 0)) (s + 1 + 6) (upd (mA (sI M 0 13 (nI 0)) (s + 1 + 6)) (6 * a + b) (nI (bN v)))) (s + 1 + 6) (upd (mA (sA (sI M 0 13 (nI 0)) (s + 1 + 6) (upd (mA (sI M 0 13 (nI 0)) (s + 1 + 6)) (6 * a + b) (nI (bN v)))) (s + 1 + 6)) (6 * b + a) (nI (bN v)))) := (Fr.sA ⟨by omega, by omega⟩).tr (Fr.sA ⟨by omega, by omega⟩)
          refine ⟨_, ?_, IC_deal h1 hK hF (CD_X (CD_X hD)) (OkD_Q hP ha hb hab (by cases v <;> decide)) rfl, Hi_st.tr (hi_inD hK hF)⟩
          rw [f_KT_quarrel_l33]
          cases v
          · simp (disch := first | assumption | omega) only [z_bd, z_cal, z_gd, z_iT, z_iF, z_le_t, z_le_f, z_lt_t, z_lt_f, z_cl, z_inb, z_at, z_pl, z_lit, nI_ii1, nI_add, z_mr, z_ref0, z_refn, z_eq_f, Bool.not_true, Bool.not_false, b2i_t, b2i_f, hK.1, hK.s1, f_Deal_setOdds, bN, Bool.false_eq_true]
          · simp (disch := first | assumption | omega) only [z_bd, z_cal, z_gd, z_iT, z_iF, z_le_t, z_le_f, z_lt_t, z_lt_f, z_cl, z_inb, z_at, z_pl, z_lit, nI_ii1, nI_add, z_mr, z_ref0, z_refn, z_eq_f, Bool.not_true, Bool.not_false, b2i_t, b2i_f, hK.1, hK.s1, f_Deal_setOdds, bN, Bool.false_eq_true]
        cases hd : decide (dX (gY σ) (6 * a + b) = 1)
        · rw [hd] at ea
          cases v
          · refine ⟨_, ?_, IC_st (nI 9) h, Hi_st⟩
            simp (disch := first | assumption | omega) only [z_bd, z_cal, z_gd, z_iT, z_iF, z_le_t, z_le_f, z_lt_t, z_lt_f, z_cl, z_inb, z_at, z_pl, z_lit, nI_ii1, nI_add, z_mr, z_ref0, z_refn, z_eq_f, Bool.not_true, Bool.not_false, b2i_t, b2i_f, g1, g2, hpq, oB, f_KT_quarrel_l33, hK2.1, hK2.s1, ea]
            rfl
          · obtain ⟨M', b1, b2, b3⟩ := fin (by rw [hd]; decide)
            refine ⟨M', ?_, b2, b3⟩
            simp (disch := first | assumption | omega) only [z_bd, z_cal, z_gd, z_iT, z_iF, z_le_t, z_le_f, z_lt_t, z_lt_f, z_cl, z_inb, z_at, z_pl, z_lit, nI_ii1, nI_add, z_mr, z_ref0, z_refn, z_eq_f, Bool.not_true, Bool.not_false, b2i_t, b2i_f, g1, g2, hpq, oB, hK2.1, hK2.s1, ea]
            exact b1
        · rw [hd] at ea
          cases v
          · obtain ⟨M', b1, b2, b3⟩ := fin (by rw [hd]; decide)
            refine ⟨M', ?_, b2, b3⟩
            simp (disch := first | assumption | omega) only [z_bd, z_cal, z_gd, z_iT, z_iF, z_le_t, z_le_f, z_lt_t, z_lt_f, z_cl, z_inb, z_at, z_pl, z_lit, nI_ii1, nI_add, z_mr, z_ref0, z_refn, z_eq_f, Bool.not_true, Bool.not_false, b2i_t, b2i_f, g1, g2, hpq, oB, hK2.1, hK2.s1, ea]
            exact b1
          · refine ⟨_, ?_, IC_st (nI 9) h, Hi_st⟩
            simp (disch := first | assumption | omega) only [z_bd, z_cal, z_gd, z_iT, z_iF, z_le_t, z_le_f, z_lt_t, z_lt_f, z_cl, z_inb, z_at, z_pl, z_lit, nI_ii1, nI_add, z_mr, z_ref0, z_refn, z_eq_f, Bool.not_true, Bool.not_false, b2i_t, b2i_f, g1, g2, hpq, oB, f_KT_quarrel_l33, hK2.1, hK2.s1, ea]
            rfl
theorem pM_quarrel (p q : Int32) (v : Bool) : PM (f_RM_quarrel p q (b2i v)) (o_quarrel p q v) := by
  intro M σ h
  have h0 := IM_00 h
  have g1 := g_isClause h0 p
  have g2 := g_isClause h0 q
  rw [f_RM_quarrel]
  unfold o_quarrel
  cases hx : ix p (dC (gY σ))
  · rw [show ix p (dC (gY (wS σ (nI 0)))) = false from hx] at g1
    refine ⟨_, ?_, IM_r (nI 2) h0, lo_ref Lo_00⟩
    simp (disch := first | assumption | omega) only [z_bd, z_cal, z_gd, z_iT, z_iF, z_le_t, z_le_f, z_lt_t, z_lt_f, z_cl, z_inb, z_at, z_pl, z_lit, nI_ii1, nI_add, nI_mul, z_eq_f, z_refuse, z_no, z_M00, b2i_t, b2i_f, g1, oB, z_b01n0]
  · rw [show ix p (dC (gY (wS σ (nI 0)))) = true from hx] at g1
    cases hy : ix q (dC (gY σ))
    · rw [show ix q (dC (gY (wS σ (nI 0)))) = false from hy] at g2
      refine ⟨_, ?_, IM_r (nI 2) h0, lo_ref Lo_00⟩
      simp (disch := first | assumption | omega) only [z_bd, z_cal, z_gd, z_iT, z_iF, z_le_t, z_le_f, z_lt_t, z_lt_f, z_cl, z_inb, z_at, z_pl, z_lit, nI_ii1, nI_add, nI_mul, z_eq_f, z_refuse, z_no, z_M00, b2i_t, b2i_f, g1, g2, oB, z_b01n0]
    · rw [show ix q (dC (gY (wS σ (nI 0)))) = true from hy] at g2
      by_cases hpq : p = q
      · rw [show decide (p = q) = true from decide_eq_true hpq]
        refine ⟨_, ?_, IM_r (nI 9) h0, lo_ref Lo_00⟩
        simp (disch := first | assumption | omega) only [z_bd, z_cal, z_gd, z_iT, z_iF, z_le_t, z_le_f, z_lt_t, z_lt_f, z_cl, z_inb, z_at, z_pl, z_lit, nI_ii1, nI_add, nI_mul, z_eq_f, z_refuse, z_no, z_M00, b2i_t, b2i_f, g1, g2, hpq, oB, decide_true, Bool.not_true, z_b01n0]
      · obtain ⟨hO, hC, hP, hD⟩ := IM_get h0
        have w2 := hP.2.1
        obtain ⟨a, ha, rfl⟩ := ix_ex (by omega) hx
        obtain ⟨b, hb, rfl⟩ := ix_ex (by omega) hy
        have hab : a ≠ b := fun e => hpq (by rw [e])
        have ea := hD.2.2.2.2.2.1 a ha
        have eb := hD.2.2.2.2.2.1 b hb
        have et : bt (nI (clN (gY σ) a)) b = decide (dX (gY σ) (6 * a + b) = 1) := by rw [bt_nI _ _ (by omega), clN_bit _ hb]
        have hsy := (hP.2.2.2.2.2.1 a b ha hb).2
        have e1 : (nI a).toNatClampNeg = a := z_cl (by omega)
        have e2 : (nI b).toNatClampNeg = b := z_cl (by omega)
        rw [e1, e2, decide_eq_false hpq]
        by_cases hd : v = decide (dX (gY σ) (6 * a + b) = 1)
        · rw [show (v == decide (dX (gY σ) (6 * a + b) = 1)) = true from by rw [hd, beq_self_eq_true], hd]
          refine ⟨_, ?_, IM_r (nI 9) h0, lo_ref Lo_00⟩
          simp (disch := first | assumption | omega) only [z_bd, z_cal, z_gd, z_iT, z_iF, z_le_t, z_le_f, z_lt_t, z_lt_f, z_cl, z_inb, z_at, z_pl, z_lit, nI_ii1, nI_add, nI_mul, z_eq_f, z_refuse, z_no, z_M00, b2i_t, b2i_f, g1, g2, hpq, oB, ea, z_has (show b < 32 by omega), et, Bool.not_false, Bool.not_true, z_b01n0]
        · have hne : ¬ (b2i (decide (dX (gY σ) (6 * a + b) = 1)) = b2i v) := fun e => hd (by
            revert e
            cases v <;> cases decide (dX (gY σ) (6 * a + b) = 1) <;> decide)
          have hbv : decide (bN v = 1) = !decide (dX (gY σ) (6 * a + b) = 1) := by
            revert hd
            cases v <;> cases decide (dX (gY σ) (6 * a + b) = 1) <;> decide
          have c1 : clN (qrY (gY σ) a b (bN v)) a = clN (gY σ) a ^^^ 2 ^ b := by
            unfold qrY
            refine clN_eq hb (fun j hj hjb => ?_) ?_
            · show (if 6 * a + j = 6 * b + a then _ else if 6 * a + j = 6 * a + b then _ else dX (gY σ) (6 * a + j)) = _
              rw [if_neg (by omega), if_neg (by omega)]
            · show decide ((if 6 * a + b = 6 * b + a then _ else if 6 * a + b = 6 * a + b then _ else dX (gY σ) (6 * a + b)) = 1) = _
              rw [if_neg (by omega), if_pos rfl]; exact hbv
          have c2 : clN (qrY (gY σ) a b (bN v)) b = clN (gY σ) b ^^^ 2 ^ a := by
            unfold qrY
            refine clN_eq ha (fun j hj hjb => ?_) ?_
            · show (if 6 * b + j = 6 * b + a then _ else if 6 * b + j = 6 * a + b then _ else dX (gY σ) (6 * b + j)) = _
              rw [if_neg (by omega), if_neg (by omega)]
            · show decide ((if 6 * b + a = 6 * b + a then _ else if 6 * b + a = 6 * a + b then _ else dX (gY σ) (6 * b + a)) = 1) = _
              rw [if_pos rfl, ← hsy]; exact hbv
          have c3 : ∀ k, k < dC (gY σ) → k ≠ a → k ≠ b → clN (qrY (gY σ) a b (bN v)) k = clN (gY σ) k := fun k hk h1 h2 => clN_same (fun j hj => by
            show (if 6 * k + j = 6 * b + a then _ else if 6 * k + j = 6 * a + b then _ else dX (gY σ) (6 * k + j)) = _
            rw [if_neg (by omega), if_neg (by omega)])
          have hF : FrN (M00 M) (sA (sA (M00 M) 140 (upd (mA (M00 M) 140) (46 + a) (nI (clN (gY σ) a ^^^ 2 ^ b)))) 140 (upd (mA (sA (M00 M) 140 (upd (mA (M00 M) 140) (46 + a) (nI (clN (gY σ) a ^^^ 2 ^ b)))) 140) (46 + b) (nI (clN (gY σ) b ^^^ 2 ^ a)))) := (FrN.up (by omega)).tr (FrN.up (by omega))
          have ec : mA (sA (sA (M00 M) 140 (upd (mA (M00 M) 140) (46 + a) (nI (clN (gY σ) a ^^^ 2 ^ b)))) 140 (upd (mA (sA (M00 M) 140 (upd (mA (M00 M) 140) (46 + a) (nI (clN (gY σ) a ^^^ 2 ^ b)))) 140) (46 + b) (nI (clN (gY σ) b ^^^ 2 ^ a)))) 140 = upd (upd (mA (M00 M) 140) (46 + a) (nI (clN (gY σ) a ^^^ 2 ^ b))) (46 + b) (nI (clN (gY σ) b ^^^ 2 ^ a)) := by rw [mA_sA, if_pos rfl, mA_sA, if_pos rfl]
          have eb2 : mA (sA (M00 M) 140 (upd (mA (M00 M) 140) (46 + a) (nI (clN (gY σ) a ^^^ 2 ^ b)))) 140 (46 + b) = nI (clN (gY σ) b) := by rw [mA_sA, if_pos rfl, upd_at, if_neg (by omega)]; exact eb
          have hb2 : (v == decide (dX (gY σ) (6 * a + b) = 1)) = false := by
            revert hd
            cases v <;> cases decide (dX (gY σ) (6 * a + b) = 1) <;> decide
          have hv1 : bN v ≤ 1 := by cases v <;> decide
          rw [hb2]
          refine ⟨_, ?_, IM_deal h0 hF rfl (MC_d (by omega) (MC_d (by omega) hC)) (fun p h1 h2 => by rw [ec, upd_at, if_neg (by omega), upd_at, if_neg (by omega)]) ?_ (OkD_Q hP ha hb hab hv1), Lo_00.tr hF.lo⟩
          · simp (disch := first | assumption | omega) only [z_bd, z_cal, z_gd, z_iT, z_iF, z_le_t, z_le_f, z_lt_t, z_lt_f, z_cl, z_inb, z_at, z_pl, z_lit, nI_ii1, nI_add, nI_mul, z_eq_f, z_refuse, z_no, z_M00, b2i_t, b2i_f, g1, g2, hpq, oB, ea, z_has (show b < 32 by omega), et, Bool.not_false, hne, z_bit (show a < 31 by omega), z_bit (show b < 31 by omega), nx_xor, eb2]
          · rw [ec]
            obtain ⟨h1, h2, h3, h4, h5, h6, h7⟩ := hD
            have hl := hP.2.2.2.1
            have w1 := hP.1
            refine ⟨?_, ?_, fun p hp => ⟨?_, (h3 p hp).2⟩, fun k hk => ⟨(h4 k hk).1, ?_⟩, fun k i hk hi => ?_, fun k hk => ?_, fun w p k hw hp hk => ?_⟩
            · rw [upd_at, if_neg (by omega), upd_at, if_neg (by omega)]; exact h1
            · rw [upd_at, if_neg (by omega), upd_at, if_neg (by omega)]; exact h2
            · have hp' : p < dQ (gY σ) := hp
              rw [upd_at, if_neg (by omega), upd_at, if_neg (by omega)]; exact (h3 p hp).1
            · have hk' : k < dC (gY σ) := hk
              rw [upd_at, if_neg (by omega), upd_at, if_neg (by omega)]; exact (h4 k hk).2
            · have hk' : k < dC (gY σ) := hk
              have hi' : i < dL (gY σ) k := hi
              have := hl k hk
              rw [upd_at, if_neg (by omega), upd_at, if_neg (by omega)]; exact h5 k i hk hi
            · have hk' : k < dC (gY σ) := hk
              by_cases hkb : k = b
              · rw [hkb, upd_at, if_pos rfl, c2]
              · by_cases hka : k = a
                · rw [hka, upd_at, if_neg (by omega), upd_at, if_pos rfl, c1]
                · rw [upd_at, if_neg (by omega), upd_at, if_neg (by omega), c3 k hk' hka hkb]; exact h6 k hk
            · have hk' : k < dC (gY σ) := hk
              have hp' : p < dQ (gY σ) := hp
              rw [upd_at, if_neg (by omega), upd_at, if_neg (by omega)]; exact h7 w p k hw hp hk
end
