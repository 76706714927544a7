section
variable {M M' : kx_M} {σ : Sg}
def o_clash (p q : Int32) (σ : Sg) : Int32 × Sg := oG (ix p (dC (gY σ))) 2 (oG (ix q (dC (gY σ))) 2 (oG (!decide (p = q)) 9 (nI (dX (gY σ) (6 * p.toNatClampNeg + q.toNatClampNeg)), wS σ (nI 0)) σ) σ) σ
theorem pC_clash (p q : Int32) : PC (f_KT_clash p q) (o_clash p q) := by
  intro M σ h
  have g1 := q_noClause h p
  have g2 := q_noClause h q
  rw [f_KT_clash, f_KT_coupleStatus]
  unfold o_clash
  cases hx : ix p (dC (gY σ))
  · rw [hx] at g1
    refine ⟨_, ?_, IC_st (nI 2) h, Hi_st⟩
    simp (disch := first | assumption | omega) only [z_bd, z_cal, z_gd, z_iT, z_iF, z_le_t, z_le_f, z_lt_t, z_lt_f, z_cl, z_inb, z_at, z_lit, nI_ii1, nI_add, z_mr, z_ref0, z_refn, z_eq_f, Bool.not_true, Bool.not_false, b2i_t, b2i_f, g1, oG]
  · rw [hx] at g1
    cases hy : ix q (dC (gY σ))
    · rw [hy] at g2
      refine ⟨_, ?_, IC_st (nI 2) h, Hi_st⟩
      simp (disch := first | assumption | omega) only [z_bd, z_cal, z_gd, z_iT, z_iF, z_le_t, z_le_f, z_lt_t, z_lt_f, z_cl, z_inb, z_at, z_lit, nI_ii1, nI_add, z_mr, z_ref0, z_refn, z_eq_f, Bool.not_true, Bool.not_false, b2i_t, b2i_f, g1, g2, oG]
    · rw [hy] at g2
      by_cases hpq : p = q
      · rw [show decide (p = q) = true from decide_eq_true hpq]
        refine ⟨_, ?_, IC_st (nI 9) h, Hi_st⟩
        simp (disch := first | assumption | omega) only [z_bd, z_cal, z_gd, z_iT, z_iF, z_le_t, z_le_f, z_lt_t, z_lt_f, z_cl, z_inb, z_at, z_lit, nI_ii1, nI_add, z_mr, z_ref0, z_refn, z_eq_f, Bool.not_true, Bool.not_false, b2i_t, b2i_f, g1, g2, hpq, oG, decide_true]
      · have h1 := IC_st (nI 0) h
        obtain ⟨s, t, hK, hO, hC, hP, hD⟩ := IC_get h1
        have w2 := hP.2.1
        obtain ⟨a, ha, rfl⟩ := ix_ex (by omega) hx
        obtain ⟨b, hb, rfl⟩ := ix_ex (by omega) hy
        have e0 : mA (sI M 0 13 (nI 0)) (s + 7) (6 * a + b) = nI (dX (gY σ) (6 * a + b)) := hD.2.2.2.2.2.1 a b ha hb
        have e1 : (nI a).toNatClampNeg = a := z_cl (by omega)
        have e2 : (nI b).toNatClampNeg = b := z_cl (by omega)
        rw [e1, e2, decide_eq_false hpq]
        refine ⟨_, ?_, h1, Hi_st⟩
        simp (disch := first | assumption | omega) only [z_bd, z_cal, z_gd, z_iT, z_iF, z_le_t, z_le_f, z_lt_t, z_lt_f, z_cl, z_inb, z_at, z_lit, nI_ii1, nI_add, z_mr, z_ref0, z_refn, z_eq_f, Bool.not_true, Bool.not_false, b2i_t, b2i_f, g1, g2, hpq, oG, hK.1, hK.s1, e0, decide_false]
def qrY (y : De) (a b v : Nat) : De := wdX y (updN (updN (dX y) (6 * a + b) v) (6 * b + a) v)
theorem qrX (y : De) (a b v p : Nat) : dX (qrY y a b v) p = if p = 6 * b + a then v else if p = 6 * a + b then v else dX y p := rfl
theorem OkD_Q {W a b v : Nat} {y : De} (hP : OkD W y) (ha : a < dC y) (hb : b < dC y) (hab : a ≠ b) (hv : v ≤ 1) : OkD W (qrY y a b v) := by
  have w2 := hP.2.1
  refine ⟨hP.1, hP.2.1, hP.2.2.1, hP.2.2.2.1, hP.2.2.2.2.1, fun k i hk hi => ?_, fun k hk => ?_, hP.2.2.2.2.2.2.2⟩
  · have hk' : k < dC y := hk
    have hi' : i < dC y := hi
    obtain ⟨g1, g2⟩ := hP.2.2.2.2.2.1 k i hk hi
    rw [qrX, qrX]
    by_cases h1 : k = b ∧ i = a
    · rw [if_pos (by omega), if_neg (by omega), if_pos (by omega)]; exact ⟨hv, rfl⟩
    · by_cases h2 : k = a ∧ i = b
      · rw [if_neg (by omega), if_pos (by omega), if_pos (by omega)]; exact ⟨hv, rfl⟩
      · rw [if_neg (by omega), if_neg (by omega), if_neg (by omega), if_neg (by omega)]; exact ⟨g1, g2⟩
  · have hk' : k < dC y := hk
    rw [qrX, if_neg (by omega), if_neg (by omega)]; exact hP.2.2.2.2.2.2.1 k hk
end
