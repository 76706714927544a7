section
variable {M M' : kx_M} {σ : Sg}
def wTo (x : Cl) (n : Nat) : Cl := ((cW x, n, cR x, cY x), x.2)
def o_pulledOut (r side : Int32) (σ : Sg) : Int32 × Sg := oG (ix r (cR (gX σ))) 2 (oG (rg side 0 1) 5 (nI (sdSet (gX σ) (gY σ)) &&& (nI (sdSet (pulX (gX σ) r.toNatClampNeg side.toNatClampNeg) (gY σ)) ^^^ (-nI 1)), wS σ (nI 0)) σ) σ
theorem pC_pulledOut (r side : Int32) : PC (f_KT_pulledOut r side) (o_pulledOut r side) := by
  intro M σ h
  have g := q_pullStatus h r side
  rw [f_KT_pulledOut]
  unfold o_pulledOut
  unfold plSt at g
  cases hx : ix r (cR (gX σ))
  · rw [hx] at g
    refine ⟨_, ?_, IC_st (nI 2) h, Hi_st⟩
    simp (disch := first | assumption | omega) only [z_bd, z_cal, z_gd, z_iT, z_iF, z_le_t, z_le_f, z_lt_t, z_lt_f, z_cl, z_inb, z_at, z_lit, nI_ii1, nI_add, z_mr, z_ref0, z_refn, z_eq_f, Bool.not_true, Bool.not_false, b2i_t, b2i_f, g, oG, Bool.false_eq_true]
  · cases hz : rg side 0 1
    · rw [hx, hz] at g
      refine ⟨_, ?_, IC_st (nI 5) h, Hi_st⟩
      simp (disch := first | assumption | omega) only [z_bd, z_cal, z_gd, z_iT, z_iF, z_le_t, z_le_f, z_lt_t, z_lt_f, z_cl, z_inb, z_at, z_lit, nI_ii1, nI_add, z_mr, z_ref0, z_refn, z_eq_f, Bool.not_true, Bool.not_false, b2i_t, b2i_f, g, oG, Bool.false_eq_true]
    · rw [hx, hz] at g
      have h1 := IC_st (nI 0) h
      obtain ⟨s, t, hK, hO, hC, hP, hD⟩ := IC_get h1
      have w2 := hO.2.2.1
      obtain ⟨a, ha, rfl⟩ := ix_ex (by omega) hx
      obtain ⟨b, -, hb, rfl⟩ := rg_ex (by omega) hz
      obtain ⟨M1, a1, a2, a3⟩ := q_tried hK hO hC
      obtain ⟨ta, t0, tc⟩ := trial_ap hK
      have hK1 := hK.fr a3 t0
      have hD1 := CD_fr a3 (fun id h1 h2 => ta id (by omega) (by omega)) hD
      have es := q_saidSet hO a2 hP hD1
      obtain ⟨M', b1, b2, b3⟩ := q_pull hO a2 ha hb
      have hK2 := hK1.fr b3 t0
      have hD2 := CD_fr b3 (fun id h1 h2 => ta id (by omega) (by omega)) hD1
      have es2 := q_saidSet (OkC_pul hO a b) b2 hP hD2
      have e1 : (nI a).toNatClampNeg = a := z_cl (by omega)
      have e2 : (nI b).toNatClampNeg = b := z_cl (by omega)
      simp only [oG]
      rw [e1, e2]
      refine ⟨M', ?_, IC_trial h1 hK (a3.tr b3), Hi_st.tr (hi_inT hK (a3.tr b3))⟩
      simp (disch := first | assumption | omega) only [z_bd, z_cal, z_gd, z_iT, z_iF, z_le_t, z_le_f, z_lt_t, z_lt_f, z_cl, z_inb, z_at, z_lit, nI_ii1, nI_add, z_mr, z_ref0, z_refn, z_eq_f, Bool.not_true, Bool.not_false, b2i_t, b2i_f, g, a1, tc, hK1.1, hK.s1, es, b1, hK2.1, es2]
end
