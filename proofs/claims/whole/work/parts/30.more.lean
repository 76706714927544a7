/-! ## tough, worth, quarrels -/
/-- refused with false, or the rest -/
def oB (b : Bool) (v : Nat) (r : Int32 × Sg) (σ : Sg) : Int32 × Sg := match b with
  | true => r
  | false => (nI 0, wS σ (nI v))
theorem z_b01n0 : b01 (nI 0) = true := rfl
section
variable {M M' : kx_M} {σ : Sg}
def wTo (x : Cl) (n : Nat) : Cl := ((cW x, n, cR x, cY x), x.2)
def o_rule (n : Int32) (σ : Sg) : Int32 × Sg := oB (rg n 1 50) 5 (nI 1, wX (wS σ (nI 0)) (wTo (gX σ) n.toNatClampNeg)) σ
theorem pC_rule (n : Int32) : PC (f_KT_rule n) (o_rule n) := by
  intro M σ h
  rw [f_KT_rule]
  unfold o_rule
  cases hz : rg n 1 50
  · refine ⟨_, ?_, IC_st (nI 5) h, Hi_st⟩
    rcases rg_f (by omega) (by omega) hz with h1 | ⟨h1, h2⟩
    · simp (disch := first | assumption | omega) only [z_bd, z_cal, z_gd, z_iT, z_iF, z_le_t, z_le_f, z_lt_t, z_lt_f, z_cl, z_inb, z_at, z_pl, z_lit, nI_ii1, nI_add, z_mr, z_ref0, z_refn, z_eq_f, Bool.not_true, Bool.not_false, b2i_t, b2i_f, oB, f_KT_rule_l17, h1]
    · simp (disch := first | assumption | omega) only [z_bd, z_cal, z_gd, z_iT, z_iF, z_le_t, z_le_f, z_lt_t, z_lt_f, z_cl, z_inb, z_at, z_pl, z_lit, nI_ii1, nI_add, z_mr, z_ref0, z_refn, z_eq_f, Bool.not_true, Bool.not_false, b2i_t, b2i_f, oB, f_KT_rule_l17, h1, h2]
  · have h1 := IC_st (nI 0) h
    obtain ⟨s, t, hK, hO, hC, hP, hD⟩ := IC_get h1
    obtain ⟨c, hc1, hc, rfl⟩ := rg_ex (by omega) hz
    have ec : (nI c).toNatClampNeg = c := z_cl (by omega)
    have hF : Fr (inC (s + 9)) (sI M 0 13 (nI 0)) (sI (sI M 0 13 (nI 0)) (s + 9) 6 (nI c)) := Fr.sI ⟨by omega, by omega⟩
    have hC2 : CC (sI (sI M 0 13 (nI 0)) (s + 9) 6 (nI c)) (s + 9) (wTo (gX σ) c) := by
      obtain ⟨a1, a2, a3, a4, a5, a6⟩ := hC
      refine ⟨?_, ?_, ?_, ?_, a5, a6⟩
      · rw [mI_sI, if_neg (by omega)]; exact a1
      · rw [mI_sI, if_pos ⟨rfl, rfl⟩]; rfl
      · rw [mI_sI, if_neg (by omega)]; exact a3
      · rw [mI_sI, if_neg (by omega)]; exact a4
    simp only [oB]
    rw [ec]
    refine ⟨_, ?_, IC_cloth h1 hK hF hC2 ⟨hO.1, ⟨hc1, hc⟩, hO.2.2⟩ h.1.1.2.1 rfl, Hi_st.tr (hi_inC hK hF)⟩
    simp (disch := first | assumption | omega) only [z_bd, z_cal, z_gd, z_iT, z_iF, z_le_t, z_le_f, z_lt_t, z_lt_f, z_cl, z_inb, z_at, z_pl, z_lit, nI_ii1, nI_add, z_mr, z_ref0, z_refn, z_eq_f, Bool.not_true, Bool.not_false, b2i_t, b2i_f, f_KT_rule_l17, hK.1, hK.s1]
theorem pM_rule (n : Int32) : PM (f_RM_rule n) (o_rule n) := by
  intro M σ h
  have h0 := IM_00 h
  have g3 := rg_isIn n (A := 1) (B := 50) (a := 1) (b := 50) rfl rfl (M00 M)
  rw [f_RM_rule]
  unfold o_rule
  cases hz : rg n 1 50
  · rw [hz] at g3
    refine ⟨_, ?_, IM_r (nI 5) h0, lo_ref Lo_00⟩
    simp (disch := first | assumption | omega) only [z_bd, z_cal, z_gd, z_iT, z_iF, z_le_t, z_le_f, z_lt_t, z_lt_f, z_cl, z_inb, z_at, z_pl, z_lit, nI_ii1, nI_add, nI_mul, z_eq_f, z_refuse, z_no, z_M00, b2i_t, b2i_f, g3, oB, z_b01n0]
  · rw [hz] at g3
    obtain ⟨c, hc1, hc, rfl⟩ := rg_ex (by omega) hz
    have ec : (nI c).toNatClampNeg = c := z_cl (by omega)
    obtain ⟨hO, hC, hP, hD⟩ := IM_get h0
    have hF : FrN (M00 M) (sA (M00 M) 140 (upd (mA (M00 M) 140) 1 (nI c))) := FrN.up (by omega)
    have e1 : mA (sA (M00 M) 140 (upd (mA (M00 M) 140) 1 (nI c))) 140 = upd (mA (M00 M) 140) 1 (nI c) := by rw [mA_sA, if_pos rfl]
    have hC2 : MC (mA (sA (M00 M) 140 (upd (mA (M00 M) 140) 1 (nI c))) 140) (wTo (gX σ) c) := by
      rw [e1]
      obtain ⟨a1, a2, a3, a4, a5, a6⟩ := hC
      refine ⟨?_, ?_, ?_, ?_, fun r hr => ?_, fun r i hr hi => ?_⟩
      · rw [upd_at, if_neg (by omega)]; exact a1
      · rw [upd_at, if_pos rfl]; rfl
      · rw [upd_at, if_neg (by omega)]; exact a3
      · rw [upd_at, if_neg (by omega)]; exact a4
      · rw [upd_at, if_neg (by omega)]; exact a5 r hr
      · obtain ⟨b1, b2, b3, b4⟩ := a6 r i hr hi
        rw [upd_at, if_neg (by omega), upd_at, if_neg (by omega), upd_at, if_neg (by omega), upd_at, if_neg (by omega)]
        exact ⟨b1, b2, b3, b4⟩
    have hP2 : OkD (cW (wTo (gX σ) c)) (gY σ) := hP
    have hI : IM (sA (M00 M) 140 (upd (mA (M00 M) 140) 1 (nI c))) (wX (wS σ (nI 0)) (wTo (gX σ) c)) := by
      refine IM_now h0 hF ⟨hC2, ?_, ?_⟩ ⟨⟨hO.1, ⟨hc1, hc⟩, hO.2.2⟩, h.1.1.2.1, hP2, h.1.1.2.2.2⟩
      · exact MD_congr hP (fun p h1 h2 _ _ => by rw [e1, upd_at, if_neg (by omega)]) hD
      · exact MZ_congr h.1.1.2.2.2 (fun p h1 h2 => by rw [e1, upd_at, if_neg (by omega)]) h0.2.1.2.2
    simp only [oB]
    rw [ec]
    refine ⟨_, ?_, hI, Lo_00.tr hF.lo⟩
    simp (disch := first | assumption | omega) only [z_bd, z_cal, z_gd, z_iT, z_iF, z_le_t, z_le_f, z_lt_t, z_lt_f, z_cl, z_inb, z_at, z_pl, z_lit, nI_ii1, nI_add, nI_mul, z_eq_f, z_refuse, z_no, z_M00, b2i_t, b2i_f, g3]
/-! what it gives and costs -/
def o_value (q k v n : Int32) (σ : Sg) : Int32 × Sg := oB (ix q (dQ (gY σ))) 2 (oB (ix k (dC (gY σ))) 2 (oB (rg v 0 1) 5 (oB (rg n 0 99) 5 (nI 1, wYd (wS σ (nI 0)) (wdV (gY σ) (updN (dV (gY σ)) (24 * v.toNatClampNeg + 6 * q.toNatClampNeg + k.toNatClampNeg) n.toNatClampNeg))) σ) σ) σ) σ
theorem pC_value (q k v n : Int32) : PC (f_KT_value q k v n) (o_value q k v n) := by
  intro M σ h
  have g := q_worthStatus h q k v
  rw [f_KT_value]
  unfold o_value
  unfold wSt at g
  cases hx : ix q (dQ (gY σ))
  · rw [hx] at g
    refine ⟨_, ?_, IC_st (nI 2) h, Hi_st⟩
    simp (disch := first | assumption | omega) only [z_bd, z_cal, z_gd, z_iT, z_iF, z_le_t, z_le_f, z_lt_t, z_lt_f, z_cl, z_inb, z_at, z_pl, z_lit, nI_ii1, nI_add, z_mr, z_ref0, z_refn, z_eq_f, Bool.not_true, Bool.not_false, b2i_t, b2i_f, g, oB, f_KT_value_l29, Bool.false_eq_true]
  · cases hy : ix k (dC (gY σ))
    · rw [hx, hy] at g
      refine ⟨_, ?_, IC_st (nI 2) h, Hi_st⟩
      simp (disch := first | assumption | omega) only [z_bd, z_cal, z_gd, z_iT, z_iF, z_le_t, z_le_f, z_lt_t, z_lt_f, z_cl, z_inb, z_at, z_pl, z_lit, nI_ii1, nI_add, z_mr, z_ref0, z_refn, z_eq_f, Bool.not_true, Bool.not_false, b2i_t, b2i_f, g, oB, f_KT_value_l29, Bool.false_eq_true]
    · cases hz : rg v 0 1
      · rw [hx, hy, hz] at g
        refine ⟨_, ?_, IC_st (nI 5) h, Hi_st⟩
        simp (disch := first | assumption | omega) only [z_bd, z_cal, z_gd, z_iT, z_iF, z_le_t, z_le_f, z_lt_t, z_lt_f, z_cl, z_inb, z_at, z_pl, z_lit, nI_ii1, nI_add, z_mr, z_ref0, z_refn, z_eq_f, Bool.not_true, Bool.not_false, b2i_t, b2i_f, g, oB, f_KT_value_l29, Bool.false_eq_true]
      · rw [hx, hy, hz] at g
        cases hw : rg n 0 99
        · refine ⟨_, ?_, IC_st (nI 5) h, Hi_st⟩
          rcases rg_f (by omega) (by omega) hw with h1 | ⟨h1, h2⟩
          · simp (disch := first | assumption | omega) only [z_bd, z_cal, z_gd, z_iT, z_iF, z_le_t, z_le_f, z_lt_t, z_lt_f, z_cl, z_inb, z_at, z_pl, z_lit, nI_ii1, nI_add, z_mr, z_ref0, z_refn, z_eq_f, Bool.not_true, Bool.not_false, b2i_t, b2i_f, g, oB, f_KT_value_l29, h1]
          · simp (disch := first | assumption | omega) only [z_bd, z_cal, z_gd, z_iT, z_iF, z_le_t, z_le_f, z_lt_t, z_lt_f, z_cl, z_inb, z_at, z_pl, z_lit, nI_ii1, nI_add, z_mr, z_ref0, z_refn, z_eq_f, Bool.not_true, Bool.not_false, b2i_t, b2i_f, g, oB, f_KT_value_l29, h1, h2]
        · have h1 := IC_st (nI 0) h
          obtain ⟨s, t, hK, hO, hC, hP, hD⟩ := IC_get h1
          have w1 := hP.1
          have w2 := hP.2.1
          obtain ⟨a, ha, rfl⟩ := ix_ex (by omega) hx
          obtain ⟨b, hb, rfl⟩ := ix_ex (by omega) hy
          obtain ⟨c, -, hc, rfl⟩ := rg_ex (by omega) hz
          obtain ⟨e, -, he, rfl⟩ := rg_ex (by omega) hw
          have e1 : (nI a).toNatClampNeg = a := z_cl (by omega)
          have e2 : (nI b).toNatClampNeg = b := z_cl (by omega)
          have e3 : (nI c).toNatClampNeg = c := z_cl (by omega)
          have e4 : (nI e).toNatClampNeg = e := z_cl (by omega)
          have hF : Fr (inDl (s + 1)) (sI M 0 13 (nI 0)) (sA (sI M 0 13 (nI 0)) (s + 1 + 7) (upd (mA (sI M 0 13 (nI 0)) (s + 1 + 7)) (24 * c + 6 * a + b) (nI e))) := Fr.sA ⟨by omega, by omega⟩
          simp only [oB]
          rw [e1, e2, e3, e4]
          refine ⟨_, ?_, IC_deal h1 hK hF (CD_V hD) (OkD_V hP he) rfl, Hi_st.tr (hi_inD hK hF)⟩
          simp (disch := first | assumption | omega) only [z_bd, z_cal, z_gd, z_iT, z_iF, z_le_t, z_le_f, z_lt_t, z_lt_f, z_cl, z_inb, z_at, z_pl, z_lit, nI_ii1, nI_add, z_mr, z_ref0, z_refn, z_eq_f, Bool.not_true, Bool.not_false, b2i_t, b2i_f, g, f_KT_value_l29, nI_pos0, hK.1, hK.s1, z_worthAt]
theorem pM_value (q k v n : Int32) : PM (f_RM_value q k v n) (o_value q k v n) := by
  intro M σ h
  have h0 := IM_00 h
  have g1 := g_isQueen h0 q
  have g2 := g_isClause h0 k
  have g3 := rg_isIn v (A := 0) (B := 1) (a := 0) (b := 1) rfl rfl (M00 M)
  have g4 := rg_isIn n (A := 0) (B := 99) (a := 0) (b := 99) rfl rfl (M00 M)
  rw [f_RM_value]
  unfold o_value
  cases hx : ix q (dQ (gY σ))
  · rw [show ix q (dQ (gY (wS σ (nI 0)))) = false from hx] at g1
    refine ⟨_, ?_, IM_r (nI 2) h0, lo_ref Lo_00⟩
    simp (disch := first | assumption | omega) only [z_bd, z_cal, z_gd, z_iT, z_iF, z_le_t, z_le_f, z_lt_t, z_lt_f, z_cl, z_inb, z_at, z_pl, z_lit, nI_ii1, nI_add, nI_mul, z_eq_f, z_refuse, z_no, z_M00, b2i_t, b2i_f, g1, oB, z_b01n0]
  · rw [show ix q (dQ (gY (wS σ (nI 0)))) = true from hx] at g1
    cases hy : ix k (dC (gY σ))
    · rw [show ix k (dC (gY (wS σ (nI 0)))) = false from hy] at g2
      refine ⟨_, ?_, IM_r (nI 2) h0, lo_ref Lo_00⟩
      simp (disch := first | assumption | omega) only [z_bd, z_cal, z_gd, z_iT, z_iF, z_le_t, z_le_f, z_lt_t, z_lt_f, z_cl, z_inb, z_at, z_pl, z_lit, nI_ii1, nI_add, nI_mul, z_eq_f, z_refuse, z_no, z_M00, b2i_t, b2i_f, g1, g2, oB, z_b01n0]
    · rw [show ix k (dC (gY (wS σ (nI 0)))) = true from hy] at g2
      cases hz : rg v 0 1
      · rw [hz] at g3
        refine ⟨_, ?_, IM_r (nI 5) h0, lo_ref Lo_00⟩
        simp (disch := first | assumption | omega) only [z_bd, z_cal, z_gd, z_iT, z_iF, z_le_t, z_le_f, z_lt_t, z_lt_f, z_cl, z_inb, z_at, z_pl, z_lit, nI_ii1, nI_add, nI_mul, z_eq_f, z_refuse, z_no, z_M00, b2i_t, b2i_f, g1, g2, g3, oB, z_b01n0]
      · rw [hz] at g3
        cases hw : rg n 0 99
        · rw [hw] at g4
          refine ⟨_, ?_, IM_r (nI 5) h0, lo_ref Lo_00⟩
          simp (disch := first | assumption | omega) only [z_bd, z_cal, z_gd, z_iT, z_iF, z_le_t, z_le_f, z_lt_t, z_lt_f, z_cl, z_inb, z_at, z_pl, z_lit, nI_ii1, nI_add, nI_mul, z_eq_f, z_refuse, z_no, z_M00, b2i_t, b2i_f, g1, g2, g3, g4, oB, z_b01n0]
        · rw [hw] at g4
          obtain ⟨hO, hC, hP, hD⟩ := IM_get h0
          have w1 := hP.1
          have w2 := hP.2.1
          obtain ⟨a, ha, rfl⟩ := ix_ex (by omega) hx
          obtain ⟨b, hb, rfl⟩ := ix_ex (by omega) hy
          obtain ⟨c, -, hc, rfl⟩ := rg_ex (by omega) hz
          obtain ⟨e, -, he, rfl⟩ := rg_ex (by omega) hw
          have e1 : (nI a).toNatClampNeg = a := z_cl (by omega)
          have e2 : (nI b).toNatClampNeg = b := z_cl (by omega)
          have e3 : (nI c).toNatClampNeg = c := z_cl (by omega)
          have e4 : (nI e).toNatClampNeg = e := z_cl (by omega)
          have hF : FrN (M00 M) (sA (M00 M) 140 (upd (mA (M00 M) 140) (52 + 24 * c + 6 * a + b) (nI e))) := FrN.up (by omega)
          have ec : mA (sA (M00 M) 140 (upd (mA (M00 M) 140) (52 + 24 * c + 6 * a + b) (nI e))) 140 = upd (mA (M00 M) 140) (52 + 24 * c + 6 * a + b) (nI e) := by rw [mA_sA, if_pos rfl]
          have hD2 : MD (mA (sA (M00 M) 140 (upd (mA (M00 M) 140) (52 + 24 * c + 6 * a + b) (nI e))) 140) (mB (M00 M) 143) (wdV (gY σ) (updN (dV (gY σ)) (24 * c + 6 * a + b) e)) := by
            rw [ec]
            obtain ⟨h1, h2, h3, h4, h5, h6, h7⟩ := hD
            have hl := hP.2.2.2.1
            refine ⟨?_, ?_, fun p hp => ⟨?_, (h3 p hp).2⟩, fun k hk => ⟨(h4 k hk).1, ?_⟩, fun k i hk hi => ?_, fun k hk => ?_, fun w p k hw hp hk => ?_⟩
            · rw [upd_at, if_neg (by omega)]; exact h1
            · rw [upd_at, if_neg (by omega)]; exact h2
            · have hp' : p < dQ (gY σ) := hp
              rw [upd_at, if_neg (by omega)]; exact (h3 p hp).1
            · have hk' : k < dC (gY σ) := hk
              rw [upd_at, if_neg (by omega)]; exact (h4 k hk).2
            · have hk' : k < dC (gY σ) := hk
              have hi' : i < dL (gY σ) k := hi
              have := hl k hk
              rw [upd_at, if_neg (by omega)]; exact h5 k i hk hi
            · have hk' : k < dC (gY σ) := hk
              rw [upd_at, if_neg (by omega)]; exact h6 k hk
            · have hk' : k < dC (gY σ) := hk
              have hp' : p < dQ (gY σ) := hp
              rw [upd_at]
              show _ = nI (updN (dV (gY σ)) _ _ _)
              unfold updN
              by_cases hpa : 24 * w + 6 * p + k = 24 * c + 6 * a + b
              · rw [if_pos (by omega), if_pos hpa]
              · rw [if_neg (by omega), if_neg hpa]; exact h7 w p k hw hp hk
          simp only [oB]
          rw [e1, e2, e3, e4]
          refine ⟨_, ?_, IM_deal h0 hF rfl (MC_d (by omega) hC) (fun p h1 h2 => by rw [ec, upd_at, if_neg (by omega)]) hD2 (OkD_V hP he), Lo_00.tr hF.lo⟩
          simp (disch := first | assumption | omega) only [z_bd, z_cal, z_gd, z_iT, z_iF, z_le_t, z_le_f, z_lt_t, z_lt_f, z_cl, z_inb, z_at, z_pl, z_lit, nI_ii1, nI_add, nI_mul, z_eq_f, z_refuse, z_no, z_M00, b2i_t, b2i_f, g1, g2, g3, g4]
/-! what comes undone of what is said -/
def notI (x : Int32) : Int32 := x ^^^ (-nI 1)
def o_pulledOut (r side : Int32) (σ : Sg) : Int32 × Sg := oG (ix r (cR (gX σ))) 2 (oG (rg side 0 1) 5 (nI (sdSet (gX σ) (gY σ)) &&& (nI (sdSet (pulX (gX σ) r.toNatClampNeg side.toNatClampNeg) (gY σ)) ^^^ (-nI 1)), wS σ (nI 0)) σ) σ
theorem pC_pulledOut (r side : Int32) : PC (f_KT_pulledOut r side) (o_pulledOut r side) := by
  intro M σ h
  have g := q_pullStatus h r side
  rw [f_KT_pulledOut]
  unfold o_pulledOut
  unfold plSt at g
  cases hx : ix r (cR (gX σ))
  · rw [hx] at g
    refine ⟨_, ?_, IC_st (nI 2) h, Hi_st⟩
    simp (disch := first | assumption | omega) only [z_bd, z_cal, z_gd, z_iT, z_iF, z_le_t, z_le_f, z_lt_t, z_lt_f, z_cl, z_inb, z_at, z_pl, z_lit, nI_ii1, nI_add, z_mr, z_ref0, z_refn, z_eq_f, Bool.not_true, Bool.not_false, b2i_t, b2i_f, g, oG, Bool.false_eq_true]
  · cases hz : rg side 0 1
    · rw [hx, hz] at g
      refine ⟨_, ?_, IC_st (nI 5) h, Hi_st⟩
      simp (disch := first | assumption | omega) only [z_bd, z_cal, z_gd, z_iT, z_iF, z_le_t, z_le_f, z_lt_t, z_lt_f, z_cl, z_inb, z_at, z_pl, z_lit, nI_ii1, nI_add, z_mr, z_ref0, z_refn, z_eq_f, Bool.not_true, Bool.not_false, b2i_t, b2i_f, g, oG, Bool.false_eq_true]
    · rw [hx, hz] at g
      have h1 := IC_st (nI 0) h
      obtain ⟨s, t, hK, hO, hC, hP, hD⟩ := IC_get h1
      have w2 := hO.2.2.1
      obtain ⟨a, ha, rfl⟩ := ix_ex (by omega) hx
      obtain ⟨b, -, hb, rfl⟩ := rg_ex (by omega) hz
      obtain ⟨M1, a1, a2, a3⟩ := q_tried hK hO hC
      obtain ⟨ta, t0, tc⟩ := trial_ap hK
      have hK1 := hK.fr a3 t0
      have hD1 := CD_fr a3 (fun id h1 h2 => ta id (by omega) (by omega)) hD
      have es := q_saidSet hO a2 hP hD1
      obtain ⟨M', b1, b2, b3⟩ := q_pull hO a2 ha hb
      have hK2 := hK1.fr b3 t0
      have hD2 := CD_fr b3 (fun id h1 h2 => ta id (by omega) (by omega)) hD1
      have es2 := q_saidSet (OkC_pul hO a b) b2 hP hD2
      have e1 : (nI a).toNatClampNeg = a := z_cl (by omega)
      have e2 : (nI b).toNatClampNeg = b := z_cl (by omega)
      simp only [oG]
      rw [e1, e2]
      refine ⟨M', ?_, IC_trial h1 hK (a3.tr b3), Hi_st.tr (hi_inT hK (a3.tr b3))⟩
      simp (disch := first | assumption | omega) only [z_bd, z_cal, z_gd, z_iT, z_iF, z_le_t, z_le_f, z_lt_t, z_lt_f, z_cl, z_inb, z_at, z_pl, z_lit, nI_ii1, nI_add, z_mr, z_ref0, z_refn, z_eq_f, Bool.not_true, Bool.not_false, b2i_t, b2i_f, g, a1, tc, hK1.1, hK.s1, es, b1, hK2.1, es2]
theorem pM_pulledOut (r side : Int32) : PM (f_RM_pulledOut r side) (o_pulledOut r side) := by
  intro M σ h
  have h0 := IM_00 h
  have g1 := g_isRow h0 r
  have g3 := z_isSide side (M00 M)
  rw [f_RM_pulledOut]
  unfold o_pulledOut
  cases hx : ix r (cR (gX σ))
  · rw [show ix r (cR (gX (wS σ (nI 0)))) = false from hx] at g1
    refine ⟨_, ?_, IM_r (nI 2) h0, lo_ref Lo_00⟩
    simp (disch := first | assumption | omega) only [z_bd, z_cal, z_gd, z_iT, z_iF, z_le_t, z_le_f, z_lt_t, z_lt_f, z_cl, z_inb, z_at, z_pl, z_lit, nI_ii1, nI_add, nI_mul, z_eq_f, z_refuse, z_no, z_M00, b2i_t, b2i_f, g1, oG]
  · rw [show ix r (cR (gX (wS σ (nI 0)))) = true from hx] at g1
    cases hz : rg side 0 1
    · rw [hz] at g3
      refine ⟨_, ?_, IM_r (nI 5) h0, lo_ref Lo_00⟩
      simp (disch := first | assumption | omega) only [z_bd, z_cal, z_gd, z_iT, z_iF, z_le_t, z_le_f, z_lt_t, z_lt_f, z_cl, z_inb, z_at, z_pl, z_lit, nI_ii1, nI_add, nI_mul, z_eq_f, z_refuse, z_no, z_M00, b2i_t, b2i_f, g1, g3, oG]
    · rw [hz] at g3
      obtain ⟨hO, hC, hP, hD⟩ := IM_get h0
      have w2 := hO.2.2.1
      obtain ⟨a, ha, rfl⟩ := ix_ex (by omega) hx
      obtain ⟨b, -, hb, rfl⟩ := rg_ex (by omega) hz
      have es := q_saidOnes hO hC hP hD
      obtain ⟨M1, a1, a2, a3⟩ := q_keeps (M00 M)
      have e140 : mA M1 140 = mA (M00 M) 140 := (a2 140 (by decide)).2.2.1
      obtain ⟨M2, b1, b2, b3⟩ := q_Mpull (M := M1) hO (by rw [e140]; exact hC) ha hb
      have hD2 := MD_frM (M := M1) hP b3 (by rw [e140]; exact hD)
      have es2 := q_saidOnes (OkC_pul hO a b) b2 hP hD2
      obtain ⟨M3, g4, g5⟩ := q_gives a2 a3 b3
      have e1 : (nI a).toNatClampNeg = a := z_cl (by omega)
      have e2 : (nI b).toNatClampNeg = b := z_cl (by omega)
      simp only [oG]
      rw [e1, e2]
      refine ⟨M3, ?_, IM_A g5 h0, Lo_00.tr (g5.1.mono (fun id e => by show 135 ≤ id; omega))⟩
      simp (disch := first | assumption | omega) only [z_bd, z_cal, z_gd, z_iT, z_iF, z_le_t, z_le_f, z_lt_t, z_lt_f, z_cl, z_inb, z_at, z_pl, z_lit, nI_ii1, nI_add, nI_mul, z_eq_f, z_refuse, z_no, z_M00, b2i_t, b2i_f, g1, g3, es, a1, b1, es2, g4]
end
