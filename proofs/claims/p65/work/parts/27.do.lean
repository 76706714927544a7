section
variable {M M' : kx_M} {σ : Sg} {h : Nat → Int64}
theorem IC_now {s t : Nat} {u : St} (hI : IC M σ) (hK : KN M s t) (hF : Fr (fun id => s ≤ id ∧ id ≤ s + 19) M M') (hS : CS M' s u) (hu : OkSt u) : IC M' (wNow σ u) := by
  obtain ⟨hO, s1, t1, hK1, -, ⟨a1, a2, a3, a4, a5⟩, hT, ⟨b1, b2⟩, ⟨c1, c2⟩, ⟨d1, d2⟩, hk, hw⟩ := hI
  have es : s1 = s := hK1.1.symm.trans hK.1
  subst es
  have ha := hK.ap
  have n0 : ¬ (s1 ≤ 0 ∧ 0 ≤ s1 + 19) := by omega
  obtain ⟨f0, j0, -, -, r0⟩ := hF 0 n0
  refine ⟨⟨hu, hO.2⟩, s1, t1, hK1.fr hF n0, hS, ⟨?_, ?_, ?_, ?_, ?_⟩, fun q hq => CT_fr hF (by omega) (by omega) (hT q hq), ⟨?_, ?_⟩, ⟨?_, fun i hi => CS_fr hF (fun id h1 h2 e => by have := hO.2.1; omega) (c2 i hi)⟩, ⟨?_, ?_⟩, ?_, ?_⟩
  · rw [f0]; exact a1
  · rw [j0]; exact a2
  · rw [j0]; exact a3
  · rw [f0]; exact a4
  · rw [f0]; exact a5
  · rw [f0]; exact b1
  · rw [(hF 2 (by omega)).2.2.1]; exact b2
  · rw [f0]; exact c1
  · rw [f0]; exact d1
  · obtain ⟨f, -, -, -, -⟩ := hF 23 (by omega)
    rw [f, f, f, f, f]; exact d2
  · rw [(hF 6 (by omega)).2.2.2.1, (hF 10 (by omega)).2.2.2.1]; exact hk
  · obtain ⟨-, -, -, -, r⟩ := hF 13 (by omega)
    rw [r, r]; exact hw
def FrN (M M' : kx_M) : Prop := Fr (fun id => 140 ≤ id ∧ id ≤ 149 ∧ id ≠ 143) M M' ∧ ∀ p, 768 ≤ p → mA M' 140 p = mA M 140 p
theorem FrN.tr {M'' : kx_M} (a : FrN M M') (b : FrN M' M'') : FrN M M'' := ⟨a.1.tr b.1, fun p hp => (b.2 p hp).trans (a.2 p hp)⟩
theorem IC_cloth {s t : Nat} {x : Cl} (hI : IC M σ) (hK : KN M s t) (hF : Fr (inC (s + 9)) M M') (hC : CC M' (s + 9) x) (hx : OkC x) (hY : cY x ≤ 9999) (hW : cW x = cW (gX σ)) : IC M' (wX σ x) := by
  have hI2 := hI
  obtain ⟨hO, s1, t1, hK1, hS, -⟩ := hI2
  have es : s1 = s := hK1.1.symm.trans hK.1
  subst es
  refine IC_now hI hK (hF.mono (fun id e => by have := e.1; have := e.2; omega)) ⟨hC, CD_fr hF (fun id h1 h2 e => by have := e.1; omega) hS.2.1, ?_⟩ ⟨hx, hY, OkD_W hW hO.1.2.2.1, fun e => by show _ ∧ Wel (cW x) _ _ _ _ _ _; rw [hW]; exact hO.1.2.2.2 e⟩
  have hz := CZ_fr hF (fun id h1 h2 e => by have := e.2; omega) hS.2.2
  show CZ M' (s1 + 15) (cW x) _ _
  rw [hW]
  exact hz
def o_year (n : Int32) (σ : Sg) : Int32 × Sg := oG (rg n 1 99) 5 (if cY (gX σ) + n.toNatClampNeg ≤ 9999 then (nI (yrs (gX σ) n.toNatClampNeg).2, wX (wS σ (nI 0)) (yrM (gX σ) n.toNatClampNeg)) else (-nI 1, wS σ (nI 7))) σ
theorem pC_year (n : Int32) : PC (f_KT_year n) (o_year n) := by
  intro M σ h
  rw [f_KT_year]
  unfold o_year
  have h2 := h
  obtain ⟨hO2, s2, t2, hK2, hS2, -⟩ := h2
  have hY : cY (gX σ) ≤ 9999 := hO2.1.2.1
  have e5 : mI M (s2 + 9) 8 = nI (cY (gX σ)) := hS2.1.2.2.2.1
  cases hz : rg n 1 99
  · refine ⟨_, ?_, IC_st (nI 5) h, Hi_st⟩
    rcases rg_f (by omega) (by omega) hz with h1 | ⟨h1, h2⟩
    · simp (disch := first | assumption | omega) only [z_bd, z_cal, z_gd, z_iT, z_iF, z_le_t, z_le_f, z_lt_t, z_lt_f, z_cl, z_inb, z_at, z_lit, nI_ii1, nI_add, z_mr, z_ref0, z_refn, z_eq_f, Bool.not_true, Bool.not_false, b2i_t, b2i_f, oG, f_KT_year_l39, h1]
    · simp (disch := first | assumption | omega) only [z_bd, z_cal, z_gd, z_iT, z_iF, z_le_t, z_le_f, z_lt_t, z_lt_f, z_cl, z_inb, z_at, z_lit, nI_ii1, nI_add, z_mr, z_ref0, z_refn, z_eq_f, Bool.not_true, Bool.not_false, b2i_t, b2i_f, oG, f_KT_year_l39, h1, h2]
  · obtain ⟨c, hc1, hc, rfl⟩ := rg_ex (by omega) hz
    have ec : (nI c).toNatClampNeg = c := z_cl (by omega)
    simp only [oG]
    rw [ec]
    by_cases h9 : cY (gX σ) + c ≤ 9999
    · have h1 := IC_st (nI 0) h
      obtain ⟨s, t, hK, hO, hC, hP, hD⟩ := IC_get h1
      obtain ⟨M', b1, b2, b3⟩ := q_years (N := c) (by omega) hO hC
      rw [if_pos h9]
      refine ⟨M', ?_, IC_cloth h1 hK b3 b2 (OkC_yrM hO (by omega)) h9 (by show cW (yrs (gX σ) c).1 = _; unfold cW; rw [yrs_sh]; rfl), Hi_st.tr (b3.mono (fun id e => by have := hK.ap; have := e.2; show id < 135; omega))⟩
      simp (disch := first | assumption | omega) only [z_bd, z_cal, z_gd, z_iT, z_iF, z_le_t, z_le_f, z_lt_t, z_lt_f, z_cl, z_inb, z_at, z_lit, nI_ii1, nI_add, z_mr, z_ref0, z_refn, z_eq_f, Bool.not_true, Bool.not_false, b2i_t, b2i_f, hK2.1, hK2.s1, e5, f_KT_year_l39, hK.1, hK.s1, b1]
    · rw [if_neg h9]
      refine ⟨_, ?_, IC_st (nI 7) h, Hi_st⟩
      simp (disch := first | assumption | omega) only [z_bd, z_cal, z_gd, z_iT, z_iF, z_le_t, z_le_f, z_lt_t, z_lt_f, z_cl, z_inb, z_at, z_lit, nI_ii1, nI_add, z_mr, z_ref0, z_refn, z_eq_f, Bool.not_true, Bool.not_false, b2i_t, b2i_f, hK2.1, hK2.s1, e5, f_KT_year_l39]
def plSt (r side : Int32) (σ : Sg) : Nat := if ix r (cR (gX σ)) = true then (if rg side 0 1 = true then 0 else 5) else 2
theorem q_pullStatus (h : IC M σ) (r side : Int32) : f_KT_pullStatus r side M = some (nI (plSt r side σ), M) := by
  have g1 := q_noRow h r
  rw [f_KT_pullStatus]
  unfold plSt
  cases hx : ix r (cR (gX σ))
  · rw [hx] at g1
    simp (disch := first | assumption | omega) only [z_bd, z_cal, z_gd, z_iT, z_iF, z_le_t, z_le_f, z_lt_t, z_lt_f, z_cl, z_inb, z_at, z_lit, nI_ii1, nI_add, z_mr, z_ref0, z_refn, z_eq_f, Bool.not_true, Bool.not_false, b2i_t, b2i_f, g1, Bool.false_eq_true]
  · rw [hx] at g1
    cases hz : rg side 0 1
    · rcases rg_f (by omega) (by omega) hz with h1 | ⟨h1, h2⟩
      · simp (disch := first | assumption | omega) only [z_bd, z_cal, z_gd, z_iT, z_iF, z_le_t, z_le_f, z_lt_t, z_lt_f, z_cl, z_inb, z_at, z_lit, nI_ii1, nI_add, z_mr, z_ref0, z_refn, z_eq_f, Bool.not_true, Bool.not_false, b2i_t, b2i_f, g1, Bool.false_eq_true, h1]
      · simp (disch := first | assumption | omega) only [z_bd, z_cal, z_gd, z_iT, z_iF, z_le_t, z_le_f, z_lt_t, z_lt_f, z_cl, z_inb, z_at, z_lit, nI_ii1, nI_add, z_mr, z_ref0, z_refn, z_eq_f, Bool.not_true, Bool.not_false, b2i_t, b2i_f, g1, Bool.false_eq_true, h1, h2]
    · obtain ⟨n, -, hn, rfl⟩ := rg_ex (by omega) hz
      simp (disch := first | assumption | omega) only [z_bd, z_cal, z_gd, z_iT, z_iF, z_le_t, z_le_f, z_lt_t, z_lt_f, z_cl, z_inb, z_at, z_lit, nI_ii1, nI_add, z_mr, z_ref0, z_refn, z_eq_f, Bool.not_true, Bool.not_false, b2i_t, b2i_f, g1, nI_pos0]
def o_pull (r side : Int32) (σ : Sg) : Int32 × Sg := oG (ix r (cR (gX σ))) 2 (oG (rg side 0 1) 5 (nI (pulU (gX σ) r.toNatClampNeg side.toNatClampNeg).2, wX (wS σ (nI 0)) (pulX (gX σ) r.toNatClampNeg side.toNatClampNeg)) σ) σ
theorem hi_inC {s t : Nat} (hK : KN M s t) (hF : Fr (inC (s + 9)) M M') : Hi M M' := hF.mono (fun id e => by have := hK.ap; have := e.2; show id < 135; omega)
theorem hi_inT {s t : Nat} (hK : KN M s t) (hF : Fr (inC (t + 9)) M M') : Hi M M' := hF.mono (fun id e => by have := hK.ap; have := e.2; show id < 135; omega)
theorem pC_pull (r side : Int32) : PC (f_KT_pull r side) (o_pull r side) := by
  intro M σ h
  have g := q_pullStatus h r side
  rw [f_KT_pull]
  unfold o_pull
  unfold plSt at g
  cases hx : ix r (cR (gX σ))
  · rw [hx] at g
    refine ⟨_, ?_, IC_st (nI 2) h, Hi_st⟩
    simp (disch := first | assumption | omega) only [z_bd, z_cal, z_gd, z_iT, z_iF, z_le_t, z_le_f, z_lt_t, z_lt_f, z_cl, z_inb, z_at, z_lit, nI_ii1, nI_add, z_mr, z_ref0, z_refn, z_eq_f, Bool.not_true, Bool.not_false, b2i_t, b2i_f, g, oG, Bool.false_eq_true]
  · cases hz : rg side 0 1
    · rw [hx, hz] at g
      refine ⟨_, ?_, IC_st (nI 5) h, Hi_st⟩
      simp (disch := first | assumption | omega) only [z_bd, z_cal, z_gd, z_iT, z_iF, z_le_t, z_le_f, z_lt_t, z_lt_f, z_cl, z_inb, z_at, z_lit, nI_ii1, nI_add, z_mr, z_ref0, z_refn, z_eq_f, Bool.not_true, Bool.not_false, b2i_t, b2i_f, g, oG, Bool.false_eq_true]
    · rw [hx, hz] at g
      have h1 := IC_st (nI 0) h
      obtain ⟨s, t, hK, hO, hC, hP, hD⟩ := IC_get h1
      have w2 := hO.2.2.1
      obtain ⟨a, ha, rfl⟩ := ix_ex (by omega) hx
      obtain ⟨b, -, hb, rfl⟩ := rg_ex (by omega) hz
      obtain ⟨M', b1, b2, b3⟩ := q_pull hO hC ha hb
      have e1 : (nI a).toNatClampNeg = a := z_cl (by omega)
      have e2 : (nI b).toNatClampNeg = b := z_cl (by omega)
      simp only [oG]
      rw [e1, e2]
      refine ⟨M', ?_, IC_cloth h1 hK b3 b2 (OkC_pul hO a b) h.1.1.2.1 rfl, Hi_st.tr (hi_inC hK b3)⟩
      simp (disch := first | assumption | omega) only [z_bd, z_cal, z_gd, z_iT, z_iF, z_le_t, z_le_f, z_lt_t, z_lt_f, z_cl, z_inb, z_at, z_lit, nI_ii1, nI_add, z_mr, z_ref0, z_refn, z_eq_f, Bool.not_true, Bool.not_false, b2i_t, b2i_f, g, hK.1, hK.s1, b1]
def o_pulled (r side : Int32) (σ : Sg) : Int32 × Sg := oG (ix r (cR (gX σ))) 2 (oG (rg side 0 1) 5 (nI (pulU (gX σ) r.toNatClampNeg side.toNatClampNeg).2, wS σ (nI 0)) σ) σ
theorem IC_trial {s t : Nat} (hI : IC M σ) (hK : KN M s t) (hF : Fr (inC (t + 9)) M M') : IC M' σ := IC_fr hF (fun s1 t1 hK1 id e => by
  have et : t1 = t := hK1.2.1.symm.trans hK.2.1
  subst et
  have := e.1; have := e.2; omega) hI
theorem pC_pulled (r side : Int32) : PC (f_KT_pulled r side) (o_pulled r side) := by
  intro M σ h
  have g := q_pullStatus h r side
  rw [f_KT_pulled]
  unfold o_pulled
  unfold plSt at g
  cases hx : ix r (cR (gX σ))
  · rw [hx] at g
    refine ⟨_, ?_, IC_st (nI 2) h, Hi_st⟩
    simp (disch := first | assumption | omega) only [z_bd, z_cal, z_gd, z_iT, z_iF, z_le_t, z_le_f, z_lt_t, z_lt_f, z_cl, z_inb, z_at, z_lit, nI_ii1, nI_add, z_mr, z_ref0, z_refn, z_eq_f, Bool.not_true, Bool.not_false, b2i_t, b2i_f, g, oG, Bool.false_eq_true]
  · cases hz : rg side 0 1
    · rw [hx, hz] at g
      refine ⟨_, ?_, IC_st (nI 5) h, Hi_st⟩
      simp (disch := first | assumption | omega) only [z_bd, z_cal, z_gd, z_iT, z_iF, z_le_t, z_le_f, z_lt_t, z_lt_f, z_cl, z_inb, z_at, z_lit, nI_ii1, nI_add, z_mr, z_ref0, z_refn, z_eq_f, Bool.not_true, Bool.not_false, b2i_t, b2i_f, g, oG, Bool.false_eq_true]
    · rw [hx, hz] at g
      have h1 := IC_st (nI 0) h
      obtain ⟨s, t, hK, hO, hC, hP, hD⟩ := IC_get h1
      have w2 := hO.2.2.1
      obtain ⟨a, ha, rfl⟩ := ix_ex (by omega) hx
      obtain ⟨b, -, hb, rfl⟩ := rg_ex (by omega) hz
      obtain ⟨M1, a1, a2, a3⟩ := q_tried hK hO hC
      obtain ⟨ta, t0, tc⟩ := trial_ap hK
      obtain ⟨M', b1, b2, b3⟩ := q_pull hO a2 ha hb
      have e1 : (nI a).toNatClampNeg = a := z_cl (by omega)
      have e2 : (nI b).toNatClampNeg = b := z_cl (by omega)
      simp only [oG]
      rw [e1, e2]
      refine ⟨M', ?_, IC_trial h1 hK (a3.tr b3), Hi_st.tr (hi_inT hK (a3.tr b3))⟩
      simp (disch := first | assumption | omega) only [z_bd, z_cal, z_gd, z_iT, z_iF, z_le_t, z_le_f, z_lt_t, z_lt_f, z_cl, z_inb, z_at, z_lit, nI_ii1, nI_add, z_mr, z_ref0, z_refn, z_eq_f, Bool.not_true, Bool.not_false, b2i_t, b2i_f, g, a1, tc, b1]
def o_moth (r i : Int32) (σ : Sg) : Int32 × Sg := oG (ix r (cR (gX σ))) 2 (oG (ix i (cW (gX σ))) 2 (oG (looseB (gX σ) (8 * r.toNatClampNeg + i.toNatClampNeg)) 9 (nI (eatU (gX σ) r.toNatClampNeg i.toNatClampNeg).2, wX (wS σ (nI 0)) (eatX (gX σ) r.toNatClampNeg i.toNatClampNeg)) σ) σ) σ
theorem pC_moth (r i : Int32) : PC (f_KT_moth r i) (o_moth r i) := by
  intro M σ h
  have g1 := q_noRow h r
  have g2 := q_noColumn h i
  rw [f_KT_moth]
  unfold o_moth
  cases hx : ix r (cR (gX σ))
  · rw [hx] at g1
    refine ⟨_, ?_, IC_st (nI 2) h, Hi_st⟩
    simp (disch := first | assumption | omega) only [z_bd, z_cal, z_gd, z_iT, z_iF, z_le_t, z_le_f, z_lt_t, z_lt_f, z_cl, z_inb, z_at, z_lit, nI_ii1, nI_add, z_mr, z_ref0, z_refn, z_eq_f, Bool.not_true, Bool.not_false, b2i_t, b2i_f, g1, oG, f_KT_moth_l44]
  · rw [hx] at g1
    cases hy : ix i (cW (gX σ))
    · rw [hy] at g2
      refine ⟨_, ?_, IC_st (nI 2) h, Hi_st⟩
      simp (disch := first | assumption | omega) only [z_bd, z_cal, z_gd, z_iT, z_iF, z_le_t, z_le_f, z_lt_t, z_lt_f, z_cl, z_inb, z_at, z_lit, nI_ii1, nI_add, z_mr, z_ref0, z_refn, z_eq_f, Bool.not_true, Bool.not_false, b2i_t, b2i_f, g1, g2, oG, f_KT_moth_l44]
    · rw [hy] at g2
      obtain ⟨s2, t2, hK2, hO2, hC2, -, -⟩ := IC_get (u := gS σ) h
      have h1 := IC_st (nI 0) h
      obtain ⟨s, t, hK, hO, hC, hP, hD⟩ := IC_get h1
      have w2 := hO.2.2.1
      have w3 := hO.1.2
      obtain ⟨a, ha, rfl⟩ := ix_ex (by omega) hx
      obtain ⟨b, hb, rfl⟩ := ix_ex (by omega) hy
      have e1 : (nI a).toNatClampNeg = a := z_cl (by omega)
      have e2 : (nI b).toNatClampNeg = b := z_cl (by omega)
      have hl := q_loose hO2 hC2 ha hb
      simp only [oG]
      rw [e1, e2]
      cases hlo : looseB (gX σ) (8 * a + b)
      · rw [hlo] at hl
        refine ⟨_, ?_, IC_st (nI 9) h, Hi_st⟩
        simp (disch := first | assumption | omega) only [z_bd, z_cal, z_gd, z_iT, z_iF, z_le_t, z_le_f, z_lt_t, z_lt_f, z_cl, z_inb, z_at, z_lit, nI_ii1, nI_add, z_mr, z_ref0, z_refn, z_eq_f, Bool.not_true, Bool.not_false, b2i_t, b2i_f, g1, g2, hK2.1, hK2.s1, hl, f_KT_moth_l44]
      · rw [hlo] at hl
        obtain ⟨M', b1, b2, b3⟩ := q_eat hO hC ha hb
        refine ⟨M', ?_, IC_cloth h1 hK b3 b2 (OkC_eat hO a b) h.1.1.2.1 rfl, Hi_st.tr (hi_inC hK b3)⟩
        simp (disch := first | assumption | omega) only [z_bd, z_cal, z_gd, z_iT, z_iF, z_le_t, z_le_f, z_lt_t, z_lt_f, z_cl, z_inb, z_at, z_lit, nI_ii1, nI_add, z_mr, z_ref0, z_refn, z_eq_f, Bool.not_true, Bool.not_false, b2i_t, b2i_f, g1, g2, hK2.1, hK2.s1, hl, f_KT_moth_l44, hK.1, hK.s1, b1]
def o_darn (r i : Int32) (σ : Sg) : Int32 × Sg := oG (ix r (cR (gX σ))) 2 (oG (ix i (cW (gX σ))) 2 (nI (cN (gX σ) (8 * r.toNatClampNeg + i.toNatClampNeg)), wX (wS σ (nI 0)) (patX (gX σ) (8 * r.toNatClampNeg + i.toNatClampNeg))) σ) σ
theorem pC_darn (r i : Int32) : PC (f_KT_darn r i) (o_darn r i) := by
  intro M σ h
  have g1 := q_noRow h r
  have g2 := q_noColumn h i
  rw [f_KT_darn]
  unfold o_darn
  cases hx : ix r (cR (gX σ))
  · rw [hx] at g1
    refine ⟨_, ?_, IC_st (nI 2) h, Hi_st⟩
    simp (disch := first | assumption | omega) only [z_bd, z_cal, z_gd, z_iT, z_iF, z_le_t, z_le_f, z_lt_t, z_lt_f, z_cl, z_inb, z_at, z_lit, nI_ii1, nI_add, z_mr, z_ref0, z_refn, z_eq_f, Bool.not_true, Bool.not_false, b2i_t, b2i_f, g1, oG, f_KT_darn_l22]
  · rw [hx] at g1
    cases hy : ix i (cW (gX σ))
    · rw [hy] at g2
      refine ⟨_, ?_, IC_st (nI 2) h, Hi_st⟩
      simp (disch := first | assumption | omega) only [z_bd, z_cal, z_gd, z_iT, z_iF, z_le_t, z_le_f, z_lt_t, z_lt_f, z_cl, z_inb, z_at, z_lit, nI_ii1, nI_add, z_mr, z_ref0, z_refn, z_eq_f, Bool.not_true, Bool.not_false, b2i_t, b2i_f, g1, g2, oG, f_KT_darn_l22]
    · rw [hy] at g2
      have h1 := IC_st (nI 0) h
      obtain ⟨s, t, hK, hO, hC, hP, hD⟩ := IC_get h1
      have w2 := hO.2.2.1
      have w3 := hO.1.2
      obtain ⟨a, ha, rfl⟩ := ix_ex (by omega) hx
      obtain ⟨b, hb, rfl⟩ := ix_ex (by omega) hy
      have e1 : (nI a).toNatClampNeg = a := z_cl (by omega)
      have e2 : (nI b).toNatClampNeg = b := z_cl (by omega)
      obtain ⟨M', b1, b2, b3⟩ := q_pat hO hC ha hb
      simp only [oG]
      rw [e1, e2]
      refine ⟨M', ?_, IC_cloth h1 hK b3 b2 (OkC_pat hO _) h.1.1.2.1 rfl, Hi_st.tr (hi_inC hK b3)⟩
      simp (disch := first | assumption | omega) only [z_bd, z_cal, z_gd, z_iT, z_iF, z_le_t, z_le_f, z_lt_t, z_lt_f, z_cl, z_inb, z_at, z_lit, nI_ii1, nI_add, z_mr, z_ref0, z_refn, z_eq_f, Bool.not_true, Bool.not_false, b2i_t, b2i_f, g1, g2, f_KT_darn_l22, hK.1, hK.s1, b1]
def o_lost (k : Int32) (σ : Sg) : Int32 × Sg := oG (ix k (dC (gY σ))) 2 (match lostN (gX σ) (gY σ) k.toNatClampNeg with
  | some v => (nI v, wS σ (nI 0))
  | none => (-nI 1, wS σ (nI 8))) σ
theorem pC_lost (k : Int32) : PC (f_KT_lost k) (o_lost k) := by
  intro M σ h
  have g1 := q_noClause h k
  rw [f_KT_lost]
  unfold o_lost
  cases hx : ix k (dC (gY σ))
  · rw [hx] at g1
    refine ⟨_, ?_, IC_st (nI 2) h, Hi_st⟩
    simp (disch := first | assumption | omega) only [z_bd, z_cal, z_gd, z_iT, z_iF, z_le_t, z_le_f, z_lt_t, z_lt_f, z_cl, z_inb, z_at, z_lit, nI_ii1, nI_add, z_mr, z_ref0, z_refn, z_eq_f, Bool.not_true, Bool.not_false, b2i_t, b2i_f, g1, oG, f_KT_lost_l14]
  · rw [hx] at g1
    have h1 := IC_st (nI 0) h
    obtain ⟨s, t, hK, hO, hC, hP, hD⟩ := IC_get h1
    have w3 := hP.2.1
    obtain ⟨a, ha, rfl⟩ := ix_ex (by omega) hx
    have ec : (nI a).toNatClampNeg = a := z_cl (by omega)
    obtain ⟨M1, a1, a2, a3⟩ := q_tried hK hO hC
    obtain ⟨ta, t0, tc⟩ := trial_ap hK
    obtain ⟨M2, b1, b2⟩ := q_lost_l29 hP ha 100 FU 0 M1 (gX σ) (by omega) (FU_lt (by omega)) hO rfl (hK.fr a3 t0) a2 (CD_fr a3 (fun id h1 h2 => ta id (by omega) (by omega)) hD)
    simp only [oG]
    rw [ec]
    unfold lostN
    have hK1 := hK.fr a3 t0
    cases hl : lostF (gY σ) a 100 0 (gX σ) with
    | some v =>
      rw [hl] at b1 b2
      refine ⟨M2, ?_, IC_trial h1 hK (a3.tr b2), Hi_st.tr (hi_inT hK (a3.tr b2))⟩
      simp (disch := first | assumption | omega) only [z_bd, z_cal, z_gd, z_iT, z_iF, z_le_t, z_le_f, z_lt_t, z_lt_f, z_cl, z_inb, z_at, z_lit, nI_ii1, nI_add, z_mr, z_ref0, z_refn, z_eq_f, Bool.not_true, Bool.not_false, b2i_t, b2i_f, g1, f_KT_lost_l14, a1, tc]
      exact b1
    | none =>
      rw [hl] at b1 b2
      have h2 : IC (sI M1 0 13 (nI 8)) (wS σ (nI 8)) := IC_r (nI 8) (IC_trial h1 hK a3)
      refine ⟨M2, ?_, IC_trial h2 hK1 b2, (Hi_st.tr (hi_inT hK a3)).tr (Hi_st.tr (hi_inT hK1 b2))⟩
      simp (disch := first | assumption | omega) only [z_bd, z_cal, z_gd, z_iT, z_iF, z_le_t, z_le_f, z_lt_t, z_lt_f, z_cl, z_inb, z_at, z_lit, nI_ii1, nI_add, z_mr, z_ref0, z_refn, z_eq_f, Bool.not_true, Bool.not_false, b2i_t, b2i_f, g1, f_KT_lost_l14, a1, tc]
      exact b1
def o_undoneIn (n : Int32) (σ : Sg) : Int32 × Sg := oG (rg n 0 99) 5 (nI (sumRC (cU (yrs (gX σ) n.toNatClampNeg).1) (cW (gX σ)) (cR (gX σ))), wS σ (nI 0)) σ
theorem pC_undoneIn (n : Int32) : PC (f_KT_undoneIn n) (o_undoneIn n) := by
  intro M σ h
  rw [f_KT_undoneIn]
  unfold o_undoneIn
  cases hz : rg n 0 99
  · refine ⟨_, ?_, IC_st (nI 5) h, Hi_st⟩
    rcases rg_f (by omega) (by omega) hz with h1 | ⟨h1, h2⟩
    · simp (disch := first | assumption | omega) only [z_bd, z_cal, z_gd, z_iT, z_iF, z_le_t, z_le_f, z_lt_t, z_lt_f, z_cl, z_inb, z_at, nI_lit, nI_ii1, nI_add, z_mr, z_ref0, z_refn, z_eq_f, Bool.not_true, Bool.not_false, b2i_t, b2i_f, oG, f_KT_undoneIn_l16, h1]
    · simp (disch := first | assumption | omega) only [z_bd, z_cal, z_gd, z_iT, z_iF, z_le_t, z_le_f, z_lt_t, z_lt_f, z_cl, z_inb, z_at, nI_lit, nI_ii1, nI_add, z_mr, z_ref0, z_refn, z_eq_f, Bool.not_true, Bool.not_false, b2i_t, b2i_f, oG, f_KT_undoneIn_l16, h1, h2]
  · obtain ⟨c, hc1, hc, rfl⟩ := rg_ex (by omega) hz
    have ec : (nI c).toNatClampNeg = c := z_cl (by omega)
    have h1 := IC_st (nI 0) h
    obtain ⟨s, t, hK, hO, hC, hP, hD⟩ := IC_get h1
    have hY : cY (gX σ) ≤ 9999 := h.1.1.2.1
    obtain ⟨M1, a1, a2, a3⟩ := q_tried hK hO hC
    obtain ⟨ta, t0, tc⟩ := trial_ap hK
    obtain ⟨M2, b1, b2, b3⟩ := q_years (N := c) (by omega) hO a2
    have l4 : kx_lay[t + 9 + 4]? = some (1, 96, []) := lk_Cloth_undone tc
    have hO2 : OkC (yrM (gX σ) c) := OkC_yrM hO (by omega)
    have e := q_sum (u := cU (yrM (gX σ) c)) hO2 b2 l4 (fun r i hr hi => (b2.2.2.2.2.2 r i hr hi).2.2.1)
    have e3 : sumRC (cU (yrM (gX σ) c)) (cW (yrM (gX σ) c)) (cR (yrM (gX σ) c)) = sumRC (cU (yrs (gX σ) c).1) (cW (gX σ)) (cR (gX σ)) := by
      have e0 := yrs_sh c (gX σ)
      show sumRC (cU (yrs (gX σ) c).1) (yrs (gX σ) c).1.1.1 (yrs (gX σ) c).1.1.2.2.1 = _
      rw [e0]
      rfl
    rw [e3] at e
    simp only [oG]
    rw [ec]
    refine ⟨M2, ?_, IC_trial h1 hK (a3.tr b3), Hi_st.tr (hi_inT hK (a3.tr b3))⟩
    simp (disch := first | assumption | omega) only [z_bd, z_cal, z_gd, z_iT, z_iF, z_le_t, z_le_f, z_lt_t, z_lt_f, z_cl, z_inb, z_at, z_lit, nI_ii1, nI_add, z_mr, z_ref0, z_refn, z_eq_f, Bool.not_true, Bool.not_false, b2i_t, b2i_f, f_KT_undoneIn_l16, nI_pos0, a1, tc, b1, e]
end
