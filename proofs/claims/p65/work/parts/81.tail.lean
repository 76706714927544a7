/-! ## the law's rounds: their end -/
def Gd (o : Option (Int32 × kx_M)) : Prop := ∃ M', o = some (nI 1, M')
def totU (x : Cl) : Nat := sumRC (cU x) (cW x) (cR x)
/-- what stays over the rounds -/
def RN (v : Nat → Nat) (Y : Nat) (u : St) : Prop := cW u.1 = v 0 ∧ cR u.1 = v 4 ∧ dQ u.2.1 = v 2 ∧ dC u.2.1 = v 3 ∧ WFx u.1 ∧ cY u.1 ≤ Y ∧ OQ u.1 u.2.1
def RI (v : Nat → Nat) (Y : Nat) (σ : Sg) : Prop := RN v Y (gN σ) ∧ (gK σ).1 = 0 ∧ RTr σ (v 0)
theorem sayN_96 {x : Cl} (hO : OkC x) (y : De) (k : Nat) : sayN x y k ≤ 96 := by
  have h1 : sayN x y k ≤ 8 * cR x := sumN_le (fun r _ => tms_le hO k r)
  have := hO.2.2.1
  omega
section
variable {hA : Nat → Int32} {v : Nat → Nat} {M : kx_M} {σ : Sg} {sc : Nat × (Nat → Int32)}
theorem CO_h (h : CO hA M σ) (i : Nat) : mA M 136 i = hA i := congrFun h.2 i
theorem CO_v (hH : HOK hA v) (h : CO hA M σ) {i : Nat} (h1 : i < 52) (h2 : i < 19 ∨ 22 ≤ i) : mA M 136 i = nI (v i) := by rw [CO_h h, hH.1 i h1 h2]
theorem RI_X {Y Y' : Nat} {x' : Cl} (h : RI v Y σ) (h1 : x'.1.1 = v 0) (h2 : cR x' = v 4) (h3 : WFx x') (h4 : cY x' ≤ Y') (h5 : cO x' = cO (gX σ)) : RI v Y' (wX σ x') := by
  obtain ⟨⟨a1, a2, a3, a4, a5, a6, a7⟩, b, c⟩ := h
  refine ⟨⟨h1, h2, a3, a4, h3, h4, fun r hr => ?_⟩, b, c⟩
  have hr : r < cR x' := hr
  show cO x' r < dQ (gY σ)
  rw [h5]
  exact a7 r (by show r < cR (gX σ); rw [show cR (gX σ) = v 4 from a2]; omega)
theorem e_1541 {Y : Nat} {x4 x5 x7 : Int32} {rd : Nat} {K : Int32 → Int32 → Int32 → kx_M → Option (Int32 × kx_M)} (hH : HOK hA v) (h : CO hA M σ) (hI : RI v Y σ) (hK : ∀ M' σ', CO hA M' σ' → RI v Y σ' → Gd (K x4 x5 (nI (rd + 1)) M')) : Gd (f_LW_law_l1541 sc K x4 x5 (nI rd) x7 (nI (v 4)) M) := by
  have h0 := hH.2.1
  have h4 := hH.2.2.2.2.2.1
  obtain ⟨⟨a1, a2, a3, a4, a5, a6, a7⟩, b1, c1⟩ := hI
  have hI : RI v Y σ := ⟨⟨a1, a2, a3, a4, a5, a6, a7⟩, b1, c1⟩
  have hO := cOC h
  have eR : cR (gX σ) = v 4 := a2
  have eW : cW (gX σ) = v 0 := a1
  rw [f_LW_law_l1541]
  by_cases hR : v 4 = 0
  · have g := hK M σ h hI
    rw [hR]
    simp (disch := first | assumption | omega) only [z_bdn, z_caln, z_gdn, z_iT, z_iF, z_le_t, z_le_f, z_lt_t, z_lt_f, z_cl, z_inb, z_at, z_lit, nI_ii1, nI_add, z_mr, z_ref0, z_refn, z_eq_f, Bool.not_true, Bool.not_false, b2i_t, b2i_f]
    exact g
  · have e0 := CO_v hH h (i := 0) (by omega) (by omega)
    have z4 := z_nz (show 0 < v 4 by omega) (by omega)
    have z0 := z_nz (show 0 < v 0 by omega) (by omega)
    have zR : (nI (v 4) = nI 0) = False := z_eq_f hR (by omega) (by omega)
    obtain ⟨r, r1, r2⟩ := rem_m (x7 >>> (nI 5 &&& nI 31)) (m := 3) (q := v 4) (by decide) (by omega) (by omega)
    obtain ⟨i, i1, i2⟩ := rem_m (x7 >>> (nI 6 &&& nI 31)) (m := 7) (q := v 0) (by decide) (by omega) (by omega)
    by_cases hb : (x7 >>> (nI 4 &&& nI 31)) &&& nI 1 = nI 0
    · obtain ⟨M1, a, σ1, m1, m2, m3⟩ := c_moth h (r := r) (i := i) (by omega) (by omega)
      have g : Gd (K x4 x5 (nI (rd + 1)) M1) := by
        refine hK M1 σ1 m2 ?_
        rcases m3 with rfl | rfl
        · exact hI
        · exact RI_X hI a1 a2 (WF_eat hO a5 (by omega) (by omega)) a6 rfl
      simp (disch := first | assumption | omega) only [z_bdn, z_caln, z_gdn, z_iT, z_iF, z_le_t, z_le_f, z_lt_t, z_lt_f, z_cl, z_inb, z_at, z_lit, nI_ii1, nI_add, z_mr, z_ref0, z_refn, z_eq_f, Bool.not_true, Bool.not_false, b2i_t, b2i_f, zR, z4, z0, e0, r2, i2, m1]
      rw [if_pos hb]
      exact g
    · obtain ⟨M1, m1, m2⟩ := c_darn h (r := r) (i := i) (by omega) (by omega)
      have g : Gd (K x4 x5 (nI (rd + 1)) M1) := hK M1 _ m2 (RI_X hI a1 a2 (WF_pat a5 _) a6 rfl)
      simp (disch := first | assumption | omega) only [z_bdn, z_caln, z_gdn, z_iT, z_iF, z_le_t, z_le_f, z_lt_t, z_lt_f, z_cl, z_inb, z_at, z_lit, nI_ii1, nI_add, z_mr, z_ref0, z_refn, z_eq_f, Bool.not_true, Bool.not_false, b2i_t, b2i_f, zR, z4, z0, e0, r2, i2, m1]
      rw [if_neg hb]
      exact g
theorem mn4 (x : Cl) (y : De) : mnN x y 4 = cR x := rfl
theorem mn6 (x : Cl) (y : De) : mnN x y 6 = totU x := rfl
theorem mn9 (x : Cl) (y : De) : mnN x y 9 = sdSet x y := rfl
theorem cO_yrs : ∀ (m : Nat) (x : Cl), cO (yrs x m).1 = cO x
  | 0, _ => rfl
  | m + 1, x => cO_yrs m (yearX x)
/-- what the law has of LOST: -1 without CLAUSES -/
def lsI (v : Nat → Nat) (σ : Sg) : Int32 := if v 3 = 0 then -nI 1 else oI (lostN (gX σ) (gY σ) 0)
theorem e_1471 {Y n : Nat} {x4 x5 x7 : Int32} {rd : Nat} {K : Int32 → Int32 → Int32 → kx_M → Option (Int32 × kx_M)} (hH : HOK hA v) (h : CO hA M σ) (hI : RI v Y σ) (hn : 1 ≤ n ∧ n ≤ 8) (hY : Y + 8 ≤ 9999) (hK : ∀ M' σ', CO hA M' σ' → RI v (Y + 8) σ' → Gd (K x4 x5 (nI (rd + 1)) M')) : Gd (f_LW_law_l1471 sc K x4 x5 (nI rd) x7 (nI (v 4)) (nI (totU (gX σ))) (nI n) (nI (sumRC (cU (yrs (gX σ) n).1) (cW (gX σ)) (cR (gX σ)))) (lsI v σ) M) := by
  have h3 := hH.2.2.2.2.1
  obtain ⟨⟨a1, a2, a3, a4, a5, a6, a7⟩, b1, c1⟩ := hI
  have hI : RI v Y σ := ⟨⟨a1, a2, a3, a4, a5, a6, a7⟩, b1, c1⟩
  have a6 : cY (gX σ) ≤ Y := a6
  have a4 : dC (gY σ) = v 3 := a4
  have hO := cOC h
  have ht := yrs_tot n hO
  obtain ⟨M1, p1, p2⟩ := c_year h hn.1 (show n ≤ 99 by omega) (by omega)
  have hsh : (yrM (gX σ) n).1 = ((gX σ).1.1, (gX σ).1.2.1, (gX σ).1.2.2.1, cY (gX σ) + n) := by
    show ((yrs (gX σ) n).1.1.1, (yrs (gX σ) n).1.1.2.1, (yrs (gX σ) n).1.1.2.2.1, cY (gX σ) + n) = _
    rw [yrs_sh]
  have eW : cW (yrM (gX σ) n) = cW (gX σ) := congrArg (fun q => q.1) hsh
  have eR : cR (yrM (gX σ) n) = cR (gX σ) := congrArg (fun q => q.2.2.1) hsh
  have hI1 : RI v (Y + 8) (wX σ (yrM (gX σ) n)) := RI_X hI (eW.trans a1) (eR.trans a2) (WF_yrM hO a5 n) (by show cY (gX σ) + n ≤ Y + 8; omega) (cO_yrs n (gX σ))
  obtain ⟨M2, q1, q2⟩ := c_many p2 (u := 6) (by decide)
  have e6 : mnN (gX (wX σ (yrM (gX σ) n))) (gY (wX σ (yrM (gX σ) n))) 6 = sumRC (cU (yrs (gX σ) n).1) (cW (gX σ)) (cR (gX σ)) := by
    show sumRC (cU (yrs (gX σ) n).1) (cW (yrM (gX σ) n)) (cR (yrM (gX σ) n)) = _
    rw [eW, eR]
  rw [e6] at q1
  have es : nI (sumRC (cU (yrs (gX σ) n).1) (cW (gX σ)) (cR (gX σ))) - nI (totU (gX σ)) = nI (yrs (gX σ) n).2 := by
    unfold totU
    rw [ht, z_sub (Nat.le_add_right _ _)]
    congr 1
    exact Nat.add_sub_cancel_left _ _
  have e3 := CO_v hH q2 (i := 3) (by omega) (by omega)
  have g : Gd (f_LW_law_l1541 sc K x4 x5 (nI rd) x7 (nI (v 4)) M2) := e_1541 hH q2 hI1 hK
  rw [f_LW_law_l1471]
  by_cases hC : v 3 = 0
  · have e3' : mA M2 136 3 = nI 0 := by rw [e3, hC]
    simp (disch := first | assumption | omega) only [z_bdn, z_caln, z_gdn, z_iT, z_iF, z_le_t, z_le_f, z_lt_t, z_lt_f, z_cl, z_inb, z_at, z_lit, nI_ii1, nI_add, z_mr, z_ref0, z_refn, z_eq_f, Bool.not_true, Bool.not_false, b2i_t, b2i_f, p1, es, q1, e3']
    exact g
  · have z3 : (nI (v 3) ≤ nI 0) = False := z_le_f (by omega) (by omega)
    have el : lsI v σ = oI (lostN (gX σ) (gY σ) 0) := if_neg hC
    rw [el]
    cases hl : lostN (gX σ) (gY σ) 0 with
    | none =>
      have z1 : (oI (none : Option Nat) < nI 0) = True := by decide
      simp (disch := first | assumption | omega) only [z_bdn, z_caln, z_gdn, z_iT, z_iF, z_le_t, z_le_f, z_lt_t, z_lt_f, z_cl, z_inb, z_at, z_lit, nI_ii1, nI_add, z_mr, z_ref0, z_refn, z_eq_f, Bool.not_true, Bool.not_false, b2i_t, b2i_f, p1, es, q1, e3, z3, z1]
      exact g
    | some t =>
      have ht100 := (lostN_iff.mp hl).1
      have z1 : (nI t < nI 0) = False := z_lt_f (by omega) (by omega)
      obtain ⟨M3, s1, s2⟩ := c_said q2 (k := 0) (by show 0 < dC (gY σ); omega)
      have g3 : Gd (f_LW_law_l1541 sc K x4 x5 (nI rd) x7 (nI (v 4)) M3) := e_1541 hH s2 hI1 hK
      have hli := lost_iff hO hl n
      have hsl := sayN_96 (OkC_yrM hO (by have := (cOC h).2.2.2.1; omega) (m := n)) (gY σ) 0
      have es1 : gX (wX σ (yrM (gX σ) n)) = yrM (gX σ) n := rfl
      have es2 : gY (wX σ (yrM (gX σ) n)) = gY σ := rfl
      rw [es1, es2] at s1
      have z1' : (oI (some t) < nI 0) = False := z1
      by_cases hs0 : sayN (yrM (gX σ) n) (gY σ) 0 = 0
      · have htn := hli.mp hs0
        have zz : (nI n < oI (some t)) = False := z_lt_f htn (by omega)
        rw [hs0] at s1
        simp (disch := first | assumption | omega) only [z_bdn, z_caln, z_gdn, z_iT, z_iF, z_le_t, z_le_f, z_lt_t, z_lt_f, z_cl, z_inb, z_at, z_lit, nI_ii1, nI_add, z_mr, z_ref0, z_refn, z_eq_f, Bool.not_true, Bool.not_false, b2i_t, b2i_f, p1, es, q1, e3, z3, z1', s1, f_LW_law_l1524, zz]
        exact g3
      · have htn : n < t := by
          rcases Nat.lt_or_ge n t with c | c
          · exact c
          · exact absurd (hli.mpr c) hs0
        have zz : (nI n < oI (some t)) = True := z_lt_t htn (by omega)
        have zs : (nI (sayN (yrM (gX σ) n) (gY σ) 0) = nI 0) = False := z_eq_f hs0 (by omega) (by omega)
        simp (disch := first | assumption | omega) only [z_bdn, z_caln, z_gdn, z_iT, z_iF, z_le_t, z_le_f, z_lt_t, z_lt_f, z_cl, z_inb, z_at, z_lit, nI_ii1, nI_add, z_mr, z_ref0, z_refn, z_eq_f, Bool.not_true, Bool.not_false, b2i_t, b2i_f, p1, es, q1, e3, z3, z1', s1, zs, f_LW_law_l1524, zz]
        exact g3
theorem e_1439 {Y : Nat} {x4 x5 x7 : Int32} {rd : Nat} {K : Int32 → Int32 → Int32 → kx_M → Option (Int32 × kx_M)} (hH : HOK hA v) (h : CO hA M σ) (hI : RI v Y σ) (hY : Y + 8 ≤ 9999) (hK : ∀ M' σ', CO hA M' σ' → RI v (Y + 8) σ' → Gd (K x4 x5 (nI (rd + 1)) M')) : Gd (f_LW_law_l1439 sc K x4 x5 (nI rd) x7 (nI (v 4)) (nI (totU (gX σ))) M) := by
  have h3 := hH.2.2.2.2.1
  have a4 : dC (gY σ) = v 3 := hI.1.2.2.2.1
  obtain ⟨a, b1, b2⟩ := and_m x7 (m := 7) (by decide)
  obtain ⟨M1, p1, p2⟩ := c_undoneIn h (n := 1 + a) (by omega)
  have e3 := CO_v hH p2 (i := 3) (by omega) (by omega)
  rw [f_LW_law_l1439]
  by_cases hC : v 3 = 0
  · have el : lsI v σ = -nI 1 := if_pos hC
    have g := e_1471 (sc := sc) (K := K) (x4 := x4) (x5 := x5) (x7 := x7) (rd := rd) hH p2 hI (show 1 ≤ 1 + a ∧ 1 + a ≤ 8 by omega) hY hK
    have e3' : mA M1 136 3 = nI 0 := by rw [e3, hC]
    rw [el] at g
    simp (disch := first | assumption | omega) only [z_bdn, z_caln, z_gdn, z_iT, z_iF, z_le_t, z_le_f, z_lt_t, z_lt_f, z_cl, z_inb, z_at, z_lit, nI_ii1, nI_add, z_mr, z_ref0, z_refn, z_eq_f, Bool.not_true, Bool.not_false, b2i_t, b2i_f, b2, p1, e3']
    exact g
  · have el : lsI v σ = oI (lostN (gX σ) (gY σ) 0) := if_neg hC
    obtain ⟨M2, q1, q2⟩ := c_lost p2 (k := 0) (by omega)
    have g := e_1471 (sc := sc) (K := K) (x4 := x4) (x5 := x5) (x7 := x7) (rd := rd) hH q2 hI (show 1 ≤ 1 + a ∧ 1 + a ≤ 8 by omega) hY hK
    rw [el] at g
    have z3 : (nI (v 3) = nI 0) = False := z_eq_f hC (by omega) (by omega)
    simp (disch := first | assumption | omega) only [z_bdn, z_caln, z_gdn, z_iT, z_iF, z_le_t, z_le_f, z_lt_t, z_lt_f, z_cl, z_inb, z_at, z_lit, nI_ii1, nI_add, z_mr, z_ref0, z_refn, z_eq_f, Bool.not_true, Bool.not_false, b2i_t, b2i_f, b2, p1, e3, z3, q1]
    exact g
end
