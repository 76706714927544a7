/-! ## what is asked, without loops -/
theorem z_ref0 (M : kx_M) : f_KT_refused (nI 0) M = some (nI 0, sI M 0 13 (nI 0)) := rfl
theorem z_refn {v : Nat} (h : v ≠ 0) (hv : v < 1000) (M : kx_M) : f_KT_refused (nI v) M = some (nI 1, sI M 0 13 (nI v)) := by
  rw [f_KT_refused]
  show (if nI v = 0 then _ else _) = _
  rw [if_neg (nI_ne0 (by omega) (by omega))]
  rfl
theorem ix_f {p : Int32} {R : Nat} (hR : R < 2147483648) (h : ix p R = false) : p < 0 ∨ ¬ p < nI R := by
  rw [i32_lt0, i32_lt p hR]
  unfold ix at h
  rw [Bool.and_eq_false_iff] at h
  rcases h with h | h
  · have := of_decide_eq_false h; omega
  · have := of_decide_eq_false h; omega
section
variable {M : kx_M} {σ : Sg}
theorem IC.ok (h : IC M σ) : OkG σ := h.1
theorem q_noRow (h : IC M σ) (p : Int32) : f_KT_noRow p M = some (b2i (!ix p (cR (gX σ))), M) := by
  obtain ⟨hO, s, t, hK, hS, -⟩ := h
  have w3 := hO.1.1.2.2.1
  have e2 : mI M (s + 9) 7 = nI (cR (gX σ)) := hS.1.2.2.1
  rw [f_KT_noRow]
  simp only [z_gd, z_bd, hK.1, hK.s1, e2]
  cases hx : ix p (cR (gX σ))
  · rcases ix_f (by have h1 : cR (gX σ) ≤ 12 := w3; omega) hx with h1 | h1
    · rw [if_pos h1]; rfl
    · by_cases h2 : p < 0
      · rw [if_pos h2]; rfl
      · rw [if_neg h2, if_neg h1]; rfl
  · obtain ⟨n, hn, rfl⟩ := ix_ex (by have h1 : cR (gX σ) ≤ 12 := w3; omega) hx
    have h1 : cR (gX σ) ≤ 12 := w3
    rw [if_neg (nI_pos (by omega)), if_pos (nI_lt hn (by omega))]; rfl
theorem q_noColumn (h : IC M σ) (p : Int32) : f_KT_noColumn p M = some (b2i (!ix p (cW (gX σ))), M) := by
  obtain ⟨hO, s, t, hK, hS, -⟩ := h
  have h1 : cW (gX σ) ≤ 8 := hO.1.1.1.2
  have e2 : mI M (s + 9) 5 = nI (cW (gX σ)) := hS.1.1
  rw [f_KT_noColumn]
  simp only [z_gd, z_bd, hK.1, hK.s1, e2]
  cases hx : ix p (cW (gX σ))
  · rcases ix_f (by omega) hx with h1 | h1
    · rw [if_pos h1]; rfl
    · by_cases h2 : p < 0
      · rw [if_pos h2]; rfl
      · rw [if_neg h2, if_neg h1]; rfl
  · obtain ⟨n, hn, rfl⟩ := ix_ex (by omega) hx
    rw [if_neg (nI_pos (by omega)), if_pos (nI_lt hn (by omega))]; rfl
theorem q_noQueen (h : IC M σ) (p : Int32) : f_KT_noQueen p M = some (b2i (!ix p (dQ (gY σ))), M) := by
  obtain ⟨hO, s, t, hK, hS, -⟩ := h
  have h1 : dQ (gY σ) ≤ 4 := hO.1.2.2.1.1
  have e2 : mI M (s + 1) 7 = nI (dQ (gY σ)) := hS.2.1.1
  rw [f_KT_noQueen]
  simp only [z_gd, z_bd, hK.1, hK.s1, e2]
  cases hx : ix p (dQ (gY σ))
  · rcases ix_f (by omega) hx with h1 | h1
    · rw [if_pos h1]; rfl
    · by_cases h2 : p < 0
      · rw [if_pos h2]; rfl
      · rw [if_neg h2, if_neg h1]; rfl
  · obtain ⟨n, hn, rfl⟩ := ix_ex (by omega) hx
    rw [if_neg (nI_pos (by omega)), if_pos (nI_lt hn (by omega))]; rfl
theorem q_noClause (h : IC M σ) (p : Int32) : f_KT_noClause p M = some (b2i (!ix p (dC (gY σ))), M) := by
  obtain ⟨hO, s, t, hK, hS, -⟩ := h
  have h1 : dC (gY σ) ≤ 6 := hO.1.2.2.1.2.1
  have e2 : mI M (s + 1) 8 = nI (dC (gY σ)) := hS.2.1.2.1
  rw [f_KT_noClause]
  simp only [z_gd, z_bd, hK.1, hK.s1, e2]
  cases hx : ix p (dC (gY σ))
  · rcases ix_f (by omega) hx with h1 | h1
    · rw [if_pos h1]; rfl
    · by_cases h2 : p < 0
      · rw [if_pos h2]; rfl
      · rw [if_neg h2, if_neg h1]; rfl
  · obtain ⟨n, hn, rfl⟩ := ix_ex (by omega) hx
    rw [if_neg (nI_pos (by omega)), if_pos (nI_lt hn (by omega))]; rfl
/-- the reference's start of a call -/
def M00 (M : kx_M) : kx_M := sI (sI M 135 1 (nI 0)) 135 0 (nI 0)
theorem z_M00 (M : kx_M) : sI (sI M 135 1 (nI 0)) 135 0 (nI 0) = M00 M := rfl
theorem IM_00 (h : IM M σ) : IM (M00 M) (wS σ (nI 0)) := IM_st _ (IM_th _ h)
theorem IM_r {u : Int32} (v : Int32) (h : IM M (wS σ u)) : IM (sI M 135 0 v) (wS σ v) := by
  have h1 := IM_st v h
  exact h1
theorem Lo_00 : Lo M (M00 M) := Lo_th.tr Lo_st
theorem g_isRow (h : IM M σ) (p : Int32) : f_RM_isRowAt p M = some (b2i (ix p (cR (gX σ))), M) := q_isRowAt h.1.1.1 h.2.1.1 p
theorem g_isCol (h : IM M σ) (p : Int32) : f_RM_isColumn p M = some (b2i (ix p (cW (gX σ))), M) := q_isColumn h.1.1.1 h.2.1.1 p
theorem g_isQueen (h : IM M σ) (p : Int32) : f_RM_isQueenAt p M = some (b2i (ix p (dQ (gY σ))), M) := q_isQueenAt h.1.1.2.2.1 h.2.1.2.1 p
theorem g_isClause (h : IM M σ) (p : Int32) : f_RM_isClauseAt p M = some (b2i (ix p (dC (gY σ))), M) := q_isClauseAt h.1.1.2.2.1 h.2.1.2.1 p
/-- refused, or the rest -/
def oG (b : Bool) (v : Nat) (r : Int32 × Sg) (σ : Sg) : Int32 × Sg := match b with
  | true => r
  | false => (-nI 1, wS σ (nI v))
theorem lo_ref {v : Int32} (hF : Lo M (M00 M)) : Lo M (sI (M00 M) 135 0 v) := hF.tr Lo_st
/-! STATUS, FRACTION, FAULT -/
theorem pC_status : PC f_KT_status (fun σ => (gS σ, σ)) := fun M σ h => ⟨M, by
  obtain ⟨-, s, t, hK, hS, ⟨a1, -⟩, -⟩ := h
  show some (mI M 0 13, M) = _
  rw [a1], h, Fr.rf⟩
theorem pM_status : PM f_RM_status (fun σ => (gS σ, σ)) := fun M σ h => ⟨sI M 135 1 0, by
  have h1 := IM_th 0 h
  show some (mI (sI M 135 1 0) 135 0, _) = _
  rw [h1.2.2.1.1], IM_th _ h, Lo_th⟩
theorem pC_top : PC f_KT_top (fun σ => ((gF σ).1, σ)) := fun M σ h => ⟨M, by
  obtain ⟨-, s, t, hK, hS, ⟨-, a1, -⟩, -⟩ := h
  show some (mJ M 0 17, M) = _
  rw [a1], h, Fr.rf⟩
theorem pM_top : PM f_RM_top (fun σ => ((gF σ).1, σ)) := fun M σ h => ⟨sI M 135 1 0, by
  have h1 := IM_th 0 h
  show some (mJ (sI M 135 1 0) 135 2, _) = _
  rw [h1.2.2.1.2.1], IM_th _ h, Lo_th⟩
theorem pC_bottom : PC f_KT_bottom (fun σ => ((gF σ).2, σ)) := fun M σ h => ⟨M, by
  obtain ⟨-, s, t, hK, hS, ⟨-, -, a1, -⟩, -⟩ := h
  show some (mJ M 0 18, M) = _
  rw [a1], h, Fr.rf⟩
theorem pM_bottom : PM f_RM_bottom (fun σ => ((gF σ).2, σ)) := fun M σ h => ⟨sI M 135 1 0, by
  have h1 := IM_th 0 h
  show some (mJ (sI M 135 1 0) 135 3, _) = _
  rw [h1.2.2.1.2.2.1], IM_th _ h, Lo_th⟩
def o_fault (p : Int32) (σ : Sg) : Int32 × Sg := (if p = 0 then (gE σ).1 else if p = 1 then (gE σ).2 else -1, σ)
theorem pC_fault (p : Int32) : PC (f_KT_fault p) (o_fault p) := fun M σ h => ⟨M, by
  obtain ⟨-, s, t, hK, hS, ⟨-, -, -, a1, a2⟩, -⟩ := h
  rw [f_KT_fault, a1, a2]
  unfold o_fault
  by_cases h1 : p = 0
  · simp only [if_pos h1]
  · by_cases h2 : p = 1
    · simp only [if_neg h1, if_pos h2]
    · simp only [if_neg h1, if_neg h2], h, Fr.rf⟩
theorem pM_fault (p : Int32) : PM (f_RM_fault p) (o_fault p) := fun M σ h => ⟨sI M 135 1 0, by
  have h1 := IM_th 0 h
  obtain ⟨-, -, -, a1, a2⟩ := h1.2.2.1
  show (if p = 0 then some (mI (sI M 135 1 0) 135 10, sI M 135 1 0) else if p = 1 then some (mI (sI M 135 1 0) 135 11, sI M 135 1 0) else some (-1, sI M 135 1 0)) = some ((if p = 0 then (gE σ).1 else if p = 1 then (gE σ).2 else -1), sI M 135 1 0)
  rw [a1, a2]
  by_cases h1 : p = 0
  · rw [if_pos h1, if_pos h1]
  · by_cases h2 : p = 1
    · rw [if_neg h1, if_pos h2, if_neg h1, if_pos h2]
    · rw [if_neg h1, if_neg h2, if_neg h1, if_neg h2], IM_th _ h, Lo_th⟩
/-! one number -/
def o_queenOf (p : Int32) (σ : Sg) : Int32 × Sg := oG (ix p (cR (gX σ))) 2 (nI (cO (gX σ) p.toNatClampNeg), wS σ (nI 0)) σ
theorem pC_queenOf (p : Int32) : PC (f_KT_queenOf p) (o_queenOf p) := by
  intro M σ h
  have g := q_noRow h p
  rw [f_KT_queenOf]
  unfold o_queenOf
  cases hx : ix p (cR (gX σ))
  · rw [hx] at g
    refine ⟨_, ?_, IC_st (nI 2) h, Hi_st⟩
    simp (disch := first | assumption | omega) only [z_bd, z_cal, z_gd, z_iT, z_iF, z_le_t, z_le_f, z_lt_t, z_lt_f, z_cl, z_inb, z_at, z_pl, nI_lit, nI_ii1, nI_add, z_mr, z_ref0, z_refn, z_eq_f, Bool.not_true, Bool.not_false, b2i_t, b2i_f, g, f_KT_queenOf_l14, oG]
  · rw [hx] at g
    have h1 := IC_st (nI 0) h
    obtain ⟨hO, s, t, hK, hS, -⟩ := h1
    have w3 : cR (gX σ) ≤ 12 := hO.1.1.2.2.1
    obtain ⟨r, hr, rfl⟩ := ix_ex (by omega) hx
    have e : mA (sI M 0 13 (nI 0)) (s + 10) r = nI (cO (gX σ) r) := hS.1.2.2.2.2.1 r hr
    refine ⟨_, ?_, IC_st (nI 0) h, Hi_st⟩
    simp (disch := first | assumption | omega) only [z_bd, z_cal, z_gd, z_iT, z_iF, z_le_t, z_le_f, z_lt_t, z_lt_f, z_cl, z_inb, z_at, z_pl, nI_lit, nI_ii1, nI_add, z_mr, z_ref0, z_refn, z_eq_f, Bool.not_true, Bool.not_false, b2i_t, b2i_f, g, f_KT_queenOf_l14, hK.1, hK.s1, e, oG]
theorem pM_queenOf (p : Int32) : PM (f_RM_queenOf p) (o_queenOf p) := by
  intro M σ h
  have h0 := IM_00 h
  have g := g_isRow h0 p
  rw [f_RM_queenOf]
  unfold o_queenOf
  cases hx : ix p (cR (gX σ))
  · rw [show ix p (cR (gX (wS σ (nI 0)))) = false from hx] at g
    refine ⟨_, ?_, IM_r (nI 2) h0, lo_ref Lo_00⟩
    simp (disch := first | assumption | omega) only [z_bd, z_cal, z_gd, z_iT, z_iF, z_le_t, z_le_f, z_lt_t, z_lt_f, z_cl, z_inb, z_at, z_pl, nI_lit, nI_ii1, nI_add, nI_mul, z_eq_f, z_refuse, z_no, z_M00, b2i_t, b2i_f, g, oG]
  · rw [show ix p (cR (gX (wS σ (nI 0)))) = true from hx] at g
    have w3 : cR (gX σ) ≤ 12 := h0.1.1.1.2.2.1
    obtain ⟨r, hr, rfl⟩ := ix_ex (by omega) hx
    have e : mA (M00 M) 140 (100 + r) = nI (cO (gX σ) r) := h0.2.1.1.2.2.2.2.1 r hr
    refine ⟨_, ?_, h0, Lo_00⟩
    simp (disch := first | assumption | omega) only [z_bd, z_cal, z_gd, z_iT, z_iF, z_le_t, z_le_f, z_lt_t, z_lt_f, z_cl, z_inb, z_at, z_pl, nI_lit, nI_ii1, nI_add, nI_mul, z_eq_f, z_refuse, z_no, z_M00, b2i_t, b2i_f, g, e, oG]
end
