theorem z_ref0 (M : kx_M) : f_KT_refused (nI 0) M = some (nI 0, sI M 0 13 (nI 0)) := rfl
theorem z_refn {v : Nat} (h : v ≠ 0) (hv : v < 1000) (M : kx_M) : f_KT_refused (nI v) M = some (nI 1, sI M 0 13 (nI v)) := by
  rw [f_KT_refused]
  show (if nI v = 0 then _ else _) = _
  rw [if_neg (nI_ne0 (by omega) (by omega))]
  rfl
theorem ix_f {p : Int32} {R : Nat} (hR : R < 2147483648) (h : ix p R = false) : p < 0 ∨ ¬ p < nI R := by
  rw [i32_lt0, i32_lt p hR]
  unfold ix at h
  rw [Bool.and_eq_false_iff] at h
  rcases h with h | h
  · have := of_decide_eq_false h; omega
  · have := of_decide_eq_false h; omega
section
variable {M : kx_M} {σ : Sg}
theorem IC.ok (h : IC M σ) : OkG σ := h.1
theorem q_noRow (h : IC M σ) (p : Int32) : f_KT_noRow p M = some (b2i (!ix p (cR (gX σ))), M) := by
  obtain ⟨hO, s, t, hK, hS, -⟩ := h
  have w3 := hO.1.1.2.2.1
  have e2 : mI M (s + 9) 7 = nI (cR (gX σ)) := hS.1.2.2.1
  rw [f_KT_noRow]
  simp only [z_gd, z_bd, hK.1, hK.s1, e2]
  cases hx : ix p (cR (gX σ))
  · rcases ix_f (by have h1 : cR (gX σ) ≤ 12 := w3; omega) hx with h1 | h1
    · rw [if_pos h1]; rfl
    · by_cases h2 : p < 0
      · rw [if_pos h2]; rfl
      · rw [if_neg h2, if_neg h1]; rfl
  · obtain ⟨n, hn, rfl⟩ := ix_ex (by have h1 : cR (gX σ) ≤ 12 := w3; omega) hx
    have h1 : cR (gX σ) ≤ 12 := w3
    rw [if_neg (nI_pos (by omega)), if_pos (nI_lt hn (by omega))]; rfl
theorem q_noColumn (h : IC M σ) (p : Int32) : f_KT_noColumn p M = some (b2i (!ix p (cW (gX σ))), M) := by
  obtain ⟨hO, s, t, hK, hS, -⟩ := h
  have h1 : cW (gX σ) ≤ 8 := hO.1.1.1.2
  have e2 : mI M (s + 9) 5 = nI (cW (gX σ)) := hS.1.1
  rw [f_KT_noColumn]
  simp only [z_gd, z_bd, hK.1, hK.s1, e2]
  cases hx : ix p (cW (gX σ))
  · rcases ix_f (by omega) hx with h1 | h1
    · rw [if_pos h1]; rfl
    · by_cases h2 : p < 0
      · rw [if_pos h2]; rfl
      · rw [if_neg h2, if_neg h1]; rfl
  · obtain ⟨n, hn, rfl⟩ := ix_ex (by omega) hx
    rw [if_neg (nI_pos (by omega)), if_pos (nI_lt hn (by omega))]; rfl
theorem q_noQueen (h : IC M σ) (p : Int32) : f_KT_noQueen p M = some (b2i (!ix p (dQ (gY σ))), M) := by
  obtain ⟨hO, s, t, hK, hS, -⟩ := h
  have h1 : dQ (gY σ) ≤ 4 := hO.1.2.2.1.1
  have e2 : mI M (s + 1) 7 = nI (dQ (gY σ)) := hS.2.1.1
  rw [f_KT_noQueen]
  simp only [z_gd, z_bd, hK.1, hK.s1, e2]
  cases hx : ix p (dQ (gY σ))
  · rcases ix_f (by omega) hx with h1 | h1
    · rw [if_pos h1]; rfl
    · by_cases h2 : p < 0
      · rw [if_pos h2]; rfl
      · rw [if_neg h2, if_neg h1]; rfl
  · obtain ⟨n, hn, rfl⟩ := ix_ex (by omega) hx
    rw [if_neg (nI_pos (by omega)), if_pos (nI_lt hn (by omega))]; rfl
theorem q_noClause (h : IC M σ) (p : Int32) : f_KT_noClause p M = some (b2i (!ix p (dC (gY σ))), M) := by
  obtain ⟨hO, s, t, hK, hS, -⟩ := h
  have h1 : dC (gY σ) ≤ 6 := hO.1.2.2.1.2.1
  have e2 : mI M (s + 1) 8 = nI (dC (gY σ)) := hS.2.1.2.1
  rw [f_KT_noClause]
  simp only [z_gd, z_bd, hK.1, hK.s1, e2]
  cases hx : ix p (dC (gY σ))
  · rcases ix_f (by omega) hx with h1 | h1
    · rw [if_pos h1]; rfl
    · by_cases h2 : p < 0
      · rw [if_pos h2]; rfl
      · rw [if_neg h2, if_neg h1]; rfl
  · obtain ⟨n, hn, rfl⟩ := ix_ex (by omega) hx
    rw [if_neg (nI_pos (by omega)), if_pos (nI_lt hn (by omega))]; rfl
/-- refused, or the rest -/
def oG (b : Bool) (v : Nat) (r : Int32 × Sg) (σ : Sg) : Int32 × Sg := match b with
  | true => r
  | false => (-nI 1, wS σ (nI v))
def o_queenOf (p : Int32) (σ : Sg) : Int32 × Sg := oG (ix p (cR (gX σ))) 2 (nI (cO (gX σ) p.toNatClampNeg), wS σ (nI 0)) σ
theorem pC_queenOf (p : Int32) : PC (f_KT_queenOf p) (o_queenOf p) := by
  intro M σ h
  have g := q_noRow h p
  rw [f_KT_queenOf]
  unfold o_queenOf
  cases hx : ix p (cR (gX σ))
  · rw [hx] at g
    refine ⟨_, ?_, IC_st (nI 2) h, Hi_st⟩
    simp (disch := first | assumption | omega) only [z_bd, z_cal, z_gd, z_iT, z_iF, z_le_t, z_le_f, z_lt_t, z_lt_f, z_cl, z_inb, z_at, nI_lit, nI_ii1, nI_add, z_mr, z_ref0, z_refn, z_eq_f, Bool.not_true, Bool.not_false, b2i_t, b2i_f, g, f_KT_queenOf_l14, oG]
  · rw [hx] at g
    have h1 := IC_st (nI 0) h
    obtain ⟨hO, s, t, hK, hS, -⟩ := h1
    have w3 : cR (gX σ) ≤ 12 := hO.1.1.2.2.1
    obtain ⟨r, hr, rfl⟩ := ix_ex (by omega) hx
    have e : mA (sI M 0 13 (nI 0)) (s + 10) r = nI (cO (gX σ) r) := hS.1.2.2.2.2.1 r hr
    refine ⟨_, ?_, IC_st (nI 0) h, Hi_st⟩
    simp (disch := first | assumption | omega) only [z_bd, z_cal, z_gd, z_iT, z_iF, z_le_t, z_le_f, z_lt_t, z_lt_f, z_cl, z_inb, z_at, nI_lit, nI_ii1, nI_add, z_mr, z_ref0, z_refn, z_eq_f, Bool.not_true, Bool.not_false, b2i_t, b2i_f, g, f_KT_queenOf_l14, hK.1, hK.s1, e, oG]
end
