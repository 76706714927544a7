/-! ## LIVED: the reference -/
section
variable {M M' : kx_M} {σ : Sg} {v : Lv}
theorem IM_live (hI : IM M σ) (hF : FrV M M') (hR : RL M' v) (hx : OkC (vX v)) (hY : cY (vX v) ≤ 9999) (hW : cW (vX v) = cW (gX σ)) {f : Nat → Int32} (hf : ∀ j, j < 5 → f j = lvL v j) : IM (sI (sA M' 150 f) 135 36 (nI 1)) (wL (wX σ (vX v)) (lvL v)) := by
  obtain ⟨hO, hS, ⟨a1, a2, a3, a4, a5⟩, hT, ⟨b1, b2⟩, ⟨c1, c2⟩, ⟨d1, d2⟩⟩ := hI
  obtain ⟨hF, hc, f0, j0⟩ := hF
  have n : ∀ id, (id = 136 ∨ id = 137 ∨ id = 138 ∨ id = 139 ∨ id = 143) → ¬ (id = 135 ∨ id = 140 ∨ id = 144) := fun id e1 e => by omega
  have e136 : mA (sI (sA M' 150 f) 135 36 (nI 1)) 136 = mA M 136 := by rw [mA_sI, mA_sA, if_neg (by decide)]; exact (hF 136 (n _ (by omega))).2.2.1
  have e137 : mA (sI (sA M' 150 f) 135 36 (nI 1)) 137 = mA M 137 := by rw [mA_sI, mA_sA, if_neg (by decide)]; exact (hF 137 (n _ (by omega))).2.2.1
  have e139 : mA (sI (sA M' 150 f) 135 36 (nI 1)) 139 = mA M 139 := by rw [mA_sI, mA_sA, if_neg (by decide)]; exact (hF 139 (n _ (by omega))).2.2.1
  have e138 : mB (sI (sA M' 150 f) 135 36 (nI 1)) 138 = mB M 138 := (hF 138 (n _ (by omega))).2.2.2.1
  have e143 : mB (sI (sA M' 150 f) 135 36 (nI 1)) 143 = mB M 143 := (hF 143 (n _ (by omega))).2.2.2.1
  have e140 : mA (sI (sA M' 150 f) 135 36 (nI 1)) 140 = mA M' 140 := by rw [mA_sI, mA_sA, if_neg (by decide)]
  have e150 : mA (sI (sA M' 150 f) 135 36 (nI 1)) 150 = f := by rw [mA_sI, mA_sA, if_pos rfl]
  have g0 : ∀ k, k < 36 → mI (sI (sA M' 150 f) 135 36 (nI 1)) 135 k = mI M 135 k := fun k hk => by rw [mI_sI, if_neg (by omega), mI_sA]; exact f0 k (by omega)
  have e36 : mI (sI (sA M' 150 f) 135 36 (nI 1)) 135 36 = nI 1 := rfl
  have gj : ∀ k, mJ (sI (sA M' 150 f) 135 36 (nI 1)) 135 k = mJ M 135 k := fun k => j0 k
  have hP : OkD (cW (vX v)) (gY σ) := OkD_W hW hO.1.2.2.1
  unfold IM MT
  rw [g0 0 (by omega), g0 10 (by omega), g0 11 (by omega), g0 8 (by omega), g0 24 (by omega), e36, gj, gj, e136, e137, e138, e139, e143, e140, e150]
  refine ⟨⟨⟨hx, hY, hP, fun e => by show _ ∧ Wel (cW (vX v)) _ _ _ _ _ _; rw [hW]; exact hO.1.2.2.2 e⟩, hO.2⟩, ⟨hR.1, MD_congr hP (fun p h1 h2 h4 h5 => hc p h5 (by omega)) hS.2.1, MZ_congr hO.1.2.2.2 (fun p h1 h2 => hc p (by omega) (by omega)) hS.2.2⟩, ⟨a1, a2, a3, a4, a5⟩, hT, ⟨b1, b2⟩, ⟨c1, fun i hi => ?_⟩, ⟨rfl, fun _ => hf⟩⟩
  exact MS_ext (fun p => hc _ (by omega) (by omega)) (fun _ => rfl) (c2 i hi)
theorem Lo_V (hF : FrV M M') : Lo M M' := hF.1.mono (fun id e => by show 135 ≤ id; omega)
theorem IM_Z {u : Int32} (h : IM M (wS σ u)) : OkC (gX σ) ∧ MC (mA M 140) (gX σ) ∧ OkD (cW (gX σ)) (gY σ) ∧ MD (mA M 140) (mB M 143) (gY σ) ∧ MZ (mA M 140) (gZ σ) ∧ cY (gX σ) ≤ 9999 ∧ ((gZ σ).1 = true → (gZ σ).2.1 ≤ 30 ∧ Wel (cW (gX σ)) (dC (gY σ)) (gZ σ).2.2 31 3 0 (gZ σ).2.1) := ⟨h.1.1.1, h.2.1.1, h.1.1.2.2.1, h.2.1.2.1, h.2.1.2.2, h.1.1.2.1, h.1.1.2.2.2⟩
theorem pM_live (p : Int32) : PM (f_RM_live p) (o_live p) := by
  intro M σ h
  have h0 := IM_00 h
  have g3 := rg_isIn p (A := 0) (B := 9999) (a := 0) (b := 9999) rfl rfl (M00 M)
  rw [f_RM_live]
  unfold o_live
  obtain ⟨hO, hC, hP, hD, hZ, hY, hw⟩ := IM_Z h0
  cases hz : rg p 0 9999
  · rw [hz] at g3
    refine ⟨_, ?_, IM_r (nI 5) h0, lo_ref Lo_00⟩
    simp (disch := first | assumption | omega) only [z_bdn, z_caln, z_gdn, z_iT, z_iF, z_le_t, z_le_f, z_lt_t, z_lt_f, z_cl, z_inb, z_at, z_pl, z_lit, nI_ii1, nI_add, nI_mul, z_eq_f, z_refuse, z_no, z_M00, b2i_t, b2i_f, g3, oG]
  · rw [hz] at g3
    obtain ⟨a, -, ha, rfl⟩ := rg_ex (by omega) hz
    have ea : (nI a).toNatClampNeg = a := z_cl (by omega)
    simp only [oG]
    rw [ea]
    have e496 : mA (M00 M) 140 496 = b2i (gZ σ).1 := hZ.1
    cases hzt : (gZ σ).1 with
    | false =>
      rw [hzt] at e496
      refine ⟨_, ?_, IM_r (nI 8) h0, lo_ref Lo_00⟩
      simp (disch := first | assumption | omega) only [z_bdn, z_caln, z_gdn, z_iT, z_iF, z_le_t, z_le_f, z_lt_t, z_lt_f, z_cl, z_inb, z_at, z_pl, z_lit, nI_ii1, nI_add, nI_mul, z_eq_f, z_refuse, z_no, z_M00, b2i_t, b2i_f, g3, e496]
    | true =>
      rw [hzt] at e496
      obtain ⟨M', a1, a2, a3, a4⟩ := q_runsC (s := a) hP hO hY (by omega) hC hD hZ hzt (hw hzt)
      have a2 : RL M' (lfS σ a) := a2
      have a3 : OkV (cW (gX σ)) (lfS σ a) := a3
      obtain ⟨-, -, -, r39, r40, r41, r42, r43, r44⟩ := id a2
      have e39 : ∀ f, mI (sI (sA M' 150 f) 135 36 (nI 1)) 135 39 = nI (vN (lfS σ a)) := fun _ => r39
      have s1 : ∀ f k, mI (sA M' 150 f) 135 k = mI M' 135 k := fun _ _ => rfl
      have s2 : ∀ f, mA (sA M' 150 f) 150 = f := fun f => by rw [mA_sA, if_pos rfl]
      have s3 : ∀ f g, sA (sA M' 150 f) 150 g = sA M' 150 g := fun f g => sA_sA _ _ _ _
      refine ⟨sI (sA M' 150 (upd (upd (upd (upd (upd (mA M' 150) 0 (nI (vI (lfS σ a)))) 1 (nI (vY (lfS σ a)))) 2 (nI (vF (lfS σ a)))) 3 (nI (vD (lfS σ a)))) 4 (nI (vC (lfS σ a))))) 135 36 (nI 1), ?_, IM_live h0 a4 a2 a3.1 a3.2.2.1 a3.2.1 (fun j hj => ?_), Lo_00.tr ((Lo_V a4).tr (Fr.tr (Fr.sA (by decide)) (Fr.sI (by decide))))⟩
      · simp (disch := first | assumption | omega) only [z_bdn, z_caln, z_gdn, z_iT, z_iF, z_le_t, z_le_f, z_lt_t, z_lt_f, z_cl, z_inb, z_at, z_pl, z_lit, nI_ii1, nI_add, nI_mul, z_eq_f, z_refuse, z_no, z_M00, b2i_t, b2i_f, g3, e496, a1, r40, r41, r42, r43, r44, s1, s2, s3, e39]
      · simp only [upd_at]
        rcases (show j = 0 ∨ j = 1 ∨ j = 2 ∨ j = 3 ∨ j = 4 by omega) with rfl | rfl | rfl | rfl | rfl <;> rfl
theorem pM_lived (p : Int32) : PM (f_RM_lived p) (o_lived p) := by
  intro M σ h
  have h0 := IM_00 h
  have g3 := rg_isIn p (A := 0) (B := 4) (a := 0) (b := 4) rfl rfl (M00 M)
  rw [f_RM_lived]
  unfold o_lived
  cases hz : rg p 0 4
  · rw [hz] at g3
    refine ⟨_, ?_, IM_r (nI 5) h0, lo_ref Lo_00⟩
    simp (disch := first | assumption | omega) only [z_bdn, z_caln, z_gdn, z_iT, z_iF, z_le_t, z_le_f, z_lt_t, z_lt_f, z_cl, z_inb, z_at, z_pl, z_lit, nI_ii1, nI_add, nI_mul, z_eq_f, z_refuse, z_no, z_M00, b2i_t, b2i_f, g3, oG]
  · rw [hz] at g3
    obtain ⟨a, -, ha, rfl⟩ := rg_ex (by omega) hz
    have ea : (nI a).toNatClampNeg = a := z_cl (by omega)
    simp only [oG]
    rw [ea]
    obtain ⟨d1, d2⟩ := h0.2.2.2.2.2.2
    have d1 : mI (M00 M) 135 36 = b2i (gL σ).1 := d1
    cases hlt : (gL σ).1 with
    | false =>
      rw [hlt] at d1
      refine ⟨_, ?_, IM_r (nI 8) h0, lo_ref Lo_00⟩
      simp (disch := first | assumption | omega) only [z_bdn, z_caln, z_gdn, z_iT, z_iF, z_le_t, z_le_f, z_lt_t, z_lt_f, z_cl, z_inb, z_at, z_pl, z_lit, nI_ii1, nI_add, nI_mul, z_eq_f, z_refuse, z_no, z_M00, b2i_t, b2i_f, g3, d1]
    | true =>
      rw [hlt] at d1
      have e0 : mA (M00 M) 150 a = (gL σ).2 a := d2 hlt a (by omega)
      refine ⟨_, ?_, h0, Lo_00⟩
      simp (disch := first | assumption | omega) only [z_bdn, z_caln, z_gdn, z_iT, z_iF, z_le_t, z_le_f, z_lt_t, z_lt_f, z_cl, z_inb, z_at, z_pl, z_lit, nI_ii1, nI_add, nI_mul, z_eq_f, z_refuse, z_no, z_M00, b2i_t, b2i_f, g3, d1, e0]
end
