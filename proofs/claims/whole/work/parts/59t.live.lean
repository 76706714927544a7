/-! ## LIVED -/
def lvL (v : Lv) (j : Nat) : Int32 := match j with
  | 0 => nI (vI v)
  | 1 => nI (vY v)
  | 2 => nI (vF v)
  | 3 => nI (vD v)
  | _ => nI (vC v)
def lfS (σ : Sg) (s : Nat) : Lv := lifV (gY σ) (gZ σ) (gX σ) s
def o_live (p : Int32) (σ : Sg) : Int32 × Sg := oG (rg p 0 9999) 5 (oG (gZ σ).1 8 (nI (vN (lfS σ p.toNatClampNeg)), wL (wX (wS σ (nI 0)) (vX (lfS σ p.toNatClampNeg))) (lvL (lfS σ p.toNatClampNeg))) σ) σ
def o_lived (p : Int32) (σ : Sg) : Int32 × Sg := oG (rg p 0 4) 5 (oG (gL σ).1 8 ((gL σ).2 p.toNatClampNeg, wS σ (nI 0)) σ) σ
section
variable {M M' : kx_M} {σ : Sg} {v : Lv}
theorem ap_now {s t : Nat} (hK : KN M s t) : apL 23 (s + 9) (s + 15) (s + 1) := by
  have ap := hK.ap
  exact ⟨by omega, by omega, by omega, by omega, Or.inr (by omega), Or.inl (by omega), lD_State_cloth hK.s1⟩
theorem ap_trial {s t : Nat} (hK : KN M s t) : apL 25 (t + 9) (s + 15) (s + 1) := by
  have ap := hK.ap
  exact ⟨by omega, by omega, by omega, by omega, by omega, by omega, lD_State_cloth hK.s2⟩
theorem IC_live {s t : Nat} (hI : IC M σ) (hK : KN M s t) (hF : Fr (inL 23 (s + 9)) M M') (hL : LV M' 23 (s + 9) v) (hx : OkC (vX v)) (hY : cY (vX v) ≤ 9999) (hW : cW (vX v) = cW (gX σ)) : IC (sI M' 0 16 (nI 1)) (wL (wX σ (vX v)) (lvL v)) := by
  obtain ⟨hO, s1, t1, hK1, hS, ⟨a1, a2, a3, a4, a5⟩, hT, ⟨b1, b2⟩, ⟨c1, c2⟩, ⟨d1, d2⟩, hk, hw⟩ := hI
  have es : s1 = s := hK1.1.symm.trans hK.1
  subst es
  have ap := hK.ap
  have hF2 : Fr (fun id => id = 0 ∨ inL 23 (s1 + 9) id) M (sI M' 0 16 (nI 1)) := (hF.mono (fun id e => Or.inr e)).tr (Fr.sI (Or.inl rfl))
  have n : ∀ id, id ≠ 0 → id ≠ 23 → id ≠ 24 → (id < s1 + 9 ∨ s1 + 14 < id) → ¬ (id = 0 ∨ inL 23 (s1 + 9) id) := fun id h1 h2 h3 h4 e => by unfold inL at e; omega
  have n0 : ¬ inL 23 (s1 + 9) 0 := fun e => by unfold inL at e; omega
  obtain ⟨f0, j0, -, -, r0⟩ := hF 0 n0
  have g0 : ∀ k, k ≠ 16 → mI (sI M' 0 16 (nI 1)) 0 k = mI M 0 k := fun k hk => by rw [mI_sI, if_neg (fun e => hk e.2)]; exact f0 k
  have hF0 : Fr (fun id => id = 0) M' (sI M' 0 16 (nI 1)) := Fr.sI rfl
  have hP : OkD (cW (vX v)) (gY σ) := OkD_W hW hO.1.2.2.1
  refine ⟨⟨⟨hx, hY, hP, fun e => by show _ ∧ Wel (cW (vX v)) _ _ _ _ _ _; rw [hW]; exact hO.1.2.2.2 e⟩, hO.2⟩, s1, t1, ⟨(r0 9).trans hK1.1, (r0 10).trans hK1.2.1, hK1.2.2⟩, ⟨CC_fr hF0 (fun id h1 h2 e => by omega) hL.1, CD_fr hF2 (fun id h1 h2 => n id (by omega) (by omega) (by omega) (by omega)) hS.2.1, ?_⟩, ⟨?_, ?_, ?_, ?_, ?_⟩, fun q hq => CT_fr hF2 (n _ (by omega) (by omega) (by omega) (by omega)) (n _ (by omega) (by omega) (by omega) (by omega)) (hT q hq), ⟨?_, ?_⟩, ⟨?_, fun i hi => CS_fr hF2 (fun id h1 h2 => n id (by omega) (by omega) (by omega) (by omega)) (c2 i hi)⟩, ⟨?_, fun _ => ?_⟩, ?_, ?_⟩
  · have hz := CZ_fr hF2 (fun id h1 h2 => n id (by omega) (by omega) (by omega) (by omega)) hS.2.2
    show CZ _ (s1 + 15) (cW (vX v)) _ _
    rw [hW]
    exact hz
  · rw [g0 13 (by omega)]; exact a1
  · exact (j0 17).trans a2
  · exact (j0 18).trans a3
  · rw [g0 14 (by omega)]; exact a4
  · rw [g0 15 (by omega)]; exact a5
  · rw [g0 11 (by omega)]; exact b1
  · rw [(hF2 2 (n _ (by omega) (by omega) (by omega) (by omega))).2.2.1]; exact b2
  · rw [g0 12 (by omega)]; exact c1
  · rw [mI_sI, if_pos ⟨rfl, rfl⟩]; rfl
  · have h7 := hL.2
    exact ⟨h7 3 (by omega) (by omega), h7 4 (by omega) (by omega), h7 5 (by omega) (by omega), h7 6 (by omega) (by omega), h7 7 (by omega) (by omega)⟩
  · rw [(hF2 6 (n _ (by omega) (by omega) (by omega) (by omega))).2.2.2.1, (hF2 10 (n _ (by omega) (by omega) (by omega) (by omega))).2.2.2.1]; exact hk
  · obtain ⟨-, -, -, -, r⟩ := hF2 13 (n _ (by omega) (by omega) (by omega) (by omega))
    rw [r, r]; exact hw
/-- what holds of the present CENTURIES -/
theorem IC_Z {u : Int32} (h : IC M (wS σ u)) : ∃ s t, KN M s t ∧ OkC (gX σ) ∧ CC M (s + 9) (gX σ) ∧ OkD (cW (gX σ)) (gY σ) ∧ CD M (s + 1) (gY σ) ∧ CZ M (s + 15) (cW (gX σ)) (dC (gY σ)) (gZ σ) ∧ cY (gX σ) ≤ 9999 ∧ ((gZ σ).1 = true → (gZ σ).2.1 ≤ 30 ∧ Wel (cW (gX σ)) (dC (gY σ)) (gZ σ).2.2 31 3 0 (gZ σ).2.1) := by
  obtain ⟨hO, s, t, hK, hS, -⟩ := h
  exact ⟨s, t, hK, hO.1.1, hS.1, hO.1.2.2.1, hS.2.1, hS.2.2, hO.1.2.1, hO.1.2.2.2⟩
theorem OkV_exA {y : De} {z : Nat → Nat → Int32} {W : Nat} : ∀ (nf d a b : Nat) (v : Lv), Wel W (dC y) z nf d a b → b ≤ 30 → OkV W v → OkV W (exA y z nf a b v) := by
  intro nf
  induction nf with
  | zero => intro d a b v hw; exact hw.elim
  | succ nf ih =>
    intro d a b v hw hb hv
    cases ho : vO v with
    | true => rw [exA_over ho]; exact hv
    | false =>
      rcases hw with rfl | ⟨hab, hk, hrest⟩
      · rw [exA_end (Nat.le_refl _)]; exact hv
      · rw [exA_go ho hab]
        obtain ⟨k, k8, hak, hkb, hwk, hin⟩ : ∃ k, z a 8 = nI k ∧ a < k ∧ k ≤ b ∧ Wel W (dC y) z nf d k b ∧ ((z a 0 = nI 5 ∨ z a 0 = nI 6) → Wel W (dC y) z nf (d - 1) (a + 1) k) := by
          rcases hrest with ⟨n5, n6, k8, hw⟩ | ⟨h56, k, k8, h1, h2, h3, h4, h5⟩
          · exact ⟨a + 1, k8, by omega, by omega, hw, fun hh => hh.elim (fun e => absurd e n5) (fun e => absurd e n6)⟩
          · exact ⟨k, k8, h1, h2, h5, fun _ => h4⟩
        rw [k8, nN_nI (by omega)]
        refine ih d k b _ hwk hb ?_
        unfold exO
        by_cases h3 : vN v = 300
        · rw [if_pos h3]; exact ⟨hv.1, hv.2.1, hv.2.2.1, hv.2.2.2.1, hv.2.2.2.2⟩
        · rw [if_neg h3]
          have hvs := OkV_stp hv h3
          by_cases h5 : z a 0 = nI 5
          · rw [if_pos h5, k8, nN_nI (by omega)]
            split
            · exact ih (d - 1) (a + 1) k _ (hin (Or.inl h5)) (by omega) hvs
            · exact hvs
          · rw [if_neg h5]
            by_cases h6 : z a 0 = nI 6
            · rw [if_pos h6, k8, nN_nI (by omega)]
              have key : ∀ m (v : Lv), OkV W v → OkV W (itL (exA y z nf (a + 1) k) m v) := by
                intro m
                induction m with
                | zero => intro v hv; exact hv
                | succ m ihm =>
                  intro v hv
                  cases ho2 : vO v with
                  | true => rw [itL_over ho2]; exact hv
                  | false => rw [itL_go ho2]; exact ihm _ (ih (d - 1) (a + 1) k _ (hin (Or.inr h6)) (by omega) hv)
              exact key _ _ hvs
            · rw [if_neg h6]
              by_cases h7 : z a 0 = nI 7
              · rw [if_pos h7]; exact hvs
              · rw [if_neg h7]; exact OkV_lvA hvs (yr_99 hk)
theorem OkV_lfS {s : Nat} (hO : OkC (gX σ)) (hY : cY (gX σ) ≤ 9999) (hw : (gZ σ).2.1 ≤ 30 ∧ Wel (cW (gX σ)) (dC (gY σ)) (gZ σ).2.2 31 3 0 (gZ σ).2.1) (hs : s < 65536) : OkV (cW (gX σ)) (lfS σ s) := OkV_exA 31 3 0 _ _ hw.2 hw.1 ⟨hO, rfl, hY, hs, Nat.zero_le _⟩
theorem pC_live (p : Int32) : PC (f_KT_live p) (o_live p) := by
  intro M σ h
  rw [f_KT_live]
  unfold o_live
  obtain ⟨s, t, hK, hO, hC, hP, hD, hZ, hY, hw⟩ := IC_Z (u := gS σ) h
  cases hz : rg p 0 9999
  · refine ⟨_, ?_, IC_st (nI 5) h, Hi_st⟩
    rcases rg_f (by omega) (by omega) hz with h1 | ⟨h1, h2⟩
    · have h1 : (p < nI 0) = True := eq_true h1
      simp (disch := first | assumption | omega) only [z_bdn, z_caln, z_gdn, z_iT, z_iF, z_le_t, z_le_f, z_lt_t, z_lt_f, z_cl, z_inb, z_at, z_pl, z_lit, nI_ii1, nI_add, z_mr, z_ref0, z_refn, z_eq_f, Bool.not_true, Bool.not_false, b2i_t, b2i_f, oG, f_KT_live_l34, h1]
    · have h1 : (p < nI 0) = False := eq_false h1
      have h2 : (p ≤ nI 9999) = False := eq_false h2
      simp (disch := first | assumption | omega) only [z_bdn, z_caln, z_gdn, z_iT, z_iF, z_le_t, z_le_f, z_lt_t, z_lt_f, z_cl, z_inb, z_at, z_pl, z_lit, nI_ii1, nI_add, z_mr, z_ref0, z_refn, z_eq_f, Bool.not_true, Bool.not_false, b2i_t, b2i_f, oG, f_KT_live_l34, h1, h2]
  · obtain ⟨a, -, ha, rfl⟩ := rg_ex (by omega) hz
    have ea : (nI a).toNatClampNeg = a := z_cl (by omega)
    simp only [oG]
    rw [ea]
    have e4 : mI M (s + 15) 4 = b2i (gZ σ).1 := hZ.1
    cases hzt : (gZ σ).1 with
    | false =>
      rw [hzt] at e4
      refine ⟨_, ?_, IC_st (nI 8) h, Hi_st⟩
      simp (disch := first | assumption | omega) only [z_bdn, z_caln, z_gdn, z_iT, z_iF, z_le_t, z_le_f, z_lt_t, z_lt_f, z_cl, z_inb, z_at, z_pl, z_lit, nI_ii1, nI_add, z_mr, z_ref0, z_refn, z_eq_f, Bool.not_true, Bool.not_false, b2i_t, b2i_f, f_KT_live_l34, nI_pos0, hK.1, hK.s1, e4]
    | true =>
      rw [hzt] at e4
      have h1 := IC_st (nI 0) h
      obtain ⟨s2, t2, hK2, -, hC2, -, hD2, hZ2, -, -⟩ := IC_Z h1
      have es : s2 = s := hK2.1.symm.trans hK.1
      subst es
      obtain ⟨M', a1, a2, a3⟩ := q_Lrun (s := a) (ap_now hK2) hP hO hY (by omega) hC2 hD2 hZ2 hzt (hw hzt)
      have hv := OkV_lfS hO hY (hw hzt) (show a < 65536 by omega)
      have a2 : LV M' 23 (s2 + 9) (lfS σ a) := a2
      have e2 : mI (sI M' 0 16 (nI 1)) 23 2 = nI (vN (lfS σ a)) := a2.2 2 (by omega) (by omega)
      have ap := hK2.ap
      refine ⟨sI M' 0 16 (nI 1), ?_, IC_live h1 hK2 a3 a2 hv.1 hv.2.2.1 hv.2.1, Hi_st.tr (Fr.tr (a3.mono (fun id e => by unfold inL at e; show id < 135; omega)) (Fr.sI (by decide)))⟩
      simp (disch := first | assumption | omega) only [z_bdn, z_caln, z_gdn, z_iT, z_iF, z_le_t, z_le_f, z_lt_t, z_lt_f, z_cl, z_inb, z_at, z_pl, z_lit, nI_ii1, nI_add, z_mr, z_ref0, z_refn, z_eq_f, Bool.not_true, Bool.not_false, b2i_t, b2i_f, f_KT_live_l34, nI_pos0, hK.1, hK.s1, hK2.1, hK2.s1, e4, a1, e2]
theorem pC_lived (p : Int32) : PC (f_KT_lived p) (o_lived p) := by
  intro M σ h
  rw [f_KT_lived]
  unfold o_lived
  cases hz : rg p 0 4
  · refine ⟨_, ?_, IC_st (nI 5) h, Hi_st⟩
    rcases rg_f (by omega) (by omega) hz with h1 | ⟨h1, h2⟩
    · have h1 : (p < nI 0) = True := eq_true h1
      simp (disch := first | assumption | omega) only [z_bdn, z_caln, z_gdn, z_iT, z_iF, z_le_t, z_le_f, z_lt_t, z_lt_f, z_cl, z_inb, z_at, z_pl, z_lit, nI_ii1, nI_add, z_mr, z_ref0, z_refn, z_eq_f, Bool.not_true, Bool.not_false, b2i_t, b2i_f, oG, f_KT_lived_l26, h1]
    · have h1 : (p < nI 0) = False := eq_false h1
      have h2 : (p ≤ nI 4) = False := eq_false h2
      simp (disch := first | assumption | omega) only [z_bdn, z_caln, z_gdn, z_iT, z_iF, z_le_t, z_le_f, z_lt_t, z_lt_f, z_cl, z_inb, z_at, z_pl, z_lit, nI_ii1, nI_add, z_mr, z_ref0, z_refn, z_eq_f, Bool.not_true, Bool.not_false, b2i_t, b2i_f, oG, f_KT_lived_l26, h1, h2]
  · obtain ⟨a, -, ha, rfl⟩ := rg_ex (by omega) hz
    have ea : (nI a).toNatClampNeg = a := z_cl (by omega)
    simp only [oG]
    rw [ea]
    have hl := h
    obtain ⟨-, s, t, hK, -, -, -, -, -, ⟨d1, d2⟩, -⟩ := hl
    cases hlt : (gL σ).1 with
    | false =>
      rw [hlt] at d1
      refine ⟨_, ?_, IC_st (nI 8) h, Hi_st⟩
      simp (disch := first | assumption | omega) only [z_bdn, z_caln, z_gdn, z_iT, z_iF, z_le_t, z_le_f, z_lt_t, z_lt_f, z_cl, z_inb, z_at, z_pl, z_lit, nI_ii1, nI_add, z_mr, z_ref0, z_refn, z_eq_f, Bool.not_true, Bool.not_false, b2i_t, b2i_f, f_KT_lived_l26, nI_pos0, d1]
    | true =>
      rw [hlt] at d1
      obtain ⟨e0, e1, e2, e3, e4⟩ := d2 hlt
      have k0 : ∀ j, mI (sI M 0 13 (nI 0)) 23 j = mI M 23 j := fun _ => rfl
      refine ⟨_, ?_, IC_st (nI 0) h, Hi_st⟩
      rcases (show a = 0 ∨ a = 1 ∨ a = 2 ∨ a = 3 ∨ a = 4 by omega) with rfl | rfl | rfl | rfl | rfl
      · simp (disch := first | assumption | omega) only [z_bdn, z_caln, z_gdn, z_iT, z_iF, z_le_t, z_le_f, z_lt_t, z_lt_f, z_cl, z_inb, z_at, z_pl, z_lit, nI_ii1, nI_add, z_mr, z_ref0, z_refn, z_eq_f, Bool.not_true, Bool.not_false, b2i_t, b2i_f, f_KT_lived_l26, nI_pos0, d1, k0, e0, eq_self]
      · simp (disch := first | assumption | omega) only [z_bdn, z_caln, z_gdn, z_iT, z_iF, z_le_t, z_le_f, z_lt_t, z_lt_f, z_cl, z_inb, z_at, z_pl, z_lit, nI_ii1, nI_add, z_mr, z_ref0, z_refn, z_eq_f, Bool.not_true, Bool.not_false, b2i_t, b2i_f, f_KT_lived_l26, nI_pos0, d1, k0, e1, eq_self, z_kn]
      · simp (disch := first | assumption | omega) only [z_bdn, z_caln, z_gdn, z_iT, z_iF, z_le_t, z_le_f, z_lt_t, z_lt_f, z_cl, z_inb, z_at, z_pl, z_lit, nI_ii1, nI_add, z_mr, z_ref0, z_refn, z_eq_f, Bool.not_true, Bool.not_false, b2i_t, b2i_f, f_KT_lived_l26, nI_pos0, d1, k0, e2, eq_self, z_kn]
      · simp (disch := first | assumption | omega) only [z_bdn, z_caln, z_gdn, z_iT, z_iF, z_le_t, z_le_f, z_lt_t, z_lt_f, z_cl, z_inb, z_at, z_pl, z_lit, nI_ii1, nI_add, z_mr, z_ref0, z_refn, z_eq_f, Bool.not_true, Bool.not_false, b2i_t, b2i_f, f_KT_lived_l26, nI_pos0, d1, k0, e3, eq_self, z_kn]
      · simp (disch := first | assumption | omega) only [z_bdn, z_caln, z_gdn, z_iT, z_iF, z_le_t, z_le_f, z_lt_t, z_lt_f, z_cl, z_inb, z_at, z_pl, z_lit, nI_ii1, nI_add, z_mr, z_ref0, z_refn, z_eq_f, Bool.not_true, Bool.not_false, b2i_t, b2i_f, f_KT_lived_l26, nI_pos0, d1, k0, e4, eq_self, z_kn]
end
