/-! ## the mean -/
def menT (σ : Sg) (s : Nat) : Nat → Nat
  | 0 => 0
  | k + 1 => menT σ s k + sunN (vX (lfS σ (s + k)))
def o_mean (p q : Int32) (σ : Sg) : Int32 × Sg := oB (rg q 1 20) 5 (oB (rg p 0 (10000 - q.toNatClampNeg)) 5 (oB (gZ σ).1 8 (nI 1, wF (wS σ (nI 0)) (frT (menT σ p.toNatClampNeg q.toNatClampNeg) q.toNatClampNeg) (frU (menT σ p.toNatClampNeg q.toNatClampNeg) q.toNatClampNeg)) σ) σ) σ
section
variable {M M' : kx_M} {σ : Sg} {v : Lv}
theorem menT_le {s : Nat} (hO : OkC (gX σ)) (hY : cY (gX σ) ≤ 9999) (hw : (gZ σ).2.1 ≤ 30 ∧ Wel (cW (gX σ)) (dC (gY σ)) (gZ σ).2.2 31 3 0 (gZ σ).2.1) : ∀ k, s + k < 65536 → menT σ s k ≤ 96 * k
  | 0, _ => Nat.le_refl _
  | k + 1, h => by
    have h1 := menT_le (s := s) hO hY hw k (by omega)
    have h2 := sunN_96 (OkV_lfS (s := s + k) hO hY hw (by omega)).1
    show menT σ s k + sunN (vX (lfS σ (s + k))) ≤ _
    omega
theorem IC_mean {s t : Nat} (hI : IC M σ) (hK : KN M s t) (hF : Fr (fun id => id = 25 ∨ id = 26 ∨ (t ≤ id ∧ id ≤ t + 19)) M M') : IC M' σ := IC_fr hF (fun s1 t1 hK1 id e => by
  have et : t1 = t := hK1.2.1.symm.trans hK.2.1
  subst et
  omega) hI
theorem q_Cmean {s : Nat} {u : Int32} (hI : IC M (wS σ u)) (hzt : (gZ σ).1 = true) {N : Nat} (hN : 1 ≤ N ∧ N ≤ 20) (hs : s + N ≤ 10000) : ∀ (m n k : Nat) (M1 : kx_M), k + m = N → m < n → IC M1 (wS σ u) → Hi M M1 → ∃ M', f_KT_mean_l63 (nI s) (nI N) n (nI (menT σ s k)) (nI k) M1 = some (nI 1, M') ∧ IC M' (wF (wS σ u) (frT (menT σ s N) N) (frU (menT σ s N) N)) ∧ Hi M M' := by
  intro m
  induction m with
  | zero =>
    intro n k M1 hk hn h hh
    obtain ⟨n, rfl, hn⟩ := z_succ hn
    obtain rfl : k = N := by omega
    obtain ⟨s1, t, hK, hO, hC, hP, hD, hZ, hY, hw⟩ := IC_Z h
    have hle := menT_le (s := s) hO hY (hw hzt) k (by omega)
    have eT : f_KT_tellFraction (nI (menT σ s k)).toInt64 (nI k).toInt64 M1 = _ := q_tell (show menT σ s k < 2147483648 by omega) (show k < 2147483648 by omega) (by omega)
    refine ⟨_, ?_, IC_wF _ _ h, hh.tr (Fr.tr (Fr.sJ (by decide)) (Fr.sJ (by decide)))⟩
    rw [f_KT_mean_l63]
    simp (disch := first | assumption | omega) only [z_bdn, z_caln, z_gdn, z_iT, z_iF, z_le_t, z_le_f, z_lt_t, z_lt_f, z_cl, z_inb, z_at, z_pl, z_lit, nI_ii1, nI_add, z_mr, z_ref0, z_refn, z_eq_f, Bool.not_true, Bool.not_false, b2i_t, b2i_f, eT]
  | succ m ih =>
    intro n k M1 hk hn h hh
    obtain ⟨n, rfl, hn⟩ := z_succ hn
    obtain ⟨s1, t, hK, hO, hC, hP, hD, hZ, hY, hw⟩ := IC_Z h
    have ap := hK.ap
    obtain ⟨M2, a1, a2, a3⟩ := q_tried hK hO hC
    obtain ⟨ta, t0, tc⟩ := trial_ap hK
    have hD2 : CD M2 (s1 + 1) (gY σ) := CD_fr a3 (fun id h1 h2 => ta id (by omega) (by omega)) hD
    have hZ2 : CZ M2 (s1 + 15) (cW (gX σ)) (dC (gY σ)) (gZ σ) := CZ_fr a3 (fun id h1 h2 => ta id (by omega) (by omega)) hZ
    have hA := ap_trial hK
    obtain ⟨M3, b1, b2, b3⟩ := q_Lrun (s := s + k) hA hP hO hY (by omega) a2 hD2 hZ2 hzt (hw hzt)
    have b2 : LV M3 25 (t + 9) (lfS σ (s + k)) := b2
    have hv := OkV_lfS (s := s + k) hO hY (hw hzt) (by omega)
    have l4 : kx_lay[t + 9 + 4]? = some (1, 96, []) := lk_Cloth_undone tc
    have eS : f_Cloth_sum (t + 9) (t + 9 + 4) M3 = some (nI (sunN (vX (lfS σ (s + k)))), M3) := q_sum (u := cU (vX (lfS σ (s + k)))) hv.1 b2.1 l4 (fun r i hr hi => (b2.1.2.2.2.2.2 r i hr hi).2.2.1)
    have hF : Fr (fun id => id = 25 ∨ id = 26 ∨ (t ≤ id ∧ id ≤ t + 19)) M1 M3 := (a3.mono (fun id e => by unfold inC at e; omega)).tr (b3.mono (fun id e => by unfold inL at e; omega))
    have h3 := IC_mean h hK hF
    obtain ⟨M', c1, c2, c3⟩ := ih n (k + 1) M3 (by omega) (by omega) h3 (hh.tr (hF.mono (fun id e => by show id < 135; omega)))
    refine ⟨M', ?_, c2, c3⟩
    have e9 : mR M2 0 9 = s1 := ((a3 0 t0).2.2.2.2 9).trans hK.1
    have c1 : f_KT_mean_l63 (nI s) (nI N) n (nI (menT σ s k + sunN (vX (lfS σ (s + k))))) (nI (k + 1)) M3 = some (nI 1, M') := c1
    rw [f_KT_mean_l63]
    simp (disch := first | assumption | omega) only [z_bdn, z_caln, z_gdn, z_iT, z_iF, z_le_t, z_le_f, z_lt_t, z_lt_f, z_cl, z_inb, z_at, z_pl, z_lit, nI_ii1, nI_add, z_mr, z_ref0, z_refn, z_eq_f, Bool.not_true, Bool.not_false, b2i_t, b2i_f, a1, tc, e9, hK.s1, b1, eS]
    exact c1
theorem pC_mean (p q : Int32) : PC (f_KT_mean p q) (o_mean p q) := by
  intro M σ h
  rw [f_KT_mean]
  unfold o_mean
  obtain ⟨s, t, hK, hO, hC, hP, hD, hZ, hY, hw⟩ := IC_Z (u := gS σ) h
  have bad : f_KT_mean_l47 p q (nI 5) M = some (nI 0, sI M 0 13 (nI 5)) := by
    simp (disch := first | assumption | omega) only [z_bdn, z_caln, z_gdn, z_iT, z_iF, z_le_t, z_le_f, z_lt_t, z_lt_f, z_cl, z_inb, z_at, z_pl, z_lit, nI_ii1, nI_add, z_mr, z_ref0, z_refn, z_eq_f, Bool.not_true, Bool.not_false, b2i_t, b2i_f, f_KT_mean_l47]
  cases hq : rg q 1 20
  · refine ⟨_, ?_, IC_st (nI 5) h, Hi_st⟩
    simp only [oB]
    by_cases hp0 : p < nI 0
    · have z0 : (p < nI 0) = True := eq_true hp0
      simp (disch := first | assumption | omega) only [z_bdn, z_caln, z_gdn, z_iT, z_iF, z_le_t, z_le_f, z_lt_t, z_lt_f, z_cl, z_inb, z_at, z_pl, z_lit, nI_ii1, nI_add, z_mr, z_ref0, z_refn, z_eq_f, Bool.not_true, Bool.not_false, b2i_t, b2i_f, z0, bad]
    · have z0 : (p < nI 0) = False := eq_false hp0
      rcases rg_f (by omega) (by omega) hq with h1 | ⟨h1, h2⟩
      · have h1 : (q < nI 1) = True := eq_true h1
        simp (disch := first | assumption | omega) only [z_bdn, z_caln, z_gdn, z_iT, z_iF, z_le_t, z_le_f, z_lt_t, z_lt_f, z_cl, z_inb, z_at, z_pl, z_lit, nI_ii1, nI_add, z_mr, z_ref0, z_refn, z_eq_f, Bool.not_true, Bool.not_false, b2i_t, b2i_f, z0, h1, bad]
      · have h1 : (q < nI 1) = False := eq_false h1
        have h2 : (nI 20 < q) = True := eq_true (Int32.not_le.mp h2)
        simp (disch := first | assumption | omega) only [z_bdn, z_caln, z_gdn, z_iT, z_iF, z_le_t, z_le_f, z_lt_t, z_lt_f, z_cl, z_inb, z_at, z_pl, z_lit, nI_ii1, nI_add, z_mr, z_ref0, z_refn, z_eq_f, Bool.not_true, Bool.not_false, b2i_t, b2i_f, z0, h1, h2, bad]
  · obtain ⟨N, hN1, hN2, rfl⟩ := rg_ex (by omega) hq
    have eN : (nI N).toNatClampNeg = N := z_cl (by omega)
    simp only [oB]
    rw [eN]
    have z1 : (nI N < nI 1) = False := z_lt_f (by omega) (by omega)
    have z2 : (nI 20 < nI N) = False := z_lt_f (by omega) (by omega)
    have z3 : nI 10000 - nI N = nI (10000 - N) := z_sub (by omega)
    cases hp : rg p 0 (10000 - N)
    · refine ⟨_, ?_, IC_st (nI 5) h, Hi_st⟩
      rcases rg_f (by omega) (by omega) hp with h1 | ⟨h1, h2⟩
      · have z0 : (p < nI 0) = True := eq_true h1
        simp (disch := first | assumption | omega) only [z_bdn, z_caln, z_gdn, z_iT, z_iF, z_le_t, z_le_f, z_lt_t, z_lt_f, z_cl, z_inb, z_at, z_pl, z_lit, nI_ii1, nI_add, z_mr, z_ref0, z_refn, z_eq_f, Bool.not_true, Bool.not_false, b2i_t, b2i_f, z0, bad]
      · have z0 : (p < nI 0) = False := eq_false h1
        have z4 : (p ≤ nI (10000 - N)) = False := eq_false h2
        simp (disch := first | assumption | omega) only [z_bdn, z_caln, z_gdn, z_iT, z_iF, z_le_t, z_le_f, z_lt_t, z_lt_f, z_cl, z_inb, z_at, z_pl, z_lit, nI_ii1, nI_add, z_mr, z_ref0, z_refn, z_eq_f, Bool.not_true, Bool.not_false, b2i_t, b2i_f, z0, z1, z2, z3, z4, bad]
    · obtain ⟨a, -, ha, rfl⟩ := rg_ex (by omega) hp
      have ea : (nI a).toNatClampNeg = a := z_cl (by omega)
      rw [ea]
      have e4 : mI M (s + 15) 4 = b2i (gZ σ).1 := hZ.1
      cases hzt : (gZ σ).1 with
      | false =>
        rw [hzt] at e4
        refine ⟨_, ?_, IC_st (nI 8) h, Hi_st⟩
        simp (disch := first | assumption | omega) only [z_bdn, z_caln, z_gdn, z_iT, z_iF, z_le_t, z_le_f, z_lt_t, z_lt_f, z_cl, z_inb, z_at, z_pl, z_lit, nI_ii1, nI_add, z_mr, z_ref0, z_refn, z_eq_f, Bool.not_true, Bool.not_false, b2i_t, b2i_f, f_KT_mean_l47, nI_pos0, z1, z2, z3, hK.1, hK.s1, e4]
      | true =>
        rw [hzt] at e4
        have h1 := IC_st (nI 0) h
        obtain ⟨M', a1, a2, a3⟩ := q_Cmean h1 hzt ⟨hN1, hN2⟩ (show a + N ≤ 10000 by omega) N FU 0 (sI M 0 13 (nI 0)) (by omega) (FU_lt (by omega)) h1 Fr.rf
        refine ⟨M', ?_, a2, Hi_st.tr a3⟩
        have a1 : f_KT_mean_l63 (nI a) (nI N) FU (nI 0) (nI 0) (sI M 0 13 (nI 0)) = some (nI 1, M') := a1
        simp (disch := first | assumption | omega) only [z_bdn, z_caln, z_gdn, z_iT, z_iF, z_le_t, z_le_f, z_lt_t, z_lt_f, z_cl, z_inb, z_at, z_pl, z_lit, nI_ii1, nI_add, z_mr, z_ref0, z_refn, z_eq_f, Bool.not_true, Bool.not_false, b2i_t, b2i_f, f_KT_mean_l47, nI_pos0, z1, z2, z3, hK.1, hK.s1, e4]
        exact a1
end
