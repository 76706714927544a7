/-! ## CENTURIES: the reference's call -/
section
variable {M M' M1 : kx_M} {T : Nat → Nat} {n w : Nat} {t : Tok} {x : Cl} {y : De} {e : Er} {c c1 : Cs} {σ : Sg}
theorem b_l28 {p1 : Int32} {f : Nat} (hf : 0 < f) (h : Bd M e) : f_RM_centuries_l28 p1 f M = f_RM_centuries_l50 p1 M := by
  have z := b_eq h
  obtain ⟨f, rfl, hf⟩ := z_succ hf
  rw [f_RM_centuries_l28]
  simp (disch := first | assumption | omega) only [z_bdn, z_caln, z_gdn, z_iT, z_iF, z_le_t, z_le_f, z_lt_t, z_lt_f, z_cl, z_inb, z_at, z_pl, z_lit, nI_ii1, nI_add, nI_mul, z_eq_f, z_refuse, z_no, z_M00, b2i_t, b2i_f, z]
theorem q_ml28 {p1 : Int32} (hO : OkC x) (hP : OkD (cW x) y) (hn : n ≤ 900) : ∀ (k m f : Nat) (c : Cs) (M : kx_M), m < k → m ≤ 1000 → m < f → vvS c = [] → MSt M T n x y c → COk n x y c → TkO n (vvT c) → n < m + kP (vvT c) → match cAll T n x y m c with
    | .ok c1 => ∃ M', f_RM_centuries_l28 p1 f M = f_RM_centuries_l50 p1 M' ∧ MSt M' T n x y c1 ∧ vvS c1 = [] ∧ COk n x y c1 ∧ FrZ M M'
    | .error er => ∃ M', f_RM_centuries_l28 p1 f M = f_RM_centuries_l50 p1 M' ∧ Bd M' er ∧ FrZ M M' := by
  intro k
  induction k with
  | zero => intro m f c M hm; exact absurd hm (Nat.not_lt_zero _)
  | succ k ih =>
    intro m f c M hm hm9 hf hS h hOk hTO hlt
    have hp1 := hTO.1
    have hp2 := hTO.2.1
    obtain ⟨m, rfl⟩ : ∃ k, m = k + 1 := ⟨m - 1, by omega⟩
    obtain ⟨f, rfl, hf⟩ := z_succ hf
    have h12 := h.1.2.1
    have h14 := h.2.2.1.1
    have hs4 := h.2.2.2.1
    have z0 := z_sM0 hs4
    by_cases h0 : kS (vvT c) = 0
    · have ep : cAll T n x y (m + 1) c = .ok c := by
        conv => lhs; unfold cAll
        rw [if_pos h0, if_pos hS]
      rw [ep]
      rw [eq_true h0] at z0
      refine ⟨M, ?_, h, hS, hOk, FrZ.rf⟩
      rw [f_RM_centuries_l28]
      simp (disch := first | assumption | omega) only [z_bdn, z_caln, z_gdn, z_iT, z_iF, z_le_t, z_le_f, z_lt_t, z_lt_f, z_cl, z_inb, z_at, z_pl, z_lit, nI_ii1, nI_add, nI_mul, z_eq_f, z_refuse, z_no, z_M00, b2i_t, b2i_f, h12, h14, z0]
    · rw [eq_false h0] at z0
      have g := (PQ_all (T := T) hO hP hn (m + 1) hm9).1 c M h hOk hTO hlt (fun e => absurd e h0) (fun e => absurd hS e)
      rw [hS] at g
      have toL : ∀ M1, g_RM_readStep 5 (nI 0) M = some ((), M1) → ∀ R, f_RM_centuries_l28 p1 f M1 = R → f_RM_centuries_l28 p1 (f + 1) M = R := by
        intro M1 g1 R hR
        rw [f_RM_centuries_l28]
        simp (disch := first | assumption | omega) only [z_bdn, z_caln, z_gdn, z_iT, z_iF, z_le_t, z_le_f, z_lt_t, z_lt_f, z_cl, z_inb, z_at, z_pl, z_lit, nI_ii1, nI_add, nI_mul, z_eq_f, z_refuse, z_no, z_M00, b2i_t, b2i_f, h12, h14, z0, g1]
        exact hR
      rcases g with ⟨er, M1, a1, a2, a3, a4⟩ | ⟨m1, c1, M1, a1, a2, a3, a4, a5, a6, a7, a8, a9⟩
      · rw [a4]
        exact ⟨M1, toL M1 a1 _ (b_l28 (by omega) a2), a2, a3⟩
      · rw [a3]
        have gi := ih m1 f c1 M1 (by omega) (by omega) (by omega) a4 a5 a6 a7 a8
        cases hr : cAll T n x y m1 c1 with
        | ok c2 =>
          rw [hr] at gi
          obtain ⟨M2, b1, b2, b3, b4, b5⟩ := gi
          exact ⟨M2, toL M1 a1 _ b1, b2, b3, b4, a9.tr b5⟩
        | error er =>
          rw [hr] at gi
          obtain ⟨M2, b1, b2, b3⟩ := gi
          exact ⟨M2, toL M1 a1 _ b1, b2, a9.tr b3⟩
theorem q_ml82c {p1 : Int32} {K : Nat} (hK : K ≤ 30) {M0 : kx_M} (h26 : mI M0 135 26 = nI K) : ∀ (m f i : Nat) (M : kx_M), i + m = 9 * K → m < f → Fr (fun id => id = 140) M0 M → (∀ p, mA M 140 p = if 498 ≤ p ∧ p < 498 + i then mA M0 140 (3570 + (p - 498)) else mA M0 140 p) → ∃ M', f_RM_centuries_l82 p1 f (nI i) M = some (nI K, M') ∧ Fr (fun id => id = 140) M0 M' ∧ (∀ p, mA M' 140 p = if 498 ≤ p ∧ p < 498 + 9 * K then mA M0 140 (3570 + (p - 498)) else mA M0 140 p) := by
  intro m
  induction m with
  | zero =>
    intro f i M hi hf hF hA
    obtain ⟨f, rfl, hf⟩ := z_succ hf
    obtain rfl : i = 9 * K := by omega
    have e26 : mI M 135 26 = nI K := ((hF 135 (by omega)).1 26).trans h26
    refine ⟨M, ?_, hF, hA⟩
    rw [f_RM_centuries_l82]
    simp (disch := first | assumption | omega) only [z_bdn, z_caln, z_gdn, z_iT, z_iF, z_le_t, z_le_f, z_lt_t, z_lt_f, z_cl, z_inb, z_at, z_pl, z_lit, nI_ii1, nI_add, nI_mul, z_eq_f, z_refuse, z_no, z_M00, b2i_t, b2i_f, e26]
  | succ m ih =>
    intro f i M hi hf hF hA
    obtain ⟨f, rfl, hf⟩ := z_succ hf
    have e26 : mI M 135 26 = nI K := ((hF 135 (by omega)).1 26).trans h26
    obtain ⟨M', g1, g2, g3⟩ := ih f (i + 1) (sA M 140 (upd (mA M 140) (498 + i) (mA M 140 (3570 + i)))) (by omega) (by omega) (hF.tr (Fr.sA rfl)) (fun p => by
      rw [mA_sA, if_pos rfl, upd_at, hA, hA]
      by_cases he : p = 498 + i
      · rw [if_pos he, if_neg (by omega), if_pos (by omega), show 3570 + (p - 498) = 3570 + i by omega]
      · rw [if_neg he]
        by_cases h4 : 498 ≤ p ∧ p < 498 + i
        · rw [if_pos h4, if_pos (by omega)]
        · rw [if_neg h4, if_neg (by omega)])
    refine ⟨M', ?_, g2, g3⟩
    rw [f_RM_centuries_l82]
    simp (disch := first | assumption | omega) only [z_bdn, z_caln, z_gdn, z_iT, z_iF, z_le_t, z_le_f, z_lt_t, z_lt_f, z_cl, z_inb, z_at, z_pl, z_lit, nI_ii1, nI_add, nI_mul, z_eq_f, z_refuse, z_no, z_M00, b2i_t, b2i_f, e26]
    exact g1
theorem q_wellB2 (h : Bd M e) : f_RM_isWell M = some (nI 0, sI (sI (sI M 135 10 (nI e.1)) 135 11 (nI e.2)) 135 0 (nI 10)) := by
  have z := b_eq h
  have h12 := h.1
  rw [h12] at z
  have h13 := h.2.1
  have e1 : mI (sI M 135 10 (nI e.1)) 135 12 = nI e.1 := h12
  have e2 : mI (sI M 135 10 (nI e.1)) 135 13 = nI e.2 := h13
  have e3 : mI (sI (sI M 135 10 (nI e.1)) 135 11 (nI e.2)) 135 12 = nI e.1 := h12
  have g1 : f_RM_isWell_l24 135 (nI e.2) (sI M 135 10 (nI e.1)) = some (nI 0, sI (sI (sI M 135 10 (nI e.1)) 135 11 (nI e.2)) 135 0 (nI 10)) := by
    rw [f_RM_isWell_l24]
    simp (disch := first | assumption | omega) only [z_bdn, z_caln, z_gdn, z_iT, z_iF, z_le_t, z_le_f, z_lt_t, z_lt_f, z_cl, z_inb, z_at, z_pl, z_lit, nI_ii1, nI_add, nI_mul, z_eq_f, z_refuse, z_no, z_M00, b2i_t, b2i_f, e3, z]
  rw [f_RM_isWell]
  simp (disch := first | assumption | omega) only [z_bdn, z_caln, z_gdn, z_iT, z_iF, z_le_t, z_le_f, z_lt_t, z_lt_f, z_cl, z_inb, z_at, z_pl, z_lit, nI_ii1, nI_add, nI_mul, z_eq_f, z_refuse, z_no, z_M00, b2i_t, b2i_f, h12, e1, z, e2, g1]
theorem useF_of {f g : Nat → Int32} (h : useG f g) (h8 : g 8 = f 8) : useF f g := ⟨h.1, h8, h.2.1, h.2.2.1, h.2.2.2⟩
theorem pM_centuries (p : Int32) : ∀ (M : kx_M) (σ : Sg), IM M σ → ∃ M' z, zOk z p σ ∧ f_RM_centuries p M = some ((o_centuries z p σ).1, M') ∧ IM M' (o_centuries z p σ).2 ∧ Lo M M' := by
  intro M σ h
  have h0 := IM_00 h
  have hI := h0
  obtain ⟨hO, hS, -, -, ⟨b1, b2⟩, -, -⟩ := hI
  have h900 : (gP σ).1 ≤ 900 := hO.2.2.2.2.1
  have h255 : ∀ k, k < (gP σ).1 → (gP σ).2 k ≤ 255 := hO.2.2.2.2.2
  have e8 : mI (M00 M) 135 8 = nI (gP σ).1 := b1
  have b2 : ∀ k, k < (gP σ).1 → mA (M00 M) 139 k = vp_nar .byte (nI ((gP σ).2 k)) := b2
  have b0 : b01 (nI 0) = true := rfl
  have u1 : OkC (gX σ) := hO.1.1
  have u2 : cY (gX σ) ≤ 9999 := hO.1.2.1
  have u3 : OkD (cW (gX σ)) (gY σ) := hO.1.2.2.1
  unfold o_centuries zOk
  cases hx : (ix p ((gP σ).1 + 1) && ix p 301) with
  | false =>
    simp only [z_itf]
    refine ⟨_, fun _ _ => 0, fun e => (by cases e), ?_, IM_r (nI 5) h0, lo_ref Lo_00⟩
    rw [f_RM_centuries]
    by_cases h2 : p < nI 0
    · have z : (p < nI 0) = True := eq_true h2
      simp (disch := first | assumption | omega) only [z_bdn, z_caln, z_gdn, z_iT, z_iF, z_le_t, z_le_f, z_lt_t, z_lt_f, z_cl, z_inb, z_at, z_pl, z_lit, nI_ii1, nI_add, nI_mul, z_eq_f, z_refuse, z_no, z_M00, b2i_t, b2i_f, z, f_RM_starts, b0]
    · have z : (p < nI 0) = False := eq_false h2
      by_cases h1 : nI (gP σ).1 < p
      · have z1 : (nI (gP σ).1 < p) = True := eq_true h1
        simp (disch := first | assumption | omega) only [z_bdn, z_caln, z_gdn, z_iT, z_iF, z_le_t, z_le_f, z_lt_t, z_lt_f, z_cl, z_inb, z_at, z_pl, z_lit, nI_ii1, nI_add, nI_mul, z_eq_f, z_refuse, z_no, z_M00, b2i_t, b2i_f, z, f_RM_starts, e8, z1, b0]
      · have z1 : (nI (gP σ).1 < p) = False := eq_false h1
        have h3 : ¬ p ≤ nI 300 := fun h3 => by
          have h1 : ¬ ((gP σ).1 : Int) < p.toInt := fun e => h1 (Int32.lt_iff_toInt_lt.mpr (by rw [nI_toInt (by omega)]; exact e))
          have h3 := Int32.le_iff_toInt_le.mp h3
          rw [nI_toInt (by omega)] at h3
          cases hx1 : ix p ((gP σ).1 + 1) with
          | false => have := ix_f2 (by omega) hx1 h2; omega
          | true =>
            rw [hx1, Bool.true_and] at hx
            have := ix_f2 (by omega) hx h2
            omega
        have z2 : (p ≤ nI 300) = False := eq_false h3
        simp (disch := first | assumption | omega) only [z_bdn, z_caln, z_gdn, z_iT, z_iF, z_le_t, z_le_f, z_lt_t, z_lt_f, z_cl, z_inb, z_at, z_pl, z_lit, nI_ii1, nI_add, nI_mul, z_eq_f, z_refuse, z_no, z_M00, b2i_t, b2i_f, z, f_RM_starts, e8, z1, z2, b0]
  | true =>
    rw [Bool.and_eq_true] at hx
    obtain ⟨hx1, hx2⟩ := hx
    obtain ⟨n, hn, rfl⟩ := ix_ex (by omega) hx1
    obtain ⟨m, hm, em⟩ := ix_ex (by omega) hx2
    have hnm : n = m := (nI_eq (by omega) (by omega)).mp em
    subst hnm
    have en : (nI n).toNatClampNeg = n := z_cl (by omega)
    simp only [z_itt, en, true_implies, forall_const]
    have hX0 : TxM (sI (sI (sI (sI (M00 M) 135 9 (nI n)) 135 8 (nI 0)) 135 16 (nI 0)) 135 12 (nI 0)) (gP σ).2 n := ⟨rfl, by omega, fun i hi => ⟨b2 i (by omega), h255 i (by omega)⟩⟩
    obtain ⟨M1, a1, a2, a3⟩ := q_advance hX0 (Nat.zero_le n) rfl
    have hX1 := TxM_T hX0 a3
    have h12 : mI M1 135 12 = nI 0 := (a3.2.1 12 (by omega)).trans rfl
    have e140 : mA M1 140 = mA M 140 := (a3.1 140 (by decide)).2.2.1
    have e143 : mB M1 143 = mB M 143 := (a3.1 143 (by decide)).2.2.2.1
    have hZ1 : MZk M1 (gP σ).2 n (gX σ) (gY σ) := ⟨hX1, h12, by rw [e140]; exact hS.1, by rw [e140, e143]; exact hS.2.1⟩
    obtain ⟨M2, hM2⟩ : ∃ M2, M2 = sI M1 135 26 (nI 0) := ⟨_, rfl⟩
    have hT2 : TkM M2 (vvT (c00 (gP σ).2 n)) := by
      rw [hM2]
      exact TkM_I (by omega) a2
    have hSt : MSt M2 (gP σ).2 n (gX σ) (gY σ) (c00 (gP σ).2 n) := ⟨by rw [hM2]; exact MZk_I (by omega) hZ1, ⟨by rw [hM2, m_same]; rfl, fun s hs => absurd hs (Nat.not_lt_zero _), fun s hs => absurd hs (Nat.not_lt_zero _)⟩, hT2, TkBM hX1 (Nat.zero_le n)⟩
    have hTO : TkO n (vvT (c00 (gP σ).2 n)) := by
      obtain ⟨k1, k2, k3, k4, k5, -, -⟩ := nxt_bd (T := (gP σ).2) (Nat.zero_le n)
      exact ⟨k4, k2, k5⟩
    have g := q_ml28 (p1 := nI n) u1 u3 (by omega) 1001 1000 FU (c00 (gP σ).2 n) M2 (by omega) (by omega) (FU_lt (by omega)) rfl hSt COk_00 hTO (by omega)
    have toL : ∀ R, f_RM_centuries_l28 (nI n) FU M2 = R → f_RM_centuries (nI n) M = R := by
      intro R hR
      have g1 : f_RM_starts (nI n) (nI 300) (M00 M) = some (nI 1, M1) := by
        rw [f_RM_starts]
        simp (disch := first | assumption | omega) only [z_bdn, z_caln, z_gdn, z_iT, z_iF, z_le_t, z_le_f, z_lt_t, z_lt_f, z_cl, z_inb, z_at, z_pl, z_lit, nI_ii1, nI_add, nI_mul, z_eq_f, z_refuse, z_no, z_M00, b2i_t, b2i_f, e8, a1]
      rw [f_RM_centuries]
      simp (disch := first | assumption | omega) only [z_bdn, z_caln, z_gdn, z_iT, z_iF, z_le_t, z_le_f, z_lt_t, z_lt_f, z_cl, z_inb, z_at, z_pl, z_lit, nI_ii1, nI_add, nI_mul, z_eq_f, z_refuse, z_no, z_M00, b2i_t, b2i_f, g1, ← hM2]
      exact hR
    have f6 : ∀ k, k ≠ 9 → k ≠ 8 → k ≠ 16 → k ≠ 12 → mI (sI (sI (sI (sI (M00 M) 135 9 (nI n)) 135 8 (nI 0)) 135 16 (nI 0)) 135 12 (nI 0)) 135 k = mI (M00 M) 135 k := fun k k1 k2 k3 k4 => by
      rw [mI_sI, if_neg (by omega), mI_sI, if_neg (by omega), mI_sI, if_neg (by omega), mI_sI, if_neg (by omega)]
    have up : ∀ M3, FrZ M2 M3 → Fr (fun id => id = 135 ∨ id = 140 ∨ id = 143) (M00 M) M3 ∧ (∀ k, (k = 0 ∨ k = 24 ∨ k = 36) → mI M3 135 k = mI (M00 M) 135 k) ∧ mI M3 135 8 = nI 0 ∧ (∀ k, k ≠ 19 → mJ M3 135 k = mJ (M00 M) 135 k) ∧ (∀ p, p < 3570 → mA M3 140 p = mA (M00 M) 140 p) ∧ mB M3 143 = mB (M00 M) 143 := by
      intro M3 hF
      have i2 : ∀ k, k ≠ 26 → mI M2 135 k = mI M1 135 k := fun k hk => by rw [hM2, mI_sI, if_neg (by omega)]
      refine ⟨Fr.tr (Fr.tr (Fr.sI (Or.inl rfl)) (Fr.tr (Fr.sI (Or.inl rfl)) (Fr.tr (Fr.sI (Or.inl rfl)) (Fr.sI (Or.inl rfl))))) ((a3.1.mono (fun id e => Or.inl e)).tr ((show Fr (fun id => id = 135 ∨ id = 140 ∨ id = 143) M1 M2 by rw [hM2]; exact Fr.sI (Or.inl rfl)).tr (hF.1.mono (fun id e => by omega)))), fun k hk => ?_, ?_, fun k hk => ?_, fun p hp => ?_, ?_⟩
      · exact (hF.2.2.1 k (by omega)).trans ((i2 k (by omega)).trans ((a3.2.1 k (by omega)).trans (f6 k (by omega) (by omega) (by omega) (by omega))))
      · exact (hF.2.2.1 8 (by omega)).trans ((i2 8 (by omega)).trans ((a3.2.1 8 (by omega)).trans rfl))
      · refine (hF.2.2.2 k hk).trans (Eq.trans ?_ (a3.2.2 k hk))
        rw [hM2]; rfl
      · refine (hF.2.1 p hp).trans ?_
        rw [hM2]
        exact congrFun e140 p
      · refine (hF.1 143 (by omega)).2.2.2.1.trans ?_
        rw [hM2]
        exact e143
    cases hp : pCen (gP σ).2 n (gX σ) (gY σ) with
    | error e =>
      have hp : cAll (gP σ).2 n (gX σ) (gY σ) 1000 (c00 (gP σ).2 n) = .error e := hp
      rw [hp] at g
      obtain ⟨M3, d1, d2, d3⟩ := g
      obtain ⟨v1, v2, v3, v4, v5, v6⟩ := up M3 d3
      have hw := q_wellB2 d2
      have hF : Fr (fun id => id = 135 ∨ id = 140 ∨ id = 143) (M00 M) (sI (sI (sI M3 135 10 (nI e.1)) 135 11 (nI e.2)) 135 0 (nI 10)) := v1.tr (Fr.tr (Fr.sI (Or.inl rfl)) (Fr.tr (Fr.sI (Or.inl rfl)) (Fr.sI (Or.inl rfl))))
      have hl : f_RM_centuries_l50 (nI n) M3 = some (-nI 1, sI (sI (sI M3 135 10 (nI e.1)) 135 11 (nI e.2)) 135 0 (nI 10)) := by
        rw [f_RM_centuries_l50]
        simp (disch := first | assumption | omega) only [z_bdn, z_caln, z_gdn, z_iT, z_iF, z_le_t, z_le_f, z_lt_t, z_lt_f, z_cl, z_inb, z_at, z_pl, z_lit, nI_ii1, nI_add, nI_mul, z_eq_f, z_refuse, z_no, z_M00, b2i_t, b2i_f, hw]
      refine ⟨_, fun _ _ => 0, fun c e => (by cases e), toL _ (d1.trans hl), IM_trM (σ := wS σ (nI 0)) (st := nI 10) (c := nI e.1) (d := nI e.2) (u := gN σ) h0 hF rfl v3 rfl rfl (v2 24 (by omega)) (v2 36 (by omega)) (v4 2 (by omega)) (v4 3 (by omega)) hO.1 (MS_g hO.1 (fun p hp => v5 p (by omega)) (fun p hp => congrFun v6 p) hS) (fun p _ hp => v5 p (by omega)) (fun p _ hp => congrFun v6 p), Lo_00.tr (hF.mono (fun id e => by show 135 ≤ id; omega))⟩
    | ok c1 =>
      have hp2 := hp
      have hp : cAll (gP σ).2 n (gX σ) (gY σ) 1000 (c00 (gP σ).2 n) = .ok c1 := hp
      rw [hp] at g
      obtain ⟨M3, d1, d2, d3, d4, d5⟩ := g
      obtain ⟨v1, v2, v3, v4, v5, v6⟩ := up M3 d5
      obtain ⟨k1, k2, k3, k4⟩ := pCen_ok u1 u3 (by omega) hp2
      have hw := q_wellG d2.1.2.1
      have d26 := d2.2.1.1
      obtain ⟨M4, hM4⟩ : ∃ M4, M4 = sA (sA (sI (sI M3 135 10 (nI 0)) 135 11 (-nI 1)) 140 (upd (mA M3 140) 496 (nI 1))) 140 (upd (upd (mA M3 140) 496 (nI 1)) 497 (nI (vvK c1))) := ⟨_, rfl⟩
      have e26 : mI M4 135 26 = nI (vvK c1) := by rw [hM4]; exact d26
      obtain ⟨M5, g1, g2, g3⟩ := q_ml82c (p1 := nI n) k1 e26 (9 * vvK c1) FU 0 M4 (by omega) (FU_lt (by omega)) Fr.rf (fun p => by rw [if_neg (by omega)])
      have i4 : ∀ k, k ≠ 10 → k ≠ 11 → mI M4 135 k = mI M3 135 k := fun k h1 h2 => by rw [hM4, mI_sA, mI_sA, mI_sI, if_neg (by omega), mI_sI, if_neg (by omega)]
      have e135 := g2 135 (by omega)
      have hF : Fr (fun id => id = 135 ∨ id = 140 ∨ id = 143) (M00 M) M5 := v1.tr (Fr.tr (by rw [hM4]; exact Fr.tr (Fr.sI (Or.inl rfl)) (Fr.tr (Fr.sI (Or.inl rfl)) (Fr.tr (Fr.sA (Or.inr (Or.inl rfl))) (Fr.sA (Or.inr (Or.inl rfl)))))) (g2.mono (fun id e => Or.inr (Or.inl e))))
      have a4 : ∀ p, mA M4 140 p = if p = 497 then nI (vvK c1) else if p = 496 then nI 1 else mA M3 140 p := fun p => by rw [hM4]; rfl
      have hlow : ∀ p, p < 496 → mA M5 140 p = mA (M00 M) 140 p := fun p hp => by
        rw [g3, if_neg (by omega), a4, if_neg (by omega), if_neg (by omega)]
        exact v5 p (by omega)
      have hhi : ∀ p, 768 ≤ p → p < 3570 → mA M5 140 p = mA (M00 M) 140 p := fun p h1 hp => by
        rw [g3, if_neg (by omega), a4, if_neg (by omega), if_neg (by omega)]
        exact v5 p (by omega)
      have hB : mB M5 143 = mB (M00 M) 143 := by
        rw [(g2 143 (by omega)).2.2.2.1, hM4]
        exact v6
      have hz : ∀ s, s < vvK c1 → useF (zI (vvZ c1) s) (fun j => mA M3 140 (3570 + 9 * s + j)) := fun s hs => useF_of (d2.2.1.2.1 s hs) (d2.2.1.2.2 s hs (by omega) (fun q hq => by rw [d3] at hq; cases hq))
      have hu : OkSt (gX σ, gY σ, (true, vvK c1, fun s j => mA M3 140 (3570 + 9 * s + j))) := ⟨u1, u2, u3, fun _ => ⟨k1, Wel_use hz _ _ _ _ (Nat.le_refl _) k4⟩⟩
      have hZ : MZ (mA M5 140) (true, vvK c1, fun s j => mA M3 140 (3570 + 9 * s + j)) := by
        refine ⟨by rw [g3, if_neg (by omega), a4, if_neg (by omega), if_pos rfl]; rfl, fun _ => ⟨by rw [g3, if_neg (by omega), a4, if_pos rfl], fun s j hs hj => ?_⟩⟩
        have hs : s < vvK c1 := hs
        show _ = mA M3 140 (3570 + 9 * s + j)
        rw [g3, if_pos (by omega), a4, if_neg (by omega), if_neg (by omega)]
        rw [show 3570 + (498 + 9 * s + j - 498) = 3570 + 9 * s + j by omega]
      have hC5 : MC (mA M5 140) (gX σ) := by
        refine MC_lo4 u1 hlow ?_
        exact hS.1
      have hD5 : MD (mA M5 140) (mB M5 143) (gY σ) := by
        rw [hB]
        refine MD_lo4 u3 hlow ?_
        exact hS.2.1
      refine ⟨M5, fun s j => mA M3 140 (3570 + 9 * s + j), fun c e => (by cases e; exact hz), toL _ (d1.trans ?_), IM_trM (σ := wS σ (nI 0)) (st := nI 0) (c := nI 0) (d := -nI 1) (u := (gX σ, gY σ, (true, vvK c1, fun s j => mA M3 140 (3570 + 9 * s + j)))) h0 hF ((e135.1 0).trans ((i4 0 (by omega) (by omega)).trans ((v2 0 (by omega)).trans rfl))) ((e135.1 8).trans ((i4 8 (by omega) (by omega)).trans v3)) ((e135.1 10).trans (by rw [hM4]; rfl)) ((e135.1 11).trans (by rw [hM4]; rfl)) ((e135.1 24).trans ((i4 24 (by omega) (by omega)).trans (v2 24 (by omega)))) ((e135.1 36).trans ((i4 36 (by omega) (by omega)).trans (v2 36 (by omega)))) ((e135.2.1 2).trans ((by rw [hM4]; rfl : mJ M4 135 2 = mJ M3 135 2).trans (v4 2 (by omega)))) ((e135.2.1 3).trans ((by rw [hM4]; rfl : mJ M4 135 3 = mJ M3 135 3).trans (v4 3 (by omega)))) hu ⟨hC5, hD5, hZ⟩ (fun p h1 h2 => hhi p h1 (by omega)) (fun p h1 h2 => congrFun hB p), Lo_00.tr (hF.mono (fun id e => by show 135 ≤ id; omega))⟩
      have m1 : mI (sI (sI M3 135 10 (nI 0)) 135 11 (-nI 1)) 135 26 = nI (vvK c1) := d26
      have m2 : ∀ f, mI (sA (sI (sI M3 135 10 (nI 0)) 135 11 (-nI 1)) 140 f) 135 26 = nI (vvK c1) := fun f => d26
      have m3 : mA (sI (sI M3 135 10 (nI 0)) 135 11 (-nI 1)) 140 = mA M3 140 := rfl
      have m4 : ∀ f, mA (sA (sI (sI M3 135 10 (nI 0)) 135 11 (-nI 1)) 140 f) 140 = f := fun f => by rw [mA_sA, if_pos rfl]
      rw [f_RM_centuries_l50]
      simp (disch := first | assumption | omega) only [z_bdn, z_caln, z_gdn, z_iT, z_iF, z_le_t, z_le_f, z_lt_t, z_lt_f, z_cl, z_inb, z_at, z_pl, z_lit, nI_ii1, nI_add, nI_mul, z_eq_f, z_refuse, z_no, z_M00, b2i_t, b2i_f, hw, m1, m2, m3, m4, ← hM4, g1]
end
