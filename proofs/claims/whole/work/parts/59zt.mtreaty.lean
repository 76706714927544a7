/-! ## a TREATY: the reference -/
section
variable {M M' M1 : kx_M} {T : Nat → Nat} {n : Nat} {t : Tok} {x : Cl} {y : De} {a b : Bool} {s : Ps} {e : Er} {σ : Sg}
theorem setN_cut {p : Nat → Bool} {c : Nat} : ∀ m, c ≤ m → (∀ i, c ≤ i → i < m → p i = false) → setN p m = setN p c
  | 0, h, _ => by
    obtain rfl : c = 0 := by omega
    rfl
  | m + 1, h, hp => by
    by_cases he : c = m + 1
    · rw [he]
    · show setN p m + (if p m = true then 2 ^ m else 0) = _
      rw [if_neg (by rw [hp m (by omega) (by omega)]; exact Bool.false_ne_true), Nat.add_zero]
      exact setN_cut m (by omega) (fun i h1 h2 => hp i h1 (by omega))
theorem MD_PMg {W : Nat} {g : Nat → Int32} {h : Nat → Int64} (hP : OkD W y) (h4 : ∀ k i, (dC y ≤ k ∨ dC y ≤ i) → k < 6 → i < 6 → dX y (6 * k + i) = 0) (hD : PMg g h y) : MD g h y := by
  obtain ⟨p1, p2, -⟩ := hP
  obtain ⟨h1, h2, h3, h5, h6, h7, h8⟩ := hD
  refine ⟨h1, h2, h3, h5, h6, fun k hk => (h7 k (by omega)).trans (congrArg nI (setN_cut 6 p2 (fun i i1 i2 => ?_))), fun v q k hv hq hk => h8 v q k hv (by omega) (by omega)⟩
  rw [h4 k i (Or.inr i1) (by omega) i2]
  decide
theorem IM_trM {st c d : Int32} {u : St} (h : IM M σ) (hF : Fr (fun id => id = 135 ∨ id = 140 ∨ id = 143) M M') (k0 : mI M' 135 0 = st) (k8 : mI M' 135 8 = nI 0) (k10 : mI M' 135 10 = c) (k11 : mI M' 135 11 = d) (k24 : mI M' 135 24 = mI M 135 24) (k36 : mI M' 135 36 = mI M 135 36) (j2 : mJ M' 135 2 = mJ M 135 2) (j3 : mJ M' 135 3 = mJ M 135 3) (hu : OkSt u) (hS : MS (mA M' 140) (mB M' 143) u) (hA : ∀ p, 768 ≤ p → p < 3072 → mA M' 140 p = mA M 140 p) (hB : ∀ p, 10 ≤ p → p < 40 → mB M' 143 p = mB M 143 p) : IM M' (wE (wNow (wP (wS σ st) 0 (gP σ).2) u) c d) := by
  obtain ⟨hO, -, ⟨a1, a2, a3, a4, a5⟩, hT, ⟨b1, b2⟩, ⟨c1, c2⟩, ⟨d1, d2⟩⟩ := h
  have e136 := (hF 136 (by omega)).2.2.1
  have e137 := (hF 137 (by omega)).2.2.1
  have e138 := (hF 138 (by omega)).2.2.2.1
  have e150 := (hF 150 (by omega)).2.2.1
  have hn := hO.2.1
  refine ⟨⟨hu, hO.2.1, hO.2.2.1, hO.2.2.2.1, Nat.zero_le _, fun k hk => absurd hk (Nat.not_lt_zero _)⟩, hS, ⟨k0, j2.trans a2, j3.trans a3, k10, k11⟩, ?_, ⟨k8, fun k hk => absurd hk (Nat.not_lt_zero _)⟩, ⟨k24.trans c1, fun i hi => ?_⟩, ⟨k36.trans d1, ?_⟩⟩
  · unfold MT; rw [e136, e137, e138]; exact hT
  · have hi : i < (gK σ).1 := hi
    exact MS_g (hO.2.2.1 i hi) (fun p hp => hA _ (by omega) (by omega)) (fun p hp => hB _ (by omega) (by omega)) (c2 i hi)
  · rw [e150]; exact d2
/-- the block that is cleared -/
def ClB (M : kx_M) : Prop := gM M 0 = nI 6 ∧ gM M 1 = nI 20 ∧ ∀ p, 2 ≤ p → p < 768 → gM M p = nI 0
theorem q_l25 {p1 : Int32} : ∀ (m f i : Nat) (M : kx_M), i + m = 768 → m < f → (∀ p, p < i → gM M p = nI 0) → ∃ M', f_RM_treaty_l25 p1 f (nI i) M = f_RM_treaty_l74 p1 FU M' ∧ ClB M' ∧ mI M' 135 25 = nI 0 ∧ FrX M M' ∧ (∀ t, TkM M t → TkM M' t) ∧ mI M' 135 12 = mI M 135 12 := by
  intro m
  induction m with
  | zero =>
    intro f i M hi hf h
    obtain ⟨f, rfl, hf⟩ := z_succ hf
    obtain rfl : i = 768 := by omega
    refine ⟨sI (sA (sA M 140 (upd (mA M 140) (3072 + 0) (nI 6))) 140 (upd (mA (sA M 140 (upd (mA M 140) (3072 + 0) (nI 6))) 140) (3072 + 1) (nI 20))) 135 25 (nI 0), ?_, ⟨?_, ?_, fun p h1 h2 => ?_⟩, rfl, (FrX.A (by omega)).tr ((FrX.A (by omega)).tr (FrX.I (by omega))), fun t g => g, rfl⟩
    · rw [f_RM_treaty_l25]
      simp (disch := first | assumption | omega) only [z_bdn, z_caln, z_gdn, z_iT, z_iF, z_le_t, z_le_f, z_lt_t, z_lt_f, z_cl, z_inb, z_at, z_pl, z_lit, nI_ii1, nI_add, nI_mul, z_eq_f, z_refuse, z_no, z_M00, b2i_t, b2i_f]
    · show gM (sA (sA M 140 (upd (mA M 140) (3072 + 0) (nI 6))) 140 (upd (mA (sA M 140 (upd (mA M 140) (3072 + 0) (nI 6))) 140) (3072 + 1) (nI 20))) 0 = _
      rw [gM_A, gM_A]; rfl
    · show gM (sA (sA M 140 (upd (mA M 140) (3072 + 0) (nI 6))) 140 (upd (mA (sA M 140 (upd (mA M 140) (3072 + 0) (nI 6))) 140) (3072 + 1) (nI 20))) 1 = _
      rw [gM_A, gM_A]; rfl
    · show gM (sA (sA M 140 (upd (mA M 140) (3072 + 0) (nI 6))) 140 (upd (mA (sA M 140 (upd (mA M 140) (3072 + 0) (nI 6))) 140) (3072 + 1) (nI 20))) p = _
      rw [gM_A, gM_A, uf_at, if_neg (by omega), uf_at, if_neg (by omega)]
      exact h p h2
  | succ m ih =>
    intro f i M hi hf h
    obtain ⟨f, rfl, hf⟩ := z_succ hf
    obtain ⟨M', g1, g2, g3, g4, g5, g6⟩ := ih f (i + 1) (sA M 140 (upd (mA M 140) (3072 + i) (nI 0))) (by omega) (by omega) (fun p hp => by
      rw [gM_A, uf_at]
      by_cases he : p = i
      · rw [if_pos he]
      · rw [if_neg he]; exact h p (by omega))
    refine ⟨M', ?_, g2, g3, (FrX.A (by omega)).tr g4, fun t g => g5 t g, g6⟩
    rw [f_RM_treaty_l25]
    simp (disch := first | assumption | omega) only [z_bdn, z_caln, z_gdn, z_iT, z_iF, z_le_t, z_le_f, z_lt_t, z_lt_f, z_cl, z_inb, z_at, z_pl, z_lit, nI_ii1, nI_add, nI_mul, z_eq_f, z_refuse, z_no, z_M00, b2i_t, b2i_f]
    exact g1
theorem MBk_00 (hC : ClB M) (hX : TxM M T n) (h12 : mI M 135 12 = nI 0) (h25 : mI M 135 25 = nI 0) : MBk M T n x00 y00 false false := by
  obtain ⟨c0, c1, c2⟩ := hC
  refine ⟨hX, h12, ⟨c0, c1, c2 4 (by omega) (by omega), c2 5 (by omega) (by omega), fun r hr => absurd hr (Nat.not_lt_zero _), fun r i hr => absurd hr (Nat.not_lt_zero _)⟩, ⟨c2 2 (by omega) (by omega), c2 3 (by omega) (by omega), fun q hq => absurd hq (Nat.not_lt_zero _), fun k hk => absurd hk (Nat.not_lt_zero _), fun k i hk => absurd hk (Nat.not_lt_zero _), fun k hk => ?_, fun v q k hv hq hk => c2 _ (by omega) (by omega)⟩, h25, fun p h1 h2 => c2 p (by omega) h2⟩
  have e : setN (fun i => decide (dX y00 (6 * k + i) = 1)) 6 = 0 := setN_zero (fun i hi => decide_eq_false (show ¬ (0 = 1) by omega))
  rw [e]
  exact c2 _ (by omega) (by omega)
theorem b_l74 {p1 : Int32} {f : Nat} (hf : 0 < f) (h : Bd M e) : f_RM_treaty_l74 p1 f M = f_RM_treaty_l105 p1 M := by
  have z := b_eq h
  obtain ⟨f, rfl, hf⟩ := z_succ hf
  rw [f_RM_treaty_l74]
  simp (disch := first | assumption | omega) only [z_bdn, z_caln, z_gdn, z_iT, z_iF, z_le_t, z_le_f, z_lt_t, z_lt_f, z_cl, z_inb, z_at, z_pl, z_lit, nI_ii1, nI_add, nI_mul, z_eq_f, z_refuse, z_no, z_M00, b2i_t, b2i_f, z]
theorem q_l74 {p1 : Int32} (hn : n ≤ 900) : ∀ (m f i : Nat) (s : Ps) (M : kx_M), i + m = 1000 → m < f → i ≤ kP (sT s) → TkO n (sT s) → MPs M T n s → POk n s → match pAll T n m s with
    | .ok s1 => ∃ M', f_RM_treaty_l74 p1 f M = f_RM_treaty_l105 p1 M' ∧ MPs M' T n s1 ∧ FrX M M'
    | .error er => ∃ M', f_RM_treaty_l74 p1 f M = f_RM_treaty_l105 p1 M' ∧ Bd M' er ∧ FrX M M' := by
  intro m
  induction m with
  | zero =>
    intro f i s M hi hf hk hT
    have h1 := hT.1
    have h2 := hT.2.1
    omega
  | succ m ih =>
    intro f i s M hi hf hk hTO h hO
    obtain ⟨f, rfl, hf⟩ := z_succ hf
    have h12 := h.1.2.1
    have h14 := h.2.1.1
    have hs4 := h.2.1.2.2.2.2.2.2.2
    have z0 := z_sM0 hs4
    by_cases h0 : kS (sT s) = 0
    · have ep : pAll T n (m + 1) s = .ok s := by unfold pAll; rw [if_pos h0]
      rw [ep]
      rw [eq_true h0] at z0
      refine ⟨M, ?_, h, FrX.rf⟩
      rw [f_RM_treaty_l74]
      simp (disch := first | assumption | omega) only [z_bdn, z_caln, z_gdn, z_iT, z_iF, z_le_t, z_le_f, z_lt_t, z_lt_f, z_cl, z_inb, z_at, z_pl, z_lit, nI_ii1, nI_add, nI_mul, z_eq_f, z_refuse, z_no, z_M00, b2i_t, b2i_f, h12, h14, z0]
    · rw [eq_false h0] at z0
      have g := q_mPart h hO
      cases hp : pPart T n s with
      | error er =>
        have ep : pAll T n (m + 1) s = .error er := by unfold pAll; rw [if_neg h0, hp]
        rw [ep]
        rw [hp] at g
        obtain ⟨M1, v, M3, g1, g2, g3, g4, g5⟩ := g
        refine ⟨M3, ?_, g5, g4⟩
        have gb := b_l74 (p1 := p1) (f := f) (by omega) g5
        rw [f_RM_treaty_l74]
        simp (disch := first | assumption | omega) only [z_bdn, z_caln, z_gdn, z_iT, z_iF, z_le_t, z_le_f, z_lt_t, z_lt_f, z_cl, z_inb, z_at, z_pl, z_lit, nI_ii1, nI_add, nI_mul, z_eq_f, z_refuse, z_no, z_M00, b2i_t, b2i_f, h12, h14, z0, g1, g2, g3]
        exact gb
      | ok s1 =>
        have ep : pAll T n (m + 1) s = pAll T n m s1 := by
          conv => lhs; unfold pAll
          rw [if_neg h0, hp]
        rw [ep]
        rw [hp] at g
        obtain ⟨M1, v, M3, g1, g2, g3, g4, g5⟩ := g
        obtain ⟨k1, k2⟩ := pPart_mo hTO h0 hp
        have gi := ih f (i + 1) s1 M3 (by omega) (by omega) (by omega) k1 g5 (pPart_ok hO hp)
        have toL : ∀ R, f_RM_treaty_l74 p1 f M3 = R → f_RM_treaty_l74 p1 (f + 1) M = R := by
          intro R hR
          rw [f_RM_treaty_l74]
          simp (disch := first | assumption | omega) only [z_bdn, z_caln, z_gdn, z_iT, z_iF, z_le_t, z_le_f, z_lt_t, z_lt_f, z_cl, z_inb, z_at, z_pl, z_lit, nI_ii1, nI_add, nI_mul, z_eq_f, z_refuse, z_no, z_M00, b2i_t, b2i_f, h12, h14, z0, g1, g2, g3]
          exact hR
        cases hp2 : pAll T n m s1 with
        | ok s2 =>
          rw [hp2] at gi
          obtain ⟨M4, d1, d2, d3⟩ := gi
          exact ⟨M4, toL _ d1, d2, g4.tr d3⟩
        | error er =>
          rw [hp2] at gi
          obtain ⟨M4, d1, d2, d3⟩ := gi
          exact ⟨M4, toL _ d1, d2, g4.tr d3⟩
theorem q_wellB {p1 : Int32} (h : Bd M e) : f_RM_treaty_l105 p1 M = some (-nI 1, sI (sI (sI M 135 10 (nI e.1)) 135 11 (nI e.2)) 135 0 (nI 10)) := by
  have z := b_eq h
  have h12 := h.1
  rw [h12] at z
  have h13 := h.2.1
  have e1 : mI (sI M 135 10 (nI e.1)) 135 12 = nI e.1 := h12
  have e2 : mI (sI M 135 10 (nI e.1)) 135 13 = nI e.2 := h13
  have e3 : mI (sI (sI M 135 10 (nI e.1)) 135 11 (nI e.2)) 135 12 = nI e.1 := h12
  have g1 : f_RM_isWell_l24 135 (nI e.2) (sI M 135 10 (nI e.1)) = some (nI 0, sI (sI (sI M 135 10 (nI e.1)) 135 11 (nI e.2)) 135 0 (nI 10)) := by
    rw [f_RM_isWell_l24]
    simp (disch := first | assumption | omega) only [z_bdn, z_caln, z_gdn, z_iT, z_iF, z_le_t, z_le_f, z_lt_t, z_lt_f, z_cl, z_inb, z_at, z_pl, z_lit, nI_ii1, nI_add, nI_mul, z_eq_f, z_refuse, z_no, z_M00, b2i_t, b2i_f, e3, z]
  have g2 : f_RM_isWell M = some (nI 0, sI (sI (sI M 135 10 (nI e.1)) 135 11 (nI e.2)) 135 0 (nI 10)) := by
    rw [f_RM_isWell]
    simp (disch := first | assumption | omega) only [z_bdn, z_caln, z_gdn, z_iT, z_iF, z_le_t, z_le_f, z_lt_t, z_lt_f, z_cl, z_inb, z_at, z_pl, z_lit, nI_ii1, nI_add, nI_mul, z_eq_f, z_refuse, z_no, z_M00, b2i_t, b2i_f, h12, e1, z, e2, g1]
  rw [f_RM_treaty_l105]
  simp (disch := first | assumption | omega) only [z_bdn, z_caln, z_gdn, z_iT, z_iF, z_le_t, z_le_f, z_lt_t, z_lt_f, z_cl, z_inb, z_at, z_pl, z_lit, nI_ii1, nI_add, nI_mul, z_eq_f, z_refuse, z_no, z_M00, b2i_t, b2i_f, g2]
theorem q_wellG (h12 : mI M 135 12 = nI 0) : f_RM_isWell M = some (nI 1, sI (sI M 135 10 (nI 0)) 135 11 (-nI 1)) := by
  have e1 : mI (sI M 135 10 (nI 0)) 135 12 = nI 0 := h12
  have e3 : mI (sI (sI M 135 10 (nI 0)) 135 11 (-nI 1)) 135 12 = nI 0 := h12
  rw [f_RM_isWell]
  simp (disch := first | assumption | omega) only [z_bdn, z_caln, z_gdn, z_iT, z_iF, z_le_t, z_le_f, z_lt_t, z_lt_f, z_cl, z_inb, z_at, z_pl, z_lit, nI_ii1, nI_add, nI_mul, z_eq_f, z_refuse, z_no, z_M00, b2i_t, b2i_f, h12, e1, f_RM_isWell_l24, e3]
theorem pM_treaty (p : Int32) : PM (f_RM_treaty p) (o_treaty p) := by
  intro M σ h
  have h0 := IM_00 h
  have hI := h0
  obtain ⟨hO, hS, -, -, ⟨b1, b2⟩, -, -⟩ := hI
  have h900 : (gP σ).1 ≤ 900 := hO.2.2.2.2.1
  have h255 : ∀ k, k < (gP σ).1 → (gP σ).2 k ≤ 255 := hO.2.2.2.2.2
  have e8 : mI (M00 M) 135 8 = nI (gP σ).1 := b1
  have b2 : ∀ k, k < (gP σ).1 → mA (M00 M) 139 k = vp_nar .byte (nI ((gP σ).2 k)) := b2
  have b0 : b01 (nI 0) = true := rfl
  unfold o_treaty
  cases hx : ix p ((gP σ).1 + 1) with
  | false =>
    rw [z_itf]
    refine ⟨_, ?_, IM_r (nI 5) h0, lo_ref Lo_00⟩
    rw [f_RM_treaty]
    rcases ix_f (by omega) hx with h1 | h1
    · have z : (p < nI 0) = True := eq_true h1
      simp (disch := first | assumption | omega) only [z_bdn, z_caln, z_gdn, z_iT, z_iF, z_le_t, z_le_f, z_lt_t, z_lt_f, z_cl, z_inb, z_at, z_pl, z_lit, nI_ii1, nI_add, nI_mul, z_eq_f, z_refuse, z_no, z_M00, b2i_t, b2i_f, z, f_RM_starts, b0]
    · by_cases h2 : p < nI 0
      · have z : (p < nI 0) = True := eq_true h2
        simp (disch := first | assumption | omega) only [z_bdn, z_caln, z_gdn, z_iT, z_iF, z_le_t, z_le_f, z_lt_t, z_lt_f, z_cl, z_inb, z_at, z_pl, z_lit, nI_ii1, nI_add, nI_mul, z_eq_f, z_refuse, z_no, z_M00, b2i_t, b2i_f, z, f_RM_starts, b0]
      · have z : (p < nI 0) = False := eq_false h2
        have z2 : (nI (gP σ).1 < p) = True := eq_true (by
          refine Int32.lt_iff_toInt_lt.mpr ?_
          rw [nI_toInt (by omega)]
          rw [i32_lt p (by omega)] at h1
          omega)
        simp (disch := first | assumption | omega) only [z_bdn, z_caln, z_gdn, z_iT, z_iF, z_le_t, z_le_f, z_lt_t, z_lt_f, z_cl, z_inb, z_at, z_pl, z_lit, nI_ii1, nI_add, nI_mul, z_eq_f, z_refuse, z_no, z_M00, b2i_t, b2i_f, z, f_RM_starts, e8, z2, b0]
  | true =>
    rw [z_itt]
    obtain ⟨n, hn, rfl⟩ := ix_ex (by omega) hx
    have en : (nI n).toNatClampNeg = n := z_cl (by omega)
    rw [en]
    have hX0 : TxM (sI (sI (sI (sI (M00 M) 135 9 (nI n)) 135 8 (nI 0)) 135 16 (nI 0)) 135 12 (nI 0)) (gP σ).2 n := ⟨rfl, by omega, fun i hi => ⟨b2 i (by omega), h255 i (by omega)⟩⟩
    obtain ⟨M1, a1, a2, a3⟩ := q_advance hX0 (Nat.zero_le n) rfl
    have hX1 := TxM_T hX0 a3
    obtain ⟨M2, c1, c2, c3, c4, c5, c6⟩ := q_l25 (p1 := nI n) 768 FU 0 M1 (by omega) (FU_lt (by omega)) (fun p hp => absurd hp (Nat.not_lt_zero _))
    have h12 : mI M2 135 12 = nI 0 := c6.trans ((a3.2.1 12 (by omega)).trans rfl)
    have hB2 : MPs M2 (gP σ).2 n (p00 (gP σ).2 n) := ⟨MBk_00 c2 (TxM_X hX1 c4) h12 c3, c5 _ a2, TkBM hX1 (Nat.zero_le n)⟩
    have hTO : TkO n (sT (p00 (gP σ).2 n)) := by
      obtain ⟨k1, k2, k3, k4, k5, -, -⟩ := nxt_bd (T := (gP σ).2) (Nat.zero_le n)
      exact ⟨k4, k2, k5⟩
    have g := q_l74 (p1 := nI n) (by omega) 1000 FU 0 (p00 (gP σ).2 n) M2 (by omega) (FU_lt (by omega)) (Nat.zero_le _) hTO hB2 POk_00
    have toL : ∀ R, f_RM_treaty_l74 (nI n) FU M2 = R → f_RM_treaty (nI n) M = R := by
      intro R hR
      have g1 : f_RM_starts (nI n) (nI 900) (M00 M) = some (nI 1, M1) := by
        rw [f_RM_starts]
        simp (disch := first | assumption | omega) only [z_bdn, z_caln, z_gdn, z_iT, z_iF, z_le_t, z_le_f, z_lt_t, z_lt_f, z_cl, z_inb, z_at, z_pl, z_lit, nI_ii1, nI_add, nI_mul, z_eq_f, z_refuse, z_no, z_M00, b2i_t, b2i_f, e8, a1]
      rw [f_RM_treaty]
      simp (disch := first | assumption | omega) only [z_bdn, z_caln, z_gdn, z_iT, z_iF, z_le_t, z_le_f, z_lt_t, z_lt_f, z_cl, z_inb, z_at, z_pl, z_lit, nI_ii1, nI_add, nI_mul, z_eq_f, z_refuse, z_no, z_M00, b2i_t, b2i_f, g1]
      exact c1.trans hR
    have f6 : ∀ k, k ≠ 9 → k ≠ 8 → k ≠ 16 → k ≠ 12 → mI (sI (sI (sI (sI (M00 M) 135 9 (nI n)) 135 8 (nI 0)) 135 16 (nI 0)) 135 12 (nI 0)) 135 k = mI (M00 M) 135 k := fun k k1 k2 k3 k4 => by
      rw [mI_sI, if_neg (by omega), mI_sI, if_neg (by omega), mI_sI, if_neg (by omega), mI_sI, if_neg (by omega)]
    have up : ∀ M3, FrX M2 M3 → Fr (fun id => id = 135 ∨ id = 140 ∨ id = 143) (M00 M) M3 ∧ (∀ k, (k = 0 ∨ k = 24 ∨ k = 36) → mI M3 135 k = mI (M00 M) 135 k) ∧ mI M3 135 8 = nI 0 ∧ (∀ k, k ≠ 19 → mJ M3 135 k = mJ (M00 M) 135 k) ∧ (∀ p, p < 3072 → mA M3 140 p = mA (M00 M) 140 p) ∧ (∀ p, p < 40 → mB M3 143 p = mB (M00 M) 143 p) := by
      intro M3 hF
      have hF := c4.tr hF
      refine ⟨Fr.tr (Fr.tr (Fr.sI (Or.inl rfl)) (Fr.tr (Fr.sI (Or.inl rfl)) (Fr.tr (Fr.sI (Or.inl rfl)) (Fr.sI (Or.inl rfl))))) ((a3.1.mono (fun id e => Or.inl e)).tr hF.1), fun k hk => ?_, ?_, fun k hk => ?_, fun p hp => ?_, fun p hp => ?_⟩
      · exact (hF.2.2.2.1 k (by omega)).trans ((a3.2.1 k (by omega)).trans (f6 k (by omega) (by omega) (by omega) (by omega)))
      · exact (hF.2.2.2.1 8 (by omega)).trans ((a3.2.1 8 (by omega)).trans rfl)
      · exact (hF.2.2.2.2 k hk).trans ((a3.2.2 k hk).trans rfl)
      · exact (hF.2.1 p hp).trans (congrFun (a3.1 140 (by decide)).2.2.1 p)
      · exact (hF.2.2.1 p hp).trans (congrFun (a3.1 143 (by decide)).2.2.2.1 p)
    cases hp : pTre (gP σ).2 n with
    | error e =>
      have hp : pAll (gP σ).2 n 1000 (p00 (gP σ).2 n) = .error e := hp
      rw [hp] at g
      obtain ⟨M3, d1, d2, d3⟩ := g
      obtain ⟨u1, u2, u3, u4, u5, u6⟩ := up M3 d3
      have hw := q_wellB (p1 := nI n) d2
      have hF : Fr (fun id => id = 135 ∨ id = 140 ∨ id = 143) (M00 M) (sI (sI (sI M3 135 10 (nI e.1)) 135 11 (nI e.2)) 135 0 (nI 10)) := u1.tr (Fr.tr (Fr.sI (Or.inl rfl)) (Fr.tr (Fr.sI (Or.inl rfl)) (Fr.sI (Or.inl rfl))))
      refine ⟨_, toL _ (d1.trans hw), IM_trM (σ := wS σ (nI 0)) (st := nI 10) (c := nI e.1) (d := nI e.2) (u := gN σ) h0 hF rfl u3 rfl rfl (u2 24 (by omega)) (u2 36 (by omega)) (u4 2 (by omega)) (u4 3 (by omega)) hO.1 (MS_g hO.1 (fun p hp => u5 p (by omega)) (fun p hp => u6 p (by omega)) hS) (fun p _ hp => u5 p hp) (fun p _ hp => u6 p hp), Lo_00.tr (hF.mono (fun id e => by show 135 ≤ id; omega))⟩
    | ok s1 =>
      have hp : pAll (gP σ).2 n 1000 (p00 (gP σ).2 n) = .ok s1 := hp
      rw [hp] at g
      obtain ⟨M3, d1, d2, d3⟩ := g
      obtain ⟨u1, u2, u3, u4, u5, u6⟩ := up M3 d3
      have hOk := pAll_ok POk_00 hp
      have hw := q_wellG d2.1.2.1
      obtain ⟨M5, g1, g2, g3, g4⟩ := q_copy (a := 4) (b := 0) (by omega) (by omega) (by omega) (sI (sI M3 135 10 (nI 0)) 135 11 (-nI 1))
      have e135 := g2 135 (by omega)
      have hF : Fr (fun id => id = 135 ∨ id = 140 ∨ id = 143) (M00 M) M5 := u1.tr (Fr.tr (Fr.tr (Fr.sI (Or.inl rfl)) (Fr.sI (Or.inl rfl))) (g2.mono (fun id e => Or.inr e)))
      have hg : ∀ p, p < 768 → mA M5 140 p = gM M3 p := fun p hp => by
        rw [g3, if_pos (by omega)]
        show mA M3 140 (768 * 4 + (p - 768 * 0)) = mA M3 140 (3072 + p)
        congr 1
      have hh : ∀ p, p < 10 → mB M5 143 p = hM M3 p := fun p hp => by
        rw [g4, if_pos (by omega)]
        show mB M3 143 (10 * 4 + (p - 10 * 0)) = mB M3 143 (40 + p)
        congr 1
      have hu := OkSt_tr hOk
      have e4 : mA M5 140 4 = nI (cR (sX s1)) := (hg 4 (by omega)).trans d2.1.2.2.1.2.2.1
      have hZ : MZ (gM M3) z00 := ⟨d2.1.2.2.2.2.2 496 (by omega) (by omega), fun e => by cases e⟩
      have hS5 : MS (mA M5 140) (mB M5 143) (sX s1, sY s1, z00) := MS_g hu hg hh ⟨d2.1.2.2.1, MD_PMg hOk.2.2.1 hOk.2.2.2.1 d2.1.2.2.2.1, hZ⟩
      refine ⟨M5, toL _ (d1.trans ?_), IM_trM (σ := wS σ (nI 0)) (st := nI 0) (c := nI 0) (d := -nI 1) (u := (sX s1, sY s1, z00)) h0 hF ((e135.1 0).trans ((u2 0 (by omega)).trans rfl)) ((e135.1 8).trans u3) (e135.1 10) (e135.1 11) ((e135.1 24).trans (u2 24 (by omega))) ((e135.1 36).trans (u2 36 (by omega))) ((e135.2.1 2).trans (u4 2 (by omega))) ((e135.2.1 3).trans (u4 3 (by omega))) hu hS5 (fun p h1 h2 => ?_) (fun p h1 h2 => ?_), Lo_00.tr (hF.mono (fun id e => by show 135 ≤ id; omega))⟩
      · rw [f_RM_treaty_l105]
        simp (disch := first | assumption | omega) only [z_bdn, z_caln, z_gdn, z_iT, z_iF, z_le_t, z_le_f, z_lt_t, z_lt_f, z_cl, z_inb, z_at, z_pl, z_lit, nI_ii1, nI_add, nI_mul, z_eq_f, z_refuse, z_no, z_M00, b2i_t, b2i_f, hw, g1, e4]
      · rw [g3, if_neg (by omega)]; exact u5 p h2
      · rw [g4, if_neg (by omega)]; exact u6 p h2
end
