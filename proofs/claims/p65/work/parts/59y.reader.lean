section
variable {M M' : kx_M} {T : Nat → Nat} {n r : Nat} {t : Tok}
theorem q_readNumber_l10 {p : Nat} (hr : r + 1 ≠ 2 ∧ r ≠ 2) : ∀ (m f a : Nat) (M : kx_M), a + m = n → m < f → TxC M r T n → p ≤ a → mI M r 4 = nI p → mI M r 8 = nI (nmF T (a - p) p 0) → ∃ M', f_Reader_readNumber_l10 r f (nI a) M = some ((), M') ∧ mI M' r 3 = nI (spP isDg T n a) ∧ mI M' r 5 = nI (if 4 < spP isDg T n a - p then 1 else 3) ∧ mI M' r 8 = nI (nmF T (spP isDg T n a - p) p 0) ∧ mI M' r 4 = nI p ∧ mI M' r 6 = mI M r 6 ∧ FrR r M M' := by
  have fin : ∀ (M : kx_M) (a : Nat), a ≤ 900 → p ≤ a → mI M r 4 = nI p → mI M r 8 = nI (nmF T (a - p) p 0) → ∃ M', f_Reader_readNumber_l67 r (nI a) M = some ((), M') ∧ mI M' r 3 = nI a ∧ mI M' r 5 = nI (if 4 < a - p then 1 else 3) ∧ mI M' r 8 = nI (nmF T (a - p) p 0) ∧ mI M' r 4 = nI p ∧ mI M' r 6 = mI M r 6 ∧ FrR r M M' := by
    intro M a h9 hp h4 h8
    rw [f_Reader_readNumber_l67]
    by_cases hh : 4 < a - p
    · rw [if_pos hh]
      refine ⟨sI (sI M r 5 (nI 1)) r 3 (nI a), ?_, by rw [m_same]; rfl, by rw [m_same, m_same]; rfl, by rw [m_same, m_same]; exact h8, by rw [m_same, m_same]; exact h4, by rw [m_same, m_same]; rfl, (FrR.I (by omega)).tr (FrR.I (by omega))⟩
      simp (disch := first | assumption | omega) only [z_bdn, z_caln, z_gdn, z_iT, z_iF, z_le_t, z_le_f, z_lt_t, z_lt_f, z_cl, z_inb, z_at, z_lit, nI_ii1, nI_add, z_mr, z_ref0, z_refn, z_eq_f, Bool.not_true, Bool.not_false, b2i_t, b2i_f, h4, z_sub]
    · rw [if_neg hh]
      refine ⟨sI (sI M r 5 (nI 3)) r 3 (nI a), ?_, by rw [m_same]; rfl, by rw [m_same, m_same]; rfl, by rw [m_same, m_same]; exact h8, by rw [m_same, m_same]; exact h4, by rw [m_same, m_same]; rfl, (FrR.I (by omega)).tr (FrR.I (by omega))⟩
      simp (disch := first | assumption | omega) only [z_bdn, z_caln, z_gdn, z_iT, z_iF, z_le_t, z_le_f, z_lt_t, z_lt_f, z_cl, z_inb, z_at, z_lit, nI_ii1, nI_add, z_mr, z_ref0, z_refn, z_eq_f, Bool.not_true, Bool.not_false, b2i_t, b2i_f, h4, z_sub]
  intro m
  induction m with
  | zero =>
    intro f a M ha hf hX hp h4 h8
    obtain ⟨f, rfl, hf⟩ := z_succ hf
    have h2 := hX.2.1
    have hn := hX.2.2.1
    rw [sp_stop (Or.inl (by omega))]
    obtain ⟨M', a1, a2⟩ := fin M a (by omega) hp h4 h8
    refine ⟨M', ?_, a2⟩
    rw [f_Reader_readNumber_l10]
    simp (disch := first | assumption | omega) only [z_bdn, z_caln, z_gdn, z_iT, z_iF, z_le_t, z_le_f, z_lt_t, z_lt_f, z_cl, z_inb, z_at, z_lit, nI_ii1, nI_add, z_mr, z_ref0, z_refn, z_eq_f, Bool.not_true, Bool.not_false, b2i_t, b2i_f, h2]
    exact a1
  | succ m ih =>
    intro f a M ha hf hX hp h4 h8
    obtain ⟨f, rfl, hf⟩ := z_succ hf
    obtain ⟨h1, h2, hn, hT4, h5⟩ := hX
    obtain ⟨eT, hT⟩ := hT4 a (by omega)
    have eI := z_tapeI (show a < 900 by omega)
    rw [f_Reader_readNumber_l10]
    cases hl : isDg (T a) with
    | false =>
      rw [sp_stop (Or.inr hl)]
      obtain ⟨M', a1, a2⟩ := fin M a (by omega) hp h4 h8
      refine ⟨M', ?_, a2⟩
      rcases dg_c hT hl with z1 | ⟨z1, z2⟩
      · simp (disch := first | assumption | omega) only [z_bdn, z_caln, z_gdn, z_iT, z_iF, z_le_t, z_le_f, z_lt_t, z_lt_f, z_cl, z_inb, z_at, z_lit, nI_ii1, nI_add, z_mr, z_ref0, z_refn, z_eq_f, Bool.not_true, Bool.not_false, b2i_t, b2i_f, h2, h1, eI, eT, z1]
        exact a1
      · simp (disch := first | assumption | omega) only [z_bdn, z_caln, z_gdn, z_iT, z_iF, z_le_t, z_le_f, z_lt_t, z_lt_f, z_cl, z_inb, z_at, z_lit, nI_ii1, nI_add, z_mr, z_ref0, z_refn, z_eq_f, Bool.not_true, Bool.not_false, b2i_t, b2i_f, h2, h1, eI, eT, z1, z2]
        exact a1
    | true =>
      rw [sp_go (by omega) hl]
      obtain ⟨z1, z2, l1, l2⟩ := dg_t hT hl
      have z3 : nI (T a) - nI 48 = nI (T a - 48) := z_sub l1
      have hF : FrR r M (sI M r 8 (nI (nmF T (a + 1 - p) p 0))) := FrR.I (by omega)
      obtain ⟨M', a1, a2, a3, a4, a5, a6, a7⟩ := ih f (a + 1) (sI M r 8 (nI (nmF T (a + 1 - p) p 0))) (by omega) (by omega) (TxC_R hr ⟨h1, h2, hn, hT4, h5⟩ hF) (by omega) (by rw [m_same]; exact h4) (by rw [m_same]; rfl)
      refine ⟨M', ?_, a2, a3, a4, a5, a6.trans (by rw [m_same]; rfl), hF.tr a7⟩
      rw [show a + 1 - p = a - p + 1 by omega, nmF_app, show p + (a - p) = a by omega] at a1
      have e9 : nI 10 * nI (nmF T (a - p) p 0) = nI (nmF T (a - p) p 0 * 10) := by rw [nI_mul, Nat.mul_comm]
      have e10 : nI (nmF T (a - p) p 0) * nI 10 = nI (nmF T (a - p) p 0 * 10) := nI_mul _ _
      simp only [z_lit, h8, e10]
      simp (disch := first | assumption | omega) only [z_bdn, z_caln, z_gdn, z_iT, z_iF, z_le_t, z_le_f, z_cl, nI_ii1, nI_add, h2, h1, eI, eT, z1, z2, z3]
      exact a1
theorem q_keyOf {w : Nat} (hX : TxC M r T n) (hw : w < 1099511627776) : f_Reader_keyOf r (bJ w) M = some (nI (keyN w), M) := by
  have key : ∀ (m f i : Nat), i + m = 26 → m < f → f_Reader_keyOf_l2 r (bJ w) f (nI i) M = some (nI (kyF w m i), M) := by
    intro m
    induction m with
    | zero =>
      intro f i hi hf
      obtain ⟨f, rfl, hf⟩ := z_succ hf
      obtain rfl : i = 26 := by omega
      rw [f_Reader_keyOf_l2]
      simp (disch := first | assumption | omega) only [z_bdn, z_caln, z_gdn, z_iT, z_iF, z_le_t, z_le_f, z_lt_t, z_lt_f, z_cl, z_inb, z_at, z_lit, nI_ii1, nI_add, z_mr, z_ref0, z_refn, z_eq_f, Bool.not_true, Bool.not_false, b2i_t, b2i_f]
      rfl
    | succ m ih =>
      intro f i hi hf
      obtain ⟨f, rfl, hf⟩ := z_succ hf
      have g := ih f (i + 1) (by omega) (by omega)
      have e5 := hX.2.2.2.2 i (by omega)
      rw [knownL_N i (by omega)] at e5
      have e6 : (bJ (knownN i) = bJ w) = (knownN i = w) := propext ⟨fun e => by
        have h1 := congrArg Int64.toInt e
        rw [bJ_toInt (by have := knownN_lt i (by omega); omega), bJ_toInt (by omega)] at h1
        omega, fun e => by rw [e]⟩
      rw [f_Reader_keyOf_l2]
      unfold kyF
      by_cases hh : knownN i = w
      · rw [if_pos hh]
        rw [eq_true hh] at e6
        simp (disch := first | assumption | omega) only [z_bdn, z_caln, z_gdn, z_iT, z_iF, z_le_t, z_le_f, z_lt_t, z_lt_f, z_cl, z_inb, z_at, z_lit, nI_ii1, nI_add, z_mr, z_ref0, z_refn, z_eq_f, Bool.not_true, Bool.not_false, b2i_t, b2i_f, e5, lg_eq, e6]
      · rw [if_neg hh]
        rw [eq_false hh] at e6
        simp (disch := first | assumption | omega) only [z_bdn, z_caln, z_gdn, z_iT, z_iF, z_le_t, z_le_f, z_lt_t, z_lt_f, z_cl, z_inb, z_at, z_lit, nI_ii1, nI_add, z_mr, z_ref0, z_refn, z_eq_f, Bool.not_true, Bool.not_false, b2i_t, b2i_f, e5, lg_eq, e6]
        exact g
  rw [f_Reader_keyOf]
  simp (disch := first | assumption | omega) only [z_bdn, z_caln, z_gdn, z_iT, z_iF, z_le_t, z_le_f, z_lt_t, z_lt_f, z_cl, z_inb, z_at, z_lit, nI_ii1, nI_add, z_mr, z_ref0, z_refn, z_eq_f, Bool.not_true, Bool.not_false, b2i_t, b2i_f]
  exact key 26 FU 0 (by omega) (FU_lt (by omega))
theorem q_next_l41 {p : Nat} (hr : r + 1 ≠ 2 ∧ r ≠ 2) (hX : TxC M r T n) (hp : p ≤ n) : ∃ M', f_Reader_next_l41 r (nI p) M = some ((), M') ∧ TkC M' r (nxtP T n p) ∧ FrR r M M' := by
  have hX' := hX
  obtain ⟨h1, h2, hn, h4, h5⟩ := hX
  have hF : FrR r M (sI (sI M r 4 (nI p)) r 6 (-nI 1)) := (FrR.I (by omega)).tr (FrR.I (by omega))
  have hX2 := TxC_R hr hX' hF
  have e4 : mI (sI (sI M r 4 (nI p)) r 6 (-nI 1)) r 4 = nI p := by rw [m_same, m_same]; rfl
  have e6 : mI (sI (sI M r 4 (nI p)) r 6 (-nI 1)) r 6 = -nI 1 := by rw [m_same]; rfl
  have g2 := hX2.2.1
  have g1 := hX2.1
  have g4 := hX2.2.2.2.1
  rw [f_Reader_next_l41]
  generalize hM2 : sI (sI M r 4 (nI p)) r 6 (-nI 1) = M2 at *
  unfold nxtP
  by_cases c1 : n ≤ p
  · rw [if_pos c1]
    obtain rfl : p = n := by omega
    refine ⟨sI (sI M2 r 5 (nI 0)) r 3 (nI p), ?_, ⟨by rw [m_same]; rfl, by rw [m_same, m_same]; exact e4, by rw [m_same, m_same]; rfl, by rw [m_same, m_same]; exact e6, fun e => (by cases e), fun e => (by cases e), fun e => (by cases e)⟩, hF.tr ((FrR.I (by omega)).tr (FrR.I (by omega)))⟩
    have g2b : mI (sI M2 r 5 (nI 0)) r 2 = nI p := by rw [m_same]; exact g2
    simp only [z_lit, z_bdn, hM2]
    simp (disch := first | assumption | omega) only [z_bdn, z_caln, z_gdn, z_iT, z_iF, z_le_t, z_le_f, z_lt_t, z_lt_f, z_cl, z_inb, z_at, z_lit, nI_ii1, nI_add, z_mr, z_ref0, z_refn, z_eq_f, Bool.not_true, Bool.not_false, b2i_t, b2i_f, g2, g2b]
  · rw [if_neg c1]
    obtain ⟨eT, hT⟩ := g4 p (by omega)
    have eI := z_tapeI (show p < 900 by omega)
    by_cases c2 : isLt (T p) = true
    · rw [if_pos c2]
      obtain ⟨z1, z2, l1, l2⟩ := lt_t hT c2
      have hX3 : TxC (sJ M2 r 7 0) r T n := TxC_R hr hX2 FrR.J
      obtain ⟨M3, a1, a2, a3, a4, a5, a6, a7⟩ := q_readWord_l10 (p := p) hr (n - p) FU p (sJ M2 r 7 0) (by omega) (FU_lt (by omega)) hX3 (Nat.le_refl _) (fun i hi => absurd hi (by omega)) (fun _ => by
        rw [Nat.sub_self]
        show mJ (sJ M2 r 7 0) r 7 = bJ 0
        rw [mJ_sJ, if_pos ⟨rfl, rfl⟩]; rfl)
      have eW : f_Reader_readWord r M2 = some ((), M3) := by
        rw [f_Reader_readWord]
        simp (disch := first | assumption | omega) only [z_bdn, z_caln, z_gdn, z_iT, z_iF, z_le_t, z_le_f, z_lt_t, z_lt_f, z_cl, z_inb, z_at, z_lit, nI_ii1, nI_add, z_mr, z_ref0, z_refn, z_eq_f, Bool.not_true, Bool.not_false, b2i_t, b2i_f, e4]
        exact a1
      have gs := sp_s (show p < n by omega) c2
      have ge := (sp_bd (p := isLt) (T := T) hp).2
      have e3 : mI M3 r 3 = nI (spP isLt T n p) := a2
      have e44 : mI M3 r 4 = nI p := a5.trans e4
      have hF3 : FrR r M2 M3 := FrR.J.tr a7
      have all : ∀ m a, a + m = n → ∀ i, a ≤ i → i < spP isLt T n a → isLt (T i) = true := by
        intro m
        induction m with
        | zero => intro a ha i h1 h2; rw [sp_stop (Or.inl (by omega))] at h2; omega
        | succ m ih =>
          intro a ha i h1 h2
          cases hl : isLt (T a) with
          | false => rw [sp_stop (Or.inr hl)] at h2; omega
          | true =>
            rw [sp_go (by omega) hl] at h2
            by_cases he : i = a
            · rw [he]; exact hl
            · exact ih (a + 1) (by omega) i (by omega) h2
      have hlw : spP isLt T n p - p ≤ 8 → wdF T (spP isLt T n p - p) p 0 < 1099511627776 := fun h8 => by
        have h1 := wdF_lt (T := T) (n := n) (p := p) (spP isLt T n p - p) (fun i hi => all (n - p) p (by omega) (p + i) (by omega) (by omega))
        have h2 : 32 ^ (spP isLt T n p - p) ≤ 32 ^ 8 := Nat.pow_le_pow_right (by omega) h8
        have h3 : (32 : Nat) ^ 8 = 1099511627776 := by decide
        omega
      generalize spP isLt T n p = e at *
      by_cases c8 : 8 < e - p
      · refine ⟨sI M3 r 6 (nI 27), ?_, ⟨by rw [m_same]; exact e3, by rw [m_same]; exact e44, by rw [m_same]; exact a3, ?_, fun _ hh => ?_, fun e => (by cases e), fun e => (by cases e)⟩, hF.tr (hF3.tr (FrR.I (by omega)))⟩
        · simp only [z_lit, z_bdn, hM2]
          simp (disch := first | assumption | omega) only [z_bdn, z_caln, z_gdn, z_iT, z_iF, z_le_t, z_le_f, z_lt_t, z_lt_f, z_cl, z_inb, z_at, z_lit, nI_ii1, nI_add, z_mr, z_ref0, z_refn, z_eq_f, Bool.not_true, Bool.not_false, b2i_t, b2i_f, g2, g1, eI, eT, z1, z2, eW, e3, z_sub]
        · rw [m_same]
          show nI 27 = nI (if 8 < e - p then 27 else _)
          rw [if_pos c8]
        · exact absurd (show (if 8 < e - p then 27 else _) = 27 from if_pos c8) hh
      · have hw := a4 (by omega)
        have eK := q_keyOf (TxC_R hr hX2 hF3) (hlw (by omega))
        refine ⟨sI M3 r 6 (nI (keyN (wdF T (e - p) p 0))), ?_, ⟨by rw [m_same]; exact e3, by rw [m_same]; exact e44, by rw [m_same]; exact a3, ?_, fun _ _ => hw, fun e => (by cases e), fun e => (by cases e)⟩, hF.tr (hF3.tr (FrR.I (by omega)))⟩
        · simp only [z_lit, z_bdn, hM2]
          simp (disch := first | assumption | omega) only [z_bdn, z_caln, z_gdn, z_iT, z_iF, z_le_t, z_le_f, z_lt_t, z_lt_f, z_cl, z_inb, z_at, z_lit, nI_ii1, nI_add, z_mr, z_ref0, z_refn, z_eq_f, Bool.not_true, Bool.not_false, b2i_t, b2i_f, g2, g1, eI, eT, z1, z2, eW, e3, z_sub, hw, eK]
        · rw [m_same]
          show nI (keyN _) = nI (if 8 < e - p then 27 else _)
          rw [if_neg c8]
    · rw [if_neg c2]
      have c2 : isLt (T p) = false := Bool.eq_false_iff.mpr c2
      have to132 : ∀ R, f_Reader_next_l132 r (nI p) M2 = R → (bd (sI M r 4 (nI p)) fun M1 => bd (sI M1 r 6 (-1)) fun M2 => if nI p < mI M2 r 2 then gd (aIb 1 (mR M2 r 1) (nI p)) (if mA M2 (mR M2 r 1) (nI p).toNatClampNeg < 97 then f_Reader_next_l132 r (nI p) M2 else gd (aIb 1 (mR M2 r 1) (nI p)) (if 122 < mA M2 (mR M2 r 1) (nI p).toNatClampNeg then f_Reader_next_l132 r (nI p) M2 else cal (f_Reader_readWord r M2) fun _ M3 => if mI M3 r 3 - nI p ≤ 8 then cal (f_Reader_keyOf r (mJ M3 r 7) M3) fun r5 M4 => bd (sI M4 r 6 r5) fun M5 => some ((), M5) else bd (sI M3 r 6 27) fun M6 => some ((), M6))) else bd (sI M2 r 5 0) fun M7 => bd (sI M7 r 3 (mI M7 r 2)) fun M8 => some ((), M8)) = R := by
        intro R hR
        simp only [z_lit, z_bdn, hM2]
        rcases lt_c hT c2 with z1 | ⟨z1, z2⟩
        · simp (disch := first | assumption | omega) only [z_bdn, z_caln, z_gdn, z_iT, z_iF, z_le_t, z_le_f, z_lt_t, z_lt_f, z_cl, z_inb, z_at, z_lit, nI_ii1, nI_add, z_mr, z_ref0, z_refn, z_eq_f, Bool.not_true, Bool.not_false, b2i_t, b2i_f, g2, g1, eI, eT, z1]
          exact hR
        · simp (disch := first | assumption | omega) only [z_bdn, z_caln, z_gdn, z_iT, z_iF, z_le_t, z_le_f, z_lt_t, z_lt_f, z_cl, z_inb, z_at, z_lit, nI_ii1, nI_add, z_mr, z_ref0, z_refn, z_eq_f, Bool.not_true, Bool.not_false, b2i_t, b2i_f, g2, g1, eI, eT, z1, z2]
          exact hR
      by_cases c3 : isDg (T p) = true
      · rw [if_pos c3]
        obtain ⟨z1, z2, l1, l2⟩ := dg_t hT c3
        have hX3 : TxC (sI M2 r 8 (nI 0)) r T n := TxC_R hr hX2 (FrR.I (by omega))
        obtain ⟨M3, a1, a2, a3, a4, a5, a6, a7⟩ := q_readNumber_l10 (p := p) hr (n - p) FU p (sI M2 r 8 (nI 0)) (by omega) (FU_lt (by omega)) hX3 (Nat.le_refl _) (by rw [m_same]; exact e4) (by rw [m_same, Nat.sub_self]; rfl)
        have eN : f_Reader_readNumber r M2 = some ((), M3) := by
          rw [f_Reader_readNumber]
          simp (disch := first | assumption | omega) only [z_bdn, z_caln, z_gdn, z_iT, z_iF, z_le_t, z_le_f, z_lt_t, z_lt_f, z_cl, z_inb, z_at, z_lit, nI_ii1, nI_add, z_mr, z_ref0, z_refn, z_eq_f, Bool.not_true, Bool.not_false, b2i_t, b2i_f, e4]
          exact a1
        refine ⟨M3, to132 _ ?_, ⟨a2, a5, a3, ?_, fun h2 => ?_, fun _ => a4, fun h4 => ?_⟩, hF.tr ((FrR.I (by omega)).tr a7)⟩
        · rw [f_Reader_next_l132]
          simp (disch := first | assumption | omega) only [z_bdn, z_caln, z_gdn, z_iT, z_iF, z_le_t, z_le_f, z_lt_t, z_lt_f, z_cl, z_inb, z_at, z_lit, nI_ii1, nI_add, z_mr, z_ref0, z_refn, z_eq_f, Bool.not_true, Bool.not_false, b2i_t, b2i_f, g1, eI, eT, z1, z2, eN]
        · have hne : ¬ kS (nxtD T p (spP isDg T n p)) = 2 := by
            show ¬ (if 4 < spP isDg T n p - p then 1 else 3) = 2
            split <;> omega
          rw [a6, m_same]
          exact e6.trans (if_neg hne).symm
        · have h2 : (if 4 < spP isDg T n p - p then 1 else 3) = 2 := h2
          split at h2 <;> omega
        · have h4 : (if 4 < spP isDg T n p - p then 1 else 3) = 4 := h4
          split at h4 <;> omega
      · rw [if_neg c3]
        have c3 : isDg (T p) = false := Bool.eq_false_iff.mpr c3
        have e9 : mI (sI M2 r 9 (nI (T p))) r 9 = nI (T p) := by rw [m_same]; rfl
        have last : ∀ v, nI v = nI (if isSg (T p) = true then 4 else 1) → (nI 1 = nI 1) → TkC (sI (sI (sI M2 r 9 (nI (T p))) r 5 (nI v)) r 3 (nI (p + 1))) r (nxtS T p) := by
          intro v hv _
          refine ⟨by rw [m_same]; rfl, by rw [m_same, m_same, m_same]; exact e4, by rw [m_same, m_same]; exact hv, ?_, fun h2 => ?_, fun h3 => ?_, fun _ => by rw [m_same, m_same, m_same]; rfl⟩
          · have hne : ¬ kS (nxtS T p) = 2 := by
              show ¬ (if isSg (T p) = true then 4 else 1) = 2
              split <;> omega
            rw [m_same, m_same, m_same]
            exact e6.trans (if_neg hne).symm
          · have h2 : (if isSg (T p) = true then 4 else 1) = 2 := h2
            split at h2 <;> omega
          · have h3 : (if isSg (T p) = true then 4 else 1) = 3 := h3
            split at h3 <;> omega
        have hFl : ∀ v, FrR r M (sI (sI (sI M2 r 9 (nI (T p))) r 5 (nI v)) r 3 (nI (p + 1))) := fun v => hF.tr ((FrR.I (by omega)).tr ((FrR.I (by omega)).tr (FrR.I (by omega))))
        have to161 : ∀ R, f_Reader_next_l161 r (nI p) M2 = R → f_Reader_next_l132 r (nI p) M2 = R := by
          intro R hR
          rw [f_Reader_next_l132]
          rcases dg_c hT c3 with z1 | ⟨z1, z2⟩
          · simp (disch := first | assumption | omega) only [z_bdn, z_caln, z_gdn, z_iT, z_iF, z_le_t, z_le_f, z_lt_t, z_lt_f, z_cl, z_inb, z_at, z_lit, nI_ii1, nI_add, z_mr, z_ref0, z_refn, z_eq_f, Bool.not_true, Bool.not_false, b2i_t, b2i_f, g1, eI, eT, z1]
            exact hR
          · simp (disch := first | assumption | omega) only [z_bdn, z_caln, z_gdn, z_iT, z_iF, z_le_t, z_le_f, z_lt_t, z_lt_f, z_cl, z_inb, z_at, z_lit, nI_ii1, nI_add, z_mr, z_ref0, z_refn, z_eq_f, Bool.not_true, Bool.not_false, b2i_t, b2i_f, g1, eI, eT, z1, z2]
            exact hR
        by_cases s1 : T p = 59
        · have hs : isSg (T p) = true := decide_eq_true (Or.inl s1)
          refine ⟨_, to132 _ (to161 _ ?_), last 4 (by rw [hs]; rfl) rfl, hFl 4⟩
          rw [f_Reader_next_l161]
          have z : (nI (T p) = nI 59) = True := eq_true (by rw [s1])
          simp (disch := first | assumption | omega) only [z_bdn, z_caln, z_gdn, z_iT, z_iF, z_le_t, z_le_f, z_lt_t, z_lt_f, z_cl, z_inb, z_at, z_lit, nI_ii1, nI_add, z_mr, z_ref0, z_refn, z_eq_f, Bool.not_true, Bool.not_false, b2i_t, b2i_f, g1, eI, eT, e9, z]
        · have n1 : (nI (T p) = nI 59) = False := z_eq_f s1 (by omega) (by omega)
          by_cases s2 : T p = 60
          · have hs : isSg (T p) = true := decide_eq_true (Or.inr (Or.inl s2))
            refine ⟨_, to132 _ (to161 _ ?_), last 4 (by rw [hs]; rfl) rfl, hFl 4⟩
            rw [f_Reader_next_l161]
            have z : (nI (T p) = nI 60) = True := eq_true (by rw [s2])
            simp (disch := first | assumption | omega) only [z_bdn, z_caln, z_gdn, z_iT, z_iF, z_le_t, z_le_f, z_lt_t, z_lt_f, z_cl, z_inb, z_at, z_lit, nI_ii1, nI_add, z_mr, z_ref0, z_refn, z_eq_f, Bool.not_true, Bool.not_false, b2i_t, b2i_f, g1, eI, eT, e9, n1, z]
          · have n2 : (nI (T p) = nI 60) = False := z_eq_f s2 (by omega) (by omega)
            by_cases s3 : T p = 61
            · have hs : isSg (T p) = true := decide_eq_true (Or.inr (Or.inr (Or.inl s3)))
              refine ⟨_, to132 _ (to161 _ ?_), last 4 (by rw [hs]; rfl) rfl, hFl 4⟩
              rw [f_Reader_next_l161]
              have z : (nI (T p) = nI 61) = True := eq_true (by rw [s3])
              simp (disch := first | assumption | omega) only [z_bdn, z_caln, z_gdn, z_iT, z_iF, z_le_t, z_le_f, z_lt_t, z_lt_f, z_cl, z_inb, z_at, z_lit, nI_ii1, nI_add, z_mr, z_ref0, z_refn, z_eq_f, Bool.not_true, Bool.not_false, b2i_t, b2i_f, g1, eI, eT, e9, n1, n2, z]
            · have n3 : (nI (T p) = nI 61) = False := z_eq_f s3 (by omega) (by omega)
              by_cases s4 : T p = 62
              · have hs : isSg (T p) = true := decide_eq_true (Or.inr (Or.inr (Or.inr s4)))
                refine ⟨_, to132 _ (to161 _ ?_), last 4 (by rw [hs]; rfl) rfl, hFl 4⟩
                rw [f_Reader_next_l161]
                have z : (nI (T p) = nI 62) = True := eq_true (by rw [s4])
                simp (disch := first | assumption | omega) only [z_bdn, z_caln, z_gdn, z_iT, z_iF, z_le_t, z_le_f, z_lt_t, z_lt_f, z_cl, z_inb, z_at, z_lit, nI_ii1, nI_add, z_mr, z_ref0, z_refn, z_eq_f, Bool.not_true, Bool.not_false, b2i_t, b2i_f, g1, eI, eT, e9, n1, n2, n3, z]
              · have n4 : (nI (T p) = nI 62) = False := z_eq_f s4 (by omega) (by omega)
                have hs : isSg (T p) = false := decide_eq_false (by omega)
                refine ⟨_, to132 _ (to161 _ ?_), last 1 (by rw [hs]; rfl) rfl, hFl 1⟩
                rw [f_Reader_next_l161]
                simp (disch := first | assumption | omega) only [z_bdn, z_caln, z_gdn, z_iT, z_iF, z_le_t, z_le_f, z_lt_t, z_lt_f, z_cl, z_inb, z_at, z_lit, nI_ii1, nI_add, z_mr, z_ref0, z_refn, z_eq_f, Bool.not_true, Bool.not_false, b2i_t, b2i_f, g1, eI, eT, e9, n1, n2, n3, n4]
theorem q_next {a : Nat} (hr : r + 1 ≠ 2 ∧ r ≠ 2) (hX : TxC M r T n) (ha : a ≤ n) (h3 : mI M r 3 = nI a) : ∃ M', f_Reader_next r M = some ((), M') ∧ TkC M' r (nxt T n a) ∧ FrR r M M' := by
  have key : ∀ (m f a : Nat), a + m = n → m < f → ∃ M', f_Reader_next_l5 r f (nI a) M = some ((), M') ∧ TkC M' r (nxt T n a) ∧ FrR r M M' := by
    intro m
    induction m with
    | zero =>
      intro f a ha hf
      obtain ⟨f, rfl, hf⟩ := z_succ hf
      obtain ⟨M', a1, a2, a3⟩ := q_next_l41 (p := a) hr hX (by omega)
      unfold nxt
      rw [sp_stop (Or.inl (by omega))]
      refine ⟨M', ?_, a2, a3⟩
      have h2 := hX.2.1
      have hn := hX.2.2.1
      rw [f_Reader_next_l5]
      simp (disch := first | assumption | omega) only [z_bdn, z_caln, z_gdn, z_iT, z_iF, z_le_t, z_le_f, z_lt_t, z_lt_f, z_cl, z_inb, z_at, z_lit, nI_ii1, nI_add, z_mr, z_ref0, z_refn, z_eq_f, Bool.not_true, Bool.not_false, b2i_t, b2i_f, h2]
      exact a1
    | succ m ih =>
      intro f a ha hf
      obtain ⟨f, rfl, hf⟩ := z_succ hf
      obtain ⟨h1, h2, hn, h4, h5⟩ := id hX
      obtain ⟨eT, hT⟩ := h4 a (by omega)
      have eI := z_tapeI (show a < 900 by omega)
      unfold nxt
      cases hb : isBl (T a) with
      | false =>
        rw [sp_stop (Or.inr hb)]
        have hb := of_decide_eq_false hb
        obtain ⟨M', a1, a2, a3⟩ := q_next_l41 (p := a) hr hX (by omega)
        refine ⟨M', ?_, a2, a3⟩
        have z1 : (nI (T a) = nI 32) = False := z_eq_f (by omega) (by omega) (by omega)
        have z2 : (nI (T a) = nI 10) = False := z_eq_f (by omega) (by omega) (by omega)
        rw [f_Reader_next_l5]
        simp (disch := first | assumption | omega) only [z_bdn, z_caln, z_gdn, z_iT, z_iF, z_le_t, z_le_f, z_lt_t, z_lt_f, z_cl, z_inb, z_at, z_lit, nI_ii1, nI_add, z_mr, z_ref0, z_refn, z_eq_f, Bool.not_true, Bool.not_false, b2i_t, b2i_f, h2, h1, eI, eT, z1, z2]
        exact a1
      | true =>
        rw [sp_go (by omega) hb]
        obtain ⟨M', a1, a2, a3⟩ := ih f (a + 1) (by omega) (by omega)
        refine ⟨M', ?_, a2, a3⟩
        have hb := of_decide_eq_true hb
        rw [f_Reader_next_l5]
        rcases hb with hb | hb
        · have z1 : (nI (T a) = nI 32) = False := z_eq_f (by omega) (by omega) (by omega)
          have z2 : (nI (T a) = nI 10) = True := eq_true (by rw [hb])
          simp (disch := first | assumption | omega) only [z_bdn, z_caln, z_gdn, z_iT, z_iF, z_le_t, z_le_f, z_lt_t, z_lt_f, z_cl, z_inb, z_at, z_lit, nI_ii1, nI_add, z_mr, z_ref0, z_refn, z_eq_f, Bool.not_true, Bool.not_false, b2i_t, b2i_f, h2, h1, eI, eT, z1, z2]
          exact a1
        · have z1 : (nI (T a) = nI 32) = True := eq_true (by rw [hb])
          simp (disch := first | assumption | omega) only [z_bdn, z_caln, z_gdn, z_iT, z_iF, z_le_t, z_le_f, z_lt_t, z_lt_f, z_cl, z_inb, z_at, z_lit, nI_ii1, nI_add, z_mr, z_ref0, z_refn, z_eq_f, Bool.not_true, Bool.not_false, b2i_t, b2i_f, h2, h1, eI, eT, z1]
          exact a1
  obtain ⟨M', a1, a2⟩ := key (n - a) FU a (by omega) (FU_lt (by have := hX.2.2.1; omega))
  refine ⟨M', ?_, a2⟩
  rw [f_Reader_next]
  simp (disch := first | assumption | omega) only [z_bdn, z_caln, z_gdn, z_iT, z_iF, z_le_t, z_le_f, z_lt_t, z_lt_f, z_cl, z_inb, z_at, z_lit, nI_ii1, nI_add, z_mr, z_ref0, z_refn, z_eq_f, Bool.not_true, Bool.not_false, b2i_t, b2i_f, h3]
  exact a1
end
