/-! ## TOKENS: the reference's advance -/
section
variable {M M' : kx_M} {T : Nat → Nat} {n : Nat} {t : Tok}
theorem q_adv_l210 {p : Nat} (hp9 : p ≤ n) : ∀ (m f a : Nat) (M : kx_M), a + m = n → m < f → TxM M T n → p ≤ a → mI M 135 15 = nI p → mI M 135 16 = nI a → mI M 135 17 = nI (nmF T (min (a - p) 4) p 0) → ∃ M', f_RM_advance_l210 f M = some ((), M') ∧ mI M' 135 14 = nI (if 4 < spP isDg T n a - p then 4 else 2) ∧ mI M' 135 15 = nI p ∧ mI M' 135 16 = nI (spP isDg T n a) ∧ mI M' 135 17 = nI (nmF T (min (spP isDg T n a - p) 4) p 0) ∧ FrT M M' := by
  have stop : ∀ (f a : Nat) (M : kx_M), TxM M T n → p ≤ a → a ≤ n → mI M 135 15 = nI p → mI M 135 16 = nI a → mI M 135 17 = nI (nmF T (min (a - p) 4) p 0) → (decide (a < n) && isDg (T a)) = false → ∃ M', f_RM_advance_l210 (f + 1) M = some ((), M') ∧ mI M' 135 14 = nI (if 4 < a - p then 4 else 2) ∧ mI M' 135 15 = nI p ∧ mI M' 135 16 = nI a ∧ mI M' 135 17 = nI (nmF T (min (a - p) 4) p 0) ∧ FrT M M' := by
    intro f a M hX hp han h15 h16 h17 hl
    have hn := hX.2.1
    have e1 := q_look2 hX (show a < 2000 by omega)
    have e2 := q_isDigit (lk2_255 hX a) M
    rw [lk2_d, hl] at e2
    by_cases h4 : 4 < a - p
    · rw [if_pos h4]
      refine ⟨sI M 135 14 (nI 4), ?_, rfl, h15, h16, h17, FrT.I (by omega) (by omega)⟩
      rw [f_RM_advance_l210, h16]
      simp (disch := first | assumption | omega) only [z_bdn, z_caln, z_gdn, z_iT, z_iF, z_le_t, z_le_f, z_lt_t, z_lt_f, z_cl, z_inb, z_at, z_pl, z_lit, nI_ii1, nI_add, nI_mul, z_eq_f, z_refuse, z_no, z_M00, b2i_t, b2i_f, e1, e2, z_sub, h16, h15]
    · rw [if_neg h4]
      refine ⟨sI M 135 14 (nI 2), ?_, rfl, h15, h16, h17, FrT.I (by omega) (by omega)⟩
      rw [f_RM_advance_l210, h16]
      simp (disch := first | assumption | omega) only [z_bdn, z_caln, z_gdn, z_iT, z_iF, z_le_t, z_le_f, z_lt_t, z_lt_f, z_cl, z_inb, z_at, z_pl, z_lit, nI_ii1, nI_add, nI_mul, z_eq_f, z_refuse, z_no, z_M00, b2i_t, b2i_f, e1, e2, z_sub, h16, h15]
  intro m
  induction m with
  | zero =>
    intro f a M ha hf hX hp h15 h16 h17
    obtain ⟨f, rfl, hf⟩ := z_succ hf
    rw [sp_stop (Or.inl (by omega))]
    exact stop f a M hX hp (by omega) h15 h16 h17 (by rw [decide_eq_false (by omega)]; rfl)
  | succ m ih =>
    intro f a M ha hf hX hp h15 h16 h17
    obtain ⟨f, rfl, hf⟩ := z_succ hf
    cases hl : isDg (T a) with
    | false =>
      rw [sp_stop (Or.inr hl)]
      exact stop f a M hX hp (by omega) h15 h16 h17 (by rw [hl, Bool.and_false])
    | true =>
      rw [sp_go (by omega) hl]
      have hn := hX.2.1
      have e1 := q_look2 hX (show a < 2000 by omega)
      have e2 := q_isDigit (lk2_255 hX a) M
      rw [lk2_d, hl, decide_eq_true (show a < n by omega)] at e2
      have el : lk2 T n a = T a := if_pos (by omega)
      rw [el] at e1 e2
      have hT := (hX.2.2 a (by omega)).2
      obtain ⟨-, -, l1, l2⟩ := dg_t hT hl
      by_cases h4 : 4 ≤ a - p
      · have hF : FrT M (sI M 135 16 (nI (a + 1))) := FrT.I (by omega) (by omega)
        obtain ⟨M', a1, a2, a3, a4, a5, a6⟩ := ih f (a + 1) (sI M 135 16 (nI (a + 1))) (by omega) (by omega) (TxM_T hX hF) (by omega) h15 rfl (by
          show mI M 135 17 = _
          rw [h17, show min (a - p) 4 = 4 by omega, show min (a + 1 - p) 4 = 4 by omega])
        refine ⟨M', ?_, a2, a3, a4, a5, hF.tr a6⟩
        rw [f_RM_advance_l210, h16]
        simp (disch := first | assumption | omega) only [z_bdn, z_caln, z_gdn, z_iT, z_iF, z_le_t, z_le_f, z_lt_t, z_lt_f, z_cl, z_inb, z_at, z_pl, z_lit, nI_ii1, nI_add, nI_mul, z_eq_f, z_refuse, z_no, z_M00, b2i_t, b2i_f, e1, e2, z_sub, h16, h15]
        exact a1
      · have happ : nmF T (min (a + 1 - p) 4) p 0 = nmF T (min (a - p) 4) p 0 * 10 + (T a - 48) := by
          rw [show min (a + 1 - p) 4 = a - p + 1 by omega, show min (a - p) 4 = a - p by omega, nmF_app, show p + (a - p) = a by omega]
        have z3 : nI (10 * nmF T (min (a - p) 4) p 0 + T a) - nI 48 = nI (nmF T (min (a + 1 - p) 4) p 0) := by
          rw [z_sub (by omega), happ]
          congr 1
          omega
        have hF : FrT M (sI (sI M 135 17 (nI (nmF T (min (a + 1 - p) 4) p 0))) 135 16 (nI (a + 1))) := (FrT.I (by omega) (by omega)).tr (FrT.I (by omega) (by omega))
        obtain ⟨M', a1, a2, a3, a4, a5, a6⟩ := ih f (a + 1) (sI (sI M 135 17 (nI (nmF T (min (a + 1 - p) 4) p 0))) 135 16 (nI (a + 1))) (by omega) (by omega) (TxM_T hX hF) (by omega) h15 rfl rfl
        refine ⟨M', ?_, a2, a3, a4, a5, hF.tr a6⟩
        have s16 : ∀ v, mI (sI M 135 17 v) 135 16 = nI a := fun _ => h16
        rw [f_RM_advance_l210, h16]
        have z4 : nI a - nI p = nI (a - p) := z_sub hp
        simp (disch := first | assumption | omega) only [z_bdn, z_caln, z_gdn, z_iT, z_iF, z_le_t, z_le_f, z_lt_t, z_lt_f, z_cl, z_inb, z_at, z_pl, z_lit, nI_ii1, nI_add, nI_mul, z_eq_f, z_refuse, z_no, z_M00, b2i_t, b2i_f, e1, e2, z4, h16, h15, h17, z3, s16]
        exact a1
theorem q_adv_l58 {p : Nat} (hX : TxM M T n) (hp : p ≤ n) (h15 : mI M 135 15 = nI p) : ∃ M', f_RM_advance_l58 M = some ((), M') ∧ TkM M' (nxtP T n p) ∧ FrT M M' := by
  have hn := hX.2.1
  have h9 := hX.1
  have e9 : mI (sI M 135 16 (nI p)) 135 9 = nI n := h9
  have hF0 : FrT M (sI M 135 16 (nI p)) := FrT.I (by omega) (by omega)
  have hX0 := TxM_T hX hF0
  have s15 : mI (sI M 135 16 (nI p)) 135 15 = nI p := h15
  unfold nxtP
  rw [f_RM_advance_l58, h15]
  by_cases c1 : n ≤ p
  · rw [if_pos c1]
    obtain rfl : p = n := by omega
    refine ⟨sI (sI M 135 16 (nI p)) 135 14 (nI 0), ?_, ⟨rfl, h15, rfl, fun e => (by rcases e with e | e <;> cases e), fun e => (by cases e), hn, hn, Nat.zero_le _⟩, hF0.tr (FrT.I (by omega) (by omega))⟩
    simp (disch := first | assumption | omega) only [z_bdn, z_caln, z_gdn, z_iT, z_iF, z_le_t, z_le_f, z_lt_t, z_lt_f, z_cl, z_inb, z_at, z_pl, z_lit, nI_ii1, nI_add, nI_mul, z_eq_f, z_refuse, z_no, z_M00, b2i_t, b2i_f, s15, e9]
  · rw [if_neg c1]
    have e1 := q_look2 hX0 (show p < 2000 by omega)
    have el : lk2 T n p = T p := if_pos (by omega)
    have hT := (hX.2.2 p (by omega)).2
    have hgl : ∀ M, f_RM_isLetter (nI (T p)) M = some (b2i (isLt (T p)), M) := q_isLetter hT
    have hgd : ∀ M, f_RM_isDigit (nI (T p)) M = some (b2i (isDg (T p)), M) := q_isDigit hT
    rw [el] at e1
    by_cases c2 : isLt (T p) = true
    · rw [if_pos c2]
      rw [c2] at hgl
      have gs := sp_s (show p < n by omega) c2
      have ge := (sp_bd (p := isLt) (T := T) hp).2
      have hF1 : FrT (sI M 135 16 (nI p)) (sJ (sI (sI M 135 16 (nI p)) 135 14 (nI 1)) 135 19 0) := (FrT.I (by omega) (by omega)).tr FrT.J
      obtain ⟨M3, a1, a2, a3, a4, a5, a6, a7, a8⟩ := q_adv_l109 hp (n - p) FU p (sJ (sI (sI M 135 16 (nI p)) 135 14 (nI 1)) 135 19 0) (by omega) (FU_lt (by omega)) (TxM_T hX0 hF1) (Nat.le_refl _) h15 rfl rfl (fun i hi => absurd hi (by omega)) (fun _ => by rw [Nat.sub_self]; rfl) (fun h => by omega)
      have all : ∀ m a, a + m = n → ∀ i, a ≤ i → i < spP isLt T n a → isLt (T i) = true := by
        intro m
        induction m with
        | zero => intro a ha i h1 h2; rw [sp_stop (Or.inl (by omega))] at h2; omega
        | succ m ih =>
          intro a ha i h1 h2
          cases hl : isLt (T a) with
          | false => rw [sp_stop (Or.inr hl)] at h2; omega
          | true =>
            rw [sp_go (by omega) hl] at h2
            by_cases he : i = a
            · rw [he]; exact hl
            · exact ih (a + 1) (by omega) i (by omega) h2
      have hlw : spP isLt T n p - p ≤ 8 → wdF T (spP isLt T n p - p) p 0 < 1099511627776 := fun h8 => by
        have h1 := wdF_lt (T := T) (n := n) (p := p) (spP isLt T n p - p) (fun i hi => all (n - p) p (by omega) (p + i) (by omega) (by omega))
        have h2 : 32 ^ (spP isLt T n p - p) ≤ 32 ^ 8 := Nat.pow_le_pow_right (by omega) h8
        have h3 : (32 : Nat) ^ 8 = 1099511627776 := by decide
        omega
      generalize spP isLt T n p = e at *
      refine ⟨M3, ?_, ⟨a2, a3, a4, fun e => (by rcases e with e | e <;> cases e), fun _ => ⟨a5, fun h27 => ?_, fun h27 => ?_⟩, (show e ≤ 900 by omega), (show p ≤ 900 by omega), (show 2 ≤ 4 by omega)⟩, hF0.tr (hF1.tr a8)⟩
      · simp (disch := first | assumption | omega) only [z_bdn, z_caln, z_gdn, z_iT, z_iF, z_le_t, z_le_f, z_lt_t, z_lt_f, z_cl, z_inb, z_at, z_pl, z_lit, nI_ii1, nI_add, nI_mul, z_eq_f, z_refuse, z_no, z_M00, b2i_t, b2i_f, s15, e9, e1, hgl]
        exact a1
      · have h27 : (if 8 < e - p then 27 else keyN (wdF T (e - p) p 0)) = 27 := h27
        have hk := keyN_le (wdF T (e - p) p 0)
        by_cases h8 : 8 < e - p
        · exact ⟨a7 h8, h8⟩
        · rw [if_neg h8] at h27; omega
      · by_cases h8 : 8 < e - p
        · exact absurd (show (if 8 < e - p then 27 else keyN (wdF T (e - p) p 0)) = 27 from if_pos h8) h27
        · exact ⟨a6 (by omega), (show e - p ≤ 8 by omega), (show (if 8 < e - p then 27 else keyN (wdF T (e - p) p 0)) = _ from if_neg h8), hlw (by omega)⟩
    · rw [if_neg c2]
      have c2 : isLt (T p) = false := Bool.eq_false_iff.mpr c2
      rw [c2] at hgl
      by_cases c3 : isDg (T p) = true
      · rw [if_pos c3]
        rw [c3] at hgd
        have ge := (sp_bd (p := isDg) (T := T) hp).2
        have gs := sp_s (show p < n by omega) c3
        have hF1 : FrT (sI M 135 16 (nI p)) (sI (sI M 135 16 (nI p)) 135 17 (nI 0)) := FrT.I (by omega) (by omega)
        obtain ⟨M3, a1, a2, a3, a4, a5, a6⟩ := q_adv_l210 hp (n - p) FU p (sI (sI M 135 16 (nI p)) 135 17 (nI 0)) (by omega) (FU_lt (by omega)) (TxM_T hX0 hF1) (Nat.le_refl _) h15 rfl (by rw [Nat.sub_self]; rfl)
        refine ⟨M3, ?_, ⟨?_, a3, a4, fun e => ?_, fun e => ?_, (show spP isDg T n p ≤ 900 by omega), (show p ≤ 900 by omega), ?_⟩, hF0.tr (hF1.tr a6)⟩
        · simp (disch := first | assumption | omega) only [z_bdn, z_caln, z_gdn, z_iT, z_iF, z_le_t, z_le_f, z_lt_t, z_lt_f, z_cl, z_inb, z_at, z_pl, z_lit, nI_ii1, nI_add, nI_mul, z_eq_f, z_refuse, z_no, z_M00, b2i_t, b2i_f, s15, e9, e1, hgl, hgd]
          exact a1
        · rw [a2]
          show nI (if 4 < spP isDg T n p - p then 4 else 2) = nI (sM (if 4 < spP isDg T n p - p then 1 else 3))
          split <;> rfl
        · have e : (if 4 < spP isDg T n p - p then 1 else 3) = 3 ∨ (if 4 < spP isDg T n p - p then 1 else 3) = 4 := e
          have h4 : ¬ 4 < spP isDg T n p - p := fun h => by rw [if_pos h] at e; omega
          rw [a5, show min (spP isDg T n p - p) 4 = spP isDg T n p - p by omega]
          rfl
        · have e : (if 4 < spP isDg T n p - p then 1 else 3) = 2 := e
          split at e <;> omega
        · show (if 4 < spP isDg T n p - p then 1 else 3) ≤ 4
          split <;> omega
      · rw [if_neg c3]
        have c3 : isDg (T p) = false := Bool.eq_false_iff.mpr c3
        rw [c3] at hgd
        have hgs : ∀ M, f_RM_isSignByte (nI (T p)) M = some (b2i (isSg (T p)), M) := q_isSgB hT
        have last : ∀ v, nI v = nI (sM (if isSg (T p) = true then 4 else 1)) → TkM (sI (sI (sI (sI M 135 16 (nI p)) 135 16 (nI (p + 1))) 135 17 (nI (T p))) 135 14 (nI v)) (nxtS T p) := by
          intro v hv
          refine ⟨hv, h15, rfl, fun _ => rfl, fun e => ?_, (show p + 1 ≤ 900 by omega), (show p ≤ 900 by omega), ?_⟩
          · have e : (if isSg (T p) = true then 4 else 1) = 2 := e
            split at e <;> omega
          · show (if isSg (T p) = true then 4 else 1) ≤ 4
            split <;> omega
        have hFl : ∀ v, FrT M (sI (sI (sI (sI M 135 16 (nI p)) 135 16 (nI (p + 1))) 135 17 (nI (T p))) 135 14 (nI v)) := fun v => hF0.tr ((FrT.I (by omega) (by omega)).tr ((FrT.I (by omega) (by omega)).tr (FrT.I (by omega) (by omega))))
        cases hs : isSg (T p) with
        | true =>
          rw [hs] at hgs
          refine ⟨_, ?_, last 3 (by rw [hs]; rfl), hFl 3⟩
          simp (disch := first | assumption | omega) only [z_bdn, z_caln, z_gdn, z_iT, z_iF, z_le_t, z_le_f, z_lt_t, z_lt_f, z_cl, z_inb, z_at, z_pl, z_lit, nI_ii1, nI_add, nI_mul, z_eq_f, z_refuse, z_no, z_M00, b2i_t, b2i_f, s15, e9, e1, hgl, hgd, hgs]
        | false =>
          rw [hs] at hgs
          refine ⟨_, ?_, last 4 (by rw [hs]; rfl), hFl 4⟩
          simp (disch := first | assumption | omega) only [z_bdn, z_caln, z_gdn, z_iT, z_iF, z_le_t, z_le_f, z_lt_t, z_lt_f, z_cl, z_inb, z_at, z_pl, z_lit, nI_ii1, nI_add, nI_mul, z_eq_f, z_refuse, z_no, z_M00, b2i_t, b2i_f, s15, e9, e1, hgl, hgd, hgs]
theorem q_advance {a : Nat} (hX : TxM M T n) (ha : a ≤ n) (h16 : mI M 135 16 = nI a) : ∃ M', f_RM_advance M = some ((), M') ∧ TkM M' (nxt T n a) ∧ FrT M M' := by
  have key : ∀ (m f a : Nat) (M : kx_M), a + m = n → m < f → TxM M T n → mI M 135 15 = nI a → ∃ M', f_RM_advance_l8 f M = some ((), M') ∧ TkM M' (nxt T n a) ∧ FrT M M' := by
    intro m
    induction m with
    | zero =>
      intro f a M ha hf hX h15
      obtain ⟨f, rfl, hf⟩ := z_succ hf
      obtain ⟨M', a1, a2, a3⟩ := q_adv_l58 (p := a) hX (by omega) h15
      unfold nxt
      rw [sp_stop (Or.inl (by omega))]
      refine ⟨M', ?_, a2, a3⟩
      have h9 := hX.1
      have hn := hX.2.1
      rw [f_RM_advance_l8, h15]
      simp (disch := first | assumption | omega) only [z_bdn, z_caln, z_gdn, z_iT, z_iF, z_le_t, z_le_f, z_lt_t, z_lt_f, z_cl, z_inb, z_at, z_pl, z_lit, nI_ii1, nI_add, nI_mul, z_eq_f, z_refuse, z_no, z_M00, b2i_t, b2i_f, h9]
      exact a1
    | succ m ih =>
      intro f a M ha hf hX h15
      obtain ⟨f, rfl, hf⟩ := z_succ hf
      have h9 := hX.1
      have hn := hX.2.1
      have e1 := q_look2 hX (show a < 2000 by omega)
      have el : lk2 T n a = T a := if_pos (by omega)
      rw [el] at e1
      have hT := (hX.2.2 a (by omega)).2
      unfold nxt
      cases hb : isBl (T a) with
      | false =>
        rw [sp_stop (Or.inr hb)]
        have hb := of_decide_eq_false hb
        obtain ⟨M', a1, a2, a3⟩ := q_adv_l58 (p := a) hX (by omega) h15
        refine ⟨M', ?_, a2, a3⟩
        have z1 : (nI (T a) = nI 32) = False := z_eq_f (by omega) (by omega) (by omega)
        have z2 : (nI (T a) = nI 10) = False := z_eq_f (by omega) (by omega) (by omega)
        rw [f_RM_advance_l8, h15]
        simp (disch := first | assumption | omega) only [z_bdn, z_caln, z_gdn, z_iT, z_iF, z_le_t, z_le_f, z_lt_t, z_lt_f, z_cl, z_inb, z_at, z_pl, z_lit, nI_ii1, nI_add, nI_mul, z_eq_f, z_refuse, z_no, z_M00, b2i_t, b2i_f, h9, e1, z1, z2, h15]
        exact a1
      | true =>
        rw [sp_go (by omega) hb]
        have hF : FrT M (sI M 135 15 (nI (a + 1))) := FrT.I (by omega) (by omega)
        obtain ⟨M', a1, a2, a3⟩ := ih f (a + 1) (sI M 135 15 (nI (a + 1))) (by omega) (by omega) (TxM_T hX hF) rfl
        refine ⟨M', ?_, a2, hF.tr a3⟩
        have hb := of_decide_eq_true hb
        rw [f_RM_advance_l8, h15]
        rcases hb with hb | hb
        · have z2 : (nI (T a) = nI 10) = True := eq_true (by rw [hb])
          simp (disch := first | assumption | omega) only [z_bdn, z_caln, z_gdn, z_iT, z_iF, z_le_t, z_le_f, z_lt_t, z_lt_f, z_cl, z_inb, z_at, z_pl, z_lit, nI_ii1, nI_add, nI_mul, z_eq_f, z_refuse, z_no, z_M00, b2i_t, b2i_f, h9, e1, z2, h15]
          exact a1
        · have z2 : (nI (T a) = nI 10) = False := z_eq_f (by omega) (by omega) (by omega)
          have z1 : (nI (T a) = nI 32) = True := eq_true (by rw [hb])
          simp (disch := first | assumption | omega) only [z_bdn, z_caln, z_gdn, z_iT, z_iF, z_le_t, z_le_f, z_lt_t, z_lt_f, z_cl, z_inb, z_at, z_pl, z_lit, nI_ii1, nI_add, nI_mul, z_eq_f, z_refuse, z_no, z_M00, b2i_t, b2i_f, h9, e1, z1, z2, h15]
          exact a1
  have hF : FrT M (sI M 135 15 (nI a)) := FrT.I (by omega) (by omega)
  obtain ⟨M', a1, a2, a3⟩ := key (n - a) FU a (sI M 135 15 (nI a)) (by omega) (FU_lt (by have := hX.2.1; omega)) (TxM_T hX hF) rfl
  refine ⟨M', ?_, a2, hF.tr a3⟩
  rw [f_RM_advance]
  simp (disch := first | assumption | omega) only [z_bdn, z_caln, z_gdn, z_iT, z_iF, z_le_t, z_le_f, z_lt_t, z_lt_f, z_cl, z_inb, z_at, z_pl, z_lit, nI_ii1, nI_add, nI_mul, z_eq_f, z_refuse, z_no, z_M00, b2i_t, b2i_f, h16]
  exact a1
end
