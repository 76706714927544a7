/-! ## TOKENS: the reference -/
def sM (s : Nat) : Nat := if s = 0 then 0 else if s = 1 then 4 else s - 1
def TxM (M : kx_M) (T : Nat → Nat) (n : Nat) : Prop := mI M 135 9 = nI n ∧ n ≤ 900 ∧ ∀ i, i < n → mA M 139 i = vp_nar .byte (nI (T i)) ∧ T i ≤ 255
def TkM (M : kx_M) (t : Tok) : Prop := mI M 135 14 = nI (sM (kS t)) ∧ mI M 135 15 = nI (kP t) ∧ mI M 135 16 = nI (kA t) ∧ (kS t = 3 ∨ kS t = 4 → mI M 135 17 = nI (kV t)) ∧ (kS t = 2 → mI M 135 18 = nI (kA t - kP t) ∧ (kV t = 27 → mJ M 135 19 = -1 ∧ 8 < kA t - kP t) ∧ (kV t ≠ 27 → mJ M 135 19 = bJ (kW t) ∧ kA t - kP t ≤ 8 ∧ kV t = keyN (kW t) ∧ kW t < 1099511627776)) ∧ kA t ≤ 900 ∧ kP t ≤ 900 ∧ kS t ≤ 4
def FrT (M M' : kx_M) : Prop := Fr (fun id => id = 135) M M' ∧ (∀ k, k < 14 ∨ 19 < k → mI M' 135 k = mI M 135 k) ∧ (∀ k, k ≠ 19 → mJ M' 135 k = mJ M 135 k)
theorem FrT.rf {M : kx_M} : FrT M M := ⟨Fr.rf, fun _ _ => rfl, fun _ _ => rfl⟩
theorem FrT.tr {A B C : kx_M} (h : FrT A B) (g : FrT B C) : FrT A C := ⟨h.1.tr g.1, fun k hk => (g.2.1 k hk).trans (h.2.1 k hk), fun k hk => (g.2.2 k hk).trans (h.2.2 k hk)⟩
theorem FrT.I {M : kx_M} {k : Nat} {v : Int32} (h1 : 14 ≤ k) (h2 : k ≤ 19) : FrT M (sI M 135 k v) := ⟨Fr.sI rfl, fun j hj => by rw [mI_sI, if_neg (by omega)], fun _ _ => rfl⟩
theorem FrT.J {M : kx_M} {v : Int64} : FrT M (sJ M 135 19 v) := ⟨Fr.sJ rfl, fun _ _ => rfl, fun j hj => by rw [mJ_sJ, if_neg (fun e => hj e.2)]⟩
theorem z_bt255 : ∀ b, b < 256 → vp_nar .byte (nI b) &&& nI 255 = nI b := by decide +kernel
def lk2 (T : Nat → Nat) (n p : Nat) : Nat := if p < n then T p else 0
section
variable {M M' : kx_M} {T : Nat → Nat} {n : Nat} {t : Tok}
theorem TxM_T (h : TxM M T n) (hF : FrT M M') : TxM M' T n := ⟨(hF.2.1 9 (by omega)).trans h.1, h.2.1, fun i hi => by rw [(hF.1 139 (by decide)).2.2.1]; exact h.2.2 i hi⟩
theorem q_look2 {p : Nat} (hX : TxM M T n) (hp : p < 2000) : f_RM_look2 (nI p) M = some (nI (lk2 T n p), M) := by
  obtain ⟨h1, h2, h3⟩ := hX
  rw [f_RM_look2]
  unfold lk2
  by_cases hh : p < n
  · obtain ⟨e, hT⟩ := h3 p hh
    have e2 := z_bt255 (T p) (by omega)
    rw [if_pos hh]
    simp (disch := first | assumption | omega) only [z_bdn, z_caln, z_gdn, z_iT, z_iF, z_le_t, z_le_f, z_lt_t, z_lt_f, z_cl, z_inb, z_at, z_pl, z_lit, nI_ii1, nI_add, nI_mul, z_eq_f, z_refuse, z_no, z_M00, b2i_t, b2i_f, h1, e, e2]
  · rw [if_neg hh]
    simp (disch := first | assumption | omega) only [z_bdn, z_caln, z_gdn, z_iT, z_iF, z_le_t, z_le_f, z_lt_t, z_lt_f, z_cl, z_inb, z_at, z_pl, z_lit, nI_ii1, nI_add, nI_mul, z_eq_f, z_refuse, z_no, z_M00, b2i_t, b2i_f, h1]
theorem lk2_255 (hX : TxM M T n) (p : Nat) : lk2 T n p ≤ 255 := by
  unfold lk2
  split
  · rename_i h; exact (hX.2.2 p h).2
  · omega
theorem q_isLetter {b : Nat} (hb : b ≤ 255) (M : kx_M) : f_RM_isLetter (nI b) M = some (b2i (isLt b), M) := by
  rw [f_RM_isLetter]
  cases h : isLt b with
  | true =>
    obtain ⟨z1, z2, -⟩ := lt_t hb h
    simp (disch := first | assumption | omega) only [z_bdn, z_caln, z_gdn, z_iT, z_iF, z_le_t, z_le_f, z_lt_t, z_lt_f, z_cl, z_inb, z_at, z_pl, z_lit, nI_ii1, nI_add, nI_mul, z_eq_f, z_refuse, z_no, z_M00, b2i_t, b2i_f, z1, z2]
  | false =>
    rcases lt_c hb h with z1 | ⟨z1, z2⟩
    · simp (disch := first | assumption | omega) only [z_bdn, z_caln, z_gdn, z_iT, z_iF, z_le_t, z_le_f, z_lt_t, z_lt_f, z_cl, z_inb, z_at, z_pl, z_lit, nI_ii1, nI_add, nI_mul, z_eq_f, z_refuse, z_no, z_M00, b2i_t, b2i_f, z1]
    · simp (disch := first | assumption | omega) only [z_bdn, z_caln, z_gdn, z_iT, z_iF, z_le_t, z_le_f, z_lt_t, z_lt_f, z_cl, z_inb, z_at, z_pl, z_lit, nI_ii1, nI_add, nI_mul, z_eq_f, z_refuse, z_no, z_M00, b2i_t, b2i_f, z1, z2]
theorem q_isDigit {b : Nat} (hb : b ≤ 255) (M : kx_M) : f_RM_isDigit (nI b) M = some (b2i (isDg b), M) := by
  rw [f_RM_isDigit]
  cases h : isDg b with
  | true =>
    obtain ⟨z1, z2, -⟩ := dg_t hb h
    simp (disch := first | assumption | omega) only [z_bdn, z_caln, z_gdn, z_iT, z_iF, z_le_t, z_le_f, z_lt_t, z_lt_f, z_cl, z_inb, z_at, z_pl, z_lit, nI_ii1, nI_add, nI_mul, z_eq_f, z_refuse, z_no, z_M00, b2i_t, b2i_f, z1, z2]
  | false =>
    rcases dg_c hb h with z1 | ⟨z1, z2⟩
    · simp (disch := first | assumption | omega) only [z_bdn, z_caln, z_gdn, z_iT, z_iF, z_le_t, z_le_f, z_lt_t, z_lt_f, z_cl, z_inb, z_at, z_pl, z_lit, nI_ii1, nI_add, nI_mul, z_eq_f, z_refuse, z_no, z_M00, b2i_t, b2i_f, z1]
    · simp (disch := first | assumption | omega) only [z_bdn, z_caln, z_gdn, z_iT, z_iF, z_le_t, z_le_f, z_lt_t, z_lt_f, z_cl, z_inb, z_at, z_pl, z_lit, nI_ii1, nI_add, nI_mul, z_eq_f, z_refuse, z_no, z_M00, b2i_t, b2i_f, z1, z2]
theorem q_isSgB {b : Nat} (hb : b ≤ 255) (M : kx_M) : f_RM_isSignByte (nI b) M = some (b2i (isSg b), M) := by
  rw [f_RM_isSignByte]
  by_cases h1 : b = 59
  · subst h1; simp (disch := first | assumption | omega) only [z_bdn, z_caln, z_gdn, z_iT, z_iF, z_le_t, z_le_f, z_lt_t, z_lt_f, z_cl, z_inb, z_at, z_pl, z_lit, nI_ii1, nI_add, nI_mul, z_eq_f, z_refuse, z_no, z_M00, b2i_t, b2i_f, eq_self]; rfl
  · by_cases h2 : b = 60
    · subst h2; simp (disch := first | assumption | omega) only [z_bdn, z_caln, z_gdn, z_iT, z_iF, z_le_t, z_le_f, z_lt_t, z_lt_f, z_cl, z_inb, z_at, z_pl, z_lit, nI_ii1, nI_add, nI_mul, z_eq_f, z_refuse, z_no, z_M00, b2i_t, b2i_f, eq_self]; rfl
    · by_cases h3 : b = 62
      · subst h3; simp (disch := first | assumption | omega) only [z_bdn, z_caln, z_gdn, z_iT, z_iF, z_le_t, z_le_f, z_lt_t, z_lt_f, z_cl, z_inb, z_at, z_pl, z_lit, nI_ii1, nI_add, nI_mul, z_eq_f, z_refuse, z_no, z_M00, b2i_t, b2i_f, eq_self]; rfl
      · by_cases h4 : b = 61
        · subst h4; simp (disch := first | assumption | omega) only [z_bdn, z_caln, z_gdn, z_iT, z_iF, z_le_t, z_le_f, z_lt_t, z_lt_f, z_cl, z_inb, z_at, z_pl, z_lit, nI_ii1, nI_add, nI_mul, z_eq_f, z_refuse, z_no, z_M00, b2i_t, b2i_f, eq_self]; rfl
        · rw [show isSg b = false from decide_eq_false (by omega)]
          simp (disch := first | assumption | omega) only [z_bdn, z_caln, z_gdn, z_iT, z_iF, z_le_t, z_le_f, z_lt_t, z_lt_f, z_cl, z_inb, z_at, z_pl, z_lit, nI_ii1, nI_add, nI_mul, z_eq_f, z_refuse, z_no, z_M00, b2i_t, b2i_f]
theorem lk2_l (p : Nat) : isLt (lk2 T n p) = (decide (p < n) && isLt (T p)) := by
  unfold lk2
  by_cases h : p < n
  · rw [if_pos h, decide_eq_true h, Bool.true_and]
  · rw [if_neg h, decide_eq_false h, Bool.false_and]; rfl
theorem lk2_d (p : Nat) : isDg (lk2 T n p) = (decide (p < n) && isDg (T p)) := by
  unfold lk2
  by_cases h : p < n
  · rw [if_pos h, decide_eq_true h, Bool.true_and]
  · rw [if_neg h, decide_eq_false h, Bool.false_and]; rfl
theorem sp_end {p : Nat → Bool} {a : Nat} (h : (decide (a < n) && p (T a)) = false) : spP p T n a = a := by
  rw [Bool.and_eq_false_iff] at h
  rcases h with h | h
  · exact sp_stop (Or.inl (by have := of_decide_eq_false h; omega))
  · exact sp_stop (Or.inr h)
theorem bJ_32 {w b : Nat} (hw : w < 34359738368) (hb : 96 ≤ b) (hb2 : b < 256) : bJ w * 32 + (nI b).toInt64 - 96 = bJ (w * 32 + (b - 96)) := by
  have e : (nI b).toInt64.toInt = (b : Int) := jJ_toInt (by omega)
  refine Int64.toInt_inj.mp ?_
  have h32 : (32 : Int64).toInt = 32 := by decide
  have h96 : (96 : Int64).toInt = 96 := by decide
  rw [Int64.toInt_sub, Int64.toInt_add, Int64.toInt_mul, bJ_toInt (by omega), bJ_toInt (by omega), e, h32, h96]
  rw [i64_bm (z := (w : Int) * 32) (by omega) (by omega), i64_bm (z := (w : Int) * 32 + (b : Int)) (by omega) (by omega), i64_bm (by omega) (by omega)]
  omega
/-- the letters of a word -/
theorem q_adv_l109 {p : Nat} (hp9 : p ≤ n) : ∀ (m f a : Nat) (M : kx_M), a + m = n → m < f → TxM M T n → p ≤ a → mI M 135 15 = nI p → mI M 135 16 = nI a → mI M 135 14 = nI 1 → (∀ i, p + i < a → isLt (T (p + i)) = true) → (a - p ≤ 8 → mJ M 135 19 = bJ (wdF T (a - p) p 0)) → (8 < a - p → mJ M 135 19 = -1) → ∃ M', f_RM_advance_l109 f M = some ((), M') ∧ mI M' 135 14 = nI 1 ∧ mI M' 135 15 = nI p ∧ mI M' 135 16 = nI (spP isLt T n a) ∧ mI M' 135 18 = nI (spP isLt T n a - p) ∧ (spP isLt T n a - p ≤ 8 → mJ M' 135 19 = bJ (wdF T (spP isLt T n a - p) p 0)) ∧ (8 < spP isLt T n a - p → mJ M' 135 19 = -1) ∧ FrT M M' := by
  have stop : ∀ (f a : Nat) (M : kx_M), TxM M T n → p ≤ a → a ≤ n → mI M 135 15 = nI p → mI M 135 16 = nI a → mI M 135 14 = nI 1 → (a - p ≤ 8 → mJ M 135 19 = bJ (wdF T (a - p) p 0)) → (8 < a - p → mJ M 135 19 = -1) → (decide (a < n) && isLt (T a)) = false → ∃ M', f_RM_advance_l109 (f + 1) M = some ((), M') ∧ mI M' 135 14 = nI 1 ∧ mI M' 135 15 = nI p ∧ mI M' 135 16 = nI a ∧ mI M' 135 18 = nI (a - p) ∧ (a - p ≤ 8 → mJ M' 135 19 = bJ (wdF T (a - p) p 0)) ∧ (8 < a - p → mJ M' 135 19 = -1) ∧ FrT M M' := by
    intro f a M hX hp han h15 h16 h14 hw hw2 hl
    have hn := hX.2.1
    have e1 := q_look2 hX (show a < 2000 by omega)
    have e2 := q_isLetter (lk2_255 hX a) M
    rw [lk2_l, hl] at e2
    refine ⟨sI M 135 18 (nI (a - p)), ?_, h14, h15, h16, rfl, hw, hw2, FrT.I (by omega) (by omega)⟩
    rw [f_RM_advance_l109, h16]
    simp (disch := first | assumption | omega) only [z_bdn, z_caln, z_gdn, z_iT, z_iF, z_le_t, z_le_f, z_lt_t, z_lt_f, z_cl, z_inb, z_at, z_pl, z_lit, nI_ii1, nI_add, nI_mul, z_eq_f, z_refuse, z_no, z_M00, b2i_t, b2i_f, e1, e2, z_sub, h16, h15]
  intro m
  induction m with
  | zero =>
    intro f a M ha hf hX hp h15 h16 h14 hall hw hw2
    obtain ⟨f, rfl, hf⟩ := z_succ hf
    rw [sp_stop (Or.inl (by omega))]
    exact stop f a M hX hp (by omega) h15 h16 h14 hw hw2 (by rw [decide_eq_false (by omega)]; rfl)
  | succ m ih =>
    intro f a M ha hf hX hp h15 h16 h14 hall hw hw2
    obtain ⟨f, rfl, hf⟩ := z_succ hf
    cases hl : isLt (T a) with
    | false =>
      rw [sp_stop (Or.inr hl)]
      exact stop f a M hX hp (by omega) h15 h16 h14 hw hw2 (by rw [hl, Bool.and_false])
    | true =>
      rw [sp_go (by omega) hl]
      have hn := hX.2.1
      have e1 := q_look2 hX (show a < 2000 by omega)
      have e2 := q_isLetter (lk2_255 hX a) M
      rw [lk2_l, hl, decide_eq_true (show a < n by omega)] at e2
      have el : lk2 T n a = T a := if_pos (by omega)
      rw [el] at e1 e2
      obtain ⟨-, -, l1, l2⟩ := lt_t (hX.2.2 a (by omega)).2 hl
      by_cases h8 : 8 ≤ a - p
      · have hF : FrT M (sI (sJ M 135 19 (-1)) 135 16 (nI (a + 1))) := FrT.J.tr (FrT.I (by omega) (by omega))
        obtain ⟨M', a1, a2⟩ := ih f (a + 1) (sI (sJ M 135 19 (-1)) 135 16 (nI (a + 1))) (by omega) (by omega) (TxM_T hX hF) (by omega) h15 rfl h14 (fun i hi => by
          by_cases he : p + i = a
          · rw [he]; exact hl
          · exact hall i (by omega)) (fun h => by omega) (fun _ => rfl)
        refine ⟨M', ?_, a2.1, a2.2.1, a2.2.2.1, a2.2.2.2.1, a2.2.2.2.2.1, a2.2.2.2.2.2.1, hF.tr a2.2.2.2.2.2.2⟩
        have s16 : mI (sJ M 135 19 (-1)) 135 16 = nI a := h16
        rw [f_RM_advance_l109, h16]
        simp (disch := first | assumption | omega) only [z_bdn, z_caln, z_gdn, z_iT, z_iF, z_le_t, z_le_f, z_lt_t, z_lt_f, z_cl, z_inb, z_at, z_pl, z_lit, nI_ii1, nI_add, nI_mul, z_eq_f, z_refuse, z_no, z_M00, b2i_t, b2i_f, e1, e2, z_sub, h16, h15, f_RM_advance_l166, s16]
        exact a1
      · have ew := hw (by omega)
        have hb := bJ_32 (w := wdF T (a - p) p 0) (b := T a) (Nat.lt_of_lt_of_le (wdF_lt (n := n) (a - p) (fun i hi => hall i (by omega))) (p32 (by omega))) (by omega) (by omega)
        have happ : wdF T (a + 1 - p) p 0 = wdF T (a - p) p 0 * 32 + (T a - 96) := by rw [show a + 1 - p = a - p + 1 by omega, wdF_app, show p + (a - p) = a by omega]
        rw [← happ] at hb
        have hF : FrT M (sI (sJ M 135 19 (bJ (wdF T (a + 1 - p) p 0))) 135 16 (nI (a + 1))) := FrT.J.tr (FrT.I (by omega) (by omega))
        obtain ⟨M', a1, a2⟩ := ih f (a + 1) (sI (sJ M 135 19 (bJ (wdF T (a + 1 - p) p 0))) 135 16 (nI (a + 1))) (by omega) (by omega) (TxM_T hX hF) (by omega) h15 rfl h14 (fun i hi => by
          by_cases he : p + i = a
          · rw [he]; exact hl
          · exact hall i (by omega)) (fun _ => rfl) (fun h => by omega)
        refine ⟨M', ?_, a2.1, a2.2.1, a2.2.2.1, a2.2.2.2.1, a2.2.2.2.2.1, a2.2.2.2.2.2.1, hF.tr a2.2.2.2.2.2.2⟩
        have s16 : ∀ v, mI (sJ M 135 19 v) 135 16 = nI a := fun _ => h16
        rw [f_RM_advance_l109, h16]
        simp (disch := first | assumption | omega) only [z_bdn, z_caln, z_gdn, z_iT, z_iF, z_le_t, z_le_f, z_lt_t, z_lt_f, z_cl, z_inb, z_at, z_pl, z_lit, nI_ii1, nI_add, nI_mul, z_eq_f, z_refuse, z_no, z_M00, b2i_t, b2i_f, e1, e2, z_sub, h16, h15, ew, hb, f_RM_advance_l166, s16]
        exact a1
end
