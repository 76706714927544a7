/-! ## MARK and BACK: the reference -/
section
variable {M M' : kx_M} {σ : Sg} {x : Cl} {y : De}
theorem MC_g {g g' : Nat → Int32} (hO : OkC x) (hg : ∀ p, p < 768 → g' p = g p) (hC : MC g x) : MC g' x := by
  have w2 := hO.1.2
  have w3 := hO.2.2.1
  obtain ⟨a1, a2, a3, a4, a5, a6⟩ := hC
  refine ⟨(hg _ (by omega)).trans a1, (hg _ (by omega)).trans a2, (hg _ (by omega)).trans a3, (hg _ (by omega)).trans a4, fun r hr => (hg _ (by omega)).trans (a5 r hr), fun r i hr hi => ?_⟩
  obtain ⟨b1, b2, b3, b4⟩ := a6 r i hr hi
  exact ⟨(hg _ (by omega)).trans b1, (hg _ (by omega)).trans b2, (hg _ (by omega)).trans b3, (hg _ (by omega)).trans b4⟩
theorem MD_h {g : Nat → Int32} {h h' : Nat → Int64} {W : Nat} (hP : OkD W y) (hh : ∀ p, p < 10 → h' p = h p) (hD : MD g h y) : MD g h' y := by
  obtain ⟨h1, h2, h3, h4, h5, h6, h7⟩ := hD
  have w1 := hP.1
  have w2 := hP.2.1
  exact ⟨h1, h2, fun q hq => ⟨(h3 q hq).1, (hh _ (by omega)).trans (h3 q hq).2⟩, fun k hk => ⟨(hh _ (by omega)).trans (h4 k hk).1, (h4 k hk).2⟩, h5, h6, h7⟩
theorem MS_g {g g' : Nat → Int32} {h h' : Nat → Int64} {u : St} (hu : OkSt u) (hg : ∀ p, p < 768 → g' p = g p) (hh : ∀ p, p < 10 → h' p = h p) (hS : MS g h u) : MS g' h' u :=
  ⟨MC_g hu.1 hg hS.1, MD_h hu.2.2.1 hh (MD_congr hu.2.2.1 (fun p h1 h2 _ _ => hg p (by omega)) hS.2.1), MZ_congr hu.2.2.2 (fun p h1 h2 => hg p h2) hS.2.2⟩
theorem q_copy_l41 {a b : Nat} {B : Nat → Int64} (ha : a < 5) (hb : b < 5) (hab : a ≠ b) : ∀ (m n i : Nat) (M : kx_M), i + m = 10 → m < n → (∀ p, mB M 143 p = if 10 * b ≤ p ∧ p < 10 * b + i then B (10 * a + (p - 10 * b)) else B p) → ∃ M', f_RM_copy_l41 (nI a) (nI b) n (nI i) M = some ((), M') ∧ Fr (fun id => id = 143) M M' ∧ ∀ p, mB M' 143 p = if 10 * b ≤ p ∧ p < 10 * b + 10 then B (10 * a + (p - 10 * b)) else B p := by
  intro m
  induction m with
  | zero =>
    intro n i M hi hn hB
    obtain ⟨n, rfl, hn⟩ := z_succ hn
    obtain rfl : i = 10 := by omega
    refine ⟨M, ?_, Fr.rf, hB⟩
    rw [f_RM_copy_l41]
    simp (disch := first | assumption | omega) only [z_bdn, z_caln, z_gdn, z_iT, z_iF, z_le_t, z_le_f, z_lt_t, z_lt_f, z_cl, z_inb, z_at, z_pl, z_lit, nI_ii1, nI_add, nI_mul, z_eq_f, z_refuse, z_no, z_M00, b2i_t, b2i_f]
  | succ m ih =>
    intro n i M hi hn hB
    obtain ⟨n, rfl, hn⟩ := z_succ hn
    obtain ⟨M', g1, g2, g3⟩ := ih n (i + 1) (sB M 143 (vp_updL (mB M 143) (10 * b + i) (mB M 143 (10 * a + i)))) (by omega) (by omega) (fun p => by
      rw [mB_sB, if_pos rfl]
      show (if p = 10 * b + i then mB M 143 (10 * a + i) else mB M 143 p) = _
      rw [hB, hB]
      by_cases h1 : p = 10 * b + i
      · rw [if_pos h1, if_neg (by omega), if_pos (by omega)]
        congr 1
        omega
      · rw [if_neg h1]
        by_cases h2 : 10 * b ≤ p ∧ p < 10 * b + i
        · rw [if_pos h2, if_pos (by omega)]
        · rw [if_neg h2, if_neg (by omega)])
    refine ⟨M', ?_, Fr.tr (Fr.sB rfl) g2, g3⟩
    rw [f_RM_copy_l41]
    simp (disch := first | assumption | omega) only [z_bdn, z_caln, z_gdn, z_iT, z_iF, z_le_t, z_le_f, z_lt_t, z_lt_f, z_cl, z_inb, z_at, z_pl, z_lit, nI_ii1, nI_add, nI_mul, z_eq_f, z_refuse, z_no, z_M00, b2i_t, b2i_f]
    exact g1
theorem q_copy_l2 {a b : Nat} {A : Nat → Int32} (ha : a < 5) (hb : b < 5) (hab : a ≠ b) : ∀ (m n i : Nat) (M : kx_M), i + m = 768 → m < n → (∀ p, mA M 140 p = if 768 * b ≤ p ∧ p < 768 * b + i then A (768 * a + (p - 768 * b)) else A p) → ∃ M', f_RM_copy_l2 (nI a) (nI b) n (nI i) M = some ((), M') ∧ Fr (fun id => id = 140 ∨ id = 143) M M' ∧ (∀ p, mA M' 140 p = if 768 * b ≤ p ∧ p < 768 * b + 768 then A (768 * a + (p - 768 * b)) else A p) ∧ ∀ p, mB M' 143 p = if 10 * b ≤ p ∧ p < 10 * b + 10 then mB M 143 (10 * a + (p - 10 * b)) else mB M 143 p := by
  intro m
  induction m with
  | zero =>
    intro n i M hi hn hB
    obtain ⟨n, rfl, hn⟩ := z_succ hn
    obtain rfl : i = 768 := by omega
    obtain ⟨M', g1, g2, g3⟩ := q_copy_l41 (B := mB M 143) ha hb hab 10 FU 0 M (by omega) (FU_lt (by omega)) (fun p => by rw [if_neg (by omega)])
    refine ⟨M', ?_, g2.mono (fun id e => Or.inr e), fun p => ?_, g3⟩
    · rw [f_RM_copy_l2]
      simp (disch := first | assumption | omega) only [z_bdn, z_caln, z_gdn, z_iT, z_iF, z_le_t, z_le_f, z_lt_t, z_lt_f, z_cl, z_inb, z_at, z_pl, z_lit, nI_ii1, nI_add, nI_mul, z_eq_f, z_refuse, z_no, z_M00, b2i_t, b2i_f]
      exact g1
    · rw [show mA M' 140 = mA M 140 from (g2 140 (by decide)).2.2.1]
      exact hB p
  | succ m ih =>
    intro n i M hi hn hB
    obtain ⟨n, rfl, hn⟩ := z_succ hn
    obtain ⟨M', g1, g2, g3, g4⟩ := ih n (i + 1) (sA M 140 (upd (mA M 140) (768 * b + i) (mA M 140 (768 * a + i)))) (by omega) (by omega) (fun p => by
      rw [mA_sA, if_pos rfl, upd_at, hB, hB]
      by_cases h1 : p = 768 * b + i
      · rw [if_pos h1, if_neg (by omega), if_pos (by omega)]
        congr 1
        omega
      · rw [if_neg h1]
        by_cases h2 : 768 * b ≤ p ∧ p < 768 * b + i
        · rw [if_pos h2, if_pos (by omega)]
        · rw [if_neg h2, if_neg (by omega)])
    refine ⟨M', ?_, Fr.tr (Fr.sA (Or.inl rfl)) g2, g3, g4⟩
    rw [f_RM_copy_l2]
    simp (disch := first | assumption | omega) only [z_bdn, z_caln, z_gdn, z_iT, z_iF, z_le_t, z_le_f, z_lt_t, z_lt_f, z_cl, z_inb, z_at, z_pl, z_lit, nI_ii1, nI_add, nI_mul, z_eq_f, z_refuse, z_no, z_M00, b2i_t, b2i_f]
    exact g1
theorem q_copy {a b : Nat} (ha : a < 5) (hb : b < 5) (hab : a ≠ b) (M : kx_M) : ∃ M', f_RM_copy (nI a) (nI b) M = some ((), M') ∧ Fr (fun id => id = 140 ∨ id = 143) M M' ∧ (∀ p, mA M' 140 p = if 768 * b ≤ p ∧ p < 768 * b + 768 then mA M 140 (768 * a + (p - 768 * b)) else mA M 140 p) ∧ ∀ p, mB M' 143 p = if 10 * b ≤ p ∧ p < 10 * b + 10 then mB M 143 (10 * a + (p - 10 * b)) else mB M 143 p := by
  obtain ⟨M', g1, g2, g3, g4⟩ := q_copy_l2 (A := mA M 140) ha hb hab 768 FU 0 M (by omega) (FU_lt (by omega)) (fun p => by rw [if_neg (by omega)])
  refine ⟨M', ?_, g2, g3, g4⟩
  rw [f_RM_copy]
  simp (disch := first | assumption | omega) only [z_bdn, z_caln, z_gdn, z_iT, z_iF, z_le_t, z_le_f, z_lt_t, z_lt_f, z_cl, z_inb, z_at, z_pl, z_lit, nI_ii1, nI_add, nI_mul, z_eq_f, z_refuse, z_no, z_M00, b2i_t, b2i_f]
  exact g1
/-- blocks changed, and the number of the marks -/
theorem IM_k {n : Nat} {f : Nat → St} {u : St} (hI : IM M σ) (hF : Fr (fun id => id = 140 ∨ id = 143 ∨ id = 135) M M') (h0 : ∀ k, k ≠ 24 → mI M' 135 k = mI M 135 k) (hj : ∀ k, mJ M' 135 k = mJ M 135 k) (h24 : mI M' 135 24 = nI n) (hn : n ≤ 3) (hu : OkSt u) (hS : MS (mA M' 140) (mB M' 143) u) (hf : ∀ i, i < n → OkSt (f i) ∧ MS (fun p => mA M' 140 (768 * (i + 1) + p)) (fun p => mB M' 143 (10 * (i + 1) + p)) (f i)) : IM M' (wNow (wK σ n f) u) := by
  obtain ⟨hO, -, ⟨a1, a2, a3, a4, a5⟩, hT, ⟨b1, b2⟩, -, ⟨d1, d2⟩⟩ := hI
  have e136 := (hF 136 (by omega)).2.2.1
  have e137 := (hF 137 (by omega)).2.2.1
  have e138 := (hF 138 (by omega)).2.2.2.1
  have e139 := (hF 139 (by omega)).2.2.1
  have e150 := (hF 150 (by omega)).2.2.1
  refine ⟨⟨hu, hn, fun i hi => (hf i hi).1, hO.2.2.2⟩, hS, ⟨?_, ?_, ?_, ?_, ?_⟩, ?_, ⟨?_, ?_⟩, ⟨h24, fun i hi => (hf i hi).2⟩, ⟨?_, ?_⟩⟩
  · rw [h0 _ (by decide)]; exact a1
  · rw [hj]; exact a2
  · rw [hj]; exact a3
  · rw [h0 _ (by decide)]; exact a4
  · rw [h0 _ (by decide)]; exact a5
  · unfold MT; rw [e136, e137, e138]; exact hT
  · rw [h0 _ (by decide)]; exact b1
  · rw [e139]; exact b2
  · rw [h0 _ (by decide)]; exact d1
  · rw [e150]; exact d2
theorem pM_mark : PM f_RM_mark o_mark := by
  intro M σ h
  have h0 := IM_00 h
  have hn := h.1.2.1
  have h0' := h0
  obtain ⟨hO, hS, -, -, -, ⟨c1, c2⟩, -⟩ := h0'
  have e24 : mI (M00 M) 135 24 = nI (gK σ).1 := c1
  rw [f_RM_mark]
  unfold o_mark
  by_cases h3 : (gK σ).1 < 3
  · rw [decide_eq_true h3]
    obtain ⟨M', g1, g2, g3, g4⟩ := q_copy (a := 0) (b := (gK σ).1 + 1) (by omega) (by omega) (by omega) (sI (M00 M) 135 24 (nI ((gK σ).1 + 1)))
    have e135 := g2 135 (by omega)
    have e9 : ∀ v, mI (sI (M00 M) 135 24 v) 135 24 = v := fun v => rfl
    have eend : mI M' 135 24 = nI ((gK σ).1 + 1) := (e135.1 24).trans rfl
    have hI : IM M' (wNow (wK (wS σ (nI 0)) ((gK σ).1 + 1) (mkF σ)) (gN σ)) := by
      refine IM_k h0 (Fr.tr (Fr.sI (Or.inr (Or.inr rfl))) (g2.mono (fun id e => e.elim Or.inl (fun e => Or.inr (Or.inl e))))) (fun k hk => (e135.1 k).trans (if_neg (fun e => hk e.2))) (fun k => e135.2.1 k) eend (by omega) hO.1 (MS_g hO.1 (fun p hp => ?_) (fun p hp => ?_) hS) (fun i hi => ?_)
      · rw [g3, if_neg (by omega)]; rfl
      · rw [g4, if_neg (by omega)]; rfl
      · unfold mkF
        by_cases hii : i = (gK σ).1
        · rw [if_pos hii, hii]
          refine ⟨hO.1, MS_g hO.1 (fun p hp => ?_) (fun p hp => ?_) hS⟩
          · show mA M' 140 (768 * ((gK σ).1 + 1) + p) = mA (M00 M) 140 p
            rw [g3, if_pos (by omega), show 768 * 0 + (768 * ((gK σ).1 + 1) + p - 768 * ((gK σ).1 + 1)) = p from by omega]
            rfl
          · show mB M' 143 (10 * ((gK σ).1 + 1) + p) = mB (M00 M) 143 p
            rw [g4, if_pos (by omega), show 10 * 0 + (10 * ((gK σ).1 + 1) + p - 10 * ((gK σ).1 + 1)) = p from by omega]
            rfl
        · rw [if_neg hii]
          have hi2 : i < (gK σ).1 := by omega
          refine ⟨hO.2.2.1 i hi2, MS_g (hO.2.2.1 i hi2) (fun p hp => ?_) (fun p hp => ?_) (c2 i hi2)⟩
          · show mA M' 140 (768 * (i + 1) + p) = mA (M00 M) 140 (768 * (i + 1) + p)
            rw [g3, if_neg (by omega)]
            rfl
          · show mB M' 143 (10 * (i + 1) + p) = mB (M00 M) 143 (10 * (i + 1) + p)
            rw [g4, if_neg (by omega)]
            rfl
    have hne : ¬ nI (gK σ).1 = nI 3 := fun e => by have := (nI_eq (by omega) (by omega)).mp e; omega
    refine ⟨M', ?_, hI, (Lo_00.tr (Fr.sI (by decide))).tr (g2.mono (fun id e => by show 135 ≤ id; omega))⟩
    simp (disch := first | assumption | omega) only [z_bdn, z_caln, z_gdn, z_iT, z_iF, z_le_t, z_le_f, z_lt_t, z_lt_f, z_cl, z_inb, z_at, z_pl, z_lit, nI_ii1, nI_add, nI_mul, z_eq_f, z_refuse, z_no, z_M00, b2i_t, b2i_f, e24, hne, e9, g1, eend, oG]
  · rw [decide_eq_false h3]
    have h3' : (gK σ).1 = 3 := by omega
    rw [h3'] at e24
    refine ⟨_, ?_, IM_r (nI 7) h0, lo_ref Lo_00⟩
    simp (disch := first | assumption | omega) only [z_bdn, z_caln, z_gdn, z_iT, z_iF, z_le_t, z_le_f, z_lt_t, z_lt_f, z_cl, z_inb, z_at, z_pl, z_lit, nI_ii1, nI_add, nI_mul, z_eq_f, z_refuse, z_no, z_M00, b2i_t, b2i_f, e24, oG]
theorem pM_back : PM f_RM_back o_back := by
  intro M σ h
  have h0 := IM_00 h
  have hn := h.1.2.1
  have h0' := h0
  obtain ⟨hO, hS, -, -, -, ⟨c1, c2⟩, -⟩ := h0'
  have e24 : mI (M00 M) 135 24 = nI (gK σ).1 := c1
  rw [f_RM_back]
  unfold o_back
  by_cases h3 : (gK σ).1 = 0
  · rw [decide_eq_true h3]
    rw [h3] at e24
    refine ⟨_, ?_, IM_r (nI 8) h0, lo_ref Lo_00⟩
    simp (disch := first | assumption | omega) only [z_bdn, z_caln, z_gdn, z_iT, z_iF, z_le_t, z_le_f, z_lt_t, z_lt_f, z_cl, z_inb, z_at, z_pl, z_lit, nI_ii1, nI_add, nI_mul, z_eq_f, z_refuse, z_no, z_M00, b2i_t, b2i_f, e24, oG, Bool.not_true]
  · rw [decide_eq_false h3]
    obtain ⟨n, hnn⟩ : ∃ n, (gK σ).1 = n + 1 := ⟨(gK σ).1 - 1, by omega⟩
    rw [hnn] at e24 ⊢
    have c2 : ∀ i, i < n + 1 → MS (fun p => mA (M00 M) 140 (768 * (i + 1) + p)) (fun p => mB (M00 M) 143 (10 * (i + 1) + p)) ((gK σ).2 i) := fun i hi => c2 i (show i < (gK σ).1 by omega)
    have hOk : ∀ i, i < n + 1 → OkSt ((gK σ).2 i) := fun i hi => hO.2.2.1 i (show i < (gK σ).1 by omega)
    obtain ⟨M', g1, g2, g3, g4⟩ := q_copy (a := n + 1) (b := 0) (by omega) (by omega) (by omega) (M00 M)
    have e135 := g2 135 (by omega)
    have e9 : ∀ v, mI (sI M' 135 24 v) 135 24 = v := fun v => rfl
    have eend : mI M' 135 24 = nI (n + 1) := (e135.1 24).trans e24
    have hI : IM (sI M' 135 24 (nI n)) (wNow (wK (wS σ (nI 0)) n (gK σ).2) ((gK σ).2 n)) := by
      refine IM_k h0 (Fr.tr (g2.mono (fun id e => e.elim Or.inl (fun e => Or.inr (Or.inl e)))) (Fr.sI (Or.inr (Or.inr rfl)))) (fun k hk => ((if_neg (fun e => hk e.2)).trans (e135.1 k))) (fun k => e135.2.1 k) rfl (by omega) (hOk n (by omega)) (MS_g (hOk n (by omega)) (fun p hp => ?_) (fun p hp => ?_) (c2 n (by omega))) (fun i hi => ⟨hOk i (by omega), MS_g (hOk i (by omega)) (fun p hp => ?_) (fun p hp => ?_) (c2 i (by omega))⟩)
      · show mA M' 140 p = mA (M00 M) 140 (768 * (n + 1) + p)
        rw [g3, if_pos (by omega)]
        congr 1
      · show mB M' 143 p = mB (M00 M) 143 (10 * (n + 1) + p)
        rw [g4, if_pos (by omega)]
        congr 1
      · show mA M' 140 (768 * (i + 1) + p) = mA (M00 M) 140 (768 * (i + 1) + p)
        rw [g3, if_neg (by omega)]
      · show mB M' 143 (10 * (i + 1) + p) = mB (M00 M) 143 (10 * (i + 1) + p)
        rw [g4, if_neg (by omega)]
    have hne : ¬ nI (n + 1) = nI 0 := nI_ne0 (by omega) (by omega)
    refine ⟨_, ?_, hI, (Lo_00.tr (g2.mono (fun id e => by show 135 ≤ id; omega))).tr (Fr.sI (by decide))⟩
    simp (disch := first | assumption | omega) only [z_bdn, z_caln, z_gdn, z_iT, z_iF, z_le_t, z_le_f, z_lt_t, z_lt_f, z_cl, z_inb, z_at, z_pl, z_lit, nI_ii1, nI_add, nI_mul, z_eq_f, z_refuse, z_no, z_M00, b2i_t, b2i_f, e24, hne, g1, eend, z_sub, Nat.add_sub_cancel, e9, oG, Bool.not_false]
end
