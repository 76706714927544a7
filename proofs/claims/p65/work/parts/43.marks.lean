section
variable {M M' : kx_M} {σ : Sg} {x : Cl} {y : De}
def inZ (c : Nat) : Nat → Prop := fun id => c ≤ id ∧ id ≤ c + 4
theorem z_c0 : (0 : Int32).toNatClampNeg = 0 := rfl
theorem q_Dcopy {d d2 W : Nat} (hP : OkD W y) (hD : CD M d y) (ha : d2 + 7 < d ∨ d + 7 < d2) : ∃ M', f_Deal_copyFrom d2 d M = some ((), M') ∧ CD M' d2 y ∧ Fr (inDl d2) M M' := by
  obtain ⟨h1, h2, h3, h4, h5, h6, h7⟩ := hD
  have w1 := hP.1
  have w2 := hP.2.1
  have hl := hP.2.2.2.1
  have i0 : inDl d2 d2 := ⟨by omega, by omega⟩
  have i1 : inDl d2 (d2 + 1) := ⟨by omega, by omega⟩
  have i2 : inDl d2 (d2 + 2) := ⟨by omega, by omega⟩
  have i3 : inDl d2 (d2 + 3) := ⟨by omega, by omega⟩
  have i4 : inDl d2 (d2 + 4) := ⟨by omega, by omega⟩
  have i5 : inDl d2 (d2 + 5) := ⟨by omega, by omega⟩
  have i6 : inDl d2 (d2 + 6) := ⟨by omega, by omega⟩
  have i7 : inDl d2 (d2 + 7) := ⟨by omega, by omega⟩
  have a0 : ¬ d = d2 := by omega
  have e : ∀ a b, a ≤ 7 → b ≤ 7 → ¬ d + a = d2 + b := by intro a b _ _; omega
  refine ⟨_, rfl, ?_, ((((((((Fr.sI i0).tr (Fr.sI i0)).tr (Fr.sA i1)).tr (Fr.sB i2)).tr (Fr.sB i3)).tr (Fr.sA i4)).tr (Fr.sA i5)).tr (Fr.sA i6)).tr (Fr.sA i7)⟩
  have k4 : (4 : Int32).toNatClampNeg = 4 := rfl
  have k6 : (6 : Int32).toNatClampNeg = 6 := rfl
  have k30 : (30 : Int32).toNatClampNeg = 30 := rfl
  have k36 : (36 : Int32).toNatClampNeg = 36 := rfl
  have k48 : (48 : Int32).toNatClampNeg = 48 := rfl
  refine ⟨?_, ?_, fun q hq => ⟨?_, ?_⟩, fun k hk => ⟨?_, ?_⟩, fun k i hk hi => ?_, fun k i hk hi => ?_, fun v q k hv hq hk => ?_⟩
  · simp only [mI_sI, mI_sJ, mI_sA, mI_sB, mI_sR, mJ_sI, mJ_sJ, mJ_sA, mJ_sB, mJ_sR, mA_sI, mA_sJ, mA_sA, mA_sB, mA_sR, mB_sI, mB_sJ, mB_sA, mB_sB, mB_sR, mR_sI, mR_sJ, mR_sA, mR_sB, mR_sR, a0, false_and, if_false, true_and, and_self, if_true]
    try simp (disch := omega) only [reduceCtorEq, Nat.reduceEqDiff, and_false, if_false, and_self, if_true]
    exact h1
  · simp only [mI_sI, mI_sJ, mI_sA, mI_sB, mI_sR, mJ_sI, mJ_sJ, mJ_sA, mJ_sB, mJ_sR, mA_sI, mA_sJ, mA_sA, mA_sB, mA_sR, mB_sI, mB_sJ, mB_sA, mB_sB, mB_sR, mR_sI, mR_sJ, mR_sA, mR_sB, mR_sR, a0, false_and, if_false, true_and, and_self, if_true]
    try simp (disch := omega) only [reduceCtorEq, Nat.reduceEqDiff, and_false, if_false, and_self, if_true]
    exact h2
  · simp (disch := omega) only [mI_sI, mI_sJ, mI_sA, mI_sB, mI_sR, mJ_sI, mJ_sJ, mJ_sA, mJ_sB, mJ_sR, mA_sI, mA_sJ, mA_sA, mA_sB, mA_sR, mB_sI, mB_sJ, mB_sA, mB_sB, mB_sR, mR_sI, mR_sJ, mR_sA, mR_sB, mR_sR, Nat.add_left_cancel_iff, Nat.reduceEqDiff, e, if_false, if_true]
    rw [z_c0, k4, va_cpy0 _ _ (by omega)]
    exact (h3 q hq).1
  · simp (disch := omega) only [mI_sI, mI_sJ, mI_sA, mI_sB, mI_sR, mJ_sI, mJ_sJ, mJ_sA, mJ_sB, mJ_sR, mA_sI, mA_sJ, mA_sA, mA_sB, mA_sR, mB_sI, mB_sJ, mB_sA, mB_sB, mB_sR, mR_sI, mR_sJ, mR_sA, mR_sB, mR_sR, Nat.add_left_cancel_iff, Nat.reduceEqDiff, e, if_false, if_true]
    rw [z_c0, k4, va_cpy0 _ _ (by omega)]
    exact (h3 q hq).2
  · simp (disch := omega) only [mI_sI, mI_sJ, mI_sA, mI_sB, mI_sR, mJ_sI, mJ_sJ, mJ_sA, mJ_sB, mJ_sR, mA_sI, mA_sJ, mA_sA, mA_sB, mA_sR, mB_sI, mB_sJ, mB_sA, mB_sB, mB_sR, mR_sI, mR_sJ, mR_sA, mR_sB, mR_sR, Nat.add_left_cancel_iff, Nat.reduceEqDiff, e, if_false, if_true]
    rw [z_c0, k6, va_cpy0 _ _ (by omega)]
    exact (h4 k hk).1
  · simp (disch := omega) only [mI_sI, mI_sJ, mI_sA, mI_sB, mI_sR, mJ_sI, mJ_sJ, mJ_sA, mJ_sB, mJ_sR, mA_sI, mA_sJ, mA_sA, mA_sB, mA_sR, mB_sI, mB_sJ, mB_sA, mB_sB, mB_sR, mR_sI, mR_sJ, mR_sA, mR_sB, mR_sR, Nat.add_left_cancel_iff, Nat.reduceEqDiff, e, if_false, if_true]
    rw [z_c0, k6, va_cpy0 _ _ (by omega)]
    exact (h4 k hk).2
  · have := hl k hk
    simp (disch := omega) only [mI_sI, mI_sJ, mI_sA, mI_sB, mI_sR, mJ_sI, mJ_sJ, mJ_sA, mJ_sB, mJ_sR, mA_sI, mA_sJ, mA_sA, mA_sB, mA_sR, mB_sI, mB_sJ, mB_sA, mB_sB, mB_sR, mR_sI, mR_sJ, mR_sA, mR_sB, mR_sR, Nat.add_left_cancel_iff, Nat.reduceEqDiff, e, if_false, if_true]
    rw [z_c0, k30, va_cpy0 _ _ (by omega)]
    exact h5 k i hk hi
  · simp (disch := omega) only [mI_sI, mI_sJ, mI_sA, mI_sB, mI_sR, mJ_sI, mJ_sJ, mJ_sA, mJ_sB, mJ_sR, mA_sI, mA_sJ, mA_sA, mA_sB, mA_sR, mB_sI, mB_sJ, mB_sA, mB_sB, mB_sR, mR_sI, mR_sJ, mR_sA, mR_sB, mR_sR, Nat.add_left_cancel_iff, Nat.reduceEqDiff, e, if_false, if_true]
    rw [z_c0, k36, va_cpy0 _ _ (by omega)]
    exact h6 k i hk hi
  · simp (disch := omega) only [mI_sI, mI_sJ, mI_sA, mI_sB, mI_sR, mJ_sI, mJ_sJ, mJ_sA, mJ_sB, mJ_sR, mA_sI, mA_sJ, mA_sA, mA_sB, mA_sR, mB_sI, mB_sJ, mB_sA, mB_sB, mB_sR, mR_sI, mR_sJ, mR_sA, mR_sB, mR_sR, Nat.add_left_cancel_iff, Nat.reduceEqDiff, e, if_false, if_true]
    rw [z_c0, k48, va_cpy0 _ _ (by omega)]
    exact h7 v q k hv hq hk
theorem q_Zcopy {c c2 W C : Nat} {z : Sc} (hz : CZ M c W C z) (ha : c2 + 4 < c ∨ c + 4 < c2) : ∃ M', f_Script_copyFrom c2 c M = some ((), M') ∧ CZ M' c2 W C z ∧ Fr (inZ c2) M M' := by
  obtain ⟨h1, h2⟩ := hz
  have i0 : inZ c2 c2 := ⟨by omega, by omega⟩
  have i1 : inZ c2 (c2 + 1) := ⟨by omega, by omega⟩
  have i2 : inZ c2 (c2 + 2) := ⟨by omega, by omega⟩
  have i3 : inZ c2 (c2 + 3) := ⟨by omega, by omega⟩
  have i4 : inZ c2 (c2 + 4) := ⟨by omega, by omega⟩
  have a0 : ¬ c = c2 := by omega
  have e : ∀ a b, a ≤ 4 → b ≤ 4 → ¬ c + a = c2 + b := by intro a b _ _; omega
  have hb : b01 (mI M c 4) = true := by rw [h1]; exact z_b01 _
  have k60 : (60 : Int32).toNatClampNeg = 60 := rfl
  refine ⟨sA (sA (sA (sA (sI (sI (sI M c2 4 (mI M c 4)) c2 5 (mI M c 5)) c2 6 (mI M c 6)) (c2 + 1) (va_cpy (mA M (c + 1)) (mA M (c2 + 1)) 0 0 60)) (c2 + 2) (va_cpy (mA M (c + 2)) (mA M (c2 + 2)) 0 0 60)) (c2 + 3) (va_cpy (mA M (c + 3)) (mA M (c2 + 3)) 0 0 60)) (c2 + 4) (va_cpy (mA M (c + 4)) (mA M (c2 + 4)) 0 0 60), ?_, ?_, ((((((Fr.sI i0).tr (Fr.sI i0)).tr (Fr.sI i0)).tr (Fr.sA i1)).tr (Fr.sA i2)).tr (Fr.sA i3)).tr (Fr.sA i4)⟩
  · rw [f_Script_copyFrom, hb]
    simp only [z_gdn, z_bdn, z_c0, k60]
    simp (disch := omega) only [mI_sI, mI_sJ, mI_sA, mI_sB, mI_sR, mJ_sI, mJ_sJ, mJ_sA, mJ_sB, mJ_sR, mA_sI, mA_sJ, mA_sA, mA_sB, mA_sR, mB_sI, mB_sJ, mB_sA, mB_sB, mB_sR, mR_sI, mR_sJ, mR_sA, mR_sB, mR_sR, Nat.add_left_cancel_iff, Nat.reduceEqDiff, e, a0, if_false, if_true, false_and]
  · refine ⟨?_, fun ht => ?_⟩
    · simp only [mI_sI, mI_sJ, mI_sA, mI_sB, mI_sR, mJ_sI, mJ_sJ, mJ_sA, mJ_sB, mJ_sR, mA_sI, mA_sJ, mA_sA, mA_sB, mA_sR, mB_sI, mB_sJ, mB_sA, mB_sB, mB_sR, mR_sI, mR_sJ, mR_sA, mR_sB, mR_sR, true_and, and_self, if_true]
      try simp (disch := omega) only [reduceCtorEq, Nat.reduceEqDiff, and_false, if_false, and_self, if_true]
      exact h1
    · obtain ⟨b1, E, b2, b3, b4⟩ := h2 ht
      refine ⟨?_, E, b2, ?_, ?_⟩
      · simp only [mI_sI, mI_sJ, mI_sA, mI_sB, mI_sR, mJ_sI, mJ_sJ, mJ_sA, mJ_sB, mJ_sR, mA_sI, mA_sJ, mA_sA, mA_sB, mA_sR, mB_sI, mB_sJ, mB_sA, mB_sB, mB_sR, mR_sI, mR_sJ, mR_sA, mR_sB, mR_sR, true_and, and_self, if_true]
        try simp (disch := omega) only [reduceCtorEq, Nat.reduceEqDiff, and_false, if_false, and_self, if_true]
        exact b1
      · simp only [mI_sI, mI_sJ, mI_sA, mI_sB, mI_sR, mJ_sI, mJ_sJ, mJ_sA, mJ_sB, mJ_sR, mA_sI, mA_sJ, mA_sA, mA_sB, mA_sR, mB_sI, mB_sJ, mB_sA, mB_sB, mB_sR, mR_sI, mR_sJ, mR_sA, mR_sB, mR_sR, true_and, and_self, if_true]
        try simp (disch := omega) only [reduceCtorEq, Nat.reduceEqDiff, and_false, if_false, and_self, if_true]
        exact b3
      · refine Ser_congr (Q := 60) (fun k hk => ?_) 70 0 z.2.1 0 E b2 b4
        simp (disch := omega) only [mI_sI, mI_sJ, mI_sA, mI_sB, mI_sR, mJ_sI, mJ_sJ, mJ_sA, mJ_sB, mJ_sR, mA_sI, mA_sJ, mA_sA, mA_sB, mA_sR, mB_sI, mB_sJ, mB_sA, mB_sB, mB_sR, mR_sI, mR_sJ, mR_sA, mR_sB, mR_sR, Nat.add_left_cancel_iff, Nat.reduceEqDiff, if_false, if_true]
        rw [va_cpy0 _ _ hk, va_cpy0 _ _ hk, va_cpy0 _ _ hk, va_cpy0 _ _ hk]
        exact ⟨rfl, rfl, rfl, rfl⟩
theorem q_Scopy {s s2 : Nat} {u : St} (hu : OkSt u) (hS : CS M s u) (ha : s2 + 19 < s ∨ s + 19 < s2) : ∃ M', f_State_copyFrom s2 s M = some ((), M') ∧ CS M' s2 u ∧ Fr (fun id => s2 ≤ id ∧ id ≤ s2 + 19) M M' := by
  obtain ⟨hC, hD, hZ⟩ := hS
  obtain ⟨M1, a1, a2, a3⟩ := q_Dcopy (d2 := s2 + 1) hu.2.2.1 hD (by omega)
  obtain ⟨M2, b1, b2, b3⟩ := q_Ccopy (c2 := s2 + 9) hu.1 (CC_fr a3 (fun id h1 h2 e => by have := e.1; have := e.2; omega) hC) (by omega)
  obtain ⟨M3, c1, c2, c3⟩ := q_Zcopy (c2 := s2 + 15) (CZ_fr b3 (fun id h1 h2 e => by have := e.1; have := e.2; omega) (CZ_fr a3 (fun id h1 h2 e => by have := e.1; have := e.2; omega) hZ)) (by omega)
  refine ⟨M3, ?_, ⟨CC_fr c3 (fun id h1 h2 e => by have := e.1; omega) b2, CD_fr c3 (fun id h1 h2 e => by have := e.1; omega) (CD_fr b3 (fun id h1 h2 e => by have := e.1; omega) a2), c2⟩, ((a3.mono (fun id e => by have := e.1; have := e.2; omega)).tr (b3.mono (fun id e => by have := e.1; have := e.2; omega))).tr (c3.mono (fun id e => by have := e.1; have := e.2; omega))⟩
  rw [f_State_copyFrom, a1]
  simp only [z_caln, b1, c1]
/-- the number of the marks is written -/
theorem IC_k {n : Nat} {f : Nat → St} (hI : IC M σ) (hn : n ≤ 3) (hf : ∀ i, i < n → OkSt (f i) ∧ CS M (20 * i + 75) (f i)) : IC (sI M 0 12 (nI n)) (wK σ n f) := by
  obtain ⟨hO, s, t1, hK, hS, ⟨a1, a2, a3, a4, a5⟩, hT, ⟨b1, b2⟩, -, ⟨d1, d2⟩, hk, hw⟩ := hI
  have ha := hK.ap
  have hF : Fr (fun id => id = 0) M (sI M 0 12 (nI n)) := Fr.sI rfl
  refine ⟨⟨hO.1, hn, fun i hi => (hf i hi).1, hO.2.2.2⟩, s, t1, hK, CS_fr hF (fun id h1 h2 e => by omega) hS, ⟨?_, a2, a3, ?_, ?_⟩, fun q hq => CT_fr hF (by omega) (by omega) (hT q hq), ⟨?_, b2⟩, ⟨?_, fun i hi => CS_fr hF (fun id h1 h2 e => by omega) (hf i hi).2⟩, ⟨?_, ?_⟩, hk, hw⟩
  · rw [mI_sI, if_neg (by decide)]; exact a1
  · rw [mI_sI, if_neg (by decide)]; exact a4
  · rw [mI_sI, if_neg (by decide)]; exact a5
  · rw [mI_sI, if_neg (by decide)]; exact b1
  · rw [mI_sI, if_pos ⟨rfl, rfl⟩]; rfl
  · rw [mI_sI, if_neg (by decide)]; exact d1
  · exact d2
/-- a kept place that is not among the marks -/
theorem IC_kf {n : Nat} (hI : IC M σ) (hn : (gK σ).1 ≤ n) (h3 : n < 3) (hF : Fr (fun id => 20 * n + 75 ≤ id ∧ id ≤ 20 * n + 94) M M') : IC M' σ := by
  obtain ⟨hO, s, t1, hK, hS, ⟨a1, a2, a3, a4, a5⟩, hT, ⟨b1, b2⟩, ⟨c1, c2⟩, ⟨d1, d2⟩, hk, hw⟩ := hI
  have ha := hK.ap
  obtain ⟨f0, j0, -, -, r0⟩ := hF 0 (by omega)
  refine ⟨hO, s, t1, hK.fr hF (by omega), CS_fr hF (fun id h1 h2 e => by omega) hS, ⟨?_, ?_, ?_, ?_, ?_⟩, fun q hq => CT_fr hF (by omega) (by omega) (hT q hq), ⟨?_, ?_⟩, ⟨?_, fun i hi => CS_fr hF (fun id h1 h2 e => by omega) (c2 i hi)⟩, ⟨?_, ?_⟩, ?_, ?_⟩
  · rw [f0]; exact a1
  · rw [j0]; exact a2
  · rw [j0]; exact a3
  · rw [f0]; exact a4
  · rw [f0]; exact a5
  · rw [f0]; exact b1
  · rw [(hF 2 (by omega)).2.2.1]; exact b2
  · rw [f0]; exact c1
  · rw [f0]; exact d1
  · obtain ⟨f, -, -, -, -⟩ := hF 23 (by omega)
    rw [f, f, f, f, f]; exact d2
  · rw [(hF 6 (by omega)).2.2.2.1, (hF 10 (by omega)).2.2.2.1]; exact hk
  · obtain ⟨-, -, -, -, r⟩ := hF 13 (by omega)
    rw [r, r]; exact hw
def mkF (σ : Sg) (i : Nat) : St := if i = (gK σ).1 then gN σ else (gK σ).2 i
def o_mark (σ : Sg) : Int32 × Sg := oG (decide ((gK σ).1 < 3)) 7 (nI ((gK σ).1 + 1), wK (wS σ (nI 0)) ((gK σ).1 + 1) (mkF σ)) σ
def o_back (σ : Sg) : Int32 × Sg := oG (!decide ((gK σ).1 = 0)) 8 (nI ((gK σ).1 - 1), wNow (wK (wS σ (nI 0)) ((gK σ).1 - 1) (gK σ).2) ((gK σ).2 ((gK σ).1 - 1))) σ
theorem pC_mark : PC f_KT_mark o_mark := by
  intro M σ h
  have hn := h.1.2.1
  have e12 : mI M 0 12 = nI (gK σ).1 := by
    obtain ⟨-, s, t, -, -, -, -, -, ⟨c1, -⟩, -⟩ := h
    exact c1
  rw [f_KT_mark]
  unfold o_mark
  by_cases h3 : (gK σ).1 < 3
  · rw [decide_eq_true h3]
    have h1 := IC_st (nI 0) h
    have h1' := h1
    obtain ⟨hO, s, t, hK, hS, -, -, -, ⟨c1, c2⟩, -⟩ := h1'
    have ap := hK.ap
    obtain ⟨M1, b1, b2, b3⟩ := q_Scopy (s2 := 20 * (gK σ).1 + 75) hO.1 hS (by omega)
    have h2 : IC M1 (wS σ (nI 0)) := IC_kf (n := (gK σ).1) h1 (Nat.le_refl _) h3 (b3.mono (fun id e => ⟨e.1, by have := e.2; omega⟩))
    have e12' : mI M1 0 12 = nI (gK σ).1 := by
      obtain ⟨-, s, t, -, -, -, -, -, ⟨c1, -⟩, -⟩ := h2
      exact c1
    have h2' := h2
    obtain ⟨-, -, -, -, -, -, -, -, ⟨-, c3⟩, -⟩ := h2'
    have hI := IC_k (n := (gK σ).1 + 1) (f := mkF σ) h2 (by omega) (fun i hi => by
      unfold mkF
      by_cases hii : i = (gK σ).1
      · rw [if_pos hii, hii]
        exact ⟨hO.1, b2⟩
      · rw [if_neg hii]
        exact ⟨hO.2.2.1 i (show i < (gK σ).1 by omega), c3 i (show i < (gK σ).1 by omega)⟩)
    have e9 : ∀ v, mI (sI M1 0 12 v) 0 12 = v := fun v => rfl
    have e8 : mI (sI M 0 13 (nI 0)) 0 12 = nI (gK σ).1 := c1
    refine ⟨_, ?_, hI, (Hi_st.tr (b3.mono (fun id e => by have := e.2; show id < 135; omega))).tr (Fr.sI (by decide))⟩
    simp (disch := first | assumption | omega) only [z_bdn, z_caln, z_gdn, z_iT, z_iF, z_le_t, z_le_f, z_lt_t, z_lt_f, z_cl, z_inb, z_at, z_lit, nI_ii1, nI_add, z_mr, z_ref0, z_refn, z_eq_f, Bool.not_true, Bool.not_false, b2i_t, b2i_f, e12, f_KT_mark_l15, e8, hK.1, hK.s1, b1, e12', e9, oG]
  · rw [decide_eq_false h3]
    refine ⟨_, ?_, IC_st (nI 7) h, Hi_st⟩
    simp (disch := first | assumption | omega) only [z_bdn, z_caln, z_gdn, z_iT, z_iF, z_le_t, z_le_f, z_lt_t, z_lt_f, z_cl, z_inb, z_at, z_lit, nI_ii1, nI_add, z_mr, z_ref0, z_refn, z_eq_f, Bool.not_true, Bool.not_false, b2i_t, b2i_f, e12, f_KT_mark_l15, oG]
theorem pC_back : PC f_KT_back o_back := by
  intro M σ h
  have hn := h.1.2.1
  have e12 : mI M 0 12 = nI (gK σ).1 := by
    obtain ⟨-, s, t, -, -, -, -, -, ⟨c1, -⟩, -⟩ := h
    exact c1
  rw [f_KT_back]
  unfold o_back
  by_cases h3 : (gK σ).1 = 0
  · rw [decide_eq_true h3]
    refine ⟨_, ?_, IC_st (nI 8) h, Hi_st⟩
    simp (disch := first | assumption | omega) only [z_bdn, z_caln, z_gdn, z_iT, z_iF, z_le_t, z_le_f, z_lt_t, z_lt_f, z_cl, z_inb, z_at, z_lit, nI_ii1, nI_add, z_mr, z_ref0, z_refn, z_eq_f, Bool.not_true, Bool.not_false, b2i_t, b2i_f, e12, h3, f_KT_back_l14, oG]
  · rw [decide_eq_false h3]
    have h1 := IC_st (nI 0) h
    have h1' := h1
    obtain ⟨hO, -, -, -, -, -, -, -, ⟨c1, c2⟩, -⟩ := h1'
    have hI := IC_k (n := (gK σ).1 - 1) (f := (gK σ).2) h1 (by omega) (fun i hi => ⟨hO.2.2.1 i (show i < (gK σ).1 by omega), c2 i (show i < (gK σ).1 by omega)⟩)
    have hF0 : Fr (fun id => id = 0) (sI M 0 13 (nI 0)) (sI (sI M 0 13 (nI 0)) 0 12 (nI ((gK σ).1 - 1))) := Fr.sI rfl
    have hI' := hI
    obtain ⟨-, s, t, hK, -⟩ := hI'
    have ap := hK.ap
    have hSk := CS_fr hF0 (fun id h1 h2 e => by omega) (c2 ((gK σ).1 - 1) (show (gK σ).1 - 1 < (gK σ).1 by omega))
    have hOk := hO.2.2.1 ((gK σ).1 - 1) (show (gK σ).1 - 1 < (gK σ).1 by omega)
    obtain ⟨M1, b1, b2, b3⟩ := q_Scopy (s2 := s) hOk hSk (by omega)
    have e9 : mI (sI (sI M 0 13 (nI 0)) 0 12 (nI ((gK σ).1 - 1))) 0 12 = nI ((gK σ).1 - 1) := rfl
    have e10 : mI M1 0 12 = nI ((gK σ).1 - 1) := ((b3 0 (by omega)).1 12).trans e9
    have e8 : mI (sI M 0 13 (nI 0)) 0 12 = nI (gK σ).1 := c1
    have hne : ¬ nI (gK σ).1 = nI 0 := nI_ne0 (by omega) (by omega)
    refine ⟨M1, ?_, IC_now hI hK b3 b2 hOk, (Hi_st.tr (Fr.sI (by decide))).tr (b3.mono (fun id e => by have := e.2; show id < 135; omega))⟩
    have b1' : f_State_copyFrom s (20 * ((gK σ).1 - 1) + 75) (sI (sI M 0 13 (nI 0)) 0 12 (nI ((gK σ).1 - 1))) = some ((), M1) := b1
    simp (disch := first | assumption | omega) only [z_bdn, z_caln, z_gdn, z_iT, z_iF, z_le_t, z_le_f, z_lt_t, z_lt_f, z_cl, z_inb, z_at, z_lit, nI_ii1, nI_add, z_mr, z_ref0, z_refn, z_eq_f, Bool.not_true, Bool.not_false, b2i_t, b2i_f, e12, hne, f_KT_back_l14, e8, z_sub, e9, hK.1, hK.s1, b1', e10, oG]
end
