def TkB (t : Tok) : Prop := kS t ≤ 4 ∧ (kS t = 2 → kV t ≤ 27) ∧ (kS t = 3 → kV t ≤ 9999) ∧ kA t ≤ 900 ∧ kP t ≤ 900 ∧ (kS t = 4 → kV t ≤ 255) ∧ (kS t = 2 → kV t ≠ 27 → kW t < 1099511627776)
def ErC (r : Nat) (M' : kx_M) (e : Er) : Prop := mI M' r 10 = nI e.1 ∧ mI M' r 11 = nI e.2
section
variable {M M' : kx_M} {T : Nat → Nat} {n r : Nat} {t : Tok}
theorem nmF_lt {p : Nat} : ∀ m, (∀ i, i < m → isDg (T (p + i)) = true) → nmF T m p 0 < 10 ^ m
  | 0, _ => Nat.one_pos
  | m + 1, h => by
    rw [nmF_app, Nat.pow_succ]
    have h1 := of_decide_eq_true (h m (by omega))
    have h2 := nmF_lt m (fun i hi => h i (by omega))
    have : (nmF T m p 0 + 1) * 10 ≤ 10 ^ m * 10 := Nat.mul_le_mul_right 10 h2
    omega
theorem sp_all {q : Nat → Bool} : ∀ m a, a + m = n → ∀ i, a ≤ i → i < spP q T n a → q (T i) = true := by
  intro m
  induction m with
  | zero => intro a ha i h1 h2; rw [sp_stop (Or.inl (by omega))] at h2; omega
  | succ m ih =>
    intro a ha i h1 h2
    cases hl : q (T a) with
    | false => rw [sp_stop (Or.inr hl)] at h2; omega
    | true =>
      rw [sp_go (by omega) hl] at h2
      by_cases he : i = a
      · rw [he]; exact hl
      · exact ih (a + 1) (by omega) i (by omega) h2
theorem TkB_nxt {a : Nat} (ha : a ≤ n) (hn : n ≤ 900) (hT : ∀ i, i < n → T i ≤ 255) : TkB (nxt T n a) := by
  obtain ⟨b1, b2, b3, b4, b5, b6, b7⟩ := nxt_bd (T := T) ha
  refine ⟨b6, b7, ?_, by omega, by omega, ?_, ?_⟩
  · intro h3
    obtain ⟨h1, h2⟩ := sp_bd (p := isBl) (T := T) ha
    unfold nxt at h3 ⊢
    generalize spP isBl T n a = p at *
    unfold nxtP at h3 ⊢
    by_cases c1 : n ≤ p
    · rw [if_pos c1] at h3; cases h3
    · rw [if_neg c1] at h3 ⊢
      by_cases c2 : isLt (T p) = true
      · rw [if_pos c2] at h3; cases h3
      · rw [if_neg c2] at h3 ⊢
        by_cases c3 : isDg (T p) = true
        · rw [if_pos c3] at h3 ⊢
          have h3 : (if 4 < spP isDg T n p - p then 1 else 3) = 3 := h3
          have h4 : ¬ 4 < spP isDg T n p - p := fun h => by rw [if_pos h] at h3; omega
          have h5 := nmF_lt (T := T) (p := p) (spP isDg T n p - p) (fun i hi => sp_all (n := n) (n - p) p (by omega) (p + i) (by omega) (by omega))
          have h6 : 10 ^ (spP isDg T n p - p) ≤ 10 ^ 4 := Nat.pow_le_pow_right (by omega) (by omega)
          have h7 : (10 : Nat) ^ 4 = 10000 := by decide
          show nmF T (spP isDg T n p - p) p 0 ≤ 9999
          omega
        · rw [if_neg c3] at h3
          have h3 : (if isSg (T p) = true then 4 else 1) = 3 := h3
          split at h3 <;> omega
  · intro h3
    obtain ⟨h1, h2⟩ := sp_bd (p := isBl) (T := T) ha
    unfold nxt at h3 ⊢
    generalize spP isBl T n a = p at *
    unfold nxtP at h3 ⊢
    by_cases c1 : n ≤ p
    · rw [if_pos c1] at h3; cases h3
    · rw [if_neg c1] at h3 ⊢
      by_cases c2 : isLt (T p) = true
      · rw [if_pos c2] at h3; cases h3
      · rw [if_neg c2] at h3 ⊢
        by_cases c3 : isDg (T p) = true
        · rw [if_pos c3] at h3
          have h3 : (if 4 < spP isDg T n p - p then 1 else 3) = 4 := h3
          split at h3 <;> omega
        · rw [if_neg c3]
          exact hT p (by omega)
  · intro h3 h27
    obtain ⟨h1, h2⟩ := sp_bd (p := isBl) (T := T) ha
    unfold nxt at h3 h27 ⊢
    generalize spP isBl T n a = p at *
    unfold nxtP at h3 h27 ⊢
    by_cases c1 : n ≤ p
    · rw [if_pos c1] at h3; cases h3
    · rw [if_neg c1] at h3 h27 ⊢
      by_cases c2 : isLt (T p) = true
      · rw [if_pos c2] at h27 ⊢
        have h8 : spP isLt T n p - p ≤ 8 := by
          refine Nat.le_of_not_lt (fun h => h27 ?_)
          show (if 8 < spP isLt T n p - p then 27 else _) = 27
          rw [if_pos h]
        have g1 := wdF_lt (T := T) (n := n) (p := p) (spP isLt T n p - p) (fun i hi => sp_all (n := n) (n - p) p (by omega) (p + i) (by omega) (by omega))
        have g2 : 32 ^ (spP isLt T n p - p) ≤ 32 ^ 8 := Nat.pow_le_pow_right (by omega) h8
        have g3 : (32 : Nat) ^ 8 = 1099511627776 := by decide
        show wdF T (spP isLt T n p - p) p 0 < _
        omega
      · rw [if_neg c2] at h3
        by_cases c3 : isDg (T p) = true
        · rw [if_pos c3] at h3
          have h3 : (if 4 < spP isDg T n p - p then 1 else 3) = 2 := h3
          split at h3 <;> omega
        · rw [if_neg c3] at h3
          have h3 : (if isSg (T p) = true then 4 else 1) = 2 := h3
          split at h3 <;> omega
theorem TkB_x (hX : TxC M r T n) (h : kA t ≤ n) : TkB (nx T n t) := TkB_nxt h hX.2.2.1 (fun i hi => (hX.2.2.2.1 i hi).2)
theorem z_key {k : Nat} (hT : TkC M r t) (hB : TkB t) (hk : k < 100) : (mI M r 6 = nI k) = (isK t k = true) := by
  rw [hT.2.2.2.1]
  have h27 := hB.2.1
  unfold isK
  rw [decide_eq_true_iff]
  by_cases h2 : kS t = 2
  · rw [if_pos h2, z_eq (by have := h27 h2; omega) (by omega)]
    exact propext ⟨fun e => ⟨h2, e⟩, fun e => e.2⟩
  · rw [if_neg h2]
    refine propext ⟨fun e => ?_, fun e => absurd e.1 h2⟩
    have : (nI k = -nI 1) = False := z_nneg (by omega)
    exact (Eq.mp this e.symm).elim
theorem q_fail {k : Nat} (hT : TkC M r t) (hB : TkB t) : ∃ M', f_Reader_fail r (nI k) M = some (nI 0, M') ∧ ErC r M' (flt t k) ∧ FrR r M M' := by
  have e5 := hT.2.2.1
  have e4 := hT.2.1
  have hs := hB.1
  rw [f_Reader_fail]
  unfold flt
  have s4 : ∀ v, mI (sI M r 10 v) r 4 = nI (kP t) := fun v => by rw [m_same]; exact e4
  have hE : ∀ v, ErC r (sI (sI M r 10 (nI v)) r 11 (nI (kP t))) (v, kP t) := fun v => ⟨by rw [m_same, m_same]; rfl, by rw [m_same]; rfl⟩
  have hF : ∀ v, FrR r M (sI (sI M r 10 v) r 11 (nI (kP t))) := fun v => (FrR.I (by omega)).tr (FrR.I (by omega))
  by_cases h1 : kS t = 1
  · rw [if_pos h1]
    have z : (nI (kS t) = nI 1) = True := eq_true (by rw [h1])
    refine ⟨_, ?_, hE 1, hF _⟩
    simp (disch := first | assumption | omega) only [z_bdn, z_caln, z_gdn, z_iT, z_iF, z_le_t, z_le_f, z_lt_t, z_lt_f, z_cl, z_inb, z_at, z_lit, nI_ii1, nI_add, z_mr, z_ref0, z_refn, z_eq_f, Bool.not_true, Bool.not_false, b2i_t, b2i_f, e5, z, s4]
  · rw [if_neg h1]
    have z : (nI (kS t) = nI 1) = False := z_eq_f h1 (by omega) (by omega)
    refine ⟨_, ?_, hE k, hF _⟩
    simp (disch := first | assumption | omega) only [z_bdn, z_caln, z_gdn, z_iT, z_iF, z_le_t, z_le_f, z_lt_t, z_lt_f, z_cl, z_inb, z_at, z_lit, nI_ii1, nI_add, z_mr, z_ref0, z_refn, z_eq_f, Bool.not_true, Bool.not_false, b2i_t, b2i_f, e5, z, s4]
theorem q_takeSign {c : Nat} (hr : r + 1 ≠ 2 ∧ r ≠ 2) (hX : TxC M r T n) (hT : TkC M r t) (hB : TkB t) (ha : kA t ≤ n) (hc : c < 256) : match pSig T n c t with | .ok t1 => ∃ M', f_Reader_takeSign r (nI c) M = some (nI 1, M') ∧ TkC M' r t1 ∧ FrR r M M' ∧ t1 = nx T n t | .error e => ∃ M', f_Reader_takeSign r (nI c) M = some (nI 0, M') ∧ ErC r M' e ∧ FrR r M M' := by
  have e5 := hT.2.2.1
  have hs := hB.1
  have b0 : b01 (nI 0) = true := by decide
  obtain ⟨Mf, f1, f2, f3⟩ := q_fail (k := 2) hT hB
  unfold pSig
  by_cases h4 : kS t = 4
  · have z : (nI (kS t) = nI 4) = True := eq_true (by rw [h4])
    have e9 := hT.2.2.2.2.2.2 h4
    have hv := hB.2.2.2.2.2.1 h4
    by_cases hcc : kV t = c
    · rw [if_pos ⟨h4, hcc⟩]
      have z2 : (nI (kV t) = nI c) = True := eq_true (by rw [hcc])
      obtain ⟨M1, a1, a2, a3⟩ := q_next hr hX ha hT.1
      refine ⟨M1, ?_, a2, a3, rfl⟩
      rw [f_Reader_takeSign]
      simp (disch := first | assumption | omega) only [z_bdn, z_caln, z_gdn, z_iT, z_iF, z_le_t, z_le_f, z_lt_t, z_lt_f, z_cl, z_inb, z_at, z_lit, nI_ii1, nI_add, z_mr, z_ref0, z_refn, z_eq_f, Bool.not_true, Bool.not_false, b2i_t, b2i_f, e5, z, e9, z2, a1]
    · rw [if_neg (fun h => hcc h.2)]
      have z2 : (nI (kV t) = nI c) = False := z_eq_f hcc (by omega) (by omega)
      refine ⟨Mf, ?_, f2, f3⟩
      rw [f_Reader_takeSign]
      simp (disch := first | assumption | omega) only [z_bdn, z_caln, z_gdn, z_iT, z_iF, z_le_t, z_le_f, z_lt_t, z_lt_f, z_cl, z_inb, z_at, z_lit, nI_ii1, nI_add, z_mr, z_ref0, z_refn, z_eq_f, Bool.not_true, Bool.not_false, b2i_t, b2i_f, e5, z, e9, z2, f1, b0]
  · rw [if_neg (fun h => h4 h.1)]
    have z : (nI (kS t) = nI 4) = False := z_eq_f h4 (by omega) (by omega)
    refine ⟨Mf, ?_, f2, f3⟩
    rw [f_Reader_takeSign]
    simp (disch := first | assumption | omega) only [z_bdn, z_caln, z_gdn, z_iT, z_iF, z_le_t, z_le_f, z_lt_t, z_lt_f, z_cl, z_inb, z_at, z_lit, nI_ii1, nI_add, z_mr, z_ref0, z_refn, z_eq_f, Bool.not_true, Bool.not_false, b2i_t, b2i_f, e5, z, f1, b0]
theorem q_takeWord {k : Nat} (hr : r + 1 ≠ 2 ∧ r ≠ 2) (hX : TxC M r T n) (hT : TkC M r t) (hB : TkB t) (ha : kA t ≤ n) (hk : k < 100) : if isK t k = true then (∃ M', f_Reader_takeWord r (nI k) M = some (nI 1, M') ∧ TkC M' r (nx T n t) ∧ FrR r M M') else (∃ M', f_Reader_takeWord r (nI k) M = some (nI 0, M') ∧ ErC r M' (flt t 2) ∧ FrR r M M') := by
  have z := z_key hT hB hk
  have b0 : b01 (nI 0) = true := by decide
  by_cases hh : isK t k = true
  · rw [if_pos hh]
    rw [eq_true hh] at z
    obtain ⟨M1, a1, a2, a3⟩ := q_next hr hX ha hT.1
    refine ⟨M1, ?_, a2, a3⟩
    rw [f_Reader_takeWord]
    simp (disch := first | assumption | omega) only [z_bdn, z_caln, z_gdn, z_iT, z_iF, z_le_t, z_le_f, z_lt_t, z_lt_f, z_cl, z_inb, z_at, z_lit, nI_ii1, nI_add, z_mr, z_ref0, z_refn, z_eq_f, Bool.not_true, Bool.not_false, b2i_t, b2i_f, z, a1]
  · rw [if_neg hh]
    rw [eq_false hh] at z
    obtain ⟨Mf, f1, f2, f3⟩ := q_fail (k := 2) hT hB
    refine ⟨Mf, ?_, f2, f3⟩
    rw [f_Reader_takeWord]
    simp (disch := first | assumption | omega) only [z_bdn, z_caln, z_gdn, z_iT, z_iF, z_le_t, z_le_f, z_lt_t, z_lt_f, z_cl, z_inb, z_at, z_lit, nI_ii1, nI_add, z_mr, z_ref0, z_refn, z_eq_f, Bool.not_true, Bool.not_false, b2i_t, b2i_f, z, f1, b0]
theorem q_atNumber {lo hi : Nat} (hT : TkC M r t) (hB : TkB t) (hlo : lo < 10000) (hhi : hi < 10000) : match pNum lo hi t with | .ok v => f_Reader_atNumber r (nI lo) (nI hi) M = some (nI 1, M) ∧ mI M r 8 = nI v | .error e => ∃ M', f_Reader_atNumber r (nI lo) (nI hi) M = some (nI 0, M') ∧ ErC r M' e ∧ FrR r M M' := by
  have e5 := hT.2.2.1
  have hs := hB.1
  have b0 : b01 (nI 0) = true := by decide
  unfold pNum
  by_cases h3 : kS t = 3
  · rw [if_pos h3]
    have z : (nI (kS t) = nI 3) = True := eq_true (by rw [h3])
    have e8 := hT.2.2.2.2.2.1 h3
    have hv := hB.2.2.1 h3
    by_cases hh : lo ≤ kV t ∧ kV t ≤ hi
    · rw [if_pos hh]
      refine ⟨?_, e8⟩
      obtain ⟨h1, h2⟩ := hh
      rw [f_Reader_atNumber]
      simp (disch := first | assumption | omega) only [z_bdn, z_caln, z_gdn, z_iT, z_iF, z_le_t, z_le_f, z_lt_t, z_lt_f, z_cl, z_inb, z_at, z_lit, nI_ii1, nI_add, z_mr, z_ref0, z_refn, z_eq_f, Bool.not_true, Bool.not_false, b2i_t, b2i_f, e5, z, e8]
    · rw [if_neg hh]
      obtain ⟨Mf, f1, f2, f3⟩ := q_fail (k := 4) hT hB
      refine ⟨Mf, ?_, f2, f3⟩
      rw [f_Reader_atNumber]
      by_cases h1 : kV t < lo
      · simp (disch := first | assumption | omega) only [z_bdn, z_caln, z_gdn, z_iT, z_iF, z_le_t, z_le_f, z_lt_t, z_lt_f, z_cl, z_inb, z_at, z_lit, nI_ii1, nI_add, z_mr, z_ref0, z_refn, z_eq_f, Bool.not_true, Bool.not_false, b2i_t, b2i_f, e5, z, e8, f1, b0]
      · have h2 : hi < kV t := by omega
        simp (disch := first | assumption | omega) only [z_bdn, z_caln, z_gdn, z_iT, z_iF, z_le_t, z_le_f, z_lt_t, z_lt_f, z_cl, z_inb, z_at, z_lit, nI_ii1, nI_add, z_mr, z_ref0, z_refn, z_eq_f, Bool.not_true, Bool.not_false, b2i_t, b2i_f, e5, z, e8, f1, b0]
  · rw [if_neg h3]
    have z : (nI (kS t) = nI 3) = False := z_eq_f h3 (by omega) (by omega)
    obtain ⟨Mf, f1, f2, f3⟩ := q_fail (k := 2) hT hB
    refine ⟨Mf, ?_, f2, f3⟩
    rw [f_Reader_atNumber]
    simp (disch := first | assumption | omega) only [z_bdn, z_caln, z_gdn, z_iT, z_iF, z_le_t, z_le_f, z_lt_t, z_lt_f, z_cl, z_inb, z_at, z_lit, nI_ii1, nI_add, z_mr, z_ref0, z_refn, z_eq_f, Bool.not_true, Bool.not_false, b2i_t, b2i_f, e5, z, f1, b0]
theorem kdK_is {v : Nat} (h2 : kS t = 2) (h1 : 10 ≤ kV t) (h3 : kV t < 14) : kdK t = some (kV t - 10) := by
  cases h : kdK t with
  | none => exact absurd ⟨h2, h1, h3⟩ (kdK_none h)
  | some u =>
    have := kdK_some h
    rw [show kV t - 10 = u by omega]
theorem q_atKind (hT : TkC M r t) (hB : TkB t) : f_Reader_atKind r M = some (b2i (kdK t).isSome, M) ∧ ∀ v, kdK t = some v → mI M r 6 - nI 10 = nI v := by
  have e6 := hT.2.2.2.1
  have h27 := hB.2.1
  constructor
  · rw [f_Reader_atKind]
    by_cases h2 : kS t = 2
    · rw [if_pos h2] at e6
      have := h27 h2
      by_cases hk : 10 ≤ kV t ∧ kV t < 14
      · rw [kdK_is (v := 0) h2 hk.1 hk.2]
        obtain ⟨k1, k2⟩ := hk
        simp (disch := first | assumption | omega) only [z_bdn, z_caln, z_gdn, z_iT, z_iF, z_le_t, z_le_f, z_lt_t, z_lt_f, z_cl, z_inb, z_at, z_lit, nI_ii1, nI_add, z_mr, z_ref0, z_refn, z_eq_f, Bool.not_true, Bool.not_false, b2i_t, b2i_f, e6]
        rfl
      · have hn : kdK t = none := by
          cases h : kdK t with
          | none => rfl
          | some u => have := kdK_some h; omega
        rw [hn]
        by_cases k1 : kV t < 10
        · simp (disch := first | assumption | omega) only [z_bdn, z_caln, z_gdn, z_iT, z_iF, z_le_t, z_le_f, z_lt_t, z_lt_f, z_cl, z_inb, z_at, z_lit, nI_ii1, nI_add, z_mr, z_ref0, z_refn, z_eq_f, Bool.not_true, Bool.not_false, b2i_t, b2i_f, e6]
          rfl
        · have k2 : 14 ≤ kV t := by omega
          simp (disch := first | assumption | omega) only [z_bdn, z_caln, z_gdn, z_iT, z_iF, z_le_t, z_le_f, z_lt_t, z_lt_f, z_cl, z_inb, z_at, z_lit, nI_ii1, nI_add, z_mr, z_ref0, z_refn, z_eq_f, Bool.not_true, Bool.not_false, b2i_t, b2i_f, e6]
          rfl
    · rw [if_neg h2] at e6
      have hn : kdK t = none := by
        cases h : kdK t with
        | none => rfl
        | some u => exact absurd (kdK_some h).1 h2
      rw [hn]
      have z : (-nI 1 < nI 10) = True := eq_true (by decide)
      simp (disch := first | assumption | omega) only [z_bdn, z_caln, z_gdn, z_iT, z_iF, z_le_t, z_le_f, z_lt_t, z_lt_f, z_cl, z_inb, z_at, z_lit, nI_ii1, nI_add, z_mr, z_ref0, z_refn, z_eq_f, Bool.not_true, Bool.not_false, b2i_t, b2i_f, e6, z]
      rfl
  · intro v hv
    obtain ⟨h2, h1, h3⟩ := kdK_some hv
    rw [e6, if_pos h2, z_sub (by omega), show kV t - 10 = v by omega]
theorem q_indexIn {m id : Nat} {f : Nat → Int64} {w : Int64} (hl : kx_lay[id]? = some (2, m, [])) (hm : m < 100) {c : Nat} (hc : c ≤ m) (hf : ∀ i, i < c → mB M id i = f i) : f_Deal_indexIn id (nI c) w M = some (oI (idF f w c 0), M) := by
  have key : ∀ (j k i : Nat), i + j = c → j < k → f_Deal_indexIn_l3 id (nI c) w k (nI i) M = some (oI (idF f w j i), M) := by
    intro j
    induction j with
    | zero =>
      intro k i hi hk
      obtain ⟨k, rfl, hk⟩ := z_succ hk
      obtain rfl : i = c := by omega
      rw [f_Deal_indexIn_l3]
      simp (disch := first | assumption | omega) only [z_bdn, z_caln, z_gdn, z_iT, z_iF, z_le_t, z_le_f, z_lt_t, z_lt_f, z_cl, z_inb, z_at, z_lit, nI_ii1, nI_add, z_mr, z_ref0, z_refn, z_eq_f, Bool.not_true, Bool.not_false, b2i_t, b2i_f]
      rfl
    | succ j ih =>
      intro k i hi hk
      obtain ⟨k, rfl, hk⟩ := z_succ hk
      have g := ih k (i + 1) (by omega) (by omega)
      have e := hf i (by omega)
      have eI := z_aIb (tg := 2) hl (show i < m by omega) (by omega)
      rw [f_Deal_indexIn_l3]
      unfold idF
      by_cases hh : f i = w
      · rw [if_pos hh]
        have z : (f i = w) = True := eq_true hh
        simp (disch := first | assumption | omega) only [z_bdn, z_caln, z_gdn, z_iT, z_iF, z_le_t, z_le_f, z_lt_t, z_lt_f, z_cl, z_inb, z_at, z_lit, nI_ii1, nI_add, z_mr, z_ref0, z_refn, z_eq_f, Bool.not_true, Bool.not_false, b2i_t, b2i_f, eI, e, lg_eq, z]
        rfl
      · rw [if_neg hh]
        have z : (f i = w) = False := eq_false hh
        simp (disch := first | assumption | omega) only [z_bdn, z_caln, z_gdn, z_iT, z_iF, z_le_t, z_le_f, z_lt_t, z_lt_f, z_cl, z_inb, z_at, z_lit, nI_ii1, nI_add, z_mr, z_ref0, z_refn, z_eq_f, Bool.not_true, Bool.not_false, b2i_t, b2i_f, eI, e, lg_eq, z]
        exact g
  rw [f_Deal_indexIn]
  simp (disch := first | assumption | omega) only [z_bdn, z_caln, z_gdn, z_iT, z_iF, z_le_t, z_le_f, z_lt_t, z_lt_f, z_cl, z_inb, z_at, z_lit, nI_ii1, nI_add, z_mr, z_ref0, z_refn, z_eq_f, Bool.not_true, Bool.not_false, b2i_t, b2i_f]
  exact key c FU 0 (by omega) (FU_lt (by omega))
end
