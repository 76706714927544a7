/-! ## clashes among what is said -/
def prB (y : De) (S i j : Nat) : Bool := S.testBit i && S.testBit j && decide (dX y (6 * i + j) = 1)
abbrev Cc : Type := Nat × Int32
def stJ (y : De) (S i : Nat) : Nat → Nat → Cc → Cc
  | 0, _, s => s
  | m + 1, j, s => stJ y S i m (j + 1) (if prB y S i j = true then (s.1 + 1, if s.1 = 0 then nI (10 * i + j) else s.2) else s)
def stI (y : De) (S : Nat) : Nat → Nat → Cc → Cc
  | 0, _, s => s
  | m + 1, i, s => stI y S m (i + 1) (stJ y S i (dC y - (i + 1)) (i + 1) s)
def stA (y : De) (S : Nat) : Cc := stI y S (dC y) 0 (0, -nI 1)
def ccOk (s : Cc) : Prop := (s.1 = 0 ∧ s.2 = -nI 1) ∨ (s.1 ≠ 0 ∧ ∃ k, k < 100 ∧ s.2 = nI k)
theorem stJ_ok {y : De} {S i : Nat} (hi : i < 6) : ∀ (m j : Nat) (s : Cc), j + m ≤ 6 → ccOk s → ccOk (stJ y S i m j s)
  | 0, _, _, _, h => h
  | m + 1, j, s, hj, h => stJ_ok hi m (j + 1) _ (by omega) (by
    by_cases hp : prB y S i j = true
    · rw [if_pos hp]
      refine Or.inr ⟨Nat.succ_ne_zero _, ?_⟩
      by_cases h0 : s.1 = 0
      · exact ⟨10 * i + j, by omega, if_pos h0⟩
      · rcases h with h | ⟨_, k, hk, e⟩
        · exact absurd h.1 h0
        · exact ⟨k, hk, (if_neg h0).trans e⟩
    · rw [if_neg hp]; exact h)
theorem stI_ok {y : De} {S : Nat} (hc : dC y ≤ 6) : ∀ (m i : Nat) (s : Cc), i + m = dC y → ccOk s → ccOk (stI y S m i s)
  | 0, _, _, _, h => h
  | m + 1, i, s, hi, h => stI_ok hc m (i + 1) _ (by omega) (stJ_ok (by omega) _ _ _ (by omega) h)
theorem stA_ok {y : De} {S : Nat} (hc : dC y ≤ 6) : ccOk (stA y S) := stI_ok hc _ _ _ (by omega) (Or.inl ⟨rfl, rfl⟩)
theorem stJ_n {y : De} {S i : Nat} : ∀ (m j : Nat) (s : Cc), (stJ y S i m j s).1 ≤ s.1 + m
  | 0, _, _ => Nat.le_refl _
  | m + 1, j, s => by
    have h := stJ_n (y := y) (S := S) (i := i) m (j + 1) (if prB y S i j = true then (s.1 + 1, if s.1 = 0 then nI (10 * i + j) else s.2) else s)
    show (stJ y S i m (j + 1) _).1 ≤ _
    by_cases hp : prB y S i j = true
    · rw [if_pos hp] at h ⊢
      have h : _ ≤ s.1 + 1 + m := h
      omega
    · rw [if_neg hp] at h ⊢
      omega
theorem stI_n {y : De} {S : Nat} (hc : dC y ≤ 6) : ∀ (m i : Nat) (s : Cc), (stI y S m i s).1 ≤ s.1 + 6 * m
  | 0, _, _ => Nat.le_refl _
  | m + 1, i, s => by
    have h := stI_n (y := y) (S := S) hc m (i + 1) (stJ y S i (dC y - (i + 1)) (i + 1) s)
    have h2 := stJ_n (y := y) (S := S) (i := i) (dC y - (i + 1)) (i + 1) s
    show (stI y S m (i + 1) _).1 ≤ _
    omega
theorem stJ_keep {y : De} {S i : Nat} : ∀ (m j : Nat) (s : Cc), s.1 ≠ 0 → (stJ y S i m j s).1 ≠ 0 ∧ (stJ y S i m j s).2 = s.2
  | 0, _, _, h => ⟨h, rfl⟩
  | m + 1, j, s, h => by
    show (stJ y S i m (j + 1) _).1 ≠ 0 ∧ (stJ y S i m (j + 1) _).2 = _
    by_cases hp : prB y S i j = true
    · rw [if_pos hp, if_neg h]
      exact stJ_keep m (j + 1) (s.1 + 1, s.2) (Nat.succ_ne_zero _)
    · rw [if_neg hp]
      exact stJ_keep m (j + 1) s h
theorem stI_keep {y : De} {S : Nat} : ∀ (m i : Nat) (s : Cc), s.1 ≠ 0 → (stI y S m i s).1 ≠ 0 ∧ (stI y S m i s).2 = s.2
  | 0, _, _, h => ⟨h, rfl⟩
  | m + 1, i, s, h => by
    obtain ⟨a, b⟩ := stJ_keep (y := y) (S := S) (i := i) (dC y - (i + 1)) (i + 1) s h
    obtain ⟨c, d⟩ := stI_keep (y := y) (S := S) m (i + 1) _ a
    exact ⟨c, d.trans b⟩
theorem stJ_t {y : De} {S i m j : Nat} {s : Cc} (h : prB y S i j = true) : stJ y S i (m + 1) j s = stJ y S i m (j + 1) (s.1 + 1, if s.1 = 0 then nI (10 * i + j) else s.2) := by
  show stJ y S i m (j + 1) (if prB y S i j = true then _ else s) = _
  rw [if_pos h]
theorem stJ_f {y : De} {S i m j : Nat} {s : Cc} (h : prB y S i j = false) : stJ y S i (m + 1) j s = stJ y S i m (j + 1) s := by
  show stJ y S i m (j + 1) (if prB y S i j = true then _ else s) = _
  rw [h]; rfl
section
variable {M M' : kx_M} {σ : Sg} {x : Cl} {y : De}
theorem q_clashes_l46 {K : Int32 → Int32 → Int32 → kx_M → Option (Int32 × kx_M)} {W S s t i : Nat} (hK : KN M s t) (hP : OkD W y) (hD : CD M (s + 1) y) (hi : i < dC y) : ∀ (m n j : Nat) (c : Cc), j + m = dC y → m < n → c.1 + m < 1000 → f_KT_clashes_l46 K n (nI S) (nI c.1) (nI i) (nI j) M = K (nI S) (nI (stJ y S i m j c).1) (nI (i + 1)) M := by
  have w2 := hP.2.1
  have e2 := hD.2.1
  intro m
  induction m with
  | zero =>
    intro n j c hj hn hc
    obtain ⟨n, rfl, hn⟩ := z_succ hn
    obtain rfl : j = dC y := by omega
    rw [f_KT_clashes_l46]
    simp (disch := first | assumption | omega) only [z_bd, z_cal, z_gd, z_iT, z_iF, z_le_t, z_le_f, z_lt_t, z_lt_f, z_cl, z_inb, z_at, z_pl, z_lit, nI_ii1, nI_add, z_mr, z_ref0, z_refn, z_eq_f, Bool.not_true, Bool.not_false, b2i_t, b2i_f, hK.1, hK.s1, e2]
    rfl
  | succ m ih =>
    intro n j c hj hn hc
    obtain ⟨n, rfl, hn⟩ := z_succ hn
    have bi : bt (nI S) i = S.testBit i := bt_nI _ _ (by omega)
    have bj : bt (nI S) j = S.testBit j := bt_nI _ _ (by omega)
    have ea := q_atOdds hP hD hi (show j < dC y by omega)
    have h0 := ih n (j + 1) c (by omega) (by omega) (by omega)
    have h1 := ih n (j + 1) (c.1 + 1, if c.1 = 0 then nI (10 * i + j) else c.2) (by omega) (by omega) (by show c.1 + 1 + m < 1000; omega)
    rw [f_KT_clashes_l46]
    cases h3 : S.testBit i
    · rw [h3] at bi
      rw [stJ_f (by unfold prB; rw [h3]; rfl)]
      simp (disch := first | assumption | omega) only [z_bd, z_cal, z_gd, z_iT, z_iF, z_le_t, z_le_f, z_lt_t, z_lt_f, z_cl, z_inb, z_at, z_pl, z_lit, nI_ii1, nI_add, z_mr, z_ref0, z_refn, z_eq_f, Bool.not_true, Bool.not_false, b2i_t, b2i_f, hK.1, hK.s1, e2, z_inSet (show i < 32 by omega), bi]
      exact h0
    · rw [h3] at bi
      cases h4 : S.testBit j
      · rw [h4] at bj
        rw [stJ_f (by unfold prB; rw [h3, h4]; rfl)]
        simp (disch := first | assumption | omega) only [z_bd, z_cal, z_gd, z_iT, z_iF, z_le_t, z_le_f, z_lt_t, z_lt_f, z_cl, z_inb, z_at, z_pl, z_lit, nI_ii1, nI_add, z_mr, z_ref0, z_refn, z_eq_f, Bool.not_true, Bool.not_false, b2i_t, b2i_f, hK.1, hK.s1, e2, z_inSet (show i < 32 by omega), z_inSet (show j < 32 by omega), bi, bj]
        exact h0
      · rw [h4] at bj
        cases h5 : decide (dX y (6 * i + j) = 1)
        · rw [h5] at ea
          rw [stJ_f (by unfold prB; rw [h3, h4, h5]; rfl)]
          simp (disch := first | assumption | omega) only [z_bd, z_cal, z_gd, z_iT, z_iF, z_le_t, z_le_f, z_lt_t, z_lt_f, z_cl, z_inb, z_at, z_pl, z_lit, nI_ii1, nI_add, z_mr, z_ref0, z_refn, z_eq_f, Bool.not_true, Bool.not_false, b2i_t, b2i_f, hK.1, hK.s1, e2, z_inSet (show i < 32 by omega), z_inSet (show j < 32 by omega), bi, bj, ea]
          exact h0
        · rw [h5] at ea
          rw [stJ_t (by unfold prB; rw [h3, h4, h5]; rfl)]
          simp (disch := first | assumption | omega) only [z_bd, z_cal, z_gd, z_iT, z_iF, z_le_t, z_le_f, z_lt_t, z_lt_f, z_cl, z_inb, z_at, z_pl, z_lit, nI_ii1, nI_add, z_mr, z_ref0, z_refn, z_eq_f, Bool.not_true, Bool.not_false, b2i_t, b2i_f, hK.1, hK.s1, e2, z_inSet (show i < 32 by omega), z_inSet (show j < 32 by omega), bi, bj, ea]
          exact h1
theorem q_clashes {W S s t : Nat} (hK : KN M s t) (hP : OkD W y) (hD : CD M (s + 1) y) : ∀ (m n i : Nat) (c : Cc), i + m = dC y → m < n → c.1 + 6 * m < 1000 → f_KT_clashes_l27 n (nI S) (nI c.1) (nI i) M = some (nI (stI y S m i c).1, M) := by
  have w2 := hP.2.1
  have e2 := hD.2.1
  intro m
  induction m with
  | zero =>
    intro n i c hi hn hc
    obtain ⟨n, rfl, hn⟩ := z_succ hn
    obtain rfl : i = dC y := by omega
    rw [f_KT_clashes_l27]
    simp (disch := first | assumption | omega) only [z_bd, z_cal, z_gd, z_iT, z_iF, z_le_t, z_le_f, z_lt_t, z_lt_f, z_cl, z_inb, z_at, z_pl, z_lit, nI_ii1, nI_add, z_mr, z_ref0, z_refn, z_eq_f, Bool.not_true, Bool.not_false, b2i_t, b2i_f, hK.1, hK.s1, e2]
    rfl
  | succ m ih =>
    intro n i c hi hn hc
    obtain ⟨n, rfl, hn⟩ := z_succ hn
    have g := q_clashes_l46 (K := f_KT_clashes_l27 n) (S := S) hK hP hD (show i < dC y by omega) (dC y - (i + 1)) FU (i + 1) c (by omega) (FU_lt (by omega)) (by omega)
    have hn1 := stJ_n (y := y) (S := S) (i := i) (dC y - (i + 1)) (i + 1) c
    have h1 := ih n (i + 1) (stJ y S i (dC y - (i + 1)) (i + 1) c) (by omega) (by omega) (by omega)
    rw [f_KT_clashes_l27]
    simp (disch := first | assumption | omega) only [z_bd, z_cal, z_gd, z_iT, z_iF, z_le_t, z_le_f, z_lt_t, z_lt_f, z_cl, z_inb, z_at, z_pl, z_lit, nI_ii1, nI_add, z_mr, z_ref0, z_refn, z_eq_f, Bool.not_true, Bool.not_false, b2i_t, b2i_f, hK.1, hK.s1, e2]
    rw [g, h1]
    rfl
def o_clashes (σ : Sg) : Int32 × Sg := (nI (stA (gY σ) (sdSet (gX σ) (gY σ))).1, wS σ (nI 0))
theorem pC_clashes : PC f_KT_clashes o_clashes := by
  intro M σ h
  have h1 := IC_st (nI 0) h
  obtain ⟨s, t, hK, hO, hC, hP, hD⟩ := IC_get h1
  have w2 := hP.2.1
  have es := q_saidSet hO hC hP hD
  have e := q_clashes (S := sdSet (gX σ) (gY σ)) hK hP hD (dC (gY σ)) FU 0 (0, -nI 1) (by omega) (FU_lt (by omega)) (by show 0 + _ < _; omega)
  refine ⟨_, ?_, h1, Hi_st⟩
  rw [f_KT_clashes]
  simp (disch := first | assumption | omega) only [z_bd, z_cal, z_gd, z_iT, z_iF, z_le_t, z_le_f, z_lt_t, z_lt_f, z_cl, z_inb, z_at, z_pl, z_lit, nI_ii1, nI_add, z_mr, z_ref0, z_refn, z_eq_f, Bool.not_true, Bool.not_false, b2i_t, b2i_f, hK.1, hK.s1, es]
  exact e
theorem q_first_l43 {K : Int32 → Int32 → kx_M → Option (Int32 × kx_M)} {W S s t i : Nat} (hK : KN M s t) (hP : OkD W y) (hD : CD M (s + 1) y) (hi : i < dC y) : ∀ (m n j : Nat), j + m = dC y → m < n → f_KT_firstClash_l43 K n (nI S) (nI i) (nI j) M = if (stJ y S i m j (0, -nI 1)).1 = 0 then K (nI S) (nI (i + 1)) M else some ((stJ y S i m j (0, -nI 1)).2, M) := by
  have w2 := hP.2.1
  have e2 := hD.2.1
  intro m
  induction m with
  | zero =>
    intro n j hj hn
    obtain ⟨n, rfl, hn⟩ := z_succ hn
    obtain rfl : j = dC y := by omega
    rw [f_KT_firstClash_l43]
    simp (disch := first | assumption | omega) only [z_bd, z_cal, z_gd, z_iT, z_iF, z_le_t, z_le_f, z_lt_t, z_lt_f, z_cl, z_inb, z_at, z_pl, z_lit, nI_ii1, nI_add, z_mr, z_ref0, z_refn, z_eq_f, Bool.not_true, Bool.not_false, b2i_t, b2i_f, hK.1, hK.s1, e2]
    rfl
  | succ m ih =>
    intro n j hj hn
    obtain ⟨n, rfl, hn⟩ := z_succ hn
    have bi : bt (nI S) i = S.testBit i := bt_nI _ _ (by omega)
    have bj : bt (nI S) j = S.testBit j := bt_nI _ _ (by omega)
    have ea := q_atOdds hP hD hi (show j < dC y by omega)
    have h0 := ih n (j + 1) (by omega) (by omega)
    rw [f_KT_firstClash_l43]
    cases h3 : S.testBit i
    · rw [h3] at bi
      rw [stJ_f (by unfold prB; rw [h3]; rfl)]
      simp (disch := first | assumption | omega) only [z_bd, z_cal, z_gd, z_iT, z_iF, z_le_t, z_le_f, z_lt_t, z_lt_f, z_cl, z_inb, z_at, z_pl, z_lit, nI_ii1, nI_add, z_mr, z_ref0, z_refn, z_eq_f, Bool.not_true, Bool.not_false, b2i_t, b2i_f, hK.1, hK.s1, e2, z_inSet (show i < 32 by omega), bi]
      exact h0
    · rw [h3] at bi
      cases h4 : S.testBit j
      · rw [h4] at bj
        rw [stJ_f (by unfold prB; rw [h3, h4]; rfl)]
        simp (disch := first | assumption | omega) only [z_bd, z_cal, z_gd, z_iT, z_iF, z_le_t, z_le_f, z_lt_t, z_lt_f, z_cl, z_inb, z_at, z_pl, z_lit, nI_ii1, nI_add, z_mr, z_ref0, z_refn, z_eq_f, Bool.not_true, Bool.not_false, b2i_t, b2i_f, hK.1, hK.s1, e2, z_inSet (show i < 32 by omega), z_inSet (show j < 32 by omega), bi, bj]
        exact h0
      · rw [h4] at bj
        cases h5 : decide (dX y (6 * i + j) = 1)
        · rw [h5] at ea
          rw [stJ_f (by unfold prB; rw [h3, h4, h5]; rfl)]
          simp (disch := first | assumption | omega) only [z_bd, z_cal, z_gd, z_iT, z_iF, z_le_t, z_le_f, z_lt_t, z_lt_f, z_cl, z_inb, z_at, z_pl, z_lit, nI_ii1, nI_add, z_mr, z_ref0, z_refn, z_eq_f, Bool.not_true, Bool.not_false, b2i_t, b2i_f, hK.1, hK.s1, e2, z_inSet (show i < 32 by omega), z_inSet (show j < 32 by omega), bi, bj, ea]
          exact h0
        · rw [h5] at ea
          rw [stJ_t (by unfold prB; rw [h3, h4, h5]; rfl)]
          obtain ⟨k1, k2⟩ := stJ_keep (y := y) (S := S) (i := i) m (j + 1) (0 + 1, nI (10 * i + j)) (Nat.succ_ne_zero _)
          have e5 : (stJ y S i m (j + 1) (((0, -nI 1) : Cc).1 + 1, if ((0, -nI 1) : Cc).1 = 0 then nI (10 * i + j) else ((0, -nI 1) : Cc).2)) = stJ y S i m (j + 1) (0 + 1, nI (10 * i + j)) := by rw [if_pos rfl]
          rw [e5, if_neg k1, k2]
          simp (disch := first | assumption | omega) only [z_bd, z_cal, z_gd, z_iT, z_iF, z_le_t, z_le_f, z_lt_t, z_lt_f, z_cl, z_inb, z_at, z_pl, z_lit, nI_ii1, nI_add, z_mr, z_ref0, z_refn, z_eq_f, Bool.not_true, Bool.not_false, b2i_t, b2i_f, hK.1, hK.s1, e2, z_inSet (show i < 32 by omega), z_inSet (show j < 32 by omega), bi, bj, ea]
          rw [Nat.mul_comm i 10]
theorem q_first {W S s t : Nat} (hK : KN M s t) (hP : OkD W y) (hD : CD M (s + 1) y) : ∀ (m n i : Nat), i + m = dC y → m < n → f_KT_firstClash_l25 n (nI S) (nI i) M = if (stI y S m i (0, -nI 1)).1 = 0 then some (-nI 1, sI M 0 13 (nI 8)) else some ((stI y S m i (0, -nI 1)).2, M) := by
  have w2 := hP.2.1
  have e2 := hD.2.1
  intro m
  induction m with
  | zero =>
    intro n i hi hn
    obtain ⟨n, rfl, hn⟩ := z_succ hn
    obtain rfl : i = dC y := by omega
    rw [f_KT_firstClash_l25]
    simp (disch := first | assumption | omega) only [z_bd, z_cal, z_gd, z_iT, z_iF, z_le_t, z_le_f, z_lt_t, z_lt_f, z_cl, z_inb, z_at, z_pl, z_lit, nI_ii1, nI_add, z_mr, z_ref0, z_refn, z_eq_f, Bool.not_true, Bool.not_false, b2i_t, b2i_f, hK.1, hK.s1, e2]
    rfl
  | succ m ih =>
    intro n i hi hn
    obtain ⟨n, rfl, hn⟩ := z_succ hn
    have g := q_first_l43 (K := f_KT_firstClash_l25 n) (S := S) hK hP hD (show i < dC y by omega) (dC y - (i + 1)) FU (i + 1) (by omega) (FU_lt (by omega))
    have hk := stJ_ok (y := y) (S := S) (show i < 6 by omega) (dC y - (i + 1)) (i + 1) (0, -nI 1) (by omega) (Or.inl ⟨rfl, rfl⟩)
    have h1 := ih n (i + 1) (by omega) (by omega)
    rw [f_KT_firstClash_l25]
    simp (disch := first | assumption | omega) only [z_bd, z_cal, z_gd, z_iT, z_iF, z_le_t, z_le_f, z_lt_t, z_lt_f, z_cl, z_inb, z_at, z_pl, z_lit, nI_ii1, nI_add, z_mr, z_ref0, z_refn, z_eq_f, Bool.not_true, Bool.not_false, b2i_t, b2i_f, hK.1, hK.s1, e2]
    rw [g]
    rw [show stI y S (m + 1) i (0, -nI 1) = stI y S m (i + 1) (stJ y S i (dC y - (i + 1)) (i + 1) (0, -nI 1)) from rfl]
    rcases hk with ⟨k1, k2⟩ | ⟨k1, -⟩
    · rw [if_pos k1, h1]
      have e5 : stJ y S i (dC y - (i + 1)) (i + 1) (0, -nI 1) = (0, -nI 1) := Prod.ext k1 k2
      rw [e5]
    · obtain ⟨a, b⟩ := stI_keep (y := y) (S := S) m (i + 1) _ k1
      rw [if_neg k1, if_neg a, b]
def o_firstClash (σ : Sg) : Int32 × Sg := if (stA (gY σ) (sdSet (gX σ) (gY σ))).1 = 0 then (-nI 1, wS σ (nI 8)) else ((stA (gY σ) (sdSet (gX σ) (gY σ))).2, wS σ (nI 0))
theorem sI_sI (M : kx_M) (i k : Nat) (v w : Int32) : sI (sI M i k v) i k w = sI M i k w := by
  unfold sI
  refine Prod.ext ?_ rfl
  funext a b
  show (if a = i ∧ b = k then w else if a = i ∧ b = k then v else _) = (if a = i ∧ b = k then w else _)
  by_cases h : a = i ∧ b = k
  · rw [if_pos h, if_pos h]
  · rw [if_neg h, if_neg h, if_neg h]
theorem pC_firstClash : PC f_KT_firstClash o_firstClash := by
  intro M σ h
  have h1 := IC_st (nI 0) h
  obtain ⟨s, t, hK, hO, hC, hP, hD⟩ := IC_get h1
  have w2 := hP.2.1
  have es := q_saidSet hO hC hP hD
  have e := q_first (S := sdSet (gX σ) (gY σ)) hK hP hD (dC (gY σ)) FU 0 (by omega) (FU_lt (by omega))
  unfold o_firstClash stA
  by_cases h0 : (stI (gY σ) (sdSet (gX σ) (gY σ)) (dC (gY σ)) 0 (0, -nI 1)).1 = 0
  · rw [if_pos h0] at e ⊢
    have hI := IC_st (nI 8) h1
    refine ⟨_, ?_, hI, Hi_st.tr Hi_st⟩
    rw [f_KT_firstClash]
    simp (disch := first | assumption | omega) only [z_bd, z_cal, z_gd, z_iT, z_iF, z_le_t, z_le_f, z_lt_t, z_lt_f, z_cl, z_inb, z_at, z_pl, z_lit, nI_ii1, nI_add, z_mr, z_ref0, z_refn, z_eq_f, Bool.not_true, Bool.not_false, b2i_t, b2i_f, hK.1, hK.s1, es]
    exact e
  · rw [if_neg h0] at e ⊢
    refine ⟨_, ?_, h1, Hi_st⟩
    rw [f_KT_firstClash]
    simp (disch := first | assumption | omega) only [z_bd, z_cal, z_gd, z_iT, z_iF, z_le_t, z_le_f, z_lt_t, z_lt_f, z_cl, z_inb, z_at, z_pl, z_lit, nI_ii1, nI_add, z_mr, z_ref0, z_refn, z_eq_f, Bool.not_true, Bool.not_false, b2i_t, b2i_f, hK.1, hK.s1, es]
    exact e
/-! the reference's -/
theorem IM_28 {v : Int32} (h : IM M σ) : IM (sI M 135 28 v) σ := by
  obtain ⟨hO, hS, ⟨a1, a2, a3, a4, a5⟩, hT, ⟨b1, b2⟩, ⟨c1, c2⟩, ⟨d1, d2⟩⟩ := h
  refine ⟨hO, hS, ⟨?_, a2, a3, ?_, ?_⟩, hT, ⟨?_, b2⟩, ⟨?_, c2⟩, ⟨?_, d2⟩⟩
  · rw [mI_sI, if_neg (by decide)]; exact a1
  · rw [mI_sI, if_neg (by decide)]; exact a4
  · rw [mI_sI, if_neg (by decide)]; exact a5
  · rw [mI_sI, if_neg (by decide)]; exact b1
  · rw [mI_sI, if_neg (by decide)]; exact c1
  · rw [mI_sI, if_neg (by decide)]; exact d1
theorem q_Mclash_l29 {K : Int32 → Int32 → Int32 → kx_M → Option (Int32 × kx_M)} {W S i : Nat} {h : Nat → Int64} (hP : OkD W y) (hD : MD (mA M 140) h y) (hi : i < dC y) : ∀ (m n j : Nat) (c : Cc), j + m = dC y → m < n → c.1 + m < 1000 → f_RM_clashing_l29 K n (nI S) (nI c.1) (nI i) (nI j) (sI M 135 28 c.2) = K (nI S) (nI (stJ y S i m j c).1) (nI (i + 1)) (sI M 135 28 (stJ y S i m j c).2) := by
  have w2 := hP.2.1
  intro m
  induction m with
  | zero =>
    intro n j c hj hn hc
    obtain ⟨n, rfl, hn⟩ := z_succ hn
    obtain rfl : j = dC y := by omega
    have e2 : mA (sI M 135 28 c.2) 140 3 = nI (dC y) := hD.2.1
    rw [f_RM_clashing_l29]
    simp (disch := first | assumption | omega) only [z_bd, z_cal, z_gd, z_iT, z_iF, z_le_t, z_le_f, z_lt_t, z_lt_f, z_cl, z_inb, z_at, z_pl, z_lit, nI_ii1, nI_add, nI_mul, z_eq_f, z_refuse, z_no, z_M00, b2i_t, b2i_f, e2]
    rfl
  | succ m ih =>
    intro n j c hj hn hc
    obtain ⟨n, rfl, hn⟩ := z_succ hn
    have e2 : mA (sI M 135 28 c.2) 140 3 = nI (dC y) := hD.2.1
    have bi : bt (nI S) i = S.testBit i := bt_nI _ _ (by omega)
    have bj : bt (nI S) j = S.testBit j := bt_nI _ _ (by omega)
    have ea : mA (sI M 135 28 c.2) 140 (46 + i) = nI (clN y i) := hD.2.2.2.2.2.1 i hi
    have et : bt (nI (clN y i)) j = decide (dX y (6 * i + j) = 1) := by rw [bt_nI _ _ (by omega), clN_bit _ (show j < dC y by omega)]
    have h0 := ih n (j + 1) c (by omega) (by omega) (by omega)
    have h1 := ih n (j + 1) (c.1 + 1, if c.1 = 0 then nI (10 * i + j) else c.2) (by omega) (by omega) (by show c.1 + 1 + m < 1000; omega)
    rw [f_RM_clashing_l29]
    cases h3 : S.testBit i
    · rw [h3] at bi
      rw [stJ_f (by unfold prB; rw [h3]; rfl)]
      simp (disch := first | assumption | omega) only [z_bd, z_cal, z_gd, z_iT, z_iF, z_le_t, z_le_f, z_lt_t, z_lt_f, z_cl, z_inb, z_at, z_pl, z_lit, nI_ii1, nI_add, nI_mul, z_eq_f, z_refuse, z_no, z_M00, b2i_t, b2i_f, e2, z_has (show i < 32 by omega), bi]
      exact h0
    · rw [h3] at bi
      cases h4 : S.testBit j
      · rw [h4] at bj
        rw [stJ_f (by unfold prB; rw [h3, h4]; rfl)]
        simp (disch := first | assumption | omega) only [z_bd, z_cal, z_gd, z_iT, z_iF, z_le_t, z_le_f, z_lt_t, z_lt_f, z_cl, z_inb, z_at, z_pl, z_lit, nI_ii1, nI_add, nI_mul, z_eq_f, z_refuse, z_no, z_M00, b2i_t, b2i_f, e2, z_has (show i < 32 by omega), z_has (show j < 32 by omega), bi, bj]
        exact h0
      · rw [h4] at bj
        cases h5 : decide (dX y (6 * i + j) = 1)
        · rw [h5] at et
          rw [stJ_f (by unfold prB; rw [h3, h4, h5]; rfl)]
          simp (disch := first | assumption | omega) only [z_bd, z_cal, z_gd, z_iT, z_iF, z_le_t, z_le_f, z_lt_t, z_lt_f, z_cl, z_inb, z_at, z_pl, z_lit, nI_ii1, nI_add, nI_mul, z_eq_f, z_refuse, z_no, z_M00, b2i_t, b2i_f, e2, z_has (show i < 32 by omega), z_has (show j < 32 by omega), bi, bj, ea, et]
          exact h0
        · rw [h5] at et
          rw [stJ_t (by unfold prB; rw [h3, h4, h5]; rfl)]
          by_cases hz : c.1 = 0
          · rw [if_pos hz] at h1 ⊢
            simp (disch := first | assumption | omega) only [z_bd, z_cal, z_gd, z_iT, z_iF, z_le_t, z_le_f, z_lt_t, z_lt_f, z_cl, z_inb, z_at, z_pl, z_lit, nI_ii1, nI_add, nI_mul, z_eq_f, z_refuse, z_no, z_M00, b2i_t, b2i_f, e2, z_has (show i < 32 by omega), z_has (show j < 32 by omega), bi, bj, ea, et, hz, sI_sI]
            rw [hz] at h1
            exact h1
          · rw [if_neg hz] at h1 ⊢
            simp (disch := first | assumption | omega) only [z_bd, z_cal, z_gd, z_iT, z_iF, z_le_t, z_le_f, z_lt_t, z_lt_f, z_cl, z_inb, z_at, z_pl, z_lit, nI_ii1, nI_add, nI_mul, z_eq_f, z_refuse, z_no, z_M00, b2i_t, b2i_f, e2, z_has (show i < 32 by omega), z_has (show j < 32 by omega), bi, bj, ea, et]
            exact h1
theorem q_Mclash {W S : Nat} {h : Nat → Int64} (hP : OkD W y) (hD : MD (mA M 140) h y) : ∀ (m n i : Nat) (c : Cc), i + m = dC y → m < n → c.1 + 6 * m < 1000 → f_RM_clashing_l14 n (nI S) (nI c.1) (nI i) (sI M 135 28 c.2) = some (nI (stI y S m i c).1, sI M 135 28 (stI y S m i c).2) := by
  have w2 := hP.2.1
  intro m
  induction m with
  | zero =>
    intro n i c hi hn hc
    obtain ⟨n, rfl, hn⟩ := z_succ hn
    obtain rfl : i = dC y := by omega
    have e2 : mA (sI M 135 28 c.2) 140 3 = nI (dC y) := hD.2.1
    rw [f_RM_clashing_l14]
    simp (disch := first | assumption | omega) only [z_bd, z_cal, z_gd, z_iT, z_iF, z_le_t, z_le_f, z_lt_t, z_lt_f, z_cl, z_inb, z_at, z_pl, z_lit, nI_ii1, nI_add, nI_mul, z_eq_f, z_refuse, z_no, z_M00, b2i_t, b2i_f, e2]
    rfl
  | succ m ih =>
    intro n i c hi hn hc
    obtain ⟨n, rfl, hn⟩ := z_succ hn
    have e2 : mA (sI M 135 28 c.2) 140 3 = nI (dC y) := hD.2.1
    have g := q_Mclash_l29 (K := f_RM_clashing_l14 n) (S := S) hP hD (show i < dC y by omega) (dC y - (i + 1)) FU (i + 1) c (by omega) (FU_lt (by omega)) (by omega)
    have hn1 := stJ_n (y := y) (S := S) (i := i) (dC y - (i + 1)) (i + 1) c
    have h1 := ih n (i + 1) (stJ y S i (dC y - (i + 1)) (i + 1) c) (by omega) (by omega) (by omega)
    rw [f_RM_clashing_l14]
    simp (disch := first | assumption | omega) only [z_bd, z_cal, z_gd, z_iT, z_iF, z_le_t, z_le_f, z_lt_t, z_lt_f, z_cl, z_inb, z_at, z_pl, z_lit, nI_ii1, nI_add, nI_mul, z_eq_f, z_refuse, z_no, z_M00, b2i_t, b2i_f, e2]
    rw [g, h1]
    rfl
theorem q_clashing (hO : OkC x) (hC : MC (mA M 140) x) (hP : OkD (cW x) y) (hD : MD (mA M 140) (mB M 143) y) : f_RM_clashing M = some (nI (stA y (sdSet x y)).1, sI M 135 28 (stA y (sdSet x y)).2) := by
  have w2 := hP.2.1
  have es := q_saidOnes hO hC hP hD
  have e := q_Mclash (S := sdSet x y) hP hD (dC y) FU 0 (0, -nI 1) (by omega) (FU_lt (by omega)) (by show 0 + _ < _; omega)
  rw [f_RM_clashing]
  simp (disch := first | assumption | omega) only [z_bd, z_cal, z_gd, z_iT, z_iF, z_le_t, z_le_f, z_lt_t, z_lt_f, z_cl, z_inb, z_at, z_pl, z_lit, nI_ii1, nI_add, nI_mul, z_eq_f, z_refuse, z_no, z_M00, b2i_t, b2i_f, es]
  exact e
theorem pM_clashes : PM f_RM_clashes o_clashes := by
  intro M σ h
  have h0 := IM_00 h
  obtain ⟨hO, hC, hP, hD⟩ := IM_get h0
  have e := q_clashing hO hC hP hD
  refine ⟨sI (M00 M) 135 28 (stA (gY σ) (sdSet (gX σ) (gY σ))).2, ?_, IM_28 h0, Lo_00.tr (Fr.sI (by decide))⟩
  rw [f_RM_clashes]
  simp (disch := first | assumption | omega) only [z_bd, z_cal, z_gd, z_iT, z_iF, z_le_t, z_le_f, z_lt_t, z_lt_f, z_cl, z_inb, z_at, z_pl, z_lit, nI_ii1, nI_add, nI_mul, z_eq_f, z_refuse, z_no, z_M00, b2i_t, b2i_f, e, o_clashes]
theorem pM_firstClash : PM f_RM_firstClash o_firstClash := by
  intro M σ h
  have h0 := IM_00 h
  obtain ⟨hO, hC, hP, hD⟩ := IM_get h0
  have w2 := hP.2.1
  have e := q_clashing hO hC hP hD
  have hk := stA_ok (y := gY σ) (S := sdSet (gX σ) (gY σ)) w2
  have e1 : ∀ v, mI (sI (M00 M) 135 28 v) 135 28 = v := fun v => rfl
  rw [f_RM_firstClash]
  unfold o_firstClash
  rcases hk with ⟨k1, k2⟩ | ⟨k1, k, hk, k2⟩
  · rw [if_pos k1]
    refine ⟨sI (sI (M00 M) 135 28 (stA (gY σ) (sdSet (gX σ) (gY σ))).2) 135 0 (nI 8), ?_, IM_r (nI 8) (IM_28 h0), (Lo_00.tr (Fr.sI (by decide))).tr Lo_st⟩
    simp (disch := first | assumption | omega) only [z_bd, z_cal, z_gd, z_iT, z_iF, z_le_t, z_le_f, z_lt_t, z_lt_f, z_cl, z_inb, z_at, z_pl, z_lit, nI_ii1, nI_add, nI_mul, z_eq_f, z_refuse, z_no, z_M00, b2i_t, b2i_f, e, e1, k2, z_neg]
  · rw [if_neg k1]
    refine ⟨sI (M00 M) 135 28 (stA (gY σ) (sdSet (gX σ) (gY σ))).2, ?_, IM_28 h0, Lo_00.tr (Fr.sI (by decide))⟩
    simp (disch := first | assumption | omega) only [z_bd, z_cal, z_gd, z_iT, z_iF, z_le_t, z_le_f, z_lt_t, z_lt_f, z_cl, z_inb, z_at, z_pl, z_lit, nI_ii1, nI_add, nI_mul, z_eq_f, z_refuse, z_no, z_M00, b2i_t, b2i_f, e, e1, k2]
end
