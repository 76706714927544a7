def gI (y : De) (q k : Nat) : Int32 := nI (dV y (6 * q + k)) - nI (dV y (24 + 6 * q + k))
/-- what a queen wins by a set, of the clauses below k -/
def gsN (y : De) (q s : Nat) : Nat → Int32
  | 0 => nI 0
  | k + 1 => if s.testBit k = true then gsN y q s k + gI y q k else gsN y q s k
theorem gsN_succ (y : De) (q s k : Nat) : gsN y q s (k + 1) = if s.testBit k = true then gsN y q s k + gI y q k else gsN y q s k := rfl
def awN (y : De) (s : Nat) : Nat → Int32
  | 0 => nI 0
  | q + 1 => awN y s q + gsN y q s (dC y)
theorem awN_succ (y : De) (s q : Nat) : awN y s (q + 1) = awN y s q + gsN y q s (dC y) := rfl
theorem gsN_0 (y : De) (q : Nat) : ∀ k, gsN y q 0 k = nI 0
  | 0 => rfl
  | k + 1 => by rw [gsN_succ, Nat.zero_testBit, gsN_0 y q k]; rfl
theorem awN_0 (y : De) : ∀ q, awN y 0 q = nI 0
  | 0 => rfl
  | q + 1 => by rw [awN_succ, awN_0 y q, gsN_0]; rfl
def ncB (y : De) (s i j : Nat) : Bool := !(s.testBit i && s.testBit j && decide (dX y (6 * i + j) = 1))
def ncA (y : De) (s : Nat) : Bool := allb (fun i => allb (fun j => ncB y s i j) (dC y)) (dC y)
def frB (y : De) (s : Nat) : Bool := ncA y s && allb (fun q => decide (nI 0 ≤ gsN y q s (dC y))) (dQ y)
def stQ (y : De) (s : Nat) : Bool := allb (fun k => allb (fun q => !(s.testBit k) || decide (nI 0 ≤ gI y q k)) (dQ y)) (dC y)
def stB (y : De) (s : Nat) : Bool := frB y s && stQ y s
def bsF (y : De) : Nat → Nat → Nat → Nat
  | 0, _, b => b
  | m + 1, s, b => bsF y m (s + 1) (if awN y b (dQ y) < awN y s (dQ y) ∧ frB y s = true then s else b)
def bestS (y : De) : Nat := bsF y (2 ^ dC y - 1) 1 0
theorem bsF_lt (y : De) {B : Nat} : ∀ (m s b : Nat), s + m ≤ B → b < B → bsF y m s b < B
  | 0, _, _, _, h => h
  | m + 1, s, b, h1, h2 => bsF_lt y m (s + 1) _ (by omega) (by split <;> omega)
theorem pow6 {C : Nat} (h : C ≤ 6) : 1 ≤ 2 ^ C ∧ 2 ^ C ≤ 64 := ⟨Nat.one_le_two_pow, Nat.pow_le_pow_right (by omega) h⟩
/-- whether all of m from j on -/
def allF (p : Nat → Bool) : Nat → Nat → Bool
  | 0, _ => true
  | m + 1, j => p j && allF p m (j + 1)
theorem allF_t {p : Nat → Bool} {m j : Nat} (h : p j = true) : allF p (m + 1) j = allF p m (j + 1) := by show (p j && allF p m (j + 1)) = _; rw [h]; rfl
theorem allF_f {p : Nat → Bool} {m j : Nat} (h : p j = false) : allF p (m + 1) j = false := by show (p j && allF p m (j + 1)) = _; rw [h]; rfl
theorem allF_iff {p : Nat → Bool} : ∀ (m j : Nat), allF p m j = true ↔ ∀ i, j ≤ i → i < j + m → p i = true
  | 0, j => ⟨fun _ i h1 h2 => absurd h1 (by omega), fun _ => rfl⟩
  | m + 1, j => by
    cases hp : p j
    · rw [allF_f hp]
      exact ⟨(fun h => by cases h), (fun h => by rw [h j (Nat.le_refl _) (by omega)] at hp; cases hp)⟩
    · rw [allF_t hp, allF_iff m (j + 1)]
      refine ⟨fun h i h1 h2 => ?_, fun h i h1 h2 => h i (by omega) (by omega)⟩
      by_cases he : i = j
      · rw [he]; exact hp
      · exact h i (by omega) (by omega)
theorem allF_allb (p : Nat → Bool) (n : Nat) : allF p n 0 = allb p n := by
  cases h : allb p n
  · cases g : allF p n 0
    · rfl
    · rw [allb_iff.mpr (fun i hi => (allF_iff n 0).mp g i (by omega) (by omega))] at h; cases h
  · exact (allF_iff n 0).mpr (fun i _ h2 => allb_iff.mp h i (by omega))
section
variable {M : kx_M} {σ : Sg} {W d : Nat} {y : De} {h : Nat → Int64}
theorem q_winOne (hP : OkD W y) (hD : CD M d y) {q k : Nat} (hq : q < dQ y) (hk : k < dC y) : f_Deal_winOfOne d (nI q) (nI k) M = some (gI y q k, M) := by
  have w1 := hP.1
  have w2 := hP.2.1
  have e0 := hD.2.2.2.2.2.2 0 q k (by omega) hq hk
  have e1 := hD.2.2.2.2.2.2 1 q k (by omega) hq hk
  rw [f_Deal_winOfOne]
  simp (disch := first | assumption | omega) only [z_bd, z_cal, z_gd, z_iT, z_iF, z_le_t, z_le_f, z_lt_t, z_lt_f, z_cl, z_inb, z_at, z_lit, nI_ii1, nI_add, z_mr, z_ref0, z_refn, z_eq_f, Bool.not_true, Bool.not_false, b2i_t, b2i_f, z_worthAt, e0, e1, gI, Nat.mul_zero, Nat.zero_add, Nat.mul_one]
  rw [show 24 * 0 + 6 * q + k = 6 * q + k by omega] at e0
  rw [e0]
theorem q_winOf (hP : OkD W y) (hD : CD M d y) {q s : Nat} (hq : q < dQ y) (hs : s < 64) : f_Deal_winOf d (nI q) (nI s) M = some (gsN y q s (dC y), M) := by
  have w2 := hP.2.1
  have e2 := hD.2.1
  have key : ∀ (m n k : Nat), k + m = dC y → m < n → f_Deal_winOf_l5 d (nI q) (nI s) n (gsN y q s k) (nI k) M = some (gsN y q s (dC y), M) := by
    intro m
    induction m with
    | zero =>
      intro n k hk hn
      obtain ⟨n, rfl, hn⟩ := z_succ hn
      obtain rfl : k = dC y := by omega
      rw [f_Deal_winOf_l5]
      simp (disch := first | assumption | omega) only [z_bd, z_cal, z_gd, z_iT, z_iF, z_le_t, z_le_f, z_lt_t, z_lt_f, z_cl, z_inb, z_at, z_lit, nI_ii1, nI_add, z_mr, z_ref0, z_refn, z_eq_f, Bool.not_true, Bool.not_false, b2i_t, b2i_f, e2]
    | succ m ih =>
      intro n k hk hn
      obtain ⟨n, rfl, hn⟩ := z_succ hn
      have h1 := ih n (k + 1) (by omega) (by omega)
      have ei := z_inSet (x := nI s) (show k < 32 by omega) M
      rw [bt_nI _ _ (by omega)] at ei
      have e := q_winOne hP hD hq (show k < dC y by omega)
      rw [gsN_succ] at h1
      rw [f_Deal_winOf_l5]
      cases hb : s.testBit k
      · rw [hb] at ei h1
        simp (disch := first | assumption | omega) only [z_bd, z_cal, z_gd, z_iT, z_iF, z_le_t, z_le_f, z_lt_t, z_lt_f, z_cl, z_inb, z_at, z_lit, nI_ii1, nI_add, z_mr, z_ref0, z_refn, z_eq_f, Bool.not_true, Bool.not_false, b2i_t, b2i_f, e2, ei]
        exact h1
      · rw [hb] at ei h1
        simp (disch := first | assumption | omega) only [z_bd, z_cal, z_gd, z_iT, z_iF, z_le_t, z_le_f, z_lt_t, z_lt_f, z_cl, z_inb, z_at, z_lit, nI_ii1, nI_add, z_mr, z_ref0, z_refn, z_eq_f, Bool.not_true, Bool.not_false, b2i_t, b2i_f, e2, ei, e]
        exact h1
  exact key (dC y) FU 0 (by omega) (FU_lt (by omega))
theorem q_winAll (hP : OkD W y) (hD : CD M d y) {s : Nat} (hs : s < 64) : f_Deal_winOfAll d (nI s) M = some (awN y s (dQ y), M) := by
  have w2 := hP.1
  have e2 := hD.1
  have key : ∀ (m n q : Nat), q + m = dQ y → m < n → f_Deal_winOfAll_l4 d (nI s) n (awN y s q) (nI q) M = some (awN y s (dQ y), M) := by
    intro m
    induction m with
    | zero =>
      intro n q hq hn
      obtain ⟨n, rfl, hn⟩ := z_succ hn
      obtain rfl : q = dQ y := by omega
      rw [f_Deal_winOfAll_l4]
      simp (disch := first | assumption | omega) only [z_bd, z_cal, z_gd, z_iT, z_iF, z_le_t, z_le_f, z_lt_t, z_lt_f, z_cl, z_inb, z_at, z_lit, nI_ii1, nI_add, z_mr, z_ref0, z_refn, z_eq_f, Bool.not_true, Bool.not_false, b2i_t, b2i_f, e2]
    | succ m ih =>
      intro n q hq hn
      obtain ⟨n, rfl, hn⟩ := z_succ hn
      have h1 := ih n (q + 1) (by omega) (by omega)
      have e := q_winOf hP hD (show q < dQ y by omega) hs
      rw [awN_succ] at h1
      rw [f_Deal_winOfAll_l4]
      simp (disch := first | assumption | omega) only [z_bd, z_cal, z_gd, z_iT, z_iF, z_le_t, z_le_f, z_lt_t, z_lt_f, z_cl, z_inb, z_at, z_lit, nI_ii1, nI_add, z_mr, z_ref0, z_refn, z_eq_f, Bool.not_true, Bool.not_false, b2i_t, b2i_f, e2, e]
      exact h1
  exact key (dQ y) FU 0 (by omega) (FU_lt (by omega))
theorem q_atOdds (hP : OkD W y) (hD : CD M d y) {i j : Nat} (hi : i < dC y) (hj : j < dC y) : f_Deal_atOdds d (nI i) (nI j) M = some (b2i (decide (dX y (6 * i + j) = 1)), M) := by
  have w2 := hP.2.1
  have e0 := hD.2.2.2.2.2.1 i j hi hj
  have b0 := (hP.2.2.2.2.2.1 i j hi hj).1
  rw [f_Deal_atOdds]
  by_cases h1 : dX y (6 * i + j) = 1
  · simp (disch := first | assumption | omega) only [z_bd, z_cal, z_gd, z_iT, z_iF, z_le_t, z_le_f, z_lt_t, z_lt_f, z_cl, z_inb, z_at, z_lit, nI_ii1, nI_add, z_mr, z_ref0, z_refn, z_eq_f, Bool.not_true, Bool.not_false, b2i_t, b2i_f, e0, h1, decide_true]
  · simp (disch := first | assumption | omega) only [z_bd, z_cal, z_gd, z_iT, z_iF, z_le_t, z_le_f, z_lt_t, z_lt_f, z_cl, z_inb, z_at, z_lit, nI_ii1, nI_add, z_mr, z_ref0, z_refn, z_eq_f, Bool.not_true, Bool.not_false, b2i_t, b2i_f, e0, h1, decide_false]
theorem q_sign_l63 (hP : OkD W y) (hD : CD M d y) {s : Nat} (hs : s < 64) : ∀ (m n q : Nat), q + m = dQ y → m < n → allb (fun q => decide (nI 0 ≤ gsN y q s (dC y))) q = true → f_Deal_signable_l63 d (nI s) n (nI q) M = some (b2i (allb (fun q => decide (nI 0 ≤ gsN y q s (dC y))) (dQ y)), M) := by
  have w2 := hP.1
  have e2 := hD.1
  intro m
  induction m with
  | zero =>
    intro n q hq hn ha
    obtain ⟨n, rfl, hn⟩ := z_succ hn
    obtain rfl : q = dQ y := by omega
    rw [f_Deal_signable_l63, ha]
    simp (disch := first | assumption | omega) only [z_bd, z_cal, z_gd, z_iT, z_iF, z_le_t, z_le_f, z_lt_t, z_lt_f, z_cl, z_inb, z_at, z_lit, nI_ii1, nI_add, z_mr, z_ref0, z_refn, z_eq_f, Bool.not_true, Bool.not_false, b2i_t, b2i_f, e2]
  | succ m ih =>
    intro n q hq hn ha
    obtain ⟨n, rfl, hn⟩ := z_succ hn
    have e := q_winOf hP hD (show q < dQ y by omega) hs
    rw [f_Deal_signable_l63]
    by_cases hg : nI 0 ≤ gsN y q s (dC y)
    · simp (disch := first | assumption | omega) only [z_bd, z_cal, z_gd, z_iT, z_iF, z_le_t, z_le_f, z_lt_t, z_lt_f, z_cl, z_inb, z_at, z_lit, nI_ii1, nI_add, z_mr, z_ref0, z_refn, z_eq_f, Bool.not_true, Bool.not_false, b2i_t, b2i_f, e2, e, hg]
      exact ih n (q + 1) (by omega) (by omega) (by simp only [allb, ha, hg, decide_true, Bool.and_self])
    · rw [allb_false (show q < dQ y by omega) (decide_eq_false hg)]
      simp (disch := first | assumption | omega) only [z_bd, z_cal, z_gd, z_iT, z_iF, z_le_t, z_le_f, z_lt_t, z_lt_f, z_cl, z_inb, z_at, z_lit, nI_ii1, nI_add, z_mr, z_ref0, z_refn, z_eq_f, Bool.not_true, Bool.not_false, b2i_t, b2i_f, e2, e, hg]
theorem q_sign_l14 (hP : OkD W y) (hD : CD M d y) {s i : Nat} {K : Int32 → kx_M → Option (Int32 × kx_M)} (hs : s < 64) (hi : i < dC y) : ∀ (m n j : Nat), j + m = dC y → m < n → f_Deal_signable_l14 d (nI s) K n (nI i) (nI j) M = if allF (ncB y s i) m j = true then K (nI (i + 1)) M else some (nI 0, M) := by
  have w2 := hP.2.1
  have e2 := hD.2.1
  intro m
  induction m with
  | zero =>
    intro n j hj hn
    obtain ⟨n, rfl, hn⟩ := z_succ hn
    obtain rfl : j = dC y := by omega
    rw [f_Deal_signable_l14]
    simp (disch := first | assumption | omega) only [z_bd, z_cal, z_gd, z_iT, z_iF, z_le_t, z_le_f, z_lt_t, z_lt_f, z_cl, z_inb, z_at, z_lit, nI_ii1, nI_add, z_mr, z_ref0, z_refn, z_eq_f, Bool.not_true, Bool.not_false, b2i_t, b2i_f, e2]
    exact (if_pos rfl).symm
  | succ m ih =>
    intro n j hj hn
    obtain ⟨n, rfl, hn⟩ := z_succ hn
    have h1 := ih n (j + 1) (by omega) (by omega)
    have ei := z_inSet (x := nI s) (show i < 32 by omega) M
    have ej := z_inSet (x := nI s) (show j < 32 by omega) M
    rw [bt_nI _ _ (by omega)] at ei ej
    have eo := q_atOdds hP hD hi (show j < dC y by omega)
    rw [f_Deal_signable_l14]
    cases hb : s.testBit i
    · rw [hb] at ei
      have hc : ncB y s i j = true := by unfold ncB; rw [hb]; rfl
      rw [allF_t hc]
      simp (disch := first | assumption | omega) only [z_bd, z_cal, z_gd, z_iT, z_iF, z_le_t, z_le_f, z_lt_t, z_lt_f, z_cl, z_inb, z_at, z_lit, nI_ii1, nI_add, z_mr, z_ref0, z_refn, z_eq_f, Bool.not_true, Bool.not_false, b2i_t, b2i_f, e2, ei]
      exact h1
    · rw [hb] at ei
      cases hb2 : s.testBit j
      · rw [hb2] at ej
        have hc : ncB y s i j = true := by unfold ncB; rw [hb, hb2]; rfl
        rw [allF_t hc]
        simp (disch := first | assumption | omega) only [z_bd, z_cal, z_gd, z_iT, z_iF, z_le_t, z_le_f, z_lt_t, z_lt_f, z_cl, z_inb, z_at, z_lit, nI_ii1, nI_add, z_mr, z_ref0, z_refn, z_eq_f, Bool.not_true, Bool.not_false, b2i_t, b2i_f, e2, ei, ej]
        exact h1
      · rw [hb2] at ej
        by_cases hx : dX y (6 * i + j) = 1
        · rw [decide_eq_true hx] at eo
          have hc : ncB y s i j = false := by unfold ncB; rw [hb, hb2, decide_eq_true hx]; rfl
          rw [allF_f hc]
          simp (disch := first | assumption | omega) only [z_bd, z_cal, z_gd, z_iT, z_iF, z_le_t, z_le_f, z_lt_t, z_lt_f, z_cl, z_inb, z_at, z_lit, nI_ii1, nI_add, z_mr, z_ref0, z_refn, z_eq_f, Bool.not_true, Bool.not_false, b2i_t, b2i_f, e2, ei, ej, eo, Bool.false_eq_true]
        · rw [decide_eq_false hx] at eo
          have hc : ncB y s i j = true := by unfold ncB; rw [hb, hb2, decide_eq_false hx]; rfl
          rw [allF_t hc]
          simp (disch := first | assumption | omega) only [z_bd, z_cal, z_gd, z_iT, z_iF, z_le_t, z_le_f, z_lt_t, z_lt_f, z_cl, z_inb, z_at, z_lit, nI_ii1, nI_add, z_mr, z_ref0, z_refn, z_eq_f, Bool.not_true, Bool.not_false, b2i_t, b2i_f, e2, ei, ej, eo]
          exact h1
theorem ncB_sym (hP : OkD W y) {s i j : Nat} (hi : i < dC y) (hj : j < dC y) : ncB y s i j = ncB y s j i := by
  unfold ncB
  rw [(hP.2.2.2.2.2.1 i j hi hj).2, Bool.and_comm (s.testBit i)]
theorem ncB_self (hP : OkD W y) {s i : Nat} (hi : i < dC y) : ncB y s i i = true := by
  unfold ncB
  rw [hP.2.2.2.2.2.2.1 i hi, decide_eq_false (by decide), Bool.and_false]
  rfl
theorem q_sign (hP : OkD W y) (hD : CD M d y) {s : Nat} (hs : s < 64) : f_Deal_signable d (nI s) M = some (b2i (frB y s), M) := by
  have w1 := hP.1
  have w2 := hP.2.1
  have e2 := hD.2.1
  have key : ∀ (m n i : Nat), i + m = dC y → m < n → (∀ a, a < i → ∀ b, b < dC y → ncB y s a b = true) → f_Deal_signable_l2 d (nI s) n (nI i) M = some (b2i (frB y s), M) := by
    intro m
    induction m with
    | zero =>
      intro n i hi hn ha
      obtain ⟨n, rfl, hn⟩ := z_succ hn
      obtain rfl : i = dC y := by omega
      have hA : ncA y s = true := allb_iff.mpr (fun a h1 => allb_iff.mpr (fun b h2 => ha a h1 b h2))
      have e := q_sign_l63 hP hD hs (dQ y) FU 0 (by omega) (FU_lt (by omega)) rfl
      rw [f_Deal_signable_l2]
      simp (disch := first | assumption | omega) only [z_bd, z_cal, z_gd, z_iT, z_iF, z_le_t, z_le_f, z_lt_t, z_lt_f, z_cl, z_inb, z_at, z_lit, nI_ii1, nI_add, z_mr, z_ref0, z_refn, z_eq_f, Bool.not_true, Bool.not_false, b2i_t, b2i_f, e2]
      rw [e]
      unfold frB
      rw [hA, Bool.true_and]
    | succ m ih =>
      intro n i hi hn ha
      obtain ⟨n, rfl, hn⟩ := z_succ hn
      have hil : i < dC y := by omega
      have e := q_sign_l14 (K := f_Deal_signable_l2 d (nI s) n) hP hD hs hil (dC y - (i + 1)) FU (i + 1) (by omega) (FU_lt (by omega))
      rw [f_Deal_signable_l2]
      simp (disch := first | assumption | omega) only [z_bd, z_cal, z_gd, z_iT, z_iF, z_le_t, z_le_f, z_lt_t, z_lt_f, z_cl, z_inb, z_at, z_lit, nI_ii1, nI_add, z_mr, z_ref0, z_refn, z_eq_f, Bool.not_true, Bool.not_false, b2i_t, b2i_f, e2]
      rw [e]
      by_cases hall0 : allF (ncB y s i) (dC y - (i + 1)) (i + 1) = true
      · rw [if_pos hall0]
        have hall := (allF_iff _ _).mp hall0
        refine ih n (i + 1) (by omega) (by omega) (fun a h1 b h2 => ?_)
        by_cases hai : a = i
        · subst hai
          by_cases hb : b < a
          · rw [ncB_sym hP hil h2]; exact ha b hb a hil
          · by_cases hb2 : b = a
            · subst hb2; exact ncB_self hP hil
            · exact hall b (by omega) (by omega)
        · exact ha a (by omega) b h2
      · rw [if_neg hall0]
        have hF : frB y s = false := by
          unfold frB
          have : ncA y s = false := by
            cases hc : ncA y s
            · rfl
            · exact absurd ((allF_iff _ _).mpr (fun j' _ h2 => allb_iff.mp (allb_iff.mp hc i hil) j' (by omega))) hall0
          rw [this, Bool.false_and]
        rw [hF]
        rfl
  exact key (dC y) FU 0 (by omega) (FU_lt (by omega)) (fun a h1 => absurd h1 (by omega))
theorem q_bestSet (hP : OkD W y) (hD : CD M d y) : f_Deal_bestSet d M = some (nI (bestS y), M) := by
  have w2 := hP.2.1
  have hp := pow6 w2
  have e2 := hD.2.1
  have key : ∀ (m n s b : Nat), s + m = 2 ^ dC y → m < n → b < 64 → f_Deal_bestSet_l6 d n (nI b) (awN y b (dQ y)) (nI s) M = some (nI (bsF y m s b), M) := by
    intro m
    induction m with
    | zero =>
      intro n s b hs hn hb
      obtain ⟨n, rfl, hn⟩ := z_succ hn
      obtain rfl : s = 2 ^ dC y := by omega
      rw [f_Deal_bestSet_l6]
      simp (disch := first | assumption | omega) only [z_bd, z_cal, z_gd, z_iT, z_iF, z_le_t, z_le_f, z_lt_t, z_lt_f, z_cl, z_inb, z_at, z_lit, nI_ii1, nI_add, z_mr, z_ref0, z_refn, z_eq_f, Bool.not_true, Bool.not_false, b2i_t, b2i_f, e2, z_bit (show dC y < 31 by omega)]
      rfl
    | succ m ih =>
      intro n s b hs hn hb
      obtain ⟨n, rfl, hn⟩ := z_succ hn
      have ew := q_winAll hP hD (show s < 64 by omega)
      have es := q_sign hP hD (show s < 64 by omega)
      rw [f_Deal_bestSet_l6]
      by_cases h1 : awN y b (dQ y) < awN y s (dQ y)
      · have h1' : ¬ awN y s (dQ y) ≤ awN y b (dQ y) := Int32.not_le.mpr h1
        cases hf : frB y s
        · rw [hf] at es
          have e3 : bsF y (m + 1) s b = bsF y m (s + 1) b := by
            show bsF y m (s + 1) (if _ then s else b) = _
            rw [if_neg (fun g => by rw [hf] at g; cases g.2)]
          rw [e3]
          simp (disch := first | assumption | omega) only [z_bd, z_cal, z_gd, z_iT, z_iF, z_le_t, z_le_f, z_lt_t, z_lt_f, z_cl, z_inb, z_at, z_lit, nI_ii1, nI_add, z_mr, z_ref0, z_refn, z_eq_f, Bool.not_true, Bool.not_false, b2i_t, b2i_f, e2, z_bit (show dC y < 31 by omega), ew, h1', es]
          exact ih n (s + 1) b (by omega) (by omega) hb
        · rw [hf] at es
          have e3 : bsF y (m + 1) s b = bsF y m (s + 1) s := by
            show bsF y m (s + 1) (if _ then s else b) = _
            rw [if_pos ⟨h1, hf⟩]
          rw [e3]
          simp (disch := first | assumption | omega) only [z_bd, z_cal, z_gd, z_iT, z_iF, z_le_t, z_le_f, z_lt_t, z_lt_f, z_cl, z_inb, z_at, z_lit, nI_ii1, nI_add, z_mr, z_ref0, z_refn, z_eq_f, Bool.not_true, Bool.not_false, b2i_t, b2i_f, e2, z_bit (show dC y < 31 by omega), ew, h1', es]
          exact ih n (s + 1) s (by omega) (by omega) (by omega)
      · have h1' : awN y s (dQ y) ≤ awN y b (dQ y) := Int32.not_lt.mp h1
        have e3 : bsF y (m + 1) s b = bsF y m (s + 1) b := by
          show bsF y m (s + 1) (if _ then s else b) = _
          rw [if_neg (fun g => h1 g.1)]
        rw [e3]
        simp (disch := first | assumption | omega) only [z_bd, z_cal, z_gd, z_iT, z_iF, z_le_t, z_le_f, z_lt_t, z_lt_f, z_cl, z_inb, z_at, z_lit, nI_ii1, nI_add, z_mr, z_ref0, z_refn, z_eq_f, Bool.not_true, Bool.not_false, b2i_t, b2i_f, e2, z_bit (show dC y < 31 by omega), ew, h1']
        exact ih n (s + 1) b (by omega) (by omega) hb
  have h1 := key (2 ^ dC y - 1) FU 1 0 (by omega) (FU_lt (by omega)) (by omega)
  rw [awN_0] at h1
  exact h1
theorem q_fast (hP : OkD W y) (hD : CD M d y) {s : Nat} (hs : s < 64) : f_Deal_holdsFast d (nI s) M = some (b2i (stB y s), M) := by
  have w1 := hP.1
  have w2 := hP.2.1
  have e1 := hD.1
  have e2 := hD.2.1
  have inner : ∀ (k : Nat) (K : Int32 → kx_M → Option (Int32 × kx_M)), k < dC y → ∀ (m n q : Nat), q + m = dQ y → m < n → f_Deal_holdsFast_l22 d (nI s) K n (nI k) (nI q) M = if allF (fun q => !(s.testBit k) || decide (nI 0 ≤ gI y q k)) m q = true then K (nI (k + 1)) M else some (nI 0, M) := by
    intro k K hk m
    induction m with
    | zero =>
      intro n q hq hn
      obtain ⟨n, rfl, hn⟩ := z_succ hn
      obtain rfl : q = dQ y := by omega
      rw [f_Deal_holdsFast_l22]
      simp (disch := first | assumption | omega) only [z_bd, z_cal, z_gd, z_iT, z_iF, z_le_t, z_le_f, z_lt_t, z_lt_f, z_cl, z_inb, z_at, z_lit, nI_ii1, nI_add, z_mr, z_ref0, z_refn, z_eq_f, Bool.not_true, Bool.not_false, b2i_t, b2i_f, e1]
      exact (if_pos rfl).symm
    | succ m ih =>
      intro n q hq hn
      obtain ⟨n, rfl, hn⟩ := z_succ hn
      have ei := z_inSet (x := nI s) (show k < 32 by omega) M
      rw [bt_nI _ _ (by omega)] at ei
      have eo := q_winOne hP hD (show q < dQ y by omega) hk
      have h1 := ih n (q + 1) (by omega) (by omega)
      rw [f_Deal_holdsFast_l22]
      by_cases hb : s.testBit k = true
      · by_cases hg : nI 0 ≤ gI y q k
        · rw [allF_t (show (!(s.testBit k) || decide (nI 0 ≤ gI y q k)) = true by rw [decide_eq_true hg, Bool.or_true])]
          rw [hb] at ei
          simp (disch := first | assumption | omega) only [z_bd, z_cal, z_gd, z_iT, z_iF, z_le_t, z_le_f, z_lt_t, z_lt_f, z_cl, z_inb, z_at, z_lit, nI_ii1, nI_add, z_mr, z_ref0, z_refn, z_eq_f, Bool.not_true, Bool.not_false, b2i_t, b2i_f, e1, ei, eo, hg]
          exact h1
        · rw [allF_f (show (!(s.testBit k) || decide (nI 0 ≤ gI y q k)) = false by rw [decide_eq_false hg, hb]; rfl)]
          rw [hb] at ei
          simp (disch := first | assumption | omega) only [z_bd, z_cal, z_gd, z_iT, z_iF, z_le_t, z_le_f, z_lt_t, z_lt_f, z_cl, z_inb, z_at, z_lit, nI_ii1, nI_add, z_mr, z_ref0, z_refn, z_eq_f, Bool.not_true, Bool.not_false, b2i_t, b2i_f, e1, ei, eo, hg, Bool.false_eq_true]
      · have hb2 : s.testBit k = false := Bool.eq_false_iff.mpr hb
        rw [allF_t (show (!(s.testBit k) || decide (nI 0 ≤ gI y q k)) = true by rw [hb2]; rfl)]
        rw [hb2] at ei
        simp (disch := first | assumption | omega) only [z_bd, z_cal, z_gd, z_iT, z_iF, z_le_t, z_le_f, z_lt_t, z_lt_f, z_cl, z_inb, z_at, z_lit, nI_ii1, nI_add, z_mr, z_ref0, z_refn, z_eq_f, Bool.not_true, Bool.not_false, b2i_t, b2i_f, e1, ei]
        exact h1
  have outer : ∀ (m n k : Nat), k + m = dC y → m < n → allb (fun k => allb (fun q => !(s.testBit k) || decide (nI 0 ≤ gI y q k)) (dQ y)) k = true → f_Deal_holdsFast_l12 d (nI s) n (nI k) M = some (b2i (stQ y s), M) := by
    intro m
    induction m with
    | zero =>
      intro n k hk hn ha
      obtain ⟨n, rfl, hn⟩ := z_succ hn
      obtain rfl : k = dC y := by omega
      rw [f_Deal_holdsFast_l12]
      unfold stQ
      rw [ha]
      simp (disch := first | assumption | omega) only [z_bd, z_cal, z_gd, z_iT, z_iF, z_le_t, z_le_f, z_lt_t, z_lt_f, z_cl, z_inb, z_at, z_lit, nI_ii1, nI_add, z_mr, z_ref0, z_refn, z_eq_f, Bool.not_true, Bool.not_false, b2i_t, b2i_f, e2]
    | succ m ih =>
      intro n k hk hn ha
      obtain ⟨n, rfl, hn⟩ := z_succ hn
      have e := inner k (f_Deal_holdsFast_l12 d (nI s) n) (by omega) (dQ y) FU 0 (by omega) (FU_lt (by omega))
      have ef : allF (fun q => !(s.testBit k) || decide (nI 0 ≤ gI y q k)) (dQ y) 0 = allb (fun q => !(s.testBit k) || decide (nI 0 ≤ gI y q k)) (dQ y) := allF_allb _ _
      rw [ef] at e
      rw [f_Deal_holdsFast_l12]
      simp (disch := first | assumption | omega) only [z_bd, z_cal, z_gd, z_iT, z_iF, z_le_t, z_le_f, z_lt_t, z_lt_f, z_cl, z_inb, z_at, z_lit, nI_ii1, nI_add, z_mr, z_ref0, z_refn, z_eq_f, Bool.not_true, Bool.not_false, b2i_t, b2i_f, e2]
      rw [e]
      by_cases hc : allb (fun q => !(s.testBit k) || decide (nI 0 ≤ gI y q k)) (dQ y) = true
      · rw [if_pos hc]
        exact ih n (k + 1) (by omega) (by omega) (by simp only [allb, ha, hc, Bool.and_self])
      · rw [if_neg hc]
        unfold stQ
        rw [allb_false (show k < dC y by omega) (Bool.eq_false_iff.mpr hc)]
        rfl
  have e0 := q_sign hP hD hs
  have e3 := outer (dC y) FU 0 (by omega) (FU_lt (by omega)) rfl
  rw [f_Deal_holdsFast]
  unfold stB
  cases hf : frB y s
  · rw [hf] at e0
    simp (disch := first | assumption | omega) only [z_bd, z_cal, z_gd, z_iT, z_iF, z_le_t, z_le_f, z_lt_t, z_lt_f, z_cl, z_inb, z_at, z_lit, nI_ii1, nI_add, z_mr, z_ref0, z_refn, z_eq_f, Bool.not_true, Bool.not_false, b2i_t, b2i_f, e0, Bool.false_and]
  · rw [hf] at e0
    simp (disch := first | assumption | omega) only [z_bd, z_cal, z_gd, z_iT, z_iF, z_le_t, z_le_f, z_lt_t, z_lt_f, z_cl, z_inb, z_at, z_lit, nI_ii1, nI_add, z_mr, z_ref0, z_refn, z_eq_f, Bool.not_true, Bool.not_false, b2i_t, b2i_f, e0, Bool.true_and]
    exact e3
end
