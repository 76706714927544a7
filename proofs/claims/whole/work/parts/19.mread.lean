/-! ## the reference's cloth: what it reads -/
theorem z_cmp_lt0 {a b : Int64} : (lg_cmp a b < 0) = (a < b) := propext (lg_cmp_lt a b)
theorem z_cmp_gt0 {a b : Int64} : (0 < lg_cmp a b) = (b < a) := propext (lg_cmp_gt a b)
section
variable {M : kx_M} {h : Nat → Int64} {x : Cl} {y : De}
theorem q_isUndone (hO : OkC x) (hC : MC (mA M 140) x) {r i : Nat} (hr : r < cR x) (hi : i < cW x) : f_RM_isUndone (nI (8 * r + i)) M = some (b2i (decide (cU x (8 * r + i) = 1)), M) := by
  obtain ⟨⟨w1, w2⟩, -, w3, -, -, hcell⟩ := hO
  obtain ⟨-, -, c3, -⟩ := hcell r i hr hi
  obtain ⟨-, -, m3, -⟩ := hC.2.2.2.2.2 r i hr hi
  rw [f_RM_isUndone]
  by_cases h1 : cU x (8 * r + i) = 1
  · simp (disch := first | assumption | omega) only [z_bd, z_cal, z_gd, z_iT, z_iF, z_le_t, z_le_f, z_lt_t, z_lt_f, z_cl, z_inb, z_at, z_pl, nI_lit, nI_ii1, nI_add, nI_mul, m3, h1, decide_true, b2i_t]
  · simp (disch := first | assumption | omega) only [z_bd, z_cal, z_gd, z_iT, z_iF, z_le_t, z_le_f, z_lt_t, z_lt_f, z_cl, z_inb, z_at, z_pl, nI_lit, nI_ii1, nI_add, nI_mul, m3, h1, z_eq_f, decide_false, b2i_f]
theorem q_isSaid_l3 (hO : OkC x) (hC : MC (mA M 140) x) (hP : OkD (cW x) y) (hD : MD (mA M 140) h y) {k r i : Nat} (hk : k < dC y) (hr : r < cR x) (hi : i < cW x) :
    ∀ (m n j : Nat), j + m = dL y k → m < n → allb (fun j => decide (cU x (8 * r + (i + j)) ≠ 1) && decide (cK x (8 * r + (i + j)) = dK y (5 * k + j))) j = true → i + j ≤ cW x →
    f_RM_isSaid_l3 (nI k) (nI r) (nI i) n (nI j) M = some (b2i (saidB x y k r i), M) := by
  have hcell := hO.2.2.2.2.2
  have w2 := hO.1.2
  have w3 := hO.2.2.1
  have d1 := hP.2.1
  have hl := hP.2.2.2.1 k hk
  have hkd := hP.2.2.2.2.1
  have e0 := hC.1
  have hMc := hC.2.2.2.2.2
  have e1 := (hD.2.2.2.1 k hk).2
  have hMk := hD.2.2.2.2.1
  intro m
  induction m with
  | zero =>
    intro n j hj hn hall hle
    obtain ⟨n, rfl, hn⟩ := z_succ hn
    obtain rfl : j = dL y k := by omega
    have hs : saidB x y k r i = true := by unfold saidB; rw [hall, decide_eq_true hle]; rfl
    rw [f_RM_isSaid_l3, hs]
    simp (disch := first | assumption | omega) only [z_bd, z_cal, z_gd, z_iT, z_iF, z_le_t, z_le_f, z_lt_t, z_lt_f, z_cl, z_inb, z_at, z_pl, nI_lit, nI_ii1, nI_add, nI_mul, e1]
    rfl
  | succ m ih =>
    intro n j hj hn hall hle
    obtain ⟨n, rfl, hn⟩ := z_succ hn
    have hjl : j < dL y k := by omega
    rw [f_RM_isSaid_l3]
    by_cases hij : i + j < cW x
    · obtain ⟨c1, -, c3, -⟩ := hcell r (i + j) hr hij
      obtain ⟨a1, -, a3, -⟩ := hMc r (i + j) hr hij
      have e5 := hMk k j hk hjl
      have c5 := hkd k j hk hjl
      have hu := q_isUndone hO hC hr hij
      by_cases h1 : cU x (8 * r + (i + j)) = 1
      · have hs : saidB x y k r i = false := by
          unfold saidB
          rw [allb_false hjl (by simp only [h1, ne_eq, not_true_eq_false, decide_false, Bool.false_and]), Bool.and_false]
        rw [decide_eq_true h1, b2i_t] at hu
        simp (disch := first | assumption | omega) only [z_bd, z_cal, z_gd, z_iT, z_iF, z_le_t, z_le_f, z_lt_t, z_lt_f, z_cl, z_inb, z_at, z_pl, nI_lit, nI_ii1, nI_add, nI_mul, e1, e0, hu, z_eq_f, hs, b2i_f]
      · rw [decide_eq_false h1, b2i_f] at hu
        by_cases h2 : cK x (8 * r + (i + j)) = dK y (5 * k + j)
        · simp (disch := first | assumption | omega) only [z_bd, z_cal, z_gd, z_iT, z_iF, z_le_t, z_le_f, z_lt_t, z_lt_f, z_cl, z_inb, z_at, z_pl, nI_lit, nI_ii1, nI_add, nI_mul, e1, e0, hu, a1, e5, h2]
          exact ih n (j + 1) (by omega) (by omega) (by simp only [allb, hall, ne_eq, h1, h2, not_false_eq_true, decide_true, Bool.and_self]) (by omega)
        · have hs : saidB x y k r i = false := by
            unfold saidB
            rw [allb_false hjl (by simp only [h2, decide_false, Bool.and_false]), Bool.and_false]
          simp (disch := first | assumption | omega) only [z_bd, z_cal, z_gd, z_iT, z_iF, z_le_t, z_le_f, z_lt_t, z_lt_f, z_cl, z_inb, z_at, z_pl, nI_lit, nI_ii1, nI_add, nI_mul, e1, e0, hu, a1, e5, z_eq_f, hs, b2i_f]
    · have hs : saidB x y k r i = false := by
        unfold saidB
        rw [decide_eq_false (by omega), Bool.false_and]
      simp (disch := first | assumption | omega) only [z_bd, z_cal, z_gd, z_iT, z_iF, z_le_t, z_le_f, z_lt_t, z_lt_f, z_cl, z_inb, z_at, z_pl, nI_lit, nI_ii1, nI_add, nI_mul, e1, e0, hs, b2i_f]
theorem q_isSaid (hO : OkC x) (hC : MC (mA M 140) x) (hP : OkD (cW x) y) (hD : MD (mA M 140) h y) {k r i : Nat} (hk : k < dC y) (hr : r < cR x) (hi : i < cW x) :
    f_RM_isSaid (nI k) (nI r) (nI i) M = some (b2i (saidB x y k r i), M) :=
  q_isSaid_l3 hO hC hP hD hk hr hi (dL y k) FU 0 (by omega) (FU_lt (by have := hP.2.2.2.1 k hk; omega)) rfl (by omega)
theorem q_MtimesIn (hO : OkC x) (hC : MC (mA M 140) x) (hP : OkD (cW x) y) (hD : MD (mA M 140) h y) {k r : Nat} (hk : k < dC y) (hr : r < cR x) :
    f_RM_timesIn (nI k) (nI r) M = some (nI (tms x y k r), M) := by
  have w2 := hO.1.2
  have e2 := hC.1
  have key : ∀ (m n i : Nat), i + m = cW x → m < n → f_RM_timesIn_l5 (nI k) (nI r) n (nI (cnt (saidB x y k r) i)) (nI i) M = some (nI (tms x y k r), M) := by
    intro m
    induction m with
    | zero =>
      intro n i hi hn
      obtain ⟨n, rfl, hn⟩ := z_succ hn
      obtain rfl : i = cW x := by omega
      rw [f_RM_timesIn_l5]
      simp (disch := first | assumption | omega) only [z_bd, z_cal, z_gd, z_iT, z_iF, z_le_t, z_le_f, z_lt_t, z_lt_f, z_cl, z_inb, z_at, z_pl, nI_lit, nI_ii1, nI_add, nI_mul, e2]
      rfl
    | succ m ih =>
      intro n i hi hn
      obtain ⟨n, rfl, hn⟩ := z_succ hn
      have h1 := ih n (i + 1) (by omega) (by omega)
      rw [cnt_succ] at h1
      rw [f_RM_timesIn_l5, q_isSaid hO hC hP hD hk hr (by omega)]
      cases hs : saidB x y k r i
      · rw [hs] at h1
        simp (disch := first | assumption | omega) only [z_bd, z_cal, z_gd, z_iT, z_iF, z_le_t, z_le_f, z_lt_t, z_lt_f, z_cl, z_inb, z_at, z_pl, nI_lit, nI_ii1, nI_add, nI_mul, e2, b2i_f]
        exact h1
      · rw [hs] at h1
        simp (disch := first | assumption | omega) only [z_bd, z_cal, z_gd, z_iT, z_iF, z_le_t, z_le_f, z_lt_t, z_lt_f, z_cl, z_inb, z_at, z_pl, nI_lit, nI_ii1, nI_add, nI_mul, e2, b2i_t, z_eq_f]
        exact h1
  exact key (cW x) FU 0 (by omega) (FU_lt (by omega))
theorem q_times (hO : OkC x) (hC : MC (mA M 140) x) (hP : OkD (cW x) y) (hD : MD (mA M 140) h y) {k : Nat} (hk : k < dC y) :
    f_RM_times (nI k) M = some (nI (sayN x y k), M) := by
  have w2 := hO.2.2.1
  have e2 := hC.2.2.1
  have key : ∀ (m n r : Nat), r + m = cR x → m < n → f_RM_times_l4 (nI k) n (nI (sumN (tms x y k) r)) (nI r) M = some (nI (sayN x y k), M) := by
    intro m
    induction m with
    | zero =>
      intro n r hr hn
      obtain ⟨n, rfl, hn⟩ := z_succ hn
      obtain rfl : r = cR x := by omega
      rw [f_RM_times_l4]
      simp (disch := first | assumption | omega) only [z_bd, z_cal, z_gd, z_iT, z_iF, z_le_t, z_le_f, z_lt_t, z_lt_f, z_cl, z_inb, z_at, z_pl, nI_lit, nI_ii1, nI_add, nI_mul, e2]
      rfl
    | succ m ih =>
      intro n r hr hn
      obtain ⟨n, rfl, hn⟩ := z_succ hn
      have h1 := ih n (r + 1) (by omega) (by omega)
      rw [f_RM_times_l4, q_MtimesIn hO hC hP hD hk (by omega)]
      simp (disch := first | assumption | omega) only [z_bd, z_cal, z_gd, z_iT, z_iF, z_le_t, z_le_f, z_lt_t, z_lt_f, z_cl, z_inb, z_at, z_pl, nI_lit, nI_ii1, nI_add, nI_mul, e2]
      exact h1
  exact key (cR x) FU 0 (by omega) (FU_lt (by omega))
theorem sayN_le (hO : OkC x) (y : De) (k : Nat) : sayN x y k ≤ 96 := by
  have h1 : sayN x y k ≤ 8 * cR x := sumN_le (fun r _ => tms_le hO k r)
  have := hO.2.2.1
  omega
theorem q_saidOnes (hO : OkC x) (hC : MC (mA M 140) x) (hP : OkD (cW x) y) (hD : MD (mA M 140) h y) :
    f_RM_saidOnes M = some (nI (sdSet x y), M) := by
  have w2 := hP.2.1
  have e2 := hD.2.1
  have key : ∀ (m n k : Nat), k + m = dC y → m < n → f_RM_saidOnes_l4 n (nI (setN (sdAny x y) k)) (nI k) M = some (nI (sdSet x y), M) := by
    intro m
    induction m with
    | zero =>
      intro n k hk hn
      obtain ⟨n, rfl, hn⟩ := z_succ hn
      obtain rfl : k = dC y := by omega
      rw [f_RM_saidOnes_l4]
      simp (disch := first | assumption | omega) only [z_bd, z_cal, z_gd, z_iT, z_iF, z_le_t, z_le_f, z_lt_t, z_lt_f, z_cl, z_inb, z_at, z_pl, nI_lit, nI_ii1, nI_add, nI_mul, e2]
      rfl
    | succ m ih =>
      intro n k hk hn
      obtain ⟨n, rfl, hn⟩ := z_succ hn
      have h1 := ih n (k + 1) (by omega) (by omega)
      have s1 := sayN_le hO y k
      rw [f_RM_saidOnes_l4, q_times hO hC hP hD (by omega)]
      by_cases hz : sayN x y k = 0
      · have hs : sdAny x y k = false := decide_eq_false (by omega)
        rw [show setN (sdAny x y) (k + 1) = setN (sdAny x y) k by simp only [setN, hs, Bool.false_eq_true, if_false, Nat.add_zero]] at h1
        simp (disch := first | assumption | omega) only [z_bd, z_cal, z_gd, z_iT, z_iF, z_le_t, z_le_f, z_lt_t, z_lt_f, z_cl, z_inb, z_at, z_pl, nI_lit, nI_ii1, nI_add, nI_mul, e2, nx_or, Nat.or_zero]
        exact h1
      · have hs : sdAny x y k = true := decide_eq_true (by omega)
        rw [show setN (sdAny x y) (k + 1) = setN (sdAny x y) k + 2 ^ k by simp only [setN, hs, if_true]] at h1
        simp (disch := first | assumption | omega) only [z_bd, z_cal, z_gd, z_iT, z_iF, z_le_t, z_le_f, z_lt_t, z_lt_f, z_cl, z_inb, z_at, z_pl, nI_lit, nI_ii1, nI_add, nI_mul, e2, z_bit (show k < 31 by omega), z_setor]
        exact h1
  exact key (dC y) FU 0 (by omega) (FU_lt (by omega))
/-! sums -/
theorem z_lay140 : kx_lay[140]? = some (1, 3840, []) := rfl
theorem q_sumOf_in {K : Int32 → Int32 → kx_M → Option (Int32 × kx_M)} {v : Nat} {u : Nat → Nat} (hO : OkC x) (hC : MC (mA M 140) x) (hv : (v = 0 ∧ u = cU x) ∨ (v = 1 ∧ u = cD x) ∨ (v = 2 ∧ u = fun p => if cU x p = 1 then 0 else cN x p)) {r A : Nat} (hr : r < cR x) :
    ∀ (m n i : Nat), i + m = cW x → m < n → f_RM_sumOf_l17 (nI v) K n (nI (A + sumN (fun i => u (8 * r + i)) i)) (nI r) (nI i) M = K (nI (A + sumN (fun i => u (8 * r + i)) (cW x))) (nI (r + 1)) M := by
  have hcell := hO.2.2.2.2.2
  have w2 := hO.1.2
  have w3 := hO.2.2.1
  have e2 := hC.1
  have hMc := hC.2.2.2.2.2
  intro m
  induction m with
  | zero =>
    intro n i hi hn
    obtain ⟨n, rfl, hn⟩ := z_succ hn
    obtain rfl : i = cW x := by omega
    rw [f_RM_sumOf_l17]
    simp (disch := first | assumption | omega) only [z_bd, z_cal, z_gd, z_iT, z_iF, z_le_t, z_le_f, z_lt_t, z_lt_f, z_cl, z_inb, z_at, z_pl, nI_lit, nI_ii1, nI_add, nI_mul, e2]
  | succ m ih =>
    intro n i hi hn
    obtain ⟨n, rfl, hn⟩ := z_succ hn
    have h1 := ih n (i + 1) (by omega) (by omega)
    obtain ⟨-, c2, c3, c4⟩ := hcell r i hr (by omega)
    obtain ⟨-, m2, m3, m4⟩ := hMc r i hr (by omega)
    have hun := q_isUndone hO hC hr (show i < cW x by omega)
    rw [f_RM_sumOf_l17]
    simp only [sumN, ← Nat.add_assoc] at h1
    rcases hv with ⟨rfl, rfl⟩ | ⟨rfl, rfl⟩ | ⟨rfl, rfl⟩
    · simp (disch := first | assumption | omega) only [z_bd, z_cal, z_gd, z_iT, z_iF, z_le_t, z_le_f, z_lt_t, z_lt_f, z_cl, z_inb, z_at, z_pl, nI_lit, nI_ii1, nI_add, nI_mul, e2, z_eq_f, f_RM_sumOf_l86, z_aIb z_lay140, m3]
      exact h1
    · simp (disch := first | assumption | omega) only [z_bd, z_cal, z_gd, z_iT, z_iF, z_le_t, z_le_f, z_lt_t, z_lt_f, z_cl, z_inb, z_at, z_pl, nI_lit, nI_ii1, nI_add, nI_mul, e2, z_eq_f, f_RM_sumOf_l86, z_aIb z_lay140, m4]
      exact h1
    · by_cases hz : cU x (8 * r + i) = 1
      · rw [decide_eq_true hz, b2i_t] at hun
        simp only [hz, if_true] at h1
        simp (disch := first | assumption | omega) only [z_bd, z_cal, z_gd, z_iT, z_iF, z_le_t, z_le_f, z_lt_t, z_lt_f, z_cl, z_inb, z_at, z_pl, nI_lit, nI_ii1, nI_add, nI_mul, e2, hun, z_eq_f]
        exact h1
      · rw [decide_eq_false hz, b2i_f] at hun
        simp only [hz, if_false] at h1
        simp (disch := first | assumption | omega) only [z_bd, z_cal, z_gd, z_iT, z_iF, z_le_t, z_le_f, z_lt_t, z_lt_f, z_cl, z_inb, z_at, z_pl, nI_lit, nI_ii1, nI_add, nI_mul, e2, hun, m2]
        exact h1
theorem q_sumOf {v : Nat} {u : Nat → Nat} (hO : OkC x) (hC : MC (mA M 140) x) (hv : (v = 0 ∧ u = cU x) ∨ (v = 1 ∧ u = cD x) ∨ (v = 2 ∧ u = fun p => if cU x p = 1 then 0 else cN x p)) :
    f_RM_sumOf (nI v) M = some (nI (sumRC u (cW x) (cR x)), M) := by
  have w2 := hO.1.2
  have w3 := hO.2.2.1
  have e2 := hC.2.2.1
  have key : ∀ (m n r : Nat), r + m = cR x → m < n → f_RM_sumOf_l4 (nI v) n (nI (sumRC u (cW x) r)) (nI r) M = some (nI (sumRC u (cW x) (cR x)), M) := by
    intro m
    induction m with
    | zero =>
      intro n r hr hn
      obtain ⟨n, rfl, hn⟩ := z_succ hn
      obtain rfl : r = cR x := by omega
      rw [f_RM_sumOf_l4]
      simp (disch := first | assumption | omega) only [z_bd, z_cal, z_gd, z_iT, z_iF, z_le_t, z_le_f, z_lt_t, z_lt_f, z_cl, z_inb, z_at, z_pl, nI_lit, nI_ii1, nI_add, nI_mul, e2]
    | succ m ih =>
      intro n r hr hn
      obtain ⟨n, rfl, hn⟩ := z_succ hn
      rw [f_RM_sumOf_l4]
      simp (disch := first | assumption | omega) only [z_bd, z_cal, z_gd, z_iT, z_iF, z_le_t, z_le_f, z_lt_t, z_lt_f, z_cl, z_inb, z_at, z_pl, nI_lit, nI_ii1, nI_add, nI_mul, e2]
      have h1 := q_sumOf_in (A := sumRC u (cW x) r) (K := f_RM_sumOf_l4 (nI v) n) hO hC hv (show r < cR x by omega) (cW x) FU 0 (by omega) (FU_lt (by omega))
      exact h1.trans (ih n (r + 1) (by omega) (by omega))
  exact key (cR x) FU 0 (by omega) (FU_lt (by omega))
theorem q_isLoose (hO : OkC x) (hC : MC (mA M 140) x) {r i : Nat} (hr : r < cR x) (hi : i < cW x) : f_RM_isLoose (nI (8 * r + i)) M = some (b2i (looseB x (8 * r + i)), M) := by
  have hun := q_isUndone hO hC hr hi
  obtain ⟨⟨w1, w2⟩, -, w3, -, -, hcell⟩ := hO
  obtain ⟨-, -, c3, c4⟩ := hcell r i hr hi
  obtain ⟨-, -, -, m4⟩ := hC.2.2.2.2.2 r i hr hi
  rw [f_RM_isLoose]
  unfold looseB
  by_cases h1 : cU x (8 * r + i) = 1
  · rw [decide_eq_true h1, b2i_t] at hun
    have h0 : ¬ cU x (8 * r + i) = 0 := by omega
    simp (disch := first | assumption | omega) only [z_bd, z_cal, z_gd, z_iT, z_iF, z_le_t, z_le_f, z_lt_t, z_lt_f, z_cl, z_inb, z_at, z_pl, nI_lit, nI_ii1, nI_add, nI_mul, hun, z_eq_f, h0, decide_false, Bool.false_and, b2i_f]
  · rw [decide_eq_false h1, b2i_f] at hun
    have h0 : cU x (8 * r + i) = 0 := by omega
    by_cases h2 : cD x (8 * r + i) = 0
    · simp (disch := first | assumption | omega) only [z_bd, z_cal, z_gd, z_iT, z_iF, z_le_t, z_le_f, z_lt_t, z_lt_f, z_cl, z_inb, z_at, z_pl, nI_lit, nI_ii1, nI_add, nI_mul, hun, m4, h0, h2, decide_true, Bool.and_self, b2i_t]
    · simp (disch := first | assumption | omega) only [z_bd, z_cal, z_gd, z_iT, z_iF, z_le_t, z_le_f, z_lt_t, z_lt_f, z_cl, z_inb, z_at, z_pl, nI_lit, nI_ii1, nI_add, nI_mul, hun, m4, h0, h2, z_eq_f, decide_true, decide_false, Bool.and_false, b2i_f]
end
