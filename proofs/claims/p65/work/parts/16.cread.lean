theorem nx_or (a b : Nat) : nI a ||| nI b = nI (a ||| b) := by
  apply Int32.toBitVec_inj.1
  show BitVec.ofNat 32 a ||| BitVec.ofNat 32 b = BitVec.ofNat 32 (a ||| b)
  apply BitVec.eq_of_getLsbD_eq
  intro i hi
  simp [hi]
theorem z_bit : ∀ {k : Nat}, k < 31 → nI 1 <<< (nI k &&& nI 31) = nI (2 ^ k) := by
  intro k hk
  exact (by decide +kernel : ∀ k, k < 31 → nI 1 <<< (nI k &&& nI 31) = nI (2 ^ k)) k hk
theorem setN_lt (p : Nat → Bool) (n : Nat) : setN p n < 2 ^ n := by
  induction n with
  | zero => exact Nat.one_pos
  | succ n ih =>
    show setN p n + (if p n then 2 ^ n else 0) < 2 ^ (n + 1)
    rw [Nat.pow_succ]
    split <;> omega
theorem setN_add {s n : Nat} (h : s < 2 ^ n) : s + 2 ^ n = s ||| 2 ^ n := by
  have := Nat.two_pow_add_eq_or_of_lt h 1
  rw [Nat.mul_one] at this
  rw [Nat.add_comm, this, Nat.or_comm]
theorem setN_bit (p : Nat → Bool) (n k : Nat) : (setN p n).testBit k = (decide (k < n) && p k) := by
  induction n with
  | zero => simp [setN]
  | succ n ih =>
    show (setN p n + (if p n then 2 ^ n else 0)).testBit k = _
    have hlt := setN_lt p n
    cases hp : p n
    · simp only [Bool.false_eq_true, if_false, Nat.add_zero, ih]
      by_cases hk : k = n
      · subst hk; simp [hp]
      · congr 1; exact decide_eq_decide.mpr (by omega)
    · simp only [if_true]
      rw [setN_add hlt, Nat.testBit_or, ih, Nat.testBit_two_pow]
      by_cases hk : k = n
      · subst hk; simp [hp]
      · rw [show decide (n = k) = false from decide_eq_false (fun e => hk e.symm), Bool.or_false]
        congr 1
        exact decide_eq_decide.mpr (by omega)
theorem z_setor (p : Nat → Bool) (n : Nat) : nI (setN p n) ||| nI (2 ^ n) = nI (setN p n + 2 ^ n) := by
  rw [nx_or, setN_add (setN_lt p n)]
theorem setN_congr {p q : Nat → Bool} {n : Nat} (h : ∀ k, k < n → p k = q k) : setN p n = setN q n := by
  induction n with
  | zero => rfl
  | succ n ih => show setN p n + _ = setN q n + _; rw [ih (fun k hk => h k (by omega)), h n (by omega)]
theorem setN_zero {p : Nat → Bool} {n : Nat} (h : ∀ k, k < n → p k = false) : setN p n = 0 := by
  induction n with
  | zero => rfl
  | succ n ih => show setN p n + _ = 0; rw [ih (fun k hk => h k (by omega)), h n (by omega)]; rfl
theorem setN_or (p q : Nat → Bool) (n : Nat) : setN p n ||| setN q n = setN (fun k => p k || q k) n := by
  apply Nat.eq_of_testBit_eq
  intro k
  rw [Nat.testBit_or, setN_bit, setN_bit, setN_bit]
  cases decide (k < n) <;> rfl
theorem b2i_t : b2i true = nI 1 := rfl
theorem b2i_f : b2i false = nI 0 := rfl
section
variable {M : kx_M} {c d : Nat} {x : Cl} {y : De}
theorem q_saysAt_l25 (hO : OkC x) (hC : CC M c x) (hP : OkD (cW x) y) (hD : CD M d y) {k r i : Nat} (hk : k < dC y) (hr : r < cR x) (hf : i + dL y k ≤ cW x) :
    ∀ (m n j : Nat), j + m = dL y k → m < n → allb (fun j => decide (cU x (8 * r + (i + j)) ≠ 1) && decide (cK x (8 * r + (i + j)) = dK y (5 * k + j))) j = true →
    f_Cloth_saysAt_l25 c d (nI k) (nI r) (nI i) n (nI (dL y k)) (nI j) M = some (b2i (allb (fun j => decide (cU x (8 * r + (i + j)) ≠ 1) && decide (cK x (8 * r + (i + j)) = dK y (5 * k + j))) (dL y k)), M) := by
  obtain ⟨⟨w1, w2⟩, -, r1, -, -, hcell⟩ := hO
  obtain ⟨-, d1, -, hlen, hkd, -⟩ := hP
  obtain ⟨hMW, -, -, -, -, hMc⟩ := hC
  obtain ⟨-, -, -, -, hMk, -⟩ := hD
  have hl := hlen k hk
  intro m
  induction m with
  | zero =>
    intro n j hj hn hall
    obtain ⟨n, rfl, hn⟩ := z_succ hn
    obtain rfl : j = dL y k := by omega
    rw [f_Cloth_saysAt_l25, hall]
    simp (disch := first | assumption | omega) only [z_bd, z_cal, z_gd, z_iT, z_iF, z_le_t, z_le_f, z_lt_t, z_lt_f, z_cl, z_inb, z_at, nI_lit, nI_ii1, nI_add, z_mr]
    rfl
  | succ m ih =>
    intro n j hj hn hall
    obtain ⟨n, rfl, hn⟩ := z_succ hn
    have hij : i + j < cW x := by omega
    have hjl : j < dL y k := by omega
    obtain ⟨c1, -, c3, -⟩ := hcell r (i + j) hr hij
    obtain ⟨e1, -, e3, -⟩ := hMc r (i + j) hr hij
    have e5 := hMk k j hk hjl
    have c5 := hkd k j hk hjl
    rw [f_Cloth_saysAt_l25]
    by_cases hu : cU x (8 * r + (i + j)) = 1
    · rw [allb_false hjl (by simp only [hu, ne_eq, not_true_eq_false, decide_false, Bool.false_and])]
      simp (disch := first | assumption | omega) only [z_bd, z_cal, z_gd, z_iT, z_iF, z_le_t, z_le_f, z_lt_t, z_lt_f, z_cl, z_inb, z_at, nI_lit, nI_ii1, nI_add, z_mr, e3, hu, b2i_f]
    · by_cases he : cK x (8 * r + (i + j)) = dK y (5 * k + j)
      · simp (disch := first | assumption | omega) only [z_bd, z_cal, z_gd, z_iT, z_iF, z_le_t, z_le_f, z_lt_t, z_lt_f, z_cl, z_inb, z_at, nI_lit, nI_ii1, nI_add, z_mr, e3, e1, e5, he, z_eq_f]
        exact ih n (j + 1) (by omega) (by omega) (by simp only [allb, hall, ne_eq, hu, he, not_false_eq_true, decide_true, Bool.and_self])
      · rw [allb_false hjl (by simp only [he, decide_false, Bool.and_false])]
        simp (disch := first | assumption | omega) only [z_bd, z_cal, z_gd, z_iT, z_iF, z_le_t, z_le_f, z_lt_t, z_lt_f, z_cl, z_inb, z_at, nI_lit, nI_ii1, nI_add, z_mr, e3, e1, e5, z_eq_f, b2i_f]
theorem q_saysAt (hO : OkC x) (hC : CC M c x) (hP : OkD (cW x) y) (hD : CD M d y) {k r i : Nat} (hk : k < dC y) (hr : r < cR x) (hi : i ≤ 8) :
    f_Cloth_saysAt c d (nI k) (nI r) (nI i) M = some (b2i (saidB x y k r i), M) := by
  have d1 := hP.2.1
  have hl := hP.2.2.2.1 k hk
  have w2 := hO.1.2
  have e1 := (hD.2.2.2.1 k hk).2
  have e2 := hC.1
  rw [f_Cloth_saysAt]
  unfold saidB
  by_cases hf : i + dL y k ≤ cW x
  · simp (disch := first | assumption | omega) only [z_bd, z_cal, z_gd, z_iT, z_iF, z_le_t, z_le_f, z_lt_t, z_lt_f, z_cl, z_inb, z_at, nI_lit, nI_ii1, nI_add, z_mr, e1, e2]
    rw [q_saysAt_l25 hO hC hP hD hk hr hf (dL y k) FU 0 (by omega) (FU_lt (by omega)) rfl, decide_eq_true hf]
    rfl
  · rw [decide_eq_false hf]
    simp (disch := first | assumption | omega) only [z_bd, z_cal, z_gd, z_iT, z_iF, z_le_t, z_le_f, z_lt_t, z_lt_f, z_cl, z_inb, z_at, nI_lit, nI_ii1, nI_add, z_mr, e1, e2]
    rfl
theorem cnt_succ (p : Nat → Bool) (n : Nat) : cnt p (n + 1) = cnt p n + (if p n then 1 else 0) := rfl
theorem q_timesIn_l6 (hO : OkC x) (hC : CC M c x) (hP : OkD (cW x) y) (hD : CD M d y) {k r : Nat} (hk : k < dC y) (hr : r < cR x) :
    ∀ (m n i : Nat), i + m = cW x → m < n → f_Cloth_timesIn_l6 c d (nI k) (nI r) n (nI (cnt (saidB x y k r) i)) (nI i) M = some (nI (tms x y k r), M) := by
  have w2 := hO.1.2
  have e2 := hC.1
  intro m
  induction m with
  | zero =>
    intro n i hi hn
    obtain ⟨n, rfl, hn⟩ := z_succ hn
    obtain rfl : i = cW x := by omega
    rw [f_Cloth_timesIn_l6]
    simp (disch := first | assumption | omega) only [z_bd, z_cal, z_gd, z_iT, z_iF, z_le_t, z_le_f, z_lt_t, z_lt_f, z_cl, z_inb, z_at, nI_lit, nI_ii1, nI_add, z_mr, e2]
    rfl
  | succ m ih =>
    intro n i hi hn
    obtain ⟨n, rfl, hn⟩ := z_succ hn
    have h1 := ih n (i + 1) (by omega) (by omega)
    rw [f_Cloth_timesIn_l6, q_saysAt hO hC hP hD hk hr (by omega)]
    rw [cnt_succ] at h1
    cases hs : saidB x y k r i
    · rw [hs] at h1
      simp (disch := first | assumption | omega) only [z_bd, z_cal, z_gd, z_iT, z_iF, z_le_t, z_le_f, z_lt_t, z_lt_f, z_cl, z_inb, z_at, nI_lit, nI_ii1, nI_add, z_mr, e2, b2i_f]
      exact h1
    · rw [hs] at h1
      simp (disch := first | assumption | omega) only [z_bd, z_cal, z_gd, z_iT, z_iF, z_le_t, z_le_f, z_lt_t, z_lt_f, z_cl, z_inb, z_at, nI_lit, nI_ii1, nI_add, z_mr, e2, b2i_t, z_eq_f]
      exact h1
theorem q_timesIn (hO : OkC x) (hC : CC M c x) (hP : OkD (cW x) y) (hD : CD M d y) {k r : Nat} (hk : k < dC y) (hr : r < cR x) :
    f_Cloth_timesIn c d (nI k) (nI r) M = some (nI (tms x y k r), M) := by
  have w2 := hO.1.2
  exact q_timesIn_l6 hO hC hP hD hk hr (cW x) FU 0 (by omega) (FU_lt (by omega))
theorem tms_le (hO : OkC x) (k r : Nat) : tms x y k r ≤ 8 := Nat.le_trans (cnt_le _ _) hO.1.2
theorem sumN_pos {f : Nat → Nat} {n : Nat} : 0 < sumN f n ↔ ∃ i, i < n ∧ 0 < f i := by
  induction n with
  | zero => exact ⟨fun h => absurd h (Nat.lt_irrefl 0), fun ⟨i, h, _⟩ => absurd h (by omega)⟩
  | succ n ih =>
    show 0 < sumN f n + f n ↔ _
    constructor
    · intro h
      by_cases h0 : 0 < f n
      · exact ⟨n, by omega, h0⟩
      · obtain ⟨i, h1, h2⟩ := ih.mp (by omega)
        exact ⟨i, by omega, h2⟩
    · rintro ⟨i, h1, h2⟩
      by_cases h3 : i = n
      · subst h3; omega
      · have := ih.mpr ⟨i, by omega, h2⟩
        omega
theorem q_saysAny_l2 (hO : OkC x) (hC : CC M c x) (hP : OkD (cW x) y) (hD : CD M d y) {k : Nat} (hk : k < dC y) :
    ∀ (m n r : Nat), r + m = cR x → m < n → sumN (tms x y k) r = 0 → f_Cloth_saysAnywhere_l2 c d (nI k) n (nI r) M = some (b2i (sdAny x y k), M) := by
  have w2 := hO.2.2.1
  have e2 := hC.2.2.1
  intro m
  induction m with
  | zero =>
    intro n r hr hn h0
    obtain ⟨n, rfl, hn⟩ := z_succ hn
    obtain rfl : r = cR x := by omega
    rw [f_Cloth_saysAnywhere_l2]
    simp (disch := first | assumption | omega) only [z_bd, z_cal, z_gd, z_iT, z_iF, z_le_t, z_le_f, z_lt_t, z_lt_f, z_cl, z_inb, z_at, nI_lit, nI_ii1, nI_add, z_mr, e2]
    have : sdAny x y k = false := decide_eq_false (by show ¬ 0 < sumN (tms x y k) (cR x); omega)
    rw [this]
    rfl
  | succ m ih =>
    intro n r hr hn h0
    obtain ⟨n, rfl, hn⟩ := z_succ hn
    have t1 := tms_le (y := y) hO k r
    rw [f_Cloth_saysAnywhere_l2, q_timesIn hO hC hP hD hk (by omega)]
    by_cases hz : tms x y k r = 0
    · simp (disch := first | assumption | omega) only [z_bd, z_cal, z_gd, z_iT, z_iF, z_le_t, z_le_f, z_lt_t, z_lt_f, z_cl, z_inb, z_at, nI_lit, nI_ii1, nI_add, z_mr, e2]
      exact ih n (r + 1) (by omega) (by omega) (by show sumN (tms x y k) r + tms x y k r = 0; omega)
    · have : sdAny x y k = true := decide_eq_true (sumN_pos.mpr ⟨r, by omega, by omega⟩)
      simp (disch := first | assumption | omega) only [z_bd, z_cal, z_gd, z_iT, z_iF, z_le_t, z_le_f, z_lt_t, z_lt_f, z_cl, z_inb, z_at, nI_lit, nI_ii1, nI_add, z_mr, e2, this]
      rfl
theorem q_saysAny (hO : OkC x) (hC : CC M c x) (hP : OkD (cW x) y) (hD : CD M d y) {k : Nat} (hk : k < dC y) :
    f_Cloth_saysAnywhere c d (nI k) M = some (b2i (sdAny x y k), M) := by
  have w2 := hO.2.2.1
  exact q_saysAny_l2 hO hC hP hD hk (cR x) FU 0 (by omega) (FU_lt (by omega)) rfl
theorem q_setIn_l5 (hO : OkC x) (hC : CC M c x) (hP : OkD (cW x) y) (hD : CD M d y) {r : Nat} (hr : r < cR x) :
    ∀ (m n k : Nat), k + m = dC y → m < n → f_Cloth_saidSetIn_l5 c d (nI r) n (nI (setN (fun k => decide (0 < tms x y k r)) k)) (nI k) M = some (nI (setN (fun k => decide (0 < tms x y k r)) (dC y)), M) := by
  have w2 := hP.2.1
  have e2 := hD.2.1
  intro m
  induction m with
  | zero =>
    intro n k hk hn
    obtain ⟨n, rfl, hn⟩ := z_succ hn
    obtain rfl : k = dC y := by omega
    rw [f_Cloth_saidSetIn_l5]
    simp (disch := first | assumption | omega) only [z_bd, z_cal, z_gd, z_iT, z_iF, z_le_t, z_le_f, z_lt_t, z_lt_f, z_cl, z_inb, z_at, nI_lit, nI_ii1, nI_add, z_mr, e2]
  | succ m ih =>
    intro n k hk hn
    obtain ⟨n, rfl, hn⟩ := z_succ hn
    have t1 := tms_le (y := y) hO k r
    have h1 := ih n (k + 1) (by omega) (by omega)
    rw [f_Cloth_saidSetIn_l5, q_timesIn hO hC hP hD (by omega) hr]
    by_cases hz : tms x y k r = 0
    · rw [show setN (fun k => decide (0 < tms x y k r)) (k + 1) = setN (fun k => decide (0 < tms x y k r)) k by simp only [setN, hz, Nat.lt_irrefl, decide_false, Bool.false_eq_true, if_false, Nat.add_zero]] at h1
      simp (disch := first | assumption | omega) only [z_bd, z_cal, z_gd, z_iT, z_iF, z_le_t, z_le_f, z_lt_t, z_lt_f, z_cl, z_inb, z_at, nI_lit, nI_ii1, nI_add, z_mr, e2]
      exact h1
    · rw [show setN (fun k => decide (0 < tms x y k r)) (k + 1) = setN (fun k => decide (0 < tms x y k r)) k + 2 ^ k by simp only [setN, Nat.pos_of_ne_zero hz, decide_true, if_true]] at h1
      simp (disch := first | assumption | omega) only [z_bd, z_cal, z_gd, z_iT, z_iF, z_le_t, z_le_f, z_lt_t, z_lt_f, z_cl, z_inb, z_at, nI_lit, nI_ii1, nI_add, z_mr, e2, z_bit (show k < 31 by omega), z_setor]
      exact h1
theorem q_setIn (hO : OkC x) (hC : CC M c x) (hP : OkD (cW x) y) (hD : CD M d y) {r : Nat} (hr : r < cR x) :
    f_Cloth_saidSetIn c d (nI r) M = some (nI (setN (fun k => decide (0 < tms x y k r)) (dC y)), M) := by
  have w2 := hP.2.1
  exact q_setIn_l5 hO hC hP hD hr (dC y) FU 0 (by omega) (FU_lt (by omega))
theorem q_saidSet_l4 (hO : OkC x) (hC : CC M c x) (hP : OkD (cW x) y) (hD : CD M d y) :
    ∀ (m n r : Nat), r + m = cR x → m < n → f_Cloth_saidSet_l4 c d n (nI (setN (fun k => decide (0 < sumN (tms x y k) r)) (dC y))) (nI r) M = some (nI (sdSet x y), M) := by
  have w2 := hO.2.2.1
  have e2 := hC.2.2.1
  intro m
  induction m with
  | zero =>
    intro n r hr hn
    obtain ⟨n, rfl, hn⟩ := z_succ hn
    obtain rfl : r = cR x := by omega
    rw [f_Cloth_saidSet_l4]
    simp (disch := first | assumption | omega) only [z_bd, z_cal, z_gd, z_iT, z_iF, z_le_t, z_le_f, z_lt_t, z_lt_f, z_cl, z_inb, z_at, nI_lit, nI_ii1, nI_add, z_mr, e2]
    rfl
  | succ m ih =>
    intro n r hr hn
    obtain ⟨n, rfl, hn⟩ := z_succ hn
    have h1 := ih n (r + 1) (by omega) (by omega)
    rw [f_Cloth_saidSet_l4, q_setIn hO hC hP hD (by omega)]
    simp (disch := first | assumption | omega) only [z_bd, z_cal, z_gd, z_iT, z_iF, z_le_t, z_le_f, z_lt_t, z_lt_f, z_cl, z_inb, z_at, nI_lit, nI_ii1, nI_add, z_mr, e2, nx_or, setN_or]
    rw [setN_congr (q := fun k => decide (0 < sumN (tms x y k) (r + 1)))]
    · exact h1
    · intro k _
      show (decide _ || decide _) = decide (0 < sumN (tms x y k) r + tms x y k r)
      rw [← Bool.decide_or]
      exact decide_eq_decide.mpr (by omega)
theorem q_saidSet (hO : OkC x) (hC : CC M c x) (hP : OkD (cW x) y) (hD : CD M d y) :
    f_Cloth_saidSet c d M = some (nI (sdSet x y), M) := by
  have w2 := hO.2.2.1
  have h1 := q_saidSet_l4 hO hC hP hD (cR x) FU 0 (by omega) (FU_lt (by omega))
  rw [show setN (fun k => decide (0 < sumN (tms x y k) 0)) (dC y) = 0 from setN_zero (fun k _ => decide_eq_false (Nat.lt_irrefl 0))] at h1
  exact h1
theorem q_sum_l15 {t : Nat} {u : Nat → Nat} {K : Int32 → Int32 → kx_M → Option (Int32 × kx_M)} (hO : OkC x) (hC : CC M c x) (ht : kx_lay[t]? = some (1, 96, [])) (hu : ∀ r i, r < cR x → i < cW x → mA M t (8 * r + i) = nI (u (8 * r + i))) {r A : Nat} (hr : r < cR x) :
    ∀ (m n i : Nat), i + m = cW x → m < n → f_Cloth_sum_l15 c t K n (nI (A + sumN (fun i => u (8 * r + i)) i)) (nI r) (nI i) M = K (nI (A + sumN (fun i => u (8 * r + i)) (cW x))) (nI (r + 1)) M := by
  have w2 := hO.1.2
  have w3 := hO.2.2.1
  have e2 := hC.1
  intro m
  induction m with
  | zero =>
    intro n i hi hn
    obtain ⟨n, rfl, hn⟩ := z_succ hn
    obtain rfl : i = cW x := by omega
    rw [f_Cloth_sum_l15]
    simp (disch := first | assumption | omega) only [z_bd, z_cal, z_gd, z_iT, z_iF, z_le_t, z_le_f, z_lt_t, z_lt_f, z_cl, z_inb, z_at, nI_lit, nI_ii1, nI_add, z_mr, e2]
  | succ m ih =>
    intro n i hi hn
    obtain ⟨n, rfl, hn⟩ := z_succ hn
    have h1 := ih n (i + 1) (by omega) (by omega)
    rw [f_Cloth_sum_l15]
    simp (disch := first | assumption | omega) only [z_bd, z_cal, z_gd, z_iT, z_iF, z_le_t, z_le_f, z_lt_t, z_lt_f, z_cl, z_inb, z_at, nI_lit, nI_ii1, nI_add, z_mr, e2, z_aIb ht, hu r i hr (by omega), Nat.add_assoc]
    exact h1
theorem q_sum {t : Nat} {u : Nat → Nat} (hO : OkC x) (hC : CC M c x) (ht : kx_lay[t]? = some (1, 96, [])) (hu : ∀ r i, r < cR x → i < cW x → mA M t (8 * r + i) = nI (u (8 * r + i))) :
    f_Cloth_sum c t M = some (nI (sumRC u (cW x) (cR x)), M) := by
  have w2 := hO.1.2
  have w3 := hO.2.2.1
  have e2 := hC.2.2.1
  have key : ∀ (m n r : Nat), r + m = cR x → m < n → f_Cloth_sum_l4 c t n (nI (sumRC u (cW x) r)) (nI r) M = some (nI (sumRC u (cW x) (cR x)), M) := by
    intro m
    induction m with
    | zero =>
      intro n r hr hn
      obtain ⟨n, rfl, hn⟩ := z_succ hn
      obtain rfl : r = cR x := by omega
      rw [f_Cloth_sum_l4]
      simp (disch := first | assumption | omega) only [z_bd, z_cal, z_gd, z_iT, z_iF, z_le_t, z_le_f, z_lt_t, z_lt_f, z_cl, z_inb, z_at, nI_lit, nI_ii1, nI_add, z_mr, e2]
    | succ m ih =>
      intro n r hr hn
      obtain ⟨n, rfl, hn⟩ := z_succ hn
      rw [f_Cloth_sum_l4]
      simp (disch := first | assumption | omega) only [z_bd, z_cal, z_gd, z_iT, z_iF, z_le_t, z_le_f, z_lt_t, z_lt_f, z_cl, z_inb, z_at, nI_lit, nI_ii1, nI_add, z_mr, e2]
      have h1 := q_sum_l15 (A := sumRC u (cW x) r) (K := f_Cloth_sum_l4 c t n) hO hC ht hu (show r < cR x by omega) (cW x) FU 0 (by omega) (FU_lt (by omega))
      rw [show sumRC u (cW x) r + sumN (fun i => u (8 * r + i)) 0 = sumRC u (cW x) r from rfl] at h1
      rw [h1]
      exact ih n (r + 1) (by omega) (by omega)
  exact key (cR x) FU 0 (by omega) (FU_lt (by omega))
theorem q_wornAll_l14 {K : Int32 → Int32 → kx_M → Option (Int32 × kx_M)} (hO : OkC x) (hC : CC M c x) {r A : Nat} (hr : r < cR x) :
    ∀ (m n i : Nat), i + m = cW x → m < n → f_Cloth_wornInAll_l14 c K n (nI (A + sumN (fun i => if cU x (8 * r + i) = 1 then 0 else cN x (8 * r + i)) i)) (nI r) (nI i) M = K (nI (A + sumN (fun i => if cU x (8 * r + i) = 1 then 0 else cN x (8 * r + i)) (cW x))) (nI (r + 1)) M := by
  obtain ⟨⟨w1, w2⟩, -, w3, -, -, hcell⟩ := hO
  have e2 := hC.1
  have hMc := hC.2.2.2.2.2
  intro m
  induction m with
  | zero =>
    intro n i hi hn
    obtain ⟨n, rfl, hn⟩ := z_succ hn
    obtain rfl : i = cW x := by omega
    rw [f_Cloth_wornInAll_l14]
    simp (disch := first | assumption | omega) only [z_bd, z_cal, z_gd, z_iT, z_iF, z_le_t, z_le_f, z_lt_t, z_lt_f, z_cl, z_inb, z_at, nI_lit, nI_ii1, nI_add, z_mr, e2]
  | succ m ih =>
    intro n i hi hn
    obtain ⟨n, rfl, hn⟩ := z_succ hn
    have h1 := ih n (i + 1) (by omega) (by omega)
    obtain ⟨-, c2, c3, -⟩ := hcell r i hr (by omega)
    obtain ⟨-, m2, m3, -⟩ := hMc r i hr (by omega)
    rw [f_Cloth_wornInAll_l14]
    simp only [sumN] at h1
    by_cases hz : cU x (8 * r + i) = 1
    · simp only [hz, if_true] at h1
      simp (disch := first | assumption | omega) only [z_bd, z_cal, z_gd, z_iT, z_iF, z_le_t, z_le_f, z_lt_t, z_lt_f, z_cl, z_inb, z_at, nI_lit, nI_ii1, nI_add, z_mr, e2, m3, hz, z_eq_f]
      exact h1
    · simp only [hz, if_false] at h1
      have hz0 : cU x (8 * r + i) = 0 := by omega
      simp (disch := first | assumption | omega) only [z_bd, z_cal, z_gd, z_iT, z_iF, z_le_t, z_le_f, z_lt_t, z_lt_f, z_cl, z_inb, z_at, nI_lit, nI_ii1, nI_add, z_mr, e2, m3, m2, hz0, Nat.add_assoc]
      exact h1
def wornR (x : Cl) : Nat := sumRC (fun p => if cU x p = 1 then 0 else cN x p) (cW x) (cR x)
theorem q_wornAll (hO : OkC x) (hC : CC M c x) : f_Cloth_wornInAll c M = some (nI (wornR x), M) := by
  have w2 := hO.1.2
  have w3 := hO.2.2.1
  have e2 := hC.2.2.1
  have key : ∀ (m n r : Nat), r + m = cR x → m < n → f_Cloth_wornInAll_l4 c n (nI (sumRC (fun p => if cU x p = 1 then 0 else cN x p) (cW x) r)) (nI r) M = some (nI (wornR x), M) := by
    intro m
    induction m with
    | zero =>
      intro n r hr hn
      obtain ⟨n, rfl, hn⟩ := z_succ hn
      obtain rfl : r = cR x := by omega
      rw [f_Cloth_wornInAll_l4]
      simp (disch := first | assumption | omega) only [z_bd, z_cal, z_gd, z_iT, z_iF, z_le_t, z_le_f, z_lt_t, z_lt_f, z_cl, z_inb, z_at, nI_lit, nI_ii1, nI_add, z_mr, e2]
      rfl
    | succ m ih =>
      intro n r hr hn
      obtain ⟨n, rfl, hn⟩ := z_succ hn
      rw [f_Cloth_wornInAll_l4]
      simp (disch := first | assumption | omega) only [z_bd, z_cal, z_gd, z_iT, z_iF, z_le_t, z_le_f, z_lt_t, z_lt_f, z_cl, z_inb, z_at, nI_lit, nI_ii1, nI_add, z_mr, e2]
      have h1 := q_wornAll_l14 (A := sumRC (fun p => if cU x p = 1 then 0 else cN x p) (cW x) r) (K := f_Cloth_wornInAll_l4 c n) hO hC (show r < cR x by omega) (cW x) FU 0 (by omega) (FU_lt (by omega))
      exact h1.trans (ih n (r + 1) (by omega) (by omega))
  exact key (cR x) FU 0 (by omega) (FU_lt (by omega))
def looseB (x : Cl) (p : Nat) : Bool := decide (cU x p = 0) && decide (cD x p = 0)
theorem q_loose (hO : OkC x) (hC : CC M c x) {r i : Nat} (hr : r < cR x) (hi : i < cW x) : f_Cloth_loose c (nI (8 * r + i)) M = some (b2i (looseB x (8 * r + i)), M) := by
  obtain ⟨⟨w1, w2⟩, -, w3, -, -, hcell⟩ := hO
  obtain ⟨-, -, c3, c4⟩ := hcell r i hr hi
  obtain ⟨-, -, m3, m4⟩ := hC.2.2.2.2.2 r i hr hi
  rw [f_Cloth_loose]
  unfold looseB
  by_cases h1 : cU x (8 * r + i) = 0
  · by_cases h2 : cD x (8 * r + i) = 0
    · simp (disch := first | assumption | omega) only [z_bd, z_cal, z_gd, z_iT, z_iF, z_le_t, z_le_f, z_lt_t, z_lt_f, z_cl, z_inb, z_at, nI_lit, nI_ii1, nI_add, z_mr, m3, m4, h1, h2, decide_true, Bool.and_self, b2i_t]
    · simp (disch := first | assumption | omega) only [z_bd, z_cal, z_gd, z_iT, z_iF, z_le_t, z_le_f, z_lt_t, z_lt_f, z_cl, z_inb, z_at, nI_lit, nI_ii1, nI_add, z_mr, m3, m4, h1, h2, z_eq_f, decide_true, decide_false, Bool.and_false, b2i_f]
  · simp (disch := first | assumption | omega) only [z_bd, z_cal, z_gd, z_iT, z_iF, z_le_t, z_le_f, z_lt_t, z_lt_f, z_cl, z_inb, z_at, nI_lit, nI_ii1, nI_add, z_mr, m3, h1, z_eq_f, decide_false, Bool.false_and, b2i_f]
def anyLs (x : Cl) : Bool := !(allb (fun r => allb (fun i => !(looseB x (8 * r + i))) (cW x)) (cR x))
theorem q_anyLs_l12 {K : Int32 → kx_M → Option (Int32 × kx_M)} (hO : OkC x) (hC : CC M c x) {r : Nat} (hr : r < cR x) :
    ∀ (m n i : Nat), i + m = cW x → m < n → allb (fun i => !(looseB x (8 * r + i))) i = true → f_Cloth_anyLoose_l12 c K n (nI r) (nI i) M = if allb (fun i => !(looseB x (8 * r + i))) (cW x) = true then K (nI (r + 1)) M else some (nI 1, M) := by
  have w2 := hO.1.2
  have w3 := hO.2.2.1
  have e2 := hC.1
  intro m
  induction m with
  | zero =>
    intro n i hi hn hall
    obtain ⟨n, rfl, hn⟩ := z_succ hn
    obtain rfl : i = cW x := by omega
    rw [f_Cloth_anyLoose_l12, if_pos hall]
    simp (disch := first | assumption | omega) only [z_bd, z_cal, z_gd, z_iT, z_iF, z_le_t, z_le_f, z_lt_t, z_lt_f, z_cl, z_inb, z_at, nI_lit, nI_ii1, nI_add, z_mr, e2]
  | succ m ih =>
    intro n i hi hn hall
    obtain ⟨n, rfl, hn⟩ := z_succ hn
    rw [f_Cloth_anyLoose_l12]
    simp (disch := first | assumption | omega) only [z_bd, z_cal, z_gd, z_iT, z_iF, z_le_t, z_le_f, z_lt_t, z_lt_f, z_cl, z_inb, z_at, nI_lit, nI_ii1, nI_add, z_mr, e2, q_loose hO hC hr (show i < cW x by omega)]
    cases hl : looseB x (8 * r + i)
    · simp (disch := first | assumption | omega) only [z_bd, z_cal, z_gd, z_iT, z_iF, z_le_t, z_le_f, z_lt_t, z_lt_f, z_cl, z_inb, z_at, nI_lit, nI_ii1, nI_add, z_mr, b2i_f]
      exact ih n (i + 1) (by omega) (by omega) (by simp only [allb, hall, hl, Bool.not_false, Bool.and_self])
    · have ha : allb (fun i => !(looseB x (8 * r + i))) (cW x) = false := allb_false (show i < cW x by omega) (by rw [hl]; rfl)
      rw [ha]
      simp (disch := first | assumption | omega) only [z_bd, z_cal, z_gd, z_iT, z_iF, z_le_t, z_le_f, z_lt_t, z_lt_f, z_cl, z_inb, z_at, nI_lit, nI_ii1, nI_add, z_mr, b2i_t, z_eq_f, Bool.false_eq_true]
theorem q_anyLs (hO : OkC x) (hC : CC M c x) : f_Cloth_anyLoose c M = some (b2i (anyLs x), M) := by
  have w2 := hO.1.2
  have w3 := hO.2.2.1
  have e2 := hC.2.2.1
  have key : ∀ (m n r : Nat), r + m = cR x → m < n → allb (fun r => allb (fun i => !(looseB x (8 * r + i))) (cW x)) r = true → f_Cloth_anyLoose_l2 c n (nI r) M = some (b2i (anyLs x), M) := by
    intro m
    induction m with
    | zero =>
      intro n r hr hn hall
      obtain ⟨n, rfl, hn⟩ := z_succ hn
      obtain rfl : r = cR x := by omega
      rw [f_Cloth_anyLoose_l2]
      unfold anyLs
      simp (disch := first | assumption | omega) only [z_bd, z_cal, z_gd, z_iT, z_iF, z_le_t, z_le_f, z_lt_t, z_lt_f, z_cl, z_inb, z_at, nI_lit, nI_ii1, nI_add, z_mr, e2, hall, Bool.not_true, b2i_f]
    | succ m ih =>
      intro n r hr hn hall
      obtain ⟨n, rfl, hn⟩ := z_succ hn
      rw [f_Cloth_anyLoose_l2]
      simp (disch := first | assumption | omega) only [z_bd, z_cal, z_gd, z_iT, z_iF, z_le_t, z_le_f, z_lt_t, z_lt_f, z_cl, z_inb, z_at, nI_lit, nI_ii1, nI_add, z_mr, e2]
      rw [show nI 0 = nI (0 : Nat) from rfl, q_anyLs_l12 (K := f_Cloth_anyLoose_l2 c n) hO hC (show r < cR x by omega) (cW x) FU 0 (by omega) (FU_lt (by omega)) rfl]
      by_cases ha : allb (fun i => !(looseB x (8 * r + i))) (cW x) = true
      · rw [if_pos ha]
        exact ih n (r + 1) (by omega) (by omega) (by simp only [allb, hall, ha, Bool.and_self])
      · rw [if_neg ha]
        unfold anyLs
        rw [allb_false (show r < cR x by omega) (Bool.eq_false_iff.mpr ha)]
        rfl
  exact key (cR x) FU 0 (by omega) (FU_lt (by omega)) rfl
end
