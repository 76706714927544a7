/-! ## SHORTEST: kinds and numbers -/
theorem dd4 (c a b : Nat) : c / 4 ^ a / 4 ^ b = c / 4 ^ (a + b) := by rw [Nat.div_div_eq_div_mul, ← Nat.pow_add]
theorem md_dg {c n j : Nat} (h : j < n) : c % 4 ^ n / 4 ^ j % 4 = c / 4 ^ j % 4 := by
  have h1 : 4 ^ n = 4 ^ j * 4 ^ (n - j) := by rw [← Nat.pow_add, show j + (n - j) = n by omega]
  rw [h1, Nat.mod_mul_right_div_self]
  have h2 : 4 ^ (n - j) = 4 * 4 ^ (n - j - 1) := by rw [← Nat.pow_succ', show (n - j - 1).succ = n - j by omega]
  rw [h2, Nat.mod_mul_right_mod]
theorem dg_all : ∀ {n X Y : Nat}, X < 4 ^ n → Y < 4 ^ n → (∀ j, j < n → X / 4 ^ j % 4 = Y / 4 ^ j % 4) → X = Y
  | 0, X, Y, hX, hY, _ => by rw [Nat.pow_zero] at hX hY; omega
  | n + 1, X, Y, hX, hY, h => by
    have h0 := h 0 (by omega)
    rw [Nat.pow_zero, Nat.div_one, Nat.div_one] at h0
    rw [Nat.pow_succ] at hX hY
    have h1 : X / 4 = Y / 4 := dg_all (n := n) (by omega) (by omega) (fun j hj => by
      have h2 := h (j + 1) (by omega)
      rw [Nat.pow_succ', ← Nat.div_div_eq_div_mul, ← Nat.div_div_eq_div_mul] at h2
      exact h2)
    omega
/-- a match of n kinds, kind by kind -/
theorem mt_dg {c d a n : Nat} (hd : d < 4 ^ a) (hn : n ≤ a) : c % 4 ^ n = d / 4 ^ (a - n) ↔ ∀ y, y < n → c / 4 ^ (n - 1 - y) % 4 = d / 4 ^ (a - 1 - y) % 4 := by
  have hY : d / 4 ^ (a - n) < 4 ^ n := by
    rw [Nat.div_lt_iff_lt_mul (Nat.pow_pos (by omega)), ← Nat.pow_add, show n + (a - n) = a by omega]
    exact hd
  have hX : c % 4 ^ n < 4 ^ n := Nat.mod_lt _ (Nat.pow_pos (by omega))
  constructor
  · intro h y hy
    have h1 : c % 4 ^ n / 4 ^ (n - 1 - y) % 4 = d / 4 ^ (a - n) / 4 ^ (n - 1 - y) % 4 := by rw [h]
    rw [md_dg (by omega), dd4, show a - n + (n - 1 - y) = a - 1 - y by omega] at h1
    exact h1
  · intro h
    refine dg_all hX hY (fun j hj => ?_)
    have h1 := h (n - 1 - j) (by omega)
    rw [show n - 1 - (n - 1 - j) = j by omega, show a - 1 - (n - 1 - j) = a - n + j by omega] at h1
    rw [md_dg hj, dd4]
    exact h1
/-- a clause within another one, kind by kind -/
theorem wi_dg {ci ck a b x : Nat} (hk : ck < 4 ^ a) (hx : x + a ≤ b) : ci / 4 ^ (b - a - x) % 4 ^ a = ck ↔ ∀ y, y < a → ck / 4 ^ (a - 1 - y) % 4 = ci / 4 ^ (b - 1 - (x + y)) % 4 := by
  have h0 := mt_dg (c := ci / 4 ^ (b - a - x)) hk (Nat.le_refl a)
  rw [Nat.sub_self, Nat.pow_zero, Nat.div_one] at h0
  rw [h0]
  refine forall_congr' (fun y => forall_congr' (fun hy => ?_))
  rw [dd4, show b - a - x + (a - 1 - y) = b - 1 - (x + y) by omega]
  exact eq_comm
/-- order by kinds is order by number -/
theorem lx_lt {c d m : Nat} (h : c / 4 ^ m < d / 4 ^ m) : c < d := by
  refine Nat.lt_of_not_le (fun hle => ?_)
  have := Nat.div_le_div_right (c := 4 ^ m) hle
  omega
theorem dv_s (c m : Nat) : c / 4 ^ m = 4 * (c / 4 ^ (m + 1)) + c / 4 ^ m % 4 := by
  rw [Nat.pow_succ, ← Nat.div_div_eq_div_mul]
  omega
/-! ## SHORTEST: the reference -/
section
variable {M M' : kx_M} {σ : Sg} {y : De} {h : Nat → Int64} {G : Nat → Int32}
theorem kd_dg {W k j : Nat} (hP : OkD W y) (hk : k < dC y) (hj : j < dL y k) : wC5 y k / 4 ^ (dL y k - 1 - j) % 4 = dK y (5 * k + j) := rn_lt4 hP hk hj
/-- what is written there -/
theorem MD_at {W k : Nat} (hD : MD G h y) (hk : k < dC y) : G (10 + k) = nI (dL y k) ∧ ∀ j, j < dL y k → G (16 + 5 * k + j) = nI (dK y (5 * k + j)) := ⟨(hD.2.2.2.1 k hk).2, fun j hj => hD.2.2.2.2.1 k j hk hj⟩
theorem q_within_l63 {W k i x : Nat} {K : Int32 → Int32 → Int32 → kx_M → Option (Int32 × kx_M)} (hP : OkD W y) (hD : MD (mA M 140) h y) (hk : k < dC y) (hi : i < dC y) (hx : x + dL y k ≤ dL y i) : ∀ (m n j : Nat), j + m = dL y k → m < n → (f_RM_isWithin_l63 (nI k) (nI i) K n (nI (dL y k)) (nI (dL y i)) (nI x) (nI 0) (nI j) M = K (nI (dL y k)) (nI (dL y i)) (nI (x + 1)) M) ∧ ((∀ t, j ≤ t → t < dL y k → dK y (5 * k + t) = dK y (5 * i + (x + t))) → f_RM_isWithin_l63 (nI k) (nI i) K n (nI (dL y k)) (nI (dL y i)) (nI x) (nI 1) (nI j) M = some (nI 1, M)) ∧ (¬ (∀ t, j ≤ t → t < dL y k → dK y (5 * k + t) = dK y (5 * i + (x + t))) → f_RM_isWithin_l63 (nI k) (nI i) K n (nI (dL y k)) (nI (dL y i)) (nI x) (nI 1) (nI j) M = K (nI (dL y k)) (nI (dL y i)) (nI (x + 1)) M) := by
  have w2 := hP.2.1
  have lk := hP.2.2.2.1 k hk
  have li := hP.2.2.2.1 i hi
  have n10 : (nI 1 = nI 0) = False := z_eq_f (by omega) (by omega) (by omega)
  intro m
  induction m with
  | zero =>
    intro n j hj hn
    obtain ⟨n, rfl, hn⟩ := z_succ hn
    obtain rfl : j = dL y k := by omega
    refine ⟨?_, fun _ => ?_, fun hh => absurd (fun t t1 t2 => absurd t2 (by omega)) hh⟩
    · rw [f_RM_isWithin_l63]
      simp (disch := first | assumption | omega) only [z_bdn, z_caln, z_gdn, z_iT, z_iF, z_le_t, z_le_f, z_lt_t, z_lt_f, z_cl, z_inb, z_at, z_pl, z_lit, nI_ii1, nI_add, nI_mul, z_eq_f, z_refuse, z_no, z_M00, b2i_t, b2i_f]
    · rw [f_RM_isWithin_l63]
      simp (disch := first | assumption | omega) only [z_bdn, z_caln, z_gdn, z_iT, z_iF, z_le_t, z_le_f, z_lt_t, z_lt_f, z_cl, z_inb, z_at, z_pl, z_lit, nI_ii1, nI_add, nI_mul, z_eq_f, z_refuse, z_no, z_M00, b2i_t, b2i_f, n10]
  | succ m ih =>
    intro n j hj hn
    obtain ⟨n, rfl, hn⟩ := z_succ hn
    obtain ⟨g0, g1, g2⟩ := ih n (j + 1) (by omega) (by omega)
    have e1 := (MD_at (W := W) hD hk).2 j (by omega)
    have e2 := (MD_at (W := W) hD hi).2 (x + j) (by omega)
    have k1 : dK y (5 * k + j) < 4 := hP.2.2.2.2.1 k j hk (by omega)
    have k2 : dK y (5 * i + (x + j)) < 4 := hP.2.2.2.2.1 i (x + j) hi (by omega)
    rw [← Nat.add_assoc (16 + 5 * i)] at e2
    refine ⟨?_, fun hh => ?_, fun hh => ?_⟩
    · rw [f_RM_isWithin_l63]
      simp (disch := first | assumption | omega) only [z_bdn, z_caln, z_gdn, z_iT, z_iF, z_le_t, z_le_f, z_lt_t, z_lt_f, z_cl, z_inb, z_at, z_pl, z_lit, nI_ii1, nI_add, nI_mul, z_eq_f, z_refuse, z_no, z_M00, b2i_t, b2i_f]
      exact g0
    · have hj2 := hh j (Nat.le_refl _) (by omega)
      have e3 : (nI (dK y (5 * k + j)) = nI (dK y (5 * i + (x + j)))) = True := eq_true (by rw [hj2])
      rw [f_RM_isWithin_l63]
      simp (disch := first | assumption | omega) only [z_bdn, z_caln, z_gdn, z_iT, z_iF, z_le_t, z_le_f, z_lt_t, z_lt_f, z_cl, z_inb, z_at, z_pl, z_lit, nI_ii1, nI_add, nI_mul, z_eq_f, z_refuse, z_no, z_M00, b2i_t, b2i_f, n10, e1, e2, e3]
      exact g1 (fun t t1 t2 => hh t (by omega) t2)
    · rw [f_RM_isWithin_l63]
      by_cases hj2 : dK y (5 * k + j) = dK y (5 * i + (x + j))
      · have e3 : (nI (dK y (5 * k + j)) = nI (dK y (5 * i + (x + j)))) = True := eq_true (by rw [hj2])
        simp (disch := first | assumption | omega) only [z_bdn, z_caln, z_gdn, z_iT, z_iF, z_le_t, z_le_f, z_lt_t, z_lt_f, z_cl, z_inb, z_at, z_pl, z_lit, nI_ii1, nI_add, nI_mul, z_eq_f, z_refuse, z_no, z_M00, b2i_t, b2i_f, n10, e1, e2, e3]
        refine g2 (fun hh2 => hh (fun t t1 t2 => ?_))
        by_cases he : t = j
        · rw [he]; exact hj2
        · exact hh2 t (by omega) t2
      · have e3 : (nI (dK y (5 * k + j)) = nI (dK y (5 * i + (x + j)))) = False := z_eq_f hj2 (by omega) (by omega)
        simp (disch := first | assumption | omega) only [z_bdn, z_caln, z_gdn, z_iT, z_iF, z_le_t, z_le_f, z_lt_t, z_lt_f, z_cl, z_inb, z_at, z_pl, z_lit, nI_ii1, nI_add, nI_mul, z_eq_f, z_refuse, z_no, z_M00, b2i_t, b2i_f, n10, e1, e2, e3]
        exact g0
theorem q_within_l48 {W k i : Nat} (hP : OkD W y) (hD : MD (mA M 140) h y) (hk : k < dC y) (hi : i < dC y) (hle : dL y k ≤ dL y i) : ∀ (m n x : Nat), x + m = dL y i - dL y k + 1 → m < n → ((∃ t, x ≤ t ∧ t + dL y k ≤ dL y i ∧ ∀ j, j < dL y k → dK y (5 * k + j) = dK y (5 * i + (t + j))) → f_RM_isWithin_l48 (nI k) (nI i) n (nI (dL y k)) (nI (dL y i)) (nI x) M = some (nI 1, M)) ∧ (¬ (∃ t, x ≤ t ∧ t + dL y k ≤ dL y i ∧ ∀ j, j < dL y k → dK y (5 * k + j) = dK y (5 * i + (t + j))) → f_RM_isWithin_l48 (nI k) (nI i) n (nI (dL y k)) (nI (dL y i)) (nI x) M = some (nI 0, M)) := by
  have w2 := hP.2.1
  have lk := hP.2.2.2.1 k hk
  have li := hP.2.2.2.1 i hi
  intro m
  induction m with
  | zero =>
    intro n x hx hn
    obtain ⟨n, rfl, hn⟩ := z_succ hn
    refine ⟨fun ⟨t, t1, t2, _⟩ => absurd t2 (by omega), fun _ => ?_⟩
    rw [f_RM_isWithin_l48]
    simp (disch := first | assumption | omega) only [z_bdn, z_caln, z_gdn, z_iT, z_iF, z_le_t, z_le_f, z_lt_t, z_lt_f, z_cl, z_inb, z_at, z_pl, z_lit, nI_ii1, nI_add, nI_mul, z_eq_f, z_refuse, z_no, z_M00, b2i_t, b2i_f]
  | succ m ih =>
    intro n x hx hn
    obtain ⟨n, rfl, hn⟩ := z_succ hn
    obtain ⟨g1, g2⟩ := ih n (x + 1) (by omega) (by omega)
    obtain ⟨-, a1, a2⟩ := q_within_l63 (K := f_RM_isWithin_l48 (nI k) (nI i) n) hP hD hk hi (show x + dL y k ≤ dL y i by omega) (dL y k) FU 0 (by omega) (FU_lt (by omega))
    rw [f_RM_isWithin_l48]
    by_cases hh : ∀ t, 0 ≤ t → t < dL y k → dK y (5 * k + t) = dK y (5 * i + (x + t))
    · refine ⟨fun _ => ?_, fun hn => absurd ⟨x, Nat.le_refl _, by omega, fun j hj => hh j (Nat.zero_le _) hj⟩ hn⟩
      simp (disch := first | assumption | omega) only [z_bdn, z_caln, z_gdn, z_iT, z_iF, z_le_t, z_le_f, z_lt_t, z_lt_f, z_cl, z_inb, z_at, z_pl, z_lit, nI_ii1, nI_add, nI_mul, z_eq_f, z_refuse, z_no, z_M00, b2i_t, b2i_f]
      exact a1 hh
    · refine ⟨fun ⟨t, t1, t2, t3⟩ => ?_, fun hn => ?_⟩
      · simp (disch := first | assumption | omega) only [z_bdn, z_caln, z_gdn, z_iT, z_iF, z_le_t, z_le_f, z_lt_t, z_lt_f, z_cl, z_inb, z_at, z_pl, z_lit, nI_ii1, nI_add, nI_mul, z_eq_f, z_refuse, z_no, z_M00, b2i_t, b2i_f]
        refine (a2 hh).trans (g1 ⟨t, ?_, t2, t3⟩)
        have : t ≠ x := fun e => hh (fun j _ hj => by rw [← e]; exact t3 j hj)
        omega
      · simp (disch := first | assumption | omega) only [z_bdn, z_caln, z_gdn, z_iT, z_iF, z_le_t, z_le_f, z_lt_t, z_lt_f, z_cl, z_inb, z_at, z_pl, z_lit, nI_ii1, nI_add, nI_mul, z_eq_f, z_refuse, z_no, z_M00, b2i_t, b2i_f]
        exact (a2 hh).trans (g2 (fun ⟨t, t1, t2⟩ => hn ⟨t, by omega, t2⟩))
theorem wit_x {W k i : Nat} (hP : OkD W y) (hk : k < dC y) (hi : i < dC y) (hle : dL y k ≤ dL y i) : (∃ t, 0 ≤ t ∧ t ≤ dL y i - dL y k ∧ wC5 y i / 4 ^ t % 4 ^ dL y k = wC5 y k) ↔ (∃ t, 0 ≤ t ∧ t + dL y k ≤ dL y i ∧ ∀ j, j < dL y k → dK y (5 * k + j) = dK y (5 * i + (t + j))) := by
  have ck := (wC5_lt hP hk).1
  have one : ∀ x, x + dL y k ≤ dL y i → (wC5 y i / 4 ^ (dL y i - dL y k - x) % 4 ^ dL y k = wC5 y k ↔ ∀ j, j < dL y k → dK y (5 * k + j) = dK y (5 * i + (x + j))) := by
    intro x hx
    rw [wi_dg ck hx]
    refine forall_congr' (fun j => forall_congr' (fun hj => ?_))
    rw [kd_dg hP hk hj, kd_dg hP hi (show x + j < dL y i by omega)]
  constructor
  · rintro ⟨t, -, t2, t3⟩
    refine ⟨dL y i - dL y k - t, Nat.zero_le _, by omega, (one (dL y i - dL y k - t) (by omega)).mp ?_⟩
    rw [show dL y i - dL y k - (dL y i - dL y k - t) = t by omega]
    exact t3
  · rintro ⟨x, -, x2, x3⟩
    exact ⟨dL y i - dL y k - x, Nat.zero_le _, by omega, (one x x2).mpr x3⟩
theorem q_witin {W k i : Nat} (hP : OkD W y) (hD : MD (mA M 140) h y) (hk : k < dC y) (hi : i < dC y) : f_RM_isWithin (nI k) (nI i) M = some (b2i (witB (dL y) (wC5 y) k i), M) := by
  have w2 := hP.2.1
  have lk := hP.2.2.2.1 k hk
  have li := hP.2.2.2.1 i hi
  have e1 := (MD_at (W := W) hD hk).1
  have e2 := (MD_at (W := W) hD hi).1
  have hw := witB_t (y := y) (k := k) (i := i) li.2.1
  have wf : ¬ (dL y k < dL y i ∨ (dL y k = dL y i ∧ i < k)) → witB (dL y) (wC5 y) k i = false := fun hn => by
    cases hb : witB (dL y) (wC5 y) k i with
    | false => rfl
    | true => exact absurd (hw.mp hb).1 hn
  have go : dL y k ≤ dL y i → (dL y k < dL y i ∨ (dL y k = dL y i ∧ i < k)) → f_RM_isWithin_l48 (nI k) (nI i) FU (nI (dL y k)) (nI (dL y i)) (nI 0) M = some (b2i (witB (dL y) (wC5 y) k i), M) := by
    intro hle hor
    obtain ⟨g1, g2⟩ := q_within_l48 hP hD hk hi hle (dL y i - dL y k + 1) FU 0 (by omega) (FU_lt (by omega))
    have hx := wit_x hP hk hi hle
    cases hb : witB (dL y) (wC5 y) k i with
    | true => exact g1 (hx.mp (hw.mp hb).2)
    | false => exact g2 (fun h3 => by rw [hw.mpr ⟨hor, hx.mpr h3⟩] at hb; cases hb)
  rw [f_RM_isWithin]
  rcases Nat.lt_trichotomy (dL y k) (dL y i) with hc | hc | hc
  · have hki : k ≠ i := fun e => by rw [e] at hc; omega
    have g := go (by omega) (Or.inl hc)
    simp (disch := first | assumption | omega) only [z_bdn, z_caln, z_gdn, z_iT, z_iF, z_le_t, z_le_f, z_lt_t, z_lt_f, z_cl, z_inb, z_at, z_pl, z_lit, nI_ii1, nI_add, nI_mul, z_eq_f, z_refuse, z_no, z_M00, b2i_t, b2i_f, e1, e2]
    exact g
  · by_cases hki : k = i
    · subst hki
      rw [wf (by omega)]
      simp (disch := first | assumption | omega) only [z_bdn, z_caln, z_gdn, z_iT, z_iF, z_le_t, z_le_f, z_lt_t, z_lt_f, z_cl, z_inb, z_at, z_pl, z_lit, nI_ii1, nI_add, nI_mul, z_eq_f, z_refuse, z_no, z_M00, b2i_t, b2i_f, e1, eq_self]
    · by_cases hik : i < k
      · have g := go (by omega) (Or.inr ⟨hc, hik⟩)
        rw [hc] at g e1
        simp (disch := first | assumption | omega) only [z_bdn, z_caln, z_gdn, z_iT, z_iF, z_le_t, z_le_f, z_lt_t, z_lt_f, z_cl, z_inb, z_at, z_pl, z_lit, nI_ii1, nI_add, nI_mul, z_eq_f, z_refuse, z_no, z_M00, b2i_t, b2i_f, e1, e2, eq_self]
        exact g
      · rw [wf (by omega)]
        rw [hc] at e1
        simp (disch := first | assumption | omega) only [z_bdn, z_caln, z_gdn, z_iT, z_iF, z_le_t, z_le_f, z_lt_t, z_lt_f, z_cl, z_inb, z_at, z_pl, z_lit, nI_ii1, nI_add, nI_mul, z_eq_f, z_refuse, z_no, z_M00, b2i_t, b2i_f, e1, e2, eq_self]
  · have hki : k ≠ i := fun e => by rw [e] at hc; omega
    rw [wf (by omega)]
    simp (disch := first | assumption | omega) only [z_bdn, z_caln, z_gdn, z_iT, z_iF, z_le_t, z_le_f, z_lt_t, z_lt_f, z_cl, z_inb, z_at, z_pl, z_lit, nI_ii1, nI_add, nI_mul, z_eq_f, z_refuse, z_no, z_M00, b2i_t, b2i_f, e1, e2]
/-! the kernel -/
theorem bt_clr {x : Int32} {k j : Nat} (hk : k < 31) (hj : j < 32) : bt (x &&& ((nI 1 <<< (nI k &&& nI 31)) ^^^ -nI 1)) j = (bt x j && decide (j ≠ k)) := by
  rw [b_and, b_xor, z_bit hk, bt_nI _ _ hj, Nat.testBit_two_pow, bt_m1 j hj]
  by_cases he : j = k
  · subst he; simp
  · have : ¬ k = j := fun e => he e.symm
    simp [he, this]
def kB (y : De) (S k i j : Nat) : Bool := if j < k then kR y S j else if j = k then S.testBit k && !(S.testBit k && anyb (fun t => S.testBit t && witB (dL y) (wC5 y) k t) i) else S.testBit j
theorem q_ker_l17 {W S k : Nat} {K : Int32 → Int32 → kx_M → Option (Int32 × kx_M)} (hP : OkD W y) (hD : MD (mA M 140) h y) (hk : k < dC y) : ∀ (m n i : Nat) (x : Int32), i + m = dC y → m < n → (∀ j, j < 32 → bt x j = kB y S k i j) → ∃ x', f_RM_kernel_l17 (nI S) K n x (nI k) (nI i) M = K x' (nI (k + 1)) M ∧ (∀ j, j < 32 → bt x' j = kB y S k (dC y) j) := by
  have w2 := hP.2.1
  have e3 : mA M 140 3 = nI (dC y) := hD.2.1
  intro m
  induction m with
  | zero =>
    intro n i x hi hn hx
    obtain ⟨n, rfl, hn⟩ := z_succ hn
    obtain rfl : i = dC y := by omega
    refine ⟨x, ?_, hx⟩
    rw [f_RM_kernel_l17]
    simp (disch := first | assumption | omega) only [z_bdn, z_caln, z_gdn, z_iT, z_iF, z_le_t, z_le_f, z_lt_t, z_lt_f, z_cl, z_inb, z_at, z_pl, z_lit, nI_ii1, nI_add, nI_mul, z_eq_f, z_refuse, z_no, z_M00, b2i_t, b2i_f, e3]
  | succ m ih =>
    intro n i x hi hn hx
    obtain ⟨n, rfl, hn⟩ := z_succ hn
    have hk1 : f_RM_has (nI S) (nI k) M = some (b2i (S.testBit k), M) := by rw [z_has (by omega), bt_nI S k (by omega)]
    have hi1 : f_RM_has (nI S) (nI i) M = some (b2i (S.testBit i), M) := by rw [z_has (by omega), bt_nI S i (by omega)]
    have hw := q_witin hP hD hk (show i < dC y by omega)
    have hs : ∀ j, kB y S k (i + 1) j = if j = k then S.testBit k && !(S.testBit k && (anyb (fun t => S.testBit t && witB (dL y) (wC5 y) k t) i || (S.testBit i && witB (dL y) (wC5 y) k i))) else kB y S k i j := by
      intro j
      unfold kB
      by_cases h1 : j = k
      · subst h1; rw [if_neg (Nat.lt_irrefl _), if_pos rfl, if_pos rfl]; rfl
      · rw [if_neg h1, if_neg h1, if_neg h1]
    have kk : kB y S k i k = (S.testBit k && !(S.testBit k && anyb (fun t => S.testBit t && witB (dL y) (wC5 y) k t) i)) := by
      unfold kB; rw [if_neg (Nat.lt_irrefl _), if_pos rfl]
    have same : (S.testBit k && (S.testBit i && witB (dL y) (wC5 y) k i)) = false → ∀ j, j < 32 → bt x j = kB y S k (i + 1) j := by
      intro hf j hj
      rw [hx j hj, hs j]
      by_cases h1 : j = k
      · subst h1
        rw [if_pos rfl, kk]
        revert hf
        cases S.testBit j <;> cases anyb (fun t => S.testBit t && witB (dL y) (wC5 y) j t) i <;> cases S.testBit i && witB (dL y) (wC5 y) j i <;> decide
      · rw [if_neg h1]
    rw [f_RM_kernel_l17]
    cases hkb : S.testBit k with
    | false =>
      rw [hkb] at hk1
      obtain ⟨x', a1, a2⟩ := ih n (i + 1) x (by omega) (by omega) (same (by rw [hkb]; rfl))
      refine ⟨x', ?_, a2⟩
      simp (disch := first | assumption | omega) only [z_bdn, z_caln, z_gdn, z_iT, z_iF, z_le_t, z_le_f, z_lt_t, z_lt_f, z_cl, z_inb, z_at, z_pl, z_lit, nI_ii1, nI_add, nI_mul, z_eq_f, z_refuse, z_no, z_M00, b2i_t, b2i_f, e3, hk1]
      exact a1
    | true =>
      rw [hkb] at hk1
      cases hib : S.testBit i with
      | false =>
        rw [hib] at hi1
        obtain ⟨x', a1, a2⟩ := ih n (i + 1) x (by omega) (by omega) (same (by rw [hib, hkb]; rfl))
        refine ⟨x', ?_, a2⟩
        simp (disch := first | assumption | omega) only [z_bdn, z_caln, z_gdn, z_iT, z_iF, z_le_t, z_le_f, z_lt_t, z_lt_f, z_cl, z_inb, z_at, z_pl, z_lit, nI_ii1, nI_add, nI_mul, z_eq_f, z_refuse, z_no, z_M00, b2i_t, b2i_f, e3, hk1, hi1]
        exact a1
      | true =>
        rw [hib] at hi1
        cases hwb : witB (dL y) (wC5 y) k i with
        | false =>
          rw [hwb] at hw
          obtain ⟨x', a1, a2⟩ := ih n (i + 1) x (by omega) (by omega) (same (by rw [hib, hkb, hwb]; rfl))
          refine ⟨x', ?_, a2⟩
          simp (disch := first | assumption | omega) only [z_bdn, z_caln, z_gdn, z_iT, z_iF, z_le_t, z_le_f, z_lt_t, z_lt_f, z_cl, z_inb, z_at, z_pl, z_lit, nI_ii1, nI_add, nI_mul, z_eq_f, z_refuse, z_no, z_M00, b2i_t, b2i_f, e3, hk1, hi1, hw]
          exact a1
        | true =>
          rw [hwb] at hw
          obtain ⟨x', a1, a2⟩ := ih n (i + 1) (x &&& ((nI 1 <<< (nI k &&& nI 31)) ^^^ -nI 1)) (by omega) (by omega) (fun j hj => by
            rw [bt_clr (by omega) hj, hx j hj, hs j]
            by_cases h1 : j = k
            · subst h1
              rw [if_pos rfl, decide_eq_false (fun e => e rfl), Bool.and_false, hib, hkb, hwb, Bool.and_self, Bool.or_true]
              rfl
            · rw [if_neg h1, decide_eq_true h1, Bool.and_true])
          refine ⟨x', ?_, a2⟩
          simp (disch := first | assumption | omega) only [z_bdn, z_caln, z_gdn, z_iT, z_iF, z_le_t, z_le_f, z_lt_t, z_lt_f, z_cl, z_inb, z_at, z_pl, z_lit, nI_ii1, nI_add, nI_mul, z_eq_f, z_refuse, z_no, z_M00, b2i_t, b2i_f, e3, hk1, hi1, hw]
          exact a1
theorem q_ker_l4 {W S : Nat} (hP : OkD W y) (hD : MD (mA M 140) h y) (hS : S < 2 ^ dC y) : ∀ (m n k : Nat) (x : Int32), k + m = dC y → m < n → (∀ j, j < 32 → bt x j = kB y S k 0 j) → ∃ x', f_RM_kernel_l4 (nI S) n x (nI k) M = some (x', M) ∧ (∀ j, j < 32 → bt x' j = kR y S j) := by
  have w2 := hP.2.1
  have e3 : mA M 140 3 = nI (dC y) := hD.2.1
  have hbig : ∀ j, dC y ≤ j → S.testBit j = false := fun j hj => Nat.testBit_lt_two_pow (Nat.lt_of_lt_of_le hS (Nat.pow_le_pow_right (by omega) hj))
  intro m
  induction m with
  | zero =>
    intro n k x hk hn hx
    obtain ⟨n, rfl, hn⟩ := z_succ hn
    obtain rfl : k = dC y := by omega
    refine ⟨x, ?_, fun j hj => ?_⟩
    · rw [f_RM_kernel_l4]
      simp (disch := first | assumption | omega) only [z_bdn, z_caln, z_gdn, z_iT, z_iF, z_le_t, z_le_f, z_lt_t, z_lt_f, z_cl, z_inb, z_at, z_pl, z_lit, nI_ii1, nI_add, nI_mul, z_eq_f, z_refuse, z_no, z_M00, b2i_t, b2i_f, e3]
    · rw [hx j hj]
      unfold kB
      by_cases h1 : j < dC y
      · rw [if_pos h1]
      · rw [if_neg h1]
        have h2 : kR y S j = false := by
          show (S.testBit j && _ && _) = false
          rw [hbig j (by omega)]; rfl
        rw [h2, hbig (dC y) (Nat.le_refl _), hbig j (by omega)]
        split <;> rfl
  | succ m ih =>
    intro n k x hk hn hx
    obtain ⟨n, rfl, hn⟩ := z_succ hn
    obtain ⟨x1, a1, a2⟩ := q_ker_l17 (K := f_RM_kernel_l4 (nI S) n) hP hD (show k < dC y by omega) (dC y) FU 0 x (by omega) (FU_lt (by omega)) hx
    obtain ⟨x', b1, b2⟩ := ih n (k + 1) x1 (by omega) (by omega) (fun j hj => by
      rw [a2 j hj]
      unfold kB
      by_cases h1 : j < k
      · rw [if_pos h1, if_pos (by omega)]
      · rw [if_neg h1]
        by_cases h2 : j = k
        · subst h2
          rw [if_pos rfl, if_pos (by omega)]
          show _ = (S.testBit j && decide (j < dC y) && !anyb (fun i => S.testBit i && witB (dL y) (wC5 y) j i) (dC y))
          rw [decide_eq_true (show j < dC y by omega), Bool.and_true]
          cases S.testBit j <;> cases anyb (fun i => S.testBit i && witB (dL y) (wC5 y) j i) (dC y) <;> rfl
        · rw [if_neg h2, if_neg (by omega)]
          by_cases h3 : j = k + 1
          · subst h3
            rw [if_pos rfl]
            show _ = (S.testBit (k + 1) && !(S.testBit (k + 1) && false))
            rw [Bool.and_false, Bool.not_false, Bool.and_true]
          · rw [if_neg h3])
    refine ⟨x', ?_, b2⟩
    rw [f_RM_kernel_l4]
    simp (disch := first | assumption | omega) only [z_bdn, z_caln, z_gdn, z_iT, z_iF, z_le_t, z_le_f, z_lt_t, z_lt_f, z_cl, z_inb, z_at, z_pl, z_lit, nI_ii1, nI_add, nI_mul, z_eq_f, z_refuse, z_no, z_M00, b2i_t, b2i_f, e3]
    exact a1.trans b1
theorem q_kernel {W S : Nat} (hP : OkD W y) (hD : MD (mA M 140) h y) (hS : S < 2 ^ dC y) : ∃ x', f_RM_kernel (nI S) M = some (x', M) ∧ (∀ j, j < 32 → bt x' j = kR y S j) := by
  have w2 := hP.2.1
  obtain ⟨x', a1, a2⟩ := q_ker_l4 hP hD hS (dC y) FU 0 (nI S) (by omega) (FU_lt (by omega)) (fun j hj => by
    rw [bt_nI S j hj]
    unfold kB
    rw [if_neg (Nat.not_lt_zero _)]
    by_cases h1 : j = 0
    · subst h1
      rw [if_pos rfl]
      show _ = (S.testBit 0 && !(S.testBit 0 && false))
      rw [Bool.and_false, Bool.not_false, Bool.and_true]
    · rw [if_neg h1])
  refine ⟨x', ?_, a2⟩
  rw [f_RM_kernel]
  simp (disch := first | assumption | omega) only [z_bdn, z_caln, z_gdn, z_iT, z_iF, z_le_t, z_le_f, z_lt_t, z_lt_f, z_cl, z_inb, z_at, z_pl, z_lit, nI_ii1, nI_add, nI_mul, z_eq_f, z_refuse, z_no, z_M00, b2i_t, b2i_f]
  exact a1
end
