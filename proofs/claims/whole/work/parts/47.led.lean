/-! ## the run of a clause as a number; the reference's next state -/
def rnN (y : De) (k : Nat) : Nat → Nat
  | 0 => 0
  | n + 1 => 4 * rnN y k n + dK y (5 * k + n)
theorem rnN_lt {W : Nat} {y : De} (hP : OkD W y) {k : Nat} (hk : k < dC y) : ∀ n, n ≤ dL y k → rnN y k n < 4 ^ n
  | 0, _ => Nat.one_pos
  | n + 1, h => by
    have h1 := rnN_lt hP hk n (by omega)
    have h2 : dK y (5 * k + n) < 4 := hP.2.2.2.2.1 k n hk (by omega)
    show 4 * rnN y k n + dK y (5 * k + n) < 4 ^ (n + 1)
    rw [Nat.pow_succ]
    omega
theorem rnN_div {W : Nat} {y : De} (hP : OkD W y) {k : Nat} (hk : k < dC y) (j : Nat) : ∀ m, j + m ≤ dL y k → rnN y k (j + m) / 4 ^ m = rnN y k j
  | 0, _ => by rw [Nat.pow_zero, Nat.div_one]; rfl
  | m + 1, h => by
    have h2 : dK y (5 * k + (j + m)) < 4 := hP.2.2.2.2.1 k (j + m) hk (by omega)
    show (4 * rnN y k (j + m) + dK y (5 * k + (j + m))) / 4 ^ (m + 1) = _
    rw [Nat.pow_succ, Nat.mul_comm (4 ^ m) 4, ← Nat.div_div_eq_div_mul, show (4 * rnN y k (j + m) + dK y (5 * k + (j + m))) / 4 = rnN y k (j + m) from by omega]
    exact rnN_div hP hk j m (by omega)
theorem rn_fO {W : Nat} {y : De} (hP : OkD W y) {k j : Nat} (hk : k < dC y) (hj : j ≤ dL y k) : fO (dL y k) (rnN y k (dL y k)) j = rnN y k j := by
  have h := rnN_div hP hk j (dL y k - j) (by omega)
  rw [show j + (dL y k - j) = dL y k from by omega] at h
  exact h
theorem rn_lt4 {W : Nat} {y : De} (hP : OkD W y) {k i : Nat} (hk : k < dC y) (hi : i < dL y k) : ltN (dL y k) (rnN y k (dL y k)) i = dK y (5 * k + i) := by
  have h := rn_fO hP hk (show i + 1 ≤ dL y k by omega)
  have h2 : dK y (5 * k + i) < 4 := hP.2.2.2.2.1 k i hk hi
  unfold fO at h
  unfold ltN
  rw [show dL y k - 1 - i = dL y k - (i + 1) from by omega, h]
  show (4 * rnN y k i + dK y (5 * k + i)) % 4 = _
  omega
def stL (y : De) (k x a : Nat) : Nat := ledN (dL y k) (rnN y k (dL y k)) x a
section
variable {M M' : kx_M} {σ : Sg} {x : Cl} {y : De} {h : Nat → Int64}
theorem z_shl1 : ∀ x, x < 32 → nI x <<< (nI 1 &&& nI 31) = nI (2 * x) := by decide +kernel
theorem q_led {W k z a : Nat} (hP : OkD W y) (hD : MD (mA M 140) h y) (hk : k < dC y) (hz : z ≤ 32) (ha : a < 4) : f_RM_led (nI k) (nI z) (nI a) M = some (nI (stL y k z a), M) := by
  have w2 := hP.2.1
  have hl := hP.2.2.2.1 k hk
  have eL := (hD.2.2.2.1 k hk).2
  rw [f_RM_led]
  unfold stL ledN
  by_cases hz2 : z = 32
  · rw [if_pos hz2, hz2]
    simp (disch := first | assumption | omega) only [z_bdn, z_caln, z_gdn, z_iT, z_iF, z_le_t, z_le_f, z_lt_t, z_lt_f, z_cl, z_inb, z_at, z_pl, z_lit, nI_ii1, nI_add, nI_mul, z_eq_f, z_refuse, z_no, z_M00, b2i_t, b2i_f]
  · rw [if_neg hz2]
    have key : ∀ (m n i r : Nat), i + m = dL y k → m < n → f_RM_led_l21 (nI k) (nI z) (nI a) n (nI (2 * z ||| 1)) (nI r) (nI i) M = some (nI (ledG (dL y k) (rnN y k (dL y k)) (2 * z ||| 1) a m i r), M) := by
      intro m
      induction m with
      | zero =>
        intro n i r hi hn
        obtain ⟨n, rfl, hn⟩ := z_succ hn
        obtain rfl : i = dL y k := by omega
        rw [f_RM_led_l21]
        simp (disch := first | assumption | omega) only [z_bdn, z_caln, z_gdn, z_iT, z_iF, z_le_t, z_le_f, z_lt_t, z_lt_f, z_cl, z_inb, z_at, z_pl, z_lit, nI_ii1, nI_add, nI_mul, z_eq_f, z_refuse, z_no, z_M00, b2i_t, b2i_f, eL]
        rfl
      | succ m ih =>
        intro n i r hi hn
        obtain ⟨n, rfl, hn⟩ := z_succ hn
        have h0 := ih n (i + 1) r (by omega) (by omega)
        have h1 := ih n (i + 1) (r ||| 2 ^ i) (by omega) (by omega)
        have hb : bt (nI (2 * z ||| 1)) i = (2 * z ||| 1).testBit i := bt_nI _ _ (by omega)
        have eK := hD.2.2.2.2.1 k i hk (by omega)
        have e4 := rn_lt4 hP hk (show i < dL y k by omega)
        have hK4 : dK y (5 * k + i) < 4 := hP.2.2.2.2.1 k i hk (by omega)
        rw [f_RM_led_l21]
        show _ = some (nI (if ((2 * z ||| 1).testBit i && ltN (dL y k) (rnN y k (dL y k)) i == a) = true then (if i + 1 = dL y k then 32 else ledG (dL y k) (rnN y k (dL y k)) (2 * z ||| 1) a m (i + 1) (r ||| 2 ^ i)) else ledG (dL y k) (rnN y k (dL y k)) (2 * z ||| 1) a m (i + 1) r), M)
        rw [e4]
        cases hs : (2 * z ||| 1).testBit i
        · rw [hs] at hb
          rw [Bool.false_and, if_neg (show ¬ (false = true) by decide)]
          simp (disch := first | assumption | omega) only [z_bdn, z_caln, z_gdn, z_iT, z_iF, z_le_t, z_le_f, z_lt_t, z_lt_f, z_cl, z_inb, z_at, z_pl, z_lit, nI_ii1, nI_add, nI_mul, z_eq_f, z_refuse, z_no, z_M00, b2i_t, b2i_f, eL, z_has (show i < 32 by omega), hb]
          exact h0
        · rw [hs] at hb
          rw [Bool.true_and]
          by_cases he : dK y (5 * k + i) = a
          · rw [if_pos (show (dK y (5 * k + i) == a) = true from beq_iff_eq.mpr he)]
            have eK' : mA M 140 (16 + 5 * k + i) = nI a := by rw [eK, he]
            by_cases hL : i + 1 = dL y k
            · rw [if_pos hL]
              simp (disch := first | assumption | omega) only [z_bdn, z_caln, z_gdn, z_iT, z_iF, z_le_t, z_le_f, z_lt_t, z_lt_f, z_cl, z_inb, z_at, z_pl, z_lit, nI_ii1, nI_add, nI_mul, z_eq_f, z_refuse, z_no, z_M00, b2i_t, b2i_f, eL, z_has (show i < 32 by omega), hb, eK', hL]
            · rw [if_neg hL]
              have hne : ¬ nI (i + 1) = nI (dL y k) := fun e => hL ((nI_eq (by omega) (by omega)).mp e)
              simp (disch := first | assumption | omega) only [z_bdn, z_caln, z_gdn, z_iT, z_iF, z_le_t, z_le_f, z_lt_t, z_lt_f, z_cl, z_inb, z_at, z_pl, z_lit, nI_ii1, nI_add, nI_mul, z_eq_f, z_refuse, z_no, z_M00, b2i_t, b2i_f, eL, z_has (show i < 32 by omega), hb, eK', hne, z_bit (show i < 31 by omega), nx_or]
              exact h1
          · rw [if_neg (show ¬ (dK y (5 * k + i) == a) = true from fun e => he (beq_iff_eq.mp e))]
            simp (disch := first | assumption | omega) only [z_bdn, z_caln, z_gdn, z_iT, z_iF, z_le_t, z_le_f, z_lt_t, z_lt_f, z_cl, z_inb, z_at, z_pl, z_lit, nI_ii1, nI_add, nI_mul, z_eq_f, z_refuse, z_no, z_M00, b2i_t, b2i_f, eL, z_has (show i < 32 by omega), hb, eK]
            exact h0
    have g := key (dL y k) FU 0 0 (by omega) (FU_lt (by omega))
    have hne : ¬ nI z = nI 32 := fun e => hz2 ((nI_eq (by omega) (by omega)).mp e)
    have es : nI z <<< (nI 1 &&& nI 31) = nI (2 * z) := z_shl1 z (by omega)
    simp (disch := first | assumption | omega) only [z_bdn, z_caln, z_gdn, z_iT, z_iF, z_le_t, z_le_f, z_lt_t, z_lt_f, z_cl, z_inb, z_at, z_pl, z_lit, nI_ii1, nI_add, nI_mul, z_eq_f, z_refuse, z_no, z_M00, b2i_t, b2i_f, hne, es, nx_or]
    exact g
end
