/-! ## FRACTIONS: the walks to the common divisor -/
theorem jJ_toInt {n : Nat} (h : n < 2147483648) : (jJ n).toInt = (n : Int) := by
  unfold jJ
  rw [Int32.toInt_toInt64, nI_toInt (by omega)]
theorem jJ_of {v : Int64} {n : Nat} (h : n < 2147483648) (e : v.toInt = (n : Int)) : v = jJ n := Int64.toInt_inj.mp (e.trans (jJ_toInt h).symm)
theorem i64_bm {z : Int} (h1 : 0 ≤ z) (h2 : z < 9223372036854775808) : z.bmod (2 ^ 64) = z := Int.bmod_eq_of_le (by omega) (by omega)
theorem jJ_mul {a b : Nat} (h : a * b < 2147483648) (ha : a < 2147483648) (hb : b < 2147483648) : jJ a * jJ b = jJ (a * b) := jJ_of h (by
  rw [Int64.toInt_mul, jJ_toInt ha, jJ_toInt hb, ← Int.natCast_mul, i64_bm (by omega) (by omega)])
theorem jJ_sub {a b : Nat} (h : b ≤ a) (ha : a < 2147483648) : jJ a - jJ b = jJ (a - b) := jJ_of (by omega) (by
  rw [Int64.toInt_sub, jJ_toInt ha, jJ_toInt (by omega), i64_bm (by omega) (by omega)]
  omega)
theorem jJ_div {a b : Nat} (ha : a < 2147483648) (hb : b < 2147483648) : jJ a / jJ b = jJ (a / b) := jJ_of (Nat.lt_of_le_of_lt (Nat.div_le_self a b) ha) (by
  have h1 := Nat.div_le_self a b
  rw [Int64.toInt_div, jJ_toInt ha, jJ_toInt hb, ← Int.ofNat_tdiv]
  generalize a / b = q at h1 ⊢
  rw [i64_bm (by omega) (by omega)])
theorem jJ_rem {a b : Nat} (ha : a < 2147483648) (hb : b < 2147483648) : jJ a - jJ a / jJ b * jJ b = jJ (a % b) := by
  have h1 := Nat.div_mul_le_self a b
  have h2 := Nat.div_le_self a b
  rw [jJ_div ha hb, jJ_mul (by omega) (by omega) hb, jJ_sub h1 ha]
  congr 1
  have h3 := Nat.div_add_mod a b
  rw [Nat.mul_comm] at h3
  omega
theorem jJ_z {a : Nat} (h : a ≠ 0) (ha : a < 2147483648) : (jJ a = 0) = False := eq_false (fun e => by
  have h1 := jJ_toInt ha
  rw [e] at h1
  have h2 : (0 : Int64).toInt = 0 := rfl
  omega)
theorem jJ_0 : (jJ 0 = 0) = True := eq_true (by decide)
theorem nzJ_j {a : Nat} (h : a ≠ 0) (ha : a < 2147483648) : nzJ (jJ a) = true := decide_eq_true (by rw [jJ_z h ha]; exact (fun h => h))
theorem jJ_abs {a : Nat} (ha : a < 2147483648) : (if 0 < jJ a then jJ a else -jJ a) = jJ a := by
  by_cases h : a = 0
  · subst h; decide
  · refine if_pos ?_
    rw [Int64.lt_iff_toInt_lt, jJ_toInt ha]
    show (0 : Int) < _
    omega
theorem md_half {x y : Nat} (h : y < x) (hy : 0 < y) : 2 * (x % y) < x := by
  have h1 := Nat.div_add_mod x y
  have h2 := Nat.mod_lt x hy
  have h3 : 1 ≤ x / y := (Nat.le_div_iff_mul_le hy).mpr (by omega)
  have h4 : y * 1 ≤ y * (x / y) := Nat.mul_le_mul_left y h3
  omega
theorem gcd_s (x y : Nat) : Nat.gcd x y = Nat.gcd y (x % y) := by
  rw [Nat.gcd_comm x y, Nat.gcd_rec y x, Nat.gcd_comm]
def frT (a b : Nat) : Int64 := jJ (a / Nat.gcd a b)
def frU (a b : Nat) : Int64 := jJ (b / Nat.gcd a b)
section
variable {M M' : kx_M} {σ : Sg}
theorem q_tell_l9 {p1 p3 : Int64} : ∀ (m n x y i : Nat), y < 2 ^ m → x < 2147483648 → y < 2147483648 → i + 2 * m < 200 → 2 * m < n → f_KT_tellFraction_l9 p1 p3 n (jJ x) (jJ y) (nI i) M = f_KT_tellFraction_l45 p1 p3 (jJ (Nat.gcd x y)) M := by
  have z0 : ∀ (n x i : Nat), i < 200 → 0 < n → f_KT_tellFraction_l9 p1 p3 n (jJ x) (jJ 0) (nI i) M = f_KT_tellFraction_l45 p1 p3 (jJ x) M := by
    intro n x i hi hn
    obtain ⟨n, rfl, hn⟩ := z_succ hn
    rw [f_KT_tellFraction_l9]
    simp (disch := first | assumption | omega) only [z_bdn, z_caln, z_gdn, z_iT, z_iF, z_le_t, z_le_f, z_lt_t, z_lt_f, z_cl, z_inb, z_at, z_pl, z_lit, nI_ii1, nI_add, z_mr, z_ref0, z_refn, z_eq_f, Bool.not_true, Bool.not_false, b2i_t, b2i_f, lg_eq, jJ_0]
  have zs : ∀ (n x y i : Nat), i < 200 → x < 2147483648 → y < 2147483648 → y ≠ 0 → f_KT_tellFraction_l9 p1 p3 (n + 1) (jJ x) (jJ y) (nI i) M = f_KT_tellFraction_l9 p1 p3 n (jJ y) (jJ (x % y)) (nI (i + 1)) M := by
    intro n x y i hi hx hy h0
    rw [f_KT_tellFraction_l9]
    simp (disch := first | assumption | omega) only [z_bdn, z_caln, z_gdn, z_iT, z_iF, z_le_t, z_le_f, z_lt_t, z_lt_f, z_cl, z_inb, z_at, z_pl, z_lit, nI_ii1, nI_add, z_mr, z_ref0, z_refn, z_eq_f, Bool.not_true, Bool.not_false, b2i_t, b2i_f, lg_eq, jJ_z, nzJ_j, jJ_rem]
  intro m
  induction m with
  | zero =>
    intro n x y i hy hx _ hi hn
    obtain rfl : y = 0 := by rw [Nat.pow_zero] at hy; omega
    rw [Nat.gcd_zero_right]
    exact z0 n x i (by omega) (by omega)
  | succ m ih =>
    intro n x y i hy hx hy2 hi hn
    by_cases h0 : y = 0
    · subst h0
      rw [Nat.gcd_zero_right]
      exact z0 n x i (by omega) (by omega)
    obtain ⟨n, rfl, hn⟩ := z_succ hn
    rw [zs n x y i (by omega) hx hy2 h0, gcd_s x y]
    have hr := Nat.mod_lt x (Nat.pos_of_ne_zero h0)
    by_cases h1 : x % y = 0
    · rw [h1, Nat.gcd_zero_right]
      exact z0 n y (i + 1) (by omega) (by omega)
    obtain ⟨n, rfl, hn⟩ := z_succ (show 2 * m < n by omega)
    have h2 := md_half hr (Nat.pos_of_ne_zero h1)
    rw [Nat.pow_succ] at hy
    rw [zs n y (x % y) (i + 1) (by omega) hy2 (by omega) h1, gcd_s y (x % y)]
    exact ih n (x % y) (y % (x % y)) (i + 1 + 1) (by omega) (by omega) (by omega) (by omega) (by omega)
theorem q_tell {a b : Nat} (ha : a < 2147483648) (hb : b < 2147483648) (h0 : 0 < b) : f_KT_tellFraction (jJ a) (jJ b) M = some ((), sJ (sJ M 0 17 (frT a b)) 0 18 (frU a b)) := by
  have g := q_tell_l9 (M := M) (p1 := jJ a) (p3 := jJ b) 31 FU b a 0 ha hb ha (by omega) (FU_lt (by omega))
  have hg : Nat.gcd b a ≠ 0 := fun e => by have := Nat.eq_zero_of_gcd_eq_zero_left e; omega
  have hg2 : Nat.gcd b a ≤ b := Nat.gcd_le_left a h0
  rw [f_KT_tellFraction]
  refine Eq.trans g ?_
  rw [f_KT_tellFraction_l45]
  unfold frT frU
  rw [Nat.gcd_comm a b]
  simp (disch := first | assumption | omega) only [z_bdn, z_caln, z_gdn, z_iT, z_iF, z_le_t, z_le_f, z_lt_t, z_lt_f, z_cl, z_inb, z_at, z_pl, z_lit, nI_ii1, nI_add, z_mr, z_ref0, z_refn, z_eq_f, Bool.not_true, Bool.not_false, b2i_t, b2i_f, lg_eq, jJ_z, nzJ_j, jJ_div]
theorem IC_wF (a b : Int64) (h : IC M σ) : IC (sJ (sJ M 0 17 a) 0 18 b) (wF σ a b) := by
  obtain ⟨hO, s, t, hK, hS, ⟨a1, a2, a3, a4, a5⟩, hT, ⟨b1, b2⟩, ⟨c1, c2⟩, ⟨d1, d2⟩, hk, hw⟩ := h
  have ha := hK.ap
  have hF : Fr (fun id => id = 0) M (sJ (sJ M 0 17 a) 0 18 b) := Fr.tr (Fr.sJ rfl) (Fr.sJ rfl)
  refine ⟨hO, s, t, hK, CS_fr hF (fun id h1 h2 e => by omega) hS, ⟨a1, ?_, ?_, a4, a5⟩, fun q hq => CT_fr hF (by omega) (by omega) (hT q hq), ⟨b1, b2⟩, ⟨c1, fun i hi => CS_fr hF (fun id h1 h2 e => by omega) (c2 i hi)⟩, ⟨d1, d2⟩, hk, hw⟩
  · rw [mJ_sJ, if_neg (by decide), mJ_sJ, if_pos ⟨rfl, rfl⟩]; rfl
  · rw [mJ_sJ, if_pos ⟨rfl, rfl⟩]; rfl
theorem IM_wF (a b : Int64) (h : IM M σ) : IM (sJ (sJ M 135 2 a) 135 3 b) (wF σ a b) := by
  obtain ⟨hO, hS, ⟨a1, a2, a3, a4, a5⟩, hT, ⟨b1, b2⟩, ⟨c1, c2⟩, ⟨d1, d2⟩⟩ := h
  refine ⟨hO, hS, ⟨a1, ?_, ?_, a4, a5⟩, hT, ⟨b1, b2⟩, ⟨c1, c2⟩, ⟨d1, d2⟩⟩
  · rw [mJ_sJ, if_neg (by decide), mJ_sJ, if_pos ⟨rfl, rfl⟩]; rfl
  · rw [mJ_sJ, if_pos ⟨rfl, rfl⟩]; rfl
/-! the reference's -/
theorem q_frac_l9 {p1 p3 : Int64} : ∀ (m n x y : Nat), y < 2 ^ m → x < 2147483648 → y < 2147483648 → 2 * m < n → (x ≠ 0 ∨ y ≠ 0) → f_RM_fraction_l9 p1 p3 n (jJ x) (jJ y) M = some (nI 1, sJ (sJ M 135 2 (p1 / jJ (Nat.gcd x y))) 135 3 (p3 / jJ (Nat.gcd x y))) := by
  have z0 : ∀ (n x : Nat), 0 < n → x < 2147483648 → x ≠ 0 → f_RM_fraction_l9 p1 p3 n (jJ x) (jJ 0) M = some (nI 1, sJ (sJ M 135 2 (p1 / jJ x)) 135 3 (p3 / jJ x)) := by
    intro n x hn hx h0
    obtain ⟨n, rfl, hn⟩ := z_succ hn
    rw [f_RM_fraction_l9]
    simp (disch := first | assumption | omega) only [z_bdn, z_caln, z_gdn, z_iT, z_iF, z_le_t, z_le_f, z_lt_t, z_lt_f, z_cl, z_inb, z_at, z_pl, z_lit, nI_ii1, nI_add, nI_mul, z_eq_f, z_refuse, z_no, z_M00, b2i_t, b2i_f, lg_eq, jJ_0, nzJ_j]
  have zs : ∀ (n x y : Nat), x < 2147483648 → y < 2147483648 → y ≠ 0 → f_RM_fraction_l9 p1 p3 (n + 1) (jJ x) (jJ y) M = f_RM_fraction_l9 p1 p3 n (jJ y) (jJ (x % y)) M := by
    intro n x y hx hy h0
    rw [f_RM_fraction_l9]
    simp (disch := first | assumption | omega) only [z_bdn, z_caln, z_gdn, z_iT, z_iF, z_le_t, z_le_f, z_lt_t, z_lt_f, z_cl, z_inb, z_at, z_pl, z_lit, nI_ii1, nI_add, nI_mul, z_eq_f, z_refuse, z_no, z_M00, b2i_t, b2i_f, lg_eq, jJ_z, nzJ_j, jJ_rem]
  intro m
  induction m with
  | zero =>
    intro n x y hy hx _ hn hh
    obtain rfl : y = 0 := by rw [Nat.pow_zero] at hy; omega
    rw [Nat.gcd_zero_right]
    exact z0 n x (by omega) hx (by omega)
  | succ m ih =>
    intro n x y hy hx hy2 hn hh
    by_cases h0 : y = 0
    · subst h0
      rw [Nat.gcd_zero_right]
      exact z0 n x (by omega) hx (by omega)
    obtain ⟨n, rfl, hn⟩ := z_succ hn
    rw [zs n x y hx hy2 h0, gcd_s x y]
    have hr := Nat.mod_lt x (Nat.pos_of_ne_zero h0)
    by_cases h1 : x % y = 0
    · rw [h1, Nat.gcd_zero_right]
      exact z0 n y (by omega) hy2 h0
    obtain ⟨n, rfl, hn⟩ := z_succ (show 2 * m < n by omega)
    have h2 := md_half hr (Nat.pos_of_ne_zero h1)
    rw [Nat.pow_succ] at hy
    rw [zs n y (x % y) hy2 (by omega) h1, gcd_s y (x % y)]
    exact ih n (x % y) (y % (x % y)) (by omega) (by omega) (by omega) (by omega) (Or.inl h1)
theorem q_frac {a b : Nat} (ha : a < 2147483648) (hb : b < 2147483648) (h0 : 0 < b) : f_RM_fraction (jJ a) (jJ b) M = some (nI 1, sJ (sJ M 135 2 (frT a b)) 135 3 (frU a b)) := by
  have g := q_frac_l9 (M := M) (p1 := jJ a) (p3 := jJ b) 31 FU a b hb ha hb (FU_lt (by omega)) (Or.inr (by omega))
  have hg2 : Nat.gcd a b ≤ b := Nat.gcd_le_right a h0
  rw [f_RM_fraction, jJ_abs ha]
  rw [jJ_div ha (by omega), jJ_div hb (by omega)] at g
  simp (disch := first | assumption | omega) only [z_bdn, z_caln, z_gdn, z_iT, z_iF, z_le_t, z_le_f, z_lt_t, z_lt_f, z_cl, z_inb, z_at, z_pl, z_lit, nI_ii1, nI_add, nI_mul, z_eq_f, z_refuse, z_no, z_M00, b2i_t, b2i_f]
  exact g
/-! ## CHANCE -/
def o_chance (k p : Int32) (σ : Sg) : Int32 × Sg := oS (snS k p σ) (nI 0) (nI 1, wF (wS σ (nI 0)) (frT (flN k p σ (knT p.toNatClampNeg σ)) (4 ^ cnt (lkU (knT p.toNatClampNeg σ)) (cW (gX σ)))) (frU (flN k p σ (knT p.toNatClampNeg σ)) (4 ^ cnt (lkU (knT p.toNatClampNeg σ)) (cW (gX σ))))) σ
theorem pw_le8 {c W : Nat} (h : c ≤ W) (hW : W ≤ 8) : 0 < 4 ^ c ∧ 4 ^ c < 2147483648 := by
  have h1 : 4 ^ c ≤ 4 ^ 8 := Nat.pow_le_pow_right (by omega) (by omega)
  have h2 : (4 : Nat) ^ 8 = 65536 := by decide
  exact ⟨Nat.pow_pos (by omega), by omega⟩
theorem pC_chance (k p : Int32) : PC (f_KT_chance k p) (o_chance k p) := by
  intro M σ h
  have g := q_seenStatus h k p
  have lt := snS_lt k p σ
  rw [f_KT_chance]
  unfold o_chance
  cases hp : snS k p σ with
  | succ n =>
    rw [hp] at g
    refine ⟨_, ?_, IC_st (nI (n + 1)) h, Hi_st⟩
    simp (disch := first | assumption | omega) only [z_bdn, z_caln, z_gdn, z_iT, z_iF, z_le_t, z_le_f, z_lt_t, z_lt_f, z_cl, z_inb, z_at, z_pl, z_lit, nI_ii1, nI_add, z_mr, z_ref0, z_refn, z_eq_f, Bool.not_true, Bool.not_false, b2i_t, b2i_f, g, oS]
  | zero =>
    rw [hp] at g
    obtain ⟨hx, hy, h0⟩ := snS0 hp
    have h1 := IC_st (nI 0) h
    obtain ⟨s, t1, hK, hO, hC, hP, hD⟩ := IC_get h1
    have w2 := hP.2.1
    have w8 := hO.1.2
    obtain ⟨t, ht, rfl⟩ := ix_ex (by omega) hx
    obtain ⟨a, ha, rfl⟩ := ix_ex (by omega) hy
    have e1 : (nI t).toNatClampNeg = t := z_cl (by omega)
    have e2 : (nI a).toNatClampNeg = a := z_cl (by omega)
    rw [e1] at h0
    obtain ⟨M1, a1, a2, a3⟩ := q_lookAt h1 ha ht h0
    obtain ⟨M2, b1, b2, b3⟩ := q_count (hP.2.2.2.1 a ha).2.1 w8 (knT_lt h0) a2
    have hF := a3.tr b3
    have wl := wv_lt (L := dL (gY σ) a) (c := rnN (gY σ) a (dL (gY σ) a)) (kn := knT t σ) w8
    have u1 := q_unknown w8 (knT_lt h0) b2
    have cl := cnt_le (lkU (knT t σ)) (cW (gX σ))
    have u2 := sh4 (cnt (lkU (knT t σ)) (cW (gX σ))) (by omega)
    have u3 : f_KT_tellFraction (nI (wv (dL (gY σ) a) (rnN (gY σ) a (dL (gY σ) a)) (knT t σ) (cW (gX σ)) (dL (gY σ) a))).toInt64 (nI (4 ^ cnt (lkU (knT t σ)) (cW (gX σ)))).toInt64 M2 = _ := q_tell wl (pw_le8 cl w8).2 (pw_le8 cl w8).1
    unfold flN
    rw [e1, e2]
    refine ⟨_, ?_, IC_wF _ _ (IC_S h1 hF), Hi_st.tr ((hF.1.mono (fun id e => by show id < 135; omega)).tr (Fr.tr (Fr.sJ (by decide)) (Fr.sJ (by decide))))⟩
    simp (disch := first | assumption | omega) only [z_bdn, z_caln, z_gdn, z_iT, z_iF, z_le_t, z_le_f, z_lt_t, z_lt_f, z_cl, z_inb, z_at, z_pl, z_lit, nI_ii1, nI_add, z_mr, z_ref0, z_refn, z_eq_f, Bool.not_true, Bool.not_false, b2i_t, b2i_f, g, a1, b1, oS, u1, u2, u3]
theorem q_chance_l34 {W k t v : Nat} {kn : Nat → Option Nat} {M1 : kx_M} (hW : W ≤ 8) (hG : mA M 140 0 = nI W) (hk : ∀ j b, j < W → kn j = some b → b < 4) (h7 : ∀ j, j < W → mA M 147 j = oI (kn j)) (hv : v < 2147483648) (hf : f_RM_filling (nI k) M = some (nI v, M1)) : ∀ (m n j : Nat), j + m = W → m < n → f_RM_chance_l34 (nI k) (nI t) n (nI (4 ^ cnt (lkU kn) j)) (nI j) M = some (nI 1, sJ (sJ M1 135 2 (frT v (4 ^ cnt (lkU kn) W))) 135 3 (frU v (4 ^ cnt (lkU kn) W))) := by
  have zn : (nI 0 ≤ -nI 1) = False := eq_false (by decide)
  have b1 : b01 (nI 1) = true := by decide
  intro m
  induction m with
  | zero =>
    intro n j hj hn
    obtain ⟨n, rfl, hn⟩ := z_succ hn
    obtain rfl : j = W := by omega
    have cl := cnt_le (lkU kn) j
    have u3 : f_RM_fraction (nI v).toInt64 (nI (4 ^ cnt (lkU kn) j)).toInt64 M1 = _ := q_frac hv (pw_le8 cl hW).2 (pw_le8 cl hW).1
    rw [f_RM_chance_l34]
    simp (disch := first | assumption | omega) only [z_bdn, z_caln, z_gdn, z_iT, z_iF, z_le_t, z_le_f, z_lt_t, z_lt_f, z_cl, z_inb, z_at, z_pl, z_lit, nI_ii1, nI_add, nI_mul, z_eq_f, z_refuse, z_no, z_M00, b2i_t, b2i_f, hG, hf, u3, b1]
  | succ m ih =>
    intro n j hj hn
    obtain ⟨n, rfl, hn⟩ := z_succ hn
    have e7 := h7 j (by omega)
    have g := ih n (j + 1) (by omega) (by omega)
    rw [f_RM_chance_l34]
    cases hc : kn j with
    | none =>
      rw [cnt_succ, show lkU kn j = true from by unfold lkU; rw [hc]; rfl, if_pos rfl, Nat.pow_succ] at g
      rw [hc] at e7
      have e7 : mA M 147 j = -nI 1 := e7
      simp (disch := first | assumption | omega) only [z_bdn, z_caln, z_gdn, z_iT, z_iF, z_le_t, z_le_f, z_lt_t, z_lt_f, z_cl, z_inb, z_at, z_pl, z_lit, nI_ii1, nI_add, nI_mul, z_eq_f, z_refuse, z_no, z_M00, b2i_t, b2i_f, hG, e7, zn]
      exact g
    | some b =>
      have hb := hk j b (by omega) hc
      rw [cnt_succ, show lkU kn j = false from by unfold lkU; rw [hc]; rfl] at g
      rw [hc] at e7
      have e7 : mA M 147 j = nI b := e7
      simp (disch := first | assumption | omega) only [z_bdn, z_caln, z_gdn, z_iT, z_iF, z_le_t, z_le_f, z_lt_t, z_lt_f, z_cl, z_inb, z_at, z_pl, z_lit, nI_ii1, nI_add, nI_mul, z_eq_f, z_refuse, z_no, z_M00, b2i_t, b2i_f, hG, e7, Nat.mul_one]
      exact g
theorem pM_chance (k p : Int32) : PM (f_RM_chance k p) (o_chance k p) := by
  intro M σ h
  have h1 := IM_th (nI 0) h
  have g := q_whyNoFill h1 k p
  have lt := snS_lt k p σ
  have st : ∀ v, mI (sI (sI M 135 1 (nI 0)) 135 0 v) 135 0 = v := fun v => rfl
  rw [f_RM_chance]
  unfold o_chance
  cases hp : snS k p σ with
  | succ n =>
    rw [hp] at g
    refine ⟨_, ?_, IM_st (nI (n + 1)) h1, Lo_th.tr Lo_st⟩
    simp (disch := first | assumption | omega) only [z_bdn, z_caln, z_gdn, z_iT, z_iF, z_le_t, z_le_f, z_lt_t, z_lt_f, z_cl, z_inb, z_at, z_pl, z_lit, nI_ii1, nI_add, nI_mul, z_eq_f, z_refuse, z_no, z_M00, b2i_t, b2i_f, g, st, oS]
  | zero =>
    rw [hp] at g
    obtain ⟨hx, hy, h0⟩ := snS0 hp
    have hI := IM_00 h
    obtain ⟨hO, hC, hP, hD⟩ := IM_get hI
    have w2 := hP.2.1
    have w8 := hO.1.2
    obtain ⟨t, ht, rfl⟩ := ix_ex (by omega) hx
    obtain ⟨a, ha, rfl⟩ := ix_ex (by omega) hy
    have e1 : (nI t).toNatClampNeg = t := z_cl (by omega)
    have e2 : (nI a).toNatClampNeg = a := z_cl (by omega)
    rw [e1] at h0
    obtain ⟨M1, M2, a1, a7, a2, b1, b2⟩ := q_rdfill hI ha ht h0
    have hF : Fr (fun id => id = 147 ∨ id = 148 ∨ id = 149) (M00 M) M2 := (a2.mono (fun id e => Or.inl e)).tr (b2.mono (fun id e => Or.inr e))
    have st0 : mI (M00 M) 135 0 = nI 0 := rfl
    have hlo : Lo M M2 := Lo_00.tr (hF.mono (fun id e => by show 135 ≤ id; omega))
    have hI2 := IM_F hI hF (fun _ e => e)
    have wl := wv_lt (L := dL (gY σ) a) (c := rnN (gY σ) a (dL (gY σ) a)) (kn := knT t σ) w8
    have eG : mA M1 140 0 = nI (cW (gX σ)) := (congrFun (a2 140 (by decide)).2.2.1 0).trans hC.1
    have c1 := q_chance_l34 (t := t) w8 eG (knT_lt h0) a7 wl b1 (cW (gX σ)) FU 0 (by omega) (FU_lt (by omega))
    unfold flN
    rw [e1, e2]
    refine ⟨_, ?_, IM_wF _ _ hI2, hlo.tr (Fr.tr (Fr.sJ (by decide)) (Fr.sJ (by decide)))⟩
    simp (disch := first | assumption | omega) only [z_bdn, z_caln, z_gdn, z_iT, z_iF, z_le_t, z_le_f, z_lt_t, z_lt_f, z_cl, z_inb, z_at, z_pl, z_lit, nI_ii1, nI_add, nI_mul, z_eq_f, z_refuse, z_no, z_M00, b2i_t, b2i_f, g, st0, a1, oS]
    exact c1
end
