def rg (p : Int32) (a b : Nat) : Bool := decide ((a : Int) ≤ p.toInt) && decide (p.toInt ≤ b)
theorem rg_ex {p : Int32} {a b : Nat} (hb : b < 2147483648) (h : rg p a b = true) : ∃ n, a ≤ n ∧ n ≤ b ∧ p = nI n := by
  unfold rg at h
  rw [Bool.and_eq_true] at h
  have h1 := of_decide_eq_true h.1
  have h2 := of_decide_eq_true h.2
  refine ⟨p.toInt.toNat, by omega, by omega, Int32.toInt_inj.mp ?_⟩
  rw [nI_toInt (by omega)]
  omega
theorem rg_f {p : Int32} {a b : Nat} (ha : a < 2147483648) (hb : b < 2147483648) (h : rg p a b = false) : p < nI a ∨ (¬ p < nI a ∧ ¬ p ≤ nI b) := by
  have e : (p ≤ nI b) = (p.toInt ≤ b) := propext (Int32.le_iff_toInt_le.trans (by rw [nI_toInt (by omega)]))
  rw [i32_lt p ha, e]
  unfold rg at h
  rw [Bool.and_eq_false_iff] at h
  rcases h with h | h
  · have := of_decide_eq_false h; omega
  · have := of_decide_eq_false h; omega
theorem nI_pos0 {n : Nat} (h : n < 2147483648) : (nI n < nI 0) = False := eq_false (nI_pos (by omega))
section
variable {M : kx_M} {σ : Sg}
theorem IC_r {u : Int32} (v : Int32) (h : IC M (wS σ u)) : IC (sI M 0 13 v) (wS σ v) := by
  have h1 := IC_st v h
  exact h1
def o_wool (p : Int32) (σ : Sg) : Int32 × Sg := oG (ix p (dQ (gY σ))) 2 (nI (dO (gY σ) p.toNatClampNeg), wS σ (nI 0)) σ
theorem pC_wool (p : Int32) : PC (f_KT_wool p) (o_wool p) := by
  intro M σ h
  have g := q_noQueen h p
  rw [f_KT_wool]
  unfold o_wool
  cases hx : ix p (dQ (gY σ))
  · rw [hx] at g
    refine ⟨_, ?_, IC_st (nI 2) h, Hi_st⟩
    simp (disch := first | assumption | omega) only [z_bd, z_cal, z_gd, z_iT, z_iF, z_le_t, z_le_f, z_lt_t, z_lt_f, z_cl, z_inb, z_at, nI_lit, nI_ii1, nI_add, z_mr, z_ref0, z_refn, z_eq_f, Bool.not_true, Bool.not_false, b2i_t, b2i_f, g, f_KT_wool_l14, oG]
  · rw [hx] at g
    have h1 := IC_st (nI 0) h
    obtain ⟨hO, s, t, hK, hS, -⟩ := h1
    have w3 : dQ (gY σ) ≤ 4 := hO.1.2.2.1.1
    obtain ⟨r, hr, rfl⟩ := ix_ex (by omega) hx
    have e : mA (sI M 0 13 (nI 0)) (s + 2) r = nI (dO (gY σ) r) := (hS.2.1.2.2.1 r hr).1
    refine ⟨_, ?_, IC_st (nI 0) h, Hi_st⟩
    simp (disch := first | assumption | omega) only [z_bd, z_cal, z_gd, z_iT, z_iF, z_le_t, z_le_f, z_lt_t, z_lt_f, z_cl, z_inb, z_at, nI_lit, nI_ii1, nI_add, z_mr, z_ref0, z_refn, z_eq_f, Bool.not_true, Bool.not_false, b2i_t, b2i_f, g, f_KT_wool_l14, hK.1, hK.s1, e, oG]
def o_length (p : Int32) (σ : Sg) : Int32 × Sg := oG (ix p (dC (gY σ))) 2 (nI (dL (gY σ) p.toNatClampNeg), wS σ (nI 0)) σ
theorem pC_length (p : Int32) : PC (f_KT_length p) (o_length p) := by
  intro M σ h
  have g := q_noClause h p
  rw [f_KT_length]
  unfold o_length
  cases hx : ix p (dC (gY σ))
  · rw [hx] at g
    refine ⟨_, ?_, IC_st (nI 2) h, Hi_st⟩
    simp (disch := first | assumption | omega) only [z_bd, z_cal, z_gd, z_iT, z_iF, z_le_t, z_le_f, z_lt_t, z_lt_f, z_cl, z_inb, z_at, nI_lit, nI_ii1, nI_add, z_mr, z_ref0, z_refn, z_eq_f, Bool.not_true, Bool.not_false, b2i_t, b2i_f, g, f_KT_length_l14, oG]
  · rw [hx] at g
    have h1 := IC_st (nI 0) h
    obtain ⟨hO, s, t, hK, hS, -⟩ := h1
    have w3 : dC (gY σ) ≤ 6 := hO.1.2.2.1.2.1
    obtain ⟨r, hr, rfl⟩ := ix_ex (by omega) hx
    have e : mA (sI M 0 13 (nI 0)) (s + 5) r = nI (dL (gY σ) r) := (hS.2.1.2.2.2.1 r hr).2
    refine ⟨_, ?_, IC_st (nI 0) h, Hi_st⟩
    simp (disch := first | assumption | omega) only [z_bd, z_cal, z_gd, z_iT, z_iF, z_le_t, z_le_f, z_lt_t, z_lt_f, z_cl, z_inb, z_at, nI_lit, nI_ii1, nI_add, z_mr, z_ref0, z_refn, z_eq_f, Bool.not_true, Bool.not_false, b2i_t, b2i_f, g, f_KT_length_l14, hK.1, hK.s1, e, oG]
def o_kind (p q : Int32) (σ : Sg) : Int32 × Sg := oG (ix p (dC (gY σ))) 2 (oG (ix q (dL (gY σ) p.toNatClampNeg)) 8 (nI (dK (gY σ) (5 * p.toNatClampNeg + q.toNatClampNeg)), wS σ (nI 0)) σ) σ
theorem pC_kind (p q : Int32) : PC (f_KT_kind p q) (o_kind p q) := by
  intro M σ h
  have g := q_noClause h p
  rw [f_KT_kind]
  unfold o_kind
  cases hx : ix p (dC (gY σ))
  · rw [hx] at g
    refine ⟨_, ?_, IC_st (nI 2) h, Hi_st⟩
    simp (disch := first | assumption | omega) only [z_bd, z_cal, z_gd, z_iT, z_iF, z_le_t, z_le_f, z_lt_t, z_lt_f, z_cl, z_inb, z_at, nI_lit, nI_ii1, nI_add, z_mr, z_ref0, z_refn, z_eq_f, Bool.not_true, Bool.not_false, b2i_t, b2i_f, g, f_KT_kind_l38, oG]
  · rw [hx] at g
    have h2 := h
    obtain ⟨hO, s, t, hK, hS, -⟩ := h2
    have w3 : dC (gY σ) ≤ 6 := hO.1.2.2.1.2.1
    obtain ⟨r, hr, rfl⟩ := ix_ex (by omega) hx
    have e : mA M (s + 5) r = nI (dL (gY σ) r) := (hS.2.1.2.2.2.1 r hr).2
    have lb : dL (gY σ) r ≤ 5 := (hO.1.2.2.1.2.2.2.1 r hr).2.1
    have ec : (nI r).toNatClampNeg = r := z_cl (by omega)
    rw [ec]
    cases hy : ix q (dL (gY σ) r)
    · refine ⟨_, ?_, IC_st (nI 8) h, Hi_st⟩
      rcases ix_f (by omega) hy with h1 | h1
      · simp (disch := first | assumption | omega) only [z_bd, z_cal, z_gd, z_iT, z_iF, z_le_t, z_le_f, z_lt_t, z_lt_f, z_cl, z_inb, z_at, nI_lit, nI_ii1, nI_add, z_mr, z_ref0, z_refn, z_eq_f, Bool.not_true, Bool.not_false, b2i_t, b2i_f, g, oG, f_KT_kind_l38, hK.1, hK.s1, e, show q < nI 0 from h1]
      · by_cases h3 : q < nI 0
        · simp (disch := first | assumption | omega) only [z_bd, z_cal, z_gd, z_iT, z_iF, z_le_t, z_le_f, z_lt_t, z_lt_f, z_cl, z_inb, z_at, nI_lit, nI_ii1, nI_add, z_mr, z_ref0, z_refn, z_eq_f, Bool.not_true, Bool.not_false, b2i_t, b2i_f, g, oG, f_KT_kind_l38, hK.1, hK.s1, e, h3]
        · simp (disch := first | assumption | omega) only [z_bd, z_cal, z_gd, z_iT, z_iF, z_le_t, z_le_f, z_lt_t, z_lt_f, z_cl, z_inb, z_at, nI_lit, nI_ii1, nI_add, z_mr, z_ref0, z_refn, z_eq_f, Bool.not_true, Bool.not_false, b2i_t, b2i_f, g, oG, f_KT_kind_l38, hK.1, hK.s1, e, h3, h1]
    · obtain ⟨i, hi, rfl⟩ := ix_ex (by omega) hy
      have e3 : mA (sI M 0 13 (nI 0)) (s + 6) (5 * r + i) = nI (dK (gY σ) (5 * r + i)) := hS.2.1.2.2.2.2.1 r i hr hi
      refine ⟨_, ?_, IC_st (nI 0) h, Hi_st⟩
      simp (disch := first | assumption | omega) only [z_bd, z_cal, z_gd, z_iT, z_iF, z_le_t, z_le_f, z_lt_t, z_lt_f, z_cl, z_inb, z_at, nI_lit, nI_ii1, nI_add, z_mr, z_ref0, z_refn, z_eq_f, Bool.not_true, Bool.not_false, b2i_t, b2i_f, g, oG, f_KT_kind_l38, hK.1, hK.s1, e, e3, nI_pos0, mR_sI]
theorem z_worthAt (q k v : Nat) (M : kx_M) : f_Deal_worthAt (nI q) (nI k) (nI v) M = some (nI (24 * v + 6 * q + k), M) := by
  show some ((nI v * nI 4 + nI q) * nI 6 + nI k, M) = _
  rw [z_mr, nI_add, z_mr, nI_add]
  congr 3
  omega
def stN (x : Cl) (v p : Nat) : Nat := if v = 0 then cK x p else if v = 1 then cN x p else if v = 2 then cU x p else cD x p
def o_stitch (r i v : Int32) (σ : Sg) : Int32 × Sg := oG (ix r (cR (gX σ))) 2 (oG (ix i (cW (gX σ))) 2 (oG (rg v 0 3) 5 (nI (stN (gX σ) v.toNatClampNeg (8 * r.toNatClampNeg + i.toNatClampNeg)), wS σ (nI 0)) σ) σ) σ
theorem pC_stitch (r i v : Int32) : PC (f_KT_stitch r i v) (o_stitch r i v) := by
  intro M σ h
  have g1 := q_noRow h r
  have g2 := q_noColumn h i
  rw [f_KT_stitch]
  unfold o_stitch
  cases hx : ix r (cR (gX σ))
  · rw [hx] at g1
    refine ⟨_, ?_, IC_st (nI 2) h, Hi_st⟩
    simp (disch := first | assumption | omega) only [z_bd, z_cal, z_gd, z_iT, z_iF, z_le_t, z_le_f, z_lt_t, z_lt_f, z_cl, z_inb, z_at, nI_lit, nI_ii1, nI_add, z_mr, z_ref0, z_refn, z_eq_f, Bool.not_true, Bool.not_false, b2i_t, b2i_f, g1, oG, f_KT_stitch_l37]
  · rw [hx] at g1
    cases hy : ix i (cW (gX σ))
    · rw [hy] at g2
      refine ⟨_, ?_, IC_st (nI 2) h, Hi_st⟩
      simp (disch := first | assumption | omega) only [z_bd, z_cal, z_gd, z_iT, z_iF, z_le_t, z_le_f, z_lt_t, z_lt_f, z_cl, z_inb, z_at, nI_lit, nI_ii1, nI_add, z_mr, z_ref0, z_refn, z_eq_f, Bool.not_true, Bool.not_false, b2i_t, b2i_f, g1, g2, oG, f_KT_stitch_l37]
    · rw [hy] at g2
      cases hz : rg v 0 3
      · refine ⟨_, ?_, IC_st (nI 5) h, Hi_st⟩
        rcases rg_f (by omega) (by omega) hz with h1 | ⟨h1, h2⟩
        · simp (disch := first | assumption | omega) only [z_bd, z_cal, z_gd, z_iT, z_iF, z_le_t, z_le_f, z_lt_t, z_lt_f, z_cl, z_inb, z_at, nI_lit, nI_ii1, nI_add, z_mr, z_ref0, z_refn, z_eq_f, Bool.not_true, Bool.not_false, b2i_t, b2i_f, g1, g2, oG, f_KT_stitch_l37, h1]
        · simp (disch := first | assumption | omega) only [z_bd, z_cal, z_gd, z_iT, z_iF, z_le_t, z_le_f, z_lt_t, z_lt_f, z_cl, z_inb, z_at, nI_lit, nI_ii1, nI_add, z_mr, z_ref0, z_refn, z_eq_f, Bool.not_true, Bool.not_false, b2i_t, b2i_f, g1, g2, oG, f_KT_stitch_l37, h1, h2]
      · have h1 := IC_st (nI 0) h
        obtain ⟨hO, s, t, hK, hS, -⟩ := h1
        have w2 : cR (gX σ) ≤ 12 := hO.1.1.2.2.1
        have w3 : cW (gX σ) ≤ 8 := hO.1.1.1.2
        obtain ⟨a, ha, rfl⟩ := ix_ex (by omega) hx
        obtain ⟨b, hb, rfl⟩ := ix_ex (by omega) hy
        obtain ⟨c, -, hc, rfl⟩ := rg_ex (by omega) hz
        obtain ⟨e1, e2, e3, e4⟩ := hS.1.2.2.2.2.2 a b ha hb
        have ec : (nI c).toNatClampNeg = c := z_cl (by omega)
        refine ⟨_, ?_, IC_st (nI 0) h, Hi_st⟩
        rw [ec]
        have hc4 : c = 0 ∨ c = 1 ∨ c = 2 ∨ c = 3 := by omega
        have hp : 8 * a + b < 96 := by omega
        rcases hc4 with rfl | rfl | rfl | rfl
        · have e : mA (sI M 0 13 (nI 0)) (s + 9 + 2) (8 * a + b) = nI (stN (gX σ) 0 (8 * a + b)) := e1
          simp (disch := first | assumption | omega) only [z_bd, z_cal, z_gd, z_iT, z_iF, z_le_t, z_le_f, z_lt_t, z_lt_f, z_cl, z_inb, z_at, nI_lit, nI_ii1, nI_add, z_mr, z_ref0, z_refn, z_eq_f, Bool.not_true, Bool.not_false, b2i_t, b2i_f, g1, g2, oG, f_KT_stitch_l37, nI_pos0, hK.1, hK.s1, e]
        · have e : mA (sI M 0 13 (nI 0)) (s + 9 + 3) (8 * a + b) = nI (stN (gX σ) 1 (8 * a + b)) := e2
          simp (disch := first | assumption | omega) only [z_bd, z_cal, z_gd, z_iT, z_iF, z_le_t, z_le_f, z_lt_t, z_lt_f, z_cl, z_inb, z_at, nI_lit, nI_ii1, nI_add, z_mr, z_ref0, z_refn, z_eq_f, Bool.not_true, Bool.not_false, b2i_t, b2i_f, g1, g2, oG, f_KT_stitch_l37, nI_pos0, hK.1, hK.s1, e]
        · have e : mA (sI M 0 13 (nI 0)) (s + 9 + 4) (8 * a + b) = nI (stN (gX σ) 2 (8 * a + b)) := e3
          simp (disch := first | assumption | omega) only [z_bd, z_cal, z_gd, z_iT, z_iF, z_le_t, z_le_f, z_lt_t, z_lt_f, z_cl, z_inb, z_at, nI_lit, nI_ii1, nI_add, z_mr, z_ref0, z_refn, z_eq_f, Bool.not_true, Bool.not_false, b2i_t, b2i_f, g1, g2, oG, f_KT_stitch_l37, nI_pos0, hK.1, hK.s1, e]
        · have e : mA (sI M 0 13 (nI 0)) (s + 9 + 5) (8 * a + b) = nI (stN (gX σ) 3 (8 * a + b)) := e4
          simp (disch := first | assumption | omega) only [z_bd, z_cal, z_gd, z_iT, z_iF, z_le_t, z_le_f, z_lt_t, z_lt_f, z_cl, z_inb, z_at, nI_lit, nI_ii1, nI_add, z_mr, z_ref0, z_refn, z_eq_f, Bool.not_true, Bool.not_false, b2i_t, b2i_f, g1, g2, oG, f_KT_stitch_l37, nI_pos0, hK.1, hK.s1, e]
def o_saidIn (k r : Int32) (σ : Sg) : Int32 × Sg := oG (ix k (dC (gY σ))) 2 (oG (ix r (cR (gX σ))) 2 (nI (tms (gX σ) (gY σ) k.toNatClampNeg r.toNatClampNeg), wS σ (nI 0)) σ) σ
theorem pC_saidIn (k r : Int32) : PC (f_KT_saidIn k r) (o_saidIn k r) := by
  intro M σ h
  have g1 := q_noClause h k
  have g2 := q_noRow h r
  rw [f_KT_saidIn]
  unfold o_saidIn
  cases hx : ix k (dC (gY σ))
  · rw [hx] at g1
    refine ⟨_, ?_, IC_st (nI 2) h, Hi_st⟩
    simp (disch := first | assumption | omega) only [z_bd, z_cal, z_gd, z_iT, z_iF, z_le_t, z_le_f, z_lt_t, z_lt_f, z_cl, z_inb, z_at, nI_lit, nI_ii1, nI_add, z_mr, z_ref0, z_refn, z_eq_f, Bool.not_true, Bool.not_false, b2i_t, b2i_f, g1, oG, f_KT_saidIn_l22]
  · rw [hx] at g1
    cases hy : ix r (cR (gX σ))
    · rw [hy] at g2
      refine ⟨_, ?_, IC_st (nI 2) h, Hi_st⟩
      simp (disch := first | assumption | omega) only [z_bd, z_cal, z_gd, z_iT, z_iF, z_le_t, z_le_f, z_lt_t, z_lt_f, z_cl, z_inb, z_at, nI_lit, nI_ii1, nI_add, z_mr, z_ref0, z_refn, z_eq_f, Bool.not_true, Bool.not_false, b2i_t, b2i_f, g1, g2, oG, f_KT_saidIn_l22]
    · rw [hy] at g2
      have h1 := IC_st (nI 0) h
      obtain ⟨hO, s, t, hK, hS, -⟩ := h1
      have w2 : cR (gX σ) ≤ 12 := hO.1.1.2.2.1
      have w3 : dC (gY σ) ≤ 6 := hO.1.2.2.1.2.1
      obtain ⟨a, ha, rfl⟩ := ix_ex (by omega) hx
      obtain ⟨b, hb, rfl⟩ := ix_ex (by omega) hy
      have e := q_timesIn hO.1.1 hS.1 hO.1.2.2.1 hS.2.1 ha hb
      refine ⟨_, ?_, IC_st (nI 0) h, Hi_st⟩
      simp (disch := first | assumption | omega) only [z_bd, z_cal, z_gd, z_iT, z_iF, z_le_t, z_le_f, z_lt_t, z_lt_f, z_cl, z_inb, z_at, nI_lit, nI_ii1, nI_add, z_mr, z_ref0, z_refn, z_eq_f, Bool.not_true, Bool.not_false, b2i_t, b2i_f, g1, g2, oG, f_KT_saidIn_l22, hK.1, hK.s1, e]
      rfl
def o_said (k : Int32) (σ : Sg) : Int32 × Sg := oG (ix k (dC (gY σ))) 2 (nI (sayN (gX σ) (gY σ) k.toNatClampNeg), wS σ (nI 0)) σ
theorem q_said_l26 {x : Cl} {y : De} {s t k : Nat} (hK : KN M s t) (hO : OkC x) (hC : CC M (s + 9) x) (hP : OkD (cW x) y) (hD : CD M (s + 1) y) (hk : k < dC y) :
    ∀ (m n r : Nat), r + m = cR x → m < n → f_KT_said_l26 (nI k) n (nI (sumN (tms x y k) r)) (nI r) M = some (nI (sayN x y k), M) := by
  have w2 := hO.2.2.1
  have e2 := hC.2.2.1
  intro m
  induction m with
  | zero =>
    intro n r hr hn
    obtain ⟨n, rfl, hn⟩ := z_succ hn
    obtain rfl : r = cR x := by omega
    rw [f_KT_said_l26]
    simp (disch := first | assumption | omega) only [z_bd, z_cal, z_gd, z_iT, z_iF, z_le_t, z_le_f, z_lt_t, z_lt_f, z_cl, z_inb, z_at, nI_lit, nI_ii1, nI_add, z_mr, z_ref0, z_refn, z_eq_f, Bool.not_true, Bool.not_false, b2i_t, b2i_f, hK.1, hK.s1, e2]
    rfl
  | succ m ih =>
    intro n r hr hn
    obtain ⟨n, rfl, hn⟩ := z_succ hn
    have h1 := ih n (r + 1) (by omega) (by omega)
    have e := q_timesIn hO hC hP hD hk (show r < cR x by omega)
    rw [f_KT_said_l26]
    simp (disch := first | assumption | omega) only [z_bd, z_cal, z_gd, z_iT, z_iF, z_le_t, z_le_f, z_lt_t, z_lt_f, z_cl, z_inb, z_at, nI_lit, nI_ii1, nI_add, z_mr, z_ref0, z_refn, z_eq_f, Bool.not_true, Bool.not_false, b2i_t, b2i_f, hK.1, hK.s1, e2, e]
    exact h1
theorem pC_said (k : Int32) : PC (f_KT_said k) (o_said k) := by
  intro M σ h
  have g1 := q_noClause h k
  rw [f_KT_said]
  unfold o_said
  cases hx : ix k (dC (gY σ))
  · rw [hx] at g1
    refine ⟨_, ?_, IC_st (nI 2) h, Hi_st⟩
    simp (disch := first | assumption | omega) only [z_bd, z_cal, z_gd, z_iT, z_iF, z_le_t, z_le_f, z_lt_t, z_lt_f, z_cl, z_inb, z_at, nI_lit, nI_ii1, nI_add, z_mr, z_ref0, z_refn, z_eq_f, Bool.not_true, Bool.not_false, b2i_t, b2i_f, g1, oG, f_KT_said_l14]
  · rw [hx] at g1
    have h1 := IC_st (nI 0) h
    obtain ⟨hO, s, t, hK, hS, -⟩ := h1
    have w2 : cR (gX σ) ≤ 12 := hO.1.1.2.2.1
    have w3 : dC (gY σ) ≤ 6 := hO.1.2.2.1.2.1
    obtain ⟨a, ha, rfl⟩ := ix_ex (by omega) hx
    have e := q_said_l26 hK hO.1.1 hS.1 hO.1.2.2.1 hS.2.1 ha (cR (gX σ)) FU 0 (by show 0 + _ = cR (gX σ); omega) (FU_lt (by omega))
    refine ⟨_, ?_, IC_st (nI 0) h, Hi_st⟩
    simp (disch := first | assumption | omega) only [z_bd, z_cal, z_gd, z_iT, z_iF, z_le_t, z_le_f, z_lt_t, z_lt_f, z_cl, z_inb, z_at, nI_lit, nI_ii1, nI_add, z_mr, z_ref0, z_refn, z_eq_f, Bool.not_true, Bool.not_false, b2i_t, b2i_f, g1, oG, f_KT_said_l14]
    exact e
end
