/-! ## what is asked: more -/
def rg (p : Int32) (a b : Nat) : Bool := decide ((a : Int) ≤ p.toInt) && decide (p.toInt ≤ b)
theorem rg_ex {p : Int32} {a b : Nat} (hb : b < 2147483648) (h : rg p a b = true) : ∃ n, a ≤ n ∧ n ≤ b ∧ p = nI n := by
  unfold rg at h
  rw [Bool.and_eq_true] at h
  have h1 := of_decide_eq_true h.1
  have h2 := of_decide_eq_true h.2
  refine ⟨p.toInt.toNat, by omega, by omega, Int32.toInt_inj.mp ?_⟩
  rw [nI_toInt (by omega)]
  omega
theorem rg_f {p : Int32} {a b : Nat} (ha : a < 2147483648) (hb : b < 2147483648) (h : rg p a b = false) : p < nI a ∨ (¬ p < nI a ∧ ¬ p ≤ nI b) := by
  have e : (p ≤ nI b) = (p.toInt ≤ b) := propext (Int32.le_iff_toInt_le.trans (by rw [nI_toInt (by omega)]))
  rw [i32_lt p ha, e]
  unfold rg at h
  rw [Bool.and_eq_false_iff] at h
  rcases h with h | h
  · have := of_decide_eq_false h; omega
  · have := of_decide_eq_false h; omega
theorem rg_isIn (p : Int32) {A B : Int64} {a b : Nat} (hA : A.toInt = a) (hB : B.toInt = b) (M : kx_M) : f_RM_isIn p.toInt64 A B M = some (b2i (rg p a b), M) := by
  rw [z_isIn]
  unfold rg
  congr 3
  congr 1
  · refine decide_eq_decide.mpr ?_
    rw [Int64.le_iff_toInt_le, Int32.toInt_toInt64, hA]
  · refine decide_eq_decide.mpr ?_
    rw [Int64.le_iff_toInt_le, Int32.toInt_toInt64, hB]
theorem nI_pos0 {n : Nat} (h : n < 2147483648) : (nI n < nI 0) = False := eq_false (nI_pos (by omega))
section
variable {M : kx_M} {σ : Sg}
theorem IC_r {u : Int32} (v : Int32) (h : IC M (wS σ u)) : IC (sI M 0 13 v) (wS σ v) := by
  have h1 := IC_st v h
  exact h1
def o_wool (p : Int32) (σ : Sg) : Int32 × Sg := oG (ix p (dQ (gY σ))) 2 (nI (dO (gY σ) p.toNatClampNeg), wS σ (nI 0)) σ
theorem pC_wool (p : Int32) : PC (f_KT_wool p) (o_wool p) := by
  intro M σ h
  have g := q_noQueen h p
  rw [f_KT_wool]
  unfold o_wool
  cases hx : ix p (dQ (gY σ))
  · rw [hx] at g
    refine ⟨_, ?_, IC_st (nI 2) h, Hi_st⟩
    simp (disch := first | assumption | omega) only [z_bd, z_cal, z_gd, z_iT, z_iF, z_le_t, z_le_f, z_lt_t, z_lt_f, z_cl, z_inb, z_at, z_pl, nI_lit, nI_ii1, nI_add, z_mr, z_ref0, z_refn, z_eq_f, Bool.not_true, Bool.not_false, b2i_t, b2i_f, g, f_KT_wool_l14, oG]
  · rw [hx] at g
    have h1 := IC_st (nI 0) h
    obtain ⟨hO, s, t, hK, hS, -⟩ := h1
    have w3 : dQ (gY σ) ≤ 4 := hO.1.2.2.1.1
    obtain ⟨r, hr, rfl⟩ := ix_ex (by omega) hx
    have e : mA (sI M 0 13 (nI 0)) (s + 2) r = nI (dO (gY σ) r) := (hS.2.1.2.2.1 r hr).1
    refine ⟨_, ?_, IC_st (nI 0) h, Hi_st⟩
    simp (disch := first | assumption | omega) only [z_bd, z_cal, z_gd, z_iT, z_iF, z_le_t, z_le_f, z_lt_t, z_lt_f, z_cl, z_inb, z_at, z_pl, nI_lit, nI_ii1, nI_add, z_mr, z_ref0, z_refn, z_eq_f, Bool.not_true, Bool.not_false, b2i_t, b2i_f, g, f_KT_wool_l14, hK.1, hK.s1, e, oG]
theorem pM_wool (p : Int32) : PM (f_RM_wool p) (o_wool p) := by
  intro M σ h
  have h0 := IM_00 h
  have g := g_isQueen h0 p
  rw [f_RM_wool]
  unfold o_wool
  cases hx : ix p (dQ (gY σ))
  · rw [show ix p (dQ (gY (wS σ (nI 0)))) = false from hx] at g
    refine ⟨_, ?_, IM_r (nI 2) h0, lo_ref Lo_00⟩
    simp (disch := first | assumption | omega) only [z_bd, z_cal, z_gd, z_iT, z_iF, z_le_t, z_le_f, z_lt_t, z_lt_f, z_cl, z_inb, z_at, z_pl, nI_lit, nI_ii1, nI_add, nI_mul, z_eq_f, z_refuse, z_no, z_M00, b2i_t, b2i_f, g, oG]
  · rw [show ix p (dQ (gY (wS σ (nI 0)))) = true from hx] at g
    have w3 : dQ (gY σ) ≤ 4 := h0.1.1.2.2.1.1
    obtain ⟨r, hr, rfl⟩ := ix_ex (by omega) hx
    have e : mA (M00 M) 140 (6 + r) = nI (dO (gY σ) r) := (h0.2.1.2.1.2.2.1 r hr).1
    refine ⟨_, ?_, h0, Lo_00⟩
    simp (disch := first | assumption | omega) only [z_bd, z_cal, z_gd, z_iT, z_iF, z_le_t, z_le_f, z_lt_t, z_lt_f, z_cl, z_inb, z_at, z_pl, nI_lit, nI_ii1, nI_add, nI_mul, z_eq_f, z_refuse, z_no, z_M00, b2i_t, b2i_f, g, e, oG]
def o_length (p : Int32) (σ : Sg) : Int32 × Sg := oG (ix p (dC (gY σ))) 2 (nI (dL (gY σ) p.toNatClampNeg), wS σ (nI 0)) σ
theorem pC_length (p : Int32) : PC (f_KT_length p) (o_length p) := by
  intro M σ h
  have g := q_noClause h p
  rw [f_KT_length]
  unfold o_length
  cases hx : ix p (dC (gY σ))
  · rw [hx] at g
    refine ⟨_, ?_, IC_st (nI 2) h, Hi_st⟩
    simp (disch := first | assumption | omega) only [z_bd, z_cal, z_gd, z_iT, z_iF, z_le_t, z_le_f, z_lt_t, z_lt_f, z_cl, z_inb, z_at, z_pl, nI_lit, nI_ii1, nI_add, z_mr, z_ref0, z_refn, z_eq_f, Bool.not_true, Bool.not_false, b2i_t, b2i_f, g, f_KT_length_l14, oG]
  · rw [hx] at g
    have h1 := IC_st (nI 0) h
    obtain ⟨hO, s, t, hK, hS, -⟩ := h1
    have w3 : dC (gY σ) ≤ 6 := hO.1.2.2.1.2.1
    obtain ⟨r, hr, rfl⟩ := ix_ex (by omega) hx
    have e : mA (sI M 0 13 (nI 0)) (s + 5) r = nI (dL (gY σ) r) := (hS.2.1.2.2.2.1 r hr).2
    refine ⟨_, ?_, IC_st (nI 0) h, Hi_st⟩
    simp (disch := first | assumption | omega) only [z_bd, z_cal, z_gd, z_iT, z_iF, z_le_t, z_le_f, z_lt_t, z_lt_f, z_cl, z_inb, z_at, z_pl, nI_lit, nI_ii1, nI_add, z_mr, z_ref0, z_refn, z_eq_f, Bool.not_true, Bool.not_false, b2i_t, b2i_f, g, f_KT_length_l14, hK.1, hK.s1, e, oG]
theorem pM_length (p : Int32) : PM (f_RM_length p) (o_length p) := by
  intro M σ h
  have h0 := IM_00 h
  have g := g_isClause h0 p
  rw [f_RM_length]
  unfold o_length
  cases hx : ix p (dC (gY σ))
  · rw [show ix p (dC (gY (wS σ (nI 0)))) = false from hx] at g
    refine ⟨_, ?_, IM_r (nI 2) h0, lo_ref Lo_00⟩
    simp (disch := first | assumption | omega) only [z_bd, z_cal, z_gd, z_iT, z_iF, z_le_t, z_le_f, z_lt_t, z_lt_f, z_cl, z_inb, z_at, z_pl, nI_lit, nI_ii1, nI_add, nI_mul, z_eq_f, z_refuse, z_no, z_M00, b2i_t, b2i_f, g, oG]
  · rw [show ix p (dC (gY (wS σ (nI 0)))) = true from hx] at g
    have w3 : dC (gY σ) ≤ 6 := h0.1.1.2.2.1.2.1
    obtain ⟨r, hr, rfl⟩ := ix_ex (by omega) hx
    have e : mA (M00 M) 140 (10 + r) = nI (dL (gY σ) r) := (h0.2.1.2.1.2.2.2.1 r hr).2
    refine ⟨_, ?_, h0, Lo_00⟩
    simp (disch := first | assumption | omega) only [z_bd, z_cal, z_gd, z_iT, z_iF, z_le_t, z_le_f, z_lt_t, z_lt_f, z_cl, z_inb, z_at, z_pl, nI_lit, nI_ii1, nI_add, nI_mul, z_eq_f, z_refuse, z_no, z_M00, b2i_t, b2i_f, g, e, oG]
def o_kind (p q : Int32) (σ : Sg) : Int32 × Sg := oG (ix p (dC (gY σ))) 2 (oG (ix q (dL (gY σ) p.toNatClampNeg)) 8 (nI (dK (gY σ) (5 * p.toNatClampNeg + q.toNatClampNeg)), wS σ (nI 0)) σ) σ
theorem pC_kind (p q : Int32) : PC (f_KT_kind p q) (o_kind p q) := by
  intro M σ h
  have g := q_noClause h p
  rw [f_KT_kind]
  unfold o_kind
  cases hx : ix p (dC (gY σ))
  · rw [hx] at g
    refine ⟨_, ?_, IC_st (nI 2) h, Hi_st⟩
    simp (disch := first | assumption | omega) only [z_bd, z_cal, z_gd, z_iT, z_iF, z_le_t, z_le_f, z_lt_t, z_lt_f, z_cl, z_inb, z_at, z_pl, nI_lit, nI_ii1, nI_add, z_mr, z_ref0, z_refn, z_eq_f, Bool.not_true, Bool.not_false, b2i_t, b2i_f, g, f_KT_kind_l38, oG]
  · rw [hx] at g
    have h2 := h
    obtain ⟨hO, s, t, hK, hS, -⟩ := h2
    have w3 : dC (gY σ) ≤ 6 := hO.1.2.2.1.2.1
    obtain ⟨r, hr, rfl⟩ := ix_ex (by omega) hx
    have e : mA M (s + 5) r = nI (dL (gY σ) r) := (hS.2.1.2.2.2.1 r hr).2
    have lb : dL (gY σ) r ≤ 5 := (hO.1.2.2.1.2.2.2.1 r hr).2.1
    have ec : (nI r).toNatClampNeg = r := z_cl (by omega)
    rw [ec]
    cases hy : ix q (dL (gY σ) r)
    · refine ⟨_, ?_, IC_st (nI 8) h, Hi_st⟩
      rcases ix_f (by omega) hy with h1 | h1
      · simp (disch := first | assumption | omega) only [z_bd, z_cal, z_gd, z_iT, z_iF, z_le_t, z_le_f, z_lt_t, z_lt_f, z_cl, z_inb, z_at, z_pl, nI_lit, nI_ii1, nI_add, z_mr, z_ref0, z_refn, z_eq_f, Bool.not_true, Bool.not_false, b2i_t, b2i_f, g, oG, f_KT_kind_l38, hK.1, hK.s1, e, show q < nI 0 from h1]
      · by_cases h3 : q < nI 0
        · simp (disch := first | assumption | omega) only [z_bd, z_cal, z_gd, z_iT, z_iF, z_le_t, z_le_f, z_lt_t, z_lt_f, z_cl, z_inb, z_at, z_pl, nI_lit, nI_ii1, nI_add, z_mr, z_ref0, z_refn, z_eq_f, Bool.not_true, Bool.not_false, b2i_t, b2i_f, g, oG, f_KT_kind_l38, hK.1, hK.s1, e, h3]
        · simp (disch := first | assumption | omega) only [z_bd, z_cal, z_gd, z_iT, z_iF, z_le_t, z_le_f, z_lt_t, z_lt_f, z_cl, z_inb, z_at, z_pl, nI_lit, nI_ii1, nI_add, z_mr, z_ref0, z_refn, z_eq_f, Bool.not_true, Bool.not_false, b2i_t, b2i_f, g, oG, f_KT_kind_l38, hK.1, hK.s1, e, h3, h1]
    · obtain ⟨i, hi, rfl⟩ := ix_ex (by omega) hy
      have e3 : mA (sI M 0 13 (nI 0)) (s + 6) (5 * r + i) = nI (dK (gY σ) (5 * r + i)) := hS.2.1.2.2.2.2.1 r i hr hi
      refine ⟨_, ?_, IC_st (nI 0) h, Hi_st⟩
      simp (disch := first | assumption | omega) only [z_bd, z_cal, z_gd, z_iT, z_iF, z_le_t, z_le_f, z_lt_t, z_lt_f, z_cl, z_inb, z_at, z_pl, nI_lit, nI_ii1, nI_add, z_mr, z_ref0, z_refn, z_eq_f, Bool.not_true, Bool.not_false, b2i_t, b2i_f, g, oG, f_KT_kind_l38, hK.1, hK.s1, e, e3, nI_pos0, mR_sI]
theorem pM_kind (p q : Int32) : PM (f_RM_kind p q) (o_kind p q) := by
  intro M σ h
  have h0 := IM_00 h
  have g := g_isClause h0 p
  rw [f_RM_kind]
  unfold o_kind
  cases hx : ix p (dC (gY σ))
  · rw [show ix p (dC (gY (wS σ (nI 0)))) = false from hx] at g
    refine ⟨_, ?_, IM_r (nI 2) h0, lo_ref Lo_00⟩
    simp (disch := first | assumption | omega) only [z_bd, z_cal, z_gd, z_iT, z_iF, z_le_t, z_le_f, z_lt_t, z_lt_f, z_cl, z_inb, z_at, z_pl, nI_lit, nI_ii1, nI_add, nI_mul, z_eq_f, z_refuse, z_no, z_M00, b2i_t, b2i_f, g, oG]
  · rw [show ix p (dC (gY (wS σ (nI 0)))) = true from hx] at g
    have w3 : dC (gY σ) ≤ 6 := h0.1.1.2.2.1.2.1
    obtain ⟨r, hr, rfl⟩ := ix_ex (by omega) hx
    have e : mA (M00 M) 140 (10 + r) = nI (dL (gY σ) r) := (h0.2.1.2.1.2.2.2.1 r hr).2
    have lb : dL (gY σ) r ≤ 5 := (h0.1.1.2.2.1.2.2.2.1 r hr).2.1
    have ec : (nI r).toNatClampNeg = r := z_cl (by omega)
    have g2 := ix_isIn q (R := dL (gY σ) r) (by omega) (M00 M)
    rw [ec]
    cases hy : ix q (dL (gY σ) r)
    · rw [hy] at g2
      refine ⟨_, ?_, IM_r (nI 8) h0, lo_ref Lo_00⟩
      simp (disch := first | assumption | omega) only [z_bd, z_cal, z_gd, z_iT, z_iF, z_le_t, z_le_f, z_lt_t, z_lt_f, z_cl, z_inb, z_at, z_pl, nI_lit, nI_ii1, nI_add, nI_mul, z_eq_f, z_refuse, z_no, z_M00, b2i_t, b2i_f, g, e, g2, oG]
    · obtain ⟨i, hi, rfl⟩ := ix_ex (by omega) hy
      rw [hy] at g2
      have e3 : mA (M00 M) 140 (16 + 5 * r + i) = nI (dK (gY σ) (5 * r + i)) := h0.2.1.2.1.2.2.2.2.1 r i hr hi
      refine ⟨_, ?_, h0, Lo_00⟩
      simp (disch := first | assumption | omega) only [z_bd, z_cal, z_gd, z_iT, z_iF, z_le_t, z_le_f, z_lt_t, z_lt_f, z_cl, z_inb, z_at, z_pl, nI_lit, nI_ii1, nI_add, nI_mul, z_eq_f, z_refuse, z_no, z_M00, b2i_t, b2i_f, g, e, g2, e3, oG]
/-! worth -/
def o_worth (q k v : Int32) (σ : Sg) : Int32 × Sg := oG (ix q (dQ (gY σ))) 2 (oG (ix k (dC (gY σ))) 2 (oG (rg v 0 1) 5 (nI (dV (gY σ) (24 * v.toNatClampNeg + 6 * q.toNatClampNeg + k.toNatClampNeg)), wS σ (nI 0)) σ) σ) σ
def wSt (q k v : Int32) (σ : Sg) : Nat := if ix q (dQ (gY σ)) = true then (if ix k (dC (gY σ)) = true then (if rg v 0 1 = true then 0 else 5) else 2) else 2
theorem q_worthStatus (h : IC M σ) (q k v : Int32) : f_KT_worthStatus q k v M = some (nI (wSt q k v σ), M) := by
  have g1 := q_noQueen h q
  have g2 := q_noClause h k
  rw [f_KT_worthStatus]
  unfold wSt
  cases hx : ix q (dQ (gY σ))
  · rw [hx] at g1
    simp (disch := first | assumption | omega) only [z_bd, z_cal, z_gd, z_iT, z_iF, z_le_t, z_le_f, z_lt_t, z_lt_f, z_cl, z_inb, z_at, z_pl, nI_lit, nI_ii1, nI_add, z_mr, z_ref0, z_refn, z_eq_f, Bool.not_true, Bool.not_false, b2i_t, b2i_f, g1, Bool.false_eq_true]
  · rw [hx] at g1
    cases hy : ix k (dC (gY σ))
    · rw [hy] at g2
      simp (disch := first | assumption | omega) only [z_bd, z_cal, z_gd, z_iT, z_iF, z_le_t, z_le_f, z_lt_t, z_lt_f, z_cl, z_inb, z_at, z_pl, nI_lit, nI_ii1, nI_add, z_mr, z_ref0, z_refn, z_eq_f, Bool.not_true, Bool.not_false, b2i_t, b2i_f, g1, g2, Bool.false_eq_true]
    · rw [hy] at g2
      cases hz : rg v 0 1
      · rcases rg_f (by omega) (by omega) hz with h1 | ⟨h1, h2⟩
        · simp (disch := first | assumption | omega) only [z_bd, z_cal, z_gd, z_iT, z_iF, z_le_t, z_le_f, z_lt_t, z_lt_f, z_cl, z_inb, z_at, z_pl, nI_lit, nI_ii1, nI_add, z_mr, z_ref0, z_refn, z_eq_f, Bool.not_true, Bool.not_false, b2i_t, b2i_f, g1, g2, Bool.false_eq_true, h1]
        · simp (disch := first | assumption | omega) only [z_bd, z_cal, z_gd, z_iT, z_iF, z_le_t, z_le_f, z_lt_t, z_lt_f, z_cl, z_inb, z_at, z_pl, nI_lit, nI_ii1, nI_add, z_mr, z_ref0, z_refn, z_eq_f, Bool.not_true, Bool.not_false, b2i_t, b2i_f, g1, g2, Bool.false_eq_true, h1, h2]
      · obtain ⟨n, -, hn, rfl⟩ := rg_ex (by omega) hz
        simp (disch := first | assumption | omega) only [z_bd, z_cal, z_gd, z_iT, z_iF, z_le_t, z_le_f, z_lt_t, z_lt_f, z_cl, z_inb, z_at, z_pl, nI_lit, nI_ii1, nI_add, z_mr, z_ref0, z_refn, z_eq_f, Bool.not_true, Bool.not_false, b2i_t, b2i_f, g1, g2, nI_pos0]
theorem z_worthAt (q k v : Nat) (M : kx_M) : f_Deal_worthAt (nI q) (nI k) (nI v) M = some (nI (24 * v + 6 * q + k), M) := by
  show some ((nI v * nI 4 + nI q) * nI 6 + nI k, M) = _
  rw [z_mr, nI_add, z_mr, nI_add]
  congr 3
  omega
theorem pC_worth (q k v : Int32) : PC (f_KT_worth q k v) (o_worth q k v) := by
  intro M σ h
  have g := q_worthStatus h q k v
  rw [f_KT_worth]
  unfold o_worth
  unfold wSt at g
  cases hx : ix q (dQ (gY σ))
  · rw [hx] at g
    refine ⟨_, ?_, IC_st (nI 2) h, Hi_st⟩
    simp (disch := first | assumption | omega) only [z_bd, z_cal, z_gd, z_iT, z_iF, z_le_t, z_le_f, z_lt_t, z_lt_f, z_cl, z_inb, z_at, z_pl, nI_lit, nI_ii1, nI_add, z_mr, z_ref0, z_refn, z_eq_f, Bool.not_true, Bool.not_false, b2i_t, b2i_f, g, oG, Bool.false_eq_true]
  · cases hy : ix k (dC (gY σ))
    · rw [hx, hy] at g
      refine ⟨_, ?_, IC_st (nI 2) h, Hi_st⟩
      simp (disch := first | assumption | omega) only [z_bd, z_cal, z_gd, z_iT, z_iF, z_le_t, z_le_f, z_lt_t, z_lt_f, z_cl, z_inb, z_at, z_pl, nI_lit, nI_ii1, nI_add, z_mr, z_ref0, z_refn, z_eq_f, Bool.not_true, Bool.not_false, b2i_t, b2i_f, g, oG, Bool.false_eq_true]
    · cases hz : rg v 0 1
      · rw [hx, hy, hz] at g
        refine ⟨_, ?_, IC_st (nI 5) h, Hi_st⟩
        simp (disch := first | assumption | omega) only [z_bd, z_cal, z_gd, z_iT, z_iF, z_le_t, z_le_f, z_lt_t, z_lt_f, z_cl, z_inb, z_at, z_pl, nI_lit, nI_ii1, nI_add, z_mr, z_ref0, z_refn, z_eq_f, Bool.not_true, Bool.not_false, b2i_t, b2i_f, g, oG, Bool.false_eq_true]
      · rw [hx, hy, hz] at g
        have h1 := IC_st (nI 0) h
        obtain ⟨hO, s, t, hK, hS, -⟩ := h1
        have w2 : dQ (gY σ) ≤ 4 := hO.1.2.2.1.1
        have w3 : dC (gY σ) ≤ 6 := hO.1.2.2.1.2.1
        obtain ⟨a, ha, rfl⟩ := ix_ex (by omega) hx
        obtain ⟨b, hb, rfl⟩ := ix_ex (by omega) hy
        obtain ⟨c, -, hc, rfl⟩ := rg_ex (by omega) hz
        have e3 : mA (sI M 0 13 (nI 0)) (s + 8) (24 * c + 6 * a + b) = nI (dV (gY σ) (24 * c + 6 * a + b)) := hS.2.1.2.2.2.2.2.2 c a b (by omega) ha hb
        refine ⟨_, ?_, IC_st (nI 0) h, Hi_st⟩
        simp (disch := first | assumption | omega) only [z_bd, z_cal, z_gd, z_iT, z_iF, z_le_t, z_le_f, z_lt_t, z_lt_f, z_cl, z_inb, z_at, z_pl, nI_lit, nI_ii1, nI_add, z_mr, z_ref0, z_refn, z_eq_f, Bool.not_true, Bool.not_false, b2i_t, b2i_f, g, oG, hK.1, hK.s1, z_worthAt, e3]
theorem pM_worth (q k v : Int32) : PM (f_RM_worth q k v) (o_worth q k v) := by
  intro M σ h
  have h0 := IM_00 h
  have g1 := g_isQueen h0 q
  have g2 := g_isClause h0 k
  have g3 := rg_isIn v (A := 0) (B := 1) (a := 0) (b := 1) rfl rfl (M00 M)
  rw [f_RM_worth]
  unfold o_worth
  cases hx : ix q (dQ (gY σ))
  · rw [show ix q (dQ (gY (wS σ (nI 0)))) = false from hx] at g1
    refine ⟨_, ?_, IM_r (nI 2) h0, lo_ref Lo_00⟩
    simp (disch := first | assumption | omega) only [z_bd, z_cal, z_gd, z_iT, z_iF, z_le_t, z_le_f, z_lt_t, z_lt_f, z_cl, z_inb, z_at, z_pl, nI_lit, nI_ii1, nI_add, nI_mul, z_eq_f, z_refuse, z_no, z_M00, b2i_t, b2i_f, g1, oG]
  · rw [show ix q (dQ (gY (wS σ (nI 0)))) = true from hx] at g1
    cases hy : ix k (dC (gY σ))
    · rw [show ix k (dC (gY (wS σ (nI 0)))) = false from hy] at g2
      refine ⟨_, ?_, IM_r (nI 2) h0, lo_ref Lo_00⟩
      simp (disch := first | assumption | omega) only [z_bd, z_cal, z_gd, z_iT, z_iF, z_le_t, z_le_f, z_lt_t, z_lt_f, z_cl, z_inb, z_at, z_pl, nI_lit, nI_ii1, nI_add, nI_mul, z_eq_f, z_refuse, z_no, z_M00, b2i_t, b2i_f, g1, g2, oG]
    · rw [show ix k (dC (gY (wS σ (nI 0)))) = true from hy] at g2
      cases hz : rg v 0 1
      · rw [hz] at g3
        refine ⟨_, ?_, IM_r (nI 5) h0, lo_ref Lo_00⟩
        simp (disch := first | assumption | omega) only [z_bd, z_cal, z_gd, z_iT, z_iF, z_le_t, z_le_f, z_lt_t, z_lt_f, z_cl, z_inb, z_at, z_pl, nI_lit, nI_ii1, nI_add, nI_mul, z_eq_f, z_refuse, z_no, z_M00, b2i_t, b2i_f, g1, g2, g3, oG]
      · rw [hz] at g3
        have w2 : dQ (gY σ) ≤ 4 := h0.1.1.2.2.1.1
        have w3 : dC (gY σ) ≤ 6 := h0.1.1.2.2.1.2.1
        obtain ⟨a, ha, rfl⟩ := ix_ex (by omega) hx
        obtain ⟨b, hb, rfl⟩ := ix_ex (by omega) hy
        obtain ⟨c, -, hc, rfl⟩ := rg_ex (by omega) hz
        have e3 : mA (M00 M) 140 (52 + 24 * c + 6 * a + b) = nI (dV (gY σ) (24 * c + 6 * a + b)) := h0.2.1.2.1.2.2.2.2.2.2 c a b (by omega) ha hb
        refine ⟨_, ?_, h0, Lo_00⟩
        simp (disch := first | assumption | omega) only [z_bd, z_cal, z_gd, z_iT, z_iF, z_le_t, z_le_f, z_lt_t, z_lt_f, z_cl, z_inb, z_at, z_pl, nI_lit, nI_ii1, nI_add, nI_mul, z_eq_f, z_refuse, z_no, z_M00, b2i_t, b2i_f, g1, g2, g3, e3, oG]
/-! a stitch -/
def stN (x : Cl) (v p : Nat) : Nat := if v = 0 then cK x p else if v = 1 then cN x p else if v = 2 then cU x p else cD x p
def o_stitch (r i v : Int32) (σ : Sg) : Int32 × Sg := oG (ix r (cR (gX σ))) 2 (oG (ix i (cW (gX σ))) 2 (oG (rg v 0 3) 5 (nI (stN (gX σ) v.toNatClampNeg (8 * r.toNatClampNeg + i.toNatClampNeg)), wS σ (nI 0)) σ) σ) σ
theorem pC_stitch (r i v : Int32) : PC (f_KT_stitch r i v) (o_stitch r i v) := by
  intro M σ h
  have g1 := q_noRow h r
  have g2 := q_noColumn h i
  rw [f_KT_stitch]
  unfold o_stitch
  cases hx : ix r (cR (gX σ))
  · rw [hx] at g1
    refine ⟨_, ?_, IC_st (nI 2) h, Hi_st⟩
    simp (disch := first | assumption | omega) only [z_bd, z_cal, z_gd, z_iT, z_iF, z_le_t, z_le_f, z_lt_t, z_lt_f, z_cl, z_inb, z_at, z_pl, nI_lit, nI_ii1, nI_add, z_mr, z_ref0, z_refn, z_eq_f, Bool.not_true, Bool.not_false, b2i_t, b2i_f, g1, oG, f_KT_stitch_l37]
  · rw [hx] at g1
    cases hy : ix i (cW (gX σ))
    · rw [hy] at g2
      refine ⟨_, ?_, IC_st (nI 2) h, Hi_st⟩
      simp (disch := first | assumption | omega) only [z_bd, z_cal, z_gd, z_iT, z_iF, z_le_t, z_le_f, z_lt_t, z_lt_f, z_cl, z_inb, z_at, z_pl, nI_lit, nI_ii1, nI_add, z_mr, z_ref0, z_refn, z_eq_f, Bool.not_true, Bool.not_false, b2i_t, b2i_f, g1, g2, oG, f_KT_stitch_l37]
    · rw [hy] at g2
      cases hz : rg v 0 3
      · refine ⟨_, ?_, IC_st (nI 5) h, Hi_st⟩
        rcases rg_f (by omega) (by omega) hz with h1 | ⟨h1, h2⟩
        · simp (disch := first | assumption | omega) only [z_bd, z_cal, z_gd, z_iT, z_iF, z_le_t, z_le_f, z_lt_t, z_lt_f, z_cl, z_inb, z_at, z_pl, nI_lit, nI_ii1, nI_add, z_mr, z_ref0, z_refn, z_eq_f, Bool.not_true, Bool.not_false, b2i_t, b2i_f, g1, g2, oG, f_KT_stitch_l37, h1]
        · simp (disch := first | assumption | omega) only [z_bd, z_cal, z_gd, z_iT, z_iF, z_le_t, z_le_f, z_lt_t, z_lt_f, z_cl, z_inb, z_at, z_pl, nI_lit, nI_ii1, nI_add, z_mr, z_ref0, z_refn, z_eq_f, Bool.not_true, Bool.not_false, b2i_t, b2i_f, g1, g2, oG, f_KT_stitch_l37, h1, h2]
      · have h1 := IC_st (nI 0) h
        obtain ⟨hO, s, t, hK, hS, -⟩ := h1
        have w2 : cR (gX σ) ≤ 12 := hO.1.1.2.2.1
        have w3 : cW (gX σ) ≤ 8 := hO.1.1.1.2
        obtain ⟨a, ha, rfl⟩ := ix_ex (by omega) hx
        obtain ⟨b, hb, rfl⟩ := ix_ex (by omega) hy
        obtain ⟨c, -, hc, rfl⟩ := rg_ex (by omega) hz
        obtain ⟨e1, e2, e3, e4⟩ := hS.1.2.2.2.2.2 a b ha hb
        have ec : (nI c).toNatClampNeg = c := z_cl (by omega)
        refine ⟨_, ?_, IC_st (nI 0) h, Hi_st⟩
        rw [ec]
        have hc4 : c = 0 ∨ c = 1 ∨ c = 2 ∨ c = 3 := by omega
        have hp : 8 * a + b < 96 := by omega
        rcases hc4 with rfl | rfl | rfl | rfl
        · have e : mA (sI M 0 13 (nI 0)) (s + 9 + 2) (8 * a + b) = nI (stN (gX σ) 0 (8 * a + b)) := e1
          simp (disch := first | assumption | omega) only [z_bd, z_cal, z_gd, z_iT, z_iF, z_le_t, z_le_f, z_lt_t, z_lt_f, z_cl, z_inb, z_at, z_pl, nI_lit, nI_ii1, nI_add, z_mr, z_ref0, z_refn, z_eq_f, Bool.not_true, Bool.not_false, b2i_t, b2i_f, g1, g2, oG, f_KT_stitch_l37, nI_pos0, hK.1, hK.s1, e]
        · have e : mA (sI M 0 13 (nI 0)) (s + 9 + 3) (8 * a + b) = nI (stN (gX σ) 1 (8 * a + b)) := e2
          simp (disch := first | assumption | omega) only [z_bd, z_cal, z_gd, z_iT, z_iF, z_le_t, z_le_f, z_lt_t, z_lt_f, z_cl, z_inb, z_at, z_pl, nI_lit, nI_ii1, nI_add, z_mr, z_ref0, z_refn, z_eq_f, Bool.not_true, Bool.not_false, b2i_t, b2i_f, g1, g2, oG, f_KT_stitch_l37, nI_pos0, hK.1, hK.s1, e]
        · have e : mA (sI M 0 13 (nI 0)) (s + 9 + 4) (8 * a + b) = nI (stN (gX σ) 2 (8 * a + b)) := e3
          simp (disch := first | assumption | omega) only [z_bd, z_cal, z_gd, z_iT, z_iF, z_le_t, z_le_f, z_lt_t, z_lt_f, z_cl, z_inb, z_at, z_pl, nI_lit, nI_ii1, nI_add, z_mr, z_ref0, z_refn, z_eq_f, Bool.not_true, Bool.not_false, b2i_t, b2i_f, g1, g2, oG, f_KT_stitch_l37, nI_pos0, hK.1, hK.s1, e]
        · have e : mA (sI M 0 13 (nI 0)) (s + 9 + 5) (8 * a + b) = nI (stN (gX σ) 3 (8 * a + b)) := e4
          simp (disch := first | assumption | omega) only [z_bd, z_cal, z_gd, z_iT, z_iF, z_le_t, z_le_f, z_lt_t, z_lt_f, z_cl, z_inb, z_at, z_pl, nI_lit, nI_ii1, nI_add, z_mr, z_ref0, z_refn, z_eq_f, Bool.not_true, Bool.not_false, b2i_t, b2i_f, g1, g2, oG, f_KT_stitch_l37, nI_pos0, hK.1, hK.s1, e]
theorem pM_stitch (r i v : Int32) : PM (f_RM_stitch r i v) (o_stitch r i v) := by
  intro M σ h
  have h0 := IM_00 h
  have g1 := g_isRow h0 r
  have g2 := g_isCol h0 i
  have g3 := rg_isIn v (A := 0) (B := 3) (a := 0) (b := 3) rfl rfl (M00 M)
  rw [f_RM_stitch]
  unfold o_stitch
  cases hx : ix r (cR (gX σ))
  · rw [show ix r (cR (gX (wS σ (nI 0)))) = false from hx] at g1
    refine ⟨_, ?_, IM_r (nI 2) h0, lo_ref Lo_00⟩
    simp (disch := first | assumption | omega) only [z_bd, z_cal, z_gd, z_iT, z_iF, z_le_t, z_le_f, z_lt_t, z_lt_f, z_cl, z_inb, z_at, z_pl, nI_lit, nI_ii1, nI_add, nI_mul, z_eq_f, z_refuse, z_no, z_M00, b2i_t, b2i_f, g1, oG]
  · rw [show ix r (cR (gX (wS σ (nI 0)))) = true from hx] at g1
    cases hy : ix i (cW (gX σ))
    · rw [show ix i (cW (gX (wS σ (nI 0)))) = false from hy] at g2
      refine ⟨_, ?_, IM_r (nI 2) h0, lo_ref Lo_00⟩
      simp (disch := first | assumption | omega) only [z_bd, z_cal, z_gd, z_iT, z_iF, z_le_t, z_le_f, z_lt_t, z_lt_f, z_cl, z_inb, z_at, z_pl, nI_lit, nI_ii1, nI_add, nI_mul, z_eq_f, z_refuse, z_no, z_M00, b2i_t, b2i_f, g1, g2, oG]
    · rw [show ix i (cW (gX (wS σ (nI 0)))) = true from hy] at g2
      cases hz : rg v 0 3
      · rw [hz] at g3
        refine ⟨_, ?_, IM_r (nI 5) h0, lo_ref Lo_00⟩
        simp (disch := first | assumption | omega) only [z_bd, z_cal, z_gd, z_iT, z_iF, z_le_t, z_le_f, z_lt_t, z_lt_f, z_cl, z_inb, z_at, z_pl, nI_lit, nI_ii1, nI_add, nI_mul, z_eq_f, z_refuse, z_no, z_M00, b2i_t, b2i_f, g1, g2, g3, oG]
      · rw [hz] at g3
        have w2 : cR (gX σ) ≤ 12 := h0.1.1.1.2.2.1
        have w3 : cW (gX σ) ≤ 8 := h0.1.1.1.1.2
        obtain ⟨a, ha, rfl⟩ := ix_ex (by omega) hx
        obtain ⟨b, hb, rfl⟩ := ix_ex (by omega) hy
        obtain ⟨c, -, hc, rfl⟩ := rg_ex (by omega) hz
        obtain ⟨e1, e2, e3, e4⟩ := h0.2.1.1.2.2.2.2.2 a b ha hb
        have ec : (nI c).toNatClampNeg = c := z_cl (by omega)
        have hp : 8 * a + b < 96 := by omega
        refine ⟨_, ?_, h0, Lo_00⟩
        rw [ec]
        have e : mA (M00 M) 140 (112 + 96 * c + (8 * a + b)) = nI (stN (gX σ) c (8 * a + b)) := by
          have hc4 : c = 0 ∨ c = 1 ∨ c = 2 ∨ c = 3 := by omega
          rcases hc4 with rfl | rfl | rfl | rfl
          · exact e1
          · exact e2
          · exact e3
          · exact e4
        simp (disch := first | assumption | omega) only [z_bd, z_cal, z_gd, z_iT, z_iF, z_le_t, z_le_f, z_lt_t, z_lt_f, z_cl, z_inb, z_at, z_pl, nI_lit, nI_ii1, nI_add, nI_mul, z_eq_f, z_refuse, z_no, z_M00, b2i_t, b2i_f, g1, g2, g3, oG, e]
/-! what is said -/
def o_saidIn (k r : Int32) (σ : Sg) : Int32 × Sg := oG (ix k (dC (gY σ))) 2 (oG (ix r (cR (gX σ))) 2 (nI (tms (gX σ) (gY σ) k.toNatClampNeg r.toNatClampNeg), wS σ (nI 0)) σ) σ
theorem pC_saidIn (k r : Int32) : PC (f_KT_saidIn k r) (o_saidIn k r) := by
  intro M σ h
  have g1 := q_noClause h k
  have g2 := q_noRow h r
  rw [f_KT_saidIn]
  unfold o_saidIn
  cases hx : ix k (dC (gY σ))
  · rw [hx] at g1
    refine ⟨_, ?_, IC_st (nI 2) h, Hi_st⟩
    simp (disch := first | assumption | omega) only [z_bd, z_cal, z_gd, z_iT, z_iF, z_le_t, z_le_f, z_lt_t, z_lt_f, z_cl, z_inb, z_at, z_pl, nI_lit, nI_ii1, nI_add, z_mr, z_ref0, z_refn, z_eq_f, Bool.not_true, Bool.not_false, b2i_t, b2i_f, g1, oG, f_KT_saidIn_l22]
  · rw [hx] at g1
    cases hy : ix r (cR (gX σ))
    · rw [hy] at g2
      refine ⟨_, ?_, IC_st (nI 2) h, Hi_st⟩
      simp (disch := first | assumption | omega) only [z_bd, z_cal, z_gd, z_iT, z_iF, z_le_t, z_le_f, z_lt_t, z_lt_f, z_cl, z_inb, z_at, z_pl, nI_lit, nI_ii1, nI_add, z_mr, z_ref0, z_refn, z_eq_f, Bool.not_true, Bool.not_false, b2i_t, b2i_f, g1, g2, oG, f_KT_saidIn_l22]
    · rw [hy] at g2
      have h1 := IC_st (nI 0) h
      obtain ⟨hO, s, t, hK, hS, -⟩ := h1
      have w2 : cR (gX σ) ≤ 12 := hO.1.1.2.2.1
      have w3 : dC (gY σ) ≤ 6 := hO.1.2.2.1.2.1
      obtain ⟨a, ha, rfl⟩ := ix_ex (by omega) hx
      obtain ⟨b, hb, rfl⟩ := ix_ex (by omega) hy
      have e := q_timesIn hO.1.1 hS.1 hO.1.2.2.1 hS.2.1 ha hb
      refine ⟨_, ?_, IC_st (nI 0) h, Hi_st⟩
      simp (disch := first | assumption | omega) only [z_bd, z_cal, z_gd, z_iT, z_iF, z_le_t, z_le_f, z_lt_t, z_lt_f, z_cl, z_inb, z_at, z_pl, nI_lit, nI_ii1, nI_add, z_mr, z_ref0, z_refn, z_eq_f, Bool.not_true, Bool.not_false, b2i_t, b2i_f, g1, g2, oG, f_KT_saidIn_l22, hK.1, hK.s1, e]
      rfl
theorem pM_saidIn (k r : Int32) : PM (f_RM_saidIn k r) (o_saidIn k r) := by
  intro M σ h
  have h0 := IM_00 h
  have g1 := g_isClause h0 k
  have g2 := g_isRow h0 r
  rw [f_RM_saidIn]
  unfold o_saidIn
  cases hx : ix k (dC (gY σ))
  · rw [show ix k (dC (gY (wS σ (nI 0)))) = false from hx] at g1
    refine ⟨_, ?_, IM_r (nI 2) h0, lo_ref Lo_00⟩
    simp (disch := first | assumption | omega) only [z_bd, z_cal, z_gd, z_iT, z_iF, z_le_t, z_le_f, z_lt_t, z_lt_f, z_cl, z_inb, z_at, z_pl, nI_lit, nI_ii1, nI_add, nI_mul, z_eq_f, z_refuse, z_no, z_M00, b2i_t, b2i_f, g1, oG]
  · rw [show ix k (dC (gY (wS σ (nI 0)))) = true from hx] at g1
    cases hy : ix r (cR (gX σ))
    · rw [show ix r (cR (gX (wS σ (nI 0)))) = false from hy] at g2
      refine ⟨_, ?_, IM_r (nI 2) h0, lo_ref Lo_00⟩
      simp (disch := first | assumption | omega) only [z_bd, z_cal, z_gd, z_iT, z_iF, z_le_t, z_le_f, z_lt_t, z_lt_f, z_cl, z_inb, z_at, z_pl, nI_lit, nI_ii1, nI_add, nI_mul, z_eq_f, z_refuse, z_no, z_M00, b2i_t, b2i_f, g1, g2, oG]
    · rw [show ix r (cR (gX (wS σ (nI 0)))) = true from hy] at g2
      have w2 : cR (gX σ) ≤ 12 := h0.1.1.1.2.2.1
      have w3 : dC (gY σ) ≤ 6 := h0.1.1.2.2.1.2.1
      obtain ⟨a, ha, rfl⟩ := ix_ex (by omega) hx
      obtain ⟨b, hb, rfl⟩ := ix_ex (by omega) hy
      have e := q_MtimesIn h0.1.1.1 h0.2.1.1 h0.1.1.2.2.1 h0.2.1.2.1 ha hb
      refine ⟨_, ?_, h0, Lo_00⟩
      simp (disch := first | assumption | omega) only [z_bd, z_cal, z_gd, z_iT, z_iF, z_le_t, z_le_f, z_lt_t, z_lt_f, z_cl, z_inb, z_at, z_pl, nI_lit, nI_ii1, nI_add, nI_mul, z_eq_f, z_refuse, z_no, z_M00, b2i_t, b2i_f, g1, g2, oG, e]
      rfl
def o_said (k : Int32) (σ : Sg) : Int32 × Sg := oG (ix k (dC (gY σ))) 2 (nI (sayN (gX σ) (gY σ) k.toNatClampNeg), wS σ (nI 0)) σ
theorem q_said_l26 {x : Cl} {y : De} {s t k : Nat} (hK : KN M s t) (hO : OkC x) (hC : CC M (s + 9) x) (hP : OkD (cW x) y) (hD : CD M (s + 1) y) (hk : k < dC y) :
    ∀ (m n r : Nat), r + m = cR x → m < n → f_KT_said_l26 (nI k) n (nI (sumN (tms x y k) r)) (nI r) M = some (nI (sayN x y k), M) := by
  have w2 := hO.2.2.1
  have e2 := hC.2.2.1
  intro m
  induction m with
  | zero =>
    intro n r hr hn
    obtain ⟨n, rfl, hn⟩ := z_succ hn
    obtain rfl : r = cR x := by omega
    rw [f_KT_said_l26]
    simp (disch := first | assumption | omega) only [z_bd, z_cal, z_gd, z_iT, z_iF, z_le_t, z_le_f, z_lt_t, z_lt_f, z_cl, z_inb, z_at, z_pl, nI_lit, nI_ii1, nI_add, z_mr, z_ref0, z_refn, z_eq_f, Bool.not_true, Bool.not_false, b2i_t, b2i_f, hK.1, hK.s1, e2]
    rfl
  | succ m ih =>
    intro n r hr hn
    obtain ⟨n, rfl, hn⟩ := z_succ hn
    have h1 := ih n (r + 1) (by omega) (by omega)
    have e := q_timesIn hO hC hP hD hk (show r < cR x by omega)
    rw [f_KT_said_l26]
    simp (disch := first | assumption | omega) only [z_bd, z_cal, z_gd, z_iT, z_iF, z_le_t, z_le_f, z_lt_t, z_lt_f, z_cl, z_inb, z_at, z_pl, nI_lit, nI_ii1, nI_add, z_mr, z_ref0, z_refn, z_eq_f, Bool.not_true, Bool.not_false, b2i_t, b2i_f, hK.1, hK.s1, e2, e]
    exact h1
theorem pC_said (k : Int32) : PC (f_KT_said k) (o_said k) := by
  intro M σ h
  have g1 := q_noClause h k
  rw [f_KT_said]
  unfold o_said
  cases hx : ix k (dC (gY σ))
  · rw [hx] at g1
    refine ⟨_, ?_, IC_st (nI 2) h, Hi_st⟩
    simp (disch := first | assumption | omega) only [z_bd, z_cal, z_gd, z_iT, z_iF, z_le_t, z_le_f, z_lt_t, z_lt_f, z_cl, z_inb, z_at, z_pl, nI_lit, nI_ii1, nI_add, z_mr, z_ref0, z_refn, z_eq_f, Bool.not_true, Bool.not_false, b2i_t, b2i_f, g1, oG, f_KT_said_l14]
  · rw [hx] at g1
    have h1 := IC_st (nI 0) h
    obtain ⟨hO, s, t, hK, hS, -⟩ := h1
    have w2 : cR (gX σ) ≤ 12 := hO.1.1.2.2.1
    have w3 : dC (gY σ) ≤ 6 := hO.1.2.2.1.2.1
    obtain ⟨a, ha, rfl⟩ := ix_ex (by omega) hx
    have e := q_said_l26 hK hO.1.1 hS.1 hO.1.2.2.1 hS.2.1 ha (cR (gX σ)) FU 0 (by show 0 + _ = cR (gX σ); omega) (FU_lt (by omega))
    refine ⟨_, ?_, IC_st (nI 0) h, Hi_st⟩
    simp (disch := first | assumption | omega) only [z_bd, z_cal, z_gd, z_iT, z_iF, z_le_t, z_le_f, z_lt_t, z_lt_f, z_cl, z_inb, z_at, z_pl, nI_lit, nI_ii1, nI_add, z_mr, z_ref0, z_refn, z_eq_f, Bool.not_true, Bool.not_false, b2i_t, b2i_f, g1, oG, f_KT_said_l14]
    exact e
theorem pM_said (k : Int32) : PM (f_RM_said k) (o_said k) := by
  intro M σ h
  have h0 := IM_00 h
  have g1 := g_isClause h0 k
  rw [f_RM_said]
  unfold o_said
  cases hx : ix k (dC (gY σ))
  · rw [show ix k (dC (gY (wS σ (nI 0)))) = false from hx] at g1
    refine ⟨_, ?_, IM_r (nI 2) h0, lo_ref Lo_00⟩
    simp (disch := first | assumption | omega) only [z_bd, z_cal, z_gd, z_iT, z_iF, z_le_t, z_le_f, z_lt_t, z_lt_f, z_cl, z_inb, z_at, z_pl, nI_lit, nI_ii1, nI_add, nI_mul, z_eq_f, z_refuse, z_no, z_M00, b2i_t, b2i_f, g1, oG]
  · rw [show ix k (dC (gY (wS σ (nI 0)))) = true from hx] at g1
    have w3 : dC (gY σ) ≤ 6 := h0.1.1.2.2.1.2.1
    obtain ⟨a, ha, rfl⟩ := ix_ex (by omega) hx
    have e := q_times h0.1.1.1 h0.2.1.1 h0.1.1.2.2.1 h0.2.1.2.1 ha
    refine ⟨_, ?_, h0, Lo_00⟩
    simp (disch := first | assumption | omega) only [z_bd, z_cal, z_gd, z_iT, z_iF, z_le_t, z_le_f, z_lt_t, z_lt_f, z_cl, z_inb, z_at, z_pl, nI_lit, nI_ii1, nI_add, nI_mul, z_eq_f, z_refuse, z_no, z_M00, b2i_t, b2i_f, g1, oG, e]
    rfl
/-- the first place where a clause is said, from row r, column i on -/
def fsR (x : Cl) (y : De) (k r : Nat) : Nat → Nat → Option Nat
  | 0, _ => none
  | m + 1, i => if saidB x y k r i = true then some (10 * r + i) else fsR x y k r m (i + 1)
def fsA (x : Cl) (y : De) (k : Nat) : Nat → Nat → Option Nat
  | 0, _ => none
  | m + 1, r => match fsR x y k r (cW x) 0 with
    | some v => some v
    | none => fsA x y k m (r + 1)
def o_firstSaid (k : Int32) (σ : Sg) : Int32 × Sg := oG (ix k (dC (gY σ))) 2 (match fsA (gX σ) (gY σ) k.toNatClampNeg (cR (gX σ)) 0 with
  | some v => (nI v, wS σ (nI 0))
  | none => (-nI 1, wS σ (nI 8))) σ
theorem q_fs_l38 {K : Int32 → kx_M → Option (Int32 × kx_M)} {x : Cl} {y : De} {s t k r : Nat} (hK : KN M s t) (hO : OkC x) (hC : CC M (s + 9) x) (hP : OkD (cW x) y) (hD : CD M (s + 1) y) (hk : k < dC y) (hr : r < cR x) :
    ∀ (m n i : Nat), i + m = cW x → m < n → f_KT_firstSaid_l40 (nI k) K n (nI r) (nI i) M = match fsR x y k r m i with
      | some v => some (nI v, M)
      | none => K (nI (r + 1)) M := by
  have w2 := hO.1.2
  have e2 := hC.1
  intro m
  induction m with
  | zero =>
    intro n i hi hn
    obtain ⟨n, rfl, hn⟩ := z_succ hn
    obtain rfl : i = cW x := by omega
    rw [f_KT_firstSaid_l40]
    simp (disch := first | assumption | omega) only [z_bd, z_cal, z_gd, z_iT, z_iF, z_le_t, z_le_f, z_lt_t, z_lt_f, z_cl, z_inb, z_at, z_pl, nI_lit, nI_ii1, nI_add, z_mr, z_ref0, z_refn, z_eq_f, Bool.not_true, Bool.not_false, b2i_t, b2i_f, hK.1, hK.s1, e2]
    rfl
  | succ m ih =>
    intro n i hi hn
    obtain ⟨n, rfl, hn⟩ := z_succ hn
    have h1 := ih n (i + 1) (by omega) (by omega)
    have e := q_saysAt hO hC hP hD hk hr (show i ≤ 8 by omega)
    rw [f_KT_firstSaid_l40]
    unfold fsR
    cases hs : saidB x y k r i
    · rw [hs] at e
      simp (disch := first | assumption | omega) only [z_bd, z_cal, z_gd, z_iT, z_iF, z_le_t, z_le_f, z_lt_t, z_lt_f, z_cl, z_inb, z_at, z_pl, nI_lit, nI_ii1, nI_add, z_mr, z_ref0, z_refn, z_eq_f, Bool.not_true, Bool.not_false, b2i_t, b2i_f, hK.1, hK.s1, e2, e, Bool.false_eq_true]
      exact h1
    · rw [hs] at e
      simp (disch := first | assumption | omega) only [z_bd, z_cal, z_gd, z_iT, z_iF, z_le_t, z_le_f, z_lt_t, z_lt_f, z_cl, z_inb, z_at, z_pl, nI_lit, nI_ii1, nI_add, z_mr, z_ref0, z_refn, z_eq_f, Bool.not_true, Bool.not_false, b2i_t, b2i_f, hK.1, hK.s1, e2, e, Nat.mul_comm r 10]
theorem q_fs_l26 {x : Cl} {y : De} {s t k : Nat} (hK : KN M s t) (hO : OkC x) (hC : CC M (s + 9) x) (hP : OkD (cW x) y) (hD : CD M (s + 1) y) (hk : k < dC y) :
    ∀ (m n r : Nat), r + m = cR x → m < n → f_KT_firstSaid_l24 (nI k) n (nI r) M = match fsA x y k m r with
      | some v => some (nI v, M)
      | none => some (-nI 1, sI M 0 13 (nI 8)) := by
  have w2 := hO.2.2.1
  have e2 := hC.2.2.1
  intro m
  induction m with
  | zero =>
    intro n r hr hn
    obtain ⟨n, rfl, hn⟩ := z_succ hn
    obtain rfl : r = cR x := by omega
    rw [f_KT_firstSaid_l24]
    simp (disch := first | assumption | omega) only [z_bd, z_cal, z_gd, z_iT, z_iF, z_le_t, z_le_f, z_lt_t, z_lt_f, z_cl, z_inb, z_at, z_pl, nI_lit, nI_ii1, nI_add, z_mr, z_ref0, z_refn, z_eq_f, Bool.not_true, Bool.not_false, b2i_t, b2i_f, hK.1, hK.s1, e2]
    rfl
  | succ m ih =>
    intro n r hr hn
    obtain ⟨n, rfl, hn⟩ := z_succ hn
    have h1 := ih n (r + 1) (by omega) (by omega)
    have e := q_fs_l38 (K := f_KT_firstSaid_l24 (nI k) n) hK hO hC hP hD hk (show r < cR x by omega) (cW x) FU 0 (by omega) (FU_lt (by have := hO.1.2; omega))
    rw [f_KT_firstSaid_l24]
    simp (disch := first | assumption | omega) only [z_bd, z_cal, z_gd, z_iT, z_iF, z_le_t, z_le_f, z_lt_t, z_lt_f, z_cl, z_inb, z_at, z_pl, nI_lit, nI_ii1, nI_add, z_mr, z_ref0, z_refn, z_eq_f, Bool.not_true, Bool.not_false, b2i_t, b2i_f, hK.1, hK.s1, e2]
    rw [e]
    unfold fsA
    cases fsR x y k r (cW x) 0 with
    | some v => rfl
    | none => exact h1
theorem pC_firstSaid (k : Int32) : PC (f_KT_firstSaid k) (o_firstSaid k) := by
  intro M σ h
  have g1 := q_noClause h k
  rw [f_KT_firstSaid]
  unfold o_firstSaid
  cases hx : ix k (dC (gY σ))
  · rw [hx] at g1
    refine ⟨_, ?_, IC_st (nI 2) h, Hi_st⟩
    simp (disch := first | assumption | omega) only [z_bd, z_cal, z_gd, z_iT, z_iF, z_le_t, z_le_f, z_lt_t, z_lt_f, z_cl, z_inb, z_at, z_pl, nI_lit, nI_ii1, nI_add, z_mr, z_ref0, z_refn, z_eq_f, Bool.not_true, Bool.not_false, b2i_t, b2i_f, g1, oG]
  · rw [hx] at g1
    have h1 := IC_st (nI 0) h
    have h2 := h1
    obtain ⟨hO, s, t, hK, hS, -⟩ := h1
    have w2 : cR (gX σ) ≤ 12 := hO.1.1.2.2.1
    have w3 : dC (gY σ) ≤ 6 := hO.1.2.2.1.2.1
    obtain ⟨a, ha, rfl⟩ := ix_ex (by omega) hx
    have e := q_fs_l26 hK hO.1.1 hS.1 hO.1.2.2.1 hS.2.1 ha (cR (gX σ)) FU 0 (by show 0 + _ = cR (gX σ); omega) (FU_lt (by omega))
    have ec : (nI a).toNatClampNeg = a := z_cl (by omega)
    simp only [oG]
    rw [ec]
    have e' : f_KT_firstSaid_l24 (nI a) FU (nI 0) (sI M 0 13 (nI 0)) = match fsA (gX σ) (gY σ) a (cR (gX σ)) 0 with
      | some v => some (nI v, sI M 0 13 (nI 0))
      | none => some (-nI 1, sI (sI M 0 13 (nI 0)) 0 13 (nI 8)) := e
    cases hf : fsA (gX σ) (gY σ) a (cR (gX σ)) 0 with
    | some v =>
      rw [hf] at e'
      refine ⟨_, ?_, h2, Hi_st⟩
      simp (disch := first | assumption | omega) only [z_bd, z_cal, z_gd, z_iT, z_iF, z_le_t, z_le_f, z_lt_t, z_lt_f, z_cl, z_inb, z_at, z_pl, nI_lit, nI_ii1, nI_add, z_mr, z_ref0, z_refn, z_eq_f, Bool.not_true, Bool.not_false, b2i_t, b2i_f, g1]
      exact e'
    | none =>
      rw [hf] at e'
      refine ⟨_, ?_, IC_r (nI 8) h2, Hi_st.tr Hi_st⟩
      simp (disch := first | assumption | omega) only [z_bd, z_cal, z_gd, z_iT, z_iF, z_le_t, z_le_f, z_lt_t, z_lt_f, z_cl, z_inb, z_at, z_pl, nI_lit, nI_ii1, nI_add, z_mr, z_ref0, z_refn, z_eq_f, Bool.not_true, Bool.not_false, b2i_t, b2i_f, g1]
      exact e'
theorem q_Mfs_l38 {K : Int32 → kx_M → Option (Int32 × kx_M)} {x : Cl} {y : De} {hh : Nat → Int64} {k r : Nat} (hO : OkC x) (hC : MC (mA M 140) x) (hP : OkD (cW x) y) (hD : MD (mA M 140) hh y) (hk : k < dC y) (hr : r < cR x) :
    ∀ (m n i : Nat), i + m = cW x → m < n → f_RM_firstSaid_l38 (nI k) K n (nI r) (nI i) M = match fsR x y k r m i with
      | some v => some (nI v, M)
      | none => K (nI (r + 1)) M := by
  have w2 := hO.1.2
  have e2 := hC.1
  intro m
  induction m with
  | zero =>
    intro n i hi hn
    obtain ⟨n, rfl, hn⟩ := z_succ hn
    obtain rfl : i = cW x := by omega
    rw [f_RM_firstSaid_l38]
    simp (disch := first | assumption | omega) only [z_bd, z_cal, z_gd, z_iT, z_iF, z_le_t, z_le_f, z_lt_t, z_lt_f, z_cl, z_inb, z_at, z_pl, nI_lit, nI_ii1, nI_add, nI_mul, z_eq_f, z_refuse, z_no, z_M00, b2i_t, b2i_f, e2]
    rfl
  | succ m ih =>
    intro n i hi hn
    obtain ⟨n, rfl, hn⟩ := z_succ hn
    have h1 := ih n (i + 1) (by omega) (by omega)
    have e := q_isSaid hO hC hP hD hk hr (show i < cW x by omega)
    rw [f_RM_firstSaid_l38]
    unfold fsR
    cases hs : saidB x y k r i
    · rw [hs] at e
      simp (disch := first | assumption | omega) only [z_bd, z_cal, z_gd, z_iT, z_iF, z_le_t, z_le_f, z_lt_t, z_lt_f, z_cl, z_inb, z_at, z_pl, nI_lit, nI_ii1, nI_add, nI_mul, z_eq_f, z_refuse, z_no, z_M00, b2i_t, b2i_f, e2, e, Bool.false_eq_true]
      exact h1
    · rw [hs] at e
      simp (disch := first | assumption | omega) only [z_bd, z_cal, z_gd, z_iT, z_iF, z_le_t, z_le_f, z_lt_t, z_lt_f, z_cl, z_inb, z_at, z_pl, nI_lit, nI_ii1, nI_add, nI_mul, z_eq_f, z_refuse, z_no, z_M00, b2i_t, b2i_f, e2, e] <;> rfl
theorem q_Mfs_l26 {x : Cl} {y : De} {hh : Nat → Int64} {k : Nat} (hO : OkC x) (hC : MC (mA M 140) x) (hP : OkD (cW x) y) (hD : MD (mA M 140) hh y) (hk : k < dC y) :
    ∀ (m n r : Nat), r + m = cR x → m < n → f_RM_firstSaid_l26 (nI k) n (nI r) M = match fsA x y k m r with
      | some v => some (nI v, M)
      | none => some (-nI 1, sI M 135 0 (nI 8)) := by
  have w2 := hO.2.2.1
  have e2 := hC.2.2.1
  intro m
  induction m with
  | zero =>
    intro n r hr hn
    obtain ⟨n, rfl, hn⟩ := z_succ hn
    obtain rfl : r = cR x := by omega
    rw [f_RM_firstSaid_l26]
    simp (disch := first | assumption | omega) only [z_bd, z_cal, z_gd, z_iT, z_iF, z_le_t, z_le_f, z_lt_t, z_lt_f, z_cl, z_inb, z_at, z_pl, nI_lit, nI_ii1, nI_add, nI_mul, z_eq_f, z_refuse, z_no, z_M00, b2i_t, b2i_f, e2]
    rfl
  | succ m ih =>
    intro n r hr hn
    obtain ⟨n, rfl, hn⟩ := z_succ hn
    have h1 := ih n (r + 1) (by omega) (by omega)
    have e := q_Mfs_l38 (K := f_RM_firstSaid_l26 (nI k) n) hO hC hP hD hk (show r < cR x by omega) (cW x) FU 0 (by omega) (FU_lt (by have := hO.1.2; omega))
    rw [f_RM_firstSaid_l26]
    simp (disch := first | assumption | omega) only [z_bd, z_cal, z_gd, z_iT, z_iF, z_le_t, z_le_f, z_lt_t, z_lt_f, z_cl, z_inb, z_at, z_pl, nI_lit, nI_ii1, nI_add, nI_mul, z_eq_f, z_refuse, z_no, z_M00, b2i_t, b2i_f, e2]
    rw [e]
    unfold fsA
    cases fsR x y k r (cW x) 0 with
    | some v => rfl
    | none => exact h1
theorem pM_firstSaid (k : Int32) : PM (f_RM_firstSaid k) (o_firstSaid k) := by
  intro M σ h
  have h0 := IM_00 h
  have g1 := g_isClause h0 k
  rw [f_RM_firstSaid]
  unfold o_firstSaid
  cases hx : ix k (dC (gY σ))
  · rw [show ix k (dC (gY (wS σ (nI 0)))) = false from hx] at g1
    refine ⟨_, ?_, IM_r (nI 2) h0, lo_ref Lo_00⟩
    simp (disch := first | assumption | omega) only [z_bd, z_cal, z_gd, z_iT, z_iF, z_le_t, z_le_f, z_lt_t, z_lt_f, z_cl, z_inb, z_at, z_pl, nI_lit, nI_ii1, nI_add, nI_mul, z_eq_f, z_refuse, z_no, z_M00, b2i_t, b2i_f, g1, oG]
  · rw [show ix k (dC (gY (wS σ (nI 0)))) = true from hx] at g1
    have w2 : cR (gX σ) ≤ 12 := h0.1.1.1.2.2.1
    have w3 : dC (gY σ) ≤ 6 := h0.1.1.2.2.1.2.1
    obtain ⟨a, ha, rfl⟩ := ix_ex (by omega) hx
    have e := q_Mfs_l26 h0.1.1.1 h0.2.1.1 h0.1.1.2.2.1 h0.2.1.2.1 ha (cR (gX σ)) FU 0 (by show 0 + _ = cR (gX σ); omega) (FU_lt (by omega))
    have ec : (nI a).toNatClampNeg = a := z_cl (by omega)
    simp only [oG]
    rw [ec]
    have e' : f_RM_firstSaid_l26 (nI a) FU (nI 0) (M00 M) = match fsA (gX σ) (gY σ) a (cR (gX σ)) 0 with
      | some v => some (nI v, M00 M)
      | none => some (-nI 1, sI (M00 M) 135 0 (nI 8)) := e
    cases hf : fsA (gX σ) (gY σ) a (cR (gX σ)) 0 with
    | some v =>
      rw [hf] at e'
      refine ⟨_, ?_, h0, Lo_00⟩
      simp (disch := first | assumption | omega) only [z_bd, z_cal, z_gd, z_iT, z_iF, z_le_t, z_le_f, z_lt_t, z_lt_f, z_cl, z_inb, z_at, z_pl, nI_lit, nI_ii1, nI_add, nI_mul, z_eq_f, z_refuse, z_no, z_M00, b2i_t, b2i_f, g1]
      exact e'
    | none =>
      rw [hf] at e'
      refine ⟨_, ?_, IM_r (nI 8) h0, lo_ref Lo_00⟩
      simp (disch := first | assumption | omega) only [z_bd, z_cal, z_gd, z_iT, z_iF, z_le_t, z_le_f, z_lt_t, z_lt_f, z_cl, z_inb, z_at, z_pl, nI_lit, nI_ii1, nI_add, nI_mul, z_eq_f, z_refuse, z_no, z_M00, b2i_t, b2i_f, g1]
      exact e'
end
