/-! ## bits -/
/-- not by unfolding: so the kernel need not look into what stands around -/
theorem z_lit (n : Nat) : (OfNat.ofNat n : Int32) = nI n := id (nI_lit n)
def bt (x : Int32) (i : Nat) : Bool := x.toBitVec.getLsbD i
theorem b_ext {x y : Int32} (h : ∀ i, i < 32 → bt x i = bt y i) : x = y := Int32.toBitVec_inj.mp (BitVec.eq_of_getLsbD_eq (fun i hi => h i hi))
theorem b_and (x y : Int32) (i : Nat) : bt (x &&& y) i = (bt x i && bt y i) := by unfold bt; rw [Int32.toBitVec_and, BitVec.getLsbD_and]
theorem b_xor (x y : Int32) (i : Nat) : bt (x ^^^ y) i = (bt x i ^^ bt y i) := by unfold bt; rw [Int32.toBitVec_xor, BitVec.getLsbD_xor]
theorem s_l : ∀ n, n < 32 → ((nI n &&& nI 31).toBitVec.smod 32).toNat = n := by decide +kernel
theorem b_sshr (n : Nat) (hn : n < 32) (x : Int32) {i : Nat} (hi : i < 32) : bt (x >>> (nI n &&& nI 31)) i = if n + i < 32 then bt x (n + i) else bt x 31 := by
  unfold bt
  rw [Int32.toBitVec_shiftRight]
  show (x.toBitVec.sshiftRight ((nI n &&& nI 31).toBitVec.smod 32).toNat).getLsbD i = _
  rw [s_l n hn, BitVec.getLsbD_sshiftRight, BitVec.msb_eq_getLsbD_last]
  simp [hi]
theorem bt_nI (s i : Nat) (hi : i < 32) : bt (nI s) i = s.testBit i := by
  show (BitVec.ofNat 32 s).getLsbD i = _
  rw [BitVec.getLsbD_ofNat]
  simp [hi]
theorem bt_1 : ∀ i, i < 32 → bt (nI 1) i = decide (i = 0) := by decide +kernel
theorem b_one (x : Int32) : (x &&& nI 1 = nI 1) = (bt x 0 = true) := by
  refine propext ⟨fun h => ?_, fun h => b_ext fun i hi => ?_⟩
  · have h1 : bt (x &&& nI 1) 0 = bt (nI 1) 0 := by rw [h]
    rw [b_and, bt_1 0 (by omega)] at h1
    simpa using h1
  · rw [b_and, bt_1 i hi]
    by_cases h0 : i = 0
    · subst h0; rw [h]; rfl
    · rw [decide_eq_false h0, Bool.and_false]
theorem z_has {x : Int32} {k : Nat} (hk : k < 32) (M : kx_M) : f_RM_has x (nI k) M = some (b2i (bt x k), M) := by
  show (if ((x >>> (nI k &&& nI 31)) &&& nI 1) = nI 1 then some ((nI 1), M) else some (nI 0, M)) = _
  have e := b_sshr k hk x (i := 0) (by omega)
  rw [if_pos (show k + 0 < 32 by omega)] at e
  have e2 := b_one (x >>> (nI k &&& nI 31))
  rw [e] at e2
  cases hb : bt x k
  · rw [if_neg (fun g => by have := e2.mp g; rw [Nat.add_zero, hb] at this; cases this)]; rfl
  · rw [if_pos (e2.mpr hb)]; rfl
theorem z_inSet {x : Int32} {k : Nat} (hk : k < 32) (M : kx_M) : f_KT_inSet x (nI k) M = some (b2i (bt x k), M) := z_has hk M
theorem pow_lt6 {q n : Nat} (h : q < n) : 2 ^ q < 2 ^ n := Nat.pow_lt_pow_right (by omega) h
/-! ## whom a clause binds -/
def bdA (x : Cl) (y : De) (k : Nat) : Nat → Nat
  | 0 => 0
  | r + 1 => if 0 < tms x y k r then bdA x y k r ||| 2 ^ cO x r else bdA x y k r
def exB (x : Cl) (y : De) (q k : Nat) : Nat → Bool
  | 0 => false
  | r + 1 => exB x y q k r || (decide (cO x r = q) && decide (0 < tms x y k r))
theorem bdA_succ (x : Cl) (y : De) (k r : Nat) : bdA x y k (r + 1) = if 0 < tms x y k r then bdA x y k r ||| 2 ^ cO x r else bdA x y k r := rfl
theorem exB_succ (x : Cl) (y : De) (q k r : Nat) : exB x y q k (r + 1) = (exB x y q k r || (decide (cO x r = q) && decide (0 < tms x y k r))) := rfl
theorem bdA_bit (x : Cl) (y : De) (k q : Nat) : ∀ r, (bdA x y k r).testBit q = exB x y q k r
  | 0 => by simp [bdA, exB]
  | r + 1 => by
    unfold bdA exB
    by_cases h : 0 < tms x y k r
    · rw [if_pos h, Nat.testBit_or, bdA_bit x y k q r, Nat.testBit_two_pow, decide_eq_true h, Bool.and_true]
    · rw [if_neg h, bdA_bit x y k q r, decide_eq_false h, Bool.and_false, Bool.or_false]
def o_binds (k : Int32) (σ : Sg) : Int32 × Sg := oG (ix k (dC (gY σ))) 2 (nI (bdA (gX σ) (gY σ) k.toNatClampNeg (cR (gX σ))), wS σ (nI 0)) σ
section
variable {M : kx_M} {σ : Sg}
theorem IC_get {u : Int32} (h : IC M (wS σ u)) : ∃ s t, KN M s t ∧ OkC (gX σ) ∧ CC M (s + 9) (gX σ) ∧ OkD (cW (gX σ)) (gY σ) ∧ CD M (s + 1) (gY σ) := by
  obtain ⟨hO, s, t, hK, hS, -⟩ := h
  exact ⟨s, t, hK, hO.1.1, hS.1, hO.1.2.2.1, hS.2.1⟩
theorem IM_get {u : Int32} (h : IM M (wS σ u)) : OkC (gX σ) ∧ MC (mA M 140) (gX σ) ∧ OkD (cW (gX σ)) (gY σ) ∧ MD (mA M 140) (mB M 143) (gY σ) := ⟨h.1.1.1, h.2.1.1, h.1.1.2.2.1, h.2.1.2.1⟩
theorem q_binds_l26 {x : Cl} {y : De} {s t k : Nat} (hK : KN M s t) (hO : OkC x) (hC : CC M (s + 9) x) (hP : OkD (cW x) y) (hD : CD M (s + 1) y) (hk : k < dC y) :
    ∀ (m n r : Nat), r + m = cR x → m < n → f_KT_binds_l26 (nI k) n (nI (bdA x y k r)) (nI r) M = some (nI (bdA x y k (cR x)), M) := by
  have w2 := hO.2.2.1
  have e2 := hC.2.2.1
  intro m
  induction m with
  | zero =>
    intro n r hr hn
    obtain ⟨n, rfl, hn⟩ := z_succ hn
    obtain rfl : r = cR x := by omega
    rw [f_KT_binds_l26]
    simp (disch := first | assumption | omega) only [z_bd, z_cal, z_gd, z_iT, z_iF, z_le_t, z_le_f, z_lt_t, z_lt_f, z_cl, z_inb, z_at, z_pl, z_lit, nI_ii1, nI_add, z_mr, z_ref0, z_refn, z_eq_f, Bool.not_true, Bool.not_false, b2i_t, b2i_f, hK.1, hK.s1, e2]
  | succ m ih =>
    intro n r hr hn
    obtain ⟨n, rfl, hn⟩ := z_succ hn
    have h1 := ih n (r + 1) (by omega) (by omega)
    have t1 := tms_le (y := y) hO k r
    have e := q_timesIn hO hC hP hD hk (show r < cR x by omega)
    have eo : mA M (s + 10) r = nI (cO x r) := hC.2.2.2.2.1 r (by omega)
    have ho : cO x r < 4 := hO.2.2.2.2.1 r (by omega)
    rw [f_KT_binds_l26]
    rw [bdA_succ] at h1
    by_cases hz : 0 < tms x y k r
    · rw [if_pos hz] at h1
      simp (disch := first | assumption | omega) only [z_bd, z_cal, z_gd, z_iT, z_iF, z_le_t, z_le_f, z_lt_t, z_lt_f, z_cl, z_inb, z_at, z_pl, z_lit, nI_ii1, nI_add, z_mr, z_ref0, z_refn, z_eq_f, Bool.not_true, Bool.not_false, b2i_t, b2i_f, hK.1, hK.s1, e2, e, eo, z_bit (show cO x r < 31 by omega), nx_or]
      exact h1
    · rw [if_neg hz] at h1
      simp (disch := first | assumption | omega) only [z_bd, z_cal, z_gd, z_iT, z_iF, z_le_t, z_le_f, z_lt_t, z_lt_f, z_cl, z_inb, z_at, z_pl, z_lit, nI_ii1, nI_add, z_mr, z_ref0, z_refn, z_eq_f, Bool.not_true, Bool.not_false, b2i_t, b2i_f, hK.1, hK.s1, e2, e]
      exact h1
theorem pC_binds (k : Int32) : PC (f_KT_binds k) (o_binds k) := by
  intro M σ h
  have g1 := q_noClause h k
  rw [f_KT_binds]
  unfold o_binds
  cases hx : ix k (dC (gY σ))
  · rw [hx] at g1
    refine ⟨_, ?_, IC_st (nI 2) h, Hi_st⟩
    simp (disch := first | assumption | omega) only [z_bd, z_cal, z_gd, z_iT, z_iF, z_le_t, z_le_f, z_lt_t, z_lt_f, z_cl, z_inb, z_at, z_pl, z_lit, nI_ii1, nI_add, z_mr, z_ref0, z_refn, z_eq_f, Bool.not_true, Bool.not_false, b2i_t, b2i_f, g1, oG, f_KT_binds_l14]
  · rw [hx] at g1
    have h1 := IC_st (nI 0) h
    obtain ⟨s, t, hK, hO, hC, hP, hD⟩ := IC_get h1
    have w2 := hO.2.2.1
    have w3 := hP.2.1
    obtain ⟨a, ha, rfl⟩ := ix_ex (by omega) hx
    have e := q_binds_l26 hK hO hC hP hD ha (cR (gX σ)) FU 0 (by omega) (FU_lt (by omega))
    refine ⟨_, ?_, IC_st (nI 0) h, Hi_st⟩
    simp (disch := first | assumption | omega) only [z_bd, z_cal, z_gd, z_iT, z_iF, z_le_t, z_le_f, z_lt_t, z_lt_f, z_cl, z_inb, z_at, z_pl, z_lit, nI_ii1, nI_add, z_mr, z_ref0, z_refn, z_eq_f, Bool.not_true, Bool.not_false, b2i_t, b2i_f, g1, oG, f_KT_binds_l14]
    exact e
theorem q_bound {x : Cl} {y : De} {hh : Nat → Int64} {k : Nat} (hO : OkC x) (hC : MC (mA M 140) x) (hP : OkD (cW x) y) (hD : MD (mA M 140) hh y) (hk : k < dC y) :
    f_RM_bound (nI k) M = some (nI (bdA x y k (cR x)), M) := by
  have w2 := hO.2.2.1
  have e2 := hC.2.2.1
  have key : ∀ (m n r : Nat), r + m = cR x → m < n → f_RM_bound_l4 (nI k) n (nI (bdA x y k r)) (nI r) M = some (nI (bdA x y k (cR x)), M) := by
    intro m
    induction m with
    | zero =>
      intro n r hr hn
      obtain ⟨n, rfl, hn⟩ := z_succ hn
      obtain rfl : r = cR x := by omega
      rw [f_RM_bound_l4]
      simp (disch := first | assumption | omega) only [z_bd, z_cal, z_gd, z_iT, z_iF, z_le_t, z_le_f, z_lt_t, z_lt_f, z_cl, z_inb, z_at, z_pl, z_lit, nI_ii1, nI_add, nI_mul, z_eq_f, z_refuse, z_no, z_M00, b2i_t, b2i_f, e2]
    | succ m ih =>
      intro n r hr hn
      obtain ⟨n, rfl, hn⟩ := z_succ hn
      have h1 := ih n (r + 1) (by omega) (by omega)
      have t1 := tms_le (y := y) hO k r
      have e := q_MtimesIn hO hC hP hD hk (show r < cR x by omega)
      have eo : mA M 140 (100 + r) = nI (cO x r) := hC.2.2.2.2.1 r (by omega)
      have ho : cO x r < 4 := hO.2.2.2.2.1 r (by omega)
      rw [f_RM_bound_l4]
      rw [bdA_succ] at h1
      by_cases hz : 0 < tms x y k r
      · rw [if_pos hz] at h1
        simp (disch := first | assumption | omega) only [z_bd, z_cal, z_gd, z_iT, z_iF, z_le_t, z_le_f, z_lt_t, z_lt_f, z_cl, z_inb, z_at, z_pl, z_lit, nI_ii1, nI_add, nI_mul, z_eq_f, z_refuse, z_no, z_M00, b2i_t, b2i_f, e2, e, eo, z_bit (show cO x r < 31 by omega), nx_or]
        exact h1
      · rw [if_neg hz] at h1
        simp (disch := first | assumption | omega) only [z_bd, z_cal, z_gd, z_iT, z_iF, z_le_t, z_le_f, z_lt_t, z_lt_f, z_cl, z_inb, z_at, z_pl, z_lit, nI_ii1, nI_add, nI_mul, z_eq_f, z_refuse, z_no, z_M00, b2i_t, b2i_f, e2, e, nx_or, Nat.or_zero]
        exact h1
  exact key (cR x) FU 0 (by omega) (FU_lt (by omega))
theorem pM_binds (k : Int32) : PM (f_RM_binds k) (o_binds k) := by
  intro M σ h
  have h0 := IM_00 h
  have g1 := g_isClause h0 k
  rw [f_RM_binds]
  unfold o_binds
  cases hx : ix k (dC (gY σ))
  · rw [show ix k (dC (gY (wS σ (nI 0)))) = false from hx] at g1
    refine ⟨_, ?_, IM_r (nI 2) h0, lo_ref Lo_00⟩
    simp (disch := first | assumption | omega) only [z_bd, z_cal, z_gd, z_iT, z_iF, z_le_t, z_le_f, z_lt_t, z_lt_f, z_cl, z_inb, z_at, z_pl, z_lit, nI_ii1, nI_add, nI_mul, z_eq_f, z_refuse, z_no, z_M00, b2i_t, b2i_f, g1, oG]
  · rw [show ix k (dC (gY (wS σ (nI 0)))) = true from hx] at g1
    have w3 : dC (gY σ) ≤ 6 := h0.1.1.2.2.1.2.1
    obtain ⟨a, ha, rfl⟩ := ix_ex (by omega) hx
    have e := q_bound h0.1.1.1 h0.2.1.1 h0.1.1.2.2.1 h0.2.1.2.1 ha
    refine ⟨_, ?_, h0, Lo_00⟩
    simp (disch := first | assumption | omega) only [z_bd, z_cal, z_gd, z_iT, z_iF, z_le_t, z_le_f, z_lt_t, z_lt_f, z_cl, z_inb, z_at, z_pl, z_lit, nI_ii1, nI_add, nI_mul, z_eq_f, z_refuse, z_no, z_M00, b2i_t, b2i_f, g1, oG, e]
    rfl
def o_boundBy (q : Int32) (σ : Sg) : Int32 × Sg := oG (ix q (dQ (gY σ))) 2 (nI (setN (fun k => exB (gX σ) (gY σ) q.toNatClampNeg k (cR (gX σ))) (dC (gY σ))), wS σ (nI 0)) σ
theorem q_boundBy_l26 {x : Cl} {y : De} {s t q : Nat} (hq : q < 4) (hK : KN M s t) (hO : OkC x) (hC : CC M (s + 9) x) (hP : OkD (cW x) y) (hD : CD M (s + 1) y) :
    ∀ (m n r : Nat), r + m = cR x → m < n → f_KT_boundBy_l26 (nI q) n (nI (setN (fun k => exB x y q k r) (dC y))) (nI r) M = some (nI (setN (fun k => exB x y q k (cR x)) (dC y)), M) := by
  have w2 := hO.2.2.1
  have e2 := hC.2.2.1
  intro m
  induction m with
  | zero =>
    intro n r hr hn
    obtain ⟨n, rfl, hn⟩ := z_succ hn
    obtain rfl : r = cR x := by omega
    rw [f_KT_boundBy_l26]
    simp (disch := first | assumption | omega) only [z_bd, z_cal, z_gd, z_iT, z_iF, z_le_t, z_le_f, z_lt_t, z_lt_f, z_cl, z_inb, z_at, z_pl, z_lit, nI_ii1, nI_add, z_mr, z_ref0, z_refn, z_eq_f, Bool.not_true, Bool.not_false, b2i_t, b2i_f, hK.1, hK.s1, e2]
  | succ m ih =>
    intro n r hr hn
    obtain ⟨n, rfl, hn⟩ := z_succ hn
    have h1 := ih n (r + 1) (by omega) (by omega)
    have e := q_setIn hO hC hP hD (show r < cR x by omega)
    have eo : mA M (s + 10) r = nI (cO x r) := hC.2.2.2.2.1 r (by omega)
    have ho : cO x r < 4 := hO.2.2.2.2.1 r (by omega)
    rw [f_KT_boundBy_l26]
    by_cases hz : cO x r = q
    · rw [show setN (fun k => exB x y q k (r + 1)) (dC y) = setN (fun k => exB x y q k r || decide (0 < tms x y k r)) (dC y) from setN_congr (fun k _ => by rw [exB_succ, decide_eq_true hz, Bool.true_and])] at h1
      simp (disch := first | assumption | omega) only [z_bd, z_cal, z_gd, z_iT, z_iF, z_le_t, z_le_f, z_lt_t, z_lt_f, z_cl, z_inb, z_at, z_pl, z_lit, nI_ii1, nI_add, z_mr, z_ref0, z_refn, z_eq_f, Bool.not_true, Bool.not_false, b2i_t, b2i_f, hK.1, hK.s1, e2, e, eo, hz, nx_or, setN_or]
      exact h1
    · rw [show setN (fun k => exB x y q k (r + 1)) (dC y) = setN (fun k => exB x y q k r) (dC y) from setN_congr (fun k _ => by
        rw [exB_succ, decide_eq_false hz, Bool.false_and, Bool.or_false])] at h1
      simp (disch := first | assumption | omega) only [z_bd, z_cal, z_gd, z_iT, z_iF, z_le_t, z_le_f, z_lt_t, z_lt_f, z_cl, z_inb, z_at, z_pl, z_lit, nI_ii1, nI_add, z_mr, z_ref0, z_refn, z_eq_f, Bool.not_true, Bool.not_false, b2i_t, b2i_f, hK.1, hK.s1, e2, eo]
      exact h1
theorem pC_boundBy (q : Int32) : PC (f_KT_boundBy q) (o_boundBy q) := by
  intro M σ h
  have g1 := q_noQueen h q
  rw [f_KT_boundBy]
  unfold o_boundBy
  cases hx : ix q (dQ (gY σ))
  · rw [hx] at g1
    refine ⟨_, ?_, IC_st (nI 2) h, Hi_st⟩
    simp (disch := first | assumption | omega) only [z_bd, z_cal, z_gd, z_iT, z_iF, z_le_t, z_le_f, z_lt_t, z_lt_f, z_cl, z_inb, z_at, z_pl, z_lit, nI_ii1, nI_add, z_mr, z_ref0, z_refn, z_eq_f, Bool.not_true, Bool.not_false, b2i_t, b2i_f, g1, oG, f_KT_boundBy_l14]
  · rw [hx] at g1
    have h1 := IC_st (nI 0) h
    obtain ⟨s, t, hK, hO, hC, hP, hD⟩ := IC_get h1
    have w2 := hO.2.2.1
    have w3 := hP.1
    obtain ⟨a, ha, rfl⟩ := ix_ex (by omega) hx
    have e := q_boundBy_l26 (q := a) (by omega) hK hO hC hP hD (cR (gX σ)) FU 0 (by omega) (FU_lt (by omega))
    rw [show setN (fun k => exB (gX σ) (gY σ) a k 0) (dC (gY σ)) = 0 from setN_zero (fun _ _ => rfl)] at e
    refine ⟨_, ?_, IC_st (nI 0) h, Hi_st⟩
    simp (disch := first | assumption | omega) only [z_bd, z_cal, z_gd, z_iT, z_iF, z_le_t, z_le_f, z_lt_t, z_lt_f, z_cl, z_inb, z_at, z_pl, z_lit, nI_ii1, nI_add, z_mr, z_ref0, z_refn, z_eq_f, Bool.not_true, Bool.not_false, b2i_t, b2i_f, g1, oG, f_KT_boundBy_l14]
    exact e
theorem pM_boundBy (q : Int32) : PM (f_RM_boundBy q) (o_boundBy q) := by
  intro M σ h
  have h0 := IM_00 h
  have g1 := g_isQueen h0 q
  rw [f_RM_boundBy]
  unfold o_boundBy
  cases hx : ix q (dQ (gY σ))
  · rw [show ix q (dQ (gY (wS σ (nI 0)))) = false from hx] at g1
    refine ⟨_, ?_, IM_r (nI 2) h0, lo_ref Lo_00⟩
    simp (disch := first | assumption | omega) only [z_bd, z_cal, z_gd, z_iT, z_iF, z_le_t, z_le_f, z_lt_t, z_lt_f, z_cl, z_inb, z_at, z_pl, z_lit, nI_ii1, nI_add, nI_mul, z_eq_f, z_refuse, z_no, z_M00, b2i_t, b2i_f, g1, oG]
  · rw [show ix q (dQ (gY (wS σ (nI 0)))) = true from hx] at g1
    have w2 : dC (gY σ) ≤ 6 := h0.1.1.2.2.1.2.1
    have w3 : dQ (gY σ) ≤ 4 := h0.1.1.2.2.1.1
    obtain ⟨a, ha, rfl⟩ := ix_ex (by omega) hx
    have e2 : mA (M00 M) 140 3 = nI (dC (gY σ)) := h0.2.1.2.1.2.1
    have key : ∀ (m n k : Nat), k + m = dC (gY σ) → m < n → f_RM_boundBy_l28 (nI a) n (nI (setN (fun k => exB (gX σ) (gY σ) a k (cR (gX σ))) k)) (nI k) (M00 M) = some (nI (setN (fun k => exB (gX σ) (gY σ) a k (cR (gX σ))) (dC (gY σ))), M00 M) := by
      intro m
      induction m with
      | zero =>
        intro n k hk hn
        obtain ⟨n, rfl, hn⟩ := z_succ hn
        obtain rfl : k = dC (gY σ) := by omega
        rw [f_RM_boundBy_l28]
        simp (disch := first | assumption | omega) only [z_bd, z_cal, z_gd, z_iT, z_iF, z_le_t, z_le_f, z_lt_t, z_lt_f, z_cl, z_inb, z_at, z_pl, z_lit, nI_ii1, nI_add, nI_mul, z_eq_f, z_refuse, z_no, z_M00, b2i_t, b2i_f, e2]
      | succ m ih =>
        intro n k hk hn
        obtain ⟨n, rfl, hn⟩ := z_succ hn
        have h1 := ih n (k + 1) (by omega) (by omega)
        have e := q_bound h0.1.1.1 h0.2.1.1 h0.1.1.2.2.1 h0.2.1.2.1 (show k < dC (gY σ) by omega)
        have eh : f_RM_has (nI (bdA (gX σ) (gY σ) k (cR (gX σ)))) (nI a) (M00 M) = some (b2i (exB (gX σ) (gY σ) a k (cR (gX σ))), M00 M) := by
          rw [z_has (by omega), bt_nI _ _ (by omega), bdA_bit]
        have e' : f_RM_bound (nI k) (M00 M) = some (nI (bdA (gX σ) (gY σ) k (cR (gX σ))), M00 M) := e
        rw [f_RM_boundBy_l28]
        cases hb : exB (gX σ) (gY σ) a k (cR (gX σ))
        · rw [hb] at eh
          rw [show setN (fun k => exB (gX σ) (gY σ) a k (cR (gX σ))) (k + 1) = setN (fun k => exB (gX σ) (gY σ) a k (cR (gX σ))) k by simp only [setN, hb, Bool.false_eq_true, if_false, Nat.add_zero]] at h1
          simp (disch := first | assumption | omega) only [z_bd, z_cal, z_gd, z_iT, z_iF, z_le_t, z_le_f, z_lt_t, z_lt_f, z_cl, z_inb, z_at, z_pl, z_lit, nI_ii1, nI_add, nI_mul, z_eq_f, z_refuse, z_no, z_M00, b2i_t, b2i_f, e2, e', eh, nx_or, Nat.or_zero]
          exact h1
        · rw [hb] at eh
          rw [show setN (fun k => exB (gX σ) (gY σ) a k (cR (gX σ))) (k + 1) = setN (fun k => exB (gX σ) (gY σ) a k (cR (gX σ))) k + 2 ^ k by simp only [setN, hb, if_true]] at h1
          simp (disch := first | assumption | omega) only [z_bd, z_cal, z_gd, z_iT, z_iF, z_le_t, z_le_f, z_lt_t, z_lt_f, z_cl, z_inb, z_at, z_pl, z_lit, nI_ii1, nI_add, nI_mul, z_eq_f, z_refuse, z_no, z_M00, b2i_t, b2i_f, e2, e', eh, z_bit (show k < 31 by omega), z_setor]
          exact h1
    refine ⟨_, ?_, h0, Lo_00⟩
    simp (disch := first | assumption | omega) only [z_bd, z_cal, z_gd, z_iT, z_iF, z_le_t, z_le_f, z_lt_t, z_lt_f, z_cl, z_inb, z_at, z_pl, z_lit, nI_ii1, nI_add, nI_mul, z_eq_f, z_refuse, z_no, z_M00, b2i_t, b2i_f, g1, oG]
    exact key (dC (gY σ)) FU 0 (by omega) (FU_lt (by omega))
/-! many -/
def mnN (x : Cl) (y : De) (v : Nat) : Nat := if v = 0 then cW x else if v = 1 then cT x else if v = 2 then dQ y else if v = 3 then dC y else if v = 4 then cR x else if v = 5 then cY x else if v = 6 then sumRC (cU x) (cW x) (cR x) else if v = 7 then sumRC (cD x) (cW x) (cR x) else if v = 8 then wornR x else sdSet x y
def o_many (v : Int32) (σ : Sg) : Int32 × Sg := oG (rg v 0 9) 5 (nI (mnN (gX σ) (gY σ) v.toNatClampNeg), wS σ (nI 0)) σ
theorem pC_many (v : Int32) : PC (f_KT_many v) (o_many v) := by
  intro M σ h
  rw [f_KT_many]
  unfold o_many
  cases hz : rg v 0 9
  · refine ⟨_, ?_, IC_st (nI 5) h, Hi_st⟩
    rcases rg_f (by omega) (by omega) hz with h1 | ⟨h1, h2⟩
    · simp (disch := first | assumption | omega) only [z_bd, z_cal, z_gd, z_iT, z_iF, z_le_t, z_le_f, z_lt_t, z_lt_f, z_cl, z_inb, z_at, z_pl, nI_lit, nI_ii1, nI_add, z_mr, z_ref0, z_refn, z_eq_f, Bool.not_true, Bool.not_false, b2i_t, b2i_f, oG, f_KT_many_l16, h1]
    · simp (disch := first | assumption | omega) only [z_bd, z_cal, z_gd, z_iT, z_iF, z_le_t, z_le_f, z_lt_t, z_lt_f, z_cl, z_inb, z_at, z_pl, nI_lit, nI_ii1, nI_add, z_mr, z_ref0, z_refn, z_eq_f, Bool.not_true, Bool.not_false, b2i_t, b2i_f, oG, f_KT_many_l16, h1, h2]
  · have h1 := IC_st (nI 0) h
    obtain ⟨hO, s, t, hK, hS, -⟩ := h1
    obtain ⟨c, -, hc, rfl⟩ := rg_ex (by omega) hz
    have ec : (nI c).toNatClampNeg = c := z_cl (by omega)
    refine ⟨_, ?_, IC_st (nI 0) h, Hi_st⟩
    rw [ec]
    have ha := hK.ap
    have l4 : kx_lay[s + 9 + 4]? = some (1, 96, []) := lk_Cloth_undone (lD_State_cloth hK.s1)
    have l5 : kx_lay[s + 9 + 5]? = some (1, 96, []) := lk_Cloth_darned (lD_State_cloth hK.s1)
    have hc4 : c = 0 ∨ c = 1 ∨ c = 2 ∨ c = 3 ∨ c = 4 ∨ c = 5 ∨ c = 6 ∨ c = 7 ∨ c = 8 ∨ c = 9 := by omega
    rcases hc4 with rfl | rfl | rfl | rfl | rfl | rfl | rfl | rfl | rfl | rfl
    · have e : mI (sI M 0 13 (nI 0)) (s + 9) 5 = nI (mnN (gX σ) (gY σ) 0) := hS.1.1
      simp (disch := first | assumption | omega) only [z_bd, z_cal, z_gd, z_iT, z_iF, z_le_t, z_le_f, z_lt_t, z_lt_f, z_cl, z_inb, z_at, z_pl, z_lit, nI_ii1, nI_add, z_mr, z_ref0, z_refn, z_eq_f, Bool.not_true, Bool.not_false, b2i_t, b2i_f, oG, f_KT_many_l16, nI_pos0, hK.1, hK.s1, e]
    · have e : mI (sI M 0 13 (nI 0)) (s + 9) 6 = nI (mnN (gX σ) (gY σ) 1) := hS.1.2.1
      simp (disch := first | assumption | omega) only [z_bd, z_cal, z_gd, z_iT, z_iF, z_le_t, z_le_f, z_lt_t, z_lt_f, z_cl, z_inb, z_at, z_pl, z_lit, nI_ii1, nI_add, z_mr, z_ref0, z_refn, z_eq_f, Bool.not_true, Bool.not_false, b2i_t, b2i_f, oG, f_KT_many_l16, nI_pos0, hK.1, hK.s1, e]
    · have e : mI (sI M 0 13 (nI 0)) (s + 1) 7 = nI (mnN (gX σ) (gY σ) 2) := hS.2.1.1
      simp (disch := first | assumption | omega) only [z_bd, z_cal, z_gd, z_iT, z_iF, z_le_t, z_le_f, z_lt_t, z_lt_f, z_cl, z_inb, z_at, z_pl, z_lit, nI_ii1, nI_add, z_mr, z_ref0, z_refn, z_eq_f, Bool.not_true, Bool.not_false, b2i_t, b2i_f, oG, f_KT_many_l16, nI_pos0, hK.1, hK.s1, e]
    · have e : mI (sI M 0 13 (nI 0)) (s + 1) 8 = nI (mnN (gX σ) (gY σ) 3) := hS.2.1.2.1
      simp (disch := first | assumption | omega) only [z_bd, z_cal, z_gd, z_iT, z_iF, z_le_t, z_le_f, z_lt_t, z_lt_f, z_cl, z_inb, z_at, z_pl, z_lit, nI_ii1, nI_add, z_mr, z_ref0, z_refn, z_eq_f, Bool.not_true, Bool.not_false, b2i_t, b2i_f, oG, f_KT_many_l16, nI_pos0, hK.1, hK.s1, e]
    · have e : mI (sI M 0 13 (nI 0)) (s + 9) 7 = nI (mnN (gX σ) (gY σ) 4) := hS.1.2.2.1
      simp (disch := first | assumption | omega) only [z_bd, z_cal, z_gd, z_iT, z_iF, z_le_t, z_le_f, z_lt_t, z_lt_f, z_cl, z_inb, z_at, z_pl, z_lit, nI_ii1, nI_add, z_mr, z_ref0, z_refn, z_eq_f, Bool.not_true, Bool.not_false, b2i_t, b2i_f, oG, f_KT_many_l16, nI_pos0, hK.1, hK.s1, e]
    · have e : mI (sI M 0 13 (nI 0)) (s + 9) 8 = nI (mnN (gX σ) (gY σ) 5) := hS.1.2.2.2.1
      simp (disch := first | assumption | omega) only [z_bd, z_cal, z_gd, z_iT, z_iF, z_le_t, z_le_f, z_lt_t, z_lt_f, z_cl, z_inb, z_at, z_pl, z_lit, nI_ii1, nI_add, z_mr, z_ref0, z_refn, z_eq_f, Bool.not_true, Bool.not_false, b2i_t, b2i_f, oG, f_KT_many_l16, nI_pos0, hK.1, hK.s1, e]
    · have e : f_Cloth_sum (s + 9) (s + 9 + 4) (sI M 0 13 (nI 0)) = some (nI (mnN (gX σ) (gY σ) 6), _) := q_sum (u := cU (gX σ)) hO.1.1 hS.1 l4 (fun r i hr hi => (hS.1.2.2.2.2.2 r i hr hi).2.2.1)
      simp (disch := first | assumption | omega) only [z_bd, z_cal, z_gd, z_iT, z_iF, z_le_t, z_le_f, z_lt_t, z_lt_f, z_cl, z_inb, z_at, z_pl, z_lit, nI_ii1, nI_add, z_mr, z_ref0, z_refn, z_eq_f, Bool.not_true, Bool.not_false, b2i_t, b2i_f, oG, f_KT_many_l16, nI_pos0, hK.1, hK.s1, e]
    · have e : f_Cloth_sum (s + 9) (s + 9 + 5) (sI M 0 13 (nI 0)) = some (nI (mnN (gX σ) (gY σ) 7), _) := q_sum (u := cD (gX σ)) hO.1.1 hS.1 l5 (fun r i hr hi => (hS.1.2.2.2.2.2 r i hr hi).2.2.2)
      simp (disch := first | assumption | omega) only [z_bd, z_cal, z_gd, z_iT, z_iF, z_le_t, z_le_f, z_lt_t, z_lt_f, z_cl, z_inb, z_at, z_pl, z_lit, nI_ii1, nI_add, z_mr, z_ref0, z_refn, z_eq_f, Bool.not_true, Bool.not_false, b2i_t, b2i_f, oG, f_KT_many_l16, nI_pos0, hK.1, hK.s1, e]
    · have e : f_Cloth_wornInAll (s + 9) (sI M 0 13 (nI 0)) = some (nI (mnN (gX σ) (gY σ) 8), _) := q_wornAll hO.1.1 hS.1
      simp (disch := first | assumption | omega) only [z_bd, z_cal, z_gd, z_iT, z_iF, z_le_t, z_le_f, z_lt_t, z_lt_f, z_cl, z_inb, z_at, z_pl, z_lit, nI_ii1, nI_add, z_mr, z_ref0, z_refn, z_eq_f, Bool.not_true, Bool.not_false, b2i_t, b2i_f, oG, f_KT_many_l16, nI_pos0, hK.1, hK.s1, e]
    · have e : f_Cloth_saidSet (s + 9) (s + 1) (sI M 0 13 (nI 0)) = some (nI (mnN (gX σ) (gY σ) 9), _) := q_saidSet hO.1.1 hS.1 hO.1.2.2.1 hS.2.1
      simp (disch := first | assumption | omega) only [z_bd, z_cal, z_gd, z_iT, z_iF, z_le_t, z_le_f, z_lt_t, z_lt_f, z_cl, z_inb, z_at, z_pl, z_lit, nI_ii1, nI_add, z_mr, z_ref0, z_refn, z_eq_f, Bool.not_true, Bool.not_false, b2i_t, b2i_f, oG, f_KT_many_l16, nI_pos0, hK.1, hK.s1, e]
theorem pM_many (v : Int32) : PM (f_RM_many v) (o_many v) := by
  intro M σ h
  have h0 := IM_00 h
  have g3 := rg_isIn v (A := 0) (B := 9) (a := 0) (b := 9) rfl rfl (M00 M)
  rw [f_RM_many]
  unfold o_many
  cases hz : rg v 0 9
  · rw [hz] at g3
    refine ⟨_, ?_, IM_r (nI 5) h0, lo_ref Lo_00⟩
    simp (disch := first | assumption | omega) only [z_bd, z_cal, z_gd, z_iT, z_iF, z_le_t, z_le_f, z_lt_t, z_lt_f, z_cl, z_inb, z_at, z_pl, z_lit, nI_ii1, nI_add, nI_mul, z_eq_f, z_refuse, z_no, z_M00, b2i_t, b2i_f, g3, oG]
  · rw [hz] at g3
    obtain ⟨c, -, hc, rfl⟩ := rg_ex (by omega) hz
    have ec : (nI c).toNatClampNeg = c := z_cl (by omega)
    refine ⟨_, ?_, h0, Lo_00⟩
    rw [ec]
    by_cases h6 : c < 6
    · have e : mA (M00 M) 140 c = nI (mnN (gX σ) (gY σ) c) := by
        have hc4 : c = 0 ∨ c = 1 ∨ c = 2 ∨ c = 3 ∨ c = 4 ∨ c = 5 := by omega
        rcases hc4 with rfl | rfl | rfl | rfl | rfl | rfl
        · exact h0.2.1.1.1
        · exact h0.2.1.1.2.1
        · exact h0.2.1.2.1.1
        · exact h0.2.1.2.1.2.1
        · exact h0.2.1.1.2.2.1
        · exact h0.2.1.1.2.2.2.1
      simp (disch := first | assumption | omega) only [z_bd, z_cal, z_gd, z_iT, z_iF, z_le_t, z_le_f, z_lt_t, z_lt_f, z_cl, z_inb, z_at, z_pl, z_lit, nI_ii1, nI_add, nI_mul, z_eq_f, z_refuse, z_no, z_M00, b2i_t, b2i_f, g3, oG, e]
    · have hc4 : c = 6 ∨ c = 7 ∨ c = 8 ∨ c = 9 := by omega
      rcases hc4 with rfl | rfl | rfl | rfl
      · have e : f_RM_sumOf (nI 0) (M00 M) = some (nI (mnN (gX σ) (gY σ) 6), _) := q_sumOf (v := 0) h0.1.1.1 h0.2.1.1 (Or.inl ⟨rfl, rfl⟩)
        simp (disch := first | assumption | omega) only [z_bd, z_cal, z_gd, z_iT, z_iF, z_le_t, z_le_f, z_lt_t, z_lt_f, z_cl, z_inb, z_at, z_pl, z_lit, nI_ii1, nI_add, nI_mul, z_eq_f, z_refuse, z_no, z_M00, b2i_t, b2i_f, g3, oG, z_sub, Nat.sub_self, e]
      · have e : f_RM_sumOf (nI 1) (M00 M) = some (nI (mnN (gX σ) (gY σ) 7), _) := q_sumOf (v := 1) h0.1.1.1 h0.2.1.1 (Or.inr (Or.inl ⟨rfl, rfl⟩))
        simp (disch := first | assumption | omega) only [z_bd, z_cal, z_gd, z_iT, z_iF, z_le_t, z_le_f, z_lt_t, z_lt_f, z_cl, z_inb, z_at, z_pl, z_lit, nI_ii1, nI_add, nI_mul, z_eq_f, z_refuse, z_no, z_M00, b2i_t, b2i_f, g3, oG, z_sub, Nat.reduceSub, e]
      · have e : f_RM_sumOf (nI 2) (M00 M) = some (nI (mnN (gX σ) (gY σ) 8), _) := q_sumOf (v := 2) h0.1.1.1 h0.2.1.1 (Or.inr (Or.inr ⟨rfl, rfl⟩))
        simp (disch := first | assumption | omega) only [z_bd, z_cal, z_gd, z_iT, z_iF, z_le_t, z_le_f, z_lt_t, z_lt_f, z_cl, z_inb, z_at, z_pl, z_lit, nI_ii1, nI_add, nI_mul, z_eq_f, z_refuse, z_no, z_M00, b2i_t, b2i_f, g3, oG, z_sub, Nat.reduceSub, e]
      · have e : f_RM_saidOnes (M00 M) = some (nI (mnN (gX σ) (gY σ) 9), _) := q_saidOnes h0.1.1.1 h0.2.1.1 h0.1.1.2.2.1 h0.2.1.2.1
        simp (disch := first | assumption | omega) only [z_bd, z_cal, z_gd, z_iT, z_iF, z_le_t, z_le_f, z_lt_t, z_lt_f, z_cl, z_inb, z_at, z_pl, z_lit, nI_ii1, nI_add, nI_mul, z_eq_f, z_refuse, z_no, z_M00, b2i_t, b2i_f, g3, oG, e]
end
