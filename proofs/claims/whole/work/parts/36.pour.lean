/-! ## POUR -/
section
variable {M M' : kx_M} {σ : Sg}
def okp (q : Int32) (n L : Nat) : Bool := decide (0 ≤ q.toInt) && decide (q.toInt + n ≤ L)
theorem okp_n {a n L : Nat} (ha : a < 2147483648) : okp (nI a) n L = decide (a + n ≤ L) := by
  unfold okp
  rw [nI_toInt (by omega), decide_eq_true (show (0 : Int) ≤ (a : Int) by omega), Bool.true_and]
  exact decide_eq_decide.mpr (by omega)
theorem okp_f {q : Int32} {n L : Nat} (h : q < nI 0) : okp q n L = false := by
  unfold okp
  have := Int32.lt_iff_toInt_lt.mp h
  rw [show (nI 0).toInt = 0 from rfl] at this
  rw [decide_eq_false (show ¬ 0 ≤ q.toInt by omega)]
  rfl
theorem z_l64 {a n L : Nat} (ha : a < 2147483648) (hn : n < 2147483648) (hL : L < 2147483648) : ((nI a).toInt64 + (nI n).toInt64 ≤ (nI L).toInt64) = (a + n ≤ L) := by
  refine propext ?_
  rw [Int64.le_iff_toInt_le, Int64.toInt_add, Int32.toInt_toInt64, Int32.toInt_toInt64, Int32.toInt_toInt64, nI_toInt (by omega), nI_toInt (by omega), nI_toInt (by omega), Int.bmod_eq_of_le (by omega) (by omega)]
  omega
theorem z_l64g {a n L : Nat} (ha : a < 2147483648) (hn : n < 2147483648) (hL : L < 2147483648) : ((nI L).toInt64 < (nI a).toInt64 + (nI n).toInt64) = (¬ a + n ≤ L) := by
  rw [← z_l64 ha hn hL]
  exact propext Int64.not_le.symm
def pourT (u w : Tr) (a b n : Nat) : Tr := (tM w, tS w, tL w, fun k => if b ≤ k ∧ k < b + n then tV u (a + (k - b)) else tV w k)
def pourG (p q r s n : Int32) (σ : Sg) : Sg := wT (wS σ (nI 0)) (updT (gT σ) r.toNatClampNeg (pourT (gT σ p.toNatClampNeg) (gT σ r.toNatClampNeg) q.toNatClampNeg s.toNatClampNeg n.toNatClampNeg))
def o_pour (p q r s n : Int32) (σ : Sg) : Int32 × Sg := oB (ix p 4) 1 (oB (ix r 4) 1 (oB (!tM (gT σ p.toNatClampNeg)) 3 (oB (!tM (gT σ r.toNatClampNeg)) 3 (oB (decide (tS (gT σ p.toNatClampNeg) = tS (gT σ r.toNatClampNeg))) 11 (oB (!decide (n < nI 0)) 6 (oB (okp q n.toNatClampNeg (tL (gT σ p.toNatClampNeg))) 4 (oB (okp s n.toNatClampNeg (tL (gT σ r.toNatClampNeg))) 4 (nI 1, pourG p q r s n σ) σ) σ) σ) σ) σ) σ) σ) σ
theorem pC_pour (p q r s n : Int32) : PC (f_KT_pour p q r s n) (o_pour p q r s n) := by
  intro M σ h
  have g1 := q_noTray p M
  have g2 := q_noTray r M
  rw [f_KT_pour]
  unfold o_pour
  cases hx : ix p 4
  · rw [hx] at g1
    refine ⟨_, ?_, IC_st (nI 1) h, Hi_st⟩
    simp (disch := first | assumption | omega) only [z_bd, z_cal, z_gd, z_iT, z_iF, z_le_t, z_le_f, z_lt_t, z_lt_f, z_cl, z_inb, z_at, z_pl, nI_lit, nI_ii1, nI_add, z_mr, z_ref0, z_refn, z_eq_f, Bool.not_true, Bool.not_false, b2i_t, b2i_f, g1, oB, f_KT_pour_l127]
  · rw [hx] at g1
    cases hy : ix r 4
    · rw [hy] at g2
      refine ⟨_, ?_, IC_st (nI 1) h, Hi_st⟩
      simp (disch := first | assumption | omega) only [z_bd, z_cal, z_gd, z_iT, z_iF, z_le_t, z_le_f, z_lt_t, z_lt_f, z_cl, z_inb, z_at, z_pl, nI_lit, nI_ii1, nI_add, z_mr, z_ref0, z_refn, z_eq_f, Bool.not_true, Bool.not_false, b2i_t, b2i_f, g1, g2, oB, f_KT_pour_l127]
    · rw [hy] at g2
      obtain ⟨t, ht, rfl⟩ := ix_ex (by omega) hx
      obtain ⟨v, hv, rfl⟩ := ix_ex (by omega) hy
      have e1 : (nI t).toNatClampNeg = t := z_cl (by omega)
      have e2 : (nI v).toNatClampNeg = v := z_cl (by omega)
      obtain ⟨hT1, hO1⟩ := IC_tr h ht
      obtain ⟨hT2, hO2⟩ := IC_tr h hv
      have em1 := hT1.1
      have em2 := hT2.1
      rw [e1, e2]
      cases hm1 : tM (gT σ t)
      · rw [hm1] at em1
        have ho1 := hO1 hm1
        obtain ⟨es1, el1, ev1⟩ := hT1.2 hm1
        cases hm2 : tM (gT σ v)
        · rw [hm2] at em2
          have ho2 := hO2 hm2
          obtain ⟨es2, el2, ev2⟩ := hT2.2 hm2
          have ho11 := ho1.1
          have ho12 := ho1.2
          have ho21 := ho2.1
          have ho22 := ho2.2
          by_cases hs : tS (gT σ t) = tS (gT σ v)
          · rw [decide_eq_true hs]
            have hs2 : (mI M (2 * t + 67) 2 = mI M (2 * v + 67) 2) := by rw [es1, es2, hs]
            by_cases hn : n < nI 0
            · rw [show decide (n < nI 0) = true from decide_eq_true hn]
              have hn' : ¬ nI 0 ≤ n := Int32.not_le.mpr hn
              refine ⟨_, ?_, IC_st (nI 6) h, Hi_st⟩
              simp (disch := first | assumption | omega) only [z_bd, z_cal, z_gd, z_iT, z_iF, z_le_t, z_le_f, z_lt_t, z_lt_f, z_cl, z_inb, z_at, z_pl, nI_lit, nI_ii1, nI_add, z_mr, z_ref0, z_refn, z_eq_f, Bool.not_true, Bool.not_false, b2i_t, b2i_f, g1, g2, em1, em2, hs2, hn', oB, f_KT_pour_l127]
            · rw [show decide (n < nI 0) = false from decide_eq_false hn]
              have hn' : nI 0 ≤ n := Int32.not_lt.mp hn
              obtain ⟨c, hc, rfl⟩ := nI_of (x := n) hn
              have e3 : (nI c).toNatClampNeg = c := z_cl (by omega)
              have l1 := q_lacks (p := q) el1 ho12 hc
              have l2 := q_lacks (p := s) el2 ho22 hc
              rw [show (decide (0 ≤ q.toInt) && decide (q.toInt + c ≤ tL (gT σ t))) = okp q c (tL (gT σ t)) from rfl] at l1
              rw [show (decide (0 ≤ s.toInt) && decide (s.toInt + c ≤ tL (gT σ v))) = okp s c (tL (gT σ v)) from rfl] at l2
              rw [e3]
              cases hk : okp q c (tL (gT σ t))
              · rw [hk] at l1
                refine ⟨_, ?_, IC_st (nI 4) h, Hi_st⟩
                simp (disch := first | assumption | omega) only [z_bd, z_cal, z_gd, z_iT, z_iF, z_le_t, z_le_f, z_lt_t, z_lt_f, z_cl, z_inb, z_at, z_pl, nI_lit, nI_ii1, nI_add, z_mr, z_ref0, z_refn, z_eq_f, Bool.not_true, Bool.not_false, b2i_t, b2i_f, g1, g2, em1, em2, hs2, hn', l1, oB, f_KT_pour_l127]
              · rw [hk] at l1
                cases hk2 : okp s c (tL (gT σ v))
                · rw [hk2] at l2
                  refine ⟨_, ?_, IC_st (nI 4) h, Hi_st⟩
                  simp (disch := first | assumption | omega) only [z_bd, z_cal, z_gd, z_iT, z_iF, z_le_t, z_le_f, z_lt_t, z_lt_f, z_cl, z_inb, z_at, z_pl, nI_lit, nI_ii1, nI_add, z_mr, z_ref0, z_refn, z_eq_f, Bool.not_true, Bool.not_false, b2i_t, b2i_f, g1, g2, em1, em2, hs2, hn', l1, l2, oB, f_KT_pour_l127]
                · rw [hk2] at l2
                  have hq : ¬ q < nI 0 := fun e => by rw [okp_f e] at hk; cases hk
                  have hr : ¬ s < nI 0 := fun e => by rw [okp_f e] at hk2; cases hk2
                  obtain ⟨a, ha, rfl⟩ := nI_of (x := q) hq
                  obtain ⟨b, hb, rfl⟩ := nI_of (x := s) hr
                  rw [okp_n ha] at hk
                  rw [okp_n hb] at hk2
                  have hk := of_decide_eq_true hk
                  have hk2 := of_decide_eq_true hk2
                  have e4 : (nI a).toNatClampNeg = a := z_cl (by omega)
                  have e5 : (nI b).toNatClampNeg = b := z_cl (by omega)
                  have h1 := IC_st (nI 0) h
                  have hcp : cpb (nI a) (nI b) (nI c) 60 60 = true := decide_eq_true ⟨nI_pos (by omega), nI_pos (by omega), hn, by rw [e4, e3]; omega, by rw [e5, e3]; omega⟩
                  have hF : Fr (fun id => id = 2 * v + 67 ∨ id = 2 * v + 68) (sI M 0 13 (nI 0)) (sB (sI M 0 13 (nI 0)) (2 * v + 68) (va_cpy (mB M (2 * t + 68)) (mB M (2 * v + 68)) a b c)) := Fr.sB (Or.inr rfl)
                  have hT : CT (sB (sI M 0 13 (nI 0)) (2 * v + 68) (va_cpy (mB M (2 * t + 68)) (mB M (2 * v + 68)) a b c)) v (pourT (gT σ t) (gT σ v) a b c) := by
                    obtain ⟨hT3, -⟩ := IC_tr h1 hv
                    refine ⟨hT3.1, fun _ => ⟨(hT3.2 hm2).1, (hT3.2 hm2).2.1, fun k hk3 => ?_⟩⟩
                    have hk3 : k < tL (gT σ v) := hk3
                    rw [mB_sB, if_pos rfl]
                    show (if b ≤ k ∧ k < b + c then mB M (2 * t + 68) (a + (k - b)) else mB M (2 * v + 68) k) = (if b ≤ k ∧ k < b + c then tV (gT σ t) (a + (k - b)) else tV (gT σ v) k)
                    by_cases hkk : b ≤ k ∧ k < b + c
                    · rw [if_pos hkk, if_pos hkk, ev1 _ (by omega)]
                    · rw [if_neg hkk, if_neg hkk, ev2 _ hk3]
                  simp only [oB, pourG]
                  rw [e1, e2, e3, e4, e5]
                  refine ⟨_, ?_, IC_tray h1 hv hF hT (fun _ => ho2), Hi_st.tr (hF.mono (fun id e => by show id < 135; omega))⟩
                  simp (disch := first | assumption | omega) only [z_bd, z_cal, z_gd, z_iT, z_iF, z_le_t, z_le_f, z_lt_t, z_lt_f, z_cl, z_inb, z_at, z_pl, nI_lit, nI_ii1, nI_add, z_mr, z_ref0, z_refn, z_eq_f, Bool.not_true, Bool.not_false, b2i_t, b2i_f, g1, g2, em1, em2, hs2, hn', l1, l2, f_KT_pour_l127, hcp]
                  rfl
          · rw [decide_eq_false hs]
            have hs2 : ¬ (mI M (2 * t + 67) 2 = mI M (2 * v + 67) 2) := by rw [es1, es2]; exact fun e => hs ((nI_eq (by omega) (by omega)).mp e)
            refine ⟨_, ?_, IC_st (nI 11) h, Hi_st⟩
            simp (disch := first | assumption | omega) only [z_bd, z_cal, z_gd, z_iT, z_iF, z_le_t, z_le_f, z_lt_t, z_lt_f, z_cl, z_inb, z_at, z_pl, nI_lit, nI_ii1, nI_add, z_mr, z_ref0, z_refn, z_eq_f, Bool.not_true, Bool.not_false, b2i_t, b2i_f, g1, g2, em1, em2, hs2, oB, f_KT_pour_l127]
        · rw [hm2] at em2
          refine ⟨_, ?_, IC_st (nI 3) h, Hi_st⟩
          simp (disch := first | assumption | omega) only [z_bd, z_cal, z_gd, z_iT, z_iF, z_le_t, z_le_f, z_lt_t, z_lt_f, z_cl, z_inb, z_at, z_pl, nI_lit, nI_ii1, nI_add, z_mr, z_ref0, z_refn, z_eq_f, Bool.not_true, Bool.not_false, b2i_t, b2i_f, g1, g2, em1, em2, oB, f_KT_pour_l127]
      · rw [hm1] at em1
        refine ⟨_, ?_, IC_st (nI 3) h, Hi_st⟩
        simp (disch := first | assumption | omega) only [z_bd, z_cal, z_gd, z_iT, z_iF, z_le_t, z_le_f, z_lt_t, z_lt_f, z_cl, z_inb, z_at, z_pl, nI_lit, nI_ii1, nI_add, z_mr, z_ref0, z_refn, z_eq_f, Bool.not_true, Bool.not_false, b2i_t, b2i_f, g1, g2, em1, oB, f_KT_pour_l127]
/-! the reference's -/
def blk (B : Nat → Int64) (src dst lo hi : Nat) : Nat → Int64 := fun k => if dst + lo ≤ k ∧ k < dst + hi then B (src + (k - dst)) else B k
theorem q_Mpour_f {t v a b n : Nat} {B : Nat → Int64} (ht : t < 4) (hv : v < 4) (ha : a + n ≤ 60) (hb : b + n ≤ 60) (hba : b ≤ a) : ∀ (m f i : Nat) (M : kx_M), i + m = n → m < f → (∀ k, mB M 138 k = blk B (60 * t + a) (60 * v + b) 0 i k) → ∃ M', f_RM_pour_l158 (nI t) (nI a) (nI v) (nI b) (nI n) f (nI 0) (nI i) M = some (nI 1, M') ∧ Fr (fun q => q = 138) M M' ∧ ∀ k, mB M' 138 k = blk B (60 * t + a) (60 * v + b) 0 n k := by
  intro m
  induction m with
  | zero =>
    intro f i M hi hf hB
    obtain ⟨f, rfl, hf⟩ := z_succ hf
    obtain rfl : i = n := by omega
    refine ⟨M, ?_, Fr.rf, hB⟩
    rw [f_RM_pour_l158]
    simp (disch := first | assumption | omega) only [z_bd, z_cal, z_gd, z_iT, z_iF, z_le_t, z_le_f, z_lt_t, z_lt_f, z_cl, z_inb, z_at, z_pl, z_lit, nI_ii1, nI_add, nI_mul, z_eq_f, z_refuse, z_no, z_M00, b2i_t, b2i_f]
  | succ m ih =>
    intro f i M hi hf hB
    obtain ⟨f, rfl, hf⟩ := z_succ hf
    obtain ⟨M', g1, g2, g3⟩ := ih f (i + 1) (sB M 138 (vp_updL (mB M 138) (60 * v + b + i) (mB M 138 (60 * t + a + i)))) (by omega) (by omega) (fun k => by
      rw [mB_sB, if_pos rfl]
      show (if k = 60 * v + b + i then mB M 138 (60 * t + a + i) else mB M 138 k) = _
      rw [hB, hB]
      unfold blk
      by_cases h1 : k = 60 * v + b + i
      · have hn : ¬ (60 * v + b + 0 ≤ 60 * t + a + i ∧ 60 * t + a + i < 60 * v + b + i) := by
          have hc : t < v ∨ t = v ∨ v < t := by omega
          rcases hc with hc | hc | hc <;> omega
        rw [if_pos h1, if_neg hn, if_pos (by omega)]
        congr 1
        omega
      · rw [if_neg h1]
        by_cases h2 : 60 * v + b + 0 ≤ k ∧ k < 60 * v + b + i
        · rw [if_pos h2, if_pos (by omega)]
        · rw [if_neg h2, if_neg (by omega)])
    refine ⟨M', ?_, Fr.tr (Fr.sB rfl) g2, g3⟩
    rw [f_RM_pour_l158, f_RM_pour_l182]
    simp (disch := first | assumption | omega) only [z_bd, z_cal, z_gd, z_iT, z_iF, z_le_t, z_le_f, z_lt_t, z_lt_f, z_cl, z_inb, z_at, z_pl, z_lit, nI_ii1, nI_add, nI_mul, z_eq_f, z_refuse, z_no, z_M00, b2i_t, b2i_f]
    exact g1
theorem q_Mpour_b {t v a b n : Nat} {B : Nat → Int64} (ht : t < 4) (hv : v < 4) (ha : a + n ≤ 60) (hb : b + n ≤ 60) (hba : a ≤ b) : ∀ (m f i : Nat) (M : kx_M), i + m = n → m < f → (∀ k, mB M 138 k = blk B (60 * t + a) (60 * v + b) (n - i) n k) → ∃ M', f_RM_pour_l158 (nI t) (nI a) (nI v) (nI b) (nI n) f (nI 1) (nI i) M = some (nI 1, M') ∧ Fr (fun q => q = 138) M M' ∧ ∀ k, mB M' 138 k = blk B (60 * t + a) (60 * v + b) 0 n k := by
  intro m
  induction m with
  | zero =>
    intro f i M hi hf hB
    obtain ⟨f, rfl, hf⟩ := z_succ hf
    obtain rfl : i = n := by omega
    rw [Nat.sub_self] at hB
    refine ⟨M, ?_, Fr.rf, hB⟩
    rw [f_RM_pour_l158]
    simp (disch := first | assumption | omega) only [z_bd, z_cal, z_gd, z_iT, z_iF, z_le_t, z_le_f, z_lt_t, z_lt_f, z_cl, z_inb, z_at, z_pl, z_lit, nI_ii1, nI_add, nI_mul, z_eq_f, z_refuse, z_no, z_M00, b2i_t, b2i_f]
  | succ m ih =>
    intro f i M hi hf hB
    obtain ⟨f, rfl, hf⟩ := z_succ hf
    obtain ⟨M', g1, g2, g3⟩ := ih f (i + 1) (sB M 138 (vp_updL (mB M 138) (60 * v + b + (n - 1 - i)) (mB M 138 (60 * t + a + (n - 1 - i))))) (by omega) (by omega) (fun k => by
      rw [mB_sB, if_pos rfl]
      show (if k = 60 * v + b + (n - 1 - i) then mB M 138 (60 * t + a + (n - 1 - i)) else mB M 138 k) = _
      rw [hB, hB]
      unfold blk
      by_cases h1 : k = 60 * v + b + (n - 1 - i)
      · have hn : ¬ (60 * v + b + (n - i) ≤ 60 * t + a + (n - 1 - i) ∧ 60 * t + a + (n - 1 - i) < 60 * v + b + n) := by
          have hc : t < v ∨ t = v ∨ v < t := by omega
          rcases hc with hc | hc | hc <;> omega
        rw [if_pos h1, if_neg hn, if_pos (by omega)]
        congr 1
        omega
      · rw [if_neg h1]
        by_cases h2 : 60 * v + b + (n - i) ≤ k ∧ k < 60 * v + b + n
        · rw [if_pos h2, if_pos (by omega)]
        · rw [if_neg h2, if_neg (by omega)])
    refine ⟨M', ?_, Fr.tr (Fr.sB rfl) g2, g3⟩
    rw [f_RM_pour_l158]
    simp (disch := first | assumption | omega) only [z_bd, z_cal, z_gd, z_iT, z_iF, z_le_t, z_le_f, z_lt_t, z_lt_f, z_cl, z_inb, z_at, z_pl, z_lit, nI_ii1, nI_add, nI_mul, z_eq_f, z_refuse, z_no, z_M00, b2i_t, b2i_f, z_sub, f_RM_pour_l182]
    exact g1
theorem pM_pour (p q r s n : Int32) : PM (f_RM_pour p q r s n) (o_pour p q r s n) := by
  intro M σ h
  have h0 := IM_00 h
  rw [f_RM_pour]
  unfold o_pour
  cases hx : ix p 4
  · refine ⟨_, ?_, IM_r (nI 1) h0, lo_ref Lo_00⟩
    rcases ix_f (by omega) hx with h1 | h1
    · simp (disch := first | assumption | omega) only [z_bd, z_cal, z_gd, z_iT, z_iF, z_le_t, z_le_f, z_lt_t, z_lt_f, z_cl, z_inb, z_at, z_pl, nI_lit, nI_ii1, nI_add, nI_mul, z_eq_f, z_refuse, z_no, z_M00, b2i_t, b2i_f, oB, z_b01n0, show p < nI 0 from h1]
    · by_cases h2 : p < nI 0
      · simp (disch := first | assumption | omega) only [z_bd, z_cal, z_gd, z_iT, z_iF, z_le_t, z_le_f, z_lt_t, z_lt_f, z_cl, z_inb, z_at, z_pl, nI_lit, nI_ii1, nI_add, nI_mul, z_eq_f, z_refuse, z_no, z_M00, b2i_t, b2i_f, oB, z_b01n0, h2]
      · simp (disch := first | assumption | omega) only [z_bd, z_cal, z_gd, z_iT, z_iF, z_le_t, z_le_f, z_lt_t, z_lt_f, z_cl, z_inb, z_at, z_pl, nI_lit, nI_ii1, nI_add, nI_mul, z_eq_f, z_refuse, z_no, z_M00, b2i_t, b2i_f, oB, z_b01n0, h2, show nI 4 ≤ p from Int32.not_lt.mp h1]
  · obtain ⟨t, ht, rfl⟩ := ix_ex (by omega) hx
    cases hy : ix r 4
    · refine ⟨_, ?_, IM_r (nI 1) h0, lo_ref Lo_00⟩
      rcases ix_f (by omega) hy with h1 | h1
      · simp (disch := first | assumption | omega) only [z_bd, z_cal, z_gd, z_iT, z_iF, z_le_t, z_le_f, z_lt_t, z_lt_f, z_cl, z_inb, z_at, z_pl, nI_lit, nI_ii1, nI_add, nI_mul, z_eq_f, z_refuse, z_no, z_M00, b2i_t, b2i_f, nI_pos0, oB, z_b01n0, show r < nI 0 from h1]
      · by_cases h2 : r < nI 0
        · simp (disch := first | assumption | omega) only [z_bd, z_cal, z_gd, z_iT, z_iF, z_le_t, z_le_f, z_lt_t, z_lt_f, z_cl, z_inb, z_at, z_pl, nI_lit, nI_ii1, nI_add, nI_mul, z_eq_f, z_refuse, z_no, z_M00, b2i_t, b2i_f, nI_pos0, oB, z_b01n0, h2]
        · simp (disch := first | assumption | omega) only [z_bd, z_cal, z_gd, z_iT, z_iF, z_le_t, z_le_f, z_lt_t, z_lt_f, z_cl, z_inb, z_at, z_pl, nI_lit, nI_ii1, nI_add, nI_mul, z_eq_f, z_refuse, z_no, z_M00, b2i_t, b2i_f, nI_pos0, oB, z_b01n0, h2, show ¬ r < nI 4 from h1]
    · obtain ⟨v, hv, rfl⟩ := ix_ex (by omega) hy
      have e1 : (nI t).toNatClampNeg = t := z_cl (by omega)
      have e2 : (nI v).toNatClampNeg = v := z_cl (by omega)
      obtain ⟨hT1, hO1⟩ := IM_tr h0 ht
      obtain ⟨hT2, hO2⟩ := IM_tr h0 hv
      rw [e1, e2]
      cases hm1 : tM (gT σ t)
      · have ho1 := hO1 hm1
        obtain ⟨el1, es1, ev1⟩ := hT1.2 hm1
        have ho11 : tS (gT σ t) ≤ 3 := ho1.1
        have ho12 : tL (gT σ t) ≤ 60 := ho1.2
        have el1 : mA (M00 M) 137 t = nI (tL (gT σ t)) := el1
        have es1 : mA (M00 M) 136 t = nI (tS (gT σ t)) := es1
        have ev1 : ∀ k, k < tL (gT σ t) → mB (M00 M) 138 (60 * t + k) = tV (gT σ t) k := ev1
        cases hm2 : tM (gT σ v)
        · have ho2 := hO2 hm2
          obtain ⟨el2, es2, ev2⟩ := hT2.2 hm2
          have ho21 : tS (gT σ v) ≤ 3 := ho2.1
          have ho22 : tL (gT σ v) ≤ 60 := ho2.2
          have el2 : mA (M00 M) 137 v = nI (tL (gT σ v)) := el2
          have es2 : mA (M00 M) 136 v = nI (tS (gT σ v)) := es2
          have ev2 : ∀ k, k < tL (gT σ v) → mB (M00 M) 138 (60 * v + k) = tV (gT σ v) k := ev2
          by_cases hs : tS (gT σ t) = tS (gT σ v)
          · rw [decide_eq_true hs]
            have hs2 : (mA (M00 M) 136 t = mA (M00 M) 136 v) := by rw [es1, es2, hs]
            by_cases hn : n < nI 0
            · rw [show decide (n < nI 0) = true from decide_eq_true hn]
              have hn' : ¬ nI 0 ≤ n := Int32.not_le.mpr hn
              refine ⟨_, ?_, IM_r (nI 6) h0, lo_ref Lo_00⟩
              simp (disch := first | assumption | omega) only [z_bd, z_cal, z_gd, z_iT, z_iF, z_le_t, z_le_f, z_lt_t, z_lt_f, z_cl, z_inb, z_at, z_pl, nI_lit, nI_ii1, nI_add, nI_mul, z_eq_f, z_refuse, z_no, z_M00, b2i_t, b2i_f, nI_pos0, el1, el2, hs2, hn', oB, z_b01n0, Bool.not_true, Bool.not_false]
            · rw [show decide (n < nI 0) = false from decide_eq_false hn]
              have hn' : nI 0 ≤ n := Int32.not_lt.mp hn
              obtain ⟨c, hc, rfl⟩ := nI_of (x := n) hn
              have e3 : (nI c).toNatClampNeg = c := z_cl (by omega)
              rw [e3]
              by_cases hq : q < nI 0
              · rw [okp_f hq]
                refine ⟨_, ?_, IM_r (nI 4) h0, lo_ref Lo_00⟩
                simp (disch := first | assumption | omega) only [z_bd, z_cal, z_gd, z_iT, z_iF, z_le_t, z_le_f, z_lt_t, z_lt_f, z_cl, z_inb, z_at, z_pl, nI_lit, nI_ii1, nI_add, nI_mul, z_eq_f, z_refuse, z_no, z_M00, b2i_t, b2i_f, nI_pos0, el1, el2, hs2, hn', hq, oB, z_b01n0, Bool.not_true, Bool.not_false]
              · obtain ⟨a, ha, rfl⟩ := nI_of (x := q) hq
                by_cases hr : s < nI 0
                · rw [okp_f hr]
                  cases okp (nI a) c (tL (gT σ t))
                  · refine ⟨_, ?_, IM_r (nI 4) h0, lo_ref Lo_00⟩
                    simp (disch := first | assumption | omega) only [z_bd, z_cal, z_gd, z_iT, z_iF, z_le_t, z_le_f, z_lt_t, z_lt_f, z_cl, z_inb, z_at, z_pl, nI_lit, nI_ii1, nI_add, nI_mul, z_eq_f, z_refuse, z_no, z_M00, b2i_t, b2i_f, nI_pos0, el1, el2, hs2, hn', hr, oB, z_b01n0, Bool.not_true, Bool.not_false]
                  · refine ⟨_, ?_, IM_r (nI 4) h0, lo_ref Lo_00⟩
                    simp (disch := first | assumption | omega) only [z_bd, z_cal, z_gd, z_iT, z_iF, z_le_t, z_le_f, z_lt_t, z_lt_f, z_cl, z_inb, z_at, z_pl, nI_lit, nI_ii1, nI_add, nI_mul, z_eq_f, z_refuse, z_no, z_M00, b2i_t, b2i_f, nI_pos0, el1, el2, hs2, hn', hr, oB, z_b01n0, Bool.not_true, Bool.not_false]
                · obtain ⟨b, hb, rfl⟩ := nI_of (x := s) hr
                  rw [okp_n ha, okp_n hb]
                  by_cases hk : a + c ≤ tL (gT σ t)
                  · by_cases hk2 : b + c ≤ tL (gT σ v)
                    · have e4 : (nI a).toNatClampNeg = a := z_cl (by omega)
                      have e5 : (nI b).toNatClampNeg = b := z_cl (by omega)
                      have fin : ∀ M', Fr (fun q => q = 138) (M00 M) M' → (∀ k, mB M' 138 k = blk (mB (M00 M) 138) (60 * t + a) (60 * v + b) 0 c k) → IM M' (wT (wS σ (nI 0)) (updT (gT σ) v (pourT (gT σ t) (gT σ v) a b c))) ∧ Lo M M' := by
                        intro M' hF hB
                        have f136 := (hF 136 (by decide)).2.2.1
                        have f137 := (hF 137 (by decide)).2.2.1
                        refine ⟨IM_tray h0 hv (hF.mono (fun id e => Or.inr (Or.inr e))) ⟨(fun e => by rw [show tM (pourT (gT σ t) (gT σ v) a b c) = false from hm2] at e; cases e), fun _ => ⟨by rw [f137]; exact el2, by rw [f136]; exact es2, fun k hk3 => ?_⟩⟩ (fun j hj hjv => ⟨by rw [f137], by rw [f136], fun k hk3 => ?_⟩) (fun _ => ho2), Lo_00.tr (hF.mono (fun id e => by show 135 ≤ id; omega))⟩
                        · have hk3 : k < tL (gT σ v) := hk3
                          rw [hB]
                          show (if 60 * v + b + 0 ≤ 60 * v + k ∧ 60 * v + k < 60 * v + b + c then _ else _) = (if b ≤ k ∧ k < b + c then tV (gT σ t) (a + (k - b)) else tV (gT σ v) k)
                          by_cases hkk : b ≤ k ∧ k < b + c
                          · rw [if_pos (by omega), if_pos hkk, ← ev1 _ (by omega)]
                            congr 1
                            omega
                          · rw [if_neg (by omega), if_neg hkk, ev2 _ hk3]
                        · rw [hB]
                          show (if 60 * v + b + 0 ≤ 60 * j + k ∧ 60 * j + k < 60 * v + b + c then _ else _) = _
                          rw [if_neg (by omega)]
                      rw [decide_eq_true hk, decide_eq_true hk2]
                      simp only [oB, pourG]
                      rw [e1, e2, e3, e4, e5]
                      by_cases hab : b ≤ a
                      · obtain ⟨M', b1, b2, b3⟩ := q_Mpour_f (B := mB (M00 M) 138) ht hv (show a + c ≤ 60 by omega) (show b + c ≤ 60 by omega) hab c FU 0 (M00 M) (by omega) (FU_lt (by omega)) (fun k => by
                          unfold blk
                          rw [if_neg (by omega)])
                        obtain ⟨g1, g2⟩ := fin M' b2 b3
                        refine ⟨M', ?_, g1, g2⟩
                        simp (disch := first | assumption | omega) only [z_bd, z_cal, z_gd, z_iT, z_iF, z_le_t, z_le_f, z_lt_t, z_lt_f, z_cl, z_inb, z_at, z_pl, nI_lit, nI_ii1, nI_add, nI_mul, z_eq_f, z_refuse, z_no, z_M00, b2i_t, b2i_f, nI_pos0, el1, el2, hs2, hn', z_cgt, z_cle, z_l64, z_l64g, hk, hk2, not_true]
                        exact b1
                      · obtain ⟨M', b1, b2, b3⟩ := q_Mpour_b (B := mB (M00 M) 138) ht hv (show a + c ≤ 60 by omega) (show b + c ≤ 60 by omega) (show a ≤ b by omega) c FU 0 (M00 M) (by omega) (FU_lt (by omega)) (fun k => by
                          unfold blk
                          rw [if_neg (by omega)])
                        obtain ⟨g1, g2⟩ := fin M' b2 b3
                        refine ⟨M', ?_, g1, g2⟩
                        simp (disch := first | assumption | omega) only [z_bd, z_cal, z_gd, z_iT, z_iF, z_le_t, z_le_f, z_lt_t, z_lt_f, z_cl, z_inb, z_at, z_pl, nI_lit, nI_ii1, nI_add, nI_mul, z_eq_f, z_refuse, z_no, z_M00, b2i_t, b2i_f, nI_pos0, el1, el2, hs2, hn', z_cgt, z_cle, z_l64, z_l64g, hk, hk2, not_true]
                        exact b1
                    · rw [decide_eq_true hk, decide_eq_false hk2]
                      refine ⟨_, ?_, IM_r (nI 4) h0, lo_ref Lo_00⟩
                      simp (disch := first | assumption | omega) only [z_bd, z_cal, z_gd, z_iT, z_iF, z_le_t, z_le_f, z_lt_t, z_lt_f, z_cl, z_inb, z_at, z_pl, nI_lit, nI_ii1, nI_add, nI_mul, z_eq_f, z_refuse, z_no, z_M00, b2i_t, b2i_f, nI_pos0, el1, el2, hs2, hn', oB, z_b01n0, Bool.not_true, Bool.not_false, z_cgt, z_cle, z_l64, z_l64g, hk, hk2, not_true, not_false_eq_true]
                  · rw [decide_eq_false hk]
                    refine ⟨_, ?_, IM_r (nI 4) h0, lo_ref Lo_00⟩
                    simp (disch := first | assumption | omega) only [z_bd, z_cal, z_gd, z_iT, z_iF, z_le_t, z_le_f, z_lt_t, z_lt_f, z_cl, z_inb, z_at, z_pl, nI_lit, nI_ii1, nI_add, nI_mul, z_eq_f, z_refuse, z_no, z_M00, b2i_t, b2i_f, nI_pos0, el1, el2, hs2, hn', oB, z_b01n0, Bool.not_true, Bool.not_false, z_cgt, z_cle, z_l64, z_l64g, hk, not_true, not_false_eq_true]
          · rw [decide_eq_false hs]
            have hs2 : ¬ (mA (M00 M) 136 t = mA (M00 M) 136 v) := by rw [es1, es2]; exact fun e => hs ((nI_eq (by omega) (by omega)).mp e)
            refine ⟨_, ?_, IM_r (nI 11) h0, lo_ref Lo_00⟩
            simp (disch := first | assumption | omega) only [z_bd, z_cal, z_gd, z_iT, z_iF, z_le_t, z_le_f, z_lt_t, z_lt_f, z_cl, z_inb, z_at, z_pl, nI_lit, nI_ii1, nI_add, nI_mul, z_eq_f, z_refuse, z_no, z_M00, b2i_t, b2i_f, nI_pos0, el1, el2, hs2, oB, z_b01n0, Bool.not_true, Bool.not_false]
        · have em : mA (M00 M) 137 v = -1 := hT2.1 hm2
          rw [show (-1 : Int32) = -nI 1 from rfl] at em
          refine ⟨_, ?_, IM_r (nI 3) h0, lo_ref Lo_00⟩
          simp (disch := first | assumption | omega) only [z_bd, z_cal, z_gd, z_iT, z_iF, z_le_t, z_le_f, z_lt_t, z_lt_f, z_cl, z_inb, z_at, z_pl, nI_lit, nI_ii1, nI_add, nI_mul, z_eq_f, z_refuse, z_no, z_M00, b2i_t, b2i_f, nI_pos0, el1, em, z_neg, oB, z_b01n0, Bool.not_true, Bool.not_false]
      · have em : mA (M00 M) 137 t = -1 := hT1.1 hm1
        rw [show (-1 : Int32) = -nI 1 from rfl] at em
        have z_negl : (-nI 1 < nI 0) = True := eq_true (by decide)
        refine ⟨_, ?_, IM_r (nI 3) h0, lo_ref Lo_00⟩
        simp (disch := first | assumption | omega) only [z_bd, z_cal, z_gd, z_iT, z_iF, z_le_t, z_le_f, z_lt_t, z_lt_f, z_cl, z_inb, z_at, z_pl, nI_lit, nI_ii1, nI_add, nI_mul, z_eq_f, z_refuse, z_no, z_M00, b2i_t, b2i_f, nI_pos0, em, z_negl, oB, z_b01n0, Bool.not_true, Bool.not_false]
end
