/-! ## CENTURIES' text: the reference's numbers, names -/
def fld (M : kx_M) (w : Nat) : Nat → Int32 := fun j => mA M 140 (w + j)
/-- two steps that agree where it counts, but for the end -/
def useG (f g : Nat → Int32) : Prop := g 0 = f 0 ∧ (f 0 ≠ nI 4 → f 0 ≠ nI 7 → g 1 = f 1) ∧ (f 0 = nI 1 ∨ f 0 = nI 2 ∨ f 0 = nI 3 → g 2 = f 2) ∧ (f 0 = nI 5 → g 6 = f 6 ∧ (f 6 = nI 2 → g 7 = f 7))
def CwM (M : kx_M) (T : Nat → Nat) (n w : Nat) (x : Cl) (y : De) (t : Tok) (f : Option (Int32 × kx_M)) (j : Nat) (v : Except Er Nat) : Prop := match v with
    | .ok u => ∃ M1, f = some (nI u, M1) ∧ TkM (sA M1 140 (upd (mA M1 140) (w + j) (nI u))) (nx T n t) ∧ TkB (nx T n t) ∧ MZk (sA M1 140 (upd (mA M1 140) (w + j) (nI u))) T n x y ∧ FrZs w M (sA M1 140 (upd (mA M1 140) (w + j) (nI u))) ∧ (∀ i, fld (sA M1 140 (upd (mA M1 140) (w + j) (nI u))) w i = if i = j then nI u else fld M w i)
    | .error er => ∃ M1, f = some (nI 0, M1) ∧ Bd (sA M1 140 (upd (mA M1 140) (w + j) (nI 0))) er ∧ FrZs w M (sA M1 140 (upd (mA M1 140) (w + j) (nI 0)))
section
variable {M M' M1 : kx_M} {T : Nat → Nat} {n w : Nat} {t : Tok} {x : Cl} {y : De} {e : Er}
theorem q_cntZ {lo hi : Nat} (h : MZk M T n x y) (hT : TkM M t) (hB : TkB t) (ha : kA t ≤ n) (hlo : lo < 10000) (hhi : hi < 10000) : NmM M T n w x y t (f_RM_count (nI lo) (nI hi) M) (pNum lo hi t) := by
  refine q_cntZ0 h hT hB ha (fun h3 => ?_) (fun h3 => ?_) (fun h3 => ?_)
  · have hv := hB.2.2.1 h3
    have gI := rg_isIn (nI (kV t)) (A := (nI lo).toInt64) (B := (nI hi).toInt64) (a := lo) (b := hi) (jJ_toInt (by omega)) (jJ_toInt (by omega)) M
    rw [gI]
    unfold rg pNum
    rw [nI_toInt (by omega), if_pos h3]
    by_cases hh : lo ≤ kV t ∧ kV t ≤ hi
    · rw [if_pos hh, decide_eq_true (show (lo : Int) ≤ (kV t : Int) by omega), decide_eq_true (show (kV t : Int) ≤ (hi : Int) by omega)]; rfl
    · rw [if_neg hh]
      by_cases c1 : lo ≤ kV t
      · rw [decide_eq_false (show ¬ (kV t : Int) ≤ (hi : Int) by omega), Bool.and_false]
      · rw [decide_eq_false (show ¬ (lo : Int) ≤ (kV t : Int) by omega), Bool.false_and]
  · unfold pNum
    rw [if_pos h3]
    by_cases hh : lo ≤ kV t ∧ kV t ≤ hi
    · rw [if_pos hh]; exact Or.inl rfl
    · rw [if_neg hh]; exact Or.inr rfl
  · unfold pNum
    rw [if_neg h3]
theorem q_cntR {R : Nat} (hR : R ≤ 12) (h : MZk M T n x y) (hT : TkM M t) (hB : TkB t) (ha : kA t ≤ n) : NmM M T n w x y t (f_RM_count (nI 0) (nI R - nI 1) M) (pNmR R t) := by
  refine q_cntZ0 h hT hB ha (fun h3 => ?_) (fun h3 => ?_) (fun h3 => ?_)
  · have hv := hB.2.2.1 h3
    have gI := ix_isIn (nI (kV t)) (R := R) (by omega) M
    rw [show (nI 0 : Int32).toInt64 = 0 from rfl, gI]
    unfold ix pNmR pNum
    rw [nI_toInt (by omega), if_pos h3, if_pos h3]
    by_cases h0 : R = 0
    · rw [if_pos h0, decide_eq_false (show ¬ (kV t : Int) < (R : Int) by omega), Bool.and_false]
    · rw [if_neg h0]
      by_cases hh : 0 ≤ kV t ∧ kV t ≤ R - 1
      · rw [if_pos hh, decide_eq_true (show (0 : Int) ≤ (kV t : Int) by omega), decide_eq_true (show (kV t : Int) < (R : Int) by omega)]; rfl
      · rw [if_neg hh, decide_eq_false (show ¬ (kV t : Int) < (R : Int) by omega), Bool.and_false]
  · unfold pNmR pNum
    rw [if_pos h3, if_pos h3]
    by_cases h0 : R = 0
    · rw [if_pos h0]; exact Or.inr rfl
    · rw [if_neg h0]
      by_cases hh : 0 ≤ kV t ∧ kV t ≤ R - 1
      · rw [if_pos hh]; exact Or.inl rfl
      · rw [if_neg hh]; exact Or.inr rfl
  · unfold pNmR pNum
    rw [if_neg h3, if_neg h3]
    by_cases h0 : R = 0
    · rw [if_pos h0]
    · rw [if_neg h0]
theorem q_named0 {W : Nat} (hP : OkD W y) (h : MZk M T n x y) (hT : TkM M t) (hk : isK t 26 = true) : f_RM_named (nI 0) (nI 1) M = some (oI (idC y (kW t)), M) := by
  have hD := h.2.2.2
  have hw := wM_of hT hk
  have hm : mA M 140 3 = nI (dC y) := hD.2.1
  have hc := hP.2.1
  have key : ∀ (j k i : Nat), i + j = dC y → j < k → f_RM_named_l2 (nI 0) (nI 1) k (nI i) M = some (oI (idF (dM y) (bJ (kW t)) j i), M) := by
    intro j
    induction j with
    | zero =>
      intro k i hi hk
      obtain ⟨k, rfl, hk⟩ := z_succ hk
      obtain rfl : i = dC y := by omega
      rw [f_RM_named_l2]
      simp (disch := first | assumption | omega) only [z_bdn, z_caln, z_gdn, z_iT, z_iF, z_le_t, z_le_f, z_lt_t, z_lt_f, z_cl, z_inb, z_at, z_pl, z_lit, nI_ii1, nI_add, nI_mul, z_eq_f, z_refuse, z_no, z_M00, b2i_t, b2i_f, hm]
      rfl
    | succ j ih =>
      intro k i hi hk
      obtain ⟨k, rfl, hk⟩ := z_succ hk
      have g := ih k (i + 1) (by omega) (by omega)
      have e := (hD.2.2.2.1 i (by omega)).1
      rw [f_RM_named_l2]
      unfold idF
      by_cases hh : dM y i = bJ (kW t)
      · rw [if_pos hh]
        have z : (dM y i = bJ (kW t)) = True := eq_true hh
        simp (disch := first | assumption | omega) only [z_bdn, z_caln, z_gdn, z_iT, z_iF, z_le_t, z_le_f, z_lt_t, z_lt_f, z_cl, z_inb, z_at, z_pl, z_lit, nI_ii1, nI_add, nI_mul, z_eq_f, z_refuse, z_no, z_M00, b2i_t, b2i_f, hm, e, hw, lg_eq, z]
        rfl
      · rw [if_neg hh]
        have z : (dM y i = bJ (kW t)) = False := eq_false hh
        simp (disch := first | assumption | omega) only [z_bdn, z_caln, z_gdn, z_iT, z_iF, z_le_t, z_le_f, z_lt_t, z_lt_f, z_cl, z_inb, z_at, z_pl, z_lit, nI_ii1, nI_add, nI_mul, z_eq_f, z_refuse, z_no, z_M00, b2i_t, b2i_f, hm, e, hw, lg_eq, z]
        exact g
  rw [f_RM_named]
  simp (disch := first | assumption | omega) only [z_bdn, z_caln, z_gdn, z_iT, z_iF, z_le_t, z_le_f, z_lt_t, z_lt_f, z_cl, z_inb, z_at, z_pl, z_lit, nI_ii1, nI_add, nI_mul, z_eq_f, z_refuse, z_no, z_M00, b2i_t, b2i_f]
  exact key (dC y) FU 0 (by omega) (FU_lt (by omega))
theorem q_tldZ {W : Nat} (hP : OkD W y) (h : MZk M T n x y) (hT : TkM M t) (ha : kA t ≤ n) : NmM M T n w x y t (f_RM_readTold (nI 0) (nI 1) M) (pOld (idC y (kW t)) t) := by
  have h12 := h.2.1
  have h15 := hT.2.1
  have eN := q_isName hT
  have hc := hP.2.1
  rw [f_RM_readTold, f_RM_told]
  by_cases hk : isK t 26 = true
  · rw [hk] at eN
    have hn := q_named0 hP h hT hk
    cases hi : idC y (kW t) with
    | some i =>
      have hlt := (idF_ok hi).2.1
      rw [hi] at hn
      have hn : f_RM_named (nI 0) (nI 1) M = some (nI i, M) := hn
      have ep : pOld (some i) t = .ok i := by unfold pOld; rw [if_pos hk]
      rw [ep]
      obtain ⟨M', a1, a2, a3, a4, a5⟩ := q_must1Z h hT ha
      refine ⟨M', ?_, a2, a3, a4, a5⟩
      by_cases h0 : i = 0
      · subst h0
        simp (disch := first | assumption | omega) only [z_bdn, z_caln, z_gdn, z_iT, z_iF, z_le_t, z_le_f, z_lt_t, z_lt_f, z_cl, z_inb, z_at, z_pl, z_lit, nI_ii1, nI_add, nI_mul, z_eq_f, z_refuse, z_no, z_M00, b2i_t, b2i_f, h12, eN, f_RM_told_l18, hn, a1]
      · simp (disch := first | assumption | omega) only [z_bdn, z_caln, z_gdn, z_iT, z_iF, z_le_t, z_le_f, z_lt_t, z_lt_f, z_cl, z_inb, z_at, z_pl, z_lit, nI_ii1, nI_add, nI_mul, z_eq_f, z_refuse, z_no, z_M00, b2i_t, b2i_f, h12, eN, f_RM_told_l18, hn, a1]
    | none =>
      rw [hi] at hn
      have hn : f_RM_named (nI 0) (nI 1) M = some (-nI 1, M) := hn
      obtain ⟨Mf, f1, f2, f3⟩ := q_failZ (w := w) (k := 3) (p := kP t) h12 (by omega)
      have ef : flt t 3 = (3, kP t) := by unfold flt; rw [if_neg (by have := (ik hk).1; omega)]
      have ep : pOld none t = .error (3, kP t) := by unfold pOld; rw [if_pos hk]; exact congrArg _ ef
      rw [ep]
      have zz : (nI 0 < -nI 1) = False := eq_false (by decide)
      have hm := b_must f2 (nI 1)
      refine ⟨Mf, ?_, f2, f3⟩
      simp (disch := first | assumption | omega) only [z_bdn, z_caln, z_gdn, z_iT, z_iF, z_le_t, z_le_f, z_lt_t, z_lt_f, z_cl, z_inb, z_at, z_pl, z_lit, nI_ii1, nI_add, nI_mul, z_eq_f, z_refuse, z_no, z_M00, b2i_t, b2i_f, h12, eN, f_RM_told_l18, hn, z_neg, h15, f1, zz, hm]
  · have ep : pOld (idC y (kW t)) t = .error (flt t 2) := by unfold pOld; rw [if_neg hk]
    rw [ep]
    rw [Bool.eq_false_iff.mpr hk] at eN
    obtain ⟨Mf, f1, f2, f3⟩ := q_amissZ (w := w) h12 hT
    have zl := b_le f2
    have hm := b_must f2 (nI 1)
    refine ⟨Mf, ?_, f2, f3⟩
    simp (disch := first | assumption | omega) only [z_bdn, z_caln, z_gdn, z_iT, z_iF, z_le_t, z_le_f, z_lt_t, z_lt_f, z_cl, z_inb, z_at, z_pl, z_lit, nI_ii1, nI_add, nI_mul, z_eq_f, z_refuse, z_no, z_M00, b2i_t, b2i_f, h12, eN, f1, f_RM_told_l18, zl, hm]
/-- a number is read into a field -/
theorem q_cntW {v : Except Er Nat} {f : Option (Int32 × kx_M)} {j : Nat} {W : Nat} (hO : OkC x) (hP : OkD W y) (hj : j < 9) (hw : 3570 ≤ w) (g : NmM M T n w x y t f v) : CwM M T n w x y t f j v := by
  cases v with
  | ok u =>
    obtain ⟨M1, a1, a2, a3, a4, a5⟩ := g
    refine ⟨M1, a1, a2, a3, MZk_A hO hP (by omega) a4, (FrZs.Tt a5).tr (FrZs.A hw (by omega) (by omega)), fun i => ?_⟩
    show upd (mA M1 140) (w + j) (nI u) (w + i) = _
    rw [upd_at, (a5.1 140 (by decide)).2.2.1]
    by_cases he : i = j
    · rw [if_pos he, if_pos (by omega)]
    · rw [if_neg he, if_neg (by omega)]; rfl
  | error er =>
    obtain ⟨M1, a1, a2, a3⟩ := g
    exact ⟨M1, a1, a2, a3.tr (FrZs.A hw (by omega) (by omega))⟩
end
