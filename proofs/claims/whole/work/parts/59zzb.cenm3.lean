/-! ## CENTURIES' text: the reference's tests -/
def RsN (M : kx_M) (T : Nat → Nat) (n w : Nat) (x : Cl) (y : De) (r : Option (Unit × kx_M)) (F : Yi → kx_M → Prop) (v : Except Er Yi) : Prop := match v with
  | .ok q => ∃ M', r = some ((), M') ∧ TkM M' q.2.2 ∧ TkB q.2.2 ∧ MZk M' T n x y ∧ FrZs w M M' ∧ F q M'
  | .error er => ∃ M', r = some ((), M') ∧ Bd M' er ∧ FrZs w M M'
section
variable {M M' M1 : kx_M} {T : Nat → Nat} {n w : Nat} {t : Tok} {x : Cl} {y : De} {e : Er}
theorem z_w {j : Nat} (hw2 : w + 9 ≤ 3840) (hj : j < 9) : inb (nI (w + j)) 3840 = true := z_inb (by omega) (by omega)
theorem fld_T (h : FrT M M') (i : Nat) : fld M' w i = fld M w i := congrFun (h.1 140 (by decide)).2.2.1 _
theorem q_l581 {W : Nat} (hO : OkC x) (hP : OkD W y) (hw : 3570 ≤ w) (hw2 : w + 9 ≤ 3840) (h : MZk M T n x y) (hT : TkM M t) (ha : kA t ≤ n) : match pNum 0 99 (nx T n t) with
    | .ok a => ∃ M', f_RM_readMany_l58 (nI w) 135 (nI 1) M = some ((), M') ∧ TkM M' (nx T n (nx T n t)) ∧ TkB (nx T n (nx T n t)) ∧ MZk M' T n x y ∧ FrZs w M M' ∧ (∀ i, fld M' w i = if i = 1 then nI a else fld M w i)
    | .error er => ∃ M', f_RM_readMany_l58 (nI w) 135 (nI 1) M = some ((), M') ∧ Bd M' er ∧ FrZs w M M' := by
  obtain ⟨M1, a1, a2, a3, a4, a5⟩ := q_must1Z h hT ha
  have g := q_cntW (j := 1) hO hP (by omega) hw (q_cntZ (w := w) (lo := 0) (hi := 99) a4 a2 a3 (nx_le ha) (by omega) (by omega))
  have z1 := z_w (w := w) (j := 1) hw2 (by omega)
  cases hp : pNum 0 99 (nx T n t) with
  | ok u =>
    rw [hp] at g
    obtain ⟨M2, b1, b2, b3, b4, b5, b6⟩ := g
    refine ⟨_, ?_, b2, b3, b4, (FrZs.Tt a5).tr b5, fun i => ?_⟩
    · rw [f_RM_readMany_l58]
      simp (disch := first | assumption | omega) only [z_bdn, z_caln, z_gdn, z_iT, z_iF, z_le_t, z_le_f, z_lt_t, z_lt_f, z_cl, z_inb, z_at, z_pl, z_lit, nI_ii1, nI_add, nI_mul, z_eq_f, z_refuse, z_no, z_M00, b2i_t, b2i_f, a1, b1, z1]
    · rw [b6, fld_T a5]
  | error er =>
    rw [hp] at g
    obtain ⟨M2, b1, b2, b3⟩ := g
    refine ⟨_, ?_, b2, (FrZs.Tt a5).tr b3⟩
    rw [f_RM_readMany_l58]
    simp (disch := first | assumption | omega) only [z_bdn, z_caln, z_gdn, z_iT, z_iF, z_le_t, z_le_f, z_lt_t, z_lt_f, z_cl, z_inb, z_at, z_pl, z_lit, nI_ii1, nI_add, nI_mul, z_eq_f, z_refuse, z_no, z_M00, b2i_t, b2i_f, a1, b1, z1]
theorem q_l580 (hw : 3570 ≤ w) (hw2 : w + 9 ≤ 3840) (h12 : mI M 135 12 = nI 0) (hT : TkM M t) : ∃ M', f_RM_readMany_l58 (nI w) 135 (nI 0) M = some ((), M') ∧ Bd M' (flt t 2) ∧ FrZs w M M' := by
  obtain ⟨M1, a1, a2, a3⟩ := q_must0Z (w := w) h12 hT
  have b1 := b_count a2 (nI 0) (nI 99)
  have z1 := z_w (w := w) (j := 1) hw2 (by omega)
  refine ⟨sA M1 140 (upd (mA M1 140) (w + 1) (nI 0)), ?_, a2, a3.tr (FrZs.A hw (by omega) (by omega))⟩
  rw [f_RM_readMany_l58]
  simp (disch := first | assumption | omega) only [z_bdn, z_caln, z_gdn, z_iT, z_iF, z_le_t, z_le_f, z_lt_t, z_lt_f, z_cl, z_inb, z_at, z_pl, z_lit, nI_ii1, nI_add, nI_mul, z_eq_f, z_refuse, z_no, z_M00, b2i_t, b2i_f, a1, b1, z1]
theorem q_many {W : Nat} (hO : OkC x) (hP : OkD W y) (hw : 3570 ≤ w) (hw2 : w + 9 ≤ 3840) (h : MZk M T n x y) (hT : TkM M t) (hB : TkB t) (ha : kA t ≤ n) (hsig : kS t = 4 → kV t = 59 ∨ kV t = 60 ∨ kV t = 61 ∨ kV t = 62) : RsN M T n w x y (f_RM_readMany (nI w) M) (fun q M' => ∀ i, fld M' w i = if i = 1 then nI q.1.1 else if i = 7 then nI (kV t) else fld M w i) (if kS t = 4 ∧ kV t ≠ 59 then (match pNum 0 99 (nx T n t) with
      | .error er => .error er
      | .ok a => .ok ((a, 0, 2, kV t), (22, kV t, a), nx T n (nx T n t)))
    else .error (flt t 2)) := by
  have h14 := hT.1
  have hs4 := hB.1
  have z4 := z_sM4 hs4
  have e140 : aIb 1 140 (nI (w + 7)) = true := z_aIb (tg := 1) (show kx_lay[140]? = some (1, 3840, []) from rfl) (by omega) (by omega)
  have fl : ∀ u, FrZs w M (sA M 140 (upd (mA M 140) (w + 7) (nI u))) := fun u => FrZs.A hw (by omega) (by omega)
  have bad : ∀ u, f_RM_readMany (nI w) M = f_RM_readMany_l58 (nI w) 135 (nI 0) (sA M 140 (upd (mA M 140) (w + 7) (nI u))) → ∃ M', f_RM_readMany (nI w) M = some ((), M') ∧ Bd M' (flt t 2) ∧ FrZs w M M' := by
    intro u hu
    obtain ⟨M2, a1, a2, a3⟩ := q_l580 (M := sA M 140 (upd (mA M 140) (w + 7) (nI u))) hw hw2 h.2.1 hT
    exact ⟨M2, hu.trans a1, a2, (fl u).tr a3⟩
  by_cases h4 : kS t = 4
  · rw [eq_true h4] at z4
    have e17 := hT.2.2.2.1 (Or.inr h4)
    have hv := hB.2.2.2.2.2.1 h4
    have hT1 : TkM (sA M 140 (upd (mA M 140) (w + 7) (nI (kV t)))) t := hT
    have s60 := q_isSg (c := 60) hT1 hB (by omega)
    have s61 := q_isSg (c := 61) hT1 hB (by omega)
    have s62 := q_isSg (c := 62) hT1 hB (by omega)
    by_cases h59 : kV t = 59
    · rw [if_neg (fun g => g.2 h59)]
      rw [decide_eq_false (fun g => by have := g.2; omega)] at s60 s61 s62
      refine bad (kV t) ?_
      rw [f_RM_readMany]
      simp (disch := first | assumption | omega) only [z_bdn, z_caln, z_gdn, z_iT, z_iF, z_le_t, z_le_f, z_lt_t, z_lt_f, z_cl, z_inb, z_at, z_pl, z_lit, nI_ii1, nI_add, nI_mul, z_eq_f, z_refuse, z_no, z_M00, b2i_t, b2i_f, h14, z4, e17, f_RM_readMany_l24, e140, s60, s61, s62]
    · rw [if_pos ⟨h4, h59⟩]
      have hl : f_RM_readMany (nI w) M = f_RM_readMany_l58 (nI w) 135 (nI 1) (sA M 140 (upd (mA M 140) (w + 7) (nI (kV t)))) := by
        rw [f_RM_readMany]
        by_cases c60 : kV t = 60
        · rw [decide_eq_true ⟨h4, c60⟩] at s60
          simp (disch := first | assumption | omega) only [z_bdn, z_caln, z_gdn, z_iT, z_iF, z_le_t, z_le_f, z_lt_t, z_lt_f, z_cl, z_inb, z_at, z_pl, z_lit, nI_ii1, nI_add, nI_mul, z_eq_f, z_refuse, z_no, z_M00, b2i_t, b2i_f, h14, z4, e17, f_RM_readMany_l24, e140, s60]
        · rw [decide_eq_false (fun g => c60 g.2)] at s60
          by_cases c62 : kV t = 62
          · rw [decide_eq_true ⟨h4, c62⟩] at s62
            simp (disch := first | assumption | omega) only [z_bdn, z_caln, z_gdn, z_iT, z_iF, z_le_t, z_le_f, z_lt_t, z_lt_f, z_cl, z_inb, z_at, z_pl, z_lit, nI_ii1, nI_add, nI_mul, z_eq_f, z_refuse, z_no, z_M00, b2i_t, b2i_f, h14, z4, e17, f_RM_readMany_l24, e140, s60, s62]
          · rw [decide_eq_false (fun g => c62 g.2)] at s62
            rw [decide_eq_true ⟨h4, by have := hsig h4; omega⟩] at s61
            simp (disch := first | assumption | omega) only [z_bdn, z_caln, z_gdn, z_iT, z_iF, z_le_t, z_le_f, z_lt_t, z_lt_f, z_cl, z_inb, z_at, z_pl, z_lit, nI_ii1, nI_add, nI_mul, z_eq_f, z_refuse, z_no, z_M00, b2i_t, b2i_f, h14, z4, e17, f_RM_readMany_l24, e140, s60, s62, s61]
      have g := q_l581 hO hP hw hw2 (MZk_A (p := w + 7) (v := nI (kV t)) hO hP (by omega) h) hT1 ha
      rw [hl]
      cases hp : pNum 0 99 (nx T n t) with
      | error er =>
        rw [hp] at g
        obtain ⟨M2, a1, a2, a3⟩ := g
        exact ⟨M2, a1, a2, (fl _).tr a3⟩
      | ok u =>
        rw [hp] at g
        obtain ⟨M2, a1, a2, a3, a4, a5, a6⟩ := g
        refine ⟨M2, a1, a2, a3, a4, (fl _).tr a5, fun i => ?_⟩
        rw [a6]
        by_cases i1 : i = 1
        · rw [if_pos i1, if_pos i1]
        · rw [if_neg i1, if_neg i1]
          show upd (mA M 140) (w + 7) (nI (kV t)) (w + i) = _
          rw [upd_at]
          by_cases i7 : i = 7
          · rw [if_pos i7, if_pos (by omega)]
          · rw [if_neg i7, if_neg (by omega)]; rfl
  · rw [eq_false h4] at z4
    rw [if_neg (fun g => h4 g.1)]
    have hT1 : TkM (sA M 140 (upd (mA M 140) (w + 7) (nI 0))) t := hT
    have s60 := q_isSg (c := 60) hT1 hB (by omega)
    have s61 := q_isSg (c := 61) hT1 hB (by omega)
    have s62 := q_isSg (c := 62) hT1 hB (by omega)
    rw [decide_eq_false (fun g => h4 g.1)] at s60 s61 s62
    refine bad 0 ?_
    rw [f_RM_readMany]
    simp (disch := first | assumption | omega) only [z_bdn, z_caln, z_gdn, z_iT, z_iF, z_le_t, z_le_f, z_lt_t, z_lt_f, z_cl, z_inb, z_at, z_pl, z_lit, nI_ii1, nI_add, nI_mul, z_eq_f, z_refuse, z_no, z_M00, b2i_t, b2i_f, h14, z4, f_RM_readMany_l24, e140, s60, s61, s62]
/-- a test -/
theorem q_mTst (hO : OkC x) (hP : OkD (cW x) y) (hw : 3570 ≤ w) (hw2 : w + 9 ≤ 3840) (h : MZk M T n x y) (hT : TkM M t) (hB : TkB t) (ha : kA t ≤ n) : RsN M T n w x y (f_RM_readTest (nI w) M) (fun q M' => fld M' w 0 = fld M w 0 ∧ fld M' w 1 = nI q.1.1 ∧ fld M' w 6 = nI q.1.2.2.1 ∧ (q.1.2.2.1 = 2 → fld M' w 7 = nI q.1.2.2.2) ∧ q.1.2.2.1 < 3) (pTst T n x y t) := by
  have h12 := h.2.1
  have eT := q_testWord hT
  have z6 := z_w (w := w) (j := 6) hw2 (by omega)
  have z1 := z_w (w := w) (j := 1) hw2 (by omega)
  have w3 := hO.2.2.1
  cases hk : tsK t with
  | none =>
    rw [hk] at eT
    have eT : f_RM_testWord M = some (-nI 1, M) := eT
    have ep : pTst T n x y t = .error (flt t 2) := by unfold pTst; rw [hk]
    rw [ep]
    obtain ⟨M1, a1, a2, a3⟩ := q_must0Z (w := w) h12 hT
    have zl : (mI (sA M1 140 (upd (mA M1 140) (w + 6) (-nI 1))) 135 12 ≤ nI 0) = False := b_le a2
    refine ⟨sA M1 140 (upd (mA M1 140) (w + 6) (-nI 1)), ?_, a2, a3.tr (FrZs.A hw (by omega) (by omega))⟩
    rw [f_RM_readTest]
    simp (disch := first | assumption | omega) only [z_bdn, z_caln, z_gdn, z_iT, z_iF, z_le_t, z_le_f, z_lt_t, z_lt_f, z_cl, z_inb, z_at, z_pl, z_lit, nI_ii1, nI_add, nI_mul, z_eq_f, z_refuse, z_no, z_M00, b2i_t, b2i_f, eT, z_neg1, f_RM_readTest_l15, a1, z6, zl]
  | some v =>
    obtain ⟨v1, v2, v3⟩ := tsK_some hk
    rw [hk] at eT
    have eT : f_RM_testWord M = some (nI v, M) := eT
    obtain ⟨M1, a1, a2, a3, a4, a5⟩ := q_must1Z h hT ha
    have ha1 : kA (nx T n t) ≤ n := nx_le ha
    have hF2 : FrZs w M (sA M1 140 (upd (mA M1 140) (w + 6) (nI v))) := (FrZs.Tt a5).tr (FrZs.A hw (by omega) (by omega))
    have h2 : MZk (sA M1 140 (upd (mA M1 140) (w + 6) (nI v))) T n x y := MZk_A hO hP (by omega) a4
    have hT2 : TkM (sA M1 140 (upd (mA M1 140) (w + 6) (nI v))) (nx T n t) := a2
    have h122 : mI (sA M1 140 (upd (mA M1 140) (w + 6) (nI v))) 135 12 = nI 0 := h2.2.1
    have f2 : ∀ i, fld (sA M1 140 (upd (mA M1 140) (w + 6) (nI v))) w i = if i = 6 then nI v else fld M w i := fun i => by
      show upd (mA M1 140) (w + 6) (nI v) (w + i) = _
      rw [upd_at, (a5.1 140 (by decide)).2.2.1]
      by_cases he : i = 6
      · rw [if_pos he, if_pos (by omega)]
      · rw [if_neg he, if_neg (by omega)]; rfl
    generalize hM2 : sA M1 140 (upd (mA M1 140) (w + 6) (nI v)) = M2 at hF2 h2 hT2 h122 f2
    by_cases h0 : v = 0
    · subst h0
      have ep : pTst T n x y t = (match pOld (idC y (kW (nx T n t))) (nx T n t) with
        | .error e => .error e
        | .ok a => .ok ((a, 0, 0, 0), (20, a, 0), nx T n (nx T n t))) := by unfold pTst; rw [hk]; rfl
      rw [ep]
      have g := q_cntW (j := 1) hO hP (by omega) hw (q_tldZ (w := w) hP h2 hT2 ha1)
      cases hp : pOld (idC y (kW (nx T n t))) (nx T n t) with
      | error er =>
        rw [hp] at g
        obtain ⟨M3, b1, b2, b3⟩ := g
        refine ⟨_, ?_, b2, hF2.tr b3⟩
        rw [f_RM_readTest]
        simp (disch := first | assumption | omega) only [z_bdn, z_caln, z_gdn, z_iT, z_iF, z_le_t, z_le_f, z_lt_t, z_lt_f, z_cl, z_inb, z_at, z_pl, z_lit, nI_ii1, nI_add, nI_mul, z_eq_f, z_refuse, z_no, z_M00, b2i_t, b2i_f, eT, f_RM_readTest_l15, a1, z6, hM2, h122, b1, z1]
      | ok u =>
        rw [hp] at g
        obtain ⟨M3, b1, b2, b3, b4, b5, b6⟩ := g
        refine ⟨_, ?_, b2, b3, b4, hF2.tr b5, ?_, ?_, ?_, fun e => absurd (show (0 : Nat) = 2 from e) (by decide), (show (0 : Nat) < 3 by decide)⟩
        · rw [f_RM_readTest]
          simp (disch := first | assumption | omega) only [z_bdn, z_caln, z_gdn, z_iT, z_iF, z_le_t, z_le_f, z_lt_t, z_lt_f, z_cl, z_inb, z_at, z_pl, z_lit, nI_ii1, nI_add, nI_mul, z_eq_f, z_refuse, z_no, z_M00, b2i_t, b2i_f, eT, f_RM_readTest_l15, a1, z6, hM2, h122, b1, z1]
        · rw [b6, if_neg (by decide), f2, if_neg (by decide)]
        · rw [b6, if_pos rfl]
        · rw [b6, if_neg (by decide), f2, if_pos rfl]
    · by_cases h1 : v = 1
      · subst h1
        have ep : pTst T n x y t = (match pNmR (cR x) (nx T n t) with
          | .error e => .error e
          | .ok a => .ok ((a, 0, 1, 0), (21, a, 0), nx T n (nx T n t))) := by unfold pTst; rw [hk]; rfl
        rw [ep]
        have e4 : mA M2 140 4 = nI (cR x) := h2.2.2.1.2.2.1
        have g := q_cntW (j := 1) hO hP (by omega) hw (q_cntR (w := w) w3 h2 hT2 a3 ha1)
        cases hp : pNmR (cR x) (nx T n t) with
        | error er =>
          rw [hp] at g
          obtain ⟨M3, b1, b2, b3⟩ := g
          refine ⟨_, ?_, b2, hF2.tr b3⟩
          rw [f_RM_readTest]
          simp (disch := first | assumption | omega) only [z_bdn, z_caln, z_gdn, z_iT, z_iF, z_le_t, z_le_f, z_lt_t, z_lt_f, z_cl, z_inb, z_at, z_pl, z_lit, nI_ii1, nI_add, nI_mul, z_eq_f, z_refuse, z_no, z_M00, b2i_t, b2i_f, eT, f_RM_readTest_l15, a1, z6, hM2, h122, e4, b1, z1]
        | ok u =>
          rw [hp] at g
          obtain ⟨M3, b1, b2, b3, b4, b5, b6⟩ := g
          refine ⟨_, ?_, b2, b3, b4, hF2.tr b5, ?_, ?_, ?_, fun e => absurd (show (1 : Nat) = 2 from e) (by decide), (show (1 : Nat) < 3 by decide)⟩
          · rw [f_RM_readTest]
            simp (disch := first | assumption | omega) only [z_bdn, z_caln, z_gdn, z_iT, z_iF, z_le_t, z_le_f, z_lt_t, z_lt_f, z_cl, z_inb, z_at, z_pl, z_lit, nI_ii1, nI_add, nI_mul, z_eq_f, z_refuse, z_no, z_M00, b2i_t, b2i_f, eT, f_RM_readTest_l15, a1, z6, hM2, h122, e4, b1, z1]
          · rw [b6, if_neg (by decide), f2, if_neg (by decide)]
          · rw [b6, if_pos rfl]
          · rw [b6, if_neg (by decide), f2, if_pos rfl]
      · obtain rfl : v = 2 := by omega
        have ep : pTst T n x y t = (if kS (nx T n t) = 4 ∧ kV (nx T n t) ≠ 59 then (match pNum 0 99 (nx T n (nx T n t)) with
          | .error e => .error e
          | .ok a => .ok ((a, 0, 2, kV (nx T n t)), (22, kV (nx T n t), a), nx T n (nx T n (nx T n t))))
          else .error (flt (nx T n t) 2)) := by unfold pTst; rw [hk]; rfl
        rw [ep]
        have g := q_many hO hP hw hw2 h2 hT2 a3 ha1 (fun e => nxt_sig e)
        have toL : ∀ M3, f_RM_readMany (nI w) M2 = some ((), M3) → f_RM_readTest (nI w) M = some ((), M3) := by
          intro M3 b1
          rw [f_RM_readTest]
          simp (disch := first | assumption | omega) only [z_bdn, z_caln, z_gdn, z_iT, z_iF, z_le_t, z_le_f, z_lt_t, z_lt_f, z_cl, z_inb, z_at, z_pl, z_lit, nI_ii1, nI_add, nI_mul, z_eq_f, z_refuse, z_no, z_M00, b2i_t, b2i_f, eT, f_RM_readTest_l15, a1, z6, hM2, h122, b1]
        by_cases h4 : kS (nx T n t) = 4 ∧ kV (nx T n t) ≠ 59
        · rw [if_pos h4] at g ⊢
          cases hp : pNum 0 99 (nx T n (nx T n t)) with
          | error er =>
            rw [hp] at g
            obtain ⟨M3, b1, b2, b3⟩ := g
            exact ⟨M3, toL _ b1, b2, hF2.tr b3⟩
          | ok u =>
            rw [hp] at g
            obtain ⟨M3, b1, b2, b3, b4, b5, b6⟩ := g
            refine ⟨M3, toL _ b1, b2, b3, b4, hF2.tr b5, ?_, ?_, ?_, fun _ => ?_, (show (2 : Nat) < 3 by decide)⟩
            · rw [b6, if_neg (by decide), if_neg (by decide), f2, if_neg (by decide)]
            · rw [b6, if_pos rfl]
            · rw [b6, if_neg (by decide), if_neg (by decide), f2, if_pos rfl]
            · rw [b6, if_neg (by decide), if_pos rfl]
        · rw [if_neg h4] at g ⊢
          obtain ⟨M3, b1, b2, b3⟩ := g
          exact ⟨M3, toL _ b1, b2, hF2.tr b3⟩
end
