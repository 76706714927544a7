/-! ## CENTURIES' text: the reference's steps, whole -/
def StH (M : kx_M) (c : Cs) (K : Nat) : Prop := mI M 135 26 = nI (vvK c) ∧ (∀ s, s < vvK c → useG (zI (vvZ c) s) (fld M (3570 + 9 * s))) ∧ (∀ s, s < vvK c → s ≠ K → (∀ q, q ∈ vvS c → q.1 ≠ s) → fld M (3570 + 9 * s) 8 = zI (vvZ c) s 8)
def MSt (M : kx_M) (T : Nat → Nat) (n : Nat) (x : Cl) (y : De) (c : Cs) : Prop := MZk M T n x y ∧ StH M c 1000 ∧ TkM M (vvT c) ∧ TkB (vvT c)
section
variable {M M' M1 : kx_M} {T : Nat → Nat} {n w : Nat} {t : Tok} {x : Cl} {y : De} {e : Er} {c c1 : Cs}
theorem useG_c {f g g' : Nat → Int32} (h : ∀ i, i < 8 → g' i = g i) (hu : useG f g) : useG f g' := by
  unfold useG
  rw [h 0 (by omega), h 1 (by omega), h 2 (by omega), h 6 (by omega), h 7 (by omega)]
  exact hu
theorem b_isEnd (M : kx_M) : ∃ v : Bool, f_RM_isEnd M = some (b2i v, M) := by
  obtain ⟨v, hv⟩ := b_isWord (bJ (knownN 24)) M
  refine ⟨v, ?_⟩
  have e := s_end M
  rw [f_RM_isEnd]
  simp (disch := first | assumption | omega) only [z_bdn, z_caln, z_gdn, z_iT, z_iF, z_le_t, z_le_f, z_lt_t, z_lt_f, z_cl, z_inb, z_at, z_pl, z_lit, nI_ii1, nI_add, nI_mul, z_eq_f, z_refuse, z_no, z_M00, b2i_t, b2i_f, e, hv, z_b01]
theorem FrZs.Z (h : FrZs w M M') : FrZ M M' := h.1
theorem FrZ.Tt (h : FrT M M') : FrZ M M' := (FrZs.Tt (w := 0) h).1
/-- once a fault is found: the loop of a body -/
theorem b_l141 {cR : Int32 → kx_M → Option (Unit × kx_M)} {p1 : Int32} {b : Bool} {f : Nat} (hf : 0 < f) (hw : 3570 ≤ w) (hw2 : w + 9 ≤ 3840) (h : Bd M e) : ∃ M', f_RM_readStep_l141 cR p1 f (b2i b) (nI w) M = some ((), M') ∧ Bd M' e ∧ FrZ M M' := by
  obtain ⟨f, rfl, -⟩ := z_succ hf
  have z := b_eq h
  have z8 := z_w (w := w) (j := 8) hw2 (by omega)
  refine ⟨sA M 140 (upd (mA M 140) (w + 8) (mI M 135 26)), ?_, h, (FrZs.A (w := w) hw (by omega) (by omega)).1⟩
  rw [f_RM_readStep_l141]
  cases b with
  | false =>
    simp (disch := first | assumption | omega) only [z_bdn, z_caln, z_gdn, z_iT, z_iF, z_le_t, z_le_f, z_lt_t, z_lt_f, z_cl, z_inb, z_at, z_pl, z_lit, nI_ii1, nI_add, nI_mul, z_eq_f, z_refuse, z_no, z_M00, b2i_t, b2i_f, f_RM_readStep_l169, z8]
  | true =>
    obtain ⟨v1, h1⟩ := b_isEnd M
    have h2 := fun v => b_must h v
    obtain ⟨v3, h3⟩ := b_isSg (nI 59) M
    simp (disch := first | assumption | omega) only [z_bdn, z_caln, z_gdn, z_iT, z_iF, z_le_t, z_le_f, z_lt_t, z_lt_f, z_cl, z_inb, z_at, z_pl, z_lit, nI_ii1, nI_add, nI_mul, z_eq_f, z_refuse, z_no, z_M00, b2i_t, b2i_f, z, f_RM_readStep_l169, h1, h2, h3, z8]
theorem b_l82 {cR : Int32 → kx_M → Option (Unit × kx_M)} {p1 x2 x3 : Int32} (h : Bd M e) : f_RM_readStep_l82 cR p1 x2 x3 M = some ((), M) := by
  have zl := b_le h
  rw [f_RM_readStep_l82]
  simp (disch := first | assumption | omega) only [z_bdn, z_caln, z_gdn, z_iT, z_iF, z_le_t, z_le_f, z_lt_t, z_lt_f, z_cl, z_inb, z_at, z_pl, z_lit, nI_ii1, nI_add, nI_mul, z_eq_f, z_refuse, z_no, z_M00, b2i_t, b2i_f, zl]
theorem b_l56 {cR : Int32 → kx_M → Option (Unit × kx_M)} {p1 x2 x3 : Int32} (h : Bd M e) : f_RM_readStep_l56 cR p1 x2 x3 M = some ((), M) := by
  have z := b_eq h
  rw [f_RM_readStep_l56, if_neg (show ¬ mI M 135 12 = (0 : Int32) from of_eq_false z)]
  exact b_l82 h
theorem TkM_I {k : Nat} {v : Int32} (hk : k < 14 ∨ 19 < k) (h : TkM M t) : TkM (sI M 135 k v) t := by
  have e : ∀ j, 14 ≤ j → j ≤ 19 → mI (sI M 135 k v) 135 j = mI M 135 j := fun j h1 h2 => by rw [mI_sI, if_neg (by omega)]
  unfold TkM
  rw [e 14 (by omega) (by omega), e 15 (by omega) (by omega), e 16 (by omega) (by omega), e 17 (by omega) (by omega), e 18 (by omega) (by omega)]
  exact h
theorem b_l30 {cR : Int32 → kx_M → Option (Unit × kx_M)} {p1 x2 x3 : Int32} (h : Bd M e) : f_RM_readStep_l30 cR p1 x2 x3 M = some ((), M) := by
  have z := b_eq h
  rw [f_RM_readStep_l30, if_neg (show ¬ mI M 135 12 = (0 : Int32) from of_eq_false z)]
  exact b_l56 h
/-- a step up to its sign -/
theorem q_ml82 {cR : Int32 → kx_M → Option (Unit × kx_M)} {p1 x3 : Int32} {ki : Nat} (hki : ki < 8) (hO : OkC x) (hP : OkD (cW x) y) (h : MSt M T n x y c) (hK : vvK c < 30) (ha : kA (vvT c) ≤ n) (hTO : TkO n (vvT c)) : match (match pStp T n x y ki (nx T n (vvT c)) with
        | .error e => .error e
        | .ok r => match pSig T n 59 r.2.2 with
          | .error e => .error e
          | .ok t => .ok (cBeg c ki r t) : Except Er Cs) with
    | .error er => ∃ M', f_RM_readStep_l82 cR p1 (nI ki) x3 M = f_RM_readStep_l141 cR p1 FU x3 (nI (3570 + 9 * vvK c)) M' ∧ Bd M' er ∧ FrZ M M'
    | .ok c1 => ∃ M', f_RM_readStep_l82 cR p1 (nI ki) x3 M = f_RM_readStep_l141 cR p1 FU x3 (nI (3570 + 9 * vvK c)) M' ∧ MZk M' T n x y ∧ StH M' c1 (vvK c) ∧ TkM M' (vvT c1) ∧ TkB (vvT c1) ∧ FrZ M M' := by
  obtain ⟨hZ, ⟨s1, s2, s3⟩, hT, hB⟩ := h
  have h12 := hZ.2.1
  have hZ1 : MZk (sI M 135 26 (nI (vvK c + 1))) T n x y := MZk_I (by omega) hZ
  have hT1 : TkM (sI M 135 26 (nI (vvK c + 1))) (vvT c) := TkM_I (by omega) hT
  obtain ⟨M2, b1, b2, b3, b4, b5⟩ := q_adZ hZ1 hT1 ha
  have ha1 : kA (nx T n (vvT c)) ≤ n := nx_le ha
  have hw : 3570 ≤ 3570 + 9 * vvK c := by omega
  have hw2 : 3570 + 9 * vvK c + 9 ≤ 3840 := by omega
  generalize hwK : 3570 + 9 * vvK c = w at hw hw2 ⊢
  have hZ3 : MZk (sA M2 140 (upd (mA M2 140) w (nI ki))) T n x y := MZk_A hO hP (by omega) b4
  have hT3 : TkM (sA M2 140 (upd (mA M2 140) w (nI ki))) (nx T n (vvT c)) := b2
  have hf0 : fld (sA M2 140 (upd (mA M2 140) w (nI ki))) w 0 = nI ki := by
    show upd (mA M2 140) w (nI ki) (w + 0) = _
    rw [upd_at, if_pos (by omega)]
  have z0 : inb (nI w) 3840 = true := z_inb (by omega) (by omega)
  have hF1 : FrZ M (sI M 135 26 (nI (vvK c + 1))) := ⟨Fr.sI (Or.inl rfl), fun _ _ => rfl, fun j hj => by rw [mI_sI, if_neg (by omega)], fun _ _ => rfl⟩
  have hF3 : FrZ M (sA M2 140 (upd (mA M2 140) w (nI ki))) := hF1.tr ((FrZ.Tt b5).tr (FrZs.A (w := w) hw (by omega) (by omega)).1)
  have e26 : mI (sA M2 140 (upd (mA M2 140) w (nI ki))) 135 26 = nI (vvK c + 1) := (b5.2.1 26 (by omega)).trans (by rw [m_same]; rfl)
  have hA3 : ∀ p, p < w → mA (sA M2 140 (upd (mA M2 140) w (nI ki))) 140 p = mA M 140 p := fun p hp => by
    rw [mA_sA, if_pos rfl, upd_at, if_neg (by omega), (b5.1 140 (by decide)).2.2.1]
    rfl
  generalize hM3 : sA M2 140 (upd (mA M2 140) w (nI ki)) = M3 at hZ3 hT3 hf0 hF3 e26 hA3
  have g := q_mRest (en := vvK c + 1) hki hO hP hw hw2 hZ3 hT3 b3 ha1 hf0
  have toL : ∀ (M4 M5 : kx_M) (v : Int32), f_RM_readRest (nI w) M3 = some ((), M4) → f_RM_isSign (nI 59) M4 = some (v, M4) → f_RM_must v M4 = some ((), M5) → f_RM_readStep_l82 cR p1 (nI ki) x3 M = f_RM_readStep_l141 cR p1 FU x3 (nI w) M5 := by
    intro M4 M5 v g1 g2 g3
    rw [f_RM_readStep_l82]
    simp (disch := first | assumption | omega) only [z_bdn, z_caln, z_gdn, z_iT, z_iF, z_le_t, z_le_f, z_lt_t, z_lt_f, z_cl, z_inb, z_at, z_pl, z_lit, nI_ii1, nI_add, nI_mul, z_eq_f, z_refuse, z_no, z_M00, b2i_t, b2i_f, h12, s1, hwK, b1, z0, hM3, g1, g2, g3]
  cases hp : pStp T n x y ki (nx T n (vvT c)) with
  | error er =>
    rw [hp] at g
    obtain ⟨M4, g1, g2, g3⟩ := g
    obtain ⟨v, hv⟩ := b_isSg (nI 59) M4
    exact ⟨M4, toL M4 M4 v g1 hv (b_must g2 v), g2, hF3.tr g3.1⟩
  | ok r =>
    rw [hp] at g
    obtain ⟨M4, g1, g2, g3, g4, g5, g6⟩ := g
    have ha4 : kA r.2.2 ≤ n := (pStp_mo (TkO_nx (T := T) hTO).1 hp).1.2.1
    have hS := q_isSg (c := 59) g2 g3 (by omega)
    show (match (match pSig T n 59 r.2.2 with | Except.error e => (Except.error e : Except Er Cs) | Except.ok t => Except.ok (cBeg c ki r t)) with | Except.error er => _ | Except.ok c1 => _)
    by_cases h5 : kS r.2.2 = 4 ∧ kV r.2.2 = 59
    · have ep : pSig T n 59 r.2.2 = .ok (nx T n r.2.2) := by unfold pSig; rw [if_pos h5]; rfl
      rw [ep]
      rw [decide_eq_true h5] at hS
      obtain ⟨M5, d1, d2, d3, d4, d5⟩ := q_must1Z g4 g2 ha4
      refine ⟨M5, toL M4 M5 _ g1 hS d1, d4, ⟨?_, fun s hs => ?_, fun s hs hne hq => ?_⟩, d2, d3, hF3.tr (g5.1.tr (FrZ.Tt d5))⟩
      · exact (d5.2.1 26 (by omega)).trans (g5.2.1.trans e26)
      · have hs : s < vvK c + 1 := hs
        by_cases he : s = vvK c
        · subst he
          rw [hwK]
          show useG (zI (updZ (vvZ c) (vvK c) _) (vvK c)) _
          rw [updZ_eq]
          exact useG_c (fun i _ => fld_T d5 i) g6
        · show useG (zI (updZ (vvZ c) (vvK c) _) s) _
          rw [updZ_ne he]
          refine useG_c (fun i hi => ?_) (s2 s (by omega))
          rw [fld_T d5]
          exact (g5.2.2 _ (by omega)).trans (hA3 _ (by omega))
      · have hs : s < vvK c + 1 := hs
        show _ = zI (updZ (vvZ c) (vvK c) _) s 8
        rw [updZ_ne hne, fld_T d5]
        refine Eq.trans ?_ (s3 s (by omega) (by omega) (fun q hq2 => hq q ?_))
        · exact (g5.2.2 _ (by omega)).trans (hA3 _ (by omega))
        · show q ∈ (if isBd ki = true then (vvK c, vvE c) :: vvS c else vvS c)
          split
          · exact List.mem_cons_of_mem _ hq2
          · exact hq2
    · have ep : pSig T n 59 r.2.2 = .error (flt r.2.2 2) := by unfold pSig; rw [if_neg h5]
      rw [ep]
      rw [decide_eq_false h5] at hS
      obtain ⟨M5, d1, d2, d3⟩ := q_must0Z (w := w) g4.2.1 g2
      exact ⟨M5, toL M4 M5 _ g1 hS d1, d2, hF3.tr (g5.1.tr d3.1)⟩
/-- a step from its word on, up to its body -/
theorem q_ml30 {cR : Int32 → kx_M → Option (Unit × kx_M)} {ki : Nat} (hO : OkC x) (hP : OkD (cW x) y) (h : MSt M T n x y c) (hOk : COk n x y c) (hTO : TkO n (vvT c)) (hk : stK (vvT c) = some ki) : match cTurn T n x y c with
    | .error er => ∃ M', f_RM_readStep_l30 cR (nI (vvS c).length) (nI ki) (b2i (isBd ki)) M = some ((), M') ∧ Bd M' er ∧ FrZ M M'
    | .ok c1 => ∃ M' r t, c1 = cBeg c ki r t ∧ f_RM_readStep_l30 cR (nI (vvS c).length) (nI ki) (b2i (isBd ki)) M = f_RM_readStep_l141 cR (nI (vvS c).length) FU (b2i (isBd ki)) (nI (3570 + 9 * vvK c)) M' ∧ vvK c < 30 ∧ MZk M' T n x y ∧ StH M' c1 (vvK c) ∧ TkM M' (vvT c1) ∧ TkB (vvT c1) ∧ FrZ M M' := by
  have hki := stK_lt8 hk
  obtain ⟨h2, hv⟩ := stK_some hk
  have n24 : ¬ isK (vvT c) 24 = true := fun g => by have := (ik g).2; omega
  obtain ⟨-, k1, k2, k3, ha⟩ := hOk
  have h12 := h.1.2.1
  have h26 := h.2.1.1
  have h15 := h.2.2.1.2.1
  have e0 : cTurn T n x y c = (if 30 ≤ vvK c then .error (flt (vvT c) 6)
      else if isBd ki = true ∧ 3 ≤ (vvS c).length then .error (flt (vvT c) 7)
      else match pStp T n x y ki (nx T n (vvT c)) with
        | .error e => .error e
        | .ok r => match pSig T n 59 r.2.2 with
          | .error e => .error e
          | .ok t => .ok (cBeg c ki r t)) := by unfold cTurn; rw [if_neg n24, hk]; rfl
  rw [e0]
  by_cases h30 : 30 ≤ vvK c
  · rw [if_pos h30]
    have e30 : vvK c = 30 := by omega
    rw [e30] at h26
    rw [flt_ne (by omega)]
    obtain ⟨Mf, f1, f2, f3⟩ := q_failZ (w := 0) (k := 6) (p := kP (vvT c)) h12 (by omega)
    have g := b_l56 (cR := cR) (p1 := nI (vvS c).length) (x2 := nI ki) (x3 := b2i (isBd ki)) f2
    refine ⟨Mf, ?_, f2, f3.1⟩
    rw [f_RM_readStep_l30]
    simp (disch := first | assumption | omega) only [z_bdn, z_caln, z_gdn, z_iT, z_iF, z_le_t, z_le_f, z_lt_t, z_lt_f, z_cl, z_inb, z_at, z_pl, z_lit, nI_ii1, nI_add, nI_mul, z_eq_f, z_refuse, z_no, z_M00, b2i_t, b2i_f, h12, h26, h15, f1, g]
  · rw [if_neg h30]
    have z30 : (nI (vvK c) = nI 30) = False := z_kn (by omega) (by omega) (by omega)
    have to56 : f_RM_readStep_l30 cR (nI (vvS c).length) (nI ki) (b2i (isBd ki)) M = f_RM_readStep_l56 cR (nI (vvS c).length) (nI ki) (b2i (isBd ki)) M := by
      rw [f_RM_readStep_l30]
      simp (disch := first | assumption | omega) only [z_bdn, z_caln, z_gdn, z_iT, z_iF, z_le_t, z_le_f, z_lt_t, z_lt_f, z_cl, z_inb, z_at, z_pl, z_lit, nI_ii1, nI_add, nI_mul, z_eq_f, z_refuse, z_no, z_M00, b2i_t, b2i_f, h12, h26, z30]
    rw [to56]
    by_cases h3 : isBd ki = true ∧ 3 ≤ (vvS c).length
    · rw [if_pos h3]
      have e3 : (vvS c).length = 3 := by omega
      rw [flt_ne (by omega), e3, h3.1]
      obtain ⟨Mf, f1, f2, f3⟩ := q_failZ (w := 0) (k := 7) (p := kP (vvT c)) h12 (by omega)
      have g := b_l82 (cR := cR) (p1 := nI 3) (x2 := nI ki) (x3 := nI 1) f2
      refine ⟨Mf, ?_, f2, f3.1⟩
      rw [f_RM_readStep_l56]
      simp (disch := first | assumption | omega) only [z_bdn, z_caln, z_gdn, z_iT, z_iF, z_le_t, z_le_f, z_lt_t, z_lt_f, z_cl, z_inb, z_at, z_pl, z_lit, nI_ii1, nI_add, nI_mul, z_eq_f, z_refuse, z_no, z_M00, b2i_t, b2i_f, h12, h15, f1, g]
    · rw [if_neg h3]
      have to82 : f_RM_readStep_l56 cR (nI (vvS c).length) (nI ki) (b2i (isBd ki)) M = f_RM_readStep_l82 cR (nI (vvS c).length) (nI ki) (b2i (isBd ki)) M := by
        rw [f_RM_readStep_l56]
        cases hb : isBd ki with
        | false => simp (disch := first | assumption | omega) only [z_bdn, z_caln, z_gdn, z_iT, z_iF, z_le_t, z_le_f, z_lt_t, z_lt_f, z_cl, z_inb, z_at, z_pl, z_lit, nI_ii1, nI_add, nI_mul, z_eq_f, z_refuse, z_no, z_M00, b2i_t, b2i_f, h12]
        | true =>
          have z3 : (nI (vvS c).length = nI 3) = False := z_kn (fun e => h3 ⟨hb, by omega⟩) (by omega) (by omega)
          simp (disch := first | assumption | omega) only [z_bdn, z_caln, z_gdn, z_iT, z_iF, z_le_t, z_le_f, z_lt_t, z_lt_f, z_cl, z_inb, z_at, z_pl, z_lit, nI_ii1, nI_add, nI_mul, z_eq_f, z_refuse, z_no, z_M00, b2i_t, b2i_f, h12, z3]
      rw [to82]
      have g := q_ml82 (cR := cR) (p1 := nI (vvS c).length) (x3 := b2i (isBd ki)) hki hO hP h (by omega) ha hTO
      cases hp : pStp T n x y ki (nx T n (vvT c)) with
      | error er =>
        rw [hp] at g
        obtain ⟨M1, g1, g2, g3⟩ := g
        obtain ⟨M2, b1, b2, b3⟩ := b_l141 (cR := cR) (p1 := nI (vvS c).length) (b := isBd ki) (f := FU) (w := 3570 + 9 * vvK c) (FU_lt (by omega)) (by omega) (by omega) g2
        exact ⟨M2, g1.trans b1, b2, g3.tr b3⟩
      | ok r =>
        rw [hp] at g
        show (match (match pSig T n 59 r.2.2 with | Except.error e => (Except.error e : Except Er Cs) | Except.ok t => Except.ok (cBeg c ki r t)) with | Except.error er => _ | Except.ok c1 => _)
        have g : (match (match pSig T n 59 r.2.2 with | .error e => .error e | .ok t => .ok (cBeg c ki r t) : Except Er Cs) with
          | .error er => ∃ M', f_RM_readStep_l82 cR (nI (vvS c).length) (nI ki) (b2i (isBd ki)) M = f_RM_readStep_l141 cR (nI (vvS c).length) FU (b2i (isBd ki)) (nI (3570 + 9 * vvK c)) M' ∧ Bd M' er ∧ FrZ M M'
          | .ok c1 => ∃ M', f_RM_readStep_l82 cR (nI (vvS c).length) (nI ki) (b2i (isBd ki)) M = f_RM_readStep_l141 cR (nI (vvS c).length) FU (b2i (isBd ki)) (nI (3570 + 9 * vvK c)) M' ∧ MZk M' T n x y ∧ StH M' c1 (vvK c) ∧ TkM M' (vvT c1) ∧ TkB (vvT c1) ∧ FrZ M M') := g
        cases hq : pSig T n 59 r.2.2 with
        | error er =>
          rw [hq] at g
          obtain ⟨M1, g1, g2, g3⟩ := g
          obtain ⟨M2, b1, b2, b3⟩ := b_l141 (cR := cR) (p1 := nI (vvS c).length) (b := isBd ki) (f := FU) (w := 3570 + 9 * vvK c) (FU_lt (by omega)) (by omega) (by omega) g2
          exact ⟨M2, g1.trans b1, b2, g3.tr b3⟩
        | ok t =>
          rw [hq] at g
          obtain ⟨M1, g1, g2⟩ := g
          exact ⟨M1, r, t, rfl, g1, by omega, g2⟩
end
