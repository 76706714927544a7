/-! ## CENTURIES' text: the reference's recursion -/
def PRr (T : Nat → Nat) (n : Nat) (x : Cl) (y : De) (m : Nat) (c : Cs) (M : kx_M) (r : Option (Unit × kx_M)) (L : List (Nat × Nat)) : Prop :=
  (∃ er M', r = some ((), M') ∧ Bd M' er ∧ FrZ M M' ∧ cAll T n x y m c = .error er) ∨
  (∃ m1 c1 M', r = some ((), M') ∧ m1 < m ∧ cAll T n x y m c = cAll T n x y m1 c1 ∧ vvS c1 = L ∧ MSt M' T n x y c1 ∧ COk n x y c1 ∧ TkO n (vvT c1) ∧ n < m1 + kP (vvT c1) ∧ FrZ M M')
def PRs (T : Nat → Nat) (n : Nat) (x : Cl) (y : De) (m : Nat) : Prop := ∀ (c : Cs) (M : kx_M), MSt M T n x y c → COk n x y c → TkO n (vvT c) → n < m + kP (vvT c) → (kS (vvT c) = 0 → vvS c ≠ []) → (vvS c ≠ [] → isK (vvT c) 24 = false) → PRr T n x y m c M (g_RM_readStep (5 - (vvS c).length) (nI (vvS c).length) M) (vvS c)
def QRs (T : Nat → Nat) (n : Nat) (x : Cl) (y : De) (m : Nat) : Prop := ∀ (c : Cs) (M : kx_M) (q : Nat × Nat) (L : List (Nat × Nat)) (f : Nat), vvS c = q :: L → MSt M T n x y c → COk n x y c → TkO n (vvT c) → n < m + kP (vvT c) → m < f → PRr T n x y m c M (f_RM_readStep_l141 (g_RM_readStep (4 - L.length)) (nI L.length) f (nI 1) (nI (3570 + 9 * q.1)) M) L
section
variable {M M' M1 : kx_M} {T : Nat → Nat} {n w : Nat} {t : Tok} {x : Cl} {y : De} {e : Er} {c c1 : Cs} {m : Nat}
theorem cAll_s (h0 : kS (vvT c) ≠ 0) : cAll T n x y (m + 1) c = (match cTurn T n x y c with
    | .error e => .error e
    | .ok s1 => cAll T n x y m s1) := by
  conv => lhs; unfold cAll
  rw [if_neg h0]
  rfl
theorem cAll_e (h0 : kS (vvT c) = 0) (h : vvS c ≠ []) : cAll T n x y (m + 1) c = .error (flt (vvT c) 2) := by
  conv => lhs; unfold cAll
  rw [if_pos h0, if_neg h]
theorem q_ml16 {cR : Int32 → kx_M → Option (Unit × kx_M)} {p1 : Int32} {ki : Nat} (hki : ki < 8) (hT : TkM M t) (hk : stK t = some ki) : f_RM_readStep cR p1 M = f_RM_readStep_l30 cR p1 (nI ki) (b2i (isBd ki)) M := by
  have eS := q_stepWord hT
  rw [hk] at eS
  have eS : f_RM_stepWord M = some (nI ki, M) := eS
  rw [f_RM_readStep]
  by_cases k5 : ki = 5
  · subst k5
    simp (disch := first | assumption | omega) only [z_bdn, z_caln, z_gdn, z_iT, z_iF, z_le_t, z_le_f, z_lt_t, z_lt_f, z_cl, z_inb, z_at, z_pl, z_lit, nI_ii1, nI_add, nI_mul, z_eq_f, z_refuse, z_no, z_M00, b2i_t, b2i_f, eS, f_RM_readStep_l16]
    rfl
  · by_cases k6 : ki = 6
    · subst k6
      simp (disch := first | assumption | omega) only [z_bdn, z_caln, z_gdn, z_iT, z_iF, z_le_t, z_le_f, z_lt_t, z_lt_f, z_cl, z_inb, z_at, z_pl, z_lit, nI_ii1, nI_add, nI_mul, z_eq_f, z_refuse, z_no, z_M00, b2i_t, b2i_f, eS, f_RM_readStep_l16]
      rfl
    · have hb : isBd ki = false := decide_eq_false (by omega)
      rw [hb]
      simp (disch := first | assumption | omega) only [z_bdn, z_caln, z_gdn, z_iT, z_iF, z_le_t, z_le_f, z_lt_t, z_lt_f, z_cl, z_inb, z_at, z_pl, z_lit, nI_ii1, nI_add, nI_mul, z_eq_f, z_refuse, z_no, z_M00, b2i_t, b2i_f, eS]
theorem MSt_H {K : Nat} (h1 : MZk M T n x y) (h2 : StH M c K) (h3 : TkM M (vvT c)) (h4 : TkB (vvT c)) (hK : ∃ q, q ∈ vvS c ∧ q.1 = K) : MSt M T n x y c := by
  obtain ⟨q, q1, q2⟩ := hK
  refine ⟨h1, ⟨h2.1, h2.2.1, fun s hs _ hq => h2.2.2 s hs (fun e => hq q q1 (q2.trans e.symm)) hq⟩, h3, h4⟩
/-- a step's end is written -/
theorem MSt_8 {K : Nat} (hO : OkC x) (hP : OkD (cW x) y) (hK : K < 30) (h1 : MZk M T n x y) (h2 : StH M c K) (h3 : TkM M (vvT c)) (h4 : TkB (vvT c)) (h8 : zI (vvZ c) K 8 = nI (vvK c)) : MSt (sA M 140 (upd (mA M 140) (3570 + 9 * K + 8) (nI (vvK c)))) T n x y c := by
  have hA : ∀ s i, i < 9 → (s ≠ K ∨ i ≠ 8) → fld (sA M 140 (upd (mA M 140) (3570 + 9 * K + 8) (nI (vvK c)))) (3570 + 9 * s) i = fld M (3570 + 9 * s) i := fun s i hi h => by
    show upd (mA M 140) (3570 + 9 * K + 8) (nI (vvK c)) (3570 + 9 * s + i) = _
    rw [upd_at, if_neg (by omega)]
    rfl
  refine ⟨MZk_A hO hP (by omega) h1, ⟨h2.1, fun s hs => useG_c (fun i hi => hA s i (by omega) (Or.inr (by omega))) (h2.2.1 s hs), fun s hs _ hq => ?_⟩, h3, h4⟩
  by_cases he : s = K
  · subst he
    rw [h8]
    show upd (mA M 140) (3570 + 9 * s + 8) (nI (vvK c)) (3570 + 9 * s + 8) = _
    rw [upd_at, if_pos rfl]
  · rw [hA s 8 (by omega) (Or.inl he)]
    exact h2.2.2 s hs he hq
theorem FrZ.A {p : Nat} {v : Int32} (hp : 3570 ≤ p) : FrZ M (sA M 140 (upd (mA M 140) p v)) := (FrZs.A (w := p) hp (by omega) (by omega)).1
theorem P_of_Q (hO : OkC x) (hP : OkD (cW x) y) (hn : n ≤ 900) (hm : ∀ m', m' < m → QRs T n x y m') (hm9 : m ≤ 1000) : PRs T n x y m := by
  intro c M h hOk hTO hlt h0 h24
  have hp1 := hTO.1
  have hp2 := hTO.2.1
  obtain ⟨m, rfl⟩ : ∃ k, m = k + 1 := ⟨m - 1, by omega⟩
  have hl3 := hOk.2.2.2.1
  have h12 := h.1.2.1
  obtain ⟨f, hf, hf2⟩ : ∃ f, 5 - (vvS c).length = f + 1 ∧ f = 4 - (vvS c).length := ⟨4 - (vvS c).length, by omega, rfl⟩
  rw [hf]
  show PRr T n x y (m + 1) c M (f_RM_readStep (g_RM_readStep f) (nI (vvS c).length) M) (vvS c)
  cases hk : stK (vvT c) with
  | none =>
    have eA : cAll T n x y (m + 1) c = .error (flt (vvT c) 2) := by
      by_cases c0 : kS (vvT c) = 0
      · exact cAll_e c0 (h0 c0)
      · rw [cAll_s c0]
        have eT : cTurn T n x y c = .error (flt (vvT c) 2) := by
          unfold cTurn
          by_cases c24 : isK (vvT c) 24 = true
          · rw [if_pos c24]
            cases hS : vvS c with
            | nil => rfl
            | cons q L =>
              have := h24 (by rw [hS]; exact List.cons_ne_nil _ _)
              rw [this] at c24
              cases c24
          · rw [if_neg c24, hk]
        rw [eT]
    obtain ⟨Mf, f1, f2, f3⟩ := q_amissZ (w := 0) h12 h.2.2.1
    refine Or.inl ⟨_, Mf, ?_, f2, f3.1, eA⟩
    have eS := q_stepWord h.2.2.1
    rw [hk] at eS
    have eS : f_RM_stepWord M = some (-nI 1, M) := eS
    have g := fun x2 x3 => b_l30 (cR := g_RM_readStep f) (p1 := nI (vvS c).length) (x2 := x2) (x3 := x3) f2
    have m5 : (-nI 1 = nI 5) = False := eq_false (by decide)
    have m6 : (-nI 1 = nI 6) = False := eq_false (by decide)
    rw [f_RM_readStep]
    simp (disch := first | assumption | omega) only [z_bdn, z_caln, z_gdn, z_iT, z_iF, z_le_t, z_le_f, z_lt_t, z_lt_f, z_cl, z_inb, z_at, z_pl, z_lit, nI_ii1, nI_add, nI_mul, z_eq_f, z_refuse, z_no, z_M00, b2i_t, b2i_f, eS, m5, m6, z_neg, f1, g]
  | some ki =>
    obtain ⟨k2, kv⟩ := stK_some hk
    have hki := stK_lt8 hk
    have c0 : kS (vvT c) ≠ 0 := by omega
    rw [q_ml16 hki h.2.2.1 hk]
    have g := q_ml30 (cR := g_RM_readStep f) hO hP h hOk hTO hk
    unfold PRr
    rw [cAll_s c0]
    cases hc : cTurn T n x y c with
    | error er =>
      rw [hc] at g
      obtain ⟨M1, g1, g2, g3⟩ := g
      exact Or.inl ⟨er, M1, g1, g2, g3, rfl⟩
    | ok c1 =>
      rw [hc] at g
      obtain ⟨M1, r, t1, ec, g1, g9, g2, g3, g4, g5, g6⟩ := g
      obtain ⟨k1, k3⟩ := cTurn_mo hTO c0 hc
      have hOk1 := cTurn_ok hO hP hOk hTO hc
      cases hb : isBd ki with
      | false =>
        rw [hb] at g1
        have eS1 : vvS c1 = vvS c := by rw [ec]; show (if isBd ki = true then _ else _) = _; rw [hb, z_itf]
        have e8 : zI (vvZ c1) (vvK c) 8 = nI (vvK c1) := by
          rw [ec]
          show zI (updZ _ _ _) _ 8 = _
          rw [updZ_eq]
          rfl
        have e26 := g3.1
        have z8 := z_w (w := 3570 + 9 * vvK c) (j := 8) (by omega) (by omega)
        refine Or.inr ⟨m, c1, _, g1.trans ?_, Nat.lt_succ_self m, rfl, eS1, MSt_8 hO hP g9 g2 g3 g4 g5 e8, hOk1, k1, by omega, g6.tr (FrZ.A (by omega))⟩
        obtain ⟨F, hF⟩ : ∃ F, FU = F + 1 := ⟨FU - 1, rfl⟩
        rw [hF, f_RM_readStep_l141]
        simp (disch := first | assumption | omega) only [z_bdn, z_caln, z_gdn, z_iT, z_iF, z_le_t, z_le_f, z_lt_t, z_lt_f, z_cl, z_inb, z_at, z_pl, z_lit, nI_ii1, nI_add, nI_mul, z_eq_f, z_refuse, z_no, z_M00, b2i_t, b2i_f, f_RM_readStep_l169, z8, e26]
      | true =>
        rw [hb] at g1
        have eS1 : vvS c1 = (vvK c, vvE c) :: vvS c := by rw [ec]; show (if isBd ki = true then _ else _) = _; rw [hb, z_itt]
        have hS1 := MSt_H g2 g3 g4 g5 ⟨(vvK c, vvE c), by rw [eS1]; exact List.mem_cons_self, rfl⟩
        have gq := hm m (Nat.lt_succ_self m) c1 M1 (vvK c, vvE c) (vvS c) FU eS1 hS1 hOk1 k1 (by omega) (FU_lt (by omega))
        rw [← hf2] at gq
        rcases gq with ⟨er, M2, a1, a2, a3, a4⟩ | ⟨m1, c2, M2, a1, a2, a3, a4, a5, a6, a7, a8, a9⟩
        · exact Or.inl ⟨er, M2, g1.trans a1, a2, g6.tr a3, a4⟩
        · exact Or.inr ⟨m1, c2, M2, g1.trans a1, by omega, a3, a4, a5, a6, a7, a8, g6.tr a9⟩
theorem Q_of_P (hO : OkC x) (hP : OkD (cW x) y) (hn : n ≤ 900) (hPm : PRs T n x y m) (hm : ∀ m', m' < m → QRs T n x y m') : QRs T n x y m := by
  intro c M q L f hS h hOk hTO hlt hf
  have hp1 := hTO.1
  have hp2 := hTO.2.1
  obtain ⟨m, rfl⟩ : ∃ k, m = k + 1 := ⟨m - 1, by omega⟩
  obtain ⟨f, rfl, hf⟩ := z_succ hf
  have hOk0 := hOk
  obtain ⟨hL, k1, k2, k3, ha⟩ := hOk
  unfold LvC at hL
  rw [hS] at hL k3
  have k3 : L.length + 1 ≤ 3 := k3
  have hq1 := hL.2.1
  have h12 := h.1.2.1
  have eE := q_isEnd h.2.2.1
  have hw2 : 3570 + 9 * q.1 + 9 ≤ 3840 := by omega
  have z8 := z_w (w := 3570 + 9 * q.1) (j := 8) hw2 (by omega)
  rw [f_RM_readStep_l141]
  cases h24 : isK (vvT c) 24 with
  | true =>
    rw [h24] at eE
    have c0 : kS (vvT c) ≠ 0 := by have := (ik h24).1; omega
    obtain ⟨M1, a1, a2, a3, a4, a5⟩ := q_must1Z h.1 h.2.2.1 ha
    have ha1 : kA (nx T n (vvT c)) ≤ n := nx_le ha
    have hSg := q_isSg (c := 59) a2 a3 (by omega)
    have eT : cTurn T n x y c = (match pSig T n 59 (nx T n (vvT c)) with
      | .error e => .error e
      | .ok t => .ok (cEnd c q.1 q.2 t L)) := by unfold cTurn; rw [if_pos h24, hS]; rfl
    have e26 : mI M1 135 26 = nI (vvK c) := (a5.2.1 26 (by omega)).trans h.2.1.1
    unfold PRr
    rw [cAll_s c0]
    by_cases h5 : kS (nx T n (vvT c)) = 4 ∧ kV (nx T n (vvT c)) = 59
    · have ep : pSig T n 59 (nx T n (vvT c)) = .ok (nx T n (nx T n (vvT c))) := by unfold pSig; rw [if_pos h5]; rfl
      rw [ep] at eT
      rw [decide_eq_true h5] at hSg
      obtain ⟨M2, b1, b2, b3, b4, b5⟩ := q_must1Z a4 a2 ha1
      have e262 : mI M2 135 26 = nI (vvK c) := (b5.2.1 26 (by omega)).trans e26
      obtain ⟨m1, m2⟩ := cTurn_mo hTO c0 eT
      have hOk1 := cTurn_ok hO hP hOk0 hTO eT
      have hH : StH M2 (cEnd c q.1 q.2 (nx T n (nx T n (vvT c))) L) q.1 := by
        have hfl : ∀ s i, fld M2 (3570 + 9 * s) i = fld M (3570 + 9 * s) i := fun s i => (fld_T b5 i).trans (fld_T a5 i)
        refine ⟨e262, fun s hs => ?_, fun s hs hne hq => ?_⟩
        · refine useG_c (fun i _ => hfl s i) ?_
          show useG (zI (updZ (vvZ c) q.1 _) s) _
          by_cases he : s = q.1
          · subst he
            rw [updZ_eq]
            exact h.2.1.2.1 q.1 hs
          · rw [updZ_ne he]
            exact h.2.1.2.1 s hs
        · have hs : s < vvK c := hs
          rw [hfl]
          show _ = zI (updZ (vvZ c) q.1 _) s 8
          rw [updZ_ne hne]
          refine h.2.1.2.2 s hs (by omega) (fun q' hq' => ?_)
          rw [hS] at hq'
          rcases List.mem_cons.mp hq' with rfl | hq'
          · exact fun e => hne e.symm
          · exact hq q' hq'
      have e8 : zI (vvZ (cEnd c q.1 q.2 (nx T n (nx T n (vvT c))) L)) q.1 8 = nI (vvK (cEnd c q.1 q.2 (nx T n (nx T n (vvT c))) L)) := by
        show zI (updZ (vvZ c) q.1 _) q.1 8 = _
        rw [updZ_eq]
        rfl
      rw [eT]
      refine Or.inr ⟨m, _, _, ?_, Nat.lt_succ_self m, rfl, rfl, MSt_8 hO hP (by omega) b4 hH b2 b3 e8, hOk1, m1, by omega, (FrZ.Tt a5).tr ((FrZ.Tt b5).tr (FrZ.A (by omega)))⟩
      show _ = some ((), sA M2 140 (upd (mA M2 140) (3570 + 9 * q.1 + 8) (nI (vvK c))))
      simp (disch := first | assumption | omega) only [z_bdn, z_caln, z_gdn, z_iT, z_iF, z_le_t, z_le_f, z_lt_t, z_lt_f, z_cl, z_inb, z_at, z_pl, z_lit, nI_ii1, nI_add, nI_mul, z_eq_f, z_refuse, z_no, z_M00, b2i_t, b2i_f, h12, eE, f_RM_readStep_l169, a1, hSg, b1, z8, e262]
    · have ep : pSig T n 59 (nx T n (vvT c)) = .error (flt (nx T n (vvT c)) 2) := by unfold pSig; rw [if_neg h5]
      rw [ep] at eT
      rw [decide_eq_false h5] at hSg
      obtain ⟨M2, b1, b2, b3⟩ := q_must0Z (w := 0) a4.2.1 a2
      have e262 : mI M2 135 26 = nI (vvK c) := b3.2.1.trans e26
      rw [eT]
      refine Or.inl ⟨_, sA M2 140 (upd (mA M2 140) (3570 + 9 * q.1 + 8) (nI (vvK c))), ?_, b2, (FrZ.Tt a5).tr (b3.1.tr (FrZ.A (by omega))), rfl⟩
      simp (disch := first | assumption | omega) only [z_bdn, z_caln, z_gdn, z_iT, z_iF, z_le_t, z_le_f, z_lt_t, z_lt_f, z_cl, z_inb, z_at, z_pl, z_lit, nI_ii1, nI_add, nI_mul, z_eq_f, z_refuse, z_no, z_M00, b2i_t, b2i_f, h12, eE, f_RM_readStep_l169, a1, hSg, b1, z8, e262]
  | false =>
    rw [h24] at eE
    have hne : vvS c ≠ [] := by rw [hS]; exact List.cons_ne_nil _ _
    have g := hPm c M h hOk0 hTO hlt (fun _ => hne) (fun _ => h24)
    have eL : (vvS c).length = L.length + 1 := by rw [hS]; rfl
    rw [eL, show 5 - (L.length + 1) = 4 - L.length by omega] at g
    have toL : ∀ M1, g_RM_readStep (4 - L.length) (nI (L.length + 1)) M = some ((), M1) → ∀ R, f_RM_readStep_l141 (g_RM_readStep (4 - L.length)) (nI L.length) f (nI 1) (nI (3570 + 9 * q.1)) M1 = R → (if nI 1 = 0 then f_RM_readStep_l169 (g_RM_readStep (4 - L.length)) (nI L.length) (nI 1) (nI (3570 + 9 * q.1)) M
      else if (mI M 135 12) = 0 then (cal (f_RM_isEnd M) fun r1 M1 => if r1 = 0 then (cal (g_RM_readStep (4 - L.length) (nI L.length + (1 : Int32)) M1) fun _ M2 => f_RM_readStep_l141 (g_RM_readStep (4 - L.length)) (nI L.length) f (nI 1) (nI (3570 + 9 * q.1)) M2) else f_RM_readStep_l169 (g_RM_readStep (4 - L.length)) (nI L.length) (nI 1) (nI (3570 + 9 * q.1)) M1)
      else f_RM_readStep_l169 (g_RM_readStep (4 - L.length)) (nI L.length) (nI 1) (nI (3570 + 9 * q.1)) M) = R := by
      intro M1 g1 R hR
      simp (disch := first | assumption | omega) only [z_bdn, z_caln, z_gdn, z_iT, z_iF, z_le_t, z_le_f, z_lt_t, z_lt_f, z_cl, z_inb, z_at, z_pl, z_lit, nI_ii1, nI_add, nI_mul, z_eq_f, z_refuse, z_no, z_M00, b2i_t, b2i_f, h12, eE, g1]
      exact hR
    rcases g with ⟨er, M1, a1, a2, a3, a4⟩ | ⟨m1, c1, M1, a1, a2, a3, a4, a5, a6, a7, a8, a9⟩
    · obtain ⟨M2, b1, b2, b3⟩ := b_l141 (cR := g_RM_readStep (4 - L.length)) (p1 := nI L.length) (b := true) (f := f) (w := 3570 + 9 * q.1) (by omega) (by omega) hw2 a2
      exact Or.inl ⟨er, M2, toL M1 a1 _ b1, b2, a3.tr b3, a4⟩
    · have gq := hm m1 a2 c1 M1 q L f (a4.trans hS) a5 a6 a7 a8 (by omega)
      rcases gq with ⟨er, M2, b1, b2, b3, b4⟩ | ⟨m2, c2, M2, b1, b2, b3, b4, b5, b6, b7, b8, b9⟩
      · exact Or.inl ⟨er, M2, toL M1 a1 _ b1, b2, a9.tr b3, a3.trans b4⟩
      · exact Or.inr ⟨m2, c2, M2, toL M1 a1 _ b1, by omega, a3.trans b3, b4, b5, b6, b7, b8, a9.tr b9⟩
theorem PQ_all (hO : OkC x) (hP : OkD (cW x) y) (hn : n ≤ 900) : ∀ m, m ≤ 1000 → PRs T n x y m ∧ QRs T n x y m := by
  have key : ∀ k m, m < k → m ≤ 1000 → PRs T n x y m ∧ QRs T n x y m := by
    intro k
    induction k with
    | zero => intro m hm; exact absurd hm (Nat.not_lt_zero _)
    | succ k ih =>
      intro m hm hm9
      have hq : ∀ m', m' < m → QRs T n x y m' := fun m' h => (ih m' (by omega) (by omega)).2
      have hp := P_of_Q hO hP hn hq hm9
      exact ⟨hp, Q_of_P hO hP hn hp hq⟩
  exact fun m hm => key (m + 1) m (Nat.lt_succ_self m) hm
end
