/-! ## CENTURIES' text: the reference's steps -/
section
variable {M M' M1 : kx_M} {T : Nat → Nat} {n w : Nat} {t : Tok} {x : Cl} {y : De} {e : Er}
theorem useG_mk {ki a b ts sg en : Nat} {g : Nat → Int32} (hki : ki < 8) (hts : ts < 3) (h0 : g 0 = nI ki) (h1 : ki ≠ 4 → ki ≠ 7 → g 1 = nI a) (h2 : ki = 1 ∨ ki = 2 ∨ ki = 3 → g 2 = nI b) (h6 : ki = 5 → g 6 = nI ts ∧ (ts = 2 → g 7 = nI sg)) : useG (fun j => nI (stF ki a b ts sg en j)) g := by
  have inj : ∀ k, k < 100 → nI ki = nI k → ki = k := fun k hk e => (nI_eq (by omega) (by omega)).mp e
  refine ⟨h0, fun n4 n7 => h1 (fun e => n4 (by show nI ki = nI 4; rw [e])) (fun e => n7 (by show nI ki = nI 7; rw [e])), fun h => h2 ?_, fun h => ?_⟩
  · rcases h with h | h | h
    · exact Or.inl (inj 1 (by omega) h)
    · exact Or.inr (Or.inl (inj 2 (by omega) h))
    · exact Or.inr (Or.inr (inj 3 (by omega) h))
  · obtain ⟨g1, g2⟩ := h6 (inj 5 (by omega) h)
    exact ⟨g1, fun e => g2 ((nI_eq (by omega) (by omega)).mp e)⟩
/-- one number -/
theorem q_mOne {ki o lo hi en : Nat} {v : Except Er Nat} (hki : ki = 0 ∨ ki = 6) (hO : OkC x) (hP : OkD (cW x) y) (hw : 3570 ≤ w) (hw2 : w + 9 ≤ 3840) (hT : TkM M t) (h0 : fld M w 0 = nI ki) (hv : v = pNum lo hi t) (g : NmM M T n w x y t (f_RM_count (nI lo) (nI hi) M) v) : RsN M T n w x y (cal (f_RM_count (nI lo) (nI hi) M) fun r3 M1 => gd (inb (nI w + 1) 3840) <| bd (sA M1 140 (upd (mA M1 140) (nI w + 1).toNatClampNeg r3)) fun M2 => f_RM_readRest_l92 (nI w) (nI ki) M2) (fun q M' => useG (fun j => nI (stF ki q.1.1 q.1.2.1 q.1.2.2.1 q.1.2.2.2 en j)) (fld M' w)) (pOneN T n o lo hi t) := by
  have z1 := z_w (w := w) (j := 1) hw2 (by omega)
  have g2 := q_cntW (j := 1) hO hP (by omega) hw g
  have hl : ∀ M2, f_RM_readRest_l92 (nI w) (nI ki) M2 = some ((), M2) := by
    intro M2
    rw [f_RM_readRest_l92]
    rcases hki with rfl | rfl
    · simp (disch := first | assumption | omega) only [z_bdn, z_caln, z_gdn, z_iT, z_iF, z_le_t, z_le_f, z_lt_t, z_lt_f, z_cl, z_inb, z_at, z_pl, z_lit, nI_ii1, nI_add, nI_mul, z_eq_f, z_refuse, z_no, z_M00, b2i_t, b2i_f]
    · simp (disch := first | assumption | omega) only [z_bdn, z_caln, z_gdn, z_iT, z_iF, z_le_t, z_le_f, z_lt_t, z_lt_f, z_cl, z_inb, z_at, z_pl, z_lit, nI_ii1, nI_add, nI_mul, z_eq_f, z_refuse, z_no, z_M00, b2i_t, b2i_f]
  cases hp : pNum lo hi t with
  | error er =>
    have ep : pOneN T n o lo hi t = .error er := by unfold pOneN; rw [hp]
    rw [ep]
    rw [hv, hp] at g2
    obtain ⟨M1, a1, a2, a3⟩ := g2
    refine ⟨_, ?_, a2, a3⟩
    simp (disch := first | assumption | omega) only [z_bdn, z_caln, z_gdn, z_iT, z_iF, z_le_t, z_le_f, z_lt_t, z_lt_f, z_cl, z_inb, z_at, z_pl, z_lit, nI_ii1, nI_add, nI_mul, z_eq_f, z_refuse, z_no, z_M00, b2i_t, b2i_f, a1, z1, hl]
  | ok u =>
    have ep : pOneN T n o lo hi t = .ok ((u, 0, 0, 0), (o, u, 0), nx T n t) := by unfold pOneN; rw [hp]
    rw [ep]
    rw [hv, hp] at g2
    obtain ⟨M1, a1, a2, a3, a4, a5, a6⟩ := g2
    refine ⟨_, ?_, a2, a3, a4, a5, useG_mk (by omega) (show (0 : Nat) < 3 by decide) ?_ (fun _ _ => ?_) (fun e => by omega) (fun e => by omega)⟩
    · simp (disch := first | assumption | omega) only [z_bdn, z_caln, z_gdn, z_iT, z_iF, z_le_t, z_le_f, z_lt_t, z_lt_f, z_cl, z_inb, z_at, z_pl, z_lit, nI_ii1, nI_add, nI_mul, z_eq_f, z_refuse, z_no, z_M00, b2i_t, b2i_f, a1, z1, hl]
    · rw [a6, if_neg (by decide)]; exact h0
    · rw [a6, if_pos rfl]
/-- two numbers -/
theorem q_mTwo {ki R W en : Nat} (hki : (ki = 1 ∧ W = 2) ∨ ((ki = 2 ∨ ki = 3) ∧ W = cW x)) (hR : R = cR x) (hO : OkC x) (hP : OkD (cW x) y) (hw : 3570 ≤ w) (hw2 : w + 9 ≤ 3840) (h : MZk M T n x y) (hT : TkM M t) (hB : TkB t) (ha : kA t ≤ n) (h0 : fld M w 0 = nI ki) : RsN M T n w x y (cal (f_RM_count (nI 0) (nI R - nI 1) M) fun r12 M6 => gd (inb (nI w + 1) 3840) <| bd (sA M6 140 (upd (mA M6 140) (nI w + 1).toNatClampNeg r12)) fun M7 => f_RM_readRest_l92 (nI w) (nI ki) M7) (fun q M' => useG (fun j => nI (stF ki q.1.1 q.1.2.1 q.1.2.2.1 q.1.2.2.2 en j)) (fld M' w)) (pTwo T n ki R W t) := by
  subst hR
  have w1 := hO.1
  have w3 := hO.2.2.1
  have z1 := z_w (w := w) (j := 1) hw2 (by omega)
  have z2 := z_w (w := w) (j := 2) hw2 (by omega)
  have g1 := q_cntW (j := 1) hO hP (by omega) hw (q_cntR (w := w) w3 h hT hB ha)
  cases hp : pNmR (cR x) t with
  | error er =>
    have ep : pTwo T n ki (cR x) W t = .error er := by unfold pTwo; rw [hp]
    rw [ep]
    rw [hp] at g1
    obtain ⟨M1, a1, a2, a3⟩ := g1
    generalize hM2 : sA M1 140 (upd (mA M1 140) (w + 1) (nI 0)) = M2 at a2 a3
    have b1 := fun p q => b_count a2 p q
    refine ⟨sA M2 140 (upd (mA M2 140) (w + 2) (nI 0)), ?_, a2, a3.tr (FrZs.A hw (by omega) (by omega))⟩
    rcases hki with ⟨rfl, -⟩ | ⟨rfl | rfl, -⟩
    · simp (disch := first | assumption | omega) only [z_bdn, z_caln, z_gdn, z_iT, z_iF, z_le_t, z_le_f, z_lt_t, z_lt_f, z_cl, z_inb, z_at, z_pl, z_lit, nI_ii1, nI_add, nI_mul, z_eq_f, z_refuse, z_no, z_M00, b2i_t, b2i_f, a1, z1, hM2, f_RM_readRest_l92, b1, z2]
    · simp (disch := first | assumption | omega) only [z_bdn, z_caln, z_gdn, z_iT, z_iF, z_le_t, z_le_f, z_lt_t, z_lt_f, z_cl, z_inb, z_at, z_pl, z_lit, nI_ii1, nI_add, nI_mul, z_eq_f, z_refuse, z_no, z_M00, b2i_t, b2i_f, a1, z1, hM2, f_RM_readRest_l92, b1, z2]
    · simp (disch := first | assumption | omega) only [z_bdn, z_caln, z_gdn, z_iT, z_iF, z_le_t, z_le_f, z_lt_t, z_lt_f, z_cl, z_inb, z_at, z_pl, z_lit, nI_ii1, nI_add, nI_mul, z_eq_f, z_refuse, z_no, z_M00, b2i_t, b2i_f, a1, z1, hM2, f_RM_readRest_l92, b1, z2]
  | ok u =>
    rw [hp] at g1
    obtain ⟨M1, a1, a2, a3, a4, a5, a6⟩ := g1
    generalize hM2 : sA M1 140 (upd (mA M1 140) (w + 1) (nI u)) = M2 at a2 a4 a5 a6
    have ha1 : kA (nx T n t) ≤ n := nx_le ha
    have hW8 : W - 1 < 10000 := by omega
    have g2 := q_cntW (j := 2) hO hP (by omega) hw (q_cntZ (w := w) (lo := 0) (hi := W - 1) a4 a2 a3 ha1 (by omega) hW8)
    have e0 : mA M2 140 0 = nI (cW x) := a4.2.2.1.1
    have es : nI (cW x) - nI 1 = nI (cW x - 1) := z_sub w1.1
    have toL : ∀ v M3, f_RM_count (nI 0) (nI (W - 1)) M2 = some (nI v, M3) → (cal (f_RM_count (nI 0) (nI (cR x) - nI 1) M) fun r12 M6 => gd (inb (nI w + 1) 3840) <| bd (sA M6 140 (upd (mA M6 140) (nI w + 1).toNatClampNeg r12)) fun M7 => f_RM_readRest_l92 (nI w) (nI ki) M7) = some ((), sA M3 140 (upd (mA M3 140) (w + 2) (nI v))) := by
      intro v M3 b1
      rcases hki with ⟨rfl, rfl⟩ | ⟨rfl | rfl, rfl⟩
      · have b1 : f_RM_count (nI 0) (nI 1) M2 = some (nI v, M3) := b1
        simp (disch := first | assumption | omega) only [z_bdn, z_caln, z_gdn, z_iT, z_iF, z_le_t, z_le_f, z_lt_t, z_lt_f, z_cl, z_inb, z_at, z_pl, z_lit, nI_ii1, nI_add, nI_mul, z_eq_f, z_refuse, z_no, z_M00, b2i_t, b2i_f, a1, z1, hM2, f_RM_readRest_l92, b1, z2]
      · simp (disch := first | assumption | omega) only [z_bdn, z_caln, z_gdn, z_iT, z_iF, z_le_t, z_le_f, z_lt_t, z_lt_f, z_cl, z_inb, z_at, z_pl, z_lit, nI_ii1, nI_add, nI_mul, z_eq_f, z_refuse, z_no, z_M00, b2i_t, b2i_f, a1, z1, hM2, f_RM_readRest_l92, e0, es, b1, z2]
      · simp (disch := first | assumption | omega) only [z_bdn, z_caln, z_gdn, z_iT, z_iF, z_le_t, z_le_f, z_lt_t, z_lt_f, z_cl, z_inb, z_at, z_pl, z_lit, nI_ii1, nI_add, nI_mul, z_eq_f, z_refuse, z_no, z_M00, b2i_t, b2i_f, a1, z1, hM2, f_RM_readRest_l92, e0, es, b1, z2]
    cases hq : pNum 0 (W - 1) (nx T n t) with
    | error er =>
      have ep : pTwo T n ki (cR x) W t = .error er := by unfold pTwo; rw [hp]; show (match pNum 0 (W - 1) (nx T n t) with | .error e => _ | .ok b => _) = _; rw [hq]
      rw [ep]
      rw [hq] at g2
      obtain ⟨M3, b1, b2, b3⟩ := g2
      exact ⟨_, toL _ _ b1, b2, a5.tr b3⟩
    | ok v =>
      have ep : pTwo T n ki (cR x) W t = .ok ((u, v, 0, 0), (14 + ki, u, v), nx T n (nx T n t)) := by unfold pTwo; rw [hp]; show (match pNum 0 (W - 1) (nx T n t) with | .error e => _ | .ok b => _) = _; rw [hq]
      rw [ep]
      rw [hq] at g2
      obtain ⟨M3, b1, b2, b3, b4, b5, b6⟩ := g2
      refine ⟨_, toL _ _ b1, b2, b3, b4, a5.tr b5, useG_mk (by omega) (show (0 : Nat) < 3 by decide) ?_ (fun _ _ => ?_) (fun _ => ?_) (fun e => by omega)⟩
      · rw [b6, if_neg (by decide), a6, if_neg (by decide)]; exact h0
      · rw [b6, if_neg (by decide), a6, if_pos rfl]
      · rw [b6, if_pos rfl]
/-- a step behind its word -/
theorem q_mRest {ki en : Nat} (hki : ki < 8) (hO : OkC x) (hP : OkD (cW x) y) (hw : 3570 ≤ w) (hw2 : w + 9 ≤ 3840) (h : MZk M T n x y) (hT : TkM M t) (hB : TkB t) (ha : kA t ≤ n) (h0 : fld M w 0 = nI ki) : RsN M T n w x y (f_RM_readRest (nI w) M) (fun q M' => useG (fun j => nI (stF ki q.1.1 q.1.2.1 q.1.2.2.1 q.1.2.2.2 en j)) (fld M' w)) (pStp T n x y ki t) := by
  have z0 := z_w (w := w) (j := 0) hw2 (by omega)
  have z0 : inb (nI w) 3840 = true := z0
  have zc : (nI w).toNatClampNeg = w := z_cl (by omega)
  have h0 : mA M 140 w = nI ki := h0
  have e4 : mA M 140 4 = nI (cR x) := h.2.2.1.2.2.1
  have hl : ∀ M2, (ki = 4 ∨ ki = 5 ∨ ki = 7) → f_RM_readRest_l92 (nI w) (nI ki) M2 = some ((), M2) := by
    intro M2 hk
    rw [f_RM_readRest_l92]
    rcases hk with rfl | rfl | rfl
    · simp (disch := first | assumption | omega) only [z_bdn, z_caln, z_gdn, z_iT, z_iF, z_le_t, z_le_f, z_lt_t, z_lt_f, z_cl, z_inb, z_at, z_pl, z_lit, nI_ii1, nI_add, nI_mul, z_eq_f, z_refuse, z_no, z_M00, b2i_t, b2i_f]
    · simp (disch := first | assumption | omega) only [z_bdn, z_caln, z_gdn, z_iT, z_iF, z_le_t, z_le_f, z_lt_t, z_lt_f, z_cl, z_inb, z_at, z_pl, z_lit, nI_ii1, nI_add, nI_mul, z_eq_f, z_refuse, z_no, z_M00, b2i_t, b2i_f]
    · simp (disch := first | assumption | omega) only [z_bdn, z_caln, z_gdn, z_iT, z_iF, z_le_t, z_le_f, z_lt_t, z_lt_f, z_cl, z_inb, z_at, z_pl, z_lit, nI_ii1, nI_add, nI_mul, z_eq_f, z_refuse, z_no, z_M00, b2i_t, b2i_f]
  rw [f_RM_readRest, z0, zc, h0, z_bd]
  show RsN M T n w x y (if nI ki = 0 then _ else _) _ _
  by_cases k0 : ki = 0
  · subst k0
    rw [if_pos (show (nI 0 : Int32) = 0 from rfl)]
    exact q_mOne (Or.inl rfl) hO hP hw hw2 hT h0 rfl (q_cntZ (lo := 1) (hi := 20) h hT hB ha (by omega) (by omega))
  by_cases k6 : ki = 6
  · subst k6
    rw [if_neg (show ¬ (nI 6 : Int32) = 0 by decide), if_pos (show (nI 6 : Int32) = 6 from rfl)]
    exact q_mOne (Or.inr rfl) hO hP hw hw2 hT h0 rfl (q_cntZ (lo := 1) (hi := 99) h hT hB ha (by omega) (by omega))
  by_cases k5 : ki = 5
  · subst k5
    rw [if_neg (show ¬ (nI 5 : Int32) = 0 by decide), if_neg (show ¬ (nI 5 : Int32) = 6 by decide), if_pos (show (nI 5 : Int32) = 5 from rfl)]
    have g := q_mTst hO hP hw hw2 h hT hB ha
    have ep : pStp T n x y 5 t = pTst T n x y t := rfl
    rw [ep]
    cases hp : pTst T n x y t with
    | error er =>
      rw [hp] at g
      obtain ⟨M1, a1, a2, a3⟩ := g
      exact ⟨M1, by rw [a1]; exact hl M1 (by omega), a2, a3⟩
    | ok q =>
      rw [hp] at g
      obtain ⟨M1, a1, a2, a3, a4, a5, a6, a7, a8, a9, a10⟩ := g
      exact ⟨M1, by rw [a1]; exact hl M1 (by omega), a2, a3, a4, a5, useG_mk (by omega) a10 (a6.trans h0) (fun _ _ => a7) (fun e => by omega) (fun _ => ⟨a8, a9⟩)⟩
  by_cases k4 : 4 ≤ ki
  · rw [if_neg (show ¬ nI ki = (0 : Int32) from n0i (j := 0) k0 (by omega) (by decide)), if_neg (show ¬ nI ki = (6 : Int32) from n0i (j := 6) k6 (by omega) (by decide)), if_neg (show ¬ nI ki = (5 : Int32) from n0i (j := 5) k5 (by omega) (by decide)), if_pos (show (4 : Int32) ≤ nI ki from nI_le (a := 4) k4 (by omega))]
    have ep : ∃ o, pStp T n x y ki t = .ok ((0, 0, 0, 0), (o, 0, 0), t) := by
      by_cases e4 : ki = 4
      · subst e4; exact ⟨18, rfl⟩
      · obtain rfl : ki = 7 := by omega
        exact ⟨25, rfl⟩
    obtain ⟨o, ep⟩ := ep
    rw [ep]
    exact ⟨M, hl M (by omega), hT, hB, h, FrZs.rf, useG_mk hki (show (0 : Nat) < 3 by decide) h0 (fun e1 e2 => by omega) (fun e => by omega) (fun e => by omega)⟩
  · rw [if_neg (show ¬ nI ki = (0 : Int32) from n0i (j := 0) k0 (by omega) (by decide)), if_neg (show ¬ nI ki = (6 : Int32) from n0i (j := 6) k6 (by omega) (by decide)), if_neg (show ¬ nI ki = (5 : Int32) from n0i (j := 5) k5 (by omega) (by decide)), if_neg (show ¬ (4 : Int32) ≤ nI ki from nI_ge (a := ki) (b := 4) (by omega) (by decide)), show inb (4 : Int32) 3840 = true from rfl, z_gdn, show (4 : Int32).toNatClampNeg = 4 from rfl, e4]
    by_cases k1 : ki = 1
    · subst k1
      exact q_mTwo (W := 2) (Or.inl ⟨rfl, rfl⟩) rfl hO hP hw hw2 h hT hB ha h0
    · have ep : pStp T n x y ki t = pTwo T n ki (cR x) (cW x) t := by
        by_cases k2 : ki = 2
        · subst k2; rfl
        · obtain rfl : ki = 3 := by omega
          rfl
      rw [ep]
      exact q_mTwo (W := cW x) (Or.inr ⟨by omega, rfl⟩) rfl hO hP hw hw2 h hT hB ha h0
end
