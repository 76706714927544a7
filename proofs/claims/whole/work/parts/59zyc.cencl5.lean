/-! ## CENTURIES' text: the class's loop -/
def RsV (s d : Nat) (T : Nat → Nat) (n : Nat) (x : Cl) (y : De) (M : kx_M) (r : Option (Int32 × kx_M)) (w : Except Er Cs) : Prop := match w with
  | .ok c1 => ∃ M', r = some (nI 1, M') ∧ CSt M' s d T n x y c1 ∧ mI M' d 4 = nI 1 ∧ FrC d M M'
  | .error er => ∃ M', r = some (nI 0, M') ∧ ErC 9 M' er ∧ FrC d M M'
section
variable {M M' M1 M2 : kx_M} {T : Nat → Nat} {n d e s : Nat} {t : Tok} {x : Cl} {y : De} {c c1 : Cs} {o a b : Nat}
theorem q_cfail (k : Nat) (hT : TkC M 9 t) (hB : TkB t) : ∃ M', f_Reader_fail 9 (nI k) M = some (nI 0, M') ∧ ErC 9 M' (flt t k) ∧ FrC d M M' := by
  obtain ⟨M', a1, a2, a3⟩ := q_fail (k := k) hT hB
  exact ⟨M', a1, a2, FrC.R a3⟩
theorem isBd_op {ki : Nat} (hki : ki < 8) : isBd ki = (decide (opK ki = 19) || decide (opK ki = 23)) := by
  have : ∀ ki, ki < 8 → isBd ki = (decide (opK ki = 19) || decide (opK ki = 23)) := by decide
  exact this ki hki
theorem opK_lt {ki : Nat} (hki : ki < 8) : opK ki < 26 := by
  have : ∀ ki, ki < 8 → opK ki < 26 := by decide
  exact this ki hki
theorem q_cStep (hs : apC s d) (hO : OkC x) (hP : OkD (cW x) y) (h : CSt M s d T n x y c) (hOk : COk n x y c) (h24 : isK (vvT c) 24 = false) : RsU s d T n x y M (f_CenturyText_readStep s d M) (cBody T n x y c) := by
  obtain ⟨-, k1, k2, k3, ha⟩ := hOk
  have hh := h
  obtain ⟨⟨hX, ⟨s1, s2, s3⟩, hOp, h8⟩, hT, hB⟩ := hh
  have hbeg := q_begins hT hB
  have b0 : b01 (nI 0) = true := by decide
  have d8 : ¬ d = 8 := by unfold apC at hs; omega
  rw [f_CenturyText_readStep, z_bd]
  cases hk : stK (vvT c) with
  | none =>
    have ep : cBody T n x y c = .error (flt (vvT c) 2) := by unfold cBody; rw [h24, z_itf, hk]
    rw [ep]
    rw [hk] at hbeg
    have hbeg : f_CenturyText_beginsStep (mI M 9 6) M = some (nI 0, M) := hbeg
    obtain ⟨Mf, f1, f2, f3⟩ := q_cfail (d := d) 2 hT hB
    refine ⟨Mf, ?_, f2, f3⟩
    simp (disch := first | assumption | omega) only [z_bdn, z_caln, z_gdn, z_iT, z_iF, z_le_t, z_le_f, z_lt_t, z_lt_f, z_cl, z_inb, z_at, z_pl, z_lit, nI_ii1, nI_add, z_mr, z_ref0, z_refn, z_eq_f, Bool.not_true, Bool.not_false, b2i_t, b2i_f, hbeg, f1, b0]
  | some ki =>
    have hki := stK_lt8 hk
    rw [hk] at hbeg
    have hbeg : f_CenturyText_beginsStep (mI M 9 6) M = some (nI 1, M) := hbeg
    have e6 := opK_of hT hk
    have hop := opK_lt hki
    rw [e6] at hbeg ⊢
    have ep0 : cBody T n x y c = if 30 ≤ vvK c then .error (flt (vvT c) 6)
      else if isBd ki = true ∧ 3 ≤ (vvS c).length then .error (flt (vvT c) 7)
      else match pStp T n x y ki (nx T n (vvT c)) with
        | .error e => .error e
        | .ok r => .ok (cBeg c ki r r.2.2) := by unfold cBody; rw [h24, z_itf, hk]; rfl
    by_cases h30 : 30 ≤ vvK c
    · rw [ep0, if_pos h30]
      obtain ⟨Mf, f1, f2, f3⟩ := q_cfail (d := d) 6 hT hB
      refine ⟨Mf, ?_, f2, f3⟩
      simp (disch := first | assumption | omega) only [z_bdn, z_caln, z_gdn, z_iT, z_iF, z_le_t, z_le_f, z_lt_t, z_lt_f, z_cl, z_inb, z_at, z_pl, z_lit, nI_ii1, nI_add, z_mr, z_ref0, z_refn, z_eq_f, Bool.not_true, Bool.not_false, b2i_t, b2i_f, hbeg, s1, f1, b0]
    · rw [ep0, if_neg h30]
      have hi := isBd_op hki
      have toL : ∀ R, f_CenturyText_readStep_l60 s d (nI (opK ki)) (b2i (isBd ki)) M = R → (cal (f_CenturyText_beginsStep (nI (opK ki)) M) fun r2 M1 =>
        if r2 = 0 then (cal (f_Reader_fail 9 (2 : Int32) M1) fun r4 M2 => gd (b01 r4) <| some (r4, M2))
        else (if (mI M1 d 5) < (30 : Int32) then (
            if nI (opK ki) = (19 : Int32) then (f_CenturyText_readStep_l60 s d (nI (opK ki)) (1 : Int32) M1)
            else (if nI (opK ki) = (23 : Int32) then (f_CenturyText_readStep_l60 s d (nI (opK ki)) (1 : Int32) M1)
              else (f_CenturyText_readStep_l60 s d (nI (opK ki)) (0 : Int32) M1)))
          else (cal (f_Reader_fail 9 (6 : Int32) M1) fun r7 M3 => gd (b01 r7) <| some (r7, M3)))) = R := by
        intro R hR
        rw [hi] at hR
        by_cases h19 : opK ki = 19
        · have z : (nI (opK ki) = nI 19) = True := eq_true (by rw [h19])
          rw [decide_eq_true h19, Bool.true_or] at hR
          simp (disch := first | assumption | omega) only [z_bdn, z_caln, z_gdn, z_iT, z_iF, z_le_t, z_le_f, z_lt_t, z_lt_f, z_cl, z_inb, z_at, z_pl, z_lit, nI_ii1, nI_add, z_mr, z_ref0, z_refn, z_eq_f, Bool.not_true, Bool.not_false, b2i_t, b2i_f, hbeg, s1, z]
          exact hR
        · have z : (nI (opK ki) = nI 19) = False := z_kn h19 (by omega) (by omega)
          rw [decide_eq_false h19, Bool.false_or] at hR
          by_cases h23 : opK ki = 23
          · have z2 : (nI (opK ki) = nI 23) = True := eq_true (by rw [h23])
            rw [decide_eq_true h23] at hR
            simp (disch := first | assumption | omega) only [z_bdn, z_caln, z_gdn, z_iT, z_iF, z_le_t, z_le_f, z_lt_t, z_lt_f, z_cl, z_inb, z_at, z_pl, z_lit, nI_ii1, nI_add, z_mr, z_ref0, z_refn, z_eq_f, Bool.not_true, Bool.not_false, b2i_t, b2i_f, hbeg, s1, z, z2]
            exact hR
          · have z2 : (nI (opK ki) = nI 23) = False := z_kn h23 (by omega) (by omega)
            rw [decide_eq_false h23] at hR
            simp (disch := first | assumption | omega) only [z_bdn, z_caln, z_gdn, z_iT, z_iF, z_le_t, z_le_f, z_lt_t, z_lt_f, z_cl, z_inb, z_at, z_pl, z_lit, nI_ii1, nI_add, z_mr, z_ref0, z_refn, z_eq_f, Bool.not_true, Bool.not_false, b2i_t, b2i_f, hbeg, s1, z, z2]
            exact hR
      rw [toL _ rfl, f_CenturyText_readStep_l60]
      by_cases h3 : isBd ki = true ∧ 3 ≤ (vvS c).length
      · rw [if_pos h3]
        obtain ⟨Mf, f1, f2, f3⟩ := q_cfail (d := d) 7 hT hB
        obtain ⟨g1, g2⟩ := h3
        refine ⟨Mf, ?_, f2, f3⟩
        rw [g1]
        simp (disch := first | assumption | omega) only [z_bdn, z_caln, z_gdn, z_iT, z_iF, z_le_t, z_le_f, z_lt_t, z_lt_f, z_cl, z_inb, z_at, z_pl, z_lit, nI_ii1, nI_add, z_mr, z_ref0, z_refn, z_eq_f, Bool.not_true, Bool.not_false, b2i_t, b2i_f, h8, f1, b0]
      · rw [if_neg h3]
        have hl : isBd ki = true → (vvS c).length < 3 := fun e => by
          by_cases h5 : 3 ≤ (vvS c).length
          · exact absurd ⟨e, h5⟩ h3
          · omega
        have g := q_cl85 hki hs hO hP h (by omega) (by omega) hl ha
        cases hb : isBd ki with
        | false =>
          rw [hb] at g
          rw [show (b2i false : Int32) = nI 0 from rfl] at g ⊢
          rw [if_pos (show (nI 0 : Int32) = 0 from rfl)]
          exact g
        | true =>
          have hl3 := hl hb
          rw [hb] at g
          rw [show (b2i true : Int32) = nI 1 from rfl] at g ⊢
          rw [if_neg (show ¬ (nI 1 : Int32) = 0 by decide), h8, if_pos (show nI (vvS c).length < (3 : Int32) from nI_lt hl3 (by decide))]
          exact g
theorem q_cBodyE (hs : apC s d) (h : CSt M s d T n x y c) (hOk : COk n x y c) (h24 : isK (vvT c) 24 = true) : RsU s d T n x y M (f_CenturyText_readEnd d M) (cBody T n x y c) := by
  obtain ⟨hL, k1, k2, k3, ha⟩ := hOk
  have hh := h
  obtain ⟨⟨hX, ⟨s1, s2, s3⟩, hOp, h8⟩, hT, hB⟩ := hh
  have b0 : b01 (nI 0) = true := by decide
  cases hS : vvS c with
  | nil =>
    have ep : cBody T n x y c = .error (flt (vvT c) 2) := by unfold cBody; rw [h24, z_itt, hS]
    rw [ep]
    rw [hS] at h8
    have h8 : mI M 8 2 = nI 0 := h8
    obtain ⟨Mf, f1, f2, f3⟩ := q_cfail (d := d) 2 hT hB
    refine ⟨Mf, ?_, f2, f3⟩
    rw [f_CenturyText_readEnd]
    simp (disch := first | assumption | omega) only [z_bdn, z_caln, z_gdn, z_iT, z_iF, z_le_t, z_le_f, z_lt_t, z_lt_f, z_cl, z_inb, z_at, z_pl, z_lit, nI_ii1, nI_add, z_mr, z_ref0, z_refn, z_eq_f, Bool.not_true, Bool.not_false, b2i_t, b2i_f, h8, f1, b0]
  | cons q L =>
    have ep : cBody T n x y c = .ok (cEnd c q.1 q.2 (nx T n (vvT c)) L) := by unfold cBody; rw [h24, z_itt, hS]
    rw [ep]
    unfold LvC at hL
    rw [hS] at hL k2 k3
    have k2 : vvE c + (L.length + 1) ≤ 2 * vvK c := k2
    have k3 : L.length + 1 ≤ 3 := k3
    exact q_cEnd hs h hS hL.2.2.1 (by omega) (by omega) ha
/-- the sign behind -/
theorem q_cl66 {r : Option (Int32 × kx_M)} {K : Int32 → kx_M → Option (Int32 × kx_M)} {p2 : Int32} {i : Nat} (hs : apC s d) (hT : TkO n (vvT c)) (hg : RsU s d T n x y M r (cBody T n x y c)) : match cTurn T n x y c with
    | .ok c1 => ∃ M', (cal r fun r1 M1 => f_CenturyText_parse_l66 2 p2 s d K (nI i) r1 M1) = K (nI (i + 1)) M' ∧ CSt M' s d T n x y c1 ∧ FrC d M M'
    | .error er => ∃ M', (cal r fun r1 M1 => f_CenturyText_parse_l66 2 p2 s d K (nI i) r1 M1) = some (nI 0, M') ∧ ErC 9 M' er ∧ FrC d M M' := by
  rw [cTurn_b]
  cases hb : cBody T n x y c with
  | error er =>
    rw [hb] at hg
    obtain ⟨M1, a1, a2, a3⟩ := hg
    refine ⟨M1, ?_, a2, a3⟩
    simp (disch := first | assumption | omega) only [z_bdn, z_caln, z_gdn, z_iT, z_iF, z_le_t, z_le_f, z_lt_t, z_lt_f, z_cl, z_inb, z_at, z_pl, z_lit, nI_ii1, nI_add, z_mr, z_ref0, z_refn, z_eq_f, Bool.not_true, Bool.not_false, b2i_t, b2i_f, a1, f_CenturyText_parse_l66]
  | ok c1 =>
    rw [hb] at hg
    obtain ⟨M1, a1, ⟨⟨hX, hSp, hOp, h8⟩, b2, b3⟩, a3⟩ := hg
    have ha : kA (vvT c1) ≤ n := by
      unfold cBody at hb
      obtain ⟨g1, -⟩ := TkO_nx (T := T) hT
      split at hb
      · split at hb
        · cases hb
        · cases hb; exact g1.2.1
      · split at hb
        · cases hb
        · split at hb
          · cases hb
          · split at hb
            · cases hb
            · split at hb
              · cases hb
              · rename_i r hr
                cases hb; exact (pStp_mo g1 hr).1.2.1
    have hsg := q_takeSign (c := 59) (by omega) hX.1 b2 b3 ha (by omega)
    show (match (match pSig T n 59 (vvT c1) with | Except.error e => (Except.error e : Except Er Cs) | Except.ok t => Except.ok (t, c1.2)) with | Except.ok c1 => _ | Except.error er => _)
    cases hq : pSig T n 59 (vvT c1) with
    | error er =>
      rw [hq] at hsg
      obtain ⟨M2, c1, c2, c3⟩ := hsg
      refine ⟨M2, ?_, c2, a3.tr (FrC.R c3)⟩
      simp (disch := first | assumption | omega) only [z_bdn, z_caln, z_gdn, z_iT, z_iF, z_le_t, z_le_f, z_lt_t, z_lt_f, z_cl, z_inb, z_at, z_pl, z_lit, nI_ii1, nI_add, z_mr, z_ref0, z_refn, z_eq_f, Bool.not_true, Bool.not_false, b2i_t, b2i_f, a1, f_CenturyText_parse_l66, c1]
    | ok t1 =>
      rw [hq] at hsg
      obtain ⟨M2, c1, c2, c3, c4⟩ := hsg
      have c5 : TkB t1 := by rw [c4]; exact TkB_x hX.1 ha
      obtain ⟨p1, p2, p3⟩ := hSp
      have g0 := c3.1 d (by unfold apC at hs; omega)
      refine ⟨M2, ?_, ⟨⟨CCx_C hs hX (FrC.R c3), ⟨(g0.1 5).trans p1, (g0.1 6).trans p2, fun i hi => ?_⟩, OpC_fr (fun i hi => ?_) hOp, ?_⟩, c2, c5⟩, a3.tr (FrC.R c3)⟩
      · simp (disch := first | assumption | omega) only [z_bdn, z_caln, z_gdn, z_iT, z_iF, z_le_t, z_le_f, z_lt_t, z_lt_f, z_cl, z_inb, z_at, z_pl, z_lit, nI_ii1, nI_add, z_mr, z_ref0, z_refn, z_eq_f, Bool.not_true, Bool.not_false, b2i_t, b2i_f, a1, f_CenturyText_parse_l66, c1]
      · rw [(c3.1 (d + 1) (by unfold apC at hs; omega)).2.2.1, (c3.1 (d + 2) (by unfold apC at hs; omega)).2.2.1, (c3.1 (d + 3) (by unfold apC at hs; omega)).2.2.1, (c3.1 (d + 4) (by unfold apC at hs; omega)).2.2.1]
        exact p3 i hi
      · rw [(c3.1 12 (by omega)).2.2.1]
      · exact ((c3.1 8 (by omega)).1 2).trans h8
theorem q_cparse_l22 (hs : apC s d) (hO : OkC x) (hP : OkD (cW x) y) (hn : n ≤ 900) : ∀ (m f i : Nat) (c : Cs) (M : kx_M), i + m = 1000 → m < f → i ≤ kP (vvT c) → TkO n (vvT c) → CSt M s d T n x y c → COk n x y c → RsV s d T n x y M (f_CenturyText_parse_l22 2 (nI n) s d f (nI i) M) (cAll T n x y m c) := by
  intro m
  induction m with
  | zero =>
    intro f i c M hi hf hip hTO h hOk
    have h1 := hTO.1
    have h2 := hTO.2.1
    omega
  | succ m ih =>
    intro f i c M hi hf hip hTO h hOk
    obtain ⟨f, rfl, hf⟩ := z_succ hf
    have h1 := hTO.1
    have h2 := hTO.2.1
    have hh := h
    obtain ⟨⟨hX, hSp, hOp, h8⟩, hT, hB⟩ := hh
    have e5 := hT.2.2.1
    have hs4 := hB.1
    have hl3 := hOk.2.2.2.1
    have b0 : b01 (nI 0) = true := by decide
    unfold cAll
    rw [f_CenturyText_parse_l22]
    by_cases h0 : kS (vvT c) = 0
    · simp only [if_pos h0]
      have z : (nI (kS (vvT c)) = nI 0) = True := eq_true (by rw [h0])
      by_cases hS : vvS c = []
      · rw [if_pos hS]
        have h80 : mI M 8 2 = nI 0 := by rw [h8, hS]; rfl
        have hF : Fr (fun id => id = 8 ∨ id = 12 ∨ (d ≤ id ∧ id ≤ d + 4)) M (sI M d 4 (nI 1)) := Fr.sI (by omega)
        have hd : 27 ≤ d := by unfold apC at hs; omega
        obtain ⟨p1, p2, p3⟩ := hSp
        refine ⟨sI M d 4 (nI 1), ?_, ⟨⟨CCx_C hs hX (FrC.S hd hF), ⟨by rw [m_same]; exact p1, by rw [m_same]; exact p2, p3⟩, OpC_fr (M := M) (fun i hi => rfl) hOp, by rw [mI_sI, if_neg (by omega)]; exact h8⟩, TkC_8 hd hT hF, hB⟩, by rw [m_same]; rfl, FrC.S hd hF⟩
        simp (disch := first | assumption | omega) only [z_bdn, z_caln, z_gdn, z_iT, z_iF, z_le_t, z_le_f, z_lt_t, z_lt_f, z_cl, z_inb, z_at, z_pl, z_lit, nI_ii1, nI_add, z_mr, z_ref0, z_refn, z_eq_f, Bool.not_true, Bool.not_false, b2i_t, b2i_f, e5, z, f_CenturyText_parse_l93, h80]
      · rw [if_neg hS]
        obtain ⟨Mf, f1, f2, f3⟩ := q_cfail (d := d) 2 hT hB
        refine ⟨Mf, ?_, f2, f3⟩
        have hl0 : 0 < (vvS c).length := Nat.pos_of_ne_zero (fun e => hS (List.length_eq_zero_iff.mp e))
        simp (disch := first | assumption | omega) only [z_bdn, z_caln, z_gdn, z_iT, z_iF, z_le_t, z_le_f, z_lt_t, z_lt_f, z_cl, z_inb, z_at, z_pl, z_lit, nI_ii1, nI_add, z_mr, z_ref0, z_refn, z_eq_f, Bool.not_true, Bool.not_false, b2i_t, b2i_f, e5, z, f_CenturyText_parse_l93, h8, f1, b0]
    · simp only [if_neg h0]
      have z : (nI (kS (vvT c)) = nI 0) = False := z_eq_f h0 (by omega) (by omega)
      have z24 := z_key (k := 24) hT hB (by omega)
      have g : ∃ r, (∀ R, (cal r fun r1 M1 => f_CenturyText_parse_l66 2 (nI n) s d (f_CenturyText_parse_l22 2 (nI n) s d f) (nI i) r1 M1) = R → (if nI n < nI i then f_CenturyText_parse_l93 2 (nI n) s d M else if mI M 9 5 = 0 then f_CenturyText_parse_l93 2 (nI n) s d M else if mI M 9 6 = (24 : Int32) then (cal (f_CenturyText_readEnd d M) fun r1 M1 => f_CenturyText_parse_l66 2 (nI n) s d (f_CenturyText_parse_l22 2 (nI n) s d f) (nI i) r1 M1) else (cal (f_CenturyText_readStep s d M) fun r3 M2 => f_CenturyText_parse_l66 2 (nI n) s d (f_CenturyText_parse_l22 2 (nI n) s d f) (nI i) r3 M2)) = R) ∧ RsU s d T n x y M r (cBody T n x y c) := by
        cases h24 : isK (vvT c) 24 with
        | true =>
          rw [eq_true h24] at z24
          refine ⟨_, fun R hR => ?_, q_cBodyE hs h hOk h24⟩
          rw [← hR]
          simp (disch := first | assumption | omega) only [z_bdn, z_caln, z_gdn, z_iT, z_iF, z_le_t, z_le_f, z_lt_t, z_lt_f, z_cl, z_inb, z_at, z_pl, z_lit, nI_ii1, nI_add, z_mr, z_ref0, z_refn, z_eq_f, Bool.not_true, Bool.not_false, b2i_t, b2i_f, e5, z, z24]
        | false =>
          rw [eq_false (Bool.eq_false_iff.mp h24)] at z24
          refine ⟨_, fun R hR => ?_, q_cStep hs hO hP h hOk h24⟩
          rw [← hR]
          simp (disch := first | assumption | omega) only [z_bdn, z_caln, z_gdn, z_iT, z_iF, z_le_t, z_le_f, z_lt_t, z_lt_f, z_cl, z_inb, z_at, z_pl, z_lit, nI_ii1, nI_add, z_mr, z_ref0, z_refn, z_eq_f, Bool.not_true, Bool.not_false, b2i_t, b2i_f, e5, z, z24]
      obtain ⟨r, toR, hg⟩ := g
      have g := q_cl66 (K := f_CenturyText_parse_l22 2 (nI n) s d f) (p2 := nI n) (i := i) hs hTO hg
      cases hp : cTurn T n x y c with
      | error e =>
        rw [hp] at g
        obtain ⟨M1, a1, a2, a3⟩ := g
        exact ⟨M1, toR _ a1, a2, a3⟩
      | ok c1 =>
        rw [hp] at g
        obtain ⟨M1, a1, a2, a3⟩ := g
        obtain ⟨k1, k2⟩ := cTurn_mo hTO h0 hp
        have g2 := ih f (i + 1) c1 M1 (by omega) (by omega) (by omega) k1 a2 (cTurn_ok hO hP hOk hTO hp)
        show RsV s d T n x y M _ (cAll T n x y m c1)
        cases hr : cAll T n x y m c1 with
        | error e =>
          rw [hr] at g2
          obtain ⟨M2, b1, b2, b3⟩ := g2
          exact ⟨M2, toR _ (a1.trans b1), b2, a3.tr b3⟩
        | ok c2 =>
          rw [hr] at g2
          obtain ⟨M2, b1, b2, b3, b4⟩ := g2
          exact ⟨M2, toR _ (a1.trans b1), b2, b3, a3.tr b4⟩
theorem q_cparse (hs : apC s d) (hO : OkC x) (hP : OkD (cW x) y) (hC : CC M (s + 9) x) (hD : CD M (s + 1) y) (hn : n ≤ 900) (hT : ∀ i, i < n → mA M 2 i = nI (T i) ∧ T i ≤ 255) (hk : ∀ k, k < 26 → mB M 10 k = knownL.getD k 0) : match pCen T n x y with
    | .ok c => ∃ M', f_CenturyText_parse 2 (nI n) s d M = some (nI 1, M') ∧ CSt M' s d T n x y c ∧ mI M' d 4 = nI 1 ∧ Fr (inCc d) M M'
    | .error e => ∃ M', f_CenturyText_parse 2 (nI n) s d M = some (nI 0, M') ∧ ErC 9 M' e ∧ Fr (inCc d) M M' := by
  have hd : 27 ≤ d := by unfold apC at hs; omega
  obtain ⟨M1, hM1⟩ : ∃ M1, M1 = sI (sI (sI (sI M d 4 (nI 0)) d 5 (nI 0)) d 6 (nI 0)) 8 2 (nI 0) := ⟨_, rfl⟩
  obtain ⟨M2, hM⟩ : ∃ M2, M2 = sI (sI (sI (sI (sR M1 9 1 2) 9 2 (nI n)) 9 3 (nI 0)) 9 10 (nI 0)) 9 11 (-nI 1) := ⟨_, rfl⟩
  have hF1 : Fr (fun id => id = 8 ∨ id = d) M M1 := by
    rw [hM1]
    exact Fr.tr (Fr.sI (Or.inr rfl)) (Fr.tr (Fr.sI (Or.inr rfl)) (Fr.tr (Fr.sI (Or.inr rfl)) (Fr.sI (Or.inl rfl))))
  have hF2 : Fr (fun id => id = 9) M1 M2 := by
    rw [hM]
    exact Fr.tr (Fr.sR rfl) (Fr.tr (Fr.sI rfl) (Fr.tr (Fr.sI rfl) (Fr.tr (Fr.sI rfl) (Fr.sI rfl))))
  have hF : Fr (inCc d) M M2 := (hF1.mono (fun id e => by unfold inCc; omega)).tr (hF2.mono (fun id e => Or.inr (Or.inl e)))
  have hX : TxC M2 9 T n := by
    refine ⟨by rw [hM]; rfl, by rw [hM]; rfl, hn, fun i hi => ?_, fun k hk2 => ?_⟩
    · rw [(hF 2 (fun e => by unfold inCc at e; omega)).2.2.1]; exact hT i hi
    · rw [(hF (9 + 1) (fun e => by unfold inCc at e; omega)).2.2.2.1]; exact hk k hk2
  have e3 : mI M2 9 3 = nI 0 := by rw [hM]; rfl
  have hX2 : CCx M2 s T n x y := ⟨hX, CC_fr hF (fun id h1 h2 e => by unfold inCc at e; unfold apC at hs; omega) hC, CD_fr hF (fun id h1 h2 e => by unfold inCc at e; unfold apC at hs; omega) hD⟩
  obtain ⟨M3, b1, b2, b3⟩ := q_next (by omega) hX (Nat.zero_le n) e3
  have hX3 := CCx_C hs hX2 (FrC.R b3)
  have f3 : ∀ k, mI M3 d k = mI M1 d k := fun k => ((b3.1 d (by omega)).1 k).trans ((hF2 d (by omega)).1 k)
  have hC3 : CSt M3 s d T n x y (c00 T n) := by
    refine ⟨⟨hX3, ⟨?_, ?_, fun i hi => absurd hi (Nat.not_lt_zero _)⟩, True.intro, ?_⟩, b2, TkB_nxt (Nat.zero_le n) hn (fun i hi => (hT i hi).2)⟩
    · rw [f3, hM1, mI_sI, if_neg (by omega), m_same, m_same]; rfl
    · rw [f3, hM1, mI_sI, if_neg (by omega), m_same]; rfl
    · rw [(b3.1 8 (by omega)).1, (hF2 8 (by omega)).1, hM1, m_same]; rfl
  have eO : f_Reader_open 9 2 (nI n) M1 = some ((), M3) := by
    have e1 : aLk 1 2 = true := rfl
    have e2 : Int32.ofNat (aLn 2) = nI 900 := rfl
    rw [f_Reader_open, e1, e2]
    simp (disch := first | assumption | omega) only [z_bdn, z_caln, z_gdn, z_iT, z_iF, z_le_t, z_le_f, z_lt_t, z_lt_f, z_cl, z_inb, z_at, z_pl, z_lit, nI_ii1, nI_add, z_mr, z_ref0, z_refn, z_eq_f, Bool.not_true, Bool.not_false, b2i_t, b2i_f, ← hM, b1]
  have hTO : TkO n (vvT (c00 T n)) := by
    obtain ⟨c1, c2, c3, c4, c5, -, -⟩ := nxt_bd (T := T) (Nat.zero_le n)
    exact ⟨c4, c2, c5⟩
  have g := q_cparse_l22 hs hO hP hn 1000 FU 0 (c00 T n) M3 (by omega) (FU_lt (by omega)) (Nat.zero_le _) hTO hC3 COk_00
  have toR : ∀ R, f_CenturyText_parse_l22 2 (nI n) s d FU (nI 0) M3 = R → f_CenturyText_parse 2 (nI n) s d M = R := by
    intro R hR
    rw [f_CenturyText_parse]
    simp (disch := first | assumption | omega) only [z_bdn, z_caln, z_gdn, z_iT, z_iF, z_le_t, z_le_f, z_lt_t, z_lt_f, z_cl, z_inb, z_at, z_pl, z_lit, nI_ii1, nI_add, z_mr, z_ref0, z_refn, z_eq_f, Bool.not_true, Bool.not_false, b2i_t, b2i_f, f_Script_clear, ← hM1, eO]
    exact hR
  have up : ∀ M4, FrC d M3 M4 → Fr (inCc d) M M4 := fun M4 h => hF.tr ((b3.1.mono (fun id e => Or.inr (Or.inl e))).tr h.1)
  unfold pCen
  cases hr : cAll T n x y 1000 (c00 T n) with
  | error e =>
    rw [hr] at g
    obtain ⟨M4, c1, c2, c3⟩ := g
    exact ⟨M4, toR _ c1, c2, up _ c3⟩
  | ok c =>
    rw [hr] at g
    obtain ⟨M4, c1, c2, c3, c4⟩ := g
    exact ⟨M4, toR _ c1, c2, c3, up _ c4⟩
end
