/-! ## a TREATY's text: the reference's queens and clauses -/
section
variable {M M' M1 : kx_M} {T : Nat → Nat} {n : Nat} {t : Tok} {x : Cl} {y : De} {a b : Bool} {s : Ps} {e : Er}
theorem hM_B {p : Nat} {v : Int64} {q : Nat} : hM (sB M 143 (vp_updL (mB M 143) (40 + p) v)) q = if q = p then v else hM M q := by
  unfold hM
  rw [mB_sB, if_pos rfl]
  show (if 40 + q = 40 + p then v else mB M 143 (40 + q)) = _
  by_cases h : q = p
  · rw [if_pos (by omega), if_pos h]
  · rw [if_neg (by omega), if_neg h]
theorem PMg_h {W : Nat} {g : Nat → Int32} {h h' : Nat → Int64} (hP : OkD W y) (hD : PMg g h y) (hh : ∀ q, (q < dQ y ∨ (4 ≤ q ∧ q < 4 + dC y)) → h' q = h q) : PMg g h' y := by
  obtain ⟨h1, h2, h3, h4, h5, h6, h7⟩ := hD
  exact ⟨h1, h2, fun q hq => ⟨(h3 q hq).1, (hh q (Or.inl hq)).trans (h3 q hq).2⟩, fun k hk => ⟨(hh (4 + k) (Or.inr (by omega))).trans (h4 k hk).1, (h4 k hk).2⟩, h5, h6, h7⟩
theorem FrT_h (h : FrT M M') : hM M' = hM M := by
  funext q
  exact congrFun (h.1 143 (by decide)).2.2.2.1 _
theorem FrT_g (h : FrT M M') : gM M' = gM M := by
  funext q
  exact congrFun (h.1 140 (by decide)).2.2.1 _
def cntV (y : De) (v : Nat) : Nat := if v = 0 then dQ y else dC y
theorem q_readNew {W v : Nat} {mo : Nat} (hv : v < 2) (hm : mo = 4 + 2 * v) (hP : OkD W y) (h : MBk M T n x y a b) (hT : TkM M t) (hB : TkB t) (ha : kA t ≤ n) (hk2 : kS t = 2) : match (if mo ≤ cntV y v then Except.error (flt t 6) else pNew y (nx T n t)) with
    | .ok _ => ∃ M', f_RM_readNew (nI v) (nI mo) M = some (nI (cntV y v), M') ∧ TkM M' (nx T n (nx T n t)) ∧ TkB (nx T n (nx T n t)) ∧ MBk M' T n x y a b ∧ hM M' (4 * v + cntV y v) = bJ (kW (nx T n t)) ∧ FrX M M'
    | .error e => ∃ M', f_RM_readNew (nI v) (nI mo) M = some (nI 0, M') ∧ Bd M' e ∧ FrX M M' := by
  have h12 := h.2.1
  have h15 := hT.2.1
  have p1 := hP.1
  have p2 := hP.2.1
  have hcv : (v = 0 ∧ cntV y v = dQ y) ∨ (v = 1 ∧ cntV y v = dC y) := by
    unfold cntV
    by_cases h0 : v = 0
    · exact Or.inl ⟨h0, if_pos h0⟩
    · exact Or.inr ⟨by omega, if_neg h0⟩
  have hc : cntV y v ≤ mo := by omega
  have ec : mA M 140 (3074 + v) = nI (cntV y v) := by
    unfold cntV
    by_cases h0 : v = 0
    · subst h0; exact h.2.2.2.1.1
    · obtain rfl : v = 1 := by omega
      exact h.2.2.2.1.2.1
  by_cases h0 : mo ≤ cntV y v
  · rw [if_pos h0]
    obtain ⟨Mf, f1, f2, f3⟩ := q_failM (k := 6) (p := kP t) h12 (by omega)
    have zl := b_le f2
    have e0 : cntV y v = mo := by omega
    show ∃ M', _ ∧ Bd M' (flt t 6) ∧ _
    rw [flt_ne (by omega)]
    refine ⟨Mf, ?_, f2, f3⟩
    rw [e0] at ec
    have g1 : f_RM_readNew_l26 (nI v) (nI mo) (nI mo) Mf = some (nI 0, Mf) := by
      rw [f_RM_readNew_l26]
      simp (disch := first | assumption | omega) only [z_bdn, z_caln, z_gdn, z_iT, z_iF, z_le_t, z_le_f, z_lt_t, z_lt_f, z_cl, z_inb, z_at, z_pl, z_lit, nI_ii1, nI_add, nI_mul, z_eq_f, z_refuse, z_no, z_M00, b2i_t, b2i_f, zl]
    rw [f_RM_readNew]
    simp (disch := first | assumption | omega) only [z_bdn, z_caln, z_gdn, z_iT, z_iF, z_le_t, z_le_f, z_lt_t, z_lt_f, z_cl, z_inb, z_at, z_pl, z_lit, nI_ii1, nI_add, nI_mul, z_eq_f, z_refuse, z_no, z_M00, b2i_t, b2i_f, ec, h15, f1, g1, eq_self]
  · rw [if_neg h0]
    obtain ⟨M1, a1, a2, a3, a4, a5⟩ := q_ad h hT ha
    have eN := q_isName a2
    have h12b := a4.2.1
    have h15b := a2.2.1
    have toM : ∀ R, f_RM_readNew_l26 (nI v) (nI mo) (nI (cntV y v)) M = R → f_RM_readNew (nI v) (nI mo) M = R := by
      intro R hR
      rw [f_RM_readNew]
      simp (disch := first | assumption | omega) only [z_bdn, z_caln, z_gdn, z_iT, z_iF, z_le_t, z_le_f, z_lt_t, z_lt_f, z_cl, z_inb, z_at, z_pl, z_lit, nI_ii1, nI_add, nI_mul, z_eq_f, z_refuse, z_no, z_M00, b2i_t, b2i_f, ec]
      exact hR
    unfold pNew
    by_cases hk : isK (nx T n t) 26 = true
    · rw [if_pos hk]
      rw [hk] at eN
      have toL : ∀ R, f_RM_readNew_l50 (nI v) (nI mo) (nI (cntV y v)) M1 = R → f_RM_readNew (nI v) (nI mo) M = R := by
        intro R hR
        refine toM R ?_
        rw [f_RM_readNew_l26]
        simp (disch := first | assumption | omega) only [z_bdn, z_caln, z_gdn, z_iT, z_iF, z_le_t, z_le_f, z_lt_t, z_lt_f, z_cl, z_inb, z_at, z_pl, z_lit, nI_ii1, nI_add, nI_mul, z_eq_f, z_refuse, z_no, z_M00, b2i_t, b2i_f, h12, a1, eN]
        exact hR
      have n1 := q_namQ hP a4 a2 hk
      have n2 := q_namC hP a4 a2 hk
      have n3 := q_failM (k := 3) (p := kP (nx T n t)) h12b (by omega)
      have hne : kS (nx T n t) ≠ 1 := by have := (ik hk).1; omega
      have hw := wM_of a2 hk
      have z1 : (nI 0 ≤ -nI 1) = False := eq_false (by decide)
      have z2 : (-nI 1 < nI 0) = True := eq_true (by decide)
      cases hq : idQ y (kW (nx T n t)) with
      | some i =>
        rw [hq] at n1
        have n1 : f_RM_named (nI 4) (nI 0) M1 = some (nI i, M1) := n1
        have hi := idF_ok hq
        obtain ⟨Mf, f1, f2, f3⟩ := n3
        have zl := b_le f2
        rw [if_pos (show (some i).isSome = true ∨ (idC y (kW (nx T n t))).isSome = true from Or.inl rfl)]
        show ∃ M', _ ∧ Bd M' (flt (nx T n t) 3) ∧ _
        rw [flt_ne hne]
        have g1 : f_RM_readNew_l84 (nI v) (nI mo) (nI (cntV y v)) Mf = some (nI 0, Mf) := by
          rw [f_RM_readNew_l84]
          simp (disch := first | assumption | omega) only [z_bdn, z_caln, z_gdn, z_iT, z_iF, z_le_t, z_le_f, z_lt_t, z_lt_f, z_cl, z_inb, z_at, z_pl, z_lit, nI_ii1, nI_add, nI_mul, z_eq_f, z_refuse, z_no, z_M00, b2i_t, b2i_f, zl]
        refine ⟨Mf, toL _ ?_, f2, (FrX.T a5).tr f3⟩
        rw [f_RM_readNew_l50]
        simp (disch := first | assumption | omega) only [z_bdn, z_caln, z_gdn, z_iT, z_iF, z_le_t, z_le_f, z_lt_t, z_lt_f, z_cl, z_inb, z_at, z_pl, z_lit, nI_ii1, nI_add, nI_mul, z_eq_f, z_refuse, z_no, z_M00, b2i_t, b2i_f, h12b, n1, h15b, f1, g1]
      | none =>
        rw [hq] at n1
        have n1 : f_RM_named (nI 4) (nI 0) M1 = some (-nI 1, M1) := n1
        cases hcc : idC y (kW (nx T n t)) with
        | some i =>
          rw [hcc] at n2
          have n2 : f_RM_named (nI 4) (nI 1) M1 = some (nI i, M1) := n2
          have hi := idF_ok hcc
          obtain ⟨Mf, f1, f2, f3⟩ := n3
          have zl := b_le f2
          rw [if_pos (show (Option.none : Option Nat).isSome = true ∨ (some i).isSome = true from Or.inr rfl)]
          show ∃ M', _ ∧ Bd M' (flt (nx T n t) 3) ∧ _
          rw [flt_ne hne]
          have g1 : f_RM_readNew_l84 (nI v) (nI mo) (nI (cntV y v)) Mf = some (nI 0, Mf) := by
            rw [f_RM_readNew_l84]
            simp (disch := first | assumption | omega) only [z_bdn, z_caln, z_gdn, z_iT, z_iF, z_le_t, z_le_f, z_lt_t, z_lt_f, z_cl, z_inb, z_at, z_pl, z_lit, nI_ii1, nI_add, nI_mul, z_eq_f, z_refuse, z_no, z_M00, b2i_t, b2i_f, zl]
          refine ⟨Mf, toL _ ?_, f2, (FrX.T a5).tr f3⟩
          rw [f_RM_readNew_l50]
          simp (disch := first | assumption | omega) only [z_bdn, z_caln, z_gdn, z_iT, z_iF, z_le_t, z_le_f, z_lt_t, z_lt_f, z_cl, z_inb, z_at, z_pl, z_lit, nI_ii1, nI_add, nI_mul, z_eq_f, z_refuse, z_no, z_M00, b2i_t, b2i_f, h12b, n1, z1, n2, h15b, f1, g1]
        | none =>
          rw [hcc] at n2
          have n2 : f_RM_named (nI 4) (nI 1) M1 = some (-nI 1, M1) := n2
          rw [if_neg (show ¬ ((Option.none : Option Nat).isSome = true ∨ (Option.none : Option Nat).isSome = true) by decide)]
          have hB2 : MBk (sB M1 143 (vp_updL (mB M1 143) (40 + (4 * v + cntV y v)) (bJ (kW (nx T n t))))) T n x y a b := by
            refine ⟨TxM_X a4.1 (FrX.B (by omega)), a4.2.1, a4.2.2.1, ?_, a4.2.2.2.2⟩
            refine PMg_h hP a4.2.2.2.1 (fun q hq => ?_)
            show hM _ q = hM M1 q
            rw [hM_B, if_neg]
            omega
          obtain ⟨M2, b1, b2, b3, b4, b5⟩ := q_ad hB2 (t := nx T n t) a2 (nx_le ha)
          refine ⟨M2, toL _ ?_, b2, b3, b4, ?_, (FrX.T a5).tr ((FrX.B (by omega)).tr (FrX.T b5))⟩
          · have e40 : 40 + 4 * v + cntV y v = 40 + (4 * v + cntV y v) := by omega
            have g1 : f_RM_readNew_l84 (nI v) (nI mo) (nI (cntV y v)) M1 = some (nI (cntV y v), M2) := by
              rw [f_RM_readNew_l84]
              simp (disch := first | assumption | omega) only [z_bdn, z_caln, z_gdn, z_iT, z_iF, z_le_t, z_le_f, z_lt_t, z_lt_f, z_cl, z_inb, z_at, z_pl, z_lit, nI_ii1, nI_add, nI_mul, z_eq_f, z_refuse, z_no, z_M00, b2i_t, b2i_f, h12b, hw, e40, b1]
            rw [f_RM_readNew_l50]
            simp (disch := first | assumption | omega) only [z_bdn, z_caln, z_gdn, z_iT, z_iF, z_le_t, z_le_f, z_lt_t, z_lt_f, z_cl, z_inb, z_at, z_pl, z_lit, nI_ii1, nI_add, nI_mul, z_eq_f, z_refuse, z_no, z_M00, b2i_t, b2i_f, h12b, n1, z1, n2, z2, g1]
          · rw [FrT_h b5, hM_B, if_pos rfl]
    · rw [if_neg hk]
      rw [Bool.eq_false_iff.mpr hk] at eN
      obtain ⟨Mf, f1, f2, f3⟩ := q_amiss h12b a2
      have zl := b_le f2
      have ze := b_eq f2
      have g1 : f_RM_readNew_l84 (nI v) (nI mo) (nI (cntV y v)) Mf = some (nI 0, Mf) := by
        rw [f_RM_readNew_l84]
        simp (disch := first | assumption | omega) only [z_bdn, z_caln, z_gdn, z_iT, z_iF, z_le_t, z_le_f, z_lt_t, z_lt_f, z_cl, z_inb, z_at, z_pl, z_lit, nI_ii1, nI_add, nI_mul, z_eq_f, z_refuse, z_no, z_M00, b2i_t, b2i_f, zl]
      have g2 : f_RM_readNew_l50 (nI v) (nI mo) (nI (cntV y v)) Mf = some (nI 0, Mf) := by
        rw [f_RM_readNew_l50]
        simp (disch := first | assumption | omega) only [z_bdn, z_caln, z_gdn, z_iT, z_iF, z_le_t, z_le_f, z_lt_t, z_lt_f, z_cl, z_inb, z_at, z_pl, z_lit, nI_ii1, nI_add, nI_mul, z_eq_f, z_refuse, z_no, z_M00, b2i_t, b2i_f, ze, g1]
      refine ⟨Mf, toM _ ?_, f2, (FrX.T a5).tr f3⟩
      rw [f_RM_readNew_l26]
      simp (disch := first | assumption | omega) only [z_bdn, z_caln, z_gdn, z_iT, z_iF, z_le_t, z_le_f, z_lt_t, z_lt_f, z_cl, z_inb, z_at, z_pl, z_lit, nI_ii1, nI_add, nI_mul, z_eq_f, z_refuse, z_no, z_M00, b2i_t, b2i_f, h12, a1, eN, f1, g2]
end
