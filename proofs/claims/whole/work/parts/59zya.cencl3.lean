/-! ## CENTURIES' text: the class's tests, steps -/
def opK (ki : Nat) : Nat := if ki < 6 then 14 + ki else if ki = 6 then 23 else 25
section
variable {M M' M1 M2 : kx_M} {T : Nat → Nat} {n d e s : Nat} {t : Tok} {x : Cl} {y : De}
theorem lk_s (hs : s = 27 ∨ s = 47) : kx_lay[s + 1 + 3]? = some (2, 6, []) := by rcases hs with rfl | rfl <;> rfl
theorem q_cNamedC {w : Int64} {W : Nat} (hs : s = 27 ∨ s = 47) (hP : OkD W y) (h : CD M (s + 1) y) : f_Deal_clauseNamed (s + 1) w M = some (oI (idF (dM y) w (dC y) 0), M) := by
  have e := q_indexIn (f := dM y) (w := w) (lk_s hs) (by omega) hP.2.1 (fun i hi => (h.2.2.2.1 i hi).1)
  have e8 := h.2.1
  rw [f_Deal_clauseNamed, e8]
  simp (disch := first | assumption | omega) only [z_bdn, z_caln, z_gdn, z_iT, z_iF, z_le_t, z_le_f, z_lt_t, z_lt_f, z_cl, z_inb, z_at, z_pl, z_lit, nI_ii1, nI_add, z_mr, z_ref0, z_refn, z_eq_f, Bool.not_true, Bool.not_false, b2i_t, b2i_f, e]
theorem w_of9 (hT : TkC M 9 t) (h : isK t 26 = true) : mJ M 9 7 = bJ (kW t) := by
  obtain ⟨h1, h2⟩ := ik h
  exact hT.2.2.2.2.1 h1 (by omega)
theorem q_cSaid {W : Nat} (hs : s = 27 ∨ s = 47) (hP : OkD W y) (hD : CD M (s + 1) y) (hd : 27 ≤ d) (he : e < 60) (hX : TxC M 9 T n) (hT : TkC M 9 t) (hB : TkB t) (ha : kA t ≤ n) (h6 : mI M d 6 = nI e) : RsY d e M (f_CenturyText_readSaid (s + 1) d M) (match pOld (idC y (kW t)) t with | .error er => .error er | .ok a => .ok ((a, 0, 0, 0), (20, a, 0), nx T n t)) := by
  have z := z_key (k := 26) hT hB (by omega)
  have w2 := hP.2.1
  have b0 : b01 (nI 0) = true := by decide
  rw [f_CenturyText_readSaid]
  by_cases hk : isK t 26 = true
  · rw [eq_true hk] at z
    have eN := q_cNamedC (w := bJ (kW t)) hs hP hD
    have ew := w_of9 hT hk
    cases hi : idC y (kW t) with
    | some k =>
      have hlt := (idF_ok hi).2.1
      have eN : f_Deal_clauseNamed (s + 1) (bJ (kW t)) M = some (oI (idC y (kW t)), M) := eN
      rw [hi] at eN
      have eN : f_Deal_clauseNamed (s + 1) (bJ (kW t)) M = some (nI k, M) := eN
      have zn : (nI k = -nI 1) = False := z_nneg (by omega)
      have ep : pOld (some k) t = .ok k := by unfold pOld; rw [if_pos hk]
      rw [ep]
      obtain ⟨M1, M2, b1, b2, b3, b4, b5, b6⟩ := q_cTail 20 k 0 hd he hX hT ha h6
      refine ⟨M2, ?_, b3, b4, b5, b6⟩
      simp (disch := first | assumption | omega) only [z_bdn, z_caln, z_gdn, z_iT, z_iF, z_le_t, z_le_f, z_lt_t, z_lt_f, z_cl, z_inb, z_at, z_pl, z_lit, nI_ii1, nI_add, z_mr, z_ref0, z_refn, z_eq_f, Bool.not_true, Bool.not_false, b2i_t, b2i_f, z, ew, eN, zn, b1, b2]
    | none =>
      have eN : f_Deal_clauseNamed (s + 1) (bJ (kW t)) M = some (oI (idC y (kW t)), M) := eN
      rw [hi] at eN
      have eN : f_Deal_clauseNamed (s + 1) (bJ (kW t)) M = some (-nI 1, M) := eN
      have ep : pOld none t = .error (flt t 3) := by unfold pOld; rw [if_pos hk]
      rw [ep]
      obtain ⟨Mf, f1, f2, f3⟩ := q_fail (k := 3) hT hB
      refine ⟨Mf, ?_, f2, FrY.R f3⟩
      simp (disch := first | assumption | omega) only [z_bdn, z_caln, z_gdn, z_iT, z_iF, z_le_t, z_le_f, z_lt_t, z_lt_f, z_cl, z_inb, z_at, z_pl, z_lit, nI_ii1, nI_add, z_mr, z_ref0, z_refn, z_eq_f, Bool.not_true, Bool.not_false, b2i_t, b2i_f, z, ew, eN, f1, b0, eq_self]
  · rw [eq_false hk] at z
    have ep : pOld (idC y (kW t)) t = .error (flt t 2) := by unfold pOld; rw [if_neg hk]
    rw [ep]
    obtain ⟨Mf, f1, f2, f3⟩ := q_fail (k := 2) hT hB
    refine ⟨Mf, ?_, f2, FrY.R f3⟩
    simp (disch := first | assumption | omega) only [z_bdn, z_caln, z_gdn, z_iT, z_iF, z_le_t, z_le_f, z_lt_t, z_lt_f, z_cl, z_inb, z_at, z_pl, z_lit, nI_ii1, nI_add, z_mr, z_ref0, z_refn, z_eq_f, Bool.not_true, Bool.not_false, b2i_t, b2i_f, z, f1, b0]
theorem q_cUnd (hd : 27 ≤ d) (he : e < 60) (hX : TxC M 9 T n) (hT : TkC M 9 t) (hB : TkB t) (ha : kA t ≤ n) (h6 : mI M d 6 = nI e) : RsY d e M (f_CenturyText_readUndone d M) (if kS t = 4 ∧ kV t ≠ 59 then (match pNum 0 99 (nx T n t) with
      | .error er => .error er
      | .ok a => .ok ((a, 0, 2, kV t), (22, kV t, a), nx T n (nx T n t)))
    else .error (flt t 2)) := by
  have e5 := hT.2.2.1
  have hs := hB.1
  have b0 : b01 (nI 0) = true := by decide
  obtain ⟨Mf, f1, f2, f3⟩ := q_fail (k := 2) hT hB
  by_cases h4 : kS t = 4
  · have z : (nI (kS t) = nI 4) = True := eq_true (by rw [h4])
    have e9 := hT.2.2.2.2.2.2 h4
    have hv := hB.2.2.2.2.2.1 h4
    by_cases hc : kV t = 59
    · have z2 : (nI (kV t) = nI 59) = True := eq_true (by rw [hc])
      rw [if_neg (fun h => h.2 hc)]
      refine ⟨Mf, ?_, f2, FrY.R f3⟩
      rw [f_CenturyText_readUndone]
      simp (disch := first | assumption | omega) only [z_bdn, z_caln, z_gdn, z_iT, z_iF, z_le_t, z_le_f, z_lt_t, z_lt_f, z_cl, z_inb, z_at, z_pl, z_lit, nI_ii1, nI_add, z_mr, z_ref0, z_refn, z_eq_f, Bool.not_true, Bool.not_false, b2i_t, b2i_f, e5, z, e9, z2, f1, b0]
    · have z2 : (nI (kV t) = nI 59) = False := z_eq_f hc (by omega) (by omega)
      rw [if_pos ⟨h4, hc⟩]
      obtain ⟨M1, b1, b2, b3⟩ := q_next (by omega) hX ha hT.1
      have hX1 := TxC_R (by omega) hX b3
      have hB1 := TkB_x hX ha
      have ha1 : kA (nx T n t) ≤ n := nx_le ha
      have h61 : mI M1 d 6 = nI e := ((b3.1 d (by omega)).1 6).trans h6
      have h2 := q_nmC (lo := 0) (hi := 99) b2 hB1 (by omega) (by omega)
      cases hq : pNum 0 99 (nx T n t) with
      | error er =>
        have hq2 : pNum 0 99 (nxt T n (kA t)) = .error er := hq
        rw [hq2] at h2
        obtain ⟨M2, c1, c2, c3⟩ := h2
        refine ⟨M2, ?_, c2, (FrY.R b3).tr (FrY.R c3)⟩
        rw [f_CenturyText_readUndone]
        simp (disch := first | assumption | omega) only [z_bdn, z_caln, z_gdn, z_iT, z_iF, z_le_t, z_le_f, z_lt_t, z_lt_f, z_cl, z_inb, z_at, z_pl, z_lit, nI_ii1, nI_add, z_mr, z_ref0, z_refn, z_eq_f, Bool.not_true, Bool.not_false, b2i_t, b2i_f, e5, z, e9, z2, b1, c1]
      | ok v =>
        have hq2 : pNum 0 99 (nxt T n (kA t)) = .ok v := hq
        rw [hq2] at h2
        obtain ⟨c1, c2⟩ := h2
        obtain ⟨M3, M4, d1, d2, d3, d4, d5, d6⟩ := q_cTail 22 (kV t) v hd he hX1 b2 ha1 h61
        refine ⟨M4, ?_, AdC_L hd b3 d3, d4, d5, (FrY.R b3).tr d6⟩
        rw [f_CenturyText_readUndone]
        simp (disch := first | assumption | omega) only [z_bdn, z_caln, z_gdn, z_iT, z_iF, z_le_t, z_le_f, z_lt_t, z_lt_f, z_cl, z_inb, z_at, z_pl, z_lit, nI_ii1, nI_add, z_mr, z_ref0, z_refn, z_eq_f, Bool.not_true, Bool.not_false, b2i_t, b2i_f, e5, z, e9, z2, b1, c1, c2, d1, d2]
  · have z : (nI (kS t) = nI 4) = False := z_eq_f h4 (by omega) (by omega)
    rw [if_neg (fun h => h4 h.1)]
    refine ⟨Mf, ?_, f2, FrY.R f3⟩
    rw [f_CenturyText_readUndone]
    simp (disch := first | assumption | omega) only [z_bdn, z_caln, z_gdn, z_iT, z_iF, z_le_t, z_le_f, z_lt_t, z_lt_f, z_cl, z_inb, z_at, z_pl, z_lit, nI_ii1, nI_add, z_mr, z_ref0, z_refn, z_eq_f, Bool.not_true, Bool.not_false, b2i_t, b2i_f, e5, z, f1, b0]
theorem tsK_is {v : Nat} (h2 : kS t = 2) (h1 : 20 ≤ kV t) (h3 : kV t < 23) : tsK t = some (kV t - 20) := by
  cases h : tsK t with
  | none => exact absurd ⟨h2, h1, h3⟩ (tsK_none h)
  | some u =>
    have := tsK_some h
    rw [show kV t - 20 = u by omega]
/-- what stays under the reader's work -/
theorem CD_R9 {c : Nat} (hc : 27 ≤ c) (h : CD M c y) (hF : FrR 9 M M') : CD M' c y := CD_fr hF.1 (fun id h1 h2 e => by omega) h
theorem CC_R9 {c : Nat} (hc : 27 ≤ c) (h : CC M c x) (hF : FrR 9 M M') : CC M' c x := CC_fr hF.1 (fun id h1 h2 e => by omega) h
theorem q_cTst (hs : s = 27 ∨ s = 47) (hO : OkC x) (hP : OkD (cW x) y) (hC : CC M (s + 9) x) (hD : CD M (s + 1) y) (hd : 27 ≤ d) (he : e < 60) (hX : TxC M 9 T n) (hT : TkC M 9 t) (hB : TkB t) (ha : kA t ≤ n) (h6 : mI M d 6 = nI e) : RsY d e M (f_CenturyText_readTest s d M) (pTst T n x y t) := by
  have z20 := z_key (k := 20) hT hB (by omega)
  have z21 := z_key (k := 21) hT hB (by omega)
  have z22 := z_key (k := 22) hT hB (by omega)
  have b0 : b01 (nI 0) = true := by decide
  have w3 := hO.2.2.1
  rw [f_CenturyText_readTest, z_bd]
  obtain ⟨M1, b1, b2, b3⟩ := q_next (by omega) hX ha hT.1
  have hX1 := TxC_R (by omega) hX b3
  have hB1 : TkB (nx T n t) := TkB_x hX ha
  have ha1 : kA (nx T n t) ≤ n := nx_le ha
  have h61 : mI M1 d 6 = nI e := ((b3.1 d (by omega)).1 6).trans h6
  have hD1 := CD_R9 (by omega) hD b3
  have hC1 := CC_R9 (by omega) hC b3
  cases hk : tsK t with
  | none =>
    have hn := tsK_none hk
    have n20 : ¬ isK t 20 = true := fun h => by have := ik h; omega
    have n21 : ¬ isK t 21 = true := fun h => by have := ik h; omega
    have n22 : ¬ isK t 22 = true := fun h => by have := ik h; omega
    rw [eq_false n20] at z20
    rw [eq_false n21] at z21
    rw [eq_false n22] at z22
    have ep : pTst T n x y t = .error (flt t 2) := by unfold pTst; rw [hk]
    rw [ep]
    obtain ⟨Mf, f1, f2, f3⟩ := q_fail (k := 2) hT hB
    refine ⟨Mf, ?_, f2, FrY.R f3⟩
    simp (disch := first | assumption | omega) only [z_bdn, z_caln, z_gdn, z_iT, z_iF, z_le_t, z_le_f, z_lt_t, z_lt_f, z_cl, z_inb, z_at, z_pl, z_lit, nI_ii1, nI_add, z_mr, z_ref0, z_refn, z_eq_f, Bool.not_true, Bool.not_false, b2i_t, b2i_f, z20, z21, z22, f1, b0]
  | some v =>
    obtain ⟨v1, v2, v3⟩ := tsK_some hk
    have e6 : mI M 9 6 = nI (20 + v) := by rw [hT.2.2.2.1, if_pos v1, v2]
    rw [e6]
    by_cases h0 : v = 0
    · subst h0
      have ep : pTst T n x y t = (match pOld (idC y (kW (nx T n t))) (nx T n t) with
        | .error e => .error e
        | .ok a => .ok ((a, 0, 0, 0), (20, a, 0), nx T n (nx T n t))) := by unfold pTst; rw [hk]; rfl
      rw [ep, if_pos (show nI (20 + 0) = (20 : Int32) from rfl), b1, z_cal]
      exact RsY_L hd b3 (RsY_gd (q_cSaid hs hP hD1 hd he hX1 b2 hB1 ha1 h61))
    · by_cases h1 : v = 1
      · subst h1
        have ep : pTst T n x y t = (match pNmR (cR x) (nx T n t) with
          | .error e => .error e
          | .ok a => .ok ((a, 0, 1, 0), (21, a, 0), nx T n (nx T n t))) := by unfold pTst; rw [hk]; rfl
        rw [ep, if_neg (show ¬ nI (20 + 1) = (20 : Int32) by decide), if_pos (show nI (20 + 1) = (21 : Int32) from rfl), b1, z_cal]
        have e7 : mI M1 (s + 9) 7 = nI (cR x) := hC1.2.2.1
        rw [e7]
        exact RsY_L hd b3 (RsY_gd (q_cOneG (g := fun a => (a, 0, 1, 0)) hd he hX1 b2 ha1 h61 (q_nmR w3 b2 hB1)))
      · obtain rfl : v = 2 := by omega
        have ep : pTst T n x y t = (if kS (nx T n t) = 4 ∧ kV (nx T n t) ≠ 59 then (match pNum 0 99 (nx T n (nx T n t)) with
          | .error e => .error e
          | .ok a => .ok ((a, 0, 2, kV (nx T n t)), (22, kV (nx T n t), a), nx T n (nx T n (nx T n t))))
          else .error (flt (nx T n t) 2)) := by unfold pTst; rw [hk]; rfl
        rw [ep, if_neg (show ¬ nI (20 + 2) = (20 : Int32) by decide), if_neg (show ¬ nI (20 + 2) = (21 : Int32) by decide), if_pos (show nI (20 + 2) = (22 : Int32) from rfl), b1, z_cal]
        exact RsY_L hd b3 (RsY_gd (q_cUnd hd he hX1 b2 hB1 ha1 h61))
theorem q_cAdd (o : Nat) (hd : 27 ≤ d) (he : e < 60) (hT : TkC M 9 t) (hB : TkB t) (h6 : mI M d 6 = nI e) : RsY d e M (cal (f_Script_add d (nI o) 0 0 M) fun _ M6 => some ((1 : Int32), M6)) (.ok ((0, 0, 0, 0), (o, 0, 0), t)) := by
  obtain ⟨M1, a1, a2, a3, a4, a5, a6, a7, a8⟩ := q_add (o := o) (a := 0) (b := 0) hd he h6
  refine ⟨M1, ?_, ⟨a2, a3, a4, a5, a6, a7⟩, TkC_S hd hT a8, hB, FrY.S hd a8⟩
  have a1 : f_Script_add d (nI o) 0 0 M = some ((), M1) := a1
  rw [a1]
  rfl
theorem q_cStp {ki : Nat} (hki : ki < 8) (hs : s = 27 ∨ s = 47) (hO : OkC x) (hP : OkD (cW x) y) (hC : CC M (s + 9) x) (hD : CD M (s + 1) y) (hd : 27 ≤ d) (he : e < 60) (hX : TxC M 9 T n) (hT : TkC M 9 t) (hB : TkB t) (ha : kA t ≤ n) (h6 : mI M d 6 = nI e) : RsY d e M (f_CenturyText_readStep_l123 s d (nI (opK ki)) M) (pStp T n x y ki (nx T n t)) := by
  have hO2 := hO
  obtain ⟨⟨w1, w2⟩, -, w3, -⟩ := hO
  obtain ⟨M1, b1, b2, b3⟩ := q_next (by omega) hX ha hT.1
  have hX1 := TxC_R (by omega) hX b3
  have hB1 : TkB (nx T n t) := TkB_x hX ha
  have ha1 : kA (nx T n t) ≤ n := nx_le ha
  have h61 : mI M1 d 6 = nI e := ((b3.1 d (by omega)).1 6).trans h6
  have hD1 := CD_R9 (by omega) hD b3
  have hC1 := CC_R9 (by omega) hC b3
  have e7 : mI M1 (s + 9) 7 = nI (cR x) := hC1.2.2.1
  have e5 : mI M1 (s + 9) 5 = nI (cW x) := hC1.1
  rw [f_CenturyText_readStep_l123, b1, z_cal, e7, e5]
  refine RsY_L hd b3 ?_
  by_cases k0 : ki = 0
  · subst k0
    rw [if_pos (show nI (opK 0) = (14 : Int32) from rfl)]
    exact RsY_gd (q_cOneG (o := 14) (g := fun a => (a, 0, 0, 0)) hd he hX1 b2 ha1 h61 (q_nmC (lo := 1) (hi := 20) b2 hB1 (by omega) (by omega)))
  by_cases k1 : ki = 1
  · subst k1
    rw [if_neg (show ¬ nI (opK 1) = (14 : Int32) by decide), if_pos (show nI (opK 1) = (15 : Int32) from rfl)]
    exact RsY_gd (q_cTwo (k := 1) (W := 2) w3 (by omega) rfl hd he hX1 b2 hB1 ha1 h61)
  by_cases k2 : ki = 2
  · subst k2
    rw [if_neg (show ¬ nI (opK 2) = (14 : Int32) by decide), if_neg (show ¬ nI (opK 2) = (15 : Int32) by decide), if_pos (show nI (opK 2) = (16 : Int32) from rfl)]
    exact RsY_gd (q_cTwo (k := 2) (W := cW x) w3 w2 (z_sub w1) hd he hX1 b2 hB1 ha1 h61)
  by_cases k3 : ki = 3
  · subst k3
    rw [if_neg (show ¬ nI (opK 3) = (14 : Int32) by decide), if_neg (show ¬ nI (opK 3) = (15 : Int32) by decide), if_neg (show ¬ nI (opK 3) = (16 : Int32) by decide), if_pos (show nI (opK 3) = (17 : Int32) from rfl)]
    exact RsY_gd (q_cTwo (k := 3) (W := cW x) w3 w2 (z_sub w1) hd he hX1 b2 hB1 ha1 h61)
  by_cases k4 : ki = 4
  · subst k4
    rw [if_neg (show ¬ nI (opK 4) = (14 : Int32) by decide), if_neg (show ¬ nI (opK 4) = (15 : Int32) by decide), if_neg (show ¬ nI (opK 4) = (16 : Int32) by decide), if_neg (show ¬ nI (opK 4) = (17 : Int32) by decide), if_pos (show nI (opK 4) = (18 : Int32) from rfl)]
    exact q_cAdd 18 hd he b2 hB1 h61
  by_cases k5 : ki = 5
  · subst k5
    rw [if_neg (show ¬ nI (opK 5) = (14 : Int32) by decide), if_neg (show ¬ nI (opK 5) = (15 : Int32) by decide), if_neg (show ¬ nI (opK 5) = (16 : Int32) by decide), if_neg (show ¬ nI (opK 5) = (17 : Int32) by decide), if_neg (show ¬ nI (opK 5) = (18 : Int32) by decide), if_pos (show nI (opK 5) = (19 : Int32) from rfl)]
    exact RsY_gd (q_cTst hs hO2 hP hC1 hD1 hd he hX1 b2 hB1 ha1 h61)
  by_cases k6 : ki = 6
  · subst k6
    rw [if_neg (show ¬ nI (opK 6) = (14 : Int32) by decide), if_neg (show ¬ nI (opK 6) = (15 : Int32) by decide), if_neg (show ¬ nI (opK 6) = (16 : Int32) by decide), if_neg (show ¬ nI (opK 6) = (17 : Int32) by decide), if_neg (show ¬ nI (opK 6) = (18 : Int32) by decide), if_neg (show ¬ nI (opK 6) = (19 : Int32) by decide), if_neg (show ¬ nI (opK 6) = (20 : Int32) by decide), if_neg (show ¬ nI (opK 6) = (21 : Int32) by decide), if_neg (show ¬ nI (opK 6) = (22 : Int32) by decide), if_pos (show nI (opK 6) = (23 : Int32) from rfl)]
    exact RsY_gd (q_cOneG (o := 23) (g := fun a => (a, 0, 0, 0)) hd he hX1 b2 ha1 h61 (q_nmC (lo := 1) (hi := 99) b2 hB1 (by omega) (by omega)))
  obtain rfl : ki = 7 := by omega
  rw [if_neg (show ¬ nI (opK 7) = (14 : Int32) by decide), if_neg (show ¬ nI (opK 7) = (15 : Int32) by decide), if_neg (show ¬ nI (opK 7) = (16 : Int32) by decide), if_neg (show ¬ nI (opK 7) = (17 : Int32) by decide), if_neg (show ¬ nI (opK 7) = (18 : Int32) by decide), if_neg (show ¬ nI (opK 7) = (19 : Int32) by decide), if_neg (show ¬ nI (opK 7) = (20 : Int32) by decide), if_neg (show ¬ nI (opK 7) = (21 : Int32) by decide), if_neg (show ¬ nI (opK 7) = (22 : Int32) by decide), if_neg (show ¬ nI (opK 7) = (23 : Int32) by decide)]
  exact q_cAdd 25 hd he b2 hB1 h61
end
