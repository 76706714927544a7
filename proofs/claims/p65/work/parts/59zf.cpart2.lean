section
variable {M M' M1 : kx_M} {T : Nat → Nat} {n u : Nat} {t : Tok} {x : Cl} {y : De} {a b : Bool} {s : Ps}
theorem isD_u (hu : u = 27 ∨ u = 47) : isDeal (u + 1) = true := by rcases hu with rfl | rfl <;> rfl
theorem q_qNamed {w : Int64} {W : Nat} (hu : u = 27 ∨ u = 47) (hP : OkD W y) (h : PD M (u + 1) y) : f_Deal_queenNamed (u + 1) w M = some (oI (idF (dN y) w (dQ y) 0), M) := by
  have e := q_indexIn (f := dN y) (w := w) (lk_Deal_queenNames (isD_u hu)) (by omega) hP.1 (fun i hi => (h.2.2.1 i hi).2)
  have e7 := h.1
  rw [f_Deal_queenNamed, e7]
  simp (disch := first | assumption | omega) only [z_bdn, z_caln, z_gdn, z_iT, z_iF, z_le_t, z_le_f, z_lt_t, z_lt_f, z_cl, z_inb, z_at, z_lit, nI_ii1, nI_add, z_mr, z_ref0, z_refn, z_eq_f, Bool.not_true, Bool.not_false, b2i_t, b2i_f, e]
theorem q_cNamed {w : Int64} {W : Nat} (hu : u = 27 ∨ u = 47) (hP : OkD W y) (h : PD M (u + 1) y) : f_Deal_clauseNamed (u + 1) w M = some (oI (idF (dM y) w (dC y) 0), M) := by
  have e := q_indexIn (f := dM y) (w := w) (lk_Deal_clauseNames (isD_u hu)) (by omega) hP.2.1 (fun i hi => (h.2.2.2.1 i hi).1)
  have e8 := h.2.1
  rw [f_Deal_clauseNamed, e8]
  simp (disch := first | assumption | omega) only [z_bdn, z_caln, z_gdn, z_iT, z_iF, z_le_t, z_le_f, z_lt_t, z_lt_f, z_cl, z_inb, z_at, z_lit, nI_ii1, nI_add, z_mr, z_ref0, z_refn, z_eq_f, Bool.not_true, Bool.not_false, b2i_t, b2i_f, e]
theorem w_of (hT : TkC M 5 t) (h : isK t 26 = true) : mJ M 5 7 = bJ (kW t) := by
  obtain ⟨h1, h2⟩ := ik h
  exact hT.2.2.2.2.1 h1 (by omega)
theorem q_rdC {W : Nat} (hu : u = 27 ∨ u = 47) (hP : OkD W y) (h : PD M (u + 1) y) (hT : TkC M 5 t) (hB : TkB t) : match pOld (idC y (kW t)) t with | .ok k => f_TreatyText_readClauseName (u + 1) M = some (nI k, M) ∧ k < dC y | .error e => ∃ M', f_TreatyText_readClauseName (u + 1) M = some (-nI 1, M') ∧ ErC 5 M' e ∧ FrR 5 M M' := by
  have z := z_key (k := 26) hT hB (by omega)
  have w2 := hP.2.1
  rw [f_TreatyText_readClauseName]
  unfold pOld
  by_cases hk : isK t 26 = true
  · rw [eq_true hk] at z
    have eN := q_cNamed (w := bJ (kW t)) hu hP h
    have ew := w_of hT hk
    rw [if_pos hk]
    cases hi : idC y (kW t) with
    | some k =>
      have hlt := (idF_ok hi).2.1
      have eN : f_Deal_clauseNamed (u + 1) (bJ (kW t)) M = some (oI (idC y (kW t)), M) := eN
      rw [hi] at eN
      have eN : f_Deal_clauseNamed (u + 1) (bJ (kW t)) M = some (nI k, M) := eN
      have zn : (nI k = -nI 1) = False := z_nneg (by omega)
      refine ⟨?_, by omega⟩
      simp (disch := first | assumption | omega) only [z_bdn, z_caln, z_gdn, z_iT, z_iF, z_le_t, z_le_f, z_lt_t, z_lt_f, z_cl, z_inb, z_at, z_lit, nI_ii1, nI_add, z_mr, z_ref0, z_refn, z_eq_f, Bool.not_true, Bool.not_false, b2i_t, b2i_f, z, ew, eN, zn]
    | none =>
      have eN : f_Deal_clauseNamed (u + 1) (bJ (kW t)) M = some (oI (idC y (kW t)), M) := eN
      rw [hi] at eN
      have eN : f_Deal_clauseNamed (u + 1) (bJ (kW t)) M = some (-nI 1, M) := eN
      obtain ⟨Mf, f1, f2, f3⟩ := q_fail (k := 3) hT hB
      refine ⟨Mf, ?_, f2, f3⟩
      simp (disch := first | assumption | omega) only [z_bdn, z_caln, z_gdn, z_iT, z_iF, z_le_t, z_le_f, z_lt_t, z_lt_f, z_cl, z_inb, z_at, z_lit, nI_ii1, nI_add, z_mr, z_ref0, z_refn, z_eq_f, Bool.not_true, Bool.not_false, b2i_t, b2i_f, z, ew, eN, f1, eq_self]
  · rw [eq_false hk] at z
    rw [if_neg hk]
    obtain ⟨Mf, f1, f2, f3⟩ := q_fail (k := 2) hT hB
    refine ⟨Mf, ?_, f2, f3⟩
    simp (disch := first | assumption | omega) only [z_bdn, z_caln, z_gdn, z_iT, z_iF, z_le_t, z_le_f, z_lt_t, z_lt_f, z_cl, z_inb, z_at, z_lit, nI_ii1, nI_add, z_mr, z_ref0, z_refn, z_eq_f, Bool.not_true, Bool.not_false, b2i_t, b2i_f, z, f1]
theorem q_rdQ {W : Nat} (hu : u = 27 ∨ u = 47) (hP : OkD W y) (h : PD M (u + 1) y) (hT : TkC M 5 t) (hB : TkB t) : match pOld (idQ y (kW t)) t with | .ok k => f_TreatyText_readQueenName (u + 1) M = some (nI k, M) ∧ k < dQ y | .error e => ∃ M', f_TreatyText_readQueenName (u + 1) M = some (-nI 1, M') ∧ ErC 5 M' e ∧ FrR 5 M M' := by
  have z := z_key (k := 26) hT hB (by omega)
  have w2 := hP.1
  rw [f_TreatyText_readQueenName]
  unfold pOld
  by_cases hk : isK t 26 = true
  · rw [eq_true hk] at z
    have eN := q_qNamed (w := bJ (kW t)) hu hP h
    have ew := w_of hT hk
    rw [if_pos hk]
    cases hi : idQ y (kW t) with
    | some k =>
      have hlt := (idF_ok hi).2.1
      have eN : f_Deal_queenNamed (u + 1) (bJ (kW t)) M = some (oI (idQ y (kW t)), M) := eN
      rw [hi] at eN
      have eN : f_Deal_queenNamed (u + 1) (bJ (kW t)) M = some (nI k, M) := eN
      have zn : (nI k = -nI 1) = False := z_nneg (by omega)
      refine ⟨?_, by omega⟩
      simp (disch := first | assumption | omega) only [z_bdn, z_caln, z_gdn, z_iT, z_iF, z_le_t, z_le_f, z_lt_t, z_lt_f, z_cl, z_inb, z_at, z_lit, nI_ii1, nI_add, z_mr, z_ref0, z_refn, z_eq_f, Bool.not_true, Bool.not_false, b2i_t, b2i_f, z, ew, eN, zn]
    | none =>
      have eN : f_Deal_queenNamed (u + 1) (bJ (kW t)) M = some (oI (idQ y (kW t)), M) := eN
      rw [hi] at eN
      have eN : f_Deal_queenNamed (u + 1) (bJ (kW t)) M = some (-nI 1, M) := eN
      obtain ⟨Mf, f1, f2, f3⟩ := q_fail (k := 3) hT hB
      refine ⟨Mf, ?_, f2, f3⟩
      simp (disch := first | assumption | omega) only [z_bdn, z_caln, z_gdn, z_iT, z_iF, z_le_t, z_le_f, z_lt_t, z_lt_f, z_cl, z_inb, z_at, z_lit, nI_ii1, nI_add, z_mr, z_ref0, z_refn, z_eq_f, Bool.not_true, Bool.not_false, b2i_t, b2i_f, z, ew, eN, f1, eq_self]
  · rw [eq_false hk] at z
    rw [if_neg hk]
    obtain ⟨Mf, f1, f2, f3⟩ := q_fail (k := 2) hT hB
    refine ⟨Mf, ?_, f2, f3⟩
    simp (disch := first | assumption | omega) only [z_bdn, z_caln, z_gdn, z_iT, z_iF, z_le_t, z_le_f, z_lt_t, z_lt_f, z_cl, z_inb, z_at, z_lit, nI_ii1, nI_add, z_mr, z_ref0, z_refn, z_eq_f, Bool.not_true, Bool.not_false, b2i_t, b2i_f, z, f1]
theorem q_newName {W : Nat} (hu : u = 27 ∨ u = 47) (hP : OkD W y) (h : PD M (u + 1) y) (hT : TkC M 5 t) (hB : TkB t) : match pNew y t with | .ok _ => f_TreatyText_newName (u + 1) M = some (nI 1, M) ∧ mJ M 5 7 = bJ (kW t) | .error e => ∃ M', f_TreatyText_newName (u + 1) M = some (nI 0, M') ∧ ErC 5 M' e ∧ FrR 5 M M' := by
  have z := z_key (k := 26) hT hB (by omega)
  have b0 : b01 (nI 0) = true := by decide
  have w2 := hP.1
  have w3 := hP.2.1
  rw [f_TreatyText_newName]
  unfold pNew
  by_cases hk : isK t 26 = true
  · rw [eq_true hk] at z
    have eQ : f_Deal_queenNamed (u + 1) (bJ (kW t)) M = some (oI (idQ y (kW t)), M) := q_qNamed (w := bJ (kW t)) hu hP h
    have eC : f_Deal_clauseNamed (u + 1) (bJ (kW t)) M = some (oI (idC y (kW t)), M) := q_cNamed (w := bJ (kW t)) hu hP h
    have ew := w_of hT hk
    obtain ⟨Mf, f1, f2, f3⟩ := q_fail (k := 3) hT hB
    rw [if_pos hk]
    cases hi : idQ y (kW t) with
    | some k =>
      have hlt := (idF_ok hi).2.1
      rw [hi] at eQ
      have eQ : f_Deal_queenNamed (u + 1) (bJ (kW t)) M = some (nI k, M) := eQ
      have zn : (nI k = -nI 1) = False := z_nneg (by omega)
      rw [if_pos (show (some k : Option Nat).isSome = true ∨ (idC y (kW t)).isSome = true from Or.inl rfl)]
      refine ⟨Mf, ?_, f2, f3⟩
      simp (disch := first | assumption | omega) only [z_bdn, z_caln, z_gdn, z_iT, z_iF, z_le_t, z_le_f, z_lt_t, z_lt_f, z_cl, z_inb, z_at, z_lit, nI_ii1, nI_add, z_mr, z_ref0, z_refn, z_eq_f, Bool.not_true, Bool.not_false, b2i_t, b2i_f, z, ew, eQ, zn, f_TreatyText_newName_l56, f1, b0]
    | none =>
      rw [hi] at eQ
      have eQ : f_Deal_queenNamed (u + 1) (bJ (kW t)) M = some (-nI 1, M) := eQ
      cases hc : idC y (kW t) with
      | some k =>
        have hlt := (idF_ok hc).2.1
        rw [hc] at eC
        have eC : f_Deal_clauseNamed (u + 1) (bJ (kW t)) M = some (nI k, M) := eC
        have zn : (nI k = -nI 1) = False := z_nneg (by omega)
        rw [if_pos (show (none : Option Nat).isSome = true ∨ (some k : Option Nat).isSome = true from Or.inr rfl)]
        refine ⟨Mf, ?_, f2, f3⟩
        simp (disch := first | assumption | omega) only [z_bdn, z_caln, z_gdn, z_iT, z_iF, z_le_t, z_le_f, z_lt_t, z_lt_f, z_cl, z_inb, z_at, z_lit, nI_ii1, nI_add, z_mr, z_ref0, z_refn, z_eq_f, Bool.not_true, Bool.not_false, b2i_t, b2i_f, z, ew, eQ, eC, zn, f_TreatyText_newName_l56, f1, b0, eq_self]
      | none =>
        rw [hc] at eC
        have eC : f_Deal_clauseNamed (u + 1) (bJ (kW t)) M = some (-nI 1, M) := eC
        rw [if_neg (fun h => h.elim (fun e => by cases e) (fun e => by cases e))]
        refine ⟨?_, ew⟩
        simp (disch := first | assumption | omega) only [z_bdn, z_caln, z_gdn, z_iT, z_iF, z_le_t, z_le_f, z_lt_t, z_lt_f, z_cl, z_inb, z_at, z_lit, nI_ii1, nI_add, z_mr, z_ref0, z_refn, z_eq_f, Bool.not_true, Bool.not_false, b2i_t, b2i_f, z, ew, eQ, eC, f_TreatyText_newName_l56, eq_self]
  · rw [eq_false hk] at z
    rw [if_neg hk]
    obtain ⟨Mf, f1, f2, f3⟩ := q_fail (k := 2) hT hB
    refine ⟨Mf, ?_, f2, f3⟩
    simp (disch := first | assumption | omega) only [z_bdn, z_caln, z_gdn, z_iT, z_iF, z_le_t, z_le_f, z_lt_t, z_lt_f, z_cl, z_inb, z_at, z_lit, nI_ii1, nI_add, z_mr, z_ref0, z_refn, z_eq_f, Bool.not_true, Bool.not_false, b2i_t, b2i_f, z, f1, b0]
/-- only the deal was written -/
theorem CB_D {y' : De} (hu : 27 ≤ u) (h : CB M u T n x y a b) (hF : Fr (fun id => u + 1 ≤ id ∧ id ≤ u + 8) M M') (hD : PD M' (u + 1) y') : CB M' u T n x y' a b := by
  obtain ⟨h1, h2, h3, h4, h5⟩ := h
  have e4 := (hF 4 (by omega)).1
  exact ⟨CB_Tx hu h1 (hF.mono (fun id e => Or.inr (by omega))), CC_fr hF (fun id g1 g2 e => by omega) h2, hD, (e4 1).trans h4, (e4 2).trans h5⟩
theorem DW (hF : Fr (fun id => u + 1 ≤ id ∧ id ≤ u + 8) M M') : Fr (fun id => id = 4 ∨ (u + 1 ≤ id ∧ id ≤ u + 14)) M M' := hF.mono (fun id e => Or.inr (by omega))
theorem q_pClh (hu : u = 27 ∨ u = 47) (h : CPs M u T n s) (hO : POk n s) : RsC u T n M (f_TreatyText_readClash (u + 1) M) (pClh T n s) := by
  obtain ⟨hB, hT, hTB⟩ := h
  have hu27 : 27 ≤ u := by omega
  obtain ⟨o1, -, o3, -, -, ha⟩ := hO
  have w2 := o3.2.1
  have b0 : b01 (nI 0) = true := by decide
  obtain ⟨M1, a1, a2, a3, a4, a5⟩ := q_nx hu27 hB hT ha
  have h1 := q_rdC hu o3 a4.2.2.1 a2 a3
  rw [f_TreatyText_readClash]
  cases hp1 : pOld (idC (sY s) (kW (nx T n (sT s)))) (nx T n (sT s)) with
  | error e =>
    rw [hp1] at h1
    obtain ⟨M2, b1, b2, b3⟩ := h1
    have ep : pClh T n s = .error e := by unfold pClh; rw [hp1]
    rw [ep]
    refine ⟨M2, ?_, b2, (Pc_R a5).tr (Pc_R b3)⟩
    simp (disch := first | assumption | omega) only [z_bdn, z_caln, z_gdn, z_iT, z_iF, z_le_t, z_le_f, z_lt_t, z_lt_f, z_cl, z_inb, z_at, z_lit, nI_ii1, nI_add, z_mr, z_ref0, z_refn, z_eq_f, Bool.not_true, Bool.not_false, b2i_t, b2i_f, a1, b1, eq_self]
  | ok p =>
    rw [hp1] at h1
    obtain ⟨b1, hpl⟩ := h1
    have zp : (nI p = -nI 1) = False := z_nneg (by omega)
    obtain ⟨M2, c1, c2, c3, c4, c5⟩ := q_nx hu27 a4 a2 (nx_le ha)
    have h2 := q_rdC hu o3 c4.2.2.1 c2 c3
    cases hp2 : pOld (idC (sY s) (kW (nx T n (nx T n (sT s))))) (nx T n (nx T n (sT s))) with
    | error e =>
      rw [hp2] at h2
      obtain ⟨M3, d1, d2, d3⟩ := h2
      have ep : pClh T n s = .error e := by unfold pClh; rw [hp1]; show (match pOld _ _ with | .error e => _ | .ok b => _) = _; rw [hp2]
      rw [ep]
      refine ⟨M3, ?_, d2, (Pc_R a5).tr ((Pc_R c5).tr (Pc_R d3))⟩
      simp (disch := first | assumption | omega) only [z_bdn, z_caln, z_gdn, z_iT, z_iF, z_le_t, z_le_f, z_lt_t, z_lt_f, z_cl, z_inb, z_at, z_lit, nI_ii1, nI_add, z_mr, z_ref0, z_refn, z_eq_f, Bool.not_true, Bool.not_false, b2i_t, b2i_f, a1, b1, zp, c1, d1, eq_self]
    | ok q =>
      rw [hp2] at h2
      obtain ⟨d1, hql⟩ := h2
      have zq : (nI q = -nI 1) = False := z_nneg (by omega)
      by_cases hpq : q = p
      · have ep : pClh T n s = .error (flt (nx T n (nx T n (sT s))) 5) := by unfold pClh; rw [hp1]; show (match pOld _ _ with | .error e => _ | .ok b => _) = _; rw [hp2]; exact if_pos hpq
        rw [ep]
        obtain ⟨Mf, f1, f2, f3⟩ := q_failP (u := u) (k := 5) c2 c3
        refine ⟨Mf, ?_, f2, (Pc_R a5).tr ((Pc_R c5).tr f3)⟩
        have z : (nI q = nI p) = True := eq_true (by rw [hpq])
        simp (disch := first | assumption | omega) only [z_bdn, z_caln, z_gdn, z_iT, z_iF, z_le_t, z_le_f, z_lt_t, z_lt_f, z_cl, z_inb, z_at, z_lit, nI_ii1, nI_add, z_mr, z_ref0, z_refn, z_eq_f, Bool.not_true, Bool.not_false, b2i_t, b2i_f, a1, b1, zp, c1, d1, zq, z, f1, b0]
      · have ep : pClh T n s = .ok (nx T n (nx T n (nx T n (sT s))), sX s, qrY (sY s) p q 1, sW s, sH s) := by unfold pClh; rw [hp1]; show (match pOld _ _ with | .error e => _ | .ok b => _) = _; rw [hp2]; exact if_neg hpq
        rw [ep]
        have hF : Fr (fun id => u + 1 ≤ id ∧ id ≤ u + 8) M2 (sA (sA M2 (u + 1 + 6) (upd (mA M2 (u + 1 + 6)) (6 * p + q) (nI 1))) (u + 1 + 6) (upd (upd (mA M2 (u + 1 + 6)) (6 * p + q) (nI 1)) (6 * q + p) (nI 1))) := Fr.tr (Fr.sA (by omega)) (Fr.sA (by omega))
        have hD : PD (sA (sA M2 (u + 1 + 6) (upd (mA M2 (u + 1 + 6)) (6 * p + q) (nI 1))) (u + 1 + 6) (upd (upd (mA M2 (u + 1 + 6)) (6 * p + q) (nI 1)) (6 * q + p) (nI 1))) (u + 1) (qrY (sY s) p q 1) := by
          obtain ⟨g1, g2, g3, g4, g5, g6, g7⟩ := c4.2.2.1
          refine ⟨g1, g2, fun i hi => ?_, fun k hk => ?_, fun k i hk hi => ?_, fun k i hk hi => ?_, fun v i k hv hi hk => ?_⟩
          · rw [mA_sA, if_neg (by omega), mA_sA, if_neg (by omega)]; exact g3 i hi
          · rw [mA_sA, if_neg (by omega), mA_sA, if_neg (by omega)]; exact g4 k hk
          · rw [mA_sA, if_neg (by omega), mA_sA, if_neg (by omega)]; exact g5 k i hk hi
          · rw [mA_sA, if_pos rfl, qrX, upd_at, upd_at]
            by_cases e1 : 6 * k + i = 6 * q + p
            · rw [if_pos e1, if_pos e1]
            · rw [if_neg e1, if_neg e1]
              by_cases e2 : 6 * k + i = 6 * p + q
              · rw [if_pos e2, if_pos e2]
              · rw [if_neg e2, if_neg e2]
                exact g6 k i hk hi
          · rw [mA_sA, if_neg (by omega), mA_sA, if_neg (by omega)]; exact g7 v i k hv hi hk
        have hB2 := CB_D hu27 c4 hF hD
        have eS : f_Deal_setOdds (u + 1) (nI p) (nI q) (nI 1) M2 = some ((), sA (sA M2 (u + 1 + 6) (upd (mA M2 (u + 1 + 6)) (6 * p + q) (nI 1))) (u + 1 + 6) (upd (upd (mA M2 (u + 1 + 6)) (6 * p + q) (nI 1)) (6 * q + p) (nI 1))) := by
          have s6 : ∀ f, mA (sA M2 (u + 1 + 6) f) (u + 1 + 6) = f := fun f => by rw [mA_sA, if_pos rfl]
          rw [f_Deal_setOdds]
          simp (disch := first | assumption | omega) only [z_bdn, z_caln, z_gdn, z_iT, z_iF, z_le_t, z_le_f, z_lt_t, z_lt_f, z_cl, z_inb, z_at, z_lit, nI_ii1, nI_add, z_mr, z_ref0, z_refn, z_eq_f, Bool.not_true, Bool.not_false, b2i_t, b2i_f, s6]
        obtain ⟨M4, e1, e2, e3, e4, e5⟩ := q_nx hu27 hB2 (TkC_fr c2 (DW hF) hu27) (nx_le (nx_le ha))
        refine ⟨M4, ?_, ⟨e4, e2, e3⟩, (Pc_R a5).tr ((Pc_R c5).tr ((Pc_W (DW hF)).tr (Pc_R e5)))⟩
        simp (disch := first | assumption | omega) only [z_bdn, z_caln, z_gdn, z_iT, z_iF, z_le_t, z_le_f, z_lt_t, z_lt_f, z_cl, z_inb, z_at, z_lit, nI_ii1, nI_add, z_mr, z_ref0, z_refn, z_eq_f, Bool.not_true, Bool.not_false, b2i_t, b2i_f, a1, b1, zp, c1, d1, zq, eS, e1]
theorem q_pWor {v : Nat} (hu : u = 27 ∨ u = 47) (hv : v < 2) (h : CPs M u T n s) (hO : POk n s) : RsC u T n M (f_TreatyText_readWorth (u + 1) (nI v) M) (pWor T n v s) := by
  obtain ⟨hB, hT, hTB⟩ := h
  have hu27 : 27 ≤ u := by omega
  obtain ⟨o1, -, o3, -, -, ha⟩ := hO
  have w1 := o3.1
  have w2 := o3.2.1
  obtain ⟨M1, a1, a2, a3, a4, a5⟩ := q_nx hu27 hB hT ha
  have h1 := q_rdQ hu o3 a4.2.2.1 a2 a3
  rw [f_TreatyText_readWorth]
  cases hp1 : pOld (idQ (sY s) (kW (nx T n (sT s)))) (nx T n (sT s)) with
  | error e =>
    rw [hp1] at h1
    obtain ⟨M2, b1, b2, b3⟩ := h1
    have ep : pWor T n v s = .error e := by unfold pWor; rw [hp1]
    rw [ep]
    refine ⟨M2, ?_, b2, (Pc_R a5).tr (Pc_R b3)⟩
    simp (disch := first | assumption | omega) only [z_bdn, z_caln, z_gdn, z_iT, z_iF, z_le_t, z_le_f, z_lt_t, z_lt_f, z_cl, z_inb, z_at, z_lit, nI_ii1, nI_add, z_mr, z_ref0, z_refn, z_eq_f, Bool.not_true, Bool.not_false, b2i_t, b2i_f, a1, b1, eq_self]
  | ok p =>
    rw [hp1] at h1
    obtain ⟨b1, hpl⟩ := h1
    have zp : (nI p = -nI 1) = False := z_nneg (by omega)
    obtain ⟨M2, c1, c2, c3, c4, c5⟩ := q_nx hu27 a4 a2 (nx_le ha)
    have h2 := q_rdC hu o3 c4.2.2.1 c2 c3
    cases hp2 : pOld (idC (sY s) (kW (nx T n (nx T n (sT s))))) (nx T n (nx T n (sT s))) with
    | error e =>
      rw [hp2] at h2
      obtain ⟨M3, d1, d2, d3⟩ := h2
      have ep : pWor T n v s = .error e := by unfold pWor; rw [hp1]; show (match pOld _ _ with | .error e => _ | .ok b => _) = _; rw [hp2]
      rw [ep]
      refine ⟨M3, ?_, d2, (Pc_R a5).tr ((Pc_R c5).tr (Pc_R d3))⟩
      simp (disch := first | assumption | omega) only [z_bdn, z_caln, z_gdn, z_iT, z_iF, z_le_t, z_le_f, z_lt_t, z_lt_f, z_cl, z_inb, z_at, z_lit, nI_ii1, nI_add, z_mr, z_ref0, z_refn, z_eq_f, Bool.not_true, Bool.not_false, b2i_t, b2i_f, a1, b1, zp, c1, d1, eq_self]
    | ok q =>
      rw [hp2] at h2
      obtain ⟨d1, hql⟩ := h2
      have zq : (nI q = -nI 1) = False := z_nneg (by omega)
      obtain ⟨M3, e1, e2, e3, e4, e5⟩ := q_nx hu27 c4 c2 (nx_le (nx_le ha))
      have hn := q_atNumber (lo := 0) (hi := 99) e2 e3 (by omega) (by omega)
      cases hp3 : pNum 0 99 (nx T n (nx T n (nx T n (sT s)))) with
      | error er =>
        rw [hp3] at hn
        obtain ⟨M4, g1, g2, g3⟩ := hn
        have ep : pWor T n v s = .error er := by unfold pWor; rw [hp1]; show (match pOld _ _ with | .error e => _ | .ok b => _) = _; rw [hp2]; show (match pNum _ _ _ with | .error e => _ | .ok b => _) = _; rw [hp3]
        rw [ep]
        refine ⟨M4, ?_, g2, (Pc_R a5).tr ((Pc_R c5).tr ((Pc_R e5).tr (Pc_R g3)))⟩
        simp (disch := first | assumption | omega) only [z_bdn, z_caln, z_gdn, z_iT, z_iF, z_le_t, z_le_f, z_lt_t, z_lt_f, z_cl, z_inb, z_at, z_lit, nI_ii1, nI_add, z_mr, z_ref0, z_refn, z_eq_f, Bool.not_true, Bool.not_false, b2i_t, b2i_f, a1, b1, zp, c1, d1, zq, e1, g1]
      | ok w =>
        rw [hp3] at hn
        obtain ⟨g1, g2⟩ := hn
        have ep : pWor T n v s = .ok (nx T n (nx T n (nx T n (nx T n (sT s)))), sX s, wdV (sY s) (updN (dV (sY s)) (24 * v + 6 * p + q) w), sW s, sH s) := by unfold pWor; rw [hp1]; show (match pOld _ _ with | .error e => _ | .ok b => _) = _; rw [hp2]; show (match pNum _ _ _ with | .error e => _ | .ok b => _) = _; rw [hp3]
        rw [ep]
        have hF : Fr (fun id => u + 1 ≤ id ∧ id ≤ u + 8) M3 (sA M3 (u + 1 + 7) (upd (mA M3 (u + 1 + 7)) (24 * v + 6 * p + q) (nI w))) := Fr.sA (by omega)
        have hD : PD (sA M3 (u + 1 + 7) (upd (mA M3 (u + 1 + 7)) (24 * v + 6 * p + q) (nI w))) (u + 1) (wdV (sY s) (updN (dV (sY s)) (24 * v + 6 * p + q) w)) := by
          obtain ⟨g1, g2, g3, g4, g5, g6, g7⟩ := e4.2.2.1
          refine ⟨g1, g2, fun i hi => ?_, fun k hk => ?_, fun k i hk hi => ?_, fun k i hk hi => ?_, fun v' i k hv hi hk => ?_⟩
          · rw [mA_sA, if_neg (by omega)]; exact g3 i hi
          · rw [mA_sA, if_neg (by omega)]; exact g4 k hk
          · rw [mA_sA, if_neg (by omega)]; exact g5 k i hk hi
          · rw [mA_sA, if_neg (by omega)]; exact g6 k i hk hi
          · rw [mA_sA, if_pos rfl, upd_at]
            show _ = nI (updN (dV (sY s)) (24 * v + 6 * p + q) w (24 * v' + 6 * i + k))
            unfold updN
            split
            · rfl
            · exact g7 v' i k hv hi hk
        have hB2 := CB_D hu27 e4 hF hD
        obtain ⟨M4, k1, k2, k3, k4, k5⟩ := q_nx hu27 hB2 (TkC_fr e2 (DW hF) hu27) (nx_le (nx_le (nx_le ha)))
        refine ⟨M4, ?_, ⟨k4, k2, k3⟩, (Pc_R a5).tr ((Pc_R c5).tr ((Pc_R e5).tr ((Pc_W (DW hF)).tr (Pc_R k5))))⟩
        have ei : 6 * (v * 4 + p) + q = 24 * v + 6 * p + q := by omega
        have ei2 : 6 * (4 * v + p) + q = 24 * v + 6 * p + q := by omega
        simp (disch := first | assumption | omega) only [z_bdn, z_caln, z_gdn, z_iT, z_iF, z_le_t, z_le_f, z_lt_t, z_lt_f, z_cl, z_inb, z_at, z_lit, nI_ii1, nI_add, z_mr, z_ref0, z_refn, z_eq_f, Bool.not_true, Bool.not_false, b2i_t, b2i_f, a1, b1, zp, c1, d1, zq, e1, g1, f_Deal_worthAt, ei, ei2, g2, k1]
end
