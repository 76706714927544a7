/-! ## a TREATY's text: the reference's rows and parts -/
def RsB (T : Nat → Nat) (n : Nat) (M : kx_M) (r : Option (Unit × kx_M)) (e : Except Er Ps) : Prop := match e with
  | .ok s1 => ∃ M', r = some ((), M') ∧ FrX M M' ∧ (MPs M' T n s1 ∨ (kS (sT s1) = 1 ∧ Bd M' (flt (sT s1) 2)))
  | .error er => ∃ M', r = some ((), M') ∧ Bd M' er ∧ FrX M M'
def RsP (T : Nat → Nat) (n : Nat) (M : kx_M) (e : Except Er Ps) : Prop := ∃ M1 v M3, f_RM_readPart M = some ((), M1) ∧ f_RM_isSign (nI 59) M1 = some (v, M1) ∧ f_RM_must v M1 = some ((), M3) ∧ FrX M M3 ∧ (match e with
  | .ok s1 => MPs M3 T n s1
  | .error er => Bd M3 er)
section
variable {M M' M1 : kx_M} {T : Nat → Nat} {n : Nat} {t : Tok} {x : Cl} {y : De} {a b : Bool} {s : Ps} {e : Er} {q c : Nat} {kd : Nat → Nat}
theorem RsB.of {r : Option (Unit × kx_M)} {e : Except Er Ps} (h : RsM T n M r e) : RsB T n M r e := by
  cases e with
  | ok s1 =>
    obtain ⟨M', h1, h2, h3⟩ := h
    exact ⟨M', h1, h3, Or.inl h2⟩
  | error er => exact h
theorem q_mRow (h : MPs M T n s) (hO : POk n s) (hk2 : kS (sT s) = 2) : RsB T n M (f_RM_readRow M) (pRow T n s) := by
  obtain ⟨hB, hT, hTB⟩ := h
  obtain ⟨o1, -, o3, -, -, ha⟩ := hO
  have w3 := o1.2.2.1
  have h12 := hB.2.1
  have h15 := hT.2.1
  have e4 : mA M 140 3076 = nI (cR (sX s)) := hB.2.2.1.2.2.1
  have iq : ∀ {w i : Nat}, idQ (sY s) w = some i → i < dQ (sY s) := fun g => by have := idF_ok g; omega
  have w1 := o3.1
  by_cases h0 : 12 ≤ cR (sX s)
  · have ep : pRow T n s = .error (flt (sT s) 6) := by unfold pRow; rw [if_pos h0]
    rw [ep]
    obtain ⟨Mf, f1, f2, f3⟩ := q_failM (k := 6) (p := kP (sT s)) h12 (by omega)
    have zl := b_le f2
    show ∃ M', _ ∧ Bd M' (flt (sT s) 6) ∧ _
    rw [flt_ne (by omega)]
    have cr : cR (sX s) = 12 := by omega
    rw [cr] at e4
    refine ⟨Mf, ?_, f2, f3⟩
    have g1 : f_RM_readRow_l25 (nI 12) Mf = some ((), Mf) := by
      rw [f_RM_readRow_l25]
      simp (disch := first | assumption | omega) only [z_bdn, z_caln, z_gdn, z_iT, z_iF, z_le_t, z_le_f, z_lt_t, z_lt_f, z_cl, z_inb, z_at, z_pl, z_lit, nI_ii1, nI_add, nI_mul, z_eq_f, z_refuse, z_no, z_M00, b2i_t, b2i_f, zl]
    rw [f_RM_readRow]
    simp (disch := first | assumption | omega) only [z_bdn, z_caln, z_gdn, z_iT, z_iF, z_le_t, z_le_f, z_lt_t, z_lt_f, z_cl, z_inb, z_at, z_pl, z_lit, nI_ii1, nI_add, nI_mul, z_eq_f, z_refuse, z_no, z_M00, b2i_t, b2i_f, e4, h15, f1, g1, eq_self]
  · obtain ⟨M1, a1, a2, a3, a4, a5⟩ := q_ad hB hT ha
    have toL : ∀ R, f_RM_readRow_l25 (nI (cR (sX s))) M = R → f_RM_readRow M = R := by
      intro R hR
      rw [f_RM_readRow]
      simp (disch := first | assumption | omega) only [z_bdn, z_caln, z_gdn, z_iT, z_iF, z_le_t, z_le_f, z_lt_t, z_lt_f, z_cl, z_inb, z_at, z_pl, z_lit, nI_ii1, nI_add, nI_mul, z_eq_f, z_refuse, z_no, z_M00, b2i_t, b2i_f, e4]
      exact hR
    have r1 := q_readToldG (v := 0) a4 a2 (nx_le ha) (fun hk => q_namQ o3 a4 a2 hk) (fun i hi => by have := iq hi; omega)
    have e5 : 3172 + cR (sX s) = 3072 + (100 + cR (sX s)) := by omega
    cases hp : pOld (idQ (sY s) (kW (nx T n (sT s)))) (nx T n (sT s)) with
    | error er =>
      have ep : pRow T n s = .error er := by unfold pRow; rw [if_neg h0, hp]
      rw [ep]
      rw [hp] at r1
      obtain ⟨M2, b1, b2, b3⟩ := r1
      have b2' : Bd (sA M2 140 (upd (mA M2 140) (3072 + (100 + cR (sX s))) (nI 0))) er := b2
      have g1 := b_l55 (f := FU) (r := nI (cR (sX s))) (c := nI 0) (FU_lt (by omega)) b2'
      refine ⟨_, toL _ ?_, b2', (FrX.T a5).tr (b3.tr (FrX.A (by omega)))⟩
      rw [f_RM_readRow_l25]
      simp (disch := first | assumption | omega) only [z_bdn, z_caln, z_gdn, z_iT, z_iF, z_le_t, z_le_f, z_lt_t, z_lt_f, z_cl, z_inb, z_at, z_pl, z_lit, nI_ii1, nI_add, nI_mul, z_eq_f, z_refuse, z_no, z_M00, b2i_t, b2i_f, h12, a1, b1, e5]
      exact g1
    | ok i =>
      rw [hp] at r1
      obtain ⟨M2, b1, b2, b3, b4, b5⟩ := r1
      have hi := iq (pOld_ok hp).2
      have hB2 := MBk_A (p := 100 + cR (sX s)) (v := nI i) b4 (MC_ufR o1 (by omega) b4.2.2.1 (by omega)) (PMg_uf o3 b4.2.2.2.1 (by omega)) (by omega)
      have hR2 : RwB (sA M2 140 (upd (mA M2 140) (3072 + (100 + cR (sX s))) (nI i))) T n (sX s) (sY s) (sW s) (sH s) i 0 (fun _ => 0) := by
        refine ⟨hB2, ?_, fun i hi => by omega⟩
        rw [gM_A, uf_at, if_pos rfl]
      have b2' : TkM (sA M2 140 (upd (mA M2 140) (3072 + (100 + cR (sX s))) (nI i))) (nx T n (nx T n (sT s))) := b2
      have w5 := o1.1
      have g := q_l55 o1 (by omega) o3 10 FU 0 (fun _ => 0) (nx T n (nx T n (sT s))) _ (by omega) (by omega) (FU_lt (by omega)) hR2 b2' b3 (nx_le (nx_le ha))
      have toM : ∀ R, f_RM_readRow_l55 FU (nI (cR (sX s))) (nI 0) (sA M2 140 (upd (mA M2 140) (3072 + (100 + cR (sX s))) (nI i))) = R → f_RM_readRow M = R := by
        intro R hR
        refine toL _ ?_
        rw [f_RM_readRow_l25]
        simp (disch := first | assumption | omega) only [z_bdn, z_caln, z_gdn, z_iT, z_iF, z_le_t, z_le_f, z_lt_t, z_lt_f, z_cl, z_inb, z_at, z_pl, z_lit, nI_ii1, nI_add, nI_mul, z_eq_f, z_refuse, z_no, z_M00, b2i_t, b2i_f, h12, a1, b1, e5]
        exact hR
      have hF : FrX M (sA M2 140 (upd (mA M2 140) (3072 + (100 + cR (sX s))) (nI i))) := (FrX.T a5).tr ((FrX.T b5).tr (FrX.A (by omega)))
      cases hp2 : pRun T n (cW (sX s)) 10 0 (fun _ => 0) (nx T n (nx T n (sT s))) with
      | error er =>
        have ep : pRow T n s = .error er := by
          unfold pRow
          rw [if_neg h0, hp]
          show (match pRun T n (cW (sX s)) 10 0 (fun _ => 0) (nx T n (nx T n (sT s))) with
            | .error e => .error e
            | .ok r => .ok (r.2, knX (sX s) i r.1, sY s, sW s, sH s) : Except Er Ps) = _
          rw [hp2]
        rw [ep]
        rw [hp2] at g
        obtain ⟨M3, g1, g2, g3⟩ := g
        exact ⟨M3, toM _ g1, g2, hF.tr g3⟩
      | ok r =>
        have ep : pRow T n s = .ok (r.2, knX (sX s) i r.1, sY s, sW s, sH s) := by
          unfold pRow
          rw [if_neg h0, hp]
          show (match pRun T n (cW (sX s)) 10 0 (fun _ => 0) (nx T n (nx T n (sT s))) with
            | .error e => .error e
            | .ok r => .ok (r.2, knX (sX s) i r.1, sY s, sW s, sH s) : Except Er Ps) = _
          rw [hp2]
        rw [ep]
        rw [hp2] at g
        obtain ⟨M3, g1, g2, g3⟩ := g
        refine ⟨M3, toM _ g1, hF.tr g2, ?_⟩
        rcases g3 with ⟨k1, k2, k3⟩ | k
        · exact Or.inl ⟨k1, k2, k3⟩
        · exact Or.inr k
theorem cal_u (f : Option (Unit × kx_M)) : (cal f fun _ M => some ((), M)) = f := by
  cases f with
  | none => rfl
  | some p => rfl
theorem q_partEq (hT : TkM M t) : f_RM_readPart M = if isK t 0 = true then f_RM_readOnce (0 : Int32) (1 : Int32) (8 : Int32) M else if isK t 1 = true then f_RM_readOnce (1 : Int32) (1 : Int32) (50 : Int32) M else if isK t 2 = true then f_RM_readQueen M else if isK t 4 = true then f_RM_readClause M else if isK t 6 = true then f_RM_readClash M else if isK t 7 = true then f_RM_readWorth (52 : Int32) M else if isK t 8 = true then f_RM_readWorth (76 : Int32) M else if isK t 9 = true then f_RM_readRow M else f_RM_amiss M := by
  rw [f_RM_readPart]
  refine (c_step (q_isWide hT)).trans ?_
  cases h0 : isK t 0 with
  | true => exact cal_u _
  | false =>
    show (if false = true then _ else _) = (if false = true then _ else _)
    rw [z_itf, z_itf]
    refine (c_step (q_isTough hT)).trans ?_
    cases h1 : isK t 1 with
    | true => exact cal_u _
    | false =>
      show (if false = true then _ else _) = (if false = true then _ else _)
      rw [z_itf, z_itf]
      refine (c_step (q_isQueen hT)).trans ?_
      cases h2 : isK t 2 with
      | true => exact cal_u _
      | false =>
        show (if false = true then _ else _) = (if false = true then _ else _)
        rw [z_itf, z_itf]
        refine (c_step (q_isClause hT)).trans ?_
        cases h4 : isK t 4 with
        | true => exact cal_u _
        | false =>
          show (if false = true then _ else _) = (if false = true then _ else _)
          rw [z_itf, z_itf]
          refine (c_step (q_isClash hT)).trans ?_
          cases h6 : isK t 6 with
          | true => exact cal_u _
          | false =>
            show (if false = true then _ else _) = (if false = true then _ else _)
            rw [z_itf, z_itf]
            refine (c_step (q_isGives hT)).trans ?_
            cases h7 : isK t 7 with
            | true => exact cal_u _
            | false =>
              show (if false = true then _ else _) = (if false = true then _ else _)
              rw [z_itf, z_itf]
              refine (c_step (q_isCosts hT)).trans ?_
              cases h8 : isK t 8 with
              | true => exact cal_u _
              | false =>
                show (if false = true then _ else _) = (if false = true then _ else _)
                rw [z_itf, z_itf]
                refine (c_step (q_isRow hT)).trans ?_
                cases h9 : isK t 9 with
                | true => exact cal_u _
                | false => exact cal_u _
theorem q_mBody (h : MPs M T n s) (hO : POk n s) : RsB T n M (f_RM_readPart M) (pBody T n s) := by
  have hT := h.2.1
  have h12 := h.1.2.1
  rw [q_partEq hT]
  unfold pBody
  cases h0 : isK (sT s) 0 with
  | true => exact RsB.of (q_mMea (isW := true) h hO (ik h0).1)
  | false =>
    rw [z_itf, z_itf]
    cases h1 : isK (sT s) 1 with
    | true => exact RsB.of (q_mMea (isW := false) h hO (ik h1).1)
    | false =>
      rw [z_itf, z_itf]
      cases h2 : isK (sT s) 2 with
      | true => exact RsB.of (q_mQue h hO (ik h2).1)
      | false =>
        rw [z_itf, z_itf]
        cases h4 : isK (sT s) 4 with
        | true => exact RsB.of (q_mCla h hO (ik h4).1)
        | false =>
          rw [z_itf, z_itf]
          cases h6 : isK (sT s) 6 with
          | true => exact RsB.of (q_mClh h hO)
          | false =>
            rw [z_itf, z_itf]
            cases h7 : isK (sT s) 7 with
            | true => exact RsB.of (q_mWor (v := 0) (by omega) h hO)
            | false =>
              rw [z_itf, z_itf]
              cases h8 : isK (sT s) 8 with
              | true => exact RsB.of (q_mWor (v := 1) (by omega) h hO)
              | false =>
                rw [z_itf, z_itf]
                cases h9 : isK (sT s) 9 with
                | true => exact q_mRow h hO (ik h9).1
                | false =>
                  rw [z_itf, z_itf]
                  exact q_amiss h12 hT
theorem q_isSg {c : Nat} (hT : TkM M t) (hB : TkB t) (hc : c < 256) : f_RM_isSign (nI c) M = some (b2i (decide (kS t = 4 ∧ kV t = c)), M) := by
  have h14 := hT.1
  have hs4 := hT.2.2.2.2.2.2.2
  have z4 := z_sM4 hs4
  rw [f_RM_isSign]
  by_cases h4 : kS t = 4
  · rw [eq_true h4] at z4
    have e17 := hT.2.2.2.1 (Or.inr h4)
    have hv := hB.2.2.2.2.2.1 h4
    by_cases h5 : kV t = c
    · rw [decide_eq_true ⟨h4, h5⟩]
      rw [h5] at e17
      simp (disch := first | assumption | omega) only [z_bdn, z_caln, z_gdn, z_iT, z_iF, z_le_t, z_le_f, z_lt_t, z_lt_f, z_cl, z_inb, z_at, z_pl, z_lit, nI_ii1, nI_add, nI_mul, z_eq_f, z_refuse, z_no, z_M00, b2i_t, b2i_f, h14, z4, e17, eq_self]
    · rw [decide_eq_false (fun g => h5 g.2)]
      simp (disch := first | assumption | omega) only [z_bdn, z_caln, z_gdn, z_iT, z_iF, z_le_t, z_le_f, z_lt_t, z_lt_f, z_cl, z_inb, z_at, z_pl, z_lit, nI_ii1, nI_add, nI_mul, z_eq_f, z_refuse, z_no, z_M00, b2i_t, b2i_f, h14, z4, e17]
  · rw [eq_false h4] at z4
    rw [decide_eq_false (fun g => h4 g.1)]
    simp (disch := first | assumption | omega) only [z_bdn, z_caln, z_gdn, z_iT, z_iF, z_le_t, z_le_f, z_lt_t, z_lt_f, z_cl, z_inb, z_at, z_pl, z_lit, nI_ii1, nI_add, nI_mul, z_eq_f, z_refuse, z_no, z_M00, b2i_t, b2i_f, h14, z4]
theorem b_isSg (c : Int32) (M : kx_M) : ∃ v, f_RM_isSign c M = some (v, M) := by
  rw [f_RM_isSign]
  split
  · split
    · exact ⟨_, rfl⟩
    · exact ⟨_, rfl⟩
  · exact ⟨_, rfl⟩
theorem q_mPart (h : MPs M T n s) (hO : POk n s) : RsP T n M (pPart T n s) := by
  have g := q_mBody h hO
  cases hp : pBody T n s with
  | error er =>
    have ep : pPart T n s = .error er := by unfold pPart; rw [hp]
    rw [ep]
    rw [hp] at g
    obtain ⟨M1, g1, g2, g3⟩ := g
    obtain ⟨v, hv⟩ := b_isSg (nI 59) M1
    exact ⟨M1, v, M1, g1, hv, b_must g2 v, g3, g2⟩
  | ok s1 =>
    rw [hp] at g
    obtain ⟨M1, g1, g3, g2⟩ := g
    have hO1 := pBody_ok hO hp
    rcases g2 with ⟨k1, k2, k3⟩ | ⟨k1, k2⟩
    · have hS := q_isSg (c := 59) k2 k3 (by omega)
      by_cases h5 : kS (sT s1) = 4 ∧ kV (sT s1) = 59
      · have ep : pPart T n s = .ok (nx T n (sT s1), s1.2) := by
          unfold pPart
          rw [hp]
          show (match pSig T n 59 (sT s1) with
            | .error e => .error e
            | .ok t => .ok (t, s1.2) : Except Er Ps) = _
          unfold pSig
          rw [if_pos h5]
          rfl
        rw [ep]
        rw [decide_eq_true h5] at hS
        obtain ⟨M3, d1, d2, d3, d4, d5⟩ := q_must1 k1 k2 hO1.2.2.2.2.2
        exact ⟨M1, nI 1, M3, g1, hS, d1, g3.tr (FrX.T d5), ⟨d4, d2, d3⟩⟩
      · have ep : pPart T n s = .error (flt (sT s1) 2) := by
          unfold pPart
          rw [hp]
          show (match pSig T n 59 (sT s1) with
            | .error e => .error e
            | .ok t => .ok (t, s1.2) : Except Er Ps) = _
          unfold pSig
          rw [if_neg h5]
        rw [ep]
        rw [decide_eq_false h5] at hS
        obtain ⟨M3, d1, d2, d3⟩ := q_must0 k1.2.1 k2
        exact ⟨M1, nI 0, M3, g1, hS, d1, g3.tr d3, d2⟩
    · have ep : pPart T n s = .error (flt (sT s1) 2) := by
        unfold pPart
        rw [hp]
        show (match pSig T n 59 (sT s1) with
          | .error e => .error e
          | .ok t => .ok (t, s1.2) : Except Er Ps) = _
        unfold pSig
        rw [if_neg (by omega)]
      rw [ep]
      obtain ⟨v, hv⟩ := b_isSg (nI 59) M1
      exact ⟨M1, v, M1, g1, hv, b_must k2 v, g3, k2⟩
end
