/-! ## a TREATY's text: the reference's clauses, quarrels and worths -/
section
variable {M M' M1 : kx_M} {T : Nat → Nat} {n : Nat} {t : Tok} {x : Cl} {y : De} {a b : Bool} {s : Ps} {e : Er}
theorem b_isWord (w : Int64) (M : kx_M) : ∃ v : Bool, f_RM_isWord w M = some (b2i v, M) := by
  rw [f_RM_isWord]
  split
  · split
    · exact ⟨true, rfl⟩
    · exact ⟨false, rfl⟩
  · exact ⟨false, rfl⟩
theorem b_isIs (M : kx_M) : ∃ v : Bool, f_RM_isIs M = some (b2i v, M) := by
  obtain ⟨v, e⟩ := b_isWord (bJ (knownN 5)) M
  refine ⟨v, ?_⟩
  rw [f_RM_isIs]
  simp (disch := first | assumption | omega) only [z_bdn, z_caln, z_gdn, z_iT, z_iF, z_le_t, z_le_f, z_lt_t, z_lt_f, z_cl, z_inb, z_at, z_pl, z_lit, nI_ii1, nI_add, nI_mul, z_eq_f, z_refuse, z_no, z_M00, b2i_t, b2i_f, s_is, e, z_b01]
theorem q_mCla (h : MPs M T n s) (hO : POk n s) (hk2 : kS (sT s) = 2) : RsM T n M (f_RM_readClause M) (pCla T n s) := by
  obtain ⟨hB, hT, hTB⟩ := h
  obtain ⟨o1, -, o3, -, -, ha⟩ := hO
  have w2 := o3.2.1
  have hN := q_readNew (v := 1) (mo := 6) (by omega) (by omega) o3 hB hT hTB ha hk2
  have e0 : cntV (sY s) 1 = dC (sY s) := rfl
  rw [e0] at hN
  have bad : ∀ er, (∃ M', f_RM_readNew (nI 1) (nI 6) M = some (nI 0, M') ∧ Bd M' er ∧ FrX M M') → RsM T n M (f_RM_readClause M) (.error er) := by
    intro er ⟨M1, a1, a2, a3⟩
    have z := b_eq a2
    obtain ⟨Mf, g1, g2, g3⟩ := b_l36 (c := 0) (k := 0) (by omega) a2
    refine ⟨Mf, ?_, g2, a3.tr g3⟩
    have hm : ∀ v, f_RM_must v M1 = some ((), M1) := b_must a2
    obtain ⟨r, hi⟩ := b_isIs M1
    rw [f_RM_readClause]
    simp (disch := first | assumption | omega) only [z_bdn, z_caln, z_gdn, z_iT, z_iF, z_le_t, z_le_f, z_lt_t, z_lt_f, z_cl, z_inb, z_at, z_pl, z_lit, nI_ii1, nI_add, nI_mul, z_eq_f, z_refuse, z_no, z_M00, b2i_t, b2i_f, a1, hi, hm, z, g1]
  unfold pCla
  by_cases h0 : 6 ≤ dC (sY s)
  · rw [if_pos h0]
    rw [if_pos h0] at hN
    exact bad _ hN
  · rw [if_neg h0]
    rw [if_neg h0] at hN
    cases hp : pNew (sY s) (nx T n (sT s)) with
    | error er =>
      rw [hp] at hN
      exact bad _ hN
    | ok u =>
      rw [hp] at hN
      obtain ⟨M1, a1, a2, a3, a4, a5, a6⟩ := hN
      have h12 := a4.2.1
      have eI := q_isIs a2
      have a5 : hM M1 (4 + dC (sY s)) = bJ (kW (nx T n (sT s))) := by rw [← a5, show 4 * 1 + dC (sY s) = 4 + dC (sY s) by omega]
      show RsM T n M _ (if isK (nx T n (nx T n (sT s))) 5 = true then _ else _)
      by_cases hk : isK (nx T n (nx T n (sT s))) 5 = true
      · rw [if_pos hk]
        rw [hk] at eI
        obtain ⟨M2, b1, b2, b3, b4, b5⟩ := q_must1 a4 a2 (nx_le (nx_le ha))
        have h12b := b4.2.1
        have eK := q_kindWord b2
        have toL : ∀ R, (cal (f_RM_kindWord M2) fun r7 M4 => if 0 ≤ r7 then f_RM_readClause_l36 FU (nI (dC (sY s))) 0 M4 else cal (f_RM_amiss M4) fun _ M5 => f_RM_readClause_l36 FU (nI (dC (sY s))) 0 M5) = R → f_RM_readClause M = R := by
          intro R hR
          rw [f_RM_readClause]
          simp (disch := first | assumption | omega) only [z_bdn, z_caln, z_gdn, z_iT, z_iF, z_le_t, z_le_f, z_lt_t, z_lt_f, z_cl, z_inb, z_at, z_pl, z_lit, nI_ii1, nI_add, nI_mul, z_eq_f, z_refuse, z_no, z_M00, b2i_t, b2i_f, a1, eI, b1, h12b]
          exact hR
        cases hkd : kdK (nx T n (nx T n (nx T n (sT s)))) with
        | none =>
          rw [hkd] at eK
          have eK : f_RM_kindWord M2 = some (-nI 1, M2) := eK
          obtain ⟨Mf, f1, f2, f3⟩ := q_amiss h12b b2
          have ep : pKds T n (min 5 (cW (sX s))) 7 0 (fun _ => 0) (nx T n (nx T n (nx T n (sT s)))) = .error (flt (nx T n (nx T n (nx T n (sT s)))) 2) := by
            unfold pKds
            rw [hkd]
            rfl
          rw [ep]
          obtain ⟨Mg, g1, g2, g3⟩ := b_l36 (c := dC (sY s)) (k := 0) (by omega) f2
          refine ⟨Mg, toL _ ?_, g2, a6.tr ((FrX.T b5).tr (f3.tr g3))⟩
          have z1 : (nI 0 ≤ -nI 1) = False := eq_false (by decide)
          simp (disch := first | assumption | omega) only [z_bdn, z_caln, z_gdn, z_iT, z_iF, z_le_t, z_le_f, z_lt_t, z_lt_f, z_cl, z_inb, z_at, z_pl, z_lit, nI_ii1, nI_add, nI_mul, z_eq_f, z_refuse, z_no, z_M00, b2i_t, b2i_f, eK, z1, f1, g1]
        | some v =>
          rw [hkd] at eK
          have eK : f_RM_kindWord M2 = some (nI v, M2) := eK
          have hv := kdK_lt hkd
          have g := q_l36 (nm := bJ (kW (nx T n (sT s)))) o1 o3 (by omega) 7 FU 0 (fun _ => 0) (nx T n (nx T n (nx T n (sT s)))) M2 (by omega) (by omega) (FU_lt (by omega)) (fun _ g => by rw [hkd] at g; cases g) b4 b2 b3 (nx_le (nx_le (nx_le ha))) (by rw [FrT_h b5]; exact a5) (fun i hi => by omega)
          cases hp2 : pKds T n (min 5 (cW (sX s))) 7 0 (fun _ => 0) (nx T n (nx T n (nx T n (sT s)))) with
          | ok r =>
            rw [hp2] at g
            obtain ⟨M3, g1, g2, g3, g4, g5⟩ := g
            refine ⟨M3, toL _ ?_, ⟨g2, g3, g4⟩, a6.tr ((FrX.T b5).tr g5)⟩
            simp (disch := first | assumption | omega) only [z_bdn, z_caln, z_gdn, z_iT, z_iF, z_le_t, z_le_f, z_lt_t, z_lt_f, z_cl, z_inb, z_at, z_pl, z_lit, nI_ii1, nI_add, nI_mul, z_eq_f, z_refuse, z_no, z_M00, b2i_t, b2i_f, eK, g1]
          | error er =>
            rw [hp2] at g
            obtain ⟨M3, g1, g2, g3⟩ := g
            refine ⟨M3, toL _ ?_, g2, a6.tr ((FrX.T b5).tr g3)⟩
            simp (disch := first | assumption | omega) only [z_bdn, z_caln, z_gdn, z_iT, z_iF, z_le_t, z_le_f, z_lt_t, z_lt_f, z_cl, z_inb, z_at, z_pl, z_lit, nI_ii1, nI_add, nI_mul, z_eq_f, z_refuse, z_no, z_M00, b2i_t, b2i_f, eK, g1]
      · rw [if_neg hk]
        rw [Bool.eq_false_iff.mpr hk] at eI
        obtain ⟨Mf, f1, f2, f3⟩ := q_must0 h12 a2
        have z := b_eq f2
        obtain ⟨Mg, g1, g2, g3⟩ := b_l36 (c := dC (sY s)) (k := 0) (by omega) f2
        refine ⟨Mg, ?_, g2, a6.tr (f3.tr g3)⟩
        rw [f_RM_readClause]
        simp (disch := first | assumption | omega) only [z_bdn, z_caln, z_gdn, z_iT, z_iF, z_le_t, z_le_f, z_lt_t, z_lt_f, z_cl, z_inb, z_at, z_pl, z_lit, nI_ii1, nI_add, nI_mul, z_eq_f, z_refuse, z_no, z_M00, b2i_t, b2i_f, a1, eI, f1, z, g1]
theorem nI_sh : ∀ b, b < 6 → nI 1 <<< (nI b &&& nI 31) = nI (2 ^ b) := by decide
theorem setN_one : ∀ b, b < 6 → setN (fun i => decide (i = b)) 6 = 2 ^ b := by decide
theorem PMg_X {g : Nat → Int32} {h : Nat → Int64} {i j : Nat} (hi : i < 6) (hj : j < 6) (hD : PMg g h y) (hc : dQ y ≤ 4 ∧ dC y ≤ 6) (hl : ∀ k, k < dC y → dL y k ≤ 5) : PMg (uf g (46 + i) (nI (setN (fun p => decide (dX y (6 * i + p) = 1)) 6 ||| 2 ^ j))) h (wdX y (updN (dX y) (6 * i + j) 1)) := by
  obtain ⟨h1, h2, h3, h4, h5, h6, h7⟩ := hD
  refine ⟨by rw [uf_at, if_neg (by omega)]; exact h1, by rw [uf_at, if_neg (by omega)]; exact h2, fun q hq => ?_, fun k hk => ?_, fun k p hk hp => ?_, fun k hk => ?_, fun v q k hv hq hk => by rw [uf_at, if_neg (by omega)]; exact h7 v q k hv hq hk⟩
  · have hq : q < dQ y := hq
    rw [uf_at, if_neg (by omega)]; exact h3 q hq
  · have hk : k < dC y := hk
    rw [uf_at, if_neg (by omega)]; exact h4 k hk
  · have hk : k < dC y := hk
    have hp : p < dL y k := hp
    have := hl k hk
    rw [uf_at, if_neg (by omega)]; exact h5 k p hk hp
  · show _ = nI (setN (fun p => decide (updN (dX y) (6 * i + j) 1 (6 * k + p) = 1)) 6)
    rw [uf_at]
    by_cases he : k = i
    · subst he
      rw [if_pos rfl, ← setN_one j hj, setN_or]
      refine congrArg nI (setN_congr (fun p hp => ?_))
      unfold updN
      by_cases hp2 : p = j
      · rw [if_pos (by omega), decide_eq_true hp2, Bool.or_true]; rfl
      · rw [if_neg (by omega), decide_eq_false hp2, Bool.or_false]
    · rw [if_neg (by omega), h6 k hk]
      refine congrArg nI (setN_congr (fun p hp => ?_))
      unfold updN
      rw [if_neg (by omega)]
theorem PMg_V {g : Nat → Int32} {h : Nat → Int64} {v q k u : Nat} (hv : v < 2) (hq : q < 4) (hk : k < 6) (hD : PMg g h y) (hc : dQ y ≤ 4 ∧ dC y ≤ 6) (hl : ∀ k, k < dC y → dL y k ≤ 5) : PMg (uf g (52 + 24 * v + 6 * q + k) (nI u)) h (wdV y (updN (dV y) (24 * v + 6 * q + k) u)) := by
  obtain ⟨h1, h2, h3, h4, h5, h6, h7⟩ := hD
  refine ⟨by rw [uf_at, if_neg (by omega)]; exact h1, by rw [uf_at, if_neg (by omega)]; exact h2, fun q hq => ?_, fun k hk => ?_, fun k p hk hp => ?_, fun k hk => by rw [uf_at, if_neg (by omega)]; exact h6 k hk, fun v2 q2 k2 hv2 hq2 hk2 => ?_⟩
  · have hq : q < dQ y := hq
    rw [uf_at, if_neg (by omega)]; exact h3 q hq
  · have hk : k < dC y := hk
    rw [uf_at, if_neg (by omega)]; exact h4 k hk
  · have hk : k < dC y := hk
    have hp : p < dL y k := hp
    have := hl k hk
    rw [uf_at, if_neg (by omega)]; exact h5 k p hk hp
  · rw [uf_at]
    show _ = nI (updN (dV y) (24 * v + 6 * q + k) u (24 * v2 + 6 * q2 + k2))
    unfold updN
    by_cases he : 24 * v2 + 6 * q2 + k2 = 24 * v + 6 * q + k
    · rw [if_pos (by omega), if_pos he]
    · rw [if_neg (by omega), if_neg he]; exact h7 v2 q2 k2 hv2 hq2 hk2
theorem q_mClh (h : MPs M T n s) (hO : POk n s) : RsM T n M (f_RM_readClash M) (pClh T n s) := by
  obtain ⟨hB, hT, hTB⟩ := h
  obtain ⟨o1, -, o3, -, -, ha⟩ := hO
  have w1 := o3.1
  have w2 := o3.2.1
  have wl : ∀ k, k < dC (sY s) → dL (sY s) k ≤ 5 := fun k hk => (o3.2.2.2.1 k hk).2.1
  have ic : ∀ {w i : Nat}, idC (sY s) w = some i → i < dC (sY s) := fun g => by have := idF_ok g; omega
  obtain ⟨M1, a1, a2, a3, a4, a5⟩ := q_ad hB hT ha
  have r1 := q_readToldG (v := 1) a4 a2 (nx_le ha) (fun hk => q_namC o3 a4 a2 hk) (fun i hi => by have := ic hi; omega)
  unfold pClh
  cases hp : pOld (idC (sY s) (kW (nx T n (sT s)))) (nx T n (sT s)) with
  | error er =>
    rw [hp] at r1
    obtain ⟨M2, b1, b2, b3⟩ := r1
    have zt := b_told b2 (nI 4) (nI 1)
    have z := b_eq b2
    have zl := b_le b2
    have zm := b_must b2 (nI 1)
    refine ⟨M2, ?_, b2, (FrX.T a5).tr b3⟩
    have g1 : f_RM_readClash_l39 (nI 0) (nI 0) M2 = some ((), M2) := by
      rw [f_RM_readClash_l39]
      simp (disch := first | assumption | omega) only [z_bdn, z_caln, z_gdn, z_iT, z_iF, z_le_t, z_le_f, z_lt_t, z_lt_f, z_cl, z_inb, z_at, z_pl, z_lit, nI_ii1, nI_add, nI_mul, z_eq_f, z_refuse, z_no, z_M00, b2i_t, b2i_f, zm, zl]
    rw [f_RM_readClash]
    simp (disch := first | assumption | omega) only [z_bdn, z_caln, z_gdn, z_iT, z_iF, z_le_t, z_le_f, z_lt_t, z_lt_f, z_cl, z_inb, z_at, z_pl, z_lit, nI_ii1, nI_add, nI_mul, z_eq_f, z_refuse, z_no, z_M00, b2i_t, b2i_f, a1, b1, zt, z, g1]
  | ok i =>
    have hi := ic (pOld_ok hp).2
    rw [hp] at r1
    obtain ⟨M2, b1, b2, b3, b4, b5⟩ := r1
    have h12 := b4.2.1
    have h15 := b2.2.1
    have r2 := q_toldG (v := 1) b4 b2 (fun hk => q_namC o3 b4 b2 hk) (fun i hi => by have := ic hi; omega)
    show RsM T n M _ (match pOld (idC (sY s) (kW (nx T n (nx T n (sT s))))) (nx T n (nx T n (sT s))) with
      | .error e => .error e
      | .ok b => if b = i then .error (flt (nx T n (nx T n (sT s))) 5) else .ok (nx T n (nx T n (nx T n (sT s))), sX s, qrY (sY s) i b 1, sW s, sH s))
    cases hp2 : pOld (idC (sY s) (kW (nx T n (nx T n (sT s))))) (nx T n (nx T n (sT s))) with
    | error er =>
      rw [hp2] at r2
      obtain ⟨M3, c1, c2, c3⟩ := r2
      have z := b_eq c2
      have zl := b_le c2
      have zm := b_must c2 (nI 1)
      refine ⟨M3, ?_, c2, (FrX.T a5).tr ((FrX.T b5).tr c3)⟩
      have g1 : f_RM_readClash_l39 (nI i) (nI 0) M3 = some ((), M3) := by
        rw [f_RM_readClash_l39]
        simp (disch := first | assumption | omega) only [z_bdn, z_caln, z_gdn, z_iT, z_iF, z_le_t, z_le_f, z_lt_t, z_lt_f, z_cl, z_inb, z_at, z_pl, z_lit, nI_ii1, nI_add, nI_mul, z_eq_f, z_refuse, z_no, z_M00, b2i_t, b2i_f, zm, zl]
      rw [f_RM_readClash]
      simp (disch := first | assumption | omega) only [z_bdn, z_caln, z_gdn, z_iT, z_iF, z_le_t, z_le_f, z_lt_t, z_lt_f, z_cl, z_inb, z_at, z_pl, z_lit, nI_ii1, nI_add, nI_mul, z_eq_f, z_refuse, z_no, z_M00, b2i_t, b2i_f, a1, b1, c1, z, g1]
    | ok j =>
      have hj := ic (pOld_ok hp2).2
      have hk2 := (ik (pOld_ok hp2).1).1
      rw [hp2] at r2
      have c1 : f_RM_told (nI 4) (nI 1) M2 = some (nI j, M2) := r2
      show RsM T n M _ (if j = i then _ else _)
      by_cases hij : j = i
      · rw [if_pos hij]
        obtain ⟨Mf, f1, f2, f3⟩ := q_failM (k := 5) (p := kP (nx T n (nx T n (sT s)))) h12 (by omega)
        have zl := b_le f2
        have zm := b_must f2 (nI 1)
        rw [flt_ne (by omega)]
        refine ⟨Mf, ?_, f2, (FrX.T a5).tr ((FrX.T b5).tr f3)⟩
        have g1 : f_RM_readClash_l39 (nI i) (nI i) Mf = some ((), Mf) := by
          rw [f_RM_readClash_l39]
          simp (disch := first | assumption | omega) only [z_bdn, z_caln, z_gdn, z_iT, z_iF, z_le_t, z_le_f, z_lt_t, z_lt_f, z_cl, z_inb, z_at, z_pl, z_lit, nI_ii1, nI_add, nI_mul, z_eq_f, z_refuse, z_no, z_M00, b2i_t, b2i_f, zm, zl]
        rw [hij] at c1
        rw [f_RM_readClash]
        simp (disch := first | assumption | omega) only [z_bdn, z_caln, z_gdn, z_iT, z_iF, z_le_t, z_le_f, z_lt_t, z_lt_f, z_cl, z_inb, z_at, z_pl, z_lit, nI_ii1, nI_add, nI_mul, z_eq_f, z_refuse, z_no, z_M00, b2i_t, b2i_f, a1, b1, c1, h12, eq_self, h15, f1, g1]
      · rw [if_neg hij]
        obtain ⟨M3, d1, d2, d3, d4, d5⟩ := q_must1 b4 b2 (nx_le (nx_le ha))
        have h12d := d4.2.1
        have gi : mA M3 140 (3072 + (46 + i)) = nI (setN (fun p => decide (dX (sY s) (6 * i + p) = 1)) 6) := d4.2.2.2.1.2.2.2.2.2.1 i (by omega)
        have hB1 := MBk_A (p := 46 + i) (v := nI (setN (fun p => decide (dX (sY s) (6 * i + p) = 1)) 6 ||| 2 ^ j)) d4 (MC_uf d4.2.2.1 (by omega)) (PMg_X (i := i) (j := j) (by omega) (by omega) d4.2.2.2.1 ⟨w1, w2⟩ wl) (by omega)
        have gj : mA (sA M3 140 (upd (mA M3 140) (3072 + (46 + i)) (nI (setN (fun p => decide (dX (sY s) (6 * i + p) = 1)) 6 ||| 2 ^ j)))) 140 (3072 + (46 + j)) = nI (setN (fun p => decide (dX (wdX (sY s) (updN (dX (sY s)) (6 * i + j) 1)) (6 * j + p) = 1)) 6) := hB1.2.2.2.1.2.2.2.2.2.1 j (by omega)
        have hB2 := MBk_A (p := 46 + j) (v := nI (setN (fun p => decide (dX (wdX (sY s) (updN (dX (sY s)) (6 * i + j) 1)) (6 * j + p) = 1)) 6 ||| 2 ^ i)) hB1 (MC_uf hB1.2.2.1 (by omega)) (PMg_X (i := j) (j := i) (by omega) (by omega) hB1.2.2.2.1 ⟨w1, w2⟩ wl) (by omega)
        have toL : ∀ R, f_RM_readClash_l39 (nI i) (nI j) M2 = R → f_RM_readClash M = R := by
          intro R hR
          rw [f_RM_readClash]
          simp (disch := first | assumption | omega) only [z_bdn, z_caln, z_gdn, z_iT, z_iF, z_le_t, z_le_f, z_lt_t, z_lt_f, z_cl, z_inb, z_at, z_pl, z_lit, nI_ii1, nI_add, nI_mul, z_eq_f, z_refuse, z_no, z_M00, b2i_t, b2i_f, a1, b1, c1, h12]
          exact hR
        refine ⟨_, toL _ ?_, ⟨hB2, d2, d3⟩, (FrX.T a5).tr ((FrX.T b5).tr ((FrX.T d5).tr ((FrX.A (by omega)).tr (FrX.A (by omega)))))⟩
        have e1 : 3118 + i = 3072 + (46 + i) := by omega
        have e2 : 3118 + j = 3072 + (46 + j) := by omega
        have s1 := nI_sh i (by omega)
        have s2 := nI_sh j (by omega)
        rw [f_RM_readClash_l39]
        simp (disch := first | assumption | omega) only [z_bdn, z_caln, z_gdn, z_iT, z_iF, z_le_t, z_le_f, z_lt_t, z_lt_f, z_cl, z_inb, z_at, z_pl, z_lit, nI_ii1, nI_add, nI_mul, z_eq_f, z_refuse, z_no, z_M00, b2i_t, b2i_f, d1, h12d, e1, e2, gi, s2, nx_or, gj, s1]
theorem q_mWor {v : Nat} (hv : v < 2) (h : MPs M T n s) (hO : POk n s) : RsM T n M (f_RM_readWorth (nI (52 + 24 * v)) M) (pWor T n v s) := by
  obtain ⟨hB, hT, hTB⟩ := h
  obtain ⟨o1, -, o3, -, -, ha⟩ := hO
  have w1 := o3.1
  have w2 := o3.2.1
  have wl : ∀ k, k < dC (sY s) → dL (sY s) k ≤ 5 := fun k hk => (o3.2.2.2.1 k hk).2.1
  have ic : ∀ {w i : Nat}, idC (sY s) w = some i → i < dC (sY s) := fun g => by have := idF_ok g; omega
  have iq : ∀ {w i : Nat}, idQ (sY s) w = some i → i < dQ (sY s) := fun g => by have := idF_ok g; omega
  obtain ⟨M1, a1, a2, a3, a4, a5⟩ := q_ad hB hT ha
  have r1 := q_readToldG (v := 0) a4 a2 (nx_le ha) (fun hk => q_namQ o3 a4 a2 hk) (fun i hi => by have := iq hi; omega)
  unfold pWor
  cases hp : pOld (idQ (sY s) (kW (nx T n (sT s)))) (nx T n (sT s)) with
  | error er =>
    rw [hp] at r1
    obtain ⟨M2, b1, b2, b3⟩ := r1
    have zt := b_readTold b2 (nI 4) (nI 1)
    have zc := b_count b2 (nI 0) (nI 99)
    have z := b_eq b2
    refine ⟨M2, ?_, b2, (FrX.T a5).tr b3⟩
    rw [f_RM_readWorth]
    simp (disch := first | assumption | omega) only [z_bdn, z_caln, z_gdn, z_iT, z_iF, z_le_t, z_le_f, z_lt_t, z_lt_f, z_cl, z_inb, z_at, z_pl, z_lit, nI_ii1, nI_add, nI_mul, z_eq_f, z_refuse, z_no, z_M00, b2i_t, b2i_f, a1, b1, zt, zc, z]
  | ok i =>
    have hi := iq (pOld_ok hp).2
    rw [hp] at r1
    obtain ⟨M2, b1, b2, b3, b4, b5⟩ := r1
    have r2 := q_readToldG (v := 1) b4 b2 (nx_le (nx_le ha)) (fun hk => q_namC o3 b4 b2 hk) (fun i hi => by have := ic hi; omega)
    show RsM T n M _ (match pOld (idC (sY s) (kW (nx T n (nx T n (sT s))))) (nx T n (nx T n (sT s))) with
      | .error e => .error e
      | .ok k => match pNum 0 99 (nx T n (nx T n (nx T n (sT s)))) with
        | .error e => .error e
        | .ok u => .ok (nx T n (nx T n (nx T n (nx T n (sT s)))), sX s, wdV (sY s) (updN (dV (sY s)) (24 * v + 6 * i + k) u), sW s, sH s))
    cases hp2 : pOld (idC (sY s) (kW (nx T n (nx T n (sT s))))) (nx T n (nx T n (sT s))) with
    | error er =>
      rw [hp2] at r2
      obtain ⟨M3, c1, c2, c3⟩ := r2
      have zc := b_count c2 (nI 0) (nI 99)
      have z := b_eq c2
      refine ⟨M3, ?_, c2, (FrX.T a5).tr ((FrX.T b5).tr c3)⟩
      rw [f_RM_readWorth]
      simp (disch := first | assumption | omega) only [z_bdn, z_caln, z_gdn, z_iT, z_iF, z_le_t, z_le_f, z_lt_t, z_lt_f, z_cl, z_inb, z_at, z_pl, z_lit, nI_ii1, nI_add, nI_mul, z_eq_f, z_refuse, z_no, z_M00, b2i_t, b2i_f, a1, b1, c1, zc, z]
    | ok j =>
      have hj := ic (pOld_ok hp2).2
      rw [hp2] at r2
      obtain ⟨M3, c1, c2, c3, c4, c5⟩ := r2
      have hn := q_cntM (lo := 0) (hi := 99) c4 c2 c3 (nx_le (nx_le (nx_le ha))) (by omega) (by omega)
      show RsM T n M _ (match pNum 0 99 (nx T n (nx T n (nx T n (sT s)))) with
        | .error e => .error e
        | .ok u => .ok (nx T n (nx T n (nx T n (nx T n (sT s)))), sX s, wdV (sY s) (updN (dV (sY s)) (24 * v + 6 * i + j) u), sW s, sH s))
      cases hp3 : pNum 0 99 (nx T n (nx T n (nx T n (sT s)))) with
      | error er =>
        rw [hp3] at hn
        obtain ⟨M4, d1, d2, d3⟩ := hn
        have z := b_eq d2
        refine ⟨M4, ?_, d2, (FrX.T a5).tr ((FrX.T b5).tr ((FrX.T c5).tr d3))⟩
        rw [f_RM_readWorth]
        simp (disch := first | assumption | omega) only [z_bdn, z_caln, z_gdn, z_iT, z_iF, z_le_t, z_le_f, z_lt_t, z_lt_f, z_cl, z_inb, z_at, z_pl, z_lit, nI_ii1, nI_add, nI_mul, z_eq_f, z_refuse, z_no, z_M00, b2i_t, b2i_f, a1, b1, c1, d1, z]
      | ok u =>
        rw [hp3] at hn
        obtain ⟨M4, d1, d2, d3, d4, d5⟩ := hn
        have h12 := d4.2.1
        have hB1 := MBk_A (p := 52 + 24 * v + 6 * i + j) (v := nI u) d4 (MC_uf d4.2.2.1 (by omega)) (PMg_V (v := v) (q := i) (k := j) (u := u) hv (by omega) (by omega) d4.2.2.2.1 ⟨w1, w2⟩ wl) (by omega)
        refine ⟨_, ?_, ⟨hB1, d2, d3⟩, (FrX.T a5).tr ((FrX.T b5).tr ((FrX.T c5).tr ((FrX.T d5).tr (FrX.A (by omega)))))⟩
        have e1 : 3072 + (52 + 24 * v) + 6 * i + j = 3072 + (52 + 24 * v + 6 * i + j) := by omega
        rw [f_RM_readWorth]
        simp (disch := first | assumption | omega) only [z_bdn, z_caln, z_gdn, z_iT, z_iF, z_le_t, z_le_f, z_lt_t, z_lt_f, z_cl, z_inb, z_at, z_pl, z_lit, nI_ii1, nI_add, nI_mul, z_eq_f, z_refuse, z_no, z_M00, b2i_t, b2i_f, a1, b1, c1, d1, h12, e1]
end
