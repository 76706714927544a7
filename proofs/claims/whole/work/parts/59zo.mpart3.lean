/-! ## a TREATY's text: the reference's queens and clauses, on -/
section
variable {M M' M1 : kx_M} {T : Nat → Nat} {n : Nat} {t : Tok} {x : Cl} {y : De} {a b : Bool} {s : Ps} {e : Er}
theorem PMg_addQ {W w : Nat} {nm : Int64} {g : Nat → Int32} {h : Nat → Int64} (hP : OkD W y) (hD : PMg g h y) (hg : g (6 + dQ y) = nI w) (hh : h (dQ y) = nm) : PMg (uf g 2 (nI (dQ y + 1))) h (addQ y nm w) := by
  obtain ⟨p1, p2, p3, p4, -⟩ := hP
  obtain ⟨h1, h2, h3, h4, h5, h6, h7⟩ := hD
  refine ⟨rfl, by rw [uf_at, if_neg (by omega)]; exact h2, fun q hq => ?_, fun k hk => ⟨(h4 k hk).1, by have hk : k < dC y := hk; rw [uf_at, if_neg (by omega)]; exact (h4 k hk).2⟩, fun k i hk hi => by have := p4 k hk; have hk : k < dC y := hk; rw [uf_at, if_neg (by omega)]; exact h5 k i hk hi, fun k hk => by rw [uf_at, if_neg (by omega)]; exact h6 k hk, fun v q k hv hq hk => by rw [uf_at, if_neg (by omega)]; exact h7 v q k hv hq hk⟩
  have hq : q < dQ y + 1 := hq
  rw [uf_at, if_neg (by omega)]
  show _ = nI (updN (dO y) (dQ y) w q) ∧ h q = (if q = dQ y then nm else dN y q)
  unfold updN
  by_cases he : q = dQ y
  · rw [if_pos he, if_pos he, he]; exact ⟨hg, hh⟩
  · rw [if_neg he, if_neg he]; exact h3 q (by omega)
theorem PMg_addC {W len : Nat} {kd : Nat → Nat} {nm : Int64} {g : Nat → Int32} {h : Nat → Int64} (hP : OkD W y) (hD : PMg g h y) (hl : len ≤ 5) (hg : g (10 + dC y) = nI len) (hh : h (4 + dC y) = nm) (hk : ∀ i, i < len → g (16 + 5 * dC y + i) = nI (kd i)) : PMg (uf g 3 (nI (dC y + 1))) h (addC y nm len kd) := by
  obtain ⟨p1, p2, p3, p4, -⟩ := hP
  obtain ⟨h1, h2, h3, h4, h5, h6, h7⟩ := hD
  refine ⟨by rw [uf_at, if_neg (by omega)]; exact h1, rfl, fun q hq => ⟨by rw [uf_at, if_neg (by omega)]; exact (h3 q hq).1, (h3 q hq).2⟩, fun k hk2 => ?_, fun k i hk2 hi => ?_, fun k hk => by rw [uf_at, if_neg (by omega)]; exact h6 k hk, fun v q k hv hq hk => by rw [uf_at, if_neg (by omega)]; exact h7 v q k hv hq hk⟩
  · have hk2 : k < dC y + 1 := hk2
    rw [uf_at, if_neg (by omega)]
    show _ = (if k = dC y then nm else dM y k) ∧ _ = nI (updN (dL y) (dC y) len k)
    unfold updN
    by_cases he : k = dC y
    · rw [if_pos he, if_pos he, he]; exact ⟨hh, hg⟩
    · rw [if_neg he, if_neg he]; exact h4 k (by omega)
  · have hk2 : k < dC y + 1 := hk2
    have hi : i < updN (dL y) (dC y) len k := hi
    rw [uf_at, if_neg (by omega)]
    show _ = nI (if 5 * k + i < 5 * dC y then dK y (5 * k + i) else kd (5 * k + i - 5 * dC y))
    unfold updN at hi
    by_cases he : k = dC y
    · have hi2 : i < len := by rw [if_pos he] at hi; exact hi
      rw [he, if_neg (by omega), show 5 * dC y + i - 5 * dC y = i by omega]
      exact hk i hi2
    · rw [if_neg he] at hi
      have := p4 k (by omega)
      rw [if_pos (by omega)]
      exact h5 k i (by omega) hi
theorem q_que37 {W w : Nat} {nm : Int64} (hP : OkD W y) (hq : dQ y < 4) (h : MBk M T n x y a b) (hh : hM M (dQ y) = nm) : ∃ M', f_RM_readQueen_l37 (nI (dQ y)) (nI w) M = some ((), M') ∧ MBk M' T n x (addQ y nm w) a b ∧ FrX M M' ∧ (TkM M t → TkM M' t) := by
  have h12 := h.2.1
  have hB1 := MBk_A (p := 6 + dQ y) (v := nI w) h (MC_uf h.2.2.1 (by omega)) (PMg_uf hP h.2.2.2.1 (by omega)) (by omega)
  have hB2 := MBk_A (p := 2) (v := nI (dQ y + 1)) hB1 (MC_uf hB1.2.2.1 (by omega)) (PMg_addQ (w := w) (nm := nm) hP hB1.2.2.2.1 (by rw [gM_A]; exact if_pos rfl) hh) (by omega)
  refine ⟨_, ?_, hB2, (FrX.A (by omega)).tr (FrX.A (by omega)), fun g => g⟩
  have e3 : mA (sA M 140 (upd (mA M 140) (3072 + (6 + dQ y)) (nI w))) 140 3074 = nI (dQ y) := hB1.2.2.2.1.1
  have e5 : 3078 + dQ y = 3072 + (6 + dQ y) := by omega
  rw [f_RM_readQueen_l37]
  simp (disch := first | assumption | omega) only [z_bdn, z_caln, z_gdn, z_iT, z_iF, z_le_t, z_le_f, z_lt_t, z_lt_f, z_cl, z_inb, z_at, z_pl, z_lit, nI_ii1, nI_add, nI_mul, z_eq_f, z_refuse, z_no, z_M00, b2i_t, b2i_f, e5, mI_sA, h12, e3]
theorem q_mQue (h : MPs M T n s) (hO : POk n s) (hk2 : kS (sT s) = 2) : RsM T n M (f_RM_readQueen M) (pQue T n s) := by
  obtain ⟨hB, hT, hTB⟩ := h
  obtain ⟨o1, -, o3, -, -, ha⟩ := hO
  have hN := q_readNew (v := 0) (mo := 4) (by omega) (by omega) o3 hB hT hTB ha hk2
  have e0 : cntV (sY s) 0 = dQ (sY s) := rfl
  rw [e0] at hN
  have bad : ∀ er, (∃ M', f_RM_readNew (nI 0) (nI 4) M = some (nI 0, M') ∧ Bd M' er ∧ FrX M M') → RsM T n M (f_RM_readQueen M) (.error er) := by
    intro er ⟨M1, a1, a2, a3⟩
    have z := b_eq a2
    refine ⟨sA M1 140 (upd (mA M1 140) (3072 + 6) (nI 100)), ?_, a2, a3.tr (FrX.A (by omega))⟩
    rw [f_RM_readQueen]
    simp (disch := first | assumption | omega) only [z_bdn, z_caln, z_gdn, z_iT, z_iF, z_le_t, z_le_f, z_lt_t, z_lt_f, z_cl, z_inb, z_at, z_pl, z_lit, nI_ii1, nI_add, nI_mul, z_eq_f, z_refuse, z_no, z_M00, b2i_t, b2i_f, a1, z, f_RM_readQueen_l37, mI_sA]
  unfold pQue
  by_cases h0 : 4 ≤ dQ (sY s)
  · rw [if_pos h0]
    rw [if_pos h0] at hN
    exact bad _ hN
  · rw [if_neg h0]
    rw [if_neg h0] at hN
    cases hp : pNew (sY s) (nx T n (sT s)) with
    | error er =>
      rw [hp] at hN
      exact bad _ hN
    | ok u =>
      rw [hp] at hN
      obtain ⟨M1, a1, a2, a3, a4, a5, a6⟩ := hN
      have h12 := a4.2.1
      have eW := q_isWool a2
      have a5 : hM M1 (dQ (sY s)) = bJ (kW (nx T n (sT s))) := by rw [← a5, show 4 * 0 + dQ (sY s) = dQ (sY s) by omega]
      show RsM T n M _ (if isK (nx T n (nx T n (sT s))) 3 = true then _ else _)
      by_cases hk : isK (nx T n (nx T n (sT s))) 3 = true
      · rw [if_pos hk]
        rw [hk] at eW
        obtain ⟨M2, b1, b2, b3, b4, b5⟩ := q_ad a4 a2 (nx_le (nx_le ha))
        have hn := q_cntM (lo := 0) (hi := 999) b4 b2 b3 (nx_le (nx_le (nx_le ha))) (by omega) (by omega)
        cases hp2 : pNum 0 999 (nx T n (nx T n (nx T n (sT s)))) with
        | error er =>
          rw [hp2] at hn
          obtain ⟨M3, c1, c2, c3⟩ := hn
          have z := b_eq c2
          refine ⟨sA M3 140 (upd (mA M3 140) (3072 + (6 + dQ (sY s))) (nI 0)), ?_, c2, a6.tr ((FrX.T b5).tr (c3.tr (FrX.A (by omega))))⟩
          have e5 : 3078 + dQ (sY s) = 3072 + (6 + dQ (sY s)) := by omega
          have g1 : f_RM_readQueen_l37 (nI (dQ (sY s))) (nI 0) M3 = some ((), sA M3 140 (upd (mA M3 140) (3072 + (6 + dQ (sY s))) (nI 0))) := by
            rw [f_RM_readQueen_l37]
            simp (disch := first | assumption | omega) only [z_bdn, z_caln, z_gdn, z_iT, z_iF, z_le_t, z_le_f, z_lt_t, z_lt_f, z_cl, z_inb, z_at, z_pl, z_lit, nI_ii1, nI_add, nI_mul, z_eq_f, z_refuse, z_no, z_M00, b2i_t, b2i_f, e5, mI_sA, z]
          rw [f_RM_readQueen]
          simp (disch := first | assumption | omega) only [z_bdn, z_caln, z_gdn, z_iT, z_iF, z_le_t, z_le_f, z_lt_t, z_lt_f, z_cl, z_inb, z_at, z_pl, z_lit, nI_ii1, nI_add, nI_mul, z_eq_f, z_refuse, z_no, z_M00, b2i_t, b2i_f, a1, h12, eW, b1, c1, g1]
        | ok v =>
          rw [hp2] at hn
          obtain ⟨M3, c1, c2, c3, c4, c5⟩ := hn
          obtain ⟨M4, d1, d2, d3, d4⟩ := q_que37 (w := v) (nm := bJ (kW (nx T n (sT s)))) (t := nx T n (nx T n (nx T n (nx T n (sT s))))) o3 (by omega) c4 (by rw [FrT_h c5, FrT_h b5]; exact a5)
          refine ⟨M4, ?_, ⟨d2, d4 c2, c3⟩, a6.tr ((FrX.T b5).tr ((FrX.T c5).tr d3))⟩
          rw [f_RM_readQueen]
          simp (disch := first | assumption | omega) only [z_bdn, z_caln, z_gdn, z_iT, z_iF, z_le_t, z_le_f, z_lt_t, z_lt_f, z_cl, z_inb, z_at, z_pl, z_lit, nI_ii1, nI_add, nI_mul, z_eq_f, z_refuse, z_no, z_M00, b2i_t, b2i_f, a1, h12, eW, b1, c1, d1]
      · rw [if_neg hk]
        rw [Bool.eq_false_iff.mpr hk] at eW
        obtain ⟨M4, d1, d2, d3, d4⟩ := q_que37 (w := 100) (nm := bJ (kW (nx T n (sT s)))) (t := nx T n (nx T n (sT s))) o3 (by omega) a4 a5
        refine ⟨M4, ?_, ⟨d2, d4 a2, a3⟩, a6.tr d3⟩
        rw [f_RM_readQueen]
        simp (disch := first | assumption | omega) only [z_bdn, z_caln, z_gdn, z_iT, z_iF, z_le_t, z_le_f, z_lt_t, z_lt_f, z_cl, z_inb, z_at, z_pl, z_lit, nI_ii1, nI_add, nI_mul, z_eq_f, z_refuse, z_no, z_M00, b2i_t, b2i_f, a1, h12, eW, d1]
end
