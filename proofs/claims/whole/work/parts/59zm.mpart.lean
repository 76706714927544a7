/-! ## a TREATY's text: the reference's parts -/
def uf (g : Nat → Int32) (p : Nat) (v : Int32) : Nat → Int32 := fun q => if q = p then v else g q
def gM (M : kx_M) : Nat → Int32 := fun p => mA M 140 (3072 + p)
def hM (M : kx_M) : Nat → Int64 := fun p => mB M 143 (40 + p)
section
variable {M M' M1 : kx_M} {T : Nat → Nat} {n : Nat} {t : Tok} {x : Cl} {y : De} {a b : Bool} {s : Ps} {e : Er}
theorem uf_at {g : Nat → Int32} {p q : Nat} {v : Int32} : uf g p v q = if q = p then v else g q := rfl
theorem gM_A {p : Nat} {v : Int32} : gM (sA M 140 (upd (mA M 140) (3072 + p) v)) = uf (gM M) p v := by
  funext q
  unfold gM uf
  rw [mA_sA, if_pos rfl, upd_at]
  by_cases h : q = p
  · rw [if_pos (by omega), if_pos h]
  · rw [if_neg (by omega), if_neg h]
theorem MC_uf {g : Nat → Int32} {p : Nat} {v : Int32} (h : MC g x) (hp : p < 100 ∧ p ≠ 0 ∧ p ≠ 1 ∧ p ≠ 4 ∧ p ≠ 5) : MC (uf g p v) x := by
  obtain ⟨h1, h2, h3, h4, h5, h6⟩ := h
  refine ⟨by rw [uf_at, if_neg (by omega)]; exact h1, by rw [uf_at, if_neg (by omega)]; exact h2, by rw [uf_at, if_neg (by omega)]; exact h3, by rw [uf_at, if_neg (by omega)]; exact h4, fun r hr => by rw [uf_at, if_neg (by omega)]; exact h5 r hr, fun r i hr hi => ?_⟩
  obtain ⟨k1, k2, k3, k4⟩ := h6 r i hr hi
  exact ⟨by rw [uf_at, if_neg (by omega)]; exact k1, by rw [uf_at, if_neg (by omega)]; exact k2, by rw [uf_at, if_neg (by omega)]; exact k3, by rw [uf_at, if_neg (by omega)]; exact k4⟩
theorem PMg_uf {W p : Nat} {g : Nat → Int32} {h : Nat → Int64} {v : Int32} (hP : OkD W y) (hD : PMg g h y) (hp : p < 2 ∨ p = 4 ∨ p = 5 ∨ 100 ≤ p ∨ (6 + dQ y ≤ p ∧ p < 10) ∨ (10 + dC y ≤ p ∧ p < 16) ∨ (16 + 5 * dC y ≤ p ∧ p < 46)) : PMg (uf g p v) h y := by
  obtain ⟨p1, p2, p3, p4, -⟩ := hP
  obtain ⟨h1, h2, h3, h4, h5, h6, h7⟩ := hD
  refine ⟨by rw [uf_at, if_neg (by omega)]; exact h1, by rw [uf_at, if_neg (by omega)]; exact h2, fun q hq => ⟨by rw [uf_at, if_neg (by omega)]; exact (h3 q hq).1, (h3 q hq).2⟩, fun k hk => ⟨(h4 k hk).1, by rw [uf_at, if_neg (by omega)]; exact (h4 k hk).2⟩, fun k i hk hi => by have := p4 k hk; rw [uf_at, if_neg (by omega)]; exact h5 k i hk hi, fun k hk => by rw [uf_at, if_neg (by omega)]; exact h6 k hk, fun v q k hv hq hk => by rw [uf_at, if_neg (by omega)]; exact h7 v q k hv hq hk⟩
theorem TxM_X (h : TxM M T n) (hF : FrX M M') : TxM M' T n := by
  obtain ⟨h1, h2, h3⟩ := h
  refine ⟨(hF.2.2.2.1 9 (by omega)).trans h1, h2, fun i hi => ?_⟩
  rw [(hF.1 139 (by decide)).2.2.1]
  exact h3 i hi
theorem MBk_A {p : Nat} {v : Int32} {x' : Cl} {y' : De} (h : MBk M T n x y a b) (hC : MC (uf (gM M) p v) x') (hD : PMg (uf (gM M) p v) (hM M) y') (hz : p < 208 ∨ 768 ≤ p) : MBk (sA M 140 (upd (mA M 140) (3072 + p) v)) T n x' y' a b := by
  obtain ⟨h1, h2, -, -, h5, h6⟩ := h
  refine ⟨TxM_X h1 (FrX.A (by omega)), h2, ?_, ?_, h5, fun q hq1 hq2 => ?_⟩
  · show MC (gM _) _
    rw [gM_A]; exact hC
  · show PMg (gM _) (hM M) _
    rw [gM_A]; exact hD
  · show gM _ q = _
    rw [gM_A, uf_at, if_neg (by omega)]
    exact h6 q hq1 hq2
theorem b2n_le (a : Bool) : b2n a ≤ 1 := by cases a <;> decide
theorem b2n_0 (a b : Bool) : (b2n a + 2 * b2n b).testBit 0 = a := by cases a <;> cases b <;> decide
theorem b2n_1 (a b : Bool) : (b2n a + 2 * b2n b).testBit 1 = b := by cases a <;> cases b <;> decide
theorem b2n_or0 (b : Bool) : nI (b2n false + 2 * b2n b) ||| (nI 1 <<< (nI 0 &&& nI 31)) = nI (b2n true + 2 * b2n b) := by cases b <;> decide
theorem b2n_or1 (a : Bool) : nI (b2n a + 2 * b2n false) ||| (nI 1 <<< (nI 1 &&& nI 31)) = nI (b2n a + 2 * b2n true) := by cases a <;> decide
theorem flt_ne {k : Nat} (h : kS t ≠ 1) : flt t k = (k, kP t) := by unfold flt; rw [if_neg h]
theorem q_mMea {isW : Bool} (h : MPs M T n s) (hO : POk n s) (hk2 : kS (sT s) = 2) : RsM T n M (f_RM_readOnce (nI (if isW = true then 0 else 1)) (nI 1) (nI (if isW = true then 8 else 50)) M) (pMea T n isW s) := by
  obtain ⟨hB, hT, hTB⟩ := h
  obtain ⟨o1, -, o3, -, -, ha⟩ := hO
  have w3 := o1.2.2.1
  have w2 := o3.2.1
  have h12 := hB.2.1
  have h25 := hB.2.2.2.2.1
  have h15 := hT.2.1
  have e4 : mA M 140 3076 = nI (cR (sX s)) := hB.2.2.1.2.2.1
  have e3 : mA M 140 3075 = nI (dC (sY s)) := hB.2.2.2.1.2.1
  have ef : flt (sT s) 5 = (5, kP (sT s)) := flt_ne (by omega)
  rw [f_RM_readOnce]
  by_cases h0 : 0 < cR (sX s) ∨ 0 < dC (sY s)
  · have ep : pMea T n isW s = .error (flt (sT s) 2) := by unfold pMea; rw [if_pos h0]
    rw [ep]
    obtain ⟨Mf, f1, f2, f3⟩ := q_amiss h12 hT
    have zl := b_le f2
    have ze := b_eq f2
    refine ⟨Mf, ?_, f2, f3⟩
    by_cases hc : 0 < dC (sY s)
    · simp (disch := first | assumption | omega) only [z_bdn, z_caln, z_gdn, z_iT, z_iF, z_le_t, z_le_f, z_lt_t, z_lt_f, z_cl, z_inb, z_at, z_pl, z_lit, nI_ii1, nI_add, nI_mul, z_eq_f, z_refuse, z_no, z_M00, b2i_t, b2i_f, e3, f1, f_RM_readOnce_l26, ze, f_RM_readOnce_l53, zl]
    · have hr : 0 < cR (sX s) := by omega
      simp (disch := first | assumption | omega) only [z_bdn, z_caln, z_gdn, z_iT, z_iF, z_le_t, z_le_f, z_lt_t, z_lt_f, z_cl, z_inb, z_at, z_pl, z_lit, nI_ii1, nI_add, nI_mul, z_eq_f, z_refuse, z_no, z_M00, b2i_t, b2i_f, e3, e4, f1, f_RM_readOnce_l26, ze, f_RM_readOnce_l53, zl]
  · have hR : cR (sX s) = 0 := by omega
    have hC : dC (sY s) = 0 := by omega
    rw [hR] at e4
    rw [hC] at e3
    cases isW with
    | true =>
      rw [z_itt]
      have hh : f_RM_has (nI (b2n (sW s) + 2 * b2n (sH s))) (nI 0) M = some (b2i (sW s), M) := by
        rw [z_has (by omega), bt_nI _ _ (by omega), b2n_0]
      cases hw : sW s with
      | true =>
        have ep : pMea T n true s = .error (flt (sT s) 5) := by unfold pMea; rw [if_neg h0, z_itt, hw, z_itt]
        rw [ep, ef]
        rw [hw] at hh h25
        obtain ⟨Mf, f1, f2, f3⟩ := q_failM (k := 5) (p := kP (sT s)) h12 (by omega)
        have zl := b_le f2
        refine ⟨Mf, ?_, f2, f3⟩
        simp (disch := first | assumption | omega) only [z_bdn, z_caln, z_gdn, z_iT, z_iF, z_le_t, z_le_f, z_lt_t, z_lt_f, z_cl, z_inb, z_at, z_pl, z_lit, nI_ii1, nI_add, nI_mul, z_eq_f, z_refuse, z_no, z_M00, b2i_t, b2i_f, e3, e4, f_RM_readOnce_l26, h12, h25, hh, h15, f1, f_RM_readOnce_l53, zl]
      | false =>
        rw [hw] at hh h25
        have eo := b2n_or0 (sH s)
        have hB1 : MBk (sI M 135 25 (nI (b2n true + 2 * b2n (sH s)))) T n (sX s) (sY s) true (sH s) := ⟨TxM_X hB.1 (FrX.I (by omega)), h12, hB.2.2.1, hB.2.2.2.1, rfl, hB.2.2.2.2.2⟩
        obtain ⟨M1, a1, a2, a3, a4, a5⟩ := q_ad hB1 (t := sT s) hT ha
        have hn := q_cntM (lo := 1) (hi := 8) a4 a2 a3 (nx_le ha) (by omega) (by omega)
        cases hp : pNum 1 8 (nx T n (sT s)) with
        | error er =>
          rw [hp] at hn
          obtain ⟨M2, b1, b2, b3⟩ := hn
          have ep : pMea T n true s = .error er := by unfold pMea; rw [if_neg h0, z_itt, hw, z_itf, z_itt, hp]
          rw [ep]
          refine ⟨sA M2 140 (upd (mA M2 140) (3072 + 0) (nI 0)), ?_, b2, (FrX.I (by omega)).tr ((FrX.T a5).tr (b3.tr (FrX.A (by omega))))⟩
          simp (disch := first | assumption | omega) only [z_bdn, z_caln, z_gdn, z_iT, z_iF, z_le_t, z_le_f, z_lt_t, z_lt_f, z_cl, z_inb, z_at, z_pl, z_lit, nI_ii1, nI_add, nI_mul, z_eq_f, z_refuse, z_no, z_M00, b2i_t, b2i_f, e3, e4, f_RM_readOnce_l26, h12, h25, hh, f_RM_readOnce_l53, eo, a1, b1]
        | ok v =>
          rw [hp] at hn
          obtain ⟨M2, b1, b2, b3, b4, b5⟩ := hn
          have ep : pMea T n true s = .ok (nx T n (nx T n (sT s)), wWi (sX s) v, sY s, true, sH s) := by unfold pMea; rw [if_neg h0, z_itt, hw, z_itf, z_itt, hp]; rfl
          rw [ep]
          have hC2 : MC (uf (gM M2) 0 (nI v)) (wWi (sX s) v) := by
            obtain ⟨g1, g2, g3, g4, g5, g6⟩ := b4.2.2.1
            exact ⟨rfl, g2, g3, g4, fun r hr => absurd (show r < cR (sX s) from hr) (by omega), fun r i hr => absurd (show r < cR (sX s) from hr) (by omega)⟩
          have hB2 := MBk_A (p := 0) (v := nI v) b4 hC2 (PMg_uf o3 b4.2.2.2.1 (by omega)) (by omega)
          refine ⟨sA M2 140 (upd (mA M2 140) (3072 + 0) (nI v)), ?_, ⟨hB2, b2, b3⟩, (FrX.I (by omega)).tr ((FrX.T a5).tr ((FrX.T b5).tr (FrX.A (by omega))))⟩
          simp (disch := first | assumption | omega) only [z_bdn, z_caln, z_gdn, z_iT, z_iF, z_le_t, z_le_f, z_lt_t, z_lt_f, z_cl, z_inb, z_at, z_pl, z_lit, nI_ii1, nI_add, nI_mul, z_eq_f, z_refuse, z_no, z_M00, b2i_t, b2i_f, e3, e4, f_RM_readOnce_l26, h12, h25, hh, f_RM_readOnce_l53, eo, a1, b1]
    | false =>
      rw [z_itf, z_itf]
      have hh : f_RM_has (nI (b2n (sW s) + 2 * b2n (sH s))) (nI 1) M = some (b2i (sH s), M) := by
        rw [z_has (by omega), bt_nI _ _ (by omega), b2n_1]
      cases hw : sH s with
      | true =>
        have ep : pMea T n false s = .error (flt (sT s) 5) := by unfold pMea; rw [if_neg h0, z_itf, hw, z_itt]
        rw [ep, ef]
        rw [hw] at hh h25
        obtain ⟨Mf, f1, f2, f3⟩ := q_failM (k := 5) (p := kP (sT s)) h12 (by omega)
        have zl := b_le f2
        refine ⟨Mf, ?_, f2, f3⟩
        simp (disch := first | assumption | omega) only [z_bdn, z_caln, z_gdn, z_iT, z_iF, z_le_t, z_le_f, z_lt_t, z_lt_f, z_cl, z_inb, z_at, z_pl, z_lit, nI_ii1, nI_add, nI_mul, z_eq_f, z_refuse, z_no, z_M00, b2i_t, b2i_f, e3, e4, f_RM_readOnce_l26, h12, h25, hh, h15, f1, f_RM_readOnce_l53, zl]
      | false =>
        rw [hw] at hh h25
        have eo := b2n_or1 (sW s)
        have hB1 : MBk (sI M 135 25 (nI (b2n (sW s) + 2 * b2n true))) T n (sX s) (sY s) (sW s) true := ⟨TxM_X hB.1 (FrX.I (by omega)), h12, hB.2.2.1, hB.2.2.2.1, rfl, hB.2.2.2.2.2⟩
        obtain ⟨M1, a1, a2, a3, a4, a5⟩ := q_ad hB1 (t := sT s) hT ha
        have hn := q_cntM (lo := 1) (hi := 50) a4 a2 a3 (nx_le ha) (by omega) (by omega)
        cases hp : pNum 1 50 (nx T n (sT s)) with
        | error er =>
          rw [hp] at hn
          obtain ⟨M2, b1, b2, b3⟩ := hn
          have ep : pMea T n false s = .error er := by unfold pMea; rw [if_neg h0, z_itf, hw, z_itf, z_itf, hp]
          rw [ep]
          refine ⟨sA M2 140 (upd (mA M2 140) (3072 + 1) (nI 0)), ?_, b2, (FrX.I (by omega)).tr ((FrX.T a5).tr (b3.tr (FrX.A (by omega))))⟩
          simp (disch := first | assumption | omega) only [z_bdn, z_caln, z_gdn, z_iT, z_iF, z_le_t, z_le_f, z_lt_t, z_lt_f, z_cl, z_inb, z_at, z_pl, z_lit, nI_ii1, nI_add, nI_mul, z_eq_f, z_refuse, z_no, z_M00, b2i_t, b2i_f, e3, e4, f_RM_readOnce_l26, h12, h25, hh, f_RM_readOnce_l53, eo, a1, b1]
        | ok v =>
          rw [hp] at hn
          obtain ⟨M2, b1, b2, b3, b4, b5⟩ := hn
          have ep : pMea T n false s = .ok (nx T n (nx T n (sT s)), wTo (sX s) v, sY s, sW s, true) := by unfold pMea; rw [if_neg h0, z_itf, hw, z_itf, z_itf, hp]; rfl
          rw [ep]
          have hC2 : MC (uf (gM M2) 1 (nI v)) (wTo (sX s) v) := by
            obtain ⟨g1, g2, g3, g4, g5, g6⟩ := b4.2.2.1
            exact ⟨g1, rfl, g3, g4, fun r hr => absurd (show r < cR (sX s) from hr) (by omega), fun r i hr => absurd (show r < cR (sX s) from hr) (by omega)⟩
          have hB2 := MBk_A (p := 1) (v := nI v) b4 hC2 (PMg_uf o3 b4.2.2.2.1 (by omega)) (by omega)
          refine ⟨sA M2 140 (upd (mA M2 140) (3072 + 1) (nI v)), ?_, ⟨hB2, b2, b3⟩, (FrX.I (by omega)).tr ((FrX.T a5).tr ((FrX.T b5).tr (FrX.A (by omega))))⟩
          simp (disch := first | assumption | omega) only [z_bdn, z_caln, z_gdn, z_iT, z_iF, z_le_t, z_le_f, z_lt_t, z_lt_f, z_cl, z_inb, z_at, z_pl, z_lit, nI_ii1, nI_add, nI_mul, z_eq_f, z_refuse, z_no, z_M00, b2i_t, b2i_f, e3, e4, f_RM_readOnce_l26, h12, h25, hh, f_RM_readOnce_l53, eo, a1, b1]
end
