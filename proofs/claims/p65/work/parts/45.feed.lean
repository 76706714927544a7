def byN (p : Int32) (j : Nat) : Nat := (p.toBitVec.toNat >>> (8 * j)) % 256
theorem byN_le (p : Int32) (j : Nat) : byN p j ≤ 255 := by unfold byN; omega
theorem byN_bit (p : Int32) (j i : Nat) : (byN p j).testBit i = (decide (i < 8) && bt p (8 * j + i)) := by
  unfold byN bt
  rw [show (256 : Nat) = 2 ^ 8 from rfl, Nat.testBit_mod_two_pow, Nat.testBit_shiftRight]
  rfl
theorem s_u : ∀ n, n < 32 → (((nI n).toUInt32 &&& Int32.toUInt32 31) % 32).toBitVec.toNat = n := by decide +kernel
theorem b_ushr (n : Nat) (hn : n < 32) (x : Int32) (i : Nat) : bt ((x.toUInt32 >>> ((nI n).toUInt32 &&& Int32.toUInt32 31)).toInt32) i = bt x (n + i) := by
  unfold bt
  show (x.toBitVec >>> (((nI n).toUInt32 &&& Int32.toUInt32 31) % 32).toBitVec.toNat).getLsbD i = _
  rw [s_u n hn, BitVec.getLsbD_ushiftRight]
theorem bt_255 : ∀ i, i < 32 → bt (nI 255) i = decide (i < 8) := by decide +kernel
theorem q_byC (p : Int32) {j : Nat} (hj : j < 4) : ((p.toUInt32 >>> ((nI (8 * j)).toUInt32 &&& Int32.toUInt32 31)).toInt32) &&& nI 255 = nI (byN p j) := b_ext fun i hi => by
  rw [b_and, b_ushr _ (by omega), bt_255 i hi, bt_nI _ _ hi, byN_bit, Bool.and_comm]
abbrev Tp : Type := Nat × (Nat → Nat)
def pushB (P : Tp) (b : Nat) : Tp := (P.1 + 1, fun k => if k = P.1 then b else P.2 k)
def fdW (P : Tp) (p : Int32) : Tp := pushB (pushB (pushB (pushB P (byN p 3)) (byN p 2)) (byN p 1)) (byN p 0)
def fdA (P : Tp) (a b c d e : Int32) : Tp := fdW (fdW (fdW (fdW (fdW P a) b) c) d) e
def tpOk (P : Tp) : Prop := ∀ k, k < P.1 → P.2 k ≤ 255
theorem pushB_ok {P : Tp} {b : Nat} (h : tpOk P) (hb : b ≤ 255) : tpOk (pushB P b) := fun k hk => by
  have hk : k < P.1 + 1 := hk
  show (if k = P.1 then b else P.2 k) ≤ 255
  by_cases h1 : k = P.1
  · rw [if_pos h1]; exact hb
  · rw [if_neg h1]; exact h k (by omega)
theorem fdW_ok {P : Tp} {p : Int32} (h : tpOk P) : tpOk (fdW P p) := pushB_ok (pushB_ok (pushB_ok (pushB_ok h (byN_le _ _)) (byN_le _ _)) (byN_le _ _)) (byN_le _ _)
section
variable {M M' : kx_M} {σ : Sg}
def FrP (M M' : kx_M) : Prop := Fr (fun id => id = 0 ∨ id = 2) M M' ∧ (∀ k, k ≠ 11 → mI M' 0 k = mI M 0 k) ∧ (∀ k, mJ M' 0 k = mJ M 0 k) ∧ ∀ k, mR M' 0 k = mR M 0 k
theorem FrP.tr {A B C : kx_M} (h : FrP A B) (g : FrP B C) : FrP A C := ⟨h.1.tr g.1, fun k hk => (g.2.1 k hk).trans (h.2.1 k hk), fun k => (g.2.2.1 k).trans (h.2.2.1 k), fun k => (g.2.2.2 k).trans (h.2.2.2 k)⟩
def CP (M : kx_M) (P : Tp) : Prop := mI M 0 11 = nI P.1 ∧ ∀ k, k < P.1 → mA M 2 k = nI (P.2 k)
theorem q_push {p : Int32} {j n : Nat} {P : Tp} (hP : P.1 < 900) (hj : j < 4) (hC : CP M P) : ∃ M', f_KT_feedInt_l3 p (n + 1) (nI (8 * j)) M = f_KT_feedInt_l3 p n (nI (8 * j) + Int32.ofInt (-8)) M' ∧ CP M' (pushB P (byN p j)) ∧ FrP M M' := by
  obtain ⟨h1, h2⟩ := hC
  have eb : ((p.toUInt32 >>> ((nI (8 * j)).toUInt32 &&& (nI 31).toUInt32)).toInt32) &&& nI 255 = nI (byN p j) := q_byC p hj
  refine ⟨sI (sA M 2 (upd (mA M 2) P.1 (nI (byN p j)))) 0 11 (nI (P.1 + 1)), ?_, ⟨?_, fun k hk => ?_⟩, (Fr.sA (Or.inr rfl)).tr (Fr.sI (Or.inl rfl)), fun k hk => ?_, fun k => rfl, fun k => rfl⟩
  · have e2 : mI (sA M 2 (upd (mA M 2) P.1 (nI (byN p j)))) 0 11 = nI P.1 := h1
    rw [f_KT_feedInt_l3]
    simp (disch := first | assumption | omega) only [z_bdn, z_caln, z_gdn, z_iT, z_iF, z_le_t, z_le_f, z_lt_t, z_lt_f, z_cl, z_inb, z_at, z_lit, nI_ii1, nI_add, z_mr, z_ref0, z_refn, z_eq_f, Bool.not_true, Bool.not_false, b2i_t, b2i_f, nI_pos0, h1, eb, e2]
  · rw [mI_sI, if_pos ⟨rfl, rfl⟩]; rfl
  · have hk : k < P.1 + 1 := hk
    rw [mA_sI, mA_sA, if_pos rfl, upd_at]
    show _ = nI (if k = P.1 then _ else _)
    by_cases h3 : k = P.1
    · rw [if_pos h3, if_pos h3]
    · rw [if_neg h3, if_neg h3]; exact h2 k (by omega)
  · rw [mI_sI, if_neg (fun e => hk e.2)]; rfl
theorem q_feedInt {p : Int32} {P : Tp} (hP : P.1 + 4 ≤ 900) (hC : CP M P) : ∃ M', f_KT_feedInt p M = some ((), M') ∧ CP M' (fdW P p) ∧ FrP M M' := by
  obtain ⟨M1, a1, a2, a3⟩ := q_push (p := p) (n := 999999) (by omega) (show 3 < 4 by omega) hC
  obtain ⟨M2, b1, b2, b3⟩ := q_push (p := p) (n := 999998) (show P.1 + 1 < 900 by omega) (show 2 < 4 by omega) a2
  obtain ⟨M3, c1, c2, c3⟩ := q_push (p := p) (n := 999997) (show P.1 + 1 + 1 < 900 by omega) (show 1 < 4 by omega) b2
  obtain ⟨M4, d1, d2, d3⟩ := q_push (p := p) (n := 999996) (show P.1 + 1 + 1 + 1 < 900 by omega) (show 0 < 4 by omega) c2
  refine ⟨M4, ?_, d2, ((a3.tr b3).tr c3).tr d3⟩
  have e1 : nI (8 * 3) + Int32.ofInt (-8) = nI (8 * 2) := by decide
  have e2 : nI (8 * 2) + Int32.ofInt (-8) = nI (8 * 1) := by decide
  have e3 : nI (8 * 1) + Int32.ofInt (-8) = nI (8 * 0) := by decide
  have e5 : f_KT_feedInt_l3 p 999996 (nI (8 * 0) + Int32.ofInt (-8)) M4 = some ((), M4) := by
    rw [show (999996 : Nat) = 999995 + 1 from rfl, f_KT_feedInt_l3]
    exact if_pos (by decide)
  rw [e1] at a1
  rw [e2] at b1
  rw [e3] at c1
  rw [f_KT_feedInt]
  exact a1.trans (b1.trans (c1.trans (d1.trans e5)))
theorem IC_P {P : Tp} (hI : IC M σ) (hF : FrP M M') (hC : CP M' P) (h9 : P.1 ≤ 900) (hok : tpOk P) : IC M' (wP σ P.1 P.2) := by
  obtain ⟨hO, s, t1, hK, hS, ⟨a1, a2, a3, a4, a5⟩, hT, -, ⟨c1, c2⟩, ⟨d1, d2⟩, hk, hw⟩ := hI
  obtain ⟨hF, f0, j0, r0⟩ := hF
  have ha := hK.ap
  refine ⟨⟨hO.1, hO.2.1, hO.2.2.1, hO.2.2.2.1, h9, hok⟩, s, t1, ⟨(r0 9).trans hK.1, (r0 10).trans hK.2.1, hK.2.2⟩, CS_fr hF (fun id h1 h2 e => by omega) hS, ⟨?_, ?_, ?_, ?_, ?_⟩, fun q hq => CT_fr hF (by omega) (by omega) (hT q hq), hC, ⟨?_, fun i hi => CS_fr hF (fun id h1 h2 e => by omega) (c2 i hi)⟩, ⟨?_, ?_⟩, ?_, ?_⟩
  · rw [f0 _ (by decide)]; exact a1
  · rw [j0]; exact a2
  · rw [j0]; exact a3
  · rw [f0 _ (by decide)]; exact a4
  · rw [f0 _ (by decide)]; exact a5
  · rw [f0 _ (by decide)]; exact c1
  · rw [f0 _ (by decide)]; exact d1
  · obtain ⟨f, -, -, -, -⟩ := hF 23 (by omega)
    rw [f, f, f, f, f]; exact d2
  · rw [(hF 6 (by omega)).2.2.2.1, (hF 10 (by omega)).2.2.2.1]; exact hk
  · obtain ⟨-, -, -, -, r⟩ := hF 13 (by omega)
    rw [r, r]; exact hw
def o_feed (a b c d e : Int32) (σ : Sg) : Int32 × Sg := if (gP σ).1 + 20 ≤ 900 then (nI ((gP σ).1 + 20), wP σ (fdA (gP σ) a b c d e).1 (fdA (gP σ) a b c d e).2) else (-nI 1, σ)
theorem pC_feed (a b c d e : Int32) : PC (f_KT_feed a b c d e) (o_feed a b c d e) := by
  intro M σ h
  have h' := h
  obtain ⟨hO, s, t1, hK, hS, -, hT, hp, -⟩ := h'
  have h9 := hO.2.2.2.2.1
  have e11 : mI M 0 11 = nI (gP σ).1 := hp.1
  rw [f_KT_feed]
  unfold o_feed
  by_cases hl : (gP σ).1 + 20 ≤ 900
  · rw [if_pos hl]
    obtain ⟨M1, a1, a2, a3⟩ := q_feedInt (p := a) (P := gP σ) (by omega) hp
    obtain ⟨M2, b1, b2, b3⟩ := q_feedInt (p := b) (show (gP σ).1 + 1 + 1 + 1 + 1 + 4 ≤ 900 by omega) a2
    obtain ⟨M3, c1, c2, c3⟩ := q_feedInt (p := c) (show (gP σ).1 + 1 + 1 + 1 + 1 + 1 + 1 + 1 + 1 + 4 ≤ 900 by omega) b2
    obtain ⟨M4, d1, d2, d3⟩ := q_feedInt (p := d) (show (gP σ).1 + 1 + 1 + 1 + 1 + 1 + 1 + 1 + 1 + 1 + 1 + 1 + 1 + 4 ≤ 900 by omega) c2
    obtain ⟨M5, f1, f2, f3⟩ := q_feedInt (p := e) (show (gP σ).1 + 1 + 1 + 1 + 1 + 1 + 1 + 1 + 1 + 1 + 1 + 1 + 1 + 1 + 1 + 1 + 1 + 4 ≤ 900 by omega) d2
    have hF := (((a3.tr b3).tr c3).tr d3).tr f3
    have e5 : mI M5 0 11 = nI ((gP σ).1 + 20) := f2.1
    refine ⟨M5, ?_, IC_P h hF f2 (show (gP σ).1 + 1 + 1 + 1 + 1 + 1 + 1 + 1 + 1 + 1 + 1 + 1 + 1 + 1 + 1 + 1 + 1 + 1 + 1 + 1 + 1 ≤ 900 by omega) (fdW_ok (fdW_ok (fdW_ok (fdW_ok (fdW_ok hO.2.2.2.2.2))))), hF.1.mono (fun id e => by show id < 135; omega)⟩
    simp (disch := first | assumption | omega) only [z_bdn, z_caln, z_gdn, z_iT, z_iF, z_le_t, z_le_f, z_lt_t, z_lt_f, z_cl, z_inb, z_at, z_lit, nI_ii1, nI_add, z_mr, z_ref0, z_refn, z_eq_f, Bool.not_true, Bool.not_false, b2i_t, b2i_f, e11, a1, b1, c1, d1, f1, e5]
  · rw [if_neg hl]
    refine ⟨M, ?_, h, Fr.rf⟩
    simp (disch := first | assumption | omega) only [z_bdn, z_caln, z_gdn, z_iT, z_iF, z_le_t, z_le_f, z_lt_t, z_lt_f, z_cl, z_inb, z_at, z_lit, nI_ii1, nI_add, z_mr, z_ref0, z_refn, z_eq_f, Bool.not_true, Bool.not_false, b2i_t, b2i_f, e11]
def FrQ (M M' : kx_M) : Prop := Fr (fun id => id = 135 ∨ id = 139) M M' ∧ (∀ k, k ≠ 8 → mI M' 135 k = mI M 135 k) ∧ ∀ k, mJ M' 135 k = mJ M 135 k
theorem FrQ.tr {A B C : kx_M} (h : FrQ A B) (g : FrQ B C) : FrQ A C := ⟨h.1.tr g.1, fun k hk => (g.2.1 k hk).trans (h.2.1 k hk), fun k => (g.2.2 k).trans (h.2.2 k)⟩
end
