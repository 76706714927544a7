/-! ## CENTURIES' text: the class's steps -/
def AdC (M M' : kx_M) (d e o a b : Nat) : Prop := mI M' d 6 = nI (e + 1) ∧ (∀ k, k ≠ 6 → mI M' d k = mI M d k) ∧ (∀ i, mA M' (d + 1) i = if i = e then nI o else mA M (d + 1) i) ∧ (∀ i, mA M' (d + 2) i = if i = e then nI a else mA M (d + 2) i) ∧ (∀ i, mA M' (d + 3) i = if i = e then nI b else mA M (d + 3) i) ∧ (∀ i, mA M' (d + 4) i = if i = e then nI e else mA M (d + 4) i)
def FrY (d : Nat) (M M' : kx_M) : Prop := Fr (fun id => id = 9 ∨ (d ≤ id ∧ id ≤ d + 4)) M M' ∧ mR M' 9 = mR M 9 ∧ mI M' 9 2 = mI M 9 2
def RsY (d e : Nat) (M : kx_M) (r : Option (Int32 × kx_M)) (w : Except Er Yi) : Prop := match w with
  | .ok q => ∃ M', r = some (nI 1, M') ∧ AdC M M' d e q.2.1.1 q.2.1.2.1 q.2.1.2.2 ∧ TkC M' 9 q.2.2 ∧ TkB q.2.2 ∧ FrY d M M'
  | .error er => ∃ M', r = some (nI 0, M') ∧ ErC 9 M' er ∧ FrY d M M'
def oneE (v : Except Er Nat) (f : Nat → Yi) : Except Er Yi := match v with
  | .error e => .error e
  | .ok u => .ok (f u)
def NmC (M : kx_M) (f : Option (Int32 × kx_M)) (w : Except Er Nat) : Prop := match w with
  | .ok v => f = some (nI 1, M) ∧ mI M 9 8 = nI v
  | .error er => ∃ M', f = some (nI 0, M') ∧ ErC 9 M' er ∧ FrR 9 M M'
section
variable {M M' M1 M2 : kx_M} {T : Nat → Nat} {n d e s : Nat} {t : Tok} {x : Cl} {y : De} {o a b : Nat} {r : Option (Int32 × kx_M)} {w : Except Er Yi}
theorem FrY.R (h : FrR 9 M M') : FrY d M M' := ⟨h.1.mono (fun id e => Or.inl e), h.2.1, h.2.2⟩
theorem FrY.tr {A B C : kx_M} (h : FrY d A B) (g : FrY d B C) : FrY d A C := ⟨h.1.tr g.1, g.2.1.trans h.2.1, g.2.2.trans h.2.2⟩
theorem FrY.S (hd : 27 ≤ d) (h : Fr (fun id => d ≤ id ∧ id ≤ d + 4) M M') : FrY d M M' := ⟨h.mono (fun id e => Or.inr e), funext (fun k => (h 9 (by omega)).2.2.2.2 k), (h 9 (by omega)).1 2⟩
theorem TxC_Y (hd : 27 ≤ d) (h : TxC M 9 T n) (hF : FrY d M M') : TxC M' 9 T n := by
  obtain ⟨h1, h2, h3, h4, h5⟩ := h
  refine ⟨by rw [hF.2.1]; exact h1, hF.2.2.trans h2, h3, fun i hi => ?_, fun k hk => ?_⟩
  · rw [(hF.1 2 (by omega)).2.2.1]; exact h4 i hi
  · rw [(hF.1 (9 + 1) (by omega)).2.2.2.1]; exact h5 k hk
theorem TkC_S (hd : 27 ≤ d) (h : TkC M 9 t) (hF : Fr (fun id => d ≤ id ∧ id ≤ d + 4) M M') : TkC M' 9 t := by
  have g := hF 9 (by omega)
  unfold TkC
  rw [g.1, g.1, g.1, g.1, g.1, g.1, g.2.1]
  exact h
theorem AdC_L (hd : 27 ≤ d) (h : FrR 9 M M1) (g : AdC M1 M2 d e o a b) : AdC M M2 d e o a b := by
  obtain ⟨g1, g2, g3, g4, g5, g6⟩ := g
  have f0 := h.1 d (by omega)
  unfold AdC
  rw [← (h.1 (d + 1) (by omega)).2.2.1, ← (h.1 (d + 2) (by omega)).2.2.1, ← (h.1 (d + 3) (by omega)).2.2.1, ← (h.1 (d + 4) (by omega)).2.2.1]
  exact ⟨g1, fun k hk => (g2 k hk).trans (f0.1 k), g3, g4, g5, g6⟩
theorem AdC_R (hd : 27 ≤ d) (g : AdC M M1 d e o a b) (h : FrR 9 M1 M2) : AdC M M2 d e o a b := by
  obtain ⟨g1, g2, g3, g4, g5, g6⟩ := g
  have f0 := h.1 d (by omega)
  unfold AdC
  rw [(h.1 (d + 1) (by omega)).2.2.1, (h.1 (d + 2) (by omega)).2.2.1, (h.1 (d + 3) (by omega)).2.2.1, (h.1 (d + 4) (by omega)).2.2.1]
  exact ⟨(f0.1 6).trans g1, fun k hk => (f0.1 k).trans (g2 k hk), g3, g4, g5, g6⟩
theorem RsY_L (hd : 27 ≤ d) (h : FrR 9 M M1) (g : RsY d e M1 r w) : RsY d e M r w := by
  cases w with
  | error er =>
    obtain ⟨M2, a1, a2, a3⟩ := g
    exact ⟨M2, a1, a2, (FrY.R h).tr a3⟩
  | ok q =>
    obtain ⟨M2, a1, a2, a3, a4, a5⟩ := g
    exact ⟨M2, a1, AdC_L hd h a2, a3, a4, (FrY.R h).tr a5⟩
theorem RsY_gd (g : RsY d e M r w) : RsY d e M (cal r fun r3 M2 => gd (b01 r3) (some (r3, M2))) w := by
  cases w with
  | error er =>
    obtain ⟨M2, a1, a2, a3⟩ := g
    exact ⟨M2, by rw [a1]; rfl, a2, a3⟩
  | ok q =>
    obtain ⟨M2, a1, a2, a3, a4, a5⟩ := g
    exact ⟨M2, by rw [a1]; rfl, a2, a3, a4, a5⟩
theorem q_cTail (o a b : Nat) (hd : 27 ≤ d) (he : e < 60) (hX : TxC M 9 T n) (hT : TkC M 9 t) (ha : kA t ≤ n) (h6 : mI M d 6 = nI e) : ∃ M1 M2, f_Script_add d (nI o) (nI a) (nI b) M = some ((), M1) ∧ f_Reader_next 9 M1 = some ((), M2) ∧ AdC M M2 d e o a b ∧ TkC M2 9 (nx T n t) ∧ TkB (nx T n t) ∧ FrY d M M2 := by
  obtain ⟨M1, a1, a2, a3, a4, a5, a6, a7, a8⟩ := q_add (o := o) (a := a) (b := b) hd he h6
  have hF := FrY.S hd a8
  have hX1 := TxC_Y hd hX hF
  have hT1 := TkC_S hd hT a8
  obtain ⟨M2, b1, b2, b3⟩ := q_next (by omega) hX1 ha hT1.1
  exact ⟨M1, M2, a1, b1, AdC_R hd ⟨a2, a3, a4, a5, a6, a7⟩ b3, b2, TkB_x hX ha, hF.tr (FrY.R b3)⟩
theorem q_nmC {lo hi : Nat} (hT : TkC M 9 t) (hB : TkB t) (hlo : lo < 10000) (hhi : hi < 10000) : NmC M (f_Reader_atNumber 9 (nI lo) (nI hi) M) (pNum lo hi t) := q_atNumber hT hB hlo hhi
theorem q_nmR {R : Nat} (hR : R ≤ 12) (hT : TkC M 9 t) (hB : TkB t) : NmC M (f_Reader_atNumber 9 (nI 0) (nI R - nI 1) M) (pNmR R t) := by
  unfold pNmR
  by_cases h0 : R = 0
  · rw [if_pos h0]
    subst h0
    have e5 := hT.2.2.1
    have hs := hB.1
    have b0 : b01 (nI 0) = true := by decide
    rw [show nI 0 - nI 1 = -nI 1 by decide]
    obtain ⟨Mf, f1, f2, f3⟩ := q_fail (k := if kS t = 3 then 4 else 2) hT hB
    refine ⟨Mf, ?_, f2, f3⟩
    rw [f_Reader_atNumber]
    by_cases h3 : kS t = 3
    · have z : (nI (kS t) = nI 3) = True := eq_true (by rw [h3])
      have e8 := hT.2.2.2.2.2.1 h3
      have hv := hB.2.2.1 h3
      rw [if_pos h3] at f1
      have z2 : (-nI 1 < nI (kV t)) = True := eq_true (by
        refine Int32.lt_iff_toInt_lt.mpr ?_
        rw [nI_toInt (by omega), show (-nI 1 : Int32).toInt = -1 by decide]
        omega)
      simp (disch := first | assumption | omega) only [z_bdn, z_caln, z_gdn, z_iT, z_iF, z_le_t, z_le_f, z_lt_t, z_lt_f, z_cl, z_inb, z_at, z_pl, z_lit, nI_ii1, nI_add, z_mr, z_ref0, z_refn, z_eq_f, Bool.not_true, Bool.not_false, b2i_t, b2i_f, e5, z, e8, z2, f1, b0]
    · have z : (nI (kS t) = nI 3) = False := z_eq_f h3 (by omega) (by omega)
      rw [if_neg h3] at f1
      simp (disch := first | assumption | omega) only [z_bdn, z_caln, z_gdn, z_iT, z_iF, z_le_t, z_le_f, z_lt_t, z_lt_f, z_cl, z_inb, z_at, z_pl, z_lit, nI_ii1, nI_add, z_mr, z_ref0, z_refn, z_eq_f, Bool.not_true, Bool.not_false, b2i_t, b2i_f, e5, z, f1, b0]
  · rw [if_neg h0, z_sub (by omega)]
    exact q_nmC hT hB (by omega) (by omega)
theorem q_cOneG {p3 p4 : Int32} {g : Nat → Nat × Nat × Nat × Nat} {v : Except Er Nat} (hd : 27 ≤ d) (he : e < 60) (hX : TxC M 9 T n) (hT : TkC M 9 t) (ha : kA t ≤ n) (h6 : mI M d 6 = nI e) (hn : NmC M (f_Reader_atNumber 9 p3 p4 M) v) : RsY d e M (f_CenturyText_readOne d (nI o) p3 p4 M) (oneE v (fun u => (g u, (o, u, 0), nx T n t))) := by
  rw [f_CenturyText_readOne]
  cases v with
  | error er =>
    obtain ⟨M1, a1, a2, a3⟩ := hn
    refine ⟨M1, ?_, a2, FrY.R a3⟩
    simp (disch := first | assumption | omega) only [z_bdn, z_caln, z_gdn, z_iT, z_iF, z_le_t, z_le_f, z_lt_t, z_lt_f, z_cl, z_inb, z_at, z_pl, z_lit, nI_ii1, nI_add, z_mr, z_ref0, z_refn, z_eq_f, Bool.not_true, Bool.not_false, b2i_t, b2i_f, a1]
  | ok u =>
    obtain ⟨a1, a2⟩ := hn
    obtain ⟨M1, M2, b1, b2, b3, b4, b5, b6⟩ := q_cTail o u 0 hd he hX hT ha h6
    refine ⟨M2, ?_, b3, b4, b5, b6⟩
    simp (disch := first | assumption | omega) only [z_bdn, z_caln, z_gdn, z_iT, z_iF, z_le_t, z_le_f, z_lt_t, z_lt_f, z_cl, z_inb, z_at, z_pl, z_lit, nI_ii1, nI_add, z_mr, z_ref0, z_refn, z_eq_f, Bool.not_true, Bool.not_false, b2i_t, b2i_f, a1, a2, b1, b2]
theorem q_cTwo {k R W : Nat} {p4 : Int32} (hR : R ≤ 12) (hW : W ≤ 8) (hp4 : p4 = nI (W - 1)) (hd : 27 ≤ d) (he : e < 60) (hX : TxC M 9 T n) (hT : TkC M 9 t) (hB : TkB t) (ha : kA t ≤ n) (h6 : mI M d 6 = nI e) : RsY d e M (f_CenturyText_readTwo d (nI (14 + k)) (nI R - nI 1) p4 M) (pTwo T n k R W t) := by
  subst hp4
  have h1 := q_nmR hR hT hB
  rw [f_CenturyText_readTwo]
  cases hp : pNmR R t with
  | error er =>
    rw [hp] at h1
    obtain ⟨M1, a1, a2, a3⟩ := h1
    have ep : pTwo T n k R W t = .error er := by unfold pTwo; rw [hp]
    rw [ep]
    refine ⟨M1, ?_, a2, FrY.R a3⟩
    simp (disch := first | assumption | omega) only [z_bdn, z_caln, z_gdn, z_iT, z_iF, z_le_t, z_le_f, z_lt_t, z_lt_f, z_cl, z_inb, z_at, z_pl, z_lit, nI_ii1, nI_add, z_mr, z_ref0, z_refn, z_eq_f, Bool.not_true, Bool.not_false, b2i_t, b2i_f, a1]
  | ok u =>
    rw [hp] at h1
    obtain ⟨a1, a2⟩ := h1
    obtain ⟨M1, b1, b2, b3⟩ := q_next (by omega) hX ha hT.1
    have hX1 := TxC_R (by omega) hX b3
    have hB1 := TkB_x hX ha
    have ha1 : kA (nx T n t) ≤ n := nx_le ha
    have h61 : mI M1 d 6 = nI e := ((b3.1 d (by omega)).1 6).trans h6
    have h2 := q_nmC (lo := 0) (hi := W - 1) b2 hB1 (by omega) (by omega)
    cases hq : pNum 0 (W - 1) (nx T n t) with
    | error er =>
      have hq2 : pNum 0 (W - 1) (nxt T n (kA t)) = .error er := hq
      rw [hq2] at h2
      obtain ⟨M2, c1, c2, c3⟩ := h2
      have ep : pTwo T n k R W t = .error er := by unfold pTwo; rw [hp]; show (match pNum 0 (W - 1) (nx T n t) with | .error e => _ | .ok b => _) = _; rw [hq]
      rw [ep]
      refine ⟨M2, ?_, c2, (FrY.R b3).tr (FrY.R c3)⟩
      simp (disch := first | assumption | omega) only [z_bdn, z_caln, z_gdn, z_iT, z_iF, z_le_t, z_le_f, z_lt_t, z_lt_f, z_cl, z_inb, z_at, z_pl, z_lit, nI_ii1, nI_add, z_mr, z_ref0, z_refn, z_eq_f, Bool.not_true, Bool.not_false, b2i_t, b2i_f, a1, a2, b1, c1]
    | ok v =>
      have hq2 : pNum 0 (W - 1) (nxt T n (kA t)) = .ok v := hq
      rw [hq2] at h2
      obtain ⟨c1, c2⟩ := h2
      have ep : pTwo T n k R W t = .ok ((u, v, 0, 0), (14 + k, u, v), nx T n (nx T n t)) := by unfold pTwo; rw [hp]; show (match pNum 0 (W - 1) (nx T n t) with | .error e => _ | .ok b => _) = _; rw [hq]
      rw [ep]
      obtain ⟨M3, M4, d1, d2, d3, d4, d5, d6⟩ := q_cTail (14 + k) u v hd he hX1 b2 ha1 h61
      refine ⟨M4, ?_, AdC_L hd b3 d3, d4, d5, (FrY.R b3).tr d6⟩
      simp (disch := first | assumption | omega) only [z_bdn, z_caln, z_gdn, z_iT, z_iF, z_le_t, z_le_f, z_lt_t, z_lt_f, z_cl, z_inb, z_at, z_pl, z_lit, nI_ii1, nI_add, z_mr, z_ref0, z_refn, z_eq_f, Bool.not_true, Bool.not_false, b2i_t, b2i_f, a1, a2, b1, c1, c2, d1, d2]
end
