/-! ## a TREATY's text: the reference -/
def FrX (M M' : kx_M) : Prop := Fr (fun id => id = 135 ∨ id = 140 ∨ id = 143) M M' ∧ (∀ p, p < 3072 → mA M' 140 p = mA M 140 p) ∧ (∀ p, p < 40 → mB M' 143 p = mB M 143 p) ∧ (∀ k, k < 12 ∨ (19 < k ∧ k ≠ 25) → mI M' 135 k = mI M 135 k) ∧ (∀ k, k ≠ 19 → mJ M' 135 k = mJ M 135 k)
theorem FrX.rf {M : kx_M} : FrX M M := ⟨Fr.rf, fun _ _ => rfl, fun _ _ => rfl, fun _ _ => rfl, fun _ _ => rfl⟩
theorem FrX.tr {A B C : kx_M} (h : FrX A B) (g : FrX B C) : FrX A C := ⟨h.1.tr g.1, fun p hp => (g.2.1 p hp).trans (h.2.1 p hp), fun p hp => (g.2.2.1 p hp).trans (h.2.2.1 p hp), fun k hk => (g.2.2.2.1 k hk).trans (h.2.2.2.1 k hk), fun k hk => (g.2.2.2.2 k hk).trans (h.2.2.2.2 k hk)⟩
theorem FrX.T {M M' : kx_M} (h : FrT M M') : FrX M M' := ⟨h.1.mono (fun id e => Or.inl e), fun p _ => congrFun (h.1 140 (by decide)).2.2.1 p, fun p _ => congrFun (h.1 143 (by decide)).2.2.2.1 p, fun k hk => h.2.1 k (by omega), h.2.2⟩
theorem FrX.I {M : kx_M} {k : Nat} {v : Int32} (hk : 12 ≤ k ∧ k ≤ 19 ∨ k = 25) : FrX M (sI M 135 k v) := ⟨Fr.sI (Or.inl rfl), fun _ _ => rfl, fun _ _ => rfl, fun j hj => by rw [mI_sI, if_neg (by omega)], fun _ _ => rfl⟩
theorem FrX.A {M : kx_M} {p : Nat} {v : Int32} (hp : 3072 ≤ p) : FrX M (sA M 140 (upd (mA M 140) p v)) := ⟨Fr.sA (Or.inr (Or.inl rfl)), fun q hq => by rw [mA_sA, if_pos rfl, upd_at, if_neg (by omega)], fun _ _ => rfl, fun _ _ => rfl, fun _ _ => rfl⟩
theorem FrX.B {M : kx_M} {p : Nat} {v : Int64} (hp : 40 ≤ p) : FrX M (sB M 143 (vp_updL (mB M 143) p v)) := ⟨Fr.sB (Or.inr (Or.inr rfl)), fun _ _ => rfl, fun q hq => by
  rw [mB_sB, if_pos rfl]
  show (if q = p then v else mB M 143 q) = _
  rw [if_neg (by omega)], fun _ _ => rfl, fun _ _ => rfl⟩
/-- a fault has been found -/
def Bd (M : kx_M) (e : Er) : Prop := mI M 135 12 = nI e.1 ∧ mI M 135 13 = nI e.2 ∧ 1 ≤ e.1 ∧ e.1 ≤ 7
def PMg (g : Nat → Int32) (h : Nat → Int64) (y : De) : Prop := g 2 = nI (dQ y) ∧ g 3 = nI (dC y) ∧ (∀ q, q < dQ y → g (6 + q) = nI (dO y q) ∧ h q = dN y q) ∧ (∀ k, k < dC y → h (4 + k) = dM y k ∧ g (10 + k) = nI (dL y k)) ∧ (∀ k i, k < dC y → i < dL y k → g (16 + 5 * k + i) = nI (dK y (5 * k + i))) ∧ (∀ k, k < 6 → g (46 + k) = nI (setN (fun i => decide (dX y (6 * k + i) = 1)) 6)) ∧ (∀ v q k, v < 2 → q < 4 → k < 6 → g (52 + 24 * v + 6 * q + k) = nI (dV y (24 * v + 6 * q + k)))
def b2n (b : Bool) : Nat := if b = true then 1 else 0
def MBk (M : kx_M) (T : Nat → Nat) (n : Nat) (x : Cl) (y : De) (a b : Bool) : Prop := TxM M T n ∧ mI M 135 12 = nI 0 ∧ MC (fun p => mA M 140 (3072 + p)) x ∧ PMg (fun p => mA M 140 (3072 + p)) (fun p => mB M 143 (40 + p)) y ∧ mI M 135 25 = nI (b2n a + 2 * b2n b) ∧ (∀ p, 208 ≤ p → p < 768 → mA M 140 (3072 + p) = nI 0)
def MPs (M : kx_M) (T : Nat → Nat) (n : Nat) (s : Ps) : Prop := MBk M T n (sX s) (sY s) (sW s) (sH s) ∧ TkM M (sT s) ∧ TkB (sT s)
def RsM (T : Nat → Nat) (n : Nat) (M : kx_M) (r : Option (Unit × kx_M)) (e : Except Er Ps) : Prop := match e with
  | .ok s1 => ∃ M', r = some ((), M') ∧ MPs M' T n s1 ∧ FrX M M'
  | .error er => ∃ M', r = some ((), M') ∧ Bd M' er ∧ FrX M M'
section
variable {M M' M1 : kx_M} {T : Nat → Nat} {n : Nat} {t : Tok} {x : Cl} {y : De} {a b : Bool} {s : Ps} {e : Er}
theorem MBk_T (h : MBk M T n x y a b) (hF : FrT M M') : MBk M' T n x y a b := by
  obtain ⟨h1, h2, h3, h4, h5, h6⟩ := h
  have e140 := (hF.1 140 (by decide)).2.2.1
  have e143 := (hF.1 143 (by decide)).2.2.2.1
  unfold MBk
  rw [e140, e143]
  exact ⟨TxM_T h1 hF, (hF.2.1 12 (by omega)).trans h2, h3, h4, (hF.2.1 25 (by omega)).trans h5, h6⟩
theorem TkBM (h : TxM M T n) {a : Nat} (ha : a ≤ n) : TkB (nxt T n a) := TkB_nxt ha h.2.1 (fun i hi => (h.2.2 i hi).2)
theorem q_ad (h : MBk M T n x y a b) (hT : TkM M t) (ha : kA t ≤ n) : ∃ M', f_RM_advance M = some ((), M') ∧ TkM M' (nx T n t) ∧ TkB (nx T n t) ∧ MBk M' T n x y a b ∧ FrT M M' := by
  obtain ⟨M', a1, a2, a3⟩ := q_advance h.1 ha hT.2.2.1
  exact ⟨M', a1, a2, TkBM h.1 ha, MBk_T h a3, a3⟩
theorem q_failM {k p : Nat} (h12 : mI M 135 12 = nI 0) (hk : 1 ≤ k ∧ k ≤ 7) : ∃ M', f_RM_fail (nI k) (nI p) M = some ((), M') ∧ Bd M' (k, p) ∧ FrX M M' := by
  refine ⟨sI (sI M 135 12 (nI k)) 135 13 (nI p), ?_, ⟨rfl, rfl, hk.1, hk.2⟩, (FrX.I (by omega)).tr (FrX.I (by omega))⟩
  rw [f_RM_fail]
  simp (disch := first | assumption | omega) only [z_bdn, z_caln, z_gdn, z_iT, z_iF, z_le_t, z_le_f, z_lt_t, z_lt_f, z_cl, z_inb, z_at, z_pl, z_lit, nI_ii1, nI_add, nI_mul, z_eq_f, z_refuse, z_no, z_M00, b2i_t, b2i_f, h12]
theorem q_amiss (h12 : mI M 135 12 = nI 0) (hT : TkM M t) : ∃ M', f_RM_amiss M = some ((), M') ∧ Bd M' (flt t 2) ∧ FrX M M' := by
  have h14 := hT.1
  have h15 := hT.2.1
  have hs := hT.2.2.2.2.2.2.2
  rw [f_RM_amiss]
  unfold flt
  by_cases h1 : kS t = 1
  · rw [if_pos h1]
    obtain ⟨Mf, f1, f2, f3⟩ := q_failM (k := 1) (p := kP t) h12 (by omega)
    have z : (nI (sM (kS t)) = nI 4) = True := eq_true (by rw [h1]; rfl)
    refine ⟨Mf, ?_, f2, f3⟩
    simp (disch := first | assumption | omega) only [z_bdn, z_caln, z_gdn, z_iT, z_iF, z_le_t, z_le_f, z_lt_t, z_lt_f, z_cl, z_inb, z_at, z_pl, z_lit, nI_ii1, nI_add, nI_mul, z_eq_f, z_refuse, z_no, z_M00, b2i_t, b2i_f, h14, z, h15, f1]
  · rw [if_neg h1]
    obtain ⟨Mf, f1, f2, f3⟩ := q_failM (k := 2) (p := kP t) h12 (by omega)
    have z : (nI (sM (kS t)) = nI 4) = False := by
      unfold sM
      by_cases h0 : kS t = 0
      · rw [if_pos h0]; exact z_kn (by omega) (by omega) (by omega)
      · rw [if_neg h0, if_neg h1]; exact z_kn (by omega) (by omega) (by omega)
    refine ⟨Mf, ?_, f2, f3⟩
    simp (disch := first | assumption | omega) only [z_bdn, z_caln, z_gdn, z_iT, z_iF, z_le_t, z_le_f, z_lt_t, z_lt_f, z_cl, z_inb, z_at, z_pl, z_lit, nI_ii1, nI_add, nI_mul, z_eq_f, z_refuse, z_no, z_M00, b2i_t, b2i_f, h14, z, h15, f1]
/-! once a fault is found, nothing more is done -/
theorem b_le (h : Bd M e) : (mI M 135 12 ≤ nI 0) = False := by rw [h.1]; exact z_le_f (by have := h.2.2.1; omega) (by have := h.2.2.2; omega)
theorem b_eq (h : Bd M e) : (mI M 135 12 = nI 0) = False := by rw [h.1]; exact z_eq_f (by have := h.2.2.1; omega) (by have := h.2.2.2; omega) (by omega)
theorem b_fail (h : Bd M e) (k p : Int32) : f_RM_fail k p M = some ((), M) := by
  have z := b_le h
  rw [f_RM_fail]
  simp (disch := first | assumption | omega) only [z_bdn, z_caln, z_gdn, z_iT, z_iF, z_le_t, z_le_f, z_lt_t, z_lt_f, z_cl, z_inb, z_at, z_pl, z_lit, nI_ii1, nI_add, nI_mul, z_eq_f, z_refuse, z_no, z_M00, b2i_t, b2i_f, z]
theorem b_amiss (h : Bd M e) : f_RM_amiss M = some ((), M) := by
  rw [f_RM_amiss, b_fail h, b_fail h]
  split <;> rfl
theorem b_must (h : Bd M e) (v : Int32) : f_RM_must v M = some ((), M) := by
  have z := b_le h
  rw [f_RM_must]
  simp (disch := first | assumption | omega) only [z_bdn, z_caln, z_gdn, z_iT, z_iF, z_le_t, z_le_f, z_lt_t, z_lt_f, z_cl, z_inb, z_at, z_pl, z_lit, nI_ii1, nI_add, nI_mul, z_eq_f, z_refuse, z_no, z_M00, b2i_t, b2i_f, z]
theorem b_count (h : Bd M e) (p q : Int32) : f_RM_count p q M = some (nI 0, M) := by
  have z := b_le h
  have z2 := b_eq h
  rw [f_RM_count]
  simp (disch := first | assumption | omega) only [z_bdn, z_caln, z_gdn, z_iT, z_iF, z_le_t, z_le_f, z_lt_t, z_lt_f, z_cl, z_inb, z_at, z_pl, z_lit, nI_ii1, nI_add, nI_mul, z_eq_f, z_refuse, z_no, z_M00, b2i_t, b2i_f, z2, f_RM_count_l19, f_RM_count_l50, z]
theorem b_told (h : Bd M e) (p q : Int32) : f_RM_told p q M = some (nI 0, M) := by
  have z := b_le h
  have z2 := b_eq h
  rw [f_RM_told]
  simp (disch := first | assumption | omega) only [z_bdn, z_caln, z_gdn, z_iT, z_iF, z_le_t, z_le_f, z_lt_t, z_lt_f, z_cl, z_inb, z_at, z_pl, z_lit, nI_ii1, nI_add, nI_mul, z_eq_f, z_refuse, z_no, z_M00, b2i_t, b2i_f, z2, f_RM_told_l18, z]
theorem b_readTold (h : Bd M e) (p q : Int32) : f_RM_readTold p q M = some (nI 0, M) := by
  rw [f_RM_readTold]
  simp (disch := first | assumption | omega) only [z_bdn, z_caln, z_gdn, z_iT, z_iF, z_le_t, z_le_f, z_lt_t, z_lt_f, z_cl, z_inb, z_at, z_pl, z_lit, nI_ii1, nI_add, nI_mul, z_eq_f, z_refuse, z_no, z_M00, b2i_t, b2i_f, b_told h, b_must h]
theorem sM_le {k : Nat} (hk : k ≤ 4) : sM k < 2147483648 := by
  unfold sM
  repeat' split
  all_goals omega
theorem sM_is {k : Nat} (hs : kS t ≤ 4) (h0 : k ≠ 0) (h1 : k ≠ 1) (hk : k ≤ 4) : (nI (sM (kS t)) = nI (sM k)) = (kS t = k) := propext ⟨fun e => by
    have h := (nI_eq (sM_le hs) (sM_le hk)).mp e
    unfold sM at h
    repeat' split at h
    all_goals omega, fun e => by rw [e]⟩
theorem z_sM2 (hs : kS t ≤ 4) : (nI (sM (kS t)) = nI 1) = (kS t = 2) := sM_is (k := 2) hs (by omega) (by omega) (by omega)
theorem z_sM3 (hs : kS t ≤ 4) : (nI (sM (kS t)) = nI 2) = (kS t = 3) := sM_is (k := 3) hs (by omega) (by omega) (by omega)
theorem z_sM4 (hs : kS t ≤ 4) : (nI (sM (kS t)) = nI 3) = (kS t = 4) := sM_is (k := 4) hs (by omega) (by omega) (by omega)
theorem z_sM0 (hs : kS t ≤ 4) : (nI (sM (kS t)) = nI 0) = (kS t = 0) := propext ⟨fun e => by
    have h := (nI_eq (sM_le hs) (by omega)).mp e
    unfold sM at h
    repeat' split at h
    all_goals omega, fun e => by rw [e]; rfl⟩
theorem z_sM1 (hs : kS t ≤ 4) : (nI (sM (kS t)) = nI 4) = (kS t = 1) := propext ⟨fun e => by
    have h := (nI_eq (sM_le hs) (by omega)).mp e
    unfold sM at h
    repeat' split at h
    all_goals omega, fun e => by rw [e]; rfl⟩
theorem q_cntM {lo hi : Nat} (h : MBk M T n x y a b) (hT : TkM M t) (hB : TkB t) (ha : kA t ≤ n) (hlo : lo < 10000) (hhi : hi < 10000) : match pNum lo hi t with
    | .ok v => ∃ M', f_RM_count (nI lo) (nI hi) M = some (nI v, M') ∧ TkM M' (nx T n t) ∧ TkB (nx T n t) ∧ MBk M' T n x y a b ∧ FrT M M'
    | .error e => ∃ M', f_RM_count (nI lo) (nI hi) M = some (nI 0, M') ∧ Bd M' e ∧ FrX M M' := by
  have h12 := h.2.1
  have h14 := hT.1
  have h15 := hT.2.1
  have hs := hT.2.2.2.2.2.2.2
  have z3 := z_sM3 hs
  rw [f_RM_count]
  unfold pNum
  by_cases h3 : kS t = 3
  · rw [if_pos h3]
    rw [eq_true h3] at z3
    have e17 := hT.2.2.2.1 (Or.inl h3)
    have hv := hB.2.2.1 h3
    have gI := rg_isIn (nI (kV t)) (A := (nI lo).toInt64) (B := (nI hi).toInt64) (a := lo) (b := hi) (jJ_toInt (by omega)) (jJ_toInt (by omega)) M
    have erg : rg (nI (kV t)) lo hi = decide (lo ≤ kV t ∧ kV t ≤ hi) := by
      unfold rg
      rw [nI_toInt (by omega)]
      by_cases c1 : lo ≤ kV t
      · by_cases c2 : kV t ≤ hi
        · rw [decide_eq_true (show (lo : Int) ≤ (kV t : Int) by omega), decide_eq_true (show (kV t : Int) ≤ (hi : Int) by omega), decide_eq_true ⟨c1, c2⟩]; rfl
        · rw [decide_eq_false (show ¬ (kV t : Int) ≤ (hi : Int) by omega), Bool.and_false, decide_eq_false (fun g => c2 g.2)]
      · rw [decide_eq_false (show ¬ (lo : Int) ≤ (kV t : Int) by omega), Bool.false_and, decide_eq_false (fun g => c1 g.1)]
    rw [erg] at gI
    by_cases hh : lo ≤ kV t ∧ kV t ≤ hi
    · rw [if_pos hh]
      rw [decide_eq_true hh] at gI
      obtain ⟨M1, a1, a2, a3, a4, a5⟩ := q_ad h hT ha
      refine ⟨M1, ?_, a2, a3, a4, a5⟩
      simp (disch := first | assumption | omega) only [z_bdn, z_caln, z_gdn, z_iT, z_iF, z_le_t, z_le_f, z_lt_t, z_lt_f, z_cl, z_inb, z_at, z_pl, z_lit, nI_ii1, nI_add, nI_mul, z_eq_f, z_refuse, z_no, z_M00, b2i_t, b2i_f, h12, h14, z3, f_RM_count_l19, e17, gI, f_RM_count_l50, a1]
    · rw [if_neg hh]
      rw [decide_eq_false hh] at gI
      obtain ⟨Mf, f1, f2, f3⟩ := q_failM (k := 4) (p := kP t) h12 (by omega)
      have zl := b_le f2
      have ef : flt t 4 = (4, kP t) := by unfold flt; rw [if_neg (by omega)]
      rw [ef]
      refine ⟨Mf, ?_, f2, f3⟩
      simp (disch := first | assumption | omega) only [z_bdn, z_caln, z_gdn, z_iT, z_iF, z_le_t, z_le_f, z_lt_t, z_lt_f, z_cl, z_inb, z_at, z_pl, z_lit, nI_ii1, nI_add, nI_mul, z_eq_f, z_refuse, z_no, z_M00, b2i_t, b2i_f, h12, h14, z3, f_RM_count_l19, e17, gI, h15, f1, f_RM_count_l50, zl]
  · rw [if_neg h3]
    rw [eq_false h3] at z3
    obtain ⟨Mf, f1, f2, f3⟩ := q_amiss h12 hT
    have zl := b_le f2
    have ze := b_eq f2
    refine ⟨Mf, ?_, f2, f3⟩
    simp (disch := first | assumption | omega) only [z_bdn, z_caln, z_gdn, z_iT, z_iF, z_le_t, z_le_f, z_lt_t, z_lt_f, z_cl, z_inb, z_at, z_pl, z_lit, nI_ii1, nI_add, nI_mul, z_eq_f, z_refuse, z_no, z_M00, b2i_t, b2i_f, h12, h14, z3, f1, f_RM_count_l19, ze, f_RM_count_l50, zl]
theorem wM_of (hT : TkM M t) (h : isK t 26 = true) : mJ M 135 19 = bJ (kW t) := by
  obtain ⟨h1, h2⟩ := ik h
  exact ((hT.2.2.2.2.1 h1).2.2 (by omega)).1
/-- the names told in the new block -/
theorem q_named4 {c v : Nat} {f : Nat → Int64} {w : Int64} (hv : v < 2) (hc : c ≤ 6) (hm : mA M 140 (3074 + v) = nI c) (hf : ∀ i, i < c → mB M 143 (40 + 4 * v + i) = f i) (hw : mJ M 135 19 = w) : f_RM_named (nI 4) (nI v) M = some (oI (idF f w c 0), M) := by
  have key : ∀ (j k i : Nat), i + j = c → j < k → f_RM_named_l2 (nI 4) (nI v) k (nI i) M = some (oI (idF f w j i), M) := by
    intro j
    induction j with
    | zero =>
      intro k i hi hk
      obtain ⟨k, rfl, hk⟩ := z_succ hk
      obtain rfl : i = c := by omega
      rw [f_RM_named_l2]
      simp (disch := first | assumption | omega) only [z_bdn, z_caln, z_gdn, z_iT, z_iF, z_le_t, z_le_f, z_lt_t, z_lt_f, z_cl, z_inb, z_at, z_pl, z_lit, nI_ii1, nI_add, nI_mul, z_eq_f, z_refuse, z_no, z_M00, b2i_t, b2i_f, hm]
      rfl
    | succ j ih =>
      intro k i hi hk
      obtain ⟨k, rfl, hk⟩ := z_succ hk
      have g := ih k (i + 1) (by omega) (by omega)
      have e := hf i (by omega)
      rw [f_RM_named_l2]
      unfold idF
      by_cases hh : f i = w
      · rw [if_pos hh]
        have z : (f i = w) = True := eq_true hh
        simp (disch := first | assumption | omega) only [z_bdn, z_caln, z_gdn, z_iT, z_iF, z_le_t, z_le_f, z_lt_t, z_lt_f, z_cl, z_inb, z_at, z_pl, z_lit, nI_ii1, nI_add, nI_mul, z_eq_f, z_refuse, z_no, z_M00, b2i_t, b2i_f, hm, e, hw, lg_eq, z]
        rfl
      · rw [if_neg hh]
        have z : (f i = w) = False := eq_false hh
        simp (disch := first | assumption | omega) only [z_bdn, z_caln, z_gdn, z_iT, z_iF, z_le_t, z_le_f, z_lt_t, z_lt_f, z_cl, z_inb, z_at, z_pl, z_lit, nI_ii1, nI_add, nI_mul, z_eq_f, z_refuse, z_no, z_M00, b2i_t, b2i_f, hm, e, hw, lg_eq, z]
        exact g
  rw [f_RM_named]
  simp (disch := first | assumption | omega) only [z_bdn, z_caln, z_gdn, z_iT, z_iF, z_le_t, z_le_f, z_lt_t, z_lt_f, z_cl, z_inb, z_at, z_pl, z_lit, nI_ii1, nI_add, nI_mul, z_eq_f, z_refuse, z_no, z_M00, b2i_t, b2i_f]
  exact key c FU 0 (by omega) (FU_lt (by omega))
theorem q_namQ {W : Nat} (hP : OkD W y) (h : MBk M T n x y a b) (hT : TkM M t) (hk : isK t 26 = true) : f_RM_named (nI 4) (nI 0) M = some (oI (idQ y (kW t)), M) := by
  obtain ⟨-, -, -, hD, -, -⟩ := h
  exact q_named4 (v := 0) (f := dN y) (by omega) (by have := hP.1; omega) hD.1 (fun i hi => by have := (hD.2.2.1 i hi).2; exact this) (wM_of hT hk)
theorem q_namC {W : Nat} (hP : OkD W y) (h : MBk M T n x y a b) (hT : TkM M t) (hk : isK t 26 = true) : f_RM_named (nI 4) (nI 1) M = some (oI (idC y (kW t)), M) := by
  obtain ⟨-, -, -, hD, -, -⟩ := h
  exact q_named4 (v := 1) (f := dM y) (by omega) hP.2.1 hD.2.1 (fun i hi => by
    have := (hD.2.2.2.1 i hi).1
    rw [show 40 + 4 * 1 + i = 40 + (4 + i) by omega]; exact this) (wM_of hT hk)
theorem q_toldG {v : Nat} {o : Option Nat} (h : MBk M T n x y a b) (hT : TkM M t) (hn : isK t 26 = true → f_RM_named (nI 4) (nI v) M = some (oI o, M)) (hv : ∀ i, o = some i → i < 10) : match pOld o t with
    | .ok i => f_RM_told (nI 4) (nI v) M = some (nI i, M)
    | .error e => ∃ M', f_RM_told (nI 4) (nI v) M = some (nI 0, M') ∧ Bd M' e ∧ FrX M M' := by
  have h12 := h.2.1
  have h15 := hT.2.1
  have eN := q_isName hT
  rw [f_RM_told]
  unfold pOld
  by_cases hk : isK t 26 = true
  · rw [if_pos hk]
    rw [hk] at eN
    have hn := hn hk
    cases o with
    | some i =>
      have hi := hv i rfl
      have hn : f_RM_named (nI 4) (nI v) M = some (nI i, M) := hn
      show (if mI M 135 12 = 0 then _ else _) = _
      by_cases h0 : i = 0
      · subst h0
        simp (disch := first | assumption | omega) only [z_bdn, z_caln, z_gdn, z_iT, z_iF, z_le_t, z_le_f, z_lt_t, z_lt_f, z_cl, z_inb, z_at, z_pl, z_lit, nI_ii1, nI_add, nI_mul, z_eq_f, z_refuse, z_no, z_M00, b2i_t, b2i_f, h12, eN, f_RM_told_l18, hn]
      · simp (disch := first | assumption | omega) only [z_bdn, z_caln, z_gdn, z_iT, z_iF, z_le_t, z_le_f, z_lt_t, z_lt_f, z_cl, z_inb, z_at, z_pl, z_lit, nI_ii1, nI_add, nI_mul, z_eq_f, z_refuse, z_no, z_M00, b2i_t, b2i_f, h12, eN, f_RM_told_l18, hn]
    | none =>
      have hn : f_RM_named (nI 4) (nI v) M = some (-nI 1, M) := hn
      obtain ⟨Mf, f1, f2, f3⟩ := q_failM (k := 3) (p := kP t) h12 (by omega)
      have ef : flt t 3 = (3, kP t) := by unfold flt; rw [if_neg (by have := (ik hk).1; omega)]
      show ∃ M', _ ∧ Bd M' (flt t 3) ∧ _
      rw [ef]
      have zz : (nI 0 < -nI 1) = False := eq_false (by decide)
      refine ⟨Mf, ?_, f2, f3⟩
      simp (disch := first | assumption | omega) only [z_bdn, z_caln, z_gdn, z_iT, z_iF, z_le_t, z_le_f, z_lt_t, z_lt_f, z_cl, z_inb, z_at, z_pl, z_lit, nI_ii1, nI_add, nI_mul, z_eq_f, z_refuse, z_no, z_M00, b2i_t, b2i_f, h12, eN, f_RM_told_l18, hn, z_neg, h15, f1, zz]
  · rw [if_neg hk]
    rw [Bool.eq_false_iff.mpr hk] at eN
    obtain ⟨Mf, f1, f2, f3⟩ := q_amiss h12 hT
    have zl := b_le f2
    refine ⟨Mf, ?_, f2, f3⟩
    simp (disch := first | assumption | omega) only [z_bdn, z_caln, z_gdn, z_iT, z_iF, z_le_t, z_le_f, z_lt_t, z_lt_f, z_cl, z_inb, z_at, z_pl, z_lit, nI_ii1, nI_add, nI_mul, z_eq_f, z_refuse, z_no, z_M00, b2i_t, b2i_f, h12, eN, f1, f_RM_told_l18, zl]
theorem q_must1 (h : MBk M T n x y a b) (hT : TkM M t) (ha : kA t ≤ n) : ∃ M', f_RM_must (nI 1) M = some ((), M') ∧ TkM M' (nx T n t) ∧ TkB (nx T n t) ∧ MBk M' T n x y a b ∧ FrT M M' := by
  obtain ⟨M', a1, a2⟩ := q_ad h hT ha
  have h12 := h.2.1
  refine ⟨M', ?_, a2⟩
  rw [f_RM_must]
  simp (disch := first | assumption | omega) only [z_bdn, z_caln, z_gdn, z_iT, z_iF, z_le_t, z_le_f, z_lt_t, z_lt_f, z_cl, z_inb, z_at, z_pl, z_lit, nI_ii1, nI_add, nI_mul, z_eq_f, z_refuse, z_no, z_M00, b2i_t, b2i_f, h12, a1]
theorem q_must0 (h12 : mI M 135 12 = nI 0) (hT : TkM M t) : ∃ M', f_RM_must (nI 0) M = some ((), M') ∧ Bd M' (flt t 2) ∧ FrX M M' := by
  obtain ⟨M', a1, a2⟩ := q_amiss h12 hT
  refine ⟨M', ?_, a2⟩
  rw [f_RM_must]
  simp (disch := first | assumption | omega) only [z_bdn, z_caln, z_gdn, z_iT, z_iF, z_le_t, z_le_f, z_lt_t, z_lt_f, z_cl, z_inb, z_at, z_pl, z_lit, nI_ii1, nI_add, nI_mul, z_eq_f, z_refuse, z_no, z_M00, b2i_t, b2i_f, h12, a1, eq_self]
theorem q_readToldG {v : Nat} {o : Option Nat} (h : MBk M T n x y a b) (hT : TkM M t) (ha : kA t ≤ n) (hn : isK t 26 = true → f_RM_named (nI 4) (nI v) M = some (oI o, M)) (hv : ∀ i, o = some i → i < 10) : match pOld o t with
    | .ok i => ∃ M', f_RM_readTold (nI 4) (nI v) M = some (nI i, M') ∧ TkM M' (nx T n t) ∧ TkB (nx T n t) ∧ MBk M' T n x y a b ∧ FrT M M'
    | .error e => ∃ M', f_RM_readTold (nI 4) (nI v) M = some (nI 0, M') ∧ Bd M' e ∧ FrX M M' := by
  have g := q_toldG h hT hn hv
  rw [f_RM_readTold]
  cases hp : pOld o t with
  | ok i =>
    rw [hp] at g
    have g : f_RM_told (nI 4) (nI v) M = some (nI i, M) := g
    obtain ⟨M', a1, a2⟩ := q_must1 h hT ha
    refine ⟨M', ?_, a2⟩
    simp (disch := first | assumption | omega) only [z_bdn, z_caln, z_gdn, z_iT, z_iF, z_le_t, z_le_f, z_lt_t, z_lt_f, z_cl, z_inb, z_at, z_pl, z_lit, nI_ii1, nI_add, nI_mul, z_eq_f, z_refuse, z_no, z_M00, b2i_t, b2i_f, g, a1]
  | error e =>
    rw [hp] at g
    obtain ⟨M', g1, g2, g3⟩ := g
    have hm := b_must g2 (nI 1)
    refine ⟨M', ?_, g2, g3⟩
    simp (disch := first | assumption | omega) only [z_bdn, z_caln, z_gdn, z_iT, z_iF, z_le_t, z_le_f, z_lt_t, z_lt_f, z_cl, z_inb, z_at, z_pl, z_lit, nI_ii1, nI_add, nI_mul, z_eq_f, z_refuse, z_no, z_M00, b2i_t, b2i_f, g1, hm]
end
