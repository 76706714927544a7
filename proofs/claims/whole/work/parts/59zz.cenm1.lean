/-! ## CENTURIES' text: the reference's base -/
/-- the treaty that is there, no fault yet -/
def MZk (M : kx_M) (T : Nat → Nat) (n : Nat) (x : Cl) (y : De) : Prop := TxM M T n ∧ mI M 135 12 = nI 0 ∧ MC (mA M 140) x ∧ MD (mA M 140) (mB M 143) y
def FrZ (M M' : kx_M) : Prop := Fr (fun id => id = 135 ∨ id = 140) M M' ∧ (∀ p, p < 3570 → mA M' 140 p = mA M 140 p) ∧ (∀ k, k < 12 ∨ (19 < k ∧ k ≠ 26) → mI M' 135 k = mI M 135 k) ∧ (∀ k, k ≠ 19 → mJ M' 135 k = mJ M 135 k)
/-- nothing but the reader, the fault and one step's fields -/
def FrZs (w : Nat) (M M' : kx_M) : Prop := FrZ M M' ∧ mI M' 135 26 = mI M 135 26 ∧ ∀ p, p < w ∨ w + 9 ≤ p → mA M' 140 p = mA M 140 p
section
variable {M M' M1 : kx_M} {T : Nat → Nat} {n w : Nat} {t : Tok} {x : Cl} {y : De} {e : Er}
theorem FrZ.rf : FrZ M M := ⟨Fr.rf, fun _ _ => rfl, fun _ _ => rfl, fun _ _ => rfl⟩
theorem FrZ.tr {A B C : kx_M} (h : FrZ A B) (g : FrZ B C) : FrZ A C := ⟨h.1.tr g.1, fun p hp => (g.2.1 p hp).trans (h.2.1 p hp), fun k hk => (g.2.2.1 k hk).trans (h.2.2.1 k hk), fun k hk => (g.2.2.2 k hk).trans (h.2.2.2 k hk)⟩
theorem FrZs.rf : FrZs w M M := ⟨FrZ.rf, rfl, fun _ _ => rfl⟩
theorem FrZs.tr {A B C : kx_M} (h : FrZs w A B) (g : FrZs w B C) : FrZs w A C := ⟨h.1.tr g.1, g.2.1.trans h.2.1, fun p hp => (g.2.2 p hp).trans (h.2.2 p hp)⟩
theorem FrZs.Tt (h : FrT M M') : FrZs w M M' := ⟨⟨h.1.mono (fun id e => Or.inl e), fun p _ => congrFun (h.1 140 (by decide)).2.2.1 p, fun k hk => h.2.1 k (by omega), h.2.2⟩, h.2.1 26 (by omega), fun p _ => congrFun (h.1 140 (by decide)).2.2.1 p⟩
theorem FrZs.I {k : Nat} {v : Int32} (hk : 12 ≤ k ∧ k ≤ 19) : FrZs w M (sI M 135 k v) := ⟨⟨Fr.sI (Or.inl rfl), fun _ _ => rfl, fun j hj => by rw [mI_sI, if_neg (by omega)], fun _ _ => rfl⟩, by rw [mI_sI, if_neg (by omega)], fun _ _ => rfl⟩
theorem FrZs.A {p : Nat} {v : Int32} (hw : 3570 ≤ w) (h1 : w ≤ p) (h2 : p < w + 9) : FrZs w M (sA M 140 (upd (mA M 140) p v)) := ⟨⟨Fr.sA (Or.inr rfl), fun q hq => by rw [mA_sA, if_pos rfl, upd_at, if_neg (by omega)], fun _ _ => rfl, fun _ _ => rfl⟩, rfl, fun q hq => by rw [mA_sA, if_pos rfl, upd_at, if_neg (by omega)]⟩
theorem MC_lo4 {g g' : Nat → Int32} (hO : OkC x) (hg : ∀ p, p < 496 → g' p = g p) (h : MC g x) : MC g' x := by
  obtain ⟨⟨w1, w2⟩, -, w3, -⟩ := hO
  obtain ⟨h1, h2, h3, h4, h5, h6⟩ := h
  refine ⟨(hg _ (by omega)).trans h1, (hg _ (by omega)).trans h2, (hg _ (by omega)).trans h3, (hg _ (by omega)).trans h4, fun r hr => (hg _ (by omega)).trans (h5 r hr), fun r i hr hi => ?_⟩
  obtain ⟨k1, k2, k3, k4⟩ := h6 r i hr hi
  exact ⟨(hg _ (by omega)).trans k1, (hg _ (by omega)).trans k2, (hg _ (by omega)).trans k3, (hg _ (by omega)).trans k4⟩
theorem MD_lo4 {g g' : Nat → Int32} {h : Nat → Int64} {W : Nat} (hP : OkD W y) (hg : ∀ p, p < 496 → g' p = g p) (hD : MD g h y) : MD g' h y := by
  obtain ⟨p1, p2, -, p4, -⟩ := hP
  obtain ⟨h1, h2, h3, h4, h5, h6, h7⟩ := hD
  exact ⟨(hg _ (by omega)).trans h1, (hg _ (by omega)).trans h2, fun q hq => ⟨(hg _ (by omega)).trans (h3 q hq).1, (h3 q hq).2⟩, fun k hk => ⟨(h4 k hk).1, (hg _ (by omega)).trans (h4 k hk).2⟩, fun k i hk hi => (hg _ (by have := p4 k hk; omega)).trans (h5 k i hk hi), fun k hk => (hg _ (by omega)).trans (h6 k hk), fun v q k hv hq hk => (hg _ (by omega)).trans (h7 v q k hv hq hk)⟩
theorem MZk_T (h : MZk M T n x y) (hF : FrT M M') : MZk M' T n x y := by
  obtain ⟨h1, h2, h3, h4⟩ := h
  have e140 := (hF.1 140 (by decide)).2.2.1
  have e143 := (hF.1 143 (by decide)).2.2.2.1
  unfold MZk
  rw [e140, e143]
  exact ⟨TxM_T h1 hF, (hF.2.1 12 (by omega)).trans h2, h3, h4⟩
theorem MZk_A {p : Nat} {v : Int32} {W : Nat} (hO : OkC x) (hP : OkD W y) (hp : 3570 ≤ p) (h : MZk M T n x y) : MZk (sA M 140 (upd (mA M 140) p v)) T n x y := by
  obtain ⟨h1, h2, h3, h4⟩ := h
  have hg : ∀ q, q < 496 → upd (mA M 140) p v q = mA M 140 q := fun q hq => by rw [upd_at, if_neg (by omega)]
  exact ⟨h1, h2, MC_lo4 hO hg h3, MD_lo4 hP hg h4⟩
theorem MZk_I {k : Nat} {v : Int32} (hk : 20 ≤ k) (h : MZk M T n x y) : MZk (sI M 135 k v) T n x y := by
  obtain ⟨⟨h0, h00, h1⟩, h2, h3, h4⟩ := h
  exact ⟨⟨by rw [mI_sI, if_neg (by omega)]; exact h0, h00, h1⟩, by rw [mI_sI, if_neg (by omega)]; exact h2, h3, h4⟩
theorem q_adZ (h : MZk M T n x y) (hT : TkM M t) (ha : kA t ≤ n) : ∃ M', f_RM_advance M = some ((), M') ∧ TkM M' (nx T n t) ∧ TkB (nx T n t) ∧ MZk M' T n x y ∧ FrT M M' := by
  obtain ⟨M', a1, a2, a3⟩ := q_advance h.1 ha hT.2.2.1
  exact ⟨M', a1, a2, TkBM h.1 ha, MZk_T h a3, a3⟩
theorem q_failZ {k p : Nat} (h12 : mI M 135 12 = nI 0) (hk : 1 ≤ k ∧ k ≤ 7) : ∃ M', f_RM_fail (nI k) (nI p) M = some ((), M') ∧ Bd M' (k, p) ∧ FrZs w M M' := by
  refine ⟨sI (sI M 135 12 (nI k)) 135 13 (nI p), ?_, ⟨rfl, rfl, hk.1, hk.2⟩, (FrZs.I (by omega)).tr (FrZs.I (by omega))⟩
  rw [f_RM_fail]
  simp (disch := first | assumption | omega) only [z_bdn, z_caln, z_gdn, z_iT, z_iF, z_le_t, z_le_f, z_lt_t, z_lt_f, z_cl, z_inb, z_at, z_pl, z_lit, nI_ii1, nI_add, nI_mul, z_eq_f, z_refuse, z_no, z_M00, b2i_t, b2i_f, h12]
theorem q_amissZ (h12 : mI M 135 12 = nI 0) (hT : TkM M t) : ∃ M', f_RM_amiss M = some ((), M') ∧ Bd M' (flt t 2) ∧ FrZs w M M' := by
  have h14 := hT.1
  have h15 := hT.2.1
  have hs := hT.2.2.2.2.2.2.2
  have z1 := z_sM1 hs
  rw [f_RM_amiss]
  unfold flt
  by_cases h1 : kS t = 1
  · rw [if_pos h1]
    rw [eq_true h1] at z1
    obtain ⟨Mf, f1, f2, f3⟩ := q_failZ (w := w) (k := 1) (p := kP t) h12 (by omega)
    refine ⟨Mf, ?_, f2, f3⟩
    simp (disch := first | assumption | omega) only [z_bdn, z_caln, z_gdn, z_iT, z_iF, z_le_t, z_le_f, z_lt_t, z_lt_f, z_cl, z_inb, z_at, z_pl, z_lit, nI_ii1, nI_add, nI_mul, z_eq_f, z_refuse, z_no, z_M00, b2i_t, b2i_f, h14, z1, h15, f1]
  · rw [if_neg h1]
    rw [eq_false h1] at z1
    obtain ⟨Mf, f1, f2, f3⟩ := q_failZ (w := w) (k := 2) (p := kP t) h12 (by omega)
    refine ⟨Mf, ?_, f2, f3⟩
    simp (disch := first | assumption | omega) only [z_bdn, z_caln, z_gdn, z_iT, z_iF, z_le_t, z_le_f, z_lt_t, z_lt_f, z_cl, z_inb, z_at, z_pl, z_lit, nI_ii1, nI_add, nI_mul, z_eq_f, z_refuse, z_no, z_M00, b2i_t, b2i_f, h14, z1, h15, f1]
theorem q_must1Z (h : MZk M T n x y) (hT : TkM M t) (ha : kA t ≤ n) : ∃ M', f_RM_must (nI 1) M = some ((), M') ∧ TkM M' (nx T n t) ∧ TkB (nx T n t) ∧ MZk M' T n x y ∧ FrT M M' := by
  obtain ⟨M', a1, a2⟩ := q_adZ h hT ha
  have h12 := h.2.1
  refine ⟨M', ?_, a2⟩
  rw [f_RM_must]
  simp (disch := first | assumption | omega) only [z_bdn, z_caln, z_gdn, z_iT, z_iF, z_le_t, z_le_f, z_lt_t, z_lt_f, z_cl, z_inb, z_at, z_pl, z_lit, nI_ii1, nI_add, nI_mul, z_eq_f, z_refuse, z_no, z_M00, b2i_t, b2i_f, h12, a1]
theorem q_must0Z (h12 : mI M 135 12 = nI 0) (hT : TkM M t) : ∃ M', f_RM_must (nI 0) M = some ((), M') ∧ Bd M' (flt t 2) ∧ FrZs w M M' := by
  obtain ⟨M', a1, a2⟩ := q_amissZ (w := w) h12 hT
  refine ⟨M', ?_, a2⟩
  rw [f_RM_must]
  simp (disch := first | assumption | omega) only [z_bdn, z_caln, z_gdn, z_iT, z_iF, z_le_t, z_le_f, z_lt_t, z_lt_f, z_cl, z_inb, z_at, z_pl, z_lit, nI_ii1, nI_add, nI_mul, z_eq_f, z_refuse, z_no, z_M00, b2i_t, b2i_f, h12, a1, eq_self]
/-- what a count gives -/
def NmM (M : kx_M) (T : Nat → Nat) (n w : Nat) (x : Cl) (y : De) (t : Tok) (f : Option (Int32 × kx_M)) (v : Except Er Nat) : Prop := match v with
  | .ok v => ∃ M', f = some (nI v, M') ∧ TkM M' (nx T n t) ∧ TkB (nx T n t) ∧ MZk M' T n x y ∧ FrT M M'
  | .error e => ∃ M', f = some (nI 0, M') ∧ Bd M' e ∧ FrZs w M M'
theorem q_cntZ0 {lo : Nat} {p4 : Int32} {v : Except Er Nat} (h : MZk M T n x y) (hT : TkM M t) (hB : TkB t) (ha : kA t ≤ n) (hr : kS t = 3 → f_RM_isIn (nI (kV t)).toInt64 (nI lo).toInt64 p4.toInt64 M = some (b2i (match v with | .ok _ => true | .error _ => false), M)) (hv : kS t = 3 → v = .ok (kV t) ∨ v = .error (flt t 4)) (hv2 : kS t ≠ 3 → v = .error (flt t 2)) : NmM M T n w x y t (f_RM_count (nI lo) p4 M) v := by
  have h12 := h.2.1
  have h14 := hT.1
  have h15 := hT.2.1
  have hs := hT.2.2.2.2.2.2.2
  have z3 := z_sM3 hs
  rw [f_RM_count]
  by_cases h3 : kS t = 3
  · rw [eq_true h3] at z3
    have e17 := hT.2.2.2.1 (Or.inl h3)
    have hr := hr h3
    rcases hv h3 with rfl | rfl
    · have hr : f_RM_isIn (nI (kV t)).toInt64 (nI lo).toInt64 p4.toInt64 M = some (nI 1, M) := hr
      obtain ⟨M1, a1, a2, a3, a4, a5⟩ := q_adZ h hT ha
      refine ⟨M1, ?_, a2, a3, a4, a5⟩
      simp (disch := first | assumption | omega) only [z_bdn, z_caln, z_gdn, z_iT, z_iF, z_le_t, z_le_f, z_lt_t, z_lt_f, z_cl, z_inb, z_at, z_pl, z_lit, nI_ii1, nI_add, nI_mul, z_eq_f, z_refuse, z_no, z_M00, b2i_t, b2i_f, h12, h14, z3, f_RM_count_l19, e17, hr, f_RM_count_l50, a1]
    · have hr : f_RM_isIn (nI (kV t)).toInt64 (nI lo).toInt64 p4.toInt64 M = some (nI 0, M) := hr
      obtain ⟨Mf, f1, f2, f3⟩ := q_failZ (w := w) (k := 4) (p := kP t) h12 (by omega)
      have zl := b_le f2
      have ef : flt t 4 = (4, kP t) := by unfold flt; rw [if_neg (by omega)]
      rw [ef]
      refine ⟨Mf, ?_, f2, f3⟩
      simp (disch := first | assumption | omega) only [z_bdn, z_caln, z_gdn, z_iT, z_iF, z_le_t, z_le_f, z_lt_t, z_lt_f, z_cl, z_inb, z_at, z_pl, z_lit, nI_ii1, nI_add, nI_mul, z_eq_f, z_refuse, z_no, z_M00, b2i_t, b2i_f, h12, h14, z3, f_RM_count_l19, e17, hr, h15, f1, f_RM_count_l50, zl]
  · rw [eq_false h3] at z3
    rw [hv2 h3]
    obtain ⟨Mf, f1, f2, f3⟩ := q_amissZ (w := w) h12 hT
    have zl := b_le f2
    have ze := b_eq f2
    refine ⟨Mf, ?_, f2, f3⟩
    simp (disch := first | assumption | omega) only [z_bdn, z_caln, z_gdn, z_iT, z_iF, z_le_t, z_le_f, z_lt_t, z_lt_f, z_cl, z_inb, z_at, z_pl, z_lit, nI_ii1, nI_add, nI_mul, z_eq_f, z_refuse, z_no, z_M00, b2i_t, b2i_f, h12, h14, z3, f1, f_RM_count_l19, ze, f_RM_count_l50, zl]
end
