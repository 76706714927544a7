/-! ## SHORTEST: the reference's orders -/
def RunAt (M : kx_M) (L c : Nat) : Prop := c < 4 ^ L ∧ L ≤ 30 ∧ ∀ i, i < L → mA M 145 i = nI (ltN L c i)
def BestAt (M : kx_M) (b : Nat) : Prop := (b = 0 ∧ mI M 135 31 = -nI 1) ∨ ∃ L c, b = 4 ^ L + c ∧ c < 4 ^ L ∧ L ≤ 30 ∧ mI M 135 31 = nI L ∧ ∀ i, i < L → mA M 146 i = nI (ltN L c i)
def FrL (M M' : kx_M) : Prop := Fr (fun id => id = 135 ∨ id = 145 ∨ id = 146) M M' ∧ (∀ k, k ≠ 31 → mI M' 135 k = mI M 135 k) ∧ (∀ k, mJ M' 135 k = mJ M 135 k)
theorem FrL.rf {M : kx_M} : FrL M M := ⟨Fr.rf, fun _ _ => rfl, fun _ => rfl⟩
theorem FrL.tr {A B C : kx_M} (h : FrL A B) (g : FrL B C) : FrL A C := ⟨h.1.tr g.1, fun k hk => (g.2.1 k hk).trans (h.2.1 k hk), fun k => (g.2.2 k).trans (h.2.2 k)⟩
theorem FrL.A {M M' : kx_M} (h : Fr (fun id => id = 145 ∨ id = 146) M M') : FrL M M' := ⟨h.mono (fun id e => Or.inr e), fun k _ => (h 135 (by decide)).1 k, fun k => (h 135 (by decide)).2.1 k⟩
theorem lt_lt4 (L c i : Nat) : ltN L c i < 4 := Nat.mod_lt _ (by omega)
theorem dv_app {c d m : Nat} (hd : d < 4 ^ m) : (c * 4 ^ m + d) / 4 ^ m = c ∧ (c * 4 ^ m + d) % 4 ^ m = d := by
  have hp : 0 < 4 ^ m := Nat.pow_pos (by omega)
  constructor
  · rw [Nat.add_comm, Nat.add_mul_div_right _ _ hp, Nat.div_eq_of_lt hd, Nat.zero_add]
  · rw [Nat.add_comm, Nat.add_mul_mod_self_right, Nat.mod_eq_of_lt hd]
theorem lt_pre {c d m L i : Nat} (hd : d < 4 ^ m) (hi : i < L) : ltN (L + m) (c * 4 ^ m + d) i = ltN L c i := by
  unfold ltN
  rw [show L + m - 1 - i = m + (L - 1 - i) by omega, ← dd4, (dv_app hd).1]
theorem lt_suf {c d m L t : Nat} (hd : d < 4 ^ m) (ht : t < m) : ltN (L + m) (c * 4 ^ m + d) (L + t) = d / 4 ^ (m - 1 - t) % 4 := by
  unfold ltN
  rw [show L + m - 1 - (L + t) = m - 1 - t by omega, ← md_dg (c := c * 4 ^ m + d) (n := m) (by omega), (dv_app hd).2]
theorem suf_all {c d o m : Nat} (hd : d < 4 ^ (o + m)) (h : c % 4 ^ o = d / 4 ^ m) : (c * 4 ^ m + d % 4 ^ m) % 4 ^ (o + m) = d := by
  have hp : 0 < 4 ^ m := Nat.pow_pos (by omega)
  have hm : d % 4 ^ m < 4 ^ m := Nat.mod_lt _ hp
  rw [Nat.add_comm o m, Nat.pow_add, Nat.mod_mul, (dv_app hm).1, (dv_app hm).2, h]
  have := Nat.div_add_mod d (4 ^ m)
  omega
theorem ovF_mt (mt : Nat → Bool) : ∀ n, ovF mt n = 0 ∨ mt (ovF mt n) = true
  | 0 => Or.inl rfl
  | n + 1 => by
    have e : ovF mt (n + 1) = if mt (n + 1) = true then n + 1 else ovF mt n := rfl
    rw [e]
    by_cases h : mt (n + 1) = true
    · rw [if_pos h]; exact Or.inr h
    · rw [if_neg h]; exact ovF_mt mt n
section
variable {M M' : kx_M} {σ : Sg} {y : De} {h : Nat → Int64} {G : Nat → Int32}
theorem q_better_l29 {L c d : Nat} (hL : L ≤ 30) (h5 : ∀ i, i < L → mA M 145 i = nI (ltN L c i)) (h6 : ∀ i, i < L → mA M 146 i = nI (ltN L d i)) : ∀ (m n i : Nat), i + m = L → m < n → c / 4 ^ m = d / 4 ^ m → f_RM_isBetter_l29 (nI L) n (nI i) M = some (b2i (decide (c < d)), M) := by
  intro m
  induction m with
  | zero =>
    intro n i hi hn hc
    obtain ⟨n, rfl, hn⟩ := z_succ hn
    obtain rfl : i = L := by omega
    rw [Nat.pow_zero, Nat.div_one, Nat.div_one] at hc
    rw [hc, decide_eq_false (Nat.lt_irrefl d), f_RM_isBetter_l29]
    simp (disch := first | assumption | omega) only [z_bdn, z_caln, z_gdn, z_iT, z_iF, z_le_t, z_le_f, z_lt_t, z_lt_f, z_cl, z_inb, z_at, z_pl, z_lit, nI_ii1, nI_add, nI_mul, z_eq_f, z_refuse, z_no, z_M00, b2i_t, b2i_f]
  | succ m ih =>
    intro n i hi hn hc
    obtain ⟨n, rfl, hn⟩ := z_succ hn
    have e5 := h5 i (by omega)
    have e6 := h6 i (by omega)
    have l5 := lt_lt4 L c i
    have l6 := lt_lt4 L d i
    have c1 := dv_s c m
    have d1 := dv_s d m
    rw [show c / 4 ^ m % 4 = ltN L c i from by unfold ltN; rw [show L - 1 - i = m by omega]] at c1
    rw [show d / 4 ^ m % 4 = ltN L d i from by unfold ltN; rw [show L - 1 - i = m by omega]] at d1
    rw [f_RM_isBetter_l29]
    by_cases he : ltN L c i = ltN L d i
    · have g := ih n (i + 1) (by omega) (by omega) (by omega)
      have e7 : (nI (ltN L c i) = nI (ltN L d i)) = True := eq_true (by rw [he])
      simp (disch := first | assumption | omega) only [z_bdn, z_caln, z_gdn, z_iT, z_iF, z_le_t, z_le_f, z_lt_t, z_lt_f, z_cl, z_inb, z_at, z_pl, z_lit, nI_ii1, nI_add, nI_mul, z_eq_f, z_refuse, z_no, z_M00, b2i_t, b2i_f, e5, e6, e7]
      exact g
    · by_cases hlt : ltN L c i < ltN L d i
      · rw [decide_eq_true (lx_lt (c := c) (d := d) (m := m) (by omega))]
        simp (disch := first | assumption | omega) only [z_bdn, z_caln, z_gdn, z_iT, z_iF, z_le_t, z_le_f, z_lt_t, z_lt_f, z_cl, z_inb, z_at, z_pl, z_lit, nI_ii1, nI_add, nI_mul, z_eq_f, z_refuse, z_no, z_M00, b2i_t, b2i_f, e5, e6]
      · have h1 : d < c := lx_lt (m := m) (by omega)
        rw [decide_eq_false (by omega)]
        simp (disch := first | assumption | omega) only [z_bdn, z_caln, z_gdn, z_iT, z_iF, z_le_t, z_le_f, z_lt_t, z_lt_f, z_cl, z_inb, z_at, z_pl, z_lit, nI_ii1, nI_add, nI_mul, z_eq_f, z_refuse, z_no, z_M00, b2i_t, b2i_f, e5, e6]
theorem q_better {L c b : Nat} (hR : RunAt M L c) (hB : BestAt M b) : f_RM_isBetter (nI L) M = some (b2i (decide (b = 0 ∨ 4 ^ L + c < b)), M) := by
  obtain ⟨r1, r2, r3⟩ := hR
  rw [f_RM_isBetter]
  rcases hB with ⟨b1, b2⟩ | ⟨L0, c0, b1, b2, b3, b4, b5⟩
  · rw [decide_eq_true (Or.inl b1)]
    simp (disch := first | assumption | omega) only [z_bdn, z_caln, z_gdn, z_iT, z_iF, z_le_t, z_le_f, z_lt_t, z_lt_f, z_cl, z_inb, z_at, z_pl, z_lit, nI_ii1, nI_add, nI_mul, z_eq_f, z_refuse, z_no, z_M00, b2i_t, b2i_f, b2, z_neg1]
  · have hp : 0 < 4 ^ L0 := Nat.pow_pos (by omega)
    rcases Nat.lt_trichotomy L L0 with hl | hl | hl
    · rw [decide_eq_true (Or.inr (by rw [b1]; exact e4_lt r1 hl))]
      simp (disch := first | assumption | omega) only [z_bdn, z_caln, z_gdn, z_iT, z_iF, z_le_t, z_le_f, z_lt_t, z_lt_f, z_cl, z_inb, z_at, z_pl, z_lit, nI_ii1, nI_add, nI_mul, z_eq_f, z_refuse, z_no, z_M00, b2i_t, b2i_f, b4, nI_pos0]
    · subst hl
      have g := q_better_l29 r2 r3 b5 L FU 0 (by omega) (FU_lt (by omega)) (by rw [Nat.div_eq_of_lt r1, Nat.div_eq_of_lt b2])
      rw [show decide (b = 0 ∨ 4 ^ L + c < b) = decide (c < c0) from by
        by_cases hc : c < c0
        · rw [decide_eq_true hc, decide_eq_true (Or.inr (by omega))]
        · rw [decide_eq_false hc, decide_eq_false (by omega)]]
      simp (disch := first | assumption | omega) only [z_bdn, z_caln, z_gdn, z_iT, z_iF, z_le_t, z_le_f, z_lt_t, z_lt_f, z_cl, z_inb, z_at, z_pl, z_lit, nI_ii1, nI_add, nI_mul, z_eq_f, z_refuse, z_no, z_M00, b2i_t, b2i_f, b4, nI_pos0]
      exact g
    · rw [decide_eq_false (by have := e4_lt (c0 := c) b2 hl; omega)]
      simp (disch := first | assumption | omega) only [z_bdn, z_caln, z_gdn, z_iT, z_iF, z_le_t, z_le_f, z_lt_t, z_lt_f, z_cl, z_inb, z_at, z_pl, z_lit, nI_ii1, nI_add, nI_mul, z_eq_f, z_refuse, z_no, z_M00, b2i_t, b2i_f, b4, nI_pos0]
theorem q_lays_l20 {cl : Int32 → Int32 → kx_M → Option (Unit × kx_M)} {X : Int32} {L c : Nat} (hL : L ≤ 30) : ∀ (m n i : Nat) (M : kx_M), i + m = L → m < n → (∀ j, j < L → mA M 145 j = nI (ltN L c j)) → (∀ j, j < i → mA M 146 j = nI (ltN L c j)) → ∃ M', f_RM_lays_l20 cl X (nI L) n (nI i) M = some ((), M') ∧ (∀ j, j < L → mA M' 146 j = nI (ltN L c j)) ∧ Fr (fun id => id = 146) M M' := by
  intro m
  induction m with
  | zero =>
    intro n i M hi hn h5 h6
    obtain ⟨n, rfl, hn⟩ := z_succ hn
    obtain rfl : i = L := by omega
    refine ⟨M, ?_, h6, Fr.rf⟩
    rw [f_RM_lays_l20]
    simp (disch := first | assumption | omega) only [z_bdn, z_caln, z_gdn, z_iT, z_iF, z_le_t, z_le_f, z_lt_t, z_lt_f, z_cl, z_inb, z_at, z_pl, z_lit, nI_ii1, nI_add, nI_mul, z_eq_f, z_refuse, z_no, z_M00, b2i_t, b2i_f]
  | succ m ih =>
    intro n i M hi hn h5 h6
    obtain ⟨n, rfl, hn⟩ := z_succ hn
    have e5 := h5 i (by omega)
    obtain ⟨M', a1, a2, a3⟩ := ih n (i + 1) (sA M 146 (upd (mA M 146) i (nI (ltN L c i)))) (by omega) (by omega) h5 (fun j hj => by
      rw [mA_sA, if_pos rfl, upd_at]
      by_cases he : j = i
      · rw [if_pos he, he]
      · rw [if_neg he]; exact h6 j (by omega))
    refine ⟨M', ?_, a2, Fr.tr (Fr.sA rfl) a3⟩
    rw [f_RM_lays_l20]
    simp (disch := first | assumption | omega) only [z_bdn, z_caln, z_gdn, z_iT, z_iF, z_le_t, z_le_f, z_lt_t, z_lt_f, z_cl, z_inb, z_at, z_pl, z_lit, nI_ii1, nI_add, nI_mul, z_eq_f, z_refuse, z_no, z_M00, b2i_t, b2i_f, e5]
    exact a1
theorem q_laps_l26 {W L c k t : Nat} {K : Int32 → kx_M → Option (Int32 × kx_M)} (hP : OkD W y) (hD : MD (mA M 140) h y) (hk : k < dC y) (hL : L ≤ 30) (h5 : ∀ i, i < L → mA M 145 i = nI (ltN L c i)) (ht : t + 1 ≤ L) (ht2 : t + 1 ≤ dL y k) : ∀ (m n j : Nat), j + m = t + 1 → m < n → (f_RM_laps_l26 (nI L) (nI k) K n (nI (t + 1)) (nI 0) (nI j) M = K (nI t) M) ∧ ((∀ i, j ≤ i → i < t + 1 → c / 4 ^ (t + 1 - 1 - i) % 4 = dK y (5 * k + i)) → f_RM_laps_l26 (nI L) (nI k) K n (nI (t + 1)) (nI 1) (nI j) M = some (nI (t + 1), M)) ∧ (¬ (∀ i, j ≤ i → i < t + 1 → c / 4 ^ (t + 1 - 1 - i) % 4 = dK y (5 * k + i)) → f_RM_laps_l26 (nI L) (nI k) K n (nI (t + 1)) (nI 1) (nI j) M = K (nI t) M) := by
  have w2 := hP.2.1
  have lk := hP.2.2.2.1 k hk
  have n10 : (nI 1 = nI 0) = False := z_eq_f (by omega) (by omega) (by omega)
  have zd := z_dec t (by omega)
  intro m
  induction m with
  | zero =>
    intro n j hj hn
    obtain ⟨n, rfl, hn⟩ := z_succ hn
    obtain rfl : j = t + 1 := by omega
    refine ⟨?_, fun _ => ?_, fun hh => absurd (fun i i1 i2 => absurd i2 (by omega)) hh⟩
    · rw [f_RM_laps_l26]
      simp (disch := first | assumption | omega) only [z_bdn, z_caln, z_gdn, z_iT, z_iF, z_le_t, z_le_f, z_lt_t, z_lt_f, z_cl, z_inb, z_at, z_pl, z_lit, nI_ii1, nI_add, nI_mul, z_eq_f, z_refuse, z_no, z_M00, b2i_t, b2i_f, zd]
    · rw [f_RM_laps_l26]
      simp (disch := first | assumption | omega) only [z_bdn, z_caln, z_gdn, z_iT, z_iF, z_le_t, z_le_f, z_lt_t, z_lt_f, z_cl, z_inb, z_at, z_pl, z_lit, nI_ii1, nI_add, nI_mul, z_eq_f, z_refuse, z_no, z_M00, b2i_t, b2i_f, n10]
  | succ m ih =>
    intro n j hj hn
    obtain ⟨n, rfl, hn⟩ := z_succ hn
    obtain ⟨g0, g1, g2⟩ := ih n (j + 1) (by omega) (by omega)
    have e5 := h5 (L - (t + 1) + j) (by omega)
    have ed : ltN L c (L - (t + 1) + j) = c / 4 ^ (t + 1 - 1 - j) % 4 := by
      unfold ltN
      rw [show L - 1 - (L - (t + 1) + j) = t + 1 - 1 - j by omega]
    rw [ed] at e5
    have e1 := (MD_at (W := W) hD hk).2 j (by omega)
    have k1 : dK y (5 * k + j) < 4 := hP.2.2.2.2.1 k j hk (by omega)
    have k2 : c / 4 ^ (t + 1 - 1 - j) % 4 < 4 := Nat.mod_lt _ (by omega)
    refine ⟨?_, fun hh => ?_, fun hh => ?_⟩
    · rw [f_RM_laps_l26]
      simp (disch := first | assumption | omega) only [z_bdn, z_caln, z_gdn, z_iT, z_iF, z_le_t, z_le_f, z_lt_t, z_lt_f, z_cl, z_inb, z_at, z_pl, z_lit, nI_ii1, nI_add, nI_mul, z_eq_f, z_refuse, z_no, z_M00, b2i_t, b2i_f]
      exact g0
    · have hj2 := hh j (Nat.le_refl _) (by omega)
      have e3 : (nI (c / 4 ^ (t + 1 - 1 - j) % 4) = nI (dK y (5 * k + j))) = True := eq_true (by rw [hj2])
      rw [f_RM_laps_l26]
      simp (disch := first | assumption | omega) only [z_bdn, z_caln, z_gdn, z_iT, z_iF, z_le_t, z_le_f, z_lt_t, z_lt_f, z_cl, z_inb, z_at, z_pl, z_lit, nI_ii1, nI_add, nI_mul, z_eq_f, z_refuse, z_no, z_M00, b2i_t, b2i_f, n10, z_sub, e5, e1, e3]
      exact g1 (fun i i1 i2 => hh i (by omega) i2)
    · rw [f_RM_laps_l26]
      by_cases hj2 : c / 4 ^ (t + 1 - 1 - j) % 4 = dK y (5 * k + j)
      · have e3 : (nI (c / 4 ^ (t + 1 - 1 - j) % 4) = nI (dK y (5 * k + j))) = True := eq_true (by rw [hj2])
        simp (disch := first | assumption | omega) only [z_bdn, z_caln, z_gdn, z_iT, z_iF, z_le_t, z_le_f, z_lt_t, z_lt_f, z_cl, z_inb, z_at, z_pl, z_lit, nI_ii1, nI_add, nI_mul, z_eq_f, z_refuse, z_no, z_M00, b2i_t, b2i_f, n10, z_sub, e5, e1, e3]
        refine g2 (fun hh2 => hh (fun i i1 i2 => ?_))
        by_cases he : i = j
        · rw [he]; exact hj2
        · exact hh2 i (by omega) i2
      · have e3 : (nI (c / 4 ^ (t + 1 - 1 - j) % 4) = nI (dK y (5 * k + j))) = False := z_eq_f hj2 (by omega) (by omega)
        simp (disch := first | assumption | omega) only [z_bdn, z_caln, z_gdn, z_iT, z_iF, z_le_t, z_le_f, z_lt_t, z_lt_f, z_cl, z_inb, z_at, z_pl, z_lit, nI_ii1, nI_add, nI_mul, z_eq_f, z_refuse, z_no, z_M00, b2i_t, b2i_f, n10, z_sub, e5, e1, e3]
        exact g0
theorem q_laps_l16 {W L c k : Nat} (hP : OkD W y) (hD : MD (mA M 140) h y) (hk : k < dC y) (hL : L ≤ 30) (h5 : ∀ i, i < L → mA M 145 i = nI (ltN L c i)) : ∀ (t n : Nat), t ≤ L → t ≤ dL y k → t < n → f_RM_laps_l16 (nI L) (nI k) n (nI t) M = some (nI (ovF (fun n => decide (c % 4 ^ n = wC5 y k / 4 ^ (dL y k - n))) t), M) := by
  have ck := (wC5_lt hP hk).1
  have lk := hP.2.2.2.1 k hk
  intro t
  induction t with
  | zero =>
    intro n _ _ hn
    obtain ⟨n, rfl, hn⟩ := z_succ hn
    rw [f_RM_laps_l16]
    simp (disch := first | assumption | omega) only [z_bdn, z_caln, z_gdn, z_iT, z_iF, z_le_t, z_le_f, z_lt_t, z_lt_f, z_cl, z_inb, z_at, z_pl, z_lit, nI_ii1, nI_add, nI_mul, z_eq_f, z_refuse, z_no, z_M00, b2i_t, b2i_f]
    rfl
  | succ t ih =>
    intro n h1 h2 hn
    obtain ⟨n, rfl, hn⟩ := z_succ hn
    have g := ih n (by omega) (by omega) (by omega)
    obtain ⟨-, a1, a2⟩ := q_laps_l26 (c := c) (K := f_RM_laps_l16 (nI L) (nI k) n) hP hD hk hL h5 h1 h2 (t + 1) FU 0 (by omega) (FU_lt (by omega))
    have hm : c % 4 ^ (t + 1) = wC5 y k / 4 ^ (dL y k - (t + 1)) ↔ (∀ i, 0 ≤ i → i < t + 1 → c / 4 ^ (t + 1 - 1 - i) % 4 = dK y (5 * k + i)) := by
      rw [mt_dg ck h2]
      refine forall_congr' (fun i => ⟨fun hh _ hi => ?_, fun hh hi => ?_⟩)
      · rw [hh hi, kd_dg hP hk (by omega)]
      · rw [hh (Nat.zero_le _) hi, kd_dg hP hk (by omega)]
    have eo : ovF (fun n => decide (c % 4 ^ n = wC5 y k / 4 ^ (dL y k - n))) (t + 1) = if decide (c % 4 ^ (t + 1) = wC5 y k / 4 ^ (dL y k - (t + 1))) = true then t + 1 else ovF (fun n => decide (c % 4 ^ n = wC5 y k / 4 ^ (dL y k - n))) t := rfl
    rw [eo, f_RM_laps_l16]
    by_cases hh : c % 4 ^ (t + 1) = wC5 y k / 4 ^ (dL y k - (t + 1))
    · rw [decide_eq_true hh, z_itt]
      simp (disch := first | assumption | omega) only [z_bdn, z_caln, z_gdn, z_iT, z_iF, z_le_t, z_le_f, z_lt_t, z_lt_f, z_cl, z_inb, z_at, z_pl, z_lit, nI_ii1, nI_add, nI_mul, z_eq_f, z_refuse, z_no, z_M00, b2i_t, b2i_f]
      exact a1 (hm.mp hh)
    · rw [decide_eq_false hh, z_itf]
      simp (disch := first | assumption | omega) only [z_bdn, z_caln, z_gdn, z_iT, z_iF, z_le_t, z_le_f, z_lt_t, z_lt_f, z_cl, z_inb, z_at, z_pl, z_lit, nI_ii1, nI_add, nI_mul, z_eq_f, z_refuse, z_no, z_M00, b2i_t, b2i_f]
      exact (a2 (fun h3 => hh (hm.mpr h3))).trans g
theorem q_laps {W L c k : Nat} (hP : OkD W y) (hD : MD (mA M 140) h y) (hk : k < dC y) (hR : RunAt M L c) : f_RM_laps (nI L) (nI k) M = some (nI (ovF (fun n => decide (c % 4 ^ n = wC5 y k / 4 ^ (dL y k - n))) (min L (dL y k - 1))), M) := by
  have w2 := hP.2.1
  have lk := hP.2.2.2.1 k hk
  obtain ⟨r1, r2, r3⟩ := hR
  have e1 := (MD_at (W := W) hD hk).1
  have g := q_laps_l16 hP hD hk r2 r3 (min L (dL y k - 1)) FU (by omega) (by omega) (FU_lt (by omega))
  rw [f_RM_laps]
  by_cases hh : dL y k - 1 < L
  · rw [show min L (dL y k - 1) = dL y k - 1 by omega] at g ⊢
    simp (disch := first | assumption | omega) only [z_bdn, z_caln, z_gdn, z_iT, z_iF, z_le_t, z_le_f, z_lt_t, z_lt_f, z_cl, z_inb, z_at, z_pl, z_lit, nI_ii1, nI_add, nI_mul, z_eq_f, z_refuse, z_no, z_M00, b2i_t, b2i_f, e1, z_sub]
    exact g
  · rw [show min L (dL y k - 1) = L by omega] at g ⊢
    simp (disch := first | assumption | omega) only [z_bdn, z_caln, z_gdn, z_iT, z_iF, z_le_t, z_le_f, z_lt_t, z_lt_f, z_cl, z_inb, z_at, z_pl, z_lit, nI_ii1, nI_add, nI_mul, z_eq_f, z_refuse, z_no, z_M00, b2i_t, b2i_f, e1, z_sub]
    exact g
theorem q_lays_l79 {W L c k o : Nat} {cl : Int32 → Int32 → kx_M → Option (Unit × kx_M)} {X : Int32} {K : Int32 → kx_M → Option (Unit × kx_M)} (hP : OkD W y) (hD : MD G h y) (hk : k < dC y) (hR : RunAt M L c) (ho : o ≤ dL y k - 1) (hL : L + 5 ≤ 30) : ∀ (m n j : Nat) (M1 : kx_M), j + m = dL y k → m < n → o ≤ j → mA M1 140 = G → (∀ i, i < L → mA M1 145 i = mA M 145 i) → (∀ t, o + t < j → mA M1 145 (L + t) = nI (dK y (5 * k + (o + t)))) → ∃ M2, f_RM_lays_l79 cl X (nI L) K n (nI k) (nI o) (nI j) M1 = (cal (cl (X &&& ((nI 1 <<< (nI k &&& nI 31)) ^^^ -nI 1)) (nI (L + (dL y k - o))) M2) fun _ M3 => K (nI (k + 1)) M3) ∧ RunAt M2 (L + (dL y k - o)) (c * 4 ^ (dL y k - o) + wC5 y k % 4 ^ (dL y k - o)) ∧ (∀ i, i < L → mA M2 145 i = mA M 145 i) ∧ Fr (fun id => id = 145) M1 M2 := by
  have w2 := hP.2.1
  have lk := hP.2.2.2.1 k hk
  obtain ⟨r1, r2, r3⟩ := hR
  have hmd : wC5 y k % 4 ^ (dL y k - o) < 4 ^ (dL y k - o) := Nat.mod_lt _ (Nat.pow_pos (by omega))
  intro m
  induction m with
  | zero =>
    intro n j M1 hj hn hoj hG h5 hw
    obtain ⟨n, rfl, hn⟩ := z_succ hn
    obtain rfl : j = dL y k := by omega
    have e1 := (MD_at (W := W) hD hk).1
    rw [← hG] at e1
    refine ⟨M1, ?_, ⟨xt_c r1 hmd, by omega, fun i hi => ?_⟩, h5, Fr.rf⟩
    · rw [f_RM_lays_l79]
      simp (disch := first | assumption | omega) only [z_bdn, z_caln, z_gdn, z_iT, z_iF, z_le_t, z_le_f, z_lt_t, z_lt_f, z_cl, z_inb, z_at, z_pl, z_lit, nI_ii1, nI_add, nI_mul, z_eq_f, z_refuse, z_no, z_M00, b2i_t, b2i_f, e1, z_sub]
      rw [show L + dL y k - o = L + (dL y k - o) by omega]
    · by_cases hil : i < L
      · rw [h5 i hil, r3 i hil, lt_pre hmd hil]
      · obtain ⟨t, rfl⟩ : ∃ t, i = L + t := ⟨i - L, by omega⟩
        rw [hw t (by omega), lt_suf hmd (by omega), md_dg (by omega)]
        have h1 := kd_dg hP hk (show o + t < dL y k by omega)
        rw [← h1, show dL y k - 1 - (o + t) = dL y k - o - 1 - t by omega]
  | succ m ih =>
    intro n j M1 hj hn hoj hG h5 hw
    obtain ⟨n, rfl, hn⟩ := z_succ hn
    have e1 := (MD_at (W := W) hD hk).1
    have e2 := (MD_at (W := W) hD hk).2 j (by omega)
    rw [← hG] at e1 e2
    obtain ⟨M2, a1, a2, a3, a4⟩ := ih n (j + 1) (sA M1 145 (upd (mA M1 145) (L + j - o) (nI (dK y (5 * k + j))))) (by omega) (by omega) (by omega) hG (fun i hi => by
      rw [mA_sA, if_pos rfl, upd_at, if_neg (by omega)]
      exact h5 i hi) (fun t ht => by
      rw [mA_sA, if_pos rfl, upd_at]
      by_cases he : o + t = j
      · rw [if_pos (by omega), he]
      · rw [if_neg (by omega)]; exact hw t (by omega))
    refine ⟨M2, ?_, a2, a3, Fr.tr (Fr.sA rfl) a4⟩
    rw [f_RM_lays_l79]
    simp (disch := first | assumption | omega) only [z_bdn, z_caln, z_gdn, z_iT, z_iF, z_le_t, z_le_f, z_lt_t, z_lt_f, z_cl, z_inb, z_at, z_pl, z_lit, nI_ii1, nI_add, nI_mul, z_eq_f, z_refuse, z_no, z_M00, b2i_t, b2i_f, e1, e2, z_sub]
    exact a1
theorem RunAt_pre {L c : Nat} (hR : RunAt M L c) (h : ∀ i, i < L → mA M' 145 i = mA M 145 i) : RunAt M' L c := ⟨hR.1, hR.2.1, fun i hi => (h i hi).trans (hR.2.2 i hi)⟩
theorem BestAt_F {b : Nat} (hB : BestAt M b) (hF : Fr (fun id => id = 145) M M') : BestAt M' b := by
  have f1 := (hF 135 (by decide)).1 31
  have f2 := (hF 146 (by decide)).2.2.1
  unfold BestAt at hB ⊢
  rw [f1, f2]
  exact hB
/-- what the last clause is, by the run's end -/
def lastOk (y : De) (S : Nat) (last : Option Nat) (L c : Nat) : Prop := match last with
  | none => L = 0
  | some a => kR y S a = true ∧ dL y a ≤ L ∧ c % 4 ^ dL y a = wC5 y a
theorem ov_last {W S L c k : Nat} {last : Option Nat} (hP : OkD W y) (hl : lastOk y S last L c) (hk : kR y S k = true) (hkc : k < dC y) : ovF (fun n => decide (c % 4 ^ n = wC5 y k / 4 ^ (dL y k - n))) (min L (dL y k - 1)) = ovO (dL y) (wC5 y) last k := by
  cases last with
  | none =>
    have hl : L = 0 := hl
    subst hl
    rw [Nat.zero_min]
    rfl
  | some a =>
    obtain ⟨h1, h2, h3⟩ := hl
    have ha : a < dC y := by
      unfold kR kerB at h1
      rw [Bool.and_eq_true, Bool.and_eq_true] at h1
      exact of_decide_eq_true h1.1.2
    exact ov_run h1 hk h2 h3 (hP.2.2.2.1 a ha).1 (hP.2.2.2.1 k hkc).2.1
theorem q_lays {W S : Nat} (hP : OkD W y) (hD : MD G h y) : ∀ (m n L c b : Nat) (X : Int32) (lf : Nat → Bool) (last : Option Nat) (M : kx_M), m < n → cnt lf (dC y) = m → (∀ i, i < 32 → bt X i = (lf i && decide (i < dC y))) → (∀ i, lf i = true → kR y S i = true) → lastOk y S last L c → L + 5 * m ≤ 30 → mA M 140 = G → RunAt M L c → BestAt M b → ∃ M', g_RM_lays n X (nI L) M = some ((), M') ∧ BestAt M' (mn2 b (tO (dC y) (dL y) (wC5 y) (ovO (dL y) (wC5 y)) m lf last (4 ^ L + c))) ∧ (∀ i, i < L → mA M' 145 i = mA M 145 i) ∧ FrL M M' := by
  have w2 := hP.2.1
  intro m
  induction m with
  | zero =>
    intro n L c b X lf last M hn hc hX hk hl hL hG hR hB
    obtain ⟨n, rfl, hn⟩ := z_succ hn
    have hX0 : X = nI 0 := b_ext (fun i hi => by
      rw [hX i hi, bt_nI 0 i hi, Nat.zero_testBit]
      cases hf : lf i with
      | false => rfl
      | true =>
        by_cases hi2 : i < dC y
        · have := cnt_pos.mpr ⟨i, hi2, hf⟩
          omega
        · rw [decide_eq_false hi2]; rfl)
    subst hX0
    have g := q_better hR hB
    show ∃ M', f_RM_lays (g_RM_lays n) (nI 0) (nI L) M = some ((), M') ∧ BestAt M' (mn2 b (4 ^ L + c)) ∧ _
    have hpos : 0 < 4 ^ L := Nat.pow_pos (by omega)
    by_cases hb : b = 0 ∨ 4 ^ L + c < b
    · rw [decide_eq_true hb] at g
      have em : mn2 b (4 ^ L + c) = 4 ^ L + c := by
        unfold mn2
        rcases hb with hb | hb
        · rw [if_pos hb]
        · rw [if_neg (by omega), if_neg (by omega), if_pos hb]
      obtain ⟨M', a1, a2, a3⟩ := q_lays_l20 (cl := g_RM_lays n) (X := nI 0) hR.2.1 L FU 0 (sI M 135 31 (nI L)) (by omega) (FU_lt (by have := hR.2.1; omega)) hR.2.2 (fun j hj => absurd hj (by omega))
      have r2 := hR.2.1
      refine ⟨M', ?_, ?_, fun i hi => congrFun (a3 145 (by decide)).2.2.1 i, FrL.tr ⟨Fr.sI (Or.inl rfl), fun k hk => ?_, fun k => rfl⟩ (FrL.A (a3.mono (fun id e => Or.inr e)))⟩
      · rw [f_RM_lays]
        simp (disch := first | assumption | omega) only [z_bdn, z_caln, z_gdn, z_iT, z_iF, z_le_t, z_le_f, z_lt_t, z_lt_f, z_cl, z_inb, z_at, z_pl, z_lit, nI_ii1, nI_add, nI_mul, z_eq_f, z_refuse, z_no, z_M00, b2i_t, b2i_f, g, eq_self]
        exact a1
      · rw [em]
        refine Or.inr ⟨L, c, rfl, hR.1, hR.2.1, ?_, a2⟩
        exact ((a3 135 (by decide)).1 31).trans rfl
      · rw [mI_sI, if_neg (fun e => hk e.2)]
    · rw [decide_eq_false hb] at g
      have em : mn2 b (4 ^ L + c) = b := by
        unfold mn2
        rw [if_neg (fun e => hb (Or.inl e)), if_neg (by omega), if_neg (fun e => hb (Or.inr e))]
      refine ⟨M, ?_, by rw [em]; exact hB, fun _ _ => rfl, FrL.rf⟩
      rw [f_RM_lays]
      simp (disch := first | assumption | omega) only [z_bdn, z_caln, z_gdn, z_iT, z_iF, z_le_t, z_le_f, z_lt_t, z_lt_f, z_cl, z_inb, z_at, z_pl, z_lit, nI_ii1, nI_add, nI_mul, z_eq_f, z_refuse, z_no, z_M00, b2i_t, b2i_f, g, eq_self]
  | succ m ihm =>
    intro n L c b X lf last M hn hc hX hk hl hL hG hR hB
    obtain ⟨n, rfl, hn⟩ := z_succ hn
    have hX0 : (X = nI 0) = False := eq_false (fun e => by
      obtain ⟨i, i1, i2⟩ := cnt_pos.mp (show 0 < cnt lf (dC y) by omega)
      have := hX i (by omega)
      rw [e, bt_nI 0 i (by omega), Nat.zero_testBit, i2, decide_eq_true i1] at this
      cases this)
    have key : ∀ (mm f k : Nat) (M1 : kx_M), k + mm = dC y → mm < f → mA M1 140 = G → RunAt M1 L c → (∀ i, i < L → mA M1 145 i = mA M 145 i) → BestAt M1 (mn2 b (mnK lf (fun k => tO (dC y) (dL y) (wC5 y) (ovO (dL y) (wC5 y)) m (rmB lf k) (some k) (xt (dL y) (wC5 y) (ovO (dL y) (wC5 y)) last k (4 ^ L + c))) k)) → ∃ M', f_RM_lays_l46 (g_RM_lays n) X (nI L) f (nI k) M1 = some ((), M') ∧ BestAt M' (mn2 b (mnK lf (fun k => tO (dC y) (dL y) (wC5 y) (ovO (dL y) (wC5 y)) m (rmB lf k) (some k) (xt (dL y) (wC5 y) (ovO (dL y) (wC5 y)) last k (4 ^ L + c))) (dC y))) ∧ (∀ i, i < L → mA M' 145 i = mA M 145 i) ∧ FrL M1 M' := by
      intro mm
      induction mm with
      | zero =>
        intro f k M1 hkm hf hG1 hR1 h51 hB1
        obtain ⟨f, rfl, hf⟩ := z_succ hf
        obtain rfl : k = dC y := by omega
        have e3 : mA M1 140 3 = nI (dC y) := by rw [hG1]; exact hD.2.1
        refine ⟨M1, ?_, hB1, h51, FrL.rf⟩
        rw [f_RM_lays_l46]
        simp (disch := first | assumption | omega) only [z_bdn, z_caln, z_gdn, z_iT, z_iF, z_le_t, z_le_f, z_lt_t, z_lt_f, z_cl, z_inb, z_at, z_pl, z_lit, nI_ii1, nI_add, nI_mul, z_eq_f, z_refuse, z_no, z_M00, b2i_t, b2i_f, e3]
      | succ mm ih =>
        intro f k M1 hkm hf hG1 hR1 h51 hB1
        obtain ⟨f, rfl, hf⟩ := z_succ hf
        have e3 : mA M1 140 3 = nI (dC y) := by rw [hG1]; exact hD.2.1
        have hkc : k < dC y := by omega
        have hb1 : f_RM_has X (nI k) M1 = some (b2i (lf k), M1) := by
          rw [z_has (by omega), hX k (by omega), decide_eq_true hkc, Bool.and_true]
        cases hlf : lf k with
        | false =>
          rw [hlf] at hb1
          obtain ⟨M', a1, a2⟩ := ih f (k + 1) M1 (by omega) (by omega) hG1 hR1 h51 (by
            show BestAt M1 (mn2 b (if lf k = true then _ else _))
            rw [hlf, if_neg (by decide)]
            exact hB1)
          refine ⟨M', ?_, a2⟩
          rw [f_RM_lays_l46]
          simp (disch := first | assumption | omega) only [z_bdn, z_caln, z_gdn, z_iT, z_iF, z_le_t, z_le_f, z_lt_t, z_lt_f, z_cl, z_inb, z_at, z_pl, z_lit, nI_ii1, nI_add, nI_mul, z_eq_f, z_refuse, z_no, z_M00, b2i_t, b2i_f, e3, hb1]
          exact a1
        | true =>
          rw [hlf] at hb1
          have hkr := hk k hlf
          have lk := hP.2.2.2.1 k hkc
          have eL := q_laps (L := L) (c := c) hP (show MD (mA M1 140) h y by rw [hG1]; exact hD) hkc hR1
          have eo := ov_last hP hl hkr hkc
          have ho := Nat.le_trans (ovF_le (fun n => decide (c % 4 ^ n = wC5 y k / 4 ^ (dL y k - n))) (min L (dL y k - 1))) (show min L (dL y k - 1) ≤ dL y k - 1 by omega)
          have hoL := Nat.le_trans (ovF_le (fun n => decide (c % 4 ^ n = wC5 y k / 4 ^ (dL y k - n))) (min L (dL y k - 1))) (show min L (dL y k - 1) ≤ L by omega)
          have hmt := ovF_mt (fun n => decide (c % 4 ^ n = wC5 y k / 4 ^ (dL y k - n))) (min L (dL y k - 1))
          rw [eo] at eL ho hoL hmt
          have hmat : c % 4 ^ ovO (dL y) (wC5 y) last k = wC5 y k / 4 ^ (dL y k - ovO (dL y) (wC5 y) last k) := by
            rcases hmt with h0 | h0
            · rw [h0, Nat.pow_zero, Nat.sub_zero, Nat.mod_one, Nat.div_eq_of_lt (wC5_lt hP hkc).1]
            · exact of_decide_eq_true h0
          obtain ⟨M2, a1, a2, a3, a4⟩ := q_lays_l79 (cl := g_RM_lays n) (X := X) (K := f_RM_lays_l46 (g_RM_lays n) X (nI L) f) hP hD hkc hR1 ho (by omega) (dL y k - ovO (dL y) (wC5 y) last k) FU (ovO (dL y) (wC5 y) last k) M1 (by omega) (FU_lt (by omega)) (Nat.le_refl _) hG1 (fun _ _ => rfl) (fun t ht => absurd ht (by omega))
          have hG2 : mA M2 140 = G := ((a4 140 (by decide)).2.2.1).trans hG1
          have hB2 := BestAt_F hB1 a4
          have hcm := cnt_rm hkc hlf
          obtain ⟨M3, b1, b2, b3, b4⟩ := ihm n (L + (dL y k - ovO (dL y) (wC5 y) last k)) _ _ (X &&& ((nI 1 <<< (nI k &&& nI 31)) ^^^ -nI 1)) (rmB lf k) (some k) M2 (by omega) (by omega) (fun i hi => by
            rw [bt_clr (by omega) hi, hX i hi]
            unfold rmB
            cases lf i <;> cases decide (i < dC y) <;> cases decide (i ≠ k) <;> rfl) (fun i hi => by
            unfold rmB at hi
            rw [Bool.and_eq_true] at hi
            exact hk i hi.1) ⟨hkr, by omega, by
            have h1 := suf_all (c := c) (d := wC5 y k) (o := ovO (dL y) (wC5 y) last k) (m := dL y k - ovO (dL y) (wC5 y) last k) (by rw [show ovO (dL y) (wC5 y) last k + (dL y k - ovO (dL y) (wC5 y) last k) = dL y k by omega]; exact (wC5_lt hP hkc).1) hmat
            rw [show ovO (dL y) (wC5 y) last k + (dL y k - ovO (dL y) (wC5 y) last k) = dL y k by omega] at h1
            exact h1⟩ (by omega) hG2 a2 hB2
          have hex : 4 ^ (L + (dL y k - ovO (dL y) (wC5 y) last k)) + (c * 4 ^ (dL y k - ovO (dL y) (wC5 y) last k) + wC5 y k % 4 ^ (dL y k - ovO (dL y) (wC5 y) last k)) = xt (dL y) (wC5 y) (ovO (dL y) (wC5 y)) last k (4 ^ L + c) := xt_e.symm
          rw [hex, mn2_a] at b2
          have h5' : ∀ i, i < L → mA M3 145 i = mA M 145 i := fun i hi => (b3 i (by omega)).trans ((a3 i hi).trans (h51 i hi))
          obtain ⟨M', d1, d2, d3, d4⟩ := ih f (k + 1) M3 (by omega) (by omega) (((b4.1 140 (by decide)).2.2.1).trans hG2) (RunAt_pre hR1 (fun i hi => (b3 i (by omega)).trans (a3 i hi))) h5' (by
            show BestAt M3 (mn2 b (if lf k = true then _ else _))
            rw [hlf, if_pos rfl]
            exact b2)
          refine ⟨M', ?_, d2, d3, (FrL.A (a4.mono (fun id e => Or.inl e))).tr (b4.tr d4)⟩
          rw [f_RM_lays_l46]
          simp (disch := first | assumption | omega) only [z_bdn, z_caln, z_gdn, z_iT, z_iF, z_le_t, z_le_f, z_lt_t, z_lt_f, z_cl, z_inb, z_at, z_pl, z_lit, nI_ii1, nI_add, nI_mul, z_eq_f, z_refuse, z_no, z_M00, b2i_t, b2i_f, e3, hb1, eL]
          rw [a1]
          simp (disch := first | assumption | omega) only [z_bdn, z_caln, z_gdn, z_iT, z_iF, z_le_t, z_le_f, z_lt_t, z_lt_f, z_cl, z_inb, z_at, z_pl, z_lit, nI_ii1, nI_add, nI_mul, z_eq_f, z_refuse, z_no, z_M00, b2i_t, b2i_f, b1]
          exact d1
    obtain ⟨M', a1, a2, a3, a4⟩ := key (dC y) FU 0 M (by omega) (FU_lt (by omega)) hG hR (fun _ _ => rfl) (by rw [show mnK lf _ 0 = 0 from rfl, mn2_0]; exact hB)
    refine ⟨M', ?_, a2, a3, a4⟩
    show f_RM_lays (g_RM_lays n) X (nI L) M = _
    rw [f_RM_lays]
    simp (disch := first | assumption | omega) only [z_bdn, z_caln, z_gdn, z_iT, z_iF, z_le_t, z_le_f, z_lt_t, z_lt_f, z_cl, z_inb, z_at, z_pl, z_lit, nI_ii1, nI_add, nI_mul, z_eq_f, z_refuse, z_no, z_M00, b2i_t, b2i_f, hX0]
    exact a1
end
