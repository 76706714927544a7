/-! ## the law draws: the rows, the heads -/
section
variable {sc : Nat × (Nat → Int32)} {W To Q C R : Nat}
def CCd (W To Q C R : Nat) (M : kx_M) (o : Option (Unit × kx_M)) : Prop := ∃ M', o = some ((), M') ∧ DRg (mA M' 136) W To Q C R ∧ GVg (mA M' 136) 6 ∧ FrH M M'
theorem CCd_tr {M M1 : kx_M} {o : Option (Unit × kx_M)} (h : CCd W To Q C R M1 o) (g : FrH M M1) : CCd W To Q C R M o := by
  obtain ⟨M', a, b, c, d⟩ := h
  exact ⟨M', a, b, c, FrH_tr g d⟩
def RDk (g : Nat → Int32) (W To Q C R k : Nat) : Prop := HDg g W To Q C R ∧ ∀ j, j < k → RWg g W Q j 3 5 true
theorem draw_l204 {K : Int32 → Int32 → kx_M → Option (Unit × kx_M)} {k : Nat} (hk : k < 3) (x2 x4 : Int32) (hK : ∀ M' : kx_M, RDk (mA M' 136) W To Q C R (k + 1) → CCd W To Q C R M' (K x2 (nI (k + 1)) M')) : ∀ (d n i : Nat) (M : kx_M), i + d = 5 → d < n → RDk (mA M 136) W To Q C R k → RWg (mA M 136) W Q k 3 i true → CCd W To Q C R M (f_LW_draw_l204 sc K n x2 (nI k) x4 (nI i) M) := by
  intro d
  induction d with
  | zero =>
    intro n i M hd hn h1 h2
    obtain ⟨n, rfl, hn⟩ := z_succ hn
    obtain rfl : i = 5 := by omega
    have g := hK M ⟨h1.1, fun j hj => by
      by_cases e : j = k
      · rw [e]; exact h2
      · exact h1.2 j (by omega)⟩
    rw [f_LW_draw_l204]
    simp (disch := first | assumption | omega) only [z_bdn, z_caln, z_gdn, z_iT, z_iF, z_le_t, z_le_f, z_lt_t, z_lt_f, z_cl, z_inb, z_at, z_lit, nI_ii1, nI_add, z_mr, z_ref0, z_refn, z_eq_f, Bool.not_true, Bool.not_false, b2i_t, b2i_f]
    exact g
  | succ d ih =>
    intro n i M hd hn h1 h2
    obtain ⟨n, rfl, hn⟩ := z_succ hn
    have step : ∀ x : Int32, (∃ a, a < 4 ∧ x = nI a) → CCd W To Q C R M (f_LW_draw_l204 sc K n x2 (nI k) x4 (nI (i + 1)) (sA M 136 (upd (mA M 136) (37 + k * 5 + i) x))) := by
      intro x hx
      refine CCd_tr (ih n (i + 1) _ (by omega) (by omega) ?_ ?_) FrH_A
      · rw [z_mA]
        exact ⟨HDg_u h1.1 (by omega), fun j hj => RWg_u (h1.2 j hj) (by omega) (by omega) (by omega) (by omega) (by omega)⟩
      · rw [z_mA]
        have g := RWg_u (p := 37 + k * 5 + i) (x := x) h2 (by omega) (by omega) (by omega) (by omega) (by omega)
        obtain ⟨a1, a2, a3, a4, a5⟩ := g
        refine ⟨a1, a2, a3, a4, fun j hj => ?_⟩
        by_cases e : j = i
        · subst e
          obtain ⟨a, b1, b2⟩ := hx
          refine ⟨a, b1, ?_⟩
          rw [show 37 + 5 * k + j = 37 + k * 5 + j by omega, z_ua, b2]
        · exact a5 j (by omega)
    rw [f_LW_draw_l204]
    by_cases h3 : i = 3
    · subst h3
      have g := step (mA M 136 (10 + k * 3)) (by
        obtain ⟨a, b1, b2⟩ := h2.2.2.1 0 (by omega)
        exact ⟨a, b1, by rw [← b2]; congr 1; omega⟩)
      simp (disch := first | assumption | omega) only [z_bdn, z_caln, z_gdn, z_iT, z_iF, z_le_t, z_le_f, z_lt_t, z_lt_f, z_cl, z_inb, z_at, z_lit, nI_ii1, nI_add, z_mr, z_ref0, z_refn, z_eq_f, Bool.not_true, Bool.not_false, b2i_t, b2i_f]
      exact g
    · have g := step ((x4 >>> (nI (i + 1) &&& nI 31)) &&& nI 3) (by
        obtain ⟨a, b1, b2⟩ := and_m (x4 >>> (nI (i + 1) &&& nI 31)) (m := 3) (by decide)
        exact ⟨a, by omega, b2⟩)
      simp (disch := first | assumption | omega) only [z_bdn, z_caln, z_gdn, z_iT, z_iF, z_le_t, z_le_f, z_lt_t, z_lt_f, z_cl, z_inb, z_at, z_lit, nI_ii1, nI_add, z_mr, z_ref0, z_refn, z_eq_f, Bool.not_true, Bool.not_false, b2i_t, b2i_f]
      exact g
theorem draw_l144 {K : Int32 → Int32 → kx_M → Option (Unit × kx_M)} (hQ : 1 ≤ Q ∧ Q ≤ 2) {k : Nat} (hk : k < 3) (x2 x4 : Int32) (hK : ∀ M' : kx_M, RDk (mA M' 136) W To Q C R (k + 1) → CCd W To Q C R M' (K x2 (nI (k + 1)) M')) : ∀ (d n i : Nat) (M : kx_M), i + d = 3 → d < n → RDk (mA M 136) W To Q C R k → RWg (mA M 136) W Q k i 0 false → CCd W To Q C R M (f_LW_draw_l144 sc K n x2 (nI k) x4 (nI i) M) := by
  intro d
  induction d with
  | zero =>
    intro n i M hd hn h1 h2
    obtain ⟨n, rfl, hn⟩ := z_succ hn
    obtain rfl : i = 3 := by omega
    have e2 : upd (mA M 136) (19 + k) (nI 0) 2 = nI Q := by rw [z_un (by omega)]; exact h1.1.2.2.1
    have hz := z_nz (show 0 < Q by omega) (by omega)
    obtain ⟨a, b1, b2⟩ := rem_m (x4 >>> (nI 4 &&& nI 31)) (m := 1) (q := Q) (by decide) (by omega) (by omega)
    have g : CCd W To Q C R M (f_LW_draw_l204 sc K FU x2 (nI k) x4 (nI 0) (sA (sA M 136 (upd (mA M 136) (19 + k) (nI 0))) 136 (upd (upd (mA M 136) (19 + k) (nI 0)) (34 + k) ((x4 >>> (nI 4 &&& nI 31) &&& nI 1) - (x4 >>> (nI 4 &&& nI 31) &&& nI 1) / nI Q * nI Q)))) := by
      refine CCd_tr (draw_l204 hk x2 x4 hK 5 FU 0 _ rfl (FU_lt (by omega)) ?_ ?_) (FrH_tr FrH_A FrH_A)
      · rw [z_mA]
        exact ⟨HDg_u (HDg_u h1.1 (by omega)) (by omega), fun j hj => RWg_u (RWg_u (h1.2 j hj) (by omega) (by omega) (by omega) (by omega) (by omega)) (by omega) (by omega) (by omega) (by omega) (by omega)⟩
      · rw [z_mA]
        obtain ⟨a1, a2, a3, a4, a5⟩ := RWg_u (p := 34 + k) (x := (x4 >>> (nI 4 &&& nI 31) &&& nI 1) - (x4 >>> (nI 4 &&& nI 31) &&& nI 1) / nI Q * nI Q) (RWg_u (p := 19 + k) (x := nI 0) h2 (by omega) (by omega) (by omega) (by omega) (by omega)) (by omega) (by omega) (by omega) (Or.inr rfl) (by omega)
        exact ⟨a1, a2, a3, fun _ => ⟨a, b1, by rw [z_ua, b2]⟩, a5⟩
    rw [f_LW_draw_l144]
    simp (disch := first | assumption | omega) only [z_bdn, z_caln, z_gdn, z_iT, z_iF, z_le_t, z_le_f, z_lt_t, z_lt_f, z_cl, z_inb, z_at, z_lit, nI_ii1, nI_add, z_mr, z_ref0, z_refn, z_eq_f, Bool.not_true, Bool.not_false, b2i_t, b2i_f, z_mA, e2, hz]
    exact g
  | succ d ih =>
    intro n i M hd hn h1 h2
    obtain ⟨n, rfl, hn⟩ := z_succ hn
    obtain ⟨a, b1, b2⟩ := and_m (x4 >>> (nI (i * 2 + 3) &&& nI 31)) (m := 3) (by decide)
    have g : CCd W To Q C R M (f_LW_draw_l144 sc K n x2 (nI k) x4 (nI (i + 1)) (sA M 136 (upd (mA M 136) (10 + k * 3 + i) ((x4 >>> (nI (i * 2 + 3) &&& nI 31)) &&& nI 3)))) := by
      refine CCd_tr (ih n (i + 1) _ (by omega) (by omega) ?_ ?_) FrH_A
      · rw [z_mA]
        exact ⟨HDg_u h1.1 (by omega), fun j hj => RWg_u (h1.2 j hj) (by omega) (by omega) (by omega) (by omega) (by omega)⟩
      · rw [z_mA]
        obtain ⟨a1, a2, a3, a4, a5⟩ := RWg_u (p := 10 + k * 3 + i) (x := (x4 >>> (nI (i * 2 + 3) &&& nI 31)) &&& nI 3) h2 (by omega) (by omega) (by omega) (by omega) (by omega)
        refine ⟨a1, a2, fun j hj => ?_, a4, a5⟩
        by_cases e : j = i
        · subst e
          refine ⟨a, by omega, ?_⟩
          rw [show 10 + 3 * k + j = 10 + k * 3 + j by omega, z_ua, b2]
        · exact a3 j (by omega)
    rw [f_LW_draw_l144]
    simp (disch := first | assumption | omega) only [z_bdn, z_caln, z_gdn, z_iT, z_iF, z_le_t, z_le_f, z_lt_t, z_lt_f, z_cl, z_inb, z_at, z_lit, nI_ii1, nI_add, z_mr, z_ref0, z_refn, z_eq_f, Bool.not_true, Bool.not_false, b2i_t, b2i_f]
    exact g
theorem draw_l112 {K : Int32 → Int32 → kx_M → Option (Unit × kx_M)} (hW : 1 ≤ W ∧ W ≤ 5) (hQ : 1 ≤ Q ∧ Q ≤ 2) {k : Nat} (hk : k < 3) (x2 x4 : Int32) (hK : ∀ M' : kx_M, RDk (mA M' 136) W To Q C R (k + 1) → CCd W To Q C R M' (K x2 (nI (k + 1)) M')) {M : kx_M} (h1 : RDk (mA M 136) W To Q C R k) (h2 : k < 2 → ∃ a, a ≤ 127 ∧ mA M 136 (5 + k) = nI a) : CCd W To Q C R M (f_LW_draw_l112 sc K x2 (nI k) x4 M) := by
  have e0 : mA M 136 0 = nI W := h1.1.1
  have hz := z_nz (show 0 < W by omega) (by omega)
  have step : ∀ x : Int32, (∃ a, 1 ≤ a ∧ a ≤ 3 ∧ a ≤ W ∧ x = nI a) → CCd W To Q C R M (f_LW_draw_l144 sc K FU x2 (nI k) x4 (nI 0) (sA M 136 (upd (mA M 136) (7 + k) x))) := by
    intro x hx
    refine CCd_tr (draw_l144 hQ hk x2 x4 hK 3 FU 0 _ rfl (FU_lt (by omega)) ?_ ?_) FrH_A
    · rw [z_mA]
      exact ⟨HDg_u h1.1 (by omega), fun j hj => RWg_u (h1.2 j hj) (by omega) (by omega) (by omega) (by omega) (by omega)⟩
    · rw [z_mA]
      obtain ⟨a, b1, b2, b3, b4⟩ := hx
      refine ⟨fun h => ?_, ⟨a, b1, b2, b3, by rw [z_ua, b4]⟩, fun i hi => absurd hi (Nat.not_lt_zero _), fun hb => (by cases hb), fun i hi => absurd hi (Nat.not_lt_zero _)⟩
      obtain ⟨a, c1, c2⟩ := h2 h
      exact ⟨a, c1, by rw [z_un (by omega)]; exact c2⟩
  rw [f_LW_draw_l112]
  by_cases h3 : 3 ≤ W
  · obtain ⟨a, b1, b2⟩ := rem_m (x4 >>> (nI 2 &&& nI 31)) (m := 3) (q := 3) (by decide) (by decide) (by decide)
    have g := step (nI 1 + ((x4 >>> (nI 2 &&& nI 31) &&& nI 3) - (x4 >>> (nI 2 &&& nI 31) &&& nI 3) / nI 3 * nI 3)) ⟨1 + a, by omega, by omega, by omega, by rw [b2, nI_add]⟩
    simp (disch := first | assumption | omega) only [z_bdn, z_caln, z_gdn, z_iT, z_iF, z_le_t, z_le_f, z_lt_t, z_lt_f, z_cl, z_inb, z_at, z_lit, nI_ii1, nI_add, z_mr, z_ref0, z_refn, z_eq_f, Bool.not_true, Bool.not_false, b2i_t, b2i_f, e0]
    exact g
  · obtain ⟨a, b1, b2⟩ := rem_m (x4 >>> (nI 2 &&& nI 31)) (m := 3) (q := W) (by decide) (by omega) (by omega)
    have g := step (nI 1 + ((x4 >>> (nI 2 &&& nI 31) &&& nI 3) - (x4 >>> (nI 2 &&& nI 31) &&& nI 3) / nI W * nI W)) ⟨1 + a, by omega, by omega, by omega, by rw [b2, nI_add]⟩
    simp (disch := first | assumption | omega) only [z_bdn, z_caln, z_gdn, z_iT, z_iF, z_le_t, z_le_f, z_lt_t, z_lt_f, z_cl, z_inb, z_at, z_lit, nI_ii1, nI_add, z_mr, z_ref0, z_refn, z_eq_f, Bool.not_true, Bool.not_false, b2i_t, b2i_f, e0, hz]
    exact g
theorem draw_l93 {K : Int32 → Int32 → kx_M → Option (Unit × kx_M)} (hW : 1 ≤ W ∧ W ≤ 5) (hQ : 1 ≤ Q ∧ Q ≤ 2) {k : Nat} (hk : k < 3) (x2 x4 : Int32) (hK : ∀ M' : kx_M, RDk (mA M' 136) W To Q C R (k + 1) → CCd W To Q C R M' (K x2 (nI (k + 1)) M')) {M : kx_M} (h1 : RDk (mA M 136) W To Q C R k) : CCd W To Q C R M (f_LW_draw_l93 sc K x2 (nI k) x4 M) := by
  rw [f_LW_draw_l93]
  by_cases h2 : 2 ≤ k
  · have g := draw_l112 (sc := sc) hW hQ hk x2 x4 hK h1 (fun h => by omega)
    simp (disch := first | assumption | omega) only [z_bdn, z_caln, z_gdn, z_iT, z_iF, z_le_t, z_le_f, z_lt_t, z_lt_f, z_cl, z_inb, z_at, z_lit, nI_ii1, nI_add, z_mr, z_ref0, z_refn, z_eq_f, Bool.not_true, Bool.not_false, b2i_t, b2i_f]
    exact g
  · obtain ⟨a, b1, b2⟩ := and_m (x4 >>> (nI 1 &&& nI 31)) (m := 127) (by decide)
    have g : CCd W To Q C R M (f_LW_draw_l112 sc K x2 (nI k) x4 (sA M 136 (upd (mA M 136) (5 + k) (x4 >>> (nI 1 &&& nI 31) &&& nI 127)))) := by
      refine CCd_tr (draw_l112 hW hQ hk x2 x4 hK ?_ ?_) FrH_A
      · rw [z_mA]
        exact ⟨HDg_u h1.1 (by omega), fun j hj => RWg_u (h1.2 j hj) (by omega) (by omega) (by omega) (by omega) (by omega)⟩
      · rw [z_mA]
        exact fun _ => ⟨a, b1, by rw [z_ua, b2]⟩
    simp (disch := first | assumption | omega) only [z_bdn, z_caln, z_gdn, z_iT, z_iF, z_le_t, z_le_f, z_lt_t, z_lt_f, z_cl, z_inb, z_at, z_lit, nI_ii1, nI_add, z_mr, z_ref0, z_refn, z_eq_f, Bool.not_true, Bool.not_false, b2i_t, b2i_f]
    exact g
theorem draw_l65 (hs : sc.1 < 1000) (hW : 1 ≤ W ∧ W ≤ 5) (hQ : 1 ≤ Q ∧ Q ≤ 2) (hC : C ≤ 3) : ∀ (d n k : Nat) (x2 : Int32) (M : kx_M), k + d = 3 → d < n → RDk (mA M 136) W To Q C R k → CCd W To Q C R M (f_LW_draw_l65 sc n x2 (nI k) M) := by
  intro d
  induction d with
  | zero =>
    intro n k x2 M hd hn h1
    obtain ⟨n, rfl, hn⟩ := z_succ hn
    obtain rfl : k = 3 := by omega
    have g : CCd W To Q C R M (f_LW_draw_l261 sc FU x2 (nI 1) M) := draw_l261 hs hC 2 FU 1 x2 M rfl (FU_lt (by omega)) h1
    rw [f_LW_draw_l65]
    simp (disch := first | assumption | omega) only [z_bdn, z_caln, z_gdn, z_iT, z_iF, z_le_t, z_le_f, z_lt_t, z_lt_f, z_cl, z_inb, z_at, z_lit, nI_ii1, nI_add, z_mr, z_ref0, z_refn, z_eq_f, Bool.not_true, Bool.not_false, b2i_t, b2i_f]
    exact g
  | succ d ih =>
    intro n k x2 M hd hn h1
    obtain ⟨n, rfl, hn⟩ := z_succ hn
    have key : ∀ x4 : Int32, CCd W To Q C R M (f_LW_draw_l93 sc (f_LW_draw_l65 sc n) x2 (nI k) x4 M) := fun x4 => draw_l93 hW hQ (by omega) x2 x4 (fun M' g => ih n (k + 1) x2 M' (by omega) (by omega) g) h1
    rw [f_LW_draw_l65]
    by_cases hc : sc.1 ≤ k + 1
    · have a1 := key ((nI 2081) * nI k + x2)
      rw [nI_mul, Nat.mul_comm] at a1
      simp (disch := first | assumption | omega) only [z_bdn, z_caln, z_gdn, z_iT, z_iF, z_le_t, z_le_f, z_lt_t, z_lt_f, z_cl, z_inb, z_at, z_lit, nI_ii1, nI_add, z_mr, z_ref0, z_refn, z_eq_f, Bool.not_true, Bool.not_false, b2i_t, b2i_f, z_on]
      exact a1
    · have a1 := key (sc.2 (k + 1))
      simp (disch := first | assumption | omega) only [z_bdn, z_caln, z_gdn, z_iT, z_iF, z_le_t, z_le_f, z_lt_t, z_lt_f, z_cl, z_inb, z_at, z_lit, nI_ii1, nI_add, z_mr, z_ref0, z_refn, z_eq_f, Bool.not_true, Bool.not_false, b2i_t, b2i_f, z_on]
      exact a1
end
theorem draw_l14 {sc : Nat × (Nat → Int32)} (hs : sc.1 < 1000) (s : Int32) (M : kx_M) : ∃ W To Q C R, (1 ≤ W ∧ W ≤ 5) ∧ (1 ≤ To ∧ To ≤ 32) ∧ (1 ≤ Q ∧ Q ≤ 2) ∧ C ≤ 3 ∧ R ≤ 3 ∧ CCd W To Q C R M (f_LW_draw_l14 sc s M) := by
  obtain ⟨a, a1, a2⟩ := rem_m s (m := 7) (q := 5) (by decide) (by decide) (by decide)
  obtain ⟨b, b1, b2⟩ := and_m (s >>> (nI 2 &&& nI 31)) (m := 31) (by decide)
  obtain ⟨c, c1, c2⟩ := and_m (s >>> (nI 3 &&& nI 31)) (m := 1) (by decide)
  obtain ⟨d, d1, d2⟩ := and_m (s >>> (nI 5 &&& nI 31)) (m := 3) (by decide)
  obtain ⟨e, e1, e2⟩ := and_m (s >>> (nI 4 &&& nI 31)) (m := 3) (by decide)
  refine ⟨1 + a, 1 + b, 1 + c, d, e, by omega, by omega, by omega, by omega, by omega, ?_⟩
  rw [f_LW_draw_l14]
  simp (disch := first | assumption | omega) only [z_bdn, z_caln, z_gdn, z_iT, z_iF, z_le_t, z_le_f, z_lt_t, z_lt_f, z_cl, z_inb, z_at, z_lit, nI_ii1, nI_add, z_mr, z_ref0, z_refn, z_eq_f, Bool.not_true, Bool.not_false, b2i_t, b2i_f, z_mA, a2, b2, c2, d2, e2]
  refine CCd_tr (draw_l65 hs (by omega) (by omega) (by omega) 3 FU 0 s _ rfl (FU_lt (by omega)) ?_) (FrH_tr (FrH_tr (FrH_tr (FrH_tr FrH_A FrH_A) FrH_A) FrH_A) FrH_A)
  refine ⟨?_, fun j hj => absurd hj (Nat.not_lt_zero _)⟩
  simp only [z_mA]
  refine ⟨?_, ?_, ?_, ?_, ?_⟩
  · rw [z_un (by decide), z_un (by decide), z_un (by decide), z_un (by decide), z_ua]
  · rw [z_un (by decide), z_un (by decide), z_un (by decide), z_ua]
  · rw [z_un (by decide), z_un (by decide), z_ua]
  · rw [z_un (by decide), z_ua]
  · rw [z_ua]
theorem draw_ok {sc : Nat × (Nat → Int32)} (hs : sc.1 < 1000) (M : kx_M) : ∃ M' v, f_LW_draw sc M = some ((), M') ∧ HOK (mA M' 136) v ∧ FrH M M' := by
  have key : ∀ s : Int32, ∃ M' v, f_LW_draw_l14 sc s M = some ((), M') ∧ HOK (mA M' 136) v ∧ FrH M M' := by
    intro s
    obtain ⟨W, To, Q, C, R, hW, hT, hQ, hC, hR, M', p1, ⟨⟨q1, q2, q3, q4, q5⟩, p2⟩, p3, p4⟩ := draw_l14 hs s M
    obtain ⟨vv, hv⟩ : ∃ vv : Nat → Nat, ∀ j, vv j = (mA M' 136 j).toNatClampNeg := ⟨_, fun _ => rfl⟩
    have at' : ∀ (j a : Nat), a < 1000 → mA M' 136 j = nI a → vv j = a := fun j a ha e => by rw [hv, e, z_cl (by omega)]
    have vj : ∀ (j a : Nat), a < 1000 → mA M' 136 j = nI a → mA M' 136 j = nI (vv j) := fun j a ha e => by rw [at' j a ha e, e]
    refine ⟨M', vv, p1, ⟨fun j hj hj2 => ?_, ?_, ?_, ?_, ?_, ?_, fun k hk => ?_, fun k hk => ?_, fun j hj => ?_, fun j hj => ?_, fun r hr => ?_, fun j hj => ?_⟩, p4⟩
    · have hc : j = 0 ∨ j = 1 ∨ j = 2 ∨ j = 3 ∨ j = 4 ∨ (5 ≤ j ∧ j < 7) ∨ (7 ≤ j ∧ j < 10) ∨ (10 ≤ j ∧ j < 19) ∨ (22 ≤ j ∧ j < 28) ∨ (28 ≤ j ∧ j < 34) ∨ (34 ≤ j ∧ j < 37) ∨ (37 ≤ j ∧ j < 52) := by omega
      rcases hc with rfl | rfl | rfl | rfl | rfl | h | h | h | h | h | h | h
      · exact vj 0 W (by omega) q1
      · exact vj 1 To (by omega) q2
      · exact vj 2 Q (by omega) q3
      · exact vj 3 C (by omega) q4
      · exact vj 4 R (by omega) q5
      · obtain ⟨a, z1, z2⟩ := (p2 (j - 5) (by omega)).1 (by omega)
        rw [show 5 + (j - 5) = j by omega] at z2
        exact vj j a (by omega) z2
      · obtain ⟨a, z0, z1, -, z2⟩ := (p2 (j - 7) (by omega)).2.1
        rw [show 7 + (j - 7) = j by omega] at z2
        exact vj j a (by omega) z2
      · obtain ⟨a, z1, z2⟩ := (p2 ((j - 10) / 3) (by omega)).2.2.1 ((j - 10) % 3) (by omega)
        rw [show 10 + 3 * ((j - 10) / 3) + (j - 10) % 3 = j by omega] at z2
        exact vj j a (by omega) z2
      · obtain ⟨a, z1, z2⟩ := (p3 (j - 22) (by omega)).1
        rw [show 22 + (j - 22) = j by omega] at z2
        exact vj j a (by omega) z2
      · obtain ⟨a, z1, z2⟩ := (p3 (j - 28) (by omega)).2
        rw [show 28 + (j - 28) = j by omega] at z2
        exact vj j a (by omega) z2
      · obtain ⟨a, z1, z2⟩ := (p2 (j - 34) (by omega)).2.2.2.1 rfl
        rw [show 34 + (j - 34) = j by omega] at z2
        exact vj j a (by omega) z2
      · obtain ⟨a, z1, z2⟩ := (p2 ((j - 37) / 5) (by omega)).2.2.2.2 ((j - 37) % 5) (by omega)
        rw [show 37 + 5 * ((j - 37) / 5) + (j - 37) % 5 = j by omega] at z2
        exact vj j a (by omega) z2
    · rw [at' 0 W (by omega) q1]; exact hW
    · rw [at' 1 To (by omega) q2]; exact hT
    · rw [at' 2 Q (by omega) q3]; exact hQ
    · rw [at' 3 C (by omega) q4]; exact hC
    · rw [at' 4 R (by omega) q5]; exact hR
    · obtain ⟨a, z1, z2⟩ := (p2 k (by omega)).1 hk
      rw [at' _ a (by omega) z2]; exact z1
    · obtain ⟨a, z0, z1, z3, z2⟩ := (p2 k hk).2.1
      rw [at' _ a (by omega) z2, at' 0 W (by omega) q1]; exact ⟨z0, z1, z3⟩
    · obtain ⟨a, z1, z2⟩ := (p2 (j / 3) (by omega)).2.2.1 (j % 3) (by omega)
      rw [show 10 + 3 * (j / 3) + j % 3 = 10 + j by omega] at z2
      rw [at' _ a (by omega) z2]; exact z1
    · by_cases h : j < 6
      · obtain ⟨a, z1, z2⟩ := (p3 j h).1
        rw [at' _ a (by omega) z2]; exact z1
      · obtain ⟨a, z1, z2⟩ := (p3 (j - 6) (by omega)).2
        rw [show 28 + (j - 6) = 22 + j by omega] at z2
        rw [at' _ a (by omega) z2]; exact z1
    · obtain ⟨a, z1, z2⟩ := (p2 r hr).2.2.2.1 rfl
      rw [at' _ a (by omega) z2, at' 2 Q (by omega) q3]; exact z1
    · obtain ⟨a, z1, z2⟩ := (p2 (j / 5) (by omega)).2.2.2.2 (j % 5) (by omega)
      rw [show 37 + 5 * (j / 5) + j % 5 = 37 + j by omega] at z2
      rw [at' _ a (by omega) z2]; exact z1
  rw [f_LW_draw]
  by_cases h0 : sc.1 = 0
  · obtain ⟨M', v, a1, a2⟩ := key (nI 7919)
    refine ⟨M', v, ?_, a2⟩
    simp (disch := first | assumption | omega) only [z_bdn, z_caln, z_gdn, z_iT, z_iF, z_le_t, z_le_f, z_lt_t, z_lt_f, z_cl, z_inb, z_at, z_lit, nI_ii1, nI_add, z_mr, z_ref0, z_refn, z_eq_f, Bool.not_true, Bool.not_false, b2i_t, b2i_f, z_on, h0]
    exact a1
  · obtain ⟨M', v, a1, a2⟩ := key (sc.2 0)
    refine ⟨M', v, ?_, a2⟩
    simp (disch := first | assumption | omega) only [z_bdn, z_caln, z_gdn, z_iT, z_iF, z_le_t, z_le_f, z_lt_t, z_lt_f, z_cl, z_inb, z_at, z_lit, nI_ii1, nI_add, z_mr, z_ref0, z_refn, z_eq_f, Bool.not_true, Bool.not_false, b2i_t, b2i_f, z_on]
    exact a1
