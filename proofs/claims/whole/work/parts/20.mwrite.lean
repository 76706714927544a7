/-! ## the reference's cloth: what it writes -/
def FrM (M M' : kx_M) : Prop := Fr (fun id => id = 140 ∨ id = 144) M M' ∧ ∀ p, p ≠ 5 → ¬ (208 ≤ p ∧ p < 496) → mA M' 140 p = mA M 140 p
theorem FrM.rf {M : kx_M} : FrM M M := ⟨Fr.rf, fun _ _ _ => rfl⟩
theorem FrM.tr {A B C : kx_M} (h : FrM A B) (g : FrM B C) : FrM A C := ⟨h.1.tr g.1, fun p h1 h2 => (g.2 p h1 h2).trans (h.2 p h1 h2)⟩
theorem FrM.up {M : kx_M} {q : Nat} {v : Int32} (h : q = 5 ∨ (208 ≤ q ∧ q < 496)) : FrM M (sA M 140 (upd (mA M 140) q v)) := ⟨Fr.sA (Or.inl rfl), fun p h1 h2 => by
  rw [mA_sA, if_pos rfl, upd_at, if_neg (by omega)]⟩
theorem FrM.w {M : kx_M} {f : Nat → Int32} : FrM M (sA M 144 f) := ⟨Fr.sA (Or.inr rfl), fun p _ _ => by rw [mA_sA, if_neg (by decide)]⟩
section
variable {M : kx_M} {x : Cl} {y : De}
theorem MC_U {p v : Nat} (hO : OkC x) (h : MC (mA M 140) x) (hp : p < 96) : MC (mA (sA M 140 (upd (mA M 140) (304 + p) (nI v))) 140) (wU x (updN (cU x) p v)) := by
  have w2 := hO.1.2
  have w3 := hO.2.2.1
  rw [mA_sA, if_pos rfl]
  obtain ⟨h1, h2, h3, h4, h5, h6⟩ := h
  refine ⟨?_, ?_, ?_, ?_, fun r hr => ?_, fun r i hr hi => ?_⟩
  · rw [upd_at, if_neg (by omega)]; exact h1
  · rw [upd_at, if_neg (by omega)]; exact h2
  · rw [upd_at, if_neg (by omega)]; exact h3
  · rw [upd_at, if_neg (by omega)]; exact h4
  · have hr' : r < cR x := hr
    rw [upd_at, if_neg (by omega)]; exact h5 r hr
  · have hr' : r < cR x := hr
    have hi' : i < cW x := hi
    obtain ⟨a1, a2, a3, a4⟩ := h6 r i hr hi
    refine ⟨?_, ?_, ?_, ?_⟩
    · rw [upd_at, if_neg (by omega)]; exact a1
    · rw [upd_at, if_neg (by omega)]; exact a2
    · show _ = nI (updN (cU x) p v (8 * r + i))
      unfold updN
      rw [upd_at]
      by_cases hq : 8 * r + i = p
      · rw [if_pos (by omega), if_pos hq]
      · rw [if_neg (by omega), if_neg hq]; exact a3
    · rw [upd_at, if_neg (by omega)]; exact a4
theorem MC_N {p v : Nat} (hO : OkC x) (h : MC (mA M 140) x) (hp : p < 96) : MC (mA (sA M 140 (upd (mA M 140) (208 + p) (nI v))) 140) (wN x (updN (cN x) p v)) := by
  have w2 := hO.1.2
  have w3 := hO.2.2.1
  rw [mA_sA, if_pos rfl]
  obtain ⟨h1, h2, h3, h4, h5, h6⟩ := h
  refine ⟨?_, ?_, ?_, ?_, fun r hr => ?_, fun r i hr hi => ?_⟩
  · rw [upd_at, if_neg (by omega)]; exact h1
  · rw [upd_at, if_neg (by omega)]; exact h2
  · rw [upd_at, if_neg (by omega)]; exact h3
  · rw [upd_at, if_neg (by omega)]; exact h4
  · have hr' : r < cR x := hr
    rw [upd_at, if_neg (by omega)]; exact h5 r hr
  · have hr' : r < cR x := hr
    have hi' : i < cW x := hi
    obtain ⟨a1, a2, a3, a4⟩ := h6 r i hr hi
    refine ⟨?_, ?_, ?_, ?_⟩
    · rw [upd_at, if_neg (by omega)]; exact a1
    · show _ = nI (updN (cN x) p v (8 * r + i))
      unfold updN
      rw [upd_at]
      by_cases hq : 8 * r + i = p
      · rw [if_pos (by omega), if_pos hq]
      · rw [if_neg (by omega), if_neg hq]; exact a2
    · rw [upd_at, if_neg (by omega)]; exact a3
    · rw [upd_at, if_neg (by omega)]; exact a4
theorem MC_D {p v : Nat} (hO : OkC x) (h : MC (mA M 140) x) (hp : p < 96) : MC (mA (sA M 140 (upd (mA M 140) (400 + p) (nI v))) 140) (wD x (updN (cD x) p v)) := by
  have w2 := hO.1.2
  have w3 := hO.2.2.1
  rw [mA_sA, if_pos rfl]
  obtain ⟨h1, h2, h3, h4, h5, h6⟩ := h
  refine ⟨?_, ?_, ?_, ?_, fun r hr => ?_, fun r i hr hi => ?_⟩
  · rw [upd_at, if_neg (by omega)]; exact h1
  · rw [upd_at, if_neg (by omega)]; exact h2
  · rw [upd_at, if_neg (by omega)]; exact h3
  · rw [upd_at, if_neg (by omega)]; exact h4
  · have hr' : r < cR x := hr
    rw [upd_at, if_neg (by omega)]; exact h5 r hr
  · have hr' : r < cR x := hr
    have hi' : i < cW x := hi
    obtain ⟨a1, a2, a3, a4⟩ := h6 r i hr hi
    refine ⟨?_, ?_, ?_, ?_⟩
    · rw [upd_at, if_neg (by omega)]; exact a1
    · rw [upd_at, if_neg (by omega)]; exact a2
    · rw [upd_at, if_neg (by omega)]; exact a3
    · show _ = nI (updN (cD x) p v (8 * r + i))
      unfold updN
      rw [upd_at]
      by_cases hq : 8 * r + i = p
      · rw [if_pos (by omega), if_pos hq]
      · rw [if_neg (by omega), if_neg hq]; exact a4
theorem MC_Y {n : Nat} (hO : OkC x) (h : MC (mA M 140) x) : MC (mA (sA M 140 (upd (mA M 140) 5 (nI n))) 140) (wY x n) := by
  rw [mA_sA, if_pos rfl]
  obtain ⟨h1, h2, h3, h4, h5, h6⟩ := h
  refine ⟨?_, ?_, ?_, ?_, fun r hr => ?_, fun r i hr hi => ?_⟩
  · rw [upd_at, if_neg (by omega)]; exact h1
  · rw [upd_at, if_neg (by omega)]; exact h2
  · rw [upd_at, if_neg (by omega)]; exact h3
  · rw [upd_at, if_pos rfl]; rfl
  · rw [upd_at, if_neg (by omega)]; exact h5 r hr
  · obtain ⟨a1, a2, a3, a4⟩ := h6 r i hr hi
    refine ⟨?_, ?_, ?_, ?_⟩
    · rw [upd_at, if_neg (by omega)]; exact a1
    · rw [upd_at, if_neg (by omega)]; exact a2
    · rw [upd_at, if_neg (by omega)]; exact a3
    · rw [upd_at, if_neg (by omega)]; exact a4
theorem MC_w {f : Nat → Int32} (h : MC (mA M 140) x) : MC (mA (sA M 144 f) 140) x := by
  rw [mA_sA, if_neg (by decide)]
  exact h
theorem q_climbs {s : Us} (hO : OkC x) (hs : OkU x 1 s.1) (hC : MC (mA M 140) (wU x s.1)) {r i : Nat} (hr0 : 1 ≤ r) (hr : r < cR x) (hi : i < cW x) :
    f_RM_climbs (nI r) (nI i) M = some (b2i (decide (cK x (8 * r + i) = 0 ∧ s.1 (8 * r + i) = 0 ∧ cD x (8 * r + i) = 0 ∧ s.1 (8 * (r - 1) + i) = 1)), M) := by
  have hO' := OkC_U hO hs
  have w2 := hO.1.2
  have w3 := hO.2.2.1
  have hu := q_isUndone hO' hC hr hi
  have hu2 := q_isUndone hO' hC (show r - 1 < cR (wU x s.1) from Nat.lt_of_le_of_lt (Nat.sub_le _ _) hr) hi
  have k3 : s.1 (8 * r + i) ≤ 1 := hs r i hr hi
  obtain ⟨k1, -, -, k4⟩ := hO.2.2.2.2.2 r i hr hi
  obtain ⟨a1, -, -, a4⟩ : mA M 140 (112 + (8 * r + i)) = nI (cK x (8 * r + i)) ∧ mA M 140 (208 + (8 * r + i)) = nI (cN x (8 * r + i)) ∧ mA M 140 (304 + (8 * r + i)) = nI (s.1 (8 * r + i)) ∧ mA M 140 (400 + (8 * r + i)) = nI (cD x (8 * r + i)) := hC.2.2.2.2.2 r i hr hi
  rw [f_RM_climbs]
  by_cases h1 : s.1 (8 * r + i) = 1
  · rw [show decide (cU (wU x s.1) (8 * r + i) = 1) = true from decide_eq_true h1, b2i_t] at hu
    rw [decide_eq_false (fun h => by omega), b2i_f]
    simp (disch := first | assumption | omega) only [z_bd, z_cal, z_gd, z_iT, z_iF, z_le_t, z_le_f, z_lt_t, z_lt_f, z_cl, z_inb, z_at, z_pl, nI_lit, nI_ii1, nI_add, nI_mul, hu, z_eq_f]
  · rw [show decide (cU (wU x s.1) (8 * r + i) = 1) = false from decide_eq_false h1, b2i_f] at hu
    by_cases h2 : cD x (8 * r + i) = 0
    · by_cases h3 : cK x (8 * r + i) = 0
      · by_cases h4 : s.1 (8 * (r - 1) + i) = 1
        · rw [show decide (cU (wU x s.1) (8 * (r - 1) + i) = 1) = true from decide_eq_true h4, b2i_t] at hu2
          rw [decide_eq_true ⟨h3, by omega, h2, h4⟩, b2i_t]
          simp (disch := first | assumption | omega) only [z_bd, z_cal, z_gd, z_iT, z_iF, z_le_t, z_le_f, z_lt_t, z_lt_f, z_cl, z_inb, z_at, z_pl, nI_lit, nI_ii1, nI_add, nI_mul, hu, a4, h2, a1, h3, z_sub, hu2, z_eq_f]
        · rw [show decide (cU (wU x s.1) (8 * (r - 1) + i) = 1) = false from decide_eq_false h4, b2i_f] at hu2
          rw [decide_eq_false (fun h => h4 h.2.2.2), b2i_f]
          simp (disch := first | assumption | omega) only [z_bd, z_cal, z_gd, z_iT, z_iF, z_le_t, z_le_f, z_lt_t, z_lt_f, z_cl, z_inb, z_at, z_pl, nI_lit, nI_ii1, nI_add, nI_mul, hu, a4, h2, a1, h3, z_sub, hu2]
      · rw [decide_eq_false (fun h => h3 h.1), b2i_f]
        simp (disch := first | assumption | omega) only [z_bd, z_cal, z_gd, z_iT, z_iF, z_le_t, z_le_f, z_lt_t, z_lt_f, z_cl, z_inb, z_at, z_pl, nI_lit, nI_ii1, nI_add, nI_mul, hu, a4, h2, a1, z_eq_f]
    · rw [decide_eq_false (fun h => h2 h.2.2.1), b2i_f]
      simp (disch := first | assumption | omega) only [z_bd, z_cal, z_gd, z_iT, z_iF, z_le_t, z_le_f, z_lt_t, z_lt_f, z_cl, z_inb, z_at, z_pl, nI_lit, nI_ii1, nI_add, nI_mul, hu, a4, z_eq_f]
theorem q_Mlad_l21 {K : Int32 → Int32 → kx_M → Option (Int32 × kx_M)} {p1 : Int32} (hO : OkC x) {r : Nat} (hr0 : 1 ≤ r) (hr : r < cR x) :
    ∀ (m n i : Nat) (s : Us) (M : kx_M), i + m = cW x → m < n → OkU x 1 s.1 → MC (mA M 140) (wU x s.1) → ∃ M', f_RM_withLadders_l21 p1 K n (nI s.2) (nI r) (nI i) M = K (nI (ladR x r m i s).2) (nI (r + 1)) M' ∧ MC (mA M' 140) (wU x (ladR x r m i s).1) ∧ FrM M M' := by
  have w2 := hO.1.2
  have w3 := hO.2.2.1
  intro m
  induction m with
  | zero =>
    intro n i s M hi hn hs hC
    obtain ⟨n, rfl, hn⟩ := z_succ hn
    obtain rfl : i = cW x := by omega
    have e2 : mA M 140 0 = nI (cW x) := hC.1
    refine ⟨M, ?_, hC, FrM.rf⟩
    rw [f_RM_withLadders_l21]
    simp (disch := first | assumption | omega) only [z_bd, z_cal, z_gd, z_iT, z_iF, z_le_t, z_le_f, z_lt_t, z_lt_f, z_cl, z_inb, z_at, z_pl, nI_lit, nI_ii1, nI_add, nI_mul, e2]
    rfl
  | succ m ih =>
    intro n i s M hi hn hs hC
    obtain ⟨n, rfl, hn⟩ := z_succ hn
    have e2 : mA M 140 0 = nI (cW x) := hC.1
    have hc := q_climbs hO hs hC hr0 hr (show i < cW x by omega)
    rw [f_RM_withLadders_l21]
    by_cases h : cK x (8 * r + i) = 0 ∧ s.1 (8 * r + i) = 0 ∧ cD x (8 * r + i) = 0 ∧ s.1 (8 * (r - 1) + i) = 1
    · rw [decide_eq_true h, b2i_t] at hc
      have hs1 : ladS x r i s = (updN s.1 (8 * r + i) 1, s.2 + 1) := if_pos h
      have hC2 := MC_U (p := 8 * r + i) (v := 1) (OkC_U hO hs) hC (by omega)
      obtain ⟨M', b1, b2, b3⟩ := ih n (i + 1) (updN s.1 (8 * r + i) 1, s.2 + 1) _ (by omega) (by omega) (OkU_upd hs (Nat.le_refl _)) hC2
      refine ⟨M', ?_, ?_, (FrM.up (by omega)).tr b3⟩
      · simp (disch := first | assumption | omega) only [z_bd, z_cal, z_gd, z_iT, z_iF, z_le_t, z_le_f, z_lt_t, z_lt_f, z_cl, z_inb, z_at, z_pl, nI_lit, nI_ii1, nI_add, nI_mul, e2, hc, z_eq_f]
        show _ = K (nI (ladR x r m (i + 1) (ladS x r i s)).2) _ _
        rw [hs1]
        exact b1
      · show MC (mA M' 140) (wU x (ladR x r m (i + 1) (ladS x r i s)).1)
        rw [hs1]
        exact b2
    · rw [decide_eq_false h, b2i_f] at hc
      have hs1 : ladS x r i s = s := if_neg h
      obtain ⟨M', b1, b2, b3⟩ := ih n (i + 1) s M (by omega) (by omega) hs hC
      refine ⟨M', ?_, ?_, b3⟩
      · simp (disch := first | assumption | omega) only [z_bd, z_cal, z_gd, z_iT, z_iF, z_le_t, z_le_f, z_lt_t, z_lt_f, z_cl, z_inb, z_at, z_pl, nI_lit, nI_ii1, nI_add, nI_mul, e2, hc]
        show _ = K (nI (ladR x r m (i + 1) (ladS x r i s)).2) _ _
        rw [hs1]
        exact b1
      · show MC (mA M' 140) (wU x (ladR x r m (i + 1) (ladS x r i s)).1)
        rw [hs1]
        exact b2
theorem q_Mlad_l4 {t : Nat} (ht0 : 1 ≤ t) (ht : t < 1000) (hO : OkC x) :
    ∀ (m n r : Nat) (s : Us) (M : kx_M), 1 ≤ r → r + m = cR x ∨ (m = 0 ∧ cR x ≤ r ∧ r ≤ 13) → m < n → OkU x 1 s.1 → MC (mA M 140) (wU x s.1) → ∃ M', f_RM_withLadders_l4 (nI t) n (nI s.2) (nI r) M = some (nI (ladA x m r s).2, M') ∧ MC (mA M' 140) (wU x (ladA x m r s).1) ∧ FrM M M' := by
  have w2 := hO.1.2
  have w3 := hO.2.2.1
  intro m
  induction m with
  | zero =>
    intro n r s M h1 hr hn hs hC
    obtain ⟨n, rfl, hn⟩ := z_succ hn
    have e2 : mA M 140 4 = nI (cR x) := hC.2.2.1
    refine ⟨M, ?_, hC, FrM.rf⟩
    rw [f_RM_withLadders_l4]
    simp (disch := first | assumption | omega) only [z_bd, z_cal, z_gd, z_iT, z_iF, z_le_t, z_le_f, z_lt_t, z_lt_f, z_cl, z_inb, z_at, z_pl, nI_lit, nI_ii1, nI_add, nI_mul, e2]
    rfl
  | succ m ih =>
    intro n r s M h1 hr hn hs hC
    obtain ⟨n, rfl, hn⟩ := z_succ hn
    have hr' : r + (m + 1) = cR x := by omega
    have e2 : mA M 140 4 = nI (cR x) := hC.2.2.1
    obtain ⟨M1, b1, b2, b3⟩ := q_Mlad_l21 (p1 := nI t) (K := f_RM_withLadders_l4 (nI t) n) hO h1 (show r < cR x by omega) (cW x) FU 0 s M (by omega) (FU_lt (by omega)) hs hC
    obtain ⟨M2, d1, d2, d3⟩ := ih n (r + 1) (ladR x r (cW x) 0 s) M1 (by omega) (by omega) (by omega) (ladR_ok _ _ _ hs) b2
    refine ⟨M2, ?_, d2, b3.tr d3⟩
    rw [f_RM_withLadders_l4]
    simp (disch := first | assumption | omega) only [z_bd, z_cal, z_gd, z_iT, z_iF, z_le_t, z_le_f, z_lt_t, z_lt_f, z_cl, z_inb, z_at, z_pl, nI_lit, nI_ii1, nI_add, nI_mul, e2]
    exact b1.trans d1
theorem q_Mlad {u : Nat → Nat} {t : Nat} (hO : OkC x) (hu : OkU x 1 u) (ht : t < 1000) (hC : MC (mA M 140) (wU x u)) :
    ∃ M', f_RM_withLadders (nI t) M = some (nI (ladders x (u, t)).2, M') ∧ MC (mA M' 140) (wU x (ladders x (u, t)).1) ∧ FrM M M' := by
  have w3 := hO.2.2.1
  rw [f_RM_withLadders]
  unfold ladders
  by_cases h : t = 0
  · subst h
    have e2 : mA M 140 4 = nI (cR x) := hC.2.2.1
    rw [if_pos rfl]
    refine ⟨M, ?_, hC, FrM.rf⟩
    obtain ⟨n, hn⟩ : ∃ n, FU = n + 1 := ⟨999999, rfl⟩
    rw [hn, f_RM_withLadders_l4]
    by_cases h1 : cR x ≤ 1
    · simp (disch := first | assumption | omega) only [z_bd, z_cal, z_gd, z_iT, z_iF, z_le_t, z_le_f, z_lt_t, z_lt_f, z_cl, z_inb, z_at, z_pl, nI_lit, nI_ii1, nI_add, nI_mul, e2]
    · simp (disch := first | assumption | omega) only [z_bd, z_cal, z_gd, z_iT, z_iF, z_le_t, z_le_f, z_lt_t, z_lt_f, z_cl, z_inb, z_at, z_pl, nI_lit, nI_ii1, nI_add, nI_mul, e2]
  · rw [if_neg h]
    exact q_Mlad_l4 (by omega) ht hO (cR x - 1) FU 1 (u, t) M (Nat.le_refl _) (by omega) (FU_lt (by omega)) hu hC
theorem q_Mpull_l37 {K : Int32 → Int32 → kx_M → Option (Int32 × kx_M)} {p2 : Int32} {r side i j : Nat} {s : Us} (hO : OkC x) (hr : r < cR x) (hi : i < cW x) (hs : OkU x 1 s.1) (hn : s.2 ≤ i) (hC : MC (mA M 140) (wU x s.1)) (hj : plP x r side i = 8 * r + j) (hjw : j < cW x) {m : Nat}
    (ih : ∀ (s : Us) (M : kx_M), OkU x 1 s.1 → s.2 ≤ i + 1 → MC (mA M 140) (wU x s.1) → ∃ M', K (nI s.2) (nI (i + 1)) M = some (nI (ladders x (pulF x r side m (i + 1) s)).2, M') ∧ MC (mA M' 140) (wU x (ladders x (pulF x r side m (i + 1) s)).1) ∧ FrM M M') :
    ∃ M', f_RM_pulls_l37 (nI r) p2 K (nI s.2) (nI i) (nI r) (nI j) M = some (nI (ladders x (pulF x r side (m + 1) i s)).2, M') ∧ MC (mA M' 140) (wU x (ladders x (pulF x r side (m + 1) i s)).1) ∧ FrM M M' := by
  have w2 := hO.1.2
  have w3 := hO.2.2.1
  obtain ⟨k1, -, -, k4⟩ := hO.2.2.2.2.2 r j hr hjw
  have k3 : s.1 (8 * r + j) ≤ 1 := hs r j hr hjw
  have hu := q_isUndone (OkC_U hO hs) hC hr hjw
  obtain ⟨a1, -, a3, a4⟩ : mA M 140 (112 + (8 * r + j)) = nI (cK x (8 * r + j)) ∧ mA M 140 (208 + (8 * r + j)) = nI (cN x (8 * r + j)) ∧ mA M 140 (304 + (8 * r + j)) = nI (s.1 (8 * r + j)) ∧ mA M 140 (400 + (8 * r + j)) = nI (cD x (8 * r + j)) := hC.2.2.2.2.2 r j hr hjw
  rw [f_RM_pulls_l37]
  by_cases h1 : s.1 (8 * r + j) = 0
  · rw [show decide (cU (wU x s.1) (8 * r + j) = 1) = false from decide_eq_false (show ¬ s.1 (8 * r + j) = 1 by omega), b2i_f] at hu
    by_cases h2 : cD x (8 * r + j) = 1 ∨ cK x (8 * r + j) = 2
    · have hs1 : pulF x r side (m + 1) i s = s := by
        show (if s.1 (plP x r side i) = 0 then _ else _) = s
        rw [hj, if_pos h1, if_pos h2]
      rw [hs1]
      obtain ⟨M', b1, b2, b3⟩ := q_Mlad (u := s.1) (t := s.2) hO hs (by omega) hC
      refine ⟨M', ?_, b2, b3⟩
      by_cases h3 : cD x (8 * r + j) = 1
      · simp (disch := first | assumption | omega) only [z_bd, z_cal, z_gd, z_iT, z_iF, z_le_t, z_le_f, z_lt_t, z_lt_f, z_cl, z_inb, z_at, z_pl, nI_lit, nI_ii1, nI_add, nI_mul, hu, a4, h3, b1]
      · have h4 : cK x (8 * r + j) = 2 := by omega
        simp (disch := first | assumption | omega) only [z_bd, z_cal, z_gd, z_iT, z_iF, z_le_t, z_le_f, z_lt_t, z_lt_f, z_cl, z_inb, z_at, z_pl, nI_lit, nI_ii1, nI_add, nI_mul, hu, a4, a1, h4, z_eq_f, b1]
    · have hs1 : pulF x r side (m + 1) i s = pulF x r side m (i + 1) (updN s.1 (8 * r + j) 1, s.2 + 1) := by
        show (if s.1 (plP x r side i) = 0 then _ else _) = _
        rw [hj, if_pos h1, if_neg h2]
      have hC2 := MC_U (p := 8 * r + j) (v := 1) (OkC_U hO hs) hC (by omega)
      obtain ⟨M', b1, b2, b3⟩ := ih (updN s.1 (8 * r + j) 1, s.2 + 1) _ (OkU_upd hs (Nat.le_refl _)) (by simp only; omega) hC2
      rw [hs1]
      refine ⟨M', ?_, b2, (FrM.up (by omega)).tr b3⟩
      simp (disch := first | assumption | omega) only [z_bd, z_cal, z_gd, z_iT, z_iF, z_le_t, z_le_f, z_lt_t, z_lt_f, z_cl, z_inb, z_at, z_pl, nI_lit, nI_ii1, nI_add, nI_mul, hu, a4, a1, z_eq_f]
      exact b1
  · rw [show decide (cU (wU x s.1) (8 * r + j) = 1) = true from decide_eq_true (show s.1 (8 * r + j) = 1 by omega), b2i_t] at hu
    have hs1 : pulF x r side (m + 1) i s = pulF x r side m (i + 1) s := by
      show (if s.1 (plP x r side i) = 0 then _ else _) = _
      rw [hj, if_neg h1]
    obtain ⟨M', b1, b2, b3⟩ := ih s M hs (by omega) hC
    rw [hs1]
    refine ⟨M', ?_, b2, b3⟩
    simp (disch := first | assumption | omega) only [z_bd, z_cal, z_gd, z_iT, z_iF, z_le_t, z_le_f, z_lt_t, z_lt_f, z_cl, z_inb, z_at, z_pl, nI_lit, nI_ii1, nI_add, nI_mul, hu, z_eq_f]
    exact b1
theorem q_Mpull_l5 {r side : Nat} (hO : OkC x) (hr : r < cR x) (hside : side ≤ 1) :
    ∀ (m n i : Nat) (s : Us) (M : kx_M), i + m = cW x → m < n → OkU x 1 s.1 → s.2 ≤ i → MC (mA M 140) (wU x s.1) → ∃ M', f_RM_pulls_l5 (nI r) (nI side) n (nI s.2) (nI i) M = some (nI (ladders x (pulF x r side m i s)).2, M') ∧ MC (mA M' 140) (wU x (ladders x (pulF x r side m i s)).1) ∧ FrM M M' := by
  have w2 := hO.1.2
  have w3 := hO.2.2.1
  intro m
  induction m with
  | zero =>
    intro n i s M hi hn hs hsn hC
    obtain ⟨n, rfl, hn⟩ := z_succ hn
    have e2 : mA M 140 0 = nI (cW x) := hC.1
    obtain ⟨M', b1, b2, b3⟩ := q_Mlad (u := s.1) (t := s.2) hO hs (by omega) hC
    refine ⟨M', ?_, b2, b3⟩
    rw [f_RM_pulls_l5]
    simp (disch := first | assumption | omega) only [z_bd, z_cal, z_gd, z_iT, z_iF, z_le_t, z_le_f, z_lt_t, z_lt_f, z_cl, z_inb, z_at, z_pl, nI_lit, nI_ii1, nI_add, nI_mul, e2, b1]
    rfl
  | succ m ih =>
    intro n i s M hi hn hs hsn hC
    obtain ⟨n, rfl, hn⟩ := z_succ hn
    have e2 : mA M 140 0 = nI (cW x) := hC.1
    rw [f_RM_pulls_l5]
    by_cases h0 : side = 0
    · subst h0
      obtain ⟨M', b1, b2, b3⟩ := q_Mpull_l37 (K := f_RM_pulls_l5 (nI r) (nI 0) n) (p2 := nI 0) (side := 0) (j := i) (m := m) hO hr (show i < cW x by omega) hs hsn hC rfl (by omega) (fun s M h1 h2 h3 => ih n (i + 1) s M (by omega) (by omega) h1 h2 h3)
      refine ⟨M', ?_, b2, b3⟩
      simp (disch := first | assumption | omega) only [z_bd, z_cal, z_gd, z_iT, z_iF, z_le_t, z_le_f, z_lt_t, z_lt_f, z_cl, z_inb, z_at, z_pl, nI_lit, nI_ii1, nI_add, nI_mul, e2]
      exact b1
    · have hp : plP x r side i = 8 * r + (cW x - 1 - i) := by
        unfold plP
        rw [if_neg h0]
      obtain ⟨M', b1, b2, b3⟩ := q_Mpull_l37 (K := f_RM_pulls_l5 (nI r) (nI side) n) (p2 := nI side) (side := side) (j := cW x - 1 - i) (m := m) hO hr (show i < cW x by omega) hs hsn hC hp (by omega) (fun s M h1 h2 h3 => ih n (i + 1) s M (by omega) (by omega) h1 h2 h3)
      refine ⟨M', ?_, b2, b3⟩
      simp (disch := first | assumption | omega) only [z_bd, z_cal, z_gd, z_iT, z_iF, z_le_t, z_le_f, z_lt_t, z_lt_f, z_cl, z_inb, z_at, z_pl, nI_lit, nI_ii1, nI_add, nI_mul, e2, z_eq_f, z_sub]
      exact b1
theorem q_Mpull {r side : Nat} (hO : OkC x) (hC : MC (mA M 140) x) (hr : r < cR x) (hside : side ≤ 1) :
    ∃ M', f_RM_pulls (nI r) (nI side) M = some (nI (pulU x r side).2, M') ∧ MC (mA M' 140) (pulX x r side) ∧ FrM M M' :=
  q_Mpull_l5 hO hr hside (cW x) FU 0 (cU x, 0) M (by omega) (FU_lt (by have := hO.1.2; omega)) (OkU_U hO) (Nat.le_refl _) hC
theorem q_Meat {r i : Nat} (hO : OkC x) (hC : MC (mA M 140) x) (hr : r < cR x) (hi : i < cW x) :
    ∃ M', f_RM_eats (nI r) (nI i) M = some (if looseB x (8 * r + i) = true then nI (eatU x r i).2 else -1, M') ∧ MC (mA M' 140) (eatX x r i) ∧ FrM M M' := by
  have w2 := hO.1.2
  have w3 := hO.2.2.1
  have hl := q_isLoose hO hC hr hi
  rw [f_RM_eats]
  unfold eatX eatU
  cases h : looseB x (8 * r + i)
  · rw [h, b2i_f] at hl
    refine ⟨M, ?_, hC, FrM.rf⟩
    simp (disch := first | assumption | omega) only [z_bd, z_cal, z_gd, z_iT, z_iF, z_le_t, z_le_f, z_lt_t, z_lt_f, z_cl, z_inb, z_at, z_pl, nI_lit, nI_ii1, nI_add, nI_mul, hl, Bool.false_eq_true]
  · rw [h, b2i_t] at hl
    rw [if_pos rfl]
    have hC2 := MC_U (p := 8 * r + i) (v := 1) hO hC (by omega)
    obtain ⟨M', b1, b2, b3⟩ := q_Mlad (u := updN (cU x) (8 * r + i) 1) (t := 1) hO (OkU_upd (OkU_U hO) (Nat.le_refl _)) (by omega) hC2
    refine ⟨M', ?_, b2, (FrM.up (by omega)).tr b3⟩
    simp (disch := first | assumption | omega) only [z_bd, z_cal, z_gd, z_iT, z_iF, z_le_t, z_le_f, z_lt_t, z_lt_f, z_cl, z_inb, z_at, z_pl, nI_lit, nI_ii1, nI_add, nI_mul, hl, z_eq_f, b1]
theorem q_Mpat {r i : Nat} (hO : OkC x) (hC : MC (mA M 140) x) (hr : r < cR x) (hi : i < cW x) :
    ∃ M', f_RM_darns (nI (8 * r + i)) M = some (nI (cN x (8 * r + i)), M') ∧ MC (mA M' 140) (patX x (8 * r + i)) ∧ FrM M M' := by
  have w2 := hO.1.2
  have w3 := hO.2.2.1
  have a2 := (hC.2.2.2.2.2 r i hr hi).2.1
  have hp : 8 * r + i < 96 := by omega
  have o1 : OkC (wN x (updN (cN x) (8 * r + i) 0)) := OkC_N hO (OkU_upd (OkU_N hO) (by omega))
  have o2 : OkC (wU (wN x (updN (cN x) (8 * r + i) 0)) (updN (cU x) (8 * r + i) 0)) := OkC_U o1 (OkU_upd (OkU_U o1) (by omega))
  have h1 := MC_N (p := 8 * r + i) (v := 0) hO hC hp
  have h2 := MC_U (p := 8 * r + i) (v := 0) o1 h1 hp
  have h3 := MC_D (p := 8 * r + i) (v := 1) o2 h2 hp
  refine ⟨_, ?_, h3, (((FrM.up (by omega)).tr (FrM.up (by omega))).tr (FrM.up (by omega)))⟩
  rw [f_RM_darns]
  simp (disch := first | assumption | omega) only [z_bd, z_cal, z_gd, z_iT, z_iF, z_le_t, z_le_f, z_lt_t, z_lt_f, z_cl, z_inb, z_at, z_pl, nI_lit, nI_ii1, nI_add, nI_mul, a2]
end
