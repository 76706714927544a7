/-! ## the law's rounds; the law -/
section
variable {hA : Nat → Int32} {v : Nat → Nat} {M : kx_M} {σ : Sg} {sc : Nat × (Nat → Int32)} {u : St} {Y : Nat}
theorem Gd_cal {α : Type} {a : Option (α × kx_M)} {x : α} {M' : kx_M} {K : α → kx_M → Option (Int32 × kx_M)} (h : a = some (x, M')) (g : Gd (K x M')) : Gd (cal a K) := by
  rw [h]
  exact g
theorem Gd_if {c : Prop} [Decidable c] {a b : Option (Int32 × kx_M)} (h : c) (g : Gd a) : Gd (if c then a else b) := by
  rw [if_pos h]
  exact g
theorem Gd_nif {c : Prop} [Decidable c] {a b : Option (Int32 × kx_M)} (h : ¬ c) (g : Gd b) : Gd (if c then a else b) := by
  rw [if_neg h]
  exact g
theorem z_lt2 {s : Nat} (h : s < 2) : ¬ ((2 : Int32) ≤ nI s) := by
  match s, h with
  | 0, _ => decide
  | 1, _ => decide
theorem e_222 {x4 x5 x6 x7 : Int32} {r : Nat} {K : Int32 → Int32 → Int32 → Int32 → Int32 → Int32 → Int32 → kx_M → Option (Int32 × kx_M)} (hH : HOK hA v) (hN : RN v Y u) (hr : r < v 4)
    (hK : ∀ M' σ', CO hA M' σ' → PZ v u σ' → Gd (K x4 x5 x6 x7 (nI (v 4)) (nI (totU u.1)) (nI (r + 1)) M')) : ∀ (d n side : Nat) (M : kx_M) (σ : Sg), side + d = 2 → d < n → CO hA M σ → PZ v u σ → Gd (f_LW_law_l222 sc K n x4 x5 x6 x7 (nI (v 4)) (nI (totU u.1)) (nI r) (nI side) M) := by
  have h3 := hH.2.2.2.2.1
  have h4 := hH.2.2.2.2.2.1
  have hW : cW u.1 = v 0 := hN.1
  have hR : cR u.1 = v 4 := hN.2.1
  have hC : dC u.2.1 = v 3 := hN.2.2.2.1
  intro d
  induction d with
  | zero =>
    intro n side M σ hs hn h hZ
    obtain ⟨n, rfl, hn⟩ := z_succ hn
    obtain rfl : side = 2 := by omega
    have gg := hK M σ h hZ
    rw [f_LW_law_l222]
    refine Gd_if (by decide) ?_
    have e1 : nI r + Int32.ofInt 1 = nI (r + 1) := nI_ii1 r
    rw [z_bdn, e1]
    exact gg
  | succ d ih =>
    intro n side M σ hs hn h hZ
    obtain ⟨n, rfl, hn⟩ := z_succ hn
    have eX := PZ_X hZ
    have eY := PZ_Y hZ
    have hO : OkC u.1 := by rw [← eX]; exact cOC h
    have hrR : r < cR (gX σ) := by rw [eX]; omega
    obtain ⟨M1, a1, a2⟩ := c_pulled h (r := r) (side := side) hrR (by omega)
    obtain ⟨M2, b1, b2⟩ := c_pulledOut a2 (r := r) (side := side) hrR (by omega)
    obtain ⟨M3, c1, c2⟩ := c_many b2 (u := 9) (by decide)
    obtain ⟨M4, d1, d2⟩ := c_mark c2 hZ.2.1
    have hT := TZ_mark hZ
    obtain ⟨M5, f1, f2⟩ := c_pull d2 (r := r) (side := side) hrR (by omega)
    have hT1 : TZ v u (pulX (gX σ) r side) (wX (wK σ 1 (mkF σ)) (pulX (gX σ) r side)) := TZ_X hT (by show (gX σ).1 = u.1.1; rw [eX])
    have f1 : f_KT_pull (nI r) (nI side) M4 = some (nI (pulU (gX σ) r side).2, M5) := f1
    have f2 : CO hA M5 (wX (wK σ 1 (mkF σ)) (pulX (gX σ) r side)) := f2
    obtain ⟨M6, g1, g2⟩ := c_many f2 (u := 6) (by decide)
    obtain ⟨M7, i1, i2⟩ := c_many g2 (u := 9) (by decide)
    obtain ⟨M8, j1, j2⟩ := c_pulled i2 (r := r) (side := side) hrR (by omega)
    obtain ⟨M9, k1, k2⟩ := c_back j2 hT1.1
    have hZ1 := TZ_back hT1
    obtain ⟨M10, l1, l2⟩ := c_many k2 (u := 6) (by decide)
    obtain ⟨M11, m1, m2⟩ := c_many l2 (u := 9) (by decide)
    have e6 : mnN (gX (wX (wK σ 1 (mkF σ)) (pulX (gX σ) r side))) (gY (wX (wK σ 1 (mkF σ)) (pulX (gX σ) r side))) 6 = totU u.1 + (pulU u.1 r side).2 := by
      show sumRC (cU (pulX (gX σ) r side)) (cW (gX σ)) (cR (gX σ)) = _
      rw [eX]
      exact pul_tot hO (by omega)
    have e9 : mnN (gX (wX (wK σ 1 (mkF σ)) (pulX (gX σ) r side))) (gY (wX (wK σ 1 (mkF σ)) (pulX (gX σ) r side))) 9 = sdSet (pulX u.1 r side) u.2.1 := by
      show sdSet (pulX (gX σ) r side) (gY σ) = _
      rw [eX, eY]
    have e0 : (pulU (gX (wX (wK σ 1 (mkF σ)) (pulX (gX σ) r side))) r side).2 = 0 := by
      show (pulU (pulX (gX σ) r side) r side).2 = 0
      rw [eX]
      exact pul_again hO (by omega)
    rw [mn9] at c1 m1
    rw [mn6] at l1
    rw [PZ_X hZ1, PZ_Y hZ1] at m1
    rw [PZ_X hZ1] at l1
    rw [e6] at g1
    rw [e9] at i1
    rw [e0] at j1
    rw [eX] at a1 f1
    rw [eX, eY] at b1 c1
    obtain ⟨M12, n1, n2⟩ := c_worst m2 (by rw [PZ_X hZ1]; omega)
    obtain ⟨M13, o1, o2⟩ := c_worst n2 (by rw [PZ_X hZ1]; omega)
    rw [PZ_X hZ1] at n1 o1
    obtain ⟨j, w1, w2, w3⟩ := wp_max hO (by omega)
    rw [w2] at n1 o1
    obtain ⟨y1, y2⟩ := wj_parts j (by omega)
    have y1 : wjI j / nI 10 = nI (j / 2) := y1
    have y2 : wjI j - wjI j / nI 10 * nI 10 = nI (j % 2) := y2
    obtain ⟨M14, p1, p2⟩ := c_pulled o2 (r := j / 2) (side := j % 2) (by rw [PZ_X hZ1]; omega) (by omega)
    rw [PZ_X hZ1] at p1
    have hle : (pulU u.1 r side).2 ≤ (pulU u.1 (j / 2) (j % 2)).2 := by
      have := w3 (2 * r + side) (by omega)
      unfold cjN at this
      rw [show (2 * r + side) / 2 = r by omega, show (2 * r + side) % 2 = side by omega] at this
      exact this
    have hb := pulU_n hO (j / 2) (j % 2)
    have z1 : (nI (pulU u.1 r side).2 ≤ nI (pulU u.1 (j / 2) (j % 2)).2) = True := z_le_t hle (by omega)
    have gg := e_377 (sc := sc) (x4 := x4) (x5 := x5) (x6 := x6) (x7 := x7) (x8 := nI (v 4)) (x9 := nI (totU u.1)) (K := f_LW_law_l222 sc K n) hH hN hr (show side ≤ 1 by omega) (fun M' σ' q1 q2 => ih n (side + 1) M' σ' (by omega) (by omega) q1 q2) (v 3) FU 0 M14 _ (by omega) (FU_lt (by omega)) p2 hZ1
    have p1 : f_KT_pulled (wjI j / nI 10) (wjI j - wjI j / nI 10 * nI 10) M13 = some (nI (pulU u.1 (j / 2) (j % 2)).2, M14) := by rw [y2, y1]; exact p1
    rw [f_LW_law_l222]
    refine Gd_nif (z_lt2 (by omega)) ?_
    refine Gd_cal a1 ?_
    refine Gd_cal b1 ?_
    refine Gd_cal c1 ?_
    refine Gd_cal d1 ?_
    refine Gd_if rfl ?_
    refine Gd_cal f1 ?_
    refine Gd_if rfl ?_
    refine Gd_cal g1 ?_
    refine Gd_if (nI_add _ _).symm ?_
    refine Gd_cal i1 ?_
    refine Gd_if rfl ?_
    refine Gd_cal j1 ?_
    refine Gd_if rfl ?_
    refine Gd_cal k1 ?_
    refine Gd_if rfl ?_
    refine Gd_cal l1 ?_
    refine Gd_if rfl ?_
    refine Gd_cal m1 ?_
    refine Gd_if rfl ?_
    refine Gd_cal n1 ?_
    refine Gd_cal o1 ?_
    refine Gd_cal p1 ?_
    refine Gd_if (of_eq_true z1) ?_
    exact gg
theorem e_152 {x4 x5 x6 x7 : Int32} {r : Nat} {K : Int32 → Int32 → Int32 → Int32 → Int32 → Int32 → Int32 → kx_M → Option (Int32 × kx_M)} (hH : HOK hA v) (hN : RN v Y u) (hr : r < v 4)
    (hK : ∀ M' σ', CO hA M' σ' → PZ v u σ' → Gd (K x4 x5 x6 x7 (nI (v 4)) (nI (totU u.1)) (nI (r + 1)) M')) : ∀ (d n i : Nat) (M : kx_M) (σ : Sg), i + d = v 0 → d < n → CO hA M σ → PZ v u σ → Gd (f_LW_law_l152 sc K n x4 x5 x6 x7 (nI (v 4)) (nI (totU u.1)) (nI r) (nI i) M) := by
  have h0 := hH.2.1
  have h4 := hH.2.2.2.2.2.1
  have hW : cW u.1 = v 0 := hN.1
  have hR : cR u.1 = v 4 := hN.2.1
  intro d
  induction d with
  | zero =>
    intro n i M σ hi hn h hZ
    obtain ⟨n, rfl, hn⟩ := z_succ hn
    have e0 := CO_v hH h (i := 0) (by omega) (by omega)
    have gg := e_222 (sc := sc) hH hN hr hK 2 FU 0 M σ rfl (FU_lt (by omega)) h hZ
    rw [f_LW_law_l152]
    simp (disch := first | assumption | omega) only [z_bdn, z_caln, z_gdn, z_iT, z_iF, z_le_t, z_le_f, z_lt_t, z_lt_f, z_cl, z_inb, z_at, z_lit, nI_ii1, nI_add, z_mr, z_ref0, z_refn, z_eq_f, Bool.not_true, Bool.not_false, b2i_t, b2i_f, e0]
    exact gg
  | succ d ih =>
    intro n i M σ hi hn h hZ
    obtain ⟨n, rfl, hn⟩ := z_succ hn
    have eX := PZ_X hZ
    have e0 := CO_v hH h (i := 0) (by omega) (by omega)
    have hrR : r < cR (gX σ) := by rw [eX]; omega
    have hiW : i < cW (gX σ) := by rw [eX]; omega
    have hO : OkC u.1 := by rw [← eX]; exact cOC h
    obtain ⟨hk, hn9, hu, hd⟩ := hO.2.2.2.2.2 r i (by omega) (by omega)
    have hwf := hN.2.2.2.2.1 r i (by omega) (by omega)
    -- the second half: a darned one is not worn
    have half : ∀ (M1 : kx_M), CO hA M1 σ → Gd (f_LW_law_l186 sc (f_LW_law_l152 sc K n) x4 x5 x6 x7 (nI (v 4)) (nI (totU u.1)) (nI r) (nI i) M1) := by
      intro M1 h1
      obtain ⟨M2, b1, b2⟩ := c_stitch h1 (r := r) (i := i) (u := 3) hrR hiW (by decide)
      rw [eX] at b1
      have s3 : stN u.1 3 (8 * r + i) = cD u.1 (8 * r + i) := rfl
      rw [s3] at b1
      rw [f_LW_law_l186]
      by_cases hd1 : cD u.1 (8 * r + i) = 1
      · obtain ⟨M3, c1, c2⟩ := c_stitch b2 (r := r) (i := i) (u := 1) hrR hiW (by decide)
        rw [eX] at c1
        have s1 : stN u.1 1 (8 * r + i) = 0 := (hwf hd1).2
        rw [s1] at c1
        rw [hd1] at b1
        have gg := ih n (i + 1) M3 σ (by omega) (by omega) c2 hZ
        simp (disch := first | assumption | omega) only [z_bdn, z_caln, z_gdn, z_iT, z_iF, z_le_t, z_le_f, z_lt_t, z_lt_f, z_cl, z_inb, z_at, z_lit, nI_ii1, nI_add, z_mr, z_ref0, z_refn, z_eq_f, Bool.not_true, Bool.not_false, b2i_t, b2i_f, b1, c1]
        exact gg
      · have hd0 : cD u.1 (8 * r + i) = 0 := by omega
        rw [hd0] at b1
        have gg := ih n (i + 1) M2 σ (by omega) (by omega) b2 hZ
        simp (disch := first | assumption | omega) only [z_bdn, z_caln, z_gdn, z_iT, z_iF, z_le_t, z_le_f, z_lt_t, z_lt_f, z_cl, z_inb, z_at, z_lit, nI_ii1, nI_add, z_mr, z_ref0, z_refn, z_eq_f, Bool.not_true, Bool.not_false, b2i_t, b2i_f, b1]
        exact gg
    obtain ⟨M1, a1, a2⟩ := c_stitch h (r := r) (i := i) (u := 2) hrR hiW (by decide)
    rw [eX] at a1
    have s2 : stN u.1 2 (8 * r + i) = cU u.1 (8 * r + i) := rfl
    rw [s2] at a1
    rw [f_LW_law_l152]
    by_cases hu1 : cU u.1 (8 * r + i) = 1
    · obtain ⟨M2, b1, b2⟩ := c_stitch a2 (r := r) (i := i) (u := 3) hrR hiW (by decide)
      rw [eX] at b1
      have hd0 : cD u.1 (8 * r + i) = 0 := by
        by_cases hd1 : cD u.1 (8 * r + i) = 1
        · have := (hwf hd1).1; omega
        · omega
      have s3 : stN u.1 3 (8 * r + i) = 0 := hd0
      rw [s3] at b1
      rw [hu1] at a1
      have gg := half M2 b2
      simp (disch := first | assumption | omega) only [z_bdn, z_caln, z_gdn, z_iT, z_iF, z_le_t, z_le_f, z_lt_t, z_lt_f, z_cl, z_inb, z_at, z_lit, nI_ii1, nI_add, z_mr, z_ref0, z_refn, z_eq_f, Bool.not_true, Bool.not_false, b2i_t, b2i_f, e0, a1, b1]
      exact gg
    · have hu0 : cU u.1 (8 * r + i) = 0 := by omega
      rw [hu0] at a1
      have gg := half M1 a2
      simp (disch := first | assumption | omega) only [z_bdn, z_caln, z_gdn, z_iT, z_iF, z_le_t, z_le_f, z_lt_t, z_lt_f, z_cl, z_inb, z_at, z_lit, nI_ii1, nI_add, z_mr, z_ref0, z_refn, z_eq_f, Bool.not_true, Bool.not_false, b2i_t, b2i_f, e0, a1]
      exact gg
theorem e_142 {x4 x7 : Int32} {rd : Nat} {K : Int32 → Int32 → Int32 → kx_M → Option (Int32 × kx_M)} (hH : HOK hA v) (hN : RN v Y u) (hD : OkD (cW u.1) u.2.1) (hY : Y + 8 ≤ 9999)
    (hK : ∀ M' σ', CO hA M' σ' → RI v (Y + 8) σ' → Gd (K x4 (nI (2 ^ v 3)) (nI (rd + 1)) M')) : ∀ (d n r : Nat) (M : kx_M) (σ : Sg), r + d = v 4 → d < n → CO hA M σ → PZ v u σ → Gd (f_LW_law_l142 sc K n x4 (nI (2 ^ v 3)) (nI rd) x7 (nI (v 4)) (nI (totU u.1)) (nI r) M) := by
  have h3 := hH.2.2.2.2.1
  have h4 := hH.2.2.2.2.2.1
  have hp : 2 ^ v 3 ≤ 8 := Nat.le_trans (Nat.pow_le_pow_right (by omega) h3) (by decide)
  intro d
  induction d with
  | zero =>
    intro n r M σ hr hn h hZ
    obtain ⟨n, rfl, hn⟩ := z_succ hn
    have gg := e_588 (sc := sc) (x4 := x4) (x7 := x7) (rd := rd) hH hN hD hY hK (2 ^ v 3) FU 0 M σ (Nat.zero_add _) (FU_lt (by omega)) h hZ
    rw [f_LW_law_l142]
    simp (disch := first | assumption | omega) only [z_bdn, z_caln, z_gdn, z_iT, z_iF, z_le_t, z_le_f, z_lt_t, z_lt_f, z_cl, z_inb, z_at, z_lit, nI_ii1, nI_add, z_mr, z_ref0, z_refn, z_eq_f, Bool.not_true, Bool.not_false, b2i_t, b2i_f]
    exact gg
  | succ d ih =>
    intro n r M σ hr hn h hZ
    obtain ⟨n, rfl, hn⟩ := z_succ hn
    have gg := e_152 (sc := sc) (x4 := x4) (x5 := nI (2 ^ v 3)) (x6 := nI rd) (x7 := x7) (r := r) (K := f_LW_law_l142 sc K n) hH hN (by omega) (fun M' σ' g1 g2 => ih n (r + 1) M' σ' (by omega) (by omega) g1 g2) (v 0) FU 0 M σ (by omega) (FU_lt (by have := hH.2.1; omega)) h hZ
    rw [f_LW_law_l142]
    simp (disch := first | assumption | omega) only [z_bdn, z_caln, z_gdn, z_iT, z_iF, z_le_t, z_le_f, z_lt_t, z_lt_f, z_cl, z_inb, z_at, z_lit, nI_ii1, nI_add, z_mr, z_ref0, z_refn, z_eq_f, Bool.not_true, Bool.not_false, b2i_t, b2i_f]
    exact gg
theorem e_122 {x4 s0 : Int32} {rd : Nat} {K : Int32 → Int32 → Int32 → kx_M → Option (Int32 × kx_M)} (hH : HOK hA v) (h : CO hA M σ) (hI : RI v Y σ) (hY : Y + 8 ≤ 9999)
    (hK : ∀ M' σ', CO hA M' σ' → RI v (Y + 8) σ' → Gd (K x4 (nI (2 ^ v 3)) (nI (rd + 1)) M')) : Gd (f_LW_law_l122 sc K x4 (nI (2 ^ v 3)) (nI rd) s0 M) := by
  obtain ⟨M1, a1, a2⟩ := c_many h (u := 4) (by decide)
  obtain ⟨M2, b1, b2⟩ := c_many a2 (u := 6) (by decide)
  have eR : cR (gX σ) = v 4 := hI.1.2.1
  rw [mn4, eR] at a1
  rw [mn6] at b1
  have gg := e_142 (sc := sc) (u := gN σ) (x4 := x4) (x7 := s0) (rd := rd) hH hI.1 (cOD h) hY hK (v 4) FU 0 M2 σ (by omega) (FU_lt (by have := hH.2.2.2.2.2.1; omega)) b2 ⟨rfl, hI.2.1, hI.2.2⟩
  have gg : Gd (f_LW_law_l142 sc K FU x4 (nI (2 ^ v 3)) (nI rd) s0 (nI (v 4)) (nI (totU (gX σ))) (nI 0) M2) := gg
  rw [f_LW_law_l122]
  simp (disch := first | assumption | omega) only [z_bdn, z_caln, z_gdn, z_iT, z_iF, z_le_t, z_le_f, z_lt_t, z_lt_f, z_cl, z_inb, z_at, z_lit, nI_ii1, nI_add, z_mr, z_ref0, z_refn, z_eq_f, Bool.not_true, Bool.not_false, b2i_t, b2i_f, a1, b1]
  exact gg
theorem e_84 {x4 : Int32} (hs : sc.1 < 1000) (hH : HOK hA v) : ∀ (d n rd : Nat) (M : kx_M) (σ : Sg), rd + d = 7 → d < n → CO hA M σ → RI v (8 * rd) σ → Gd (f_LW_law_l84 sc n x4 (nI (2 ^ v 3)) (nI rd) M) := by
  intro d
  induction d with
  | zero =>
    intro n rd M σ hr hn h hI
    obtain ⟨n, rfl, hn⟩ := z_succ hn
    obtain rfl : rd = 7 := by omega
    refine ⟨M, ?_⟩
    rw [f_LW_law_l84]
    simp (disch := first | assumption | omega) only [z_bdn, z_caln, z_gdn, z_iT, z_iF, z_le_t, z_le_f, z_lt_t, z_lt_f, z_cl, z_inb, z_at, z_lit, nI_ii1, nI_add, z_mr, z_ref0, z_refn, z_eq_f, Bool.not_true, Bool.not_false, b2i_t, b2i_f]
  | succ d ih =>
    intro n rd M σ hr hn h hI
    obtain ⟨n, rfl, hn⟩ := z_succ hn
    have key : ∀ s0 : Int32, Gd (f_LW_law_l122 sc (f_LW_law_l84 sc n) x4 (nI (2 ^ v 3)) (nI rd) s0 M) := fun s0 => e_122 (Y := 8 * rd) hH h hI (by omega) (fun M' σ' g1 g2 => ih n (rd + 1) M' σ' (by omega) (by omega) g1 g2)
    rw [f_LW_law_l84]
    by_cases hc : sc.1 ≤ rd
    · have gg := key ((nI 389) * nI rd + x4)
      rw [nI_mul, Nat.mul_comm] at gg
      simp (disch := first | assumption | omega) only [z_bdn, z_caln, z_gdn, z_iT, z_iF, z_le_t, z_le_f, z_lt_t, z_lt_f, z_cl, z_inb, z_at, z_lit, nI_ii1, nI_add, z_mr, z_ref0, z_refn, z_eq_f, Bool.not_true, Bool.not_false, b2i_t, b2i_f, z_on]
      exact gg
    · have gg := key (((sc.2 rd) >>> (nI 1 &&& nI 31)) ^^^ (nI 67 * nI rd))
      rw [nI_mul, Nat.mul_comm] at gg
      simp (disch := first | assumption | omega) only [z_bdn, z_caln, z_gdn, z_iT, z_iF, z_le_t, z_le_f, z_lt_t, z_lt_f, z_cl, z_inb, z_at, z_lit, nI_ii1, nI_add, z_mr, z_ref0, z_refn, z_eq_f, Bool.not_true, Bool.not_false, b2i_t, b2i_f, z_on]
      exact gg
end
theorem nI_pow2 : ∀ c, c < 6 → nI 1 <<< (nI c &&& nI 31) = nI (2 ^ c) := by decide
/-- what there is when the law begins -/
def L0 (M : kx_M) (σ : Sg) : Prop := IC M σ ∧ (gK σ).1 = 0 ∧ (gP σ).1 = 0 ∧ mA M 135 20 = nI 0 ∧ mA M 135 21 = nI 0
theorem law_l33 {sc : Nat × (Nat → Int32)} (hs : sc.1 < 1000) {M : kx_M} {σ : Sg} (h : L0 M σ) (x4 : Int32) : Gd (f_LW_law_l33 sc x4 M) := by
  obtain ⟨h1, h2, h3, h4, h5⟩ := h
  obtain ⟨M1, v, a1, hH, aF⟩ := draw_ok hs M
  have hLo : Lo M M1 := Fr.mono aF (fun id hid => by rw [hid]; decide)
  have e135 : mA M1 135 = mA M 135 := (aF 135 (by decide)).2.2.1
  obtain ⟨M2, σ2, b1, b2⟩ := lay_ok (v := v) hH (⟨IC_lo hLo h1, rfl, h2, h3, by rw [e135]; exact h4, by rw [e135]; exact h5⟩ : W0 (mA M1 136) M1 σ)
  obtain ⟨d1, d2, d3, d4, d5, d6, d7, d8, d9, d10⟩ := b2
  have hC := CO_of d1 d2
  have g0 := hH.2.1
  have g3 := hH.2.2.2.2.1
  obtain ⟨M3, f1, f2⟩ := c_tray0 hC (n := 12) (by decide) (t := 0) (by decide)
  have e0 := CO_v hH f2 (i := 0) (by omega) (by omega)
  obtain ⟨M4, i1, i2⟩ := c_tray0 f2 (n := v 0) (by omega) (t := 1) (by decide)
  have e3 := CO_v hH i2 (i := 3) (by omega) (by omega)
  have hp := nI_pow2 (v 3) (by omega)
  have hRI : RI v (8 * 0) (wT (wT σ2 (updT (gT σ2) 0 (false, 0, 12, fun _ => 0))) (updT (gT (wT σ2 (updT (gT σ2) 0 (false, 0, 12, fun _ => 0)))) 1 (false, 0, v 0, fun _ => 0))) := by
    refine ⟨⟨d4, d5, d6, d7, fun r i hr hi hd => ?_, (by show cY (gX σ2) ≤ 0; omega), d10⟩, d3, rfl, rfl, rfl⟩
    have hr : r < cR (gX σ2) := hr
    have hi : i < cW (gX σ2) := hi
    have hd : cD (gX σ2) (8 * r + i) = 1 := hd
    have := (d8 r i hr hi).2.2
    omega
  have gg := e_84 (sc := sc) (x4 := x4) hs hH 7 FU 0 M4 _ rfl (FU_lt (by omega)) i2 hRI
  rw [f_LW_law_l33]
  simp (disch := first | assumption | omega) only [z_bdn, z_caln, z_gdn, z_iT, z_iF, z_le_t, z_le_f, z_lt_t, z_lt_f, z_cl, z_inb, z_at, z_lit, nI_ii1, nI_add, z_mr, z_ref0, z_refn, z_eq_f, Bool.not_true, Bool.not_false, b2i_t, b2i_f, a1, b1, f1, e0, i1, e3, hp]
  exact gg
/-- the law answers 1 -/
theorem law_l18 {sc : Nat × (Nat → Int32)} (hs : sc.1 < 1000) {M : kx_M} {σ : Sg} (h : L0 M σ) : Gd (f_LW_law_l18 sc M) := by
  rw [f_LW_law_l18]
  by_cases h0 : sc.1 = 0
  · have gg := law_l33 hs h (nI 5)
    simp (disch := first | assumption | omega) only [z_bdn, z_caln, z_gdn, z_iT, z_iF, z_le_t, z_le_f, z_lt_t, z_lt_f, z_cl, z_inb, z_at, z_lit, nI_ii1, nI_add, z_mr, z_ref0, z_refn, z_eq_f, Bool.not_true, Bool.not_false, b2i_t, b2i_f, z_on, h0]
    exact gg
  · have gg := law_l33 hs h (sc.2 (sc.1 - 1))
    have es : nI sc.1 - nI 1 = nI (sc.1 - 1) := z_sub (by omega)
    have z1 : (nI sc.1 = nI 0) = False := z_eq_f h0 (by omega) (by omega)
    simp (disch := first | assumption | omega) only [z_bdn, z_caln, z_gdn, z_iT, z_iF, z_le_t, z_le_f, z_lt_t, z_lt_f, z_cl, z_inb, z_at, z_lit, nI_ii1, nI_add, z_mr, z_ref0, z_refn, z_eq_f, Bool.not_true, Bool.not_false, b2i_t, b2i_f, z_on, es, z1]
    exact gg
