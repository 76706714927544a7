/-! ## the last row unravelled, knit again -/
section
variable {hA : Nat → Int32} {v : Nat → Nat} {M : kx_M} {σ : Sg} {sc : Nat × (Nat → Int32)}
/-- a MARK is kept, with what stays over the rounds -/
def SV (v : Nat → Nat) (Y U : Nat) (σ : Sg) : Prop := (gK σ).1 = 1 ∧ RN v Y ((gK σ).2 0) ∧ totU ((gK σ).2 0).1 = U ∧ RTr σ (v 0)
theorem SV_back {Y U : Nat} (h : SV v Y U σ) : RI v Y (wNow (wK σ 0 (gK σ).2) ((gK σ).2 0)) ∧ totU (gX (wNow (wK σ 0 (gK σ).2) ((gK σ).2 0))) = U := ⟨⟨h.2.1, rfl, h.2.2.2⟩, h.2.2.1⟩
theorem SV_mark {Y : Nat} (h : RI v Y σ) : SV v Y (totU (gX σ)) (wK σ 1 (mkF σ)) := by
  have e : mkF σ 0 = gN σ := mkF_0 h.2.1
  refine ⟨rfl, ?_, ?_, h.2.2⟩
  · show RN v Y (mkF σ 0)
    rw [e]; exact h.1
  · show totU (mkF σ 0).1 = _
    rw [e]; rfl
theorem e_1361 {Y U : Nat} {x4 x5 x6 x7 : Int32} {K : Int32 → Int32 → Int32 → Int32 → Int32 → Int32 → kx_M → Option (Int32 × kx_M)} (hH : HOK hA v) (hR : 1 ≤ v 4) (hK : ∀ M' σ', CO hA M' σ' → RI v Y σ' → totU (gX σ') = U → Gd (K x4 x5 x6 x7 (nI (v 4)) (nI U) M')) : ∀ (d n i : Nat) (M : kx_M) (σ : Sg), i + d = v 0 → d < n → CO hA M σ → SV v Y U σ → cW (gX σ) = v 0 → cR (gX σ) = v 4 → (∀ i, i < v 0 → cN (gX σ) (8 * (v 4 - 1) + i) = 0 ∧ cU (gX σ) (8 * (v 4 - 1) + i) = 0 ∧ cD (gX σ) (8 * (v 4 - 1) + i) = 0) → Gd (f_LW_law_l1361 sc K n x4 x5 x6 x7 (nI (v 4)) (nI U) (nI i) M) := by
  have h0 := hH.2.1
  have h4 := hH.2.2.2.2.2.1
  intro d
  induction d with
  | zero =>
    intro n i M σ hi hn h hS eW eR hz
    obtain ⟨n, rfl, hn⟩ := z_succ hn
    have e0 := CO_v hH h (i := 0) (by omega) (by omega)
    obtain ⟨M1, a1, a2⟩ := c_back h hS.1
    obtain ⟨g1, g2⟩ := SV_back hS
    obtain ⟨M2, b1, b2⟩ := c_many a2 (u := 6) (by decide)
    rw [mn6, g2] at b1
    have g := hK M2 _ b2 g1 g2
    rw [f_LW_law_l1361]
    simp (disch := first | assumption | omega) only [z_bdn, z_caln, z_gdn, z_iT, z_iF, z_le_t, z_le_f, z_lt_t, z_lt_f, z_cl, z_inb, z_at, z_lit, nI_ii1, nI_add, z_mr, z_ref0, z_refn, z_eq_f, Bool.not_true, Bool.not_false, b2i_t, b2i_f, e0, a1, b1]
    exact g
  | succ d ih =>
    intro n i M σ hi hn h hS eW eR hz
    obtain ⟨n, rfl, hn⟩ := z_succ hn
    have e0 := CO_v hH h (i := 0) (by omega) (by omega)
    have er : nI (v 4) - nI 1 = nI (v 4 - 1) := z_sub hR
    obtain ⟨M1, a1, a2⟩ := c_stitch h (r := v 4 - 1) (i := i) (u := 1) (by omega) (by omega) (by decide)
    obtain ⟨M2, b1, b2⟩ := c_stitch a2 (r := v 4 - 1) (i := i) (u := 2) (by omega) (by omega) (by decide)
    obtain ⟨M3, c1, c2⟩ := c_stitch b2 (r := v 4 - 1) (i := i) (u := 3) (by omega) (by omega) (by decide)
    obtain ⟨z1, z2, z3⟩ := hz i (by omega)
    have s1 : stN (gX σ) 1 (8 * (v 4 - 1) + i) = 0 := z1
    have s2 : stN (gX σ) 2 (8 * (v 4 - 1) + i) = 0 := z2
    have s3 : stN (gX σ) 3 (8 * (v 4 - 1) + i) = 0 := z3
    rw [s1] at a1
    rw [s2] at b1
    rw [s3] at c1
    have g := ih n (i + 1) M3 σ (by omega) (by omega) c2 hS eW eR hz
    rw [f_LW_law_l1361]
    simp (disch := first | assumption | omega) only [z_bdn, z_caln, z_gdn, z_iT, z_iF, z_le_t, z_le_f, z_lt_t, z_lt_f, z_cl, z_inb, z_at, z_lit, nI_ii1, nI_add, z_mr, z_ref0, z_refn, z_eq_f, Bool.not_true, Bool.not_false, b2i_t, b2i_f, e0, er, a1, b1, c1]
    exact g
theorem e_1239 {Y U : Nat} {x4 x5 x6 x7 : Int32} {K : Int32 → Int32 → Int32 → Int32 → Int32 → Int32 → kx_M → Option (Int32 × kx_M)} (hH : HOK hA v) (hR : 1 ≤ v 4) (hK : ∀ M' σ', CO hA M' σ' → RI v Y σ' → totU (gX σ') = U → Gd (K x4 x5 x6 x7 (nI (v 4)) (nI U) M')) : ∀ (d n i : Nat) (M : kx_M) (σ : Sg), i + d = v 0 → d < n → CO hA M σ → SV v Y U σ → RN v Y (gN σ) → (∀ j, j < i → tV (gT σ 1) j = jN (some (cK (gX σ) (8 * (v 4 - 1) + j)))) → Gd (f_LW_law_l1239 sc K n x4 x5 x6 x7 (nI (v 4)) (nI U) (nI (cO (gX σ) (v 4 - 1))) (nI i) M) := by
  have h0 := hH.2.1
  have h4 := hH.2.2.2.2.2.1
  have h2 := hH.2.2.2.1
  intro d
  induction d with
  | zero =>
    intro n i M σ hi hn h hS hN hT
    obtain ⟨n, rfl, hn⟩ := z_succ hn
    obtain rfl : i = v 0 := by omega
    obtain ⟨a1, a2, a3, a4, a5, a6, a7⟩ := hN
    have eW : cW (gX σ) = v 0 := a1
    have eR : cR (gX σ) = v 4 := a2
    have eQ : dQ (gY σ) = v 2 := a3
    have hO := cOC h
    have hD := cOD h
    have e0 := CO_v hH h (i := 0) (by omega) (by omega)
    have er : nI (v 4) - nI 1 = nI (v 4 - 1) := z_sub hR
    have hq : cO (gX σ) (v 4 - 1) < dQ (gY σ) := a7 (v 4 - 1) (by show v 4 - 1 < cR (gX σ); omega)
    have hk4 : ∀ j, j < v 0 → cK (gX σ) (8 * (v 4 - 1) + j) < 4 := fun j hj => (hO.2.2.2.2.2 (v 4 - 1) j (by omega) (by omega)).1
    have hTT : TTk σ (v 0) (fun j => some (cK (gX σ) (8 * (v 4 - 1) + j))) := ⟨hS.2.2.2.1, hS.2.2.2.2.1, hS.2.2.2.2.2, fun j hj => ⟨hT j hj, fun a ha => by
      have ha : cK (gX σ) (8 * (v 4 - 1) + j) = a := Option.some.inj ha
      rw [← ha]; exact hk4 j hj⟩⟩
    have hall : ∀ j, j < v 0 → ∃ a, (fun j => some (cK (gX σ) (8 * (v 4 - 1) + j))) j = some a := fun j _ => ⟨_, rfl⟩
    obtain ⟨M1, b1, b2⟩ := c_needs h hTT eW hall
    obtain ⟨nd, hnd⟩ : ∃ nd, nd = takN 1 (v 0) σ := ⟨_, rfl⟩
    rw [← hnd] at b1
    have hn10 : nd ≤ 10 := by
      have : takN 1 (v 0) σ ≤ 2 * v 0 := sumN_le (fun j _ => cst_le _)
      omega
    have hbk : bkN (gX σ) (v 4 - 1) (cW (gX σ)) ≤ nd := by
      rw [hnd, eW]
      refine sumN_mono (fun j hj => ?_)
      have ek : kdN (tV (gT σ 1) j) = cK (gX σ) (8 * (v 4 - 1) + j) := by
        rw [hT j hj]
        exact ((cut_jN _ (fun a ha => by
          have ha : cK (gX σ) (8 * (v 4 - 1) + j) = a := Option.some.inj ha
          rw [← ha]; exact hk4 j hj)).2.2.2 _ rfl).2
      rw [ek]
      split
      · exact Nat.le_refl _
      · exact Nat.zero_le _
    have hw9 : dO (gY σ) (cO (gX σ) (v 4 - 1)) ≤ 999 := hD.2.2.1 _ hq
    obtain ⟨M2, c1, c2⟩ := c_wool b2 hq
    obtain ⟨w0, hw0⟩ : ∃ w0, w0 = dO (gY σ) (cO (gX σ) (v 4 - 1)) := ⟨_, rfl⟩
    rw [← hw0] at c1 hw9
    obtain ⟨M3, d1, d2⟩ := c_unravel c2 (by omega)
    rw [eR] at d1
    have ew1 : dO (gY (wNow σ (unX (gX σ), unY (gX σ) (gY σ), gZ σ))) (cO (gX σ) (v 4 - 1)) = min 999 (w0 + bkN (gX σ) (v 4 - 1) (cW (gX σ))) := by
      show (if cO (gX σ) (v 4 - 1) = cO (gX σ) (cR (gX σ) - 1) then min 999 (dO (gY σ) (cO (gX σ) (cR (gX σ) - 1)) + bkN (gX σ) (cR (gX σ) - 1) (cW (gX σ))) else _) = _
      rw [eR, if_pos rfl, ← hw0]
    obtain ⟨M4, f1, f2⟩ := c_wool d2 (q := cO (gX σ) (v 4 - 1)) hq
    rw [ew1] at f1
    obtain ⟨M5, g1, g2⟩ := c_wool f2 (q := cO (gX σ) (v 4 - 1)) hq
    rw [ew1] at g1
    obtain ⟨w1, hw1⟩ : ∃ w1, w1 = min 999 (w0 + bkN (gX σ) (v 4 - 1) (cW (gX σ))) := ⟨_, rfl⟩
    rw [← hw1] at f1 g1 ew1
    obtain ⟨M6, i1, i2⟩ := c_shear g2 (q := cO (gX σ) (v 4 - 1)) (n := 1 + nd) hq (by omega) (by omega)
    rw [ew1] at i1
    obtain ⟨M7, y7, j1, j2⟩ := c_knit i2 (W := v 0) (q := cO (gX σ) (v 4 - 1)) hTT eW hall hq (by show cR (gX σ) - 1 < 12; omega) (by
      show takN 1 (v 0) σ ≤ (if cO (gX σ) (v 4 - 1) = cO (gX σ) (v 4 - 1) then min 999 (dO (gY (wNow σ (unX (gX σ), unY (gX σ) (gY σ), gZ σ))) (cO (gX σ) (v 4 - 1)) + (1 + nd)) else _)
      rw [if_pos rfl, ew1, ← hnd]
      omega)
    have eR2 : cR (gX σ) - 1 + 1 = v 4 := by omega
    have j1 : f_KT_knit (nI (cO (gX σ) (v 4 - 1))) (nI 1) M6 = some (nI (cR (gX σ) - 1 + 1), M7) := j1
    rw [eR2] at j1
    have z1 : (nI w1 < nI w0) = False := z_lt_f (by omega) (by omega)
    have z2 : (nI w1 ≤ nI (w0 + nd)) = True := z_le_t (by omega) (by omega)
    have z3 : (nI (min 999 (w1 + (1 + nd))) < nI 1) = False := z_lt_f (by omega) (by omega)
    have g := e_1361 (sc := sc) (x4 := x4) (x5 := x5) (x6 := x6) (x7 := x7) hH hR hK (v 0) FU 0 M7 _ (by omega) (FU_lt (by omega)) j2 (by exact hS) (by exact eW) (by exact eR2) (fun i hi => by
      show (if 8 * (v 4 - 1) + i < 8 * (cR (gX σ) - 1) then _ else 0) = 0 ∧ (if 8 * (v 4 - 1) + i < 8 * (cR (gX σ) - 1) then _ else 0) = 0 ∧ (if 8 * (v 4 - 1) + i < 8 * (cR (gX σ) - 1) then _ else 0) = 0
      rw [if_neg (by omega), if_neg (by omega), if_neg (by omega)]
      exact ⟨rfl, rfl, rfl⟩)
    rw [f_LW_law_l1239]
    simp (disch := first | assumption | omega) only [z_bdn, z_caln, z_gdn, z_iT, z_iF, z_le_t, z_le_f, z_lt_t, z_lt_f, z_cl, z_inb, z_at, z_lit, nI_ii1, nI_add, z_mr, z_ref0, z_refn, z_eq_f, Bool.not_true, Bool.not_false, b2i_t, b2i_f, e0, er, b1, c1, d1, f1, z1, g1, z2, i1, z3, j1]
    exact g
  | succ d ih =>
    intro n i M σ hi hn h hS hN hT
    obtain ⟨n, rfl, hn⟩ := z_succ hn
    obtain ⟨a1, a2, a3, a4, a5, a6, a7⟩ := id hN
    have eW : cW (gX σ) = v 0 := a1
    have eR : cR (gX σ) = v 4 := a2
    have hO := cOC h
    have e0 := CO_v hH h (i := 0) (by omega) (by omega)
    have er : nI (v 4) - nI 1 = nI (v 4 - 1) := z_sub hR
    have hk4 := (hO.2.2.2.2.2 (v 4 - 1) i (by omega) (by omega)).1
    obtain ⟨M1, b1, b2⟩ := c_stitch h (r := v 4 - 1) (i := i) (u := 0) (by omega) (by omega) (by decide)
    have s0 : stN (gX σ) 0 (8 * (v 4 - 1) + i) = cK (gX σ) (8 * (v 4 - 1) + i) := rfl
    rw [s0] at b1
    have ej : (nI (cK (gX σ) (8 * (v 4 - 1) + i))).toInt64 = jN (some (cK (gX σ) (8 * (v 4 - 1) + i))) := rfl
    obtain ⟨M2, c1, c2⟩ := c_write b2 (e := i) hS.2.2.2 (by omega) (by omega) (jN (some (cK (gX σ) (8 * (v 4 - 1) + i))))
    have hc := (cut_jN (some (cK (gX σ) (8 * (v 4 - 1) + i))) (fun a ha => by
      have ha : cK (gX σ) (8 * (v 4 - 1) + i) = a := Option.some.inj ha
      rw [← ha]; exact hk4)).1
    have eT : gT (wT σ (updT (gT σ) 1 (trW (gT σ 1) i (jN (some (cK (gX σ) (8 * (v 4 - 1) + i))))))) 1 = trW (gT σ 1) i (jN (some (cK (gX σ) (8 * (v 4 - 1) + i)))) := by
      show (if 1 = 1 then trW (gT σ 1) i (jN (some (cK (gX σ) (8 * (v 4 - 1) + i)))) else gT σ 1) = _
      exact if_pos rfl
    have g := ih n (i + 1) M2 _ (by omega) (by omega) c2 ⟨hS.1, hS.2.1, hS.2.2.1, by
      unfold RTr
      rw [eT]
      exact hS.2.2.2⟩ hN (fun j hj => by
      rw [eT]
      show (if j = i then cutJ (tS (gT σ 1)) (jN (some (cK (gX σ) (8 * (v 4 - 1) + i)))) else tV (gT σ 1) j) = _
      by_cases e : j = i
      · rw [if_pos e, hS.2.2.2.2.1, hc, e]
        rfl
      · rw [if_neg e]
        exact hT j (by omega))
    rw [f_LW_law_l1239]
    simp (disch := first | assumption | omega) only [z_bdn, z_caln, z_gdn, z_iT, z_iF, z_le_t, z_le_f, z_lt_t, z_lt_f, z_cl, z_inb, z_at, z_lit, nI_ii1, nI_add, z_mr, z_ref0, z_refn, z_eq_f, Bool.not_true, Bool.not_false, b2i_t, b2i_f, e0, er, b1, ej, c1]
    exact g
end
