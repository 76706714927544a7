/-! ## the law's bargain; the shortest runs -/
section
variable {hA : Nat → Int32} {v : Nat → Nat} {M : kx_M} {σ : Sg} {sc : Nat × (Nat → Int32)} {u : St} {Y : Nat}
theorem PZ_Y (h : PZ v u σ) : gY σ = u.2.1 := congrArg (fun q => q.2.1) h.1
theorem PZ_X (h : PZ v u σ) : gX σ = u.1 := congrArg (fun q => q.1) h.1
theorem e_812 {x4 x7 : Int32} {rd : Nat} {K : Int32 → Int32 → Int32 → kx_M → Option (Int32 × kx_M)} (hH : HOK hA v) (hN : RN v Y u) (hY : Y + 8 ≤ 9999)
    (hK : ∀ M' σ', CO hA M' σ' → RI v (Y + 8) σ' → Gd (K x4 (nI (2 ^ v 3)) (nI (rd + 1)) M')) : ∀ (d n q : Nat) (M : kx_M) (σ : Sg), q + d = v 2 → d < n → CO hA M σ → PZ v u σ → Gd (f_LW_law_l812 sc K n x4 (nI (2 ^ v 3)) (nI rd) x7 (nI (v 4)) (nI (totU u.1)) (nI (bestS u.2.1)) (awN u.2.1 (bestS u.2.1) q) (nI q) M) := by
  have h2 := hH.2.2.2.1
  have h3 := hH.2.2.2.2.1
  have hC : dC u.2.1 = v 3 := hN.2.2.2.1
  have hQ : dQ u.2.1 = v 2 := hN.2.2.1
  intro d
  induction d with
  | zero =>
    intro n q M σ hq hn h hZ
    obtain ⟨n, rfl, hn⟩ := z_succ hn
    obtain rfl : q = v 2 := by omega
    have eY := PZ_Y hZ
    have e2 := CO_v hH h (i := 2) (by omega) (by omega)
    obtain ⟨M1, a1, a2⟩ := c_bargainWorth h
    rw [eY, hQ] at a1
    obtain ⟨M2, b1, b2⟩ := c_stables a2
    obtain ⟨M3, c1, c2⟩ := c_stables b2
    obtain ⟨M4, d1, d2⟩ := c_stable c2 (S := 0) (Nat.pow_pos (by omega))
    rw [eY] at b1 c1 d1
    rw [st_0] at d1
    have p1 := stables_pos u.2.1
    have p2 := cnt_le (stB u.2.1) (2 ^ dC u.2.1)
    have p3 := pow_6 (show dC u.2.1 ≤ 6 by omega)
    have z1 : (nI (cnt (stB u.2.1) (2 ^ dC u.2.1)) < nI 1) = False := z_lt_f p1 (by omega)
    have z2 : (nI (2 ^ v 3) < nI (cnt (stB u.2.1) (2 ^ dC u.2.1))) = False := z_lt_f (by rw [← hC]; exact p2) (by rw [← hC]; exact p3)
    have gg := e_892 (sc := sc) (x4 := x4) (x5 := nI (2 ^ v 3)) (x7 := x7) (rd := rd) hH hN hY hK (v 3) FU 0 M4 σ (by omega) (FU_lt (by omega)) d2 hZ
    rw [f_LW_law_l812]
    simp (disch := first | assumption | omega) only [z_bdn, z_caln, z_gdn, z_iT, z_iF, z_le_t, z_le_f, z_lt_t, z_lt_f, z_cl, z_inb, z_at, z_lit, nI_ii1, nI_add, z_mr, z_ref0, z_refn, z_eq_f, Bool.not_true, Bool.not_false, b2i_t, b2i_f, e2, a1, b1, z1, c1, z2, d1]
    exact gg
  | succ d ih =>
    intro n q M σ hq hn h hZ
    obtain ⟨n, rfl, hn⟩ := z_succ hn
    have eY := PZ_Y hZ
    have e2 := CO_v hH h (i := 2) (by omega) (by omega)
    obtain ⟨M1, a1, a2⟩ := c_wins h (q := q) (S := bestS u.2.1) (by rw [eY]; omega) (by rw [eY]; exact best_lt _)
    obtain ⟨M2, b1, b2⟩ := c_wins a2 (q := q) (S := bestS u.2.1) (by rw [eY]; omega) (by rw [eY]; exact best_lt _)
    rw [eY] at a1 b1
    have z1 : (nI 0 ≤ gsN u.2.1 q (bestS u.2.1) (dC u.2.1)) = True := eq_true (best_win u.2.1 (by omega))
    have gg := ih n (q + 1) M2 σ (by omega) (by omega) b2 hZ
    rw [f_LW_law_l812]
    simp (disch := first | assumption | omega) only [z_bdn, z_caln, z_gdn, z_iT, z_iF, z_le_t, z_le_f, z_lt_t, z_lt_f, z_cl, z_inb, z_at, z_lit, nI_ii1, nI_add, z_mr, z_ref0, z_refn, z_eq_f, Bool.not_true, Bool.not_false, b2i_t, b2i_f, e2, a1, z1, b1]
    exact gg
theorem bit1 : ∀ S, S < 8 → ∀ k, k < 3 → (((nI S >>> (nI k &&& nI 31)) &&& nI 1 = nI 1) = (S.testBit k = true)) ∧ (((nI S >>> (nI k &&& nI 31)) &&& nI 1 = nI 0) = (S.testBit k = false)) := by
  have h : ∀ S, S < 8 → ∀ k, k < 3 → ((nI S >>> (nI k &&& nI 31)) &&& nI 1 = nI 1 ↔ S.testBit k = true) ∧ ((nI S >>> (nI k &&& nI 31)) &&& nI 1 = nI 0 ↔ S.testBit k = false) := by decide +kernel
  exact fun S hS k hk => ⟨propext (h S hS k hk).1, propext (h S hS k hk).2⟩
def eqB (y : De) (S k q i : Nat) : Bool := decide (cdF (shF y S) / 4 ^ (lnF (shF y S) - 1 - (q + i)) % 4 = dK y (5 * k + i))
theorem e_724 {x4 x5 x6 x7 x8 x9 : Int32} {S k q : Nat} {K : Int32 → Int32 → Int32 → Int32 → Int32 → Int32 → Int32 → Int32 → Int32 → Int32 → Int32 → kx_M → Option (Int32 × kx_M)} (hS : S < 2 ^ dC u.2.1) (hk : k < dC u.2.1) (hq : q + dL u.2.1 k ≤ lnF (shF u.2.1 S)) (hn30 : lnF (shF u.2.1 S) ≤ 30)
    (hK : ∀ M' σ', CO hA M' σ' → PZ v u σ' → Gd (K x4 x5 x6 x7 x8 x9 (nI S) (nI (lnF (shF u.2.1 S))) (nI k) (b2i (allb (eqB u.2.1 S k q) (dL u.2.1 k))) (nI (q + 1)) M')) : ∀ (d n i : Nat) (M : kx_M) (σ : Sg), i + d = dL u.2.1 k → d < n → CO hA M σ → PZ v u σ → Gd (f_LW_law_l724 sc K n x4 x5 x6 x7 x8 x9 (nI S) (nI (lnF (shF u.2.1 S))) (nI k) (b2i (allb (eqB u.2.1 S k q) i)) (nI q) (nI i) M) := by
  intro d
  induction d with
  | zero =>
    intro n i M σ hi hn h hZ
    obtain ⟨n, rfl, hn⟩ := z_succ hn
    obtain rfl : i = dL u.2.1 k := by omega
    have eY := PZ_Y hZ
    obtain ⟨M1, a1, a2⟩ := c_length h (k := k) (by rw [eY]; exact hk)
    rw [eY] at a1
    have gg := hK M1 σ a2 hZ
    rw [f_LW_law_l724]
    simp (disch := first | assumption | omega) only [z_bdn, z_caln, z_gdn, z_iT, z_iF, z_le_t, z_le_f, z_lt_t, z_lt_f, z_cl, z_inb, z_at, z_lit, nI_ii1, nI_add, z_mr, z_ref0, z_refn, z_eq_f, Bool.not_true, Bool.not_false, b2i_t, b2i_f, a1]
    exact gg
  | succ d ih =>
    intro n i M σ hi hn h hZ
    obtain ⟨n, rfl, hn⟩ := z_succ hn
    have eY := PZ_Y hZ
    obtain ⟨M1, a1, a2⟩ := c_length h (k := k) (by rw [eY]; exact hk)
    rw [eY] at a1
    have hs : allb (eqB u.2.1 S k q) (i + 1) = (allb (eqB u.2.1 S k q) i && eqB u.2.1 S k q i) := rfl
    rw [f_LW_law_l724]
    cases hb : allb (eqB u.2.1 S k q) i with
    | false =>
      have gg := ih n (i + 1) M1 σ (by omega) (by omega) a2 hZ
      rw [hs, hb, Bool.false_and] at gg
      have gg : Gd (f_LW_law_l724 sc K n x4 x5 x6 x7 x8 x9 (nI S) (nI (lnF (shF u.2.1 S))) (nI k) (nI 0) (nI q) (nI (i + 1)) M1) := gg
      simp (disch := first | assumption | omega) only [z_bdn, z_caln, z_gdn, z_iT, z_iF, z_le_t, z_le_f, z_lt_t, z_lt_f, z_cl, z_inb, z_at, z_lit, nI_ii1, nI_add, z_mr, z_ref0, z_refn, z_eq_f, Bool.not_true, Bool.not_false, b2i_t, b2i_f, a1]
      exact gg
    | true =>
      obtain ⟨M2, b1, b2⟩ := c_shortestAt a2 (S := S) (k := q + i) (by rw [eY]; exact hS) (by rw [eY]; omega) (by rw [eY]; omega)
      obtain ⟨M3, c1, c2⟩ := c_kind b2 (k := k) (i := i) (by rw [eY]; exact hk) (by rw [eY]; omega)
      rw [eY] at b1 c1
      have hd4 : dK u.2.1 (5 * k + i) < 4 := by
        have := (cOD h).2.2.2.2.1 k i (by rw [eY]; exact hk) (by rw [eY]; omega)
        rw [eY] at this
        exact this
      have gg := ih n (i + 1) M3 σ (by omega) (by omega) c2 hZ
      rw [hs, hb, Bool.true_and] at gg
      by_cases he : cdF (shF u.2.1 S) / 4 ^ (lnF (shF u.2.1 S) - 1 - (q + i)) % 4 = dK u.2.1 (5 * k + i)
      · have ee : eqB u.2.1 S k q i = true := decide_eq_true he
        rw [ee] at gg
        have gg : Gd (f_LW_law_l724 sc K n x4 x5 x6 x7 x8 x9 (nI S) (nI (lnF (shF u.2.1 S))) (nI k) (nI 1) (nI q) (nI (i + 1)) M3) := gg
        rw [he] at b1
        simp (disch := first | assumption | omega) only [z_bdn, z_caln, z_gdn, z_iT, z_iF, z_le_t, z_le_f, z_lt_t, z_lt_f, z_cl, z_inb, z_at, z_lit, nI_ii1, nI_add, z_mr, z_ref0, z_refn, z_eq_f, Bool.not_true, Bool.not_false, b2i_t, b2i_f, a1, b1, c1]
        exact gg
      · have ee : eqB u.2.1 S k q i = false := decide_eq_false he
        rw [ee] at gg
        have gg : Gd (f_LW_law_l724 sc K n x4 x5 x6 x7 x8 x9 (nI S) (nI (lnF (shF u.2.1 S))) (nI k) (nI 0) (nI q) (nI (i + 1)) M3) := gg
        have zz : (nI (cdF (shF u.2.1 S) / 4 ^ (lnF (shF u.2.1 S) - 1 - (q + i)) % 4) = nI (dK u.2.1 (5 * k + i))) = False := z_eq_f he (by omega) (by omega)
        simp (disch := first | assumption | omega) only [z_bdn, z_caln, z_gdn, z_iT, z_iF, z_le_t, z_le_f, z_lt_t, z_lt_f, z_cl, z_inb, z_at, z_lit, nI_ii1, nI_add, z_mr, z_ref0, z_refn, z_eq_f, Bool.not_true, Bool.not_false, b2i_t, b2i_f, a1, b1, c1, zz]
        exact gg
theorem e_699 {x4 x5 x6 x7 x8 x9 : Int32} {S k p : Nat} {K : Int32 → Int32 → Int32 → Int32 → Int32 → Int32 → Int32 → Int32 → Int32 → kx_M → Option (Int32 × kx_M)} (hS : S < 2 ^ dC u.2.1) (hk : k < dC u.2.1) (hp : p + dL u.2.1 k ≤ lnF (shF u.2.1 S)) (hn30 : lnF (shF u.2.1 S) ≤ 30) (hL5 : dL u.2.1 k ≤ 5) (hall : allb (eqB u.2.1 S k p) (dL u.2.1 k) = true)
    (hK : ∀ M' σ', CO hA M' σ' → PZ v u σ' → Gd (K x4 x5 x6 x7 x8 x9 (nI S) (nI (lnF (shF u.2.1 S))) (nI (k + 1)) M')) : ∀ (d n q : Nat) (b : Bool) (M : kx_M) (σ : Sg), q + d = p + 1 → d < n → (b = false → q ≤ p) → CO hA M σ → PZ v u σ → Gd (f_LW_law_l699 sc K n x4 x5 x6 x7 x8 x9 (nI S) (nI (lnF (shF u.2.1 S))) (nI k) (b2i b) (nI q) M) := by
  intro d
  induction d with
  | zero =>
    intro n q b M σ hq hn hb h hZ
    obtain ⟨n, rfl, hn⟩ := z_succ hn
    have eY := PZ_Y hZ
    obtain ⟨M1, a1, a2⟩ := c_length h (k := k) (by rw [eY]; exact hk)
    rw [eY] at a1
    have gg := hK M1 σ a2 hZ
    cases b with
    | false => have := hb rfl; omega
    | true =>
      rw [f_LW_law_l699]
      by_cases hc : lnF (shF u.2.1 S) < q + dL u.2.1 k
      · simp (disch := first | assumption | omega) only [z_bdn, z_caln, z_gdn, z_iT, z_iF, z_le_t, z_le_f, z_lt_t, z_lt_f, z_cl, z_inb, z_at, z_lit, nI_ii1, nI_add, z_mr, z_ref0, z_refn, z_eq_f, Bool.not_true, Bool.not_false, b2i_t, b2i_f, a1]
        exact gg
      · simp (disch := first | assumption | omega) only [z_bdn, z_caln, z_gdn, z_iT, z_iF, z_le_t, z_le_f, z_lt_t, z_lt_f, z_cl, z_inb, z_at, z_lit, nI_ii1, nI_add, z_mr, z_ref0, z_refn, z_eq_f, Bool.not_true, Bool.not_false, b2i_t, b2i_f, a1]
        exact gg
  | succ d ih =>
    intro n q b M σ hq hn hb h hZ
    obtain ⟨n, rfl, hn⟩ := z_succ hn
    have eY := PZ_Y hZ
    obtain ⟨M1, a1, a2⟩ := c_length h (k := k) (by rw [eY]; exact hk)
    rw [eY] at a1
    rw [f_LW_law_l699]
    cases b with
    | true =>
      have gg := hK M1 σ a2 hZ
      by_cases hc : lnF (shF u.2.1 S) < q + dL u.2.1 k
      · simp (disch := first | assumption | omega) only [z_bdn, z_caln, z_gdn, z_iT, z_iF, z_le_t, z_le_f, z_lt_t, z_lt_f, z_cl, z_inb, z_at, z_lit, nI_ii1, nI_add, z_mr, z_ref0, z_refn, z_eq_f, Bool.not_true, Bool.not_false, b2i_t, b2i_f, a1]
        exact gg
      · simp (disch := first | assumption | omega) only [z_bdn, z_caln, z_gdn, z_iT, z_iF, z_le_t, z_le_f, z_lt_t, z_lt_f, z_cl, z_inb, z_at, z_lit, nI_ii1, nI_add, z_mr, z_ref0, z_refn, z_eq_f, Bool.not_true, Bool.not_false, b2i_t, b2i_f, a1]
        exact gg
    | false =>
      have gg := e_724 (sc := sc) (x4 := x4) (x5 := x5) (x6 := x6) (x7 := x7) (x8 := x8) (x9 := x9) (K := f_LW_law_l699 sc K n) (q := q) hS hk (by omega) hn30 (fun M' σ' g1 g2 => ih n (q + 1) _ M' σ' (by omega) (by omega) (fun hf => by
        rcases Nat.lt_or_ge q p with c | c
        · omega
        · obtain rfl : q = p := by omega
          rw [hall] at hf
          cases hf) g1 g2) (dL u.2.1 k) FU 0 M1 σ (by omega) (FU_lt (by omega)) a2 hZ
      have gg : Gd (f_LW_law_l724 sc (f_LW_law_l699 sc K n) FU x4 x5 x6 x7 x8 x9 (nI S) (nI (lnF (shF u.2.1 S))) (nI k) (nI 1) (nI q) (nI 0) M1) := gg
      simp (disch := first | assumption | omega) only [z_bdn, z_caln, z_gdn, z_iT, z_iF, z_le_t, z_le_f, z_lt_t, z_lt_f, z_cl, z_inb, z_at, z_lit, nI_ii1, nI_add, z_mr, z_ref0, z_refn, z_eq_f, Bool.not_true, Bool.not_false, b2i_t, b2i_f, a1]
      exact gg
theorem e_672 {x4 x5 x6 x7 x8 x9 : Int32} {S : Nat} {K : Int32 → Int32 → Int32 → Int32 → Int32 → Int32 → Int32 → kx_M → Option (Int32 × kx_M)} (hH : HOK hA v) (hC : dC u.2.1 = v 3) (hD : OkD (cW u.1) u.2.1) (hS : S < 2 ^ dC u.2.1) (hn30 : lnF (shF u.2.1 S) ≤ 30)
    (hK : ∀ M' σ', CO hA M' σ' → PZ v u σ' → Gd (K x4 x5 x6 x7 x8 x9 (nI (S + 1)) M')) : ∀ (d n k : Nat) (M : kx_M) (σ : Sg), k + d = v 3 → d < n → CO hA M σ → PZ v u σ → Gd (f_LW_law_l672 sc K n x4 x5 x6 x7 x8 x9 (nI S) (nI (lnF (shF u.2.1 S))) (nI k) M) := by
  have h3 := hH.2.2.2.2.1
  have hS8 : S < 8 := Nat.lt_of_lt_of_le hS (Nat.le_trans (Nat.pow_le_pow_right (by omega) (show dC u.2.1 ≤ 3 by omega)) (by decide))
  intro d
  induction d with
  | zero =>
    intro n k M σ hk hn h hZ
    obtain ⟨n, rfl, hn⟩ := z_succ hn
    have e3 := CO_v hH h (i := 3) (by omega) (by omega)
    have gg := hK M σ h hZ
    rw [f_LW_law_l672]
    simp (disch := first | assumption | omega) only [z_bdn, z_caln, z_gdn, z_iT, z_iF, z_le_t, z_le_f, z_lt_t, z_lt_f, z_cl, z_inb, z_at, z_lit, nI_ii1, nI_add, z_mr, z_ref0, z_refn, z_eq_f, Bool.not_true, Bool.not_false, b2i_t, b2i_f, e3]
    exact gg
  | succ d ih =>
    intro n k M σ hk hn h hZ
    obtain ⟨n, rfl, hn⟩ := z_succ hn
    have e3 := CO_v hH h (i := 3) (by omega) (by omega)
    have zb := (bit1 S hS8 k (by omega)).2
    rw [f_LW_law_l672]
    cases hb : S.testBit k with
    | false =>
      have gg := ih n (k + 1) M σ (by omega) (by omega) h hZ
      have zb' : ((nI S >>> (nI k &&& nI 31)) &&& nI 1 = nI 0) = True := by rw [zb]; exact eq_true hb
      simp (disch := first | assumption | omega) only [z_bdn, z_caln, z_gdn, z_iT, z_iF, z_le_t, z_le_f, z_lt_t, z_lt_f, z_cl, z_inb, z_at, z_lit, nI_ii1, nI_add, z_mr, z_ref0, z_refn, z_eq_f, Bool.not_true, Bool.not_false, b2i_t, b2i_f, e3, zb']
      exact gg
    | true =>
      obtain ⟨s1, s2⟩ := short_ok (S := S) hD
      obtain ⟨p1, p, p2, p3⟩ := s2 k (by omega) hb
      have hall : allb (eqB u.2.1 S k p) (dL u.2.1 k) = true := allb_iff.mpr (fun i hi => decide_eq_true (p3 i hi))
      have gg := e_699 (sc := sc) (x4 := x4) (x5 := x5) (x6 := x6) (x7 := x7) (x8 := x8) (x9 := x9) (K := f_LW_law_l672 sc K n) hS (show k < dC u.2.1 by omega) p2 hn30 (hD.2.2.2.1 k (by omega)).2.1 hall (fun M' σ' g1 g2 => ih n (k + 1) M' σ' (by omega) (by omega) g1 g2) (p + 1) FU 0 false M σ (by omega) (FU_lt (by omega)) (fun _ => Nat.zero_le _) h hZ
      have gg : Gd (f_LW_law_l699 sc (f_LW_law_l672 sc K n) FU x4 x5 x6 x7 x8 x9 (nI S) (nI (lnF (shF u.2.1 S))) (nI k) (nI 0) (nI 0) M) := gg
      have zb' : ((nI S >>> (nI k &&& nI 31)) &&& nI 1 = nI 0) = False := by rw [zb, hb]; exact eq_false (by decide)
      simp (disch := first | assumption | omega) only [z_bdn, z_caln, z_gdn, z_iT, z_iF, z_le_t, z_le_f, z_lt_t, z_lt_f, z_cl, z_inb, z_at, z_lit, nI_ii1, nI_add, z_mr, z_ref0, z_refn, z_eq_f, Bool.not_true, Bool.not_false, b2i_t, b2i_f, e3, zb']
      exact gg
theorem e_609 {x4 x5 x6 x7 x8 x9 : Int32} {S : Nat} {K : Int32 → Int32 → Int32 → Int32 → Int32 → Int32 → Int32 → kx_M → Option (Int32 × kx_M)} (hH : HOK hA v) (hC : dC u.2.1 = v 3) (hD : OkD (cW u.1) u.2.1) (hS : S < 2 ^ dC u.2.1)
    (hK : ∀ M' σ', CO hA M' σ' → PZ v u σ' → Gd (K x4 x5 x6 x7 x8 x9 (nI (S + 1)) M')) : ∀ (d n k : Nat) (M : kx_M) (σ : Sg), k + d = v 3 → d < n → CO hA M σ → PZ v u σ → Gd (f_LW_law_l609 sc K n x4 x5 x6 x7 x8 x9 (nI S) (nI (lnF (shF u.2.1 S))) (nI (szS (fun k => S.testBit k) (dL u.2.1) k)) (nI k) M) := by
  have h3 := hH.2.2.2.2.1
  have hS8 : S < 8 := Nat.lt_of_lt_of_le hS (Nat.le_trans (Nat.pow_le_pow_right (by omega) (show dC u.2.1 ≤ 3 by omega)) (by decide))
  have hb15 : ∀ k, k ≤ v 3 → szS (fun k => S.testBit k) (dL u.2.1) k ≤ 5 * k := fun k hk => sumN_le (fun i hi => by
    have := (hD.2.2.2.1 i (by omega)).2.1
    split <;> omega)
  obtain ⟨s1, s2⟩ := short_ok (S := S) hD
  rw [hC] at s1
  have hn30 : lnF (shF u.2.1 S) ≤ 30 := by have := hb15 (v 3) (Nat.le_refl _); omega
  intro d
  induction d with
  | zero =>
    intro n k M σ hk hn h hZ
    obtain ⟨n, rfl, hn⟩ := z_succ hn
    obtain rfl : k = v 3 := by omega
    have e3 := CO_v hH h (i := 3) (by omega) (by omega)
    have hb := hb15 (v 3) (Nat.le_refl _)
    have gg := e_672 (sc := sc) (x4 := x4) (x5 := x5) (x6 := x6) (x7 := x7) (x8 := x8) (x9 := x9) hH hC hD hS hn30 hK (v 3) FU 0 M σ (by omega) (FU_lt (by omega)) h hZ
    have z1 : (nI (lnF (shF u.2.1 S)) < nI 0) = False := z_lt_f (by omega) (by omega)
    have z2 : (nI (szS (fun k => S.testBit k) (dL u.2.1) (v 3)) < nI (lnF (shF u.2.1 S))) = False := z_lt_f s1 (by omega)
    rw [f_LW_law_l609]
    by_cases h0 : S = 0
    · have z3 : (nI S ≤ nI 0) = True := z_le_t (by omega) (by omega)
      simp (disch := first | assumption | omega) only [z_bdn, z_caln, z_gdn, z_iT, z_iF, z_le_t, z_le_f, z_lt_t, z_lt_f, z_cl, z_inb, z_at, z_lit, nI_ii1, nI_add, z_mr, z_ref0, z_refn, z_eq_f, Bool.not_true, Bool.not_false, b2i_t, b2i_f, e3, z1, z2, z3]
      exact gg
    · have z3 : (nI S ≤ nI 0) = False := z_le_f (by omega) (by omega)
      obtain ⟨q, q1, q2⟩ := some_q (dC u.2.1) hD.2.1 S hS h0
      have q3 := (s2 q q1 q2).1
      have q4 := (hD.2.2.2.1 q q1).1
      have z4 : (nI (lnF (shF u.2.1 S)) = nI 0) = False := z_eq_f (by omega) (by omega) (by omega)
      simp (disch := first | assumption | omega) only [z_bdn, z_caln, z_gdn, z_iT, z_iF, z_le_t, z_le_f, z_lt_t, z_lt_f, z_cl, z_inb, z_at, z_lit, nI_ii1, nI_add, z_mr, z_ref0, z_refn, z_eq_f, Bool.not_true, Bool.not_false, b2i_t, b2i_f, e3, z1, z2, z3, z4]
      exact gg
  | succ d ih =>
    intro n k M σ hk hn h hZ
    obtain ⟨n, rfl, hn⟩ := z_succ hn
    have e3 := CO_v hH h (i := 3) (by omega) (by omega)
    have eY := PZ_Y hZ
    have zb := (bit1 S hS8 k (by omega)).1
    have hs : szS (fun k => S.testBit k) (dL u.2.1) (k + 1) = szS (fun k => S.testBit k) (dL u.2.1) k + (if S.testBit k = true then dL u.2.1 k else 0) := rfl
    rw [f_LW_law_l609]
    cases hb : S.testBit k with
    | false =>
      have gg := ih n (k + 1) M σ (by omega) (by omega) h hZ
      rw [hs, hb, if_neg (by decide), Nat.add_zero] at gg
      have zb' : ((nI S >>> (nI k &&& nI 31)) &&& nI 1 = nI 1) = False := by rw [zb, hb]; exact eq_false (by decide)
      simp (disch := first | assumption | omega) only [z_bdn, z_caln, z_gdn, z_iT, z_iF, z_le_t, z_le_f, z_lt_t, z_lt_f, z_cl, z_inb, z_at, z_lit, nI_ii1, nI_add, z_mr, z_ref0, z_refn, z_eq_f, Bool.not_true, Bool.not_false, b2i_t, b2i_f, e3, zb']
      exact gg
    | true =>
      obtain ⟨M1, a1, a2⟩ := c_length h (k := k) (by rw [eY]; omega)
      rw [eY] at a1
      have gg := ih n (k + 1) M1 σ (by omega) (by omega) a2 hZ
      rw [hs, hb, if_pos rfl] at gg
      have zb' : ((nI S >>> (nI k &&& nI 31)) &&& nI 1 = nI 1) = True := by rw [zb, hb]; exact eq_true rfl
      simp (disch := first | assumption | omega) only [z_bdn, z_caln, z_gdn, z_iT, z_iF, z_le_t, z_le_f, z_lt_t, z_lt_f, z_cl, z_inb, z_at, z_lit, nI_ii1, nI_add, z_mr, z_ref0, z_refn, z_eq_f, Bool.not_true, Bool.not_false, b2i_t, b2i_f, e3, zb', a1]
      exact gg
theorem e_588 {x4 x7 : Int32} {rd : Nat} {K : Int32 → Int32 → Int32 → kx_M → Option (Int32 × kx_M)} (hH : HOK hA v) (hN : RN v Y u) (hD : OkD (cW u.1) u.2.1) (hY : Y + 8 ≤ 9999)
    (hK : ∀ M' σ', CO hA M' σ' → RI v (Y + 8) σ' → Gd (K x4 (nI (2 ^ v 3)) (nI (rd + 1)) M')) : ∀ (d n S : Nat) (M : kx_M) (σ : Sg), S + d = 2 ^ v 3 → d < n → CO hA M σ → PZ v u σ → Gd (f_LW_law_l588 sc K n x4 (nI (2 ^ v 3)) (nI rd) x7 (nI (v 4)) (nI (totU u.1)) (nI S) M) := by
  have h3 := hH.2.2.2.2.1
  have hC : dC u.2.1 = v 3 := hN.2.2.2.1
  have hp : 2 ^ v 3 ≤ 8 := Nat.le_trans (Nat.pow_le_pow_right (by omega) h3) (by decide)
  intro d
  induction d with
  | zero =>
    intro n S M σ hS hn h hZ
    obtain ⟨n, rfl, hn⟩ := z_succ hn
    obtain ⟨M1, a1, a2⟩ := c_bargain h
    rw [PZ_Y hZ] at a1
    have gg := e_812 (sc := sc) (x4 := x4) (x7 := x7) (rd := rd) hH hN hY hK (v 2) FU 0 M1 σ (by omega) (FU_lt (by have := hH.2.2.2.1; omega)) a2 hZ
    have gg : Gd (f_LW_law_l812 sc K FU x4 (nI (2 ^ v 3)) (nI rd) x7 (nI (v 4)) (nI (totU u.1)) (nI (bestS u.2.1)) (nI 0) (nI 0) M1) := gg
    have z1 : (nI (2 ^ v 3) ≤ nI S) = True := z_le_t (by omega) (by omega)
    rw [f_LW_law_l588]
    simp (disch := first | assumption | omega) only [z_bdn, z_caln, z_gdn, z_iT, z_iF, z_le_t, z_le_f, z_lt_t, z_lt_f, z_cl, z_inb, z_at, z_lit, nI_ii1, nI_add, z_mr, z_ref0, z_refn, z_eq_f, Bool.not_true, Bool.not_false, b2i_t, b2i_f, z1, a1]
    exact gg
  | succ d ih =>
    intro n S M σ hS hn h hZ
    obtain ⟨n, rfl, hn⟩ := z_succ hn
    have hS2 : S < 2 ^ dC u.2.1 := by rw [hC]; omega
    obtain ⟨M1, a1, a2⟩ := c_shortest h (S := S) (by rw [PZ_Y hZ]; exact hS2)
    rw [PZ_Y hZ] at a1
    have gg := e_609 (sc := sc) (x4 := x4) (x5 := nI (2 ^ v 3)) (x6 := nI rd) (x7 := x7) (x8 := nI (v 4)) (x9 := nI (totU u.1)) (K := f_LW_law_l588 sc K n) hH hC hD hS2 (fun M' σ' g1 g2 => ih n (S + 1) M' σ' (by omega) (by omega) g1 g2) (v 3) FU 0 M1 σ (by omega) (FU_lt (by omega)) a2 hZ
    have gg : Gd (f_LW_law_l609 sc (f_LW_law_l588 sc K n) FU x4 (nI (2 ^ v 3)) (nI rd) x7 (nI (v 4)) (nI (totU u.1)) (nI S) (nI (lnF (shF u.2.1 S))) (nI 0) (nI 0) M1) := gg
    have z1 : (nI (2 ^ v 3) ≤ nI S) = False := z_le_f (by omega) (by omega)
    rw [f_LW_law_l588]
    simp (disch := first | assumption | omega) only [z_bdn, z_caln, z_gdn, z_iT, z_iF, z_le_t, z_le_f, z_lt_t, z_lt_f, z_cl, z_inb, z_at, z_lit, nI_ii1, nI_add, z_mr, z_ref0, z_refn, z_eq_f, Bool.not_true, Bool.not_false, b2i_t, b2i_f, z1, a1]
    exact gg
end
