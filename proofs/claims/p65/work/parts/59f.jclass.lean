theorem z_cge (a b : Int64) : (nI 0 ≤ lg_cmp a b) = (b ≤ a) := by
  refine propext ?_
  rw [← Int32.not_lt, ← Int64.not_lt, z_clt]
theorem bJ_le {a b : Nat} (ha : a < 4611686018427387904) (hb : b < 4611686018427387904) : (bJ a ≤ bJ b) = (a ≤ b) := by
  refine propext ?_
  rw [Int64.le_iff_toInt_le, bJ_toInt (by omega), bJ_toInt (by omega)]
  omega
theorem nI_or (a b : Nat) : nI a ||| nI b = nI (a ||| b) := by
  refine b_ext (fun i hi => ?_)
  rw [bt_nI _ i hi, Nat.testBit_or, ← bt_nI a i hi, ← bt_nI b i hi]
  unfold bt
  rw [Int32.toBitVec_or, BitVec.getLsbD_or]
theorem sub_neg : ∀ a, a < 6 → ∀ b, b < 6 → a < b → ¬ nI 0 < nI a - nI b ∧ ¬ nI a - nI b = nI 0 := by decide +kernel
def wC5 (y : De) (k : Nat) : Nat := rnN y k (dL y k)
section
variable {M M' : kx_M} {σ : Sg} {y : De}
theorem q_jlow {j : Nat} (hj : j < 6) (M : kx_M) : f_Joiner_lowest (nI j) M = some (jJ (4 ^ j - 1), M) := by
  have e := jJ_low j hj
  rw [f_Joiner_lowest]
  simp (disch := first | assumption | omega) only [z_bdn, z_caln, z_gdn, z_iT, z_iF, z_le_t, z_le_f, z_lt_t, z_lt_f, z_cl, z_inb, z_at, z_lit, nI_ii1, nI_add, z_mr, z_ref0, z_refn, z_eq_f, Bool.not_true, Bool.not_false, b2i_t, b2i_f, e]
theorem wC5_lt {W k : Nat} (hP : OkD W y) (hk : k < dC y) : wC5 y k < 4 ^ dL y k ∧ wC5 y k < 1024 := by
  have h1 := rnN_lt hP hk (dL y k) (Nat.le_refl _)
  have h2 := pw5 (hP.2.2.2.1 k hk).2.1
  unfold wC5
  exact ⟨h1, by omega⟩
theorem q_st_l80 {d z c i r ci sh : Nat} {p1 p2 : Int32} {K : Int32 → Int64 → Int32 → kx_M → Option (Int32 × kx_M)} (hz : z ≤ 5) (hc : c < 1024) (hr : r ≤ 5) (hci : ci < 1024) : ∀ (m n sh : Nat), sh + m = r + 1 → m < n → ((∃ t, sh ≤ t ∧ t ≤ r ∧ ci / 4 ^ t % 4 ^ z = c) → f_Joiner_standsInOther_l80 d p1 p2 K n (nI z) (jJ c) (nI i) (nI r) (nI 1) (jJ ci) (nI sh) M = some (nI 1, M)) ∧ ((∀ t, sh ≤ t → t ≤ r → ¬ ci / 4 ^ t % 4 ^ z = c) → f_Joiner_standsInOther_l80 d p1 p2 K n (nI z) (jJ c) (nI i) (nI r) (nI 1) (jJ ci) (nI sh) M = K (nI z) (jJ c) (nI (i + 1)) M) := by
  intro m
  induction m with
  | zero =>
    intro n sh hm hn
    obtain ⟨n, rfl, hn⟩ := z_succ hn
    refine ⟨fun ⟨t, h1, h2, h3⟩ => absurd h1 (by omega), fun h => ?_⟩
    rw [f_Joiner_standsInOther_l80]
    simp (disch := first | assumption | omega) only [z_bdn, z_caln, z_gdn, z_iT, z_iF, z_le_t, z_le_f, z_lt_t, z_lt_f, z_cl, z_inb, z_at, z_lit, nI_ii1, nI_add, z_mr, z_ref0, z_refn, z_eq_f, Bool.not_true, Bool.not_false, b2i_t, b2i_f]
  | succ m ih =>
    intro n sh hm hn
    obtain ⟨n, rfl, hn⟩ := z_succ hn
    obtain ⟨g1, g2⟩ := ih n (sh + 1) (by omega) (by omega)
    have e1 := jJ_shr sh (by omega) ci hci
    have h1 : ci / 4 ^ sh ≤ ci := Nat.div_le_self _ _
    have h2 : ci / 4 ^ sh % 4 ^ z ≤ ci / 4 ^ sh := Nat.mod_le _ _
    have e2 := jJ_and z (by omega) (ci / 4 ^ sh) (by omega)
    have e3 : (jJ (ci / 4 ^ sh % 4 ^ z) = jJ c) = (ci / 4 ^ sh % 4 ^ z = c) := jJ_eq (by omega) hc
    have e4 := q_jlow (show z < 6 by omega) M
    rw [f_Joiner_standsInOther_l80]
    by_cases hh : ci / 4 ^ sh % 4 ^ z = c
    · refine ⟨fun _ => ?_, fun h => absurd hh (h sh (by omega) (by omega))⟩
      rw [hh] at e3 e2
      simp (disch := first | assumption | omega) only [z_bdn, z_caln, z_gdn, z_iT, z_iF, z_le_t, z_le_f, z_lt_t, z_lt_f, z_cl, z_inb, z_at, z_lit, nI_ii1, nI_add, z_mr, z_ref0, z_refn, z_eq_f, Bool.not_true, Bool.not_false, b2i_t, b2i_f, e4, e1, e2, lg_eq]
    · rw [eq_false hh] at e3
      refine ⟨fun ⟨t, t1, t2, t3⟩ => ?_, fun h => ?_⟩
      · have g := g1 ⟨t, by
          have : t ≠ sh := fun e => hh (by rw [← e]; exact t3)
          omega, t2, t3⟩
        simp (disch := first | assumption | omega) only [z_bdn, z_caln, z_gdn, z_iT, z_iF, z_le_t, z_le_f, z_lt_t, z_lt_f, z_cl, z_inb, z_at, z_lit, nI_ii1, nI_add, z_mr, z_ref0, z_refn, z_eq_f, Bool.not_true, Bool.not_false, b2i_t, b2i_f, e4, e1, e2, lg_eq, e3]
        exact g
      · have g := g2 (fun t t1 t2 => h t (by omega) t2)
        simp (disch := first | assumption | omega) only [z_bdn, z_caln, z_gdn, z_iT, z_iF, z_le_t, z_le_f, z_lt_t, z_lt_f, z_cl, z_inb, z_at, z_lit, nI_ii1, nI_add, z_mr, z_ref0, z_refn, z_eq_f, Bool.not_true, Bool.not_false, b2i_t, b2i_f, e4, e1, e2, lg_eq, e3]
        exact g
theorem witB_t {k i : Nat} (hz : dL y i ≤ 5) : witB (dL y) (wC5 y) k i = true ↔ ((dL y k < dL y i ∨ (dL y k = dL y i ∧ i < k)) ∧ ∃ t, 0 ≤ t ∧ t ≤ dL y i - dL y k ∧ wC5 y i / 4 ^ t % 4 ^ dL y k = wC5 y k) := by
  unfold witB
  rw [Bool.and_eq_true, Bool.or_eq_true, Bool.and_eq_true, decide_eq_true_iff, decide_eq_true_iff, decide_eq_true_iff]
  refine and_congr Iff.rfl ⟨fun h => ?_, fun ⟨t, _, t2, t3⟩ => ?_⟩
  · obtain ⟨t, t1, t2⟩ := anyb_ex h
    rw [Bool.and_eq_true] at t2
    exact ⟨t, by omega, of_decide_eq_true t2.1, of_decide_eq_true t2.2⟩
  · exact anyb_t (i := t) (by omega) (by rw [decide_eq_true t2, decide_eq_true t3]; rfl)
theorem q_st_l17 {d W k S : Nat} (hP : OkD W y) (hD : CD M d y) (hk : k < dC y) : ∀ (m n i : Nat), i + m = dC y → m < n → ((∃ j, i ≤ j ∧ j < dC y ∧ S.testBit j = true ∧ witB (dL y) (wC5 y) k j = true) → f_Joiner_standsInOther_l17 d (nI S) (nI k) n (nI (dL y k)) (jJ (wC5 y k)) (nI i) M = some (nI 1, M)) ∧ ((∀ j, i ≤ j → j < dC y → S.testBit j = true → witB (dL y) (wC5 y) k j = false) → f_Joiner_standsInOther_l17 d (nI S) (nI k) n (nI (dL y k)) (jJ (wC5 y k)) (nI i) M = some (nI 0, M)) := by
  have w2 := hP.2.1
  have e8 := hD.2.1
  have hlk := hP.2.2.2.1 k hk
  intro m
  induction m with
  | zero =>
    intro n i hm hn
    obtain ⟨n, rfl, hn⟩ := z_succ hn
    refine ⟨fun ⟨j, h1, h2, _⟩ => absurd h1 (by omega), fun _ => ?_⟩
    rw [f_Joiner_standsInOther_l17]
    simp (disch := first | assumption | omega) only [z_bdn, z_caln, z_gdn, z_iT, z_iF, z_le_t, z_le_f, z_lt_t, z_lt_f, z_cl, z_inb, z_at, z_lit, nI_ii1, nI_add, z_mr, z_ref0, z_refn, z_eq_f, Bool.not_true, Bool.not_false, b2i_t, b2i_f, e8]
  | succ m ih =>
    intro n i hm hn
    obtain ⟨n, rfl, hn⟩ := z_succ hn
    obtain ⟨g1, g2⟩ := ih n (i + 1) (by omega) (by omega)
    have hli := hP.2.2.2.1 i (by omega)
    have eL := (hD.2.2.2.1 i (by omega)).2
    have eI : f_KT_inSet (nI S) (nI i) M = some (b2i (S.testBit i), M) := by
      rw [z_inSet (by omega), bt_nI S i (by omega)]
    have eR := q_runOf hP hD (show i < dC y by omega)
    have hci := (wC5_lt hP (show i < dC y by omega)).2
    have hck := (wC5_lt hP hk).2
    have hw := witB_t (y := y) (k := k) (i := i) hli.2.1
    have z0 : ∀ (n : Nat) (K : Int32 → Int64 → Int32 → kx_M → Option (Int32 × kx_M)) (v : Int32), f_Joiner_standsInOther_l80 d (nI S) (nI k) K (n + 1) (nI (dL y k)) (jJ (wC5 y k)) (nI i) v (nI 0) (jJ (rnN y i (dL y i))) (nI 0) M = K (nI (dL y k)) (jJ (wC5 y k)) (nI (i + 1)) M := by
      intro n K v
      rw [f_Joiner_standsInOther_l80]
      simp (disch := first | assumption | omega) only [z_bdn, z_caln, z_gdn, z_iT, z_iF, z_le_t, z_le_f, z_lt_t, z_lt_f, z_cl, z_inb, z_at, z_lit, nI_ii1, nI_add, z_mr, z_ref0, z_refn, z_eq_f, Bool.not_true, Bool.not_false, b2i_t, b2i_f]
    have hFU : FU = 999999 + 1 := rfl
    rw [f_Joiner_standsInOther_l17]
    cases hb : S.testBit i with
    | false =>
      rw [hb] at eI
      have gg := z0 999999 (f_Joiner_standsInOther_l17 d (nI S) (nI k) n) (nI (dL y i) - nI (dL y k))
      refine ⟨fun ⟨j, j1, j2, j3, j4⟩ => ?_, fun h => ?_⟩
      · have g := g1 ⟨j, by
          have : j ≠ i := fun e => by rw [e, hb] at j3; cases j3
          omega, j2, j3, j4⟩
        simp (disch := first | assumption | omega) only [z_bdn, z_caln, z_gdn, z_iT, z_iF, z_le_t, z_le_f, z_lt_t, z_lt_f, z_cl, z_inb, z_at, z_lit, nI_ii1, nI_add, z_mr, z_ref0, z_refn, z_eq_f, Bool.not_true, Bool.not_false, b2i_t, b2i_f, e8, eL, eI, f_Joiner_standsInOther_l66, eR]
        exact gg.trans g
      · have g := g2 (fun j j1 j2 j3 => h j (by omega) j2 j3)
        simp (disch := first | assumption | omega) only [z_bdn, z_caln, z_gdn, z_iT, z_iF, z_le_t, z_le_f, z_lt_t, z_lt_f, z_cl, z_inb, z_at, z_lit, nI_ii1, nI_add, z_mr, z_ref0, z_refn, z_eq_f, Bool.not_true, Bool.not_false, b2i_t, b2i_f, e8, eL, eI, f_Joiner_standsInOther_l66, eR]
        exact gg.trans g
    | true =>
      rw [hb] at eI
      have hit : dL y k ≤ dL y i → (dL y k < dL y i ∨ (dL y k = dL y i ∧ i < k)) → ((∃ j, i ≤ j ∧ j < dC y ∧ S.testBit j = true ∧ witB (dL y) (wC5 y) k j = true) → f_Joiner_standsInOther_l80 d (nI S) (nI k) (f_Joiner_standsInOther_l17 d (nI S) (nI k) n) FU (nI (dL y k)) (jJ (wC5 y k)) (nI i) (nI (dL y i - dL y k)) (nI 1) (jJ (wC5 y i)) (nI 0) M = some (nI 1, M)) ∧ ((∀ j, i ≤ j → j < dC y → S.testBit j = true → witB (dL y) (wC5 y) k j = false) → f_Joiner_standsInOther_l80 d (nI S) (nI k) (f_Joiner_standsInOther_l17 d (nI S) (nI k) n) FU (nI (dL y k)) (jJ (wC5 y k)) (nI i) (nI (dL y i - dL y k)) (nI 1) (jJ (wC5 y i)) (nI 0) M = some (nI 0, M)) := by
        intro hle hor
        obtain ⟨k1, k2⟩ := q_st_l80 (M := M) (d := d) (z := dL y k) (c := wC5 y k) (i := i) (r := dL y i - dL y k) (ci := wC5 y i) (p1 := nI S) (p2 := nI k) (K := f_Joiner_standsInOther_l17 d (nI S) (nI k) n) (sh := 0) hlk.2.1 hck (by omega) hci (dL y i - dL y k + 1) FU 0 (by omega) (FU_lt (by omega))
        by_cases hx : ∃ t, 0 ≤ t ∧ t ≤ dL y i - dL y k ∧ wC5 y i / 4 ^ t % 4 ^ dL y k = wC5 y k
        · refine ⟨fun _ => k1 hx, fun h => ?_⟩
          have := h i (Nat.le_refl _) (by omega) hb
          rw [hw.mpr ⟨hor, hx⟩] at this
          cases this
        · have hk2 := k2 (fun t t1 t2 t3 => hx ⟨t, t1, t2, t3⟩)
          refine ⟨fun ⟨j, j1, j2, j3, j4⟩ => ?_, fun h => ?_⟩
          · refine hk2.trans (g1 ⟨j, ?_, j2, j3, j4⟩)
            have : j ≠ i := fun e => by rw [e] at j4; exact hx (hw.mp j4).2
            omega
          · exact hk2.trans (g2 (fun j j1 j2 j3 => h j (by omega) j2 j3))
      have hno : ¬ (dL y k < dL y i ∨ (dL y k = dL y i ∧ i < k)) → ∀ v, ((∃ j, i ≤ j ∧ j < dC y ∧ S.testBit j = true ∧ witB (dL y) (wC5 y) k j = true) → f_Joiner_standsInOther_l80 d (nI S) (nI k) (f_Joiner_standsInOther_l17 d (nI S) (nI k) n) FU (nI (dL y k)) (jJ (wC5 y k)) (nI i) v (nI 0) (jJ (wC5 y i)) (nI 0) M = some (nI 1, M)) ∧ ((∀ j, i ≤ j → j < dC y → S.testBit j = true → witB (dL y) (wC5 y) k j = false) → f_Joiner_standsInOther_l80 d (nI S) (nI k) (f_Joiner_standsInOther_l17 d (nI S) (nI k) n) FU (nI (dL y k)) (jJ (wC5 y k)) (nI i) v (nI 0) (jJ (wC5 y i)) (nI 0) M = some (nI 0, M)) := by
        intro hor v
        have gg := z0 999999 (f_Joiner_standsInOther_l17 d (nI S) (nI k) n) v
        refine ⟨fun ⟨j, j1, j2, j3, j4⟩ => ?_, fun h => ?_⟩
        · refine Eq.trans gg (g1 ⟨j, ?_, j2, j3, j4⟩)
          have : j ≠ i := fun e => by rw [e] at j4; exact hor (hw.mp j4).1
          omega
        · exact Eq.trans gg (g2 (fun j j1 j2 j3 => h j (by omega) j2 j3))
      rcases Nat.lt_trichotomy (dL y k) (dL y i) with hc | hc | hc
      · obtain ⟨u1, u2⟩ := hit (by omega) (Or.inl hc)
        refine ⟨fun h => ?_, fun h => ?_⟩
        · simp (disch := first | assumption | omega) only [z_bdn, z_caln, z_gdn, z_iT, z_iF, z_le_t, z_le_f, z_lt_t, z_lt_f, z_cl, z_inb, z_at, z_lit, nI_ii1, nI_add, z_mr, z_ref0, z_refn, z_eq_f, Bool.not_true, Bool.not_false, b2i_t, b2i_f, e8, eL, eI, f_Joiner_standsInOther_l62, eR, z_sub]
          exact u1 h
        · simp (disch := first | assumption | omega) only [z_bdn, z_caln, z_gdn, z_iT, z_iF, z_le_t, z_le_f, z_lt_t, z_lt_f, z_cl, z_inb, z_at, z_lit, nI_ii1, nI_add, z_mr, z_ref0, z_refn, z_eq_f, Bool.not_true, Bool.not_false, b2i_t, b2i_f, e8, eL, eI, f_Joiner_standsInOther_l62, eR, z_sub]
          exact u2 h
      · by_cases hik : i < k
        · obtain ⟨u1, u2⟩ := hit (by omega) (Or.inr ⟨hc, hik⟩)
          rw [show dL y i - dL y k = 0 by omega] at u1 u2
          refine ⟨fun h => ?_, fun h => ?_⟩
          · simp (disch := first | assumption | omega) only [z_bdn, z_caln, z_gdn, z_iT, z_iF, z_le_t, z_le_f, z_lt_t, z_lt_f, z_cl, z_inb, z_at, z_lit, nI_ii1, nI_add, z_mr, z_ref0, z_refn, z_eq_f, Bool.not_true, Bool.not_false, b2i_t, b2i_f, e8, eL, eI, f_Joiner_standsInOther_l62, eR, z_sub, hc, Nat.sub_self]
            rw [hc] at u1
            exact u1 h
          · simp (disch := first | assumption | omega) only [z_bdn, z_caln, z_gdn, z_iT, z_iF, z_le_t, z_le_f, z_lt_t, z_lt_f, z_cl, z_inb, z_at, z_lit, nI_ii1, nI_add, z_mr, z_ref0, z_refn, z_eq_f, Bool.not_true, Bool.not_false, b2i_t, b2i_f, e8, eL, eI, f_Joiner_standsInOther_l62, eR, z_sub, hc, Nat.sub_self]
            rw [hc] at u2
            exact u2 h
        · obtain ⟨u1, u2⟩ := hno (by omega) (nI 0)
          refine ⟨fun h => ?_, fun h => ?_⟩
          · simp (disch := first | assumption | omega) only [z_bdn, z_caln, z_gdn, z_iT, z_iF, z_le_t, z_le_f, z_lt_t, z_lt_f, z_cl, z_inb, z_at, z_lit, nI_ii1, nI_add, z_mr, z_ref0, z_refn, z_eq_f, Bool.not_true, Bool.not_false, b2i_t, b2i_f, e8, eL, eI, f_Joiner_standsInOther_l66, eR, z_sub, hc, Nat.sub_self]
            rw [hc] at u1
            exact u1 h
          · simp (disch := first | assumption | omega) only [z_bdn, z_caln, z_gdn, z_iT, z_iF, z_le_t, z_le_f, z_lt_t, z_lt_f, z_cl, z_inb, z_at, z_lit, nI_ii1, nI_add, z_mr, z_ref0, z_refn, z_eq_f, Bool.not_true, Bool.not_false, b2i_t, b2i_f, e8, eL, eI, f_Joiner_standsInOther_l66, eR, z_sub, hc, Nat.sub_self]
            rw [hc] at u2
            exact u2 h
      · obtain ⟨u1, u2⟩ := hno (by omega) (nI (dL y i) - nI (dL y k))
        obtain ⟨v1, v2⟩ := sub_neg (dL y i) (by omega) (dL y k) (by omega) hc
        refine ⟨fun h => ?_, fun h => ?_⟩
        · simp (disch := first | assumption | omega) only [z_bdn, z_caln, z_gdn, z_iT, z_iF, z_le_t, z_le_f, z_lt_t, z_lt_f, z_cl, z_inb, z_at, z_lit, nI_ii1, nI_add, z_mr, z_ref0, z_refn, z_eq_f, Bool.not_true, Bool.not_false, b2i_t, b2i_f, e8, eL, eI, f_Joiner_standsInOther_l66, eR, v1, v2]
          exact u1 h
        · simp (disch := first | assumption | omega) only [z_bdn, z_caln, z_gdn, z_iT, z_iF, z_le_t, z_le_f, z_lt_t, z_lt_f, z_cl, z_inb, z_at, z_lit, nI_ii1, nI_add, z_mr, z_ref0, z_refn, z_eq_f, Bool.not_true, Bool.not_false, b2i_t, b2i_f, e8, eL, eI, f_Joiner_standsInOther_l66, eR, v1, v2]
          exact u2 h
theorem q_stands {d W k S : Nat} (hP : OkD W y) (hD : CD M d y) (hk : k < dC y) : f_Joiner_standsInOther d (nI S) (nI k) M = some (b2i (anyb (fun i => S.testBit i && witB (dL y) (wC5 y) k i) (dC y)), M) := by
  have w2 := hP.2.1
  have hlk := hP.2.2.2.1 k hk
  have eL := (hD.2.2.2.1 k hk).2
  have eR := q_runOf hP hD hk
  obtain ⟨g1, g2⟩ := q_st_l17 (S := S) hP hD hk (dC y) FU 0 (by omega) (FU_lt (by omega))
  rw [f_Joiner_standsInOther]
  cases hx : anyb (fun i => S.testBit i && witB (dL y) (wC5 y) k i) (dC y) with
  | true =>
    obtain ⟨j, j1, j2⟩ := anyb_ex hx
    rw [Bool.and_eq_true] at j2
    have g := g1 ⟨j, by omega, j1, j2.1, j2.2⟩
    simp (disch := first | assumption | omega) only [z_bdn, z_caln, z_gdn, z_iT, z_iF, z_le_t, z_le_f, z_lt_t, z_lt_f, z_cl, z_inb, z_at, z_lit, nI_ii1, nI_add, z_mr, z_ref0, z_refn, z_eq_f, Bool.not_true, Bool.not_false, b2i_t, b2i_f, eL, eR]
    exact g
  | false =>
    have g := g2 (fun j j1 j2 j3 => by
      cases hw : witB (dL y) (wC5 y) k j with
      | false => rfl
      | true =>
        have := anyb_t (p := fun i => S.testBit i && witB (dL y) (wC5 y) k i) j2 (by rw [j3, hw]; rfl)
        rw [hx] at this
        cases this)
    simp (disch := first | assumption | omega) only [z_bdn, z_caln, z_gdn, z_iT, z_iF, z_le_t, z_le_f, z_lt_t, z_lt_f, z_cl, z_inb, z_at, z_lit, nI_ii1, nI_add, z_mr, z_ref0, z_refn, z_eq_f, Bool.not_true, Bool.not_false, b2i_t, b2i_f, eL, eR]
    exact g
/-- what is joined: the kernel of the set -/
def kR (y : De) (S : Nat) : Nat → Bool := kerB (dL y) (wC5 y) (dC y) S
def JR (M : kx_M) (y : De) (S n : Nat) : Prop := mI M 18 4 = nI (cnt (kR y S) n) ∧ ∀ k, k < n → kR y S k = true → mA M 19 (cnt (kR y S) k) = nI (dL y k) ∧ mB M 20 (cnt (kR y S) k) = jJ (wC5 y k)
theorem q_gather_l7 {d W S : Nat} (hd : 27 ≤ d) (hP : OkD W y) (hS : S < 2 ^ dC y) : ∀ (m n k : Nat) (M : kx_M), k + m = dC y → m < n → CD M d y → JR M y S k → ∃ M', f_Joiner_gather_l7 d (nI S) n (nI k) M = some ((), M') ∧ JR M' y S (dC y) ∧ Fr (fun id => id = 18 ∨ id = 19 ∨ id = 20) M M' := by
  have w2 := hP.2.1
  intro m
  induction m with
  | zero =>
    intro n k M hm hn hD hJ
    obtain ⟨n, rfl, hn⟩ := z_succ hn
    obtain rfl : k = dC y := by omega
    have e8 := hD.2.1
    refine ⟨M, ?_, hJ, Fr.rf⟩
    rw [f_Joiner_gather_l7]
    simp (disch := first | assumption | omega) only [z_bdn, z_caln, z_gdn, z_iT, z_iF, z_le_t, z_le_f, z_lt_t, z_lt_f, z_cl, z_inb, z_at, z_lit, nI_ii1, nI_add, z_mr, z_ref0, z_refn, z_eq_f, Bool.not_true, Bool.not_false, b2i_t, b2i_f, e8]
  | succ m ih =>
    intro n k M hm hn hD hJ
    obtain ⟨n, rfl, hn⟩ := z_succ hn
    have e8 := hD.2.1
    have eL := (hD.2.2.2.1 k (by omega)).2
    have hl := hP.2.2.2.1 k (by omega)
    have eI : f_KT_inSet (nI S) (nI k) M = some (b2i (S.testBit k), M) := by
      rw [z_inSet (by omega), bt_nI S k (by omega)]
    have eS := q_stands (S := S) hP hD (show k < dC y by omega)
    have hkr : kR y S k = (S.testBit k && !anyb (fun i => S.testBit i && witB (dL y) (wC5 y) k i) (dC y)) := by
      show (S.testBit k && decide (k < dC y) && !_) = _
      rw [decide_eq_true (show k < dC y by omega), Bool.and_true]
    have hcl := cnt_le (kR y S) k
    have hno : kR y S k = false → JR M y S (k + 1) := fun h => by
      obtain ⟨h1, h2⟩ := hJ
      refine ⟨by rw [cnt_succ, h, if_neg (by decide)]; exact h1, fun j hj hjk => ?_⟩
      by_cases he : j = k
      · rw [he, h] at hjk; cases hjk
      · exact h2 j (by omega) hjk
    rw [f_Joiner_gather_l7]
    cases hb : S.testBit k with
    | false =>
      rw [hb] at eI hkr
      obtain ⟨M', a1, a2, a3⟩ := ih n (k + 1) M (by omega) (by omega) hD (hno hkr)
      refine ⟨M', ?_, a2, a3⟩
      simp (disch := first | assumption | omega) only [z_bdn, z_caln, z_gdn, z_iT, z_iF, z_le_t, z_le_f, z_lt_t, z_lt_f, z_cl, z_inb, z_at, z_lit, nI_ii1, nI_add, z_mr, z_ref0, z_refn, z_eq_f, Bool.not_true, Bool.not_false, b2i_t, b2i_f, e8, eI]
      exact a1
    | true =>
      rw [hb] at eI hkr
      cases hx : anyb (fun i => S.testBit i && witB (dL y) (wC5 y) k i) (dC y) with
      | true =>
        rw [hx] at eS hkr
        obtain ⟨M', a1, a2, a3⟩ := ih n (k + 1) M (by omega) (by omega) hD (hno hkr)
        refine ⟨M', ?_, a2, a3⟩
        simp (disch := first | assumption | omega) only [z_bdn, z_caln, z_gdn, z_iT, z_iF, z_le_t, z_le_f, z_lt_t, z_lt_f, z_cl, z_inb, z_at, z_lit, nI_ii1, nI_add, z_mr, z_ref0, z_refn, z_eq_f, Bool.not_true, Bool.not_false, b2i_t, b2i_f, e8, eI, eS]
        exact a1
      | false =>
        rw [hx] at eS hkr
        have hkr : kR y S k = true := hkr
        obtain ⟨h1, h2⟩ := hJ
        have hF1 : Fr (fun id => id = 18 ∨ id = 19 ∨ id = 20) M (sA M 19 (upd (mA M 19) (cnt (kR y S) k) (nI (dL y k)))) := Fr.sA (Or.inr (Or.inl rfl))
        have eR := q_runOf hP (CD_fr hF1 (fun id g1 g2 => by omega) hD) (show k < dC y by omega)
        have hF2 : Fr (fun id => id = 18 ∨ id = 19 ∨ id = 20) M (sI (sB (sA M 19 (upd (mA M 19) (cnt (kR y S) k) (nI (dL y k)))) 20 (vp_updL (mB M 20) (cnt (kR y S) k) (jJ (wC5 y k)))) 18 4 (nI (cnt (kR y S) k + 1))) := hF1.tr (Fr.tr (Fr.sB (Or.inr (Or.inr rfl))) (Fr.sI (Or.inl rfl)))
        obtain ⟨M', a1, a2, a3⟩ := ih n (k + 1) (sI (sB (sA M 19 (upd (mA M 19) (cnt (kR y S) k) (nI (dL y k)))) 20 (vp_updL (mB M 20) (cnt (kR y S) k) (jJ (wC5 y k)))) 18 4 (nI (cnt (kR y S) k + 1))) (by omega) (by omega) (CD_fr hF2 (fun id g1 g2 => by omega) hD) (by
          refine ⟨by rw [cnt_succ, hkr, if_pos rfl]; rfl, fun j hj hjk => ?_⟩
          show upd (mA M 19) (cnt (kR y S) k) (nI (dL y k)) (cnt (kR y S) j) = _ ∧ (if cnt (kR y S) j = cnt (kR y S) k then jJ (wC5 y k) else mB M 20 (cnt (kR y S) j)) = _
          rw [upd_at]
          by_cases he : j = k
          · subst he; rw [if_pos rfl, if_pos rfl]; exact ⟨rfl, rfl⟩
          · have := pos_lt (show j < k by omega) hjk
            rw [if_neg (by omega), if_neg (by omega)]
            exact h2 j (by omega) hjk)
        refine ⟨M', ?_, a2, hF2.tr a3⟩
        have eI1 : ∀ A, mI (sA M 19 A) 18 4 = nI (cnt (kR y S) k) := fun _ => h1
        have eI2 : ∀ A B, mI (sB (sA M 19 A) 20 B) 18 4 = nI (cnt (kR y S) k) := fun _ _ => h1
        have eB2 : ∀ A, mB (sA M 19 A) 20 = mB M 20 := fun _ => rfl
        simp (disch := first | assumption | omega) only [z_bdn, z_caln, z_gdn, z_iT, z_iF, z_le_t, z_le_f, z_lt_t, z_lt_f, z_cl, z_inb, z_at, z_lit, nI_ii1, nI_add, z_mr, z_ref0, z_refn, z_eq_f, Bool.not_true, Bool.not_false, b2i_t, b2i_f, e8, eI, eS, h1, eL, eR, eI1, eI2, eB2]
        exact a1
theorem q_gather {d W S : Nat} (hd : 27 ≤ d) (hP : OkD W y) (hD : CD M d y) (hS : S < 2 ^ dC y) : ∃ M', f_Joiner_gather d (nI S) M = some ((), M') ∧ JR M' y S (dC y) ∧ Fr (fun id => id = 18 ∨ id = 19 ∨ id = 20) M M' := by
  have w2 := hP.2.1
  have hF : Fr (fun id => id = 18 ∨ id = 19 ∨ id = 20) M (sI M 18 4 (nI 0)) := Fr.sI (Or.inl rfl)
  obtain ⟨M', a1, a2, a3⟩ := q_gather_l7 hd hP hS (dC y) FU 0 (sI M 18 4 (nI 0)) (by omega) (FU_lt (by omega)) (CD_fr hF (fun id g1 g2 => by omega) hD) ⟨rfl, fun k hk => absurd hk (by omega)⟩
  refine ⟨M', ?_, a2, hF.tr a3⟩
  rw [f_Joiner_gather]
  simp (disch := first | assumption | omega) only [z_bdn, z_caln, z_gdn, z_iT, z_iF, z_le_t, z_le_f, z_lt_t, z_lt_f, z_cl, z_inb, z_at, z_lit, nI_ii1, nI_add, z_mr, z_ref0, z_refn, z_eq_f, Bool.not_true, Bool.not_false, b2i_t, b2i_f]
  exact a1
end
