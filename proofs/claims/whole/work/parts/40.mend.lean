/-! ## MEND -/
def bcE (p0 : Int32) : Int32 :=
  let v1 := p0 - (((p0.toUInt32 >>> ((1 : Int32).toUInt32 &&& Int32.toUInt32 31)).toInt32) &&& (1431655765 : Int32))
  let v2 := (v1 &&& (858993459 : Int32)) + (((v1.toUInt32 >>> ((2 : Int32).toUInt32 &&& Int32.toUInt32 31)).toInt32) &&& (858993459 : Int32))
  let v3 := (v2 + ((v2.toUInt32 >>> ((4 : Int32).toUInt32 &&& Int32.toUInt32 31)).toInt32)) &&& (252645135 : Int32)
  let v4 := v3 + ((v3.toUInt32 >>> ((8 : Int32).toUInt32 &&& Int32.toUInt32 31)).toInt32)
  let v5 := v4 + ((v4.toUInt32 >>> ((16 : Int32).toUInt32 &&& Int32.toUInt32 31)).toInt32)
  v5 &&& (63 : Int32)
def pcN (S : Nat) : Nat := cnt (fun i => S.testBit i) 8
theorem bcE_n : ∀ S, S < 256 → bcE (nI S) = nI (pcN S) := by decide +kernel
theorem pcN_le (S : Nat) : pcN S ≤ 8 := cnt_le _ _
theorem q_bitCount {S : Nat} (hS : S < 256) (M : kx_M) : f_Int_bitCount (nI S) M = some (nI (pcN S), M) := by
  rw [← bcE_n S hS]; rfl
/-- patched where S says -/
def ptF (r S : Nat) : Nat → Nat → Cl → Cl
  | 0, _, z => z
  | m + 1, i, z => ptF r S m (i + 1) (if S.testBit i = true then patX z (8 * r + i) else z)
def mnB (x : Cl) (y : De) (k r side S : Nat) : Bool := decide (0 < tms (pulX (ptF r S (cW x) 0 x) r side) y k r)
def mdF (x : Cl) (y : De) (k r side : Nat) : Nat → Nat → Option Nat → Option Nat
  | 0, _, b => b
  | m + 1, S, none => mdF x y k r side m (S + 1) (if mnB x y k r side S = true then some S else none)
  | m + 1, S, some b => mdF x y k r side m (S + 1) (if pcN S < pcN b ∧ mnB x y k r side S = true then some S else some b)
def mdA (x : Cl) (y : De) (k r side : Nat) : Option Nat := mdF x y k r side (2 ^ cW x) 0 none
theorem patX_sh (x : Cl) (p : Nat) : (patX x p).1 = x.1 := rfl
theorem ptF_ok {r S : Nat} : ∀ (m i : Nat) (z : Cl), OkC z → OkC (ptF r S m i z) ∧ (ptF r S m i z).1 = z.1
  | 0, _, _, h => ⟨h, rfl⟩
  | m + 1, i, z, h => by
    show OkC (ptF r S m (i + 1) _) ∧ (ptF r S m (i + 1) _).1 = _
    by_cases hb : S.testBit i = true
    · rw [if_pos hb]
      exact ptF_ok m (i + 1) (patX z (8 * r + i)) (OkC_pat h _)
    · rw [if_neg hb]
      exact ptF_ok m (i + 1) z h
theorem ptF_t {r S m i : Nat} {z : Cl} (h : S.testBit i = true) : ptF r S (m + 1) i z = ptF r S m (i + 1) (patX z (8 * r + i)) := by
  show ptF r S m (i + 1) (if _ then _ else z) = _
  rw [if_pos h]
theorem ptF_f {r S m i : Nat} {z : Cl} (h : S.testBit i = false) : ptF r S (m + 1) i z = ptF r S m (i + 1) z := by
  show ptF r S m (i + 1) (if _ then _ else z) = _
  rw [h]; rfl
theorem pw8 {W : Nat} (h : W ≤ 8) : 2 ^ W ≤ 256 := Nat.pow_le_pow_right (by omega) h
section
variable {M M' : kx_M} {σ : Sg} {x : Cl} {y : De}
theorem q_sizeOf (S : Nat) (M : kx_M) : f_RM_sizeOf (nI S) M = some (nI (pcN S), M) := by
  have key : ∀ (m n i : Nat), i + m = 8 → m < n → f_RM_sizeOf_l4 (nI S) n (nI (cnt (fun i => S.testBit i) i)) (nI i) M = some (nI (pcN S), M) := by
    intro m
    induction m with
    | zero =>
      intro n i hi hn
      obtain ⟨n, rfl, hn⟩ := z_succ hn
      obtain rfl : i = 8 := by omega
      rw [f_RM_sizeOf_l4]
      simp (disch := first | assumption | omega) only [z_bdn, z_caln, z_gdn, z_iT, z_iF, z_le_t, z_le_f, z_lt_t, z_lt_f, z_cl, z_inb, z_at, z_pl, z_lit, nI_ii1, nI_add, nI_mul, z_eq_f, z_refuse, z_no, z_M00, b2i_t, b2i_f]
      rfl
    | succ m ih =>
      intro n i hi hn
      obtain ⟨n, rfl, hn⟩ := z_succ hn
      have h1 := ih n (i + 1) (by omega) (by omega)
      rw [cnt_succ] at h1
      have hb : bt (nI S) i = S.testBit i := bt_nI _ _ (by omega)
      rw [f_RM_sizeOf_l4]
      cases hs : S.testBit i
      · rw [hs] at hb h1
        simp (disch := first | assumption | omega) only [z_bdn, z_caln, z_gdn, z_iT, z_iF, z_le_t, z_le_f, z_lt_t, z_lt_f, z_cl, z_inb, z_at, z_pl, z_lit, nI_ii1, nI_add, nI_mul, z_eq_f, z_refuse, z_no, z_M00, b2i_t, b2i_f, z_has (show i < 32 by omega), hb]
        exact h1
      · rw [hs] at hb h1
        simp (disch := first | assumption | omega) only [z_bdn, z_caln, z_gdn, z_iT, z_iF, z_le_t, z_le_f, z_lt_t, z_lt_f, z_cl, z_inb, z_at, z_pl, z_lit, nI_ii1, nI_add, nI_mul, z_eq_f, z_refuse, z_no, z_M00, b2i_t, b2i_f, z_has (show i < 32 by omega), hb]
        exact h1
  exact key 8 FU 0 (by omega) (FU_lt (by omega))
theorem q_stays_l9 {k r side S : Nat} (hP : OkD (cW x) y) (hk : k < dC y) (hside : side ≤ 1) (hS : S < 256) {s t : Nat} : ∀ (m n i : Nat) (z : Cl) (M : kx_M), i + m = cW x → m < n → OkC z → z.1 = x.1 → r < cR x → KN M s t → CC M (t + 9) z → CD M (s + 1) y → ∃ M', f_KT_staysBy_l9 (nI S) (nI k) (nI r) (nI side) n (t + 9) (nI i) M = some (b2i (decide (0 < tms (pulX (ptF r S m i z) r side) y k r)), M') ∧ Fr (inC (t + 9)) M M' := by
  intro m
  induction m with
  | zero =>
    intro n i z M hi hn hO hz hr hK hC hD
    obtain ⟨n, rfl, hn⟩ := z_succ hn
    have eW : cW z = cW x := by unfold cW; rw [hz]
    have eR : cR z = cR x := by unfold cR; rw [hz]
    obtain rfl : i = cW x := by omega
    have w2 := hO.1.2
    have e5 := hC.1
    rw [eW] at e5
    obtain ⟨ta, t0, tc⟩ := trial_ap hK
    obtain ⟨M1, b1, b2, b3⟩ := q_pull hO hC (show r < cR z by omega) hside
    have hK1 := hK.fr b3 t0
    have hD1 := CD_fr b3 (fun id h1 h2 => ta id (by omega) (by omega)) hD
    have hO1 := OkC_pul hO r side
    have et := q_timesIn (k := k) (r := r) hO1 b2 (by show OkD (cW z) y; rw [eW]; exact hP) hD1 hk (show r < cR z by omega)
    have tl := tms_le (y := y) hO1 k r
    refine ⟨M1, ?_, b3⟩
    rw [f_KT_staysBy_l9]
    show _ = some (b2i (decide (0 < tms (pulX z r side) y k r)), M1)
    by_cases h0 : 0 < tms (pulX z r side) y k r
    · rw [decide_eq_true h0]
      simp (disch := first | assumption | omega) only [z_bdn, z_caln, z_gdn, z_iT, z_iF, z_le_t, z_le_f, z_lt_t, z_lt_f, z_cl, z_inb, z_at, z_pl, z_lit, nI_ii1, nI_add, z_mr, z_ref0, z_refn, z_eq_f, Bool.not_true, Bool.not_false, b2i_t, b2i_f, e5, b1, hK1.1, hK.s1, et]
    · rw [decide_eq_false h0]
      obtain h0 : tms (pulX z r side) y k r = 0 := by omega
      simp (disch := first | assumption | omega) only [z_bdn, z_caln, z_gdn, z_iT, z_iF, z_le_t, z_le_f, z_lt_t, z_lt_f, z_cl, z_inb, z_at, z_pl, z_lit, nI_ii1, nI_add, z_mr, z_ref0, z_refn, z_eq_f, Bool.not_true, Bool.not_false, b2i_t, b2i_f, e5, b1, hK1.1, hK.s1, et, h0]
  | succ m ih =>
    intro n i z M hi hn hO hz hr hK hC hD
    obtain ⟨n, rfl, hn⟩ := z_succ hn
    have eW : cW z = cW x := by unfold cW; rw [hz]
    have eR : cR z = cR x := by unfold cR; rw [hz]
    have w2 := hO.1.2
    have e5 := hC.1
    rw [eW] at e5
    have hb : bt (nI S) i = S.testBit i := bt_nI _ _ (by omega)
    obtain ⟨ta, t0, tc⟩ := trial_ap hK
    rw [f_KT_staysBy_l9]
    cases hs : S.testBit i
    · rw [hs] at hb
      rw [ptF_f hs]
      obtain ⟨M', g1, g2⟩ := ih n (i + 1) z M (by omega) (by omega) hO hz hr hK hC hD
      refine ⟨M', ?_, g2⟩
      simp (disch := first | assumption | omega) only [z_bdn, z_caln, z_gdn, z_iT, z_iF, z_le_t, z_le_f, z_lt_t, z_lt_f, z_cl, z_inb, z_at, z_pl, z_lit, nI_ii1, nI_add, z_mr, z_ref0, z_refn, z_eq_f, Bool.not_true, Bool.not_false, b2i_t, b2i_f, e5, z_inSet (show i < 32 by omega), hb]
      exact g1
    · rw [hs] at hb
      rw [ptF_t hs]
      obtain ⟨M1, a1, a2, a3⟩ := q_pat hO hC (show r < cR z by omega) (show i < cW z by omega)
      obtain ⟨M', g1, g2⟩ := ih n (i + 1) (patX z (8 * r + i)) M1 (by omega) (by omega) (OkC_pat hO _) hz hr (hK.fr a3 t0) a2 (CD_fr a3 (fun id h1 h2 => ta id (by omega) (by omega)) hD)
      refine ⟨M', ?_, a3.tr g2⟩
      simp (disch := first | assumption | omega) only [z_bdn, z_caln, z_gdn, z_iT, z_iF, z_le_t, z_le_f, z_lt_t, z_lt_f, z_cl, z_inb, z_at, z_pl, z_lit, nI_ii1, nI_add, z_mr, z_ref0, z_refn, z_eq_f, Bool.not_true, Bool.not_false, b2i_t, b2i_f, e5, z_inSet (show i < 32 by omega), hb, a1]
      exact g1
theorem q_stays {k r side S s t : Nat} (hO : OkC x) (hP : OkD (cW x) y) (hk : k < dC y) (hr : r < cR x) (hside : side ≤ 1) (hS : S < 256) (hK : KN M s t) (hC : CC M (s + 9) x) (hD : CD M (s + 1) y) : ∃ M', f_KT_staysBy (nI S) (nI k) (nI r) (nI side) M = some (b2i (mnB x y k r side S), M') ∧ Fr (inC (t + 9)) M M' := by
  obtain ⟨M1, a1, a2, a3⟩ := q_tried hK hO hC
  obtain ⟨ta, t0, tc⟩ := trial_ap hK
  obtain ⟨M2, b1, b2⟩ := q_stays_l9 hP hk hside hS (cW x) FU 0 x M1 (by omega) (FU_lt (by have := hO.1.2; omega)) hO rfl hr (hK.fr a3 t0) a2 (CD_fr a3 (fun id h1 h2 => ta id (by omega) (by omega)) hD)
  refine ⟨M2, ?_, a3.tr b2⟩
  rw [f_KT_staysBy]
  simp (disch := first | assumption | omega) only [z_bdn, z_caln, z_gdn, z_iT, z_iF, z_le_t, z_le_f, z_lt_t, z_lt_f, z_cl, z_inb, z_at, z_pl, z_lit, nI_ii1, nI_add, z_mr, z_ref0, z_refn, z_eq_f, Bool.not_true, Bool.not_false, b2i_t, b2i_f, a1, tc]
  exact b1
theorem q_Mmended_l7 {k r side S : Nat} {M0 M1 : kx_M} (hP : OkD (cW x) y) (hk : k < dC y) (hside : side ≤ 1) (h1 : FrK M0 M1) (hkk : ∀ k, k < 496 → mA M1 141 k = mA M0 140 k) : ∀ (m n i : Nat) (z : Cl) (M : kx_M), i + m = cW x → m < n → OkC z → z.1 = x.1 → r < cR x → MC (mA M 140) z → MD (mA M 140) (mB M 143) y → FrM M1 M → ∃ M', f_RM_isMended_l7 (nI k) (nI r) (nI side) (nI S) n (nI i) M = some (b2i (decide (0 < tms (pulX (ptF r S m i z) r side) y k r)), M') ∧ FrA M0 M' := by
  intro m
  induction m with
  | zero =>
    intro n i z M hi hn hO hz hr hC hD hF
    obtain ⟨n, rfl, hn⟩ := z_succ hn
    have eW : cW z = cW x := by unfold cW; rw [hz]
    have eR : cR z = cR x := by unfold cR; rw [hz]
    obtain rfl : i = cW x := by omega
    have w2 := hO.1.2
    have e5 := hC.1
    rw [eW] at e5
    obtain ⟨M2, b1, b2, b3⟩ := q_Mpull hO hC (show r < cR z by omega) hside
    have hD1 : MD (mA M2 140) (mB M 143) y := MD_frM (show OkD (cW z) y by rw [eW]; exact hP) b3 hD
    have hO1 := OkC_pul hO r side
    have et := q_MtimesIn (k := k) (r := r) hO1 b2 (by show OkD (cW z) y; rw [eW]; exact hP) hD1 hk (show r < cR z by omega)
    have tl := tms_le (y := y) hO1 k r
    obtain ⟨M3, g1, g2⟩ := q_gives h1 hkk (hF.tr b3)
    refine ⟨M3, ?_, g2⟩
    rw [f_RM_isMended_l7]
    show _ = some (b2i (decide (0 < tms (pulX z r side) y k r)), M3)
    by_cases h0 : 0 < tms (pulX z r side) y k r
    · rw [decide_eq_true h0]
      simp (disch := first | assumption | omega) only [z_bdn, z_caln, z_gdn, z_iT, z_iF, z_le_t, z_le_f, z_lt_t, z_lt_f, z_cl, z_inb, z_at, z_pl, z_lit, nI_ii1, nI_add, nI_mul, z_eq_f, z_refuse, z_no, z_M00, b2i_t, b2i_f, e5, b1, et, g1]
    · rw [decide_eq_false h0]
      obtain h0 : tms (pulX z r side) y k r = 0 := by omega
      simp (disch := first | assumption | omega) only [z_bdn, z_caln, z_gdn, z_iT, z_iF, z_le_t, z_le_f, z_lt_t, z_lt_f, z_cl, z_inb, z_at, z_pl, z_lit, nI_ii1, nI_add, nI_mul, z_eq_f, z_refuse, z_no, z_M00, b2i_t, b2i_f, e5, b1, et, h0, g1]
  | succ m ih =>
    intro n i z M hi hn hO hz hr hC hD hF
    obtain ⟨n, rfl, hn⟩ := z_succ hn
    have eW : cW z = cW x := by unfold cW; rw [hz]
    have eR : cR z = cR x := by unfold cR; rw [hz]
    have w2 := hO.1.2
    have e5 := hC.1
    rw [eW] at e5
    have hb : bt (nI S) i = S.testBit i := bt_nI _ _ (by omega)
    rw [f_RM_isMended_l7]
    cases hs : S.testBit i
    · rw [hs] at hb
      rw [ptF_f hs]
      obtain ⟨M', g1, g2⟩ := ih n (i + 1) z M (by omega) (by omega) hO hz hr hC hD hF
      refine ⟨M', ?_, g2⟩
      simp (disch := first | assumption | omega) only [z_bdn, z_caln, z_gdn, z_iT, z_iF, z_le_t, z_le_f, z_lt_t, z_lt_f, z_cl, z_inb, z_at, z_pl, z_lit, nI_ii1, nI_add, nI_mul, z_eq_f, z_refuse, z_no, z_M00, b2i_t, b2i_f, e5, z_has (show i < 32 by omega), hb]
      exact g1
    · rw [hs] at hb
      rw [ptF_t hs]
      obtain ⟨M2, a1, a2, a3⟩ := q_Mpat hO hC (show r < cR z by omega) (show i < cW z by omega)
      have hD1 : MD (mA M2 140) (mB M2 143) y := by
        rw [show mB M2 143 = mB M 143 from (a3.1 143 (by decide)).2.2.2.1]
        exact MD_frM (show OkD (cW z) y by rw [eW]; exact hP) a3 hD
      obtain ⟨M', g1, g2⟩ := ih n (i + 1) (patX z (8 * r + i)) M2 (by omega) (by omega) (OkC_pat hO _) hz hr a2 hD1 (hF.tr a3)
      refine ⟨M', ?_, g2⟩
      simp (disch := first | assumption | omega) only [z_bdn, z_caln, z_gdn, z_iT, z_iF, z_le_t, z_le_f, z_lt_t, z_lt_f, z_cl, z_inb, z_at, z_pl, z_lit, nI_ii1, nI_add, nI_mul, z_eq_f, z_refuse, z_no, z_M00, b2i_t, b2i_f, e5, z_has (show i < 32 by omega), hb, a1]
      exact g1
theorem q_Mmended {k r side S : Nat} (hO : OkC x) (hP : OkD (cW x) y) (hk : k < dC y) (hr : r < cR x) (hside : side ≤ 1) (hC : MC (mA M 140) x) (hD : MD (mA M 140) (mB M 143) y) : ∃ M', f_RM_isMended (nI k) (nI r) (nI side) (nI S) M = some (b2i (mnB x y k r side S), M') ∧ FrA M M' := by
  obtain ⟨M1, a1, a2, a3⟩ := q_keeps M
  have e140 : mA M1 140 = mA M 140 := (a2 140 (by decide)).2.2.1
  have e143 : mB M1 143 = mB M 143 := (a2 143 (by decide)).2.2.2.1
  obtain ⟨M2, b1, b2⟩ := q_Mmended_l7 (S := S) hP hk hside a2 a3 (cW x) FU 0 x M1 (by omega) (FU_lt (by have := hO.1.2; omega)) hO rfl hr (by rw [e140]; exact hC) (by rw [e140, e143]; exact hD) FrM.rf
  refine ⟨M2, ?_, b2⟩
  rw [f_RM_isMended]
  simp (disch := first | assumption | omega) only [z_bdn, z_caln, z_gdn, z_iT, z_iF, z_le_t, z_le_f, z_lt_t, z_lt_f, z_cl, z_inb, z_at, z_pl, z_lit, nI_ii1, nI_add, nI_mul, z_eq_f, z_refuse, z_no, z_M00, b2i_t, b2i_f, a1]
  exact b1
end
