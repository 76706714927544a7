def bcE (p0 : Int32) : Int32 :=
  let v1 := p0 - (((p0.toUInt32 >>> ((1 : Int32).toUInt32 &&& Int32.toUInt32 31)).toInt32) &&& (1431655765 : Int32))
  let v2 := (v1 &&& (858993459 : Int32)) + (((v1.toUInt32 >>> ((2 : Int32).toUInt32 &&& Int32.toUInt32 31)).toInt32) &&& (858993459 : Int32))
  let v3 := (v2 + ((v2.toUInt32 >>> ((4 : Int32).toUInt32 &&& Int32.toUInt32 31)).toInt32)) &&& (252645135 : Int32)
  let v4 := v3 + ((v3.toUInt32 >>> ((8 : Int32).toUInt32 &&& Int32.toUInt32 31)).toInt32)
  let v5 := v4 + ((v4.toUInt32 >>> ((16 : Int32).toUInt32 &&& Int32.toUInt32 31)).toInt32)
  v5 &&& (63 : Int32)
def pcN (S : Nat) : Nat := cnt (fun i => S.testBit i) 8
theorem bcE_n : ∀ S, S < 256 → bcE (nI S) = nI (pcN S) := by decide +kernel
theorem pcN_le (S : Nat) : pcN S ≤ 8 := cnt_le _ _
theorem q_bitCount {S : Nat} (hS : S < 256) (M : kx_M) : f_Int_bitCount (nI S) M = some (nI (pcN S), M) := by
  rw [← bcE_n S hS]; rfl
/-- patched where S says -/
def ptF (r S : Nat) : Nat → Nat → Cl → Cl
  | 0, _, z => z
  | m + 1, i, z => ptF r S m (i + 1) (if S.testBit i = true then patX z (8 * r + i) else z)
def mnB (x : Cl) (y : De) (k r side S : Nat) : Bool := decide (0 < tms (pulX (ptF r S (cW x) 0 x) r side) y k r)
def mdF (x : Cl) (y : De) (k r side : Nat) : Nat → Nat → Option Nat → Option Nat
  | 0, _, b => b
  | m + 1, S, none => mdF x y k r side m (S + 1) (if mnB x y k r side S = true then some S else none)
  | m + 1, S, some b => mdF x y k r side m (S + 1) (if pcN S < pcN b ∧ mnB x y k r side S = true then some S else some b)
def mdA (x : Cl) (y : De) (k r side : Nat) : Option Nat := mdF x y k r side (2 ^ cW x) 0 none
theorem ptF_t {r S m i : Nat} {z : Cl} (h : S.testBit i = true) : ptF r S (m + 1) i z = ptF r S m (i + 1) (patX z (8 * r + i)) := by
  show ptF r S m (i + 1) (if _ then _ else z) = _
  rw [if_pos h]
theorem ptF_f {r S m i : Nat} {z : Cl} (h : S.testBit i = false) : ptF r S (m + 1) i z = ptF r S m (i + 1) z := by
  show ptF r S m (i + 1) (if _ then _ else z) = _
  rw [h]; rfl
theorem pw8 {W : Nat} (h : W ≤ 8) : 2 ^ W ≤ 256 := Nat.pow_le_pow_right (by omega) h
section
variable {M M' : kx_M} {σ : Sg} {x : Cl} {y : De}
theorem q_stays_l9 {k r side S : Nat} (hP : OkD (cW x) y) (hk : k < dC y) (hside : side ≤ 1) (hS : S < 256) {s t : Nat} : ∀ (m n i : Nat) (z : Cl) (M : kx_M), i + m = cW x → m < n → OkC z → z.1 = x.1 → r < cR x → KN M s t → CC M (t + 9) z → CD M (s + 1) y → ∃ M', f_KT_staysBy_l9 (nI S) (nI k) (nI r) (nI side) n (t + 9) (nI i) M = some (b2i (decide (0 < tms (pulX (ptF r S m i z) r side) y k r)), M') ∧ Fr (inC (t + 9)) M M' := by
  intro m
  induction m with
  | zero =>
    intro n i z M hi hn hO hz hr hK hC hD
    obtain ⟨n, rfl, hn⟩ := z_succ hn
    have eW : cW z = cW x := by unfold cW; rw [hz]
    have eR : cR z = cR x := by unfold cR; rw [hz]
    obtain rfl : i = cW x := by omega
    have w2 := hO.1.2
    have e5 := hC.1
    rw [eW] at e5
    obtain ⟨ta, t0, tc⟩ := trial_ap hK
    obtain ⟨M1, b1, b2, b3⟩ := q_pull hO hC (show r < cR z by omega) hside
    have hK1 := hK.fr b3 t0
    have hD1 := CD_fr b3 (fun id h1 h2 => ta id (by omega) (by omega)) hD
    have hO1 := OkC_pul hO r side
    have et := q_timesIn (k := k) (r := r) hO1 b2 (by show OkD (cW z) y; rw [eW]; exact hP) hD1 hk (show r < cR z by omega)
    have tl := tms_le (y := y) hO1 k r
    refine ⟨M1, ?_, b3⟩
    rw [f_KT_staysBy_l9]
    show _ = some (b2i (decide (0 < tms (pulX z r side) y k r)), M1)
    by_cases h0 : 0 < tms (pulX z r side) y k r
    · rw [decide_eq_true h0]
      simp (disch := first | assumption | omega) only [z_bdn, z_caln, z_gdn, z_iT, z_iF, z_le_t, z_le_f, z_lt_t, z_lt_f, z_cl, z_inb, z_at, z_lit, nI_ii1, nI_add, z_mr, z_ref0, z_refn, z_eq_f, Bool.not_true, Bool.not_false, b2i_t, b2i_f, e5, b1, hK1.1, hK.s1, et]
    · rw [decide_eq_false h0]
      obtain h0 : tms (pulX z r side) y k r = 0 := by omega
      simp (disch := first | assumption | omega) only [z_bdn, z_caln, z_gdn, z_iT, z_iF, z_le_t, z_le_f, z_lt_t, z_lt_f, z_cl, z_inb, z_at, z_lit, nI_ii1, nI_add, z_mr, z_ref0, z_refn, z_eq_f, Bool.not_true, Bool.not_false, b2i_t, b2i_f, e5, b1, hK1.1, hK.s1, et, h0]
  | succ m ih =>
    intro n i z M hi hn hO hz hr hK hC hD
    obtain ⟨n, rfl, hn⟩ := z_succ hn
    have eW : cW z = cW x := by unfold cW; rw [hz]
    have eR : cR z = cR x := by unfold cR; rw [hz]
    have w2 := hO.1.2
    have e5 := hC.1
    rw [eW] at e5
    have hb : bt (nI S) i = S.testBit i := bt_nI _ _ (by omega)
    obtain ⟨ta, t0, tc⟩ := trial_ap hK
    rw [f_KT_staysBy_l9]
    cases hs : S.testBit i
    · rw [hs] at hb
      rw [ptF_f hs]
      obtain ⟨M', g1, g2⟩ := ih n (i + 1) z M (by omega) (by omega) hO hz hr hK hC hD
      refine ⟨M', ?_, g2⟩
      simp (disch := first | assumption | omega) only [z_bdn, z_caln, z_gdn, z_iT, z_iF, z_le_t, z_le_f, z_lt_t, z_lt_f, z_cl, z_inb, z_at, z_lit, nI_ii1, nI_add, z_mr, z_ref0, z_refn, z_eq_f, Bool.not_true, Bool.not_false, b2i_t, b2i_f, e5, z_inSet (show i < 32 by omega), hb]
      exact g1
    · rw [hs] at hb
      rw [ptF_t hs]
      obtain ⟨M1, a1, a2, a3⟩ := q_pat hO hC (show r < cR z by omega) (show i < cW z by omega)
      obtain ⟨M', g1, g2⟩ := ih n (i + 1) (patX z (8 * r + i)) M1 (by omega) (by omega) (OkC_pat hO _) hz hr (hK.fr a3 t0) a2 (CD_fr a3 (fun id h1 h2 => ta id (by omega) (by omega)) hD)
      refine ⟨M', ?_, a3.tr g2⟩
      simp (disch := first | assumption | omega) only [z_bdn, z_caln, z_gdn, z_iT, z_iF, z_le_t, z_le_f, z_lt_t, z_lt_f, z_cl, z_inb, z_at, z_lit, nI_ii1, nI_add, z_mr, z_ref0, z_refn, z_eq_f, Bool.not_true, Bool.not_false, b2i_t, b2i_f, e5, z_inSet (show i < 32 by omega), hb, a1]
      exact g1
theorem q_stays {k r side S s t : Nat} (hO : OkC x) (hP : OkD (cW x) y) (hk : k < dC y) (hr : r < cR x) (hside : side ≤ 1) (hS : S < 256) (hK : KN M s t) (hC : CC M (s + 9) x) (hD : CD M (s + 1) y) : ∃ M', f_KT_staysBy (nI S) (nI k) (nI r) (nI side) M = some (b2i (mnB x y k r side S), M') ∧ Fr (inC (t + 9)) M M' := by
  obtain ⟨M1, a1, a2, a3⟩ := q_tried hK hO hC
  obtain ⟨ta, t0, tc⟩ := trial_ap hK
  obtain ⟨M2, b1, b2⟩ := q_stays_l9 hP hk hside hS (cW x) FU 0 x M1 (by omega) (FU_lt (by have := hO.1.2; omega)) hO rfl hr (hK.fr a3 t0) a2 (CD_fr a3 (fun id h1 h2 => ta id (by omega) (by omega)) hD)
  refine ⟨M2, ?_, a3.tr b2⟩
  rw [f_KT_staysBy]
  simp (disch := first | assumption | omega) only [z_bdn, z_caln, z_gdn, z_iT, z_iF, z_le_t, z_le_f, z_lt_t, z_lt_f, z_cl, z_inb, z_at, z_lit, nI_ii1, nI_add, z_mr, z_ref0, z_refn, z_eq_f, Bool.not_true, Bool.not_false, b2i_t, b2i_f, a1, tc]
  exact b1
end
