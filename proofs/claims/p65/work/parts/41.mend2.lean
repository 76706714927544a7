def oI (b : Option Nat) : Int32 := match b with
  | none => -nI 1
  | some S => nI S
def oP (b : Option Nat) : Int32 := match b with
  | none => nI 9
  | some S => nI (pcN S)
def oV (b : Option Nat) : Nat := match b with
  | none => 8
  | some _ => 0
theorem z_nneg {a : Nat} (h : a < 2147483648) : (nI a = -nI 1) = False := eq_false (fun e => by
  have h1 : (nI a).toInt = (-nI 1).toInt := by rw [e]
  rw [nI_toInt (by omega), show (-nI 1).toInt = -1 from by decide] at h1
  omega)
theorem mdF_n {x : Cl} {y : De} {k r side m S : Nat} {v : Bool} (h : mnB x y k r side S = v) : mdF x y k r side (m + 1) S none = mdF x y k r side m (S + 1) (if v = true then some S else none) := by
  show mdF x y k r side m (S + 1) (if _ then _ else _) = _
  rw [h]
theorem mdF_s {x : Cl} {y : De} {k r side m S b : Nat} (h : ¬ pcN S < pcN b) : mdF x y k r side (m + 1) S (some b) = mdF x y k r side m (S + 1) (some b) := by
  show mdF x y k r side m (S + 1) (if _ then _ else _) = _
  rw [if_neg (fun e => h e.1)]
theorem mdF_t {x : Cl} {y : De} {k r side m S b : Nat} {v : Bool} (h : pcN S < pcN b) (h2 : mnB x y k r side S = v) : mdF x y k r side (m + 1) S (some b) = mdF x y k r side m (S + 1) (if v = true then some S else some b) := by
  show mdF x y k r side m (S + 1) (if _ then _ else _) = _
  rw [h2]
  cases v
  · rw [if_neg (fun e => by cases e.2)]; rfl
  · rw [if_pos ⟨h, rfl⟩]; rfl
theorem mdF_lt {x : Cl} {y : De} {k r side : Nat} : ∀ (m S : Nat) (b : Option Nat), S + m ≤ 256 → (∀ v, b = some v → v < 256) → ∀ v, mdF x y k r side m S b = some v → v < 256
  | 0, _, _, _, h => h
  | m + 1, S, none, hS, h => mdF_lt m (S + 1) _ (by omega) (fun v e => by
    split at e
    · cases e; omega
    · cases e)
  | m + 1, S, some b, hS, h => mdF_lt m (S + 1) _ (by omega) (fun v e => by
    split at e
    · cases e; omega
    · exact h v e)
section
variable {M M' : kx_M} {σ : Sg} {x : Cl} {y : De}
theorem q_mset_l37 {k r side s t : Nat} (hO : OkC x) (hP : OkD (cW x) y) (hk : k < dC y) (hr : r < cR x) (hside : side ≤ 1) : ∀ (m n S : Nat) (b : Option Nat) (M : kx_M), S + m = 2 ^ cW x → m < n → (∀ v, b = some v → v < 256) → KN M s t → CC M (s + 9) x → CD M (s + 1) y → ∃ M', f_KT_mendingSet_l37 (nI k) (nI r) (nI side) n (oI b) (oP b) (nI S) M = some (oI (mdF x y k r side m S b), sI M' 0 13 (nI (oV (mdF x y k r side m S b)))) ∧ Fr (inC (t + 9)) M M' := by
  have w2 := hO.1.2
  have pw := pw8 w2
  intro m
  induction m with
  | zero =>
    intro n S b M hS hn hb hK hC hD
    obtain ⟨n, rfl, hn⟩ := z_succ hn
    obtain rfl : S = 2 ^ cW x := by omega
    have e5 := hC.1
    refine ⟨M, ?_, Fr.rf⟩
    rw [f_KT_mendingSet_l37]
    show _ = some (oI b, sI M 0 13 (nI (oV b)))
    cases b with
    | none =>
      simp (disch := first | assumption | omega) only [z_bdn, z_caln, z_gdn, z_iT, z_iF, z_le_t, z_le_f, z_lt_t, z_lt_f, z_cl, z_inb, z_at, z_lit, nI_ii1, nI_add, z_mr, z_ref0, z_refn, z_eq_f, Bool.not_true, Bool.not_false, b2i_t, b2i_f, hK.1, hK.s1, e5, z_bit (show cW x < 31 by omega), oI, oV]
    | some v =>
      have hv := hb v rfl
      simp (disch := first | assumption | omega) only [z_bdn, z_caln, z_gdn, z_iT, z_iF, z_le_t, z_le_f, z_lt_t, z_lt_f, z_cl, z_inb, z_at, z_lit, nI_ii1, nI_add, z_mr, z_ref0, z_refn, z_eq_f, Bool.not_true, Bool.not_false, b2i_t, b2i_f, hK.1, hK.s1, e5, z_bit (show cW x < 31 by omega), oI, oV, z_nneg]
  | succ m ih =>
    intro n S b M hS hn hb hK hC hD
    obtain ⟨n, rfl, hn⟩ := z_succ hn
    have e5 := hC.1
    have hS2 : S < 256 := by omega
    have ec := q_bitCount hS2 M
    have pl := pcN_le S
    obtain ⟨ta, t0, tc⟩ := trial_ap hK
    obtain ⟨M1, a1, a2⟩ := q_stays (S := S) hO hP hk hr hside hS2 hK hC hD
    have hK1 := hK.fr a2 t0
    have hC1 := CC_fr a2 (fun id h1 h2 => ta id (by omega) (by omega)) hC
    have hD1 := CD_fr a2 (fun id h1 h2 => ta id (by omega) (by omega)) hD
    rw [f_KT_mendingSet_l37]
    cases b with
    | none =>
      cases hm : mnB x y k r side S
      · rw [hm] at a1
        obtain ⟨M', g1, g2⟩ := ih n (S + 1) none M1 (by omega) (by omega) hb hK1 hC1 hD1
        rw [mdF_n hm]
        refine ⟨M', ?_, a2.tr g2⟩
        simp (disch := first | assumption | omega) only [z_bdn, z_caln, z_gdn, z_iT, z_iF, z_le_t, z_le_f, z_lt_t, z_lt_f, z_cl, z_inb, z_at, z_lit, nI_ii1, nI_add, z_mr, z_ref0, z_refn, z_eq_f, Bool.not_true, Bool.not_false, b2i_t, b2i_f, hK.1, hK.s1, e5, z_bit (show cW x < 31 by omega), ec, oP, a1]
        exact g1
      · rw [hm] at a1
        obtain ⟨M', g1, g2⟩ := ih n (S + 1) (some S) M1 (by omega) (by omega) (fun v e => by cases e; omega) hK1 hC1 hD1
        rw [mdF_n hm]
        refine ⟨M', ?_, a2.tr g2⟩
        simp (disch := first | assumption | omega) only [z_bdn, z_caln, z_gdn, z_iT, z_iF, z_le_t, z_le_f, z_lt_t, z_lt_f, z_cl, z_inb, z_at, z_lit, nI_ii1, nI_add, z_mr, z_ref0, z_refn, z_eq_f, Bool.not_true, Bool.not_false, b2i_t, b2i_f, hK.1, hK.s1, e5, z_bit (show cW x < 31 by omega), ec, oP, a1]
        exact g1
    | some v =>
      have hv := pcN_le v
      by_cases hlt : pcN S < pcN v
      · cases hm : mnB x y k r side S
        · rw [hm] at a1
          obtain ⟨M', g1, g2⟩ := ih n (S + 1) (some v) M1 (by omega) (by omega) hb hK1 hC1 hD1
          rw [mdF_t hlt hm]
          refine ⟨M', ?_, a2.tr g2⟩
          simp (disch := first | assumption | omega) only [z_bdn, z_caln, z_gdn, z_iT, z_iF, z_le_t, z_le_f, z_lt_t, z_lt_f, z_cl, z_inb, z_at, z_lit, nI_ii1, nI_add, z_mr, z_ref0, z_refn, z_eq_f, Bool.not_true, Bool.not_false, b2i_t, b2i_f, hK.1, hK.s1, e5, z_bit (show cW x < 31 by omega), ec, oP, a1]
          exact g1
        · rw [hm] at a1
          obtain ⟨M', g1, g2⟩ := ih n (S + 1) (some S) M1 (by omega) (by omega) (fun v e => by cases e; omega) hK1 hC1 hD1
          rw [mdF_t hlt hm]
          refine ⟨M', ?_, a2.tr g2⟩
          simp (disch := first | assumption | omega) only [z_bdn, z_caln, z_gdn, z_iT, z_iF, z_le_t, z_le_f, z_lt_t, z_lt_f, z_cl, z_inb, z_at, z_lit, nI_ii1, nI_add, z_mr, z_ref0, z_refn, z_eq_f, Bool.not_true, Bool.not_false, b2i_t, b2i_f, hK.1, hK.s1, e5, z_bit (show cW x < 31 by omega), ec, oP, a1]
          exact g1
      · obtain ⟨M', g1, g2⟩ := ih n (S + 1) (some v) M (by omega) (by omega) hb hK hC hD
        rw [mdF_s hlt]
        refine ⟨M', ?_, g2⟩
        simp (disch := first | assumption | omega) only [z_bdn, z_caln, z_gdn, z_iT, z_iF, z_le_t, z_le_f, z_lt_t, z_lt_f, z_cl, z_inb, z_at, z_lit, nI_ii1, nI_add, z_mr, z_ref0, z_refn, z_eq_f, Bool.not_true, Bool.not_false, b2i_t, b2i_f, hK.1, hK.s1, e5, z_bit (show cW x < 31 by omega), ec, oP]
        exact g1
def mdO (k r side : Int32) (σ : Sg) : Option Nat := mdA (gX σ) (gY σ) k.toNatClampNeg r.toNatClampNeg side.toNatClampNeg
def o_mendSet (k r side : Int32) (σ : Sg) : Int32 × Sg := oG (ix k (dC (gY σ))) 2 (oG (ix r (cR (gX σ))) 2 (oG (rg side 0 1) 5 (oI (mdO k r side σ), wS σ (nI (oV (mdO k r side σ)))) σ) σ) σ
def o_mend (k r side : Int32) (σ : Sg) : Int32 × Sg := oG (ix k (dC (gY σ))) 2 (oG (ix r (cR (gX σ))) 2 (oG (rg side 0 1) 5 (oI ((mdO k r side σ).map pcN), wS σ (nI (oV (mdO k r side σ)))) σ) σ) σ
theorem pC_mendingSet (k r side : Int32) : PC (f_KT_mendingSet k r side) (o_mendSet k r side) := by
  intro M σ h
  have g1 := q_noClause h k
  have g2 := q_pullStatus h r side
  rw [f_KT_mendingSet]
  unfold o_mendSet
  unfold plSt at g2
  cases hx : ix k (dC (gY σ))
  · rw [hx] at g1
    refine ⟨_, ?_, IC_st (nI 2) h, Hi_st⟩
    simp (disch := first | assumption | omega) only [z_bdn, z_caln, z_gdn, z_iT, z_iF, z_le_t, z_le_f, z_lt_t, z_lt_f, z_cl, z_inb, z_at, z_lit, nI_ii1, nI_add, z_mr, z_ref0, z_refn, z_eq_f, Bool.not_true, Bool.not_false, b2i_t, b2i_f, g1, oG, f_KT_mendingSet_l19]
  · rw [hx] at g1
    cases hy : ix r (cR (gX σ))
    · rw [hy] at g2
      refine ⟨_, ?_, IC_st (nI 2) h, Hi_st⟩
      simp (disch := first | assumption | omega) only [z_bdn, z_caln, z_gdn, z_iT, z_iF, z_le_t, z_le_f, z_lt_t, z_lt_f, z_cl, z_inb, z_at, z_lit, nI_ii1, nI_add, z_mr, z_ref0, z_refn, z_eq_f, Bool.not_true, Bool.not_false, b2i_t, b2i_f, g1, g2, oG, f_KT_mendingSet_l19, Bool.false_eq_true]
    · cases hz : rg side 0 1
      · rw [hy, hz] at g2
        refine ⟨_, ?_, IC_st (nI 5) h, Hi_st⟩
        simp (disch := first | assumption | omega) only [z_bdn, z_caln, z_gdn, z_iT, z_iF, z_le_t, z_le_f, z_lt_t, z_lt_f, z_cl, z_inb, z_at, z_lit, nI_ii1, nI_add, z_mr, z_ref0, z_refn, z_eq_f, Bool.not_true, Bool.not_false, b2i_t, b2i_f, g1, g2, oG, f_KT_mendingSet_l19, Bool.false_eq_true]
      · rw [hy, hz] at g2
        have h1 := IC_st (nI 0) h
        obtain ⟨s, t, hK, hO, hC, hP, hD⟩ := IC_get h1
        have w2 := hP.2.1
        have w3 := hO.2.2.1
        have w8 := hO.1.2
        have pw := pw8 w8
        obtain ⟨a, ha, rfl⟩ := ix_ex (by omega) hx
        obtain ⟨b, hb, rfl⟩ := ix_ex (by omega) hy
        obtain ⟨c, -, hc, rfl⟩ := rg_ex (by omega) hz
        have e1 : (nI a).toNatClampNeg = a := z_cl (by omega)
        have e2 : (nI b).toNatClampNeg = b := z_cl (by omega)
        have e3 : (nI c).toNatClampNeg = c := z_cl (by omega)
        obtain ⟨M', b1, b2⟩ := q_mset_l37 hO hP ha hb hc (2 ^ cW (gX σ)) FU 0 none (sI M 0 13 (nI 0)) (by omega) (FU_lt (by omega)) (fun v e => by cases e) hK hC hD
        simp only [oG]
        unfold mdO
        rw [e1, e2, e3]
        refine ⟨_, ?_, IC_r (nI (oV (mdA (gX σ) (gY σ) a b c))) (IC_trial h1 hK b2), (Hi_st.tr (hi_inT hK b2)).tr Hi_st⟩
        simp (disch := first | assumption | omega) only [z_bdn, z_caln, z_gdn, z_iT, z_iF, z_le_t, z_le_f, z_lt_t, z_lt_f, z_cl, z_inb, z_at, z_lit, nI_ii1, nI_add, z_mr, z_ref0, z_refn, z_eq_f, Bool.not_true, Bool.not_false, b2i_t, b2i_f, g1, g2, f_KT_mendingSet_l19]
        exact b1
theorem pC_mendSet (k r side : Int32) : PC (f_KT_mendSet k r side) (o_mendSet k r side) := by
  intro M σ h
  obtain ⟨M', b1, b2, b3⟩ := pC_mendingSet k r side M σ h
  refine ⟨M', ?_, b2, b3⟩
  rw [f_KT_mendSet, b1]
  rfl
theorem mdO_lt (k r side : Int32) (h : OkG σ) {v : Nat} (e : mdO k r side σ = some v) : v < 256 := by
  have w8 : cW (gX σ) ≤ 8 := h.1.1.1.2
  have pw := pw8 w8
  exact mdF_lt (2 ^ cW (gX σ)) 0 none (by omega) (fun v e => by cases e) v e
theorem IC_gS (h : IC M σ) : mI M 0 13 = gS σ := by
  obtain ⟨-, s, t, hK, hS, ⟨a1, -⟩, -⟩ := h
  exact a1
theorem pC_mend (k r side : Int32) : PC (f_KT_mend k r side) (o_mend k r side) := by
  intro M σ h
  obtain ⟨M', b1, b2, b3⟩ := pC_mendingSet k r side M σ h
  rw [f_KT_mend, b1]
  unfold o_mend
  unfold o_mendSet at b2 ⊢
  have st := IC_gS b2
  cases hx : ix k (dC (gY σ))
  · rw [hx] at b2 st
    have st : mI M' 0 13 = nI 2 := st
    refine ⟨M', ?_, b2, b3⟩
    simp (disch := first | assumption | omega) only [z_bdn, z_caln, z_gdn, z_iT, z_iF, z_le_t, z_le_f, z_lt_t, z_lt_f, z_cl, z_inb, z_at, z_lit, nI_ii1, nI_add, z_mr, z_ref0, z_refn, z_eq_f, Bool.not_true, Bool.not_false, b2i_t, b2i_f, st, oG]
  · cases hy : ix r (cR (gX σ))
    · rw [hx, hy] at b2 st
      have st : mI M' 0 13 = nI 2 := st
      refine ⟨M', ?_, b2, b3⟩
      simp (disch := first | assumption | omega) only [z_bdn, z_caln, z_gdn, z_iT, z_iF, z_le_t, z_le_f, z_lt_t, z_lt_f, z_cl, z_inb, z_at, z_lit, nI_ii1, nI_add, z_mr, z_ref0, z_refn, z_eq_f, Bool.not_true, Bool.not_false, b2i_t, b2i_f, st, oG]
    · cases hz : rg side 0 1
      · rw [hx, hy, hz] at b2 st
        have st : mI M' 0 13 = nI 5 := st
        refine ⟨M', ?_, b2, b3⟩
        simp (disch := first | assumption | omega) only [z_bdn, z_caln, z_gdn, z_iT, z_iF, z_le_t, z_le_f, z_lt_t, z_lt_f, z_cl, z_inb, z_at, z_lit, nI_ii1, nI_add, z_mr, z_ref0, z_refn, z_eq_f, Bool.not_true, Bool.not_false, b2i_t, b2i_f, st, oG]
      · rw [hx, hy, hz] at b2 st
        cases hm : mdO k r side σ with
        | none =>
          rw [hm] at b2 st
          have st : mI M' 0 13 = nI 8 := st
          refine ⟨M', ?_, b2, b3⟩
          simp (disch := first | assumption | omega) only [z_bdn, z_caln, z_gdn, z_iT, z_iF, z_le_t, z_le_f, z_lt_t, z_lt_f, z_cl, z_inb, z_at, z_lit, nI_ii1, nI_add, z_mr, z_ref0, z_refn, z_eq_f, Bool.not_true, Bool.not_false, b2i_t, b2i_f, st, oG, oI, Option.map_none]
        | some v =>
          have hv := mdO_lt k r side h.1 hm
          rw [hm] at b2 st
          have st : mI M' 0 13 = nI 0 := st
          refine ⟨M', ?_, b2, b3⟩
          simp (disch := first | assumption | omega) only [z_bdn, z_caln, z_gdn, z_iT, z_iF, z_le_t, z_le_f, z_lt_t, z_lt_f, z_cl, z_inb, z_at, z_lit, nI_ii1, nI_add, z_mr, z_ref0, z_refn, z_eq_f, Bool.not_true, Bool.not_false, b2i_t, b2i_f, st, oG, oI, Option.map_some, q_bitCount]
end
