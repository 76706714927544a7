theorem sumN_ge {f : Nat → Nat} {s : Nat} : ∀ {n : Nat}, s < n → f s ≤ sumN f n
  | n + 1, h => by
    show f s ≤ sumN f n + f n
    by_cases h1 : s = n
    · rw [h1]; omega
    · have := sumN_ge (f := f) (s := s) (n := n) (by omega)
      omega
theorem wv_lt {L c W : Nat} {kn : Nat → Option Nat} (hW : W ≤ 8) : wv L c kn W L < 2147483648 := by
  have h1 := wv_sum (L := L) (c := c) (kn := kn) W
  have h2 : 4 ^ W ≤ 4 ^ 8 := Nat.pow_le_pow_right (by omega) hW
  have h3 : (4 : Nat) ^ 8 = 65536 := by decide
  have h4 := sumN_ge (f := wv L c kn W) (s := L) (n := L + 1) (by omega)
  omega
def knU (kn : Nat → Option Nat) (j a : Nat) : Nat → Option Nat := fun i => if i = j then some a else kn i
theorem knU_lt {kn : Nat → Option Nat} {W j a : Nat} (ha : a < 4) (hk : ∀ i b, i < W → kn i = some b → b < 4) : ∀ i b, i < W → knU kn j a i = some b → b < 4 := fun i b hi e => by
  unfold knU at e
  split at e
  · cases e; exact ha
  · exact hk i b hi e
section
variable {M M' : kx_M} {σ : Sg} {x : Cl} {y : De} {h : Nat → Int64}
theorem q_countWith {L c W j a : Nat} {kn : Nat → Option Nat} (hL : L ≤ 5) (hW : W ≤ 8) (hk : ∀ j b, j < W → kn j = some b → b < 4) (hS : SeenAt M L c W kn) (hj : j < W) (ha : a < 4) : ∃ M', f_Seen_countWith (nI j) (nI a) M = some (nI (wv L c (knU kn j a) W L), M') ∧ SeenAt M' L c W kn ∧ FrS M M' := by
  obtain ⟨h3, h1, hT, h14, hw⟩ := hS
  have e14 := h14 j hj
  obtain ⟨M2, b1, b2, b3⟩ := q_count (M := sA M 14 (upd (mA M 14) j (nI a))) (c := c) (kn := knU kn j a) hL hW (knU_lt ha hk) ⟨h3, h1, hT, (fun i hi => by
    rw [mA_sA, if_pos rfl, upd_at]
    unfold knU
    by_cases he : i = j
    · rw [if_pos he, if_pos he]; rfl
    · rw [if_neg he, if_neg he]; exact h14 i hi), hw⟩
  obtain ⟨g3, g1, gT, g14, gw⟩ := b2
  refine ⟨sA M2 14 (upd (mA M2 14) j (oI (kn j))), ?_, ⟨g3, g1, gT, (fun i hi => by
    rw [mA_sA, if_pos rfl, upd_at]
    by_cases he : i = j
    · rw [if_pos he, he]
    · rw [if_neg he, g14 i hi]
      unfold knU
      rw [if_neg he]), gw⟩, ((Fr.sA (by omega)).tr b3.1).tr (Fr.sA (by omega)), fun _ => gw⟩
  rw [f_Seen_countWith]
  simp (disch := first | assumption | omega) only [z_bdn, z_caln, z_gdn, z_iT, z_iF, z_le_t, z_le_f, z_lt_t, z_lt_f, z_cl, z_inb, z_at, z_lit, nI_ii1, nI_add, z_mr, z_ref0, z_refn, z_eq_f, Bool.not_true, Bool.not_false, b2i_t, b2i_f, e14, b1]
def suN (L c W : Nat) (kn : Nat → Option Nat) (j : Nat) : Option Nat := if wv L c kn W L = 0 then none else match kn j with
  | some b => some b
  | none => fsF (fun a => decide (wv L c (knU kn j a) W L = wv L c kn W L)) 4 0
theorem q_only_l30 {L c W j : Nat} {kn : Nat → Option Nat} (hL : L ≤ 5) (hW : W ≤ 8) (hk : ∀ j b, j < W → kn j = some b → b < 4) (hj : j < W) : ∀ (m n a : Nat) (M : kx_M), a + m = 4 → m < n → SeenAt M L c W kn → ∃ M', f_Seen_onlyKind_l30 (nI j) n (nI (wv L c kn W L)) (nI a) M = some (oI (fsF (fun a => decide (wv L c (knU kn j a) W L = wv L c kn W L)) m a), M') ∧ FrS M M' := by
  intro m
  induction m with
  | zero =>
    intro n a M ha hn hS
    obtain ⟨n, rfl, hn⟩ := z_succ hn
    obtain rfl : a = 4 := by omega
    refine ⟨M, ?_, Fr.rf, fun e => e⟩
    rw [f_Seen_onlyKind_l30]
    simp (disch := first | assumption | omega) only [z_bdn, z_caln, z_gdn, z_iT, z_iF, z_le_t, z_le_f, z_lt_t, z_lt_f, z_cl, z_inb, z_at, z_lit, nI_ii1, nI_add, z_mr, z_ref0, z_refn, z_eq_f, Bool.not_true, Bool.not_false, b2i_t, b2i_f]
    rfl
  | succ m ih =>
    intro n a M ha hn hS
    obtain ⟨n, rfl, hn⟩ := z_succ hn
    obtain ⟨M1, a1, a2, a3⟩ := q_countWith hL hW hk hS hj (show a < 4 by omega)
    have l1 := wv_lt (L := L) (c := c) (kn := knU kn j a) hW
    have l2 := wv_lt (L := L) (c := c) (kn := kn) hW
    rw [f_Seen_onlyKind_l30]
    by_cases he : wv L c (knU kn j a) W L = wv L c kn W L
    · rw [fsF_t (decide_eq_true he)]
      refine ⟨M1, ?_, a3⟩
      simp (disch := first | assumption | omega) only [z_bdn, z_caln, z_gdn, z_iT, z_iF, z_le_t, z_le_f, z_lt_t, z_lt_f, z_cl, z_inb, z_at, z_lit, nI_ii1, nI_add, z_mr, z_ref0, z_refn, z_eq_f, Bool.not_true, Bool.not_false, b2i_t, b2i_f, a1, he]
      rfl
    · rw [fsF_f (decide_eq_false he)]
      obtain ⟨M', g1, g2⟩ := ih n (a + 1) M1 (by omega) (by omega) a2
      have hne : ¬ nI (wv L c (knU kn j a) W L) = nI (wv L c kn W L) := fun e => he ((nI_eq (by omega) (by omega)).mp e)
      refine ⟨M', ?_, a3.tr g2⟩
      simp (disch := first | assumption | omega) only [z_bdn, z_caln, z_gdn, z_iT, z_iF, z_le_t, z_le_f, z_lt_t, z_lt_f, z_cl, z_inb, z_at, z_lit, nI_ii1, nI_add, z_mr, z_ref0, z_refn, z_eq_f, Bool.not_true, Bool.not_false, b2i_t, b2i_f, a1, hne]
      exact g1
theorem q_only {L c W j : Nat} {kn : Nat → Option Nat} (hL : L ≤ 5) (hW : W ≤ 8) (hk : ∀ j b, j < W → kn j = some b → b < 4) (hj : j < W) (hS : SeenAt M L c W kn) : ∃ M', f_Seen_onlyKind (nI j) M = some (oI (suN L c W kn j), M') ∧ FrS M M' := by
  obtain ⟨M1, a1, a2, a3⟩ := q_count hL hW hk hS
  have l2 := wv_lt (L := L) (c := c) (kn := kn) hW
  have e14 := a2.2.2.2.1 j hj
  rw [f_Seen_onlyKind]
  unfold suN
  by_cases h0 : wv L c kn W L = 0
  · rw [if_pos h0]
    refine ⟨M1, ?_, a3⟩
    simp (disch := first | assumption | omega) only [z_bdn, z_caln, z_gdn, z_iT, z_iF, z_le_t, z_le_f, z_lt_t, z_lt_f, z_cl, z_inb, z_at, z_lit, nI_ii1, nI_add, z_mr, z_ref0, z_refn, z_eq_f, Bool.not_true, Bool.not_false, b2i_t, b2i_f, a1, h0]
    rfl
  · rw [if_neg h0]
    have hne : ¬ nI (wv L c kn W L) = nI 0 := nI_ne0 (by omega) (by omega)
    cases hkn : kn j with
    | none =>
      rw [hkn] at e14
      have e14 : mA M1 14 j = -nI 1 := e14
      obtain ⟨M', g1, g2⟩ := q_only_l30 (c := c) hL hW hk hj 4 FU 0 M1 (by omega) (FU_lt (by omega)) a2
      refine ⟨M', ?_, a3.tr g2⟩
      simp (disch := first | assumption | omega) only [z_bdn, z_caln, z_gdn, z_iT, z_iF, z_le_t, z_le_f, z_lt_t, z_lt_f, z_cl, z_inb, z_at, z_lit, nI_ii1, nI_add, z_mr, z_ref0, z_refn, z_eq_f, Bool.not_true, Bool.not_false, b2i_t, b2i_f, a1, hne, e14]
      exact g1
    | some b =>
      have hb := hk j b hj hkn
      rw [hkn] at e14
      have e14 : mA M1 14 j = nI b := e14
      refine ⟨M1, ?_, a3⟩
      simp (disch := first | assumption | omega) only [z_bdn, z_caln, z_gdn, z_iT, z_iF, z_le_t, z_le_f, z_lt_t, z_lt_f, z_cl, z_inb, z_at, z_lit, nI_ii1, nI_add, z_mr, z_ref0, z_refn, z_eq_f, Bool.not_true, Bool.not_false, b2i_t, b2i_f, a1, hne, e14, z_nneg]
      rfl
def suO (k t j : Nat) (σ : Sg) : Option Nat := suN (dL (gY σ) k) (rnN (gY σ) k (dL (gY σ) k)) (cW (gX σ)) (knT t σ) j
def o_sure (k p q : Int32) (σ : Sg) : Int32 × Sg := oG (ix p 4) 1 (oG (ix q (cW (gX σ))) 2 (oS (snS k p σ) (-nI 1) (oI (suO k.toNatClampNeg p.toNatClampNeg q.toNatClampNeg σ), wS σ (nI (oV (suO k.toNatClampNeg p.toNatClampNeg q.toNatClampNeg σ)))) σ) σ) σ
theorem suO_lt {k t j : Nat} (h0 : kindS 1 t σ = 0) (hj : j < cW (gX σ)) {v : Nat} (e : suO k t j σ = some v) : v < 4 := by
  unfold suO suN at e
  split at e
  · cases e
  · cases hkn : knT t σ j with
    | none =>
      rw [hkn] at e
      have := fsF_some _ _ _ e
      omega
    | some b =>
      rw [hkn] at e
      cases e
      exact knT_lt h0 j v hj hkn
theorem pC_sure (k p q : Int32) : PC (f_KT_sure k p q) (o_sure k p q) := by
  intro M σ h
  have g1 := q_noTray p M
  have g2 := q_noColumn h q
  have g := q_seenStatus h k p
  have lt := snS_lt k p σ
  rw [f_KT_sure]
  unfold o_sure
  cases hx : ix p 4
  · rw [hx] at g1
    refine ⟨_, ?_, IC_st (nI 1) h, Hi_st⟩
    simp (disch := first | assumption | omega) only [z_bdn, z_caln, z_gdn, z_iT, z_iF, z_le_t, z_le_f, z_lt_t, z_lt_f, z_cl, z_inb, z_at, z_lit, nI_ii1, nI_add, z_mr, z_ref0, z_refn, z_eq_f, Bool.not_true, Bool.not_false, b2i_t, b2i_f, g1, oG, f_KT_sure_l38]
  · rw [hx] at g1
    cases hy : ix q (cW (gX σ))
    · rw [hy] at g2
      refine ⟨_, ?_, IC_st (nI 2) h, Hi_st⟩
      simp (disch := first | assumption | omega) only [z_bdn, z_caln, z_gdn, z_iT, z_iF, z_le_t, z_le_f, z_lt_t, z_lt_f, z_cl, z_inb, z_at, z_lit, nI_ii1, nI_add, z_mr, z_ref0, z_refn, z_eq_f, Bool.not_true, Bool.not_false, b2i_t, b2i_f, g1, g2, oG, f_KT_sure_l38]
    · rw [hy] at g2
      cases hp : snS k p σ with
      | succ n =>
        rw [hp] at g
        refine ⟨_, ?_, IC_st (nI (n + 1)) h, Hi_st⟩
        simp (disch := first | assumption | omega) only [z_bdn, z_caln, z_gdn, z_iT, z_iF, z_le_t, z_le_f, z_lt_t, z_lt_f, z_cl, z_inb, z_at, z_lit, nI_ii1, nI_add, z_mr, z_ref0, z_refn, z_eq_f, Bool.not_true, Bool.not_false, b2i_t, b2i_f, g1, g2, g, oG, oS, f_KT_sure_l38]
      | zero =>
        rw [hp] at g
        obtain ⟨-, hz, h0⟩ := snS0 hp
        have h1 := IC_st (nI 0) h
        obtain ⟨s, t1, hK, hO, hC, hP, hD⟩ := IC_get h1
        have w2 := hP.2.1
        have w8 := hO.1.2
        obtain ⟨t, ht, rfl⟩ := ix_ex (by omega) hx
        obtain ⟨a, ha, rfl⟩ := ix_ex (by omega) hz
        obtain ⟨j, hj, rfl⟩ := ix_ex (by omega) hy
        have e1 : (nI t).toNatClampNeg = t := z_cl (by omega)
        have e2 : (nI a).toNatClampNeg = a := z_cl (by omega)
        have e3 : (nI j).toNatClampNeg = j := z_cl (by omega)
        rw [e1] at h0
        obtain ⟨M1, a1, a2, a3⟩ := q_lookAt h1 ha ht h0
        obtain ⟨M2, b1, b2⟩ := q_only (hP.2.2.2.1 a ha).2.1 w8 (knT_lt h0) hj a2
        have hF := a3.tr b2
        have hI := IC_S h1 hF
        have hh : Hi M M2 := Hi_st.tr (hF.1.mono (fun id e => by show id < 135; omega))
        simp only [oG, oS]
        rw [e1, e2, e3]
        have b1 : f_Seen_onlyKind (nI j) M1 = some (oI (suO a t j σ), M2) := b1
        cases hs : suO a t j σ with
        | none =>
          rw [hs] at b1
          refine ⟨_, ?_, IC_r (nI 8) hI, hh.tr Hi_st⟩
          simp (disch := first | assumption | omega) only [z_bdn, z_caln, z_gdn, z_iT, z_iF, z_le_t, z_le_f, z_lt_t, z_lt_f, z_cl, z_inb, z_at, z_lit, nI_ii1, nI_add, z_mr, z_ref0, z_refn, z_eq_f, Bool.not_true, Bool.not_false, b2i_t, b2i_f, g1, g2, g, f_KT_sure_l38, a1, b1, oI, oV]
        | some v =>
          have hv := suO_lt h0 hj hs
          rw [hs] at b1
          refine ⟨_, ?_, IC_r (nI 0) hI, hh.tr Hi_st⟩
          simp (disch := first | assumption | omega) only [z_bdn, z_caln, z_gdn, z_iT, z_iF, z_le_t, z_le_f, z_lt_t, z_lt_f, z_cl, z_inb, z_at, z_lit, nI_ii1, nI_add, z_mr, z_ref0, z_refn, z_eq_f, Bool.not_true, Bool.not_false, b2i_t, b2i_f, g1, g2, g, f_KT_sure_l38, a1, b1, oI, oV, z_nneg]
end
