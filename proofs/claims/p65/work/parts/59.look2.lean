section
variable {M M' : kx_M} {σ : Sg}
def lkA (L c W : Nat) (kn : Nat → Option Nat) : Option (Nat × Nat) := lkF (lkU kn) (lkG L c W kn) W 0 none
theorem lkF_f {unk : Nat → Bool} {g : Nat → Nat} {m j : Nat} {s : Option (Nat × Nat)} (h : unk j = false) : lkF unk g (m + 1) j s = lkF unk g m (j + 1) s := by
  show lkF unk g m (j + 1) (if unk j = true then _ else s) = _
  rw [h]; rfl
theorem lkF_u {unk : Nat → Bool} {g : Nat → Nat} {m j : Nat} {s : Option (Nat × Nat)} (h : unk j = true) (hg : g j ≤ 65536) : lkF unk g (m + 1) j s = lkF unk g m (j + 1) (if lB s ≤ g j then s else some (j, g j)) := by
  show lkF unk g m (j + 1) (if unk j = true then _ else s) = _
  rw [if_pos h]
  congr 1
  cases s with
  | none =>
    show some (j, g j) = if 65537 ≤ g j then none else some (j, g j)
    rw [if_neg (by omega)]
  | some c =>
    show (if g j < c.2 then some (j, g j) else some c) = if c.2 ≤ g j then some c else some (j, g j)
    by_cases hh : c.2 ≤ g j
    · rw [if_neg (by omega), if_pos hh]
    · rw [if_pos (by omega), if_neg hh]
theorem q_best_l7 {L c W : Nat} {kn : Nat → Option Nat} (hL : L ≤ 5) (hW : W ≤ 8) (hk : ∀ j b, j < W → kn j = some b → b < 4) : ∀ (m n j : Nat) (s : Option (Nat × Nat)) (M : kx_M), j + m = W → m < n → lB s ≤ 65537 → SeenAt M L c W kn → ∃ M', f_Seen_bestColumn_l7 n (lI s) (nI (lB s)) (nI j) M = some (lI (lkF (lkU kn) (lkG L c W kn) m j s), M') ∧ FrS M M' := by
  intro m
  induction m with
  | zero =>
    intro n j s M hj hn hs hS
    obtain ⟨n, rfl, hn⟩ := z_succ hn
    obtain rfl : j = W := by omega
    have h1 := hS.2.1
    refine ⟨M, ?_, Fr.rf, fun e => e⟩
    rw [f_Seen_bestColumn_l7]
    simp (disch := first | assumption | omega) only [z_bdn, z_caln, z_gdn, z_iT, z_iF, z_le_t, z_le_f, z_lt_t, z_lt_f, z_cl, z_inb, z_at, z_lit, nI_ii1, nI_add, z_mr, z_ref0, z_refn, z_eq_f, Bool.not_true, Bool.not_false, b2i_t, b2i_f, h1]
    rfl
  | succ m ih =>
    intro n j s M hj hn hs hS
    obtain ⟨n, rfl, hn⟩ := z_succ hn
    have h1 := hS.2.1
    have e14 := hS.2.2.2.1 j (by omega)
    have lg := lkG_16 (L := L) (c := c) (j := j) (kn := kn) hW
    rw [f_Seen_bestColumn_l7]
    cases hc : kn j with
    | some b =>
      have hb := hk j b (by omega) hc
      rw [hc] at e14
      have e14 : mA M 14 j = nI b := e14
      obtain ⟨M', g1, g2⟩ := ih n (j + 1) s M (by omega) (by omega) hs hS
      rw [lkF_f (show lkU kn j = false by unfold lkU; rw [hc]; rfl)]
      refine ⟨M', ?_, g2⟩
      simp (disch := first | assumption | omega) only [z_bdn, z_caln, z_gdn, z_iT, z_iF, z_le_t, z_le_f, z_lt_t, z_lt_f, z_cl, z_inb, z_at, z_lit, nI_ii1, nI_add, z_mr, z_ref0, z_refn, z_eq_f, Bool.not_true, Bool.not_false, b2i_t, b2i_f, h1, e14, z_nneg]
      exact g1
    | none =>
      rw [hc] at e14
      have e14 : mA M 14 j = -nI 1 := e14
      obtain ⟨M1, a1, a2, a3⟩ := q_best_l31 (K := f_Seen_bestColumn_l7 n) (s := s) hL hW hk (show j < W by omega) hs 4 FU 0 0 M (by omega) (FU_lt (by omega)) (by omega) hS
      rw [lkF_u (show lkU kn j = true by unfold lkU; rw [hc]; rfl) lg]
      by_cases hle : lB s ≤ lkG L c W kn j
      · rw [if_pos hle]
        rw [if_pos (show lB s ≤ mxN (fun a => wv L c (knU kn j a) W L) 4 0 0 from hle)] at a1
        obtain ⟨M', g1, g2⟩ := ih n (j + 1) s M1 (by omega) (by omega) hs a2
        refine ⟨M', ?_, a3.tr g2⟩
        simp (disch := first | assumption | omega) only [z_bdn, z_caln, z_gdn, z_iT, z_iF, z_le_t, z_le_f, z_lt_t, z_lt_f, z_cl, z_inb, z_at, z_lit, nI_ii1, nI_add, z_mr, z_ref0, z_refn, z_eq_f, Bool.not_true, Bool.not_false, b2i_t, b2i_f, h1, e14]
        exact a1.trans g1
      · rw [if_neg hle]
        rw [if_neg (show ¬ lB s ≤ mxN (fun a => wv L c (knU kn j a) W L) 4 0 0 from hle)] at a1
        obtain ⟨M', g1, g2⟩ := ih n (j + 1) (some (j, lkG L c W kn j)) M1 (by omega) (by omega) (show lkG L c W kn j ≤ 65537 by omega) a2
        refine ⟨M', ?_, a3.tr g2⟩
        simp (disch := first | assumption | omega) only [z_bdn, z_caln, z_gdn, z_iT, z_iF, z_le_t, z_le_f, z_lt_t, z_lt_f, z_cl, z_inb, z_at, z_lit, nI_ii1, nI_add, z_mr, z_ref0, z_refn, z_eq_f, Bool.not_true, Bool.not_false, b2i_t, b2i_f, h1, e14]
        exact a1.trans g1
def o_look (k p : Int32) (σ : Sg) : Int32 × Sg := oS (snS k p σ) (-nI 1) (if 2 ≤ flN k p σ (knT p.toNatClampNeg σ) then (lI (lkA (dL (gY σ) k.toNatClampNeg) (rnN (gY σ) k.toNatClampNeg (dL (gY σ) k.toNatClampNeg)) (cW (gX σ)) (knT p.toNatClampNeg σ)), wS σ (nI 0)) else (-nI 1, wS σ (nI 8))) σ
theorem pC_look (k p : Int32) : PC (f_KT_look k p) (o_look k p) := by
  intro M σ h
  have g := q_seenStatus h k p
  have lt := snS_lt k p σ
  rw [f_KT_look]
  unfold o_look
  cases hp : snS k p σ with
  | succ n =>
    rw [hp] at g
    refine ⟨_, ?_, IC_st (nI (n + 1)) h, Hi_st⟩
    simp (disch := first | assumption | omega) only [z_bdn, z_caln, z_gdn, z_iT, z_iF, z_le_t, z_le_f, z_lt_t, z_lt_f, z_cl, z_inb, z_at, z_lit, nI_ii1, nI_add, z_mr, z_ref0, z_refn, z_eq_f, Bool.not_true, Bool.not_false, b2i_t, b2i_f, g, oS]
  | zero =>
    rw [hp] at g
    obtain ⟨hx, hy, h0⟩ := snS0 hp
    have h1 := IC_st (nI 0) h
    obtain ⟨s, t1, hK, hO, hC, hP, hD⟩ := IC_get h1
    have w2 := hP.2.1
    have w8 := hO.1.2
    obtain ⟨t, ht, rfl⟩ := ix_ex (by omega) hx
    obtain ⟨a, ha, rfl⟩ := ix_ex (by omega) hy
    have e1 : (nI t).toNatClampNeg = t := z_cl (by omega)
    have e2 : (nI a).toNatClampNeg = a := z_cl (by omega)
    rw [e1] at h0
    have hl := (hP.2.2.2.1 a ha).2.1
    obtain ⟨M1, a1, a2, a3⟩ := q_lookAt h1 ha ht h0
    obtain ⟨M2, b1, b2, b3⟩ := q_count hl w8 (knT_lt h0) a2
    have hF := a3.tr b3
    have hI := IC_S h1 hF
    have hh : Hi M M2 := Hi_st.tr (hF.1.mono (fun id e => by show id < 135; omega))
    have wl := wv_lt (L := dL (gY σ) a) (c := rnN (gY σ) a (dL (gY σ) a)) (kn := knT t σ) w8
    simp only [oS]
    unfold flN
    rw [e1, e2]
    by_cases h2 : 2 ≤ wv (dL (gY σ) a) (rnN (gY σ) a (dL (gY σ) a)) (knT t σ) (cW (gX σ)) (dL (gY σ) a)
    · rw [if_pos h2]
      have hI0 := IC_r (nI 0) hI
      have hS0 : SeenAt (sI M2 0 13 (nI 0)) (dL (gY σ) a) (rnN (gY σ) a (dL (gY σ) a)) (cW (gX σ)) (knT t σ) := b2
      obtain ⟨M3, c1, c2⟩ := q_best_l7 hl w8 (knT_lt h0) (cW (gX σ)) FU 0 none (sI M2 0 13 (nI 0)) (by omega) (FU_lt (by omega)) (Nat.le_refl _) hS0
      refine ⟨M3, ?_, IC_S hI0 c2, (hh.tr Hi_st).tr (c2.1.mono (fun id e => by show id < 135; omega))⟩
      simp (disch := first | assumption | omega) only [z_bdn, z_caln, z_gdn, z_iT, z_iF, z_le_t, z_le_f, z_lt_t, z_lt_f, z_cl, z_inb, z_at, z_lit, nI_ii1, nI_add, z_mr, z_ref0, z_refn, z_eq_f, Bool.not_true, Bool.not_false, b2i_t, b2i_f, g, a1, b1, f_Seen_bestColumn]
      rw [show f_Seen_bestColumn_l7 FU (-nI 1) (nI 65537) (nI 0) (sI M2 0 13 (nI 0)) = _ from c1]
      rfl
    · rw [if_neg h2]
      refine ⟨_, ?_, IC_r (nI 8) hI, hh.tr Hi_st⟩
      simp (disch := first | assumption | omega) only [z_bdn, z_caln, z_gdn, z_iT, z_iF, z_le_t, z_le_f, z_lt_t, z_lt_f, z_cl, z_inb, z_at, z_lit, nI_ii1, nI_add, z_mr, z_ref0, z_refn, z_eq_f, Bool.not_true, Bool.not_false, b2i_t, b2i_f, g, a1, b1]
end
