/-! ## LOOK: the reference's call -/
section
variable {M M' : kx_M} {σ : Sg} {y : De} {h : Nat → Int64} {G : Nat → Int32}
theorem lkF_l {unk : Nat → Bool} {g : Nat → Nat} {m j : Nat} {s : Option (Nat × Nat)} (hu : unk j = true) : lkF unk g (m + 1) j s = lkF unk g m (j + 1) (lkS s j (g j)) := by
  show lkF unk g m (j + 1) (if unk j = true then _ else s) = _
  rw [if_pos hu]
  rfl
theorem lkS_ok {s : Option (Nat × Nat)} {j g : Nat} (hs : ∀ c, s = some c → c.1 < 8 ∧ c.2 ≤ 65536) (hj : j < 8) (hg : g ≤ 65536) : ∀ c, lkS s j g = some c → c.1 < 8 ∧ c.2 ≤ 65536 := by
  cases s with
  | none =>
    intro c e
    cases e
    exact ⟨hj, hg⟩
  | some d =>
    intro c e
    have e : (if g < d.2 then some (j, g) else some d) = some c := e
    split at e
    · cases e
      exact ⟨hj, hg⟩
    · exact hs c e
theorem q_look_l53 {W k : Nat} {p : Int32} {kn : Nat → Option Nat} (hP : OkD W y) (hD : MD G h y) (hG0 : G 0 = nI W) (hW : W ≤ 8) (hk : k < dC y) (hkn : ∀ j b, j < W → kn j = some b → b < 4) : ∀ (m n j : Nat) (s : Option (Nat × Nat)) (M : kx_M), j + m = W → m < n → (∀ c, s = some c → c.1 < 8 ∧ c.2 ≤ 65536) → mA M 140 = G → (∀ i, i < W → mA M 147 i = oI (kn i)) → ∃ M', f_RM_look_l53 (nI k) p n (lI s) (nI (lC s)) (nI j) M = some (lI (lkF (lkU kn) (lkG (dL y k) (rnN y k (dL y k)) W kn) m j s), M') ∧ Fr (fun id => id = 147 ∨ id = 148 ∨ id = 149) M M' := by
  intro m
  induction m with
  | zero =>
    intro n j s M hj hn hs hG h7
    obtain ⟨n, rfl, hn⟩ := z_succ hn
    obtain rfl : j = W := by omega
    have e0 : mA M 140 0 = nI j := by rw [hG]; exact hG0
    refine ⟨M, ?_, Fr.rf⟩
    rw [f_RM_look_l53]
    simp (disch := first | assumption | omega) only [z_bdn, z_caln, z_gdn, z_iT, z_iF, z_le_t, z_le_f, z_lt_t, z_lt_f, z_cl, z_inb, z_at, z_pl, z_lit, nI_ii1, nI_add, nI_mul, z_eq_f, z_refuse, z_no, z_M00, b2i_t, b2i_f, e0]
    rfl
  | succ m ih =>
    intro n j s M hj hn hs hG h7
    obtain ⟨n, rfl, hn⟩ := z_succ hn
    have e0 : mA M 140 0 = nI W := by rw [hG]; exact hG0
    have e7 := h7 j (by omega)
    rw [f_RM_look_l53]
    cases hc : kn j with
    | some b =>
      have hb := hkn j b (by omega) hc
      rw [hc] at e7
      have e7 : mA M 147 j = nI b := e7
      obtain ⟨M', g1, g2⟩ := ih n (j + 1) s M (by omega) (by omega) hs hG h7
      rw [lkF_f (show lkU kn j = false by unfold lkU; rw [hc]; rfl)]
      refine ⟨M', ?_, g2⟩
      simp (disch := first | assumption | omega) only [z_bdn, z_caln, z_gdn, z_iT, z_iF, z_le_t, z_le_f, z_lt_t, z_lt_f, z_cl, z_inb, z_at, z_pl, z_lit, nI_ii1, nI_add, nI_mul, z_eq_f, z_refuse, z_no, z_M00, b2i_t, b2i_f, e0, e7, nI_pos0]
      exact g1
    | none =>
      rw [hc] at e7
      have e7 : mA M 147 j = -nI 1 := e7
      obtain ⟨M1, a1, a2, a3⟩ := q_look_l83 (K := f_RM_look_l53 (nI k) p n) (p := p) (s := s) hP hD hG0 hW hk hkn (show j < W by omega) hc hs 4 FU 0 0 M (by omega) (FU_lt (by omega)) (by omega) hG h7
      obtain ⟨M', g1, g2⟩ := ih n (j + 1) (lkS s j (lkG (dL y k) (rnN y k (dL y k)) W kn j)) M1 (by omega) (by omega) (lkS_ok hs (by omega) (lkG_16 hW)) ((a3 140 (by decide)).2.2.1.trans hG) a2
      rw [lkF_l (show lkU kn j = true by unfold lkU; rw [hc]; rfl)]
      refine ⟨M', ?_, a3.tr g2⟩
      simp (disch := first | assumption | omega) only [z_bdn, z_caln, z_gdn, z_iT, z_iF, z_le_t, z_le_f, z_lt_t, z_lt_f, z_cl, z_inb, z_at, z_pl, z_lit, nI_ii1, nI_add, nI_mul, z_eq_f, z_refuse, z_no, z_M00, b2i_t, b2i_f, e0, e7, z_neg1]
      exact a1.trans g1
theorem pM_look (k p : Int32) : PM (f_RM_look k p) (o_look k p) := by
  intro M σ h
  have h1 := IM_th (nI 0) h
  have g := q_whyNoFill h1 k p
  have lt := snS_lt k p σ
  have st : ∀ v, mI (sI (sI M 135 1 (nI 0)) 135 0 v) 135 0 = v := fun v => rfl
  rw [f_RM_look]
  unfold o_look
  cases hp : snS k p σ with
  | succ n =>
    rw [hp] at g
    refine ⟨_, ?_, IM_st (nI (n + 1)) h1, Lo_th.tr Lo_st⟩
    simp (disch := first | assumption | omega) only [z_bdn, z_caln, z_gdn, z_iT, z_iF, z_le_t, z_le_f, z_lt_t, z_lt_f, z_cl, z_inb, z_at, z_pl, z_lit, nI_ii1, nI_add, nI_mul, z_eq_f, z_refuse, z_no, z_M00, b2i_t, b2i_f, g, st, oS]
  | zero =>
    rw [hp] at g
    obtain ⟨hx, hy, h0⟩ := snS0 hp
    have hI := IM_00 h
    obtain ⟨hO, hC, hP, hD⟩ := IM_get hI
    have w2 := hP.2.1
    have w8 := hO.1.2
    obtain ⟨t, ht, rfl⟩ := ix_ex (by omega) hx
    obtain ⟨a, ha, rfl⟩ := ix_ex (by omega) hy
    have e1 : (nI t).toNatClampNeg = t := z_cl (by omega)
    have e2 : (nI a).toNatClampNeg = a := z_cl (by omega)
    rw [e1] at h0
    obtain ⟨M1, M2, a1, a7, a2, b1, b2⟩ := q_rdfill hI ha ht h0
    have hF : Fr (fun id => id = 147 ∨ id = 148 ∨ id = 149) (M00 M) M2 := (a2.mono (fun id e => Or.inl e)).tr (b2.mono (fun id e => Or.inr e))
    have st0 : mI (M00 M) 135 0 = nI 0 := rfl
    have hlo : Lo M M2 := Lo_00.tr (hF.mono (fun id e => by show 135 ≤ id; omega))
    have hI2 := IM_F hI hF (fun _ e => e)
    have wl := wv_lt (L := dL (gY σ) a) (c := rnN (gY σ) a (dL (gY σ) a)) (kn := knT t σ) w8
    simp only [oS]
    unfold flN
    rw [e1, e2]
    by_cases h2 : 2 ≤ wv (dL (gY σ) a) (rnN (gY σ) a (dL (gY σ) a)) (knT t σ) (cW (gX σ)) (dL (gY σ) a)
    · rw [if_pos h2]
      have e140 := (hF 140 (by decide)).2.2.1
      obtain ⟨M3, c1, c2⟩ := q_look_l53 (p := nI t) (h := mB (M00 M) 143) hP hD hC.1 w8 ha (knT_lt h0) (cW (gX σ)) FU 0 none M2 (by omega) (FU_lt (by omega)) (fun c e => by cases e) e140 (fun i hi => (congrFun (b2 147 (by decide)).2.2.1 i).trans (a7 i hi))
      refine ⟨M3, ?_, IM_F hI2 c2 (fun _ e => e), hlo.tr (c2.mono (fun id e => by show 135 ≤ id; omega))⟩
      simp (disch := first | assumption | omega) only [z_bdn, z_caln, z_gdn, z_iT, z_iF, z_le_t, z_le_f, z_lt_t, z_lt_f, z_cl, z_inb, z_at, z_pl, z_lit, nI_ii1, nI_add, nI_mul, z_eq_f, z_refuse, z_no, z_M00, b2i_t, b2i_f, g, st0, a1, b1]
      exact c1
    · rw [if_neg h2]
      refine ⟨_, ?_, IM_r (nI 8) hI2, hlo.tr Lo_st⟩
      simp (disch := first | assumption | omega) only [z_bdn, z_caln, z_gdn, z_iT, z_iF, z_le_t, z_le_f, z_lt_t, z_lt_f, z_cl, z_inb, z_at, z_pl, z_lit, nI_ii1, nI_add, nI_mul, z_eq_f, z_refuse, z_no, z_M00, b2i_t, b2i_f, g, st0, a1, b1]
end
