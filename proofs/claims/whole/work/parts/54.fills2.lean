/-! ## FILLS: the reference -/
section
variable {M M' : kx_M} {σ : Sg} {x : Cl} {y : De} {h : Nat → Int64} {G : Nat → Int32}
theorem q_fill_l43 {K : Int32 → kx_M → Option (Int32 × kx_M)} {W k j : Nat} {u : Nat → Nat} {kn : Option Nat} (hP : OkD W y) (hD : MD G h y) (hk : k < dC y) (hj : j < 8) (hu : ∀ z, u z < 2147483648) (hkn : ∀ b, kn = some b → b < 4) : ∀ (m n z : Nat) (M : kx_M), z + m = 33 → m < n → mA M 140 = G → mA M 147 j = oI kn → F8 M u → (∀ q, q < z → mA M 149 q = nI 0) → ∃ M', f_RM_filling_l43 (nI k) K n (nI j) (nI z) M = K (nI (j + 1)) M' ∧ F8 M' (Tx y k u (okL kn) 33) ∧ Fr (fun id => id = 148 ∨ id = 149) M M' := by
  intro m
  induction m with
  | zero =>
    intro n z M hz hn hG h7 h8 h9
    obtain ⟨n, rfl, hn⟩ := z_succ hn
    obtain rfl : z = 33 := by omega
    obtain ⟨M', g1, g2, g3⟩ := q_fill_l64 (K := K) hP hD hk hj hu hkn 33 FU 0 M (by omega) (FU_lt (by omega)) hG h7 h8 (fun t ht => h9 t ht)
    refine ⟨M', ?_, g2, g3⟩
    rw [f_RM_filling_l43]
    simp (disch := first | assumption | omega) only [z_bdn, z_caln, z_gdn, z_iT, z_iF, z_le_t, z_le_f, z_lt_t, z_lt_f, z_cl, z_inb, z_at, z_pl, z_lit, nI_ii1, nI_add, nI_mul, z_eq_f, z_refuse, z_no, z_M00, b2i_t, b2i_f]
    exact g1
  | succ m ih =>
    intro n z M hz hn hG h7 h8 h9
    obtain ⟨n, rfl, hn⟩ := z_succ hn
    obtain ⟨M', g1, g2, g3⟩ := ih n (z + 1) (sA M 149 (upd (mA M 149) z (nI 0))) (by omega) (by omega) hG h7 h8 (fun q hq => by
      rw [mA_sA, if_pos rfl, upd_at]
      by_cases he : q = z
      · rw [if_pos he]
      · rw [if_neg he]; exact h9 q (by omega))
    refine ⟨M', ?_, g2, Fr.tr (Fr.sA (Or.inr rfl)) g3⟩
    rw [f_RM_filling_l43]
    simp (disch := first | assumption | omega) only [z_bdn, z_caln, z_gdn, z_iT, z_iF, z_le_t, z_le_f, z_lt_t, z_lt_f, z_cl, z_inb, z_at, z_pl, z_lit, nI_ii1, nI_add, nI_mul, z_eq_f, z_refuse, z_no, z_M00, b2i_t, b2i_f]
    exact g1
theorem mvN_lt {L c : Nat} {kn : Nat → Option Nat} {j : Nat} (hj : j ≤ 8) (z : Nat) : mvN L c kn j z < 2147483648 := by
  have h1 := mvN_le (L := L) (c := c) (kn := kn) j z
  have h2 : 4 ^ j ≤ 4 ^ 8 := Nat.pow_le_pow_right (by omega) hj
  have h3 : (4 : Nat) ^ 8 = 65536 := by decide
  omega
theorem q_fill_l31 {W k : Nat} {kn : Nat → Option Nat} (hP : OkD W y) (hD : MD G h y) (hG0 : G 0 = nI W) (hW : W ≤ 8) (hk : k < dC y) (hkn : ∀ j b, j < W → kn j = some b → b < 4) : ∀ (m n j : Nat) (M : kx_M), j + m = W → m < n → mA M 140 = G → (∀ i, i < W → mA M 147 i = oI (kn i)) → F8 M (mvN (dL y k) (rnN y k (dL y k)) kn j) → ∃ M', f_RM_filling_l31 (nI k) n (nI j) M = some (nI (wv (dL y k) (rnN y k (dL y k)) kn W (dL y k)), M') ∧ Fr (fun id => id = 148 ∨ id = 149) M M' := by
  have hl := hP.2.2.2.1 k hk
  have hc := rnN_lt hP hk (dL y k) (Nat.le_refl _)
  intro m
  induction m with
  | zero =>
    intro n j M hj hn hG h7 h8
    obtain ⟨n, rfl, hn⟩ := z_succ hn
    obtain rfl : j = W := by omega
    have e0 : mA M 140 0 = nI j := by rw [hG]; exact hG0
    have e8 := h8 32 (by omega)
    rw [mvN_32 hl.1 hl.2.1 hc] at e8
    refine ⟨M, ?_, Fr.rf⟩
    rw [f_RM_filling_l31]
    simp (disch := first | assumption | omega) only [z_bdn, z_caln, z_gdn, z_iT, z_iF, z_le_t, z_le_f, z_lt_t, z_lt_f, z_cl, z_inb, z_at, z_pl, z_lit, nI_ii1, nI_add, nI_mul, z_eq_f, z_refuse, z_no, z_M00, b2i_t, b2i_f, e0, e8]
  | succ m ih =>
    intro n j M hj hn hG h7 h8
    obtain ⟨n, rfl, hn⟩ := z_succ hn
    have e0 : mA M 140 0 = nI W := by rw [hG]; exact hG0
    obtain ⟨M1, a1, a2, a3⟩ := q_fill_l43 (K := f_RM_filling_l31 (nI k) n) (j := j) hP hD hk (by omega) (mvN_lt (by omega)) (fun b hb => hkn j b (by omega) hb) 33 FU 0 M (by omega) (FU_lt (by omega)) hG (h7 j (by omega)) h8 (fun q hq => absurd hq (by omega))
    obtain ⟨M', g1, g2⟩ := ih n (j + 1) M1 (by omega) (by omega) ((a3 140 (by decide)).2.2.1.trans hG) (fun i hi => (congrFun (a3 147 (by decide)).2.2.1 i).trans (h7 i hi)) (fun z hz => by
      rw [a2 z hz]
      exact congrArg nI (mvN_s hl.1 hl.2.1 hc j z))
    refine ⟨M', ?_, a3.tr g2⟩
    rw [f_RM_filling_l31]
    simp (disch := first | assumption | omega) only [z_bdn, z_caln, z_gdn, z_iT, z_iF, z_le_t, z_le_f, z_lt_t, z_lt_f, z_cl, z_inb, z_at, z_pl, z_lit, nI_ii1, nI_add, nI_mul, z_eq_f, z_refuse, z_no, z_M00, b2i_t, b2i_f, e0]
    exact a1.trans g1
theorem q_fill_l2 {W k : Nat} {kn : Nat → Option Nat} (hP : OkD W y) (hD : MD G h y) (hG0 : G 0 = nI W) (hW : W ≤ 8) (hk : k < dC y) (hkn : ∀ j b, j < W → kn j = some b → b < 4) : ∀ (m n z : Nat) (M : kx_M), z + m = 33 → m < n → mA M 140 = G → (∀ i, i < W → mA M 147 i = oI (kn i)) → (∀ q, q < z → mA M 148 q = nI (if q = 0 then 1 else 0)) → ∃ M', f_RM_filling_l2 (nI k) n (nI z) M = some (nI (wv (dL y k) (rnN y k (dL y k)) kn W (dL y k)), M') ∧ Fr (fun id => id = 148 ∨ id = 149) M M' := by
  have hl := hP.2.2.2.1 k hk
  intro m
  induction m with
  | zero =>
    intro n z M hz hn hG h7 h8
    obtain ⟨n, rfl, hn⟩ := z_succ hn
    obtain rfl : z = 33 := by omega
    obtain ⟨M', g1, g2⟩ := q_fill_l31 hP hD hG0 hW hk hkn W FU 0 M (by omega) (FU_lt (by omega)) hG h7 (fun q hq => by rw [mvN_0 hl.1]; exact h8 q hq)
    refine ⟨M', ?_, g2⟩
    rw [f_RM_filling_l2]
    simp (disch := first | assumption | omega) only [z_bdn, z_caln, z_gdn, z_iT, z_iF, z_le_t, z_le_f, z_lt_t, z_lt_f, z_cl, z_inb, z_at, z_pl, z_lit, nI_ii1, nI_add, nI_mul, z_eq_f, z_refuse, z_no, z_M00, b2i_t, b2i_f]
    exact g1
  | succ m ih =>
    intro n z M hz hn hG h7 h8
    obtain ⟨n, rfl, hn⟩ := z_succ hn
    obtain ⟨M', g1, g2⟩ := ih n (z + 1) (sA M 148 (upd (mA M 148) z (nI (if z = 0 then 1 else 0)))) (by omega) (by omega) hG h7 (fun q hq => by
      rw [mA_sA, if_pos rfl, upd_at]
      by_cases he : q = z
      · rw [if_pos he, he]
      · rw [if_neg he]; exact h8 q (by omega))
    refine ⟨M', ?_, Fr.tr (Fr.sA (Or.inl rfl)) g2⟩
    rw [f_RM_filling_l2]
    by_cases h0 : z = 0
    · rw [if_pos h0] at g1
      subst h0
      simp (disch := first | assumption | omega) only [z_bdn, z_caln, z_gdn, z_iT, z_iF, z_le_t, z_le_f, z_lt_t, z_lt_f, z_cl, z_inb, z_at, z_pl, z_lit, nI_ii1, nI_add, nI_mul, z_eq_f, z_refuse, z_no, z_M00, b2i_t, b2i_f]
      exact g1
    · rw [if_neg h0] at g1
      simp (disch := first | assumption | omega) only [z_bdn, z_caln, z_gdn, z_iT, z_iF, z_le_t, z_le_f, z_lt_t, z_lt_f, z_cl, z_inb, z_at, z_pl, z_lit, nI_ii1, nI_add, nI_mul, z_eq_f, z_refuse, z_no, z_M00, b2i_t, b2i_f]
      exact g1
theorem q_filling {W k : Nat} {kn : Nat → Option Nat} (hP : OkD W y) (hD : MD (mA M 140) h y) (hG0 : mA M 140 0 = nI W) (hW : W ≤ 8) (hk : k < dC y) (hkn : ∀ j b, j < W → kn j = some b → b < 4) (h7 : ∀ i, i < W → mA M 147 i = oI (kn i)) : ∃ M', f_RM_filling (nI k) M = some (nI (wv (dL y k) (rnN y k (dL y k)) kn W (dL y k)), M') ∧ Fr (fun id => id = 148 ∨ id = 149) M M' := by
  obtain ⟨M', g1, g2⟩ := q_fill_l2 hP hD hG0 hW hk hkn 33 FU 0 M (by omega) (FU_lt (by omega)) rfl h7 (fun q hq => absurd hq (by omega))
  refine ⟨M', ?_, g2⟩
  rw [f_RM_filling]
  simp (disch := first | assumption | omega) only [z_bdn, z_caln, z_gdn, z_iT, z_iF, z_le_t, z_le_f, z_lt_t, z_lt_f, z_cl, z_inb, z_at, z_pl, z_lit, nI_ii1, nI_add, nI_mul, z_eq_f, z_refuse, z_no, z_M00, b2i_t, b2i_f]
  exact g1
theorem q_reads {W t : Nat} {V : Nat → Int64} (hW : W ≤ 8) (ht : t < 4) (hG0 : mA M 140 0 = nI W) (hB : ∀ j, j < W → mB M 138 (60 * t + j) = V j) (hV : ∀ j, j < W → inR 1 (V j) = true) : ∃ M', f_RM_reads (nI t) M = some ((), M') ∧ (∀ j, j < W → mA M' 147 j = oI (knO (V j))) ∧ Fr (fun id => id = 147) M M' := by
  have key : ∀ (m n j : Nat) (M : kx_M), j + m = W → m < n → mA M 140 0 = nI W → (∀ j, j < W → mB M 138 (60 * t + j) = V j) → (∀ i, i < j → mA M 147 i = oI (knO (V i))) → ∃ M', f_RM_reads_l2 (nI t) n (nI j) M = some ((), M') ∧ (∀ j, j < W → mA M' 147 j = oI (knO (V j))) ∧ Fr (fun id => id = 147) M M' := by
    intro m
    induction m with
    | zero =>
      intro n j M hj hn h0 hB h7
      obtain ⟨n, rfl, hn⟩ := z_succ hn
      obtain rfl : j = W := by omega
      refine ⟨M, ?_, h7, Fr.rf⟩
      rw [f_RM_reads_l2]
      simp (disch := first | assumption | omega) only [z_bdn, z_caln, z_gdn, z_iT, z_iF, z_le_t, z_le_f, z_lt_t, z_lt_f, z_cl, z_inb, z_at, z_pl, z_lit, nI_ii1, nI_add, nI_mul, z_eq_f, z_refuse, z_no, z_M00, b2i_t, b2i_f, h0]
    | succ m ih =>
      intro n j M hj hn h0 hB h7
      obtain ⟨n, rfl, hn⟩ := z_succ hn
      have eB := hB j (by omega)
      obtain ⟨k1, -⟩ := kn_1 (hV j (by omega))
      obtain ⟨M', g1, g2, g3⟩ := ih n (j + 1) (sA M 147 (upd (mA M 147) j (oI (knO (V j))))) (by omega) (by omega) h0 hB (fun i hi => by
        rw [mA_sA, if_pos rfl, upd_at]
        by_cases he : i = j
        · rw [if_pos he, he]
        · rw [if_neg he]; exact h7 i (by omega))
      refine ⟨M', ?_, g2, Fr.tr (Fr.sA rfl) g3⟩
      rw [f_RM_reads_l2]
      simp (disch := first | assumption | omega) only [z_bdn, z_caln, z_gdn, z_iT, z_iF, z_le_t, z_le_f, z_lt_t, z_lt_f, z_cl, z_inb, z_at, z_pl, z_lit, nI_ii1, nI_add, nI_mul, z_eq_f, z_refuse, z_no, z_M00, b2i_t, b2i_f, h0, f_RM_numberOf, eB, k1]
      exact g1
  obtain ⟨M', g1, g2, g3⟩ := key W FU 0 M (by omega) (FU_lt (by omega)) hG0 hB (fun i hi => absurd hi (by omega))
  refine ⟨M', ?_, g2, g3⟩
  rw [f_RM_reads]
  simp (disch := first | assumption | omega) only [z_bdn, z_caln, z_gdn, z_iT, z_iF, z_le_t, z_le_f, z_lt_t, z_lt_f, z_cl, z_inb, z_at, z_pl, z_lit, nI_ii1, nI_add, nI_mul, z_eq_f, z_refuse, z_no, z_M00, b2i_t, b2i_f]
  exact g1
theorem q_whyNoFill (hI : IM M σ) (k p : Int32) : f_RM_whyNoFill k p M = some (nI (snS k p σ), M) := by
  have g1 := q_isTray p M
  have g2 := g_isClause hI k
  rw [f_RM_whyNoFill]
  unfold snS
  cases hx : ix p 4
  · rw [hx] at g1
    simp (disch := first | assumption | omega) only [z_bdn, z_caln, z_gdn, z_iT, z_iF, z_le_t, z_le_f, z_lt_t, z_lt_f, z_cl, z_inb, z_at, z_pl, z_lit, nI_ii1, nI_add, nI_mul, z_eq_f, z_refuse, z_no, z_M00, b2i_t, b2i_f, g1, Bool.false_eq_true]
  · rw [hx] at g1
    obtain ⟨t, ht, rfl⟩ := ix_ex (by omega) hx
    have e1 : (nI t).toNatClampNeg = t := z_cl (by omega)
    have ks := q_whyNoRun (a := 1) hI ht
    rw [← m1_sub] at ks
    cases hy : ix k (dC (gY σ))
    · rw [hy] at g2
      simp (disch := first | assumption | omega) only [z_bdn, z_caln, z_gdn, z_iT, z_iF, z_le_t, z_le_f, z_lt_t, z_lt_f, z_cl, z_inb, z_at, z_pl, z_lit, nI_ii1, nI_add, nI_mul, z_eq_f, z_refuse, z_no, z_M00, b2i_t, b2i_f, g1, g2, Bool.false_eq_true]
    · rw [hy] at g2
      rw [e1]
      simp (disch := first | assumption | omega) only [z_bdn, z_caln, z_gdn, z_iT, z_iF, z_le_t, z_le_f, z_lt_t, z_lt_f, z_cl, z_inb, z_at, z_pl, z_lit, nI_ii1, nI_add, nI_mul, z_eq_f, z_refuse, z_no, z_M00, b2i_t, b2i_f, g1, g2, ks]
theorem IM_F (hI : IM M σ) {p : Nat → Prop} (hF : Fr p M M') (hp : ∀ id, p id → id = 147 ∨ id = 148 ∨ id = 149) : IM M' σ := IM_fr hF (fun id e => by have := hp id e; omega) ((hF 140 (fun e => by have := hp 140 e; omega)).2.2.1) hI
/-- read, then filled -/
theorem q_rdfill {u : Int32} (hI : IM M (wS σ u)) {k t : Nat} (hk : k < dC (gY σ)) (ht : t < 4) (h0 : kindS 1 t σ = 0) : ∃ M1 M', f_RM_reads (nI t) M = some ((), M1) ∧ (∀ j, j < cW (gX σ) → mA M1 147 j = oI (knT t σ j)) ∧ Fr (fun id => id = 147) M M1 ∧ f_RM_filling (nI k) M1 = some (nI (wv (dL (gY σ) k) (rnN (gY σ) k (dL (gY σ) k)) (knT t σ) (cW (gX σ)) (dL (gY σ) k)), M') ∧ Fr (fun id => id = 148 ∨ id = 149) M1 M' := by
  obtain ⟨hO, hC, hP, hD⟩ := IM_get hI
  have w8 := hO.1.2
  obtain ⟨hr, ha⟩ := kindS0 h0
  obtain ⟨hm, hl⟩ := runS0 hr
  obtain ⟨hT, -⟩ := IM_tr hI ht
  obtain ⟨M1, a1, a2, a3⟩ := q_reads (V := tV (gT σ t)) w8 ht hC.1 (fun j hj => (hT.2 hm).2.2 j (show j < tL (gT σ t) by omega)) ha
  have e140 := (a3 140 (by decide)).2.2.1
  obtain ⟨M', b1, b2⟩ := q_filling (M := M1) (h := mB M 143) (kn := knT t σ) hP (by rw [e140]; exact hD) (by rw [e140]; exact hC.1) w8 hk (knT_lt h0) a2
  exact ⟨M1, M', a1, a2, a3, b1, b2⟩
theorem pM_fills (k p : Int32) : PM (f_RM_fills k p) (o_fills k p) := by
  intro M σ h
  have h1 := IM_th (nI 0) h
  have g := q_whyNoFill h1 k p
  have lt := snS_lt k p σ
  have st : ∀ v, mI (sI (sI M 135 1 (nI 0)) 135 0 v) 135 0 = v := fun v => rfl
  rw [f_RM_fills]
  unfold o_fills
  cases hp : snS k p σ with
  | succ n =>
    rw [hp] at g
    refine ⟨_, ?_, IM_st (nI (n + 1)) h1, Lo_th.tr Lo_st⟩
    simp (disch := first | assumption | omega) only [z_bdn, z_caln, z_gdn, z_iT, z_iF, z_le_t, z_le_f, z_lt_t, z_lt_f, z_cl, z_inb, z_at, z_pl, z_lit, nI_ii1, nI_add, nI_mul, z_eq_f, z_refuse, z_no, z_M00, b2i_t, b2i_f, g, st, oS]
  | zero =>
    rw [hp] at g
    obtain ⟨hx, hy, h0⟩ := snS0 hp
    have hI := IM_00 h
    have w2 : dC (gY σ) ≤ 6 := h.1.1.2.2.1.2.1
    obtain ⟨t, ht, rfl⟩ := ix_ex (by omega) hx
    obtain ⟨a, ha, rfl⟩ := ix_ex (by omega) hy
    have e1 : (nI t).toNatClampNeg = t := z_cl (by omega)
    have e2 : (nI a).toNatClampNeg = a := z_cl (by omega)
    rw [e1] at h0
    obtain ⟨M1, M', a1, -, a2, b1, b2⟩ := q_rdfill hI ha ht h0
    have hF : Fr (fun id => id = 147 ∨ id = 148 ∨ id = 149) (M00 M) M' := (a2.mono (fun id e => Or.inl e)).tr (b2.mono (fun id e => Or.inr e))
    have st0 : mI (M00 M) 135 0 = nI 0 := rfl
    unfold flN
    rw [e1, e2]
    refine ⟨M', ?_, IM_F hI hF (fun _ e => e), Lo_00.tr (hF.mono (fun id e => by show 135 ≤ id; omega))⟩
    simp (disch := first | assumption | omega) only [z_bdn, z_caln, z_gdn, z_iT, z_iF, z_le_t, z_le_f, z_lt_t, z_lt_f, z_cl, z_inb, z_at, z_pl, z_lit, nI_ii1, nI_add, nI_mul, z_eq_f, z_refuse, z_no, z_M00, b2i_t, b2i_f, g, st0, a1, b1, oS]
end
