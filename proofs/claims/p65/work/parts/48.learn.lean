def jJ (n : Nat) : Int64 := (nI n).toInt64
theorem jJ_eq {u v : Nat} (hu : u < 1024) (hv : v < 1024) : (jJ u = jJ v) = (u = v) := propext ⟨(fun e => by
  have h : (jJ u).toInt = (jJ v).toInt := by rw [e]
  unfold jJ at h
  rw [Int32.toInt_toInt64, Int32.toInt_toInt64, nI_toInt (by omega), nI_toInt (by omega)] at h
  omega), (fun e => by rw [e])⟩
theorem lg_eq (a b : Int64) : (lg_cmp a b = nI 0) = (a = b) := by
  have h1 := z_clt a b
  have h2 := z_cgt a b
  refine propext ⟨fun e => ?_, fun e => ?_⟩
  · rw [e] at h1 h2
    have n1 : ¬ a < b := fun h => absurd (h1.mpr h) (by decide)
    have n2 : ¬ b < a := fun h => absurd (h2.mpr h) (by decide)
    exact Int64.le_antisymm (Int64.not_lt.mp n2) (Int64.not_lt.mp n1)
  · have n1 : ¬ lg_cmp a b < nI 0 := fun h => Int64.lt_irrefl (h1.mp h |> fun g => by rw [e] at g; exact g)
    have n2 : ¬ nI 0 < lg_cmp a b := fun h => Int64.lt_irrefl (h2.mp h |> fun g => by rw [e] at g; exact g)
    exact Int32.le_antisymm (Int32.not_lt.mp n2) (Int32.not_lt.mp n1)
theorem jJ_shl : ∀ c, c < 256 → ∀ a, a < 4 → (jJ c <<< ((nI 2).toInt64 &&& 63)) ||| (nI a).toInt64 = jJ (4 * c + a) := by decide +kernel
theorem jJ_shr : ∀ d, d < 6 → ∀ c, c < 1024 → jJ c >>> ((nI (d * 2)).toInt64 &&& 63) = jJ (c / 4 ^ d) := by decide +kernel
theorem jJ_low : ∀ d, d < 6 → ((1 : Int64) <<< ((nI (d * 2)).toInt64 &&& 63)) - 1 = jJ (4 ^ d - 1) := by decide +kernel
theorem jJ_and : ∀ d, d < 6 → ∀ v, v < 1024 → jJ v &&& jJ (4 ^ d - 1) = jJ (v % 4 ^ d) := by decide +kernel
theorem z_dec : ∀ j, j < 10 → nI (j + 1) + Int32.ofInt (-1) = nI j := by decide +kernel
section
variable {M M' : kx_M} {σ : Sg} {x : Cl} {y : De}
theorem fO_lt {L c j : Nat} (hc : c < 4 ^ L) (hL : L ≤ 5) (hj : j ≤ L) : fO L c j < 4 ^ j := by
  unfold fO
  refine (Nat.div_lt_iff_lt_mul (Nat.pow_pos (by omega))).mpr ?_
  rw [← Nat.pow_add, show j + (L - j) = L from by omega]
  exact hc
theorem pw5 {j : Nat} (h : j ≤ 5) : 4 ^ j ≤ 1024 := show 4 ^ j ≤ 4 ^ 5 from Nat.pow_le_pow_right (by omega) h
theorem pw4 {j : Nat} (h : j ≤ 4) : 4 ^ j ≤ 256 := show 4 ^ j ≤ 4 ^ 4 from Nat.pow_le_pow_right (by omega) h
theorem q_firstOf {L c j : Nat} (hc : c < 1024) (hL : L ≤ 5) (hj : j ≤ L) (h3 : mI M 13 3 = nI L) : f_Seen_firstOf (jJ c) (nI j) M = some (jJ (fO L c j), M) := by
  have e := jJ_shr (L - j) (by omega) c hc
  rw [f_Seen_firstOf, h3]
  simp (disch := first | assumption | omega) only [z_bdn, z_caln, z_gdn, z_iT, z_iF, z_le_t, z_le_f, z_lt_t, z_lt_f, z_cl, z_inb, z_at, z_lit, nI_ii1, nI_add, z_mr, z_ref0, z_refn, z_eq_f, Bool.not_true, Bool.not_false, b2i_t, b2i_f, z_sub, e]
  rfl
theorem q_lowest {j : Nat} (hj : j < 6) (M : kx_M) : f_Seen_lowest (nI j) M = some (jJ (4 ^ j - 1), M) := by
  have e := jJ_low j hj
  rw [f_Seen_lowest]
  simp (disch := first | assumption | omega) only [z_bdn, z_caln, z_gdn, z_iT, z_iF, z_le_t, z_le_f, z_lt_t, z_lt_f, z_cl, z_inb, z_at, z_lit, nI_ii1, nI_add, z_mr, z_ref0, z_refn, z_eq_f, Bool.not_true, Bool.not_false, b2i_t, b2i_f, e]
theorem q_learn_l58 {d L c s a v : Nat} {p : Int32} {K : Int64 → Int32 → Int32 → kx_M → Option (Unit × kx_M)} (hc : c < 4 ^ L) (hL : L ≤ 5) (hs : s < L) (hv : v < 1024) (h3 : mI M 13 3 = nI L) : ∀ (j n : Nat), j ≤ s + 1 → j < n → f_Seen_learn_l58 d p K n (jJ c) (nI s) (nI a) (jJ v) (nI j) M = f_Seen_learn_l88 d p K (jJ c) (nI s) (nI a) (nI (dlF L c v j)) M := by
  have p5 := pw5 hL
  intro j
  induction j with
  | zero =>
    intro n hj hn
    obtain ⟨n, rfl, hn⟩ := z_succ hn
    rw [f_Seen_learn_l58]
    simp (disch := first | assumption | omega) only [z_bdn, z_caln, z_gdn, z_iT, z_iF, z_le_t, z_le_f, z_lt_t, z_lt_f, z_cl, z_inb, z_at, z_lit, nI_ii1, nI_add, z_mr, z_ref0, z_refn, z_eq_f, Bool.not_true, Bool.not_false, b2i_t, b2i_f]
    rfl
  | succ j ih =>
    intro n hj hn
    obtain ⟨n, rfl, hn⟩ := z_succ hn
    have h1 := ih n (by omega) (by omega)
    have e1 := q_lowest (show j + 1 < 6 by omega) M
    have e2 := q_firstOf (c := c) (by omega) hL (show j + 1 ≤ L by omega) h3
    have e3 := jJ_and (j + 1) (by omega) v hv
    have e4 := z_dec j (by omega)
    have l1 := fO_lt hc hL (show j + 1 ≤ L by omega)
    have l2 := pw5 (show j + 1 ≤ 5 by omega)
    have l3 : v % 4 ^ (j + 1) < 1024 := Nat.lt_of_le_of_lt (Nat.mod_le _ _) hv
    have e5 : (jJ (v % 4 ^ (j + 1)) = jJ (fO L c (j + 1))) = (v % 4 ^ (j + 1) = fO L c (j + 1)) := jJ_eq l3 (by omega)
    rw [f_Seen_learn_l58]
    by_cases hq : v % 4 ^ (j + 1) = fO L c (j + 1)
    · rw [show dlF L c v (j + 1) = j + 1 from if_pos hq]
      rw [e1]
      simp (disch := first | assumption | omega) only [z_bdn, z_caln, z_gdn, z_iT, z_iF, z_le_t, z_le_f, z_lt_t, z_lt_f, z_cl, z_inb, z_at, z_lit, nI_ii1, nI_add, z_mr, z_ref0, z_refn, z_eq_f, Bool.not_true, Bool.not_false, b2i_t, b2i_f, e2, e3, lg_eq, e5, hq]
    · rw [show dlF L c v (j + 1) = dlF L c v j from if_neg hq]
      rw [e1]
      simp (disch := first | assumption | omega) only [z_bdn, z_caln, z_gdn, z_iT, z_iF, z_le_t, z_le_f, z_lt_t, z_lt_f, z_cl, z_inb, z_at, z_lit, nI_ii1, nI_add, z_mr, z_ref0, z_refn, z_eq_f, Bool.not_true, Bool.not_false, b2i_t, b2i_f, e2, e3, lg_eq, e5, hq, e4]
      exact h1
def tbOk (M : kx_M) (L c n : Nat) : Prop := ∀ s a, s < L → a < 4 → 4 * s + a < n → mA M 15 (4 * s + a) = nI (dlN L c s a)
theorem q_learn_l31 {d L c s : Nat} {p : Int32} {K : Int64 → Int32 → kx_M → Option (Unit × kx_M)} (hc : c < 4 ^ L) (hL : L ≤ 5) (hs : s < L) : ∀ (m n a : Nat) (M : kx_M), a + m = 4 → m < n → mI M 13 3 = nI L → tbOk M L c (4 * s + a) → ∃ M', f_Seen_learn_l31 d p K n (jJ c) (nI s) (nI a) M = K (jJ c) (nI (s + 1)) M' ∧ tbOk M' L c (4 * (s + 1)) ∧ Fr (fun id => id = 15) M M' := by
  have p5 := pw5 hL
  intro m
  induction m with
  | zero =>
    intro n a M ha hn h3 hT
    obtain ⟨n, rfl, hn⟩ := z_succ hn
    obtain rfl : a = 4 := by omega
    refine ⟨M, ?_, hT, Fr.rf⟩
    rw [f_Seen_learn_l31]
    simp (disch := first | assumption | omega) only [z_bdn, z_caln, z_gdn, z_iT, z_iF, z_le_t, z_le_f, z_lt_t, z_lt_f, z_cl, z_inb, z_at, z_lit, nI_ii1, nI_add, z_mr, z_ref0, z_refn, z_eq_f, Bool.not_true, Bool.not_false, b2i_t, b2i_f]
  | succ m ih =>
    intro n a M ha hn h3 hT
    obtain ⟨n, rfl, hn⟩ := z_succ hn
    have l1 := fO_lt hc hL (show s ≤ L by omega)
    have l2 := pw4 (show s ≤ 4 by omega)
    have e2 := q_firstOf (c := c) (by omega) hL (show s ≤ L by omega) h3
    have e3 := jJ_shl (fO L c s) (by omega) a (by omega)
    have e4 := q_learn_l58 (d := d) (p := p) (K := f_Seen_learn_l31 d p K n) (a := a) (v := 4 * fO L c s + a) hc hL hs (by omega) h3 (s + 1) FU (by omega) (FU_lt (by omega))
    have hT2 : tbOk (sA M 15 (upd (mA M 15) (4 * s + a) (nI (dlN L c s a)))) L c (4 * s + (a + 1)) := fun s' a' hs' ha' hlt => by
      rw [mA_sA, if_pos rfl, upd_at]
      by_cases he : 4 * s' + a' = 4 * s + a
      · rw [if_pos he]
        obtain rfl : s' = s := by omega
        obtain rfl : a' = a := by omega
        rfl
      · rw [if_neg he]
        exact hT s' a' hs' ha' (by omega)
    obtain ⟨M', g1, g2, g3⟩ := ih n (a + 1) (sA M 15 (upd (mA M 15) (4 * s + a) (nI (dlN L c s a)))) (by omega) (by omega) h3 hT2
    refine ⟨M', ?_, g2, Fr.tr (Fr.sA rfl) g3⟩
    rw [f_Seen_learn_l31]
    simp (disch := first | assumption | omega) only [z_bdn, z_caln, z_gdn, z_iT, z_iF, z_le_t, z_le_f, z_lt_t, z_lt_f, z_cl, z_inb, z_at, z_lit, nI_ii1, nI_add, z_mr, z_ref0, z_refn, z_eq_f, Bool.not_true, Bool.not_false, b2i_t, b2i_f, e2, e3, e4, f_Seen_learn_l88]
    exact g1
theorem q_learn_l19 {d L c : Nat} {p : Int32} (hc : c < 4 ^ L) (hL : L ≤ 5) : ∀ (m n s : Nat) (M : kx_M), s + m = L → m < n → mI M 13 3 = nI L → tbOk M L c (4 * s) → ∃ M', f_Seen_learn_l19 d p n (jJ c) (nI s) M = some ((), M') ∧ tbOk M' L c (4 * L) ∧ Fr (fun id => id = 15) M M' := by
  intro m
  induction m with
  | zero =>
    intro n s M hs hn h3 hT
    obtain ⟨n, rfl, hn⟩ := z_succ hn
    obtain rfl : s = L := by omega
    refine ⟨M, ?_, hT, Fr.rf⟩
    rw [f_Seen_learn_l19]
    simp (disch := first | assumption | omega) only [z_bdn, z_caln, z_gdn, z_iT, z_iF, z_le_t, z_le_f, z_lt_t, z_lt_f, z_cl, z_inb, z_at, z_lit, nI_ii1, nI_add, z_mr, z_ref0, z_refn, z_eq_f, Bool.not_true, Bool.not_false, b2i_t, b2i_f, h3]
  | succ m ih =>
    intro n s M hs hn h3 hT
    obtain ⟨n, rfl, hn⟩ := z_succ hn
    obtain ⟨M1, a1, a2, a3⟩ := q_learn_l31 (d := d) (p := p) (K := f_Seen_learn_l19 d p n) hc hL (show s < L by omega) 4 FU 0 M (by omega) (FU_lt (by omega)) h3 hT
    obtain ⟨M', g1, g2, g3⟩ := ih n (s + 1) M1 (by omega) (by omega) (((a3 13 (by decide)).1 3).trans h3) a2
    refine ⟨M', ?_, g2, a3.tr g3⟩
    rw [f_Seen_learn_l19]
    simp (disch := first | assumption | omega) only [z_bdn, z_caln, z_gdn, z_iT, z_iF, z_le_t, z_le_f, z_lt_t, z_lt_f, z_cl, z_inb, z_at, z_lit, nI_ii1, nI_add, z_mr, z_ref0, z_refn, z_eq_f, Bool.not_true, Bool.not_false, b2i_t, b2i_f, h3]
    exact a1.trans g1
theorem q_runOf {d W k : Nat} (hP : OkD W y) (hD : CD M d y) (hk : k < dC y) : f_Deal_runOf d (nI k) M = some (jJ (rnN y k (dL y k)), M) := by
  have w2 := hP.2.1
  have hl := hP.2.2.2.1 k hk
  have eL := (hD.2.2.2.1 k hk).2
  have key : ∀ (m n i : Nat), i + m = dL y k → m < n → f_Deal_runOf_l5 d (nI k) n (jJ (rnN y k i)) (nI i) M = some (jJ (rnN y k (dL y k)), M) := by
    intro m
    induction m with
    | zero =>
      intro n i hi hn
      obtain ⟨n, rfl, hn⟩ := z_succ hn
      obtain rfl : i = dL y k := by omega
      rw [f_Deal_runOf_l5]
      simp (disch := first | assumption | omega) only [z_bdn, z_caln, z_gdn, z_iT, z_iF, z_le_t, z_le_f, z_lt_t, z_lt_f, z_cl, z_inb, z_at, z_lit, nI_ii1, nI_add, z_mr, z_ref0, z_refn, z_eq_f, Bool.not_true, Bool.not_false, b2i_t, b2i_f, eL]
    | succ m ih =>
      intro n i hi hn
      obtain ⟨n, rfl, hn⟩ := z_succ hn
      have h1 := ih n (i + 1) (by omega) (by omega)
      have eK := hD.2.2.2.2.1 k i hk (by omega)
      have l1 := rnN_lt hP hk i (by omega)
      have l2 := pw4 (show i ≤ 4 by omega)
      have hK4 : dK y (5 * k + i) < 4 := hP.2.2.2.2.1 k i hk (by omega)
      have e3 := jJ_shl (rnN y k i) (by omega) (dK y (5 * k + i)) hK4
      rw [f_Deal_runOf_l5]
      simp (disch := first | assumption | omega) only [z_bdn, z_caln, z_gdn, z_iT, z_iF, z_le_t, z_le_f, z_lt_t, z_lt_f, z_cl, z_inb, z_at, z_lit, nI_ii1, nI_add, z_mr, z_ref0, z_refn, z_eq_f, Bool.not_true, Bool.not_false, b2i_t, b2i_f, eL, eK, e3]
      exact h1
  exact key (dL y k) FU 0 (by omega) (FU_lt (by omega))
theorem q_learn {d W k : Nat} (hP : OkD W y) (hD : CD M d y) (hd : d + 7 < 135 ∧ 27 ≤ d) (hk : k < dC y) : ∃ M', f_Seen_learn d (nI k) M = some ((), M') ∧ mI M' 13 3 = nI (dL y k) ∧ tbOk M' (dL y k) (rnN y k (dL y k)) (4 * dL y k) ∧ Fr (fun id => id = 13 ∨ id = 15) M M' ∧ (∀ j, mR M' 13 j = mR M 13 j) := by
  have w2 := hP.2.1
  have hl := hP.2.2.2.1 k hk
  have eL := (hD.2.2.2.1 k hk).2
  have hF : Fr (fun id => id = 13) M (sI M 13 3 (nI (dL y k))) := Fr.sI rfl
  have er := q_runOf hP (CD_fr hF (fun id h1 h2 e => by omega) hD) hk
  obtain ⟨M', b1, b2, b3⟩ := q_learn_l19 (d := d) (p := nI k) (rnN_lt hP hk (dL y k) (Nat.le_refl _)) hl.2.1 (dL y k) FU 0 (sI M 13 3 (nI (dL y k))) (by omega) (FU_lt (by omega)) (by rw [mI_sI, if_pos ⟨rfl, rfl⟩]) (fun s a _ _ h => by omega)
  refine ⟨M', ?_, ((b3 13 (by decide)).1 3).trans (by rw [mI_sI, if_pos ⟨rfl, rfl⟩]), b2, (hF.mono (fun id e => Or.inl e)).tr (b3.mono (fun id e => Or.inr e)), fun j => (b3 13 (by decide)).2.2.2.2 j⟩
  rw [f_Seen_learn]
  simp (disch := first | assumption | omega) only [z_bdn, z_caln, z_gdn, z_iT, z_iF, z_le_t, z_le_f, z_lt_t, z_lt_f, z_cl, z_inb, z_at, z_lit, nI_ii1, nI_add, z_mr, z_ref0, z_refn, z_eq_f, Bool.not_true, Bool.not_false, b2i_t, b2i_f, eL, er]
  exact b1
end
