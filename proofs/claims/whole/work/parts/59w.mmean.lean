/-! ## the mean: the reference -/
theorem jJ_add {a b : Nat} (h : a + b < 2147483648) : jJ a + jJ b = jJ (a + b) := jJ_of h (by
  rw [Int64.toInt_add, jJ_toInt (by omega), jJ_toInt (by omega), i64_bm (by omega) (by omega)]
  omega)
section
variable {M M' : kx_M} {σ : Sg} {v : Lv}
def FrW (M M' : kx_M) : Prop := Fr (fun id => id = 135 ∨ id = 140 ∨ id = 142 ∨ id = 144) M M' ∧ mA M' 140 = mA M 140 ∧ (∀ k, k < 37 ∨ 44 < k → mI M' 135 k = mI M 135 k) ∧ (∀ k, mJ M' 135 k = mJ M 135 k)
theorem IM_W (hF : FrW M M') (h : IM M σ) : IM M' σ := by
  have n : ∀ id, (id = 136 ∨ id = 137 ∨ id = 138 ∨ id = 139 ∨ id = 143 ∨ id = 150) → ¬ (id = 135 ∨ id = 140 ∨ id = 142 ∨ id = 144) := fun id e1 e => by omega
  obtain ⟨hO, hS, ⟨a1, a2, a3, a4, a5⟩, hT, ⟨b1, b2⟩, ⟨c1, c2⟩, ⟨d1, d2⟩⟩ := h
  obtain ⟨hF, e140, f0, j0⟩ := hF
  have e136 := (hF 136 (n _ (by omega))).2.2.1
  have e137 := (hF 137 (n _ (by omega))).2.2.1
  have e138 := (hF 138 (n _ (by omega))).2.2.2.1
  have e139 := (hF 139 (n _ (by omega))).2.2.1
  have e143 := (hF 143 (n _ (by omega))).2.2.2.1
  have e150 := (hF 150 (n _ (by omega))).2.2.1
  unfold IM MT
  rw [f0 0 (by omega), f0 10 (by omega), f0 11 (by omega), f0 8 (by omega), f0 24 (by omega), f0 36 (by omega), j0, j0, e136, e137, e138, e139, e140, e143, e150]
  exact ⟨hO, hS, ⟨a1, a2, a3, a4, a5⟩, hT, ⟨b1, b2⟩, ⟨c1, c2⟩, ⟨d1, d2⟩⟩
theorem FrW.lo (hF : FrW M M') : Lo M M' := hF.1.mono (fun id e => by show 135 ≤ id; omega)
theorem q_mean_l119 {p1 p2 x5 : Int32} {x3 : Int64} {K : Int64 → Int32 → kx_M → Option (Int32 × kx_M)} : ∀ (m n i : Nat) (M : kx_M), i + m = 496 → m < n → (∀ k, k < i → mA M 140 k = mA M 142 k) → ∃ M', f_RM_mean_l119 p1 p2 K n x3 x5 (nI i) M = K x3 (x5 + Int32.ofInt 1) M' ∧ Fr (fun id => id = 140) M M' ∧ (∀ k, k < 496 → mA M' 140 k = mA M 142 k) ∧ ∀ k, 496 ≤ k → mA M' 140 k = mA M 140 k := by
  intro m
  induction m with
  | zero =>
    intro n i M hi hn hk
    obtain ⟨n, rfl, hn⟩ := z_succ hn
    obtain rfl : i = 496 := by omega
    refine ⟨M, ?_, Fr.rf, hk, fun _ _ => rfl⟩
    rw [f_RM_mean_l119]
    simp (disch := first | assumption | omega) only [z_bdn, z_caln, z_gdn, z_iT, z_iF, z_le_t, z_le_f, z_lt_t, z_lt_f, z_cl, z_inb, z_at, z_pl, z_lit, nI_ii1, nI_add, nI_mul, z_eq_f, z_refuse, z_no, z_M00, b2i_t, b2i_f]
  | succ m ih =>
    intro n i M hi hn hk
    obtain ⟨n, rfl, hn⟩ := z_succ hn
    obtain ⟨M', b1, b2, b3, b4⟩ := ih n (i + 1) (sA M 140 (upd (mA M 140) i (mA M 142 i))) (by omega) (by omega) (fun k hk1 => by
      rw [mA_sA, if_pos rfl, mA_sA, if_neg (by decide), upd_at]
      by_cases he : k = i
      · rw [if_pos he, he]
      · rw [if_neg he]; exact hk k (by omega))
    refine ⟨M', ?_, Fr.tr (Fr.sA rfl) b2, fun k hk1 => (b3 k hk1).trans (by rw [mA_sA, if_neg (by decide)]), fun k hk1 => (b4 k hk1).trans (by rw [mA_sA, if_pos rfl, upd_at, if_neg (by omega)])⟩
    rw [f_RM_mean_l119]
    simp (disch := first | assumption | omega) only [z_bdn, z_caln, z_gdn, z_iT, z_iF, z_le_t, z_le_f, z_lt_t, z_lt_f, z_cl, z_inb, z_at, z_pl, z_lit, nI_ii1, nI_add, nI_mul, z_eq_f, z_refuse, z_no, z_M00, b2i_t, b2i_f]
    exact b1
theorem q_mean_l63 {p1 p2 : Int32} : ∀ (m n i : Nat) (M : kx_M), i + m = 496 → m < n → (∀ k, k < i → mA M 142 k = mA M 140 k) → ∃ M', f_RM_mean_l63 p1 p2 n (nI i) M = f_RM_mean_l93 p1 p2 FU 0 (nI 0) M' ∧ Fr (fun id => id = 142) M M' ∧ (∀ k, k < 496 → mA M' 142 k = mA M 140 k) := by
  intro m
  induction m with
  | zero =>
    intro n i M hi hn hk
    obtain ⟨n, rfl, hn⟩ := z_succ hn
    obtain rfl : i = 496 := by omega
    refine ⟨M, ?_, Fr.rf, hk⟩
    rw [f_RM_mean_l63]
    simp (disch := first | assumption | omega) only [z_bdn, z_caln, z_gdn, z_iT, z_iF, z_le_t, z_le_f, z_lt_t, z_lt_f, z_cl, z_inb, z_at, z_pl, z_lit, nI_ii1, nI_add, nI_mul, z_eq_f, z_refuse, z_no, z_M00, b2i_t, b2i_f]
  | succ m ih =>
    intro n i M hi hn hk
    obtain ⟨n, rfl, hn⟩ := z_succ hn
    obtain ⟨M', b1, b2, b3⟩ := ih n (i + 1) (sA M 142 (upd (mA M 142) i (mA M 140 i))) (by omega) (by omega) (fun k hk1 => by
      rw [mA_sA, if_pos rfl, mA_sA, if_neg (by decide), upd_at]
      by_cases he : k = i
      · rw [if_pos he, he]
      · rw [if_neg he]; exact hk k (by omega))
    refine ⟨M', ?_, Fr.tr (Fr.sA rfl) b2, fun k hk1 => (b3 k hk1).trans (by rw [mA_sA, if_neg (by decide)])⟩
    rw [f_RM_mean_l63]
    simp (disch := first | assumption | omega) only [z_bdn, z_caln, z_gdn, z_iT, z_iF, z_le_t, z_le_f, z_lt_t, z_lt_f, z_cl, z_inb, z_at, z_pl, z_lit, nI_ii1, nI_add, nI_mul, z_eq_f, z_refuse, z_no, z_M00, b2i_t, b2i_f]
    exact b1
theorem q_Mmean {s : Nat} {u : Int32} {M0 : kx_M} (hI : IM M0 (wS σ u)) (hzt : (gZ σ).1 = true) {N : Nat} (hN : 1 ≤ N ∧ N ≤ 20) (hs : s + N ≤ 10000) : ∀ (m n k : Nat) (M1 : kx_M), k + m = N → m < n → FrW M0 M1 → (∀ k, k < 496 → mA M1 142 k = mA M0 140 k) → ∃ M', f_RM_mean_l93 (nI s) (nI N) n (jJ (menT σ s k)) (nI k) M1 = some (nI 1, M') ∧ IM M' (wF (wS σ u) (frT (menT σ s N) N) (frU (menT σ s N) N)) ∧ Lo M0 M' := by
  intro m
  induction m with
  | zero =>
    intro n k M1 hk hn hF h142
    obtain ⟨n, rfl, hn⟩ := z_succ hn
    obtain rfl : k = N := by omega
    have h := IM_W hF hI
    obtain ⟨hO, hC, hP, hD, hZ, hY, hw⟩ := IM_Z h
    have hle := menT_le (s := s) hO hY (hw hzt) k (by omega)
    have eT : f_RM_fraction (jJ (menT σ s k)) (nI k).toInt64 M1 = _ := q_frac (show menT σ s k < 2147483648 by omega) (show k < 2147483648 by omega) (by omega)
    have b1 : b01 (nI 1) = true := by decide
    refine ⟨_, ?_, IM_wF _ _ h, hF.lo.tr (Fr.tr (Fr.sJ (by decide)) (Fr.sJ (by decide)))⟩
    rw [f_RM_mean_l93]
    simp (disch := first | assumption | omega) only [z_bdn, z_caln, z_gdn, z_iT, z_iF, z_le_t, z_le_f, z_lt_t, z_lt_f, z_cl, z_inb, z_at, z_pl, z_lit, nI_ii1, nI_add, nI_mul, z_eq_f, z_refuse, z_no, z_M00, b2i_t, b2i_f, eT, b1]
  | succ m ih =>
    intro n k M1 hk hn hF h142
    obtain ⟨n, rfl, hn⟩ := z_succ hn
    have h := IM_W hF hI
    obtain ⟨hO, hC, hP, hD, hZ, hY, hw⟩ := IM_Z h
    obtain ⟨M2, a1, a2, a3, a4⟩ := q_runsC (s := s + k) hP hO hY (by omega) hC hD hZ hzt (hw hzt)
    have a2 : RL M2 (lfS σ (s + k)) := a2
    have hv := OkV_lfS (s := s + k) hO hY (hw hzt) (by omega)
    have eS : f_RM_sumOf (nI 0) M2 = some (nI (sunN (vX (lfS σ (s + k)))), M2) := q_sumOf (v := 0) hv.1 a2.1 (Or.inl ⟨rfl, rfl⟩)
    have hle := menT_le (s := s) hO hY (hw hzt) k (by omega)
    have h96 := sunN_96 hv.1
    have eJ : jJ (menT σ s k) + (nI (sunN (vX (lfS σ (s + k))))).toInt64 = jJ (menT σ s (k + 1)) := jJ_add (show menT σ s k + sunN (vX (lfS σ (s + k))) < 2147483648 by omega)
    obtain ⟨aF, aC, aI, aJ⟩ := a4
    obtain ⟨M3, b1, b2, b3, b4⟩ := q_mean_l119 (p1 := nI s) (p2 := nI N) (x5 := nI k) (x3 := jJ (menT σ s (k + 1))) (K := f_RM_mean_l93 (nI s) (nI N) n) 496 FU 0 M2 (by omega) (FU_lt (by omega)) (fun j hj => absurd hj (by omega))
    have e142 : mA M2 142 = mA M1 142 := (aF 142 (by decide)).2.2.1
    obtain ⟨f1, f2, f3, f4⟩ := hF
    have hF3 : FrW M0 M3 := by
      refine ⟨f1.tr ((aF.mono (fun id e => by omega)).tr (b2.mono (fun id e => by omega))), funext (fun p => ?_), fun j hj => ?_, fun j => ?_⟩
      · by_cases hp : p < 496
        · rw [b3 p hp, e142, h142 p hp]
        · rw [b4 p (by omega), aC p (by omega) (by omega), f2]
      · rw [(b2 135 (by decide)).1 j, aI j hj, f3 j hj]
      · rw [(b2 135 (by decide)).2.1 j, aJ j, f4 j]
    obtain ⟨M', c1, c2, c3⟩ := ih n (k + 1) M3 (by omega) (by omega) hF3 (fun j hj => by rw [(b2 142 (by decide)).2.2.1, e142]; exact h142 j hj)
    refine ⟨M', ?_, c2, c3⟩
    rw [f_RM_mean_l93]
    simp (disch := first | assumption | omega) only [z_bdn, z_caln, z_gdn, z_iT, z_iF, z_le_t, z_le_f, z_lt_t, z_lt_f, z_cl, z_inb, z_at, z_pl, z_lit, nI_ii1, nI_add, nI_mul, z_eq_f, z_refuse, z_no, z_M00, b2i_t, b2i_f, a1, eS, eJ]
    refine Eq.trans b1 ?_
    rw [nI_ii1]
    exact c1
theorem pM_mean (p q : Int32) : PM (f_RM_mean p q) (o_mean p q) := by
  intro M σ h
  have h0 := IM_00 h
  have g3 := rg_isIn q (A := 1) (B := 20) (a := 1) (b := 20) rfl rfl (M00 M)
  have b0 : b01 (nI 0) = true := by decide
  rw [f_RM_mean]
  unfold o_mean
  cases hq : rg q 1 20
  · rw [hq] at g3
    refine ⟨_, ?_, IM_r (nI 5) h0, lo_ref Lo_00⟩
    simp (disch := first | assumption | omega) only [z_bdn, z_caln, z_gdn, z_iT, z_iF, z_le_t, z_le_f, z_lt_t, z_lt_f, z_cl, z_inb, z_at, z_pl, z_lit, nI_ii1, nI_add, nI_mul, z_eq_f, z_refuse, z_no, z_M00, b2i_t, b2i_f, g3, oB, b0]
  · rw [hq] at g3
    obtain ⟨N, hN1, hN2, rfl⟩ := rg_ex (by omega) hq
    have eN : (nI N).toNatClampNeg = N := z_cl (by omega)
    simp only [oB]
    rw [eN]
    have z3 : nI 10000 - nI N = nI (10000 - N) := z_sub (by omega)
    have g4 := rg_isIn p (A := 0) (B := (nI (10000 - N)).toInt64) (a := 0) (b := 10000 - N) rfl (jJ_toInt (show 10000 - N < 2147483648 by omega)) (M00 M)
    cases hp : rg p 0 (10000 - N)
    · rw [hp] at g4
      refine ⟨_, ?_, IM_r (nI 5) h0, lo_ref Lo_00⟩
      simp (disch := first | assumption | omega) only [z_bdn, z_caln, z_gdn, z_iT, z_iF, z_le_t, z_le_f, z_lt_t, z_lt_f, z_cl, z_inb, z_at, z_pl, z_lit, nI_ii1, nI_add, nI_mul, z_eq_f, z_refuse, z_no, z_M00, b2i_t, b2i_f, g3, z3, g4, b0]
    · rw [hp] at g4
      obtain ⟨a, -, ha, rfl⟩ := rg_ex (by omega) hp
      have ea : (nI a).toNatClampNeg = a := z_cl (by omega)
      rw [ea]
      have e496 : mA (M00 M) 140 496 = b2i (gZ σ).1 := h0.2.1.2.2.1
      cases hzt : (gZ σ).1 with
      | false =>
        rw [hzt] at e496
        refine ⟨_, ?_, IM_r (nI 8) h0, lo_ref Lo_00⟩
        simp (disch := first | assumption | omega) only [z_bdn, z_caln, z_gdn, z_iT, z_iF, z_le_t, z_le_f, z_lt_t, z_lt_f, z_cl, z_inb, z_at, z_pl, z_lit, nI_ii1, nI_add, nI_mul, z_eq_f, z_refuse, z_no, z_M00, b2i_t, b2i_f, g3, z3, g4, e496, b0]
      | true =>
        rw [hzt] at e496
        obtain ⟨M1, a1, a2, a3⟩ := q_mean_l63 (p1 := nI a) (p2 := nI N) 496 FU 0 (M00 M) (by omega) (FU_lt (by omega)) (fun k hk => absurd hk (by omega))
        have hF : FrW (M00 M) M1 := ⟨a2.mono (fun id e => by omega), (a2 140 (by decide)).2.2.1, fun k _ => (a2 135 (by decide)).1 k, fun k => (a2 135 (by decide)).2.1 k⟩
        obtain ⟨M', b1, b2, b3⟩ := q_Mmean h0 hzt ⟨hN1, hN2⟩ (show a + N ≤ 10000 by omega) N FU 0 M1 (by omega) (FU_lt (by omega)) hF a3
        refine ⟨M', ?_, b2, Lo_00.tr b3⟩
        have b1 : f_RM_mean_l93 (nI a) (nI N) FU 0 (nI 0) M1 = some (nI 1, M') := b1
        simp (disch := first | assumption | omega) only [z_bdn, z_caln, z_gdn, z_iT, z_iF, z_le_t, z_le_f, z_lt_t, z_lt_f, z_cl, z_inb, z_at, z_pl, z_lit, nI_ii1, nI_add, nI_mul, z_eq_f, z_refuse, z_no, z_M00, b2i_t, b2i_f, g3, z3, g4, e496]
        exact a1.trans b1
end
