section
variable {M M' : kx_M} {σ : Sg} {y : De}
theorem shF_nz (S : Nat) : shF y S ≠ 0 := tO_nz rfl (by omega)
theorem q_join_l52 {d W S F : Nat} {p2 : Int32} (hP : OkD W y) (hne : nY y S ≠ 0) (hF0 : F ≠ 0) : ∀ (m n S0 : Nat) (D : Nat → Nat → Nat) (M : kx_M), S0 + m = 2 ^ nY y S → m < n → S0 ≠ 0 → JR M y S (dC y) → JD M (nY y S) D → jgB y S F S0 D → ∃ M', f_Joiner_join_l52 d p2 n (nI S0) M = some ((), M') ∧ JB M' F ∧ Fr (fun id => id = 18 ∨ id = 21 ∨ id = 22) M M' := by
  have h6 := nY_6 (S := S) hP
  have hfl : 2 ^ nY y S - 1 < 2 ^ nY y S := by have : 0 < 2 ^ nY y S := Nat.pow_pos (by omega); omega
  have h64 := pw_64 h6 hfl
  have s6 : nI 1 <<< (nI (nY y S) &&& nI 31) = nI (2 ^ nY y S) := z_bit (by omega)
  intro m
  induction m with
  | zero =>
    intro n S0 D M hm hn h0 hJ hD hG
    obtain ⟨n, rfl, hn⟩ := z_succ hn
    have hS0 : S0 = 2 ^ nY y S := by omega
    have e4 : mI M 18 4 = nI (nY y S) := hJ.1
    have hall : ∀ p, p < nY y S → D (2 ^ nY y S - 1) p ≠ 0 ∧ F ≤ D (2 ^ nY y S - 1) p := by
      intro p hp
      have h1 : D (2 ^ nY y S - 1) p ≠ 0 := hG.2.2 _ p hfl hp (by
        rcases min_q _ h64 p (by omega) (full_b _ h6 p hp) with h | ⟨h1, h2, h3, h4⟩
        · exact Or.inl h
        · exact Or.inr ⟨2 ^ nY y S - 1 - 2 ^ p, h1, by omega, h3, h4⟩)
      refine ⟨h1, ?_⟩
      have h2 := (hG.1 _ p hfl hp h1).1
      have h3 : cnt (lfH (kR y S) (2 ^ nY y S - 1)) (dC y) = 0 := by
        refine Decidable.byContradiction (fun hc => ?_)
        obtain ⟨i, i1, i2⟩ := cnt_pos.mp (Nat.pos_of_ne_zero hc)
        unfold lfH at i2
        rw [Bool.and_eq_true] at i2
        have i3 := pos_lt i1 i2.1
        have i4 := full_b _ h6 _ (show cnt (kR y S) i < nY y S from i3)
        rw [i4] at i2
        exact absurd i2.2 (by decide)
      have h4 := tS_full (p := p) (e := D (2 ^ nY y S - 1) p) h3
      exact Nat.le_trans h2 (Nat.le_of_eq h4)
    have hJB : JB (sJ (sI M 18 5 (nI 0)) 18 6 0) 0 := ⟨0, 0, by decide, by omega, rfl, rfl, Or.inl ⟨rfl, rfl⟩⟩
    obtain ⟨M', b', a1, a2, a3, a4, a5, a6, a7⟩ := q_choose_l12 (F := F) hP hall (nY y S) FU 0 0 (sJ (sI M 18 5 (nI 0)) 18 6 0) (by omega) (FU_lt (by omega)) e4 hD hJB (fun _ => rfl) (fun e => absurd rfl e)
    have hbF : b' = F := by
      have hb0 : b' ≠ 0 := fun e => hne (a3 e)
      have h1 := a4 hb0
      rcases hG.2.1 with ⟨T, p, t1, t2, t3, t4, t5⟩ | h
      · have hT : T = 2 ^ nY y S - 1 := by
          rcases t3 with h | h
          · exact absurd t1 (Nat.not_lt.mpr (show 2 ^ nY y S ≤ T by rw [← hS0]; exact h))
          · exact h
        subst hT
        have h2 := a6 p (Nat.zero_le _) t2
        have h3 := (hall p t2).2
        have h4 : cnt (lfH (kR y S) (2 ^ nY y S - 1)) (dC y) = 0 := by
          refine Decidable.byContradiction (fun hc => ?_)
          obtain ⟨i, i1, i2⟩ := cnt_pos.mp (Nat.pos_of_ne_zero hc)
          unfold lfH at i2
          rw [Bool.and_eq_true] at i2
          have i3 := pos_lt i1 i2.1
          have i4 := full_b _ h6 _ (show cnt (kR y S) i < nY y S from i3)
          rw [i4] at i2
          exact absurd i2.2 (by decide)
        have h5 : D (2 ^ nY y S - 1) p = F := (tS_full (p := p) h4).symm.trans t5
        omega
      · exact h.elim
    rw [hbF] at a2
    refine ⟨M', ?_, a2, (Fr.tr (Fr.sI (Or.inl rfl)) (Fr.tr (Fr.sJ (Or.inl rfl)) (a7.mono (fun id e => Or.inl e))))⟩
    have eC : f_Joiner_choose M = some ((), M') := by
      rw [f_Joiner_choose]
      simp (disch := first | assumption | omega) only [z_bdn, z_caln, z_gdn, z_iT, z_iF, z_le_t, z_le_f, z_lt_t, z_lt_f, z_cl, z_inb, z_at, z_lit, nI_ii1, nI_add, z_mr, z_ref0, z_refn, z_eq_f, Bool.not_true, Bool.not_false, b2i_t, b2i_f]
      exact a1
    rw [f_Joiner_join_l52, hS0]
    simp (disch := first | assumption | omega) only [z_bdn, z_caln, z_gdn, z_iT, z_iF, z_le_t, z_le_f, z_lt_t, z_lt_f, z_cl, z_inb, z_at, z_lit, nI_ii1, nI_add, z_mr, z_ref0, z_refn, z_eq_f, Bool.not_true, Bool.not_false, b2i_t, b2i_f, e4, s6, eC]
  | succ m ih =>
    intro n S0 D M hm hn h0 hJ hD hG
    obtain ⟨n, rfl, hn⟩ := z_succ hn
    have e4 : mI M 18 4 = nI (nY y S) := hJ.1
    obtain ⟨M1, D1, a1, a2, a3, a4, a5⟩ := q_join_l65 (d := d) (p2 := p2) (K := f_Joiner_join_l52 d p2 n) (F := F) hP (show S0 < 2 ^ nY y S by omega) (nY y S) FU 0 D M (by omega) (FU_lt (by omega)) hJ hD (jgB_A hG)
    obtain ⟨M', b1, b2, b3⟩ := ih n (S0 + 1) D1 M1 (by omega) (by omega) (by omega) a2 a3 (jgA_B hP h0 (by omega) a4)
    refine ⟨M', ?_, b2, (a5.mono (fun id e => Or.inr e)).tr b3⟩
    rw [f_Joiner_join_l52]
    simp (disch := first | assumption | omega) only [z_bdn, z_caln, z_gdn, z_iT, z_iF, z_le_t, z_le_f, z_lt_t, z_lt_f, z_cl, z_inb, z_at, z_lit, nI_ii1, nI_add, z_mr, z_ref0, z_refn, z_eq_f, Bool.not_true, Bool.not_false, b2i_t, b2i_f, e4, s6]
    exact a1.trans b1
theorem xt_none {W S q : Nat} (hP : OkD W y) (hq : q < nY y S) : xtY y S none q 1 = 4 ^ dL y (gPl (kR y S) q (dC y)) + wC5 y (gPl (kR y S) q (dC y)) := by
  obtain ⟨h1, h2, h3⟩ := gP_ok (p := kR y S) (n := dC y) hq
  have hc := (wC5_lt hP h1).1
  show 1 * 4 ^ (dL y (gPl (kR y S) q (dC y)) - 0) + wC5 y (gPl (kR y S) q (dC y)) % 4 ^ (dL y (gPl (kR y S) q (dC y)) - 0) = _
  rw [Nat.sub_zero, Nat.one_mul, Nat.mod_eq_of_lt hc]
theorem q_join_l16 {d W S : Nat} {p2 : Int32} (hP : OkD W y) (hne : nY y S ≠ 0) : ∀ (m n q : Nat) (D : Nat → Nat → Nat) (M : kx_M), q + m = nY y S → m < n → JR M y S (dC y) → JD M (nY y S) D → jgY y S (shF y S) D (fun T _ => T ≠ 0) (∃ q', q ≤ q' ∧ q' < nY y S ∧ tSY y S (0 ||| 2 ^ q') q' (xtY y S none q' 1) = shF y S) (fun T p => p < q ∧ T = 2 ^ p) → ∃ M', f_Joiner_join_l16 d p2 n (nI q) M = some ((), M') ∧ JB M' (shF y S) ∧ Fr (fun id => id = 18 ∨ id = 21 ∨ id = 22) M M' := by
  have h6 := nY_6 (S := S) hP
  have h64 : 2 ^ nY y S ≤ 64 := show 2 ^ nY y S ≤ 2 ^ 6 from Nat.pow_le_pow_right (by omega) h6
  have hp1 : 1 < 2 ^ nY y S := Nat.one_lt_two_pow hne
  intro m
  induction m with
  | zero =>
    intro n q D M hm hn hJ hD hG
    obtain ⟨n, rfl, hn⟩ := z_succ hn
    obtain rfl : q = nY y S := by omega
    have e4 : mI M 18 4 = nI (nY y S) := hJ.1
    obtain ⟨M', a1, a2, a3⟩ := q_join_l52 (d := d) (p2 := p2) hP hne (shF_nz S) (2 ^ nY y S - 1) FU 1 D M (by omega) (FU_lt (by omega)) (by omega) hJ hD (by
      refine jG_w hG (fun T p _ _ h _ _ => Or.inl (Or.inl (Nat.pos_of_ne_zero h))) (fun ⟨q', h1, h2, _⟩ => absurd h1 (by omega)) (fun T p _ hp h => Or.inl ?_)
      rcases h with h | ⟨T0, h1, h2, _⟩
      · exact ⟨hp, h⟩
      · exact absurd h2 (by omega))
    refine ⟨M', ?_, a2, a3⟩
    rw [f_Joiner_join_l16]
    simp (disch := first | assumption | omega) only [z_bdn, z_caln, z_gdn, z_iT, z_iF, z_le_t, z_le_f, z_lt_t, z_lt_f, z_cl, z_inb, z_at, z_lit, nI_ii1, nI_add, z_mr, z_ref0, z_refn, z_eq_f, Bool.not_true, Bool.not_false, b2i_t, b2i_f, e4]
    exact a1
  | succ m ih =>
    intro n q D M hm hn hJ hD hG
    obtain ⟨n, rfl, hn⟩ := z_succ hn
    have e4 : mI M 18 4 = nI (nY y S) := hJ.1
    have hq : q < nY y S := by omega
    obtain ⟨b1, b2, b3, b4⟩ := JR_at (W := W) hJ hq
    have lb := hP.2.2.2.1 _ b1
    have cb := wC5_lt hP b1
    have hSq : 2 ^ q < 2 ^ nY y S := pow_lt6 hq
    have hx := xt_none hP hq
    have hz : (0 ||| 2 ^ q) = 2 ^ q := Nat.zero_or _
    have htb : (0 : Nat).testBit q = false := Nat.zero_testBit q
    obtain ⟨M1, a1, a2, a3⟩ := q_offer h6 hSq hq hD lb.1 (show dL y (gPl (kR y S) q (dC y)) ≤ 30 by omega) cb.1
    have hpos : 0 < 4 ^ dL y (gPl (kR y S) q (dC y)) := Nat.pow_pos (by omega)
    have hF : shF y S ≤ tSY y S (2 ^ q) q (4 ^ dL y (gPl (kR y S) q (dC y)) + wC5 y (gPl (kR y S) q (dC y))) := by
      rw [← hx]
      have := tL_le (sz := dL y) (cd := wC5 y) (ov := ovO (dL y) (wC5 y)) (C := dC y) (ker := kR y S) (last := none) (e := 1) (by omega) hq htb
      rw [hz] at this
      exact this
    have hbd : 4 ^ dL y (gPl (kR y S) q (dC y)) + wC5 y (gPl (kR y S) q (dC y)) < 2 * 4 ^ (5 * bc (2 ^ q) (nY y S)) := by
      have h1 := bc_or htb hq
      rw [hz] at h1
      rw [h1]
      have h2 := xt_b (e := 1) (b := bc 0 (nY y S)) (by have : 0 < 4 ^ (5 * bc 0 (nY y S)) := Nat.pow_pos (by omega); omega) lb.2.1 cb.1
      rw [Nat.one_mul] at h2
      exact h2
    obtain ⟨M', c1, c2, c3⟩ := ih n (q + 1) _ M1 (by omega) (by omega) (JR_F hJ a3) a2 (jG_of hG hSq hq (by omega) hF hbd (fun ⟨q', h1, h2, h3⟩ => by
      by_cases hqq : q' = q
      · subst hqq
        rw [hx, hz] at h3
        exact Or.inr ⟨by have : 0 < 2 ^ q' := Nat.pow_pos (by omega); omega, h3⟩
      · exact Or.inl ⟨q', by omega, h2, h3⟩) (fun T p h => by
      by_cases hqq : p = q
      · subst hqq; exact Or.inr ⟨h.2, rfl⟩
      · exact Or.inl ⟨by omega, h.2⟩))
    refine ⟨M', ?_, c2, (a3.mono (fun id e => Or.inr e)).tr c3⟩
    have s6 : nI 1 <<< (nI q &&& nI 31) = nI (2 ^ q) := z_bit (by omega)
    have s7 : mB M 20 q = bJ (wC5 y (gPl (kR y S) q (dC y))) := by rw [b4, jJ_bJ (by omega)]
    rw [f_Joiner_join_l16]
    simp (disch := first | assumption | omega) only [z_bdn, z_caln, z_gdn, z_iT, z_iF, z_le_t, z_le_f, z_lt_t, z_lt_f, z_cl, z_inb, z_at, z_lit, nI_ii1, nI_add, z_mr, z_ref0, z_refn, z_eq_f, Bool.not_true, Bool.not_false, b2i_t, b2i_f, e4, b3, s7, s6, a1]
    exact c1
theorem q_fill384 : ∃ M', f_Arr_fill_2 21 (nI 0) M = some ((), M') ∧ (∀ j, j < 384 → mA M' 21 j = nI 0) ∧ Fr (fun id => id = 21) M M' := by
  have hl : kx_lay[21]? = some (1, 384, []) := rfl
  have key : ∀ (m n j : Nat) (M : kx_M), j + m = 384 → m < n → (∀ i, i < j → mA M 21 i = nI 0) → ∃ M', f_Arr_fill_2_l5 21 (nI 0) n (nI j) (nI 384) M = some ((), M') ∧ (∀ j, j < 384 → mA M' 21 j = nI 0) ∧ Fr (fun id => id = 21) M M' := by
    intro m
    induction m with
    | zero =>
      intro n j M hj hn hz
      obtain ⟨n, rfl, hn⟩ := z_succ hn
      obtain rfl : j = 384 := by omega
      refine ⟨M, ?_, hz, Fr.rf⟩
      rw [f_Arr_fill_2_l5]
      simp (disch := first | assumption | omega) only [z_bdn, z_caln, z_gdn, z_iT, z_iF, z_le_t, z_le_f, z_lt_t, z_lt_f, z_cl, z_inb, z_at, z_lit, nI_ii1, nI_add, z_mr, z_ref0, z_refn, z_eq_f, Bool.not_true, Bool.not_false, b2i_t, b2i_f]
    | succ m ih =>
      intro n j M hj hn hz
      obtain ⟨n, rfl, hn⟩ := z_succ hn
      obtain ⟨M', g1, g2, g3⟩ := ih n (j + 1) (sA M 21 (upd (mA M 21) j (nI 0))) (by omega) (by omega) (fun i hi => by
        rw [mA_sA, if_pos rfl, upd_at]
        by_cases he : i = j
        · rw [if_pos he]
        · rw [if_neg he]; exact hz i (by omega))
      refine ⟨M', ?_, g2, Fr.tr (Fr.sA rfl) g3⟩
      have e := z_aIb (tg := 1) hl (show j < 384 by omega) (by omega)
      rw [f_Arr_fill_2_l5]
      simp (disch := first | assumption | omega) only [z_bdn, z_caln, z_gdn, z_iT, z_iF, z_le_t, z_le_f, z_lt_t, z_lt_f, z_cl, z_inb, z_at, z_lit, nI_ii1, nI_add, z_mr, z_ref0, z_refn, z_eq_f, Bool.not_true, Bool.not_false, b2i_t, b2i_f, e]
      exact g1
  obtain ⟨M', g1, g2, g3⟩ := key 384 FU 0 M (by omega) (FU_lt (by omega)) (fun i hi => absurd hi (by omega))
  refine ⟨M', ?_, g2, g3⟩
  have e1 : aLk 1 21 = true := by unfold aLk; rw [hl]; rfl
  have e2 : Int32.ofNat (aLn 21) = nI 384 := by unfold aLn; rw [hl]; rfl
  rw [f_Arr_fill_2, e1, e2]
  simp (disch := first | assumption | omega) only [z_bdn, z_caln, z_gdn, z_iT, z_iF, z_le_t, z_le_f, z_lt_t, z_lt_f, z_cl, z_inb, z_at, z_lit, nI_ii1, nI_add, z_mr, z_ref0, z_refn, z_eq_f, Bool.not_true, Bool.not_false, b2i_t, b2i_f]
  exact g1
/-- of a run as one number: how long, which -/
def lnF (F : Nat) : Nat := F.log2 / 2
def cdF (F : Nat) : Nat := F - 4 ^ lnF F
theorem lnF_e {F L c : Nat} (h : F = 4 ^ L + c) (hc : c < 4 ^ L) : lnF F = L ∧ cdF F = c := by
  have hp : 0 < 4 ^ L := Nat.pow_pos (by omega)
  have h1 : F.log2 = 2 * L := by
    rw [Nat.log2_eq_iff (by omega), Nat.pow_succ, pw_2]
    omega
  have h2 : lnF F = L := by unfold lnF; omega
  refine ⟨h2, ?_⟩
  unfold cdF
  rw [h2]
  omega
theorem q_join {d W S : Nat} (hd : 27 ≤ d) (hP : OkD W y) (hD : CD M d y) (hS : S < 2 ^ dC y) : ∃ M', f_Joiner_join d (nI S) M = some ((), M') ∧ mI M' 18 5 = nI (lnF (shF y S)) ∧ mJ M' 18 6 = bJ (cdF (shF y S)) ∧ lnF (shF y S) ≤ 30 ∧ cdF (shF y S) < 4 ^ lnF (shF y S) ∧ Fr (fun id => 18 ≤ id ∧ id ≤ 22) M M' := by
  have h6 := nY_6 (S := S) hP
  obtain ⟨M1, a1, a2, a3⟩ := q_gather hd hP hD hS
  obtain ⟨M2, b1, b2, b3⟩ := q_fill384 (M := M1)
  have hJ2 := JR_F a2 (b3.mono (fun id e => Or.inl e))
  have e4 : mI M2 18 4 = nI (nY y S) := hJ2.1
  have hF2 : Fr (fun id => 18 ≤ id ∧ id ≤ 22) M M2 := (a3.mono (fun id e => by omega)).tr (b3.mono (fun id e => by omega))
  have eG : f_Joiner_join d (nI S) M = f_Joiner_join_l16 d (nI S) FU (nI 0) M2 := by
    rw [f_Joiner_join]
    simp (disch := first | assumption | omega) only [z_bdn, z_caln, z_gdn, z_iT, z_iF, z_le_t, z_le_f, z_lt_t, z_lt_f, z_cl, z_inb, z_at, z_lit, nI_ii1, nI_add, z_mr, z_ref0, z_refn, z_eq_f, Bool.not_true, Bool.not_false, b2i_t, b2i_f, a1, b1]
  rw [eG]
  by_cases h0 : nY y S = 0
  · rw [h0] at e4
    have hs : shF y S = 1 := by
      have hc : cnt (lfH (kR y S) 0) (dC y) = 0 := by
        refine Eq.trans (cnt_congr (fun i _ => ?_)) h0
        show (kR y S i && !(0 : Nat).testBit _) = _
        rw [Nat.zero_testBit, Bool.not_false, Bool.and_true]
      unfold shF tLo
      rw [hc]
      rfl
    obtain ⟨l1, l2⟩ := lnF_e (F := 1) (L := 0) (c := 0) rfl (by decide)
    rw [hs, l1, l2]
    have hz : nI 1 <<< (nI 0 &&& nI 31) = nI 1 := z_bit (k := 0) (by omega)
    have hJB : mI (sJ (sI M2 18 5 (nI 0)) 18 6 0) 18 4 = nI 0 := e4
    have z12 : f_Joiner_choose_l12 (999999 + 1) (nI 0) (sJ (sI M2 18 5 (nI 0)) 18 6 0) = some ((), sJ (sI M2 18 5 (nI 0)) 18 6 0) := by
      rw [f_Joiner_choose_l12]
      simp (disch := first | assumption | omega) only [z_bdn, z_caln, z_gdn, z_iT, z_iF, z_le_t, z_le_f, z_lt_t, z_lt_f, z_cl, z_inb, z_at, z_lit, nI_ii1, nI_add, z_mr, z_ref0, z_refn, z_eq_f, Bool.not_true, Bool.not_false, b2i_t, b2i_f, hJB]
    have z13 : f_Joiner_choose M2 = some ((), sJ (sI M2 18 5 (nI 0)) 18 6 0) := by
      rw [f_Joiner_choose]
      simp (disch := first | assumption | omega) only [z_bdn, z_caln, z_gdn, z_iT, z_iF, z_le_t, z_le_f, z_lt_t, z_lt_f, z_cl, z_inb, z_at, z_lit, nI_ii1, nI_add, z_mr, z_ref0, z_refn, z_eq_f, Bool.not_true, Bool.not_false, b2i_t, b2i_f]
      exact z12
    have z52 : f_Joiner_join_l52 d (nI S) (999999 + 1) (nI 1) M2 = some ((), sJ (sI M2 18 5 (nI 0)) 18 6 0) := by
      rw [f_Joiner_join_l52]
      simp (disch := first | assumption | omega) only [z_bdn, z_caln, z_gdn, z_iT, z_iF, z_le_t, z_le_f, z_lt_t, z_lt_f, z_cl, z_inb, z_at, z_lit, nI_ii1, nI_add, z_mr, z_ref0, z_refn, z_eq_f, Bool.not_true, Bool.not_false, b2i_t, b2i_f, e4, hz, z13]
    have z16 : f_Joiner_join_l16 d (nI S) (999999 + 1) (nI 0) M2 = some ((), sJ (sI M2 18 5 (nI 0)) 18 6 0) := by
      rw [f_Joiner_join_l16]
      simp (disch := first | assumption | omega) only [z_bdn, z_caln, z_gdn, z_iT, z_iF, z_le_t, z_le_f, z_lt_t, z_lt_f, z_cl, z_inb, z_at, z_lit, nI_ii1, nI_add, z_mr, z_ref0, z_refn, z_eq_f, Bool.not_true, Bool.not_false, b2i_t, b2i_f, e4]
      exact z52
    exact ⟨_, z16, rfl, rfl, by omega, by decide, hF2.tr (Fr.tr (Fr.sI (by omega)) (Fr.sJ (by omega)))⟩
  · have hz : 0 < nY y S := Nat.pos_of_ne_zero h0
    have hc0 : cnt (lfH (kR y S) 0) (dC y) ≠ 0 := by
      rw [cnt_lfH (C := dC y) (ker := kR y S) hz (Nat.zero_testBit 0)]
      omega
    obtain ⟨q, q1, q2, q3⟩ := tL_ex (C := dC y) (ker := kR y S) (sz := dL y) (cd := wC5 y) (ov := ovO (dL y) (wC5 y)) (S := 0) (last := none) (e := 1) (by omega) hc0
    have h64 : 2 ^ nY y S ≤ 64 := show 2 ^ nY y S ≤ 2 ^ 6 from Nat.pow_le_pow_right (by omega) h6
    obtain ⟨M', c1, ⟨L, c, g1, g2, g3, g4, g5⟩, c3⟩ := q_join_l16 (d := d) (p2 := nI S) hP h0 (nY y S) FU 0 (fun _ _ => 0) M2 (by omega) (FU_lt (by omega)) hJ2 (fun T p hT hp => Or.inl ⟨rfl, b2 _ (by omega)⟩) ⟨fun T p _ _ h => absurd rfl h, Or.inr ⟨q, Nat.zero_le _, q1, q3⟩, fun T p _ _ h => absurd h.1 (by omega)⟩
    rcases g5 with ⟨g5, -⟩ | ⟨g5, -⟩
    · exact absurd g5 (shF_nz S)
    · obtain ⟨l1, l2⟩ := lnF_e g5 g1
      rw [l1, l2]
      exact ⟨M', c1, g3, g4, g2, g1, hF2.tr (c3.mono (fun id e => by omega))⟩
def o_shortest (p : Int32) (σ : Sg) : Int32 × Sg := oG (ix p (2 ^ dC (gY σ))) 5 (nI (lnF (shF (gY σ) p.toNatClampNeg)), wS σ (nI 0)) σ
def o_shortestAt (p k : Int32) (σ : Sg) : Int32 × Sg := oG (ix p (2 ^ dC (gY σ))) 5 (oG (ix k (lnF (shF (gY σ) p.toNatClampNeg))) 8 (nI (cdF (shF (gY σ) p.toNatClampNeg) / 4 ^ (lnF (shF (gY σ) p.toNatClampNeg) - 1 - k.toNatClampNeg) % 4), wS σ (nI 0)) σ) σ
theorem IC_J (h : IC M σ) (hF : Fr (fun id => 18 ≤ id ∧ id ≤ 22) M M') : IC M' σ := IC_fr hF (fun s t hK id e => by have := hK.ap; omega) h
theorem pC_shortest (p : Int32) : PC (f_KT_shortest p) (o_shortest p) := by
  intro M σ h
  have g := q_noSet h p
  have w6 : dC (gY σ) ≤ 6 := h.1.1.2.2.1.2.1
  have h64 : 2 ^ dC (gY σ) ≤ 64 := show 2 ^ dC (gY σ) ≤ 2 ^ 6 from Nat.pow_le_pow_right (by omega) w6
  rw [f_KT_shortest]
  unfold o_shortest
  cases hx : ix p (2 ^ dC (gY σ))
  · rw [hx] at g
    refine ⟨_, ?_, IC_st (nI 5) h, Hi_st⟩
    simp (disch := first | assumption | omega) only [z_bdn, z_caln, z_gdn, z_iT, z_iF, z_le_t, z_le_f, z_lt_t, z_lt_f, z_cl, z_inb, z_at, z_lit, nI_ii1, nI_add, z_mr, z_ref0, z_refn, z_eq_f, Bool.not_true, Bool.not_false, b2i_t, b2i_f, g, f_KT_shortest_l14, oG]
  · rw [hx] at g
    have h1 := IC_st (nI 0) h
    obtain ⟨s, t, hK, hO, hC, hP, hD⟩ := IC_get h1
    have ap := hK.ap
    obtain ⟨S, hS, rfl⟩ := ix_ex (by omega) hx
    obtain ⟨M2, a1, a2, a3, a4, a5, a6⟩ := q_join (d := s + 1) (by omega) hP hD hS
    have e1 : (nI S).toNatClampNeg = S := z_cl (by omega)
    rw [e1]
    refine ⟨M2, ?_, IC_J h1 a6, Hi_st.tr (a6.mono (fun id e => by show id < 135; omega))⟩
    simp (disch := first | assumption | omega) only [z_bdn, z_caln, z_gdn, z_iT, z_iF, z_le_t, z_le_f, z_lt_t, z_lt_f, z_cl, z_inb, z_at, z_lit, nI_ii1, nI_add, z_mr, z_ref0, z_refn, z_eq_f, Bool.not_true, Bool.not_false, b2i_t, b2i_f, g, f_KT_shortest_l14, hK.1, hK.s1, a1, a2, oG]
theorem pC_shortestAt (p k : Int32) : PC (f_KT_shortestAt p k) (o_shortestAt p k) := by
  intro M σ h
  have g := q_noSet h p
  have w6 : dC (gY σ) ≤ 6 := h.1.1.2.2.1.2.1
  have h64 : 2 ^ dC (gY σ) ≤ 64 := show 2 ^ dC (gY σ) ≤ 2 ^ 6 from Nat.pow_le_pow_right (by omega) w6
  rw [f_KT_shortestAt]
  unfold o_shortestAt
  cases hx : ix p (2 ^ dC (gY σ))
  · rw [hx] at g
    refine ⟨_, ?_, IC_st (nI 5) h, Hi_st⟩
    simp (disch := first | assumption | omega) only [z_bdn, z_caln, z_gdn, z_iT, z_iF, z_le_t, z_le_f, z_lt_t, z_lt_f, z_cl, z_inb, z_at, z_lit, nI_ii1, nI_add, z_mr, z_ref0, z_refn, z_eq_f, Bool.not_true, Bool.not_false, b2i_t, b2i_f, g, f_KT_shortestAt_l14, oG]
  · rw [hx] at g
    have h1 := IC_st (nI 0) h
    obtain ⟨s, t, hK, hO, hC, hP, hD⟩ := IC_get h1
    have ap := hK.ap
    obtain ⟨S, hS, rfl⟩ := ix_ex (by omega) hx
    obtain ⟨M2, a1, a2, a3, a4, a5, a6⟩ := q_join (d := s + 1) (by omega) hP hD hS
    have e1 : (nI S).toNatClampNeg = S := z_cl (by omega)
    have h2 := IC_J h1 a6
    have hh : Hi M M2 := Hi_st.tr (a6.mono (fun id e => by show id < 135; omega))
    rw [e1]
    simp only [oG]
    cases hk : ix k (lnF (shF (gY σ) S))
    · refine ⟨_, ?_, IC_r (nI 8) h2, hh.tr Hi_st⟩
      rcases ix_f (by omega) hk with hk | hk
      · have z : (k < nI 0) = True := eq_true hk
        simp (disch := first | assumption | omega) only [z_bdn, z_caln, z_gdn, z_iT, z_iF, z_le_t, z_le_f, z_lt_t, z_lt_f, z_cl, z_inb, z_at, z_lit, nI_ii1, nI_add, z_mr, z_ref0, z_refn, z_eq_f, Bool.not_true, Bool.not_false, b2i_t, b2i_f, g, f_KT_shortestAt_l14, f_KT_shortestAt_l59, hK.1, hK.s1, a1, a2, z]
      · by_cases z : k < nI 0
        · have z : (k < nI 0) = True := eq_true z
          simp (disch := first | assumption | omega) only [z_bdn, z_caln, z_gdn, z_iT, z_iF, z_le_t, z_le_f, z_lt_t, z_lt_f, z_cl, z_inb, z_at, z_lit, nI_ii1, nI_add, z_mr, z_ref0, z_refn, z_eq_f, Bool.not_true, Bool.not_false, b2i_t, b2i_f, g, f_KT_shortestAt_l14, f_KT_shortestAt_l59, hK.1, hK.s1, a1, a2, z]
        · have z : (k < nI 0) = False := eq_false z
          have z2 : (k < nI (lnF (shF (gY σ) S))) = False := eq_false hk
          simp (disch := first | assumption | omega) only [z_bdn, z_caln, z_gdn, z_iT, z_iF, z_le_t, z_le_f, z_lt_t, z_lt_f, z_cl, z_inb, z_at, z_lit, nI_ii1, nI_add, z_mr, z_ref0, z_refn, z_eq_f, Bool.not_true, Bool.not_false, b2i_t, b2i_f, g, f_KT_shortestAt_l14, f_KT_shortestAt_l59, hK.1, hK.s1, a1, a2, z, z2]
    · obtain ⟨j, hj, rfl⟩ := ix_ex (by omega) hk
      have e2 : (nI j).toNatClampNeg = j := z_cl (by omega)
      rw [e2]
      have hb := pw_mono a4
      rw [pw_30] at hb
      have s1 : nI (lnF (shF (gY σ) S)) - nI 1 - nI j = nI (lnF (shF (gY σ) S) - 1 - j) := by
        rw [z_sub (by omega), z_sub (by omega)]
      have s2 := bJ_shr (c := cdF (shF (gY σ) S)) (m := lnF (shF (gY σ) S) - 1 - j) (by omega) (by omega)
      have hd := Nat.div_le_self (cdF (shF (gY σ) S)) (4 ^ (lnF (shF (gY σ) S) - 1 - j))
      have s3 := bJ_3 (c := cdF (shF (gY σ) S) / 4 ^ (lnF (shF (gY σ) S) - 1 - j)) (by omega)
      have t5 : mI (sI M2 0 13 (nI 0)) 18 5 = nI (lnF (shF (gY σ) S)) := a2
      have t6 : mJ (sI M2 0 13 (nI 0)) 18 6 = bJ (cdF (shF (gY σ) S)) := a3
      refine ⟨_, ?_, IC_r (nI 0) h2, hh.tr Hi_st⟩
      simp (disch := first | assumption | omega) only [z_bdn, z_caln, z_gdn, z_iT, z_iF, z_le_t, z_le_f, z_lt_t, z_lt_f, z_cl, z_inb, z_at, z_lit, nI_ii1, nI_add, z_mr, z_ref0, z_refn, z_eq_f, Bool.not_true, Bool.not_false, b2i_t, b2i_f, g, f_KT_shortestAt_l14, f_KT_shortestAt_l59, hK.1, hK.s1, a1, a2, t5, t6, s1, s2, s3, nI_pos0]
end
