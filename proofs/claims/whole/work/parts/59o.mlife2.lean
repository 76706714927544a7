/-! ## CENTURIES: the reference's walk -/
theorem lvA_I (k a b : Nat) (v : Lv) : vI (lvA k a b v) = vI v ∨ vI (lvA k a b v) = vI v + 1 := by
  unfold lvA came
  repeat' split
  all_goals first | exact Or.inl rfl | exact Or.inr rfl | skip
  all_goals first | (rename_i h; show vI v + (if _ then 1 else 0) = vI v ∨ vI v + (if _ then 1 else 0) = vI v + 1; split; exact Or.inr rfl; exact Or.inl rfl)
theorem lvA_C (k a b : Nat) (v : Lv) : vC (lvA k a b v) = vC v := by
  unfold lvA
  repeat' split
  all_goals rfl
section
variable {M M' : kx_M} {σ : Sg} {y : De} {x : Cl} {v : Lv} {h : Nat → Int64} {W C : Nat} {z : Nat → Nat → Int32}
theorem MD_V {W : Nat} (hP : OkD W y) (hF : FrV M M') (hD : MD (mA M 140) h y) : MD (mA M' 140) h y := MD_congr hP (fun p h1 h2 h4 h5 => hF.2.1 p h5 (by omega)) hD
theorem stpAt_V {s : Nat} (hF : FrV M M') (hz : stpAt M z s) : stpAt M' z s := fun j hj => (hF.2.1 _ (by omega) (by omega)).trans (hz j hj)
theorem sunN_96 (hO : OkC x) : sunN x ≤ 96 := by
  have w2 := hO.1.2
  have w3 := hO.2.2.1
  have h1 : ∀ r, r < cR x → sumN (fun i => cU x (8 * r + i)) (cW x) ≤ 8 := fun r hr => by
    have := sumN_le (f := fun i => cU x (8 * r + i)) (b := 1) (n := cW x) (fun i hi => (hO.2.2.2.2.2 r i hr hi).2.2.1)
    omega
  have h2 := sumN_le (f := fun r => sumN (fun i => cU x (8 * r + i)) (cW x)) (b := 8) (n := cR x) h1
  unfold sunN sumRC
  omega
theorem q_isSo {s : Nat} (hP : OkD W y) (hv : OkV W v) (hR : RL M v) (hD : MD (mA M 140) h y) (hz : stpAt M z s) (hs : s ≤ 30) (hk : stepOk W (dC y) (z s)) (h5 : z s 0 = nI 5) : f_RM_isSo (nI (498 + 9 * s)) M = some (b2i (tsB y (nN (z s 6)) (nN (z s 1)) (nN (z s 7)) (vX v)), M) := by
  have z1 := hz 1 (by omega)
  have z6 := hz 6 (by omega)
  have z7 := hz 7 (by omega)
  have hPx : OkD (cW (vX v)) y := by rw [hv.2.1]; exact hP
  have w2 := hP.2.1
  have ne : ∀ j, j ≠ 5 → j < 100 → ¬ z s 0 = nI j := fun j hj hj2 e => by
    rw [h5] at e
    exact hj ((nI_eq (by omega) (by omega)).mp e).symm
  rw [f_RM_isSo]
  rcases hk with ⟨k0, -⟩ | ⟨k0, -⟩ | ⟨k0, -⟩ | ⟨k0, -⟩ | k0 | ⟨-, hk⟩ | ⟨k0, -⟩ | k0
  · exact absurd k0 (ne 0 (by omega) (by omega))
  · exact absurd k0 (ne 1 (by omega) (by omega))
  · exact absurd k0 (ne 2 (by omega) (by omega))
  · exact absurd k0 (ne 3 (by omega) (by omega))
  · exact absurd k0 (ne 4 (by omega) (by omega))
  · rcases hk with ⟨k6, a, a1, ka⟩ | ⟨k6, a, a1, ka⟩ | ⟨k6, a, b, a1, b1, ka, kb⟩
    · rw [k6] at z6
      rw [ka] at z1
      rw [k6, ka, nN_nI (by omega), nN_nI (by omega)]
      have e := q_times hv.1 hR.1 hPx hD a1
      have hlt : sayN (vX v) y a < 2147483648 := by
        have w2 := hv.1.1.2
        have w3 := hv.1.2.2.1
        have h2 := sumN_le (f := tms (vX v) y a) (b := 8) (n := cR (vX v)) (fun r hr => Nat.le_trans (cnt_le _ _) (by omega))
        unfold sayN
        omega
      show _ = some (b2i (if (0 : Nat) = 0 then sdAny (vX v) y a else _), M)
      rw [if_pos rfl]
      unfold sdAny
      by_cases h0 : 0 < sayN (vX v) y a
      · rw [decide_eq_true h0]
        simp (disch := first | assumption | omega) only [z_bdn, z_caln, z_gdn, z_iT, z_iF, z_le_t, z_le_f, z_lt_t, z_lt_f, z_cl, z_inb, z_at, z_pl, z_lit, nI_ii1, nI_add, nI_mul, z_eq_f, z_refuse, z_no, z_M00, b2i_t, b2i_f, z1, z6, eq_self, e]
      · rw [decide_eq_false h0]
        simp (disch := first | assumption | omega) only [z_bdn, z_caln, z_gdn, z_iT, z_iF, z_le_t, z_le_f, z_lt_t, z_lt_f, z_cl, z_inb, z_at, z_pl, z_lit, nI_ii1, nI_add, nI_mul, z_eq_f, z_refuse, z_no, z_M00, b2i_t, b2i_f, z1, z6, eq_self, e]
    · rw [k6] at z6
      rw [ka] at z1
      rw [k6, ka, nN_nI (by omega), nN_nI (by omega)]
      have e := q_isWhole hv.1 hR.1 (show a < 100 by omega)
      unfold tsB
      rw [if_neg (by omega), if_pos rfl]
      simp (disch := first | assumption | omega) only [z_bdn, z_caln, z_gdn, z_iT, z_iF, z_le_t, z_le_f, z_lt_t, z_lt_f, z_cl, z_inb, z_at, z_pl, z_lit, nI_ii1, nI_add, nI_mul, z_eq_f, z_refuse, z_no, z_M00, b2i_t, b2i_f, z1, z6, z_kn, eq_self, e, z_b01]
    · rw [k6] at z6
      rw [ka] at z1
      rw [kb] at z7
      rw [k6, ka, kb, nN_nI (by omega), nN_nI (by omega), nN_nI (by omega)]
      have e : f_RM_sumOf (nI 0) M = some (nI (sunN (vX v)), M) := q_sumOf (v := 0) hv.1 hR.1 (Or.inl ⟨rfl, rfl⟩)
      have h96 := sunN_96 hv.1
      unfold tsB
      rw [if_neg (by omega), if_neg (by omega)]
      rcases b1 with rfl | rfl | rfl
      · rw [if_pos rfl]
        by_cases hc : sunN (vX v) < a
        · rw [decide_eq_true hc]
          simp (disch := first | assumption | omega) only [z_bdn, z_caln, z_gdn, z_iT, z_iF, z_le_t, z_le_f, z_lt_t, z_lt_f, z_cl, z_inb, z_at, z_pl, z_lit, nI_ii1, nI_add, nI_mul, z_eq_f, z_refuse, z_no, z_M00, b2i_t, b2i_f, z1, z6, z7, z_kn, eq_self, e]
        · rw [decide_eq_false hc]
          simp (disch := first | assumption | omega) only [z_bdn, z_caln, z_gdn, z_iT, z_iF, z_le_t, z_le_f, z_lt_t, z_lt_f, z_cl, z_inb, z_at, z_pl, z_lit, nI_ii1, nI_add, nI_mul, z_eq_f, z_refuse, z_no, z_M00, b2i_t, b2i_f, z1, z6, z7, z_kn, eq_self, e]
      · rw [if_neg (by omega), if_neg (by omega)]
        by_cases hc : sunN (vX v) = a
        · rw [decide_eq_true hc]
          simp (disch := first | assumption | omega) only [z_bdn, z_caln, z_gdn, z_iT, z_iF, z_le_t, z_le_f, z_lt_t, z_lt_f, z_cl, z_inb, z_at, z_pl, z_lit, nI_ii1, nI_add, nI_mul, z_eq_f, z_refuse, z_no, z_M00, b2i_t, b2i_f, z1, z6, z7, z_kn, eq_self, e, hc]
        · rw [decide_eq_false hc]
          have hc2 : (nI (sunN (vX v)) = nI a) = False := z_eq_f hc (by omega) (by omega)
          simp (disch := first | assumption | omega) only [z_bdn, z_caln, z_gdn, z_iT, z_iF, z_le_t, z_le_f, z_lt_t, z_lt_f, z_cl, z_inb, z_at, z_pl, z_lit, nI_ii1, nI_add, nI_mul, z_eq_f, z_refuse, z_no, z_M00, b2i_t, b2i_f, z1, z6, z7, z_kn, eq_self, e, hc2]
      · rw [if_neg (by omega), if_pos rfl]
        by_cases hc : a < sunN (vX v)
        · rw [decide_eq_true hc]
          simp (disch := first | assumption | omega) only [z_bdn, z_caln, z_gdn, z_iT, z_iF, z_le_t, z_le_f, z_lt_t, z_lt_f, z_cl, z_inb, z_at, z_pl, z_lit, nI_ii1, nI_add, nI_mul, z_eq_f, z_refuse, z_no, z_M00, b2i_t, b2i_f, z1, z6, z7, z_kn, eq_self, e]
        · rw [decide_eq_false hc]
          simp (disch := first | assumption | omega) only [z_bdn, z_caln, z_gdn, z_iT, z_iF, z_le_t, z_le_f, z_lt_t, z_lt_f, z_cl, z_inb, z_at, z_pl, z_lit, nI_ii1, nI_add, nI_mul, z_eq_f, z_refuse, z_no, z_M00, b2i_t, b2i_f, z1, z6, z7, z_kn, eq_self, e]
  · exact absurd k0 (ne 6 (by omega) (by omega))
  · exact absurd k0 (ne 7 (by omega) (by omega))
theorem z_is300 (hn : vN v ≤ 300) : (nI (vN v) = nI 300) = (vN v = 300) := z_eq (by omega) (by omega)
theorem RL_stp (hR : RL M v) : RL (sI M 135 39 (nI (vN v + 1))) (stpV v) := by
  obtain ⟨h0, h1, h2, h3, h4, h5, h6, h7, h8⟩ := hR
  exact ⟨h0, h1, h2, rfl, h4, h5, h6, h7, h8⟩
theorem OkV_stp (hv : OkV W v) (h3 : vN v ≠ 300) : OkV W (stpV v) := ⟨hv.1, hv.2.1, hv.2.2.1, hv.2.2.2.1, by have := hv.2.2.2.2; show vN v + 1 ≤ 300; omega⟩
/-- one step of the reference; what is within is asked for -/
theorem q_doOne {nf a b e : Nat} (hP : OkD W y) (hb : b ≤ 30) (hab : a < b) (hk : stepOk W (dC y) (z a)) (hv : OkV W v) (hR : RL M v) (hvo : vO v = false) (hD : MD (mA M 140) h y) (hz : ∀ s, s < b → stpAt M z s)
    (hin : (z a 0 = nI 5 ∨ z a 0 = nI 6) → ∀ (v : Lv) (M : kx_M), OkV W v → RL M v → MD (mA M 140) h y → (∀ s, s < b → stpAt M z s) → ∃ M', g_RM_doAll e (nI (a + 1)) (z a 8) M = some ((), M') ∧ RL M' (exA y z nf (a + 1) (nN (z a 8)) v) ∧ OkV W (exA y z nf (a + 1) (nN (z a 8)) v) ∧ FrV M M') :
    ∃ M', f_RM_doOne (g_RM_doAll e) (nI a) M = some ((), M') ∧ RL M' (exO y z (exA y z nf) a v) ∧ OkV W (exO y z (exA y z nf) a v) ∧ FrV M M' := by
  have hza := hz a hab
  have z0 := hza 0 (by omega)
  have z1 := hza 1 (by omega)
  have z8 := hza 8 (by omega)
  rw [Nat.add_zero] at z0
  have e39 : mI M 135 39 = nI (vN v) := hR.2.2.2.1
  have is300 := z_is300 hv.2.2.2.2
  unfold exO
  rw [f_RM_doOne]
  by_cases h3 : vN v = 300
  · rw [if_pos h3]
    rw [h3] at e39
    have hv2 : OkV W (cutV v) := ⟨hv.1, hv.2.1, hv.2.2.1, hv.2.2.2.1, hv.2.2.2.2⟩
    obtain ⟨h0, h1, h2, h3', h4, h5, h6, h7, h8⟩ := hR
    refine ⟨sI (sI M 135 37 (nI 1)) 135 44 (nI 1), ?_, ⟨h0, rfl, h2, h3', h4, h5, h6, h7, rfl⟩, hv2, (FrV.I (by omega) (by omega)).tr (FrV.I (by omega) (by omega))⟩
    simp (disch := first | assumption | omega) only [z_bdn, z_caln, z_gdn, z_iT, z_iF, z_le_t, z_le_f, z_lt_t, z_lt_f, z_cl, z_inb, z_at, z_pl, z_lit, nI_ii1, nI_add, nI_mul, z_eq_f, z_refuse, z_no, z_M00, b2i_t, b2i_f, e39, eq_self]
  · rw [if_neg h3]
    rw [eq_false h3] at is300
    have hRs := RL_stp hR
    have hvs := OkV_stp hv h3
    have hDs : MD (mA (sI M 135 39 (nI (vN v + 1))) 140) h y := hD
    have hzs : ∀ s, s < b → stpAt (sI M 135 39 (nI (vN v + 1))) z s := hz
    have hFs : FrV M (sI M 135 39 (nI (vN v + 1))) := FrV.I (by omega) (by omega)
    generalize hMs : sI M 135 39 (nI (vN v + 1)) = Ms at hRs hDs hzs hFs
    have z0 : mA Ms 140 (498 + 9 * a) = z a 0 := by rw [← hMs]; exact z0
    have z1 : mA Ms 140 (498 + 9 * a + 1) = z a 1 := by rw [← hMs]; exact z1
    have z8 : mA Ms 140 (498 + 9 * a + 8) = z a 8 := by rw [← hMs]; exact z8
    have e40 : mI Ms 135 40 = nI (vI v) := hRs.2.2.2.2.1
    have kinds : z a 0 = nI 5 ∨ z a 0 = nI 6 ∨ z a 0 = nI 7 ∨ nN (z a 0) < 5 := by
      rcases hk with ⟨k0, -⟩ | ⟨k0, -⟩ | ⟨k0, -⟩ | ⟨k0, -⟩ | k0 | ⟨k0, -⟩ | ⟨k0, -⟩ | k0
      · exact Or.inr (Or.inr (Or.inr (by rw [k0, nN_nI (by omega)]; omega)))
      · exact Or.inr (Or.inr (Or.inr (by rw [k0, nN_nI (by omega)]; omega)))
      · exact Or.inr (Or.inr (Or.inr (by rw [k0, nN_nI (by omega)]; omega)))
      · exact Or.inr (Or.inr (Or.inr (by rw [k0, nN_nI (by omega)]; omega)))
      · exact Or.inr (Or.inr (Or.inr (by rw [k0, nN_nI (by omega)]; omega)))
      · exact Or.inl k0
      · exact Or.inr (Or.inl k0)
      · exact Or.inr (Or.inr (Or.inl k0))
    rcases kinds with k0 | k0 | k0 | k0
    · rw [if_pos k0]
      have eS := q_isSo hP hvs hRs hDs (hzs a hab) (by omega) hk k0
      rw [k0] at z0
      cases ht : tsB y (nN (z a 6)) (nN (z a 1)) (nN (z a 7)) (vX v) with
      | true =>
        rw [show tsB y (nN (z a 6)) (nN (z a 1)) (nN (z a 7)) (vX (stpV v)) = true from ht] at eS
        rw [if_pos rfl]
        obtain ⟨M', c1, c2, c3, c4⟩ := hin (Or.inl k0) (stpV v) Ms hvs hRs hDs hzs
        refine ⟨M', ?_, c2, c3, hFs.tr c4⟩
        simp (disch := first | assumption | omega) only [z_bdn, z_caln, z_gdn, z_iT, z_iF, z_le_t, z_le_f, z_lt_t, z_lt_f, z_cl, z_inb, z_at, z_pl, z_lit, nI_ii1, nI_add, nI_mul, z_eq_f, z_refuse, z_no, z_M00, b2i_t, b2i_f, e39, is300, hMs, z0, eq_self, eS, z8, c1]
      | false =>
        rw [show tsB y (nN (z a 6)) (nN (z a 1)) (nN (z a 7)) (vX (stpV v)) = false from ht] at eS
        rw [z_itf]
        refine ⟨Ms, ?_, hRs, hvs, hFs⟩
        simp (disch := first | assumption | omega) only [z_bdn, z_caln, z_gdn, z_iT, z_iF, z_le_t, z_le_f, z_lt_t, z_lt_f, z_cl, z_inb, z_at, z_pl, z_lit, nI_ii1, nI_add, nI_mul, z_eq_f, z_refuse, z_no, z_M00, b2i_t, b2i_f, e39, is300, hMs, z0, eq_self, eS, f_RM_doOne_l109, z_kn]
    · have n5 : ¬ z a 0 = nI 5 := by rw [k0, z_kn (by omega) (by omega) (by omega)]; exact (fun h => h)
      rw [if_neg n5, if_pos k0]
      obtain ⟨cn, cn1, cn2, hcn⟩ : ∃ cn, 1 ≤ cn ∧ cn ≤ 99 ∧ z a 1 = nI cn := by
        rcases hk with ⟨e0, -⟩ | ⟨e0, -⟩ | ⟨e0, -⟩ | ⟨e0, -⟩ | e0 | ⟨e0, -⟩ | ⟨-, cn, c1, c2, c3⟩ | e0
        · rw [k0, z_kn (by omega) (by omega) (by omega)] at e0; exact e0.elim
        · rw [k0, z_kn (by omega) (by omega) (by omega)] at e0; exact e0.elim
        · rw [k0, z_kn (by omega) (by omega) (by omega)] at e0; exact e0.elim
        · rw [k0, z_kn (by omega) (by omega) (by omega)] at e0; exact e0.elim
        · rw [k0, z_kn (by omega) (by omega) (by omega)] at e0; exact e0.elim
        · exact absurd e0 n5
        · exact ⟨cn, c1, c2, c3⟩
        · rw [k0, z_kn (by omega) (by omega) (by omega)] at e0; exact e0.elim
      rw [hcn, nN_nI (by omega)]
      have key : ∀ (m n i : Nat) (v : Lv) (M : kx_M), i + m = cn → m < n → OkV W v → RL M v → MD (mA M 140) h y → (∀ s, s < b → stpAt M z s) → ∃ M', f_RM_doOne_l118 (g_RM_doAll e) (nI a) n (nI (498 + 9 * a)) (nI i) M = some ((), M') ∧ RL M' (itL (exA y z nf (a + 1) (nN (z a 8))) m v) ∧ OkV W (itL (exA y z nf (a + 1) (nN (z a 8))) m v) ∧ FrV M M' := by
        intro m
        induction m with
        | zero =>
          intro n i v M hi hn hv hR hD hz
          obtain ⟨n, rfl, hn⟩ := z_succ hn
          obtain rfl : i = cn := by omega
          have y1 := hz a hab 1 (by omega)
          rw [hcn] at y1
          refine ⟨M, ?_, hR, hv, FrV.rf⟩
          rw [f_RM_doOne_l118]
          simp (disch := first | assumption | omega) only [z_bdn, z_caln, z_gdn, z_iT, z_iF, z_le_t, z_le_f, z_lt_t, z_lt_f, z_cl, z_inb, z_at, z_pl, z_lit, nI_ii1, nI_add, nI_mul, z_eq_f, z_refuse, z_no, z_M00, b2i_t, b2i_f, y1]
        | succ m ih =>
          intro n i v M hi hn hv hR hD hz
          obtain ⟨n, rfl, hn⟩ := z_succ hn
          have y1 := hz a hab 1 (by omega)
          have y8 := hz a hab 8 (by omega)
          rw [hcn] at y1
          have e37 : mI M 135 37 = b2i (vO v) := hR.2.1
          rw [f_RM_doOne_l118]
          cases ho : vO v with
          | true =>
            rw [ho] at e37
            rw [itL_over ho]
            refine ⟨M, ?_, hR, hv, FrV.rf⟩
            simp (disch := first | assumption | omega) only [z_bdn, z_caln, z_gdn, z_iT, z_iF, z_le_t, z_le_f, z_lt_t, z_lt_f, z_cl, z_inb, z_at, z_pl, z_lit, nI_ii1, nI_add, nI_mul, z_eq_f, z_refuse, z_no, z_M00, b2i_t, b2i_f, y1, e37]
          | false =>
            rw [ho] at e37
            rw [itL_go ho]
            obtain ⟨M1, c1, c2, c3, c4⟩ := hin (Or.inr k0) v M hv hR hD hz
            obtain ⟨M', d1, d2, d3, d4⟩ := ih n (i + 1) _ M1 (by omega) (by omega) c3 c2 (MD_V hP c4 hD) (fun s hs => stpAt_V c4 (hz s hs))
            refine ⟨M', ?_, d2, d3, c4.tr d4⟩
            simp (disch := first | assumption | omega) only [z_bdn, z_caln, z_gdn, z_iT, z_iF, z_le_t, z_le_f, z_lt_t, z_lt_f, z_cl, z_inb, z_at, z_pl, z_lit, nI_ii1, nI_add, nI_mul, z_eq_f, z_refuse, z_no, z_M00, b2i_t, b2i_f, y1, e37, y8, c1]
            exact d1
      obtain ⟨M', c1, c2, c3, c4⟩ := key cn FU 0 (stpV v) Ms (by omega) (FU_lt (by omega)) hvs hRs hDs hzs
      rw [k0] at z0
      refine ⟨M', ?_, c2, c3, hFs.tr c4⟩
      simp (disch := first | assumption | omega) only [z_bdn, z_caln, z_gdn, z_iT, z_iF, z_le_t, z_le_f, z_lt_t, z_lt_f, z_cl, z_inb, z_at, z_pl, z_lit, nI_ii1, nI_add, nI_mul, z_eq_f, z_refuse, z_no, z_M00, b2i_t, b2i_f, e39, is300, hMs, z0, eq_self, z_kn, f_RM_doOne_l109]
      exact c1
    · have n5 : ¬ z a 0 = nI 5 := by rw [k0, z_kn (by omega) (by omega) (by omega)]; exact (fun h => h)
      have n6 : ¬ z a 0 = nI 6 := by rw [k0, z_kn (by omega) (by omega) (by omega)]; exact (fun h => h)
      rw [if_neg n5, if_neg n6, if_pos k0]
      rw [k0] at z0
      obtain ⟨h0, h1, h2, h3', h4, h5, h6, h7, h8⟩ := hRs
      refine ⟨sI Ms 135 37 (nI 1), ?_, ⟨h0, rfl, h2, h3', h4, h5, h6, h7, h8⟩, hvs, hFs.tr (FrV.I (by omega) (by omega))⟩
      simp (disch := first | assumption | omega) only [z_bdn, z_caln, z_gdn, z_iT, z_iF, z_le_t, z_le_f, z_lt_t, z_lt_f, z_cl, z_inb, z_at, z_pl, z_lit, nI_ii1, nI_add, nI_mul, z_eq_f, z_refuse, z_no, z_M00, b2i_t, b2i_f, e39, is300, hMs, z0, eq_self, z_kn, f_RM_doOne_l109]
    · have nk : ∀ j, 5 ≤ j → j < 100 → ¬ z a 0 = nI j := fun j h1 h2 e => by rw [e, nN_nI (by omega)] at k0; omega
      rw [if_neg (nk 5 (by omega) (by omega)), if_neg (nk 6 (by omega) (by omega)), if_neg (nk 7 (by omega) (by omega))]
      obtain ⟨M1, c1, c2, c3⟩ := q_does hvs hRs (hzs a hab) (by omega) hk k0
      have ha99 : nN (z a 1) ≤ 99 ∨ ¬ nN (z a 0) = 0 := by
        rcases hk with ⟨-, cn, c1, c2, c3⟩ | ⟨e0, -⟩ | ⟨e0, -⟩ | ⟨e0, -⟩ | e0 | ⟨e0, -⟩ | ⟨e0, -⟩ | e0
        · exact Or.inl (by rw [c3, nN_nI (by omega)]; omega)
        all_goals exact Or.inr (by rw [e0, nN_nI (by omega)]; omega)
      have hvl : OkV W (lvA (nN (z a 0)) (nN (z a 1)) (nN (z a 2)) (stpV v)) := OkV_lvA hvs ha99
      have hk5 : (nI 5 ≤ mA Ms 140 (498 + 9 * a)) = False := by
        rw [z0]
        rcases hk with ⟨e0, -⟩ | ⟨e0, -⟩ | ⟨e0, -⟩ | ⟨e0, -⟩ | e0 | ⟨e0, -⟩ | ⟨e0, -⟩ | e0
        · rw [e0]; exact z_le_f (by omega) (by omega)
        · rw [e0]; exact z_le_f (by omega) (by omega)
        · rw [e0]; exact z_le_f (by omega) (by omega)
        · rw [e0]; exact z_le_f (by omega) (by omega)
        · rw [e0]; exact z_le_f (by omega) (by omega)
        · exact absurd e0 (nk 5 (by omega) (by omega))
        · exact absurd e0 (nk 6 (by omega) (by omega))
        · exact absurd e0 (nk 7 (by omega) (by omega))
      have hO2 := lvA_O (nN (z a 0)) (nN (z a 1)) (nN (z a 2)) (stpV v)
      have hN2 := lvA_N (nN (z a 0)) (nN (z a 1)) (nN (z a 2)) (stpV v)
      have hC2 := lvA_C (nN (z a 0)) (nN (z a 1)) (nN (z a 2)) (stpV v)
      have hI2 := lvA_I (nN (z a 0)) (nN (z a 1)) (nN (z a 2)) (stpV v)
      generalize lvA (nN (z a 0)) (nN (z a 1)) (nN (z a 2)) (stpV v) = w at *
      obtain ⟨h0, h1, h2, h3', h4, h5, h6, h7, h8⟩ := c2
      have h1 : mI M1 135 37 = b2i (vO w) := by rw [hO2]; exact h1
      have h3' : mI M1 135 39 = nI (vN w) := by rw [hN2]; exact h3'
      have h8 : mI M1 135 44 = nI (vC w) := by rw [hC2]; exact h8
      refine ⟨sI M1 135 40 (nI (vI w)), ?_, ⟨h0, h1, h2, h3', rfl, h5, h6, h7, h8⟩, hvl, hFs.tr (c3.tr (FrV.I (by omega) (by omega)))⟩
      rcases hI2 with hi | hi
      · rw [hi, decide_eq_true rfl] at c1
        rw [hi]
        simp (disch := first | assumption | omega) only [z_bdn, z_caln, z_gdn, z_iT, z_iF, z_le_t, z_le_f, z_lt_t, z_lt_f, z_cl, z_inb, z_at, z_pl, z_lit, nI_ii1, nI_add, nI_mul, z_eq_f, z_refuse, z_no, z_M00, b2i_t, b2i_f, e39, is300, hMs, hk5, c1, e40, Nat.add_zero]
        rfl
      · rw [hi, decide_eq_false (Nat.succ_ne_self _)] at c1
        rw [hi]
        simp (disch := first | assumption | omega) only [z_bdn, z_caln, z_gdn, z_iT, z_iF, z_le_t, z_le_f, z_lt_t, z_lt_f, z_cl, z_inb, z_at, z_pl, z_lit, nI_ii1, nI_add, nI_mul, z_eq_f, z_refuse, z_no, z_M00, b2i_t, b2i_f, e39, is300, hMs, hk5, c1, e40]
        rfl
theorem q_doAll (hP : OkD W y) : ∀ (nf d a b e F : Nat) (p1 : Int32) (v : Lv) (M : kx_M), Wel W (dC y) z nf d a b → b ≤ 30 → d ≤ e → b < a + F → OkV W v → RL M v → MD (mA M 140) h y → (∀ s, s < b → stpAt M z s) → ∃ M', f_RM_doAll_l2 (g_RM_doAll e) p1 (nI b) F (nI a) M = some ((), M') ∧ RL M' (exA y z nf a b v) ∧ OkV W (exA y z nf a b v) ∧ FrV M M' := by
  intro nf
  induction nf with
  | zero => intro d a b e F p1 v M hw; exact hw.elim
  | succ nf ih =>
    intro d a b e F p1 v M hw hb hde hF hv hR hD hz
    obtain ⟨F, rfl⟩ : ∃ F', F = F' + 1 := ⟨F - 1, by
      rcases hw with rfl | ⟨h1, -⟩ <;> omega⟩
    rw [f_RM_doAll_l2]
    rcases hw with rfl | ⟨hab, hk, hrest⟩
    · rw [exA_end (Nat.le_refl _)]
      refine ⟨M, ?_, hR, hv, FrV.rf⟩
      simp (disch := first | assumption | omega) only [z_bdn, z_caln, z_gdn, z_iT, z_iF, z_le_t, z_le_f, z_lt_t, z_lt_f, z_cl, z_inb, z_at, z_pl, z_lit, nI_ii1, nI_add, nI_mul, z_eq_f, z_refuse, z_no, z_M00, b2i_t, b2i_f]
    · have e37 : mI M 135 37 = b2i (vO v) := hR.2.1
      cases ho : vO v with
      | true =>
        rw [ho] at e37
        rw [exA_over ho]
        refine ⟨M, ?_, hR, hv, FrV.rf⟩
        simp (disch := first | assumption | omega) only [z_bdn, z_caln, z_gdn, z_iT, z_iF, z_le_t, z_le_f, z_lt_t, z_lt_f, z_cl, z_inb, z_at, z_pl, z_lit, nI_ii1, nI_add, nI_mul, z_eq_f, z_refuse, z_no, z_M00, b2i_t, b2i_f, e37]
      | false =>
        rw [ho] at e37
        rw [exA_go ho hab]
        obtain ⟨k, k8, hak, hkb, hwk, hin⟩ : ∃ k, z a 8 = nI k ∧ a < k ∧ k ≤ b ∧ Wel W (dC y) z nf d k b ∧ ((z a 0 = nI 5 ∨ z a 0 = nI 6) → 1 ≤ d ∧ Wel W (dC y) z nf (d - 1) (a + 1) k) := by
          rcases hrest with ⟨n5, n6, k8, hw⟩ | ⟨h56, k, k8, h1, h2, h3, h4, h5⟩
          · exact ⟨a + 1, k8, by omega, by omega, hw, fun hh => hh.elim (fun e => absurd e n5) (fun e => absurd e n6)⟩
          · exact ⟨k, k8, h1, h2, h5, fun _ => ⟨h3, h4⟩⟩
        have hnk : nN (z a 8) = k := by rw [k8, nN_nI (by omega)]
        obtain ⟨M1, c1, c2, c3, c4⟩ := q_doOne (nf := nf) (e := e) hP hb hab hk hv hR ho hD hz (fun h56 v M hv hR hD hz => by
          obtain ⟨hd1, hw2⟩ := hin h56
          obtain ⟨e2, rfl⟩ : ∃ e2, e = e2 + 1 := ⟨e - 1, by omega⟩
          rw [k8, nN_nI (by omega)]
          exact ih (d - 1) (a + 1) k e2 FU (nI (a + 1)) v M hw2 (by omega) (by omega) (show k < a + 1 + 1000000 by omega) hv hR hD (fun s hs => hz s (by omega)))
        have y8 := stpAt_V c4 (hz a hab) 8 (by omega)
        rw [k8] at y8
        rw [hnk]
        obtain ⟨M', d1, d2, d3, d4⟩ := ih d k b e F p1 _ M1 hwk hb hde (by omega) c3 c2 (MD_V hP c4 hD) (fun s hs => stpAt_V c4 (hz s hs))
        refine ⟨M', ?_, d2, d3, c4.tr d4⟩
        simp (disch := first | assumption | omega) only [z_bdn, z_caln, z_gdn, z_iT, z_iF, z_le_t, z_le_f, z_lt_t, z_lt_f, z_cl, z_inb, z_at, z_pl, z_lit, nI_ii1, nI_add, nI_mul, z_eq_f, z_refuse, z_no, z_M00, b2i_t, b2i_f, e37, c1, y8]
        exact d1
/-- a whole life: from this seed on -/
def lif0 (x : Cl) (s : Nat) : Lv := mkV x s 0 0 0 0 0 false 0
def lifV (y : De) (z : Sc) (x : Cl) (s : Nat) : Lv := exA y z.2.2 31 0 z.2.1 (lif0 x s)
theorem q_runsC {zz : Sc} {s : Nat} (hP : OkD (cW x) y) (hO : OkC x) (hY : cY x ≤ 9999) (hs : s < 65536) (hC : MC (mA M 140) x) (hD : MD (mA M 140) h y) (hZ : MZ (mA M 140) zz) (hzt : zz.1 = true) (hw : zz.2.1 ≤ 30 ∧ Wel (cW x) (dC y) zz.2.2 31 3 0 zz.2.1) : ∃ M', f_RM_runsCenturies (nI s) M = some ((), M') ∧ RL M' (lifV y zz x s) ∧ OkV (cW x) (lifV y zz x s) ∧ FrV M M' := by
  obtain ⟨z1, z2⟩ := hZ.2 hzt
  have hF0 : ∀ {M : kx_M} {k : Nat} {v : Int32}, 37 ≤ k → k ≤ 44 → FrV M (sI M 135 k v) := fun h1 h2 => FrV.I h1 h2
  obtain ⟨M0, hM0⟩ : ∃ M0, M0 = sI (sI (sI (sI (sI (sI (sI (sI M 135 38 (nI s)) 135 39 (nI 0)) 135 40 (nI 0)) 135 41 (nI 0)) 135 42 (nI 0)) 135 43 (nI 0)) 135 44 (nI 0)) 135 37 (nI 0) := ⟨_, rfl⟩
  have hFF : FrV M M0 := by
    rw [hM0]
    exact (hF0 (by omega) (by omega)).tr ((hF0 (by omega) (by omega)).tr ((hF0 (by omega) (by omega)).tr ((hF0 (by omega) (by omega)).tr ((hF0 (by omega) (by omega)).tr ((hF0 (by omega) (by omega)).tr ((hF0 (by omega) (by omega)).tr (hF0 (by omega) (by omega))))))))
  have hR : RL M0 (lif0 x s) := by
    rw [hM0]
    exact ⟨hC, rfl, rfl, rfl, rfl, rfl, rfl, rfl, rfl⟩
  have h497 : mA M0 140 497 = nI zz.2.1 := by rw [hM0]; exact z1
  have hz : ∀ s, s < zz.2.1 → stpAt M0 zz.2.2 s := fun s hs j hj => by rw [hM0]; exact z2 s j hs hj
  have hD0 : MD (mA M0 140) h y := by rw [hM0]; exact hD
  have hv : OkV (cW x) (lif0 x s) := ⟨hO, rfl, hY, hs, Nat.zero_le _⟩
  obtain ⟨M', a1, a2, a3, a4⟩ := q_doAll hP 31 3 0 zz.2.1 4 FU (nI 0) (lif0 x s) M0 hw.2 hw.1 (by omega) (show zz.2.1 < 0 + 1000000 by have := hw.1; omega) hv hR hD0 hz
  refine ⟨M', ?_, a2, a3, hFF.tr a4⟩
  have e5 : g_RM_doAll 5 (nI 0) (nI zz.2.1) M0 = some ((), M') := a1
  rw [f_RM_runsCenturies]
  have h30 := hw.1
  simp (disch := first | assumption | omega) only [z_bdn, z_caln, z_gdn, z_iT, z_iF, z_le_t, z_le_f, z_lt_t, z_lt_f, z_cl, z_inb, z_at, z_pl, z_lit, nI_ii1, nI_add, nI_mul, z_eq_f, z_refuse, z_no, z_M00, b2i_t, b2i_f, ← hM0, h497, e5]
end
