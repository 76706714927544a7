/-! ## CENTURIES: the reference -/
def RL (M : kx_M) (v : Lv) : Prop := MC (mA M 140) (vX v) ∧ mI M 135 37 = b2i (vO v) ∧ mI M 135 38 = nI (vS v) ∧ mI M 135 39 = nI (vN v) ∧ mI M 135 40 = nI (vI v) ∧ mI M 135 41 = nI (vY v) ∧ mI M 135 42 = nI (vF v) ∧ mI M 135 43 = nI (vD v) ∧ mI M 135 44 = nI (vC v)
def FrV (M M' : kx_M) : Prop := Fr (fun id => id = 135 ∨ id = 140 ∨ id = 144) M M' ∧ (∀ p, p ≠ 5 → ¬ (208 ≤ p ∧ p < 496) → mA M' 140 p = mA M 140 p) ∧ (∀ k, k < 37 ∨ 44 < k → mI M' 135 k = mI M 135 k) ∧ (∀ k, mJ M' 135 k = mJ M 135 k)
theorem FrV.rf {M : kx_M} : FrV M M := ⟨Fr.rf, fun _ _ _ => rfl, fun _ _ => rfl, fun _ => rfl⟩
theorem FrV.tr {A B C : kx_M} (h : FrV A B) (g : FrV B C) : FrV A C := ⟨h.1.tr g.1, fun p h1 h2 => (g.2.1 p h1 h2).trans (h.2.1 p h1 h2), fun k hk => (g.2.2.1 k hk).trans (h.2.2.1 k hk), fun k => (g.2.2.2 k).trans (h.2.2.2 k)⟩
theorem FrV.M {M M' : kx_M} (h : FrM M M') : FrV M M' := ⟨h.1.mono (fun id e => by omega), h.2, fun k _ => (h.1 135 (by decide)).1 k, fun k => (h.1 135 (by decide)).2.1 k⟩
theorem FrV.I {M : kx_M} {k : Nat} {v : Int32} (h1 : 37 ≤ k) (h2 : k ≤ 44) : FrV M (sI M 135 k v) := ⟨Fr.sI (Or.inl rfl), fun _ _ _ => rfl, fun j hj => by rw [mI_sI, if_neg (by omega)], fun _ => rfl⟩
section
variable {M M' : kx_M} {σ : Sg} {y : De} {x : Cl} {v : Lv}
theorem eatU_n (hO : OkC x) (r i : Nat) : (eatU x r i).2 ≤ 96 := by
  unfold eatU
  split
  · have h := (ladders_n hO (updN (cU x) (8 * r + i) 1, 1)).2
    have e : ((updN (cU x) (8 * r + i) 1, 1) : Us).2 = 1 := rfl
    omega
  · exact Nat.zero_le _
/-- the cloth and the numbers, told anew -/
theorem RL_fr (hF : FrM M M') (h : RL M v) {x : Cl} (hC : MC (mA M' 140) x) : RL M' (mkV x (vS v) (vN v) (vI v) (vY v) (vF v) (vD v) (vO v) (vC v)) := by
  have g := (hF.1 135 (by decide)).1
  obtain ⟨-, h1, h2, h3, h4, h5, h6, h7, h8⟩ := h
  exact ⟨hC, (g 37).trans h1, (g 38).trans h2, (g 39).trans h3, (g 40).trans h4, (g 41).trans h5, (g 42).trans h6, (g 43).trans h7, (g 44).trans h8⟩
theorem nI_ofI {v : Int32} {n : Nat} (h : n < 2147483648) (e : v.toInt = (n : Int)) : v = nI n := Int32.toInt_inj.mp (e.trans (nI_toInt (by omega)).symm)
theorem nI_div {a b : Nat} (ha : a < 2147483648) (hb : b < 2147483648) : nI a / nI b = nI (a / b)   := nI_ofI (Nat.lt_of_le_of_lt (Nat.div_le_self a b) ha) (by
  have h1 := Nat.div_le_self a b
  rw [Int32.toInt_div, nI_toInt (by omega), nI_toInt (by omega), ← Int.ofNat_tdiv]
  generalize a / b = q at h1 ⊢
  exact Int.bmod_eq_of_le (by omega) (by omega))
theorem sd_32 {s : Nat} (hs : s < 65536) : nI s * nI 2971 + nI 10729 - (nI s * nI 2971 + nI 10729) / nI 65536 * nI 65536 = nI (sdN s) := by
  rw [nI_mul, nI_add, nI_div (by omega) (by omega), nI_mul, z_sub (Nat.div_mul_le_self _ _)]
  congr 1
  have h := Nat.div_add_mod (s * 2971 + 10729) 65536
  rw [sdN_e]
  omega
theorem dr_32 {s n : Nat} (hs : s < 65536) (hn : n < 65536) : nI s / nI 8 - nI s / nI 8 / nI n * nI n = nI (s / 8 % n) := by
  have h1 : s / 8 ≤ s := Nat.div_le_self _ _
  rw [nI_div (by omega) (by omega), nI_div (by omega) (by omega), nI_mul, z_sub (Nat.div_mul_le_self _ _)]
  congr 1
  have h := Nat.div_add_mod (s / 8) n
  rw [Nat.mul_comm] at h
  omega
theorem q_Mdraw {n : Nat} (h : RL M v) (hs : vS v < 65536) (hn : 0 < n) (hn2 : n < 1000) : f_RM_draw (nI n) M = some (nI (sdN (vS v) / 8 % n), sI M 135 38 (nI (sdN (vS v)))) ∧ RL (sI M 135 38 (nI (sdN (vS v)))) (sedV v) := by
  obtain ⟨h0, h1, h2, h3, h4, h5, h6, h7, h8⟩ := h
  refine ⟨?_, h0, h1, rfl, h3, h4, h5, h6, h7, h8⟩
  have e1 := sd_32 hs
  have e2 := dr_32 (sdN_lt (vS v)) (show n < 65536 by omega)
  have e3 : nz (nI n) = true := decide_eq_true (nI_ne0 (by omega) (by omega))
  have e4 : mI (sI M 135 38 (nI (sdN (vS v)))) 135 38 = nI (sdN (vS v)) := rfl
  rw [f_RM_draw]
  simp only [z_lit]
  rw [h2, e1]
  simp (disch := first | assumption | omega) only [z_bdn, z_gdn, e3, e4, e2]
theorem q_isEaten {r i : Nat} (hv : OkV (cW (vX v)) v) (h : RL M v) (hr : r < cR (vX v)) (hi : i < cW (vX v)) : ∃ M', f_RM_isEaten (nI r) (nI i) M = some (b2i (decide ((eatU (vX v) r i).2 ≠ 0)), M') ∧ RL M' (mkV (eatX (vX v) r i) (vS v) (vN v) (vI v) (vY v) (vF v + (eatU (vX v) r i).2) (vD v) (vO v) (vC v)) ∧ FrV M M' := by
  obtain ⟨M1, a1, a2, a3⟩ := q_Meat hv.1 h.1 hr hi
  have hl := RL_fr a3 h a2
  have e42 : mI M 135 42 = nI (vF v) := h.2.2.2.2.2.2.1
  have e42' : mI M1 135 42 = nI (vF v) := hl.2.2.2.2.2.2.1
  obtain ⟨-, h1, h2, h3, h4, h5, h6, h7, h8⟩ := hl
  have hn := eatU_n hv.1 r i
  rw [f_RM_isEaten]
  cases hb : looseB (vX v) (8 * r + i) with
  | false =>
    rw [hb, if_neg (by decide)] at a1
    have e0 := eat_none hb
    have a1 : f_RM_eats (nI r) (nI i) M = some (-nI 1, M1) := a1
    rw [e0]
    refine ⟨sI M1 135 42 (nI (vF v + 0)), ?_, ⟨a2, h1, h2, h3, h4, h5, rfl, h7, h8⟩, (FrV.M a3).tr (FrV.I (by omega) (by omega))⟩
    have z1 : (nI 0 < -nI 1) = False := eq_false (by decide)
    have z2 : (-nI 1 ≤ nI 0) = True := eq_true (by decide)
    simp (disch := first | assumption | omega) only [z_bdn, z_caln, z_gdn, z_iT, z_iF, z_le_t, z_le_f, z_lt_t, z_lt_f, z_cl, z_inb, z_at, z_pl, z_lit, nI_ii1, nI_add, nI_mul, z_eq_f, z_refuse, z_no, z_M00, b2i_t, b2i_f, a1, e42', z1, z2]
    rfl
  | true =>
    rw [hb, if_pos rfl] at a1
    refine ⟨sI M1 135 42 (nI (vF v + (eatU (vX v) r i).2)), ?_, ⟨a2, h1, h2, h3, h4, h5, rfl, h7, h8⟩, (FrV.M a3).tr (FrV.I (by omega) (by omega))⟩
    by_cases h0 : (eatU (vX v) r i).2 = 0
    · rw [h0] at a1 ⊢
      simp (disch := first | assumption | omega) only [z_bdn, z_caln, z_gdn, z_iT, z_iF, z_le_t, z_le_f, z_lt_t, z_lt_f, z_cl, z_inb, z_at, z_pl, z_lit, nI_ii1, nI_add, nI_mul, z_eq_f, z_refuse, z_no, z_M00, b2i_t, b2i_f, a1, e42']
      rfl
    · rw [decide_eq_true h0]
      simp (disch := first | assumption | omega) only [z_bdn, z_caln, z_gdn, z_iT, z_iF, z_le_t, z_le_f, z_lt_t, z_lt_f, z_cl, z_inb, z_at, z_pl, z_lit, nI_ii1, nI_add, nI_mul, z_eq_f, z_refuse, z_no, z_M00, b2i_t, b2i_f, a1, e42']
theorem q_isPulled {r s : Nat} (hv : OkV (cW (vX v)) v) (h : RL M v) (hr : r < cR (vX v)) (hs : s ≤ 1) : ∃ M', f_RM_isPulled (nI r) (nI s) M = some (b2i (decide ((pulU (vX v) r s).2 ≠ 0)), M') ∧ RL M' (mkV (pulX (vX v) r s) (vS v) (vN v) (vI v) (vY v) (vF v + (pulU (vX v) r s).2) (vD v) (vO v) (vC v)) ∧ FrV M M' := by
  obtain ⟨M1, a1, a2, a3⟩ := q_Mpull hv.1 h.1 hr hs
  have hl := RL_fr a3 h a2
  have e42' : mI M1 135 42 = nI (vF v) := hl.2.2.2.2.2.2.1
  obtain ⟨-, h1, h2, h3, h4, h5, h6, h7, h8⟩ := hl
  have hn := pulU_n hv.1 r s
  rw [f_RM_isPulled]
  refine ⟨sI M1 135 42 (nI (vF v + (pulU (vX v) r s).2)), ?_, ⟨a2, h1, h2, h3, h4, h5, rfl, h7, h8⟩, (FrV.M a3).tr (FrV.I (by omega) (by omega))⟩
  by_cases h0 : (pulU (vX v) r s).2 = 0
  · rw [h0] at a1 ⊢
    simp (disch := first | assumption | omega) only [z_bdn, z_caln, z_gdn, z_iT, z_iF, z_le_t, z_le_f, z_lt_t, z_lt_f, z_cl, z_inb, z_at, z_pl, z_lit, nI_ii1, nI_add, nI_mul, z_eq_f, z_refuse, z_no, z_M00, b2i_t, b2i_f, a1, e42']
    rfl
  · rw [decide_eq_true h0]
    simp (disch := first | assumption | omega) only [z_bdn, z_caln, z_gdn, z_iT, z_iF, z_le_t, z_le_f, z_lt_t, z_lt_f, z_cl, z_inb, z_at, z_pl, z_lit, nI_ii1, nI_add, nI_mul, z_eq_f, z_refuse, z_no, z_M00, b2i_t, b2i_f, a1, e42']
theorem q_anyYears_l18 {N : Nat} (hO : OkC x) (hN : N ≤ 99) (hY : cY x + N ≤ 9999) : ∀ (m n i : Nat) (M : kx_M), i + m = N → m < n → RL M (mkV (yrM x i) (vS v) (vN v) (vI v) (vY v) (vF v + (yrs x i).2) (vD v) (vO v) (vC v)) → ∃ M', f_RM_anyYears_l18 (nI N) n (nI i) M = some (nI 1, M') ∧ RL M' (mkV (yrM x N) (vS v) (vN v) (vI v) (vY v + N) (vF v + (yrs x N).2) (vD v) (vO v) (vC v)) ∧ FrV M M' := by
  intro m
  induction m with
  | zero =>
    intro n i M hi hn h
    obtain ⟨n, rfl, hn⟩ := z_succ hn
    obtain rfl : i = N := by omega
    obtain ⟨h0, h1, h2, h3, h4, h5, h6, h7, h8⟩ := h
    have e5 : mI M 135 41 = nI (vY v) := h5
    refine ⟨sI M 135 41 (nI (vY v + i)), ?_, ⟨h0, h1, h2, h3, h4, rfl, h6, h7, h8⟩, FrV.I (by omega) (by omega)⟩
    rw [f_RM_anyYears_l18]
    simp (disch := first | assumption | omega) only [z_bdn, z_caln, z_gdn, z_iT, z_iF, z_le_t, z_le_f, z_lt_t, z_lt_f, z_cl, z_inb, z_at, z_pl, z_lit, nI_ii1, nI_add, nI_mul, z_eq_f, z_refuse, z_no, z_M00, b2i_t, b2i_f, e5]
  | succ m ih =>
    intro n i M hi hn h
    obtain ⟨n, rfl, hn⟩ := z_succ hn
    obtain ⟨M1, a1, a2, a3⟩ := q_goesM hO (show cY x + i < 19000 by omega) h.1
    have hl := RL_fr a3 h a2
    have e6 : mI M1 135 42 = nI (vF v + (yrs x i).2) := hl.2.2.2.2.2.2.1
    have e6b : mI M 135 42 = nI (vF v + (yrs x i).2) := h.2.2.2.2.2.2.1
    obtain ⟨-, h1, h2, h3, h4, h5, h6, h7, h8⟩ := hl
    have es : vF v + (yrs x i).2 + (yearU (yrs x i).1).2 = vF v + (yrs x (i + 1)).2 := by rw [yrs_succ]; exact Nat.add_assoc _ _ _
    obtain ⟨M', b1, b2, b3⟩ := ih n (i + 1) (sI M1 135 42 (nI (vF v + (yrs x (i + 1)).2))) (by omega) (by omega) ⟨a2, h1, h2, h3, h4, h5, rfl, h7, h8⟩
    refine ⟨M', ?_, b2, (FrV.M a3).tr ((FrV.I (by omega) (by omega)).tr b3)⟩
    rw [f_RM_anyYears_l18]
    simp (disch := first | assumption | omega) only [z_bdn, z_caln, z_gdn, z_iT, z_iF, z_le_t, z_le_f, z_lt_t, z_lt_f, z_cl, z_inb, z_at, z_pl, z_lit, nI_ii1, nI_add, nI_mul, z_eq_f, z_refuse, z_no, z_M00, b2i_t, b2i_f, a1, e6, e6b, es]
    exact b1
/-- what stands at a step's place -/
def stpAt (M : kx_M) (z : Nat → Nat → Int32) (s : Nat) : Prop := ∀ j, j < 9 → mA M 140 (498 + 9 * s + j) = z s j
theorem z_kn {k j : Nat} (h : k ≠ j) (hk : k < 100) (hj : j < 100) : (nI k = nI j) = False := z_eq_f h (by omega) (by omega)
theorem q_does {z : Nat → Nat → Int32} {W C s : Nat} (hv : OkV W v) (h : RL M v) (hz : stpAt M z s) (hs : s ≤ 30) (hk : stepOk W C (z s)) (h5 : nN (z s 0) < 5) : ∃ M', f_RM_does (nI (498 + 9 * s)) M = some (b2i (decide (vI (lvA (nN (z s 0)) (nN (z s 1)) (nN (z s 2)) v) = vI v)), M') ∧ RL M' (mkV (vX (lvA (nN (z s 0)) (nN (z s 1)) (nN (z s 2)) v)) (vS (lvA (nN (z s 0)) (nN (z s 1)) (nN (z s 2)) v)) (vN v) (vI v) (vY (lvA (nN (z s 0)) (nN (z s 1)) (nN (z s 2)) v)) (vF (lvA (nN (z s 0)) (nN (z s 1)) (nN (z s 2)) v)) (vD (lvA (nN (z s 0)) (nN (z s 1)) (nN (z s 2)) v)) (vO v) (vC v)) ∧ FrV M M' := by
  have hvW : OkV (cW (vX v)) v := by rw [hv.2.1]; exact hv
  have w3 := hv.1.2.2.1
  have w2 := hv.1.1.2
  have w1 := hv.1.1.1
  have z0 := hz 0 (by omega)
  have z1 := hz 1 (by omega)
  have z2 := hz 2 (by omega)
  rw [Nat.add_zero] at z0
  have e4 : mA M 140 4 = nI (cR (vX v)) := h.1.2.2.1
  have e0 : mA M 140 0 = nI (cW (vX v)) := h.1.1
  have e5 : mA M 140 5 = nI (cY (vX v)) := h.1.2.2.2.1
  have b11 : b01 (nI 1) = true := by decide
  have b10 : b01 (nI 0) = true := by decide
  rw [f_RM_does]
  rcases hk with ⟨k0, a, a1, a2, ka⟩ | ⟨k0, a, b, a1, b1, ka, kb⟩ | ⟨k0, a, b, a1, b1, ka, kb⟩ | ⟨k0, a, b, a1, b1, ka, kb⟩ | k0 | ⟨k0, -⟩ | ⟨k0, -⟩ | k0
  · rw [k0] at z0
    rw [ka] at z1
    rw [k0, ka, nN_nI (by omega), nN_nI (by omega)]
    by_cases hy : cY (vX v) + a ≤ 9999
    · have el : lvA 0 a (nN (z s 2)) v = mkV (yrM (vX v) a) (vS v) (vN v) (vI v) (vY v + a) (vF v + (yrs (vX v) a).2) (vD v) (vO v) (vC v) := by
        unfold lvA; rw [if_pos rfl, if_pos hy]
      rw [el]
      obtain ⟨M', c1, c2, c3⟩ := q_anyYears_l18 (v := v) hv.1 (show a ≤ 99 by omega) hy a FU 0 M (by omega) (FU_lt (by omega)) h
      refine ⟨M', ?_, c2, c3⟩
      have eA : f_RM_anyYears (nI a) M = some (nI 1, M') := by
        rw [f_RM_anyYears]
        simp (disch := first | assumption | omega) only [z_bdn, z_caln, z_gdn, z_iT, z_iF, z_le_t, z_le_f, z_lt_t, z_lt_f, z_cl, z_inb, z_at, z_pl, z_lit, nI_ii1, nI_add, nI_mul, z_eq_f, z_refuse, z_no, z_M00, b2i_t, b2i_f, e5]
        exact c1
      rw [decide_eq_true (show vI (mkV (yrM (vX v) a) (vS v) (vN v) (vI v) (vY v + a) (vF v + (yrs (vX v) a).2) (vD v) (vO v) (vC v)) = vI v from rfl)]
      simp (disch := first | assumption | omega) only [z_bdn, z_caln, z_gdn, z_iT, z_iF, z_le_t, z_le_f, z_lt_t, z_lt_f, z_cl, z_inb, z_at, z_pl, z_lit, nI_ii1, nI_add, nI_mul, z_eq_f, z_refuse, z_no, z_M00, b2i_t, b2i_f, z0, z1, z2, eq_self, eA, b11]
    · have el : lvA 0 a (nN (z s 2)) v = misV v := by unfold lvA; rw [if_pos rfl, if_neg hy]
      rw [el]
      refine ⟨M, ?_, h, FrV.rf⟩
      have eA : f_RM_anyYears (nI a) M = some (nI 0, M) := by
        rw [f_RM_anyYears]
        have hcy := hv.2.2.1
        simp (disch := first | assumption | omega) only [z_bdn, z_caln, z_gdn, z_iT, z_iF, z_le_t, z_le_f, z_lt_t, z_lt_f, z_cl, z_inb, z_at, z_pl, z_lit, nI_ii1, nI_add, nI_mul, z_eq_f, z_refuse, z_no, z_M00, b2i_t, b2i_f, e5]
      rw [decide_eq_false (show ¬ vI (misV v) = vI v from Nat.succ_ne_self _)]
      simp (disch := first | assumption | omega) only [z_bdn, z_caln, z_gdn, z_iT, z_iF, z_le_t, z_le_f, z_lt_t, z_lt_f, z_cl, z_inb, z_at, z_pl, z_lit, nI_ii1, nI_add, nI_mul, z_eq_f, z_refuse, z_no, z_M00, b2i_t, b2i_f, z0, z1, z2, eq_self, eA, b10]
  · rw [k0] at z0
    rw [ka] at z1
    rw [kb] at z2
    rw [k0, ka, kb, nN_nI (by omega), nN_nI (by omega), nN_nI (by omega)]
    have hrow := q_isRowAt hv.1 h.1 (nI a)
    rw [ix_nI (by omega)] at hrow
    by_cases hr : a < cR (vX v)
    · have el : lvA 1 a b v = came v (pulU (vX v) a b) (pulX (vX v) a b) := by unfold lvA; rw [if_neg (by omega), if_neg (by omega), if_pos hr, if_pos rfl]
      rw [el]
      rw [decide_eq_true hr] at hrow
      obtain ⟨M', c1, c2, c3⟩ := q_isPulled hvW h hr b1
      refine ⟨M', ?_, c2, c3⟩
      have ed : decide (vI (came v (pulU (vX v) a b) (pulX (vX v) a b)) = vI v) = decide ((pulU (vX v) a b).2 ≠ 0) := by
        show decide (vI v + (if (pulU (vX v) a b).2 = 0 then 1 else 0) = vI v) = _
        by_cases h0 : (pulU (vX v) a b).2 = 0
        · rw [if_pos h0, decide_eq_false (by omega), decide_eq_false (fun hh => hh h0)]
        · rw [if_neg h0, Nat.add_zero, decide_eq_true rfl, decide_eq_true h0]
      rw [ed]
      simp (disch := first | assumption | omega) only [z_bdn, z_caln, z_gdn, z_iT, z_iF, z_le_t, z_le_f, z_lt_t, z_lt_f, z_cl, z_inb, z_at, z_pl, z_lit, nI_ii1, nI_add, nI_mul, z_eq_f, z_refuse, z_no, z_M00, b2i_t, b2i_f, z0, z1, z2, z_kn, eq_self, hrow, c1, z_b01]
    · have el : lvA 1 a b v = misV v := by unfold lvA; rw [if_neg (by omega), if_neg (by omega), if_neg hr]
      rw [el]
      rw [decide_eq_false hr] at hrow
      refine ⟨M, ?_, h, FrV.rf⟩
      rw [decide_eq_false (show ¬ vI (misV v) = vI v from Nat.succ_ne_self _)]
      simp (disch := first | assumption | omega) only [z_bdn, z_caln, z_gdn, z_iT, z_iF, z_le_t, z_le_f, z_lt_t, z_lt_f, z_cl, z_inb, z_at, z_pl, z_lit, nI_ii1, nI_add, nI_mul, z_eq_f, z_refuse, z_no, z_M00, b2i_t, b2i_f, z0, z1, z2, z_kn, eq_self, hrow]
  · rw [k0] at z0
    rw [ka] at z1
    rw [kb] at z2
    rw [k0, ka, kb, nN_nI (by omega), nN_nI (by omega), nN_nI (by have := hv.2.1; omega)]
    have hrow := q_isRowAt hv.1 h.1 (nI a)
    rw [ix_nI (by omega)] at hrow
    by_cases hr : a < cR (vX v)
    · have el : lvA 2 a b v = came v (eatU (vX v) a b) (eatX (vX v) a b) := by unfold lvA; rw [if_neg (by omega), if_neg (by omega), if_pos hr, if_neg (by omega), if_pos rfl]
      rw [el]
      rw [decide_eq_true hr] at hrow
      obtain ⟨M', c1, c2, c3⟩ := q_isEaten hvW h hr (show b < cW (vX v) by have := hv.2.1; omega)
      refine ⟨M', ?_, c2, c3⟩
      have ed : decide (vI (came v (eatU (vX v) a b) (eatX (vX v) a b)) = vI v) = decide ((eatU (vX v) a b).2 ≠ 0) := by
        show decide (vI v + (if (eatU (vX v) a b).2 = 0 then 1 else 0) = vI v) = _
        by_cases h0 : (eatU (vX v) a b).2 = 0
        · rw [if_pos h0, decide_eq_false (by omega), decide_eq_false (fun hh => hh h0)]
        · rw [if_neg h0, Nat.add_zero, decide_eq_true rfl, decide_eq_true h0]
      rw [ed]
      simp (disch := first | assumption | omega) only [z_bdn, z_caln, z_gdn, z_iT, z_iF, z_le_t, z_le_f, z_lt_t, z_lt_f, z_cl, z_inb, z_at, z_pl, z_lit, nI_ii1, nI_add, nI_mul, z_eq_f, z_refuse, z_no, z_M00, b2i_t, b2i_f, z0, z1, z2, z_kn, eq_self, hrow, c1, z_b01]
    · have el : lvA 2 a b v = misV v := by unfold lvA; rw [if_neg (by omega), if_neg (by omega), if_neg hr]
      rw [el]
      rw [decide_eq_false hr] at hrow
      refine ⟨M, ?_, h, FrV.rf⟩
      rw [decide_eq_false (show ¬ vI (misV v) = vI v from Nat.succ_ne_self _)]
      simp (disch := first | assumption | omega) only [z_bdn, z_caln, z_gdn, z_iT, z_iF, z_le_t, z_le_f, z_lt_t, z_lt_f, z_cl, z_inb, z_at, z_pl, z_lit, nI_ii1, nI_add, nI_mul, z_eq_f, z_refuse, z_no, z_M00, b2i_t, b2i_f, z0, z1, z2, z_kn, eq_self, hrow]
  · rw [k0] at z0
    rw [ka] at z1
    rw [kb] at z2
    rw [k0, ka, kb, nN_nI (by omega), nN_nI (by omega), nN_nI (by have := hv.2.1; omega)]
    have hrow := q_isRowAt hv.1 h.1 (nI a)
    rw [ix_nI (by omega)] at hrow
    by_cases hr : a < cR (vX v)
    · have el : lvA 3 a b v = mkV (patX (vX v) (8 * a + b)) (vS v) (vN v) (vI v) (vY v) (vF v) (vD v + 1) (vO v) (vC v) := by unfold lvA; rw [if_neg (by omega), if_neg (by omega), if_pos hr, if_neg (by omega), if_neg (by omega)]
      rw [el]
      rw [decide_eq_true hr] at hrow
      obtain ⟨M1, c1, c2, c3⟩ := q_Mpat hv.1 h.1 hr (show b < cW (vX v) by have := hv.2.1; omega)
      have hl := RL_fr c3 h c2
      have e7 : mI M1 135 43 = nI (vD v) := hl.2.2.2.2.2.2.2.1
      obtain ⟨-, h1, h2, h3, h4, h5, h6, h7, h8⟩ := hl
      refine ⟨sI M1 135 43 (nI (vD v + 1)), ?_, ⟨c2, h1, h2, h3, h4, h5, h6, rfl, h8⟩, (FrV.M c3).tr (FrV.I (by omega) (by omega))⟩
      rw [decide_eq_true (show vI (mkV (patX (vX v) (8 * a + b)) (vS v) (vN v) (vI v) (vY v) (vF v) (vD v + 1) (vO v) (vC v)) = vI v from rfl)]
      simp (disch := first | assumption | omega) only [z_bdn, z_caln, z_gdn, z_iT, z_iF, z_le_t, z_le_f, z_lt_t, z_lt_f, z_cl, z_inb, z_at, z_pl, z_lit, nI_ii1, nI_add, nI_mul, z_eq_f, z_refuse, z_no, z_M00, b2i_t, b2i_f, z0, z1, z2, z_kn, eq_self, hrow, c1, e7]
    · have el : lvA 3 a b v = misV v := by unfold lvA; rw [if_neg (by omega), if_neg (by omega), if_neg hr]
      rw [el]
      rw [decide_eq_false hr] at hrow
      refine ⟨M, ?_, h, FrV.rf⟩
      rw [decide_eq_false (show ¬ vI (misV v) = vI v from Nat.succ_ne_self _)]
      simp (disch := first | assumption | omega) only [z_bdn, z_caln, z_gdn, z_iT, z_iF, z_le_t, z_le_f, z_lt_t, z_lt_f, z_cl, z_inb, z_at, z_pl, z_lit, nI_ii1, nI_add, nI_mul, z_eq_f, z_refuse, z_no, z_M00, b2i_t, b2i_f, z0, z1, z2, z_kn, eq_self, hrow]
  · rw [k0] at z0
    rw [k0, nN_nI (by omega)]
    by_cases hr : cR (vX v) = 0
    · have el : lvA 4 (nN (z s 1)) (nN (z s 2)) v = misV v := by unfold lvA; rw [if_neg (by omega), if_pos rfl, if_pos hr]
      rw [el]
      refine ⟨M, ?_, h, FrV.rf⟩
      rw [hr] at e4
      have eA : f_RM_isAny M = some (nI 0, M) := by
        rw [f_RM_isAny]
        simp (disch := first | assumption | omega) only [z_bdn, z_caln, z_gdn, z_iT, z_iF, z_le_t, z_le_f, z_lt_t, z_lt_f, z_cl, z_inb, z_at, z_pl, z_lit, nI_ii1, nI_add, nI_mul, z_eq_f, z_refuse, z_no, z_M00, b2i_t, b2i_f, e4, eq_self]
      rw [decide_eq_false (show ¬ vI (misV v) = vI v from Nat.succ_ne_self _)]
      simp (disch := first | assumption | omega) only [z_bdn, z_caln, z_gdn, z_iT, z_iF, z_le_t, z_le_f, z_lt_t, z_lt_f, z_cl, z_inb, z_at, z_pl, z_lit, nI_ii1, nI_add, nI_mul, z_eq_f, z_refuse, z_no, z_M00, b2i_t, b2i_f, z0, z_kn, eq_self, eA, b10]
    · have el : lvA 4 (nN (z s 1)) (nN (z s 2)) v = came (sedV (sedV v)) (eatU (vX v) (sdN (vS v) / 8 % cR (vX v)) (sdN (sdN (vS v)) / 8 % cW (vX v))) (eatX (vX v) (sdN (vS v) / 8 % cR (vX v)) (sdN (sdN (vS v)) / 8 % cW (vX v))) := by unfold lvA; rw [if_neg (by omega), if_pos rfl, if_neg hr]
      rw [el]
      obtain ⟨d1, d2⟩ := q_Mdraw h hv.2.2.2.1 (show 0 < cR (vX v) by omega) (by omega)
      obtain ⟨d3, d4⟩ := q_Mdraw (n := cW (vX v)) d2 (sdN_lt _) (by omega) (by omega)
      have e0b : mA (sI M 135 38 (nI (sdN (vS v)))) 140 0 = nI (cW (vX v)) := e0
      have m1 : sdN (vS v) / 8 % cR (vX v) < cR (vX v) := Nat.mod_lt _ (by omega)
      have m2 : sdN (sdN (vS v)) / 8 % cW (vX v) < cW (vX v) := Nat.mod_lt _ (by omega)
      obtain ⟨M', c1, c2, c3⟩ := q_isEaten (v := sedV (sedV v)) (OkV_sed (OkV_sed hvW)) d4 m1 m2
      refine ⟨M', ?_, c2, (FrV.I (by omega) (by omega)).tr ((FrV.I (by omega) (by omega)).tr c3)⟩
      have d3 : f_RM_draw (nI (cW (vX v))) (sI M 135 38 (nI (sdN (vS v)))) = some (nI (sdN (sdN (vS v)) / 8 % cW (vX v)), sI (sI M 135 38 (nI (sdN (vS v)))) 135 38 (nI (sdN (sdN (vS v))))) := d3
      have c1 : f_RM_isEaten (nI (sdN (vS v) / 8 % cR (vX v))) (nI (sdN (sdN (vS v)) / 8 % cW (vX v))) (sI (sI M 135 38 (nI (sdN (vS v)))) 135 38 (nI (sdN (sdN (vS v))))) = some (b2i (decide ((eatU (vX v) (sdN (vS v) / 8 % cR (vX v)) (sdN (sdN (vS v)) / 8 % cW (vX v))).2 ≠ 0)), M') := c1
      have eA : f_RM_isAny M = some (b2i (decide ((eatU (vX v) (sdN (vS v) / 8 % cR (vX v)) (sdN (sdN (vS v)) / 8 % cW (vX v))).2 ≠ 0)), M') := by
        rw [f_RM_isAny]
        simp (disch := first | assumption | omega) only [z_bdn, z_caln, z_gdn, z_iT, z_iF, z_le_t, z_le_f, z_lt_t, z_lt_f, z_cl, z_inb, z_at, z_pl, z_lit, nI_ii1, nI_add, nI_mul, z_eq_f, z_refuse, z_no, z_M00, b2i_t, b2i_f, e4, d1, e0b, d3, c1, z_b01]
      have ed : decide (vI (came (sedV (sedV v)) (eatU (vX v) (sdN (vS v) / 8 % cR (vX v)) (sdN (sdN (vS v)) / 8 % cW (vX v))) (eatX (vX v) (sdN (vS v) / 8 % cR (vX v)) (sdN (sdN (vS v)) / 8 % cW (vX v)))) = vI v) = decide ((eatU (vX v) (sdN (vS v) / 8 % cR (vX v)) (sdN (sdN (vS v)) / 8 % cW (vX v))).2 ≠ 0) := by
        show decide (vI v + (if (eatU (vX v) (sdN (vS v) / 8 % cR (vX v)) (sdN (sdN (vS v)) / 8 % cW (vX v))).2 = 0 then 1 else 0) = vI v) = _
        by_cases h0 : (eatU (vX v) (sdN (vS v) / 8 % cR (vX v)) (sdN (sdN (vS v)) / 8 % cW (vX v))).2 = 0
        · rw [if_pos h0, decide_eq_false (by omega), decide_eq_false (fun hh => hh h0)]
        · rw [if_neg h0, Nat.add_zero, decide_eq_true rfl, decide_eq_true h0]
      rw [ed]
      simp (disch := first | assumption | omega) only [z_bdn, z_caln, z_gdn, z_iT, z_iF, z_le_t, z_le_f, z_lt_t, z_lt_f, z_cl, z_inb, z_at, z_pl, z_lit, nI_ii1, nI_add, nI_mul, z_eq_f, z_refuse, z_no, z_M00, b2i_t, b2i_f, z0, z_kn, eq_self, eA, z_b01]
  · rw [k0, nN_nI (by omega)] at h5; omega
  · rw [k0, nN_nI (by omega)] at h5; omega
  · rw [k0, nN_nI (by omega)] at h5; omega
end
