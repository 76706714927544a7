/-! ## half-seen rows: the law's columns -/
section
variable {hA : Nat → Int32} {v : Nat → Nat} {M : kx_M} {σ : Sg} {sc : Nat × (Nat → Int32)} {u : St} {Y : Nat}
/-- the TREATY is u, no MARKS, TRAY 1 is a ROW's -/
def PZ (v : Nat → Nat) (u : St) (σ : Sg) : Prop := gN σ = u ∧ (gK σ).1 = 0 ∧ RTr σ (v 0)
def flU (u : St) (k : Nat) (g : Nat → Option Nat) : Nat := wv (dL u.2.1 k) (rnN u.2.1 k (dL u.2.1 k)) g (cW u.1) (dL u.2.1 k)
theorem flG_U (h : PZ v u σ) (k : Nat) (g : Nat → Option Nat) : flG σ k g = flU u k g := by
  rw [← h.1]
  rfl
theorem T_w {W e : Nat} {o : Option Nat} (h : RTr σ W) (ho : ∀ a, o = some a → a < 4) : RTr (wT σ (updT (gT σ) 1 (trW (gT σ 1) e (jN o)))) W ∧ ∀ i, tV (gT (wT σ (updT (gT σ) 1 (trW (gT σ 1) e (jN o)))) 1) i = if i = e then jN o else tV (gT σ 1) i := by
  have eT : gT (wT σ (updT (gT σ) 1 (trW (gT σ 1) e (jN o)))) 1 = trW (gT σ 1) e (jN o) := by
    show (if 1 = 1 then trW (gT σ 1) e (jN o) else gT σ 1) = _
    exact if_pos rfl
  unfold RTr
  rw [eT]
  refine ⟨h, fun i => ?_⟩
  show (if i = e then cutJ (tS (gT σ 1)) (jN o) else tV (gT σ 1) i) = _
  rw [h.2.1, (cut_jN o ho).1]
theorem j_none : (lg_cmp (jN none) 0 < nI 0) = True := by decide
theorem j_some : ∀ b, b < 4 → (lg_cmp (jN (some b)) 0 < nI 0) = False := by
  have h : ∀ b, b < 4 → ¬ (lg_cmp (jN (some b)) 0 < nI 0) := by decide
  exact fun b hb => eq_false (h b hb)
theorem j_eq : ∀ b, b < 4 → ∀ a, a < 4 → (lg_cmp (jN (some b)) ((nI a).toInt64) = nI 0) = (b = a) := by
  have h : ∀ b, b < 4 → ∀ a, a < 4 → (lg_cmp (jN (some b)) ((nI a).toInt64) = nI 0 ↔ b = a) := by decide
  exact fun b hb a ha => propext (h b hb a ha)
theorem e_1073 {x4 x5 x6 x7 x8 x9 x10 x13 x15 : Int32} {x15' : Int64} {k e a acc W : Nat} {g : Nat → Option Nat} {K : Int32 → Int32 → Int32 → Int32 → Int32 → Int32 → Int32 → Int32 → Int32 → Int32 → Int64 → Int32 → Int32 → kx_M → Option (Int32 × kx_M)} (h : CO hA M σ) (hZ : PZ v u σ) (hW : cW u.1 = v 0) (hW5 : v 0 ≤ 5) (hk : k < dC u.2.1) (he : e < v 0) (ha : a < 4) (hg : ∀ j, j < v 0 → j ≠ e → tV (gT σ 1) j = jN (g j) ∧ ∀ a, g j = some a → a < 4)
    (hK : ∀ M' σ', CO hA M' σ' → PZ v u σ' → (∀ j, j < v 0 → j ≠ e → tV (gT σ' 1) j = jN (g j) ∧ ∀ a, g j = some a → a < 4) → Gd (K x4 x5 x6 x7 x8 x9 x10 (nI k) x13 (nI e) x15' (nI (acc + flU u k (knU g e a))) (nI (a + 1)) M')) : Gd (f_LW_law_l1073 sc K x4 x5 x6 x7 x8 x9 x10 (nI k) x13 (nI e) x15' (nI acc) (nI a) M) := by
  have ho : ∀ b, some a = some b → b < 4 := fun b hb => by cases hb; exact ha
  have hWx : cW (gX σ) = v 0 := by
    have : gX σ = u.1 := congrArg (fun q => q.1) hZ.1
    rw [this]; exact hW
  have hY : gY σ = u.2.1 := congrArg (fun q => q.2.1) hZ.1
  have hkx : k < dC (gY σ) := by rw [hY]; exact hk
  have ej : (nI a).toInt64 = jN (some a) := rfl
  obtain ⟨M1, a1, a2⟩ := c_write h (e := e) hZ.2.2 he (by omega) (jN (some a))
  have hT := TT_write (e := e) (g := g) (o := some a) hZ.2.2 hg ho
  have hZ1 : PZ v u (wT σ (updT (gT σ) 1 (trW (gT σ 1) e (jN (some a))))) := ⟨hZ.1, hZ.2.1, TTk_r hT⟩
  obtain ⟨M2, b1, b2⟩ := c_fills a2 hT hWx hkx
  obtain ⟨M3, c1, c2⟩ := c_fills b2 hT hWx hkx
  have ef : flG (wT σ (updT (gT σ) 1 (trW (gT σ 1) e (jN (some a))))) k (setO g e (some a)) = flU u k (knU g e a) := flG_U hZ1 k _
  rw [ef] at b1 c1
  have hF : flU u k (knU g e a) < 2147483648 := wv_lt (by omega)
  have hg1 : ∀ j, j < v 0 → j ≠ e → tV (gT (wT σ (updT (gT σ) 1 (trW (gT σ 1) e (jN (some a))))) 1) j = jN (g j) ∧ ∀ a, g j = some a → a < 4 := fun j hj hne => by
    rw [(T_w (e := e) hZ.2.2 ho).2 j, if_neg hne]
    exact hg j hj hne
  rw [f_LW_law_l1073]
  by_cases h0 : flU u k (knU g e a) = 0
  · have gg := hK M3 _ c2 hZ1 hg1
    have z0 : (nI (flU u k (knU g e a)) ≤ nI 0) = True := z_le_t (by omega) (by omega)
    simp (disch := first | assumption | omega) only [z_bdn, z_caln, z_gdn, z_iT, z_iF, z_le_t, z_le_f, z_lt_t, z_lt_f, z_cl, z_inb, z_at, z_lit, nI_ii1, nI_add, z_mr, z_ref0, z_refn, z_eq_f, Bool.not_true, Bool.not_false, b2i_t, b2i_f, ej, a1, b1, c1, z0]
    exact gg
  · obtain ⟨M4, d1, d2⟩ := c_sure c2 (e := e) (b := a) hT hWx hkx he (by unfold setO; rw [if_pos rfl]) (by rw [ef]; exact h0)
    have gg := hK M4 _ d2 hZ1 hg1
    have z0 : (nI (flU u k (knU g e a)) ≤ nI 0) = False := z_le_f (by omega) (by omega)
    simp (disch := first | assumption | omega) only [z_bdn, z_caln, z_gdn, z_iT, z_iF, z_le_t, z_le_f, z_lt_t, z_lt_f, z_cl, z_inb, z_at, z_lit, nI_ii1, nI_add, z_mr, z_ref0, z_refn, z_eq_f, Bool.not_true, Bool.not_false, b2i_t, b2i_f, ej, a1, b1, c1, z0, d1]
    exact gg
def GaF (u : St) (k e : Nat) (g : Nat → Option Nat) (a : Nat) : Nat := match g e with
  | none => flU u k (knU g e a)
  | some b => if b = a then flU u k (knU g e a) else 0
theorem Ga_n {k e a : Nat} {g : Nat → Option Nat} (h : g e = none) : GaF u k e g a = flU u k (knU g e a) := by unfold GaF; rw [h]
theorem Ga_s {k e a b : Nat} {g : Nat → Option Nat} (h : g e = some b) : GaF u k e g a = if b = a then flU u k (knU g e a) else 0 := by unfold GaF; rw [h]
theorem Ga_sum {k e : Nat} {g : Nat → Option Nat} (he : e < cW u.1) (hg : ∀ a, g e = some a → a < 4) : sumN (GaF u k e g) 4 = flU u k g := by
  cases hb : g e with
  | none =>
    rw [sumN_congr (fun a _ => Ga_n hb)]
    exact fill_split hb he _
  | some b =>
    rw [sumN_congr (fun a _ => Ga_s hb), sumN_pg b (fun a => flU u k (knU g e a)) 4, if_pos (hg b hb)]
    exact congrFun (fill_same hb) _
theorem e_1048 {x4 x5 x6 x7 x8 x9 x10 : Int32} {k e : Nat} {g : Nat → Option Nat} {K : Int32 → Int32 → Int32 → Int32 → Int32 → Int32 → Int32 → Int32 → kx_M → Option (Int32 × kx_M)} (hW : cW u.1 = v 0) (hW5 : v 0 ≤ 5) (hk : k < dC u.2.1) (he : e < v 0) (hga : ∀ j, j < v 0 → ∀ a, g j = some a → a < 4)
    (hK : ∀ M' σ', CO hA M' σ' → PZ v u σ' → Gd (K x4 x5 x6 x7 x8 x9 x10 (nI (k + 1)) M')) : ∀ (d n a : Nat) (M : kx_M) (σ : Sg), a + d = 4 → d < n → CO hA M σ → PZ v u σ → (∀ j, j < v 0 → j ≠ e → tV (gT σ 1) j = jN (g j) ∧ ∀ a, g j = some a → a < 4) → Gd (f_LW_law_l1048 sc K n x4 x5 x6 x7 x8 x9 x10 (nI k) (nI (flU u k g)) (nI e) (jN (g e)) (nI (sumN (GaF u k e g) a)) (nI a) M) := by
  intro d
  induction d with
  | zero =>
    intro n a M σ ha hn h hZ hg
    obtain ⟨n, rfl, hn⟩ := z_succ hn
    obtain rfl : a = 4 := by omega
    have hWx : cW (gX σ) = v 0 := by
      have : gX σ = u.1 := congrArg (fun q => q.1) hZ.1
      rw [this]; exact hW
    have hY : gY σ = u.2.1 := congrArg (fun q => q.2.1) hZ.1
    have hkx : k < dC (gY σ) := by rw [hY]; exact hk
    have hs := Ga_sum (u := u) (k := k) (g := g) (e := e) (by omega) (hga e he)
    obtain ⟨M1, a1, a2⟩ := c_write h (e := e) hZ.2.2 he (by omega) (jN (g e))
    have hT0 := TT_write (e := e) (g := g) (o := g e) hZ.2.2 hg (hga e he)
    have hset : setO g e (g e) = g := funext fun j => by
      unfold setO
      by_cases hj : j = e
      · rw [if_pos hj, hj]
      · rw [if_neg hj]
    rw [hset] at hT0
    have hZ1 : PZ v u (wT σ (updT (gT σ) 1 (trW (gT σ 1) e (jN (g e))))) := ⟨hZ.1, hZ.2.1, TTk_r hT0⟩
    obtain ⟨M2, b1, b2⟩ := c_look a2 hT0 hWx hkx
    have ef : flG (wT σ (updT (gT σ) 1 (trW (gT σ 1) e (jN (g e))))) k g = flU u k g := flG_U hZ1 k _
    rw [ef] at b1
    have hF : flU u k g < 2147483648 := wv_lt (by omega)
    rw [hs, f_LW_law_l1048]
    by_cases h2 : 2 ≤ flU u k g
    · rw [if_pos h2] at b1
      have hkn : wv (dL (gY σ) k) (rnN (gY σ) k (dL (gY σ) k)) (knT 1 (wT σ (updT (gT σ) 1 (trW (gT σ 1) e (jN (g e)))))) (v 0) (dL (gY σ) k) = flU u k g := by
        rw [wv_congr (v 0) (kn_T hT0), hY]
        unfold flU
        rw [hW]
      obtain ⟨q, q1, q2, q3⟩ := look_col (L := dL (gY σ) k) (c := rnN (gY σ) k (dL (gY σ) k)) (W := v 0) (kn := knT 1 (wT σ (updT (gT σ) 1 (trW (gT σ 1) e (jN (g e)))))) (fun i b hi hb => by
        rw [kn_T hT0 i hi] at hb
        exact hga i hi b hb) (by rw [hkn]; exact h2)
      have q1' : lkA (dL (gY (wT σ (updT (gT σ) 1 (trW (gT σ 1) e (jN (g e)))))) k) (rnN (gY (wT σ (updT (gT σ) 1 (trW (gT σ 1) e (jN (g e)))))) k (dL (gY (wT σ (updT (gT σ) 1 (trW (gT σ 1) e (jN (g e)))))) k)) (v 0) (knT 1 (wT σ (updT (gT σ) 1 (trW (gT σ 1) e (jN (g e)))))) = some q := q1
      rw [q1'] at b1
      have b1 : f_KT_look (nI k) (nI 1) M1 = some (nI q.1, M2) := b1
      obtain ⟨M3, c1, c2⟩ := c_read b2 (e := q.1) (TTk_r hT0) q2 (by omega)
      have er : tV (gT (wT σ (updT (gT σ) 1 (trW (gT σ 1) e (jN (g e))))) 1) q.1 = jN none := by
        rw [(hT0.2.2.2 q.1 q2).1]
        rw [kn_T hT0 q.1 q2] at q3
        rw [q3]
      rw [er] at c1
      have gg := hK M3 _ c2 hZ1
      have z1 : (nI q.1 < nI 0) = False := z_lt_f (by omega) (by omega)
      have z2 : (nI (flU u k g) ≤ nI 1) = False := z_le_f (by omega) (by omega)
      simp (disch := first | assumption | omega) only [z_bdn, z_caln, z_gdn, z_iT, z_iF, z_le_t, z_le_f, z_lt_t, z_lt_f, z_cl, z_inb, z_at, z_lit, nI_ii1, nI_add, z_mr, z_ref0, z_refn, z_eq_f, Bool.not_true, Bool.not_false, b2i_t, b2i_f, a1, b1, z1, f_LW_law_l1172, z2, f_LW_law_l1183, c1, j_none]
      exact gg
    · rw [if_neg h2] at b1
      have gg := hK M2 _ b2 hZ1
      have z1 : (-nI 1 < nI 0) = True := by decide
      have z2 : (nI (flU u k g) ≤ nI 1) = True := z_le_t (by omega) (by omega)
      simp (disch := first | assumption | omega) only [z_bdn, z_caln, z_gdn, z_iT, z_iF, z_le_t, z_le_f, z_lt_t, z_lt_f, z_cl, z_inb, z_at, z_lit, nI_ii1, nI_add, z_mr, z_ref0, z_refn, z_eq_f, Bool.not_true, Bool.not_false, b2i_t, b2i_f, a1, b1, z1, f_LW_law_l1172, z2, f_LW_law_l1183]
      exact gg
  | succ d ih =>
    intro n a M σ ha hn h hZ hg
    obtain ⟨n, rfl, hn⟩ := z_succ hn
    have hs : sumN (GaF u k e g) (a + 1) = sumN (GaF u k e g) a + GaF u k e g a := rfl
    rw [f_LW_law_l1048]
    have take : GaF u k e g a = flU u k (knU g e a) → Gd (f_LW_law_l1073 sc (f_LW_law_l1048 sc K n) x4 x5 x6 x7 x8 x9 x10 (nI k) (nI (flU u k g)) (nI e) (jN (g e)) (nI (sumN (GaF u k e g) a)) (nI a) M) := fun eG => by
      refine e_1073 (x15 := x4) (W := 0) h hZ hW hW5 hk he (by omega) hg (fun M' σ' h1 h2 h3 => ?_)
      rw [← eG, ← hs]
      exact ih n (a + 1) M' σ' (by omega) (by omega) h1 h2 h3
    cases hb : g e with
    | none =>
      have gg := take (Ga_n hb)
      rw [hb] at gg
      simp (disch := first | assumption | omega) only [z_bdn, z_caln, z_gdn, z_iT, z_iF, z_le_t, z_le_f, z_lt_t, z_lt_f, z_cl, z_inb, z_at, z_lit, nI_ii1, nI_add, z_mr, z_ref0, z_refn, z_eq_f, Bool.not_true, Bool.not_false, b2i_t, b2i_f, j_none]
      exact gg
    | some b =>
      have hb4 := hga e he b hb
      have z1 := j_some b hb4
      have z2 := j_eq b hb4 a (by omega)
      by_cases hba : b = a
      · have gg := take (by rw [Ga_s hb, if_pos hba])
        rw [hb] at gg
        have z2' : (lg_cmp (jN (some b)) ((nI a).toInt64) = nI 0) = True := by rw [z2]; exact eq_true hba
        simp (disch := first | assumption | omega) only [z_bdn, z_caln, z_gdn, z_iT, z_iF, z_le_t, z_le_f, z_lt_t, z_lt_f, z_cl, z_inb, z_at, z_lit, nI_ii1, nI_add, z_mr, z_ref0, z_refn, z_eq_f, Bool.not_true, Bool.not_false, b2i_t, b2i_f, z1, z2']
        exact gg
      · have e0 : GaF u k e g a = 0 := by rw [Ga_s hb, if_neg hba]
        have gg := ih n (a + 1) M σ (by omega) (by omega) h hZ hg
        rw [hs, e0, Nat.add_zero, hb] at gg
        have z2' : (lg_cmp (jN (some b)) ((nI a).toInt64) = nI 0) = False := by rw [z2]; exact eq_false hba
        simp (disch := first | assumption | omega) only [z_bdn, z_caln, z_gdn, z_iT, z_iF, z_le_t, z_le_f, z_lt_t, z_lt_f, z_cl, z_inb, z_at, z_lit, nI_ii1, nI_add, z_mr, z_ref0, z_refn, z_eq_f, Bool.not_true, Bool.not_false, b2i_t, b2i_f, z1, z2']
        exact gg
theorem e_958 {x4 x5 x6 x7 x8 x9 x10 : Int32} {k : Nat} {K : Int32 → Int32 → Int32 → Int32 → Int32 → Int32 → Int32 → Int32 → kx_M → Option (Int32 × kx_M)} (hH : HOK hA v) (hW : cW u.1 = v 0) (hk : k < dC u.2.1)
    (hK : ∀ M' σ', CO hA M' σ' → PZ v u σ' → Gd (K x4 x5 x6 x7 x8 x9 x10 (nI (k + 1)) M')) : ∀ (d n j : Nat) (M : kx_M) (σ : Sg) (g : Nat → Option Nat), j + d = v 0 → d < n → CO hA M σ → PZ v u σ → (∀ i, i < j → tV (gT σ 1) i = jN (g i) ∧ ∀ a, g i = some a → a < 4) → Gd (f_LW_law_l958 sc K n x4 x5 x6 x7 x8 x9 x10 (nI k) (nI j) M) := by
  have h0 := hH.2.1
  intro d
  induction d with
  | zero =>
    intro n j M σ g hj hn h hZ hg
    obtain ⟨n, rfl, hn⟩ := z_succ hn
    obtain rfl : j = v 0 := by omega
    have hWx : cW (gX σ) = v 0 := by
      have : gX σ = u.1 := congrArg (fun q => q.1) hZ.1
      rw [this]; exact hW
    have hY : gY σ = u.2.1 := congrArg (fun q => q.2.1) hZ.1
    have hkx : k < dC (gY σ) := by rw [hY]; exact hk
    have e0 := CO_v hH h (i := 0) (by omega) (by omega)
    have hT : TTk σ (v 0) g := ⟨hZ.2.2.1, hZ.2.2.2.1, hZ.2.2.2.2, hg⟩
    obtain ⟨M1, a1, a2⟩ := c_fills h hT hWx hkx
    rw [flG_U hZ] at a1
    have e1 := CO_v hH a2 (i := 0) (by omega) (by omega)
    have z0 := z_nz (show 0 < v 0 by omega) (by omega)
    obtain ⟨e, b1, b2⟩ := rem_m (x7 >>> (nI 3 &&& nI 31)) (m := 7) (q := v 0) (by decide) (by omega) (by omega)
    obtain ⟨M2, c1, c2⟩ := c_read a2 (e := e) hZ.2.2 b1 (by omega)
    rw [(hg e b1).1] at c1
    have gg := e_1048 (sc := sc) (e := e) (g := g) (x4 := x4) (x5 := x5) (x6 := x6) (x7 := x7) (x8 := x8) (x9 := x9) (x10 := x10) hW (by omega) hk b1 (fun j hj => (hg j hj).2) hK 4 FU 0 M2 σ rfl (FU_lt (by omega)) c2 hZ (fun j hj _ => hg j hj)
    have es : sumN (GaF u k e g) 0 = 0 := rfl
    rw [es] at gg
    rw [f_LW_law_l958]
    simp (disch := first | assumption | omega) only [z_bdn, z_caln, z_gdn, z_iT, z_iF, z_le_t, z_le_f, z_lt_t, z_lt_f, z_cl, z_inb, z_at, z_lit, nI_ii1, nI_add, z_mr, z_ref0, z_refn, z_eq_f, Bool.not_true, Bool.not_false, b2i_t, b2i_f, e0, a1, e1, z0, b2, c1]
    exact gg
  | succ d ih =>
    intro n j M σ g hj hn h hZ hg
    obtain ⟨n, rfl, hn⟩ := z_succ hn
    have e0 := CO_v hH h (i := 0) (by omega) (by omega)
    have step : ∀ o : Option Nat, (∀ a, o = some a → a < 4) → ∃ M1, f_KT_write (nI 1) (nI j) (jN o) M = some (nI 1, M1) ∧ Gd (f_LW_law_l958 sc K n x4 x5 x6 x7 x8 x9 x10 (nI k) (nI (j + 1)) M1) := by
      intro o ho
      obtain ⟨M1, a1, a2⟩ := c_write h (e := j) hZ.2.2 (by omega) (by omega) (jN o)
      obtain ⟨t1, t2⟩ := T_w (e := j) hZ.2.2 ho
      refine ⟨M1, a1, ih n (j + 1) M1 _ (setO g j o) (by omega) (by omega) a2 ⟨hZ.1, hZ.2.1, t1⟩ (fun i hi => ?_)⟩
      rw [t2 i, setO_at]
      by_cases e : i = j
      · rw [if_pos e, if_pos e]; exact ⟨rfl, ho⟩
      · rw [if_neg e, if_neg e]; exact hg i (by omega)
    rw [f_LW_law_l958]
    by_cases hb : (x7 >>> (nI j &&& nI 31)) &&& nI 3 = nI 2
    · obtain ⟨a, b1, b2⟩ := and_m (x7 >>> (nI (j + 2) &&& nI 31)) (m := 3) (by decide)
      obtain ⟨M1, a1, gg⟩ := step (some a) (fun c hc => by cases hc; omega)
      have ej : (nI a).toInt64 = jN (some a) := rfl
      simp (disch := first | assumption | omega) only [z_bdn, z_caln, z_gdn, z_iT, z_iF, z_le_t, z_le_f, z_lt_t, z_lt_f, z_cl, z_inb, z_at, z_lit, nI_ii1, nI_add, z_mr, z_ref0, z_refn, z_eq_f, Bool.not_true, Bool.not_false, b2i_t, b2i_f, e0]
      rw [if_pos hb]
      simp (disch := first | assumption | omega) only [z_bdn, z_caln, z_gdn, z_iT, z_iF, z_le_t, z_le_f, z_lt_t, z_lt_f, z_cl, z_inb, z_at, z_lit, nI_ii1, nI_add, z_mr, z_ref0, z_refn, z_eq_f, Bool.not_true, Bool.not_false, b2i_t, b2i_f, b2, ej, a1]
      exact gg
    · obtain ⟨M1, a1, gg⟩ := step none (fun c hc => by cases hc)
      have ej : (-1 : Int64) = jN none := by decide
      simp (disch := first | assumption | omega) only [z_bdn, z_caln, z_gdn, z_iT, z_iF, z_le_t, z_le_f, z_lt_t, z_lt_f, z_cl, z_inb, z_at, z_lit, nI_ii1, nI_add, z_mr, z_ref0, z_refn, z_eq_f, Bool.not_true, Bool.not_false, b2i_t, b2i_f, e0]
      rw [if_neg hb]
      rw [ej]
      simp (disch := first | assumption | omega) only [z_bdn, z_caln, z_gdn, z_iT, z_iF, z_le_t, z_le_f, z_lt_t, z_lt_f, z_cl, z_inb, z_at, z_lit, nI_ii1, nI_add, z_mr, z_ref0, z_refn, z_eq_f, Bool.not_true, Bool.not_false, b2i_t, b2i_f, a1]
      exact gg
theorem e_903 {x4 x5 x6 x7 x8 x9 : Int32} {k : Nat} {K : Int32 → Int32 → Int32 → Int32 → Int32 → Int32 → Int32 → Int32 → kx_M → Option (Int32 × kx_M)} (hH : HOK hA v) (hN : RN v Y u) (hk : k < v 3)
    (hK : ∀ M' σ', CO hA M' σ' → PZ v u σ' → Gd (K x4 x5 x6 x7 x8 x9 (nI (bestS u.2.1)) (nI (k + 1)) M')) : ∀ (d n i : Nat) (M : kx_M) (σ : Sg), i + d = v 3 → d < n → CO hA M σ → PZ v u σ → Gd (f_LW_law_l903 sc K n x4 x5 x6 x7 x8 x9 (nI (bestS u.2.1)) (nI k) (nI i) M) := by
  have h3 := hH.2.2.2.2.1
  have hC : dC u.2.1 = v 3 := hN.2.2.2.1
  intro d
  induction d with
  | zero =>
    intro n i M σ hi hn h hZ
    obtain ⟨n, rfl, hn⟩ := z_succ hn
    have e3 := CO_v hH h (i := 3) (by omega) (by omega)
    have gg := e_958 (sc := sc) hH hN.1 (by omega) hK (v 0) FU 0 M σ (fun _ => none) (by omega) (FU_lt (by have := hH.2.1; omega)) h hZ (fun i hi => absurd hi (Nat.not_lt_zero _))
    rw [f_LW_law_l903]
    simp (disch := first | assumption | omega) only [z_bdn, z_caln, z_gdn, z_iT, z_iF, z_le_t, z_le_f, z_lt_t, z_lt_f, z_cl, z_inb, z_at, z_lit, nI_ii1, nI_add, z_mr, z_ref0, z_refn, z_eq_f, Bool.not_true, Bool.not_false, b2i_t, b2i_f, e3]
    exact gg
  | succ d ih =>
    intro n i M σ hi hn h hZ
    obtain ⟨n, rfl, hn⟩ := z_succ hn
    have e3 := CO_v hH h (i := 3) (by omega) (by omega)
    have hY : gY σ = u.2.1 := congrArg (fun q => q.2.1) hZ.1
    rw [f_LW_law_l903]
    by_cases hik : i = k
    · subst hik
      have gg := ih n (i + 1) M σ (by omega) (by omega) h hZ
      simp (disch := first | assumption | omega) only [z_bdn, z_caln, z_gdn, z_iT, z_iF, z_le_t, z_le_f, z_lt_t, z_lt_f, z_cl, z_inb, z_at, z_lit, nI_ii1, nI_add, z_mr, z_ref0, z_refn, z_eq_f, Bool.not_true, Bool.not_false, b2i_t, b2i_f, e3]
      exact gg
    · have zk : (nI i = nI k) = False := z_eq_f hik (by omega) (by omega)
      obtain ⟨M1, a1, a2⟩ := c_clash h (k := k) (i := i) (by rw [hY]; omega) (by rw [hY]; omega) (fun e => hik e.symm)
      have gg := ih n (i + 1) M1 σ (by omega) (by omega) a2 hZ
      have hx1 := ((cOD h).2.2.2.2.2.1 k i (by rw [hY]; omega) (by rw [hY]; omega)).1
      rw [hY] at a1 hx1
      by_cases hx : dX u.2.1 (6 * k + i) = 1
      · rw [hx] at a1
        have hb := best_nc u.2.1 (i := k) (j := i) (by omega) (by omega) hx
        have hb8 : bestS u.2.1 < 8 := Nat.lt_of_lt_of_le (best_lt u.2.1) (Nat.le_trans (Nat.pow_le_pow_right (by omega) (show dC u.2.1 ≤ 3 by omega)) (by decide))
        have hz := bit_and (bestS u.2.1) hb8 k (by omega) i (by omega)
        have hz' : (((nI (bestS u.2.1) >>> (nI k &&& nI 31)) &&& (nI (bestS u.2.1) >>> (nI i &&& nI 31))) &&& nI 1 = nI 1) = False := by
          refine Eq.trans hz ?_
          rw [hb]
          exact eq_false (by decide)
        simp (disch := first | assumption | omega) only [z_bdn, z_caln, z_gdn, z_iT, z_iF, z_le_t, z_le_f, z_lt_t, z_lt_f, z_cl, z_inb, z_at, z_lit, nI_ii1, nI_add, z_mr, z_ref0, z_refn, z_eq_f, Bool.not_true, Bool.not_false, b2i_t, b2i_f, e3, zk, a1, hz']
        exact gg
      · obtain hx0 : dX u.2.1 (6 * k + i) = 0 := by omega
        rw [hx0] at a1
        simp (disch := first | assumption | omega) only [z_bdn, z_caln, z_gdn, z_iT, z_iF, z_le_t, z_le_f, z_lt_t, z_lt_f, z_cl, z_inb, z_at, z_lit, nI_ii1, nI_add, z_mr, z_ref0, z_refn, z_eq_f, Bool.not_true, Bool.not_false, b2i_t, b2i_f, e3, zk, a1]
        exact gg
theorem e_892 {x4 x5 x7 : Int32} {rd : Nat} {K : Int32 → Int32 → Int32 → kx_M → Option (Int32 × kx_M)} (hH : HOK hA v) (hN : RN v Y u) (hY : Y + 8 ≤ 9999)
    (hK : ∀ M' σ', CO hA M' σ' → RI v (Y + 8) σ' → Gd (K x4 x5 (nI (rd + 1)) M')) : ∀ (d n k : Nat) (M : kx_M) (σ : Sg), k + d = v 3 → d < n → CO hA M σ → PZ v u σ → Gd (f_LW_law_l892 sc K n x4 x5 (nI rd) x7 (nI (v 4)) (nI (totU u.1)) (nI (bestS u.2.1)) (nI k) M) := by
  have h3 := hH.2.2.2.2.1
  have h4 := hH.2.2.2.2.2.1
  intro d
  induction d with
  | zero =>
    intro n k M σ hk hn h hZ
    obtain ⟨n, rfl, hn⟩ := z_succ hn
    have e3 := CO_v hH h (i := 3) (by omega) (by omega)
    have hI : RI v Y σ := ⟨by rw [hZ.1]; exact hN, hZ.2.1, hZ.2.2⟩
    have eX : gX σ = u.1 := congrArg (fun q => q.1) hZ.1
    rw [f_LW_law_l892]
    by_cases hR : v 4 = 0
    · have gg := e_1439 (sc := sc) (x4 := x4) (x5 := x5) (x7 := x7) (rd := rd) hH h hI hY hK
      rw [eX] at gg
      have z4 : (nI (v 4) ≤ nI 0) = True := z_le_t (by omega) (by omega)
      simp (disch := first | assumption | omega) only [z_bdn, z_caln, z_gdn, z_iT, z_iF, z_le_t, z_le_f, z_lt_t, z_lt_f, z_cl, z_inb, z_at, z_lit, nI_ii1, nI_add, z_mr, z_ref0, z_refn, z_eq_f, Bool.not_true, Bool.not_false, b2i_t, b2i_f, e3, z4]
      exact gg
    · have z4 : (nI (v 4) ≤ nI 0) = False := z_le_f (by omega) (by omega)
      have eR : cR (gX σ) = v 4 := hI.1.2.1
      have er : nI (v 4) - nI 1 = nI (v 4 - 1) := z_sub (by omega)
      obtain ⟨M1, a1, a2⟩ := c_queenOf h (r := v 4 - 1) (by omega)
      obtain ⟨M2, b1, b2⟩ := c_mark a2 hI.2.1
      have hS := SV_mark hI
      have gg := e_1239 (sc := sc) (x4 := x4) (x5 := x5) (x6 := nI rd) (x7 := x7) (K := f_LW_law_l1439 sc K) hH (by omega) (fun M' σ' g1 g2 g3 => by
        have := e_1439 (sc := sc) (x4 := x4) (x5 := x5) (x7 := x7) (rd := rd) hH g1 g2 hY hK
        rw [g3] at this
        exact this) (v 0) FU 0 M2 (wK σ 1 (mkF σ)) (by omega) (FU_lt (by have := hH.2.1; omega)) b2 hS hI.1 (fun j hj => absurd hj (Nat.not_lt_zero _))
      have gg : Gd (f_LW_law_l1239 sc (f_LW_law_l1439 sc K) FU x4 x5 (nI rd) x7 (nI (v 4)) (nI (totU (gX σ))) (nI (cO (gX σ) (v 4 - 1))) (nI 0) M2) := gg
      rw [show totU (gX σ) = totU u.1 from by rw [eX]] at gg
      simp (disch := first | assumption | omega) only [z_bdn, z_caln, z_gdn, z_iT, z_iF, z_le_t, z_le_f, z_lt_t, z_lt_f, z_cl, z_inb, z_at, z_lit, nI_ii1, nI_add, z_mr, z_ref0, z_refn, z_eq_f, Bool.not_true, Bool.not_false, b2i_t, b2i_f, e3, z4, er, a1, b1]
      exact gg
  | succ d ih =>
    intro n k M σ hk hn h hZ
    obtain ⟨n, rfl, hn⟩ := z_succ hn
    have e3 := CO_v hH h (i := 3) (by omega) (by omega)
    have gg := e_903 (sc := sc) (x4 := x4) (x5 := x5) (x6 := nI rd) (x7 := x7) (x8 := nI (v 4)) (x9 := nI (totU u.1)) (k := k) (K := f_LW_law_l892 sc K n) hH hN (by omega) (fun M' σ' g1 g2 => ih n (k + 1) M' σ' (by omega) (by omega) g1 g2) (v 3) FU 0 M σ (by omega) (FU_lt (by omega)) h hZ
    rw [f_LW_law_l892]
    simp (disch := first | assumption | omega) only [z_bdn, z_caln, z_gdn, z_iT, z_iF, z_le_t, z_le_f, z_lt_t, z_lt_f, z_cl, z_inb, z_at, z_lit, nI_ii1, nI_add, z_mr, z_ref0, z_refn, z_eq_f, Bool.not_true, Bool.not_false, b2i_t, b2i_f, e3]
    exact gg
end
