theorem z_clt (a b : Int64) : (lg_cmp a b < nI 0) = (a < b) := z_cmp_lt0
theorem z_cgt (a b : Int64) : (nI 0 < lg_cmp a b) = (b < a) := z_cmp_gt0
theorem z_cle (a b : Int64) : (lg_cmp a b ≤ nI 0) = (a ≤ b) := by
  refine propext ?_
  rw [← Int32.not_lt, ← Int64.not_lt]
  exact not_congr (iff_of_eq (z_cgt a b))
/-- of a number of a tray that is a kind -/
def kdN (v : Int64) : Nat := v.toInt.toNat
def cst (k : Nat) : Nat := if k = 3 then 0 else if k = 2 then 2 else 1
def inR (a : Nat) (v : Int64) : Bool := decide ((nI 0 - nI a).toInt64 ≤ v) && decide (v ≤ 3)
theorem inR_0 {v : Int64} (h : inR 0 v = true) : v = 0 ∨ v = 1 ∨ v = 2 ∨ v = 3 := by
  unfold inR at h
  rw [Bool.and_eq_true] at h
  have h1 := Int64.le_iff_toInt_le.mp (of_decide_eq_true h.1)
  have h2 := Int64.le_iff_toInt_le.mp (of_decide_eq_true h.2)
  rw [show ((nI 0 - nI 0).toInt64).toInt = 0 from by decide] at h1
  rw [show (3 : Int64).toInt = 3 from by decide] at h2
  have hc : v.toInt = 0 ∨ v.toInt = 1 ∨ v.toInt = 2 ∨ v.toInt = 3 := by omega
  rcases hc with e | e | e | e
  · exact Or.inl (Int64.toInt_inj.mp (e.trans (by decide)))
  · exact Or.inr (Or.inl (Int64.toInt_inj.mp (e.trans (by decide))))
  · exact Or.inr (Or.inr (Or.inl (Int64.toInt_inj.mp (e.trans (by decide)))))
  · exact Or.inr (Or.inr (Or.inr (Int64.toInt_inj.mp (e.trans (by decide)))))
theorem kd_0 {v : Int64} (h : inR 0 v = true) : v.toInt32 = nI (kdN v) ∧ kdN v < 4 := by
  rcases inR_0 h with e | e | e | e <;> subst e <;> decide
theorem wl_at {k : Nat} (h : k < 4) : inb (nI k &&& nI 3) 4 = true ∧ ([1, 1, 2, 0] : List Int32).getD (nI k &&& nI 3).toNatClampNeg 0 = nI (cst k) := by
  have hc : k = 0 ∨ k = 1 ∨ k = 2 ∨ k = 3 := by omega
  rcases hc with e | e | e | e <;> subst e <;> decide
theorem wl_at2 {k : Nat} (h : k < 4) : ([nI 1, nI 1, nI 2, nI 0] : List Int32).getD (nI k &&& nI 3).toNatClampNeg (nI 0) = nI (cst k) := (wl_at h).2
theorem cst_le (k : Nat) : cst k ≤ 2 := by unfold cst; split; omega; split <;> omega
/-- 3, 4 or 0 -/
def runS (t : Nat) (σ : Sg) : Nat := if tM (gT σ t) = true then 3 else if cW (gX σ) ≤ tL (gT σ t) then 0 else 4
def kindS (a t : Nat) (σ : Sg) : Nat := if runS t σ = 0 then (if allb (fun k => inR a (tV (gT σ t) k)) (cW (gX σ)) = true then 0 else 5) else runS t σ
def takN (t n : Nat) (σ : Sg) : Nat := sumN (fun k => cst (kdN (tV (gT σ t) k))) n
theorem takN_le (t n : Nat) (σ : Sg) : takN t n σ ≤ 2 * n := sumN_le (fun _ _ => cst_le _)
section
variable {M M' : kx_M} {σ : Sg}
theorem IC_gX (h : IC M σ) : ∃ s t, KN M s t ∧ OkC (gX σ) ∧ CC M (s + 9) (gX σ) ∧ OkD (cW (gX σ)) (gY σ) ∧ CD M (s + 1) (gY σ) := IC_get (u := gS σ) h
theorem q_runStatus (h : IC M σ) {t : Nat} (ht : t < 4) : f_KT_runStatus (nI t) M = some (nI (runS t σ), M) := by
  obtain ⟨s, t1, hK, hO, hC, hP, hD⟩ := IC_gX h
  have w2 := hO.1.2
  have e5 := hC.1
  obtain ⟨hT, hOT⟩ := IC_tr h ht
  rw [f_KT_runStatus]
  unfold runS
  cases hm : tM (gT σ t)
  · have ho := hOT hm
    have hL : tL (gT σ t) ≤ 60 := ho.2
    have em := hT.1
    rw [hm] at em
    obtain ⟨es, el, ev⟩ := hT.2 hm
    have lk := q_lacks (p := nI 0) (n := cW (gX σ)) el ho.2 (by omega)
    rw [show (nI 0).toInt = 0 from rfl] at lk
    by_cases hl : cW (gX σ) ≤ tL (gT σ t)
    · rw [decide_eq_true (show (0 : Int) ≤ 0 by omega), decide_eq_true (show (0 : Int) + ((cW (gX σ) : Nat) : Int) ≤ ((tL (gT σ t) : Nat) : Int) by omega)] at lk
      rw [if_pos hl]
      simp (disch := first | assumption | omega) only [z_bd, z_cal, z_gd, z_iT, z_iF, z_le_t, z_le_f, z_lt_t, z_lt_f, z_cl, z_inb, z_at, z_lit, nI_ii1, nI_add, z_mr, z_ref0, z_refn, z_eq_f, Bool.not_true, Bool.not_false, b2i_t, b2i_f, em, hK.1, hK.s1, e5, lk, Bool.false_eq_true, Bool.and_self]
    · rw [decide_eq_true (show (0 : Int) ≤ 0 by omega), decide_eq_false (show ¬ ((0 : Int) + ((cW (gX σ) : Nat) : Int) ≤ ((tL (gT σ t) : Nat) : Int)) by omega)] at lk
      rw [if_neg hl]
      simp (disch := first | assumption | omega) only [z_bd, z_cal, z_gd, z_iT, z_iF, z_le_t, z_le_f, z_lt_t, z_lt_f, z_cl, z_inb, z_at, z_lit, nI_ii1, nI_add, z_mr, z_ref0, z_refn, z_eq_f, Bool.not_true, Bool.not_false, b2i_t, b2i_f, em, hK.1, hK.s1, e5, lk, Bool.false_eq_true, Bool.and_false]
  · have em := hT.1
    rw [hm] at em
    simp (disch := first | assumption | omega) only [z_bd, z_cal, z_gd, z_iT, z_iF, z_le_t, z_le_f, z_lt_t, z_lt_f, z_cl, z_inb, z_at, z_lit, nI_ii1, nI_add, z_mr, z_ref0, z_refn, z_eq_f, Bool.not_true, Bool.not_false, b2i_t, b2i_f, em]
theorem runS0 {t : Nat} (h : runS t σ = 0) : tM (gT σ t) = false ∧ cW (gX σ) ≤ tL (gT σ t) := by
  unfold runS at h
  split at h
  · cases h
  · rename_i h1
    split at h
    · rename_i h2
      exact ⟨Bool.eq_false_iff.mpr h1, h2⟩
    · cases h
theorem q_within {r W a : Nat} {V : Nat → Int64} (hW : W ≤ 8) (hV : ∀ k, k < W → mB M (r + 1) k = V k) : ∀ (m n k : Nat), k + m = W → m < n → f_Tray_within_l3 r (nI W) (nI 0 - nI a).toInt64 3 n (nI k) M = some (b2i (allF (fun k => inR a (V k)) m k), M) := by
  intro m
  induction m with
  | zero =>
    intro n k hk hn
    obtain ⟨n, rfl, hn⟩ := z_succ hn
    obtain rfl : k = W := by omega
    rw [f_Tray_within_l3]
    simp (disch := first | assumption | omega) only [z_bd, z_cal, z_gd, z_iT, z_iF, z_le_t, z_le_f, z_lt_t, z_lt_f, z_cl, z_inb, z_at, z_lit, nI_ii1, nI_add, z_mr, z_ref0, z_refn, z_eq_f, Bool.not_true, Bool.not_false, b2i_t, b2i_f]
    rfl
  | succ m ih =>
    intro n k hk hn
    obtain ⟨n, rfl, hn⟩ := z_succ hn
    have h1 := ih n (k + 1) (by omega) (by omega)
    have e := hV k (by omega)
    rw [f_Tray_within_l3]
    by_cases h3 : V k < (nI 0 - nI a).toInt64
    · rw [allF_f (show inR a (V k) = false by unfold inR; rw [decide_eq_false (Int64.not_le.mpr h3)]; rfl)]
      simp (disch := first | assumption | omega) only [z_bd, z_cal, z_gd, z_iT, z_iF, z_le_t, z_le_f, z_lt_t, z_lt_f, z_cl, z_inb, z_at, z_lit, nI_ii1, nI_add, z_mr, z_ref0, z_refn, z_eq_f, Bool.not_true, Bool.not_false, b2i_t, b2i_f, e, z_clt, h3]
    · have h3' : (nI 0 - nI a).toInt64 ≤ V k := Int64.not_lt.mp h3
      by_cases h4 : V k ≤ 3
      · rw [allF_t (show inR a (V k) = true by unfold inR; rw [decide_eq_true h3', decide_eq_true h4]; rfl)]
        simp (disch := first | assumption | omega) only [z_bd, z_cal, z_gd, z_iT, z_iF, z_le_t, z_le_f, z_lt_t, z_lt_f, z_cl, z_inb, z_at, z_lit, nI_ii1, nI_add, z_mr, z_ref0, z_refn, z_eq_f, Bool.not_true, Bool.not_false, b2i_t, b2i_f, e, z_clt, z_cle, h3, h4]
        exact h1
      · rw [allF_f (show inR a (V k) = false by unfold inR; rw [decide_eq_true h3', decide_eq_false h4]; rfl)]
        simp (disch := first | assumption | omega) only [z_bd, z_cal, z_gd, z_iT, z_iF, z_le_t, z_le_f, z_lt_t, z_lt_f, z_cl, z_inb, z_at, z_lit, nI_ii1, nI_add, z_mr, z_ref0, z_refn, z_eq_f, Bool.not_true, Bool.not_false, b2i_t, b2i_f, e, z_clt, z_cle, h3, h4]
theorem q_kindsStatus (h : IC M σ) {t a : Nat} (ht : t < 4) : f_KT_kindsStatus (nI t) (nI 0 - nI a) M = some (nI (kindS a t σ), M) := by
  obtain ⟨s, t1, hK, hO, hC, hP, hD⟩ := IC_gX h
  have w2 := hO.1.2
  have e5 := hC.1
  have g := q_runStatus h ht
  rw [f_KT_kindsStatus]
  unfold kindS
  have hr : runS t σ < 5 := by unfold runS; split; omega; split <;> omega
  by_cases h0 : runS t σ = 0
  · obtain ⟨h1, h2⟩ := runS0 h0
    obtain ⟨hT, hOT⟩ := IC_tr h ht
    have e := q_within (M := M) (r := 2 * t + 67) (a := a) w2 (fun k hk => (hT.2 h1).2.2 k (by omega)) (cW (gX σ)) FU 0 (by omega) (FU_lt (by omega))
    rw [h0] at g
    rw [allF_allb] at e
    have e' : f_Tray_within (2 * t + 67) (nI (cW (gX σ))) (nI 0 - nI a).toInt64 3 M = _ := e
    cases hb : allb (fun k => inR a (tV (gT σ t) k)) (cW (gX σ))
    · rw [hb] at e'
      simp (disch := first | assumption | omega) only [z_bd, z_cal, z_gd, z_iT, z_iF, z_le_t, z_le_f, z_lt_t, z_lt_f, z_cl, z_inb, z_at, z_lit, nI_ii1, nI_add, z_mr, z_ref0, z_refn, z_eq_f, Bool.not_true, Bool.not_false, b2i_t, b2i_f, g, hK.1, hK.s1, e5, e', Bool.false_eq_true, h0]
    · rw [hb] at e'
      simp (disch := first | assumption | omega) only [z_bd, z_cal, z_gd, z_iT, z_iF, z_le_t, z_le_f, z_lt_t, z_lt_f, z_cl, z_inb, z_at, z_lit, nI_ii1, nI_add, z_mr, z_ref0, z_refn, z_eq_f, Bool.not_true, Bool.not_false, b2i_t, b2i_f, g, hK.1, hK.s1, e5, e', Bool.false_eq_true, h0]
  · rw [if_neg h0]
    simp (disch := first | assumption | omega) only [z_bd, z_cal, z_gd, z_iT, z_iF, z_le_t, z_le_f, z_lt_t, z_lt_f, z_cl, z_inb, z_at, z_lit, nI_ii1, nI_add, z_mr, z_ref0, z_refn, z_eq_f, Bool.not_true, Bool.not_false, b2i_t, b2i_f, g]
theorem kindS0 {a t : Nat} (h : kindS a t σ = 0) : runS t σ = 0 ∧ ∀ k, k < cW (gX σ) → inR a (tV (gT σ t) k) = true := by
  unfold kindS at h
  split at h
  · rename_i h1
    split at h
    · rename_i h2
      exact ⟨h1, allb_iff.mp h2⟩
    · cases h
  · rename_i h1
    exact absurd h h1
theorem q_woolOf (h : IC M σ) {t : Nat} (ht : t < 4) (h0 : kindS 0 t σ = 0) : f_Tray_woolOf (2 * t + 67) (nI (cW (gX σ))) M = some (nI (takN t (cW (gX σ)) σ), M) := by
  obtain ⟨s, t1, hK, hO, hC, hP, hD⟩ := IC_gX h
  have w2 := hO.1.2
  obtain ⟨hr, ha⟩ := kindS0 h0
  obtain ⟨h1, h2⟩ := runS0 hr
  obtain ⟨hT, hOT⟩ := IC_tr h ht
  have key : ∀ (m n k : Nat), k + m = cW (gX σ) → m < n → f_Tray_woolOf_l4 (2 * t + 67) (nI (cW (gX σ))) n (nI (takN t k σ)) (nI k) M = some (nI (takN t (cW (gX σ)) σ), M) := by
    intro m
    induction m with
    | zero =>
      intro n k hk hn
      obtain ⟨n, rfl, hn⟩ := z_succ hn
      obtain rfl : k = cW (gX σ) := by omega
      rw [f_Tray_woolOf_l4]
      simp (disch := first | assumption | omega) only [z_bd, z_cal, z_gd, z_iT, z_iF, z_le_t, z_le_f, z_lt_t, z_lt_f, z_cl, z_inb, z_at, z_lit, nI_ii1, nI_add, z_mr, z_ref0, z_refn, z_eq_f, Bool.not_true, Bool.not_false, b2i_t, b2i_f]
    | succ m ih =>
      intro n k hk hn
      obtain ⟨n, rfl, hn⟩ := z_succ hn
      have h3 := ih n (k + 1) (by omega) (by omega)
      have e : mB M (2 * t + 68) k = tV (gT σ t) k := (hT.2 h1).2.2 k (by omega)
      obtain ⟨k1, k2⟩ := kd_0 (ha k (by omega))
      obtain ⟨k3, -⟩ := wl_at k2
      have k4 := wl_at2 k2
      rw [f_Tray_woolOf_l4]
      simp (disch := first | assumption | omega) only [z_bd, z_cal, z_gd, z_iT, z_iF, z_le_t, z_le_f, z_lt_t, z_lt_f, z_cl, z_inb, z_at, z_lit, nI_ii1, nI_add, z_mr, z_ref0, z_refn, z_eq_f, Bool.not_true, Bool.not_false, b2i_t, b2i_f, e, k1, k3, k4]
      exact h3
  exact key (cW (gX σ)) FU 0 (by omega) (FU_lt (by omega))
def o_needs (p : Int32) (σ : Sg) : Int32 × Sg := oG (ix p 4) 1 (oS (kindS 0 p.toNatClampNeg σ) (-nI 1) (nI (takN p.toNatClampNeg (cW (gX σ)) σ), wS σ (nI 0)) σ) σ
theorem kindS_lt (a t : Nat) (σ : Sg) : kindS a t σ < 6 := by
  have hr : runS t σ < 5 := by unfold runS; split; omega; split <;> omega
  unfold kindS
  by_cases h0 : runS t σ = 0
  · rw [if_pos h0]; split <;> omega
  · rw [if_neg h0]; omega
theorem pC_needs (p : Int32) : PC (f_KT_needs p) (o_needs p) := by
  intro M σ h
  have g := q_noTray p M
  rw [f_KT_needs]
  unfold o_needs
  cases hx : ix p 4
  · rw [hx] at g
    refine ⟨_, ?_, IC_st (nI 1) h, Hi_st⟩
    simp (disch := first | assumption | omega) only [z_bd, z_cal, z_gd, z_iT, z_iF, z_le_t, z_le_f, z_lt_t, z_lt_f, z_cl, z_inb, z_at, z_lit, nI_ii1, nI_add, z_mr, z_ref0, z_refn, z_eq_f, Bool.not_true, Bool.not_false, b2i_t, b2i_f, g, oG, f_KT_needs_l18]
  · rw [hx] at g
    obtain ⟨t, ht, rfl⟩ := ix_ex (by omega) hx
    have e1 : (nI t).toNatClampNeg = t := z_cl (by omega)
    have ks := q_kindsStatus (a := 0) h ht
    rw [show nI 0 - nI 0 = nI 0 from rfl] at ks
    have lt := kindS_lt 0 t σ
    rw [e1]
    cases hp : kindS 0 t σ with
    | zero =>
      rw [hp] at ks
      have h1 := IC_st (nI 0) h
      obtain ⟨s, t1, hK, hO, hC, hP, hD⟩ := IC_get h1
      have w2 := hO.1.2
      have e5 := hC.1
      have ew := q_woolOf h1 ht hp
      refine ⟨_, ?_, h1, Hi_st⟩
      simp (disch := first | assumption | omega) only [z_bd, z_cal, z_gd, z_iT, z_iF, z_le_t, z_le_f, z_lt_t, z_lt_f, z_cl, z_inb, z_at, z_lit, nI_ii1, nI_add, z_mr, z_ref0, z_refn, z_eq_f, Bool.not_true, Bool.not_false, b2i_t, b2i_f, g, ks, oG, oS, f_KT_needs_l18, hK.1, hK.s1, e5]
      rw [show f_Tray_woolOf (2 * t + 67) (nI (cW (gX σ))) (sI M 0 13 (nI 0)) = some (nI (takN t (cW (gX σ)) σ), sI M 0 13 (nI 0)) from ew]
      rfl
    | succ n =>
      rw [hp] at ks
      refine ⟨_, ?_, IC_st (nI (n + 1)) h, Hi_st⟩
      simp (disch := first | assumption | omega) only [z_bd, z_cal, z_gd, z_iT, z_iF, z_le_t, z_le_f, z_lt_t, z_lt_f, z_cl, z_inb, z_at, z_lit, nI_ii1, nI_add, z_mr, z_ref0, z_refn, z_eq_f, Bool.not_true, Bool.not_false, b2i_t, b2i_f, g, ks, oG, oS, f_KT_needs_l18]
end
