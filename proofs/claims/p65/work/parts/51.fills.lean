section
variable {M M' : kx_M} {σ : Sg} {x : Cl} {y : De}
def snS (k p : Int32) (σ : Sg) : Nat := if ix p 4 = true then (if ix k (dC (gY σ)) = true then kindS 1 p.toNatClampNeg σ else 2) else 1
theorem snS_lt (k p : Int32) (σ : Sg) : snS k p σ < 6 := by
  have := kindS_lt 1 p.toNatClampNeg σ
  unfold snS
  split
  · split <;> omega
  · omega
theorem snS0 {k p : Int32} (h : snS k p σ = 0) : ix p 4 = true ∧ ix k (dC (gY σ)) = true ∧ kindS 1 p.toNatClampNeg σ = 0 := by
  unfold snS at h
  split at h
  · rename_i h1
    split at h
    · rename_i h2
      exact ⟨h1, h2, h⟩
    · cases h
  · cases h
theorem m1_sub : -nI 1 = nI 0 - nI 1 := by decide
theorem q_seenStatus (h : IC M σ) (k p : Int32) : f_KT_seenStatus k p M = some (nI (snS k p σ), M) := by
  have g1 := q_noTray p M
  have g2 := q_noClause h k
  rw [f_KT_seenStatus]
  unfold snS
  cases hx : ix p 4
  · rw [hx] at g1
    simp (disch := first | assumption | omega) only [z_bdn, z_caln, z_gdn, z_iT, z_iF, z_le_t, z_le_f, z_lt_t, z_lt_f, z_cl, z_inb, z_at, z_lit, nI_ii1, nI_add, z_mr, z_ref0, z_refn, z_eq_f, Bool.not_true, Bool.not_false, b2i_t, b2i_f, g1, Bool.false_eq_true]
  · rw [hx] at g1
    obtain ⟨t, ht, rfl⟩ := ix_ex (by omega) hx
    have e1 : (nI t).toNatClampNeg = t := z_cl (by omega)
    have ks := q_kindsStatus (a := 1) h ht
    rw [← m1_sub] at ks
    cases hy : ix k (dC (gY σ))
    · rw [hy] at g2
      simp (disch := first | assumption | omega) only [z_bdn, z_caln, z_gdn, z_iT, z_iF, z_le_t, z_le_f, z_lt_t, z_lt_f, z_cl, z_inb, z_at, z_lit, nI_ii1, nI_add, z_mr, z_ref0, z_refn, z_eq_f, Bool.not_true, Bool.not_false, b2i_t, b2i_f, g1, g2, Bool.false_eq_true]
    · rw [hy] at g2
      rw [e1]
      simp (disch := first | assumption | omega) only [z_bdn, z_caln, z_gdn, z_iT, z_iF, z_le_t, z_le_f, z_lt_t, z_lt_f, z_cl, z_inb, z_at, z_lit, nI_ii1, nI_add, z_mr, z_ref0, z_refn, z_eq_f, Bool.not_true, Bool.not_false, b2i_t, b2i_f, g1, g2, ks]
def flN (k p : Int32) (σ : Sg) (kn : Nat → Option Nat) : Nat := wv (dL (gY σ) k.toNatClampNeg) (rnN (gY σ) k.toNatClampNeg (dL (gY σ) k.toNatClampNeg)) kn (cW (gX σ)) (dL (gY σ) k.toNatClampNeg)
def o_fills (k p : Int32) (σ : Sg) : Int32 × Sg := oS (snS k p σ) (-nI 1) (nI (flN k p σ (knT p.toNatClampNeg σ)), wS σ (nI 0)) σ
theorem knT_lt {t : Nat} (h : kindS 1 t σ = 0) : ∀ j b, j < cW (gX σ) → knT t σ j = some b → b < 4 := fun j b hj hb => (kn_1 ((kindS0 h).2 j hj)).2 b hb
theorem pC_fills (k p : Int32) : PC (f_KT_fills k p) (o_fills k p) := by
  intro M σ h
  have g := q_seenStatus h k p
  have lt := snS_lt k p σ
  rw [f_KT_fills]
  unfold o_fills
  cases hp : snS k p σ with
  | succ n =>
    rw [hp] at g
    refine ⟨_, ?_, IC_st (nI (n + 1)) h, Hi_st⟩
    simp (disch := first | assumption | omega) only [z_bdn, z_caln, z_gdn, z_iT, z_iF, z_le_t, z_le_f, z_lt_t, z_lt_f, z_cl, z_inb, z_at, z_lit, nI_ii1, nI_add, z_mr, z_ref0, z_refn, z_eq_f, Bool.not_true, Bool.not_false, b2i_t, b2i_f, g, oS]
  | zero =>
    rw [hp] at g
    obtain ⟨hx, hy, h0⟩ := snS0 hp
    have h1 := IC_st (nI 0) h
    obtain ⟨s, t1, hK, hO, hC, hP, hD⟩ := IC_get h1
    have w2 := hP.2.1
    have w8 := hO.1.2
    obtain ⟨t, ht, rfl⟩ := ix_ex (by omega) hx
    obtain ⟨a, ha, rfl⟩ := ix_ex (by omega) hy
    have e1 : (nI t).toNatClampNeg = t := z_cl (by omega)
    have e2 : (nI a).toNatClampNeg = a := z_cl (by omega)
    rw [e1] at h0
    obtain ⟨M1, a1, a2, a3⟩ := q_lookAt h1 ha ht h0
    obtain ⟨M2, b1, b2, b3⟩ := q_count (hP.2.2.2.1 a ha).2.1 w8 (knT_lt h0) a2
    have hF := a3.tr b3
    unfold flN
    rw [e1, e2]
    refine ⟨M2, ?_, IC_S h1 hF, Hi_st.tr (hF.1.mono (fun id e => by show id < 135; omega))⟩
    simp (disch := first | assumption | omega) only [z_bdn, z_caln, z_gdn, z_iT, z_iF, z_le_t, z_le_f, z_lt_t, z_lt_f, z_cl, z_inb, z_at, z_lit, nI_ii1, nI_add, z_mr, z_ref0, z_refn, z_eq_f, Bool.not_true, Bool.not_false, b2i_t, b2i_f, g, a1, b1, oS]
theorem sumN_0 (n : Nat) : sumN (fun _ => 0) n = 0 := by
  induction n with
  | zero => rfl
  | succ n ih => show sumN (fun _ => 0) n + 0 = 0; rw [ih]
theorem sumN_add (f g : Nat → Nat) (n : Nat) : sumN (fun i => f i + g i) n = sumN f n + sumN g n := by
  induction n with
  | zero => rfl
  | succ n ih =>
    show sumN (fun i => f i + g i) n + (f n + g n) = (sumN f n + f n) + (sumN g n + g n)
    rw [ih]; omega
theorem sumN_swap (f : Nat → Nat → Nat) (m n : Nat) : sumN (fun i => sumN (f i) n) m = sumN (fun j => sumN (fun i => f i j) m) n := by
  induction m with
  | zero =>
    show 0 = _
    exact (sumN_0 n).symm
  | succ m ih =>
    show sumN (fun i => sumN (f i) n) m + sumN (f m) n = sumN (fun j => sumN (fun i => f i j) m + f m j) n
    rw [ih, sumN_add]
/-- of a point only one place counts -/
theorem sumN_pt (d z : Nat) : ∀ n, sumN (fun t => if d = t then z else 0) n = if d < n then z else 0
  | 0 => by rw [if_neg (by omega)]; rfl
  | n + 1 => by
    show sumN (fun t => if d = t then z else 0) n + (if d = n then z else 0) = _
    rw [sumN_pt d z n]
    by_cases h1 : d < n
    · rw [if_pos h1, if_neg (by omega), if_pos (by omega)]; rfl
    · by_cases h2 : d = n
      · rw [if_neg h1, if_pos h2, if_pos (by omega), Nat.zero_add]
      · rw [if_neg h1, if_neg h2, if_neg (by omega)]
theorem sumN_mono {f g : Nat → Nat} {n : Nat} (h : ∀ i, i < n → f i ≤ g i) : sumN f n ≤ sumN g n := by
  induction n with
  | zero => exact Nat.le_refl _
  | succ n ih =>
    have h1 := ih (fun i hi => h i (by omega))
    have h2 := h n (by omega)
    show sumN f n + f n ≤ sumN g n + g n
    omega
/-- a letter more: at most four times as many -/
theorem cA_sum {L c a : Nat} (w : Nat → Nat) : sumN (fun t => cA L c w a L t + (if t = L then w L else 0)) (L + 1) = sumN w (L + 1) := by
  rw [sumN_add]
  unfold cA
  rw [sumN_swap]
  show sumN (fun s => sumN (fun t => if dlN L c s a = t then w s else 0) (L + 1)) L + _ = sumN w L + w L
  congr 1
  · refine sumN_congr fun s hs => ?_
    rw [sumN_pt, if_pos (by have := dlN_le (c := c) (a := a) hs; omega)]
  · rw [show (fun t => if t = L then w L else 0) = (fun t => if L = t then w L else 0) from funext fun t => by
      by_cases h : t = L
      · rw [if_pos h, if_pos h.symm]
      · rw [if_neg h, if_neg (fun e => h e.symm)], sumN_pt, if_pos (by omega)]
theorem wv_sum {L c : Nat} {kn : Nat → Option Nat} : ∀ j, sumN (wv L c kn j) (L + 1) ≤ 4 ^ j
  | 0 => by
    show sumN (fun s => if s = 0 then 1 else 0) (L + 1) ≤ 1
    rw [show (fun s => if s = 0 then 1 else 0) = (fun s => if 0 = s then 1 else 0) from funext fun s => by
      by_cases h : s = 0
      · rw [if_pos h, if_pos h.symm]
      · rw [if_neg h, if_neg (fun e => h e.symm)], sumN_pt, if_pos (by omega)]
    exact Nat.le_refl _
  | j + 1 => by
    have ih := wv_sum (L := L) (c := c) (kn := kn) j
    show sumN (fun t => sumN (fun a => if okL (kn j) a = true then cA L c (wv L c kn j) a L t + (if t = L then wv L c kn j L else 0) else 0) 4) (L + 1) ≤ 4 ^ (j + 1)
    rw [sumN_swap]
    have h1 : sumN (fun a => sumN (fun t => if okL (kn j) a = true then cA L c (wv L c kn j) a L t + (if t = L then wv L c kn j L else 0) else 0) (L + 1)) 4 ≤ sumN (fun _ => sumN (wv L c kn j) (L + 1)) 4 := sumN_mono (fun a _ => by
      cases okL (kn j) a
      · refine Nat.le_trans (Nat.le_of_eq ?_) (Nat.zero_le _)
        exact sumN_0 _
      · exact Nat.le_of_eq (cA_sum (a := a) (wv L c kn j)))
    have h2 : sumN (fun _ => sumN (wv L c kn j) (L + 1)) 4 = sumN (wv L c kn j) (L + 1) + sumN (wv L c kn j) (L + 1) + sumN (wv L c kn j) (L + 1) + sumN (wv L c kn j) (L + 1) := by
      show 0 + _ + _ + _ + _ = _
      rw [Nat.zero_add]
    rw [Nat.pow_succ]
    omega
end
