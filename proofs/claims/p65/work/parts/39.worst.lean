abbrev Wp : Type := Int32 × Int32
def wpS (x : Cl) (k : Nat) (s : Wp) : Wp := if s.2 < nI (pulU x (k / 2) (k % 2)).2 then (nI (10 * (k / 2) + k % 2), nI (pulU x (k / 2) (k % 2)).2) else s
def wpF (x : Cl) : Nat → Nat → Wp → Wp
  | 0, _, s => s
  | m + 1, k, s => wpF x m (k + 1) (wpS x k s)
theorem wp_first {x : Cl} (hO : OkC x) (a : Int32) (k : Nat) : wpS x k (a, -nI 1) = (nI (10 * (k / 2) + k % 2), nI (pulU x (k / 2) (k % 2)).2) := by
  unfold wpS
  have h1 := pulU_n hO (k / 2) (k % 2)
  refine if_pos ?_
  show -nI 1 < nI _
  rw [i32_lt (-nI 1) (by omega)]
  rw [show (-nI 1).toInt = -1 from by decide]
  omega
section
variable {M M' : kx_M} {σ : Sg} {x : Cl} {y : De}
theorem q_worst_step {K : Int32 → Int32 → Int32 → kx_M → Option (Int32 × kx_M)} {s t r j n : Nat} {w : Wp} (hO : OkC x) (hr : r < cR x) (hj : j < 2) (hK : KN M s t) (hC : CC M (s + 9) x) : ∃ M', f_KT_worstPull_l51 K (n + 1) w.1 w.2 (nI r) (nI j) M = f_KT_worstPull_l51 K n (wpS x (2 * r + j) w).1 (wpS x (2 * r + j) w).2 (nI r) (nI (j + 1)) M' ∧ Fr (inC (t + 9)) M M' := by
  have w3 := hO.2.2.1
  obtain ⟨M1, a1, a2, a3⟩ := q_tried hK hO hC
  obtain ⟨ta, t0, tc⟩ := trial_ap hK
  obtain ⟨M2, b1, b2, b3⟩ := q_pull hO a2 hr (show j ≤ 1 by omega)
  refine ⟨M2, ?_, a3.tr b3⟩
  have e1 : (2 * r + j) / 2 = r := by omega
  have e2 : (2 * r + j) % 2 = j := by omega
  unfold wpS
  rw [e1, e2, f_KT_worstPull_l51]
  by_cases h : w.2 < nI (pulU x r j).2
  · have h' : ¬ nI (pulU x r j).2 ≤ w.2 := Int32.not_le.mpr h
    rw [if_pos h]
    simp (disch := first | assumption | omega) only [z_bdn, z_caln, z_gdn, z_iT, z_iF, z_le_t, z_le_f, z_lt_t, z_lt_f, z_cl, z_inb, z_at, z_lit, nI_ii1, nI_add, z_mr, z_ref0, z_refn, z_eq_f, Bool.not_true, Bool.not_false, b2i_t, b2i_f, a1, tc, b1, h']
    rw [Nat.mul_comm r 10]
  · have h' : nI (pulU x r j).2 ≤ w.2 := Int32.not_lt.mp h
    rw [if_neg h]
    simp (disch := first | assumption | omega) only [z_bdn, z_caln, z_gdn, z_iT, z_iF, z_le_t, z_le_f, z_lt_t, z_lt_f, z_cl, z_inb, z_at, z_lit, nI_ii1, nI_add, z_mr, z_ref0, z_refn, z_eq_f, Bool.not_true, Bool.not_false, b2i_t, b2i_f, a1, tc, b1, h']
theorem q_worst {s t : Nat} (hO : OkC x) : ∀ (m n r : Nat) (w : Wp) (M : kx_M), r + m = cR x → m < n → KN M s t → CC M (s + 9) x → ∃ M', f_KT_worstPull_l34 n w.1 w.2 (nI r) M = some ((wpF x (2 * m) (2 * r) w).1, M') ∧ Fr (inC (t + 9)) M M' := by
  have w3 := hO.2.2.1
  intro m
  induction m with
  | zero =>
    intro n r w M hr hn hK hC
    obtain ⟨n, rfl, hn⟩ := z_succ hn
    obtain rfl : r = cR x := by omega
    have e7 := hC.2.2.1
    refine ⟨M, ?_, Fr.rf⟩
    rw [f_KT_worstPull_l34]
    simp (disch := first | assumption | omega) only [z_bdn, z_caln, z_gdn, z_iT, z_iF, z_le_t, z_le_f, z_lt_t, z_lt_f, z_cl, z_inb, z_at, z_lit, nI_ii1, nI_add, z_mr, z_ref0, z_refn, z_eq_f, Bool.not_true, Bool.not_false, b2i_t, b2i_f, hK.1, hK.s1, e7]
    rfl
  | succ m ih =>
    intro n r w M hr hn hK hC
    obtain ⟨n, rfl, hn⟩ := z_succ hn
    have e7 := hC.2.2.1
    obtain ⟨ta, t0, tc⟩ := trial_ap hK
    obtain ⟨M1, a1, a2⟩ := q_worst_step (K := f_KT_worstPull_l34 n) (n := 999999) (w := w) hO (show r < cR x by omega) (show 0 < 2 by omega) hK hC
    have hK1 := hK.fr a2 t0
    have hC1 := CC_fr a2 (fun id h1 h2 => ta id (by omega) (by omega)) hC
    obtain ⟨M2, b1, b2⟩ := q_worst_step (K := f_KT_worstPull_l34 n) (n := 999998) (w := wpS x (2 * r + 0) w) hO (show r < cR x by omega) (show 1 < 2 by omega) hK1 hC1
    have hK2 := hK1.fr b2 t0
    have hC2 := CC_fr b2 (fun id h1 h2 => ta id (by omega) (by omega)) hC1
    obtain ⟨M3, c1, c2⟩ := ih n (r + 1) (wpS x (2 * r + 1) (wpS x (2 * r + 0) w)) M2 (by omega) (by omega) hK2 hC2
    refine ⟨M3, ?_, (a2.tr b2).tr c2⟩
    rw [f_KT_worstPull_l34]
    simp (disch := first | assumption | omega) only [z_bdn, z_caln, z_gdn, z_iT, z_iF, z_le_t, z_le_f, z_lt_t, z_lt_f, z_cl, z_inb, z_at, z_lit, nI_ii1, nI_add, z_mr, z_ref0, z_refn, z_eq_f, Bool.not_true, Bool.not_false, b2i_t, b2i_f, hK.1, hK.s1, e7]
    have e9 : f_KT_worstPull_l51 (f_KT_worstPull_l34 n) 999998 (wpS x (2 * r + 1) (wpS x (2 * r + 0) w)).1 (wpS x (2 * r + 1) (wpS x (2 * r + 0) w)).2 (nI r) (nI 2) M2 = f_KT_worstPull_l34 n (wpS x (2 * r + 1) (wpS x (2 * r + 0) w)).1 (wpS x (2 * r + 1) (wpS x (2 * r + 0) w)).2 (nI (r + 1)) M2 := by
      rw [show (999998 : Nat) = 999997 + 1 from rfl, f_KT_worstPull_l51]
      simp (disch := first | assumption | omega) only [z_bdn, z_caln, z_gdn, z_iT, z_iF, z_le_t, z_le_f, z_lt_t, z_lt_f, z_cl, z_inb, z_at, z_lit, nI_ii1, nI_add, z_mr, z_ref0, z_refn, z_eq_f, Bool.not_true, Bool.not_false, b2i_t, b2i_f]
    refine (a1.trans (b1.trans (e9.trans c1))).trans ?_
    rfl
def o_worstPull (σ : Sg) : Int32 × Sg := if cR (gX σ) = 0 then (-nI 1, wS σ (nI 8)) else ((wpF (gX σ) (2 * cR (gX σ)) 0 (-nI 1, -nI 1)).1, wS σ (nI 0))
theorem pC_worstPull : PC f_KT_worstPull o_worstPull := by
  intro M σ h
  obtain ⟨s2, t2, hK2, hO2, hC2, hP2, hD2⟩ := IC_gX h
  have w3 := hO2.2.2.1
  have e7 := hC2.2.2.1
  rw [f_KT_worstPull]
  unfold o_worstPull
  by_cases h0 : cR (gX σ) = 0
  · rw [if_pos h0]
    refine ⟨_, ?_, IC_st (nI 8) h, Hi_st⟩
    simp (disch := first | assumption | omega) only [z_bdn, z_caln, z_gdn, z_iT, z_iF, z_le_t, z_le_f, z_lt_t, z_lt_f, z_cl, z_inb, z_at, z_lit, nI_ii1, nI_add, z_mr, z_ref0, z_refn, z_eq_f, Bool.not_true, Bool.not_false, b2i_t, b2i_f, hK2.1, hK2.s1, e7, h0, f_KT_worstPull_l20]
  · rw [if_neg h0]
    have h1 := IC_st (nI 0) h
    obtain ⟨s, t, hK, hO, hC, hP, hD⟩ := IC_get h1
    obtain ⟨M', b1, b2⟩ := q_worst hO (cR (gX σ)) FU 0 (nI 0, -nI 1) (sI M 0 13 (nI 0)) (by omega) (FU_lt (by omega)) hK hC
    obtain ⟨m, hm⟩ : ∃ m, 2 * cR (gX σ) = m + 1 := ⟨2 * cR (gX σ) - 1, by omega⟩
    have e : wpF (gX σ) (2 * cR (gX σ)) 0 (-nI 1, -nI 1) = wpF (gX σ) (2 * cR (gX σ)) (2 * 0) (nI 0, -nI 1) := by
      rw [hm]
      show wpF (gX σ) m 1 (wpS (gX σ) 0 _) = wpF (gX σ) m 1 (wpS (gX σ) 0 _)
      rw [wp_first hO, wp_first hO]
    refine ⟨M', ?_, IC_trial h1 hK b2, Hi_st.tr (hi_inT hK b2)⟩
    have hne : ¬ nI (cR (gX σ)) = nI 0 := nI_ne0 (by omega) (by omega)
    rw [e]
    simp (disch := first | assumption | omega) only [z_bdn, z_caln, z_gdn, z_iT, z_iF, z_le_t, z_le_f, z_lt_t, z_lt_f, z_cl, z_inb, z_at, z_lit, nI_ii1, nI_add, z_mr, z_ref0, z_refn, z_eq_f, Bool.not_true, Bool.not_false, b2i_t, b2i_f, hK2.1, hK2.s1, e7, hne, f_KT_worstPull_l20]
    exact b1
end
