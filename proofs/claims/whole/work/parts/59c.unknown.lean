/-! ## CHANCE: how many are unknown -/
section
variable {M M' : kx_M}
theorem q_unknown {L c W : Nat} {kn : Nat → Option Nat} (hW : W ≤ 8) (hk : ∀ j b, j < W → kn j = some b → b < 4) (hS : SeenAt M L c W kn) : f_Seen_unknown M = some (nI (cnt (lkU kn) W), M) := by
  have h1 := hS.2.1
  have key : ∀ (m n j : Nat), j + m = W → m < n → f_Seen_unknown_l4 n (nI (cnt (lkU kn) j)) (nI j) M = some (nI (cnt (lkU kn) W), M) := by
    intro m
    induction m with
    | zero =>
      intro n j hj hn
      obtain ⟨n, rfl, hn⟩ := z_succ hn
      obtain rfl : j = W := by omega
      rw [f_Seen_unknown_l4]
      simp (disch := first | assumption | omega) only [z_bdn, z_caln, z_gdn, z_iT, z_iF, z_le_t, z_le_f, z_lt_t, z_lt_f, z_cl, z_inb, z_at, z_pl, z_lit, nI_ii1, nI_add, z_mr, z_ref0, z_refn, z_eq_f, Bool.not_true, Bool.not_false, b2i_t, b2i_f, h1]
    | succ m ih =>
      intro n j hj hn
      obtain ⟨n, rfl, hn⟩ := z_succ hn
      have e14 := hS.2.2.2.1 j (by omega)
      have g := ih n (j + 1) (by omega) (by omega)
      rw [cnt_succ] at g
      rw [f_Seen_unknown_l4]
      cases hc : kn j with
      | none =>
        rw [show lkU kn j = true from by unfold lkU; rw [hc]; rfl] at g
        rw [hc] at e14
        have e14 : mA M 14 j = -nI 1 := e14
        simp (disch := first | assumption | omega) only [z_bdn, z_caln, z_gdn, z_iT, z_iF, z_le_t, z_le_f, z_lt_t, z_lt_f, z_cl, z_inb, z_at, z_pl, z_lit, nI_ii1, nI_add, z_mr, z_ref0, z_refn, z_eq_f, Bool.not_true, Bool.not_false, b2i_t, b2i_f, h1, e14]
        exact g
      | some b =>
        have hb := hk j b (by omega) hc
        rw [show lkU kn j = false from by unfold lkU; rw [hc]; rfl] at g
        rw [hc] at e14
        have e14 : mA M 14 j = nI b := e14
        simp (disch := first | assumption | omega) only [z_bdn, z_caln, z_gdn, z_iT, z_iF, z_le_t, z_le_f, z_lt_t, z_lt_f, z_cl, z_inb, z_at, z_pl, z_lit, nI_ii1, nI_add, z_mr, z_ref0, z_refn, z_eq_f, Bool.not_true, Bool.not_false, b2i_t, b2i_f, h1, e14, z_nneg]
        exact g
  have g := key W FU 0 (by omega) (FU_lt (by omega))
  rw [f_Seen_unknown]
  simp (disch := first | assumption | omega) only [z_bdn, z_caln, z_gdn, z_iT, z_iF, z_le_t, z_le_f, z_lt_t, z_lt_f, z_cl, z_inb, z_at, z_pl, z_lit, nI_ii1, nI_add, z_mr, z_ref0, z_refn, z_eq_f, Bool.not_true, Bool.not_false, b2i_t, b2i_f]
  exact g
theorem sh4 : ∀ n, n < 9 → (1 : Int64) <<< ((nI (n * 2)).toInt64 &&& 63) = (nI (4 ^ n)).toInt64 := by decide +kernel
theorem ml4 : ∀ n, n < 8 → nI (4 ^ n) * nI 4 = nI (4 ^ (n + 1)) := by decide +kernel
end
