/-! ## SHORTEST: the reference's calls -/
section
variable {M M' : kx_M} {σ : Sg}
theorem IM_L (hF : FrL M M') (h : IM M σ) : IM M' σ := by
  have n : ∀ id, (id = 136 ∨ id = 137 ∨ id = 138 ∨ id = 139 ∨ id = 140 ∨ id = 143 ∨ id = 150) → ¬ (id = 135 ∨ id = 145 ∨ id = 146) := fun id e1 e => by omega
  obtain ⟨hO, hS, ⟨a1, a2, a3, a4, a5⟩, hT, ⟨b1, b2⟩, ⟨c1, c2⟩, ⟨d1, d2⟩⟩ := h
  obtain ⟨hF, f0, j0⟩ := hF
  have e136 := (hF 136 (n _ (by omega))).2.2.1
  have e137 := (hF 137 (n _ (by omega))).2.2.1
  have e138 := (hF 138 (n _ (by omega))).2.2.2.1
  have e139 := (hF 139 (n _ (by omega))).2.2.1
  have e140 := (hF 140 (n _ (by omega))).2.2.1
  have e143 := (hF 143 (n _ (by omega))).2.2.2.1
  have e150 := (hF 150 (n _ (by omega))).2.2.1
  unfold IM MT
  rw [f0 0 (by decide), f0 10 (by decide), f0 11 (by decide), f0 8 (by decide), f0 24 (by decide), f0 36 (by decide), j0, j0, e136, e137, e138, e139, e140, e143, e150]
  exact ⟨hO, hS, ⟨a1, a2, a3, a4, a5⟩, hT, ⟨b1, b2⟩, ⟨c1, c2⟩, ⟨d1, d2⟩⟩
theorem Lo_L (hF : FrL M M') : Lo M M' := hF.1.mono (fun id e => by show 135 ≤ id; omega)
/-- the kernel, then all orders -/
theorem q_shortM {u : Int32} (hI : IM M (wS σ u)) {S : Nat} (hS : S < 2 ^ dC (gY σ)) : ∃ x' M', f_RM_kernel (nI S) (sI M 135 31 (-nI 1)) = some (x', sI M 135 31 (-nI 1)) ∧ g_RM_lays 8 x' (nI 0) (sI M 135 31 (-nI 1)) = some ((), M') ∧ mI M' 135 31 = nI (lnF (shF (gY σ) S)) ∧ lnF (shF (gY σ) S) ≤ 30 ∧ (∀ i, i < lnF (shF (gY σ) S) → mA M' 146 i = nI (ltN (lnF (shF (gY σ) S)) (cdF (shF (gY σ) S)) i)) ∧ FrL M M' := by
  obtain ⟨hO, hC, hP, hD⟩ := IM_get hI
  have w2 := hP.2.1
  have hF0 : FrL M (sI M 135 31 (-nI 1)) := ⟨Fr.sI (Or.inl rfl), fun k hk => by rw [mI_sI, if_neg (fun e => hk e.2)], fun _ => rfl⟩
  obtain ⟨x', a1, a2⟩ := q_kernel (M := sI M 135 31 (-nI 1)) hP hD hS
  have hcl := cnt_le (kR (gY σ) S) (dC (gY σ))
  obtain ⟨M', b1, b2, b3, b4⟩ := q_lays (S := S) hP hD (cnt (kR (gY σ) S) (dC (gY σ))) 8 0 0 0 x' (kR (gY σ) S) none (sI M 135 31 (-nI 1)) (by omega) rfl (fun i hi => by
    rw [a2 i hi]
    unfold kR kerB
    cases (S.testBit i) <;> cases decide (i < dC (gY σ)) <;> cases (anyb (fun k => S.testBit k && witB (dL (gY σ)) (wC5 (gY σ)) i k) (dC (gY σ))) <;> rfl) (fun _ h => h) rfl (by omega) rfl ⟨by decide, by omega, fun i hi => absurd hi (by omega)⟩ (Or.inl ⟨rfl, by rw [mI_sI, if_pos ⟨rfl, rfl⟩]⟩)
  have hs : tO (dC (gY σ)) (dL (gY σ)) (wC5 (gY σ)) (ovO (dL (gY σ)) (wC5 (gY σ))) (cnt (kR (gY σ) S) (dC (gY σ))) (kR (gY σ) S) none (4 ^ 0 + 0) = shF (gY σ) S := by
    have e : lfH (kR (gY σ) S) 0 = kR (gY σ) S := funext (fun i => by
      show (kR (gY σ) S i && !(0 : Nat).testBit _) = _
      rw [Nat.zero_testBit, Bool.not_false, Bool.and_true])
    unfold shF tLo
    rw [e]
  rw [hs] at b2
  have b2 : BestAt M' (shF (gY σ) S) := b2
  rcases b2 with ⟨c1, -⟩ | ⟨L, c, c1, c2, c3, c4, c5⟩
  · exact absurd c1 (shF_nz S)
  · obtain ⟨l1, l2⟩ := lnF_e c1 c2
    rw [l1, l2]
    exact ⟨x', M', a1, b1, c4, c3, c5, hF0.tr b4⟩
theorem pM_shortest (p : Int32) : PM (f_RM_shortest p) (o_shortest p) := by
  intro M σ h
  have h0 := IM_00 h
  have g := g_areClauses h0 p
  have w6 : dC (gY σ) ≤ 6 := h.1.1.2.2.1.2.1
  have h64 : 2 ^ dC (gY σ) ≤ 64 := show 2 ^ dC (gY σ) ≤ 2 ^ 6 from Nat.pow_le_pow_right (by omega) w6
  rw [f_RM_shortest]
  unfold o_shortest
  cases hx : ix p (2 ^ dC (gY σ))
  · rw [show ix p (2 ^ dC (gY (wS σ (nI 0)))) = false from hx] at g
    refine ⟨_, ?_, IM_r (nI 5) h0, lo_ref Lo_00⟩
    simp (disch := first | assumption | omega) only [z_bdn, z_caln, z_gdn, z_iT, z_iF, z_le_t, z_le_f, z_lt_t, z_lt_f, z_cl, z_inb, z_at, z_pl, z_lit, nI_ii1, nI_add, nI_mul, z_eq_f, z_refuse, z_no, z_M00, b2i_t, b2i_f, g, oG]
  · rw [show ix p (2 ^ dC (gY (wS σ (nI 0)))) = true from hx] at g
    obtain ⟨S, hS, rfl⟩ := ix_ex (by omega) hx
    have e1 : (nI S).toNatClampNeg = S := z_cl (by omega)
    obtain ⟨x', M', a1, a2, a3, a4, a5, a6⟩ := q_shortM h0 hS
    rw [e1]
    refine ⟨M', ?_, IM_L a6 h0, Lo_00.tr (Lo_L a6)⟩
    simp (disch := first | assumption | omega) only [z_bdn, z_caln, z_gdn, z_iT, z_iF, z_le_t, z_le_f, z_lt_t, z_lt_f, z_cl, z_inb, z_at, z_pl, z_lit, nI_ii1, nI_add, nI_mul, z_eq_f, z_refuse, z_no, z_M00, b2i_t, b2i_f, g, a1, a2, a3, oG]
theorem pM_shortestAt (p k : Int32) : PM (f_RM_shortestAt p k) (o_shortestAt p k) := by
  intro M σ h
  have h0 := IM_00 h
  have g := g_areClauses h0 p
  have w6 : dC (gY σ) ≤ 6 := h.1.1.2.2.1.2.1
  have h64 : 2 ^ dC (gY σ) ≤ 64 := show 2 ^ dC (gY σ) ≤ 2 ^ 6 from Nat.pow_le_pow_right (by omega) w6
  rw [f_RM_shortestAt]
  unfold o_shortestAt
  cases hx : ix p (2 ^ dC (gY σ))
  · rw [show ix p (2 ^ dC (gY (wS σ (nI 0)))) = false from hx] at g
    refine ⟨_, ?_, IM_r (nI 5) h0, lo_ref Lo_00⟩
    simp (disch := first | assumption | omega) only [z_bdn, z_caln, z_gdn, z_iT, z_iF, z_le_t, z_le_f, z_lt_t, z_lt_f, z_cl, z_inb, z_at, z_pl, z_lit, nI_ii1, nI_add, nI_mul, z_eq_f, z_refuse, z_no, z_M00, b2i_t, b2i_f, g, oG]
  · rw [show ix p (2 ^ dC (gY (wS σ (nI 0)))) = true from hx] at g
    obtain ⟨S, hS, rfl⟩ := ix_ex (by omega) hx
    have e1 : (nI S).toNatClampNeg = S := z_cl (by omega)
    obtain ⟨x', M', a1, a2, a3, a4, a5, a6⟩ := q_shortM h0 hS
    have hI := IM_L a6 h0
    have hl := Lo_00.tr (Lo_L a6)
    have g3 := ix_isIn k (R := lnF (shF (gY σ) S)) (by omega) M'
    rw [e1]
    simp only [oG]
    cases hk : ix k (lnF (shF (gY σ) S))
    · rw [hk] at g3
      refine ⟨_, ?_, IM_r (nI 8) hI, hl.tr Lo_st⟩
      simp (disch := first | assumption | omega) only [z_bdn, z_caln, z_gdn, z_iT, z_iF, z_le_t, z_le_f, z_lt_t, z_lt_f, z_cl, z_inb, z_at, z_pl, z_lit, nI_ii1, nI_add, nI_mul, z_eq_f, z_refuse, z_no, z_M00, b2i_t, b2i_f, g, a1, a2, a3, g3]
    · rw [hk] at g3
      obtain ⟨j, hj, rfl⟩ := ix_ex (by omega) hk
      have e2 : (nI j).toNatClampNeg = j := z_cl (by omega)
      have e3 := a5 j hj
      rw [e2]
      refine ⟨M', ?_, hI, hl⟩
      simp (disch := first | assumption | omega) only [z_bdn, z_caln, z_gdn, z_iT, z_iF, z_le_t, z_le_f, z_lt_t, z_lt_f, z_cl, z_inb, z_at, z_pl, z_lit, nI_ii1, nI_add, nI_mul, z_eq_f, z_refuse, z_no, z_M00, b2i_t, b2i_f, g, a1, a2, a3, g3, e3]
      rfl
end
