section
variable {M M' M1 : kx_M} {T : Nat → Nat} {n u : Nat} {σ : Sg}
theorem OkSt_tr {n : Nat} {s : Ps} (h : POk n s) : OkSt (sX s, sY s, z00) := ⟨h.1, by show cY (sX s) ≤ 9999; rw [h.2.1]; omega, h.2.2.1, fun e => (by cases e)⟩
theorem ap_tr {s t : Nat} (hK : KN M s t) : t = 27 ∨ t = 47 := by rcases hK.2.2 with ⟨-, h⟩ | ⟨-, h⟩ <;> omega
/-- a treaty that is not taken -/
theorem IC_trE {s t : Nat} {st a b : Int32} (h : IC M σ) (hK : KN M s t) (hF : Fr (fun id => id = 0 ∨ id = 4 ∨ id = 5 ∨ (t + 1 ≤ id ∧ id ≤ t + 15)) M M') (h0 : ∀ k, k ≠ 11 → k ≠ 13 → k ≠ 14 → k ≠ 15 → mI M' 0 k = mI M 0 k) (hj : ∀ k, mJ M' 0 k = mJ M 0 k) (hr : ∀ k, mR M' 0 k = mR M 0 k) (h11 : mI M' 0 11 = nI 0) (h13 : mI M' 0 13 = st) (h14 : mI M' 0 14 = a) (h15 : mI M' 0 15 = b) : IC M' (wE (wP (wS σ st) 0 (gP σ).2) a b) := by
  obtain ⟨hO, s1, t1, hK1, hS, ⟨a1, a2, a3, a4, a5⟩, hT, ⟨b1, b2⟩, ⟨c1, c2⟩, ⟨d1, d2⟩, hk, hw⟩ := h
  have es : s1 = s := hK1.1.symm.trans hK.1
  have et : t1 = t := hK1.2.1.symm.trans hK.2.1
  subst es et
  have ap := hK.ap
  have hO' : OkG (wE (wP (wS σ st) 0 (gP σ).2) a b) := ⟨hO.1, hO.2.1, hO.2.2.1, hO.2.2.2.1, Nat.zero_le _, fun k hk => absurd hk (Nat.not_lt_zero _)⟩
  refine ⟨hO', s1, t1, ⟨(hr 9).trans hK1.1, (hr 10).trans hK1.2.1, hK1.2.2⟩, CS_fr hF (fun id h1 h2 e => by omega) hS, ⟨h13, (hj 17).trans a2, (hj 18).trans a3, h14, h15⟩, fun q hq => CT_fr hF (by omega) (by omega) (hT q hq), ⟨h11, fun k hk => absurd hk (Nat.not_lt_zero _)⟩, ⟨(h0 12 (by omega) (by omega) (by omega) (by omega)).trans c1, fun i hi => CS_fr hF (fun id h1 h2 e => by omega) (c2 i hi)⟩, ⟨(h0 16 (by omega) (by omega) (by omega) (by omega)).trans d1, fun e => ?_⟩, ?_, ?_⟩
  · obtain ⟨f, -⟩ := hF 23 (by omega)
    rw [f, f, f, f, f]; exact d2 e
  · rw [(hF 6 (by omega)).2.2.2.1, (hF 10 (by omega)).2.2.2.1]; exact hk
  · obtain ⟨-, -, -, -, r⟩ := hF 13 (by omega)
    rw [r, r]; exact hw
/-- a treaty that is taken -/
theorem IC_trO {s t : Nat} {x : Cl} {y : De} (h : IC M σ) (hK : KN M s t) (hF : Fr (fun id => id = 0 ∨ id = 4 ∨ id = 5 ∨ (t + 1 ≤ id ∧ id ≤ t + 15)) M M') (h0 : ∀ k, k ≠ 11 → k ≠ 13 → k ≠ 14 → k ≠ 15 → mI M' 0 k = mI M 0 k) (hj : ∀ k, mJ M' 0 k = mJ M 0 k) (hr9 : mR M' 0 9 = t) (hr10 : mR M' 0 10 = s) (h11 : mI M' 0 11 = nI 0) (h13 : mI M' 0 13 = nI 0) (h14 : mI M' 0 14 = nI 0) (h15 : mI M' 0 15 = -nI 1) (hC : CC M' (t + 9) x) (hD : CD M' (t + 1) y) (hZ : mI M' (t + 15) 4 = nI 0) (hu : OkSt (x, y, z00)) : IC M' (wE (wNow (wP (wS σ (nI 0)) 0 (gP σ).2) (x, y, z00)) (nI 0) (-nI 1)) := by
  obtain ⟨hO, s1, t1, hK1, hS, ⟨a1, a2, a3, a4, a5⟩, hT, ⟨b1, b2⟩, ⟨c1, c2⟩, ⟨d1, d2⟩, hk, hw⟩ := h
  have es : s1 = s := hK1.1.symm.trans hK.1
  have et : t1 = t := hK1.2.1.symm.trans hK.2.1
  subst es et
  have ap := hK.ap
  have hO' : OkG (wE (wNow (wP (wS σ (nI 0)) 0 (gP σ).2) (x, y, z00)) (nI 0) (-nI 1)) := ⟨hu, hO.2.1, hO.2.2.1, hO.2.2.2.1, Nat.zero_le _, fun k hk => absurd hk (Nat.not_lt_zero _)⟩
  have hK2 : KN M' t1 s1 := ⟨hr9, hr10, by rcases hK1.2.2 with ⟨e1, e2⟩ | ⟨e1, e2⟩ <;> subst e1 <;> subst e2; exact Or.inr ⟨rfl, rfl⟩; exact Or.inl ⟨rfl, rfl⟩⟩
  refine ⟨hO', t1, s1, hK2, ⟨hC, hD, hZ, fun e => (by cases e)⟩, ⟨h13, (hj 17).trans a2, (hj 18).trans a3, h14, h15⟩, fun q hq => CT_fr hF (by omega) (by omega) (hT q hq), ⟨h11, fun k hk => absurd hk (Nat.not_lt_zero _)⟩, ⟨(h0 12 (by omega) (by omega) (by omega) (by omega)).trans c1, fun i hi => CS_fr hF (fun id h1 h2 e => by omega) (c2 i hi)⟩, ⟨(h0 16 (by omega) (by omega) (by omega) (by omega)).trans d1, fun e => ?_⟩, ?_, ?_⟩
  · obtain ⟨f, -⟩ := hF 23 (by omega)
    rw [f, f, f, f, f]; exact d2 e
  · rw [(hF 6 (by omega)).2.2.2.1, (hF 10 (by omega)).2.2.2.1]; exact hk
  · obtain ⟨-, -, -, -, r⟩ := hF 13 (by omega)
    rw [r, r]; exact hw
theorem mR_same {M : kx_M} (i k l v : Nat) : mR (sR M i k v) i l = if l = k then v else mR M i l := by
  rw [mR_sR]
  by_cases h : l = k
  · rw [if_pos ⟨rfl, h⟩, if_pos h]
  · rw [if_neg (fun e => h e.2), if_neg h]
theorem pC_treaty (p : Int32) : PC (f_KT_treaty p) (o_treaty p) := by
  intro M σ h
  have hh := h
  obtain ⟨hO, s, t, hK, hS, -, -, ⟨b1, b2⟩, -, -, hk, -⟩ := hh
  have ap := hK.ap
  have ht := ap_tr hK
  have h900 := hO.2.2.2.2.1
  have h255 := hO.2.2.2.2.2
  rw [f_KT_treaty]
  unfold o_treaty
  cases hx : ix p ((gP σ).1 + 1) with
  | false =>
    rw [z_itf]
    refine ⟨_, ?_, IC_st (nI 5) h, Hi_st⟩
    rcases ix_f (by omega) hx with h1 | h1
    · have z : (p < nI 0) = True := eq_true h1
      simp (disch := first | assumption | omega) only [z_bdn, z_caln, z_gdn, z_iT, z_iF, z_le_t, z_le_f, z_lt_t, z_lt_f, z_cl, z_inb, z_at, z_lit, nI_ii1, nI_add, z_mr, z_ref0, z_refn, z_eq_f, Bool.not_true, Bool.not_false, b2i_t, b2i_f, z]
    · by_cases h2 : p < nI 0
      · have z : (p < nI 0) = True := eq_true h2
        simp (disch := first | assumption | omega) only [z_bdn, z_caln, z_gdn, z_iT, z_iF, z_le_t, z_le_f, z_lt_t, z_lt_f, z_cl, z_inb, z_at, z_lit, nI_ii1, nI_add, z_mr, z_ref0, z_refn, z_eq_f, Bool.not_true, Bool.not_false, b2i_t, b2i_f, z]
      · have z : (p < nI 0) = False := eq_false h2
        have z2 : (p ≤ nI (gP σ).1) = False := eq_false (fun e => h1 (by
          have e := Int32.le_iff_toInt_le.mp e
          rw [nI_toInt (by omega)] at e
          rw [i32_lt p (by omega)]
          omega))
        simp (disch := first | assumption | omega) only [z_bdn, z_caln, z_gdn, z_iT, z_iF, z_le_t, z_le_f, z_lt_t, z_lt_f, z_cl, z_inb, z_at, z_lit, nI_ii1, nI_add, z_mr, z_ref0, z_refn, z_eq_f, Bool.not_true, Bool.not_false, b2i_t, b2i_f, z, b1, z2]
  | true =>
    rw [z_itt]
    obtain ⟨n, hn, rfl⟩ := ix_ex (by omega) hx
    have e1 : (nI n).toNatClampNeg = n := z_cl (by omega)
    rw [e1]
    have g := q_parse (M := sI M 0 11 (nI 0)) (T := (gP σ).2) (n := n) ht (by omega) (fun i hi => ⟨b2 i (by omega), h255 i (by omega)⟩) (fun k hk2 => (hk k hk2).1)
    have r10 : mR (sI M 0 11 (nI 0)) 0 10 = t := hK.2.1
    cases hp : pTre (gP σ).2 n with
    | error e =>
      rw [hp] at g
      obtain ⟨M1, a1, ⟨a2, a3⟩, a4⟩ := g
      have g0 := a4 0 (by omega)
      obtain ⟨M', hM⟩ : ∃ M', M' = sI (sI (sI M1 0 14 (nI e.1)) 0 15 (nI e.2)) 0 13 (nI 10) := ⟨_, rfl⟩
      have hF : Fr (fun id => id = 0 ∨ id = 4 ∨ id = 5 ∨ (t + 1 ≤ id ∧ id ≤ t + 15)) M M' := by
        rw [hM]
        exact Fr.tr (Fr.sI (Or.inl rfl)) ((a4.mono (fun id e => Or.inr e)).tr (Fr.tr (Fr.sI (Or.inl rfl)) (Fr.tr (Fr.sI (Or.inl rfl)) (Fr.sI (Or.inl rfl)))))
      refine ⟨M', ?_, IC_trE h hK hF (fun k h1 h2 h3 h4 => ?_) (fun k => ?_) (fun k => ?_) ?_ ?_ ?_ ?_, hF.mono (fun id e => by show id < 135; omega)⟩
      · have s11 : mI (sI M1 0 14 (nI e.1)) 5 11 = nI e.2 := a3
        have hz : ∀ M, f_KT_refused (nI 10) M = some (nI 1, sI M 0 13 (nI 10)) := fun M => z_refn (by omega) (by omega) M
        rw [hM]
        simp (disch := first | assumption | omega) only [z_bdn, z_caln, z_gdn, z_iT, z_iF, z_le_t, z_le_f, z_lt_t, z_lt_f, z_cl, z_inb, z_at, z_lit, nI_ii1, nI_add, z_mr, z_ref0, z_refn, z_eq_f, Bool.not_true, Bool.not_false, b2i_t, b2i_f, b1, nI_pos0, r10, hK.s2, a1, f_KT_told, f_KT_told_l13, a2, s11, hz]
      · rw [hM, m_same, if_neg h2, m_same, if_neg h4, m_same, if_neg h3, g0.1, m_same, if_neg h1]
      · rw [hM]; exact g0.2.1 k
      · rw [hM]; exact g0.2.2.2.2 k
      · rw [hM, m_same, m_same, m_same]
        exact (g0.1 11).trans rfl
      · rw [hM, m_same]; rfl
      · rw [hM, m_same, m_same, m_same]; rfl
      · rw [hM, m_same, m_same]; rfl
    | ok q =>
      rw [hp] at g
      obtain ⟨M1, a1, ⟨⟨-, aC, aD, -, -⟩, -, -⟩, aO, aZ, a4⟩ := g
      have g0 := a4 0 (by omega)
      obtain ⟨M', hM⟩ : ∃ M', M' = sR (sR (sI (sI (sI M1 0 14 (nI 0)) 0 15 (-nI 1)) 0 13 (nI 0)) 0 9 t) 0 10 s := ⟨_, rfl⟩
      have hF1 : Fr (fun id => id = 0) M1 M' := by
        rw [hM]
        exact Fr.tr (Fr.sI rfl) (Fr.tr (Fr.sI rfl) (Fr.tr (Fr.sI rfl) (Fr.tr (Fr.sR rfl) (Fr.sR rfl))))
      have hF : Fr (fun id => id = 0 ∨ id = 4 ∨ id = 5 ∨ (t + 1 ≤ id ∧ id ≤ t + 15)) M M' := Fr.tr (Fr.sI (Or.inl rfl)) ((a4.mono (fun id e => Or.inr e)).tr (hF1.mono (fun id e => Or.inl e)))
      have hC' : CC M' (t + 9) (sX q) := CC_fr hF1 (fun id h1 h2 e => by omega) aC
      have hD' : CD M' (t + 1) (sY q) := PD_CD aO.2.2.1 (PD_fr hF1 (fun id h1 h2 e => by omega) aD)
      have m9 : ∀ k, mR M1 0 k = mR M 0 k := fun k => g0.2.2.2.2 k
      refine ⟨M', ?_, IC_trO h hK hF (fun k h1 h2 h3 h4 => ?_) (fun k => ?_) ?_ ?_ ?_ ?_ ?_ ?_ hC' hD' ?_ (OkSt_tr aO), hF.mono (fun id e => by show id < 135; omega)⟩
      · have s9 : mR (sI (sI (sI M1 0 14 (nI 0)) 0 15 (-nI 1)) 0 13 (nI 0)) 0 9 = s := (m9 9).trans hK.1
        have s10 : mR (sI (sI (sI M1 0 14 (nI 0)) 0 15 (-nI 1)) 0 13 (nI 0)) 0 10 = t := (m9 10).trans hK.2.1
        have t9 : mR M' 0 9 = t := by rw [hM, mR_same, mR_same]; rfl
        have e7 : mI M' (t + 9) 7 = nI (cR (sX q)) := hC'.2.2.1
        simp (disch := first | assumption | omega) only [z_bdn, z_caln, z_gdn, z_iT, z_iF, z_le_t, z_le_f, z_lt_t, z_lt_f, z_cl, z_inb, z_at, z_lit, nI_ii1, nI_add, z_mr, z_ref0, z_refn, z_eq_f, Bool.not_true, Bool.not_false, b2i_t, b2i_f, b1, nI_pos0, r10, hK.s2, a1, f_KT_told, f_KT_told_l13, s9, s10, hK.s1, ← hM, t9, e7]
      · rw [hM, mI_sR, mI_sR, m_same, if_neg h2, m_same, if_neg h4, m_same, if_neg h3, g0.1, m_same, if_neg h1]
      · rw [hM]; exact g0.2.1 k
      · rw [hM, mR_same, mR_same]; rfl
      · rw [hM, mR_same]; rfl
      · rw [hM, mI_sR, mI_sR, m_same, m_same, m_same]
        exact (g0.1 11).trans rfl
      · rw [hM, mI_sR, mI_sR, m_same]; rfl
      · rw [hM, mI_sR, mI_sR, m_same, m_same, m_same]; rfl
      · rw [hM, mI_sR, mI_sR, m_same, m_same]; rfl
      · rw [(hF1 (t + 15) (by omega)).1]; exact aZ
end
