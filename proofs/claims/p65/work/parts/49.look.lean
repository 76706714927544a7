def knO (v : Int64) : Option Nat := if v = -1 then none else some (kdN v)
theorem inR_1 {v : Int64} (h : inR 1 v = true) : v = -1 ∨ inR 0 v = true := by
  unfold inR at h
  rw [Bool.and_eq_true] at h
  have h1 := Int64.le_iff_toInt_le.mp (of_decide_eq_true h.1)
  rw [show ((nI 0 - nI 1).toInt64).toInt = -1 from by decide] at h1
  by_cases h0 : v.toInt = -1
  · exact Or.inl (Int64.toInt_inj.mp (h0.trans (by decide)))
  · refine Or.inr ?_
    unfold inR
    rw [h.2, Bool.and_true]
    refine decide_eq_true (Int64.le_iff_toInt_le.mpr ?_)
    rw [show ((nI 0 - nI 0).toInt64).toInt = 0 from by decide]
    omega
theorem kn_1 {v : Int64} (h : inR 1 v = true) : v.toInt32 = oI (knO v) ∧ ∀ a, knO v = some a → a < 4 := by
  unfold knO
  rcases inR_1 h with e | e
  · subst e
    exact ⟨by decide, (fun a e => by rw [if_pos rfl] at e; cases e)⟩
  · have hn : ¬ v = -1 := fun e2 => by subst e2; revert e; decide
    rw [if_neg hn]
    obtain ⟨k1, k2⟩ := kd_0 e
    exact ⟨k1, (fun a e => by cases e; exact k2)⟩
section
variable {M M' : kx_M} {σ : Sg} {x : Cl} {y : De}
def wayOk (M : kx_M) : Prop := mR M 13 4 = 16 ∧ mR M 13 5 = 17 ∨ mR M 13 4 = 17 ∧ mR M 13 5 = 16
def FrS (M M' : kx_M) : Prop := Fr (fun id => 13 ≤ id ∧ id ≤ 17) M M' ∧ (wayOk M → wayOk M')
theorem FrS.tr {A B C : kx_M} (h : FrS A B) (g : FrS B C) : FrS A C := ⟨h.1.tr g.1, fun e => g.2 (h.2 e)⟩
theorem IC_S (hI : IC M σ) (hF : FrS M M') : IC M' σ := by
  obtain ⟨hO, s, t1, hK, hS, ⟨a1, a2, a3, a4, a5⟩, hT, ⟨b1, b2⟩, ⟨c1, c2⟩, ⟨d1, d2⟩, hk, hw⟩ := hI
  obtain ⟨hF, hW⟩ := hF
  have ha := hK.ap
  obtain ⟨f0, j0, -, -, r0⟩ := hF 0 (by omega)
  refine ⟨hO, s, t1, hK.fr hF (by omega), CS_fr hF (fun id h1 h2 e => by omega) hS, ⟨?_, ?_, ?_, ?_, ?_⟩, fun q hq => CT_fr hF (by omega) (by omega) (hT q hq), ⟨?_, ?_⟩, ⟨?_, fun i hi => CS_fr hF (fun id h1 h2 e => by omega) (c2 i hi)⟩, ⟨?_, ?_⟩, ?_, hW hw⟩
  · rw [f0]; exact a1
  · rw [j0]; exact a2
  · rw [j0]; exact a3
  · rw [f0]; exact a4
  · rw [f0]; exact a5
  · rw [f0]; exact b1
  · rw [(hF 2 (by omega)).2.2.1]; exact b2
  · rw [f0]; exact c1
  · rw [f0]; exact d1
  · obtain ⟨f, -, -, -, -⟩ := hF 23 (by omega)
    rw [f, f, f, f, f]; exact d2
  · rw [(hF 6 (by omega)).2.2.2.1, (hF 10 (by omega)).2.2.2.1]; exact hk
/-- Seen shows the clause and the row -/
def SeenAt (M : kx_M) (L c W : Nat) (kn : Nat → Option Nat) : Prop := mI M 13 3 = nI L ∧ mI M 13 1 = nI W ∧ tbOk M L c (4 * L) ∧ (∀ j, j < W → mA M 14 j = oI (kn j)) ∧ wayOk M
theorem q_look_l34 {k t W : Nat} {V : Nat → Int64} (ht : t < 4) (hW : W ≤ 8) (hV : ∀ j, j < W → inR 1 (V j) = true) : ∀ (m n j : Nat) (M : kx_M), j + m = W → m < n → mI M 13 1 = nI W → (∀ i, i < W → mB M (2 * t + 68) i = V i) → (∀ i, i < j → mA M 14 i = oI (knO (V i))) → ∃ M', f_KT_lookAt_l34 (nI k) (nI t) n (nI j) M = some ((), M') ∧ (∀ i, i < W → mA M' 14 i = oI (knO (V i))) ∧ Fr (fun id => id = 14) M M' := by
  intro m
  induction m with
  | zero =>
    intro n j M hj hn h1 hB hL
    obtain ⟨n, rfl, hn⟩ := z_succ hn
    obtain rfl : j = W := by omega
    refine ⟨M, ?_, hL, Fr.rf⟩
    rw [f_KT_lookAt_l34]
    simp (disch := first | assumption | omega) only [z_bdn, z_caln, z_gdn, z_iT, z_iF, z_le_t, z_le_f, z_lt_t, z_lt_f, z_cl, z_inb, z_at, z_lit, nI_ii1, nI_add, z_mr, z_ref0, z_refn, z_eq_f, Bool.not_true, Bool.not_false, b2i_t, b2i_f, h1]
  | succ m ih =>
    intro n j M hj hn h1 hB hL
    obtain ⟨n, rfl, hn⟩ := z_succ hn
    have eB := hB j (by omega)
    obtain ⟨k1, -⟩ := kn_1 (hV j (by omega))
    obtain ⟨M', g1, g2, g3⟩ := ih n (j + 1) (sA M 14 (upd (mA M 14) j (oI (knO (V j))))) (by omega) (by omega) h1 hB (fun i hi => by
      rw [mA_sA, if_pos rfl, upd_at]
      by_cases he : i = j
      · rw [if_pos he, he]
      · rw [if_neg he]; exact hL i (by omega))
    refine ⟨M', ?_, g2, Fr.tr (Fr.sA rfl) g3⟩
    rw [f_KT_lookAt_l34]
    simp (disch := first | assumption | omega) only [z_bdn, z_caln, z_gdn, z_iT, z_iF, z_le_t, z_le_f, z_lt_t, z_lt_f, z_cl, z_inb, z_at, z_lit, nI_ii1, nI_add, z_mr, z_ref0, z_refn, z_eq_f, Bool.not_true, Bool.not_false, b2i_t, b2i_f, h1, eB, k1]
    exact g1
def knT (t : Nat) (σ : Sg) (j : Nat) : Option Nat := knO (tV (gT σ t) j)
theorem q_lookAt {u : Int32} (h : IC M (wS σ u)) {k t : Nat} (hk : k < dC (gY σ)) (ht : t < 4) (h0 : kindS 1 t σ = 0) : ∃ M', f_KT_lookAt (nI k) (nI t) M = some ((), M') ∧ SeenAt M' (dL (gY σ) k) (rnN (gY σ) k (dL (gY σ) k)) (cW (gX σ)) (knT t σ) ∧ FrS M M' := by
  obtain ⟨s, t1, hK, hO, hC, hP, hD⟩ := IC_get h
  have ap := hK.ap
  have w2 := hO.1.2
  obtain ⟨hr, ha⟩ := kindS0 h0
  obtain ⟨hm, hl⟩ := runS0 hr
  obtain ⟨hT, -⟩ := IC_tr h ht
  have hw : wayOk M := by
    obtain ⟨-, s3, t3, -, -, -, -, -, -, -, -, hw⟩ := h
    exact hw
  obtain ⟨M1, a1, a2, a3, a4, a5⟩ := q_learn (k := k) hP hD (by omega) hk
  have hK1 := hK.fr a4 (by omega)
  have hC1 := CC_fr a4 (fun id h1 h2 e => by omega) hC
  have e5 := hC1.1
  have hF1 : Fr (fun id => id = 13) M1 (sI M1 13 1 (nI (cW (gX σ)))) := Fr.sI rfl
  obtain ⟨M2, b1, b2, b3⟩ := q_look_l34 (k := k) (V := tV (gT σ t)) ht w2 ha (cW (gX σ)) FU 0 (sI M1 13 1 (nI (cW (gX σ)))) (by omega) (FU_lt (by omega)) (by rw [mI_sI, if_pos ⟨rfl, rfl⟩]) (fun i hi => by
    rw [mB_sI, (a4 (2 * t + 68) (by omega)).2.2.2.1]
    exact (hT.2 hm).2.2 i (show i < tL (gT σ t) by omega)) (fun i hi => absurd hi (by omega))
  have e13 := b3 13 (by decide)
  have e15 := (b3 15 (by decide)).2.2.1
  have hw1 : wayOk M1 := by unfold wayOk; rw [a5, a5]; exact hw
  have hw2 : wayOk M2 := by unfold wayOk; rw [e13.2.2.2.2, e13.2.2.2.2]; exact hw1
  refine ⟨M2, ?_, ⟨?_, ?_, fun s' a' h1 h2 h3 => ?_, b2, hw2⟩, ((a4.mono (fun id e => by omega)).tr (hF1.mono (fun id e => by omega))).tr (b3.mono (fun id e => by omega)), fun _ => hw2⟩
  · rw [f_KT_lookAt]
    simp (disch := first | assumption | omega) only [z_bdn, z_caln, z_gdn, z_iT, z_iF, z_le_t, z_le_f, z_lt_t, z_lt_f, z_cl, z_inb, z_at, z_lit, nI_ii1, nI_add, z_mr, z_ref0, z_refn, z_eq_f, Bool.not_true, Bool.not_false, b2i_t, b2i_f, hK.1, hK.s1, a1, hK1.1, e5]
    exact b1
  · rw [e13.1, mI_sI, if_neg (by decide)]; exact a2
  · rw [e13.1, mI_sI, if_pos ⟨rfl, rfl⟩]
  · rw [e15]; exact a3 s' a' h1 h2 h3
end
