/-! ## CENTURIES: the class's call -/
/-- two steps that agree where it counts -/
def useF (f g : Nat → Int32) : Prop := g 0 = f 0 ∧ g 8 = f 8 ∧ (f 0 ≠ nI 4 → f 0 ≠ nI 7 → g 1 = f 1) ∧ (f 0 = nI 1 ∨ f 0 = nI 2 ∨ f 0 = nI 3 → g 2 = f 2) ∧ (f 0 = nI 5 → g 6 = f 6 ∧ (f 6 = nI 2 → g 7 = f 7))
def o_centuries (z : Nat → Nat → Int32) (p : Int32) (σ : Sg) : Int32 × Sg := if (ix p ((gP σ).1 + 1) && ix p 301) = true then (match pCen (gP σ).2 p.toNatClampNeg (gX σ) (gY σ) with
    | .ok c => (nI (vvK c), wE (wNow (wP (wS σ (nI 0)) 0 (gP σ).2) (gX σ, gY σ, (true, vvK c, z))) (nI 0) (-nI 1))
    | .error e => (-nI 1, wE (wP (wS σ (nI 10)) 0 (gP σ).2) (nI e.1) (nI e.2)))
  else (-nI 1, wS σ (nI 5))
def zOk (z : Nat → Nat → Int32) (p : Int32) (σ : Sg) : Prop := (ix p ((gP σ).1 + 1) && ix p 301) = true → ∀ c, pCen (gP σ).2 p.toNatClampNeg (gX σ) (gY σ) = .ok c → ∀ s, s < vvK c → useF (zI (vvZ c) s) (z s)
section
variable {f g : Nat → Int32} {W C : Nat} {z z' : Nat → Nat → Int32} {eo ea eb em : Nat → Int32}
theorem n0i {k j : Nat} (h : k ≠ j) (hk : k < 100) (hj : j < 100) : ¬ nI k = nI j := of_eq_false (z_kn h hk hj)
theorem stepOk_use (hu : useF f g) (h : stepOk W C f) : stepOk W C g := by
  obtain ⟨u0, -, u1, u2, u6⟩ := hu
  rcases h with ⟨h0, h⟩ | ⟨h0, h⟩ | ⟨h0, h⟩ | ⟨h0, h⟩ | h0 | ⟨h0, h⟩ | ⟨h0, h⟩ | h0
  · have e1 := u1 (by rw [h0]; exact n0i (by omega) (by omega) (by omega)) (by rw [h0]; exact n0i (by omega) (by omega) (by omega))
    exact Or.inl ⟨u0.trans h0, by rw [e1]; exact h⟩
  · have e1 := u1 (by rw [h0]; exact n0i (by omega) (by omega) (by omega)) (by rw [h0]; exact n0i (by omega) (by omega) (by omega))
    have e2 := u2 (Or.inl h0)
    exact Or.inr (Or.inl ⟨u0.trans h0, by rw [e1, e2]; exact h⟩)
  · have e1 := u1 (by rw [h0]; exact n0i (by omega) (by omega) (by omega)) (by rw [h0]; exact n0i (by omega) (by omega) (by omega))
    have e2 := u2 (Or.inr (Or.inl h0))
    exact Or.inr (Or.inr (Or.inl ⟨u0.trans h0, by rw [e1, e2]; exact h⟩))
  · have e1 := u1 (by rw [h0]; exact n0i (by omega) (by omega) (by omega)) (by rw [h0]; exact n0i (by omega) (by omega) (by omega))
    have e2 := u2 (Or.inr (Or.inr h0))
    exact Or.inr (Or.inr (Or.inr (Or.inl ⟨u0.trans h0, by rw [e1, e2]; exact h⟩)))
  · exact Or.inr (Or.inr (Or.inr (Or.inr (Or.inl (u0.trans h0)))))
  · have e1 := u1 (by rw [h0]; exact n0i (by omega) (by omega) (by omega)) (by rw [h0]; exact n0i (by omega) (by omega) (by omega))
    obtain ⟨e6, e7⟩ := u6 h0
    refine Or.inr (Or.inr (Or.inr (Or.inr (Or.inr (Or.inl ⟨u0.trans h0, ?_⟩)))))
    rw [e1, e6]
    rcases h with h | h | ⟨h6, h⟩
    · exact Or.inl h
    · exact Or.inr (Or.inl h)
    · rw [e7 h6]
      exact Or.inr (Or.inr ⟨h6, h⟩)
  · have e1 := u1 (by rw [h0]; exact n0i (by omega) (by omega) (by omega)) (by rw [h0]; exact n0i (by omega) (by omega) (by omega))
    exact Or.inr (Or.inr (Or.inr (Or.inr (Or.inr (Or.inr (Or.inl ⟨u0.trans h0, by rw [e1]; exact h⟩))))))
  · exact Or.inr (Or.inr (Or.inr (Or.inr (Or.inr (Or.inr (Or.inr (u0.trans h0)))))))
theorem entOk_use {o a b : Int32} (hu : useF f g) (h : entOk f o a b) : entOk g o a b := by
  obtain ⟨u0, -, u1, u2, u6⟩ := hu
  rcases h with ⟨h0, h⟩ | ⟨h0, h⟩ | ⟨h0, h⟩ | ⟨h0, h⟩ | ⟨h0, h⟩ | ⟨h0, h⟩ | ⟨h0, h⟩ | ⟨h0, h⟩
  · have e1 := u1 (by rw [h0]; exact n0i (by omega) (by omega) (by omega)) (by rw [h0]; exact n0i (by omega) (by omega) (by omega))
    exact Or.inl ⟨u0.trans h0, by rw [e1]; exact h⟩
  · have e1 := u1 (by rw [h0]; exact n0i (by omega) (by omega) (by omega)) (by rw [h0]; exact n0i (by omega) (by omega) (by omega))
    have e2 := u2 (Or.inl h0)
    exact Or.inr (Or.inl ⟨u0.trans h0, by rw [e1, e2]; exact h⟩)
  · have e1 := u1 (by rw [h0]; exact n0i (by omega) (by omega) (by omega)) (by rw [h0]; exact n0i (by omega) (by omega) (by omega))
    have e2 := u2 (Or.inr (Or.inl h0))
    exact Or.inr (Or.inr (Or.inl ⟨u0.trans h0, by rw [e1, e2]; exact h⟩))
  · have e1 := u1 (by rw [h0]; exact n0i (by omega) (by omega) (by omega)) (by rw [h0]; exact n0i (by omega) (by omega) (by omega))
    have e2 := u2 (Or.inr (Or.inr h0))
    exact Or.inr (Or.inr (Or.inr (Or.inl ⟨u0.trans h0, by rw [e1, e2]; exact h⟩)))
  · exact Or.inr (Or.inr (Or.inr (Or.inr (Or.inl ⟨u0.trans h0, h⟩))))
  · have e1 := u1 (by rw [h0]; exact n0i (by omega) (by omega) (by omega)) (by rw [h0]; exact n0i (by omega) (by omega) (by omega))
    obtain ⟨e6, e7⟩ := u6 h0
    refine Or.inr (Or.inr (Or.inr (Or.inr (Or.inr (Or.inl ⟨u0.trans h0, ?_⟩)))))
    rw [e1, e6]
    rcases h with h | h | ⟨h6, h⟩
    · exact Or.inl h
    · exact Or.inr (Or.inl h)
    · rw [e7 h6]
      exact Or.inr (Or.inr ⟨h6, h⟩)
  · have e1 := u1 (by rw [h0]; exact n0i (by omega) (by omega) (by omega)) (by rw [h0]; exact n0i (by omega) (by omega) (by omega))
    exact Or.inr (Or.inr (Or.inr (Or.inr (Or.inr (Or.inr (Or.inl ⟨u0.trans h0, by rw [e1]; exact h⟩))))))
  · exact Or.inr (Or.inr (Or.inr (Or.inr (Or.inr (Or.inr (Or.inr ⟨u0.trans h0, h⟩))))))
theorem Ser_use {B : Nat} (hz : ∀ s, s < B → useF (z s) (z' s)) : ∀ (n a b p q : Nat), b ≤ B → Ser W C z eo ea eb em n a b p q → Ser W C z' eo ea eb em n a b p q
  | 0, _, _, _, _, _, hs => hs
  | n + 1, a, b, p, q, hb, hs => by
    rcases hs with hs | ⟨h1, h2, h3, h4, h5⟩
    · exact Or.inl hs
    · have ez := hz a (by omega)
      refine Or.inr ⟨h1, h2, stepOk_use ez h3, entOk_use ez h4, ?_⟩
      rw [ez.1, ez.2.1]
      rcases h5 with ⟨g1, g2, g3, g4⟩ | ⟨g1, k, e, g2, g3, g4, g5, g6, g7, g8, g9, g10, g11⟩
      · exact Or.inl ⟨g1, g2, g3, Ser_use hz n _ _ _ _ hb g4⟩
      · exact Or.inr ⟨g1, k, e, g2, g3, g4, g5, g6, g7, g8, g9, Ser_use hz n _ _ _ _ (by omega) g10, Ser_use hz n _ _ _ _ hb g11⟩
theorem Wel_use {B : Nat} (hz : ∀ s, s < B → useF (z s) (z' s)) : ∀ (n d a b : Nat), b ≤ B → Wel W C z n d a b → Wel W C z' n d a b
  | 0, _, _, _, _, h => h
  | n + 1, d, a, b, hb, h => by
    rcases h with h | ⟨h1, h2, h3⟩
    · exact Or.inl h
    · have ez := hz a (by omega)
      refine Or.inr ⟨h1, stepOk_use ez h2, ?_⟩
      rw [ez.1, ez.2.1]
      rcases h3 with ⟨g1, g2, g3, g4⟩ | ⟨g1, k, g2, g3, g4, g5, g6, g7⟩
      · exact Or.inl ⟨g1, g2, g3, Wel_use hz n _ _ _ hb g4⟩
      · exact Or.inr ⟨g1, k, g2, g3, g4, g5, Wel_use hz n _ _ _ (by omega) g6, Wel_use hz n _ _ _ hb g7⟩
end
section
variable {M M' M1 : kx_M} {T : Nat → Nat} {n : Nat} {σ : Sg} {c : Cs} {x : Cl} {y : De}
theorem CZ_use {d W C K : Nat} {z z' : Nat → Nat → Int32} (hz : ∀ s, s < K → useF (z s) (z' s)) (h : CZ M d W C (true, K, z)) : CZ M d W C (true, K, z') := by
  refine ⟨h.1, fun _ => ?_⟩
  obtain ⟨h1, E, h2, h3, h4⟩ := h.2 rfl
  exact ⟨h1, E, h2, h3, Ser_use hz _ _ _ _ _ (Nat.le_refl _) h4⟩
theorem CZ_C {s d : Nat} (hO : OkC x) (hP : OkD (cW x) y) (hn : n ≤ 300) (hp : pCen T n x y = .ok c) (h : CSt M s d T n x y c) (h4 : mI M d 4 = nI 1) : CZ M d (cW x) (dC y) (true, vvK c, zI (vvZ c)) := by
  obtain ⟨k1, k2, k3, k4⟩ := pCen_ok hO hP hn hp
  obtain ⟨⟨-, ⟨s1, s2, s3⟩, -, -⟩, -, -⟩ := h
  refine ⟨h4, fun _ => ⟨s1, vvE c, k2, s2, ?_⟩⟩
  exact Ser_congr (Q := vvE c) (fun k hk => s3 k hk) _ _ _ _ _ (Nat.le_refl _) k3
theorem IC_ceE {s t : Nat} {st a b : Int32} (h : IC M σ) (hK : KN M s t) (hF : Fr (fun id => id = 0 ∨ id = 8 ∨ id = 9 ∨ id = 12 ∨ (t + 15 ≤ id ∧ id ≤ t + 19)) M M') (h0 : ∀ k, k ≠ 11 → k ≠ 13 → k ≠ 14 → k ≠ 15 → mI M' 0 k = mI M 0 k) (hj : ∀ k, mJ M' 0 k = mJ M 0 k) (hr : ∀ k, mR M' 0 k = mR M 0 k) (h11 : mI M' 0 11 = nI 0) (h13 : mI M' 0 13 = st) (h14 : mI M' 0 14 = a) (h15 : mI M' 0 15 = b) : IC M' (wE (wP (wS σ st) 0 (gP σ).2) a b) := by
  obtain ⟨hO, s1, t1, hK1, hS, ⟨a1, a2, a3, a4, a5⟩, hT, ⟨b1, b2⟩, ⟨c1, c2⟩, ⟨d1, d2⟩, hk, hw⟩ := h
  have es : s1 = s := hK1.1.symm.trans hK.1
  have et : t1 = t := hK1.2.1.symm.trans hK.2.1
  subst es et
  have ap := hK.ap
  have ap2 := hK.2.2
  have hO' : OkG (wE (wP (wS σ st) 0 (gP σ).2) a b) := ⟨hO.1, hO.2.1, hO.2.2.1, hO.2.2.2.1, Nat.zero_le _, fun k hk => absurd hk (Nat.not_lt_zero _)⟩
  refine ⟨hO', s1, t1, ⟨(hr 9).trans hK1.1, (hr 10).trans hK1.2.1, hK1.2.2⟩, CS_fr hF (fun id h1 h2 e => by omega) hS, ⟨h13, (hj 17).trans a2, (hj 18).trans a3, h14, h15⟩, fun q hq => CT_fr hF (by omega) (by omega) (hT q hq), ⟨h11, fun k hk => absurd hk (Nat.not_lt_zero _)⟩, ⟨(h0 12 (by omega) (by omega) (by omega) (by omega)).trans c1, fun i hi => CS_fr hF (fun id h1 h2 e => by omega) (c2 i hi)⟩, ⟨(h0 16 (by omega) (by omega) (by omega) (by omega)).trans d1, fun e => ?_⟩, ?_, ?_⟩
  · obtain ⟨f, -⟩ := hF 23 (by omega)
    rw [f, f, f, f, f]; exact d2 e
  · rw [(hF 6 (by omega)).2.2.2.1, (hF 10 (by omega)).2.2.2.1]; exact hk
  · obtain ⟨-, -, -, -, r⟩ := hF 13 (by omega)
    rw [r, r]; exact hw
theorem IC_ceO {s t : Nat} {z : Sc} (h : IC M σ) (hK : KN M s t) (hF : Fr (fun id => id = 0 ∨ id = 8 ∨ id = 9 ∨ id = 12 ∨ (t + 15 ≤ id ∧ id ≤ t + 19) ∨ (s + 15 ≤ id ∧ id ≤ s + 19)) M M') (h0 : ∀ k, k ≠ 11 → k ≠ 13 → k ≠ 14 → k ≠ 15 → mI M' 0 k = mI M 0 k) (hj : ∀ k, mJ M' 0 k = mJ M 0 k) (hr : ∀ k, mR M' 0 k = mR M 0 k) (h11 : mI M' 0 11 = nI 0) (h13 : mI M' 0 13 = nI 0) (h14 : mI M' 0 14 = nI 0) (h15 : mI M' 0 15 = -nI 1) (hZ : CZ M' (s + 15) (cW (gX σ)) (dC (gY σ)) z) (hu : OkSt (gX σ, gY σ, z)) : IC M' (wE (wNow (wP (wS σ (nI 0)) 0 (gP σ).2) (gX σ, gY σ, z)) (nI 0) (-nI 1)) := by
  obtain ⟨hO, s1, t1, hK1, hS, ⟨a1, a2, a3, a4, a5⟩, hT, ⟨b1, b2⟩, ⟨c1, c2⟩, ⟨d1, d2⟩, hk, hw⟩ := h
  have es : s1 = s := hK1.1.symm.trans hK.1
  have et : t1 = t := hK1.2.1.symm.trans hK.2.1
  subst es et
  have ap := hK.ap
  have ap2 := hK.2.2
  have hO' : OkG (wE (wNow (wP (wS σ (nI 0)) 0 (gP σ).2) (gX σ, gY σ, z)) (nI 0) (-nI 1)) := ⟨hu, hO.2.1, hO.2.2.1, hO.2.2.2.1, Nat.zero_le _, fun k hk => absurd hk (Nat.not_lt_zero _)⟩
  refine ⟨hO', s1, t1, ⟨(hr 9).trans hK1.1, (hr 10).trans hK1.2.1, hK1.2.2⟩, ⟨CC_fr hF (fun id h1 h2 e => by omega) hS.1, CD_fr hF (fun id h1 h2 e => by omega) hS.2.1, hZ⟩, ⟨h13, (hj 17).trans a2, (hj 18).trans a3, h14, h15⟩, fun q hq => CT_fr hF (by omega) (by omega) (hT q hq), ⟨h11, fun k hk => absurd hk (Nat.not_lt_zero _)⟩, ⟨(h0 12 (by omega) (by omega) (by omega) (by omega)).trans c1, fun i hi => CS_fr hF (fun id h1 h2 e => by omega) (c2 i hi)⟩, ⟨(h0 16 (by omega) (by omega) (by omega) (by omega)).trans d1, fun e => ?_⟩, ?_, ?_⟩
  · obtain ⟨f, -⟩ := hF 23 (by omega)
    rw [f, f, f, f, f]; exact d2 e
  · rw [(hF 6 (by omega)).2.2.2.1, (hF 10 (by omega)).2.2.2.1]; exact hk
  · obtain ⟨-, -, -, -, r⟩ := hF 13 (by omega)
    rw [r, r]; exact hw
theorem ix_f2 {p : Int32} {N : Nat} (hN : N < 2147483648) (h : ix p N = false) (h0 : ¬ p < nI 0) : ¬ p.toInt < (N : Int) := by
  intro h1
  rcases ix_f hN h with h2 | h2
  · exact h0 h2
  · exact h2 ((i32_lt p hN).mpr h1)
theorem pC_centuries (p : Int32) : ∀ (M : kx_M) (σ : Sg), IC M σ → ∃ M', (∀ z, f_KT_centuries p M = some ((o_centuries z p σ).1, M')) ∧ (∀ z, zOk z p σ → IC M' (o_centuries z p σ).2) ∧ Hi M M' := by
  intro M σ h
  have hh := h
  obtain ⟨hO, s, t, hK, hS, -, -, ⟨b1, b2⟩, -, -, hk, -⟩ := hh
  have ap := hK.ap
  have ap2 := hK.2.2
  have hap : apC s (t + 15) := by unfold apC; omega
  have h900 := hO.2.2.2.2.1
  have h255 := hO.2.2.2.2.2
  obtain ⟨u1, u2, u3, u4⟩ := hO.1
  rw [f_KT_centuries]
  unfold o_centuries zOk
  cases hx : (ix p ((gP σ).1 + 1) && ix p 301) with
  | false =>
    refine ⟨sI M 0 13 (nI 5), fun z => ?_, fun z _ => ?_, Hi_st⟩
    · rw [z_itf]
      by_cases h0 : p < nI 0
      · have z : (p < nI 0) = True := eq_true h0
        simp (disch := first | assumption | omega) only [z_bdn, z_caln, z_gdn, z_iT, z_iF, z_le_t, z_le_f, z_lt_t, z_lt_f, z_cl, z_inb, z_at, z_pl, z_lit, nI_ii1, nI_add, z_mr, z_ref0, z_refn, z_eq_f, Bool.not_true, Bool.not_false, b2i_t, b2i_f, z]
      · have z : (p < nI 0) = False := eq_false h0
        by_cases h1 : nI (gP σ).1 < p
        · have z1 : (nI (gP σ).1 < p) = True := eq_true h1
          simp (disch := first | assumption | omega) only [z_bdn, z_caln, z_gdn, z_iT, z_iF, z_le_t, z_le_f, z_lt_t, z_lt_f, z_cl, z_inb, z_at, z_pl, z_lit, nI_ii1, nI_add, z_mr, z_ref0, z_refn, z_eq_f, Bool.not_true, Bool.not_false, b2i_t, b2i_f, z, b1, z1]
        · have z1 : (nI (gP σ).1 < p) = False := eq_false h1
          have h2 : ¬ p ≤ nI 300 := fun h2 => by
            have h1 : ¬ ((gP σ).1 : Int) < p.toInt := fun e => h1 (Int32.lt_iff_toInt_lt.mpr (by rw [nI_toInt (by omega)]; exact e))
            have h2 := Int32.le_iff_toInt_le.mp h2
            rw [nI_toInt (by omega)] at h2
            cases hx1 : ix p ((gP σ).1 + 1) with
            | false => have := ix_f2 (by omega) hx1 h0; omega
            | true =>
              rw [hx1, Bool.true_and] at hx
              have := ix_f2 (by omega) hx h0
              omega
          have z2 : (p ≤ nI 300) = False := eq_false h2
          simp (disch := first | assumption | omega) only [z_bdn, z_caln, z_gdn, z_iT, z_iF, z_le_t, z_le_f, z_lt_t, z_lt_f, z_cl, z_inb, z_at, z_pl, z_lit, nI_ii1, nI_add, z_mr, z_ref0, z_refn, z_eq_f, Bool.not_true, Bool.not_false, b2i_t, b2i_f, z, b1, z1, z2]
    · rw [z_itf]; exact IC_st (nI 5) h
  | true =>
    rw [Bool.and_eq_true] at hx
    obtain ⟨hx1, hx2⟩ := hx
    obtain ⟨n, hn, rfl⟩ := ix_ex (by omega) hx1
    obtain ⟨m, hm, em⟩ := ix_ex (by omega) hx2
    have hnm : n = m := (nI_eq (by omega) (by omega)).mp em
    subst hnm
    have e1 : (nI n).toNatClampNeg = n := z_cl (by omega)
    simp only [z_itt, e1, true_implies, forall_const]
    have g := q_cparse (M := sI M 0 11 (nI 0)) (T := (gP σ).2) (n := n) hap u1 u3 (CC_fr (p := fun id => id = 0) (Fr.sI rfl) (fun id h1 h2 e => by omega) hS.1) (CD_fr (p := fun id => id = 0) (Fr.sI rfl) (fun id h1 h2 e => by omega) hS.2.1) (by omega) (fun i hi => ⟨b2 i (by omega), h255 i (by omega)⟩) (fun k hk2 => (hk k hk2).2)
    have r9 : mR (sI M 0 11 (nI 0)) 0 9 = s := hK.1
    have r10 : mR (sI M 0 11 (nI 0)) 0 10 = t := hK.2.1
    cases hp : pCen (gP σ).2 n (gX σ) (gY σ) with
    | error e =>
      have hp2 : pCen (gP σ).2 n (gN σ).1 (gN σ).2.1 = .error e := hp
      rw [hp2] at g
      obtain ⟨M1, a1, ⟨a2, a3⟩, a4⟩ := g
      have g0 := a4 0 (fun e => by unfold inCc at e; omega)
      obtain ⟨M', hM⟩ : ∃ M', M' = sI (sI (sI M1 0 14 (nI e.1)) 0 15 (nI e.2)) 0 13 (nI 10) := ⟨_, rfl⟩
      have hF : Fr (fun id => id = 0 ∨ id = 8 ∨ id = 9 ∨ id = 12 ∨ (t + 15 ≤ id ∧ id ≤ t + 19)) M M' := by
        rw [hM]
        exact Fr.tr (Fr.sI (Or.inl rfl)) ((a4.mono (fun id e => by unfold inCc at e; omega)).tr (Fr.tr (Fr.sI (Or.inl rfl)) (Fr.tr (Fr.sI (Or.inl rfl)) (Fr.sI (Or.inl rfl)))))
      have key : f_KT_centuries (nI n) M = some (-nI 1, M') := by
        have s11 : mI (sI M1 0 14 (nI e.1)) 9 11 = nI e.2 := a3
        have hz : ∀ M, f_KT_refused (nI 10) M = some (nI 1, sI M 0 13 (nI 10)) := fun M => z_refn (by omega) (by omega) M
        rw [f_KT_centuries, hM]
        simp (disch := first | assumption | omega) only [z_bdn, z_caln, z_gdn, z_iT, z_iF, z_le_t, z_le_f, z_lt_t, z_lt_f, z_cl, z_inb, z_at, z_pl, z_lit, nI_ii1, nI_add, z_mr, z_ref0, z_refn, z_eq_f, Bool.not_true, Bool.not_false, b2i_t, b2i_f, b1, nI_pos0, r9, r10, hK.s1, hK.s2, a1, f_KT_told, f_KT_told_l13, a2, s11, hz]
      rw [f_KT_centuries] at key
      refine ⟨M', fun z => key, fun z _ => IC_ceE h hK hF (fun k h1 h2 h3 h4 => ?_) (fun k => ?_) (fun k => ?_) ?_ ?_ ?_ ?_, hF.mono (fun id e => by show id < 135; omega)⟩
      · rw [hM, m_same, if_neg h2, m_same, if_neg h4, m_same, if_neg h3, g0.1, m_same, if_neg h1]
      · rw [hM]; exact g0.2.1 k
      · rw [hM]; exact g0.2.2.2.2 k
      · rw [hM, m_same, m_same, m_same]
        exact (g0.1 11).trans rfl
      · rw [hM, m_same]; rfl
      · rw [hM, m_same, m_same, m_same]; rfl
      · rw [hM, m_same, m_same]; rfl
    | ok c =>
      have hp2 : pCen (gP σ).2 n (gN σ).1 (gN σ).2.1 = .ok c := hp
      rw [hp2] at g
      obtain ⟨M1, a1, aC, a4i, a4⟩ := g
      have g0 := a4 0 (fun e => by unfold inCc at e; omega)
      obtain ⟨k1, k2, k3, k4⟩ := pCen_ok u1 u3 (by omega) hp2
      obtain ⟨M2, hM⟩ : ∃ M2, M2 = sI (sI (sI M1 0 14 (nI 0)) 0 15 (-nI 1)) 0 13 (nI 0) := ⟨_, rfl⟩
      have hF1 : Fr (fun id => id = 0) M1 M2 := by
        rw [hM]
        exact Fr.tr (Fr.sI rfl) (Fr.tr (Fr.sI rfl) (Fr.sI rfl))
      have hZ1 := CZ_fr hF1 (fun id h1 h2 e => by omega) (CZ_C u1 u3 (by omega) hp2 aC a4i)
      obtain ⟨M3, c1, c2, c3⟩ := q_Zcopy (c2 := s + 15) hZ1 (by omega)
      have f0 := c3 0 (fun e => by unfold inZ at e; omega)
      have hF : Fr (fun id => id = 0 ∨ id = 8 ∨ id = 9 ∨ id = 12 ∨ (t + 15 ≤ id ∧ id ≤ t + 19) ∨ (s + 15 ≤ id ∧ id ≤ s + 19)) M M3 := Fr.tr (Fr.sI (Or.inl rfl)) ((a4.mono (fun id e => by unfold inCc at e; omega)).tr ((hF1.mono (fun id e => Or.inl e)).tr (c3.mono (fun id e => by unfold inZ at e; omega))))
      have m9 : ∀ k, mR M1 0 k = mR M 0 k := fun k => g0.2.2.2.2 k
      have m92 : ∀ k, mR M2 0 k = mR M 0 k := fun k => by rw [hM]; exact m9 k
      have m93 : ∀ k, mR M3 0 k = mR M 0 k := fun k => (f0.2.2.2.2 k).trans (m92 k)
      have key : f_KT_centuries (nI n) M = some (nI (vvK c), M3) := by
        have s9 : mR M2 0 9 = s := (m92 9).trans hK.1
        have s10 : mR M2 0 10 = t := (m92 10).trans hK.2.1
        have t9 : mR M3 0 9 = s := (m93 9).trans hK.1
        have e7 : mI M3 (s + 15) 5 = nI (vvK c) := (c2.2 rfl).1
        rw [f_KT_centuries]
        simp (disch := first | assumption | omega) only [z_bdn, z_caln, z_gdn, z_iT, z_iF, z_le_t, z_le_f, z_lt_t, z_lt_f, z_cl, z_inb, z_at, z_pl, z_lit, nI_ii1, nI_add, z_mr, z_ref0, z_refn, z_eq_f, Bool.not_true, Bool.not_false, b2i_t, b2i_f, b1, nI_pos0, r9, r10, hK.s1, hK.s2, a1, f_KT_told, f_KT_told_l13, ← hM, s9, s10, c1, t9, e7]
      rw [f_KT_centuries] at key
      refine ⟨M3, fun z => key, fun z hz => IC_ceO h hK hF (fun k h1 h2 h3 h4 => ?_) (fun k => ?_) m93 ?_ ?_ ?_ ?_ (CZ_use (hz c rfl) c2) ⟨u1, u2, u3, fun _ => ⟨k1, Wel_use (hz c rfl) _ _ _ _ (Nat.le_refl _) k4⟩⟩, hF.mono (fun id e => by show id < 135; omega)⟩
      · rw [f0.1, hM, m_same, if_neg h2, m_same, if_neg h4, m_same, if_neg h3, g0.1, m_same, if_neg h1]
      · rw [f0.2.1, hM]; exact g0.2.1 k
      · rw [f0.1, hM, m_same, m_same, m_same]
        exact (g0.1 11).trans rfl
      · rw [f0.1, hM, m_same]; rfl
      · rw [f0.1, hM, m_same, m_same, m_same]; rfl
      · rw [f0.1, hM, m_same, m_same]; rfl
end
