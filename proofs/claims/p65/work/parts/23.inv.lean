abbrev Sc : Type := Bool × Nat × (Nat → Nat → Int32)
abbrev St : Type := Cl × De × Sc
abbrev Tr : Type := Bool × Nat × Nat × (Nat → Int64)
abbrev Sg : Type := Int32 × (Int64 × Int64) × (Int32 × Int32) × (Nat → Tr) × (Nat × (Nat → Nat)) × St × (Nat × (Nat → St)) × (Bool × (Nat → Int32))
def gS (σ : Sg) : Int32 := σ.1
def gF (σ : Sg) : Int64 × Int64 := σ.2.1
def gE (σ : Sg) : Int32 × Int32 := σ.2.2.1
def gT (σ : Sg) : Nat → Tr := σ.2.2.2.1
def gP (σ : Sg) : Nat × (Nat → Nat) := σ.2.2.2.2.1
def gN (σ : Sg) : St := σ.2.2.2.2.2.1
def gX (σ : Sg) : Cl := (gN σ).1
def gY (σ : Sg) : De := (gN σ).2.1
def gZ (σ : Sg) : Sc := (gN σ).2.2
def gK (σ : Sg) : Nat × (Nat → St) := σ.2.2.2.2.2.2.1
def gL (σ : Sg) : Bool × (Nat → Int32) := σ.2.2.2.2.2.2.2
def wS (σ : Sg) (v : Int32) : Sg := (v, σ.2)
def wE (σ : Sg) (a b : Int32) : Sg := (gS σ, gF σ, (a, b), gT σ, gP σ, gN σ, gK σ, gL σ)
def wT (σ : Sg) (f : Nat → Tr) : Sg := (gS σ, gF σ, gE σ, f, gP σ, gN σ, gK σ, gL σ)
def wP (σ : Sg) (n : Nat) (f : Nat → Nat) : Sg := (gS σ, gF σ, gE σ, gT σ, (n, f), gN σ, gK σ, gL σ)
def wNow (σ : Sg) (u : St) : Sg := (gS σ, gF σ, gE σ, gT σ, gP σ, u, gK σ, gL σ)
def wK (σ : Sg) (n : Nat) (f : Nat → St) : Sg := (gS σ, gF σ, gE σ, gT σ, gP σ, gN σ, (n, f), gL σ)
def wX (σ : Sg) (x : Cl) : Sg := wNow σ (x, gY σ, gZ σ)
def wYd (σ : Sg) (y : De) : Sg := wNow σ (gX σ, y, gZ σ)
/-- what a step may hold, with W columns and C clauses -/
def stepOk (W C : Nat) (f : Nat → Int32) : Prop :=
  (f 0 = nI 0 ∧ ∃ a, 1 ≤ a ∧ a ≤ 20 ∧ f 1 = nI a) ∨
  (f 0 = nI 1 ∧ ∃ a b, a < 12 ∧ b ≤ 1 ∧ f 1 = nI a ∧ f 2 = nI b) ∨
  (f 0 = nI 2 ∧ ∃ a b, a < 12 ∧ b < W ∧ f 1 = nI a ∧ f 2 = nI b) ∨
  (f 0 = nI 3 ∧ ∃ a b, a < 12 ∧ b < W ∧ f 1 = nI a ∧ f 2 = nI b) ∨
  (f 0 = nI 4) ∨
  (f 0 = nI 5 ∧ ((f 6 = nI 0 ∧ ∃ a, a < C ∧ f 1 = nI a) ∨ (f 6 = nI 1 ∧ ∃ a, a < 12 ∧ f 1 = nI a) ∨ (f 6 = nI 2 ∧ ∃ a b, a ≤ 99 ∧ (b = 60 ∨ b = 61 ∨ b = 62) ∧ f 1 = nI a ∧ f 7 = nI b))) ∨
  (f 0 = nI 6 ∧ ∃ a, 1 ≤ a ∧ a ≤ 99 ∧ f 1 = nI a) ∨
  (f 0 = nI 7)
/-- an entry that serves a step -/
def entOk (f : Nat → Int32) (o a b : Int32) : Prop :=
  (f 0 = nI 0 ∧ o = nI 14 ∧ a = f 1) ∨
  (f 0 = nI 1 ∧ o = nI 15 ∧ a = f 1 ∧ b = f 2) ∨
  (f 0 = nI 2 ∧ o = nI 16 ∧ a = f 1 ∧ b = f 2) ∨
  (f 0 = nI 3 ∧ o = nI 17 ∧ a = f 1 ∧ b = f 2) ∨
  (f 0 = nI 4 ∧ o = nI 18) ∨
  (f 0 = nI 5 ∧ ((f 6 = nI 0 ∧ o = nI 20 ∧ a = f 1) ∨ (f 6 = nI 1 ∧ o = nI 21 ∧ a = f 1) ∨ (f 6 = nI 2 ∧ o = nI 22 ∧ a = f 7 ∧ b = f 1))) ∨
  (f 0 = nI 6 ∧ o = nI 23 ∧ a = f 1) ∨
  (f 0 = nI 7 ∧ o = nI 25)
/-- the entries from p up to q serve the steps from a up to b -/
def Ser (W C : Nat) (z : Nat → Nat → Int32) (eo ea eb em : Nat → Int32) : Nat → Nat → Nat → Nat → Nat → Prop
  | 0, _, _, _, _ => False
  | n + 1, a, b, p, q => (a = b ∧ p = q) ∨ (a < b ∧ p < q ∧ stepOk W C (z a) ∧ entOk (z a) (eo p) (ea p) (eb p) ∧
      ((z a 0 ≠ nI 5 ∧ z a 0 ≠ nI 6 ∧ z a 8 = nI (a + 1) ∧ Ser W C z eo ea eb em n (a + 1) b (p + 1) q) ∨
       ((z a 0 = nI 5 ∨ z a 0 = nI 6) ∧ ∃ k e, z a 8 = nI k ∧ a < k ∧ k ≤ b ∧ p < e ∧ e < q ∧ eo e = nI 24 ∧ em p = nI e ∧ em e = nI p ∧ Ser W C z eo ea eb em n (a + 1) k (p + 1) e ∧ Ser W C z eo ea eb em n k b (e + 1) q)))
/-- the steps alone, from a up to b, at most d deep -/
def Wel (W C : Nat) (z : Nat → Nat → Int32) : Nat → Nat → Nat → Nat → Prop
  | 0, _, _, _ => False
  | n + 1, d, a, b => a = b ∨ (a < b ∧ stepOk W C (z a) ∧
      ((z a 0 ≠ nI 5 ∧ z a 0 ≠ nI 6 ∧ z a 8 = nI (a + 1) ∧ Wel W C z n d (a + 1) b) ∨
       ((z a 0 = nI 5 ∨ z a 0 = nI 6) ∧ ∃ k, z a 8 = nI k ∧ a < k ∧ k ≤ b ∧ 1 ≤ d ∧ Wel W C z n (d - 1) (a + 1) k ∧ Wel W C z n d k b)))
theorem Ser_congr {W C : Nat} {z : Nat → Nat → Int32} {eo ea eb em eo' ea' eb' em' : Nat → Int32} {Q : Nat} (h : ∀ k, k < Q → eo' k = eo k ∧ ea' k = ea k ∧ eb' k = eb k ∧ em' k = em k) : ∀ (n a b p q : Nat), q ≤ Q → Ser W C z eo ea eb em n a b p q → Ser W C z eo' ea' eb' em' n a b p q
  | 0, _, _, _, _, _, hs => hs
  | n + 1, a, b, p, q, hq, hs => by
    rcases hs with hs | ⟨h1, h2, h3, h4, h5⟩
    · exact Or.inl hs
    · refine Or.inr ⟨h1, h2, h3, ?_, ?_⟩
      · obtain ⟨e1, e2, e3, -⟩ := h p (by omega)
        rw [e1, e2, e3]; exact h4
      · rcases h5 with ⟨g1, g2, g3, g4⟩ | ⟨g1, k, e, g2, g3, g4, g5, g6, g7, g8, g9, g10, g11⟩
        · exact Or.inl ⟨g1, g2, g3, Ser_congr h n _ _ _ _ hq g4⟩
        · refine Or.inr ⟨g1, k, e, g2, g3, g4, g5, g6, ?_, ?_, ?_, Ser_congr h n _ _ _ _ (by omega) g10, Ser_congr h n _ _ _ _ hq g11⟩
          · rw [(h e (by omega)).1]; exact g7
          · rw [(h p (by omega)).2.2.2]; exact g8
          · rw [(h e (by omega)).2.2.2]; exact g9
def CZ (M : kx_M) (c W C : Nat) (z : Sc) : Prop := mI M c 4 = b2i z.1 ∧ (z.1 = true → mI M c 5 = nI z.2.1 ∧ ∃ E, E ≤ 60 ∧ mI M c 6 = nI E ∧ Ser W C z.2.2 (mA M (c + 1)) (mA M (c + 2)) (mA M (c + 3)) (mA M (c + 4)) 70 0 z.2.1 0 E)
def OkSt (u : St) : Prop := OkC u.1 ∧ cY u.1 ≤ 9999 ∧ OkD (cW u.1) u.2.1 ∧ (u.2.2.1 = true → u.2.2.2.1 ≤ 30 ∧ Wel (cW u.1) (dC u.2.1) u.2.2.2.2 31 3 0 u.2.2.2.1)
def CS (M : kx_M) (s : Nat) (u : St) : Prop := CC M (s + 9) u.1 ∧ CD M (s + 1) u.2.1 ∧ CZ M (s + 15) (cW u.1) (dC u.2.1) u.2.2
def tM (u : Tr) : Bool := u.1
def tS (u : Tr) : Nat := u.2.1
def tL (u : Tr) : Nat := u.2.2.1
def tV (u : Tr) : Nat → Int64 := u.2.2.2
def OkT (u : Tr) : Prop := tM u = false → tS u ≤ 3 ∧ tL u ≤ 60
def OkG (σ : Sg) : Prop := OkSt (gN σ) ∧ (gK σ).1 ≤ 3 ∧ (∀ i, i < (gK σ).1 → OkSt ((gK σ).2 i)) ∧ (∀ t, t < 4 → OkT (gT σ t)) ∧ (gP σ).1 ≤ 900 ∧ (∀ k, k < (gP σ).1 → (gP σ).2 k ≤ 255)
def knownL : List Int64 := [763013, 21484776, 18519214, 769516, 113301093, 307, 3540584, 7657651, 3657363, 18935, 375092, 546380, 3180933, 277893, 824370, 546188, 441992, 132686, 1497, 762030, 623908, 24395141, 719470021, 409072, 5572, 643568]
def CT (M : kx_M) (t : Nat) (u : Tr) : Prop := mI M (2 * t + 67) 1 = b2i (tM u) ∧ (tM u = false → mI M (2 * t + 67) 2 = nI (tS u) ∧ mI M (2 * t + 67) 3 = nI (tL u) ∧ ∀ k, k < tL u → mB M (2 * t + 68) k = tV u k)
/-- the class's side -/
def IC (M : kx_M) (σ : Sg) : Prop := OkG σ ∧ ∃ s t, KN M s t ∧ CS M s (gN σ) ∧
  (mI M 0 13 = gS σ ∧ mJ M 0 17 = (gF σ).1 ∧ mJ M 0 18 = (gF σ).2 ∧ mI M 0 14 = (gE σ).1 ∧ mI M 0 15 = (gE σ).2) ∧
  (∀ t, t < 4 → CT M t (gT σ t)) ∧
  (mI M 0 11 = nI (gP σ).1 ∧ ∀ k, k < (gP σ).1 → mA M 2 k = nI ((gP σ).2 k)) ∧
  (mI M 0 12 = nI (gK σ).1 ∧ ∀ i, i < (gK σ).1 → CS M (20 * i + 75) ((gK σ).2 i)) ∧
  (mI M 0 16 = b2i (gL σ).1 ∧ ((gL σ).1 = true → mI M 23 3 = (gL σ).2 0 ∧ mI M 23 4 = (gL σ).2 1 ∧ mI M 23 5 = (gL σ).2 2 ∧ mI M 23 6 = (gL σ).2 3 ∧ mI M 23 7 = (gL σ).2 4)) ∧
  (∀ k, k < 26 → mB M 6 k = knownL.getD k 0 ∧ mB M 10 k = knownL.getD k 0) ∧
  (mR M 13 4 = 16 ∧ mR M 13 5 = 17 ∨ mR M 13 4 = 17 ∧ mR M 13 5 = 16)
def Hi (M M' : kx_M) : Prop := Fr (fun id => id < 135) M M'
theorem CZ_fr {p : Nat → Prop} {M M' : kx_M} {c W C : Nat} {z : Sc} (h : Fr p M M') (hp : ∀ id, c ≤ id → id ≤ c + 4 → ¬ p id) (hC : CZ M c W C z) : CZ M' c W C z := by
  unfold CZ at hC ⊢
  have g0 := h c (hp c (by omega) (by omega))
  rw [(h (c + 1) (hp _ (by omega) (by omega))).2.2.1, (h (c + 2) (hp _ (by omega) (by omega))).2.2.1, (h (c + 3) (hp _ (by omega) (by omega))).2.2.1, (h (c + 4) (hp _ (by omega) (by omega))).2.2.1, g0.1, g0.1, g0.1]
  exact hC
theorem CS_fr {p : Nat → Prop} {M M' : kx_M} {s : Nat} {u : St} (h : Fr p M M') (hp : ∀ id, s ≤ id → id ≤ s + 19 → ¬ p id) (hC : CS M s u) : CS M' s u :=
  ⟨CC_fr h (fun id h1 h2 => hp id (by omega) (by omega)) hC.1, CD_fr h (fun id h1 h2 => hp id (by omega) (by omega)) hC.2.1, CZ_fr h (fun id h1 h2 => hp id (by omega) (by omega)) hC.2.2⟩
theorem CT_fr {p : Nat → Prop} {M M' : kx_M} {t : Nat} {u : Tr} (h : Fr p M M') (h1 : ¬ p (2 * t + 67)) (h2 : ¬ p (2 * t + 68)) (hC : CT M t u) : CT M' t u := by
  unfold CT at hC ⊢
  have g0 := h _ h1
  rw [g0.1, g0.1, g0.1, (h _ h2).2.2.2.1]
  exact hC
/-- all ids of the class's world but those of the trial and of the helpers -/
theorem IC_fr {p : Nat → Prop} {M M' : kx_M} {σ : Sg} (hF : Fr p M M') (hp : ∀ s t, KN M s t → ∀ id, p id → 135 ≤ id ∨ (t ≤ id ∧ id ≤ t + 19) ∨ (id < 27 ∧ id ≠ 0 ∧ id ≠ 2 ∧ id ≠ 6 ∧ id ≠ 10 ∧ id ≠ 13 ∧ id ≠ 23)) (h : IC M σ) : IC M' σ := by
  obtain ⟨hO, s, t, hK, hS, ⟨a1, a2, a3, a4, a5⟩, hT, ⟨b1, b2⟩, ⟨c1, c2⟩, ⟨d1, d2⟩, hk, hw⟩ := h
  have hp := hp s t hK
  have ha := hK.ap
  have n0 : ¬ p 0 := fun e => by have := hp 0 e; omega
  have n2 : ¬ p 2 := fun e => by have := hp 2 e; omega
  have n6 : ¬ p 6 := fun e => by have := hp 6 e; omega
  have n10 : ¬ p 10 := fun e => by have := hp 10 e; omega
  have n13 : ¬ p 13 := fun e => by have := hp 13 e; omega
  have n23 : ¬ p 23 := fun e => by have := hp 23 e; omega
  obtain ⟨f0, j0, -, -, r0⟩ := hF 0 n0
  refine ⟨hO, s, t, hK.fr hF n0, CS_fr hF (fun id h1 h2 e => by have := hp id e; omega) hS, ⟨?_, ?_, ?_, ?_, ?_⟩, fun q hq => CT_fr hF (fun e => by have := hp _ e; omega) (fun e => by have := hp _ e; omega) (hT q hq), ⟨?_, ?_⟩, ⟨?_, fun i hi => CS_fr hF (fun id h1 h2 e => by have := hO.2.1; have := hp id e; omega) (c2 i hi)⟩, ⟨?_, ?_⟩, ?_, ?_⟩
  · rw [f0]; exact a1
  · rw [j0]; exact a2
  · rw [j0]; exact a3
  · rw [f0]; exact a4
  · rw [f0]; exact a5
  · rw [f0]; exact b1
  · rw [(hF 2 n2).2.2.1]; exact b2
  · rw [f0]; exact c1
  · rw [f0]; exact d1
  · obtain ⟨f, -, -, -, -⟩ := hF 23 n23
    rw [f, f, f, f, f]; exact d2
  · rw [(hF 6 n6).2.2.2.1, (hF 10 n10).2.2.2.1]; exact hk
  · obtain ⟨-, -, -, -, r⟩ := hF 13 n13
    rw [r, r]; exact hw
theorem IC_st {M : kx_M} {σ : Sg} (v : Int32) (h : IC M σ) : IC (sI M 0 13 v) (wS σ v) := by
  obtain ⟨hO, s, t, hK, hS, ⟨a1, a2, a3, a4, a5⟩, hT, ⟨b1, b2⟩, ⟨c1, c2⟩, ⟨d1, d2⟩, hk, hw⟩ := h
  have ha := hK.ap
  have hF : Fr (fun id => id = 0) M (sI M 0 13 v) := Fr.sI rfl
  refine ⟨hO, s, t, hK, CS_fr hF (fun id h1 h2 e => by omega) hS, ⟨?_, a2, a3, ?_, ?_⟩, fun q hq => CT_fr hF (by omega) (by omega) (hT q hq), ⟨?_, b2⟩, ⟨?_, fun i hi => CS_fr hF (fun id h1 h2 e => by omega) (c2 i hi)⟩, ⟨?_, ?_⟩, hk, hw⟩
  · rw [mI_sI, if_pos ⟨rfl, rfl⟩]; rfl
  · rw [mI_sI, if_neg (by decide)]; exact a4
  · rw [mI_sI, if_neg (by decide)]; exact a5
  · rw [mI_sI, if_neg (by decide)]; exact b1
  · rw [mI_sI, if_neg (by decide)]; exact c1
  · rw [mI_sI, if_neg (by decide)]; exact d1
  · exact d2
theorem Hi_st {M : kx_M} {v : Int32} : Hi M (sI M 0 13 v) := Fr.sI (by decide)
/-- what a call of the class, of the reference must be -/
def PC {α : Type} (f : kx_M → Option (α × kx_M)) (o : Sg → α × Sg) : Prop := ∀ (M : kx_M) (σ : Sg), IC M σ → ∃ M', f M = some ((o σ).1, M') ∧ IC M' (o σ).2 ∧ Hi M M'
