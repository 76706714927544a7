/-! ## segments of steps -/
section
variable {W C : Nat} {z z' : Nat → Nat → Int32} {eo ea eb em eo' ea' eb' em' : Nat → Int32}
theorem Ser_le : ∀ (n a b p q : Nat), Ser W C z eo ea eb em n a b p q → a ≤ b ∧ p ≤ q
  | 0, _, _, _, _, h => False.elim h
  | n + 1, a, b, p, q, h => by
    rcases h with ⟨h1, h2⟩ | ⟨h1, h2, -⟩ <;> omega
theorem Ser_up : ∀ (n a b p q : Nat), Ser W C z eo ea eb em n a b p q → Ser W C z eo ea eb em (n + 1) a b p q
  | 0, _, _, _, _, h => False.elim h
  | n + 1, a, b, p, q, h => by
    rcases h with h | ⟨h1, h2, h3, h4, h5⟩
    · exact Or.inl h
    · refine Or.inr ⟨h1, h2, h3, h4, ?_⟩
      rcases h5 with ⟨g1, g2, g3, g4⟩ | ⟨g1, k, e, g2, g3, g4, g5, g6, g7, g8, g9, g10, g11⟩
      · exact Or.inl ⟨g1, g2, g3, Ser_up n _ _ _ _ g4⟩
      · exact Or.inr ⟨g1, k, e, g2, g3, g4, g5, g6, g7, g8, g9, Ser_up n _ _ _ _ g10, Ser_up n _ _ _ _ g11⟩
theorem Ser_mono {n m a b p q : Nat} (h : n ≤ m) (hS : Ser W C z eo ea eb em n a b p q) : Ser W C z eo ea eb em m a b p q := by
  induction m with
  | zero => obtain rfl : n = 0 := by omega
            exact hS
  | succ m ih =>
    by_cases he : n = m + 1
    · rw [← he]; exact hS
    · exact Ser_up _ _ _ _ _ (ih (by omega))
theorem Ser_app {m b c q r : Nat} (h2 : Ser W C z eo ea eb em (m + 1) b c q r) : ∀ (n a p : Nat), Ser W C z eo ea eb em (n + 1) a b p q → Ser W C z eo ea eb em (n + m + 1) a c p r
  | 0, a, p, h => by
    rcases h with ⟨rfl, rfl⟩ | ⟨h1, h3, h4, h5, h6⟩
    · exact Ser_mono (by omega) h2
    · rcases h6 with ⟨g1, g2, g3, g4⟩ | ⟨g1, k, e, g2, g3, g4, g5, g6, g7, g8, g9, g10, g11⟩
      · exact False.elim g4
      · exact False.elim g10
  | n + 1, a, p, h => by
    obtain ⟨l1, l2⟩ := Ser_le _ _ _ _ _ h2
    rcases h with ⟨rfl, rfl⟩ | ⟨h1, h3, h4, h5, h6⟩
    · exact Ser_mono (by omega) h2
    · rw [show n + 1 + m + 1 = (n + m + 1) + 1 by omega]
      refine Or.inr ⟨by omega, by omega, h4, h5, ?_⟩
      rcases h6 with ⟨g1, g2, g3, g4⟩ | ⟨g1, k, e, g2, g3, g4, g5, g6, g7, g8, g9, g10, g11⟩
      · exact Or.inl ⟨g1, g2, g3, Ser_app h2 n _ _ g4⟩
      · exact Or.inr ⟨g1, k, e, g2, g3, by omega, g5, by omega, g7, g8, g9, Ser_mono (by omega) g10, Ser_app h2 n _ _ g11⟩
theorem Ser_cong {Q B P A : Nat} (h : ∀ k, P ≤ k → k < Q → eo' k = eo k ∧ ea' k = ea k ∧ eb' k = eb k ∧ em' k = em k) (hz : ∀ s, A ≤ s → s < B → z' s = z s) : ∀ (n a b p q : Nat), P ≤ p → A ≤ a → q ≤ Q → b ≤ B → Ser W C z eo ea eb em n a b p q → Ser W C z' eo' ea' eb' em' n a b p q
  | 0, _, _, _, _, _, _, _, _, hs => hs
  | n + 1, a, b, p, q, hp, ha, hq, hb, hs => by
    rcases hs with hs | ⟨h1, h2, h3, h4, h5⟩
    · exact Or.inl hs
    · have ez := hz a ha (by omega)
      obtain ⟨e1, e2, e3, e4⟩ := h p hp (by omega)
      refine Or.inr ⟨h1, h2, by rw [ez]; exact h3, by rw [ez, e1, e2, e3]; exact h4, ?_⟩
      rw [ez]
      rcases h5 with ⟨g1, g2, g3, g4⟩ | ⟨g1, k, e, g2, g3, g4, g5, g6, g7, g8, g9, g10, g11⟩
      · exact Or.inl ⟨g1, g2, g3, Ser_cong h hz n _ _ _ _ (by omega) (by omega) hq hb g4⟩
      · refine Or.inr ⟨g1, k, e, g2, g3, g4, g5, g6, ?_, ?_, ?_, Ser_cong h hz n _ _ _ _ (by omega) (by omega) (by omega) (by omega) g10, Ser_cong h hz n _ _ _ _ (by omega) (by omega) hq hb g11⟩
        · rw [(h e (by omega) (by omega)).1]; exact g7
        · rw [e4]; exact g8
        · rw [(h e (by omega) (by omega)).2.2.2]; exact g9
theorem Wel_le : ∀ (n d a b : Nat), Wel W C z n d a b → a ≤ b
  | 0, _, _, _, h => False.elim h
  | n + 1, d, a, b, h => by
    rcases h with h1 | ⟨h1, -⟩ <;> omega
theorem Wel_up : ∀ (n d a b : Nat), Wel W C z n d a b → Wel W C z (n + 1) d a b
  | 0, _, _, _, h => False.elim h
  | n + 1, d, a, b, h => by
    rcases h with h | ⟨h1, h2, h3⟩
    · exact Or.inl h
    · refine Or.inr ⟨h1, h2, ?_⟩
      rcases h3 with ⟨g1, g2, g3, g4⟩ | ⟨g1, k, g2, g3, g4, g5, g6, g7⟩
      · exact Or.inl ⟨g1, g2, g3, Wel_up n _ _ _ g4⟩
      · exact Or.inr ⟨g1, k, g2, g3, g4, g5, Wel_up n _ _ _ g6, Wel_up n _ _ _ g7⟩
theorem Wel_mono {n m d a b : Nat} (h : n ≤ m) (hS : Wel W C z n d a b) : Wel W C z m d a b := by
  induction m with
  | zero => obtain rfl : n = 0 := by omega
            exact hS
  | succ m ih =>
    by_cases he : n = m + 1
    · rw [← he]; exact hS
    · exact Wel_up _ _ _ _ (ih (by omega))
theorem Wel_app {m d b c : Nat} (h2 : Wel W C z (m + 1) d b c) : ∀ (n a : Nat), Wel W C z (n + 1) d a b → Wel W C z (n + m + 1) d a c
  | 0, a, h => by
    rcases h with rfl | ⟨h1, h3, h6⟩
    · exact Wel_mono (by omega) h2
    · rcases h6 with ⟨g1, g2, g3, g4⟩ | ⟨g1, k, g2, g3, g4, g5, g6, g7⟩
      · exact False.elim g4
      · exact False.elim g6
  | n + 1, a, h => by
    have l1 := Wel_le _ _ _ _ h2
    rcases h with rfl | ⟨h1, h3, h6⟩
    · exact Wel_mono (by omega) h2
    · rw [show n + 1 + m + 1 = (n + m + 1) + 1 by omega]
      refine Or.inr ⟨by omega, h3, ?_⟩
      rcases h6 with ⟨g1, g2, g3, g4⟩ | ⟨g1, k, g2, g3, g4, g5, g6, g7⟩
      · exact Or.inl ⟨g1, g2, g3, Wel_app h2 n _ g4⟩
      · exact Or.inr ⟨g1, k, g2, g3, by omega, g5, Wel_mono (by omega) g6, Wel_app h2 n _ g7⟩
theorem Wel_cong {B A : Nat} (hz : ∀ s, A ≤ s → s < B → z' s = z s) : ∀ (n d a b : Nat), A ≤ a → b ≤ B → Wel W C z n d a b → Wel W C z' n d a b
  | 0, _, _, _, _, _, h => h
  | n + 1, d, a, b, ha, hb, h => by
    rcases h with h | ⟨h1, h2, h3⟩
    · exact Or.inl h
    · have ez := hz a ha (by omega)
      refine Or.inr ⟨h1, by rw [ez]; exact h2, ?_⟩
      rw [ez]
      rcases h3 with ⟨g1, g2, g3, g4⟩ | ⟨g1, k, g2, g3, g4, g5, g6, g7⟩
      · exact Or.inl ⟨g1, g2, g3, Wel_cong hz n _ _ _ (by omega) hb g4⟩
      · exact Or.inr ⟨g1, k, g2, g3, g4, g5, Wel_cong hz n _ _ _ (by omega) (by omega) g6, Wel_cong hz n _ _ _ (by omega) hb g7⟩
/-! a segment, in both senses; the open levels -/
def Sgm (W C : Nat) (z : Nat → Nat → Int32) (eo ea eb em : Nat → Int32) (d a b p q : Nat) : Prop := Ser W C z eo ea eb em (b - a + 1) a b p q ∧ Wel W C z (b - a + 1) d a b
def Lev (W C : Nat) (z : Nat → Nat → Int32) (eo ea eb em : Nat → Int32) : List (Nat × Nat) → Nat → Nat → Prop
  | [], k, e => Sgm W C z eo ea eb em 3 0 k 0 e
  | q :: L, k, e => Lev W C z eo ea eb em L q.1 q.2 ∧ q.1 < k ∧ q.2 < e ∧ L.length < 3 ∧ stepOk W C (z q.1) ∧ entOk (z q.1) (eo q.2) (ea q.2) (eb q.2) ∧ (z q.1 0 = nI 5 ∨ z q.1 0 = nI 6) ∧ Sgm W C z eo ea eb em (2 - L.length) (q.1 + 1) k (q.2 + 1) e
theorem Sgm_app {d a b c p q r : Nat} (h1 : Sgm W C z eo ea eb em d a b p q) (h2 : Sgm W C z eo ea eb em d b c q r) : Sgm W C z eo ea eb em d a c p r := by
  obtain ⟨l1, -⟩ := Ser_le _ _ _ _ _ h1.1
  obtain ⟨l2, -⟩ := Ser_le _ _ _ _ _ h2.1
  have g1 := Ser_app h2.1 _ _ _ h1.1
  have g2 := Wel_app h2.2 _ _ h1.2
  rw [show b - a + (c - b) + 1 = c - a + 1 by omega] at g1 g2
  exact ⟨g1, g2⟩
theorem Sgm_cong {d a b p q : Nat} (h : ∀ k, p ≤ k → k < q → eo' k = eo k ∧ ea' k = ea k ∧ eb' k = eb k ∧ em' k = em k) (hz : ∀ s, a ≤ s → s < b → z' s = z s) (hS : Sgm W C z eo ea eb em d a b p q) : Sgm W C z' eo' ea' eb' em' d a b p q := ⟨Ser_cong h hz _ _ _ _ _ (Nat.le_refl _) (Nat.le_refl _) (Nat.le_refl _) (Nat.le_refl _) hS.1, Wel_cong hz _ _ _ _ (Nat.le_refl _) (Nat.le_refl _) hS.2⟩
theorem Sgm_nil {d a p : Nat} : Sgm W C z eo ea eb em d a a p p := ⟨Or.inl ⟨rfl, rfl⟩, Or.inl rfl⟩
theorem Sgm_one {d k e : Nat} (h1 : stepOk W C (z k)) (h2 : entOk (z k) (eo e) (ea e) (eb e)) (h3 : z k 0 ≠ nI 5) (h4 : z k 0 ≠ nI 6) (h5 : z k 8 = nI (k + 1)) : Sgm W C z eo ea eb em d k (k + 1) e (e + 1) := by
  unfold Sgm
  rw [show k + 1 - k + 1 = 2 by omega]
  exact ⟨Or.inr ⟨by omega, by omega, h1, h2, Or.inl ⟨h3, h4, h5, Or.inl ⟨rfl, rfl⟩⟩⟩, Or.inr ⟨by omega, h1, Or.inl ⟨h3, h4, h5, Or.inl rfl⟩⟩⟩
theorem Sgm_body {d a k p e : Nat} (h1 : stepOk W C (z a)) (h2 : entOk (z a) (eo p) (ea p) (eb p)) (h3 : z a 0 = nI 5 ∨ z a 0 = nI 6) (h4 : z a 8 = nI k) (ha : a < k) (hp : p < e) (hd : 1 ≤ d) (h5 : eo e = nI 24) (h6 : em p = nI e) (h7 : em e = nI p) (hS : Sgm W C z eo ea eb em (d - 1) (a + 1) k (p + 1) e) : Sgm W C z eo ea eb em d a k p (e + 1) := by
  obtain ⟨g1, g2⟩ := hS
  rw [show k - (a + 1) + 1 = k - a by omega] at g1 g2
  obtain ⟨f, hf⟩ : ∃ f, k - a = f + 1 := ⟨k - a - 1, by omega⟩
  unfold Sgm
  rw [hf] at g1 g2 ⊢
  exact ⟨Or.inr ⟨ha, by omega, h1, h2, Or.inr ⟨h3, k, e, h4, ha, Nat.le_refl _, hp, by omega, h5, h6, h7, g1, Or.inl ⟨rfl, rfl⟩⟩⟩, Or.inr ⟨ha, h1, Or.inr ⟨h3, k, h4, ha, Nat.le_refl _, hd, g2, Or.inl rfl⟩⟩⟩
theorem Lev_cong : ∀ {L : List (Nat × Nat)} {k e : Nat}, (∀ i, i < e → eo' i = eo i ∧ ea' i = ea i ∧ eb' i = eb i ∧ em' i = em i) → (∀ s, s < k → z' s = z s) → Lev W C z eo ea eb em L k e → Lev W C z' eo' ea' eb' em' L k e
  | [], k, e, h, hz, hL => Sgm_cong (fun i _ hi => h i hi) (fun s _ hs => hz s hs) hL
  | q :: L, k, e, h, hz, ⟨h1, h2, h3, h4, h5, h6, h7, h8⟩ => by
    have ez := hz q.1 h2
    obtain ⟨e1, e2, e3, -⟩ := h q.2 h3
    exact ⟨Lev_cong (fun i hi => h i (by omega)) (fun s hs => hz s (by omega)) h1, h2, h3, h4, by rw [ez]; exact h5, by rw [ez, e1, e2, e3]; exact h6, by rw [ez]; exact h7, Sgm_cong (fun i _ hi => h i hi) (fun s _ hs => hz s hs) h8⟩
theorem Lev_ext : ∀ {L : List (Nat × Nat)} {k e k' e' : Nat}, Sgm W C z eo ea eb em (3 - L.length) k k' e e' → Lev W C z eo ea eb em L k e → Lev W C z eo ea eb em L k' e'
  | [], k, e, k', e', hS, hL => Sgm_app hL hS
  | q :: L, k, e, k', e', hS, ⟨h1, h2, h3, h4, h5, h6, h7, h8⟩ => by
    obtain ⟨l1, l2⟩ := Ser_le _ _ _ _ _ hS.1
    have hS : Sgm W C z eo ea eb em (3 - (L.length + 1)) k k' e e' := hS
    rw [show 3 - (L.length + 1) = 2 - L.length by omega] at hS
    exact ⟨h1, by omega, by omega, h4, h5, h6, h7, Sgm_app h8 hS⟩
theorem Lev_push {L : List (Nat × Nat)} {k e : Nat} (h : Lev W C z eo ea eb em L k e) (hl : L.length < 3) (h1 : stepOk W C (z k)) (h2 : entOk (z k) (eo e) (ea e) (eb e)) (h3 : z k 0 = nI 5 ∨ z k 0 = nI 6) : Lev W C z eo ea eb em ((k, e) :: L) (k + 1) (e + 1) := ⟨h, Nat.lt_succ_self _, Nat.lt_succ_self _, hl, h1, h2, h3, Sgm_nil⟩
theorem stepOk_8 {f f' : Nat → Int32} (h : ∀ j, j ≠ 8 → f' j = f j) (hf : stepOk W C f) : stepOk W C f' := by
  unfold stepOk at hf ⊢
  rw [h 0 (by decide), h 1 (by decide), h 2 (by decide), h 6 (by decide), h 7 (by decide)]
  exact hf
theorem entOk_8 {f f' : Nat → Int32} {o a b : Int32} (h : ∀ j, j ≠ 8 → f' j = f j) (hf : entOk f o a b) : entOk f' o a b := by
  unfold entOk at hf ⊢
  rw [h 0 (by decide), h 1 (by decide), h 2 (by decide), h 6 (by decide), h 7 (by decide)]
  exact hf
theorem Lev_end {L : List (Nat × Nat)} {q : Nat × Nat} {k e : Nat} (h : Lev W C z eo ea eb em (q :: L) k e) (hz : ∀ s, s ≠ q.1 → z' s = z s) (hq : ∀ j, j ≠ 8 → z' q.1 j = z q.1 j) (h8 : z' q.1 8 = nI k) (ho : ∀ i, i ≠ e → eo' i = eo i ∧ ea' i = ea i ∧ eb' i = eb i) (hm : ∀ i, i ≠ e → i ≠ q.2 → em' i = em i) (ho2 : eo' e = nI 24) (hm2 : em' q.2 = nI e) (hm3 : em' e = nI q.2) : Lev W C z' eo' ea' eb' em' L k (e + 1) := by
  obtain ⟨h1, h2, h3, h4, h5, h6, h7, hS⟩ := h
  have hc : Lev W C z' eo' ea' eb' em' L q.1 q.2 := Lev_cong (fun i hi => ⟨(ho i (by omega)).1, (ho i (by omega)).2.1, (ho i (by omega)).2.2, hm i (by omega) (by omega)⟩) (fun s hs => hz s (by omega)) h1
  refine Lev_ext ?_ hc
  have eq := ho q.2 (by omega)
  refine Sgm_body (stepOk_8 hq h5) (by rw [eq.1, eq.2.1, eq.2.2]; exact entOk_8 hq h6) (by rw [hq 0 (by decide)]; exact h7) h8 h2 h3 (by omega) ho2 hm2 hm3 ?_
  rw [show 3 - L.length - 1 = 2 - L.length by omega]
  exact Sgm_cong (fun i i1 i2 => ⟨(ho i (by omega)).1, (ho i (by omega)).2.1, (ho i (by omega)).2.2, hm i (by omega) (by omega)⟩) (fun s s1 s2 => hz s (by omega)) hS
end
