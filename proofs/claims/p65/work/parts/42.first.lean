def fsF (p : Nat → Bool) : Nat → Nat → Option Nat
  | 0, _ => none
  | m + 1, j => if p j = true then some j else fsF p m (j + 1)
theorem fsF_t {p : Nat → Bool} {m j : Nat} (h : p j = true) : fsF p (m + 1) j = some j := if_pos h
theorem fsF_f {p : Nat → Bool} {m j : Nat} (h : p j = false) : fsF p (m + 1) j = fsF p m (j + 1) := if_neg (by rw [h]; decide)
theorem fsF_some {p : Nat → Bool} : ∀ (m j r : Nat), fsF p m j = some r → j ≤ r ∧ r < j + m ∧ p r = true ∧ ∀ k, j ≤ k → k < r → p k = false
  | 0, _, _, h => by cases h
  | m + 1, j, r, h => by
    cases hp : p j
    · rw [fsF_f hp] at h
      obtain ⟨a, b, c, d⟩ := fsF_some m (j + 1) r h
      refine ⟨by omega, by omega, c, fun k h1 h2 => ?_⟩
      by_cases hk : k = j
      · rw [hk]; exact hp
      · exact d k (by omega) h2
    · rw [fsF_t hp] at h
      cases h
      exact ⟨Nat.le_refl _, by omega, hp, fun k h1 h2 => by omega⟩
section
variable {M M' : kx_M} {σ : Sg} {x : Cl} {y : De}
end
