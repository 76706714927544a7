-- 23.inv.lean.txt
def Lo (M M' : kx_M) : Prop := Fr (fun id => 135 ≤ id) M M'
-- 23.inv.lean.txt
theorem IC_lo {M M' : kx_M} {σ : Sg} (hF : Lo M M') (h : IC M σ) : IC M' σ := IC_fr hF (fun _ _ _ _ e => Or.inl e) h
-- 42.first.lean.txt
def itF : Nat → Cl → Cl
  | 0, z => z
  | n + 1, z => itF n (yearX z)
-- 42.first.lean.txt
theorem itF_s : ∀ (n : Nat) (z : Cl), itF (n + 1) z = yearX (itF n z)
  | 0, _ => rfl
  | n + 1, z => itF_s n (yearX z)
-- 42.first.lean.txt
theorem lostF_iff {y : De} {k : Nat} : ∀ (m t : Nat) (z : Cl) (r : Nat), lostF y k m t z = some r ↔ ∃ d, r = t + d ∧ d < m ∧ sdAny (itF d z) y k = false ∧ ∀ e, e < d → sdAny (itF e z) y k = true
  | 0, t, z, r => ⟨(fun h => by cases h), (fun ⟨d, _, h, _⟩ => by omega)⟩
  | m + 1, t, z, r => by
    show (if sdAny z y k = false then some t else lostF y k m (t + 1) (yearX z)) = some r ↔ _
    by_cases h : sdAny z y k = false
    · rw [if_pos h]
      constructor
      · intro e
        cases e
        exact ⟨0, rfl, by omega, h, fun e he => by omega⟩
      · rintro ⟨d, h1, h2, h3, h4⟩
        cases d with
        | zero => rw [h1]; rfl
        | succ d =>
          have := h4 0 (by omega)
          rw [show itF 0 z = z from rfl, h] at this
          cases this
    · rw [if_neg h, lostF_iff m (t + 1) (yearX z) r]
      constructor
      · rintro ⟨d, h1, h2, h3, h4⟩
        refine ⟨d + 1, by omega, by omega, h3, fun e he => ?_⟩
        cases e with
        | zero =>
          show sdAny z y k = true
          cases hh : sdAny z y k
          · exact absurd hh h
          · rfl
        | succ e => exact h4 e (by omega)
      · rintro ⟨d, h1, h2, h3, h4⟩
        cases d with
        | zero => exact absurd h3 h
        | succ d => exact ⟨d, by omega, by omega, h3, fun e he => h4 (e + 1) (by omega)⟩
-- 42.first.lean.txt
theorem lostN_iff {x : Cl} {y : De} {k r : Nat} : lostN x y k = some r ↔ r < 100 ∧ sdAny (itF r x) y k = false ∧ ∀ e, e < r → sdAny (itF e x) y k = true := by
  unfold lostN
  rw [lostF_iff]
  constructor
  · rintro ⟨d, h1, h2, h3, h4⟩
    obtain rfl : r = d := by omega
    exact ⟨h2, h3, h4⟩
  · rintro ⟨h2, h3, h4⟩
    exact ⟨r, by omega, h2, h3, h4⟩
-- 52.vec.lean.txt
theorem sumN_pg (d : Nat) (g : Nat → Nat) : ∀ n, sumN (fun t => if d = t then g t else 0) n = if d < n then g d else 0
  | 0 => by rw [if_neg (by omega)]; rfl
  | n + 1 => by
    show sumN (fun t => if d = t then g t else 0) n + (if d = n then g n else 0) = _
    rw [sumN_pg d g n]
    by_cases h1 : d < n
    · rw [if_pos h1, if_neg (by omega), if_pos (by omega)]; rfl
    · by_cases h2 : d = n
      · rw [if_neg h1, if_pos h2, if_pos (by omega), Nat.zero_add, h2]
      · rw [if_neg h1, if_neg h2, if_neg (by omega)]
-- 59n.mlife.lean.txt
theorem nI_ofI {v : Int32} {n : Nat} (h : n < 2147483648) (e : v.toInt = (n : Int)) : v = nI n := Int32.toInt_inj.mp (e.trans (nI_toInt (by omega)).symm)
-- 59n.mlife.lean.txt
theorem nI_div {a b : Nat} (ha : a < 2147483648) (hb : b < 2147483648) : nI a / nI b = nI (a / b)   := nI_ofI (Nat.lt_of_le_of_lt (Nat.div_le_self a b) ha) (by
  have h1 := Nat.div_le_self a b
  rw [Int32.toInt_div, nI_toInt (by omega), nI_toInt (by omega), ← Int.ofNat_tdiv]
  generalize a / b = q at h1 ⊢
  exact Int.bmod_eq_of_le (by omega) (by omega))
