/-! ## the law's beginning -/
def x0 : Cl := ((6, 20, 0, 0), fun _ => 0, fun _ => 0, fun _ => 0, fun _ => 0, fun _ => 0)
def y0 : De := ((0, 0), fun _ => 0, fun _ => 0, fun _ => 0, fun _ => 0, fun _ => 0, fun _ => 0, fun _ => 0)
def s0 : St := (x0, y0, false, 0, fun _ _ => 0)
def σ0 : Sg := (0, (0, 1), (-1, -1), fun _ => (true, 0, 0, fun _ => 0), (0, fun _ => 0), s0, (0, fun _ => s0), (false, fun _ => 0))
theorem ok_s0 : OkSt s0 := by
  refine ⟨⟨⟨by decide, by decide⟩, ⟨by decide, by decide⟩, by decide, by decide, fun r h => absurd h (Nat.not_lt_zero _), fun r i h => absurd h (Nat.not_lt_zero _)⟩, by decide, ⟨by decide, by decide, fun q h => absurd h (Nat.not_lt_zero _), fun k h => absurd h (Nat.not_lt_zero _), fun k i h => absurd h (Nat.not_lt_zero _), fun k i h => absurd h (Nat.not_lt_zero _), fun k h => absurd h (Nat.not_lt_zero _), fun v q k _ h => absurd h (Nat.not_lt_zero _)⟩, fun h => absurd h (by decide)⟩
theorem ok_0 : OkG σ0 :=
  ⟨ok_s0, by decide, fun i h => absurd h (Nat.not_lt_zero _), fun t _ h => absurd (show true = false from h) (by decide), by decide, fun k h => absurd h (Nat.not_lt_zero _)⟩
theorem cs_0 : CS M0 27 s0 := by
  refine ⟨⟨rfl, rfl, rfl, rfl, fun r h => absurd h (Nat.not_lt_zero _), fun r i h => absurd h (Nat.not_lt_zero _)⟩, ⟨rfl, rfl, fun q h => absurd h (Nat.not_lt_zero _), fun k h => absurd h (Nat.not_lt_zero _), fun k i h => absurd h (Nat.not_lt_zero _), fun k i h => absurd h (Nat.not_lt_zero _), fun v q k _ h => absurd h (Nat.not_lt_zero _)⟩, rfl, fun h => absurd (show false = true from h) (by decide)⟩
theorem IC_0 : IC M0 σ0 := by
  refine ⟨ok_0, 27, 47, ⟨rfl, rfl, Or.inl ⟨rfl, rfl⟩⟩, cs_0, ⟨rfl, rfl, rfl, rfl, rfl⟩, fun t ht => ?_, ⟨rfl, fun k h => absurd h (Nat.not_lt_zero _)⟩, ⟨rfl, fun i h => absurd h (Nat.not_lt_zero _)⟩, ⟨rfl, fun h => absurd (show false = true from h) (by decide)⟩, fun k hk => by rw [m0B_6, m0B_10]; exact ⟨rd_known k hk, rd_known k hk⟩, Or.inl ⟨rfl, rfl⟩⟩
  have e : t = 0 ∨ t = 1 ∨ t = 2 ∨ t = 3 := by omega
  refine ⟨?_, fun h => absurd (show true = false from h) (by decide)⟩
  rcases e with rfl | rfl | rfl | rfl <;> rfl
theorem L0_0 : L0 M0 σ0 := ⟨IC_0, rfl, rfl, rfl, rfl⟩
