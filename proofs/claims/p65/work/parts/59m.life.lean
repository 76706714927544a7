/-- cloth; seed; steps, missed, years, fresh, darns; over, cut -/
abbrev Lv : Type := Cl × Nat × (Nat × Nat × Nat × Nat × Nat) × (Bool × Nat)
