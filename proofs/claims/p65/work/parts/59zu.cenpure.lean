abbrev Cs : Type := Tok × (Nat × Nat) × (Nat → Nat → Nat) × ((Nat → Nat) × (Nat → Nat) × (Nat → Nat) × (Nat → Nat)) × List (Nat × Nat)
/-- what is read of a step behind its word: numbers, the entry, the token behind -/
abbrev Yi : Type := (Nat × Nat × Nat × Nat) × (Nat × Nat × Nat) × Tok
section
variable (T : Nat → Nat) (n : Nat) (x : Cl) (y : De)
end
section
variable {T : Nat → Nat} {n : Nat} {x : Cl} {y : De} {s s1 : Cs} {t : Tok} {r : Yi}
end
