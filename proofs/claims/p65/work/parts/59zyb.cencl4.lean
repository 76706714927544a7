def inCc (d : Nat) : Nat → Prop := fun id => id = 8 ∨ id = 9 ∨ id = 12 ∨ (d ≤ id ∧ id ≤ d + 4)
def FrC (d : Nat) (M M' : kx_M) : Prop := Fr (inCc d) M M' ∧ mR M' 9 = mR M 9 ∧ mI M' 9 2 = mI M 9 2
section
variable {M M' M1 M2 : kx_M} {T : Nat → Nat} {n d e s : Nat} {t : Tok} {x : Cl} {y : De} {c c1 : Cs} {o a b : Nat}
theorem FrC.rf : FrC d M M := ⟨Fr.rf, rfl, rfl⟩
theorem FrC.tr {A B C : kx_M} (h : FrC d A B) (g : FrC d B C) : FrC d A C := ⟨h.1.tr g.1, g.2.1.trans h.2.1, g.2.2.trans h.2.2⟩
end
