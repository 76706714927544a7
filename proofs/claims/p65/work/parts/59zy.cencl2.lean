def FrY (d : Nat) (M M' : kx_M) : Prop := Fr (fun id => id = 9 ∨ (d ≤ id ∧ id ≤ d + 4)) M M' ∧ mR M' 9 = mR M 9 ∧ mI M' 9 2 = mI M 9 2
section
variable {M M' M1 M2 : kx_M} {T : Nat → Nat} {n d e s : Nat} {t : Tok} {x : Cl} {y : De} {o a b : Nat} {r : Option (Int32 × kx_M)} {w : Except Er Yi}
theorem FrY.tr {A B C : kx_M} (h : FrY d A B) (g : FrY d B C) : FrY d A C := ⟨h.1.tr g.1, g.2.1.trans h.2.1, g.2.2.trans h.2.2⟩
end
