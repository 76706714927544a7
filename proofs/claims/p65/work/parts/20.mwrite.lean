def FrM (M M' : kx_M) : Prop := Fr (fun id => id = 140 ∨ id = 144) M M' ∧ ∀ p, p ≠ 5 → ¬ (208 ≤ p ∧ p < 496) → mA M' 140 p = mA M 140 p
theorem FrM.rf {M : kx_M} : FrM M M := ⟨Fr.rf, fun _ _ _ => rfl⟩
theorem FrM.tr {A B C : kx_M} (h : FrM A B) (g : FrM B C) : FrM A C := ⟨h.1.tr g.1, fun p h1 h2 => (g.2 p h1 h2).trans (h.2 p h1 h2)⟩
section
variable {M : kx_M} {x : Cl} {y : De}
end
