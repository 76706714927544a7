def FrV (M M' : kx_M) : Prop := Fr (fun id => id = 135 ∨ id = 140 ∨ id = 144) M M' ∧ (∀ p, p ≠ 5 → ¬ (208 ≤ p ∧ p < 496) → mA M' 140 p = mA M 140 p) ∧ (∀ k, k < 37 ∨ 44 < k → mI M' 135 k = mI M 135 k) ∧ (∀ k, mJ M' 135 k = mJ M 135 k)
theorem FrV.rf {M : kx_M} : FrV M M := ⟨Fr.rf, fun _ _ _ => rfl, fun _ _ => rfl, fun _ => rfl⟩
theorem FrV.tr {A B C : kx_M} (h : FrV A B) (g : FrV B C) : FrV A C := ⟨h.1.tr g.1, fun p h1 h2 => (g.2.1 p h1 h2).trans (h.2.1 p h1 h2), fun k hk => (g.2.2.1 k hk).trans (h.2.2.1 k hk), fun k => (g.2.2.2 k).trans (h.2.2.2 k)⟩
theorem FrV.I {M : kx_M} {k : Nat} {v : Int32} (h1 : 37 ≤ k) (h2 : k ≤ 44) : FrV M (sI M 135 k v) := ⟨Fr.sI (Or.inl rfl), fun _ _ _ => rfl, fun j hj => by rw [mI_sI, if_neg (by omega)], fun _ => rfl⟩
section
variable {M M' : kx_M} {σ : Sg} {y : De} {x : Cl} {v : Lv}
end
