def FrL (M M' : kx_M) : Prop := Fr (fun id => id = 135 ∨ id = 145 ∨ id = 146) M M' ∧ (∀ k, k ≠ 31 → mI M' 135 k = mI M 135 k) ∧ (∀ k, mJ M' 135 k = mJ M 135 k)
theorem FrL.rf {M : kx_M} : FrL M M := ⟨Fr.rf, fun _ _ => rfl, fun _ => rfl⟩
theorem FrL.tr {A B C : kx_M} (h : FrL A B) (g : FrL B C) : FrL A C := ⟨h.1.tr g.1, fun k hk => (g.2.1 k hk).trans (h.2.1 k hk), fun k => (g.2.2 k).trans (h.2.2 k)⟩
section
variable {M M' : kx_M} {σ : Sg} {y : De} {h : Nat → Int64} {G : Nat → Int32}
end
