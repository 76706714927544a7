def FrX (M M' : kx_M) : Prop := Fr (fun id => id = 135 ∨ id = 140 ∨ id = 143) M M' ∧ (∀ p, p < 3072 → mA M' 140 p = mA M 140 p) ∧ (∀ p, p < 40 → mB M' 143 p = mB M 143 p) ∧ (∀ k, k < 12 ∨ (19 < k ∧ k ≠ 25) → mI M' 135 k = mI M 135 k) ∧ (∀ k, k ≠ 19 → mJ M' 135 k = mJ M 135 k)
theorem FrX.rf {M : kx_M} : FrX M M := ⟨Fr.rf, fun _ _ => rfl, fun _ _ => rfl, fun _ _ => rfl, fun _ _ => rfl⟩
theorem FrX.tr {A B C : kx_M} (h : FrX A B) (g : FrX B C) : FrX A C := ⟨h.1.tr g.1, fun p hp => (g.2.1 p hp).trans (h.2.1 p hp), fun p hp => (g.2.2.1 p hp).trans (h.2.2.1 p hp), fun k hk => (g.2.2.2.1 k hk).trans (h.2.2.2.1 k hk), fun k hk => (g.2.2.2.2 k hk).trans (h.2.2.2.2 k hk)⟩
theorem FrX.I {M : kx_M} {k : Nat} {v : Int32} (hk : 12 ≤ k ∧ k ≤ 19 ∨ k = 25) : FrX M (sI M 135 k v) := ⟨Fr.sI (Or.inl rfl), fun _ _ => rfl, fun _ _ => rfl, fun j hj => by rw [mI_sI, if_neg (by omega)], fun _ _ => rfl⟩
section
variable {M M' M1 : kx_M} {T : Nat → Nat} {n : Nat} {t : Tok} {x : Cl} {y : De} {a b : Bool} {s : Ps} {e : Er}
end
