def FrZ (M M' : kx_M) : Prop := Fr (fun id => id = 135 ∨ id = 140) M M' ∧ (∀ p, p < 3570 → mA M' 140 p = mA M 140 p) ∧ (∀ k, k < 12 ∨ (19 < k ∧ k ≠ 26) → mI M' 135 k = mI M 135 k) ∧ (∀ k, k ≠ 19 → mJ M' 135 k = mJ M 135 k)
/-- nothing but the reader, the fault and one step's fields -/
def FrZs (w : Nat) (M M' : kx_M) : Prop := FrZ M M' ∧ mI M' 135 26 = mI M 135 26 ∧ ∀ p, p < w ∨ w + 9 ≤ p → mA M' 140 p = mA M 140 p
section
variable {M M' M1 : kx_M} {T : Nat → Nat} {n w : Nat} {t : Tok} {x : Cl} {y : De} {e : Er}
theorem FrZ.rf : FrZ M M := ⟨Fr.rf, fun _ _ => rfl, fun _ _ => rfl, fun _ _ => rfl⟩
theorem FrZ.tr {A B C : kx_M} (h : FrZ A B) (g : FrZ B C) : FrZ A C := ⟨h.1.tr g.1, fun p hp => (g.2.1 p hp).trans (h.2.1 p hp), fun k hk => (g.2.2.1 k hk).trans (h.2.2.1 k hk), fun k hk => (g.2.2.2 k hk).trans (h.2.2.2 k hk)⟩
theorem FrZs.rf : FrZs w M M := ⟨FrZ.rf, rfl, fun _ _ => rfl⟩
theorem FrZs.tr {A B C : kx_M} (h : FrZs w A B) (g : FrZs w B C) : FrZs w A C := ⟨h.1.tr g.1, g.2.1.trans h.2.1, fun p hp => (g.2.2 p hp).trans (h.2.2 p hp)⟩
theorem FrZs.I {k : Nat} {v : Int32} (hk : 12 ≤ k ∧ k ≤ 19) : FrZs w M (sI M 135 k v) := ⟨⟨Fr.sI (Or.inl rfl), fun _ _ => rfl, fun j hj => by rw [mI_sI, if_neg (by omega)], fun _ _ => rfl⟩, by rw [mI_sI, if_neg (by omega)], fun _ _ => rfl⟩
end
