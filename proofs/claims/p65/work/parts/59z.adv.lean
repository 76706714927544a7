def FrT (M M' : kx_M) : Prop := Fr (fun id => id = 135) M M' ∧ (∀ k, k < 14 ∨ 19 < k → mI M' 135 k = mI M 135 k) ∧ (∀ k, k ≠ 19 → mJ M' 135 k = mJ M 135 k)
theorem FrT.rf {M : kx_M} : FrT M M := ⟨Fr.rf, fun _ _ => rfl, fun _ _ => rfl⟩
theorem FrT.tr {A B C : kx_M} (h : FrT A B) (g : FrT B C) : FrT A C := ⟨h.1.tr g.1, fun k hk => (g.2.1 k hk).trans (h.2.1 k hk), fun k hk => (g.2.2 k hk).trans (h.2.2 k hk)⟩
theorem FrT.I {M : kx_M} {k : Nat} {v : Int32} (h1 : 14 ≤ k) (h2 : k ≤ 19) : FrT M (sI M 135 k v) := ⟨Fr.sI rfl, fun j hj => by rw [mI_sI, if_neg (by omega)], fun _ _ => rfl⟩
theorem FrT.J {M : kx_M} {v : Int64} : FrT M (sJ M 135 19 v) := ⟨Fr.sJ rfl, fun _ _ => rfl, fun j hj => by rw [mJ_sJ, if_neg (fun e => hj e.2)]⟩
section
variable {M M' : kx_M} {T : Nat → Nat} {n : Nat} {t : Tok}
end
