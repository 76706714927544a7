def ix (p : Int32) (R : Nat) : Bool := decide (0 ≤ p.toInt) && decide (p.toInt < R)
theorem ix_ex {p : Int32} {R : Nat} (hR : R < 2147483648) (h : ix p R = true) : ∃ n, n < R ∧ p = nI n := by
  unfold ix at h
  rw [Bool.and_eq_true] at h
  have h1 := of_decide_eq_true h.1
  have h2 := of_decide_eq_true h.2
  refine ⟨p.toInt.toNat, by omega, Int32.toInt_inj.mp ?_⟩
  rw [nI_toInt (by omega)]
  omega
theorem i32_lt0 (p : Int32) : (p < 0) = (p.toInt < 0) := propext (Int32.lt_iff_toInt_lt.trans (by rw [show (0 : Int32).toInt = 0 from rfl]))
theorem i32_lt (p : Int32) {R : Nat} (hR : R < 2147483648) : (p < nI R) = (p.toInt < R) := propext (Int32.lt_iff_toInt_lt.trans (by rw [nI_toInt (by omega)]))
section
variable {M : kx_M} {h : Nat → Int64} {x : Cl} {y : De}
end
