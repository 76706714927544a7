theorem jJ_toInt {n : Nat} (h : n < 2147483648) : (jJ n).toInt = (n : Int) := by
  unfold jJ
  rw [Int32.toInt_toInt64, nI_toInt (by omega)]
section
variable {M M' : kx_M} {σ : Sg}
end
