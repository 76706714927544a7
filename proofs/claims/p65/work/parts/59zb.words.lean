def isK (t : Tok) (k : Nat) : Bool := decide (kS t = 2 ∧ kV t = k)
section
variable {M M' : kx_M} {T : Nat → Nat} {n : Nat} {t : Tok}
theorem isK_f {k j : Nat} (h : isK t k = true) (hj : k ≠ j) : isK t j = false := by
  have h := of_decide_eq_true h
  exact decide_eq_false (fun g => hj (h.2.symm.trans g.2))
def kdK (t : Tok) : Option Nat := if isK t 10 = true then some 0 else if isK t 11 = true then some 1 else if isK t 12 = true then some 2 else if isK t 13 = true then some 3 else none
theorem kdK_lt {v : Nat} (h : kdK t = some v) : v < 4 := by
  unfold kdK at h
  repeat' split at h
  all_goals first | (cases h; omega) | cases h
theorem nk {k : Nat} (h : ¬ isK t k = true) : ¬ (kS t = 2 ∧ kV t = k) := fun g => h (decide_eq_true g)
theorem kdK_none (h : kdK t = none) : ¬ (kS t = 2 ∧ 10 ≤ kV t ∧ kV t < 14) := by
  unfold kdK at h
  repeat' split at h
  all_goals first | cases h | skip
  rename_i a b c d
  have a := nk a
  have b := nk b
  have c := nk c
  have d := nk d
  omega
theorem ik {k : Nat} (h : isK t k = true) : kS t = 2 ∧ kV t = k := of_decide_eq_true h
theorem kdK_some {v : Nat} (h : kdK t = some v) : kS t = 2 ∧ kV t = 10 + v ∧ v < 4 := by
  unfold kdK at h
  repeat' split at h
  all_goals first | (cases h; rename_i g; have := ik g; omega) | cases h
end
