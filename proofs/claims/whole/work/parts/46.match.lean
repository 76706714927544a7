/-! ## how far a clause is matched: the class's states and the reference's -/
/-- the first j letters of a clause of L letters that reads c (base 4) -/
def fO (L c j : Nat) : Nat := c / 4 ^ (L - j)
def dlF (L c v : Nat) : Nat → Nat
  | 0 => 0
  | n + 1 => if v % 4 ^ (n + 1) = fO L c (n + 1) then n + 1 else dlF L c v n
def dlN (L c s a : Nat) : Nat := dlF L c (4 * fO L c s + a) (s + 1)
def phN (L c s : Nat) : Nat := if s = L then 32 else setN (fun j => fO L c s % 4 ^ (j + 1) == fO L c (j + 1)) s
def ltN (L c i : Nat) : Nat := c / 4 ^ (L - 1 - i) % 4
def ledG (L c v a : Nat) : Nat → Nat → Nat → Nat
  | 0, _, r => r
  | m + 1, i, r => if (v.testBit i && ltN L c i == a) = true then (if i + 1 = L then 32 else ledG L c v a m (i + 1) (r ||| 2 ^ i)) else ledG L c v a m (i + 1) r
def ledN (L c x a : Nat) : Nat := if x = 32 then 32 else ledG L c (2 * x ||| 1) a L 0 0
def ldOk (L : Nat) : Bool := allb (fun c => allb (fun s => allb (fun a => ledN L c (phN L c s) a == phN L c (dlN L c s a) && Nat.ble (dlN L c s a) L && Nat.blt (phN L c s) 32) 4) L) (4 ^ L)
theorem ld_1 : ldOk 1 = true := by decide +kernel
theorem ld_2 : ldOk 2 = true := by decide +kernel
theorem ld_3 : ldOk 3 = true := by decide +kernel
theorem ld_4 : ldOk 4 = true := by decide +kernel
theorem ld_5 : ldOk 5 = true := by decide +kernel
theorem ld_all {L c s a : Nat} (h1 : 1 ≤ L) (h5 : L ≤ 5) (hc : c < 4 ^ L) (hs : s < L) (ha : a < 4) : ledN L c (phN L c s) a = phN L c (dlN L c s a) ∧ dlN L c s a ≤ L ∧ phN L c s < 32 := by
  have key : ldOk L = true := by
    have hL : L = 1 ∨ L = 2 ∨ L = 3 ∨ L = 4 ∨ L = 5 := by omega
    rcases hL with e | e | e | e | e
    · rw [e]; exact ld_1
    · rw [e]; exact ld_2
    · rw [e]; exact ld_3
    · rw [e]; exact ld_4
    · rw [e]; exact ld_5
  unfold ldOk at key
  have k := allb_iff.mp (allb_iff.mp (allb_iff.mp key c hc) s hs) a ha
  rw [Bool.and_eq_true, Bool.and_eq_true] at k
  obtain ⟨⟨k1, k2⟩, k3⟩ := k
  exact ⟨eq_of_beq k1, Nat.le_of_ble_eq_true k2, Nat.lt_of_lt_of_le (Nat.lt_of_lt_of_le (Nat.lt_succ_self _) (Nat.le_of_ble_eq_true k3)) (Nat.le_refl _)⟩
