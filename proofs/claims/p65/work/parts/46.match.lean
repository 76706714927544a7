/-- the first j letters of a clause of L letters that reads c (base 4) -/
def fO (L c j : Nat) : Nat := c / 4 ^ (L - j)
def dlF (L c v : Nat) : Nat → Nat
  | 0 => 0
  | n + 1 => if v % 4 ^ (n + 1) = fO L c (n + 1) then n + 1 else dlF L c v n
def dlN (L c s a : Nat) : Nat := dlF L c (4 * fO L c s + a) (s + 1)
