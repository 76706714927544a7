def rnN (y : De) (k : Nat) : Nat → Nat
  | 0 => 0
  | n + 1 => 4 * rnN y k n + dK y (5 * k + n)
theorem rnN_lt {W : Nat} {y : De} (hP : OkD W y) {k : Nat} (hk : k < dC y) : ∀ n, n ≤ dL y k → rnN y k n < 4 ^ n
  | 0, _ => Nat.one_pos
  | n + 1, h => by
    have h1 := rnN_lt hP hk n (by omega)
    have h2 : dK y (5 * k + n) < 4 := hP.2.2.2.2.1 k n hk (by omega)
    show 4 * rnN y k n + dK y (5 * k + n) < 4 ^ (n + 1)
    rw [Nat.pow_succ]
    omega
section
variable {M M' : kx_M} {σ : Sg} {x : Cl} {y : De} {h : Nat → Int64}
end
