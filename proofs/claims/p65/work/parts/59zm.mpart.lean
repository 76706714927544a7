def hM (M : kx_M) : Nat → Int64 := fun p => mB M 143 (40 + p)
section
variable {M M' M1 : kx_M} {T : Nat → Nat} {n : Nat} {t : Tok} {x : Cl} {y : De} {a b : Bool} {s : Ps} {e : Er}
end
