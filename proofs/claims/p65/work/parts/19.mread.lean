theorem z_cmp_lt0 {a b : Int64} : (lg_cmp a b < 0) = (a < b) := propext (lg_cmp_lt a b)
theorem z_cmp_gt0 {a b : Int64} : (0 < lg_cmp a b) = (b < a) := propext (lg_cmp_gt a b)
section
variable {M : kx_M} {h : Nat → Int64} {x : Cl} {y : De}
end
