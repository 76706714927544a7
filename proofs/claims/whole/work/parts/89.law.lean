/-! ## the law: rows -/
theorem x_cV0l {w : kx_W} {d : Nat} {own : String} {b : ByteArray} {nL : Nat} {cl : List (Nat × Instr × Nat)} {G : Nat → List (Option Value) → List Value → kx_M → Prop} (F : kx_Sb w (d + 1) own b nL cl G) {i pc : Nat} {L : List (Option Value)} {S : List Value} {M : kx_M} {m' : kx_md} {idx : Nat} {ci id : Nat} {ks : List Nat} (hi : cl[i]? = some (pc, .invokevirtual idx, 3)) (hm : kx_MV own idx m' 0 ci) (ok : kx_mok m') (ho : kx_lay[id]? = some (0, ci, ks)) (hrest : (S.map fun v => v.category).sum ≤ 8) (hml : m'.2.2.1 ≤ 45) {r : Int64} {M1 : kx_M} (hC : ∀ Q' : Option Value → kx_M → Prop, Q' (some (.long r)) M1 → Ct w d m' [.ref id] M Q') (k : G (pc + 3) L (.long r :: S) M1) : G pc L (.ref id :: S) M := x_inV0 F hi hm ok ho hrest hml (hC _ k)
theorem x_cV5i {w : kx_W} {d : Nat} {own : String} {b : ByteArray} {nL : Nat} {cl : List (Nat × Instr × Nat)} {G : Nat → List (Option Value) → List Value → kx_M → Prop} (F : kx_Sb w (d + 1) own b nL cl G) {i pc : Nat} {L : List (Option Value)} {S : List Value} {M : kx_M} {m' : kx_md} {idx : Nat} {ci id : Nat} {ks : List Nat} {a1 a2 a3 a4 a5 : Value} (hi : cl[i]? = some (pc, .invokevirtual idx, 3)) (hm : kx_MV own idx m' 5 ci) (ok : kx_mok m') (ho : kx_lay[id]? = some (0, ci, ks)) (hrest : (S.map fun v => v.category).sum ≤ 8) (hml : m'.2.2.1 ≤ 45) {r : Int32} {M1 : kx_M} (hC : ∀ Q' : Option Value → kx_M → Prop, Q' (some (.int r)) M1 → Ct w d m' [.ref id, a1, a2, a3, a4, a5] M Q') (k : G (pc + 3) L (.int r :: S) M1) : G pc L (a5 :: a4 :: a3 :: a2 :: a1 :: .ref id :: S) M := x_inV5 F hi hm ok ho hrest hml (hC _ k)
theorem cl_LW_32 : Cond.constantLong "KnitTreatyLaw" 32 4294967295 ∈ kx_tb := kx_in (List.mem_of_getElem? (i := 2394) (by decide +kernel)) rfl
theorem and63 (x : Int32) : ∃ n, n < 64 ∧ x &&& 63 = nI n := by
  refine ⟨(x.toBitVec &&& 63#32).toNat, ?_, ?_⟩
  · rw [BitVec.toNat_and]
    exact Nat.lt_of_le_of_lt Nat.and_le_right (by decide)
  · apply Int32.toBitVec_inj.mp
    apply BitVec.eq_of_toNat_eq
    rw [Int32.toBitVec_and]
    show _ = (BitVec.ofNat 32 _).toNat
    rw [BitVec.ofNat_toNat, BitVec.setWidth_eq]
    rfl
theorem all_S {P : Nat → Prop} {n : Nat} (h : ∀ k, k < n → P k) (h1 : P n) : ∀ k, k < n + 1 → P k := by
  intro k hk
  rcases Nat.lt_or_ge k n with g | g
  · exact h k g
  · have e : k = n := by omega
    rw [e]; exact h1
def lw_ok (cc : ByteArray) (cl : List (Nat × Instr × Nat)) : Prop := ∀ q ∈ cl, decode cc q.1 = .ok (q.2.1, q.2.2)
/-- what the walk of the law's body needs of the goal -/
def lw_B (cc : ByteArray) (w : kx_W) (n : Nat) (xs : Nat → Int32) (G : Nat → List (Option Value) → List Value → kx_M → Prop) : Prop :=
  (∀ cl : List (Nat × Instr × Nat), lw_ok cc cl → kx_Sb w 61 "KnitTreatyLaw" cc 4 cl G) ∧
  (∀ pc L S M, decode cc pc = .ok (.arraylength, 1) → G (pc + 1) L (.int (nI n) :: S) M → G pc L (.retAddr 3 :: S) M) ∧
  (∀ pc L S M j, vp_in j n → decode cc pc = .ok (.iaload, 1) → G (pc + 1) L (.int (xs j.toNatClampNeg) :: S) M → G pc L (.int j :: .retAddr 3 :: S) M) ∧
  (∀ pc L M, decode cc pc = .ok (.ireturn, 1) → G pc L [.int 1] M) ∧ n ≤ 3072
def lw_L (i : Nat) : List (Option Value) := [some (.retAddr 3), some (.ref 0), some (.ref 135), some (.int (nI i))]
section
variable {cc : ByteArray} {w : kx_W} {n : Nat} {xs : Nat → Int32} {G : Nat → List (Option Value) → List Value → kx_M → Prop} {cl : List (Nat × Instr × Nat)} {S : List Value} {M : kx_M} {k pc : Nat}
theorem lw_len (B : lw_B cc w n xs G) (ok : lw_ok cc cl) {L : List (Option Value)} (hi : cl[k]? = some (pc, .arraylength, 1)) (kk : G (pc + 1) L (.int (nI n) :: S) M) : G pc L (.retAddr 3 :: S) M := by
  have h1 := ok _ (List.mem_of_getElem? hi)
  obtain ⟨-, h, -, -, -⟩ := B
  exact h pc L S M h1 kk
theorem lw_sld (B : lw_B cc w n xs G) (ok : lw_ok cc cl) {L : List (Option Value)} {i : Nat} (hi : cl[k]? = some (pc, .iaload, 1)) (hl : i < n) (kk : G (pc + 1) L (.int (xs i) :: S) M) : G pc L (.int (nI i) :: .retAddr 3 :: S) M := by
  have h1 := ok _ (List.mem_of_getElem? hi)
  obtain ⟨-, -, h, -, hn⟩ := B
  refine h pc L S M (nI i) (vp_in_nI hl (by omega)) h1 ?_
  rw [nI_clamp (by omega)]
  exact kk
theorem lw_end (B : lw_B cc w n xs G) (ok : lw_ok cc cl) {L : List (Option Value)} (hi : cl[k]? = some (pc, .ireturn, 1)) : G pc L [.int 1] M := by
  have h1 := ok _ (List.mem_of_getElem? hi)
  obtain ⟨-, -, -, h, -⟩ := B
  exact h pc L M h1
theorem lw_n (B : lw_B cc w n xs G) : n ≤ 3072 := by
  obtain ⟨-, -, -, -, hn⟩ := B
  exact hn
theorem lw_arg (B : lw_B cc w n xs G) (ok : lw_ok cc cl) {i jn : Nat} {j : Int} (h0 : cl[k]? = some (pc, .aload_n 0, 1)) (h1 : cl[k + 1]? = some (pc + 1, .iload_n 3, 1)) (h2 : cl[k + 2]? = some (pc + 1 + 1, .iconst j, 1)) (h3 : cl[k + 3]? = some (pc + 1 + 1 + 1, .iadd, 1)) (h4 : cl[k + 4]? = some (pc + 1 + 1 + 1 + 1, .iaload, 1)) (hj : Int32.ofInt j = nI jn) (hl : i + jn < n) (kk : G (pc + 1 + 1 + 1 + 1 + 1) (lw_L i) (.int (xs (i + jn)) :: S) M) : G pc (lw_L i) S M := by
  have F := B.1 cl ok
  refine x_aloadz_n F (i := k) h0 rfl ?_
  refine x_iload_n F (i := k + 1) h1 rfl ?_
  refine x_iconst F (i := k + 2) h2 hj ?_
  refine x_iadd F (i := k + 3) h3 ?_
  rw [nI_add]
  exact lw_sld B ok h4 hl kk
end
def lw_C (w : kx_W) (n : Nat) (xs : Nat → Int32) (G : Nat → List (Option Value) → List Value → kx_M → Prop) (i tg : Nat) : Prop := i + 6 ≤ n → ∀ (M : kx_M) (σ : Sg), IC M σ → IM M σ → (∀ (M' : kx_M) (σ' : Sg), IC M' σ' → IM M' σ' → G 2091 (lw_L i) [] M') → G tg (lw_L i) [] M
