theorem x_inV0 {w : kx_W} {d : Nat} {own : String} {b : ByteArray} {nL : Nat} {cl : List (Nat × Instr × Nat)} {G : Nat → List (Option Value) → List Value → kx_M → Prop} (F : kx_Sb w (d + 1) own b nL cl G) {i pc : Nat} {L : List (Option Value)} {S : List Value} {M : kx_M} {m' : kx_md} {idx : Nat} {ci id : Nat} {ks : List Nat} (hi : cl[i]? = some (pc, .invokevirtual idx, 3)) (hm : kx_MV own idx m' 0 ci) (ok : kx_mok m') (ho : kx_lay[id]? = some (0, ci, ks)) (hrest : (S.map fun v => v.category).sum ≤ 8) (hml : m'.2.2.1 ≤ 19) (hC : Ct w d m' [.ref id] M (fun r M' => G (pc + 3) L (r.toList ++ S) M')) : G pc L (.ref id :: S) M := x_callV F (As := []) hi hm ok ho rfl rfl hrest hml hC (fun _ _ h => h)
theorem x_inS0 {w : kx_W} {d : Nat} {own : String} {b : ByteArray} {nL : Nat} {cl : List (Nat × Instr × Nat)} {G : Nat → List (Option Value) → List Value → kx_M → Prop} (F : kx_Sb w (d + 1) own b nL cl G) {i pc : Nat} {L : List (Option Value)} {S : List Value} {M : kx_M} {m' : kx_md} {idx : Nat} (hi : cl[i]? = some (pc, .invokestatic idx, 3)) (hm : kx_MS own idx m' 0) (ok : kx_mok m') (hrest : (S.map fun v => v.category).sum ≤ 8) (hml : m'.2.2.1 ≤ 19) (hC : Ct w d m' [] M (fun r M' => G (pc + 3) L (r.toList ++ S) M')) : G pc L (S) M := x_callS F (As := []) hi hm ok rfl rfl hrest hml hC (fun _ _ h => h)
theorem x_inV1 {w : kx_W} {d : Nat} {own : String} {b : ByteArray} {nL : Nat} {cl : List (Nat × Instr × Nat)} {G : Nat → List (Option Value) → List Value → kx_M → Prop} (F : kx_Sb w (d + 1) own b nL cl G) {i pc : Nat} {L : List (Option Value)} {S : List Value} {M : kx_M} {m' : kx_md} {idx : Nat} {ci id : Nat} {ks : List Nat} {a1 : Value} (hi : cl[i]? = some (pc, .invokevirtual idx, 3)) (hm : kx_MV own idx m' 1 ci) (ok : kx_mok m') (ho : kx_lay[id]? = some (0, ci, ks)) (hrest : (S.map fun v => v.category).sum ≤ 8) (hml : m'.2.2.1 ≤ 19) (hC : Ct w d m' [.ref id, a1] M (fun r M' => G (pc + 3) L (r.toList ++ S) M')) : G pc L (a1 :: .ref id :: S) M := x_callV F (As := [a1]) hi hm ok ho rfl rfl hrest hml hC (fun _ _ h => h)
theorem x_inS1 {w : kx_W} {d : Nat} {own : String} {b : ByteArray} {nL : Nat} {cl : List (Nat × Instr × Nat)} {G : Nat → List (Option Value) → List Value → kx_M → Prop} (F : kx_Sb w (d + 1) own b nL cl G) {i pc : Nat} {L : List (Option Value)} {S : List Value} {M : kx_M} {m' : kx_md} {idx : Nat} {a1 : Value} (hi : cl[i]? = some (pc, .invokestatic idx, 3)) (hm : kx_MS own idx m' 1) (ok : kx_mok m') (hrest : (S.map fun v => v.category).sum ≤ 8) (hml : m'.2.2.1 ≤ 19) (hC : Ct w d m' [a1] M (fun r M' => G (pc + 3) L (r.toList ++ S) M')) : G pc L (a1 :: S) M := x_callS F (As := [a1]) hi hm ok rfl rfl hrest hml hC (fun _ _ h => h)
theorem x_inV2 {w : kx_W} {d : Nat} {own : String} {b : ByteArray} {nL : Nat} {cl : List (Nat × Instr × Nat)} {G : Nat → List (Option Value) → List Value → kx_M → Prop} (F : kx_Sb w (d + 1) own b nL cl G) {i pc : Nat} {L : List (Option Value)} {S : List Value} {M : kx_M} {m' : kx_md} {idx : Nat} {ci id : Nat} {ks : List Nat} {a1 a2 : Value} (hi : cl[i]? = some (pc, .invokevirtual idx, 3)) (hm : kx_MV own idx m' 2 ci) (ok : kx_mok m') (ho : kx_lay[id]? = some (0, ci, ks)) (hrest : (S.map fun v => v.category).sum ≤ 8) (hml : m'.2.2.1 ≤ 19) (hC : Ct w d m' [.ref id, a1, a2] M (fun r M' => G (pc + 3) L (r.toList ++ S) M')) : G pc L (a2 :: a1 :: .ref id :: S) M := x_callV F (As := [a1, a2]) hi hm ok ho rfl rfl hrest hml hC (fun _ _ h => h)
theorem x_inS2 {w : kx_W} {d : Nat} {own : String} {b : ByteArray} {nL : Nat} {cl : List (Nat × Instr × Nat)} {G : Nat → List (Option Value) → List Value → kx_M → Prop} (F : kx_Sb w (d + 1) own b nL cl G) {i pc : Nat} {L : List (Option Value)} {S : List Value} {M : kx_M} {m' : kx_md} {idx : Nat} {a1 a2 : Value} (hi : cl[i]? = some (pc, .invokestatic idx, 3)) (hm : kx_MS own idx m' 2) (ok : kx_mok m') (hrest : (S.map fun v => v.category).sum ≤ 8) (hml : m'.2.2.1 ≤ 19) (hC : Ct w d m' [a1, a2] M (fun r M' => G (pc + 3) L (r.toList ++ S) M')) : G pc L (a2 :: a1 :: S) M := x_callS F (As := [a1, a2]) hi hm ok rfl rfl hrest hml hC (fun _ _ h => h)
theorem x_inV3 {w : kx_W} {d : Nat} {own : String} {b : ByteArray} {nL : Nat} {cl : List (Nat × Instr × Nat)} {G : Nat → List (Option Value) → List Value → kx_M → Prop} (F : kx_Sb w (d + 1) own b nL cl G) {i pc : Nat} {L : List (Option Value)} {S : List Value} {M : kx_M} {m' : kx_md} {idx : Nat} {ci id : Nat} {ks : List Nat} {a1 a2 a3 : Value} (hi : cl[i]? = some (pc, .invokevirtual idx, 3)) (hm : kx_MV own idx m' 3 ci) (ok : kx_mok m') (ho : kx_lay[id]? = some (0, ci, ks)) (hrest : (S.map fun v => v.category).sum ≤ 8) (hml : m'.2.2.1 ≤ 19) (hC : Ct w d m' [.ref id, a1, a2, a3] M (fun r M' => G (pc + 3) L (r.toList ++ S) M')) : G pc L (a3 :: a2 :: a1 :: .ref id :: S) M := x_callV F (As := [a1, a2, a3]) hi hm ok ho rfl rfl hrest hml hC (fun _ _ h => h)
theorem x_inS3 {w : kx_W} {d : Nat} {own : String} {b : ByteArray} {nL : Nat} {cl : List (Nat × Instr × Nat)} {G : Nat → List (Option Value) → List Value → kx_M → Prop} (F : kx_Sb w (d + 1) own b nL cl G) {i pc : Nat} {L : List (Option Value)} {S : List Value} {M : kx_M} {m' : kx_md} {idx : Nat} {a1 a2 a3 : Value} (hi : cl[i]? = some (pc, .invokestatic idx, 3)) (hm : kx_MS own idx m' 3) (ok : kx_mok m') (hrest : (S.map fun v => v.category).sum ≤ 8) (hml : m'.2.2.1 ≤ 19) (hC : Ct w d m' [a1, a2, a3] M (fun r M' => G (pc + 3) L (r.toList ++ S) M')) : G pc L (a3 :: a2 :: a1 :: S) M := x_callS F (As := [a1, a2, a3]) hi hm ok rfl rfl hrest hml hC (fun _ _ h => h)
theorem x_inV4 {w : kx_W} {d : Nat} {own : String} {b : ByteArray} {nL : Nat} {cl : List (Nat × Instr × Nat)} {G : Nat → List (Option Value) → List Value → kx_M → Prop} (F : kx_Sb w (d + 1) own b nL cl G) {i pc : Nat} {L : List (Option Value)} {S : List Value} {M : kx_M} {m' : kx_md} {idx : Nat} {ci id : Nat} {ks : List Nat} {a1 a2 a3 a4 : Value} (hi : cl[i]? = some (pc, .invokevirtual idx, 3)) (hm : kx_MV own idx m' 4 ci) (ok : kx_mok m') (ho : kx_lay[id]? = some (0, ci, ks)) (hrest : (S.map fun v => v.category).sum ≤ 8) (hml : m'.2.2.1 ≤ 19) (hC : Ct w d m' [.ref id, a1, a2, a3, a4] M (fun r M' => G (pc + 3) L (r.toList ++ S) M')) : G pc L (a4 :: a3 :: a2 :: a1 :: .ref id :: S) M := x_callV F (As := [a1, a2, a3, a4]) hi hm ok ho rfl rfl hrest hml hC (fun _ _ h => h)
theorem x_inS4 {w : kx_W} {d : Nat} {own : String} {b : ByteArray} {nL : Nat} {cl : List (Nat × Instr × Nat)} {G : Nat → List (Option Value) → List Value → kx_M → Prop} (F : kx_Sb w (d + 1) own b nL cl G) {i pc : Nat} {L : List (Option Value)} {S : List Value} {M : kx_M} {m' : kx_md} {idx : Nat} {a1 a2 a3 a4 : Value} (hi : cl[i]? = some (pc, .invokestatic idx, 3)) (hm : kx_MS own idx m' 4) (ok : kx_mok m') (hrest : (S.map fun v => v.category).sum ≤ 8) (hml : m'.2.2.1 ≤ 19) (hC : Ct w d m' [a1, a2, a3, a4] M (fun r M' => G (pc + 3) L (r.toList ++ S) M')) : G pc L (a4 :: a3 :: a2 :: a1 :: S) M := x_callS F (As := [a1, a2, a3, a4]) hi hm ok rfl rfl hrest hml hC (fun _ _ h => h)
theorem x_inV5 {w : kx_W} {d : Nat} {own : String} {b : ByteArray} {nL : Nat} {cl : List (Nat × Instr × Nat)} {G : Nat → List (Option Value) → List Value → kx_M → Prop} (F : kx_Sb w (d + 1) own b nL cl G) {i pc : Nat} {L : List (Option Value)} {S : List Value} {M : kx_M} {m' : kx_md} {idx : Nat} {ci id : Nat} {ks : List Nat} {a1 a2 a3 a4 a5 : Value} (hi : cl[i]? = some (pc, .invokevirtual idx, 3)) (hm : kx_MV own idx m' 5 ci) (ok : kx_mok m') (ho : kx_lay[id]? = some (0, ci, ks)) (hrest : (S.map fun v => v.category).sum ≤ 8) (hml : m'.2.2.1 ≤ 19) (hC : Ct w d m' [.ref id, a1, a2, a3, a4, a5] M (fun r M' => G (pc + 3) L (r.toList ++ S) M')) : G pc L (a5 :: a4 :: a3 :: a2 :: a1 :: .ref id :: S) M := x_callV F (As := [a1, a2, a3, a4, a5]) hi hm ok ho rfl rfl hrest hml hC (fun _ _ h => h)
theorem x_inS5 {w : kx_W} {d : Nat} {own : String} {b : ByteArray} {nL : Nat} {cl : List (Nat × Instr × Nat)} {G : Nat → List (Option Value) → List Value → kx_M → Prop} (F : kx_Sb w (d + 1) own b nL cl G) {i pc : Nat} {L : List (Option Value)} {S : List Value} {M : kx_M} {m' : kx_md} {idx : Nat} {a1 a2 a3 a4 a5 : Value} (hi : cl[i]? = some (pc, .invokestatic idx, 3)) (hm : kx_MS own idx m' 5) (ok : kx_mok m') (hrest : (S.map fun v => v.category).sum ≤ 8) (hml : m'.2.2.1 ≤ 19) (hC : Ct w d m' [a1, a2, a3, a4, a5] M (fun r M' => G (pc + 3) L (r.toList ++ S) M')) : G pc L (a5 :: a4 :: a3 :: a2 :: a1 :: S) M := x_callS F (As := [a1, a2, a3, a4, a5]) hi hm ok rfl rfl hrest hml hC (fun _ _ h => h)
theorem x_inV6 {w : kx_W} {d : Nat} {own : String} {b : ByteArray} {nL : Nat} {cl : List (Nat × Instr × Nat)} {G : Nat → List (Option Value) → List Value → kx_M → Prop} (F : kx_Sb w (d + 1) own b nL cl G) {i pc : Nat} {L : List (Option Value)} {S : List Value} {M : kx_M} {m' : kx_md} {idx : Nat} {ci id : Nat} {ks : List Nat} {a1 a2 a3 a4 a5 a6 : Value} (hi : cl[i]? = some (pc, .invokevirtual idx, 3)) (hm : kx_MV own idx m' 6 ci) (ok : kx_mok m') (ho : kx_lay[id]? = some (0, ci, ks)) (hrest : (S.map fun v => v.category).sum ≤ 8) (hml : m'.2.2.1 ≤ 19) (hC : Ct w d m' [.ref id, a1, a2, a3, a4, a5, a6] M (fun r M' => G (pc + 3) L (r.toList ++ S) M')) : G pc L (a6 :: a5 :: a4 :: a3 :: a2 :: a1 :: .ref id :: S) M := x_callV F (As := [a1, a2, a3, a4, a5, a6]) hi hm ok ho rfl rfl hrest hml hC (fun _ _ h => h)
theorem x_inS6 {w : kx_W} {d : Nat} {own : String} {b : ByteArray} {nL : Nat} {cl : List (Nat × Instr × Nat)} {G : Nat → List (Option Value) → List Value → kx_M → Prop} (F : kx_Sb w (d + 1) own b nL cl G) {i pc : Nat} {L : List (Option Value)} {S : List Value} {M : kx_M} {m' : kx_md} {idx : Nat} {a1 a2 a3 a4 a5 a6 : Value} (hi : cl[i]? = some (pc, .invokestatic idx, 3)) (hm : kx_MS own idx m' 6) (ok : kx_mok m') (hrest : (S.map fun v => v.category).sum ≤ 8) (hml : m'.2.2.1 ≤ 19) (hC : Ct w d m' [a1, a2, a3, a4, a5, a6] M (fun r M' => G (pc + 3) L (r.toList ++ S) M')) : G pc L (a6 :: a5 :: a4 :: a3 :: a2 :: a1 :: S) M := x_callS F (As := [a1, a2, a3, a4, a5, a6]) hi hm ok rfl rfl hrest hml hC (fun _ _ h => h)
theorem x_inN2 {w : kx_W} {d : Nat} {own : String} {b : ByteArray} {nL : Nat} {cl : List (Nat × Instr × Nat)} {G : Nat → List (Option Value) → List Value → kx_M → Prop} (F : kx_Sb w (d + 1) own b nL cl G) {i pc : Nat} {L : List (Option Value)} {S : List Value} {M : kx_M} {m' : kx_md} {idx : Nat} {host : String} {a1 a2 : Value} (hi : cl[i]? = some (pc, .invokestatic idx, 3)) (hm : kx_MN own idx m' 2 host) (ok : kx_mok m') (hrest : (S.map fun v => v.category).sum ≤ 8) (hml : m'.2.2.1 ≤ 19) (hC : Ct w d m' [a1, a2] M (fun r M' => G (pc + 3) L (r.toList ++ S) M')) : G pc L (a2 :: a1 :: S) M := x_callN F (As := [a1, a2]) hi hm ok rfl rfl hrest hml hC (fun _ _ h => h)
theorem x_iret {w : kx_W} {d : Nat} {m : kx_md} {Q : Option Value → kx_M → Prop} {G : Nat → List (Option Value) → List Value → kx_M → Prop} (F : Sd w d m Q G) {i pc : Nat} {L : List (Option Value)} {M : kx_M} {v : Int32} (hi : m.2.2.2.2[i]? = some (pc, .ireturn, 1)) (hr : m.2.2.2.1 = some .int) (h : Q (some (.int v)) M) : G pc L [.int v] M := by
  have h1 := F.2.2 _ (List.mem_of_getElem? hi)
  exact F.2.1.1 _ _ _ _ h1 hr h
theorem x_zret {w : kx_W} {d : Nat} {m : kx_md} {Q : Option Value → kx_M → Prop} {G : Nat → List (Option Value) → List Value → kx_M → Prop} (F : Sd w d m Q G) {i pc : Nat} {L : List (Option Value)} {M : kx_M} {v : Int32} (hi : m.2.2.2.2[i]? = some (pc, .ireturn, 1)) (hr : m.2.2.2.1 = some .boolean) (hv : v = 0 ∨ v = 1) (h : Q (some (.int v)) M) : G pc L [.int v] M := by
  have h1 := F.2.2 _ (List.mem_of_getElem? hi)
  exact F.2.1.2.1 _ _ _ _ _ h1 hr (by rcases hv with rfl | rfl <;> rfl) h
theorem x_yret {w : kx_W} {d : Nat} {m : kx_md} {Q : Option Value → kx_M → Prop} {G : Nat → List (Option Value) → List Value → kx_M → Prop} (F : Sd w d m Q G) {i pc : Nat} {L : List (Option Value)} {M : kx_M} {v : Int32} {ty : FieldType} (hi : m.2.2.2.2[i]? = some (pc, .ireturn, 1)) (hr : m.2.2.2.1 = some ty) (hn : narrow ty (.int v) = .int v) (h : Q (some (.int v)) M) : G pc L [.int v] M := by
  have h1 := F.2.2 _ (List.mem_of_getElem? hi)
  exact F.2.1.2.1 _ _ _ _ _ h1 hr hn h
theorem x_lret {w : kx_W} {d : Nat} {m : kx_md} {Q : Option Value → kx_M → Prop} {G : Nat → List (Option Value) → List Value → kx_M → Prop} (F : Sd w d m Q G) {i pc : Nat} {L : List (Option Value)} {M : kx_M} {v : Int64} (hi : m.2.2.2.2[i]? = some (pc, .lreturn, 1)) (hr : m.2.2.2.1 = some .long) (h : Q (some (.long v)) M) : G pc L [.long v] M := by
  have h1 := F.2.2 _ (List.mem_of_getElem? hi)
  exact F.2.1.2.2.1 _ _ _ _ h1 hr h
theorem x_vret {w : kx_W} {d : Nat} {m : kx_md} {Q : Option Value → kx_M → Prop} {G : Nat → List (Option Value) → List Value → kx_M → Prop} (F : Sd w d m Q G) {i pc : Nat} {L : List (Option Value)} {M : kx_M}  (hi : m.2.2.2.2[i]? = some (pc, .return_, 1)) (hr : m.2.2.2.1 = none) (h : Q none M) : G pc L [] M := by
  have h1 := F.2.2 _ (List.mem_of_getElem? hi)
  exact F.2.1.2.2.2.1 _ _ _ h1 hr h
theorem x_aret {w : kx_W} {d : Nat} {m : kx_md} {Q : Option Value → kx_M → Prop} {G : Nat → List (Option Value) → List Value → kx_M → Prop} (F : Sd w d m Q G) {i pc : Nat} {L : List (Option Value)} {M : kx_M} {v : Nat} {C : String} (hi : m.2.2.2.2[i]? = some (pc, .areturn, 1)) (hr : m.2.2.2.1 = some (.object C)) (h : Q (some (.ref v)) M) : G pc L [.ref v] M := by
  have h1 := F.2.2 _ (List.mem_of_getElem? hi)
  exact F.2.1.2.2.2.2 _ _ _ _ C h1 hr h
theorem jd_mmin : Cond.static Lib.Math.min.name ∈ kx_tb ∧ Cond.initialized "java/lang/Math" ∈ kx_tb ∧ Cond.code Lib.Math.min.name Lib.Math.min.code 2 (some .int) ∈ kx_tb := ⟨kx_in (List.mem_of_getElem? (i := 693) (by decide +kernel)) rfl, kx_in (List.mem_of_getElem? (i := 70) (by decide +kernel)) rfl, kx_in (List.mem_of_getElem? (i := 694) (by decide +kernel)) rfl⟩
theorem jm_Cloth_79 : Cond.methodLink "KnitTreaty$Cloth" 79 Lib.Math.min.name ∈ kx_tb := kx_in (List.mem_of_getElem? (i := 692) (by decide +kernel)) rfl
theorem jm_Deal_57 : Cond.methodLink "KnitTreaty$Deal" 57 Lib.Math.min.name ∈ kx_tb := kx_in (List.mem_of_getElem? (i := 780) (by decide +kernel)) rfl
theorem jm_Joiner_78 : Cond.methodLink "KnitTreaty$Joiner" 78 Lib.Math.min.name ∈ kx_tb := kx_in (List.mem_of_getElem? (i := 902) (by decide +kernel)) rfl
theorem jm_Reader_63 : Cond.methodLink "KnitTreaty$Reader" 63 Lib.Math.min.name ∈ kx_tb := kx_in (List.mem_of_getElem? (i := 1127) (by decide +kernel)) rfl
theorem jm_TreatyText_138 : Cond.methodLink "KnitTreaty$TreatyText" 138 Lib.Math.min.name ∈ kx_tb := kx_in (List.mem_of_getElem? (i := 1193) (by decide +kernel)) rfl
theorem jd_mmax : Cond.static Lib.Math.max.name ∈ kx_tb ∧ Cond.initialized "java/lang/Math" ∈ kx_tb ∧ Cond.code Lib.Math.max.name Lib.Math.max.code 2 (some .int) ∈ kx_tb := ⟨kx_in (List.mem_of_getElem? (i := 1013) (by decide +kernel)) rfl, kx_in (List.mem_of_getElem? (i := 70) (by decide +kernel)) rfl, kx_in (List.mem_of_getElem? (i := 1014) (by decide +kernel)) rfl⟩
theorem jm_Seen_66 : Cond.methodLink "KnitTreaty$Seen" 66 Lib.Math.max.name ∈ kx_tb := kx_in (List.mem_of_getElem? (i := 1012) (by decide +kernel)) rfl
theorem x_mmin {w : kx_W} {d : Nat} {own : String} {b : ByteArray} {nL : Nat} {cl : List (Nat × Instr × Nat)} {G : Nat → List (Option Value) → List Value → kx_M → Prop} (F : kx_Sb w (d + 1) own b nL cl G) {i pc : Nat} {L : List (Option Value)} {S : List Value} {M : kx_M} {x y : Int32} {idx : Nat} (hi : cl[i]? = some (pc, .invokestatic idx, 3)) (hm : Cond.methodLink own idx Lib.Math.min.name ∈ kx_tb) (hrest : (S.map fun v => v.category).sum ≤ 8) (k : G (pc + 3) L (.int (if y < x then y else x) :: S) M) : G pc L (.int y :: .int x :: S) M := by
  obtain ⟨p, e, R, s, mi, args, below, meth, c, cells, slots, Qf, rfl, hx, hb, hml, hown, hts, hK, hSt, hNe, hroom, hdec⟩ := F
  have h1 := hdec _ (List.mem_of_getElem? hi)
  intro H locs ls hP hS hl
  exact va_mmin hx hb (hml.trans hl.1.symm) hown (hts _ hm) (hts _ jd_mmin.1) (hts _ jd_mmin.2.1) (hts _ jd_mmin.2.2) (by omega) (by have h2 := kx_cat w S; have h3 := hroom.2.1; omega) hroom.2.2.1 hroom.2.2.2 h1 (k H locs ls hP hS hl)
theorem x_mmax {w : kx_W} {d : Nat} {own : String} {b : ByteArray} {nL : Nat} {cl : List (Nat × Instr × Nat)} {G : Nat → List (Option Value) → List Value → kx_M → Prop} (F : kx_Sb w (d + 1) own b nL cl G) {i pc : Nat} {L : List (Option Value)} {S : List Value} {M : kx_M} {x y : Int32} {idx : Nat} (hi : cl[i]? = some (pc, .invokestatic idx, 3)) (hm : Cond.methodLink own idx Lib.Math.max.name ∈ kx_tb) (hrest : (S.map fun v => v.category).sum ≤ 8) (k : G (pc + 3) L (.int (if x < y then y else x) :: S) M) : G pc L (.int y :: .int x :: S) M := by
  obtain ⟨p, e, R, s, mi, args, below, meth, c, cells, slots, Qf, rfl, hx, hb, hml, hown, hts, hK, hSt, hNe, hroom, hdec⟩ := F
  have h1 := hdec _ (List.mem_of_getElem? hi)
  intro H locs ls hP hS hl
  exact va_mmax hx hb (hml.trans hl.1.symm) hown (hts _ hm) (hts _ jd_mmax.1) (hts _ jd_mmax.2.1) (hts _ jd_mmax.2.2) (by omega) (by have h2 := kx_cat w S; have h3 := hroom.2.1; omega) hroom.2.2.1 hroom.2.2.2 h1 (k H locs ls hP hS hl)
theorem jd_copy : Cond.native arraycopyName ∈ kx_tb ∧ Cond.static arraycopyName ∈ kx_tb ∧ Cond.initialized "java/lang/System" ∈ kx_tb := ⟨kx_in (List.mem_of_getElem? (i := 812) (by decide +kernel)) rfl, kx_in (List.mem_of_getElem? (i := 811) (by decide +kernel)) rfl, kx_in (List.mem_of_getElem? (i := 71) (by decide +kernel)) rfl⟩
theorem jm_Cloth_40 : Cond.methodLink "KnitTreaty$Cloth" 40 arraycopyName ∈ kx_tb := kx_in (List.mem_of_getElem? (i := 810) (by decide +kernel)) rfl
theorem jm_Deal_47 : Cond.methodLink "KnitTreaty$Deal" 47 arraycopyName ∈ kx_tb := kx_in (List.mem_of_getElem? (i := 1035) (by decide +kernel)) rfl
theorem jm_Script_33 : Cond.methodLink "KnitTreaty$Script" 33 arraycopyName ∈ kx_tb := kx_in (List.mem_of_getElem? (i := 1041) (by decide +kernel)) rfl
theorem x_copyi {w : kx_W} {d : Nat} {own : String} {b : ByteArray} {nL : Nat} {cl : List (Nat × Instr × Nat)} {G : Nat → List (Option Value) → List Value → kx_M → Prop} (F : kx_Sb w (d + 1) own b nL cl G) {i pc : Nat} {L : List (Option Value)} {S : List Value} {M : kx_M} {idx id0 id1 n0 n1 : Nat} {ks0 ks1 : List Nat} {sp dp n : Int32} (hi : cl[i]? = some (pc, .invokestatic idx, 3)) (hm : Cond.methodLink own idx arraycopyName ∈ kx_tb) (ho0 : kx_lay[id0]? = some (1, n0, ks0)) (ho1 : kx_lay[id1]? = some (1, n1, ks1)) (g1 : ¬ sp < 0) (g2 : ¬ dp < 0) (g3 : ¬ n < 0) (g4 : sp.toNatClampNeg + n.toNatClampNeg ≤ n0) (g5 : dp.toNatClampNeg + n.toNatClampNeg ≤ n1) (hrest : (S.map fun v => v.category).sum ≤ 8) (k : G (pc + 3) L S (sA M id1 (va_cpy (mA M id0) (mA M id1) sp.toNatClampNeg dp.toNatClampNeg n.toNatClampNeg))) : G pc L (.int n :: .int dp :: .ref id1 :: .int sp :: .ref id0 :: S) M := by
  obtain ⟨p, e, R, s, mi, args, below, meth, c, cells, slots, Qf, rfl, hx, hb, hml, hown, hts, hK, hSt, hNe, hroom, hdec⟩ := F
  have h1 := hdec _ (List.mem_of_getElem? hi)
  intro H locs ls hP hS hl
  have hnf : nativeFrameWords "java/lang/System" "arraycopy" 5 + 11 ≤ 56 := by decide +kernel
  refine va_copyi hx hb (hml.trans hl.1.symm) hown (hts _ hm) (hts _ jd_copy.1) (hts _ jd_copy.2.1) (hts _ jd_copy.2.2) hK hP (kx_ws_D w M) hS id0 id1 0 0 (kx_ws_at (w := w) (M := M) ho0) (kx_ws_at (w := w) (M := M) ho1) rfl rfl rfl g1 g2 g3 g4 g5 (fun _ _ => rfl) (by omega) (by have h2 := kx_cat w S; have h3 := hroom.2.1; omega) h1 (fun H1 locs1 hP1 hD1 hS1 => ?_)
  have hE := kx_ws_set (w := w) (M := M) (M' := sA M id1 (va_cpy (mA M id0) (mA M id1) sp.toNatClampNeg dp.toNatClampNeg n.toNatClampNeg)) ho1 (x := _) rfl (fun q hq => by refine ⟨fun l => ?_, fun l => ?_, ?_, ?_, fun l => ?_⟩ <;> simp [mI, mJ, mA, mB, mR, sA, sB, u1_n hq])
  refine k H1 locs1 ls ?_ hS1 hl
  rw [← hE]
  simpa [kx_en, mA, sA, u1_at] using hP1
theorem x_copyl {w : kx_W} {d : Nat} {own : String} {b : ByteArray} {nL : Nat} {cl : List (Nat × Instr × Nat)} {G : Nat → List (Option Value) → List Value → kx_M → Prop} (F : kx_Sb w (d + 1) own b nL cl G) {i pc : Nat} {L : List (Option Value)} {S : List Value} {M : kx_M} {idx id0 id1 n0 n1 : Nat} {ks0 ks1 : List Nat} {sp dp n : Int32} (hi : cl[i]? = some (pc, .invokestatic idx, 3)) (hm : Cond.methodLink own idx arraycopyName ∈ kx_tb) (ho0 : kx_lay[id0]? = some (2, n0, ks0)) (ho1 : kx_lay[id1]? = some (2, n1, ks1)) (g1 : ¬ sp < 0) (g2 : ¬ dp < 0) (g3 : ¬ n < 0) (g4 : sp.toNatClampNeg + n.toNatClampNeg ≤ n0) (g5 : dp.toNatClampNeg + n.toNatClampNeg ≤ n1) (hrest : (S.map fun v => v.category).sum ≤ 8) (k : G (pc + 3) L S (sB M id1 (va_cpy (mB M id0) (mB M id1) sp.toNatClampNeg dp.toNatClampNeg n.toNatClampNeg))) : G pc L (.int n :: .int dp :: .ref id1 :: .int sp :: .ref id0 :: S) M := by
  obtain ⟨p, e, R, s, mi, args, below, meth, c, cells, slots, Qf, rfl, hx, hb, hml, hown, hts, hK, hSt, hNe, hroom, hdec⟩ := F
  have h1 := hdec _ (List.mem_of_getElem? hi)
  intro H locs ls hP hS hl
  have hnf : nativeFrameWords "java/lang/System" "arraycopy" 5 + 11 ≤ 56 := by decide +kernel
  refine va_copyl hx hb (hml.trans hl.1.symm) hown (hts _ hm) (hts _ jd_copy.1) (hts _ jd_copy.2.1) (hts _ jd_copy.2.2) hK hP (kx_ws_D w M) hS id0 id1 1 1 (kx_ws_at (w := w) (M := M) ho0) (kx_ws_at (w := w) (M := M) ho1) rfl rfl rfl g1 g2 g3 g4 g5 (fun _ _ => rfl) (by omega) (by have h2 := kx_cat w S; have h3 := hroom.2.1; omega) h1 (fun H1 locs1 hP1 hD1 hS1 => ?_)
  have hE := kx_ws_set (w := w) (M := M) (M' := sB M id1 (va_cpy (mB M id0) (mB M id1) sp.toNatClampNeg dp.toNatClampNeg n.toNatClampNeg)) ho1 (x := _) rfl (fun q hq => by refine ⟨fun l => ?_, fun l => ?_, ?_, ?_, fun l => ?_⟩ <;> simp [mI, mJ, mA, mB, mR, sA, sB, u1_n hq])
  refine k H1 locs1 ls ?_ hS1 hl
  rw [← hE]
  simpa [kx_en, mB, sB, u1_at] using hP1
theorem bp_6 : (Int8.ofInt (6)).toInt32 = 6 := by decide +kernel
theorem bp_7 : (Int8.ofInt (7)).toInt32 = 7 := by decide +kernel
theorem bp_8 : (Int8.ofInt (8)).toInt32 = 8 := by decide +kernel
theorem bp_9 : (Int8.ofInt (9)).toInt32 = 9 := by decide +kernel
theorem bp_10 : (Int8.ofInt (10)).toInt32 = 10 := by decide +kernel
theorem bp_12 : (Int8.ofInt (12)).toInt32 = 12 := by decide +kernel
theorem bp_14 : (Int8.ofInt (14)).toInt32 = 14 := by decide +kernel
theorem bp_15 : (Int8.ofInt (15)).toInt32 = 15 := by decide +kernel
theorem bp_16 : (Int8.ofInt (16)).toInt32 = 16 := by decide +kernel
theorem bp_19 : (Int8.ofInt (19)).toInt32 = 19 := by decide +kernel
theorem bp_20 : (Int8.ofInt (20)).toInt32 = 20 := by decide +kernel
theorem bp_21 : (Int8.ofInt (21)).toInt32 = 21 := by decide +kernel
theorem bp_22 : (Int8.ofInt (22)).toInt32 = 22 := by decide +kernel
theorem bp_23 : (Int8.ofInt (23)).toInt32 = 23 := by decide +kernel
theorem bp_24 : (Int8.ofInt (24)).toInt32 = 24 := by decide +kernel
theorem bp_25 : (Int8.ofInt (25)).toInt32 = 25 := by decide +kernel
theorem bp_26 : (Int8.ofInt (26)).toInt32 = 26 := by decide +kernel
theorem bp_27 : (Int8.ofInt (27)).toInt32 = 27 := by decide +kernel
theorem bp_28 : (Int8.ofInt (28)).toInt32 = 28 := by decide +kernel
theorem bp_30 : (Int8.ofInt (30)).toInt32 = 30 := by decide +kernel
theorem bp_31 : (Int8.ofInt (31)).toInt32 = 31 := by decide +kernel
theorem bp_32 : (Int8.ofInt (32)).toInt32 = 32 := by decide +kernel
theorem bp_34 : (Int8.ofInt (34)).toInt32 = 34 := by decide +kernel
theorem bp_36 : (Int8.ofInt (36)).toInt32 = 36 := by decide +kernel
theorem bp_37 : (Int8.ofInt (37)).toInt32 = 37 := by decide +kernel
theorem bp_48 : (Int8.ofInt (48)).toInt32 = 48 := by decide +kernel
theorem bp_50 : (Int8.ofInt (50)).toInt32 = 50 := by decide +kernel
theorem bp_52 : (Int8.ofInt (52)).toInt32 = 52 := by decide +kernel
theorem bp_57 : (Int8.ofInt (57)).toInt32 = 57 := by decide +kernel
theorem bp_59 : (Int8.ofInt (59)).toInt32 = 59 := by decide +kernel
theorem bp_60 : (Int8.ofInt (60)).toInt32 = 60 := by decide +kernel
theorem bp_61 : (Int8.ofInt (61)).toInt32 = 61 := by decide +kernel
theorem bp_62 : (Int8.ofInt (62)).toInt32 = 62 := by decide +kernel
theorem bp_63 : (Int8.ofInt (63)).toInt32 = 63 := by decide +kernel
theorem bp_67 : (Int8.ofInt (67)).toInt32 = 67 := by decide +kernel
theorem bp_96 : (Int8.ofInt (96)).toInt32 = 96 := by decide +kernel
theorem bp_97 : (Int8.ofInt (97)).toInt32 = 97 := by decide +kernel
theorem bp_99 : (Int8.ofInt (99)).toInt32 = 99 := by decide +kernel
theorem bp_100 : (Int8.ofInt (100)).toInt32 = 100 := by decide +kernel
theorem bp_113 : (Int8.ofInt (113)).toInt32 = 113 := by decide +kernel
theorem bp_122 : (Int8.ofInt (122)).toInt32 = 122 := by decide +kernel
theorem bp_127 : (Int8.ofInt (127)).toInt32 = 127 := by decide +kernel
theorem ic_n1 : Int32.ofInt (-1) = (-1) := by decide +kernel
theorem ic_0 : Int32.ofInt (0) = 0 := by decide +kernel
theorem ic_1 : Int32.ofInt (1) = 1 := by decide +kernel
theorem ic_2 : Int32.ofInt (2) = 2 := by decide +kernel
theorem ic_3 : Int32.ofInt (3) = 3 := by decide +kernel
theorem ic_4 : Int32.ofInt (4) = 4 := by decide +kernel
theorem ic_5 : Int32.ofInt (5) = 5 := by decide +kernel
theorem sp_255 : (Int16.ofInt (255)).toInt32 = 255 := by decide +kernel
theorem sp_300 : (Int16.ofInt (300)).toInt32 = 300 := by decide +kernel
theorem sp_384 : (Int16.ofInt (384)).toInt32 = 384 := by decide +kernel
theorem sp_389 : (Int16.ofInt (389)).toInt32 = 389 := by decide +kernel
theorem sp_900 : (Int16.ofInt (900)).toInt32 = 900 := by decide +kernel
theorem sp_941 : (Int16.ofInt (941)).toInt32 = 941 := by decide +kernel
theorem sp_947 : (Int16.ofInt (947)).toInt32 = 947 := by decide +kernel
theorem sp_999 : (Int16.ofInt (999)).toInt32 = 999 := by decide +kernel
theorem sp_2081 : (Int16.ofInt (2081)).toInt32 = 2081 := by decide +kernel
theorem sp_7919 : (Int16.ofInt (7919)).toInt32 = 7919 := by decide +kernel
theorem sp_9999 : (Int16.ofInt (9999)).toInt32 = 9999 := by decide +kernel
