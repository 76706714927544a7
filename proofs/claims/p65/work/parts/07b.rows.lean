theorem x_iconst {w : kx_W} {d : Nat} {own : String} {b : ByteArray} {nL : Nat} {cl : List (Nat × Instr × Nat)} {G : Nat → List (Option Value) → List Value → kx_M → Prop} (F : kx_Sb w d own b nL cl G) {i pc : Nat} {L : List (Option Value)} {S : List Value} {M : kx_M} {n : Int} {v : Int32} (hi : cl[i]? = some (pc, .iconst n, 1)) (hv : Int32.ofInt n = v) (k : G (pc + 1) L (.int v :: S) M) : G pc L (S) M := by
  obtain ⟨p, e, R, s, mi, args, below, meth, c, cells, slots, Qf, rfl, hx, hb, hml, hown, hts, hK, hSt, hNe, hroom, hdec⟩ := F
  have h1 := hdec _ (List.mem_of_getElem? hi)
  intro H locs ls hP hS hl
  exact lv_iconst hx hb h1 hv (k H locs ls hP hS hl)
theorem x_bipush {w : kx_W} {d : Nat} {own : String} {b : ByteArray} {nL : Nat} {cl : List (Nat × Instr × Nat)} {G : Nat → List (Option Value) → List Value → kx_M → Prop} (F : kx_Sb w d own b nL cl G) {i pc : Nat} {L : List (Option Value)} {S : List Value} {M : kx_M} {n : Int} {v : Int32} (hi : cl[i]? = some (pc, .bipush n, 2)) (hv : (Int8.ofInt n).toInt32 = v) (k : G (pc + 2) L (.int v :: S) M) : G pc L (S) M := by
  obtain ⟨p, e, R, s, mi, args, below, meth, c, cells, slots, Qf, rfl, hx, hb, hml, hown, hts, hK, hSt, hNe, hroom, hdec⟩ := F
  have h1 := hdec _ (List.mem_of_getElem? hi)
  intro H locs ls hP hS hl
  exact lv_bipush hx hb h1 hv (k H locs ls hP hS hl)
theorem x_sipush {w : kx_W} {d : Nat} {own : String} {b : ByteArray} {nL : Nat} {cl : List (Nat × Instr × Nat)} {G : Nat → List (Option Value) → List Value → kx_M → Prop} (F : kx_Sb w d own b nL cl G) {i pc : Nat} {L : List (Option Value)} {S : List Value} {M : kx_M} {n : Int} {v : Int32} (hi : cl[i]? = some (pc, .sipush n, 3)) (hv : (Int16.ofInt n).toInt32 = v) (k : G (pc + 3) L (.int v :: S) M) : G pc L (S) M := by
  obtain ⟨p, e, R, s, mi, args, below, meth, c, cells, slots, Qf, rfl, hx, hb, hml, hown, hts, hK, hSt, hNe, hroom, hdec⟩ := F
  have h1 := hdec _ (List.mem_of_getElem? hi)
  intro H locs ls hP hS hl
  exact lv_sipush hx hb h1 hv (k H locs ls hP hS hl)
theorem x_lconst {w : kx_W} {d : Nat} {own : String} {b : ByteArray} {nL : Nat} {cl : List (Nat × Instr × Nat)} {G : Nat → List (Option Value) → List Value → kx_M → Prop} (F : kx_Sb w d own b nL cl G) {i pc : Nat} {L : List (Option Value)} {S : List Value} {M : kx_M} {n : Fin 2} {v : Int64} (hi : cl[i]? = some (pc, .lconst n, 1)) (hv : Int64.ofNat (n : Nat) = v) (k : G (pc + 1) L (.long v :: S) M) : G pc L (S) M := by
  obtain ⟨p, e, R, s, mi, args, below, meth, c, cells, slots, Qf, rfl, hx, hb, hml, hown, hts, hK, hSt, hNe, hroom, hdec⟩ := F
  have h1 := hdec _ (List.mem_of_getElem? hi)
  intro H locs ls hP hS hl
  exact lv_lconst hx hb h1 hv (k H locs ls hP hS hl)
theorem x_ldc {w : kx_W} {d : Nat} {own : String} {b : ByteArray} {nL : Nat} {cl : List (Nat × Instr × Nat)} {G : Nat → List (Option Value) → List Value → kx_M → Prop} (F : kx_Sb w d own b nL cl G) {i pc : Nat} {L : List (Option Value)} {S : List Value} {M : kx_M} {j : Nat} {v : Int32} (hi : cl[i]? = some (pc, .ldc j, 2)) (hc : Cond.constant own j v ∈ kx_tb) (k : G (pc + 2) L (.int v :: S) M) : G pc L (S) M := by
  obtain ⟨p, e, R, s, mi, args, below, meth, c, cells, slots, Qf, rfl, hx, hb, hml, hown, hts, hK, hSt, hNe, hroom, hdec⟩ := F
  have h1 := hdec _ (List.mem_of_getElem? hi)
  intro H locs ls hP hS hl
  exact lv_ldc hx hb hown (hts _ hc) h1 (k H locs ls hP hS hl)
theorem x_ldc_w {w : kx_W} {d : Nat} {own : String} {b : ByteArray} {nL : Nat} {cl : List (Nat × Instr × Nat)} {G : Nat → List (Option Value) → List Value → kx_M → Prop} (F : kx_Sb w d own b nL cl G) {i pc : Nat} {L : List (Option Value)} {S : List Value} {M : kx_M} {j : Nat} {v : Int32} (hi : cl[i]? = some (pc, .ldc_w j, 3)) (hc : Cond.constant own j v ∈ kx_tb) (k : G (pc + 3) L (.int v :: S) M) : G pc L (S) M := by
  obtain ⟨p, e, R, s, mi, args, below, meth, c, cells, slots, Qf, rfl, hx, hb, hml, hown, hts, hK, hSt, hNe, hroom, hdec⟩ := F
  have h1 := hdec _ (List.mem_of_getElem? hi)
  intro H locs ls hP hS hl
  exact lv_ldcw hx hb hown (hts _ hc) h1 (k H locs ls hP hS hl)
theorem x_ldc2_w {w : kx_W} {d : Nat} {own : String} {b : ByteArray} {nL : Nat} {cl : List (Nat × Instr × Nat)} {G : Nat → List (Option Value) → List Value → kx_M → Prop} (F : kx_Sb w d own b nL cl G) {i pc : Nat} {L : List (Option Value)} {S : List Value} {M : kx_M} {j : Nat} {v : Int64} (hi : cl[i]? = some (pc, .ldc2_w j, 3)) (hc : Cond.constantLong own j v ∈ kx_tb) (k : G (pc + 3) L (.long v :: S) M) : G pc L (S) M := by
  obtain ⟨p, e, R, s, mi, args, below, meth, c, cells, slots, Qf, rfl, hx, hb, hml, hown, hts, hK, hSt, hNe, hroom, hdec⟩ := F
  have h1 := hdec _ (List.mem_of_getElem? hi)
  intro H locs ls hP hS hl
  exact lv_ldc2 hx hb hown (hts _ hc) h1 (k H locs ls hP hS hl)
theorem x_iload_n {w : kx_W} {d : Nat} {own : String} {b : ByteArray} {nL : Nat} {cl : List (Nat × Instr × Nat)} {G : Nat → List (Option Value) → List Value → kx_M → Prop} (F : kx_Sb w d own b nL cl G) {i pc : Nat} {L : List (Option Value)} {S : List Value} {M : kx_M} {j : Fin 4} {x : Int32} (hi : cl[i]? = some (pc, .iload_n j, 1)) (hL : L[(j : Nat)]? = some (some (.int x))) (k : G (pc + 1) L (.int x :: S) M) : G pc L (S) M := by
  obtain ⟨p, e, R, s, mi, args, below, meth, c, cells, slots, Qf, rfl, hx, hb, hml, hown, hts, hK, hSt, hNe, hroom, hdec⟩ := F
  have h1 := hdec _ (List.mem_of_getElem? hi)
  intro H locs ls hP hS hl
  exact lv_iload_n hx hb h1 rfl (kx_ls_at hl hL) (k H locs ls hP hS hl)
theorem x_iload {w : kx_W} {d : Nat} {own : String} {b : ByteArray} {nL : Nat} {cl : List (Nat × Instr × Nat)} {G : Nat → List (Option Value) → List Value → kx_M → Prop} (F : kx_Sb w d own b nL cl G) {i pc : Nat} {L : List (Option Value)} {S : List Value} {M : kx_M} {j : Nat} {x : Int32} (hi : cl[i]? = some (pc, .iload j, 2)) (hL : L[j]? = some (some (.int x))) (k : G (pc + 2) L (.int x :: S) M) : G pc L (S) M := by
  obtain ⟨p, e, R, s, mi, args, below, meth, c, cells, slots, Qf, rfl, hx, hb, hml, hown, hts, hK, hSt, hNe, hroom, hdec⟩ := F
  have h1 := hdec _ (List.mem_of_getElem? hi)
  intro H locs ls hP hS hl
  exact lv_iload hx hb h1 (kx_ls_at hl hL) (k H locs ls hP hS hl)
theorem x_lload_n {w : kx_W} {d : Nat} {own : String} {b : ByteArray} {nL : Nat} {cl : List (Nat × Instr × Nat)} {G : Nat → List (Option Value) → List Value → kx_M → Prop} (F : kx_Sb w d own b nL cl G) {i pc : Nat} {L : List (Option Value)} {S : List Value} {M : kx_M} {j : Fin 4} {x : Int64} (hi : cl[i]? = some (pc, .lload_n j, 1)) (hL : L[(j : Nat)]? = some (some (.long x))) (k : G (pc + 1) L (.long x :: S) M) : G pc L (S) M := by
  obtain ⟨p, e, R, s, mi, args, below, meth, c, cells, slots, Qf, rfl, hx, hb, hml, hown, hts, hK, hSt, hNe, hroom, hdec⟩ := F
  have h1 := hdec _ (List.mem_of_getElem? hi)
  intro H locs ls hP hS hl
  exact lv_lload_n hx hb h1 rfl (kx_ls_at hl hL) (k H locs ls hP hS hl)
theorem x_lload {w : kx_W} {d : Nat} {own : String} {b : ByteArray} {nL : Nat} {cl : List (Nat × Instr × Nat)} {G : Nat → List (Option Value) → List Value → kx_M → Prop} (F : kx_Sb w d own b nL cl G) {i pc : Nat} {L : List (Option Value)} {S : List Value} {M : kx_M} {j : Nat} {x : Int64} (hi : cl[i]? = some (pc, .lload j, 2)) (hL : L[j]? = some (some (.long x))) (k : G (pc + 2) L (.long x :: S) M) : G pc L (S) M := by
  obtain ⟨p, e, R, s, mi, args, below, meth, c, cells, slots, Qf, rfl, hx, hb, hml, hown, hts, hK, hSt, hNe, hroom, hdec⟩ := F
  have h1 := hdec _ (List.mem_of_getElem? hi)
  intro H locs ls hP hS hl
  exact lv_lload hx hb h1 (kx_ls_at hl hL) (k H locs ls hP hS hl)
theorem x_aload_n {w : kx_W} {d : Nat} {own : String} {b : ByteArray} {nL : Nat} {cl : List (Nat × Instr × Nat)} {G : Nat → List (Option Value) → List Value → kx_M → Prop} (F : kx_Sb w d own b nL cl G) {i pc : Nat} {L : List (Option Value)} {S : List Value} {M : kx_M} {j : Fin 4} {x : Nat} (hi : cl[i]? = some (pc, .aload_n j, 1)) (hL : L[(j : Nat)]? = some (some (.ref x))) (k : G (pc + 1) L (.ref x :: S) M) : G pc L (S) M := by
  obtain ⟨p, e, R, s, mi, args, below, meth, c, cells, slots, Qf, rfl, hx, hb, hml, hown, hts, hK, hSt, hNe, hroom, hdec⟩ := F
  have h1 := hdec _ (List.mem_of_getElem? hi)
  intro H locs ls hP hS hl
  exact lv_aload_n hx hb h1 rfl (kx_ls_at hl hL) (k H locs ls hP hS hl)
theorem x_aload {w : kx_W} {d : Nat} {own : String} {b : ByteArray} {nL : Nat} {cl : List (Nat × Instr × Nat)} {G : Nat → List (Option Value) → List Value → kx_M → Prop} (F : kx_Sb w d own b nL cl G) {i pc : Nat} {L : List (Option Value)} {S : List Value} {M : kx_M} {j : Nat} {x : Nat} (hi : cl[i]? = some (pc, .aload j, 2)) (hL : L[j]? = some (some (.ref x))) (k : G (pc + 2) L (.ref x :: S) M) : G pc L (S) M := by
  obtain ⟨p, e, R, s, mi, args, below, meth, c, cells, slots, Qf, rfl, hx, hb, hml, hown, hts, hK, hSt, hNe, hroom, hdec⟩ := F
  have h1 := hdec _ (List.mem_of_getElem? hi)
  intro H locs ls hP hS hl
  exact lv_aload hx hb h1 (kx_ls_at hl hL) (k H locs ls hP hS hl)
theorem x_aloadz_n {w : kx_W} {d : Nat} {own : String} {b : ByteArray} {nL : Nat} {cl : List (Nat × Instr × Nat)} {G : Nat → List (Option Value) → List Value → kx_M → Prop} (F : kx_Sb w d own b nL cl G) {i pc : Nat} {L : List (Option Value)} {S : List Value} {M : kx_M} {j : Fin 4} {x : Nat} (hi : cl[i]? = some (pc, .aload_n j, 1)) (hL : L[(j : Nat)]? = some (some (.retAddr x))) (k : G (pc + 1) L (.retAddr x :: S) M) : G pc L (S) M := by
  obtain ⟨p, e, R, s, mi, args, below, meth, c, cells, slots, Qf, rfl, hx, hb, hml, hown, hts, hK, hSt, hNe, hroom, hdec⟩ := F
  have h1 := hdec _ (List.mem_of_getElem? hi)
  intro H locs ls hP hS hl
  exact lv_aload_n hx hb h1 rfl (kx_ls_at hl hL) (k H locs ls hP hS hl)
theorem x_istore_n {w : kx_W} {d : Nat} {own : String} {b : ByteArray} {nL : Nat} {cl : List (Nat × Instr × Nat)} {G : Nat → List (Option Value) → List Value → kx_M → Prop} (F : kx_Sb w d own b nL cl G) {i pc : Nat} {L : List (Option Value)} {S : List Value} {M : kx_M} {j : Fin 4} {x : Int32} (hi : cl[i]? = some (pc, .istore_n j, 1)) (hj : (j : Nat) < nL) (hj2 : (j : Nat) < L.length) (hc : kx_nl L j = true) (k : G (pc + 1) (L.set j (some (.int x))) S M) : G pc L (.int x :: S) M := by
  obtain ⟨p, e, R, s, mi, args, below, meth, c, cells, slots, Qf, rfl, hx, hb, hml, hown, hts, hK, hSt, hNe, hroom, hdec⟩ := F
  have h1 := hdec _ (List.mem_of_getElem? hi)
  intro H locs ls hP hS hl
  exact lv_istore_n hx hb h1 rfl hl hj rfl (fun ls hl => k H locs ls hP hS (kx_ls_set1 hj2 hc hl))
theorem x_istore {w : kx_W} {d : Nat} {own : String} {b : ByteArray} {nL : Nat} {cl : List (Nat × Instr × Nat)} {G : Nat → List (Option Value) → List Value → kx_M → Prop} (F : kx_Sb w d own b nL cl G) {i pc : Nat} {L : List (Option Value)} {S : List Value} {M : kx_M} {j : Nat} {x : Int32} (hi : cl[i]? = some (pc, .istore j, 2)) (hj : j < nL) (hj2 : j < L.length) (hc : kx_nl L j = true) (k : G (pc + 2) (L.set j (some (.int x))) S M) : G pc L (.int x :: S) M := by
  obtain ⟨p, e, R, s, mi, args, below, meth, c, cells, slots, Qf, rfl, hx, hb, hml, hown, hts, hK, hSt, hNe, hroom, hdec⟩ := F
  have h1 := hdec _ (List.mem_of_getElem? hi)
  intro H locs ls hP hS hl
  exact lv_istore hx hb h1 hl hj rfl (fun ls hl => k H locs ls hP hS (kx_ls_set1 hj2 hc hl))
theorem x_astore_n {w : kx_W} {d : Nat} {own : String} {b : ByteArray} {nL : Nat} {cl : List (Nat × Instr × Nat)} {G : Nat → List (Option Value) → List Value → kx_M → Prop} (F : kx_Sb w d own b nL cl G) {i pc : Nat} {L : List (Option Value)} {S : List Value} {M : kx_M} {j : Fin 4} {x : Nat} (hi : cl[i]? = some (pc, .astore_n j, 1)) (hj : (j : Nat) < nL) (hj2 : (j : Nat) < L.length) (hc : kx_nl L j = true) (k : G (pc + 1) (L.set j (some (.ref x))) S M) : G pc L (.ref x :: S) M := by
  obtain ⟨p, e, R, s, mi, args, below, meth, c, cells, slots, Qf, rfl, hx, hb, hml, hown, hts, hK, hSt, hNe, hroom, hdec⟩ := F
  have h1 := hdec _ (List.mem_of_getElem? hi)
  intro H locs ls hP hS hl
  exact lv_astore_n hx hb h1 rfl hl hj rfl (fun ls hl => k H locs ls hP hS (kx_ls_set1 hj2 hc hl))
theorem x_astore {w : kx_W} {d : Nat} {own : String} {b : ByteArray} {nL : Nat} {cl : List (Nat × Instr × Nat)} {G : Nat → List (Option Value) → List Value → kx_M → Prop} (F : kx_Sb w d own b nL cl G) {i pc : Nat} {L : List (Option Value)} {S : List Value} {M : kx_M} {j : Nat} {x : Nat} (hi : cl[i]? = some (pc, .astore j, 2)) (hj : j < nL) (hj2 : j < L.length) (hc : kx_nl L j = true) (k : G (pc + 2) (L.set j (some (.ref x))) S M) : G pc L (.ref x :: S) M := by
  obtain ⟨p, e, R, s, mi, args, below, meth, c, cells, slots, Qf, rfl, hx, hb, hml, hown, hts, hK, hSt, hNe, hroom, hdec⟩ := F
  have h1 := hdec _ (List.mem_of_getElem? hi)
  intro H locs ls hP hS hl
  exact lv_astore hx hb h1 hl hj rfl (fun ls hl => k H locs ls hP hS (kx_ls_set1 hj2 hc hl))
theorem x_lstore_n {w : kx_W} {d : Nat} {own : String} {b : ByteArray} {nL : Nat} {cl : List (Nat × Instr × Nat)} {G : Nat → List (Option Value) → List Value → kx_M → Prop} (F : kx_Sb w d own b nL cl G) {i pc : Nat} {L : List (Option Value)} {S : List Value} {M : kx_M} {j : Fin 4} {x : Int64} (hi : cl[i]? = some (pc, .lstore_n j, 1)) (hj : (j : Nat) + 1 < nL) (hj2 : (j : Nat) < L.length) (hc : kx_nl L j = true) (k : G (pc + 1) ((L.set j (some (.long x))).set (j + 1) none) S M) : G pc L (.long x :: S) M := by
  obtain ⟨p, e, R, s, mi, args, below, meth, c, cells, slots, Qf, rfl, hx, hb, hml, hown, hts, hK, hSt, hNe, hroom, hdec⟩ := F
  have h1 := hdec _ (List.mem_of_getElem? hi)
  intro H locs ls hP hS hl
  exact lv_lstore_n hx hb h1 rfl hl hj rfl (fun ls hl => k H locs ls hP hS (kx_ls_set2 hj2 hc hl))
theorem x_lstore {w : kx_W} {d : Nat} {own : String} {b : ByteArray} {nL : Nat} {cl : List (Nat × Instr × Nat)} {G : Nat → List (Option Value) → List Value → kx_M → Prop} (F : kx_Sb w d own b nL cl G) {i pc : Nat} {L : List (Option Value)} {S : List Value} {M : kx_M} {j : Nat} {x : Int64} (hi : cl[i]? = some (pc, .lstore j, 2)) (hj : j + 1 < nL) (hj2 : j < L.length) (hc : kx_nl L j = true) (k : G (pc + 2) ((L.set j (some (.long x))).set (j + 1) none) S M) : G pc L (.long x :: S) M := by
  obtain ⟨p, e, R, s, mi, args, below, meth, c, cells, slots, Qf, rfl, hx, hb, hml, hown, hts, hK, hSt, hNe, hroom, hdec⟩ := F
  have h1 := hdec _ (List.mem_of_getElem? hi)
  intro H locs ls hP hS hl
  exact lv_lstore hx hb h1 hl hj rfl (fun ls hl => k H locs ls hP hS (kx_ls_set2 hj2 hc hl))
theorem x_iinc {w : kx_W} {d : Nat} {own : String} {b : ByteArray} {nL : Nat} {cl : List (Nat × Instr × Nat)} {G : Nat → List (Option Value) → List Value → kx_M → Prop} (F : kx_Sb w d own b nL cl G) {i pc : Nat} {L : List (Option Value)} {S : List Value} {M : kx_M} {j : Nat} {n : Int} {x v : Int32} (hi : cl[i]? = some (pc, .iinc j n, 3)) (hL : L[j]? = some (some (.int x))) (hv : x + Int32.ofInt n = v) (hj : j < nL) (hc : kx_nl L j = true) (k : G (pc + 3) (L.set j (some (.int v))) S M) : G pc L S M := by
  obtain ⟨p, e, R, s, mi, args, below, meth, c, cells, slots, Qf, rfl, hx, hb, hml, hown, hts, hK, hSt, hNe, hroom, hdec⟩ := F
  have h1 := hdec _ (List.mem_of_getElem? hi)
  intro H locs ls hP hS hl
  obtain ⟨q, hq⟩ := List.getElem?_of_mem (kx_lp_mem (w := w) hL)
  exact lv_iinc hx hb h1 hl hq hv hj rfl (fun ls hl => k H locs ls hP hS (kx_ls_set1 (List.getElem?_eq_some_iff.mp hL).1 hc hl))
theorem x_iadd {w : kx_W} {d : Nat} {own : String} {b : ByteArray} {nL : Nat} {cl : List (Nat × Instr × Nat)} {G : Nat → List (Option Value) → List Value → kx_M → Prop} (F : kx_Sb w d own b nL cl G) {i pc : Nat} {L : List (Option Value)} {S : List Value} {M : kx_M} {x y : Int32} (hi : cl[i]? = some (pc, .iadd, 1))  (k : G (pc + 1) L (.int (x + y) :: S) M) : G pc L (.int y :: .int x :: S) M := by
  obtain ⟨p, e, R, s, mi, args, below, meth, c, cells, slots, Qf, rfl, hx, hb, hml, hown, hts, hK, hSt, hNe, hroom, hdec⟩ := F
  have h1 := hdec _ (List.mem_of_getElem? hi)
  intro H locs ls hP hS hl
  exact lv_iadd hx hb h1  (k H locs ls hP hS hl)
theorem x_isub {w : kx_W} {d : Nat} {own : String} {b : ByteArray} {nL : Nat} {cl : List (Nat × Instr × Nat)} {G : Nat → List (Option Value) → List Value → kx_M → Prop} (F : kx_Sb w d own b nL cl G) {i pc : Nat} {L : List (Option Value)} {S : List Value} {M : kx_M} {x y : Int32} (hi : cl[i]? = some (pc, .isub, 1))  (k : G (pc + 1) L (.int (x - y) :: S) M) : G pc L (.int y :: .int x :: S) M := by
  obtain ⟨p, e, R, s, mi, args, below, meth, c, cells, slots, Qf, rfl, hx, hb, hml, hown, hts, hK, hSt, hNe, hroom, hdec⟩ := F
  have h1 := hdec _ (List.mem_of_getElem? hi)
  intro H locs ls hP hS hl
  exact lv_isub hx hb h1  (k H locs ls hP hS hl)
theorem x_imul {w : kx_W} {d : Nat} {own : String} {b : ByteArray} {nL : Nat} {cl : List (Nat × Instr × Nat)} {G : Nat → List (Option Value) → List Value → kx_M → Prop} (F : kx_Sb w d own b nL cl G) {i pc : Nat} {L : List (Option Value)} {S : List Value} {M : kx_M} {x y : Int32} (hi : cl[i]? = some (pc, .imul, 1))  (k : G (pc + 1) L (.int (x * y) :: S) M) : G pc L (.int y :: .int x :: S) M := by
  obtain ⟨p, e, R, s, mi, args, below, meth, c, cells, slots, Qf, rfl, hx, hb, hml, hown, hts, hK, hSt, hNe, hroom, hdec⟩ := F
  have h1 := hdec _ (List.mem_of_getElem? hi)
  intro H locs ls hP hS hl
  exact lv_imul hx hb h1  (k H locs ls hP hS hl)
theorem x_iand {w : kx_W} {d : Nat} {own : String} {b : ByteArray} {nL : Nat} {cl : List (Nat × Instr × Nat)} {G : Nat → List (Option Value) → List Value → kx_M → Prop} (F : kx_Sb w d own b nL cl G) {i pc : Nat} {L : List (Option Value)} {S : List Value} {M : kx_M} {x y : Int32} (hi : cl[i]? = some (pc, .iand, 1))  (k : G (pc + 1) L (.int (x &&& y) :: S) M) : G pc L (.int y :: .int x :: S) M := by
  obtain ⟨p, e, R, s, mi, args, below, meth, c, cells, slots, Qf, rfl, hx, hb, hml, hown, hts, hK, hSt, hNe, hroom, hdec⟩ := F
  have h1 := hdec _ (List.mem_of_getElem? hi)
  intro H locs ls hP hS hl
  exact lv_iand hx hb h1  (k H locs ls hP hS hl)
theorem x_ior {w : kx_W} {d : Nat} {own : String} {b : ByteArray} {nL : Nat} {cl : List (Nat × Instr × Nat)} {G : Nat → List (Option Value) → List Value → kx_M → Prop} (F : kx_Sb w d own b nL cl G) {i pc : Nat} {L : List (Option Value)} {S : List Value} {M : kx_M} {x y : Int32} (hi : cl[i]? = some (pc, .ior, 1))  (k : G (pc + 1) L (.int (x ||| y) :: S) M) : G pc L (.int y :: .int x :: S) M := by
  obtain ⟨p, e, R, s, mi, args, below, meth, c, cells, slots, Qf, rfl, hx, hb, hml, hown, hts, hK, hSt, hNe, hroom, hdec⟩ := F
  have h1 := hdec _ (List.mem_of_getElem? hi)
  intro H locs ls hP hS hl
  exact lv_ior hx hb h1  (k H locs ls hP hS hl)
theorem x_ixor {w : kx_W} {d : Nat} {own : String} {b : ByteArray} {nL : Nat} {cl : List (Nat × Instr × Nat)} {G : Nat → List (Option Value) → List Value → kx_M → Prop} (F : kx_Sb w d own b nL cl G) {i pc : Nat} {L : List (Option Value)} {S : List Value} {M : kx_M} {x y : Int32} (hi : cl[i]? = some (pc, .ixor, 1))  (k : G (pc + 1) L (.int (x ^^^ y) :: S) M) : G pc L (.int y :: .int x :: S) M := by
  obtain ⟨p, e, R, s, mi, args, below, meth, c, cells, slots, Qf, rfl, hx, hb, hml, hown, hts, hK, hSt, hNe, hroom, hdec⟩ := F
  have h1 := hdec _ (List.mem_of_getElem? hi)
  intro H locs ls hP hS hl
  exact lv_ixor hx hb h1  (k H locs ls hP hS hl)
theorem x_idiv {w : kx_W} {d : Nat} {own : String} {b : ByteArray} {nL : Nat} {cl : List (Nat × Instr × Nat)} {G : Nat → List (Option Value) → List Value → kx_M → Prop} (F : kx_Sb w d own b nL cl G) {i pc : Nat} {L : List (Option Value)} {S : List Value} {M : kx_M} {x y v : Int32} (hi : cl[i]? = some (pc, .idiv, 1)) (hne : ¬ y = 0) (k : G (pc + 1) L (.int (x / y) :: S) M) : G pc L (.int y :: .int x :: S) M := by
  obtain ⟨p, e, R, s, mi, args, below, meth, c, cells, slots, Qf, rfl, hx, hb, hml, hown, hts, hK, hSt, hNe, hroom, hdec⟩ := F
  have h1 := hdec _ (List.mem_of_getElem? hi)
  intro H locs ls hP hS hl
  exact lv_idiv hx hb h1 hne (k H locs ls hP hS hl)
theorem x_irem {w : kx_W} {d : Nat} {own : String} {b : ByteArray} {nL : Nat} {cl : List (Nat × Instr × Nat)} {G : Nat → List (Option Value) → List Value → kx_M → Prop} (F : kx_Sb w d own b nL cl G) {i pc : Nat} {L : List (Option Value)} {S : List Value} {M : kx_M} {x y v : Int32} (hi : cl[i]? = some (pc, .irem, 1)) (hne : ¬ y = 0) (k : G (pc + 1) L (.int (x - x / y * y) :: S) M) : G pc L (.int y :: .int x :: S) M := by
  obtain ⟨p, e, R, s, mi, args, below, meth, c, cells, slots, Qf, rfl, hx, hb, hml, hown, hts, hK, hSt, hNe, hroom, hdec⟩ := F
  have h1 := hdec _ (List.mem_of_getElem? hi)
  intro H locs ls hP hS hl
  exact lv_irem hx hb h1 hne (k H locs ls hP hS hl)
theorem x_ishl {w : kx_W} {d : Nat} {own : String} {b : ByteArray} {nL : Nat} {cl : List (Nat × Instr × Nat)} {G : Nat → List (Option Value) → List Value → kx_M → Prop} (F : kx_Sb w d own b nL cl G) {i pc : Nat} {L : List (Option Value)} {S : List Value} {M : kx_M} {x y : Int32} (hi : cl[i]? = some (pc, .ishl, 1))  (k : G (pc + 1) L (.int (x <<< (y &&& 31)) :: S) M) : G pc L (.int y :: .int x :: S) M := by
  obtain ⟨p, e, R, s, mi, args, below, meth, c, cells, slots, Qf, rfl, hx, hb, hml, hown, hts, hK, hSt, hNe, hroom, hdec⟩ := F
  have h1 := hdec _ (List.mem_of_getElem? hi)
  intro H locs ls hP hS hl
  exact lv_ishl hx hb h1  (k H locs ls hP hS hl)
theorem x_ishr {w : kx_W} {d : Nat} {own : String} {b : ByteArray} {nL : Nat} {cl : List (Nat × Instr × Nat)} {G : Nat → List (Option Value) → List Value → kx_M → Prop} (F : kx_Sb w d own b nL cl G) {i pc : Nat} {L : List (Option Value)} {S : List Value} {M : kx_M} {x y : Int32} (hi : cl[i]? = some (pc, .ishr, 1))  (k : G (pc + 1) L (.int (x >>> (y &&& 31)) :: S) M) : G pc L (.int y :: .int x :: S) M := by
  obtain ⟨p, e, R, s, mi, args, below, meth, c, cells, slots, Qf, rfl, hx, hb, hml, hown, hts, hK, hSt, hNe, hroom, hdec⟩ := F
  have h1 := hdec _ (List.mem_of_getElem? hi)
  intro H locs ls hP hS hl
  exact lv_ishr hx hb h1  (k H locs ls hP hS hl)
theorem x_iushr {w : kx_W} {d : Nat} {own : String} {b : ByteArray} {nL : Nat} {cl : List (Nat × Instr × Nat)} {G : Nat → List (Option Value) → List Value → kx_M → Prop} (F : kx_Sb w d own b nL cl G) {i pc : Nat} {L : List (Option Value)} {S : List Value} {M : kx_M} {x y : Int32} (hi : cl[i]? = some (pc, .iushr, 1))  (k : G (pc + 1) L (.int ((x.toUInt32 >>> (y.toUInt32 &&& Int32.toUInt32 31)).toInt32) :: S) M) : G pc L (.int y :: .int x :: S) M := by
  obtain ⟨p, e, R, s, mi, args, below, meth, c, cells, slots, Qf, rfl, hx, hb, hml, hown, hts, hK, hSt, hNe, hroom, hdec⟩ := F
  have h1 := hdec _ (List.mem_of_getElem? hi)
  intro H locs ls hP hS hl
  exact lv_iushr hx hb h1 rfl (k H locs ls hP hS hl)
theorem x_ladd {w : kx_W} {d : Nat} {own : String} {b : ByteArray} {nL : Nat} {cl : List (Nat × Instr × Nat)} {G : Nat → List (Option Value) → List Value → kx_M → Prop} (F : kx_Sb w d own b nL cl G) {i pc : Nat} {L : List (Option Value)} {S : List Value} {M : kx_M} {x y : Int64} (hi : cl[i]? = some (pc, .ladd, 1))  (k : G (pc + 1) L (.long (x + y) :: S) M) : G pc L (.long y :: .long x :: S) M := by
  obtain ⟨p, e, R, s, mi, args, below, meth, c, cells, slots, Qf, rfl, hx, hb, hml, hown, hts, hK, hSt, hNe, hroom, hdec⟩ := F
  have h1 := hdec _ (List.mem_of_getElem? hi)
  intro H locs ls hP hS hl
  exact lv_ladd hx hb h1  (k H locs ls hP hS hl)
theorem x_lsub {w : kx_W} {d : Nat} {own : String} {b : ByteArray} {nL : Nat} {cl : List (Nat × Instr × Nat)} {G : Nat → List (Option Value) → List Value → kx_M → Prop} (F : kx_Sb w d own b nL cl G) {i pc : Nat} {L : List (Option Value)} {S : List Value} {M : kx_M} {x y : Int64} (hi : cl[i]? = some (pc, .lsub, 1))  (k : G (pc + 1) L (.long (x - y) :: S) M) : G pc L (.long y :: .long x :: S) M := by
  obtain ⟨p, e, R, s, mi, args, below, meth, c, cells, slots, Qf, rfl, hx, hb, hml, hown, hts, hK, hSt, hNe, hroom, hdec⟩ := F
  have h1 := hdec _ (List.mem_of_getElem? hi)
  intro H locs ls hP hS hl
  exact lv_lsub hx hb h1  (k H locs ls hP hS hl)
theorem x_lmul {w : kx_W} {d : Nat} {own : String} {b : ByteArray} {nL : Nat} {cl : List (Nat × Instr × Nat)} {G : Nat → List (Option Value) → List Value → kx_M → Prop} (F : kx_Sb w d own b nL cl G) {i pc : Nat} {L : List (Option Value)} {S : List Value} {M : kx_M} {x y : Int64} (hi : cl[i]? = some (pc, .lmul, 1))  (k : G (pc + 1) L (.long (x * y) :: S) M) : G pc L (.long y :: .long x :: S) M := by
  obtain ⟨p, e, R, s, mi, args, below, meth, c, cells, slots, Qf, rfl, hx, hb, hml, hown, hts, hK, hSt, hNe, hroom, hdec⟩ := F
  have h1 := hdec _ (List.mem_of_getElem? hi)
  intro H locs ls hP hS hl
  exact lv_lmul hx hb h1  (k H locs ls hP hS hl)
theorem x_land {w : kx_W} {d : Nat} {own : String} {b : ByteArray} {nL : Nat} {cl : List (Nat × Instr × Nat)} {G : Nat → List (Option Value) → List Value → kx_M → Prop} (F : kx_Sb w d own b nL cl G) {i pc : Nat} {L : List (Option Value)} {S : List Value} {M : kx_M} {x y : Int64} (hi : cl[i]? = some (pc, .land, 1))  (k : G (pc + 1) L (.long (x &&& y) :: S) M) : G pc L (.long y :: .long x :: S) M := by
  obtain ⟨p, e, R, s, mi, args, below, meth, c, cells, slots, Qf, rfl, hx, hb, hml, hown, hts, hK, hSt, hNe, hroom, hdec⟩ := F
  have h1 := hdec _ (List.mem_of_getElem? hi)
  intro H locs ls hP hS hl
  exact lv_land hx hb h1  (k H locs ls hP hS hl)
theorem x_lor {w : kx_W} {d : Nat} {own : String} {b : ByteArray} {nL : Nat} {cl : List (Nat × Instr × Nat)} {G : Nat → List (Option Value) → List Value → kx_M → Prop} (F : kx_Sb w d own b nL cl G) {i pc : Nat} {L : List (Option Value)} {S : List Value} {M : kx_M} {x y : Int64} (hi : cl[i]? = some (pc, .lor, 1))  (k : G (pc + 1) L (.long (x ||| y) :: S) M) : G pc L (.long y :: .long x :: S) M := by
  obtain ⟨p, e, R, s, mi, args, below, meth, c, cells, slots, Qf, rfl, hx, hb, hml, hown, hts, hK, hSt, hNe, hroom, hdec⟩ := F
  have h1 := hdec _ (List.mem_of_getElem? hi)
  intro H locs ls hP hS hl
  exact lv_lor hx hb h1  (k H locs ls hP hS hl)
theorem x_ldiv {w : kx_W} {d : Nat} {own : String} {b : ByteArray} {nL : Nat} {cl : List (Nat × Instr × Nat)} {G : Nat → List (Option Value) → List Value → kx_M → Prop} (F : kx_Sb w d own b nL cl G) {i pc : Nat} {L : List (Option Value)} {S : List Value} {M : kx_M} {x y : Int64} (hi : cl[i]? = some (pc, .ldiv, 1)) (hne : ¬ y = 0) (k : G (pc + 1) L (.long (x / y) :: S) M) : G pc L (.long y :: .long x :: S) M := by
  obtain ⟨p, e, R, s, mi, args, below, meth, c, cells, slots, Qf, rfl, hx, hb, hml, hown, hts, hK, hSt, hNe, hroom, hdec⟩ := F
  have h1 := hdec _ (List.mem_of_getElem? hi)
  intro H locs ls hP hS hl
  exact lv_ldiv hx hb h1 hne (k H locs ls hP hS hl)
theorem x_lrem {w : kx_W} {d : Nat} {own : String} {b : ByteArray} {nL : Nat} {cl : List (Nat × Instr × Nat)} {G : Nat → List (Option Value) → List Value → kx_M → Prop} (F : kx_Sb w d own b nL cl G) {i pc : Nat} {L : List (Option Value)} {S : List Value} {M : kx_M} {x y : Int64} (hi : cl[i]? = some (pc, .lrem, 1)) (hne : ¬ y = 0) (k : G (pc + 1) L (.long (x - x / y * y) :: S) M) : G pc L (.long y :: .long x :: S) M := by
  obtain ⟨p, e, R, s, mi, args, below, meth, c, cells, slots, Qf, rfl, hx, hb, hml, hown, hts, hK, hSt, hNe, hroom, hdec⟩ := F
  have h1 := hdec _ (List.mem_of_getElem? hi)
  intro H locs ls hP hS hl
  exact lv_lrem hx hb h1 hne (k H locs ls hP hS hl)
theorem x_lshl {w : kx_W} {d : Nat} {own : String} {b : ByteArray} {nL : Nat} {cl : List (Nat × Instr × Nat)} {G : Nat → List (Option Value) → List Value → kx_M → Prop} (F : kx_Sb w d own b nL cl G) {i pc : Nat} {L : List (Option Value)} {S : List Value} {M : kx_M} {x : Int64} {y : Int32} (hi : cl[i]? = some (pc, .lshl, 1))  (k : G (pc + 1) L (.long (x <<< (y.toInt64 &&& 63)) :: S) M) : G pc L (.int y :: .long x :: S) M := by
  obtain ⟨p, e, R, s, mi, args, below, meth, c, cells, slots, Qf, rfl, hx, hb, hml, hown, hts, hK, hSt, hNe, hroom, hdec⟩ := F
  have h1 := hdec _ (List.mem_of_getElem? hi)
  intro H locs ls hP hS hl
  exact lv_lshl hx hb h1 rfl (k H locs ls hP hS hl)
theorem x_lshr {w : kx_W} {d : Nat} {own : String} {b : ByteArray} {nL : Nat} {cl : List (Nat × Instr × Nat)} {G : Nat → List (Option Value) → List Value → kx_M → Prop} (F : kx_Sb w d own b nL cl G) {i pc : Nat} {L : List (Option Value)} {S : List Value} {M : kx_M} {x : Int64} {y : Int32} (hi : cl[i]? = some (pc, .lshr, 1))  (k : G (pc + 1) L (.long (x >>> (y.toInt64 &&& 63)) :: S) M) : G pc L (.int y :: .long x :: S) M := by
  obtain ⟨p, e, R, s, mi, args, below, meth, c, cells, slots, Qf, rfl, hx, hb, hml, hown, hts, hK, hSt, hNe, hroom, hdec⟩ := F
  have h1 := hdec _ (List.mem_of_getElem? hi)
  intro H locs ls hP hS hl
  exact lv_lshr hx hb h1 rfl (k H locs ls hP hS hl)
theorem x_i2l {w : kx_W} {d : Nat} {own : String} {b : ByteArray} {nL : Nat} {cl : List (Nat × Instr × Nat)} {G : Nat → List (Option Value) → List Value → kx_M → Prop} (F : kx_Sb w d own b nL cl G) {i pc : Nat} {L : List (Option Value)} {S : List Value} {M : kx_M} {x : Int32} (hi : cl[i]? = some (pc, .i2l, 1))  (k : G (pc + 1) L (.long x.toInt64 :: S) M) : G pc L (.int x :: S) M := by
  obtain ⟨p, e, R, s, mi, args, below, meth, c, cells, slots, Qf, rfl, hx, hb, hml, hown, hts, hK, hSt, hNe, hroom, hdec⟩ := F
  have h1 := hdec _ (List.mem_of_getElem? hi)
  intro H locs ls hP hS hl
  exact lv_i2l hx hb h1 rfl (k H locs ls hP hS hl)
theorem x_l2i {w : kx_W} {d : Nat} {own : String} {b : ByteArray} {nL : Nat} {cl : List (Nat × Instr × Nat)} {G : Nat → List (Option Value) → List Value → kx_M → Prop} (F : kx_Sb w d own b nL cl G) {i pc : Nat} {L : List (Option Value)} {S : List Value} {M : kx_M} {x : Int64} (hi : cl[i]? = some (pc, .l2i, 1))  (k : G (pc + 1) L (.int x.toInt32 :: S) M) : G pc L (.long x :: S) M := by
  obtain ⟨p, e, R, s, mi, args, below, meth, c, cells, slots, Qf, rfl, hx, hb, hml, hown, hts, hK, hSt, hNe, hroom, hdec⟩ := F
  have h1 := hdec _ (List.mem_of_getElem? hi)
  intro H locs ls hP hS hl
  exact lv_l2i hx hb h1 rfl (k H locs ls hP hS hl)
theorem x_i2b {w : kx_W} {d : Nat} {own : String} {b : ByteArray} {nL : Nat} {cl : List (Nat × Instr × Nat)} {G : Nat → List (Option Value) → List Value → kx_M → Prop} (F : kx_Sb w d own b nL cl G) {i pc : Nat} {L : List (Option Value)} {S : List Value} {M : kx_M} {x : Int32} (hi : cl[i]? = some (pc, .i2b, 1))  (k : G (pc + 1) L (.int x.toInt8.toInt32 :: S) M) : G pc L (.int x :: S) M := by
  obtain ⟨p, e, R, s, mi, args, below, meth, c, cells, slots, Qf, rfl, hx, hb, hml, hown, hts, hK, hSt, hNe, hroom, hdec⟩ := F
  have h1 := hdec _ (List.mem_of_getElem? hi)
  intro H locs ls hP hS hl
  exact lv_i2b hx hb h1 rfl (k H locs ls hP hS hl)
theorem x_i2s {w : kx_W} {d : Nat} {own : String} {b : ByteArray} {nL : Nat} {cl : List (Nat × Instr × Nat)} {G : Nat → List (Option Value) → List Value → kx_M → Prop} (F : kx_Sb w d own b nL cl G) {i pc : Nat} {L : List (Option Value)} {S : List Value} {M : kx_M} {x : Int32} (hi : cl[i]? = some (pc, .i2s, 1))  (k : G (pc + 1) L (.int x.toInt16.toInt32 :: S) M) : G pc L (.int x :: S) M := by
  obtain ⟨p, e, R, s, mi, args, below, meth, c, cells, slots, Qf, rfl, hx, hb, hml, hown, hts, hK, hSt, hNe, hroom, hdec⟩ := F
  have h1 := hdec _ (List.mem_of_getElem? hi)
  intro H locs ls hP hS hl
  exact lv_i2s hx hb h1 rfl (k H locs ls hP hS hl)
theorem x_lcmp {w : kx_W} {d : Nat} {own : String} {b : ByteArray} {nL : Nat} {cl : List (Nat × Instr × Nat)} {G : Nat → List (Option Value) → List Value → kx_M → Prop} (F : kx_Sb w d own b nL cl G) {i pc : Nat} {L : List (Option Value)} {S : List Value} {M : kx_M} {x y : Int64} (hi : cl[i]? = some (pc, .lcmp, 1))  (k : G (pc + 1) L (.int (lg_cmp x y) :: S) M) : G pc L (.long y :: .long x :: S) M := by
  obtain ⟨p, e, R, s, mi, args, below, meth, c, cells, slots, Qf, rfl, hx, hb, hml, hown, hts, hK, hSt, hNe, hroom, hdec⟩ := F
  have h1 := hdec _ (List.mem_of_getElem? hi)
  intro H locs ls hP hS hl
  exact W.lcmp hx hb h1  (k H locs ls hP hS hl)
theorem x_dup {w : kx_W} {d : Nat} {own : String} {b : ByteArray} {nL : Nat} {cl : List (Nat × Instr × Nat)} {G : Nat → List (Option Value) → List Value → kx_M → Prop} (F : kx_Sb w d own b nL cl G) {i pc : Nat} {L : List (Option Value)} {S : List Value} {M : kx_M} {v : Value} (hi : cl[i]? = some (pc, .dup, 1)) (hv : v.category = 1) (k : G (pc + 1) L (v :: v :: S) M) : G pc L (v :: S) M := by
  obtain ⟨p, e, R, s, mi, args, below, meth, c, cells, slots, Qf, rfl, hx, hb, hml, hown, hts, hK, hSt, hNe, hroom, hdec⟩ := F
  have h1 := hdec _ (List.mem_of_getElem? hi)
  intro H locs ls hP hS hl
  exact lv_dup hx hb h1 ((kx_cv_cat w v).trans hv) (k H locs ls hP hS hl)
theorem x_pop {w : kx_W} {d : Nat} {own : String} {b : ByteArray} {nL : Nat} {cl : List (Nat × Instr × Nat)} {G : Nat → List (Option Value) → List Value → kx_M → Prop} (F : kx_Sb w d own b nL cl G) {i pc : Nat} {L : List (Option Value)} {S : List Value} {M : kx_M} {v : Value} (hi : cl[i]? = some (pc, .pop, 1)) (hv : v.category = 1) (k : G (pc + 1) L (S) M) : G pc L (v :: S) M := by
  obtain ⟨p, e, R, s, mi, args, below, meth, c, cells, slots, Qf, rfl, hx, hb, hml, hown, hts, hK, hSt, hNe, hroom, hdec⟩ := F
  have h1 := hdec _ (List.mem_of_getElem? hi)
  intro H locs ls hP hS hl
  exact lv_pop hx hb h1 ((kx_cv_cat w v).trans hv) (k H locs ls hP hS hl)
theorem x_dup2 {w : kx_W} {d : Nat} {own : String} {b : ByteArray} {nL : Nat} {cl : List (Nat × Instr × Nat)} {G : Nat → List (Option Value) → List Value → kx_M → Prop} (F : kx_Sb w d own b nL cl G) {i pc : Nat} {L : List (Option Value)} {S : List Value} {M : kx_M} {v u : Value} (hi : cl[i]? = some (pc, .dup2, 1)) (hv : v.category = 1) (hu : u.category = 1) (k : G (pc + 1) L (v :: u :: v :: u :: S) M) : G pc L (v :: u :: S) M := by
  obtain ⟨p, e, R, s, mi, args, below, meth, c, cells, slots, Qf, rfl, hx, hb, hml, hown, hts, hK, hSt, hNe, hroom, hdec⟩ := F
  have h1 := hdec _ (List.mem_of_getElem? hi)
  intro H locs ls hP hS hl
  exact lv_dup2_11 hx hb h1 ((kx_cv_cat w v).trans hv) ((kx_cv_cat w u).trans hu) (k H locs ls hP hS hl)
theorem x_if_eq {w : kx_W} {d : Nat} {own : String} {b : ByteArray} {nL : Nat} {cl : List (Nat × Instr × Nat)} {G : Nat → List (Option Value) → List Value → kx_M → Prop} (F : kx_Sb w d own b nL cl G) {i pc : Nat} {L : List (Option Value)} {S : List Value} {M : kx_M} {x : Int32} {off : Int} {tgt : Nat} (hi : cl[i]? = some (pc, .ifCond .eq off, 3)) (ht : (pc : Int) + off = (tgt : Int)) (kt : x = 0 → G tgt L S M) (kf : ¬ x = 0 → G (pc + 3) L S M) : G pc L (.int x :: S) M := by
  obtain ⟨p, e, R, s, mi, args, below, meth, c, cells, slots, Qf, rfl, hx, hb, hml, hown, hts, hK, hSt, hNe, hroom, hdec⟩ := F
  have h1 := hdec _ (List.mem_of_getElem? hi)
  intro H locs ls hP hS hl
  exact lv_if_eq hx hb h1 ht (fun h => kt h H locs ls hP hS hl) (fun h => kf h H locs ls hP hS hl)
theorem x_if_ne {w : kx_W} {d : Nat} {own : String} {b : ByteArray} {nL : Nat} {cl : List (Nat × Instr × Nat)} {G : Nat → List (Option Value) → List Value → kx_M → Prop} (F : kx_Sb w d own b nL cl G) {i pc : Nat} {L : List (Option Value)} {S : List Value} {M : kx_M} {x : Int32} {off : Int} {tgt : Nat} (hi : cl[i]? = some (pc, .ifCond .ne off, 3)) (ht : (pc : Int) + off = (tgt : Int)) (kt : ¬ x = 0 → G tgt L S M) (kf : x = 0 → G (pc + 3) L S M) : G pc L (.int x :: S) M := by
  obtain ⟨p, e, R, s, mi, args, below, meth, c, cells, slots, Qf, rfl, hx, hb, hml, hown, hts, hK, hSt, hNe, hroom, hdec⟩ := F
  have h1 := hdec _ (List.mem_of_getElem? hi)
  intro H locs ls hP hS hl
  exact lv_if_ne hx hb h1 ht (fun h => kt h H locs ls hP hS hl) (fun h => kf h H locs ls hP hS hl)
theorem x_if_lt {w : kx_W} {d : Nat} {own : String} {b : ByteArray} {nL : Nat} {cl : List (Nat × Instr × Nat)} {G : Nat → List (Option Value) → List Value → kx_M → Prop} (F : kx_Sb w d own b nL cl G) {i pc : Nat} {L : List (Option Value)} {S : List Value} {M : kx_M} {x : Int32} {off : Int} {tgt : Nat} (hi : cl[i]? = some (pc, .ifCond .lt off, 3)) (ht : (pc : Int) + off = (tgt : Int)) (kt : x < 0 → G tgt L S M) (kf : ¬ x < 0 → G (pc + 3) L S M) : G pc L (.int x :: S) M := by
  obtain ⟨p, e, R, s, mi, args, below, meth, c, cells, slots, Qf, rfl, hx, hb, hml, hown, hts, hK, hSt, hNe, hroom, hdec⟩ := F
  have h1 := hdec _ (List.mem_of_getElem? hi)
  intro H locs ls hP hS hl
  exact lv_if_lt hx hb h1 ht (fun h => kt h H locs ls hP hS hl) (fun h => kf h H locs ls hP hS hl)
theorem x_if_ge {w : kx_W} {d : Nat} {own : String} {b : ByteArray} {nL : Nat} {cl : List (Nat × Instr × Nat)} {G : Nat → List (Option Value) → List Value → kx_M → Prop} (F : kx_Sb w d own b nL cl G) {i pc : Nat} {L : List (Option Value)} {S : List Value} {M : kx_M} {x : Int32} {off : Int} {tgt : Nat} (hi : cl[i]? = some (pc, .ifCond .ge off, 3)) (ht : (pc : Int) + off = (tgt : Int)) (kt : 0 ≤ x → G tgt L S M) (kf : ¬ 0 ≤ x → G (pc + 3) L S M) : G pc L (.int x :: S) M := by
  obtain ⟨p, e, R, s, mi, args, below, meth, c, cells, slots, Qf, rfl, hx, hb, hml, hown, hts, hK, hSt, hNe, hroom, hdec⟩ := F
  have h1 := hdec _ (List.mem_of_getElem? hi)
  intro H locs ls hP hS hl
  exact lv_if_ge hx hb h1 ht (fun h => kt h H locs ls hP hS hl) (fun h => kf h H locs ls hP hS hl)
theorem x_if_gt {w : kx_W} {d : Nat} {own : String} {b : ByteArray} {nL : Nat} {cl : List (Nat × Instr × Nat)} {G : Nat → List (Option Value) → List Value → kx_M → Prop} (F : kx_Sb w d own b nL cl G) {i pc : Nat} {L : List (Option Value)} {S : List Value} {M : kx_M} {x : Int32} {off : Int} {tgt : Nat} (hi : cl[i]? = some (pc, .ifCond .gt off, 3)) (ht : (pc : Int) + off = (tgt : Int)) (kt : 0 < x → G tgt L S M) (kf : ¬ 0 < x → G (pc + 3) L S M) : G pc L (.int x :: S) M := by
  obtain ⟨p, e, R, s, mi, args, below, meth, c, cells, slots, Qf, rfl, hx, hb, hml, hown, hts, hK, hSt, hNe, hroom, hdec⟩ := F
  have h1 := hdec _ (List.mem_of_getElem? hi)
  intro H locs ls hP hS hl
  exact lv_if_gt hx hb h1 ht (fun h => kt h H locs ls hP hS hl) (fun h => kf h H locs ls hP hS hl)
theorem x_if_le {w : kx_W} {d : Nat} {own : String} {b : ByteArray} {nL : Nat} {cl : List (Nat × Instr × Nat)} {G : Nat → List (Option Value) → List Value → kx_M → Prop} (F : kx_Sb w d own b nL cl G) {i pc : Nat} {L : List (Option Value)} {S : List Value} {M : kx_M} {x : Int32} {off : Int} {tgt : Nat} (hi : cl[i]? = some (pc, .ifCond .le off, 3)) (ht : (pc : Int) + off = (tgt : Int)) (kt : x ≤ 0 → G tgt L S M) (kf : ¬ x ≤ 0 → G (pc + 3) L S M) : G pc L (.int x :: S) M := by
  obtain ⟨p, e, R, s, mi, args, below, meth, c, cells, slots, Qf, rfl, hx, hb, hml, hown, hts, hK, hSt, hNe, hroom, hdec⟩ := F
  have h1 := hdec _ (List.mem_of_getElem? hi)
  intro H locs ls hP hS hl
  exact lv_if_le hx hb h1 ht (fun h => kt h H locs ls hP hS hl) (fun h => kf h H locs ls hP hS hl)
theorem x_icmp_eq {w : kx_W} {d : Nat} {own : String} {b : ByteArray} {nL : Nat} {cl : List (Nat × Instr × Nat)} {G : Nat → List (Option Value) → List Value → kx_M → Prop} (F : kx_Sb w d own b nL cl G) {i pc : Nat} {L : List (Option Value)} {S : List Value} {M : kx_M} {x y : Int32} {off : Int} {tgt : Nat} (hi : cl[i]? = some (pc, .if_icmp .eq off, 3)) (ht : (pc : Int) + off = (tgt : Int)) (kt : x = y → G tgt L S M) (kf : ¬ x = y → G (pc + 3) L S M) : G pc L (.int y :: .int x :: S) M := by
  obtain ⟨p, e, R, s, mi, args, below, meth, c, cells, slots, Qf, rfl, hx, hb, hml, hown, hts, hK, hSt, hNe, hroom, hdec⟩ := F
  have h1 := hdec _ (List.mem_of_getElem? hi)
  intro H locs ls hP hS hl
  exact lv_icmp_eq hx hb h1 ht (fun h => kt h H locs ls hP hS hl) (fun h => kf h H locs ls hP hS hl)
theorem x_icmp_ne {w : kx_W} {d : Nat} {own : String} {b : ByteArray} {nL : Nat} {cl : List (Nat × Instr × Nat)} {G : Nat → List (Option Value) → List Value → kx_M → Prop} (F : kx_Sb w d own b nL cl G) {i pc : Nat} {L : List (Option Value)} {S : List Value} {M : kx_M} {x y : Int32} {off : Int} {tgt : Nat} (hi : cl[i]? = some (pc, .if_icmp .ne off, 3)) (ht : (pc : Int) + off = (tgt : Int)) (kt : ¬ x = y → G tgt L S M) (kf : x = y → G (pc + 3) L S M) : G pc L (.int y :: .int x :: S) M := by
  obtain ⟨p, e, R, s, mi, args, below, meth, c, cells, slots, Qf, rfl, hx, hb, hml, hown, hts, hK, hSt, hNe, hroom, hdec⟩ := F
  have h1 := hdec _ (List.mem_of_getElem? hi)
  intro H locs ls hP hS hl
  exact lv_icmp_ne hx hb h1 ht (fun h => kt h H locs ls hP hS hl) (fun h => kf h H locs ls hP hS hl)
theorem x_icmp_lt {w : kx_W} {d : Nat} {own : String} {b : ByteArray} {nL : Nat} {cl : List (Nat × Instr × Nat)} {G : Nat → List (Option Value) → List Value → kx_M → Prop} (F : kx_Sb w d own b nL cl G) {i pc : Nat} {L : List (Option Value)} {S : List Value} {M : kx_M} {x y : Int32} {off : Int} {tgt : Nat} (hi : cl[i]? = some (pc, .if_icmp .lt off, 3)) (ht : (pc : Int) + off = (tgt : Int)) (kt : x < y → G tgt L S M) (kf : ¬ x < y → G (pc + 3) L S M) : G pc L (.int y :: .int x :: S) M := by
  obtain ⟨p, e, R, s, mi, args, below, meth, c, cells, slots, Qf, rfl, hx, hb, hml, hown, hts, hK, hSt, hNe, hroom, hdec⟩ := F
  have h1 := hdec _ (List.mem_of_getElem? hi)
  intro H locs ls hP hS hl
  exact lv_icmp_lt hx hb h1 ht (fun h => kt h H locs ls hP hS hl) (fun h => kf h H locs ls hP hS hl)
theorem x_icmp_ge {w : kx_W} {d : Nat} {own : String} {b : ByteArray} {nL : Nat} {cl : List (Nat × Instr × Nat)} {G : Nat → List (Option Value) → List Value → kx_M → Prop} (F : kx_Sb w d own b nL cl G) {i pc : Nat} {L : List (Option Value)} {S : List Value} {M : kx_M} {x y : Int32} {off : Int} {tgt : Nat} (hi : cl[i]? = some (pc, .if_icmp .ge off, 3)) (ht : (pc : Int) + off = (tgt : Int)) (kt : y ≤ x → G tgt L S M) (kf : ¬ y ≤ x → G (pc + 3) L S M) : G pc L (.int y :: .int x :: S) M := by
  obtain ⟨p, e, R, s, mi, args, below, meth, c, cells, slots, Qf, rfl, hx, hb, hml, hown, hts, hK, hSt, hNe, hroom, hdec⟩ := F
  have h1 := hdec _ (List.mem_of_getElem? hi)
  intro H locs ls hP hS hl
  exact lv_icmp_ge hx hb h1 ht (fun h => kt h H locs ls hP hS hl) (fun h => kf h H locs ls hP hS hl)
theorem x_icmp_gt {w : kx_W} {d : Nat} {own : String} {b : ByteArray} {nL : Nat} {cl : List (Nat × Instr × Nat)} {G : Nat → List (Option Value) → List Value → kx_M → Prop} (F : kx_Sb w d own b nL cl G) {i pc : Nat} {L : List (Option Value)} {S : List Value} {M : kx_M} {x y : Int32} {off : Int} {tgt : Nat} (hi : cl[i]? = some (pc, .if_icmp .gt off, 3)) (ht : (pc : Int) + off = (tgt : Int)) (kt : y < x → G tgt L S M) (kf : ¬ y < x → G (pc + 3) L S M) : G pc L (.int y :: .int x :: S) M := by
  obtain ⟨p, e, R, s, mi, args, below, meth, c, cells, slots, Qf, rfl, hx, hb, hml, hown, hts, hK, hSt, hNe, hroom, hdec⟩ := F
  have h1 := hdec _ (List.mem_of_getElem? hi)
  intro H locs ls hP hS hl
  exact lv_icmp_gt hx hb h1 ht (fun h => kt h H locs ls hP hS hl) (fun h => kf h H locs ls hP hS hl)
theorem x_icmp_le {w : kx_W} {d : Nat} {own : String} {b : ByteArray} {nL : Nat} {cl : List (Nat × Instr × Nat)} {G : Nat → List (Option Value) → List Value → kx_M → Prop} (F : kx_Sb w d own b nL cl G) {i pc : Nat} {L : List (Option Value)} {S : List Value} {M : kx_M} {x y : Int32} {off : Int} {tgt : Nat} (hi : cl[i]? = some (pc, .if_icmp .le off, 3)) (ht : (pc : Int) + off = (tgt : Int)) (kt : x ≤ y → G tgt L S M) (kf : ¬ x ≤ y → G (pc + 3) L S M) : G pc L (.int y :: .int x :: S) M := by
  obtain ⟨p, e, R, s, mi, args, below, meth, c, cells, slots, Qf, rfl, hx, hb, hml, hown, hts, hK, hSt, hNe, hroom, hdec⟩ := F
  have h1 := hdec _ (List.mem_of_getElem? hi)
  intro H locs ls hP hS hl
  exact lv_icmp_le hx hb h1 ht (fun h => kt h H locs ls hP hS hl) (fun h => kf h H locs ls hP hS hl)
theorem x_goto {w : kx_W} {d : Nat} {own : String} {b : ByteArray} {nL : Nat} {cl : List (Nat × Instr × Nat)} {G : Nat → List (Option Value) → List Value → kx_M → Prop} (F : kx_Sb w d own b nL cl G) {i pc : Nat} {L : List (Option Value)} {S : List Value} {M : kx_M} {off : Int} {tgt : Nat} (hi : cl[i]? = some (pc, .goto off, 3)) (ht : (pc : Int) + off = (tgt : Int)) (k : G tgt L S M) : G pc L S M := by
  obtain ⟨p, e, R, s, mi, args, below, meth, c, cells, slots, Qf, rfl, hx, hb, hml, hown, hts, hK, hSt, hNe, hroom, hdec⟩ := F
  have h1 := hdec _ (List.mem_of_getElem? hi)
  intro H locs ls hP hS hl
  exact lv_goto hx hb h1 ht (k H locs ls hP hS hl)
theorem x_tabIn {w : kx_W} {d : Nat} {own : String} {b : ByteArray} {nL : Nat} {cl : List (Nat × Instr × Nat)} {G : Nat → List (Option Value) → List Value → kx_M → Prop} (F : kx_Sb w d own b nL cl G) {i pc : Nat} {L : List (Option Value)} {S : List Value} {M : kx_M} {dflt lo hi0 : Int} {offs : Array Int} {len : Nat} {x : Int32} {off : Int} {tgt : Nat} (hi : cl[i]? = some (pc, .tableswitch dflt lo hi0 offs, len)) (ha : ¬ x.toInt < lo) (hb2 : ¬ hi0 < x.toInt) (ho : offs[(x.toInt - lo).toNat]? = some off) (ht : (pc : Int) + off = (tgt : Int)) (k : G tgt L S M) : G pc L (.int x :: S) M := by
  obtain ⟨p, e, R, s, mi, args, below, meth, c, cells, slots, Qf, rfl, hx, hb, hml, hown, hts, hK, hSt, hNe, hroom, hdec⟩ := F
  have h1 := hdec _ (List.mem_of_getElem? hi)
  intro H locs ls hP hS hl
  exact lv_tableIn hx hb h1 ha hb2 ho ht (k H locs ls hP hS hl)
theorem x_tabOut {w : kx_W} {d : Nat} {own : String} {b : ByteArray} {nL : Nat} {cl : List (Nat × Instr × Nat)} {G : Nat → List (Option Value) → List Value → kx_M → Prop} (F : kx_Sb w d own b nL cl G) {i pc : Nat} {L : List (Option Value)} {S : List Value} {M : kx_M} {dflt lo hi0 : Int} {offs : Array Int} {len : Nat} {x : Int32} {tgt : Nat} (hi : cl[i]? = some (pc, .tableswitch dflt lo hi0 offs, len)) (h : x.toInt < lo ∨ hi0 < x.toInt) (ht : (pc : Int) + dflt = (tgt : Int)) (k : G tgt L S M) : G pc L (.int x :: S) M := by
  obtain ⟨p, e, R, s, mi, args, below, meth, c, cells, slots, Qf, rfl, hx, hb, hml, hown, hts, hK, hSt, hNe, hroom, hdec⟩ := F
  have h1 := hdec _ (List.mem_of_getElem? hi)
  intro H locs ls hP hS hl
  exact lv_tableOut hx hb h1 h ht (k H locs ls hP hS hl)
