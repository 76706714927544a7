/-! ## rows, for objects being made -/
theorem y_iconst {w : kx_W} {d mc ms : Nat} {own nm : String} {b : ByteArray} {nL : Nat} {cl : List (Nat × Instr × Nat)} {G : Nat → List (Option Value) → List Value → bx_St → Prop} (F : bx_Sb w d mc ms own nm b nL cl G) {i pc : Nat} {L : List (Option Value)} {S : List Value} {M : bx_St} {n : Int} {v : Int32} (hi : cl[i]? = some (pc, .iconst n, 1)) (hv : Int32.ofInt n = v) (k : G (pc + 1) L (.int v :: S) M) : G pc L (S) M := by
  obtain ⟨p, e, R, s, mi, args, below, meth, c, Qf, rfl, hx, hb, hml, hown, hts, hK, hSt, hba, hroom, hini, hdec⟩ := F
  have h1 := hdec _ (List.mem_of_getElem? hi)
  intro H locs ls hP hz hS hl
  exact lv_iconst hx hb h1 hv (k H locs ls hP hz hS hl)
theorem y_bipush {w : kx_W} {d mc ms : Nat} {own nm : String} {b : ByteArray} {nL : Nat} {cl : List (Nat × Instr × Nat)} {G : Nat → List (Option Value) → List Value → bx_St → Prop} (F : bx_Sb w d mc ms own nm b nL cl G) {i pc : Nat} {L : List (Option Value)} {S : List Value} {M : bx_St} {n : Int} {v : Int32} (hi : cl[i]? = some (pc, .bipush n, 2)) (hv : (Int8.ofInt n).toInt32 = v) (k : G (pc + 2) L (.int v :: S) M) : G pc L (S) M := by
  obtain ⟨p, e, R, s, mi, args, below, meth, c, Qf, rfl, hx, hb, hml, hown, hts, hK, hSt, hba, hroom, hini, hdec⟩ := F
  have h1 := hdec _ (List.mem_of_getElem? hi)
  intro H locs ls hP hz hS hl
  exact lv_bipush hx hb h1 hv (k H locs ls hP hz hS hl)
theorem y_sipush {w : kx_W} {d mc ms : Nat} {own nm : String} {b : ByteArray} {nL : Nat} {cl : List (Nat × Instr × Nat)} {G : Nat → List (Option Value) → List Value → bx_St → Prop} (F : bx_Sb w d mc ms own nm b nL cl G) {i pc : Nat} {L : List (Option Value)} {S : List Value} {M : bx_St} {n : Int} {v : Int32} (hi : cl[i]? = some (pc, .sipush n, 3)) (hv : (Int16.ofInt n).toInt32 = v) (k : G (pc + 3) L (.int v :: S) M) : G pc L (S) M := by
  obtain ⟨p, e, R, s, mi, args, below, meth, c, Qf, rfl, hx, hb, hml, hown, hts, hK, hSt, hba, hroom, hini, hdec⟩ := F
  have h1 := hdec _ (List.mem_of_getElem? hi)
  intro H locs ls hP hz hS hl
  exact lv_sipush hx hb h1 hv (k H locs ls hP hz hS hl)
theorem y_lconst {w : kx_W} {d mc ms : Nat} {own nm : String} {b : ByteArray} {nL : Nat} {cl : List (Nat × Instr × Nat)} {G : Nat → List (Option Value) → List Value → bx_St → Prop} (F : bx_Sb w d mc ms own nm b nL cl G) {i pc : Nat} {L : List (Option Value)} {S : List Value} {M : bx_St} {n : Fin 2} {v : Int64} (hi : cl[i]? = some (pc, .lconst n, 1)) (hv : Int64.ofNat (n : Nat) = v) (k : G (pc + 1) L (.long v :: S) M) : G pc L (S) M := by
  obtain ⟨p, e, R, s, mi, args, below, meth, c, Qf, rfl, hx, hb, hml, hown, hts, hK, hSt, hba, hroom, hini, hdec⟩ := F
  have h1 := hdec _ (List.mem_of_getElem? hi)
  intro H locs ls hP hz hS hl
  exact lv_lconst hx hb h1 hv (k H locs ls hP hz hS hl)
theorem y_iload_n {w : kx_W} {d mc ms : Nat} {own nm : String} {b : ByteArray} {nL : Nat} {cl : List (Nat × Instr × Nat)} {G : Nat → List (Option Value) → List Value → bx_St → Prop} (F : bx_Sb w d mc ms own nm b nL cl G) {i pc : Nat} {L : List (Option Value)} {S : List Value} {M : bx_St} {j : Fin 4} {x : Int32} (hi : cl[i]? = some (pc, .iload_n j, 1)) (hL : L[(j : Nat)]? = some (some (.int x))) (k : G (pc + 1) L (.int x :: S) M) : G pc L (S) M := by
  obtain ⟨p, e, R, s, mi, args, below, meth, c, Qf, rfl, hx, hb, hml, hown, hts, hK, hSt, hba, hroom, hini, hdec⟩ := F
  have h1 := hdec _ (List.mem_of_getElem? hi)
  intro H locs ls hP hz hS hl
  exact lv_iload_n hx hb h1 rfl (kx_ls_at hl hL) (k H locs ls hP hz hS hl)
theorem y_iload {w : kx_W} {d mc ms : Nat} {own nm : String} {b : ByteArray} {nL : Nat} {cl : List (Nat × Instr × Nat)} {G : Nat → List (Option Value) → List Value → bx_St → Prop} (F : bx_Sb w d mc ms own nm b nL cl G) {i pc : Nat} {L : List (Option Value)} {S : List Value} {M : bx_St} {j : Nat} {x : Int32} (hi : cl[i]? = some (pc, .iload j, 2)) (hL : L[j]? = some (some (.int x))) (k : G (pc + 2) L (.int x :: S) M) : G pc L (S) M := by
  obtain ⟨p, e, R, s, mi, args, below, meth, c, Qf, rfl, hx, hb, hml, hown, hts, hK, hSt, hba, hroom, hini, hdec⟩ := F
  have h1 := hdec _ (List.mem_of_getElem? hi)
  intro H locs ls hP hz hS hl
  exact lv_iload hx hb h1 (kx_ls_at hl hL) (k H locs ls hP hz hS hl)
theorem y_lload_n {w : kx_W} {d mc ms : Nat} {own nm : String} {b : ByteArray} {nL : Nat} {cl : List (Nat × Instr × Nat)} {G : Nat → List (Option Value) → List Value → bx_St → Prop} (F : bx_Sb w d mc ms own nm b nL cl G) {i pc : Nat} {L : List (Option Value)} {S : List Value} {M : bx_St} {j : Fin 4} {x : Int64} (hi : cl[i]? = some (pc, .lload_n j, 1)) (hL : L[(j : Nat)]? = some (some (.long x))) (k : G (pc + 1) L (.long x :: S) M) : G pc L (S) M := by
  obtain ⟨p, e, R, s, mi, args, below, meth, c, Qf, rfl, hx, hb, hml, hown, hts, hK, hSt, hba, hroom, hini, hdec⟩ := F
  have h1 := hdec _ (List.mem_of_getElem? hi)
  intro H locs ls hP hz hS hl
  exact lv_lload_n hx hb h1 rfl (kx_ls_at hl hL) (k H locs ls hP hz hS hl)
theorem y_aload_n {w : kx_W} {d mc ms : Nat} {own nm : String} {b : ByteArray} {nL : Nat} {cl : List (Nat × Instr × Nat)} {G : Nat → List (Option Value) → List Value → bx_St → Prop} (F : bx_Sb w d mc ms own nm b nL cl G) {i pc : Nat} {L : List (Option Value)} {S : List Value} {M : bx_St} {j : Fin 4} {x : Nat} (hi : cl[i]? = some (pc, .aload_n j, 1)) (hL : L[(j : Nat)]? = some (some (.ref x))) (k : G (pc + 1) L (.ref x :: S) M) : G pc L (S) M := by
  obtain ⟨p, e, R, s, mi, args, below, meth, c, Qf, rfl, hx, hb, hml, hown, hts, hK, hSt, hba, hroom, hini, hdec⟩ := F
  have h1 := hdec _ (List.mem_of_getElem? hi)
  intro H locs ls hP hz hS hl
  exact lv_aload_n hx hb h1 rfl (kx_ls_at hl hL) (k H locs ls hP hz hS hl)
theorem y_aload {w : kx_W} {d mc ms : Nat} {own nm : String} {b : ByteArray} {nL : Nat} {cl : List (Nat × Instr × Nat)} {G : Nat → List (Option Value) → List Value → bx_St → Prop} (F : bx_Sb w d mc ms own nm b nL cl G) {i pc : Nat} {L : List (Option Value)} {S : List Value} {M : bx_St} {j : Nat} {x : Nat} (hi : cl[i]? = some (pc, .aload j, 2)) (hL : L[j]? = some (some (.ref x))) (k : G (pc + 2) L (.ref x :: S) M) : G pc L (S) M := by
  obtain ⟨p, e, R, s, mi, args, below, meth, c, Qf, rfl, hx, hb, hml, hown, hts, hK, hSt, hba, hroom, hini, hdec⟩ := F
  have h1 := hdec _ (List.mem_of_getElem? hi)
  intro H locs ls hP hz hS hl
  exact lv_aload hx hb h1 (kx_ls_at hl hL) (k H locs ls hP hz hS hl)
theorem y_aloadz_n {w : kx_W} {d mc ms : Nat} {own nm : String} {b : ByteArray} {nL : Nat} {cl : List (Nat × Instr × Nat)} {G : Nat → List (Option Value) → List Value → bx_St → Prop} (F : bx_Sb w d mc ms own nm b nL cl G) {i pc : Nat} {L : List (Option Value)} {S : List Value} {M : bx_St} {j : Fin 4} {x : Nat} (hi : cl[i]? = some (pc, .aload_n j, 1)) (hL : L[(j : Nat)]? = some (some (.retAddr x))) (k : G (pc + 1) L (.retAddr x :: S) M) : G pc L (S) M := by
  obtain ⟨p, e, R, s, mi, args, below, meth, c, Qf, rfl, hx, hb, hml, hown, hts, hK, hSt, hba, hroom, hini, hdec⟩ := F
  have h1 := hdec _ (List.mem_of_getElem? hi)
  intro H locs ls hP hz hS hl
  exact lv_aload_n hx hb h1 rfl (kx_ls_at hl hL) (k H locs ls hP hz hS hl)
theorem y_istore_n {w : kx_W} {d mc ms : Nat} {own nm : String} {b : ByteArray} {nL : Nat} {cl : List (Nat × Instr × Nat)} {G : Nat → List (Option Value) → List Value → bx_St → Prop} (F : bx_Sb w d mc ms own nm b nL cl G) {i pc : Nat} {L : List (Option Value)} {S : List Value} {M : bx_St} {j : Fin 4} {x : Int32} (hi : cl[i]? = some (pc, .istore_n j, 1)) (hj : (j : Nat) < nL) (hj2 : (j : Nat) < L.length) (hc : kx_nl L j = true) (k : G (pc + 1) (L.set j (some (.int x))) S M) : G pc L (.int x :: S) M := by
  obtain ⟨p, e, R, s, mi, args, below, meth, c, Qf, rfl, hx, hb, hml, hown, hts, hK, hSt, hba, hroom, hini, hdec⟩ := F
  have h1 := hdec _ (List.mem_of_getElem? hi)
  intro H locs ls hP hz hS hl
  exact lv_istore_n hx hb h1 rfl hl hj rfl (fun ls hl => k H locs ls hP hz hS (kx_ls_set1 hj2 hc hl))
theorem y_istore {w : kx_W} {d mc ms : Nat} {own nm : String} {b : ByteArray} {nL : Nat} {cl : List (Nat × Instr × Nat)} {G : Nat → List (Option Value) → List Value → bx_St → Prop} (F : bx_Sb w d mc ms own nm b nL cl G) {i pc : Nat} {L : List (Option Value)} {S : List Value} {M : bx_St} {j : Nat} {x : Int32} (hi : cl[i]? = some (pc, .istore j, 2)) (hj : j < nL) (hj2 : j < L.length) (hc : kx_nl L j = true) (k : G (pc + 2) (L.set j (some (.int x))) S M) : G pc L (.int x :: S) M := by
  obtain ⟨p, e, R, s, mi, args, below, meth, c, Qf, rfl, hx, hb, hml, hown, hts, hK, hSt, hba, hroom, hini, hdec⟩ := F
  have h1 := hdec _ (List.mem_of_getElem? hi)
  intro H locs ls hP hz hS hl
  exact lv_istore hx hb h1 hl hj rfl (fun ls hl => k H locs ls hP hz hS (kx_ls_set1 hj2 hc hl))
theorem y_astore_n {w : kx_W} {d mc ms : Nat} {own nm : String} {b : ByteArray} {nL : Nat} {cl : List (Nat × Instr × Nat)} {G : Nat → List (Option Value) → List Value → bx_St → Prop} (F : bx_Sb w d mc ms own nm b nL cl G) {i pc : Nat} {L : List (Option Value)} {S : List Value} {M : bx_St} {j : Fin 4} {x : Nat} (hi : cl[i]? = some (pc, .astore_n j, 1)) (hj : (j : Nat) < nL) (hj2 : (j : Nat) < L.length) (hc : kx_nl L j = true) (k : G (pc + 1) (L.set j (some (.ref x))) S M) : G pc L (.ref x :: S) M := by
  obtain ⟨p, e, R, s, mi, args, below, meth, c, Qf, rfl, hx, hb, hml, hown, hts, hK, hSt, hba, hroom, hini, hdec⟩ := F
  have h1 := hdec _ (List.mem_of_getElem? hi)
  intro H locs ls hP hz hS hl
  exact lv_astore_n hx hb h1 rfl hl hj rfl (fun ls hl => k H locs ls hP hz hS (kx_ls_set1 hj2 hc hl))
theorem y_lstore_n {w : kx_W} {d mc ms : Nat} {own nm : String} {b : ByteArray} {nL : Nat} {cl : List (Nat × Instr × Nat)} {G : Nat → List (Option Value) → List Value → bx_St → Prop} (F : bx_Sb w d mc ms own nm b nL cl G) {i pc : Nat} {L : List (Option Value)} {S : List Value} {M : bx_St} {j : Fin 4} {x : Int64} (hi : cl[i]? = some (pc, .lstore_n j, 1)) (hj : (j : Nat) + 1 < nL) (hj2 : (j : Nat) < L.length) (hc : kx_nl L j = true) (k : G (pc + 1) ((L.set j (some (.long x))).set (j + 1) none) S M) : G pc L (.long x :: S) M := by
  obtain ⟨p, e, R, s, mi, args, below, meth, c, Qf, rfl, hx, hb, hml, hown, hts, hK, hSt, hba, hroom, hini, hdec⟩ := F
  have h1 := hdec _ (List.mem_of_getElem? hi)
  intro H locs ls hP hz hS hl
  exact lv_lstore_n hx hb h1 rfl hl hj rfl (fun ls hl => k H locs ls hP hz hS (kx_ls_set2 hj2 hc hl))
theorem y_iinc {w : kx_W} {d mc ms : Nat} {own nm : String} {b : ByteArray} {nL : Nat} {cl : List (Nat × Instr × Nat)} {G : Nat → List (Option Value) → List Value → bx_St → Prop} (F : bx_Sb w d mc ms own nm b nL cl G) {i pc : Nat} {L : List (Option Value)} {S : List Value} {M : bx_St} {j : Nat} {n : Int} {x v : Int32} (hi : cl[i]? = some (pc, .iinc j n, 3)) (hL : L[j]? = some (some (.int x))) (hv : x + Int32.ofInt n = v) (hj : j < nL) (hc : kx_nl L j = true) (k : G (pc + 3) (L.set j (some (.int v))) S M) : G pc L S M := by
  obtain ⟨p, e, R, s, mi, args, below, meth, c, Qf, rfl, hx, hb, hml, hown, hts, hK, hSt, hba, hroom, hini, hdec⟩ := F
  have h1 := hdec _ (List.mem_of_getElem? hi)
  intro H locs ls hP hz hS hl
  obtain ⟨q, hq⟩ := List.getElem?_of_mem (kx_lp_mem (w := w) hL)
  exact lv_iinc hx hb h1 hl hq hv hj rfl (fun ls hl => k H locs ls hP hz hS (kx_ls_set1 (List.getElem?_eq_some_iff.mp hL).1 hc hl))
theorem y_iadd {w : kx_W} {d mc ms : Nat} {own nm : String} {b : ByteArray} {nL : Nat} {cl : List (Nat × Instr × Nat)} {G : Nat → List (Option Value) → List Value → bx_St → Prop} (F : bx_Sb w d mc ms own nm b nL cl G) {i pc : Nat} {L : List (Option Value)} {S : List Value} {M : bx_St} {x y : Int32} (hi : cl[i]? = some (pc, .iadd, 1))  (k : G (pc + 1) L (.int (x + y) :: S) M) : G pc L (.int y :: .int x :: S) M := by
  obtain ⟨p, e, R, s, mi, args, below, meth, c, Qf, rfl, hx, hb, hml, hown, hts, hK, hSt, hba, hroom, hini, hdec⟩ := F
  have h1 := hdec _ (List.mem_of_getElem? hi)
  intro H locs ls hP hz hS hl
  exact lv_iadd hx hb h1  (k H locs ls hP hz hS hl)
theorem y_isub {w : kx_W} {d mc ms : Nat} {own nm : String} {b : ByteArray} {nL : Nat} {cl : List (Nat × Instr × Nat)} {G : Nat → List (Option Value) → List Value → bx_St → Prop} (F : bx_Sb w d mc ms own nm b nL cl G) {i pc : Nat} {L : List (Option Value)} {S : List Value} {M : bx_St} {x y : Int32} (hi : cl[i]? = some (pc, .isub, 1))  (k : G (pc + 1) L (.int (x - y) :: S) M) : G pc L (.int y :: .int x :: S) M := by
  obtain ⟨p, e, R, s, mi, args, below, meth, c, Qf, rfl, hx, hb, hml, hown, hts, hK, hSt, hba, hroom, hini, hdec⟩ := F
  have h1 := hdec _ (List.mem_of_getElem? hi)
  intro H locs ls hP hz hS hl
  exact lv_isub hx hb h1  (k H locs ls hP hz hS hl)
theorem y_iand {w : kx_W} {d mc ms : Nat} {own nm : String} {b : ByteArray} {nL : Nat} {cl : List (Nat × Instr × Nat)} {G : Nat → List (Option Value) → List Value → bx_St → Prop} (F : bx_Sb w d mc ms own nm b nL cl G) {i pc : Nat} {L : List (Option Value)} {S : List Value} {M : bx_St} {x y : Int32} (hi : cl[i]? = some (pc, .iand, 1))  (k : G (pc + 1) L (.int (x &&& y) :: S) M) : G pc L (.int y :: .int x :: S) M := by
  obtain ⟨p, e, R, s, mi, args, below, meth, c, Qf, rfl, hx, hb, hml, hown, hts, hK, hSt, hba, hroom, hini, hdec⟩ := F
  have h1 := hdec _ (List.mem_of_getElem? hi)
  intro H locs ls hP hz hS hl
  exact lv_iand hx hb h1  (k H locs ls hP hz hS hl)
theorem y_ishr {w : kx_W} {d mc ms : Nat} {own nm : String} {b : ByteArray} {nL : Nat} {cl : List (Nat × Instr × Nat)} {G : Nat → List (Option Value) → List Value → bx_St → Prop} (F : bx_Sb w d mc ms own nm b nL cl G) {i pc : Nat} {L : List (Option Value)} {S : List Value} {M : bx_St} {x y : Int32} (hi : cl[i]? = some (pc, .ishr, 1))  (k : G (pc + 1) L (.int (x >>> (y &&& 31)) :: S) M) : G pc L (.int y :: .int x :: S) M := by
  obtain ⟨p, e, R, s, mi, args, below, meth, c, Qf, rfl, hx, hb, hml, hown, hts, hK, hSt, hba, hroom, hini, hdec⟩ := F
  have h1 := hdec _ (List.mem_of_getElem? hi)
  intro H locs ls hP hz hS hl
  exact lv_ishr hx hb h1  (k H locs ls hP hz hS hl)
theorem y_lor {w : kx_W} {d mc ms : Nat} {own nm : String} {b : ByteArray} {nL : Nat} {cl : List (Nat × Instr × Nat)} {G : Nat → List (Option Value) → List Value → bx_St → Prop} (F : bx_Sb w d mc ms own nm b nL cl G) {i pc : Nat} {L : List (Option Value)} {S : List Value} {M : bx_St} {x y : Int64} (hi : cl[i]? = some (pc, .lor, 1))  (k : G (pc + 1) L (.long (x ||| y) :: S) M) : G pc L (.long y :: .long x :: S) M := by
  obtain ⟨p, e, R, s, mi, args, below, meth, c, Qf, rfl, hx, hb, hml, hown, hts, hK, hSt, hba, hroom, hini, hdec⟩ := F
  have h1 := hdec _ (List.mem_of_getElem? hi)
  intro H locs ls hP hz hS hl
  exact lv_lor hx hb h1  (k H locs ls hP hz hS hl)
theorem y_lshl {w : kx_W} {d mc ms : Nat} {own nm : String} {b : ByteArray} {nL : Nat} {cl : List (Nat × Instr × Nat)} {G : Nat → List (Option Value) → List Value → bx_St → Prop} (F : bx_Sb w d mc ms own nm b nL cl G) {i pc : Nat} {L : List (Option Value)} {S : List Value} {M : bx_St} {x : Int64} {y : Int32} (hi : cl[i]? = some (pc, .lshl, 1))  (k : G (pc + 1) L (.long (x <<< (y.toInt64 &&& 63)) :: S) M) : G pc L (.int y :: .long x :: S) M := by
  obtain ⟨p, e, R, s, mi, args, below, meth, c, Qf, rfl, hx, hb, hml, hown, hts, hK, hSt, hba, hroom, hini, hdec⟩ := F
  have h1 := hdec _ (List.mem_of_getElem? hi)
  intro H locs ls hP hz hS hl
  exact lv_lshl hx hb h1 rfl (k H locs ls hP hz hS hl)
theorem y_i2l {w : kx_W} {d mc ms : Nat} {own nm : String} {b : ByteArray} {nL : Nat} {cl : List (Nat × Instr × Nat)} {G : Nat → List (Option Value) → List Value → bx_St → Prop} (F : bx_Sb w d mc ms own nm b nL cl G) {i pc : Nat} {L : List (Option Value)} {S : List Value} {M : bx_St} {x : Int32} (hi : cl[i]? = some (pc, .i2l, 1))  (k : G (pc + 1) L (.long x.toInt64 :: S) M) : G pc L (.int x :: S) M := by
  obtain ⟨p, e, R, s, mi, args, below, meth, c, Qf, rfl, hx, hb, hml, hown, hts, hK, hSt, hba, hroom, hini, hdec⟩ := F
  have h1 := hdec _ (List.mem_of_getElem? hi)
  intro H locs ls hP hz hS hl
  exact lv_i2l hx hb h1 rfl (k H locs ls hP hz hS hl)
theorem y_dup {w : kx_W} {d mc ms : Nat} {own nm : String} {b : ByteArray} {nL : Nat} {cl : List (Nat × Instr × Nat)} {G : Nat → List (Option Value) → List Value → bx_St → Prop} (F : bx_Sb w d mc ms own nm b nL cl G) {i pc : Nat} {L : List (Option Value)} {S : List Value} {M : bx_St} {v : Value} (hi : cl[i]? = some (pc, .dup, 1)) (hv : v.category = 1) (k : G (pc + 1) L (v :: v :: S) M) : G pc L (v :: S) M := by
  obtain ⟨p, e, R, s, mi, args, below, meth, c, Qf, rfl, hx, hb, hml, hown, hts, hK, hSt, hba, hroom, hini, hdec⟩ := F
  have h1 := hdec _ (List.mem_of_getElem? hi)
  intro H locs ls hP hz hS hl
  exact lv_dup hx hb h1 ((kx_cv_cat w v).trans hv) (k H locs ls hP hz hS hl)
theorem y_pop {w : kx_W} {d mc ms : Nat} {own nm : String} {b : ByteArray} {nL : Nat} {cl : List (Nat × Instr × Nat)} {G : Nat → List (Option Value) → List Value → bx_St → Prop} (F : bx_Sb w d mc ms own nm b nL cl G) {i pc : Nat} {L : List (Option Value)} {S : List Value} {M : bx_St} {v : Value} (hi : cl[i]? = some (pc, .pop, 1)) (hv : v.category = 1) (k : G (pc + 1) L (S) M) : G pc L (v :: S) M := by
  obtain ⟨p, e, R, s, mi, args, below, meth, c, Qf, rfl, hx, hb, hml, hown, hts, hK, hSt, hba, hroom, hini, hdec⟩ := F
  have h1 := hdec _ (List.mem_of_getElem? hi)
  intro H locs ls hP hz hS hl
  exact lv_pop hx hb h1 ((kx_cv_cat w v).trans hv) (k H locs ls hP hz hS hl)
theorem y_if_eq {w : kx_W} {d mc ms : Nat} {own nm : String} {b : ByteArray} {nL : Nat} {cl : List (Nat × Instr × Nat)} {G : Nat → List (Option Value) → List Value → bx_St → Prop} (F : bx_Sb w d mc ms own nm b nL cl G) {i pc : Nat} {L : List (Option Value)} {S : List Value} {M : bx_St} {x : Int32} {off : Int} {tgt : Nat} (hi : cl[i]? = some (pc, .ifCond .eq off, 3)) (ht : (pc : Int) + off = (tgt : Int)) (kt : x = 0 → G tgt L S M) (kf : ¬ x = 0 → G (pc + 3) L S M) : G pc L (.int x :: S) M := by
  obtain ⟨p, e, R, s, mi, args, below, meth, c, Qf, rfl, hx, hb, hml, hown, hts, hK, hSt, hba, hroom, hini, hdec⟩ := F
  have h1 := hdec _ (List.mem_of_getElem? hi)
  intro H locs ls hP hz hS hl
  exact lv_if_eq hx hb h1 ht (fun h => kt h H locs ls hP hz hS hl) (fun h => kf h H locs ls hP hz hS hl)
theorem y_if_ne {w : kx_W} {d mc ms : Nat} {own nm : String} {b : ByteArray} {nL : Nat} {cl : List (Nat × Instr × Nat)} {G : Nat → List (Option Value) → List Value → bx_St → Prop} (F : bx_Sb w d mc ms own nm b nL cl G) {i pc : Nat} {L : List (Option Value)} {S : List Value} {M : bx_St} {x : Int32} {off : Int} {tgt : Nat} (hi : cl[i]? = some (pc, .ifCond .ne off, 3)) (ht : (pc : Int) + off = (tgt : Int)) (kt : ¬ x = 0 → G tgt L S M) (kf : x = 0 → G (pc + 3) L S M) : G pc L (.int x :: S) M := by
  obtain ⟨p, e, R, s, mi, args, below, meth, c, Qf, rfl, hx, hb, hml, hown, hts, hK, hSt, hba, hroom, hini, hdec⟩ := F
  have h1 := hdec _ (List.mem_of_getElem? hi)
  intro H locs ls hP hz hS hl
  exact lv_if_ne hx hb h1 ht (fun h => kt h H locs ls hP hz hS hl) (fun h => kf h H locs ls hP hz hS hl)
theorem y_if_lt {w : kx_W} {d mc ms : Nat} {own nm : String} {b : ByteArray} {nL : Nat} {cl : List (Nat × Instr × Nat)} {G : Nat → List (Option Value) → List Value → bx_St → Prop} (F : bx_Sb w d mc ms own nm b nL cl G) {i pc : Nat} {L : List (Option Value)} {S : List Value} {M : bx_St} {x : Int32} {off : Int} {tgt : Nat} (hi : cl[i]? = some (pc, .ifCond .lt off, 3)) (ht : (pc : Int) + off = (tgt : Int)) (kt : x < 0 → G tgt L S M) (kf : ¬ x < 0 → G (pc + 3) L S M) : G pc L (.int x :: S) M := by
  obtain ⟨p, e, R, s, mi, args, below, meth, c, Qf, rfl, hx, hb, hml, hown, hts, hK, hSt, hba, hroom, hini, hdec⟩ := F
  have h1 := hdec _ (List.mem_of_getElem? hi)
  intro H locs ls hP hz hS hl
  exact lv_if_lt hx hb h1 ht (fun h => kt h H locs ls hP hz hS hl) (fun h => kf h H locs ls hP hz hS hl)
theorem y_icmp_eq {w : kx_W} {d mc ms : Nat} {own nm : String} {b : ByteArray} {nL : Nat} {cl : List (Nat × Instr × Nat)} {G : Nat → List (Option Value) → List Value → bx_St → Prop} (F : bx_Sb w d mc ms own nm b nL cl G) {i pc : Nat} {L : List (Option Value)} {S : List Value} {M : bx_St} {x y : Int32} {off : Int} {tgt : Nat} (hi : cl[i]? = some (pc, .if_icmp .eq off, 3)) (ht : (pc : Int) + off = (tgt : Int)) (kt : x = y → G tgt L S M) (kf : ¬ x = y → G (pc + 3) L S M) : G pc L (.int y :: .int x :: S) M := by
  obtain ⟨p, e, R, s, mi, args, below, meth, c, Qf, rfl, hx, hb, hml, hown, hts, hK, hSt, hba, hroom, hini, hdec⟩ := F
  have h1 := hdec _ (List.mem_of_getElem? hi)
  intro H locs ls hP hz hS hl
  exact lv_icmp_eq hx hb h1 ht (fun h => kt h H locs ls hP hz hS hl) (fun h => kf h H locs ls hP hz hS hl)
theorem y_icmp_ne {w : kx_W} {d mc ms : Nat} {own nm : String} {b : ByteArray} {nL : Nat} {cl : List (Nat × Instr × Nat)} {G : Nat → List (Option Value) → List Value → bx_St → Prop} (F : bx_Sb w d mc ms own nm b nL cl G) {i pc : Nat} {L : List (Option Value)} {S : List Value} {M : bx_St} {x y : Int32} {off : Int} {tgt : Nat} (hi : cl[i]? = some (pc, .if_icmp .ne off, 3)) (ht : (pc : Int) + off = (tgt : Int)) (kt : ¬ x = y → G tgt L S M) (kf : x = y → G (pc + 3) L S M) : G pc L (.int y :: .int x :: S) M := by
  obtain ⟨p, e, R, s, mi, args, below, meth, c, Qf, rfl, hx, hb, hml, hown, hts, hK, hSt, hba, hroom, hini, hdec⟩ := F
  have h1 := hdec _ (List.mem_of_getElem? hi)
  intro H locs ls hP hz hS hl
  exact lv_icmp_ne hx hb h1 ht (fun h => kt h H locs ls hP hz hS hl) (fun h => kf h H locs ls hP hz hS hl)
theorem y_icmp_lt {w : kx_W} {d mc ms : Nat} {own nm : String} {b : ByteArray} {nL : Nat} {cl : List (Nat × Instr × Nat)} {G : Nat → List (Option Value) → List Value → bx_St → Prop} (F : bx_Sb w d mc ms own nm b nL cl G) {i pc : Nat} {L : List (Option Value)} {S : List Value} {M : bx_St} {x y : Int32} {off : Int} {tgt : Nat} (hi : cl[i]? = some (pc, .if_icmp .lt off, 3)) (ht : (pc : Int) + off = (tgt : Int)) (kt : x < y → G tgt L S M) (kf : ¬ x < y → G (pc + 3) L S M) : G pc L (.int y :: .int x :: S) M := by
  obtain ⟨p, e, R, s, mi, args, below, meth, c, Qf, rfl, hx, hb, hml, hown, hts, hK, hSt, hba, hroom, hini, hdec⟩ := F
  have h1 := hdec _ (List.mem_of_getElem? hi)
  intro H locs ls hP hz hS hl
  exact lv_icmp_lt hx hb h1 ht (fun h => kt h H locs ls hP hz hS hl) (fun h => kf h H locs ls hP hz hS hl)
theorem y_icmp_ge {w : kx_W} {d mc ms : Nat} {own nm : String} {b : ByteArray} {nL : Nat} {cl : List (Nat × Instr × Nat)} {G : Nat → List (Option Value) → List Value → bx_St → Prop} (F : bx_Sb w d mc ms own nm b nL cl G) {i pc : Nat} {L : List (Option Value)} {S : List Value} {M : bx_St} {x y : Int32} {off : Int} {tgt : Nat} (hi : cl[i]? = some (pc, .if_icmp .ge off, 3)) (ht : (pc : Int) + off = (tgt : Int)) (kt : y ≤ x → G tgt L S M) (kf : ¬ y ≤ x → G (pc + 3) L S M) : G pc L (.int y :: .int x :: S) M := by
  obtain ⟨p, e, R, s, mi, args, below, meth, c, Qf, rfl, hx, hb, hml, hown, hts, hK, hSt, hba, hroom, hini, hdec⟩ := F
  have h1 := hdec _ (List.mem_of_getElem? hi)
  intro H locs ls hP hz hS hl
  exact lv_icmp_ge hx hb h1 ht (fun h => kt h H locs ls hP hz hS hl) (fun h => kf h H locs ls hP hz hS hl)
theorem y_goto {w : kx_W} {d mc ms : Nat} {own nm : String} {b : ByteArray} {nL : Nat} {cl : List (Nat × Instr × Nat)} {G : Nat → List (Option Value) → List Value → bx_St → Prop} (F : bx_Sb w d mc ms own nm b nL cl G) {i pc : Nat} {L : List (Option Value)} {S : List Value} {M : bx_St} {off : Int} {tgt : Nat} (hi : cl[i]? = some (pc, .goto off, 3)) (ht : (pc : Int) + off = (tgt : Int)) (k : G tgt L S M) : G pc L S M := by
  obtain ⟨p, e, R, s, mi, args, below, meth, c, Qf, rfl, hx, hb, hml, hown, hts, hK, hSt, hba, hroom, hini, hdec⟩ := F
  have h1 := hdec _ (List.mem_of_getElem? hi)
  intro H locs ls hP hz hS hl
  exact lv_goto hx hb h1 ht (k H locs ls hP hz hS hl)
