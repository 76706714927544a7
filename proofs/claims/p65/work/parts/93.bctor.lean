/-! ## rows, for the object that is made last -/
section
variable {w : kx_W} {d mc ms : Nat} {own nm : String} {b : ByteArray} {nL : Nat} {cl : List (Nat × Instr × Nat)} {G : Nat → List (Option Value) → List Value → bx_St → Prop} {i pc : Nat} {L : List (Option Value)} {S : List Value} {P R : List va_E} {c s : Nat}
theorem bx_0 {o : va_E} : (P ++ (o :: R))[P.length]? = some o := by
  rw [List.getElem?_append_right (Nat.le_refl _), Nat.sub_self]
  rfl
theorem bx_s0 {o e : va_E} : (P ++ (o :: R)).set P.length e = P ++ (e :: R) := by
  rw [List.set_append_right _ _ (Nat.le_refl _), Nat.sub_self]
  rfl
theorem bx_l {o : va_E} {n : Nat} (hn : R.length + 1 = n) : (P ++ (o :: R)).length = P.length + n := by
  rw [List.length_append, List.length_cons, hn]
theorem bx_a {o e : va_E} : (P ++ (o :: R)) ++ [e] = P ++ (o :: (R ++ [e])) := by
  rw [List.append_assoc]
  rfl
theorem y_put1 (F : bx_Sb w d mc ms own nm b nL cl G) {idx ci kk : Nat} {ty : FieldType} {fs fs' : List Value} {v : Value} (hi : cl[i]? = some (pc, .putfield idx, 3)) (hf : kx_FL own idx ci kk) (hp : bx_PF own nm ci kk ty) (hl : kk < fs.length) (hn : narrow ty (kx_cv w v) = kx_cv w v) (hfit : fits ty (kx_cv w v) = true) (hfs : fs.set kk (kx_cv w v) = fs') (k : G (pc + 3) L S (P ++ (.inr (ci, fs') :: R), c, s)) : G pc L (v :: .ref P.length :: S) (P ++ (.inr (ci, fs) :: R), c, s) := by
  subst hfs
  refine y_put F (M := (P ++ (.inr (ci, fs) :: R), c, s)) hi hf hp bx_0 hl hn hfit ?_
  show G (pc + 3) L S ((P ++ (.inr (ci, fs) :: R)).set P.length _, c, s)
  rw [bx_s0]
  exact k
theorem y_get1 (F : bx_Sb w d mc ms own nm b nL cl G) {idx ci kk : Nat} {fs : List Value} {v : Value} (hi : cl[i]? = some (pc, .getfield idx, 3)) (hf : kx_FL own idx ci kk) (hv : fs[kk]? = some (kx_cv w v)) (k : G (pc + 3) L (v :: S) (P ++ (.inr (ci, fs) :: R), c, s)) : G pc L (.ref P.length :: S) (P ++ (.inr (ci, fs) :: R), c, s) := y_get F (M := (P ++ (.inr (ci, fs) :: R), c, s)) hi hf bx_0 hv k
theorem y_newa1 (F : bx_Sb w d mc ms own nm b nL cl G) {t N m : Nat} {at1 : ArrayType} {a0 : vp_A} {n : Int32} {o : va_E} (hi : cl[i]? = some (pc, .newarray at1, 2)) (harr : Cond.arrayClass (newarray.typeOf at1) ∈ kx_tb) (ht : (kx_tys w)[t]? = some (w.2.2.1 t, newarray.typeOf at1)) (ha : ∀ cA : ClassId, vp_cell cA a0 = arrV cA N (fun _ => defaultValue (newarray.typeOf at1))) (hn : ¬ n < 0) (hN : n.toNatClampNeg = N) (hbytes : N * componentBytes (newarray.typeOf at1) ≤ 536870912) (hc : c + 1 ≤ mc) (hs : s + N ≤ ms) (hm : R.length + 1 = m) (k : G (pc + 2) L (.ref (P.length + m) :: S) (P ++ (o :: (R ++ [.inl (w.2.2.1 t, a0)])), c + 1, s + N)) : G pc L (.int n :: S) (P ++ (o :: R), c, s) :=
  y_newa F (M := (P ++ (o :: R), c, s)) hi harr ht ha hn hN hbytes hc hs (bx_l hm) (by rw [bx_a]) k
theorem y_newq1 (F : bx_Sb w d mc ms own nm b nL cl G) {t N m idx : Nat} {C : String} {n : Int32} {o : va_E} (hi : cl[i]? = some (pc, .anewarray idx, 3)) (hcl : Cond.classLink own idx C ∈ kx_tb) (hov : C = "KnitTreaty$Tray" ∨ C = "KnitTreaty$State") (ht : (kx_tys w)[t]? = some (w.2.2.1 t, .object C)) (hn : ¬ n < 0) (hN : n.toNatClampNeg = N) (hbytes : N * 4 ≤ 536870912) (hc : c + 1 ≤ mc) (hs : s + N ≤ ms) (hm : R.length + 1 = m) (k : G (pc + 3) L (.ref (P.length + m) :: S) (P ++ (o :: (R ++ [.inl (w.2.2.1 t, N, .inr (.inr (.inr (.inr (fun _ => none)))))])), c + 1, s + N)) : G pc L (.int n :: S) (P ++ (o :: R), c, s) :=
  y_newq F (M := (P ++ (o :: R), c, s)) hi hcl hov ht hn hN hbytes hc hs (bx_l hm) (by rw [bx_a]) k
theorem y_new1 (F : bx_Sb w d mc ms own nm b nL cl G) {idx ci N m : Nat} {C : String} {T : u_T} {fs : List Value} {o : va_E} (hi : cl[i]? = some (pc, .new idx, 3)) (hcl : Cond.classLink own idx C ∈ kx_tb) (hins : Cond.instantiable C N ∈ kx_tb) (hit : Cond.initialized C ∈ kx_tb) (hq : kx_cl[ci]? = some (C, T, N)) (hfs : ∀ j, j < N → defaultValue ((parseFieldDescriptor (T j).2.2.1).getD .int) = vp_V fs j) (hc : c + 1 ≤ mc) (hs : s + N ≤ ms) (hm : R.length + 1 = m) (k : G (pc + 3) L (.ref (P.length + m) :: S) (P ++ (o :: (R ++ [.inr (ci, fs)])), c + 1, s + N)) : G pc L S (P ++ (o :: R), c, s) :=
  y_new F (M := (P ++ (o :: R), c, s)) hi hcl hins hit hq hfs hc hs (bx_l hm) (by rw [bx_a]) k
theorem bt_at {m : kx_md} {D0 : va_E} {blk : Nat → List va_E} (h : ∀ P : List va_E, Bt w d mc ms m [.ref P.length] (P ++ [D0]) (fun r E => r = none ∧ E = P ++ blk P.length)) {o : va_E} {n : Nat} (hn : R.length + 1 = n) : Bt w d mc ms m [.ref (P.length + n)] (P ++ (o :: (R ++ [D0]))) (fun r E => r = none ∧ E = P ++ (o :: (R ++ blk (P.length + n)))) := by
  have g := h (P ++ (o :: R))
  rw [bx_l hn, bx_a] at g
  have e : ∀ X : List va_E, (P ++ (o :: R)) ++ X = P ++ (o :: (R ++ X)) := fun X => by rw [List.append_assoc]; rfl
  rw [e] at g
  exact g
theorem y_init1 (F : bx_Sb w (d + 1) mc ms own nm b nL cl G) {idx mc' ms' n : Nat} {m' : kx_md} {D0 o : va_E} {blk : Nat → List va_E} (hi : cl[i]? = some (pc, .invokespecial idx, 3)) (hm : Cond.methodLink own idx m'.1 ∈ kx_tb ∧ Cond.instanceMethod m'.1 ∈ kx_tb ∧ kx_par m' 0) (hnm : m'.1.name = "<init>") (hret : m'.2.2.2.1 = none) (ok : kx_mok m') (hrest : (S.map fun v => v.category).sum ≤ 8) (hml' : m'.2.2.1 ≤ 19) (hC : ∀ P : List va_E, Bt w d mc' ms' m' [.ref P.length] (P ++ [D0]) (fun r E => r = none ∧ E = P ++ blk P.length)) (hn : R.length + 1 = n) (hc : c + mc' ≤ mc) (hs : s + ms' ≤ ms) (k : G (pc + 3) L S (P ++ (o :: (R ++ blk (P.length + n))), c + mc', s + ms')) : G pc L (.ref (P.length + n) :: S) (P ++ (o :: (R ++ [D0])), c, s) :=
  y_init F (M := (P ++ (o :: (R ++ [D0])), c, s)) hi hm hnm hret ok hrest hml' (bt_at hC hn) hc hs k
theorem y_initN1 (F : bx_Sb w (d + 1) mc ms own nm b nL cl G) {idx mc' ms' n : Nat} {m' : kx_md} {host : String} {D0 o : va_E} {blk : Nat → List va_E} (hi : cl[i]? = some (pc, .invokespecial idx, 3)) (hm : Cond.methodLinkNest own idx m'.1 host ∈ bx_nest ∧ Cond.instanceMethod m'.1 ∈ kx_tb ∧ kx_par m' 0) (hnm : m'.1.name = "<init>") (hret : m'.2.2.2.1 = none) (ok : kx_mok m') (hrest : (S.map fun v => v.category).sum ≤ 8) (hml' : m'.2.2.1 ≤ 19) (hC : ∀ P : List va_E, Bt w d mc' ms' m' [.ref P.length] (P ++ [D0]) (fun r E => r = none ∧ E = P ++ blk P.length)) (hn : R.length + 1 = n) (hc : c + mc' ≤ mc) (hs : s + ms' ≤ ms) (k : G (pc + 3) L S (P ++ (o :: (R ++ blk (P.length + n))), c + mc', s + ms')) : G pc L (.ref (P.length + n) :: S) (P ++ (o :: (R ++ [D0])), c, s) :=
  y_initN F (M := (P ++ (o :: (R ++ [D0])), c, s)) hi hm hnm hret ok hrest hml' (bt_at hC hn) hc hs k
theorem y_vret {m : kx_md} {Q : Option Value → List va_E → Prop} {E : List va_E} (F : Bd2 w d mc ms m Q G) (hi : m.2.2.2.2[i]? = some (pc, .return_, 1)) (hr : m.2.2.2.1 = none) (hc : c ≤ mc) (hs : s ≤ ms) (h : Q none E) : G pc L [] (E, c, s) := by
  have h1 := F.2.2 _ (List.mem_of_getElem? hi)
  exact F.2.1.2 _ _ (E, c, s) h1 hr hc hs h
theorem y_iret {m : kx_md} {Q : Option Value → List va_E → Prop} {E : List va_E} {v : Int32} {ty : FieldType} (F : Bd2 w d mc ms m Q G) (hi : m.2.2.2.2[i]? = some (pc, .ireturn, 1)) (hr : m.2.2.2.1 = some ty) (hn : narrow ty (.int v) = .int v) (hc : c ≤ mc) (hs : s ≤ ms) (h : Q (some (.int v)) E) : G pc L [.int v] (E, c, s) := by
  have h1 := F.2.2 _ (List.mem_of_getElem? hi)
  exact F.2.1.1 _ _ _ (E, c, s) ty h1 hr hn hc hs h
end
theorem bo_2 : Cond.instanceMethod Lib.objectInit ∈ kx_tb ∧ Cond.code Lib.objectInit ⟨#[0xb1]⟩ 1 none ∈ kx_tb := ⟨kx_in (List.mem_of_getElem? (i := 79) (by decide +kernel)) rfl, kx_in (List.mem_of_getElem? (i := 80) (by decide +kernel)) rfl⟩
theorem ba_int : Cond.arrayClass (newarray.typeOf ArrayType.int) ∈ kx_tb := kx_in (List.mem_of_getElem? (i := 194) (by decide +kernel)) rfl
theorem ba_long : Cond.arrayClass (newarray.typeOf ArrayType.long) ∈ kx_tb := kx_in (List.mem_of_getElem? (i := 195) (by decide +kernel)) rfl
theorem ba_byte : Cond.arrayClass (newarray.typeOf ArrayType.byte) ∈ kx_tb := kx_in (List.mem_of_getElem? (i := 196) (by decide +kernel)) rfl
theorem bs_KT : Cond.instantiable "KnitTreaty" 19 ∈ kx_tb := kx_in (List.mem_of_getElem? (i := 74) (by decide +kernel)) rfl
theorem bn_KT : Cond.initialized "KnitTreaty" ∈ kx_tb := kx_in (List.mem_of_getElem? (i := 53) (by decide +kernel)) rfl
theorem bp_KT_0 : bx_PF "KnitTreaty" "<init>" 0 0 (.array (.object "KnitTreaty$Tray")) := ⟨_, rfl, Or.inr ⟨rfl, rfl, rfl⟩, by decide +kernel⟩
theorem bp_KT_1 : bx_PF "KnitTreaty" "<init>" 0 1 (.array .int) := ⟨_, rfl, Or.inr ⟨rfl, rfl, rfl⟩, by decide +kernel⟩
theorem bp_KT_2 : bx_PF "KnitTreaty" "<init>" 0 2 (.array (.object "KnitTreaty$State")) := ⟨_, rfl, Or.inr ⟨rfl, rfl, rfl⟩, by decide +kernel⟩
theorem bp_KT_3 : bx_PF "KnitTreaty" "<init>" 0 3 (.object "KnitTreaty$TreatyText") := ⟨_, rfl, Or.inr ⟨rfl, rfl, rfl⟩, by decide +kernel⟩
theorem bp_KT_4 : bx_PF "KnitTreaty" "<init>" 0 4 (.object "KnitTreaty$CenturyText") := ⟨_, rfl, Or.inr ⟨rfl, rfl, rfl⟩, by decide +kernel⟩
theorem bp_KT_5 : bx_PF "KnitTreaty" "<init>" 0 5 (.object "KnitTreaty$Seen") := ⟨_, rfl, Or.inr ⟨rfl, rfl, rfl⟩, by decide +kernel⟩
theorem bp_KT_6 : bx_PF "KnitTreaty" "<init>" 0 6 (.object "KnitTreaty$Joiner") := ⟨_, rfl, Or.inr ⟨rfl, rfl, rfl⟩, by decide +kernel⟩
theorem bp_KT_7 : bx_PF "KnitTreaty" "<init>" 0 7 (.object "KnitTreaty$Life") := ⟨_, rfl, Or.inr ⟨rfl, rfl, rfl⟩, by decide +kernel⟩
theorem bp_KT_8 : bx_PF "KnitTreaty" "<init>" 0 8 (.object "KnitTreaty$Life") := ⟨_, rfl, Or.inr ⟨rfl, rfl, rfl⟩, by decide +kernel⟩
theorem bp_KT_9 : bx_PF "KnitTreaty" "<init>" 0 9 (.object "KnitTreaty$State") := ⟨_, rfl, Or.inl rfl, by decide +kernel⟩
theorem bp_KT_10 : bx_PF "KnitTreaty" "<init>" 0 10 (.object "KnitTreaty$State") := ⟨_, rfl, Or.inl rfl, by decide +kernel⟩
theorem bp_KT_11 : bx_PF "KnitTreaty" "<init>" 0 11 .int := ⟨_, rfl, Or.inl rfl, by decide +kernel⟩
theorem bp_KT_12 : bx_PF "KnitTreaty" "<init>" 0 12 .int := ⟨_, rfl, Or.inl rfl, by decide +kernel⟩
theorem bp_KT_13 : bx_PF "KnitTreaty" "<init>" 0 13 .int := ⟨_, rfl, Or.inl rfl, by decide +kernel⟩
theorem bp_KT_14 : bx_PF "KnitTreaty" "<init>" 0 14 .int := ⟨_, rfl, Or.inl rfl, by decide +kernel⟩
theorem bp_KT_15 : bx_PF "KnitTreaty" "<init>" 0 15 .int := ⟨_, rfl, Or.inl rfl, by decide +kernel⟩
theorem bp_KT_16 : bx_PF "KnitTreaty" "<init>" 0 16 .boolean := ⟨_, rfl, Or.inl rfl, by decide +kernel⟩
theorem bp_KT_17 : bx_PF "KnitTreaty" "<init>" 0 17 .long := ⟨_, rfl, Or.inl rfl, by decide +kernel⟩
theorem bp_KT_18 : bx_PF "KnitTreaty" "<init>" 0 18 .long := ⟨_, rfl, Or.inl rfl, by decide +kernel⟩
theorem bs_Tray : Cond.instantiable "KnitTreaty$Tray" 4 ∈ kx_tb := kx_in (List.mem_of_getElem? (i := 471) (by decide +kernel)) rfl
theorem bn_Tray : Cond.initialized "KnitTreaty$Tray" ∈ kx_tb := kx_in (List.mem_of_getElem? (i := 68) (by decide +kernel)) rfl
theorem bp_Tray_0 : bx_PF "KnitTreaty$Tray" "<init>" 1 0 (.array .long) := ⟨_, rfl, Or.inr ⟨rfl, rfl, rfl⟩, by decide +kernel⟩
theorem bp_Tray_1 : bx_PF "KnitTreaty$Tray" "<init>" 1 1 .boolean := ⟨_, rfl, Or.inl rfl, by decide +kernel⟩
theorem bp_Tray_2 : bx_PF "KnitTreaty$Tray" "<init>" 1 2 .int := ⟨_, rfl, Or.inl rfl, by decide +kernel⟩
theorem bp_Tray_3 : bx_PF "KnitTreaty$Tray" "<init>" 1 3 .int := ⟨_, rfl, Or.inl rfl, by decide +kernel⟩
theorem bs_State : Cond.instantiable "KnitTreaty$State" 3 ∈ kx_tb := kx_in (List.mem_of_getElem? (i := 315) (by decide +kernel)) rfl
theorem bn_State : Cond.initialized "KnitTreaty$State" ∈ kx_tb := kx_in (List.mem_of_getElem? (i := 64) (by decide +kernel)) rfl
theorem bp_State_0 : bx_PF "KnitTreaty$State" "<init>" 2 0 (.object "KnitTreaty$Deal") := ⟨_, rfl, Or.inr ⟨rfl, rfl, rfl⟩, by decide +kernel⟩
theorem bp_State_1 : bx_PF "KnitTreaty$State" "<init>" 2 1 (.object "KnitTreaty$Cloth") := ⟨_, rfl, Or.inr ⟨rfl, rfl, rfl⟩, by decide +kernel⟩
theorem bp_State_2 : bx_PF "KnitTreaty$State" "<init>" 2 2 (.object "KnitTreaty$Script") := ⟨_, rfl, Or.inr ⟨rfl, rfl, rfl⟩, by decide +kernel⟩
theorem bs_Deal : Cond.instantiable "KnitTreaty$Deal" 9 ∈ kx_tb := kx_in (List.mem_of_getElem? (i := 321) (by decide +kernel)) rfl
theorem bn_Deal : Cond.initialized "KnitTreaty$Deal" ∈ kx_tb := kx_in (List.mem_of_getElem? (i := 65) (by decide +kernel)) rfl
theorem bp_Deal_0 : bx_PF "KnitTreaty$Deal" "<init>" 3 0 (.array .int) := ⟨_, rfl, Or.inr ⟨rfl, rfl, rfl⟩, by decide +kernel⟩
theorem bp_Deal_1 : bx_PF "KnitTreaty$Deal" "<init>" 3 1 (.array .long) := ⟨_, rfl, Or.inr ⟨rfl, rfl, rfl⟩, by decide +kernel⟩
theorem bp_Deal_2 : bx_PF "KnitTreaty$Deal" "<init>" 3 2 (.array .long) := ⟨_, rfl, Or.inr ⟨rfl, rfl, rfl⟩, by decide +kernel⟩
theorem bp_Deal_3 : bx_PF "KnitTreaty$Deal" "<init>" 3 3 (.array .int) := ⟨_, rfl, Or.inr ⟨rfl, rfl, rfl⟩, by decide +kernel⟩
theorem bp_Deal_4 : bx_PF "KnitTreaty$Deal" "<init>" 3 4 (.array .int) := ⟨_, rfl, Or.inr ⟨rfl, rfl, rfl⟩, by decide +kernel⟩
theorem bp_Deal_5 : bx_PF "KnitTreaty$Deal" "<init>" 3 5 (.array .int) := ⟨_, rfl, Or.inr ⟨rfl, rfl, rfl⟩, by decide +kernel⟩
theorem bp_Deal_6 : bx_PF "KnitTreaty$Deal" "<init>" 3 6 (.array .int) := ⟨_, rfl, Or.inr ⟨rfl, rfl, rfl⟩, by decide +kernel⟩
theorem bp_Deal_7 : bx_PF "KnitTreaty$Deal" "<init>" 3 7 .int := ⟨_, rfl, Or.inl rfl, by decide +kernel⟩
theorem bp_Deal_8 : bx_PF "KnitTreaty$Deal" "<init>" 3 8 .int := ⟨_, rfl, Or.inl rfl, by decide +kernel⟩
theorem bs_Cloth : Cond.instantiable "KnitTreaty$Cloth" 9 ∈ kx_tb := kx_in (List.mem_of_getElem? (i := 375) (by decide +kernel)) rfl
theorem bn_Cloth : Cond.initialized "KnitTreaty$Cloth" ∈ kx_tb := kx_in (List.mem_of_getElem? (i := 66) (by decide +kernel)) rfl
theorem bp_Cloth_0 : bx_PF "KnitTreaty$Cloth" "<init>" 4 0 (.array .int) := ⟨_, rfl, Or.inr ⟨rfl, rfl, rfl⟩, by decide +kernel⟩
theorem bp_Cloth_1 : bx_PF "KnitTreaty$Cloth" "<init>" 4 1 (.array .int) := ⟨_, rfl, Or.inr ⟨rfl, rfl, rfl⟩, by decide +kernel⟩
theorem bp_Cloth_2 : bx_PF "KnitTreaty$Cloth" "<init>" 4 2 (.array .int) := ⟨_, rfl, Or.inr ⟨rfl, rfl, rfl⟩, by decide +kernel⟩
theorem bp_Cloth_3 : bx_PF "KnitTreaty$Cloth" "<init>" 4 3 (.array .int) := ⟨_, rfl, Or.inr ⟨rfl, rfl, rfl⟩, by decide +kernel⟩
theorem bp_Cloth_4 : bx_PF "KnitTreaty$Cloth" "<init>" 4 4 (.array .int) := ⟨_, rfl, Or.inr ⟨rfl, rfl, rfl⟩, by decide +kernel⟩
theorem bp_Cloth_5 : bx_PF "KnitTreaty$Cloth" "<init>" 4 5 .int := ⟨_, rfl, Or.inl rfl, by decide +kernel⟩
theorem bp_Cloth_6 : bx_PF "KnitTreaty$Cloth" "<init>" 4 6 .int := ⟨_, rfl, Or.inl rfl, by decide +kernel⟩
theorem bp_Cloth_7 : bx_PF "KnitTreaty$Cloth" "<init>" 4 7 .int := ⟨_, rfl, Or.inl rfl, by decide +kernel⟩
theorem bp_Cloth_8 : bx_PF "KnitTreaty$Cloth" "<init>" 4 8 .int := ⟨_, rfl, Or.inl rfl, by decide +kernel⟩
theorem bs_Script : Cond.instantiable "KnitTreaty$Script" 7 ∈ kx_tb := kx_in (List.mem_of_getElem? (i := 423) (by decide +kernel)) rfl
theorem bn_Script : Cond.initialized "KnitTreaty$Script" ∈ kx_tb := kx_in (List.mem_of_getElem? (i := 67) (by decide +kernel)) rfl
theorem bp_Script_0 : bx_PF "KnitTreaty$Script" "<init>" 5 0 (.array .int) := ⟨_, rfl, Or.inr ⟨rfl, rfl, rfl⟩, by decide +kernel⟩
theorem bp_Script_1 : bx_PF "KnitTreaty$Script" "<init>" 5 1 (.array .int) := ⟨_, rfl, Or.inr ⟨rfl, rfl, rfl⟩, by decide +kernel⟩
theorem bp_Script_2 : bx_PF "KnitTreaty$Script" "<init>" 5 2 (.array .int) := ⟨_, rfl, Or.inr ⟨rfl, rfl, rfl⟩, by decide +kernel⟩
theorem bp_Script_3 : bx_PF "KnitTreaty$Script" "<init>" 5 3 (.array .int) := ⟨_, rfl, Or.inr ⟨rfl, rfl, rfl⟩, by decide +kernel⟩
theorem bp_Script_4 : bx_PF "KnitTreaty$Script" "<init>" 5 4 .boolean := ⟨_, rfl, Or.inl rfl, by decide +kernel⟩
theorem bp_Script_5 : bx_PF "KnitTreaty$Script" "<init>" 5 5 .int := ⟨_, rfl, Or.inl rfl, by decide +kernel⟩
theorem bp_Script_6 : bx_PF "KnitTreaty$Script" "<init>" 5 6 .int := ⟨_, rfl, Or.inl rfl, by decide +kernel⟩
theorem bs_Reader : Cond.instantiable "KnitTreaty$Reader" 12 ∈ kx_tb := kx_in (List.mem_of_getElem? (i := 92) (by decide +kernel)) rfl
theorem bn_Reader : Cond.initialized "KnitTreaty$Reader" ∈ kx_tb := kx_in (List.mem_of_getElem? (i := 55) (by decide +kernel)) rfl
theorem bp_Reader_0 : bx_PF "KnitTreaty$Reader" "<init>" 6 0 (.array .long) := ⟨_, rfl, Or.inr ⟨rfl, rfl, rfl⟩, by decide +kernel⟩
theorem bp_Reader_1 : bx_PF "KnitTreaty$Reader" "<init>" 6 1 (.array .int) := ⟨_, rfl, Or.inl rfl, by decide +kernel⟩
theorem bp_Reader_2 : bx_PF "KnitTreaty$Reader" "<init>" 6 2 .int := ⟨_, rfl, Or.inl rfl, by decide +kernel⟩
theorem bp_Reader_3 : bx_PF "KnitTreaty$Reader" "<init>" 6 3 .int := ⟨_, rfl, Or.inl rfl, by decide +kernel⟩
theorem bp_Reader_4 : bx_PF "KnitTreaty$Reader" "<init>" 6 4 .int := ⟨_, rfl, Or.inl rfl, by decide +kernel⟩
theorem bp_Reader_5 : bx_PF "KnitTreaty$Reader" "<init>" 6 5 .int := ⟨_, rfl, Or.inl rfl, by decide +kernel⟩
theorem bp_Reader_6 : bx_PF "KnitTreaty$Reader" "<init>" 6 6 .int := ⟨_, rfl, Or.inl rfl, by decide +kernel⟩
theorem bp_Reader_7 : bx_PF "KnitTreaty$Reader" "<init>" 6 7 .long := ⟨_, rfl, Or.inl rfl, by decide +kernel⟩
theorem bp_Reader_8 : bx_PF "KnitTreaty$Reader" "<init>" 6 8 .int := ⟨_, rfl, Or.inl rfl, by decide +kernel⟩
theorem bp_Reader_9 : bx_PF "KnitTreaty$Reader" "<init>" 6 9 .int := ⟨_, rfl, Or.inl rfl, by decide +kernel⟩
theorem bp_Reader_10 : bx_PF "KnitTreaty$Reader" "<init>" 6 10 .int := ⟨_, rfl, Or.inl rfl, by decide +kernel⟩
theorem bp_Reader_11 : bx_PF "KnitTreaty$Reader" "<init>" 6 11 .int := ⟨_, rfl, Or.inl rfl, by decide +kernel⟩
theorem bs_TreatyText : Cond.instantiable "KnitTreaty$TreatyText" 3 ∈ kx_tb := kx_in (List.mem_of_getElem? (i := 86) (by decide +kernel)) rfl
theorem bn_TreatyText : Cond.initialized "KnitTreaty$TreatyText" ∈ kx_tb := kx_in (List.mem_of_getElem? (i := 54) (by decide +kernel)) rfl
theorem bp_TreatyText_0 : bx_PF "KnitTreaty$TreatyText" "<init>" 7 0 (.object "KnitTreaty$Reader") := ⟨_, rfl, Or.inr ⟨rfl, rfl, rfl⟩, by decide +kernel⟩
theorem bp_TreatyText_1 : bx_PF "KnitTreaty$TreatyText" "<init>" 7 1 .boolean := ⟨_, rfl, Or.inl rfl, by decide +kernel⟩
theorem bp_TreatyText_2 : bx_PF "KnitTreaty$TreatyText" "<init>" 7 2 .boolean := ⟨_, rfl, Or.inl rfl, by decide +kernel⟩
theorem bs_CenturyText : Cond.instantiable "KnitTreaty$CenturyText" 3 ∈ kx_tb := kx_in (List.mem_of_getElem? (i := 209) (by decide +kernel)) rfl
theorem bn_CenturyText : Cond.initialized "KnitTreaty$CenturyText" ∈ kx_tb := kx_in (List.mem_of_getElem? (i := 60) (by decide +kernel)) rfl
theorem bp_CenturyText_0 : bx_PF "KnitTreaty$CenturyText" "<init>" 8 0 (.object "KnitTreaty$Reader") := ⟨_, rfl, Or.inr ⟨rfl, rfl, rfl⟩, by decide +kernel⟩
theorem bp_CenturyText_1 : bx_PF "KnitTreaty$CenturyText" "<init>" 8 1 (.array .int) := ⟨_, rfl, Or.inr ⟨rfl, rfl, rfl⟩, by decide +kernel⟩
theorem bp_CenturyText_2 : bx_PF "KnitTreaty$CenturyText" "<init>" 8 2 .int := ⟨_, rfl, Or.inl rfl, by decide +kernel⟩
theorem bs_Life : Cond.instantiable "KnitTreaty$Life" 8 ∈ kx_tb := kx_in (List.mem_of_getElem? (i := 285) (by decide +kernel)) rfl
theorem bn_Life : Cond.initialized "KnitTreaty$Life" ∈ kx_tb := kx_in (List.mem_of_getElem? (i := 63) (by decide +kernel)) rfl
theorem bp_Life_0 : bx_PF "KnitTreaty$Life" "<init>" 9 0 (.array .int) := ⟨_, rfl, Or.inr ⟨rfl, rfl, rfl⟩, by decide +kernel⟩
theorem bp_Life_1 : bx_PF "KnitTreaty$Life" "<init>" 9 1 .int := ⟨_, rfl, Or.inl rfl, by decide +kernel⟩
theorem bp_Life_2 : bx_PF "KnitTreaty$Life" "<init>" 9 2 .int := ⟨_, rfl, Or.inl rfl, by decide +kernel⟩
theorem bp_Life_3 : bx_PF "KnitTreaty$Life" "<init>" 9 3 .int := ⟨_, rfl, Or.inl rfl, by decide +kernel⟩
theorem bp_Life_4 : bx_PF "KnitTreaty$Life" "<init>" 9 4 .int := ⟨_, rfl, Or.inl rfl, by decide +kernel⟩
theorem bp_Life_5 : bx_PF "KnitTreaty$Life" "<init>" 9 5 .int := ⟨_, rfl, Or.inl rfl, by decide +kernel⟩
theorem bp_Life_6 : bx_PF "KnitTreaty$Life" "<init>" 9 6 .int := ⟨_, rfl, Or.inl rfl, by decide +kernel⟩
theorem bp_Life_7 : bx_PF "KnitTreaty$Life" "<init>" 9 7 .int := ⟨_, rfl, Or.inl rfl, by decide +kernel⟩
theorem bs_Seen : Cond.instantiable "KnitTreaty$Seen" 6 ∈ kx_tb := kx_in (List.mem_of_getElem? (i := 228) (by decide +kernel)) rfl
theorem bn_Seen : Cond.initialized "KnitTreaty$Seen" ∈ kx_tb := kx_in (List.mem_of_getElem? (i := 61) (by decide +kernel)) rfl
theorem bp_Seen_0 : bx_PF "KnitTreaty$Seen" "<init>" 10 0 (.array .int) := ⟨_, rfl, Or.inr ⟨rfl, rfl, rfl⟩, by decide +kernel⟩
theorem bp_Seen_1 : bx_PF "KnitTreaty$Seen" "<init>" 10 1 .int := ⟨_, rfl, Or.inl rfl, by decide +kernel⟩
theorem bp_Seen_2 : bx_PF "KnitTreaty$Seen" "<init>" 10 2 (.array .int) := ⟨_, rfl, Or.inr ⟨rfl, rfl, rfl⟩, by decide +kernel⟩
theorem bp_Seen_3 : bx_PF "KnitTreaty$Seen" "<init>" 10 3 .int := ⟨_, rfl, Or.inl rfl, by decide +kernel⟩
theorem bp_Seen_4 : bx_PF "KnitTreaty$Seen" "<init>" 10 4 (.array .int) := ⟨_, rfl, Or.inl rfl, by decide +kernel⟩
theorem bp_Seen_5 : bx_PF "KnitTreaty$Seen" "<init>" 10 5 (.array .int) := ⟨_, rfl, Or.inl rfl, by decide +kernel⟩
theorem bs_Joiner : Cond.instantiable "KnitTreaty$Joiner" 7 ∈ kx_tb := kx_in (List.mem_of_getElem? (i := 255) (by decide +kernel)) rfl
theorem bn_Joiner : Cond.initialized "KnitTreaty$Joiner" ∈ kx_tb := kx_in (List.mem_of_getElem? (i := 62) (by decide +kernel)) rfl
theorem bp_Joiner_0 : bx_PF "KnitTreaty$Joiner" "<init>" 11 0 (.array .int) := ⟨_, rfl, Or.inr ⟨rfl, rfl, rfl⟩, by decide +kernel⟩
theorem bp_Joiner_1 : bx_PF "KnitTreaty$Joiner" "<init>" 11 1 (.array .long) := ⟨_, rfl, Or.inr ⟨rfl, rfl, rfl⟩, by decide +kernel⟩
theorem bp_Joiner_2 : bx_PF "KnitTreaty$Joiner" "<init>" 11 2 (.array .int) := ⟨_, rfl, Or.inr ⟨rfl, rfl, rfl⟩, by decide +kernel⟩
theorem bp_Joiner_3 : bx_PF "KnitTreaty$Joiner" "<init>" 11 3 (.array .long) := ⟨_, rfl, Or.inr ⟨rfl, rfl, rfl⟩, by decide +kernel⟩
theorem bp_Joiner_4 : bx_PF "KnitTreaty$Joiner" "<init>" 11 4 .int := ⟨_, rfl, Or.inl rfl, by decide +kernel⟩
theorem bp_Joiner_5 : bx_PF "KnitTreaty$Joiner" "<init>" 11 5 .int := ⟨_, rfl, Or.inl rfl, by decide +kernel⟩
theorem bp_Joiner_6 : bx_PF "KnitTreaty$Joiner" "<init>" 11 6 .long := ⟨_, rfl, Or.inl rfl, by decide +kernel⟩
theorem bc_KT_9 : Cond.classLink "KnitTreaty" 9 "KnitTreaty$Tray" ∈ kx_tb := kx_in (List.mem_of_getElem? (i := 81) (by decide +kernel)) rfl
theorem bc_KT_19 : Cond.classLink "KnitTreaty" 19 "KnitTreaty$State" ∈ kx_tb := kx_in (List.mem_of_getElem? (i := 83) (by decide +kernel)) rfl
theorem bc_KT_25 : Cond.classLink "KnitTreaty" 25 "KnitTreaty$TreatyText" ∈ kx_tb := kx_in (List.mem_of_getElem? (i := 85) (by decide +kernel)) rfl
theorem bc_KT_32 : Cond.classLink "KnitTreaty" 32 "KnitTreaty$CenturyText" ∈ kx_tb := kx_in (List.mem_of_getElem? (i := 208) (by decide +kernel)) rfl
theorem bc_KT_39 : Cond.classLink "KnitTreaty" 39 "KnitTreaty$Seen" ∈ kx_tb := kx_in (List.mem_of_getElem? (i := 227) (by decide +kernel)) rfl
theorem bc_KT_46 : Cond.classLink "KnitTreaty" 46 "KnitTreaty$Joiner" ∈ kx_tb := kx_in (List.mem_of_getElem? (i := 254) (by decide +kernel)) rfl
theorem bc_KT_53 : Cond.classLink "KnitTreaty" 53 "KnitTreaty$Life" ∈ kx_tb := kx_in (List.mem_of_getElem? (i := 284) (by decide +kernel)) rfl
theorem bc_CenturyText_9 : Cond.classLink "KnitTreaty$CenturyText" 9 "KnitTreaty$Reader" ∈ kx_tb := kx_in (List.mem_of_getElem? (i := 214) (by decide +kernel)) rfl
theorem bc_State_7 : Cond.classLink "KnitTreaty$State" 7 "KnitTreaty$Deal" ∈ kx_tb := kx_in (List.mem_of_getElem? (i := 320) (by decide +kernel)) rfl
theorem bc_State_16 : Cond.classLink "KnitTreaty$State" 16 "KnitTreaty$Cloth" ∈ kx_tb := kx_in (List.mem_of_getElem? (i := 374) (by decide +kernel)) rfl
theorem bc_State_23 : Cond.classLink "KnitTreaty$State" 23 "KnitTreaty$Script" ∈ kx_tb := kx_in (List.mem_of_getElem? (i := 422) (by decide +kernel)) rfl
theorem bc_TreatyText_9 : Cond.classLink "KnitTreaty$TreatyText" 9 "KnitTreaty$Reader" ∈ kx_tb := kx_in (List.mem_of_getElem? (i := 91) (by decide +kernel)) rfl
theorem bc_LW_18 : Cond.classLink "KnitTreatyLaw" 18 "KnitTreaty" ∈ kx_tb := kx_in (List.mem_of_getElem? (i := 73) (by decide +kernel)) rfl
theorem bm_KT_1 : Cond.methodLink "KnitTreaty" 1 Lib.objectInit ∈ kx_tb := kx_in (List.mem_of_getElem? (i := 78) (by decide +kernel)) rfl
theorem bm_CenturyText_3 : Cond.methodLink "KnitTreaty$CenturyText" 3 Lib.objectInit ∈ kx_tb := kx_in (List.mem_of_getElem? (i := 213) (by decide +kernel)) rfl
theorem bm_CenturyText_11 : Cond.methodLink "KnitTreaty$CenturyText" 11 m_Reader_init.1 ∈ kx_tb ∧ Cond.instanceMethod m_Reader_init.1 ∈ kx_tb ∧ kx_par m_Reader_init 0 := ⟨kx_in (List.mem_of_getElem? (i := 215) (by decide +kernel)) rfl, kx_in (List.mem_of_getElem? (i := 94) (by decide +kernel)) rfl, by decide +kernel⟩
theorem bm_Cloth_3 : Cond.methodLink "KnitTreaty$Cloth" 3 Lib.objectInit ∈ kx_tb := kx_in (List.mem_of_getElem? (i := 379) (by decide +kernel)) rfl
theorem bm_Deal_3 : Cond.methodLink "KnitTreaty$Deal" 3 Lib.objectInit ∈ kx_tb := kx_in (List.mem_of_getElem? (i := 325) (by decide +kernel)) rfl
theorem bm_Joiner_3 : Cond.methodLink "KnitTreaty$Joiner" 3 Lib.objectInit ∈ kx_tb := kx_in (List.mem_of_getElem? (i := 259) (by decide +kernel)) rfl
theorem bm_Life_3 : Cond.methodLink "KnitTreaty$Life" 3 Lib.objectInit ∈ kx_tb := kx_in (List.mem_of_getElem? (i := 289) (by decide +kernel)) rfl
theorem bm_Reader_3 : Cond.methodLink "KnitTreaty$Reader" 3 Lib.objectInit ∈ kx_tb := kx_in (List.mem_of_getElem? (i := 96) (by decide +kernel)) rfl
theorem bm_Script_3 : Cond.methodLink "KnitTreaty$Script" 3 Lib.objectInit ∈ kx_tb := kx_in (List.mem_of_getElem? (i := 427) (by decide +kernel)) rfl
theorem bm_Seen_3 : Cond.methodLink "KnitTreaty$Seen" 3 Lib.objectInit ∈ kx_tb := kx_in (List.mem_of_getElem? (i := 232) (by decide +kernel)) rfl
theorem bm_State_1 : Cond.methodLink "KnitTreaty$State" 1 Lib.objectInit ∈ kx_tb := kx_in (List.mem_of_getElem? (i := 319) (by decide +kernel)) rfl
theorem bm_Tray_3 : Cond.methodLink "KnitTreaty$Tray" 3 Lib.objectInit ∈ kx_tb := kx_in (List.mem_of_getElem? (i := 475) (by decide +kernel)) rfl
theorem bm_TreatyText_3 : Cond.methodLink "KnitTreaty$TreatyText" 3 Lib.objectInit ∈ kx_tb := kx_in (List.mem_of_getElem? (i := 90) (by decide +kernel)) rfl
theorem bm_TreatyText_11 : Cond.methodLink "KnitTreaty$TreatyText" 11 m_Reader_init.1 ∈ kx_tb ∧ Cond.instanceMethod m_Reader_init.1 ∈ kx_tb ∧ kx_par m_Reader_init 0 := ⟨kx_in (List.mem_of_getElem? (i := 93) (by decide +kernel)) rfl, kx_in (List.mem_of_getElem? (i := 94) (by decide +kernel)) rfl, by decide +kernel⟩
theorem bm_LW_120 : Cond.methodLink "KnitTreatyLaw" 120 m_KT_init.1 ∈ kx_tb ∧ Cond.instanceMethod m_KT_init.1 ∈ kx_tb ∧ kx_par m_KT_init 0 := ⟨kx_in (List.mem_of_getElem? (i := 75) (by decide +kernel)) rfl, kx_in (List.mem_of_getElem? (i := 76) (by decide +kernel)) rfl, by decide +kernel⟩
theorem bm_KT_27 : Cond.methodLinkNest "KnitTreaty" 27 m_TreatyText_init.1 "KnitTreaty" ∈ bx_nest ∧ Cond.instanceMethod m_TreatyText_init.1 ∈ kx_tb ∧ kx_par m_TreatyText_init 0 := ⟨by decide +kernel, kx_in (List.mem_of_getElem? (i := 88) (by decide +kernel)) rfl, by decide +kernel⟩
theorem bm_KT_34 : Cond.methodLinkNest "KnitTreaty" 34 m_CenturyText_init.1 "KnitTreaty" ∈ bx_nest ∧ Cond.instanceMethod m_CenturyText_init.1 ∈ kx_tb ∧ kx_par m_CenturyText_init 0 := ⟨by decide +kernel, kx_in (List.mem_of_getElem? (i := 211) (by decide +kernel)) rfl, by decide +kernel⟩
theorem bm_KT_41 : Cond.methodLinkNest "KnitTreaty" 41 m_Seen_init.1 "KnitTreaty" ∈ bx_nest ∧ Cond.instanceMethod m_Seen_init.1 ∈ kx_tb ∧ kx_par m_Seen_init 0 := ⟨by decide +kernel, kx_in (List.mem_of_getElem? (i := 230) (by decide +kernel)) rfl, by decide +kernel⟩
theorem bm_KT_48 : Cond.methodLinkNest "KnitTreaty" 48 m_Joiner_init.1 "KnitTreaty" ∈ bx_nest ∧ Cond.instanceMethod m_Joiner_init.1 ∈ kx_tb ∧ kx_par m_Joiner_init 0 := ⟨by decide +kernel, kx_in (List.mem_of_getElem? (i := 257) (by decide +kernel)) rfl, by decide +kernel⟩
theorem bm_KT_55 : Cond.methodLinkNest "KnitTreaty" 55 m_Life_init.1 "KnitTreaty" ∈ bx_nest ∧ Cond.instanceMethod m_Life_init.1 ∈ kx_tb ∧ kx_par m_Life_init 0 := ⟨by decide +kernel, kx_in (List.mem_of_getElem? (i := 287) (by decide +kernel)) rfl, by decide +kernel⟩
theorem bm_KT_63 : Cond.methodLinkNest "KnitTreaty" 63 m_State_init.1 "KnitTreaty" ∈ bx_nest ∧ Cond.instanceMethod m_State_init.1 ∈ kx_tb ∧ kx_par m_State_init 0 := ⟨by decide +kernel, kx_in (List.mem_of_getElem? (i := 317) (by decide +kernel)) rfl, by decide +kernel⟩
theorem bm_KT_98 : Cond.methodLinkNest "KnitTreaty" 98 m_Tray_init.1 "KnitTreaty" ∈ bx_nest ∧ Cond.instanceMethod m_Tray_init.1 ∈ kx_tb ∧ kx_par m_Tray_init 0 := ⟨by decide +kernel, kx_in (List.mem_of_getElem? (i := 473) (by decide +kernel)) rfl, by decide +kernel⟩
theorem bm_State_9 : Cond.methodLinkNest "KnitTreaty$State" 9 m_Deal_init.1 "KnitTreaty" ∈ bx_nest ∧ Cond.instanceMethod m_Deal_init.1 ∈ kx_tb ∧ kx_par m_Deal_init 0 := ⟨by decide +kernel, kx_in (List.mem_of_getElem? (i := 323) (by decide +kernel)) rfl, by decide +kernel⟩
theorem bm_State_18 : Cond.methodLinkNest "KnitTreaty$State" 18 m_Cloth_init.1 "KnitTreaty" ∈ bx_nest ∧ Cond.instanceMethod m_Cloth_init.1 ∈ kx_tb ∧ kx_par m_Cloth_init 0 := ⟨by decide +kernel, kx_in (List.mem_of_getElem? (i := 377) (by decide +kernel)) rfl, by decide +kernel⟩
theorem bm_State_25 : Cond.methodLinkNest "KnitTreaty$State" 25 m_Script_init.1 "KnitTreaty" ∈ bx_nest ∧ Cond.instanceMethod m_Script_init.1 ∈ kx_tb ∧ kx_par m_Script_init 0 := ⟨by decide +kernel, kx_in (List.mem_of_getElem? (i := 425) (by decide +kernel)) rfl, by decide +kernel⟩
