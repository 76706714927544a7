/-! ## the memory: ints and longs in fields (I, J), rows of ints and of longs (A, B), references that are written (R) -/
abbrev kx_M : Type := (Nat → Nat → Int32) × (Nat → Nat → Int64) × (Nat → Nat → Int32) × (Nat → Nat → Int64) × (Nat → Nat → Nat)
def mI (M : kx_M) : Nat → Nat → Int32 := M.1
def mJ (M : kx_M) : Nat → Nat → Int64 := M.2.1
def mA (M : kx_M) : Nat → Nat → Int32 := M.2.2.1
def mB (M : kx_M) : Nat → Nat → Int64 := M.2.2.2.1
def mR (M : kx_M) : Nat → Nat → Nat := M.2.2.2.2
def u2 {α : Type} (f : Nat → Nat → α) (i k : Nat) (v : α) : Nat → Nat → α := fun a b => if a = i ∧ b = k then v else f a b
def u1 {α : Type} (f : Nat → α) (i : Nat) (v : α) : Nat → α := fun a => if a = i then v else f a
def sI (M : kx_M) (i k : Nat) (v : Int32) : kx_M := (u2 M.1 i k v, M.2)
def sJ (M : kx_M) (i k : Nat) (v : Int64) : kx_M := (M.1, u2 M.2.1 i k v, M.2.2)
def sA (M : kx_M) (i : Nat) (f : Nat → Int32) : kx_M := (M.1, M.2.1, u1 M.2.2.1 i f, M.2.2.2)
def sB (M : kx_M) (i : Nat) (f : Nat → Int64) : kx_M := (M.1, M.2.1, M.2.2.1, u1 M.2.2.2.1 i f, M.2.2.2.2)
def sR (M : kx_M) (i k : Nat) (v : Nat) : kx_M := (M.1, M.2.1, M.2.2.1, M.2.2.2.1, u2 M.2.2.2.2 i k v)
/-- the launch, the classes' numbers and slots, the arrays' classes, where the world begins, the static rows -/
abbrev kx_W : Type := Launch × va_G × (Nat → ClassId) × Nat × (Nat → Nat)
def kx_cv (w : kx_W) : Value → Value
  | .ref i => .ref (w.2.2.2.1 + i)
  | .retAddr k => .ref (w.2.2.2.2 k)
  | v => v
def kx_fv (w : kx_W) (M : kx_M) (id k : Nat) : Nat → Value
  | 0 => .int (mI M id k)
  | 1 => .long (mJ M id k)
  | 2 => .ref (w.2.2.2.1 + mR M id k)
  | q + 3 => .ref (w.2.2.2.1 + q)
def kx_fs (w : kx_W) (M : kx_M) (id : Nat) (ks : List Nat) : List Value := (List.range ks.length).map fun k => kx_fv w M id k (ks.getD k 0)
def kx_en (w : kx_W) (M : kx_M) (id : Nat) : Nat × Nat × List Nat → va_E
  | (0, ci, ks) => .inr (ci, kx_fs w M id ks)
  | (1, n, _) => .inl (w.2.2.1 0, (n, .inl (mA M id)))
  | (2, n, _) => .inl (w.2.2.1 1, (n, .inr (.inl (mB M id))))
  | (3, n, _) => .inl (w.2.2.1 2, (n, .inl (mA M id)))
  | (t + 4, n, ids) => .inl (w.2.2.1 (t + 3), (n, .inr (.inr (.inr (.inr fun k => some (w.2.2.2.1 + ids.getD k 0))))))
def kx_ws (w : kx_W) (M : kx_M) : va_W := (List.range kx_n).map fun id => (w.2.2.2.1 + id, kx_en w M id (kx_lay.getD id (0, 0, [])))
def kx_tys (w : kx_W) : List (ClassId × FieldType) := [(w.2.2.1 0, .int), (w.2.2.1 1, .long), (w.2.2.1 2, .byte), (w.2.2.1 3, .object "KnitTreaty$Tray"), (w.2.2.1 4, .object "KnitTreaty$State")]
def kx_A (w : kx_W) : Nat → Prop := fun q => w.2.2.2.1 ≤ q
def kx_wool : Nat → Value := fun j => .int (([1, 1, 2, 0] : List Int32).getD j 0)
/-- the script -/
def kx_sc (w : kx_W) : Nat × (Nat → Int32) := (w.2.2.2.2 5, fun j => Int32.ofBitVec (BitVec.ofNat 32 (w.2.2.2.2 (j + 100))))
/-- the law's strings: their places in the pool, their texts, bytes, lengths -/
def lw_sK : List Nat := [55, 60, 62, 64, 70, 72, 74, 43, 45, 47, 49, 79, 81, 83, 85]
def lw_sT : List String := ["wide", ";tough", ";", "queen", " wool", "clause", " is", " knit", " purl", " cable", " hole", "clash", "gives", ";costs", "row"]
def lw_sL : List (List Int32) := [[119, 105, 100, 101], [59, 116, 111, 117, 103, 104], [59], [113, 117, 101, 101, 110], [32, 119, 111, 111, 108], [99, 108, 97, 117, 115, 101], [32, 105, 115], [32, 107, 110, 105, 116], [32, 112, 117, 114, 108], [32, 99, 97, 98, 108, 101], [32, 104, 111, 108, 101], [99, 108, 97, 115, 104], [103, 105, 118, 101, 115], [59, 99, 111, 115, 116, 115], [114, 111, 119]]
def lw_sN : List Nat := [4, 6, 1, 5, 5, 6, 3, 5, 5, 6, 5, 5, 5, 6, 3]
/-- what the check of an index is told to make of a fault: a reference, or none -/
def bx_F (w : kx_W) (U : State) (H : Heap) : Prop := ∃ v0 : Value, (v0 = .null ∨ v0 = .retAddr 4) ∧ va_Z "jdk/internal/util/Preconditions" "SIOOBE_FORMATTER" "Ljava/util/function/BiFunction;" (kx_cv w v0) (kx_A w) U H
/-- the script, the law's strings, what their methods look at -/
def kx_S2 (w : kx_W) (U : State) (H : Heap) : Prop := va_T .int (w.2.2.2.2 3) (kx_sc w).1 (fun j => .int ((kx_sc w).2 j)) (kx_A w) U H ∧ vk_S 15 lw_sN lw_sL (fun i => w.2.2.2.2 (i + 10)) (fun i => w.2.2.2.2 (i + 30)) (kx_A w) U H ∧ va_Z "java/lang/String" "COMPACT_STRINGS" "Z" (.int 1) (kx_A w) U H ∧ bx_F w U H
def kx_S (w : kx_W) (U : State) (H : Heap) : Prop := va_Z "KnitTreaty" "WOOL_OF" "[I" (.ref (w.2.2.2.2 0)) (kx_A w) U H ∧ va_T .int (w.2.2.2.2 0) 4 kx_wool (kx_A w) U H ∧ kx_S2 w U H
def kx_N (w : kx_W) (U : State) : Prop := (∀ n ∈ kx_nest, va_Nw n U) ∧ ∀ i, i < 15 → vk_R "KnitTreatyLaw" (lw_sK.getD i 0) (lw_sT.getD i "") (w.2.2.2.2 (i + 10)) U
def kx_P (w : kx_W) (M : kx_M) (U : State) : Prop := va_P w.2.1 kx_cl (kx_ws w M) U.heap ∧ va_K w.2.1 kx_cl (kx_tys w) U ∧ kx_S w U U.heap ∧ kx_N w U
def kx_Qc (w : kx_W) (Q : Option Value → kx_M → Prop) : Array Value → State → Outcome → State → Prop := fun _ st o t => ∃ (r : Option Value) (M' : kx_M), o = .returned (r.map (kx_cv w)) ∧ Q r M' ∧ st.heap.size ≤ t.heap.size ∧ va_P w.2.1 kx_cl (kx_ws w M') t.heap ∧ ∀ q : Nat, q < st.heap.size → q < w.2.2.2.1 → t.heap[q]? = st.heap[q]?
def kx_rm (d : Nat) : Room := { frames := d, cells := 0, slots := 0, locals := (38 * d + 27) }
def kx_wd (m : kx_md) : List Cond := Cond.code m.1 m.2.1 m.2.2.1 m.2.2.2.1 :: kx_tb
/-- a method's contract, at a depth, from arguments and a memory, to what Q says of its answer and the memory then -/
def Ct (w : kx_W) (d : Nat) (m : kx_md) (args : List Value) (M : kx_M) (Q : Option Value → kx_M → Prop) : Prop :=
  Met w.1 m.1 (kx_wd m) (kx_rm d) (va_Pc (args.map (kx_cv w)) (kx_P w M)) (kx_Qc w Q) 0 0 (kx_A w)
def kx_lp (w : kx_W) (L : List (Option Value)) : List (Nat × Value) := (List.range L.length).filterMap fun i => (L.getD i none).map fun v => (i, kx_cv w v)
def kx_ls (w : kx_W) (ls : Array Slot) (nL : Nat) (L : List (Option Value)) : Prop := lv_has ls nL (kx_lp w L)
def kx_g (w : kx_W) (p : Program) (e : Env) (R : Room) (s : State) (mi : MethodId) (args : Array Value) (below : List Frame) (meth : Method) (c : Code) (nL cells slots : Nat) (Qf : State → Prop) : Nat → List (Option Value) → List Value → kx_M → Prop := fun pc L S M =>
  ∀ (H : Heap) (locs : List Loc) (ls : Array Slot), va_P w.2.1 kx_cl (kx_ws w M) H → va_S (kx_A w) s.heap H locs → kx_ls w ls nL L → W p w.1 e R s mi args below meth c H locs cells slots Qf (F0 mi pc ls (S.map (kx_cv w)))
def kx_X (w : kx_W) (d : Nat) (own : String) (b : ByteArray) (nL : Nat) (cl : List (Nat × Instr × Nat)) (p : Program) (R : Room) (s : State) (mi : MethodId) (args : Array Value) (c : Code) (cells slots : Nat) : Prop :=
  p.tables.exec = Jvm.exec ∧ c.code = b ∧ c.maxLocals = nL ∧ s.vm.findClass own = some mi.cls ∧ (∀ x ∈ kx_tb, x.before args s = true) ∧ va_K w.2.1 kx_cl (kx_tys w) s ∧ kx_S w s s.heap ∧ kx_N w s ∧ (d ≤ R.frames ∧ (38 * d + 27) ≤ R.locals ∧ cells ≤ R.cells ∧ slots ≤ R.slots) ∧ (∀ q ∈ cl, decode b q.1 = .ok (q.2.1, q.2.2))
/-- G is what the machine's goal is at a place of the method, with locals, a stack, a memory -/
def kx_Sb (w : kx_W) (d : Nat) (own : String) (b : ByteArray) (nL : Nat) (cl : List (Nat × Instr × Nat)) (G : Nat → List (Option Value) → List Value → kx_M → Prop) : Prop :=
  ∃ (p : Program) (e : Env) (R : Room) (s : State) (mi : MethodId) (args : Array Value) (below : List Frame) (meth : Method) (c : Code) (cells slots : Nat) (Qf : State → Prop), G = kx_g w p e R s mi args below meth c nL cells slots Qf ∧ kx_X w d own b nL cl p R s mi args c cells slots
def kx_Rt (m : kx_md) (Q : Option Value → kx_M → Prop) (G : Nat → List (Option Value) → List Value → kx_M → Prop) : Prop :=
  (∀ pc L v M, decode m.2.1 pc = .ok (.ireturn, 1) → m.2.2.2.1 = some .int → Q (some (.int v)) M → G pc L [.int v] M) ∧
  (∀ pc L v M ty, decode m.2.1 pc = .ok (.ireturn, 1) → m.2.2.2.1 = some ty → narrow ty (.int v) = .int v → Q (some (.int v)) M → G pc L [.int v] M) ∧
  (∀ pc L v M, decode m.2.1 pc = .ok (.lreturn, 1) → m.2.2.2.1 = some .long → Q (some (.long v)) M → G pc L [.long v] M) ∧
  (∀ pc L M, decode m.2.1 pc = .ok (.return_, 1) → m.2.2.2.1 = none → Q none M → G pc L [] M) ∧
  (∀ pc L v M C, decode m.2.1 pc = .ok (.areturn, 1) → m.2.2.2.1 = some (.object C) → Q (some (.ref v)) M → G pc L [.ref v] M)
def Sd (w : kx_W) (d : Nat) (m : kx_md) (Q : Option Value → kx_M → Prop) (G : Nat → List (Option Value) → List Value → kx_M → Prop) : Prop :=
  kx_Sb w d m.1.cls m.2.1 m.2.2.1 m.2.2.2.2 G ∧ kx_Rt m Q G ∧ (∀ q ∈ m.2.2.2.2, decode m.2.1 q.1 = .ok (q.2.1, q.2.2))
/-! ## facts of the world -/
theorem kx_ws_at {w : kx_W} {M : kx_M} {id : Nat} {z : Nat × Nat × List Nat} (h : kx_lay[id]? = some z) : (kx_ws w M)[id]? = some (w.2.2.2.1 + id, kx_en w M id z) := by
  have hl : id < kx_n := by rw [← kx_lay_len]; exact (List.getElem?_eq_some_iff.mp h).1
  unfold kx_ws
  rw [List.getElem?_map, List.getElem?_range hl]
  simp [List.getD, h]
theorem kx_ws_D (w : kx_W) (M : kx_M) : va_D (kx_A w) (kx_ws w M) := by
  have key : ∀ (k : Nat) (q : Nat × va_E), (kx_ws w M)[k]? = some q → q.1 = w.2.2.2.1 + k := by
    intro k q h
    unfold kx_ws at h
    rw [List.getElem?_map] at h
    cases hr : (List.range kx_n)[k]? with
    | none => rw [hr] at h; cases h
    | some z =>
      rw [hr] at h
      have hz : z = k := by
        have := List.getElem?_eq_some_iff.mp hr
        obtain ⟨h1, h2⟩ := this
        rw [← h2]; simp
      subst hz
      cases h
      rfl
  refine ⟨fun i j p q hi hj he => ?_, fun k q hk => ?_⟩
  · rw [key i p hi, key j q hj] at he; omega
  · rw [key k q hk]; exact Nat.le_add_right _ _
theorem kx_en_same {w : kx_W} {M M' : kx_M} {j : Nat} (hI : ∀ k, mI M' j k = mI M j k) (hJ : ∀ k, mJ M' j k = mJ M j k) (hA : mA M' j = mA M j) (hB : mB M' j = mB M j) (hR : ∀ k, mR M' j k = mR M j k) (z : Nat × Nat × List Nat) : kx_en w M' j z = kx_en w M j z := by
  have hf : ∀ (k kd : Nat), kx_fv w M' j k kd = kx_fv w M j k kd := by
    intro k kd
    match kd with
    | 0 => simp only [kx_fv, hI]
    | 1 => simp only [kx_fv, hJ]
    | 2 => simp only [kx_fv, hR]
    | q + 3 => rfl
  obtain ⟨t, n, ks⟩ := z
  match t with
  | 0 => simp only [kx_en, kx_fs, hf]
  | 1 => simp only [kx_en, hA]
  | 2 => simp only [kx_en, hB]
  | 3 => simp only [kx_en, hA]
  | t + 4 => rfl
theorem kx_ws_set {w : kx_W} {M M' : kx_M} {id : Nat} {z : Nat × Nat × List Nat} {x : va_E} (h : kx_lay[id]? = some z) (hx : x = kx_en w M' id z) (hs : ∀ j, j ≠ id → (∀ k, mI M' j k = mI M j k) ∧ (∀ k, mJ M' j k = mJ M j k) ∧ mA M' j = mA M j ∧ mB M' j = mB M j ∧ (∀ k, mR M' j k = mR M j k)) :
    (kx_ws w M).set id (w.2.2.2.1 + id, x) = kx_ws w M' := by
  have hl : id < kx_n := by rw [← kx_lay_len]; exact (List.getElem?_eq_some_iff.mp h).1
  apply List.ext_getElem?
  intro j
  by_cases hj : j = id
  · subst hj
    rw [kx_ws_at h, List.getElem?_set_self (by simp [kx_ws]; exact hl), hx]
  · rw [List.getElem?_set_ne (Ne.symm hj)]
    unfold kx_ws
    rw [List.getElem?_map, List.getElem?_map]
    cases hr : (List.range kx_n)[j]? with
    | none => rfl
    | some y =>
      have hy : y = j := by
        obtain ⟨h1, h2⟩ := List.getElem?_eq_some_iff.mp hr
        rw [← h2]; simp
      subst hy
      obtain ⟨a1, a2, a3, a4, a5⟩ := hs y hj
      simp only [Option.map_some, kx_en_same a1 a2 a3 a4 a5]
theorem kx_fs_at {w : kx_W} {M : kx_M} {id k kd : Nat} {ks : List Nat} (h : ks[k]? = some kd) : (kx_fs w M id ks)[k]? = some (kx_fv w M id k kd) := by
  have hl : k < ks.length := (List.getElem?_eq_some_iff.mp h).1
  unfold kx_fs
  rw [List.getElem?_map, List.getElem?_range hl]
  simp [List.getD, h]
theorem kx_fs_set {w : kx_W} {M M' : kx_M} {id k kd : Nat} {ks : List Nat} {v : Value} (h : ks[k]? = some kd) (hv : v = kx_fv w M' id k kd) (hs : ∀ j kd', j ≠ k → kx_fv w M' id j kd' = kx_fv w M id j kd') : (kx_fs w M id ks).set k v = kx_fs w M' id ks := by
  have hl : k < ks.length := (List.getElem?_eq_some_iff.mp h).1
  apply List.ext_getElem?
  intro j
  by_cases hj : j = k
  · subst hj
    rw [kx_fs_at h, List.getElem?_set_self (by simp [kx_fs]; exact hl), hv]
  · rw [List.getElem?_set_ne (Ne.symm hj)]
    unfold kx_fs
    rw [List.getElem?_map, List.getElem?_map]
    cases hr : (List.range ks.length)[j]? with
    | none => rfl
    | some y =>
      have hy : y = j := by
        obtain ⟨h1, h2⟩ := List.getElem?_eq_some_iff.mp hr
        rw [← h2]; simp
      subst hy
      simp only [Option.map_some, hs y _ hj]
theorem kx_lp_mem {w : kx_W} {L : List (Option Value)} {i : Nat} {v : Value} (h : L[i]? = some (some v)) : (i, kx_cv w v) ∈ kx_lp w L := by
  have hl : i < L.length := (List.getElem?_eq_some_iff.mp h).1
  unfold kx_lp
  refine List.mem_filterMap.mpr ⟨i, List.mem_range.mpr hl, ?_⟩
  simp [List.getD, h]
theorem kx_lp_of {w : kx_W} {L : List (Option Value)} {q : Nat × Value} (h : q ∈ kx_lp w L) : ∃ v, L[q.1]? = some (some v) ∧ q.2 = kx_cv w v := by
  unfold kx_lp at h
  obtain ⟨i, hi, hq⟩ := List.mem_filterMap.mp h
  cases hg : L.getD i none with
  | none => rw [hg] at hq; cases hq
  | some v =>
    rw [hg] at hq
    cases hq
    refine ⟨v, ?_, rfl⟩
    have hl := List.mem_range.mp hi
    simp only [List.getD] at hg
    cases hx : L[i]? with
    | none => rw [hx] at hg; cases hg
    | some y => rw [hx] at hg; simp at hg; rw [hg]
theorem kx_ls_at {w : kx_W} {ls : Array Slot} {nL : Nat} {L : List (Option Value)} (h : kx_ls w ls nL L) {i : Nat} {v : Value} (hi : L[i]? = some (some v)) : ls[i]? = some (.val (kx_cv w v)) := h.2.2 _ (kx_lp_mem hi)
/-- no long begins just ahead of a place -/
def kx_nl (L : List (Option Value)) : Nat → Bool
  | 0 => true
  | i + 1 => match L[i]? with
    | some (some (.long _)) => false
    | some (some (.double _)) => false
    | _ => true
theorem kx_cv_cat (w : kx_W) (v : Value) : (kx_cv w v).category = v.category := by
  cases v <;> rfl
theorem kx_nl_cat {L : List (Option Value)} {i j : Nat} {v : Value} (h : kx_nl L i = true) (hj : j + 1 = i) (hv : L[j]? = some (some v)) : ¬ v.category = 2 := by
  subst hj
  cases v <;> simp_all [kx_nl, Value.category]
theorem kx_ls_set1 {w : kx_W} {ls : Array Slot} {nL i : Nat} {L : List (Option Value)} {v : Value} (hi : i < L.length) (hc : kx_nl L i = true)
    (h : lv_has ls nL ((i, kx_cv w v) :: (kx_lp w L).filter (fun q => !(q.1 == i) && !(q.1 + 1 == i && q.2.category == 2)))) : kx_ls w ls nL (L.set i (some v)) := by
  refine ⟨h.1, h.2.1, fun q hq => h.2.2 q ?_⟩
  obtain ⟨x, hx, he⟩ := kx_lp_of hq
  obtain ⟨j, y⟩ := q
  simp only at hx he
  subst he
  by_cases hj : j = i
  · subst hj
    rw [List.getElem?_set_self hi] at hx
    cases hx
    exact List.mem_cons_self
  · rw [List.getElem?_set_ne (Ne.symm hj)] at hx
    refine List.mem_cons_of_mem _ (List.mem_filter.mpr ⟨kx_lp_mem hx, ?_⟩)
    have hn : ¬ (j + 1 = i ∧ x.category = 2) := fun ⟨a, b⟩ => kx_nl_cat hc a hx b
    simp only [kx_cv_cat, Bool.and_eq_true, Bool.not_eq_true', beq_eq_false_iff_ne, ne_eq, hj, not_false_eq_true, true_and, Bool.and_eq_false_iff]
    rcases Nat.decEq (j + 1) i with h1 | h1
    · exact Or.inl h1
    · exact Or.inr (fun h2 => hn ⟨h1, h2⟩)
theorem kx_ls_set2 {w : kx_W} {ls : Array Slot} {nL i : Nat} {L : List (Option Value)} {x : Int64} (hi : i < L.length) (hc : kx_nl L i = true)
    (h : lv_has ls nL ((i, .long x) :: (kx_lp w L).filter (fun q => !(q.1 == i) && (!(q.1 == i + 1) && !(q.1 + 1 == i && q.2.category == 2))))) : kx_ls w ls nL ((L.set i (some (.long x))).set (i + 1) none) := by
  refine ⟨h.1, h.2.1, fun q hq => h.2.2 q ?_⟩
  obtain ⟨y, hy, he⟩ := kx_lp_of hq
  obtain ⟨j, z⟩ := q
  simp only at hy he
  subst he
  by_cases hj1 : j = i + 1
  · subst hj1
    by_cases hl : i + 1 < (L.set i (some (.long x))).length
    · rw [List.getElem?_set_self hl] at hy; cases hy
    · rw [List.getElem?_eq_none (by rw [List.length_set]; omega)] at hy; cases hy
  · rw [List.getElem?_set_ne (Ne.symm hj1)] at hy
    by_cases hj : j = i
    · subst hj
      rw [List.getElem?_set_self hi] at hy
      cases hy
      exact List.mem_cons_self
    · rw [List.getElem?_set_ne (Ne.symm hj)] at hy
      refine List.mem_cons_of_mem _ (List.mem_filter.mpr ⟨kx_lp_mem hy, ?_⟩)
      have hn : ¬ (j + 1 = i ∧ y.category = 2) := fun ⟨a, b⟩ => kx_nl_cat hc a hy b
      simp only [kx_cv_cat, Bool.and_eq_true, Bool.not_eq_true', beq_eq_false_iff_ne, ne_eq, hj, hj1, not_false_eq_true, true_and, Bool.and_eq_false_iff]
      rcases Nat.decEq (j + 1) i with h1 | h1
      · exact Or.inl h1
      · exact Or.inr (fun h2 => hn ⟨h1, h2⟩)
