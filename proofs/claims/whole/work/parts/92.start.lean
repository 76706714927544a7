/-! ## what the start gives -/
theorem kx_cl_inst : ∀ (ci : Nat) (q : vw_C), kx_cl[ci]? = some q → Cond.instantiable q.1 q.2.2 ∈ kx_tb := by
  intro ci q h
  match ci, h with
  | 0, h => cases h; exact bs_KT
  | 1, h => cases h; exact bs_RM
  | 2, h => cases h; exact bs_Tray
  | 3, h => cases h; exact bs_State
  | 4, h => cases h; exact bs_Deal
  | 5, h => cases h; exact bs_Cloth
  | 6, h => cases h; exact bs_Script
  | 7, h => cases h; exact bs_Reader
  | 8, h => cases h; exact bs_TreatyText
  | 9, h => cases h; exact bs_CenturyText
  | 10, h => cases h; exact bs_Life
  | 11, h => cases h; exact bs_Seen
  | 12, h => cases h; exact bs_Joiner
  | k + 13, h => simp [kx_cl] at h
def lw_F : List Cond := flatC (Jvm.Cond.and given_1 narrow_1)
section
variable {args : Array Value} {s : State} {A : Nat → Prop}
theorem st_tb (hts : ∀ x ∈ lw_tbl, x.before args s = true) : ∀ x ∈ kx_tb, x.before args s = true := fun x hx => hts x (List.mem_filter.mp hx).1
theorem st_known (hts : ∀ x ∈ lw_tbl, x.before args s = true) : ∃ (dC : Nat → ClassId) (dI : Nat → Nat → Nat), ∀ (k : Nat) (q : vw_C), kx_cl[k]? = some q → u_Kn s q.1 q.2.1 q.2.2 (dC k) (dI k) := by
  have h : ∀ k : Nat, ∃ x : ClassId × (Nat → Nat), ∀ q : vw_C, kx_cl[k]? = some q → u_Kn s q.1 q.2.1 q.2.2 x.1 x.2 := by
    intro k
    cases hk : kx_cl[k]? with
    | none => exact ⟨(0, fun _ => 0), fun q h => by cases h⟩
    | some q =>
      obtain ⟨c, i, h⟩ := u_known (C := q.1) (T := q.2.1) (N := q.2.2) (n := q.2.2) hts (fun x hx => ((kx_cl_ok k q hk).1 x hx).1) (st_tb hts _ (kx_cl_inst k q hk))
      exact ⟨(c, i), fun q' h' => by cases h'; exact h⟩
  obtain ⟨f, hf⟩ := Classical.axiomOfChoice h
  exact ⟨fun k => (f k).1, fun k => (f k).2, fun k q hq => hf k q hq⟩
theorem st_arr (hts : ∀ x ∈ lw_tbl, x.before args s = true) : ∃ c : Nat → ClassId, ∀ (k : Nat) (q : ClassId × FieldType), ([(c 0, .int), (c 1, .long), (c 2, .byte), (c 3, .object "KnitTreaty$Tray"), (c 4, .object "KnitTreaty$State")] : List (ClassId × FieldType))[k]? = some q → ArrOfT s q.1 q.2 ∧ va_RA s q.1 q.2 := by
  obtain ⟨c0, k0, p0, a0, b0, d0⟩ := Cond.arrayClass_spec (hts (Cond.arrayClass .int) (List.mem_of_getElem? (i := 312) (by decide +kernel)))
  obtain ⟨c1, k1, p1, a1, b1, d1⟩ := Cond.arrayClass_spec (hts (Cond.arrayClass .long) (List.mem_of_getElem? (i := 313) (by decide +kernel)))
  obtain ⟨c2, k2, p2, a2, b2, d2⟩ := Cond.arrayClass_spec (hts (Cond.arrayClass .byte) (List.mem_of_getElem? (i := 314) (by decide +kernel)))
  obtain ⟨p3, c3, k3, e3, f3, b3, d3, a3⟩ := Cond.arrayOver_spec (hts (Cond.arrayOver (.object "KnitTreaty$Tray")) (List.mem_of_getElem? (i := 200) (by decide +kernel)))
  obtain ⟨p4, c4, k4, e4, f4, b4, d4, a4⟩ := Cond.arrayOver_spec (hts (Cond.arrayOver (.object "KnitTreaty$State")) (List.mem_of_getElem? (i := 202) (by decide +kernel)))
  refine ⟨fun k => [c0, c1, c2, c3, c4].getD k 0, ?_⟩
  intro k q hq
  match k, hq with
  | 0, hq => cases hq; exact ⟨fun n z => ⟨(fun k h => by cases h), k0, b0, p0, d0⟩, a0⟩
  | 1, hq => cases hq; exact ⟨fun n z => ⟨(fun k h => by cases h), k1, b1, p1, d1⟩, a1⟩
  | 2, hq => cases hq; exact ⟨fun n z => ⟨(fun k h => by cases h), k2, b2, p2, d2⟩, a2⟩
  | 3, hq => cases hq; exact ⟨fun n z => ⟨(fun k h => by cases h), k3, b3, p3, d3⟩, k3, p3, b3, d3, e3, a3⟩
  | 4, hq => cases hq; exact ⟨fun n z => ⟨(fun k h => by cases h), k4, b4, p4, d4⟩, k4, p4, b4, d4, e4, a4⟩
  | k + 5, hq => simp at hq
theorem st_wool (hts : ∀ x ∈ lw_tbl, x.before args s = true) (hs : ∀ x ∈ lw_F, x.before args s = true) (hA : ∀ a : Nat, a < s.heap.size → ¬ A a) : ∃ t : Nat, va_Z "KnitTreaty" "WOOL_OF" "[I" (.ref t) A s s.heap ∧ va_T .int t 4 kx_wool A s s.heap := by
  obtain ⟨t, ht, hT⟩ := va_Tof (tm := .static "KnitTreaty" "WOOL_OF" "[I") (ty := .int) (N := 4) (f := kx_wool) (A := A) (by decide) (hs _ (by decide +kernel)) (va_eqt (z := Int32.ofNat 4) (hs _ (by decide +kernel))) (fun j hj => by
    have e : j = 0 ∨ j = 1 ∨ j = 2 ∨ j = 3 := by omega
    rcases e with rfl | rfl | rfl | rfl
    · exact va_eqt (z := 1) (hs _ (by decide +kernel))
    · exact va_eqt (z := 1) (hs _ (by decide +kernel))
    · exact va_eqt (z := 2) (hs _ (by decide +kernel))
    · exact va_eqt (z := 0) (hs _ (by decide +kernel))) hA
  exact ⟨t, va_Zof (hts _ (List.mem_of_getElem? (i := 1142) (by decide +kernel))) (hts (Cond.initialized "KnitTreaty") (List.mem_of_getElem? (i := 170) (by decide +kernel))) ht hA, hT⟩
theorem st_comp (hts : ∀ x ∈ lw_tbl, x.before args s = true) (hs : ∀ x ∈ lw_F, x.before args s = true) (hA : ∀ a : Nat, a < s.heap.size → ¬ A a) : va_Z "java/lang/String" "COMPACT_STRINGS" "Z" (.int 1) A s s.heap :=
  va_Zof (hts _ (List.mem_of_getElem? (i := 225) (by decide +kernel))) (hts (Cond.initialized "java/lang/String") (List.mem_of_getElem? (i := 173) (by decide +kernel))) (va_eqt (hs _ (by decide +kernel))) hA
theorem st_sio (hts : ∀ x ∈ lw_tbl, x.before args s = true) (hs : ∀ x ∈ lw_F, x.before args s = true) (hA : ∀ a : Nat, a < s.heap.size → ¬ A a) : ∃ v : Value, (v = .null ∨ ∃ a : Nat, v = .ref a) ∧ va_Z "jdk/internal/util/Preconditions" "SIOOBE_FORMATTER" "Ljava/util/function/BiFunction;" v A s s.heap := by
  obtain ⟨v, hv, hr⟩ := Cond.isRef_spec (hs (Cond.isRef (.static "jdk/internal/util/Preconditions" "SIOOBE_FORMATTER" "Ljava/util/function/BiFunction;")) (by decide +kernel))
  refine ⟨v, ?_, va_Zof (hts _ (List.mem_of_getElem? (i := 241) (by decide +kernel))) (hts (Cond.initialized "jdk/internal/util/Preconditions") (List.mem_of_getElem? (i := 175) (by decide +kernel))) hv hA⟩
  cases v with
  | null => exact Or.inl rfl
  | ref a => exact Or.inr ⟨a, rfl⟩
  | _ => exact absurd hr (by simp [Value.isRef])
def st_t : Term := .string "KnitTreaty$Reader" 51
theorem st_byt : ∀ j, j < 136 → Cond.eq (.elem (.field st_t "java/lang/String" "value" "[B") (.int (Int32.ofNat j))) (.int (bytW.getD j 0)) ∈ lw_F := by decide +kernel
theorem st_str (hs : ∀ x ∈ lw_F, x.before args s = true) (hA : ∀ a : Nat, a < s.heap.size → ¬ A a) : ∃ a v : Nat, vk_S 1 [bytW.length] [bytW] (fun _ => a) (fun _ => v) A s s.heap ∧ st_t.eval args s none [] s = some (.ref a) := by
  obtain ⟨adK, adV, hS, hev⟩ := vk_Sof (args := args) (s := s) (N := 1) (tm := fun _ => st_t) (len := [bytW.length]) (byt := [bytW]) (A := A)
    (fun i hi => by
      have e : i = 0 := by omega
      subst e
      rw [bytW_n]
      decide)
    (fun i hi => hs (Cond.exactly st_t "java/lang/String") (by decide +kernel))
    (fun i hi => hs (Cond.eq (.field st_t "java/lang/String" "coder" "B") (.int 0)) (by decide +kernel))
    (fun i hi => hs (Cond.arrayOf (.field st_t "java/lang/String" "value" "[B") .byte) (by decide +kernel))
    (fun i hi => by
      have e : i = 0 := by omega
      subst e
      rw [bytW_n]
      exact hs (Cond.eq (.length (.field st_t "java/lang/String" "value" "[B")) (.int (Int32.ofNat 136))) (by decide +kernel))
    (fun i hi j hj => by
      have e : i = 0 := by omega
      subst e
      rw [bytW_n] at hj
      rw [bytW_g]
      exact hs _ (st_byt j hj))
    (fun i j hi hj hne => absurd (show i = j by omega) hne) hA
  exact ⟨adK 0, adV 0, ⟨fun i hi => by
    have e : i = 0 := by omega
    subst e
    exact hS.1 0 hi, fun i j hi hj _ => by omega⟩, hev 0 (by decide)⟩
theorem st_nb : ∀ x ∈ bx_nest, x ∈ lw_tbl := by decide +kernel
theorem st_nk : ∀ x ∈ kx_nest, x ∈ lw_tbl ∧ x.onTables = true := by decide +kernel
theorem st_R (hts : ∀ x ∈ lw_tbl, x.before args s = true) {a : Nat} (h : st_t.eval args s none [] s = some (.ref a)) : vk_R "KnitTreaty$Reader" 51 txW a s := vk_R.of (hts (Cond.stringRef "KnitTreaty$Reader" 51 txW) (List.mem_of_getElem? (i := 215) (by decide +kernel))) h
theorem st_AO (hts : ∀ x ∈ lw_tbl, x.before args s = true) : va_AO "KnitTreaty$Tray" s ∧ va_AO "KnitTreaty$State" s := ⟨va_AO.of (hts _ (List.mem_of_getElem? (i := 200) (by decide +kernel))), va_AO.of (hts _ (List.mem_of_getElem? (i := 202) (by decide +kernel)))⟩
end
