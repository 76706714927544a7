/-! ## what the start gives -/
theorem kx_cl_inst : ∀ (ci : Nat) (q : vw_C), kx_cl[ci]? = some q → Cond.instantiable q.1 q.2.2 ∈ kx_tb := by
  intro ci q h
  match ci, h with
  | 0, h => cases h; exact bs_KT
  | 1, h => cases h; exact bs_Tray
  | 2, h => cases h; exact bs_State
  | 3, h => cases h; exact bs_Deal
  | 4, h => cases h; exact bs_Cloth
  | 5, h => cases h; exact bs_Script
  | 6, h => cases h; exact bs_Reader
  | 7, h => cases h; exact bs_TreatyText
  | 8, h => cases h; exact bs_CenturyText
  | 9, h => cases h; exact bs_Life
  | 10, h => cases h; exact bs_Seen
  | 11, h => cases h; exact bs_Joiner
  | k + 12, h => simp [kx_cl] at h
def lw_F : List Cond := flatC (Jvm.Cond.and given_1 narrow_1)
section
variable {args : Array Value} {s : State} {A : Nat → Prop}
theorem st_tb (hts : ∀ x ∈ lw_tbl, x.before args s = true) : ∀ x ∈ kx_tb, x.before args s = true := fun x hx => hts x (List.mem_filter.mp hx).1
theorem st_known (hts : ∀ x ∈ lw_tbl, x.before args s = true) : ∃ (dC : Nat → ClassId) (dI : Nat → Nat → Nat), ∀ (k : Nat) (q : vw_C), kx_cl[k]? = some q → u_Kn s q.1 q.2.1 q.2.2 (dC k) (dI k) := by
  have h : ∀ k : Nat, ∃ x : ClassId × (Nat → Nat), ∀ q : vw_C, kx_cl[k]? = some q → u_Kn s q.1 q.2.1 q.2.2 x.1 x.2 := by
    intro k
    cases hk : kx_cl[k]? with
    | none => exact ⟨(0, fun _ => 0), fun q h => by cases h⟩
    | some q =>
      obtain ⟨c, i, h⟩ := u_known (C := q.1) (T := q.2.1) (N := q.2.2) (n := q.2.2) hts (fun x hx => ((kx_cl_ok k q hk).1 x hx).1) (st_tb hts _ (kx_cl_inst k q hk))
      exact ⟨(c, i), fun q' h' => by cases h'; exact h⟩
  obtain ⟨f, hf⟩ := Classical.axiomOfChoice h
  exact ⟨fun k => (f k).1, fun k => (f k).2, fun k q hq => hf k q hq⟩
theorem st_arr (hts : ∀ x ∈ lw_tbl, x.before args s = true) : ∃ c : Nat → ClassId, ∀ (k : Nat) (q : ClassId × FieldType), ([(c 0, .int), (c 1, .long), (c 2, .byte), (c 3, .object "KnitTreaty$Tray"), (c 4, .object "KnitTreaty$State")] : List (ClassId × FieldType))[k]? = some q → ArrOfT s q.1 q.2 ∧ va_RA s q.1 q.2 := by
  obtain ⟨c0, k0, p0, a0, b0, d0⟩ := Cond.arrayClass_spec (hts (Cond.arrayClass .int) (List.mem_of_getElem? (i := 194) (by decide +kernel)))
  obtain ⟨c1, k1, p1, a1, b1, d1⟩ := Cond.arrayClass_spec (hts (Cond.arrayClass .long) (List.mem_of_getElem? (i := 195) (by decide +kernel)))
  obtain ⟨c2, k2, p2, a2, b2, d2⟩ := Cond.arrayClass_spec (hts (Cond.arrayClass .byte) (List.mem_of_getElem? (i := 196) (by decide +kernel)))
  obtain ⟨p3, c3, k3, e3, f3, b3, d3, a3⟩ := Cond.arrayOver_spec (hts (Cond.arrayOver (.object "KnitTreaty$Tray")) (List.mem_of_getElem? (i := 82) (by decide +kernel)))
  obtain ⟨p4, c4, k4, e4, f4, b4, d4, a4⟩ := Cond.arrayOver_spec (hts (Cond.arrayOver (.object "KnitTreaty$State")) (List.mem_of_getElem? (i := 84) (by decide +kernel)))
  refine ⟨fun k => [c0, c1, c2, c3, c4].getD k 0, ?_⟩
  intro k q hq
  match k, hq with
  | 0, hq => cases hq; exact ⟨fun n z => ⟨(fun k h => by cases h), k0, b0, p0, d0⟩, a0⟩
  | 1, hq => cases hq; exact ⟨fun n z => ⟨(fun k h => by cases h), k1, b1, p1, d1⟩, a1⟩
  | 2, hq => cases hq; exact ⟨fun n z => ⟨(fun k h => by cases h), k2, b2, p2, d2⟩, a2⟩
  | 3, hq => cases hq; exact ⟨fun n z => ⟨(fun k h => by cases h), k3, b3, p3, d3⟩, k3, p3, b3, d3, e3, a3⟩
  | 4, hq => cases hq; exact ⟨fun n z => ⟨(fun k h => by cases h), k4, b4, p4, d4⟩, k4, p4, b4, d4, e4, a4⟩
  | k + 5, hq => simp at hq
theorem st_wool (hts : ∀ x ∈ lw_tbl, x.before args s = true) (hs : ∀ x ∈ lw_F, x.before args s = true) (hA : ∀ a : Nat, a < s.heap.size → ¬ A a) : ∃ t : Nat, va_Z "KnitTreaty" "WOOL_OF" "[I" (.ref t) A s s.heap ∧ va_T .int t 4 kx_wool A s s.heap := by
  obtain ⟨t, ht, hT⟩ := va_Tof (tm := .static "KnitTreaty" "WOOL_OF" "[I") (ty := .int) (N := 4) (f := kx_wool) (A := A) (by decide) (hs _ (by decide +kernel)) (va_eqt (z := Int32.ofNat 4) (hs _ (by decide +kernel))) (fun j hj => by
    have e : j = 0 ∨ j = 1 ∨ j = 2 ∨ j = 3 := by omega
    rcases e with rfl | rfl | rfl | rfl
    · exact va_eqt (z := 1) (hs _ (by decide +kernel))
    · exact va_eqt (z := 1) (hs _ (by decide +kernel))
    · exact va_eqt (z := 2) (hs _ (by decide +kernel))
    · exact va_eqt (z := 0) (hs _ (by decide +kernel))) hA
  exact ⟨t, va_Zof (hts _ (List.mem_of_getElem? (i := 758) (by decide +kernel))) (hts (Cond.initialized "KnitTreaty") (List.mem_of_getElem? (i := 53) (by decide +kernel))) ht hA, hT⟩
theorem st_comp (hts : ∀ x ∈ lw_tbl, x.before args s = true) (hs : ∀ x ∈ lw_F, x.before args s = true) (hA : ∀ a : Nat, a < s.heap.size → ¬ A a) : va_Z "java/lang/String" "COMPACT_STRINGS" "Z" (.int 1) A s s.heap :=
  va_Zof (hts _ (List.mem_of_getElem? (i := 107) (by decide +kernel))) (hts (Cond.initialized "java/lang/String") (List.mem_of_getElem? (i := 56) (by decide +kernel))) (va_eqt (hs _ (by decide +kernel))) hA
theorem st_sio (hts : ∀ x ∈ lw_tbl, x.before args s = true) (hs : ∀ x ∈ lw_F, x.before args s = true) (hA : ∀ a : Nat, a < s.heap.size → ¬ A a) : ∃ v : Value, (v = .null ∨ ∃ a : Nat, v = .ref a) ∧ va_Z "jdk/internal/util/Preconditions" "SIOOBE_FORMATTER" "Ljava/util/function/BiFunction;" v A s s.heap := by
  obtain ⟨v, hv, hr⟩ := Cond.isRef_spec (hs (Cond.isRef (.static "jdk/internal/util/Preconditions" "SIOOBE_FORMATTER" "Ljava/util/function/BiFunction;")) (by decide +kernel))
  refine ⟨v, ?_, va_Zof (hts _ (List.mem_of_getElem? (i := 123) (by decide +kernel))) (hts (Cond.initialized "jdk/internal/util/Preconditions") (List.mem_of_getElem? (i := 58) (by decide +kernel))) hv hA⟩
  cases v with
  | null => exact Or.inl rfl
  | ref a => exact Or.inr ⟨a, rfl⟩
  | _ => exact absurd hr (by simp [Value.isRef])
/-! the strings: the law's fifteen, then the reader's -/
def st_tm : List Term := [.string "KnitTreaty$Reader" 51, .string "KnitTreatyLaw" 55, .string "KnitTreatyLaw" 60, .string "KnitTreatyLaw" 62, .string "KnitTreatyLaw" 64, .string "KnitTreatyLaw" 70, .string "KnitTreatyLaw" 72, .string "KnitTreatyLaw" 74, .string "KnitTreatyLaw" 43, .string "KnitTreatyLaw" 45, .string "KnitTreatyLaw" 47, .string "KnitTreatyLaw" 49, .string "KnitTreatyLaw" 79, .string "KnitTreatyLaw" 81, .string "KnitTreatyLaw" 83, .string "KnitTreatyLaw" 85]
def st_t (i : Nat) : Term := st_tm.getD i (.int 0)
def st_len : List Nat := 136 :: lw_sN
def st_byt : List (List Int32) := bytW :: lw_sL
def st_blk (i : Nat) : List Cond := [Cond.exactly (st_t i) "java/lang/String", Cond.eq (.field (st_t i) "java/lang/String" "coder" "B") (.int 0), Cond.arrayOf (.field (st_t i) "java/lang/String" "value" "[B") .byte, Cond.eq (.length (.field (st_t i) "java/lang/String" "value" "[B")) (.int (Int32.ofNat (st_len.getD i 0)))] ++ ((List.range (st_len.getD i 0)).map (fun j => Cond.eq (.elem (.field (st_t i) "java/lang/String" "value" "[B") (.int (Int32.ofNat j))) (.int ((st_byt.getD i []).getD j 0))) ++ (List.range i).map (fun k => Cond.not (Cond.eq (st_t k) (st_t i))))
def st_all : List Cond := (List.range 16).flatMap st_blk
theorem st_allF : (lw_F.drop 40).take st_all.length = st_all := by decide +kernel
theorem st_in {i : Nat} {x : Cond} (hi : i < 16) (h : x ∈ st_blk i) : x ∈ lw_F := by
  have h1 : x ∈ st_all := List.mem_flatMap.mpr ⟨i, List.mem_range.mpr hi, h⟩
  rw [← st_allF] at h1
  exact List.mem_of_mem_drop (List.mem_of_mem_take h1)
theorem st_ln : ∀ i, i < 16 → st_len.getD i 0 < 2 ^ 31 := by decide +kernel
theorem st_ex : ∀ i, i < 16 → Cond.exactly (st_t i) "java/lang/String" ∈ lw_F := fun i hi => st_in hi (List.mem_append_left _ List.mem_cons_self)
theorem st_co : ∀ i, i < 16 → Cond.eq (.field (st_t i) "java/lang/String" "coder" "B") (.int 0) ∈ lw_F := fun i hi => st_in hi (List.mem_append_left _ (List.mem_cons_of_mem _ List.mem_cons_self))
theorem st_ar : ∀ i, i < 16 → Cond.arrayOf (.field (st_t i) "java/lang/String" "value" "[B") .byte ∈ lw_F := fun i hi => st_in hi (List.mem_append_left _ (List.mem_cons_of_mem _ (List.mem_cons_of_mem _ List.mem_cons_self)))
theorem st_le : ∀ i, i < 16 → Cond.eq (.length (.field (st_t i) "java/lang/String" "value" "[B")) (.int (Int32.ofNat (st_len.getD i 0))) ∈ lw_F := fun i hi => st_in hi (List.mem_append_left _ (List.mem_cons_of_mem _ (List.mem_cons_of_mem _ (List.mem_cons_of_mem _ List.mem_cons_self))))
theorem st_el : ∀ i, i < 16 → ∀ j, j < st_len.getD i 0 → Cond.eq (.elem (.field (st_t i) "java/lang/String" "value" "[B") (.int (Int32.ofNat j))) (.int ((st_byt.getD i []).getD j 0)) ∈ lw_F := fun i hi j hj => st_in hi (List.mem_append_right _ (List.mem_append_left _ (List.mem_map.mpr ⟨j, List.mem_range.mpr hj, rfl⟩)))
theorem st_lt {i j : Nat} (hj : j < 16) (h : i < j) : Cond.not (Cond.eq (st_t i) (st_t j)) ∈ lw_F := st_in hj (List.mem_append_right _ (List.mem_append_right _ (List.mem_map.mpr ⟨i, List.mem_range.mpr h, rfl⟩)))
theorem st_ne : ∀ i, i < 16 → ∀ j, j < 16 → i ≠ j → (Cond.not (Cond.eq (st_t i) (st_t j)) ∈ lw_F ∨ Cond.not (Cond.eq (st_t j) (st_t i)) ∈ lw_F) := by
  intro i hi j hj hne
  rcases Nat.lt_or_ge i j with h | h
  · exact Or.inl (st_lt hj h)
  · exact Or.inr (st_lt hi (by omega))
theorem st_te : ∀ i, i < 15 → st_t (i + 1) = .string "KnitTreatyLaw" (lw_sK.getD i 0) := by decide +kernel
theorem st_str (hs : ∀ x ∈ lw_F, x.before args s = true) (hA : ∀ a : Nat, a < s.heap.size → ¬ A a) : ∃ K V : Nat → Nat, vk_S 16 st_len st_byt K V A s s.heap ∧ ∀ i, i < 16 → (st_t i).eval args s none [] s = some (.ref (K i)) :=
  vk_Sof (args := args) (s := s) (N := 16) (tm := st_t) (len := st_len) (byt := st_byt) (A := A) st_ln (fun i hi => hs _ (st_ex i hi)) (fun i hi => hs _ (st_co i hi)) (fun i hi => hs _ (st_ar i hi)) (fun i hi => hs _ (st_le i hi)) (fun i hi j hj => hs _ (st_el i hi j hj)) (fun i j hi hj hne => (st_ne i hi j hj hne).imp (hs _) (hs _)) hA
theorem st_e1 (i : Nat) : st_len.getD (i + 1) 0 = lw_sN.getD i 0 := by
  unfold st_len
  exact List.getD_cons_succ
theorem st_e2 (i : Nat) : st_byt.getD (i + 1) [] = lw_sL.getD i [] := by
  unfold st_byt
  exact List.getD_cons_succ
theorem st_e3 : st_len.getD 0 0 = 136 := by
  unfold st_len
  exact List.getD_cons_zero
theorem st_e4 : st_byt.getD 0 [] = bytW := by
  unfold st_byt
  exact List.getD_cons_zero
theorem st_15 {K V K' V' : Nat → Nat} {U : State} {H : Heap} (h : vk_S 16 st_len st_byt K V A U H) (e : ∀ i, i < 15 → K' i = K (i + 1) ∧ V' i = V (i + 1)) : vk_S 15 lw_sN lw_sL K' V' A U H := by
  refine ⟨fun i hi => ?_, fun i j hi hj he => ?_⟩
  · have h1 := h.1 (i + 1) (by omega)
    rw [st_e1, st_e2] at h1
    rw [(e i hi).1, (e i hi).2]
    exact h1
  · rw [(e i hi).1, (e j hj).1] at he
    have := h.2 (i + 1) (j + 1) (by omega) (by omega) he
    omega
theorem st_1 {K V : Nat → Nat} {U : State} {H : Heap} (h : vk_S 16 st_len st_byt K V A U H) : vk_S 1 [bytW.length] [bytW] (fun _ => K 0) (fun _ => V 0) A U H := by
  refine ⟨fun i hi => ?_, fun i j hi hj _ => by omega⟩
  have e : i = 0 := by omega
  subst e
  have h1 := h.1 0 (by decide)
  rw [st_e3, st_e4] at h1
  rw [bytW_n, bytW_g]
  exact h1
theorem st_nb : ∀ x ∈ bx_nest, x ∈ lw_tbl := by decide +kernel
theorem st_nk : ∀ x ∈ kx_nest, x ∈ lw_tbl ∧ x.onTables = true := by decide +kernel
theorem st_R (hts : ∀ x ∈ lw_tbl, x.before args s = true) {a : Nat} (h : (st_t 0).eval args s none [] s = some (.ref a)) : vk_R "KnitTreaty$Reader" 51 txW a s := vk_R.of (hts (Cond.stringRef "KnitTreaty$Reader" 51 txW) (List.mem_of_getElem? (i := 97) (by decide +kernel))) h
theorem st_RL (hts : ∀ x ∈ lw_tbl, x.before args s = true) : ∀ i, i < 15 → (Cond.stringRef "KnitTreatyLaw" (lw_sK.getD i 0) (lw_sT.getD i "")).before args s = true := by
  intro i hi
  match i, hi with
  | 0, _ => exact hts _ (List.mem_of_getElem? (i := 1049) (by decide +kernel))
  | 1, _ => exact hts _ (List.mem_of_getElem? (i := 1075) (by decide +kernel))
  | 2, _ => exact hts _ (List.mem_of_getElem? (i := 1076) (by decide +kernel))
  | 3, _ => exact hts _ (List.mem_of_getElem? (i := 1077) (by decide +kernel))
  | 4, _ => exact hts _ (List.mem_of_getElem? (i := 1081) (by decide +kernel))
  | 5, _ => exact hts _ (List.mem_of_getElem? (i := 1082) (by decide +kernel))
  | 6, _ => exact hts _ (List.mem_of_getElem? (i := 1083) (by decide +kernel))
  | 7, _ => exact hts _ (List.mem_of_getElem? (i := 1087) (by decide +kernel))
  | 8, _ => exact hts _ (List.mem_of_getElem? (i := 1088) (by decide +kernel))
  | 9, _ => exact hts _ (List.mem_of_getElem? (i := 1089) (by decide +kernel))
  | 10, _ => exact hts _ (List.mem_of_getElem? (i := 1090) (by decide +kernel))
  | 11, _ => exact hts _ (List.mem_of_getElem? (i := 1091) (by decide +kernel))
  | 12, _ => exact hts _ (List.mem_of_getElem? (i := 1092) (by decide +kernel))
  | 13, _ => exact hts _ (List.mem_of_getElem? (i := 1093) (by decide +kernel))
  | 14, _ => exact hts _ (List.mem_of_getElem? (i := 1094) (by decide +kernel))
  | k + 15, h => omega
theorem st_AO (hts : ∀ x ∈ lw_tbl, x.before args s = true) : va_AO "KnitTreaty$Tray" s ∧ va_AO "KnitTreaty$State" s := ⟨va_AO.of (hts _ (List.mem_of_getElem? (i := 82) (by decide +kernel))), va_AO.of (hts _ (List.mem_of_getElem? (i := 84) (by decide +kernel)))⟩
end
