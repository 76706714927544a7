/-! ## where things lie -/
def L_Cloth (r : Nat) : Prop := kx_lay[r]? = some (0, 4, [r + 4, r + 5, r + 6, r + 7, r + 8, 0, 0, 0, 0]) ∧ kx_lay[r + 1]? = some (1, 12, []) ∧ kx_lay[r + 2]? = some (1, 96, []) ∧ kx_lay[r + 3]? = some (1, 96, []) ∧ kx_lay[r + 4]? = some (1, 96, []) ∧ kx_lay[r + 5]? = some (1, 96, [])
theorem l_Cloth_36 : L_Cloth 36 := ⟨rfl, rfl, rfl, rfl, rfl, rfl⟩
theorem l_Cloth_56 : L_Cloth 56 := ⟨rfl, rfl, rfl, rfl, rfl, rfl⟩
theorem l_Cloth_84 : L_Cloth 84 := ⟨rfl, rfl, rfl, rfl, rfl, rfl⟩
theorem l_Cloth_104 : L_Cloth 104 := ⟨rfl, rfl, rfl, rfl, rfl, rfl⟩
theorem l_Cloth_124 : L_Cloth 124 := ⟨rfl, rfl, rfl, rfl, rfl, rfl⟩
def L_Deal (r : Nat) : Prop := kx_lay[r]? = some (0, 3, [r + 4, r + 5, r + 6, r + 7, r + 8, r + 9, r + 10, 0, 0]) ∧ kx_lay[r + 1]? = some (1, 4, []) ∧ kx_lay[r + 2]? = some (2, 4, []) ∧ kx_lay[r + 3]? = some (2, 6, []) ∧ kx_lay[r + 4]? = some (1, 6, []) ∧ kx_lay[r + 5]? = some (1, 30, []) ∧ kx_lay[r + 6]? = some (1, 36, []) ∧ kx_lay[r + 7]? = some (1, 48, [])
theorem l_Deal_28 : L_Deal 28 := ⟨rfl, rfl, rfl, rfl, rfl, rfl, rfl, rfl⟩
theorem l_Deal_48 : L_Deal 48 := ⟨rfl, rfl, rfl, rfl, rfl, rfl, rfl, rfl⟩
theorem l_Deal_76 : L_Deal 76 := ⟨rfl, rfl, rfl, rfl, rfl, rfl, rfl, rfl⟩
theorem l_Deal_96 : L_Deal 96 := ⟨rfl, rfl, rfl, rfl, rfl, rfl, rfl, rfl⟩
theorem l_Deal_116 : L_Deal 116 := ⟨rfl, rfl, rfl, rfl, rfl, rfl, rfl, rfl⟩
def L_Script (r : Nat) : Prop := kx_lay[r]? = some (0, 5, [r + 4, r + 5, r + 6, r + 7, 0, 0, 0]) ∧ kx_lay[r + 1]? = some (1, 60, []) ∧ kx_lay[r + 2]? = some (1, 60, []) ∧ kx_lay[r + 3]? = some (1, 60, []) ∧ kx_lay[r + 4]? = some (1, 60, [])
theorem l_Script_42 : L_Script 42 := ⟨rfl, rfl, rfl, rfl, rfl⟩
theorem l_Script_62 : L_Script 62 := ⟨rfl, rfl, rfl, rfl, rfl⟩
theorem l_Script_90 : L_Script 90 := ⟨rfl, rfl, rfl, rfl, rfl⟩
theorem l_Script_110 : L_Script 110 := ⟨rfl, rfl, rfl, rfl, rfl⟩
theorem l_Script_130 : L_Script 130 := ⟨rfl, rfl, rfl, rfl, rfl⟩
def L_State (r : Nat) : Prop := kx_lay[r]? = some (0, 2, [r + 4, r + 12, r + 18])
theorem l_State_27 : L_State 27 := rfl
theorem l_State_47 : L_State 47 := rfl
theorem l_State_75 : L_State 75 := rfl
theorem l_State_95 : L_State 95 := rfl
theorem l_State_115 : L_State 115 := rfl
def L_Tray (r : Nat) : Prop := kx_lay[r]? = some (0, 1, [r + 4, 0, 0, 0]) ∧ kx_lay[r + 1]? = some (2, 60, [])
theorem l_Tray_67 : L_Tray 67 := ⟨rfl, rfl⟩
theorem l_Tray_69 : L_Tray 69 := ⟨rfl, rfl⟩
theorem l_Tray_71 : L_Tray 71 := ⟨rfl, rfl⟩
theorem l_Tray_73 : L_Tray 73 := ⟨rfl, rfl⟩
def L_Life (r : Nat) : Prop := kx_lay[r]? = some (0, 9, [r + 4, 0, 0, 0, 0, 0, 0, 0]) ∧ kx_lay[r + 1]? = some (1, 60, [])
theorem l_Life_23 : L_Life 23 := ⟨rfl, rfl⟩
theorem l_Life_25 : L_Life 25 := ⟨rfl, rfl⟩
def b2i (b : Bool) : Int32 := if b then 1 else 0
theorem b2i_01 (b : Bool) : b2i b = 0 ∨ b2i b = 1 := by cases b; exact Or.inl rfl; exact Or.inr rfl
/-- how many below n -/
def cnt (p : Nat → Bool) : Nat → Nat
  | 0 => 0
  | n + 1 => cnt p n + (if p n then 1 else 0)
theorem cnt_le (p : Nat → Bool) (n : Nat) : cnt p n ≤ n := by
  induction n with
  | zero => exact Nat.le_refl _
  | succ n ih => unfold cnt; split <;> omega
theorem cnt_congr {p q : Nat → Bool} {n : Nat} (h : ∀ i, i < n → p i = q i) : cnt p n = cnt q n := by
  induction n with
  | zero => rfl
  | succ n ih => unfold cnt; rw [ih (fun i hi => h i (Nat.lt_succ_of_lt hi)), h n (Nat.lt_succ_self n)]
theorem cnt_pos {p : Nat → Bool} {n : Nat} : 0 < cnt p n ↔ ∃ i, i < n ∧ p i = true := by
  induction n with
  | zero => simp [cnt]
  | succ n ih =>
    unfold cnt
    constructor
    · intro h
      by_cases hp : p n = true
      · exact ⟨n, Nat.lt_succ_self n, hp⟩
      · simp [hp] at h
        obtain ⟨i, h1, h2⟩ := ih.mp h
        exact ⟨i, Nat.lt_succ_of_lt h1, h2⟩
    · rintro ⟨i, h1, h2⟩
      rcases Nat.lt_succ_iff_lt_or_eq.mp h1 with h3 | h3
      · have := ih.mpr ⟨i, h3, h2⟩; omega
      · subst h3; simp [h2]
/-- whether all below n -/
def allb (p : Nat → Bool) : Nat → Bool
  | 0 => true
  | n + 1 => allb p n && p n
theorem allb_iff {p : Nat → Bool} {n : Nat} : allb p n = true ↔ ∀ i, i < n → p i = true := by
  induction n with
  | zero => simp [allb]
  | succ n ih =>
    simp only [allb, Bool.and_eq_true, ih]
    constructor
    · rintro ⟨h1, h2⟩ i hi
      rcases Nat.lt_succ_iff_lt_or_eq.mp hi with h | h
      · exact h1 i h
      · subst h; exact h2
    · intro h
      exact ⟨fun i hi => h i (Nat.lt_succ_of_lt hi), h n (Nat.lt_succ_self n)⟩
theorem allb_false {p : Nat → Bool} {n i : Nat} (hi : i < n) (h : p i = false) : allb p n = false := by
  cases hq : allb p n with
  | false => rfl
  | true => rw [allb_iff.mp hq i hi] at h; cases h
/-- a clause stands in a row from a column on, none of it undone -/
def saidAt (W len : Nat) (u kn ck : Nat → Int32) (cl row col : Nat) : Bool := decide (col + len ≤ W) && allb (fun i => !decide (u (8 * row + (col + i)) = 1) && decide (kn (8 * row + (col + i)) = ck (5 * cl + i))) len
/-- sums from a start on, in the order of the places -/
def accN (g : Nat → Int32) (a : Int32) : Nat → Int32
  | 0 => a
  | n + 1 => accN g a n + g n
def accRC (f : Nat → Int32) (W : Nat) : Nat → Int32
  | 0 => 0
  | r + 1 => accN (fun x => f (8 * r + x)) (accRC f W r) W
/-- a weakening of what is known of the locals -/
def kx_wk : List (Option Value) → List (Option Value) → Prop
  | [], [] => True
  | none :: L, _ :: L' => kx_wk L L'
  | some v :: L, x :: L' => x = some v ∧ kx_wk L L'
  | [], _ :: _ => False
  | none :: _, [] => False
  | some _ :: _, [] => False
theorem kx_wk_at : ∀ {L L' : List (Option Value)}, kx_wk L L' → ∀ (i : Nat) (v : Value), L[i]? = some (some v) → L'[i]? = some (some v)
  | [], [], _, i, v, h => by simp at h
  | none :: L, x :: L', hw, i, v, h => by
    match i, h with
    | 0, h => simp at h
    | i + 1, h => simpa using kx_wk_at (L := L) (L' := L') hw i v (by simpa using h)
  | some u :: L, x :: L', hw, i, v, h => by
    match i, h with
    | 0, h => simp at h; subst h; simpa using hw.1
    | i + 1, h => simpa using kx_wk_at (L := L) (L' := L') hw.2 i v (by simpa using h)
  | [], _ :: _, hw, _, _, _ => False.elim hw
  | none :: _, [], hw, _, _, _ => False.elim hw
  | some _ :: _, [], hw, _, _, _ => False.elim hw
theorem x_wk {w : kx_W} {d : Nat} {own : String} {b : ByteArray} {nL : Nat} {cl : List (Nat × Instr × Nat)} {G : Nat → List (Option Value) → List Value → kx_M → Prop} (F : kx_Sb w d own b nL cl G) {pc : Nat} {L L' : List (Option Value)} {S : List Value} {M : kx_M} (k : G pc L S M) (h : kx_wk L L') : G pc L' S M := by
  obtain ⟨p, e, R, s, mi, args, below, meth, c, cells, slots, Qf, rfl, X⟩ := F
  intro H locs ls hP hS hl
  refine k H locs ls hP hS ⟨hl.1, hl.2.1, fun q hq => hl.2.2 q ?_⟩
  obtain ⟨v, hv, he⟩ := kx_lp_of hq
  obtain ⟨i, z⟩ := q
  simp only at hv he
  subst he
  exact kx_lp_mem (kx_wk_at h i v hv)
theorem x_ifb_eq {w : kx_W} {d : Nat} {own : String} {b : ByteArray} {nL : Nat} {cl : List (Nat × Instr × Nat)} {G : Nat → List (Option Value) → List Value → kx_M → Prop} (F : kx_Sb w d own b nL cl G) {i pc : Nat} {L : List (Option Value)} {S : List Value} {M : kx_M} {x : Bool} {off : Int} {tgt : Nat} (hi : cl[i]? = some (pc, .ifCond .eq off, 3)) (ht : (pc : Int) + off = (tgt : Int)) (kt : x = false → G tgt L S M) (kf : x = true → G (pc + 3) L S M) : G pc L (.int (b2i x) :: S) M := by
  refine x_if_eq F hi ht (fun h => kt ?_) (fun h => kf ?_)
  · cases x <;> simp_all [b2i]
  · cases x <;> simp_all [b2i]
theorem x_ifb_ne {w : kx_W} {d : Nat} {own : String} {b : ByteArray} {nL : Nat} {cl : List (Nat × Instr × Nat)} {G : Nat → List (Option Value) → List Value → kx_M → Prop} (F : kx_Sb w d own b nL cl G) {i pc : Nat} {L : List (Option Value)} {S : List Value} {M : kx_M} {x : Bool} {off : Int} {tgt : Nat} (hi : cl[i]? = some (pc, .ifCond .ne off, 3)) (ht : (pc : Int) + off = (tgt : Int)) (kt : x = true → G tgt L S M) (kf : x = false → G (pc + 3) L S M) : G pc L (.int (b2i x) :: S) M := by
  refine x_if_ne F hi ht (fun h => kt ?_) (fun h => kf ?_)
  · cases x <;> simp_all [b2i]
  · cases x <;> simp_all [b2i]
