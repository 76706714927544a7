/-! ## where things lie -/
def L_Cloth (r : Nat) : Prop := kx_lay[r]? = some (0, 5, [r + 4, r + 5, r + 6, r + 7, r + 8, 0, 0, 0, 0]) ∧ kx_lay[r + 1]? = some (1, 12, []) ∧ kx_lay[r + 2]? = some (1, 96, []) ∧ kx_lay[r + 3]? = some (1, 96, []) ∧ kx_lay[r + 4]? = some (1, 96, []) ∧ kx_lay[r + 5]? = some (1, 96, [])
theorem l_Cloth_36 : L_Cloth 36 := ⟨rfl, rfl, rfl, rfl, rfl, rfl⟩
theorem l_Cloth_56 : L_Cloth 56 := ⟨rfl, rfl, rfl, rfl, rfl, rfl⟩
theorem l_Cloth_84 : L_Cloth 84 := ⟨rfl, rfl, rfl, rfl, rfl, rfl⟩
theorem l_Cloth_104 : L_Cloth 104 := ⟨rfl, rfl, rfl, rfl, rfl, rfl⟩
theorem l_Cloth_124 : L_Cloth 124 := ⟨rfl, rfl, rfl, rfl, rfl, rfl⟩
def L_Deal (r : Nat) : Prop := kx_lay[r]? = some (0, 4, [r + 4, r + 5, r + 6, r + 7, r + 8, r + 9, r + 10, 0, 0]) ∧ kx_lay[r + 1]? = some (1, 4, []) ∧ kx_lay[r + 2]? = some (2, 4, []) ∧ kx_lay[r + 3]? = some (2, 6, []) ∧ kx_lay[r + 4]? = some (1, 6, []) ∧ kx_lay[r + 5]? = some (1, 30, []) ∧ kx_lay[r + 6]? = some (1, 36, []) ∧ kx_lay[r + 7]? = some (1, 48, [])
theorem l_Deal_28 : L_Deal 28 := ⟨rfl, rfl, rfl, rfl, rfl, rfl, rfl, rfl⟩
theorem l_Deal_48 : L_Deal 48 := ⟨rfl, rfl, rfl, rfl, rfl, rfl, rfl, rfl⟩
theorem l_Deal_76 : L_Deal 76 := ⟨rfl, rfl, rfl, rfl, rfl, rfl, rfl, rfl⟩
theorem l_Deal_96 : L_Deal 96 := ⟨rfl, rfl, rfl, rfl, rfl, rfl, rfl, rfl⟩
theorem l_Deal_116 : L_Deal 116 := ⟨rfl, rfl, rfl, rfl, rfl, rfl, rfl, rfl⟩
def L_Script (r : Nat) : Prop := kx_lay[r]? = some (0, 6, [r + 4, r + 5, r + 6, r + 7, 0, 0, 0]) ∧ kx_lay[r + 1]? = some (1, 60, []) ∧ kx_lay[r + 2]? = some (1, 60, []) ∧ kx_lay[r + 3]? = some (1, 60, []) ∧ kx_lay[r + 4]? = some (1, 60, [])
theorem l_Script_42 : L_Script 42 := ⟨rfl, rfl, rfl, rfl, rfl⟩
theorem l_Script_62 : L_Script 62 := ⟨rfl, rfl, rfl, rfl, rfl⟩
theorem l_Script_90 : L_Script 90 := ⟨rfl, rfl, rfl, rfl, rfl⟩
theorem l_Script_110 : L_Script 110 := ⟨rfl, rfl, rfl, rfl, rfl⟩
theorem l_Script_130 : L_Script 130 := ⟨rfl, rfl, rfl, rfl, rfl⟩
def L_State (r : Nat) : Prop := kx_lay[r]? = some (0, 3, [r + 4, r + 12, r + 18])
theorem l_State_27 : L_State 27 := rfl
theorem l_State_47 : L_State 47 := rfl
theorem l_State_75 : L_State 75 := rfl
theorem l_State_95 : L_State 95 := rfl
theorem l_State_115 : L_State 115 := rfl
def L_Tray (r : Nat) : Prop := kx_lay[r]? = some (0, 2, [r + 4, 0, 0, 0]) ∧ kx_lay[r + 1]? = some (2, 60, [])
theorem l_Tray_67 : L_Tray 67 := ⟨rfl, rfl⟩
theorem l_Tray_69 : L_Tray 69 := ⟨rfl, rfl⟩
theorem l_Tray_71 : L_Tray 71 := ⟨rfl, rfl⟩
theorem l_Tray_73 : L_Tray 73 := ⟨rfl, rfl⟩
def L_Life (r : Nat) : Prop := kx_lay[r]? = some (0, 10, [r + 4, 0, 0, 0, 0, 0, 0, 0]) ∧ kx_lay[r + 1]? = some (1, 60, [])
theorem l_Life_23 : L_Life 23 := ⟨rfl, rfl⟩
theorem l_Life_25 : L_Life 25 := ⟨rfl, rfl⟩
def b2i (b : Bool) : Int32 := if b then 1 else 0
theorem b2i_01 (b : Bool) : b2i b = 0 ∨ b2i b = 1 := by cases b; exact Or.inl rfl; exact Or.inr rfl
/-- how many below n -/
def cnt (p : Nat → Bool) : Nat → Nat
  | 0 => 0
  | n + 1 => cnt p n + (if p n then 1 else 0)
theorem cnt_le (p : Nat → Bool) (n : Nat) : cnt p n ≤ n := by
  induction n with
  | zero => exact Nat.le_refl _
  | succ n ih => unfold cnt; split <;> omega
theorem cnt_congr {p q : Nat → Bool} {n : Nat} (h : ∀ i, i < n → p i = q i) : cnt p n = cnt q n := by
  induction n with
  | zero => rfl
  | succ n ih => unfold cnt; rw [ih (fun i hi => h i (Nat.lt_succ_of_lt hi)), h n (Nat.lt_succ_self n)]
theorem cnt_pos {p : Nat → Bool} {n : Nat} : 0 < cnt p n ↔ ∃ i, i < n ∧ p i = true := by
  induction n with
  | zero => simp [cnt]
  | succ n ih =>
    unfold cnt
    constructor
    · intro h
      by_cases hp : p n = true
      · exact ⟨n, Nat.lt_succ_self n, hp⟩
      · simp [hp] at h
        obtain ⟨i, h1, h2⟩ := ih.mp h
        exact ⟨i, Nat.lt_succ_of_lt h1, h2⟩
    · rintro ⟨i, h1, h2⟩
      rcases Nat.lt_succ_iff_lt_or_eq.mp h1 with h3 | h3
      · have := ih.mpr ⟨i, h3, h2⟩; omega
      · subst h3; simp [h2]
/-- whether all below n -/
def allb (p : Nat → Bool) : Nat → Bool
  | 0 => true
  | n + 1 => allb p n && p n
theorem allb_iff {p : Nat → Bool} {n : Nat} : allb p n = true ↔ ∀ i, i < n → p i = true := by
  induction n with
  | zero => simp [allb]
  | succ n ih =>
    simp only [allb, Bool.and_eq_true, ih]
    constructor
    · rintro ⟨h1, h2⟩ i hi
      rcases Nat.lt_succ_iff_lt_or_eq.mp hi with h | h
      · exact h1 i h
      · subst h; exact h2
    · intro h
      exact ⟨fun i hi => h i (Nat.lt_succ_of_lt hi), h n (Nat.lt_succ_self n)⟩
theorem allb_false {p : Nat → Bool} {n i : Nat} (hi : i < n) (h : p i = false) : allb p n = false := by
  cases hq : allb p n with
  | false => rfl
  | true => rw [allb_iff.mp hq i hi] at h; cases h
/-- a clause stands in a row from a column on, none of it undone -/
def saidAt (W len : Nat) (u kn ck : Nat → Int32) (cl row col : Nat) : Bool := decide (col + len ≤ W) && allb (fun i => !decide (u (8 * row + (col + i)) = 1) && decide (kn (8 * row + (col + i)) = ck (5 * cl + i))) len
