/-! the classes whose objects the world holds, their fields in the order of the slots -/
def T_KT : u_T := fun k => match k with
  | 0 => ("KnitTreaty", "trays", "[LKnitTreaty$Tray;", true)
  | 1 => ("KnitTreaty", "tape", "[I", true)
  | 2 => ("KnitTreaty", "kept", "[LKnitTreaty$State;", true)
  | 3 => ("KnitTreaty", "treatyText", "LKnitTreaty$TreatyText;", true)
  | 4 => ("KnitTreaty", "centuryText", "LKnitTreaty$CenturyText;", true)
  | 5 => ("KnitTreaty", "seen", "LKnitTreaty$Seen;", true)
  | 6 => ("KnitTreaty", "joiner", "LKnitTreaty$Joiner;", true)
  | 7 => ("KnitTreaty", "life", "LKnitTreaty$Life;", true)
  | 8 => ("KnitTreaty", "trialLife", "LKnitTreaty$Life;", true)
  | 9 => ("KnitTreaty", "now", "LKnitTreaty$State;", false)
  | 10 => ("KnitTreaty", "trial", "LKnitTreaty$State;", false)
  | 11 => ("KnitTreaty", "taped", "I", false)
  | 12 => ("KnitTreaty", "marks", "I", false)
  | 13 => ("KnitTreaty", "latest", "I", false)
  | 14 => ("KnitTreaty", "faultKind", "I", false)
  | 15 => ("KnitTreaty", "faultPlace", "I", false)
  | 16 => ("KnitTreaty", "livedOnce", "Z", false)
  | 17 => ("KnitTreaty", "fractionTop", "J", false)
  | _ => ("KnitTreaty", "fractionBottom", "J", false)
def T_Tray : u_T := fun k => match k with
  | 0 => ("KnitTreaty$Tray", "numbers", "[J", true)
  | 1 => ("KnitTreaty$Tray", "missing", "Z", false)
  | 2 => ("KnitTreaty$Tray", "sort", "I", false)
  | _ => ("KnitTreaty$Tray", "many", "I", false)
def T_State : u_T := fun k => match k with
  | 0 => ("KnitTreaty$State", "deal", "LKnitTreaty$Deal;", true)
  | 1 => ("KnitTreaty$State", "cloth", "LKnitTreaty$Cloth;", true)
  | _ => ("KnitTreaty$State", "script", "LKnitTreaty$Script;", true)
def T_Deal : u_T := fun k => match k with
  | 0 => ("KnitTreaty$Deal", "wools", "[I", true)
  | 1 => ("KnitTreaty$Deal", "queenNames", "[J", true)
  | 2 => ("KnitTreaty$Deal", "clauseNames", "[J", true)
  | 3 => ("KnitTreaty$Deal", "lengths", "[I", true)
  | 4 => ("KnitTreaty$Deal", "kinds", "[I", true)
  | 5 => ("KnitTreaty$Deal", "quarrels", "[I", true)
  | 6 => ("KnitTreaty$Deal", "worths", "[I", true)
  | 7 => ("KnitTreaty$Deal", "queens", "I", false)
  | _ => ("KnitTreaty$Deal", "clauses", "I", false)
def T_Cloth : u_T := fun k => match k with
  | 0 => ("KnitTreaty$Cloth", "owner", "[I", true)
  | 1 => ("KnitTreaty$Cloth", "kinds", "[I", true)
  | 2 => ("KnitTreaty$Cloth", "worn", "[I", true)
  | 3 => ("KnitTreaty$Cloth", "undone", "[I", true)
  | 4 => ("KnitTreaty$Cloth", "darned", "[I", true)
  | 5 => ("KnitTreaty$Cloth", "wide", "I", false)
  | 6 => ("KnitTreaty$Cloth", "tough", "I", false)
  | 7 => ("KnitTreaty$Cloth", "rows", "I", false)
  | _ => ("KnitTreaty$Cloth", "date", "I", false)
def T_Script : u_T := fun k => match k with
  | 0 => ("KnitTreaty$Script", "ops", "[I", true)
  | 1 => ("KnitTreaty$Script", "firsts", "[I", true)
  | 2 => ("KnitTreaty$Script", "seconds", "[I", true)
  | 3 => ("KnitTreaty$Script", "mates", "[I", true)
  | 4 => ("KnitTreaty$Script", "there", "Z", false)
  | 5 => ("KnitTreaty$Script", "steps", "I", false)
  | _ => ("KnitTreaty$Script", "entries", "I", false)
def T_Reader : u_T := fun k => match k with
  | 0 => ("KnitTreaty$Reader", "known", "[J", true)
  | 1 => ("KnitTreaty$Reader", "text", "[I", false)
  | 2 => ("KnitTreaty$Reader", "size", "I", false)
  | 3 => ("KnitTreaty$Reader", "after", "I", false)
  | 4 => ("KnitTreaty$Reader", "place", "I", false)
  | 5 => ("KnitTreaty$Reader", "sort", "I", false)
  | 6 => ("KnitTreaty$Reader", "key", "I", false)
  | 7 => ("KnitTreaty$Reader", "word", "J", false)
  | 8 => ("KnitTreaty$Reader", "number", "I", false)
  | 9 => ("KnitTreaty$Reader", "sign", "I", false)
  | 10 => ("KnitTreaty$Reader", "faultKind", "I", false)
  | _ => ("KnitTreaty$Reader", "faultPlace", "I", false)
def T_TreatyText : u_T := fun k => match k with
  | 0 => ("KnitTreaty$TreatyText", "reader", "LKnitTreaty$Reader;", true)
  | 1 => ("KnitTreaty$TreatyText", "wideTold", "Z", false)
  | _ => ("KnitTreaty$TreatyText", "toughTold", "Z", false)
def T_CenturyText : u_T := fun k => match k with
  | 0 => ("KnitTreaty$CenturyText", "reader", "LKnitTreaty$Reader;", true)
  | 1 => ("KnitTreaty$CenturyText", "open", "[I", true)
  | _ => ("KnitTreaty$CenturyText", "depth", "I", false)
def T_Life : u_T := fun k => match k with
  | 0 => ("KnitTreaty$Life", "left", "[I", true)
  | 1 => ("KnitTreaty$Life", "seed", "I", false)
  | 2 => ("KnitTreaty$Life", "steps", "I", false)
  | 3 => ("KnitTreaty$Life", "missed", "I", false)
  | 4 => ("KnitTreaty$Life", "years", "I", false)
  | 5 => ("KnitTreaty$Life", "fresh", "I", false)
  | 6 => ("KnitTreaty$Life", "darns", "I", false)
  | _ => ("KnitTreaty$Life", "cut", "I", false)
def T_Seen : u_T := fun k => match k with
  | 0 => ("KnitTreaty$Seen", "run", "[I", true)
  | 1 => ("KnitTreaty$Seen", "wide", "I", false)
  | 2 => ("KnitTreaty$Seen", "step", "[I", true)
  | 3 => ("KnitTreaty$Seen", "length", "I", false)
  | 4 => ("KnitTreaty$Seen", "ways", "[I", false)
  | _ => ("KnitTreaty$Seen", "later", "[I", false)
def T_Joiner : u_T := fun k => match k with
  | 0 => ("KnitTreaty$Joiner", "sizes", "[I", true)
  | 1 => ("KnitTreaty$Joiner", "runs", "[J", true)
  | 2 => ("KnitTreaty$Joiner", "lengths", "[I", true)
  | 3 => ("KnitTreaty$Joiner", "joined", "[J", true)
  | 4 => ("KnitTreaty$Joiner", "count", "I", false)
  | 5 => ("KnitTreaty$Joiner", "total", "I", false)
  | _ => ("KnitTreaty$Joiner", "whole", "J", false)
def kx_cl : List vw_C := [("KnitTreaty", T_KT, 19), ("KnitTreaty$Tray", T_Tray, 4), ("KnitTreaty$State", T_State, 3), ("KnitTreaty$Deal", T_Deal, 9), ("KnitTreaty$Cloth", T_Cloth, 9), ("KnitTreaty$Script", T_Script, 7), ("KnitTreaty$Reader", T_Reader, 12), ("KnitTreaty$TreatyText", T_TreatyText, 3), ("KnitTreaty$CenturyText", T_CenturyText, 3), ("KnitTreaty$Life", T_Life, 8), ("KnitTreaty$Seen", T_Seen, 6), ("KnitTreaty$Joiner", T_Joiner, 7)]
/-- what the tables say of a class -/
def kx_cok (q : vw_C) : Prop := (∀ w ∈ u_ws q.1 q.2.1 q.2.2, w ∈ lw_tbl ∧ goodWord w = true) ∧ (∀ a, a < q.2.2 → ∀ b, b < q.2.2 → a ≠ b → (q.2.1 a).2.1 ≠ (q.2.1 b).2.1) ∧ (∀ k, k < q.2.2 → (parseFieldDescriptor (q.2.1 k).2.2.1).isSome = true)
set_option maxRecDepth 20000 in
theorem cok_KT : kx_cok ("KnitTreaty", T_KT, 19) := ⟨by decide +kernel, by decide +kernel, by decide +kernel⟩
set_option maxRecDepth 20000 in
theorem cok_Tray : kx_cok ("KnitTreaty$Tray", T_Tray, 4) := ⟨by decide +kernel, by decide +kernel, by decide +kernel⟩
set_option maxRecDepth 20000 in
theorem cok_State : kx_cok ("KnitTreaty$State", T_State, 3) := ⟨by decide +kernel, by decide +kernel, by decide +kernel⟩
set_option maxRecDepth 20000 in
theorem cok_Deal : kx_cok ("KnitTreaty$Deal", T_Deal, 9) := ⟨by decide +kernel, by decide +kernel, by decide +kernel⟩
set_option maxRecDepth 20000 in
theorem cok_Cloth : kx_cok ("KnitTreaty$Cloth", T_Cloth, 9) := ⟨by decide +kernel, by decide +kernel, by decide +kernel⟩
set_option maxRecDepth 20000 in
theorem cok_Script : kx_cok ("KnitTreaty$Script", T_Script, 7) := ⟨by decide +kernel, by decide +kernel, by decide +kernel⟩
set_option maxRecDepth 20000 in
theorem cok_Reader : kx_cok ("KnitTreaty$Reader", T_Reader, 12) := ⟨by decide +kernel, by decide +kernel, by decide +kernel⟩
set_option maxRecDepth 20000 in
theorem cok_TreatyText : kx_cok ("KnitTreaty$TreatyText", T_TreatyText, 3) := ⟨by decide +kernel, by decide +kernel, by decide +kernel⟩
set_option maxRecDepth 20000 in
theorem cok_CenturyText : kx_cok ("KnitTreaty$CenturyText", T_CenturyText, 3) := ⟨by decide +kernel, by decide +kernel, by decide +kernel⟩
set_option maxRecDepth 20000 in
theorem cok_Life : kx_cok ("KnitTreaty$Life", T_Life, 8) := ⟨by decide +kernel, by decide +kernel, by decide +kernel⟩
set_option maxRecDepth 20000 in
theorem cok_Seen : kx_cok ("KnitTreaty$Seen", T_Seen, 6) := ⟨by decide +kernel, by decide +kernel, by decide +kernel⟩
set_option maxRecDepth 20000 in
theorem cok_Joiner : kx_cok ("KnitTreaty$Joiner", T_Joiner, 7) := ⟨by decide +kernel, by decide +kernel, by decide +kernel⟩
theorem kx_cl_ok : ∀ (ci : Nat) (q : vw_C), kx_cl[ci]? = some q → kx_cok q := by
  intro ci q h
  match ci, h with
  | 0, h => cases h; exact cok_KT
  | 1, h => cases h; exact cok_Tray
  | 2, h => cases h; exact cok_State
  | 3, h => cases h; exact cok_Deal
  | 4, h => cases h; exact cok_Cloth
  | 5, h => cases h; exact cok_Script
  | 6, h => cases h; exact cok_Reader
  | 7, h => cases h; exact cok_TreatyText
  | 8, h => cases h; exact cok_CenturyText
  | 9, h => cases h; exact cok_Life
  | 10, h => cases h; exact cok_Seen
  | 11, h => cases h; exact cok_Joiner
  | k + 12, h => simp [kx_cl] at h
/-- the tables' words that a call may carry on; the nest's words are carried apart -/
def kx_tb : List Cond := lw_tbl.filter goodWord
theorem kx_in {w : Cond} (h : w ∈ lw_tbl) (hg : goodWord w = true) : w ∈ kx_tb := List.mem_filter.mpr ⟨h, hg⟩
theorem kx_tb_good : GoodIn kx_tb kx_tb := fun w h => ⟨h, good_of_word (List.mem_filter.mp h).2⟩
def kx_nest : List Cond := [(Cond.fieldLinkNest "KnitTreaty$Tray" (32 : Nat) "KnitTreaty" "WOOL_OF" "[I" "KnitTreaty"), (Cond.fieldLinkNest "KnitTreaty$Cloth" (50 : Nat) "KnitTreaty" "WOOL_OF" "[I" "KnitTreaty"), (Cond.methodLinkNest "KnitTreaty$Joiner" (62 : Nat) ({ cls := "KnitTreaty", name := "inSet", desc := "(II)Z" } : MethodName) "KnitTreaty"), (Cond.methodLinkNest "KnitTreaty$Deal" (67 : Nat) ({ cls := "KnitTreaty", name := "inSet", desc := "(II)Z" } : MethodName) "KnitTreaty")]
/-- what is made, in the order of the making: (0, class, a kind a field: 0 int, 1 long, 2 a reference that is written, 3 + id one that is not), (1 ints, 2 longs, 3 bytes; length), (4, 5 references; length, ids) -/
def kx_lay : List (Nat × Nat × List Nat) := [(0, 0, [4, 5, 6, 7, 11, 16, 21, 26, 28, 2, 2, 0, 0, 0, 0, 0, 0, 1, 1]),
  (4, 4, [67, 69, 71, 73]),
  (1, 900, []),
  (5, 3, [75, 95, 115]),
  (0, 7, [8, 0, 0]),
  (0, 6, [9, 2, 0, 0, 0, 0, 0, 1, 0, 0, 0, 0]),
  (2, 26, []),
  (1, 0, []),
  (0, 8, [12, 15, 0]),
  (0, 6, [13, 2, 0, 0, 0, 0, 0, 1, 0, 0, 0, 0]),
  (2, 26, []),
  (1, 0, []),
  (1, 3, []),
  (0, 10, [17, 0, 18, 0, 2, 2]),
  (1, 8, []),
  (1, 20, []),
  (1, 6, []),
  (1, 6, []),
  (0, 11, [22, 23, 24, 25, 0, 0, 1]),
  (1, 6, []),
  (2, 6, []),
  (1, 384, []),
  (2, 384, []),
  (0, 9, [27, 0, 0, 0, 0, 0, 0, 0]),
  (1, 60, []),
  (0, 9, [29, 0, 0, 0, 0, 0, 0, 0]),
  (1, 60, []),
  (0, 2, [31, 39, 45]),
  (0, 3, [32, 33, 34, 35, 36, 37, 38, 0, 0]),
  (1, 4, []),
  (2, 4, []),
  (2, 6, []),
  (1, 6, []),
  (1, 30, []),
  (1, 36, []),
  (1, 48, []),
  (0, 4, [40, 41, 42, 43, 44, 0, 0, 0, 0]),
  (1, 12, []),
  (1, 96, []),
  (1, 96, []),
  (1, 96, []),
  (1, 96, []),
  (0, 5, [46, 47, 48, 49, 0, 0, 0]),
  (1, 60, []),
  (1, 60, []),
  (1, 60, []),
  (1, 60, []),
  (0, 2, [51, 59, 65]),
  (0, 3, [52, 53, 54, 55, 56, 57, 58, 0, 0]),
  (1, 4, []),
  (2, 4, []),
  (2, 6, []),
  (1, 6, []),
  (1, 30, []),
  (1, 36, []),
  (1, 48, []),
  (0, 4, [60, 61, 62, 63, 64, 0, 0, 0, 0]),
  (1, 12, []),
  (1, 96, []),
  (1, 96, []),
  (1, 96, []),
  (1, 96, []),
  (0, 5, [66, 67, 68, 69, 0, 0, 0]),
  (1, 60, []),
  (1, 60, []),
  (1, 60, []),
  (1, 60, []),
  (0, 1, [71, 0, 0, 0]),
  (2, 60, []),
  (0, 1, [73, 0, 0, 0]),
  (2, 60, []),
  (0, 1, [75, 0, 0, 0]),
  (2, 60, []),
  (0, 1, [77, 0, 0, 0]),
  (2, 60, []),
  (0, 2, [79, 87, 93]),
  (0, 3, [80, 81, 82, 83, 84, 85, 86, 0, 0]),
  (1, 4, []),
  (2, 4, []),
  (2, 6, []),
  (1, 6, []),
  (1, 30, []),
  (1, 36, []),
  (1, 48, []),
  (0, 4, [88, 89, 90, 91, 92, 0, 0, 0, 0]),
  (1, 12, []),
  (1, 96, []),
  (1, 96, []),
  (1, 96, []),
  (1, 96, []),
  (0, 5, [94, 95, 96, 97, 0, 0, 0]),
  (1, 60, []),
  (1, 60, []),
  (1, 60, []),
  (1, 60, []),
  (0, 2, [99, 107, 113]),
  (0, 3, [100, 101, 102, 103, 104, 105, 106, 0, 0]),
  (1, 4, []),
  (2, 4, []),
  (2, 6, []),
  (1, 6, []),
  (1, 30, []),
  (1, 36, []),
  (1, 48, []),
  (0, 4, [108, 109, 110, 111, 112, 0, 0, 0, 0]),
  (1, 12, []),
  (1, 96, []),
  (1, 96, []),
  (1, 96, []),
  (1, 96, []),
  (0, 5, [114, 115, 116, 117, 0, 0, 0]),
  (1, 60, []),
  (1, 60, []),
  (1, 60, []),
  (1, 60, []),
  (0, 2, [119, 127, 133]),
  (0, 3, [120, 121, 122, 123, 124, 125, 126, 0, 0]),
  (1, 4, []),
  (2, 4, []),
  (2, 6, []),
  (1, 6, []),
  (1, 30, []),
  (1, 36, []),
  (1, 48, []),
  (0, 4, [128, 129, 130, 131, 132, 0, 0, 0, 0]),
  (1, 12, []),
  (1, 96, []),
  (1, 96, []),
  (1, 96, []),
  (1, 96, []),
  (0, 5, [134, 135, 136, 137, 0, 0, 0]),
  (1, 60, []),
  (1, 60, []),
  (1, 60, []),
  (1, 60, []),
  (1, 24, []),
  (1, 52, [])]
def kx_n : Nat := 137
theorem kx_lay_len : kx_lay.length = kx_n := by decide +kernel
