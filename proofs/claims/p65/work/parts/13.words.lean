/-! ## the words of the printed functions -/
def bd {α β : Type} (v : α) (K : α → β) : β := K v
def gd {α : Type} (p : Bool) (K : Option α) : Option α := if p = true then K else none
def cal {α β : Type} (o : Option (α × kx_M)) (K : α → kx_M → Option β) : Option β := match o with
  | some (r, M) => K r M
  | none => none
def FU : Nat := 1000000
def inb (j : Int32) (n : Nat) : Bool := decide (¬ (j < 0 ∨ n ≤ j.toNatClampNeg))
def aIb (tg id : Nat) (j : Int32) : Bool := match kx_lay[id]? with
  | some (t, n, _) => decide (t = tg) && inb j n
  | none => false
def aLk (tg id : Nat) : Bool := match kx_lay[id]? with
  | some (t, _, _) => decide (t = tg)
  | none => false
def aLn (id : Nat) : Nat := match kx_lay[id]? with
  | some (_, n, _) => n
  | none => 0
def nz (x : Int32) : Bool := decide (¬ x = 0)
def nzJ (x : Int64) : Bool := decide (¬ x = 0)
def b01 (x : Int32) : Bool := decide (x = 0 ∨ x = 1)
def cpb (sp dp n : Int32) (n0 n1 : Nat) : Bool := decide (¬ sp < 0 ∧ ¬ dp < 0 ∧ ¬ n < 0 ∧ sp.toNatClampNeg + n.toNatClampNeg ≤ n0 ∧ dp.toNatClampNeg + n.toNatClampNeg ≤ n1)
theorem bd_e {α β : Type} {v : α} {K : α → β} {r : β} (h : bd v K = r) : K v = r := h
theorem gd_e {α : Type} {p : Bool} {K : Option α} {r : α} {g : Prop} (h : gd p K = some r) (k : p = true → K = some r → g) : g := by
  unfold gd at h
  split at h
  · rename_i hp; exact k hp h
  · exact nomatch h
theorem cal_e {α β : Type} {o : Option (α × kx_M)} {K : α → kx_M → Option β} {r : β} {g : Prop} (h : cal o K = some r) (k : ∀ (x : α) (M : kx_M), o = some (x, M) → K x M = some r → g) : g := by
  cases o with
  | none => exact nomatch h
  | some q => exact k q.1 q.2 rfl h
theorem if_T {α : Type} {c : Prop} {i : Decidable c} {a b r : α} (hc : c) (h : ite c a b = r) : a = r := by rwa [if_pos hc] at h
theorem if_F {α : Type} {c : Prop} {i : Decidable c} {a b r : α} (hc : ¬ c) (h : ite c a b = r) : b = r := by rwa [if_neg hc] at h
theorem ite_e {α : Type} {c : Prop} {i : Decidable c} {a b r : α} {g : Prop} (h : ite c a b = r) (k1 : c → a = r → g) (k2 : ¬ c → b = r → g) : g := by
  by_cases hc : c
  · exact k1 hc (if_T hc h)
  · exact k2 hc (if_F hc h)
theorem inb_e {j : Int32} {n : Nat} (h : inb j n = true) : vp_in j n := by
  unfold vp_in
  exact of_decide_eq_true h
theorem nz_e {x : Int32} (h : nz x = true) : ¬ x = 0 := of_decide_eq_true h
theorem nzJ_e {x : Int64} (h : nzJ x = true) : ¬ x = 0 := of_decide_eq_true h
theorem b01_e {x : Int32} (h : b01 x = true) : x = 0 ∨ x = 1 := of_decide_eq_true h
theorem cpb_e {sp dp n : Int32} {n0 n1 : Nat} (h : cpb sp dp n n0 n1 = true) : ¬ sp < 0 ∧ ¬ dp < 0 ∧ ¬ n < 0 ∧ sp.toNatClampNeg + n.toNatClampNeg ≤ n0 ∧ dp.toNatClampNeg + n.toNatClampNeg ≤ n1 := of_decide_eq_true h
theorem aIb_e {tg id : Nat} {j : Int32} (h : aIb tg id j = true) : ∃ (n : Nat) (ks : List Nat), kx_lay[id]? = some (tg, n, ks) ∧ vp_in j n := by
  unfold aIb at h
  split at h
  · rename_i t n ks he
    rw [Bool.and_eq_true] at h
    have h1 := of_decide_eq_true h.1
    subst h1
    exact ⟨n, ks, he, inb_e h.2⟩
  · cases h
theorem aLk_e {tg id : Nat} (h : aLk tg id = true) : ∃ (ks : List Nat), kx_lay[id]? = some (tg, aLn id, ks) := by
  unfold aLk at h
  unfold aLn
  split at h
  · rename_i t n ks he
    have h1 := of_decide_eq_true h
    subst h1
    rw [he]
    exact ⟨ks, rfl⟩
  · cases h
theorem ne_toInt {x v : Int32} {z : Int} (h : ¬ x = v) (hz : v.toInt = z) : x.toInt ≠ z := fun e => h (Int32.toInt_inj.mp (e.trans hz.symm))
def isReader (r : Nat) : Bool := decide (r = 5 ∨ r = 9)
def isLife (r : Nat) : Bool := decide (r = 23 ∨ r = 25)
def isState (r : Nat) : Bool := decide (r = 27 ∨ r = 47 ∨ r = 75 ∨ r = 95 ∨ r = 115)
def isDeal (r : Nat) : Bool := decide (r = 28 ∨ r = 48 ∨ r = 76 ∨ r = 96 ∨ r = 116)
def isCloth (r : Nat) : Bool := decide (r = 36 ∨ r = 56 ∨ r = 84 ∨ r = 104 ∨ r = 124)
def isScript (r : Nat) : Bool := decide (r = 42 ∨ r = 62 ∨ r = 90 ∨ r = 110 ∨ r = 130)
def isTray (r : Nat) : Bool := decide (r = 67 ∨ r = 69 ∨ r = 71 ∨ r = 73)
theorem lk_Reader {r : Nat} (h : isReader r = true) : kx_lay[r]? = some (0, 6, [r + 4, 2, 0, 0, 0, 0, 0, 1, 0, 0, 0, 0]) := by
  have h1 := of_decide_eq_true h
  rcases h1 with rfl | rfl <;> rfl
theorem lk_Reader_known {r : Nat} (h : isReader r = true) : kx_lay[r + 1]? = some (2, 26, []) := by
  have h1 := of_decide_eq_true h
  rcases h1 with rfl | rfl <;> rfl
theorem lk_Life {r : Nat} (h : isLife r = true) : kx_lay[r]? = some (0, 9, [r + 4, 0, 0, 0, 0, 0, 0, 0]) := by
  have h1 := of_decide_eq_true h
  rcases h1 with rfl | rfl <;> rfl
theorem lk_Life_left {r : Nat} (h : isLife r = true) : kx_lay[r + 1]? = some (1, 60, []) := by
  have h1 := of_decide_eq_true h
  rcases h1 with rfl | rfl <;> rfl
theorem lk_State {r : Nat} (h : isState r = true) : kx_lay[r]? = some (0, 2, [r + 4, r + 12, r + 18]) := by
  have h1 := of_decide_eq_true h
  rcases h1 with rfl | rfl | rfl | rfl | rfl <;> rfl
theorem lD_State_deal {r : Nat} (h : isState r = true) : isDeal (r + 1) = true := by
  have h1 := of_decide_eq_true h
  rcases h1 with rfl | rfl | rfl | rfl | rfl <;> rfl
theorem lD_State_cloth {r : Nat} (h : isState r = true) : isCloth (r + 9) = true := by
  have h1 := of_decide_eq_true h
  rcases h1 with rfl | rfl | rfl | rfl | rfl <;> rfl
theorem lD_State_script {r : Nat} (h : isState r = true) : isScript (r + 15) = true := by
  have h1 := of_decide_eq_true h
  rcases h1 with rfl | rfl | rfl | rfl | rfl <;> rfl
theorem lk_Deal {r : Nat} (h : isDeal r = true) : kx_lay[r]? = some (0, 3, [r + 4, r + 5, r + 6, r + 7, r + 8, r + 9, r + 10, 0, 0]) := by
  have h1 := of_decide_eq_true h
  rcases h1 with rfl | rfl | rfl | rfl | rfl <;> rfl
theorem lk_Deal_wools {r : Nat} (h : isDeal r = true) : kx_lay[r + 1]? = some (1, 4, []) := by
  have h1 := of_decide_eq_true h
  rcases h1 with rfl | rfl | rfl | rfl | rfl <;> rfl
theorem lk_Deal_queenNames {r : Nat} (h : isDeal r = true) : kx_lay[r + 2]? = some (2, 4, []) := by
  have h1 := of_decide_eq_true h
  rcases h1 with rfl | rfl | rfl | rfl | rfl <;> rfl
theorem lk_Deal_clauseNames {r : Nat} (h : isDeal r = true) : kx_lay[r + 3]? = some (2, 6, []) := by
  have h1 := of_decide_eq_true h
  rcases h1 with rfl | rfl | rfl | rfl | rfl <;> rfl
theorem lk_Deal_lengths {r : Nat} (h : isDeal r = true) : kx_lay[r + 4]? = some (1, 6, []) := by
  have h1 := of_decide_eq_true h
  rcases h1 with rfl | rfl | rfl | rfl | rfl <;> rfl
theorem lk_Deal_kinds {r : Nat} (h : isDeal r = true) : kx_lay[r + 5]? = some (1, 30, []) := by
  have h1 := of_decide_eq_true h
  rcases h1 with rfl | rfl | rfl | rfl | rfl <;> rfl
theorem lk_Deal_quarrels {r : Nat} (h : isDeal r = true) : kx_lay[r + 6]? = some (1, 36, []) := by
  have h1 := of_decide_eq_true h
  rcases h1 with rfl | rfl | rfl | rfl | rfl <;> rfl
theorem lk_Deal_worths {r : Nat} (h : isDeal r = true) : kx_lay[r + 7]? = some (1, 48, []) := by
  have h1 := of_decide_eq_true h
  rcases h1 with rfl | rfl | rfl | rfl | rfl <;> rfl
theorem lk_Cloth {r : Nat} (h : isCloth r = true) : kx_lay[r]? = some (0, 4, [r + 4, r + 5, r + 6, r + 7, r + 8, 0, 0, 0, 0]) := by
  have h1 := of_decide_eq_true h
  rcases h1 with rfl | rfl | rfl | rfl | rfl <;> rfl
theorem lk_Cloth_owner {r : Nat} (h : isCloth r = true) : kx_lay[r + 1]? = some (1, 12, []) := by
  have h1 := of_decide_eq_true h
  rcases h1 with rfl | rfl | rfl | rfl | rfl <;> rfl
theorem lk_Cloth_kinds {r : Nat} (h : isCloth r = true) : kx_lay[r + 2]? = some (1, 96, []) := by
  have h1 := of_decide_eq_true h
  rcases h1 with rfl | rfl | rfl | rfl | rfl <;> rfl
theorem lk_Cloth_worn {r : Nat} (h : isCloth r = true) : kx_lay[r + 3]? = some (1, 96, []) := by
  have h1 := of_decide_eq_true h
  rcases h1 with rfl | rfl | rfl | rfl | rfl <;> rfl
theorem lk_Cloth_undone {r : Nat} (h : isCloth r = true) : kx_lay[r + 4]? = some (1, 96, []) := by
  have h1 := of_decide_eq_true h
  rcases h1 with rfl | rfl | rfl | rfl | rfl <;> rfl
theorem lk_Cloth_darned {r : Nat} (h : isCloth r = true) : kx_lay[r + 5]? = some (1, 96, []) := by
  have h1 := of_decide_eq_true h
  rcases h1 with rfl | rfl | rfl | rfl | rfl <;> rfl
theorem lk_Script {r : Nat} (h : isScript r = true) : kx_lay[r]? = some (0, 5, [r + 4, r + 5, r + 6, r + 7, 0, 0, 0]) := by
  have h1 := of_decide_eq_true h
  rcases h1 with rfl | rfl | rfl | rfl | rfl <;> rfl
theorem lk_Script_ops {r : Nat} (h : isScript r = true) : kx_lay[r + 1]? = some (1, 60, []) := by
  have h1 := of_decide_eq_true h
  rcases h1 with rfl | rfl | rfl | rfl | rfl <;> rfl
theorem lk_Script_firsts {r : Nat} (h : isScript r = true) : kx_lay[r + 2]? = some (1, 60, []) := by
  have h1 := of_decide_eq_true h
  rcases h1 with rfl | rfl | rfl | rfl | rfl <;> rfl
theorem lk_Script_seconds {r : Nat} (h : isScript r = true) : kx_lay[r + 3]? = some (1, 60, []) := by
  have h1 := of_decide_eq_true h
  rcases h1 with rfl | rfl | rfl | rfl | rfl <;> rfl
theorem lk_Script_mates {r : Nat} (h : isScript r = true) : kx_lay[r + 4]? = some (1, 60, []) := by
  have h1 := of_decide_eq_true h
  rcases h1 with rfl | rfl | rfl | rfl | rfl <;> rfl
theorem lk_Tray {r : Nat} (h : isTray r = true) : kx_lay[r]? = some (0, 1, [r + 4, 0, 0, 0]) := by
  have h1 := of_decide_eq_true h
  rcases h1 with rfl | rfl | rfl | rfl <;> rfl
theorem lk_Tray_numbers {r : Nat} (h : isTray r = true) : kx_lay[r + 1]? = some (2, 60, []) := by
  have h1 := of_decide_eq_true h
  rcases h1 with rfl | rfl | rfl | rfl <;> rfl
theorem inb_cases4 {j : Int32} (h : inb j 4 = true) : j.toNatClampNeg = 0 ∨ j.toNatClampNeg = 1 ∨ j.toNatClampNeg = 2 ∨ j.toNatClampNeg = 3 := by
  have h1 := inb_e h
  unfold vp_in at h1
  omega
theorem inb_cases3 {j : Int32} (h : inb j 3 = true) : j.toNatClampNeg = 0 ∨ j.toNatClampNeg = 1 ∨ j.toNatClampNeg = 2 := by
  have h1 := inb_e h
  unfold vp_in at h1
  omega
theorem isTray_of {j : Int32} (h : inb j 4 = true) : isTray (2 * j.toNatClampNeg + 67) = true := by
  rcases inb_cases4 h with e | e | e | e <;> rw [e] <;> rfl
theorem isState_of {j : Int32} (h : inb j 3 = true) : isState (20 * j.toNatClampNeg + 75) = true := by
  rcases inb_cases3 h with e | e | e <;> rw [e] <;> rfl
theorem x_tray {w : kx_W} {d : Nat} {own : String} {b : ByteArray} {nL : Nat} {cl : List (Nat × Instr × Nat)} {G : Nat → List (Option Value) → List Value → kx_M → Prop} (F : kx_Sb w d own b nL cl G) {i pc : Nat} {L : List (Option Value)} {S : List Value} {M : kx_M} {j : Int32} (hi : cl[i]? = some (pc, .aaload, 1)) (hj : inb j 4 = true) (k : G (pc + 1) L (.ref (2 * j.toNatClampNeg + 67) :: S) M) : G pc L (.int j :: .ref 1 :: S) M := by
  refine x_taald F hi (ks := [67, 69, 71, 73]) (n := 4) rfl (inb_e hj) ?_
  have : ([67, 69, 71, 73] : List Nat).getD j.toNatClampNeg 0 = 2 * j.toNatClampNeg + 67 := by
    rcases inb_cases4 hj with e | e | e | e <;> rw [e] <;> rfl
  rw [this]
  exact k
theorem x_kept {w : kx_W} {d : Nat} {own : String} {b : ByteArray} {nL : Nat} {cl : List (Nat × Instr × Nat)} {G : Nat → List (Option Value) → List Value → kx_M → Prop} (F : kx_Sb w d own b nL cl G) {i pc : Nat} {L : List (Option Value)} {S : List Value} {M : kx_M} {j : Int32} (hi : cl[i]? = some (pc, .aaload, 1)) (hj : inb j 3 = true) (k : G (pc + 1) L (.ref (20 * j.toNatClampNeg + 75) :: S) M) : G pc L (.int j :: .ref 3 :: S) M := by
  refine x_saald F hi (ks := [75, 95, 115]) (n := 3) rfl (inb_e hj) ?_
  have : ([75, 95, 115] : List Nat).getD j.toNatClampNeg 0 = 20 * j.toNatClampNeg + 75 := by
    rcases inb_cases3 hj with e | e | e <;> rw [e] <;> rfl
  rw [this]
  exact k
theorem x_cN2i {w : kx_W} {d : Nat} {own : String} {b : ByteArray} {nL : Nat} {cl : List (Nat × Instr × Nat)} {G : Nat → List (Option Value) → List Value → kx_M → Prop} (F : kx_Sb w (d + 1) own b nL cl G) {i pc : Nat} {L : List (Option Value)} {S : List Value} {M : kx_M} {m' : kx_md} {idx : Nat} {host : String} {a1 a2 : Value} {r : Int32} {M1 : kx_M} (hi : cl[i]? = some (pc, .invokestatic idx, 3)) (hm : kx_MN own idx m' 2 host) (ok : kx_mok m') (hrest : (S.map fun v => v.category).sum ≤ 8) (hml : m'.2.2.1 ≤ 19) (hC : ∀ Q' : Option Value → kx_M → Prop, Q' (some (.int r)) M1 → Ct w d m' [a1, a2] M Q') (k : G (pc + 3) L (.int r :: S) M1) : G pc L (a2 :: a1 :: S) M := x_inN2 F hi hm ok hrest hml (hC _ k)
theorem x_cS1i {w : kx_W} {d : Nat} {own : String} {b : ByteArray} {nL : Nat} {cl : List (Nat × Instr × Nat)} {G : Nat → List (Option Value) → List Value → kx_M → Prop} (F : kx_Sb w (d + 1) own b nL cl G) {i pc : Nat} {L : List (Option Value)} {S : List Value} {M : kx_M} {m' : kx_md} {idx : Nat} {a1 : Value} {r : Int32} {M1 : kx_M} (hi : cl[i]? = some (pc, .invokestatic idx, 3)) (hm : kx_MS own idx m' 1) (ok : kx_mok m') (hrest : (S.map fun v => v.category).sum ≤ 8) (hml : m'.2.2.1 ≤ 19) (hC : ∀ Q' : Option Value → kx_M → Prop, Q' (some (.int r)) M1 → Ct w d m' [a1] M Q') (k : G (pc + 3) L (.int r :: S) M1) : G pc L (a1 :: S) M := x_inS1 F hi hm ok hrest hml (hC _ k)
theorem x_cS1l {w : kx_W} {d : Nat} {own : String} {b : ByteArray} {nL : Nat} {cl : List (Nat × Instr × Nat)} {G : Nat → List (Option Value) → List Value → kx_M → Prop} (F : kx_Sb w (d + 1) own b nL cl G) {i pc : Nat} {L : List (Option Value)} {S : List Value} {M : kx_M} {m' : kx_md} {idx : Nat} {a1 : Value} {r : Int64} {M1 : kx_M} (hi : cl[i]? = some (pc, .invokestatic idx, 3)) (hm : kx_MS own idx m' 1) (ok : kx_mok m') (hrest : (S.map fun v => v.category).sum ≤ 8) (hml : m'.2.2.1 ≤ 19) (hC : ∀ Q' : Option Value → kx_M → Prop, Q' (some (.long r)) M1 → Ct w d m' [a1] M Q') (k : G (pc + 3) L (.long r :: S) M1) : G pc L (a1 :: S) M := x_inS1 F hi hm ok hrest hml (hC _ k)
theorem x_cS2i {w : kx_W} {d : Nat} {own : String} {b : ByteArray} {nL : Nat} {cl : List (Nat × Instr × Nat)} {G : Nat → List (Option Value) → List Value → kx_M → Prop} (F : kx_Sb w (d + 1) own b nL cl G) {i pc : Nat} {L : List (Option Value)} {S : List Value} {M : kx_M} {m' : kx_md} {idx : Nat} {a1 a2 : Value} {r : Int32} {M1 : kx_M} (hi : cl[i]? = some (pc, .invokestatic idx, 3)) (hm : kx_MS own idx m' 2) (ok : kx_mok m') (hrest : (S.map fun v => v.category).sum ≤ 8) (hml : m'.2.2.1 ≤ 19) (hC : ∀ Q' : Option Value → kx_M → Prop, Q' (some (.int r)) M1 → Ct w d m' [a1, a2] M Q') (k : G (pc + 3) L (.int r :: S) M1) : G pc L (a2 :: a1 :: S) M := x_inS2 F hi hm ok hrest hml (hC _ k)
theorem x_cS2v {w : kx_W} {d : Nat} {own : String} {b : ByteArray} {nL : Nat} {cl : List (Nat × Instr × Nat)} {G : Nat → List (Option Value) → List Value → kx_M → Prop} (F : kx_Sb w (d + 1) own b nL cl G) {i pc : Nat} {L : List (Option Value)} {S : List Value} {M : kx_M} {m' : kx_md} {idx : Nat} {a1 a2 : Value}  {M1 : kx_M} (hi : cl[i]? = some (pc, .invokestatic idx, 3)) (hm : kx_MS own idx m' 2) (ok : kx_mok m') (hrest : (S.map fun v => v.category).sum ≤ 8) (hml : m'.2.2.1 ≤ 19) (hC : ∀ Q' : Option Value → kx_M → Prop, Q' none M1 → Ct w d m' [a1, a2] M Q') (k : G (pc + 3) L (S) M1) : G pc L (a2 :: a1 :: S) M := x_inS2 F hi hm ok hrest hml (hC _ k)
theorem x_cS3i {w : kx_W} {d : Nat} {own : String} {b : ByteArray} {nL : Nat} {cl : List (Nat × Instr × Nat)} {G : Nat → List (Option Value) → List Value → kx_M → Prop} (F : kx_Sb w (d + 1) own b nL cl G) {i pc : Nat} {L : List (Option Value)} {S : List Value} {M : kx_M} {m' : kx_md} {idx : Nat} {a1 a2 a3 : Value} {r : Int32} {M1 : kx_M} (hi : cl[i]? = some (pc, .invokestatic idx, 3)) (hm : kx_MS own idx m' 3) (ok : kx_mok m') (hrest : (S.map fun v => v.category).sum ≤ 8) (hml : m'.2.2.1 ≤ 19) (hC : ∀ Q' : Option Value → kx_M → Prop, Q' (some (.int r)) M1 → Ct w d m' [a1, a2, a3] M Q') (k : G (pc + 3) L (.int r :: S) M1) : G pc L (a3 :: a2 :: a1 :: S) M := x_inS3 F hi hm ok hrest hml (hC _ k)
theorem x_cS3v {w : kx_W} {d : Nat} {own : String} {b : ByteArray} {nL : Nat} {cl : List (Nat × Instr × Nat)} {G : Nat → List (Option Value) → List Value → kx_M → Prop} (F : kx_Sb w (d + 1) own b nL cl G) {i pc : Nat} {L : List (Option Value)} {S : List Value} {M : kx_M} {m' : kx_md} {idx : Nat} {a1 a2 a3 : Value}  {M1 : kx_M} (hi : cl[i]? = some (pc, .invokestatic idx, 3)) (hm : kx_MS own idx m' 3) (ok : kx_mok m') (hrest : (S.map fun v => v.category).sum ≤ 8) (hml : m'.2.2.1 ≤ 19) (hC : ∀ Q' : Option Value → kx_M → Prop, Q' none M1 → Ct w d m' [a1, a2, a3] M Q') (k : G (pc + 3) L (S) M1) : G pc L (a3 :: a2 :: a1 :: S) M := x_inS3 F hi hm ok hrest hml (hC _ k)
theorem x_cS4v {w : kx_W} {d : Nat} {own : String} {b : ByteArray} {nL : Nat} {cl : List (Nat × Instr × Nat)} {G : Nat → List (Option Value) → List Value → kx_M → Prop} (F : kx_Sb w (d + 1) own b nL cl G) {i pc : Nat} {L : List (Option Value)} {S : List Value} {M : kx_M} {m' : kx_md} {idx : Nat} {a1 a2 a3 a4 : Value}  {M1 : kx_M} (hi : cl[i]? = some (pc, .invokestatic idx, 3)) (hm : kx_MS own idx m' 4) (ok : kx_mok m') (hrest : (S.map fun v => v.category).sum ≤ 8) (hml : m'.2.2.1 ≤ 19) (hC : ∀ Q' : Option Value → kx_M → Prop, Q' none M1 → Ct w d m' [a1, a2, a3, a4] M Q') (k : G (pc + 3) L (S) M1) : G pc L (a4 :: a3 :: a2 :: a1 :: S) M := x_inS4 F hi hm ok hrest hml (hC _ k)
theorem x_cV0a {w : kx_W} {d : Nat} {own : String} {b : ByteArray} {nL : Nat} {cl : List (Nat × Instr × Nat)} {G : Nat → List (Option Value) → List Value → kx_M → Prop} (F : kx_Sb w (d + 1) own b nL cl G) {i pc : Nat} {L : List (Option Value)} {S : List Value} {M : kx_M} {m' : kx_md} {idx : Nat} {ci id : Nat} {ks : List Nat} {r : Nat} {M1 : kx_M} (hi : cl[i]? = some (pc, .invokevirtual idx, 3)) (hm : kx_MV own idx m' 0 ci) (ok : kx_mok m') (ho : kx_lay[id]? = some (0, ci, ks)) (hrest : (S.map fun v => v.category).sum ≤ 8) (hml : m'.2.2.1 ≤ 19) (hC : ∀ Q' : Option Value → kx_M → Prop, Q' (some (.ref r)) M1 → Ct w d m' [.ref id] M Q') (k : G (pc + 3) L (.ref r :: S) M1) : G pc L (.ref id :: S) M := x_inV0 F hi hm ok ho hrest hml (hC _ k)
theorem x_cV0i {w : kx_W} {d : Nat} {own : String} {b : ByteArray} {nL : Nat} {cl : List (Nat × Instr × Nat)} {G : Nat → List (Option Value) → List Value → kx_M → Prop} (F : kx_Sb w (d + 1) own b nL cl G) {i pc : Nat} {L : List (Option Value)} {S : List Value} {M : kx_M} {m' : kx_md} {idx : Nat} {ci id : Nat} {ks : List Nat} {r : Int32} {M1 : kx_M} (hi : cl[i]? = some (pc, .invokevirtual idx, 3)) (hm : kx_MV own idx m' 0 ci) (ok : kx_mok m') (ho : kx_lay[id]? = some (0, ci, ks)) (hrest : (S.map fun v => v.category).sum ≤ 8) (hml : m'.2.2.1 ≤ 19) (hC : ∀ Q' : Option Value → kx_M → Prop, Q' (some (.int r)) M1 → Ct w d m' [.ref id] M Q') (k : G (pc + 3) L (.int r :: S) M1) : G pc L (.ref id :: S) M := x_inV0 F hi hm ok ho hrest hml (hC _ k)
theorem x_cV0v {w : kx_W} {d : Nat} {own : String} {b : ByteArray} {nL : Nat} {cl : List (Nat × Instr × Nat)} {G : Nat → List (Option Value) → List Value → kx_M → Prop} (F : kx_Sb w (d + 1) own b nL cl G) {i pc : Nat} {L : List (Option Value)} {S : List Value} {M : kx_M} {m' : kx_md} {idx : Nat} {ci id : Nat} {ks : List Nat}  {M1 : kx_M} (hi : cl[i]? = some (pc, .invokevirtual idx, 3)) (hm : kx_MV own idx m' 0 ci) (ok : kx_mok m') (ho : kx_lay[id]? = some (0, ci, ks)) (hrest : (S.map fun v => v.category).sum ≤ 8) (hml : m'.2.2.1 ≤ 19) (hC : ∀ Q' : Option Value → kx_M → Prop, Q' none M1 → Ct w d m' [.ref id] M Q') (k : G (pc + 3) L (S) M1) : G pc L (.ref id :: S) M := x_inV0 F hi hm ok ho hrest hml (hC _ k)
theorem x_cV1i {w : kx_W} {d : Nat} {own : String} {b : ByteArray} {nL : Nat} {cl : List (Nat × Instr × Nat)} {G : Nat → List (Option Value) → List Value → kx_M → Prop} (F : kx_Sb w (d + 1) own b nL cl G) {i pc : Nat} {L : List (Option Value)} {S : List Value} {M : kx_M} {m' : kx_md} {idx : Nat} {ci id : Nat} {ks : List Nat} {a1 : Value} {r : Int32} {M1 : kx_M} (hi : cl[i]? = some (pc, .invokevirtual idx, 3)) (hm : kx_MV own idx m' 1 ci) (ok : kx_mok m') (ho : kx_lay[id]? = some (0, ci, ks)) (hrest : (S.map fun v => v.category).sum ≤ 8) (hml : m'.2.2.1 ≤ 19) (hC : ∀ Q' : Option Value → kx_M → Prop, Q' (some (.int r)) M1 → Ct w d m' [.ref id, a1] M Q') (k : G (pc + 3) L (.int r :: S) M1) : G pc L (a1 :: .ref id :: S) M := x_inV1 F hi hm ok ho hrest hml (hC _ k)
theorem x_cV1l {w : kx_W} {d : Nat} {own : String} {b : ByteArray} {nL : Nat} {cl : List (Nat × Instr × Nat)} {G : Nat → List (Option Value) → List Value → kx_M → Prop} (F : kx_Sb w (d + 1) own b nL cl G) {i pc : Nat} {L : List (Option Value)} {S : List Value} {M : kx_M} {m' : kx_md} {idx : Nat} {ci id : Nat} {ks : List Nat} {a1 : Value} {r : Int64} {M1 : kx_M} (hi : cl[i]? = some (pc, .invokevirtual idx, 3)) (hm : kx_MV own idx m' 1 ci) (ok : kx_mok m') (ho : kx_lay[id]? = some (0, ci, ks)) (hrest : (S.map fun v => v.category).sum ≤ 8) (hml : m'.2.2.1 ≤ 19) (hC : ∀ Q' : Option Value → kx_M → Prop, Q' (some (.long r)) M1 → Ct w d m' [.ref id, a1] M Q') (k : G (pc + 3) L (.long r :: S) M1) : G pc L (a1 :: .ref id :: S) M := x_inV1 F hi hm ok ho hrest hml (hC _ k)
theorem x_cV1v {w : kx_W} {d : Nat} {own : String} {b : ByteArray} {nL : Nat} {cl : List (Nat × Instr × Nat)} {G : Nat → List (Option Value) → List Value → kx_M → Prop} (F : kx_Sb w (d + 1) own b nL cl G) {i pc : Nat} {L : List (Option Value)} {S : List Value} {M : kx_M} {m' : kx_md} {idx : Nat} {ci id : Nat} {ks : List Nat} {a1 : Value}  {M1 : kx_M} (hi : cl[i]? = some (pc, .invokevirtual idx, 3)) (hm : kx_MV own idx m' 1 ci) (ok : kx_mok m') (ho : kx_lay[id]? = some (0, ci, ks)) (hrest : (S.map fun v => v.category).sum ≤ 8) (hml : m'.2.2.1 ≤ 19) (hC : ∀ Q' : Option Value → kx_M → Prop, Q' none M1 → Ct w d m' [.ref id, a1] M Q') (k : G (pc + 3) L (S) M1) : G pc L (a1 :: .ref id :: S) M := x_inV1 F hi hm ok ho hrest hml (hC _ k)
theorem x_cV2i {w : kx_W} {d : Nat} {own : String} {b : ByteArray} {nL : Nat} {cl : List (Nat × Instr × Nat)} {G : Nat → List (Option Value) → List Value → kx_M → Prop} (F : kx_Sb w (d + 1) own b nL cl G) {i pc : Nat} {L : List (Option Value)} {S : List Value} {M : kx_M} {m' : kx_md} {idx : Nat} {ci id : Nat} {ks : List Nat} {a1 a2 : Value} {r : Int32} {M1 : kx_M} (hi : cl[i]? = some (pc, .invokevirtual idx, 3)) (hm : kx_MV own idx m' 2 ci) (ok : kx_mok m') (ho : kx_lay[id]? = some (0, ci, ks)) (hrest : (S.map fun v => v.category).sum ≤ 8) (hml : m'.2.2.1 ≤ 19) (hC : ∀ Q' : Option Value → kx_M → Prop, Q' (some (.int r)) M1 → Ct w d m' [.ref id, a1, a2] M Q') (k : G (pc + 3) L (.int r :: S) M1) : G pc L (a2 :: a1 :: .ref id :: S) M := x_inV2 F hi hm ok ho hrest hml (hC _ k)
theorem x_cV2l {w : kx_W} {d : Nat} {own : String} {b : ByteArray} {nL : Nat} {cl : List (Nat × Instr × Nat)} {G : Nat → List (Option Value) → List Value → kx_M → Prop} (F : kx_Sb w (d + 1) own b nL cl G) {i pc : Nat} {L : List (Option Value)} {S : List Value} {M : kx_M} {m' : kx_md} {idx : Nat} {ci id : Nat} {ks : List Nat} {a1 a2 : Value} {r : Int64} {M1 : kx_M} (hi : cl[i]? = some (pc, .invokevirtual idx, 3)) (hm : kx_MV own idx m' 2 ci) (ok : kx_mok m') (ho : kx_lay[id]? = some (0, ci, ks)) (hrest : (S.map fun v => v.category).sum ≤ 8) (hml : m'.2.2.1 ≤ 19) (hC : ∀ Q' : Option Value → kx_M → Prop, Q' (some (.long r)) M1 → Ct w d m' [.ref id, a1, a2] M Q') (k : G (pc + 3) L (.long r :: S) M1) : G pc L (a2 :: a1 :: .ref id :: S) M := x_inV2 F hi hm ok ho hrest hml (hC _ k)
theorem x_cV2v {w : kx_W} {d : Nat} {own : String} {b : ByteArray} {nL : Nat} {cl : List (Nat × Instr × Nat)} {G : Nat → List (Option Value) → List Value → kx_M → Prop} (F : kx_Sb w (d + 1) own b nL cl G) {i pc : Nat} {L : List (Option Value)} {S : List Value} {M : kx_M} {m' : kx_md} {idx : Nat} {ci id : Nat} {ks : List Nat} {a1 a2 : Value}  {M1 : kx_M} (hi : cl[i]? = some (pc, .invokevirtual idx, 3)) (hm : kx_MV own idx m' 2 ci) (ok : kx_mok m') (ho : kx_lay[id]? = some (0, ci, ks)) (hrest : (S.map fun v => v.category).sum ≤ 8) (hml : m'.2.2.1 ≤ 19) (hC : ∀ Q' : Option Value → kx_M → Prop, Q' none M1 → Ct w d m' [.ref id, a1, a2] M Q') (k : G (pc + 3) L (S) M1) : G pc L (a2 :: a1 :: .ref id :: S) M := x_inV2 F hi hm ok ho hrest hml (hC _ k)
theorem x_cV3i {w : kx_W} {d : Nat} {own : String} {b : ByteArray} {nL : Nat} {cl : List (Nat × Instr × Nat)} {G : Nat → List (Option Value) → List Value → kx_M → Prop} (F : kx_Sb w (d + 1) own b nL cl G) {i pc : Nat} {L : List (Option Value)} {S : List Value} {M : kx_M} {m' : kx_md} {idx : Nat} {ci id : Nat} {ks : List Nat} {a1 a2 a3 : Value} {r : Int32} {M1 : kx_M} (hi : cl[i]? = some (pc, .invokevirtual idx, 3)) (hm : kx_MV own idx m' 3 ci) (ok : kx_mok m') (ho : kx_lay[id]? = some (0, ci, ks)) (hrest : (S.map fun v => v.category).sum ≤ 8) (hml : m'.2.2.1 ≤ 19) (hC : ∀ Q' : Option Value → kx_M → Prop, Q' (some (.int r)) M1 → Ct w d m' [.ref id, a1, a2, a3] M Q') (k : G (pc + 3) L (.int r :: S) M1) : G pc L (a3 :: a2 :: a1 :: .ref id :: S) M := x_inV3 F hi hm ok ho hrest hml (hC _ k)
theorem x_cV3v {w : kx_W} {d : Nat} {own : String} {b : ByteArray} {nL : Nat} {cl : List (Nat × Instr × Nat)} {G : Nat → List (Option Value) → List Value → kx_M → Prop} (F : kx_Sb w (d + 1) own b nL cl G) {i pc : Nat} {L : List (Option Value)} {S : List Value} {M : kx_M} {m' : kx_md} {idx : Nat} {ci id : Nat} {ks : List Nat} {a1 a2 a3 : Value}  {M1 : kx_M} (hi : cl[i]? = some (pc, .invokevirtual idx, 3)) (hm : kx_MV own idx m' 3 ci) (ok : kx_mok m') (ho : kx_lay[id]? = some (0, ci, ks)) (hrest : (S.map fun v => v.category).sum ≤ 8) (hml : m'.2.2.1 ≤ 19) (hC : ∀ Q' : Option Value → kx_M → Prop, Q' none M1 → Ct w d m' [.ref id, a1, a2, a3] M Q') (k : G (pc + 3) L (S) M1) : G pc L (a3 :: a2 :: a1 :: .ref id :: S) M := x_inV3 F hi hm ok ho hrest hml (hC _ k)
theorem x_cV4i {w : kx_W} {d : Nat} {own : String} {b : ByteArray} {nL : Nat} {cl : List (Nat × Instr × Nat)} {G : Nat → List (Option Value) → List Value → kx_M → Prop} (F : kx_Sb w (d + 1) own b nL cl G) {i pc : Nat} {L : List (Option Value)} {S : List Value} {M : kx_M} {m' : kx_md} {idx : Nat} {ci id : Nat} {ks : List Nat} {a1 a2 a3 a4 : Value} {r : Int32} {M1 : kx_M} (hi : cl[i]? = some (pc, .invokevirtual idx, 3)) (hm : kx_MV own idx m' 4 ci) (ok : kx_mok m') (ho : kx_lay[id]? = some (0, ci, ks)) (hrest : (S.map fun v => v.category).sum ≤ 8) (hml : m'.2.2.1 ≤ 19) (hC : ∀ Q' : Option Value → kx_M → Prop, Q' (some (.int r)) M1 → Ct w d m' [.ref id, a1, a2, a3, a4] M Q') (k : G (pc + 3) L (.int r :: S) M1) : G pc L (a4 :: a3 :: a2 :: a1 :: .ref id :: S) M := x_inV4 F hi hm ok ho hrest hml (hC _ k)
theorem x_cV4v {w : kx_W} {d : Nat} {own : String} {b : ByteArray} {nL : Nat} {cl : List (Nat × Instr × Nat)} {G : Nat → List (Option Value) → List Value → kx_M → Prop} (F : kx_Sb w (d + 1) own b nL cl G) {i pc : Nat} {L : List (Option Value)} {S : List Value} {M : kx_M} {m' : kx_md} {idx : Nat} {ci id : Nat} {ks : List Nat} {a1 a2 a3 a4 : Value}  {M1 : kx_M} (hi : cl[i]? = some (pc, .invokevirtual idx, 3)) (hm : kx_MV own idx m' 4 ci) (ok : kx_mok m') (ho : kx_lay[id]? = some (0, ci, ks)) (hrest : (S.map fun v => v.category).sum ≤ 8) (hml : m'.2.2.1 ≤ 19) (hC : ∀ Q' : Option Value → kx_M → Prop, Q' none M1 → Ct w d m' [.ref id, a1, a2, a3, a4] M Q') (k : G (pc + 3) L (S) M1) : G pc L (a4 :: a3 :: a2 :: a1 :: .ref id :: S) M := x_inV4 F hi hm ok ho hrest hml (hC _ k)
theorem x_cV5i {w : kx_W} {d : Nat} {own : String} {b : ByteArray} {nL : Nat} {cl : List (Nat × Instr × Nat)} {G : Nat → List (Option Value) → List Value → kx_M → Prop} (F : kx_Sb w (d + 1) own b nL cl G) {i pc : Nat} {L : List (Option Value)} {S : List Value} {M : kx_M} {m' : kx_md} {idx : Nat} {ci id : Nat} {ks : List Nat} {a1 a2 a3 a4 a5 : Value} {r : Int32} {M1 : kx_M} (hi : cl[i]? = some (pc, .invokevirtual idx, 3)) (hm : kx_MV own idx m' 5 ci) (ok : kx_mok m') (ho : kx_lay[id]? = some (0, ci, ks)) (hrest : (S.map fun v => v.category).sum ≤ 8) (hml : m'.2.2.1 ≤ 19) (hC : ∀ Q' : Option Value → kx_M → Prop, Q' (some (.int r)) M1 → Ct w d m' [.ref id, a1, a2, a3, a4, a5] M Q') (k : G (pc + 3) L (.int r :: S) M1) : G pc L (a5 :: a4 :: a3 :: a2 :: a1 :: .ref id :: S) M := x_inV5 F hi hm ok ho hrest hml (hC _ k)
theorem x_iretf {w : kx_W} {d : Nat} {m : kx_md} {Q : Option Value → kx_M → Prop} {G : Nat → List (Option Value) → List Value → kx_M → Prop} (F : Sd w d m Q G) {i pc : Nat} {L : List (Option Value)} {M : kx_M} {v : Int32} {res : Int32 × kx_M} (hi : m.2.2.2.2[i]? = some (pc, .ireturn, 1)) (hr : m.2.2.2.1 = some .int) (h : some (v, M) = some res) (hQ : Q (some (.int res.1)) res.2) : G pc L [.int v] M := by
  cases h
  exact x_iret F hi hr hQ
theorem x_zretf {w : kx_W} {d : Nat} {m : kx_md} {Q : Option Value → kx_M → Prop} {G : Nat → List (Option Value) → List Value → kx_M → Prop} (F : Sd w d m Q G) {i pc : Nat} {L : List (Option Value)} {M : kx_M} {v : Int32} {res : Int32 × kx_M} (hi : m.2.2.2.2[i]? = some (pc, .ireturn, 1)) (hr : m.2.2.2.1 = some .boolean) (hv : v = 0 ∨ v = 1) (h : some (v, M) = some res) (hQ : Q (some (.int res.1)) res.2) : G pc L [.int v] M := by
  cases h
  exact x_zret F hi hr hv hQ
theorem x_lretf {w : kx_W} {d : Nat} {m : kx_md} {Q : Option Value → kx_M → Prop} {G : Nat → List (Option Value) → List Value → kx_M → Prop} (F : Sd w d m Q G) {i pc : Nat} {L : List (Option Value)} {M : kx_M} {v : Int64} {res : Int64 × kx_M} (hi : m.2.2.2.2[i]? = some (pc, .lreturn, 1)) (hr : m.2.2.2.1 = some .long) (h : some (v, M) = some res) (hQ : Q (some (.long res.1)) res.2) : G pc L [.long v] M := by
  cases h
  exact x_lret F hi hr hQ
theorem x_aretf {w : kx_W} {d : Nat} {m : kx_md} {Q : Option Value → kx_M → Prop} {G : Nat → List (Option Value) → List Value → kx_M → Prop} (F : Sd w d m Q G) {i pc : Nat} {L : List (Option Value)} {M : kx_M} {v : Nat} {C : String} {res : Nat × kx_M} (hi : m.2.2.2.2[i]? = some (pc, .areturn, 1)) (hr : m.2.2.2.1 = some (.object C)) (h : some (v, M) = some res) (hQ : Q (some (.ref res.1)) res.2) : G pc L [.ref v] M := by
  cases h
  exact x_aret F hi hr hQ
theorem x_vretf {w : kx_W} {d : Nat} {m : kx_md} {Q : Option Value → kx_M → Prop} {G : Nat → List (Option Value) → List Value → kx_M → Prop} (F : Sd w d m Q G) {i pc : Nat} {L : List (Option Value)} {M : kx_M} {res : Unit × kx_M} (hi : m.2.2.2.2[i]? = some (pc, .return_, 1)) (hr : m.2.2.2.1 = none) (h : some ((), M) = some res) (hQ : Q none res.2) : G pc L [] M := by
  cases h
  exact x_vret F hi hr hQ
