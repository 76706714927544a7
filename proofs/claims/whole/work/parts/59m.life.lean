/-! ## CENTURIES as they go by -/
/-- cloth; seed; steps, missed, years, fresh, darns; over, cut -/
abbrev Lv : Type := Cl × Nat × (Nat × Nat × Nat × Nat × Nat) × (Bool × Nat)
def vX (v : Lv) : Cl := v.1
def vS (v : Lv) : Nat := v.2.1
def vN (v : Lv) : Nat := v.2.2.1.1
def vI (v : Lv) : Nat := v.2.2.1.2.1
def vY (v : Lv) : Nat := v.2.2.1.2.2.1
def vF (v : Lv) : Nat := v.2.2.1.2.2.2.1
def vD (v : Lv) : Nat := v.2.2.1.2.2.2.2
def vO (v : Lv) : Bool := v.2.2.2.1
def vC (v : Lv) : Nat := v.2.2.2.2
def mkV (x : Cl) (s n i y f d : Nat) (o : Bool) (c : Nat) : Lv := (x, s, (n, i, y, f, d), (o, c))
def sdN (s : Nat) : Nat := match s with
  | 0 => 10729
  | t + 1 => ((t + 1) * 2971 + 10729) % 65536
theorem sdN_e (s : Nat) : sdN s = (s * 2971 + 10729) % 65536 := by
  cases s with
  | zero => decide
  | succ t => rfl
/-- so many came undone, by a pull or a moth: missed if none -/
def came (v : Lv) (u : Us) (x : Cl) : Lv := mkV x (vS v) (vN v) (vI v + (if u.2 = 0 then 1 else 0)) (vY v) (vF v + u.2) (vD v) (vO v) (vC v)
def misV (v : Lv) : Lv := mkV (vX v) (vS v) (vN v) (vI v + 1) (vY v) (vF v) (vD v) (vO v) (vC v)
def sedV (v : Lv) : Lv := mkV (vX v) (sdN (vS v)) (vN v) (vI v) (vY v) (vF v) (vD v) (vO v) (vC v)
def stpV (v : Lv) : Lv := mkV (vX v) (vS v) (vN v + 1) (vI v) (vY v) (vF v) (vD v) (vO v) (vC v)
def ovrV (v : Lv) : Lv := mkV (vX v) (vS v) (vN v) (vI v) (vY v) (vF v) (vD v) true (vC v)
def cutV (v : Lv) : Lv := mkV (vX v) (vS v) (vN v) (vI v) (vY v) (vF v) (vD v) true 1
/-- a step that only does -/
def lvA (k a b : Nat) (v : Lv) : Lv :=
  if k = 0 then (if cY (vX v) + a ≤ 9999 then mkV (yrM (vX v) a) (vS v) (vN v) (vI v) (vY v + a) (vF v + (yrs (vX v) a).2) (vD v) (vO v) (vC v) else misV v)
  else if k = 4 then (if cR (vX v) = 0 then misV v else came (sedV (sedV v)) (eatU (vX v) (sdN (vS v) / 8 % cR (vX v)) (sdN (sdN (vS v)) / 8 % cW (vX v))) (eatX (vX v) (sdN (vS v) / 8 % cR (vX v)) (sdN (sdN (vS v)) / 8 % cW (vX v))))
  else if a < cR (vX v) then (
    if k = 1 then came v (pulU (vX v) a b) (pulX (vX v) a b)
    else if k = 2 then came v (eatU (vX v) a b) (eatX (vX v) a b)
    else mkV (patX (vX v) (8 * a + b)) (vS v) (vN v) (vI v) (vY v) (vF v) (vD v + 1) (vO v) (vC v))
  else misV v
def sunN (x : Cl) : Nat := sumRC (cU x) (cW x) (cR x)
def tsB (y : De) (t a s : Nat) (x : Cl) : Bool :=
  if t = 0 then sdAny x y a else if t = 1 then decide (a < cR x) && wholeB x a
  else if s = 60 then decide (sunN x < a) else if s = 62 then decide (a < sunN x) else decide (sunN x = a)
def nN (v : Int32) : Nat := v.toNatClampNeg
def itL (g : Lv → Lv) : Nat → Lv → Lv
  | 0, v => v
  | k + 1, v => if vO v = true then v else itL g k (g v)
def exO (y : De) (z : Nat → Nat → Int32) (g : Nat → Nat → Lv → Lv) (a : Nat) (v : Lv) : Lv :=
  if vN v = 300 then cutV v
  else if z a 0 = nI 5 then (if tsB y (nN (z a 6)) (nN (z a 1)) (nN (z a 7)) (vX v) = true then g (a + 1) (nN (z a 8)) (stpV v) else stpV v)
  else if z a 0 = nI 6 then itL (g (a + 1) (nN (z a 8))) (nN (z a 1)) (stpV v)
  else if z a 0 = nI 7 then ovrV (stpV v)
  else lvA (nN (z a 0)) (nN (z a 1)) (nN (z a 2)) (stpV v)
def exA (y : De) (z : Nat → Nat → Int32) : Nat → Nat → Nat → Lv → Lv
  | 0, _, _, v => v
  | n + 1, a, b, v => if vO v = true then v else if b ≤ a then v else exA y z n (nN (z a 8)) b (exO y z (exA y z n) a v)
theorem exA_over {y : De} {z : Nat → Nat → Int32} {v : Lv} (h : vO v = true) : ∀ n a b, exA y z n a b v = v
  | 0, _, _ => rfl
  | n + 1, a, b => by rw [exA, if_pos h]
theorem exA_end {y : De} {z : Nat → Nat → Int32} {v : Lv} {a b : Nat} (h : b ≤ a) : ∀ n, exA y z n a b v = v
  | 0 => rfl
  | n + 1 => by rw [exA, if_pos h, ite_self]
theorem exA_go {y : De} {z : Nat → Nat → Int32} {v : Lv} {a b n : Nat} (h : vO v = false) (hab : a < b) : exA y z (n + 1) a b v = exA y z n (nN (z a 8)) b (exO y z (exA y z n) a v) := by
  rw [exA, if_neg (by rw [h]; decide), if_neg (by omega)]
theorem itL_over {g : Lv → Lv} {v : Lv} (h : vO v = true) : ∀ k, itL g k v = v
  | 0 => rfl
  | k + 1 => by rw [itL, if_pos h]
theorem itL_go {g : Lv → Lv} {v : Lv} {k : Nat} (h : vO v = false) : itL g (k + 1) v = itL g k (g v) := by
  rw [itL, if_neg (by rw [h]; decide)]
theorem nN_nI {a : Nat} (h : a < 2147483648) : nN (nI a) = a := z_cl h
/-- what is so of any life -/
def OkV (W : Nat) (v : Lv) : Prop := OkC (vX v) ∧ cW (vX v) = W ∧ cY (vX v) ≤ 9999 ∧ vS v < 65536 ∧ vN v ≤ 300
theorem sdN_lt (s : Nat) : sdN s < 65536 := by rw [sdN_e]; exact Nat.mod_lt _ (by omega)
theorem pulX_sh (x : Cl) (r i : Nat) : (pulX x r i).1 = x.1 := rfl
theorem cW_of {x x' : Cl} (h : x'.1 = x.1) : cW x' = cW x := by unfold cW; rw [h]
theorem cY_of {x x' : Cl} (h : x'.1 = x.1) : cY x' = cY x := by unfold cY; rw [h]
theorem cW_yrM (x : Cl) (a : Nat) : cW (yrM x a) = cW x := by
  show cW (yrs x a).1 = cW x
  exact cW_of (yrs_sh a x)
theorem OkV_came {W : Nat} {v : Lv} {u : Us} {x : Cl} (h : OkV W v) (hx : OkC x) (hs : x.1 = (vX v).1) : OkV W (came v u x) := ⟨hx, (cW_of hs).trans h.2.1, by show cY x ≤ _; rw [cY_of hs]; exact h.2.2.1, h.2.2.2.1, h.2.2.2.2⟩
theorem OkV_sed {W : Nat} {v : Lv} (h : OkV W v) : OkV W (sedV v) := ⟨h.1, h.2.1, h.2.2.1, sdN_lt _, h.2.2.2.2⟩
theorem OkV_lvA {W k a b : Nat} {v : Lv} (h : OkV W v) (ha : a ≤ 99 ∨ ¬ k = 0) : OkV W (lvA k a b v) := by
  unfold lvA
  split
  · split
    · rename_i h1 h2
      exact ⟨OkC_yrM h.1 (by omega), (cW_yrM _ _).trans h.2.1, h2, h.2.2.2.1, h.2.2.2.2⟩
    · exact h
  · split
    · split
      · exact h
      · exact OkV_came (OkV_sed (OkV_sed h)) (OkC_eat h.1 _ _) rfl
    · split
      · split
        · exact OkV_came h (OkC_pul h.1 _ _) rfl
        · split
          · exact OkV_came h (OkC_eat h.1 _ _) rfl
          · exact ⟨OkC_pat h.1 _, (cW_of (patX_sh _ _)).trans h.2.1, h.2.2.1, h.2.2.2.1, h.2.2.2.2⟩
      · exact h
theorem lvA_O (k a b : Nat) (v : Lv) : vO (lvA k a b v) = vO v := by
  unfold lvA
  repeat' split
  all_goals rfl
theorem lvA_N (k a b : Nat) (v : Lv) : vN (lvA k a b v) = vN v := by
  unfold lvA
  repeat' split
  all_goals rfl
theorem eat_none {x : Cl} {r i : Nat} (h : looseB x (8 * r + i) = false) : (eatU x r i).2 = 0 := by
  unfold eatU
  rw [h, if_neg (by decide)]
