/-! ## the ways to fill a row: both vectors -/
theorem sumN_pg (d : Nat) (g : Nat → Nat) : ∀ n, sumN (fun t => if d = t then g t else 0) n = if d < n then g d else 0
  | 0 => by rw [if_neg (by omega)]; rfl
  | n + 1 => by
    show sumN (fun t => if d = t then g t else 0) n + (if d = n then g n else 0) = _
    rw [sumN_pg d g n]
    by_cases h1 : d < n
    · rw [if_pos h1, if_neg (by omega), if_pos (by omega)]; rfl
    · by_cases h2 : d = n
      · rw [if_neg h1, if_pos h2, if_pos (by omega), Nat.zero_add, h2]
      · rw [if_neg h1, if_neg h2, if_neg (by omega)]
def dlT (L c s a : Nat) : Nat := if s < L then dlN L c s a else L
theorem dlT_le (L c s a : Nat) : dlT L c s a ≤ L := by
  unfold dlT
  split
  · rename_i h; exact dlN_le h
  · exact Nat.le_refl _
theorem phN_L (L c : Nat) : phN L c L = 32 := if_pos rfl
theorem cA_d {L c a t : Nat} (w : Nat → Nat) : cA L c w a L t + (if t = L then w L else 0) = sumN (fun s => if dlT L c s a = t then w s else 0) (L + 1) := by
  show cA L c w a L t + _ = sumN (fun s => if dlT L c s a = t then w s else 0) L + (if dlT L c L a = t then w L else 0)
  congr 1
  · refine sumN_congr fun s hs => ?_
    rw [show dlT L c s a = dlN L c s a from if_pos hs]
  · rw [show dlT L c L a = L from if_neg (Nat.lt_irrefl _)]
    by_cases h : t = L
    · rw [if_pos h, if_pos h.symm]
    · rw [if_neg h, if_neg (fun e => h e.symm)]
theorem led_d {L c s a : Nat} (h1 : 1 ≤ L) (h5 : L ≤ 5) (hc : c < 4 ^ L) (hs : s < L + 1) (ha : a < 4) : ledN L c (phN L c s) a = phN L c (dlT L c s a) ∧ phN L c s < 33 := by
  by_cases h : s < L
  · obtain ⟨e1, e2, e3⟩ := ld_all h1 h5 hc h ha
    rw [show dlT L c s a = dlN L c s a from if_pos h]
    exact ⟨e1, by omega⟩
  · obtain rfl : s = L := by omega
    rw [show dlT s c s a = s from if_neg (Nat.lt_irrefl _), phN_L]
    exact ⟨if_pos rfl, by omega⟩
theorem mv_step {L c y : Nat} {u w : Nat → Nat} {ok : Nat → Bool} (h1 : 1 ≤ L) (h5 : L ≤ 5) (hc : c < 4 ^ L) (hu : ∀ x, x < 33 → u x = sumN (fun s => if phN L c s = x then w s else 0) (L + 1)) : sumN (fun x => sumN (fun a => if ok a = true then (if ledN L c x a = y then u x else 0) else 0) 4) 33 = sumN (fun t => if phN L c t = y then cB L c w ok 4 t else 0) (L + 1) := by
  have R : sumN (fun t => if phN L c t = y then cB L c w ok 4 t else 0) (L + 1) = sumN (fun t => sumN (fun a => if ok a = true then (if phN L c t = y then cA L c w a L t + (if t = L then w L else 0) else 0) else 0) 4) (L + 1) := by
    refine sumN_congr fun t ht => ?_
    by_cases hp : phN L c t = y
    · rw [if_pos hp]
      refine sumN_congr fun a ha => ?_
      cases ok a
      · rfl
      · show (if true = true then _ else 0) = (if true = true then (if phN L c t = y then _ else 0) else 0)
        rw [if_pos rfl, if_pos rfl, if_pos hp]
    · rw [if_neg hp]
      have : (fun a => if ok a = true then (if phN L c t = y then cA L c w a L t + (if t = L then w L else 0) else 0) else 0) = fun _ => 0 := funext fun a => by
        rw [if_neg hp]
        cases ok a <;> rfl
      rw [this, sumN_0]
  rw [R]
  refine (sumN_swap _ 33 4).trans (Eq.trans ?_ (sumN_swap (fun a t => if ok a = true then (if phN L c t = y then cA L c w a L t + (if t = L then w L else 0) else 0) else 0) 4 (L + 1)))
  refine sumN_congr fun a ha => ?_
  cases ok a
  · show sumN (fun _ => 0) 33 = sumN (fun _ => 0) (L + 1)
    rw [sumN_0, sumN_0]
  · show sumN (fun x => if ledN L c x a = y then u x else 0) 33 = sumN (fun t => if phN L c t = y then cA L c w a L t + (if t = L then w L else 0) else 0) (L + 1)
    have lhs : sumN (fun x => if ledN L c x a = y then u x else 0) 33 = sumN (fun s => if phN L c (dlT L c s a) = y then w s else 0) (L + 1) := by
      have e1 : sumN (fun x => if ledN L c x a = y then u x else 0) 33 = sumN (fun x => sumN (fun s => if phN L c s = x then (if ledN L c x a = y then w s else 0) else 0) (L + 1)) 33 := by
        refine sumN_congr fun x hx => ?_
        by_cases hy : ledN L c x a = y
        · rw [if_pos hy, hu x hx]
          refine sumN_congr fun s _ => ?_
          by_cases hs : phN L c s = x
          · rw [if_pos hs, if_pos hs, if_pos hy]
          · rw [if_neg hs, if_neg hs]
        · rw [if_neg hy]
          have : (fun s => if phN L c s = x then (if ledN L c x a = y then w s else 0) else 0) = fun _ => 0 := funext fun s => by
            rw [if_neg hy]
            split <;> rfl
          rw [this, sumN_0]
      rw [e1, sumN_swap]
      refine sumN_congr fun s hs => ?_
      obtain ⟨g1, g2⟩ := led_d h1 h5 hc hs ha
      rw [sumN_pg (phN L c s) (fun x => if ledN L c x a = y then w s else 0), if_pos g2, g1]
    have rhs : sumN (fun t => if phN L c t = y then cA L c w a L t + (if t = L then w L else 0) else 0) (L + 1) = sumN (fun s => if phN L c (dlT L c s a) = y then w s else 0) (L + 1) := by
      have e1 : sumN (fun t => if phN L c t = y then cA L c w a L t + (if t = L then w L else 0) else 0) (L + 1) = sumN (fun t => sumN (fun s => if dlT L c s a = t then (if phN L c t = y then w s else 0) else 0) (L + 1)) (L + 1) := by
        refine sumN_congr fun t ht => ?_
        rw [cA_d]
        by_cases hy : phN L c t = y
        · rw [if_pos hy]
          refine sumN_congr fun s _ => ?_
          by_cases hs : dlT L c s a = t
          · rw [if_pos hs, if_pos hs, if_pos hy]
          · rw [if_neg hs, if_neg hs]
        · rw [if_neg hy]
          have : (fun s => if dlT L c s a = t then (if phN L c t = y then w s else 0) else 0) = fun _ => 0 := funext fun s => by
            rw [if_neg hy]
            split <;> rfl
          rw [this, sumN_0]
      rw [e1, sumN_swap]
      refine sumN_congr fun s hs => ?_
      have g := dlT_le L c s a
      rw [sumN_pg (dlT L c s a) (fun t => if phN L c t = y then w s else 0), if_pos (by omega)]
    rw [lhs, rhs]
/-- the reference's vector behind j columns -/
def mvN (L c : Nat) (kn : Nat → Option Nat) (j x : Nat) : Nat := sumN (fun s => if phN L c s = x then wv L c kn j s else 0) (L + 1)
theorem mvN_le {L c : Nat} {kn : Nat → Option Nat} (j x : Nat) : mvN L c kn j x ≤ 4 ^ j := Nat.le_trans (sumN_mono (fun s _ => by
  split
  · exact Nat.le_refl _
  · exact Nat.zero_le _)) (wv_sum j)
theorem mvN_s {L c : Nat} {kn : Nat → Option Nat} (h1 : 1 ≤ L) (h5 : L ≤ 5) (hc : c < 4 ^ L) (j y : Nat) : sumN (fun x => sumN (fun a => if okL (kn j) a = true then (if ledN L c x a = y then mvN L c kn j x else 0) else 0) 4) 33 = mvN L c kn (j + 1) y := mv_step h1 h5 hc (fun x _ => rfl)
theorem mvN_0 {L c : Nat} {kn : Nat → Option Nat} (h1 : 1 ≤ L) (x : Nat) : mvN L c kn 0 x = if x = 0 then 1 else 0 := by
  have e : mvN L c kn 0 x = sumN (fun s => if 0 = s then (if phN L c s = x then 1 else 0) else 0) (L + 1) := sumN_congr fun s hs => by
    show (if phN L c s = x then (if s = 0 then 1 else 0) else 0) = _
    by_cases h0 : s = 0
    · subst h0
      rw [if_pos rfl, if_pos rfl]
    · rw [if_neg h0, if_neg (show ¬ 0 = s from fun e => h0 e.symm)]
      split <;> rfl
  rw [e, sumN_pg 0 (fun s => if phN L c s = x then 1 else 0), if_pos (by omega), show phN L c 0 = 0 from if_neg (by omega)]
  by_cases hx : x = 0
  · rw [if_pos hx, if_pos hx.symm]
  · rw [if_neg hx, if_neg (fun e => hx e.symm)]
theorem mvN_32 {L c : Nat} {kn : Nat → Option Nat} (h1 : 1 ≤ L) (h5 : L ≤ 5) (hc : c < 4 ^ L) (j : Nat) : mvN L c kn j 32 = wv L c kn j L := by
  have e : mvN L c kn j 32 = sumN (fun s => if L = s then wv L c kn j s else 0) (L + 1) := sumN_congr fun s hs => by
    by_cases h0 : s = L
    · rw [h0, phN_L, if_pos rfl, if_pos rfl]
    · obtain ⟨-, -, e3⟩ := ld_all (a := 0) h1 h5 hc (show s < L by omega) (by omega)
      rw [if_neg (by omega), if_neg (fun e => h0 e.symm)]
  rw [e, sumN_pg L (wv L c kn j), if_pos (by omega)]
