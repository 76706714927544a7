/-! ## FILLS: what they add up to; LOOK -/
theorem ite_add {c : Prop} [Decidable c] (a b : Nat) : (if c then a + b else 0) = (if c then a else 0) + (if c then b else 0) := by
  by_cases h : c
  · rw [if_pos h, if_pos h, if_pos h]
  · rw [if_neg h, if_neg h, if_neg h]
theorem cA_add {L c a n t : Nat} (w v : Nat → Nat) : cA L c (fun s => w s + v s) a n t = cA L c w a n t + cA L c v a n t := by
  unfold cA
  rw [← sumN_add]
  exact sumN_congr (fun s _ => ite_add _ _)
theorem cB_add {L c n t : Nat} {ok : Nat → Bool} (w v : Nat → Nat) : cB L c (fun s => w s + v s) ok n t = cB L c w ok n t + cB L c v ok n t := by
  unfold cB
  rw [← sumN_add]
  refine sumN_congr (fun a _ => ?_)
  by_cases h : ok a = true
  · rw [if_pos h, if_pos h, if_pos h, cA_add, ite_add (c := t = L)]
    omega
  · rw [if_neg h, if_neg h, if_neg h]
theorem sum4 (f : Nat → Nat) : sumN f 4 = f 0 + f 1 + f 2 + f 3 := by
  show 0 + f 0 + f 1 + f 2 + f 3 = _
  rw [Nat.zero_add]
theorem cB_4 {L c t : Nat} {ok : Nat → Bool} (f : Nat → Nat → Nat) : cB L c (fun s => sumN (fun a => f a s) 4) ok 4 t = sumN (fun a => cB L c (f a) ok 4 t) 4 := by
  rw [show (fun s => sumN (fun a => f a s) 4) = (fun s => f 0 s + f 1 s + f 2 s + f 3 s) from funext fun s => sum4 _, sum4, cB_add, cB_add, cB_add]
theorem wv_congr {L c : Nat} {kn kn' : Nat → Option Nat} : ∀ (j : Nat), (∀ i, i < j → kn i = kn' i) → wv L c kn j = wv L c kn' j
  | 0, _ => rfl
  | j + 1, h => by
    funext t
    show cB L c (wv L c kn j) (okL (kn j)) 4 t = cB L c (wv L c kn' j) (okL (kn' j)) 4 t
    rw [wv_congr j (fun i hi => h i (by omega)), h j (by omega)]
theorem one4 {a : Nat} (f : Nat → Nat) (ha : a < 4) : sumN (fun b => if decide (a = b) = true then f b else 0) 4 = f a := by
  have e : (fun b => if decide (a = b) = true then f b else 0) = (fun b => if a = b then f b else 0) := funext fun b => by
    by_cases h : a = b
    · rw [if_pos (decide_eq_true h), if_pos h]
    · rw [if_neg (by rw [decide_eq_false h]; decide), if_neg h]
  rw [e, sumN_pg, if_pos ha]
/-- the fills are those with each kind in a column that is not known -/
theorem wv_split {L c e : Nat} {kn : Nat → Option Nat} (hn : kn e = none) : ∀ (m : Nat), (fun t => sumN (fun a => wv L c (knU kn e a) (e + 1 + m) t) 4) = wv L c kn (e + 1 + m)
  | 0 => by
    funext t
    show sumN (fun a => cB L c (wv L c (knU kn e a) e) (okL (knU kn e a e)) 4 t) 4 = cB L c (wv L c kn e) (okL (kn e)) 4 t
    have h1 : ∀ a, wv L c (knU kn e a) e = wv L c kn e := fun a => wv_congr e (fun i hi => by
      unfold knU
      rw [if_neg (by omega)])
    have h2 : ∀ a, knU kn e a e = some a := fun a => by
      unfold knU
      rw [if_pos rfl]
    rw [hn]
    have h3 : cB L c (wv L c kn e) (okL none) 4 t = sumN (fun a => cA L c (wv L c kn e) a L t + (if t = L then wv L c kn e L else 0)) 4 := by
      unfold cB
      exact sumN_congr (fun a _ => if_pos rfl)
    rw [h3]
    refine sumN_congr (fun a ha => ?_)
    rw [h1, h2]
    unfold cB
    exact one4 (fun b => cA L c (wv L c kn e) b L t + (if t = L then wv L c kn e L else 0)) ha
  | m + 1 => by
    funext t
    show sumN (fun a => cB L c (wv L c (knU kn e a) (e + 1 + m)) (okL (knU kn e a (e + 1 + m))) 4 t) 4 = cB L c (wv L c kn (e + 1 + m)) (okL (kn (e + 1 + m))) 4 t
    have h2 : ∀ a, knU kn e a (e + 1 + m) = kn (e + 1 + m) := fun a => by
      unfold knU
      rw [if_neg (by omega)]
    rw [← wv_split hn m]
    show _ = cB L c (fun s => sumN (fun a => wv L c (knU kn e a) (e + 1 + m) s) 4) (okL (kn (e + 1 + m))) 4 t
    rw [cB_4]
    exact sumN_congr (fun a _ => by rw [h2])
theorem fill_split {L c e W : Nat} {kn : Nat → Option Nat} (hn : kn e = none) (he : e < W) (t : Nat) : sumN (fun a => wv L c (knU kn e a) W t) 4 = wv L c kn W t := by
  have h := congrFun (wv_split (L := L) (c := c) hn (W - (e + 1))) t
  rw [show e + 1 + (W - (e + 1)) = W by omega] at h
  exact h
theorem fill_same {L c e W b : Nat} {kn : Nat → Option Nat} (hn : kn e = some b) : wv L c (knU kn e b) W = wv L c kn W := wv_congr W (fun i _ => by
  unfold knU
  by_cases h : i = e
  · rw [if_pos h, h, hn]
  · rw [if_neg h])
/-- what is known in full is one way at most -/
theorem wv_known {L c : Nat} {kn : Nat → Option Nat} : ∀ j, (∀ i, i < j → ∃ b, b < 4 ∧ kn i = some b) → sumN (wv L c kn j) (L + 1) ≤ 1
  | 0, _ => wv_sum (L := L) (c := c) (kn := kn) 0
  | j + 1, h => by
    have ih := wv_known (L := L) (c := c) j (fun i hi => h i (by omega))
    obtain ⟨b, hb, e⟩ := h j (by omega)
    have e1 : sumN (wv L c kn (j + 1)) (L + 1) = sumN (wv L c kn j) (L + 1) := by
      rw [← cA_sum (L := L) (c := c) (a := b) (wv L c kn j)]
      refine sumN_congr (fun t _ => ?_)
      show cB L c (wv L c kn j) (okL (kn j)) 4 t = _
      rw [e]
      unfold cB
      exact one4 (fun a => cA L c (wv L c kn j) a L t + (if t = L then wv L c kn j L else 0)) hb
    omega
theorem fill_known {L c W : Nat} {kn : Nat → Option Nat} (h : ∀ i, i < W → ∃ b, b < 4 ∧ kn i = some b) : wv L c kn W L ≤ 1 := Nat.le_trans (sumN_ge (Nat.lt_succ_self L)) (wv_known W h)
/-! LOOK: the column is one that is not known -/
theorem lkF_some {unk : Nat → Bool} {g : Nat → Nat} : ∀ (m j : Nat) (s : Option (Nat × Nat)), (∀ c, s = some c → c.1 < j + m ∧ unk c.1 = true) → (s.isSome = true ∨ ∃ i, j ≤ i ∧ i < j + m ∧ unk i = true) → ∃ c, lkF unk g m j s = some c ∧ c.1 < j + m ∧ unk c.1 = true
  | 0, j, s, h1, h2 => by
    rcases h2 with h2 | ⟨i, a, b, _⟩
    · cases s with
      | none => cases h2
      | some c => exact ⟨c, rfl, h1 c rfl⟩
    · omega
  | m + 1, j, s, h1, h2 => by
    have e : j + (m + 1) = j + 1 + m := by omega
    unfold lkF
    rw [e] at h1 ⊢
    by_cases hu : unk j = true
    · rw [if_pos hu]
      cases s with
      | none =>
        refine lkF_some m (j + 1) _ (fun c hc => ?_) (Or.inl rfl)
        have hc : (j, g j) = c := Option.some.inj hc
        rw [← hc]
        exact ⟨by show j < _; omega, hu⟩
      | some c0 =>
        show ∃ c, lkF unk g m (j + 1) (if g j < c0.2 then some (j, g j) else some c0) = some c ∧ _
        by_cases hg : g j < c0.2
        · rw [if_pos hg]
          refine lkF_some m (j + 1) _ (fun c hc => ?_) (Or.inl rfl)
          have hc : (j, g j) = c := Option.some.inj hc
          rw [← hc]
          exact ⟨by show j < _; omega, hu⟩
        · rw [if_neg hg]
          exact lkF_some m (j + 1) _ h1 (Or.inl rfl)
    · rw [if_neg hu]
      refine lkF_some m (j + 1) _ h1 ?_
      rcases h2 with h2 | ⟨i, a, b, d⟩
      · exact Or.inl h2
      · refine Or.inr ⟨i, ?_, by omega, d⟩
        by_cases e2 : i = j
        · rw [e2] at d; exact absurd d hu
        · omega
theorem look_col {L c W : Nat} {kn : Nat → Option Nat} (hk : ∀ i b, i < W → kn i = some b → b < 4) (h : 2 ≤ wv L c kn W L) : ∃ q, lkA L c W kn = some q ∧ q.1 < W ∧ kn q.1 = none := by
  have h1 : ∃ i, i < W ∧ kn i = none := Classical.byContradiction fun hne => by
    have := fill_known (L := L) (c := c) (W := W) (kn := kn) (fun i hi => by
      cases hb : kn i with
      | none => exact absurd ⟨i, hi, hb⟩ hne
      | some b => exact ⟨b, hk i b hi hb, rfl⟩)
    omega
  obtain ⟨i, hi, hn⟩ := h1
  obtain ⟨q, a, b, d⟩ := lkF_some (unk := lkU kn) (g := lkG L c W kn) W 0 none (fun c hc => by cases hc) (Or.inr ⟨i, Nat.zero_le _, by omega, by unfold lkU; rw [hn]; rfl⟩)
  refine ⟨q, a, by omega, ?_⟩
  unfold lkU at d
  cases hq : kn q.1 with
  | none => rfl
  | some b => rw [hq] at d; cases d
