/-- the greatest count of a column's letters; the column where it is least -/
def mxN (f : Nat → Nat) : Nat → Nat → Nat → Nat
  | 0, _, b => b
  | m + 1, a, b => mxN f m (a + 1) (if b < f a then f a else b)
def lkF (unk : Nat → Bool) (g : Nat → Nat) : Nat → Nat → Option (Nat × Nat) → Option (Nat × Nat)
  | 0, _, s => s
  | m + 1, j, s => lkF unk g m (j + 1) (if unk j = true then (match s with
    | none => some (j, g j)
    | some c => if g j < c.2 then some (j, g j) else some c) else s)
theorem mxN_le {f : Nat → Nat} {B : Nat} (h : ∀ a, f a ≤ B) : ∀ (m a b : Nat), b ≤ B → mxN f m a b ≤ B
  | 0, _, _, hb => hb
  | m + 1, a, b, hb => mxN_le h m (a + 1) _ (by
    split
    · exact h a
    · exact hb)
theorem mxN_s {f : Nat → Nat} {m a b : Nat} : mxN f (m + 1) a b = mxN f m (a + 1) (max b (f a)) := by
  show mxN f m (a + 1) (if b < f a then f a else b) = _
  congr 1
  split <;> omega
def lkU (kn : Nat → Option Nat) (j : Nat) : Bool := (kn j).isNone
def lkG (L c W : Nat) (kn : Nat → Option Nat) (j : Nat) : Nat := mxN (fun a => wv L c (knU kn j a) W L) 4 0 0
theorem wv_16 {L c W : Nat} {kn : Nat → Option Nat} (hW : W ≤ 8) : wv L c kn W L ≤ 65536 := by
  have h1 := wv_sum (L := L) (c := c) (kn := kn) W
  have h2 : 4 ^ W ≤ 4 ^ 8 := Nat.pow_le_pow_right (by omega) hW
  have h3 : (4 : Nat) ^ 8 = 65536 := by decide
  have h4 := sumN_ge (f := wv L c kn W) (s := L) (n := L + 1) (by omega)
  omega
theorem lkG_16 {L c W j : Nat} {kn : Nat → Option Nat} (hW : W ≤ 8) : lkG L c W kn j ≤ 65536 := mxN_le (fun _ => wv_16 hW) 4 0 0 (by omega)
def lI (s : Option (Nat × Nat)) : Int32 := match s with
  | none => -nI 1
  | some c => nI c.1
def lB (s : Option (Nat × Nat)) : Nat := match s with
  | none => 65537
  | some c => c.2
section
variable {M M' : kx_M} {σ : Sg}
theorem z_max {a b : Nat} (ha : a < 2147483648) (hb : b < 2147483648) : (if nI a < nI b then nI b else nI a) = nI (max a b) := by
  by_cases h : a < b
  · rw [if_pos (nI_lt h (by omega)), Nat.max_eq_right (by omega)]
  · rw [if_neg (nI_nlt (by omega) (by omega)), Nat.max_eq_left (by omega)]
theorem q_best_l31 {K : Int32 → Int32 → Int32 → kx_M → Option (Int32 × kx_M)} {L c W j : Nat} {kn : Nat → Option Nat} {s : Option (Nat × Nat)} (hL : L ≤ 5) (hW : W ≤ 8) (hk : ∀ j b, j < W → kn j = some b → b < 4) (hj : j < W) (hs : lB s ≤ 65537) : ∀ (m n a b : Nat) (M : kx_M), a + m = 4 → m < n → b ≤ 65536 → SeenAt M L c W kn → ∃ M', f_Seen_bestColumn_l31 K n (lI s) (nI (lB s)) (nI j) (nI b) (nI a) M = (if lB s ≤ mxN (fun a => wv L c (knU kn j a) W L) m a b then K (lI s) (nI (lB s)) (nI (j + 1)) M' else K (nI j) (nI (mxN (fun a => wv L c (knU kn j a) W L) m a b)) (nI (j + 1)) M') ∧ SeenAt M' L c W kn ∧ FrS M M' := by
  intro m
  induction m with
  | zero =>
    intro n a b M ha hn hb hS
    obtain ⟨n, rfl, hn⟩ := z_succ hn
    obtain rfl : a = 4 := by omega
    refine ⟨M, ?_, hS, Fr.rf, fun e => e⟩
    rw [f_Seen_bestColumn_l31]
    show _ = (if lB s ≤ b then _ else _)
    by_cases h : lB s ≤ b
    · rw [if_pos h]
      simp (disch := first | assumption | omega) only [z_bdn, z_caln, z_gdn, z_iT, z_iF, z_le_t, z_le_f, z_lt_t, z_lt_f, z_cl, z_inb, z_at, z_lit, nI_ii1, nI_add, z_mr, z_ref0, z_refn, z_eq_f, Bool.not_true, Bool.not_false, b2i_t, b2i_f]
    · rw [if_neg h]
      simp (disch := first | assumption | omega) only [z_bdn, z_caln, z_gdn, z_iT, z_iF, z_le_t, z_le_f, z_lt_t, z_lt_f, z_cl, z_inb, z_at, z_lit, nI_ii1, nI_add, z_mr, z_ref0, z_refn, z_eq_f, Bool.not_true, Bool.not_false, b2i_t, b2i_f]
      rfl
  | succ m ih =>
    intro n a b M ha hn hb hS
    obtain ⟨n, rfl, hn⟩ := z_succ hn
    obtain ⟨M1, a1, a2, a3⟩ := q_countWith hL hW hk hS hj (show a < 4 by omega)
    have l1 := wv_16 (L := L) (c := c) (kn := knU kn j a) hW
    obtain ⟨M', g1, g2, g3⟩ := ih n (a + 1) (max b (wv L c (knU kn j a) W L)) M1 (by omega) (by omega) (by omega) a2
    rw [← mxN_s (f := fun a => wv L c (knU kn j a) W L)] at g1
    refine ⟨M', ?_, g2, a3.tr g3⟩
    rw [f_Seen_bestColumn_l31]
    simp (disch := first | assumption | omega) only [z_bdn, z_caln, z_gdn, z_iT, z_iF, z_le_t, z_le_f, z_lt_t, z_lt_f, z_cl, z_inb, z_at, z_lit, nI_ii1, nI_add, z_mr, z_ref0, z_refn, z_eq_f, Bool.not_true, Bool.not_false, b2i_t, b2i_f, a1, z_max (show b < 2147483648 by omega) (show wv L c (knU kn j a) W L < 2147483648 by omega)]
    exact g1
end
