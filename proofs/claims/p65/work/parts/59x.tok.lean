def isBl (b : Nat) : Bool := decide (b = 10 ∨ b = 32)
def isLt (b : Nat) : Bool := decide (97 ≤ b ∧ b ≤ 122)
def isDg (b : Nat) : Bool := decide (48 ≤ b ∧ b ≤ 57)
def isSg (b : Nat) : Bool := decide (b = 59 ∨ b = 60 ∨ b = 61 ∨ b = 62)
def spn (p : Nat → Bool) (T : Nat → Nat) (n : Nat) : Nat → Nat → Nat
  | 0, a => a
  | f + 1, a => if a < n ∧ p (T a) = true then spn p T n f (a + 1) else a
/-- the first place from a on where p ends -/
def spP (p : Nat → Bool) (T : Nat → Nat) (n a : Nat) : Nat := spn p T n (n - a) a
theorem sp_stop {p : Nat → Bool} {T : Nat → Nat} {n a : Nat} (h : n ≤ a ∨ p (T a) = false) : spP p T n a = a := by
  unfold spP
  cases hm : n - a with
  | zero => rfl
  | succ m =>
    rw [spn, if_neg (fun e => by rcases h with h | h; omega; rw [h] at e; exact absurd e.2 (by decide))]
theorem sp_go {p : Nat → Bool} {T : Nat → Nat} {n a : Nat} (h : a < n) (hp : p (T a) = true) : spP p T n a = spP p T n (a + 1) := by
  unfold spP
  obtain ⟨m, hm⟩ : ∃ m, n - a = m + 1 := ⟨n - a - 1, by omega⟩
  rw [hm, spn, if_pos ⟨h, hp⟩, show n - (a + 1) = m by omega]
theorem sp_le {p : Nat → Bool} {T : Nat → Nat} {n : Nat} : ∀ (m a : Nat), a + m = n → a ≤ spP p T n a ∧ spP p T n a ≤ n := by
  intro m
  induction m with
  | zero => intro a h; rw [sp_stop (Or.inl (by omega))]; omega
  | succ m ih =>
    intro a h
    cases hp : p (T a) with
    | false => rw [sp_stop (Or.inr hp)]; omega
    | true =>
      rw [sp_go (by omega) hp]
      have := ih (a + 1) (by omega)
      omega
theorem sp_bd {p : Nat → Bool} {T : Nat → Nat} {n a : Nat} (h : a ≤ n) : a ≤ spP p T n a ∧ spP p T n a ≤ n := sp_le (n - a) a (by omega)
theorem sp_s {p : Nat → Bool} {T : Nat → Nat} {n a : Nat} (h : a < n) (hp : p (T a) = true) : a + 1 ≤ spP p T n a := by
  rw [sp_go h hp]
  exact (sp_bd (show a + 1 ≤ n by omega)).1
def wdF (T : Nat → Nat) : Nat → Nat → Nat → Nat
  | 0, _, w => w
  | m + 1, a, w => wdF T m (a + 1) (w * 32 + (T a - 96))
def nmF (T : Nat → Nat) : Nat → Nat → Nat → Nat
  | 0, _, w => w
  | m + 1, a, w => nmF T m (a + 1) (w * 10 + (T a - 48))
def knownN (k : Nat) : Nat := ([763013, 21484776, 18519214, 769516, 113301093, 307, 3540584, 7657651, 3657363, 18935, 375092, 546380, 3180933, 277893, 824370, 546188, 441992, 132686, 1497, 762030, 623908, 24395141, 719470021, 409072, 5572, 643568] : List Nat).getD k 0
def kyF (w : Nat) : Nat → Nat → Nat
  | 0, _ => 26
  | m + 1, i => if knownN i = w then i else kyF w m (i + 1)
def keyN (w : Nat) : Nat := kyF w 26 0
/-- sort (0 the end, 1 bad, 2 a word, 3 a number, 4 a sign), place, behind, value, word -/
abbrev Tok : Type := Nat × Nat × Nat × Nat × Nat
def kS (t : Tok) : Nat := t.1
def kP (t : Tok) : Nat := t.2.1
def kA (t : Tok) : Nat := t.2.2.1
def kV (t : Tok) : Nat := t.2.2.2.1
def kW (t : Tok) : Nat := t.2.2.2.2
def nxtE (n p : Nat) : Tok := (0, p, n, 0, 0)
def nxtW (T : Nat → Nat) (p e : Nat) : Tok := (2, p, e, (if 8 < e - p then 27 else keyN (wdF T (e - p) p 0)), wdF T (e - p) p 0)
def nxtD (T : Nat → Nat) (p e : Nat) : Tok := ((if 4 < e - p then 1 else 3), p, e, nmF T (e - p) p 0, 0)
def nxtS (T : Nat → Nat) (p : Nat) : Tok := ((if isSg (T p) = true then 4 else 1), p, p + 1, T p, 0)
def nxtP (T : Nat → Nat) (n p : Nat) : Tok := if n ≤ p then nxtE n p else if isLt (T p) = true then nxtW T p (spP isLt T n p) else if isDg (T p) = true then nxtD T p (spP isDg T n p) else nxtS T p
def nxt (T : Nat → Nat) (n a : Nat) : Tok := nxtP T n (spP isBl T n a)
theorem knownL_N : ∀ k, k < 26 → knownL.getD k 0 = bJ (knownN k) := by decide +kernel
theorem knownN_lt : ∀ k, k < 26 → knownN k < 1099511627776 := by decide +kernel
theorem kyF_le (w : Nat) : ∀ m i, i + m = 26 → kyF w m i ≤ 26
  | 0, _, _ => Nat.le_refl _
  | m + 1, i, h => by
    unfold kyF
    split
    · omega
    · exact kyF_le w m (i + 1) (by omega)
theorem keyN_le (w : Nat) : keyN w ≤ 26 := kyF_le w 26 0 rfl
theorem nxt_bd {T : Nat → Nat} {n a : Nat} (h : a ≤ n) : kP (nxt T n a) ≤ n ∧ kA (nxt T n a) ≤ n ∧ a ≤ kP (nxt T n a) ∧ kP (nxt T n a) ≤ kA (nxt T n a) ∧ (kS (nxt T n a) ≠ 0 → kP (nxt T n a) < kA (nxt T n a)) ∧ kS (nxt T n a) ≤ 4 ∧ (kS (nxt T n a) = 2 → kV (nxt T n a) ≤ 27) := by
  obtain ⟨h1, h2⟩ := sp_bd (p := isBl) (T := T) h
  unfold nxt
  generalize spP isBl T n a = p at h1 h2
  unfold nxtP
  by_cases c1 : n ≤ p
  · rw [if_pos c1]
    exact ⟨h2, Nat.le_refl _, h1, h2, fun e => absurd rfl e, Nat.zero_le _, fun e => (by cases e)⟩
  · rw [if_neg c1]
    by_cases c2 : isLt (T p) = true
    · rw [if_pos c2]
      have g := sp_s (show p < n by omega) c2
      have g2 := (sp_bd (p := isLt) (T := T) h2).2
      refine ⟨h2, g2, h1, by show p ≤ spP isLt T n p; omega, fun _ => by show p < spP isLt T n p; omega, (by show 2 ≤ 4; omega), fun _ => ?_⟩
      show (if 8 < spP isLt T n p - p then 27 else _) ≤ 27
      have := keyN_le (wdF T (spP isLt T n p - p) p 0)
      split <;> omega
    · rw [if_neg c2]
      by_cases c3 : isDg (T p) = true
      · rw [if_pos c3]
        have g := sp_s (show p < n by omega) c3
        have g2 := (sp_bd (p := isDg) (T := T) h2).2
        refine ⟨h2, g2, h1, by show p ≤ spP isDg T n p; omega, fun _ => by show p < spP isDg T n p; omega, ?_, ?_⟩
        · show (if 4 < spP isDg T n p - p then 1 else 3) ≤ 4
          split <;> omega
        · intro e
          have e : (if 4 < spP isDg T n p - p then 1 else 3) = 2 := e
          split at e <;> omega
      · rw [if_neg c3]
        refine ⟨h2, by show p + 1 ≤ n; omega, h1, by show p ≤ p + 1; omega, fun _ => by show p < p + 1; omega, ?_, ?_⟩
        · show (if isSg (T p) = true then 4 else 1) ≤ 4
          split <;> omega
        · intro e
          have e : (if isSg (T p) = true then 4 else 1) = 2 := e
          split at e <;> omega
/-- the text, for the class; a token, for the class -/
def TxC (M : kx_M) (r : Nat) (T : Nat → Nat) (n : Nat) : Prop := mR M r 1 = 2 ∧ mI M r 2 = nI n ∧ n ≤ 900 ∧ (∀ i, i < n → mA M 2 i = nI (T i) ∧ T i ≤ 255) ∧ (∀ k, k < 26 → mB M (r + 1) k = knownL.getD k 0)
def TkC (M : kx_M) (r : Nat) (t : Tok) : Prop := mI M r 3 = nI (kA t) ∧ mI M r 4 = nI (kP t) ∧ mI M r 5 = nI (kS t) ∧ mI M r 6 = (if kS t = 2 then nI (kV t) else -nI 1) ∧ (kS t = 2 → kV t ≠ 27 → mJ M r 7 = bJ (kW t)) ∧ (kS t = 3 → mI M r 8 = nI (kV t)) ∧ (kS t = 4 → mI M r 9 = nI (kV t))
def FrR (r : Nat) (M M' : kx_M) : Prop := Fr (fun id => id = r) M M' ∧ mR M' r = mR M r ∧ mI M' r 2 = mI M r 2
theorem FrR.tr {r : Nat} {A B C : kx_M} (h : FrR r A B) (g : FrR r B C) : FrR r A C := ⟨h.1.tr g.1, g.2.1.trans h.2.1, g.2.2.trans h.2.2⟩
theorem FrR.rf {r : Nat} {M : kx_M} : FrR r M M := ⟨Fr.rf, rfl, rfl⟩
theorem FrR.I {r k : Nat} {v : Int32} {M : kx_M} (hk : k ≠ 2) : FrR r M (sI M r k v) := ⟨Fr.sI rfl, rfl, by rw [mI_sI, if_neg (fun e => hk e.2.symm)]⟩
theorem FrR.J {r k : Nat} {v : Int64} {M : kx_M} : FrR r M (sJ M r k v) := ⟨Fr.sJ rfl, rfl, rfl⟩
theorem m_same (M : kx_M) (i k l : Nat) (v : Int32) : mI (sI M i k v) i l = if l = k then v else mI M i l := by
  rw [mI_sI]
  by_cases h : l = k
  · rw [if_pos ⟨rfl, h⟩, if_pos h]
  · rw [if_neg (fun e => h e.2), if_neg h]
theorem z_tapeI {a : Nat} (h : a < 900) : aIb 1 2 (nI a) = true := z_aIb (tg := 1) (show kx_lay[2]? = some (1, 900, []) from rfl) h (by omega)
section
variable {M M' : kx_M} {T : Nat → Nat} {n r : Nat}
theorem TxC_R (hr : r + 1 ≠ 2 ∧ r ≠ 2) (h : TxC M r T n) (hF : FrR r M M') : TxC M' r T n := by
  obtain ⟨h1, h2, h3, h4, h5⟩ := h
  refine ⟨by rw [hF.2.1]; exact h1, hF.2.2.trans h2, h3, fun i hi => ?_, fun k hk => ?_⟩
  · rw [(hF.1 2 (fun e => by omega)).2.2.1]; exact h4 i hi
  · rw [(hF.1 (r + 1) (fun e => by omega)).2.2.2.1]; exact h5 k hk
theorem lt_c {b : Nat} (hb : b ≤ 255) : isLt b = false → (nI b < nI 97) = True ∨ ((nI b < nI 97) = False ∧ (nI 122 < nI b) = True) := fun h => by
  have h := of_decide_eq_false h
  by_cases h1 : b < 97
  · exact Or.inl (z_lt_t h1 (by omega))
  · exact Or.inr ⟨z_lt_f (by omega) (by omega), z_lt_t (by omega) (by omega)⟩
theorem lt_t {b : Nat} (hb : b ≤ 255) (h : isLt b = true) : (nI b < nI 97) = False ∧ (nI 122 < nI b) = False ∧ 97 ≤ b ∧ b ≤ 122 := by
  have h := of_decide_eq_true h
  exact ⟨z_lt_f h.1 (by omega), z_lt_f h.2 (by omega), h.1, h.2⟩
theorem dg_c {b : Nat} (hb : b ≤ 255) : isDg b = false → (nI b < nI 48) = True ∨ ((nI b < nI 48) = False ∧ (nI 57 < nI b) = True) := fun h => by
  have h := of_decide_eq_false h
  by_cases h1 : b < 48
  · exact Or.inl (z_lt_t h1 (by omega))
  · exact Or.inr ⟨z_lt_f (by omega) (by omega), z_lt_t (by omega) (by omega)⟩
theorem dg_t {b : Nat} (hb : b ≤ 255) (h : isDg b = true) : (nI b < nI 48) = False ∧ (nI 57 < nI b) = False ∧ 48 ≤ b ∧ b ≤ 57 := by
  have h := of_decide_eq_true h
  exact ⟨z_lt_f h.1 (by omega), z_lt_f h.2 (by omega), h.1, h.2⟩
theorem bJ_5 : ∀ w, w < 34359738368 → ∀ b, b < 32 → bJ w <<< ((nI 5).toInt64 &&& 63) ||| (nI b).toInt64 = bJ (w * 32 + b) := by
  intro w hw b hb
  have e1 : ((nI 5).toInt64 &&& 63).toBitVec.smod 64 = BitVec.ofNat 64 5 := by decide
  refine bJ_of (by omega) ?_
  rw [show (nI b).toInt64 = bJ b from jJ_bJ (by omega)]
  rw [Int64.toBitVec_or, BitVec.toNat_or, Int64.toBitVec_shiftLeft, e1, BitVec.shiftLeft_eq', BitVec.toNat_shiftLeft, bJ_toNat (by omega), bJ_toNat (by omega), BitVec.toNat_ofNat, Nat.shiftLeft_eq]
  rw [Nat.mod_eq_of_lt (show 5 < 2 ^ 64 by omega), show (2 : Nat) ^ 5 = 32 by decide, Nat.mod_eq_of_lt (by omega), Nat.mul_comm w 32, show 32 = 2 ^ 5 by decide, ← Nat.two_pow_add_eq_or_of_lt (by omega)]
/-- the word's number, while the letters are few -/
theorem wd_step {m w b : Nat} (hb : b < 32) (hw : w < 32 ^ m) : w * 32 + b < 32 ^ (m + 1) := by
  rw [Nat.pow_succ]
  have : (w + 1) * 32 ≤ 32 ^ m * 32 := Nat.mul_le_mul_right 32 hw
  omega
theorem wdF_app {T : Nat → Nat} : ∀ (m a w : Nat), wdF T (m + 1) a w = wdF T m a w * 32 + (T (a + m) - 96)
  | 0, _, _ => rfl
  | m + 1, a, w => by
    show wdF T (m + 1) (a + 1) (w * 32 + (T a - 96)) = wdF T m (a + 1) (w * 32 + (T a - 96)) * 32 + _
    rw [wdF_app m (a + 1), show a + 1 + m = a + (m + 1) by omega]
theorem nmF_app {T : Nat → Nat} : ∀ (m a w : Nat), nmF T (m + 1) a w = nmF T m a w * 10 + (T (a + m) - 48)
  | 0, _, _ => rfl
  | m + 1, a, w => by
    show nmF T (m + 1) (a + 1) (w * 10 + (T a - 48)) = nmF T m (a + 1) (w * 10 + (T a - 48)) * 10 + _
    rw [nmF_app m (a + 1), show a + 1 + m = a + (m + 1) by omega]
theorem wdF_lt {T : Nat → Nat} {n p : Nat} : ∀ m, (∀ i, i < m → isLt (T (p + i)) = true) → wdF T m p 0 < 32 ^ m
  | 0, _ => Nat.one_pos
  | m + 1, h => by
    rw [wdF_app]
    have h1 := of_decide_eq_true (h m (by omega))
    exact wd_step (by omega) (wdF_lt (n := n) m (fun i hi => h i (by omega)))
theorem p32 {m : Nat} (h : m ≤ 7) : 32 ^ m ≤ 34359738368 := show 32 ^ m ≤ 32 ^ 7 from Nat.pow_le_pow_right (by omega) h
theorem q_readWord_l10 {p : Nat} (hr : r + 1 ≠ 2 ∧ r ≠ 2) : ∀ (m f a : Nat) (M : kx_M), a + m = n → m < f → TxC M r T n → p ≤ a → (∀ i, p + i < a → isLt (T (p + i)) = true) → (a - p ≤ 8 → mJ M r 7 = bJ (wdF T (a - p) p 0)) → ∃ M', f_Reader_readWord_l10 r f (nI a) M = some ((), M') ∧ mI M' r 3 = nI (spP isLt T n a) ∧ mI M' r 5 = nI 2 ∧ (spP isLt T n a - p ≤ 8 → mJ M' r 7 = bJ (wdF T (spP isLt T n a - p) p 0)) ∧ mI M' r 4 = mI M r 4 ∧ mI M' r 6 = mI M r 6 ∧ FrR r M M' := by
  have fin : ∀ (M : kx_M) (a : Nat), (a - p ≤ 8 → mJ M r 7 = bJ (wdF T (a - p) p 0)) → mI (sI (sI M r 5 (nI 2)) r 3 (nI a)) r 3 = nI a ∧ mI (sI (sI M r 5 (nI 2)) r 3 (nI a)) r 5 = nI 2 ∧ (a - p ≤ 8 → mJ (sI (sI M r 5 (nI 2)) r 3 (nI a)) r 7 = bJ (wdF T (a - p) p 0)) ∧ mI (sI (sI M r 5 (nI 2)) r 3 (nI a)) r 4 = mI M r 4 ∧ mI (sI (sI M r 5 (nI 2)) r 3 (nI a)) r 6 = mI M r 6 ∧ FrR r M (sI (sI M r 5 (nI 2)) r 3 (nI a)) := by
    intro M a h
    refine ⟨by rw [m_same]; rfl, by rw [m_same, m_same]; rfl, h, by rw [m_same, m_same]; rfl, by rw [m_same, m_same]; rfl, (FrR.I (by omega)).tr (FrR.I (by omega))⟩
  intro m
  induction m with
  | zero =>
    intro f a M ha hf hX hp hall hw
    obtain ⟨f, rfl, hf⟩ := z_succ hf
    have h2 := hX.2.1
    rw [sp_stop (Or.inl (by omega))]
    have hn := hX.2.2.1
    refine ⟨_, ?_, fin M a hw⟩
    rw [f_Reader_readWord_l10]
    simp (disch := first | assumption | omega) only [z_bdn, z_caln, z_gdn, z_iT, z_iF, z_le_t, z_le_f, z_lt_t, z_lt_f, z_cl, z_inb, z_at, z_lit, nI_ii1, nI_add, z_mr, z_ref0, z_refn, z_eq_f, Bool.not_true, Bool.not_false, b2i_t, b2i_f, h2]
  | succ m ih =>
    intro f a M ha hf hX hp hall hw
    obtain ⟨f, rfl, hf⟩ := z_succ hf
    obtain ⟨h1, h2, hn, h4, h5⟩ := hX
    obtain ⟨eT, hT⟩ := h4 a (by omega)
    have eI := z_tapeI (show a < 900 by omega)
    rw [f_Reader_readWord_l10]
    cases hl : isLt (T a) with
    | false =>
      rw [sp_stop (Or.inr hl)]
      refine ⟨_, ?_, fin M a hw⟩
      rcases lt_c hT hl with z1 | ⟨z1, z2⟩
      · simp (disch := first | assumption | omega) only [z_bdn, z_caln, z_gdn, z_iT, z_iF, z_le_t, z_le_f, z_lt_t, z_lt_f, z_cl, z_inb, z_at, z_lit, nI_ii1, nI_add, z_mr, z_ref0, z_refn, z_eq_f, Bool.not_true, Bool.not_false, b2i_t, b2i_f, h2, h1, eI, eT, z1]
      · simp (disch := first | assumption | omega) only [z_bdn, z_caln, z_gdn, z_iT, z_iF, z_le_t, z_le_f, z_lt_t, z_lt_f, z_cl, z_inb, z_at, z_lit, nI_ii1, nI_add, z_mr, z_ref0, z_refn, z_eq_f, Bool.not_true, Bool.not_false, b2i_t, b2i_f, h2, h1, eI, eT, z1, z2]
    | true =>
      rw [sp_go (by omega) hl]
      obtain ⟨z1, z2, l1, l2⟩ := lt_t hT hl
      have z3 : nI (T a) - nI 97 + nI 1 = nI (T a - 96) := by rw [z_sub l1, nI_add]; congr 1; omega
      have hF : FrR r M (sJ M r 7 (mJ M r 7 <<< ((nI 5).toInt64 &&& 63) ||| (nI (T a - 96)).toInt64)) := FrR.J
      obtain ⟨M', a1, a2, a3, a4, a5, a6, a7⟩ := ih f (a + 1) (sJ M r 7 (mJ M r 7 <<< ((nI 5).toInt64 &&& 63) ||| (nI (T a - 96)).toInt64)) (by omega) (by omega) (TxC_R hr ⟨h1, h2, hn, h4, h5⟩ hF) (by omega) (fun i hi => by
        by_cases he : p + i = a
        · rw [he]; exact hl
        · exact hall i (by omega)) (fun h8 => by
        rw [mJ_sJ, if_pos ⟨rfl, rfl⟩, hw (by omega), show a + 1 - p = a - p + 1 by omega, wdF_app, show p + (a - p) = a by omega]
        exact bJ_5 _ (Nat.lt_of_lt_of_le (wdF_lt (n := n) (a - p) (fun i hi => hall i (by omega))) (p32 (by omega))) _ (by omega))
      refine ⟨M', ?_, a2, a3, a4, a5, a6, hF.tr a7⟩
      simp (disch := first | assumption | omega) only [z_bdn, z_caln, z_gdn, z_iT, z_iF, z_le_t, z_le_f, z_lt_t, z_lt_f, z_cl, z_inb, z_at, z_lit, nI_ii1, nI_add, z_mr, z_ref0, z_refn, z_eq_f, Bool.not_true, Bool.not_false, b2i_t, b2i_f, h2, h1, eI, eT, z1, z2, z3]
      exact a1
end
