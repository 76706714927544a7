def anyb (p : Nat → Bool) : Nat → Bool
  | 0 => false
  | n + 1 => anyb p n || p n
theorem anyb_t {p : Nat → Bool} {i : Nat} : ∀ {n : Nat}, i < n → p i = true → anyb p n = true
  | n + 1, hi, hp => by
    show (anyb p n || p n) = true
    by_cases he : i = n
    · subst he; rw [hp, Bool.or_true]
    · rw [anyb_t (n := n) (by omega) hp, Bool.true_or]
theorem anyb_ex {p : Nat → Bool} : ∀ {n : Nat}, anyb p n = true → ∃ i, i < n ∧ p i = true
  | n + 1, h => by
    have h : (anyb p n || p n) = true := h
    rw [Bool.or_eq_true] at h
    rcases h with h | h
    · obtain ⟨i, h1, h2⟩ := anyb_ex h
      exact ⟨i, by omega, h2⟩
    · exact ⟨n, by omega, h⟩
/-- the lesser; 0 is none -/
def mn2 (a b : Nat) : Nat := if a = 0 then b else if b = 0 then a else if b < a then b else a
def mnK (p : Nat → Bool) (f : Nat → Nat) : Nat → Nat
  | 0 => 0
  | n + 1 => if p n = true then mn2 (mnK p f n) (f n) else mnK p f n
theorem mn2_nz {a b : Nat} (h : b ≠ 0) : mn2 a b ≠ 0 := by unfold mn2; repeat' split <;> try omega
theorem mn2_nz' {a b : Nat} (h : a ≠ 0) : mn2 a b ≠ 0 := by unfold mn2; repeat' split <;> try omega
theorem mn2_le {a b : Nat} (h : b ≠ 0) : mn2 a b ≤ b := by unfold mn2; repeat' split <;> try omega
theorem mn2_le' {a b : Nat} (h : a ≠ 0) : mn2 a b ≤ a := by unfold mn2; repeat' split <;> try omega
theorem mn2_or (a b : Nat) : mn2 a b = a ∧ a ≠ 0 ∨ mn2 a b = b := by unfold mn2; repeat' split <;> try omega
theorem mnK_congr {p q : Nat → Bool} {f g : Nat → Nat} : ∀ {n : Nat}, (∀ k, k < n → p k = q k) → (∀ k, k < n → p k = true → f k = g k) → mnK p f n = mnK q g n
  | 0, _, _ => rfl
  | n + 1, h1, h2 => by
    show (if p n = true then mn2 (mnK p f n) (f n) else mnK p f n) = if q n = true then mn2 (mnK q g n) (g n) else mnK q g n
    rw [mnK_congr (n := n) (fun k hk => h1 k (by omega)) (fun k hk => h2 k (by omega)), ← h1 n (by omega)]
    split
    · rename_i hp; rw [h2 n (by omega) hp]
    · rfl
theorem mnK_le {p : Nat → Bool} {f : Nat → Nat} (hf : ∀ k, p k = true → f k ≠ 0) : ∀ {n k : Nat}, k < n → p k = true → mnK p f n ≠ 0 ∧ mnK p f n ≤ f k
  | n + 1, k, hk, hp => by
    show (if p n = true then mn2 (mnK p f n) (f n) else mnK p f n) ≠ 0 ∧ (if p n = true then mn2 (mnK p f n) (f n) else mnK p f n) ≤ f k
    by_cases he : k = n
    · subst he
      rw [if_pos hp]
      exact ⟨mn2_nz (hf k hp), mn2_le (hf k hp)⟩
    · obtain ⟨h1, h2⟩ := mnK_le (n := n) hf (show k < n by omega) hp
      split
      · exact ⟨mn2_nz' h1, Nat.le_trans (mn2_le' h1) h2⟩
      · exact ⟨h1, h2⟩
theorem mnK_ex {p : Nat → Bool} {f : Nat → Nat} : ∀ {n : Nat}, mnK p f n ≠ 0 → ∃ k, k < n ∧ p k = true ∧ mnK p f n = f k
  | 0, h => absurd rfl h
  | n + 1, h => by
    have e : mnK p f (n + 1) = if p n = true then mn2 (mnK p f n) (f n) else mnK p f n := rfl
    rw [e] at h ⊢
    by_cases hp : p n = true
    · rw [if_pos hp] at h ⊢
      rcases mn2_or (mnK p f n) (f n) with ⟨h1, h2⟩ | h1
      · obtain ⟨k, a, b, c⟩ := mnK_ex h2
        exact ⟨k, by omega, b, h1.trans c⟩
      · exact ⟨n, by omega, hp, h1⟩
    · rw [if_neg hp] at h ⊢
      obtain ⟨k, a, b, c⟩ := mnK_ex h
      exact ⟨k, by omega, b, c⟩
def rmB (p : Nat → Bool) (k : Nat) : Nat → Bool := fun i => p i && decide (i ≠ k)
theorem cnt_rm {p : Nat → Bool} {k : Nat} : ∀ {n : Nat}, k < n → p k = true → cnt (rmB p k) n + 1 = cnt p n
  | n + 1, hk, hp => by
    rw [cnt_succ, cnt_succ]
    by_cases he : k = n
    · subst he
      rw [if_pos hp, show rmB p k k = false from by unfold rmB; simp, if_neg (by decide)]
      rw [cnt_congr (p := rmB p k) (q := p) (n := k) (fun i hi => by unfold rmB; rw [decide_eq_true (show i ≠ k by omega), Bool.and_true])]
    · have h1 := cnt_rm (n := n) (show k < n by omega) hp
      rw [show rmB p k n = p n from by unfold rmB; rw [decide_eq_true (show n ≠ k by omega), Bool.and_true]]
      omega
/-- one clause more behind the last one: its kinds but those that overlap -/
def xt (sz cd : Nat → Nat) (ov : Option Nat → Nat → Nat) (last : Option Nat) (k e : Nat) : Nat := e * 4 ^ (sz k - ov last k) + cd k % 4 ^ (sz k - ov last k)
/-- the least run by any order of what is left -/
def tO (C : Nat) (sz cd : Nat → Nat) (ov : Option Nat → Nat → Nat) : Nat → (Nat → Bool) → Option Nat → Nat → Nat
  | 0, _, _, e => e
  | m + 1, lf, last, e => mnK lf (fun k => tO C sz cd ov m (rmB lf k) (some k) (xt sz cd ov last k e)) C
section
variable {C : Nat} {sz cd : Nat → Nat} {ov : Option Nat → Nat → Nat}
theorem xt_nz {last : Option Nat} {k e : Nat} (he : e ≠ 0) : xt sz cd ov last k e ≠ 0 := by
  unfold xt
  have h1 : 0 < 4 ^ (sz k - ov last k) := Nat.pow_pos (by omega)
  have h2 : 1 * 4 ^ (sz k - ov last k) ≤ e * 4 ^ (sz k - ov last k) := Nat.mul_le_mul_right _ (by omega)
  omega
theorem xt_mono {last : Option Nat} {k e e' : Nat} (h : e ≤ e') : xt sz cd ov last k e ≤ xt sz cd ov last k e' := by
  unfold xt
  have h2 : e * 4 ^ (sz k - ov last k) ≤ e' * 4 ^ (sz k - ov last k) := Nat.mul_le_mul_right _ h
  omega
theorem mnK_nz {p : Nat → Bool} {f : Nat → Nat} {n : Nat} (hc : 0 < cnt p n) (hf : ∀ k, k < n → p k = true → f k ≠ 0) : mnK p f n ≠ 0 := by
  obtain ⟨i, hi, hp⟩ := cnt_pos.mp hc
  have h1 := mnK_le (p := fun k => p k && decide (k < n)) (f := f) (fun k hk => by
    rw [Bool.and_eq_true] at hk
    exact hf k (of_decide_eq_true hk.2) hk.1) hi (by rw [hp, decide_eq_true hi]; rfl)
  rw [mnK_congr (q := p) (g := f) (fun k hk => by rw [decide_eq_true hk, Bool.and_true]) (fun k _ _ => rfl)] at h1
  exact h1.1
theorem tO_nz : ∀ {m : Nat} {lf : Nat → Bool} {last : Option Nat} {e : Nat}, cnt lf C = m → e ≠ 0 → tO C sz cd ov m lf last e ≠ 0
  | 0, _, _, _, _, he => he
  | m + 1, lf, last, e, hc, he => mnK_nz (by omega) (fun k hk hp => tO_nz (by have := cnt_rm hk hp; omega) (xt_nz he))
theorem tO_le {m : Nat} {lf : Nat → Bool} {last : Option Nat} {e k : Nat} (hc : cnt lf C = m + 1) (he : e ≠ 0) (hk : k < C) (hp : lf k = true) : tO C sz cd ov (m + 1) lf last e ≤ tO C sz cd ov m (rmB lf k) (some k) (xt sz cd ov last k e) := by
  have h1 := mnK_le (p := fun k => lf k && decide (k < C)) (f := fun k => tO C sz cd ov m (rmB lf k) (some k) (xt sz cd ov last k e)) (fun k hk => by
    rw [Bool.and_eq_true] at hk
    have := cnt_rm (of_decide_eq_true hk.2) hk.1
    exact tO_nz (by omega) (xt_nz he)) hk (by rw [hp, decide_eq_true hk]; rfl)
  rw [mnK_congr (q := lf) (g := fun k => tO C sz cd ov m (rmB lf k) (some k) (xt sz cd ov last k e)) (fun k hk => by rw [decide_eq_true hk, Bool.and_true]) (fun k _ _ => rfl)] at h1
  exact h1.2
theorem tO_ex {m : Nat} {lf : Nat → Bool} {last : Option Nat} {e : Nat} (hc : cnt lf C = m + 1) (he : e ≠ 0) : ∃ k, k < C ∧ lf k = true ∧ tO C sz cd ov (m + 1) lf last e = tO C sz cd ov m (rmB lf k) (some k) (xt sz cd ov last k e) := mnK_ex (tO_nz hc he)
theorem tO_mono : ∀ {m : Nat} {lf : Nat → Bool} {last : Option Nat} {e e' : Nat}, cnt lf C = m → e ≠ 0 → e ≤ e' → tO C sz cd ov m lf last e ≤ tO C sz cd ov m lf last e'
  | 0, _, _, _, _, _, _, h => h
  | m + 1, lf, last, e, e', hc, he, h => by
    obtain ⟨k, hk, hp, g⟩ := tO_ex (sz := sz) (cd := cd) (ov := ov) (last := last) hc (show e' ≠ 0 by omega)
    rw [g]
    exact Nat.le_trans (tO_le hc he hk hp) (tO_mono (by have := cnt_rm hk hp; omega) (xt_nz he) (xt_mono h))
theorem tO_congr : ∀ {m : Nat} {lf lf' : Nat → Bool} {last : Option Nat} {e : Nat}, (∀ i, i < C → lf i = lf' i) → tO C sz cd ov m lf last e = tO C sz cd ov m lf' last e
  | 0, _, _, _, _, _ => rfl
  | m + 1, lf, lf', last, e, h => mnK_congr h (fun k hk hp => tO_congr (fun i hi => by unfold rmB; rw [h i hi]))
end
def ovF (mt : Nat → Bool) : Nat → Nat
  | 0 => 0
  | n + 1 => if mt (n + 1) = true then n + 1 else ovF mt n
theorem ovF_le (mt : Nat → Bool) : ∀ n, ovF mt n ≤ n
  | 0 => Nat.le_refl _
  | n + 1 => by
    show (if mt (n + 1) = true then n + 1 else ovF mt n) ≤ n + 1
    have := ovF_le mt n
    split <;> omega
/-- the first b kinds at a's end: n of them -/
def mtB (sz cd : Nat → Nat) (a b n : Nat) : Bool := decide (cd a % 4 ^ n = cd b / 4 ^ (sz b - n))
def ovC (sz cd : Nat → Nat) (a b : Nat) : Nat := ovF (mtB sz cd a b) (min (sz a) (sz b) - 1)
def ovO (sz cd : Nat → Nat) : Option Nat → Nat → Nat
  | none, _ => 0
  | some a, b => ovC sz cd a b
/-- a clause stands in another one -/
def witB (sz cd : Nat → Nat) (k i : Nat) : Bool := (decide (sz k < sz i) || (decide (sz k = sz i) && decide (i < k))) && anyb (fun s => decide (s ≤ sz i - sz k) && decide (cd i / 4 ^ s % 4 ^ sz k = cd k)) 6
def kerB (sz cd : Nat → Nat) (C S k : Nat) : Bool := S.testBit k && decide (k < C) && !anyb (fun i => S.testBit i && witB sz cd k i) C
theorem cnt_mono {p : Nat → Bool} {a b : Nat} (h : a ≤ b) : cnt p a ≤ cnt p b := by
  induction b with
  | zero => obtain rfl : a = 0 := by omega
            exact Nat.le_refl _
  | succ b ih =>
    by_cases he : a = b + 1
    · rw [he]; exact Nat.le_refl _
    · rw [cnt_succ]
      have := ih (by omega)
      omega
theorem pos_lt {p : Nat → Bool} {a b : Nat} (h : a < b) (ha : p a = true) : cnt p a < cnt p b := by
  have h1 := cnt_mono (p := p) (show a + 1 ≤ b by omega)
  rw [cnt_succ, if_pos ha] at h1
  omega
theorem pos_inj {p : Nat → Bool} {a b : Nat} (ha : p a = true) (hb : p b = true) (h : cnt p a = cnt p b) : a = b := by
  rcases Nat.lt_trichotomy a b with h1 | h1 | h1
  · have := pos_lt h1 ha; omega
  · exact h1
  · have := pos_lt h1 hb; omega
def gPl (p : Nat → Bool) (j : Nat) : Nat → Nat
  | 0 => 0
  | n + 1 => if p n = true ∧ cnt p n = j then n else gPl p j n
theorem gP_ok {p : Nat → Bool} {j : Nat} : ∀ {n : Nat}, j < cnt p n → gPl p j n < n ∧ p (gPl p j n) = true ∧ cnt p (gPl p j n) = j
  | 0, h => absurd h (Nat.not_lt_zero _)
  | n + 1, h => by
    have e : gPl p j (n + 1) = if p n = true ∧ cnt p n = j then n else gPl p j n := rfl
    rw [e]
    by_cases hc : p n = true ∧ cnt p n = j
    · rw [if_pos hc]; exact ⟨by omega, hc.1, hc.2⟩
    · rw [if_neg hc]
      rw [cnt_succ] at h
      have hj : j < cnt p n := by
        by_cases hp : p n = true
        · rw [if_pos hp] at h
          have : cnt p n ≠ j := fun e => hc ⟨hp, e⟩
          omega
        · rw [if_neg hp] at h; omega
      obtain ⟨h1, h2, h3⟩ := gP_ok hj
      exact ⟨by omega, h2, h3⟩
theorem gP_pos {p : Nat → Bool} {k n : Nat} (hk : k < n) (hp : p k = true) : gPl p (cnt p k) n = k := by
  obtain ⟨h1, h2, h3⟩ := gP_ok (p := p) (j := cnt p k) (n := n) (pos_lt hk hp)
  exact pos_inj h2 hp h3
def lfH (ker : Nat → Bool) (S : Nat) : Nat → Bool := fun c => ker c && !S.testBit (cnt ker c)
theorem tb_or (S q j : Nat) : (S ||| 2 ^ q).testBit j = (S.testBit j || decide (q = j)) := by
  rw [Nat.testBit_or, Nat.testBit_two_pow]
theorem or_lt {S q n : Nat} (hS : S < 2 ^ n) (hq : q < n) : S ||| 2 ^ q < 2 ^ n := Nat.or_lt_two_pow hS (Nat.pow_lt_pow_right (by omega) hq)
theorem or_gt {S q : Nat} (h : S.testBit q = false) : S < S ||| 2 ^ q := by
  have h1 : S ≤ S ||| 2 ^ q := Nat.left_le_or
  have h2 : S ≠ S ||| 2 ^ q := fun e => by
    have : (S ||| 2 ^ q).testBit q = true := by rw [tb_or, decide_eq_true rfl, Bool.or_true]
    rw [← e, h] at this
    cases this
  omega
def bc (S n : Nat) : Nat := cnt (fun i => S.testBit i) n
theorem bc_or {S q : Nat} (h : S.testBit q = false) : ∀ {n : Nat}, q < n → bc (S ||| 2 ^ q) n = bc S n + 1
  | n + 1, hq => by
    unfold bc
    rw [cnt_succ, cnt_succ]
    by_cases he : q = n
    · subst he
      have e1 : cnt (fun i => (S ||| 2 ^ q).testBit i) q = cnt (fun i => S.testBit i) q := cnt_congr (fun i hi => by
        show (S ||| 2 ^ q).testBit i = S.testBit i
        rw [tb_or, decide_eq_false (by omega), Bool.or_false])
      have e2 : (S ||| 2 ^ q).testBit q = true := by rw [tb_or, decide_eq_true rfl, Bool.or_true]
      rw [e1, if_pos e2, h, if_neg (by decide)]
    · have h1 := bc_or h (n := n) (show q < n by omega)
      unfold bc at h1
      have e2 : (S ||| 2 ^ q).testBit n = S.testBit n := by rw [tb_or, decide_eq_false he, Bool.or_false]
      rw [h1, e2]
      omega
theorem bc_le (S n : Nat) : bc S n ≤ n := cnt_le _ n
section
variable {C : Nat} {sz cd : Nat → Nat} {ov : Option Nat → Nat → Nat} {ker : Nat → Bool} {F : Nat} {D : Nat → Nat → Nat}
theorem lfH_or {S q : Nat} (hq : q < cnt ker C) : ∀ i, lfH ker (S ||| 2 ^ q) i = rmB (lfH ker S) (gPl ker q C) i := by
  intro i
  obtain ⟨h1, h2, h3⟩ := gP_ok hq
  show (ker i && !(S ||| 2 ^ q).testBit (cnt ker i)) = ((ker i && !S.testBit (cnt ker i)) && decide (i ≠ gPl ker q C))
  rw [tb_or]
  cases hk : ker i with
  | false => rfl
  | true =>
    have e : decide (q = cnt ker i) = !decide (i ≠ gPl ker q C) := by
      by_cases he : i = gPl ker q C
      · subst he; rw [h3]; simp
      · have : q ≠ cnt ker i := fun e => he (pos_inj hk h2 (by omega))
        rw [decide_eq_false this, decide_eq_true he]; rfl
    rw [e]
    cases S.testBit (cnt ker i) <;> cases decide (i ≠ gPl ker q C) <;> rfl
def tLo (C : Nat) (sz cd : Nat → Nat) (ov : Option Nat → Nat → Nat) (ker : Nat → Bool) (S : Nat) (last : Option Nat) (e : Nat) : Nat := tO C sz cd ov (cnt (lfH ker S) C) (lfH ker S) last e
def tSo (C : Nat) (sz cd : Nat → Nat) (ov : Option Nat → Nat → Nat) (ker : Nat → Bool) (S p e : Nat) : Nat := tLo C sz cd ov ker S (some (gPl ker p C)) e
theorem cnt_lfH {S q : Nat} (hq : q < cnt ker C) (hS : S.testBit q = false) : cnt (lfH ker S) C = cnt (lfH ker (S ||| 2 ^ q)) C + 1 := by
  obtain ⟨h1, h2, h3⟩ := gP_ok hq
  rw [cnt_congr (p := lfH ker (S ||| 2 ^ q)) (fun i _ => lfH_or hq i)]
  exact (cnt_rm h1 (by unfold lfH; rw [h2, h3, hS]; rfl)).symm
theorem tS_or {S q e : Nat} (hq : q < cnt ker C) : tSo C sz cd ov ker (S ||| 2 ^ q) q e = tO C sz cd ov (cnt (lfH ker (S ||| 2 ^ q)) C) (rmB (lfH ker S) (gPl ker q C)) (some (gPl ker q C)) e := tO_congr (fun i _ => lfH_or hq i)
theorem tS_mono {S p e e' : Nat} (he : e ≠ 0) (h : e ≤ e') : tSo C sz cd ov ker S p e ≤ tSo C sz cd ov ker S p e' := tO_mono rfl he h
theorem tL_le {S q e : Nat} {last : Option Nat} (he : e ≠ 0) (hq : q < cnt ker C) (hS : S.testBit q = false) : tLo C sz cd ov ker S last e ≤ tSo C sz cd ov ker (S ||| 2 ^ q) q (xt sz cd ov last (gPl ker q C) e) := by
  obtain ⟨h1, h2, h3⟩ := gP_ok hq
  rw [tS_or hq]
  have hc := cnt_lfH hq hS
  unfold tLo
  rw [hc]
  exact tO_le hc he h1 (by unfold lfH; rw [h2, h3, hS]; rfl)
theorem tL_ex {S e : Nat} {last : Option Nat} (he : e ≠ 0) (hc : cnt (lfH ker S) C ≠ 0) : ∃ q, q < cnt ker C ∧ S.testBit q = false ∧ tSo C sz cd ov ker (S ||| 2 ^ q) q (xt sz cd ov last (gPl ker q C) e) = tLo C sz cd ov ker S last e := by
  obtain ⟨m, hm⟩ : ∃ m, cnt (lfH ker S) C = m + 1 := ⟨cnt (lfH ker S) C - 1, by omega⟩
  obtain ⟨k, hk, hp, g⟩ := tO_ex (sz := sz) (cd := cd) (ov := ov) (last := last) hm he
  unfold lfH at hp
  rw [Bool.and_eq_true, Bool.not_eq_true'] at hp
  have hq := pos_lt hk hp.1
  refine ⟨cnt ker k, hq, hp.2, ?_⟩
  have h1 := cnt_lfH hq hp.2
  rw [tS_or hq]
  unfold tLo
  rw [gP_pos hk hp.1, show cnt (lfH ker (S ||| 2 ^ cnt ker k)) C = m by omega, hm]
  exact g.symm
/-- the table of the class: bounds, something that leads to the least, what is there -/
def jG (C : Nat) (sz cd : Nat → Nat) (ov : Option Nat → Nat → Nat) (ker : Nat → Bool) (F : Nat) (D : Nat → Nat → Nat) (U : Nat → Nat → Prop) (X : Prop) (Z : Nat → Nat → Prop) : Prop :=
  (∀ S p, S < 2 ^ cnt ker C → p < cnt ker C → D S p ≠ 0 → F ≤ tSo C sz cd ov ker S p (D S p) ∧ D S p < 2 * 4 ^ (5 * bc S (cnt ker C))) ∧
  ((∃ S p, S < 2 ^ cnt ker C ∧ p < cnt ker C ∧ U S p ∧ D S p ≠ 0 ∧ tSo C sz cd ov ker S p (D S p) = F) ∨ X) ∧
  (∀ S p, S < 2 ^ cnt ker C → p < cnt ker C → Z S p → D S p ≠ 0)
def ofr (D : Nat → Nat → Nat) (S1 q e : Nat) : Nat → Nat → Nat := fun S p => if S = S1 ∧ p = q then mn2 (D S1 q) e else D S p
theorem jG_of {U : Nat → Nat → Prop} {X X' : Prop} {Z Z' : Nat → Nat → Prop} {S1 q e : Nat} (hG : jG C sz cd ov ker F D U X Z) (hS : S1 < 2 ^ cnt ker C) (hq : q < cnt ker C) (he : e ≠ 0) (hF : F ≤ tSo C sz cd ov ker S1 q e) (hb : e < 2 * 4 ^ (5 * bc S1 (cnt ker C))) (hX : X → X' ∨ (U S1 q ∧ tSo C sz cd ov ker S1 q e = F)) (hZ : ∀ S p, Z' S p → Z S p ∨ (S = S1 ∧ p = q)) : jG C sz cd ov ker F (ofr D S1 q e) U X' Z' := by
  obtain ⟨g1, g2, g3⟩ := hG
  have k1 : ∀ S p, S < 2 ^ cnt ker C → p < cnt ker C → ofr D S1 q e S p ≠ 0 → F ≤ tSo C sz cd ov ker S p (ofr D S1 q e S p) ∧ ofr D S1 q e S p < 2 * 4 ^ (5 * bc S (cnt ker C)) := by
    intro S p h1 h2 h3
    by_cases hc : S = S1 ∧ p = q
    · obtain ⟨rfl, rfl⟩ := hc
      have e1 : ofr D S p e S p = mn2 (D S p) e := if_pos ⟨rfl, rfl⟩
      rw [e1] at h3 ⊢
      rcases mn2_or (D S p) e with ⟨h4, h5⟩ | h4
      · rw [h4]; exact g1 S p h1 h2 h5
      · rw [h4]; exact ⟨hF, hb⟩
    · have e1 : ofr D S1 q e S p = D S p := if_neg hc
      rw [e1] at h3 ⊢
      exact g1 S p h1 h2 h3
  have em : ofr D S1 q e S1 q = mn2 (D S1 q) e := if_pos ⟨rfl, rfl⟩
  have use : ∀ S p v, S < 2 ^ cnt ker C → p < cnt ker C → U S p → v ≠ 0 → tSo C sz cd ov ker S p v = F → ofr D S1 q e S p ≠ 0 → ofr D S1 q e S p ≤ v → ∃ S p, S < 2 ^ cnt ker C ∧ p < cnt ker C ∧ U S p ∧ ofr D S1 q e S p ≠ 0 ∧ tSo C sz cd ov ker S p (ofr D S1 q e S p) = F := by
    intro S p v h1 h2 h3 h4 h5 h6 h7
    refine ⟨S, p, h1, h2, h3, h6, ?_⟩
    have h8 := (k1 S p h1 h2 h6).1
    have h9 := tS_mono (C := C) (sz := sz) (cd := cd) (ov := ov) (ker := ker) (S := S) (p := p) h6 h7
    omega
  refine ⟨k1, ?_, fun S p h1 h2 h3 => ?_⟩
  · rcases g2 with ⟨S, p, h1, h2, h3, h4, h5⟩ | hx
    · refine Or.inl (use S p (D S p) h1 h2 h3 h4 h5 ?_ ?_)
      · by_cases hc : S = S1 ∧ p = q
        · obtain ⟨rfl, rfl⟩ := hc
          rw [em]; exact mn2_nz he
        · rw [show ofr D S1 q e S p = D S p from if_neg hc]; exact h4
      · by_cases hc : S = S1 ∧ p = q
        · obtain ⟨rfl, rfl⟩ := hc
          rw [em]; exact mn2_le' h4
        · rw [show ofr D S1 q e S p = D S p from if_neg hc]; exact Nat.le_refl _
    · rcases hX hx with h | ⟨h1, h2⟩
      · exact Or.inr h
      · exact Or.inl (use S1 q e hS hq h1 he h2 (by rw [em]; exact mn2_nz he) (by rw [em]; exact mn2_le he))
  · by_cases hc : S = S1 ∧ p = q
    · obtain ⟨rfl, rfl⟩ := hc
      rw [em]; exact mn2_nz he
    · rw [show ofr D S1 q e S p = D S p from if_neg hc]
      rcases hZ S p h3 with h | h
      · exact g3 S p h1 h2 h
      · exact absurd h hc
theorem jG_w {U U' : Nat → Nat → Prop} {X X' : Prop} {Z Z' : Nat → Nat → Prop} (hG : jG C sz cd ov ker F D U X Z) (hU : ∀ S p, S < 2 ^ cnt ker C → p < cnt ker C → U S p → D S p ≠ 0 → tSo C sz cd ov ker S p (D S p) = F → U' S p ∨ X') (hX : X → X' ∨ ∃ S p, S < 2 ^ cnt ker C ∧ p < cnt ker C ∧ U' S p ∧ D S p ≠ 0 ∧ tSo C sz cd ov ker S p (D S p) = F) (hZ : ∀ S p, S < 2 ^ cnt ker C → p < cnt ker C → Z' S p → Z S p ∨ D S p ≠ 0) : jG C sz cd ov ker F D U' X' Z' := by
  obtain ⟨g1, g2, g3⟩ := hG
  refine ⟨g1, ?_, fun S p h1 h2 h3 => ?_⟩
  · rcases g2 with ⟨S, p, h1, h2, h3, h4, h5⟩ | hx
    · rcases hU S p h1 h2 h3 h4 h5 with h | h
      · exact Or.inl ⟨S, p, h1, h2, h, h4, h5⟩
      · exact Or.inr h
    · rcases hX hx with h | h
      · exact Or.inr h
      · exact Or.inl h
  · rcases hZ S p h1 h2 h3 with h | h
    · exact g3 S p h1 h2 h
    · exact h
end
def bJ (n : Nat) : Int64 := Int64.ofNat n
theorem bJ_toNat {n : Nat} (h : n < 18446744073709551616) : (bJ n).toBitVec.toNat = n := by
  show (BitVec.ofNat 64 n).toNat = n
  rw [BitVec.toNat_ofNat, Nat.mod_eq_of_lt (by omega)]
theorem bJ_of {v : Int64} {n : Nat} (h : n < 18446744073709551616) (e : v.toBitVec.toNat = n) : v = bJ n := Int64.toBitVec_inj.mp (BitVec.eq_of_toNat_eq (e.trans (bJ_toNat h).symm))
theorem bJ_toInt {n : Nat} (h : n < 9223372036854775808) : (bJ n).toInt = (n : Int) := Int64.toInt_ofNat_of_lt (by omega)
theorem jJ_bJ {n : Nat} (h : n < 2147483648) : jJ n = bJ n := Int64.toInt_inj.mp ((jJ_toInt h).trans (bJ_toInt (by omega)).symm)
theorem sh_amt : ∀ m, m < 32 → ((nI (m * 2)).toInt64 &&& 63).toBitVec.smod 64 = BitVec.ofNat 64 (2 * m) := by decide +kernel
theorem pw_2 (m : Nat) : 2 ^ (2 * m) = 4 ^ m := Nat.pow_mul 2 2 m
theorem bJ_shl {c m d : Nat} (hd : d < 4 ^ m) (hm : m < 32) (h : c * 4 ^ m + d < 4611686018427387904) : bJ c <<< ((nI (m * 2)).toInt64 &&& 63) ||| bJ d = bJ (c * 4 ^ m + d) := by
  have hp : 0 < 4 ^ m := Nat.pow_pos (by omega)
  have h1 : c * 1 ≤ c * 4 ^ m := Nat.mul_le_mul_left c hp
  refine bJ_of (by omega) ?_
  rw [Int64.toBitVec_or, BitVec.toNat_or, Int64.toBitVec_shiftLeft, sh_amt m hm, BitVec.shiftLeft_eq', BitVec.toNat_shiftLeft, bJ_toNat (by omega), bJ_toNat (by omega), BitVec.toNat_ofNat, Nat.mod_eq_of_lt (show 2 * m < 2 ^ 64 by omega), Nat.shiftLeft_eq, pw_2, Nat.mod_eq_of_lt (by omega), ← pw_2, Nat.mul_comm c, ← Nat.two_pow_add_eq_or_of_lt (by rw [pw_2]; exact hd)]
theorem bJ_shr {c m : Nat} (hm : m < 32) (h : c < 4611686018427387904) : bJ c >>> ((nI (m * 2)).toInt64 &&& 63) = bJ (c / 4 ^ m) := by
  have h1 : c / 4 ^ m ≤ c := Nat.div_le_self _ _
  refine bJ_of (by omega) ?_
  have hs : (bJ c).toBitVec.msb = false := by
    rw [BitVec.msb_eq_decide, bJ_toNat (by omega)]
    exact decide_eq_false (by omega)
  rw [Int64.toBitVec_shiftRight, sh_amt m hm, BitVec.sshiftRight_eq', BitVec.sshiftRight_eq_of_msb_false hs, BitVec.toNat_ushiftRight, bJ_toNat (by omega), BitVec.toNat_ofNat, Nat.mod_eq_of_lt (show 2 * m < 2 ^ 64 by omega), Nat.shiftRight_eq_div_pow, pw_2]
theorem bJ_3 {c : Nat} (h : c < 4611686018427387904) : (bJ c).toInt32 &&& nI 3 = nI (c % 4) := by
  refine Int32.toBitVec_inj.mp (BitVec.eq_of_toNat_eq ?_)
  rw [Int32.toBitVec_and, BitVec.toNat_and]
  show (BitVec.signExtend 32 (bJ c).toBitVec).toNat &&& (BitVec.ofNat 32 3).toNat = (BitVec.ofNat 32 (c % 4)).toNat
  rw [BitVec.signExtend_eq_setWidth_of_le _ (by omega), BitVec.toNat_setWidth, bJ_toNat (by omega), BitVec.toNat_ofNat, BitVec.toNat_ofNat]
  show c % 2 ^ 32 &&& (2 ^ 2 - 1) = _
  rw [Nat.and_two_pow_sub_one_eq_mod]
  omega
