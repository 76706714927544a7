/-! ## SHORTEST: how long at most, and that each clause stands in it -/
/-- a run of len kinds (code) stands in a run of n kinds (c) -/
def Hs (c n len code : Nat) : Prop := ∃ s, s + len ≤ n ∧ c / 4 ^ s % 4 ^ len = code
theorem p4 (n : Nat) : 0 < 4 ^ n := Nat.pow_pos (by omega)
theorem app_div {c d r : Nat} (hr : r < 4 ^ d) : (c * 4 ^ d + r) / 4 ^ d = c := by
  rw [Nat.add_comm, Nat.add_mul_div_right _ _ (p4 d), Nat.div_eq_of_lt hr, Nat.zero_add]
theorem app_mod {c d r : Nat} (hr : r < 4 ^ d) : (c * 4 ^ d + r) % 4 ^ d = r := by
  rw [Nat.add_comm, Nat.add_mul_mod_self_right, Nat.mod_eq_of_lt hr]
theorem dd (c a b : Nat) : c / 4 ^ (a + b) = c / 4 ^ b / 4 ^ a := by
  rw [Nat.div_div_eq_div_mul, ← Nat.pow_add, Nat.add_comm b a]
theorem app_suf {c o d r : Nat} (hr : r < 4 ^ d) : (c * 4 ^ d + r) % 4 ^ (d + o) = r + 4 ^ d * (c % 4 ^ o) := by
  rw [Nat.pow_add, Nat.mod_mul, app_mod hr, app_div hr]
theorem sub_div {q A t B : Nat} (h : t + B ≤ A) : q % 4 ^ A / 4 ^ t % 4 ^ B = q / 4 ^ t % 4 ^ B := by
  have e : (4 : Nat) ^ A = 4 ^ t * 4 ^ (A - t) := by rw [← Nat.pow_add]; congr 1; omega
  rw [e, Nat.mod_mul_right_div_self]
  exact Nat.mod_mod_of_dvd _ (Nat.pow_dvd_pow 4 (by omega))
theorem Hs_pre {c n c' d len code : Nat} (h : Hs c n len code) (e : c' / 4 ^ d = c) : Hs c' (n + d) len code := by
  obtain ⟨s, h1, h2⟩ := h
  refine ⟨s + d, by omega, ?_⟩
  rw [dd, e, h2]
theorem ovF_mt {mt : Nat → Bool} : ∀ {n : Nat}, ovF mt n ≠ 0 → mt (ovF mt n) = true
  | 0, h => absurd rfl h
  | n + 1, h => by
    unfold ovF at h ⊢
    by_cases c : mt (n + 1) = true
    · rw [if_pos c]; exact c
    · rw [if_neg c] at h ⊢
      exact ovF_mt h
section
variable {C : Nat} {sz cd : Nat → Nat}
/-- a clause that is put on stands at the end then -/
theorem xt_suf {last : Option Nat} {k n c : Nat} (hk : cd k < 4 ^ sz k) (hl : ∀ a, last = some a → sz a ≤ n ∧ c % 4 ^ sz a = cd a) : ∃ d r, d ≤ sz k ∧ r < 4 ^ d ∧ xt sz cd (ovO sz cd) last k (4 ^ n + c) = 4 ^ (n + d) + (c * 4 ^ d + r) ∧ sz k ≤ n + d ∧ (c * 4 ^ d + r) % 4 ^ sz k = cd k := by
  have hx : xt sz cd (ovO sz cd) last k (4 ^ n + c) = (4 ^ n + c) * 4 ^ (sz k - ovO sz cd last k) + cd k % 4 ^ (sz k - ovO sz cd last k) := rfl
  refine ⟨sz k - ovO sz cd last k, cd k % 4 ^ (sz k - ovO sz cd last k), Nat.sub_le _ _, Nat.mod_lt _ (p4 _), ?_, ?_⟩
  · rw [hx, xt_e]
  · have triv : ovO sz cd last k = 0 → sz k ≤ n + (sz k - ovO sz cd last k) ∧ (c * 4 ^ (sz k - ovO sz cd last k) + cd k % 4 ^ (sz k - ovO sz cd last k)) % 4 ^ sz k = cd k := by
      intro h0
      rw [h0, Nat.sub_zero, Nat.mod_eq_of_lt hk]
      exact ⟨by omega, app_mod hk⟩
    cases last with
    | none => exact triv rfl
    | some a =>
      by_cases h0 : ovO sz cd (some a) k = 0
      · exact triv h0
      · obtain ⟨g1, g2⟩ := hl a rfl
        have ho : ovO sz cd (some a) k = ovF (mtB sz cd a k) (min (sz a) (sz k) - 1) := rfl
        have hle : ovO sz cd (some a) k ≤ min (sz a) (sz k) - 1 := by rw [ho]; exact ovF_le _ _
        have hmt : mtB sz cd a k (ovO sz cd (some a) k) = true := by
          rw [ho] at h0 ⊢
          exact ovF_mt h0
        generalize ovO sz cd (some a) k = o at *
        have hm := of_decide_eq_true hmt
        have hlo : o ≤ sz a := by omega
        have hlk : o < sz k := by omega
        refine ⟨by omega, ?_⟩
        have e1 : c % 4 ^ o = cd k / 4 ^ (sz k - o) := by
          rw [← hm, ← g2]
          exact (Nat.mod_mod_of_dvd _ (Nat.pow_dvd_pow 4 hlo)).symm
        rw [show 4 ^ sz k = 4 ^ (sz k - o + o) from by congr 1; omega, app_suf (Nat.mod_lt _ (p4 _)), e1]
        rw [Nat.add_comm]
        exact Nat.div_add_mod _ _
def szS (lf : Nat → Bool) (sz : Nat → Nat) (C : Nat) : Nat := sumN (fun k => if lf k = true then sz k else 0) C
theorem szS_rm {lf : Nat → Bool} {k : Nat} (hk : k < C) (hl : lf k = true) : szS lf sz C = szS (rmB lf k) sz C + sz k := by
  unfold szS
  refine sumN_at hk (fun i hi hne => ?_) ?_
  · have : rmB lf k i = lf i := by
      unfold rmB
      rw [decide_eq_true hne, Bool.and_true]
    rw [this]
  · have : rmB lf k k = false := by
      unfold rmB
      rw [decide_eq_false (fun h => h rfl), Bool.and_false]
    rw [if_pos hl, if_neg (by rw [this]; decide), Nat.zero_add]
theorem tO_has (hcd : ∀ k, k < C → cd k < 4 ^ sz k) : ∀ (m : Nat) (lf : Nat → Bool) (last : Option Nat) (n c : Nat), cnt lf C = m → c < 4 ^ n → (∀ a, last = some a → sz a ≤ n ∧ c % 4 ^ sz a = cd a) → ∃ d c', tO C sz cd (ovO sz cd) m lf last (4 ^ n + c) = 4 ^ (n + d) + c' ∧ c' < 4 ^ (n + d) ∧ d ≤ szS lf sz C ∧ c' / 4 ^ d = c ∧ ∀ k, k < C → lf k = true → Hs c' (n + d) (sz k) (cd k)
  | 0, lf, last, n, c, hm, hc, _ => by
    refine ⟨0, c, rfl, hc, Nat.zero_le _, by rw [Nat.pow_zero, Nat.div_one], fun k hk hl => ?_⟩
    have := cnt_pos.mpr ⟨k, hk, hl⟩
    omega
  | m + 1, lf, last, n, c, hm, hc, hl => by
    obtain ⟨k, hk, hp, he⟩ := tO_ex (sz := sz) (cd := cd) (ov := ovO sz cd) (last := last) (e := 4 ^ n + c) hm (by have := p4 n; omega)
    obtain ⟨d, r, h1, h2, h3, h4, h5⟩ := xt_suf (last := last) (n := n) (c := c) (hcd k hk) hl
    rw [he, h3]
    have hm' : cnt (rmB lf k) C = m := by have := cnt_rm (n := C) hk hp; omega
    obtain ⟨d2, c', g1, g2, g3, g4, g5⟩ := tO_has hcd m (rmB lf k) (some k) (n + d) (c * 4 ^ d + r) hm' (xt_c hc h2) (fun a ha => by
      have ha : k = a := Option.some.inj ha
      subst ha
      exact ⟨h4, h5⟩)
    have hs := szS_rm (sz := sz) hk hp
    refine ⟨d + d2, c', by rw [g1, Nat.add_assoc], by rw [← Nat.add_assoc]; exact g2, by omega, ?_, fun j hj hlj => ?_⟩
    · rw [dd, g4, app_div h2]
    · rw [← Nat.add_assoc]
      by_cases e : j = k
      · subst e
        refine Hs_pre (c := c * 4 ^ d + r) ⟨0, by omega, ?_⟩ g4
        rw [Nat.pow_zero, Nat.div_one, h5]
      · refine g5 j hj ?_
        unfold rmB
        rw [hlj, decide_eq_true e]
        rfl
/-- a clause stands in a clause -/
def SubC (sz cd : Nat → Nat) (k i : Nat) : Prop := ∃ t, t + sz k ≤ sz i ∧ cd i / 4 ^ t % 4 ^ sz k = cd k
theorem Hs_sub {c N k i : Nat} (h : Hs c N (sz i) (cd i)) (g : SubC sz cd k i) : Hs c N (sz k) (cd k) := by
  obtain ⟨s, h1, h2⟩ := h
  obtain ⟨t, g1, g2⟩ := g
  refine ⟨t + s, by omega, ?_⟩
  rw [dd, ← sub_div g1, h2, g2]
theorem SubC_tr {a b c : Nat} (h : SubC sz cd a b) (g : SubC sz cd b c) : SubC sz cd a c := by
  obtain ⟨t, h1, h2⟩ := h
  obtain ⟨u, g1, g2⟩ := g
  refine ⟨t + u, by omega, ?_⟩
  rw [dd, ← sub_div h1, g2, h2]
end
theorem ker_ex {W S : Nat} {y : De} (hP : OkD W y) : ∀ (f k : Nat), 8 * (5 - dL y k) + k < f → k < dC y → S.testBit k = true → ∃ i, i < dC y ∧ kR y S i = true ∧ SubC (dL y) (wC5 y) k i
  | 0, _, h, _, _ => absurd h (Nat.not_lt_zero _)
  | f + 1, k, hf, hk, hS => by
    have hC := hP.2.1
    have hL := hP.2.2.2.1
    by_cases hw : anyb (fun i => S.testBit i && witB (dL y) (wC5 y) k i) (dC y) = true
    · obtain ⟨j, hj, hj2⟩ := anyb_ex hw
      rw [Bool.and_eq_true] at hj2
      obtain ⟨w1, t, -, w2, w3⟩ := (witB_t (hL j hj).2.1).mp hj2.2
      have a1 := hL j hj
      have a2 := hL k hk
      obtain ⟨i, i1, i2, i3⟩ := ker_ex hP f j (by omega) hj hj2.1
      refine ⟨i, i1, i2, SubC_tr ⟨t, by omega, w3⟩ i3⟩
    · refine ⟨k, hk, ?_, 0, by omega, ?_⟩
      · unfold kR kerB
        rw [hS, decide_eq_true hk]
        cases h : anyb (fun i => S.testBit i && witB (dL y) (wC5 y) k i) (dC y) with
        | true => exact absurd h hw
        | false => rfl
      · rw [Nat.pow_zero, Nat.div_one, Nat.mod_eq_of_lt (wC5_lt hP hk).1]
theorem rn_dig {y : De} {k : Nat} : ∀ {n i : Nat}, (∀ j, j < n → dK y (5 * k + j) < 4) → i < n → rnN y k n / 4 ^ (n - 1 - i) % 4 = dK y (5 * k + i)
  | 0, _, _, h => absurd h (Nat.not_lt_zero _)
  | n + 1, i, hd, h => by
    have h1 := hd n (by omega)
    show (4 * rnN y k n + dK y (5 * k + n)) / 4 ^ (n + 1 - 1 - i) % 4 = _
    by_cases e : i = n
    · subst e
      rw [show i + 1 - 1 - i = 0 by omega, Nat.pow_zero, Nat.div_one]
      omega
    · rw [show n + 1 - 1 - i = n - 1 - i + 1 by omega, dd, Nat.pow_one, show (4 * rnN y k n + dK y (5 * k + n)) / 4 = rnN y k n by omega]
      exact rn_dig (fun j hj => hd j (by omega)) (by omega)
/-- what SHORTEST is -/
theorem short_ok {W S : Nat} {y : De} (hP : OkD W y) : lnF (shF y S) ≤ szS (fun k => S.testBit k) (dL y) (dC y) ∧ ∀ k, k < dC y → S.testBit k = true → dL y k ≤ lnF (shF y S) ∧ ∃ q, q + dL y k ≤ lnF (shF y S) ∧ ∀ i, i < dL y k → cdF (shF y S) / 4 ^ (lnF (shF y S) - 1 - (q + i)) % 4 = dK y (5 * k + i) := by
  obtain ⟨d, c', h1, h2, h3, -, h5⟩ := tO_has (C := dC y) (sz := dL y) (cd := wC5 y) (fun k hk => (wC5_lt hP hk).1) (cnt (lfH (kR y S) 0) (dC y)) (lfH (kR y S) 0) none 0 0 rfl (by decide) (fun a ha => by cases ha)
  have e0 : shF y S = 4 ^ (0 + d) + c' := h1
  rw [Nat.zero_add] at e0 h2 h5
  obtain ⟨e1, e2⟩ := lnF_e e0 h2
  rw [e1, e2]
  have hlf : ∀ i, lfH (kR y S) 0 i = kR y S i := fun i => by
    unfold lfH
    rw [Nat.zero_testBit]
    exact Bool.and_true _
  refine ⟨Nat.le_trans h3 (sumN_mono (fun k _ => ?_)), fun k hk hS => ?_⟩
  · rw [hlf k]
    by_cases hb : kR y S k = true
    · rw [if_pos hb]
      unfold kR kerB at hb
      rw [Bool.and_eq_true, Bool.and_eq_true] at hb
      rw [if_pos hb.1.1]
      exact Nat.le_refl _
    · rw [if_neg hb]
      exact Nat.zero_le _
  · obtain ⟨i, i1, i2, i3⟩ := ker_ex (S := S) hP (8 * (5 - dL y k) + k + 1) k (by omega) hk hS
    obtain ⟨s, s1, s2⟩ := Hs_sub (h5 i i1 (by rw [hlf]; exact i2)) i3
    refine ⟨by omega, d - s - dL y k, by omega, fun j hj => ?_⟩
    have hL := hP.2.2.2.1 k hk
    rw [show d - 1 - (d - s - dL y k + j) = dL y k - 1 - j + s by omega, dd]
    have := sub_div (q := c' / 4 ^ s) (A := dL y k) (t := dL y k - 1 - j) (B := 1) (by omega)
    rw [Nat.pow_one] at this
    rw [← this, s2]
    exact rn_dig (fun q hq => hP.2.2.2.2.1 k q hk hq) hj
