/-! ## the first that is lost -/
def fsF (p : Nat → Bool) : Nat → Nat → Option Nat
  | 0, _ => none
  | m + 1, j => if p j = true then some j else fsF p m (j + 1)
theorem fsF_t {p : Nat → Bool} {m j : Nat} (h : p j = true) : fsF p (m + 1) j = some j := if_pos h
theorem fsF_f {p : Nat → Bool} {m j : Nat} (h : p j = false) : fsF p (m + 1) j = fsF p m (j + 1) := if_neg (by rw [h]; decide)
theorem fsF_some {p : Nat → Bool} : ∀ (m j r : Nat), fsF p m j = some r → j ≤ r ∧ r < j + m ∧ p r = true ∧ ∀ k, j ≤ k → k < r → p k = false
  | 0, _, _, h => by cases h
  | m + 1, j, r, h => by
    cases hp : p j
    · rw [fsF_f hp] at h
      obtain ⟨a, b, c, d⟩ := fsF_some m (j + 1) r h
      refine ⟨by omega, by omega, c, fun k h1 h2 => ?_⟩
      by_cases hk : k = j
      · rw [hk]; exact hp
      · exact d k (by omega) h2
    · rw [fsF_t hp] at h
      cases h
      exact ⟨Nat.le_refl _, by omega, hp, fun k h1 h2 => by omega⟩
theorem fsF_none {p : Nat → Bool} : ∀ (m j : Nat), fsF p m j = none → ∀ k, j ≤ k → k < j + m → p k = false
  | 0, _, _ => fun k h1 h2 => by omega
  | m + 1, j, h => fun k h1 h2 => by
    cases hp : p j
    · rw [fsF_f hp] at h
      by_cases hk : k = j
      · rw [hk]; exact hp
      · exact fsF_none m (j + 1) h k (by omega) (by omega)
    · rw [fsF_t hp] at h; cases h
def lsP (x : Cl) (y : De) (z : Cl) (j : Nat) : Bool := sdAny x y j && !(sdAny z y j)
def flF (x : Cl) (y : De) : Nat → Cl → Option Nat
  | 0, _ => none
  | m + 1, z => match fsF (lsP x y (yearX z)) (dC y) 0 with
    | some j => some j
    | none => flF x y m (yearX z)
theorem flF_some {x z : Cl} {y : De} {m j : Nat} (h : fsF (lsP x y (yearX z)) (dC y) 0 = some j) : flF x y (m + 1) z = some j := by unfold flF; rw [h]
theorem flF_none {x z : Cl} {y : De} {m : Nat} (h : fsF (lsP x y (yearX z)) (dC y) 0 = none) : flF x y (m + 1) z = flF x y m (yearX z) := by
  show (match fsF (lsP x y (yearX z)) (dC y) 0 with | some j => some j | none => flF x y m (yearX z)) = _
  rw [h]
def itF : Nat → Cl → Cl
  | 0, z => z
  | n + 1, z => itF n (yearX z)
theorem itF_s : ∀ (n : Nat) (z : Cl), itF (n + 1) z = yearX (itF n z)
  | 0, _ => rfl
  | n + 1, z => itF_s n (yearX z)
theorem lostF_iff {y : De} {k : Nat} : ∀ (m t : Nat) (z : Cl) (r : Nat), lostF y k m t z = some r ↔ ∃ d, r = t + d ∧ d < m ∧ sdAny (itF d z) y k = false ∧ ∀ e, e < d → sdAny (itF e z) y k = true
  | 0, t, z, r => ⟨(fun h => by cases h), (fun ⟨d, _, h, _⟩ => by omega)⟩
  | m + 1, t, z, r => by
    show (if sdAny z y k = false then some t else lostF y k m (t + 1) (yearX z)) = some r ↔ _
    by_cases h : sdAny z y k = false
    · rw [if_pos h]
      constructor
      · intro e
        cases e
        exact ⟨0, rfl, by omega, h, fun e he => by omega⟩
      · rintro ⟨d, h1, h2, h3, h4⟩
        cases d with
        | zero => rw [h1]; rfl
        | succ d =>
          have := h4 0 (by omega)
          rw [show itF 0 z = z from rfl, h] at this
          cases this
    · rw [if_neg h, lostF_iff m (t + 1) (yearX z) r]
      constructor
      · rintro ⟨d, h1, h2, h3, h4⟩
        refine ⟨d + 1, by omega, by omega, h3, fun e he => ?_⟩
        cases e with
        | zero =>
          show sdAny z y k = true
          cases hh : sdAny z y k
          · exact absurd hh h
          · rfl
        | succ e => exact h4 e (by omega)
      · rintro ⟨d, h1, h2, h3, h4⟩
        cases d with
        | zero => exact absurd h3 h
        | succ d => exact ⟨d, by omega, by omega, h3, fun e he => h4 (e + 1) (by omega)⟩
theorem lostN_iff {x : Cl} {y : De} {k r : Nat} : lostN x y k = some r ↔ r < 100 ∧ sdAny (itF r x) y k = false ∧ ∀ e, e < r → sdAny (itF e x) y k = true := by
  unfold lostN
  rw [lostF_iff]
  constructor
  · rintro ⟨d, h1, h2, h3, h4⟩
    obtain rfl : r = d := by omega
    exact ⟨h2, h3, h4⟩
  · rintro ⟨h2, h3, h4⟩
    exact ⟨r, by omega, h2, h3, h4⟩
/-- who is lost first -/
def flSp (x : Cl) (y : De) : Option Nat → Prop
  | none => ∀ k, k < dC y → ∀ t, lostN x y k = some t → t = 0
  | some j => j < dC y ∧ ∃ t, 1 ≤ t ∧ lostN x y j = some t ∧ (∀ k, k < dC y → ∀ t', lostN x y k = some t' → 1 ≤ t' → t ≤ t') ∧ ∀ k, k < j → lostN x y k ≠ some t
theorem flSp_one {x : Cl} {y : De} {a b : Option Nat} (ha : flSp x y a) (hb : flSp x y b) : a = b := by
  cases a with
  | none =>
    cases b with
    | none => rfl
    | some j =>
      obtain ⟨h1, t, h2, h3, -⟩ := hb
      have := ha j h1 t h3
      omega
  | some i =>
    obtain ⟨h1, t, h2, h3, h4, h5⟩ := ha
    cases b with
    | none =>
      have := hb i h1 t h3
      omega
    | some j =>
      obtain ⟨g1, u, g2, g3, g4, g5⟩ := hb
      have e1 := h4 j g1 u g3 g2
      have e2 := g4 i h1 t h3 h2
      obtain rfl : t = u := by omega
      have n1 : ¬ i < j := fun h => g5 i h h3
      have n2 : ¬ j < i := fun h => h5 j h g3
      congr 1
      omega
theorem flF_sp {x : Cl} {y : De} : ∀ (m i : Nat), i + m = 99 → (∀ k, k < dC y → sdAny x y k = true → ∀ e, e ≤ i → sdAny (itF e x) y k = true) → flSp x y (flF x y m (itF i x))
  | 0, i, hi, h => fun k hk t ht => by
    obtain ⟨a, b, c⟩ := lostN_iff.mp ht
    by_cases h0 : t = 0
    · exact h0
    · have := h k hk (c 0 (by omega)) t (by omega)
      rw [b] at this
      cases this
  | m + 1, i, hi, h => by
    cases hf : fsF (lsP x y (yearX (itF i x))) (dC y) 0 with
    | some j =>
      rw [flF_some hf]
      obtain ⟨a, b, c, d⟩ := fsF_some _ _ _ hf
      unfold lsP at c d
      rw [Bool.and_eq_true] at c
      rw [← itF_s] at c d
      have hc2 : sdAny (itF (i + 1) x) y j = false := by
        have := c.2
        revert this
        cases sdAny (itF (i + 1) x) y j
        · exact fun _ => rfl
        · exact fun e => by cases e
      refine ⟨by omega, i + 1, by omega, lostN_iff.mpr ⟨by omega, hc2, fun e he => h j (by omega) c.1 e (by omega)⟩, fun k hk t' ht' h1 => ?_, fun k hk ht' => ?_⟩
      · obtain ⟨g1, g2, g3⟩ := lostN_iff.mp ht'
        by_cases hle : i + 1 ≤ t'
        · exact hle
        · have := h k hk (g3 0 (by omega)) t' (by omega)
          rw [g2] at this
          cases this
      · obtain ⟨g1, g2, g3⟩ := lostN_iff.mp ht'
        have := d k (by omega) hk
        rw [show sdAny x y k = true from g3 0 (by omega), g2] at this
        cases this
    | none =>
      rw [flF_none hf, ← itF_s]
      have d := fsF_none _ _ hf
      refine flF_sp m (i + 1) (by omega) (fun k hk hs e he => ?_)
      by_cases h1 : e ≤ i
      · exact h k hk hs e h1
      · obtain rfl : e = i + 1 := by omega
        have := d k (by omega) (by omega)
        unfold lsP at this
        rw [hs, ← itF_s, Bool.true_and] at this
        revert this
        cases sdAny (itF (i + 1) x) y k
        · exact fun e => by cases e
        · exact fun _ => rfl
theorem flF_still {x z : Cl} {y : De} (hz : yearX z = z) (h : ∀ k, k < dC y → sdAny x y k = true → sdAny z y k = true) : ∀ m, flF x y m z = none
  | 0 => rfl
  | m + 1 => by
    have hf : fsF (lsP x y (yearX z)) (dC y) 0 = none := by
      rw [hz]
      cases hf : fsF (lsP x y z) (dC y) 0 with
      | none => rfl
      | some j =>
        obtain ⟨a, b, c, d⟩ := fsF_some _ _ _ hf
        unfold lsP at c
        rw [Bool.and_eq_true] at c
        rw [h j (by omega) c.1] at c
        cases c.2
    rw [flF_none hf, hz]
    exact flF_still hz h m
/-- the reference's search -/
def amS (x : Cl) (y : De) (k : Nat) (b : Option (Nat × Nat)) : Option (Nat × Nat) := match lostN x y k with
  | some (r + 1) => (match b with
    | none => some (k, r + 1)
    | some c => if r + 1 < c.2 then some (k, r + 1) else some c)
  | _ => b
def amF (x : Cl) (y : De) : Nat → Nat → Option (Nat × Nat) → Option (Nat × Nat)
  | 0, _, b => b
  | m + 1, k, b => amF x y m (k + 1) (amS x y k b)
def amI (x : Cl) (y : De) (k : Nat) : Option (Nat × Nat) → Prop
  | none => ∀ k', k' < k → ∀ t, lostN x y k' = some t → t = 0
  | some c => c.1 < k ∧ 1 ≤ c.2 ∧ lostN x y c.1 = some c.2 ∧ (∀ k', k' < k → ∀ t', lostN x y k' = some t' → 1 ≤ t' → c.2 ≤ t') ∧ ∀ k', k' < c.1 → lostN x y k' ≠ some c.2
theorem amS_0 {x : Cl} {y : De} {k : Nat} {b : Option (Nat × Nat)} (h : ∀ r, lostN x y k ≠ some (r + 1)) : amS x y k b = b := by
  unfold amS
  split
  · rename_i r e
    exact absurd e (h r)
  · rfl
theorem amS_n {x : Cl} {y : De} {k r : Nat} (h : lostN x y k = some (r + 1)) : amS x y k none = some (k, r + 1) := by unfold amS; rw [h]
theorem amS_s {x : Cl} {y : De} {k r : Nat} {c : Nat × Nat} (h : lostN x y k = some (r + 1)) : amS x y k (some c) = if r + 1 < c.2 then some (k, r + 1) else some c := by unfold amS; rw [h]
theorem amS_ok {x : Cl} {y : De} {k : Nat} {b : Option (Nat × Nat)} (h : amI x y k b) : amI x y (k + 1) (amS x y k b) := by
  by_cases hl : ∃ r, lostN x y k = some (r + 1)
  · obtain ⟨r, hr⟩ := hl
    cases b with
    | none =>
      rw [amS_n hr]
      refine ⟨Nat.lt_succ_self _, by show 1 ≤ r + 1; omega, hr, fun k' hk' t' ht' h1 => ?_, fun k' hk' e => ?_⟩
      · by_cases hkk : k' = k
        · rw [hkk, hr] at ht'
          cases ht'
          exact Nat.le_refl _
        · have := h k' (by omega) t' ht'
          omega
      · have hk' : k' < k := hk'
        have := h k' hk' _ e
        have : r + 1 = 0 := this
        omega
    | some c =>
      obtain ⟨h1, h2, h3, h4, h5⟩ := h
      rw [amS_s hr]
      by_cases hlt : r + 1 < c.2
      · rw [if_pos hlt]
        refine ⟨Nat.lt_succ_self _, by show 1 ≤ r + 1; omega, hr, fun k' hk' t' ht' g1 => ?_, fun k' hk' e => ?_⟩
        · show r + 1 ≤ t'
          by_cases hkk : k' = k
          · rw [hkk, hr] at ht'
            cases ht'
            exact Nat.le_refl _
          · have := h4 k' (by omega) t' ht' g1
            omega
        · have hk' : k' < k := hk'
          have := h4 k' hk' _ e (by show 1 ≤ r + 1; omega)
          have : c.2 ≤ r + 1 := this
          omega
      · rw [if_neg hlt]
        refine ⟨by omega, h2, h3, fun k' hk' t' ht' g1 => ?_, h5⟩
        by_cases hkk : k' = k
        · rw [hkk, hr] at ht'
          cases ht'
          omega
        · exact h4 k' (by omega) t' ht' g1
  · have hl0 : ∀ r, lostN x y k ≠ some (r + 1) := fun r e => hl ⟨r, e⟩
    rw [amS_0 hl0]
    have hk0 : ∀ t, lostN x y k = some t → t = 0 := fun t ht => by
      cases t with
      | zero => rfl
      | succ t => exact absurd ht (hl0 t)
    cases b with
    | none =>
      intro k' hk' t ht
      by_cases hkk : k' = k
      · rw [hkk] at ht; exact hk0 t ht
      · exact h k' (by omega) t ht
    | some c =>
      obtain ⟨h1, h2, h3, h4, h5⟩ := h
      refine ⟨by omega, h2, h3, fun k' hk' t' ht' g1 => ?_, h5⟩
      by_cases hkk : k' = k
      · rw [hkk] at ht'
        have := hk0 t' ht'
        omega
      · exact h4 k' (by omega) t' ht' g1
theorem amF_ok {x : Cl} {y : De} : ∀ (m k : Nat) (b : Option (Nat × Nat)), amI x y k b → amI x y (k + m) (amF x y m k b)
  | 0, _, _, h => h
  | m + 1, k, b, h => by
    have := amF_ok m (k + 1) _ (amS_ok h)
    rw [show k + 1 + m = k + (m + 1) from by omega] at this
    exact this
theorem am_fl {x : Cl} {y : De} : (amF x y (dC y) 0 none).map (·.1) = flF x y 99 x := by
  refine flSp_one (x := x) (y := y) ?_ (flF_sp 99 0 (by omega) (fun k hk hs e he => by
    obtain rfl : e = 0 := by omega
    exact hs))
  have h := amF_ok (x := x) (y := y) (dC y) 0 none (fun k' hk' => by omega)
  rw [Nat.zero_add] at h
  cases hb : amF x y (dC y) 0 none with
  | none => rw [hb] at h; exact h
  | some c =>
    rw [hb] at h
    obtain ⟨h1, h2, h3, h4, h5⟩ := h
    exact ⟨h1, c.2, h2, h3, h4, h5⟩
section
variable {M M' : kx_M} {σ : Sg} {x : Cl} {y : De}
theorem bt_m1 : ∀ i, i < 32 → bt (-nI 1) i = true := by decide +kernel
theorem q_first_l62 {K : Nat → Int32 → Int32 → kx_M → Option (Int32 × kx_M)} {W s t S i : Nat} {c : Nat} {V : Int32} (hK : KN M s t) (hP : OkD W y) (hD : CD M (s + 1) y) {p : Nat → Bool} (hV : ∀ j, j < dC y → bt V j = p j) : ∀ (m n j : Nat), j + m = dC y → m < n → f_KT_firstLost_l62 K n c (nI S) (nI i) V (nI j) M = match fsF p m j with | some r => some (nI r, M) | none => K c (nI S) (nI (i + 1)) M := by
  have w2 := hP.2.1
  have e2 := hD.2.1
  intro m
  induction m with
  | zero =>
    intro n j hj hn
    obtain ⟨n, rfl, hn⟩ := z_succ hn
    obtain rfl : j = dC y := by omega
    rw [f_KT_firstLost_l62]
    simp (disch := first | assumption | omega) only [z_bdn, z_caln, z_gdn, z_iT, z_iF, z_le_t, z_le_f, z_lt_t, z_lt_f, z_cl, z_inb, z_at, z_pl, z_lit, nI_ii1, nI_add, z_mr, z_ref0, z_refn, z_eq_f, Bool.not_true, Bool.not_false, b2i_t, b2i_f, hK.1, hK.s1, e2]
    rfl
  | succ m ih =>
    intro n j hj hn
    obtain ⟨n, rfl, hn⟩ := z_succ hn
    have h1 := ih n (j + 1) (by omega) (by omega)
    have hb := hV j (by omega)
    rw [f_KT_firstLost_l62]
    cases hp : p j
    · rw [hp] at hb
      rw [fsF_f hp]
      simp (disch := first | assumption | omega) only [z_bdn, z_caln, z_gdn, z_iT, z_iF, z_le_t, z_le_f, z_lt_t, z_lt_f, z_cl, z_inb, z_at, z_pl, z_lit, nI_ii1, nI_add, z_mr, z_ref0, z_refn, z_eq_f, Bool.not_true, Bool.not_false, b2i_t, b2i_f, hK.1, hK.s1, e2, z_inSet (show j < 32 by omega), hb]
      exact h1
    · rw [hp] at hb
      rw [fsF_t hp]
      simp (disch := first | assumption | omega) only [z_bdn, z_caln, z_gdn, z_iT, z_iF, z_le_t, z_le_f, z_lt_t, z_lt_f, z_cl, z_inb, z_at, z_pl, z_lit, nI_ii1, nI_add, z_mr, z_ref0, z_refn, z_eq_f, Bool.not_true, Bool.not_false, b2i_t, b2i_f, hK.1, hK.s1, e2, z_inSet (show j < 32 by omega), hb]
theorem q_first_l24 {s t : Nat} (hP : OkD (cW x) y) : ∀ (m n i : Nat) (z : Cl) (M : kx_M), i + m = 100 → m < n → OkC z → z.1 = x.1 → KN M s t → CC M (t + 9) z → CD M (s + 1) y → (∀ k, k < dC y → sdAny x y k = true → sdAny z y k = true) → ∃ M', f_KT_firstLost_l24 n (t + 9) (nI (sdSet x y)) (nI i) M = (match flF x y m z with | some j => some (nI j, M') | none => some (-nI 1, sI M' 0 13 (nI 8))) ∧ Fr (inC (t + 9)) M M' := by
  have w2 := hP.2.1
  intro m
  induction m with
  | zero =>
    intro n i z M hi hn hO hz hK hC hD hS
    obtain ⟨n, rfl, hn⟩ := z_succ hn
    obtain rfl : i = 100 := by omega
    refine ⟨M, ?_, Fr.rf⟩
    rw [f_KT_firstLost_l24]
    simp (disch := first | assumption | omega) only [z_bdn, z_caln, z_gdn, z_iT, z_iF, z_le_t, z_le_f, z_lt_t, z_lt_f, z_cl, z_inb, z_at, z_pl, z_lit, nI_ii1, nI_add, z_mr, z_ref0, z_refn, z_eq_f, Bool.not_true, Bool.not_false, b2i_t, b2i_f]
    rfl
  | succ m ih =>
    intro n i z M hi hn hO hz hK hC hD hS
    obtain ⟨n, rfl, hn⟩ := z_succ hn
    have ea := q_anyLs hO hC
    obtain ⟨ta, t0, tc⟩ := trial_ap hK
    rw [f_KT_firstLost_l24]
    cases ha : anyLs z
    · rw [ha] at ea
      rw [flF_still (year_still hO ha).1 hS]
      refine ⟨M, ?_, Fr.rf⟩
      simp (disch := first | assumption | omega) only [z_bdn, z_caln, z_gdn, z_iT, z_iF, z_le_t, z_le_f, z_lt_t, z_lt_f, z_cl, z_inb, z_at, z_pl, z_lit, nI_ii1, nI_add, z_mr, z_ref0, z_refn, z_eq_f, Bool.not_true, Bool.not_false, b2i_t, b2i_f, ea]
    · rw [ha] at ea
      obtain ⟨M1, a1, a2, a3⟩ := q_year hO hC
      have hK1 := hK.fr a3 t0
      have hD1 := CD_fr a3 (fun id h1 h2 => ta id (by omega) (by omega)) hD
      have hO1 := OkC_year hO
      have hz1 : (yearX z).1 = x.1 := hz
      have hP1 : OkD (cW (yearX z)) y := by
        rw [show cW (yearX z) = cW x from by unfold cW; rw [hz1]]
        exact hP
      have es := q_saidSet hO1 a2 hP1 hD1
      have hl := q_first_l62 (K := f_KT_firstLost_l24 n) (c := t + 9) (S := sdSet x y) (i := i) (V := nI (sdSet x y) &&& (nI (sdSet (yearX z) y) ^^^ -nI 1)) hK1 hP1 hD1 (p := lsP x y (yearX z)) (fun j hj => by
        rw [b_and, b_xor, bt_nI _ _ (by omega), bt_nI _ _ (by omega), bt_m1 _ (by omega)]
        unfold sdSet lsP
        rw [setN_bit, setN_bit, decide_eq_true hj, Bool.true_and, Bool.true_and, Bool.xor_true]) (dC y) FU 0 (by omega) (FU_lt (by omega))
      cases hf : fsF (lsP x y (yearX z)) (dC y) 0 with
      | some j =>
        rw [hf] at hl
        rw [flF_some hf]
        refine ⟨M1, ?_, a3⟩
        simp (disch := first | assumption | omega) only [z_bdn, z_caln, z_gdn, z_iT, z_iF, z_le_t, z_le_f, z_lt_t, z_lt_f, z_cl, z_inb, z_at, z_pl, z_lit, nI_ii1, nI_add, z_mr, z_ref0, z_refn, z_eq_f, Bool.not_true, Bool.not_false, b2i_t, b2i_f, ea, a1, hK1.1, hK.s1, es]
        exact hl
      | none =>
        rw [hf] at hl
        rw [flF_none hf]
        have d := fsF_none _ _ hf
        obtain ⟨M', g1, g2⟩ := ih n (i + 1) (yearX z) M1 (by omega) (by omega) hO1 hz1 hK1 a2 hD1 (fun k hk hs => by
          have := d k (by omega) (by omega)
          unfold lsP at this
          rw [hs, Bool.true_and] at this
          revert this
          cases sdAny (yearX z) y k
          · exact (fun e => by cases e)
          · exact (fun _ => rfl))
        refine ⟨M', ?_, a3.tr g2⟩
        simp (disch := first | assumption | omega) only [z_bdn, z_caln, z_gdn, z_iT, z_iF, z_le_t, z_le_f, z_lt_t, z_lt_f, z_cl, z_inb, z_at, z_pl, z_lit, nI_ii1, nI_add, z_mr, z_ref0, z_refn, z_eq_f, Bool.not_true, Bool.not_false, b2i_t, b2i_f, ea, a1, hK1.1, hK.s1, es]
        exact hl.trans g1
def o_firstLost (σ : Sg) : Int32 × Sg := match flF (gX σ) (gY σ) 99 (gX σ) with
  | some j => (nI j, wS σ (nI 0))
  | none => (-nI 1, wS σ (nI 8))
theorem pC_firstLost : PC f_KT_firstLost o_firstLost := by
  intro M σ h
  have h1 := IC_st (nI 0) h
  obtain ⟨s, t, hK, hO, hC, hP, hD⟩ := IC_get h1
  obtain ⟨M1, a1, a2, a3⟩ := q_tried hK hO hC
  obtain ⟨ta, t0, tc⟩ := trial_ap hK
  have hK1 := hK.fr a3 t0
  have hD1 := CD_fr a3 (fun id h1 h2 => ta id (by omega) (by omega)) hD
  have es := q_saidSet hO a2 hP hD1
  obtain ⟨M', b1, b2⟩ := q_first_l24 hP 99 FU 1 (gX σ) M1 (by omega) (FU_lt (by omega)) hO rfl hK1 a2 hD1 (fun k _ hs => hs)
  rw [f_KT_firstLost]
  unfold o_firstLost
  cases hf : flF (gX σ) (gY σ) 99 (gX σ) with
  | some j =>
    rw [hf] at b1
    refine ⟨M', ?_, IC_trial h1 hK (a3.tr b2), Hi_st.tr (hi_inT hK (a3.tr b2))⟩
    simp (disch := first | assumption | omega) only [z_bdn, z_caln, z_gdn, z_iT, z_iF, z_le_t, z_le_f, z_lt_t, z_lt_f, z_cl, z_inb, z_at, z_pl, z_lit, nI_ii1, nI_add, z_mr, z_ref0, z_refn, z_eq_f, Bool.not_true, Bool.not_false, b2i_t, b2i_f, a1, tc, hK1.1, hK.s1, es]
    exact b1
  | none =>
    rw [hf] at b1
    refine ⟨_, ?_, IC_r (nI 8) (IC_trial h1 hK (a3.tr b2)), (Hi_st.tr (hi_inT hK (a3.tr b2))).tr Hi_st⟩
    simp (disch := first | assumption | omega) only [z_bdn, z_caln, z_gdn, z_iT, z_iF, z_le_t, z_le_f, z_lt_t, z_lt_f, z_cl, z_inb, z_at, z_pl, z_lit, nI_ii1, nI_add, z_mr, z_ref0, z_refn, z_eq_f, Bool.not_true, Bool.not_false, b2i_t, b2i_f, a1, tc, hK1.1, hK.s1, es]
    exact b1
def aI (b : Option (Nat × Nat)) : Int32 := match b with
  | none => -nI 1
  | some c => nI c.1
def aY (b : Option (Nat × Nat)) : Int32 := match b with
  | none => nI 0
  | some c => nI c.2
theorem q_Mfirst {u : Int32} : ∀ (m n k : Nat) (b : Option (Nat × Nat)) (M : kx_M), k + m = dC (gY σ) → m < n → amI (gX σ) (gY σ) k b → IM M (wS σ u) → ∃ M', f_RM_firstLost_l16 n (aI b) (aY b) (nI k) M = (match amF (gX σ) (gY σ) m k b with | some c => some (nI c.1, M') | none => some (-nI 1, sI M' 135 0 (nI 8))) ∧ FrA M M' := by
  intro m
  induction m with
  | zero =>
    intro n k b M hk hn hb hI
    obtain ⟨n, rfl, hn⟩ := z_succ hn
    obtain ⟨hO, hC, hP, hD⟩ := IM_get hI
    have w2 := hP.2.1
    have e2 := hD.2.1
    obtain rfl : k = dC (gY σ) := by omega
    refine ⟨M, ?_, FrA.rf⟩
    rw [f_RM_firstLost_l16]
    show _ = (match b with | some c => some (nI c.1, M) | none => some (-nI 1, sI M 135 0 (nI 8)))
    cases b with
    | none => simp (disch := first | assumption | omega) only [z_bdn, z_caln, z_gdn, z_iT, z_iF, z_le_t, z_le_f, z_lt_t, z_lt_f, z_cl, z_inb, z_at, z_pl, z_lit, nI_ii1, nI_add, nI_mul, z_eq_f, z_refuse, z_no, z_M00, b2i_t, b2i_f, e2, aI, z_neg]
    | some c =>
      have hc := hb.1
      simp (disch := first | assumption | omega) only [z_bdn, z_caln, z_gdn, z_iT, z_iF, z_le_t, z_le_f, z_lt_t, z_lt_f, z_cl, z_inb, z_at, z_pl, z_lit, nI_ii1, nI_add, nI_mul, z_eq_f, z_refuse, z_no, z_M00, b2i_t, b2i_f, e2, aI]
  | succ m ih =>
    intro n k b M hk hn hb hI
    obtain ⟨n, rfl, hn⟩ := z_succ hn
    obtain ⟨hO, hC, hP, hD⟩ := IM_get hI
    have w2 := hP.2.1
    have e2 := hD.2.1
    obtain ⟨M1, a1, a2⟩ := q_losing hO hI.1.1.2.1 hC hP hD (show k < dC (gY σ) by omega)
    have hb1 := amS_ok hb
    obtain ⟨M', g1, g2⟩ := ih n (k + 1) (amS (gX σ) (gY σ) k b) M1 (by omega) (by omega) hb1 (IM_A a2 hI)
    refine ⟨M', ?_, a2.tr g2⟩
    rw [f_RM_firstLost_l16]
    show _ = (match amF (gX σ) (gY σ) m (k + 1) (amS (gX σ) (gY σ) k b) with | some c => some (nI c.1, M') | none => some (-nI 1, sI M' 135 0 (nI 8)))
    rw [← g1]
    cases hl : lostN (gX σ) (gY σ) k with
    | none =>
      rw [hl] at a1
      have a1 : f_RM_losing (nI k) M = some (-nI 1, M1) := a1
      rw [amS_0 (fun r e => by rw [hl] at e; cases e)]
      have hle : -nI 1 ≤ nI 0 := by decide
      simp (disch := first | assumption | omega) only [z_bdn, z_caln, z_gdn, z_iT, z_iF, z_le_t, z_le_f, z_lt_t, z_lt_f, z_cl, z_inb, z_at, z_pl, z_lit, nI_ii1, nI_add, nI_mul, z_eq_f, z_refuse, z_no, z_M00, b2i_t, b2i_f, e2, a1, hle]
    | some r =>
      rw [hl] at a1
      have a1 : f_RM_losing (nI k) M = some (nI r, M1) := a1
      have hr := (lostN_iff.mp hl).1
      cases r with
      | zero =>
        rw [amS_0 (fun r e => by rw [hl] at e; cases e)]
        simp (disch := first | assumption | omega) only [z_bdn, z_caln, z_gdn, z_iT, z_iF, z_le_t, z_le_f, z_lt_t, z_lt_f, z_cl, z_inb, z_at, z_pl, z_lit, nI_ii1, nI_add, nI_mul, z_eq_f, z_refuse, z_no, z_M00, b2i_t, b2i_f, e2, a1]
      | succ r =>
        cases b with
        | none =>
          rw [amS_n hl]
          simp (disch := first | assumption | omega) only [z_bdn, z_caln, z_gdn, z_iT, z_iF, z_le_t, z_le_f, z_lt_t, z_lt_f, z_cl, z_inb, z_at, z_pl, z_lit, nI_ii1, nI_add, nI_mul, z_eq_f, z_refuse, z_no, z_M00, b2i_t, b2i_f, e2, a1, aI, aY, z_neg1]
        | some c =>
          have hc := hb.1
          have hc2 := (lostN_iff.mp hb.2.2.1).1
          rw [amS_s hl]
          by_cases hlt : r + 1 < c.2
          · rw [if_pos hlt]
            simp (disch := first | assumption | omega) only [z_bdn, z_caln, z_gdn, z_iT, z_iF, z_le_t, z_le_f, z_lt_t, z_lt_f, z_cl, z_inb, z_at, z_pl, z_lit, nI_ii1, nI_add, nI_mul, z_eq_f, z_refuse, z_no, z_M00, b2i_t, b2i_f, e2, a1, aI, aY, nI_pos0]
          · rw [if_neg hlt]
            simp (disch := first | assumption | omega) only [z_bdn, z_caln, z_gdn, z_iT, z_iF, z_le_t, z_le_f, z_lt_t, z_lt_f, z_cl, z_inb, z_at, z_pl, z_lit, nI_ii1, nI_add, nI_mul, z_eq_f, z_refuse, z_no, z_M00, b2i_t, b2i_f, e2, a1, aI, aY, nI_pos0]
theorem pM_firstLost : PM f_RM_firstLost o_firstLost := by
  intro M σ h
  have h0 := IM_00 h
  have w2 : dC (gY σ) ≤ 6 := h.1.1.2.2.1.2.1
  obtain ⟨M', b1, b2⟩ := q_Mfirst (dC (gY σ)) FU 0 none (M00 M) (by omega) (FU_lt (by omega)) (fun k' hk' => by omega) h0
  have hI := IM_A b2 h0
  have hl : Lo M M' := Lo_00.tr (b2.1.mono (fun id e => by show 135 ≤ id; omega))
  rw [f_RM_firstLost]
  unfold o_firstLost
  rw [← am_fl]
  cases hf : amF (gX σ) (gY σ) (dC (gY σ)) 0 none with
  | some c =>
    rw [hf] at b1
    refine ⟨M', ?_, hI, hl⟩
    simp (disch := first | assumption | omega) only [z_bdn, z_caln, z_gdn, z_iT, z_iF, z_le_t, z_le_f, z_lt_t, z_lt_f, z_cl, z_inb, z_at, z_pl, z_lit, nI_ii1, nI_add, nI_mul, z_eq_f, z_refuse, z_no, z_M00, b2i_t, b2i_f]
    exact b1
  | none =>
    rw [hf] at b1
    refine ⟨_, ?_, IM_r (nI 8) hI, hl.tr Lo_st⟩
    simp (disch := first | assumption | omega) only [z_bdn, z_caln, z_gdn, z_iT, z_iF, z_le_t, z_le_f, z_lt_t, z_lt_f, z_cl, z_inb, z_at, z_pl, z_lit, nI_ii1, nI_add, nI_mul, z_eq_f, z_refuse, z_no, z_M00, b2i_t, b2i_f]
    exact b1
end
