theorem pw_mono {a b : Nat} (h : a ≤ b) : 4 ^ a ≤ 4 ^ b := Nat.pow_le_pow_right (by omega) h
theorem z_itt {α : Type} (a b : α) : (if true = true then a else b) = a := if_pos rfl
theorem z_itf {α : Type} (a b : α) : (if false = true then a else b) = b := if_neg (by decide)
theorem pw_30 : (4 : Nat) ^ 30 = 1152921504606846976 := by decide
theorem pw_31 : (4 : Nat) ^ 31 = 4611686018427387904 := by decide
theorem e4_lt {L L0 c c0 : Nat} (hc : c < 4 ^ L) (h : L < L0) : 4 ^ L + c < 4 ^ L0 + c0 := by
  have h1 := pw_mono (show L + 1 ≤ L0 by omega)
  rw [Nat.pow_succ] at h1
  omega
theorem full_q : ∀ n, n ≤ 6 → ∀ S, S < 2 ^ n → S ≠ 2 ^ n - 1 → ∃ q, q < n ∧ S.testBit q = false := by decide +kernel
theorem some_q : ∀ n, n ≤ 6 → ∀ S, S < 2 ^ n → S ≠ 0 → ∃ q, q < n ∧ S.testBit q = true := by decide +kernel
theorem min_q : ∀ S, S < 64 → ∀ l, l < 6 → S.testBit l = true → S = 2 ^ l ∨ (S - 2 ^ l ≠ 0 ∧ S - 2 ^ l < S ∧ (S - 2 ^ l).testBit l = false ∧ S = (S - 2 ^ l) ||| 2 ^ l) := by decide +kernel
theorem full_b : ∀ n, n ≤ 6 → ∀ q, q < n → (2 ^ n - 1).testBit q = true := by decide +kernel
theorem pw_64 {n S : Nat} (hn : n ≤ 6) (hS : S < 2 ^ n) : S < 64 := Nat.lt_of_lt_of_le hS (show 2 ^ n ≤ 2 ^ 6 from Nat.pow_le_pow_right (by omega) hn)
def JD (M : kx_M) (n : Nat) (D : Nat → Nat → Nat) : Prop := ∀ S p, S < 2 ^ n → p < n → (D S p = 0 ∧ mA M 21 (6 * S + p) = nI 0) ∨ ∃ L c, D S p = 4 ^ L + c ∧ c < 4 ^ L ∧ 1 ≤ L ∧ L ≤ 30 ∧ mA M 21 (6 * S + p) = nI L ∧ mB M 22 (6 * S + p) = bJ c
section
variable {M M' : kx_M} {σ : Sg} {y : De}
theorem q_offer {n S1 q L c : Nat} {D : Nat → Nat → Nat} (hn : n ≤ 6) (hS : S1 < 2 ^ n) (hq : q < n) (hJ : JD M n D) (h1 : 1 ≤ L) (h30 : L ≤ 30) (hc : c < 4 ^ L) : ∃ M', f_Joiner_offer (nI S1) (nI q) (nI L) (bJ c) M = some ((), M') ∧ JD M' n (ofr D S1 q (4 ^ L + c)) ∧ Fr (fun id => id = 21 ∨ id = 22) M M' := by
  have h64 := pw_64 hn hS
  have hb := pw_mono h30
  rw [pw_30] at hb
  have hw : mn2 (D S1 q) (4 ^ L + c) = 4 ^ L + c → JD (sB (sA M 21 (upd (mA M 21) (6 * S1 + q) (nI L))) 22 (vp_updL (mB M 22) (6 * S1 + q) (bJ c))) n (ofr D S1 q (4 ^ L + c)) := by
    intro he S p hS hp
    by_cases hh : S = S1 ∧ p = q
    · obtain ⟨rfl, rfl⟩ := hh
      refine Or.inr ⟨L, c, ?_, hc, h1, h30, ?_, ?_⟩
      · unfold ofr; rw [if_pos ⟨rfl, rfl⟩, he]
      · show upd (mA M 21) (6 * S + p) (nI L) (6 * S + p) = _
        rw [upd_at, if_pos rfl]
      · show (if 6 * S + p = 6 * S + p then bJ c else mB M 22 (6 * S + p)) = _
        rw [if_pos rfl]
    · have hne : 6 * S + p ≠ 6 * S1 + q := by omega
      have e1 : ofr D S1 q (4 ^ L + c) S p = D S p := if_neg hh
      have e2 : mA (sB (sA M 21 (upd (mA M 21) (6 * S1 + q) (nI L))) 22 (vp_updL (mB M 22) (6 * S1 + q) (bJ c))) 21 (6 * S + p) = mA M 21 (6 * S + p) := by
        show upd (mA M 21) (6 * S1 + q) (nI L) (6 * S + p) = _
        rw [upd_at, if_neg hne]
      have e3 : mB (sB (sA M 21 (upd (mA M 21) (6 * S1 + q) (nI L))) 22 (vp_updL (mB M 22) (6 * S1 + q) (bJ c))) 22 (6 * S + p) = mB M 22 (6 * S + p) := by
        show (if 6 * S + p = 6 * S1 + q then bJ c else mB M 22 (6 * S + p)) = _
        rw [if_neg hne]
      rw [e1, e2, e3]
      exact hJ S p hS hp
  have hk : mn2 (D S1 q) (4 ^ L + c) = D S1 q → JD M n (ofr D S1 q (4 ^ L + c)) := by
    intro he S p hS hp
    have e1 : ofr D S1 q (4 ^ L + c) S p = D S p := by
      unfold ofr
      by_cases hh : S = S1 ∧ p = q
      · rw [if_pos hh, he, hh.1, hh.2]
      · rw [if_neg hh]
    rw [e1]
    exact hJ S p hS hp
  have hF : Fr (fun id => id = 21 ∨ id = 22) M (sB (sA M 21 (upd (mA M 21) (6 * S1 + q) (nI L))) 22 (vp_updL (mB M 22) (6 * S1 + q) (bJ c))) := Fr.tr (Fr.sA (Or.inl rfl)) (Fr.sB (Or.inr rfl))
  have e53 : f_Joiner_offer_l53 (nI S1) (nI q) (nI L) (bJ c) (nI (6 * S1 + q)) M = some ((), sB (sA M 21 (upd (mA M 21) (6 * S1 + q) (nI L))) 22 (vp_updL (mB M 22) (6 * S1 + q) (bJ c))) := by
    have eB2 : ∀ A, mB (sA M 21 A) 22 = mB M 22 := fun _ => rfl
    rw [f_Joiner_offer_l53]
    simp (disch := first | assumption | omega) only [z_bdn, z_caln, z_gdn, z_iT, z_iF, z_le_t, z_le_f, z_lt_t, z_lt_f, z_cl, z_inb, z_at, z_lit, nI_ii1, nI_add, z_mr, z_ref0, z_refn, z_eq_f, Bool.not_true, Bool.not_false, b2i_t, b2i_f, eB2]
  rw [f_Joiner_offer]
  rcases hJ S1 q hS hq with ⟨d1, d2⟩ | ⟨L0, c0, d1, d2, d3, d4, d5, d6⟩
  · refine ⟨_, ?_, hw (by rw [d1]; rfl), hF⟩
    simp (disch := first | assumption | omega) only [z_bdn, z_caln, z_gdn, z_iT, z_iF, z_le_t, z_le_f, z_lt_t, z_lt_f, z_cl, z_inb, z_at, z_lit, nI_ii1, nI_add, z_mr, z_ref0, z_refn, z_eq_f, Bool.not_true, Bool.not_false, b2i_t, b2i_f, d2, e53]
  · have hb0 := pw_mono d4
    rw [pw_30] at hb0
    have hp0 : 0 < 4 ^ L0 := Nat.pow_pos (by omega)
    have hp : 0 < 4 ^ L := Nat.pow_pos (by omega)
    have em : mn2 (D S1 q) (4 ^ L + c) = if 4 ^ L + c < 4 ^ L0 + c0 then 4 ^ L + c else D S1 q := by
      unfold mn2
      rw [d1, if_neg (by omega), if_neg (by omega)]
    rcases Nat.lt_trichotomy L L0 with hl | hl | hl
    · refine ⟨_, ?_, hw (em.trans (if_pos (e4_lt hc hl))), hF⟩
      simp (disch := first | assumption | omega) only [z_bdn, z_caln, z_gdn, z_iT, z_iF, z_le_t, z_le_f, z_lt_t, z_lt_f, z_cl, z_inb, z_at, z_lit, nI_ii1, nI_add, z_mr, z_ref0, z_refn, z_eq_f, Bool.not_true, Bool.not_false, b2i_t, b2i_f, d5, e53]
    · subst hl
      by_cases hcc : c0 ≤ c
      · refine ⟨M, ?_, hk (em.trans (if_neg (by omega))), Fr.rf⟩
        have e5 : (bJ c0 ≤ bJ c) = True := (bJ_le (by omega) (by omega)).trans (eq_true hcc)
        simp (disch := first | assumption | omega) only [z_bdn, z_caln, z_gdn, z_iT, z_iF, z_le_t, z_le_f, z_lt_t, z_lt_f, z_cl, z_inb, z_at, z_lit, nI_ii1, nI_add, z_mr, z_ref0, z_refn, z_eq_f, Bool.not_true, Bool.not_false, b2i_t, b2i_f, d5, d6, z_cge, e5, eq_self]
      · refine ⟨_, ?_, hw (em.trans (if_pos (by omega))), hF⟩
        have e5 : (bJ c0 ≤ bJ c) = False := (bJ_le (by omega) (by omega)).trans (eq_false hcc)
        simp (disch := first | assumption | omega) only [z_bdn, z_caln, z_gdn, z_iT, z_iF, z_le_t, z_le_f, z_lt_t, z_lt_f, z_cl, z_inb, z_at, z_lit, nI_ii1, nI_add, z_mr, z_ref0, z_refn, z_eq_f, Bool.not_true, Bool.not_false, b2i_t, b2i_f, d5, d6, z_cge, e5, eq_self, e53]
    · refine ⟨M, ?_, hk (em.trans (if_neg (by have := e4_lt (c0 := c) d2 hl; omega))), Fr.rf⟩
      simp (disch := first | assumption | omega) only [z_bdn, z_caln, z_gdn, z_iT, z_iF, z_le_t, z_le_f, z_lt_t, z_lt_f, z_cl, z_inb, z_at, z_lit, nI_ii1, nI_add, z_mr, z_ref0, z_refn, z_eq_f, Bool.not_true, Bool.not_false, b2i_t, b2i_f, d5]
theorem JR_at {W S q : Nat} (hJ : JR M y S (dC y)) (hq : q < cnt (kR y S) (dC y)) : gPl (kR y S) q (dC y) < dC y ∧ kR y S (gPl (kR y S) q (dC y)) = true ∧ mA M 19 q = nI (dL y (gPl (kR y S) q (dC y))) ∧ mB M 20 q = jJ (wC5 y (gPl (kR y S) q (dC y))) := by
  obtain ⟨h1, h2, h3⟩ := gP_ok hq
  have h4 := hJ.2 _ h1 h2
  rw [h3] at h4
  exact ⟨h1, h2, h4.1, h4.2⟩
theorem q_overlap {W S l q : Nat} (hP : OkD W y) (hJ : JR M y S (dC y)) (hl : l < cnt (kR y S) (dC y)) (hq : q < cnt (kR y S) (dC y)) : f_Joiner_overlap (nI l) (nI q) M = some (nI (ovC (dL y) (wC5 y) (gPl (kR y S) l (dC y)) (gPl (kR y S) q (dC y))), M) := by
  have w2 := hP.2.1
  have hn := cnt_le (kR y S) (dC y)
  obtain ⟨a1, -, a3, a4⟩ := JR_at (W := W) hJ hl
  obtain ⟨b1, -, b3, b4⟩ := JR_at (W := W) hJ hq
  have la := hP.2.2.2.1 _ a1
  have lb := hP.2.2.2.1 _ b1
  have ca := (wC5_lt hP a1).2
  have cb := (wC5_lt hP b1).2
  revert a3 a4 b3 b4 la lb ca cb
  generalize gPl (kR y S) l (dC y) = A at *
  generalize gPl (kR y S) q (dC y) = B at *
  intro a3 a4 b3 b4 la lb ca cb
  have key : ∀ (j n : Nat), j ≤ min (dL y A) (dL y B) - 1 → j < n → f_Joiner_overlap_l21 (nI l) (nI q) n (nI j) M = some (nI (ovF (mtB (dL y) (wC5 y) A B) j), M) := by
    intro j
    induction j with
    | zero =>
      intro n _ hn
      obtain ⟨n, rfl, hn⟩ := z_succ hn
      rw [f_Joiner_overlap_l21]
      simp (disch := first | assumption | omega) only [z_bdn, z_caln, z_gdn, z_iT, z_iF, z_le_t, z_le_f, z_lt_t, z_lt_f, z_cl, z_inb, z_at, z_lit, nI_ii1, nI_add, z_mr, z_ref0, z_refn, z_eq_f, Bool.not_true, Bool.not_false, b2i_t, b2i_f]
      rfl
    | succ j ih =>
      intro n hj hn
      obtain ⟨n, rfl, hn⟩ := z_succ hn
      have g := ih n (by omega) (by omega)
      have e1 := q_jlow (show j + 1 < 6 by omega) M
      have e2 := jJ_and (j + 1) (by omega) (wC5 y A) ca
      have e3 := jJ_shr (dL y B - (j + 1)) (by omega) (wC5 y B) cb
      have m1 : wC5 y A % 4 ^ (j + 1) ≤ wC5 y A := Nat.mod_le _ _
      have m2 : wC5 y B / 4 ^ (dL y B - (j + 1)) ≤ wC5 y B := Nat.div_le_self _ _
      have e4 : (jJ (wC5 y A % 4 ^ (j + 1)) = jJ (wC5 y B / 4 ^ (dL y B - (j + 1)))) = (wC5 y A % 4 ^ (j + 1) = wC5 y B / 4 ^ (dL y B - (j + 1))) := jJ_eq (by omega) (by omega)
      have e5 := z_dec j (by omega)
      have eo : ovF (mtB (dL y) (wC5 y) A B) (j + 1) = if mtB (dL y) (wC5 y) A B (j + 1) = true then j + 1 else ovF (mtB (dL y) (wC5 y) A B) j := rfl
      rw [eo, f_Joiner_overlap_l21]
      by_cases hm : wC5 y A % 4 ^ (j + 1) = wC5 y B / 4 ^ (dL y B - (j + 1))
      · rw [show mtB (dL y) (wC5 y) A B (j + 1) = true from decide_eq_true hm, z_itt]
        rw [eq_true hm] at e4
        simp (disch := first | assumption | omega) only [z_bdn, z_caln, z_gdn, z_iT, z_iF, z_le_t, z_le_f, z_lt_t, z_lt_f, z_cl, z_inb, z_at, z_lit, nI_ii1, nI_add, z_mr, z_ref0, z_refn, z_eq_f, Bool.not_true, Bool.not_false, b2i_t, b2i_f, e1, a4, b3, b4, z_sub, e2, e3, lg_eq, e4]
      · rw [show mtB (dL y) (wC5 y) A B (j + 1) = false from decide_eq_false hm, z_itf]
        rw [eq_false hm] at e4
        simp (disch := first | assumption | omega) only [z_bdn, z_caln, z_gdn, z_iT, z_iF, z_le_t, z_le_f, z_lt_t, z_lt_f, z_cl, z_inb, z_at, z_lit, nI_ii1, nI_add, z_mr, z_ref0, z_refn, z_eq_f, Bool.not_true, Bool.not_false, b2i_t, b2i_f, e1, a4, b3, b4, z_sub, e2, e3, lg_eq, e4, e5]
        exact g
  have g := key (min (dL y A) (dL y B) - 1) FU (Nat.le_refl _) (FU_lt (by omega))
  rw [f_Joiner_overlap]
  unfold ovC
  by_cases hh : dL y B < dL y A
  · rw [show min (dL y A) (dL y B) = dL y B by omega] at g ⊢
    simp (disch := first | assumption | omega) only [z_bdn, z_caln, z_gdn, z_iT, z_iF, z_le_t, z_le_f, z_lt_t, z_lt_f, z_cl, z_inb, z_at, z_lit, nI_ii1, nI_add, z_mr, z_ref0, z_refn, z_eq_f, Bool.not_true, Bool.not_false, b2i_t, b2i_f, a3, b3, z_sub]
    exact g
  · rw [show min (dL y A) (dL y B) = dL y A by omega] at g ⊢
    simp (disch := first | assumption | omega) only [z_bdn, z_caln, z_gdn, z_iT, z_iF, z_le_t, z_le_f, z_lt_t, z_lt_f, z_cl, z_inb, z_at, z_lit, nI_ii1, nI_add, z_mr, z_ref0, z_refn, z_eq_f, Bool.not_true, Bool.not_false, b2i_t, b2i_f, a3, b3, z_sub]
    exact g
end
def jgY (y : De) (S F : Nat) (D : Nat → Nat → Nat) (U : Nat → Nat → Prop) (X : Prop) (Z : Nat → Nat → Prop) : Prop := jG (dC y) (dL y) (wC5 y) (ovO (dL y) (wC5 y)) (kR y S) F D U X Z
def xtY (y : De) (S : Nat) (l : Option Nat) (q e : Nat) : Nat := xt (dL y) (wC5 y) (ovO (dL y) (wC5 y)) l (gPl (kR y S) q (dC y)) e
def tSY (y : De) (S T q e : Nat) : Nat := tSo (dC y) (dL y) (wC5 y) (ovO (dL y) (wC5 y)) (kR y S) T q e
def nY (y : De) (S : Nat) : Nat := cnt (kR y S) (dC y)
def shF (y : De) (S : Nat) : Nat := tLo (dC y) (dL y) (wC5 y) (ovO (dL y) (wC5 y)) (kR y S) 0 none 1
def ZB (S0 : Nat) (S p : Nat) : Prop := S = 2 ^ p ∨ ∃ T, T ≠ 0 ∧ T < S0 ∧ T.testBit p = false ∧ S = T ||| 2 ^ p
section
variable {M M' : kx_M} {σ : Sg} {y : De}
theorem nY_6 {W S : Nat} (hP : OkD W y) : nY y S ≤ 6 := Nat.le_trans (cnt_le _ _) hP.2.1
theorem xt_e {m L c d : Nat} : (4 ^ L + c) * 4 ^ m + d = 4 ^ (L + m) + (c * 4 ^ m + d) := by
  rw [Nat.add_mul, Nat.pow_add, Nat.add_assoc]
theorem xt_c {m L c d : Nat} (hc : c < 4 ^ L) (hd : d < 4 ^ m) : c * 4 ^ m + d < 4 ^ (L + m) := by
  have h1 : (c + 1) * 4 ^ m ≤ 4 ^ L * 4 ^ m := Nat.mul_le_mul_right _ hc
  rw [Nat.add_mul, Nat.one_mul, ← Nat.pow_add] at h1
  omega
theorem L_30 {L c b n : Nat} (h : 4 ^ L + c < 2 * 4 ^ (5 * b)) (hb : b ≤ n) (hn : n ≤ 6) : L ≤ 30 := by
  rcases Nat.lt_or_ge 30 L with hl | hl
  · have h1 := pw_mono (show 31 ≤ L by omega)
    have h2 := pw_mono (show 5 * b ≤ 30 by omega)
    rw [pw_31] at h1
    rw [pw_30] at h2
    omega
  · exact hl
theorem xt_b {e m d b : Nat} (he : e < 2 * 4 ^ (5 * b)) (hm : m ≤ 5) (hd : d < 4 ^ m) : e * 4 ^ m + d < 2 * 4 ^ (5 * (b + 1)) := by
  have h1 : (e + 1) * 4 ^ m ≤ 2 * 4 ^ (5 * b) * 4 ^ m := Nat.mul_le_mul_right _ he
  have h2 : 2 * 4 ^ (5 * b) * 4 ^ m ≤ 2 * 4 ^ (5 * b) * 4 ^ 5 := Nat.mul_le_mul_left _ (pw_mono hm)
  have h3 : 2 * 4 ^ (5 * b) * 4 ^ 5 = 2 * 4 ^ (5 * (b + 1)) := by rw [Nat.mul_assoc, ← Nat.pow_add]; rfl
  rw [Nat.add_mul, Nat.one_mul] at h1
  omega
theorem q_ext_l10 {W S S0 l L c F : Nat} {Z : Nat → Nat → Prop} (hP : OkD W y) (hS0 : S0 < 2 ^ nY y S) (hl : l < nY y S) (hc : c < 4 ^ L) (hL : 1 ≤ L) (hb : 4 ^ L + c < 2 * 4 ^ (5 * bc S0 (nY y S))) (hF : F ≤ tSY y S S0 l (4 ^ L + c)) : ∀ (m n q : Nat) (D : Nat → Nat → Nat) (M : kx_M), q + m = nY y S → m < n → JR M y S (dC y) → JD M (nY y S) D → D S0 l = 4 ^ L + c → jgY y S F D (fun T p => S0 < T ∨ (T = S0 ∧ l < p) ∨ T = 2 ^ nY y S - 1) (∃ q', q ≤ q' ∧ q' < nY y S ∧ S0.testBit q' = false ∧ tSY y S (S0 ||| 2 ^ q') q' (xtY y S (some (gPl (kR y S) l (dC y))) q' (4 ^ L + c)) = F) (fun T p => Z T p ∨ ∃ q', q' < q ∧ S0.testBit q' = false ∧ T = S0 ||| 2 ^ q' ∧ p = q') → ∃ M' D', f_Joiner_extend_l10 (nI S0) (nI l) n (nI (6 * S0 + l)) (nI q) M = some ((), M') ∧ JD M' (nY y S) D' ∧ jgY y S F D' (fun T p => S0 < T ∨ (T = S0 ∧ l < p) ∨ T = 2 ^ nY y S - 1) False (fun T p => Z T p ∨ ∃ q', q' < nY y S ∧ S0.testBit q' = false ∧ T = S0 ||| 2 ^ q' ∧ p = q') ∧ (∀ p, D' S0 p = D S0 p) ∧ Fr (fun id => id = 21 ∨ id = 22) M M' := by
  have h6 := nY_6 (S := S) hP
  have h64 := pw_64 h6 hS0
  intro m
  induction m with
  | zero =>
    intro n q D M hm hn hJ hD he hG
    obtain ⟨n, rfl, hn⟩ := z_succ hn
    obtain rfl : q = nY y S := by omega
    have e4 : mI M 18 4 = nI (nY y S) := hJ.1
    refine ⟨M, D, ?_, hD, jG_w hG (fun T p _ _ h _ _ => Or.inl h) (fun ⟨q', h1, h2, _⟩ => absurd h1 (by omega)) (fun T p _ _ h => Or.inl h), fun _ => rfl, Fr.rf⟩
    rw [f_Joiner_extend_l10]
    simp (disch := first | assumption | omega) only [z_bdn, z_caln, z_gdn, z_iT, z_iF, z_le_t, z_le_f, z_lt_t, z_lt_f, z_cl, z_inb, z_at, z_lit, nI_ii1, nI_add, z_mr, z_ref0, z_refn, z_eq_f, Bool.not_true, Bool.not_false, b2i_t, b2i_f, e4]
  | succ m ih =>
    intro n q D M hm hn hJ hD he hG
    obtain ⟨n, rfl, hn⟩ := z_succ hn
    have e4 : mI M 18 4 = nI (nY y S) := hJ.1
    have hq : q < nY y S := by omega
    have eI : f_KT_inSet (nI S0) (nI q) M = some (b2i (S0.testBit q), M) := by
      rw [z_inSet (by omega), bt_nI S0 q (by omega)]
    rw [f_Joiner_extend_l10]
    cases ht : S0.testBit q with
    | true =>
      rw [ht] at eI
      obtain ⟨M', D', a1, a2, a3, a4, a5⟩ := ih n (q + 1) D M (by omega) (by omega) hJ hD he (jG_w hG (fun T p _ _ h _ _ => Or.inl h) (fun ⟨q', h1, h2, h3, h4⟩ => Or.inl ⟨q', by
        have : q' ≠ q := fun e => by rw [e, ht] at h3; cases h3
        omega, h2, h3, h4⟩) (fun T p _ _ h => Or.inl (h.elim Or.inl (fun ⟨q', h1, h2, h3⟩ => Or.inr ⟨q', by
        have : q' ≠ q := fun e => by rw [e, ht] at h2; cases h2
        omega, h2, h3⟩))))
      refine ⟨M', D', ?_, a2, a3, a4, a5⟩
      simp (disch := first | assumption | omega) only [z_bdn, z_caln, z_gdn, z_iT, z_iF, z_le_t, z_le_f, z_lt_t, z_lt_f, z_cl, z_inb, z_at, z_lit, nI_ii1, nI_add, z_mr, z_ref0, z_refn, z_eq_f, Bool.not_true, Bool.not_false, b2i_t, b2i_f, e4, eI]
      exact a1
    | false =>
      rw [ht] at eI
      obtain ⟨b1, b2, b3, b4⟩ := JR_at (W := W) hJ hq
      have lb := hP.2.2.2.1 _ b1
      have cb := (wC5_lt hP b1).2
      have eO := q_overlap hP hJ hl hq
      have ho := Nat.le_trans (ovF_le (mtB (dL y) (wC5 y) (gPl (kR y S) l (dC y)) (gPl (kR y S) q (dC y))) _) (show min (dL y (gPl (kR y S) l (dC y))) (dL y (gPl (kR y S) q (dC y))) - 1 ≤ dL y (gPl (kR y S) q (dC y)) - 1 by omega)
      have ho : ovC (dL y) (wC5 y) (gPl (kR y S) l (dC y)) (gPl (kR y S) q (dC y)) ≤ dL y (gPl (kR y S) q (dC y)) - 1 := ho
      obtain ⟨mo, hmo⟩ : ∃ mo, mo = dL y (gPl (kR y S) q (dC y)) - ovC (dL y) (wC5 y) (gPl (kR y S) l (dC y)) (gPl (kR y S) q (dC y)) := ⟨_, rfl⟩
      have hxt : xtY y S (some (gPl (kR y S) l (dC y))) q (4 ^ L + c) = 4 ^ (L + mo) + (c * 4 ^ mo + wC5 y (gPl (kR y S) q (dC y)) % 4 ^ mo) := by
        rw [← xt_e, hmo]; rfl
      have hmd : wC5 y (gPl (kR y S) q (dC y)) % 4 ^ mo < 4 ^ mo := Nat.mod_lt _ (Nat.pow_pos (by omega))
      have hbn : 4 ^ (L + mo) + (c * 4 ^ mo + wC5 y (gPl (kR y S) q (dC y)) % 4 ^ mo) < 2 * 4 ^ (5 * bc (S0 ||| 2 ^ q) (nY y S)) := by
        rw [← xt_e, bc_or ht hq]
        exact xt_b hb (by omega) hmd
      have hL30 := L_30 hbn (bc_le _ _) h6
      have hcn := xt_c (L := L) hc hmd
      have hSq := or_lt hS0 hq
      obtain ⟨M1, a1, a2, a3⟩ := q_offer h6 hSq hq hD (show 1 ≤ L + mo by omega) hL30 hcn
      have hgt := or_gt ht
      have hne : S0 ≠ S0 ||| 2 ^ q := by omega
      have hkeep : ∀ p, ofr D (S0 ||| 2 ^ q) q (4 ^ (L + mo) + (c * 4 ^ mo + wC5 y (gPl (kR y S) q (dC y)) % 4 ^ mo)) S0 p = D S0 p := fun p => if_neg (fun h => hne h.1)
      have hJ1 : JR M1 y S (dC y) := by
        refine ⟨((a3 18 (by decide)).1 4).trans hJ.1, fun k hk hk2 => ?_⟩
        obtain ⟨u1, u2⟩ := hJ.2 k hk hk2
        exact ⟨(congrFun (a3 19 (by decide)).2.2.1 _).trans u1, (congrFun (a3 20 (by decide)).2.2.2.1 _).trans u2⟩
      have hpos : (4 : Nat) ^ L + c ≠ 0 := by have : 0 < 4 ^ L := Nat.pow_pos (by omega); omega
      have hle : tSY y S S0 l (4 ^ L + c) ≤ tSY y S (S0 ||| 2 ^ q) q (xtY y S (some (gPl (kR y S) l (dC y))) q (4 ^ L + c)) := tL_le hpos hq ht
      rw [hxt] at hle
      have hp1 : 0 < 4 ^ (L + mo) := Nat.pow_pos (by omega)
      obtain ⟨M', D', c1, c2, c3, c4, c5⟩ := ih n (q + 1) _ M1 (by omega) (by omega) hJ1 a2 ((hkeep l).trans he) (jG_of hG hSq hq (by omega) (Nat.le_trans hF hle) hbn (fun ⟨q', h1, h2, h3, h4⟩ => by
        by_cases hqq : q' = q
        · subst hqq
          rw [hxt] at h4
          exact Or.inr ⟨Or.inl hgt, h4⟩
        · exact Or.inl ⟨q', by omega, h2, h3, h4⟩) (fun T p h => by
        rcases h with h | ⟨q', h1, h2, h3, h4⟩
        · exact Or.inl (Or.inl h)
        · by_cases hqq : q' = q
          · subst hqq; exact Or.inr ⟨h3, h4⟩
          · exact Or.inl (Or.inr ⟨q', by omega, h2, h3, h4⟩)))
      refine ⟨M', D', ?_, c2, c3, fun p => (c4 p).trans (hkeep p), a3.tr c5⟩
      have hentry : mA M 21 (6 * S0 + l) = nI L ∧ mB M 22 (6 * S0 + l) = bJ c := by
        rcases hD S0 l hS0 hl with ⟨d1, -⟩ | ⟨L0, c0, d1, d2, d3, d4, d5, d6⟩
        · rw [d1] at he; omega
        · have hLL : L0 = L := by
            rcases Nat.lt_trichotomy L0 L with h | h | h
            · have := e4_lt (c0 := c) d2 h; omega
            · exact h
            · have := e4_lt (c0 := c0) hc h; omega
          subst hLL
          have : c0 = c := by omega
          subst this
          exact ⟨d5, d6⟩
      obtain ⟨x1, x2⟩ := hentry
      have s1 := q_jlow (show mo < 6 by omega) M
      have s2 := jJ_and mo (by omega) _ cb
      have s3 : wC5 y (gPl (kR y S) q (dC y)) % 4 ^ mo ≤ wC5 y (gPl (kR y S) q (dC y)) := Nat.mod_le _ _
      have hb2 := pw_mono hL30
      rw [pw_30] at hb2
      have s4 : bJ c <<< ((nI (mo * 2)).toInt64 &&& 63) ||| jJ (wC5 y (gPl (kR y S) q (dC y)) % 4 ^ mo) = bJ (c * 4 ^ mo + wC5 y (gPl (kR y S) q (dC y)) % 4 ^ mo) := by
        rw [jJ_bJ (by omega)]
        exact bJ_shl hmd (by omega) (by omega)
      have s5 : nI (dL y (gPl (kR y S) q (dC y))) - nI (ovC (dL y) (wC5 y) (gPl (kR y S) l (dC y)) (gPl (kR y S) q (dC y))) = nI mo := by
        rw [hmo]; exact z_sub (by omega)
      have s6 : nI 1 <<< (nI q &&& nI 31) = nI (2 ^ q) := z_bit (by omega)
      simp (disch := first | assumption | omega) only [z_bdn, z_caln, z_gdn, z_iT, z_iF, z_le_t, z_le_f, z_lt_t, z_lt_f, z_cl, z_inb, z_at, z_lit, nI_ii1, nI_add, z_mr, z_ref0, z_refn, z_eq_f, Bool.not_true, Bool.not_false, b2i_t, b2i_f, e4, eI, eO, b3, b4, s5, s1, x1, x2, s2, s4, s6, nI_or, a1]
      exact c1
end
