section
variable {M M' : kx_M} {σ : Sg} {y : De}
theorem JR_F {S n : Nat} (hJ : JR M y S n) (hF : Fr (fun id => id = 21 ∨ id = 22) M M') : JR M' y S n := by
  refine ⟨((hF 18 (by decide)).1 4).trans hJ.1, fun k hk hk2 => ?_⟩
  obtain ⟨u1, u2⟩ := hJ.2 k hk hk2
  exact ⟨(congrFun (hF 19 (by decide)).2.2.1 _).trans u1, (congrFun (hF 20 (by decide)).2.2.2.1 _).trans u2⟩
theorem tS_full {S S0 p e : Nat} (h : cnt (lfH (kR y S) S0) (dC y) = 0) : tSY y S S0 p e = e := by
  unfold tSY tSo tLo
  rw [h]
  rfl
theorem lf_full {W S S0 : Nat} (hP : OkD W y) (hS0 : S0 < 2 ^ nY y S) (h : cnt (lfH (kR y S) S0) (dC y) = 0) : S0 = 2 ^ nY y S - 1 := by
  have h6 := nY_6 (S := S) hP
  refine Decidable.byContradiction (fun hne => ?_)
  obtain ⟨q, hq, ht⟩ := full_q _ h6 S0 hS0 hne
  have := cnt_lfH (C := dC y) (ker := kR y S) hq ht
  omega
/-- the table, by what is still to be gone through from mask S0, place l on -/
def jgA (y : De) (S F S0 l : Nat) (D : Nat → Nat → Nat) : Prop := jgY y S F D (fun T p => S0 < T ∨ (T = S0 ∧ l ≤ p) ∨ T = 2 ^ nY y S - 1) False (fun T p => ZB S0 T p ∨ ((∃ l', l' < l ∧ S0.testBit l' = true) ∧ ∃ q', q' < nY y S ∧ S0.testBit q' = false ∧ T = S0 ||| 2 ^ q' ∧ p = q'))
theorem q_join_l65 {d W S S0 F : Nat} {p2 : Int32} {K : Int32 → kx_M → Option (Unit × kx_M)} (hP : OkD W y) (hS0 : S0 < 2 ^ nY y S) : ∀ (m n l : Nat) (D : Nat → Nat → Nat) (M : kx_M), l + m = nY y S → m < n → JR M y S (dC y) → JD M (nY y S) D → jgA y S F S0 l D → ∃ M' D', f_Joiner_join_l65 d p2 K n (nI S0) (nI l) M = K (nI (S0 + 1)) M' ∧ JR M' y S (dC y) ∧ JD M' (nY y S) D' ∧ jgA y S F S0 (nY y S) D' ∧ Fr (fun id => id = 21 ∨ id = 22) M M' := by
  have h6 := nY_6 (S := S) hP
  have h64 := pw_64 h6 hS0
  intro m
  induction m with
  | zero =>
    intro n l D M hm hn hJ hD hG
    obtain ⟨n, rfl, hn⟩ := z_succ hn
    obtain rfl : l = nY y S := by omega
    have e4 : mI M 18 4 = nI (nY y S) := hJ.1
    refine ⟨M, D, ?_, hJ, hD, hG, Fr.rf⟩
    rw [f_Joiner_join_l65]
    simp (disch := first | assumption | omega) only [z_bdn, z_caln, z_gdn, z_iT, z_iF, z_le_t, z_le_f, z_lt_t, z_lt_f, z_cl, z_inb, z_at, z_lit, nI_ii1, nI_add, z_mr, z_ref0, z_refn, z_eq_f, Bool.not_true, Bool.not_false, b2i_t, b2i_f, e4]
  | succ m ih =>
    intro n l D M hm hn hJ hD hG
    obtain ⟨n, rfl, hn⟩ := z_succ hn
    have e4 : mI M 18 4 = nI (nY y S) := hJ.1
    have hl : l < nY y S := by omega
    have hzb : S0.testBit l = true → D S0 l ≠ 0 := fun ht => hG.2.2 S0 l hS0 hl (Or.inl (by
      rcases min_q S0 h64 l (by omega) ht with h | ⟨h1, h2, h3, h4⟩
      · exact Or.inl h
      · exact Or.inr ⟨S0 - 2 ^ l, h1, h2, h3, h4⟩))
    rw [f_Joiner_join_l65]
    rcases hD S0 l hS0 hl with ⟨d1, d2⟩ | ⟨L, c, d1, d2, d3, d4, d5, d6⟩
    · have hG2 : jgA y S F S0 (l + 1) D := by
        refine jG_w hG (fun T p _ _ h hn _ => Or.inl ?_) (fun h => h.elim) (fun T p _ _ h => Or.inl ?_)
        · rcases h with h | ⟨h, h2⟩ | h
          · exact Or.inl h
          · have : p ≠ l := fun e => hn (by rw [h, e]; exact d1)
            exact Or.inr (Or.inl ⟨h, by omega⟩)
          · exact Or.inr (Or.inr h)
        · rcases h with h | ⟨⟨l', h1, h2⟩, h3⟩
          · exact Or.inl h
          · have : l' ≠ l := fun e => hzb (by rw [← e]; exact h2) d1
            exact Or.inr ⟨⟨l', by omega, h2⟩, h3⟩
      obtain ⟨M', D', a1, a2⟩ := ih n (l + 1) D M (by omega) (by omega) hJ hD hG2
      refine ⟨M', D', ?_, a2⟩
      simp (disch := first | assumption | omega) only [z_bdn, z_caln, z_gdn, z_iT, z_iF, z_le_t, z_le_f, z_lt_t, z_lt_f, z_cl, z_inb, z_at, z_lit, nI_ii1, nI_add, z_mr, z_ref0, z_refn, z_eq_f, Bool.not_true, Bool.not_false, b2i_t, b2i_f, e4, d2]
      exact a1
    · have hb := hG.1 S0 l hS0 hl (by rw [d1]; have : 0 < 4 ^ L := Nat.pow_pos (by omega); omega)
      rw [d1] at hb
      have hpos : (4 : Nat) ^ L + c ≠ 0 := by have : 0 < 4 ^ L := Nat.pow_pos (by omega); omega
      obtain ⟨M1, D1, a1, a2, a3, a4, a5⟩ := q_ext_l10 (Z := fun T p => ZB S0 T p ∨ ((∃ l', l' < l ∧ S0.testBit l' = true) ∧ ∃ q', q' < nY y S ∧ S0.testBit q' = false ∧ T = S0 ||| 2 ^ q' ∧ p = q')) (F := F) hP hS0 hl d2 d3 hb.2 hb.1 (nY y S) FU 0 D M (by omega) (FU_lt (by omega)) hJ hD d1 (by
        refine jG_w hG (fun T p _ _ h hn he => ?_) (fun h => h.elim) (fun T p _ _ h => Or.inl ?_)
        · rcases h with h | ⟨h, h2⟩ | h
          · exact Or.inl (Or.inl h)
          · by_cases hpl : p = l
            · rw [h, hpl, d1] at he
              by_cases hc0 : cnt (lfH (kR y S) S0) (dC y) = 0
              · exact Or.inl (Or.inr (Or.inr (h.trans (lf_full hP hS0 hc0))))
              · obtain ⟨q, q1, q2, q3⟩ := tL_ex (sz := dL y) (cd := wC5 y) (ov := ovO (dL y) (wC5 y)) (last := some (gPl (kR y S) l (dC y))) hpos hc0
                exact Or.inr ⟨q, Nat.zero_le _, q1, q2, q3.trans he⟩
            · exact Or.inl (Or.inr (Or.inl ⟨h, by omega⟩))
          · exact Or.inl (Or.inr (Or.inr h))
        · rcases h with h | ⟨q', h1, _⟩
          · exact h
          · exact absurd h1 (by omega))
      have hG2 : jgA y S F S0 (l + 1) D1 := by
        refine jG_w a3 (fun T p _ _ h hn _ => Or.inl ?_) (fun h => h.elim) (fun T p _ _ h => Or.inl ?_)
        · rcases h with h | ⟨h, h2⟩ | h
          · exact Or.inl h
          · exact Or.inr (Or.inl ⟨h, by omega⟩)
          · exact Or.inr (Or.inr h)
        · rcases h with h | ⟨⟨l', h1, h2⟩, h3⟩
          · exact Or.inl (Or.inl h)
          · exact Or.inr h3
      have hJ1 := JR_F hJ a5
      obtain ⟨M', D', b1, b2, b3, b4, b5⟩ := ih n (l + 1) D1 M1 (by omega) (by omega) hJ1 a2 hG2
      refine ⟨M', D', ?_, b2, b3, b4, a5.tr b5⟩
      have eE : f_Joiner_extend (nI S0) (nI l) M = some ((), M1) := by
        rw [f_Joiner_extend]
        simp (disch := first | assumption | omega) only [z_bdn, z_caln, z_gdn, z_iT, z_iF, z_le_t, z_le_f, z_lt_t, z_lt_f, z_cl, z_inb, z_at, z_lit, nI_ii1, nI_add, z_mr, z_ref0, z_refn, z_eq_f, Bool.not_true, Bool.not_false, b2i_t, b2i_f]
        exact a1
      simp (disch := first | assumption | omega) only [z_bdn, z_caln, z_gdn, z_iT, z_iF, z_le_t, z_le_f, z_lt_t, z_lt_f, z_cl, z_inb, z_at, z_lit, nI_ii1, nI_add, z_mr, z_ref0, z_refn, z_eq_f, Bool.not_true, Bool.not_false, b2i_t, b2i_f, e4, d5, eE]
      exact b1
/-- from mask S0 on -/
def jgB (y : De) (S F S0 : Nat) (D : Nat → Nat → Nat) : Prop := jgY y S F D (fun T _ => S0 ≤ T ∨ T = 2 ^ nY y S - 1) False (ZB S0)
theorem jgB_A {S F S0 : Nat} {D : Nat → Nat → Nat} (h : jgB y S F S0 D) : jgA y S F S0 0 D := by
  refine jG_w h (fun T p _ _ h _ _ => Or.inl ?_) (fun h => h.elim) (fun T p _ _ h => Or.inl ?_)
  · rcases h with h | h
    · by_cases he : T = S0
      · exact Or.inr (Or.inl ⟨he, Nat.zero_le _⟩)
      · exact Or.inl (by omega)
    · exact Or.inr (Or.inr h)
  · rcases h with h | ⟨⟨l', h1, _⟩, _⟩
    · exact h
    · exact absurd h1 (by omega)
theorem jgA_B {W S F S0 : Nat} {D : Nat → Nat → Nat} (hP : OkD W y) (h0 : S0 ≠ 0) (hS0 : S0 < 2 ^ nY y S) (h : jgA y S F S0 (nY y S) D) : jgB y S F (S0 + 1) D := by
  refine jG_w h (fun T p _ hp h _ _ => Or.inl ?_) (fun h => h.elim) (fun T p _ hp h => Or.inl ?_)
  · rcases h with h | ⟨_, h⟩ | h
    · exact Or.inl h
    · exact absurd hp (Nat.not_lt.mpr h)
    · exact Or.inr h
  · rcases h with h | ⟨T0, h1, h2, h3, h4⟩
    · exact Or.inl (Or.inl h)
    · by_cases he : T0 = S0
      · subst he
        obtain ⟨l, l1, l2⟩ := some_q _ (nY_6 hP) T0 hS0 h0
        exact Or.inr ⟨⟨l, l1, l2⟩, p, hp, h3, h4, rfl⟩
      · exact Or.inl (Or.inr ⟨T0, h1, by omega, h3, h4⟩)
/-- what has been chosen -/
def JB (M : kx_M) (b : Nat) : Prop := ∃ L c, c < 4 ^ L ∧ L ≤ 30 ∧ mI M 18 5 = nI L ∧ mJ M 18 6 = bJ c ∧ ((b = 0 ∧ L = 0) ∨ (b = 4 ^ L + c ∧ 1 ≤ L))
theorem q_choose_l12 {W S F : Nat} {D : Nat → Nat → Nat} (hP : OkD W y) (hlb : ∀ p, p < nY y S → D (2 ^ nY y S - 1) p ≠ 0 ∧ F ≤ D (2 ^ nY y S - 1) p) : ∀ (m n q b : Nat) (M : kx_M), q + m = nY y S → m < n → mI M 18 4 = nI (nY y S) → JD M (nY y S) D → JB M b → (b = 0 → q = 0) → (b ≠ 0 → F ≤ b) → ∃ M' b', f_Joiner_choose_l12 n (nI q) M = some ((), M') ∧ JB M' b' ∧ (b' = 0 → nY y S = 0) ∧ (b' ≠ 0 → F ≤ b') ∧ (b ≠ 0 → b' ≤ b) ∧ (∀ p, q ≤ p → p < nY y S → b' ≤ D (2 ^ nY y S - 1) p) ∧ Fr (fun id => id = 18) M M' := by
  have h6 := nY_6 (S := S) hP
  have hfl : 2 ^ nY y S - 1 < 2 ^ nY y S := by have : 0 < 2 ^ nY y S := Nat.pow_pos (by omega); omega
  have h64 := pw_64 h6 hfl
  intro m
  induction m with
  | zero =>
    intro n q b M hm hn e4 hD hB h0 hF
    obtain ⟨n, rfl, hn⟩ := z_succ hn
    obtain rfl : q = nY y S := by omega
    refine ⟨M, b, ?_, hB, h0, hF, fun _ => Nat.le_refl _, fun p h1 h2 => absurd h2 (Nat.not_lt.mpr h1), Fr.rf⟩
    rw [f_Joiner_choose_l12]
    simp (disch := first | assumption | omega) only [z_bdn, z_caln, z_gdn, z_iT, z_iF, z_le_t, z_le_f, z_lt_t, z_lt_f, z_cl, z_inb, z_at, z_lit, nI_ii1, nI_add, z_mr, z_ref0, z_refn, z_eq_f, Bool.not_true, Bool.not_false, b2i_t, b2i_f, e4]
  | succ m ih =>
    intro n q b M hm hn e4 hD hB h0 hF
    obtain ⟨n, rfl, hn⟩ := z_succ hn
    have hq : q < nY y S := by omega
    obtain ⟨hd1, hd2⟩ := hlb q hq
    have s6 : nI 1 <<< (nI (nY y S) &&& nI 31) = nI (2 ^ nY y S) := z_bit (by omega)
    have s7 : nI (2 ^ nY y S) - nI 1 = nI (2 ^ nY y S - 1) := z_sub (Nat.pow_pos (by omega))
    rcases hD (2 ^ nY y S - 1) q hfl hq with ⟨d1, -⟩ | ⟨L, c, d1, d2, d3, d4, d5, d6⟩
    · exact absurd d1 hd1
    revert hd1 hd2
    rw [d1]
    intro hd1 hd2
    have hb := pw_mono d4
    rw [pw_30] at hb
    have take : ∀ (h : b ≠ 0 → 4 ^ L + c ≤ b), ∃ M' b', f_Joiner_choose_l81 (f_Joiner_choose_l12 n) (nI q) (nI (6 * (2 ^ nY y S - 1) + q)) M = some ((), M') ∧ JB M' b' ∧ (b' = 0 → nY y S = 0) ∧ (b' ≠ 0 → F ≤ b') ∧ (b ≠ 0 → b' ≤ b) ∧ (∀ p, q ≤ p → p < nY y S → b' ≤ D (2 ^ nY y S - 1) p) ∧ Fr (fun id => id = 18) M M' := by
      intro h
      have hF2 : Fr (fun id => id = 18) M (sJ (sI M 18 5 (nI L)) 18 6 (bJ c)) := Fr.tr (Fr.sI rfl) (Fr.sJ rfl)
      obtain ⟨M', b', a1, a2, a3, a4, a5, a6, a7⟩ := ih n (q + 1) (4 ^ L + c) (sJ (sI M 18 5 (nI L)) 18 6 (bJ c)) (by omega) (by omega) e4 hD ⟨L, c, d2, d4, rfl, rfl, Or.inr ⟨rfl, d3⟩⟩ (fun e => absurd e hd1) (fun _ => hd2)
      refine ⟨M', b', ?_, a2, a3, a4, fun hb0 => Nat.le_trans (a5 hd1) (h hb0), fun p h1 h2 => ?_, hF2.tr a7⟩
      · have e7 : ∀ v, mB (sI M 18 5 v) 22 = mB M 22 := fun _ => rfl
        rw [f_Joiner_choose_l81]
        simp (disch := first | assumption | omega) only [z_bdn, z_caln, z_gdn, z_iT, z_iF, z_le_t, z_le_f, z_lt_t, z_lt_f, z_cl, z_inb, z_at, z_lit, nI_ii1, nI_add, z_mr, z_ref0, z_refn, z_eq_f, Bool.not_true, Bool.not_false, b2i_t, b2i_f, d5, d6, e7]
        exact a1
      · by_cases he : p = q
        · subst he; rw [d1]; exact a5 hd1
        · exact a6 p (by omega) h2
    have skip : ∀ (h : b ≠ 0) (h2 : b ≤ 4 ^ L + c), ∃ M' b', f_Joiner_choose_l12 n (nI (q + 1)) M = some ((), M') ∧ JB M' b' ∧ (b' = 0 → nY y S = 0) ∧ (b' ≠ 0 → F ≤ b') ∧ (b ≠ 0 → b' ≤ b) ∧ (∀ p, q ≤ p → p < nY y S → b' ≤ D (2 ^ nY y S - 1) p) ∧ Fr (fun id => id = 18) M M' := by
      intro h h2
      obtain ⟨M', b', a1, a2, a3, a4, a5, a6, a7⟩ := ih n (q + 1) b M (by omega) (by omega) e4 hD hB (fun e => absurd e h) hF
      refine ⟨M', b', a1, a2, a3, a4, a5, fun p h3 h4 => ?_, a7⟩
      by_cases he : p = q
      · subst he; rw [d1]; exact Nat.le_trans (a5 h) h2
      · exact a6 p (by omega) h4
    obtain ⟨Lb, cb, g1, g2, g3, g4, g5⟩ := hB
    have hb0 := pw_mono g2
    rw [pw_30] at hb0
    rw [f_Joiner_choose_l12]
    rcases g5 with ⟨g5, g6⟩ | ⟨g5, g6⟩
    · subst g6
      obtain ⟨M', b', k1, k2⟩ := take (fun e => absurd g5 e)
      refine ⟨M', b', ?_, k2⟩
      simp (disch := first | assumption | omega) only [z_bdn, z_caln, z_gdn, z_iT, z_iF, z_le_t, z_le_f, z_lt_t, z_lt_f, z_cl, z_inb, z_at, z_lit, nI_ii1, nI_add, z_mr, z_ref0, z_refn, z_eq_f, Bool.not_true, Bool.not_false, b2i_t, b2i_f, e4, s6, s7, g3, eq_self]
      exact k1
    · have hbn : b ≠ 0 := by rw [g5]; have : 0 < 4 ^ Lb := Nat.pow_pos (by omega); omega
      rcases Nat.lt_trichotomy L Lb with hl | hl | hl
      · obtain ⟨M', b', k1, k2⟩ := take (fun _ => by rw [g5]; have := e4_lt (c0 := cb) d2 hl; omega)
        refine ⟨M', b', ?_, k2⟩
        simp (disch := first | assumption | omega) only [z_bdn, z_caln, z_gdn, z_iT, z_iF, z_le_t, z_le_f, z_lt_t, z_lt_f, z_cl, z_inb, z_at, z_lit, nI_ii1, nI_add, z_mr, z_ref0, z_refn, z_eq_f, Bool.not_true, Bool.not_false, b2i_t, b2i_f, e4, s6, s7, g3, d5]
        exact k1
      · subst hl
        by_cases hcc : cb ≤ c
        · obtain ⟨M', b', k1, k2⟩ := skip hbn (by omega)
          have e5 : (bJ cb ≤ bJ c) = True := (bJ_le (by omega) (by omega)).trans (eq_true hcc)
          refine ⟨M', b', ?_, k2⟩
          simp (disch := first | assumption | omega) only [z_bdn, z_caln, z_gdn, z_iT, z_iF, z_le_t, z_le_f, z_lt_t, z_lt_f, z_cl, z_inb, z_at, z_lit, nI_ii1, nI_add, z_mr, z_ref0, z_refn, z_eq_f, Bool.not_true, Bool.not_false, b2i_t, b2i_f, e4, s6, s7, g3, d5, d6, g4, z_cge, e5, eq_self]
          exact k1
        · obtain ⟨M', b', k1, k2⟩ := take (fun _ => by omega)
          have e5 : (bJ cb ≤ bJ c) = False := (bJ_le (by omega) (by omega)).trans (eq_false hcc)
          refine ⟨M', b', ?_, k2⟩
          simp (disch := first | assumption | omega) only [z_bdn, z_caln, z_gdn, z_iT, z_iF, z_le_t, z_le_f, z_lt_t, z_lt_f, z_cl, z_inb, z_at, z_lit, nI_ii1, nI_add, z_mr, z_ref0, z_refn, z_eq_f, Bool.not_true, Bool.not_false, b2i_t, b2i_f, e4, s6, s7, g3, d5, d6, g4, z_cge, e5, eq_self]
          exact k1
      · obtain ⟨M', b', k1, k2⟩ := skip hbn (by rw [g5]; have := e4_lt (c0 := c) g1 hl; omega)
        refine ⟨M', b', ?_, k2⟩
        simp (disch := first | assumption | omega) only [z_bdn, z_caln, z_gdn, z_iT, z_iF, z_le_t, z_le_f, z_lt_t, z_lt_f, z_cl, z_inb, z_at, z_lit, nI_ii1, nI_add, z_mr, z_ref0, z_refn, z_eq_f, Bool.not_true, Bool.not_false, b2i_t, b2i_f, e4, s6, s7, g3, d5]
        exact k1
end
