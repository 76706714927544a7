/-! ## the WORDS, for the reference -/
def isK (t : Tok) (k : Nat) : Bool := decide (kS t = 2 ∧ kV t = k)
theorem kyF_spec (w : Nat) : ∀ m i, i + m = 26 → (kyF w m i = 26 ∧ ∀ j, i ≤ j → j < 26 → knownN j ≠ w) ∨ (i ≤ kyF w m i ∧ kyF w m i < 26 ∧ knownN (kyF w m i) = w)
  | 0, i, h => Or.inl ⟨rfl, fun j h1 h2 => by omega⟩
  | m + 1, i, h => by
    unfold kyF
    by_cases hh : knownN i = w
    · rw [if_pos hh]; exact Or.inr ⟨Nat.le_refl _, by omega, hh⟩
    · rw [if_neg hh]
      rcases kyF_spec w m (i + 1) (by omega) with ⟨h1, h2⟩ | ⟨h1, h2, h3⟩
      · refine Or.inl ⟨h1, fun j j1 j2 => ?_⟩
        by_cases he : j = i
        · rw [he]; exact hh
        · exact h2 j (by omega) j2
      · exact Or.inr ⟨by omega, h2, h3⟩
theorem known_inj : ∀ i, i < 26 → ∀ j, j < 26 → knownN i = knownN j → i = j := by decide +kernel
theorem keyN_iff {w k : Nat} (hk : k < 26) : keyN w = k ↔ knownN k = w := by
  unfold keyN
  constructor
  · intro h
    rcases kyF_spec w 26 0 rfl with ⟨h1, h2⟩ | ⟨h1, h2, h3⟩
    · omega
    · rw [← h]; exact h3
  · intro h
    rcases kyF_spec w 26 0 rfl with ⟨h1, h2⟩ | ⟨h1, h2, h3⟩
    · exact absurd h (h2 k (Nat.zero_le _) hk)
    · exact known_inj _ h2 _ hk (h3.trans h.symm)
section
variable {M M' : kx_M} {T : Nat → Nat} {n : Nat} {t : Tok}
theorem q_isWord {k : Nat} (hT : TkM M t) (hk : k < 26) : f_RM_isWord (bJ (knownN k)) M = some (b2i (isK t k), M) := by
  obtain ⟨h14, -, -, -, hw, -, -, hs4⟩ := hT
  have z1 : (nI (sM (kS t)) = nI 1) = (kS t = 2) := propext ⟨fun e => by
    have h := (nI_eq (by unfold sM; split; omega; split <;> omega) (by omega)).mp e
    unfold sM at h
    split at h
    · omega
    · split at h <;> omega, fun e => by rw [e]; rfl⟩
  rw [f_RM_isWord]
  unfold isK
  by_cases h2 : kS t = 2
  · rw [eq_true h2] at z1
    obtain ⟨-, w27, wn⟩ := hw h2
    by_cases h27 : kV t = 27
    · obtain ⟨e, -⟩ := w27 h27
      have z2 : ((-1 : Int64) = bJ (knownN k)) = False := eq_false (fun e => by
        have h := congrArg Int64.toInt e
        rw [bJ_toInt (by have := knownN_lt k hk; omega), show (-1 : Int64).toInt = -1 from by decide] at h
        omega)
      rw [decide_eq_false (by omega)]
      simp (disch := first | assumption | omega) only [z_bdn, z_caln, z_gdn, z_iT, z_iF, z_le_t, z_le_f, z_lt_t, z_lt_f, z_cl, z_inb, z_at, z_pl, z_lit, nI_ii1, nI_add, nI_mul, z_eq_f, z_refuse, z_no, z_M00, b2i_t, b2i_f, h14, z1, e, lg_eq, z2]
    · obtain ⟨e, -, hkv, hlt⟩ := wn h27
      have z2 : (bJ (kW t) = bJ (knownN k)) = (kV t = k) := by
        rw [hkv, propext (keyN_iff hk)]
        refine propext ⟨fun e => ?_, fun e => by rw [e]⟩
        have h := congrArg Int64.toInt e
        rw [bJ_toInt (n := kW t) (by omega), bJ_toInt (n := knownN k) (by have := knownN_lt k hk; omega)] at h
        omega
      by_cases hkk : kV t = k
      · rw [eq_true hkk] at z2
        rw [decide_eq_true ⟨h2, hkk⟩]
        simp (disch := first | assumption | omega) only [z_bdn, z_caln, z_gdn, z_iT, z_iF, z_le_t, z_le_f, z_lt_t, z_lt_f, z_cl, z_inb, z_at, z_pl, z_lit, nI_ii1, nI_add, nI_mul, z_eq_f, z_refuse, z_no, z_M00, b2i_t, b2i_f, h14, z1, e, lg_eq, z2]
      · rw [eq_false hkk] at z2
        rw [decide_eq_false (fun h => hkk h.2)]
        simp (disch := first | assumption | omega) only [z_bdn, z_caln, z_gdn, z_iT, z_iF, z_le_t, z_le_f, z_lt_t, z_lt_f, z_cl, z_inb, z_at, z_pl, z_lit, nI_ii1, nI_add, nI_mul, z_eq_f, z_refuse, z_no, z_M00, b2i_t, b2i_f, h14, z1, e, lg_eq, z2]
  · rw [eq_false h2] at z1
    rw [decide_eq_false (fun h => h2 h.1)]
    simp (disch := first | assumption | omega) only [z_bdn, z_caln, z_gdn, z_iT, z_iF, z_le_t, z_le_f, z_lt_t, z_lt_f, z_cl, z_inb, z_at, z_pl, z_lit, nI_ii1, nI_add, nI_mul, z_eq_f, z_refuse, z_no, z_M00, b2i_t, b2i_f, h14, z1]
theorem s_wide (M : kx_M) : f_RM_spelled (nI 119) (nI 105) (nI 100) (nI 101) (nI 0) (nI 0) M = some (bJ (knownN 0), M) := rfl
theorem s_tough (M : kx_M) : f_RM_spelled (nI 116) (nI 111) (nI 117) (nI 103) (nI 104) (nI 0) M = some (bJ (knownN 1), M) := rfl
theorem s_queen (M : kx_M) : f_RM_spelled (nI 113) (nI 117) (nI 101) (nI 101) (nI 110) (nI 0) M = some (bJ (knownN 2), M) := rfl
theorem s_wool (M : kx_M) : f_RM_spelled (nI 119) (nI 111) (nI 111) (nI 108) (nI 0) (nI 0) M = some (bJ (knownN 3), M) := rfl
theorem s_clause (M : kx_M) : f_RM_spelled (nI 99) (nI 108) (nI 97) (nI 117) (nI 115) (nI 101) M = some (bJ (knownN 4), M) := rfl
theorem s_is (M : kx_M) : f_RM_spelled (nI 105) (nI 115) (nI 0) (nI 0) (nI 0) (nI 0) M = some (bJ (knownN 5), M) := rfl
theorem s_clash (M : kx_M) : f_RM_spelled (nI 99) (nI 108) (nI 97) (nI 115) (nI 104) (nI 0) M = some (bJ (knownN 6), M) := rfl
theorem s_gives (M : kx_M) : f_RM_spelled (nI 103) (nI 105) (nI 118) (nI 101) (nI 115) (nI 0) M = some (bJ (knownN 7), M) := rfl
theorem s_costs (M : kx_M) : f_RM_spelled (nI 99) (nI 111) (nI 115) (nI 116) (nI 115) (nI 0) M = some (bJ (knownN 8), M) := rfl
theorem s_row (M : kx_M) : f_RM_spelled (nI 114) (nI 111) (nI 119) (nI 0) (nI 0) (nI 0) M = some (bJ (knownN 9), M) := rfl
theorem s_knit (M : kx_M) : f_RM_spelled (nI 107) (nI 110) (nI 105) (nI 116) (nI 0) (nI 0) M = some (bJ (knownN 10), M) := rfl
theorem s_purl (M : kx_M) : f_RM_spelled (nI 112) (nI 117) (nI 114) (nI 108) (nI 0) (nI 0) M = some (bJ (knownN 11), M) := rfl
theorem s_cable (M : kx_M) : f_RM_spelled (nI 99) (nI 97) (nI 98) (nI 108) (nI 101) (nI 0) M = some (bJ (knownN 12), M) := rfl
theorem s_hole (M : kx_M) : f_RM_spelled (nI 104) (nI 111) (nI 108) (nI 101) (nI 0) (nI 0) M = some (bJ (knownN 13), M) := rfl
theorem s_year (M : kx_M) : f_RM_spelled (nI 121) (nI 101) (nI 97) (nI 114) (nI 0) (nI 0) M = some (bJ (knownN 14), M) := rfl
theorem s_pull (M : kx_M) : f_RM_spelled (nI 112) (nI 117) (nI 108) (nI 108) (nI 0) (nI 0) M = some (bJ (knownN 15), M) := rfl
theorem s_moth (M : kx_M) : f_RM_spelled (nI 109) (nI 111) (nI 116) (nI 104) (nI 0) (nI 0) M = some (bJ (knownN 16), M) := rfl
theorem s_darn (M : kx_M) : f_RM_spelled (nI 100) (nI 97) (nI 114) (nI 110) (nI 0) (nI 0) M = some (bJ (knownN 17), M) := rfl
theorem s_any (M : kx_M) : f_RM_spelled (nI 97) (nI 110) (nI 121) (nI 0) (nI 0) (nI 0) M = some (bJ (knownN 18), M) := rfl
theorem s_when (M : kx_M) : f_RM_spelled (nI 119) (nI 104) (nI 101) (nI 110) (nI 0) (nI 0) M = some (bJ (knownN 19), M) := rfl
theorem s_said (M : kx_M) : f_RM_spelled (nI 115) (nI 97) (nI 105) (nI 100) (nI 0) (nI 0) M = some (bJ (knownN 20), M) := rfl
theorem s_whole (M : kx_M) : f_RM_spelled (nI 119) (nI 104) (nI 111) (nI 108) (nI 101) (nI 0) M = some (bJ (knownN 21), M) := rfl
theorem s_undone (M : kx_M) : f_RM_spelled (nI 117) (nI 110) (nI 100) (nI 111) (nI 110) (nI 101) M = some (bJ (knownN 22), M) := rfl
theorem s_loop (M : kx_M) : f_RM_spelled (nI 108) (nI 111) (nI 111) (nI 112) (nI 0) (nI 0) M = some (bJ (knownN 23), M) := rfl
theorem s_end (M : kx_M) : f_RM_spelled (nI 101) (nI 110) (nI 100) (nI 0) (nI 0) (nI 0) M = some (bJ (knownN 24), M) := rfl
theorem s_stop (M : kx_M) : f_RM_spelled (nI 115) (nI 116) (nI 111) (nI 112) (nI 0) (nI 0) M = some (bJ (knownN 25), M) := rfl
theorem q_isWide (hT : TkM M t) : f_RM_isWide M = some (b2i (isK t 0), M) := by
  have e := q_isWord (k := 0) hT (by omega)
  rw [f_RM_isWide]
  simp (disch := first | assumption | omega) only [z_bdn, z_caln, z_gdn, z_iT, z_iF, z_le_t, z_le_f, z_lt_t, z_lt_f, z_cl, z_inb, z_at, z_pl, z_lit, nI_ii1, nI_add, nI_mul, z_eq_f, z_refuse, z_no, z_M00, b2i_t, b2i_f, s_wide, e, z_b01]
theorem q_isTough (hT : TkM M t) : f_RM_isTough M = some (b2i (isK t 1), M) := by
  have e := q_isWord (k := 1) hT (by omega)
  rw [f_RM_isTough]
  simp (disch := first | assumption | omega) only [z_bdn, z_caln, z_gdn, z_iT, z_iF, z_le_t, z_le_f, z_lt_t, z_lt_f, z_cl, z_inb, z_at, z_pl, z_lit, nI_ii1, nI_add, nI_mul, z_eq_f, z_refuse, z_no, z_M00, b2i_t, b2i_f, s_tough, e, z_b01]
theorem q_isQueen (hT : TkM M t) : f_RM_isQueen M = some (b2i (isK t 2), M) := by
  have e := q_isWord (k := 2) hT (by omega)
  rw [f_RM_isQueen]
  simp (disch := first | assumption | omega) only [z_bdn, z_caln, z_gdn, z_iT, z_iF, z_le_t, z_le_f, z_lt_t, z_lt_f, z_cl, z_inb, z_at, z_pl, z_lit, nI_ii1, nI_add, nI_mul, z_eq_f, z_refuse, z_no, z_M00, b2i_t, b2i_f, s_queen, e, z_b01]
theorem q_isWool (hT : TkM M t) : f_RM_isWool M = some (b2i (isK t 3), M) := by
  have e := q_isWord (k := 3) hT (by omega)
  rw [f_RM_isWool]
  simp (disch := first | assumption | omega) only [z_bdn, z_caln, z_gdn, z_iT, z_iF, z_le_t, z_le_f, z_lt_t, z_lt_f, z_cl, z_inb, z_at, z_pl, z_lit, nI_ii1, nI_add, nI_mul, z_eq_f, z_refuse, z_no, z_M00, b2i_t, b2i_f, s_wool, e, z_b01]
theorem q_isClause (hT : TkM M t) : f_RM_isClause M = some (b2i (isK t 4), M) := by
  have e := q_isWord (k := 4) hT (by omega)
  rw [f_RM_isClause]
  simp (disch := first | assumption | omega) only [z_bdn, z_caln, z_gdn, z_iT, z_iF, z_le_t, z_le_f, z_lt_t, z_lt_f, z_cl, z_inb, z_at, z_pl, z_lit, nI_ii1, nI_add, nI_mul, z_eq_f, z_refuse, z_no, z_M00, b2i_t, b2i_f, s_clause, e, z_b01]
theorem q_isIs (hT : TkM M t) : f_RM_isIs M = some (b2i (isK t 5), M) := by
  have e := q_isWord (k := 5) hT (by omega)
  rw [f_RM_isIs]
  simp (disch := first | assumption | omega) only [z_bdn, z_caln, z_gdn, z_iT, z_iF, z_le_t, z_le_f, z_lt_t, z_lt_f, z_cl, z_inb, z_at, z_pl, z_lit, nI_ii1, nI_add, nI_mul, z_eq_f, z_refuse, z_no, z_M00, b2i_t, b2i_f, s_is, e, z_b01]
theorem q_isClash (hT : TkM M t) : f_RM_isClash M = some (b2i (isK t 6), M) := by
  have e := q_isWord (k := 6) hT (by omega)
  rw [f_RM_isClash]
  simp (disch := first | assumption | omega) only [z_bdn, z_caln, z_gdn, z_iT, z_iF, z_le_t, z_le_f, z_lt_t, z_lt_f, z_cl, z_inb, z_at, z_pl, z_lit, nI_ii1, nI_add, nI_mul, z_eq_f, z_refuse, z_no, z_M00, b2i_t, b2i_f, s_clash, e, z_b01]
theorem q_isGives (hT : TkM M t) : f_RM_isGives M = some (b2i (isK t 7), M) := by
  have e := q_isWord (k := 7) hT (by omega)
  rw [f_RM_isGives]
  simp (disch := first | assumption | omega) only [z_bdn, z_caln, z_gdn, z_iT, z_iF, z_le_t, z_le_f, z_lt_t, z_lt_f, z_cl, z_inb, z_at, z_pl, z_lit, nI_ii1, nI_add, nI_mul, z_eq_f, z_refuse, z_no, z_M00, b2i_t, b2i_f, s_gives, e, z_b01]
theorem q_isCosts (hT : TkM M t) : f_RM_isCosts M = some (b2i (isK t 8), M) := by
  have e := q_isWord (k := 8) hT (by omega)
  rw [f_RM_isCosts]
  simp (disch := first | assumption | omega) only [z_bdn, z_caln, z_gdn, z_iT, z_iF, z_le_t, z_le_f, z_lt_t, z_lt_f, z_cl, z_inb, z_at, z_pl, z_lit, nI_ii1, nI_add, nI_mul, z_eq_f, z_refuse, z_no, z_M00, b2i_t, b2i_f, s_costs, e, z_b01]
theorem q_isRow (hT : TkM M t) : f_RM_isRow M = some (b2i (isK t 9), M) := by
  have e := q_isWord (k := 9) hT (by omega)
  rw [f_RM_isRow]
  simp (disch := first | assumption | omega) only [z_bdn, z_caln, z_gdn, z_iT, z_iF, z_le_t, z_le_f, z_lt_t, z_lt_f, z_cl, z_inb, z_at, z_pl, z_lit, nI_ii1, nI_add, nI_mul, z_eq_f, z_refuse, z_no, z_M00, b2i_t, b2i_f, s_row, e, z_b01]
theorem q_isEnd (hT : TkM M t) : f_RM_isEnd M = some (b2i (isK t 24), M) := by
  have e := q_isWord (k := 24) hT (by omega)
  rw [f_RM_isEnd]
  simp (disch := first | assumption | omega) only [z_bdn, z_caln, z_gdn, z_iT, z_iF, z_le_t, z_le_f, z_lt_t, z_lt_f, z_cl, z_inb, z_at, z_pl, z_lit, nI_ii1, nI_add, nI_mul, z_eq_f, z_refuse, z_no, z_M00, b2i_t, b2i_f, s_end, e, z_b01]
theorem isK_f {k j : Nat} (h : isK t k = true) (hj : k ≠ j) : isK t j = false := by
  have h := of_decide_eq_true h
  exact decide_eq_false (fun g => hj (h.2.symm.trans g.2))
def kdK (t : Tok) : Option Nat := if isK t 10 = true then some 0 else if isK t 11 = true then some 1 else if isK t 12 = true then some 2 else if isK t 13 = true then some 3 else none
def stK (t : Tok) : Option Nat := if isK t 14 = true then some 0 else if isK t 15 = true then some 1 else if isK t 16 = true then some 2 else if isK t 17 = true then some 3 else if isK t 18 = true then some 4 else if isK t 19 = true then some 5 else if isK t 23 = true then some 6 else if isK t 25 = true then some 7 else none
def tsK (t : Tok) : Option Nat := if isK t 20 = true then some 0 else if isK t 21 = true then some 1 else if isK t 22 = true then some 2 else none
theorem w_step {α : Type} {a b c d e f : Int32} {k : Nat} {v : Bool} {A B : kx_M → Option (α × kx_M)} (hs : f_RM_spelled a b c d e f M = some (bJ (knownN k), M)) (hw : f_RM_isWord (bJ (knownN k)) M = some (b2i v, M)) : (cal (f_RM_spelled a b c d e f M) fun r1 M1 => cal (f_RM_isWord r1 M1) fun r3 M2 => if r3 = 0 then A M2 else B M2) = if v = true then B M else A M := by
  rw [hs, z_cal, hw, z_cal]
  cases v
  · rfl
  · rfl
theorem c_step {α : Type} {f : Option (Int32 × kx_M)} {v : Bool} {A B : kx_M → Option (α × kx_M)} (h : f = some (b2i v, M)) : (cal f fun r M1 => if r = 0 then A M1 else B M1) = if v = true then B M else A M := by
  rw [h, z_cal]
  cases v
  · rfl
  · rfl
theorem o_step {α : Type} {f : Option (Int32 × kx_M)} {v : Option Nat} {A B : kx_M → Option (α × kx_M)} (h : f = some (oI v, M)) (hv : ∀ u, v = some u → u < 100) : (cal f fun r M1 => if 0 ≤ r then B M1 else A M1) = if v.isSome = true then B M else A M := by
  rw [h, z_cal]
  cases v with
  | none => rfl
  | some u =>
    have := hv u rfl
    show (if (0 : Int32) ≤ nI u then B M else A M) = B M
    exact if_pos (nI_le (Nat.zero_le _) (by omega))
theorem q_kindWord (hT : TkM M t) : f_RM_kindWord M = some (oI (kdK t), M) := by
  rw [f_RM_kindWord]
  unfold kdK
  refine (w_step (s_knit M) (q_isWord (k := 10) hT (by omega))).trans ?_
  cases isK t 10 with
  | true => rfl
  | false =>
    rw [z_itf, z_itf]
    refine (w_step (s_purl M) (q_isWord (k := 11) hT (by omega))).trans ?_
    cases isK t 11 with
    | true => rfl
    | false =>
      rw [z_itf, z_itf]
      refine (w_step (s_cable M) (q_isWord (k := 12) hT (by omega))).trans ?_
      cases isK t 12 with
      | true => rfl
      | false =>
        rw [z_itf, z_itf]
        refine (w_step (s_hole M) (q_isWord (k := 13) hT (by omega))).trans ?_
        cases isK t 13 with
        | true => rfl
        | false =>
          rw [z_itf, z_itf]
          rfl
theorem q_stepWord (hT : TkM M t) : f_RM_stepWord M = some (oI (stK t), M) := by
  rw [f_RM_stepWord]
  unfold stK
  refine (w_step (s_year M) (q_isWord (k := 14) hT (by omega))).trans ?_
  cases isK t 14 with
  | true => rfl
  | false =>
    rw [z_itf, z_itf]
    refine (w_step (s_pull M) (q_isWord (k := 15) hT (by omega))).trans ?_
    cases isK t 15 with
    | true => rfl
    | false =>
      rw [z_itf, z_itf]
      refine (w_step (s_moth M) (q_isWord (k := 16) hT (by omega))).trans ?_
      cases isK t 16 with
      | true => rfl
      | false =>
        rw [z_itf, z_itf]
        refine (w_step (s_darn M) (q_isWord (k := 17) hT (by omega))).trans ?_
        cases isK t 17 with
        | true => rfl
        | false =>
          rw [z_itf, z_itf]
          refine (w_step (s_any M) (q_isWord (k := 18) hT (by omega))).trans ?_
          cases isK t 18 with
          | true => rfl
          | false =>
            rw [z_itf, z_itf]
            refine (w_step (s_when M) (q_isWord (k := 19) hT (by omega))).trans ?_
            cases isK t 19 with
            | true => rfl
            | false =>
              rw [z_itf, z_itf]
              refine (w_step (s_loop M) (q_isWord (k := 23) hT (by omega))).trans ?_
              cases isK t 23 with
              | true => rfl
              | false =>
                rw [z_itf, z_itf]
                refine (w_step (s_stop M) (q_isWord (k := 25) hT (by omega))).trans ?_
                cases isK t 25 with
                | true => rfl
                | false =>
                  rw [z_itf, z_itf]
                  rfl
theorem q_testWord (hT : TkM M t) : f_RM_testWord M = some (oI (tsK t), M) := by
  rw [f_RM_testWord]
  unfold tsK
  refine (w_step (s_said M) (q_isWord (k := 20) hT (by omega))).trans ?_
  cases isK t 20 with
  | true => rfl
  | false =>
    rw [z_itf, z_itf]
    refine (w_step (s_whole M) (q_isWord (k := 21) hT (by omega))).trans ?_
    cases isK t 21 with
    | true => rfl
    | false =>
      rw [z_itf, z_itf]
      refine (w_step (s_undone M) (q_isWord (k := 22) hT (by omega))).trans ?_
      cases isK t 22 with
      | true => rfl
      | false =>
        rw [z_itf, z_itf]
        rfl
theorem kdK_lt {v : Nat} (h : kdK t = some v) : v < 4 := by
  unfold kdK at h
  repeat' split at h
  all_goals first | (cases h; omega) | cases h
theorem stK_lt {v : Nat} (h : stK t = some v) : v < 8 := by
  unfold stK at h
  repeat' split at h
  all_goals first | (cases h; omega) | cases h
theorem tsK_lt {v : Nat} (h : tsK t = some v) : v < 3 := by
  unfold tsK at h
  repeat' split at h
  all_goals first | (cases h; omega) | cases h
theorem nk {k : Nat} (h : ¬ isK t k = true) : ¬ (kS t = 2 ∧ kV t = k) := fun g => h (decide_eq_true g)
theorem kdK_none (h : kdK t = none) : ¬ (kS t = 2 ∧ 10 ≤ kV t ∧ kV t < 14) := by
  unfold kdK at h
  repeat' split at h
  all_goals first | cases h | skip
  rename_i a b c d
  have a := nk a
  have b := nk b
  have c := nk c
  have d := nk d
  omega
theorem stK_none (h : stK t = none) : ¬ (kS t = 2 ∧ ((14 ≤ kV t ∧ kV t < 20) ∨ kV t = 23 ∨ kV t = 25)) := by
  unfold stK at h
  repeat' split at h
  all_goals first | cases h | skip
  rename_i a b c d e f g i
  have a := nk a
  have b := nk b
  have c := nk c
  have d := nk d
  have e := nk e
  have f := nk f
  have g := nk g
  have i := nk i
  omega
theorem tsK_none (h : tsK t = none) : ¬ (kS t = 2 ∧ 20 ≤ kV t ∧ kV t < 23) := by
  unfold tsK at h
  repeat' split at h
  all_goals first | cases h | skip
  rename_i a b c
  have a := nk a
  have b := nk b
  have c := nk c
  omega
theorem ik {k : Nat} (h : isK t k = true) : kS t = 2 ∧ kV t = k := of_decide_eq_true h
theorem kdK_some {v : Nat} (h : kdK t = some v) : kS t = 2 ∧ kV t = 10 + v ∧ v < 4 := by
  unfold kdK at h
  repeat' split at h
  all_goals first | (cases h; rename_i g; have := ik g; omega) | cases h
theorem stK_some {v : Nat} (h : stK t = some v) : kS t = 2 ∧ ((v < 6 ∧ kV t = 14 + v) ∨ (v = 6 ∧ kV t = 23) ∨ (v = 7 ∧ kV t = 25)) := by
  unfold stK at h
  repeat' split at h
  all_goals first | (cases h; rename_i g; have := ik g; omega) | cases h
theorem tsK_some {v : Nat} (h : tsK t = some v) : kS t = 2 ∧ kV t = 20 + v ∧ v < 3 := by
  unfold tsK at h
  repeat' split at h
  all_goals first | (cases h; rename_i g; have := ik g; omega) | cases h
def isKp (t : Tok) : Bool := decide (kS t = 2 ∧ kV t < 26)
theorem q_isKept (hT : TkM M t) (h27 : kS t = 2 → kV t ≤ 27) : f_RM_isKept M = some (b2i (isKp t), M) := by
  rw [f_RM_isKept]
  refine (c_step (q_isWide hT)).trans ?_
  cases h0 : isK t 0 with
  | true =>
    have g := of_decide_eq_true h0
    rw [z_itt, show isKp t = true from decide_eq_true ⟨g.1, by omega⟩]
    rfl
  | false =>
    rw [z_itf]
    refine (c_step (q_isTough hT)).trans ?_
    cases h1 : isK t 1 with
    | true =>
      have g := of_decide_eq_true h1
      rw [z_itt, show isKp t = true from decide_eq_true ⟨g.1, by omega⟩]
      rfl
    | false =>
      rw [z_itf]
      refine (c_step (q_isQueen hT)).trans ?_
      cases h2 : isK t 2 with
      | true =>
        have g := of_decide_eq_true h2
        rw [z_itt, show isKp t = true from decide_eq_true ⟨g.1, by omega⟩]
        rfl
      | false =>
        rw [z_itf]
        refine (c_step (q_isWool hT)).trans ?_
        cases h3 : isK t 3 with
        | true =>
          have g := of_decide_eq_true h3
          rw [z_itt, show isKp t = true from decide_eq_true ⟨g.1, by omega⟩]
          rfl
        | false =>
          rw [z_itf]
          refine (c_step (q_isClause hT)).trans ?_
          cases h4 : isK t 4 with
          | true =>
            have g := of_decide_eq_true h4
            rw [z_itt, show isKp t = true from decide_eq_true ⟨g.1, by omega⟩]
            rfl
          | false =>
            rw [z_itf]
            refine (c_step (q_isIs hT)).trans ?_
            cases h5 : isK t 5 with
            | true =>
              have g := of_decide_eq_true h5
              rw [z_itt, show isKp t = true from decide_eq_true ⟨g.1, by omega⟩]
              rfl
            | false =>
              rw [z_itf]
              refine (c_step (q_isClash hT)).trans ?_
              cases h6 : isK t 6 with
              | true =>
                have g := of_decide_eq_true h6
                rw [z_itt, show isKp t = true from decide_eq_true ⟨g.1, by omega⟩]
                rfl
              | false =>
                rw [z_itf]
                refine (c_step (q_isGives hT)).trans ?_
                cases h7 : isK t 7 with
                | true =>
                  have g := of_decide_eq_true h7
                  rw [z_itt, show isKp t = true from decide_eq_true ⟨g.1, by omega⟩]
                  rfl
                | false =>
                  rw [z_itf]
                  refine (c_step (q_isCosts hT)).trans ?_
                  cases h8 : isK t 8 with
                  | true =>
                    have g := of_decide_eq_true h8
                    rw [z_itt, show isKp t = true from decide_eq_true ⟨g.1, by omega⟩]
                    rfl
                  | false =>
                    rw [z_itf]
                    refine (c_step (q_isRow hT)).trans ?_
                    cases h9 : isK t 9 with
                    | true =>
                      have g := of_decide_eq_true h9
                      rw [z_itt, show isKp t = true from decide_eq_true ⟨g.1, by omega⟩]
                      rfl
                    | false =>
                      rw [z_itf]
                      refine (o_step (q_kindWord hT) (fun u hu => by have := kdK_lt hu; omega)).trans ?_
                      cases gkdK : kdK t with
                      | some v =>
                        have g := kdK_some gkdK
                        rw [show isKp t = true from decide_eq_true ⟨g.1, by omega⟩]
                        rfl
                      | none =>
                        rw [show (if (Option.none : Option Nat).isSome = true then _ else _) = _ from if_neg (by decide)]
                        refine (o_step (q_stepWord hT) (fun u hu => by have := stK_lt hu; omega)).trans ?_
                        cases gstK : stK t with
                        | some v =>
                          have g := stK_some gstK
                          rw [show isKp t = true from decide_eq_true ⟨g.1, by omega⟩]
                          rfl
                        | none =>
                          rw [show (if (Option.none : Option Nat).isSome = true then _ else _) = _ from if_neg (by decide)]
                          refine (o_step (q_testWord hT) (fun u hu => by have := tsK_lt hu; omega)).trans ?_
                          cases gtsK : tsK t with
                          | some v =>
                            have g := tsK_some gtsK
                            rw [show isKp t = true from decide_eq_true ⟨g.1, by omega⟩]
                            rfl
                          | none =>
                            rw [show (if (Option.none : Option Nat).isSome = true then _ else _) = _ from if_neg (by decide)]
                            refine (c_step (q_isEnd hT)).trans ?_
                            have a10 := kdK_none gkdK
                            have a14 := stK_none gstK
                            have a20 := tsK_none gtsK
                            have b0 := of_decide_eq_false h0
                            have b1 := of_decide_eq_false h1
                            have b2 := of_decide_eq_false h2
                            have b3 := of_decide_eq_false h3
                            have b4 := of_decide_eq_false h4
                            have b5 := of_decide_eq_false h5
                            have b6 := of_decide_eq_false h6
                            have b7 := of_decide_eq_false h7
                            have b8 := of_decide_eq_false h8
                            have b9 := of_decide_eq_false h9
                            cases h24 : isK t 24 with
                            | true =>
                              have g := of_decide_eq_true h24
                              rw [z_itt, show isKp t = true from decide_eq_true ⟨g.1, by omega⟩]
                              rfl
                            | false =>
                              have g := of_decide_eq_false h24
                              rw [z_itf, show isKp t = false from decide_eq_false (by omega)]
                              rfl
theorem q_isName (hT : TkM M t) : f_RM_isName M = some (b2i (isK t 26), M) := by
  have z1 : (nI (sM (kS t)) = nI 1) = (kS t = 2) := propext ⟨fun e => by
    have hs4 := hT.2.2.2.2.2.2.2
    have h := (nI_eq (by unfold sM; split; omega; split <;> omega) (by omega)).mp e
    unfold sM at h
    split at h
    · omega
    · split at h <;> omega, fun e => by rw [e]; rfl⟩
  have h14 := hT.1
  rw [f_RM_isName]
  by_cases h2 : kS t = 2
  · rw [eq_true h2] at z1
    obtain ⟨e18, w27, wn⟩ := hT.2.2.2.2.1 h2
    have hA := hT.2.2.2.2.2.1
    by_cases h27 : kV t = 27
    · obtain ⟨-, hl⟩ := w27 h27
      rw [show isK t 26 = false from decide_eq_false (by omega)]
      simp (disch := first | assumption | omega) only [z_bdn, z_caln, z_gdn, z_iT, z_iF, z_le_t, z_le_f, z_lt_t, z_lt_f, z_cl, z_inb, z_at, z_pl, z_lit, nI_ii1, nI_add, nI_mul, z_eq_f, z_refuse, z_no, z_M00, b2i_t, b2i_f, h14, z1, e18]
    · obtain ⟨-, hl, hkv, -⟩ := wn h27
      have hle := keyN_le (kW t)
      have eK := q_isKept hT (fun _ => by omega)
      by_cases h26 : kV t = 26
      · rw [show isK t 26 = true from decide_eq_true ⟨h2, h26⟩]
        rw [show isKp t = false from decide_eq_false (by omega)] at eK
        simp (disch := first | assumption | omega) only [z_bdn, z_caln, z_gdn, z_iT, z_iF, z_le_t, z_le_f, z_lt_t, z_lt_f, z_cl, z_inb, z_at, z_pl, z_lit, nI_ii1, nI_add, nI_mul, z_eq_f, z_refuse, z_no, z_M00, b2i_t, b2i_f, h14, z1, e18, eK]
      · rw [show isK t 26 = false from decide_eq_false (by omega)]
        rw [show isKp t = true from decide_eq_true ⟨h2, by omega⟩] at eK
        simp (disch := first | assumption | omega) only [z_bdn, z_caln, z_gdn, z_iT, z_iF, z_le_t, z_le_f, z_lt_t, z_lt_f, z_cl, z_inb, z_at, z_pl, z_lit, nI_ii1, nI_add, nI_mul, z_eq_f, z_refuse, z_no, z_M00, b2i_t, b2i_f, h14, z1, e18, eK]
  · rw [eq_false h2] at z1
    rw [show isK t 26 = false from decide_eq_false (fun h => h2 h.1)]
    simp (disch := first | assumption | omega) only [z_bdn, z_caln, z_gdn, z_iT, z_iF, z_le_t, z_le_f, z_lt_t, z_lt_f, z_cl, z_inb, z_at, z_pl, z_lit, nI_ii1, nI_add, nI_mul, z_eq_f, z_refuse, z_no, z_M00, b2i_t, b2i_f, h14, z1]
end
