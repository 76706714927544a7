/-! ## CENTURIES' text: the class's turns -/
def CCx (M : kx_M) (s : Nat) (T : Nat → Nat) (n : Nat) (x : Cl) (y : De) : Prop := TxC M 9 T n ∧ CC M (s + 9) x ∧ CD M (s + 1) y
def CSc (M : kx_M) (s d : Nat) (T : Nat → Nat) (n : Nat) (x : Cl) (y : De) (c : Cs) : Prop := CCx M s T n x y ∧ SpC M d c ∧ OpC M (vvS c) ∧ mI M 8 2 = nI (vvS c).length
def CSt (M : kx_M) (s d : Nat) (T : Nat → Nat) (n : Nat) (x : Cl) (y : De) (c : Cs) : Prop := CSc M s d T n x y c ∧ TkC M 9 (vvT c) ∧ TkB (vvT c)
def inCc (d : Nat) : Nat → Prop := fun id => id = 8 ∨ id = 9 ∨ id = 12 ∨ (d ≤ id ∧ id ≤ d + 4)
def FrC (d : Nat) (M M' : kx_M) : Prop := Fr (inCc d) M M' ∧ mR M' 9 = mR M 9 ∧ mI M' 9 2 = mI M 9 2
def apC (s d : Nat) : Prop := (s = 47 ∧ d = 42) ∨ (s = 27 ∧ d = 62)
def RsU (s d : Nat) (T : Nat → Nat) (n : Nat) (x : Cl) (y : De) (M : kx_M) (r : Option (Int32 × kx_M)) (w : Except Er Cs) : Prop := match w with
  | .ok c1 => ∃ M', r = some (nI 1, M') ∧ CSt M' s d T n x y c1 ∧ FrC d M M'
  | .error er => ∃ M', r = some (nI 0, M') ∧ ErC 9 M' er ∧ FrC d M M'
def cBody (T : Nat → Nat) (n : Nat) (x : Cl) (y : De) (c : Cs) : Except Er Cs :=
  if isK (vvT c) 24 = true then (match vvS c with
    | [] => .error (flt (vvT c) 2)
    | q :: L => .ok (cEnd c q.1 q.2 (nx T n (vvT c)) L))
  else match stK (vvT c) with
    | none => .error (flt (vvT c) 2)
    | some ki => if 30 ≤ vvK c then .error (flt (vvT c) 6)
      else if isBd ki = true ∧ 3 ≤ (vvS c).length then .error (flt (vvT c) 7)
      else match pStp T n x y ki (nx T n (vvT c)) with
        | .error e => .error e
        | .ok r => .ok (cBeg c ki r r.2.2)
section
variable {M M' M1 M2 : kx_M} {T : Nat → Nat} {n d e s : Nat} {t : Tok} {x : Cl} {y : De} {c c1 : Cs} {o a b : Nat}
theorem cTurn_b : cTurn T n x y c = (match cBody T n x y c with
    | .error e => .error e
    | .ok c1 => match pSig T n 59 (vvT c1) with
      | .error e => .error e
      | .ok t => .ok (t, c1.2)) := by
  unfold cTurn cBody
  by_cases h : isK (vvT c) 24 = true
  · rw [if_pos h, if_pos h]
    cases hS : vvS c with
    | nil => rfl
    | cons q L =>
      show (match pSig T n 59 (nx T n (vvT c)) with | .error e => _ | .ok t => _) = (match pSig T n 59 (nx T n (vvT c)) with | .error e => _ | .ok t => _)
      cases pSig T n 59 (nx T n (vvT c)) <;> rfl
  · rw [if_neg h, if_neg h]
    cases hk : stK (vvT c) with
    | none => rfl
    | some ki =>
      show (if 30 ≤ vvK c then _ else _) = _
      by_cases h1 : 30 ≤ vvK c
      · simp only [if_pos h1]
      · simp only [if_neg h1]
        by_cases h2 : isBd ki = true ∧ 3 ≤ (vvS c).length
        · simp only [if_pos h2]
        · simp only [if_neg h2]
          cases hp : pStp T n x y ki (nx T n (vvT c)) with
          | error er => rfl
          | ok r =>
            show (match pSig T n 59 r.2.2 with | .error e => _ | .ok t => _) = (match pSig T n 59 r.2.2 with | .error e => _ | .ok t => _)
            cases pSig T n 59 r.2.2 <;> rfl
theorem FrC.rf : FrC d M M := ⟨Fr.rf, rfl, rfl⟩
theorem FrC.tr {A B C : kx_M} (h : FrC d A B) (g : FrC d B C) : FrC d A C := ⟨h.1.tr g.1, g.2.1.trans h.2.1, g.2.2.trans h.2.2⟩
theorem FrC.Y (h : FrY d M M') : FrC d M M' := ⟨h.1.mono (fun id e => by unfold inCc; omega), h.2.1, h.2.2⟩
theorem FrC.R (h : FrR 9 M M') : FrC d M M' := FrC.Y (FrY.R h)
theorem FrC.S (hd : 27 ≤ d) (h : Fr (fun id => id = 8 ∨ id = 12 ∨ (d ≤ id ∧ id ≤ d + 4)) M M') : FrC d M M' := ⟨h.mono (fun id e => by unfold inCc; omega), funext (fun k => (h 9 (by omega)).2.2.2.2 k), (h 9 (by omega)).1 2⟩
theorem CCx_C (hs : apC s d) (h : CCx M s T n x y) (hF : FrC d M M') : CCx M' s T n x y := by
  unfold apC at hs
  obtain ⟨⟨h1, h2, h3, h4, h5⟩, hC, hD⟩ := h
  refine ⟨⟨by rw [hF.2.1]; exact h1, hF.2.2.trans h2, h3, fun i hi => ?_, fun k hk => ?_⟩, CC_fr hF.1 (fun id h1 h2 e => by unfold inCc at e; omega) hC, CD_fr hF.1 (fun id h1 h2 e => by unfold inCc at e; omega) hD⟩
  · rw [(hF.1 2 (fun e => by unfold inCc at e; omega)).2.2.1]; exact h4 i hi
  · rw [(hF.1 (9 + 1) (fun e => by unfold inCc at e; omega)).2.2.2.1]; exact h5 k hk
theorem TkC_8 (hd : 27 ≤ d) (h : TkC M 9 t) (hF : Fr (fun id => id = 8 ∨ id = 12 ∨ (d ≤ id ∧ id ≤ d + 4)) M M') : TkC M' 9 t := by
  have g := hF 9 (by omega)
  unfold TkC
  rw [g.1, g.1, g.1, g.1, g.1, g.1, g.2.1]
  exact h
theorem AdC_Sp {k : Nat} {z : Nat → Nat → Nat} {st : List (Nat × Nat)} (h : AdC M M' d (vvE c) o a b) (h5 : mI M d 5 = nI k) (hS : ∀ i, i < vvE c → mA M (d + 1) i = nI (vvO c i) ∧ mA M (d + 2) i = nI (vvA c i) ∧ mA M (d + 3) i = nI (vvB c i) ∧ mA M (d + 4) i = nI (vvM c i)) : SpC M' d (addE c t k z o a b st) := by
  obtain ⟨g1, g2, g3, g4, g5, g6⟩ := h
  refine ⟨(g2 5 (by decide)).trans h5, g1, fun i hi => ?_⟩
  have hi : i < vvE c + 1 := hi
  show mA M' (d + 1) i = nI (updN (vvO c) (vvE c) o i) ∧ mA M' (d + 2) i = nI (updN (vvA c) (vvE c) a i) ∧ mA M' (d + 3) i = nI (updN (vvB c) (vvE c) b i) ∧ mA M' (d + 4) i = nI (updN (vvM c) (vvE c) (vvE c) i)
  rw [g3, g4, g5, g6]
  unfold updN
  by_cases he : i = vvE c
  · simp only [if_pos he, and_self]
  · simp only [if_neg he]
    exact hS i (by omega)
theorem q_cEnd {q : Nat × Nat} {L : List (Nat × Nat)} (hs : apC s d) (h : CSt M s d T n x y c) (hS : vvS c = q :: L) (hq : q.2 < vvE c) (hE : vvE c < 60) (hL : L.length < 3) (ha : kA (vvT c) ≤ n) : ∃ M', f_CenturyText_readEnd d M = some (nI 1, M') ∧ CSt M' s d T n x y (cEnd c q.1 q.2 (nx T n (vvT c)) L) ∧ FrC d M M' := by
  have hd : 27 ≤ d := by unfold apC at hs; omega
  obtain ⟨⟨hX, ⟨s1, s2, s3⟩, hOp, h8⟩, hT, hB⟩ := h
  rw [hS] at hOp h8
  have h8 : mI M 8 2 = nI (L.length + 1) := h8
  obtain ⟨o1, o2⟩ := hOp
  have es : nI (L.length + 1) - nI 1 = nI L.length := by rw [z_sub (by omega)]; rfl
  have z8 : (nI (L.length + 1) = nI 0) = False := z_eq_f (by omega) (by omega) (by omega)
  have n8 : ¬ d = 8 := by omega
  have i6 : mI (sI M 8 2 (nI L.length)) d 6 = nI (vvE c) := by rw [mI_sI, if_neg (by omega)]; exact s2
  obtain ⟨M3, a1, a2, a3, a4, a5, a6, a7, a8⟩ := q_add (M := sI M 8 2 (nI L.length)) (o := 24) (a := 0) (b := 0) hd hE i6
  have f8 : mI M3 8 2 = nI L.length := by rw [(a8 8 (by omega)).1, mI_sI, if_pos ⟨rfl, rfl⟩]
  have f12 : ∀ i, mA M3 12 i = mA M 12 i := fun i => by rw [(a8 12 (by omega)).2.2.1]; rfl
  have e12 : mA M3 12 L.length = nI q.2 := (f12 _).trans o1
  have e6 : nI (vvE c + 1) - nI 1 = nI (vvE c) := by rw [z_sub (by omega)]; rfl
  obtain ⟨M4, b1, b2, b3, b4⟩ := q_couple (M := M3) (d := d) (p := q.2) (e := vvE c) (by omega) hE (by omega)
  have hF0 : Fr (fun id => id = 8 ∨ id = 12 ∨ (d ≤ id ∧ id ≤ d + 4)) M M4 := Fr.tr (Fr.sI (Or.inl rfl)) ((a8.mono (fun id e => Or.inr (Or.inr e))).tr (b3.mono (fun id e => by omega)))
  have hT4 := TkC_8 hd hT hF0
  have hX4 := CCx_C hs hX (FrC.S hd hF0)
  obtain ⟨M5, c1, c2, c3⟩ := q_next (by omega) hX4.1 ha hT4.1
  have g0 := c3.1 d (by omega)
  refine ⟨M5, ?_, ⟨⟨CCx_C hs hX4 (FrC.R c3), ⟨?_, ?_, fun i hi => ?_⟩, OpC_fr (fun i hi => ?_) o2, ?_⟩, c2, TkB_x hX.1 ha⟩, (FrC.S hd hF0).tr (FrC.R c3)⟩
  · rw [f_CenturyText_readEnd]
    simp (disch := first | assumption | omega) only [z_bdn, z_caln, z_gdn, z_iT, z_iF, z_le_t, z_le_f, z_lt_t, z_lt_f, z_cl, z_inb, z_at, z_pl, z_lit, nI_ii1, nI_add, z_mr, z_ref0, z_refn, z_eq_f, Bool.not_true, Bool.not_false, b2i_t, b2i_f, h8, z8, es, a1, f8, e12, a2, e6, b1, c1]
  · rw [g0.1, b4, a3 5 (by decide), mI_sI, if_neg (by omega)]; exact s1
  · rw [g0.1, b4]; exact a2
  · have hi : i < vvE c + 1 := hi
    show mA M5 (d + 1) i = nI (updN (vvO c) (vvE c) 24 i) ∧ mA M5 (d + 2) i = nI (updN (vvA c) (vvE c) 0 i) ∧ mA M5 (d + 3) i = nI (updN (vvB c) (vvE c) 0 i) ∧ mA M5 (d + 4) i = nI (updN (updN (vvM c) q.2 (vvE c)) (vvE c) q.2 i)
    rw [(c3.1 (d + 1) (by omega)).2.2.1, (c3.1 (d + 2) (by omega)).2.2.1, (c3.1 (d + 3) (by omega)).2.2.1, (c3.1 (d + 4) (by omega)).2.2.1, (b3 (d + 1) (by omega)).2.2.1, (b3 (d + 2) (by omega)).2.2.1, (b3 (d + 3) (by omega)).2.2.1, b2, a4, a5, a6, a7]
    unfold updN
    by_cases he : i = vvE c
    · simp only [if_pos he, and_self]
    · simp only [if_neg he]
      obtain ⟨k1, k2, k3, k4⟩ := s3 i (by omega)
      refine ⟨k1, k2, k3, ?_⟩
      by_cases hp : i = q.2
      · rw [if_pos hp, if_pos hp]
      · rw [if_neg hp, if_neg hp]; exact k4
  · rw [(c3.1 12 (by omega)).2.2.1, (b3 12 (by omega)).2.2.1]; exact f12 i
  · rw [(c3.1 8 (by omega)).1, b4]; exact f8
theorem q_begins (hT : TkC M 9 t) (hB : TkB t) : f_CenturyText_beginsStep (mI M 9 6) M = some (b2i (stK t).isSome, M) := by
  have h27 := hB.2.1
  rw [hT.2.2.2.1]
  cases hk : stK t with
  | none =>
    have hn := stK_none hk
    by_cases h2 : kS t = 2
    · rw [if_pos h2]
      have := h27 h2
      have n23 : kV t ≠ 23 := fun e => hn ⟨h2, by omega⟩
      have n25 : kV t ≠ 25 := fun e => hn ⟨h2, by omega⟩
      have n14 : ¬ (14 ≤ kV t ∧ kV t < 20) := fun e => hn ⟨h2, by omega⟩
      have z23 : (nI (kV t) = nI 23) = False := z_kn n23 (by omega) (by omega)
      have z25 : (nI (kV t) = nI 25) = False := z_kn n25 (by omega) (by omega)
      rw [f_CenturyText_beginsStep]
      by_cases h1 : kV t < 14
      · simp (disch := first | assumption | omega) only [z_bdn, z_caln, z_gdn, z_iT, z_iF, z_le_t, z_le_f, z_lt_t, z_lt_f, z_cl, z_inb, z_at, z_pl, z_lit, nI_ii1, nI_add, z_mr, z_ref0, z_refn, z_eq_f, Bool.not_true, Bool.not_false, b2i_t, b2i_f, f_CenturyText_beginsStep_l12, z23, z25]
        rfl
      · have h3 : 19 < kV t := by omega
        simp (disch := first | assumption | omega) only [z_bdn, z_caln, z_gdn, z_iT, z_iF, z_le_t, z_le_f, z_lt_t, z_lt_f, z_cl, z_inb, z_at, z_pl, z_lit, nI_ii1, nI_add, z_mr, z_ref0, z_refn, z_eq_f, Bool.not_true, Bool.not_false, b2i_t, b2i_f, f_CenturyText_beginsStep_l12, z23, z25]
        rfl
    · rw [if_neg h2]
      rfl
  | some ki =>
    obtain ⟨h2, h3⟩ := stK_some hk
    rw [if_pos h2]
    rcases h3 with ⟨k1, k2⟩ | ⟨k1, k2⟩ | ⟨k1, k2⟩
    · rw [k2, f_CenturyText_beginsStep]
      simp (disch := first | assumption | omega) only [z_bdn, z_caln, z_gdn, z_iT, z_iF, z_le_t, z_le_f, z_lt_t, z_lt_f, z_cl, z_inb, z_at, z_pl, z_lit, nI_ii1, nI_add, z_mr, z_ref0, z_refn, z_eq_f, Bool.not_true, Bool.not_false, b2i_t, b2i_f]
      rfl
    · rw [k2]
      rfl
    · rw [k2]
      rfl
theorem opK_of {ki : Nat} (hT : TkC M 9 t) (hk : stK t = some ki) : mI M 9 6 = nI (opK ki) := by
  obtain ⟨h2, h3⟩ := stK_some hk
  rw [hT.2.2.2.1, if_pos h2]
  unfold opK
  rcases h3 with ⟨k1, k2⟩ | ⟨k1, k2⟩ | ⟨k1, k2⟩
  · rw [if_pos k1, k2]
  · rw [if_neg (by omega), if_pos k1, k2]
  · rw [if_neg (by omega), if_neg (by omega), k2]
/-- a step behind its word -/
theorem q_cl85 {ki : Nat} (hki : ki < 8) (hs : apC s d) (hO : OkC x) (hP : OkD (cW x) y) (h : CSt M s d T n x y c) (hK : vvK c < 30) (hE : vvE c < 60) (hL : isBd ki = true → (vvS c).length < 3) (ha : kA (vvT c) ≤ n) : RsU s d T n x y M (f_CenturyText_readStep_l85 s d (nI (opK ki)) (b2i (isBd ki)) M) (match pStp T n x y ki (nx T n (vvT c)) with
        | .error e => .error e
        | .ok r => .ok (cBeg c ki r r.2.2)) := by
  have hd : 27 ≤ d := by unfold apC at hs; omega
  have hs2 : s = 27 ∨ s = 47 := by unfold apC at hs; omega
  obtain ⟨⟨hX, ⟨s1, s2, s3⟩, hOp, h8⟩, hT, hB⟩ := h
  have go : ∀ M2, mI M2 d 5 = nI (vvK c + 1) → mI M2 d 6 = nI (vvE c) → (∀ i, i < vvE c → mA M2 (d + 1) i = nI (vvO c i) ∧ mA M2 (d + 2) i = nI (vvA c i) ∧ mA M2 (d + 3) i = nI (vvB c i) ∧ mA M2 (d + 4) i = nI (vvM c i)) → OpC M2 (if isBd ki = true then (vvK c, vvE c) :: vvS c else vvS c) → mI M2 8 2 = nI (if isBd ki = true then (vvK c, vvE c) :: vvS c else vvS c).length → Fr (fun id => id = 8 ∨ id = 12 ∨ (d ≤ id ∧ id ≤ d + 4)) M M2 → RsU s d T n x y M (f_CenturyText_readStep_l123 s d (nI (opK ki)) M2) (match pStp T n x y ki (nx T n (vvT c)) with
        | .error e => .error e
        | .ok r => .ok (cBeg c ki r r.2.2)) := by
    intro M2 m5 m6 m3 mO m8 hF
    have hX2 := CCx_C hs hX (FrC.S hd hF)
    have hT2 := TkC_8 hd hT hF
    have g := q_cStp hki hs2 hO hP hX2.2.1 hX2.2.2 hd hE hX2.1 hT2 hB ha m6
    cases hp : pStp T n x y ki (nx T n (vvT c)) with
    | error er =>
      rw [hp] at g
      obtain ⟨M3, a1, a2, a3⟩ := g
      exact ⟨M3, a1, a2, (FrC.S hd hF).tr (FrC.Y a3)⟩
    | ok r =>
      rw [hp] at g
      obtain ⟨M3, a1, a2, a3, a4, a5⟩ := g
      refine ⟨M3, a1, ⟨⟨CCx_C hs hX2 (FrC.Y a5), AdC_Sp a2 m5 m3, OpC_fr (fun i hi => ?_) mO, ?_⟩, a3, a4⟩, (FrC.S hd hF).tr (FrC.Y a5)⟩
      · rw [(a5.1 12 (by omega)).2.2.1]
      · rw [(a5.1 8 (by omega)).1]; exact m8
  have n8 : ¬ d = 8 := by omega
  have n8' : ¬ 8 = d := by omega
  cases hb : isBd ki with
  | false =>
    rw [f_CenturyText_readStep_l85, b2i_f]
    have g := go (sI M d 5 (nI (vvK c + 1))) (by rw [m_same]; rfl) (by rw [m_same]; exact s2) s3 (by rw [hb, z_itf]; exact OpC_fr (M := M) (fun i hi => rfl) hOp) (by rw [hb, z_itf, mI_sI, if_neg (by omega)]; exact h8) (Fr.sI (by omega))
    have toL : ∀ R, f_CenturyText_readStep_l123 s d (nI (opK ki)) (sI M d 5 (nI (vvK c + 1))) = R → (bd (sI M d 5 (mI M d 5 + 1)) fun M1 => if nI 0 = 0 then f_CenturyText_readStep_l123 s d (nI (opK ki)) M1 else gd (inb (mI M1 8 2) 3) <| bd (sA M1 12 (upd (mA M1 12) (mI M1 8 2).toNatClampNeg (mI M1 d 6))) fun M2 => bd (sI M2 8 2 ((mI M2 8 2) + (1 : Int32))) fun M3 => f_CenturyText_readStep_l123 s d (nI (opK ki)) M3) = R := by
      intro R hR
      simp (disch := first | assumption | omega) only [z_bdn, z_caln, z_gdn, z_iT, z_iF, z_le_t, z_le_f, z_lt_t, z_lt_f, z_cl, z_inb, z_at, z_pl, z_lit, nI_ii1, nI_add, z_mr, z_ref0, z_refn, z_eq_f, Bool.not_true, Bool.not_false, b2i_t, b2i_f, s1, eq_self]
      exact hR
    have e := toL _ rfl
    rw [e]
    exact g
  | true =>
    have hL3 := hL hb
    rw [f_CenturyText_readStep_l85, b2i_t]
    obtain ⟨M2, hM2⟩ : ∃ M2, M2 = sI (sA (sI M d 5 (nI (vvK c + 1))) 12 (upd (mA M 12) (vvS c).length (nI (vvE c)))) 8 2 (nI ((vvS c).length + 1)) := ⟨_, rfl⟩
    have g := go M2 (by rw [hM2, mI_sI, if_neg (by omega), mI_sA, m_same]; rfl) (by rw [hM2, mI_sI, if_neg (by omega), mI_sA, m_same]; exact s2) (fun i hi => by
        rw [hM2, mA_sI, mA_sI, mA_sI, mA_sI, mA_sA, mA_sA, mA_sA, mA_sA, if_neg (by omega), if_neg (by omega), if_neg (by omega), if_neg (by omega)]
        exact s3 i hi) (by
        rw [hb, z_itt]
        have e12 : ∀ i, mA M2 12 i = if i = (vvS c).length then nI (vvE c) else mA M 12 i := fun i => by rw [hM2, mA_sI, mA_sA, if_pos rfl, upd_at]
        exact ⟨by rw [e12, if_pos rfl], OpC_fr (fun i hi => by rw [e12, if_neg (by omega)]) hOp⟩) (by rw [hb, z_itt, hM2, m_same]; rfl) (by
        rw [hM2]
        exact Fr.tr (Fr.sI (by omega)) (Fr.tr (Fr.sA (by omega)) (Fr.sI (by omega))))
    have e81 : mI (sI M d 5 (nI (vvK c + 1))) 8 2 = nI (vvS c).length := by rw [mI_sI, if_neg (by omega)]; exact h8
    have e6 : mI (sI M d 5 (nI (vvK c + 1))) d 6 = nI (vvE c) := by rw [m_same]; exact s2
    have e82 : ∀ f, mI (sA (sI M d 5 (nI (vvK c + 1))) 12 f) 8 2 = nI (vvS c).length := fun f => e81
    have e12 : mA (sI M d 5 (nI (vvK c + 1))) 12 = mA M 12 := rfl
    have toL : ∀ R, f_CenturyText_readStep_l123 s d (nI (opK ki)) M2 = R → (bd (sI M d 5 (mI M d 5 + 1)) fun M1 => if nI 1 = 0 then f_CenturyText_readStep_l123 s d (nI (opK ki)) M1 else gd (inb (mI M1 8 2) 3) <| bd (sA M1 12 (upd (mA M1 12) (mI M1 8 2).toNatClampNeg (mI M1 d 6))) fun M2 => bd (sI M2 8 2 ((mI M2 8 2) + (1 : Int32))) fun M3 => f_CenturyText_readStep_l123 s d (nI (opK ki)) M3) = R := by
      intro R hR
      rw [hM2] at hR
      simp (disch := first | assumption | omega) only [z_bdn, z_caln, z_gdn, z_iT, z_iF, z_le_t, z_le_f, z_lt_t, z_lt_f, z_cl, z_inb, z_at, z_pl, z_lit, nI_ii1, nI_add, z_mr, z_ref0, z_refn, z_eq_f, Bool.not_true, Bool.not_false, b2i_t, b2i_f, s1, e81, e6, e82, e12]
      exact hR
    have e := toL _ rfl
    rw [e]
    exact g
end
