def PD (M : kx_M) (d : Nat) (y : De) : Prop := mI M d 7 = nI (dQ y) ∧ mI M d 8 = nI (dC y) ∧ (∀ q, q < dQ y → mA M (d + 1) q = nI (dO y q) ∧ mB M (d + 2) q = dN y q) ∧ (∀ k, k < dC y → mB M (d + 3) k = dM y k ∧ mA M (d + 4) k = nI (dL y k)) ∧ (∀ k i, k < dC y → i < dL y k → mA M (d + 5) (5 * k + i) = nI (dK y (5 * k + i))) ∧ (∀ k i, k < 6 → i < 6 → mA M (d + 6) (6 * k + i) = nI (dX y (6 * k + i))) ∧ (∀ v q k, v < 2 → q < 4 → k < 6 → mA M (d + 7) (24 * v + 6 * q + k) = nI (dV y (24 * v + 6 * q + k)))
def CB (M : kx_M) (u : Nat) (T : Nat → Nat) (n : Nat) (x : Cl) (y : De) (a b : Bool) : Prop := TxC M 5 T n ∧ CC M (u + 9) x ∧ PD M (u + 1) y ∧ mI M 4 1 = b2i a ∧ mI M 4 2 = b2i b
def CPs (M : kx_M) (u : Nat) (T : Nat → Nat) (n : Nat) (s : Ps) : Prop := CB M u T n (sX s) (sY s) (sW s) (sH s) ∧ TkC M 5 (sT s) ∧ TkB (sT s)
def inPc (u : Nat) : Nat → Prop := fun id => id = 4 ∨ id = 5 ∨ (u + 1 ≤ id ∧ id ≤ u + 14)
def RsC (u : Nat) (T : Nat → Nat) (n : Nat) (M : kx_M) (r : Option (Int32 × kx_M)) (e : Except Er Ps) : Prop := match e with
  | .ok s1 => ∃ M', r = some (nI 1, M') ∧ CPs M' u T n s1 ∧ Fr (inPc u) M M'
  | .error er => ∃ M', r = some (nI 0, M') ∧ ErC 5 M' er ∧ Fr (inPc u) M M'
section
variable {M M' M1 : kx_M} {T : Nat → Nat} {n u : Nat} {t : Tok} {x : Cl} {y : De} {a b : Bool} {s : Ps}
theorem PD_fr {p : Nat → Prop} {d : Nat} (h : Fr p M M') (hp : ∀ id, d ≤ id → id ≤ d + 7 → ¬ p id) (hD : PD M d y) : PD M' d y := by
  obtain ⟨h1, h2, h3, h4, h5, h6, h7⟩ := hD
  have g0 := h d (hp d (by omega) (by omega))
  unfold PD
  rw [(h (d + 1) (hp _ (by omega) (by omega))).2.2.1, (h (d + 2) (hp _ (by omega) (by omega))).2.2.2.1, (h (d + 3) (hp _ (by omega) (by omega))).2.2.2.1, (h (d + 4) (hp _ (by omega) (by omega))).2.2.1, (h (d + 5) (hp _ (by omega) (by omega))).2.2.1, (h (d + 6) (hp _ (by omega) (by omega))).2.2.1, (h (d + 7) (hp _ (by omega) (by omega))).2.2.1, g0.1, g0.1]
  exact ⟨h1, h2, h3, h4, h5, h6, h7⟩
theorem PD_CD {d W : Nat} (hP : OkD W y) (h : PD M d y) : CD M d y := ⟨h.1, h.2.1, h.2.2.1, h.2.2.2.1, h.2.2.2.2.1, fun k i hk hi => h.2.2.2.2.2.1 k i (by have := hP.2.1; omega) (by have := hP.2.1; omega), fun v q k hv hq hk => h.2.2.2.2.2.2 v q k hv (by have := hP.1; omega) (by have := hP.2.1; omega)⟩
theorem CB_R (hu : 27 ≤ u) (h : CB M u T n x y a b) (hF : FrR 5 M M') : CB M' u T n x y a b := by
  obtain ⟨h1, h2, h3, h4, h5⟩ := h
  have e4 := (hF.1 4 (by omega)).1
  exact ⟨TxC_R (by omega) h1 hF, CC_fr hF.1 (fun id a b e => by omega) h2, PD_fr hF.1 (fun id a b e => by omega) h3, (e4 1).trans h4, (e4 2).trans h5⟩
theorem Pc_R (hF : FrR 5 M M') : Fr (inPc u) M M' := hF.1.mono (fun id e => Or.inr (Or.inl e))
/-- what is written into the treaty that is read -/
theorem CB_Tx (hu : 27 ≤ u) (h : TxC M 5 T n) (hF : Fr (fun id => id = 4 ∨ (u + 1 ≤ id ∧ id ≤ u + 14)) M M') : TxC M' 5 T n := by
  obtain ⟨h1, h2, h3, h4, h5⟩ := h
  refine ⟨((hF 5 (by omega)).2.2.2.2 1).trans h1, ((hF 5 (by omega)).1 2).trans h2, h3, fun i hi => ?_, fun k hk => ?_⟩
  · rw [(hF 2 (by omega)).2.2.1]; exact h4 i hi
  · rw [(hF 6 (by omega)).2.2.2.1]; exact h5 k hk
theorem TkC_fr (h : TkC M 5 t) (hF : Fr (fun id => id = 4 ∨ (u + 1 ≤ id ∧ id ≤ u + 14)) M M') (hu : 27 ≤ u) : TkC M' 5 t := by
  have g := hF 5 (by omega)
  unfold TkC
  rw [g.1, g.1, g.1, g.1, g.1, g.1, g.2.1]
  exact h
theorem Pc_W (hF : Fr (fun id => id = 4 ∨ (u + 1 ≤ id ∧ id ≤ u + 14)) M M') : Fr (inPc u) M M' := hF.mono (fun id e => e.elim Or.inl (fun e => Or.inr (Or.inr e)))
/-- the next token -/
theorem q_nx (hu : 27 ≤ u) (h : CB M u T n x y a b) (hT : TkC M 5 t) (ha : kA t ≤ n) : ∃ M', f_Reader_next 5 M = some ((), M') ∧ TkC M' 5 (nx T n t) ∧ TkB (nx T n t) ∧ CB M' u T n x y a b ∧ FrR 5 M M' := by
  obtain ⟨M', a1, a2, a3⟩ := q_next (by omega) h.1 ha hT.1
  exact ⟨M', a1, a2, TkB_x h.1 ha, CB_R hu h a3, a3⟩
theorem q_failP {k : Nat} (hT : TkC M 5 t) (hB : TkB t) : ∃ M', f_Reader_fail 5 (nI k) M = some (nI 0, M') ∧ ErC 5 M' (flt t k) ∧ Fr (inPc u) M M' := by
  obtain ⟨M', a1, a2, a3⟩ := q_fail (k := k) hT hB
  exact ⟨M', a1, a2, Pc_R a3⟩
theorem q_pMea {isW : Bool} (hu : u = 27 ∨ u = 47) (h : CPs M u T n s) (hO : POk n s) : RsC u T n M (f_TreatyText_readMeasure u (nI (if isW = true then 0 else 1)) M) (pMea T n isW s) := by
  obtain ⟨hB, hT, hTB⟩ := h
  have hu27 : 27 ≤ u := by omega
  obtain ⟨o1, -, o3, -, -, ha⟩ := hO
  have w3 := o1.2.2.1
  have w2 := o3.2.1
  have eR : mI M (u + 9) 7 = nI (cR (sX s)) := hB.2.1.2.2.1
  have eC : mI M (u + 1) 8 = nI (dC (sY s)) := hB.2.2.1.2.1
  have b0 : b01 (nI 0) = true := by decide
  have f2 := q_failP (u := u) (k := 2) hT hTB
  have f5 := q_failP (u := u) (k := 5) hT hTB
  rw [f_TreatyText_readMeasure]
  by_cases h0 : 0 < cR (sX s) ∨ 0 < dC (sY s)
  · have ep : pMea T n isW s = .error (flt (sT s) 2) := by unfold pMea; rw [if_pos h0]
    rw [ep]
    obtain ⟨Mf, f1, f2, f3⟩ := f2
    refine ⟨Mf, ?_, f2, f3⟩
    by_cases hr : 0 < cR (sX s)
    · simp (disch := first | assumption | omega) only [z_bdn, z_caln, z_gdn, z_iT, z_iF, z_le_t, z_le_f, z_lt_t, z_lt_f, z_cl, z_inb, z_at, z_lit, nI_ii1, nI_add, z_mr, z_ref0, z_refn, z_eq_f, Bool.not_true, Bool.not_false, b2i_t, b2i_f, eR, f1, b0]
    · have hc : 0 < dC (sY s) := by omega
      simp (disch := first | assumption | omega) only [z_bdn, z_caln, z_gdn, z_iT, z_iF, z_le_t, z_le_f, z_lt_t, z_lt_f, z_cl, z_inb, z_at, z_lit, nI_ii1, nI_add, z_mr, z_ref0, z_refn, z_eq_f, Bool.not_true, Bool.not_false, b2i_t, b2i_f, eR, eC, f1, b0]
  · have hR : cR (sX s) = 0 := by omega
    have hC : dC (sY s) = 0 := by omega
    rw [hR] at eR
    rw [hC] at eC
    cases isW with
    | true =>
      rw [z_itt]
      have e41 := hB.2.2.2.1
      have toL : ∀ R, f_TreatyText_readMeasure_l38 u (nI 0) (nI 1) M = R → (if 0 < mI M (u + 9) 7 then cal (f_Reader_fail 5 2 M) fun r1 M1 => gd (b01 r1) (some (r1, M1)) else if mI M (u + 1) 8 ≤ 0 then if nI 0 = 0 then f_TreatyText_readMeasure_l38 u (nI 0) 1 M else f_TreatyText_readMeasure_l38 u (nI 0) 0 M else cal (f_Reader_fail 5 2 M) fun r4 M2 => gd (b01 r4) (some (r4, M2))) = R := by
        intro R hR
        simp (disch := first | assumption | omega) only [z_bdn, z_caln, z_gdn, z_iT, z_iF, z_le_t, z_le_f, z_lt_t, z_lt_f, z_cl, z_inb, z_at, z_lit, nI_ii1, nI_add, z_mr, z_ref0, z_refn, z_eq_f, Bool.not_true, Bool.not_false, b2i_t, b2i_f, eR, eC, eq_self]
        exact hR
      cases hw : sW s with
      | true =>
        have ep : pMea T n true s = .error (flt (sT s) 5) := by unfold pMea; rw [if_neg h0, z_itt, hw, z_itt]
        rw [ep]
        rw [hw] at e41
        obtain ⟨Mf, f1, f2, f3⟩ := f5
        refine ⟨Mf, toL _ ?_, f2, f3⟩
        rw [f_TreatyText_readMeasure_l38]
        simp (disch := first | assumption | omega) only [z_bdn, z_caln, z_gdn, z_iT, z_iF, z_le_t, z_le_f, z_lt_t, z_lt_f, z_cl, z_inb, z_at, z_lit, nI_ii1, nI_add, z_mr, z_ref0, z_refn, z_eq_f, Bool.not_true, Bool.not_false, b2i_t, b2i_f, e41, f1, b0]
      | false =>
        rw [hw] at e41
        obtain ⟨M1, a1, a2, a3, a4, a5⟩ := q_nx hu27 hB hT ha
        have hn := q_atNumber (lo := 1) (hi := 8) a2 a3 (by omega) (by omega)
        cases hp : pNum 1 8 (nx T n (sT s)) with
        | error er =>
          rw [hp] at hn
          obtain ⟨M2, b1, b2, b3⟩ := hn
          have ep : pMea T n true s = .error er := by unfold pMea; rw [if_neg h0, z_itt, hw, z_itf, z_itt, hp]
          rw [ep]
          refine ⟨M2, toL _ ?_, b2, (Pc_R a5).tr (Pc_R b3)⟩
          rw [f_TreatyText_readMeasure_l38]
          simp (disch := first | assumption | omega) only [z_bdn, z_caln, z_gdn, z_iT, z_iF, z_le_t, z_le_f, z_lt_t, z_lt_f, z_cl, z_inb, z_at, z_lit, nI_ii1, nI_add, z_mr, z_ref0, z_refn, z_eq_f, Bool.not_true, Bool.not_false, b2i_t, b2i_f, e41, f_TreatyText_readMeasure_l69, f_TreatyText_readMeasure_l92, a1, b1]
        | ok v =>
          rw [hp] at hn
          obtain ⟨b1, b2⟩ := hn
          have ep : pMea T n true s = .ok (nx T n (nx T n (sT s)), wWi (sX s) v, sY s, true, sH s) := by unfold pMea; rw [if_neg h0, z_itt, hw, z_itf, z_itt, hp]; rfl
          rw [ep]
          have hFw : Fr (fun id => id = 4 ∨ (u + 1 ≤ id ∧ id ≤ u + 14)) M1 (sI (sI M1 (u + 9) 5 (nI v)) 4 1 (nI 1)) := Fr.tr (Fr.sI (Or.inr (by omega))) (Fr.sI (Or.inl rfl))
          have hC2 : CC (sI (sI M1 (u + 9) 5 (nI v)) 4 1 (nI 1)) (u + 9) (wWi (sX s) v) := by
            obtain ⟨g1, g2, g3, g4, g5, g6⟩ := a4.2.1
            refine CC_fr (M := sI M1 (u + 9) 5 (nI v)) (p := fun id => id = 4) (Fr.sI rfl) (fun id h1 h2 e => by omega) ⟨by rw [m_same]; rfl, by rw [m_same]; exact g2, by rw [m_same]; exact g3, by rw [m_same]; exact g4, g5, fun r i hr => absurd (show r < cR (sX s) from hr) (by omega)⟩
          have hB2 : CB (sI (sI M1 (u + 9) 5 (nI v)) 4 1 (nI 1)) u T n (wWi (sX s) v) (sY s) true (sH s) := by
            refine ⟨CB_Tx hu27 a4.1 hFw, hC2, PD_fr (p := fun id => id = 4 ∨ id = u + 9) (Fr.tr (Fr.sI (Or.inr rfl)) (Fr.sI (Or.inl rfl))) (fun id h1 h2 e => by omega) a4.2.2.1, by rw [m_same]; rfl, ?_⟩
            rw [m_same, mI_sI, if_neg (by omega)]
            exact a4.2.2.2.2
          obtain ⟨M3, c1, c2, c3, c4, c5⟩ := q_nx hu27 hB2 (TkC_fr a2 hFw hu27) (nx_le ha)
          refine ⟨M3, toL _ ?_, ⟨c4, c2, c3⟩, (Pc_R a5).tr ((Pc_W hFw).tr (Pc_R c5))⟩
          rw [f_TreatyText_readMeasure_l38]
          simp (disch := first | assumption | omega) only [z_bdn, z_caln, z_gdn, z_iT, z_iF, z_le_t, z_le_f, z_lt_t, z_lt_f, z_cl, z_inb, z_at, z_lit, nI_ii1, nI_add, z_mr, z_ref0, z_refn, z_eq_f, Bool.not_true, Bool.not_false, b2i_t, b2i_f, e41, f_TreatyText_readMeasure_l69, f_TreatyText_readMeasure_l92, a1, b1, b2, c1]
    | false =>
      rw [z_itf]
      have e42 := hB.2.2.2.2
      have toL : ∀ R, f_TreatyText_readMeasure_l38 u (nI 1) (nI 0) M = R → (if 0 < mI M (u + 9) 7 then cal (f_Reader_fail 5 2 M) fun r1 M1 => gd (b01 r1) (some (r1, M1)) else if mI M (u + 1) 8 ≤ 0 then if nI 1 = 0 then f_TreatyText_readMeasure_l38 u (nI 1) 1 M else f_TreatyText_readMeasure_l38 u (nI 1) 0 M else cal (f_Reader_fail 5 2 M) fun r4 M2 => gd (b01 r4) (some (r4, M2))) = R := by
        intro R hR
        simp (disch := first | assumption | omega) only [z_bdn, z_caln, z_gdn, z_iT, z_iF, z_le_t, z_le_f, z_lt_t, z_lt_f, z_cl, z_inb, z_at, z_lit, nI_ii1, nI_add, z_mr, z_ref0, z_refn, z_eq_f, Bool.not_true, Bool.not_false, b2i_t, b2i_f, eR, eC, eq_self]
        exact hR
      cases hw : sH s with
      | true =>
        have ep : pMea T n false s = .error (flt (sT s) 5) := by unfold pMea; rw [if_neg h0, z_itf, hw, z_itt]
        rw [ep]
        rw [hw] at e42
        obtain ⟨Mf, f1, f2, f3⟩ := f5
        refine ⟨Mf, toL _ ?_, f2, f3⟩
        rw [f_TreatyText_readMeasure_l38]
        simp (disch := first | assumption | omega) only [z_bdn, z_caln, z_gdn, z_iT, z_iF, z_le_t, z_le_f, z_lt_t, z_lt_f, z_cl, z_inb, z_at, z_lit, nI_ii1, nI_add, z_mr, z_ref0, z_refn, z_eq_f, Bool.not_true, Bool.not_false, b2i_t, b2i_f, e42, f1, b0, eq_self]
      | false =>
        rw [hw] at e42
        obtain ⟨M1, a1, a2, a3, a4, a5⟩ := q_nx hu27 hB hT ha
        have hn := q_atNumber (lo := 1) (hi := 50) a2 a3 (by omega) (by omega)
        cases hp : pNum 1 50 (nx T n (sT s)) with
        | error er =>
          rw [hp] at hn
          obtain ⟨M2, b1, b2, b3⟩ := hn
          have ep : pMea T n false s = .error er := by unfold pMea; rw [if_neg h0, z_itf, hw, z_itf, z_itf, hp]
          rw [ep]
          refine ⟨M2, toL _ ?_, b2, (Pc_R a5).tr (Pc_R b3)⟩
          rw [f_TreatyText_readMeasure_l38]
          simp (disch := first | assumption | omega) only [z_bdn, z_caln, z_gdn, z_iT, z_iF, z_le_t, z_le_f, z_lt_t, z_lt_f, z_cl, z_inb, z_at, z_lit, nI_ii1, nI_add, z_mr, z_ref0, z_refn, z_eq_f, Bool.not_true, Bool.not_false, b2i_t, b2i_f, e42, eq_self, f_TreatyText_readMeasure_l69, f_TreatyText_readMeasure_l92, a1, b1]
        | ok v =>
          rw [hp] at hn
          obtain ⟨b1, b2⟩ := hn
          have ep : pMea T n false s = .ok (nx T n (nx T n (sT s)), wTo (sX s) v, sY s, sW s, true) := by unfold pMea; rw [if_neg h0, z_itf, hw, z_itf, z_itf, hp]; rfl
          rw [ep]
          have hFw : Fr (fun id => id = 4 ∨ (u + 1 ≤ id ∧ id ≤ u + 14)) M1 (sI (sI M1 (u + 9) 6 (nI v)) 4 2 (nI 1)) := Fr.tr (Fr.sI (Or.inr (by omega))) (Fr.sI (Or.inl rfl))
          have hC2 : CC (sI (sI M1 (u + 9) 6 (nI v)) 4 2 (nI 1)) (u + 9) (wTo (sX s) v) := by
            obtain ⟨g1, g2, g3, g4, g5, g6⟩ := a4.2.1
            refine CC_fr (M := sI M1 (u + 9) 6 (nI v)) (p := fun id => id = 4) (Fr.sI rfl) (fun id h1 h2 e => by omega) ⟨by rw [m_same]; exact g1, by rw [m_same]; rfl, by rw [m_same]; exact g3, by rw [m_same]; exact g4, g5, g6⟩
          have hB2 : CB (sI (sI M1 (u + 9) 6 (nI v)) 4 2 (nI 1)) u T n (wTo (sX s) v) (sY s) (sW s) true := by
            refine ⟨CB_Tx hu27 a4.1 hFw, hC2, PD_fr (p := fun id => id = 4 ∨ id = u + 9) (Fr.tr (Fr.sI (Or.inr rfl)) (Fr.sI (Or.inl rfl))) (fun id h1 h2 e => by omega) a4.2.2.1, ?_, by rw [m_same]; rfl⟩
            rw [m_same, mI_sI, if_neg (by omega)]
            exact a4.2.2.2.1
          obtain ⟨M3, c1, c2, c3, c4, c5⟩ := q_nx hu27 hB2 (TkC_fr a2 hFw hu27) (nx_le ha)
          refine ⟨M3, toL _ ?_, ⟨c4, c2, c3⟩, (Pc_R a5).tr ((Pc_W hFw).tr (Pc_R c5))⟩
          rw [f_TreatyText_readMeasure_l38]
          simp (disch := first | assumption | omega) only [z_bdn, z_caln, z_gdn, z_iT, z_iF, z_le_t, z_le_f, z_lt_t, z_lt_f, z_cl, z_inb, z_at, z_lit, nI_ii1, nI_add, z_mr, z_ref0, z_refn, z_eq_f, Bool.not_true, Bool.not_false, b2i_t, b2i_f, e42, eq_self, f_TreatyText_readMeasure_l69, f_TreatyText_readMeasure_l92, a1, b1, b2, c1]
end
