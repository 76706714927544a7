/-! ## a TREATY's text: the reference's clauses -/
section
variable {M M' M1 : kx_M} {T : Nat → Nat} {n : Nat} {t : Tok} {x : Cl} {y : De} {a b : Bool} {s : Ps} {e : Er}
theorem q_cla113 {W c : Nat} {nm : Int64} {kd : Nat → Nat} (hP : OkD W y) (hq : dC y < 6) (hc : c ≤ 5) (h : MBk M T n x y a b) (hh : hM M (4 + dC y) = nm) (hk : ∀ i, i < c → gM M (16 + 5 * dC y + i) = nI (kd i)) : ∃ M', f_RM_readClause_l113 (nI (dC y)) (nI c) M = some ((), M') ∧ MBk M' T n x (addC y nm c kd) a b ∧ FrX M M' ∧ (TkM M t → TkM M' t) := by
  have h12 := h.2.1
  have hB1 := MBk_A (p := 10 + dC y) (v := nI c) h (MC_uf h.2.2.1 (by omega)) (PMg_uf hP h.2.2.2.1 (by omega)) (by omega)
  have hB2 := MBk_A (p := 3) (v := nI (dC y + 1)) hB1 (MC_uf hB1.2.2.1 (by omega)) (PMg_addC (len := c) (kd := kd) (nm := nm) hP hB1.2.2.2.1 hc (by rw [gM_A]; exact if_pos rfl) hh (fun i hi => by rw [gM_A, uf_at, if_neg (by omega)]; exact hk i hi)) (by omega)
  refine ⟨_, ?_, hB2, (FrX.A (by omega)).tr (FrX.A (by omega)), fun g => g⟩
  have e3 : mA (sA M 140 (upd (mA M 140) (3072 + (10 + dC y)) (nI c))) 140 3075 = nI (dC y) := hB1.2.2.2.1.2.1
  have e5 : 3082 + dC y = 3072 + (10 + dC y) := by omega
  rw [f_RM_readClause_l113]
  simp (disch := first | assumption | omega) only [z_bdn, z_caln, z_gdn, z_iT, z_iF, z_le_t, z_le_f, z_lt_t, z_lt_f, z_cl, z_inb, z_at, z_pl, z_lit, nI_ii1, nI_add, nI_mul, z_eq_f, z_refuse, z_no, z_M00, b2i_t, b2i_f, e5, mI_sA, h12, e3]
theorem b_l36 {c k : Nat} (hc : c < 6) (h : Bd M e) : ∃ M', f_RM_readClause_l36 FU (nI c) (nI k) M = some ((), M') ∧ Bd M' e ∧ FrX M M' := by
  have z := b_eq h
  have key : ∀ f, 0 < f → f_RM_readClause_l36 f (nI c) (nI k) M = some ((), sA M 140 (upd (mA M 140) (3072 + (10 + c)) (nI k))) := by
    intro f hf
    obtain ⟨f, rfl, hf⟩ := z_succ hf
    have e5 : 3082 + c = 3072 + (10 + c) := by omega
    rw [f_RM_readClause_l36]
    simp (disch := first | assumption | omega) only [z_bdn, z_caln, z_gdn, z_iT, z_iF, z_le_t, z_le_f, z_lt_t, z_lt_f, z_cl, z_inb, z_at, z_pl, z_lit, nI_ii1, nI_add, nI_mul, z_eq_f, z_refuse, z_no, z_M00, b2i_t, b2i_f, z, f_RM_readClause_l113, e5, mI_sA]
  exact ⟨_, key FU (FU_lt (by omega)), h, FrX.A (by omega)⟩
theorem q_l36 {W : Nat} {nm : Int64} (hO : OkC x) (hP : OkD W y) (hq : dC y < 6) : ∀ (m f c : Nat) (kd : Nat → Nat) (t : Tok) (M : kx_M), min 5 (cW x) < c + m → c ≤ min 5 (cW x) → m < f → (c = 0 → kdK t ≠ none) → MBk M T n x y a b → TkM M t → TkB t → kA t ≤ n → hM M (4 + dC y) = nm → (∀ i, i < c → gM M (16 + 5 * dC y + i) = nI (kd i)) → match pKds T n (min 5 (cW x)) m c kd t with
    | .ok r => ∃ M', f_RM_readClause_l36 f (nI (dC y)) (nI c) M = some ((), M') ∧ MBk M' T n x (addC y nm r.1 r.2.1) a b ∧ TkM M' r.2.2 ∧ TkB r.2.2 ∧ FrX M M'
    | .error e => ∃ M', f_RM_readClause_l36 f (nI (dC y)) (nI c) M = some ((), M') ∧ Bd M' e ∧ FrX M M' := by
  intro m
  induction m with
  | zero => intro f c kd t M hm hc; omega
  | succ m ih =>
    intro f c kd t M hm hc hf h0 hB hT hTB ha hh hk
    obtain ⟨f, rfl, hf⟩ := z_succ hf
    have w1 := hO.1
    have h12 := hB.2.1
    have h15 := hT.2.1
    have eK := q_kindWord hT
    have eW : mA M 140 3072 = nI (cW x) := hB.2.2.1.1
    unfold pKds
    cases hkd : kdK t with
    | none =>
      rw [hkd] at eK
      have eK : f_RM_kindWord M = some (-nI 1, M) := eK
      have hc0 : c ≠ 0 := fun g => h0 g hkd
      simp only [if_neg hc0]
      obtain ⟨M1, a1, a2, a3, a4⟩ := q_cla113 (c := c) (kd := kd) (t := t) hP hq (by omega) hB hh hk
      refine ⟨M1, ?_, a2, a4 hT, hTB, a3⟩
      have z2 : (-nI 1 < nI 0) = True := eq_true (by decide)
      rw [f_RM_readClause_l36]
      simp (disch := first | assumption | omega) only [z_bdn, z_caln, z_gdn, z_iT, z_iF, z_le_t, z_le_f, z_lt_t, z_lt_f, z_cl, z_inb, z_at, z_pl, z_lit, nI_ii1, nI_add, nI_mul, z_eq_f, z_refuse, z_no, z_M00, b2i_t, b2i_f, h12, eK, z2]
      exact a1
    | some v =>
      rw [hkd] at eK
      have eK : f_RM_kindWord M = some (nI v, M) := eK
      have hv := kdK_lt hkd
      have hk2 := (kdK_some hkd).1
      by_cases hm5 : min 5 (cW x) ≤ c
      · simp only [if_pos hm5]
        obtain ⟨Mf, f1, f2, f3⟩ := q_failM (k := 6) (p := kP t) h12 (by omega)
        have zl := b_le f2
        show ∃ M', _ ∧ Bd M' (flt t 6) ∧ _
        rw [flt_ne (by omega)]
        refine ⟨Mf, ?_, f2, f3⟩
        have g1 : f_RM_readClause_l77 (f_RM_readClause_l36 f) (nI (dC y)) (nI c) Mf = some ((), Mf) := by
          rw [f_RM_readClause_l77]
          simp (disch := first | assumption | omega) only [z_bdn, z_caln, z_gdn, z_iT, z_iF, z_le_t, z_le_f, z_lt_t, z_lt_f, z_cl, z_inb, z_at, z_pl, z_lit, nI_ii1, nI_add, nI_mul, z_eq_f, z_refuse, z_no, z_M00, b2i_t, b2i_f, zl]
        rw [f_RM_readClause_l36]
        by_cases c5 : c = 5
        · subst c5
          simp (disch := first | assumption | omega) only [z_bdn, z_caln, z_gdn, z_iT, z_iF, z_le_t, z_le_f, z_lt_t, z_lt_f, z_cl, z_inb, z_at, z_pl, z_lit, nI_ii1, nI_add, nI_mul, z_eq_f, z_refuse, z_no, z_M00, b2i_t, b2i_f, h12, eK, h15, f1, g1, eq_self]
        · have cw : cW x = c := by omega
          rw [cw] at eW
          simp (disch := first | assumption | omega) only [z_bdn, z_caln, z_gdn, z_iT, z_iF, z_le_t, z_le_f, z_lt_t, z_lt_f, z_cl, z_inb, z_at, z_pl, z_lit, nI_ii1, nI_add, nI_mul, z_eq_f, z_refuse, z_no, z_M00, b2i_t, b2i_f, h12, eK, eW, h15, f1, g1, eq_self]
      · simp only [if_neg hm5]
        have hB1 := MBk_A (p := 16 + 5 * dC y + c) (v := nI v) hB (MC_uf hB.2.2.1 (by omega)) (PMg_uf hP hB.2.2.2.1 (by omega)) (by omega)
        obtain ⟨M2, b1, b2, b3, b4, b5⟩ := q_ad hB1 (t := t) hT ha
        have g := ih f (c + 1) (updN kd c v) (nx T n t) M2 (by omega) (by omega) (by omega) (fun g => by omega) b4 b2 b3 (nx_le ha) (by rw [FrT_h b5]; exact hh) (fun i hi => by
          rw [FrT_g b5, gM_A, uf_at]
          unfold updN
          by_cases he : i = c
          · rw [if_pos (by omega), if_pos he]
          · rw [if_neg (by omega), if_neg he]; exact hk i (by omega))
        have e5 : 3088 + 5 * dC y + c = 3072 + (16 + 5 * dC y + c) := by omega
        have toL : ∀ R, f_RM_readClause_l36 f (nI (dC y)) (nI (c + 1)) M2 = R → f_RM_readClause_l36 (f + 1) (nI (dC y)) (nI c) M = R := by
          intro R hR
          have g1 : f_RM_readClause_l77 (f_RM_readClause_l36 f) (nI (dC y)) (nI c) M = R := by
            rw [f_RM_readClause_l77]
            simp (disch := first | assumption | omega) only [z_bdn, z_caln, z_gdn, z_iT, z_iF, z_le_t, z_le_f, z_lt_t, z_lt_f, z_cl, z_inb, z_at, z_pl, z_lit, nI_ii1, nI_add, nI_mul, z_eq_f, z_refuse, z_no, z_M00, b2i_t, b2i_f, h12, eK, e5, b1]
            exact hR
          rw [f_RM_readClause_l36]
          simp (disch := first | assumption | omega) only [z_bdn, z_caln, z_gdn, z_iT, z_iF, z_le_t, z_le_f, z_lt_t, z_lt_f, z_cl, z_inb, z_at, z_pl, z_lit, nI_ii1, nI_add, nI_mul, z_eq_f, z_refuse, z_no, z_M00, b2i_t, b2i_f, h12, eK, eW]
          exact g1
        cases hp : pKds T n (min 5 (cW x)) m (c + 1) (updN kd c v) (nx T n t) with
        | ok r =>
          rw [hp] at g
          obtain ⟨M3, g1, g2, g3, g4, g5⟩ := g
          exact ⟨M3, toL _ g1, g2, g3, g4, (FrX.A (by omega)).tr ((FrX.T b5).tr g5)⟩
        | error e =>
          rw [hp] at g
          obtain ⟨M3, g1, g2, g3⟩ := g
          exact ⟨M3, toL _ g1, g2, (FrX.A (by omega)).tr ((FrX.T b5).tr g3)⟩
end
