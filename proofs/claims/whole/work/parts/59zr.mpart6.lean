/-! ## a TREATY's text: the reference's rows -/
def RwB (M : kx_M) (T : Nat → Nat) (n : Nat) (x : Cl) (y : De) (a b : Bool) (q c : Nat) (kd : Nat → Nat) : Prop := MBk M T n x y a b ∧ gM M (100 + cR x) = nI q ∧ ∀ i, i < c → gM M (112 + 8 * cR x + i) = nI (kd i)
section
variable {M M' M1 : kx_M} {T : Nat → Nat} {n : Nat} {t : Tok} {x : Cl} {y : De} {a b : Bool} {s : Ps} {e : Er} {q c : Nat} {kd : Nat → Nat}
theorem MC_ufR {g : Nat → Int32} {p : Nat} {v : Int32} (hO : OkC x) (hR : cR x < 12) (h : MC g x) (hp : p = 100 + cR x ∨ (112 + 8 * cR x ≤ p ∧ p < 208)) : MC (uf g p v) x := by
  have w1 := hO.1
  obtain ⟨h1, h2, h3, h4, h5, h6⟩ := h
  refine ⟨by rw [uf_at, if_neg (by omega)]; exact h1, by rw [uf_at, if_neg (by omega)]; exact h2, by rw [uf_at, if_neg (by omega)]; exact h3, by rw [uf_at, if_neg (by omega)]; exact h4, fun r hr => by rw [uf_at, if_neg (by omega)]; exact h5 r hr, fun r i hr hi => ?_⟩
  obtain ⟨k1, k2, k3, k4⟩ := h6 r i hr hi
  exact ⟨by rw [uf_at, if_neg (by omega)]; exact k1, by rw [uf_at, if_neg (by omega)]; exact k2, by rw [uf_at, if_neg (by omega)]; exact k3, by rw [uf_at, if_neg (by omega)]; exact k4⟩
theorem RwB_T (h : RwB M T n x y a b q c kd) (hF : FrT M M') : RwB M' T n x y a b q c kd := by
  obtain ⟨h1, h2, h3⟩ := h
  refine ⟨MBk_T h1 hF, ?_, ?_⟩
  · rw [FrT_g hF]; exact h2
  · rw [FrT_g hF]; exact h3
theorem RwB_W {W j v : Nat} (hO : OkC x) (hR : cR x < 12) (hP : OkD W y) (hc : c + j < 8) (h : RwB M T n x y a b q (c + j) (filN kd c j v)) : RwB (sA M 140 (upd (mA M 140) (3072 + (112 + 8 * cR x + (c + j))) (nI v))) T n x y a b q (c + (j + 1)) (filN kd c (j + 1) v) := by
  obtain ⟨h1, h2, h3⟩ := h
  refine ⟨MBk_A h1 (MC_ufR hO hR h1.2.2.1 (by omega)) (PMg_uf hP h1.2.2.2.1 (by omega)) (by omega), ?_, fun i hi => ?_⟩
  · rw [gM_A, uf_at, if_neg (by omega)]; exact h2
  · rw [gM_A, uf_at]
    unfold filN
    by_cases he : i = c + j
    · rw [if_pos (by omega), if_pos (by omega)]
    · rw [if_neg (by omega), h3 i (by omega)]
      unfold filN
      by_cases h4 : c ≤ i ∧ i < c + j
      · rw [if_pos h4, if_pos (by omega)]
      · rw [if_neg h4, if_neg (by omega)]
theorem q_l190 {k55 : Int32 → Int32 → kx_M → Option (Unit × kx_M)} {W u v : Nat} (hO : OkC x) (hR : cR x < 12) (hP : OkD W y) (hcu : c + u ≤ 8) : ∀ (m f j : Nat) (M : kx_M), j + m = u → m < f → RwB M T n x y a b q (c + j) (filN kd c j v) → ∃ M', f_RM_readRow_l190 k55 f (nI (cR x)) (nI c) (nI v) (nI u) (nI j) M = k55 (nI (cR x)) (nI (c + u)) M' ∧ RwB M' T n x y a b q (c + u) (filN kd c u v) ∧ FrX M M' ∧ (∀ t, TkM M t → TkM M' t) := by
  intro m
  induction m with
  | zero =>
    intro f j M hj hf h
    obtain ⟨f, rfl, hf⟩ := z_succ hf
    obtain rfl : j = u := by omega
    refine ⟨M, ?_, h, FrX.rf, fun t g => g⟩
    rw [f_RM_readRow_l190]
    simp (disch := first | assumption | omega) only [z_bdn, z_caln, z_gdn, z_iT, z_iF, z_le_t, z_le_f, z_lt_t, z_lt_f, z_cl, z_inb, z_at, z_pl, z_lit, nI_ii1, nI_add, nI_mul, z_eq_f, z_refuse, z_no, z_M00, b2i_t, b2i_f]
  | succ m ih =>
    intro f j M hj hf h
    obtain ⟨f, rfl, hf⟩ := z_succ hf
    have h12 := h.1.2.1
    obtain ⟨M', g1, g2, g3, g4⟩ := ih f (j + 1) _ (by omega) (by omega) (RwB_W hO hR hP (by omega) h)
    refine ⟨M', ?_, g2, (FrX.A (by omega)).tr g3, fun t g => g4 t g⟩
    have e1 : 3184 + 8 * cR x + c + j = 3072 + (112 + 8 * cR x + (c + j)) := by omega
    rw [f_RM_readRow_l190]
    simp (disch := first | assumption | omega) only [z_bdn, z_caln, z_gdn, z_iT, z_iF, z_le_t, z_le_f, z_lt_t, z_lt_f, z_cl, z_inb, z_at, z_pl, z_lit, nI_ii1, nI_add, nI_mul, z_eq_f, z_refuse, z_no, z_M00, b2i_t, b2i_f, h12, e1]
    exact g1
theorem b_l190 {k55 : Int32 → Int32 → kx_M → Option (Unit × kx_M)} {r v u : Nat} (hu : u < 100) (hc : c < 100) (h : Bd M e) : f_RM_readRow_l190 k55 FU (nI r) (nI c) (nI v) (nI u) (nI 0) M = k55 (nI r) (nI (c + u)) M := by
  have z := b_eq h
  have key : ∀ f, 0 < f → f_RM_readRow_l190 k55 f (nI r) (nI c) (nI v) (nI u) (nI 0) M = k55 (nI r) (nI (c + u)) M := by
    intro f hf
    obtain ⟨f, rfl, hf⟩ := z_succ hf
    rw [f_RM_readRow_l190]
    by_cases h0 : u = 0
    · subst h0
      simp (disch := first | assumption | omega) only [z_bdn, z_caln, z_gdn, z_iT, z_iF, z_le_t, z_le_f, z_lt_t, z_lt_f, z_cl, z_inb, z_at, z_pl, z_lit, nI_ii1, nI_add, nI_mul, z_eq_f, z_refuse, z_no, z_M00, b2i_t, b2i_f]
    · simp (disch := first | assumption | omega) only [z_bdn, z_caln, z_gdn, z_iT, z_iF, z_le_t, z_le_f, z_lt_t, z_lt_f, z_cl, z_inb, z_at, z_pl, z_lit, nI_ii1, nI_add, nI_mul, z_eq_f, z_refuse, z_no, z_M00, b2i_t, b2i_f, z]
  exact key FU (FU_lt (by omega))
theorem b_l55 {f : Nat} {r c : Int32} (hf : 0 < f) (h : Bd M e) : f_RM_readRow_l55 f r c M = some ((), M) := by
  have z := b_eq h
  obtain ⟨f, rfl, hf⟩ := z_succ hf
  rw [f_RM_readRow_l55]
  simp (disch := first | assumption | omega) only [z_bdn, z_caln, z_gdn, z_iT, z_iF, z_le_t, z_le_f, z_lt_t, z_lt_f, z_cl, z_inb, z_at, z_pl, z_lit, nI_ii1, nI_add, nI_mul, z_eq_f, z_refuse, z_no, z_M00, b2i_t, b2i_f, z, f_RM_readRow_l237, f_RM_readRow_l260]
theorem q_l260 (hO : OkC x) (hR : cR x < 12) {W : Nat} (hP : OkD W y) (h : RwB M T n x y a b q (cW x) kd) : ∃ M', f_RM_readRow_l260 M = some ((), M') ∧ MBk M' T n (knX x q kd) y a b ∧ FrX M M' ∧ (∀ t, TkM M t → TkM M' t) := by
  have w1 := hO.1
  obtain ⟨h1, h2, h3⟩ := h
  have h12 := h1.2.1
  have e4 : mA M 140 3076 = nI (cR x) := h1.2.2.1.2.2.1
  have hz := h1.2.2.2.2.2
  have hz : ∀ p, 208 ≤ p → p < 768 → gM M p = nI 0 := hz
  have hC : MC (uf (gM M) 4 (nI (cR x + 1))) (knX x q kd) := by
    refine MC_kn hO h1.2.2.1 (if_pos rfl) (by rw [uf_at, if_neg (by omega)]; exact h2) (fun p hp _ => by rw [uf_at, if_neg hp]; rfl) (fun r i hr hi => ?_) (fun j hj => ?_)
    · rw [uf_at, if_neg (by omega), uf_at, if_neg (by omega), uf_at, if_neg (by omega), uf_at, if_neg (by omega)]
      exact ⟨rfl, rfl, rfl, rfl⟩
    · rw [uf_at, if_neg (by omega), uf_at, if_neg (by omega), uf_at, if_neg (by omega), uf_at, if_neg (by omega)]
      refine ⟨?_, hz _ (by omega) (by omega), hz _ (by omega) (by omega), hz _ (by omega) (by omega)⟩
      rw [← h3 j hj, show 112 + (8 * cR x + j) = 112 + 8 * cR x + j by omega]
  refine ⟨_, ?_, MBk_A (p := 4) (v := nI (cR x + 1)) h1 hC (PMg_uf hP h1.2.2.2.1 (by omega)) (by omega), FrX.A (by omega), fun t g => g⟩
  rw [f_RM_readRow_l260]
  simp (disch := first | assumption | omega) only [z_bdn, z_caln, z_gdn, z_iT, z_iF, z_le_t, z_le_f, z_lt_t, z_lt_f, z_cl, z_inb, z_at, z_pl, z_lit, nI_ii1, nI_add, nI_mul, z_eq_f, z_refuse, z_no, z_M00, b2i_t, b2i_f, h12, e4]
theorem b_l155 {k55 : Int32 → Int32 → kx_M → Option (Unit × kx_M)} {r v u : Nat} {x4 : Int32} (hu : u < 100) (hc : c < 100) (h : Bd M e) : f_RM_readRow_l155 k55 (nI r) (nI c) (nI v) x4 (nI u) M = k55 (nI r) (nI (c + u)) M := by
  have z := b_eq h
  have g := b_l190 (k55 := k55) (r := r) (v := v) hu hc h
  rw [f_RM_readRow_l155]
  simp (disch := first | assumption | omega) only [z_bdn, z_caln, z_gdn, z_iT, z_iF, z_le_t, z_le_f, z_lt_t, z_lt_f, z_cl, z_inb, z_at, z_pl, z_lit, nI_ii1, nI_add, nI_mul, z_eq_f, z_refuse, z_no, z_M00, b2i_t, b2i_f, z]
  exact g
theorem q_l155 {k55 : Int32 → Int32 → kx_M → Option (Unit × kx_M)} {W u v : Nat} {x4 : Int32} (hO : OkC x) (hR : cR x < 12) (hP : OkD W y) (hcu : c + u ≤ cW x) (h : RwB M T n x y a b q c kd) : ∃ M', f_RM_readRow_l155 k55 (nI (cR x)) (nI c) (nI v) x4 (nI u) M = k55 (nI (cR x)) (nI (c + u)) M' ∧ RwB M' T n x y a b q (c + u) (filN kd c u v) ∧ FrX M M' ∧ (∀ t, TkM M t → TkM M' t) := by
  have w1 := hO.1
  have h12 := h.1.2.1
  have eW : mA M 140 3072 = nI (cW x) := h.1.2.2.1.1
  have h0 : RwB M T n x y a b q (c + 0) (filN kd c 0 v) := by
    refine ⟨h.1, h.2.1, fun i hi => ?_⟩
    rw [h.2.2 i hi]
    unfold filN
    rw [if_neg (by omega)]
  obtain ⟨M', g1, g2⟩ := q_l190 (k55 := k55) (u := u) (v := v) hO hR hP (by omega) u FU 0 M (by omega) (FU_lt (by omega)) h0
  refine ⟨M', ?_, g2⟩
  rw [f_RM_readRow_l155]
  simp (disch := first | assumption | omega) only [z_bdn, z_caln, z_gdn, z_iT, z_iF, z_le_t, z_le_f, z_lt_t, z_lt_f, z_cl, z_inb, z_at, z_pl, z_lit, nI_ii1, nI_add, nI_mul, z_eq_f, z_refuse, z_no, z_M00, b2i_t, b2i_f, h12, eW]
  exact g1
theorem kdK_ne (h : kS t ≠ 2) : kdK t = none := by
  cases hk : kdK t with
  | none => rfl
  | some v => exact absurd (kdK_some hk).1 h
theorem q_l55 {W : Nat} (hO : OkC x) (hR : cR x < 12) (hP : OkD W y) : ∀ (m f c : Nat) (kd : Nat → Nat) (t : Tok) (M : kx_M), cW x < c + m → c ≤ cW x → m < f → RwB M T n x y a b q c kd → TkM M t → TkB t → kA t ≤ n → match pRun T n (cW x) m c kd t with
    | .ok r => ∃ M', f_RM_readRow_l55 f (nI (cR x)) (nI c) M = some ((), M') ∧ FrX M M' ∧ ((MBk M' T n (knX x q r.1) y a b ∧ TkM M' r.2 ∧ TkB r.2) ∨ (kS r.2 = 1 ∧ Bd M' (flt r.2 2)))
    | .error e => ∃ M', f_RM_readRow_l55 f (nI (cR x)) (nI c) M = some ((), M') ∧ Bd M' e ∧ FrX M M' := by
  intro m
  induction m with
  | zero => intro f c kd t M hm hc; omega
  | succ m ih =>
    intro f c kd t M hm hc hf hB hT hTB ha
    obtain ⟨f, rfl, hf⟩ := z_succ hf
    have w1 := hO.1
    have h12 := hB.1.2.1
    have h15 := hT.2.1
    have eK := q_kindWord hT
    have eW : mA M 140 3072 = nI (cW x) := hB.1.2.2.1.1
    cases hkd : kdK t with
    | none =>
      rw [hkd] at eK
      have eK : f_RM_kindWord M = some (-nI 1, M) := eK
      have z2 : (-nI 1 < nI 0) = True := eq_true (by decide)
      by_cases hcW : c < cW x
      · have ep : pRun T n (cW x) (m + 1) c kd t = .error (flt t 2) := by
          unfold pRun
          rw [hkd]
          exact if_pos hcW
        rw [ep]
        obtain ⟨Mf, f1, f2, f3⟩ := q_amiss h12 hT
        have z := b_eq f2
        refine ⟨Mf, ?_, f2, f3⟩
        have g1 : f_RM_readRow_l260 Mf = some ((), Mf) := by
          rw [f_RM_readRow_l260]
          simp (disch := first | assumption | omega) only [z_bdn, z_caln, z_gdn, z_iT, z_iF, z_le_t, z_le_f, z_lt_t, z_lt_f, z_cl, z_inb, z_at, z_pl, z_lit, nI_ii1, nI_add, nI_mul, z_eq_f, z_refuse, z_no, z_M00, b2i_t, b2i_f, z]
        have g2 : f_RM_readRow_l237 (nI c) M = some ((), Mf) := by
          rw [f_RM_readRow_l237]
          simp (disch := first | assumption | omega) only [z_bdn, z_caln, z_gdn, z_iT, z_iF, z_le_t, z_le_f, z_lt_t, z_lt_f, z_cl, z_inb, z_at, z_pl, z_lit, nI_ii1, nI_add, nI_mul, z_eq_f, z_refuse, z_no, z_M00, b2i_t, b2i_f, h12, eW, f1, g1]
        rw [f_RM_readRow_l55]
        simp (disch := first | assumption | omega) only [z_bdn, z_caln, z_gdn, z_iT, z_iF, z_le_t, z_le_f, z_lt_t, z_lt_f, z_cl, z_inb, z_at, z_pl, z_lit, nI_ii1, nI_add, nI_mul, z_eq_f, z_refuse, z_no, z_M00, b2i_t, b2i_f, h12, eK, z2, g2]
      · have ep : pRun T n (cW x) (m + 1) c kd t = .ok (kd, t) := by
          unfold pRun
          rw [hkd]
          exact if_neg hcW
        rw [ep]
        obtain rfl : c = cW x := by omega
        obtain ⟨M1, a1, a2, a3, a4⟩ := q_l260 hO hR hP hB
        refine ⟨M1, ?_, a3, Or.inl ⟨a2, a4 t hT, hTB⟩⟩
        have g2 : f_RM_readRow_l237 (nI (cW x)) M = some ((), M1) := by
          rw [f_RM_readRow_l237]
          simp (disch := first | assumption | omega) only [z_bdn, z_caln, z_gdn, z_iT, z_iF, z_le_t, z_le_f, z_lt_t, z_lt_f, z_cl, z_inb, z_at, z_pl, z_lit, nI_ii1, nI_add, nI_mul, z_eq_f, z_refuse, z_no, z_M00, b2i_t, b2i_f, h12, eW]
          exact a1
        rw [f_RM_readRow_l55]
        simp (disch := first | assumption | omega) only [z_bdn, z_caln, z_gdn, z_iT, z_iF, z_le_t, z_le_f, z_lt_t, z_lt_f, z_cl, z_inb, z_at, z_pl, z_lit, nI_ii1, nI_add, nI_mul, z_eq_f, z_refuse, z_no, z_M00, b2i_t, b2i_f, h12, eK, z2, g2]
    | some v =>
      rw [hkd] at eK
      have eK : f_RM_kindWord M = some (nI v, M) := eK
      have hv := kdK_lt hkd
      have hk2 := (kdK_some hkd).1
      by_cases hcW : cW x ≤ c
      · have ep : pRun T n (cW x) (m + 1) c kd t = .error (flt t 6) := by
          unfold pRun
          rw [hkd]
          exact if_pos hcW
        rw [ep]
        obtain ⟨Mf, f1, f2, f3⟩ := q_failM (k := 6) (p := kP t) h12 (by omega)
        have zl := b_le f2
        show ∃ M', _ ∧ Bd M' (flt t 6) ∧ _
        rw [flt_ne (by omega)]
        have cw : cW x = c := by omega
        rw [cw] at eW
        refine ⟨Mf, ?_, f2, f3⟩
        have g1 : f_RM_readRow_l91 (f_RM_readRow_l55 f) (nI (cR x)) (nI c) Mf = some ((), Mf) := by
          rw [f_RM_readRow_l91]
          simp (disch := first | assumption | omega) only [z_bdn, z_caln, z_gdn, z_iT, z_iF, z_le_t, z_le_f, z_lt_t, z_lt_f, z_cl, z_inb, z_at, z_pl, z_lit, nI_ii1, nI_add, nI_mul, z_eq_f, z_refuse, z_no, z_M00, b2i_t, b2i_f, zl]
        rw [f_RM_readRow_l55]
        simp (disch := first | assumption | omega) only [z_bdn, z_caln, z_gdn, z_iT, z_iF, z_le_t, z_le_f, z_lt_t, z_lt_f, z_cl, z_inb, z_at, z_pl, z_lit, nI_ii1, nI_add, nI_mul, z_eq_f, z_refuse, z_no, z_M00, b2i_t, b2i_f, h12, eK, eW, h15, f1, g1, eq_self]
      · obtain ⟨M1, a1, a2, a3, a4, a5⟩ := q_ad hB.1 hT ha
        have hB1 := RwB_T hB a5
        have h12a := a4.2.1
        have h14a := a2.1
        have h15a := a2.2.1
        have hs4 := a2.2.2.2.2.2.2.2
        have zs3 := z_sM3 hs4
        have zs1 := z_sM1 hs4
        have toL : ∀ R, f_RM_readRow_l91 (f_RM_readRow_l55 f) (nI (cR x)) (nI c) M = R → f_RM_readRow_l55 (f + 1) (nI (cR x)) (nI c) M = R := by
          intro R hR
          rw [f_RM_readRow_l55]
          simp (disch := first | assumption | omega) only [z_bdn, z_caln, z_gdn, z_iT, z_iF, z_le_t, z_le_f, z_lt_t, z_lt_f, z_cl, z_inb, z_at, z_pl, z_lit, nI_ii1, nI_add, nI_mul, z_eq_f, z_refuse, z_no, z_M00, b2i_t, b2i_f, h12, eK, eW]
          exact hR
        have fin : ∀ (c' : Nat) (kd' : Nat → Nat) (t' : Tok) (M3 : kx_M), cW x < c' + m → c' ≤ cW x → RwB M3 T n x y a b q c' kd' → TkM M3 t' → TkB t' → kA t' ≤ n → f_RM_readRow_l55 (f + 1) (nI (cR x)) (nI c) M = f_RM_readRow_l55 f (nI (cR x)) (nI c') M3 → FrX M M3 → match pRun T n (cW x) m c' kd' t' with
            | .ok r => ∃ M', f_RM_readRow_l55 (f + 1) (nI (cR x)) (nI c) M = some ((), M') ∧ FrX M M' ∧ ((MBk M' T n (knX x q r.1) y a b ∧ TkM M' r.2 ∧ TkB r.2) ∨ (kS r.2 = 1 ∧ Bd M' (flt r.2 2)))
            | .error e => ∃ M', f_RM_readRow_l55 (f + 1) (nI (cR x)) (nI c) M = some ((), M') ∧ Bd M' e ∧ FrX M M' := by
          intro c' kd' t' M3 b1 b2 b3 b4 b5 b6 b7 b8
          have g := ih f c' kd' t' M3 b1 b2 (by omega) b3 b4 b5 b6
          cases hp : pRun T n (cW x) m c' kd' t' with
          | ok r =>
            rw [hp] at g
            obtain ⟨M', g1, g2, g3⟩ := g
            exact ⟨M', b7.trans g1, b8.tr g2, g3⟩
          | error er =>
            rw [hp] at g
            obtain ⟨M', g1, g2, g3⟩ := g
            exact ⟨M', b7.trans g1, g2, b8.tr g3⟩
        by_cases h3 : kS (nx T n t) = 3
        · rw [eq_true h3] at zs3
          have hn := q_cntM (lo := 1) (hi := 8) a4 a2 a3 (nx_le ha) (by omega) (by omega)
          cases hp : pNum 1 8 (nx T n t) with
          | error er =>
            rw [hp] at hn
            obtain ⟨M2, b1, b2, b3⟩ := hn
            have ep : pRun T n (cW x) (m + 1) c kd t = .error er := by
              unfold pRun
              rw [hkd]
              show (if cW x ≤ c then _ else if kS (nx T n t) = 3 then _ else _) = _
              rw [if_neg hcW, if_pos h3, hp]
            rw [ep]
            have g1 := b_l155 (k55 := f_RM_readRow_l55 f) (r := cR x) (c := c) (v := v) (u := 0) (x4 := nI (kP (nx T n t))) (by omega) (by omega) b2
            have g2 := b_l55 (f := f) (r := nI (cR x)) (c := nI (c + 0)) (by omega) b2
            refine ⟨M2, toL _ ?_, b2, (FrX.T a5).tr b3⟩
            rw [f_RM_readRow_l91]
            simp (disch := first | assumption | omega) only [z_bdn, z_caln, z_gdn, z_iT, z_iF, z_le_t, z_le_f, z_lt_t, z_lt_f, z_cl, z_inb, z_at, z_pl, z_lit, nI_ii1, nI_add, nI_mul, z_eq_f, z_refuse, z_no, z_M00, b2i_t, b2i_f, h12, eK, a1, h15a, h14a, zs3, b1, g1, g2]
          | ok u =>
            rw [hp] at hn
            obtain ⟨M2, b1, b2, b3, b4, b5⟩ := hn
            obtain ⟨-, -, n1, n2⟩ := pNum_ok hp
            have toM : ∀ R, f_RM_readRow_l155 (f_RM_readRow_l55 f) (nI (cR x)) (nI c) (nI v) (nI (kP (nx T n t))) (nI u) M2 = R → f_RM_readRow_l55 (f + 1) (nI (cR x)) (nI c) M = R := by
              intro R hR
              refine toL _ ?_
              rw [f_RM_readRow_l91]
              simp (disch := first | assumption | omega) only [z_bdn, z_caln, z_gdn, z_iT, z_iF, z_le_t, z_le_f, z_lt_t, z_lt_f, z_cl, z_inb, z_at, z_pl, z_lit, nI_ii1, nI_add, nI_mul, z_eq_f, z_refuse, z_no, z_M00, b2i_t, b2i_f, h12, eK, a1, h15a, h14a, zs3, b1]
              exact hR
            by_cases h4 : cW x < c + u
            · have ep : pRun T n (cW x) (m + 1) c kd t = .error (flt (nx T n t) 6) := by
                unfold pRun
                rw [hkd]
                show (if cW x ≤ c then _ else if kS (nx T n t) = 3 then _ else _) = _
                rw [if_neg hcW, if_pos h3, hp]
                exact if_pos h4
              rw [ep]
              obtain ⟨Mf, f1, f2, f3⟩ := q_failM (M := M2) (k := 6) (p := kP (nx T n t)) b4.2.1 (by omega)
              show ∃ M', _ ∧ Bd M' (flt (nx T n t) 6) ∧ _
              rw [flt_ne (by omega)]
              have g1 := b_l190 (k55 := f_RM_readRow_l55 f) (r := cR x) (c := c) (v := v) (u := u) (by omega) (by omega) f2
              have g2 := b_l55 (f := f) (r := nI (cR x)) (c := nI (c + u)) (by omega) f2
              have h12b := b4.2.1
              have eWb : mA M2 140 3072 = nI (cW x) := b4.2.2.1.1
              refine ⟨Mf, toM _ ?_, f2, (FrX.T a5).tr ((FrX.T b5).tr f3)⟩
              rw [f_RM_readRow_l155]
              simp (disch := first | assumption | omega) only [z_bdn, z_caln, z_gdn, z_iT, z_iF, z_le_t, z_le_f, z_lt_t, z_lt_f, z_cl, z_inb, z_at, z_pl, z_lit, nI_ii1, nI_add, nI_mul, z_eq_f, z_refuse, z_no, z_M00, b2i_t, b2i_f, h12b, eWb, f1, g1, g2]
            · obtain ⟨M3, c1, c2, c3, c4⟩ := q_l155 (k55 := f_RM_readRow_l55 f) (u := u) (v := v) (x4 := nI (kP (nx T n t))) hO hR hP (by omega) (RwB_T hB1 b5)
              have ep : pRun T n (cW x) (m + 1) c kd t = pRun T n (cW x) m (c + u) (filN kd c u v) (nx T n (nx T n t)) := by
                conv => lhs; unfold pRun
                rw [hkd]
                show (if cW x ≤ c then _ else if kS (nx T n t) = 3 then _ else _) = _
                rw [if_neg hcW, if_pos h3, hp]
                exact if_neg h4
              rw [ep]
              exact fin _ _ _ M3 (by omega) (by omega) c2 (c4 _ b2) b3 (nx_le (nx_le ha)) (toM _ c1) ((FrX.T a5).tr ((FrX.T b5).tr c3))
        · rw [eq_false h3] at zs3
          have ep : pRun T n (cW x) (m + 1) c kd t = pRun T n (cW x) m (c + 1) (filN kd c 1 v) (nx T n t) := by
            conv => lhs; unfold pRun
            rw [hkd]
            show (if cW x ≤ c then _ else if kS (nx T n t) = 3 then _ else _) = _
            rw [if_neg hcW, if_neg h3]
          rw [ep]
          obtain ⟨M3, c1, c2, c3, c4⟩ := q_l155 (k55 := f_RM_readRow_l55 f) (u := 1) (v := v) (x4 := nI (kP (nx T n t))) hO hR hP (by omega) hB1
          have norm : f_RM_readRow_l55 (f + 1) (nI (cR x)) (nI c) M = f_RM_readRow_l155 (f_RM_readRow_l55 f) (nI (cR x)) (nI c) (nI v) (nI (kP (nx T n t))) (nI 1) M1 → match pRun T n (cW x) m (c + 1) (filN kd c 1 v) (nx T n t) with
            | .ok r => ∃ M', f_RM_readRow_l55 (f + 1) (nI (cR x)) (nI c) M = some ((), M') ∧ FrX M M' ∧ ((MBk M' T n (knX x q r.1) y a b ∧ TkM M' r.2 ∧ TkB r.2) ∨ (kS r.2 = 1 ∧ Bd M' (flt r.2 2)))
            | .error e => ∃ M', f_RM_readRow_l55 (f + 1) (nI (cR x)) (nI c) M = some ((), M') ∧ Bd M' e ∧ FrX M M' := fun hN => fin _ _ _ M3 (by omega) (by omega) c2 (c4 _ a2) a3 (nx_le ha) (hN.trans c1) ((FrX.T a5).tr c3)
          by_cases h1 : kS (nx T n t) = 1
          · rw [eq_true h1] at zs1
            have el := q_look2 (p := kP (nx T n t)) a4.1 (by have := a2.2.2.2.2.2.2.1; omega)
            have ed := q_isDigit (lk2_255 a4.1 (kP (nx T n t))) M1
            cases hd : isDg (lk2 T n (kP (nx T n t))) with
            | false =>
              rw [hd] at ed
              refine norm (toL _ ?_)
              rw [f_RM_readRow_l91]
              simp (disch := first | assumption | omega) only [z_bdn, z_caln, z_gdn, z_iT, z_iF, z_le_t, z_le_f, z_lt_t, z_lt_f, z_cl, z_inb, z_at, z_pl, z_lit, nI_ii1, nI_add, nI_mul, z_eq_f, z_refuse, z_no, z_M00, b2i_t, b2i_f, h12, eK, a1, h15a, h14a, zs3, zs1, el, ed]
            | true =>
              rw [hd] at ed
              have hn := q_cntM (lo := 1) (hi := 8) a4 a2 a3 (nx_le ha) (by omega) (by omega)
              have en : pNum 1 8 (nx T n t) = .error (flt (nx T n t) 2) := by unfold pNum; rw [if_neg h3]
              rw [en] at hn
              obtain ⟨M2, b1, b2, b3⟩ := hn
              have g1 := b_l155 (k55 := f_RM_readRow_l55 f) (r := cR x) (c := c) (v := v) (u := 0) (x4 := nI (kP (nx T n t))) (by omega) (by omega) b2
              have g2 := b_l55 (f := f) (r := nI (cR x)) (c := nI (c + 0)) (by omega) b2
              have gg : f_RM_readRow_l55 (f + 1) (nI (cR x)) (nI c) M = some ((), M2) := by
                refine toL _ ?_
                rw [f_RM_readRow_l91]
                simp (disch := first | assumption | omega) only [z_bdn, z_caln, z_gdn, z_iT, z_iF, z_le_t, z_le_f, z_lt_t, z_lt_f, z_cl, z_inb, z_at, z_pl, z_lit, nI_ii1, nI_add, nI_mul, z_eq_f, z_refuse, z_no, z_M00, b2i_t, b2i_f, h12, eK, a1, h15a, h14a, zs3, zs1, el, ed, b1, g1, g2]
              obtain ⟨m, rfl⟩ : ∃ m', m = m' + 1 := ⟨m - 1, by omega⟩
              have hk1 : kdK (nx T n t) = none := kdK_ne (by omega)
              by_cases h5 : c + 1 < cW x
              · have ep2 : pRun T n (cW x) (m + 1) (c + 1) (filN kd c 1 v) (nx T n t) = .error (flt (nx T n t) 2) := by
                  unfold pRun
                  rw [hk1]
                  exact if_pos h5
                rw [ep2]
                exact ⟨M2, gg, b2, (FrX.T a5).tr b3⟩
              · have ep2 : pRun T n (cW x) (m + 1) (c + 1) (filN kd c 1 v) (nx T n t) = .ok (filN kd c 1 v, nx T n t) := by
                  unfold pRun
                  rw [hk1]
                  exact if_neg h5
                rw [ep2]
                exact ⟨M2, gg, (FrX.T a5).tr b3, Or.inr ⟨h1, b2⟩⟩
          · rw [eq_false h1] at zs1
            refine norm (toL _ ?_)
            rw [f_RM_readRow_l91]
            simp (disch := first | assumption | omega) only [z_bdn, z_caln, z_gdn, z_iT, z_iF, z_le_t, z_le_f, z_lt_t, z_lt_f, z_cl, z_inb, z_at, z_pl, z_lit, nI_ii1, nI_add, nI_mul, z_eq_f, z_refuse, z_no, z_M00, b2i_t, b2i_f, h12, eK, a1, h15a, h14a, zs3, zs1]
end
