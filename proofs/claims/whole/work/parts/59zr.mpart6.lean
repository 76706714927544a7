/-! ## a TREATY's text: the reference's rows -/
def RwB (M : kx_M) (T : Nat → Nat) (n : Nat) (x : Cl) (y : De) (a b : Bool) (q c : Nat) (kd : Nat → Nat) : Prop := MBk M T n x y a b ∧ gM M (100 + cR x) = nI q ∧ ∀ i, i < c → gM M (112 + 8 * cR x + i) = nI (kd i)
section
variable {M M' M1 : kx_M} {T : Nat → Nat} {n : Nat} {t : Tok} {x : Cl} {y : De} {a b : Bool} {s : Ps} {e : Er} {q c : Nat} {kd : Nat → Nat}
theorem MC_ufR {g : Nat → Int32} {p : Nat} {v : Int32} (hO : OkC x) (hR : cR x < 12) (h : MC g x) (hp : p = 100 + cR x ∨ (112 + 8 * cR x ≤ p ∧ p < 208)) : MC (uf g p v) x := by
  have w1 := hO.1
  obtain ⟨h1, h2, h3, h4, h5, h6⟩ := h
  refine ⟨by rw [uf_at, if_neg (by omega)]; exact h1, by rw [uf_at, if_neg (by omega)]; exact h2, by rw [uf_at, if_neg (by omega)]; exact h3, by rw [uf_at, if_neg (by omega)]; exact h4, fun r hr => by rw [uf_at, if_neg (by omega)]; exact h5 r hr, fun r i hr hi => ?_⟩
  obtain ⟨k1, k2, k3, k4⟩ := h6 r i hr hi
  exact ⟨by rw [uf_at, if_neg (by omega)]; exact k1, by rw [uf_at, if_neg (by omega)]; exact k2, by rw [uf_at, if_neg (by omega)]; exact k3, by rw [uf_at, if_neg (by omega)]; exact k4⟩
theorem RwB_T (h : RwB M T n x y a b q c kd) (hF : FrT M M') : RwB M' T n x y a b q c kd := by
  obtain ⟨h1, h2, h3⟩ := h
  refine ⟨MBk_T h1 hF, ?_, ?_⟩
  · rw [FrT_g hF]; exact h2
  · rw [FrT_g hF]; exact h3
theorem RwB_W {W j v : Nat} (hO : OkC x) (hR : cR x < 12) (hP : OkD W y) (hc : c + j < 8) (h : RwB M T n x y a b q (c + j) (filN kd c j v)) : RwB (sA M 140 (upd (mA M 140) (3072 + (112 + 8 * cR x + (c + j))) (nI v))) T n x y a b q (c + (j + 1)) (filN kd c (j + 1) v) := by
  obtain ⟨h1, h2, h3⟩ := h
  refine ⟨MBk_A h1 (MC_ufR hO hR h1.2.2.1 (by omega)) (PMg_uf hP h1.2.2.2.1 (by omega)) (by omega), ?_, fun i hi => ?_⟩
  · rw [gM_A, uf_at, if_neg (by omega)]; exact h2
  · rw [gM_A, uf_at]
    unfold filN
    by_cases he : i = c + j
    · rw [if_pos (by omega), if_pos (by omega)]
    · rw [if_neg (by omega), h3 i (by omega)]
      unfold filN
      by_cases h4 : c ≤ i ∧ i < c + j
      · rw [if_pos h4, if_pos (by omega)]
      · rw [if_neg h4, if_neg (by omega)]
theorem q_l190 {k55 : Int32 → Int32 → kx_M → Option (Unit × kx_M)} {W u v : Nat} (hO : OkC x) (hR : cR x < 12) (hP : OkD W y) (hcu : c + u ≤ 8) : ∀ (m f j : Nat) (M : kx_M), j + m = u → m < f → RwB M T n x y a b q (c + j) (filN kd c j v) → ∃ M', f_RM_readRow_l190 k55 f (nI (cR x)) (nI c) (nI v) (nI u) (nI j) M = k55 (nI (cR x)) (nI (c + u)) M' ∧ RwB M' T n x y a b q (c + u) (filN kd c u v) ∧ FrX M M' ∧ (∀ t, TkM M t → TkM M' t) := by
  intro m
  induction m with
  | zero =>
    intro f j M hj hf h
    obtain ⟨f, rfl, hf⟩ := z_succ hf
    obtain rfl : j = u := by omega
    refine ⟨M, ?_, h, FrX.rf, fun t g => g⟩
    rw [f_RM_readRow_l190]
    simp (disch := first | assumption | omega) only [z_bdn, z_caln, z_gdn, z_iT, z_iF, z_le_t, z_le_f, z_lt_t, z_lt_f, z_cl, z_inb, z_at, z_pl, z_lit, nI_ii1, nI_add, nI_mul, z_eq_f, z_refuse, z_no, z_M00, b2i_t, b2i_f]
  | succ m ih =>
    intro f j M hj hf h
    obtain ⟨f, rfl, hf⟩ := z_succ hf
    have h12 := h.1.2.1
    obtain ⟨M', g1, g2, g3, g4⟩ := ih f (j + 1) _ (by omega) (by omega) (RwB_W hO hR hP (by omega) h)
    refine ⟨M', ?_, g2, (FrX.A (by omega)).tr g3, fun t g => g4 t g⟩
    have e1 : 3184 + 8 * cR x + c + j = 3072 + (112 + 8 * cR x + (c + j)) := by omega
    rw [f_RM_readRow_l190]
    simp (disch := first | assumption | omega) only [z_bdn, z_caln, z_gdn, z_iT, z_iF, z_le_t, z_le_f, z_lt_t, z_lt_f, z_cl, z_inb, z_at, z_pl, z_lit, nI_ii1, nI_add, nI_mul, z_eq_f, z_refuse, z_no, z_M00, b2i_t, b2i_f, h12, e1]
    exact g1
theorem b_l190 {k55 : Int32 → Int32 → kx_M → Option (Unit × kx_M)} {r v u : Nat} (hu : u < 100) (hc : c < 100) (h : Bd M e) : f_RM_readRow_l190 k55 FU (nI r) (nI c) (nI v) (nI u) 0 M = k55 (nI r) (nI (c + u)) M := by
  have z := b_eq h
  have key : ∀ f, 0 < f → f_RM_readRow_l190 k55 f (nI r) (nI c) (nI v) (nI u) (nI 0) M = k55 (nI r) (nI (c + u)) M := by
    intro f hf
    obtain ⟨f, rfl, hf⟩ := z_succ hf
    rw [f_RM_readRow_l190]
    by_cases h0 : u = 0
    · subst h0
      simp (disch := first | assumption | omega) only [z_bdn, z_caln, z_gdn, z_iT, z_iF, z_le_t, z_le_f, z_lt_t, z_lt_f, z_cl, z_inb, z_at, z_pl, z_lit, nI_ii1, nI_add, nI_mul, z_eq_f, z_refuse, z_no, z_M00, b2i_t, b2i_f]
    · simp (disch := first | assumption | omega) only [z_bdn, z_caln, z_gdn, z_iT, z_iF, z_le_t, z_le_f, z_lt_t, z_lt_f, z_cl, z_inb, z_at, z_pl, z_lit, nI_ii1, nI_add, nI_mul, z_eq_f, z_refuse, z_no, z_M00, b2i_t, b2i_f, z]
  exact key FU (FU_lt (by omega))
theorem b_l55 {f : Nat} {r c : Int32} (hf : 0 < f) (h : Bd M e) : f_RM_readRow_l55 f r c M = some ((), M) := by
  have z := b_eq h
  obtain ⟨f, rfl, hf⟩ := z_succ hf
  rw [f_RM_readRow_l55]
  simp (disch := first | assumption | omega) only [z_bdn, z_caln, z_gdn, z_iT, z_iF, z_le_t, z_le_f, z_lt_t, z_lt_f, z_cl, z_inb, z_at, z_pl, z_lit, nI_ii1, nI_add, nI_mul, z_eq_f, z_refuse, z_no, z_M00, b2i_t, b2i_f, z, f_RM_readRow_l237, f_RM_readRow_l260]
end
theorem q_l260 (hO : OkC x) (hR : cR x < 12) {W : Nat} (hP : OkD W y) (h : RwB M T n x y a b q (cW x) kd) : ∃ M', f_RM_readRow_l260 M = some ((), M') ∧ MBk M' T n (knX x q kd) y a b ∧ FrX M M' ∧ (∀ t, TkM M t → TkM M' t) := by
  have w1 := hO.1
  obtain ⟨h1, h2, h3⟩ := h
  have h12 := h1.2.1
  have e4 : mA M 140 3076 = nI (cR x) := h1.2.2.1.2.2.1
  have hz := h1.2.2.2.2.2
  have hz : ∀ p, 208 ≤ p → p < 496 → gM M p = nI 0 := hz
  have hC : MC (uf (gM M) 4 (nI (cR x + 1))) (knX x q kd) := by
    refine MC_kn hO h1.2.2.1 (if_pos rfl) (by rw [uf_at, if_neg (by omega)]; exact h2) (fun p hp _ => by rw [uf_at, if_neg hp]; rfl) (fun r i hr hi => ?_) (fun j hj => ?_)
    · rw [uf_at, if_neg (by omega), uf_at, if_neg (by omega), uf_at, if_neg (by omega), uf_at, if_neg (by omega)]
      exact ⟨rfl, rfl, rfl, rfl⟩
    · rw [uf_at, if_neg (by omega), uf_at, if_neg (by omega), uf_at, if_neg (by omega), uf_at, if_neg (by omega)]
      refine ⟨?_, hz _ (by omega) (by omega), hz _ (by omega) (by omega), hz _ (by omega) (by omega)⟩
      rw [← h3 j hj, show 112 + (8 * cR x + j) = 112 + 8 * cR x + j by omega]
  refine ⟨_, ?_, MBk_A (p := 4) (v := nI (cR x + 1)) h1 hC (PMg_uf hP h1.2.2.2.1 (by omega)) (by omega), FrX.A (by omega), fun t g => g⟩
  rw [f_RM_readRow_l260]
  simp (disch := first | assumption | omega) only [z_bdn, z_caln, z_gdn, z_iT, z_iF, z_le_t, z_le_f, z_lt_t, z_lt_f, z_cl, z_inb, z_at, z_pl, z_lit, nI_ii1, nI_add, nI_mul, z_eq_f, z_refuse, z_no, z_M00, b2i_t, b2i_f, h12, e4]
end
