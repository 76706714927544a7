theorem dlF_le (L c v : Nat) : ∀ n, dlF L c v n ≤ n
  | 0 => Nat.le_refl _
  | n + 1 => by
    show (if v % 4 ^ (n + 1) = fO L c (n + 1) then n + 1 else dlF L c v n) ≤ n + 1
    have := dlF_le L c v n
    split <;> omega
theorem dlN_le {L c s a : Nat} (h : s < L) : dlN L c s a ≤ L := Nat.le_trans (dlF_le L c _ (s + 1)) h
def okL (kn : Option Nat) (a : Nat) : Bool := match kn with
  | none => true
  | some b => decide (b = a)
def cA (L c : Nat) (w : Nat → Nat) (a n t : Nat) : Nat := sumN (fun s => if dlN L c s a = t then w s else 0) n
def cB (L c : Nat) (w : Nat → Nat) (ok : Nat → Bool) (n t : Nat) : Nat := sumN (fun a => if ok a = true then cA L c w a L t + (if t = L then w L else 0) else 0) n
def wv (L c : Nat) (kn : Nat → Option Nat) : Nat → Nat → Nat
  | 0, s => if s = 0 then 1 else 0
  | j + 1, t => cB L c (wv L c kn j) (okL (kn j)) 4 t
section
variable {M M' : kx_M} {σ : Sg} {x : Cl} {y : De}
theorem q_fill2 {B : Nat} (hl : kx_lay[B]? = some (1, 6, [])) : ∃ M', f_Arr_fill_2 B (nI 0) M = some ((), M') ∧ (∀ j, j < 6 → mA M' B j = nI 0) ∧ Fr (fun id => id = B) M M' := by
  have key : ∀ (m n j : Nat) (M : kx_M), j + m = 6 → m < n → (∀ i, i < j → mA M B i = nI 0) → ∃ M', f_Arr_fill_2_l5 B (nI 0) n (nI j) (nI 6) M = some ((), M') ∧ (∀ j, j < 6 → mA M' B j = nI 0) ∧ Fr (fun id => id = B) M M' := by
    intro m
    induction m with
    | zero =>
      intro n j M hj hn hz
      obtain ⟨n, rfl, hn⟩ := z_succ hn
      obtain rfl : j = 6 := by omega
      refine ⟨M, ?_, hz, Fr.rf⟩
      rw [f_Arr_fill_2_l5]
      simp (disch := first | assumption | omega) only [z_bdn, z_caln, z_gdn, z_iT, z_iF, z_le_t, z_le_f, z_lt_t, z_lt_f, z_cl, z_inb, z_at, z_lit, nI_ii1, nI_add, z_mr, z_ref0, z_refn, z_eq_f, Bool.not_true, Bool.not_false, b2i_t, b2i_f]
    | succ m ih =>
      intro n j M hj hn hz
      obtain ⟨n, rfl, hn⟩ := z_succ hn
      obtain ⟨M', g1, g2, g3⟩ := ih n (j + 1) (sA M B (upd (mA M B) j (nI 0))) (by omega) (by omega) (fun i hi => by
        rw [mA_sA, if_pos rfl, upd_at]
        by_cases he : i = j
        · rw [if_pos he]
        · rw [if_neg he]; exact hz i (by omega))
      refine ⟨M', ?_, g2, Fr.tr (Fr.sA rfl) g3⟩
      have e := z_aIb (tg := 1) hl (show j < 6 by omega) (by omega)
      rw [f_Arr_fill_2_l5]
      simp (disch := first | assumption | omega) only [z_bdn, z_caln, z_gdn, z_iT, z_iF, z_le_t, z_le_f, z_lt_t, z_lt_f, z_cl, z_inb, z_at, z_lit, nI_ii1, nI_add, z_mr, z_ref0, z_refn, z_eq_f, Bool.not_true, Bool.not_false, b2i_t, b2i_f, e]
      exact g1
  obtain ⟨M', g1, g2, g3⟩ := key 6 FU 0 M (by omega) (FU_lt (by omega)) (fun i hi => absurd hi (by omega))
  refine ⟨M', ?_, g2, g3⟩
  have e1 : aLk 1 B = true := by unfold aLk; rw [hl]; rfl
  have e2 : Int32.ofNat (aLn B) = nI 6 := by unfold aLn; rw [hl]; rfl
  rw [f_Arr_fill_2, e1, e2]
  simp (disch := first | assumption | omega) only [z_bdn, z_caln, z_gdn, z_iT, z_iF, z_le_t, z_le_f, z_lt_t, z_lt_f, z_cl, z_inb, z_at, z_lit, nI_ii1, nI_add, z_mr, z_ref0, z_refn, z_eq_f, Bool.not_true, Bool.not_false, b2i_t, b2i_f]
  exact g1
/-- the two vectors and the table -/
def TwoV (M : kx_M) (L c A B : Nat) (w v : Nat → Nat) : Prop := mI M 13 3 = nI L ∧ tbOk M L c (4 * L) ∧ mR M 13 4 = A ∧ mR M 13 5 = B ∧ (∀ s, s ≤ L → mA M A s = nI (w s)) ∧ (∀ t, t ≤ L → mA M B t = nI (v t))
theorem TwoV_up {L c A B t z : Nat} {w v : Nat → Nat} (hAB : A ≠ B) (h15 : B ≠ 15) (hT : TwoV M L c A B w v) : TwoV (sA M B (upd (mA M B) t (nI (v t + z)))) L c A B w (fun q => v q + (if q = t then z else 0)) := by
  obtain ⟨h1, h2, h3, h4, h5, h6⟩ := hT
  refine ⟨h1, fun s a hs ha hn => ?_, h3, h4, fun s hs => ?_, fun q hq => ?_⟩
  · rw [mA_sA, if_neg (fun e => h15 e.symm)]; exact h2 s a hs ha hn
  · rw [mA_sA, if_neg hAB]; exact h5 s hs
  · rw [mA_sA, if_pos rfl, upd_at]
    show _ = nI (v q + (if q = t then z else 0))
    by_cases he : q = t
    · rw [if_pos he, if_pos he, he]
    · rw [if_neg he, if_neg he]; exact h6 q hq
theorem TwoV_eq {L c A B : Nat} {w v v' : Nat → Nat} (hT : TwoV M L c A B w v) (h : ∀ t, v' t = v t) : TwoV M L c A B w v' := by
  rw [show v' = v from funext h]; exact hT
theorem q_pass_l27 {p : Int32} {K : Int32 → kx_M → Option (Unit × kx_M)} {L c A B a : Nat} {w v : Nat → Nat} (hL : L ≤ 5) (ha : a < 4) (hA : kx_lay[A]? = some (1, 6, [])) (hB : kx_lay[B]? = some (1, 6, [])) (hAB : A ≠ B) (h15 : B ≠ 15) : ∀ (m n s : Nat) (M : kx_M), s + m = L → m < n → TwoV M L c A B w (fun t => v t + cA L c w a s t) → ∃ M', f_Seen_passColumn_l27 p K n (nI a) (nI s) M = K (nI (a + 1)) M' ∧ TwoV M' L c A B w (fun t => v t + (cA L c w a L t + (if t = L then w L else 0))) ∧ Fr (fun id => id = B) M M' := by
  intro m
  induction m with
  | zero =>
    intro n s M hs hn hT
    obtain ⟨n, rfl, hn⟩ := z_succ hn
    obtain rfl : s = L := by omega
    have hT2 := TwoV_up (t := s) (z := w s) hAB h15 hT
    obtain ⟨h1, h2, h3, h4, h5, h6⟩ := hT
    have e5 := h5 s (by omega)
    have e6 := h6 s (by omega)
    have eA := z_aIb (tg := 1) hA (show s < 6 by omega) (by omega)
    have eB := z_aIb (tg := 1) hB (show s < 6 by omega) (by omega)
    refine ⟨_, ?_, TwoV_eq hT2 (fun t => by rw [Nat.add_assoc]), Fr.sA rfl⟩
    rw [f_Seen_passColumn_l27]
    simp (disch := first | assumption | omega) only [z_bdn, z_caln, z_gdn, z_iT, z_iF, z_le_t, z_le_f, z_lt_t, z_lt_f, z_cl, z_inb, z_at, z_lit, nI_ii1, nI_add, z_mr, z_ref0, z_refn, z_eq_f, Bool.not_true, Bool.not_false, b2i_t, b2i_f, h1, h3, h4, eA, eB, e5, e6]
  | succ m ih =>
    intro n s M hs hn hT
    obtain ⟨n, rfl, hn⟩ := z_succ hn
    have hd := dlN_le (c := c) (a := a) (show s < L by omega)
    have hT2 := TwoV_up (t := dlN L c s a) (z := w s) hAB h15 hT
    obtain ⟨M', g1, g2, g3⟩ := ih n (s + 1) _ (by omega) (by omega) (TwoV_eq hT2 (fun t => by
      show v t + (cA L c w a s t + (if dlN L c s a = t then w s else 0)) = v t + cA L c w a s t + (if t = dlN L c s a then w s else 0)
      rw [Nat.add_assoc]
      by_cases ht : t = dlN L c s a
      · rw [if_pos ht, if_pos ht.symm]
      · rw [if_neg ht, if_neg (fun e => ht e.symm)]))
    obtain ⟨h1, h2, h3, h4, h5, h6⟩ := hT
    have e5 := h5 s (by omega)
    have e6 := h6 _ hd
    have eT := h2 s a (by omega) ha (by omega)
    have eA := z_aIb (tg := 1) hA (show s < 6 by omega) (by omega)
    have eB := z_aIb (tg := 1) hB (show dlN L c s a < 6 by omega) (by omega)
    refine ⟨M', ?_, g2, Fr.tr (Fr.sA rfl) g3⟩
    rw [f_Seen_passColumn_l27]
    simp (disch := first | assumption | omega) only [z_bdn, z_caln, z_gdn, z_iT, z_iF, z_le_t, z_le_f, z_lt_t, z_lt_f, z_cl, z_inb, z_at, z_lit, nI_ii1, nI_add, z_mr, z_ref0, z_refn, z_eq_f, Bool.not_true, Bool.not_false, b2i_t, b2i_f, h1, h3, h4, eT, eA, eB, e5, e6]
    exact g1
theorem okL_z (kn : Option Nat) (hk : ∀ b, kn = some b → b < 4) {a : Nat} (ha : a < 4) : okL kn a = true ↔ (oI kn = -nI 1 ∨ oI kn = nI a) := by
  cases kn with
  | none => exact ⟨(fun _ => Or.inl rfl), (fun _ => rfl)⟩
  | some b =>
    have hb := hk b rfl
    have e1 : (nI b = -nI 1) = False := z_nneg (by omega)
    show decide (b = a) = true ↔ (nI b = -nI 1 ∨ nI b = nI a)
    rw [e1, false_or, decide_eq_true_iff]
    exact (nI_eq (by omega) (by omega)).symm
theorem q_pass_l10 {kn : Option Nat} {L c A B : Nat} {w : Nat → Nat} (hk : ∀ b, kn = some b → b < 4) (hL : L ≤ 5) (hA : kx_lay[A]? = some (1, 6, [])) (hB : kx_lay[B]? = some (1, 6, [])) (hAB : A ≠ B) (h15 : B ≠ 15) : ∀ (m n a : Nat) (M : kx_M), a + m = 4 → m < n → TwoV M L c A B w (cB L c w (okL kn) a) → ∃ M', f_Seen_passColumn_l10 (oI kn) n (nI a) M = some ((), sR (sR M' 13 4 B) 13 5 A) ∧ TwoV M' L c A B w (cB L c w (okL kn) 4) ∧ Fr (fun id => id = B) M M' := by
  intro m
  induction m with
  | zero =>
    intro n a M ha hn hT
    obtain ⟨n, rfl, hn⟩ := z_succ hn
    obtain rfl : a = 4 := by omega
    have h3 := hT.2.2.1
    have h4 := hT.2.2.2.1
    refine ⟨M, ?_, hT, Fr.rf⟩
    rw [f_Seen_passColumn_l10]
    simp (disch := first | assumption | omega) only [z_bdn, z_caln, z_gdn, z_iT, z_iF, z_le_t, z_le_f, z_lt_t, z_lt_f, z_cl, z_inb, z_at, z_lit, nI_ii1, nI_add, z_mr, z_ref0, z_refn, z_eq_f, Bool.not_true, Bool.not_false, b2i_t, b2i_f, h3, h4]
  | succ m ih =>
    intro n a M ha hn hT
    obtain ⟨n, rfl, hn⟩ := z_succ hn
    have ho := okL_z kn hk (show a < 4 by omega)
    rw [f_Seen_passColumn_l10]
    cases hok : okL kn a
    · have hn1 : ¬ oI kn = -nI 1 := fun e => by rw [ho.mpr (Or.inl e)] at hok; cases hok
      have hn2 : ¬ oI kn = nI a := fun e => by rw [ho.mpr (Or.inr e)] at hok; cases hok
      obtain ⟨M', g1, g2, g3⟩ := ih n (a + 1) M (by omega) (by omega) (TwoV_eq hT (fun t => by
        show cB L c w (okL kn) a t + (if okL kn a = true then _ else 0) = _
        rw [hok]; rfl))
      refine ⟨M', ?_, g2, g3⟩
      simp (disch := first | assumption | omega) only [z_bdn, z_caln, z_gdn, z_iT, z_iF, z_le_t, z_le_f, z_lt_t, z_lt_f, z_cl, z_inb, z_at, z_lit, nI_ii1, nI_add, z_mr, z_ref0, z_refn, z_eq_f, Bool.not_true, Bool.not_false, b2i_t, b2i_f, hn1, hn2]
      exact g1
    · obtain ⟨M1, a1, a2, a3⟩ := q_pass_l27 (p := oI kn) (K := f_Seen_passColumn_l10 (oI kn) n) (v := cB L c w (okL kn) a) hL (show a < 4 by omega) hA hB hAB h15 L FU 0 M (by omega) (FU_lt (by omega)) hT
      obtain ⟨M', g1, g2, g3⟩ := ih n (a + 1) M1 (by omega) (by omega) (TwoV_eq a2 (fun t => by
        show cB L c w (okL kn) a t + (if okL kn a = true then _ else 0) = _
        rw [hok]; rfl))
      refine ⟨M', ?_, g2, a3.tr g3⟩
      rcases ho.mp hok with e | e
      · simp (disch := first | assumption | omega) only [z_bdn, z_caln, z_gdn, z_iT, z_iF, z_le_t, z_le_f, z_lt_t, z_lt_f, z_cl, z_inb, z_at, z_lit, nI_ii1, nI_add, z_mr, z_ref0, z_refn, z_eq_f, Bool.not_true, Bool.not_false, b2i_t, b2i_f, e]
        rw [e] at a1
        exact a1.trans (by rw [← e]; exact g1)
      · have hn1 : ¬ oI kn = -nI 1 := by rw [e, z_nneg (by omega)]; exact (fun h => h)
        rw [e] at hn1 a1 g1 ⊢
        simp (disch := first | assumption | omega) only [z_bdn, z_caln, z_gdn, z_iT, z_iF, z_le_t, z_le_f, z_lt_t, z_lt_f, z_cl, z_inb, z_at, z_lit, nI_ii1, nI_add, z_mr, z_ref0, z_refn, z_eq_f, Bool.not_true, Bool.not_false, b2i_t, b2i_f, hn1]
        exact a1.trans g1
theorem way_ids {A B : Nat} (h : (A = 16 ∧ B = 17) ∨ (A = 17 ∧ B = 16)) : kx_lay[A]? = some (1, 6, []) ∧ kx_lay[B]? = some (1, 6, []) ∧ A ≠ B ∧ A ≠ 15 ∧ B ≠ 15 ∧ A ≠ 14 ∧ B ≠ 14 ∧ A ≠ 13 ∧ B ≠ 13 := by
  rcases h with ⟨e1, e2⟩ | ⟨e1, e2⟩ <;> subst e1 <;> subst e2 <;> exact ⟨rfl, rfl, by decide, by decide, by decide, by decide, by decide, by decide, by decide⟩
theorem q_pass {kn : Option Nat} {L c A B : Nat} {w : Nat → Nat} (hk : ∀ b, kn = some b → b < 4) (hL : L ≤ 5) (hAB : (A = 16 ∧ B = 17) ∨ (A = 17 ∧ B = 16)) (h3 : mI M 13 3 = nI L) (hT : tbOk M L c (4 * L)) (r4 : mR M 13 4 = A) (r5 : mR M 13 5 = B) (hw : ∀ s, s ≤ L → mA M A s = nI (w s)) : ∃ M', f_Seen_passColumn (oI kn) M = some ((), M') ∧ mR M' 13 4 = B ∧ mR M' 13 5 = A ∧ (∀ t, t ≤ L → mA M' B t = nI (cB L c w (okL kn) 4 t)) ∧ mI M' 13 3 = nI L ∧ tbOk M' L c (4 * L) ∧ mA M' 14 = mA M 14 ∧ (∀ k, mI M' 13 k = mI M 13 k) ∧ Fr (fun id => id = 13 ∨ id = B) M M' := by
  obtain ⟨hA, hB, n1, n2, n3, n4, n5, n6, n7⟩ := way_ids hAB
  obtain ⟨M1, a1, a2, a3⟩ := q_fill2 (M := M) hB
  have f13 := a3 13 (fun e => n7 e.symm)
  have hT1 : TwoV M1 L c A B w (cB L c w (okL kn) 0) := ⟨(f13.1 3).trans h3, fun s a hs ha hn => by rw [(a3 15 (fun e => n3 e.symm)).2.2.1]; exact hT s a hs ha hn, (f13.2.2.2.2 4).trans r4, (f13.2.2.2.2 5).trans r5, fun s hs => by rw [(a3 A n1).2.2.1]; exact hw s hs, fun t ht => a2 t (by omega)⟩
  obtain ⟨M2, b1, b2, b3⟩ := q_pass_l10 hk hL hA hB n1 n3 4 FU 0 M1 (by omega) (FU_lt (by omega)) hT1
  have g13 := b3 13 (fun e => n7 e.symm)
  refine ⟨sR (sR M2 13 4 B) 13 5 A, ?_, ?_, ?_, fun t ht => b2.2.2.2.2.2 t ht, b2.1, b2.2.1, ?_, fun k => (g13.1 k).trans (f13.1 k), ((a3.mono (fun id e => Or.inr e)).tr (b3.mono (fun id e => Or.inr e))).tr ((Fr.sR (Or.inl rfl)).tr (Fr.sR (Or.inl rfl)))⟩
  · rw [f_Seen_passColumn]
    simp (disch := first | assumption | omega) only [z_bdn, z_caln, z_gdn, z_iT, z_iF, z_le_t, z_le_f, z_lt_t, z_lt_f, z_cl, z_inb, z_at, z_lit, nI_ii1, nI_add, z_mr, z_ref0, z_refn, z_eq_f, Bool.not_true, Bool.not_false, b2i_t, b2i_f, r5, a1]
    exact b1
  · rw [mR_sR, if_neg (by decide), mR_sR, if_pos ⟨rfl, rfl⟩]
  · rw [mR_sR, if_pos ⟨rfl, rfl⟩]
  · show mA M2 14 = mA M 14
    rw [(b3 14 (fun e => n5 e.symm)).2.2.1, (a3 14 (fun e => n5 e.symm)).2.2.1]
theorem q_count_l17 {L c W : Nat} {kn : Nat → Option Nat} (hL : L ≤ 5) (hW : W ≤ 8) (hk : ∀ j b, j < W → kn j = some b → b < 4) : ∀ (m n j A B : Nat) (M : kx_M), j + m = W → m < n → ((A = 16 ∧ B = 17) ∨ (A = 17 ∧ B = 16)) → mI M 13 3 = nI L → mI M 13 1 = nI W → tbOk M L c (4 * L) → mR M 13 4 = A → mR M 13 5 = B → (∀ j, j < W → mA M 14 j = oI (kn j)) → (∀ s, s ≤ L → mA M A s = nI (wv L c kn j s)) → ∃ M', f_Seen_count_l17 n (nI j) M = some (nI (wv L c kn W L), M') ∧ SeenAt M' L c W kn ∧ Fr (fun id => 13 ≤ id ∧ id ≤ 17) M M' := by
  intro m
  induction m with
  | zero =>
    intro n j A B M hj hn hAB h3 h1 hT r4 r5 h14 hw
    obtain ⟨n, rfl, hn⟩ := z_succ hn
    obtain rfl : j = W := by omega
    obtain ⟨hA, hB, n1, -⟩ := way_ids hAB
    have eA := z_aIb (tg := 1) hA (show L < 6 by omega) (by omega)
    have ew := hw L (Nat.le_refl _)
    refine ⟨M, ?_, ⟨h3, h1, hT, h14, ?_⟩, Fr.rf⟩
    · rw [f_Seen_count_l17]
      simp (disch := first | assumption | omega) only [z_bdn, z_caln, z_gdn, z_iT, z_iF, z_le_t, z_le_f, z_lt_t, z_lt_f, z_cl, z_inb, z_at, z_lit, nI_ii1, nI_add, z_mr, z_ref0, z_refn, z_eq_f, Bool.not_true, Bool.not_false, b2i_t, b2i_f, h1, h3, r4, eA, ew]
    · unfold wayOk
      rw [r4, r5]; exact hAB
  | succ m ih =>
    intro n j A B M hj hn hAB h3 h1 hT r4 r5 h14 hw
    obtain ⟨n, rfl, hn⟩ := z_succ hn
    obtain ⟨M1, a1, a2, a3, a4, a5, a6, a7, a8, a9⟩ := q_pass (kn := kn j) (hk j · (by omega)) hL hAB h3 hT r4 r5 hw
    obtain ⟨M', g1, g2, g3⟩ := ih n (j + 1) B A M1 (by omega) (by omega) (by omega) a5 ((a8 1).trans h1) a6 a2 a3 (fun i hi => by rw [a7]; exact h14 i hi) a4
    have e14 := h14 j (by omega)
    refine ⟨M', ?_, g2, (a9.mono (fun id e => by omega)).tr g3⟩
    rw [f_Seen_count_l17]
    simp (disch := first | assumption | omega) only [z_bdn, z_caln, z_gdn, z_iT, z_iF, z_le_t, z_le_f, z_lt_t, z_lt_f, z_cl, z_inb, z_at, z_lit, nI_ii1, nI_add, z_mr, z_ref0, z_refn, z_eq_f, Bool.not_true, Bool.not_false, b2i_t, b2i_f, h1, e14, a1]
    exact g1
theorem q_count {L c W : Nat} {kn : Nat → Option Nat} (hL : L ≤ 5) (hW : W ≤ 8) (hk : ∀ j b, j < W → kn j = some b → b < 4) (hS : SeenAt M L c W kn) : ∃ M', f_Seen_count M = some (nI (wv L c kn W L), M') ∧ SeenAt M' L c W kn ∧ FrS M M' := by
  obtain ⟨h3, h1, hT, h14, hw⟩ := hS
  obtain ⟨A, B, hAB, r4, r5⟩ : ∃ A B, ((A = 16 ∧ B = 17) ∨ (A = 17 ∧ B = 16)) ∧ mR M 13 4 = A ∧ mR M 13 5 = B := ⟨_, _, hw, rfl, rfl⟩
  obtain ⟨hA, hB, n1, n2, n3, n4, n5, n6, n7⟩ := way_ids hAB
  obtain ⟨M1, a1, a2, a3⟩ := q_fill2 (M := M) hA
  have f13 := a3 13 (fun e => n6 e.symm)
  have eA := z_aIb (tg := 1) hA (show 0 < 6 by omega) (by omega)
  have r4' : mR M1 13 4 = A := (f13.2.2.2.2 4).trans r4
  obtain ⟨M', g1, g2, g3⟩ := q_count_l17 (c := c) (kn := kn) hL hW hk W FU 0 A B (sA M1 A (upd (mA M1 A) 0 (nI 1))) (by omega) (FU_lt (by omega)) hAB ((f13.1 3).trans h3) ((f13.1 1).trans h1) (fun s a hs ha hn => by rw [mA_sA, if_neg (fun e => n2 e.symm), (a3 15 (fun e => n2 e.symm)).2.2.1]; exact hT s a hs ha hn) r4' ((f13.2.2.2.2 5).trans r5) (fun j hj => by rw [mA_sA, if_neg (fun e => n4 e.symm), (a3 14 (fun e => n4 e.symm)).2.2.1]; exact h14 j hj) (fun s hs => by
    rw [mA_sA, if_pos rfl, upd_at]
    show _ = nI (if s = 0 then 1 else 0)
    by_cases h0 : s = 0
    · rw [if_pos h0, if_pos h0]
    · rw [if_neg h0, if_neg h0]; exact a2 s (by omega))
  refine ⟨M', ?_, g2, ((a3.mono (fun id e => by omega)).tr (Fr.sA (by omega))).tr g3, fun _ => g2.2.2.2.2⟩
  rw [f_Seen_count]
  simp (disch := first | assumption | omega) only [z_bdn, z_caln, z_gdn, z_iT, z_iF, z_le_t, z_le_f, z_lt_t, z_lt_f, z_cl, z_inb, z_at, z_lit, nI_ii1, nI_add, z_mr, z_ref0, z_refn, z_eq_f, Bool.not_true, Bool.not_false, b2i_t, b2i_f, r4, a1, r4', eA]
  exact g1
end
