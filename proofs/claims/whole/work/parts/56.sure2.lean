/-! ## SURE: the reference -/
section
variable {M M' : kx_M} {σ : Sg} {x : Cl} {y : De} {h : Nat → Int64}
def fwN (L c W : Nat) (kn : Nat → Option Nat) (j a : Nat) : Nat := match kn j with
  | none => wv L c (knU kn j a) W L
  | some b => if b = a then wv L c (knU kn j a) W L else 0
theorem knU_same {kn : Nat → Option Nat} {j b : Nat} (e : kn j = some b) : knU kn j b = kn := funext fun i => by
  unfold knU
  by_cases h : i = j
  · rw [if_pos h, h, e]
  · rw [if_neg h]
theorem suN_fw {L c W j : Nat} {kn : Nat → Option Nat} (hk : ∀ b, kn j = some b → b < 4) (h0 : wv L c kn W L ≠ 0) : suN L c W kn j = fsF (fun a => decide (fwN L c W kn j a = wv L c kn W L)) 4 0 := by
  unfold suN
  rw [if_neg h0]
  cases hkn : kn j with
  | none =>
    have : (fun a => decide (fwN L c W kn j a = wv L c kn W L)) = fun a => decide (wv L c (knU kn j a) W L = wv L c kn W L) := funext fun a => by unfold fwN; rw [hkn]
    rw [this]
  | some b =>
    have hb := hk b hkn
    have hf : ∀ a, fwN L c W kn j a = if b = a then wv L c (knU kn j a) W L else 0 := fun a => by unfold fwN; rw [hkn]
    cases hr : fsF (fun a => decide (fwN L c W kn j a = wv L c kn W L)) 4 0 with
    | none =>
      have := fsF_none _ _ hr b (by omega) (by omega)
      have h2 : ¬ fwN L c W kn j b = wv L c kn W L := of_decide_eq_false this
      rw [hf, if_pos rfl, knU_same hkn] at h2
      exact absurd rfl h2
    | some v =>
      obtain ⟨-, -, g3, -⟩ := fsF_some _ _ _ hr
      have g3 : fwN L c W kn j v = wv L c kn W L := of_decide_eq_true g3
      rw [hf] at g3
      by_cases hbv : b = v
      · rw [hbv]
      · rw [if_neg hbv] at g3
        exact absurd g3.symm h0
theorem q_fwith {W k j a : Nat} {kn : Nat → Option Nat} (hP : OkD W y) (hD : MD (mA M 140) h y) (hG0 : mA M 140 0 = nI W) (hW : W ≤ 8) (hk : k < dC y) (hkn : ∀ j b, j < W → kn j = some b → b < 4) (h7 : ∀ i, i < W → mA M 147 i = oI (kn i)) (hj : j < W) (ha : a < 4) : ∃ M', f_RM_fillingWith (nI k) (nI j) (nI a) M = some (nI (fwN (dL y k) (rnN y k (dL y k)) W kn j a), M') ∧ (∀ i, i < W → mA M' 147 i = oI (kn i)) ∧ Fr (fun id => id = 147 ∨ id = 148 ∨ id = 149) M M' := by
  have e7 := h7 j hj
  obtain ⟨M2, b1, b2⟩ := q_filling (M := sA M 147 (upd (mA M 147) j (nI a))) (h := h) (kn := knU kn j a) hP hD hG0 hW hk (knU_lt ha hkn) (fun i hi => by
    rw [mA_sA, if_pos rfl, upd_at]
    unfold knU
    by_cases he : i = j
    · rw [if_pos he, if_pos he]; rfl
    · rw [if_neg he, if_neg he]; exact h7 i hi)
  have e147 := (b2 147 (by decide)).2.2.1
  have hF : ∀ v, Fr (fun id => id = 147 ∨ id = 148 ∨ id = 149) M (sA M2 147 (upd (mA M2 147) j v)) := fun v => Fr.tr (Fr.sA (Or.inl rfl)) ((b2.mono (fun id e => Or.inr e)).tr (Fr.sA (Or.inl rfl)))
  have h7' : ∀ i, i < W → mA (sA M2 147 (upd (mA M2 147) j (oI (kn j)))) 147 i = oI (kn i) := fun i hi => by
    rw [mA_sA, if_pos rfl, upd_at]
    by_cases he : i = j
    · rw [if_pos he, he]
    · rw [if_neg he, e147, mA_sA, if_pos rfl, upd_at, if_neg he]; exact h7 i hi
  rw [f_RM_fillingWith]
  cases hc : kn j with
  | none =>
    have hf : fwN (dL y k) (rnN y k (dL y k)) W kn j a = wv (dL y k) (rnN y k (dL y k)) (knU kn j a) W (dL y k) := by unfold fwN; rw [hc]
    rw [hc] at e7 h7'
    have e7 : mA M 147 j = -nI 1 := e7
    rw [hf]
    refine ⟨_, ?_, h7', hF _⟩
    simp (disch := first | assumption | omega) only [z_bdn, z_caln, z_gdn, z_iT, z_iF, z_le_t, z_le_f, z_lt_t, z_lt_f, z_cl, z_inb, z_at, z_pl, z_lit, nI_ii1, nI_add, nI_mul, z_eq_f, z_refuse, z_no, z_M00, b2i_t, b2i_f, e7, z_neg1, f_RM_fillingWith_l21, b1, oI]
  | some b =>
    have hb := hkn j b hj hc
    have hf : fwN (dL y k) (rnN y k (dL y k)) W kn j a = if b = a then wv (dL y k) (rnN y k (dL y k)) (knU kn j a) W (dL y k) else 0 := by unfold fwN; rw [hc]
    rw [hc] at e7 h7'
    have e7 : mA M 147 j = nI b := e7
    by_cases hba : b = a
    · refine ⟨_, ?_, h7', hF _⟩
      rw [hf, if_pos hba]
      subst hba
      simp (disch := first | assumption | omega) only [z_bdn, z_caln, z_gdn, z_iT, z_iF, z_le_t, z_le_f, z_lt_t, z_lt_f, z_cl, z_inb, z_at, z_pl, z_lit, nI_ii1, nI_add, nI_mul, z_eq_f, z_refuse, z_no, z_M00, b2i_t, b2i_f, e7, nI_pos0, f_RM_fillingWith_l21, b1, oI]
    · have hne : ¬ nI b = nI a := fun e => hba ((nI_eq (by omega) (by omega)).mp e)
      refine ⟨M, ?_, h7, Fr.rf⟩
      rw [hf, if_neg hba]
      simp (disch := first | assumption | omega) only [z_bdn, z_caln, z_gdn, z_iT, z_iF, z_le_t, z_le_f, z_lt_t, z_lt_f, z_cl, z_inb, z_at, z_pl, z_lit, nI_ii1, nI_add, nI_mul, z_eq_f, z_refuse, z_no, z_M00, b2i_t, b2i_f, e7, nI_pos0, hne]
theorem fwN_lt {L c W j a : Nat} {kn : Nat → Option Nat} (hW : W ≤ 8) : fwN L c W kn j a < 2147483648 := by
  have h1 := wv_lt (L := L) (c := c) (kn := knU kn j a) hW
  unfold fwN
  cases kn j with
  | none => exact h1
  | some b =>
    show (if b = a then _ else 0) < _
    split
    · exact h1
    · omega
theorem q_sure_l71 {W k j r : Nat} {p : Int32} {kn : Nat → Option Nat} {G : Nat → Int32} (hP : OkD W y) (hD : MD G h y) (hG0 : G 0 = nI W) (hW : W ≤ 8) (hk : k < dC y) (hkn : ∀ j b, j < W → kn j = some b → b < 4) (hj : j < W) (hr0 : 0 < r) (hr : r < 2147483648) : ∀ (m n a : Nat) (M : kx_M), a + m = 4 → m < n → mA M 140 = G → (∀ i, i < W → mA M 147 i = oI (kn i)) → ∃ M', f_RM_sure_l71 (nI k) p (nI j) n (nI r) (nI a) M = (match fsF (fun a => decide (fwN (dL y k) (rnN y k (dL y k)) W kn j a = r)) m a with | some v => some (nI v, M') | none => some (-nI 1, sI M' 135 0 (nI 8))) ∧ Fr (fun id => id = 147 ∨ id = 148 ∨ id = 149) M M' := by
  intro m
  induction m with
  | zero =>
    intro n a M ha hn hG h7
    obtain ⟨n, rfl, hn⟩ := z_succ hn
    obtain rfl : a = 4 := by omega
    refine ⟨M, ?_, Fr.rf⟩
    rw [f_RM_sure_l71]
    simp (disch := first | assumption | omega) only [z_bdn, z_caln, z_gdn, z_iT, z_iF, z_le_t, z_le_f, z_lt_t, z_lt_f, z_cl, z_inb, z_at, z_pl, z_lit, nI_ii1, nI_add, nI_mul, z_eq_f, z_refuse, z_no, z_M00, b2i_t, b2i_f]
    rfl
  | succ m ih =>
    intro n a M ha hn hG h7
    obtain ⟨n, rfl, hn⟩ := z_succ hn
    obtain ⟨M1, a1, a2, a3⟩ := q_fwith (M := M) (h := h) (a := a) hP (by rw [hG]; exact hD) (by rw [hG]; exact hG0) hW hk hkn h7 hj (by omega)
    have l1 := fwN_lt (L := dL y k) (c := rnN y k (dL y k)) (kn := kn) (j := j) (a := a) hW
    rw [f_RM_sure_l71]
    by_cases he : fwN (dL y k) (rnN y k (dL y k)) W kn j a = r
    · rw [fsF_t (decide_eq_true he)]
      refine ⟨M1, ?_, a3⟩
      simp (disch := first | assumption | omega) only [z_bdn, z_caln, z_gdn, z_iT, z_iF, z_le_t, z_le_f, z_lt_t, z_lt_f, z_cl, z_inb, z_at, z_pl, z_lit, nI_ii1, nI_add, nI_mul, z_eq_f, z_refuse, z_no, z_M00, b2i_t, b2i_f, a1, he]
    · rw [fsF_f (decide_eq_false he)]
      obtain ⟨M', g1, g2⟩ := ih n (a + 1) M1 (by omega) (by omega) ((a3 140 (by decide)).2.2.1.trans hG) a2
      have hne : ¬ nI (fwN (dL y k) (rnN y k (dL y k)) W kn j a) = nI r := fun e => he ((nI_eq (by omega) (by omega)).mp e)
      refine ⟨M', ?_, a3.tr g2⟩
      simp (disch := first | assumption | omega) only [z_bdn, z_caln, z_gdn, z_iT, z_iF, z_le_t, z_le_f, z_lt_t, z_lt_f, z_cl, z_inb, z_at, z_pl, z_lit, nI_ii1, nI_add, nI_mul, z_eq_f, z_refuse, z_no, z_M00, b2i_t, b2i_f, a1, hne]
      exact g1
end
