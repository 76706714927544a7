/-! ## LOOK: the reference, a column -/
def lC (s : Option (Nat × Nat)) : Nat := match s with
  | none => 0
  | some c => c.2
def lkS (s : Option (Nat × Nat)) (j g : Nat) : Option (Nat × Nat) := match s with
  | none => some (j, g)
  | some c => if g < c.2 then some (j, g) else some c
section
variable {M M' : kx_M} {σ : Sg} {y : De} {h : Nat → Int64} {G : Nat → Int32}
theorem q_look_l83 {K : Int32 → Int32 → Int32 → kx_M → Option (Int32 × kx_M)} {W k j : Nat} {p : Int32} {kn : Nat → Option Nat} {s : Option (Nat × Nat)} (hP : OkD W y) (hD : MD G h y) (hG0 : G 0 = nI W) (hW : W ≤ 8) (hk : k < dC y) (hkn : ∀ j b, j < W → kn j = some b → b < 4) (hj : j < W) (hu : kn j = none) (hs : ∀ c, s = some c → c.1 < 8 ∧ c.2 ≤ 65536) : ∀ (m n a b : Nat) (M : kx_M), a + m = 4 → m < n → b ≤ 65536 → mA M 140 = G → (∀ i, i < W → mA M 147 i = oI (kn i)) → ∃ M', f_RM_look_l83 (nI k) p K n (lI s) (nI (lC s)) (nI j) (nI b) (nI a) M = K (lI (lkS s j (mxN (fun a => wv (dL y k) (rnN y k (dL y k)) (knU kn j a) W (dL y k)) m a b))) (nI (lC (lkS s j (mxN (fun a => wv (dL y k) (rnN y k (dL y k)) (knU kn j a) W (dL y k)) m a b)))) (nI (j + 1)) M' ∧ (∀ i, i < W → mA M' 147 i = oI (kn i)) ∧ Fr (fun id => id = 147 ∨ id = 148 ∨ id = 149) M M' := by
  intro m
  induction m with
  | zero =>
    intro n a b M ha hn hb hG h7
    obtain ⟨n, rfl, hn⟩ := z_succ hn
    obtain rfl : a = 4 := by omega
    refine ⟨M, ?_, h7, Fr.rf⟩
    rw [f_RM_look_l83]
    show _ = K (lI (lkS s j b)) (nI (lC (lkS s j b))) (nI (j + 1)) M
    cases s with
    | none =>
      simp (disch := first | assumption | omega) only [z_bdn, z_caln, z_gdn, z_iT, z_iF, z_le_t, z_le_f, z_lt_t, z_lt_f, z_cl, z_inb, z_at, z_pl, z_lit, nI_ii1, nI_add, nI_mul, z_eq_f, z_refuse, z_no, z_M00, b2i_t, b2i_f, lI, lC, lkS, z_neg1]
    | some c =>
      obtain ⟨c1, c2⟩ := hs c rfl
      show _ = K (lI (if b < c.2 then some (j, b) else some c)) (nI (lC (if b < c.2 then some (j, b) else some c))) (nI (j + 1)) M
      by_cases hlt : b < c.2
      · rw [if_pos hlt]
        simp (disch := first | assumption | omega) only [z_bdn, z_caln, z_gdn, z_iT, z_iF, z_le_t, z_le_f, z_lt_t, z_lt_f, z_cl, z_inb, z_at, z_pl, z_lit, nI_ii1, nI_add, nI_mul, z_eq_f, z_refuse, z_no, z_M00, b2i_t, b2i_f, lI, lC, nI_pos0]
      · rw [if_neg hlt]
        simp (disch := first | assumption | omega) only [z_bdn, z_caln, z_gdn, z_iT, z_iF, z_le_t, z_le_f, z_lt_t, z_lt_f, z_cl, z_inb, z_at, z_pl, z_lit, nI_ii1, nI_add, nI_mul, z_eq_f, z_refuse, z_no, z_M00, b2i_t, b2i_f, lI, lC, nI_pos0]
  | succ m ih =>
    intro n a b M ha hn hb hG h7
    obtain ⟨n, rfl, hn⟩ := z_succ hn
    obtain ⟨M1, a1, a2, a3⟩ := q_fwith (M := M) (h := h) (a := a) hP (by rw [hG]; exact hD) (by rw [hG]; exact hG0) hW hk hkn h7 hj (by omega)
    rw [show fwN (dL y k) (rnN y k (dL y k)) W kn j a = wv (dL y k) (rnN y k (dL y k)) (knU kn j a) W (dL y k) from by unfold fwN; rw [hu]] at a1
    have l1 := wv_16 (L := dL y k) (c := rnN y k (dL y k)) (kn := knU kn j a) hW
    obtain ⟨M', g1, g2, g3⟩ := ih n (a + 1) (max b (wv (dL y k) (rnN y k (dL y k)) (knU kn j a) W (dL y k))) M1 (by omega) (by omega) (by omega) ((a3 140 (by decide)).2.2.1.trans hG) a2
    rw [← mxN_s (f := fun a => wv (dL y k) (rnN y k (dL y k)) (knU kn j a) W (dL y k))] at g1
    refine ⟨M', ?_, g2, a3.tr g3⟩
    rw [f_RM_look_l83]
    simp (disch := first | assumption | omega) only [z_bdn, z_caln, z_gdn, z_iT, z_iF, z_le_t, z_le_f, z_lt_t, z_lt_f, z_cl, z_inb, z_at, z_pl, z_lit, nI_ii1, nI_add, nI_mul, z_eq_f, z_refuse, z_no, z_M00, b2i_t, b2i_f, a1, z_max (show b < 2147483648 by omega) (show wv (dL y k) (rnN y k (dL y k)) (knU kn j a) W (dL y k) < 2147483648 by omega)]
    exact g1
end
