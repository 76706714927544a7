/-! ## bytes are put, and fed -/
theorem z_mA (M : kx_M) (i : Nat) (f : Nat → Int32) : mA (sA M i f) i = f := if_pos rfl
theorem z_mAn {M : kx_M} {i j : Nat} {f : Nat → Int32} (h : j ≠ i) : mA (sA M i f) j = mA M j := if_neg h
theorem z_ua (f : Nat → Int32) (p : Nat) (v : Int32) : upd f p v p = v := if_pos rfl
theorem z_un {f : Nat → Int32} {p q : Nat} {v : Int32} (h : q ≠ p) : upd f p v q = f q := if_neg h
/-- what has been put so far: the tape has the twenties, the row the rest -/
def WR (hA : Nat → Int32) (M : kx_M) (σ : Sg) (tx : List Nat) : Prop := IC M σ ∧ mA M 136 = hA ∧ (gK σ).1 = 0 ∧ (∀ c ∈ tx, c < 128) ∧ (gP σ).1 = 20 * (tx.length / 20) ∧ (∀ i, i < (gP σ).1 → (gP σ).2 i = tx.getD i 0) ∧ mA M 135 20 = nI (tx.length % 20) ∧ mA M 135 21 = nI tx.length ∧ mA M 135 22 = nI 0 ∧ ∀ i, i < tx.length % 20 → mA M 135 i = nI (tx.getD (20 * (tx.length / 20) + i) 0)
def fw (a b c d : Nat) : Nat := a * 16777216 + b * 65536 + c * 256 + d
theorem nI_shl : ∀ (a b : Nat), a < 128 → (b = 8 ∨ b = 16 ∨ b = 24) → nI a <<< (nI b &&& nI 31) = nI (a * 2 ^ b) := by
  have h : ∀ a, a < 128 → nI a <<< (nI 8 &&& nI 31) = nI (a * 2 ^ 8) ∧ nI a <<< (nI 16 &&& nI 31) = nI (a * 2 ^ 16) ∧ nI a <<< (nI 24 &&& nI 31) = nI (a * 2 ^ 24) := by decide +kernel
  intro a b ha hb
  rcases hb with rfl | rfl | rfl
  · exact (h a ha).1
  · exact (h a ha).2.1
  · exact (h a ha).2.2
theorem or_add {a b k : Nat} (h : b < 2 ^ k) : a * 2 ^ k ||| b = a * 2 ^ k + b := by
  rw [Nat.mul_comm]
  exact (Nat.two_pow_add_eq_or_of_lt h a).symm
theorem fw_e {a b c d : Nat} (ha : a < 128) (hb : b < 128) (hc : c < 128) (hd : d < 128) : (((nI a <<< (nI 24 &&& nI 31)) ||| (nI b <<< (nI 16 &&& nI 31))) ||| (nI c <<< (nI 8 &&& nI 31))) ||| nI d = nI (fw a b c d) := by
  rw [nI_shl a 24 ha (by omega), nI_shl b 16 hb (by omega), nI_shl c 8 hc (by omega), nx_or, nx_or, nx_or]
  rw [or_add (k := 24) (show b * 2 ^ 16 < 2 ^ 24 by omega)]
  rw [show a * 2 ^ 24 + b * 2 ^ 16 = (a * 2 ^ 8 + b) * 2 ^ 16 by omega, or_add (k := 16) (show c * 2 ^ 8 < 2 ^ 16 by omega)]
  rw [show (a * 2 ^ 8 + b) * 2 ^ 16 + c * 2 ^ 8 = ((a * 2 ^ 8 + b) * 2 ^ 8 + c) * 2 ^ 8 by omega, or_add (k := 8) (show d < 2 ^ 8 by omega)]
  refine congrArg nI ?_
  unfold fw
  omega
theorem nI_nat {n : Nat} (h : n < 4294967296) : (nI n).toBitVec.toNat = n := by
  show (BitVec.ofNat 32 n).toNat = n
  rw [BitVec.toNat_ofNat]
  exact Nat.mod_eq_of_lt (by omega)
theorem byN_fw {a b c d : Nat} (ha : a < 128) (hb : b < 128) (hc : c < 128) (hd : d < 128) : byN (nI (fw a b c d)) 3 = a ∧ byN (nI (fw a b c d)) 2 = b ∧ byN (nI (fw a b c d)) 1 = c ∧ byN (nI (fw a b c d)) 0 = d := by
  unfold byN
  rw [nI_nat (by unfold fw; omega)]
  simp only [Nat.shiftRight_eq_div_pow]
  unfold fw
  refine ⟨?_, ?_, ?_, ?_⟩
  · show (a * 16777216 + b * 65536 + c * 256 + d) / 16777216 % 256 = a
    omega
  · show (a * 16777216 + b * 65536 + c * 256 + d) / 65536 % 256 = b
    omega
  · show (a * 16777216 + b * 65536 + c * 256 + d) / 256 % 256 = c
    omega
  · show (a * 16777216 + b * 65536 + c * 256 + d) / 1 % 256 = d
    omega
def pushL (P : Tp) (L : List Nat) : Tp := L.foldl pushB P
theorem pushL_ok : ∀ (L : List Nat) (P : Tp), (pushL P L).1 = P.1 + L.length ∧ (∀ k, k < P.1 → (pushL P L).2 k = P.2 k) ∧ ∀ i, i < L.length → (pushL P L).2 (P.1 + i) = L.getD i 0
  | [], P => ⟨rfl, fun _ _ => rfl, fun i hi => absurd hi (Nat.not_lt_zero _)⟩
  | b :: L, P => by
    obtain ⟨h1, h2, h3⟩ := pushL_ok L (pushB P b)
    have e : pushL P (b :: L) = pushL (pushB P b) L := rfl
    have h1 : (pushL (pushB P b) L).1 = P.1 + 1 + L.length := h1
    have h2 : ∀ k, k < P.1 + 1 → (pushL (pushB P b) L).2 k = if k = P.1 then b else P.2 k := h2
    have h3 : ∀ i, i < L.length → (pushL (pushB P b) L).2 (P.1 + 1 + i) = L.getD i 0 := h3
    rw [e]
    refine ⟨by rw [h1]; show P.1 + 1 + L.length = P.1 + (L.length + 1); omega, fun k hk => ?_, fun i hi => ?_⟩
    · rw [h2 k (by omega)]
      exact if_neg (by omega)
    · cases i with
      | zero =>
        rw [h2 (P.1 + 0) (by omega)]
        exact if_pos rfl
      | succ i =>
        have hi : i + 1 < L.length + 1 := hi
        rw [show P.1 + (i + 1) = P.1 + 1 + i by omega, h3 i (by omega)]
        rfl
theorem fdW_L {P : Tp} {a b c d : Nat} (ha : a < 128) (hb : b < 128) (hc : c < 128) (hd : d < 128) : fdW P (nI (fw a b c d)) = pushL P [a, b, c, d] := by
  obtain ⟨h1, h2, h3, h4⟩ := byN_fw ha hb hc hd
  unfold fdW
  rw [h1, h2, h3, h4]
  rfl
theorem fdA_L {P : Tp} {B : Nat → Nat} (hB : ∀ i, i < 20 → B i < 128) : fdA P (nI (fw (B 0) (B 1) (B 2) (B 3))) (nI (fw (B 4) (B 5) (B 6) (B 7))) (nI (fw (B 8) (B 9) (B 10) (B 11))) (nI (fw (B 12) (B 13) (B 14) (B 15))) (nI (fw (B 16) (B 17) (B 18) (B 19))) = pushL P [B 0, B 1, B 2, B 3, B 4, B 5, B 6, B 7, B 8, B 9, B 10, B 11, B 12, B 13, B 14, B 15, B 16, B 17, B 18, B 19] := by
  unfold fdA
  rw [fdW_L (hB 0 (by omega)) (hB 1 (by omega)) (hB 2 (by omega)) (hB 3 (by omega)), fdW_L (hB 4 (by omega)) (hB 5 (by omega)) (hB 6 (by omega)) (hB 7 (by omega)), fdW_L (hB 8 (by omega)) (hB 9 (by omega)) (hB 10 (by omega)) (hB 11 (by omega)), fdW_L (hB 12 (by omega)) (hB 13 (by omega)) (hB 14 (by omega)) (hB 15 (by omega)), fdW_L (hB 16 (by omega)) (hB 17 (by omega)) (hB 18 (by omega)) (hB 19 (by omega))]
  rfl
theorem l20 (B : Nat → Nat) : ∀ i, i < 20 → ([B 0, B 1, B 2, B 3, B 4, B 5, B 6, B 7, B 8, B 9, B 10, B 11, B 12, B 13, B 14, B 15, B 16, B 17, B 18, B 19] : List Nat).getD i 0 = B i := by
  intro i hi
  rcases i with _ | _ | _ | _ | _ | _ | _ | _ | _ | _ | _ | _ | _ | _ | _ | _ | _ | _ | _ | _ | i
  all_goals first | rfl | omega
theorem q_four {M : kx_M} {B : Nat → Nat} (h : ∀ i, i < 20 → mA M 135 i = nI (B i) ∧ B i < 128) {k : Nat} (hk : k + 3 < 20) : f_LW_four (nI k) M = some (nI (fw (B k) (B (k + 1)) (B (k + 2)) (B (k + 3))), M) := by
  have e0 := (h k (by omega)).1
  have e1 := (h (k + 1) (by omega)).1
  have e2 := (h (k + 2) (by omega)).1
  have e3 := (h (k + 3) (by omega)).1
  rw [f_LW_four]
  simp (disch := first | assumption | omega) only [z_bdn, z_caln, z_gdn, z_iT, z_iF, z_le_t, z_le_f, z_lt_t, z_lt_f, z_cl, z_inb, z_at, z_lit, nI_ii1, nI_add, z_mr, z_ref0, z_refn, z_eq_f, Bool.not_true, Bool.not_false, b2i_t, b2i_f, e0, e1, e2, e3]
  rw [fw_e (h k (by omega)).2 (h _ (by omega)).2 (h _ (by omega)).2 (h _ (by omega)).2]
theorem Lo_A {M : kx_M} {i : Nat} {f : Nat → Int32} (h : 135 ≤ i) : Lo M (sA M i f) := Fr.sA h
theorem Lo_tr {A B C : kx_M} (h : Lo A B) (g : Lo B C) : Lo A C := Fr.tr h g
theorem Hi_A {M M' : kx_M} (h : Hi M M') {i : Nat} (hi : 135 ≤ i) : mA M' i = mA M i := (h i (by omega)).2.2.1
theorem w_feed_l5 {σ : Sg} {j0 : Nat} {B : Nat → Nat} (hP : (gP σ).1 + 20 ≤ 900) : ∀ (m n j : Nat) (M : kx_M), j + m = 20 → m < n → IC M σ → (∀ i, i < 20 → B i < 128) → (∀ i, j ≤ i → i < 20 → B i = 32) → (∀ i, i < j → mA M 135 i = nI (B i)) → ∃ M', f_LW_feed_l5 n (nI j) M = some ((), M') ∧ IC M' (wP σ (pushL (gP σ) ((List.range 20).map B)).1 (pushL (gP σ) ((List.range 20).map B)).2) ∧ mA M' 136 = mA M 136 ∧ mA M' 135 20 = nI 0 ∧ ∀ i, 20 < i → mA M' 135 i = mA M 135 i := by
  intro m
  induction m with
  | zero =>
    intro n j M hj hn hI hB _ hm
    obtain ⟨n, rfl, hn⟩ := z_succ hn
    obtain rfl : j = 20 := by omega
    have h := fun i (hi : i < 20) => (⟨hm i hi, hB i hi⟩ : mA M 135 i = nI (B i) ∧ B i < 128)
    have f0 := q_four h (k := 0) (by omega)
    have f1 := q_four h (k := 4) (by omega)
    have f2 := q_four h (k := 8) (by omega)
    have f3 := q_four h (k := 12) (by omega)
    have f4 := q_four h (k := 16) (by omega)
    obtain ⟨M1, a1, a2, a3⟩ := pC_feed (nI (fw (B 0) (B (0 + 1)) (B (0 + 2)) (B (0 + 3)))) (nI (fw (B 4) (B (4 + 1)) (B (4 + 2)) (B (4 + 3)))) (nI (fw (B 8) (B (8 + 1)) (B (8 + 2)) (B (8 + 3)))) (nI (fw (B 12) (B (12 + 1)) (B (12 + 2)) (B (12 + 3)))) (nI (fw (B 16) (B (16 + 1)) (B (16 + 2)) (B (16 + 3)))) M σ hI
    have eF := fdA_L (P := gP σ) hB
    have eo : o_feed (nI (fw (B 0) (B (0 + 1)) (B (0 + 2)) (B (0 + 3)))) (nI (fw (B 4) (B (4 + 1)) (B (4 + 2)) (B (4 + 3)))) (nI (fw (B 8) (B (8 + 1)) (B (8 + 2)) (B (8 + 3)))) (nI (fw (B 12) (B (12 + 1)) (B (12 + 2)) (B (12 + 3)))) (nI (fw (B 16) (B (16 + 1)) (B (16 + 2)) (B (16 + 3)))) σ = (nI ((gP σ).1 + 20), wP σ (pushL (gP σ) ((List.range 20).map B)).1 (pushL (gP σ) ((List.range 20).map B)).2) := by
      unfold o_feed
      rw [if_pos hP]
      exact congrArg (fun p : Tp => (nI ((gP σ).1 + 20), wP σ p.1 p.2)) eF
    rw [eo] at a1 a2
    have hL := Lo_A (M := M1) (i := 135) (f := upd (mA M1 135) 20 (nI 0)) (Nat.le_refl _)
    refine ⟨sA M1 135 (upd (mA M1 135) 20 (nI 0)), ?_, IC_lo hL a2, ?_, ?_, fun i hi => ?_⟩
    · rw [f_LW_feed_l5]
      simp (disch := first | assumption | omega) only [z_bdn, z_caln, z_gdn, z_iT, z_iF, z_le_t, z_le_f, z_lt_t, z_lt_f, z_cl, z_inb, z_at, z_lit, nI_ii1, nI_add, z_mr, z_ref0, z_refn, z_eq_f, Bool.not_true, Bool.not_false, b2i_t, b2i_f, f0, f1, f2, f3, f4, a1]
    · rw [z_mAn (by decide)]
      exact Hi_A a3 (by decide)
    · rw [z_mA, z_ua]
    · rw [z_mA, z_un (by omega)]
      exact congrFun (Hi_A a3 (by decide)) i
  | succ m ih =>
    intro n j M hj hn hI hB h32 hm
    obtain ⟨n, rfl, hn⟩ := z_succ hn
    have hL := Lo_A (M := M) (i := 135) (f := upd (mA M 135) j (nI 32)) (Nat.le_refl _)
    obtain ⟨M', a1, a2, a3, a4, a5⟩ := ih n (j + 1) (sA M 135 (upd (mA M 135) j (nI 32))) (by omega) (by omega) (IC_lo hL hI) hB (fun i h1 h2 => h32 i (by omega) h2) (fun i hi => by
      rw [z_mA, upd_at]
      by_cases e : i = j
      · rw [if_pos e, e, h32 j (Nat.le_refl _) (by omega)]
      · rw [if_neg e]
        exact hm i (by omega))
    refine ⟨M', ?_, a2, ?_, a4, fun i hi => ?_⟩
    · rw [f_LW_feed_l5]
      simp (disch := first | assumption | omega) only [z_bdn, z_caln, z_gdn, z_iT, z_iF, z_le_t, z_le_f, z_lt_t, z_lt_f, z_cl, z_inb, z_at, z_lit, nI_ii1, nI_add, z_mr, z_ref0, z_refn, z_eq_f, Bool.not_true, Bool.not_false, b2i_t, b2i_f]
      exact a1
    · rw [a3, z_mAn (by decide)]
    · rw [a5 i hi, z_mA, z_un (by omega)]
