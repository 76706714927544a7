/-! ## words, numbers, names are said -/
theorem gd_lt {tx : List Nat} {c i : Nat} (h : i < tx.length) : (tx ++ [c]).getD i 0 = tx.getD i 0 := by
  simp only [List.getD]
  rw [List.getElem?_append_left h]
theorem gd_at {tx : List Nat} {c : Nat} : (tx ++ [c]).getD tx.length 0 = c := by
  simp [List.getD]
theorem w_feed {M : kx_M} {σ : Sg} {r : Nat} {B : Nat → Nat} (hr : r ≤ 20) (hP : (gP σ).1 + 20 ≤ 900) (hI : IC M σ) (h20 : mA M 135 20 = nI r) (hB : ∀ i, i < 20 → B i < 128) (h32 : ∀ i, r ≤ i → i < 20 → B i = 32) (hm : ∀ i, i < r → mA M 135 i = nI (B i)) : ∃ M', f_LW_feed M = some ((), M') ∧ IC M' (wP σ (pushL (gP σ) ((List.range 20).map B)).1 (pushL (gP σ) ((List.range 20).map B)).2) ∧ mA M' 136 = mA M 136 ∧ mA M' 135 20 = nI 0 ∧ ∀ i, 20 < i → mA M' 135 i = mA M 135 i := by
  obtain ⟨M', a1, a2⟩ := w_feed_l5 (j0 := 0) hP (20 - r) FU r M (by omega) (FU_lt (by omega)) hI hB h32 hm
  refine ⟨M', ?_, a2⟩
  rw [f_LW_feed]
  simp (disch := first | assumption | omega) only [z_bdn, z_caln, z_gdn, z_iT, z_iF, z_le_t, z_le_f, z_lt_t, z_lt_f, z_cl, z_inb, z_at, z_lit, nI_ii1, nI_add, z_mr, z_ref0, z_refn, z_eq_f, Bool.not_true, Bool.not_false, b2i_t, b2i_f, h20]
  exact a1
theorem rng_at (B : Nat → Nat) {i : Nat} (hi : i < 20) : ((List.range 20).map B).getD i 0 = B i := l20 B i hi
section
variable {hA : Nat → Int32} {M : kx_M} {σ : Sg} {tx : List Nat}
theorem w_put {c : Nat} (hW : WR hA M σ tx) (hc : c < 128) (hl : tx.length + 20 ≤ 900) : ∃ M' σ', f_LW_put (nI c) M = some ((), M') ∧ WR hA M' σ' (tx ++ [c]) := by
  obtain ⟨w1, w2, w3, w4, w5, w6, w7, w8, w9, w10⟩ := hW
  have hlen : (tx ++ [c]).length = tx.length + 1 := by rw [List.length_append]; rfl
  have hr : tx.length % 20 < 20 := Nat.mod_lt _ (by decide)
  have hdm : 20 * (tx.length / 20) + tx.length % 20 = tx.length := Nat.div_add_mod _ _
  have hmem : ∀ x ∈ tx ++ [c], x < 128 := fun x hx => by
    rcases List.mem_append.mp hx with h | h
    · exact w4 x h
    · rw [List.mem_singleton.mp h]; exact hc
  have hL : Lo M (sA (sA (sA M 135 (upd (mA M 135) (tx.length % 20) (nI c))) 135 (upd (upd (mA M 135) (tx.length % 20) (nI c)) 20 (nI (tx.length % 20 + 1)))) 135 (upd (upd (upd (mA M 135) (tx.length % 20) (nI c)) 20 (nI (tx.length % 20 + 1))) 21 (nI (tx.length + 1)))) := Lo_tr (Lo_tr (Lo_A (by decide)) (Lo_A (by decide))) (Lo_A (by decide))
  have hI := IC_lo hL w1
  have hget : ∀ i, i < tx.length → (tx ++ [c]).getD i 0 = tx.getD i 0 := fun i hi => gd_lt hi
  have row : ∀ i, i < tx.length % 20 + 1 → (upd (upd (upd (mA M 135) (tx.length % 20) (nI c)) 20 (nI (tx.length % 20 + 1))) 21 (nI (tx.length + 1))) i = nI ((tx ++ [c]).getD (20 * (tx.length / 20) + i) 0) := fun i hi => by
    rw [z_un (by omega), z_un (by omega), upd_at]
    by_cases e : i = tx.length % 20
    · rw [if_pos e, e, hdm, gd_at]
    · rw [if_neg e, hget _ (by omega)]
      exact w10 i (by omega)
  by_cases h19 : tx.length % 20 = 19
  · -- the row is full: it is fed
    have hq : (tx.length + 1) / 20 = tx.length / 20 + 1 := by omega
    have hP : (gP σ).1 + 20 ≤ 900 := by rw [w5]; omega
    have hB : ∀ i, i < 20 → (tx ++ [c]).getD (20 * (tx.length / 20) + i) 0 < 128 := fun i hi => by
      have : 20 * (tx.length / 20) + i < (tx ++ [c]).length := by omega
      simp only [List.getD]
      rw [List.getElem?_eq_getElem this]
      exact hmem _ (List.getElem_mem this)
    obtain ⟨M', a1, a2, a3, a4, a5⟩ := w_feed (r := 20) (B := fun i => (tx ++ [c]).getD (20 * (tx.length / 20) + i) 0) (Nat.le_refl _) hP hI (by rw [z_mA, z_un (by decide), z_ua, h19]) hB (fun i h1 h2 => absurd h2 (by omega)) (fun i hi => by rw [z_mA]; exact row i (by omega))
    obtain ⟨p1, p2, p3⟩ := pushL_ok ((List.range 20).map (fun i => (tx ++ [c]).getD (20 * (tx.length / 20) + i) 0)) (gP σ)
    have p1 : (pushL (gP σ) ((List.range 20).map (fun i => (tx ++ [c]).getD (20 * (tx.length / 20) + i) 0))).1 = (gP σ).1 + 20 := p1
    refine ⟨M', _, ?_, a2, ?_, w3, hmem, ?_, fun i hi => ?_, ?_, ?_, ?_, fun i hi => ?_⟩
    · rw [f_LW_put]
      have e20 : (upd (upd (upd (mA M 135) (tx.length % 20) (nI c)) 20 (nI (tx.length % 20 + 1))) 21 (nI (tx.length + 1))) 20 = nI 20 := by rw [z_un (by decide), z_ua, h19]
      have e21 : (upd (upd (mA M 135) (tx.length % 20) (nI c)) 20 (nI (tx.length % 20 + 1))) 21 = nI tx.length := by rw [z_un (by decide), z_un (by omega), w8]
      have e22 : (upd (mA M 135) (tx.length % 20) (nI c)) 20 = nI (tx.length % 20) := by rw [z_un (by omega), w7]
      simp (disch := first | assumption | omega) only [z_bdn, z_caln, z_gdn, z_iT, z_iF, z_le_t, z_le_f, z_lt_t, z_lt_f, z_cl, z_inb, z_at, z_lit, nI_ii1, nI_add, z_mr, z_ref0, z_refn, z_eq_f, Bool.not_true, Bool.not_false, b2i_t, b2i_f, w7, z_mA, e22, e21, e20, a1]
    · rw [a3, z_mAn (by decide), z_mAn (by decide), z_mAn (by decide)]
      exact w2
    · show (pushL _ _).1 = _
      rw [p1, w5, hlen]
      omega
    · have hi : i < (pushL (gP σ) ((List.range 20).map (fun i => (tx ++ [c]).getD (20 * (tx.length / 20) + i) 0))).1 := hi
      show (pushL _ _).2 i = _
      rw [p1] at hi
      by_cases h0 : i < (gP σ).1
      · rw [p2 i h0, w6 i h0, hget i (by rw [w5] at h0; omega)]
      · have e : i = (gP σ).1 + (i - (gP σ).1) := by omega
        rw [e, p3 _ (by show i - (gP σ).1 < 20; omega), rng_at (fun i => (tx ++ [c]).getD (20 * (tx.length / 20) + i) 0) (by omega), ← e]
        show (tx ++ [c]).getD (20 * (tx.length / 20) + (i - (gP σ).1)) 0 = _
        rw [← w5, ← e]
    · rw [a4, hlen, show (tx.length + 1) % 20 = 0 by omega]
    · rw [a5 21 (by decide), z_mA, z_ua, hlen]
    · rw [a5 22 (by decide), z_mA, z_un (by decide), z_un (by decide), z_un (by omega)]
      exact w9
    · rw [hlen] at hi
      omega
  · refine ⟨_, σ, ?_, hI, ?_, w3, hmem, ?_, fun i hi => ?_, ?_, ?_, ?_, fun i hi => ?_⟩
    · rw [f_LW_put]
      have e20 : (upd (upd (upd (mA M 135) (tx.length % 20) (nI c)) 20 (nI (tx.length % 20 + 1))) 21 (nI (tx.length + 1))) 20 = nI (tx.length % 20 + 1) := by rw [z_un (by decide), z_ua]
      have e21 : (upd (upd (mA M 135) (tx.length % 20) (nI c)) 20 (nI (tx.length % 20 + 1))) 21 = nI tx.length := by rw [z_un (by decide), z_un (by omega), w8]
      have e22 : (upd (mA M 135) (tx.length % 20) (nI c)) 20 = nI (tx.length % 20) := by rw [z_un (by omega), w7]
      have hne : (nI (tx.length % 20 + 1) = nI 20) = False := z_eq_f (by omega) (by omega) (by omega)
      simp (disch := first | assumption | omega) only [z_bdn, z_caln, z_gdn, z_iT, z_iF, z_le_t, z_le_f, z_lt_t, z_lt_f, z_cl, z_inb, z_at, z_lit, nI_ii1, nI_add, z_mr, z_ref0, z_refn, z_eq_f, Bool.not_true, Bool.not_false, b2i_t, b2i_f, w7, z_mA, e22, e21, e20, hne]
    · rw [z_mAn (by decide), z_mAn (by decide), z_mAn (by decide)]
      exact w2
    · rw [w5, hlen]; omega
    · rw [w6 i hi, hget i (by rw [w5] at hi; omega)]
    · rw [z_mA, z_un (by decide), z_ua, hlen, show (tx.length + 1) % 20 = tx.length % 20 + 1 by omega]
    · rw [z_mA, z_ua, hlen]
    · rw [z_mA, z_un (by decide), z_un (by decide), z_un (by omega)]
      exact w9
    · rw [hlen, show (tx.length + 1) % 20 = tx.length % 20 + 1 by omega] at hi
      rw [z_mA, hlen, show (tx.length + 1) / 20 = tx.length / 20 by omega]
      exact row i hi
/-- the bytes of the law's strings -/
def sbN (j : Nat) : List Nat := (lw_sL.getD j []).map (fun c => c.toNatClampNeg)
theorem sbN_ok : ∀ j, j < 15 → (sbN j).length = (lw_sL.getD j []).length ∧ (sbN j).length < 100 ∧ ∀ i, i < (lw_sL.getD j []).length → (lw_sL.getD j []).getD i 0 = nI ((sbN j).getD i 0) ∧ (sbN j).getD i 0 < 128 := by decide +kernel
theorem sbN_e : sbN 0 = kwW ∧ sbN 1 = 59 :: kwT ∧ sbN 2 = [59] ∧ sbN 3 = kwQ ∧ sbN 4 = 32 :: kwO ∧ sbN 5 = kwC ∧ sbN 6 = 32 :: kwI ∧ sbN 7 = 32 :: kwK 0 ∧ sbN 8 = 32 :: kwK 1 ∧ sbN 9 = 32 :: kwK 2 ∧ sbN 10 = 32 :: kwK 3 ∧ sbN 11 = kwH ∧ sbN 12 = kwG ∧ sbN 13 = 59 :: kwS ∧ sbN 14 = kwR := by decide +kernel
theorem isST_t {j : Nat} (h : j < 15) : isST j = true := decide_eq_true h
theorem w_say_l2 {j : Nat} (hj : j < 15) : ∀ (m n i : Nat) (M : kx_M) (σ : Sg) (tx : List Nat), i + m = (sbN j).length → m < n → WR hA M σ tx → tx.length + m + 20 ≤ 900 → ∃ M' σ', f_LW_say_l2 j n (nI i) M = some ((), M') ∧ WR hA M' σ' (tx ++ (sbN j).drop i) := by
  obtain ⟨g1, g2, g3⟩ := sbN_ok j hj
  have gL : Int32.ofNat (lw_sL.getD j []).length = nI (sbN j).length := by rw [g1]; rfl
  intro m
  induction m with
  | zero =>
    intro n i M σ tx hi hn hW _
    obtain ⟨n, rfl, hn⟩ := z_succ hn
    obtain rfl : i = (sbN j).length := by omega
    refine ⟨M, σ, ?_, by rw [List.drop_length, List.append_nil]; exact hW⟩
    rw [f_LW_say_l2]
    simp (disch := first | assumption | omega) only [z_bdn, z_caln, z_gdn, z_iT, z_iF, z_le_t, z_le_f, z_lt_t, z_lt_f, z_cl, z_inb, z_at, z_lit, nI_ii1, nI_add, z_mr, z_ref0, z_refn, z_eq_f, Bool.not_true, Bool.not_false, b2i_t, b2i_f, isST_t hj, gL]
  | succ m ih =>
    intro n i M σ tx hi hn hW hl
    obtain ⟨n, rfl, hn⟩ := z_succ hn
    obtain ⟨k1, k2⟩ := g3 i (by omega)
    obtain ⟨M1, σ1, a1, a2⟩ := w_put hW k2 (by omega)
    obtain ⟨M2, σ2, b1, b2⟩ := ih n (i + 1) M1 σ1 _ (by omega) (by omega) a2 (by rw [List.length_append]; show tx.length + 1 + m + 20 ≤ 900; omega)
    have k1' : (lw_sL.getD j []).getD i (nI 0) = nI ((sbN j).getD i 0) := k1
    have hin : inb (nI i) (lw_sL.getD j []).length = true := z_inb (by omega) (by omega)
    refine ⟨M2, σ2, ?_, ?_⟩
    · rw [f_LW_say_l2]
      simp (disch := first | assumption | omega) only [z_bdn, z_caln, z_gdn, z_iT, z_iF, z_le_t, z_le_f, z_lt_t, z_lt_f, z_cl, z_inb, z_at, z_lit, nI_ii1, nI_add, z_mr, z_ref0, z_refn, z_eq_f, Bool.not_true, Bool.not_false, b2i_t, b2i_f, isST_t hj, gL, hin, k1', a1]
      exact b1
    · have e : (sbN j).drop i = (sbN j).getD i 0 :: (sbN j).drop (i + 1) := by
        rw [List.drop_eq_getElem_cons (by omega)]
        congr 1
        simp only [List.getD]
        rw [List.getElem?_eq_getElem (by omega)]
        rfl
      rw [e]
      rw [List.append_assoc] at b2
      exact b2
theorem w_say {j : Nat} (hj : j < 15) (hW : WR hA M σ tx) (hl : tx.length + (sbN j).length + 20 ≤ 900) : ∃ M' σ', f_LW_say j M = some ((), M') ∧ WR hA M' σ' (tx ++ sbN j) := by
  obtain ⟨M1, σ1, a1, a2⟩ := w_say_l2 hj (sbN j).length FU 0 M σ tx (Nat.zero_add _) (FU_lt (by have := (sbN_ok j hj).2.1; omega)) hW hl
  refine ⟨M1, σ1, ?_, a2⟩
  rw [f_LW_say]
  simp (disch := first | assumption | omega) only [z_bdn, z_caln, z_gdn, z_iT, z_iF, z_le_t, z_le_f, z_lt_t, z_lt_f, z_cl, z_inb, z_at, z_lit, nI_ii1, nI_add, z_mr, z_ref0, z_refn, z_eq_f, Bool.not_true, Bool.not_false, b2i_t, b2i_f]
  exact a1
theorem nI_rem {v d : Nat} (hv : v < 2147483648) (hd : d < 2147483648) : nI v - nI v / nI d * nI d = nI (v % d) := by
  rw [nI_div hv hd, nI_mul, z_sub (Nat.div_mul_le_self _ _)]
  congr 1
  have := Nat.div_add_mod v d
  rw [Nat.mul_comm] at this
  omega
theorem w_number {v : Nat} (hv : v ≤ 999) (hW : WR hA M σ tx) (hl : tx.length + 24 ≤ 900) : ∃ M' σ', f_LW_number (nI v) M = some ((), M') ∧ WR hA M' σ' (tx ++ 32 :: dgs v) := by
  have e1 : nI v / nI 100 = nI (v / 100) := nI_div (by omega) (by omega)
  have e2 : nI v / nI 10 = nI (v / 10) := nI_div (by omega) (by omega)
  have e3 : nI v - nI v / nI 10 * nI 10 = nI (v % 10) := nI_rem (by omega) (by omega)
  have e4 : nI (v / 10) - nI (v / 10) / nI 10 * nI 10 = nI (v / 10 % 10) := nI_rem (by omega) (by omega)
  have e5 : nI (v / 10) / nI 10 = nI (v / 10 / 10) := nI_div (by omega) (by omega)
  rw [e2, nI_mul, Nat.mul_comm] at e3
  rw [e5, nI_mul, Nat.mul_comm] at e4
  obtain ⟨M1, σ1, a1, a2⟩ := w_put hW (show 32 < 128 by omega) (by omega)
  have l1 : (tx ++ [32]).length = tx.length + 1 := by rw [List.length_append]; rfl
  unfold dgs
  by_cases h1 : 99 < v
  · rw [if_pos h1]
    obtain ⟨M2, σ2, b1, b2⟩ := w_put a2 (show 48 + v / 100 < 128 by omega) (by omega)
    have l2 : (tx ++ [32] ++ [48 + v / 100]).length = tx.length + 2 := by rw [List.length_append, l1]; rfl
    obtain ⟨M3, σ3, c1, c2⟩ := w_put b2 (show 48 + v / 10 % 10 < 128 by omega) (by omega)
    have l3 : (tx ++ [32] ++ [48 + v / 100] ++ [48 + v / 10 % 10]).length = tx.length + 3 := by rw [List.length_append, l2]; rfl
    obtain ⟨M4, σ4, d1, d2⟩ := w_put c2 (show 48 + v % 10 < 128 by omega) (by omega)
    refine ⟨M4, σ4, ?_, by simpa using d2⟩
    rw [f_LW_number]
    simp (disch := first | assumption | omega) only [z_bdn, z_caln, z_gdn, z_iT, z_iF, z_le_t, z_le_f, z_lt_t, z_lt_f, z_cl, z_inb, z_at, z_lit, nI_ii1, nI_add, z_mr, z_ref0, z_refn, z_eq_f, Bool.not_true, Bool.not_false, b2i_t, b2i_f, f_LW_number_l25, a1, e1, b1, e2, e5, e4, c1, e3, d1]
  · rw [if_neg h1]
    by_cases h2 : 9 < v
    · rw [if_pos h2]
      obtain ⟨M3, σ3, c1, c2⟩ := w_put a2 (show 48 + v / 10 % 10 < 128 by omega) (by omega)
      have l3 : (tx ++ [32] ++ [48 + v / 10 % 10]).length = tx.length + 2 := by rw [List.length_append, l1]; rfl
      obtain ⟨M4, σ4, d1, d2⟩ := w_put c2 (show 48 + v % 10 < 128 by omega) (by omega)
      refine ⟨M4, σ4, ?_, by simpa using d2⟩
      rw [f_LW_number]
      simp (disch := first | assumption | omega) only [z_bdn, z_caln, z_gdn, z_iT, z_iF, z_le_t, z_le_f, z_lt_t, z_lt_f, z_cl, z_inb, z_at, z_lit, nI_ii1, nI_add, z_mr, z_ref0, z_refn, z_eq_f, Bool.not_true, Bool.not_false, b2i_t, b2i_f, f_LW_number_l25, a1, e1, e2, e5, e4, c1, e3, d1]
    · rw [if_neg h2]
      obtain ⟨M4, σ4, d1, d2⟩ := w_put a2 (show 48 + v % 10 < 128 by omega) (by omega)
      refine ⟨M4, σ4, ?_, by simpa using d2⟩
      rw [f_LW_number]
      simp (disch := first | assumption | omega) only [z_bdn, z_caln, z_gdn, z_iT, z_iF, z_le_t, z_le_f, z_lt_t, z_lt_f, z_cl, z_inb, z_at, z_lit, nI_ii1, nI_add, z_mr, z_ref0, z_refn, z_eq_f, Bool.not_true, Bool.not_false, b2i_t, b2i_f, f_LW_number_l25, a1, e1, e2, e3, d1]
theorem w_name {c k : Nat} (hc : c < 128) (hk : k < 10) (hW : WR hA M σ tx) (hl : tx.length + 23 ≤ 900) : ∃ M' σ', f_LW_name (nI c) (nI k) M = some ((), M') ∧ WR hA M' σ' (tx ++ [32, c, 97 + k]) := by
  obtain ⟨M1, σ1, a1, a2⟩ := w_put hW (show 32 < 128 by omega) (by omega)
  have l1 : (tx ++ [32]).length = tx.length + 1 := by rw [List.length_append]; rfl
  obtain ⟨M2, σ2, b1, b2⟩ := w_put a2 hc (by omega)
  have l2 : (tx ++ [32] ++ [c]).length = tx.length + 2 := by rw [List.length_append, l1]; rfl
  obtain ⟨M3, σ3, c1, c2⟩ := w_put b2 (show 97 + k < 128 by omega) (by omega)
  refine ⟨M3, σ3, ?_, by simpa using c2⟩
  rw [f_LW_name]
  simp (disch := first | assumption | omega) only [z_bdn, z_caln, z_gdn, z_iT, z_iF, z_le_t, z_le_f, z_lt_t, z_lt_f, z_cl, z_inb, z_at, z_lit, nI_ii1, nI_add, z_mr, z_ref0, z_refn, z_eq_f, Bool.not_true, Bool.not_false, b2i_t, b2i_f, a1, b1, c1]
theorem kwK_len : ∀ v, v < 4 → (kwK v).length ≤ 5 := by decide
theorem w_kind {v : Nat} (hv : v < 4) (hW : WR hA M σ tx) (hl : tx.length + 26 ≤ 900) : ∃ M' σ', f_LW_kind (nI v) M = some ((), M') ∧ WR hA M' σ' (tx ++ 32 :: kwK v) := by
  obtain ⟨-, -, -, -, -, -, -, s7, s8, s9, s10, -⟩ := sbN_e
  have hv' : v = 0 ∨ v = 1 ∨ v = 2 ∨ v = 3 := by omega
  rcases hv' with rfl | rfl | rfl | rfl
  · obtain ⟨M1, σ1, a1, a2⟩ := w_say (j := 7) (by decide) hW (by rw [s7]; show _ + 5 + 20 ≤ 900; omega)
    rw [s7] at a2
    refine ⟨M1, σ1, ?_, a2⟩
    rw [f_LW_kind, if_pos (show nI 0 = 0 by rfl), a1]
    rfl
  · obtain ⟨M1, σ1, a1, a2⟩ := w_say (j := 8) (by decide) hW (by rw [s8]; show _ + 5 + 20 ≤ 900; omega)
    rw [s8] at a2
    refine ⟨M1, σ1, ?_, a2⟩
    rw [f_LW_kind, if_neg (by decide), if_pos (by decide), a1]
    rfl
  · obtain ⟨M1, σ1, a1, a2⟩ := w_say (j := 9) (by decide) hW (by rw [s9]; show _ + 6 + 20 ≤ 900; omega)
    rw [s9] at a2
    refine ⟨M1, σ1, ?_, a2⟩
    rw [f_LW_kind, if_neg (by decide), if_neg (by decide), if_pos (by decide), a1]
    rfl
  · obtain ⟨M1, σ1, a1, a2⟩ := w_say (j := 10) (by decide) hW (by rw [s10]; show _ + 5 + 20 ≤ 900; omega)
    rw [s10] at a2
    refine ⟨M1, σ1, ?_, a2⟩
    rw [f_LW_kind, if_neg (by decide), if_neg (by decide), if_neg (by decide), a1]
    rfl
end
