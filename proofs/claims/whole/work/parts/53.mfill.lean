/-! ## the ways to fill a row: the reference -/
theorem ledG_le {L c v a : Nat} (hL : L ≤ 5) : ∀ (m i r : Nat), i + m = L → r < 2 ^ i → ledG L c v a m i r ≤ 32
  | 0, i, r, hi, hr => by
    have h1 : 2 ^ i ≤ 2 ^ 5 := Nat.pow_le_pow_right (by omega) (by omega)
    show r ≤ 32
    omega
  | m + 1, i, r, hi, hr => by
    have h1 : 2 ^ i < 2 ^ (i + 1) := Nat.pow_lt_pow_right (by omega) (by omega)
    show (if _ then (if i + 1 = L then 32 else ledG L c v a m (i + 1) (r ||| 2 ^ i)) else ledG L c v a m (i + 1) r) ≤ 32
    split
    · split
      · exact Nat.le_refl _
      · exact ledG_le hL m (i + 1) _ (by omega) (Nat.or_lt_two_pow (by omega) h1)
    · exact ledG_le hL m (i + 1) r (by omega) (by omega)
theorem ledN_le {L c x a : Nat} (hL : L ≤ 5) : ledN L c x a ≤ 32 := by
  unfold ledN
  split
  · exact Nat.le_refl _
  · exact ledG_le hL L 0 0 (by omega) (by decide)
section
variable {M M' : kx_M} {σ : Sg} {x : Cl} {y : De} {h : Nat → Int64} {G : Nat → Int32}
def Sx (y : De) (k : Nat) (u : Nat → Nat) (ok : Nat → Bool) (x n t : Nat) : Nat := sumN (fun a => if ok a = true then (if stL y k x a = t then u x else 0) else 0) n
def F8 (M : kx_M) (u : Nat → Nat) : Prop := ∀ x, x < 33 → mA M 148 x = nI (u x)
def F9 (M : kx_M) (v : Nat → Nat) : Prop := ∀ t, t < 33 → mA M 149 t = nI (v t)
theorem F9_eq {v v' : Nat → Nat} (hT : F9 M v) (h : ∀ t, v' t = v t) : F9 M v' := by
  rw [show v' = v from funext h]; exact hT
theorem F9_up {t z : Nat} {v : Nat → Nat} (hT : F9 M v) : F9 (sA M 149 (upd (mA M 149) t (nI (v t + z)))) (fun q => v q + (if t = q then z else 0)) := fun q hq => by
  rw [mA_sA, if_pos rfl, upd_at]
  show _ = nI (v q + (if t = q then z else 0))
  by_cases he : q = t
  · rw [if_pos he, if_pos he.symm, he]
  · rw [if_neg he, if_neg (fun e => he e.symm)]; exact hT q hq
theorem q_fill_l73 {K : Int32 → Int32 → kx_M → Option (Int32 × kx_M)} {W k j z : Nat} {u v : Nat → Nat} {kn : Option Nat} (hP : OkD W y) (hD : MD G h y) (hk : k < dC y) (hj : j < 8) (hz : z < 33) (hu : u z < 2147483648) (hu0 : 0 < u z) (hkn : ∀ b, kn = some b → b < 4) : ∀ (m n a : Nat) (M : kx_M), a + m = 4 → m < n → mA M 140 = G → mA M 147 j = oI kn → F8 M u → F9 M (fun t => v t + Sx y k u (okL kn) z a t) → ∃ M', f_RM_filling_l73 (nI k) K n (nI j) (nI z) (nI a) M = K (nI j) (nI (z + 1)) M' ∧ F9 M' (fun t => v t + Sx y k u (okL kn) z 4 t) ∧ Fr (fun id => id = 149) M M' := by
  have hl := hP.2.2.2.1 k hk
  intro m
  induction m with
  | zero =>
    intro n a M ha hn hG h7 h8 h9
    obtain ⟨n, rfl, hn⟩ := z_succ hn
    obtain rfl : a = 4 := by omega
    refine ⟨M, ?_, h9, Fr.rf⟩
    rw [f_RM_filling_l73]
    simp (disch := first | assumption | omega) only [z_bdn, z_caln, z_gdn, z_iT, z_iF, z_le_t, z_le_f, z_lt_t, z_lt_f, z_cl, z_inb, z_at, z_pl, z_lit, nI_ii1, nI_add, nI_mul, z_eq_f, z_refuse, z_no, z_M00, b2i_t, b2i_f]
  | succ m ih =>
    intro n a M ha hn hG h7 h8 h9
    obtain ⟨n, rfl, hn⟩ := z_succ hn
    have e8 := h8 z hz
    have ls : stL y k z a ≤ 32 := ledN_le hl.2.1
    have el := q_led (M := M) hP (by rw [hG]; exact hD) hk (show z ≤ 32 by omega) (show a < 4 by omega)
    have e9 := h9 (stL y k z a) (by omega)
    cases hok : okL kn a
    · obtain ⟨M', g1, g2, g3⟩ := ih n (a + 1) M (by omega) (by omega) hG h7 h8 (F9_eq h9 (fun t => by
        show v t + (Sx y k u (okL kn) z a t + (if okL kn a = true then _ else 0)) = _
        rw [hok]; rfl))
      refine ⟨M', ?_, g2, g3⟩
      rw [f_RM_filling_l73]
      cases kn with
      | none => cases hok
      | some b =>
        have hb := hkn b rfl
        have hba : ¬ b = a := of_decide_eq_false hok
        have hne : ¬ nI b = nI a := fun e => hba ((nI_eq (by omega) (by omega)).mp e)
        simp (disch := first | assumption | omega) only [z_bdn, z_caln, z_gdn, z_iT, z_iF, z_le_t, z_le_f, z_lt_t, z_lt_f, z_cl, z_inb, z_at, z_pl, z_lit, nI_ii1, nI_add, nI_mul, z_eq_f, z_refuse, z_no, z_M00, b2i_t, b2i_f, e8, h7, oI, nI_pos0, hne]
        exact g1
    · obtain ⟨M', g1, g2, g3⟩ := ih n (a + 1) (sA M 149 (upd (mA M 149) (stL y k z a) (nI (v (stL y k z a) + Sx y k u (okL kn) z a (stL y k z a) + u z)))) (by omega) (by omega) hG h7 h8 (F9_eq (F9_up (t := stL y k z a) (z := u z) h9) (fun t => by
        show v t + (Sx y k u (okL kn) z a t + (if okL kn a = true then (if stL y k z a = t then u z else 0) else 0)) = v t + Sx y k u (okL kn) z a t + (if stL y k z a = t then u z else 0)
        rw [hok, if_pos rfl, Nat.add_assoc]))
      refine ⟨M', ?_, g2, Fr.tr (Fr.sA rfl) g3⟩
      rw [f_RM_filling_l73]
      cases kn with
      | none =>
        simp (disch := first | assumption | omega) only [z_bdn, z_caln, z_gdn, z_iT, z_iF, z_le_t, z_le_f, z_lt_t, z_lt_f, z_cl, z_inb, z_at, z_pl, z_lit, nI_ii1, nI_add, nI_mul, z_eq_f, z_refuse, z_no, z_M00, b2i_t, b2i_f, e8, h7, oI, z_neg1, f_RM_filling_l108, el, e9]
        exact g1
      | some b =>
        have hb := hkn b rfl
        have hba : b = a := of_decide_eq_true hok
        subst hba
        simp (disch := first | assumption | omega) only [z_bdn, z_caln, z_gdn, z_iT, z_iF, z_le_t, z_le_f, z_lt_t, z_lt_f, z_cl, z_inb, z_at, z_pl, z_lit, nI_ii1, nI_add, nI_mul, z_eq_f, z_refuse, z_no, z_M00, b2i_t, b2i_f, e8, h7, oI, nI_pos0, f_RM_filling_l108, el, e9]
        exact g1
/-- all states up to n -/
def Tx (y : De) (k : Nat) (u : Nat → Nat) (ok : Nat → Bool) (n t : Nat) : Nat := sumN (fun z => Sx y k u ok z 4 t) n
theorem Sx_0 {y : De} {k : Nat} {u : Nat → Nat} {ok : Nat → Bool} {z t : Nat} (h : u z = 0) : ∀ n, Sx y k u ok z n t = 0
  | 0 => rfl
  | n + 1 => by
    show Sx y k u ok z n t + (if ok n = true then (if stL y k z n = t then u z else 0) else 0) = 0
    rw [Sx_0 h n, h]
    split
    · split <;> rfl
    · rfl
theorem q_fill_l144 {K : Int32 → kx_M → Option (Int32 × kx_M)} {k j : Nat} {v : Nat → Nat} (hj : j < 8) : ∀ (m n z : Nat) (M : kx_M), z + m = 33 → m < n → F9 M v → (∀ q, q < z → mA M 148 q = nI (v q)) → ∃ M', f_RM_filling_l144 (nI k) K n (nI j) (nI z) M = K (nI (j + 1)) M' ∧ F8 M' v ∧ Fr (fun id => id = 148) M M' := by
  intro m
  induction m with
  | zero =>
    intro n z M hz hn h9 h8
    obtain ⟨n, rfl, hn⟩ := z_succ hn
    obtain rfl : z = 33 := by omega
    refine ⟨M, ?_, h8, Fr.rf⟩
    rw [f_RM_filling_l144]
    simp (disch := first | assumption | omega) only [z_bdn, z_caln, z_gdn, z_iT, z_iF, z_le_t, z_le_f, z_lt_t, z_lt_f, z_cl, z_inb, z_at, z_pl, z_lit, nI_ii1, nI_add, nI_mul, z_eq_f, z_refuse, z_no, z_M00, b2i_t, b2i_f]
  | succ m ih =>
    intro n z M hz hn h9 h8
    obtain ⟨n, rfl, hn⟩ := z_succ hn
    have e9 := h9 z (by omega)
    obtain ⟨M', g1, g2, g3⟩ := ih n (z + 1) (sA M 148 (upd (mA M 148) z (nI (v z)))) (by omega) (by omega) h9 (fun q hq => by
      rw [mA_sA, if_pos rfl, upd_at]
      by_cases he : q = z
      · rw [if_pos he, he]
      · rw [if_neg he]; exact h8 q (by omega))
    refine ⟨M', ?_, g2, Fr.tr (Fr.sA rfl) g3⟩
    rw [f_RM_filling_l144]
    simp (disch := first | assumption | omega) only [z_bdn, z_caln, z_gdn, z_iT, z_iF, z_le_t, z_le_f, z_lt_t, z_lt_f, z_cl, z_inb, z_at, z_pl, z_lit, nI_ii1, nI_add, nI_mul, z_eq_f, z_refuse, z_no, z_M00, b2i_t, b2i_f, e9]
    exact g1
theorem q_fill_l64 {K : Int32 → kx_M → Option (Int32 × kx_M)} {W k j : Nat} {u : Nat → Nat} {kn : Option Nat} (hP : OkD W y) (hD : MD G h y) (hk : k < dC y) (hj : j < 8) (hu : ∀ z, u z < 2147483648) (hkn : ∀ b, kn = some b → b < 4) : ∀ (m n z : Nat) (M : kx_M), z + m = 33 → m < n → mA M 140 = G → mA M 147 j = oI kn → F8 M u → F9 M (Tx y k u (okL kn) z) → ∃ M', f_RM_filling_l64 (nI k) K n (nI j) (nI z) M = K (nI (j + 1)) M' ∧ F8 M' (Tx y k u (okL kn) 33) ∧ Fr (fun id => id = 148 ∨ id = 149) M M' := by
  intro m
  induction m with
  | zero =>
    intro n z M hz hn hG h7 h8 h9
    obtain ⟨n, rfl, hn⟩ := z_succ hn
    obtain rfl : z = 33 := by omega
    obtain ⟨M', g1, g2, g3⟩ := q_fill_l144 (K := K) (k := k) hj 33 FU 0 M (by omega) (FU_lt (by omega)) h9 (fun q hq => absurd hq (by omega))
    refine ⟨M', ?_, g2, g3.mono (fun id e => Or.inl e)⟩
    rw [f_RM_filling_l64]
    simp (disch := first | assumption | omega) only [z_bdn, z_caln, z_gdn, z_iT, z_iF, z_le_t, z_le_f, z_lt_t, z_lt_f, z_cl, z_inb, z_at, z_pl, z_lit, nI_ii1, nI_add, nI_mul, z_eq_f, z_refuse, z_no, z_M00, b2i_t, b2i_f]
    exact g1
  | succ m ih =>
    intro n z M hz hn hG h7 h8 h9
    obtain ⟨n, rfl, hn⟩ := z_succ hn
    have e8 := h8 z (by omega)
    have huz := hu z
    rw [f_RM_filling_l64]
    by_cases h0 : u z = 0
    · obtain ⟨M', g1, g2, g3⟩ := ih n (z + 1) M (by omega) (by omega) hG h7 h8 (F9_eq h9 (fun t => by
        show Tx y k u (okL kn) z t + Sx y k u (okL kn) z 4 t = _
        rw [Sx_0 h0]; rfl))
      refine ⟨M', ?_, g2, g3⟩
      rw [h0] at e8
      have e73 : f_RM_filling_l73 (nI k) (f_RM_filling_l64 (nI k) K n) FU (nI j) (nI z) (nI 0) M = f_RM_filling_l64 (nI k) K n (nI j) (nI (z + 1)) M := by
        rw [show FU = 999999 + 1 from rfl, f_RM_filling_l73]
        simp (disch := first | assumption | omega) only [z_bdn, z_caln, z_gdn, z_iT, z_iF, z_le_t, z_le_f, z_lt_t, z_lt_f, z_cl, z_inb, z_at, z_pl, z_lit, nI_ii1, nI_add, nI_mul, z_eq_f, z_refuse, z_no, z_M00, b2i_t, b2i_f, e8]
      simp (disch := first | assumption | omega) only [z_bdn, z_caln, z_gdn, z_iT, z_iF, z_le_t, z_le_f, z_lt_t, z_lt_f, z_cl, z_inb, z_at, z_pl, z_lit, nI_ii1, nI_add, nI_mul, z_eq_f, z_refuse, z_no, z_M00, b2i_t, b2i_f]
      exact e73.trans g1
    · obtain ⟨M1, a1, a2, a3⟩ := q_fill_l73 (K := f_RM_filling_l64 (nI k) K n) (v := Tx y k u (okL kn) z) hP hD hk hj (show z < 33 by omega) huz (by omega) hkn 4 FU 0 M (by omega) (FU_lt (by omega)) hG h7 h8 h9
      obtain ⟨M', g1, g2, g3⟩ := ih n (z + 1) M1 (by omega) (by omega) ((a3 140 (by decide)).2.2.1.trans hG) ((congrFun (a3 147 (by decide)).2.2.1 j).trans h7) (fun q hq => (congrFun (a3 148 (by decide)).2.2.1 q).trans (h8 q hq)) a2
      refine ⟨M', ?_, g2, (a3.mono (fun id e => Or.inr e)).tr g3⟩
      simp (disch := first | assumption | omega) only [z_bdn, z_caln, z_gdn, z_iT, z_iF, z_le_t, z_le_f, z_lt_t, z_lt_f, z_cl, z_inb, z_at, z_pl, z_lit, nI_ii1, nI_add, nI_mul, z_eq_f, z_refuse, z_no, z_M00, b2i_t, b2i_f]
      exact a1.trans g1
end
