/-! ## the law draws -/
theorem and_m (x : Int32) {m : Nat} (hm : m < 2147483648) : ∃ a, a ≤ m ∧ x &&& nI m = nI a := by
  refine ⟨(x.toBitVec &&& BitVec.ofNat 32 m).toNat, ?_, ?_⟩
  · rw [BitVec.toNat_and, BitVec.toNat_ofNat, Nat.mod_eq_of_lt (show m < 2 ^ 32 by omega)]
    exact Nat.and_le_right
  · apply Int32.toBitVec_inj.mp
    apply BitVec.eq_of_toNat_eq
    rw [Int32.toBitVec_and]
    show _ = (BitVec.ofNat 32 _).toNat
    rw [BitVec.ofNat_toNat, BitVec.setWidth_eq]
    rfl
theorem rem_m (x : Int32) {m q : Nat} (hm : m < 2147483648) (hq : 0 < q) (hq2 : q < 2147483648) : ∃ a, a < q ∧ (x &&& nI m) - (x &&& nI m) / nI q * nI q = nI a := by
  obtain ⟨a, h1, h2⟩ := and_m x hm
  refine ⟨a % q, Nat.mod_lt _ hq, ?_⟩
  rw [h2, nI_rem (by omega) hq2]
theorem z_on (a : Nat) : Int32.ofNat a = nI a := rfl
theorem z_nz {a : Nat} (h0 : 0 < a) (h : a < 2147483648) : nz (nI a) = true := decide_eq_true (nI_ne0 h0 (by omega))
def HDg (g : Nat → Int32) (W To Q C R : Nat) : Prop := g 0 = nI W ∧ g 1 = nI To ∧ g 2 = nI Q ∧ g 3 = nI C ∧ g 4 = nI R
def RWg (g : Nat → Int32) (W Q k n1 n2 : Nat) (b : Bool) : Prop := (k < 2 → ∃ a, a ≤ 127 ∧ g (5 + k) = nI a) ∧ (∃ a, 1 ≤ a ∧ a ≤ 3 ∧ a ≤ W ∧ g (7 + k) = nI a) ∧ (∀ i, i < n1 → ∃ a, a < 4 ∧ g (10 + 3 * k + i) = nI a) ∧ (b = true → ∃ a, a < Q ∧ g (34 + k) = nI a) ∧ ∀ i, i < n2 → ∃ a, a < 4 ∧ g (37 + 5 * k + i) = nI a
section
variable {g : Nat → Int32} {W To Q C R k p : Nat} {x : Int32}
theorem HDg_u (h : HDg g W To Q C R) (hp : 5 ≤ p) : HDg (upd g p x) W To Q C R := by
  obtain ⟨a, b, c, d, e⟩ := h
  refine ⟨?_, ?_, ?_, ?_, ?_⟩ <;> (rw [z_un (by omega)]; assumption)
/-- a row that is done stays, when what is written lies elsewhere -/
theorem RWg_u {n1 n2 : Nat} {b : Bool} (h : RWg g W Q k n1 n2 b) (hp : p ≠ 5 + k ∨ 2 ≤ k) (h7 : p ≠ 7 + k) (h10 : p < 10 + 3 * k ∨ 10 + 3 * k + n1 ≤ p) (h34 : p ≠ 34 + k ∨ b = false) (h37 : p < 37 + 5 * k ∨ 37 + 5 * k + n2 ≤ p) : RWg (upd g p x) W Q k n1 n2 b := by
  obtain ⟨a1, ⟨a, a2⟩, a3, a4, a5⟩ := h
  refine ⟨fun hk => ?_, ⟨a, ?_⟩, fun i hi => ?_, fun hb => ?_, fun i hi => ?_⟩
  · obtain ⟨a, b1, b2⟩ := a1 hk
    exact ⟨a, b1, by rw [z_un (by omega)]; exact b2⟩
  · rw [z_un (by omega)]; exact a2
  · obtain ⟨a, b1, b2⟩ := a3 i hi
    exact ⟨a, b1, by rw [z_un (by omega)]; exact b2⟩
  · obtain ⟨a, b1, b2⟩ := a4 hb
    refine ⟨a, b1, ?_⟩
    rw [z_un (by rcases h34 with h | h; exact fun e => h e.symm; rw [h] at hb; cases hb)]
    exact b2
  · obtain ⟨a, b1, b2⟩ := a5 i hi
    exact ⟨a, b1, by rw [z_un (by omega)]; exact b2⟩
end
/-- what is drawn in the end -/
def DRg (g : Nat → Int32) (W To Q C R : Nat) : Prop := HDg g W To Q C R ∧ ∀ k, k < 3 → RWg g W Q k 3 5 true
def FrH (M M' : kx_M) : Prop := Fr (fun id => id = 136) M M'
theorem FrH_A {M : kx_M} {f : Nat → Int32} : FrH M (sA M 136 f) := Fr.sA rfl
theorem FrH_tr {A B C : kx_M} (h : FrH A B) (g : FrH B C) : FrH A C := Fr.tr h g
section
variable {sc : Nat × (Nat → Int32)} {W To Q C R : Nat}
theorem DRg_u {g : Nat → Int32} {p : Nat} {x : Int32} (h : DRg g W To Q C R) (hp : 19 ≤ p ∧ p < 34) : DRg (upd g p x) W To Q C R := ⟨HDg_u h.1 (by omega), fun k hk => RWg_u (h.2 k hk) (by omega) (by omega) (by omega) (by omega) (by omega)⟩
def GVg (g : Nat → Int32) (n : Nat) : Prop := ∀ j, j < n → (∃ a, a ≤ 15 ∧ g (22 + j) = nI a) ∧ ∃ a, a ≤ 15 ∧ g (28 + j) = nI a
theorem draw_l360 (hs : sc.1 < 1000) : ∀ (d n k : Nat) (x2 : Int32) (M : kx_M), k + d = 6 → d < n → DRg (mA M 136) W To Q C R → GVg (mA M 136) k → ∃ M', f_LW_draw_l360 sc n x2 (nI k) M = some ((), M') ∧ DRg (mA M' 136) W To Q C R ∧ GVg (mA M' 136) 6 ∧ FrH M M' := by
  intro d
  induction d with
  | zero =>
    intro n k x2 M hd hn h1 h2
    obtain ⟨n, rfl, hn⟩ := z_succ hn
    obtain rfl : k = 6 := by omega
    refine ⟨M, ?_, h1, h2, Fr.rf⟩
    rw [f_LW_draw_l360]
    simp (disch := first | assumption | omega) only [z_bdn, z_caln, z_gdn, z_iT, z_iF, z_le_t, z_le_f, z_lt_t, z_lt_f, z_cl, z_inb, z_at, z_lit, nI_ii1, nI_add, z_mr, z_ref0, z_refn, z_eq_f, Bool.not_true, Bool.not_false, b2i_t, b2i_f]
  | succ d ih =>
    intro n k x2 M hd hn h1 h2
    obtain ⟨n, rfl, hn⟩ := z_succ hn
    have key : ∀ s : Int32, ∃ M', f_LW_draw_l391 sc (f_LW_draw_l360 sc n) x2 (nI k) s M = some ((), M') ∧ DRg (mA M' 136) W To Q C R ∧ GVg (mA M' 136) 6 ∧ FrH M M' := by
      intro s
      have g := ih n (k + 1) x2 (sA (sA M 136 (upd (mA M 136) (22 + k) (s &&& nI 15))) 136 (upd (upd (mA M 136) (22 + k) (s &&& nI 15)) (28 + k) ((s >>> (nI 3 &&& nI 31)) &&& nI 15))) (by omega) (by omega) (by
        rw [z_mA]
        exact DRg_u (DRg_u h1 (by omega)) (by omega)) (by
        rw [z_mA]
        intro j hj
        by_cases e : j = k
        · subst e
          refine ⟨?_, ?_⟩
          · rw [z_un (by omega), z_ua]
            exact and_m s (by decide)
          · rw [z_ua]
            exact and_m _ (by decide)
        · obtain ⟨c1, c2⟩ := h2 j (by omega)
          refine ⟨?_, ?_⟩
          · rw [z_un (by omega), z_un (by omega)]
            exact c1
          · rw [z_un (by omega), z_un (by omega)]
            exact c2)
      obtain ⟨M', a1, a2, a3, a4⟩ := g
      refine ⟨M', ?_, a2, a3, FrH_tr (FrH_tr FrH_A FrH_A) a4⟩
      rw [f_LW_draw_l391]
      simp (disch := first | assumption | omega) only [z_bdn, z_caln, z_gdn, z_iT, z_iF, z_le_t, z_le_f, z_lt_t, z_lt_f, z_cl, z_inb, z_at, z_lit, nI_ii1, nI_add, z_mr, z_ref0, z_refn, z_eq_f, Bool.not_true, Bool.not_false, b2i_t, b2i_f, z_mA]
      exact a1
    rw [f_LW_draw_l360]
    by_cases hc : sc.1 ≤ k + 2
    · obtain ⟨M', a1, a2⟩ := key ((nI 947) * nI k + x2)
      refine ⟨M', ?_, a2⟩
      rw [nI_mul] at a1
      rw [Nat.mul_comm] at a1
      simp (disch := first | assumption | omega) only [z_bdn, z_caln, z_gdn, z_iT, z_iF, z_le_t, z_le_f, z_lt_t, z_lt_f, z_cl, z_inb, z_at, z_lit, nI_ii1, nI_add, z_mr, z_ref0, z_refn, z_eq_f, Bool.not_true, Bool.not_false, b2i_t, b2i_f, z_on]
      exact a1
    · obtain ⟨M', a1, a2⟩ := key ((sc.2 (k + 2)) >>> (nI 1 &&& nI 31))
      refine ⟨M', ?_, a2⟩
      simp (disch := first | assumption | omega) only [z_bdn, z_caln, z_gdn, z_iT, z_iF, z_le_t, z_le_f, z_lt_t, z_lt_f, z_cl, z_inb, z_at, z_lit, nI_ii1, nI_add, z_mr, z_ref0, z_refn, z_eq_f, Bool.not_true, Bool.not_false, b2i_t, b2i_f, z_on]
      exact a1
theorem draw_l294 {K : Int32 → Int32 → kx_M → Option (Unit × kx_M)} {Z : Prop} (hC : C ≤ 3) {k : Nat} (hk : k < 3) (x2 x4 : Int32) (hK : ∀ (M' M : kx_M), DRg (mA M' 136) W To Q C R → FrH M M' → (∃ M2, K x2 (nI (k + 1)) M' = some ((), M2) ∧ DRg (mA M2 136) W To Q C R ∧ GVg (mA M2 136) 6 ∧ FrH M' M2)) : ∀ (d n i : Nat) (M : kx_M), i + d = k → d < n → DRg (mA M 136) W To Q C R → ∃ M2, f_LW_draw_l294 sc K n x2 (nI k) x4 (nI i) M = some ((), M2) ∧ DRg (mA M2 136) W To Q C R ∧ GVg (mA M2 136) 6 ∧ FrH M M2 := by
  intro d
  induction d with
  | zero =>
    intro n i M hd hn h1
    obtain ⟨n, rfl, hn⟩ := z_succ hn
    obtain ⟨M2, a1, a2⟩ := hK M M h1 Fr.rf
    refine ⟨M2, ?_, a2⟩
    rw [f_LW_draw_l294]
    simp (disch := first | assumption | omega) only [z_bdn, z_caln, z_gdn, z_iT, z_iF, z_le_t, z_le_f, z_lt_t, z_lt_f, z_cl, z_inb, z_at, z_lit, nI_ii1, nI_add, z_mr, z_ref0, z_refn, z_eq_f, Bool.not_true, Bool.not_false, b2i_t, b2i_f]
    exact a1
  | succ d ih =>
    intro n i M hd hn h1
    obtain ⟨n, rfl, hn⟩ := z_succ hn
    have e3 : mA M 136 3 = nI C := h1.1.2.2.2.1
    rw [f_LW_draw_l294]
    by_cases hc : C ≤ k
    · obtain ⟨M2, a1, a2⟩ := ih n (i + 1) M (by omega) (by omega) h1
      refine ⟨M2, ?_, a2⟩
      simp (disch := first | assumption | omega) only [z_bdn, z_caln, z_gdn, z_iT, z_iF, z_le_t, z_le_f, z_lt_t, z_lt_f, z_cl, z_inb, z_at, z_lit, nI_ii1, nI_add, z_mr, z_ref0, z_refn, z_eq_f, Bool.not_true, Bool.not_false, b2i_t, b2i_f, e3]
      exact a1
    · by_cases hb : (x4 >>> (nI i &&& nI 31)) &&& nI 1 = nI 0
      · obtain ⟨M2, a1, a2⟩ := ih n (i + 1) M (by omega) (by omega) h1
        refine ⟨M2, ?_, a2⟩
        simp (disch := first | assumption | omega) only [z_bdn, z_caln, z_gdn, z_iT, z_iF, z_le_t, z_le_f, z_lt_t, z_lt_f, z_cl, z_inb, z_at, z_lit, nI_ii1, nI_add, z_mr, z_ref0, z_refn, z_eq_f, Bool.not_true, Bool.not_false, b2i_t, b2i_f, e3]
        rw [if_pos hb]
        exact a1
      · simp (disch := first | assumption | omega) only [z_bdn, z_caln, z_gdn, z_iT, z_iF, z_le_t, z_le_f, z_lt_t, z_lt_f, z_cl, z_inb, z_at, z_lit, nI_ii1, nI_add, z_mr, z_ref0, z_refn, z_eq_f, Bool.not_true, Bool.not_false, b2i_t, b2i_f, e3, z_mA]
        rw [if_neg hb]
        obtain ⟨M2, a1, a2, a3, a4⟩ := ih n (i + 1) (sA (sA M 136 (upd (mA M 136) (19 + k) (mA M 136 (19 + k) ||| nI 1 <<< (nI i &&& nI 31)))) 136 (upd (upd (mA M 136) (19 + k) (mA M 136 (19 + k) ||| nI 1 <<< (nI i &&& nI 31))) (19 + i) (upd (mA M 136) (19 + k) (mA M 136 (19 + k) ||| nI 1 <<< (nI i &&& nI 31)) (19 + i) ||| nI 1 <<< (nI k &&& nI 31)))) (by omega) (by omega) (by
          rw [z_mA]
          exact DRg_u (DRg_u h1 (by omega)) (by omega))
        exact ⟨M2, a1, a2, a3, FrH_tr (FrH_tr FrH_A FrH_A) a4⟩
theorem draw_l261 (hs : sc.1 < 1000) (hC : C ≤ 3) : ∀ (d n k : Nat) (x2 : Int32) (M : kx_M), k + d = 3 → d < n → DRg (mA M 136) W To Q C R → ∃ M', f_LW_draw_l261 sc n x2 (nI k) M = some ((), M') ∧ DRg (mA M' 136) W To Q C R ∧ GVg (mA M' 136) 6 ∧ FrH M M' := by
  intro d
  induction d with
  | zero =>
    intro n k x2 M hd hn h1
    obtain ⟨n, rfl, hn⟩ := z_succ hn
    obtain rfl : k = 3 := by omega
    obtain ⟨M', a1, a2⟩ := draw_l360 hs 6 FU 0 x2 M rfl (FU_lt (by omega)) h1 (fun j hj => absurd hj (Nat.not_lt_zero _))
    refine ⟨M', ?_, a2⟩
    rw [f_LW_draw_l261]
    simp (disch := first | assumption | omega) only [z_bdn, z_caln, z_gdn, z_iT, z_iF, z_le_t, z_le_f, z_lt_t, z_lt_f, z_cl, z_inb, z_at, z_lit, nI_ii1, nI_add, z_mr, z_ref0, z_refn, z_eq_f, Bool.not_true, Bool.not_false, b2i_t, b2i_f]
    exact a1
  | succ d ih =>
    intro n k x2 M hd hn h1
    obtain ⟨n, rfl, hn⟩ := z_succ hn
    have key : ∀ x4 : Int32, ∃ M', f_LW_draw_l294 sc (f_LW_draw_l261 sc n) FU x2 (nI k) x4 (nI 0) M = some ((), M') ∧ DRg (mA M' 136) W To Q C R ∧ GVg (mA M' 136) 6 ∧ FrH M M' := fun x4 => draw_l294 (Z := True) (R := R) hC (by omega) x2 x4 (fun M' M0 g1 g2 => ih n (k + 1) x2 M' (by omega) (by omega) g1) k FU 0 M (by omega) (FU_lt (by omega)) h1
    rw [f_LW_draw_l261]
    by_cases hc : sc.1 ≤ k + 4
    · obtain ⟨M', a1, a2⟩ := key ((nI 941) * nI k + x2)
      refine ⟨M', ?_, a2⟩
      rw [nI_mul, Nat.mul_comm] at a1
      simp (disch := first | assumption | omega) only [z_bdn, z_caln, z_gdn, z_iT, z_iF, z_le_t, z_le_f, z_lt_t, z_lt_f, z_cl, z_inb, z_at, z_lit, nI_ii1, nI_add, z_mr, z_ref0, z_refn, z_eq_f, Bool.not_true, Bool.not_false, b2i_t, b2i_f, z_on]
      exact a1
    · obtain ⟨M', a1, a2⟩ := key (sc.2 (k + 4))
      refine ⟨M', ?_, a2⟩
      simp (disch := first | assumption | omega) only [z_bdn, z_caln, z_gdn, z_iT, z_iF, z_le_t, z_le_f, z_lt_t, z_lt_f, z_cl, z_inb, z_at, z_lit, nI_ii1, nI_add, z_mr, z_ref0, z_refn, z_eq_f, Bool.not_true, Bool.not_false, b2i_t, b2i_f, z_on]
      exact a1
end
