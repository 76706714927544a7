def updN (f : Nat → Nat) (p v : Nat) : Nat → Nat := fun j => if j = p then v else f j
theorem updN_at (f : Nat → Nat) (p v : Nat) : updN f p v p = v := if_pos rfl
/-- what M' has of M but in the ids of p -/
def Fr (p : Nat → Prop) (M M' : kx_M) : Prop := ∀ id, ¬ p id → (∀ k, mI M' id k = mI M id k) ∧ (∀ k, mJ M' id k = mJ M id k) ∧ mA M' id = mA M id ∧ mB M' id = mB M id ∧ (∀ k, mR M' id k = mR M id k)
theorem Fr.rf {p : Nat → Prop} {M : kx_M} : Fr p M M := fun _ _ => ⟨fun _ => rfl, fun _ => rfl, rfl, rfl, fun _ => rfl⟩
theorem Fr.tr {p : Nat → Prop} {A B C : kx_M} (h : Fr p A B) (g : Fr p B C) : Fr p A C := fun id hi => by
  obtain ⟨a1, a2, a3, a4, a5⟩ := h id hi
  obtain ⟨b1, b2, b3, b4, b5⟩ := g id hi
  exact ⟨fun k => (b1 k).trans (a1 k), fun k => (b2 k).trans (a2 k), b3.trans a3, b4.trans a4, fun k => (b5 k).trans (a5 k)⟩
theorem Fr.mono {p q : Nat → Prop} {A B : kx_M} (h : Fr p A B) (hpq : ∀ id, p id → q id) : Fr q A B := fun id hi => h id (fun hp => hi (hpq id hp))
theorem Fr.sA {p : Nat → Prop} {M : kx_M} {i : Nat} {f : Nat → Int32} (h : p i) : Fr p M (sA M i f) := fun id hi => by
  have hne : id ≠ i := fun e => hi (e ▸ h)
  exact ⟨fun _ => rfl, fun _ => rfl, if_neg hne, rfl, fun _ => rfl⟩
theorem Fr.sB {p : Nat → Prop} {M : kx_M} {i : Nat} {f : Nat → Int64} (h : p i) : Fr p M (sB M i f) := fun id hi => by
  have hne : id ≠ i := fun e => hi (e ▸ h)
  exact ⟨fun _ => rfl, fun _ => rfl, rfl, if_neg hne, fun _ => rfl⟩
theorem Fr.sI {p : Nat → Prop} {M : kx_M} {i k : Nat} {v : Int32} (h : p i) : Fr p M (sI M i k v) := fun id hi => by
  have hne : id ≠ i := fun e => hi (e ▸ h)
  exact ⟨fun _ => if_neg (fun z => hne z.1), fun _ => rfl, rfl, rfl, fun _ => rfl⟩
theorem Fr.sJ {p : Nat → Prop} {M : kx_M} {i k : Nat} {v : Int64} (h : p i) : Fr p M (sJ M i k v) := fun id hi => by
  have hne : id ≠ i := fun e => hi (e ▸ h)
  exact ⟨fun _ => rfl, fun _ => if_neg (fun z => hne z.1), rfl, rfl, fun _ => rfl⟩
theorem Fr.sR {p : Nat → Prop} {M : kx_M} {i k v : Nat} (h : p i) : Fr p M (sR M i k v) := fun id hi => by
  have hne : id ≠ i := fun e => hi (e ▸ h)
  exact ⟨fun _ => rfl, fun _ => rfl, rfl, rfl, fun _ => if_neg (fun z => hne z.1)⟩
def inC (c : Nat) : Nat → Prop := fun id => c ≤ id ∧ id ≤ c + 5
def wU (x : Cl) (u : Nat → Nat) : Cl := (x.1, cO x, cK x, cN x, u, cD x)
def wN (x : Cl) (u : Nat → Nat) : Cl := (x.1, cO x, cK x, u, cU x, cD x)
def wD (x : Cl) (u : Nat → Nat) : Cl := (x.1, cO x, cK x, cN x, cU x, u)
def OkU (x : Cl) (b : Nat) (u : Nat → Nat) : Prop := ∀ r i, r < cR x → i < cW x → u (8 * r + i) ≤ b
theorem OkC_U {x : Cl} {u : Nat → Nat} (h : OkC x) (g : OkU x 1 u) : OkC (wU x u) := ⟨h.1, h.2.1, h.2.2.1, h.2.2.2.1, h.2.2.2.2.1, fun r i hr hi => by
  obtain ⟨a, b, -, d⟩ := h.2.2.2.2.2 r i hr hi
  exact ⟨a, b, g r i hr hi, d⟩⟩
theorem OkC_N {x : Cl} {u : Nat → Nat} (h : OkC x) (g : OkU x 99 u) : OkC (wN x u) := ⟨h.1, h.2.1, h.2.2.1, h.2.2.2.1, h.2.2.2.2.1, fun r i hr hi => by
  obtain ⟨a, -, b, d⟩ := h.2.2.2.2.2 r i hr hi
  exact ⟨a, g r i hr hi, b, d⟩⟩
theorem OkC_D {x : Cl} {u : Nat → Nat} (h : OkC x) (g : OkU x 1 u) : OkC (wD x u) := ⟨h.1, h.2.1, h.2.2.1, h.2.2.2.1, h.2.2.2.2.1, fun r i hr hi => by
  obtain ⟨a, b, d, -⟩ := h.2.2.2.2.2 r i hr hi
  exact ⟨a, b, d, g r i hr hi⟩⟩
theorem OkU_upd {x : Cl} {b : Nat} {u : Nat → Nat} {p v : Nat} (h : OkU x b u) (hv : v ≤ b) : OkU x b (updN u p v) := fun r i hr hi => by
  unfold updN
  split
  · exact hv
  · exact h r i hr hi
theorem OkU_U {x : Cl} (h : OkC x) : OkU x 1 (cU x) := fun r i hr hi => (h.2.2.2.2.2 r i hr hi).2.2.1
theorem OkU_N {x : Cl} (h : OkC x) : OkU x 99 (cN x) := fun r i hr hi => (h.2.2.2.2.2 r i hr hi).2.1
theorem OkU_D {x : Cl} (h : OkC x) : OkU x 1 (cD x) := fun r i hr hi => (h.2.2.2.2.2 r i hr hi).2.2.2
theorem upd_at (f : Nat → Int32) (p : Nat) (v : Int32) (q : Nat) : upd f p v q = if q = p then v else f q := rfl
section
variable {M : kx_M} {c d : Nat} {x : Cl} {y : De}
theorem CC_U {p v : Nat} (h : CC M c x) : CC (sA M (c + 4) (upd (mA M (c + 4)) p (nI v))) c (wU x (updN (cU x) p v)) := by
  obtain ⟨h1, h2, h3, h4, h5, h6⟩ := h
  refine ⟨h1, h2, h3, h4, fun r hr => ?_, fun r i hr hi => ?_⟩
  · rw [mA_sA, if_neg (by omega)]; exact h5 r hr
  · obtain ⟨a1, a2, a3, a4⟩ := h6 r i hr hi
    refine ⟨?_, ?_, ?_, ?_⟩
    · rw [mA_sA, if_neg (by omega)]; exact a1
    · rw [mA_sA, if_neg (by omega)]; exact a2
    · rw [mA_sA, if_pos rfl, upd_at]
      show _ = nI (updN (cU x) p v (8 * r + i))
      unfold updN
      split
      · rfl
      · exact a3
    · rw [mA_sA, if_neg (by omega)]; exact a4
theorem CC_N {p v : Nat} (h : CC M c x) : CC (sA M (c + 3) (upd (mA M (c + 3)) p (nI v))) c (wN x (updN (cN x) p v)) := by
  obtain ⟨h1, h2, h3, h4, h5, h6⟩ := h
  refine ⟨h1, h2, h3, h4, fun r hr => ?_, fun r i hr hi => ?_⟩
  · rw [mA_sA, if_neg (by omega)]; exact h5 r hr
  · obtain ⟨a1, a2, a3, a4⟩ := h6 r i hr hi
    refine ⟨?_, ?_, ?_, ?_⟩
    · rw [mA_sA, if_neg (by omega)]; exact a1
    · rw [mA_sA, if_pos rfl, upd_at]
      show _ = nI (updN (cN x) p v (8 * r + i))
      unfold updN
      split
      · rfl
      · exact a2
    · rw [mA_sA, if_neg (by omega)]; exact a3
    · rw [mA_sA, if_neg (by omega)]; exact a4
theorem CC_D {p v : Nat} (h : CC M c x) : CC (sA M (c + 5) (upd (mA M (c + 5)) p (nI v))) c (wD x (updN (cD x) p v)) := by
  obtain ⟨h1, h2, h3, h4, h5, h6⟩ := h
  refine ⟨h1, h2, h3, h4, fun r hr => ?_, fun r i hr hi => ?_⟩
  · rw [mA_sA, if_neg (by omega)]; exact h5 r hr
  · obtain ⟨a1, a2, a3, a4⟩ := h6 r i hr hi
    refine ⟨?_, ?_, ?_, ?_⟩
    · rw [mA_sA, if_neg (by omega)]; exact a1
    · rw [mA_sA, if_neg (by omega)]; exact a2
    · rw [mA_sA, if_neg (by omega)]; exact a3
    · rw [mA_sA, if_pos rfl, upd_at]
      show _ = nI (updN (cD x) p v (8 * r + i))
      unfold updN
      split
      · rfl
      · exact a4
end
abbrev Us : Type := (Nat → Nat) × Nat
def ladS (x : Cl) (r i : Nat) (s : Us) : Us := if cK x (8 * r + i) = 0 ∧ s.1 (8 * r + i) = 0 ∧ cD x (8 * r + i) = 0 ∧ s.1 (8 * (r - 1) + i) = 1 then (updN s.1 (8 * r + i) 1, s.2 + 1) else s
def ladR (x : Cl) (r : Nat) : Nat → Nat → Us → Us
  | 0, _, s => s
  | m + 1, i, s => ladR x r m (i + 1) (ladS x r i s)
def ladA (x : Cl) : Nat → Nat → Us → Us
  | 0, _, s => s
  | m + 1, r, s => ladA x m (r + 1) (ladR x r (cW x) 0 s)
def ladders (x : Cl) (s : Us) : Us := if s.2 = 0 then s else ladA x (cR x - 1) 1 s
theorem ladS_ok {x : Cl} {r i : Nat} {s : Us} (h : OkU x 1 s.1) : OkU x 1 (ladS x r i s).1 := by
  unfold ladS
  split
  · exact OkU_upd h (Nat.le_refl _)
  · exact h
theorem ladR_ok {x : Cl} {r : Nat} : ∀ (m i : Nat) (s : Us), OkU x 1 s.1 → OkU x 1 (ladR x r m i s).1
  | 0, _, _, h => h
  | m + 1, i, s, h => ladR_ok m (i + 1) _ (ladS_ok h)
theorem ladA_ok {x : Cl} : ∀ (m r : Nat) (s : Us), OkU x 1 s.1 → OkU x 1 (ladA x m r s).1
  | 0, _, _, h => h
  | m + 1, r, s, h => ladA_ok m (r + 1) _ (ladR_ok _ _ _ h)
theorem ladders_ok {x : Cl} {s : Us} (h : OkU x 1 s.1) : OkU x 1 (ladders x s).1 := by
  unfold ladders
  split
  · exact h
  · exact ladA_ok _ _ _ h
/-- counts stay small: by at most one a cell -/
theorem ladR_n {x : Cl} {r : Nat} : ∀ (m i : Nat) (s : Us), s.2 ≤ (ladR x r m i s).2 ∧ (ladR x r m i s).2 ≤ s.2 + m
  | 0, _, _ => ⟨Nat.le_refl _, Nat.le_refl _⟩
  | m + 1, i, s => by
    have h := ladR_n (x := x) (r := r) m (i + 1) (ladS x r i s)
    have : s.2 ≤ (ladS x r i s).2 ∧ (ladS x r i s).2 ≤ s.2 + 1 := by
      unfold ladS
      split
      · exact ⟨Nat.le_succ _, Nat.le_refl _⟩
      · exact ⟨Nat.le_refl _, Nat.le_succ _⟩
    show s.2 ≤ (ladR x r m (i + 1) (ladS x r i s)).2 ∧ (ladR x r m (i + 1) (ladS x r i s)).2 ≤ s.2 + (m + 1)
    omega
theorem ladA_n {x : Cl} : ∀ (m r : Nat) (s : Us), s.2 ≤ (ladA x m r s).2 ∧ (ladA x m r s).2 ≤ s.2 + m * cW x
  | 0, _, _ => ⟨Nat.le_refl _, Nat.le_add_right _ _⟩
  | m + 1, r, s => by
    have h := ladA_n (x := x) m (r + 1) (ladR x r (cW x) 0 s)
    have g := ladR_n (x := x) (r := r) (cW x) 0 s
    show s.2 ≤ (ladA x m (r + 1) (ladR x r (cW x) 0 s)).2 ∧ (ladA x m (r + 1) (ladR x r (cW x) 0 s)).2 ≤ s.2 + (m + 1) * cW x
    rw [Nat.succ_mul]
    omega
theorem ladders_n {x : Cl} (hO : OkC x) (s : Us) : s.2 ≤ (ladders x s).2 ∧ (ladders x s).2 ≤ s.2 + 88 := by
  unfold ladders
  split
  · exact ⟨Nat.le_refl _, by omega⟩
  · have h := ladA_n (x := x) (cR x - 1) 1 s
    have h1 : (cR x - 1) * cW x ≤ 11 * 8 := Nat.mul_le_mul (by have := hO.2.2.1; omega) hO.1.2
    omega
section
variable {M : kx_M} {c d : Nat} {x : Cl} {y : De}
theorem q_lad_l21 {K : Int32 → Int32 → kx_M → Option (Int32 × kx_M)} {p1 : Int32} (hO : OkC x) {r : Nat} (hr0 : 1 ≤ r) (hr : r < cR x) :
    ∀ (m n i : Nat) (s : Us) (M : kx_M), i + m = cW x → m < n → OkU x 1 s.1 → CC M c (wU x s.1) → ∃ M', f_Cloth_withLadders_l21 c p1 K n (nI s.2) (nI r) (nI i) M = K (nI (ladR x r m i s).2) (nI (r + 1)) M' ∧ CC M' c (wU x (ladR x r m i s).1) ∧ Fr (inC c) M M' := by
  have w2 := hO.1.2
  have w3 := hO.2.2.1
  intro m
  induction m with
  | zero =>
    intro n i s M hi hn hs hC
    obtain ⟨n, rfl, hn⟩ := z_succ hn
    obtain rfl : i = cW x := by omega
    have e2 : mI M c 5 = nI (cW x) := hC.1
    refine ⟨M, ?_, hC, Fr.rf⟩
    rw [f_Cloth_withLadders_l21]
    simp (disch := first | assumption | omega) only [z_bd, z_cal, z_gd, z_iT, z_iF, z_le_t, z_le_f, z_lt_t, z_lt_f, z_cl, z_inb, z_at, nI_lit, nI_ii1, nI_add, z_mr, e2]
    rfl
  | succ m ih =>
    intro n i s M hi hn hs hC
    obtain ⟨n, rfl, hn⟩ := z_succ hn
    have hO' := OkC_U hO hs
    have e2 : mI M c 5 = nI (cW x) := hC.1
    obtain ⟨k1, -, k3, k4⟩ := hO.2.2.2.2.2 r i hr (by omega)
    have k3 : s.1 (8 * r + i) ≤ 1 := hs r i hr (by omega)
    have k5 : s.1 (8 * (r - 1) + i) ≤ 1 := hs (r - 1) i (by omega) (by omega)
    obtain ⟨a1, -, a3, a4⟩ : mA M (c + 2) (8 * r + i) = nI (cK x (8 * r + i)) ∧ mA M (c + 3) (8 * r + i) = nI (cN x (8 * r + i)) ∧ mA M (c + 4) (8 * r + i) = nI (s.1 (8 * r + i)) ∧ mA M (c + 5) (8 * r + i) = nI (cD x (8 * r + i)) := hC.2.2.2.2.2 r i hr (show i < cW x by omega)
    have a5 : mA M (c + 4) (8 * (r - 1) + i) = nI (s.1 (8 * (r - 1) + i)) := (hC.2.2.2.2.2 (r - 1) i (show r - 1 < cR x by omega) (show i < cW x by omega)).2.2.1
    have e8 : 8 * r + i - 8 = 8 * (r - 1) + i := by omega
    have hl : f_Cloth_loose c (nI (8 * r + i)) M = some (b2i (looseB (wU x s.1) (8 * r + i)), M) := q_loose hO' hC hr (show i < cW x by omega)
    rw [f_Cloth_withLadders_l21]
    by_cases h1 : cK x (8 * r + i) = 0
    · by_cases h2 : s.1 (8 * r + i) = 0 ∧ cD x (8 * r + i) = 0
      · have hl1 : looseB (wU x s.1) (8 * r + i) = true := by
          show (decide (s.1 (8 * r + i) = 0) && decide (cD x (8 * r + i) = 0)) = true
          rw [decide_eq_true h2.1, decide_eq_true h2.2]; rfl
        rw [hl1, b2i_t] at hl
        by_cases h3 : s.1 (8 * (r - 1) + i) = 1
        · have hs1 : ladS x r i s = (updN s.1 (8 * r + i) 1, s.2 + 1) := if_pos ⟨h1, h2.1, h2.2, h3⟩
          have hC2 : CC (sA M (c + 4) (upd (mA M (c + 4)) (8 * r + i) (nI 1))) c (wU x (updN s.1 (8 * r + i) 1)) := CC_U (x := wU x s.1) hC
          obtain ⟨M', b1, b2, b3⟩ := ih n (i + 1) (updN s.1 (8 * r + i) 1, s.2 + 1) _ (by omega) (by omega) (OkU_upd hs (Nat.le_refl _)) hC2
          refine ⟨M', ?_, ?_, (Fr.sA ⟨by omega, by omega⟩).tr b3⟩
          · simp (disch := first | assumption | omega) only [z_bd, z_cal, z_gd, z_iT, z_iF, z_le_t, z_le_f, z_lt_t, z_lt_f, z_cl, z_inb, z_at, nI_lit, nI_ii1, nI_add, z_mr, e2, a1, h1, hl, z_eq_f, z_sub, e8, a5, h3]
            show _ = K (nI (ladR x r m (i + 1) (ladS x r i s)).2) _ _
            rw [hs1]
            exact b1
          · show CC M' c (wU x (ladR x r m (i + 1) (ladS x r i s)).1)
            rw [hs1]
            exact b2
        · have hs1 : ladS x r i s = s := if_neg (fun h => h3 h.2.2.2)
          obtain ⟨M', b1, b2, b3⟩ := ih n (i + 1) s M (by omega) (by omega) hs hC
          refine ⟨M', ?_, ?_, b3⟩
          · simp (disch := first | assumption | omega) only [z_bd, z_cal, z_gd, z_iT, z_iF, z_le_t, z_le_f, z_lt_t, z_lt_f, z_cl, z_inb, z_at, nI_lit, nI_ii1, nI_add, z_mr, e2, a1, h1, hl, z_eq_f, z_sub, e8, a5]
            show _ = K (nI (ladR x r m (i + 1) (ladS x r i s)).2) _ _
            rw [hs1]
            exact b1
          · show CC M' c (wU x (ladR x r m (i + 1) (ladS x r i s)).1)
            rw [hs1]
            exact b2
      · have hl1 : looseB (wU x s.1) (8 * r + i) = false := by
          show (decide (s.1 (8 * r + i) = 0) && decide (cD x (8 * r + i) = 0)) = false
          rw [← Bool.decide_and]
          exact decide_eq_false h2
        rw [hl1, b2i_f] at hl
        have hs1 : ladS x r i s = s := if_neg (fun h => h2 ⟨h.2.1, h.2.2.1⟩)
        obtain ⟨M', b1, b2, b3⟩ := ih n (i + 1) s M (by omega) (by omega) hs hC
        refine ⟨M', ?_, ?_, b3⟩
        · simp (disch := first | assumption | omega) only [z_bd, z_cal, z_gd, z_iT, z_iF, z_le_t, z_le_f, z_lt_t, z_lt_f, z_cl, z_inb, z_at, nI_lit, nI_ii1, nI_add, z_mr, e2, a1, h1, hl]
          show _ = K (nI (ladR x r m (i + 1) (ladS x r i s)).2) _ _
          rw [hs1]
          exact b1
        · show CC M' c (wU x (ladR x r m (i + 1) (ladS x r i s)).1)
          rw [hs1]
          exact b2
    · have hs1 : ladS x r i s = s := if_neg (fun h => h1 h.1)
      obtain ⟨M', b1, b2, b3⟩ := ih n (i + 1) s M (by omega) (by omega) hs hC
      refine ⟨M', ?_, ?_, b3⟩
      · simp (disch := first | assumption | omega) only [z_bd, z_cal, z_gd, z_iT, z_iF, z_le_t, z_le_f, z_lt_t, z_lt_f, z_cl, z_inb, z_at, nI_lit, nI_ii1, nI_add, z_mr, e2, a1, z_eq_f]
        show _ = K (nI (ladR x r m (i + 1) (ladS x r i s)).2) _ _
        rw [hs1]
        exact b1
      · show CC M' c (wU x (ladR x r m (i + 1) (ladS x r i s)).1)
        rw [hs1]
        exact b2
theorem q_lad_l10 {p1 : Int32} (hO : OkC x) :
    ∀ (m n r : Nat) (s : Us) (M : kx_M), 1 ≤ r → r + m = cR x ∨ (m = 0 ∧ cR x ≤ r ∧ r ≤ 13) → m < n → OkU x 1 s.1 → CC M c (wU x s.1) → ∃ M', f_Cloth_withLadders_l10 c p1 n (nI s.2) (nI r) M = some (nI (ladA x m r s).2, M') ∧ CC M' c (wU x (ladA x m r s).1) ∧ Fr (inC c) M M' := by
  have w2 := hO.1.2
  have w3 := hO.2.2.1
  intro m
  induction m with
  | zero =>
    intro n r s M h1 hr hn hs hC
    obtain ⟨n, rfl, hn⟩ := z_succ hn
    have e2 : mI M c 7 = nI (cR x) := hC.2.2.1
    refine ⟨M, ?_, hC, Fr.rf⟩
    rw [f_Cloth_withLadders_l10]
    simp (disch := first | assumption | omega) only [z_bd, z_cal, z_gd, z_iT, z_iF, z_le_t, z_le_f, z_lt_t, z_lt_f, z_cl, z_inb, z_at, nI_lit, nI_ii1, nI_add, z_mr, e2]
    rfl
  | succ m ih =>
    intro n r s M h1 hr hn hs hC
    obtain ⟨n, rfl, hn⟩ := z_succ hn
    have hr' : r + (m + 1) = cR x := by omega
    have e2 : mI M c 7 = nI (cR x) := hC.2.2.1
    obtain ⟨M1, b1, b2, b3⟩ := q_lad_l21 (c := c) (p1 := p1) (K := f_Cloth_withLadders_l10 c p1 n) hO h1 (show r < cR x by omega) (cW x) FU 0 s M (by omega) (FU_lt (by omega)) hs hC
    obtain ⟨M2, d1, d2, d3⟩ := ih n (r + 1) (ladR x r (cW x) 0 s) M1 (by omega) (by omega) (by omega) (ladR_ok _ _ _ hs) b2
    refine ⟨M2, ?_, d2, b3.tr d3⟩
    rw [f_Cloth_withLadders_l10]
    simp (disch := first | assumption | omega) only [z_bd, z_cal, z_gd, z_iT, z_iF, z_le_t, z_le_f, z_lt_t, z_lt_f, z_cl, z_inb, z_at, nI_lit, nI_ii1, nI_add, z_mr, e2]
    exact b1.trans d1
theorem q_lad {u : Nat → Nat} {t : Nat} (hO : OkC x) (hu : OkU x 1 u) (ht : t < 1000) (hC : CC M c (wU x u)) :
    ∃ M', f_Cloth_withLadders c (nI t) M = some (nI (ladders x (u, t)).2, M') ∧ CC M' c (wU x (ladders x (u, t)).1) ∧ Fr (inC c) M M' := by
  have w3 := hO.2.2.1
  rw [f_Cloth_withLadders]
  unfold ladders
  by_cases h : t = 0
  · subst h
    rw [if_pos rfl]
    refine ⟨M, ?_, hC, Fr.rf⟩
    simp (disch := first | assumption | omega) only [z_bd, z_cal, z_gd, z_iT, z_iF, z_le_t, z_le_f, z_lt_t, z_lt_f, z_cl, z_inb, z_at, nI_lit, nI_ii1, nI_add, z_mr]
  · rw [if_neg h]
    obtain ⟨M', b1, b2, b3⟩ := q_lad_l10 (c := c) (p1 := nI t) hO (cR x - 1) FU 1 (u, t) M (Nat.le_refl _) (by omega) (FU_lt (by omega)) hu hC
    refine ⟨M', ?_, b2, b3⟩
    simp (disch := first | assumption | omega) only [z_bd, z_cal, z_gd, z_iT, z_iF, z_le_t, z_le_f, z_lt_t, z_lt_f, z_cl, z_inb, z_at, nI_lit, nI_ii1, nI_add, z_mr, z_eq_f]
    exact b1
end
def plP (x : Cl) (r side i : Nat) : Nat := 8 * r + (if side = 0 then i else cW x - 1 - i)
def pulF (x : Cl) (r side : Nat) : Nat → Nat → Us → Us
  | 0, _, s => s
  | m + 1, i, s => if s.1 (plP x r side i) = 0 then (if cD x (plP x r side i) = 1 ∨ cK x (plP x r side i) = 2 then s else pulF x r side m (i + 1) (updN s.1 (plP x r side i) 1, s.2 + 1)) else pulF x r side m (i + 1) s
def pulU (x : Cl) (r side : Nat) : Us := ladders x (pulF x r side (cW x) 0 (cU x, 0))
def pulX (x : Cl) (r side : Nat) : Cl := wU x (pulU x r side).1
theorem pulF_ok {x : Cl} {r side : Nat} : ∀ (m i : Nat) (s : Us), OkU x 1 s.1 → OkU x 1 (pulF x r side m i s).1
  | 0, _, _, h => h
  | m + 1, i, s, h => by
    unfold pulF
    split
    · split
      · exact h
      · exact pulF_ok m (i + 1) _ (OkU_upd h (Nat.le_refl _))
    · exact pulF_ok m (i + 1) _ h
theorem pulF_n {x : Cl} {r side : Nat} : ∀ (m i : Nat) (s : Us), (pulF x r side m i s).2 ≤ s.2 + m
  | 0, _, _ => Nat.le_refl _
  | m + 1, i, s => by
    unfold pulF
    split
    · split
      · omega
      · have := pulF_n (x := x) (r := r) (side := side) m (i + 1) (updN s.1 (plP x r side i) 1, s.2 + 1)
        simp only at this
        omega
    · have := pulF_n (x := x) (r := r) (side := side) m (i + 1) s
      omega
theorem OkC_pul {x : Cl} (hO : OkC x) (r side : Nat) : OkC (pulX x r side) := OkC_U hO (ladders_ok (pulF_ok _ _ _ (OkU_U hO)))
theorem pulU_n {x : Cl} (hO : OkC x) (r side : Nat) : (pulU x r side).2 ≤ 96 := by
  have h := (ladders_n hO (pulF x r side (cW x) 0 (cU x, 0))).2
  have g := pulF_n (x := x) (r := r) (side := side) (cW x) 0 (cU x, 0)
  have w := hO.1.2
  simp only at g
  show (ladders x (pulF x r side (cW x) 0 (cU x, 0))).2 ≤ 96
  omega
section
variable {M : kx_M} {c d : Nat} {x : Cl} {y : De}
theorem q_pull_l33 {K : Int32 → Int32 → kx_M → Option (Int32 × kx_M)} {p2 : Int32} {r side i j : Nat} {s : Us} (hO : OkC x) (hr : r < cR x) (hi : i < cW x) (hs : OkU x 1 s.1) (hn : s.2 ≤ i) (hC : CC M c (wU x s.1)) (hj : plP x r side i = 8 * r + j) (hjw : j < cW x) {m : Nat}
    (ih : ∀ (s : Us) (M : kx_M), OkU x 1 s.1 → s.2 ≤ i + 1 → CC M c (wU x s.1) → ∃ M', K (nI s.2) (nI (i + 1)) M = some (nI (ladders x (pulF x r side m (i + 1) s)).2, M') ∧ CC M' c (wU x (ladders x (pulF x r side m (i + 1) s)).1) ∧ Fr (inC c) M M') :
    ∃ M', f_Cloth_pullThread_l33 c (nI r) p2 K (nI s.2) (nI i) (nI r) (nI j) M = some (nI (ladders x (pulF x r side (m + 1) i s)).2, M') ∧ CC M' c (wU x (ladders x (pulF x r side (m + 1) i s)).1) ∧ Fr (inC c) M M' := by
  have w2 := hO.1.2
  have w3 := hO.2.2.1
  obtain ⟨k1, -, k3, k4⟩ := hO.2.2.2.2.2 r j hr hjw
  have k3 : s.1 (8 * r + j) ≤ 1 := hs r j hr hjw
  obtain ⟨a1, -, a3, a4⟩ : mA M (c + 2) (8 * r + j) = nI (cK x (8 * r + j)) ∧ mA M (c + 3) (8 * r + j) = nI (cN x (8 * r + j)) ∧ mA M (c + 4) (8 * r + j) = nI (s.1 (8 * r + j)) ∧ mA M (c + 5) (8 * r + j) = nI (cD x (8 * r + j)) := hC.2.2.2.2.2 r j hr hjw
  rw [f_Cloth_pullThread_l33]
  by_cases h1 : s.1 (8 * r + j) = 0
  · by_cases h2 : cD x (8 * r + j) = 1 ∨ cK x (8 * r + j) = 2
    · have hs1 : pulF x r side (m + 1) i s = s := by
        show (if s.1 (plP x r side i) = 0 then _ else _) = s
        rw [hj, if_pos h1, if_pos h2]
      rw [hs1]
      obtain ⟨M', b1, b2, b3⟩ := q_lad (u := s.1) (t := s.2) hO hs (by omega) hC
      refine ⟨M', ?_, b2, b3⟩
      by_cases h3 : cD x (8 * r + j) = 1
      · simp (disch := first | assumption | omega) only [z_bd, z_cal, z_gd, z_iT, z_iF, z_le_t, z_le_f, z_lt_t, z_lt_f, z_cl, z_inb, z_at, nI_lit, nI_ii1, nI_add, z_mr, a3, a4, h1, h3, b1]
      · have h4 : cK x (8 * r + j) = 2 := by omega
        simp (disch := first | assumption | omega) only [z_bd, z_cal, z_gd, z_iT, z_iF, z_le_t, z_le_f, z_lt_t, z_lt_f, z_cl, z_inb, z_at, nI_lit, nI_ii1, nI_add, z_mr, a3, a4, a1, h1, h4, z_eq_f, b1]
    · have hs1 : pulF x r side (m + 1) i s = pulF x r side m (i + 1) (updN s.1 (8 * r + j) 1, s.2 + 1) := by
        show (if s.1 (plP x r side i) = 0 then _ else _) = _
        rw [hj, if_pos h1, if_neg h2]
      have hC2 : CC (sA M (c + 4) (upd (mA M (c + 4)) (8 * r + j) (nI 1))) c (wU x (updN s.1 (8 * r + j) 1)) := CC_U (x := wU x s.1) hC
      obtain ⟨M', b1, b2, b3⟩ := ih (updN s.1 (8 * r + j) 1, s.2 + 1) _ (OkU_upd hs (Nat.le_refl _)) (by simp only; omega) hC2
      rw [hs1]
      refine ⟨M', ?_, b2, (Fr.sA ⟨by omega, by omega⟩).tr b3⟩
      simp (disch := first | assumption | omega) only [z_bd, z_cal, z_gd, z_iT, z_iF, z_le_t, z_le_f, z_lt_t, z_lt_f, z_cl, z_inb, z_at, nI_lit, nI_ii1, nI_add, z_mr, a3, a4, a1, h1, z_eq_f]
      exact b1
  · have hs1 : pulF x r side (m + 1) i s = pulF x r side m (i + 1) s := by
      show (if s.1 (plP x r side i) = 0 then _ else _) = _
      rw [hj, if_neg h1]
    obtain ⟨M', b1, b2, b3⟩ := ih s M hs (by omega) hC
    rw [hs1]
    refine ⟨M', ?_, b2, b3⟩
    simp (disch := first | assumption | omega) only [z_bd, z_cal, z_gd, z_iT, z_iF, z_le_t, z_le_f, z_lt_t, z_lt_f, z_cl, z_inb, z_at, nI_lit, nI_ii1, nI_add, z_mr, a3, z_eq_f]
    exact b1
theorem q_pull_l5 {r side : Nat} (hO : OkC x) (hr : r < cR x) (hside : side ≤ 1) :
    ∀ (m n i : Nat) (s : Us) (M : kx_M), i + m = cW x → m < n → OkU x 1 s.1 → s.2 ≤ i → CC M c (wU x s.1) → ∃ M', f_Cloth_pullThread_l5 c (nI r) (nI side) n (nI s.2) (nI i) M = some (nI (ladders x (pulF x r side m i s)).2, M') ∧ CC M' c (wU x (ladders x (pulF x r side m i s)).1) ∧ Fr (inC c) M M' := by
  have w2 := hO.1.2
  have w3 := hO.2.2.1
  intro m
  induction m with
  | zero =>
    intro n i s M hi hn hs hsn hC
    obtain ⟨n, rfl, hn⟩ := z_succ hn
    have e2 : mI M c 5 = nI (cW x) := hC.1
    obtain ⟨M', b1, b2, b3⟩ := q_lad (u := s.1) (t := s.2) hO hs (by omega) hC
    refine ⟨M', ?_, b2, b3⟩
    rw [f_Cloth_pullThread_l5]
    simp (disch := first | assumption | omega) only [z_bd, z_cal, z_gd, z_iT, z_iF, z_le_t, z_le_f, z_lt_t, z_lt_f, z_cl, z_inb, z_at, nI_lit, nI_ii1, nI_add, z_mr, e2, b1]
    rfl
  | succ m ih =>
    intro n i s M hi hn hs hsn hC
    obtain ⟨n, rfl, hn⟩ := z_succ hn
    have e2 : mI M c 5 = nI (cW x) := hC.1
    rw [f_Cloth_pullThread_l5]
    by_cases h0 : side = 0
    · subst h0
      obtain ⟨M', b1, b2, b3⟩ := q_pull_l33 (K := f_Cloth_pullThread_l5 c (nI r) (nI 0) n) (p2 := nI 0) (side := 0) (j := i) (m := m) hO hr (show i < cW x by omega) hs hsn hC rfl (by omega) (fun s M h1 h2 h3 => ih n (i + 1) s M (by omega) (by omega) h1 h2 h3)
      refine ⟨M', ?_, b2, b3⟩
      simp (disch := first | assumption | omega) only [z_bd, z_cal, z_gd, z_iT, z_iF, z_le_t, z_le_f, z_lt_t, z_lt_f, z_cl, z_inb, z_at, nI_lit, nI_ii1, nI_add, z_mr, e2]
      exact b1
    · have hp : plP x r side i = 8 * r + (cW x - 1 - i) := by
        unfold plP
        rw [if_neg h0]
      obtain ⟨M', b1, b2, b3⟩ := q_pull_l33 (K := f_Cloth_pullThread_l5 c (nI r) (nI side) n) (p2 := nI side) (side := side) (j := cW x - 1 - i) (m := m) hO hr (show i < cW x by omega) hs hsn hC hp (by omega) (fun s M h1 h2 h3 => ih n (i + 1) s M (by omega) (by omega) h1 h2 h3)
      refine ⟨M', ?_, b2, b3⟩
      simp (disch := first | assumption | omega) only [z_bd, z_cal, z_gd, z_iT, z_iF, z_le_t, z_le_f, z_lt_t, z_lt_f, z_cl, z_inb, z_at, nI_lit, nI_ii1, nI_add, z_mr, e2, z_eq_f, z_sub]
      exact b1
theorem q_pull {r side : Nat} (hO : OkC x) (hC : CC M c x) (hr : r < cR x) (hside : side ≤ 1) :
    ∃ M', f_Cloth_pullThread c (nI r) (nI side) M = some (nI (pulU x r side).2, M') ∧ CC M' c (pulX x r side) ∧ Fr (inC c) M M' :=
  q_pull_l5 hO hr hside (cW x) FU 0 (cU x, 0) M (by omega) (FU_lt (by have := hO.1.2; omega)) (OkU_U hO) (Nat.le_refl _) hC
def eatU (x : Cl) (r i : Nat) : Us := if looseB x (8 * r + i) = true then ladders x (updN (cU x) (8 * r + i) 1, 1) else (cU x, 0)
def eatX (x : Cl) (r i : Nat) : Cl := wU x (eatU x r i).1
theorem OkC_eat (hO : OkC x) (r i : Nat) : OkC (eatX x r i) := by
  unfold eatX eatU
  split
  · exact OkC_U hO (ladders_ok (OkU_upd (OkU_U hO) (Nat.le_refl _)))
  · exact hO
theorem q_eat {r i : Nat} (hO : OkC x) (hC : CC M c x) (hr : r < cR x) (hi : i < cW x) :
    ∃ M', f_Cloth_eat c (nI r) (nI i) M = some (nI (eatU x r i).2, M') ∧ CC M' c (eatX x r i) ∧ Fr (inC c) M M' := by
  have w2 := hO.1.2
  have w3 := hO.2.2.1
  have hl := q_loose hO hC hr hi
  rw [f_Cloth_eat]
  unfold eatX eatU
  cases h : looseB x (8 * r + i)
  · rw [h, b2i_f] at hl
    refine ⟨M, ?_, hC, Fr.rf⟩
    simp (disch := first | assumption | omega) only [z_bd, z_cal, z_gd, z_iT, z_iF, z_le_t, z_le_f, z_lt_t, z_lt_f, z_cl, z_inb, z_at, nI_lit, nI_ii1, nI_add, z_mr, hl, Bool.false_eq_true]
  · rw [h, b2i_t] at hl
    rw [if_pos rfl]
    have hC2 := CC_U (p := 8 * r + i) (v := 1) hC
    obtain ⟨M', b1, b2, b3⟩ := q_lad (u := updN (cU x) (8 * r + i) 1) (t := 1) hO (OkU_upd (OkU_U hO) (Nat.le_refl _)) (by omega) hC2
    refine ⟨M', ?_, b2, (Fr.sA ⟨by omega, by omega⟩).tr b3⟩
    simp (disch := first | assumption | omega) only [z_bd, z_cal, z_gd, z_iT, z_iF, z_le_t, z_le_f, z_lt_t, z_lt_f, z_cl, z_inb, z_at, nI_lit, nI_ii1, nI_add, z_mr, hl, z_eq_f, b1]
def patX (x : Cl) (p : Nat) : Cl := wD (wU (wN x (updN (cN x) p 0)) (updN (cU x) p 0)) (updN (cD x) p 1)
theorem OkC_pat (hO : OkC x) (p : Nat) : OkC (patX x p) := by
  have h1 : OkC (wN x (updN (cN x) p 0)) := OkC_N hO (OkU_upd (OkU_N hO) (by omega))
  have h2 : OkC (wU (wN x (updN (cN x) p 0)) (updN (cU x) p 0)) := OkC_U h1 (OkU_upd (OkU_U h1) (by omega))
  exact OkC_D h2 (OkU_upd (OkU_D h2) (by omega))
theorem q_pat {r i : Nat} (hO : OkC x) (hC : CC M c x) (hr : r < cR x) (hi : i < cW x) :
    ∃ M', f_Cloth_patch c (nI r) (nI i) M = some (nI (cN x (8 * r + i)), M') ∧ CC M' c (patX x (8 * r + i)) ∧ Fr (inC c) M M' := by
  have w2 := hO.1.2
  have w3 := hO.2.2.1
  have a2 := (hC.2.2.2.2.2 r i hr hi).2.1
  have h1 := CC_N (p := 8 * r + i) (v := 0) hC
  have h2 := CC_U (p := 8 * r + i) (v := 0) h1
  have h3 := CC_D (p := 8 * r + i) (v := 1) h2
  refine ⟨_, ?_, h3, (((Fr.sA ⟨by omega, by omega⟩).tr (Fr.sA ⟨by omega, by omega⟩)).tr (Fr.sA ⟨by omega, by omega⟩))⟩
  rw [f_Cloth_patch]
  simp (disch := first | assumption | omega) only [z_bd, z_cal, z_gd, z_iT, z_iF, z_le_t, z_le_f, z_lt_t, z_lt_f, z_cl, z_inb, z_at, nI_lit, nI_ii1, nI_add, z_mr, a2]
end
