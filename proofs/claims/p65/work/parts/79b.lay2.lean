/-! ## the law lays a TREATY: what is ahead of the rows -/
section
variable {hA : Nat → Int32} {v : Nat → Nat}
def gvB (w : Nat) (q k d : Nat) : List Pc := [Wd false (if w = 0 then kwG else kwS), Wd true (nmQ q), Wd true (nmC k), Nb (dgs d), Zg]
theorem lay_l251 {K : Int32 → kx_M → Option (Int32 × kx_M)} {k N b : Nat} (hH : HOK hA v) (hk : k < v 3) (hb : b + 120 ≤ 900)
    (hK : ∀ (M' : kx_M) (σ' : Sg) (A' : List Pc), LY hA M' σ' A' (PT (v 0) (v 2) (v 3) 0 true true) (N + 4) (b + 76) → GL hA v (K (nI (k + 1)) M')) : ∀ (d n q : Nat) (M : kx_M) (σ : Sg) (A : List Pc), q + d = v 2 → d < n → LY hA M σ A (PT (v 0) (v 2) (v 3) 0 true true) (N + 2 * q) (b + 38 * q) → GL hA v (f_LW_lay_l251 K n (nI k) (nI q) M) := by
  have h2 := hH.2.2.2.1
  have h3 := hH.2.2.2.2.1
  have hv := hH.2.2.2.2.2.2.2.2.2.1
  intro d
  induction d with
  | zero =>
    intro n q M σ A hd hn hL
    obtain ⟨n, rfl, hn⟩ := z_succ hn
    have e : mA M 136 2 = nI (v 2) := by rw [WB_h hL.1, hH.1 2 (by omega) (by omega)]
    have g := hK M σ A ⟨⟨hL.1.1, by have := hL.1.2; omega⟩, PG_mono hL.2 (fun _ h => h) (by omega)⟩
    rw [f_LW_lay_l251]
    simp (disch := first | assumption | omega) only [z_bdn, z_caln, z_gdn, z_iT, z_iF, z_le_t, z_le_f, z_lt_t, z_lt_f, z_cl, z_inb, z_at, z_lit, nI_ii1, nI_add, z_mr, z_ref0, z_refn, z_eq_f, Bool.not_true, Bool.not_false, b2i_t, b2i_f, e]
    exact g
  | succ d ih =>
    intro n q M σ A hd hn hL
    obtain ⟨n, rfl, hn⟩ := z_succ hn
    have e : mA M 136 2 = nI (v 2) := by rw [WB_h hL.1, hH.1 2 (by omega) (by omega)]
    obtain ⟨M1, σ1, a1, a2⟩ := b_say (j := 12) (by decide) hL.1 (by omega)
    obtain ⟨M2, σ2, b1, b2⟩ := b_nm (c := 113) (k := q) (by decide) (by omega) a2 (by omega)
    obtain ⟨M3, σ3, c1, c2⟩ := b_nm (c := 99) (k := k) (by decide) (by omega) b2 (by omega)
    have v1 := hv (3 * q + k) (by omega)
    have v2 := hv (6 + 3 * q + k) (by omega)
    have e3 : mA M3 136 (22 + q * 3 + k) = nI (v (22 + (3 * q + k))) := by
      rw [WB_h c2, hH.1 _ (by omega) (by omega)]
      congr 2
      omega
    obtain ⟨M4, σ4, d1, d2⟩ := b_num (v := v (22 + (3 * q + k))) (by omega) c2 (by omega)
    obtain ⟨M5, σ5, f1, f2⟩ := b_say (j := 13) (by decide) d2 (by omega)
    obtain ⟨M6, σ6, g1, g2⟩ := b_nm (c := 113) (k := q) (by decide) (by omega) f2 (by omega)
    obtain ⟨M7, σ7, i1, i2⟩ := b_nm (c := 99) (k := k) (by decide) (by omega) g2 (by omega)
    have e7 : mA M7 136 (28 + q * 3 + k) = nI (v (22 + (6 + 3 * q + k))) := by
      rw [WB_h i2, hH.1 _ (by omega) (by omega)]
      congr 2
      omega
    obtain ⟨M8, σ8, j1, j2⟩ := b_num (v := v (22 + (6 + 3 * q + k))) (by omega) i2 (by omega)
    obtain ⟨M9, σ9, k1, k2⟩ := b_say (j := 2) (by decide) j2 (by omega)
    have et : pcs (A ++ gvB 0 q k (v (22 + (3 * q + k))) ++ gvB 1 q k (v (22 + (6 + 3 * q + k)))) = pcs A ++ sbN 12 ++ [32, 113, 97 + q] ++ [32, 99, 97 + k] ++ 32 :: dgs (v (22 + (3 * q + k))) ++ sbN 13 ++ [32, 113, 97 + q] ++ [32, 99, 97 + k] ++ 32 :: dgs (v (22 + (6 + 3 * q + k))) ++ sbN 2 := by
      obtain ⟨-, -, s2, -, -, -, -, -, -, -, -, -, s12, s13, -⟩ := sbN_e
      rw [s2, s12, s13]
      unfold gvB
      simp only [pcs_app, pcs_W0, pcs_W1, pcs_N, pcs_Z, pcs_0, List.append_assoc, List.cons_append, List.nil_append, nmQ, nmC, if_pos, Nat.one_ne_zero, if_neg, not_false_eq_true]
    have hp := PG_step (PG_step hL.2 (st_wor (W := v 0) (Q := v 2) (C := v 3) (q := q) (k := k) (d := v (22 + (3 * q + k))) 0 (by decide) h2.2 h3 (by omega) hk (by omega))) (st_wor (W := v 0) (Q := v 2) (C := v 3) (q := q) (k := k) (d := v (22 + (6 + 3 * q + k))) 1 (by decide) h2.2 h3 (by omega) hk (by omega))
    have g := ih n (q + 1) M9 σ9 (A ++ gvB 0 q k (v (22 + (3 * q + k))) ++ gvB 1 q k (v (22 + (6 + 3 * q + k)))) (by omega) (by omega) ⟨⟨by rw [← et] at k2; exact k2.1, by rw [← et] at k2; have := k2.2; omega⟩, PG_mono hp (fun _ h => h) (by omega)⟩
    rw [f_LW_lay_l251]
    simp (disch := first | assumption | omega) only [z_bdn, z_caln, z_gdn, z_iT, z_iF, z_le_t, z_le_f, z_lt_t, z_lt_f, z_cl, z_inb, z_at, z_lit, nI_ii1, nI_add, z_mr, z_ref0, z_refn, z_eq_f, Bool.not_true, Bool.not_false, b2i_t, b2i_f, e, a1, b1, c1, e3, d1, f1, g1, i1, e7, j1, k1]
    exact g
theorem lay_l188 {K : Int32 → kx_M → Option (Int32 × kx_M)} {k N b : Nat} (hH : HOK hA v) (hk : k < v 3) (hb : b + 170 ≤ 900)
    (hK : ∀ (M' : kx_M) (σ' : Sg) (A' : List Pc), LY hA M' σ' A' (PT (v 0) (v 2) (v 3) 0 true true) (N + 6) (b + 112) → GL hA v (K (nI (k + 1)) M')) : ∀ (d n i : Nat) (M : kx_M) (σ : Sg) (A : List Pc), i + d = k → d < n → LY hA M σ A (PT (v 0) (v 2) (v 3) 0 true true) (N + i) (b + 18 * i) → GL hA v (f_LW_lay_l188 K n (nI k) (nI i) M) := by
  have h3 := hH.2.2.2.2.1
  have h2 := hH.2.2.2.1
  intro d
  induction d with
  | zero =>
    intro n i M σ A hd hn hL
    obtain ⟨n, rfl, hn⟩ := z_succ hn
    have g := lay_l251 (K := K) (N := N + i) (b := b + 18 * i) hH hk (by omega) (fun M' σ' A' h => hK M' σ' A' ⟨⟨h.1.1, by have := h.1.2; omega⟩, PG_mono h.2 (fun _ h => h) (by omega)⟩) (v 2) FU 0 M σ A (by omega) (FU_lt (by omega)) hL
    rw [f_LW_lay_l188]
    simp (disch := first | assumption | omega) only [z_bdn, z_caln, z_gdn, z_iT, z_iF, z_le_t, z_le_f, z_lt_t, z_lt_f, z_cl, z_inb, z_at, z_lit, nI_ii1, nI_add, z_mr, z_ref0, z_refn, z_eq_f, Bool.not_true, Bool.not_false, b2i_t, b2i_f]
    exact g
  | succ d ih =>
    intro n i M σ A hd hn hL
    obtain ⟨n, rfl, hn⟩ := z_succ hn
    obtain ⟨M1, σ1, a1, a2⟩ := b_say (j := 11) (by decide) hL.1 (by omega)
    obtain ⟨M2, σ2, b1, b2⟩ := b_nm (c := 99) (k := k) (by decide) (by omega) a2 (by omega)
    obtain ⟨M3, σ3, c1, c2⟩ := b_nm (c := 99) (k := i) (by decide) (by omega) b2 (by omega)
    obtain ⟨M4, σ4, d1, d2⟩ := b_say (j := 2) (by decide) c2 (by omega)
    have et : pcs (A ++ [Wd false kwH, Wd true (nmC k), Wd true (nmC i), Zg]) = pcs A ++ sbN 11 ++ [32, 99, 97 + k] ++ [32, 99, 97 + i] ++ sbN 2 := by
      obtain ⟨-, -, s2, -, -, -, -, -, -, -, -, s11, -⟩ := sbN_e
      rw [s2, s11]
      simp only [pcs_app, pcs_W0, pcs_W1, pcs_N, pcs_Z, pcs_0, List.append_assoc, List.cons_append, List.nil_append, nmC]
    have hp := PG_step hL.2 (st_clh (W := v 0) (Q := v 2) (C := v 3) (k := k) (i := i) h3 hk (by omega))
    have g := ih n (i + 1) M4 σ4 _ (by omega) (by omega) ⟨⟨by rw [← et] at d2; exact d2.1, by rw [← et] at d2; have := d2.2; omega⟩, PG_mono hp (fun _ h => h) (by omega)⟩
    have g0 := ih n (i + 1) M σ A (by omega) (by omega) ⟨⟨hL.1.1, by have := hL.1.2; omega⟩, PG_mono hL.2 (fun _ h => h) (by omega)⟩
    rw [f_LW_lay_l188]
    simp (disch := first | assumption | omega) only [z_bdn, z_caln, z_gdn, z_iT, z_iF, z_le_t, z_le_f, z_lt_t, z_lt_f, z_cl, z_inb, z_at, z_lit, nI_ii1, nI_add, z_mr, z_ref0, z_refn, z_eq_f, Bool.not_true, Bool.not_false, b2i_t, b2i_f, a1, b1, c1, d1]
    split
    · exact g0
    · exact g
theorem lay_l178 {N : Nat} (hH : HOK hA v) (hN : N ≤ 100) : ∀ (d n k : Nat) (M : kx_M) (σ : Sg) (A : List Pc), k + d = v 3 → d < n → LY hA M σ A (PT (v 0) (v 2) (v 3) 0 true true) (N + 6 * k) (193 + 112 * k) → GL hA v (f_LW_lay_l178 n (nI k) M) := by
  have h3 := hH.2.2.2.2.1
  have h4 := hH.2.2.2.2.2.1
  intro d
  induction d with
  | zero =>
    intro n k M σ A hd hn hL
    obtain ⟨n, rfl, hn⟩ := z_succ hn
    have e : mA M 136 3 = nI (v 3) := by rw [WB_h hL.1, hH.1 3 (by omega) (by omega)]
    have g := lay_l360 (C := v 3) hH rfl (v 4) FU 0 M σ A (N + 18) (by omega) (FU_lt (by omega)) ⟨⟨hL.1.1, by have := hL.1.2; omega⟩, PG_mono hL.2 (fun _ h => h) (by omega)⟩ (by omega)
    rw [f_LW_lay_l178]
    simp (disch := first | assumption | omega) only [z_bdn, z_caln, z_gdn, z_iT, z_iF, z_le_t, z_le_f, z_lt_t, z_lt_f, z_cl, z_inb, z_at, z_lit, nI_ii1, nI_add, z_mr, z_ref0, z_refn, z_eq_f, Bool.not_true, Bool.not_false, b2i_t, b2i_f, e]
    exact g
  | succ d ih =>
    intro n k M σ A hd hn hL
    obtain ⟨n, rfl, hn⟩ := z_succ hn
    have e : mA M 136 3 = nI (v 3) := by rw [WB_h hL.1, hH.1 3 (by omega) (by omega)]
    have g := lay_l188 (K := f_LW_lay_l178 n) (k := k) (N := N + 6 * k) (b := 193 + 112 * k) hH (by omega) (by omega) (fun M' σ' A' h => ih n (k + 1) M' σ' A' (by omega) (by omega) ⟨⟨h.1.1, by have := h.1.2; omega⟩, PG_mono h.2 (fun _ h => h) (by omega)⟩) k FU 0 M σ A (by omega) (FU_lt (by omega)) hL
    rw [f_LW_lay_l178]
    simp (disch := first | assumption | omega) only [z_bdn, z_caln, z_gdn, z_iT, z_iF, z_le_t, z_le_f, z_lt_t, z_lt_f, z_cl, z_inb, z_at, z_lit, nI_ii1, nI_add, z_mr, z_ref0, z_refn, z_eq_f, Bool.not_true, Bool.not_false, b2i_t, b2i_f, e]
    exact g
def claB (k : Nat) (vs : List Nat) : List Pc := Wd false kwC :: Wd true (nmC k) :: Wd true kwI :: vs.map (fun v => Wd true (kwK v))
theorem claB_k (k : Nat) (vs : List Nat) (x : Nat) : claB k (vs ++ [x]) = claB k vs ++ [Wd true (kwK x)] := by
  unfold claB
  rw [List.map_append]
  rfl
theorem lay_l130 {K : Int32 → kx_M → Option (Int32 × kx_M)} {A : List Pc} {k b : Nat} (hH : HOK hA v) (hk : k < 3) (hb : b + 60 ≤ 900)
    (hK : ∀ (M' : kx_M) (σ' : Sg) (vs : List Nat), (∀ x ∈ vs, x < 4) → vs.length = v (7 + k) → WB hA M' σ' (pcs (A ++ (claB k vs ++ [Zg]))) (b + 24) → GL hA v (K (nI (k + 1)) M')) : ∀ (d n i : Nat) (M : kx_M) (σ : Sg) (vs : List Nat), i + d = v (7 + k) → d < n → (∀ x ∈ vs, x < 4) → vs.length = i → WB hA M σ (pcs (A ++ claB k vs)) (b + 6 * i) → GL hA v (f_LW_lay_l130 K n (nI k) (nI i) M) := by
  have h7 := hH.2.2.2.2.2.2.2.1 k hk
  intro d
  induction d with
  | zero =>
    intro n i M σ vs hd hn hR hl hW
    obtain ⟨n, rfl, hn⟩ := z_succ hn
    have e : mA M 136 (7 + k) = nI (v (7 + k)) := by rw [WB_h hW, hH.1 (7 + k) (by omega) (by omega)]
    obtain ⟨M1, σ1, a1, a2⟩ := b_say (j := 2) (by decide) hW (by omega)
    have et : pcs (A ++ (claB k vs ++ [Zg])) = pcs (A ++ claB k vs) ++ sbN 2 := by
      rw [← List.append_assoc, pcs_app, sbN_e.2.2.1]
      rfl
    have g := hK M1 σ1 vs hR (by omega) ⟨by rw [et]; exact a2.1, by rw [et]; have := a2.2; omega⟩
    rw [f_LW_lay_l130]
    simp (disch := first | assumption | omega) only [z_bdn, z_caln, z_gdn, z_iT, z_iF, z_le_t, z_le_f, z_lt_t, z_lt_f, z_cl, z_inb, z_at, z_lit, nI_ii1, nI_add, z_mr, z_ref0, z_refn, z_eq_f, Bool.not_true, Bool.not_false, b2i_t, b2i_f, e, a1]
    exact g
  | succ d ih =>
    intro n i M σ vs hd hn hR hl hW
    obtain ⟨n, rfl, hn⟩ := z_succ hn
    have e : mA M 136 (7 + k) = nI (v (7 + k)) := by rw [WB_h hW, hH.1 (7 + k) (by omega) (by omega)]
    have hv := hH.2.2.2.2.2.2.2.2.1 (3 * k + i) (by omega)
    have e1 : mA M 136 (10 + k * 3 + i) = nI (v (10 + (3 * k + i))) := by
      rw [WB_h hW, hH.1 _ (by omega) (by omega)]
      congr 2
      omega
    obtain ⟨M1, σ1, a1, a2⟩ := b_kd hv hW (by omega)
    have et : pcs (A ++ claB k (vs ++ [v (10 + (3 * k + i))])) = pcs (A ++ claB k vs) ++ 32 :: kwK (v (10 + (3 * k + i))) := by
      rw [claB_k, ← List.append_assoc, pcs_app]
      congr 1
      show 32 :: (kwK _ ++ []) = _
      rw [List.append_nil]
    have g := ih n (i + 1) M1 σ1 (vs ++ [v (10 + (3 * k + i))]) (by omega) (by omega) (fun x hx => by
      rcases List.mem_append.mp hx with h | h
      · exact hR x h
      · rw [List.mem_singleton.mp h]; exact hv) (by rw [List.length_append]; show vs.length + 1 = _; omega) ⟨by rw [et]; exact a2.1, by rw [et]; have := a2.2; omega⟩
    rw [f_LW_lay_l130]
    simp (disch := first | assumption | omega) only [z_bdn, z_caln, z_gdn, z_iT, z_iF, z_le_t, z_le_f, z_lt_t, z_lt_f, z_cl, z_inb, z_at, z_lit, nI_ii1, nI_add, z_mr, z_ref0, z_refn, z_eq_f, Bool.not_true, Bool.not_false, b2i_t, b2i_f, e, e1, a1]
    exact g
theorem lay_l98 {N : Nat} (hH : HOK hA v) (hN : N ≤ 50) : ∀ (d n k : Nat) (M : kx_M) (σ : Sg) (A : List Pc), k + d = v 3 → d < n → LY hA M σ A (PT (v 0) (v 2) k 0 true true) (N + k) (76 + 39 * k) → GL hA v (f_LW_lay_l98 n (nI k) M) := by
  have h0 := hH.2.1
  have h2 := hH.2.2.2.1
  have h3 := hH.2.2.2.2.1
  intro d
  induction d with
  | zero =>
    intro n k M σ A hd hn hL
    obtain ⟨n, rfl, hn⟩ := z_succ hn
    obtain rfl : k = v 3 := by omega
    have e : mA M 136 3 = nI (v 3) := by rw [WB_h hL.1, hH.1 3 (by omega) (by omega)]
    have g := lay_l178 (N := N + 3) hH (by omega) (v 3) FU 0 M σ A (by omega) (FU_lt (by omega)) ⟨⟨hL.1.1, by have := hL.1.2; omega⟩, PG_mono hL.2 (fun _ h => h) (by omega)⟩
    rw [f_LW_lay_l98]
    simp (disch := first | assumption | omega) only [z_bdn, z_caln, z_gdn, z_iT, z_iF, z_le_t, z_le_f, z_lt_t, z_lt_f, z_cl, z_inb, z_at, z_lit, nI_ii1, nI_add, z_mr, z_ref0, z_refn, z_eq_f, Bool.not_true, Bool.not_false, b2i_t, b2i_f, e]
    exact g
  | succ d ih =>
    intro n k M σ A hd hn hL
    obtain ⟨n, rfl, hn⟩ := z_succ hn
    have e : mA M 136 3 = nI (v 3) := by rw [WB_h hL.1, hH.1 3 (by omega) (by omega)]
    have h7 := hH.2.2.2.2.2.2.2.1 k (by omega)
    obtain ⟨M1, σ1, a1, a2⟩ := b_say (j := 5) (by decide) hL.1 (by omega)
    obtain ⟨M2, σ2, b1, b2⟩ := b_nm (c := 99) (k := k) (by decide) (by omega) a2 (by omega)
    obtain ⟨M3, σ3, c1, c2⟩ := b_say (j := 6) (by decide) b2 (by omega)
    have et : pcs (A ++ claB k []) = pcs A ++ sbN 5 ++ [32, 99, 97 + k] ++ sbN 6 := by
      obtain ⟨-, -, -, -, -, s5, s6, -⟩ := sbN_e
      rw [s5, s6]
      unfold claB
      simp only [pcs_app, pcs_W0, pcs_W1, pcs_N, pcs_Z, pcs_0, List.append_assoc, List.cons_append, List.nil_append, List.map_nil, List.append_nil, nmC]
    have g := lay_l130 (K := f_LW_lay_l98 n) (A := A) (k := k) (b := 76 + 39 * k + 15) hH (by omega) (by omega) (fun M' σ' vs g1 g2 g3 => by
      have hst := st_cla (W := v 0) (Q := v 2) (k := k) (vs := vs) h2.2 (by omega) g1 (by omega) (by omega) (by omega)
      have hp := PG_step hL.2 hst
      exact ih n (k + 1) M' σ' _ (by omega) (by omega) ⟨⟨g3.1, by have := g3.2; omega⟩, hp⟩) (v (7 + k)) FU 0 M3 σ3 [] (by omega) (FU_lt (by omega)) (fun x hx => absurd hx List.not_mem_nil) rfl ⟨by rw [et]; exact c2.1, by rw [et]; exact c2.2⟩
    rw [f_LW_lay_l98]
    simp (disch := first | assumption | omega) only [z_bdn, z_caln, z_gdn, z_iT, z_iF, z_le_t, z_le_f, z_lt_t, z_lt_f, z_cl, z_inb, z_at, z_lit, nI_ii1, nI_add, z_mr, z_ref0, z_refn, z_eq_f, Bool.not_true, Bool.not_false, b2i_t, b2i_f, e, a1, b1, c1]
    exact g
theorem lay_l44 (hH : HOK hA v) : ∀ (d n k : Nat) (M : kx_M) (σ : Sg) (A : List Pc), k + d = v 2 → d < n → LY hA M σ A (PT (v 0) k 0 0 true true) (2 + k) (26 + 25 * k) → GL hA v (f_LW_lay_l44 n (nI k) M) := by
  have h2 := hH.2.2.2.1
  have h3 := hH.2.2.2.2.1
  intro d
  induction d with
  | zero =>
    intro n k M σ A hd hn hL
    obtain ⟨n, rfl, hn⟩ := z_succ hn
    obtain rfl : k = v 2 := by omega
    have e : mA M 136 2 = nI (v 2) := by rw [WB_h hL.1, hH.1 2 (by omega) (by omega)]
    have g := lay_l98 (N := 4) hH (by omega) (v 3) FU 0 M σ A (by omega) (FU_lt (by omega)) ⟨⟨hL.1.1, by have := hL.1.2; omega⟩, PG_mono hL.2 (fun _ h => h) (by omega)⟩
    rw [f_LW_lay_l44]
    simp (disch := first | assumption | omega) only [z_bdn, z_caln, z_gdn, z_iT, z_iF, z_le_t, z_le_f, z_lt_t, z_lt_f, z_cl, z_inb, z_at, z_lit, nI_ii1, nI_add, z_mr, z_ref0, z_refn, z_eq_f, Bool.not_true, Bool.not_false, b2i_t, b2i_f, e]
    exact g
  | succ d ih =>
    intro n k M σ A hd hn hL
    obtain ⟨n, rfl, hn⟩ := z_succ hn
    have e : mA M 136 2 = nI (v 2) := by rw [WB_h hL.1, hH.1 2 (by omega) (by omega)]
    have h5 := hH.2.2.2.2.2.2.1 k (by omega)
    obtain ⟨M1, σ1, a1, a2⟩ := b_say (j := 3) (by decide) hL.1 (by omega)
    obtain ⟨M2, σ2, b1, b2⟩ := b_nm (c := 113) (k := k) (by decide) (by omega) a2 (by omega)
    obtain ⟨M3, σ3, c1, c2⟩ := b_say (j := 4) (by decide) b2 (by omega)
    have e3 : mA M3 136 (5 + k) = nI (v (5 + k)) := by rw [WB_h c2, hH.1 (5 + k) (by omega) (by omega)]
    obtain ⟨M4, σ4, d1, d2⟩ := b_num (v := v (5 + k)) (by omega) c2 (by omega)
    obtain ⟨M5, σ5, f1, f2⟩ := b_say (j := 2) (by decide) d2 (by omega)
    have et : pcs (A ++ [Wd false kwQ, Wd true (nmQ k), Wd true kwO, Nb (dgs (v (5 + k))), Zg]) = pcs A ++ sbN 3 ++ [32, 113, 97 + k] ++ sbN 4 ++ 32 :: dgs (v (5 + k)) ++ sbN 2 := by
      obtain ⟨-, -, s2, s3, s4, -⟩ := sbN_e
      rw [s2, s3, s4]
      simp only [pcs_app, pcs_W0, pcs_W1, pcs_N, pcs_Z, pcs_0, List.append_assoc, List.cons_append, List.nil_append, nmQ]
    have hp := PG_step hL.2 (st_que (W := v 0) (k := k) (v := v (5 + k)) (by omega) (by omega))
    have g := ih n (k + 1) M5 σ5 _ (by omega) (by omega) ⟨⟨by rw [← et] at f2; exact f2.1, by rw [← et] at f2; have := f2.2; omega⟩, PG_mono hp (fun _ h => h) (by omega)⟩
    rw [f_LW_lay_l44]
    simp (disch := first | assumption | omega) only [z_bdn, z_caln, z_gdn, z_iT, z_iF, z_le_t, z_le_f, z_lt_t, z_lt_f, z_cl, z_inb, z_at, z_lit, nI_ii1, nI_add, z_mr, z_ref0, z_refn, z_eq_f, Bool.not_true, Bool.not_false, b2i_t, b2i_f, e, a1, b1, c1, e3, d1, f1]
    exact g
/-- what the row of the tape, the marks are before -/
def W0 (hA : Nat → Int32) (M : kx_M) (σ : Sg) : Prop := IC M σ ∧ mA M 136 = hA ∧ (gK σ).1 = 0 ∧ (gP σ).1 = 0 ∧ mA M 135 20 = nI 0 ∧ mA M 135 21 = nI 0
theorem lay_ok {M : kx_M} {σ : Sg} (hH : HOK hA v) (h : W0 hA M σ) : GL hA v (f_LW_lay M) := by
  obtain ⟨w1, w2, w3, w4, w5, w6⟩ := h
  have h0 := hH.2.1
  have h1 := hH.2.2.1
  have h2 := hH.2.2.2.1
  have hLo := Lo_A (M := M) (i := 135) (f := upd (mA M 135) 22 (nI 0)) (Nat.le_refl _)
  have hW : WB hA (sA M 135 (upd (mA M 135) 22 (nI 0))) σ [] 0 := ⟨⟨IC_lo hLo w1, (z_mAn (by decide)).trans w2, w3, fun c hc => absurd hc List.not_mem_nil, w4, fun i hi => absurd hi (by omega), by rw [z_mA, z_un (by decide)]; exact w5, by rw [z_mA, z_un (by decide)]; exact w6, by rw [z_mA, z_ua], fun i hi => absurd hi (Nat.not_lt_zero _)⟩, Nat.le_refl _⟩
  obtain ⟨M1, σ1, a1, a2⟩ := b_say (j := 0) (by decide) hW (by omega)
  have e1 : mA M1 136 0 = nI (v 0) := by rw [WB_h a2, hH.1 0 (by omega) (by omega)]
  obtain ⟨M2, σ2, b1, b2⟩ := b_num (v := v 0) (by omega) a2 (by omega)
  obtain ⟨M3, σ3, c1, c2⟩ := b_say (j := 1) (by decide) b2 (by omega)
  have e3 : mA M3 136 1 = nI (v 1) := by rw [WB_h c2, hH.1 1 (by omega) (by omega)]
  obtain ⟨M4, σ4, d1, d2⟩ := b_num (v := v 1) (by omega) c2 (by omega)
  obtain ⟨M5, σ5, f1, f2⟩ := b_say (j := 2) (by decide) d2 (by omega)
  have et : pcs ([] ++ [Wd false kwW, Nb (dgs (v 0)), Zg] ++ [Wd false kwT, Nb (dgs (v 1)), Zg]) = [] ++ sbN 0 ++ 32 :: dgs (v 0) ++ sbN 1 ++ 32 :: dgs (v 1) ++ sbN 2 := by
    obtain ⟨s0, s1, s2, -⟩ := sbN_e
    rw [s2, s0, s1]
    simp only [pcs_app, pcs_W0, pcs_W1, pcs_N, pcs_Z, pcs_0, List.append_assoc, List.cons_append, List.nil_append]
  have hp := PG_step (PG_step PG_nil (st_wide (v := v 0) (by omega) (by omega))) (st_tough (W := v 0) (v := v 1) (by omega) (by omega))
  have g := lay_l44 hH (v 2) FU 0 M5 σ5 _ (by omega) (FU_lt (by omega)) ⟨⟨by rw [← et] at f2; exact f2.1, by rw [← et] at f2; have := f2.2; omega⟩, hp⟩
  rw [f_LW_lay]
  simp (disch := first | assumption | omega) only [z_bdn, z_caln, z_gdn, z_iT, z_iF, z_le_t, z_le_f, z_lt_t, z_lt_f, z_cl, z_inb, z_at, z_lit, nI_ii1, nI_add, z_mr, z_ref0, z_refn, z_eq_f, Bool.not_true, Bool.not_false, b2i_t, b2i_f, a1, e1, b1, c1, e3, d1, f1]
  exact g
end
