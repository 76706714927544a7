/-! ## writing and reading the memory -/
theorem mA_eq {M : kx_M} {i : Nat} {f : Nat → Int32} : mA (sA M i f) i = f := u1_at
theorem mA_ne {M : kx_M} {i j : Nat} {f : Nat → Int32} (h : j ≠ i) : mA (sA M i f) j = mA M j := u1_n h
theorem mB_eq {M : kx_M} {i : Nat} {f : Nat → Int64} : mB (sB M i f) i = f := u1_at
theorem mB_ne {M : kx_M} {i j : Nat} {f : Nat → Int64} (h : j ≠ i) : mB (sB M i f) j = mB M j := u1_n h
theorem mI_eq {M : kx_M} {i k : Nat} {v : Int32} : mI (sI M i k v) i k = v := u2_at
theorem mI_ni {M : kx_M} {i k j l : Nat} {v : Int32} (h : j ≠ i) : mI (sI M i k v) j l = mI M j l := u2_ni h
theorem mI_nk {M : kx_M} {i k j l : Nat} {v : Int32} (h : l ≠ k) : mI (sI M i k v) j l = mI M j l := u2_nk h
theorem u1_u1 {α : Type} {f : Nat → α} {i : Nat} {v u : α} : u1 (u1 f i v) i u = u1 f i u := by funext a; simp only [u1]; split <;> rfl
theorem u1_self {α : Type} {f : Nat → α} {i : Nat} : u1 f i (f i) = f := by funext a; simp only [u1]; split; next h => rw [h]; next => rfl
theorem u1_comm {α : Type} {f : Nat → α} {i j : Nat} {v u : α} (h : i ≠ j) : u1 (u1 f i v) j u = u1 (u1 f j u) i v := by
  funext a
  simp only [u1]
  by_cases h1 : a = j
  · by_cases h2 : a = i
    · exact absurd (h2.symm.trans h1) h
    · simp [h1, Ne.symm h]
  · simp [h1]
theorem sA_sA {M : kx_M} {i : Nat} {f g : Nat → Int32} : sA (sA M i f) i g = sA M i g := by unfold sA; simp only [u1_u1]
theorem sA_self {M : kx_M} {i : Nat} : sA M i (mA M i) = M := by unfold sA mA; simp only [u1_self]
theorem sA_comm {M : kx_M} {i j : Nat} {f g : Nat → Int32} (h : i ≠ j) : sA (sA M i f) j g = sA (sA M j g) i f := by unfold sA; simp only [u1_comm h]
theorem sB_sB {M : kx_M} {i : Nat} {f g : Nat → Int64} : sB (sB M i f) i g = sB M i g := by unfold sB; simp only [u1_u1]
theorem sB_self {M : kx_M} {i : Nat} : sB M i (mB M i) = M := by unfold sB mB; simp only [u1_self]
theorem mI_sA {M : kx_M} {i : Nat} {f : Nat → Int32} : mI (sA M i f) = mI M := rfl
theorem mA_sI {M : kx_M} {i k : Nat} {v : Int32} : mA (sI M i k v) = mA M := rfl
/-! ## what years, moths, pulls do -/
def looseB (un dn : Nat → Int32) (p : Nat) : Bool := decide (un p = 0) && decide (dn p = 0)
def gapc (kn un : Nat → Int32) (W row c : Nat) : Int32 := if c < W then (if kn (8 * row + c) = 3 ∨ un (8 * row + c) = 1 then 1 else 0) else 0
def gapL (kn un : Nat → Int32) (W row : Nat) : Nat → Int32
  | 0 => 0
  | i + 1 => gapc kn un W row i
def wmin (a b : Int32) : Int32 := if a + b < 99 then a + b else 99
def wearN (kn un dn wn : Nat → Int32) (W row : Nat) : Nat → (Nat → Int32)
  | 0 => wn
  | i + 1 => if looseB un dn (8 * row + i) = true then upd (wearN kn un dn wn W row i) (8 * row + i) (wmin (wearN kn un dn wn W row i (8 * row + i)) (1 + gapL kn un W row i + gapc kn un W row (i + 1))) else wearN kn un dn wn W row i
def openN (dn wn un : Nat → Int32) (tough : Int32) (row : Nat) : Nat → Int32 × (Nat → Int32)
  | 0 => (0, un)
  | i + 1 => if looseB (openN dn wn un tough row i).2 dn (8 * row + i) = true ∧ tough ≤ wn (8 * row + i) then ((openN dn wn un tough row i).1 + 1, upd (openN dn wn un tough row i).2 (8 * row + i) 1) else openN dn wn un tough row i
def ladX (kn dn : Nat → Int32) (row : Nat) (s : Int32 × (Nat → Int32)) : Nat → Int32 × (Nat → Int32)
  | 0 => s
  | x + 1 => if kn (8 * row + x) = 0 ∧ looseB (ladX kn dn row s x).2 dn (8 * row + x) = true ∧ (ladX kn dn row s x).2 (8 * row + x - 8) = 1 then ((ladX kn dn row s x).1 + 1, upd (ladX kn dn row s x).2 (8 * row + x) 1) else ladX kn dn row s x
/-- the ladders of the rows 1 .. j -/
def ladR (kn dn : Nat → Int32) (W : Nat) (s : Int32 × (Nat → Int32)) : Nat → Int32 × (Nat → Int32)
  | 0 => s
  | j + 1 => ladX kn dn (j + 1) (ladR kn dn W s j) W
def lads (kn dn : Nat → Int32) (W R : Nat) (s : Int32 × (Nat → Int32)) : Int32 × (Nat → Int32) := if s.1 = 0 then s else ladR kn dn W s (R - 1)
def pullN (kn dn : Nat → Int32) (pos : Nat → Nat) : Nat → Nat → Int32 × (Nat → Int32) → Int32 × (Nat → Int32)
  | 0, _, s => s
  | k + 1, i, s => if s.2 (pos i) = 0 then (if dn (pos i) = 1 ∨ kn (pos i) = 2 then s else pullN kn dn pos k (i + 1) (s.1 + 1, upd s.2 (pos i) 1)) else pullN kn dn pos k (i + 1) s
def posN (W row : Nat) (side : Int32) (i : Nat) : Nat := 8 * row + (if side = 0 then i else W - 1 - i)

theorem s_gapc {w : kx_W} {d : Nat} {M : kx_M} {Q : Option Value → kx_M → Prop} {r W row c : Nat} (hL : L_Cloth r) (hW : mI M r 5 = nI W) (b1 : W ≤ 8) (b4 : row ≤ 11) (b5 : c ≤ 8)
    (hQ : Q (some (.int (gapc (mA M (r + 2)) (mA M (r + 4)) W row c))) M) : Ct w d m_Cloth_gapAt [.ref r, .int (nI row), .int (nI c)] M Q := by
  have hL0 := hL
  obtain ⟨hr, hr1, hr2, hr3, hr4, hr5⟩ := hL
  refine mk_ct ok_Cloth_gapAt (Nat.le_of_ble_eq_true rfl) (fun G F => ?_)
  refine x_iload_n F.1 (i := 0) rfl rfl ?_
  refine x_ifn_lt F.1 (i := 1) (tgt := 12) rfl (by decide) (by omega) (fun h9 => absurd h9 not_false) (fun _ => ?_)
  refine x_iload_n F.1 (i := 2) rfl rfl ?_
  refine x_aload_n F.1 (i := 3) rfl rfl ?_
  refine x_getI F.1 (i := 4) rfl fl_Cloth_27 (by first | assumption | rfl) (by rfl) ?_
  rw [hW]
  refine x_icmpn_lt F.1 (i := 5) (tgt := 14) rfl (by decide) (by omega) (by omega) (fun h9 => ?_) (fun h9 => ?_)
  · refine x_iload_n F.1 (i := 8) rfl rfl ?_
    refine x_bipush F.1 (i := 9) rfl bp_8 ?_
    refine x_imul F.1 (i := 10) rfl ?_
    refine x_iload_n F.1 (i := 11) rfl rfl ?_
    refine x_iadd F.1 (i := 12) rfl ?_
    refine x_nm (v' := nI (8 * row + c)) (by first | rfl | (simp only [nI_lit, nI_add, nI_mul, nI_ii1]; done) | (simp only [nI_lit, nI_add, nI_mul, nI_ii1]; congr 1; omega)) ?_
    refine x_istore_n F.1 (i := 13) rfl (Nat.le_of_ble_eq_true rfl) (Nat.le_of_ble_eq_true rfl) rfl ?_
    refine x_aload_n F.1 (i := 14) rfl rfl ?_
    refine x_getC F.1 (i := 15) rfl fl_Cloth_15 (by first | assumption | rfl) (by rfl) ?_
    refine x_iload_n F.1 (i := 16) rfl rfl ?_
    refine x_ialdn F.1 (i := 17) rfl (by first | assumption | rfl) (by omega) (by decide) ?_
    refine x_iconst F.1 (i := 18) rfl ic_3 ?_
    refine x_icmp_eq F.1 (i := 19) (tgt := 41) rfl (by decide) (fun h28 => ?_) (fun h28 => ?_)
    · refine x_iconst F.1 (i := 26) rfl ic_1 ?_
      refine x_goto F.1 (i := 27) (tgt := 46) rfl (by decide) ?_
      first
        | (have e : gapc (mA M (r + 2)) (mA M (r + 4)) W row c = 1 := (by unfold gapc; rw [if_pos (by omega), if_pos (by first | exact Or.inl h28 | exact Or.inr h38)])
           rw [e] at hQ)
        | (have e : gapc (mA M (r + 2)) (mA M (r + 4)) W row c = 0 := (by unfold gapc; rw [if_pos (by omega), if_neg (by rintro (h | h); exact h28 h; exact h38 h)])
           rw [e] at hQ)
      refine x_iret F (i := 29) rfl rfl ?_
      exact hQ
    · refine x_aload_n F.1 (i := 20) rfl rfl ?_
      refine x_getC F.1 (i := 21) rfl fl_Cloth_21 (by first | assumption | rfl) (by rfl) ?_
      refine x_iload_n F.1 (i := 22) rfl rfl ?_
      refine x_ialdn F.1 (i := 23) rfl (by first | assumption | rfl) (by omega) (by decide) ?_
      refine x_iconst F.1 (i := 24) rfl ic_1 ?_
      refine x_icmp_ne F.1 (i := 25) (tgt := 45) rfl (by decide) (fun h38 => ?_) (fun h38 => ?_)
      · refine x_iconst F.1 (i := 28) rfl ic_0 ?_
        first
          | (have e : gapc (mA M (r + 2)) (mA M (r + 4)) W row c = 1 := (by unfold gapc; rw [if_pos (by omega), if_pos (by first | exact Or.inl h28 | exact Or.inr h38)])
             rw [e] at hQ)
          | (have e : gapc (mA M (r + 2)) (mA M (r + 4)) W row c = 0 := (by unfold gapc; rw [if_pos (by omega), if_neg (by rintro (h | h); exact h28 h; exact h38 h)])
             rw [e] at hQ)
        refine x_iret F (i := 29) rfl rfl ?_
        exact hQ
      · refine x_iconst F.1 (i := 26) rfl ic_1 ?_
        refine x_goto F.1 (i := 27) (tgt := 46) rfl (by decide) ?_
        first
          | (have e : gapc (mA M (r + 2)) (mA M (r + 4)) W row c = 1 := (by unfold gapc; rw [if_pos (by omega), if_pos (by first | exact Or.inl h28 | exact Or.inr h38)])
             rw [e] at hQ)
          | (have e : gapc (mA M (r + 2)) (mA M (r + 4)) W row c = 0 := (by unfold gapc; rw [if_pos (by omega), if_neg (by rintro (h | h); exact h28 h; exact h38 h)])
             rw [e] at hQ)
        refine x_iret F (i := 29) rfl rfl ?_
        exact hQ
  · refine x_iconst F.1 (i := 6) rfl ic_0 ?_
    have e : gapc (mA M (r + 2)) (mA M (r + 4)) W row c = 0 := by unfold gapc; rw [if_neg (by omega)]
    rw [e] at hQ
    refine x_iret F (i := 7) rfl rfl ?_
    exact hQ
theorem s_gapL {w : kx_W} {d : Nat} {M : kx_M} {Q : Option Value → kx_M → Prop} {r W row i : Nat} (hL : L_Cloth r) (hW : mI M r 5 = nI W) (b1 : W ≤ 8) (b4 : row ≤ 11) (b5 : i ≤ 8) (hQ : Q (some (.int (gapL (mA M (r + 2)) (mA M (r + 4)) W row i))) M) : Ct w d m_Cloth_gapAt [.ref r, .int (nI row), .int (nI i - 1)] M Q := by
  cases i with
  | zero =>
    obtain ⟨hr, hr1, hr2, hr3, hr4, hr5⟩ := hL
    refine mk_ct ok_Cloth_gapAt (Nat.le_of_ble_eq_true rfl) (fun G F => ?_)
    refine x_iload_n F.1 (i := 0) rfl rfl ?_
    refine x_if_lt F.1 (i := 1) (tgt := 12) rfl (by decide) (fun _ => ?_) (fun h9 => absurd (by decide) h9)
    refine x_iconst F.1 (i := 6) rfl ic_0 ?_
    refine x_iret F (i := 7) rfl rfl ?_
    exact hQ
  | succ i =>
    rw [nI_pred]
    exact s_gapc hL hW b1 b4 (by omega) hQ
theorem s_loose {w : kx_W} {d : Nat} {M : kx_M} {Q : Option Value → kx_M → Prop} {r p : Nat} (hL : L_Cloth r) (b1 : p < 96)
    (hQ : Q (some (.int (b2i (looseB (mA M (r + 4)) (mA M (r + 5)) p)))) M) : Ct w d m_Cloth_loose [.ref r, .int (nI p)] M Q := by
  have hL0 := hL
  obtain ⟨hr, hr1, hr2, hr3, hr4, hr5⟩ := hL
  refine mk_ct ok_Cloth_loose (Nat.le_of_ble_eq_true rfl) (fun G F => ?_)
  refine x_aload_n F.1 (i := 0) rfl rfl ?_
  refine x_getC F.1 (i := 1) rfl fl_Cloth_21 (by first | assumption | rfl) (by rfl) ?_
  refine x_iload_n F.1 (i := 2) rfl rfl ?_
  refine x_ialdn F.1 (i := 3) rfl (by first | assumption | rfl) (by omega) (by decide) ?_
  refine x_if_ne F.1 (i := 4) (tgt := 22) rfl (by decide) (fun h6 => ?_) (fun h6 => ?_)
  · refine x_iconst F.1 (i := 12) rfl ic_0 ?_
    refine x_zret F (i := 13) rfl rfl (by first | exact Or.inl rfl | exact Or.inr rfl | assumption) ?_
    first
      | (have e : looseB (mA M (r + 4)) (mA M (r + 5)) p = true := (by simp only [looseB, h6, h15]; rfl)
         rw [e] at hQ
         exact hQ)
      | (have e : looseB (mA M (r + 4)) (mA M (r + 5)) p = false := (by first | (simp only [looseB, h6]; rfl) | (simp [looseB, h6, h15]; done) | (simp [looseB, h6]; done))
         rw [e] at hQ
         exact hQ)
  · refine x_aload_n F.1 (i := 5) rfl rfl ?_
    refine x_getC F.1 (i := 6) rfl fl_Cloth_24 (by first | assumption | rfl) (by rfl) ?_
    refine x_iload_n F.1 (i := 7) rfl rfl ?_
    refine x_ialdn F.1 (i := 8) rfl (by first | assumption | rfl) (by omega) (by decide) ?_
    refine x_if_ne F.1 (i := 9) (tgt := 22) rfl (by decide) (fun h15 => ?_) (fun h15 => ?_)
    · refine x_iconst F.1 (i := 12) rfl ic_0 ?_
      refine x_zret F (i := 13) rfl rfl (by first | exact Or.inl rfl | exact Or.inr rfl | assumption) ?_
      first
        | (have e : looseB (mA M (r + 4)) (mA M (r + 5)) p = true := (by simp only [looseB, h6, h15]; rfl)
           rw [e] at hQ
           exact hQ)
        | (have e : looseB (mA M (r + 4)) (mA M (r + 5)) p = false := (by first | (simp only [looseB, h6]; rfl) | (simp [looseB, h6, h15]; done) | (simp [looseB, h6]; done))
           rw [e] at hQ
           exact hQ)
    · refine x_iconst F.1 (i := 10) rfl ic_1 ?_
      refine x_goto F.1 (i := 11) (tgt := 23) rfl (by decide) ?_
      refine x_zret F (i := 13) rfl rfl (by first | exact Or.inl rfl | exact Or.inr rfl | assumption) ?_
      first
        | (have e : looseB (mA M (r + 4)) (mA M (r + 5)) p = true := (by simp only [looseB, h6, h15]; rfl)
           rw [e] at hQ
           exact hQ)
        | (have e : looseB (mA M (r + 4)) (mA M (r + 5)) p = false := (by first | (simp only [looseB, h6]; rfl) | (simp [looseB, h6, h15]; done) | (simp [looseB, h6]; done))
           rw [e] at hQ
           exact hQ)
theorem s_wearRow {w : kx_W} {d : Nat} {M : kx_M} {Q : Option Value → kx_M → Prop} {r W row : Nat} (hL : L_Cloth r) (hW : mI M r 5 = nI W) (b1 : W ≤ 8) (b4 : row ≤ 11)
    (hQ : Q (none) (sA M (r + 3) (wearN (mA M (r + 2)) (mA M (r + 4)) (mA M (r + 5)) (mA M (r + 3)) W row W))) : Ct w (d + 1) m_Cloth_wearRow [.ref r, .int (nI row)] M Q := by
  have hL0 := hL
  obtain ⟨hr, hr1, hr2, hr3, hr4, hr5⟩ := hL
  refine mk_ct ok_Cloth_wearRow (Nat.le_of_ble_eq_true rfl) (fun G F => ?_)
  have loop : ∀ (k i : Nat) (M' : kx_M), i + k = W → M' = sA M (r + 3) (wearN (mA M (r + 2)) (mA M (r + 4)) (mA M (r + 5)) (mA M (r + 3)) W row i) → G 2 [some (.ref r), some (.int (nI row)), some (.int (nI i)), none, none] [] M' := by
    intro k
    induction k with
    | zero =>
      intro i M' hi hM
      obtain rfl : i = W := by omega
      refine x_iload_n F.1 (i := 2) rfl rfl ?_
      refine x_aload_n F.1 (i := 3) rfl rfl ?_
      refine x_getI F.1 (i := 4) rfl fl_Cloth_27 (by first | assumption | rfl) (by rfl) ?_
      rw [show mI M' r 5 = nI W from by rw [hM]; exact hW]
      refine x_icmpn_ge F.1 (i := 5) (tgt := 71) rfl (by decide) (by omega) (by omega) (fun _ => ?_) (fun h9 => absurd (Nat.le_refl _) h9)
      refine x_vret F (i := 44) rfl rfl ?_
      subst hM
      exact hQ
    | succ k ih =>
      intro i M' hi hM
      have hk : mA M' (r + 2) = mA M (r + 2) := by rw [hM]; first | rw [mA_ne (by omega)] | rw [mA_ne (by omega), mA_ne (by omega)]
      have hd : mA M' (r + 5) = mA M (r + 5) := by rw [hM]; first | rw [mA_ne (by omega)] | rw [mA_ne (by omega), mA_ne (by omega)]
      have hu : mA M' (r + 4) = mA M (r + 4) := by rw [hM, mA_ne (by omega)]
      have hw : mA M' (r + 3) = wearN (mA M (r + 2)) (mA M (r + 4)) (mA M (r + 5)) (mA M (r + 3)) W row i := by rw [hM, mA_eq]
      have hW' : mI M' r 5 = nI W := by rw [hM]; exact hW
      refine x_iload_n F.1 (i := 2) rfl rfl ?_
      refine x_aload_n F.1 (i := 3) rfl rfl ?_
      refine x_getI F.1 (i := 4) rfl fl_Cloth_27 (by first | assumption | rfl) (by rfl) ?_
      rw [show mI M' r 5 = nI W from by rw [hM]; exact hW]
      refine x_icmpn_ge F.1 (i := 5) (tgt := 71) rfl (by decide) (by omega) (by omega) (fun h9 => absurd h9 (show ¬ W ≤ i by omega)) (fun _ => ?_)
      refine x_iload_n F.1 (i := 6) rfl rfl ?_
      refine x_iload_n F.1 (i := 7) rfl rfl ?_
      refine x_inS2 F.1 (i := 8) rfl ml_Cloth_46 ok_Cloth_at (Nat.le_of_ble_eq_true rfl) (Nat.le_of_ble_eq_true rfl) (mk_ct ok_Cloth_at (Nat.le_of_ble_eq_true rfl) (fun G1 F1 => ?_))
      refine x_iload_n F1.1 (i := 0) rfl rfl ?_
      refine x_bipush F1.1 (i := 1) rfl bp_8 ?_
      refine x_imul F1.1 (i := 2) rfl ?_
      refine x_iload_n F1.1 (i := 3) rfl rfl ?_
      refine x_iadd F1.1 (i := 4) rfl ?_
      refine x_iret F1 (i := 5) rfl rfl ?_
      refine x_nm (v' := nI (8 * row + i)) (by first | rfl | (simp only [nI_lit, nI_add, nI_mul, nI_ii1]; done) | (simp only [nI_lit, nI_add, nI_mul, nI_ii1]; congr 1; omega)) ?_
      refine x_istore_n F.1 (i := 9) rfl (Nat.le_of_ble_eq_true rfl) (Nat.le_of_ble_eq_true rfl) rfl ?_
      refine x_aload_n F.1 (i := 10) rfl rfl ?_
      refine x_iload_n F.1 (i := 11) rfl rfl ?_
      refine x_inV1 F.1 (i := 12) rfl ml_Cloth_61 ok_Cloth_loose (by first | assumption | rfl) (Nat.le_of_ble_eq_true rfl) (Nat.le_of_ble_eq_true rfl) (s_loose hL0 (by omega) ?_)
      refine x_ifb_eq F.1 (i := 13) (tgt := 65) rfl (by decide) (fun h21 => ?_) (fun h21 => ?_)
      · refine x_iinc F.1 (i := 42) rfl rfl (nI_ii1 i) (Nat.le_of_ble_eq_true rfl) rfl ?_
        refine x_goto F.1 (i := 43) (tgt := 2) rfl (by decide) ?_
        exact x_wk F.1 (ih (i + 1) _ (by omega) (by first | (rw [hu, hd] at h21; simp only [wearN, h21, if_true, if_false, hk, hu, hw, Bool.false_eq_true]; rw [hM, sA_sA]) | (rw [hu, hd] at h21; simp only [wearN, h21, if_true, if_false, hk, hu, hw, Bool.false_eq_true]; exact hM))) ⟨rfl, rfl, rfl, trivial⟩
      · refine x_iconst F.1 (i := 14) rfl ic_1 ?_
        refine x_aload_n F.1 (i := 15) rfl rfl ?_
        refine x_iload_n F.1 (i := 16) rfl rfl ?_
        refine x_iload_n F.1 (i := 17) rfl rfl ?_
        refine x_iconst F.1 (i := 18) rfl ic_1 ?_
        refine x_isub F.1 (i := 19) rfl ?_
        refine x_inV2 F.1 (i := 20) rfl ml_Cloth_76 ok_Cloth_gapAt (by first | assumption | rfl) (Nat.le_of_ble_eq_true rfl) (Nat.le_of_ble_eq_true rfl) (s_gapL hL0 hW' b1 b4 (by omega) ?_)
        refine x_iadd F.1 (i := 21) rfl ?_
        refine x_aload_n F.1 (i := 22) rfl rfl ?_
        refine x_iload_n F.1 (i := 23) rfl rfl ?_
        refine x_iload_n F.1 (i := 24) rfl rfl ?_
        refine x_iconst F.1 (i := 25) rfl ic_1 ?_
        refine x_iadd F.1 (i := 26) rfl ?_
        refine x_nm (v' := nI (i + 1)) (nI_1 i) ?_
        refine x_inV2 F.1 (i := 27) rfl ml_Cloth_76 ok_Cloth_gapAt (by first | assumption | rfl) (Nat.le_of_ble_eq_true rfl) (Nat.le_of_ble_eq_true rfl) (s_gapc hL0 hW' b1 b4 (by omega) ?_)
        refine x_iadd F.1 (i := 28) rfl ?_
        refine x_istore F.1 (i := 29) rfl (Nat.le_of_ble_eq_true rfl) (Nat.le_of_ble_eq_true rfl) rfl ?_
        refine x_aload_n F.1 (i := 30) rfl rfl ?_
        refine x_getC F.1 (i := 31) rfl fl_Cloth_18 (by first | assumption | rfl) (by rfl) ?_
        refine x_iload_n F.1 (i := 32) rfl rfl ?_
        refine x_bipush F.1 (i := 33) rfl bp_99 ?_
        refine x_aload_n F.1 (i := 34) rfl rfl ?_
        refine x_getC F.1 (i := 35) rfl fl_Cloth_18 (by first | assumption | rfl) (by rfl) ?_
        refine x_iload_n F.1 (i := 36) rfl rfl ?_
        refine x_ialdn F.1 (i := 37) rfl (by first | assumption | rfl) (by omega) (by decide) ?_
        refine x_iload F.1 (i := 38) rfl rfl ?_
        refine x_iadd F.1 (i := 39) rfl ?_
        refine x_mmin F.1 (i := 40) rfl jm_Cloth_79 (Nat.le_of_ble_eq_true rfl) ?_
        refine x_iastn F.1 (i := 41) rfl (by first | assumption | rfl) (by omega) (by decide) ?_
        refine x_iinc F.1 (i := 42) rfl rfl (nI_ii1 i) (Nat.le_of_ble_eq_true rfl) rfl ?_
        refine x_goto F.1 (i := 43) (tgt := 2) rfl (by decide) ?_
        exact x_wk F.1 (ih (i + 1) _ (by omega) (by first | (rw [hu, hd] at h21; simp only [wearN, h21, if_true, if_false, hk, hu, hw, Bool.false_eq_true]; rw [hM, sA_sA]) | (rw [hu, hd] at h21; simp only [wearN, h21, if_true, if_false, hk, hu, hw, Bool.false_eq_true]; exact hM))) ⟨rfl, rfl, rfl, trivial⟩
  refine x_iconst F.1 (i := 0) rfl ic_0 ?_
  refine x_istore_n F.1 (i := 1) rfl (Nat.le_of_ble_eq_true rfl) (Nat.le_of_ble_eq_true rfl) rfl ?_
  exact x_wk F.1 (loop W 0 M (by omega) sA_self.symm) ⟨rfl, rfl, rfl, trivial⟩
