def anyb (p : Nat → Bool) : Nat → Bool
  | 0 => false
  | n + 1 => anyb p n || p n
theorem anyb_iff {p : Nat → Bool} {n : Nat} : anyb p n = true ↔ ∃ i, i < n ∧ p i = true := by
  induction n with
  | zero => simp [anyb]
  | succ n ih =>
    simp only [anyb, Bool.or_eq_true, ih]
    constructor
    · rintro (⟨i, h1, h2⟩ | h)
      · exact ⟨i, Nat.lt_succ_of_lt h1, h2⟩
      · exact ⟨n, Nat.lt_succ_self n, h⟩
    · rintro ⟨i, h1, h2⟩
      rcases Nat.lt_succ_iff_lt_or_eq.mp h1 with h3 | h3
      · exact Or.inl ⟨i, h3, h2⟩
      · subst h3; exact Or.inr h2
theorem anyb_none {p : Nat → Bool} {n : Nat} (h : ∀ i, i < n → p i = false) : anyb p n = false := by
  cases hq : anyb p n with
  | false => rfl
  | true => obtain ⟨i, h1, h2⟩ := anyb_iff.mp hq; rw [h i h1] at h2; cases h2
theorem anyb_some {p : Nat → Bool} {n i : Nat} (hi : i < n) (h : p i = true) : anyb p n = true := anyb_iff.mpr ⟨i, hi, h⟩
theorem anyb_congr {p q : Nat → Bool} {n : Nat} (h : ∀ i, i < n → p i = q i) : anyb p n = anyb q n := by
  induction n with
  | zero => rfl
  | succ n ih => unfold anyb; rw [ih (fun i hi => h i (Nat.lt_succ_of_lt hi)), h n (Nat.lt_succ_self n)]
theorem allb_congr {p q : Nat → Bool} {n : Nat} (h : ∀ i, i < n → p i = q i) : allb p n = allb q n := by
  induction n with
  | zero => rfl
  | succ n ih => unfold allb; rw [ih (fun i hi => h i (Nat.lt_succ_of_lt hi)), h n (Nat.lt_succ_self n)]
/-- how often a clause is said in a row; whether it is; whether anywhere -/
def tms (W : Nat) (len : Nat → Nat) (u kn ck : Nat → Int32) (cl row : Nat) : Nat := cnt (saidAt W (len cl) u kn ck cl row) W
theorem tms_le (W : Nat) (len : Nat → Nat) (u kn ck : Nat → Int32) (cl row : Nat) : tms W len u kn ck cl row ≤ W := cnt_le _ _
def sdIn (W : Nat) (len : Nat → Nat) (u kn ck : Nat → Int32) (cl row : Nat) : Bool := decide (0 < tms W len u kn ck cl row)
def sdAny (W R : Nat) (len : Nat → Nat) (u kn ck : Nat → Int32) (cl : Nat) : Bool := anyb (sdIn W len u kn ck cl) R
/-- a set as a number -/
def bitsN (p : Nat → Bool) : Nat → Int32
  | 0 => 0
  | n + 1 => if p n then bitsN p n ||| 1 <<< (nI n &&& 31) else bitsN p n
theorem bitsN_congr {p q : Nat → Bool} {n : Nat} (h : ∀ i, i < n → p i = q i) : bitsN p n = bitsN q n := by
  induction n with
  | zero => rfl
  | succ n ih => unfold bitsN; rw [ih (fun i hi => h i (Nat.lt_succ_of_lt hi)), h n (Nat.lt_succ_self n)]
theorem bitsN_or (p q : Nat → Bool) (n : Nat) : bitsN p n ||| bitsN q n = bitsN (fun i => p i || q i) n := by
  induction n with
  | zero => exact Int32.or_self
  | succ n ih =>
    unfold bitsN
    rw [← ih]
    cases hp : p n <;> cases hq : q n <;> simp only [Bool.or_false, Bool.or_true, Bool.or_self, if_true, if_false, Bool.false_eq_true]
    · rw [Int32.or_assoc]
    · rw [Int32.or_assoc, Int32.or_comm (1 <<< (nI n &&& 31)) (bitsN q n), Int32.or_assoc]
    · rw [Int32.or_assoc, ← Int32.or_assoc (1 <<< (nI n &&& 31)), Int32.or_comm (1 <<< (nI n &&& 31)) (bitsN q n), Int32.or_assoc (bitsN q n), Int32.or_self, Int32.or_assoc]
theorem bitsN_none (n : Nat) : bitsN (fun _ => false) n = 0 := by
  induction n with
  | zero => rfl
  | succ n ih => unfold bitsN; simp [ih]

theorem s_saidSetIn {w : kx_W} {d : Nat} {M : kx_M} {Q : Option Value → kx_M → Prop} {r dl W C row : Nat} {len : Nat → Nat} (hL : L_Cloth r) (hD : L_Deal dl) (hW : mI M r 5 = nI W) (hC : mI M dl 8 = nI C) (hlen : ∀ cl, cl < C → mA M (dl + 4) cl = nI (len cl) ∧ len cl ≤ 5) (b1 : W ≤ 8) (b3 : C ≤ 6) (b4 : row ≤ 11)
    (hQ : Q (some (.int (bitsN (fun cl => sdIn W len (mA M (r + 4)) (mA M (r + 2)) (mA M (dl + 5)) cl row) C))) M) : Ct w (d + 3) m_Cloth_saidSetIn [.ref r, .ref dl, .int (nI row)] M Q := by
  have hL0 := hL
  obtain ⟨hr, hr1, hr2, hr3, hr4, hr5⟩ := hL
  have hD0 := hD
  obtain ⟨hd0, hd1, hd2, hd3, hd4, hd5, hd6, hd7⟩ := hD
  refine mk_ct ok_Cloth_saidSetIn (Nat.le_of_ble_eq_true rfl) (fun G F => ?_)
  have loop : ∀ (k i : Nat) (a : Int32), i + k = C → a = bitsN (fun cl => sdIn W len (mA M (r + 4)) (mA M (r + 2)) (mA M (dl + 5)) cl row) i → G 5 [some (.ref r), some (.ref dl), some (.int (nI row)), some (.int a), some (.int (nI i))] [] M := by
    intro k
    induction k with
    | zero =>
      intro i a hi ha
      obtain rfl : i = C := by omega
      refine x_iload F.1 (i := 4) rfl rfl ?_
      refine x_aload_n F.1 (i := 5) rfl rfl ?_
      refine x_getI F.1 (i := 6) rfl fl_Cloth_98 (by first | assumption | rfl) (by rfl) ?_
      rw [hC]
      refine x_icmpn_ge F.1 (i := 7) (tgt := 38) rfl (by decide) (by omega) (by omega) (fun _ => ?_) (fun h9 => absurd (Nat.le_refl _) h9)
      refine x_iload_n F.1 (i := 22) rfl rfl ?_
      refine x_iret F (i := 23) rfl rfl ?_
      subst ha
      exact hQ
    | succ k ih =>
      intro i a hi ha
      refine x_iload F.1 (i := 4) rfl rfl ?_
      refine x_aload_n F.1 (i := 5) rfl rfl ?_
      refine x_getI F.1 (i := 6) rfl fl_Cloth_98 (by first | assumption | rfl) (by rfl) ?_
      rw [hC]
      refine x_icmpn_ge F.1 (i := 7) (tgt := 38) rfl (by decide) (by omega) (by omega) (fun h9 => absurd h9 (show ¬ C ≤ i by omega)) (fun _ => ?_)
      refine x_aload_n F.1 (i := 8) rfl rfl ?_
      refine x_aload_n F.1 (i := 9) rfl rfl ?_
      refine x_iload F.1 (i := 10) rfl rfl ?_
      refine x_iload_n F.1 (i := 11) rfl rfl ?_
      refine x_inV3 F.1 (i := 12) rfl ml_Cloth_94 ok_Cloth_timesIn (by first | assumption | rfl) (Nat.le_of_ble_eq_true rfl) (Nat.le_of_ble_eq_true rfl) (s_timesIn hL0 hD0 hW (hlen i (by omega)).1 b1 (hlen i (by omega)).2 (by omega) b4 ?_)
      have hc := cnt_le (saidAt W (len i) (mA M (r + 4)) (mA M (r + 2)) (mA M (dl + 5)) i row) W
      refine x_ifn_le F.1 (i := 13) (tgt := 32) rfl (by decide) (by omega) (fun h22 => ?_) (fun h22 => ?_)
      · refine x_iinc F.1 (i := 20) rfl rfl (nI_ii1 i) (Nat.le_of_ble_eq_true rfl) rfl ?_
        refine x_goto F.1 (i := 21) (tgt := 5) rfl (by decide) ?_
        exact x_wk F.1 (ih (i + 1) _ (by omega) (by simp [bitsN, sdIn, tms, h22, ha])) ⟨rfl, rfl, rfl, rfl, rfl, trivial⟩
      · refine x_iload_n F.1 (i := 14) rfl rfl ?_
        refine x_iconst F.1 (i := 15) rfl ic_1 ?_
        refine x_iload F.1 (i := 16) rfl rfl ?_
        refine x_ishl F.1 (i := 17) rfl ?_
        refine x_ior F.1 (i := 18) rfl ?_
        refine x_istore_n F.1 (i := 19) rfl (Nat.le_of_ble_eq_true rfl) (Nat.le_of_ble_eq_true rfl) rfl ?_
        refine x_iinc F.1 (i := 20) rfl rfl (nI_ii1 i) (Nat.le_of_ble_eq_true rfl) rfl ?_
        refine x_goto F.1 (i := 21) (tgt := 5) rfl (by decide) ?_
        exact x_wk F.1 (ih (i + 1) _ (by omega) (by simp [bitsN, sdIn, tms, h22, ha])) ⟨rfl, rfl, rfl, rfl, rfl, trivial⟩
  refine x_iconst F.1 (i := 0) rfl ic_0 ?_
  refine x_istore_n F.1 (i := 1) rfl (Nat.le_of_ble_eq_true rfl) (Nat.le_of_ble_eq_true rfl) rfl ?_
  refine x_iconst F.1 (i := 2) rfl ic_0 ?_
  refine x_istore F.1 (i := 3) rfl (Nat.le_of_ble_eq_true rfl) (Nat.le_of_ble_eq_true rfl) rfl ?_
  exact x_wk F.1 (loop C 0 0 (by omega) rfl) ⟨rfl, rfl, rfl, rfl, rfl, trivial⟩
theorem s_saidSet {w : kx_W} {d : Nat} {M : kx_M} {Q : Option Value → kx_M → Prop} {r dl W R C : Nat} {len : Nat → Nat} (hL : L_Cloth r) (hD : L_Deal dl) (hW : mI M r 5 = nI W) (hC : mI M dl 8 = nI C) (hlen : ∀ cl, cl < C → mA M (dl + 4) cl = nI (len cl) ∧ len cl ≤ 5) (b1 : W ≤ 8) (b3 : C ≤ 6) (hR : mI M r 7 = nI R) (b4 : R ≤ 12)
    (hQ : Q (some (.int (bitsN (sdAny W R len (mA M (r + 4)) (mA M (r + 2)) (mA M (dl + 5))) C))) M) : Ct w (d + 4) m_Cloth_saidSet [.ref r, .ref dl] M Q := by
  have hL0 := hL
  obtain ⟨hr, hr1, hr2, hr3, hr4, hr5⟩ := hL
  have hD0 := hD
  obtain ⟨hd0, hd1, hd2, hd3, hd4, hd5, hd6, hd7⟩ := hD
  refine mk_ct ok_Cloth_saidSet (Nat.le_of_ble_eq_true rfl) (fun G F => ?_)
  have loop : ∀ (k i : Nat) (a : Int32), i + k = R → a = bitsN (fun cl => sdAny W i len (mA M (r + 4)) (mA M (r + 2)) (mA M (dl + 5)) cl) C → G 4 [some (.ref r), some (.ref dl), some (.int a), some (.int (nI i))] [] M := by
    intro k
    induction k with
    | zero =>
      intro i a hi ha
      obtain rfl : i = R := by omega
      refine x_iload_n F.1 (i := 4) rfl rfl ?_
      refine x_aload_n F.1 (i := 5) rfl rfl ?_
      refine x_getI F.1 (i := 6) rfl fl_Cloth_34 (by first | assumption | rfl) (by rfl) ?_
      rw [hR]
      refine x_icmpn_ge F.1 (i := 7) (tgt := 27) rfl (by decide) (by omega) (by omega) (fun _ => ?_) (fun h9 => absurd (Nat.le_refl _) h9)
      refine x_iload_n F.1 (i := 17) rfl rfl ?_
      refine x_iret F (i := 18) rfl rfl ?_
      subst ha
      exact hQ
    | succ k ih =>
      intro i a hi ha
      refine x_iload_n F.1 (i := 4) rfl rfl ?_
      refine x_aload_n F.1 (i := 5) rfl rfl ?_
      refine x_getI F.1 (i := 6) rfl fl_Cloth_34 (by first | assumption | rfl) (by rfl) ?_
      rw [hR]
      refine x_icmpn_ge F.1 (i := 7) (tgt := 27) rfl (by decide) (by omega) (by omega) (fun h9 => absurd h9 (show ¬ R ≤ i by omega)) (fun _ => ?_)
      refine x_iload_n F.1 (i := 8) rfl rfl ?_
      refine x_aload_n F.1 (i := 9) rfl rfl ?_
      refine x_aload_n F.1 (i := 10) rfl rfl ?_
      refine x_iload_n F.1 (i := 11) rfl rfl ?_
      refine x_inV2 F.1 (i := 12) rfl ml_Cloth_101 ok_Cloth_saidSetIn (by first | assumption | rfl) (Nat.le_of_ble_eq_true rfl) (Nat.le_of_ble_eq_true rfl) (s_saidSetIn hL0 hD0 hW hC hlen b1 b3 (by omega) ?_)
      refine x_ior F.1 (i := 13) rfl ?_
      refine x_istore_n F.1 (i := 14) rfl (Nat.le_of_ble_eq_true rfl) (Nat.le_of_ble_eq_true rfl) rfl ?_
      refine x_iinc F.1 (i := 15) rfl rfl (nI_ii1 i) (Nat.le_of_ble_eq_true rfl) rfl ?_
      refine x_goto F.1 (i := 16) (tgt := 4) rfl (by decide) ?_
      exact x_wk F.1 (ih (i + 1) _ (by omega) (by rw [ha, bitsN_or]; rfl)) ⟨rfl, rfl, rfl, rfl, trivial⟩
  refine x_iconst F.1 (i := 0) rfl ic_0 ?_
  refine x_istore_n F.1 (i := 1) rfl (Nat.le_of_ble_eq_true rfl) (Nat.le_of_ble_eq_true rfl) rfl ?_
  refine x_iconst F.1 (i := 2) rfl ic_0 ?_
  refine x_istore_n F.1 (i := 3) rfl (Nat.le_of_ble_eq_true rfl) (Nat.le_of_ble_eq_true rfl) rfl ?_
  exact x_wk F.1 (loop R 0 0 (by omega) (bitsN_none C).symm) ⟨rfl, rfl, rfl, rfl, trivial⟩
