/-! ## the worst pull, the fewest to darn, when it is lost, the best bargain: what they say -/
def cjN (x : Cl) (j : Nat) : Nat := (pulU x (j / 2) (j % 2)).2
def wjI (j : Nat) : Int32 := nI (10 * (j / 2) + j % 2)
def WPI (x : Cl) (k : Nat) (s : Wp) : Prop := (k = 0 ∧ s = (-nI 1, -nI 1)) ∨ ∃ j, j < k ∧ s = (wjI j, nI (cjN x j)) ∧ ∀ i, i < k → cjN x i ≤ cjN x j
theorem cjN_le {x : Cl} (hO : OkC x) (j : Nat) : cjN x j ≤ 96 := pulU_n hO _ _
theorem WPI_s {x : Cl} (hO : OkC x) {k : Nat} {s : Wp} (h : WPI x k s) : WPI x (k + 1) (wpS x k s) := by
  rcases h with ⟨rfl, rfl⟩ | ⟨j, hj, rfl, hm⟩
  · refine Or.inr ⟨0, by omega, wp_first hO (-nI 1) 0, fun i hi => ?_⟩
    have : i = 0 := by omega
    rw [this]; exact Nat.le_refl _
  · have h1 := cjN_le hO k
    have h2 := cjN_le hO j
    by_cases hlt : cjN x j < cjN x k
    · refine Or.inr ⟨k, by omega, ?_, fun i hi => ?_⟩
      · unfold wpS
        exact if_pos (show nI (cjN x j) < nI (cjN x k) from nI_lt hlt (by omega))
      · by_cases e : i = k
        · rw [e]; exact Nat.le_refl _
        · have := hm i (by omega); omega
    · refine Or.inr ⟨j, by omega, ?_, fun i hi => ?_⟩
      · unfold wpS
        exact if_neg (show ¬ nI (cjN x j) < nI (cjN x k) from nI_nlt (by omega) (by omega))
      · by_cases e : i = k
        · rw [e]; omega
        · exact hm i (by omega)
theorem WPI_F {x : Cl} (hO : OkC x) : ∀ (m k : Nat) (s : Wp), WPI x k s → WPI x (k + m) (wpF x m k s)
  | 0, _, _, h => h
  | m + 1, k, s, h => by
    have := WPI_F hO m (k + 1) _ (WPI_s hO h)
    rw [show k + 1 + m = k + (m + 1) by omega] at this
    exact this
theorem wp_max {x : Cl} (hO : OkC x) (h : 0 < cR x) : ∃ j, j < 2 * cR x ∧ (wpF x (2 * cR x) 0 (-nI 1, -nI 1)).1 = wjI j ∧ ∀ i, i < 2 * cR x → cjN x i ≤ cjN x j := by
  rcases WPI_F hO (2 * cR x) 0 _ (Or.inl ⟨rfl, rfl⟩) with ⟨h0, -⟩ | ⟨j, hj, he, hm⟩
  · omega
  · rw [Nat.zero_add] at hj hm
    exact ⟨j, hj, by rw [he], hm⟩
theorem wj_parts : ∀ j, j < 24 → wjI j / (10 : Int32) = nI (j / 2) ∧ wjI j - wjI j / (10 : Int32) * (10 : Int32) = nI (j % 2) := by decide +kernel
/-! MEND -/
def ptP (p : Nat → Bool) (r : Nat) : Nat → Nat → Cl → Cl
  | 0, _, z => z
  | m + 1, i, z => ptP p r m (i + 1) (if p i = true then patX z (8 * r + i) else z)
theorem ptP_F (r S : Nat) : ∀ (m i : Nat) (z : Cl), ptP (fun i => S.testBit i) r m i z = ptF r S m i z
  | 0, _, _ => rfl
  | m + 1, i, z => ptP_F r S m (i + 1) _
theorem ptP_congr {p q : Nat → Bool} {r : Nat} : ∀ (m i : Nat) (z : Cl), (∀ j, i ≤ j → j < i + m → p j = q j) → ptP p r m i z = ptP q r m i z
  | 0, _, _, _ => rfl
  | m + 1, i, z, h => by
    show ptP p r m (i + 1) (if p i = true then _ else _) = ptP q r m (i + 1) (if q i = true then _ else _)
    rw [h i (Nat.le_refl _) (by omega)]
    exact ptP_congr m (i + 1) _ (fun j h1 h2 => h j (by omega) (by omega))
def MDI (x : Cl) (y : De) (k r side S : Nat) : Option Nat → Prop
  | none => ∀ S', S' < S → mnB x y k r side S' = false
  | some B => B < S ∧ mnB x y k r side B = true ∧ ∀ S', S' < S → mnB x y k r side S' = true → pcN B ≤ pcN S'
theorem MDI_F {x : Cl} {y : De} {k r side : Nat} : ∀ (m S : Nat) (b : Option Nat), MDI x y k r side S b → MDI x y k r side (S + m) (mdF x y k r side m S b)
  | 0, _, _, h => by
    unfold mdF
    exact h
  | m + 1, S, none, h => by
    have e : S + (m + 1) = S + 1 + m := by omega
    rw [e]
    cases hv : mnB x y k r side S with
    | true =>
      rw [mdF_n hv, if_pos rfl]
      refine MDI_F m (S + 1) (some S) ⟨by omega, hv, fun S' h1 h2 => ?_⟩
      by_cases e2 : S' = S
      · rw [e2]; exact Nat.le_refl _
      · rw [h S' (by omega)] at h2; cases h2
    | false =>
      rw [mdF_n hv, if_neg (by decide)]
      refine MDI_F m (S + 1) none (fun S' h1 => ?_)
      by_cases e2 : S' = S
      · rw [e2]; exact hv
      · exact h S' (by omega)
  | m + 1, S, some b, h => by
    have e : S + (m + 1) = S + 1 + m := by omega
    rw [e]
    obtain ⟨h1, h2, h3⟩ := h
    by_cases hp : pcN S < pcN b
    · cases hv : mnB x y k r side S with
      | true =>
        rw [mdF_t hp hv, if_pos rfl]
        refine MDI_F m (S + 1) (some S) ⟨by omega, hv, fun S' g1 g2 => ?_⟩
        by_cases e2 : S' = S
        · rw [e2]; exact Nat.le_refl _
        · have := h3 S' (by omega) g2; omega
      | false =>
        rw [mdF_t hp hv, if_neg (by decide)]
        refine MDI_F m (S + 1) (some b) ⟨by omega, h2, fun S' g1 g2 => ?_⟩
        by_cases e2 : S' = S
        · rw [e2, hv] at g2; cases g2
        · exact h3 S' (by omega) g2
    · rw [mdF_s hp]
      refine MDI_F m (S + 1) (some b) ⟨by omega, h2, fun S' g1 g2 => ?_⟩
      by_cases e2 : S' = S
      · rw [e2]; omega
      · exact h3 S' (by omega) g2
theorem md_spec {x : Cl} {y : De} {k r side B : Nat} (h : mdA x y k r side = some B) : B < 2 ^ cW x ∧ mnB x y k r side B = true ∧ ∀ S', S' < 2 ^ cW x → mnB x y k r side S' = true → pcN B ≤ pcN S' := by
  have h0 := MDI_F (x := x) (y := y) (k := k) (r := r) (side := side) (2 ^ cW x) 0 none (fun S' hS => absurd hS (Nat.not_lt_zero _))
  rw [Nat.zero_add] at h0
  have e : mdF x y k r side (2 ^ cW x) 0 none = some B := h
  rw [e] at h0
  exact h0
/-- one of the fewest left out: it does not stay -/
theorem md_less {x : Cl} {y : De} {k r side B c : Nat} (hW : cW x ≤ 8) (h : mdA x y k r side = some B) (hc : B.testBit c = true) : ¬ 0 < tms (pulX (ptP (fun i => B.testBit i && decide (i ≠ c)) r (cW x) 0 x) r side) y k r := by
  obtain ⟨h1, h2, h3⟩ := md_spec h
  intro hn
  have hcW : c < cW x := by
    rcases Nat.lt_or_ge c (cW x) with g | g
    · exact g
    · rw [Nat.testBit_lt_two_pow (Nat.lt_of_lt_of_le h1 (Nat.pow_le_pow_right (by omega) g))] at hc
      cases hc
  have hB : ∀ i, cW x ≤ i → B.testBit i = false := fun i hi => Nat.testBit_lt_two_pow (Nat.lt_of_lt_of_le h1 (Nat.pow_le_pow_right (by omega) hi))
  have hbit : ∀ i, (setN (fun i => B.testBit i && decide (i ≠ c)) (cW x)).testBit i = (B.testBit i && decide (i ≠ c)) := by
    intro i
    rw [setN_bit]
    by_cases hi : i < cW x
    · rw [decide_eq_true hi, Bool.true_and]
    · rw [hB i (by omega), Bool.false_and, Bool.and_false]
  have hm : mnB x y k r side (setN (fun i => B.testBit i && decide (i ≠ c)) (cW x)) = true := by
    unfold mnB
    refine decide_eq_true ?_
    rw [← ptP_F, ptP_congr (q := fun i => B.testBit i && decide (i ≠ c)) _ _ _ (fun j _ _ => hbit j)]
    exact hn
  have hp := h3 _ (setN_lt _ _) hm
  have e1 : pcN (setN (fun i => B.testBit i && decide (i ≠ c)) (cW x)) = cnt (rmB (fun i => B.testBit i) c) 8 := cnt_congr (fun i _ => hbit i)
  have e2 := cnt_rm (p := fun i => B.testBit i) (k := c) (n := 8) (by omega) hc
  have e3 : pcN B = cnt (fun i => B.testBit i) 8 := rfl
  omega
theorem md_stay {x : Cl} {y : De} {k r side B : Nat} (h : mdA x y k r side = some B) : 0 < tms (pulX (ptP (fun i => B.testBit i) r (cW x) 0 x) r side) y k r := by
  obtain ⟨h1, h2, h3⟩ := md_spec h
  unfold mnB at h2
  rw [ptP_F]
  exact of_decide_eq_true h2
/-! LOST -/
theorem cnt_imp {p q : Nat → Bool} : ∀ {n : Nat}, (∀ i, i < n → p i = true → q i = true) → cnt p n ≤ cnt q n
  | 0, _ => Nat.le_refl _
  | n + 1, h => by
    have h1 := cnt_imp (n := n) (fun i hi => h i (by omega))
    have h2 := h n (by omega)
    rw [cnt_succ, cnt_succ]
    cases hp : p n with
    | false => rw [if_neg (by decide)]; omega
    | true => rw [h2 hp, if_pos rfl]; omega
theorem tms_mono {z z' : Cl} {y : De} {k r : Nat} (e1 : cW z' = cW z) (e2 : cK z' = cK z) (hr : ∀ i, i < cW z → cU z (8 * r + i) ≤ cU z' (8 * r + i) ∧ cU z' (8 * r + i) ≤ 1) : tms z' y k r ≤ tms z y k r := by
  unfold tms
  rw [e1]
  refine cnt_imp (fun i hi h => ?_)
  unfold saidB at h ⊢
  rw [e1, e2, Bool.and_eq_true] at h
  rw [Bool.and_eq_true]
  refine ⟨h.1, allb_iff.mpr (fun j hj => ?_)⟩
  have h1 := of_decide_eq_true h.1
  have h2 := allb_iff.mp h.2 j hj
  rw [Bool.and_eq_true] at h2 ⊢
  refine ⟨decide_eq_true ?_, h2.2⟩
  have h3 := of_decide_eq_true h2.1
  have h4 := hr (i + j) (by omega)
  omega
theorem sd_year {z : Cl} {y : De} {k : Nat} (hO : OkC z) (h : sdAny z y k = false) : sdAny (yearX z) y k = false := by
  unfold sdAny at h ⊢
  have h1 := of_decide_eq_false h
  refine decide_eq_false ?_
  have h2 : sayN (yearX z) y k ≤ sayN z y k := sumN_mono (fun r hr => tms_mono rfl rfl (fun i hi => ⟨((UI_year hO).1 r i hr hi).1, ((UI_year hO).1 r i hr hi).2.1⟩))
  omega
theorem OkC_it : ∀ (n : Nat) {z : Cl}, OkC z → OkC (itF n z)
  | 0, _, h => h
  | n + 1, _, h => OkC_it n (OkC_year h)
theorem sd_it {z : Cl} {y : De} {k t : Nat} (hO : OkC z) (h : sdAny (itF t z) y k = false) : ∀ d, sdAny (itF (t + d) z) y k = false
  | 0 => h
  | d + 1 => by
    rw [show t + (d + 1) = t + d + 1 by omega, itF_s]
    exact sd_year (OkC_it _ hO) (sd_it hO h d)
theorem yrs_it : ∀ (m : Nat) (x : Cl), (yrs x m).1 = itF m x
  | 0, _ => rfl
  | m + 1, x => yrs_it m (yearX x)
/-- said no more behind n years, just if it is lost in n -/
theorem lost_iff {x : Cl} {y : De} {k t : Nat} (hO : OkC x) (h : lostN x y k = some t) (n : Nat) : sayN (yrM x n) y k = 0 ↔ t ≤ n := by
  obtain ⟨h1, h2, h3⟩ := lostN_iff.mp h
  have e : sayN (yrM x n) y k = sayN (itF n x) y k := by
    have : sayN (yrM x n) y k = sayN (yrs x n).1 y k := rfl
    rw [this, yrs_it]
  rw [e]
  constructor
  · intro h0
    rcases Nat.lt_or_ge n t with g | g
    · have := of_decide_eq_true (h3 n g)
      omega
    · exact g
  · intro hle
    have h4 := sd_it hO h2 (n - t)
    rw [show t + (n - t) = n by omega] at h4
    have := of_decide_eq_false h4
    omega
/-! BARGAIN -/
theorem fr_0 (y : De) : frB y 0 = true := by
  unfold frB ncA
  rw [Bool.and_eq_true]
  refine ⟨allb_iff.mpr (fun i hi => allb_iff.mpr (fun j hj => ?_)), allb_iff.mpr (fun q hq => decide_eq_true ?_)⟩
  · unfold ncB
    rw [Nat.zero_testBit]
    rfl
  · rw [gsN_0]
    decide
theorem st_0 (y : De) : stB y 0 = true := by
  unfold stB stQ
  rw [Bool.and_eq_true]
  refine ⟨fr_0 y, allb_iff.mpr (fun k hk => allb_iff.mpr (fun q hq => ?_))⟩
  rw [Nat.zero_testBit]
  rfl
theorem bsF_fr (y : De) : ∀ (m s b : Nat), frB y b = true → frB y (bsF y m s b) = true
  | 0, _, _, h => h
  | m + 1, s, b, h => by
    show frB y (bsF y m (s + 1) (if awN y b (dQ y) < awN y s (dQ y) ∧ frB y s = true then s else b)) = true
    refine bsF_fr y m (s + 1) _ ?_
    split
    · rename_i c; exact c.2
    · exact h
theorem best_fr (y : De) : frB y (bestS y) = true := bsF_fr y _ _ _ (fr_0 y)
theorem best_lt (y : De) : bestS y < 2 ^ dC y := bsF_lt y _ _ _ (by have : 0 < 2 ^ dC y := Nat.pow_pos (by omega); omega) (Nat.pow_pos (by omega))
theorem best_win (y : De) {q : Nat} (hq : q < dQ y) : nI 0 ≤ gsN y q (bestS y) (dC y) := by
  have h := best_fr y
  unfold frB at h
  rw [Bool.and_eq_true] at h
  exact of_decide_eq_true (allb_iff.mp h.2 q hq)
theorem best_nc (y : De) {i j : Nat} (hi : i < dC y) (hj : j < dC y) (hx : dX y (6 * i + j) = 1) : ((bestS y).testBit i && (bestS y).testBit j) = false := by
  have h := best_fr y
  unfold frB at h
  rw [Bool.and_eq_true] at h
  have h2 := allb_iff.mp (allb_iff.mp h.1 i hi) j hj
  unfold ncB at h2
  rw [decide_eq_true hx, Bool.and_true] at h2
  cases h3 : (bestS y).testBit i && (bestS y).testBit j
  · rfl
  · rw [h3] at h2; cases h2
theorem bit_and : ∀ b, b < 8 → ∀ k, k < 3 → ∀ i, i < 3 → ((((nI b >>> (nI k &&& 31)) &&& (nI b >>> (nI i &&& 31))) &&& (1 : Int32)) = (1 : Int32)) = ((b.testBit k && b.testBit i) = true) := by decide +kernel
theorem stables_pos (y : De) : 1 ≤ cnt (stB y) (2 ^ dC y) := cnt_pos.mpr ⟨0, Nat.pow_pos (by omega), st_0 y⟩
