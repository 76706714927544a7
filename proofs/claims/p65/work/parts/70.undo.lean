/-! ## what comes undone: the places that are, and how many -/
theorem sumN_at {f g : Nat → Nat} {a d : Nat} : ∀ {n : Nat}, a < n → (∀ i, i < n → i ≠ a → g i = f i) → g a = f a + d → sumN g n = sumN f n + d
  | 0, h, _, _ => absurd h (Nat.not_lt_zero _)
  | n + 1, h, hs, he => by
    show sumN g n + g n = sumN f n + f n + d
    by_cases hn : a = n
    · subst hn
      rw [sumN_congr (f := g) (g := f) (fun i hi => hs i (by omega) (by omega)), he]
      omega
    · rw [sumN_at (n := n) (by omega) (fun i hi hne => hs i (by omega) hne) he, hs n (by omega) (fun e => hn e.symm)]
      omega
theorem sumRC_upd {u : Nat → Nat} {W R r i : Nat} (hW : W ≤ 8) (hr : r < R) (hi : i < W) (h0 : u (8 * r + i) = 0) : sumRC (updN u (8 * r + i) 1) W R = sumRC u W R + 1 := by
  unfold sumRC
  refine sumN_at hr (fun q hq hne => sumN_congr (fun j hj => ?_)) (sumN_at hi (fun j hj hne => ?_) ?_)
  · unfold updN
    rw [if_neg (by omega)]
  · show updN u (8 * r + i) 1 (8 * r + j) = u (8 * r + j)
    unfold updN
    rw [if_neg (by omega)]
  · show updN u (8 * r + i) 1 (8 * r + i) = u (8 * r + i) + 1
    unfold updN
    rw [if_pos rfl, h0]
theorem sumRC_congr {f g : Nat → Nat} {W R : Nat} (h : ∀ r i, r < R → i < W → f (8 * r + i) = g (8 * r + i)) : sumRC f W R = sumRC g W R := sumN_congr (fun r hr => sumN_congr (fun i hi => h r i hr hi))
theorem sumRC_add (f g : Nat → Nat) (W R : Nat) : sumRC (fun p => f p + g p) W R = sumRC f W R + sumRC g W R := by
  unfold sumRC
  rw [← sumN_add]
  exact sumN_congr (fun r hr => sumN_add _ _ _)
/-- what a stretch of undoing does: s grows out of u0, darned places stay, the number counts -/
def UI (x : Cl) (u0 : Nat → Nat) (s : Us) : Prop := (∀ r i, r < cR x → i < cW x → u0 (8 * r + i) ≤ s.1 (8 * r + i) ∧ s.1 (8 * r + i) ≤ 1 ∧ (cD x (8 * r + i) = 1 → s.1 (8 * r + i) = u0 (8 * r + i))) ∧ sumRC s.1 (cW x) (cR x) = sumRC u0 (cW x) (cR x) + s.2
section
variable {x : Cl} {u0 : Nat → Nat} {s : Us}
theorem UI_rf (hO : OkC x) : UI x (cU x) (cU x, 0) := ⟨fun r i hr hi => ⟨Nat.le_refl _, (hO.2.2.2.2.2 r i hr hi).2.2.1, fun _ => rfl⟩, rfl⟩
theorem UI_step (hW : cW x ≤ 8) (h : UI x u0 s) {r i : Nat} (hr : r < cR x) (hi : i < cW x) (h0 : s.1 (8 * r + i) = 0) (hd : ¬ cD x (8 * r + i) = 1) : UI x u0 (updN s.1 (8 * r + i) 1, s.2 + 1) := by
  refine ⟨fun q j hq hj => ?_, ?_⟩
  · obtain ⟨a, b, c⟩ := h.1 q j hq hj
    show _ ≤ updN s.1 (8 * r + i) 1 (8 * q + j) ∧ updN s.1 (8 * r + i) 1 (8 * q + j) ≤ 1 ∧ (_ → updN s.1 (8 * r + i) 1 (8 * q + j) = _)
    unfold updN
    by_cases e : 8 * q + j = 8 * r + i
    · rw [if_pos e]
      exact ⟨by omega, by omega, fun hh => by rw [e] at hh; exact absurd hh hd⟩
    · rw [if_neg e]
      exact ⟨a, b, c⟩
  · show sumRC (updN s.1 (8 * r + i) 1) (cW x) (cR x) = _
    rw [sumRC_upd hW hr hi h0, h.2]
    omega
theorem UI_ladS (hW : cW x ≤ 8) (h : UI x u0 s) {r i : Nat} (hr : r < cR x) (hi : i < cW x) : UI x u0 (ladS x r i s) := by
  unfold ladS
  split
  · rename_i c
    exact UI_step hW h hr hi c.2.1 (by rw [c.2.2.1]; decide)
  · exact h
theorem UI_ladR (hW : cW x ≤ 8) {r : Nat} (hr : r < cR x) : ∀ (m i : Nat) (s : Us), i + m ≤ cW x → UI x u0 s → UI x u0 (ladR x r m i s)
  | 0, _, _, _, h => h
  | m + 1, i, s, hm, h => UI_ladR hW hr m (i + 1) _ (by omega) (UI_ladS hW h hr (by omega))
theorem UI_ladA (hW : cW x ≤ 8) : ∀ (m r : Nat) (s : Us), r + m ≤ cR x → UI x u0 s → UI x u0 (ladA x m r s)
  | 0, _, _, _, h => h
  | m + 1, r, s, hm, h => UI_ladA hW m (r + 1) _ (by omega) (UI_ladR hW (by omega) _ _ _ (by omega) h)
theorem UI_lad (hW : cW x ≤ 8) (h : UI x u0 s) : UI x u0 (ladders x s) := by
  unfold ladders
  split
  · exact h
  · by_cases h0 : cR x = 0
    · rw [h0]; exact h
    · exact UI_ladA hW _ _ _ (by omega) h
theorem plP_in {r side i : Nat} (hi : i < cW x) : ∃ j, j < cW x ∧ plP x r side i = 8 * r + j := by
  unfold plP
  split
  · exact ⟨i, hi, rfl⟩
  · exact ⟨cW x - 1 - i, by omega, rfl⟩
theorem UI_pulF (hW : cW x ≤ 8) {r side : Nat} (hr : r < cR x) : ∀ (m i : Nat) (s : Us), i + m ≤ cW x → UI x u0 s → UI x u0 (pulF x r side m i s)
  | 0, _, _, _, h => h
  | m + 1, i, s, hm, h => by
    unfold pulF
    obtain ⟨j, hj, e⟩ := plP_in (x := x) (r := r) (side := side) (i := i) (by omega)
    split
    · rename_i h0
      split
      · exact h
      · rename_i hh
        refine UI_pulF hW hr m (i + 1) _ (by omega) ?_
        rw [e] at h0 hh ⊢
        exact UI_step hW h hr hj h0 (fun c => hh (Or.inl c))
    · exact UI_pulF hW hr m (i + 1) _ (by omega) h
theorem UI_pul (hO : OkC x) {r side : Nat} (hr : r < cR x) : UI x (cU x) (pulU x r side) := UI_lad hO.1.2 (UI_pulF hO.1.2 hr _ _ _ (by omega) (UI_rf hO))
theorem UI_eat (hO : OkC x) {r i : Nat} (hr : r < cR x) (hi : i < cW x) : UI x (cU x) (eatU x r i) := by
  unfold eatU
  split
  · rename_i h
    unfold looseB at h
    rw [Bool.and_eq_true] at h
    have h1 := of_decide_eq_true h.1
    have h2 := of_decide_eq_true h.2
    exact UI_lad hO.1.2 (UI_step hO.1.2 (UI_rf hO) hr hi h1 (by rw [h2]; decide))
  · exact UI_rf hO
theorem opn_loose {p : Nat} (h : opnB x p = true) : cU x p = 0 ∧ cD x p = 0 := by
  unfold opnB looseB at h
  simp only [Bool.and_eq_true, decide_eq_true_eq] at h
  exact ⟨h.1.2.1, h.1.2.2⟩
theorem UI_year (hO : OkC x) : UI x (cU x) (yearU x) := by
  have h : UI x (cU x) (newU x, sumRC (opn1 x) (cW x) (cR x)) := by
    refine ⟨fun r i hr hi => ?_, ?_⟩
    · have h1 := (hO.2.2.2.2.2 r i hr hi).2.2.1
      show _ ≤ newU x (8 * r + i) ∧ newU x (8 * r + i) ≤ 1 ∧ (_ → newU x (8 * r + i) = _)
      unfold newU
      split
      · rename_i c
        have := opn_loose c
        exact ⟨h1, Nat.le_refl _, fun e => by rw [this.2] at e; exact absurd e (by decide)⟩
      · exact ⟨Nat.le_refl _, h1, fun _ => rfl⟩
    · show sumRC (newU x) (cW x) (cR x) = sumRC (cU x) (cW x) (cR x) + sumRC (opn1 x) (cW x) (cR x)
      rw [← sumRC_add]
      refine sumRC_congr (fun r i hr hi => ?_)
      unfold newU opn1
      split
      · rename_i c
        rw [(opn_loose c).1]
      · rfl
  have h2 : UI (wU (wN x (newN x)) (newU x)) (cU x) (newU x, sumRC (opn1 x) (cW x) (cR x)) := h
  exact UI_lad (x := wU (wN x (newN x)) (newU x)) hO.1.2 h2
theorem pul_tot (hO : OkC x) {r side : Nat} (hr : r < cR x) : sumRC (cU (pulX x r side)) (cW x) (cR x) = sumRC (cU x) (cW x) (cR x) + (pulU x r side).2 := (UI_pul hO hr).2
theorem year_tot (hO : OkC x) : sumRC (cU (yearX x)) (cW x) (cR x) = sumRC (cU x) (cW x) (cR x) + (yearU x).2 := (UI_year hO).2
end
theorem yrs_tot : ∀ (m : Nat) {x : Cl}, OkC x → sumRC (cU (yrs x m).1) (cW x) (cR x) = sumRC (cU x) (cW x) (cR x) + (yrs x m).2
  | 0, _, _ => rfl
  | m + 1, x, hO => by
    have h := yrs_tot m (OkC_year hO)
    show sumRC (cU (yrs (yearX x) m).1) (cW x) (cR x) = sumRC (cU x) (cW x) (cR x) + ((yearU x).2 + (yrs (yearX x) m).2)
    have e : sumRC (cU (yrs (yearX x) m).1) (cW x) (cR x) = sumRC (cU (yearX x)) (cW x) (cR x) + (yrs (yearX x) m).2 := h
    rw [e, year_tot hO]
    omega
/-- what is darned is whole and not worn -/
def WFx (x : Cl) : Prop := ∀ r i, r < cR x → i < cW x → cD x (8 * r + i) = 1 → cU x (8 * r + i) = 0 ∧ cN x (8 * r + i) = 0
section
variable {x : Cl}
theorem WF_pul (hO : OkC x) (h : WFx x) {r side : Nat} (hr : r < cR x) : WFx (pulX x r side) := fun q j hq hj hd => by
  obtain ⟨a, b⟩ := h q j hq hj hd
  exact ⟨(((UI_pul (side := side) hO hr).1 q j hq hj).2.2 hd).trans a, b⟩
theorem WF_eat (hO : OkC x) (h : WFx x) {r i : Nat} (hr : r < cR x) (hi : i < cW x) : WFx (eatX x r i) := fun q j hq hj hd => by
  obtain ⟨a, b⟩ := h q j hq hj hd
  exact ⟨(((UI_eat hO hr hi).1 q j hq hj).2.2 hd).trans a, b⟩
theorem WF_year (hO : OkC x) (h : WFx x) : WFx (yearX x) := fun q j hq hj hd => by
  have hd : cD x (8 * q + j) = 1 := hd
  obtain ⟨a, b⟩ := h q j hq hj hd
  refine ⟨(((UI_year hO).1 q j hq hj).2.2 hd).trans a, ?_⟩
  show newN x (8 * q + j) = 0
  unfold newN looseB
  rw [if_neg (by rw [hd]; simp), b]
theorem WF_wY {n : Nat} (h : WFx x) : WFx (wY x n) := h
theorem WF_pat (h : WFx x) (p : Nat) : WFx (patX x p) := fun q j hq hj hd => by
  show updN (cU x) p 0 (8 * q + j) = 0 ∧ updN (cN x) p 0 (8 * q + j) = 0
  have hd : updN (cD x) p 1 (8 * q + j) = 1 := hd
  unfold updN at hd ⊢
  by_cases e : 8 * q + j = p
  · rw [if_pos e, if_pos e]; exact ⟨rfl, rfl⟩
  · rw [if_neg e] at hd
    rw [if_neg e, if_neg e]
    exact h q j hq hj hd
end
theorem WF_yrs : ∀ (m : Nat) {x : Cl}, OkC x → WFx x → WFx (yrs x m).1
  | 0, _, _, h => h
  | m + 1, _, hO, h => WF_yrs m (OkC_year hO) (WF_year hO h)
theorem WF_yrM {x : Cl} (hO : OkC x) (h : WFx x) (m : Nat) : WFx (yrM x m) := WF_wY (WF_yrs m hO h)
/-! a second pull -/
section
variable {x : Cl} {r side : Nat}
theorem pulF_one {q : Nat} : ∀ (m i : Nat) (s : Us), s.1 q = 1 → (pulF x r side m i s).1 q = 1
  | 0, _, _, h => h
  | m + 1, i, s, h => by
    unfold pulF
    split
    · split
      · exact h
      · refine pulF_one m (i + 1) _ ?_
        show updN s.1 (plP x r side i) 1 q = 1
        unfold updN
        split
        · rfl
        · exact h
    · exact pulF_one m (i + 1) s h
theorem pulF_stop : ∀ (m i : Nat) (s : Us), i + m = cW x → (∀ t, i ≤ t → t < cW x → s.1 (plP x r side t) ≤ 1) → ∃ j, i ≤ j ∧ j ≤ cW x ∧ (∀ t, i ≤ t → t < j → (pulF x r side m i s).1 (plP x r side t) = 1) ∧ (j < cW x → (pulF x r side m i s).1 (plP x r side j) = 0 ∧ (cD x (plP x r side j) = 1 ∨ cK x (plP x r side j) = 2))
  | 0, i, s, hm, _ => ⟨i, Nat.le_refl _, by omega, fun t h1 h2 => by omega, fun h => by omega⟩
  | m + 1, i, s, hm, hb => by
    unfold pulF
    by_cases h0 : s.1 (plP x r side i) = 0
    · rw [if_pos h0]
      by_cases hh : cD x (plP x r side i) = 1 ∨ cK x (plP x r side i) = 2
      · rw [if_pos hh]
        exact ⟨i, Nat.le_refl _, by omega, fun t h1 h2 => by omega, fun _ => ⟨h0, hh⟩⟩
      · rw [if_neg hh]
        obtain ⟨j, h1, h2, h3, h4⟩ := pulF_stop m (i + 1) (updN s.1 (plP x r side i) 1, s.2 + 1) (by omega) (fun t a b => by
          show updN s.1 (plP x r side i) 1 (plP x r side t) ≤ 1
          unfold updN
          split
          · omega
          · exact hb t (by omega) b)
        refine ⟨j, by omega, h2, fun t a b => ?_, h4⟩
        by_cases e : t = i
        · rw [e]
          refine pulF_one m (i + 1) _ ?_
          show updN s.1 (plP x r side i) 1 (plP x r side i) = 1
          unfold updN
          rw [if_pos rfl]
        · exact h3 t (by omega) b
    · rw [if_neg h0]
      obtain ⟨j, h1, h2, h3, h4⟩ := pulF_stop m (i + 1) s (by omega) (fun t a b => hb t (by omega) b)
      refine ⟨j, by omega, h2, fun t a b => ?_, h4⟩
      by_cases e : t = i
      · rw [e]
        refine pulF_one m (i + 1) _ ?_
        have := hb i (Nat.le_refl _) (by omega)
        omega
      · exact h3 t (by omega) b
theorem ladS_q {q i : Nat} {s : Us} (hq : cD x q = 1 ∨ cK x q = 2) : (ladS x r i s).1 q = s.1 q := by
  unfold ladS
  split
  · rename_i c
    show updN s.1 (8 * r + i) 1 q = _
    unfold updN
    split
    · rename_i e
      subst e
      omega
    · rfl
  · rfl
theorem ladS_1 {q i : Nat} {s : Us} (h : s.1 q = 1) : (ladS x r i s).1 q = 1 := by
  unfold ladS
  split
  · show updN s.1 (8 * r + i) 1 q = _
    unfold updN
    split
    · rfl
    · exact h
  · exact h
end
theorem ladR_q {x : Cl} {r q : Nat} (hq : cD x q = 1 ∨ cK x q = 2) : ∀ (m i : Nat) (s : Us), (ladR x r m i s).1 q = s.1 q
  | 0, _, _ => rfl
  | m + 1, i, s => (ladR_q hq m (i + 1) _).trans (ladS_q hq)
theorem ladR_1 {x : Cl} {r q : Nat} : ∀ (m i : Nat) (s : Us), s.1 q = 1 → (ladR x r m i s).1 q = 1
  | 0, _, _, h => h
  | m + 1, i, s, h => ladR_1 m (i + 1) _ (ladS_1 h)
theorem ladA_q {x : Cl} {q : Nat} (hq : cD x q = 1 ∨ cK x q = 2) : ∀ (m r : Nat) (s : Us), (ladA x m r s).1 q = s.1 q
  | 0, _, _ => rfl
  | m + 1, r, s => (ladA_q hq m (r + 1) _).trans (ladR_q hq _ _ _)
theorem ladA_1 {x : Cl} {q : Nat} : ∀ (m r : Nat) (s : Us), s.1 q = 1 → (ladA x m r s).1 q = 1
  | 0, _, _, h => h
  | m + 1, r, s, h => ladA_1 m (r + 1) _ (ladR_1 _ _ _ h)
theorem lad_q {x : Cl} {q : Nat} {s : Us} (hq : cD x q = 1 ∨ cK x q = 2) : (ladders x s).1 q = s.1 q := by
  unfold ladders
  split
  · rfl
  · exact ladA_q hq _ _ _
theorem lad_1 {x : Cl} {q : Nat} {s : Us} (h : s.1 q = 1) : (ladders x s).1 q = 1 := by
  unfold ladders
  split
  · exact h
  · exact ladA_1 _ _ _ h
theorem pulF_still {x : Cl} {r side j : Nat} : ∀ (m i : Nat) (s : Us), i + m = cW x → i ≤ j → (∀ t, i ≤ t → t < j → s.1 (plP x r side t) = 1) → (j < cW x → s.1 (plP x r side j) = 0 ∧ (cD x (plP x r side j) = 1 ∨ cK x (plP x r side j) = 2)) → j ≤ cW x → pulF x r side m i s = s
  | 0, _, _, _, _, _, _, _ => rfl
  | m + 1, i, s, hm, hij, h1, h2, hj => by
    unfold pulF
    by_cases e : i = j
    · subst e
      obtain ⟨a, b⟩ := h2 (by omega)
      rw [if_pos a, if_pos b]
    · rw [if_neg (by rw [h1 i (Nat.le_refl _) (by omega)]; decide)]
      exact pulF_still m (i + 1) s (by omega) (by omega) (fun t a b => h1 t (by omega) b) h2 hj
/-- nothing more comes undone by a second pull -/
theorem pul_again {x : Cl} (hO : OkC x) {r side : Nat} (hr : r < cR x) : (pulU (pulX x r side) r side).2 = 0 := by
  obtain ⟨j, h1, h2, h3, h4⟩ := pulF_stop (x := x) (r := r) (side := side) (cW x) 0 (cU x, 0) (by omega) (fun t _ ht => by
    obtain ⟨q, hq, e⟩ := plP_in (x := x) (r := r) (side := side) ht
    rw [e]
    exact (hO.2.2.2.2.2 r q hr hq).2.2.1)
  have hs : pulF (pulX x r side) r side (cW (pulX x r side)) 0 (cU (pulX x r side), 0) = (cU (pulX x r side), 0) := by
    refine pulF_still (j := j) _ _ _ (by omega) h1 (fun t a b => ?_) (fun hj => ?_) h2
    · exact lad_1 (h3 t a b)
    · obtain ⟨a, b⟩ := h4 hj
      exact ⟨(lad_q b).trans a, b⟩
  unfold pulU
  rw [hs]
  rfl
