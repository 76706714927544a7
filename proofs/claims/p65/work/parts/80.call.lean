/-! ## a call of the law's: what it answers, what is there then (STATUS left open) -/
def CO (hA : Nat → Int32) (M : kx_M) (σ : Sg) : Prop := (∃ s, IC M (wS σ s)) ∧ mA M 136 = hA
section
variable {hA : Nat → Int32} {M : kx_M} {σ : Sg}
theorem CO_of (h : IC M σ) (h2 : mA M 136 = hA) : CO hA M σ := ⟨⟨gS σ, h⟩, h2⟩
theorem CO_call {α : Type} {f : kx_M → Option (α × kx_M)} {o : Sg → α × Sg} {a : α} {σ' : Sg} (hp : PC f o) (h : CO hA M σ) (e : ∀ s, ∃ s', o (wS σ s) = (a, wS σ' s')) : ∃ M', f M = some (a, M') ∧ CO hA M' σ' := by
  obtain ⟨⟨s, h1⟩, h2⟩ := h
  obtain ⟨M', a1, a2, a3⟩ := hp M _ h1
  obtain ⟨s', e⟩ := e s
  rw [e] at a1 a2
  exact ⟨M', a1, ⟨s', a2⟩, (Hi_A a3 (by decide)).trans h2⟩
theorem CO_ok (h : CO hA M σ) : OkG σ := by
  obtain ⟨⟨s, h1⟩, -⟩ := h
  exact h1.1
theorem cOC (h : CO hA M σ) : OkC (gX σ) := (CO_ok h).1.1
theorem cOD (h : CO hA M σ) : OkD (cW (gX σ)) (gY σ) := (CO_ok h).1.2.2.1
theorem ix_t {a R : Nat} (h : a < R) (hR : R < 2147483648) : ix (nI a) R = true := by
  unfold ix
  rw [nI_toInt (by omega), Bool.and_eq_true]
  exact ⟨decide_eq_true (by omega), decide_eq_true (by omega)⟩
theorem rg_t {n a b : Nat} (h1 : a ≤ n) (h2 : n ≤ b) (hb : b < 2147483648) : rg (nI n) a b = true := by
  unfold rg
  rw [nI_toInt (by omega), Bool.and_eq_true]
  exact ⟨decide_eq_true (by omega), decide_eq_true (by omega)⟩
theorem c_many (h : CO hA M σ) {u : Nat} (hu : u ≤ 9) : ∃ M', f_KT_many (nI u) M = some (nI (mnN (gX σ) (gY σ) u), M') ∧ CO hA M' σ :=
  CO_call (pC_many _) h (fun s => ⟨nI 0, by
    unfold o_many
    rw [rg_t (Nat.zero_le _) hu (by decide), z_cl (by omega)]
    rfl⟩)
theorem c_stitch (h : CO hA M σ) {r i u : Nat} (hr : r < cR (gX σ)) (hi : i < cW (gX σ)) (hu : u ≤ 3) : ∃ M', f_KT_stitch (nI r) (nI i) (nI u) M = some (nI (stN (gX σ) u (8 * r + i)), M') ∧ CO hA M' σ := by
  have hO := cOC h
  have h1 := hO.1.2
  have h2 := hO.2.2.1
  refine CO_call (pC_stitch _ _ _) h (fun s => ⟨nI 0, ?_⟩)
  unfold o_stitch
  rw [show ix (nI r) (cR (gX (wS σ s))) = true from ix_t (R := cR (gX σ)) hr (by omega), show ix (nI i) (cW (gX (wS σ s))) = true from ix_t (R := cW (gX σ)) hi (by omega), rg_t (Nat.zero_le _) hu (by decide), z_cl (by omega), z_cl (by omega), z_cl (by omega)]
  rfl
theorem c_pulled (h : CO hA M σ) {r side : Nat} (hr : r < cR (gX σ)) (hs : side ≤ 1) : ∃ M', f_KT_pulled (nI r) (nI side) M = some (nI (pulU (gX σ) r side).2, M') ∧ CO hA M' σ := by
  have h2 := (cOC h).2.2.1
  refine CO_call (pC_pulled _ _) h (fun s => ⟨nI 0, ?_⟩)
  unfold o_pulled
  rw [show ix (nI r) (cR (gX (wS σ s))) = true from ix_t (R := cR (gX σ)) hr (by omega), rg_t (Nat.zero_le _) hs (by decide), z_cl (by omega), z_cl (by omega)]
  rfl
theorem c_pulledOut (h : CO hA M σ) {r side : Nat} (hr : r < cR (gX σ)) (hs : side ≤ 1) : ∃ M', f_KT_pulledOut (nI r) (nI side) M = some (nI (sdSet (gX σ) (gY σ)) &&& (nI (sdSet (pulX (gX σ) r side) (gY σ)) ^^^ (-nI 1)), M') ∧ CO hA M' σ := by
  have h2 := (cOC h).2.2.1
  refine CO_call (pC_pulledOut _ _) h (fun s => ⟨nI 0, ?_⟩)
  unfold o_pulledOut
  rw [show ix (nI r) (cR (gX (wS σ s))) = true from ix_t (R := cR (gX σ)) hr (by omega), rg_t (Nat.zero_le _) hs (by decide), z_cl (by omega), z_cl (by omega)]
  rfl
theorem c_pull (h : CO hA M σ) {r side : Nat} (hr : r < cR (gX σ)) (hs : side ≤ 1) : ∃ M', f_KT_pull (nI r) (nI side) M = some (nI (pulU (gX σ) r side).2, M') ∧ CO hA M' (wX σ (pulX (gX σ) r side)) := by
  have h2 := (cOC h).2.2.1
  refine CO_call (pC_pull _ _) h (fun s => ⟨nI 0, ?_⟩)
  unfold o_pull
  rw [show ix (nI r) (cR (gX (wS σ s))) = true from ix_t (R := cR (gX σ)) hr (by omega), rg_t (Nat.zero_le _) hs (by decide), z_cl (by omega), z_cl (by omega)]
  rfl
theorem c_mark (h : CO hA M σ) (hk : (gK σ).1 = 0) : ∃ M', f_KT_mark M = some (nI 1, M') ∧ CO hA M' (wK σ 1 (mkF σ)) := by
  refine CO_call pC_mark h (fun s => ⟨nI 0, ?_⟩)
  unfold o_mark
  rw [show (gK (wS σ s)).1 = 0 from hk]
  rfl
theorem mkF_0 (hk : (gK σ).1 = 0) : mkF σ 0 = gN σ := if_pos hk.symm
theorem c_back (h : CO hA M σ) (hk : (gK σ).1 = 1) : ∃ M', f_KT_back M = some (nI 0, M') ∧ CO hA M' (wNow (wK σ 0 (gK σ).2) ((gK σ).2 0)) := by
  refine CO_call pC_back h (fun s => ⟨nI 0, ?_⟩)
  unfold o_back
  rw [show (gK (wS σ s)).1 = 1 from hk]
  rfl
theorem c_worst (h : CO hA M σ) (hr : 0 < cR (gX σ)) : ∃ M', f_KT_worstPull M = some ((wpF (gX σ) (2 * cR (gX σ)) 0 (-nI 1, -nI 1)).1, M') ∧ CO hA M' σ := by
  refine CO_call pC_worstPull h (fun s => ⟨nI 0, ?_⟩)
  unfold o_worstPull
  rw [if_neg (show ¬ cR (gX (wS σ s)) = 0 from (by show ¬ cR (gX σ) = 0; omega))]
  rfl
theorem c_mendSet (h : CO hA M σ) {k r side : Nat} (hk : k < dC (gY σ)) (hr : r < cR (gX σ)) (hs : side ≤ 1) : ∃ M', f_KT_mendSet (nI k) (nI r) (nI side) M = some (oI (mdA (gX σ) (gY σ) k r side), M') ∧ CO hA M' σ := by
  have h2 := (cOC h).2.2.1
  have h3 := (cOD h).2.1
  refine CO_call (pC_mendSet _ _ _) h (fun s => ⟨nI (oV (mdA (gX σ) (gY σ) k r side)), ?_⟩)
  unfold o_mendSet mdO
  rw [show ix (nI k) (dC (gY (wS σ s))) = true from ix_t (R := dC (gY σ)) hk (by omega), show ix (nI r) (cR (gX (wS σ s))) = true from ix_t (R := cR (gX σ)) hr (by omega), rg_t (Nat.zero_le _) hs (by decide), z_cl (by omega), z_cl (by omega), z_cl (by omega)]
  rfl
theorem c_mend (h : CO hA M σ) {k r side : Nat} (hk : k < dC (gY σ)) (hr : r < cR (gX σ)) (hs : side ≤ 1) : ∃ M', f_KT_mend (nI k) (nI r) (nI side) M = some (oI ((mdA (gX σ) (gY σ) k r side).map pcN), M') ∧ CO hA M' σ := by
  have h2 := (cOC h).2.2.1
  have h3 := (cOD h).2.1
  refine CO_call (pC_mend _ _ _) h (fun s => ⟨nI (oV (mdA (gX σ) (gY σ) k r side)), ?_⟩)
  unfold o_mend mdO
  rw [show ix (nI k) (dC (gY (wS σ s))) = true from ix_t (R := dC (gY σ)) hk (by omega), show ix (nI r) (cR (gX (wS σ s))) = true from ix_t (R := cR (gX σ)) hr (by omega), rg_t (Nat.zero_le _) hs (by decide), z_cl (by omega), z_cl (by omega), z_cl (by omega)]
  rfl
theorem c_darn (h : CO hA M σ) {r i : Nat} (hr : r < cR (gX σ)) (hi : i < cW (gX σ)) : ∃ M', f_KT_darn (nI r) (nI i) M = some (nI (cN (gX σ) (8 * r + i)), M') ∧ CO hA M' (wX σ (patX (gX σ) (8 * r + i))) := by
  have h1 := (cOC h).1.2
  have h2 := (cOC h).2.2.1
  refine CO_call (pC_darn _ _) h (fun s => ⟨nI 0, ?_⟩)
  unfold o_darn
  rw [show ix (nI r) (cR (gX (wS σ s))) = true from ix_t (R := cR (gX σ)) hr (by omega), show ix (nI i) (cW (gX (wS σ s))) = true from ix_t (R := cW (gX σ)) hi (by omega), z_cl (by omega), z_cl (by omega)]
  rfl
theorem c_moth (h : CO hA M σ) {r i : Nat} (hr : r < cR (gX σ)) (hi : i < cW (gX σ)) : ∃ M' a σ', f_KT_moth (nI r) (nI i) M = some (a, M') ∧ CO hA M' σ' ∧ (σ' = σ ∨ σ' = wX σ (eatX (gX σ) r i)) := by
  have h1 := (cOC h).1.2
  have h2 := (cOC h).2.2.1
  cases hl : looseB (gX σ) (8 * r + i) with
  | true =>
    obtain ⟨M', a1, a2⟩ := CO_call (pC_moth (nI r) (nI i)) h (a := nI (eatU (gX σ) r i).2) (σ' := wX σ (eatX (gX σ) r i)) (fun s => ⟨nI 0, by
      unfold o_moth
      rw [show ix (nI r) (cR (gX (wS σ s))) = true from ix_t (R := cR (gX σ)) hr (by omega), show ix (nI i) (cW (gX (wS σ s))) = true from ix_t (R := cW (gX σ)) hi (by omega), z_cl (by omega), z_cl (by omega), show looseB (gX (wS σ s)) (8 * r + i) = true from hl]
      rfl⟩)
    exact ⟨M', _, _, a1, a2, Or.inr rfl⟩
  | false =>
    obtain ⟨M', a1, a2⟩ := CO_call (pC_moth (nI r) (nI i)) h (a := -nI 1) (σ' := σ) (fun s => ⟨nI 9, by
      unfold o_moth
      rw [show ix (nI r) (cR (gX (wS σ s))) = true from ix_t (R := cR (gX σ)) hr (by omega), show ix (nI i) (cW (gX (wS σ s))) = true from ix_t (R := cW (gX σ)) hi (by omega), z_cl (by omega), z_cl (by omega), show looseB (gX (wS σ s)) (8 * r + i) = false from hl]
      rfl⟩)
    exact ⟨M', _, _, a1, a2, Or.inl rfl⟩
theorem c_saidIn (h : CO hA M σ) {k r : Nat} (hk : k < dC (gY σ)) (hr : r < cR (gX σ)) : ∃ M', f_KT_saidIn (nI k) (nI r) M = some (nI (tms (gX σ) (gY σ) k r), M') ∧ CO hA M' σ := by
  have h2 := (cOC h).2.2.1
  have h3 := (cOD h).2.1
  refine CO_call (pC_saidIn _ _) h (fun s => ⟨nI 0, ?_⟩)
  unfold o_saidIn
  rw [show ix (nI k) (dC (gY (wS σ s))) = true from ix_t (R := dC (gY σ)) hk (by omega), show ix (nI r) (cR (gX (wS σ s))) = true from ix_t (R := cR (gX σ)) hr (by omega), z_cl (by omega), z_cl (by omega)]
  rfl
theorem c_said (h : CO hA M σ) {k : Nat} (hk : k < dC (gY σ)) : ∃ M', f_KT_said (nI k) M = some (nI (sayN (gX σ) (gY σ) k), M') ∧ CO hA M' σ := by
  have h3 := (cOD h).2.1
  refine CO_call (pC_said _) h (fun s => ⟨nI 0, ?_⟩)
  unfold o_said
  rw [show ix (nI k) (dC (gY (wS σ s))) = true from ix_t (R := dC (gY σ)) hk (by omega), z_cl (by omega)]
  rfl
theorem pow_6 {c : Nat} (h : c ≤ 6) : 2 ^ c < 2147483648 := Nat.lt_of_le_of_lt (Nat.pow_le_pow_right (by omega) h) (by decide)
theorem c_shortest (h : CO hA M σ) {S : Nat} (hS : S < 2 ^ dC (gY σ)) : ∃ M', f_KT_shortest (nI S) M = some (nI (lnF (shF (gY σ) S)), M') ∧ CO hA M' σ := by
  have h3 := pow_6 (cOD h).2.1
  refine CO_call (pC_shortest _) h (fun s => ⟨nI 0, ?_⟩)
  unfold o_shortest
  rw [show ix (nI S) (2 ^ dC (gY (wS σ s))) = true from ix_t (R := 2 ^ dC (gY σ)) hS h3, z_cl (by omega)]
  rfl
theorem c_shortestAt (h : CO hA M σ) {S k : Nat} (hS : S < 2 ^ dC (gY σ)) (hk : k < lnF (shF (gY σ) S)) (hl : lnF (shF (gY σ) S) < 2147483648) : ∃ M', f_KT_shortestAt (nI S) (nI k) M = some (nI (cdF (shF (gY σ) S) / 4 ^ (lnF (shF (gY σ) S) - 1 - k) % 4), M') ∧ CO hA M' σ := by
  have h3 := pow_6 (cOD h).2.1
  refine CO_call (pC_shortestAt _ _) h (fun s => ⟨nI 0, ?_⟩)
  unfold o_shortestAt
  rw [show ix (nI S) (2 ^ dC (gY (wS σ s))) = true from ix_t (R := 2 ^ dC (gY σ)) hS h3, z_cl (show S < 2147483648 by omega), show ix (nI k) (lnF (shF (gY (wS σ s)) S)) = true from ix_t (R := lnF (shF (gY σ) S)) hk hl, z_cl (by omega)]
  rfl
theorem c_length (h : CO hA M σ) {k : Nat} (hk : k < dC (gY σ)) : ∃ M', f_KT_length (nI k) M = some (nI (dL (gY σ) k), M') ∧ CO hA M' σ := by
  have h3 := (cOD h).2.1
  refine CO_call (pC_length _) h (fun s => ⟨nI 0, ?_⟩)
  unfold o_length
  rw [show ix (nI k) (dC (gY (wS σ s))) = true from ix_t (R := dC (gY σ)) hk (by omega), z_cl (by omega)]
  rfl
theorem c_kind (h : CO hA M σ) {k i : Nat} (hk : k < dC (gY σ)) (hi : i < dL (gY σ) k) : ∃ M', f_KT_kind (nI k) (nI i) M = some (nI (dK (gY σ) (5 * k + i)), M') ∧ CO hA M' σ := by
  have h3 := (cOD h).2.1
  have h4 := ((cOD h).2.2.2.1 k hk).2.1
  refine CO_call (pC_kind _ _) h (fun s => ⟨nI 0, ?_⟩)
  unfold o_kind
  rw [show ix (nI k) (dC (gY (wS σ s))) = true from ix_t (R := dC (gY σ)) hk (by omega), z_cl (show k < 2147483648 by omega), show ix (nI i) (dL (gY (wS σ s)) k) = true from ix_t (R := dL (gY σ) k) hi (by omega), z_cl (by omega)]
  rfl
theorem c_bargain (h : CO hA M σ) : ∃ M', f_KT_bargain M = some (nI (bestS (gY σ)), M') ∧ CO hA M' σ := CO_call pC_bargain h (fun s => ⟨nI 0, rfl⟩)
theorem c_bargainWorth (h : CO hA M σ) : ∃ M', f_KT_bargainWorth M = some (awN (gY σ) (bestS (gY σ)) (dQ (gY σ)), M') ∧ CO hA M' σ := CO_call pC_bargainWorth h (fun s => ⟨nI 0, rfl⟩)
theorem c_stables (h : CO hA M σ) : ∃ M', f_KT_stables M = some (nI (cnt (stB (gY σ)) (2 ^ dC (gY σ))), M') ∧ CO hA M' σ := CO_call pC_stables h (fun s => ⟨nI 0, rfl⟩)
theorem c_wins (h : CO hA M σ) {q S : Nat} (hq : q < dQ (gY σ)) (hS : S < 2 ^ dC (gY σ)) : ∃ M', f_KT_wins (nI q) (nI S) M = some (gsN (gY σ) q S (dC (gY σ)), M') ∧ CO hA M' σ := by
  have h3 := pow_6 (cOD h).2.1
  have h1 := (cOD h).1
  refine CO_call (pC_wins _ _) h (fun s => ⟨nI 0, ?_⟩)
  unfold o_wins
  rw [show ix (nI q) (dQ (gY (wS σ s))) = true from ix_t (R := dQ (gY σ)) hq (by omega), show ix (nI S) (2 ^ dC (gY (wS σ s))) = true from ix_t (R := 2 ^ dC (gY σ)) hS h3, z_cl (by omega), z_cl (by omega)]
  rfl
theorem c_stable (h : CO hA M σ) {S : Nat} (hS : S < 2 ^ dC (gY σ)) : ∃ M', f_KT_stable (nI S) M = some (b2i (stB (gY σ) S), M') ∧ CO hA M' σ := by
  have h3 := pow_6 (cOD h).2.1
  refine CO_call (pC_stable _) h (fun s => ⟨nI 0, ?_⟩)
  unfold o_stable
  rw [show ix (nI S) (2 ^ dC (gY (wS σ s))) = true from ix_t (R := 2 ^ dC (gY σ)) hS h3, z_cl (by omega)]
  rfl
theorem c_clash (h : CO hA M σ) {k i : Nat} (hk : k < dC (gY σ)) (hi : i < dC (gY σ)) (hn : k ≠ i) : ∃ M', f_KT_clash (nI k) (nI i) M = some (nI (dX (gY σ) (6 * k + i)), M') ∧ CO hA M' σ := by
  have h3 := (cOD h).2.1
  refine CO_call (pC_clash _ _) h (fun s => ⟨nI 0, ?_⟩)
  unfold o_clash
  have hd : decide (nI k = nI i) = false := decide_eq_false (fun e => hn ((nI_eq (by omega) (by omega)).mp e))
  rw [show ix (nI k) (dC (gY (wS σ s))) = true from ix_t (R := dC (gY σ)) hk (by omega), show ix (nI i) (dC (gY (wS σ s))) = true from ix_t (R := dC (gY σ)) hi (by omega), hd, z_cl (by omega), z_cl (by omega)]
  rfl
theorem c_queenOf (h : CO hA M σ) {r : Nat} (hr : r < cR (gX σ)) : ∃ M', f_KT_queenOf (nI r) M = some (nI (cO (gX σ) r), M') ∧ CO hA M' σ := by
  have h2 := (cOC h).2.2.1
  refine CO_call (pC_queenOf _) h (fun s => ⟨nI 0, ?_⟩)
  unfold o_queenOf
  rw [show ix (nI r) (cR (gX (wS σ s))) = true from ix_t (R := cR (gX σ)) hr (by omega), z_cl (by omega)]
  rfl
theorem c_wool (h : CO hA M σ) {q : Nat} (hq : q < dQ (gY σ)) : ∃ M', f_KT_wool (nI q) M = some (nI (dO (gY σ) q), M') ∧ CO hA M' σ := by
  have h1 := (cOD h).1
  refine CO_call (pC_wool _) h (fun s => ⟨nI 0, ?_⟩)
  unfold o_wool
  rw [show ix (nI q) (dQ (gY (wS σ s))) = true from ix_t (R := dQ (gY σ)) hq (by omega), z_cl (by omega)]
  rfl
theorem c_unravel (h : CO hA M σ) (hr : 0 < cR (gX σ)) : ∃ M', f_KT_unravel M = some (nI (cR (gX σ) - 1), M') ∧ CO hA M' (wNow σ (unX (gX σ), unY (gX σ) (gY σ), gZ σ)) := by
  refine CO_call pC_unravel h (fun s => ⟨nI 0, ?_⟩)
  unfold o_unravel
  rw [show decide (cR (gX (wS σ s)) = 0) = false from decide_eq_false (by show ¬ cR (gX σ) = 0; omega)]
  rfl
theorem c_shear (h : CO hA M σ) {q n : Nat} (hq : q < dQ (gY σ)) (h1 : 1 ≤ n) (h2 : n ≤ 999) : ∃ M', f_KT_shear (nI q) (nI n) M = some (nI (min 999 (dO (gY σ) q + n)), M') ∧ CO hA M' (wYd σ (wdO (gY σ) (updN (dO (gY σ)) q (min 999 (dO (gY σ) q + n))))) := by
  have h4 := (cOD h).1
  refine CO_call (pC_shear _ _) h (fun s => ⟨nI 0, ?_⟩)
  unfold o_shear
  rw [show ix (nI q) (dQ (gY (wS σ s))) = true from ix_t (R := dQ (gY σ)) hq (by omega), rg_t h1 h2 (by decide), z_cl (by omega), z_cl (by omega)]
  rfl
theorem c_undoneIn (h : CO hA M σ) {n : Nat} (hn : n ≤ 99) : ∃ M', f_KT_undoneIn (nI n) M = some (nI (sumRC (cU (yrs (gX σ) n).1) (cW (gX σ)) (cR (gX σ))), M') ∧ CO hA M' σ := by
  refine CO_call (pC_undoneIn _) h (fun s => ⟨nI 0, ?_⟩)
  unfold o_undoneIn
  rw [rg_t (Nat.zero_le _) hn (by decide), z_cl (by omega)]
  rfl
theorem c_year (h : CO hA M σ) {n : Nat} (h1 : 1 ≤ n) (h2 : n ≤ 99) (hY : cY (gX σ) + n ≤ 9999) : ∃ M', f_KT_year (nI n) M = some (nI (yrs (gX σ) n).2, M') ∧ CO hA M' (wX σ (yrM (gX σ) n)) := by
  refine CO_call (pC_year _) h (fun s => ⟨nI 0, ?_⟩)
  unfold o_year
  rw [rg_t h1 h2 (by decide), z_cl (by omega), if_pos (show cY (gX (wS σ s)) + n ≤ 9999 from hY)]
  rfl
theorem c_lost (h : CO hA M σ) {k : Nat} (hk : k < dC (gY σ)) : ∃ M', f_KT_lost (nI k) M = some (oI (lostN (gX σ) (gY σ) k), M') ∧ CO hA M' σ := by
  have h3 := (cOD h).2.1
  refine CO_call (pC_lost _) h (fun s => ⟨nI (oV (lostN (gX σ) (gY σ) k)), ?_⟩)
  unfold o_lost
  rw [show ix (nI k) (dC (gY (wS σ s))) = true from ix_t (R := dC (gY σ)) hk (by omega), z_cl (by omega), show gX (wS σ s) = gX σ from rfl, show gY (wS σ s) = gY σ from rfl]
  cases lostN (gX σ) (gY σ) k <;> rfl
end
/-! the TRAY 1 -/
def jN (o : Option Nat) : Int64 := (oI o).toInt64
/-- TRAY 1 tells g -/
def TTk (σ : Sg) (W : Nat) (g : Nat → Option Nat) : Prop := tM (gT σ 1) = false ∧ tS (gT σ 1) = 0 ∧ tL (gT σ 1) = W ∧ ∀ j, j < W → tV (gT σ 1) j = jN (g j) ∧ ∀ a, g j = some a → a < 4
def RTr (σ : Sg) (W : Nat) : Prop := tM (gT σ 1) = false ∧ tS (gT σ 1) = 0 ∧ tL (gT σ 1) = W
section
variable {hA : Nat → Int32} {M : kx_M} {σ : Sg}
theorem TTk_r {W : Nat} {g : Nat → Option Nat} (h : TTk σ W g) : RTr σ W := ⟨h.1, h.2.1, h.2.2.1⟩
theorem c_write (h : CO hA M σ) {W e : Nat} (hT : RTr σ W) (he : e < W) (hW : W ≤ 60) (v : Int64) : ∃ M', f_KT_write (nI 1) (nI e) v M = some (nI 1, M') ∧ CO hA M' (wT σ (updT (gT σ) 1 (trW (gT σ 1) e v))) := by
  obtain ⟨t1, t2, t3⟩ := hT
  refine CO_call (pC_write _ _ _) h (fun s => ⟨nI 0, ?_⟩)
  unfold o_write plS
  rw [ix_t (show 1 < 4 by decide) (by decide), z_cl (show 1 < 2147483648 by decide), show tM (gT (wS σ s) 1) = false from t1, show ix (nI e) (tL (gT (wS σ s) 1)) = true from ix_t (R := tL (gT σ 1)) (by show e < tL (gT σ 1); omega) (by show tL (gT σ 1) < _; omega), z_cl (by omega)]
  rfl
theorem c_read (h : CO hA M σ) {W e : Nat} (hT : RTr σ W) (he : e < W) (hW : W ≤ 60) : ∃ M', f_KT_read (nI 1) (nI e) M = some (tV (gT σ 1) e, M') ∧ CO hA M' σ := by
  obtain ⟨t1, t2, t3⟩ := hT
  refine CO_call (pC_read _ _) h (fun s => ⟨nI 0, ?_⟩)
  unfold o_read plS
  rw [ix_t (show 1 < 4 by decide) (by decide), z_cl (show 1 < 2147483648 by decide), show tM (gT (wS σ s) 1) = false from t1, show ix (nI e) (tL (gT (wS σ s) 1)) = true from ix_t (R := tL (gT σ 1)) (by show e < tL (gT σ 1); omega) (by show tL (gT σ 1) < _; omega), z_cl (by omega)]
  rfl
theorem cut_jN : ∀ o : Option Nat, (∀ a, o = some a → a < 4) → cutJ 0 (jN o) = jN o ∧ inR 1 (jN o) = true ∧ knO (jN o) = o ∧ (∀ a, o = some a → inR 0 (jN o) = true ∧ kdN (jN o) = a) := by
  intro o h
  cases o with
  | none => exact ⟨by decide, by decide, by decide, fun a e => by cases e⟩
  | some a =>
    have := h a rfl
    have key : ∀ a, a < 4 → cutJ 0 (jN (some a)) = jN (some a) ∧ inR 1 (jN (some a)) = true ∧ knO (jN (some a)) = some a ∧ (inR 0 (jN (some a)) = true ∧ kdN (jN (some a)) = a) := by decide
    obtain ⟨k1, k2, k3, k4⟩ := key a this
    exact ⟨k1, k2, k3, fun b e => by cases e; exact k4⟩
def setO (g : Nat → Option Nat) (e : Nat) (o : Option Nat) : Nat → Option Nat := fun j => if j = e then o else g j
theorem setO_at (g : Nat → Option Nat) (e : Nat) (o : Option Nat) (j : Nat) : setO g e o j = if j = e then o else g j := rfl
/-- behind a write the TRAY tells so much more -/
theorem TT_write {W e : Nat} {g : Nat → Option Nat} {o : Option Nat} (h : RTr σ W) (hg : ∀ j, j < W → j ≠ e → tV (gT σ 1) j = jN (g j) ∧ ∀ a, g j = some a → a < 4) (ho : ∀ a, o = some a → a < 4) : TTk (wT σ (updT (gT σ) 1 (trW (gT σ 1) e (jN o)))) W (setO g e o) := by
  obtain ⟨t1, t2, t3⟩ := h
  have e1 : gT (wT σ (updT (gT σ) 1 (trW (gT σ 1) e (jN o)))) 1 = trW (gT σ 1) e (jN o) := by
    show (if 1 = 1 then trW (gT σ 1) e (jN o) else gT σ 1) = _
    exact if_pos rfl
  unfold TTk
  rw [e1]
  refine ⟨t1, t2, t3, fun j hj => ?_⟩
  have e2 : tV (trW (gT σ 1) e (jN o)) j = if j = e then cutJ (tS (gT σ 1)) (jN o) else tV (gT σ 1) j := rfl
  rw [e2, t2, setO_at]
  by_cases hje : j = e
  · rw [if_pos hje, if_pos hje]
    exact ⟨(cut_jN o ho).1, ho⟩
  · rw [if_neg hje, if_neg hje]
    exact hg j hj hje
theorem kS1 {W : Nat} {g : Nat → Option Nat} (h : TTk σ W g) (hW : cW (gX σ) = W) (s : Int32) : kindS 1 1 (wS σ s) = 0 := by
  obtain ⟨t1, t2, t3, t4⟩ := h
  unfold kindS
  have hr : runS 1 (wS σ s) = 0 := by
    unfold runS
    rw [if_neg (show ¬ tM (gT (wS σ s) 1) = true from by rw [show tM (gT (wS σ s) 1) = false from t1]; decide), if_pos (show cW (gX (wS σ s)) ≤ tL (gT (wS σ s) 1) from by show cW (gX σ) ≤ tL (gT σ 1); omega)]
  rw [if_pos hr, if_pos (allb_iff.mpr (fun k hk => ?_))]
  have hk : k < cW (gX σ) := hk
  obtain ⟨a, b⟩ := t4 k (by omega)
  rw [show tV (gT (wS σ s) 1) k = jN (g k) from a]
  exact (cut_jN _ b).2.1
theorem kS0 {W : Nat} {g : Nat → Option Nat} (h : TTk σ W g) (hW : cW (gX σ) = W) (hs : ∀ j, j < W → ∃ a, g j = some a) (s : Int32) : kindS 0 1 (wS σ s) = 0 := by
  obtain ⟨t1, t2, t3, t4⟩ := h
  unfold kindS
  have hr : runS 1 (wS σ s) = 0 := by
    unfold runS
    rw [if_neg (show ¬ tM (gT (wS σ s) 1) = true from by rw [show tM (gT (wS σ s) 1) = false from t1]; decide), if_pos (show cW (gX (wS σ s)) ≤ tL (gT (wS σ s) 1) from by show cW (gX σ) ≤ tL (gT σ 1); omega)]
  rw [if_pos hr, if_pos (allb_iff.mpr (fun k hk => ?_))]
  have hk : k < cW (gX σ) := hk
  obtain ⟨a, b⟩ := t4 k (by omega)
  obtain ⟨c, hc⟩ := hs k (by omega)
  rw [show tV (gT (wS σ s) 1) k = jN (g k) from a]
  exact ((cut_jN _ b).2.2.2 c hc).1
theorem kn_T {W : Nat} {g : Nat → Option Nat} (h : TTk σ W g) : ∀ j, j < W → knT 1 σ j = g j := fun j hj => by
  obtain ⟨a, b⟩ := h.2.2.2 j hj
  unfold knT
  rw [a]
  exact (cut_jN _ b).2.2.1
def flG (σ : Sg) (k : Nat) (g : Nat → Option Nat) : Nat := wv (dL (gY σ) k) (rnN (gY σ) k (dL (gY σ) k)) g (cW (gX σ)) (dL (gY σ) k)
theorem snS_0 {W k : Nat} {g : Nat → Option Nat} (hD : dC (gY σ) ≤ 6) (hT : TTk σ W g) (hW : cW (gX σ) = W) (hk : k < dC (gY σ)) (s : Int32) : snS (nI k) (nI 1) (wS σ s) = 0 := by
  unfold snS
  rw [if_pos (ix_t (show 1 < 4 by decide) (by decide)), if_pos (show ix (nI k) (dC (gY (wS σ s))) = true from ix_t (R := dC (gY σ)) hk (by omega)), z_cl (show 1 < 2147483648 by decide)]
  exact kS1 hT hW s
theorem flN_G {W k : Nat} {g : Nat → Option Nat} (hT : TTk σ W g) (hW : cW (gX σ) = W) (hk : k < 2147483648) (s : Int32) : flN (nI k) (nI 1) (wS σ s) (knT 1 (wS σ s)) = flG σ k g := by
  unfold flN flG
  rw [z_cl hk, show gY (wS σ s) = gY σ from rfl, show gX (wS σ s) = gX σ from rfl, show knT 1 (wS σ s) = knT 1 σ from rfl, hW, wv_congr W (kn_T hT)]
theorem c_fills (h : CO hA M σ) {W k : Nat} {g : Nat → Option Nat} (hT : TTk σ W g) (hW : cW (gX σ) = W) (hk : k < dC (gY σ)) : ∃ M', f_KT_fills (nI k) (nI 1) M = some (nI (flG σ k g), M') ∧ CO hA M' σ := by
  have h3 := (cOD h).2.1
  refine CO_call (pC_fills _ _) h (fun s => ⟨nI 0, ?_⟩)
  unfold o_fills
  rw [snS_0 h3 hT hW hk, z_cl (show 1 < 2147483648 by decide), flN_G hT hW (by omega)]
  rfl
theorem c_sure (h : CO hA M σ) {W k e b : Nat} {g : Nat → Option Nat} (hT : TTk σ W g) (hW : cW (gX σ) = W) (hk : k < dC (gY σ)) (he : e < W) (hg : g e = some b) (hf : flG σ k g ≠ 0) : ∃ M', f_KT_sure (nI k) (nI 1) (nI e) M = some (nI b, M') ∧ CO hA M' σ := by
  have h3 := (cOD h).2.1
  have h1 := (cOC h).1.2
  refine CO_call (pC_sure _ _ _) h (fun s => ⟨nI 0, ?_⟩)
  have hs : suO k 1 e (wS σ s) = some b := by
    unfold suO suN
    rw [show gY (wS σ s) = gY σ from rfl, show gX (wS σ s) = gX σ from rfl, show knT 1 (wS σ s) = knT 1 σ from rfl]
    have e1 : wv (dL (gY σ) k) (rnN (gY σ) k (dL (gY σ) k)) (knT 1 σ) (cW (gX σ)) (dL (gY σ) k) = flG σ k g := by
      unfold flG
      rw [hW, wv_congr W (kn_T hT)]
    rw [e1, if_neg hf, kn_T hT e he, hg]
  unfold o_sure
  rw [ix_t (show 1 < 4 by decide) (by decide), show ix (nI e) (cW (gX (wS σ s))) = true from ix_t (R := cW (gX σ)) (by show e < cW (gX σ); omega) (by show cW (gX σ) < _; omega), snS_0 h3 hT hW hk, z_cl (show k < 2147483648 by omega), z_cl (show 1 < 2147483648 by decide), z_cl (show e < 2147483648 by omega), hs]
  rfl
theorem c_look (h : CO hA M σ) {W k : Nat} {g : Nat → Option Nat} (hT : TTk σ W g) (hW : cW (gX σ) = W) (hk : k < dC (gY σ)) : ∃ M', f_KT_look (nI k) (nI 1) M = some (if 2 ≤ flG σ k g then lI (lkA (dL (gY σ) k) (rnN (gY σ) k (dL (gY σ) k)) W (knT 1 σ)) else -nI 1, M') ∧ CO hA M' σ := by
  have h3 := (cOD h).2.1
  by_cases h2 : 2 ≤ flG σ k g
  · rw [if_pos h2]
    refine CO_call (pC_look _ _) h (fun s => ⟨nI 0, ?_⟩)
    unfold o_look
    rw [snS_0 h3 hT hW hk, z_cl (show 1 < 2147483648 by decide), flN_G hT hW (by omega), if_pos h2, z_cl (by omega), show gX (wS σ s) = gX σ from rfl, hW]
    rfl
  · rw [if_neg h2]
    refine CO_call (pC_look _ _) h (fun s => ⟨nI 8, ?_⟩)
    unfold o_look
    rw [snS_0 h3 hT hW hk, z_cl (show 1 < 2147483648 by decide), flN_G hT hW (by omega), if_neg h2]
    rfl
theorem c_needs (h : CO hA M σ) {W : Nat} {g : Nat → Option Nat} (hT : TTk σ W g) (hW : cW (gX σ) = W) (hs : ∀ j, j < W → ∃ a, g j = some a) : ∃ M', f_KT_needs (nI 1) M = some (nI (takN 1 W σ), M') ∧ CO hA M' σ := by
  refine CO_call (pC_needs _) h (fun s => ⟨nI 0, ?_⟩)
  unfold o_needs
  rw [ix_t (show 1 < 4 by decide) (by decide), z_cl (show 1 < 2147483648 by decide), kS0 hT hW hs, show cW (gX (wS σ s)) = W from hW]
  rfl
theorem c_knit (h : CO hA M σ) {W q : Nat} {g : Nat → Option Nat} (hT : TTk σ W g) (hW : cW (gX σ) = W) (hs : ∀ j, j < W → ∃ a, g j = some a) (hq : q < dQ (gY σ)) (hR : cR (gX σ) < 12) (hw : takN 1 W σ ≤ dO (gY σ) q) : ∃ M' y, f_KT_knit (nI q) (nI 1) M = some (nI (cR (gX σ) + 1), M') ∧ CO hA M' (wNow σ (knX (gX σ) q (fun j => kdN (tV (gT σ 1) j)), y, gZ σ)) := by
  have h1 := (cOD h).1
  obtain ⟨M', a1, a2⟩ := CO_call (pC_knit (nI q) (nI 1)) h (a := nI (cR (gX σ) + 1)) (σ' := wNow σ (knX (gX σ) q (fun j => kdN (tV (gT σ 1) j)), wdO (gY σ) (updN (dO (gY σ)) q (dO (gY σ) q - takN 1 (cW (gX σ)) σ)), gZ σ)) (fun s => ⟨nI 0, by
    unfold o_knit
    rw [ix_t (show 1 < 4 by decide) (by decide), show ix (nI q) (dQ (gY (wS σ s))) = true from ix_t (R := dQ (gY σ)) hq (by omega), z_cl (show 1 < 2147483648 by decide), kS0 hT hW hs, z_cl (show q < 2147483648 by omega), show decide (cR (gX (wS σ s)) < 12) = true from decide_eq_true hR, show decide (takN 1 (cW (gX (wS σ s))) (wS σ s) ≤ dO (gY (wS σ s)) q) = true from decide_eq_true (by show takN 1 (cW (gX σ)) σ ≤ dO (gY σ) q; rw [hW]; exact hw)]
    rfl⟩)
  exact ⟨M', _, a1, a2⟩
theorem c_tray0 (h : CO hA M σ) {n : Nat} (hn : n ≤ 60) {t : Nat} (ht : t < 4) : ∃ M', f_KT_tray (nI t) (nI 0) (nI n) M = some (nI 1, M') ∧ CO hA M' (wT σ (updT (gT σ) t (false, 0, n, fun _ => 0))) := by
  refine CO_call (pC_tray _ _ _) h (fun s => ⟨nI 0, ?_⟩)
  have e : trS (nI t) (nI 0) (nI n) = 0 := by
    unfold trS
    rw [if_pos (ix_t ht (by decide)), if_pos (rg_t (Nat.zero_le _) (Nat.zero_le _) (by decide)), if_pos (nI_le hn (by decide)), if_pos (nI_le (Nat.zero_le _) (by omega))]
  unfold o_tray
  rw [e, z_cl (show t < 2147483648 by omega), z_cl (show 0 < 2147483648 by decide), z_cl (show n < 2147483648 by omega)]
  rfl
end
