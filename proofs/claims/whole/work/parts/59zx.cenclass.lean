/-! ## CENTURIES' text: the class's script -/
/-- the script at d: so many steps, the entries -/
def SpC (M : kx_M) (d : Nat) (s : Cs) : Prop := mI M d 5 = nI (vvK s) ∧ mI M d 6 = nI (vvE s) ∧ ∀ i, i < vvE s → mA M (d + 1) i = nI (vvO s i) ∧ mA M (d + 2) i = nI (vvA s i) ∧ mA M (d + 3) i = nI (vvB s i) ∧ mA M (d + 4) i = nI (vvM s i)
/-- the entries of what is open -/
def OpC (M : kx_M) : List (Nat × Nat) → Prop
  | [] => True
  | q :: L => mA M 12 L.length = nI q.2 ∧ OpC M L
section
variable {M M' : kx_M} {s : Cs} {d : Nat}
theorem OpC_fr : ∀ {L : List (Nat × Nat)}, (∀ i, i < L.length → mA M' 12 i = mA M 12 i) → OpC M L → OpC M' L
  | [], _, _ => True.intro
  | q :: L, h, ⟨h1, h2⟩ => ⟨(h L.length (Nat.lt_succ_self _)).trans h1, OpC_fr (fun i hi => h i (Nat.lt_succ_of_lt hi)) h2⟩
/-- one more entry -/
theorem q_add {e o a b : Nat} (hd : 27 ≤ d) (he : e < 60) (h : mI M d 6 = nI e) : ∃ M', f_Script_add d (nI o) (nI a) (nI b) M = some ((), M') ∧ mI M' d 6 = nI (e + 1) ∧ (∀ k, k ≠ 6 → mI M' d k = mI M d k) ∧ (∀ i, mA M' (d + 1) i = if i = e then nI o else mA M (d + 1) i) ∧ (∀ i, mA M' (d + 2) i = if i = e then nI a else mA M (d + 2) i) ∧ (∀ i, mA M' (d + 3) i = if i = e then nI b else mA M (d + 3) i) ∧ (∀ i, mA M' (d + 4) i = if i = e then nI e else mA M (d + 4) i) ∧ Fr (fun id => d ≤ id ∧ id ≤ d + 4) M M' := by
  obtain ⟨M1, h1⟩ : ∃ M1, M1 = sA M (d + 1) (upd (mA M (d + 1)) e (nI o)) := ⟨_, rfl⟩
  obtain ⟨M2, h2⟩ : ∃ M2, M2 = sA M1 (d + 2) (upd (mA M1 (d + 2)) e (nI a)) := ⟨_, rfl⟩
  obtain ⟨M3, h3⟩ : ∃ M3, M3 = sA M2 (d + 3) (upd (mA M2 (d + 3)) e (nI b)) := ⟨_, rfl⟩
  obtain ⟨M4, h4⟩ : ∃ M4, M4 = sA M3 (d + 4) (upd (mA M3 (d + 4)) e (nI e)) := ⟨_, rfl⟩
  have i1 : ∀ r k, mI M1 r k = mI M r k := fun r k => by rw [h1]; rfl
  have i2 : ∀ r k, mI M2 r k = mI M1 r k := fun r k => by rw [h2]; rfl
  have i3 : ∀ r k, mI M3 r k = mI M2 r k := fun r k => by rw [h3]; rfl
  have i4 : ∀ r k, mI M4 r k = mI M3 r k := fun r k => by rw [h4]; rfl
  have A1 : ∀ r, r ≠ d + 1 → mA M1 r = mA M r := fun r hr => by rw [h1, mA_sA, if_neg hr]
  have A2 : ∀ r, r ≠ d + 2 → mA M2 r = mA M1 r := fun r hr => by rw [h2, mA_sA, if_neg hr]
  have A3 : ∀ r, r ≠ d + 3 → mA M3 r = mA M2 r := fun r hr => by rw [h3, mA_sA, if_neg hr]
  have A4 : ∀ r, r ≠ d + 4 → mA M4 r = mA M3 r := fun r hr => by rw [h4, mA_sA, if_neg hr]
  have e1 : mI M1 d 6 = nI e := (i1 d 6).trans h
  have e2 : mI M2 d 6 = nI e := (i2 d 6).trans e1
  have e3 : mI M3 d 6 = nI e := (i3 d 6).trans e2
  have e4 : mI M4 d 6 = nI e := (i4 d 6).trans e3
  refine ⟨sI M4 d 6 (nI (e + 1)), ?_, ?_, fun k hk => ?_, fun i => ?_, fun i => ?_, fun i => ?_, fun i => ?_, ?_⟩
  · rw [f_Script_add]
    simp (disch := first | assumption | omega) only [z_bdn, z_caln, z_gdn, z_iT, z_iF, z_le_t, z_le_f, z_lt_t, z_lt_f, z_cl, z_inb, z_at, z_pl, z_lit, nI_ii1, nI_add, z_mr, z_ref0, z_refn, z_eq_f, Bool.not_true, Bool.not_false, b2i_t, b2i_f, h, ← h1, e1, ← h2, e2, ← h3, e3, ← h4, e4]
  · rw [mI_sI, if_pos ⟨rfl, rfl⟩]
  · rw [mI_sI, if_neg (fun e => hk e.2), i4, i3, i2, i1]
  · show mA M4 (d + 1) i = _
    rw [A4 _ (by omega), A3 _ (by omega), A2 _ (by omega), h1, mA_sA, if_pos rfl, upd_at]
  · show mA M4 (d + 2) i = _
    rw [A4 _ (by omega), A3 _ (by omega), h2, mA_sA, if_pos rfl, upd_at, A1 _ (by omega)]
  · show mA M4 (d + 3) i = _
    rw [A4 _ (by omega), h3, mA_sA, if_pos rfl, upd_at, A2 _ (by omega), A1 _ (by omega)]
  · show mA M4 (d + 4) i = _
    rw [h4, mA_sA, if_pos rfl, upd_at, A3 _ (by omega), A2 _ (by omega), A1 _ (by omega)]
  · rw [h4, h3, h2, h1]
    exact Fr.tr (Fr.sA (by omega)) (Fr.tr (Fr.sA (by omega)) (Fr.tr (Fr.sA (by omega)) (Fr.tr (Fr.sA (by omega)) (Fr.sI (by omega)))))
/-- two entries are mates -/
theorem q_couple {p e : Nat} (hp : p < 60) (he : e < 60) (hne : p ≠ e) : ∃ M', f_Script_couple d (nI p) (nI e) M = some ((), M') ∧ (∀ i, mA M' (d + 4) i = if i = e then nI p else if i = p then nI e else mA M (d + 4) i) ∧ Fr (fun id => id = d + 4) M M' ∧ (∀ r k, mI M' r k = mI M r k) := by
  refine ⟨sA (sA M (d + 4) (upd (mA M (d + 4)) p (nI e))) (d + 4) (upd (mA (sA M (d + 4) (upd (mA M (d + 4)) p (nI e))) (d + 4)) e (nI p)), ?_, fun i => ?_, Fr.tr (Fr.sA rfl) (Fr.sA rfl), fun r k => rfl⟩
  · rw [f_Script_couple]
    simp (disch := first | assumption | omega) only [z_bdn, z_caln, z_gdn, z_iT, z_iF, z_le_t, z_le_f, z_lt_t, z_lt_f, z_cl, z_inb, z_at, z_pl, z_lit, nI_ii1, nI_add, z_mr, z_ref0, z_refn, z_eq_f, Bool.not_true, Bool.not_false, b2i_t, b2i_f]
  · rw [mA_sA, if_pos rfl, upd_at, mA_sA, if_pos rfl, upd_at]
end
