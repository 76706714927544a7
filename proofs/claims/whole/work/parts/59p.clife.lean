/-! ## CENTURIES: the class -/
def lvJ (v : Lv) (j : Nat) : Nat := match j with
  | 1 => vS v
  | 2 => vN v
  | 3 => vI v
  | 4 => vY v
  | 5 => vF v
  | 6 => vD v
  | _ => vC v
def LV (M : kx_M) (p0 c : Nat) (v : Lv) : Prop := CC M c (vX v) ∧ ∀ j, 1 ≤ j → j ≤ 7 → mI M p0 j = nI (lvJ v j)
def inA (p0 c : Nat) : Nat → Prop := fun id => id = p0 ∨ (c ≤ id ∧ id ≤ c + 5)
def inL (p0 c : Nat) : Nat → Prop := fun id => id = p0 ∨ id = p0 + 1 ∨ (c ≤ id ∧ id ≤ c + 5)
section
variable {M M' : kx_M} {σ : Sg} {y : De} {x : Cl} {v w : Lv} {W C : Nat} {z : Nat → Nat → Int32} {p0 c : Nat}
theorem LV_set {k u : Nat} (h : LV M p0 c v) (hc : p0 + 1 < c) (hx : vX w = vX v) (hk : lvJ w k = u) (ho : ∀ j, 1 ≤ j → j ≤ 7 → j ≠ k → lvJ w j = lvJ v j) : LV (sI M p0 k (nI u)) p0 c w := by
  obtain ⟨h1, h2⟩ := h
  have hF : Fr (fun id => id = p0) M (sI M p0 k (nI u)) := Fr.sI rfl
  refine ⟨by rw [hx]; exact CC_fr hF (fun id a b e => by omega) h1, fun j a b => ?_⟩
  rw [mI_sI]
  by_cases hj : j = k
  · rw [if_pos ⟨rfl, hj⟩, hj, hk]
  · rw [if_neg (fun e => hj e.2), h2 j a b, ho j a b hj]
theorem LV_cl (h : LV M p0 c v) (hc : p0 + 1 < c) (hF : Fr (inC c) M M') {x : Cl} (hC : CC M' c x) : LV M' p0 c (mkV x (vS v) (vN v) (vI v) (vY v) (vF v) (vD v) (vO v) (vC v)) := by
  obtain ⟨h1, h2⟩ := h
  refine ⟨hC, fun j a b => ?_⟩
  have g := (hF p0 (fun e => by have := e.1; omega)).1 j
  rw [g, h2 j a b]
  rfl
theorem LV_X (h : LV M p0 c v) (hs : ∀ j, 1 ≤ j → j ≤ 7 → lvJ w j = lvJ v j) (hx : vX w = vX v) : LV M p0 c w := ⟨by rw [hx]; exact h.1, fun j a b => by rw [h.2 j a b, hs j a b]⟩
theorem inA_C (hF : Fr (inC c) M M') : Fr (inA p0 c) M M' := hF.mono (fun id e => Or.inr e)
theorem inA_0 (hF : Fr (fun id => id = p0) M M') : Fr (inA p0 c) M M' := hF.mono (fun id e => Or.inl e)
theorem inL_A (hF : Fr (inA p0 c) M M') : Fr (inL p0 c) M M' := hF.mono (fun id e => e.elim Or.inl (fun e => Or.inr (Or.inr e)))
theorem inL_C (hF : Fr (inC c) M M') : Fr (inL p0 c) M M' := hF.mono (fun id e => Or.inr (Or.inr e))
theorem inL_0 (hF : Fr (fun id => id = p0) M M') : Fr (inL p0 c) M M' := hF.mono (fun id e => Or.inl e)
def camV (v : Lv) (u : Nat) : Lv := mkV (vX v) (vS v) (vN v) (vI v + (if u = 0 then 1 else 0)) (vY v) (vF v + u) (vD v) (vO v) (vC v)
theorem jx {P : Nat → Prop} (h1 : P 1) (h2 : P 2) (h3 : P 3) (h4 : P 4) (h5 : P 5) (h6 : P 6) (h7 : P 7) : ∀ j, 1 ≤ j → j ≤ 7 → P j := fun j a b => by
  rcases j with _ | _ | _ | _ | _ | _ | _ | _ | j
  · omega
  · exact h1
  · exact h2
  · exact h3
  · exact h4
  · exact h5
  · exact h6
  · exact h7
  · omega
theorem q_came {u : Nat} (h : LV M p0 c v) (hc : p0 + 1 < c) (hu : u ≤ 96) : ∃ M', f_Life_came p0 (nI u) M = some ((), M') ∧ LV M' p0 c (camV v u) ∧ Fr (fun id => id = p0) M M' := by
  have e5 : mI M p0 5 = nI (vF v) := h.2 5 (by omega) (by omega)
  have e3 : mI (sI M p0 5 (nI (vF v + u))) p0 3 = nI (vI v) := by
    rw [mI_sI, if_neg (fun e => by have := e.2; omega)]
    exact h.2 3 (by omega) (by omega)
  have h1 : LV (sI M p0 5 (nI (vF v + u))) p0 c (mkV (vX v) (vS v) (vN v) (vI v) (vY v) (vF v + u) (vD v) (vO v) (vC v)) := LV_set h hc rfl rfl (jx (fun _ => rfl) (fun _ => rfl) (fun _ => rfl) (fun _ => rfl) (fun e => absurd rfl e) (fun _ => rfl) (fun _ => rfl))
  rw [f_Life_came]
  by_cases h0 : u = 0
  · subst h0
    have h2 : LV (sI (sI M p0 5 (nI (vF v + 0))) p0 3 (nI (vI v + 1))) p0 c (camV v 0) := LV_set h1 hc rfl rfl (jx (fun _ => rfl) (fun _ => rfl) (fun e => absurd rfl e) (fun _ => rfl) (fun _ => rfl) (fun _ => rfl) (fun _ => rfl))
    refine ⟨_, ?_, h2, Fr.tr (Fr.sI rfl) (Fr.sI rfl)⟩
    simp (disch := first | assumption | omega) only [z_bdn, z_caln, z_gdn, z_iT, z_iF, z_le_t, z_le_f, z_lt_t, z_lt_f, z_cl, z_inb, z_at, z_pl, z_lit, nI_ii1, nI_add, z_mr, z_ref0, z_refn, z_eq_f, Bool.not_true, Bool.not_false, b2i_t, b2i_f, e5, e3, eq_self]
  · refine ⟨sI M p0 5 (nI (vF v + u)), ?_, ?_, Fr.sI rfl⟩
    · simp (disch := first | assumption | omega) only [z_bdn, z_caln, z_gdn, z_iT, z_iF, z_le_t, z_le_f, z_lt_t, z_lt_f, z_cl, z_inb, z_at, z_pl, z_lit, nI_ii1, nI_add, z_mr, z_ref0, z_refn, z_eq_f, Bool.not_true, Bool.not_false, b2i_t, b2i_f, e5]
    · unfold camV
      rw [if_neg h0]
      exact h1
theorem q_Ldraw {n : Nat} (h : LV M p0 c v) (hc : p0 + 1 < c) (hs : vS v < 65536) (hn : 0 < n) (hn2 : n < 1000) : f_Life_draw p0 (nI n) M = some (nI (sdN (vS v) / 8 % n), sI M p0 1 (nI (sdN (vS v)))) ∧ LV (sI M p0 1 (nI (sdN (vS v)))) p0 c (sedV v) := by
  have e1 : mI M p0 1 = nI (vS v) := h.2 1 (by omega) (by omega)
  refine ⟨?_, LV_set h hc rfl rfl (jx (fun e => absurd rfl e) (fun _ => rfl) (fun _ => rfl) (fun _ => rfl) (fun _ => rfl) (fun _ => rfl) (fun _ => rfl))⟩
  have g1 := sd_32 hs
  have e2 := dr_32 (sdN_lt (vS v)) (show n < 65536 by omega)
  have e3 : nz (nI n) = true := decide_eq_true (nI_ne0 (by omega) (by omega))
  have e4 : mI (sI M p0 1 (nI (sdN (vS v)))) p0 1 = nI (sdN (vS v)) := by rw [mI_sI, if_pos ⟨rfl, rfl⟩]
  rw [f_Life_draw]
  simp only [z_lit]
  rw [e1, g1]
  simp (disch := first | assumption | omega) only [z_bdn, z_gdn, e3, e4, e2, z_le_f, z_iF]
/-- what a step does -/
theorem q_act {f : Nat → Int32} {o a b : Int32} (hv : OkV W v) (h : LV M p0 c v) (hc : p0 + 1 < c) (hk : stepOk W C f) (he : entOk f o a b) (h5 : nN (f 0) < 5) : ∃ M', f_Life_act p0 c o a b M = some ((), M') ∧ LV M' p0 c (lvA (nN (f 0)) (nN (f 1)) (nN (f 2)) v) ∧ Fr (inA p0 c) M M' := by
  have w3 := hv.1.2.2.1
  have w2 := hv.1.1.2
  have w1 := hv.1.1.1
  have hW := hv.2.1
  have e3 : mI M p0 3 = nI (vI v) := h.2 3 (by omega) (by omega)
  have eR : mI M c 7 = nI (cR (vX v)) := h.1.2.2.1
  have eW : mI M c 5 = nI (cW (vX v)) := h.1.1
  have eY : mI M c 8 = nI (cY (vX v)) := h.1.2.2.2.1
  have miss : LV (sI M p0 3 (nI (vI v + 1))) p0 c (misV v) := LV_set h hc rfl rfl (jx (fun _ => rfl) (fun _ => rfl) (fun e => absurd rfl e) (fun _ => rfl) (fun _ => rfl) (fun _ => rfl) (fun _ => rfl))
  have cam0 : LV M p0 c v → ∃ M', f_Life_came p0 (nI 0) M = some ((), M') ∧ LV M' p0 c (misV v) ∧ Fr (inA p0 c) M M' := fun h => by
    obtain ⟨M', c1, c2, c3⟩ := q_came (u := 0) h hc (by omega)
    exact ⟨M', c1, c2, inA_0 c3⟩
  have ne : ∀ {i j : Nat}, i ≠ j → i < 100 → j < 100 → f 0 = nI i → f 0 = nI j → False := fun hij h1 h2 e1 e2 => by
    rw [e1, z_kn hij h1 h2] at e2; exact e2
  rw [f_Life_act]
  rcases hk with ⟨k0, s, s1, s2, ka⟩ | ⟨k0, s, t, s1, t1, ka, kb⟩ | ⟨k0, s, t, s1, t1, ka, kb⟩ | ⟨k0, s, t, s1, t1, ka, kb⟩ | k0 | ⟨k0, -⟩ | ⟨k0, -⟩ | k0
  · obtain ⟨ho, hea⟩ : o = nI 14 ∧ a = f 1 := by
      rcases he with ⟨-, h1, h2⟩ | ⟨g0, -⟩ | ⟨g0, -⟩ | ⟨g0, -⟩ | ⟨g0, -⟩ | ⟨g0, -⟩ | ⟨g0, -⟩ | ⟨g0, -⟩
      · exact ⟨h1, h2⟩
      all_goals exact (ne (by omega) (by omega) (by omega) k0 g0).elim
    rw [ho, hea, k0, ka, nN_nI (by omega), nN_nI (by omega)]
    by_cases hy : cY (vX v) + s ≤ 9999
    · have el : lvA 0 s (nN (f 2)) v = mkV (yrM (vX v) s) (vS v) (vN v) (vI v) (vY v + s) (vF v + (yrs (vX v) s).2) (vD v) (vO v) (vC v) := by
        unfold lvA; rw [if_pos rfl, if_pos hy]
      rw [el]
      have e4 : mI M p0 4 = nI (vY v) := h.2 4 (by omega) (by omega)
      have h1 : LV (sI M p0 4 (nI (vY v + s))) p0 c (mkV (vX v) (vS v) (vN v) (vI v) (vY v + s) (vF v) (vD v) (vO v) (vC v)) := LV_set h hc rfl rfl (jx (fun _ => rfl) (fun _ => rfl) (fun _ => rfl) (fun e => absurd rfl e) (fun _ => rfl) (fun _ => rfl) (fun _ => rfl))
      obtain ⟨M2, c1, c2, c3⟩ := q_years (N := s) (by omega) hv.1 h1.1
      have h2 := LV_cl h1 hc c3 c2
      have e5 : mI (sI M p0 4 (nI (vY v + s))) p0 5 = nI (vF v) := h1.2 5 (by omega) (by omega)
      have h3 : LV (sI M2 p0 5 (nI (vF v + (yrs (vX v) s).2))) p0 c (mkV (yrM (vX v) s) (vS v) (vN v) (vI v) (vY v + s) (vF v + (yrs (vX v) s).2) (vD v) (vO v) (vC v)) := LV_set h2 hc rfl rfl (jx (fun _ => rfl) (fun _ => rfl) (fun _ => rfl) (fun _ => rfl) (fun e => absurd rfl e) (fun _ => rfl) (fun _ => rfl))
      refine ⟨_, ?_, h3, (inA_0 (Fr.sI rfl)).tr ((inA_C c3).tr (inA_0 (Fr.sI rfl)))⟩
      simp (disch := first | assumption | omega) only [z_bdn, z_caln, z_gdn, z_iT, z_iF, z_le_t, z_le_f, z_lt_t, z_lt_f, z_cl, z_inb, z_at, z_pl, z_lit, nI_ii1, nI_add, z_mr, z_ref0, z_refn, z_eq_f, Bool.not_true, Bool.not_false, b2i_t, b2i_f, z_kn, eq_self, eY, e4, c1, e5]
    · have el : lvA 0 s (nN (f 2)) v = misV v := by unfold lvA; rw [if_pos rfl, if_neg hy]
      rw [el]
      have hcy := hv.2.2.1
      refine ⟨_, ?_, miss, inA_0 (Fr.sI rfl)⟩
      simp (disch := first | assumption | omega) only [z_bdn, z_caln, z_gdn, z_iT, z_iF, z_le_t, z_le_f, z_lt_t, z_lt_f, z_cl, z_inb, z_at, z_pl, z_lit, nI_ii1, nI_add, z_mr, z_ref0, z_refn, z_eq_f, Bool.not_true, Bool.not_false, b2i_t, b2i_f, z_kn, eq_self, eY, e3]
  · obtain ⟨ho, hea, heb⟩ : o = nI 15 ∧ a = f 1 ∧ b = f 2 := by
      rcases he with ⟨g0, -⟩ | ⟨-, h1, h2, h3⟩ | ⟨g0, -⟩ | ⟨g0, -⟩ | ⟨g0, -⟩ | ⟨g0, -⟩ | ⟨g0, -⟩ | ⟨g0, -⟩
      · exact (ne (by omega) (by omega) (by omega) k0 g0).elim
      · exact ⟨h1, h2, h3⟩
      all_goals exact (ne (by omega) (by omega) (by omega) k0 g0).elim
    rw [ho, hea, heb, k0, ka, kb, nN_nI (by omega), nN_nI (by omega), nN_nI (by omega)]
    by_cases hr : s < cR (vX v)
    · have el : lvA 1 s t v = came v (pulU (vX v) s t) (pulX (vX v) s t) := by unfold lvA; rw [if_neg (by omega), if_neg (by omega), if_pos hr, if_pos rfl]
      rw [el]
      obtain ⟨M1, c1, c2, c3⟩ := q_pull hv.1 h.1 hr t1
      obtain ⟨M', d1, d2, d3⟩ := q_came (LV_cl h hc c3 c2) hc (pulU_n hv.1 s t)
      refine ⟨M', ?_, d2, (inA_C c3).tr (inA_0 d3)⟩
      simp (disch := first | assumption | omega) only [z_bdn, z_caln, z_gdn, z_iT, z_iF, z_le_t, z_le_f, z_lt_t, z_lt_f, z_cl, z_inb, z_at, z_pl, z_lit, nI_ii1, nI_add, z_mr, z_ref0, z_refn, z_eq_f, Bool.not_true, Bool.not_false, b2i_t, b2i_f, z_kn, eq_self, eR, c1, d1]
    · have el : lvA 1 s t v = misV v := by unfold lvA; rw [if_neg (by omega), if_neg (by omega), if_neg hr]
      rw [el]
      obtain ⟨M', d1, d2, d3⟩ := cam0 h
      refine ⟨M', ?_, d2, d3⟩
      simp (disch := first | assumption | omega) only [z_bdn, z_caln, z_gdn, z_iT, z_iF, z_le_t, z_le_f, z_lt_t, z_lt_f, z_cl, z_inb, z_at, z_pl, z_lit, nI_ii1, nI_add, z_mr, z_ref0, z_refn, z_eq_f, Bool.not_true, Bool.not_false, b2i_t, b2i_f, z_kn, eq_self, eR, d1]
  · obtain ⟨ho, hea, heb⟩ : o = nI 16 ∧ a = f 1 ∧ b = f 2 := by
      rcases he with ⟨g0, -⟩ | ⟨g0, -⟩ | ⟨-, h1, h2, h3⟩ | ⟨g0, -⟩ | ⟨g0, -⟩ | ⟨g0, -⟩ | ⟨g0, -⟩ | ⟨g0, -⟩
      · exact (ne (by omega) (by omega) (by omega) k0 g0).elim
      · exact (ne (by omega) (by omega) (by omega) k0 g0).elim
      · exact ⟨h1, h2, h3⟩
      all_goals exact (ne (by omega) (by omega) (by omega) k0 g0).elim
    rw [ho, hea, heb, k0, ka, kb, nN_nI (by omega), nN_nI (by omega), nN_nI (by omega)]
    by_cases hr : s < cR (vX v)
    · have el : lvA 2 s t v = came v (eatU (vX v) s t) (eatX (vX v) s t) := by unfold lvA; rw [if_neg (by omega), if_neg (by omega), if_pos hr, if_neg (by omega), if_pos rfl]
      rw [el]
      obtain ⟨M1, c1, c2, c3⟩ := q_eat hv.1 h.1 hr (show t < cW (vX v) by omega)
      obtain ⟨M', d1, d2, d3⟩ := q_came (LV_cl h hc c3 c2) hc (eatU_n hv.1 s t)
      refine ⟨M', ?_, d2, (inA_C c3).tr (inA_0 d3)⟩
      simp (disch := first | assumption | omega) only [z_bdn, z_caln, z_gdn, z_iT, z_iF, z_le_t, z_le_f, z_lt_t, z_lt_f, z_cl, z_inb, z_at, z_pl, z_lit, nI_ii1, nI_add, z_mr, z_ref0, z_refn, z_eq_f, Bool.not_true, Bool.not_false, b2i_t, b2i_f, z_kn, eq_self, eR, c1, d1]
    · have el : lvA 2 s t v = misV v := by unfold lvA; rw [if_neg (by omega), if_neg (by omega), if_neg hr]
      rw [el]
      obtain ⟨M', d1, d2, d3⟩ := cam0 h
      refine ⟨M', ?_, d2, d3⟩
      simp (disch := first | assumption | omega) only [z_bdn, z_caln, z_gdn, z_iT, z_iF, z_le_t, z_le_f, z_lt_t, z_lt_f, z_cl, z_inb, z_at, z_pl, z_lit, nI_ii1, nI_add, z_mr, z_ref0, z_refn, z_eq_f, Bool.not_true, Bool.not_false, b2i_t, b2i_f, z_kn, eq_self, eR, d1]
  · obtain ⟨ho, hea, heb⟩ : o = nI 17 ∧ a = f 1 ∧ b = f 2 := by
      rcases he with ⟨g0, -⟩ | ⟨g0, -⟩ | ⟨g0, -⟩ | ⟨-, h1, h2, h3⟩ | ⟨g0, -⟩ | ⟨g0, -⟩ | ⟨g0, -⟩ | ⟨g0, -⟩
      · exact (ne (by omega) (by omega) (by omega) k0 g0).elim
      · exact (ne (by omega) (by omega) (by omega) k0 g0).elim
      · exact (ne (by omega) (by omega) (by omega) k0 g0).elim
      · exact ⟨h1, h2, h3⟩
      all_goals exact (ne (by omega) (by omega) (by omega) k0 g0).elim
    rw [ho, hea, heb, k0, ka, kb, nN_nI (by omega), nN_nI (by omega), nN_nI (by omega)]
    by_cases hr : s < cR (vX v)
    · have el : lvA 3 s t v = mkV (patX (vX v) (8 * s + t)) (vS v) (vN v) (vI v) (vY v) (vF v) (vD v + 1) (vO v) (vC v) := by unfold lvA; rw [if_neg (by omega), if_neg (by omega), if_pos hr, if_neg (by omega), if_neg (by omega)]
      rw [el]
      obtain ⟨M1, c1, c2, c3⟩ := q_pat hv.1 h.1 hr (show t < cW (vX v) by omega)
      have h2 := LV_cl h hc c3 c2
      have e6 : mI M1 p0 6 = nI (vD v) := h2.2 6 (by omega) (by omega)
      have h3 : LV (sI M1 p0 6 (nI (vD v + 1))) p0 c (mkV (patX (vX v) (8 * s + t)) (vS v) (vN v) (vI v) (vY v) (vF v) (vD v + 1) (vO v) (vC v)) := LV_set h2 hc rfl rfl (jx (fun _ => rfl) (fun _ => rfl) (fun _ => rfl) (fun _ => rfl) (fun _ => rfl) (fun e => absurd rfl e) (fun _ => rfl))
      refine ⟨_, ?_, h3, (inA_C c3).tr (inA_0 (Fr.sI rfl))⟩
      simp (disch := first | assumption | omega) only [z_bdn, z_caln, z_gdn, z_iT, z_iF, z_le_t, z_le_f, z_lt_t, z_lt_f, z_cl, z_inb, z_at, z_pl, z_lit, nI_ii1, nI_add, z_mr, z_ref0, z_refn, z_eq_f, Bool.not_true, Bool.not_false, b2i_t, b2i_f, z_kn, eq_self, f_Life_patchOne, eR, c1, e6]
    · have el : lvA 3 s t v = misV v := by unfold lvA; rw [if_neg (by omega), if_neg (by omega), if_neg hr]
      rw [el]
      refine ⟨_, ?_, miss, inA_0 (Fr.sI rfl)⟩
      simp (disch := first | assumption | omega) only [z_bdn, z_caln, z_gdn, z_iT, z_iF, z_le_t, z_le_f, z_lt_t, z_lt_f, z_cl, z_inb, z_at, z_pl, z_lit, nI_ii1, nI_add, z_mr, z_ref0, z_refn, z_eq_f, Bool.not_true, Bool.not_false, b2i_t, b2i_f, z_kn, eq_self, f_Life_patchOne, eR, e3]
  · have ho : o = nI 18 := by
      rcases he with ⟨g0, -⟩ | ⟨g0, -⟩ | ⟨g0, -⟩ | ⟨g0, -⟩ | ⟨-, h1⟩ | ⟨g0, -⟩ | ⟨g0, -⟩ | ⟨g0, -⟩
      · exact (ne (by omega) (by omega) (by omega) k0 g0).elim
      · exact (ne (by omega) (by omega) (by omega) k0 g0).elim
      · exact (ne (by omega) (by omega) (by omega) k0 g0).elim
      · exact (ne (by omega) (by omega) (by omega) k0 g0).elim
      · exact h1
      all_goals exact (ne (by omega) (by omega) (by omega) k0 g0).elim
    rw [ho, k0, nN_nI (by omega)]
    by_cases hr : cR (vX v) = 0
    · have el : lvA 4 (nN (f 1)) (nN (f 2)) v = misV v := by unfold lvA; rw [if_neg (by omega), if_pos rfl, if_pos hr]
      rw [el]
      rw [hr] at eR
      refine ⟨_, ?_, miss, inA_0 (Fr.sI rfl)⟩
      simp (disch := first | assumption | omega) only [z_bdn, z_caln, z_gdn, z_iT, z_iF, z_le_t, z_le_f, z_lt_t, z_lt_f, z_cl, z_inb, z_at, z_pl, z_lit, nI_ii1, nI_add, z_mr, z_ref0, z_refn, z_eq_f, Bool.not_true, Bool.not_false, b2i_t, b2i_f, z_kn, eq_self, f_Life_anyMoth, eR, e3]
    · have el : lvA 4 (nN (f 1)) (nN (f 2)) v = came (sedV (sedV v)) (eatU (vX v) (sdN (vS v) / 8 % cR (vX v)) (sdN (sdN (vS v)) / 8 % cW (vX v))) (eatX (vX v) (sdN (vS v) / 8 % cR (vX v)) (sdN (sdN (vS v)) / 8 % cW (vX v))) := by unfold lvA; rw [if_neg (by omega), if_pos rfl, if_neg hr]
      rw [el]
      obtain ⟨d1, d2⟩ := q_Ldraw h hc hv.2.2.2.1 (show 0 < cR (vX v) by omega) (by omega)
      obtain ⟨d3, d4⟩ := q_Ldraw (n := cW (vX v)) d2 hc (sdN_lt _) (by omega) (by omega)
      have eWb : mI (sI M p0 1 (nI (sdN (vS v)))) c 5 = nI (cW (vX v)) := d2.1.1
      have m1 : sdN (vS v) / 8 % cR (vX v) < cR (vX v) := Nat.mod_lt _ (by omega)
      have m2 : sdN (sdN (vS v)) / 8 % cW (vX v) < cW (vX v) := Nat.mod_lt _ (by omega)
      have d3 : f_Life_draw p0 (nI (cW (vX v))) (sI M p0 1 (nI (sdN (vS v)))) = some (nI (sdN (sdN (vS v)) / 8 % cW (vX v)), sI (sI M p0 1 (nI (sdN (vS v)))) p0 1 (nI (sdN (sdN (vS v))))) := d3
      obtain ⟨M1, c1, c2, c3⟩ := q_eat hv.1 d4.1 m1 m2
      obtain ⟨M', g1, g2, g3⟩ := q_came (LV_cl d4 hc c3 c2) hc (eatU_n hv.1 _ _)
      have c1 : f_Cloth_eat c (nI (sdN (vS v) / 8 % cR (vX v))) (nI (sdN (sdN (vS v)) / 8 % cW (vX v))) (sI (sI M p0 1 (nI (sdN (vS v)))) p0 1 (nI (sdN (sdN (vS v))))) = some (nI (eatU (vX v) (sdN (vS v) / 8 % cR (vX v)) (sdN (sdN (vS v)) / 8 % cW (vX v))).2, M1) := c1
      refine ⟨M', ?_, g2, (inA_0 (Fr.sI rfl)).tr ((inA_0 (Fr.sI rfl)).tr ((inA_C c3).tr (inA_0 g3)))⟩
      simp (disch := first | assumption | omega) only [z_bdn, z_caln, z_gdn, z_iT, z_iF, z_le_t, z_le_f, z_lt_t, z_lt_f, z_cl, z_inb, z_at, z_pl, z_lit, nI_ii1, nI_add, z_mr, z_ref0, z_refn, z_eq_f, Bool.not_true, Bool.not_false, b2i_t, b2i_f, z_kn, eq_self, f_Life_anyMoth, eR, d1, eWb, d3, c1, g1]
  · rw [k0, nN_nI (by omega)] at h5; omega
  · rw [k0, nN_nI (by omega)] at h5; omega
  · rw [k0, nN_nI (by omega)] at h5; omega
end
