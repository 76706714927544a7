/-! ## CENTURIES: the class's walk -/
def ScA (M : kx_M) (p1 E : Nat) (EO EA EB EM : Nat → Int32) : Prop := mI M p1 6 = nI E ∧ mA M (p1 + 1) = EO ∧ mA M (p1 + 2) = EA ∧ mA M (p1 + 3) = EB ∧ mA M (p1 + 4) = EM
def apL (p0 c p1 p2 : Nat) : Prop := p0 + 1 < 27 ∧ 27 ≤ c ∧ 27 ≤ p1 ∧ 27 ≤ p2 ∧ (p1 + 4 < c ∨ c + 5 < p1) ∧ (p2 + 7 < c ∨ c + 5 < p2) ∧ isCloth c = true
/-- from entry p the walk comes to entry q, or it is over -/
def sgQ (F : Nat → Int32 → Int32 → kx_M → Option (Unit × kx_M)) (p0 c W : Nat) (M : kx_M) (f t p lo q k : Nat) (v v' : Lv) : Prop :=
  OkV W v' ∧
  (vO v' = false → ∃ M' f' t', F f (nI p) (nI t) M = F f' (nI q) (nI t') M' ∧ LV M' p0 c v' ∧ f' + t' = f + t ∧ t' + 100 * vN v ≤ t + k + 100 * vN v' ∧ (∀ e, (e < lo ∨ q ≤ e) → mA M' (p0 + 1) e = mA M (p0 + 1) e) ∧ Fr (inL p0 c) M M') ∧
  (vO v' = true → ∃ M', F f (nI p) (nI t) M = some ((), M') ∧ LV M' p0 c v' ∧ Fr (inL p0 c) M M')
section
variable {M M' : kx_M} {σ : Sg} {y : De} {x : Cl} {v w v' v1 : Lv} {W C : Nat} {z : Nat → Nat → Int32} {p0 c p1 p2 E : Nat} {EO EA EB EM : Nat → Int32} {p4 : Int32}
theorem ScA_F (hA : apL p0 c p1 p2) (hF : Fr (inL p0 c) M M') (h : ScA M p1 E EO EA EB EM) : ScA M' p1 E EO EA EB EM := by
  obtain ⟨a1, a2, a3, a4, a5, a6, -⟩ := hA
  obtain ⟨h1, h2, h3, h4, h5⟩ := h
  have n : ∀ j, j ≤ 4 → ¬ inL p0 c (p1 + j) := fun j hj e => by unfold inL at e; omega
  exact ⟨((hF _ (n 0 (by omega))).1 6).trans h1, ((hF _ (n 1 (by omega))).2.2.1).trans h2, ((hF _ (n 2 (by omega))).2.2.1).trans h3, ((hF _ (n 3 (by omega))).2.2.1).trans h4, ((hF _ (n 4 (by omega))).2.2.1).trans h5⟩
theorem CD_F (hA : apL p0 c p1 p2) (hF : Fr (inL p0 c) M M') (h : CD M p2 y) : CD M' p2 y := by
  obtain ⟨a1, a2, a3, a4, a5, a6, -⟩ := hA
  exact CD_fr hF (fun id h1 h2 e => by unfold inL at e; omega) h
theorem sgQ_tr {F : Nat → Int32 → Int32 → kx_M → Option (Unit × kx_M)} {f t p lo q1 q k1 k2 k : Nat} (h1 : sgQ F p0 c W M f t p lo q1 k1 v v1) (hlo : lo ≤ q1 ∧ q1 ≤ q) (hk : k1 + k2 ≤ k)
    (h2 : ∀ M1 f1 t1, OkV W v1 → vO v1 = false → LV M1 p0 c v1 → f1 + t1 = f + t → t1 + 100 * vN v ≤ t + k1 + 100 * vN v1 → (∀ e, (e < lo ∨ q1 ≤ e) → mA M1 (p0 + 1) e = mA M (p0 + 1) e) → Fr (inL p0 c) M M1 → sgQ F p0 c W M1 f1 t1 q1 lo q k2 v1 v') (h3 : vO v1 = true → v' = v1) : sgQ F p0 c W M f t p lo q k v v' := by
  obtain ⟨a1, a2, a3⟩ := h1
  cases ho : vO v1 with
  | true =>
    rw [h3 ho]
    exact ⟨a1, fun e => (by rw [ho] at e; cases e), a3⟩
  | false =>
    obtain ⟨M1, f1, t1, b1, b2, b3, b4, b5, b6⟩ := a2 ho
    obtain ⟨c1, c2, c3⟩ := h2 M1 f1 t1 a1 ho b2 b3 b4 b5 b6
    refine ⟨c1, fun e => ?_, fun e => ?_⟩
    · obtain ⟨M2, f2, t2, d1, d2, d3, d4, d5, d6⟩ := c2 e
      exact ⟨M2, f2, t2, b1.trans d1, d2, by omega, by omega, fun e he => (d5 e (by omega)).trans (b5 e (by omega)), b6.tr d6⟩
    · obtain ⟨M2, d1, d2, d3⟩ := c3 e
      exact ⟨M2, b1.trans d1, d2, b6.tr d3⟩
theorem sgQ_rf {F : Nat → Int32 → Int32 → kx_M → Option (Unit × kx_M)} {f t p k : Nat} (hv : OkV W v) (h : LV M p0 c v) (ho : vO v = false) : sgQ F p0 c W M f t p p p k v v := ⟨hv, fun _ => ⟨M, f, t, rfl, h, rfl, by omega, fun _ _ => rfl, Fr.rf⟩, fun e => (by rw [ho] at e; cases e)⟩
theorem F_done {f t p : Nat} (hS : ScA M p1 E EO EA EB EM) (hE : E ≤ 60) (hp : E ≤ p) (hp2 : p ≤ 60) (ht : t ≤ 30001) : f_Life_run_l42 p0 p1 p2 c p4 (f + 1) (nI p) (nI t) M = some ((), M) := by
  have e6 := hS.1
  rw [f_Life_run_l42]
  simp (disch := first | assumption | omega) only [z_bdn, z_caln, z_gdn, z_iT, z_iF, z_le_t, z_le_f, z_lt_t, z_lt_f, z_cl, z_inb, z_at, z_pl, z_lit, nI_ii1, nI_add, z_mr, z_ref0, z_refn, z_eq_f, Bool.not_true, Bool.not_false, b2i_t, b2i_f, e6]
theorem F_cut {f t p o : Nat} (h : LV M p0 c v) (hS : ScA M p1 E EO EA EB EM) (hE : E ≤ 60) (hp : p < E) (ht : t ≤ 30001) (ho : EO p = nI o) (ho2 : o ≠ 24) (ho3 : o < 100) (hN : vN v = 300) : f_Life_run_l42 p0 p1 p2 c p4 (f + 1) (nI p) (nI t) M = some ((), sI M p0 7 (nI 1)) := by
  have e6 := hS.1
  have eO := hS.2.1
  have e2 : mI M p0 2 = nI 300 := by rw [← hN]; exact h.2 2 (by omega) (by omega)
  rw [f_Life_run_l42, eO]
  simp (disch := first | assumption | omega) only [z_bdn, z_caln, z_gdn, z_iT, z_iF, z_le_t, z_le_f, z_lt_t, z_lt_f, z_cl, z_inb, z_at, z_pl, z_lit, nI_ii1, nI_add, z_mr, z_ref0, z_refn, z_eq_f, Bool.not_true, Bool.not_false, b2i_t, b2i_f, e6, ho, z_kn, e2]
theorem LV_stp (hA : apL p0 c p1 p2) (h : LV M p0 c v) : LV (sI M p0 2 (nI (vN v + 1))) p0 c (stpV v) := LV_set h (by have := hA.1; have := hA.2.1; omega) rfl rfl (jx (fun _ => rfl) (fun e => absurd rfl e) (fun _ => rfl) (fun _ => rfl) (fun _ => rfl) (fun _ => rfl) (fun _ => rfl))
theorem F_step {f t p o : Nat} (h : LV M p0 c v) (hA : apL p0 c p1 p2) (hS : ScA M p1 E EO EA EB EM) (hE : E ≤ 60) (hp : p < E) (ht : t ≤ 30001) (ho : EO p = nI o) (ho2 : o ≠ 24) (ho3 : o < 100) (hN : vN v < 300) : f_Life_run_l42 p0 p1 p2 c p4 (f + 1) (nI p) (nI t) M = cal (f_Life_act p0 c (EO p) (EA p) (EB p) (sI M p0 2 (nI (vN v + 1)))) fun _ M3 => cal (f_Life_behindStep p0 p1 p2 c (nI p) M3) fun r10 M4 => f_Life_run_l42 p0 p1 p2 c p4 f r10 (nI (t + 1)) M4 := by
  have e6 := hS.1
  have eO := hS.2.1
  have e2 : mI M p0 2 = nI (vN v) := h.2 2 (by omega) (by omega)
  have hF : Fr (inL p0 c) M (sI M p0 2 (nI (vN v + 1))) := inL_0 (Fr.sI rfl)
  obtain ⟨-, s2, s3, s4, s5⟩ := ScA_F hA hF hS
  rw [f_Life_run_l42, eO]
  simp (disch := first | assumption | omega) only [z_bdn, z_caln, z_gdn, z_iT, z_iF, z_le_t, z_le_f, z_lt_t, z_lt_f, z_cl, z_inb, z_at, z_pl, z_lit, nI_ii1, nI_add, z_mr, z_ref0, z_refn, z_eq_f, Bool.not_true, Bool.not_false, b2i_t, b2i_f, e6, ho, z_kn, e2, s2, s3, s4]
theorem q_bs_lin {p o : Nat} (hS : ScA M p1 E EO EA EB EM) (hp : p < 60) (ho : EO p = nI o) (ho2 : o < 20) : f_Life_behindStep p0 p1 p2 c (nI p) M = some (nI (p + 1), M) := by
  obtain ⟨-, s2, s3, s4, s5⟩ := hS
  rw [f_Life_behindStep, s2, s3, s4]
  simp (disch := first | assumption | omega) only [z_bdn, z_caln, z_gdn, z_iT, z_iF, z_le_t, z_le_f, z_lt_t, z_lt_f, z_cl, z_inb, z_at, z_pl, z_lit, nI_ii1, nI_add, z_mr, z_ref0, z_refn, z_eq_f, Bool.not_true, Bool.not_false, b2i_t, b2i_f, ho, z_kn]
theorem q_bs_stop {p : Nat} (hS : ScA M p1 E EO EA EB EM) (hp : p < 60) (ho : EO p = nI 25) : f_Life_behindStep p0 p1 p2 c (nI p) M = some (nI E, M) := by
  obtain ⟨s1, s2, s3, s4, s5⟩ := hS
  rw [f_Life_behindStep, s2, s3, s4]
  simp (disch := first | assumption | omega) only [z_bdn, z_caln, z_gdn, z_iT, z_iF, z_le_t, z_le_f, z_lt_t, z_lt_f, z_cl, z_inb, z_at, z_pl, z_lit, nI_ii1, nI_add, z_mr, z_ref0, z_refn, z_eq_f, Bool.not_true, Bool.not_false, b2i_t, b2i_f, ho, z_kn, eq_self, s1]
theorem q_bs_loop {p : Nat} (hS : ScA M p1 E EO EA EB EM) (hp : p < 60) (ho : EO p = nI 23) : f_Life_behindStep p0 p1 p2 c (nI p) M = some (nI (p + 1), sA M (p0 + 1) (upd (mA M (p0 + 1)) p (EA p))) := by
  obtain ⟨s1, s2, s3, s4, s5⟩ := hS
  rw [f_Life_behindStep, s2, s3, s4]
  simp (disch := first | assumption | omega) only [z_bdn, z_caln, z_gdn, z_iT, z_iF, z_le_t, z_le_f, z_lt_t, z_lt_f, z_cl, z_inb, z_at, z_pl, z_lit, nI_ii1, nI_add, z_mr, z_ref0, z_refn, z_eq_f, Bool.not_true, Bool.not_false, b2i_t, b2i_f, ho, z_kn, eq_self]
theorem tsB0 (a s : Nat) : tsB y 0 a s x = sdAny x y a := if_pos rfl
theorem tsB1 (a s : Nat) : tsB y 1 a s x = (decide (a < cR x) && wholeB x a) := by unfold tsB; rw [if_neg (by omega), if_pos rfl]
theorem tsB2l (a : Nat) : tsB y 2 a 60 x = decide (sunN x < a) := by unfold tsB; rw [if_neg (by omega), if_neg (by omega), if_pos rfl]
theorem tsB2e (a : Nat) : tsB y 2 a 61 x = decide (sunN x = a) := by unfold tsB; rw [if_neg (by omega), if_neg (by omega), if_neg (by omega), if_neg (by omega)]
theorem tsB2g (a : Nat) : tsB y 2 a 62 x = decide (a < sunN x) := by unfold tsB; rw [if_neg (by omega), if_neg (by omega), if_neg (by omega), if_pos rfl]
theorem q_bs_when {p e : Nat} {f : Nat → Int32} (hA : apL p0 c p1 p2) (hP : OkD W y) (hv : OkV W v) (h : LV M p0 c v) (hS : ScA M p1 E EO EA EB EM) (hD : CD M p2 y) (hp : p < 60) (he : e < 60) (hk : stepOk W (dC y) f) (hent : entOk f (EO p) (EA p) (EB p)) (h5 : f 0 = nI 5) (hm : EM p = nI e) : f_Life_behindStep p0 p1 p2 c (nI p) M = some (nI (if tsB y (nN (f 6)) (nN (f 1)) (nN (f 7)) (vX v) = true then p + 1 else e + 1), M) := by
  have hPx : OkD (cW (vX v)) y := by rw [hv.2.1]; exact hP
  have w2 := hP.2.1
  obtain ⟨s1, s2, s3, s4, s5⟩ := hS
  have ne : ∀ {i : Nat}, i ≠ 5 → i < 100 → f 0 = nI i → False := fun hij h1 e1 => by
    rw [h5, z_kn (fun e => hij e.symm) (by omega) h1] at e1; exact e1
  have ne6 : ∀ {i j : Nat}, i ≠ j → i < 100 → j < 100 → f 6 = nI i → f 6 = nI j → False := fun hij h1 h2 e1 e2 => by
    rw [e1, z_kn hij h1 h2] at e2; exact e2
  obtain hk : ((f 6 = nI 0 ∧ ∃ a, a < dC y ∧ f 1 = nI a) ∨ (f 6 = nI 1 ∧ ∃ a, a < 12 ∧ f 1 = nI a) ∨ (f 6 = nI 2 ∧ ∃ a b, a ≤ 99 ∧ (b = 60 ∨ b = 61 ∨ b = 62) ∧ f 1 = nI a ∧ f 7 = nI b)) := by
    rcases hk with ⟨k0, -⟩ | ⟨k0, -⟩ | ⟨k0, -⟩ | ⟨k0, -⟩ | k0 | ⟨-, hk⟩ | ⟨k0, -⟩ | k0
    · exact (ne (by omega) (by omega) k0).elim
    · exact (ne (by omega) (by omega) k0).elim
    · exact (ne (by omega) (by omega) k0).elim
    · exact (ne (by omega) (by omega) k0).elim
    · exact (ne (by omega) (by omega) k0).elim
    · exact hk
    · exact (ne (by omega) (by omega) k0).elim
    · exact (ne (by omega) (by omega) k0).elim
  obtain hent : ((f 6 = nI 0 ∧ EO p = nI 20 ∧ EA p = f 1) ∨ (f 6 = nI 1 ∧ EO p = nI 21 ∧ EA p = f 1) ∨ (f 6 = nI 2 ∧ EO p = nI 22 ∧ EA p = f 7 ∧ EB p = f 1)) := by
    rcases hent with ⟨k0, -⟩ | ⟨k0, -⟩ | ⟨k0, -⟩ | ⟨k0, -⟩ | ⟨k0, -⟩ | ⟨-, hk⟩ | ⟨k0, -⟩ | ⟨k0, -⟩
    · exact (ne (by omega) (by omega) k0).elim
    · exact (ne (by omega) (by omega) k0).elim
    · exact (ne (by omega) (by omega) k0).elim
    · exact (ne (by omega) (by omega) k0).elim
    · exact (ne (by omega) (by omega) k0).elim
    · exact hk
    · exact (ne (by omega) (by omega) k0).elim
    · exact (ne (by omega) (by omega) k0).elim
  rw [f_Life_behindStep, s2, s3, s4]
  rcases hk with ⟨k6, a, a1, ka⟩ | ⟨k6, a, a1, ka⟩ | ⟨k6, a, b, a1, b1, ka, kb⟩
  · obtain ⟨ho, hea⟩ : EO p = nI 20 ∧ EA p = f 1 := by
      rcases hent with ⟨-, h1, h2⟩ | ⟨g, -⟩ | ⟨g, -⟩
      · exact ⟨h1, h2⟩
      · exact (ne6 (by omega) (by omega) (by omega) k6 g).elim
      · exact (ne6 (by omega) (by omega) (by omega) k6 g).elim
    rw [k6, ka, nN_nI (by omega), nN_nI (by omega)]
    rw [ka] at hea
    have eT := q_saysAny hv.1 h.1 hPx hD a1
    rw [tsB0]
    cases hb : sdAny (vX v) y a with
    | true =>
      rw [hb] at eT
      simp (disch := first | assumption | omega) only [z_bdn, z_caln, z_gdn, z_iT, z_iF, z_le_t, z_le_f, z_lt_t, z_lt_f, z_cl, z_inb, z_at, z_pl, z_lit, nI_ii1, nI_add, z_mr, z_ref0, z_refn, z_eq_f, Bool.not_true, Bool.not_false, b2i_t, b2i_f, ho, hea, eq_self, eT, z_itt]
    | false =>
      rw [hb] at eT
      simp (disch := first | assumption | omega) only [z_bdn, z_caln, z_gdn, z_iT, z_iF, z_le_t, z_le_f, z_lt_t, z_lt_f, z_cl, z_inb, z_at, z_pl, z_lit, nI_ii1, nI_add, z_mr, z_ref0, z_refn, z_eq_f, Bool.not_true, Bool.not_false, b2i_t, b2i_f, ho, hea, eq_self, eT, z_itf, s5, hm]
  · obtain ⟨ho, hea⟩ : EO p = nI 21 ∧ EA p = f 1 := by
      rcases hent with ⟨g, -⟩ | ⟨-, h1, h2⟩ | ⟨g, -⟩
      · exact (ne6 (by omega) (by omega) (by omega) k6 g).elim
      · exact ⟨h1, h2⟩
      · exact (ne6 (by omega) (by omega) (by omega) k6 g).elim
    rw [k6, ka, nN_nI (by omega), nN_nI (by omega)]
    rw [ka] at hea
    have eR : mI M c 7 = nI (cR (vX v)) := h.1.2.2.1
    have w3 := hv.1.2.2.1
    rw [tsB1]
    by_cases hr : a < cR (vX v)
    · have eT := q_wholeRow hv.1 h.1 hr
      rw [decide_eq_true hr, Bool.true_and]
      cases hb : wholeB (vX v) a with
      | true =>
        rw [hb] at eT
        simp (disch := first | assumption | omega) only [z_bdn, z_caln, z_gdn, z_iT, z_iF, z_le_t, z_le_f, z_lt_t, z_lt_f, z_cl, z_inb, z_at, z_pl, z_lit, nI_ii1, nI_add, z_mr, z_ref0, z_refn, z_eq_f, Bool.not_true, Bool.not_false, b2i_t, b2i_f, ho, hea, z_kn, eq_self, eR, eT, z_itt]
      | false =>
        rw [hb] at eT
        simp (disch := first | assumption | omega) only [z_bdn, z_caln, z_gdn, z_iT, z_iF, z_le_t, z_le_f, z_lt_t, z_lt_f, z_cl, z_inb, z_at, z_pl, z_lit, nI_ii1, nI_add, z_mr, z_ref0, z_refn, z_eq_f, Bool.not_true, Bool.not_false, b2i_t, b2i_f, ho, hea, z_kn, eq_self, eR, eT, z_itf, s5, hm]
    · rw [decide_eq_false hr, Bool.false_and]
      simp (disch := first | assumption | omega) only [z_bdn, z_caln, z_gdn, z_iT, z_iF, z_le_t, z_le_f, z_lt_t, z_lt_f, z_cl, z_inb, z_at, z_pl, z_lit, nI_ii1, nI_add, z_mr, z_ref0, z_refn, z_eq_f, Bool.not_true, Bool.not_false, b2i_t, b2i_f, ho, hea, z_kn, eq_self, eR, z_itf, s5, hm]
  · obtain ⟨ho, hea, heb⟩ : EO p = nI 22 ∧ EA p = f 7 ∧ EB p = f 1 := by
      rcases hent with ⟨g, -⟩ | ⟨g, -⟩ | ⟨-, h1, h2, h3⟩
      · exact (ne6 (by omega) (by omega) (by omega) k6 g).elim
      · exact (ne6 (by omega) (by omega) (by omega) k6 g).elim
      · exact ⟨h1, h2, h3⟩
    rw [k6, ka, kb, nN_nI (by omega), nN_nI (by omega), nN_nI (by omega)]
    rw [kb] at hea
    rw [ka] at heb
    have l4 : kx_lay[c + 4]? = some (1, 96, []) := lk_Cloth_undone hA.2.2.2.2.2.2
    have eT : f_Cloth_sum c (c + 4) M = some (nI (sunN (vX v)), M) := q_sum (u := cU (vX v)) hv.1 h.1 l4 (fun r i hr hi => (h.1.2.2.2.2.2 r i hr hi).2.2.1)
    have h96 := sunN_96 hv.1
    rcases b1 with rfl | rfl | rfl
    · rw [tsB2l]
      by_cases hc : sunN (vX v) < a
      · rw [decide_eq_true hc]
        simp (disch := first | assumption | omega) only [z_bdn, z_caln, z_gdn, z_iT, z_iF, z_le_t, z_le_f, z_lt_t, z_lt_f, z_cl, z_inb, z_at, z_pl, z_lit, nI_ii1, nI_add, z_mr, z_ref0, z_refn, z_eq_f, Bool.not_true, Bool.not_false, b2i_t, b2i_f, ho, hea, heb, z_kn, eq_self, eT, f_Life_compares, z_itt]
      · rw [decide_eq_false hc]
        simp (disch := first | assumption | omega) only [z_bdn, z_caln, z_gdn, z_iT, z_iF, z_le_t, z_le_f, z_lt_t, z_lt_f, z_cl, z_inb, z_at, z_pl, z_lit, nI_ii1, nI_add, z_mr, z_ref0, z_refn, z_eq_f, Bool.not_true, Bool.not_false, b2i_t, b2i_f, ho, hea, heb, z_kn, eq_self, eT, f_Life_compares, z_itf, s5, hm]
    · rw [tsB2e]
      by_cases hc : sunN (vX v) = a
      · rw [decide_eq_true hc]
        simp (disch := first | assumption | omega) only [z_bdn, z_caln, z_gdn, z_iT, z_iF, z_le_t, z_le_f, z_lt_t, z_lt_f, z_cl, z_inb, z_at, z_pl, z_lit, nI_ii1, nI_add, z_mr, z_ref0, z_refn, z_eq_f, Bool.not_true, Bool.not_false, b2i_t, b2i_f, ho, hea, heb, z_kn, eq_self, eT, f_Life_compares, hc, z_itt]
      · rw [decide_eq_false hc]
        have hc2 : (nI (sunN (vX v)) = nI a) = False := z_eq_f hc (by omega) (by omega)
        simp (disch := first | assumption | omega) only [z_bdn, z_caln, z_gdn, z_iT, z_iF, z_le_t, z_le_f, z_lt_t, z_lt_f, z_cl, z_inb, z_at, z_pl, z_lit, nI_ii1, nI_add, z_mr, z_ref0, z_refn, z_eq_f, Bool.not_true, Bool.not_false, b2i_t, b2i_f, ho, hea, heb, z_kn, eq_self, eT, f_Life_compares, hc2, z_itf, s5, hm]
    · rw [tsB2g]
      by_cases hc : a < sunN (vX v)
      · rw [decide_eq_true hc]
        simp (disch := first | assumption | omega) only [z_bdn, z_caln, z_gdn, z_iT, z_iF, z_le_t, z_le_f, z_lt_t, z_lt_f, z_cl, z_inb, z_at, z_pl, z_lit, nI_ii1, nI_add, z_mr, z_ref0, z_refn, z_eq_f, Bool.not_true, Bool.not_false, b2i_t, b2i_f, ho, hea, heb, z_kn, eq_self, eT, f_Life_compares, z_itt]
      · rw [decide_eq_false hc]
        simp (disch := first | assumption | omega) only [z_bdn, z_caln, z_gdn, z_iT, z_iF, z_le_t, z_le_f, z_lt_t, z_lt_f, z_cl, z_inb, z_at, z_pl, z_lit, nI_ii1, nI_add, z_mr, z_ref0, z_refn, z_eq_f, Bool.not_true, Bool.not_false, b2i_t, b2i_f, ho, hea, heb, z_kn, eq_self, eT, f_Life_compares, z_itf, s5, hm]
end
