/-! ## CENTURIES: the class's walk, from segment to segment -/
section
variable {M M' : kx_M} {σ : Sg} {y : De} {x : Cl} {v w v' v1 : Lv} {W C : Nat} {z : Nat → Nat → Int32} {p0 c p1 p2 E : Nat} {EO EA EB EM : Nat → Int32} {p4 : Int32}
/-- an end of a when -/
theorem F_endw {f t p e o : Nat} (hA : apL p0 c p1 p2) (hS : ScA M p1 E EO EA EB EM) (hE : E ≤ 60) (hp : p < 60) (he : e < E) (ht : t ≤ 30001) (hoe : EO e = nI 24) (hm : EM e = nI p) (ho : EO p = nI o) (ho2 : o ≠ 23) (ho3 : o < 100) : f_Life_run_l42 p0 p1 p2 c p4 (f + 1) (nI e) (nI t) M = f_Life_run_l42 p0 p1 p2 c p4 f (nI (e + 1)) (nI (t + 1)) M := by
  obtain ⟨s1, s2, s3, s4, s5⟩ := hS
  have eB : f_Life_behindEnd p0 p1 (nI e) M = some (nI (e + 1), M) := by
    rw [f_Life_behindEnd, s5, s2]
    simp (disch := first | assumption | omega) only [z_bdn, z_caln, z_gdn, z_iT, z_iF, z_le_t, z_le_f, z_lt_t, z_lt_f, z_cl, z_inb, z_at, z_pl, z_lit, nI_ii1, nI_add, z_mr, z_ref0, z_refn, z_eq_f, Bool.not_true, Bool.not_false, b2i_t, b2i_f, hm, ho, z_kn]
  rw [f_Life_run_l42, s2]
  simp (disch := first | assumption | omega) only [z_bdn, z_caln, z_gdn, z_iT, z_iF, z_le_t, z_le_f, z_lt_t, z_lt_f, z_cl, z_inb, z_at, z_pl, z_lit, nI_ii1, nI_add, z_mr, z_ref0, z_refn, z_eq_f, Bool.not_true, Bool.not_false, b2i_t, b2i_f, s1, hoe, eq_self, eB]
/-- an end of a loop, r times left ahead of it -/
theorem F_endl {f t p e r : Nat} (hA : apL p0 c p1 p2) (hS : ScA M p1 E EO EA EB EM) (hE : E ≤ 60) (hp : p < 60) (he : e < E) (ht : t ≤ 30001) (hoe : EO e = nI 24) (hm : EM e = nI p) (ho : EO p = nI 23) (hl : mA M (p0 + 1) p = nI (r + 1)) (hr : r < 100) : f_Life_run_l42 p0 p1 p2 c p4 (f + 1) (nI e) (nI t) M = f_Life_run_l42 p0 p1 p2 c p4 f (nI (if r = 0 then e + 1 else p + 1)) (nI (t + 1)) (sA M (p0 + 1) (upd (mA M (p0 + 1)) p (nI r))) := by
  obtain ⟨s1, s2, s3, s4, s5⟩ := hS
  have z1 : nI (r + 1) - nI 1 = nI r := z_sub (by omega)
  have eu : mA (sA M (p0 + 1) (upd (mA M (p0 + 1)) p (nI r))) (p0 + 1) p = nI r := by rw [mA_sA, if_pos rfl, upd_at, if_pos rfl]
  have eB : f_Life_behindEnd p0 p1 (nI e) M = some (nI (if r = 0 then e + 1 else p + 1), sA M (p0 + 1) (upd (mA M (p0 + 1)) p (nI r))) := by
    rw [f_Life_behindEnd, s5, s2]
    by_cases h0 : r = 0
    · rw [if_pos h0]
      subst h0
      simp (disch := first | assumption | omega) only [z_bdn, z_caln, z_gdn, z_iT, z_iF, z_le_t, z_le_f, z_lt_t, z_lt_f, z_cl, z_inb, z_at, z_pl, z_lit, nI_ii1, nI_add, z_mr, z_ref0, z_refn, z_eq_f, Bool.not_true, Bool.not_false, b2i_t, b2i_f, hm, ho, eq_self, hl, z1, eu]
    · rw [if_neg h0]
      simp (disch := first | assumption | omega) only [z_bdn, z_caln, z_gdn, z_iT, z_iF, z_le_t, z_le_f, z_lt_t, z_lt_f, z_cl, z_inb, z_at, z_pl, z_lit, nI_ii1, nI_add, z_mr, z_ref0, z_refn, z_eq_f, Bool.not_true, Bool.not_false, b2i_t, b2i_f, hm, ho, eq_self, hl, z1, eu]
  rw [f_Life_run_l42, s2]
  simp (disch := first | assumption | omega) only [z_bdn, z_caln, z_gdn, z_iT, z_iF, z_le_t, z_le_f, z_lt_t, z_lt_f, z_cl, z_inb, z_at, z_pl, z_lit, nI_ii1, nI_add, z_mr, z_ref0, z_refn, z_eq_f, Bool.not_true, Bool.not_false, b2i_t, b2i_f, s1, hoe, eq_self, eB]
theorem LV_left {g : Nat → Int32} (hA : apL p0 c p1 p2) (h : LV M p0 c v) : LV (sA M (p0 + 1) g) p0 c v := by
  obtain ⟨a1, a2, -⟩ := hA
  obtain ⟨h1, h2⟩ := h
  have hF : Fr (fun id => id = p0 + 1) M (sA M (p0 + 1) g) := Fr.sA rfl
  exact ⟨CC_fr hF (fun id g1 g2 e => by omega) h1, fun j a b => ((hF p0 (by omega)).1 j).trans (h2 j a b)⟩
theorem inL_left {g : Nat → Int32} : Fr (inL p0 c) M (sA M (p0 + 1) g) := Fr.sA (Or.inr (Or.inl rfl))
/-- the body of a loop, so often -/
theorem sg_loop {nf a k p e : Nat} (hA : apL p0 c p1 p2) (hE : E ≤ 60) (hpe : p < e) (he : e < E) (hoe : EO e = nI 24) (hm : EM e = nI p) (ho : EO p = nI 23)
    (hbody : ∀ (v : Lv) (M : kx_M) (f t : Nat), OkV W v → LV M p0 c v → ScA M p1 E EO EA EB EM → CD M p2 y → vO v = false → t ≤ 100 * vN v → 100000 < f + t → sgQ (f_Life_run_l42 p0 p1 p2 c p4) p0 c W M f t (p + 1) (p + 1) e 0 v (exA y z nf a k v)) :
    ∀ (r : Nat) (v : Lv) (M : kx_M) (f t : Nat), r < 99 → mA M (p0 + 1) p = nI (r + 1) → OkV W v → LV M p0 c v → ScA M p1 E EO EA EB EM → CD M p2 y → vO v = false → t + r ≤ 100 * vN v → 100000 < f + t → sgQ (f_Life_run_l42 p0 p1 p2 c p4) p0 c W M f t (p + 1) p (e + 1) (r + 1) v (itL (exA y z nf a k) (r + 1) v) := by
  intro r
  induction r with
  | zero =>
    intro v M f t hr hl hv h hS hD hvo ht hf
    have e1 : itL (exA y z nf a k) (0 + 1) v = exA y z nf a k v := by rw [itL_go hvo]; rfl
    rw [e1]
    obtain ⟨b1, b2, b3⟩ := hbody v M f t hv h hS hD hvo (by omega) hf
    refine ⟨b1, fun g => ?_, b3⟩
    obtain ⟨M1, f1, t1, c1, c2, c3, c4, c5, c6⟩ := b2 g
    have hn := b1.2.2.2.2
    obtain ⟨f1, rfl⟩ : ∃ f', f1 = f' + 1 := ⟨f1 - 1, by omega⟩
    have hl1 := (c5 p (Or.inl (by omega))).trans hl
    have hE1 := F_endl (f := f1) (t := t1) (p4 := p4) hA (ScA_F hA c6 hS) hE (show p < 60 by omega) he (by omega) hoe hm ho hl1 (by omega)
    rw [if_pos rfl] at hE1
    refine ⟨_, f1, t1 + 1, c1.trans hE1, LV_left hA c2, by omega, by omega, fun i hi => ?_, c6.tr inL_left⟩
    rw [mA_sA, if_pos rfl, upd_at, if_neg (by omega)]
    exact c5 i (by omega)
  | succ r ih =>
    intro v M f t hr hl hv h hS hD hvo ht hf
    obtain ⟨b1, b2, b3⟩ := hbody v M f t hv h hS hD hvo (by omega) hf
    have e1 : itL (exA y z nf a k) (r + 1 + 1) v = itL (exA y z nf a k) (r + 1) (exA y z nf a k v) := itL_go hvo
    rw [e1]
    cases ho1 : vO (exA y z nf a k v) with
    | true =>
      rw [itL_over ho1]
      exact ⟨b1, fun g => (by rw [ho1] at g; cases g), b3⟩
    | false =>
      obtain ⟨M1, f1, t1, c1, c2, c3, c4, c5, c6⟩ := b2 ho1
      have hn := b1.2.2.2.2
      obtain ⟨f1, rfl⟩ : ∃ f', f1 = f' + 1 := ⟨f1 - 1, by omega⟩
      have hl1 := (c5 p (Or.inl (by omega))).trans hl
      have hE1 := F_endl (f := f1) (t := t1) (p4 := p4) hA (ScA_F hA c6 hS) hE (show p < 60 by omega) he (by omega) hoe hm ho hl1 (by omega)
      rw [if_neg (by omega)] at hE1
      have hFF := c6.tr (inL_left (p0 := p0) (c := c) (M := M1) (g := upd (mA M1 (p0 + 1)) p (nI (r + 1))))
      obtain ⟨d1, d2, d3⟩ := ih (exA y z nf a k v) (sA M1 (p0 + 1) (upd (mA M1 (p0 + 1)) p (nI (r + 1)))) f1 (t1 + 1) (by omega) (by rw [mA_sA, if_pos rfl, upd_at, if_pos rfl]) b1 (LV_left hA c2) (ScA_F hA hFF hS) (CD_F hA hFF hD) ho1 (by omega) (by omega)
      refine ⟨d1, fun g => ?_, fun g => ?_⟩
      · obtain ⟨M2, f2, t2, g1, g2, g3, g4, g5, g6⟩ := d2 g
        refine ⟨M2, f2, t2, (c1.trans hE1).trans g1, g2, by omega, by omega, fun i hi => (g5 i hi).trans ?_, hFF.tr g6⟩
        rw [mA_sA, if_pos rfl, upd_at, if_neg (by omega)]
        exact c5 i (by omega)
      · obtain ⟨M2, g1, g2, g3⟩ := d3 g
        exact ⟨M2, (c1.trans hE1).trans g1, g2, hFF.tr g3⟩
theorem sgQ_pre {F : Nat → Int32 → Int32 → kx_M → Option (Unit × kx_M)} {M1 : kx_M} {f t f1 t1 p p' lo lo' q k1 k : Nat} (he : F f (nI p) (nI t) M = F f1 (nI p') (nI t1) M1) (hft : f1 + t1 = f + t) (ht : t1 + k1 + 100 * vN v ≤ t + k + 100 * vN v1) (hl : ∀ e, (e < lo ∨ q ≤ e) → mA M1 (p0 + 1) e = mA M (p0 + 1) e) (hF : Fr (inL p0 c) M M1) (hlo : lo ≤ lo') (h : sgQ F p0 c W M1 f1 t1 p' lo' q k1 v1 v') : sgQ F p0 c W M f t p lo q k v v' := by
  obtain ⟨a1, a2, a3⟩ := h
  refine ⟨a1, fun g => ?_, fun g => ?_⟩
  · obtain ⟨M2, f2, t2, d1, d2, d3, d4, d5, d6⟩ := a2 g
    exact ⟨M2, f2, t2, he.trans d1, d2, by omega, by omega, fun e hh => (d5 e (by omega)).trans (hl e hh), hF.tr d6⟩
  · obtain ⟨M2, d1, d2, d3⟩ := a3 g
    exact ⟨M2, he.trans d1, d2, hF.tr d3⟩
theorem q_act_no {o : Nat} {a b : Int32} (h1 : 19 ≤ o) (h2 : o < 100) : f_Life_act p0 c (nI o) a b M = some ((), M) := by
  rw [f_Life_act]
  simp (disch := first | assumption | omega) only [z_bdn, z_caln, z_gdn, z_iT, z_iF, z_le_t, z_le_f, z_lt_t, z_lt_f, z_cl, z_inb, z_at, z_pl, z_lit, nI_ii1, nI_add, z_mr, z_ref0, z_refn, z_eq_f, Bool.not_true, Bool.not_false, b2i_t, b2i_f, z_kn]
theorem ent_op {f : Nat → Int32} {o a b : Int32} (h : entOk f o a b) : ∃ n, o = nI n ∧ n ≠ 24 ∧ n < 100 ∧ (nN (f 0) < 5 → n < 20) ∧ ((f 0 = nI 5 ∨ f 0 = nI 6 ∨ f 0 = nI 7) → 19 ≤ n) ∧ (f 0 = nI 5 → n ≠ 23) ∧ (f 0 = nI 6 → n = 23 ∧ a = f 1) ∧ (f 0 = nI 7 → n = 25) := by
  have n5 : ∀ {i : Nat}, i < 100 → f 0 = nI i → nN (f 0) = i := fun hi e => by rw [e, nN_nI (by omega)]
  have nn : ∀ {i j : Nat}, i ≠ j → i < 100 → j < 100 → f 0 = nI i → ¬ f 0 = nI j := fun hij h1 h2 e1 e2 => by rw [e1, z_kn hij h1 h2] at e2; exact e2
  rcases h with ⟨k0, h1, -⟩ | ⟨k0, h1, -⟩ | ⟨k0, h1, -⟩ | ⟨k0, h1, -⟩ | ⟨k0, h1⟩ | ⟨k0, hk⟩ | ⟨k0, h1, h2⟩ | ⟨k0, h1⟩
  · exact ⟨14, h1, by omega, by omega, fun _ => by omega, fun e => by rcases e with e | e | e <;> exact absurd e (nn (by omega) (by omega) (by omega) k0), fun e => absurd e (nn (by omega) (by omega) (by omega) k0), fun e => absurd e (nn (by omega) (by omega) (by omega) k0), fun e => absurd e (nn (by omega) (by omega) (by omega) k0)⟩
  · exact ⟨15, h1, by omega, by omega, fun _ => by omega, fun e => by rcases e with e | e | e <;> exact absurd e (nn (by omega) (by omega) (by omega) k0), fun e => absurd e (nn (by omega) (by omega) (by omega) k0), fun e => absurd e (nn (by omega) (by omega) (by omega) k0), fun e => absurd e (nn (by omega) (by omega) (by omega) k0)⟩
  · exact ⟨16, h1, by omega, by omega, fun _ => by omega, fun e => by rcases e with e | e | e <;> exact absurd e (nn (by omega) (by omega) (by omega) k0), fun e => absurd e (nn (by omega) (by omega) (by omega) k0), fun e => absurd e (nn (by omega) (by omega) (by omega) k0), fun e => absurd e (nn (by omega) (by omega) (by omega) k0)⟩
  · exact ⟨17, h1, by omega, by omega, fun _ => by omega, fun e => by rcases e with e | e | e <;> exact absurd e (nn (by omega) (by omega) (by omega) k0), fun e => absurd e (nn (by omega) (by omega) (by omega) k0), fun e => absurd e (nn (by omega) (by omega) (by omega) k0), fun e => absurd e (nn (by omega) (by omega) (by omega) k0)⟩
  · exact ⟨18, h1, by omega, by omega, fun _ => by omega, fun e => by rcases e with e | e | e <;> exact absurd e (nn (by omega) (by omega) (by omega) k0), fun e => absurd e (nn (by omega) (by omega) (by omega) k0), fun e => absurd e (nn (by omega) (by omega) (by omega) k0), fun e => absurd e (nn (by omega) (by omega) (by omega) k0)⟩
  · have h6 : ¬ f 0 = nI 6 := nn (by omega) (by omega) (by omega) k0
    have h7 : ¬ f 0 = nI 7 := nn (by omega) (by omega) (by omega) k0
    have h5 := n5 (by omega) k0
    rcases hk with ⟨-, h1, -⟩ | ⟨-, h1, -⟩ | ⟨-, h1, -⟩
    · exact ⟨20, h1, by omega, by omega, fun e => by omega, fun _ => by omega, fun _ => by omega, fun e => absurd e h6, fun e => absurd e h7⟩
    · exact ⟨21, h1, by omega, by omega, fun e => by omega, fun _ => by omega, fun _ => by omega, fun e => absurd e h6, fun e => absurd e h7⟩
    · exact ⟨22, h1, by omega, by omega, fun e => by omega, fun _ => by omega, fun _ => by omega, fun e => absurd e h6, fun e => absurd e h7⟩
  · have h5 : ¬ f 0 = nI 5 := nn (by omega) (by omega) (by omega) k0
    have h7 : ¬ f 0 = nI 7 := nn (by omega) (by omega) (by omega) k0
    have h6 := n5 (by omega) k0
    exact ⟨23, h1, by omega, by omega, fun e => by omega, fun _ => by omega, fun e => absurd e h5, fun _ => ⟨rfl, h2⟩, fun e => absurd e h7⟩
  · have h5 : ¬ f 0 = nI 5 := nn (by omega) (by omega) (by omega) k0
    have h6 : ¬ f 0 = nI 6 := nn (by omega) (by omega) (by omega) k0
    have h7 := n5 (by omega) k0
    exact ⟨25, h1, by omega, by omega, fun e => by omega, fun _ => by omega, fun e => absurd e h5, fun e => absurd e h6, fun _ => rfl⟩
theorem kinds_of {f : Nat → Int32} (hk : stepOk W C f) : f 0 = nI 5 ∨ f 0 = nI 6 ∨ f 0 = nI 7 ∨ nN (f 0) < 5 := by
  rcases hk with ⟨k0, -⟩ | ⟨k0, -⟩ | ⟨k0, -⟩ | ⟨k0, -⟩ | k0 | ⟨k0, -⟩ | ⟨k0, -⟩ | k0
  · exact Or.inr (Or.inr (Or.inr (by rw [k0, nN_nI (by omega)]; omega)))
  · exact Or.inr (Or.inr (Or.inr (by rw [k0, nN_nI (by omega)]; omega)))
  · exact Or.inr (Or.inr (Or.inr (by rw [k0, nN_nI (by omega)]; omega)))
  · exact Or.inr (Or.inr (Or.inr (by rw [k0, nN_nI (by omega)]; omega)))
  · exact Or.inr (Or.inr (Or.inr (by rw [k0, nN_nI (by omega)]; omega)))
  · exact Or.inl k0
  · exact Or.inr (Or.inl k0)
  · exact Or.inr (Or.inr (Or.inl k0))
theorem cnt_of {f : Nat → Int32} (hk : stepOk W C f) (h6 : f 0 = nI 6) : ∃ n, 1 ≤ n ∧ n ≤ 99 ∧ f 1 = nI n := by
  have nn : ∀ {j : Nat}, 6 ≠ j → j < 100 → ¬ f 0 = nI j := fun hij h2 e2 => by rw [h6, z_kn hij (by omega) h2] at e2; exact e2
  rcases hk with ⟨k0, -⟩ | ⟨k0, -⟩ | ⟨k0, -⟩ | ⟨k0, -⟩ | k0 | ⟨k0, -⟩ | ⟨-, h⟩ | k0
  · exact absurd k0 (nn (by omega) (by omega))
  · exact absurd k0 (nn (by omega) (by omega))
  · exact absurd k0 (nn (by omega) (by omega))
  · exact absurd k0 (nn (by omega) (by omega))
  · exact absurd k0 (nn (by omega) (by omega))
  · exact absurd k0 (nn (by omega) (by omega))
  · exact h
  · exact absurd k0 (nn (by omega) (by omega))
theorem yr_99 {f : Nat → Int32} (hk : stepOk W C f) : nN (f 1) ≤ 99 ∨ ¬ nN (f 0) = 0 := by
  rcases hk with ⟨-, cn, c1, c2, c3⟩ | ⟨e0, -⟩ | ⟨e0, -⟩ | ⟨e0, -⟩ | e0 | ⟨e0, -⟩ | ⟨e0, -⟩ | e0
  · exact Or.inl (by rw [c3, nN_nI (by omega)]; omega)
  all_goals exact Or.inr (by rw [e0, nN_nI (by omega)]; omega)
end
