/-! ## CENTURIES: the class's walk, all of it -/
section
variable {M M' : kx_M} {σ : Sg} {y : De} {x : Cl} {v w v' v1 : Lv} {W : Nat} {z : Nat → Nat → Int32} {p0 c p1 p2 E : Nat} {EO EA EB EM : Nat → Int32} {p4 : Int32}
theorem q_seg (hA : apL p0 c p1 p2) (hP : OkD W y) (hE : E ≤ 60) : ∀ (nf d a b p q ns f t : Nat) (v : Lv) (M : kx_M), Wel W (dC y) z nf d a b → b ≤ 30 → Ser W (dC y) z EO EA EB EM ns a b p q → q ≤ E → OkV W v → LV M p0 c v → ScA M p1 E EO EA EB EM → CD M p2 y → vO v = false → t ≤ 100 * vN v → 100000 < f + t → sgQ (f_Life_run_l42 p0 p1 p2 c p4) p0 c W M f t p p q 0 v (exA y z nf a b v) := by
  intro nf
  induction nf with
  | zero => intro d a b p q ns f t v M hw; exact hw.elim
  | succ nf ih =>
    intro d a b p q ns f t v M hw hb hs hq hv h hS hD hvo ht hf
    have hn300 := hv.2.2.2.2
    have hc0 : p0 + 1 < c := by have := hA.1; have := hA.2.1; omega
    obtain ⟨ns, rfl⟩ : ∃ n, ns = n + 1 := by
      cases ns with
      | zero => exact hs.elim
      | succ n => exact ⟨n, rfl⟩
    rcases hw with rfl | ⟨hab, hk, hrest⟩
    · rcases hs with ⟨-, rfl⟩ | ⟨h1, -⟩
      · rw [exA_end (Nat.le_refl _)]
        exact sgQ_rf hv h hvo
      · exact absurd h1 (Nat.lt_irrefl _)
    rcases hs with ⟨h1, -⟩ | ⟨-, hpq, -, hent, hsr⟩
    · omega
    obtain ⟨f, rfl⟩ : ∃ f', f = f' + 1 := ⟨f - 1, by omega⟩
    obtain ⟨o, ho, ho24, ho100, hoA, hoB, hoW, hoL, hoS⟩ := ent_op hent
    have hpE : p < E := by omega
    rw [exA_go hvo hab]
    by_cases h3 : vN v = 300
    · have ec : exO y z (exA y z nf) a v = cutV v := if_pos h3
      rw [ec, exA_over rfl]
      have hcv : LV (sI M p0 7 (nI 1)) p0 c (cutV v) := LV_set h hc0 rfl rfl (jx (fun _ => rfl) (fun _ => rfl) (fun _ => rfl) (fun _ => rfl) (fun _ => rfl) (fun _ => rfl) (fun e => absurd rfl e))
      exact ⟨⟨hv.1, hv.2.1, hv.2.2.1, hv.2.2.2.1, hv.2.2.2.2⟩, fun e => (by cases e), fun _ => ⟨_, F_cut h hS hE hpE (by omega) ho ho24 ho100 h3, hcv, inL_0 (Fr.sI rfl)⟩⟩
    have hFs := F_step (p4 := p4) (p2 := p2) (f := f) (t := t) h hA hS hE hpE (by omega) ho ho24 ho100 (show vN v < 300 by omega)
    have hvs := OkV_stp hv h3
    have hLs := LV_stp hA h
    have hFr : Fr (inL p0 c) M (sI M p0 2 (nI (vN v + 1))) := inL_0 (Fr.sI rfl)
    have hSs := ScA_F hA hFr hS
    have hDs := CD_F hA hFr hD
    have hlf : ∀ e, mA (sI M p0 2 (nI (vN v + 1))) (p0 + 1) e = mA M (p0 + 1) e := fun _ => rfl
    generalize sI M p0 2 (nI (vN v + 1)) = Ms at hFs hLs hFr hSs hDs hlf
    have hsN : vN (stpV v) = vN v + 1 := rfl
    have hsO : vO (stpV v) = false := hvo
    rcases kinds_of hk with k0 | k0 | k0 | k0
    · -- when
      have hex : exO y z (exA y z nf) a v = if tsB y (nN (z a 6)) (nN (z a 1)) (nN (z a 7)) (vX v) = true then exA y z nf (a + 1) (nN (z a 8)) (stpV v) else stpV v := by
        unfold exO; rw [if_neg h3, if_pos k0]
      rw [hex]
      obtain ⟨k, k8, hak, hkb, hd1, hw1, hw2⟩ : ∃ k, z a 8 = nI k ∧ a < k ∧ k ≤ b ∧ 1 ≤ d ∧ Wel W (dC y) z nf (d - 1) (a + 1) k ∧ Wel W (dC y) z nf d k b := by
        rcases hrest with ⟨n5, -⟩ | ⟨-, hh⟩
        · exact absurd k0 n5
        · exact hh
      obtain ⟨e, hpe, heq, hoe, hmp, hme, hs1, hs2⟩ : ∃ e, p < e ∧ e < q ∧ EO e = nI 24 ∧ EM p = nI e ∧ EM e = nI p ∧ Ser W (dC y) z EO EA EB EM ns (a + 1) k (p + 1) e ∧ Ser W (dC y) z EO EA EB EM ns k b (e + 1) q := by
        rcases hsr with ⟨n5, -⟩ | ⟨-, k', e, e8, h1, h2, h3, h4, h5, h6, h7, h8, h9⟩
        · exact absurd k0 n5
        · rw [k8] at e8
          have : k = k' := (nI_eq (by omega) (by omega)).mp e8
          subst this
          exact ⟨e, h3, h4, h5, h6, h7, h8, h9⟩
      rw [k8, nN_nI (by omega)]
      have hB := q_bs_when hA hP hvs hLs hSs hDs (show p < 60 by omega) (show e < 60 by omega) hk hent k0 hmp
      have hB : f_Life_behindStep p0 p1 p2 c (nI p) Ms = some (nI (if tsB y (nN (z a 6)) (nN (z a 1)) (nN (z a 7)) (vX v) = true then p + 1 else e + 1), Ms) := hB
      have hact := q_act_no (p0 := p0) (c := c) (M := Ms) (o := o) (a := EA p) (b := EB p) (hoB (Or.inl k0)) ho100
      rw [← ho] at hact
      refine sgQ_tr (q1 := e + 1) (k1 := 0) (k2 := 0) (v1 := if tsB y (nN (z a 6)) (nN (z a 1)) (nN (z a 7)) (vX v) = true then exA y z nf (a + 1) k (stpV v) else stpV v) ?_ ⟨by omega, by omega⟩ (by omega) (fun M1 f1 t1 hv1 ho1 hl1 hft htt hlf1 hF1 => ?_) (fun hov => exA_over hov _ _ _)
      · cases hts : tsB y (nN (z a 6)) (nN (z a 1)) (nN (z a 7)) (vX v) with
        | true =>
          rw [hts, z_itt] at hB
          rw [z_itt]
          have hFq : f_Life_run_l42 p0 p1 p2 c p4 (f + 1) (nI p) (nI t) M = f_Life_run_l42 p0 p1 p2 c p4 f (nI (p + 1)) (nI (t + 1)) Ms := by
            rw [hFs]
            simp (disch := first | assumption | omega) only [z_bdn, z_caln, z_gdn, z_iT, z_iF, z_le_t, z_le_f, z_lt_t, z_lt_f, z_cl, z_inb, z_at, z_pl, z_lit, nI_ii1, nI_add, z_mr, z_ref0, z_refn, z_eq_f, Bool.not_true, Bool.not_false, b2i_t, b2i_f, hact, hB]
          refine sgQ_pre (k1 := 1) hFq (by omega) (show t + 1 + 1 + 100 * vN v ≤ t + 0 + 100 * vN (stpV v) by rw [hsN]; omega) (fun e _ => hlf e) hFr (show p ≤ p + 1 by omega) ?_
          refine sgQ_tr (q1 := e) (k1 := 0) (k2 := 1) (ih (d - 1) (a + 1) k (p + 1) e ns f (t + 1) (stpV v) Ms hw1 (by omega) hs1 (by omega) hvs hLs hSs hDs hsO (by rw [hsN]; omega) (by omega)) ⟨by omega, by omega⟩ (by omega) (fun M1 f1 t1 hv1 ho1 hl1 hft htt hlf1 hF1 => ?_) (fun _ => rfl)
          have hn1 := hv1.2.2.2.2
          rw [hsN] at htt
          obtain ⟨f1, rfl⟩ : ∃ f', f1 = f' + 1 := ⟨f1 - 1, by omega⟩
          have hE1 := F_endw (f := f1) (t := t1) (p4 := p4) (p2 := p2) hA (ScA_F hA hF1 hSs) hE (show p < 60 by omega) (show e < E by omega) (by omega) hoe hme ho (hoW k0) ho100
          exact sgQ_pre (k1 := 0) (v1 := exA y z nf (a + 1) k (stpV v)) hE1 (by omega) (by omega) (fun _ _ => rfl) Fr.rf (show p + 1 ≤ e + 1 by omega) (sgQ_rf hv1 hl1 ho1)
        | false =>
          rw [hts, z_itf] at hB
          rw [z_itf]
          have hFq : f_Life_run_l42 p0 p1 p2 c p4 (f + 1) (nI p) (nI t) M = f_Life_run_l42 p0 p1 p2 c p4 f (nI (e + 1)) (nI (t + 1)) Ms := by
            rw [hFs]
            simp (disch := first | assumption | omega) only [z_bdn, z_caln, z_gdn, z_iT, z_iF, z_le_t, z_le_f, z_lt_t, z_lt_f, z_cl, z_inb, z_at, z_pl, z_lit, nI_ii1, nI_add, z_mr, z_ref0, z_refn, z_eq_f, Bool.not_true, Bool.not_false, b2i_t, b2i_f, hact, hB]
          exact sgQ_pre (k1 := 0) hFq (by omega) (show t + 1 + 0 + 100 * vN v ≤ t + 0 + 100 * vN (stpV v) by rw [hsN]; omega) (fun e _ => hlf e) hFr (show p ≤ e + 1 by omega) (sgQ_rf hvs hLs hsO)
      · have hn1 := hv1.2.2.2.2
        exact sgQ_pre (k1 := 0) rfl rfl (by omega) (fun _ _ => rfl) Fr.rf (show p ≤ e + 1 by omega) (ih d k b (e + 1) q ns f1 t1 _ M1 hw2 hb hs2 hq hv1 hl1 (ScA_F hA hF1 hS) (CD_F hA hF1 hD) ho1 (by omega) (by omega))
    · -- loop
      have n5 : ¬ z a 0 = nI 5 := by rw [k0, z_kn (by omega) (by omega) (by omega)]; exact (fun h => h)
      obtain ⟨cn, cn1, cn2, hcn⟩ := cnt_of hk k0
      have hex : exO y z (exA y z nf) a v = itL (exA y z nf (a + 1) (nN (z a 8))) (nN (z a 1)) (stpV v) := by
        unfold exO; rw [if_neg h3, if_neg n5, if_pos k0]
      rw [hex]
      obtain ⟨k, k8, hak, hkb, hd1, hw1, hw2⟩ : ∃ k, z a 8 = nI k ∧ a < k ∧ k ≤ b ∧ 1 ≤ d ∧ Wel W (dC y) z nf (d - 1) (a + 1) k ∧ Wel W (dC y) z nf d k b := by
        rcases hrest with ⟨-, n6, -⟩ | ⟨-, hh⟩
        · exact absurd k0 n6
        · exact hh
      obtain ⟨e, hpe, heq, hoe, hmp, hme, hs1, hs2⟩ : ∃ e, p < e ∧ e < q ∧ EO e = nI 24 ∧ EM p = nI e ∧ EM e = nI p ∧ Ser W (dC y) z EO EA EB EM ns (a + 1) k (p + 1) e ∧ Ser W (dC y) z EO EA EB EM ns k b (e + 1) q := by
        rcases hsr with ⟨-, n6, -⟩ | ⟨-, k', e, e8, h1, h2, h3, h4, h5, h6, h7, h8, h9⟩
        · exact absurd k0 n6
        · rw [k8] at e8
          have : k = k' := (nI_eq (by omega) (by omega)).mp e8
          subst this
          exact ⟨e, h3, h4, h5, h6, h7, h8, h9⟩
      obtain ⟨ho23, hea⟩ := hoL k0
      subst ho23
      rw [k8, nN_nI (by omega), hcn, nN_nI (by omega)]
      rw [hcn] at hea
      have hact := q_act_no (p0 := p0) (c := c) (M := Ms) (o := 23) (a := EA p) (b := EB p) (by omega) (by omega)
      rw [← ho] at hact
      have hB := q_bs_loop (p0 := p0) (p2 := p2) (c := c) hSs (show p < 60 by omega) ho
      have hFl : Fr (inL p0 c) Ms (sA Ms (p0 + 1) (upd (mA Ms (p0 + 1)) p (EA p))) := inL_left
      have hL2 : LV (sA Ms (p0 + 1) (upd (mA Ms (p0 + 1)) p (EA p))) p0 c (stpV v) := LV_left hA hLs
      have hl2 : mA (sA Ms (p0 + 1) (upd (mA Ms (p0 + 1)) p (EA p))) (p0 + 1) p = nI (cn - 1 + 1) := by
        rw [mA_sA, if_pos rfl, upd_at, if_pos rfl, hea, show cn - 1 + 1 = cn by omega]
      have hlf2 : ∀ i, (i < p ∨ e + 1 ≤ i) → mA (sA Ms (p0 + 1) (upd (mA Ms (p0 + 1)) p (EA p))) (p0 + 1) i = mA M (p0 + 1) i := fun i hi => by
        rw [mA_sA, if_pos rfl, upd_at, if_neg (by omega)]
        exact hlf i
      generalize sA Ms (p0 + 1) (upd (mA Ms (p0 + 1)) p (EA p)) = M2 at hB hFl hL2 hl2 hlf2
      have hFq : f_Life_run_l42 p0 p1 p2 c p4 (f + 1) (nI p) (nI t) M = f_Life_run_l42 p0 p1 p2 c p4 f (nI (p + 1)) (nI (t + 1)) M2 := by
        rw [hFs]
        simp (disch := first | assumption | omega) only [z_bdn, z_caln, z_gdn, z_iT, z_iF, z_le_t, z_le_f, z_lt_t, z_lt_f, z_cl, z_inb, z_at, z_pl, z_lit, nI_ii1, nI_add, z_mr, z_ref0, z_refn, z_eq_f, Bool.not_true, Bool.not_false, b2i_t, b2i_f, hact, hB]
      have hFF := hFr.tr hFl
      refine sgQ_tr (q1 := e + 1) (k1 := 0) (k2 := 0) (v1 := itL (exA y z nf (a + 1) k) cn (stpV v)) ?_ ⟨by omega, by omega⟩ (by omega) (fun M1 f1 t1 hv1 ho1 hl1 hft htt hlf1 hF1 => ?_) (fun hov => exA_over hov _ _ _)
      · have hlp := sg_loop (W := W) (y := y) (z := z) (p4 := p4) (nf := nf) (a := a + 1) (k := k) hA hE hpe (show e < E by omega) hoe hme ho (fun v M f t hv h hS hD hvo ht hf => ih (d - 1) (a + 1) k (p + 1) e ns f t v M hw1 (by omega) hs1 (by omega) hv h hS hD hvo ht hf) (cn - 1) (stpV v) M2 f (t + 1) (by omega) hl2 hvs hL2 (ScA_F hA hFl hSs) (CD_F hA hFl hDs) hsO (by rw [hsN]; omega) (by omega)
        rw [show cn - 1 + 1 = cn by omega] at hlp
        exact sgQ_pre (k1 := cn) hFq (by omega) (show t + 1 + cn + 100 * vN v ≤ t + 0 + 100 * vN (stpV v) by rw [hsN]; omega) hlf2 hFF (Nat.le_refl _) hlp
      · have hn1 := hv1.2.2.2.2
        exact sgQ_pre (k1 := 0) rfl rfl (by omega) (fun _ _ => rfl) Fr.rf (show p ≤ e + 1 by omega) (ih d k b (e + 1) q ns f1 t1 _ M1 hw2 hb hs2 hq hv1 hl1 (ScA_F hA hF1 hS) (CD_F hA hF1 hD) ho1 (by omega) (by omega))
    · -- stop
      have n5 : ¬ z a 0 = nI 5 := by rw [k0, z_kn (by omega) (by omega) (by omega)]; exact (fun h => h)
      have n6 : ¬ z a 0 = nI 6 := by rw [k0, z_kn (by omega) (by omega) (by omega)]; exact (fun h => h)
      have hex : exO y z (exA y z nf) a v = ovrV (stpV v) := by
        unfold exO; rw [if_neg h3, if_neg n5, if_neg n6, if_pos k0]
      rw [hex, exA_over rfl]
      have ho25 := hoS k0
      subst ho25
      have hact := q_act_no (p0 := p0) (c := c) (M := Ms) (o := 25) (a := EA p) (b := EB p) (by omega) (by omega)
      rw [← ho] at hact
      have hB := q_bs_stop (p0 := p0) (p2 := p2) (c := c) hSs (show p < 60 by omega) ho
      obtain ⟨f, rfl⟩ : ∃ f', f = f' + 1 := ⟨f - 1, by omega⟩
      have hdn := F_done (p0 := p0) (p2 := p2) (c := c) (p4 := p4) (f := f) (t := t + 1) hSs hE (Nat.le_refl E) hE (by omega)
      refine ⟨hvs, fun e => (by cases e), fun _ => ⟨Ms, ?_, LV_X hLs (jx rfl rfl rfl rfl rfl rfl rfl) rfl, hFr⟩⟩
      rw [hFs]
      simp (disch := first | assumption | omega) only [z_bdn, z_caln, z_gdn, z_iT, z_iF, z_le_t, z_le_f, z_lt_t, z_lt_f, z_cl, z_inb, z_at, z_pl, z_lit, nI_ii1, nI_add, z_mr, z_ref0, z_refn, z_eq_f, Bool.not_true, Bool.not_false, b2i_t, b2i_f, hact, hB]
      exact hdn
    · -- a step that only does
      have nk : ∀ j, 5 ≤ j → j < 100 → ¬ z a 0 = nI j := fun j h1 h2 e => by rw [e, nN_nI (by omega)] at k0; omega
      have hex : exO y z (exA y z nf) a v = lvA (nN (z a 0)) (nN (z a 1)) (nN (z a 2)) (stpV v) := by
        unfold exO; rw [if_neg h3, if_neg (nk 5 (by omega) (by omega)), if_neg (nk 6 (by omega) (by omega)), if_neg (nk 7 (by omega) (by omega))]
      rw [hex]
      obtain ⟨k8, hw2⟩ : z a 8 = nI (a + 1) ∧ Wel W (dC y) z nf d (a + 1) b := by
        rcases hrest with ⟨-, -, h1, h2⟩ | ⟨h56, -⟩
        · exact ⟨h1, h2⟩
        · exact (h56.elim (fun e => nk 5 (by omega) (by omega) e) (fun e => nk 6 (by omega) (by omega) e)).elim
      have hs2 : Ser W (dC y) z EO EA EB EM ns (a + 1) b (p + 1) q := by
        rcases hsr with ⟨-, -, -, h2⟩ | ⟨h56, -⟩
        · exact h2
        · exact (h56.elim (fun e => nk 5 (by omega) (by omega) e) (fun e => nk 6 (by omega) (by omega) e)).elim
      obtain ⟨M1, c1, c2, c3⟩ := q_act hvs hLs hc0 hk hent k0
      have hvl : OkV W (lvA (nN (z a 0)) (nN (z a 1)) (nN (z a 2)) (stpV v)) := OkV_lvA hvs (yr_99 hk)
      have hO2 : vO (lvA (nN (z a 0)) (nN (z a 1)) (nN (z a 2)) (stpV v)) = false := (lvA_O _ _ _ _).trans hsO
      have hN2 : vN (lvA (nN (z a 0)) (nN (z a 1)) (nN (z a 2)) (stpV v)) = vN v + 1 := lvA_N _ _ _ _
      rw [k8, nN_nI (by omega)]
      have hFF := hFr.tr (inL_A c3)
      have hS1 := ScA_F hA hFF hS
      have hB := q_bs_lin (p0 := p0) (p2 := p2) (c := c) hS1 (show p < 60 by omega) ho (hoA k0)
      have hFq : f_Life_run_l42 p0 p1 p2 c p4 (f + 1) (nI p) (nI t) M = f_Life_run_l42 p0 p1 p2 c p4 f (nI (p + 1)) (nI (t + 1)) M1 := by
        rw [hFs]
        simp (disch := first | assumption | omega) only [z_bdn, z_caln, z_gdn, z_iT, z_iF, z_le_t, z_le_f, z_lt_t, z_lt_f, z_cl, z_inb, z_at, z_pl, z_lit, nI_ii1, nI_add, z_mr, z_ref0, z_refn, z_eq_f, Bool.not_true, Bool.not_false, b2i_t, b2i_f, c1, hB]
      have hlf1 : ∀ e, mA M1 (p0 + 1) e = mA M (p0 + 1) e := fun e => (congrFun (c3 (p0 + 1) (fun hh => by unfold inA at hh; omega)).2.2.1 e).trans (hlf e)
      exact sgQ_pre (k1 := 0) hFq (by omega) (by rw [hN2]; omega) (fun e _ => hlf1 e) hFF (show p ≤ p + 1 by omega) (ih d (a + 1) b (p + 1) q ns f (t + 1) _ M1 hw2 hb hs2 hq hvl c2 hS1 (CD_F hA hFF hD) hO2 (by rw [hN2]; omega) (by omega))
/-- a whole life of the class -/
theorem q_Lrun {zz : Sc} {s : Nat} (hA : apL p0 c p1 p2) (hP : OkD (cW x) y) (hO : OkC x) (hY : cY x ≤ 9999) (hs : s < 65536) (hC : CC M c x) (hD : CD M p2 y) (hZ : CZ M p1 (cW x) (dC y) zz) (hzt : zz.1 = true) (hw : zz.2.1 ≤ 30 ∧ Wel (cW x) (dC y) zz.2.2 31 3 0 zz.2.1) : ∃ M', f_Life_run p0 p1 p2 c (nI s) M = some ((), M') ∧ LV M' p0 c (lifV y zz x s) ∧ Fr (inL p0 c) M M' := by
  obtain ⟨-, hz2⟩ := hZ
  obtain ⟨z1, E, hE, z2, z3⟩ := hz2 hzt
  have hc0 : p0 + 1 < c := by have := hA.1; have := hA.2.1; omega
  obtain ⟨M0, hM0⟩ : ∃ M0, M0 = sI (sI (sI (sI (sI (sI (sI M p0 1 (nI s)) p0 2 (nI 0)) p0 3 (nI 0)) p0 4 (nI 0)) p0 5 (nI 0)) p0 6 (nI 0)) p0 7 (nI 0) := ⟨_, rfl⟩
  have hF0 : ∀ {M : kx_M} {k : Nat} {v : Int32}, Fr (inL p0 c) M (sI M p0 k v) := inL_0 (Fr.sI rfl)
  have hFF : Fr (inL p0 c) M M0 := by
    rw [hM0]
    exact hF0.tr (hF0.tr (hF0.tr (hF0.tr (hF0.tr (hF0.tr hF0)))))
  have hF1 : Fr (fun id => id = p0) M M0 := by
    rw [hM0]
    exact Fr.tr (Fr.sI rfl) (Fr.tr (Fr.sI rfl) (Fr.tr (Fr.sI rfl) (Fr.tr (Fr.sI rfl) (Fr.tr (Fr.sI rfl) (Fr.tr (Fr.sI rfl) (Fr.sI rfl))))))
  have hL : LV M0 p0 c (lif0 x s) := by
    refine ⟨CC_fr hF1 (fun id a b e => by omega) hC, ?_⟩
    rw [hM0]
    refine jx ?_ ?_ ?_ ?_ ?_ ?_ ?_
    all_goals simp [mI_sI, lvJ, lif0, mkV, vS, vN, vI, vY, vF, vD, vC]
  have hv : OkV (cW x) (lif0 x s) := ⟨hO, rfl, hY, hs, Nat.zero_le _⟩
  have hS0 : ScA M0 p1 E (mA M (p1 + 1)) (mA M (p1 + 2)) (mA M (p1 + 3)) (mA M (p1 + 4)) := ScA_F hA hFF ⟨z2, rfl, rfl, rfl, rfl⟩
  have hsg := q_seg (p4 := nI s) hA hP hE 31 3 0 zz.2.1 0 E 70 FU 0 (lif0 x s) M0 hw.2 hw.1 z3 (Nat.le_refl _) hv hL hS0 (CD_F hA hFF hD) rfl (by omega) (show 100000 < 1000000 + 0 by omega)
  have eR : f_Life_run p0 p1 p2 c (nI s) M = f_Life_run_l42 p0 p1 p2 c (nI s) FU (nI 0) (nI 0) M0 := by
    rw [f_Life_run]
    simp (disch := first | assumption | omega) only [z_bdn, z_caln, z_gdn, z_iT, z_iF, z_le_t, z_le_f, z_lt_t, z_lt_f, z_cl, z_inb, z_at, z_pl, z_lit, nI_ii1, nI_add, z_mr, z_ref0, z_refn, z_eq_f, Bool.not_true, Bool.not_false, b2i_t, b2i_f, ← hM0]
  rw [eR]
  obtain ⟨a1, a2, a3⟩ := hsg
  cases ho : vO (exA y zz.2.2 31 0 zz.2.1 (lif0 x s)) with
  | true =>
    obtain ⟨M', b1, b2, b3⟩ := a3 ho
    exact ⟨M', b1, b2, hFF.tr b3⟩
  | false =>
    obtain ⟨M', f', t', b1, b2, b3, b4, b5, b6⟩ := a2 ho
    have hn := a1.2.2.2.2
    have hFU : FU = 1000000 := rfl
    have e0 : vN (lif0 x s) = 0 := rfl
    rw [e0] at b4
    obtain ⟨f1, rfl⟩ : ∃ f1, f' = f1 + 1 := ⟨f' - 1, by omega⟩
    have hdn := F_done (p0 := p0) (p2 := p2) (c := c) (p4 := nI s) (f := f1) (t := t') (ScA_F hA (hFF.tr b6) ⟨z2, rfl, rfl, rfl, rfl⟩) hE (Nat.le_refl E) hE (by omega)
    exact ⟨M', b1.trans hdn, b2, hFF.tr b6⟩
end
