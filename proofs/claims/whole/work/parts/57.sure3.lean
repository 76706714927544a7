/-! ## SURE: the reference's call -/
section
variable {M M' : kx_M} {σ : Sg}
theorem pM_sure (k p q : Int32) : PM (f_RM_sure k p q) (o_sure k p q) := by
  intro M σ h
  have h1 := IM_th (nI 0) h
  have g1 := q_isTray p (sI M 135 1 (nI 0))
  have g2 := g_isClause h1 k
  have g3 := g_isCol h1 q
  have st : ∀ v, mI (sI (sI M 135 1 (nI 0)) 135 0 v) 135 0 = v := fun v => rfl
  rw [f_RM_sure]
  unfold o_sure
  cases hx : ix p 4
  · rw [hx] at g1
    refine ⟨_, ?_, IM_st (nI 1) h1, Lo_th.tr Lo_st⟩
    simp (disch := first | assumption | omega) only [z_bdn, z_caln, z_gdn, z_iT, z_iF, z_le_t, z_le_f, z_lt_t, z_lt_f, z_cl, z_inb, z_at, z_pl, z_lit, nI_ii1, nI_add, nI_mul, z_eq_f, z_refuse, z_no, z_M00, b2i_t, b2i_f, g1, oG, f_RM_sure_l44, st]
  · rw [hx] at g1
    obtain ⟨t, ht, rfl⟩ := ix_ex (by omega) hx
    have e1 : (nI t).toNatClampNeg = t := z_cl (by omega)
    cases hz : ix k (dC (gY σ))
    · rw [hz] at g2
      have hsn : snS k (nI t) σ = 2 := by unfold snS; rw [hx, hz]; rfl
      rw [hsn]
      cases hy : ix q (cW (gX σ))
      · refine ⟨_, ?_, IM_st (nI 2) h1, Lo_th.tr Lo_st⟩
        simp (disch := first | assumption | omega) only [z_bdn, z_caln, z_gdn, z_iT, z_iF, z_le_t, z_le_f, z_lt_t, z_lt_f, z_cl, z_inb, z_at, z_pl, z_lit, nI_ii1, nI_add, nI_mul, z_eq_f, z_refuse, z_no, z_M00, b2i_t, b2i_f, g1, g2, oG, f_RM_sure_l44, st]
      · refine ⟨_, ?_, IM_st (nI 2) h1, Lo_th.tr Lo_st⟩
        simp (disch := first | assumption | omega) only [z_bdn, z_caln, z_gdn, z_iT, z_iF, z_le_t, z_le_f, z_lt_t, z_lt_f, z_cl, z_inb, z_at, z_pl, z_lit, nI_ii1, nI_add, nI_mul, z_eq_f, z_refuse, z_no, z_M00, b2i_t, b2i_f, g1, g2, oG, oS, f_RM_sure_l44, st]
    · rw [hz] at g2
      cases hy : ix q (cW (gX σ))
      · rw [hy] at g3
        refine ⟨_, ?_, IM_st (nI 2) h1, Lo_th.tr Lo_st⟩
        simp (disch := first | assumption | omega) only [z_bdn, z_caln, z_gdn, z_iT, z_iF, z_le_t, z_le_f, z_lt_t, z_lt_f, z_cl, z_inb, z_at, z_pl, z_lit, nI_ii1, nI_add, nI_mul, z_eq_f, z_refuse, z_no, z_M00, b2i_t, b2i_f, g1, g2, g3, oG, f_RM_sure_l44, st]
      · rw [hy] at g3
        have ks := q_whyNoRun (a := 1) h1 ht
        rw [← m1_sub] at ks
        have hsn : snS k (nI t) σ = kindS 1 t σ := by unfold snS; rw [hx, hz, e1]; rfl
        have lt := kindS_lt 1 t σ
        rw [hsn]
        cases h0 : kindS 1 t σ with
        | succ n =>
          rw [h0] at ks
          refine ⟨_, ?_, IM_st (nI (n + 1)) h1, Lo_th.tr Lo_st⟩
          simp (disch := first | assumption | omega) only [z_bdn, z_caln, z_gdn, z_iT, z_iF, z_le_t, z_le_f, z_lt_t, z_lt_f, z_cl, z_inb, z_at, z_pl, z_lit, nI_ii1, nI_add, nI_mul, z_eq_f, z_refuse, z_no, z_M00, b2i_t, b2i_f, g1, g2, g3, ks, oG, oS, f_RM_sure_l44, st]
        | zero =>
          rw [h0] at ks
          have hI := IM_00 h
          obtain ⟨hO, hC, hP, hD⟩ := IM_get hI
          have w2 := hP.2.1
          have w8 := hO.1.2
          obtain ⟨a, ha, rfl⟩ := ix_ex (by omega) hz
          obtain ⟨j, hj, rfl⟩ := ix_ex (by omega) hy
          have e2 : (nI a).toNatClampNeg = a := z_cl (by omega)
          have e3 : (nI j).toNatClampNeg = j := z_cl (by omega)
          have hl := hP.2.2.2.1 a ha
          obtain ⟨M1, M2, a1, a7, a2, b1, b2⟩ := q_rdfill hI ha ht h0
          have hF : Fr (fun id => id = 147 ∨ id = 148 ∨ id = 149) (M00 M) M2 := (a2.mono (fun id e => Or.inl e)).tr (b2.mono (fun id e => Or.inr e))
          have st0 : mI (M00 M) 135 0 = nI 0 := rfl
          have hlo : Lo M M2 := Lo_00.tr (hF.mono (fun id e => by show 135 ≤ id; omega))
          have hI2 := IM_F hI hF (fun _ e => e)
          have wl := wv_lt (L := dL (gY σ) a) (c := rnN (gY σ) a (dL (gY σ) a)) (kn := knT t σ) w8
          simp only [oG, oS]
          rw [e1, e2, e3]
          by_cases hr : wv (dL (gY σ) a) (rnN (gY σ) a (dL (gY σ) a)) (knT t σ) (cW (gX σ)) (dL (gY σ) a) = 0
          · have hs : suO a t j σ = none := by unfold suO suN; rw [if_pos hr]
            rw [hs]
            rw [hr] at b1
            refine ⟨_, ?_, IM_r (nI 8) hI2, hlo.tr Lo_st⟩
            have e71 : f_RM_sure_l71 (nI a) (nI t) (nI j) FU (nI 0) (nI 0) M2 = some (-nI 1, sI M2 135 0 (nI 8)) := by
              rw [show FU = 999999 + 1 from rfl, f_RM_sure_l71]
              simp (disch := first | assumption | omega) only [z_bdn, z_caln, z_gdn, z_iT, z_iF, z_le_t, z_le_f, z_lt_t, z_lt_f, z_cl, z_inb, z_at, z_pl, z_lit, nI_ii1, nI_add, nI_mul, z_eq_f, z_refuse, z_no, z_M00, b2i_t, b2i_f]
            simp (disch := first | assumption | omega) only [z_bdn, z_caln, z_gdn, z_iT, z_iF, z_le_t, z_le_f, z_lt_t, z_lt_f, z_cl, z_inb, z_at, z_pl, z_lit, nI_ii1, nI_add, nI_mul, z_eq_f, z_refuse, z_no, z_M00, b2i_t, b2i_f, g1, g2, g3, ks, f_RM_sure_l44, st0, a1, b1]
            exact e71
          · have hs : suO a t j σ = _ := suN_fw (kn := knT t σ) (fun b hb => knT_lt h0 j b hj hb) hr
            have e140 := (hF 140 (by decide)).2.2.1
            obtain ⟨M3, c1, c2⟩ := q_sure_l71 (k := a) (j := j) (p := nI t) (kn := knT t σ) (h := mB (M00 M) 143) hP hD hC.1 w8 ha (knT_lt h0) hj (show 0 < wv (dL (gY σ) a) (rnN (gY σ) a (dL (gY σ) a)) (knT t σ) (cW (gX σ)) (dL (gY σ) a) by omega) wl 4 FU 0 M2 (by omega) (FU_lt (by omega)) e140 (fun i hi => (congrFun (b2 147 (by decide)).2.2.1 i).trans (a7 i hi))
            have hI3 := IM_F hI2 c2 (fun _ e => e)
            have hlo3 : Lo M M3 := hlo.tr (c2.mono (fun id e => by show 135 ≤ id; omega))
            rw [← hs] at c1
            cases hv : suO a t j σ with
            | none =>
              rw [hv] at c1
              refine ⟨_, ?_, IM_r (nI 8) hI3, hlo3.tr Lo_st⟩
              simp (disch := first | assumption | omega) only [z_bdn, z_caln, z_gdn, z_iT, z_iF, z_le_t, z_le_f, z_lt_t, z_lt_f, z_cl, z_inb, z_at, z_pl, z_lit, nI_ii1, nI_add, nI_mul, z_eq_f, z_refuse, z_no, z_M00, b2i_t, b2i_f, g1, g2, g3, ks, f_RM_sure_l44, st0, a1, b1]
              exact c1
            | some v =>
              rw [hv] at c1
              refine ⟨M3, ?_, hI3, hlo3⟩
              simp (disch := first | assumption | omega) only [z_bdn, z_caln, z_gdn, z_iT, z_iF, z_le_t, z_le_f, z_lt_t, z_lt_f, z_cl, z_inb, z_at, z_pl, z_lit, nI_ii1, nI_add, nI_mul, z_eq_f, z_refuse, z_no, z_M00, b2i_t, b2i_f, g1, g2, g3, ks, f_RM_sure_l44, st0, a1, b1]
              exact c1
end
