def TkO (n : Nat) (t : Tok) : Prop := kP t ≤ kA t ∧ kA t ≤ n ∧ (kS t ≠ 0 → kP t < kA t)
section
variable {M M' M1 : kx_M} {T : Nat → Nat} {n u : Nat} {t : Tok} {s s1 : Ps} {σ : Sg}
theorem TkO_nx (h : TkO n t) : TkO n (nx T n t) ∧ kA t ≤ kP (nx T n t) := by
  obtain ⟨b1, b2, b3, b4, b5, -, -⟩ := nxt_bd (T := T) h.2.1
  exact ⟨⟨b4, b2, b5⟩, b3⟩
theorem pKds_mo {most : Nat} : ∀ {m c : Nat} {kd : Nat → Nat} {t : Tok} {r : Nat × (Nat → Nat) × Tok}, TkO n t → pKds T n most m c kd t = .ok r → TkO n r.2.2 ∧ kP t ≤ kP r.2.2 := by
  intro m
  induction m with
  | zero => intro c kd t r h e; cases e; exact ⟨h, Nat.le_refl _⟩
  | succ m ih =>
    intro c kd t r h e
    unfold pKds at e
    split at e
    · split at e
      · cases e
      · cases e; exact ⟨h, Nat.le_refl _⟩
    · split at e
      · cases e
      · obtain ⟨g1, g2⟩ := TkO_nx (T := T) h
        obtain ⟨k1, k2⟩ := ih g1 e
        have := h.1
        exact ⟨k1, by omega⟩
theorem pRun_mo {W : Nat} : ∀ {m c : Nat} {kd : Nat → Nat} {t : Tok} {r : (Nat → Nat) × Tok}, TkO n t → pRun T n W m c kd t = .ok r → TkO n r.2 ∧ kP t ≤ kP r.2 := by
  intro m
  induction m with
  | zero => intro c kd t r h e; cases e; exact ⟨h, Nat.le_refl _⟩
  | succ m ih =>
    intro c kd t r h e
    obtain ⟨g1, g2⟩ := TkO_nx (T := T) h
    obtain ⟨g3, g4⟩ := TkO_nx (T := T) g1
    have h1 := h.1
    have h2 := g1.1
    unfold pRun at e
    split at e
    · split at e
      · cases e
      · cases e; exact ⟨h, Nat.le_refl _⟩
    · split at e
      · cases e
      · split at e
        · split at e
          · cases e
          · split at e
            · cases e
            · obtain ⟨k1, k2⟩ := ih g3 e
              exact ⟨k1, by omega⟩
        · obtain ⟨k1, k2⟩ := ih g1 e
          exact ⟨k1, by omega⟩
theorem pBody_mo (h : TkO n (sT s)) (e : pBody T n s = .ok s1) : TkO n (sT s1) ∧ kA (sT s) ≤ kP (sT s1) := by
  obtain ⟨a1, a2⟩ := TkO_nx (T := T) h
  obtain ⟨b1, b2⟩ := TkO_nx (T := T) a1
  obtain ⟨c1, c2⟩ := TkO_nx (T := T) b1
  obtain ⟨d1, d2⟩ := TkO_nx (T := T) c1
  have q1 := a1.1
  have q2 := b1.1
  have q3 := c1.1
  have mea : ∀ w, pMea T n w s = .ok s1 → TkO n (sT s1) ∧ kA (sT s) ≤ kP (sT s1) := by
    intro w e
    unfold pMea at e
    by_cases h0 : 0 < cR (sX s) ∨ 0 < dC (sY s)
    · rw [if_pos h0] at e; cases e
    rw [if_neg h0] at e
    by_cases h9 : (if w = true then sW s else sH s) = true
    · rw [if_pos h9] at e; cases e
    rw [if_neg h9] at e
    cases hn : pNum 1 (if w = true then 8 else 50) (nx T n (sT s)) with
    | error er => rw [hn] at e; cases e
    | ok v =>
      rw [hn] at e
      cases w with
      | true => cases e; exact ⟨b1, by show _ ≤ kP (nx T n (nx T n (sT s))); omega⟩
      | false => cases e; exact ⟨b1, by show _ ≤ kP (nx T n (nx T n (sT s))); omega⟩
  unfold pBody at e
  split at e
  · exact mea _ e
  split at e
  · exact mea _ e
  split at e
  · unfold pQue at e
    split at e
    · cases e
    · split at e
      · cases e
      · split at e
        · split at e
          · cases e
          · cases e; exact ⟨d1, by show _ ≤ kP (nx T n (nx T n (nx T n (nx T n (sT s))))); omega⟩
        · cases e; exact ⟨b1, by show _ ≤ kP (nx T n (nx T n (sT s))); omega⟩
  split at e
  · unfold pCla at e
    split at e
    · cases e
    · split at e
      · cases e
      · split at e
        · split at e
          · cases e
          · rename_i r hn
            obtain ⟨k1, k2⟩ := pKds_mo c1 hn
            cases e; exact ⟨k1, by show _ ≤ kP r.2.2; omega⟩
        · cases e
  split at e
  · unfold pClh at e
    split at e
    · cases e
    · split at e
      · cases e
      · split at e
        · cases e
        · cases e; exact ⟨c1, by show _ ≤ kP (nx T n (nx T n (nx T n (sT s)))); omega⟩
  have wor : ∀ v, pWor T n v s = .ok s1 → TkO n (sT s1) ∧ kA (sT s) ≤ kP (sT s1) := by
    intro v e
    unfold pWor at e
    split at e
    · cases e
    · split at e
      · cases e
      · split at e
        · cases e
        · cases e; exact ⟨d1, by show _ ≤ kP (nx T n (nx T n (nx T n (nx T n (sT s))))); omega⟩
  split at e
  · exact wor _ e
  split at e
  · exact wor _ e
  split at e
  · unfold pRow at e
    split at e
    · cases e
    · split at e
      · cases e
      · split at e
        · cases e
        · rename_i r hr
          obtain ⟨k1, k2⟩ := pRun_mo b1 hr
          cases e; exact ⟨k1, by show _ ≤ kP r.2; omega⟩
  · cases e
theorem pPart_mo (h : TkO n (sT s)) (h0 : kS (sT s) ≠ 0) (e : pPart T n s = .ok s1) : TkO n (sT s1) ∧ kP (sT s) < kP (sT s1) := by
  unfold pPart at e
  split at e
  · cases e
  · rename_i s2 hb
    obtain ⟨k1, k2⟩ := pBody_mo h hb
    obtain ⟨k3, k4⟩ := TkO_nx (T := T) k1
    have h1 := h.2.2 h0
    have h2 := k1.1
    unfold pSig at e
    split at e
    · cases e
    · rename_i t ht
      split at ht
      · cases ht
        cases e
        exact ⟨k3, by show _ < kP (nx T n (sT s2)); omega⟩
      · cases ht
/-- behind a part its sign -/
theorem sg_part {r : Option (Int32 × kx_M)} (hu : 27 ≤ u) (hO : POk n s) (hb : RsC u T n M r (pBody T n s)) : RsC u T n M (cal r fun r2 M1 => if r2 = 0 then some ((0 : Int32), M1) else cal (f_Reader_takeSign 5 59 M1) fun r4 M2 => if r4 = 0 then some ((0 : Int32), M2) else some ((1 : Int32), M2)) (pPart T n s) := by
  cases hp : pBody T n s with
  | error e =>
    rw [hp] at hb
    obtain ⟨M1, a1, a2, a3⟩ := hb
    have ep : pPart T n s = .error e := by unfold pPart; rw [hp]
    rw [ep]
    refine ⟨M1, ?_, a2, a3⟩
    simp (disch := first | assumption | omega) only [z_bdn, z_caln, z_gdn, z_iT, z_iF, z_le_t, z_le_f, z_lt_t, z_lt_f, z_cl, z_inb, z_at, z_lit, nI_ii1, nI_add, z_mr, z_ref0, z_refn, z_eq_f, Bool.not_true, Bool.not_false, b2i_t, b2i_f, a1]
  | ok s1 =>
    rw [hp] at hb
    obtain ⟨M1, a1, ⟨b1, b2, b3⟩, a3⟩ := hb
    have ha := (pBody_ok hO hp).2.2.2.2.2
    have hs := q_takeSign (c := 59) (by omega) b1.1 b2 b3 ha (by omega)
    cases hq : pSig T n 59 (sT s1) with
    | error e =>
      rw [hq] at hs
      obtain ⟨M2, c1, c2, c3⟩ := hs
      have ep : pPart T n s = .error e := by unfold pPart; rw [hp]; show (match pSig _ _ _ _ with | .error e => _ | .ok t => _) = _; rw [hq]
      rw [ep]
      refine ⟨M2, ?_, c2, a3.tr (Pc_R c3)⟩
      simp (disch := first | assumption | omega) only [z_bdn, z_caln, z_gdn, z_iT, z_iF, z_le_t, z_le_f, z_lt_t, z_lt_f, z_cl, z_inb, z_at, z_lit, nI_ii1, nI_add, z_mr, z_ref0, z_refn, z_eq_f, Bool.not_true, Bool.not_false, b2i_t, b2i_f, a1, c1]
    | ok t1 =>
      rw [hq] at hs
      obtain ⟨M2, c1, c2, c3, c4⟩ := hs
      have ep : pPart T n s = .ok (t1, s1.2) := by unfold pPart; rw [hp]; show (match pSig _ _ _ _ with | .error e => _ | .ok t => _) = _; rw [hq]
      rw [ep]
      have c5 : TkB t1 := by rw [c4]; exact TkB_x b1.1 ha
      refine ⟨M2, ?_, ⟨CB_R hu b1 c3, c2, c5⟩, a3.tr (Pc_R c3)⟩
      simp (disch := first | assumption | omega) only [z_bdn, z_caln, z_gdn, z_iT, z_iF, z_le_t, z_le_f, z_lt_t, z_lt_f, z_cl, z_inb, z_at, z_lit, nI_ii1, nI_add, z_mr, z_ref0, z_refn, z_eq_f, Bool.not_true, Bool.not_false, b2i_t, b2i_f, a1, c1]
theorem q_pPart (hu : u = 27 ∨ u = 47) (h : CPs M u T n s) (hO : POk n s) : RsC u T n M (f_TreatyText_readPart u M) (pPart T n s) := by
  have hu27 : 27 ≤ u := by omega
  obtain ⟨hB, hT, hTB⟩ := id h
  have b0 : b01 (nI 0) = true := by decide
  have eK : ∀ k, k < 100 → isK (sT s) k = true → mI M 5 6 = nI k := fun k hk h => (z_key hT hTB hk).mpr h
  have nK : ∀ k, k < 100 → isK (sT s) k = false → ¬ mI M 5 6 = nI k := fun k hk h e => by
    have := (z_key hT hTB hk).mp e
    rw [h] at this
    cases this
  have other : ∀ j k, j ≠ k → isK (sT s) j = true → isK (sT s) k = false := fun j k hjk hj => isK_f hj hjk
  obtain ⟨Mf, f1, f2, f3⟩ := q_failP (u := u) (k := 2) hT hTB
  have fl : RsC u T n M (cal (f_Reader_fail 5 2 M) fun r M' => gd (b01 r) (some (r, M'))) (.error (flt (sT s) 2)) := by
    refine ⟨Mf, ?_, f2, f3⟩
    simp (disch := first | assumption | omega) only [z_bdn, z_caln, z_gdn, z_iT, z_iF, z_le_t, z_le_f, z_lt_t, z_lt_f, z_cl, z_inb, z_at, z_lit, nI_ii1, nI_add, z_mr, z_ref0, z_refn, z_eq_f, Bool.not_true, Bool.not_false, b2i_t, b2i_f, f1, b0]
  have epf : (∀ k, k < 10 → k ≠ 3 → k ≠ 5 → isK (sT s) k = false) → pPart T n s = .error (flt (sT s) 2) := fun hn => by
    unfold pPart pBody
    rw [hn 0 (by omega) (by omega) (by omega), hn 1 (by omega) (by omega) (by omega), hn 2 (by omega) (by omega) (by omega), hn 4 (by omega) (by omega) (by omega), hn 6 (by omega) (by omega) (by omega), hn 7 (by omega) (by omega) (by omega), hn 8 (by omega) (by omega) (by omega), hn 9 (by omega) (by omega) (by omega)]
    rfl
  rw [f_TreatyText_readPart, z_bd]
  cases c0 : isK (sT s) 0 with
  | true =>
    have ep : pBody T n s = pMea T n true s := by unfold pBody; rw [c0, z_itt]
    have hb := q_pMea (isW := true) hu h hO
    rw [← ep] at hb
    rw [if_pos (show mI M 5 6 = (0 : Int32) from eK 0 (by omega) c0)]
    rw [eK 0 (by omega) c0]
    exact sg_part hu27 hO hb
  | false =>
    cases c1 : isK (sT s) 1 with
    | true =>
      have ep : pBody T n s = pMea T n false s := by unfold pBody; rw [c0, z_itf, c1, z_itt]
      have hb := q_pMea (isW := false) hu h hO
      rw [← ep] at hb
      rw [if_neg (show ¬ mI M 5 6 = (0 : Int32) from nK 0 (by omega) c0), if_pos (show mI M 5 6 = (1 : Int32) from eK 1 (by omega) c1)]
      rw [eK 1 (by omega) c1]
      exact sg_part hu27 hO hb
    | false =>
      cases c2 : isK (sT s) 2 with
      | true =>
        have ep : pBody T n s = pQue T n s := by unfold pBody; rw [c0, z_itf, c1, z_itf, c2, z_itt]
        have hb := q_pQue hu h hO
        rw [← ep] at hb
        rw [if_neg (show ¬ mI M 5 6 = (0 : Int32) from nK 0 (by omega) c0), if_neg (show ¬ mI M 5 6 = (1 : Int32) from nK 1 (by omega) c1), if_pos (show mI M 5 6 = (2 : Int32) from eK 2 (by omega) c2)]
        exact sg_part hu27 hO hb
      | false =>
        cases c3 : isK (sT s) 3 with
        | true =>
          rw [if_neg (show ¬ mI M 5 6 = (0 : Int32) from nK 0 (by omega) c0), if_neg (show ¬ mI M 5 6 = (1 : Int32) from nK 1 (by omega) c1), if_neg (show ¬ mI M 5 6 = (2 : Int32) from nK 2 (by omega) c2), if_pos (show mI M 5 6 = (3 : Int32) from eK 3 (by omega) c3)]
          rw [epf (fun q hq h3 h5 => other 3 q (fun e => by omega) c3)]
          exact fl
        | false =>
          cases c4 : isK (sT s) 4 with
          | true =>
            have ep : pBody T n s = pCla T n s := by unfold pBody; rw [c0, z_itf, c1, z_itf, c2, z_itf, c4, z_itt]
            have hb := q_pCla hu h hO
            rw [← ep] at hb
            rw [if_neg (show ¬ mI M 5 6 = (0 : Int32) from nK 0 (by omega) c0), if_neg (show ¬ mI M 5 6 = (1 : Int32) from nK 1 (by omega) c1), if_neg (show ¬ mI M 5 6 = (2 : Int32) from nK 2 (by omega) c2), if_neg (show ¬ mI M 5 6 = (3 : Int32) from nK 3 (by omega) c3), if_pos (show mI M 5 6 = (4 : Int32) from eK 4 (by omega) c4)]
            exact sg_part hu27 hO hb
          | false =>
            cases c5 : isK (sT s) 5 with
            | true =>
              rw [if_neg (show ¬ mI M 5 6 = (0 : Int32) from nK 0 (by omega) c0), if_neg (show ¬ mI M 5 6 = (1 : Int32) from nK 1 (by omega) c1), if_neg (show ¬ mI M 5 6 = (2 : Int32) from nK 2 (by omega) c2), if_neg (show ¬ mI M 5 6 = (3 : Int32) from nK 3 (by omega) c3), if_neg (show ¬ mI M 5 6 = (4 : Int32) from nK 4 (by omega) c4), if_pos (show mI M 5 6 = (5 : Int32) from eK 5 (by omega) c5)]
              rw [epf (fun q hq h3 h5 => other 5 q (fun e => by omega) c5)]
              exact fl
            | false =>
              cases c6 : isK (sT s) 6 with
              | true =>
                have ep : pBody T n s = pClh T n s := by unfold pBody; rw [c0, z_itf, c1, z_itf, c2, z_itf, c4, z_itf, c6, z_itt]
                have hb := q_pClh hu h hO
                rw [← ep] at hb
                rw [if_neg (show ¬ mI M 5 6 = (0 : Int32) from nK 0 (by omega) c0), if_neg (show ¬ mI M 5 6 = (1 : Int32) from nK 1 (by omega) c1), if_neg (show ¬ mI M 5 6 = (2 : Int32) from nK 2 (by omega) c2), if_neg (show ¬ mI M 5 6 = (3 : Int32) from nK 3 (by omega) c3), if_neg (show ¬ mI M 5 6 = (4 : Int32) from nK 4 (by omega) c4), if_neg (show ¬ mI M 5 6 = (5 : Int32) from nK 5 (by omega) c5), if_pos (show mI M 5 6 = (6 : Int32) from eK 6 (by omega) c6)]
                exact sg_part hu27 hO hb
              | false =>
                cases c7 : isK (sT s) 7 with
                | true =>
                  have ep : pBody T n s = pWor T n 0 s := by unfold pBody; rw [c0, z_itf, c1, z_itf, c2, z_itf, c4, z_itf, c6, z_itf, c7, z_itt]
                  have hb := q_pWor (v := 0) hu (by omega) h hO
                  rw [← ep] at hb
                  rw [if_neg (show ¬ mI M 5 6 = (0 : Int32) from nK 0 (by omega) c0), if_neg (show ¬ mI M 5 6 = (1 : Int32) from nK 1 (by omega) c1), if_neg (show ¬ mI M 5 6 = (2 : Int32) from nK 2 (by omega) c2), if_neg (show ¬ mI M 5 6 = (3 : Int32) from nK 3 (by omega) c3), if_neg (show ¬ mI M 5 6 = (4 : Int32) from nK 4 (by omega) c4), if_neg (show ¬ mI M 5 6 = (5 : Int32) from nK 5 (by omega) c5), if_neg (show ¬ mI M 5 6 = (6 : Int32) from nK 6 (by omega) c6), if_pos (show mI M 5 6 = (7 : Int32) from eK 7 (by omega) c7)]
                  rw [eK 7 (by omega) c7]
                  rw [if_pos (show (nI 7 : Int32) = 7 from rfl), f_TreatyText_readPart_l191]
                  exact sg_part hu27 hO hb
                | false =>
                  cases c8 : isK (sT s) 8 with
                  | true =>
                    have ep : pBody T n s = pWor T n 1 s := by unfold pBody; rw [c0, z_itf, c1, z_itf, c2, z_itf, c4, z_itf, c6, z_itf, c7, z_itf, c8, z_itt]
                    have hb := q_pWor (v := 1) hu (by omega) h hO
                    rw [← ep] at hb
                    rw [if_neg (show ¬ mI M 5 6 = (0 : Int32) from nK 0 (by omega) c0), if_neg (show ¬ mI M 5 6 = (1 : Int32) from nK 1 (by omega) c1), if_neg (show ¬ mI M 5 6 = (2 : Int32) from nK 2 (by omega) c2), if_neg (show ¬ mI M 5 6 = (3 : Int32) from nK 3 (by omega) c3), if_neg (show ¬ mI M 5 6 = (4 : Int32) from nK 4 (by omega) c4), if_neg (show ¬ mI M 5 6 = (5 : Int32) from nK 5 (by omega) c5), if_neg (show ¬ mI M 5 6 = (6 : Int32) from nK 6 (by omega) c6), if_neg (show ¬ mI M 5 6 = (7 : Int32) from nK 7 (by omega) c7), if_pos (show mI M 5 6 = (8 : Int32) from eK 8 (by omega) c8)]
                    rw [eK 8 (by omega) c8]
                    rw [if_neg (show ¬ (nI 8 : Int32) = 7 from by decide), f_TreatyText_readPart_l191]
                    exact sg_part hu27 hO hb
                  | false =>
                    cases c9 : isK (sT s) 9 with
                    | true =>
                      have ep : pBody T n s = pRow T n s := by unfold pBody; rw [c0, z_itf, c1, z_itf, c2, z_itf, c4, z_itf, c6, z_itf, c7, z_itf, c8, z_itf, c9, z_itt]
                      have hb := q_pRow hu h hO
                      rw [← ep] at hb
                      rw [if_neg (show ¬ mI M 5 6 = (0 : Int32) from nK 0 (by omega) c0), if_neg (show ¬ mI M 5 6 = (1 : Int32) from nK 1 (by omega) c1), if_neg (show ¬ mI M 5 6 = (2 : Int32) from nK 2 (by omega) c2), if_neg (show ¬ mI M 5 6 = (3 : Int32) from nK 3 (by omega) c3), if_neg (show ¬ mI M 5 6 = (4 : Int32) from nK 4 (by omega) c4), if_neg (show ¬ mI M 5 6 = (5 : Int32) from nK 5 (by omega) c5), if_neg (show ¬ mI M 5 6 = (6 : Int32) from nK 6 (by omega) c6), if_neg (show ¬ mI M 5 6 = (7 : Int32) from nK 7 (by omega) c7), if_neg (show ¬ mI M 5 6 = (8 : Int32) from nK 8 (by omega) c8), if_pos (show mI M 5 6 = (9 : Int32) from eK 9 (by omega) c9)]
                      exact sg_part hu27 hO hb
                    | false =>
                      rw [if_neg (show ¬ mI M 5 6 = (0 : Int32) from nK 0 (by omega) c0), if_neg (show ¬ mI M 5 6 = (1 : Int32) from nK 1 (by omega) c1), if_neg (show ¬ mI M 5 6 = (2 : Int32) from nK 2 (by omega) c2), if_neg (show ¬ mI M 5 6 = (3 : Int32) from nK 3 (by omega) c3), if_neg (show ¬ mI M 5 6 = (4 : Int32) from nK 4 (by omega) c4), if_neg (show ¬ mI M 5 6 = (5 : Int32) from nK 5 (by omega) c5), if_neg (show ¬ mI M 5 6 = (6 : Int32) from nK 6 (by omega) c6), if_neg (show ¬ mI M 5 6 = (7 : Int32) from nK 7 (by omega) c7), if_neg (show ¬ mI M 5 6 = (8 : Int32) from nK 8 (by omega) c8), if_neg (show ¬ mI M 5 6 = (9 : Int32) from nK 9 (by omega) c9)]
                      rw [epf (fun q hq h3 h5 => by
                        rcases (show q = 0 ∨ q = 1 ∨ q = 2 ∨ q = 4 ∨ q = 6 ∨ q = 7 ∨ q = 8 ∨ q = 9 by omega) with rfl | rfl | rfl | rfl | rfl | rfl | rfl | rfl <;> assumption)]
                      exact fl
end
