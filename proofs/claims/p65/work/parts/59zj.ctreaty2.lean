def o_treaty (p : Int32) (σ : Sg) : Int32 × Sg := if ix p ((gP σ).1 + 1) = true then (match pTre (gP σ).2 p.toNatClampNeg with
    | .ok s => (nI (cR (sX s)), wE (wNow (wP (wS σ (nI 0)) 0 (gP σ).2) (sX s, sY s, z00)) (nI 0) (-nI 1))
    | .error e => (-nI 1, wE (wP (wS σ (nI 10)) 0 (gP σ).2) (nI e.1) (nI e.2)))
  else (-nI 1, wS σ (nI 5))
section
variable {M M' M1 : kx_M} {T : Nat → Nat} {n u : Nat} {t : Tok} {s s1 : Ps} {σ : Sg}
theorem q_fillN {id N : Nat} (hl : kx_lay[id]? = some (1, N, [])) (hN : N ≤ 1000) : ∃ M', f_Arr_fill_2 id (nI 0) M = some ((), M') ∧ (∀ j, j < N → mA M' id j = nI 0) ∧ Fr (fun i => i = id) M M' := by
  have key : ∀ (m n j : Nat) (M : kx_M), j + m = N → m < n → (∀ i, i < j → mA M id i = nI 0) → ∃ M', f_Arr_fill_2_l5 id (nI 0) n (nI j) (nI N) M = some ((), M') ∧ (∀ j, j < N → mA M' id j = nI 0) ∧ Fr (fun i => i = id) M M' := by
    intro m
    induction m with
    | zero =>
      intro n j M hj hn hz
      obtain ⟨n, rfl, hn⟩ := z_succ hn
      obtain rfl : j = N := by omega
      refine ⟨M, ?_, hz, Fr.rf⟩
      rw [f_Arr_fill_2_l5]
      simp (disch := first | assumption | omega) only [z_bdn, z_caln, z_gdn, z_iT, z_iF, z_le_t, z_le_f, z_lt_t, z_lt_f, z_cl, z_inb, z_at, z_lit, nI_ii1, nI_add, z_mr, z_ref0, z_refn, z_eq_f, Bool.not_true, Bool.not_false, b2i_t, b2i_f]
    | succ m ih =>
      intro n j M hj hn hz
      obtain ⟨n, rfl, hn⟩ := z_succ hn
      obtain ⟨M', g1, g2, g3⟩ := ih n (j + 1) (sA M id (upd (mA M id) j (nI 0))) (by omega) (by omega) (fun i hi => by
        rw [mA_sA, if_pos rfl, upd_at]
        by_cases he : i = j
        · rw [if_pos he]
        · rw [if_neg he]; exact hz i (by omega))
      refine ⟨M', ?_, g2, Fr.tr (Fr.sA rfl) g3⟩
      have e := z_aIb (tg := 1) hl (show j < N by omega) (by omega)
      rw [f_Arr_fill_2_l5]
      simp (disch := first | assumption | omega) only [z_bdn, z_caln, z_gdn, z_iT, z_iF, z_le_t, z_le_f, z_lt_t, z_lt_f, z_cl, z_inb, z_at, z_lit, nI_ii1, nI_add, z_mr, z_ref0, z_refn, z_eq_f, Bool.not_true, Bool.not_false, b2i_t, b2i_f, e]
      exact g1
  obtain ⟨M', g1, g2, g3⟩ := key N FU 0 M (by omega) (FU_lt (by omega)) (fun i hi => absurd hi (by omega))
  refine ⟨M', ?_, g2, g3⟩
  have e1 : aLk 1 id = true := by unfold aLk; rw [hl]; rfl
  have e2 : Int32.ofNat (aLn id) = nI N := by unfold aLn; rw [hl]; rfl
  rw [f_Arr_fill_2, e1, e2]
  simp (disch := first | assumption | omega) only [z_bdn, z_caln, z_gdn, z_iT, z_iF, z_le_t, z_le_f, z_lt_t, z_lt_f, z_cl, z_inb, z_at, z_lit, nI_ii1, nI_add, z_mr, z_ref0, z_refn, z_eq_f, Bool.not_true, Bool.not_false, b2i_t, b2i_f]
  exact g1
theorem q_clear (hu : u = 27 ∨ u = 47) : ∃ M', f_State_clear u M = some ((), M') ∧ CC M' (u + 9) x00 ∧ PD M' (u + 1) y00 ∧ mI M' (u + 15) 4 = nI 0 ∧ Fr (fun id => u + 1 ≤ id ∧ id ≤ u + 15) M M' := by
  obtain ⟨M1, a1, a2, a3⟩ := q_fillN (M := sI (sI M (u + 1) 7 (nI 0)) (u + 1) 8 (nI 0)) (lk_Deal_quarrels (isD_u hu)) (by omega)
  obtain ⟨M2, b1, b2, b3⟩ := q_fillN (M := M1) (lk_Deal_worths (isD_u hu)) (by omega)
  obtain ⟨M', hM⟩ : ∃ M', M' = sI (sI (sI (sI (sI (sI (sI M2 (u + 9) 5 (nI 6)) (u + 9) 6 (nI 20)) (u + 9) 7 (nI 0)) (u + 9) 8 (nI 0)) (u + 15) 4 (nI 0)) (u + 15) 5 (nI 0)) (u + 15) 6 (nI 0) := ⟨_, rfl⟩
  have g1 : ∀ k, mI M2 (u + 1) k = mI (sI (sI M (u + 1) 7 (nI 0)) (u + 1) 8 (nI 0)) (u + 1) k := fun k => ((b3 (u + 1) (by omega)).1 k).trans ((a3 (u + 1) (by omega)).1 k)
  have f1 : ∀ k, mI M' (u + 1) k = mI M2 (u + 1) k := fun k => by
    rw [hM, mI_sI, if_neg (by omega), mI_sI, if_neg (by omega), mI_sI, if_neg (by omega), mI_sI, if_neg (by omega), mI_sI, if_neg (by omega), mI_sI, if_neg (by omega), mI_sI, if_neg (by omega)]
  have f9 : ∀ k, mI M' (u + 9) k = mI (sI (sI (sI (sI M2 (u + 9) 5 (nI 6)) (u + 9) 6 (nI 20)) (u + 9) 7 (nI 0)) (u + 9) 8 (nI 0)) (u + 9) k := fun k => by
    rw [hM, mI_sI, if_neg (by omega), mI_sI, if_neg (by omega), mI_sI, if_neg (by omega)]
  refine ⟨M', ?_, ⟨?_, ?_, ?_, ?_, fun r hr => absurd hr (Nat.not_lt_zero _), fun r i hr => absurd hr (Nat.not_lt_zero _)⟩, ⟨?_, ?_, fun q hq => absurd hq (Nat.not_lt_zero _), fun q hq => absurd hq (Nat.not_lt_zero _), fun q i hq => absurd hq (Nat.not_lt_zero _), fun k i hk hi => ?_, fun v q k hv hq hk => ?_⟩, ?_, ?_⟩
  · rw [f_State_clear, hM]
    simp (disch := first | assumption | omega) only [z_bdn, z_caln, z_gdn, z_iT, z_iF, z_le_t, z_le_f, z_lt_t, z_lt_f, z_cl, z_inb, z_at, z_lit, nI_ii1, nI_add, z_mr, z_ref0, z_refn, z_eq_f, Bool.not_true, Bool.not_false, b2i_t, b2i_f, f_Deal_clear, a1, b1, f_Cloth_clear, f_Script_clear]
  · rw [f9, m_same, m_same, m_same, m_same]; rfl
  · rw [f9, m_same, m_same, m_same]; rfl
  · rw [f9, m_same, m_same]; rfl
  · rw [f9, m_same]; rfl
  · rw [f1, g1, m_same, m_same]; rfl
  · rw [f1, g1, m_same]; rfl
  · have e : mA M' (u + 1 + 6) = mA M1 (u + 1 + 6) := by rw [hM]; exact (b3 (u + 1 + 6) (by omega)).2.2.1
    rw [e]; exact a2 _ (by omega)
  · have e : mA M' (u + 1 + 7) = mA M2 (u + 1 + 7) := by rw [hM]; rfl
    rw [e]; exact b2 _ (by omega)
  · rw [hM, m_same, m_same, m_same]; rfl
  · rw [hM]
    exact Fr.tr (Fr.sI (by omega)) (Fr.tr (Fr.sI (by omega)) ((a3.mono (fun id e => by omega)).tr ((b3.mono (fun id e => by omega)).tr (Fr.tr (Fr.sI (by omega)) (Fr.tr (Fr.sI (by omega)) (Fr.tr (Fr.sI (by omega)) (Fr.tr (Fr.sI (by omega)) (Fr.tr (Fr.sI (by omega)) (Fr.tr (Fr.sI (by omega)) (Fr.sI (by omega)))))))))))
theorem q_parse_l26 (hu : u = 27 ∨ u = 47) (hn : n ≤ 900) : ∀ (m f i : Nat) (s : Ps) (M : kx_M), i + m = 1000 → m < f → i ≤ kP (sT s) → TkO n (sT s) → CPs M u T n s → POk n s → RsC u T n M (f_TreatyText_parse_l26 2 (nI n) u f (nI i) M) (pAll T n m s) := by
  have hu27 : 27 ≤ u := by omega
  intro m
  induction m with
  | zero =>
    intro f i s M hi hf hip hTO h hO
    have h1 := hTO.1
    have h2 := hTO.2.1
    omega
  | succ m ih =>
    intro f i s M hi hf hip hTO h hO
    obtain ⟨f, rfl, hf⟩ := z_succ hf
    have h1 := hTO.1
    have h2 := hTO.2.1
    have e5 := h.2.1.2.2.1
    have hs4 := h.2.2.1
    unfold pAll
    rw [f_TreatyText_parse_l26]
    by_cases h0 : kS (sT s) = 0
    · simp only [if_pos h0]
      refine ⟨M, ?_, h, Fr.rf⟩
      have z : (nI (kS (sT s)) = nI 0) = True := eq_true (by rw [h0])
      simp (disch := first | assumption | omega) only [z_bdn, z_caln, z_gdn, z_iT, z_iF, z_le_t, z_le_f, z_lt_t, z_lt_f, z_cl, z_inb, z_at, z_lit, nI_ii1, nI_add, z_mr, z_ref0, z_refn, z_eq_f, Bool.not_true, Bool.not_false, b2i_t, b2i_f, e5, z]
    · simp only [if_neg h0]
      have z : (nI (kS (sT s)) = nI 0) = False := z_eq_f h0 (by omega) (by omega)
      have g := q_pPart hu h hO
      cases hp : pPart T n s with
      | error e =>
        rw [hp] at g
        obtain ⟨M1, a1, a2, a3⟩ := g
        refine ⟨M1, ?_, a2, a3⟩
        simp (disch := first | assumption | omega) only [z_bdn, z_caln, z_gdn, z_iT, z_iF, z_le_t, z_le_f, z_lt_t, z_lt_f, z_cl, z_inb, z_at, z_lit, nI_ii1, nI_add, z_mr, z_ref0, z_refn, z_eq_f, Bool.not_true, Bool.not_false, b2i_t, b2i_f, e5, z, a1]
      | ok s1 =>
        rw [hp] at g
        obtain ⟨M1, a1, a2, a3⟩ := g
        obtain ⟨k1, k2⟩ := pPart_mo hTO h0 hp
        have g2 := ih f (i + 1) s1 M1 (by omega) (by omega) (by omega) k1 a2 (pPart_ok hO hp)
        have toR : ∀ R, f_TreatyText_parse_l26 2 (nI n) u f (nI (i + 1)) M1 = R → (if nI n < nI i then some ((1 : Int32), M) else if mI M 5 5 = 0 then some (1, M) else cal (f_TreatyText_readPart u M) fun r1 M1 => if r1 = 0 then some (0, M1) else bd (nI i + Int32.ofInt 1) fun v3 => f_TreatyText_parse_l26 2 (nI n) u f v3 M1) = R := by
          intro R hR
          simp (disch := first | assumption | omega) only [z_bdn, z_caln, z_gdn, z_iT, z_iF, z_le_t, z_le_f, z_lt_t, z_lt_f, z_cl, z_inb, z_at, z_lit, nI_ii1, nI_add, z_mr, z_ref0, z_refn, z_eq_f, Bool.not_true, Bool.not_false, b2i_t, b2i_f, e5, z, a1]
          exact hR
        show RsC u T n M _ (pAll T n m s1)
        cases hr : pAll T n m s1 with
        | error e =>
          rw [hr] at g2
          obtain ⟨M2, b1, b2, b3⟩ := g2
          exact ⟨M2, toR _ b1, b2, a3.tr b3⟩
        | ok s2 =>
          rw [hr] at g2
          obtain ⟨M2, b1, b2, b3⟩ := g2
          exact ⟨M2, toR _ b1, b2, a3.tr b3⟩
theorem q_parse (hu : u = 27 ∨ u = 47) (hn : n ≤ 900) (hT : ∀ i, i < n → mA M 2 i = nI (T i) ∧ T i ≤ 255) (hk : ∀ k, k < 26 → mB M 6 k = knownL.getD k 0) : match pTre T n with
    | .ok s => ∃ M', f_TreatyText_parse 2 (nI n) u M = some (nI 1, M') ∧ CPs M' u T n s ∧ POk n s ∧ mI M' (u + 15) 4 = nI 0 ∧ Fr (fun id => id = 4 ∨ id = 5 ∨ (u + 1 ≤ id ∧ id ≤ u + 15)) M M'
    | .error e => ∃ M', f_TreatyText_parse 2 (nI n) u M = some (nI 0, M') ∧ ErC 5 M' e ∧ Fr (fun id => id = 4 ∨ id = 5 ∨ (u + 1 ≤ id ∧ id ≤ u + 15)) M M' := by
  have hu27 : 27 ≤ u := by omega
  obtain ⟨M1, a1, a2, a3, a4, a5⟩ := q_clear (M := M) hu
  obtain ⟨M2, hM⟩ : ∃ M2, M2 = sI (sI (sI (sI (sR (sI (sI M1 4 1 (nI 0)) 4 2 (nI 0)) 5 1 2) 5 2 (nI n)) 5 3 (nI 0)) 5 10 (nI 0)) 5 11 (-nI 1) := ⟨_, rfl⟩
  have hF2 : Fr (fun id => id = 4 ∨ id = 5) M1 M2 := by
    rw [hM]
    exact Fr.tr (Fr.sI (Or.inl rfl)) (Fr.tr (Fr.sI (Or.inl rfl)) (Fr.tr (Fr.sR (Or.inr rfl)) (Fr.tr (Fr.sI (Or.inr rfl)) (Fr.tr (Fr.sI (Or.inr rfl)) (Fr.tr (Fr.sI (Or.inr rfl)) (Fr.sI (Or.inr rfl)))))))
  have hX : TxC M2 5 T n := by
    refine ⟨by rw [hM]; rfl, by rw [hM]; rfl, hn, fun i hi => ?_, fun k hk2 => ?_⟩
    · rw [(hF2 2 (by omega)).2.2.1, (a5 2 (by omega)).2.2.1]; exact hT i hi
    · rw [(hF2 6 (by omega)).2.2.2.1, (a5 6 (by omega)).2.2.2.1]; exact hk k hk2
  have e3 : mI M2 5 3 = nI 0 := by rw [hM]; rfl
  have hB : CB M2 u T n x00 y00 false false := ⟨hX, CC_fr hF2 (fun id h1 h2 e => by omega) a2, PD_fr hF2 (fun id h1 h2 e => by omega) a3, by rw [hM]; rfl, by rw [hM]; rfl⟩
  obtain ⟨M3, b1, b2, b3⟩ := q_next (by omega) hX (Nat.zero_le n) e3
  have hB3 := CB_R hu27 hB b3
  have hC3 : CPs M3 u T n (p00 T n) := ⟨hB3, b2, TkB_nxt (Nat.zero_le n) hn (fun i hi => (hT i hi).2)⟩
  have eO : f_Reader_open 5 2 (nI n) (sI (sI M1 4 1 (nI 0)) 4 2 (nI 0)) = some ((), M3) := by
    have e1 : aLk 1 2 = true := rfl
    have e2 : Int32.ofNat (aLn 2) = nI 900 := rfl
    rw [f_Reader_open, e1, e2]
    simp (disch := first | assumption | omega) only [z_bdn, z_caln, z_gdn, z_iT, z_iF, z_le_t, z_le_f, z_lt_t, z_lt_f, z_cl, z_inb, z_at, z_lit, nI_ii1, nI_add, z_mr, z_ref0, z_refn, z_eq_f, Bool.not_true, Bool.not_false, b2i_t, b2i_f, ← hM, b1]
  have hTO : TkO n (sT (p00 T n)) := by
    obtain ⟨c1, c2, c3, c4, c5, -, -⟩ := nxt_bd (T := T) (Nat.zero_le n)
    exact ⟨c4, c2, c5⟩
  have g := q_parse_l26 hu hn 1000 FU 0 (p00 T n) M3 (by omega) (FU_lt (by omega)) (Nat.zero_le _) hTO hC3 POk_00
  have toR : ∀ R, f_TreatyText_parse_l26 2 (nI n) u FU (nI 0) M3 = R → f_TreatyText_parse 2 (nI n) u M = R := by
    intro R hR
    rw [f_TreatyText_parse]
    simp (disch := first | assumption | omega) only [z_bdn, z_caln, z_gdn, z_iT, z_iF, z_le_t, z_le_f, z_lt_t, z_lt_f, z_cl, z_inb, z_at, z_lit, nI_ii1, nI_add, z_mr, z_ref0, z_refn, z_eq_f, Bool.not_true, Bool.not_false, b2i_t, b2i_f, a1, eO]
    exact hR
  have hF0 : Fr (fun id => id = 4 ∨ id = 5 ∨ (u + 1 ≤ id ∧ id ≤ u + 15)) M M3 := (a5.mono (fun id e => Or.inr (Or.inr e))).tr ((hF2.mono (fun id e => by omega)).tr (b3.1.mono (fun id e => Or.inr (Or.inl e))))
  have up : ∀ M4, Fr (inPc u) M3 M4 → Fr (fun id => id = 4 ∨ id = 5 ∨ (u + 1 ≤ id ∧ id ≤ u + 15)) M M4 := fun M4 h => hF0.tr (h.mono (fun id e => by unfold inPc at e; omega))
  have e15 : mI M3 (u + 15) 4 = nI 0 := by rw [(b3.1 (u + 15) (by omega)).1, (hF2 (u + 15) (by omega)).1]; exact a4
  unfold pTre
  cases hr : pAll T n 1000 (p00 T n) with
  | error e =>
    rw [hr] at g
    obtain ⟨M4, c1, c2, c3⟩ := g
    exact ⟨M4, toR _ c1, c2, up _ c3⟩
  | ok s =>
    rw [hr] at g
    obtain ⟨M4, c1, c2, c3⟩ := g
    exact ⟨M4, toR _ c1, c2, pAll_ok POk_00 hr, by rw [(c3 (u + 15) (fun e => by unfold inPc at e; omega)).1]; exact e15, up _ c3⟩
end
