/-- not by unfolding -/
theorem z_bdn {α β : Type} (v : α) (K : α → β) : bd v K = K v := id rfl
theorem z_caln {α β : Type} (r : α) (M : kx_M) (K : α → kx_M → Option β) : cal (some (r, M)) K = K r M := id rfl
theorem z_gdn {α : Type} (K : Option α) : gd true K = K := id rfl
def unX (x : Cl) : Cl := ((cW x, cT x, cR x - 1, cY x), x.2)
def bkN (x : Cl) (r n : Nat) : Nat := sumN (fun i => if cU x (8 * r + i) = 0 then cst (cK x (8 * r + i)) else 0) n
theorem bkN_le (x : Cl) (r n : Nat) : bkN x r n ≤ 2 * n := sumN_le (fun i _ => by
  split
  · exact cst_le _
  · omega)
theorem bkN_t {x : Cl} {r n : Nat} (h : cU x (8 * r + n) = 0) : bkN x r (n + 1) = bkN x r n + cst (cK x (8 * r + n)) := by
  show bkN x r n + (if _ then _ else _) = _
  rw [if_pos h]
theorem bkN_f {x : Cl} {r n : Nat} (h : cU x (8 * r + n) = 1) : bkN x r (n + 1) = bkN x r n := by
  show bkN x r n + (if _ then _ else _) = _
  rw [if_neg (by omega)]; rfl
section
variable {M M' : kx_M} {σ : Sg} {x : Cl} {y : De}
theorem OkC_un (hO : OkC x) : OkC (unX x) := ⟨hO.1, hO.2.1, by have := hO.2.2.1; show cR x - 1 ≤ 12; omega, hO.2.2.2.1, fun r hr => hO.2.2.2.2.1 r (by have hr : r < cR x - 1 := hr; omega), fun r i hr hi => hO.2.2.2.2.2 r i (by have hr : r < cR x - 1 := hr; omega) hi⟩
theorem q_giveWool4 {d q n W : Nat} (hP : OkD W y) (hD : CD M d y) (hq : q < 4) (hn : n ≤ 999) : ∃ M', f_Deal_giveWool d (nI q) (nI n) M = some ((), M') ∧ CD M' d (wdO y (updN (dO y) q (min 999 (dO y q + n)))) ∧ Fr (inDl d) M M' := by
  by_cases hqq : q < dQ y
  · exact q_giveWool hP hD hqq hn
  · refine ⟨sA M (d + 1) (upd (mA M (d + 1)) q (if mA M (d + 1) q + nI n < nI 999 then mA M (d + 1) q + nI n else nI 999)), ?_, ?_, Fr.sA ⟨by omega, by omega⟩⟩
    · rw [f_Deal_giveWool]
      simp (disch := first | assumption | omega) only [z_bd, z_cal, z_gd, z_iT, z_iF, z_le_t, z_le_f, z_lt_t, z_lt_f, z_cl, z_inb, z_at, z_lit, nI_ii1, nI_add, z_mr, z_ref0, z_refn, z_eq_f, Bool.not_true, Bool.not_false, b2i_t, b2i_f]
    · obtain ⟨h1, h2, h3, h4, h5, h6, h7⟩ := hD
      refine ⟨h1, h2, fun p hp => ⟨?_, (h3 p hp).2⟩, fun k hk => ⟨(h4 k hk).1, ?_⟩, fun k i hk hi => ?_, fun k i hk hi => ?_, fun w p k hw hp hk => ?_⟩
      · have hp' : p < dQ y := hp
        rw [mA_sA, if_pos rfl, upd_at, if_neg (by omega)]
        show _ = nI (updN (dO y) q _ p)
        unfold updN
        rw [if_neg (by omega)]
        exact (h3 p hp).1
      · rw [mA_sA, if_neg (by omega)]; exact (h4 k hk).2
      · rw [mA_sA, if_neg (by omega)]; exact h5 k i hk hi
      · rw [mA_sA, if_neg (by omega)]; exact h6 k i hk hi
      · rw [mA_sA, if_neg (by omega)]; exact h7 w p k hw hp hk
theorem q_woolIn {c r : Nat} (hO : OkC x) (hC : CC M c x) (hr : r < cR x) : f_Cloth_woolIn c (nI r) M = some (nI (bkN x r (cW x)), M) := by
  have w2 := hO.1.2
  have w3 := hO.2.2.1
  have e5 := hC.1
  have key : ∀ (m n k : Nat), k + m = cW x → m < n → f_Cloth_woolIn_l4 c (nI r) n (nI (bkN x r k)) (nI k) M = some (nI (bkN x r (cW x)), M) := by
    intro m
    induction m with
    | zero =>
      intro n k hk hn
      obtain ⟨n, rfl, hn⟩ := z_succ hn
      obtain rfl : k = cW x := by omega
      rw [f_Cloth_woolIn_l4]
      simp (disch := first | assumption | omega) only [z_bd, z_cal, z_gd, z_iT, z_iF, z_le_t, z_le_f, z_lt_t, z_lt_f, z_cl, z_inb, z_at, z_lit, nI_ii1, nI_add, z_mr, z_ref0, z_refn, z_eq_f, Bool.not_true, Bool.not_false, b2i_t, b2i_f, e5]
    | succ m ih =>
      intro n k hk hn
      obtain ⟨n, rfl, hn⟩ := z_succ hn
      have h3 := ih n (k + 1) (by omega) (by omega)
      obtain ⟨a1, -, a3, -⟩ := hC.2.2.2.2.2 r k hr (by omega)
      obtain ⟨b1, -, b3, -⟩ := hO.2.2.2.2.2 r k hr (by omega)
      obtain ⟨k3, -⟩ := wl_at b1
      have k4 := wl_at2 b1
      rw [f_Cloth_woolIn_l4]
      by_cases hu : cU x (8 * r + k) = 0
      · rw [bkN_t hu] at h3
        simp (disch := first | assumption | omega) only [z_bd, z_cal, z_gd, z_iT, z_iF, z_le_t, z_le_f, z_lt_t, z_lt_f, z_cl, z_inb, z_at, z_lit, nI_ii1, nI_add, z_mr, z_ref0, z_refn, z_eq_f, Bool.not_true, Bool.not_false, b2i_t, b2i_f, e5, a3, hu, a1, k3, k4]
        exact h3
      · obtain hu : cU x (8 * r + k) = 1 := by omega
        rw [bkN_f hu] at h3
        simp (disch := first | assumption | omega) only [z_bd, z_cal, z_gd, z_iT, z_iF, z_le_t, z_le_f, z_lt_t, z_lt_f, z_cl, z_inb, z_at, z_lit, nI_ii1, nI_add, z_mr, z_ref0, z_refn, z_eq_f, Bool.not_true, Bool.not_false, b2i_t, b2i_f, e5, a3, hu]
        exact h3
  exact key (cW x) FU 0 (by omega) (FU_lt (by omega))
def unY (x : Cl) (y : De) : De := wdO y (updN (dO y) (cO x (cR x - 1)) (min 999 (dO y (cO x (cR x - 1)) + bkN x (cR x - 1) (cW x))))
def o_unravel (σ : Sg) : Int32 × Sg := oG (!decide (cR (gX σ) = 0)) 8 (nI (cR (gX σ) - 1), wNow (wS σ (nI 0)) (unX (gX σ), unY (gX σ) (gY σ), gZ σ)) σ
theorem OkSt_un (hI : OkG σ) : OkSt (unX (gX σ), unY (gX σ) (gY σ), gZ σ) := by
  obtain ⟨⟨h1, h2, h3, h4⟩, -⟩ := hI
  exact ⟨OkC_un h1, h2, OkD_O h3 (Nat.min_le_left _ _), h4⟩
theorem pC_unravel : PC f_KT_unravel o_unravel := by
  intro M σ h
  obtain ⟨s2, t2, hK2, hO2, hC2, hP2, hD2⟩ := IC_gX h
  have w3 := hO2.2.2.1
  have w2 := hO2.1.2
  have e7 := hC2.2.2.1
  rw [f_KT_unravel]
  unfold o_unravel
  by_cases h0 : cR (gX σ) = 0
  · rw [decide_eq_true h0]
    refine ⟨_, ?_, IC_st (nI 8) h, Hi_st⟩
    simp (disch := first | assumption | omega) only [z_bd, z_cal, z_gd, z_iT, z_iF, z_le_t, z_le_f, z_lt_t, z_lt_f, z_cl, z_inb, z_at, z_lit, nI_ii1, nI_add, z_mr, z_ref0, z_refn, z_eq_f, Bool.not_true, Bool.not_false, b2i_t, b2i_f, hK2.1, hK2.s1, e7, h0, oG, f_KT_unravel_l22]
  · rw [decide_eq_false h0]
    have h1 := IC_st (nI 0) h
    obtain ⟨s, t1, hK, hO, hC, hP, hD⟩ := IC_get h1
    have ap := hK.ap
    have es2 : s2 = s := hK2.1.symm.trans hK.1
    subst es2
    have e7' := hC.2.2.1
    have hr : cR (gX σ) - 1 < cR (gX σ) := by omega
    have eo := hC.2.2.2.2.1 _ hr
    have ho := hO.2.2.2.2.1 _ hr
    have ew := q_woolIn hO hC hr
    have bl := bkN_le (gX σ) (cR (gX σ) - 1) (cW (gX σ))
    obtain ⟨M1, b1, b2, b3⟩ := q_giveWool4 hP hD ho (show bkN (gX σ) (cR (gX σ) - 1) (cW (gX σ)) ≤ 999 by omega)
    have hC1 := CC_fr b3 (fun id h1 h2 e => by have := e.2; omega) hC
    have hFF : Fr (fun id => s2 ≤ id ∧ id ≤ s2 + 19) (sI M 0 13 (nI 0)) (sI M1 (s2 + 9) 7 (nI (cR (gX σ) - 1))) := (b3.mono (fun id e => by have := e.1; have := e.2; omega)).tr (Fr.sI ⟨by omega, by omega⟩)
    have hF2 : Fr (fun id => id = s2 + 9) M1 (sI M1 (s2 + 9) 7 (nI (cR (gX σ) - 1))) := Fr.sI rfl
    have hS : CS (sI M1 (s2 + 9) 7 (nI (cR (gX σ) - 1))) s2 (unX (gX σ), unY (gX σ) (gY σ), gZ σ) := by
      refine ⟨?_, CD_fr hF2 (fun id h1 h2 e => by omega) b2, ?_⟩
      · obtain ⟨a1, a2, a3, a4, a5, a6⟩ := hC1
        refine ⟨?_, ?_, ?_, ?_, fun r hr => a5 r (by have hr : r < cR (gX σ) - 1 := hr; omega), fun r i hr hi => a6 r i (by have hr : r < cR (gX σ) - 1 := hr; omega) hi⟩
        · rw [mI_sI, if_neg (by omega)]; exact a1
        · rw [mI_sI, if_neg (by omega)]; exact a2
        · rw [mI_sI, if_pos ⟨rfl, rfl⟩]; rfl
        · rw [mI_sI, if_neg (by omega)]; exact a4
      · obtain ⟨-, s3, t3, hK3, hS3, -⟩ := h1
        have es : s3 = s2 := hK3.1.symm.trans hK.1
        subst es
        exact CZ_fr hF2 (fun id h1 h2 e => by omega) (CZ_fr b3 (fun id h1 h2 e => by have := e.2; omega) hS3.2.2)
    refine ⟨_, ?_, IC_now h1 hK hFF hS (OkSt_un h.1), Hi_st.tr (hFF.mono (fun id e => by have := e.2; show id < 135; omega))⟩
    simp (disch := first | assumption | omega) only [z_bd, z_cal, z_gd, z_iT, z_iF, z_le_t, z_le_f, z_lt_t, z_lt_f, z_cl, z_inb, z_at, z_lit, nI_ii1, nI_add, z_mr, z_ref0, z_refn, z_eq_f, Bool.not_true, Bool.not_false, b2i_t, b2i_f, hK2.1, hK2.s1, e7, h0, oG, f_KT_unravel_l22, e7', z_sub, hK.1, ew, eo, b1]
end
