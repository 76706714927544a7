def rowF (f : Nat → Nat) (R : Nat) (g : Nat → Nat) : Nat → Nat := fun p => if p < 8 * R then f p else g (p - 8 * R)
theorem rowF_lt {f g : Nat → Nat} {R r i : Nat} (hr : r < R) (hi : i < 8) : rowF f R g (8 * r + i) = f (8 * r + i) := if_pos (by omega)
theorem rowF_at {f g : Nat → Nat} {R i : Nat} : rowF f R g (8 * R + i) = g i := by
  show (if 8 * R + i < 8 * R then _ else g (8 * R + i - 8 * R)) = _
  rw [if_neg (by omega), Nat.add_sub_cancel_left]
def knX (x : Cl) (q : Nat) (kd : Nat → Nat) : Cl := ((cW x, cT x, cR x + 1, cY x), updN (cO x) (cR x) q, rowF (cK x) (cR x) kd, rowF (cN x) (cR x) (fun _ => 0), rowF (cU x) (cR x) (fun _ => 0), rowF (cD x) (cR x) (fun _ => 0))
section
variable {M M' : kx_M} {σ : Sg} {x : Cl} {y : De}
theorem OkC_kn {q : Nat} {kd : Nat → Nat} (hO : OkC x) (hR : cR x < 12) (hq : q < 4) (hk : ∀ i, i < cW x → kd i < 4) : OkC (knX x q kd) := by
  have w2 := hO.1.2
  refine ⟨hO.1, hO.2.1, by show cR x + 1 ≤ 12; omega, hO.2.2.2.1, fun r hr => ?_, fun r i hr hi => ?_⟩
  · have hr : r < cR x + 1 := hr
    show updN (cO x) (cR x) q r < 4
    unfold updN
    by_cases h1 : r = cR x
    · rw [if_pos h1]; exact hq
    · rw [if_neg h1]; exact hO.2.2.2.2.1 r (by omega)
  · have hr : r < cR x + 1 := hr
    have hi : i < cW x := hi
    show rowF (cK x) (cR x) kd (8 * r + i) < 4 ∧ rowF (cN x) (cR x) (fun _ => 0) (8 * r + i) ≤ 99 ∧ rowF (cU x) (cR x) (fun _ => 0) (8 * r + i) ≤ 1 ∧ rowF (cD x) (cR x) (fun _ => 0) (8 * r + i) ≤ 1
    by_cases h1 : r = cR x
    · subst h1
      rw [rowF_at, rowF_at, rowF_at, rowF_at]
      exact ⟨hk i hi, by omega, by omega, by omega⟩
    · rw [rowF_lt (by omega) (by omega), rowF_lt (by omega) (by omega), rowF_lt (by omega) (by omega), rowF_lt (by omega) (by omega)]
      exact hO.2.2.2.2.2 r i (by omega) hi
theorem CC_kn {c q : Nat} {kd : Nat → Nat} (hO : OkC x) (hC : CC M c x) (hL : ∀ j, j < cW x → mA M (c + 2) (8 * cR x + j) = nI (kd j) ∧ mA M (c + 3) (8 * cR x + j) = nI 0 ∧ mA M (c + 4) (8 * cR x + j) = nI 0 ∧ mA M (c + 5) (8 * cR x + j) = nI 0) : CC (sI (sA M (c + 1) (upd (mA M (c + 1)) (cR x) (nI q))) c 7 (nI (cR x + 1))) c (knX x q kd) := by
  have w2 := hO.1.2
  obtain ⟨a1, a2, a3, a4, a5, a6⟩ := hC
  refine ⟨?_, ?_, ?_, ?_, fun r hr => ?_, fun r i hr hi => ?_⟩
  · rw [mI_sI, if_neg (by omega)]; exact a1
  · rw [mI_sI, if_neg (by omega)]; exact a2
  · rw [mI_sI, if_pos ⟨rfl, rfl⟩]; rfl
  · rw [mI_sI, if_neg (by omega)]; exact a4
  · have hr : r < cR x + 1 := hr
    rw [mA_sI, mA_sA, if_pos rfl, upd_at]
    show _ = nI (updN (cO x) (cR x) q r)
    unfold updN
    by_cases h1 : r = cR x
    · rw [if_pos h1, if_pos h1]
    · rw [if_neg h1, if_neg h1]; exact a5 r (by omega)
  · have hr : r < cR x + 1 := hr
    have hi : i < cW x := hi
    rw [mA_sI, mA_sI, mA_sI, mA_sI, mA_sA, if_neg (by omega), mA_sA, if_neg (by omega), mA_sA, if_neg (by omega), mA_sA, if_neg (by omega)]
    show _ = nI (rowF (cK x) (cR x) kd (8 * r + i)) ∧ _ = nI (rowF (cN x) (cR x) (fun _ => 0) (8 * r + i)) ∧ _ = nI (rowF (cU x) (cR x) (fun _ => 0) (8 * r + i)) ∧ _ = nI (rowF (cD x) (cR x) (fun _ => 0) (8 * r + i))
    by_cases h1 : r = cR x
    · subst h1
      rw [rowF_at, rowF_at, rowF_at, rowF_at]
      exact hL i hi
    · rw [rowF_lt (by omega) (by omega), rowF_lt (by omega) (by omega), rowF_lt (by omega) (by omega), rowF_lt (by omega) (by omega)]
      exact a6 r i (by omega) hi
theorem q_knit_l54 {c q t : Nat} {V : Nat → Int64} (hO : OkC x) (hR : cR x < 12) (hq : q < 4) (ht : t < 4) (hc : c + 5 < 67) (hV : ∀ k, k < cW x → inR 0 (V k) = true) : ∀ (m n k : Nat) (M : kx_M), k + m = cW x → m < n → CC M c x → (∀ j, j < cW x → mB M (2 * t + 68) j = V j) → (∀ j, j < k → mA M (c + 2) (8 * cR x + j) = nI (kdN (V j)) ∧ mA M (c + 3) (8 * cR x + j) = nI 0 ∧ mA M (c + 4) (8 * cR x + j) = nI 0 ∧ mA M (c + 5) (8 * cR x + j) = nI 0) → ∃ M', f_KT_knit_l54 (nI q) (nI t) n c (nI k) M = some (nI (cR x + 1), M') ∧ CC M' c (knX x q (fun j => kdN (V j))) ∧ Fr (inC c) M M' := by
  have w2 := hO.1.2
  intro m
  induction m with
  | zero =>
    intro n k M hk hn hC hB hL
    obtain ⟨n, rfl, hn⟩ := z_succ hn
    obtain rfl : k = cW x := by omega
    have e5 := hC.1
    have e7 := hC.2.2.1
    refine ⟨_, ?_, CC_kn (q := q) (kd := fun j => kdN (V j)) hO hC hL, (Fr.sA ⟨by omega, by omega⟩).tr (Fr.sI ⟨by omega, by omega⟩)⟩
    have e8 : ∀ (f : Nat → Int32) (v : Int32), mI (sI (sA M (c + 1) f) c 7 v) c 7 = v := fun f v => by rw [mI_sI, if_pos ⟨rfl, rfl⟩]
    have e9 : ∀ (f : Nat → Int32), mI (sA M (c + 1) f) c 7 = nI (cR x) := fun f => e7
    rw [f_KT_knit_l54]
    simp (disch := first | assumption | omega) only [z_bd, z_cal, z_gd, z_iT, z_iF, z_le_t, z_le_f, z_lt_t, z_lt_f, z_cl, z_inb, z_at, z_lit, nI_ii1, nI_add, z_mr, z_ref0, z_refn, z_eq_f, Bool.not_true, Bool.not_false, b2i_t, b2i_f, e5, f_Cloth_closeRow, e7, e8, e9]
  | succ m ih =>
    intro n k M hk hn hC hB hL
    obtain ⟨n, rfl, hn⟩ := z_succ hn
    have e5 := hC.1
    have e7 := hC.2.2.1
    have eB := hB k (by omega)
    obtain ⟨k1, k2⟩ := kd_0 (hV k (by omega))
    obtain ⟨M', g1, g2, g3⟩ := ih n (k + 1) (sA (sA (sA (sA M (c + 2) (upd (mA M (c + 2)) (8 * cR x + k) (nI (kdN (V k))))) (c + 3) (upd (mA M (c + 3)) (8 * cR x + k) (nI 0))) (c + 4) (upd (mA M (c + 4)) (8 * cR x + k) (nI 0))) (c + 5) (upd (mA M (c + 5)) (8 * cR x + k) (nI 0))) (by omega) (by omega) (by
        obtain ⟨a1, a2, a3, a4, a5, a6⟩ := hC
        refine ⟨a1, a2, a3, a4, fun r hr => ?_, fun r i hr hi => ?_⟩
        · simp (disch := omega) only [mA_sA, if_neg]
          exact a5 r hr
        · obtain ⟨b1, b2, b3, b4⟩ := a6 r i hr hi
          simp only [mA_sA, Nat.add_left_cancel_iff, Nat.reduceEqDiff, if_false, if_true, upd_at]
          rw [if_neg (by omega), if_neg (by omega), if_neg (by omega), if_neg (by omega)]
          exact ⟨b1, b2, b3, b4⟩) (fun j hj => hB j hj) (fun j hj => by
        simp only [mA_sA, Nat.add_left_cancel_iff, Nat.reduceEqDiff, if_false, if_true, upd_at]
        by_cases hjk : j = k
        · subst hjk
          rw [if_pos rfl, if_pos rfl, if_pos rfl, if_pos rfl]
          exact ⟨rfl, rfl, rfl, rfl⟩
        · rw [if_neg hjk, if_neg hjk, if_neg hjk, if_neg hjk]
          exact hL j (by omega))
    have hF : Fr (inC c) M (sA (sA (sA (sA M (c + 2) (upd (mA M (c + 2)) (8 * cR x + k) (nI (kdN (V k))))) (c + 3) (upd (mA M (c + 3)) (8 * cR x + k) (nI 0))) (c + 4) (upd (mA M (c + 4)) (8 * cR x + k) (nI 0))) (c + 5) (upd (mA M (c + 5)) (8 * cR x + k) (nI 0))) := (((Fr.sA ⟨by omega, by omega⟩).tr (Fr.sA ⟨by omega, by omega⟩)).tr (Fr.sA ⟨by omega, by omega⟩)).tr (Fr.sA ⟨by omega, by omega⟩)
    refine ⟨M', ?_, g2, hF.tr g3⟩
    rw [f_KT_knit_l54]
    simp (disch := first | assumption | omega) only [z_bd, z_cal, z_gd, z_iT, z_iF, z_le_t, z_le_f, z_lt_t, z_lt_f, z_cl, z_inb, z_at, z_lit, nI_ii1, nI_add, z_mr, z_ref0, z_refn, z_eq_f, Bool.not_true, Bool.not_false, b2i_t, b2i_f, e5, eB, k1, f_Cloth_lay, e7, mA_sA, Nat.add_left_cancel_iff, Nat.reduceEqDiff]
    exact g1
def knG (q t : Nat) (σ : Sg) : Sg := wNow (wS σ (nI 0)) (knX (gX σ) q (fun j => kdN (tV (gT σ t) j)), wdO (gY σ) (updN (dO (gY σ)) q (dO (gY σ) q - takN t (cW (gX σ)) σ)), gZ σ)
def o_knit (q p : Int32) (σ : Sg) : Int32 × Sg := oG (ix p 4) 1 (oG (ix q (dQ (gY σ))) 2 (oS (kindS 0 p.toNatClampNeg σ) (-nI 1) (oG (decide (cR (gX σ) < 12)) 7 (oG (decide (takN p.toNatClampNeg (cW (gX σ)) σ ≤ dO (gY σ) q.toNatClampNeg)) 9 (nI (cR (gX σ) + 1), knG q.toNatClampNeg p.toNatClampNeg σ) σ) σ) σ) σ) σ
theorem OkSt_kn {q t : Nat} (hI : OkG σ) (hq : q < 4) (hR : cR (gX σ) < 12) (hV : ∀ k, k < cW (gX σ) → inR 0 (tV (gT σ t) k) = true) : OkSt (knX (gX σ) q (fun j => kdN (tV (gT σ t) j)), wdO (gY σ) (updN (dO (gY σ)) q (dO (gY σ) q - takN t (cW (gX σ)) σ)), gZ σ) := by
  obtain ⟨⟨h1, h2, h3, h4⟩, -⟩ := hI
  refine ⟨OkC_kn h1 hR hq (fun i hi => (kd_0 (hV i hi)).2), h2, ?_, h4⟩
  obtain ⟨p1, p2, p3, p4⟩ := h3
  refine ⟨p1, p2, fun j hj => ?_, p4⟩
  show updN (dO (gY σ)) q _ j ≤ 999
  unfold updN
  by_cases hjq : j = q
  · rw [if_pos hjq, ← hjq]
    have : dO (gY σ) j ≤ 999 := p3 j hj
    omega
  · rw [if_neg hjq]; exact p3 j hj
theorem pC_knit (q p : Int32) : PC (f_KT_knit q p) (o_knit q p) := by
  intro M σ h
  have g := q_noTray p M
  have g2 := q_noQueen h q
  rw [f_KT_knit, f_KT_knitStatus]
  unfold o_knit
  cases hx : ix p 4
  · rw [hx] at g
    refine ⟨_, ?_, IC_st (nI 1) h, Hi_st⟩
    simp (disch := first | assumption | omega) only [z_bd, z_cal, z_gd, z_iT, z_iF, z_le_t, z_le_f, z_lt_t, z_lt_f, z_cl, z_inb, z_at, z_lit, nI_ii1, nI_add, z_mr, z_ref0, z_refn, z_eq_f, Bool.not_true, Bool.not_false, b2i_t, b2i_f, g, oG]
  · rw [hx] at g
    cases hy : ix q (dQ (gY σ))
    · rw [hy] at g2
      refine ⟨_, ?_, IC_st (nI 2) h, Hi_st⟩
      simp (disch := first | assumption | omega) only [z_bd, z_cal, z_gd, z_iT, z_iF, z_le_t, z_le_f, z_lt_t, z_lt_f, z_cl, z_inb, z_at, z_lit, nI_ii1, nI_add, z_mr, z_ref0, z_refn, z_eq_f, Bool.not_true, Bool.not_false, b2i_t, b2i_f, g, g2, oG]
    · rw [hy] at g2
      obtain ⟨t, ht, rfl⟩ := ix_ex (by omega) hx
      have e1 : (nI t).toNatClampNeg = t := z_cl (by omega)
      have ks := q_kindsStatus (a := 0) h ht
      rw [show nI 0 - nI 0 = nI 0 from rfl] at ks
      have lt := kindS_lt 0 t σ
      rw [e1]
      cases hp : kindS 0 t σ with
      | succ n =>
        rw [hp] at ks
        refine ⟨_, ?_, IC_st (nI (n + 1)) h, Hi_st⟩
        simp (disch := first | assumption | omega) only [z_bd, z_cal, z_gd, z_iT, z_iF, z_le_t, z_le_f, z_lt_t, z_lt_f, z_cl, z_inb, z_at, z_lit, nI_ii1, nI_add, z_mr, z_ref0, z_refn, z_eq_f, Bool.not_true, Bool.not_false, b2i_t, b2i_f, g, g2, ks, oG, oS]
      | zero =>
        rw [hp] at ks
        obtain ⟨s2, t2, hK2, hO2, hC2, hP2, hD2⟩ := IC_gX h
        have w3 := hO2.2.2.1
        have w2 := hO2.1.2
        have w1 := hP2.1
        have e7 := hC2.2.2.1
        have e5 := hC2.1
        obtain ⟨b, hb, rfl⟩ := ix_ex (by omega) hy
        have e2 : (nI b).toNatClampNeg = b := z_cl (by omega)
        have tl := takN_le t (cW (gX σ)) σ
        have ow := hP2.2.2.1 b hb
        have eo := (hD2.2.2.1 b hb).1
        have ew := q_woolOf h ht hp
        by_cases hR : cR (gX σ) < 12
        · rw [decide_eq_true hR]
          by_cases hw : takN t (cW (gX σ)) σ ≤ dO (gY σ) b
          · rw [e2, decide_eq_true hw]
            have h1 := IC_st (nI 0) h
            obtain ⟨s, t1, hK, hO, hC, hP, hD⟩ := IC_get h1
            have ap := hK.ap
            have ew1 : f_Tray_woolOf (2 * t + 67) (nI (cW (gX σ))) (sI M 0 13 (nI 0)) = some (nI (takN t (cW (gX σ)) σ), sI M 0 13 (nI 0)) := q_woolOf h1 ht hp
            have e5' := hC.1
            have eo' := (hD.2.2.1 b hb).1
            obtain ⟨hr, ha⟩ := kindS0 hp
            obtain ⟨hm, hl⟩ := runS0 hr
            obtain ⟨hT, -⟩ := IC_tr h1 ht
            have hF : Fr (inDl (s + 1)) (sI M 0 13 (nI 0)) (sA (sI M 0 13 (nI 0)) (s + 1 + 1) (upd (mA (sI M 0 13 (nI 0)) (s + 1 + 1)) b (nI (dO (gY σ) b - takN t (cW (gX σ)) σ)))) := Fr.sA ⟨by omega, by omega⟩
            obtain ⟨M', b1, b2, b3⟩ := q_knit_l54 (c := s + 9) (q := b) (t := t) (V := tV (gT σ t)) hO hR (by omega) ht (by omega) ha (cW (gX σ)) FU 0 (sA (sI M 0 13 (nI 0)) (s + 1 + 1) (upd (mA (sI M 0 13 (nI 0)) (s + 1 + 1)) b (nI (dO (gY σ) b - takN t (cW (gX σ)) σ)))) (by omega) (FU_lt (by omega)) (CC_fr hF (fun id h1 h2 e => by have := e.2; omega) hC) (fun j hj => (hT.2 hm).2.2 j (by show j < tL (gT σ t); omega)) (fun j hj => absurd hj (by omega))
            have hFF : Fr (fun id => s ≤ id ∧ id ≤ s + 19) (sI M 0 13 (nI 0)) M' := (hF.mono (fun id e => by have := e.1; have := e.2; omega)).tr (b3.mono (fun id e => by have := e.1; have := e.2; omega))
            have hS : CS M' s (knX (gX σ) b (fun j => kdN (tV (gT σ t) j)), wdO (gY σ) (updN (dO (gY σ)) b (dO (gY σ) b - takN t (cW (gX σ)) σ)), gZ σ) := by
              refine ⟨b2, CD_fr b3 (fun id h1 h2 e => by have := e.1; omega) (CD_O hD), ?_⟩
              obtain ⟨-, s3, t3, hK3, hS3, -⟩ := h1
              have es : s3 = s := hK3.1.symm.trans hK.1
              subst es
              exact CZ_fr b3 (fun id h1 h2 e => by have := e.2; omega) (CZ_fr hF (fun id h1 h2 e => by have := e.2; omega) hS3.2.2)
            refine ⟨M', ?_, IC_now h1 hK hFF hS (OkSt_kn h.1 (by omega) hR ha), Hi_st.tr (hFF.mono (fun id e => by have := e.2; show id < 135; omega))⟩
            simp (disch := first | assumption | omega) only [z_bd, z_cal, z_gd, z_iT, z_iF, z_le_t, z_le_f, z_lt_t, z_lt_f, z_cl, z_inb, z_at, z_lit, nI_ii1, nI_add, z_mr, z_ref0, z_refn, z_eq_f, Bool.not_true, Bool.not_false, b2i_t, b2i_f, g, g2, ks, oG, oS, hK2.1, hK2.s1, e7, e5, ew, eo, hK.1, hK.s1, e5', ew1, eo', z_sub]
            exact b1
          · rw [e2, decide_eq_false hw]
            refine ⟨_, ?_, IC_st (nI 9) h, Hi_st⟩
            simp (disch := first | assumption | omega) only [z_bd, z_cal, z_gd, z_iT, z_iF, z_le_t, z_le_f, z_lt_t, z_lt_f, z_cl, z_inb, z_at, z_lit, nI_ii1, nI_add, z_mr, z_ref0, z_refn, z_eq_f, Bool.not_true, Bool.not_false, b2i_t, b2i_f, g, g2, ks, oG, oS, hK2.1, hK2.s1, e7, e5, ew, eo]
        · rw [decide_eq_false hR]
          refine ⟨_, ?_, IC_st (nI 7) h, Hi_st⟩
          simp (disch := first | assumption | omega) only [z_bd, z_cal, z_gd, z_iT, z_iF, z_le_t, z_le_f, z_lt_t, z_lt_f, z_cl, z_inb, z_at, z_lit, nI_ii1, nI_add, z_mr, z_ref0, z_refn, z_eq_f, Bool.not_true, Bool.not_false, b2i_t, b2i_f, g, g2, ks, oG, oS, hK2.1, hK2.s1, e7]
end
