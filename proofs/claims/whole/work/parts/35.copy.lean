/-! ## COPY and POUR -/
section
variable {M M' : kx_M} {σ : Sg} {x : Cl}
theorem cutJ_m {s : Nat} (h : s ≤ 3) : cutJ s (-1) = -1 := by
  have hc : s = 0 ∨ s = 1 ∨ s = 2 ∨ s = 3 := by omega
  rcases hc with e | e | e | e <;> subst e <;> decide
theorem cutJ_k {s k : Nat} (h : s ≤ 3) (hk : k < 4) : cutJ s (nI k).toInt64 = (nI k).toInt64 := by
  have hc : s = 0 ∨ s = 1 ∨ s = 2 ∨ s = 3 := by omega
  have hd : k = 0 ∨ k = 1 ∨ k = 2 ∨ k = 3 := by omega
  rcases hc with e | e | e | e <;> subst e <;> rcases hd with e | e | e | e <;> subst e <;> decide
def rowV (x : Cl) (r k : Nat) : Int64 := if cU x (8 * r + k) = 1 then -1 else (nI (cK x (8 * r + k))).toInt64
def rowT (x : Cl) (r : Nat) (u : Tr) (n : Nat) : Tr := (tM u, tS u, tL u, fun k => if k < n then rowV x r k else tV u k)
theorem rowT_s (x : Cl) (r : Nat) (u : Tr) (n : Nat) : (tM (rowT x r u n), tS (rowT x r u n), tL (rowT x r u n), vp_updL (tV (rowT x r u n)) n (rowV x r n)) = rowT x r u (n + 1) := by
  refine Prod.ext rfl (Prod.ext rfl (Prod.ext rfl (funext fun k => ?_)))
  show (if k = n then rowV x r n else if k < n then rowV x r k else tV u k) = (if k < n + 1 then rowV x r k else tV u k)
  by_cases h1 : k = n
  · rw [if_pos h1, if_pos (by omega), h1]
  · rw [if_neg h1]
    by_cases h2 : k < n
    · rw [if_pos h2, if_pos (by omega)]
    · rw [if_neg h2, if_neg (by omega)]
theorem rowT_0 (x : Cl) (r : Nat) (u : Tr) : rowT x r u 0 = u := rfl
theorem rowV_cut {s r k : Nat} (hO : OkC x) (h : s ≤ 3) (hr : r < cR x) (hk : k < cW x) : cutJ s (rowV x r k) = rowV x r k := by
  unfold rowV
  split
  · exact cutJ_m h
  · exact cutJ_k h (hO.2.2.2.2.2 r k hr hk).1
theorem q_copy_l55 {c r t : Nat} (hO : OkC x) (hr : r < cR x) (ht : t < 4) (hc : c + 5 < 67) {u : Tr} (hm : tM u = false) (hT : tS u ≤ 3 ∧ tL u ≤ 60) : ∀ (m n k : Nat) (M : kx_M), k + m = cW x → m < n → CC M c x → CT M t (rowT x r u k) → ∃ M', f_KT_copyRow_l55 (nI r) (nI t) n c (nI k) M = some (nI (cW x), M') ∧ CT M' t (rowT x r u (cW x)) ∧ Fr (fun id => id = 2 * t + 67 ∨ id = 2 * t + 68) M M' := by
  have w2 := hO.1.2
  have w3 := hO.2.2.1
  intro m
  induction m with
  | zero =>
    intro n k M hk hn hC hT
    obtain ⟨n, rfl, hn⟩ := z_succ hn
    obtain rfl : k = cW x := by omega
    have e5 := hC.1
    refine ⟨M, ?_, hT, Fr.rf⟩
    rw [f_KT_copyRow_l55]
    simp (disch := first | assumption | omega) only [z_bd, z_cal, z_gd, z_iT, z_iF, z_le_t, z_le_f, z_lt_t, z_lt_f, z_cl, z_inb, z_at, z_pl, z_lit, nI_ii1, nI_add, z_mr, z_ref0, z_refn, z_eq_f, Bool.not_true, Bool.not_false, b2i_t, b2i_f, e5]
  | succ m ih =>
    intro n k M hk hn hC hT1
    obtain ⟨n, rfl, hn⟩ := z_succ hn
    have e5 := hC.1
    obtain ⟨a1, -, a3, -⟩ := hC.2.2.2.2.2 r k hr (by omega)
    obtain ⟨b1, -, b3, -⟩ := hO.2.2.2.2.2 r k hr (by omega)
    have ep := q_put (v := rowV x r k) (q := k) (hT1.2 hm).1 hT.1 (by omega)
    rw [show tS (rowT x r u k) = tS u from rfl, rowV_cut hO hT.1 hr (by omega)] at ep
    have hF : Fr (fun id => id = 2 * t + 67 ∨ id = 2 * t + 68) M (sB M (2 * t + 68) (vp_updL (mB M (2 * t + 68)) k (rowV x r k))) := Fr.sB (Or.inr rfl)
    have hT2 := CT_put (q := k) (v := rowV x r k) (show tM (rowT x r u k) = false from hm) hT1
    rw [rowT_s] at hT2
    obtain ⟨M', g1, g2, g3⟩ := ih n (k + 1) (sB M (2 * t + 68) (vp_updL (mB M (2 * t + 68)) k (rowV x r k))) (by omega) (by omega) (CC_fr hF (fun id h1 h2 => by omega) hC) hT2
    refine ⟨M', ?_, g2, hF.tr g3⟩
    rw [f_KT_copyRow_l55]
    by_cases hu : cU x (8 * r + k) = 1
    · rw [show rowV x r k = -1 from if_pos hu] at ep g1
      simp (disch := first | assumption | omega) only [z_bd, z_cal, z_gd, z_iT, z_iF, z_le_t, z_le_f, z_lt_t, z_lt_f, z_cl, z_inb, z_at, z_pl, z_lit, nI_ii1, nI_add, z_mr, z_ref0, z_refn, z_eq_f, Bool.not_true, Bool.not_false, b2i_t, b2i_f, e5, a3, hu]
      rw [show f_Tray_put (2 * t + 67) (nI k) (-1) M = _ from ep]
      exact g1
    · rw [show rowV x r k = (nI (cK x (8 * r + k))).toInt64 from if_neg hu] at ep g1
      obtain hu : cU x (8 * r + k) = 0 := by omega
      simp (disch := first | assumption | omega) only [z_bd, z_cal, z_gd, z_iT, z_iF, z_le_t, z_le_f, z_lt_t, z_lt_f, z_cl, z_inb, z_at, z_pl, z_lit, nI_ii1, nI_add, z_mr, z_ref0, z_refn, z_eq_f, Bool.not_true, Bool.not_false, b2i_t, b2i_f, e5, a3, a1, hu]
      rw [show f_Tray_put (2 * t + 67) (nI k) (nI (cK x (8 * r + k))).toInt64 M = _ from ep]
      exact g1
def o_copyRow (r p : Int32) (σ : Sg) : Int32 × Sg := oG (ix p 4) 1 (oG (ix r (cR (gX σ))) 2 (oS (runS p.toNatClampNeg σ) (-nI 1) (nI (cW (gX σ)), wT (wS σ (nI 0)) (updT (gT σ) p.toNatClampNeg (rowT (gX σ) r.toNatClampNeg (gT σ p.toNatClampNeg) (cW (gX σ))))) σ) σ) σ
theorem runS_lt (t : Nat) (σ : Sg) : runS t σ < 5 := by unfold runS; split; omega; split <;> omega
theorem pC_copyRow (r p : Int32) : PC (f_KT_copyRow r p) (o_copyRow r p) := by
  intro M σ h
  have g := q_noTray p M
  have g2 := q_noRow h r
  rw [f_KT_copyRow]
  unfold o_copyRow
  cases hx : ix p 4
  · rw [hx] at g
    refine ⟨_, ?_, IC_st (nI 1) h, Hi_st⟩
    simp (disch := first | assumption | omega) only [z_bd, z_cal, z_gd, z_iT, z_iF, z_le_t, z_le_f, z_lt_t, z_lt_f, z_cl, z_inb, z_at, z_pl, z_lit, nI_ii1, nI_add, z_mr, z_ref0, z_refn, z_eq_f, Bool.not_true, Bool.not_false, b2i_t, b2i_f, g, oG, f_KT_copyRow_l33]
  · rw [hx] at g
    cases hy : ix r (cR (gX σ))
    · rw [hy] at g2
      refine ⟨_, ?_, IC_st (nI 2) h, Hi_st⟩
      simp (disch := first | assumption | omega) only [z_bd, z_cal, z_gd, z_iT, z_iF, z_le_t, z_le_f, z_lt_t, z_lt_f, z_cl, z_inb, z_at, z_pl, z_lit, nI_ii1, nI_add, z_mr, z_ref0, z_refn, z_eq_f, Bool.not_true, Bool.not_false, b2i_t, b2i_f, g, g2, oG, f_KT_copyRow_l33]
    · rw [hy] at g2
      obtain ⟨t, ht, rfl⟩ := ix_ex (by omega) hx
      have e1 : (nI t).toNatClampNeg = t := z_cl (by omega)
      have ks := q_runStatus h ht
      have lt := runS_lt t σ
      rw [e1]
      cases hp : runS t σ with
      | zero =>
        rw [hp] at ks
        have h1 := IC_st (nI 0) h
        obtain ⟨s, t1, hK, hO, hC, hP, hD⟩ := IC_get h1
        have ap := hK.ap
        have w2 := hO.1.2
        have w3 := hO.2.2.1
        obtain ⟨q, hq, rfl⟩ := ix_ex (by omega) hy
        have e2 : (nI q).toNatClampNeg = q := z_cl (by omega)
        obtain ⟨hm, hl⟩ := runS0 hp
        obtain ⟨hT, hOT⟩ := IC_tr h1 ht
        have ho := hOT hm
        obtain ⟨M', b1, b2, b3⟩ := q_copy_l55 (c := s + 9) hO hq ht (by omega) hm ho (cW (gX σ)) FU 0 (sI M 0 13 (nI 0)) (by omega) (FU_lt (by omega)) hC hT
        rw [e2]
        refine ⟨M', ?_, IC_tray h1 ht b3 b2 (fun _ => ho), Hi_st.tr (b3.mono (fun id e => by show id < 135; omega))⟩
        simp (disch := first | assumption | omega) only [z_bd, z_cal, z_gd, z_iT, z_iF, z_le_t, z_le_f, z_lt_t, z_lt_f, z_cl, z_inb, z_at, z_pl, z_lit, nI_ii1, nI_add, z_mr, z_ref0, z_refn, z_eq_f, Bool.not_true, Bool.not_false, b2i_t, b2i_f, g, g2, ks, oG, oS, f_KT_copyRow_l33, hK.1, hK.s1]
        exact b1
      | succ n =>
        rw [hp] at ks
        refine ⟨_, ?_, IC_st (nI (n + 1)) h, Hi_st⟩
        simp (disch := first | assumption | omega) only [z_bd, z_cal, z_gd, z_iT, z_iF, z_le_t, z_le_f, z_lt_t, z_lt_f, z_cl, z_inb, z_at, z_pl, z_lit, nI_ii1, nI_add, z_mr, z_ref0, z_refn, z_eq_f, Bool.not_true, Bool.not_false, b2i_t, b2i_f, g, g2, ks, oG, oS, f_KT_copyRow_l33]
theorem MT_put {t q : Nat} {u : Tr} {v : Int64} (hm : tM u = false) (hT : MT M t u) : MT (sB M 138 (vp_updL (mB M 138) (60 * t + q) v)) t (tM u, tS u, tL u, vp_updL (tV u) q v) := by
  obtain ⟨a, b⟩ := hT
  obtain ⟨b1, b2, b3⟩ := b hm
  refine ⟨(fun e => by rw [show tM (tM u, tS u, tL u, vp_updL (tV u) q v) = false from hm] at e; cases e), fun _ => ⟨b1, b2, fun k hk => ?_⟩⟩
  rw [mB_sB, if_pos rfl]
  show (if 60 * t + k = 60 * t + q then v else mB M 138 (60 * t + k)) = (if k = q then v else tV u k)
  by_cases hkq : k = q
  · rw [if_pos (by omega), if_pos hkq]
  · rw [if_neg (by omega), if_neg hkq]; exact b3 k hk
theorem q_Mcopy_l76 {r t : Nat} (hO : OkC x) (hr : r < cR x) (ht : t < 4) {u : Tr} (hm : tM u = false) (hT : tS u ≤ 3 ∧ tL u ≤ 60) : ∀ (m n k : Nat) (M : kx_M), k + m = cW x → m < n → MC (mA M 140) x → MT M t (rowT x r u k) → ∃ M', f_RM_copyRow_l76 (nI r) (nI t) n (nI k) M = some (nI (cW x), M') ∧ MT M' t (rowT x r u (cW x)) ∧ Fr (fun id => id = 138) M M' ∧ ∀ k, (k < 60 * t ∨ 60 * t + 60 ≤ k) → mB M' 138 k = mB M 138 k := by
  have w2 := hO.1.2
  have w3 := hO.2.2.1
  intro m
  induction m with
  | zero =>
    intro n k M hk hn hC hT
    obtain ⟨n, rfl, hn⟩ := z_succ hn
    obtain rfl : k = cW x := by omega
    have e5 := hC.1
    refine ⟨M, ?_, hT, Fr.rf, fun _ _ => rfl⟩
    rw [f_RM_copyRow_l76]
    simp (disch := first | assumption | omega) only [z_bd, z_cal, z_gd, z_iT, z_iF, z_le_t, z_le_f, z_lt_t, z_lt_f, z_cl, z_inb, z_at, z_pl, z_lit, nI_ii1, nI_add, nI_mul, z_eq_f, z_refuse, z_no, z_M00, b2i_t, b2i_f, e5]
  | succ m ih =>
    intro n k M hk hn hC hT1
    obtain ⟨n, rfl, hn⟩ := z_succ hn
    have e5 := hC.1
    obtain ⟨a1, -, a3, -⟩ := hC.2.2.2.2.2 r k hr (by omega)
    obtain ⟨b1, -, b3, -⟩ := hO.2.2.2.2.2 r k hr (by omega)
    have eu := q_isUndone hO hC hr (show k < cW x by omega)
    have hF : Fr (fun id => id = 138) M (sB M 138 (vp_updL (mB M 138) (60 * t + k) (rowV x r k))) := Fr.sB rfl
    have hT2 := MT_put (q := k) (v := rowV x r k) (show tM (rowT x r u k) = false from hm) hT1
    rw [rowT_s] at hT2
    obtain ⟨M', g1, g2, g3, g4⟩ := ih n (k + 1) (sB M 138 (vp_updL (mB M 138) (60 * t + k) (rowV x r k))) (by omega) (by omega) hC hT2
    refine ⟨M', ?_, g2, hF.tr g3, fun j hj => ?_⟩
    · rw [f_RM_copyRow_l76]
      by_cases hu : cU x (8 * r + k) = 1
      · rw [show rowV x r k = -1 from if_pos hu] at g1
        rw [decide_eq_true hu] at eu
        simp (disch := first | assumption | omega) only [z_bd, z_cal, z_gd, z_iT, z_iF, z_le_t, z_le_f, z_lt_t, z_lt_f, z_cl, z_inb, z_at, z_pl, z_lit, nI_ii1, nI_add, nI_mul, z_eq_f, z_refuse, z_no, z_M00, b2i_t, b2i_f, e5, eu]
        exact g1
      · rw [show rowV x r k = (nI (cK x (8 * r + k))).toInt64 from if_neg hu] at g1
        rw [decide_eq_false hu] at eu
        simp (disch := first | assumption | omega) only [z_bd, z_cal, z_gd, z_iT, z_iF, z_le_t, z_le_f, z_lt_t, z_lt_f, z_cl, z_inb, z_at, z_pl, z_lit, nI_ii1, nI_add, nI_mul, z_eq_f, z_refuse, z_no, z_M00, b2i_t, b2i_f, e5, eu, a1]
        exact g1
    · rw [g4 j hj, mB_sB, if_pos rfl]
      show (if j = 60 * t + k then _ else _) = _
      rw [if_neg (by omega)]
theorem pM_copyRow (r p : Int32) : PM (f_RM_copyRow r p) (o_copyRow r p) := by
  intro M σ h
  have h0 := IM_00 h
  have g := q_isTray p (M00 M)
  have g2 := g_isRow h0 r
  rw [f_RM_copyRow]
  unfold o_copyRow
  cases hx : ix p 4
  · rw [hx] at g
    refine ⟨_, ?_, IM_r (nI 1) h0, lo_ref Lo_00⟩
    simp (disch := first | assumption | omega) only [z_bd, z_cal, z_gd, z_iT, z_iF, z_le_t, z_le_f, z_lt_t, z_lt_f, z_cl, z_inb, z_at, z_pl, z_lit, nI_ii1, nI_add, nI_mul, z_eq_f, z_refuse, z_no, z_M00, b2i_t, b2i_f, g, oG]
  · rw [hx] at g
    cases hy : ix r (cR (gX σ))
    · rw [show ix r (cR (gX (wS σ (nI 0)))) = false from hy] at g2
      refine ⟨_, ?_, IM_r (nI 2) h0, lo_ref Lo_00⟩
      simp (disch := first | assumption | omega) only [z_bd, z_cal, z_gd, z_iT, z_iF, z_le_t, z_le_f, z_lt_t, z_lt_f, z_cl, z_inb, z_at, z_pl, z_lit, nI_ii1, nI_add, nI_mul, z_eq_f, z_refuse, z_no, z_M00, b2i_t, b2i_f, g, g2, oG]
    · rw [show ix r (cR (gX (wS σ (nI 0)))) = true from hy] at g2
      obtain ⟨t, ht, rfl⟩ := ix_ex (by omega) hx
      have e1 : (nI t).toNatClampNeg = t := z_cl (by omega)
      obtain ⟨hO, hC, hP, hD⟩ := IM_get h0
      have w2 := hO.1.2
      have w3 := hO.2.2.1
      have e0 := hC.1
      obtain ⟨hT, hOT⟩ := IM_tr h0 ht
      have hT' : MT (M00 M) t (gT σ t) := hT
      rw [e1]
      unfold runS
      cases hm : tM (gT σ t)
      · have ho : tS (gT σ t) ≤ 3 ∧ tL (gT σ t) ≤ 60 := hOT hm
        have ho2 := ho.2
        obtain ⟨el, es, ev⟩ := hT'.2 hm
        by_cases hl : cW (gX σ) ≤ tL (gT σ t)
        · obtain ⟨q, hq, rfl⟩ := ix_ex (by omega) hy
          have e2 : (nI q).toNatClampNeg = q := z_cl (by omega)
          obtain ⟨M', b1, b2, b3, b4⟩ := q_Mcopy_l76 hO hq ht hm ho (cW (gX σ)) FU 0 (M00 M) (by omega) (FU_lt (by omega)) hC hT'
          rw [if_neg (show ¬ (false = true) by decide), if_pos hl, e2]
          have e137 := (b3 137 (by decide)).2.2.1
          have e136 := (b3 136 (by decide)).2.2.1
          refine ⟨M', ?_, IM_tray h0 ht (b3.mono (fun id e => Or.inr (Or.inr e))) b2 (fun q hq hqt => ⟨by rw [e137], by rw [e136], fun k hk => b4 _ (by omega)⟩) (fun _ => ho), Lo_00.tr (b3.mono (fun id e => by show 135 ≤ id; omega))⟩
          simp (disch := first | assumption | omega) only [z_bd, z_cal, z_gd, z_iT, z_iF, z_le_t, z_le_f, z_lt_t, z_lt_f, z_cl, z_inb, z_at, z_pl, z_lit, nI_ii1, nI_add, nI_mul, z_eq_f, z_refuse, z_no, z_M00, b2i_t, b2i_f, g, g2, oG, oS, el, e0]
          exact b1
        · rw [if_neg (show ¬ (false = true) by decide), if_neg hl]
          refine ⟨_, ?_, IM_r (nI 4) h0, lo_ref Lo_00⟩
          simp (disch := first | assumption | omega) only [z_bd, z_cal, z_gd, z_iT, z_iF, z_le_t, z_le_f, z_lt_t, z_lt_f, z_cl, z_inb, z_at, z_pl, z_lit, nI_ii1, nI_add, nI_mul, z_eq_f, z_refuse, z_no, z_M00, b2i_t, b2i_f, g, g2, oG, oS, el, e0]
      · have em := hT'.1 hm
        rw [show (-1 : Int32) = -nI 1 from rfl] at em
        rw [if_pos rfl]
        refine ⟨_, ?_, IM_r (nI 3) h0, lo_ref Lo_00⟩
        simp (disch := first | assumption | omega) only [z_bd, z_cal, z_gd, z_iT, z_iF, z_le_t, z_le_f, z_lt_t, z_lt_f, z_cl, z_inb, z_at, z_pl, z_lit, nI_ii1, nI_add, nI_mul, z_eq_f, z_refuse, z_no, z_M00, b2i_t, b2i_f, g, g2, oG, oS, em, z_neg]
end
