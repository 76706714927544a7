def updT (f : Nat → Tr) (t : Nat) (u : Tr) : Nat → Tr := fun q => if q = t then u else f q
def cutJ (s : Nat) (v : Int64) : Int64 := if s = 0 then v.toInt32.toInt8.toInt32.toInt64 else if s = 1 then v.toInt32.toInt16.toInt32.toInt64 else if s = 2 then v.toInt32.toInt64 else v
section
variable {M M' : kx_M} {σ : Sg}
theorem q_noTray (p : Int32) (M : kx_M) : f_KT_noTray p M = some (b2i (!ix p 4), M) := by
  rw [f_KT_noTray]
  cases hx : ix p 4
  · rcases ix_f (by omega) hx with h1 | h1
    · simp (disch := first | assumption | omega) only [z_bd, z_cal, z_gd, z_iT, z_iF, z_le_t, z_le_f, z_lt_t, z_lt_f, z_cl, z_inb, z_at, z_lit, nI_ii1, nI_add, z_mr, z_ref0, z_refn, z_eq_f, Bool.not_true, Bool.not_false, b2i_t, b2i_f, show p < nI 0 from h1]
    · by_cases h2 : p < nI 0
      · simp (disch := first | assumption | omega) only [z_bd, z_cal, z_gd, z_iT, z_iF, z_le_t, z_le_f, z_lt_t, z_lt_f, z_cl, z_inb, z_at, z_lit, nI_ii1, nI_add, z_mr, z_ref0, z_refn, z_eq_f, Bool.not_true, Bool.not_false, b2i_t, b2i_f, h2]
      · simp (disch := first | assumption | omega) only [z_bd, z_cal, z_gd, z_iT, z_iF, z_le_t, z_le_f, z_lt_t, z_lt_f, z_cl, z_inb, z_at, z_lit, nI_ii1, nI_add, z_mr, z_ref0, z_refn, z_eq_f, Bool.not_true, Bool.not_false, b2i_t, b2i_f, h2, h1]
  · obtain ⟨n, hn, rfl⟩ := ix_ex (by omega) hx
    simp (disch := first | assumption | omega) only [z_bd, z_cal, z_gd, z_iT, z_iF, z_le_t, z_le_f, z_lt_t, z_lt_f, z_cl, z_inb, z_at, z_lit, nI_ii1, nI_add, z_mr, z_ref0, z_refn, z_eq_f, Bool.not_true, Bool.not_false, b2i_t, b2i_f, nI_pos0]
theorem IC_tr (h : IC M σ) {t : Nat} (ht : t < 4) : CT M t (gT σ t) ∧ OkT (gT σ t) := by
  obtain ⟨hO, s, t1, hK, hS, hs, hT, -⟩ := h
  exact ⟨hT t ht, hO.2.2.2.1 t ht⟩
/-- what is said of a place: 1, 3, 4 -/
def plS (p q : Int32) (σ : Sg) : Nat := if ix p 4 = true then (if tM (gT σ p.toNatClampNeg) = true then 3 else if ix q (tL (gT σ p.toNatClampNeg)) = true then 0 else 4) else 1
theorem q_lacks {r L n : Nat} {p : Int32} (hL : mI M r 3 = nI L) (hb : L ≤ 60) (hn : n < 2147483648) : f_Tray_lacks r p (nI n) M = some (b2i (!(decide (0 ≤ p.toInt) && decide (p.toInt + n ≤ L))), M) := by
  rw [f_Tray_lacks]
  by_cases h0 : p < nI 0
  · have : ¬ 0 ≤ p.toInt := by have := Int32.lt_iff_toInt_lt.mp h0; rw [show (nI 0).toInt = 0 from rfl] at this; omega
    rw [decide_eq_false this]
    simp (disch := first | assumption | omega) only [z_bd, z_cal, z_gd, z_iT, z_iF, z_le_t, z_le_f, z_lt_t, z_lt_f, z_cl, z_inb, z_at, z_lit, nI_ii1, nI_add, z_mr, z_ref0, z_refn, z_eq_f, Bool.not_true, Bool.not_false, b2i_t, b2i_f, h0, Bool.false_and]
  · obtain ⟨a, ha, rfl⟩ := nI_of (x := p) h0
    have e : (nI a).toInt = a := nI_toInt ha
    rw [e, decide_eq_true (show (0 : Int) ≤ a by omega), Bool.true_and]
    by_cases h1 : L < a
    · rw [decide_eq_false (show ¬ ((a : Int) + n ≤ L) by omega)]
      simp (disch := first | assumption | omega) only [z_bd, z_cal, z_gd, z_iT, z_iF, z_le_t, z_le_f, z_lt_t, z_lt_f, z_cl, z_inb, z_at, z_lit, nI_ii1, nI_add, z_mr, z_ref0, z_refn, z_eq_f, Bool.not_true, Bool.not_false, b2i_t, b2i_f, hL, nI_pos0]
    · by_cases h2 : a + n ≤ L
      · rw [decide_eq_true (show ((a : Int) + n ≤ L) by omega)]
        simp (disch := first | assumption | omega) only [z_bd, z_cal, z_gd, z_iT, z_iF, z_le_t, z_le_f, z_lt_t, z_lt_f, z_cl, z_inb, z_at, z_lit, nI_ii1, nI_add, z_mr, z_ref0, z_refn, z_eq_f, Bool.not_true, Bool.not_false, b2i_t, b2i_f, hL, nI_pos0, z_sub]
      · rw [decide_eq_false (show ¬ ((a : Int) + n ≤ L) by omega)]
        simp (disch := first | assumption | omega) only [z_bd, z_cal, z_gd, z_iT, z_iF, z_le_t, z_le_f, z_lt_t, z_lt_f, z_cl, z_inb, z_at, z_lit, nI_ii1, nI_add, z_mr, z_ref0, z_refn, z_eq_f, Bool.not_true, Bool.not_false, b2i_t, b2i_f, hL, nI_pos0, z_sub]
theorem ix_lacks (q : Int32) (L : Nat) : (decide (0 ≤ q.toInt) && decide (q.toInt + (1 : Nat) ≤ L)) = ix q L := by
  unfold ix
  rw [show decide (q.toInt + (1 : Nat) ≤ (L : Int)) = decide (q.toInt < L) from decide_eq_decide.mpr (by omega)]
theorem q_placeStatus (h : IC M σ) (p q : Int32) : f_KT_placeStatus p q M = some (nI (plS p q σ), M) := by
  have g := q_noTray p M
  rw [f_KT_placeStatus]
  unfold plS
  cases hx : ix p 4
  · rw [hx] at g
    simp (disch := first | assumption | omega) only [z_bd, z_cal, z_gd, z_iT, z_iF, z_le_t, z_le_f, z_lt_t, z_lt_f, z_cl, z_inb, z_at, z_lit, nI_ii1, nI_add, z_mr, z_ref0, z_refn, z_eq_f, Bool.not_true, Bool.not_false, b2i_t, b2i_f, g, Bool.false_eq_true]
  · rw [hx] at g
    obtain ⟨t, ht, rfl⟩ := ix_ex (by omega) hx
    obtain ⟨hT, hO⟩ := IC_tr h ht
    have e1 : (nI t).toNatClampNeg = t := z_cl (by omega)
    rw [e1]
    cases hm : tM (gT σ t)
    · have ho := hO hm
      have em := hT.1
      rw [hm] at em
      obtain ⟨es, el, ev⟩ := hT.2 hm
      have lk := q_lacks (p := q) (n := 1) el ho.2 (by omega)
      rw [ix_lacks] at lk
      cases hy : ix q (tL (gT σ t))
      · rw [hy] at lk
        simp (disch := first | assumption | omega) only [z_bd, z_cal, z_gd, z_iT, z_iF, z_le_t, z_le_f, z_lt_t, z_lt_f, z_cl, z_inb, z_at, z_lit, nI_ii1, nI_add, z_mr, z_ref0, z_refn, z_eq_f, Bool.not_true, Bool.not_false, b2i_t, b2i_f, g, em, lk, Bool.false_eq_true]
      · rw [hy] at lk
        simp (disch := first | assumption | omega) only [z_bd, z_cal, z_gd, z_iT, z_iF, z_le_t, z_le_f, z_lt_t, z_lt_f, z_cl, z_inb, z_at, z_lit, nI_ii1, nI_add, z_mr, z_ref0, z_refn, z_eq_f, Bool.not_true, Bool.not_false, b2i_t, b2i_f, g, em, lk, Bool.false_eq_true]
    · have em := hT.1
      rw [hm] at em
      simp (disch := first | assumption | omega) only [z_bd, z_cal, z_gd, z_iT, z_iF, z_le_t, z_le_f, z_lt_t, z_lt_f, z_cl, z_inb, z_at, z_lit, nI_ii1, nI_add, z_mr, z_ref0, z_refn, z_eq_f, Bool.not_true, Bool.not_false, b2i_t, b2i_f, g, em]
theorem IC_tray {t : Nat} {u : Tr} (hI : IC M σ) (ht : t < 4) (hF : Fr (fun id => id = 2 * t + 67 ∨ id = 2 * t + 68) M M') (hT : CT M' t u) (hu : OkT u) : IC M' (wT σ (updT (gT σ) t u)) := by
  obtain ⟨hO, s, t1, hK, hS, ⟨a1, a2, a3, a4, a5⟩, hT0, ⟨b1, b2⟩, ⟨c1, c2⟩, ⟨d1, d2⟩, hk, hw⟩ := hI
  have ha := hK.ap
  have hss : s = 27 ∨ s = 47 := by rcases hK.2.2 with ⟨e, -⟩ | ⟨e, -⟩ <;> omega
  obtain ⟨f0, j0, -, -, r0⟩ := hF 0 (by omega)
  refine ⟨⟨hO.1, hO.2.1, hO.2.2.1, fun q hq => ?_, hO.2.2.2.2⟩, s, t1, hK.fr hF (by omega), CS_fr hF (fun id h1 h2 e => by omega) hS, ⟨?_, ?_, ?_, ?_, ?_⟩, fun q hq => ?_, ⟨?_, ?_⟩, ⟨?_, fun i hi => CS_fr hF (fun id h1 h2 e => by omega) (c2 i hi)⟩, ⟨?_, ?_⟩, ?_, ?_⟩
  · show OkT (updT (gT σ) t u q)
    unfold updT
    split
    · exact hu
    · exact hO.2.2.2.1 q hq
  · rw [f0]; exact a1
  · rw [j0]; exact a2
  · rw [j0]; exact a3
  · rw [f0]; exact a4
  · rw [f0]; exact a5
  · show CT M' q (updT (gT σ) t u q)
    unfold updT
    by_cases hq2 : q = t
    · rw [if_pos hq2, hq2]; exact hT
    · rw [if_neg hq2]; exact CT_fr hF (by omega) (by omega) (hT0 q hq)
  · rw [f0]; exact b1
  · rw [(hF 2 (by omega)).2.2.1]; exact b2
  · rw [f0]; exact c1
  · rw [f0]; exact d1
  · obtain ⟨f, -, -, -, -⟩ := hF 23 (by omega)
    rw [f, f, f, f, f]; exact d2
  · rw [(hF 6 (by omega)).2.2.2.1, (hF 10 (by omega)).2.2.2.1]; exact hk
  · obtain ⟨-, -, -, -, r⟩ := hF 13 (by omega)
    rw [r, r]; exact hw
/-- refused with a status that is asked, or the rest (0: the rest) -/
def oS {α : Type} (n : Nat) (a : α) (r : α × Sg) (σ : Sg) : α × Sg := match n with
  | 0 => r
  | n + 1 => (a, wS σ (nI (n + 1)))
def o_read (p q : Int32) (σ : Sg) : Int64 × Sg := oS (plS p q σ) (-1) (tV (gT σ p.toNatClampNeg) q.toNatClampNeg, wS σ (nI 0)) σ
theorem plS0 {p q : Int32} (h : plS p q σ = 0) : ix p 4 = true ∧ tM (gT σ p.toNatClampNeg) = false ∧ ix q (tL (gT σ p.toNatClampNeg)) = true := by
  unfold plS at h
  split at h
  · rename_i h1
    split at h
    · cases h
    · rename_i h2
      split at h
      · rename_i h3
        exact ⟨h1, Bool.eq_false_iff.mpr h2, h3⟩
      · cases h
  · cases h
theorem plS_lt (p q : Int32) (σ : Sg) : plS p q σ < 5 := by unfold plS; split; split; omega; split <;> omega; omega
theorem pC_read (p q : Int32) : PC (f_KT_read p q) (o_read p q) := by
  intro M σ h
  have g := q_placeStatus h p q
  have lt := plS_lt p q σ
  rw [f_KT_read]
  unfold o_read
  cases hp : plS p q σ with
  | zero =>
    rw [hp] at g
    obtain ⟨h1, h2, h3⟩ := plS0 hp
    obtain ⟨t, ht, rfl⟩ := ix_ex (by omega) h1
    have e1 : (nI t).toNatClampNeg = t := z_cl (by omega)
    rw [e1] at h2 h3 ⊢
    have hI := IC_st (nI 0) h
    obtain ⟨hT, hO⟩ := IC_tr hI ht
    have ho := hO h2
    obtain ⟨a, ha, rfl⟩ := ix_ex (by have : tL (gT σ t) ≤ 60 := ho.2; omega) h3
    have e2 : mB (sI M 0 13 (nI 0)) (2 * t + 68) a = tV (gT σ t) a := (hT.2 h2).2.2 a ha
    have ha60 : a < 60 := by have : tL (gT σ t) ≤ 60 := ho.2; omega
    refine ⟨_, ?_, hI, Hi_st⟩
    simp (disch := first | assumption | omega) only [z_bd, z_cal, z_gd, z_iT, z_iF, z_le_t, z_le_f, z_lt_t, z_lt_f, z_cl, z_inb, z_at, z_lit, nI_ii1, nI_add, z_mr, z_ref0, z_refn, z_eq_f, Bool.not_true, Bool.not_false, b2i_t, b2i_f, g, oS, e2]
  | succ n =>
    rw [hp] at g
    refine ⟨_, ?_, IC_st (nI (n + 1)) h, Hi_st⟩
    simp (disch := first | assumption | omega) only [z_bd, z_cal, z_gd, z_iT, z_iF, z_le_t, z_le_f, z_lt_t, z_lt_f, z_cl, z_inb, z_at, z_lit, nI_ii1, nI_add, z_mr, z_ref0, z_refn, z_eq_f, Bool.not_true, Bool.not_false, b2i_t, b2i_f, g, oS]
def trW (u : Tr) (q : Nat) (v : Int64) : Tr := (tM u, tS u, tL u, vp_updL (tV u) q (cutJ (tS u) v))
def o_write (p q : Int32) (v : Int64) (σ : Sg) : Int32 × Sg := oS (plS p q σ) (nI 0) (nI 1, wT (wS σ (nI 0)) (updT (gT σ) p.toNatClampNeg (trW (gT σ p.toNatClampNeg) q.toNatClampNeg v))) σ
theorem q_put {r s q : Nat} {v : Int64} (hs : mI M r 2 = nI s) (h3 : s ≤ 3) (hq : q < 60) : f_Tray_put r (nI q) v M = some ((), sB M (r + 1) (vp_updL (mB M (r + 1)) q (cutJ s v))) := by
  rw [f_Tray_put]
  have hc : s = 0 ∨ s = 1 ∨ s = 2 ∨ s = 3 := by omega
  rcases hc with rfl | rfl | rfl | rfl
  · simp (disch := first | assumption | omega) only [z_bd, z_cal, z_gd, z_iT, z_iF, z_le_t, z_le_f, z_lt_t, z_lt_f, z_cl, z_inb, z_at, z_lit, nI_ii1, nI_add, z_mr, z_ref0, z_refn, z_eq_f, Bool.not_true, Bool.not_false, b2i_t, b2i_f, hs]
    rfl
  · simp (disch := first | assumption | omega) only [z_bd, z_cal, z_gd, z_iT, z_iF, z_le_t, z_le_f, z_lt_t, z_lt_f, z_cl, z_inb, z_at, z_lit, nI_ii1, nI_add, z_mr, z_ref0, z_refn, z_eq_f, Bool.not_true, Bool.not_false, b2i_t, b2i_f, hs]
    rfl
  · simp (disch := first | assumption | omega) only [z_bd, z_cal, z_gd, z_iT, z_iF, z_le_t, z_le_f, z_lt_t, z_lt_f, z_cl, z_inb, z_at, z_lit, nI_ii1, nI_add, z_mr, z_ref0, z_refn, z_eq_f, Bool.not_true, Bool.not_false, b2i_t, b2i_f, hs]
    rfl
  · simp (disch := first | assumption | omega) only [z_bd, z_cal, z_gd, z_iT, z_iF, z_le_t, z_le_f, z_lt_t, z_lt_f, z_cl, z_inb, z_at, z_lit, nI_ii1, nI_add, z_mr, z_ref0, z_refn, z_eq_f, Bool.not_true, Bool.not_false, b2i_t, b2i_f, hs]
    rfl
theorem CT_put {t q : Nat} {u : Tr} {v : Int64} (hm : tM u = false) (hT : CT M t u) : CT (sB M (2 * t + 68) (vp_updL (mB M (2 * t + 68)) q v)) t (tM u, tS u, tL u, vp_updL (tV u) q v) := by
  obtain ⟨a, b⟩ := hT
  obtain ⟨b1, b2, b3⟩ := b hm
  refine ⟨a, fun _ => ⟨b1, b2, fun k hk => ?_⟩⟩
  rw [mB_sB, if_pos rfl]
  show (if k = q then v else mB M (2 * t + 68) k) = (if k = q then v else tV u k)
  rw [b3 k hk]
theorem pC_write (p q : Int32) (v : Int64) : PC (f_KT_write p q v) (o_write p q v) := by
  intro M σ h
  have g := q_placeStatus h p q
  have lt := plS_lt p q σ
  rw [f_KT_write]
  unfold o_write
  cases hp : plS p q σ with
  | zero =>
    rw [hp] at g
    obtain ⟨h1, h2, h3⟩ := plS0 hp
    obtain ⟨t, ht, rfl⟩ := ix_ex (by omega) h1
    have e1 : (nI t).toNatClampNeg = t := z_cl (by omega)
    rw [e1] at h2 h3 ⊢
    have hI := IC_st (nI 0) h
    obtain ⟨hT, hO⟩ := IC_tr hI ht
    have ho := hO h2
    have hL : tL (gT σ t) ≤ 60 := ho.2
    obtain ⟨a, ha, rfl⟩ := ix_ex (by omega) h3
    have e2 : (nI a).toNatClampNeg = a := z_cl (by omega)
    have ep := q_put (v := v) (q := a) (hT.2 h2).1 ho.1 (by omega)
    have hF : Fr (fun id => id = 2 * t + 67 ∨ id = 2 * t + 68) (sI M 0 13 (nI 0)) (sB (sI M 0 13 (nI 0)) (2 * t + 68) (vp_updL (mB (sI M 0 13 (nI 0)) (2 * t + 68)) a (cutJ (tS (gT σ t)) v))) := Fr.sB (Or.inr rfl)
    rw [e2]
    refine ⟨_, ?_, IC_tray hI ht hF (CT_put h2 hT) (fun _ => ho), Hi_st.tr (hF.mono (fun id e => by show id < 135; omega))⟩
    simp (disch := first | assumption | omega) only [z_bd, z_cal, z_gd, z_iT, z_iF, z_le_t, z_le_f, z_lt_t, z_lt_f, z_cl, z_inb, z_at, z_lit, nI_ii1, nI_add, z_mr, z_ref0, z_refn, z_eq_f, Bool.not_true, Bool.not_false, b2i_t, b2i_f, g, oS]
    rw [show f_Tray_put (2 * t + 67) (nI a) v (sI M 0 13 (nI 0)) = some ((), _) from ep]
    rfl
  | succ n =>
    rw [hp] at g
    refine ⟨_, ?_, IC_st (nI (n + 1)) h, Hi_st⟩
    simp (disch := first | assumption | omega) only [z_bd, z_cal, z_gd, z_iT, z_iF, z_le_t, z_le_f, z_lt_t, z_lt_f, z_cl, z_inb, z_at, z_lit, nI_ii1, nI_add, z_mr, z_ref0, z_refn, z_eq_f, Bool.not_true, Bool.not_false, b2i_t, b2i_f, g, oS]
theorem q_fill {id n : Nat} {v : Int64} {ks : List Nat} (hl : kx_lay[id]? = some (2, n, ks)) (hn : n < 1000) : ∃ M', f_Arr_fill id v M = some ((), M') ∧ Fr (fun q => q = id) M M' ∧ ∀ k, k < n → mB M' id k = v := by
  have hLn : aLn id = n := by unfold aLn; rw [hl]
  have hLk : aLk 2 id = true := by unfold aLk; rw [hl]; rfl
  have key : ∀ (m f i : Nat) (M : kx_M), i + m = n → m < f → (∀ k, k < i → mB M id k = v) → ∃ M', f_Arr_fill_l6 id v f (nI i) (nI n) M = some ((), M') ∧ Fr (fun q => q = id) M M' ∧ ∀ k, k < n → mB M' id k = v := by
    intro m
    induction m with
    | zero =>
      intro f i M hi hf hk
      obtain ⟨f, rfl, hf⟩ := z_succ hf
      obtain rfl : i = n := by omega
      refine ⟨M, ?_, Fr.rf, hk⟩
      rw [f_Arr_fill_l6]
      simp (disch := first | assumption | omega) only [z_bd, z_cal, z_gd, z_iT, z_iF, z_le_t, z_le_f, z_lt_t, z_lt_f, z_cl, z_inb, z_at, z_lit, nI_ii1, nI_add, z_mr, z_ref0, z_refn, z_eq_f, Bool.not_true, Bool.not_false, b2i_t, b2i_f]
    | succ m ih =>
      intro f i M hi hf hk
      obtain ⟨f, rfl, hf⟩ := z_succ hf
      obtain ⟨M', b1, b2, b3⟩ := ih f (i + 1) (sB M id (vp_updL (mB M id) i v)) (by omega) (by omega) (fun k hk1 => by
        rw [mB_sB, if_pos rfl]
        show (if k = i then v else mB M id k) = v
        by_cases he : k = i
        · rw [if_pos he]
        · rw [if_neg he]; exact hk k (by omega))
      refine ⟨M', ?_, Fr.tr (Fr.sB rfl) b2, b3⟩
      rw [f_Arr_fill_l6]
      simp (disch := first | assumption | omega) only [z_bd, z_cal, z_gd, z_iT, z_iF, z_le_t, z_le_f, z_lt_t, z_lt_f, z_cl, z_inb, z_at, z_lit, nI_ii1, nI_add, z_mr, z_ref0, z_refn, z_eq_f, Bool.not_true, Bool.not_false, b2i_t, b2i_f, z_aIb hl]
      exact b1
  obtain ⟨M', b1, b2, b3⟩ := key n FU 0 M (by omega) (FU_lt (by omega)) (fun k hk => absurd hk (by omega))
  refine ⟨M', ?_, b2, b3⟩
  rw [f_Arr_fill, hLk, hLn]
  simp (disch := first | assumption | omega) only [z_bd, z_cal, z_gd, z_iT, z_iF, z_le_t, z_le_f, z_lt_t, z_lt_f, z_cl, z_inb, z_at, z_lit, nI_ii1, nI_add, z_mr, z_ref0, z_refn, z_eq_f, Bool.not_true, Bool.not_false, b2i_t, b2i_f]
  exact b1
def trS (p s n : Int32) : Nat := if ix p 4 = true then (if rg s 0 3 = true then (if n ≤ nI 60 then (if nI 0 ≤ n then 0 else 6) else 5) else 1) else 1
def o_tray (p s n : Int32) (σ : Sg) : Int32 × Sg := oS (trS p s n) (nI 0) (nI 1, wT (wS σ (nI 0)) (updT (gT σ) p.toNatClampNeg (false, s.toNatClampNeg, n.toNatClampNeg, fun _ => 0))) σ
theorem trS0 {p s n : Int32} (h : trS p s n = 0) : ix p 4 = true ∧ rg s 0 3 = true ∧ ∃ m, m ≤ 60 ∧ n = nI m := by
  unfold trS at h
  split at h
  · rename_i h1
    split at h
    · rename_i h2
      split at h
      · rename_i h3
        split at h
        · rename_i h4
          obtain ⟨m, hm, rfl⟩ := nI_of (x := n) (by
            intro hlt
            have a := Int32.lt_iff_toInt_lt.mp hlt
            have b := Int32.le_iff_toInt_le.mp h4
            rw [show (nI 0).toInt = 0 from rfl] at b
            rw [show (0 : Int32).toInt = 0 from rfl] at a
            omega)
          exact ⟨h1, h2, m, (nI_leI hm (by omega)).mp h3, rfl⟩
        · cases h
      · cases h
    · cases h
  · cases h
theorem pC_tray (p s n : Int32) : PC (f_KT_tray p s n) (o_tray p s n) := by
  intro M σ h
  have g := q_noTray p M
  rw [f_KT_tray]
  unfold o_tray
  cases hp : trS p s n with
  | zero =>
    obtain ⟨h1, h2, m, hm, rfl⟩ := trS0 hp
    rw [h1] at g
    obtain ⟨t, ht, rfl⟩ := ix_ex (by omega) h1
    obtain ⟨a, -, ha, rfl⟩ := rg_ex (by omega) h2
    have e1 : (nI t).toNatClampNeg = t := z_cl (by omega)
    have e2 : (nI a).toNatClampNeg = a := z_cl (by omega)
    have e3 : (nI m).toNatClampNeg = m := z_cl (by omega)
    have hI := IC_st (nI 0) h
    have hit : isTray (2 * t + 67) = true := by
      have hc : t = 0 ∨ t = 1 ∨ t = 2 ∨ t = 3 := by omega
      rcases hc with rfl | rfl | rfl | rfl <;> rfl
    obtain ⟨M', b1, b2, b3⟩ := q_fill (M := sI (sI (sI (sI M 0 13 (nI 0)) (2 * t + 67) 1 (nI 0)) (2 * t + 67) 2 (nI a)) (2 * t + 67) 3 (nI m)) (v := 0) (lk_Tray_numbers hit) (by omega)
    have hF : Fr (fun id => id = 2 * t + 67 ∨ id = 2 * t + 68) (sI M 0 13 (nI 0)) M' := ((Fr.sI (Or.inl rfl)).tr ((Fr.sI (Or.inl rfl)).tr (Fr.sI (Or.inl rfl)))).tr (b2.mono (fun id e => Or.inr e))
    have hT : CT M' t (false, a, m, fun _ => 0) := by
      have f := (b2 (2 * t + 67) (by omega)).1
      refine ⟨?_, fun _ => ⟨?_, ?_, fun k hk => b3 k (by have : k < m := hk; omega)⟩⟩
      · rw [f, mI_sI, if_neg (by omega), mI_sI, if_neg (by omega), mI_sI, if_pos ⟨rfl, rfl⟩]; rfl
      · rw [f, mI_sI, if_neg (by omega), mI_sI, if_pos ⟨rfl, rfl⟩]; rfl
      · rw [f, mI_sI, if_pos ⟨rfl, rfl⟩]; rfl
    simp only [oS]
    rw [e1, e2, e3]
    refine ⟨M', ?_, IC_tray hI ht hF hT (fun _ => ⟨ha, hm⟩), Hi_st.tr (hF.mono (fun id e => by show id < 135; omega))⟩
    simp (disch := first | assumption | omega) only [z_bd, z_cal, z_gd, z_iT, z_iF, z_le_t, z_le_f, z_lt_t, z_lt_f, z_cl, z_inb, z_at, z_lit, nI_ii1, nI_add, z_mr, z_ref0, z_refn, z_eq_f, Bool.not_true, Bool.not_false, b2i_t, b2i_f, g, nI_pos0, f_KT_tray_l45, f_Tray_lay]
    rw [show f_Arr_fill (2 * t + 67 + 1) 0 _ = some ((), M') from b1]
    rfl
  | succ k =>
    have hk : trS p s n = k + 1 := hp
    refine ⟨_, ?_, IC_st (nI (k + 1)) h, Hi_st⟩
    unfold trS at hk
    cases hx : ix p 4
    · rw [hx] at g hk
      obtain rfl : k = 0 := by simpa using hk.symm
      simp (disch := first | assumption | omega) only [z_bd, z_cal, z_gd, z_iT, z_iF, z_le_t, z_le_f, z_lt_t, z_lt_f, z_cl, z_inb, z_at, z_lit, nI_ii1, nI_add, z_mr, z_ref0, z_refn, z_eq_f, Bool.not_true, Bool.not_false, b2i_t, b2i_f, g, oS, f_KT_tray_l45]
    · rw [hx] at g hk
      cases hy : rg s 0 3
      · rw [hy] at hk
        obtain rfl : k = 0 := by simpa using hk.symm
        rcases rg_f (by omega) (by omega) hy with h1 | ⟨h1, h2⟩
        · simp (disch := first | assumption | omega) only [z_bd, z_cal, z_gd, z_iT, z_iF, z_le_t, z_le_f, z_lt_t, z_lt_f, z_cl, z_inb, z_at, z_lit, nI_ii1, nI_add, z_mr, z_ref0, z_refn, z_eq_f, Bool.not_true, Bool.not_false, b2i_t, b2i_f, g, oS, f_KT_tray_l45, h1]
        · simp (disch := first | assumption | omega) only [z_bd, z_cal, z_gd, z_iT, z_iF, z_le_t, z_le_f, z_lt_t, z_lt_f, z_cl, z_inb, z_at, z_lit, nI_ii1, nI_add, z_mr, z_ref0, z_refn, z_eq_f, Bool.not_true, Bool.not_false, b2i_t, b2i_f, g, oS, f_KT_tray_l45, h1, h2]
      · rw [hy] at hk
        obtain ⟨a, -, ha, rfl⟩ := rg_ex (by omega) hy
        by_cases h3 : n ≤ nI 60
        · by_cases h4 : nI 0 ≤ n
          · rw [if_pos rfl, if_pos rfl, if_pos h3, if_pos h4] at hk
            cases hk
          · rw [if_pos rfl, if_pos rfl, if_pos h3, if_neg h4] at hk
            obtain rfl : k = 5 := by omega
            simp (disch := first | assumption | omega) only [z_bd, z_cal, z_gd, z_iT, z_iF, z_le_t, z_le_f, z_lt_t, z_lt_f, z_cl, z_inb, z_at, z_lit, nI_ii1, nI_add, z_mr, z_ref0, z_refn, z_eq_f, Bool.not_true, Bool.not_false, b2i_t, b2i_f, g, oS, f_KT_tray_l45, nI_pos0, h3, h4]
        · rw [if_pos rfl, if_pos rfl, if_neg h3] at hk
          obtain rfl : k = 4 := by omega
          simp (disch := first | assumption | omega) only [z_bd, z_cal, z_gd, z_iT, z_iF, z_le_t, z_le_f, z_lt_t, z_lt_f, z_cl, z_inb, z_at, z_lit, nI_ii1, nI_add, z_mr, z_ref0, z_refn, z_eq_f, Bool.not_true, Bool.not_false, b2i_t, b2i_f, g, oS, f_KT_tray_l45, nI_pos0, h3]
end
