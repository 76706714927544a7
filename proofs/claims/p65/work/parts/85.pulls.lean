/-! ## the law's pulls, what must be darned -/
section
variable {hA : Nat → Int32} {v : Nat → Nat} {M : kx_M} {σ : Sg} {sc : Nat × (Nat → Int32)} {u : St} {Y : Nat}
/-- a MARK of u is kept; the cloth is z -/
def TZ (v : Nat → Nat) (u : St) (z : Cl) (σ : Sg) : Prop := (gK σ).1 = 1 ∧ (gK σ).2 0 = u ∧ RTr σ (v 0) ∧ gX σ = z ∧ gY σ = u.2.1 ∧ z.1 = u.1.1
theorem TZ_mark (h : PZ v u σ) : TZ v u u.1 (wK σ 1 (mkF σ)) := ⟨rfl, (mkF_0 h.2.1).trans h.1, h.2.2, (show gX σ = u.1 from PZ_X h), (show gY σ = u.2.1 from PZ_Y h), rfl⟩
theorem TZ_back {z : Cl} (h : TZ v u z σ) : PZ v u (wNow (wK σ 0 (gK σ).2) ((gK σ).2 0)) := ⟨h.2.1, rfl, h.2.2.1⟩
theorem TZ_X {z z' : Cl} (h : TZ v u z σ) (hz : z'.1 = u.1.1) : TZ v u z' (wX σ z') := ⟨h.1, h.2.1, h.2.2.1, rfl, h.2.2.2.2.1, hz⟩
theorem bit5 : ∀ S, S < 32 → ∀ k, k < 5 → (((nI S >>> (nI k &&& nI 31)) &&& nI 1 = nI 1) = (S.testBit k = true)) ∧ (((nI S >>> (nI k &&& nI 31)) &&& nI 1 = nI 0) = (S.testBit k = false)) := by
  have h : ∀ S, S < 32 → ∀ k, k < 5 → ((nI S >>> (nI k &&& nI 31)) &&& nI 1 = nI 1 ↔ S.testBit k = true) ∧ ((nI S >>> (nI k &&& nI 31)) &&& nI 1 = nI 0 ↔ S.testBit k = false) := by decide +kernel
  exact fun S hS k hk => ⟨propext (h S hS k hk).1, propext (h S hS k hk).2⟩
theorem bit16 : ∀ S, S < 32 → ∀ k, k < 16 → ((nI S >>> (nI k &&& nI 31)) &&& nI 1) = nI (if S.testBit k = true then 1 else 0) := by decide +kernel
theorem pc16 : ∀ S, S < 32 → cnt (fun i => S.testBit i) 16 = pcN S := by decide +kernel
theorem q_size_l4 {S : Nat} (hS : S < 32) : ∀ (d n i : Nat) (M : kx_M), i + d = 16 → d < n → f_LW_size_l4 (nI S) n (nI (cnt (fun i => S.testBit i) i)) (nI i) M = some (nI (pcN S), M) := by
  intro d
  induction d with
  | zero =>
    intro n i M hi hn
    obtain ⟨n, rfl, hn⟩ := z_succ hn
    obtain rfl : i = 16 := by omega
    rw [f_LW_size_l4, pc16 S hS]
    simp (disch := first | assumption | omega) only [z_bdn, z_caln, z_gdn, z_iT, z_iF, z_le_t, z_le_f, z_lt_t, z_lt_f, z_cl, z_inb, z_at, z_lit, nI_ii1, nI_add, z_mr, z_ref0, z_refn, z_eq_f, Bool.not_true, Bool.not_false, b2i_t, b2i_f]
  | succ d ih =>
    intro n i M hi hn
    obtain ⟨n, rfl, hn⟩ := z_succ hn
    have g := ih n (i + 1) M (by omega) (by omega)
    have e := bit16 S hS i (by omega)
    rw [cnt_succ] at g
    rw [f_LW_size_l4]
    simp (disch := first | assumption | omega) only [z_bdn, z_caln, z_gdn, z_iT, z_iF, z_le_t, z_le_f, z_lt_t, z_lt_f, z_cl, z_inb, z_at, z_lit, nI_ii1, nI_add, z_mr, z_ref0, z_refn, z_eq_f, Bool.not_true, Bool.not_false, b2i_t, b2i_f, e]
    exact g
theorem q_size {S : Nat} (hS : S < 32) (M : kx_M) : f_LW_size (nI S) M = some (nI (pcN S), M) := by
  have g := q_size_l4 hS 16 FU 0 M rfl (FU_lt (by omega))
  have g : f_LW_size_l4 (nI S) FU (nI 0) (nI 0) M = some (nI (pcN S), M) := g
  rw [f_LW_size]
  simp (disch := first | assumption | omega) only [z_bdn, z_caln, z_gdn, z_iT, z_iF, z_le_t, z_le_f, z_lt_t, z_lt_f, z_cl, z_inb, z_at, z_lit, nI_ii1, nI_add, z_mr, z_ref0, z_refn, z_eq_f, Bool.not_true, Bool.not_false, b2i_t, b2i_f]
  exact g
def nxl (lf : Option Nat) : Nat := match lf with
  | none => 0
  | some c => c + 1
theorem nxl_e (lf : Option Nat) : oI lf + Int32.ofInt 1 = nI (nxl lf) := by
  cases lf with
  | none => decide
  | some c => exact (nI_succ c).symm
def pLf (B : Nat) (lf : Option Nat) (i : Nat) : Bool := B.testBit i && decide (lf ≠ some i)
theorem oI_ne {lf : Option Nat} {i : Nat} (hi : i < 100) (hl : ∀ c, lf = some c → c < 100) : (nI i = oI lf) = (lf = some i) := by
  cases lf with
  | none =>
    refine propext ⟨fun e => ?_, fun e => by cases e⟩
    have h1 : (nI i).toInt = (-nI 1).toInt := congrArg _ e
    rw [nI_toInt (by omega), show (-nI 1).toInt = -1 from by decide] at h1
    omega
  | some c =>
    have := hl c rfl
    refine propext ⟨fun e => ?_, fun e => ?_⟩
    · rw [(nI_eq (a := i) (b := c) (by omega) (by omega)).mp e]
    · cases e; rfl
theorem e_447 {x4 x5 x6 x7 x8 x9 : Int32} {r side k B : Nat} {lf : Option Nat} {K : Int32 → Int32 → Int32 → Int32 → Int32 → Int32 → Int32 → Int32 → Int32 → Int32 → Int32 → kx_M → Option (Int32 × kx_M)} (hH : HOK hA v) (hN : RN v Y u) (hr : r < v 4) (hs : side ≤ 1) (hk : k < v 3) (hB : mdA u.1 u.2.1 k r side = some B) (hlf : ∀ c, lf = some c → c < v 0 ∧ B.testBit c = true)
    (hK : ∀ M' σ', CO hA M' σ' → PZ v u σ' → Gd (K x4 x5 x6 x7 x8 x9 (nI r) (nI side) (nI k) (nI B) (nI (nxl lf)) M')) : ∀ (d n i : Nat) (M : kx_M) (σ : Sg) (z : Cl), i + d = v 0 → d < n → CO hA M σ → TZ v u z σ → ptP (pLf B lf) r d i z = ptP (pLf B lf) r (v 0) 0 u.1 → Gd (f_LW_law_l447 sc K n x4 x5 x6 x7 x8 x9 (nI r) (nI side) (nI k) (nI B) (oI lf) (nI i) M) := by
  have h0 := hH.2.1
  have h3 := hH.2.2.2.2.1
  have h4 := hH.2.2.2.2.2.1
  have hW : cW u.1 = v 0 := hN.1
  have hR : cR u.1 = v 4 := hN.2.1
  have hC : dC u.2.1 = v 3 := hN.2.2.2.1
  obtain ⟨m1, m2, m3⟩ := md_spec hB
  have hB32 : B < 32 := Nat.lt_of_lt_of_le m1 (Nat.le_trans (Nat.pow_le_pow_right (by omega) (show cW u.1 ≤ 5 by omega)) (by decide))
  intro d
  induction d with
  | zero =>
    intro n i M σ z hi hn h hZ hz
    obtain ⟨n, rfl, hn⟩ := z_succ hn
    obtain rfl : i = v 0 := by omega
    have hz : z = ptP (pLf B lf) r (v 0) 0 u.1 := hz
    have e0 := CO_v hH h (i := 0) (by omega) (by omega)
    have eX : gX σ = z := hZ.2.2.2.1
    have eY : gY σ = u.2.1 := hZ.2.2.2.2.1
    have hzR : cR z = v 4 := (congrArg (fun q => q.2.2.1) hZ.2.2.2.2.2).trans hR
    obtain ⟨M1, a1, a2⟩ := c_pull h (r := r) (side := side) (by rw [eX]; omega) hs
    have hn96 := pulU_n (cOC h) r side
    have hZ1 := TZ_X hZ (z' := pulX (gX σ) r side) (by show (gX σ).1 = u.1.1; rw [eX]; exact hZ.2.2.2.2.2)
    obtain ⟨M2, b1, b2⟩ := c_saidIn a2 (k := k) (r := r) (by show k < dC (gY σ); rw [eY]; omega) (by show r < cR (gX σ); rw [eX]; omega)
    have eX1 : gX (wX σ (pulX (gX σ) r side)) = pulX z r side := by rw [hZ1.2.2.2.1, eX]
    have eY1 : gY (wX σ (pulX (gX σ) r side)) = u.2.1 := hZ1.2.2.2.2.1
    rw [eX1, eY1] at b1
    obtain ⟨M3, c1, c2⟩ := c_back b2 hZ1.1
    have gg := hK M3 _ c2 (TZ_back hZ1)
    have en := nxl_e lf
    have z1 : (nI (pulU (gX σ) r side).2 < nI 0) = False := z_lt_f (by omega) (by omega)
    have z0 : ∀ c, (nI 0 ≤ nI c) ∨ True := fun _ => Or.inr trivial
    have htm : tms (pulX z r side) u.2.1 k r ≤ 8 := by
      have := tms_le (y := u.2.1) (cOC a2) k r
      rw [eX1] at this
      exact this
    rw [f_LW_law_l447]
    cases hl : lf with
    | none =>
      have st := md_stay hB
      have ep : ptP (fun i => B.testBit i) r (cW u.1) 0 u.1 = z := by
        rw [hz, hW, hl]
        exact ptP_congr _ _ _ (fun j _ _ => by
          unfold pLf
          rw [decide_eq_true (show (none : Option Nat) ≠ some j from fun e => by cases e), Bool.and_true])
      rw [ep] at st
      have z2 : (nI (tms (pulX z r side) u.2.1 k r) ≤ nI 0) = False := z_le_f (by omega) (by omega)
      have z3 : (nI 0 ≤ oI (none : Option Nat)) = False := by decide
      rw [hl] at gg en
      simp (disch := first | assumption | omega) only [z_bdn, z_caln, z_gdn, z_iT, z_iF, z_le_t, z_le_f, z_lt_t, z_lt_f, z_cl, z_inb, z_at, z_lit, nI_ii1, nI_add, z_mr, z_ref0, z_refn, z_eq_f, Bool.not_true, Bool.not_false, b2i_t, b2i_f, e0, a1, z1, b1, z2, z3, f_LW_law_l529, c1, en]
      exact gg
    | some c =>
      obtain ⟨hc1, hc2⟩ := hlf c hl
      have st := md_less (y := u.2.1) (by omega) hB hc2
      have ep : ptP (fun i => B.testBit i && decide (i ≠ c)) r (cW u.1) 0 u.1 = z := by
        rw [hz, hW, hl]
        refine ptP_congr _ _ _ (fun j _ _ => ?_)
        unfold pLf
        by_cases hjc : j = c
        · rw [hjc, decide_eq_false (fun h => h rfl), decide_eq_false (fun h => h rfl)]
        · rw [decide_eq_true hjc, decide_eq_true (show some c ≠ some j from fun e => hjc (Option.some.inj e).symm)]
      rw [ep] at st
      have z2 : (nI (tms (pulX z r side) u.2.1 k r) ≤ nI 0) = True := z_le_t (by omega) (by omega)
      have z3 : (nI 0 ≤ oI (some c)) = True := z_le_t (Nat.zero_le _) (by omega)
      rw [hl] at gg en
      simp (disch := first | assumption | omega) only [z_bdn, z_caln, z_gdn, z_iT, z_iF, z_le_t, z_le_f, z_lt_t, z_lt_f, z_cl, z_inb, z_at, z_lit, nI_ii1, nI_add, z_mr, z_ref0, z_refn, z_eq_f, Bool.not_true, Bool.not_false, b2i_t, b2i_f, e0, a1, z1, b1, z2, z3, f_LW_law_l529, c1, en]
      exact gg
  | succ d ih =>
    intro n i M σ z hi hn h hZ hz
    obtain ⟨n, rfl, hn⟩ := z_succ hn
    have e0 := CO_v hH h (i := 0) (by omega) (by omega)
    have eX : gX σ = z := hZ.2.2.2.1
    have hzR : cR z = v 4 := (congrArg (fun q => q.2.2.1) hZ.2.2.2.2.2).trans hR
    have hzW : cW z = v 0 := (congrArg (fun q => q.1) hZ.2.2.2.2.2).trans hW
    have zb := (bit5 B hB32 i (by omega)).1
    have hz : ptP (pLf B lf) r d (i + 1) (if pLf B lf i = true then patX z (8 * r + i) else z) = ptP (pLf B lf) r (v 0) 0 u.1 := hz
    have zl := oI_ne (lf := lf) (i := i) (by omega) (fun c hc => by have := (hlf c hc).1; omega)
    rw [f_LW_law_l447]
    by_cases hb : B.testBit i = true
    · have zb' : ((nI B >>> (nI i &&& nI 31)) &&& nI 1 = nI 1) = True := by rw [zb]; exact eq_true hb
      by_cases hli : lf = some i
      · have ep : pLf B lf i = false := by unfold pLf; rw [decide_eq_false (fun h => h hli), Bool.and_false]
        rw [ep, if_neg (by decide)] at hz
        have gg := ih n (i + 1) M σ z (by omega) (by omega) h hZ hz
        have zl' : (nI i = oI lf) = True := by rw [zl]; exact eq_true hli
        simp (disch := first | assumption | omega) only [z_bdn, z_caln, z_gdn, z_iT, z_iF, z_le_t, z_le_f, z_lt_t, z_lt_f, z_cl, z_inb, z_at, z_lit, nI_ii1, nI_add, z_mr, z_ref0, z_refn, z_eq_f, Bool.not_true, Bool.not_false, b2i_t, b2i_f, e0, zb', zl']
        exact gg
      · have ep : pLf B lf i = true := by unfold pLf; rw [hb, decide_eq_true hli]; rfl
        rw [ep, if_pos rfl] at hz
        obtain ⟨M1, a1, a2⟩ := c_darn h (r := r) (i := i) (by rw [eX]; omega) (by rw [eX]; omega)
        have h99 := ((cOC h).2.2.2.2.2 r i (by rw [eX]; omega) (by rw [eX]; omega)).2.1
        have hZ1 := TZ_X hZ (z' := patX (gX σ) (8 * r + i)) (by show (gX σ).1 = u.1.1; rw [eX]; exact hZ.2.2.2.2.2)
        have gg := ih n (i + 1) M1 _ (patX z (8 * r + i)) (by omega) (by omega) a2 (by rw [← eX]; exact hZ1) hz
        have zl' : (nI i = oI lf) = False := by rw [zl]; exact eq_false hli
        have z1 : (nI 0 ≤ nI (cN (gX σ) (8 * r + i))) = True := z_le_t (Nat.zero_le _) (by omega)
        simp (disch := first | assumption | omega) only [z_bdn, z_caln, z_gdn, z_iT, z_iF, z_le_t, z_le_f, z_lt_t, z_lt_f, z_cl, z_inb, z_at, z_lit, nI_ii1, nI_add, z_mr, z_ref0, z_refn, z_eq_f, Bool.not_true, Bool.not_false, b2i_t, b2i_f, e0, zb', zl', a1, z1]
        exact gg
    · have ep : pLf B lf i = false := by
        unfold pLf
        cases hbb : B.testBit i with
        | true => exact absurd hbb hb
        | false => rfl
      rw [ep, if_neg (by decide)] at hz
      have gg := ih n (i + 1) M σ z (by omega) (by omega) h hZ hz
      have zb' : ((nI B >>> (nI i &&& nI 31)) &&& nI 1 = nI 1) = False := by rw [zb]; exact eq_false hb
      simp (disch := first | assumption | omega) only [z_bdn, z_caln, z_gdn, z_iT, z_iF, z_le_t, z_le_f, z_lt_t, z_lt_f, z_cl, z_inb, z_at, z_lit, nI_ii1, nI_add, z_mr, z_ref0, z_refn, z_eq_f, Bool.not_true, Bool.not_false, b2i_t, b2i_f, e0, zb']
      exact gg
theorem e_434 {x4 x5 x6 x7 x8 x9 : Int32} {r side k B : Nat} {lf : Option Nat} {K : Int32 → Int32 → Int32 → Int32 → Int32 → Int32 → Int32 → Int32 → Int32 → Int32 → Int32 → kx_M → Option (Int32 × kx_M)} (hH : HOK hA v) (hN : RN v Y u) (hr : r < v 4) (hs : side ≤ 1) (hk : k < v 3) (hB : mdA u.1 u.2.1 k r side = some B) (hlf : ∀ c, lf = some c → c < v 0 ∧ B.testBit c = true)
    (hK : ∀ M' σ', CO hA M' σ' → PZ v u σ' → Gd (K x4 x5 x6 x7 x8 x9 (nI r) (nI side) (nI k) (nI B) (nI (nxl lf)) M')) (h : CO hA M σ) (hZ : PZ v u σ) : Gd (f_LW_law_l434 sc K x4 x5 x6 x7 x8 x9 (nI r) (nI side) (nI k) (nI B) (oI lf) M) := by
  obtain ⟨M1, a1, a2⟩ := c_mark h hZ.2.1
  have gg := e_447 (sc := sc) hH hN hr hs hk hB hlf hK (v 0) FU 0 M1 _ u.1 (by omega) (FU_lt (by have := hH.2.1; omega)) a2 (TZ_mark hZ) rfl
  rw [f_LW_law_l434]
  simp (disch := first | assumption | omega) only [z_bdn, z_caln, z_gdn, z_iT, z_iF, z_le_t, z_le_f, z_lt_t, z_lt_f, z_cl, z_inb, z_at, z_lit, nI_ii1, nI_add, z_mr, z_ref0, z_refn, z_eq_f, Bool.not_true, Bool.not_false, b2i_t, b2i_f, a1]
  exact gg
theorem e_408 {x4 x5 x6 x7 x8 x9 : Int32} {r side k B : Nat} {K : Int32 → Int32 → Int32 → Int32 → Int32 → Int32 → Int32 → Int32 → Int32 → kx_M → Option (Int32 × kx_M)} (hH : HOK hA v) (hN : RN v Y u) (hr : r < v 4) (hs : side ≤ 1) (hk : k < v 3) (hB : mdA u.1 u.2.1 k r side = some B)
    (hK : ∀ M' σ', CO hA M' σ' → PZ v u σ' → Gd (K x4 x5 x6 x7 x8 x9 (nI r) (nI side) (nI (k + 1)) M')) : ∀ (d n c : Nat) (M : kx_M) (σ : Sg), c + d = v 0 → d < n → CO hA M σ → PZ v u σ → Gd (f_LW_law_l408 sc K n x4 x5 x6 x7 x8 x9 (nI r) (nI side) (nI k) (nI B) (nI c) M) := by
  have h0 := hH.2.1
  have h3 := hH.2.2.2.2.1
  have h4 := hH.2.2.2.2.2.1
  have hW : cW u.1 = v 0 := hN.1
  have hR : cR u.1 = v 4 := hN.2.1
  have hC : dC u.2.1 = v 3 := hN.2.2.2.1
  obtain ⟨m1, m2, m3⟩ := md_spec hB
  have hB32 : B < 32 := Nat.lt_of_lt_of_le m1 (Nat.le_trans (Nat.pow_le_pow_right (by omega) (show cW u.1 ≤ 5 by omega)) (by decide))
  intro d
  induction d with
  | zero =>
    intro n c M σ hc hn h hZ
    obtain ⟨n, rfl, hn⟩ := z_succ hn
    obtain rfl : c = v 0 := by omega
    have e0 := CO_v hH h (i := 0) (by omega) (by omega)
    obtain ⟨M1, a1, a2⟩ := c_mend h (k := k) (r := r) (side := side) (by rw [PZ_Y hZ]; omega) (by rw [PZ_X hZ]; omega) hs
    rw [PZ_X hZ, PZ_Y hZ, hB] at a1
    have a1 : f_KT_mend (nI k) (nI r) (nI side) M = some (nI (pcN B), M1) := a1
    have gg := hK M1 σ a2 hZ
    have qs := q_size hB32 M
    rw [f_LW_law_l408]
    simp (disch := first | assumption | omega) only [z_bdn, z_caln, z_gdn, z_iT, z_iF, z_le_t, z_le_f, z_lt_t, z_lt_f, z_cl, z_inb, z_at, z_lit, nI_ii1, nI_add, z_mr, z_ref0, z_refn, z_eq_f, Bool.not_true, Bool.not_false, b2i_t, b2i_f, e0, qs, a1]
    exact gg
  | succ d ih =>
    intro n c M σ hc hn h hZ
    obtain ⟨n, rfl, hn⟩ := z_succ hn
    have e0 := CO_v hH h (i := 0) (by omega) (by omega)
    have zb := (bit5 B hB32 c (by omega)).2
    rw [f_LW_law_l408]
    cases hb : B.testBit c with
    | false =>
      have gg := ih n (c + 1) M σ (by omega) (by omega) h hZ
      have zb' : ((nI B >>> (nI c &&& nI 31)) &&& nI 1 = nI 0) = True := by rw [zb]; exact eq_true hb
      simp (disch := first | assumption | omega) only [z_bdn, z_caln, z_gdn, z_iT, z_iF, z_le_t, z_le_f, z_lt_t, z_lt_f, z_cl, z_inb, z_at, z_lit, nI_ii1, nI_add, z_mr, z_ref0, z_refn, z_eq_f, Bool.not_true, Bool.not_false, b2i_t, b2i_f, e0, zb']
      exact gg
    | true =>
      have gg := e_434 (sc := sc) (x4 := x4) (x5 := x5) (x6 := x6) (x7 := x7) (x8 := x8) (x9 := x9) (lf := some c) (K := f_LW_law_l408 sc K n) hH hN hr hs hk hB (fun c' hc' => by cases hc'; exact ⟨by omega, hb⟩) (fun M' σ' g1 g2 => ih n (c + 1) M' σ' (by omega) (by omega) g1 g2) h hZ
      have gg : Gd (f_LW_law_l434 sc (f_LW_law_l408 sc K n) x4 x5 x6 x7 x8 x9 (nI r) (nI side) (nI k) (nI B) (nI c) M) := gg
      have zb' : ((nI B >>> (nI c &&& nI 31)) &&& nI 1 = nI 0) = False := by rw [zb, hb]; exact eq_false (by decide)
      simp (disch := first | assumption | omega) only [z_bdn, z_caln, z_gdn, z_iT, z_iF, z_le_t, z_le_f, z_lt_t, z_lt_f, z_cl, z_inb, z_at, z_lit, nI_ii1, nI_add, z_mr, z_ref0, z_refn, z_eq_f, Bool.not_true, Bool.not_false, b2i_t, b2i_f, e0, zb']
      exact gg
theorem e_377 {x4 x5 x6 x7 x8 x9 : Int32} {r side : Nat} {K : Int32 → Int32 → Int32 → Int32 → Int32 → Int32 → Int32 → Int32 → kx_M → Option (Int32 × kx_M)} (hH : HOK hA v) (hN : RN v Y u) (hr : r < v 4) (hs : side ≤ 1)
    (hK : ∀ M' σ', CO hA M' σ' → PZ v u σ' → Gd (K x4 x5 x6 x7 x8 x9 (nI r) (nI (side + 1)) M')) : ∀ (d n k : Nat) (M : kx_M) (σ : Sg), k + d = v 3 → d < n → CO hA M σ → PZ v u σ → Gd (f_LW_law_l377 sc K n x4 x5 x6 x7 x8 x9 (nI r) (nI side) (nI k) M) := by
  have h0 := hH.2.1
  have h3 := hH.2.2.2.2.1
  have h4 := hH.2.2.2.2.2.1
  have hW : cW u.1 = v 0 := hN.1
  have hR : cR u.1 = v 4 := hN.2.1
  have hC : dC u.2.1 = v 3 := hN.2.2.2.1
  intro d
  induction d with
  | zero =>
    intro n k M σ hk hn h hZ
    obtain ⟨n, rfl, hn⟩ := z_succ hn
    have e3 := CO_v hH h (i := 3) (by omega) (by omega)
    have gg := hK M σ h hZ
    rw [f_LW_law_l377]
    simp (disch := first | assumption | omega) only [z_bdn, z_caln, z_gdn, z_iT, z_iF, z_le_t, z_le_f, z_lt_t, z_lt_f, z_cl, z_inb, z_at, z_lit, nI_ii1, nI_add, z_mr, z_ref0, z_refn, z_eq_f, Bool.not_true, Bool.not_false, b2i_t, b2i_f, e3]
    exact gg
  | succ d ih =>
    intro n k M σ hk hn h hZ
    obtain ⟨n, rfl, hn⟩ := z_succ hn
    have e3 := CO_v hH h (i := 3) (by omega) (by omega)
    obtain ⟨M1, a1, a2⟩ := c_mendSet h (k := k) (r := r) (side := side) (by rw [PZ_Y hZ]; omega) (by rw [PZ_X hZ]; omega) hs
    rw [PZ_X hZ, PZ_Y hZ] at a1
    rw [f_LW_law_l377]
    cases hB : mdA u.1 u.2.1 k r side with
    | none =>
      rw [hB] at a1
      have gg := ih n (k + 1) M1 σ (by omega) (by omega) a2 hZ
      have z1 : (nI 0 ≤ oI (none : Option Nat)) = False := by decide
      simp (disch := first | assumption | omega) only [z_bdn, z_caln, z_gdn, z_iT, z_iF, z_le_t, z_le_f, z_lt_t, z_lt_f, z_cl, z_inb, z_at, z_lit, nI_ii1, nI_add, z_mr, z_ref0, z_refn, z_eq_f, Bool.not_true, Bool.not_false, b2i_t, b2i_f, e3, a1, z1]
      exact gg
    | some B =>
      rw [hB] at a1
      have hB32 : B < 32 := Nat.lt_of_lt_of_le (md_spec hB).1 (Nat.le_trans (Nat.pow_le_pow_right (by omega) (show cW u.1 ≤ 5 by omega)) (by decide))
      have a1 : f_KT_mendSet (nI k) (nI r) (nI side) M = some (nI B, M1) := a1
      have z1 : (nI 0 ≤ nI B) = True := z_le_t (Nat.zero_le _) (by omega)
      have e1 := CO_v hH a2 (i := 0) (by omega) (by omega)
      have gg := e_434 (sc := sc) (x4 := x4) (x5 := x5) (x6 := x6) (x7 := x7) (x8 := x8) (x9 := x9) (lf := none) (K := f_LW_law_l408 sc (f_LW_law_l377 sc K n) 999999) hH hN hr hs (by omega) hB (fun c hc => by cases hc) (fun M' σ' g1 g2 => e_408 (sc := sc) hH hN hr hs (by omega) hB (fun M'' σ'' i1 i2 => ih n (k + 1) M'' σ'' (by omega) (by omega) i1 i2) (v 0) 999999 0 M' σ' (by omega) (by omega) g1 g2) a2 hZ
      have g408 : Gd (f_LW_law_l408 sc (f_LW_law_l377 sc K n) FU x4 x5 x6 x7 x8 x9 (nI r) (nI side) (nI k) (nI B) (-nI 1) M1) := by
        have eF : FU = 999999 + 1 := rfl
        rw [eF, f_LW_law_l408]
        have z2 : (nI (v 0) ≤ -nI 1) = False := eq_false (fun hh => by
          have h1 := Int32.le_iff_toInt_le.mp hh
          rw [nI_toInt (by omega), show (-nI 1).toInt = -1 from by decide] at h1
          omega)
        have z3 : (-nI 1 < nI 0) = True := by decide
        have gg : Gd (f_LW_law_l434 sc (f_LW_law_l408 sc (f_LW_law_l377 sc K n) 999999) x4 x5 x6 x7 x8 x9 (nI r) (nI side) (nI k) (nI B) (-nI 1) M1) := gg
        simp (disch := first | assumption | omega) only [z_bdn, z_caln, z_gdn, z_iT, z_iF, z_le_t, z_le_f, z_lt_t, z_lt_f, z_cl, z_inb, z_at, z_lit, nI_ii1, nI_add, z_mr, z_ref0, z_refn, z_eq_f, Bool.not_true, Bool.not_false, b2i_t, b2i_f, e1, z2, z3]
        exact gg
      simp (disch := first | assumption | omega) only [z_bdn, z_caln, z_gdn, z_iT, z_iF, z_le_t, z_le_f, z_lt_t, z_lt_f, z_cl, z_inb, z_at, z_lit, nI_ii1, nI_add, z_mr, z_ref0, z_refn, z_eq_f, Bool.not_true, Bool.not_false, b2i_t, b2i_f, e3, a1, z1]
      exact g408
end
