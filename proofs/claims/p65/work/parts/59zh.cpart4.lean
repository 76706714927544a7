/-- so far a row is laid -/
def RwL (M : kx_M) (c : Nat) (x : Cl) (k : Nat) (kd : Nat → Nat) : Prop := ∀ j, j < k → mA M (c + 2) (8 * cR x + j) = nI (kd j) ∧ mA M (c + 3) (8 * cR x + j) = nI 0 ∧ mA M (c + 4) (8 * cR x + j) = nI 0 ∧ mA M (c + 5) (8 * cR x + j) = nI 0
section
variable {M M' M1 : kx_M} {T : Nat → Nat} {n u : Nat} {t : Tok} {x : Cl} {y : De} {a b : Bool} {s : Ps}
theorem CB_C {x' : Cl} (hu : 27 ≤ u) (h : CB M u T n x y a b) (hF : Fr (inC (u + 9)) M M') (hC : CC M' (u + 9) x') : CB M' u T n x' y a b := by
  obtain ⟨h1, h2, h3, h4, h5⟩ := h
  have e4 := (hF 4 (fun e => by have := e.1; omega)).1
  exact ⟨CB_Tx hu h1 (hF.mono (fun id e => by have := e.1; have := e.2; exact Or.inr (by omega))), hC, PD_fr hF (fun id g1 g2 e => by have := e.1; omega) h3, (e4 1).trans h4, (e4 2).trans h5⟩
theorem CWf (hF : Fr (inC (u + 9)) M M') : Fr (fun id => id = 4 ∨ (u + 1 ≤ id ∧ id ≤ u + 14)) M M' := hF.mono (fun id e => Or.inr (by have := e.1; have := e.2; omega))
theorem q_lay1 {c i k : Nat} {kd : Nat → Nat} (hO : OkC x) (hR : cR x < 12) (hC : CC M c x) (hi : i < 8) (hL : RwL M c x i kd) : ∃ M', f_Cloth_lay c (nI i) (nI k) M = some ((), M') ∧ CC M' c x ∧ RwL M' c x (i + 1) (updN kd i k) ∧ Fr (inC c) M M' := by
  have e7 := hC.2.2.1
  have eA : f_Cloth_at (nI (cR x)) (nI i) M = some (nI (8 * cR x + i), M) := z_at _ _ _
  obtain ⟨M', hM⟩ : ∃ M', M' = sA (sA (sA (sA M (c + 2) (upd (mA M (c + 2)) (8 * cR x + i) (nI k))) (c + 3) (upd (mA M (c + 3)) (8 * cR x + i) (nI 0))) (c + 4) (upd (mA M (c + 4)) (8 * cR x + i) (nI 0))) (c + 5) (upd (mA M (c + 5)) (8 * cR x + i) (nI 0)) := ⟨_, rfl⟩
  have m2 : mA M' (c + 2) = upd (mA M (c + 2)) (8 * cR x + i) (nI k) := by rw [hM, mA_sA, if_neg (by omega), mA_sA, if_neg (by omega), mA_sA, if_neg (by omega), mA_sA, if_pos rfl]
  have m3 : mA M' (c + 3) = upd (mA M (c + 3)) (8 * cR x + i) (nI 0) := by rw [hM, mA_sA, if_neg (by omega), mA_sA, if_neg (by omega), mA_sA, if_pos rfl]
  have m4 : mA M' (c + 4) = upd (mA M (c + 4)) (8 * cR x + i) (nI 0) := by rw [hM, mA_sA, if_neg (by omega), mA_sA, if_pos rfl]
  have m5 : mA M' (c + 5) = upd (mA M (c + 5)) (8 * cR x + i) (nI 0) := by rw [hM, mA_sA, if_pos rfl]
  have m1 : mA M' (c + 1) = mA M (c + 1) := by rw [hM, mA_sA, if_neg (by omega), mA_sA, if_neg (by omega), mA_sA, if_neg (by omega), mA_sA, if_neg (by omega)]
  have mi : ∀ j k, mI M' j k = mI M j k := fun j k => by rw [hM]; rfl
  refine ⟨M', ?_, ?_, ?_, ?_⟩
  · have q3 : ∀ f, mA (sA M (c + 2) f) (c + 3) = mA M (c + 3) := fun f => by rw [mA_sA, if_neg (by omega)]
    have q4 : ∀ f g, mA (sA (sA M (c + 2) f) (c + 3) g) (c + 4) = mA M (c + 4) := fun f g => by rw [mA_sA, if_neg (by omega), mA_sA, if_neg (by omega)]
    have q5 : ∀ f g h, mA (sA (sA (sA M (c + 2) f) (c + 3) g) (c + 4) h) (c + 5) = mA M (c + 5) := fun f g h => by rw [mA_sA, if_neg (by omega), mA_sA, if_neg (by omega), mA_sA, if_neg (by omega)]
    rw [f_Cloth_lay, e7, hM]
    simp (disch := first | assumption | omega) only [z_bdn, z_caln, z_gdn, z_iT, z_iF, z_le_t, z_le_f, z_lt_t, z_lt_f, z_cl, z_inb, z_at, z_lit, nI_ii1, nI_add, z_mr, z_ref0, z_refn, z_eq_f, Bool.not_true, Bool.not_false, b2i_t, b2i_f, eA, q3, q4, q5]
  · obtain ⟨h1, h2, h3, h4, h5, h6⟩ := hC
    refine ⟨(mi _ _).trans h1, (mi _ _).trans h2, (mi _ _).trans h3, (mi _ _).trans h4, fun r hr => by rw [m1]; exact h5 r hr, fun r j hr hj => ?_⟩
    have w2 := hO.1.2
    rw [m2, m3, m4, m5, upd_at, upd_at, upd_at, upd_at, if_neg (by omega), if_neg (by omega), if_neg (by omega), if_neg (by omega)]
    exact h6 r j hr hj
  · intro j hj
    rw [m2, m3, m4, m5, upd_at, upd_at, upd_at, upd_at]
    unfold updN
    by_cases he : j = i
    · rw [if_pos (by omega), if_pos (by omega), if_pos (by omega), if_pos (by omega), if_pos (by omega)]; exact ⟨rfl, rfl, rfl, rfl⟩
    · rw [if_neg (by omega), if_neg (by omega), if_neg (by omega), if_neg (by omega), if_neg (by omega)]; exact hL j (by omega)
  · rw [hM]
    exact Fr.tr (Fr.sA ⟨by omega, by omega⟩) (Fr.tr (Fr.sA ⟨by omega, by omega⟩) (Fr.tr (Fr.sA ⟨by omega, by omega⟩) (Fr.sA ⟨by omega, by omega⟩)))
theorem filN_s {kd : Nat → Nat} {c i k : Nat} : updN (filN kd c i k) (c + i) k = filN kd c (i + 1) k := by
  funext p
  unfold updN filN
  by_cases h1 : p = c + i
  · rw [if_pos h1, if_pos (by omega)]
  · rw [if_neg h1]
    by_cases h2 : c ≤ p ∧ p < c + i
    · rw [if_pos h2, if_pos (by omega)]
    · rw [if_neg h2, if_neg (by omega)]
theorem filN_0 {kd : Nat → Nat} {c k : Nat} : filN kd c 0 k = kd := by
  funext p
  unfold filN
  rw [if_neg (by omega)]
theorem q_run_l109 {c p k v : Nat} {kd : Nat → Nat} (hO : OkC x) (hR : cR x < 12) (hp : p + v ≤ 8) : ∀ (m f i : Nat) (M : kx_M), i + m = v → m < f → CC M c x → RwL M c x (p + i) (filN kd p i k) → ∃ M', f_TreatyText_readRun_l109 c (nI p) f (nI k) (nI v) (nI i) M = some (nI (p + v), M') ∧ CC M' c x ∧ RwL M' c x (p + v) (filN kd p v k) ∧ Fr (inC c) M M' := by
  intro m
  induction m with
  | zero =>
    intro f i M hi hf hC hL
    obtain ⟨f, rfl, hf⟩ := z_succ hf
    obtain rfl : i = v := by omega
    refine ⟨M, ?_, hC, hL, Fr.rf⟩
    rw [f_TreatyText_readRun_l109]
    simp (disch := first | assumption | omega) only [z_bdn, z_caln, z_gdn, z_iT, z_iF, z_le_t, z_le_f, z_lt_t, z_lt_f, z_cl, z_inb, z_at, z_lit, nI_ii1, nI_add, z_mr, z_ref0, z_refn, z_eq_f, Bool.not_true, Bool.not_false, b2i_t, b2i_f]
  | succ m ih =>
    intro f i M hi hf hC hL
    obtain ⟨f, rfl, hf⟩ := z_succ hf
    obtain ⟨M1, a1, a2, a3, a4⟩ := q_lay1 (i := p + i) (k := k) hO hR hC (by omega) hL
    rw [filN_s] at a3
    obtain ⟨M', b1, b2, b3, b4⟩ := ih f (i + 1) M1 (by omega) (by omega) a2 a3
    refine ⟨M', ?_, b2, b3, a4.tr b4⟩
    rw [f_TreatyText_readRun_l109]
    simp (disch := first | assumption | omega) only [z_bdn, z_caln, z_gdn, z_iT, z_iF, z_le_t, z_le_f, z_lt_t, z_lt_f, z_cl, z_inb, z_at, z_lit, nI_ii1, nI_add, z_mr, z_ref0, z_refn, z_eq_f, Bool.not_true, Bool.not_false, b2i_t, b2i_f, a1]
    exact b1
theorem RwL_R {c k : Nat} {kd : Nat → Nat} (hF : FrR 5 M M') (hc : 6 ≤ c) (h : RwL M c x k kd) : RwL M' c x k kd := fun j hj => by
  rw [(hF.1 (c + 2) (by omega)).2.2.1, (hF.1 (c + 3) (by omega)).2.2.1, (hF.1 (c + 4) (by omega)).2.2.1, (hF.1 (c + 5) (by omega)).2.2.1]
  exact h j hj
theorem q_row_l60 {q p1 : Nat} (hu : 27 ≤ u) (hO : OkC x) (hR : cR x < 12) : ∀ (m f c i : Nat) (kd : Nat → Nat) (t : Tok) (M : kx_M), i + m = 10 → m < f → i ≤ c → c ≤ cW x → CB M u T n x y a b → RwL M (u + 9) x c kd → TkC M 5 t → TkB t → kA t ≤ n → match pRun T n (cW x) m c kd t with
    | .ok r => ∃ M', f_TreatyText_readRow_l60 p1 f (u + 9) (nI q) (nI c) (nI i) M = some (nI 1, M') ∧ CB M' u T n (knX x q r.1) y a b ∧ TkC M' 5 r.2 ∧ TkB r.2 ∧ Fr (inPc u) M M'
    | .error e => ∃ M', f_TreatyText_readRow_l60 p1 f (u + 9) (nI q) (nI c) (nI i) M = some (nI 0, M') ∧ ErC 5 M' e ∧ Fr (inPc u) M M' := by
  have b0 : b01 (nI 0) = true := by decide
  have w2 := hO.1.2
  intro m
  induction m with
  | zero => intro f c i kd t M hi hf hic hc; omega
  | succ m ih =>
    intro f c i kd t M hi hf hic hcW hB hL hT hTB ha
    obtain ⟨f, rfl, hf⟩ := z_succ hf
    obtain ⟨k1, k2⟩ := q_atKind hT hTB
    have eW : mI M (u + 9) 5 = nI (cW x) := hB.2.1.1
    have eR : mI M (u + 9) 7 = nI (cR x) := hB.2.1.2.2.1
    unfold pRun
    cases hk : kdK t with
    | none =>
      rw [hk] at k1
      have k1 : f_Reader_atKind 5 M = some (nI 0, M) := k1
      by_cases h0 : c < cW x
      · simp only [if_pos h0]
        obtain ⟨Mf, f1, f2, f3⟩ := q_failP (u := u) (k := 2) hT hTB
        refine ⟨Mf, ?_, f2, f3⟩
        rw [f_TreatyText_readRow_l60]
        simp (disch := first | assumption | omega) only [z_bdn, z_caln, z_gdn, z_iT, z_iF, z_le_t, z_le_f, z_lt_t, z_lt_f, z_cl, z_inb, z_at, z_lit, nI_ii1, nI_add, z_mr, z_ref0, z_refn, z_eq_f, Bool.not_true, Bool.not_false, b2i_t, b2i_f, eW, k1, f_TreatyText_readRow_l102, f1, b0]
      · simp only [if_neg h0]
        obtain rfl : c = cW x := by omega
        have hC := CC_kn (q := q) hO hB.2.1 hL
        have hF : Fr (inC (u + 9)) M (sI (sA M (u + 9 + 1) (upd (mA M (u + 9 + 1)) (cR x) (nI q))) (u + 9) 7 (nI (cR x + 1))) := Fr.tr (Fr.sA ⟨by omega, by omega⟩) (Fr.sI ⟨by omega, by omega⟩)
        refine ⟨_, ?_, CB_C hu hB hF hC, TkC_fr hT (CWf hF) hu, hTB, Pc_W (CWf hF)⟩
        have s7 : ∀ g, mI (sA M (u + 9 + 1) g) (u + 9) 7 = nI (cR x) := fun _ => eR
        rw [f_TreatyText_readRow_l60]
        simp (disch := first | assumption | omega) only [z_bdn, z_caln, z_gdn, z_iT, z_iF, z_le_t, z_le_f, z_lt_t, z_lt_f, z_cl, z_inb, z_at, z_lit, nI_ii1, nI_add, z_mr, z_ref0, z_refn, z_eq_f, Bool.not_true, Bool.not_false, b2i_t, b2i_f, eW, k1, f_TreatyText_readRow_l102, f_Cloth_closeRow, eR, s7]
    | some v =>
      rw [hk] at k1
      have k1 : f_Reader_atKind 5 M = some (nI 1, M) := k1
      have k2 := k2 v hk
      by_cases h0 : cW x ≤ c
      · simp only [if_pos h0]
        obtain ⟨Mf, f1, f2, f3⟩ := q_failP (u := u) (k := 6) hT hTB
        refine ⟨Mf, ?_, f2, f3⟩
        rw [f_TreatyText_readRow_l60]
        simp (disch := first | assumption | omega) only [z_bdn, z_caln, z_gdn, z_iT, z_iF, z_le_t, z_le_f, z_lt_t, z_lt_f, z_cl, z_inb, z_at, z_lit, nI_ii1, nI_add, z_mr, z_ref0, z_refn, z_eq_f, Bool.not_true, Bool.not_false, b2i_t, b2i_f, eW, k1, f_TreatyText_readRun, f1, eq_self]
      · simp only [if_neg h0]
        obtain ⟨M1, a1, a2, a3, a4, a5⟩ := q_nx hu hB hT ha
        have hL1 := RwL_R a5 (by omega) hL
        have eW1 : mI M1 (u + 9) 5 = nI (cW x) := a4.2.1.1
        have es := a2.2.2.1
        have hs4 := a3.1
        -- behind the run, from M2 with the token t2 on
        have go : ∀ (w : Nat) (t2 : Tok) (M2 : kx_M), 1 ≤ w → c + w ≤ cW x → CB M2 u T n x y a b → RwL M2 (u + 9) x c kd → TkC M2 5 t2 → TkB t2 → kA t2 ≤ n → Fr (inPc u) M M2 → f_TreatyText_readRun (u + 9) (nI c) M = f_TreatyText_readRun_l109 (u + 9) (nI c) FU (nI v) (nI w) (nI 0) M2 → match pRun T n (cW x) m (c + w) (filN kd c w v) t2 with
            | .ok r => ∃ M', f_TreatyText_readRow_l60 p1 (f + 1) (u + 9) (nI q) (nI c) (nI i) M = some (nI 1, M') ∧ CB M' u T n (knX x q r.1) y a b ∧ TkC M' 5 r.2 ∧ TkB r.2 ∧ Fr (inPc u) M M'
            | .error e => ∃ M', f_TreatyText_readRow_l60 p1 (f + 1) (u + 9) (nI q) (nI c) (nI i) M = some (nI 0, M') ∧ ErC 5 M' e ∧ Fr (inPc u) M M' := by
          intro w t2 M2 hw hcw hB2 hL2 hT2 hTB2 ha2 hF2 hrun
          obtain ⟨M3, d1, d2, d3, d4⟩ := q_run_l109 (k := v) (v := w) (kd := kd) (p := c) hO hR (by omega) w FU 0 M2 (by omega) (FU_lt (by omega)) hB2.2.1 (by rw [filN_0]; exact hL2)
          have g := ih f (c + w) (i + 1) (filN kd c w v) t2 M3 (by omega) (by omega) (by omega) hcw (CB_C hu hB2 d4 d2) d3 (TkC_fr hT2 (CWf d4) hu) hTB2 ha2
          have zn : (nI (c + w) = -nI 1) = False := z_nneg (by omega)
          have toR : f_TreatyText_readRow_l60 p1 (f + 1) (u + 9) (nI q) (nI c) (nI i) M = f_TreatyText_readRow_l60 p1 f (u + 9) (nI q) (nI (c + w)) (nI (i + 1)) M3 := by
            rw [f_TreatyText_readRow_l60]
            simp (disch := first | assumption | omega) only [z_bdn, z_caln, z_gdn, z_iT, z_iF, z_le_t, z_le_f, z_lt_t, z_lt_f, z_cl, z_inb, z_at, z_lit, nI_ii1, nI_add, z_mr, z_ref0, z_refn, z_eq_f, Bool.not_true, Bool.not_false, b2i_t, b2i_f, eW, k1, hrun, d1, zn]
          have hFF := hF2.tr (Pc_W (CWf d4))
          rw [toR]
          cases hr : pRun T n (cW x) m (c + w) (filN kd c w v) t2 with
          | ok r =>
            rw [hr] at g
            obtain ⟨M', g1, g2, g3, g4, g5⟩ := g
            exact ⟨M', g1, g2, g3, g4, hFF.tr g5⟩
          | error e =>
            rw [hr] at g
            obtain ⟨M', g1, g2, g3⟩ := g
            exact ⟨M', g1, g2, hFF.tr g3⟩
        by_cases h3 : kS (nx T n t) = 3
        · simp only [if_pos h3]
          have z3 : (nI (kS (nx T n t)) = nI 3) = True := eq_true (by rw [h3])
          have hn := q_atNumber (lo := 1) (hi := 8) a2 a3 (by omega) (by omega)
          cases hp : pNum 1 8 (nx T n t) with
          | error er =>
            rw [hp] at hn
            obtain ⟨M2, b1, b2, b3⟩ := hn
            refine ⟨M2, ?_, b2, (Pc_R a5).tr (Pc_R b3)⟩
            rw [f_TreatyText_readRow_l60]
            simp (disch := first | assumption | omega) only [z_bdn, z_caln, z_gdn, z_iT, z_iF, z_le_t, z_le_f, z_lt_t, z_lt_f, z_cl, z_inb, z_at, z_lit, nI_ii1, nI_add, z_mr, z_ref0, z_refn, z_eq_f, Bool.not_true, Bool.not_false, b2i_t, b2i_f, eW, k1, f_TreatyText_readRun, k2, a1, es, z3, b1, eq_self]
          | ok w =>
            rw [hp] at hn
            obtain ⟨b1, b2⟩ := hn
            obtain ⟨-, -, n1, n2⟩ := pNum_ok hp
            by_cases h4 : cW x < c + w
            · simp only [if_pos h4]
              obtain ⟨Mf, f1, f2, f3⟩ := q_failP (u := u) (k := 6) a2 a3
              refine ⟨Mf, ?_, f2, (Pc_R a5).tr f3⟩
              rw [f_TreatyText_readRow_l60]
              simp (disch := first | assumption | omega) only [z_bdn, z_caln, z_gdn, z_iT, z_iF, z_le_t, z_le_f, z_lt_t, z_lt_f, z_cl, z_inb, z_at, z_lit, nI_ii1, nI_add, z_mr, z_ref0, z_refn, z_eq_f, Bool.not_true, Bool.not_false, b2i_t, b2i_f, eW, k1, f_TreatyText_readRun, k2, a1, es, z3, b1, b2, eW1, f1, eq_self]
            · simp only [if_neg h4]
              obtain ⟨M2, c1, c2, c3, c4, c5⟩ := q_nx hu a4 a2 (nx_le ha)
              refine go w (nx T n (nx T n t)) M2 n1 (by omega) c4 (RwL_R c5 (by omega) hL1) c2 c3 (nx_le (nx_le ha)) ((Pc_R a5).tr (Pc_R c5)) ?_
              rw [f_TreatyText_readRun]
              simp (disch := first | assumption | omega) only [z_bdn, z_caln, z_gdn, z_iT, z_iF, z_le_t, z_le_f, z_lt_t, z_lt_f, z_cl, z_inb, z_at, z_lit, nI_ii1, nI_add, z_mr, z_ref0, z_refn, z_eq_f, Bool.not_true, Bool.not_false, b2i_t, b2i_f, eW, k2, a1, es, z3, b1, b2, eW1, c1]
        · simp only [if_neg h3]
          have z3 : (nI (kS (nx T n t)) = nI 3) = False := z_eq_f h3 (by omega) (by omega)
          refine go 1 (nx T n t) M1 (by omega) (by omega) a4 hL1 a2 a3 (nx_le ha) (Pc_R a5) ?_
          rw [f_TreatyText_readRun]
          simp (disch := first | assumption | omega) only [z_bdn, z_caln, z_gdn, z_iT, z_iF, z_le_t, z_le_f, z_lt_t, z_lt_f, z_cl, z_inb, z_at, z_lit, nI_ii1, nI_add, z_mr, z_ref0, z_refn, z_eq_f, Bool.not_true, Bool.not_false, b2i_t, b2i_f, eW, k2, a1, es, z3]
theorem q_pRow (hu : u = 27 ∨ u = 47) (h : CPs M u T n s) (hO : POk n s) : RsC u T n M (f_TreatyText_readRow u M) (pRow T n s) := by
  obtain ⟨hB, hT, hTB⟩ := h
  have hu27 : 27 ≤ u := by omega
  obtain ⟨o1, -, o3, -, -, ha⟩ := hO
  have w1 := o3.1
  have w3 := o1.2.2.1
  have b0 : b01 (nI 0) = true := by decide
  have eR : mI M (u + 9) 7 = nI (cR (sX s)) := hB.2.1.2.2.1
  rw [f_TreatyText_readRow]
  by_cases h4 : 12 ≤ cR (sX s)
  · have ep : pRow T n s = .error (flt (sT s) 6) := by unfold pRow; exact if_pos h4
    rw [ep]
    obtain ⟨Mf, f1, f2, f3⟩ := q_failP (u := u) (k := 6) hT hTB
    refine ⟨Mf, ?_, f2, f3⟩
    simp (disch := first | assumption | omega) only [z_bdn, z_caln, z_gdn, z_iT, z_iF, z_le_t, z_le_f, z_lt_t, z_lt_f, z_cl, z_inb, z_at, z_lit, nI_ii1, nI_add, z_mr, z_ref0, z_refn, z_eq_f, Bool.not_true, Bool.not_false, b2i_t, b2i_f, eR, f1, b0]
  · obtain ⟨M1, a1, a2, a3, a4, a5⟩ := q_nx hu27 hB hT ha
    have h1 := q_rdQ hu o3 a4.2.2.1 a2 a3
    cases hp1 : pOld (idQ (sY s) (kW (nx T n (sT s)))) (nx T n (sT s)) with
    | error e =>
      rw [hp1] at h1
      obtain ⟨M2, b1, b2, b3⟩ := h1
      have ep : pRow T n s = .error e := by unfold pRow; rw [if_neg h4, hp1]
      rw [ep]
      refine ⟨M2, ?_, b2, (Pc_R a5).tr (Pc_R b3)⟩
      simp (disch := first | assumption | omega) only [z_bdn, z_caln, z_gdn, z_iT, z_iF, z_le_t, z_le_f, z_lt_t, z_lt_f, z_cl, z_inb, z_at, z_lit, nI_ii1, nI_add, z_mr, z_ref0, z_refn, z_eq_f, Bool.not_true, Bool.not_false, b2i_t, b2i_f, eR, a1, b1, eq_self]
    | ok p =>
      rw [hp1] at h1
      obtain ⟨b1, hpl⟩ := h1
      have zp : (nI p = -nI 1) = False := z_nneg (by omega)
      obtain ⟨M2, c1, c2, c3, c4, c5⟩ := q_nx hu27 a4 a2 (nx_le ha)
      have g := q_row_l60 (q := p) (p1 := u) hu27 o1 (by omega) 10 FU 0 0 (fun _ => 0) _ M2 (by omega) (FU_lt (by omega)) (Nat.le_refl _) (Nat.zero_le _) c4 (fun j hj => absurd hj (by omega)) c2 c3 (nx_le (nx_le ha))
      have hFF := (Pc_R (u := u) a5).tr (Pc_R c5)
      have toR : ∀ R, f_TreatyText_readRow_l60 u FU (u + 9) (nI p) (nI 0) (nI 0) M2 = R → (bd (u + 9) fun v1 => if mI M v1 7 < 12 then cal (f_Reader_next 5 M) fun _ M1 => cal (f_TreatyText_readQueenName (u + 1) M1) fun r4 M2 => if r4 = -1 then some (0, M2) else cal (f_Reader_next 5 M2) fun _ M3 => f_TreatyText_readRow_l60 u FU v1 r4 0 0 M3 else cal (f_Reader_fail 5 6 M) fun r8 M4 => gd (b01 r8) (some (r8, M4))) = R := by
        intro R hR
        simp (disch := first | assumption | omega) only [z_bdn, z_caln, z_gdn, z_iT, z_iF, z_le_t, z_le_f, z_lt_t, z_lt_f, z_cl, z_inb, z_at, z_lit, nI_ii1, nI_add, z_mr, z_ref0, z_refn, z_eq_f, Bool.not_true, Bool.not_false, b2i_t, b2i_f, eR, a1, b1, zp, c1]
        exact hR
      cases hr : pRun T n (cW (sX s)) 10 0 (fun _ => 0) (nx T n (nx T n (sT s))) with
      | ok r =>
        rw [hr] at g
        obtain ⟨M', g1, g2, g3, g4, g5⟩ := g
        have ep : pRow T n s = .ok (r.2, knX (sX s) p r.1, sY s, sW s, sH s) := by unfold pRow; rw [if_neg h4, hp1]; show (match pRun _ _ _ _ _ _ _ with | .error e => _ | .ok b => _) = _; rw [hr]
        rw [ep]
        exact ⟨M', toR _ g1, ⟨g2, g3, g4⟩, hFF.tr g5⟩
      | error e =>
        rw [hr] at g
        obtain ⟨M', g1, g2, g3⟩ := g
        have ep : pRow T n s = .error e := by unfold pRow; rw [if_neg h4, hp1]; show (match pRun _ _ _ _ _ _ _ with | .error e => _ | .ok b => _) = _; rw [hr]
        rw [ep]
        exact ⟨M', toR _ g1, g2, hFF.tr g3⟩
end
