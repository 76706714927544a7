section
variable {M M' M1 : kx_M} {T : Nat → Nat} {n u : Nat} {t : Tok} {x : Cl} {y : De} {a b : Bool} {s : Ps}
theorem q_pQue (hu : u = 27 ∨ u = 47) (h : CPs M u T n s) (hO : POk n s) : RsC u T n M (f_TreatyText_readQueen (u + 1) M) (pQue T n s) := by
  obtain ⟨hB, hT, hTB⟩ := h
  have hu27 : 27 ≤ u := by omega
  obtain ⟨o1, -, o3, -, -, ha⟩ := hO
  have w1 := o3.1
  have b0 : b01 (nI 0) = true := by decide
  have e7 := hB.2.2.1.1
  rw [f_TreatyText_readQueen, e7]
  by_cases h4 : 4 ≤ dQ (sY s)
  · have ep : pQue T n s = .error (flt (sT s) 6) := by unfold pQue; exact if_pos h4
    rw [ep]
    obtain ⟨Mf, f1, f2, f3⟩ := q_failP (u := u) (k := 6) hT hTB
    refine ⟨Mf, ?_, f2, f3⟩
    simp (disch := first | assumption | omega) only [z_bdn, z_caln, z_gdn, z_iT, z_iF, z_le_t, z_le_f, z_lt_t, z_lt_f, z_cl, z_inb, z_at, z_lit, nI_ii1, nI_add, z_mr, z_ref0, z_refn, z_eq_f, Bool.not_true, Bool.not_false, b2i_t, b2i_f, f1, b0]
  · obtain ⟨M1, a1, a2, a3, a4, a5⟩ := q_nx hu27 hB hT ha
    have h1 := q_newName hu o3 a4.2.2.1 a2 a3
    cases hp1 : pNew (sY s) (nx T n (sT s)) with
    | error e =>
      rw [hp1] at h1
      obtain ⟨M2, b1, b2, b3⟩ := h1
      have ep : pQue T n s = .error e := by unfold pQue; rw [if_neg h4, hp1]
      rw [ep]
      refine ⟨M2, ?_, b2, (Pc_R a5).tr (Pc_R b3)⟩
      simp (disch := first | assumption | omega) only [z_bdn, z_caln, z_gdn, z_iT, z_iF, z_le_t, z_le_f, z_lt_t, z_lt_f, z_cl, z_inb, z_at, z_lit, nI_ii1, nI_add, z_mr, z_ref0, z_refn, z_eq_f, Bool.not_true, Bool.not_false, b2i_t, b2i_f, a1, b1]
    | ok v0 =>
      rw [hp1] at h1
      obtain ⟨b1, bw⟩ := h1
      have hF : ∀ w, Fr (fun id => u + 1 ≤ id ∧ id ≤ u + 8) M1 (sI (sA (sB M1 (u + 1 + 2) (vp_updL (mB M1 (u + 1 + 2)) (dQ (sY s)) (bJ (kW (nx T n (sT s)))))) (u + 1 + 1) (upd (mA M1 (u + 1 + 1)) (dQ (sY s)) (nI w))) (u + 1) 7 (nI (dQ (sY s) + 1))) := fun w => Fr.tr (Fr.sB (by omega)) (Fr.tr (Fr.sA (by omega)) (Fr.sI (by omega)))
      have hD : ∀ w, PD (sI (sA (sB M1 (u + 1 + 2) (vp_updL (mB M1 (u + 1 + 2)) (dQ (sY s)) (bJ (kW (nx T n (sT s)))))) (u + 1 + 1) (upd (mA M1 (u + 1 + 1)) (dQ (sY s)) (nI w))) (u + 1) 7 (nI (dQ (sY s) + 1))) (u + 1) (addQ (sY s) (bJ (kW (nx T n (sT s)))) w) := by
        intro w
        obtain ⟨g1, g2, g3, g4, g5, g6, g7⟩ := a4.2.2.1
        refine ⟨by rw [m_same]; rfl, by rw [m_same]; exact g2, fun i hi => ?_, fun k hk => ?_, fun k i hk hi => ?_, fun k i hk hi => ?_, fun v' i k hv hi hk => ?_⟩
        · have hi : i < dQ (sY s) + 1 := hi
          rw [mA_sI, mA_sA, if_pos rfl, upd_at, mB_sI, mB_sA, mB_sB, if_pos rfl]
          show (if i = dQ (sY s) then nI w else mA M1 (u + 1 + 1) i) = nI (updN (dO (sY s)) (dQ (sY s)) w i) ∧ (if i = dQ (sY s) then bJ (kW (nx T n (sT s))) else mB M1 (u + 1 + 2) i) = if i = dQ (sY s) then bJ (kW (nx T n (sT s))) else dN (sY s) i
          unfold updN
          by_cases he : i = dQ (sY s)
          · rw [if_pos he, if_pos he, if_pos he, if_pos he]; exact ⟨rfl, rfl⟩
          · rw [if_neg he, if_neg he, if_neg he, if_neg he]; exact g3 i (by omega)
        · rw [mB_sI, mB_sA, mB_sB, if_neg (by omega), mA_sI, mA_sA, if_neg (by omega), mA_sB]; exact g4 k hk
        · rw [mA_sI, mA_sA, if_neg (by omega), mA_sB]; exact g5 k i hk hi
        · rw [mA_sI, mA_sA, if_neg (by omega), mA_sB]; exact g6 k i hk hi
        · rw [mA_sI, mA_sA, if_neg (by omega), mA_sB]; exact g7 v' i k hv hi hk
      have eq1 : ∀ f g, mI (sA (sB M1 (u + 1 + 2) f) (u + 1 + 1) g) (u + 1) 7 = nI (dQ (sY s)) := fun f g => a4.2.2.1.1
      have es1 : ∀ f, mA (sB M1 (u + 1 + 2) f) (u + 1 + 1) = mA M1 (u + 1 + 1) := fun _ => rfl
      have hB2 := CB_D hu27 a4 (hF 100) (hD 100)
      obtain ⟨M2, c1, c2, c3, c4, c5⟩ := q_nx hu27 hB2 (TkC_fr a2 (DW (hF 100)) hu27) (nx_le ha)
      have zw := z_key (k := 3) c2 c3 (by omega)
      by_cases hw : isK (nx T n (nx T n (sT s))) 3 = true
      · rw [eq_true hw] at zw
        obtain ⟨M3, d1, d2, d3, d4, d5⟩ := q_nx hu27 c4 c2 (nx_le (nx_le ha))
        have hn := q_atNumber (lo := 0) (hi := 999) d2 d3 (by omega) (by omega)
        cases hp3 : pNum 0 999 (nx T n (nx T n (nx T n (sT s)))) with
        | error er =>
          rw [hp3] at hn
          obtain ⟨M4, g1, g2, g3⟩ := hn
          have ep : pQue T n s = .error er := by unfold pQue; rw [if_neg h4, hp1]; show (if _ then _ else _) = _; rw [if_pos hw, hp3]
          rw [ep]
          refine ⟨M4, ?_, g2, (Pc_R a5).tr ((Pc_W (DW (hF 100))).tr ((Pc_R c5).tr ((Pc_R d5).tr (Pc_R g3))))⟩
          simp (disch := first | assumption | omega) only [z_bdn, z_caln, z_gdn, z_iT, z_iF, z_le_t, z_le_f, z_lt_t, z_lt_f, z_cl, z_inb, z_at, z_lit, nI_ii1, nI_add, z_mr, z_ref0, z_refn, z_eq_f, Bool.not_true, Bool.not_false, b2i_t, b2i_f, a1, b1, bw, es1, eq1, c1, zw, d1, g1]
        | ok w =>
          rw [hp3] at hn
          obtain ⟨g1, g2⟩ := hn
          have ep : pQue T n s = .ok (nx T n (nx T n (nx T n (nx T n (sT s)))), sX s, addQ (sY s) (bJ (kW (nx T n (sT s)))) w, sW s, sH s) := by unfold pQue; rw [if_neg h4, hp1]; show (if _ then _ else _) = _; rw [if_pos hw, hp3]
          rw [ep]
          have hF3 : Fr (fun id => u + 1 ≤ id ∧ id ≤ u + 8) M3 (sA M3 (u + 1 + 1) (upd (mA M3 (u + 1 + 1)) (dQ (sY s)) (nI w))) := Fr.sA (by omega)
          have hD3 : PD (sA M3 (u + 1 + 1) (upd (mA M3 (u + 1 + 1)) (dQ (sY s)) (nI w))) (u + 1) (addQ (sY s) (bJ (kW (nx T n (sT s)))) w) := by
            obtain ⟨g1, g2, g3, g4, g5, g6, g7⟩ := d4.2.2.1
            refine ⟨g1, g2, fun i hi => ?_, fun k hk => ?_, fun k i hk hi => ?_, fun k i hk hi => ?_, fun v' i k hv hi hk => ?_⟩
            · obtain ⟨k1, k2⟩ := g3 i hi
              rw [mA_sA, if_pos rfl, upd_at]
              have k1 : mA M3 (u + 1 + 1) i = nI (updN (dO (sY s)) (dQ (sY s)) 100 i) := k1
              refine ⟨?_, k2⟩
              show _ = nI (updN (dO (sY s)) (dQ (sY s)) w i)
              unfold updN at k1 ⊢
              by_cases he : i = dQ (sY s)
              · rw [if_pos he, if_pos he]
              · rw [if_neg he] at k1
                rw [if_neg he, if_neg he]; exact k1
            · rw [mA_sA, if_neg (by omega)]; exact g4 k hk
            · rw [mA_sA, if_neg (by omega)]; exact g5 k i hk hi
            · rw [mA_sA, if_neg (by omega)]; exact g6 k i hk hi
            · rw [mA_sA, if_neg (by omega)]; exact g7 v' i k hv hi hk
          have hB3 := CB_D hu27 d4 hF3 hD3
          obtain ⟨M4, k1, k2, k3, k4, k5⟩ := q_nx hu27 hB3 (TkC_fr d2 (DW hF3) hu27) (nx_le (nx_le (nx_le ha)))
          refine ⟨M4, ?_, ⟨k4, k2, k3⟩, (Pc_R a5).tr ((Pc_W (DW (hF 100))).tr ((Pc_R c5).tr ((Pc_R d5).tr ((Pc_W (DW hF3)).tr (Pc_R k5)))))⟩
          simp (disch := first | assumption | omega) only [z_bdn, z_caln, z_gdn, z_iT, z_iF, z_le_t, z_le_f, z_lt_t, z_lt_f, z_cl, z_inb, z_at, z_lit, nI_ii1, nI_add, z_mr, z_ref0, z_refn, z_eq_f, Bool.not_true, Bool.not_false, b2i_t, b2i_f, a1, b1, bw, es1, eq1, c1, zw, d1, g1, g2, k1]
      · rw [eq_false hw] at zw
        have ep : pQue T n s = .ok (nx T n (nx T n (sT s)), sX s, addQ (sY s) (bJ (kW (nx T n (sT s)))) 100, sW s, sH s) := by unfold pQue; rw [if_neg h4, hp1]; show (if _ then _ else _) = _; rw [if_neg hw]
        rw [ep]
        refine ⟨M2, ?_, ⟨c4, c2, c3⟩, (Pc_R a5).tr ((Pc_W (DW (hF 100))).tr (Pc_R c5))⟩
        simp (disch := first | assumption | omega) only [z_bdn, z_caln, z_gdn, z_iT, z_iF, z_le_t, z_le_f, z_lt_t, z_lt_f, z_cl, z_inb, z_at, z_lit, nI_ii1, nI_add, z_mr, z_ref0, z_refn, z_eq_f, Bool.not_true, Bool.not_false, b2i_t, b2i_f, a1, b1, bw, es1, eq1, c1, zw]
/-- while a clause is read: all but its length is there -/
def PK (M : kx_M) (d : Nat) (y : De) (nm : Int64) (c : Nat) (kd : Nat → Nat) : Prop := mI M d 7 = nI (dQ y) ∧ mI M d 8 = nI (dC y + 1) ∧ (∀ q, q < dQ y → mA M (d + 1) q = nI (dO y q) ∧ mB M (d + 2) q = dN y q) ∧ (∀ k, k < dC y → mB M (d + 3) k = dM y k ∧ mA M (d + 4) k = nI (dL y k)) ∧ (∀ k i, k < dC y → i < dL y k → mA M (d + 5) (5 * k + i) = nI (dK y (5 * k + i))) ∧ (∀ k i, k < 6 → i < 6 → mA M (d + 6) (6 * k + i) = nI (dX y (6 * k + i))) ∧ (∀ v q k, v < 2 → q < 4 → k < 6 → mA M (d + 7) (24 * v + 6 * q + k) = nI (dV y (24 * v + 6 * q + k))) ∧ mB M (d + 3) (dC y) = nm ∧ ∀ i, i < c → mA M (d + 5) (5 * dC y + i) = nI (kd i)
theorem PK_fr {p : Nat → Prop} {d c : Nat} {nm : Int64} {kd : Nat → Nat} (h : Fr p M M') (hp : ∀ id, d ≤ id → id ≤ d + 7 → ¬ p id) (hD : PK M d y nm c kd) : PK M' d y nm c kd := by
  obtain ⟨h1, h2, h3, h4, h5, h6, h7, h8, h9⟩ := hD
  have g0 := h d (hp d (by omega) (by omega))
  unfold PK
  rw [(h (d + 1) (hp _ (by omega) (by omega))).2.2.1, (h (d + 2) (hp _ (by omega) (by omega))).2.2.2.1, (h (d + 3) (hp _ (by omega) (by omega))).2.2.2.1, (h (d + 4) (hp _ (by omega) (by omega))).2.2.1, (h (d + 5) (hp _ (by omega) (by omega))).2.2.1, (h (d + 6) (hp _ (by omega) (by omega))).2.2.1, (h (d + 7) (hp _ (by omega) (by omega))).2.2.1, g0.1, g0.1]
  exact ⟨h1, h2, h3, h4, h5, h6, h7, h8, h9⟩
theorem PK_end {d c W : Nat} {nm : Int64} {kd : Nat → Nat} (hP : OkD W y) (hq : dC y < 6) (h : PK M d y nm c kd) : PD (sA M (d + 4) (upd (mA M (d + 4)) (dC y) (nI c))) d (addC y nm c kd) := by
  obtain ⟨h1, h2, h3, h4, h5, h6, h7, h8, h9⟩ := h
  refine ⟨h1, h2, fun i hi => ?_, fun k hk => ?_, fun k i hk hi => ?_, fun k i hk hi => ?_, fun v' i k hv hi hk => ?_⟩
  · rw [mA_sA, if_neg (by omega)]; exact h3 i hi
  · have hk : k < dC y + 1 := hk
    rw [mA_sA, if_pos rfl, upd_at]
    show mB M (d + 3) k = (if k = dC y then nm else dM y k) ∧ _ = nI (updN (dL y) (dC y) c k)
    unfold updN
    by_cases he : k = dC y
    · rw [if_pos he, if_pos he, if_pos he, he]; exact ⟨h8, rfl⟩
    · rw [if_neg he, if_neg he, if_neg he]; exact h4 k (by omega)
  · have hk : k < dC y + 1 := hk
    have hi : i < updN (dL y) (dC y) c k := hi
    rw [mA_sA, if_neg (by omega)]
    show _ = nI (if 5 * k + i < 5 * dC y then dK y (5 * k + i) else kd (5 * k + i - 5 * dC y))
    unfold updN at hi
    by_cases he : k = dC y
    · rw [if_pos he] at hi
      rw [if_neg (by omega), he, show 5 * dC y + i - 5 * dC y = i by omega]
      exact h9 i hi
    · rw [if_neg he] at hi
      have := (hP.2.2.2.1 k (by omega)).2.1
      rw [if_pos (by omega)]
      exact h5 k i (by omega) hi
  · rw [mA_sA, if_neg (by omega)]; exact h6 k i hk hi
  · rw [mA_sA, if_neg (by omega)]; exact h7 v' i k hv hi hk
def CBk (M : kx_M) (u : Nat) (T : Nat → Nat) (n : Nat) (x : Cl) (y : De) (nm : Int64) (c : Nat) (kd : Nat → Nat) (a b : Bool) : Prop := TxC M 5 T n ∧ CC M (u + 9) x ∧ PK M (u + 1) y nm c kd ∧ mI M 4 1 = b2i a ∧ mI M 4 2 = b2i b
theorem CBk_R {nm : Int64} {c : Nat} {kd : Nat → Nat} (hu : 27 ≤ u) (h : CBk M u T n x y nm c kd a b) (hF : FrR 5 M M') : CBk M' u T n x y nm c kd a b := by
  obtain ⟨h1, h2, h3, h4, h5⟩ := h
  have e4 := (hF.1 4 (by omega)).1
  exact ⟨TxC_R (by omega) h1 hF, CC_fr hF.1 (fun id a b e => by omega) h2, PK_fr hF.1 (fun id a b e => by omega) h3, (e4 1).trans h4, (e4 2).trans h5⟩
theorem q_nxk {nm : Int64} {c : Nat} {kd : Nat → Nat} (hu : 27 ≤ u) (h : CBk M u T n x y nm c kd a b) (hT : TkC M 5 t) (ha : kA t ≤ n) : ∃ M', f_Reader_next 5 M = some ((), M') ∧ TkC M' 5 (nx T n t) ∧ TkB (nx T n t) ∧ CBk M' u T n x y nm c kd a b ∧ FrR 5 M M' := by
  obtain ⟨M', a1, a2, a3⟩ := q_next (by omega) h.1 ha hT.1
  exact ⟨M', a1, a2, TkB_x h.1 ha, CBk_R hu h a3, a3⟩
theorem q_cla_l105 {nm : Int64} {W most : Nat} {p1 : Nat} (hu : 27 ≤ u) (hP : OkD W y) (hq : dC y < 6) (hm5 : most ≤ 5) : ∀ (m f c : Nat) (kd : Nat → Nat) (t : Tok) (M : kx_M), c + m = 7 → m < f → c ≤ most → CBk M u T n x y nm c kd a b → TkC M 5 t → TkB t → kA t ≤ n → match pKds T n most m c kd t with
    | .ok r => ∃ M', f_TreatyText_readClause_l105 p1 f (u + 1) (nI (dC y)) (nI most) (nI c) (nI c) M = some (nI 1, M') ∧ CB M' u T n x (addC y nm r.1 r.2.1) a b ∧ TkC M' 5 r.2.2 ∧ TkB r.2.2 ∧ Fr (inPc u) M M'
    | .error e => ∃ M', f_TreatyText_readClause_l105 p1 f (u + 1) (nI (dC y)) (nI most) (nI c) (nI c) M = some (nI 0, M') ∧ ErC 5 M' e ∧ Fr (inPc u) M M' := by
  have b0 : b01 (nI 0) = true := by decide
  intro m
  induction m with
  | zero => intro f c kd t M hc; omega
  | succ m ih =>
    intro f c kd t M hc hf hcm hB hT hTB ha
    obtain ⟨f, rfl, hf⟩ := z_succ hf
    obtain ⟨k1, k2⟩ := q_atKind hT hTB
    unfold pKds
    cases hk : kdK t with
    | none =>
      rw [hk] at k1
      have k1 : f_Reader_atKind 5 M = some (nI 0, M) := k1
      have hD := PK_end hP hq hB.2.2.1
      have hF : Fr (fun id => u + 1 ≤ id ∧ id ≤ u + 8) M (sA M (u + 1 + 4) (upd (mA M (u + 1 + 4)) (dC y) (nI c))) := Fr.sA (by omega)
      by_cases h0 : c = 0
      · simp only [if_pos h0]
        obtain ⟨Mf, f1, f2, f3⟩ := q_failP (u := u) (k := 2) (TkC_fr hT (DW hF) hu) hTB
        refine ⟨Mf, ?_, f2, (Pc_W (DW hF)).tr f3⟩
        subst h0
        rw [f_TreatyText_readClause_l105]
        simp (disch := first | assumption | omega) only [z_bdn, z_caln, z_gdn, z_iT, z_iF, z_le_t, z_le_f, z_lt_t, z_lt_f, z_cl, z_inb, z_at, z_lit, nI_ii1, nI_add, z_mr, z_ref0, z_refn, z_eq_f, Bool.not_true, Bool.not_false, b2i_t, b2i_f, k1, f_TreatyText_readClause_l176, f1, b0]
      · simp only [if_neg h0]
        obtain ⟨e1, e2, e3, e4, e5⟩ := hB
        have g4 := (hF 4 (by omega)).1
        refine ⟨_, ?_, ⟨CB_Tx hu e1 (DW hF), CC_fr hF (fun id g1 g2 e => by omega) e2, hD, (g4 1).trans e4, (g4 2).trans e5⟩, TkC_fr hT (DW hF) hu, hTB, Pc_W (DW hF)⟩
        rw [f_TreatyText_readClause_l105]
        simp (disch := first | assumption | omega) only [z_bdn, z_caln, z_gdn, z_iT, z_iF, z_le_t, z_le_f, z_lt_t, z_lt_f, z_cl, z_inb, z_at, z_lit, nI_ii1, nI_add, z_mr, z_ref0, z_refn, z_eq_f, Bool.not_true, Bool.not_false, b2i_t, b2i_f, k1, f_TreatyText_readClause_l176]
    | some v =>
      rw [hk] at k1
      have k1 : f_Reader_atKind 5 M = some (nI 1, M) := k1
      have k2 := k2 v hk
      by_cases h0 : most ≤ c
      · simp only [if_pos h0]
        obtain ⟨Mf, f1, f2, f3⟩ := q_failP (u := u) (k := 6) hT hTB
        refine ⟨Mf, ?_, f2, f3⟩
        rw [f_TreatyText_readClause_l105]
        simp (disch := first | assumption | omega) only [z_bdn, z_caln, z_gdn, z_iT, z_iF, z_le_t, z_le_f, z_lt_t, z_lt_f, z_cl, z_inb, z_at, z_lit, nI_ii1, nI_add, z_mr, z_ref0, z_refn, z_eq_f, Bool.not_true, Bool.not_false, b2i_t, b2i_f, k1, f1, b0]
      · simp only [if_neg h0]
        have hF : Fr (fun id => u + 1 ≤ id ∧ id ≤ u + 8) M (sA M (u + 1 + 5) (upd (mA M (u + 1 + 5)) (5 * dC y + c) (nI v))) := Fr.sA (by omega)
        have hB2 : CBk (sA M (u + 1 + 5) (upd (mA M (u + 1 + 5)) (5 * dC y + c) (nI v))) u T n x y nm (c + 1) (updN kd c v) a b := by
          obtain ⟨e1, e2, ⟨g1, g2, g3, g4, g5, g6, g7, g8, g9⟩, e4, e5⟩ := hB
          have q4 := (hF 4 (by omega)).1
          refine ⟨CB_Tx hu e1 (DW hF), CC_fr hF (fun id g1 g2 e => by omega) e2, ⟨g1, g2, fun i hi => ?_, fun k hk => ?_, fun k i hk hi => ?_, fun k i hk hi => ?_, fun v' i k hv hi hk => ?_, g8, fun i hi => ?_⟩, (q4 1).trans e4, (q4 2).trans e5⟩
          · rw [mA_sA, if_neg (by omega)]; exact g3 i hi
          · rw [mA_sA, if_neg (by omega)]; exact g4 k hk
          · have := (hP.2.2.2.1 k hk).2.1
            rw [mA_sA, if_pos rfl, upd_at, if_neg (by omega)]; exact g5 k i hk hi
          · rw [mA_sA, if_neg (by omega)]; exact g6 k i hk hi
          · rw [mA_sA, if_neg (by omega)]; exact g7 v' i k hv hi hk
          · rw [mA_sA, if_pos rfl, upd_at]
            unfold updN
            by_cases he : i = c
            · rw [if_pos (by omega), if_pos he]
            · rw [if_neg (by omega), if_neg he]; exact g9 i (by omega)
        obtain ⟨M2, c1, c2, c3, c4, c5⟩ := q_nxk hu hB2 (TkC_fr hT (DW hF) hu) ha
        have g := ih f (c + 1) (updN kd c v) (nx T n t) M2 (by omega) (by omega) (by omega) c4 c2 c3 (nx_le ha)
        have toR : f_TreatyText_readClause_l105 p1 (f + 1) (u + 1) (nI (dC y)) (nI most) (nI c) (nI c) M = f_TreatyText_readClause_l105 p1 f (u + 1) (nI (dC y)) (nI most) (nI (c + 1)) (nI (c + 1)) M2 := by
          rw [f_TreatyText_readClause_l105]
          simp (disch := first | assumption | omega) only [z_bdn, z_caln, z_gdn, z_iT, z_iF, z_le_t, z_le_f, z_lt_t, z_lt_f, z_cl, z_inb, z_at, z_lit, nI_ii1, nI_add, z_mr, z_ref0, z_refn, z_eq_f, Bool.not_true, Bool.not_false, b2i_t, b2i_f, k1, k2, c1]
        have hFF := (Pc_W (DW hF)).tr (Pc_R c5)
        rw [toR]
        cases hr : pKds T n most m (c + 1) (updN kd c v) (nx T n t) with
        | ok r =>
          rw [hr] at g
          obtain ⟨M', g1, g2, g3, g4, g5⟩ := g
          exact ⟨M', g1, g2, g3, g4, hFF.tr g5⟩
        | error e =>
          rw [hr] at g
          obtain ⟨M', g1, g2, g3⟩ := g
          exact ⟨M', g1, g2, hFF.tr g3⟩
theorem q_pCla (hu : u = 27 ∨ u = 47) (h : CPs M u T n s) (hO : POk n s) : RsC u T n M (f_TreatyText_readClause u M) (pCla T n s) := by
  obtain ⟨hB, hT, hTB⟩ := h
  have hu27 : 27 ≤ u := by omega
  obtain ⟨o1, -, o3, -, -, ha⟩ := hO
  have w2 := o3.2.1
  have wW := o1.1.2
  have b0 : b01 (nI 0) = true := by decide
  have e8 := hB.2.2.1.2.1
  rw [f_TreatyText_readClause]
  by_cases h4 : 6 ≤ dC (sY s)
  · have ep : pCla T n s = .error (flt (sT s) 6) := by unfold pCla; exact if_pos h4
    rw [ep]
    obtain ⟨Mf, f1, f2, f3⟩ := q_failP (u := u) (k := 6) hT hTB
    refine ⟨Mf, ?_, f2, f3⟩
    simp (disch := first | assumption | omega) only [z_bdn, z_caln, z_gdn, z_iT, z_iF, z_le_t, z_le_f, z_lt_t, z_lt_f, z_cl, z_inb, z_at, z_lit, nI_ii1, nI_add, z_mr, z_ref0, z_refn, z_eq_f, Bool.not_true, Bool.not_false, b2i_t, b2i_f, e8, f1, b0]
  · obtain ⟨M1, a1, a2, a3, a4, a5⟩ := q_nx hu27 hB hT ha
    have h1 := q_newName hu o3 a4.2.2.1 a2 a3
    cases hp1 : pNew (sY s) (nx T n (sT s)) with
    | error e =>
      rw [hp1] at h1
      obtain ⟨M2, b1, b2, b3⟩ := h1
      have ep : pCla T n s = .error e := by unfold pCla; rw [if_neg h4, hp1]
      rw [ep]
      refine ⟨M2, ?_, b2, (Pc_R a5).tr (Pc_R b3)⟩
      simp (disch := first | assumption | omega) only [z_bdn, z_caln, z_gdn, z_iT, z_iF, z_le_t, z_le_f, z_lt_t, z_lt_f, z_cl, z_inb, z_at, z_lit, nI_ii1, nI_add, z_mr, z_ref0, z_refn, z_eq_f, Bool.not_true, Bool.not_false, b2i_t, b2i_f, e8, a1, b1]
    | ok v0 =>
      rw [hp1] at h1
      obtain ⟨b1, bw⟩ := h1
      have hF : Fr (fun id => u + 1 ≤ id ∧ id ≤ u + 8) M1 (sI (sB M1 (u + 1 + 3) (vp_updL (mB M1 (u + 1 + 3)) (dC (sY s)) (bJ (kW (nx T n (sT s)))))) (u + 1) 8 (nI (dC (sY s) + 1))) := Fr.tr (Fr.sB (by omega)) (Fr.sI (by omega))
      have hB2 : CBk (sI (sB M1 (u + 1 + 3) (vp_updL (mB M1 (u + 1 + 3)) (dC (sY s)) (bJ (kW (nx T n (sT s)))))) (u + 1) 8 (nI (dC (sY s) + 1))) u T n (sX s) (sY s) (bJ (kW (nx T n (sT s)))) 0 (fun _ => 0) (sW s) (sH s) := by
        obtain ⟨e1, e2, ⟨g1, g2, g3, g4, g5, g6, g7⟩, e4, e5⟩ := a4
        have q4 := (hF 4 (by omega)).1
        refine ⟨CB_Tx hu27 e1 (DW hF), CC_fr hF (fun id g1 g2 e => by omega) e2, ⟨by rw [m_same]; exact g1, by rw [m_same]; rfl, fun i hi => ?_, fun k hk => ?_, g5, g6, g7, ?_, fun i hi => absurd hi (by omega)⟩, (q4 1).trans e4, (q4 2).trans e5⟩
        · rw [mB_sI, mB_sB, if_neg (by omega)]; exact g3 i hi
        · rw [mB_sI, mB_sB, if_pos rfl]
          obtain ⟨k1, k2⟩ := g4 k hk
          refine ⟨?_, k2⟩
          show (if k = dC (sY s) then _ else mB M1 (u + 1 + 3) k) = _
          rw [if_neg (by omega)]; exact k1
        · rw [mB_sI, mB_sB, if_pos rfl]
          show (if dC (sY s) = dC (sY s) then _ else _) = _
          rw [if_pos rfl]
      have eq1 : ∀ f, mI (sB M1 (u + 1 + 3) f) (u + 1) 8 = nI (dC (sY s)) := fun f => a4.2.2.1.2.1
      obtain ⟨M2, c1, c2, c3, c4, c5⟩ := q_nxk hu27 hB2 (TkC_fr a2 (DW hF) hu27) (nx_le ha)
      have hw := q_takeWord (k := 5) (by omega) c4.1 c2 c3 (nx_le (nx_le ha)) (by omega)
      by_cases hk : isK (nx T n (nx T n (sT s))) 5 = true
      · rw [if_pos hk] at hw
        obtain ⟨M3, d1, d2, d3⟩ := hw
        have c4' := CBk_R hu27 c4 d3
        have eW : mI M3 (u + 9) 5 = nI (cW (sX s)) := c4'.2.1.1
        have g := q_cla_l105 (p1 := u) (most := min 5 (cW (sX s))) hu27 o3 (by omega) (by omega) 7 FU 0 (fun _ => 0) _ M3 (by omega) (FU_lt (by omega)) (by omega) c4' d2 (TkB_x c4.1 (nx_le (nx_le ha))) (nx_le (nx_le (nx_le ha)))
        have toR : ∀ R, f_TreatyText_readClause_l105 u FU (u + 1) (nI (dC (sY s))) (nI (min 5 (cW (sX s)))) (nI 0) (nI 0) M3 = R → (bd (u + 1) fun v1 => bd (mI M v1 8) fun v2 => if v2 < 6 then cal (f_Reader_next 5 M) fun _ M1 => cal (f_TreatyText_newName v1 M1) fun r5 M2 => if r5 = 0 then some (0, M2) else gd (inb v2 6) (bd (sB M2 (v1 + 3) (vp_updL (mB M2 (v1 + 3)) v2.toNatClampNeg (mJ M2 5 7))) fun M3 => bd (sI M3 v1 8 (mI M3 v1 8 + 1)) fun M4 => cal (f_Reader_next 5 M4) fun _ M5 => cal (f_Reader_takeWord 5 5 M5) fun r10 M6 => if r10 = 0 then some (0, M6) else bd (if mI M6 (u + 9) 5 < 5 then mI M6 (u + 9) 5 else 5) fun v12 => f_TreatyText_readClause_l105 u FU v1 v2 v12 0 0 M6) else cal (f_Reader_fail 5 6 M) fun r13 M7 => gd (b01 r13) (some (r13, M7))) = R := by
          intro R hR
          by_cases h5 : cW (sX s) < 5
          · rw [show min 5 (cW (sX s)) = cW (sX s) by omega] at hR
            simp (disch := first | assumption | omega) only [z_bdn, z_caln, z_gdn, z_iT, z_iF, z_le_t, z_le_f, z_lt_t, z_lt_f, z_cl, z_inb, z_at, z_lit, nI_ii1, nI_add, z_mr, z_ref0, z_refn, z_eq_f, Bool.not_true, Bool.not_false, b2i_t, b2i_f, e8, a1, b1, bw, eq1, c1, d1, eW]
            exact hR
          · rw [show min 5 (cW (sX s)) = 5 by omega] at hR
            simp (disch := first | assumption | omega) only [z_bdn, z_caln, z_gdn, z_iT, z_iF, z_le_t, z_le_f, z_lt_t, z_lt_f, z_cl, z_inb, z_at, z_lit, nI_ii1, nI_add, z_mr, z_ref0, z_refn, z_eq_f, Bool.not_true, Bool.not_false, b2i_t, b2i_f, e8, a1, b1, bw, eq1, c1, d1, eW]
            exact hR
        have hFF := (Pc_R a5).tr ((Pc_W (DW hF)).tr ((Pc_R c5).tr (Pc_R d3)))
        cases hr : pKds T n (min 5 (cW (sX s))) 7 0 (fun _ => 0) (nx T n (nx T n (nx T n (sT s)))) with
        | ok r =>
          rw [hr] at g
          obtain ⟨M', g1, g2, g3, g4, g5⟩ := g
          have ep : pCla T n s = .ok (r.2.2, sX s, addC (sY s) (bJ (kW (nx T n (sT s)))) r.1 r.2.1, sW s, sH s) := by unfold pCla; rw [if_neg h4, hp1]; show (if _ then _ else _) = _; rw [if_pos hk, hr]
          rw [ep]
          exact ⟨M', toR _ g1, ⟨g2, g3, g4⟩, hFF.tr g5⟩
        | error e =>
          rw [hr] at g
          obtain ⟨M', g1, g2, g3⟩ := g
          have ep : pCla T n s = .error e := by unfold pCla; rw [if_neg h4, hp1]; show (if _ then _ else _) = _; rw [if_pos hk, hr]
          rw [ep]
          exact ⟨M', toR _ g1, g2, hFF.tr g3⟩
      · rw [if_neg hk] at hw
        obtain ⟨M3, d1, d2, d3⟩ := hw
        have ep : pCla T n s = .error (flt (nx T n (nx T n (sT s))) 2) := by unfold pCla; rw [if_neg h4, hp1]; exact if_neg hk
        rw [ep]
        refine ⟨M3, ?_, d2, (Pc_R a5).tr ((Pc_W (DW hF)).tr ((Pc_R c5).tr (Pc_R d3)))⟩
        simp (disch := first | assumption | omega) only [z_bdn, z_caln, z_gdn, z_iT, z_iF, z_le_t, z_le_f, z_lt_t, z_lt_f, z_cl, z_inb, z_at, z_lit, nI_ii1, nI_add, z_mr, z_ref0, z_refn, z_eq_f, Bool.not_true, Bool.not_false, b2i_t, b2i_f, e8, a1, b1, bw, eq1, c1, d1]
end
