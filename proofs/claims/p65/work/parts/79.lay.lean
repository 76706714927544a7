/-! ## the law lays a TREATY -/
def WB (hA : Nat → Int32) (M : kx_M) (σ : Sg) (tx : List Nat) (b : Nat) : Prop := WR hA M σ tx ∧ tx.length ≤ b
theorem sbN_6 : ∀ j, j < 15 → (sbN j).length ≤ 6 := by decide +kernel
section
variable {hA : Nat → Int32} {M : kx_M} {σ : Sg} {tx : List Nat} {b : Nat}
theorem b_say {j : Nat} (hj : j < 15) (hW : WB hA M σ tx b) (hb : b + 26 ≤ 900) : ∃ M' σ', f_LW_say j M = some ((), M') ∧ WB hA M' σ' (tx ++ sbN j) (b + 6) := by
  have h6 := sbN_6 j hj
  obtain ⟨M1, σ1, a1, a2⟩ := w_say hj hW.1 (by have := hW.2; omega)
  exact ⟨M1, σ1, a1, a2, by rw [List.length_append]; have := hW.2; omega⟩
theorem b_num {v : Nat} (hv : v ≤ 999) (hW : WB hA M σ tx b) (hb : b + 26 ≤ 900) : ∃ M' σ', f_LW_number (nI v) M = some ((), M') ∧ WB hA M' σ' (tx ++ 32 :: dgs v) (b + 4) := by
  have h3 := (dgs_ok hv).2.2.2
  obtain ⟨M1, σ1, a1, a2⟩ := w_number hv hW.1 (by have := hW.2; omega)
  exact ⟨M1, σ1, a1, a2, by rw [List.length_append, List.length_cons]; have := hW.2; omega⟩
theorem b_nm {c k : Nat} (hc : c < 128) (hk : k < 10) (hW : WB hA M σ tx b) (hb : b + 26 ≤ 900) : ∃ M' σ', f_LW_name (nI c) (nI k) M = some ((), M') ∧ WB hA M' σ' (tx ++ [32, c, 97 + k]) (b + 3) := by
  obtain ⟨M1, σ1, a1, a2⟩ := w_name hc hk hW.1 (by have := hW.2; omega)
  exact ⟨M1, σ1, a1, a2, by rw [List.length_append]; have := hW.2; show _ + 3 ≤ _; omega⟩
theorem b_kd {v : Nat} (hv : v < 4) (hW : WB hA M σ tx b) (hb : b + 26 ≤ 900) : ∃ M' σ', f_LW_kind (nI v) M = some ((), M') ∧ WB hA M' σ' (tx ++ 32 :: kwK v) (b + 6) := by
  have h5 := kwK_len v hv
  obtain ⟨M1, σ1, a1, a2⟩ := w_kind hv hW.1 (by have := hW.2; omega)
  exact ⟨M1, σ1, a1, a2, by rw [List.length_append, List.length_cons]; have := hW.2; omega⟩
theorem WB_h (hW : WB hA M σ tx b) (i : Nat) : mA M 136 i = hA i := congrFun hW.1.2.1 i
end
theorem pcs_app (A B : List Pc) : pcs (A ++ B) = pcs A ++ pcs B := List.flatMap_append
theorem pcs_W0 (w : List Nat) (L : List Pc) : pcs (Wd false w :: L) = w ++ pcs L := rfl
theorem pcs_W1 (w : List Nat) (L : List Pc) : pcs (Wd true w :: L) = 32 :: (w ++ pcs L) := rfl
theorem pcs_N (d : List Nat) (L : List Pc) : pcs (Nb d :: L) = 32 :: (d ++ pcs L) := rfl
theorem pcs_Z (L : List Pc) : pcs (Zg :: L) = 59 :: pcs L := rfl
theorem pcs_0 : pcs [] = [] := rfl
/-- what is drawn -/
def HOK (hA : Nat → Int32) (v : Nat → Nat) : Prop := (∀ j, j < 52 → (j < 19 ∨ 22 ≤ j) → hA j = nI (v j)) ∧ (1 ≤ v 0 ∧ v 0 ≤ 5) ∧ (1 ≤ v 1 ∧ v 1 ≤ 32) ∧ (1 ≤ v 2 ∧ v 2 ≤ 2) ∧ v 3 ≤ 3 ∧ v 4 ≤ 3 ∧ (∀ k, k < 2 → v (5 + k) ≤ 127) ∧ (∀ k, k < 3 → 1 ≤ v (7 + k) ∧ v (7 + k) ≤ 3 ∧ v (7 + k) ≤ v 0) ∧ (∀ j, j < 9 → v (10 + j) < 4) ∧ (∀ j, j < 12 → v (22 + j) ≤ 15) ∧ (∀ r, r < 3 → v (34 + r) < v 2) ∧ (∀ j, j < 15 → v (37 + j) < 4)
/-- what the law has then -/
def LD (hA : Nat → Int32) (v : Nat → Nat) (M : kx_M) (σ : Sg) : Prop := IC M σ ∧ mA M 136 = hA ∧ (gK σ).1 = 0 ∧ cW (gX σ) = v 0 ∧ cR (gX σ) = v 4 ∧ dQ (gY σ) = v 2 ∧ dC (gY σ) = v 3 ∧ ZZx (gX σ) ∧ cY (gX σ) = 0 ∧ OQ (gX σ) (gY σ)
def GL (hA : Nat → Int32) (v : Nat → Nat) (o : Option (Int32 × kx_M)) : Prop := ∃ M' σ', o = some (nI 1, M') ∧ LD hA v M' σ'
def LY (hA : Nat → Int32) (M : kx_M) (σ : Sg) (A : List Pc) (Φ : Ps → Prop) (N b : Nat) : Prop := WB hA M σ (pcs A) b ∧ PG A Φ N
section
variable {hA : Nat → Int32} {v : Nat → Nat}
/-- the text is loaded -/
theorem lay_load {M : kx_M} {σ : Sg} {A : List Pc} {N b : Nat} (hH : HOK hA v) (hL : LY hA M σ A (PT (v 0) (v 2) (v 3) (v 4) true true) N b) (hN : N ≤ 1000) (hb : b + 26 ≤ 900) : ∃ M' σ', f_LW_load M = some (nI (v 4), M') ∧ LD hA v M' σ' := by
  obtain ⟨⟨⟨w1, w2, w3, w4, w5, w6, w7, w8, w9, w10⟩, wl⟩, hG⟩ := hL
  generalize hT : pcs A = tx at *
  have hdm : 20 * (tx.length / 20) + tx.length % 20 = tx.length := Nat.div_add_mod _ _
  have hr : tx.length % 20 < 20 := Nat.mod_lt _ (by decide)
  -- behind the text is loaded, from a tape that has it
  have key : ∀ (M1 : kx_M) (σ1 : Sg), IC M1 σ1 → mA M1 136 = hA → (gK σ1).1 = 0 → mA M1 135 22 = nI 0 → tx.length ≤ (gP σ1).1 → (∀ i, i < tx.length → (gP σ1).2 i = tx.getD i 0) → ∃ M' σ', f_LW_load_l17 (nI tx.length) M1 = some (nI (v 4), M') ∧ LD hA v M' σ' := by
    intro M1 σ1 hI h136 hK h22 hp hq
    have hLo := Lo_A (M := M1) (i := 135) (f := upd (mA M1 135) 21 (nI 0)) (Nat.le_refl _)
    obtain ⟨M2, a1, a2, a3⟩ := pC_treaty (nI tx.length) _ σ1 (IC_lo hLo hI)
    have hp9 := hI.1.2.2.2.2.1
    have hix : ix (nI tx.length) ((gP σ1).1 + 1) = true := by
      unfold ix
      rw [nI_toInt (by omega)]
      rw [Bool.and_eq_true]
      exact ⟨decide_eq_true (by omega), decide_eq_true (by omega)⟩
    obtain ⟨s, e1, e2, e3⟩ := PG_end hG hN (T := (gP σ1).2) (n := tx.length) ⟨by rw [hT]; omega, fun i hi => by rw [hT] at hi ⊢; rw [Nat.zero_add]; exact hq i hi⟩
    have eo : o_treaty (nI tx.length) σ1 = (nI (cR (sX s)), wE (wNow (wP (wS σ1 (nI 0)) 0 (gP σ1).2) (sX s, sY s, z00)) (nI 0) (-nI 1)) := by
      unfold o_treaty
      rw [if_pos hix, z_cl (by omega), e1]
    rw [eo] at a1 a2
    obtain ⟨t1, t2, t3, t4, -, -, -, t8, t9⟩ := e2
    refine ⟨M2, _, ?_, a2, ?_, hK, t1, t2, t3, t4, t8, e3.2.1, t9⟩
    · rw [f_LW_load_l17]
      have h22' : (upd (mA M1 135) 21 (nI 0)) 22 = nI 0 := by rw [z_un (by decide), h22]
      simp (disch := first | assumption | omega) only [z_bdn, z_caln, z_gdn, z_iT, z_iF, z_le_t, z_le_f, z_lt_t, z_lt_f, z_cl, z_inb, z_at, z_lit, nI_ii1, nI_add, z_mr, z_ref0, z_refn, z_eq_f, Bool.not_true, Bool.not_false, b2i_t, b2i_f, z_mA, h22', a1]
      rw [t2]
    · rw [Hi_A a3 (by decide), z_mAn (by decide)]
      exact h136
  by_cases h0 : tx.length % 20 = 0
  · obtain ⟨M', σ', k1, k2⟩ := key M σ w1 w2 w3 w9 (by rw [w5]; omega) (fun i hi => w6 i (by rw [w5]; omega))
    refine ⟨M', σ', ?_, k2⟩
    rw [f_LW_load]
    simp (disch := first | assumption | omega) only [z_bdn, z_caln, z_gdn, z_iT, z_iF, z_le_t, z_le_f, z_lt_t, z_lt_f, z_cl, z_inb, z_at, z_lit, nI_ii1, nI_add, z_mr, z_ref0, z_refn, z_eq_f, Bool.not_true, Bool.not_false, b2i_t, b2i_f, w8, w7, h0]
    exact k1
  · have hB : ∀ i, i < 20 → (if i < tx.length % 20 then tx.getD (20 * (tx.length / 20) + i) 0 else 32) < 128 := fun i hi => by
      split
      · have : 20 * (tx.length / 20) + i < tx.length := by omega
        simp only [List.getD]
        rw [List.getElem?_eq_getElem this]
        exact w4 _ (List.getElem_mem this)
      · decide
    obtain ⟨M1, a1, a2, a3, a4, a5⟩ := w_feed (r := tx.length % 20) (B := fun i => if i < tx.length % 20 then tx.getD (20 * (tx.length / 20) + i) 0 else 32) (by omega) (by rw [w5]; omega) w1 w7 hB (fun i h1 h2 => if_neg (by omega)) (fun i hi => by
      show _ = nI (if i < tx.length % 20 then _ else _)
      rw [if_pos hi]
      exact w10 i hi)
    obtain ⟨p1, p2, p3⟩ := pushL_ok ((List.range 20).map (fun i => if i < tx.length % 20 then tx.getD (20 * (tx.length / 20) + i) 0 else 32)) (gP σ)
    have p1 : (pushL (gP σ) ((List.range 20).map (fun i => if i < tx.length % 20 then tx.getD (20 * (tx.length / 20) + i) 0 else 32))).1 = (gP σ).1 + 20 := p1
    obtain ⟨M', σ', k1, k2⟩ := key M1 _ a2 (a3.trans w2) w3 ((a5 22 (by decide)).trans w9) (by
      show tx.length ≤ (pushL _ _).1
      rw [p1, w5]; omega) (fun i hi => by
      show (pushL _ _).2 i = _
      by_cases h1 : i < (gP σ).1
      · rw [p2 i h1, w6 i h1]
      · have e : i = (gP σ).1 + (i - (gP σ).1) := by omega
        rw [e, p3 _ (by show i - (gP σ).1 < 20; rw [w5]; omega), rng_at (fun i => if i < tx.length % 20 then tx.getD (20 * (tx.length / 20) + i) 0 else 32) (by rw [w5]; omega), ← e, if_pos (by rw [w5]; omega)]
        congr 1
        rw [w5]; omega)
    refine ⟨M', σ', ?_, k2⟩
    have z0 : (nI (tx.length % 20) ≤ nI 0) = False := z_le_f (by omega) (by omega)
    rw [f_LW_load]
    simp (disch := first | assumption | omega) only [z_bdn, z_caln, z_gdn, z_iT, z_iF, z_le_t, z_le_f, z_lt_t, z_lt_f, z_cl, z_inb, z_at, z_lit, nI_ii1, nI_add, z_mr, z_ref0, z_refn, z_eq_f, Bool.not_true, Bool.not_false, b2i_t, b2i_f, w8, w7, z0, a1]
    exact k1
/-- the rows' part, as far as it is written -/
def rowB (q : Nat) (rs : List (Nat × List Nat)) : List Pc := Wd false kwR :: Wd true (nmQ q) :: rs.flatMap runP
theorem rowB_k (q : Nat) (rs : List (Nat × List Nat)) (x : Nat × List Nat) : rowB q (rs ++ [x]) = rowB q rs ++ runP x := by
  unfold rowB
  rw [List.flatMap_append]
  show _ :: _ :: (_ ++ (runP x ++ [])) = _ :: _ :: (_ ++ _)
  rw [List.append_nil]
theorem lay_l447 {K : Int32 → Int32 → kx_M → Option (Int32 × kx_M)} {M : kx_M} {σ : Sg} {A : List Pc} {r c m q b : Nat} {rs : List (Nat × List Nat)} (hH : HOK hA v) (hr : r < 3) (hc : c < v 0) (hm : 1 ≤ m ∧ m ≤ 5) (hW : WB hA M σ (pcs (A ++ rowB q rs)) b) (hb : b + 32 ≤ 900)
    (hk : ∀ (M' : kx_M) (σ' : Sg) (x : Nat × List Nat), RunD x → runN x = m → WB hA M' σ' (pcs (A ++ rowB q (rs ++ [x]))) (b + 10) → GL hA v (K (nI r) (nI (c + 1)) M')) : GL hA v (f_LW_lay_l447 K (nI r) (nI c) (nI m) M) := by
  have h0 := hH.2.1
  have hv := hH.2.2.2.2.2.2.2.2.2.2.2 (5 * r + c) (by omega)
  have he : mA M 136 (37 + r * 5 + c) = nI (v (37 + (5 * r + c))) := by
    rw [WB_h hW, hH.1 _ (by omega) (by omega)]
    congr 2
    omega
  obtain ⟨M1, σ1, a1, a2⟩ := b_kd hv hW (by omega)
  rw [f_LW_lay_l447]
  by_cases h1 : m ≤ 1
  · obtain rfl : m = 1 := by omega
    have g := hk M1 σ1 (v (37 + (5 * r + c)), []) ⟨hv, Or.inl rfl⟩ rfl ⟨by
      have : pcs (A ++ rowB q (rs ++ [(v (37 + (5 * r + c)), [])])) = pcs (A ++ rowB q rs) ++ 32 :: kwK (v (37 + (5 * r + c))) := by
        rw [rowB_k, ← List.append_assoc, pcs_app]
        congr 1
        show 32 :: (kwK _ ++ []) = _
        rw [List.append_nil]
      rw [this]
      exact a2.1, by
      have : pcs (A ++ rowB q (rs ++ [(v (37 + (5 * r + c)), [])])) = pcs (A ++ rowB q rs) ++ 32 :: kwK (v (37 + (5 * r + c))) := by
        rw [rowB_k, ← List.append_assoc, pcs_app]
        congr 1
        show 32 :: (kwK _ ++ []) = _
        rw [List.append_nil]
      rw [this]
      have := a2.2
      omega⟩
    simp (disch := first | assumption | omega) only [z_bdn, z_caln, z_gdn, z_iT, z_iF, z_le_t, z_le_f, z_lt_t, z_lt_f, z_cl, z_inb, z_at, z_lit, nI_ii1, nI_add, z_mr, z_ref0, z_refn, z_eq_f, Bool.not_true, Bool.not_false, b2i_t, b2i_f, he, a1]
    exact g
  · obtain ⟨M2, σ2, b1, b2⟩ := b_num (v := m) (by omega) a2 (by omega)
    have hne : dgs m ≠ [] := fun e => by
      have := (dgs_ok (show m ≤ 999 by omega)).2.2.1
      rw [e] at this
      exact absurd this (by decide)
    have et : pcs (A ++ rowB q (rs ++ [(v (37 + (5 * r + c)), dgs m)])) = pcs (A ++ rowB q rs) ++ 32 :: kwK (v (37 + (5 * r + c))) ++ 32 :: dgs m := by
      rw [rowB_k, ← List.append_assoc, pcs_app, List.append_assoc]
      congr 1
      unfold runP
      rw [if_neg hne]
      show 32 :: (kwK _ ++ 32 :: (dgs m ++ [])) = _
      rw [List.append_nil]
      rfl
    have g := hk M2 σ2 (v (37 + (5 * r + c)), dgs m) ⟨hv, Or.inr ⟨m, by omega, by omega, rfl⟩⟩ (by unfold runN; rw [if_neg hne]; exact (dgs_ok (show m ≤ 999 by omega)).1) ⟨by rw [et]; exact b2.1, by rw [et]; exact b2.2⟩
    simp (disch := first | assumption | omega) only [z_bdn, z_caln, z_gdn, z_iT, z_iF, z_le_t, z_le_f, z_lt_t, z_lt_f, z_cl, z_inb, z_at, z_lit, nI_ii1, nI_add, z_mr, z_ref0, z_refn, z_eq_f, Bool.not_true, Bool.not_false, b2i_t, b2i_f, he, a1, b1]
    exact g
theorem lay_l401 {K : Int32 → Int32 → kx_M → Option (Int32 × kx_M)} {A : List Pc} {r q b : Nat} {rs : List (Nat × List Nat)} (hH : HOK hA v) (hr : r < 3) (hb : b + 32 ≤ 900) : ∀ (d n c m : Nat) (M : kx_M) (σ : Sg), c + 1 + d = v 0 → d < n → 1 ≤ m → m ≤ c + 1 → WB hA M σ (pcs (A ++ rowB q rs)) b →
    (∀ (M' : kx_M) (σ' : Sg) (x : Nat × List Nat) (c' m' : Nat), c' < v 0 → c' + m = c + m' → RunD x → runN x = m' → WB hA M' σ' (pcs (A ++ rowB q (rs ++ [x]))) (b + 10) → GL hA v (K (nI r) (nI (c' + 1)) M')) → GL hA v (f_LW_lay_l401 K n (nI r) (nI c) (nI m) M) := by
  have h0 := hH.2.1
  have e0 : ∀ (M : kx_M) (σ : Sg), WB hA M σ (pcs (A ++ rowB q rs)) b → mA M 136 0 = nI (v 0) := fun M σ hW => by rw [WB_h hW, hH.1 0 (by omega) (by omega)]
  intro d
  induction d with
  | zero =>
    intro n c m M σ hd hn hm hmc hW hk
    obtain ⟨n, rfl, hn⟩ := z_succ hn
    have e := e0 M σ hW
    have g := lay_l447 (K := K) (m := m) (c := c) hH hr (by omega) ⟨hm, by omega⟩ hW hb (fun M' σ' x h1 h2 h3 => hk M' σ' x c m (by omega) rfl h1 h2 h3)
    rw [f_LW_lay_l401]
    simp (disch := first | assumption | omega) only [z_bdn, z_caln, z_gdn, z_iT, z_iF, z_le_t, z_le_f, z_lt_t, z_lt_f, z_cl, z_inb, z_at, z_lit, nI_ii1, nI_add, z_mr, z_ref0, z_refn, z_eq_f, Bool.not_true, Bool.not_false, b2i_t, b2i_f, e]
    exact g
  | succ d ih =>
    intro n c m M σ hd hn hm hmc hW hk
    obtain ⟨n, rfl, hn⟩ := z_succ hn
    have e := e0 M σ hW
    have g := lay_l447 (K := K) (m := m) (c := c) hH hr (by omega) ⟨hm, by omega⟩ hW hb (fun M' σ' x h1 h2 h3 => hk M' σ' x c m (by omega) rfl h1 h2 h3)
    have g2 := ih n (c + 1) (m + 1) M σ (by omega) (by omega) (by omega) (by omega) hW (fun M' σ' x c' m' h1 h2 h3 h4 h5 => hk M' σ' x c' m' h1 (by omega) h3 h4 h5)
    rw [f_LW_lay_l401]
    simp (disch := first | assumption | omega) only [z_bdn, z_caln, z_gdn, z_iT, z_iF, z_le_t, z_le_f, z_lt_t, z_lt_f, z_cl, z_inb, z_at, z_lit, nI_ii1, nI_add, z_mr, z_ref0, z_refn, z_eq_f, Bool.not_true, Bool.not_false, b2i_t, b2i_f, e]
    split
    · exact g2
    · exact g
theorem lay_l390 {K : Int32 → kx_M → Option (Int32 × kx_M)} {A : List Pc} {r q b : Nat} (hH : HOK hA v) (hr : r < 3) (hb : b + 90 ≤ 900)
    (hk : ∀ (M' : kx_M) (σ' : Sg) (rs : List (Nat × List Nat)), (∀ x ∈ rs, RunD x) → (rs.map runN).sum = v 0 → rs.length ≤ 5 → WB hA M' σ' (pcs (A ++ (rowB q rs ++ [Zg]))) (b + 56) → GL hA v (K (nI (r + 1)) M')) : ∀ (d n c : Nat) (M : kx_M) (σ : Sg) (rs : List (Nat × List Nat)), c + d = v 0 → d < n → (∀ x ∈ rs, RunD x) → (rs.map runN).sum = c → rs.length ≤ c → WB hA M σ (pcs (A ++ rowB q rs)) (b + 10 * rs.length) → GL hA v (f_LW_lay_l390 K n (nI r) (nI c) M) := by
  have h0 := hH.2.1
  intro d
  induction d using Nat.strongRecOn with
  | _ d ih =>
    intro n c M σ rs hd hn hR hs hl hW
    obtain ⟨n, rfl, hn⟩ := z_succ hn
    have e : mA M 136 0 = nI (v 0) := by rw [WB_h hW, hH.1 0 (by omega) (by omega)]
    rw [f_LW_lay_l390]
    by_cases hz : v 0 ≤ c
    · obtain ⟨M1, σ1, a1, a2⟩ := b_say (j := 2) (by decide) hW (by omega)
      have et : pcs (A ++ (rowB q rs ++ [Zg])) = pcs (A ++ rowB q rs) ++ sbN 2 := by
        rw [← List.append_assoc, pcs_app, sbN_e.2.2.1]
        rfl
      have g := hk M1 σ1 rs hR (by omega) (by omega) ⟨by rw [et]; exact a2.1, by rw [et]; have := a2.2; omega⟩
      simp (disch := first | assumption | omega) only [z_bdn, z_caln, z_gdn, z_iT, z_iF, z_le_t, z_le_f, z_lt_t, z_lt_f, z_cl, z_inb, z_at, z_lit, nI_ii1, nI_add, z_mr, z_ref0, z_refn, z_eq_f, Bool.not_true, Bool.not_false, b2i_t, b2i_f, e, a1]
      exact g
    · have g := lay_l401 (K := f_LW_lay_l390 K n) (A := A) (q := q) (rs := rs) (b := b + 10 * rs.length) hH hr (by omega) (v 0 - (c + 1)) FU c 1 M σ (by omega) (FU_lt (by omega)) (Nat.le_refl _) (by omega) hW (fun M' σ' x c' m' h1 h2 h3 h4 h5 => by
        have hx := runN_pos (RunD_ok h3)
        refine ih (v 0 - (c' + 1)) (by omega) n (c' + 1) M' σ' (rs ++ [x]) (by omega) (by omega) (fun y hy => ?_) ?_ ?_ ?_
        · rcases List.mem_append.mp hy with h | h
          · exact hR y h
          · rw [List.mem_singleton.mp h]; exact h3
        · rw [List.map_append, List.sum_append]
          show _ + (runN x + 0) = _
          omega
        · rw [List.length_append]
          show rs.length + 1 ≤ c' + 1
          have := runN_pos (RunD_ok h3)
          omega
        · rw [List.length_append]
          show WB hA M' σ' _ (b + 10 * (rs.length + 1))
          rw [Nat.mul_add, ← Nat.add_assoc]
          exact h5)
      simp (disch := first | assumption | omega) only [z_bdn, z_caln, z_gdn, z_iT, z_iF, z_le_t, z_le_f, z_lt_t, z_lt_f, z_cl, z_inb, z_at, z_lit, nI_ii1, nI_add, z_mr, z_ref0, z_refn, z_eq_f, Bool.not_true, Bool.not_false, b2i_t, b2i_f, e]
      exact g
theorem lay_l360 {C : Nat} (hH : HOK hA v) (hC : C = v 3) : ∀ (d n r : Nat) (M : kx_M) (σ : Sg) (A : List Pc) (N : Nat), r + d = v 4 → d < n → LY hA M σ A (PT (v 0) (v 2) (v 3) r true true) (N + r) (530 + 65 * r) → N ≤ 900 → GL hA v (f_LW_lay_l360 n (nI r) M) := by
  have h0 := hH.2.1
  have h4 := hH.2.2.2.2.2.1
  have h2 := hH.2.2.2.1
  intro d
  induction d with
  | zero =>
    intro n r M σ A N hd hn hL hN
    obtain ⟨n, rfl, hn⟩ := z_succ hn
    obtain rfl : r = v 4 := by omega
    have e : mA M 136 4 = nI (v 4) := by rw [WB_h hL.1, hH.1 4 (by omega) (by omega)]
    obtain ⟨M1, σ1, a1, a2⟩ := lay_load hH hL (by omega) (by omega)
    have e1 : mA M1 136 4 = nI (v 4) := by rw [a2.2.1, hH.1 4 (by omega) (by omega)]
    refine ⟨M1, σ1, ?_, a2⟩
    rw [f_LW_lay_l360]
    simp (disch := first | assumption | omega) only [z_bdn, z_caln, z_gdn, z_iT, z_iF, z_le_t, z_le_f, z_lt_t, z_lt_f, z_cl, z_inb, z_at, z_lit, nI_ii1, nI_add, z_mr, z_ref0, z_refn, z_eq_f, Bool.not_true, Bool.not_false, b2i_t, b2i_f, e, a1, e1]
  | succ d ih =>
    intro n r M σ A N hd hn hL hN
    obtain ⟨n, rfl, hn⟩ := z_succ hn
    have e : mA M 136 4 = nI (v 4) := by rw [WB_h hL.1, hH.1 4 (by omega) (by omega)]
    obtain ⟨M1, σ1, a1, a2⟩ := b_say (j := 14) (by decide) hL.1 (by omega)
    have e1 : mA M1 136 (34 + r) = nI (v (34 + r)) := by rw [WB_h a2, hH.1 (34 + r) (by omega) (by omega)]
    have hq := hH.2.2.2.2.2.2.2.2.2.2.1 r (by omega)
    obtain ⟨M2, σ2, b1, b2⟩ := b_nm (c := 113) (k := v (34 + r)) (by decide) (by omega) a2 (by omega)
    have et : pcs (A ++ rowB (v (34 + r)) []) = pcs A ++ sbN 14 ++ [32, 113, 97 + v (34 + r)] := by
      rw [pcs_app, sbN_e.2.2.2.2.2.2.2.2.2.2.2.2.2.2, List.append_assoc]
      rfl
    have g := lay_l390 (K := f_LW_lay_l360 n) (A := A) (q := v (34 + r)) (b := 530 + 65 * r + 9) hH (show r < 3 by omega) (by omega) (fun M' σ' rs g1 g2 g3 g4 => by
      have hst := st_row (C := v 3) (R := r) (rs := rs) (show v 0 ≤ 8 by omega) h2.2 hq (by omega) g1 g2 (by omega)
      have hp := PG_step hL.2 hst
      exact ih n (r + 1) M' σ' _ N (by omega) (by omega) ⟨⟨g4.1, by have := g4.2; omega⟩, hp⟩ hN) (v 0) FU 0 M2 σ2 [] (by omega) (FU_lt (by omega)) (fun x hx => absurd hx List.not_mem_nil) rfl (Nat.le_refl _) ⟨by rw [et]; exact b2.1, by rw [et]; exact b2.2⟩
    rw [f_LW_lay_l360]
    simp (disch := first | assumption | omega) only [z_bdn, z_caln, z_gdn, z_iT, z_iF, z_le_t, z_le_f, z_lt_t, z_lt_f, z_cl, z_inb, z_at, z_lit, nI_ii1, nI_add, z_mr, z_ref0, z_refn, z_eq_f, Bool.not_true, Bool.not_false, b2i_t, b2i_f, e, a1, e1, b1]
    exact g
end
