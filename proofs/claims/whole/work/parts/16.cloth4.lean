theorem s_openRow {w : kx_W} {d : Nat} {M : kx_M} {Q : Option Value → kx_M → Prop} {r W row : Nat} {T : Int32} (hL : L_Cloth r) (hW : mI M r 5 = nI W) (b1 : W ≤ 8) (b4 : row ≤ 11) (hT : mI M r 6 = T)
    (hQ : Q (some (.int (openN (mA M (r + 5)) (mA M (r + 3)) (mA M (r + 4)) T row W).1)) (sA M (r + 4) (openN (mA M (r + 5)) (mA M (r + 3)) (mA M (r + 4)) T row W).2)) : Ct w (d + 1) m_Cloth_openRow [.ref r, .int (nI row)] M Q := by
  have hL0 := hL
  obtain ⟨hr, hr1, hr2, hr3, hr4, hr5⟩ := hL
  refine mk_ct ok_Cloth_openRow (Nat.le_of_ble_eq_true rfl) (fun G F => ?_)
  have loop : ∀ (k i : Nat) (f : Int32) (M' : kx_M), i + k = W → f = (openN (mA M (r + 5)) (mA M (r + 3)) (mA M (r + 4)) T row i).1 → M' = sA M (r + 4) (openN (mA M (r + 5)) (mA M (r + 3)) (mA M (r + 4)) T row i).2 → G 4 [some (.ref r), some (.int (nI row)), some (.int f), some (.int (nI i)), none] [] M' := by
    intro k
    induction k with
    | zero =>
      intro i f M' hi hf hM
      obtain rfl : i = W := by omega
      refine x_iload_n F.1 (i := 4) rfl rfl ?_
      refine x_aload_n F.1 (i := 5) rfl rfl ?_
      refine x_getI F.1 (i := 6) rfl fl_Cloth_27 (by first | assumption | rfl) (by rfl) ?_
      rw [show mI M' r 5 = nI W from by rw [hM]; exact hW]
      refine x_icmpn_ge F.1 (i := 7) (tgt := 59) rfl (by decide) (by omega) (by omega) (fun _ => ?_) (fun h9 => absurd (Nat.le_refl _) h9)
      refine x_iload_n F.1 (i := 31) rfl rfl ?_
      refine x_iret F (i := 32) rfl rfl ?_
      subst hf
      subst hM
      exact hQ
    | succ k ih =>
      intro i f M' hi hf hM
      have hd : mA M' (r + 5) = (mA M (r + 5)) := by rw [hM, mA_ne (by omega)]
      have hw : mA M' (r + 3) = (mA M (r + 3)) := by rw [hM, mA_ne (by omega)]
      have hu : mA M' (r + 4) = (openN (mA M (r + 5)) (mA M (r + 3)) (mA M (r + 4)) T row i).2 := by rw [hM, mA_eq]
      refine x_iload_n F.1 (i := 4) rfl rfl ?_
      refine x_aload_n F.1 (i := 5) rfl rfl ?_
      refine x_getI F.1 (i := 6) rfl fl_Cloth_27 (by first | assumption | rfl) (by rfl) ?_
      rw [show mI M' r 5 = nI W from by rw [hM]; exact hW]
      refine x_icmpn_ge F.1 (i := 7) (tgt := 59) rfl (by decide) (by omega) (by omega) (fun h9 => absurd h9 (show ¬ W ≤ i by omega)) (fun _ => ?_)
      refine x_iload_n F.1 (i := 8) rfl rfl ?_
      refine x_iload_n F.1 (i := 9) rfl rfl ?_
      refine x_inS2 F.1 (i := 10) rfl ml_Cloth_46 ok_Cloth_at (Nat.le_of_ble_eq_true rfl) (Nat.le_of_ble_eq_true rfl) (mk_ct ok_Cloth_at (Nat.le_of_ble_eq_true rfl) (fun G1 F1 => ?_))
      refine x_iload_n F1.1 (i := 0) rfl rfl ?_
      refine x_bipush F1.1 (i := 1) rfl bp_8 ?_
      refine x_imul F1.1 (i := 2) rfl ?_
      refine x_iload_n F1.1 (i := 3) rfl rfl ?_
      refine x_iadd F1.1 (i := 4) rfl ?_
      refine x_iret F1 (i := 5) rfl rfl ?_
      refine x_nm (v' := nI (8 * row + i)) (by first | rfl | (simp only [nI_lit, nI_add, nI_mul, nI_ii1]; done) | (simp only [nI_lit, nI_add, nI_mul, nI_ii1]; congr 1; omega)) ?_
      refine x_istore F.1 (i := 11) rfl (Nat.le_of_ble_eq_true rfl) (Nat.le_of_ble_eq_true rfl) rfl ?_
      refine x_aload_n F.1 (i := 12) rfl rfl ?_
      refine x_iload F.1 (i := 13) rfl rfl ?_
      refine x_inV1 F.1 (i := 14) rfl ml_Cloth_61 ok_Cloth_loose (by first | assumption | rfl) (Nat.le_of_ble_eq_true rfl) (Nat.le_of_ble_eq_true rfl) (s_loose hL0 (by omega) ?_)
      refine x_ifb_eq F.1 (i := 15) (tgt := 53) rfl (by decide) (fun h25 => ?_) (fun h25 => ?_)
      · refine x_iinc F.1 (i := 29) rfl rfl (nI_ii1 i) (Nat.le_of_ble_eq_true rfl) rfl ?_
        refine x_goto F.1 (i := 30) (tgt := 4) rfl (by decide) ?_
        first
          | exact x_wk F.1 (ih (i + 1) (f + 1) _ (by omega) (by simp only [openN]; rw [if_pos ⟨by rw [← hu, ← hd]; exact h25, by rw [← hw]; exact Int32.not_lt.mp h39⟩, hf]) (by simp only [openN]; rw [if_pos ⟨by rw [← hu, ← hd]; exact h25, by rw [← hw]; exact Int32.not_lt.mp h39⟩, hu, hM, sA_sA])) ⟨rfl, rfl, rfl, rfl, trivial⟩
          | exact x_wk F.1 (ih (i + 1) f _ (by omega) (by simp only [openN]; rw [if_neg (by rw [← hu, ← hd, h25]; simp), hf]) (by simp only [openN]; rw [if_neg (by rw [← hu, ← hd, h25]; simp), hM])) ⟨rfl, rfl, rfl, rfl, trivial⟩
          | exact x_wk F.1 (ih (i + 1) f _ (by omega) (by simp only [openN]; rw [if_neg (by rw [← hw]; intro h; exact absurd h39 (Int32.not_lt.mpr h.2)), hf]) (by simp only [openN]; rw [if_neg (by rw [← hw]; intro h; exact absurd h39 (Int32.not_lt.mpr h.2)), hM])) ⟨rfl, rfl, rfl, rfl, trivial⟩
      · refine x_aload_n F.1 (i := 16) rfl rfl ?_
        refine x_getC F.1 (i := 17) rfl fl_Cloth_18 (by first | assumption | rfl) (by rfl) ?_
        refine x_iload F.1 (i := 18) rfl rfl ?_
        refine x_ialdn F.1 (i := 19) rfl (by first | assumption | rfl) (by omega) (by decide) ?_
        refine x_aload_n F.1 (i := 20) rfl rfl ?_
        refine x_getI F.1 (i := 21) rfl fl_Cloth_31 (by first | assumption | rfl) (by rfl) ?_
        rw [show mI M' r 6 = T from by rw [hM]; exact hT]
        refine x_icmp_lt F.1 (i := 22) (tgt := 53) rfl (by decide) (fun h39 => ?_) (fun h39 => ?_)
        · refine x_iinc F.1 (i := 29) rfl rfl (nI_ii1 i) (Nat.le_of_ble_eq_true rfl) rfl ?_
          refine x_goto F.1 (i := 30) (tgt := 4) rfl (by decide) ?_
          first
            | exact x_wk F.1 (ih (i + 1) (f + 1) _ (by omega) (by simp only [openN]; rw [if_pos ⟨by rw [← hu, ← hd]; exact h25, by rw [← hw]; exact Int32.not_lt.mp h39⟩, hf]) (by simp only [openN]; rw [if_pos ⟨by rw [← hu, ← hd]; exact h25, by rw [← hw]; exact Int32.not_lt.mp h39⟩, hu, hM, sA_sA])) ⟨rfl, rfl, rfl, rfl, trivial⟩
            | exact x_wk F.1 (ih (i + 1) f _ (by omega) (by simp only [openN]; rw [if_neg (by rw [← hu, ← hd, h25]; simp), hf]) (by simp only [openN]; rw [if_neg (by rw [← hu, ← hd, h25]; simp), hM])) ⟨rfl, rfl, rfl, rfl, trivial⟩
            | exact x_wk F.1 (ih (i + 1) f _ (by omega) (by simp only [openN]; rw [if_neg (by rw [← hw]; intro h; exact absurd h39 (Int32.not_lt.mpr h.2)), hf]) (by simp only [openN]; rw [if_neg (by rw [← hw]; intro h; exact absurd h39 (Int32.not_lt.mpr h.2)), hM])) ⟨rfl, rfl, rfl, rfl, trivial⟩
        · refine x_aload_n F.1 (i := 23) rfl rfl ?_
          refine x_getC F.1 (i := 24) rfl fl_Cloth_21 (by first | assumption | rfl) (by rfl) ?_
          refine x_iload F.1 (i := 25) rfl rfl ?_
          refine x_iconst F.1 (i := 26) rfl ic_1 ?_
          refine x_iastn F.1 (i := 27) rfl (by first | assumption | rfl) (by omega) (by decide) ?_
          refine x_iinc F.1 (i := 28) rfl rfl (by rw [ic_1] : f + Int32.ofInt 1 = f + 1) (Nat.le_of_ble_eq_true rfl) rfl ?_
          refine x_iinc F.1 (i := 29) rfl rfl (nI_ii1 i) (Nat.le_of_ble_eq_true rfl) rfl ?_
          refine x_goto F.1 (i := 30) (tgt := 4) rfl (by decide) ?_
          first
            | exact x_wk F.1 (ih (i + 1) (f + 1) _ (by omega) (by simp only [openN]; rw [if_pos ⟨by rw [← hu, ← hd]; exact h25, by rw [← hw]; exact Int32.not_lt.mp h39⟩, hf]) (by simp only [openN]; rw [if_pos ⟨by rw [← hu, ← hd]; exact h25, by rw [← hw]; exact Int32.not_lt.mp h39⟩, hu, hM, sA_sA])) ⟨rfl, rfl, rfl, rfl, trivial⟩
            | exact x_wk F.1 (ih (i + 1) f _ (by omega) (by simp only [openN]; rw [if_neg (by rw [← hu, ← hd, h25]; simp), hf]) (by simp only [openN]; rw [if_neg (by rw [← hu, ← hd, h25]; simp), hM])) ⟨rfl, rfl, rfl, rfl, trivial⟩
            | exact x_wk F.1 (ih (i + 1) f _ (by omega) (by simp only [openN]; rw [if_neg (by rw [← hw]; intro h; exact absurd h39 (Int32.not_lt.mpr h.2)), hf]) (by simp only [openN]; rw [if_neg (by rw [← hw]; intro h; exact absurd h39 (Int32.not_lt.mpr h.2)), hM])) ⟨rfl, rfl, rfl, rfl, trivial⟩
  refine x_iconst F.1 (i := 0) rfl ic_0 ?_
  refine x_istore_n F.1 (i := 1) rfl (Nat.le_of_ble_eq_true rfl) (Nat.le_of_ble_eq_true rfl) rfl ?_
  refine x_iconst F.1 (i := 2) rfl ic_0 ?_
  refine x_istore_n F.1 (i := 3) rfl (Nat.le_of_ble_eq_true rfl) (Nat.le_of_ble_eq_true rfl) rfl ?_
  exact x_wk F.1 (loop W 0 0 M (by omega) rfl sA_self.symm) ⟨rfl, rfl, rfl, rfl, trivial⟩
theorem s_patch {w : kx_W} {d : Nat} {M : kx_M} {Q : Option Value → kx_M → Prop} {r row c : Nat} (hL : L_Cloth r) (b4 : row ≤ 11) (b5 : c ≤ 7)
    (hQ : Q (some (.int (mA M (r + 3) (8 * row + c)))) (sA (sA (sA M (r + 3) (upd (mA M (r + 3)) (8 * row + c) 0)) (r + 4) (upd (mA M (r + 4)) (8 * row + c) 0)) (r + 5) (upd (mA M (r + 5)) (8 * row + c) 1))) : Ct w (d + 1) m_Cloth_patch [.ref r, .int (nI row), .int (nI c)] M Q := by
  have hL0 := hL
  obtain ⟨hr, hr1, hr2, hr3, hr4, hr5⟩ := hL
  refine mk_ct ok_Cloth_patch (Nat.le_of_ble_eq_true rfl) (fun G F => ?_)
  refine x_iload_n F.1 (i := 0) rfl rfl ?_
  refine x_iload_n F.1 (i := 1) rfl rfl ?_
  refine x_inS2 F.1 (i := 2) rfl ml_Cloth_46 ok_Cloth_at (Nat.le_of_ble_eq_true rfl) (Nat.le_of_ble_eq_true rfl) (mk_ct ok_Cloth_at (Nat.le_of_ble_eq_true rfl) (fun G1 F1 => ?_))
  refine x_iload_n F1.1 (i := 0) rfl rfl ?_
  refine x_bipush F1.1 (i := 1) rfl bp_8 ?_
  refine x_imul F1.1 (i := 2) rfl ?_
  refine x_iload_n F1.1 (i := 3) rfl rfl ?_
  refine x_iadd F1.1 (i := 4) rfl ?_
  refine x_iret F1 (i := 5) rfl rfl ?_
  refine x_nm (v' := nI (8 * row + c)) (by first | rfl | (simp only [nI_lit, nI_add, nI_mul, nI_ii1]; done) | (simp only [nI_lit, nI_add, nI_mul, nI_ii1]; congr 1; omega)) ?_
  refine x_istore_n F.1 (i := 3) rfl (Nat.le_of_ble_eq_true rfl) (Nat.le_of_ble_eq_true rfl) rfl ?_
  refine x_aload_n F.1 (i := 4) rfl rfl ?_
  refine x_getC F.1 (i := 5) rfl fl_Cloth_18 (by first | assumption | rfl) (by rfl) ?_
  refine x_iload_n F.1 (i := 6) rfl rfl ?_
  refine x_ialdn F.1 (i := 7) rfl (by first | assumption | rfl) (by omega) (by decide) ?_
  refine x_istore F.1 (i := 8) rfl (Nat.le_of_ble_eq_true rfl) (Nat.le_of_ble_eq_true rfl) rfl ?_
  refine x_aload_n F.1 (i := 9) rfl rfl ?_
  refine x_getC F.1 (i := 10) rfl fl_Cloth_18 (by first | assumption | rfl) (by rfl) ?_
  refine x_iload_n F.1 (i := 11) rfl rfl ?_
  refine x_iconst F.1 (i := 12) rfl ic_0 ?_
  refine x_iastn F.1 (i := 13) rfl (by first | assumption | rfl) (by omega) (by decide) ?_
  refine x_aload_n F.1 (i := 14) rfl rfl ?_
  refine x_getC F.1 (i := 15) rfl fl_Cloth_21 (by first | assumption | rfl) (by rfl) ?_
  refine x_iload_n F.1 (i := 16) rfl rfl ?_
  refine x_iconst F.1 (i := 17) rfl ic_0 ?_
  refine x_iastn F.1 (i := 18) rfl (by first | assumption | rfl) (by omega) (by decide) ?_
  refine x_aload_n F.1 (i := 19) rfl rfl ?_
  refine x_getC F.1 (i := 20) rfl fl_Cloth_24 (by first | assumption | rfl) (by rfl) ?_
  refine x_iload_n F.1 (i := 21) rfl rfl ?_
  refine x_iconst F.1 (i := 22) rfl ic_1 ?_
  refine x_iastn F.1 (i := 23) rfl (by first | assumption | rfl) (by omega) (by decide) ?_
  refine x_iload F.1 (i := 24) rfl rfl ?_
  refine x_iret F (i := 25) rfl rfl ?_
  rw [mA_ne (by omega), mA_ne (by omega), mA_ne (by omega)]
  exact hQ
theorem s_withLadders {w : kx_W} {d : Nat} {M : kx_M} {Q : Option Value → kx_M → Prop} {r W R : Nat} {f0 : Int32} (hL : L_Cloth r) (hW : mI M r 5 = nI W) (hR : mI M r 7 = nI R) (b1 : W ≤ 8) (b2 : R ≤ 12)
    (hQ : Q (some (.int (lads (mA M (r + 2)) (mA M (r + 5)) W R (f0, (mA M (r + 4)))).1)) (sA M (r + 4) (lads (mA M (r + 2)) (mA M (r + 5)) W R (f0, (mA M (r + 4)))).2)) : Ct w (d + 1) m_Cloth_withLadders [.ref r, .int f0] M Q := by
  have hL0 := hL
  obtain ⟨hr, hr1, hr2, hr3, hr4, hr5⟩ := hL
  refine mk_ct ok_Cloth_withLadders (Nat.le_of_ble_eq_true rfl) (fun G F => ?_)
  have outer : ∀ (k j : Nat) (a : Int32) (M' : kx_M), j + k = R - 1 → a = (ladR (mA M (r + 2)) (mA M (r + 5)) W (f0, (mA M (r + 4))) j).1 → M' = sA M (r + 4) (ladR (mA M (r + 2)) (mA M (r + 5)) W (f0, (mA M (r + 4))) j).2 → G 10 [some (.ref r), some (.int f0), some (.int a), some (.int (nI (j + 1))), none, none] [] M' := by
    intro k
    induction k with
    | zero =>
      intro j a M' hi ha hM
      have hj : j = R - 1 := by omega
      subst hj
      refine x_iload_n F.1 (i := 8) rfl rfl ?_
      refine x_aload_n F.1 (i := 9) rfl rfl ?_
      refine x_getI F.1 (i := 10) rfl fl_Cloth_34 (by first | assumption | rfl) (by rfl) ?_
      rw [show mI M' r 7 = nI R from by rw [hM]; exact hR]
      refine x_icmpn_ge F.1 (i := 11) (tgt := 94) rfl (by decide) (by omega) (by omega) (fun _ => ?_) (fun h9 => absurd (show R ≤ R - 1 + 1 by omega) h9)
      refine x_iload_n F.1 (i := 49) rfl rfl ?_
      refine x_iret F (i := 50) rfl rfl ?_
      subst ha
      subst hM
      have e : lads (mA M (r + 2)) (mA M (r + 5)) W R (f0, (mA M (r + 4))) = ladR (mA M (r + 2)) (mA M (r + 5)) W (f0, (mA M (r + 4))) (R - 1) := by unfold lads; rw [if_neg h1]
      rw [e] at hQ
      exact hQ
    | succ k ih =>
      intro j a M' hi ha hM
      have inner : ∀ (k x : Nat) (a : Int32) (M' : kx_M), x + k = W → a = (ladX (mA M (r + 2)) (mA M (r + 5)) (j + 1) (ladR (mA M (r + 2)) (mA M (r + 5)) W (f0, (mA M (r + 4))) j) x).1 → M' = sA M (r + 4) (ladX (mA M (r + 2)) (mA M (r + 5)) (j + 1) (ladR (mA M (r + 2)) (mA M (r + 5)) W (f0, (mA M (r + 4))) j) x).2 → G 21 [some (.ref r), some (.int f0), some (.int a), some (.int (nI (j + 1))), some (.int (nI x)), none] [] M' := by
        intro k
        induction k with
        | zero =>
          intro x a M' hi ha hM
          obtain rfl : x = W := by omega
          refine x_iload F.1 (i := 14) rfl rfl ?_
          refine x_aload_n F.1 (i := 15) rfl rfl ?_
          refine x_getI F.1 (i := 16) rfl fl_Cloth_27 (by first | assumption | rfl) (by rfl) ?_
          rw [show mI M' r 5 = nI W from by rw [hM]; exact hW]
          refine x_icmpn_ge F.1 (i := 17) (tgt := 88) rfl (by decide) (by omega) (by omega) (fun _ => ?_) (fun h9 => absurd (Nat.le_refl _) h9)
          refine x_iinc F.1 (i := 47) rfl rfl (nI_ii1 (j + 1)) (Nat.le_of_ble_eq_true rfl) rfl ?_
          refine x_goto F.1 (i := 48) (tgt := 10) rfl (by decide) ?_
          exact x_wk F.1 (ih (j + 1) a _ (by omega) ha hM) ⟨rfl, rfl, rfl, rfl, trivial⟩
        | succ k ih2 =>
          intro x a M' hi ha hM
          have hk : mA M' (r + 2) = (mA M (r + 2)) := by rw [hM, mA_ne (by omega)]
          have hd : mA M' (r + 5) = (mA M (r + 5)) := by rw [hM, mA_ne (by omega)]
          have hu : mA M' (r + 4) = (ladX (mA M (r + 2)) (mA M (r + 5)) (j + 1) (ladR (mA M (r + 2)) (mA M (r + 5)) W (f0, (mA M (r + 4))) j) x).2 := by rw [hM, mA_eq]
          refine x_iload F.1 (i := 14) rfl rfl ?_
          refine x_aload_n F.1 (i := 15) rfl rfl ?_
          refine x_getI F.1 (i := 16) rfl fl_Cloth_27 (by first | assumption | rfl) (by rfl) ?_
          rw [show mI M' r 5 = nI W from by rw [hM]; exact hW]
          refine x_icmpn_ge F.1 (i := 17) (tgt := 88) rfl (by decide) (by omega) (by omega) (fun h9 => absurd h9 (show ¬ W ≤ x by omega)) (fun _ => ?_)
          refine x_iload_n F.1 (i := 18) rfl rfl ?_
          refine x_iload F.1 (i := 19) rfl rfl ?_
          refine x_inS2 F.1 (i := 20) rfl ml_Cloth_46 ok_Cloth_at (Nat.le_of_ble_eq_true rfl) (Nat.le_of_ble_eq_true rfl) (mk_ct ok_Cloth_at (Nat.le_of_ble_eq_true rfl) (fun G1 F1 => ?_))
          refine x_iload_n F1.1 (i := 0) rfl rfl ?_
          refine x_bipush F1.1 (i := 1) rfl bp_8 ?_
          refine x_imul F1.1 (i := 2) rfl ?_
          refine x_iload_n F1.1 (i := 3) rfl rfl ?_
          refine x_iadd F1.1 (i := 4) rfl ?_
          refine x_iret F1 (i := 5) rfl rfl ?_
          refine x_nm (v' := nI (8 * (j + 1) + x)) (by first | rfl | (simp only [nI_lit, nI_add, nI_mul, nI_ii1]; done) | (simp only [nI_lit, nI_add, nI_mul, nI_ii1]; congr 1; omega)) ?_
          refine x_istore F.1 (i := 21) rfl (Nat.le_of_ble_eq_true rfl) (Nat.le_of_ble_eq_true rfl) rfl ?_
          refine x_aload_n F.1 (i := 22) rfl rfl ?_
          refine x_getC F.1 (i := 23) rfl fl_Cloth_15 (by first | assumption | rfl) (by rfl) ?_
          refine x_iload F.1 (i := 24) rfl rfl ?_
          refine x_ialdn F.1 (i := 25) rfl (by first | assumption | rfl) (by omega) (by decide) ?_
          refine x_if_ne F.1 (i := 26) (tgt := 82) rfl (by decide) (fun h45 => ?_) (fun h45 => ?_)
          · refine x_iinc F.1 (i := 45) rfl rfl (nI_ii1 x) (Nat.le_of_ble_eq_true rfl) rfl ?_
            refine x_goto F.1 (i := 46) (tgt := 21) rfl (by decide) ?_
            first
              | exact x_wk F.1 (ih2 (x + 1) (a + 1) _ (by omega) (by simp only [ladX]; rw [if_pos ⟨by rw [← hk]; exact h45, by rw [← hu, ← hd]; exact h54, by rw [← hu]; exact h68⟩, ha]) (by simp only [ladX]; rw [if_pos ⟨by rw [← hk]; exact h45, by rw [← hu, ← hd]; exact h54, by rw [← hu]; exact h68⟩, hu, hM, sA_sA])) ⟨rfl, rfl, rfl, rfl, rfl, trivial⟩
              | exact x_wk F.1 (ih2 (x + 1) a _ (by omega) (by simp only [ladX]; rw [if_neg (by rw [← hk]; exact fun h => h45 h.1), ha]) (by simp only [ladX]; rw [if_neg (by rw [← hk]; exact fun h => h45 h.1), hM])) ⟨rfl, rfl, rfl, rfl, rfl, trivial⟩
              | exact x_wk F.1 (ih2 (x + 1) a _ (by omega) (by simp only [ladX]; rw [if_neg (by rw [← hu, ← hd, h54]; simp), ha]) (by simp only [ladX]; rw [if_neg (by rw [← hu, ← hd, h54]; simp), hM])) ⟨rfl, rfl, rfl, rfl, rfl, trivial⟩
              | exact x_wk F.1 (ih2 (x + 1) a _ (by omega) (by simp only [ladX]; rw [if_neg (by rw [← hu]; exact fun h => h68 h.2.2), ha]) (by simp only [ladX]; rw [if_neg (by rw [← hu]; exact fun h => h68 h.2.2), hM])) ⟨rfl, rfl, rfl, rfl, rfl, trivial⟩
          · refine x_aload_n F.1 (i := 27) rfl rfl ?_
            refine x_iload F.1 (i := 28) rfl rfl ?_
            refine x_inV1 F.1 (i := 29) rfl ml_Cloth_61 ok_Cloth_loose (by first | assumption | rfl) (Nat.le_of_ble_eq_true rfl) (Nat.le_of_ble_eq_true rfl) (s_loose hL0 (by omega) ?_)
            refine x_ifb_eq F.1 (i := 30) (tgt := 82) rfl (by decide) (fun h54 => ?_) (fun h54 => ?_)
            · refine x_iinc F.1 (i := 45) rfl rfl (nI_ii1 x) (Nat.le_of_ble_eq_true rfl) rfl ?_
              refine x_goto F.1 (i := 46) (tgt := 21) rfl (by decide) ?_
              first
                | exact x_wk F.1 (ih2 (x + 1) (a + 1) _ (by omega) (by simp only [ladX]; rw [if_pos ⟨by rw [← hk]; exact h45, by rw [← hu, ← hd]; exact h54, by rw [← hu]; exact h68⟩, ha]) (by simp only [ladX]; rw [if_pos ⟨by rw [← hk]; exact h45, by rw [← hu, ← hd]; exact h54, by rw [← hu]; exact h68⟩, hu, hM, sA_sA])) ⟨rfl, rfl, rfl, rfl, rfl, trivial⟩
                | exact x_wk F.1 (ih2 (x + 1) a _ (by omega) (by simp only [ladX]; rw [if_neg (by rw [← hk]; exact fun h => h45 h.1), ha]) (by simp only [ladX]; rw [if_neg (by rw [← hk]; exact fun h => h45 h.1), hM])) ⟨rfl, rfl, rfl, rfl, rfl, trivial⟩
                | exact x_wk F.1 (ih2 (x + 1) a _ (by omega) (by simp only [ladX]; rw [if_neg (by rw [← hu, ← hd, h54]; simp), ha]) (by simp only [ladX]; rw [if_neg (by rw [← hu, ← hd, h54]; simp), hM])) ⟨rfl, rfl, rfl, rfl, rfl, trivial⟩
                | exact x_wk F.1 (ih2 (x + 1) a _ (by omega) (by simp only [ladX]; rw [if_neg (by rw [← hu]; exact fun h => h68 h.2.2), ha]) (by simp only [ladX]; rw [if_neg (by rw [← hu]; exact fun h => h68 h.2.2), hM])) ⟨rfl, rfl, rfl, rfl, rfl, trivial⟩
            · refine x_aload_n F.1 (i := 31) rfl rfl ?_
              refine x_getC F.1 (i := 32) rfl fl_Cloth_21 (by first | assumption | rfl) (by rfl) ?_
              refine x_iload F.1 (i := 33) rfl rfl ?_
              refine x_bipush F.1 (i := 34) rfl bp_8 ?_
              refine x_isub F.1 (i := 35) rfl ?_
              refine x_nm (v' := nI (8 * (j + 1) + x - 8)) (nI_subI (b := 8) (by omega)) ?_
              refine x_ialdn F.1 (i := 36) rfl (by first | assumption | rfl) (by omega) (by decide) ?_
              refine x_iconst F.1 (i := 37) rfl ic_1 ?_
              refine x_icmp_ne F.1 (i := 38) (tgt := 82) rfl (by decide) (fun h68 => ?_) (fun h68 => ?_)
              · refine x_iinc F.1 (i := 45) rfl rfl (nI_ii1 x) (Nat.le_of_ble_eq_true rfl) rfl ?_
                refine x_goto F.1 (i := 46) (tgt := 21) rfl (by decide) ?_
                first
                  | exact x_wk F.1 (ih2 (x + 1) (a + 1) _ (by omega) (by simp only [ladX]; rw [if_pos ⟨by rw [← hk]; exact h45, by rw [← hu, ← hd]; exact h54, by rw [← hu]; exact h68⟩, ha]) (by simp only [ladX]; rw [if_pos ⟨by rw [← hk]; exact h45, by rw [← hu, ← hd]; exact h54, by rw [← hu]; exact h68⟩, hu, hM, sA_sA])) ⟨rfl, rfl, rfl, rfl, rfl, trivial⟩
                  | exact x_wk F.1 (ih2 (x + 1) a _ (by omega) (by simp only [ladX]; rw [if_neg (by rw [← hk]; exact fun h => h45 h.1), ha]) (by simp only [ladX]; rw [if_neg (by rw [← hk]; exact fun h => h45 h.1), hM])) ⟨rfl, rfl, rfl, rfl, rfl, trivial⟩
                  | exact x_wk F.1 (ih2 (x + 1) a _ (by omega) (by simp only [ladX]; rw [if_neg (by rw [← hu, ← hd, h54]; simp), ha]) (by simp only [ladX]; rw [if_neg (by rw [← hu, ← hd, h54]; simp), hM])) ⟨rfl, rfl, rfl, rfl, rfl, trivial⟩
                  | exact x_wk F.1 (ih2 (x + 1) a _ (by omega) (by simp only [ladX]; rw [if_neg (by rw [← hu]; exact fun h => h68 h.2.2), ha]) (by simp only [ladX]; rw [if_neg (by rw [← hu]; exact fun h => h68 h.2.2), hM])) ⟨rfl, rfl, rfl, rfl, rfl, trivial⟩
              · refine x_aload_n F.1 (i := 39) rfl rfl ?_
                refine x_getC F.1 (i := 40) rfl fl_Cloth_21 (by first | assumption | rfl) (by rfl) ?_
                refine x_iload F.1 (i := 41) rfl rfl ?_
                refine x_iconst F.1 (i := 42) rfl ic_1 ?_
                refine x_iastn F.1 (i := 43) rfl (by first | assumption | rfl) (by omega) (by decide) ?_
                refine x_iinc F.1 (i := 44) rfl rfl (by rw [ic_1] : a + Int32.ofInt 1 = a + 1) (Nat.le_of_ble_eq_true rfl) rfl ?_
                refine x_iinc F.1 (i := 45) rfl rfl (nI_ii1 x) (Nat.le_of_ble_eq_true rfl) rfl ?_
                refine x_goto F.1 (i := 46) (tgt := 21) rfl (by decide) ?_
                first
                  | exact x_wk F.1 (ih2 (x + 1) (a + 1) _ (by omega) (by simp only [ladX]; rw [if_pos ⟨by rw [← hk]; exact h45, by rw [← hu, ← hd]; exact h54, by rw [← hu]; exact h68⟩, ha]) (by simp only [ladX]; rw [if_pos ⟨by rw [← hk]; exact h45, by rw [← hu, ← hd]; exact h54, by rw [← hu]; exact h68⟩, hu, hM, sA_sA])) ⟨rfl, rfl, rfl, rfl, rfl, trivial⟩
                  | exact x_wk F.1 (ih2 (x + 1) a _ (by omega) (by simp only [ladX]; rw [if_neg (by rw [← hk]; exact fun h => h45 h.1), ha]) (by simp only [ladX]; rw [if_neg (by rw [← hk]; exact fun h => h45 h.1), hM])) ⟨rfl, rfl, rfl, rfl, rfl, trivial⟩
                  | exact x_wk F.1 (ih2 (x + 1) a _ (by omega) (by simp only [ladX]; rw [if_neg (by rw [← hu, ← hd, h54]; simp), ha]) (by simp only [ladX]; rw [if_neg (by rw [← hu, ← hd, h54]; simp), hM])) ⟨rfl, rfl, rfl, rfl, rfl, trivial⟩
                  | exact x_wk F.1 (ih2 (x + 1) a _ (by omega) (by simp only [ladX]; rw [if_neg (by rw [← hu]; exact fun h => h68 h.2.2), ha]) (by simp only [ladX]; rw [if_neg (by rw [← hu]; exact fun h => h68 h.2.2), hM])) ⟨rfl, rfl, rfl, rfl, rfl, trivial⟩
      refine x_iload_n F.1 (i := 8) rfl rfl ?_
      refine x_aload_n F.1 (i := 9) rfl rfl ?_
      refine x_getI F.1 (i := 10) rfl fl_Cloth_34 (by first | assumption | rfl) (by rfl) ?_
      rw [show mI M' r 7 = nI R from by rw [hM]; exact hR]
      refine x_icmpn_ge F.1 (i := 11) (tgt := 94) rfl (by decide) (by omega) (by omega) (fun h9 => absurd h9 (show ¬ R ≤ j + 1 by omega)) (fun _ => ?_)
      refine x_iconst F.1 (i := 12) rfl ic_0 ?_
      refine x_istore F.1 (i := 13) rfl (Nat.le_of_ble_eq_true rfl) (Nat.le_of_ble_eq_true rfl) rfl ?_
      exact x_wk F.1 (inner W 0 a M' (by omega) ha hM) ⟨rfl, rfl, rfl, rfl, rfl, trivial⟩
  refine x_iload_n F.1 (i := 0) rfl rfl ?_
  refine x_if_ne F.1 (i := 1) (tgt := 6) rfl (by decide) (fun h1 => ?_) (fun h1 => ?_)
  · refine x_iload_n F.1 (i := 4) rfl rfl ?_
    refine x_istore_n F.1 (i := 5) rfl (Nat.le_of_ble_eq_true rfl) (Nat.le_of_ble_eq_true rfl) rfl ?_
    refine x_iconst F.1 (i := 6) rfl ic_1 ?_
    refine x_istore_n F.1 (i := 7) rfl (Nat.le_of_ble_eq_true rfl) (Nat.le_of_ble_eq_true rfl) rfl ?_
    exact x_wk F.1 (outer (R - 1) 0 f0 M (by omega) rfl sA_self.symm) ⟨rfl, rfl, rfl, rfl, trivial⟩
  · refine x_iconst F.1 (i := 2) rfl ic_0 ?_
    refine x_iret F (i := 3) rfl rfl ?_
    have e : lads (mA M (r + 2)) (mA M (r + 5)) W R (f0, (mA M (r + 4))) = (f0, (mA M (r + 4))) := by unfold lads; rw [if_pos h1]
    rw [e] at hQ
    have e2 : (0 : Int32) = f0 := h1.symm
    rw [e2]
    rw [sA_self] at hQ
    exact hQ
