/-! ## CENTURIES' text: what is so all along -/
def zI (z : Nat → Nat → Nat) : Nat → Nat → Int32 := fun s j => nI (z s j)
def fI (f : Nat → Nat) : Nat → Int32 := fun i => nI (f i)
def LvC (x : Cl) (y : De) (s : Cs) : Prop := Lev (cW x) (dC y) (zI (vvZ s)) (fI (vvO s)) (fI (vvA s)) (fI (vvB s)) (fI (vvM s)) (vvS s) (vvK s) (vvE s)
def COk (n : Nat) (x : Cl) (y : De) (s : Cs) : Prop := LvC x y s ∧ vvK s ≤ 30 ∧ vvE s + (vvS s).length ≤ 2 * vvK s ∧ (vvS s).length ≤ 3 ∧ kA (vvT s) ≤ n
section
variable {T : Nat → Nat} {n : Nat} {x : Cl} {y : De} {s s1 : Cs} {t : Tok} {r : Yi}
theorem nxt_sig {a : Nat} (h : kS (nxt T n a) = 4) : kV (nxt T n a) = 59 ∨ kV (nxt T n a) = 60 ∨ kV (nxt T n a) = 61 ∨ kV (nxt T n a) = 62 := by
  unfold nxt at h ⊢
  generalize spP isBl T n a = p at *
  unfold nxtP at h ⊢
  by_cases c1 : n ≤ p
  · rw [if_pos c1] at h; cases h
  · rw [if_neg c1] at h ⊢
    by_cases c2 : isLt (T p) = true
    · rw [if_pos c2] at h; cases h
    · rw [if_neg c2] at h ⊢
      by_cases c3 : isDg (T p) = true
      · rw [if_pos c3] at h
        have h : (if 4 < spP isDg T n p - p then 1 else 3) = 4 := h
        split at h <;> omega
      · rw [if_neg c3] at h ⊢
        have h : (if isSg (T p) = true then 4 else 1) = 4 := h
        by_cases c4 : isSg (T p) = true
        · exact of_decide_eq_true c4
        · rw [if_neg c4] at h; omega
theorem pNmR_ok {R v : Nat} (h : pNmR R t = .ok v) : v < R := by
  unfold pNmR at h
  split at h
  · cases h
  · have := pNum_ok h; omega
theorem stF_0 {ki a b ts sg en : Nat} : stF ki a b ts sg en 0 = ki := rfl
theorem stF_8 {ki a b ts sg en : Nat} : stF ki a b ts sg en 8 = en := rfl
theorem pStp_ok {ki : Nat} {en : Nat} (hO : OkC x) (hP : OkD (cW x) y) (hk : ki < 8) (h : pStp T n x y ki t = .ok r) : stepOk (cW x) (dC y) (fun j => nI (stF ki r.1.1 r.1.2.1 r.1.2.2.1 r.1.2.2.2 en j)) ∧ entOk (fun j => nI (stF ki r.1.1 r.1.2.1 r.1.2.2.1 r.1.2.2.2 en j)) (nI r.2.1.1) (nI r.2.1.2.1) (nI r.2.1.2.2) := by
  have w1 := hO.1
  have w3 := hO.2.2.1
  unfold pStp at h
  split at h
  · rename_i hk0
    subst hk0
    unfold pOneN at h
    split at h
    · cases h
    · rename_i v hv
      cases h
      have g := pNum_ok hv
      exact ⟨Or.inl ⟨rfl, v, g.2.2.1, g.2.2.2, rfl⟩, Or.inl ⟨rfl, rfl, rfl⟩⟩
  · split at h
    · rename_i hk0
      subst hk0
      unfold pTwo at h
      split at h
      · cases h
      · rename_i v hv
        split at h
        · cases h
        · rename_i w hw
          cases h
          have g := pNmR_ok hv
          have g2 := pNum_ok hw
          exact ⟨Or.inr (Or.inl ⟨rfl, v, w, by omega, by omega, rfl, rfl⟩), Or.inr (Or.inl ⟨rfl, rfl, rfl, rfl⟩)⟩
    · split at h
      · rename_i hk0
        subst hk0
        unfold pTwo at h
        split at h
        · cases h
        · rename_i v hv
          split at h
          · cases h
          · rename_i w hw
            cases h
            have g := pNmR_ok hv
            have g2 := pNum_ok hw
            exact ⟨Or.inr (Or.inr (Or.inl ⟨rfl, v, w, by omega, by omega, rfl, rfl⟩)), Or.inr (Or.inr (Or.inl ⟨rfl, rfl, rfl, rfl⟩))⟩
      · split at h
        · rename_i hk0
          subst hk0
          unfold pTwo at h
          split at h
          · cases h
          · rename_i v hv
            split at h
            · cases h
            · rename_i w hw
              cases h
              have g := pNmR_ok hv
              have g2 := pNum_ok hw
              exact ⟨Or.inr (Or.inr (Or.inr (Or.inl ⟨rfl, v, w, by omega, by omega, rfl, rfl⟩))), Or.inr (Or.inr (Or.inr (Or.inl ⟨rfl, rfl, rfl, rfl⟩)))⟩
        · split at h
          · rename_i hk0
            subst hk0
            cases h
            exact ⟨Or.inr (Or.inr (Or.inr (Or.inr (Or.inl rfl)))), Or.inr (Or.inr (Or.inr (Or.inr (Or.inl ⟨rfl, rfl⟩))))⟩
          · split at h
            · rename_i hk0
              subst hk0
              unfold pTst at h
              split at h
              · cases h
              · split at h
                · split at h
                  · cases h
                  · rename_i v hv
                    cases h
                    have g := idF_ok (pOld_ok hv).2
                    exact ⟨Or.inr (Or.inr (Or.inr (Or.inr (Or.inr (Or.inl ⟨rfl, Or.inl ⟨rfl, v, by omega, rfl⟩⟩))))), Or.inr (Or.inr (Or.inr (Or.inr (Or.inr (Or.inl ⟨rfl, Or.inl ⟨rfl, rfl, rfl⟩⟩)))))⟩
                · split at h
                  · split at h
                    · cases h
                    · rename_i v hv
                      cases h
                      have g := pNmR_ok hv
                      exact ⟨Or.inr (Or.inr (Or.inr (Or.inr (Or.inr (Or.inl ⟨rfl, Or.inr (Or.inl ⟨rfl, v, by omega, rfl⟩)⟩))))), Or.inr (Or.inr (Or.inr (Or.inr (Or.inr (Or.inl ⟨rfl, Or.inr (Or.inl ⟨rfl, rfl, rfl⟩)⟩)))))⟩
                  · split at h
                    · rename_i hsg
                      split at h
                      · cases h
                      · rename_i v hv
                        cases h
                        have g := pNum_ok hv
                        have hsig := nxt_sig hsg.1
                        have hsg2 := hsg.2
                        have hsig : kV (nx T n t) = 59 ∨ kV (nx T n t) = 60 ∨ kV (nx T n t) = 61 ∨ kV (nx T n t) = 62 := hsig
                        exact ⟨Or.inr (Or.inr (Or.inr (Or.inr (Or.inr (Or.inl ⟨rfl, Or.inr (Or.inr ⟨rfl, v, kV (nx T n t), by omega, by omega, rfl, rfl⟩)⟩))))), Or.inr (Or.inr (Or.inr (Or.inr (Or.inr (Or.inl ⟨rfl, Or.inr (Or.inr ⟨rfl, rfl, rfl, rfl⟩)⟩)))))⟩
                    · cases h
            · split at h
              · rename_i hk0
                subst hk0
                unfold pOneN at h
                split at h
                · cases h
                · rename_i v hv
                  cases h
                  have g := pNum_ok hv
                  exact ⟨Or.inr (Or.inr (Or.inr (Or.inr (Or.inr (Or.inr (Or.inl ⟨rfl, v, g.2.2.1, g.2.2.2, rfl⟩)))))), Or.inr (Or.inr (Or.inr (Or.inr (Or.inr (Or.inr (Or.inl ⟨rfl, rfl, rfl⟩))))))⟩
              · obtain rfl : ki = 7 := by omega
                cases h
                exact ⟨Or.inr (Or.inr (Or.inr (Or.inr (Or.inr (Or.inr (Or.inr rfl)))))), Or.inr (Or.inr (Or.inr (Or.inr (Or.inr (Or.inr (Or.inr ⟨rfl, rfl⟩))))))⟩
theorem updZ_ne {z : Nat → Nat → Nat} {k i : Nat} {f : Nat → Nat} (h : i ≠ k) : zI (updZ z k f) i = zI z i := by
  unfold zI updZ
  rw [if_neg h]
theorem updZ_eq {z : Nat → Nat → Nat} {k : Nat} {f : Nat → Nat} : zI (updZ z k f) k = fun j => nI (f j) := by
  unfold zI updZ
  rw [if_pos rfl]
theorem uI_ne {f : Nat → Nat} {p v i : Nat} (h : i ≠ p) : fI (updN f p v) i = fI f i := by
  unfold fI updN
  rw [if_neg h]
theorem uI_eq {f : Nat → Nat} {p v : Nat} : fI (updN f p v) p = nI v := by
  unfold fI updN
  rw [if_pos rfl]
theorem cBeg_ok {ki : Nat} (hO : OkC x) (hP : OkD (cW x) y) (h : COk n x y s) (h30 : vvK s < 30) (h3 : ¬ (isBd ki = true ∧ 3 ≤ (vvS s).length)) (hk : ki < 8) (hr : pStp T n x y ki t = .ok r) {t1 : Tok} (ht : kA t1 ≤ n) : COk n x y (cBeg s ki r t1) := by
  obtain ⟨hL, k1, k2, k3, k4⟩ := h
  obtain ⟨g1, g2⟩ := pStp_ok (en := vvK s + 1) hO hP hk hr
  have hz : zI (vvZ (cBeg s ki r t1)) (vvK s) = fun j => nI (stF ki r.1.1 r.1.2.1 r.1.2.2.1 r.1.2.2.2 (vvK s + 1) j) := updZ_eq
  have hc : Lev (cW x) (dC y) (zI (vvZ (cBeg s ki r t1))) (fI (vvO (cBeg s ki r t1))) (fI (vvA (cBeg s ki r t1))) (fI (vvB (cBeg s ki r t1))) (fI (vvM (cBeg s ki r t1))) (vvS s) (vvK s) (vvE s) := Lev_cong (fun i hi => ⟨uI_ne (by omega), uI_ne (by omega), uI_ne (by omega), uI_ne (by omega)⟩) (fun i hi => updZ_ne (by omega)) hL
  have eo : fI (vvO (cBeg s ki r t1)) (vvE s) = nI r.2.1.1 := uI_eq
  have ea : fI (vvA (cBeg s ki r t1)) (vvE s) = nI r.2.1.2.1 := uI_eq
  have eb : fI (vvB (cBeg s ki r t1)) (vvE s) = nI r.2.1.2.2 := uI_eq
  have s1 : stepOk (cW x) (dC y) (zI (vvZ (cBeg s ki r t1)) (vvK s)) := by rw [hz]; exact g1
  have s2 : entOk (zI (vvZ (cBeg s ki r t1)) (vvK s)) (fI (vvO (cBeg s ki r t1)) (vvE s)) (fI (vvA (cBeg s ki r t1)) (vvE s)) (fI (vvB (cBeg s ki r t1)) (vvE s)) := by rw [hz, eo, ea, eb]; exact g2
  have z0 : zI (vvZ (cBeg s ki r t1)) (vvK s) 0 = nI ki := by rw [hz]; rfl
  have z8 : zI (vvZ (cBeg s ki r t1)) (vvK s) 8 = nI (vvK s + 1) := by rw [hz]; rfl
  have eS : vvS (cBeg s ki r t1) = if isBd ki = true then (vvK s, vvE s) :: vvS s else vvS s := rfl
  have eK : vvK (cBeg s ki r t1) = vvK s + 1 := rfl
  have eE : vvE (cBeg s ki r t1) = vvE s + 1 := rfl
  unfold COk LvC
  rw [eS, eK, eE]
  by_cases hb : isBd ki = true
  · rw [if_pos hb]
    have hb2 := of_decide_eq_true hb
    have hl : (vvS s).length < 3 := by
      by_cases h5 : 3 ≤ (vvS s).length
      · exact absurd ⟨hb, h5⟩ h3
      · omega
    refine ⟨Lev_push hc hl s1 s2 (by rw [z0]; exact hb2.elim (fun e => Or.inl (by rw [e])) (fun e => Or.inr (by rw [e]))), by omega, ?_, ?_, ht⟩
    · show vvE s + 1 + ((vvS s).length + 1) ≤ _; omega
    · show (vvS s).length + 1 ≤ 3; omega
  · rw [if_neg hb]
    have hb2 := of_decide_eq_false (Bool.eq_false_iff.mpr hb)
    refine ⟨Lev_ext (Sgm_one s1 s2 (by rw [z0]; exact of_eq_false (z_kn (by omega) (by omega) (by omega))) (by rw [z0]; exact of_eq_false (z_kn (by omega) (by omega) (by omega))) z8) hc, by omega, by omega, by omega, ht⟩
theorem cEnd_ok {q : Nat × Nat} {L : List (Nat × Nat)} {t1 : Tok} (h : COk n x y s) (hS : vvS s = q :: L) (ht : kA t1 ≤ n) : COk n x y (cEnd s q.1 q.2 t1 L) := by
  obtain ⟨hL, k1, k2, k3, k4⟩ := h
  unfold LvC at hL
  rw [hS] at hL k2 k3
  have k2 : vvE s + (L.length + 1) ≤ 2 * vvK s := k2
  have k3 : L.length + 1 ≤ 3 := k3
  have hq := hL.2.2.1
  refine ⟨Lev_end hL (fun i hi => updZ_ne hi) (fun j hj => ?_) ?_ (fun i hi => ⟨uI_ne hi, uI_ne hi, uI_ne hi⟩) (fun i i1 i2 => ?_) uI_eq ?_ uI_eq, k1, (show vvE s + 1 + L.length ≤ 2 * vvK s by omega), (show L.length ≤ 3 by omega), ht⟩
  · show zI (updZ _ _ _) _ _ = _
    rw [updZ_eq]
    show nI (if j = 8 then vvK s else vvZ s q.1 j) = _
    rw [if_neg hj]
    rfl
  · show zI (updZ _ _ _) _ _ = _
    rw [updZ_eq]
    rfl
  · exact (uI_ne i1).trans (uI_ne i2)
  · exact (uI_ne (by omega)).trans uI_eq
theorem pSig_ok {c : Nat} {t1 : Tok} (h : kA t ≤ n) (e : pSig T n c t = .ok t1) : kA t1 ≤ n := by
  unfold pSig at e
  split at e
  · cases e; exact nx_le h
  · cases e
theorem stK_lt8 {v : Nat} (h : stK t = some v) : v < 8 := by have := stK_some h; omega
theorem cTurn_ok (hO : OkC x) (hP : OkD (cW x) y) (h : COk n x y s) (hT : TkO n (vvT s)) (e : cTurn T n x y s = .ok s1) : COk n x y s1 := by
  have ha := h.2.2.2.2
  obtain ⟨a1, a2⟩ := TkO_nx (T := T) hT
  unfold cTurn at e
  split at e
  · split at e
    · cases e
    · rename_i q L hS
      split at e
      · cases e
      · rename_i t1 ht
        cases e
        exact cEnd_ok h hS (pSig_ok (nx_le ha) ht)
  · split at e
    · cases e
    · rename_i ki hki
      split at e
      · cases e
      · rename_i h30
        split at e
        · cases e
        · rename_i h3
          split at e
          · cases e
          · rename_i r hr
            split at e
            · cases e
            · rename_i t1 ht
              cases e
              exact cBeg_ok hO hP h (by omega) h3 (stK_lt8 hki) hr (pSig_ok (pStp_mo a1 hr).1.2.1 ht)
theorem cAll_ok (hO : OkC x) (hP : OkD (cW x) y) : ∀ (m : Nat) {s s1 : Cs}, COk n x y s → TkO n (vvT s) → m ≠ 0 → cAll T n x y m s = .ok s1 → n < m + kP (vvT s) → COk n x y s1 ∧ vvS s1 = [] := by
  intro m
  induction m with
  | zero => intro s s1 _ _ h0; exact absurd rfl h0
  | succ m ih =>
    intro s s1 h hT _ e hm
    unfold cAll at e
    split at e
    · split at e
      · rename_i hS
        cases e
        exact ⟨h, hS⟩
      · cases e
    · rename_i h0
      split at e
      · cases e
      · rename_i s2 h2
        obtain ⟨k1, k2⟩ := cTurn_mo hT h0 h2
        have k3 := k1.1
        have k4 := k1.2.1
        have j1 := hT.1
        exact ih (cTurn_ok hO hP h hT h2) k1 (by omega) e (by omega)
theorem COk_00 : COk n x y (c00 T n) := ⟨Sgm_nil, Nat.zero_le _, Nat.le_refl _, Nat.zero_le _, (nxt_bd (Nat.zero_le _)).2.1⟩
theorem pCen_ok (hO : OkC x) (hP : OkD (cW x) y) (hn : n ≤ 300) (e : pCen T n x y = .ok s) : vvK s ≤ 30 ∧ vvE s ≤ 60 ∧ Ser (cW x) (dC y) (zI (vvZ s)) (fI (vvO s)) (fI (vvA s)) (fI (vvB s)) (fI (vvM s)) 70 0 (vvK s) 0 (vvE s) ∧ Wel (cW x) (dC y) (zI (vvZ s)) 31 3 0 (vvK s) := by
  have hTO : TkO n (vvT (c00 T n)) := by
    obtain ⟨k1, k2, k3, k4, k5, -, -⟩ := nxt_bd (T := T) (Nat.zero_le n)
    exact ⟨k4, k2, k5⟩
  obtain ⟨⟨h1, h2, h3, -, -⟩, hS⟩ := cAll_ok hO hP 1000 COk_00 hTO (by omega) e (by omega)
  unfold LvC at h1
  rw [hS] at h1 h3
  have h3 : vvE s + 0 ≤ 2 * vvK s := h3
  exact ⟨h2, by omega, Ser_mono (by omega) h1.1, Wel_mono (by omega) h1.2⟩
end
