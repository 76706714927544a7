/-! ## a text's PARTS, as pieces, are taken -/
def Wd (b : Bool) (w : List Nat) : Pc := (b, 2, w)
def Nb (d : List Nat) : Pc := (true, 3, d)
def Zg : Pc := (false, 4, [59])
def kwQ : List Nat := [113, 117, 101, 101, 110]
def kwO : List Nat := [119, 111, 111, 108]
def kwC : List Nat := [99, 108, 97, 117, 115, 101]
def kwI : List Nat := [105, 115]
def kwH : List Nat := [99, 108, 97, 115, 104]
def kwG : List Nat := [103, 105, 118, 101, 115]
def kwS : List Nat := [99, 111, 115, 116, 115]
def kwR : List Nat := [114, 111, 119]
def kwW : List Nat := [119, 105, 100, 101]
def kwT : List Nat := [116, 111, 117, 103, 104]
def kwK (v : Nat) : List Nat := if v = 0 then [107, 110, 105, 116] else if v = 1 then [112, 117, 114, 108] else if v = 2 then [99, 97, 98, 108, 101] else [104, 111, 108, 101]
def nmQ (k : Nat) : List Nat := [113, 97 + k]
def nmC (k : Nat) : List Nat := [99, 97 + k]
theorem kw_keys : keyN (wl kwW) = 0 ∧ keyN (wl kwT) = 1 ∧ keyN (wl kwQ) = 2 ∧ keyN (wl kwO) = 3 ∧ keyN (wl kwC) = 4 ∧ keyN (wl kwI) = 5 ∧ keyN (wl kwH) = 6 ∧ keyN (wl kwG) = 7 ∧ keyN (wl kwS) = 8 ∧ keyN (wl kwR) = 9 := by decide +kernel
theorem kwK_key : ∀ v, v < 4 → keyN (wl (kwK v)) = 10 + v := by decide +kernel
theorem nm_key : ∀ k, k < 3 → keyN (wl (nmQ k)) = 26 ∧ keyN (wl (nmC k)) = 26 ∧ wl (nmQ k) = 545 + k ∧ wl (nmC k) = 97 + k := by decide +kernel
/-- the names: queens qa .., clauses ca .. -/
def NMs (y : De) : Prop := (∀ q, q < dQ y → dN y q = bJ (545 + q)) ∧ ∀ k, k < dC y → dM y k = bJ (97 + k)
theorem bJ_ne {a b : Nat} (ha : a < 1000) (hb : b < 1000) (h : a ≠ b) : bJ a ≠ bJ b := fun e => h (by
  have := congrArg (fun v : Int64 => v.toInt) e
  simp only [bJ_toInt (show a < 9223372036854775808 by omega), bJ_toInt (show b < 9223372036854775808 by omega)] at this
  omega)
theorem idF_at {f : Nat → Int64} {b j : Nat} : ∀ (m i : Nat), (∀ t, i ≤ t → t < i + m → f t = bJ (b + t)) → i ≤ j → j < i + m → b + i + m < 1000 → idF f (bJ (b + j)) m i = some j
  | 0, i, _, h1, h2, _ => by omega
  | m + 1, i, hf, h1, h2, hb => by
    unfold idF
    by_cases e : i = j
    · rw [if_pos (by rw [hf i (Nat.le_refl _) (by omega), e]), e]
    · rw [if_neg (by rw [hf i (Nat.le_refl _) (by omega)]; exact bJ_ne (by omega) (by omega) (by omega))]
      exact idF_at m (i + 1) (fun t a c => hf t (by omega) (by omega)) (by omega) (by omega) (by omega)
theorem idF_no {f : Nat → Int64} {w : Int64} : ∀ (m i : Nat), (∀ t, i ≤ t → t < i + m → f t ≠ w) → idF f w m i = none
  | 0, _, _ => rfl
  | m + 1, i, hf => by
    unfold idF
    rw [if_neg (hf i (Nat.le_refl _) (by omega))]
    exact idF_no m (i + 1) (fun t a c => hf t (by omega) (by omega))
section
variable {T : Nat → Nat} {n : Nat} {s s1 : Ps} {t : Tok} {p : Pc} {L : List Pc}
theorem isK_of {b : Bool} {w : List Nat} {k : Nat} (h : IsPc t (Wd b w)) (hk : keyN (wl w) = k) : isK t k = true := decide_eq_true ⟨(h.1 rfl).1, (h.1 rfl).2.1.trans hk⟩
theorem pNum_of {d : List Nat} {lo hi : Nat} (h : IsPc t (Nb d)) (h1 : lo ≤ nl d) (h2 : nl d ≤ hi) : pNum lo hi t = .ok (nl d) := by
  obtain ⟨a, b⟩ := h.2.1 rfl
  unfold pNum
  have b : kV t = nl d := b
  rw [if_pos a, b, if_pos ⟨h1, h2⟩]
theorem pSig_of (h : IsPc t Zg) : pSig T n 59 t = .ok (nx T n t) := if_pos (h.2.2 rfl)
theorem part_of (hb : pBody T n s = .ok s1) (hs : TK T n (sT s1) (Zg :: L)) : ∃ t, pPart T n s = .ok (t, s1.2) ∧ TK T n t L := by
  obtain ⟨h1, h2⟩ := TK_nx hs
  refine ⟨nx T n (sT s1), ?_, h2⟩
  unfold pPart
  simp only [hb, pSig_of h1]
theorem pOld_of {b : Bool} {w : List Nat} {o : Option Nat} {i : Nat} (h : IsPc t (Wd b w)) (hk : keyN (wl w) = 26) (ho : o = some i) : pOld o t = .ok i := by
  unfold pOld
  rw [if_pos (isK_of h hk), ho]
theorem pNew_of {y : De} {b : Bool} {w : List Nat} (h : IsPc t (Wd b w)) (hk : keyN (wl w) = 26) (h1 : idQ y (wl w) = none) (h2 : idC y (wl w) = none) : pNew y t = .ok () := by
  unfold pNew
  have e : kW t = wl w := (h.1 rfl).2.2
  rw [if_pos (isK_of h hk), e, h1, h2, if_neg (by decide)]
theorem body_mea (isW : Bool) {b : Bool} {d : List Nat} (h : TK T n (sT s) (Wd b (if isW = true then kwW else kwT) :: Nb d :: L)) (h1 : cR (sX s) = 0) (h2 : dC (sY s) = 0) (h3 : (if isW = true then sW s else sH s) = false) (h4 : 1 ≤ nl d) (h5 : nl d ≤ (if isW = true then 8 else 50)) : ∃ t, pBody T n s = .ok (if isW = true then (t, wWi (sX s) (nl d), sY s, true, sH s) else (t, wTo (sX s) (nl d), sY s, sW s, true)) ∧ TK T n t L := by
  obtain ⟨a1, a2⟩ := TK_nx h
  obtain ⟨b1, b2⟩ := TK_nx a2
  refine ⟨nx T n (nx T n (sT s)), ?_, b2⟩
  have hm : pMea T n isW s = .ok (if isW = true then (nx T n (nx T n (sT s)), wWi (sX s) (nl d), sY s, true, sH s) else (nx T n (nx T n (sT s)), wTo (sX s) (nl d), sY s, sW s, true)) := by
    unfold pMea
    rw [if_neg (by omega), if_neg (by rw [h3]; decide), pNum_of b1 h4 h5]
  unfold pBody
  cases isW with
  | true =>
    rw [if_pos (isK_of a1 kw_keys.1)]
    exact hm
  | false =>
    have k1 := isK_of a1 kw_keys.2.1
    rw [if_neg (by rw [isK_f k1 (by decide)]; decide), if_pos k1]
    exact hm
theorem body_que {b1 b2 b3 : Bool} {w d : List Nat} (h : TK T n (sT s) (Wd b1 kwQ :: Wd b2 w :: Wd b3 kwO :: Nb d :: L)) (h1 : dQ (sY s) < 4) (hk : keyN (wl w) = 26) (h2 : idQ (sY s) (wl w) = none) (h3 : idC (sY s) (wl w) = none) (h4 : nl d ≤ 999) : ∃ t, pBody T n s = .ok (t, sX s, addQ (sY s) (bJ (wl w)) (nl d), sW s, sH s) ∧ TK T n t L := by
  obtain ⟨a1, a2⟩ := TK_nx h
  obtain ⟨c1, c2⟩ := TK_nx a2
  obtain ⟨d1, d2⟩ := TK_nx c2
  obtain ⟨e1, e2⟩ := TK_nx d2
  refine ⟨_, ?_, e2⟩
  have k1 := isK_of a1 kw_keys.2.2.1
  unfold pBody
  rw [if_neg (by rw [isK_f k1 (by decide)]; decide), if_neg (by rw [isK_f k1 (by decide)]; decide), if_pos k1]
  unfold pQue
  have ew : kW (nx T n (sT s)) = wl w := (c1.1 rfl).2.2
  rw [if_neg (by omega), pNew_of c1 hk h2 h3]
  show (if isK (nx T n (nx T n (sT s))) 3 = true then _ else _) = _
  rw [if_pos (isK_of d1 kw_keys.2.2.2.1), pNum_of e1 (Nat.zero_le _) h4, ew]
theorem kdK_of {b : Bool} {v : Nat} (hv : v < 4) (h : IsPc t (Wd b (kwK v))) : kdK t = some v := by
  obtain ⟨a, c, -⟩ := h.1 rfl
  have c : kV t = 10 + v := c.trans (kwK_key v hv)
  rw [kdK_is (v := 0) a (by omega) (by omega), c]
  congr 1
  omega
theorem kdK_sg (h : IsPc t Zg) : kdK t = none := by
  have := (h.2.2 rfl).1
  cases hk : kdK t with
  | none => rfl
  | some v => have := (kdK_some hk).1; omega
theorem kds_of {most : Nat} : ∀ (vs : List Nat) (m c : Nat) (kd : Nat → Nat) (t : Tok), (∀ v ∈ vs, v < 4) → c + vs.length ≤ most → vs.length < m → 1 ≤ c + vs.length → TK T n t (vs.map (fun v => Wd true (kwK v)) ++ Zg :: L) → ∃ r, pKds T n most m c kd t = .ok r ∧ TK T n r.2.2 (Zg :: L)
  | [], m + 1, c, kd, t, _, _, _, h1, h => by
    refine ⟨(c, kd, t), ?_, h⟩
    unfold pKds
    rw [kdK_sg (TK_nx h).1]
    have h1 : 1 ≤ c := h1
    exact if_neg (by omega)
  | v :: vs, m + 1, c, kd, t, hv, hm, hl, h1, h => by
    have e : (v :: vs).length = vs.length + 1 := rfl
    rw [e] at hm hl
    obtain ⟨a1, a2⟩ := TK_nx h
    obtain ⟨r, r1, r2⟩ := kds_of (most := most) vs m (c + 1) (updN kd c v) (nx T n t) (fun x hx => hv x (List.mem_cons_of_mem _ hx)) (by omega) (by omega) (by omega) a2
    refine ⟨r, ?_, r2⟩
    unfold pKds
    rw [kdK_of (hv v List.mem_cons_self) a1]
    show (if most ≤ c then _ else _) = _
    rw [if_neg (by omega)]
    exact r1
  | _, 0, _, _, _, _, _, hl, _, _ => absurd hl (Nat.not_lt_zero _)
theorem body_cla {b1 b2 b3 : Bool} {w vs : List Nat} (h : TK T n (sT s) (Wd b1 kwC :: Wd b2 w :: Wd b3 kwI :: (vs.map (fun v => Wd true (kwK v)) ++ Zg :: L))) (h1 : dC (sY s) < 6) (hk : keyN (wl w) = 26) (h2 : idQ (sY s) (wl w) = none) (h3 : idC (sY s) (wl w) = none) (hv : ∀ v ∈ vs, v < 4) (h4 : 1 ≤ vs.length) (h5 : vs.length ≤ 5) (h6 : vs.length ≤ cW (sX s)) : ∃ t len kd, pBody T n s = .ok (t, sX s, addC (sY s) (bJ (wl w)) len kd, sW s, sH s) ∧ TK T n t (Zg :: L) := by
  obtain ⟨a1, a2⟩ := TK_nx h
  obtain ⟨c1, c2⟩ := TK_nx a2
  obtain ⟨d1, d2⟩ := TK_nx c2
  obtain ⟨r, r1, r2⟩ := kds_of (most := min 5 (cW (sX s))) vs 7 0 (fun _ => 0) _ hv (by omega) (by omega) (by omega) d2
  refine ⟨r.2.2, r.1, r.2.1, ?_, r2⟩
  have k1 := isK_of a1 kw_keys.2.2.2.2.1
  unfold pBody
  rw [if_neg (by rw [isK_f k1 (by decide)]; decide), if_neg (by rw [isK_f k1 (by decide)]; decide), if_neg (by rw [isK_f k1 (by decide)]; decide), if_pos k1]
  unfold pCla
  have ew : kW (nx T n (sT s)) = wl w := (c1.1 rfl).2.2
  rw [if_neg (by omega), pNew_of c1 hk h2 h3]
  show (if isK (nx T n (nx T n (sT s))) 5 = true then _ else _) = _
  rw [if_pos (isK_of d1 kw_keys.2.2.2.2.2.1), r1, ew]
theorem body_clh {b1 b2 b3 : Bool} {w w2 : List Nat} {i j : Nat} (h : TK T n (sT s) (Wd b1 kwH :: Wd b2 w :: Wd b3 w2 :: L)) (hk : keyN (wl w) = 26) (hk2 : keyN (wl w2) = 26) (h2 : idC (sY s) (wl w) = some i) (h3 : idC (sY s) (wl w2) = some j) (hij : j ≠ i) : ∃ t, pBody T n s = .ok (t, sX s, qrY (sY s) i j 1, sW s, sH s) ∧ TK T n t L := by
  obtain ⟨a1, a2⟩ := TK_nx h
  obtain ⟨c1, c2⟩ := TK_nx a2
  obtain ⟨d1, d2⟩ := TK_nx c2
  refine ⟨_, ?_, d2⟩
  have k1 := isK_of a1 kw_keys.2.2.2.2.2.2.1
  unfold pBody
  rw [if_neg (by rw [isK_f k1 (by decide)]; decide), if_neg (by rw [isK_f k1 (by decide)]; decide), if_neg (by rw [isK_f k1 (by decide)]; decide), if_neg (by rw [isK_f k1 (by decide)]; decide), if_pos k1]
  unfold pClh
  have ew : kW (nx T n (sT s)) = wl w := (c1.1 rfl).2.2
  have ew2 : kW (nx T n (nx T n (sT s))) = wl w2 := (d1.1 rfl).2.2
  simp only [ew, ew2, pOld_of c1 hk h2, pOld_of d1 hk2 h3]
  exact if_neg hij
theorem body_wor (v : Nat) (hv : v < 2) {b1 b2 b3 : Bool} {w w2 d : List Nat} {i j : Nat} (h : TK T n (sT s) (Wd b1 (if v = 0 then kwG else kwS) :: Wd b2 w :: Wd b3 w2 :: Nb d :: L)) (hk : keyN (wl w) = 26) (hk2 : keyN (wl w2) = 26) (h2 : idQ (sY s) (wl w) = some i) (h3 : idC (sY s) (wl w2) = some j) (h4 : nl d ≤ 99) : ∃ t, pBody T n s = .ok (t, sX s, wdV (sY s) (updN (dV (sY s)) (24 * v + 6 * i + j) (nl d)), sW s, sH s) ∧ TK T n t L := by
  obtain ⟨a1, a2⟩ := TK_nx h
  obtain ⟨c1, c2⟩ := TK_nx a2
  obtain ⟨d1, d2⟩ := TK_nx c2
  obtain ⟨e1, e2⟩ := TK_nx d2
  refine ⟨_, ?_, e2⟩
  have ew : kW (nx T n (sT s)) = wl w := (c1.1 rfl).2.2
  have ew2 : kW (nx T n (nx T n (sT s))) = wl w2 := (d1.1 rfl).2.2
  have hm : pWor T n v s = .ok (nx T n (nx T n (nx T n (nx T n (sT s)))), sX s, wdV (sY s) (updN (dV (sY s)) (24 * v + 6 * i + j) (nl d)), sW s, sH s) := by
    unfold pWor
    simp only [ew, ew2, pOld_of c1 hk h2, pOld_of d1 hk2 h3, pNum_of e1 (Nat.zero_le _) h4]
  unfold pBody
  by_cases h0 : v = 0
  · subst h0
    have k1 := isK_of a1 kw_keys.2.2.2.2.2.2.2.1
    rw [if_neg (by rw [isK_f k1 (by decide)]; decide), if_neg (by rw [isK_f k1 (by decide)]; decide), if_neg (by rw [isK_f k1 (by decide)]; decide), if_neg (by rw [isK_f k1 (by decide)]; decide), if_neg (by rw [isK_f k1 (by decide)]; decide), if_pos k1]
    exact hm
  · obtain rfl : v = 1 := by omega
    have k1 := isK_of a1 kw_keys.2.2.2.2.2.2.2.2.1
    rw [if_neg (by rw [isK_f k1 (by decide)]; decide), if_neg (by rw [isK_f k1 (by decide)]; decide), if_neg (by rw [isK_f k1 (by decide)]; decide), if_neg (by rw [isK_f k1 (by decide)]; decide), if_neg (by rw [isK_f k1 (by decide)]; decide), if_neg (by rw [isK_f k1 (by decide)]; decide), if_pos k1]
    exact hm
/-- kinds with how many of each -/
def runP (q : Nat × List Nat) : List Pc := Wd true (kwK q.1) :: (if q.2 = [] then [] else [Nb q.2])
def runN (q : Nat × List Nat) : Nat := if q.2 = [] then 1 else nl q.2
def RunOk (q : Nat × List Nat) : Prop := q.1 < 4 ∧ (q.2 ≠ [] → 1 ≤ nl q.2 ∧ nl q.2 ≤ 8)
theorem runN_pos {q : Nat × List Nat} (h : RunOk q) : 1 ≤ runN q := by
  unfold runN
  split
  · omega
  · rename_i c; exact (h.2 c).1
theorem sg_not3 (h : IsPc t Zg) : ¬ kS t = 3 := by have := (h.2.2 rfl).1; omega
theorem wd_not3 {b : Bool} {w : List Nat} (h : IsPc t (Wd b w)) : ¬ kS t = 3 := by have := (h.1 rfl).1; omega
theorem run_of {W : Nat} : ∀ (rs : List (Nat × List Nat)) (m c : Nat) (kd : Nat → Nat) (t : Tok), (∀ q ∈ rs, RunOk q) → c + (rs.map runN).sum = W → rs.length < m → TK T n t (rs.flatMap runP ++ Zg :: L) → ∃ r, pRun T n W m c kd t = .ok r ∧ TK T n r.2 (Zg :: L)
  | [], m + 1, c, kd, t, _, hs, _, h => by
    refine ⟨(kd, t), ?_, h⟩
    unfold pRun
    rw [kdK_sg (TK_nx h).1]
    have hs : c + 0 = W := hs
    exact if_neg (by omega)
  | q :: rs, m + 1, c, kd, t, hr, hs, hl, h => by
    have e : (q :: rs).length = rs.length + 1 := rfl
    rw [e] at hl
    have hs : c + (runN q + (rs.map runN).sum) = W := hs
    have hq := hr q List.mem_cons_self
    have hr2 : ∀ x ∈ rs, RunOk x := fun x hx => hr x (List.mem_cons_of_mem _ hx)
    have hp := runN_pos hq
    have h0 : TK T n t (runP q ++ (rs.flatMap runP ++ Zg :: L)) := by
      have : (q :: rs).flatMap runP ++ Zg :: L = runP q ++ (rs.flatMap runP ++ Zg :: L) := by
        rw [List.flatMap_cons, List.append_assoc]
      rw [this] at h
      exact h
    unfold pRun
    by_cases hd : q.2 = []
    · have ep : runP q = [Wd true (kwK q.1)] := by unfold runP; rw [if_pos hd]
      have en : runN q = 1 := by unfold runN; rw [if_pos hd]
      rw [ep] at h0
      rw [en] at hs
      obtain ⟨a1, a2⟩ := TK_nx h0
      have a2 : TK T n (nx T n t) (rs.flatMap runP ++ Zg :: L) := a2
      have n3 : ¬ kS (nx T n t) = 3 := by
        cases rs with
        | nil => exact sg_not3 (TK_nx (L := L) a2).1
        | cons q2 rs2 => exact wd_not3 (b := true) (w := kwK q2.1) a2.1
      obtain ⟨r, r1, r2⟩ := run_of (W := W) rs m (c + 1) (filN kd c 1 q.1) (nx T n t) hr2 (by omega) (by omega) a2
      refine ⟨r, ?_, r2⟩
      rw [kdK_of hq.1 a1]
      show (if W ≤ c then _ else if kS (nx T n t) = 3 then _ else _) = _
      rw [if_neg (by omega), if_neg n3]
      exact r1
    · have ep : runP q = [Wd true (kwK q.1), Nb q.2] := by unfold runP; rw [if_neg hd]
      have en : runN q = nl q.2 := by unfold runN; rw [if_neg hd]
      rw [ep] at h0
      rw [en] at hs
      obtain ⟨a1, a2⟩ := TK_nx h0
      obtain ⟨b1, b2⟩ := TK_nx a2
      obtain ⟨g1, g2⟩ := hq.2 hd
      obtain ⟨r, r1, r2⟩ := run_of (W := W) rs m (c + nl q.2) (filN kd c (nl q.2) q.1) (nx T n (nx T n t)) hr2 (by omega) (by omega) b2
      refine ⟨r, ?_, r2⟩
      rw [kdK_of hq.1 a1]
      show (if W ≤ c then _ else if kS (nx T n t) = 3 then _ else _) = _
      rw [if_neg (by omega), if_pos (b1.2.1 rfl).1, pNum_of b1 g1 g2]
      show (if W < c + nl q.2 then _ else _) = _
      rw [if_neg (by omega)]
      exact r1
  | _, 0, _, _, _, _, _, hl, _ => absurd hl (Nat.not_lt_zero _)
theorem body_row {b1 b2 : Bool} {w : List Nat} {i : Nat} {rs : List (Nat × List Nat)} (h : TK T n (sT s) (Wd b1 kwR :: Wd b2 w :: (rs.flatMap runP ++ Zg :: L))) (h1 : cR (sX s) < 12) (hk : keyN (wl w) = 26) (h2 : idQ (sY s) (wl w) = some i) (hr : ∀ q ∈ rs, RunOk q) (hs : (rs.map runN).sum = cW (sX s)) (hl : rs.length < 10) : ∃ t kd, pBody T n s = .ok (t, knX (sX s) i kd, sY s, sW s, sH s) ∧ TK T n t (Zg :: L) := by
  obtain ⟨a1, a2⟩ := TK_nx h
  obtain ⟨c1, c2⟩ := TK_nx a2
  obtain ⟨r, r1, r2⟩ := run_of (W := cW (sX s)) rs 10 0 (fun _ => 0) _ hr (by omega) hl c2
  refine ⟨r.2, r.1, ?_, r2⟩
  have k1 := isK_of a1 kw_keys.2.2.2.2.2.2.2.2.2
  unfold pBody
  rw [if_neg (by rw [isK_f k1 (by decide)]; decide), if_neg (by rw [isK_f k1 (by decide)]; decide), if_neg (by rw [isK_f k1 (by decide)]; decide), if_neg (by rw [isK_f k1 (by decide)]; decide), if_neg (by rw [isK_f k1 (by decide)]; decide), if_neg (by rw [isK_f k1 (by decide)]; decide), if_neg (by rw [isK_f k1 (by decide)]; decide), if_pos k1]
  unfold pRow
  have ew : kW (nx T n (sT s)) = wl w := (c1.1 rfl).2.2
  rw [if_neg (by omega)]
  simp only [ew, pOld_of c1 hk h2, r1]
end
