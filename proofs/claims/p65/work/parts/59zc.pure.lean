abbrev Er : Type := Nat × Nat
def flt (t : Tok) (k : Nat) : Er := (if kS t = 1 then 1 else k, kP t)
def pSig (T : Nat → Nat) (n c : Nat) (t : Tok) : Except Er Tok := if kS t = 4 ∧ kV t = c then .ok (nxt T n (kA t)) else .error (flt t 2)
def pNum (lo hi : Nat) (t : Tok) : Except Er Nat := if kS t = 3 then (if lo ≤ kV t ∧ kV t ≤ hi then .ok (kV t) else .error (flt t 4)) else .error (flt t 2)
/-- the first place of a name -/
def idF (f : Nat → Int64) (w : Int64) : Nat → Nat → Option Nat
  | 0, _ => none
  | m + 1, i => if f i = w then some i else idF f w m (i + 1)
def idQ (y : De) (w : Nat) : Option Nat := idF (dN y) (bJ w) (dQ y) 0
def idC (y : De) (w : Nat) : Option Nat := idF (dM y) (bJ w) (dC y) 0
def pOld (o : Option Nat) (t : Tok) : Except Er Nat := if isK t 26 = true then (match o with | some i => .ok i | none => .error (flt t 3)) else .error (flt t 2)
def pNew (y : De) (t : Tok) : Except Er Unit := if isK t 26 = true then (if (idQ y (kW t)).isSome = true ∨ (idC y (kW t)).isSome = true then .error (flt t 3) else .ok ()) else .error (flt t 2)
def wWi (x : Cl) (w : Nat) : Cl := ((w, cT x, cR x, cY x), x.2)
def addQ (y : De) (nm : Int64) (w : Nat) : De := ((dQ y + 1, dC y), updN (dO y) (dQ y) w, dL y, dK y, dX y, dV y, (fun i => if i = dQ y then nm else dN y i), dM y)
def addC (y : De) (nm : Int64) (len : Nat) (kd : Nat → Nat) : De := ((dQ y, dC y + 1), dO y, updN (dL y) (dC y) len, (fun p => if p < 5 * dC y then dK y p else kd (p - 5 * dC y)), dX y, dV y, dN y, (fun i => if i = dC y then nm else dM y i))
abbrev Ps : Type := Tok × Cl × De × Bool × Bool
def sT (s : Ps) : Tok := s.1
def sX (s : Ps) : Cl := s.2.1
def sY (s : Ps) : De := s.2.2.1
def sW (s : Ps) : Bool := s.2.2.2.1
def sH (s : Ps) : Bool := s.2.2.2.2
section
variable (T : Nat → Nat) (n : Nat)
def nx (t : Tok) : Tok := nxt T n (kA t)
def pMea (isW : Bool) (s : Ps) : Except Er Ps :=
  if 0 < cR (sX s) ∨ 0 < dC (sY s) then .error (flt (sT s) 2)
  else if (if isW = true then sW s else sH s) = true then .error (flt (sT s) 5)
  else match pNum 1 (if isW = true then 8 else 50) (nx T n (sT s)) with
    | .error e => .error e
    | .ok v => .ok (if isW = true then (nx T n (nx T n (sT s)), wWi (sX s) v, sY s, true, sH s) else (nx T n (nx T n (sT s)), wTo (sX s) v, sY s, sW s, true))
def pQue (s : Ps) : Except Er Ps :=
  if 4 ≤ dQ (sY s) then .error (flt (sT s) 6)
  else match pNew (sY s) (nx T n (sT s)) with
    | .error e => .error e
    | .ok _ => if isK (nx T n (nx T n (sT s))) 3 = true then (match pNum 0 999 (nx T n (nx T n (nx T n (sT s)))) with
        | .error e => .error e
        | .ok v => .ok (nx T n (nx T n (nx T n (nx T n (sT s)))), sX s, addQ (sY s) (bJ (kW (nx T n (sT s)))) v, sW s, sH s))
      else .ok (nx T n (nx T n (sT s)), sX s, addQ (sY s) (bJ (kW (nx T n (sT s)))) 100, sW s, sH s)
/-- the kinds of a clause -/
def pKds (most : Nat) : Nat → Nat → (Nat → Nat) → Tok → Except Er (Nat × (Nat → Nat) × Tok)
  | 0, c, kd, t => .ok (c, kd, t)
  | m + 1, c, kd, t => match kdK t with
    | none => if c = 0 then .error (flt t 2) else .ok (c, kd, t)
    | some v => if most ≤ c then .error (flt t 6) else pKds most m (c + 1) (updN kd c v) (nx T n t)
def pCla (s : Ps) : Except Er Ps :=
  if 6 ≤ dC (sY s) then .error (flt (sT s) 6)
  else match pNew (sY s) (nx T n (sT s)) with
    | .error e => .error e
    | .ok _ => if isK (nx T n (nx T n (sT s))) 5 = true then (match pKds T n (min 5 (cW (sX s))) 7 0 (fun _ => 0) (nx T n (nx T n (nx T n (sT s)))) with
        | .error e => .error e
        | .ok r => .ok (r.2.2, sX s, addC (sY s) (bJ (kW (nx T n (sT s)))) r.1 r.2.1, sW s, sH s))
      else .error (flt (nx T n (nx T n (sT s))) 2)
def pClh (s : Ps) : Except Er Ps :=
  match pOld (idC (sY s) (kW (nx T n (sT s)))) (nx T n (sT s)) with
  | .error e => .error e
  | .ok a => match pOld (idC (sY s) (kW (nx T n (nx T n (sT s))))) (nx T n (nx T n (sT s))) with
    | .error e => .error e
    | .ok b => if b = a then .error (flt (nx T n (nx T n (sT s))) 5) else .ok (nx T n (nx T n (nx T n (sT s))), sX s, qrY (sY s) a b 1, sW s, sH s)
def pWor (v : Nat) (s : Ps) : Except Er Ps :=
  match pOld (idQ (sY s) (kW (nx T n (sT s)))) (nx T n (sT s)) with
  | .error e => .error e
  | .ok q => match pOld (idC (sY s) (kW (nx T n (nx T n (sT s))))) (nx T n (nx T n (sT s))) with
    | .error e => .error e
    | .ok k => match pNum 0 99 (nx T n (nx T n (nx T n (sT s)))) with
      | .error e => .error e
      | .ok u => .ok (nx T n (nx T n (nx T n (nx T n (sT s)))), sX s, wdV (sY s) (updN (dV (sY s)) (24 * v + 6 * q + k) u), sW s, sH s)
/-- m kinds k from place c on -/
def filN (kd : Nat → Nat) (c m k : Nat) : Nat → Nat := fun p => if c ≤ p ∧ p < c + m then k else kd p
/-- the kinds of a row -/
def pRun (W : Nat) : Nat → Nat → (Nat → Nat) → Tok → Except Er ((Nat → Nat) × Tok)
  | 0, _, kd, t => .ok (kd, t)
  | m + 1, c, kd, t => match kdK t with
    | none => if c < W then .error (flt t 2) else .ok (kd, t)
    | some v => if W ≤ c then .error (flt t 6) else if kS (nx T n t) = 3 then (match pNum 1 8 (nx T n t) with
        | .error e => .error e
        | .ok u => if W < c + u then .error (flt (nx T n t) 6) else pRun W m (c + u) (filN kd c u v) (nx T n (nx T n t)))
      else pRun W m (c + 1) (filN kd c 1 v) (nx T n t)
def pRow (s : Ps) : Except Er Ps :=
  if 12 ≤ cR (sX s) then .error (flt (sT s) 6)
  else match pOld (idQ (sY s) (kW (nx T n (sT s)))) (nx T n (sT s)) with
  | .error e => .error e
  | .ok q => match pRun T n (cW (sX s)) 10 0 (fun _ => 0) (nx T n (nx T n (sT s))) with
    | .error e => .error e
    | .ok r => .ok (r.2, knX (sX s) q r.1, sY s, sW s, sH s)
def pBody (s : Ps) : Except Er Ps :=
  if isK (sT s) 0 = true then pMea T n true s else if isK (sT s) 1 = true then pMea T n false s
  else if isK (sT s) 2 = true then pQue T n s else if isK (sT s) 4 = true then pCla T n s
  else if isK (sT s) 6 = true then pClh T n s else if isK (sT s) 7 = true then pWor T n 0 s
  else if isK (sT s) 8 = true then pWor T n 1 s else if isK (sT s) 9 = true then pRow T n s else .error (flt (sT s) 2)
def pPart (s : Ps) : Except Er Ps := match pBody T n s with
  | .error e => .error e
  | .ok s1 => match pSig T n 59 (sT s1) with
    | .error e => .error e
    | .ok t => .ok (t, s1.2)
def pAll : Nat → Ps → Except Er Ps
  | 0, s => .ok s
  | m + 1, s => if kS (sT s) = 0 then .ok s else match pPart T n s with
    | .error e => .error e
    | .ok s1 => pAll m s1
end
def x00 : Cl := ((6, 20, 0, 0), (fun _ => 0), (fun _ => 0), (fun _ => 0), (fun _ => 0), (fun _ => 0))
def y00 : De := ((0, 0), (fun _ => 0), (fun _ => 0), (fun _ => 0), (fun _ => 0), (fun _ => 0), (fun _ => 0), (fun _ => 0))
def z00 : Sc := (false, 0, fun _ _ => 0)
def p00 (T : Nat → Nat) (n : Nat) : Ps := (nxt T n 0, x00, y00, false, false)
def pTre (T : Nat → Nat) (n : Nat) : Except Er Ps := pAll T n 1000 (p00 T n)
def POk (n : Nat) (s : Ps) : Prop := OkC (sX s) ∧ cY (sX s) = 0 ∧ OkD (cW (sX s)) (sY s) ∧ (∀ k i, (dC (sY s) ≤ k ∨ dC (sY s) ≤ i) → k < 6 → i < 6 → dX (sY s) (6 * k + i) = 0) ∧ (∀ v q k, (dQ (sY s) ≤ q ∨ dC (sY s) ≤ k) → v < 2 → q < 4 → k < 6 → dV (sY s) (24 * v + 6 * q + k) = 0) ∧ kA (sT s) ≤ n
section
variable {T : Nat → Nat} {n : Nat} {s s1 : Ps} {t : Tok}
theorem nx_le (h : kA t ≤ n) : kA (nx T n t) ≤ n := (nxt_bd h).2.1
theorem pNum_ok {lo hi v : Nat} (h : pNum lo hi t = .ok v) : kS t = 3 ∧ v = kV t ∧ lo ≤ v ∧ v ≤ hi := by
  unfold pNum at h
  split at h
  · split at h
    · cases h
      rename_i h1 h2
      exact ⟨h1, rfl, h2.1, h2.2⟩
    · cases h
  · cases h
theorem idF_ok {f : Nat → Int64} {w : Int64} : ∀ {m i v : Nat}, idF f w m i = some v → i ≤ v ∧ v < i + m ∧ f v = w
  | m + 1, i, v, h => by
    unfold idF at h
    split at h
    · cases h
      rename_i h1
      exact ⟨Nat.le_refl _, by omega, h1⟩
    · obtain ⟨h1, h2, h3⟩ := idF_ok h
      exact ⟨by omega, by omega, h3⟩
theorem pOld_ok {o : Option Nat} {v : Nat} (h : pOld o t = .ok v) : isK t 26 = true ∧ o = some v := by
  unfold pOld at h
  split at h
  · rename_i h1
    split at h
    · cases h; exact ⟨h1, rfl⟩
    · cases h
  · cases h
theorem pKds_ok {most : Nat} : ∀ {m c : Nat} {kd : Nat → Nat} {t : Tok} {r : Nat × (Nat → Nat) × Tok}, most < c + m → c ≤ most → (∀ i, i < c → kd i < 4) → kA t ≤ n → pKds T n most m c kd t = .ok r → 1 ≤ r.1 ∧ r.1 ≤ most ∧ (∀ i, i < r.1 → r.2.1 i < 4) ∧ kA r.2.2 ≤ n := by
  intro m
  induction m with
  | zero => intro c kd t r hm hc; omega
  | succ m ih =>
    intro c kd t r hm hc hk ha h
    unfold pKds at h
    cases hkd : kdK t with
    | none =>
      rw [hkd] at h
      by_cases h0 : c = 0
      · simp only [if_pos h0] at h; cases h
      · simp only [if_neg h0] at h; cases h; exact ⟨by show 1 ≤ c; omega, hc, hk, ha⟩
    | some v =>
      rw [hkd] at h
      by_cases h0 : most ≤ c
      · simp only [if_pos h0] at h; cases h
      · simp only [if_neg h0] at h
        refine ih (by omega) (by omega) (fun i hi => ?_) (nx_le ha) h
        unfold updN
        split
        · exact kdK_lt hkd
        · exact hk i (by omega)
theorem pRun_ok {W : Nat} : ∀ {m c : Nat} {kd : Nat → Nat} {t : Tok} {r : (Nat → Nat) × Tok}, W < c + m → c ≤ W → (∀ i, i < c → kd i < 4) → kA t ≤ n → pRun T n W m c kd t = .ok r → (∀ i, i < W → r.1 i < 4) ∧ kA r.2 ≤ n := by
  intro m
  induction m with
  | zero => intro c kd t r hm hc; omega
  | succ m ih =>
    intro c kd t r hm hc hk ha h
    unfold pRun at h
    cases hkd : kdK t with
    | none =>
      rw [hkd] at h
      by_cases h0 : c < W
      · simp only [if_pos h0] at h; cases h
      · simp only [if_neg h0] at h; cases h; exact ⟨fun i hi => hk i (by omega), ha⟩
    | some v =>
      rw [hkd] at h
      have hv := kdK_lt hkd
      by_cases h0 : W ≤ c
      · simp only [if_pos h0] at h; cases h
      · simp only [if_neg h0] at h
        have hf : ∀ u i, i < c + u → filN kd c u v i < 4 := fun u i hi => by
          unfold filN
          split
          · exact hv
          · exact hk i (by omega)
        by_cases h3 : kS (nx T n t) = 3
        · simp only [if_pos h3] at h
          cases hn : pNum 1 8 (nx T n t) with
          | error e => rw [hn] at h; cases h
          | ok u =>
            rw [hn] at h
            obtain ⟨-, -, n1, n2⟩ := pNum_ok hn
            by_cases h4 : W < c + u
            · simp only [if_pos h4] at h; cases h
            · simp only [if_neg h4] at h
              exact ih (by omega) (by omega) (fun i hi => hf u i hi) (nx_le (nx_le ha)) h
        · simp only [if_neg h3] at h
          exact ih (by omega) (by omega) (fun i hi => hf 1 i hi) (nx_le ha) h
theorem POk_mk {t : Tok} {x : Cl} {y : De} {a b : Bool} (h1 : OkC x) (h2 : cY x = 0) (h3 : OkD (cW x) y) (h4 : ∀ k i, (dC y ≤ k ∨ dC y ≤ i) → k < 6 → i < 6 → dX y (6 * k + i) = 0) (h5 : ∀ v q k, (dQ y ≤ q ∨ dC y ≤ k) → v < 2 → q < 4 → k < 6 → dV y (24 * v + 6 * q + k) = 0) (h6 : kA t ≤ n) : POk n (t, x, y, a, b) := ⟨h1, h2, h3, h4, h5, h6⟩
theorem POk_que {w : Nat} {nm : Int64} {t : Tok} (h : POk n s) (hq : dQ (sY s) < 4) (hw : w ≤ 999) (ht : kA t ≤ n) : POk n (t, sX s, addQ (sY s) nm w, sW s, sH s) := by
  obtain ⟨h1, h2, ⟨p1, p2, p3, p4, p5, p6, p7, p8⟩, h4, h5, -⟩ := h
  refine POk_mk h1 h2 ⟨(show dQ (sY s) + 1 ≤ 4 by omega), p2, fun q hq2 => ?_, p4, p5, p6, p7, fun v q k hv hq2 hk => ?_⟩ h4 (fun v q k hh hv hq2 hk => ?_) ht
  · show updN (dO (sY s)) (dQ (sY s)) w q ≤ 999
    have hq2 : q < dQ (sY s) + 1 := hq2
    unfold updN
    split
    · exact hw
    · exact p3 q (by omega)
  · have hq2 : q < dQ (sY s) + 1 := hq2
    by_cases he : q < dQ (sY s)
    · exact p8 v q k hv he hk
    · show dV (sY s) (24 * v + 6 * q + k) ≤ 99
      rw [h5 v q k (Or.inl (by omega)) hv (by omega) (by have hk : k < dC (sY s) := hk; omega)]
      omega
  · exact h5 v q k (hh.elim (fun e => Or.inl (by have e : dQ (sY s) + 1 ≤ q := e; omega)) Or.inr) hv hq2 hk
theorem POk_cla {len : Nat} {kd : Nat → Nat} {nm : Int64} {t : Tok} (h : POk n s) (hq : dC (sY s) < 6) (hl : 1 ≤ len ∧ len ≤ 5 ∧ len ≤ cW (sX s)) (hk : ∀ i, i < len → kd i < 4) (ht : kA t ≤ n) : POk n (t, sX s, addC (sY s) nm len kd, sW s, sH s) := by
  obtain ⟨h1, h2, ⟨p1, p2, p3, p4, p5, p6, p7, p8⟩, h4, h5, -⟩ := h
  have ec : dC (addC (sY s) nm len kd) = dC (sY s) + 1 := rfl
  refine POk_mk h1 h2 ⟨p1, (show dC (sY s) + 1 ≤ 6 by omega), p3, fun k hk2 => ?_, fun k i hk2 hi => ?_, fun k i hk2 hi => ?_, fun k hk2 => ?_, fun v q k hv hq2 hk2 => ?_⟩ (fun k i hh hk2 hi => ?_) (fun v q k hh hv hq2 hk2 => ?_) ht
  · rw [ec] at hk2
    show 1 ≤ updN (dL (sY s)) (dC (sY s)) len k ∧ updN (dL (sY s)) (dC (sY s)) len k ≤ 5 ∧ updN (dL (sY s)) (dC (sY s)) len k ≤ _
    unfold updN
    split
    · exact hl
    · exact p4 k (by omega)
  · rw [ec] at hk2
    have hi : i < updN (dL (sY s)) (dC (sY s)) len k := hi
    show (if 5 * k + i < 5 * dC (sY s) then dK (sY s) (5 * k + i) else kd (5 * k + i - 5 * dC (sY s))) < 4
    unfold updN at hi
    by_cases he : k = dC (sY s)
    · rw [if_pos he] at hi
      rw [if_neg (by omega), show 5 * k + i - 5 * dC (sY s) = i by omega]
      exact hk i hi
    · rw [if_neg he] at hi
      have := (p4 k (by omega)).2.1
      rw [if_pos (by omega)]
      exact p5 k i (by omega) hi
  · rw [ec] at hk2 hi
    by_cases he : k < dC (sY s) ∧ i < dC (sY s)
    · exact p6 k i he.1 he.2
    · show dX (sY s) (6 * k + i) ≤ 1 ∧ dX (sY s) (6 * k + i) = dX (sY s) (6 * i + k)
      rw [h4 k i (by omega) (by omega) (by omega), h4 i k (by omega) (by omega) (by omega)]
      exact ⟨by omega, rfl⟩
  · rw [ec] at hk2
    by_cases he : k < dC (sY s)
    · exact p7 k he
    · exact h4 k k (Or.inl (by omega)) (by omega) (by omega)
  · rw [ec] at hk2
    by_cases he : k < dC (sY s)
    · exact p8 v q k hv hq2 he
    · show dV (sY s) (24 * v + 6 * q + k) ≤ 99
      rw [h5 v q k (Or.inr (by omega)) hv (by have hq2 : q < dQ (sY s) := hq2; omega) (by omega)]
      omega
  · rw [ec] at hh
    exact h4 k i (by omega) hk2 hi
  · rw [ec] at hh
    exact h5 v q k (hh.elim Or.inl (fun e => Or.inr (by omega))) hv hq2 hk2
theorem POk_clh {a b : Nat} {t : Tok} (h : POk n s) (ha : a < dC (sY s)) (hb : b < dC (sY s)) (hab : a ≠ b) (ht : kA t ≤ n) : POk n (t, sX s, qrY (sY s) a b 1, sW s, sH s) := by
  obtain ⟨h1, h2, h3, h4, h5, -⟩ := h
  have hc := h3.2.1
  refine POk_mk h1 h2 (OkD_Q h3 ha hb hab (by omega)) (fun k i hh hk2 hi => ?_) h5 ht
  have hh : dC (sY s) ≤ k ∨ dC (sY s) ≤ i := hh
  rw [qrX, if_neg (by omega), if_neg (by omega)]
  exact h4 k i hh hk2 hi
theorem POk_wor {v q k u : Nat} {t : Tok} (h : POk n s) (hv : v < 2) (hq : q < dQ (sY s)) (hk : k < dC (sY s)) (hu : u ≤ 99) (ht : kA t ≤ n) : POk n (t, sX s, wdV (sY s) (updN (dV (sY s)) (24 * v + 6 * q + k) u), sW s, sH s) := by
  obtain ⟨h1, h2, ⟨p1, p2, p3, p4, p5, p6, p7, p8⟩, h4, h5, -⟩ := h
  refine POk_mk h1 h2 ⟨p1, p2, p3, p4, p5, p6, p7, fun v' q' k' hv' hq' hk' => ?_⟩ h4 (fun v' q' k' hh hv' hq' hk' => ?_) ht
  · show updN (dV (sY s)) (24 * v + 6 * q + k) u (24 * v' + 6 * q' + k') ≤ 99
    unfold updN
    split
    · exact hu
    · exact p8 v' q' k' hv' hq' hk'
  · have hh : dQ (sY s) ≤ q' ∨ dC (sY s) ≤ k' := hh
    show updN (dV (sY s)) (24 * v + 6 * q + k) u (24 * v' + 6 * q' + k') = 0
    unfold updN
    rw [if_neg (by omega)]
    exact h5 v' q' k' hh hv' hq' hk'
theorem POk_row {q : Nat} {kd : Nat → Nat} {t : Tok} (h : POk n s) (hR : cR (sX s) < 12) (hq : q < dQ (sY s)) (hk : ∀ i, i < cW (sX s) → kd i < 4) (ht : kA t ≤ n) : POk n (t, knX (sX s) q kd, sY s, sW s, sH s) := by
  obtain ⟨h1, h2, h3, h4, h5, -⟩ := h
  exact POk_mk (OkC_kn h1 hR (by have := h3.1; omega) hk) h2 h3 h4 h5 ht
theorem pMea_ok {isW : Bool} (h : POk n s) (e : pMea T n isW s = .ok s1) : POk n s1 := by
  unfold pMea at e
  by_cases h0 : 0 < cR (sX s) ∨ 0 < dC (sY s)
  · rw [if_pos h0] at e; cases e
  rw [if_neg h0] at e
  by_cases h9 : (if isW = true then sW s else sH s) = true
  · rw [if_pos h9] at e; cases e
  rw [if_neg h9] at e
  obtain ⟨h1, h2, ⟨p1, p2, p3, p4, p5, p6, p7, p8⟩, h4, h5, h6⟩ := h
  have hR : cR (sX s) = 0 := by omega
  have hC : dC (sY s) = 0 := by omega
  cases hn : pNum 1 (if isW = true then 8 else 50) (nx T n (sT s)) with
  | error er => rw [hn] at e; cases e
  | ok v =>
    rw [hn] at e
    obtain ⟨-, -, n1, n2⟩ := pNum_ok hn
    have hx : ∀ w t, 1 ≤ w → w ≤ 8 → 1 ≤ t → t ≤ 50 → OkC ((w, t, cR (sX s), cY (sX s)), (sX s).2) := fun w t a1 a2 a3 a4 => ⟨⟨a1, a2⟩, ⟨a3, a4⟩, (show cR (sX s) ≤ 12 by omega), (show cY (sX s) ≤ 20000 by omega), fun r hr => (by have hr : r < cR (sX s) := hr; omega), fun r i hr => (by have hr : r < cR (sX s) := hr; omega)⟩
    cases isW with
    | true =>
      have n2 : v ≤ 8 := n2
      cases e
      exact POk_mk (hx v (cT (sX s)) n1 n2 h1.2.1.1 h1.2.1.2) h2 ⟨p1, p2, p3, fun k hk => by omega, fun k i hk => by omega, p6, p7, p8⟩ h4 h5 (nx_le (nx_le h6))
    | false =>
      have n2 : v ≤ 50 := n2
      cases e
      exact POk_mk (hx (cW (sX s)) v h1.1.1 h1.1.2 n1 n2) h2 ⟨p1, p2, p3, p4, p5, p6, p7, p8⟩ h4 h5 (nx_le (nx_le h6))
theorem pBody_ok (h : POk n s) (e : pBody T n s = .ok s1) : POk n s1 := by
  have h6 := h.2.2.2.2.2
  unfold pBody at e
  split at e
  · exact pMea_ok h e
  split at e
  · exact pMea_ok h e
  split at e
  · unfold pQue at e
    split at e
    · cases e
    · split at e
      · cases e
      · split at e
        · split at e
          · cases e
          · rename_i v hn
            obtain ⟨-, -, n1, n2⟩ := pNum_ok hn
            cases e
            exact POk_que h (by omega) n2 (nx_le (nx_le (nx_le (nx_le h6))))
        · cases e
          exact POk_que h (by omega) (by omega) (nx_le (nx_le h6))
  split at e
  · unfold pCla at e
    split at e
    · cases e
    · split at e
      · cases e
      · split at e
        · split at e
          · cases e
          · rename_i r hn
            obtain ⟨r1, r2, r3, r4⟩ := pKds_ok (by omega) (Nat.zero_le _) (fun i hi => absurd hi (by omega)) (nx_le (nx_le (nx_le h6))) hn
            cases e
            exact POk_cla h (by omega) ⟨r1, by omega, by omega⟩ r3 r4
        · cases e
  split at e
  · unfold pClh at e
    split at e
    · cases e
    · rename_i a ha
      split at e
      · cases e
      · rename_i b hb
        split at e
        · cases e
        · rename_i hab
          obtain ⟨-, ha⟩ := pOld_ok ha
          obtain ⟨-, hb⟩ := pOld_ok hb
          have ha := (idF_ok ha).2.1
          have hb := (idF_ok hb).2.1
          cases e
          exact POk_clh h (by omega) (by omega) (fun g => hab g.symm) (nx_le (nx_le (nx_le h6)))
  have wor : ∀ v, v < 2 → pWor T n v s = .ok s1 → POk n s1 := by
    intro v hv e
    unfold pWor at e
    split at e
    · cases e
    · rename_i a ha
      split at e
      · cases e
      · rename_i b hb
        split at e
        · cases e
        · rename_i u hu
          obtain ⟨-, ha⟩ := pOld_ok ha
          obtain ⟨-, hb⟩ := pOld_ok hb
          obtain ⟨-, -, u1, u2⟩ := pNum_ok hu
          have ha := (idF_ok ha).2.1
          have hb := (idF_ok hb).2.1
          cases e
          exact POk_wor h hv (by omega) (by omega) u2 (nx_le (nx_le (nx_le (nx_le h6))))
  split at e
  · exact wor 0 (by omega) e
  split at e
  · exact wor 1 (by omega) e
  split at e
  · unfold pRow at e
    split at e
    · cases e
    · split at e
      · cases e
      · rename_i a ha
        split at e
        · cases e
        · rename_i r hr
          obtain ⟨-, ha⟩ := pOld_ok ha
          have ha := (idF_ok ha).2.1
          have hw := h.1.1.2
          obtain ⟨r1, r2⟩ := pRun_ok (by omega) (Nat.zero_le _) (fun i hi => absurd hi (by omega)) (nx_le (nx_le h6)) hr
          cases e
          exact POk_row h (by omega) (by omega) r1 r2
  · cases e
theorem pPart_ok (h : POk n s) (e : pPart T n s = .ok s1) : POk n s1 := by
  unfold pPart at e
  split at e
  · cases e
  · rename_i s2 hb
    have h2 := pBody_ok h hb
    split at e
    · cases e
    · rename_i t ht
      unfold pSig at ht
      split at ht
      · cases ht
        cases e
        obtain ⟨g1, g2, g3, g4, g5, g6⟩ := h2
        exact ⟨g1, g2, g3, g4, g5, nx_le g6⟩
      · cases ht
theorem pAll_ok : ∀ {m : Nat} {s s1 : Ps}, POk n s → pAll T n m s = .ok s1 → POk n s1
  | 0, s, s1, h, e => by cases e; exact h
  | m + 1, s, s1, h, e => by
    unfold pAll at e
    split at e
    · cases e; exact h
    · split at e
      · cases e
      · rename_i s2 h2
        exact pAll_ok (pPart_ok h h2) e
theorem OkC_00 : OkC x00 := ⟨⟨show 1 ≤ 6 by omega, show 6 ≤ 8 by omega⟩, ⟨show 1 ≤ 20 by omega, show 20 ≤ 50 by omega⟩, show 0 ≤ 12 by omega, show 0 ≤ 20000 by omega, fun r hr => absurd hr (Nat.not_lt_zero _), fun r i hr => absurd hr (Nat.not_lt_zero _)⟩
theorem OkD_00 {W : Nat} : OkD W y00 := ⟨show 0 ≤ 4 by omega, show 0 ≤ 6 by omega, fun _ h => absurd h (Nat.not_lt_zero _), fun _ h => absurd h (Nat.not_lt_zero _), fun _ _ h => absurd h (Nat.not_lt_zero _), fun _ _ h => absurd h (Nat.not_lt_zero _), fun _ h => absurd h (Nat.not_lt_zero _), fun _ _ _ _ h => absurd h (Nat.not_lt_zero _)⟩
theorem POk_00 : POk n (p00 T n) := ⟨OkC_00, rfl, OkD_00, fun _ _ _ _ _ => rfl, fun _ _ _ _ _ _ _ => rfl, (nxt_bd (Nat.zero_le _)).2.1⟩
end
