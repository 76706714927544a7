/-! ## CENTURIES' text, as numbers -/
abbrev Cs : Type := Tok × (Nat × Nat) × (Nat → Nat → Nat) × ((Nat → Nat) × (Nat → Nat) × (Nat → Nat) × (Nat → Nat)) × List (Nat × Nat)
def vvT (s : Cs) : Tok := s.1
def vvK (s : Cs) : Nat := s.2.1.1
def vvE (s : Cs) : Nat := s.2.1.2
def vvZ (s : Cs) : Nat → Nat → Nat := s.2.2.1
def vvO (s : Cs) : Nat → Nat := s.2.2.2.1.1
def vvA (s : Cs) : Nat → Nat := s.2.2.2.1.2.1
def vvB (s : Cs) : Nat → Nat := s.2.2.2.1.2.2.1
def vvM (s : Cs) : Nat → Nat := s.2.2.2.1.2.2.2
def vvS (s : Cs) : List (Nat × Nat) := s.2.2.2.2
/-- a step: its kind, its numbers, its test, its sign, where it ends -/
def stF (ki a b ts sg en : Nat) : Nat → Nat := fun j => if j = 0 then ki else if j = 1 then a else if j = 2 then b else if j = 6 then ts else if j = 7 then sg else if j = 8 then en else 0
def updZ (z : Nat → Nat → Nat) (k : Nat) (f : Nat → Nat) : Nat → Nat → Nat := fun s => if s = k then f else z s
/-- what is read of a step behind its word: numbers, the entry, the token behind -/
abbrev Yi : Type := (Nat × Nat × Nat × Nat) × (Nat × Nat × Nat) × Tok
section
variable (T : Nat → Nat) (n : Nat) (x : Cl) (y : De)
def pNmR (R : Nat) (t : Tok) : Except Er Nat := if R = 0 then .error (flt t (if kS t = 3 then 4 else 2)) else pNum 0 (R - 1) t
def pTwo (ki R W : Nat) (t : Tok) : Except Er Yi := match pNmR R t with
  | .error e => .error e
  | .ok a => match pNum 0 (W - 1) (nx T n t) with
    | .error e => .error e
    | .ok b => .ok ((a, b, 0, 0), (14 + ki, a, b), nx T n (nx T n t))
def pOneN (o lo hi : Nat) (t : Tok) : Except Er Yi := match pNum lo hi t with
  | .error e => .error e
  | .ok a => .ok ((a, 0, 0, 0), (o, a, 0), nx T n t)
def pTst (t : Tok) : Except Er Yi := match tsK t with
  | none => .error (flt t 2)
  | some v => if v = 0 then (match pOld (idC y (kW (nx T n t))) (nx T n t) with
      | .error e => .error e
      | .ok a => .ok ((a, 0, 0, 0), (20, a, 0), nx T n (nx T n t)))
    else if v = 1 then (match pNmR (cR x) (nx T n t) with
      | .error e => .error e
      | .ok a => .ok ((a, 0, 1, 0), (21, a, 0), nx T n (nx T n t)))
    else if kS (nx T n t) = 4 ∧ kV (nx T n t) ≠ 59 then (match pNum 0 99 (nx T n (nx T n t)) with
      | .error e => .error e
      | .ok a => .ok ((a, 0, 2, kV (nx T n t)), (22, kV (nx T n t), a), nx T n (nx T n (nx T n t))))
    else .error (flt (nx T n t) 2)
def pStp (ki : Nat) (t : Tok) : Except Er Yi :=
  if ki = 0 then pOneN T n 14 1 20 t else if ki = 1 then pTwo T n 1 (cR x) 2 t
  else if ki = 2 then pTwo T n 2 (cR x) (cW x) t else if ki = 3 then pTwo T n 3 (cR x) (cW x) t
  else if ki = 4 then .ok ((0, 0, 0, 0), (18, 0, 0), t) else if ki = 5 then pTst T n x y t
  else if ki = 6 then pOneN T n 23 1 99 t else .ok ((0, 0, 0, 0), (25, 0, 0), t)
/-- one more entry -/
def addE (s : Cs) (t : Tok) (k : Nat) (z : Nat → Nat → Nat) (o a b : Nat) (st : List (Nat × Nat)) : Cs := (t, (k, vvE s + 1), z, (updN (vvO s) (vvE s) o, updN (vvA s) (vvE s) a, updN (vvB s) (vvE s) b, updN (vvM s) (vvE s) (vvE s)), st)
def isBd (ki : Nat) : Bool := decide (ki = 5 ∨ ki = 6)
def cBeg (s : Cs) (ki : Nat) (r : Yi) (t : Tok) : Cs := addE s t (vvK s + 1) (updZ (vvZ s) (vvK s) (stF ki r.1.1 r.1.2.1 r.1.2.2.1 r.1.2.2.2 (vvK s + 1))) r.2.1.1 r.2.1.2.1 r.2.1.2.2 (if isBd ki = true then (vvK s, vvE s) :: vvS s else vvS s)
/-- the body of step a, begun by entry p, ends -/
def cEnd (s : Cs) (a p : Nat) (t : Tok) (L : List (Nat × Nat)) : Cs := (t, (vvK s, vvE s + 1), updZ (vvZ s) a (fun j => if j = 8 then vvK s else vvZ s a j), (updN (vvO s) (vvE s) 24, updN (vvA s) (vvE s) 0, updN (vvB s) (vvE s) 0, updN (updN (vvM s) p (vvE s)) (vvE s) p), L)
def cTurn (s : Cs) : Except Er Cs :=
  if isK (vvT s) 24 = true then (match vvS s with
    | [] => .error (flt (vvT s) 2)
    | q :: L => match pSig T n 59 (nx T n (vvT s)) with
      | .error e => .error e
      | .ok t => .ok (cEnd s q.1 q.2 t L))
  else match stK (vvT s) with
    | none => .error (flt (vvT s) 2)
    | some ki => if 30 ≤ vvK s then .error (flt (vvT s) 6)
      else if isBd ki = true ∧ 3 ≤ (vvS s).length then .error (flt (vvT s) 7)
      else match pStp T n x y ki (nx T n (vvT s)) with
        | .error e => .error e
        | .ok r => match pSig T n 59 r.2.2 with
          | .error e => .error e
          | .ok t => .ok (cBeg s ki r t)
def cAll : Nat → Cs → Except Er Cs
  | 0, s => .ok s
  | m + 1, s => if kS (vvT s) = 0 then (if vvS s = [] then .ok s else .error (flt (vvT s) 2)) else match cTurn T n x y s with
    | .error e => .error e
    | .ok s1 => cAll m s1
def c00 : Cs := (nxt T n 0, (0, 0), (fun _ _ => 0), ((fun _ => 0), (fun _ => 0), (fun _ => 0), (fun _ => 0)), [])
def pCen : Except Er Cs := cAll T n x y 1000 (c00 T n)
end
section
variable {T : Nat → Nat} {n : Nat} {x : Cl} {y : De} {s s1 : Cs} {t : Tok} {r : Yi}
/-! the place in the text grows -/
theorem pSig_mo {c : Nat} {t1 : Tok} (h : TkO n t) (e : pSig T n c t = .ok t1) : TkO n t1 ∧ kA t ≤ kP t1 := by
  unfold pSig at e
  split at e
  · cases e; exact TkO_nx h
  · cases e
theorem pStp_mo {ki : Nat} (h : TkO n t) (e : pStp T n x y ki t = .ok r) : TkO n r.2.2 ∧ kP t ≤ kP r.2.2 := by
  obtain ⟨a1, a2⟩ := TkO_nx (T := T) h
  obtain ⟨b1, b2⟩ := TkO_nx (T := T) a1
  obtain ⟨c1, c2⟩ := TkO_nx (T := T) b1
  have h1 := h.1
  have a3 := a1.1
  have b3 := b1.1
  have one : ∀ {o lo hi : Nat}, pOneN T n o lo hi t = .ok r → TkO n r.2.2 ∧ kP t ≤ kP r.2.2 := by
    intro o lo hi e
    unfold pOneN at e
    split at e
    · cases e
    · cases e; exact ⟨a1, by show kP t ≤ kP (nx T n t); omega⟩
  have two : ∀ {k R W : Nat}, pTwo T n k R W t = .ok r → TkO n r.2.2 ∧ kP t ≤ kP r.2.2 := by
    intro k R W e
    unfold pTwo at e
    split at e
    · cases e
    · split at e
      · cases e
      · cases e; exact ⟨b1, by show kP t ≤ kP (nx T n (nx T n t)); omega⟩
  unfold pStp at e
  split at e
  · exact one e
  · split at e
    · exact two e
    · split at e
      · exact two e
      · split at e
        · exact two e
        · split at e
          · cases e; exact ⟨h, Nat.le_refl _⟩
          · split at e
            · unfold pTst at e
              split at e
              · cases e
              · split at e
                · split at e
                  · cases e
                  · cases e; exact ⟨b1, by show kP t ≤ kP (nx T n (nx T n t)); omega⟩
                · split at e
                  · split at e
                    · cases e
                    · cases e; exact ⟨b1, by show kP t ≤ kP (nx T n (nx T n t)); omega⟩
                  · split at e
                    · split at e
                      · cases e
                      · cases e; exact ⟨c1, by show kP t ≤ kP (nx T n (nx T n (nx T n t))); omega⟩
                    · cases e
            · split at e
              · exact one e
              · cases e; exact ⟨h, Nat.le_refl _⟩
theorem cTurn_mo (h : TkO n (vvT s)) (h0 : kS (vvT s) ≠ 0) (e : cTurn T n x y s = .ok s1) : TkO n (vvT s1) ∧ kP (vvT s) < kP (vvT s1) := by
  obtain ⟨a1, a2⟩ := TkO_nx (T := T) h
  have a3 := a1.1
  have h2 := h.2.2 h0
  unfold cTurn at e
  split at e
  · split at e
    · cases e
    · split at e
      · cases e
      · rename_i t1 ht
        cases e
        obtain ⟨k1, k2⟩ := pSig_mo a1 ht
        exact ⟨k1, by show kP (vvT s) < kP t1; omega⟩
  · split at e
    · cases e
    · split at e
      · cases e
      · split at e
        · cases e
        · split at e
          · cases e
          · rename_i r hr
            split at e
            · cases e
            · rename_i t1 ht
              cases e
              obtain ⟨k1, k2⟩ := pStp_mo a1 hr
              obtain ⟨k3, k4⟩ := pSig_mo k1 ht
              have k5 := k1.1
              exact ⟨k3, by show kP (vvT s) < kP t1; omega⟩
end
