/-! ## what a text so far has come to -/
def dgs (v : Nat) : List Nat := if 99 < v then [48 + v / 100, 48 + v / 10 % 10, 48 + v % 10] else if 9 < v then [48 + v / 10 % 10, 48 + v % 10] else [48 + v % 10]
theorem dgs_ok {v : Nat} (h : v ≤ 999) : nl (dgs v) = v ∧ (∀ c ∈ dgs v, isDg c = true) ∧ 1 ≤ (dgs v).length ∧ (dgs v).length ≤ 3 := by
  unfold dgs
  split
  · refine ⟨?_, fun c hc => ?_, show 1 ≤ 3 by omega, show 3 ≤ 3 by omega⟩
    · show ((0 * 10 + (48 + v / 100 - 48)) * 10 + (48 + v / 10 % 10 - 48)) * 10 + (48 + v % 10 - 48) = v
      omega
    · simp only [List.mem_cons, List.not_mem_nil, or_false] at hc
      refine decide_eq_true ?_
      omega
  · split
    · refine ⟨?_, fun c hc => ?_, show 1 ≤ 2 by omega, show 2 ≤ 3 by omega⟩
      · show (0 * 10 + (48 + v / 10 % 10 - 48)) * 10 + (48 + v % 10 - 48) = v
        omega
      · simp only [List.mem_cons, List.not_mem_nil, or_false] at hc
        refine decide_eq_true ?_
        omega
    · refine ⟨?_, fun c hc => ?_, show 1 ≤ 1 by omega, show 1 ≤ 3 by omega⟩
      · show 0 * 10 + (48 + v % 10 - 48) = v
        omega
      · simp only [List.mem_cons, List.not_mem_nil, or_false] at hc
        refine decide_eq_true ?_
        omega
theorem wf_wd {k : Nat} {b : Bool} {w : List Nat} {L : List Pc} (h1 : ∀ c ∈ w, isLt c = true) (h2 : 1 ≤ w.length ∧ w.length ≤ 8) (h3 : b = true ∨ k ≠ 2) (h : WfP 2 L) : WfP k (Wd b w :: L) := ⟨Or.inl ⟨rfl, h1, h2⟩, h3, h⟩
theorem wf_nb {k v : Nat} {L : List Pc} (hv : v ≤ 999) (h : WfP 3 L) : WfP k (Nb (dgs v) :: L) := ⟨Or.inr (Or.inl ⟨rfl, (dgs_ok hv).2.1, (dgs_ok hv).2.2.1, Nat.le_trans (dgs_ok hv).2.2.2 (by decide)⟩), Or.inl rfl, h⟩
theorem wf_zg {k : Nat} {L : List Pc} (hk : k ≠ 4) (h : WfP 4 L) : WfP k (Zg :: L) := ⟨Or.inr (Or.inr ⟨rfl, rfl⟩), Or.inr hk, h⟩
theorem kw_lt : (∀ c ∈ kwW, isLt c = true) ∧ (∀ c ∈ kwT, isLt c = true) ∧ (∀ c ∈ kwQ, isLt c = true) ∧ (∀ c ∈ kwO, isLt c = true) ∧ (∀ c ∈ kwC, isLt c = true) ∧ (∀ c ∈ kwI, isLt c = true) ∧ (∀ c ∈ kwH, isLt c = true) ∧ (∀ c ∈ kwG, isLt c = true) ∧ (∀ c ∈ kwS, isLt c = true) ∧ (∀ c ∈ kwR, isLt c = true) := by decide
theorem kwK_lt : ∀ v, v < 4 → (∀ c ∈ kwK v, isLt c = true) ∧ 1 ≤ (kwK v).length ∧ (kwK v).length ≤ 8 := by decide
theorem nm_lt : ∀ k, k < 3 → (∀ c ∈ nmQ k, isLt c = true) ∧ (∀ c ∈ nmC k, isLt c = true) := by decide
def ZZx (x : Cl) : Prop := ∀ r i, r < cR x → i < cW x → cN x (8 * r + i) = 0 ∧ cU x (8 * r + i) = 0 ∧ cD x (8 * r + i) = 0
/-- the rows' queens are there -/
def OQ (x : Cl) (y : De) : Prop := ∀ r, r < cR x → cO x r < dQ y
def PT (W Q C R : Nat) (w h : Bool) (s : Ps) : Prop := cW (sX s) = W ∧ cR (sX s) = R ∧ dQ (sY s) = Q ∧ dC (sY s) = C ∧ sW s = w ∧ sH s = h ∧ NMs (sY s) ∧ ZZx (sX s) ∧ OQ (sX s) (sY s)
def StepP (B : List Pc) (Φ Ψ : Ps → Prop) : Prop := (∀ L, WfP 4 L → WfP 4 (B ++ L)) ∧ ∀ (T : Nat → Nat) (n : Nat) (s : Ps) (L : List Pc), TK T n (sT s) (B ++ L) → Φ s → ∃ s1, kS (sT s) ≠ 0 ∧ pPart T n s = .ok s1 ∧ TK T n (sT s1) L ∧ Ψ s1
def PG (A : List Pc) (Φ : Ps → Prop) (N : Nat) : Prop := (∀ L, WfP 4 L → WfP 0 (A ++ L)) ∧ ∀ (T : Nat → Nat) (n : Nat) (L : List Pc), TK T n (nxt T n 0) (A ++ L) → ∃ s k, k ≤ N ∧ (∀ m, pAll T n (m + k) (p00 T n) = pAll T n m s) ∧ TK T n (sT s) L ∧ Φ s
theorem wf_40 {L : List Pc} (h : WfP 4 L) : WfP 0 L := by
  cases L with
  | nil => exact trivial
  | cons p L =>
    obtain ⟨h1, -, h3⟩ := h
    exact ⟨h1, Or.inr (by rcases h1 with z | z | z <;> omega), h3⟩
theorem PG_nil : PG [] (PT 6 0 0 0 false false) 0 := ⟨fun L h => wf_40 h, fun T n L h => ⟨p00 T n, 0, Nat.le_refl _, fun m => rfl, h, rfl, rfl, rfl, rfl, rfl, rfl, ⟨fun q hq => absurd hq (Nat.not_lt_zero _), fun q hq => absurd hq (Nat.not_lt_zero _)⟩, fun r i hr => absurd hr (Nat.not_lt_zero _), fun r hr => absurd hr (Nat.not_lt_zero _)⟩⟩
theorem PG_mono {A : List Pc} {Φ Ψ : Ps → Prop} {N N' : Nat} (h : PG A Φ N) (hp : ∀ s, Φ s → Ψ s) (hn : N ≤ N') : PG A Ψ N' := ⟨h.1, fun T n L ht => by
  obtain ⟨s, k, a, b, c, d⟩ := h.2 T n L ht
  exact ⟨s, k, by omega, b, c, hp s d⟩⟩
theorem PG_step {A B : List Pc} {Φ Ψ : Ps → Prop} {N : Nat} (h : PG A Φ N) (g : StepP B Φ Ψ) : PG (A ++ B) Ψ (N + 1) := by
  refine ⟨fun L hL => ?_, fun T n L ht => ?_⟩
  · rw [List.append_assoc]
    exact h.1 _ (g.1 L hL)
  · rw [List.append_assoc] at ht
    obtain ⟨s, k, a, b, c, d⟩ := h.2 T n (B ++ L) ht
    obtain ⟨s1, g1, g2, g3, g4⟩ := g.2 T n s L c d
    refine ⟨s1, k + 1, by omega, fun m => ?_, g3, g4⟩
    rw [show m + (k + 1) = (m + 1) + k by omega, b (m + 1)]
    show (if kS (sT s) = 0 then _ else match pPart T n s with | Except.error e => Except.error e | Except.ok s1 => pAll T n m s1) = _
    rw [if_neg g1, g2]
theorem PG_end {A : List Pc} {Φ : Ps → Prop} {N : Nat} (h : PG A Φ N) (hN : N ≤ 1000) {T : Nat → Nat} {n : Nat} (hT : TA T n 0 (pcs A)) : ∃ s, pTre T n = .ok s ∧ Φ s ∧ POk n s := by
  have hw := h.1 [] trivial
  rw [List.append_nil] at hw
  have ht := nxt_pc hT hw
  obtain ⟨s, k, a, b, c, d⟩ := h.2 T n [] (by rw [List.append_nil]; exact ht)
  have h0 : kS (sT s) = 0 := c
  have e : pTre T n = .ok s := by
    unfold pTre
    rw [show 1000 = (1000 - k) + k by omega, b]
    generalize 1000 - k = m
    cases m with
    | zero => rfl
    | succ m => exact if_pos h0
  exact ⟨s, e, d, pAll_ok POk_00 e⟩
theorem wd_ne0 {T : Nat → Nat} {n : Nat} {t : Tok} {b : Bool} {w : List Nat} {L : List Pc} (h : TK T n t (Wd b w :: L)) : kS t ≠ 0 := by
  have := (h.1.1 rfl).1
  omega
theorem st_wide {v : Nat} (h1 : 1 ≤ v) (h2 : v ≤ 8) : StepP [Wd false kwW, Nb (dgs v), Zg] (PT 6 0 0 0 false false) (PT v 0 0 0 true false) := by
  refine ⟨fun L hL => wf_wd kw_lt.1 (by decide) (Or.inr (by decide)) (wf_nb (by omega) (wf_zg (by decide) hL)), fun T n s L ht hs => ?_⟩
  obtain ⟨a1, a2, a3, a4, a5, a6, a7, a8, a9⟩ := hs
  have e := (dgs_ok (show v ≤ 999 by omega)).1
  obtain ⟨t, b1, b2⟩ := body_mea true (s := s) (L := Zg :: L) (d := dgs v) (b := false) ht a2 a4 a5 (by omega) (show nl (dgs v) ≤ 8 by omega)
  obtain ⟨t2, c1, c2⟩ := part_of b1 b2
  refine ⟨_, wd_ne0 ht, c1, c2, ?_⟩
  exact ⟨e, a2, a3, a4, rfl, a6, a7, fun r i hr => absurd (show r < cR (sX s) from hr) (by omega), fun r hr => absurd (show r < cR (sX s) from hr) (by omega)⟩
theorem st_tough {W v : Nat} (h1 : 1 ≤ v) (h2 : v ≤ 50) : StepP [Wd false kwT, Nb (dgs v), Zg] (PT W 0 0 0 true false) (PT W 0 0 0 true true) := by
  refine ⟨fun L hL => wf_wd kw_lt.2.1 (by decide) (Or.inr (by decide)) (wf_nb (by omega) (wf_zg (by decide) hL)), fun T n s L ht hs => ?_⟩
  obtain ⟨a1, a2, a3, a4, a5, a6, a7, a8, a9⟩ := hs
  have e := (dgs_ok (show v ≤ 999 by omega)).1
  obtain ⟨t, b1, b2⟩ := body_mea false (s := s) (L := Zg :: L) (d := dgs v) (b := false) ht a2 a4 a6 (by omega) (show nl (dgs v) ≤ 50 by omega)
  obtain ⟨t2, c1, c2⟩ := part_of b1 b2
  exact ⟨_, wd_ne0 ht, c1, c2, a1, a2, a3, a4, a5, rfl, a7, a8, a9⟩
theorem idQ_no {y : De} {w : Nat} (h : NMs y) (hq : dQ y ≤ 2) (hw : w < 1000) (hn : ∀ q, q < dQ y → w ≠ 545 + q) : idQ y w = none := idF_no _ _ (fun t _ ht => by
  rw [h.1 t (by omega)]
  exact bJ_ne (by omega) hw (fun e => hn t (by omega) e.symm))
theorem idC_no {y : De} {w : Nat} (h : NMs y) (hq : dC y ≤ 3) (hw : w < 1000) (hn : ∀ q, q < dC y → w ≠ 97 + q) : idC y w = none := idF_no _ _ (fun t _ ht => by
  rw [h.2 t (by omega)]
  exact bJ_ne (by omega) hw (fun e => hn t (by omega) e.symm))
theorem idQ_at {y : De} {q : Nat} (h : NMs y) (hQ : dQ y ≤ 2) (hq : q < dQ y) : idQ y (wl (nmQ q)) = some q := by
  rw [(nm_key q (by omega)).2.2.1]
  exact idF_at _ _ (fun t _ ht => h.1 t (by omega)) (Nat.zero_le _) (by omega) (by omega)
theorem idC_at {y : De} {k : Nat} (h : NMs y) (hC : dC y ≤ 3) (hk : k < dC y) : idC y (wl (nmC k)) = some k := by
  rw [(nm_key k (by omega)).2.2.2]
  exact idF_at _ _ (fun t _ ht => h.2 t (by omega)) (Nat.zero_le _) (by omega) (by omega)
theorem st_que {W k v : Nat} (hk : k < 2) (hv : v ≤ 999) : StepP [Wd false kwQ, Wd true (nmQ k), Wd true kwO, Nb (dgs v), Zg] (PT W k 0 0 true true) (PT W (k + 1) 0 0 true true) := by
  refine ⟨fun L hL => wf_wd kw_lt.2.2.1 (by decide) (Or.inr (by decide)) (wf_wd (nm_lt k (by omega)).1 ⟨(by show 1 ≤ 2; omega), (by show 2 ≤ 8; omega)⟩ (Or.inl rfl) (wf_wd kw_lt.2.2.2.1 (by decide) (Or.inl rfl) (wf_nb hv (wf_zg (by decide) hL)))), fun T n s L ht hs => ?_⟩
  obtain ⟨a1, a2, a3, a4, a5, a6, a7, a8, a9⟩ := hs
  have e := (dgs_ok hv).1
  obtain ⟨n1, -, n3, -⟩ := nm_key k (by omega)
  obtain ⟨t, b1, b2⟩ := body_que (s := s) (L := Zg :: L) (d := dgs v) ht (by omega) n1 (by rw [n3]; exact idQ_no a7 (by omega) (by omega) (fun q hq => by omega)) (by rw [n3]; exact idC_no a7 (by omega) (by omega) (fun q hq => by omega)) (by omega)
  obtain ⟨t2, c1, c2⟩ := part_of b1 b2
  refine ⟨_, wd_ne0 ht, c1, c2, a1, a2, by show dQ (sY s) + 1 = k + 1; omega, a4, a5, a6, ⟨fun q hq => ?_, a7.2⟩, a8, fun r hr => absurd (show r < cR (sX s) from hr) (by omega)⟩
  have hq : q < dQ (sY s) + 1 := hq
  show (if q = dQ (sY s) then bJ (wl (nmQ k)) else dN (sY s) q) = _
  by_cases h0 : q = dQ (sY s)
  · rw [if_pos h0, n3, h0, a3]
  · rw [if_neg h0]
    exact a7.1 q (by omega)
theorem wf_kds {L : List Pc} : ∀ (vs : List Nat), (∀ v ∈ vs, v < 4) → WfP 4 L → WfP 2 (vs.map (fun v => Wd true (kwK v)) ++ Zg :: L)
  | [], _, h => wf_zg (by decide) h
  | v :: vs, hv, h => wf_wd (kwK_lt v (hv v List.mem_cons_self)).1 (kwK_lt v (hv v List.mem_cons_self)).2 (Or.inl rfl) (wf_kds vs (fun x hx => hv x (List.mem_cons_of_mem _ hx)) h)
theorem st_cla {W Q k : Nat} {vs : List Nat} (hQ : Q ≤ 2) (hk : k < 3) (hv : ∀ v ∈ vs, v < 4) (h1 : 1 ≤ vs.length) (h2 : vs.length ≤ 5) (h3 : vs.length ≤ W) : StepP (Wd false kwC :: Wd true (nmC k) :: Wd true kwI :: (vs.map (fun v => Wd true (kwK v)) ++ [Zg])) (PT W Q k 0 true true) (PT W Q (k + 1) 0 true true) := by
  have ea : ∀ L, (Wd false kwC :: Wd true (nmC k) :: Wd true kwI :: (vs.map (fun v => Wd true (kwK v)) ++ [Zg])) ++ L = Wd false kwC :: Wd true (nmC k) :: Wd true kwI :: (vs.map (fun v => Wd true (kwK v)) ++ Zg :: L) := fun L => by
    show _ :: _ :: _ :: ((vs.map (fun v => Wd true (kwK v)) ++ [Zg]) ++ L) = _
    rw [List.append_assoc]
    rfl
  refine ⟨fun L hL => ?_, fun T n s L ht hs => ?_⟩
  · rw [ea]
    exact wf_wd kw_lt.2.2.2.2.1 (by decide) (Or.inr (by decide)) (wf_wd (nm_lt k (by omega)).2 ⟨(by show 1 ≤ 2; omega), (by show 2 ≤ 8; omega)⟩ (Or.inl rfl) (wf_wd kw_lt.2.2.2.2.2.1 (by decide) (Or.inl rfl) (wf_kds vs hv hL)))
  · rw [ea] at ht
    obtain ⟨a1, a2, a3, a4, a5, a6, a7, a8, a9⟩ := hs
    obtain ⟨-, n2, -, n4⟩ := nm_key k (by omega)
    obtain ⟨t, len, kd, b1, b2⟩ := body_cla (s := s) (L := L) ht (by omega) n2 (by rw [n4]; exact idQ_no a7 (by omega) (by omega) (fun q hq => by omega)) (by rw [n4]; exact idC_no a7 (by omega) (by omega) (fun q hq => by omega)) hv h1 h2 (by omega)
    obtain ⟨t2, c1, c2⟩ := part_of b1 b2
    refine ⟨_, wd_ne0 ht, c1, c2, a1, a2, a3, by show dC (sY s) + 1 = k + 1; omega, a5, a6, ⟨a7.1, fun q hq => ?_⟩, a8, a9⟩
    have hq : q < dC (sY s) + 1 := hq
    show (if q = dC (sY s) then bJ (wl (nmC k)) else dM (sY s) q) = _
    by_cases h0 : q = dC (sY s)
    · rw [if_pos h0, n4, h0, a4]
    · rw [if_neg h0]
      exact a7.2 q (by omega)
theorem st_clh {W Q C k i : Nat} (hC : C ≤ 3) (hk : k < C) (hi : i < k) : StepP [Wd false kwH, Wd true (nmC k), Wd true (nmC i), Zg] (PT W Q C 0 true true) (PT W Q C 0 true true) := by
  refine ⟨fun L hL => wf_wd kw_lt.2.2.2.2.2.2.1 (by decide) (Or.inr (by decide)) (wf_wd (nm_lt k (by omega)).2 ⟨(by show 1 ≤ 2; omega), (by show 2 ≤ 8; omega)⟩ (Or.inl rfl) (wf_wd (nm_lt i (by omega)).2 ⟨(by show 1 ≤ 2; omega), (by show 2 ≤ 8; omega)⟩ (Or.inl rfl) (wf_zg (by decide) hL))), fun T n s L ht hs => ?_⟩
  obtain ⟨a1, a2, a3, a4, a5, a6, a7, a8, a9⟩ := hs
  obtain ⟨t, b1, b2⟩ := body_clh (s := s) (L := Zg :: L) ht (nm_key k (by omega)).2.1 (nm_key i (by omega)).2.1 (idC_at a7 (by omega) (by omega)) (idC_at a7 (by omega) (by omega)) (by omega)
  obtain ⟨t2, c1, c2⟩ := part_of b1 b2
  exact ⟨_, wd_ne0 ht, c1, c2, a1, a2, a3, a4, a5, a6, a7, a8, a9⟩
theorem st_wor {W Q C q k d : Nat} (v : Nat) (hv : v < 2) (hQ : Q ≤ 2) (hC : C ≤ 3) (hq : q < Q) (hk : k < C) (hd : d ≤ 99) : StepP [Wd false (if v = 0 then kwG else kwS), Wd true (nmQ q), Wd true (nmC k), Nb (dgs d), Zg] (PT W Q C 0 true true) (PT W Q C 0 true true) := by
  refine ⟨fun L hL => ?_, fun T n s L ht hs => ?_⟩
  · refine wf_wd ?_ ?_ (Or.inr (by decide)) (wf_wd (nm_lt q (by omega)).1 ⟨(by show 1 ≤ 2; omega), (by show 2 ≤ 8; omega)⟩ (Or.inl rfl) (wf_wd (nm_lt k (by omega)).2 ⟨(by show 1 ≤ 2; omega), (by show 2 ≤ 8; omega)⟩ (Or.inl rfl) (wf_nb (by omega) (wf_zg (by decide) hL))))
    · split
      · exact kw_lt.2.2.2.2.2.2.2.1
      · exact kw_lt.2.2.2.2.2.2.2.2.1
    · split <;> decide
  obtain ⟨a1, a2, a3, a4, a5, a6, a7, a8, a9⟩ := hs
  obtain ⟨t, b1, b2⟩ := body_wor v hv (s := s) (L := Zg :: L) ht (nm_key q (by omega)).1 (nm_key k (by omega)).2.1 (idQ_at a7 (by omega) (by omega)) (idC_at a7 (by omega) (by omega)) (by rw [(dgs_ok (show d ≤ 999 by omega)).1]; exact hd)
  obtain ⟨t2, c1, c2⟩ := part_of b1 b2
  exact ⟨_, wd_ne0 ht, c1, c2, a1, a2, a3, a4, a5, a6, a7, a8, a9⟩
theorem ZZ_kn {x : Cl} {q : Nat} {kd : Nat → Nat} (h : ZZx x) (hW : cW x ≤ 8) : ZZx (knX x q kd) := fun r i hr hi => by
  have hr : r < cR x + 1 := hr
  have hi : i < cW x := hi
  show (if 8 * r + i < 8 * cR x then cN x (8 * r + i) else 0) = 0 ∧ (if 8 * r + i < 8 * cR x then cU x (8 * r + i) else 0) = 0 ∧ (if 8 * r + i < 8 * cR x then cD x (8 * r + i) else 0) = 0
  by_cases h0 : r < cR x
  · rw [if_pos (by omega), if_pos (by omega), if_pos (by omega)]
    exact h r i h0 hi
  · rw [if_neg (by omega), if_neg (by omega), if_neg (by omega)]
    exact ⟨rfl, rfl, rfl⟩
/-- runs that are written as numbers are, or not at all -/
def RunD (q : Nat × List Nat) : Prop := q.1 < 4 ∧ (q.2 = [] ∨ ∃ m, 1 ≤ m ∧ m ≤ 8 ∧ q.2 = dgs m)
theorem RunD_ok {q : Nat × List Nat} (h : RunD q) : RunOk q := ⟨h.1, fun hn => by
  rcases h.2 with h | ⟨m, h1, h2, h3⟩
  · exact absurd h hn
  · rw [h3, (dgs_ok (show m ≤ 999 by omega)).1]
    exact ⟨h1, h2⟩⟩
theorem wf_runs {L : List Pc} : ∀ (rs : List (Nat × List Nat)) (k : Nat), k ≠ 4 → (∀ q ∈ rs, RunD q) → WfP 4 L → WfP k (rs.flatMap runP ++ Zg :: L)
  | [], k, hk, _, h => wf_zg hk h
  | q :: rs, k, hk, hq, h => by
    have h0 := hq q List.mem_cons_self
    have e : (q :: rs).flatMap runP ++ Zg :: L = runP q ++ (rs.flatMap runP ++ Zg :: L) := by rw [List.flatMap_cons, List.append_assoc]
    have hr : ∀ x ∈ rs, RunD x := fun x hx => hq x (List.mem_cons_of_mem _ hx)
    rw [e]
    unfold runP
    rcases h0.2 with h1 | ⟨m, h1, h2, h3⟩
    · rw [if_pos h1]
      exact wf_wd (kwK_lt _ h0.1).1 (kwK_lt _ h0.1).2 (Or.inl rfl) (wf_runs rs 2 (by decide) hr h)
    · have hn : q.2 ≠ [] := fun e => by
        have := (dgs_ok (show m ≤ 999 by omega)).2.2.1
        rw [← h3, e] at this
        exact absurd this (by decide)
      rw [if_neg hn, h3]
      exact wf_wd (kwK_lt _ h0.1).1 (kwK_lt _ h0.1).2 (Or.inl rfl) (wf_nb (by omega) (wf_runs rs 3 (by decide) hr h))
theorem st_row {W Q C R q : Nat} {rs : List (Nat × List Nat)} (hW : W ≤ 8) (hQ : Q ≤ 2) (hq : q < Q) (hR : R < 12) (hr : ∀ x ∈ rs, RunD x) (hs : (rs.map runN).sum = W) (hl : rs.length < 10) : StepP (Wd false kwR :: Wd true (nmQ q) :: (rs.flatMap runP ++ [Zg])) (PT W Q C R true true) (PT W Q C (R + 1) true true) := by
  have ea : ∀ L, (Wd false kwR :: Wd true (nmQ q) :: (rs.flatMap runP ++ [Zg])) ++ L = Wd false kwR :: Wd true (nmQ q) :: (rs.flatMap runP ++ Zg :: L) := fun L => by
    show _ :: _ :: ((rs.flatMap runP ++ [Zg]) ++ L) = _
    rw [List.append_assoc]
    rfl
  refine ⟨fun L hL => ?_, fun T n s L ht hp => ?_⟩
  · rw [ea]
    exact wf_wd kw_lt.2.2.2.2.2.2.2.2.2 (by decide) (Or.inr (by decide)) (wf_wd (nm_lt q (by omega)).1 ⟨(by show 1 ≤ 2; omega), (by show 2 ≤ 8; omega)⟩ (Or.inl rfl) (wf_runs rs 2 (by decide) hr hL))
  · rw [ea] at ht
    obtain ⟨a1, a2, a3, a4, a5, a6, a7, a8, a9⟩ := hp
    obtain ⟨t, kd, b1, b2⟩ := body_row (s := s) (L := L) ht (by omega) (nm_key q (by omega)).1 (idQ_at a7 (by omega) (by omega)) (fun x hx => RunD_ok (hr x hx)) (by omega) hl
    obtain ⟨t2, c1, c2⟩ := part_of b1 b2
    exact ⟨_, wd_ne0 ht, c1, c2, a1, by show cR (sX s) + 1 = R + 1; omega, a3, a4, a5, a6, a7, ZZ_kn a8 (by omega), fun r hr => by
      have hr : r < cR (sX s) + 1 := hr
      show (if r = cR (sX s) then q else cO (sX s) r) < dQ (sY s)
      by_cases e : r = cR (sX s)
      · rw [if_pos e]; omega
      · rw [if_neg e]; exact a9 r (by omega)⟩
