/-! ## a text, as pieces: TOKENS come one by one -/
/-- a blank ahead or not, the sort (2 word, 3 number, 4 sign), the bytes -/
abbrev Pc : Type := Bool × Nat × List Nat
def pcB (p : Pc) : List Nat := if p.1 = true then 32 :: p.2.2 else p.2.2
def pcs (L : List Pc) : List Nat := L.flatMap pcB
def wl (b : List Nat) : Nat := b.foldl (fun w c => w * 32 + (c - 96)) 0
def nl (b : List Nat) : Nat := b.foldl (fun w c => w * 10 + (c - 48)) 0
def PcOk (p : Pc) : Prop := (p.2.1 = 2 ∧ (∀ c ∈ p.2.2, isLt c = true) ∧ 1 ≤ p.2.2.length ∧ p.2.2.length ≤ 8) ∨ (p.2.1 = 3 ∧ (∀ c ∈ p.2.2, isDg c = true) ∧ 1 ≤ p.2.2.length ∧ p.2.2.length ≤ 4) ∨ (p.2.1 = 4 ∧ p.2.2 = [59])
/-- pieces that follow a piece of sort k -/
def WfP : Nat → List Pc → Prop
  | _, [] => True
  | k, p :: L => PcOk p ∧ (p.1 = true ∨ k ≠ p.2.1) ∧ WfP p.2.1 L
/-- the text from a on, to its end -/
def TA (T : Nat → Nat) (n a : Nat) (bs : List Nat) : Prop := a + bs.length = n ∧ ∀ i, i < bs.length → T (a + i) = bs.getD i 0
def IsPc (t : Tok) (p : Pc) : Prop := (p.2.1 = 2 → kS t = 2 ∧ kV t = keyN (wl p.2.2) ∧ kW t = wl p.2.2) ∧ (p.2.1 = 3 → kS t = 3 ∧ kV t = nl p.2.2) ∧ (p.2.1 = 4 → kS t = 4 ∧ kV t = 59)
def TK (T : Nat → Nat) (n : Nat) (t : Tok) : List Pc → Prop
  | [] => kS t = 0
  | p :: L => IsPc t p ∧ TA T n (kA t) (pcs L) ∧ WfP p.2.1 L
theorem TA_app {T : Nat → Nat} {n a : Nat} {p q : List Nat} (h : TA T n a (p ++ q)) : TA T n (a + p.length) q ∧ (∀ i, i < p.length → T (a + i) = p.getD i 0) ∧ a + p.length ≤ n := by
  obtain ⟨h1, h2⟩ := h
  rw [List.length_append] at h1 h2
  refine ⟨⟨by omega, fun i hi => ?_⟩, fun i hi => ?_, by omega⟩
  · rw [Nat.add_assoc, h2 (p.length + i) (by omega)]
    simp [List.getD, List.getElem?_append_right]
  · rw [h2 i (by omega)]
    simp [List.getD, List.getElem?_append_left hi]
theorem spanL {p : Nat → Bool} {T : Nat → Nat} {n : Nat} : ∀ (b : List Nat) (a : Nat), a + b.length ≤ n → (∀ i, i < b.length → T (a + i) = b.getD i 0) → (∀ c ∈ b, p c = true) → (n ≤ a + b.length ∨ p (T (a + b.length)) = false) → spP p T n a = a + b.length
  | [], a, _, _, _, h => sp_stop h
  | c :: b, a, hn, hT, hp, h => by
    have hl : (c :: b).length = b.length + 1 := rfl
    rw [hl] at hn hT h ⊢
    have h0 : T a = c := hT 0 (by omega)
    rw [sp_go (by omega) (by rw [h0]; exact hp c List.mem_cons_self)]
    rw [spanL b (a + 1) (by omega) (fun i hi => by
      rw [show a + 1 + i = a + (i + 1) by omega, hT (i + 1) (by omega)]
      rfl) (fun x hx => hp x (List.mem_cons_of_mem _ hx)) (by rw [show a + 1 + b.length = a + (b.length + 1) by omega]; exact h)]
    omega
theorem wdF_l {T : Nat → Nat} : ∀ (b : List Nat) (a w : Nat), (∀ i, i < b.length → T (a + i) = b.getD i 0) → wdF T b.length a w = b.foldl (fun w c => w * 32 + (c - 96)) w
  | [], _, _, _ => rfl
  | c :: b, a, w, h => by
    show wdF T b.length (a + 1) (w * 32 + (T a - 96)) = _
    have h0 : T a = c := h 0 (by show 0 < b.length + 1; omega)
    rw [h0]
    exact wdF_l b (a + 1) _ (fun i hi => by
      rw [show a + 1 + i = a + (i + 1) by omega, h (i + 1) (by show i + 1 < b.length + 1; omega)]
      rfl)
theorem nmF_l {T : Nat → Nat} : ∀ (b : List Nat) (a w : Nat), (∀ i, i < b.length → T (a + i) = b.getD i 0) → nmF T b.length a w = b.foldl (fun w c => w * 10 + (c - 48)) w
  | [], _, _, _ => rfl
  | c :: b, a, w, h => by
    show nmF T b.length (a + 1) (w * 10 + (T a - 48)) = _
    have h0 : T a = c := h 0 (by show 0 < b.length + 1; omega)
    rw [h0]
    exact nmF_l b (a + 1) _ (fun i hi => by
      rw [show a + 1 + i = a + (i + 1) by omega, h (i + 1) (by show i + 1 < b.length + 1; omega)]
      rfl)
theorem lt_not {c : Nat} (h : isLt c = true) : isBl c = false ∧ isDg c = false := by
  have h := of_decide_eq_true h
  exact ⟨decide_eq_false (by omega), decide_eq_false (by omega)⟩
theorem dg_not {c : Nat} (h : isDg c = true) : isBl c = false ∧ isLt c = false := by
  have h := of_decide_eq_true h
  exact ⟨decide_eq_false (by omega), decide_eq_false (by omega)⟩
/-- the first byte of a piece's own -/
theorem pc_hd {p : Pc} (h : PcOk p) : ∃ c b, p.2.2 = c :: b ∧ isBl c = false ∧ (p.2.1 = 2 → isLt c = true) ∧ (p.2.1 = 3 → isDg c = true ∧ isLt c = false) ∧ (p.2.1 = 4 → c = 59 ∧ b = []) := by
  rcases h with ⟨h1, h2, h3, -⟩ | ⟨h1, h2, h3, -⟩ | ⟨h1, h2⟩
  · cases hb : p.2.2 with
    | nil => rw [hb] at h3; exact absurd h3 (by decide)
    | cons c b =>
      rw [hb] at h2
      have := h2 c List.mem_cons_self
      exact ⟨c, b, rfl, (lt_not this).1, fun _ => this, fun e => by omega, fun e => by omega⟩
  · cases hb : p.2.2 with
    | nil => rw [hb] at h3; exact absurd h3 (by decide)
    | cons c b =>
      rw [hb] at h2
      have := h2 c List.mem_cons_self
      exact ⟨c, b, rfl, (dg_not this).1, fun e => by omega, fun _ => ⟨this, (dg_not this).2⟩, fun e => by omega⟩
  · exact ⟨59, [], h2, by decide, fun e => by omega, fun e => by omega, fun _ => ⟨rfl, rfl⟩⟩
/-- behind a piece of sort k no letter, no digit goes on -/
theorem wf_next {T : Nat → Nat} {n a k : Nat} {L : List Pc} (hk : k = 2 ∨ k = 3) (hW : WfP k L) (hT : TA T n a (pcs L)) : n ≤ a ∨ (k = 2 → isLt (T a) = false) ∧ (k = 3 → isDg (T a) = false) := by
  cases L with
  | nil =>
    have : a + 0 = n := hT.1
    exact Or.inl (by omega)
  | cons p L =>
    obtain ⟨hp, hs, -⟩ := hW
    obtain ⟨c, b, hb, hbl, h2, h3, h4⟩ := pc_hd hp
    right
    have e : pcs (p :: L) = pcB p ++ pcs L := rfl
    rw [e] at hT
    cases h1 : p.1 with
    | true =>
      have ep : pcB p = 32 :: p.2.2 := by unfold pcB; rw [if_pos h1]
      have e0 : T a = 32 := by
        have := (TA_app hT).2.1 0 (by rw [ep]; show 0 < _ + 1; omega)
        rw [ep] at this
        exact this
      rw [e0]
      exact ⟨fun _ => by decide, fun _ => by decide⟩
    | false =>
      have ep : pcB p = c :: b := by unfold pcB; rw [if_neg (by rw [h1]; decide), hb]
      have e0 : T a = c := by
        have := (TA_app hT).2.1 0 (by rw [ep]; show 0 < _ + 1; omega)
        rw [ep] at this
        exact this
      rw [e0]
      have hs : k ≠ p.2.1 := hs.elim (fun e => by rw [h1] at e; cases e) id
      have hz : p.2.1 = 2 ∨ p.2.1 = 3 ∨ p.2.1 = 4 := by rcases hp with h | h | h <;> omega
      refine ⟨fun hk2 => ?_, fun hk3 => ?_⟩
      · rcases hz with z | z | z
        · omega
        · exact (h3 z).2
        · rw [(h4 z).1]; decide
      · rcases hz with z | z | z
        · exact (lt_not (h2 z)).2
        · omega
        · rw [(h4 z).1]; decide
/-- the next TOKEN is the next piece -/
theorem nxt_pc {T : Nat → Nat} {n a k : Nat} {L : List Pc} (hT : TA T n a (pcs L)) (hW : WfP k L) : TK T n (nxt T n a) L := by
  cases L with
  | nil =>
    have h : a + 0 = n := hT.1
    unfold nxt
    rw [sp_stop (Or.inl (by omega))]
    show kS (nxtP T n a) = 0
    unfold nxtP
    rw [if_pos (by omega)]
    rfl
  | cons p L =>
    obtain ⟨hp, -, hW2⟩ := hW
    obtain ⟨c, b, hb, hbl, h2, h3, h4⟩ := pc_hd hp
    have e : pcs (p :: L) = pcB p ++ pcs L := rfl
    rw [e] at hT
    -- the place where the bytes begin
    obtain ⟨q, hq, hTq⟩ : ∃ q, spP isBl T n a = q ∧ TA T n q (p.2.2 ++ pcs L) := by
      cases h1 : p.1 with
      | true =>
        have ep : pcB p = [32] ++ p.2.2 := by unfold pcB; rw [if_pos h1]; rfl
        rw [ep, List.append_assoc] at hT
        obtain ⟨g1, g2, g3⟩ := TA_app hT
        have e0 : T a = 32 := g2 0 (by decide)
        have g3 : a + 1 ≤ n := g3
        refine ⟨a + 1, ?_, g1⟩
        rw [sp_go (by omega) (by rw [e0]; decide)]
        refine sp_stop (Or.inr ?_)
        have g1' : TA T n (a + 1) (p.2.2 ++ pcs L) := g1
        have := (TA_app g1').2.1 0 (by rw [hb]; show 0 < _ + 1; omega)
        rw [hb] at this
        have this : T (a + 1) = c := this
        rw [this]
        exact hbl
      | false =>
        have ep : pcB p = p.2.2 := by unfold pcB; rw [if_neg (by rw [h1]; decide)]
        rw [ep] at hT
        refine ⟨a, sp_stop (Or.inr ?_), hT⟩
        have := (TA_app hT).2.1 0 (by rw [hb]; show 0 < _ + 1; omega)
        rw [hb] at this
        have this : T a = c := this
        rw [this]
        exact hbl
    obtain ⟨g1, g2, g3⟩ := TA_app hTq
    have e0 : T q = c := by
      have := g2 0 (by rw [hb]; show 0 < _ + 1; omega)
      rw [hb] at this
      exact this
    have hl : 1 ≤ p.2.2.length := by rw [hb]; show 1 ≤ _ + 1; omega
    unfold nxt
    rw [hq]
    unfold nxtP
    rw [if_neg (by omega), e0]
    rcases hp with ⟨z, z2, z3, z4⟩ | ⟨z, z2, z3, z4⟩ | ⟨z, z2⟩
    · rw [if_pos (h2 z)]
      have hn := wf_next (Or.inl z) hW2 g1
      have es : spP isLt T n q = q + p.2.2.length := spanL _ _ g3 g2 z2 (hn.imp id (fun h => h.1 z))
      rw [es]
      have ew : wdF T (q + p.2.2.length - q) q 0 = wl p.2.2 := by
        rw [Nat.add_sub_cancel_left]
        exact wdF_l _ _ _ g2
      refine ⟨⟨fun _ => ⟨rfl, ?_, ew⟩, fun e => by omega, fun e => by omega⟩, g1, hW2⟩
      show (if 8 < q + p.2.2.length - q then 27 else keyN (wdF T (q + p.2.2.length - q) q 0)) = _
      rw [ew, if_neg (by omega)]
    · rw [if_neg (by rw [(h3 z).2]; decide), if_pos (h3 z).1]
      have hn := wf_next (Or.inr z) hW2 g1
      have es : spP isDg T n q = q + p.2.2.length := spanL _ _ g3 g2 z2 (hn.imp id (fun h => h.2 z))
      rw [es]
      refine ⟨⟨fun e => by omega, fun _ => ⟨?_, ?_⟩, fun e => by omega⟩, g1, hW2⟩
      · show (if 4 < q + p.2.2.length - q then 1 else 3) = 3
        rw [if_neg (by omega)]
      · show nmF T (q + p.2.2.length - q) q 0 = _
        rw [Nat.add_sub_cancel_left]
        exact nmF_l _ _ _ g2
    · obtain ⟨c9, b9⟩ := h4 z
      subst c9
      rw [if_neg (by decide), if_neg (by decide)]
      refine ⟨⟨fun e => by omega, fun e => by omega, fun _ => ⟨?_, ?_⟩⟩, ?_, hW2⟩
      · show (if isSg (T q) = true then 4 else 1) = 4
        rw [e0]; rfl
      · exact e0
      · rw [z2] at g1
        exact g1
theorem TK_nx {T : Nat → Nat} {n : Nat} {t : Tok} {p : Pc} {L : List Pc} (h : TK T n t (p :: L)) : IsPc t p ∧ TK T n (nx T n t) L := ⟨h.1, nxt_pc h.2.1 h.2.2⟩
