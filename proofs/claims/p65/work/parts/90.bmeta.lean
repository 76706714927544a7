/-! ## objects being made: the cells from the world's beginning on, as far as they are -/
abbrev bx_St : Type := List va_E × Nat × Nat
def bx_ws (w : kx_W) (E : List va_E) : va_W := E.mapIdx (fun i e => (w.2.2.2.1 + i, e))
theorem bx_at {w : kx_W} {E : List va_E} {i : Nat} {e : va_E} (h : E[i]? = some e) : (bx_ws w E)[i]? = some (w.2.2.2.1 + i, e) := by
  unfold bx_ws
  rw [List.getElem?_mapIdx, h]
  rfl
theorem bx_set {w : kx_W} {E : List va_E} {i : Nat} {e : va_E} : (bx_ws w E).set i (w.2.2.2.1 + i, e) = bx_ws w (E.set i e) := by
  apply List.ext_getElem?
  intro j
  unfold bx_ws
  rw [List.getElem?_set, List.getElem?_mapIdx, List.getElem?_mapIdx, List.getElem?_set, List.length_mapIdx]
  by_cases h : i = j
  · subst h
    by_cases h2 : i < E.length
    · simp [h2]
    · simp [h2]
  · simp [h]
theorem bx_push {w : kx_W} {E : List va_E} {e : va_E} : bx_ws w E ++ [(w.2.2.2.1 + E.length, e)] = bx_ws w (E ++ [e]) := by
  unfold bx_ws
  simp [List.mapIdx_append]
theorem bx_D (w : kx_W) (E : List va_E) : va_D (kx_A w) (bx_ws w E) := by
  have key : ∀ (k : Nat) (q : Nat × va_E), (bx_ws w E)[k]? = some q → q.1 = w.2.2.2.1 + k := by
    intro k q h
    unfold bx_ws at h
    rw [List.getElem?_mapIdx] at h
    cases hr : E[k]? with
    | none => rw [hr] at h; cases h
    | some z => rw [hr] at h; cases h; rfl
  refine ⟨fun i j p q hi hj he => ?_, fun k q hk => ?_⟩
  · rw [key i p hi, key j q hj] at he; omega
  · rw [key k q hk]; exact Nat.le_add_right _ _
def txW : String := "wide tough queen wool clause is clash gives costs row knit purl cable hole year pull moth darn any when said whole undone loop end stop "
def bytW : List Int32 := txW.toList.map (fun c => Int32.ofNat c.toNat)
def bx_nest : List Cond := [Cond.methodLinkNest "KnitTreaty" 27 ⟨"KnitTreaty$TreatyText", "<init>", "()V"⟩ "KnitTreaty", Cond.methodLinkNest "KnitTreaty" 34 ⟨"KnitTreaty$CenturyText", "<init>", "()V"⟩ "KnitTreaty", Cond.methodLinkNest "KnitTreaty" 41 ⟨"KnitTreaty$Seen", "<init>", "()V"⟩ "KnitTreaty", Cond.methodLinkNest "KnitTreaty" 48 ⟨"KnitTreaty$Joiner", "<init>", "()V"⟩ "KnitTreaty", Cond.methodLinkNest "KnitTreaty" 55 ⟨"KnitTreaty$Life", "<init>", "()V"⟩ "KnitTreaty", Cond.methodLinkNest "KnitTreaty" 63 ⟨"KnitTreaty$State", "<init>", "()V"⟩ "KnitTreaty", Cond.methodLinkNest "KnitTreaty$State" 9 ⟨"KnitTreaty$Deal", "<init>", "()V"⟩ "KnitTreaty", Cond.methodLinkNest "KnitTreaty$State" 18 ⟨"KnitTreaty$Cloth", "<init>", "()V"⟩ "KnitTreaty", Cond.methodLinkNest "KnitTreaty$State" 25 ⟨"KnitTreaty$Script", "<init>", "()V"⟩ "KnitTreaty", Cond.methodLinkNest "KnitTreaty" 98 ⟨"KnitTreaty$Tray", "<init>", "()V"⟩ "KnitTreaty"]
theorem bx_nest_on : ∀ n ∈ bx_nest, n.onTables = true := by
  intro n h
  simp only [bx_nest, List.mem_cons, List.not_mem_nil, or_false] at h
  rcases h with rfl | rfl | rfl | rfl | rfl | rfl | rfl | rfl | rfl | rfl <;> rfl
theorem bx_N_warm {s U : State} (hW : s.WarmedH U.vm) (hN : ∀ n ∈ bx_nest, va_Nw n s) : ∀ n ∈ bx_nest, va_Nw n U := by
  intro n hn
  have h0 := hN n hn
  simp only [bx_nest, List.mem_cons, List.not_mem_nil, or_false] at hn
  rcases hn with rfl | rfl | rfl | rfl | rfl | rfl | rfl | rfl | rfl | rfl <;> exact va_Nw.warmM hW h0
/-- the words' text and what its methods look at; the nest's words -/
def bx_Z (w : kx_W) (U : State) (H : Heap) : Prop := vk_S 1 [bytW.length] [bytW] (fun _ => w.2.2.2.2 1) (fun _ => w.2.2.2.2 2) (kx_A w) U H ∧ va_Z "java/lang/String" "COMPACT_STRINGS" "Z" (.int 1) (kx_A w) U H ∧ bx_F w U H ∧ vk_R "KnitTreaty$Reader" 51 txW (w.2.2.2.2 1) U ∧ (∀ n ∈ bx_nest, va_Nw n U) ∧ va_AO "KnitTreaty$Tray" U ∧ va_AO "KnitTreaty$State" U
theorem bx_Z_same {w : kx_W} {u U : State} {H : Heap} (hv : U.vm = u.vm) (h : bx_Z w u H) : bx_Z w U H := by
  have ha : u.vm.Alike U.vm := by rw [hv]; exact Vm.Alike.refl _
  exact ⟨vk_S.moved ha h.1, va_Z.moved ha h.2.1, bx_F_moved ha h.2.2.1, vk_R.same hv h.2.2.2.1, fun n hn => va_Nw.same (bx_nest_on n hn) hv.symm (h.2.2.2.2.1 n hn), va_AO.moved ha h.2.2.2.2.2.1, va_AO.moved ha h.2.2.2.2.2.2⟩
theorem bx_Z_warm {w : kx_W} {s U : State} {H : Heap} (hW : s.WarmedH U.vm) (h : bx_Z w s H) : bx_Z w U H := ⟨vk_S.moved hW.alike h.1, va_Z.moved hW.alike h.2.1, bx_F_moved hW.alike h.2.2.1, vk_R.warm hW h.2.2.2.1, bx_N_warm hW h.2.2.2.2.1, va_AO.moved hW.alike h.2.2.2.2.2.1, va_AO.moved hW.alike h.2.2.2.2.2.2⟩
theorem bx_Z_kept {w : kx_W} {U : State} {H H1 : Heap} (h : bx_Z w U H) (hq : ∀ a : Nat, a < H.size → ¬ kx_A w a → H1[a]? = H[a]?) : bx_Z w U H1 := ⟨vk_S.kept h.1 hq, va_Z.kept h.2.1 hq, bx_F_kept h.2.2.1 hq, h.2.2.2⟩
def bx_P (w : kx_W) (E : List va_E) (U : State) : Prop := va_P w.2.1 kx_cl (bx_ws w E) U.heap ∧ U.heap.size = w.2.2.2.1 + E.length ∧ va_K w.2.1 kx_cl (kx_tys w) U ∧ bx_Z w U U.heap
def bx_Qc (w : kx_W) (Q : Option Value → List va_E → Prop) : Array Value → State → Outcome → State → Prop := fun _ st o t => ∃ (r : Option Value) (E' : List va_E), o = .returned (r.map (kx_cv w)) ∧ Q r E' ∧ st.heap.size ≤ t.heap.size ∧ va_P w.2.1 kx_cl (bx_ws w E') t.heap ∧ t.heap.size = w.2.2.2.1 + E'.length ∧ ∀ q : Nat, q < st.heap.size → q < w.2.2.2.1 → t.heap[q]? = st.heap[q]?
def bx_rm (d mc ms : Nat) : Room := { frames := d, cells := mc, slots := ms, locals := (38 * d + 27) }
/-- a constructor's contract -/
def Bt (w : kx_W) (d mc ms : Nat) (m : kx_md) (args : List Value) (E : List va_E) (Q : Option Value → List va_E → Prop) : Prop :=
  Met w.1 m.1 (kx_wd m) (bx_rm d mc ms) (va_Pc (args.map (kx_cv w)) (bx_P w E)) (bx_Qc w Q) mc ms (kx_A w)
def bx_g (w : kx_W) (p : Program) (e : Env) (R : Room) (s : State) (mi : MethodId) (args : Array Value) (below : List Frame) (meth : Method) (c : Code) (nL : Nat) (Qf : State → Prop) : Nat → List (Option Value) → List Value → bx_St → Prop := fun pc L S M =>
  ∀ (H : Heap) (locs : List Loc) (ls : Array Slot), va_P w.2.1 kx_cl (bx_ws w M.1) H → H.size = w.2.2.2.1 + M.1.length → va_S (kx_A w) s.heap H locs → kx_ls w ls nL L → W p w.1 e R s mi args below meth c H locs M.2.1 M.2.2 Qf (F0 mi pc ls (S.map (kx_cv w)))
def bx_X (w : kx_W) (d mc ms : Nat) (own nm : String) (b : ByteArray) (nL : Nat) (cl : List (Nat × Instr × Nat)) (p : Program) (R : Room) (s : State) (mi : MethodId) (args : Array Value) (c : Code) (meth : Method) : Prop :=
  p.tables.exec = Jvm.exec ∧ c.code = b ∧ c.maxLocals = nL ∧ s.vm.findClass own = some mi.cls ∧ (∀ x ∈ kx_tb, x.before args s = true) ∧ va_K w.2.1 kx_cl (kx_tys w) s ∧ bx_Z w s s.heap ∧ w.2.2.2.1 ≤ s.heap.size ∧ (d ≤ R.frames ∧ (38 * d + 27) ≤ R.locals ∧ mc ≤ R.cells ∧ ms ≤ R.slots) ∧ meth.name = nm ∧ (∀ q ∈ cl, decode b q.1 = .ok (q.2.1, q.2.2))
def bx_Sb (w : kx_W) (d mc ms : Nat) (own nm : String) (b : ByteArray) (nL : Nat) (cl : List (Nat × Instr × Nat)) (G : Nat → List (Option Value) → List Value → bx_St → Prop) : Prop :=
  ∃ (p : Program) (e : Env) (R : Room) (s : State) (mi : MethodId) (args : Array Value) (below : List Frame) (meth : Method) (c : Code) (Qf : State → Prop), G = bx_g w p e R s mi args below meth c nL Qf ∧ bx_X w d mc ms own nm b nL cl p R s mi args c meth
def bx_Rt (m : kx_md) (mc ms : Nat) (Q : Option Value → List va_E → Prop) (G : Nat → List (Option Value) → List Value → bx_St → Prop) : Prop :=
  (∀ pc L v M ty, decode m.2.1 pc = .ok (.ireturn, 1) → m.2.2.2.1 = some ty → narrow ty (.int v) = .int v → M.2.1 ≤ mc → M.2.2 ≤ ms → Q (some (.int v)) M.1 → G pc L [.int v] M) ∧
  (∀ pc L M, decode m.2.1 pc = .ok (.return_, 1) → m.2.2.2.1 = none → M.2.1 ≤ mc → M.2.2 ≤ ms → Q none M.1 → G pc L [] M)
def Bd2 (w : kx_W) (d mc ms : Nat) (m : kx_md) (Q : Option Value → List va_E → Prop) (G : Nat → List (Option Value) → List Value → bx_St → Prop) : Prop :=
  bx_Sb w d mc ms m.1.cls m.1.name m.2.1 m.2.2.1 m.2.2.2.2 G ∧ bx_Rt m mc ms Q G ∧ (∀ q ∈ m.2.2.2.2, decode m.2.1 q.1 = .ok (q.2.1, q.2.2))
theorem bx_blind (w : kx_W) (av : List Value) (E : List va_E) : FrameBlind (va_Pc av (bx_P w E)) := by
  intro a U g mk h
  obtain ⟨h1, hP, hz, hK, hS⟩ := h
  exact ⟨h1, hP, hz, va_K.moved (u := U) (U := U.calling g mk a) (Vm.Alike.refl U.vm) hK, bx_Z_same (u := U) (U := U.calling g mk a) rfl hS⟩
theorem bx_pre {w : kx_W} {s : State} {H : Heap} {locs : List Loc} {E : List va_E} {av : List Value} (hP : va_P w.2.1 kx_cl (bx_ws w E) H) (hz : H.size = w.2.2.2.1 + E.length) (hK : va_K w.2.1 kx_cl (kx_tys w) s) (hSt : bx_Z w s s.heap) (hS : va_S (kx_A w) s.heap H locs) : PreS s H (va_Pc av (bx_P w E)) av := by
  refine ⟨bx_blind w _ E, fun U hU hW => ⟨rfl, by rw [hU]; exact hP, by rw [hU]; exact hz, va_K.moved hW.alike hK, ?_⟩⟩
  rw [hU]
  exact bx_Z_kept (bx_Z_warm hW hSt) hS.2.1
section KC
variable {p : Program} {e : Env} {R : Room} {s : State} {mi : MethodId} {args : Array Value} {below : List Frame} {meth : Method} {c : Code} {H : Heap} {locs : List Loc} {cells slots mc ms : Nat} {Qf : State → Prop}
theorem bx_go {w : kx_W} {Q : Option Value → List va_E → Prop} {a : Array Value} {pc : Nat} {ls : Array Slot} {st0 rest : List Value} (hr : va_Run p w.1 e R s mi args below meth c H locs cells slots mc ms (F0 mi pc ls st0) rest (bx_Qc w Q a) (kx_A w)) (hS : va_S (kx_A w) s.heap H locs)
    (kk : ∀ (r : Option Value) (E' : List va_E) (H1 : Heap) (locs1 : List Loc), Q r E' → va_P w.2.1 kx_cl (bx_ws w E') H1 → H1.size = w.2.2.2.1 + E'.length → va_S (kx_A w) s.heap H1 locs1 → W p w.1 e R s mi args below meth c H1 locs1 (cells + mc) (slots + ms) Qf (F0 mi (pc + 3) ls ((r.map (kx_cv w)).toList ++ rest))) : W p w.1 e R s mi args below meth c H locs cells slots Qf (F0 mi pc ls st0) := by
  intro T hT X
  obtain ⟨v, st₀, t, T', L, h0, X', hL, hh, hvm, hq, go⟩ := hr T hT X
  obtain ⟨r, E', ho, hQ, hz, hP, hz2, hold⟩ := hq
  have hv : v = r.map (kx_cv w) := by injection ho
  subst hv
  have hS' : va_S (kx_A w) s.heap T'.heap (locs ++ L) := by
    refine ⟨?_, fun q h1 h2 => ?_, fun l hl => ?_⟩
    · rw [hh]; exact Nat.le_trans hS.1 (by rw [← h0]; exact hz)
    · rw [hh, hold q (by rw [h0]; exact Nat.lt_of_lt_of_le h1 hS.1) (Nat.not_le.mp h2), h0]; exact hS.2.1 q h1 h2
    · rcases List.mem_append.mp hl with h | h
      · exact hS.2.2 l h
      · exact hL l h
  obtain ⟨t1, a1, b1⟩ := kk r E' T'.heap (locs ++ L) hQ (by rw [hh]; exact hP) (by rw [hh]; exact hz2) hS' T' rfl X'
  exact ⟨t1, go t1 a1, b1⟩
end KC
set_option maxHeartbeats 1000000 in
theorem mk_bt {w : kx_W} {d mc ms : Nat} {m : kx_md} {args : List Value} {E : List va_E} {Q : Option Value → List va_E → Prop} (ok : kx_mok m) (hlen : (kx_e args).length ≤ m.2.2.1) (k : ∀ G, Bd2 w d mc ms m Q G → G 0 (kx_en0 args m.2.2.1) [] (E, 0, 0)) : Bt w d mc ms m args E Q := by
  refine Met.ofW (cc := m.2.1) (maxL := m.2.2.1) (ret := m.2.2.2.1) ok.2.2.2.2 rfl ?_
  intro p e s mi args' below meth c s₁ B hml hv
  obtain ⟨rfl, hP, hz, hK, hSt⟩ := hv
  have hx := B.exec
  have hb := B.bytes
  have hr := B.returns
  have hlocks := B.notSynchronized
  have hts := atoms_spec (ws := kx_wd m) B.pre
  have hown : s.vm.findClass m.1.cls = some mi.cls := findClass_of_methodNamed B.named
  have hnm : meth.name = m.1.name := (name_of_methodNamed B.named B.method).1
  have X : bx_X w d mc ms m.1.cls m.1.name m.2.1 m.2.2.1 m.2.2.2.2 p (bx_rm d mc ms) s mi (args.map (kx_cv w)).toArray c meth :=
    ⟨hx, hb, hml, hown, fun x hx1 => hts x (List.mem_cons_of_mem _ hx1), hK, hSt, by rw [hz]; exact Nat.le_add_right _ _, ⟨Nat.le_refl _, Nat.le_refl _, Nat.le_refl _, Nat.le_refl _⟩, hnm, ok.1⟩
  have hl := lv_entry (args.map (kx_cv w)) (n := m.2.2.1) (by rw [kx_e_len]; exact hlen)
  rw [lg_entry_eq]
  have hF : ∀ {H : Heap} {locs : List Loc} {E' : List va_E} {r : Option Value}, va_P w.2.1 kx_cl (bx_ws w E') H → H.size = w.2.2.2.1 + E'.length → va_S (kx_A w) s.heap H locs → Q r E' → ∀ t : State, t.heap = H → s.WarmedH t.vm → bx_Qc w Q (args.map (kx_cv w)).toArray s (.returned (r.map (kx_cv w))) t := by
    intro H locs E' r hP' hz' hS' hQ t ht hW
    refine ⟨r, E', rfl, hQ, by rw [ht]; exact hS'.1, by rw [ht]; exact hP', by rw [ht]; exact hz', fun q hq1 hq => ?_⟩
    rw [ht]
    exact hS'.2.1 q hq1 (Nat.not_le.mpr hq)
  refine k (bx_g w p e (bx_rm d mc ms) s mi (args.map (kx_cv w)).toArray below meth c m.2.2.1 (MQ below (bx_Qc w Q) (args.map (kx_cv w)).toArray s mc ms (kx_A w))) ⟨⟨p, e, bx_rm d mc ms, s, mi, _, below, meth, c, _, rfl, X⟩, ⟨?_, ?_⟩, ok.1⟩ s.heap [] _ hP hz va_S.rf ⟨hl.1, hl.2.1, fun q hq => ?_⟩
  · intro pc L v M ty hd1 hret hnar hc1 hc2 hQ H locs ls hP' hz' hS' hl'
    exact W.widen hc1 hc2 (W.zret hx hb (hr.trans hret) hnar (fun t ht hW => hF (r := some (.int v)) hP' hz' hS' hQ t ht hW) hS'.2.2 hd1 hlocks)
  · intro pc L M hd1 hret hc1 hc2 hQ H locs ls hP' hz' hS' hl'
    exact W.widen hc1 hc2 (W.vret hx hb (hr.trans hret) (fun t ht hW => hF (r := none) hP' hz' hS' hQ t ht hW) hS'.2.2 hd1 hlocks)
  · obtain ⟨x, hx1, he⟩ := kx_lp_of hq
    have := kx_e_at w args 0 q.1 x (kx_en0_at hx1)
    rw [Nat.zero_add, ← he] at this
    exact hl.2.2 q this
