/-! ## calls, and a method's contract out of its walk -/
theorem kx_nest_on : ∀ n ∈ kx_nest, n.onTables = true := by
  intro n h
  simp only [kx_nest, List.mem_cons, List.not_mem_nil, or_false] at h
  rcases h with rfl | rfl | rfl | rfl <;> rfl
theorem kx_N_same {w : kx_W} {u U : State} (h : u.vm = U.vm) (hN : kx_N w u) : kx_N w U := ⟨fun n hn => va_Nw.same (kx_nest_on n hn) h (hN.1 n hn), fun i hi => vk_R.same h.symm (hN.2 i hi)⟩
theorem kx_N_warm {w : kx_W} {s U : State} (hW : s.WarmedH U.vm) (hN : kx_N w s) : kx_N w U := by
  refine ⟨?_, fun i hi => vk_R.warm hW (hN.2 i hi)⟩
  intro n hn
  have h0 := hN.1 n hn
  simp only [kx_nest, List.mem_cons, List.not_mem_nil, or_false] at hn
  rcases hn with rfl | rfl | rfl | rfl
  all_goals first | exact va_Nw.warmF hW h0 | exact va_Nw.warmM hW h0
theorem bx_F_moved {w : kx_W} {u U : State} {H : Heap} (hvm : u.vm.Alike U.vm) (h : bx_F w u H) : bx_F w U H := by
  obtain ⟨v0, h1, h2⟩ := h
  exact ⟨v0, h1, va_Z.moved hvm h2⟩
theorem bx_F_kept {w : kx_W} {U : State} {H H1 : Heap} (h : bx_F w U H) (hq : ∀ a : Nat, a < H.size → ¬ kx_A w a → H1[a]? = H[a]?) : bx_F w U H1 := by
  obtain ⟨v0, h1, h2⟩ := h
  exact ⟨v0, h1, va_Z.kept h2 hq⟩
theorem kx_S_moved {w : kx_W} {u U : State} {H : Heap} (hvm : u.vm.Alike U.vm) (h : kx_S w u H) : kx_S w U H := ⟨va_Z.moved hvm h.1, va_T.moved hvm h.2.1, va_T.moved hvm h.2.2.1, vk_S.moved hvm h.2.2.2.1, va_Z.moved hvm h.2.2.2.2.1, bx_F_moved hvm h.2.2.2.2.2⟩
theorem kx_S_kept {w : kx_W} {U : State} {H H1 : Heap} (h : kx_S w U H) (hq : ∀ a : Nat, a < H.size → ¬ kx_A w a → H1[a]? = H[a]?) : kx_S w U H1 := ⟨va_Z.kept h.1 hq, va_T.kept h.2.1 hq, va_T.kept h.2.2.1 hq, vk_S.kept h.2.2.2.1 hq, va_Z.kept h.2.2.2.2.1 hq, bx_F_kept h.2.2.2.2.2 hq⟩
theorem kx_blind (w : kx_W) (av : List Value) (M : kx_M) : FrameBlind (va_Pc av (kx_P w M)) := by
  intro a U g mk h
  obtain ⟨h1, hP, hK, hS, hN⟩ := h
  exact ⟨h1, hP, va_K.moved (u := U) (U := U.calling g mk a) (Vm.Alike.refl U.vm) hK, kx_S_moved (u := U) (U := U.calling g mk a) (Vm.Alike.refl U.vm) hS, kx_N_same (u := U) (U := U.calling g mk a) rfl hN⟩
section KC
variable {p : Program} {e : Env} {R : Room} {s : State} {mi : MethodId} {args : Array Value} {below : List Frame} {meth : Method} {c : Code} {H : Heap} {locs : List Loc} {cells slots : Nat} {Qf : State → Prop}
theorem kx_go {w : kx_W} {Q : Option Value → kx_M → Prop} {a : Array Value} {pc : Nat} {ls : Array Slot} {st0 rest : List Value} (hr : va_Run p w.1 e R s mi args below meth c H locs cells slots 0 0 (F0 mi pc ls st0) rest (kx_Qc w Q a) (kx_A w)) (hS : va_S (kx_A w) s.heap H locs)
    (kk : ∀ (r : Option Value) (M' : kx_M) (H1 : Heap) (locs1 : List Loc), Q r M' → va_P w.2.1 kx_cl (kx_ws w M') H1 → va_S (kx_A w) s.heap H1 locs1 → W p w.1 e R s mi args below meth c H1 locs1 cells slots Qf (F0 mi (pc + 3) ls ((r.map (kx_cv w)).toList ++ rest))) : W p w.1 e R s mi args below meth c H locs cells slots Qf (F0 mi pc ls st0) := by
  intro T hT X
  obtain ⟨v, st₀, t, T', L, h0, X', hL, hh, hvm, hq, go⟩ := hr T hT X
  obtain ⟨r, M', ho, hQ, hz, hP, hold⟩ := hq
  have hv : v = r.map (kx_cv w) := by injection ho
  subst hv
  have hS' : va_S (kx_A w) s.heap T'.heap (locs ++ L) := by
    refine ⟨?_, fun q h1 h2 => ?_, fun l hl => ?_⟩
    · rw [hh]; exact Nat.le_trans hS.1 (by rw [← h0]; exact hz)
    · rw [hh, hold q (by rw [h0]; exact Nat.lt_of_lt_of_le h1 hS.1) (Nat.not_le.mp h2), h0]; exact hS.2.1 q h1 h2
    · rcases List.mem_append.mp hl with h | h
      · exact hS.2.2 l h
      · exact hL l h
  obtain ⟨t1, a1, b1⟩ := kk r M' T'.heap (locs ++ L) hQ (by rw [hh]; exact hP) hS' T' rfl X'
  exact ⟨t1, go t1 a1, b1⟩
end KC
theorem kx_wd_good {m : kx_md} (ok : kx_mok m) : GoodIn kx_tb (kx_wd m) := by
  intro x hx
  rcases List.mem_cons.mp hx with rfl | h
  · exact kx_tb_good _ ok.2.1
  · exact kx_tb_good _ h
theorem kx_pre {w : kx_W} {s : State} {H : Heap} {locs : List Loc} {M : kx_M} {av : List Value} (hP : va_P w.2.1 kx_cl (kx_ws w M) H) (hK : va_K w.2.1 kx_cl (kx_tys w) s) (hSt : kx_S w s s.heap) (hNe : kx_N w s) (hS : va_S (kx_A w) s.heap H locs) : PreS s H (va_Pc av (kx_P w M)) av := by
  refine ⟨kx_blind w _ M, fun U hU hW => ⟨rfl, by rw [hU]; exact hP, va_K.moved hW.alike hK, ?_, kx_N_warm hW hNe⟩⟩
  rw [hU]
  exact kx_S_kept (kx_S_moved hW.alike hSt) hS.2.1
theorem kx_cat (w : kx_W) (S : List Value) : ((S.map (kx_cv w)).map fun v => v.category).sum = (S.map fun v => v.category).sum := by
  rw [List.map_map]
  congr 1
  apply List.map_congr_left
  intro v _
  exact kx_cv_cat w v
theorem kx_stack (w : kx_W) (r : Option Value) (S : List Value) : (r.map (kx_cv w)).toList ++ S.map (kx_cv w) = (r.toList ++ S).map (kx_cv w) := by
  cases r <;> rfl
theorem x_callV {w : kx_W} {d : Nat} {own : String} {b : ByteArray} {nL : Nat} {cl : List (Nat × Instr × Nat)} {G : Nat → List (Option Value) → List Value → kx_M → Prop} (F : kx_Sb w (d + 1) own b nL cl G) {i pc : Nat} {L : List (Option Value)} {S st : List Value} {M : kx_M} {m' : kx_md} {idx n ci id : Nat} {ks : List Nat} {As : List Value} {Q' : Option Value → kx_M → Prop}
    (hi : cl[i]? = some (pc, .invokevirtual idx, 3)) (hm : kx_MV own idx m' n ci) (ok : kx_mok m') (ho : kx_lay[id]? = some (0, ci, ks)) (hst : st = As.reverse ++ .ref id :: S) (hn : As.length = n) (hrest : (S.map fun v => v.category).sum ≤ 8) (hml' : m'.2.2.1 ≤ 19) (hC : Ct w d m' (.ref id :: As) M Q') (k : ∀ r M', Q' r M' → G (pc + 3) L (r.toList ++ S) M') : G pc L st M := by
  obtain ⟨p, e, R, s, mi, args, below, meth, c, cells, slots, Qf, rfl, hx, hb, hml, hown, hts, hK, hSt, hNe, hroom, hdec⟩ := F
  have h1 := hdec _ (List.mem_of_getElem? hi)
  intro H locs ls hP hS hl
  obtain ⟨hm1, hm2, hm3, hm4, hm5⟩ := hm
  have hq : ∃ q, kx_cl[ci]? = some q ∧ q.1 = m'.1.cls := by
    cases hz : kx_cl[ci]? with
    | none => rw [hz] at hm5; cases hm5
    | some q => rw [hz] at hm5; exact ⟨q, rfl, Option.some.inj hm5⟩
  obtain ⟨q, hq1, hq2⟩ := hq
  have hrec := va_recv (q0 := id) hK hP hq1 (kx_ws_at (w := w) (M := M) ho)
  rw [hq2] at hrec
  have hpre := kx_pre (av := (Value.ref id :: As).map (kx_cv w)) hP hK hSt hNe hS
  have hG : GoodIn kx_tb (wsV own idx m'.1.cls m'.1 (kx_wd m')) := by
    intro x hx1
    rcases List.mem_append.mp hx1 with h | h
    · simp only [List.mem_cons, List.not_mem_nil, or_false] at h
      rcases h with rfl | rfl | rfl | rfl
      · exact kx_tb_good _ hm1
      · exact kx_tb_good _ hm2
      · exact kx_tb_good _ hm3
      · exact kx_tb_good _ ok.2.2.1
    · exact kx_wd_good ok x h
  subst hst
  have hr := va_runV (As := As.map (kx_cv w)) (rest := S.map (kx_cv w)) (g := F0 mi pc ls ((As.reverse ++ .ref id :: S).map (kx_cv w))) (H := H) (locs := locs) (cells := cells) (slots := slots) (e := e) (below := below) (meth := meth) (args := args) (R := R) (b := w.2.2.2.1 + id) ⟨hx, hb, hml, hown, hts⟩ hC
    (cwV n hts hG rfl rfl rfl ⟨rfl, ok.2.2.2.1.1, ok.2.2.2.1.2, hm4⟩ ⟨Nat.le_trans (Nat.le_refl _) hroom.1, by have := hroom.2.1; show 8 + (m'.2.2.1 + 11) + (38 * d + 27) ≤ R.locals; omega⟩)
    ⟨hpre.1, hrec, hpre.2⟩ rfl (by rw [List.length_map]; exact hn) hl.1 (by show List.map _ _ = _; rw [List.map_append, List.map_reverse]; rfl) (lv_room (by rw [kx_cat]; exact hrest)) h1 ⟨by have := hroom.2.2.1; omega, by have := hroom.2.2.2; omega⟩
  refine kx_go hr hS (fun r M' H1 locs1 hQ hP1 hS1 => ?_)
  rw [kx_stack]
  exact k r M' hQ H1 locs1 ls hP1 hS1 hl
theorem x_callS {w : kx_W} {d : Nat} {own : String} {b : ByteArray} {nL : Nat} {cl : List (Nat × Instr × Nat)} {G : Nat → List (Option Value) → List Value → kx_M → Prop} (F : kx_Sb w (d + 1) own b nL cl G) {i pc : Nat} {L : List (Option Value)} {S st : List Value} {M : kx_M} {m' : kx_md} {idx n : Nat} {As : List Value} {Q' : Option Value → kx_M → Prop}
    (hi : cl[i]? = some (pc, .invokestatic idx, 3)) (hm : kx_MS own idx m' n) (ok : kx_mok m') (hst : st = As.reverse ++ S) (hn : As.length = n) (hrest : (S.map fun v => v.category).sum ≤ 8) (hml' : m'.2.2.1 ≤ 19) (hC : Ct w d m' As M Q') (k : ∀ r M', Q' r M' → G (pc + 3) L (r.toList ++ S) M') : G pc L st M := by
  obtain ⟨p, e, R, s, mi, args, below, meth, c, cells, slots, Qf, rfl, hx, hb, hml, hown, hts, hK, hSt, hNe, hroom, hdec⟩ := F
  have h1 := hdec _ (List.mem_of_getElem? hi)
  intro H locs ls hP hS hl
  obtain ⟨hm1, hm2, hm4⟩ := hm
  have hpre := kx_pre (av := As.map (kx_cv w)) hP hK hSt hNe hS
  have hG : GoodIn kx_tb (va_wsS own idx m'.1 (kx_wd m')) := by
    intro x hx1
    rcases List.mem_append.mp hx1 with h | h
    · simp only [List.mem_cons, List.not_mem_nil, or_false] at h
      rcases h with rfl | rfl | rfl
      · exact kx_tb_good _ hm1
      · exact kx_tb_good _ hm2
      · exact kx_tb_good _ ok.2.2.1
    · exact kx_wd_good ok x h
  subst hst
  have hr := va_runS (As := As.map (kx_cv w)) (rest := S.map (kx_cv w)) (g := F0 mi pc ls ((As.reverse ++ S).map (kx_cv w))) (H := H) (locs := locs) (cells := cells) (slots := slots) (e := e) (below := below) (meth := meth) (args := args) (R := R) ⟨hx, hb, hml, hown, hts⟩ hC
    (va_cwS n hts hG rfl rfl rfl ⟨ok.2.2.2.1.1, ok.2.2.2.1.2, hm4⟩ ⟨Nat.le_trans (Nat.le_refl _) hroom.1, by have := hroom.2.1; show 8 + (m'.2.2.1 + 11) + (38 * d + 27) ≤ R.locals; omega⟩)
    hpre rfl (by rw [List.length_map]; exact hn) hl.1 (by show List.map _ _ = _; rw [List.map_append, List.map_reverse]) (lv_room (by rw [kx_cat]; exact hrest)) h1 ⟨by have := hroom.2.2.1; omega, by have := hroom.2.2.2; omega⟩
  refine kx_go hr hS (fun r M' H1 locs1 hQ hP1 hS1 => ?_)
  rw [kx_stack]
  exact k r M' hQ H1 locs1 ls hP1 hS1 hl
theorem x_callN {w : kx_W} {d : Nat} {own : String} {b : ByteArray} {nL : Nat} {cl : List (Nat × Instr × Nat)} {G : Nat → List (Option Value) → List Value → kx_M → Prop} (F : kx_Sb w (d + 1) own b nL cl G) {i pc : Nat} {L : List (Option Value)} {S st : List Value} {M : kx_M} {m' : kx_md} {idx n : Nat} {host : String} {As : List Value} {Q' : Option Value → kx_M → Prop}
    (hi : cl[i]? = some (pc, .invokestatic idx, 3)) (hm : kx_MN own idx m' n host) (ok : kx_mok m') (hst : st = As.reverse ++ S) (hn : As.length = n) (hrest : (S.map fun v => v.category).sum ≤ 8) (hml' : m'.2.2.1 ≤ 19) (hC : Ct w d m' As M Q') (k : ∀ r M', Q' r M' → G (pc + 3) L (r.toList ++ S) M') : G pc L st M := by
  obtain ⟨p, e, R, s, mi, args, below, meth, c, cells, slots, Qf, rfl, hx, hb, hml, hown, hts, hK, hSt, hNe, hroom, hdec⟩ := F
  have h1 := hdec _ (List.mem_of_getElem? hi)
  intro H locs ls hP hS hl
  obtain ⟨hm1, hm2, hm4⟩ := hm
  have hpre := kx_pre (av := As.map (kx_cv w)) hP hK hSt hNe hS
  subst hst
  have hr := va_runSN (As := As.map (kx_cv w)) (rest := S.map (kx_cv w)) (g := F0 mi pc ls ((As.reverse ++ S).map (kx_cv w))) (H := H) (locs := locs) (cells := cells) (slots := slots) (e := e) (below := below) (meth := meth) (args := args) (R := R) ⟨hx, hb, hml, hown, hts⟩ hC
    ⟨va_cnB n hts (kx_wd_good ok) rfl rfl rfl (hNe.1 _ hm1) (hts _ ok.2.2.1) ⟨ok.2.2.2.1.1, ok.2.2.2.1.2, hm4⟩ ⟨Nat.le_trans (Nat.le_refl _) hroom.1, by have := hroom.2.1; show 8 + (m'.2.2.1 + 11) + (38 * d + 27) ≤ R.locals; omega⟩, hts _ hm2, trivial⟩
    hpre rfl (by rw [List.length_map]; exact hn) hl.1 (by show List.map _ _ = _; rw [List.map_append, List.map_reverse]) (lv_room (by rw [kx_cat]; exact hrest)) h1 ⟨by have := hroom.2.2.1; omega, by have := hroom.2.2.2; omega⟩
  refine kx_go hr hS (fun r M' H1 locs1 hQ hP1 hS1 => ?_)
  rw [kx_stack]
  exact k r M' hQ H1 locs1 ls hP1 hS1 hl
/-! the locals at a method's entry -/
def kx_e : List Value → List (Option Value)
  | [] => []
  | v :: vs => if v.category = 2 then some v :: none :: kx_e vs else some v :: kx_e vs
def kx_en0 (args : List Value) (n : Nat) : List (Option Value) := kx_e args ++ List.replicate (n - (kx_e args).length) none
theorem kx_e_len (w : kx_W) (args : List Value) : (lg_sl (args.map (kx_cv w))).length = (kx_e args).length := by
  induction args with
  | nil => rfl
  | cons v vs ih =>
    unfold lg_sl at ih ⊢
    rw [List.map_cons, List.flatMap_cons, List.length_append, ih, kx_cv_cat]
    by_cases h : v.category = 2
    · simp [kx_e, h]; omega
    · simp [kx_e, h]; omega
theorem kx_e_at (w : kx_W) (args : List Value) : ∀ (k i : Nat) (v : Value), (kx_e args)[i]? = some (some v) → (k + i, kx_cv w v) ∈ lv_args k (args.map (kx_cv w)) := by
  induction args with
  | nil => intro k i v h; simp [kx_e] at h
  | cons x xs ih =>
    intro k i v h
    rw [List.map_cons]
    unfold lv_args
    rw [kx_cv_cat]
    by_cases hc : x.category = 2
    · simp only [kx_e, hc, if_true] at h
      match i, h with
      | 0, h => simp at h; subst h; exact List.mem_cons_self
      | 1, h => simp at h
      | i + 2, h =>
        simp only [List.getElem?_cons_succ] at h
        have := ih (k + 2) i v h
        simp only [hc, if_true]
        refine List.mem_cons_of_mem _ ?_
        rw [show k + (i + 2) = k + 2 + i by omega]
        exact this
    · simp only [kx_e, hc, if_false] at h
      match i, h with
      | 0, h => simp at h; subst h; exact List.mem_cons_self
      | i + 1, h =>
        simp only [List.getElem?_cons_succ] at h
        have := ih (k + 1) i v h
        simp only [hc, if_false]
        refine List.mem_cons_of_mem _ ?_
        rw [show k + (i + 1) = k + 1 + i by omega]
        exact this
theorem kx_en0_at {args : List Value} {n i : Nat} {v : Value} (h : (kx_en0 args n)[i]? = some (some v)) : (kx_e args)[i]? = some (some v) := by
  unfold kx_en0 at h
  by_cases hi : i < (kx_e args).length
  · rwa [List.getElem?_append_left hi] at h
  · rw [List.getElem?_append_right (by omega)] at h
    rw [List.getElem?_replicate] at h
    split at h <;> simp at h
set_option maxHeartbeats 1000000 in
theorem mk_ct {w : kx_W} {d : Nat} {m : kx_md} {args : List Value} {M : kx_M} {Q : Option Value → kx_M → Prop} (ok : kx_mok m) (hlen : (kx_e args).length ≤ m.2.2.1) (k : ∀ G, Sd w d m Q G → G 0 (kx_en0 args m.2.2.1) [] M) : Ct w d m args M Q := by
  refine Met.ofW (cc := m.2.1) (maxL := m.2.2.1) (ret := m.2.2.2.1) ok.2.2.2.2 rfl ?_
  intro p e s mi args' below meth c s₁ B hml hv
  obtain ⟨rfl, hP, hK, hSt, hN⟩ := hv
  have hx := B.exec
  have hb := B.bytes
  have hr := B.returns
  have hlocks := B.notSynchronized
  have hts := atoms_spec (ws := kx_wd m) B.pre
  have hown : s.vm.findClass m.1.cls = some mi.cls := findClass_of_methodNamed B.named
  have X : kx_X w d m.1.cls m.2.1 m.2.2.1 m.2.2.2.2 p (kx_rm d) s mi (args.map (kx_cv w)).toArray c 0 0 :=
    ⟨hx, hb, hml, hown, fun x hx1 => hts x (List.mem_cons_of_mem _ hx1), hK, hSt, hN, ⟨Nat.le_refl _, Nat.le_refl _, Nat.zero_le _, Nat.zero_le _⟩, ok.1⟩
  have hl := lv_entry (args.map (kx_cv w)) (n := m.2.2.1) (by rw [kx_e_len]; exact hlen)
  rw [lg_entry_eq]
  have hF : ∀ {H : Heap} {locs : List Loc} {M' : kx_M} {r : Option Value}, va_P w.2.1 kx_cl (kx_ws w M') H → va_S (kx_A w) s.heap H locs → Q r M' → ∀ t : State, t.heap = H → s.WarmedH t.vm → kx_Qc w Q (args.map (kx_cv w)).toArray s (.returned (r.map (kx_cv w))) t := by
    intro H locs M' r hP' hS' hQ t ht hW
    refine ⟨r, M', rfl, hQ, by rw [ht]; exact hS'.1, by rw [ht]; exact hP', fun q hq1 hq => ?_⟩
    rw [ht]
    exact hS'.2.1 q hq1 (Nat.not_le.mpr hq)
  refine k (kx_g w p e (kx_rm d) s mi (args.map (kx_cv w)).toArray below meth c m.2.2.1 0 0 (MQ below (kx_Qc w Q) (args.map (kx_cv w)).toArray s 0 0 (kx_A w))) ⟨⟨p, e, kx_rm d, s, mi, _, below, meth, c, 0, 0, _, rfl, X⟩, ⟨?_, ?_, ?_, ?_, ?_⟩, ok.1⟩ s.heap [] _ hP va_S.rf ⟨hl.1, hl.2.1, fun q hq => ?_⟩
  · intro pc L v M' hd1 hret hQ H locs ls hP' hS' hl'
    exact W.iret hx hb (hr.trans hret) (fun t ht hW => hF (r := some (.int v)) hP' hS' hQ t ht hW) hS'.2.2 hd1 hlocks
  · intro pc L v M' ty hd1 hret hnar hQ H locs ls hP' hS' hl'
    exact W.zret hx hb (hr.trans hret) hnar (fun t ht hW => hF (r := some (.int v)) hP' hS' hQ t ht hW) hS'.2.2 hd1 hlocks
  · intro pc L v M' hd1 hret hQ H locs ls hP' hS' hl'
    exact W.lret hx hb (hr.trans hret) (fun t ht hW => hF (r := some (.long v)) hP' hS' hQ t ht hW) hS'.2.2 hd1 hlocks
  · intro pc L M' hd1 hret hQ H locs ls hP' hS' hl'
    exact W.vret hx hb (hr.trans hret) (fun t ht hW => hF (r := none) hP' hS' hQ t ht hW) hS'.2.2 hd1 hlocks
  · intro pc L v M' C hd1 hret hQ H locs ls hP' hS' hl'
    exact W.aret (v := .ref (w.2.2.2.1 + v)) hx hb (hr.trans hret) (Or.inl ⟨C, rfl⟩) (Or.inr ⟨_, rfl⟩) (fun t ht hW => hF (r := some (.ref v)) hP' hS' hQ t ht hW) hS'.2.2 hd1 hlocks
  · obtain ⟨x, hx1, he⟩ := kx_lp_of hq
    have := kx_e_at w args 0 q.1 x (kx_en0_at hx1)
    rw [Nat.zero_add, ← he] at this
    exact hl.2.2 q this
