/-! ## rows, for objects being made: what is made and written -/
def bx_PF (own nm : String) (ci k : Nat) (ty : FieldType) : Prop := ∃ q : vw_C, kx_cl[ci]? = some q ∧ ((q.2.1 k).2.2.2 = false ∨ ((q.2.1 k).2.2.2 = true ∧ nm = "<init>" ∧ (q.2.1 k).1 = own)) ∧ parseFieldDescriptor (q.2.1 k).2.2.1 = some ty
section
variable {w : kx_W} {d mc ms : Nat} {own nm : String} {b : ByteArray} {nL : Nat} {cl : List (Nat × Instr × Nat)} {G : Nat → List (Option Value) → List Value → bx_St → Prop} {i pc : Nat} {L : List (Option Value)} {S : List Value} {M : bx_St}
theorem bx_Pset {D : va_G} {E : List va_E} {H H1 : Heap} {id : Nat} {e0 e : va_E} (hP : va_P D kx_cl (bx_ws w E) H) (ho : E[id]? = some e0) (he : va_at D kx_cl (w.2.2.2.1 + id, e) H1) (oq : ∀ q : Nat, q ≠ w.2.2.2.1 + id → H1[q]? = H[q]?) : va_P D kx_cl (bx_ws w (E.set id e)) H1 := by
  rw [← bx_set]
  exact hP.set (bx_D w E) (bx_at ho) he oq
theorem bx_Padd {D : va_G} {E : List va_E} {H H1 : Heap} {e : va_E} (hP : va_P D kx_cl (bx_ws w E) H) (he : va_at D kx_cl (w.2.2.2.1 + E.length, e) H1) (oq : ∀ q : Nat, q < H.size → H1[q]? = H[q]?) : va_P D kx_cl (bx_ws w (E ++ [e])) H1 := by
  rw [← bx_push]
  refine (hP.kept (fun k x hx => oq x.1 ((hP k x hx).lt))).app (fun k x hx => ?_)
  have hk : k < 1 := (List.getElem?_eq_some_iff.mp hx).1
  rw [show k = 0 by omega] at hx
  cases hx
  exact he
theorem bx_Sadd {A : Nat → Prop} {H0 H H1 : Heap} {locs : List Loc} (hS : va_S A H0 H locs) (hz : H.size ≤ H1.size) (oq : ∀ q : Nat, q < H.size → H1[q]? = H[q]?) : va_S A H0 H1 locs := ⟨Nat.le_trans hS.1 hz, fun x h1 h2 => (oq x (Nat.lt_of_lt_of_le h1 hS.1)).trans (hS.2.1 x h1 h2), hS.2.2⟩
theorem bx_A (q : Nat) : kx_A w (w.2.2.2.1 + q) := Nat.le_add_right _ _
theorem y_put (F : bx_Sb w d mc ms own nm b nL cl G) {idx id ci kk : Nat} {ty : FieldType} {fs : List Value} {v : Value} (hi : cl[i]? = some (pc, .putfield idx, 3)) (hf : kx_FL own idx ci kk) (hp : bx_PF own nm ci kk ty) (ho : M.1[id]? = some (.inr (ci, fs))) (hl : kk < fs.length) (hn : narrow ty (kx_cv w v) = kx_cv w v) (hfit : fits ty (kx_cv w v) = true) (k : G (pc + 3) L S (M.1.set id (.inr (ci, fs.set kk (kx_cv w v))), M.2)) : G pc L (v :: .ref id :: S) M := by
  obtain ⟨p, e, R, s, mi, args, below, meth, c, Qf, rfl, hx, hb, hml, hown, hts, hK, hSt, hba, hroom, hini, hdec⟩ := F
  have h1 := hdec _ (List.mem_of_getElem? hi)
  intro H locs ls hP hz hS hl'
  obtain ⟨q, hq, hkN, hl2⟩ := hf
  obtain ⟨q', hq', hfin, hpd⟩ := hp
  cases hq.symm.trans hq'
  have hc := kx_cl_ok ci q hq
  obtain ⟨C, T, N⟩ := q
  have hin : ∀ x ∈ u_ws C T N, x ∈ kx_tb := fun x hx1 => kx_in (hc.1 x hx1).1 (hc.1 x hx1).2
  have hap := va_apart (own := own) hts hin (fun k => (parseFieldDescriptor (T k).2.2.1).getD .int) (fun j hj => by
    have h6 : (parseFieldDescriptor (T j).2.2.1).isSome = true := hc.2.2 j hj
    cases hz : parseFieldDescriptor (T j).2.2.1 with
    | none => rw [hz] at h6; cases h6
    | some y => rfl) hc.2.1 hK hq
  obtain ⟨r, g1, cell, q1, q2, q3, q4⟩ := hP id _ (bx_at (w := w) ho)
  have hr : r = (C, T, N) := Option.some.inj (g1.symm.trans hq)
  subst hr
  obtain ⟨hSl, hfc, kC, hkC, hkind⟩ := hK.1 ci _ hq
  obtain ⟨cf, kf, fi, f, hif, hsl⟩ := hSl kk hkN
  have hlay := hts _ (hin _ (u_in_lay hkN))
  unfold u_lay at hlay
  have hst := (u_facts hfc hkC (u_lays hts hin hkN) hif).1
  have fin : ∀ (H' : Heap) (locs' : List Loc), H'[w.2.2.2.1 + id]? = some (cell.setSlot (w.2.1.2 ci kk) (kx_cv w v)) → H'.size = H.size → (∀ q : Nat, q ≠ w.2.2.2.1 + id → H'[q]? = H[q]?) → va_S (kx_A w) s.heap H' locs' → W p w.1 e R s mi args below meth c H' locs' M.2.1 M.2.2 Qf (F0 mi (pc + 3) ls (S.map (kx_cv w))) := by
    intro H' locs' e1 e2 e3 hS'
    refine k H' locs' ls (bx_Pset hP ho ⟨_, hq, t_OB.to (V := updV (vp_V fs) kk (kx_cv w v)) ⟨_, e1, q2, q3, t_set q4 hap hkN _⟩ (fun j _ => vp_updV_set hl _ j)⟩ e3) ?_ hS' hl'
    rw [e2, hz, List.length_set]
  rcases hfin with hfin | ⟨hfin, hnm, hdecl⟩
  · rw [if_neg (by rw [hfin]; decide)] at hlay
    have h6 := u_store hfc hkC hkind hlay hif hpd hn hfit
    refine W.putK hx hb (f := f) ⟨hown, hts _ hl2, ⟨_, _, _, hif⟩, hst⟩ (by rw [q2]; exact h6) q1 q3 (by rw [hsl]; exact k2_hasslot (q4 kk hkN)) rfl rfl h1 fun H' e1 e2 e3 => ?_
    rw [hsl] at e1 ⊢
    exact fin H' _ e1 e2 e3 (hS.put e2 e3 (bx_A id))
  · rw [if_pos hfin] at hlay
    have hcf : mi.cls = cf := by
      obtain ⟨_, _, c', _, _, _, -, -, hf', -, -, -, hown2, -⟩ := Cond.laysFinal_spec hlay
      have e1 : c' = cf := by have := hif.symm.trans hf'; simp at this; exact this.1.symm
      rw [hdecl] at hown2
      rw [← e1]; exact Option.some.inj (hown.symm.trans hown2)
    have h6 := u_fits hfc hkC hkind (Or.inr hlay) hif hpd hn hfit
    refine W.putFinK hx hb hown (hts _ hl2) hif hst hcf (hini.trans hnm) (by rw [q2]; exact h6) q1 q3 (by rw [hsl]; exact k2_hasslot (q4 kk hkN)) rfl rfl h1 fun H' e1 e2 e3 => ?_
    rw [hsl] at e1 ⊢
    exact fin H' _ e1 e2 e3 (hS.put e2 e3 (bx_A id))
theorem y_get (F : bx_Sb w d mc ms own nm b nL cl G) {idx id ci kk : Nat} {fs : List Value} {v : Value} (hi : cl[i]? = some (pc, .getfield idx, 3)) (hf : kx_FL own idx ci kk) (ho : M.1[id]? = some (.inr (ci, fs))) (hv : fs[kk]? = some (kx_cv w v)) (k : G (pc + 3) L (v :: S) M) : G pc L (.ref id :: S) M := by
  obtain ⟨p, e, R, s, mi, args, below, meth, c, Qf, rfl, hx, hb, hml, hown, hts, hK, hSt, hba, hroom, hini, hdec⟩ := F
  have h1 := hdec _ (List.mem_of_getElem? hi)
  intro H locs ls hP hz hS hl'
  obtain ⟨q, hq, hkN, hl2⟩ := hf
  have hc := kx_cl_ok ci q hq
  obtain ⟨C, T, N⟩ := q
  exact va_get hx hb hts (fun x hx1 => kx_in (hc.1 x hx1).1 (hc.1 x hx1).2) hown hK hP id (bx_at (w := w) ho) hq kk hkN (hts _ hl2) (fun _ h => h) hv h1 (k H locs ls hP hz hS hl')
theorem y_oinit (F : bx_Sb w d mc ms own nm b nL cl G) (hd : 1 ≤ d) {idx id : Nat} (hi : cl[i]? = some (pc, .invokespecial idx, 3)) (hm : Cond.methodLink own idx Lib.objectInit ∈ kx_tb) (hm2 : Cond.instanceMethod Lib.objectInit ∈ kx_tb ∧ Cond.code Lib.objectInit ⟨#[0xb1]⟩ 1 none ∈ kx_tb) (hrest : (S.map fun v => v.category).sum ≤ 8) (k : G (pc + 3) L S M) : G pc L (.ref id :: S) M := by
  obtain ⟨p, e, R, s, mi, args, below, meth, c, Qf, rfl, hx, hb, hml, hown, hts, hK, hSt, hba, hroom, hini, hdec⟩ := F
  have h1 := hdec _ (List.mem_of_getElem? hi)
  intro H locs ls hP hz hS hl'
  refine W.objInit hx hb hown (hts _ hm) (hts _ hm2.1) (hts _ hm2.2) rfl (hl'.1.trans hml.symm) rfl h1 (by omega) ?_ (k H locs ls hP hz hS hl')
  have h2 := kx_cat w S
  have h3 := hroom.2.1
  show 2 * 0 + ((S.map (kx_cv w)).map fun v => v.category).sum + 12 ≤ R.locals
  omega
theorem y_newa (F : bx_Sb w d mc ms own nm b nL cl G) {t N : Nat} {at1 : ArrayType} {a0 : vp_A} {n : Int32} {M' : bx_St} (hi : cl[i]? = some (pc, .newarray at1, 2)) (harr : Cond.arrayClass (newarray.typeOf at1) ∈ kx_tb) (ht : (kx_tys w)[t]? = some (w.2.2.1 t, newarray.typeOf at1)) (ha : ∀ cA : ClassId, vp_cell cA a0 = arrV cA N (fun _ => defaultValue (newarray.typeOf at1))) (hn : ¬ n < 0) (hN : n.toNatClampNeg = N) (hbytes : N * componentBytes (newarray.typeOf at1) ≤ 536870912) (hc : M.2.1 + 1 ≤ mc) (hs : M.2.2 + N ≤ ms) {q0 : Nat} (hq : M.1.length = q0) (hM : M' = (M.1 ++ [.inl (w.2.2.1 t, a0)], M.2.1 + 1, M.2.2 + N)) (k : G (pc + 2) L (.ref q0 :: S) M') : G pc L (.int n :: S) M := by
  subst hq hM
  obtain ⟨p, e, R, s, mi, args, below, meth, c, Qf, rfl, hx, hb, hml, hown, hts, hK, hSt, hba, hroom, hini, hdec⟩ := F
  have h1 := hdec _ (List.mem_of_getElem? hi)
  intro H locs ls hP hz hS hl'
  refine va_newaK hx hb (hts _ harr) (g := F0 mi pc ls (Value.int n :: S.map (kx_cv w))) rfl h1 rfl hn hN hbytes (by omega) (by omega) hz fun H1 cA e1 z1 o1 hAr hNm => ?_
  have ec : s.vm.findClass ("[" ++ (newarray.typeOf at1).toString) = some (w.2.2.1 t) := by
    have := (hK.2 t _ ht).2
    cases at1 <;> exact this
  have ec : cA = w.2.2.1 t := Option.some.inj (hNm.symm.trans ec)
  subst ec
  have o2 : ∀ q : Nat, q < H.size → H1[q]? = H[q]? := fun q h => o1 q (by rw [hz] at h; exact h)
  refine k H1 locs ls (bx_Padd hP ?_ o2) ?_ (bx_Sadd hS (by rw [z1, hz]; exact Nat.le_succ _) o2) hl'
  · show H1[w.2.2.2.1 + M.1.length]? = some (vp_cell _ _)
    rw [ha]
    exact e1
  · rw [z1, List.length_append]
    rfl
theorem y_newq (F : bx_Sb w d mc ms own nm b nL cl G) {t N idx : Nat} {C : String} {n : Int32} {M' : bx_St} (hi : cl[i]? = some (pc, .anewarray idx, 3)) (hcl : Cond.classLink own idx C ∈ kx_tb) (hov : C = "KnitTreaty$Tray" ∨ C = "KnitTreaty$State") (ht : (kx_tys w)[t]? = some (w.2.2.1 t, .object C)) (hn : ¬ n < 0) (hN : n.toNatClampNeg = N) (hbytes : N * 4 ≤ 536870912) (hc : M.2.1 + 1 ≤ mc) (hs : M.2.2 + N ≤ ms) {q0 : Nat} (hq : M.1.length = q0) (hM : M' = (M.1 ++ [.inl (w.2.2.1 t, N, .inr (.inr (.inr (.inr (fun _ => none)))))], M.2.1 + 1, M.2.2 + N)) (k : G (pc + 3) L (.ref q0 :: S) M') : G pc L (.int n :: S) M := by
  subst hq hM hN
  obtain ⟨p, e, R, s, mi, args, below, meth, c, Qf, rfl, hx, hb, hml, hown, hts, hK, hSt, hba, hroom, hini, hdec⟩ := F
  have h1 := hdec _ (List.mem_of_getElem? hi)
  intro H locs ls hP hz hS hl'
  have hov2 : va_AO C s := by
    rcases hov with rfl | rfl
    · exact hSt.2.2.2.2.2.1
    · exact hSt.2.2.2.2.2.2
  refine W.anew hx hb hown (hts _ hcl) (va_AO.use hov2) (g := F0 mi pc ls (Value.int n :: S.map (kx_cv w))) rfl h1 rfl hn hbytes (by omega) (by omega) fun cA kA comp f1 f2 f3 f4 => ?_
  obtain ⟨kA', comp', k1, k2, k3, k4⟩ := (hK.2 t _ ht).2
  have ec : cA = w.2.2.1 t := Option.some.inj (f1.symm.trans k4)
  subst ec
  generalize hH1 : H.push ({ cls := w.2.2.1 t, slots := Array.replicate n.toNatClampNeg .null, vm := .none } : Cell) = H1
  have z1 : H1.size = H.size + 1 := by rw [← hH1, Array.size_push]
  have e1 : H1[H.size]? = some (arrV (w.2.2.1 t) n.toNatClampNeg (fun _ => .null)) := by rw [← hH1, Array.getElem?_push_size, ← arrV_new]
  have o2 : ∀ q : Nat, q < H.size → H1[q]? = H[q]? := fun q hq => by rw [← hH1, Array.getElem?_push, if_neg (Nat.ne_of_lt hq)]
  have hk := k H1 locs ls (bx_Padd hP (by
    show H1[w.2.2.2.1 + M.1.length]? = some (vp_cell _ _)
    rw [← hz, e1, vp_cell_q]
    rfl) o2) (by rw [z1, hz, List.length_append]; rfl) (bx_Sadd hS (by rw [z1]; exact Nat.le_succ _) o2) hl'
  rw [hz]
  exact hk
theorem y_new (F : bx_Sb w d mc ms own nm b nL cl G) {idx ci N : Nat} {C : String} {T : u_T} {fs : List Value} {M' : bx_St} (hi : cl[i]? = some (pc, .new idx, 3)) (hcl : Cond.classLink own idx C ∈ kx_tb) (hins : Cond.instantiable C N ∈ kx_tb) (hit : Cond.initialized C ∈ kx_tb) (hq : kx_cl[ci]? = some (C, T, N)) (hfs : ∀ j, j < N → defaultValue ((parseFieldDescriptor (T j).2.2.1).getD .int) = vp_V fs j) (hc : M.2.1 + 1 ≤ mc) (hs : M.2.2 + N ≤ ms) {q0 : Nat} (hq0 : M.1.length = q0) (hM : M' = (M.1 ++ [.inr (ci, fs)], M.2.1 + 1, M.2.2 + N)) (k : G (pc + 3) L (.ref q0 :: S) M') : G pc L S M := by
  subst hq0 hM
  obtain ⟨p, e, R, s, mi, args, below, meth, c, Qf, rfl, hx, hb, hml, hown, hts, hK, hSt, hba, hroom, hini, hdec⟩ := F
  have h1 := hdec _ (List.mem_of_getElem? hi)
  intro H locs ls hP hz hS hl'
  have hcc := kx_cl_ok ci _ hq
  have hin : ∀ x ∈ u_ws C T N, x ∈ kx_tb := fun x hx1 => kx_in (hcc.1 x hx1).1 (hcc.1 x hx1).2
  have hKn := hK.1 ci _ hq
  have hty : ∀ k, k < N → parseFieldDescriptor (T k).2.2.1 = some ((parseFieldDescriptor (T k).2.2.1).getD .int) := fun j hj => by
    have h6 : (parseFieldDescriptor (T j).2.2.1).isSome = true := hcc.2.2 j hj
    cases hz : parseFieldDescriptor (T j).2.2.1 with
    | none => rw [hz] at h6; cases h6
    | some y => rfl
  refine W.newcK hx hb hown (hts _ hcl) (hts _ hins) (hts _ hit) (g := F0 mi pc ls (S.map (kx_cv w))) rfl h1 (by omega) (by omega) hKn.2.1 hz fun H1 kC hkC e1 z1 o1 => ?_
  have o2 : ∀ q : Nat, q < H.size → H1[q]? = H[q]? := fun q h => o1 q (by rw [hz] at h; exact h)
  exact k H1 locs ls (bx_Padd hP ⟨_, hq, (u_born _ hts hin hKn hkC e1 hty).to hfs⟩ o2) (by rw [z1, List.length_append]; rfl) (bx_Sadd hS (by rw [z1, hz]; exact Nat.le_succ _) o2) hl'
theorem y_iast (F : bx_Sb w d mc ms own nm b nL cl G) {id n : Nat} {f : Nat → Int32} {j x : Int32} (hi : cl[i]? = some (pc, .iastore, 1)) (ho : M.1[id]? = some (.inl (w.2.2.1 0, n, .inl f))) (hj : vp_in j n) (k : G (pc + 1) L S (M.1.set id (.inl (w.2.2.1 0, n, .inl (upd f j.toNatClampNeg x))), M.2)) : G pc L (.int x :: .int j :: .ref id :: S) M := by
  obtain ⟨p, e, R, s, mi, args, below, meth, c, Qf, rfl, hx, hb, hml, hown, hts, hK, hSt, hba, hroom, hini, hdec⟩ := F
  have h1 := hdec _ (List.mem_of_getElem? hi)
  intro H locs ls hP hz hS hl'
  refine W.iast hx hb (hP id _ (bx_at (w := w) ho)) ((hK.2 0 _ rfl).1 n (fun j => .int (f j))) (fun q => by cases q) (by show ¬ (j < 0 ∨ (arrV _ _ _).slots.size ≤ _); rw [arrV_size]; exact hj) (g := F0 mi pc ls (Value.int x :: Value.int j :: Value.ref (w.2.2.2.1 + id) :: S.map (kx_cv w))) rfl rfl h1 fun H1 e1 z oq => ?_
  refine k H1 _ ls (bx_Pset hP ho ?_ oq) (by rw [z, hz, List.length_set]) (hS.put z oq (bx_A id)) hl'
  show H1[w.2.2.2.1 + id]? = some (vp_cell _ _)
  rw [e1, vp_cell_i, vp_cell_i, arrV_store]
  congr 2
  funext q
  by_cases hq : q = j.toNatClampNeg
  · subst hq
    simp [updV, upd]
  · simp [updV, upd, hq]
theorem y_last (F : bx_Sb w d mc ms own nm b nL cl G) {id n : Nat} {f : Nat → Int64} {j : Int32} {x : Int64} (hi : cl[i]? = some (pc, .lastore, 1)) (ho : M.1[id]? = some (.inl (w.2.2.1 1, n, .inr (.inl f)))) (hj : vp_in j n) (k : G (pc + 1) L S (M.1.set id (.inl (w.2.2.1 1, n, .inr (.inl (vp_updL f j.toNatClampNeg x)))), M.2)) : G pc L (.long x :: .int j :: .ref id :: S) M := by
  obtain ⟨p, e, R, s, mi, args, below, meth, c, Qf, rfl, hx, hb, hml, hown, hts, hK, hSt, hba, hroom, hini, hdec⟩ := F
  have h1 := hdec _ (List.mem_of_getElem? hi)
  intro H locs ls hP hz hS hl'
  refine W.last hx hb (hP id _ (bx_at (w := w) ho)) ((hK.2 1 _ rfl).1 n (fun j => .long (f j))) (fun q => by cases q) (by show ¬ (j < 0 ∨ (arrV _ _ _).slots.size ≤ _); rw [arrV_size]; exact hj) (g := F0 mi pc ls (Value.long x :: Value.int j :: Value.ref (w.2.2.2.1 + id) :: S.map (kx_cv w))) rfl rfl h1 fun H1 e1 z oq => ?_
  refine k H1 _ ls (bx_Pset hP ho ?_ oq) (by rw [z, hz, List.length_set]) (hS.put z oq (bx_A id)) hl'
  show H1[w.2.2.2.1 + id]? = some (vp_cell _ _)
  rw [e1, vp_cell_l, vp_cell_l, arrV_store]
  congr 2
  funext q
  by_cases hq : q = j.toNatClampNeg
  · subst hq
    simp [updV, vp_updL]
  · simp [updV, vp_updL, hq]
theorem y_astq (F : bx_Sb w d mc ms own nm b nL cl G) {id n t qk ci : Nat} {r : vw_C} {vs : List Value} {f : Nat → Option Nat} {j : Int32} (hi : cl[i]? = some (pc, .aastore, 1)) (ho : M.1[id]? = some (.inl (w.2.2.1 t, n, .inr (.inr (.inr (.inr f)))))) (ht : (kx_tys w)[t]? = some (w.2.2.1 t, .object r.1)) (hv : M.1[qk]? = some (.inr (ci, vs))) (hc : kx_cl[ci]? = some r) (hj : vp_in j n) (k : G (pc + 1) L S (M.1.set id (.inl (w.2.2.1 t, n, .inr (.inr (.inr (.inr (va_up f j.toNatClampNeg (some (w.2.2.2.1 + qk)))))))), M.2)) : G pc L (.ref qk :: .int j :: .ref id :: S) M := by
  obtain ⟨p, e, R, s, mi, args, below, meth, c, Qf, rfl, hx, hb, hml, hown, hts, hK, hSt, hba, hroom, hini, hdec⟩ := F
  have h1 := hdec _ (List.mem_of_getElem? hi)
  intro H locs ls hP hz hS hl'
  have hlt : j.toNatClampNeg < n := Nat.not_le.mp fun q => hj (Or.inr q)
  have h0 : ¬ j < 0 := fun q => hj (Or.inl q)
  obtain ⟨r', hr', cellV, g1, g2, g3, -⟩ := hP qk _ (bx_at (w := w) hv)
  have hcls := (hK.1 ci r hc).2
  obtain ⟨kA, comp, k1, k2, k3, -⟩ := (hK.2 t _ ht).2
  have hcomp : comp = w.2.1.1 ci := Option.some.inj (k3.symm.trans hcls.1)
  subst hcomp
  obtain ⟨kC, hkC, -⟩ := hcls.2
  refine W.aast hx hb (hP id _ (bx_at (w := w) ho)) (fun q h => by cases h) (fun h => by cases h) k1 k2 rfl hkC ⟨h0, by show _ < (arrV _ _ _).slots.size; rw [arrV_size]; exact hlt⟩ g1 (fun q h => by rw [g3] at h; cases h) (by rw [g2]; exact hkC) (by rw [g2]; exact va_assign hcls) (g := F0 mi pc ls (Value.ref (w.2.2.2.1 + qk) :: Value.int j :: Value.ref (w.2.2.2.1 + id) :: S.map (kx_cv w))) rfl rfl h1 fun H1 e1 z oq => ?_
  refine k H1 _ ls (bx_Pset hP ho ?_ oq) (by rw [z, hz, List.length_set]) (hS.put z oq (bx_A id)) hl'
  show H1[w.2.2.2.1 + id]? = some (vp_cell _ _)
  rw [e1, vp_cell_q, vp_cell_q, arrV_store]
  congr 2
  funext q
  by_cases hq : q = j.toNatClampNeg
  · subst hq
    simp [updV, va_up, va_rf]
  · simp [updV, va_up, hq]
/-- a constructor is called -/
theorem y_init (F : bx_Sb w (d + 1) mc ms own nm b nL cl G) {idx id mc' ms' : Nat} {m' : kx_md} {E' : List va_E} (hi : cl[i]? = some (pc, .invokespecial idx, 3)) (hm : Cond.methodLink own idx m'.1 ∈ kx_tb ∧ Cond.instanceMethod m'.1 ∈ kx_tb ∧ kx_par m' 0) (hnm : m'.1.name = "<init>") (hret : m'.2.2.2.1 = none) (ok : kx_mok m') (hrest : (S.map fun v => v.category).sum ≤ 8) (hml' : m'.2.2.1 ≤ 19) (hC : Bt w d mc' ms' m' [.ref id] M.1 (fun r E => r = none ∧ E = E')) (hc : M.2.1 + mc' ≤ mc) (hs : M.2.2 + ms' ≤ ms) (k : G (pc + 3) L S (E', M.2.1 + mc', M.2.2 + ms')) : G pc L (.ref id :: S) M := by
  obtain ⟨p, e, R, s, mi, args, below, meth, c, Qf, rfl, hx, hb, hml, hown, hts, hK, hSt, hba, hroom, hini, hdec⟩ := F
  have h1 := hdec _ (List.mem_of_getElem? hi)
  intro H locs ls hP hz hS hl
  have hpre := bx_pre (av := [Value.ref id].map (kx_cv w)) hP hz hK hSt hS
  have hr := va_runI (As := []) (rest := S.map (kx_cv w)) (g := F0 mi pc ls (Value.ref (w.2.2.2.1 + id) :: S.map (kx_cv w))) (H := H) (locs := locs) (cells := M.2.1) (slots := M.2.2) (e := e) (below := below) (meth := meth) (args := args) (R := R) (b := w.2.2.2.1 + id) ⟨hx, hb, hml, hown, hts⟩ hC
    (cwI 0 hts (kx_wd_good ok) (show kx_wd m' = Cond.code m'.1 m'.2.1 m'.2.2.1 none :: kx_tb by unfold kx_wd; rw [hret]) rfl rfl (hts _ ok.2.2.1) (hts _ hm.1) (hts _ hm.2.1) hnm ⟨ok.2.2.2.1.1, ok.2.2.2.1.2, hm.2.2⟩ ⟨Nat.le_trans (Nat.le_refl _) hroom.1, by have := hroom.2.1; show 8 + (m'.2.2.1 + 11) + (38 * d + 27) ≤ R.locals; omega⟩)
    hpre rfl rfl hl.1 rfl (lv_room (by rw [kx_cat]; exact hrest)) h1 ⟨by have := hroom.2.2.1; omega, by have := hroom.2.2.2; omega⟩
  refine bx_go hr hS (fun r E1 H1 locs1 hQ hP1 hz1 hS1 => ?_)
  obtain ⟨rfl, rfl⟩ := hQ
  exact k H1 locs1 ls hP1 hz1 hS1 hl
/-- a constructor of the nest is called -/
theorem y_initN (F : bx_Sb w (d + 1) mc ms own nm b nL cl G) {idx id mc' ms' : Nat} {m' : kx_md} {host : String} {E' : List va_E} (hi : cl[i]? = some (pc, .invokespecial idx, 3)) (hm : Cond.methodLinkNest own idx m'.1 host ∈ bx_nest ∧ Cond.instanceMethod m'.1 ∈ kx_tb ∧ kx_par m' 0) (hnm : m'.1.name = "<init>") (hret : m'.2.2.2.1 = none) (ok : kx_mok m') (hrest : (S.map fun v => v.category).sum ≤ 8) (hml' : m'.2.2.1 ≤ 19) (hC : Bt w d mc' ms' m' [.ref id] M.1 (fun r E => r = none ∧ E = E')) (hc : M.2.1 + mc' ≤ mc) (hs : M.2.2 + ms' ≤ ms) (k : G (pc + 3) L S (E', M.2.1 + mc', M.2.2 + ms')) : G pc L (.ref id :: S) M := by
  obtain ⟨p, e, R, s, mi, args, below, meth, c, Qf, rfl, hx, hb, hml, hown, hts, hK, hSt, hba, hroom, hini, hdec⟩ := F
  have h1 := hdec _ (List.mem_of_getElem? hi)
  intro H locs ls hP hz hS hl
  have hpre := bx_pre (av := [Value.ref id].map (kx_cv w)) hP hz hK hSt hS
  have hr := va_runIN (As := []) (rest := S.map (kx_cv w)) (g := F0 mi pc ls (Value.ref (w.2.2.2.1 + id) :: S.map (kx_cv w))) (H := H) (locs := locs) (cells := M.2.1) (slots := M.2.2) (e := e) (below := below) (meth := meth) (args := args) (R := R) (b := w.2.2.2.1 + id) ⟨hx, hb, hml, hown, hts⟩ hC
    ⟨va_cnB 0 hts (kx_wd_good ok) (show kx_wd m' = Cond.code m'.1 m'.2.1 m'.2.2.1 none :: kx_tb by unfold kx_wd; rw [hret]) rfl rfl (hSt.2.2.2.2.1 _ hm.1) (hts _ ok.2.2.1) ⟨ok.2.2.2.1.1, ok.2.2.2.1.2, hm.2.2⟩ ⟨Nat.le_trans (Nat.le_refl _) hroom.1, by have := hroom.2.1; show 8 + (m'.2.2.1 + 11) + (38 * d + 27) ≤ R.locals; omega⟩, hnm, hts _ hm.2.1⟩
    hpre rfl rfl hl.1 rfl (lv_room (by rw [kx_cat]; exact hrest)) h1 ⟨by have := hroom.2.2.1; omega, by have := hroom.2.2.2; omega⟩
  refine bx_go hr hS (fun r E1 H1 locs1 hQ hP1 hz1 hS1 => ?_)
  obtain ⟨rfl, rfl⟩ := hQ
  exact k H1 locs1 ls hP1 hz1 hS1 hl
end
