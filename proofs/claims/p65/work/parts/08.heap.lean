def kx_PF (ci k : Nat) (ty : FieldType) : Prop := ∃ q : vw_C, kx_cl[ci]? = some q ∧ (q.2.1 k).2.2.2 = false ∧ parseFieldDescriptor (q.2.1 k).2.2.1 = some ty
theorem pf_KT_now : kx_PF 0 9 (.object "KnitTreaty$State") := ⟨_, rfl, rfl, by decide +kernel⟩
theorem pf_KT_trial : kx_PF 0 10 (.object "KnitTreaty$State") := ⟨_, rfl, rfl, by decide +kernel⟩
theorem pf_KT_taped : kx_PF 0 11 .int := ⟨_, rfl, rfl, by decide +kernel⟩
theorem pf_KT_marks : kx_PF 0 12 .int := ⟨_, rfl, rfl, by decide +kernel⟩
theorem pf_KT_latest : kx_PF 0 13 .int := ⟨_, rfl, rfl, by decide +kernel⟩
theorem pf_KT_faultKind : kx_PF 0 14 .int := ⟨_, rfl, rfl, by decide +kernel⟩
theorem pf_KT_faultPlace : kx_PF 0 15 .int := ⟨_, rfl, rfl, by decide +kernel⟩
theorem pf_KT_livedOnce : kx_PF 0 16 .boolean := ⟨_, rfl, rfl, by decide +kernel⟩
theorem pf_KT_fractionTop : kx_PF 0 17 .long := ⟨_, rfl, rfl, by decide +kernel⟩
theorem pf_KT_fractionBottom : kx_PF 0 18 .long := ⟨_, rfl, rfl, by decide +kernel⟩
theorem pf_Tray_missing : kx_PF 1 1 .boolean := ⟨_, rfl, rfl, by decide +kernel⟩
theorem pf_Tray_sort : kx_PF 1 2 .int := ⟨_, rfl, rfl, by decide +kernel⟩
theorem pf_Tray_many : kx_PF 1 3 .int := ⟨_, rfl, rfl, by decide +kernel⟩
theorem pf_Deal_queens : kx_PF 3 7 .int := ⟨_, rfl, rfl, by decide +kernel⟩
theorem pf_Deal_clauses : kx_PF 3 8 .int := ⟨_, rfl, rfl, by decide +kernel⟩
theorem pf_Cloth_wide : kx_PF 4 5 .int := ⟨_, rfl, rfl, by decide +kernel⟩
theorem pf_Cloth_tough : kx_PF 4 6 .int := ⟨_, rfl, rfl, by decide +kernel⟩
theorem pf_Cloth_rows : kx_PF 4 7 .int := ⟨_, rfl, rfl, by decide +kernel⟩
theorem pf_Cloth_date : kx_PF 4 8 .int := ⟨_, rfl, rfl, by decide +kernel⟩
theorem pf_Script_there : kx_PF 5 4 .boolean := ⟨_, rfl, rfl, by decide +kernel⟩
theorem pf_Script_steps : kx_PF 5 5 .int := ⟨_, rfl, rfl, by decide +kernel⟩
theorem pf_Script_entries : kx_PF 5 6 .int := ⟨_, rfl, rfl, by decide +kernel⟩
theorem pf_Reader_text : kx_PF 6 1 (.array .int) := ⟨_, rfl, rfl, by decide +kernel⟩
theorem pf_Reader_size : kx_PF 6 2 .int := ⟨_, rfl, rfl, by decide +kernel⟩
theorem pf_Reader_after : kx_PF 6 3 .int := ⟨_, rfl, rfl, by decide +kernel⟩
theorem pf_Reader_place : kx_PF 6 4 .int := ⟨_, rfl, rfl, by decide +kernel⟩
theorem pf_Reader_sort : kx_PF 6 5 .int := ⟨_, rfl, rfl, by decide +kernel⟩
theorem pf_Reader_key : kx_PF 6 6 .int := ⟨_, rfl, rfl, by decide +kernel⟩
theorem pf_Reader_word : kx_PF 6 7 .long := ⟨_, rfl, rfl, by decide +kernel⟩
theorem pf_Reader_number : kx_PF 6 8 .int := ⟨_, rfl, rfl, by decide +kernel⟩
theorem pf_Reader_sign : kx_PF 6 9 .int := ⟨_, rfl, rfl, by decide +kernel⟩
theorem pf_Reader_faultKind : kx_PF 6 10 .int := ⟨_, rfl, rfl, by decide +kernel⟩
theorem pf_Reader_faultPlace : kx_PF 6 11 .int := ⟨_, rfl, rfl, by decide +kernel⟩
theorem pf_TreatyText_wideTold : kx_PF 7 1 .boolean := ⟨_, rfl, rfl, by decide +kernel⟩
theorem pf_TreatyText_toughTold : kx_PF 7 2 .boolean := ⟨_, rfl, rfl, by decide +kernel⟩
theorem pf_CenturyText_depth : kx_PF 8 2 .int := ⟨_, rfl, rfl, by decide +kernel⟩
theorem pf_Life_seed : kx_PF 9 1 .int := ⟨_, rfl, rfl, by decide +kernel⟩
theorem pf_Life_steps : kx_PF 9 2 .int := ⟨_, rfl, rfl, by decide +kernel⟩
theorem pf_Life_missed : kx_PF 9 3 .int := ⟨_, rfl, rfl, by decide +kernel⟩
theorem pf_Life_years : kx_PF 9 4 .int := ⟨_, rfl, rfl, by decide +kernel⟩
theorem pf_Life_fresh : kx_PF 9 5 .int := ⟨_, rfl, rfl, by decide +kernel⟩
theorem pf_Life_darns : kx_PF 9 6 .int := ⟨_, rfl, rfl, by decide +kernel⟩
theorem pf_Life_cut : kx_PF 9 7 .int := ⟨_, rfl, rfl, by decide +kernel⟩
theorem pf_Seen_wide : kx_PF 10 1 .int := ⟨_, rfl, rfl, by decide +kernel⟩
theorem pf_Seen_length : kx_PF 10 3 .int := ⟨_, rfl, rfl, by decide +kernel⟩
theorem pf_Seen_ways : kx_PF 10 4 (.array .int) := ⟨_, rfl, rfl, by decide +kernel⟩
theorem pf_Seen_later : kx_PF 10 5 (.array .int) := ⟨_, rfl, rfl, by decide +kernel⟩
theorem pf_Joiner_count : kx_PF 11 4 .int := ⟨_, rfl, rfl, by decide +kernel⟩
theorem pf_Joiner_total : kx_PF 11 5 .int := ⟨_, rfl, rfl, by decide +kernel⟩
theorem pf_Joiner_whole : kx_PF 11 6 .long := ⟨_, rfl, rfl, by decide +kernel⟩
theorem x_get {w : kx_W} {d : Nat} {own : String} {b : ByteArray} {nL : Nat} {cl : List (Nat × Instr × Nat)} {G : Nat → List (Option Value) → List Value → kx_M → Prop} (F : kx_Sb w d own b nL cl G) {i pc : Nat} {L : List (Option Value)} {S : List Value} {M : kx_M} {idx id ci kk kd : Nat} {ks : List Nat} {v : Value} (hi : cl[i]? = some (pc, .getfield idx, 3)) (hf : kx_FL own idx ci kk) (ho : kx_lay[id]? = some (0, ci, ks)) (hk : ks[kk]? = some kd) (hv : kx_fv w M id kk kd = kx_cv w v) (k : G (pc + 3) L (v :: S) M) : G pc L (.ref id :: S) M := by
  obtain ⟨p, e, R, s, mi, args, below, meth, c, cells, slots, Qf, rfl, hx, hb, hml, hown, hts, hK, hSt, hNe, hroom, hdec⟩ := F
  have h1 := hdec _ (List.mem_of_getElem? hi)
  intro H locs ls hP hS hl
  obtain ⟨q, hq, hkN, hl2⟩ := hf
  have hw := kx_ws_at (w := w) (M := M) ho
  have hc := kx_cl_ok ci q hq
  obtain ⟨C, T, N⟩ := q
  exact va_get hx hb hts (fun x hx1 => kx_in (hc.1 x hx1).1 (hc.1 x hx1).2) hown hK hP id hw hq kk hkN (hts _ hl2) (fun _ h => h) (by rw [← hv]; exact kx_fs_at hk) h1 (k H locs ls hP hS hl)
theorem x_getI {w : kx_W} {d : Nat} {own : String} {b : ByteArray} {nL : Nat} {cl : List (Nat × Instr × Nat)} {G : Nat → List (Option Value) → List Value → kx_M → Prop} (F : kx_Sb w d own b nL cl G) {i pc : Nat} {L : List (Option Value)} {S : List Value} {M : kx_M} {idx id ci kk : Nat} {ks : List Nat} (hi : cl[i]? = some (pc, .getfield idx, 3)) (hf : kx_FL own idx ci kk) (ho : kx_lay[id]? = some (0, ci, ks)) (hk : ks[kk]? = some 0) (k : G (pc + 3) L (.int (mI M id kk) :: S) M) : G pc L (.ref id :: S) M := x_get F hi hf ho hk rfl k
theorem x_getJ {w : kx_W} {d : Nat} {own : String} {b : ByteArray} {nL : Nat} {cl : List (Nat × Instr × Nat)} {G : Nat → List (Option Value) → List Value → kx_M → Prop} (F : kx_Sb w d own b nL cl G) {i pc : Nat} {L : List (Option Value)} {S : List Value} {M : kx_M} {idx id ci kk : Nat} {ks : List Nat} (hi : cl[i]? = some (pc, .getfield idx, 3)) (hf : kx_FL own idx ci kk) (ho : kx_lay[id]? = some (0, ci, ks)) (hk : ks[kk]? = some 1) (k : G (pc + 3) L (.long (mJ M id kk) :: S) M) : G pc L (.ref id :: S) M := x_get F hi hf ho hk rfl k
theorem x_getR {w : kx_W} {d : Nat} {own : String} {b : ByteArray} {nL : Nat} {cl : List (Nat × Instr × Nat)} {G : Nat → List (Option Value) → List Value → kx_M → Prop} (F : kx_Sb w d own b nL cl G) {i pc : Nat} {L : List (Option Value)} {S : List Value} {M : kx_M} {idx id ci kk : Nat} {ks : List Nat} (hi : cl[i]? = some (pc, .getfield idx, 3)) (hf : kx_FL own idx ci kk) (ho : kx_lay[id]? = some (0, ci, ks)) {q : Nat} (hk : ks[kk]? = some 2) (hr : mR M id kk = q) (k : G (pc + 3) L (.ref q :: S) M) : G pc L (.ref id :: S) M := x_get F hi hf ho hk (by subst hr; rfl) k
theorem x_getC {w : kx_W} {d : Nat} {own : String} {b : ByteArray} {nL : Nat} {cl : List (Nat × Instr × Nat)} {G : Nat → List (Option Value) → List Value → kx_M → Prop} (F : kx_Sb w d own b nL cl G) {i pc : Nat} {L : List (Option Value)} {S : List Value} {M : kx_M} {idx id ci kk : Nat} {ks : List Nat} (hi : cl[i]? = some (pc, .getfield idx, 3)) (hf : kx_FL own idx ci kk) (ho : kx_lay[id]? = some (0, ci, ks)) {q : Nat} (hk : ks[kk]? = some (q + 3)) (k : G (pc + 3) L (.ref q :: S) M) : G pc L (.ref id :: S) M := x_get F hi hf ho hk rfl k
theorem x_put {w : kx_W} {d : Nat} {own : String} {b : ByteArray} {nL : Nat} {cl : List (Nat × Instr × Nat)} {G : Nat → List (Option Value) → List Value → kx_M → Prop} (F : kx_Sb w d own b nL cl G) {i pc : Nat} {L : List (Option Value)} {S : List Value} {M : kx_M} {idx id ci kk kd : Nat} {ks : List Nat} {v : Value} {M' : kx_M} {ty : FieldType} (hi : cl[i]? = some (pc, .putfield idx, 3)) (hf : kx_FL own idx ci kk) (hp : kx_PF ci kk ty) (ho : kx_lay[id]? = some (0, ci, ks)) (hk : ks[kk]? = some kd) (hn : narrow ty (kx_cv w v) = kx_cv w v) (hfit : fits ty (kx_cv w v) = true) (hv : kx_cv w v = kx_fv w M' id kk kd)
    (hs1 : ∀ j kd', j ≠ kk → kx_fv w M' id j kd' = kx_fv w M id j kd') (hs2 : ∀ j, j ≠ id → (∀ k, mI M' j k = mI M j k) ∧ (∀ k, mJ M' j k = mJ M j k) ∧ mA M' j = mA M j ∧ mB M' j = mB M j ∧ (∀ k, mR M' j k = mR M j k)) (k : G (pc + 3) L S M') : G pc L (v :: .ref id :: S) M := by
  obtain ⟨p, e, R, s, mi, args, below, meth, c, cells, slots, Qf, rfl, hx, hb, hml, hown, hts, hK, hSt, hNe, hroom, hdec⟩ := F
  have h1 := hdec _ (List.mem_of_getElem? hi)
  intro H locs ls hP hS hl
  obtain ⟨q, hq, hkN, hl2⟩ := hf
  obtain ⟨q', hq', hfin, hpd⟩ := hp
  cases hq.symm.trans hq'
  have hw := kx_ws_at (w := w) (M := M) ho
  have hc := kx_cl_ok ci q hq
  have hE : (kx_ws w M).set id (w.2.2.2.1 + id, .inr (ci, (kx_fs w M id ks).set kk (kx_cv w v))) = kx_ws w M' :=
    kx_ws_set ho (by show _ = Sum.inr (ci, kx_fs w M' id ks); rw [kx_fs_set hk hv hs1]) hs2
  obtain ⟨C, T, N⟩ := q
  refine va_put hx hb hts (fun x hx1 => kx_in (hc.1 x hx1).1 (hc.1 x hx1).2) (fun k => (parseFieldDescriptor (T k).2.2.1).getD .int) (fun j hj => ?_) hc.2.1 hown hK hP (kx_ws_D w M) hS id hw hq kk hkN (hts _ hl2) (fun _ h => h) hfin hpd hn hfit (by unfold kx_fs; rw [List.length_map, List.length_range]; exact (List.getElem?_eq_some_iff.mp hk).1) h1 (fun H1 locs1 hP1 hD1 hS1 => ?_)
  · have h5 := hc.2.2 j hj
    have h6 : (parseFieldDescriptor (T j).2.2.1).isSome = true := h5
    cases hz : parseFieldDescriptor (T j).2.2.1 with
    | none => rw [hz] at h6; cases h6
    | some y => rfl
  · exact k H1 locs1 ls (hE ▸ hP1) hS1 hl
theorem u2_at {α : Type} {f : Nat → Nat → α} {i k : Nat} {v : α} : u2 f i k v i k = v := by simp [u2]
theorem u2_ni {α : Type} {f : Nat → Nat → α} {i k j l : Nat} {v : α} (h : j ≠ i) : u2 f i k v j l = f j l := by simp [u2, h]
theorem u2_nk {α : Type} {f : Nat → Nat → α} {i k j l : Nat} {v : α} (h : l ≠ k) : u2 f i k v j l = f j l := by simp [u2, h]
theorem u1_at {α : Type} {f : Nat → α} {i : Nat} {v : α} : u1 f i v i = v := by simp [u1]
theorem u1_n {α : Type} {f : Nat → α} {i j : Nat} {v : α} (h : j ≠ i) : u1 f i v j = f j := by simp [u1, h]
theorem x_putI {w : kx_W} {d : Nat} {own : String} {b : ByteArray} {nL : Nat} {cl : List (Nat × Instr × Nat)} {G : Nat → List (Option Value) → List Value → kx_M → Prop} (F : kx_Sb w d own b nL cl G) {i pc : Nat} {L : List (Option Value)} {S : List Value} {M : kx_M} {idx id ci kk : Nat} {ks : List Nat} {x : Int32} (hi : cl[i]? = some (pc, .putfield idx, 3)) (hf : kx_FL own idx ci kk) (hp : kx_PF ci kk .int) (ho : kx_lay[id]? = some (0, ci, ks)) (hk : ks[kk]? = some 0) (k : G (pc + 3) L S (sI M id kk x)) : G pc L (.int x :: .ref id :: S) M := x_put F hi hf hp ho hk rfl rfl (by simp [kx_cv, kx_fv, mI, sI, u2_at])
    (fun j kd' hj => by
      match kd' with
      | 0 => simp [kx_fv, mI, sI, sJ, sR, u2_nk hj]
      | 1 => simp [kx_fv, mJ, sI, sJ, sR, u2_nk hj]
      | 2 => simp [kx_fv, mR, sI, sJ, sR, u2_nk hj]
      | z + 3 => rfl)
    (fun j hj => by refine ⟨fun l => ?_, fun l => ?_, ?_, ?_, fun l => ?_⟩ <;> simp [mI, mJ, mA, mB, mR, sI, sJ, sR, u2_ni hj]) k
theorem x_putZ {w : kx_W} {d : Nat} {own : String} {b : ByteArray} {nL : Nat} {cl : List (Nat × Instr × Nat)} {G : Nat → List (Option Value) → List Value → kx_M → Prop} (F : kx_Sb w d own b nL cl G) {i pc : Nat} {L : List (Option Value)} {S : List Value} {M : kx_M} {idx id ci kk : Nat} {ks : List Nat} {x : Int32} (hi : cl[i]? = some (pc, .putfield idx, 3)) (hf : kx_FL own idx ci kk) (hp : kx_PF ci kk .boolean) (ho : kx_lay[id]? = some (0, ci, ks)) (hk : ks[kk]? = some 0) (hz : x = 0 ∨ x = 1) (k : G (pc + 3) L S (sI M id kk x)) : G pc L (.int x :: .ref id :: S) M := x_put F hi hf hp ho hk (by rcases hz with rfl | rfl <;> rfl) (by rcases hz with rfl | rfl <;> rfl) (by simp [kx_cv, kx_fv, mI, sI, u2_at])
    (fun j kd' hj => by
      match kd' with
      | 0 => simp [kx_fv, mI, sI, sJ, sR, u2_nk hj]
      | 1 => simp [kx_fv, mJ, sI, sJ, sR, u2_nk hj]
      | 2 => simp [kx_fv, mR, sI, sJ, sR, u2_nk hj]
      | z + 3 => rfl)
    (fun j hj => by refine ⟨fun l => ?_, fun l => ?_, ?_, ?_, fun l => ?_⟩ <;> simp [mI, mJ, mA, mB, mR, sI, sJ, sR, u2_ni hj]) k
theorem x_putJ {w : kx_W} {d : Nat} {own : String} {b : ByteArray} {nL : Nat} {cl : List (Nat × Instr × Nat)} {G : Nat → List (Option Value) → List Value → kx_M → Prop} (F : kx_Sb w d own b nL cl G) {i pc : Nat} {L : List (Option Value)} {S : List Value} {M : kx_M} {idx id ci kk : Nat} {ks : List Nat} {x : Int64} (hi : cl[i]? = some (pc, .putfield idx, 3)) (hf : kx_FL own idx ci kk) (hp : kx_PF ci kk .long) (ho : kx_lay[id]? = some (0, ci, ks)) (hk : ks[kk]? = some 1) (k : G (pc + 3) L S (sJ M id kk x)) : G pc L (.long x :: .ref id :: S) M := x_put F hi hf hp ho hk rfl rfl (by simp [kx_cv, kx_fv, mJ, sJ, u2_at])
    (fun j kd' hj => by
      match kd' with
      | 0 => simp [kx_fv, mI, sI, sJ, sR, u2_nk hj]
      | 1 => simp [kx_fv, mJ, sI, sJ, sR, u2_nk hj]
      | 2 => simp [kx_fv, mR, sI, sJ, sR, u2_nk hj]
      | z + 3 => rfl)
    (fun j hj => by refine ⟨fun l => ?_, fun l => ?_, ?_, ?_, fun l => ?_⟩ <;> simp [mI, mJ, mA, mB, mR, sI, sJ, sR, u2_ni hj]) k
theorem x_putR {w : kx_W} {d : Nat} {own : String} {b : ByteArray} {nL : Nat} {cl : List (Nat × Instr × Nat)} {G : Nat → List (Option Value) → List Value → kx_M → Prop} (F : kx_Sb w d own b nL cl G) {i pc : Nat} {L : List (Option Value)} {S : List Value} {M : kx_M} {idx id ci kk : Nat} {ks : List Nat} {x : Nat} {C : String} (hi : cl[i]? = some (pc, .putfield idx, 3)) (hf : kx_FL own idx ci kk) (hp : kx_PF ci kk (.object C)) (ho : kx_lay[id]? = some (0, ci, ks)) (hk : ks[kk]? = some 2) (k : G (pc + 3) L S (sR M id kk x)) : G pc L (.ref x :: .ref id :: S) M := x_put F hi hf hp ho hk rfl rfl (by simp [kx_cv, kx_fv, mR, sR, u2_at])
    (fun j kd' hj => by
      match kd' with
      | 0 => simp [kx_fv, mI, sI, sJ, sR, u2_nk hj]
      | 1 => simp [kx_fv, mJ, sI, sJ, sR, u2_nk hj]
      | 2 => simp [kx_fv, mR, sI, sJ, sR, u2_nk hj]
      | z + 3 => rfl)
    (fun j hj => by refine ⟨fun l => ?_, fun l => ?_, ?_, ?_, fun l => ?_⟩ <;> simp [mI, mJ, mA, mB, mR, sI, sJ, sR, u2_ni hj]) k
theorem x_putQ {w : kx_W} {d : Nat} {own : String} {b : ByteArray} {nL : Nat} {cl : List (Nat × Instr × Nat)} {G : Nat → List (Option Value) → List Value → kx_M → Prop} (F : kx_Sb w d own b nL cl G) {i pc : Nat} {L : List (Option Value)} {S : List Value} {M : kx_M} {idx id ci kk : Nat} {ks : List Nat} {x : Nat} {t : FieldType} (hi : cl[i]? = some (pc, .putfield idx, 3)) (hf : kx_FL own idx ci kk) (hp : kx_PF ci kk (.array t)) (ho : kx_lay[id]? = some (0, ci, ks)) (hk : ks[kk]? = some 2) (k : G (pc + 3) L S (sR M id kk x)) : G pc L (.ref x :: .ref id :: S) M := x_put F hi hf hp ho hk rfl rfl (by simp [kx_cv, kx_fv, mR, sR, u2_at])
    (fun j kd' hj => by
      match kd' with
      | 0 => simp [kx_fv, mI, sI, sJ, sR, u2_nk hj]
      | 1 => simp [kx_fv, mJ, sI, sJ, sR, u2_nk hj]
      | 2 => simp [kx_fv, mR, sI, sJ, sR, u2_nk hj]
      | z + 3 => rfl)
    (fun j hj => by refine ⟨fun l => ?_, fun l => ?_, ?_, ?_, fun l => ?_⟩ <;> simp [mI, mJ, mA, mB, mR, sI, sJ, sR, u2_ni hj]) k
theorem x_iald {w : kx_W} {d : Nat} {own : String} {b : ByteArray} {nL : Nat} {cl : List (Nat × Instr × Nat)} {G : Nat → List (Option Value) → List Value → kx_M → Prop} (F : kx_Sb w d own b nL cl G) {i pc : Nat} {L : List (Option Value)} {S : List Value} {M : kx_M} {id n : Nat} {ks : List Nat} {j : Int32} (hi : cl[i]? = some (pc, .iaload, 1)) (ho : kx_lay[id]? = some (1, n, ks)) (hj : vp_in j n) (k : G (pc + 1) L (.int (mA M id j.toNatClampNeg) :: S) M) : G pc L (.int j :: .ref id :: S) M := by
  obtain ⟨p, e, R, s, mi, args, below, meth, c, cells, slots, Qf, rfl, hx, hb, hml, hown, hts, hK, hSt, hNe, hroom, hdec⟩ := F
  have h1 := hdec _ (List.mem_of_getElem? hi)
  intro H locs ls hP hS hl
  exact va_iald hx hb hK hP id 0 (kx_ws_at (w := w) (M := M) ho) rfl hj h1 (k H locs ls hP hS hl)
theorem x_lald {w : kx_W} {d : Nat} {own : String} {b : ByteArray} {nL : Nat} {cl : List (Nat × Instr × Nat)} {G : Nat → List (Option Value) → List Value → kx_M → Prop} (F : kx_Sb w d own b nL cl G) {i pc : Nat} {L : List (Option Value)} {S : List Value} {M : kx_M} {id n : Nat} {ks : List Nat} {j : Int32} (hi : cl[i]? = some (pc, .laload, 1)) (ho : kx_lay[id]? = some (2, n, ks)) (hj : vp_in j n) (k : G (pc + 1) L (.long (mB M id j.toNatClampNeg) :: S) M) : G pc L (.int j :: .ref id :: S) M := by
  obtain ⟨p, e, R, s, mi, args, below, meth, c, cells, slots, Qf, rfl, hx, hb, hml, hown, hts, hK, hSt, hNe, hroom, hdec⟩ := F
  have h1 := hdec _ (List.mem_of_getElem? hi)
  intro H locs ls hP hS hl
  exact va_lald hx hb hK hP id 1 (kx_ws_at (w := w) (M := M) ho) rfl hj h1 (k H locs ls hP hS hl)
theorem x_bald {w : kx_W} {d : Nat} {own : String} {b : ByteArray} {nL : Nat} {cl : List (Nat × Instr × Nat)} {G : Nat → List (Option Value) → List Value → kx_M → Prop} (F : kx_Sb w d own b nL cl G) {i pc : Nat} {L : List (Option Value)} {S : List Value} {M : kx_M} {id n : Nat} {ks : List Nat} {j : Int32} (hi : cl[i]? = some (pc, .baload, 1)) (ho : kx_lay[id]? = some (3, n, ks)) (hj : vp_in j n) (k : G (pc + 1) L (.int (mA M id j.toNatClampNeg) :: S) M) : G pc L (.int j :: .ref id :: S) M := by
  obtain ⟨p, e, R, s, mi, args, below, meth, c, cells, slots, Qf, rfl, hx, hb, hml, hown, hts, hK, hSt, hNe, hroom, hdec⟩ := F
  have h1 := hdec _ (List.mem_of_getElem? hi)
  intro H locs ls hP hS hl
  exact va_bald hx hb hK hP id 2 (kx_ws_at (w := w) (M := M) ho) rfl hj h1 (k H locs ls hP hS hl)
theorem x_taald {w : kx_W} {d : Nat} {own : String} {b : ByteArray} {nL : Nat} {cl : List (Nat × Instr × Nat)} {G : Nat → List (Option Value) → List Value → kx_M → Prop} (F : kx_Sb w d own b nL cl G) {i pc : Nat} {L : List (Option Value)} {S : List Value} {M : kx_M} {id n : Nat} {ks : List Nat} {j : Int32} (hi : cl[i]? = some (pc, .aaload, 1)) (ho : kx_lay[id]? = some (4, n, ks)) (hj : vp_in j n) (k : G (pc + 1) L (.ref (ks.getD j.toNatClampNeg 0) :: S) M) : G pc L (.int j :: .ref id :: S) M := by
  obtain ⟨p, e, R, s, mi, args, below, meth, c, cells, slots, Qf, rfl, hx, hb, hml, hown, hts, hK, hSt, hNe, hroom, hdec⟩ := F
  have h1 := hdec _ (List.mem_of_getElem? hi)
  intro H locs ls hP hS hl
  exact va_aldq hx hb hK hP id 3 (kx_ws_at (w := w) (M := M) ho) rfl hj h1 (k H locs ls hP hS hl)
theorem x_saald {w : kx_W} {d : Nat} {own : String} {b : ByteArray} {nL : Nat} {cl : List (Nat × Instr × Nat)} {G : Nat → List (Option Value) → List Value → kx_M → Prop} (F : kx_Sb w d own b nL cl G) {i pc : Nat} {L : List (Option Value)} {S : List Value} {M : kx_M} {id n : Nat} {ks : List Nat} {j : Int32} (hi : cl[i]? = some (pc, .aaload, 1)) (ho : kx_lay[id]? = some (5, n, ks)) (hj : vp_in j n) (k : G (pc + 1) L (.ref (ks.getD j.toNatClampNeg 0) :: S) M) : G pc L (.int j :: .ref id :: S) M := by
  obtain ⟨p, e, R, s, mi, args, below, meth, c, cells, slots, Qf, rfl, hx, hb, hml, hown, hts, hK, hSt, hNe, hroom, hdec⟩ := F
  have h1 := hdec _ (List.mem_of_getElem? hi)
  intro H locs ls hP hS hl
  exact va_aldq hx hb hK hP id 4 (kx_ws_at (w := w) (M := M) ho) rfl hj h1 (k H locs ls hP hS hl)
theorem x_iast {w : kx_W} {d : Nat} {own : String} {b : ByteArray} {nL : Nat} {cl : List (Nat × Instr × Nat)} {G : Nat → List (Option Value) → List Value → kx_M → Prop} (F : kx_Sb w d own b nL cl G) {i pc : Nat} {L : List (Option Value)} {S : List Value} {M : kx_M} {id n : Nat} {ks : List Nat} {j : Int32} {x : Int32} (hi : cl[i]? = some (pc, .iastore, 1)) (ho : kx_lay[id]? = some (1, n, ks)) (hj : vp_in j n) (k : G (pc + 1) L S (sA M id (upd (mA M id) j.toNatClampNeg x))) : G pc L (.int x :: .int j :: .ref id :: S) M := by
  obtain ⟨p, e, R, s, mi, args, below, meth, c, cells, slots, Qf, rfl, hx, hb, hml, hown, hts, hK, hSt, hNe, hroom, hdec⟩ := F
  have h1 := hdec _ (List.mem_of_getElem? hi)
  intro H locs ls hP hS hl
  refine va_iast hx hb hK hP (kx_ws_D w M) hS id 0 (kx_ws_at (w := w) (M := M) ho) rfl hj h1 (fun H1 locs1 hP1 hD1 hS1 => ?_)
  have hE := kx_ws_set (w := w) (M := M) (M' := sA M id (upd (mA M id) j.toNatClampNeg x)) ho (x := _) rfl (fun q hq => by refine ⟨fun l => ?_, fun l => ?_, ?_, ?_, fun l => ?_⟩ <;> simp [mI, mJ, mA, mB, mR, sA, sB, u1_n hq])
  refine k H1 locs1 ls ?_ hS1 hl
  rw [← hE]
  simpa [kx_en, mA, sA, u1_at] using hP1
theorem x_last {w : kx_W} {d : Nat} {own : String} {b : ByteArray} {nL : Nat} {cl : List (Nat × Instr × Nat)} {G : Nat → List (Option Value) → List Value → kx_M → Prop} (F : kx_Sb w d own b nL cl G) {i pc : Nat} {L : List (Option Value)} {S : List Value} {M : kx_M} {id n : Nat} {ks : List Nat} {j : Int32} {x : Int64} (hi : cl[i]? = some (pc, .lastore, 1)) (ho : kx_lay[id]? = some (2, n, ks)) (hj : vp_in j n) (k : G (pc + 1) L S (sB M id (vp_updL (mB M id) j.toNatClampNeg x))) : G pc L (.long x :: .int j :: .ref id :: S) M := by
  obtain ⟨p, e, R, s, mi, args, below, meth, c, cells, slots, Qf, rfl, hx, hb, hml, hown, hts, hK, hSt, hNe, hroom, hdec⟩ := F
  have h1 := hdec _ (List.mem_of_getElem? hi)
  intro H locs ls hP hS hl
  refine va_last hx hb hK hP (kx_ws_D w M) hS id 1 (kx_ws_at (w := w) (M := M) ho) rfl hj h1 (fun H1 locs1 hP1 hD1 hS1 => ?_)
  have hE := kx_ws_set (w := w) (M := M) (M' := sB M id (vp_updL (mB M id) j.toNatClampNeg x)) ho (x := _) rfl (fun q hq => by refine ⟨fun l => ?_, fun l => ?_, ?_, ?_, fun l => ?_⟩ <;> simp [mI, mJ, mA, mB, mR, sA, sB, u1_n hq])
  refine k H1 locs1 ls ?_ hS1 hl
  rw [← hE]
  simpa [kx_en, mB, sB, u1_at] using hP1
theorem x_bast {w : kx_W} {d : Nat} {own : String} {b : ByteArray} {nL : Nat} {cl : List (Nat × Instr × Nat)} {G : Nat → List (Option Value) → List Value → kx_M → Prop} (F : kx_Sb w d own b nL cl G) {i pc : Nat} {L : List (Option Value)} {S : List Value} {M : kx_M} {id n : Nat} {ks : List Nat} {j : Int32} {x : Int32} (hi : cl[i]? = some (pc, .bastore, 1)) (ho : kx_lay[id]? = some (3, n, ks)) (hj : vp_in j n) (k : G (pc + 1) L S (sA M id (upd (mA M id) j.toNatClampNeg (vp_nar .byte x)))) : G pc L (.int x :: .int j :: .ref id :: S) M := by
  obtain ⟨p, e, R, s, mi, args, below, meth, c, cells, slots, Qf, rfl, hx, hb, hml, hown, hts, hK, hSt, hNe, hroom, hdec⟩ := F
  have h1 := hdec _ (List.mem_of_getElem? hi)
  intro H locs ls hP hS hl
  refine va_bast hx hb hK hP (kx_ws_D w M) hS id 2 (kx_ws_at (w := w) (M := M) ho) rfl hj h1 (fun H1 locs1 hP1 hD1 hS1 => ?_)
  have hE := kx_ws_set (w := w) (M := M) (M' := sA M id (upd (mA M id) j.toNatClampNeg (vp_nar .byte x))) ho (x := _) rfl (fun q hq => by refine ⟨fun l => ?_, fun l => ?_, ?_, ?_, fun l => ?_⟩ <;> simp [mI, mJ, mA, mB, mR, sA, sB, u1_n hq])
  refine k H1 locs1 ls ?_ hS1 hl
  rw [← hE]
  simpa [kx_en, mA, sA, u1_at] using hP1
theorem x_ialen {w : kx_W} {d : Nat} {own : String} {b : ByteArray} {nL : Nat} {cl : List (Nat × Instr × Nat)} {G : Nat → List (Option Value) → List Value → kx_M → Prop} (F : kx_Sb w d own b nL cl G) {i pc : Nat} {L : List (Option Value)} {S : List Value} {M : kx_M} {id n : Nat} {ks : List Nat} {v : Int32} (hi : cl[i]? = some (pc, .arraylength, 1)) (ho : kx_lay[id]? = some (1, n, ks)) (hv : Int32.ofNat n = v) (k : G (pc + 1) L (.int v :: S) M) : G pc L (.ref id :: S) M := by
  obtain ⟨p, e, R, s, mi, args, below, meth, c, cells, slots, Qf, rfl, hx, hb, hml, hown, hts, hK, hSt, hNe, hroom, hdec⟩ := F
  have h1 := hdec _ (List.mem_of_getElem? hi)
  intro H locs ls hP hS hl
  exact va_alen hx hb hK hP id 0 (kx_ws_at (w := w) (M := M) ho) rfl hv h1 (k H locs ls hP hS hl)
theorem x_lalen {w : kx_W} {d : Nat} {own : String} {b : ByteArray} {nL : Nat} {cl : List (Nat × Instr × Nat)} {G : Nat → List (Option Value) → List Value → kx_M → Prop} (F : kx_Sb w d own b nL cl G) {i pc : Nat} {L : List (Option Value)} {S : List Value} {M : kx_M} {id n : Nat} {ks : List Nat} {v : Int32} (hi : cl[i]? = some (pc, .arraylength, 1)) (ho : kx_lay[id]? = some (2, n, ks)) (hv : Int32.ofNat n = v) (k : G (pc + 1) L (.int v :: S) M) : G pc L (.ref id :: S) M := by
  obtain ⟨p, e, R, s, mi, args, below, meth, c, cells, slots, Qf, rfl, hx, hb, hml, hown, hts, hK, hSt, hNe, hroom, hdec⟩ := F
  have h1 := hdec _ (List.mem_of_getElem? hi)
  intro H locs ls hP hS hl
  exact va_alen hx hb hK hP id 1 (kx_ws_at (w := w) (M := M) ho) rfl hv h1 (k H locs ls hP hS hl)
theorem x_gets {w : kx_W} {d : Nat} {own : String} {b : ByteArray} {nL : Nat} {cl : List (Nat × Instr × Nat)} {G : Nat → List (Option Value) → List Value → kx_M → Prop} (F : kx_Sb w d own b nL cl G) {i pc : Nat} {L : List (Option Value)} {S : List Value} {M : kx_M} {idx : Nat} (hi : cl[i]? = some (pc, .getstatic idx, 3)) (hn : Cond.fieldLinkNest own idx "KnitTreaty" "WOOL_OF" "[I" "KnitTreaty" ∈ kx_nest) (k : G (pc + 3) L (.retAddr 0 :: S) M) : G pc L S M := by
  obtain ⟨p, e, R, s, mi, args, below, meth, c, cells, slots, Qf, rfl, hx, hb, hml, hown, hts, hK, hSt, hNe, hroom, hdec⟩ := F
  have h1 := hdec _ (List.mem_of_getElem? hi)
  intro H locs ls hP hS hl
  exact va_getsN hx hb hSt.1 hS hown (va_Nw.use rfl (hNe.1 _ hn)) (fun _ h => h) h1 (k H locs ls hP hS hl)
theorem x_tald {w : kx_W} {d : Nat} {own : String} {b : ByteArray} {nL : Nat} {cl : List (Nat × Instr × Nat)} {G : Nat → List (Option Value) → List Value → kx_M → Prop} (F : kx_Sb w d own b nL cl G) {i pc : Nat} {L : List (Option Value)} {S : List Value} {M : kx_M} {j : Int32} (hi : cl[i]? = some (pc, .iaload, 1)) (hj : vp_in j 4) (k : G (pc + 1) L (.int (([1, 1, 2, 0] : List Int32).getD j.toNatClampNeg 0) :: S) M) : G pc L (.int j :: .retAddr 0 :: S) M := by
  obtain ⟨p, e, R, s, mi, args, below, meth, c, cells, slots, Qf, rfl, hx, hb, hml, hown, hts, hK, hSt, hNe, hroom, hdec⟩ := F
  have h1 := hdec _ (List.mem_of_getElem? hi)
  intro H locs ls hP hS hl
  exact va_ti hx hb hSt.2.1 hS hj rfl h1 (k H locs ls hP hS hl)
