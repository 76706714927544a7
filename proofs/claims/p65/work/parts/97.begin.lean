/-! ## the memory when all is made -/
def m0I : List (List Int32) := [[0, 0, 0, 0, 0, 0, 0, 0, 0, 0, 0, 0, 0, 0, (-1), (-1), 0, 0, 0], [], [], [], [], [0, 0, 0, 0, 0, 0, (-1), 0, 0, 0, 0, (-1)], [], [], [], [0, 0, 0, 0, 0, 0, (-1), 0, 0, 0, 0, (-1)], [], [], [], [], [], [], [], [], [], [], [], [], [], [], [], [], [], [], [], [], [], [], [], [], [], [], [0, 0, 0, 0, 0, 6, 20, 0, 0], [], [], [], [], [], [], [], [], [], [], [], [], [], [], [], [], [], [], [], [0, 0, 0, 0, 0, 6, 20, 0, 0], [], [], [], [], [], [], [], [], [], [], [0, 1, 0, 0], [], [0, 1, 0, 0], [], [0, 1, 0, 0], [], [0, 1, 0, 0], [], [], [], [], [], [], [], [], [], [], [0, 0, 0, 0, 0, 6, 20, 0, 0], [], [], [], [], [], [], [], [], [], [], [], [], [], [], [], [], [], [], [], [0, 0, 0, 0, 0, 6, 20, 0, 0], [], [], [], [], [], [], [], [], [], [], [], [], [], [], [], [], [], [], [], [0, 0, 0, 0, 0, 6, 20, 0, 0], [], [], [], [], [], [], [], [], [], [], [], []]
def m0J : List (List Int64) := [[0, 0, 0, 0, 0, 0, 0, 0, 0, 0, 0, 0, 0, 0, 0, 0, 0, 0, 1], [], [], [], [], [], [], [], [], [], [], [], [], [], [], [], [], [], [], [], [], [], [], [], [], [], [], [], [], [], [], [], [], [], [], [], [], [], [], [], [], [], [], [], [], [], [], [], [], [], [], [], [], [], [], [], [], [], [], [], [], [], [], [], [], [], [], [], [], [], [], [], [], [], [], [], [], [], [], [], [], [], [], [], [], [], [], [], [], [], [], [], [], [], [], [], [], [], [], [], [], [], [], [], [], [], [], [], [], [], [], [], [], [], [], [], [], [], [], [], [], [], [], [], [], [], [], [], [], [], [], [], [], [], [], [], []]
def m0R : List (List Nat) := [[0, 0, 0, 0, 0, 0, 0, 0, 0, 27, 47, 0, 0, 0, 0, 0, 0, 0, 0], [], [], [], [], [0, 7, 0, 0, 0, 0, 0, 0, 0, 0, 0, 0], [], [], [], [0, 11, 0, 0, 0, 0, 0, 0, 0, 0, 0, 0], [], [], [], [0, 0, 0, 0, 16, 17], [], [], [], [], [], [], [], [], [], [], [], [], [], [], [], [], [], [], [], [], [], [], [], [], [], [], [], [], [], [], [], [], [], [], [], [], [], [], [], [], [], [], [], [], [], [], [], [], [], [], [], [], [], [], [], [], [], [], [], [], [], [], [], [], [], [], [], [], [], [], [], [], [], [], [], [], [], [], [], [], [], [], [], [], [], [], [], [], [], [], [], [], [], [], [], [], [], [], [], [], [], [], [], [], [], [], [], [], [], [], [], [], [], [], [], [], [], [], [], [], [], [], []]
/-- the law's own two rows -/
def blk_LA (w : kx_W) : List va_E := [.inl (w.2.2.1 0, 24, .inl (fun _ => 0)), .inl (w.2.2.1 0, 52, .inl (fun _ => 0))]
def m0A (_ : Nat) : Nat → Int32 := fun _ => 0
def m0B : Nat → Nat → Int64
  | 6 => rdF 136
  | 10 => rdF 136
  | _ => fun _ => 0
def M0 : kx_M := (fun id k => (m0I.getD id []).getD k 0, fun id k => (m0J.getD id []).getD k 0, m0A, m0B, fun id k => (m0R.getD id []).getD k 0)
def bE (w : kx_W) (k : Nat) : Prop := ∃ e, (blk_KT w 0 ++ blk_LA w)[k]? = some e ∧ ∀ (D : va_G) (H : Heap), va_at D kx_cl (w.2.2.2.1 + k, e) H → va_at D kx_cl (w.2.2.2.1 + k, kx_en w M0 k (kx_lay.getD k (0, 0, []))) H
theorem bE_of {w : kx_W} {k : Nat} (h : (blk_KT w 0 ++ blk_LA w)[k]? = some (kx_en w M0 k (kx_lay.getD k (0, 0, [])))) : bE w k := ⟨_, h, fun _ _ h => h⟩
theorem bE_q {w : kx_W} {k t n : Nat} {f : Nat → Option Nat} {ids : List Nat} (h : (blk_KT w 0 ++ blk_LA w)[k]? = some (.inl (w.2.2.1 (t + 3), n, .inr (.inr (.inr (.inr f)))))) (hl : kx_lay.getD k (0, 0, []) = (t + 4, n, ids)) (hf : ∀ j, j < n → f j = some (w.2.2.2.1 + ids.getD j 0)) : bE w k := by
  refine ⟨_, h, fun D H hA => ?_⟩
  rw [hl]
  have e : vp_cell (w.2.2.1 (t + 3)) (n, .inr (.inr (.inr (.inr f)))) = vp_cell (w.2.2.1 (t + 3)) (n, .inr (.inr (.inr (.inr fun k => some (w.2.2.2.1 + ids.getD k 0))))) := by
    rw [vp_cell_q, vp_cell_q]
    unfold arrV
    congr 1
    apply Array.ext
    · simp
    · intro i h1 h2
      simp only [Array.getElem_ofFn]
      rw [hf i (by simpa using h1)]
  have hA : H[w.2.2.2.1 + k]? = some (vp_cell (w.2.2.1 (t + 3)) (n, .inr (.inr (.inr (.inr f))))) := hA
  rw [e] at hA
  exact hA
theorem bE_S {w : kx_W} {n : Nat} (h : ∀ k, k < n → bE w k) (h1 : bE w n) : ∀ k, k < n + 1 → bE w k := by
  intro k hk
  rcases Nat.lt_or_ge k n with g | g
  · exact h k g
  · have e : k = n := by omega
    rw [e]; exact h1
theorem bE_0 {w : kx_W} : ∀ k, k < 0 → bE w k := fun k h => absurd h (Nat.not_lt_zero k)
theorem bx_al {A B : List va_E} {k : Nat} {e : va_E} (h : A[k]? = some e) : (A ++ B)[k]? = some e := by
  rw [List.getElem?_append_left (List.getElem?_eq_some_iff.mp h).1]
  exact h
theorem bx_ap {A B : List va_E} {n j k : Nat} {e : va_E} (hn : A.length = n) (hk : n + j = k) (h : B[j]? = some e) : (A ++ B)[k]? = some e := by
  subst hn
  subst hk
  rw [List.getElem?_append_right (Nat.le_add_right _ _), Nat.add_sub_cancel_left]
  exact h
theorem bx_co {a : va_E} {A : List va_E} {j k : Nat} {e : va_E} (hk : j + 1 = k) (h : A[j]? = some e) : (a :: A)[k]? = some e := by
  subst hk
  exact h
theorem bL_KT0 (w : kx_W) : (blk_KT w 0).length = 135 := by
  show (_ :: _ :: _ :: _ :: _ : List va_E).length = 135
  simp only [List.length_append, List.length_cons, List.length_nil, bL_TreatyText, bL_CenturyText, bL_Seen, bL_Joiner, bL_Life, bL_State, bL_Tray]
theorem mB_mk {a : Nat → Nat → Int32} {b : Nat → Nat → Int64} {c : Nat → Nat → Int32} {d : Nat → Nat → Int64} {e : Nat → Nat → Nat} {id : Nat} : mB (a, b, c, d, e) id = d id := rfl
theorem kx_en2 {w : kx_W} {M : kx_M} {id n : Nat} {ks : List Nat} : kx_en w M id (2, n, ks) = .inl (w.2.2.1 1, (n, .inr (.inl (mB M id)))) := rfl
def kE (w : kx_W) (k : Nat) : va_E := kx_en w M0 k (kx_lay.getD k (0, 0, []))
theorem bl_0 (w : kx_W) : (blk_KT w 0)[0]? = some (kE w 0) := rfl
theorem bE0 {w : kx_W} : bE w 0 := bE_of (bx_al (A := blk_KT w 0) (bl_0 w))
theorem bE1 {w : kx_W} : bE w 1 := by
  refine bE_q (t := 0) (n := 4) (ids := [67, 69, 71, 73]) (bx_al (A := blk_KT w 0) (rfl)) rfl (fun j hj => ?_)
  have hj : j = 0 ∨ j = 1 ∨ j = 2 ∨ j = 3 := by omega
  rcases hj with rfl | rfl | rfl | rfl <;> rfl
theorem bl_2 (w : kx_W) : (blk_KT w 0)[2]? = some (kE w 2) := rfl
theorem bE2 {w : kx_W} : bE w 2 := bE_of (bx_al (A := blk_KT w 0) (bl_2 w))
theorem bE3 {w : kx_W} : bE w 3 := by
  refine bE_q (t := 1) (n := 3) (ids := [75, 95, 115]) (bx_al (A := blk_KT w 0) (rfl)) rfl (fun j hj => ?_)
  have hj : j = 0 ∨ j = 1 ∨ j = 2 := by omega
  rcases hj with rfl | rfl | rfl <;> rfl
theorem bl_4 (w : kx_W) : (blk_TreatyText w (0 + 4))[0]? = some (kE w 4) := rfl
theorem bE4 {w : kx_W} : bE w 4 := bE_of (bx_al (A := blk_KT w 0) (bx_co (j := 3) rfl (bx_co (j := 2) rfl (bx_co (j := 1) rfl (bx_co (j := 0) rfl (bx_al (bx_al (bx_al (bx_al (bx_al (bx_al (bx_al (bx_al (bl_4 w))))))))))))))
theorem bl_5 (w : kx_W) : (blk_TreatyText w (0 + 4))[1]? = some (kE w 5) := rfl
theorem bE5 {w : kx_W} : bE w 5 := bE_of (bx_al (A := blk_KT w 0) (bx_co (j := 4) rfl (bx_co (j := 3) rfl (bx_co (j := 2) rfl (bx_co (j := 1) rfl (bx_al (bx_al (bx_al (bx_al (bx_al (bx_al (bx_al (bx_al (bl_5 w))))))))))))))
theorem m0B_6 : mB M0 6 = rdF 136 := by
  unfold M0
  rw [mB_mk, m0B]
theorem bl_6 (w : kx_W) : (blk_TreatyText w (0 + 4))[2]? = some (kE w 6) := by
  have hl : kx_lay.getD 6 (0, 0, []) = (2, 26, []) := rfl
  unfold kE
  rw [hl, kx_en2, m0B_6]
  unfold blk_TreatyText blk_Reader
  rfl
theorem bE6 {w : kx_W} : bE w 6 := bE_of (bx_al (A := blk_KT w 0) (bx_co (j := 5) rfl (bx_co (j := 4) rfl (bx_co (j := 3) rfl (bx_co (j := 2) rfl (bx_al (bx_al (bx_al (bx_al (bx_al (bx_al (bx_al (bx_al (bl_6 w))))))))))))))
theorem bl_7 (w : kx_W) : (blk_TreatyText w (0 + 4))[3]? = some (kE w 7) := rfl
theorem bE7 {w : kx_W} : bE w 7 := bE_of (bx_al (A := blk_KT w 0) (bx_co (j := 6) rfl (bx_co (j := 5) rfl (bx_co (j := 4) rfl (bx_co (j := 3) rfl (bx_al (bx_al (bx_al (bx_al (bx_al (bx_al (bx_al (bx_al (bl_7 w))))))))))))))
theorem bl_8 (w : kx_W) : (blk_CenturyText w (0 + 8))[0]? = some (kE w 8) := rfl
theorem bE8 {w : kx_W} : bE w 8 := bE_of (bx_al (A := blk_KT w 0) (bx_co (j := 7) rfl (bx_co (j := 6) rfl (bx_co (j := 5) rfl (bx_co (j := 4) rfl (bx_al (bx_al (bx_al (bx_al (bx_al (bx_al (bx_al (bx_ap (n := 4) (j := 0) (bL_TreatyText w _) rfl (bx_al (bl_8 w)))))))))))))))
theorem bl_9 (w : kx_W) : (blk_CenturyText w (0 + 8))[1]? = some (kE w 9) := rfl
theorem bE9 {w : kx_W} : bE w 9 := bE_of (bx_al (A := blk_KT w 0) (bx_co (j := 8) rfl (bx_co (j := 7) rfl (bx_co (j := 6) rfl (bx_co (j := 5) rfl (bx_al (bx_al (bx_al (bx_al (bx_al (bx_al (bx_al (bx_ap (n := 4) (j := 1) (bL_TreatyText w _) rfl (bx_al (bl_9 w)))))))))))))))
theorem m0B_10 : mB M0 10 = rdF 136 := by
  unfold M0
  rw [mB_mk, m0B]
theorem bl_10 (w : kx_W) : (blk_CenturyText w (0 + 8))[2]? = some (kE w 10) := by
  have hl : kx_lay.getD 10 (0, 0, []) = (2, 26, []) := rfl
  unfold kE
  rw [hl, kx_en2, m0B_10]
  unfold blk_CenturyText blk_Reader
  rfl
theorem bE10 {w : kx_W} : bE w 10 := bE_of (bx_al (A := blk_KT w 0) (bx_co (j := 9) rfl (bx_co (j := 8) rfl (bx_co (j := 7) rfl (bx_co (j := 6) rfl (bx_al (bx_al (bx_al (bx_al (bx_al (bx_al (bx_al (bx_ap (n := 4) (j := 2) (bL_TreatyText w _) rfl (bx_al (bl_10 w)))))))))))))))
theorem bl_11 (w : kx_W) : (blk_CenturyText w (0 + 8))[3]? = some (kE w 11) := rfl
theorem bE11 {w : kx_W} : bE w 11 := bE_of (bx_al (A := blk_KT w 0) (bx_co (j := 10) rfl (bx_co (j := 9) rfl (bx_co (j := 8) rfl (bx_co (j := 7) rfl (bx_al (bx_al (bx_al (bx_al (bx_al (bx_al (bx_al (bx_ap (n := 4) (j := 3) (bL_TreatyText w _) rfl (bx_al (bl_11 w)))))))))))))))
theorem bl_12 (w : kx_W) : (blk_CenturyText w (0 + 8))[4]? = some (kE w 12) := rfl
theorem bE12 {w : kx_W} : bE w 12 := bE_of (bx_al (A := blk_KT w 0) (bx_co (j := 11) rfl (bx_co (j := 10) rfl (bx_co (j := 9) rfl (bx_co (j := 8) rfl (bx_al (bx_al (bx_al (bx_al (bx_al (bx_al (bx_al (bx_ap (n := 4) (j := 4) (bL_TreatyText w _) rfl (bx_al (bl_12 w)))))))))))))))
theorem bl_13 (w : kx_W) : (blk_Seen w (0 + 13))[0]? = some (kE w 13) := rfl
theorem bE13 {w : kx_W} : bE w 13 := bE_of (bx_al (A := blk_KT w 0) (bx_co (j := 12) rfl (bx_co (j := 11) rfl (bx_co (j := 10) rfl (bx_co (j := 9) rfl (bx_al (bx_al (bx_al (bx_al (bx_al (bx_al (bx_al (bx_ap (n := 4) (j := 5) (bL_TreatyText w _) rfl (bx_ap (n := 5) (j := 0) (bL_CenturyText w _) rfl (bx_al (bl_13 w))))))))))))))))
theorem bl_14 (w : kx_W) : (blk_Seen w (0 + 13))[1]? = some (kE w 14) := rfl
theorem bE14 {w : kx_W} : bE w 14 := bE_of (bx_al (A := blk_KT w 0) (bx_co (j := 13) rfl (bx_co (j := 12) rfl (bx_co (j := 11) rfl (bx_co (j := 10) rfl (bx_al (bx_al (bx_al (bx_al (bx_al (bx_al (bx_al (bx_ap (n := 4) (j := 6) (bL_TreatyText w _) rfl (bx_ap (n := 5) (j := 1) (bL_CenturyText w _) rfl (bx_al (bl_14 w))))))))))))))))
theorem bl_15 (w : kx_W) : (blk_Seen w (0 + 13))[2]? = some (kE w 15) := rfl
theorem bE15 {w : kx_W} : bE w 15 := bE_of (bx_al (A := blk_KT w 0) (bx_co (j := 14) rfl (bx_co (j := 13) rfl (bx_co (j := 12) rfl (bx_co (j := 11) rfl (bx_al (bx_al (bx_al (bx_al (bx_al (bx_al (bx_al (bx_ap (n := 4) (j := 7) (bL_TreatyText w _) rfl (bx_ap (n := 5) (j := 2) (bL_CenturyText w _) rfl (bx_al (bl_15 w))))))))))))))))
theorem bl_16 (w : kx_W) : (blk_Seen w (0 + 13))[3]? = some (kE w 16) := rfl
theorem bE16 {w : kx_W} : bE w 16 := bE_of (bx_al (A := blk_KT w 0) (bx_co (j := 15) rfl (bx_co (j := 14) rfl (bx_co (j := 13) rfl (bx_co (j := 12) rfl (bx_al (bx_al (bx_al (bx_al (bx_al (bx_al (bx_al (bx_ap (n := 4) (j := 8) (bL_TreatyText w _) rfl (bx_ap (n := 5) (j := 3) (bL_CenturyText w _) rfl (bx_al (bl_16 w))))))))))))))))
theorem bl_17 (w : kx_W) : (blk_Seen w (0 + 13))[4]? = some (kE w 17) := rfl
theorem bE17 {w : kx_W} : bE w 17 := bE_of (bx_al (A := blk_KT w 0) (bx_co (j := 16) rfl (bx_co (j := 15) rfl (bx_co (j := 14) rfl (bx_co (j := 13) rfl (bx_al (bx_al (bx_al (bx_al (bx_al (bx_al (bx_al (bx_ap (n := 4) (j := 9) (bL_TreatyText w _) rfl (bx_ap (n := 5) (j := 4) (bL_CenturyText w _) rfl (bx_al (bl_17 w))))))))))))))))
theorem bl_18 (w : kx_W) : (blk_Joiner w (0 + 18))[0]? = some (kE w 18) := rfl
theorem bE18 {w : kx_W} : bE w 18 := bE_of (bx_al (A := blk_KT w 0) (bx_co (j := 17) rfl (bx_co (j := 16) rfl (bx_co (j := 15) rfl (bx_co (j := 14) rfl (bx_al (bx_al (bx_al (bx_al (bx_al (bx_al (bx_al (bx_ap (n := 4) (j := 10) (bL_TreatyText w _) rfl (bx_ap (n := 5) (j := 5) (bL_CenturyText w _) rfl (bx_ap (n := 5) (j := 0) (bL_Seen w _) rfl (bx_al (bl_18 w)))))))))))))))))
theorem bl_19 (w : kx_W) : (blk_Joiner w (0 + 18))[1]? = some (kE w 19) := rfl
theorem bE19 {w : kx_W} : bE w 19 := bE_of (bx_al (A := blk_KT w 0) (bx_co (j := 18) rfl (bx_co (j := 17) rfl (bx_co (j := 16) rfl (bx_co (j := 15) rfl (bx_al (bx_al (bx_al (bx_al (bx_al (bx_al (bx_al (bx_ap (n := 4) (j := 11) (bL_TreatyText w _) rfl (bx_ap (n := 5) (j := 6) (bL_CenturyText w _) rfl (bx_ap (n := 5) (j := 1) (bL_Seen w _) rfl (bx_al (bl_19 w)))))))))))))))))
theorem bl_20 (w : kx_W) : (blk_Joiner w (0 + 18))[2]? = some (kE w 20) := rfl
theorem bE20 {w : kx_W} : bE w 20 := bE_of (bx_al (A := blk_KT w 0) (bx_co (j := 19) rfl (bx_co (j := 18) rfl (bx_co (j := 17) rfl (bx_co (j := 16) rfl (bx_al (bx_al (bx_al (bx_al (bx_al (bx_al (bx_al (bx_ap (n := 4) (j := 12) (bL_TreatyText w _) rfl (bx_ap (n := 5) (j := 7) (bL_CenturyText w _) rfl (bx_ap (n := 5) (j := 2) (bL_Seen w _) rfl (bx_al (bl_20 w)))))))))))))))))
theorem bl_21 (w : kx_W) : (blk_Joiner w (0 + 18))[3]? = some (kE w 21) := rfl
theorem bE21 {w : kx_W} : bE w 21 := bE_of (bx_al (A := blk_KT w 0) (bx_co (j := 20) rfl (bx_co (j := 19) rfl (bx_co (j := 18) rfl (bx_co (j := 17) rfl (bx_al (bx_al (bx_al (bx_al (bx_al (bx_al (bx_al (bx_ap (n := 4) (j := 13) (bL_TreatyText w _) rfl (bx_ap (n := 5) (j := 8) (bL_CenturyText w _) rfl (bx_ap (n := 5) (j := 3) (bL_Seen w _) rfl (bx_al (bl_21 w)))))))))))))))))
theorem bl_22 (w : kx_W) : (blk_Joiner w (0 + 18))[4]? = some (kE w 22) := rfl
theorem bE22 {w : kx_W} : bE w 22 := bE_of (bx_al (A := blk_KT w 0) (bx_co (j := 21) rfl (bx_co (j := 20) rfl (bx_co (j := 19) rfl (bx_co (j := 18) rfl (bx_al (bx_al (bx_al (bx_al (bx_al (bx_al (bx_al (bx_ap (n := 4) (j := 14) (bL_TreatyText w _) rfl (bx_ap (n := 5) (j := 9) (bL_CenturyText w _) rfl (bx_ap (n := 5) (j := 4) (bL_Seen w _) rfl (bx_al (bl_22 w)))))))))))))))))
theorem bl_23 (w : kx_W) : (blk_Life w (0 + 23))[0]? = some (kE w 23) := rfl
theorem bE23 {w : kx_W} : bE w 23 := bE_of (bx_al (A := blk_KT w 0) (bx_co (j := 22) rfl (bx_co (j := 21) rfl (bx_co (j := 20) rfl (bx_co (j := 19) rfl (bx_al (bx_al (bx_al (bx_al (bx_al (bx_al (bx_al (bx_ap (n := 4) (j := 15) (bL_TreatyText w _) rfl (bx_ap (n := 5) (j := 10) (bL_CenturyText w _) rfl (bx_ap (n := 5) (j := 5) (bL_Seen w _) rfl (bx_ap (n := 5) (j := 0) (bL_Joiner w _) rfl (bx_al (bl_23 w))))))))))))))))))
theorem bl_24 (w : kx_W) : (blk_Life w (0 + 23))[1]? = some (kE w 24) := rfl
theorem bE24 {w : kx_W} : bE w 24 := bE_of (bx_al (A := blk_KT w 0) (bx_co (j := 23) rfl (bx_co (j := 22) rfl (bx_co (j := 21) rfl (bx_co (j := 20) rfl (bx_al (bx_al (bx_al (bx_al (bx_al (bx_al (bx_al (bx_ap (n := 4) (j := 16) (bL_TreatyText w _) rfl (bx_ap (n := 5) (j := 11) (bL_CenturyText w _) rfl (bx_ap (n := 5) (j := 6) (bL_Seen w _) rfl (bx_ap (n := 5) (j := 1) (bL_Joiner w _) rfl (bx_al (bl_24 w))))))))))))))))))
theorem bl_25 (w : kx_W) : (blk_Life w (0 + 25))[0]? = some (kE w 25) := rfl
theorem bE25 {w : kx_W} : bE w 25 := bE_of (bx_al (A := blk_KT w 0) (bx_co (j := 24) rfl (bx_co (j := 23) rfl (bx_co (j := 22) rfl (bx_co (j := 21) rfl (bx_al (bx_al (bx_al (bx_al (bx_al (bx_al (bx_al (bx_ap (n := 4) (j := 17) (bL_TreatyText w _) rfl (bx_ap (n := 5) (j := 12) (bL_CenturyText w _) rfl (bx_ap (n := 5) (j := 7) (bL_Seen w _) rfl (bx_ap (n := 5) (j := 2) (bL_Joiner w _) rfl (bx_ap (n := 2) (j := 0) (bL_Life w _) rfl (bx_al (bl_25 w)))))))))))))))))))
theorem bl_26 (w : kx_W) : (blk_Life w (0 + 25))[1]? = some (kE w 26) := rfl
theorem bE26 {w : kx_W} : bE w 26 := bE_of (bx_al (A := blk_KT w 0) (bx_co (j := 25) rfl (bx_co (j := 24) rfl (bx_co (j := 23) rfl (bx_co (j := 22) rfl (bx_al (bx_al (bx_al (bx_al (bx_al (bx_al (bx_al (bx_ap (n := 4) (j := 18) (bL_TreatyText w _) rfl (bx_ap (n := 5) (j := 13) (bL_CenturyText w _) rfl (bx_ap (n := 5) (j := 8) (bL_Seen w _) rfl (bx_ap (n := 5) (j := 3) (bL_Joiner w _) rfl (bx_ap (n := 2) (j := 1) (bL_Life w _) rfl (bx_al (bl_26 w)))))))))))))))))))
theorem bl_27 (w : kx_W) : (blk_State w (0 + 27))[0]? = some (kE w 27) := rfl
theorem bE27 {w : kx_W} : bE w 27 := bE_of (bx_al (A := blk_KT w 0) (bx_co (j := 26) rfl (bx_co (j := 25) rfl (bx_co (j := 24) rfl (bx_co (j := 23) rfl (bx_al (bx_al (bx_al (bx_al (bx_al (bx_al (bx_al (bx_ap (n := 4) (j := 19) (bL_TreatyText w _) rfl (bx_ap (n := 5) (j := 14) (bL_CenturyText w _) rfl (bx_ap (n := 5) (j := 9) (bL_Seen w _) rfl (bx_ap (n := 5) (j := 4) (bL_Joiner w _) rfl (bx_ap (n := 2) (j := 2) (bL_Life w _) rfl (bx_ap (n := 2) (j := 0) (bL_Life w _) rfl (bx_al (bl_27 w))))))))))))))))))))
theorem bl_28 (w : kx_W) : (blk_State w (0 + 27))[1]? = some (kE w 28) := rfl
theorem bE28 {w : kx_W} : bE w 28 := bE_of (bx_al (A := blk_KT w 0) (bx_co (j := 27) rfl (bx_co (j := 26) rfl (bx_co (j := 25) rfl (bx_co (j := 24) rfl (bx_al (bx_al (bx_al (bx_al (bx_al (bx_al (bx_al (bx_ap (n := 4) (j := 20) (bL_TreatyText w _) rfl (bx_ap (n := 5) (j := 15) (bL_CenturyText w _) rfl (bx_ap (n := 5) (j := 10) (bL_Seen w _) rfl (bx_ap (n := 5) (j := 5) (bL_Joiner w _) rfl (bx_ap (n := 2) (j := 3) (bL_Life w _) rfl (bx_ap (n := 2) (j := 1) (bL_Life w _) rfl (bx_al (bl_28 w))))))))))))))))))))
theorem bl_29 (w : kx_W) : (blk_State w (0 + 27))[2]? = some (kE w 29) := rfl
theorem bE29 {w : kx_W} : bE w 29 := bE_of (bx_al (A := blk_KT w 0) (bx_co (j := 28) rfl (bx_co (j := 27) rfl (bx_co (j := 26) rfl (bx_co (j := 25) rfl (bx_al (bx_al (bx_al (bx_al (bx_al (bx_al (bx_al (bx_ap (n := 4) (j := 21) (bL_TreatyText w _) rfl (bx_ap (n := 5) (j := 16) (bL_CenturyText w _) rfl (bx_ap (n := 5) (j := 11) (bL_Seen w _) rfl (bx_ap (n := 5) (j := 6) (bL_Joiner w _) rfl (bx_ap (n := 2) (j := 4) (bL_Life w _) rfl (bx_ap (n := 2) (j := 2) (bL_Life w _) rfl (bx_al (bl_29 w))))))))))))))))))))
theorem bl_30 (w : kx_W) : (blk_State w (0 + 27))[3]? = some (kE w 30) := rfl
theorem bE30 {w : kx_W} : bE w 30 := bE_of (bx_al (A := blk_KT w 0) (bx_co (j := 29) rfl (bx_co (j := 28) rfl (bx_co (j := 27) rfl (bx_co (j := 26) rfl (bx_al (bx_al (bx_al (bx_al (bx_al (bx_al (bx_al (bx_ap (n := 4) (j := 22) (bL_TreatyText w _) rfl (bx_ap (n := 5) (j := 17) (bL_CenturyText w _) rfl (bx_ap (n := 5) (j := 12) (bL_Seen w _) rfl (bx_ap (n := 5) (j := 7) (bL_Joiner w _) rfl (bx_ap (n := 2) (j := 5) (bL_Life w _) rfl (bx_ap (n := 2) (j := 3) (bL_Life w _) rfl (bx_al (bl_30 w))))))))))))))))))))
theorem bl_31 (w : kx_W) : (blk_State w (0 + 27))[4]? = some (kE w 31) := rfl
theorem bE31 {w : kx_W} : bE w 31 := bE_of (bx_al (A := blk_KT w 0) (bx_co (j := 30) rfl (bx_co (j := 29) rfl (bx_co (j := 28) rfl (bx_co (j := 27) rfl (bx_al (bx_al (bx_al (bx_al (bx_al (bx_al (bx_al (bx_ap (n := 4) (j := 23) (bL_TreatyText w _) rfl (bx_ap (n := 5) (j := 18) (bL_CenturyText w _) rfl (bx_ap (n := 5) (j := 13) (bL_Seen w _) rfl (bx_ap (n := 5) (j := 8) (bL_Joiner w _) rfl (bx_ap (n := 2) (j := 6) (bL_Life w _) rfl (bx_ap (n := 2) (j := 4) (bL_Life w _) rfl (bx_al (bl_31 w))))))))))))))))))))
theorem bl_32 (w : kx_W) : (blk_State w (0 + 27))[5]? = some (kE w 32) := rfl
theorem bE32 {w : kx_W} : bE w 32 := bE_of (bx_al (A := blk_KT w 0) (bx_co (j := 31) rfl (bx_co (j := 30) rfl (bx_co (j := 29) rfl (bx_co (j := 28) rfl (bx_al (bx_al (bx_al (bx_al (bx_al (bx_al (bx_al (bx_ap (n := 4) (j := 24) (bL_TreatyText w _) rfl (bx_ap (n := 5) (j := 19) (bL_CenturyText w _) rfl (bx_ap (n := 5) (j := 14) (bL_Seen w _) rfl (bx_ap (n := 5) (j := 9) (bL_Joiner w _) rfl (bx_ap (n := 2) (j := 7) (bL_Life w _) rfl (bx_ap (n := 2) (j := 5) (bL_Life w _) rfl (bx_al (bl_32 w))))))))))))))))))))
theorem bl_33 (w : kx_W) : (blk_State w (0 + 27))[6]? = some (kE w 33) := rfl
theorem bE33 {w : kx_W} : bE w 33 := bE_of (bx_al (A := blk_KT w 0) (bx_co (j := 32) rfl (bx_co (j := 31) rfl (bx_co (j := 30) rfl (bx_co (j := 29) rfl (bx_al (bx_al (bx_al (bx_al (bx_al (bx_al (bx_al (bx_ap (n := 4) (j := 25) (bL_TreatyText w _) rfl (bx_ap (n := 5) (j := 20) (bL_CenturyText w _) rfl (bx_ap (n := 5) (j := 15) (bL_Seen w _) rfl (bx_ap (n := 5) (j := 10) (bL_Joiner w _) rfl (bx_ap (n := 2) (j := 8) (bL_Life w _) rfl (bx_ap (n := 2) (j := 6) (bL_Life w _) rfl (bx_al (bl_33 w))))))))))))))))))))
theorem bl_34 (w : kx_W) : (blk_State w (0 + 27))[7]? = some (kE w 34) := rfl
theorem bE34 {w : kx_W} : bE w 34 := bE_of (bx_al (A := blk_KT w 0) (bx_co (j := 33) rfl (bx_co (j := 32) rfl (bx_co (j := 31) rfl (bx_co (j := 30) rfl (bx_al (bx_al (bx_al (bx_al (bx_al (bx_al (bx_al (bx_ap (n := 4) (j := 26) (bL_TreatyText w _) rfl (bx_ap (n := 5) (j := 21) (bL_CenturyText w _) rfl (bx_ap (n := 5) (j := 16) (bL_Seen w _) rfl (bx_ap (n := 5) (j := 11) (bL_Joiner w _) rfl (bx_ap (n := 2) (j := 9) (bL_Life w _) rfl (bx_ap (n := 2) (j := 7) (bL_Life w _) rfl (bx_al (bl_34 w))))))))))))))))))))
theorem bl_35 (w : kx_W) : (blk_State w (0 + 27))[8]? = some (kE w 35) := rfl
theorem bE35 {w : kx_W} : bE w 35 := bE_of (bx_al (A := blk_KT w 0) (bx_co (j := 34) rfl (bx_co (j := 33) rfl (bx_co (j := 32) rfl (bx_co (j := 31) rfl (bx_al (bx_al (bx_al (bx_al (bx_al (bx_al (bx_al (bx_ap (n := 4) (j := 27) (bL_TreatyText w _) rfl (bx_ap (n := 5) (j := 22) (bL_CenturyText w _) rfl (bx_ap (n := 5) (j := 17) (bL_Seen w _) rfl (bx_ap (n := 5) (j := 12) (bL_Joiner w _) rfl (bx_ap (n := 2) (j := 10) (bL_Life w _) rfl (bx_ap (n := 2) (j := 8) (bL_Life w _) rfl (bx_al (bl_35 w))))))))))))))))))))
theorem bl_36 (w : kx_W) : (blk_State w (0 + 27))[9]? = some (kE w 36) := rfl
theorem bE36 {w : kx_W} : bE w 36 := bE_of (bx_al (A := blk_KT w 0) (bx_co (j := 35) rfl (bx_co (j := 34) rfl (bx_co (j := 33) rfl (bx_co (j := 32) rfl (bx_al (bx_al (bx_al (bx_al (bx_al (bx_al (bx_al (bx_ap (n := 4) (j := 28) (bL_TreatyText w _) rfl (bx_ap (n := 5) (j := 23) (bL_CenturyText w _) rfl (bx_ap (n := 5) (j := 18) (bL_Seen w _) rfl (bx_ap (n := 5) (j := 13) (bL_Joiner w _) rfl (bx_ap (n := 2) (j := 11) (bL_Life w _) rfl (bx_ap (n := 2) (j := 9) (bL_Life w _) rfl (bx_al (bl_36 w))))))))))))))))))))
theorem bl_37 (w : kx_W) : (blk_State w (0 + 27))[10]? = some (kE w 37) := rfl
theorem bE37 {w : kx_W} : bE w 37 := bE_of (bx_al (A := blk_KT w 0) (bx_co (j := 36) rfl (bx_co (j := 35) rfl (bx_co (j := 34) rfl (bx_co (j := 33) rfl (bx_al (bx_al (bx_al (bx_al (bx_al (bx_al (bx_al (bx_ap (n := 4) (j := 29) (bL_TreatyText w _) rfl (bx_ap (n := 5) (j := 24) (bL_CenturyText w _) rfl (bx_ap (n := 5) (j := 19) (bL_Seen w _) rfl (bx_ap (n := 5) (j := 14) (bL_Joiner w _) rfl (bx_ap (n := 2) (j := 12) (bL_Life w _) rfl (bx_ap (n := 2) (j := 10) (bL_Life w _) rfl (bx_al (bl_37 w))))))))))))))))))))
theorem bl_38 (w : kx_W) : (blk_State w (0 + 27))[11]? = some (kE w 38) := rfl
theorem bE38 {w : kx_W} : bE w 38 := bE_of (bx_al (A := blk_KT w 0) (bx_co (j := 37) rfl (bx_co (j := 36) rfl (bx_co (j := 35) rfl (bx_co (j := 34) rfl (bx_al (bx_al (bx_al (bx_al (bx_al (bx_al (bx_al (bx_ap (n := 4) (j := 30) (bL_TreatyText w _) rfl (bx_ap (n := 5) (j := 25) (bL_CenturyText w _) rfl (bx_ap (n := 5) (j := 20) (bL_Seen w _) rfl (bx_ap (n := 5) (j := 15) (bL_Joiner w _) rfl (bx_ap (n := 2) (j := 13) (bL_Life w _) rfl (bx_ap (n := 2) (j := 11) (bL_Life w _) rfl (bx_al (bl_38 w))))))))))))))))))))
theorem bl_39 (w : kx_W) : (blk_State w (0 + 27))[12]? = some (kE w 39) := rfl
theorem bE39 {w : kx_W} : bE w 39 := bE_of (bx_al (A := blk_KT w 0) (bx_co (j := 38) rfl (bx_co (j := 37) rfl (bx_co (j := 36) rfl (bx_co (j := 35) rfl (bx_al (bx_al (bx_al (bx_al (bx_al (bx_al (bx_al (bx_ap (n := 4) (j := 31) (bL_TreatyText w _) rfl (bx_ap (n := 5) (j := 26) (bL_CenturyText w _) rfl (bx_ap (n := 5) (j := 21) (bL_Seen w _) rfl (bx_ap (n := 5) (j := 16) (bL_Joiner w _) rfl (bx_ap (n := 2) (j := 14) (bL_Life w _) rfl (bx_ap (n := 2) (j := 12) (bL_Life w _) rfl (bx_al (bl_39 w))))))))))))))))))))
theorem bl_40 (w : kx_W) : (blk_State w (0 + 27))[13]? = some (kE w 40) := rfl
theorem bE40 {w : kx_W} : bE w 40 := bE_of (bx_al (A := blk_KT w 0) (bx_co (j := 39) rfl (bx_co (j := 38) rfl (bx_co (j := 37) rfl (bx_co (j := 36) rfl (bx_al (bx_al (bx_al (bx_al (bx_al (bx_al (bx_al (bx_ap (n := 4) (j := 32) (bL_TreatyText w _) rfl (bx_ap (n := 5) (j := 27) (bL_CenturyText w _) rfl (bx_ap (n := 5) (j := 22) (bL_Seen w _) rfl (bx_ap (n := 5) (j := 17) (bL_Joiner w _) rfl (bx_ap (n := 2) (j := 15) (bL_Life w _) rfl (bx_ap (n := 2) (j := 13) (bL_Life w _) rfl (bx_al (bl_40 w))))))))))))))))))))
theorem bl_41 (w : kx_W) : (blk_State w (0 + 27))[14]? = some (kE w 41) := rfl
theorem bE41 {w : kx_W} : bE w 41 := bE_of (bx_al (A := blk_KT w 0) (bx_co (j := 40) rfl (bx_co (j := 39) rfl (bx_co (j := 38) rfl (bx_co (j := 37) rfl (bx_al (bx_al (bx_al (bx_al (bx_al (bx_al (bx_al (bx_ap (n := 4) (j := 33) (bL_TreatyText w _) rfl (bx_ap (n := 5) (j := 28) (bL_CenturyText w _) rfl (bx_ap (n := 5) (j := 23) (bL_Seen w _) rfl (bx_ap (n := 5) (j := 18) (bL_Joiner w _) rfl (bx_ap (n := 2) (j := 16) (bL_Life w _) rfl (bx_ap (n := 2) (j := 14) (bL_Life w _) rfl (bx_al (bl_41 w))))))))))))))))))))
theorem bl_42 (w : kx_W) : (blk_State w (0 + 27))[15]? = some (kE w 42) := rfl
theorem bE42 {w : kx_W} : bE w 42 := bE_of (bx_al (A := blk_KT w 0) (bx_co (j := 41) rfl (bx_co (j := 40) rfl (bx_co (j := 39) rfl (bx_co (j := 38) rfl (bx_al (bx_al (bx_al (bx_al (bx_al (bx_al (bx_al (bx_ap (n := 4) (j := 34) (bL_TreatyText w _) rfl (bx_ap (n := 5) (j := 29) (bL_CenturyText w _) rfl (bx_ap (n := 5) (j := 24) (bL_Seen w _) rfl (bx_ap (n := 5) (j := 19) (bL_Joiner w _) rfl (bx_ap (n := 2) (j := 17) (bL_Life w _) rfl (bx_ap (n := 2) (j := 15) (bL_Life w _) rfl (bx_al (bl_42 w))))))))))))))))))))
theorem bl_43 (w : kx_W) : (blk_State w (0 + 27))[16]? = some (kE w 43) := rfl
theorem bE43 {w : kx_W} : bE w 43 := bE_of (bx_al (A := blk_KT w 0) (bx_co (j := 42) rfl (bx_co (j := 41) rfl (bx_co (j := 40) rfl (bx_co (j := 39) rfl (bx_al (bx_al (bx_al (bx_al (bx_al (bx_al (bx_al (bx_ap (n := 4) (j := 35) (bL_TreatyText w _) rfl (bx_ap (n := 5) (j := 30) (bL_CenturyText w _) rfl (bx_ap (n := 5) (j := 25) (bL_Seen w _) rfl (bx_ap (n := 5) (j := 20) (bL_Joiner w _) rfl (bx_ap (n := 2) (j := 18) (bL_Life w _) rfl (bx_ap (n := 2) (j := 16) (bL_Life w _) rfl (bx_al (bl_43 w))))))))))))))))))))
theorem bl_44 (w : kx_W) : (blk_State w (0 + 27))[17]? = some (kE w 44) := rfl
theorem bE44 {w : kx_W} : bE w 44 := bE_of (bx_al (A := blk_KT w 0) (bx_co (j := 43) rfl (bx_co (j := 42) rfl (bx_co (j := 41) rfl (bx_co (j := 40) rfl (bx_al (bx_al (bx_al (bx_al (bx_al (bx_al (bx_al (bx_ap (n := 4) (j := 36) (bL_TreatyText w _) rfl (bx_ap (n := 5) (j := 31) (bL_CenturyText w _) rfl (bx_ap (n := 5) (j := 26) (bL_Seen w _) rfl (bx_ap (n := 5) (j := 21) (bL_Joiner w _) rfl (bx_ap (n := 2) (j := 19) (bL_Life w _) rfl (bx_ap (n := 2) (j := 17) (bL_Life w _) rfl (bx_al (bl_44 w))))))))))))))))))))
theorem bl_45 (w : kx_W) : (blk_State w (0 + 27))[18]? = some (kE w 45) := rfl
theorem bE45 {w : kx_W} : bE w 45 := bE_of (bx_al (A := blk_KT w 0) (bx_co (j := 44) rfl (bx_co (j := 43) rfl (bx_co (j := 42) rfl (bx_co (j := 41) rfl (bx_al (bx_al (bx_al (bx_al (bx_al (bx_al (bx_al (bx_ap (n := 4) (j := 37) (bL_TreatyText w _) rfl (bx_ap (n := 5) (j := 32) (bL_CenturyText w _) rfl (bx_ap (n := 5) (j := 27) (bL_Seen w _) rfl (bx_ap (n := 5) (j := 22) (bL_Joiner w _) rfl (bx_ap (n := 2) (j := 20) (bL_Life w _) rfl (bx_ap (n := 2) (j := 18) (bL_Life w _) rfl (bx_al (bl_45 w))))))))))))))))))))
theorem bl_46 (w : kx_W) : (blk_State w (0 + 27))[19]? = some (kE w 46) := rfl
theorem bE46 {w : kx_W} : bE w 46 := bE_of (bx_al (A := blk_KT w 0) (bx_co (j := 45) rfl (bx_co (j := 44) rfl (bx_co (j := 43) rfl (bx_co (j := 42) rfl (bx_al (bx_al (bx_al (bx_al (bx_al (bx_al (bx_al (bx_ap (n := 4) (j := 38) (bL_TreatyText w _) rfl (bx_ap (n := 5) (j := 33) (bL_CenturyText w _) rfl (bx_ap (n := 5) (j := 28) (bL_Seen w _) rfl (bx_ap (n := 5) (j := 23) (bL_Joiner w _) rfl (bx_ap (n := 2) (j := 21) (bL_Life w _) rfl (bx_ap (n := 2) (j := 19) (bL_Life w _) rfl (bx_al (bl_46 w))))))))))))))))))))
theorem bl_47 (w : kx_W) : (blk_State w (0 + 47))[0]? = some (kE w 47) := rfl
theorem bE47 {w : kx_W} : bE w 47 := bE_of (bx_al (A := blk_KT w 0) (bx_co (j := 46) rfl (bx_co (j := 45) rfl (bx_co (j := 44) rfl (bx_co (j := 43) rfl (bx_al (bx_al (bx_al (bx_al (bx_al (bx_al (bx_al (bx_ap (n := 4) (j := 39) (bL_TreatyText w _) rfl (bx_ap (n := 5) (j := 34) (bL_CenturyText w _) rfl (bx_ap (n := 5) (j := 29) (bL_Seen w _) rfl (bx_ap (n := 5) (j := 24) (bL_Joiner w _) rfl (bx_ap (n := 2) (j := 22) (bL_Life w _) rfl (bx_ap (n := 2) (j := 20) (bL_Life w _) rfl (bx_ap (n := 20) (j := 0) (bL_State w _) rfl (bl_47 w))))))))))))))))))))
theorem bl_48 (w : kx_W) : (blk_State w (0 + 47))[1]? = some (kE w 48) := rfl
theorem bE48 {w : kx_W} : bE w 48 := bE_of (bx_al (A := blk_KT w 0) (bx_co (j := 47) rfl (bx_co (j := 46) rfl (bx_co (j := 45) rfl (bx_co (j := 44) rfl (bx_al (bx_al (bx_al (bx_al (bx_al (bx_al (bx_al (bx_ap (n := 4) (j := 40) (bL_TreatyText w _) rfl (bx_ap (n := 5) (j := 35) (bL_CenturyText w _) rfl (bx_ap (n := 5) (j := 30) (bL_Seen w _) rfl (bx_ap (n := 5) (j := 25) (bL_Joiner w _) rfl (bx_ap (n := 2) (j := 23) (bL_Life w _) rfl (bx_ap (n := 2) (j := 21) (bL_Life w _) rfl (bx_ap (n := 20) (j := 1) (bL_State w _) rfl (bl_48 w))))))))))))))))))))
theorem bl_49 (w : kx_W) : (blk_State w (0 + 47))[2]? = some (kE w 49) := rfl
theorem bE49 {w : kx_W} : bE w 49 := bE_of (bx_al (A := blk_KT w 0) (bx_co (j := 48) rfl (bx_co (j := 47) rfl (bx_co (j := 46) rfl (bx_co (j := 45) rfl (bx_al (bx_al (bx_al (bx_al (bx_al (bx_al (bx_al (bx_ap (n := 4) (j := 41) (bL_TreatyText w _) rfl (bx_ap (n := 5) (j := 36) (bL_CenturyText w _) rfl (bx_ap (n := 5) (j := 31) (bL_Seen w _) rfl (bx_ap (n := 5) (j := 26) (bL_Joiner w _) rfl (bx_ap (n := 2) (j := 24) (bL_Life w _) rfl (bx_ap (n := 2) (j := 22) (bL_Life w _) rfl (bx_ap (n := 20) (j := 2) (bL_State w _) rfl (bl_49 w))))))))))))))))))))
theorem bl_50 (w : kx_W) : (blk_State w (0 + 47))[3]? = some (kE w 50) := rfl
theorem bE50 {w : kx_W} : bE w 50 := bE_of (bx_al (A := blk_KT w 0) (bx_co (j := 49) rfl (bx_co (j := 48) rfl (bx_co (j := 47) rfl (bx_co (j := 46) rfl (bx_al (bx_al (bx_al (bx_al (bx_al (bx_al (bx_al (bx_ap (n := 4) (j := 42) (bL_TreatyText w _) rfl (bx_ap (n := 5) (j := 37) (bL_CenturyText w _) rfl (bx_ap (n := 5) (j := 32) (bL_Seen w _) rfl (bx_ap (n := 5) (j := 27) (bL_Joiner w _) rfl (bx_ap (n := 2) (j := 25) (bL_Life w _) rfl (bx_ap (n := 2) (j := 23) (bL_Life w _) rfl (bx_ap (n := 20) (j := 3) (bL_State w _) rfl (bl_50 w))))))))))))))))))))
theorem bl_51 (w : kx_W) : (blk_State w (0 + 47))[4]? = some (kE w 51) := rfl
theorem bE51 {w : kx_W} : bE w 51 := bE_of (bx_al (A := blk_KT w 0) (bx_co (j := 50) rfl (bx_co (j := 49) rfl (bx_co (j := 48) rfl (bx_co (j := 47) rfl (bx_al (bx_al (bx_al (bx_al (bx_al (bx_al (bx_al (bx_ap (n := 4) (j := 43) (bL_TreatyText w _) rfl (bx_ap (n := 5) (j := 38) (bL_CenturyText w _) rfl (bx_ap (n := 5) (j := 33) (bL_Seen w _) rfl (bx_ap (n := 5) (j := 28) (bL_Joiner w _) rfl (bx_ap (n := 2) (j := 26) (bL_Life w _) rfl (bx_ap (n := 2) (j := 24) (bL_Life w _) rfl (bx_ap (n := 20) (j := 4) (bL_State w _) rfl (bl_51 w))))))))))))))))))))
theorem bl_52 (w : kx_W) : (blk_State w (0 + 47))[5]? = some (kE w 52) := rfl
theorem bE52 {w : kx_W} : bE w 52 := bE_of (bx_al (A := blk_KT w 0) (bx_co (j := 51) rfl (bx_co (j := 50) rfl (bx_co (j := 49) rfl (bx_co (j := 48) rfl (bx_al (bx_al (bx_al (bx_al (bx_al (bx_al (bx_al (bx_ap (n := 4) (j := 44) (bL_TreatyText w _) rfl (bx_ap (n := 5) (j := 39) (bL_CenturyText w _) rfl (bx_ap (n := 5) (j := 34) (bL_Seen w _) rfl (bx_ap (n := 5) (j := 29) (bL_Joiner w _) rfl (bx_ap (n := 2) (j := 27) (bL_Life w _) rfl (bx_ap (n := 2) (j := 25) (bL_Life w _) rfl (bx_ap (n := 20) (j := 5) (bL_State w _) rfl (bl_52 w))))))))))))))))))))
theorem bl_53 (w : kx_W) : (blk_State w (0 + 47))[6]? = some (kE w 53) := rfl
theorem bE53 {w : kx_W} : bE w 53 := bE_of (bx_al (A := blk_KT w 0) (bx_co (j := 52) rfl (bx_co (j := 51) rfl (bx_co (j := 50) rfl (bx_co (j := 49) rfl (bx_al (bx_al (bx_al (bx_al (bx_al (bx_al (bx_al (bx_ap (n := 4) (j := 45) (bL_TreatyText w _) rfl (bx_ap (n := 5) (j := 40) (bL_CenturyText w _) rfl (bx_ap (n := 5) (j := 35) (bL_Seen w _) rfl (bx_ap (n := 5) (j := 30) (bL_Joiner w _) rfl (bx_ap (n := 2) (j := 28) (bL_Life w _) rfl (bx_ap (n := 2) (j := 26) (bL_Life w _) rfl (bx_ap (n := 20) (j := 6) (bL_State w _) rfl (bl_53 w))))))))))))))))))))
theorem bl_54 (w : kx_W) : (blk_State w (0 + 47))[7]? = some (kE w 54) := rfl
theorem bE54 {w : kx_W} : bE w 54 := bE_of (bx_al (A := blk_KT w 0) (bx_co (j := 53) rfl (bx_co (j := 52) rfl (bx_co (j := 51) rfl (bx_co (j := 50) rfl (bx_al (bx_al (bx_al (bx_al (bx_al (bx_al (bx_al (bx_ap (n := 4) (j := 46) (bL_TreatyText w _) rfl (bx_ap (n := 5) (j := 41) (bL_CenturyText w _) rfl (bx_ap (n := 5) (j := 36) (bL_Seen w _) rfl (bx_ap (n := 5) (j := 31) (bL_Joiner w _) rfl (bx_ap (n := 2) (j := 29) (bL_Life w _) rfl (bx_ap (n := 2) (j := 27) (bL_Life w _) rfl (bx_ap (n := 20) (j := 7) (bL_State w _) rfl (bl_54 w))))))))))))))))))))
theorem bl_55 (w : kx_W) : (blk_State w (0 + 47))[8]? = some (kE w 55) := rfl
theorem bE55 {w : kx_W} : bE w 55 := bE_of (bx_al (A := blk_KT w 0) (bx_co (j := 54) rfl (bx_co (j := 53) rfl (bx_co (j := 52) rfl (bx_co (j := 51) rfl (bx_al (bx_al (bx_al (bx_al (bx_al (bx_al (bx_al (bx_ap (n := 4) (j := 47) (bL_TreatyText w _) rfl (bx_ap (n := 5) (j := 42) (bL_CenturyText w _) rfl (bx_ap (n := 5) (j := 37) (bL_Seen w _) rfl (bx_ap (n := 5) (j := 32) (bL_Joiner w _) rfl (bx_ap (n := 2) (j := 30) (bL_Life w _) rfl (bx_ap (n := 2) (j := 28) (bL_Life w _) rfl (bx_ap (n := 20) (j := 8) (bL_State w _) rfl (bl_55 w))))))))))))))))))))
theorem bl_56 (w : kx_W) : (blk_State w (0 + 47))[9]? = some (kE w 56) := rfl
theorem bE56 {w : kx_W} : bE w 56 := bE_of (bx_al (A := blk_KT w 0) (bx_co (j := 55) rfl (bx_co (j := 54) rfl (bx_co (j := 53) rfl (bx_co (j := 52) rfl (bx_al (bx_al (bx_al (bx_al (bx_al (bx_al (bx_al (bx_ap (n := 4) (j := 48) (bL_TreatyText w _) rfl (bx_ap (n := 5) (j := 43) (bL_CenturyText w _) rfl (bx_ap (n := 5) (j := 38) (bL_Seen w _) rfl (bx_ap (n := 5) (j := 33) (bL_Joiner w _) rfl (bx_ap (n := 2) (j := 31) (bL_Life w _) rfl (bx_ap (n := 2) (j := 29) (bL_Life w _) rfl (bx_ap (n := 20) (j := 9) (bL_State w _) rfl (bl_56 w))))))))))))))))))))
theorem bl_57 (w : kx_W) : (blk_State w (0 + 47))[10]? = some (kE w 57) := rfl
theorem bE57 {w : kx_W} : bE w 57 := bE_of (bx_al (A := blk_KT w 0) (bx_co (j := 56) rfl (bx_co (j := 55) rfl (bx_co (j := 54) rfl (bx_co (j := 53) rfl (bx_al (bx_al (bx_al (bx_al (bx_al (bx_al (bx_al (bx_ap (n := 4) (j := 49) (bL_TreatyText w _) rfl (bx_ap (n := 5) (j := 44) (bL_CenturyText w _) rfl (bx_ap (n := 5) (j := 39) (bL_Seen w _) rfl (bx_ap (n := 5) (j := 34) (bL_Joiner w _) rfl (bx_ap (n := 2) (j := 32) (bL_Life w _) rfl (bx_ap (n := 2) (j := 30) (bL_Life w _) rfl (bx_ap (n := 20) (j := 10) (bL_State w _) rfl (bl_57 w))))))))))))))))))))
theorem bl_58 (w : kx_W) : (blk_State w (0 + 47))[11]? = some (kE w 58) := rfl
theorem bE58 {w : kx_W} : bE w 58 := bE_of (bx_al (A := blk_KT w 0) (bx_co (j := 57) rfl (bx_co (j := 56) rfl (bx_co (j := 55) rfl (bx_co (j := 54) rfl (bx_al (bx_al (bx_al (bx_al (bx_al (bx_al (bx_al (bx_ap (n := 4) (j := 50) (bL_TreatyText w _) rfl (bx_ap (n := 5) (j := 45) (bL_CenturyText w _) rfl (bx_ap (n := 5) (j := 40) (bL_Seen w _) rfl (bx_ap (n := 5) (j := 35) (bL_Joiner w _) rfl (bx_ap (n := 2) (j := 33) (bL_Life w _) rfl (bx_ap (n := 2) (j := 31) (bL_Life w _) rfl (bx_ap (n := 20) (j := 11) (bL_State w _) rfl (bl_58 w))))))))))))))))))))
theorem bl_59 (w : kx_W) : (blk_State w (0 + 47))[12]? = some (kE w 59) := rfl
theorem bE59 {w : kx_W} : bE w 59 := bE_of (bx_al (A := blk_KT w 0) (bx_co (j := 58) rfl (bx_co (j := 57) rfl (bx_co (j := 56) rfl (bx_co (j := 55) rfl (bx_al (bx_al (bx_al (bx_al (bx_al (bx_al (bx_al (bx_ap (n := 4) (j := 51) (bL_TreatyText w _) rfl (bx_ap (n := 5) (j := 46) (bL_CenturyText w _) rfl (bx_ap (n := 5) (j := 41) (bL_Seen w _) rfl (bx_ap (n := 5) (j := 36) (bL_Joiner w _) rfl (bx_ap (n := 2) (j := 34) (bL_Life w _) rfl (bx_ap (n := 2) (j := 32) (bL_Life w _) rfl (bx_ap (n := 20) (j := 12) (bL_State w _) rfl (bl_59 w))))))))))))))))))))
theorem bl_60 (w : kx_W) : (blk_State w (0 + 47))[13]? = some (kE w 60) := rfl
theorem bE60 {w : kx_W} : bE w 60 := bE_of (bx_al (A := blk_KT w 0) (bx_co (j := 59) rfl (bx_co (j := 58) rfl (bx_co (j := 57) rfl (bx_co (j := 56) rfl (bx_al (bx_al (bx_al (bx_al (bx_al (bx_al (bx_al (bx_ap (n := 4) (j := 52) (bL_TreatyText w _) rfl (bx_ap (n := 5) (j := 47) (bL_CenturyText w _) rfl (bx_ap (n := 5) (j := 42) (bL_Seen w _) rfl (bx_ap (n := 5) (j := 37) (bL_Joiner w _) rfl (bx_ap (n := 2) (j := 35) (bL_Life w _) rfl (bx_ap (n := 2) (j := 33) (bL_Life w _) rfl (bx_ap (n := 20) (j := 13) (bL_State w _) rfl (bl_60 w))))))))))))))))))))
theorem bl_61 (w : kx_W) : (blk_State w (0 + 47))[14]? = some (kE w 61) := rfl
theorem bE61 {w : kx_W} : bE w 61 := bE_of (bx_al (A := blk_KT w 0) (bx_co (j := 60) rfl (bx_co (j := 59) rfl (bx_co (j := 58) rfl (bx_co (j := 57) rfl (bx_al (bx_al (bx_al (bx_al (bx_al (bx_al (bx_al (bx_ap (n := 4) (j := 53) (bL_TreatyText w _) rfl (bx_ap (n := 5) (j := 48) (bL_CenturyText w _) rfl (bx_ap (n := 5) (j := 43) (bL_Seen w _) rfl (bx_ap (n := 5) (j := 38) (bL_Joiner w _) rfl (bx_ap (n := 2) (j := 36) (bL_Life w _) rfl (bx_ap (n := 2) (j := 34) (bL_Life w _) rfl (bx_ap (n := 20) (j := 14) (bL_State w _) rfl (bl_61 w))))))))))))))))))))
theorem bl_62 (w : kx_W) : (blk_State w (0 + 47))[15]? = some (kE w 62) := rfl
theorem bE62 {w : kx_W} : bE w 62 := bE_of (bx_al (A := blk_KT w 0) (bx_co (j := 61) rfl (bx_co (j := 60) rfl (bx_co (j := 59) rfl (bx_co (j := 58) rfl (bx_al (bx_al (bx_al (bx_al (bx_al (bx_al (bx_al (bx_ap (n := 4) (j := 54) (bL_TreatyText w _) rfl (bx_ap (n := 5) (j := 49) (bL_CenturyText w _) rfl (bx_ap (n := 5) (j := 44) (bL_Seen w _) rfl (bx_ap (n := 5) (j := 39) (bL_Joiner w _) rfl (bx_ap (n := 2) (j := 37) (bL_Life w _) rfl (bx_ap (n := 2) (j := 35) (bL_Life w _) rfl (bx_ap (n := 20) (j := 15) (bL_State w _) rfl (bl_62 w))))))))))))))))))))
theorem bl_63 (w : kx_W) : (blk_State w (0 + 47))[16]? = some (kE w 63) := rfl
theorem bE63 {w : kx_W} : bE w 63 := bE_of (bx_al (A := blk_KT w 0) (bx_co (j := 62) rfl (bx_co (j := 61) rfl (bx_co (j := 60) rfl (bx_co (j := 59) rfl (bx_al (bx_al (bx_al (bx_al (bx_al (bx_al (bx_al (bx_ap (n := 4) (j := 55) (bL_TreatyText w _) rfl (bx_ap (n := 5) (j := 50) (bL_CenturyText w _) rfl (bx_ap (n := 5) (j := 45) (bL_Seen w _) rfl (bx_ap (n := 5) (j := 40) (bL_Joiner w _) rfl (bx_ap (n := 2) (j := 38) (bL_Life w _) rfl (bx_ap (n := 2) (j := 36) (bL_Life w _) rfl (bx_ap (n := 20) (j := 16) (bL_State w _) rfl (bl_63 w))))))))))))))))))))
theorem bl_64 (w : kx_W) : (blk_State w (0 + 47))[17]? = some (kE w 64) := rfl
theorem bE64 {w : kx_W} : bE w 64 := bE_of (bx_al (A := blk_KT w 0) (bx_co (j := 63) rfl (bx_co (j := 62) rfl (bx_co (j := 61) rfl (bx_co (j := 60) rfl (bx_al (bx_al (bx_al (bx_al (bx_al (bx_al (bx_al (bx_ap (n := 4) (j := 56) (bL_TreatyText w _) rfl (bx_ap (n := 5) (j := 51) (bL_CenturyText w _) rfl (bx_ap (n := 5) (j := 46) (bL_Seen w _) rfl (bx_ap (n := 5) (j := 41) (bL_Joiner w _) rfl (bx_ap (n := 2) (j := 39) (bL_Life w _) rfl (bx_ap (n := 2) (j := 37) (bL_Life w _) rfl (bx_ap (n := 20) (j := 17) (bL_State w _) rfl (bl_64 w))))))))))))))))))))
theorem bl_65 (w : kx_W) : (blk_State w (0 + 47))[18]? = some (kE w 65) := rfl
theorem bE65 {w : kx_W} : bE w 65 := bE_of (bx_al (A := blk_KT w 0) (bx_co (j := 64) rfl (bx_co (j := 63) rfl (bx_co (j := 62) rfl (bx_co (j := 61) rfl (bx_al (bx_al (bx_al (bx_al (bx_al (bx_al (bx_al (bx_ap (n := 4) (j := 57) (bL_TreatyText w _) rfl (bx_ap (n := 5) (j := 52) (bL_CenturyText w _) rfl (bx_ap (n := 5) (j := 47) (bL_Seen w _) rfl (bx_ap (n := 5) (j := 42) (bL_Joiner w _) rfl (bx_ap (n := 2) (j := 40) (bL_Life w _) rfl (bx_ap (n := 2) (j := 38) (bL_Life w _) rfl (bx_ap (n := 20) (j := 18) (bL_State w _) rfl (bl_65 w))))))))))))))))))))
theorem bl_66 (w : kx_W) : (blk_State w (0 + 47))[19]? = some (kE w 66) := rfl
theorem bE66 {w : kx_W} : bE w 66 := bE_of (bx_al (A := blk_KT w 0) (bx_co (j := 65) rfl (bx_co (j := 64) rfl (bx_co (j := 63) rfl (bx_co (j := 62) rfl (bx_al (bx_al (bx_al (bx_al (bx_al (bx_al (bx_al (bx_ap (n := 4) (j := 58) (bL_TreatyText w _) rfl (bx_ap (n := 5) (j := 53) (bL_CenturyText w _) rfl (bx_ap (n := 5) (j := 48) (bL_Seen w _) rfl (bx_ap (n := 5) (j := 43) (bL_Joiner w _) rfl (bx_ap (n := 2) (j := 41) (bL_Life w _) rfl (bx_ap (n := 2) (j := 39) (bL_Life w _) rfl (bx_ap (n := 20) (j := 19) (bL_State w _) rfl (bl_66 w))))))))))))))))))))
theorem bl_67 (w : kx_W) : (blk_Tray w (0 + 67))[0]? = some (kE w 67) := rfl
theorem bE67 {w : kx_W} : bE w 67 := bE_of (bx_al (A := blk_KT w 0) (bx_co (j := 66) rfl (bx_co (j := 65) rfl (bx_co (j := 64) rfl (bx_co (j := 63) rfl (bx_al (bx_al (bx_al (bx_al (bx_al (bx_al (bx_ap (n := 63) (j := 0) (by simp only [List.length_append, List.length_cons, List.length_nil, bL_TreatyText, bL_CenturyText, bL_Seen, bL_Joiner, bL_Life, bL_State, bL_Tray]) rfl (bl_67 w)))))))))))))
theorem bl_68 (w : kx_W) : (blk_Tray w (0 + 67))[1]? = some (kE w 68) := rfl
theorem bE68 {w : kx_W} : bE w 68 := bE_of (bx_al (A := blk_KT w 0) (bx_co (j := 67) rfl (bx_co (j := 66) rfl (bx_co (j := 65) rfl (bx_co (j := 64) rfl (bx_al (bx_al (bx_al (bx_al (bx_al (bx_al (bx_ap (n := 63) (j := 1) (by simp only [List.length_append, List.length_cons, List.length_nil, bL_TreatyText, bL_CenturyText, bL_Seen, bL_Joiner, bL_Life, bL_State, bL_Tray]) rfl (bl_68 w)))))))))))))
theorem bl_69 (w : kx_W) : (blk_Tray w (0 + 69))[0]? = some (kE w 69) := rfl
theorem bE69 {w : kx_W} : bE w 69 := bE_of (bx_al (A := blk_KT w 0) (bx_co (j := 68) rfl (bx_co (j := 67) rfl (bx_co (j := 66) rfl (bx_co (j := 65) rfl (bx_al (bx_al (bx_al (bx_al (bx_al (bx_ap (n := 65) (j := 0) (by simp only [List.length_append, List.length_cons, List.length_nil, bL_TreatyText, bL_CenturyText, bL_Seen, bL_Joiner, bL_Life, bL_State, bL_Tray]) rfl (bl_69 w))))))))))))
theorem bl_70 (w : kx_W) : (blk_Tray w (0 + 69))[1]? = some (kE w 70) := rfl
theorem bE70 {w : kx_W} : bE w 70 := bE_of (bx_al (A := blk_KT w 0) (bx_co (j := 69) rfl (bx_co (j := 68) rfl (bx_co (j := 67) rfl (bx_co (j := 66) rfl (bx_al (bx_al (bx_al (bx_al (bx_al (bx_ap (n := 65) (j := 1) (by simp only [List.length_append, List.length_cons, List.length_nil, bL_TreatyText, bL_CenturyText, bL_Seen, bL_Joiner, bL_Life, bL_State, bL_Tray]) rfl (bl_70 w))))))))))))
theorem bl_71 (w : kx_W) : (blk_Tray w (0 + 71))[0]? = some (kE w 71) := rfl
theorem bE71 {w : kx_W} : bE w 71 := bE_of (bx_al (A := blk_KT w 0) (bx_co (j := 70) rfl (bx_co (j := 69) rfl (bx_co (j := 68) rfl (bx_co (j := 67) rfl (bx_al (bx_al (bx_al (bx_al (bx_ap (n := 67) (j := 0) (by simp only [List.length_append, List.length_cons, List.length_nil, bL_TreatyText, bL_CenturyText, bL_Seen, bL_Joiner, bL_Life, bL_State, bL_Tray]) rfl (bl_71 w)))))))))))
theorem bl_72 (w : kx_W) : (blk_Tray w (0 + 71))[1]? = some (kE w 72) := rfl
theorem bE72 {w : kx_W} : bE w 72 := bE_of (bx_al (A := blk_KT w 0) (bx_co (j := 71) rfl (bx_co (j := 70) rfl (bx_co (j := 69) rfl (bx_co (j := 68) rfl (bx_al (bx_al (bx_al (bx_al (bx_ap (n := 67) (j := 1) (by simp only [List.length_append, List.length_cons, List.length_nil, bL_TreatyText, bL_CenturyText, bL_Seen, bL_Joiner, bL_Life, bL_State, bL_Tray]) rfl (bl_72 w)))))))))))
theorem bl_73 (w : kx_W) : (blk_Tray w (0 + 73))[0]? = some (kE w 73) := rfl
theorem bE73 {w : kx_W} : bE w 73 := bE_of (bx_al (A := blk_KT w 0) (bx_co (j := 72) rfl (bx_co (j := 71) rfl (bx_co (j := 70) rfl (bx_co (j := 69) rfl (bx_al (bx_al (bx_al (bx_ap (n := 69) (j := 0) (by simp only [List.length_append, List.length_cons, List.length_nil, bL_TreatyText, bL_CenturyText, bL_Seen, bL_Joiner, bL_Life, bL_State, bL_Tray]) rfl (bl_73 w))))))))))
theorem bl_74 (w : kx_W) : (blk_Tray w (0 + 73))[1]? = some (kE w 74) := rfl
theorem bE74 {w : kx_W} : bE w 74 := bE_of (bx_al (A := blk_KT w 0) (bx_co (j := 73) rfl (bx_co (j := 72) rfl (bx_co (j := 71) rfl (bx_co (j := 70) rfl (bx_al (bx_al (bx_al (bx_ap (n := 69) (j := 1) (by simp only [List.length_append, List.length_cons, List.length_nil, bL_TreatyText, bL_CenturyText, bL_Seen, bL_Joiner, bL_Life, bL_State, bL_Tray]) rfl (bl_74 w))))))))))
theorem bl_75 (w : kx_W) : (blk_State w (0 + 75))[0]? = some (kE w 75) := rfl
theorem bE75 {w : kx_W} : bE w 75 := bE_of (bx_al (A := blk_KT w 0) (bx_co (j := 74) rfl (bx_co (j := 73) rfl (bx_co (j := 72) rfl (bx_co (j := 71) rfl (bx_al (bx_al (bx_ap (n := 71) (j := 0) (by simp only [List.length_append, List.length_cons, List.length_nil, bL_TreatyText, bL_CenturyText, bL_Seen, bL_Joiner, bL_Life, bL_State, bL_Tray]) rfl (bl_75 w)))))))))
theorem bl_76 (w : kx_W) : (blk_State w (0 + 75))[1]? = some (kE w 76) := rfl
theorem bE76 {w : kx_W} : bE w 76 := bE_of (bx_al (A := blk_KT w 0) (bx_co (j := 75) rfl (bx_co (j := 74) rfl (bx_co (j := 73) rfl (bx_co (j := 72) rfl (bx_al (bx_al (bx_ap (n := 71) (j := 1) (by simp only [List.length_append, List.length_cons, List.length_nil, bL_TreatyText, bL_CenturyText, bL_Seen, bL_Joiner, bL_Life, bL_State, bL_Tray]) rfl (bl_76 w)))))))))
theorem bl_77 (w : kx_W) : (blk_State w (0 + 75))[2]? = some (kE w 77) := rfl
theorem bE77 {w : kx_W} : bE w 77 := bE_of (bx_al (A := blk_KT w 0) (bx_co (j := 76) rfl (bx_co (j := 75) rfl (bx_co (j := 74) rfl (bx_co (j := 73) rfl (bx_al (bx_al (bx_ap (n := 71) (j := 2) (by simp only [List.length_append, List.length_cons, List.length_nil, bL_TreatyText, bL_CenturyText, bL_Seen, bL_Joiner, bL_Life, bL_State, bL_Tray]) rfl (bl_77 w)))))))))
theorem bl_78 (w : kx_W) : (blk_State w (0 + 75))[3]? = some (kE w 78) := rfl
theorem bE78 {w : kx_W} : bE w 78 := bE_of (bx_al (A := blk_KT w 0) (bx_co (j := 77) rfl (bx_co (j := 76) rfl (bx_co (j := 75) rfl (bx_co (j := 74) rfl (bx_al (bx_al (bx_ap (n := 71) (j := 3) (by simp only [List.length_append, List.length_cons, List.length_nil, bL_TreatyText, bL_CenturyText, bL_Seen, bL_Joiner, bL_Life, bL_State, bL_Tray]) rfl (bl_78 w)))))))))
theorem bl_79 (w : kx_W) : (blk_State w (0 + 75))[4]? = some (kE w 79) := rfl
theorem bE79 {w : kx_W} : bE w 79 := bE_of (bx_al (A := blk_KT w 0) (bx_co (j := 78) rfl (bx_co (j := 77) rfl (bx_co (j := 76) rfl (bx_co (j := 75) rfl (bx_al (bx_al (bx_ap (n := 71) (j := 4) (by simp only [List.length_append, List.length_cons, List.length_nil, bL_TreatyText, bL_CenturyText, bL_Seen, bL_Joiner, bL_Life, bL_State, bL_Tray]) rfl (bl_79 w)))))))))
theorem bl_80 (w : kx_W) : (blk_State w (0 + 75))[5]? = some (kE w 80) := rfl
theorem bE80 {w : kx_W} : bE w 80 := bE_of (bx_al (A := blk_KT w 0) (bx_co (j := 79) rfl (bx_co (j := 78) rfl (bx_co (j := 77) rfl (bx_co (j := 76) rfl (bx_al (bx_al (bx_ap (n := 71) (j := 5) (by simp only [List.length_append, List.length_cons, List.length_nil, bL_TreatyText, bL_CenturyText, bL_Seen, bL_Joiner, bL_Life, bL_State, bL_Tray]) rfl (bl_80 w)))))))))
theorem bl_81 (w : kx_W) : (blk_State w (0 + 75))[6]? = some (kE w 81) := rfl
theorem bE81 {w : kx_W} : bE w 81 := bE_of (bx_al (A := blk_KT w 0) (bx_co (j := 80) rfl (bx_co (j := 79) rfl (bx_co (j := 78) rfl (bx_co (j := 77) rfl (bx_al (bx_al (bx_ap (n := 71) (j := 6) (by simp only [List.length_append, List.length_cons, List.length_nil, bL_TreatyText, bL_CenturyText, bL_Seen, bL_Joiner, bL_Life, bL_State, bL_Tray]) rfl (bl_81 w)))))))))
theorem bl_82 (w : kx_W) : (blk_State w (0 + 75))[7]? = some (kE w 82) := rfl
theorem bE82 {w : kx_W} : bE w 82 := bE_of (bx_al (A := blk_KT w 0) (bx_co (j := 81) rfl (bx_co (j := 80) rfl (bx_co (j := 79) rfl (bx_co (j := 78) rfl (bx_al (bx_al (bx_ap (n := 71) (j := 7) (by simp only [List.length_append, List.length_cons, List.length_nil, bL_TreatyText, bL_CenturyText, bL_Seen, bL_Joiner, bL_Life, bL_State, bL_Tray]) rfl (bl_82 w)))))))))
theorem bl_83 (w : kx_W) : (blk_State w (0 + 75))[8]? = some (kE w 83) := rfl
theorem bE83 {w : kx_W} : bE w 83 := bE_of (bx_al (A := blk_KT w 0) (bx_co (j := 82) rfl (bx_co (j := 81) rfl (bx_co (j := 80) rfl (bx_co (j := 79) rfl (bx_al (bx_al (bx_ap (n := 71) (j := 8) (by simp only [List.length_append, List.length_cons, List.length_nil, bL_TreatyText, bL_CenturyText, bL_Seen, bL_Joiner, bL_Life, bL_State, bL_Tray]) rfl (bl_83 w)))))))))
theorem bl_84 (w : kx_W) : (blk_State w (0 + 75))[9]? = some (kE w 84) := rfl
theorem bE84 {w : kx_W} : bE w 84 := bE_of (bx_al (A := blk_KT w 0) (bx_co (j := 83) rfl (bx_co (j := 82) rfl (bx_co (j := 81) rfl (bx_co (j := 80) rfl (bx_al (bx_al (bx_ap (n := 71) (j := 9) (by simp only [List.length_append, List.length_cons, List.length_nil, bL_TreatyText, bL_CenturyText, bL_Seen, bL_Joiner, bL_Life, bL_State, bL_Tray]) rfl (bl_84 w)))))))))
theorem bl_85 (w : kx_W) : (blk_State w (0 + 75))[10]? = some (kE w 85) := rfl
theorem bE85 {w : kx_W} : bE w 85 := bE_of (bx_al (A := blk_KT w 0) (bx_co (j := 84) rfl (bx_co (j := 83) rfl (bx_co (j := 82) rfl (bx_co (j := 81) rfl (bx_al (bx_al (bx_ap (n := 71) (j := 10) (by simp only [List.length_append, List.length_cons, List.length_nil, bL_TreatyText, bL_CenturyText, bL_Seen, bL_Joiner, bL_Life, bL_State, bL_Tray]) rfl (bl_85 w)))))))))
theorem bl_86 (w : kx_W) : (blk_State w (0 + 75))[11]? = some (kE w 86) := rfl
theorem bE86 {w : kx_W} : bE w 86 := bE_of (bx_al (A := blk_KT w 0) (bx_co (j := 85) rfl (bx_co (j := 84) rfl (bx_co (j := 83) rfl (bx_co (j := 82) rfl (bx_al (bx_al (bx_ap (n := 71) (j := 11) (by simp only [List.length_append, List.length_cons, List.length_nil, bL_TreatyText, bL_CenturyText, bL_Seen, bL_Joiner, bL_Life, bL_State, bL_Tray]) rfl (bl_86 w)))))))))
theorem bl_87 (w : kx_W) : (blk_State w (0 + 75))[12]? = some (kE w 87) := rfl
theorem bE87 {w : kx_W} : bE w 87 := bE_of (bx_al (A := blk_KT w 0) (bx_co (j := 86) rfl (bx_co (j := 85) rfl (bx_co (j := 84) rfl (bx_co (j := 83) rfl (bx_al (bx_al (bx_ap (n := 71) (j := 12) (by simp only [List.length_append, List.length_cons, List.length_nil, bL_TreatyText, bL_CenturyText, bL_Seen, bL_Joiner, bL_Life, bL_State, bL_Tray]) rfl (bl_87 w)))))))))
theorem bl_88 (w : kx_W) : (blk_State w (0 + 75))[13]? = some (kE w 88) := rfl
theorem bE88 {w : kx_W} : bE w 88 := bE_of (bx_al (A := blk_KT w 0) (bx_co (j := 87) rfl (bx_co (j := 86) rfl (bx_co (j := 85) rfl (bx_co (j := 84) rfl (bx_al (bx_al (bx_ap (n := 71) (j := 13) (by simp only [List.length_append, List.length_cons, List.length_nil, bL_TreatyText, bL_CenturyText, bL_Seen, bL_Joiner, bL_Life, bL_State, bL_Tray]) rfl (bl_88 w)))))))))
theorem bl_89 (w : kx_W) : (blk_State w (0 + 75))[14]? = some (kE w 89) := rfl
theorem bE89 {w : kx_W} : bE w 89 := bE_of (bx_al (A := blk_KT w 0) (bx_co (j := 88) rfl (bx_co (j := 87) rfl (bx_co (j := 86) rfl (bx_co (j := 85) rfl (bx_al (bx_al (bx_ap (n := 71) (j := 14) (by simp only [List.length_append, List.length_cons, List.length_nil, bL_TreatyText, bL_CenturyText, bL_Seen, bL_Joiner, bL_Life, bL_State, bL_Tray]) rfl (bl_89 w)))))))))
theorem bl_90 (w : kx_W) : (blk_State w (0 + 75))[15]? = some (kE w 90) := rfl
theorem bE90 {w : kx_W} : bE w 90 := bE_of (bx_al (A := blk_KT w 0) (bx_co (j := 89) rfl (bx_co (j := 88) rfl (bx_co (j := 87) rfl (bx_co (j := 86) rfl (bx_al (bx_al (bx_ap (n := 71) (j := 15) (by simp only [List.length_append, List.length_cons, List.length_nil, bL_TreatyText, bL_CenturyText, bL_Seen, bL_Joiner, bL_Life, bL_State, bL_Tray]) rfl (bl_90 w)))))))))
theorem bl_91 (w : kx_W) : (blk_State w (0 + 75))[16]? = some (kE w 91) := rfl
theorem bE91 {w : kx_W} : bE w 91 := bE_of (bx_al (A := blk_KT w 0) (bx_co (j := 90) rfl (bx_co (j := 89) rfl (bx_co (j := 88) rfl (bx_co (j := 87) rfl (bx_al (bx_al (bx_ap (n := 71) (j := 16) (by simp only [List.length_append, List.length_cons, List.length_nil, bL_TreatyText, bL_CenturyText, bL_Seen, bL_Joiner, bL_Life, bL_State, bL_Tray]) rfl (bl_91 w)))))))))
theorem bl_92 (w : kx_W) : (blk_State w (0 + 75))[17]? = some (kE w 92) := rfl
theorem bE92 {w : kx_W} : bE w 92 := bE_of (bx_al (A := blk_KT w 0) (bx_co (j := 91) rfl (bx_co (j := 90) rfl (bx_co (j := 89) rfl (bx_co (j := 88) rfl (bx_al (bx_al (bx_ap (n := 71) (j := 17) (by simp only [List.length_append, List.length_cons, List.length_nil, bL_TreatyText, bL_CenturyText, bL_Seen, bL_Joiner, bL_Life, bL_State, bL_Tray]) rfl (bl_92 w)))))))))
theorem bl_93 (w : kx_W) : (blk_State w (0 + 75))[18]? = some (kE w 93) := rfl
theorem bE93 {w : kx_W} : bE w 93 := bE_of (bx_al (A := blk_KT w 0) (bx_co (j := 92) rfl (bx_co (j := 91) rfl (bx_co (j := 90) rfl (bx_co (j := 89) rfl (bx_al (bx_al (bx_ap (n := 71) (j := 18) (by simp only [List.length_append, List.length_cons, List.length_nil, bL_TreatyText, bL_CenturyText, bL_Seen, bL_Joiner, bL_Life, bL_State, bL_Tray]) rfl (bl_93 w)))))))))
theorem bl_94 (w : kx_W) : (blk_State w (0 + 75))[19]? = some (kE w 94) := rfl
theorem bE94 {w : kx_W} : bE w 94 := bE_of (bx_al (A := blk_KT w 0) (bx_co (j := 93) rfl (bx_co (j := 92) rfl (bx_co (j := 91) rfl (bx_co (j := 90) rfl (bx_al (bx_al (bx_ap (n := 71) (j := 19) (by simp only [List.length_append, List.length_cons, List.length_nil, bL_TreatyText, bL_CenturyText, bL_Seen, bL_Joiner, bL_Life, bL_State, bL_Tray]) rfl (bl_94 w)))))))))
theorem bl_95 (w : kx_W) : (blk_State w (0 + 95))[0]? = some (kE w 95) := rfl
theorem bE95 {w : kx_W} : bE w 95 := bE_of (bx_al (A := blk_KT w 0) (bx_co (j := 94) rfl (bx_co (j := 93) rfl (bx_co (j := 92) rfl (bx_co (j := 91) rfl (bx_al (bx_ap (n := 91) (j := 0) (by simp only [List.length_append, List.length_cons, List.length_nil, bL_TreatyText, bL_CenturyText, bL_Seen, bL_Joiner, bL_Life, bL_State, bL_Tray]) rfl (bl_95 w))))))))
theorem bl_96 (w : kx_W) : (blk_State w (0 + 95))[1]? = some (kE w 96) := rfl
theorem bE96 {w : kx_W} : bE w 96 := bE_of (bx_al (A := blk_KT w 0) (bx_co (j := 95) rfl (bx_co (j := 94) rfl (bx_co (j := 93) rfl (bx_co (j := 92) rfl (bx_al (bx_ap (n := 91) (j := 1) (by simp only [List.length_append, List.length_cons, List.length_nil, bL_TreatyText, bL_CenturyText, bL_Seen, bL_Joiner, bL_Life, bL_State, bL_Tray]) rfl (bl_96 w))))))))
theorem bl_97 (w : kx_W) : (blk_State w (0 + 95))[2]? = some (kE w 97) := rfl
theorem bE97 {w : kx_W} : bE w 97 := bE_of (bx_al (A := blk_KT w 0) (bx_co (j := 96) rfl (bx_co (j := 95) rfl (bx_co (j := 94) rfl (bx_co (j := 93) rfl (bx_al (bx_ap (n := 91) (j := 2) (by simp only [List.length_append, List.length_cons, List.length_nil, bL_TreatyText, bL_CenturyText, bL_Seen, bL_Joiner, bL_Life, bL_State, bL_Tray]) rfl (bl_97 w))))))))
theorem bl_98 (w : kx_W) : (blk_State w (0 + 95))[3]? = some (kE w 98) := rfl
theorem bE98 {w : kx_W} : bE w 98 := bE_of (bx_al (A := blk_KT w 0) (bx_co (j := 97) rfl (bx_co (j := 96) rfl (bx_co (j := 95) rfl (bx_co (j := 94) rfl (bx_al (bx_ap (n := 91) (j := 3) (by simp only [List.length_append, List.length_cons, List.length_nil, bL_TreatyText, bL_CenturyText, bL_Seen, bL_Joiner, bL_Life, bL_State, bL_Tray]) rfl (bl_98 w))))))))
theorem bl_99 (w : kx_W) : (blk_State w (0 + 95))[4]? = some (kE w 99) := rfl
theorem bE99 {w : kx_W} : bE w 99 := bE_of (bx_al (A := blk_KT w 0) (bx_co (j := 98) rfl (bx_co (j := 97) rfl (bx_co (j := 96) rfl (bx_co (j := 95) rfl (bx_al (bx_ap (n := 91) (j := 4) (by simp only [List.length_append, List.length_cons, List.length_nil, bL_TreatyText, bL_CenturyText, bL_Seen, bL_Joiner, bL_Life, bL_State, bL_Tray]) rfl (bl_99 w))))))))
theorem bl_100 (w : kx_W) : (blk_State w (0 + 95))[5]? = some (kE w 100) := rfl
theorem bE100 {w : kx_W} : bE w 100 := bE_of (bx_al (A := blk_KT w 0) (bx_co (j := 99) rfl (bx_co (j := 98) rfl (bx_co (j := 97) rfl (bx_co (j := 96) rfl (bx_al (bx_ap (n := 91) (j := 5) (by simp only [List.length_append, List.length_cons, List.length_nil, bL_TreatyText, bL_CenturyText, bL_Seen, bL_Joiner, bL_Life, bL_State, bL_Tray]) rfl (bl_100 w))))))))
theorem bl_101 (w : kx_W) : (blk_State w (0 + 95))[6]? = some (kE w 101) := rfl
theorem bE101 {w : kx_W} : bE w 101 := bE_of (bx_al (A := blk_KT w 0) (bx_co (j := 100) rfl (bx_co (j := 99) rfl (bx_co (j := 98) rfl (bx_co (j := 97) rfl (bx_al (bx_ap (n := 91) (j := 6) (by simp only [List.length_append, List.length_cons, List.length_nil, bL_TreatyText, bL_CenturyText, bL_Seen, bL_Joiner, bL_Life, bL_State, bL_Tray]) rfl (bl_101 w))))))))
theorem bl_102 (w : kx_W) : (blk_State w (0 + 95))[7]? = some (kE w 102) := rfl
theorem bE102 {w : kx_W} : bE w 102 := bE_of (bx_al (A := blk_KT w 0) (bx_co (j := 101) rfl (bx_co (j := 100) rfl (bx_co (j := 99) rfl (bx_co (j := 98) rfl (bx_al (bx_ap (n := 91) (j := 7) (by simp only [List.length_append, List.length_cons, List.length_nil, bL_TreatyText, bL_CenturyText, bL_Seen, bL_Joiner, bL_Life, bL_State, bL_Tray]) rfl (bl_102 w))))))))
theorem bl_103 (w : kx_W) : (blk_State w (0 + 95))[8]? = some (kE w 103) := rfl
theorem bE103 {w : kx_W} : bE w 103 := bE_of (bx_al (A := blk_KT w 0) (bx_co (j := 102) rfl (bx_co (j := 101) rfl (bx_co (j := 100) rfl (bx_co (j := 99) rfl (bx_al (bx_ap (n := 91) (j := 8) (by simp only [List.length_append, List.length_cons, List.length_nil, bL_TreatyText, bL_CenturyText, bL_Seen, bL_Joiner, bL_Life, bL_State, bL_Tray]) rfl (bl_103 w))))))))
theorem bl_104 (w : kx_W) : (blk_State w (0 + 95))[9]? = some (kE w 104) := rfl
theorem bE104 {w : kx_W} : bE w 104 := bE_of (bx_al (A := blk_KT w 0) (bx_co (j := 103) rfl (bx_co (j := 102) rfl (bx_co (j := 101) rfl (bx_co (j := 100) rfl (bx_al (bx_ap (n := 91) (j := 9) (by simp only [List.length_append, List.length_cons, List.length_nil, bL_TreatyText, bL_CenturyText, bL_Seen, bL_Joiner, bL_Life, bL_State, bL_Tray]) rfl (bl_104 w))))))))
theorem bl_105 (w : kx_W) : (blk_State w (0 + 95))[10]? = some (kE w 105) := rfl
theorem bE105 {w : kx_W} : bE w 105 := bE_of (bx_al (A := blk_KT w 0) (bx_co (j := 104) rfl (bx_co (j := 103) rfl (bx_co (j := 102) rfl (bx_co (j := 101) rfl (bx_al (bx_ap (n := 91) (j := 10) (by simp only [List.length_append, List.length_cons, List.length_nil, bL_TreatyText, bL_CenturyText, bL_Seen, bL_Joiner, bL_Life, bL_State, bL_Tray]) rfl (bl_105 w))))))))
theorem bl_106 (w : kx_W) : (blk_State w (0 + 95))[11]? = some (kE w 106) := rfl
theorem bE106 {w : kx_W} : bE w 106 := bE_of (bx_al (A := blk_KT w 0) (bx_co (j := 105) rfl (bx_co (j := 104) rfl (bx_co (j := 103) rfl (bx_co (j := 102) rfl (bx_al (bx_ap (n := 91) (j := 11) (by simp only [List.length_append, List.length_cons, List.length_nil, bL_TreatyText, bL_CenturyText, bL_Seen, bL_Joiner, bL_Life, bL_State, bL_Tray]) rfl (bl_106 w))))))))
theorem bl_107 (w : kx_W) : (blk_State w (0 + 95))[12]? = some (kE w 107) := rfl
theorem bE107 {w : kx_W} : bE w 107 := bE_of (bx_al (A := blk_KT w 0) (bx_co (j := 106) rfl (bx_co (j := 105) rfl (bx_co (j := 104) rfl (bx_co (j := 103) rfl (bx_al (bx_ap (n := 91) (j := 12) (by simp only [List.length_append, List.length_cons, List.length_nil, bL_TreatyText, bL_CenturyText, bL_Seen, bL_Joiner, bL_Life, bL_State, bL_Tray]) rfl (bl_107 w))))))))
theorem bl_108 (w : kx_W) : (blk_State w (0 + 95))[13]? = some (kE w 108) := rfl
theorem bE108 {w : kx_W} : bE w 108 := bE_of (bx_al (A := blk_KT w 0) (bx_co (j := 107) rfl (bx_co (j := 106) rfl (bx_co (j := 105) rfl (bx_co (j := 104) rfl (bx_al (bx_ap (n := 91) (j := 13) (by simp only [List.length_append, List.length_cons, List.length_nil, bL_TreatyText, bL_CenturyText, bL_Seen, bL_Joiner, bL_Life, bL_State, bL_Tray]) rfl (bl_108 w))))))))
theorem bl_109 (w : kx_W) : (blk_State w (0 + 95))[14]? = some (kE w 109) := rfl
theorem bE109 {w : kx_W} : bE w 109 := bE_of (bx_al (A := blk_KT w 0) (bx_co (j := 108) rfl (bx_co (j := 107) rfl (bx_co (j := 106) rfl (bx_co (j := 105) rfl (bx_al (bx_ap (n := 91) (j := 14) (by simp only [List.length_append, List.length_cons, List.length_nil, bL_TreatyText, bL_CenturyText, bL_Seen, bL_Joiner, bL_Life, bL_State, bL_Tray]) rfl (bl_109 w))))))))
theorem bl_110 (w : kx_W) : (blk_State w (0 + 95))[15]? = some (kE w 110) := rfl
theorem bE110 {w : kx_W} : bE w 110 := bE_of (bx_al (A := blk_KT w 0) (bx_co (j := 109) rfl (bx_co (j := 108) rfl (bx_co (j := 107) rfl (bx_co (j := 106) rfl (bx_al (bx_ap (n := 91) (j := 15) (by simp only [List.length_append, List.length_cons, List.length_nil, bL_TreatyText, bL_CenturyText, bL_Seen, bL_Joiner, bL_Life, bL_State, bL_Tray]) rfl (bl_110 w))))))))
theorem bl_111 (w : kx_W) : (blk_State w (0 + 95))[16]? = some (kE w 111) := rfl
theorem bE111 {w : kx_W} : bE w 111 := bE_of (bx_al (A := blk_KT w 0) (bx_co (j := 110) rfl (bx_co (j := 109) rfl (bx_co (j := 108) rfl (bx_co (j := 107) rfl (bx_al (bx_ap (n := 91) (j := 16) (by simp only [List.length_append, List.length_cons, List.length_nil, bL_TreatyText, bL_CenturyText, bL_Seen, bL_Joiner, bL_Life, bL_State, bL_Tray]) rfl (bl_111 w))))))))
theorem bl_112 (w : kx_W) : (blk_State w (0 + 95))[17]? = some (kE w 112) := rfl
theorem bE112 {w : kx_W} : bE w 112 := bE_of (bx_al (A := blk_KT w 0) (bx_co (j := 111) rfl (bx_co (j := 110) rfl (bx_co (j := 109) rfl (bx_co (j := 108) rfl (bx_al (bx_ap (n := 91) (j := 17) (by simp only [List.length_append, List.length_cons, List.length_nil, bL_TreatyText, bL_CenturyText, bL_Seen, bL_Joiner, bL_Life, bL_State, bL_Tray]) rfl (bl_112 w))))))))
theorem bl_113 (w : kx_W) : (blk_State w (0 + 95))[18]? = some (kE w 113) := rfl
theorem bE113 {w : kx_W} : bE w 113 := bE_of (bx_al (A := blk_KT w 0) (bx_co (j := 112) rfl (bx_co (j := 111) rfl (bx_co (j := 110) rfl (bx_co (j := 109) rfl (bx_al (bx_ap (n := 91) (j := 18) (by simp only [List.length_append, List.length_cons, List.length_nil, bL_TreatyText, bL_CenturyText, bL_Seen, bL_Joiner, bL_Life, bL_State, bL_Tray]) rfl (bl_113 w))))))))
theorem bl_114 (w : kx_W) : (blk_State w (0 + 95))[19]? = some (kE w 114) := rfl
theorem bE114 {w : kx_W} : bE w 114 := bE_of (bx_al (A := blk_KT w 0) (bx_co (j := 113) rfl (bx_co (j := 112) rfl (bx_co (j := 111) rfl (bx_co (j := 110) rfl (bx_al (bx_ap (n := 91) (j := 19) (by simp only [List.length_append, List.length_cons, List.length_nil, bL_TreatyText, bL_CenturyText, bL_Seen, bL_Joiner, bL_Life, bL_State, bL_Tray]) rfl (bl_114 w))))))))
theorem bl_115 (w : kx_W) : (blk_State w (0 + 115))[0]? = some (kE w 115) := rfl
theorem bE115 {w : kx_W} : bE w 115 := bE_of (bx_al (A := blk_KT w 0) (bx_co (j := 114) rfl (bx_co (j := 113) rfl (bx_co (j := 112) rfl (bx_co (j := 111) rfl (bx_ap (n := 111) (j := 0) (by simp only [List.length_append, List.length_cons, List.length_nil, bL_TreatyText, bL_CenturyText, bL_Seen, bL_Joiner, bL_Life, bL_State, bL_Tray]) rfl (bl_115 w)))))))
theorem bl_116 (w : kx_W) : (blk_State w (0 + 115))[1]? = some (kE w 116) := rfl
theorem bE116 {w : kx_W} : bE w 116 := bE_of (bx_al (A := blk_KT w 0) (bx_co (j := 115) rfl (bx_co (j := 114) rfl (bx_co (j := 113) rfl (bx_co (j := 112) rfl (bx_ap (n := 111) (j := 1) (by simp only [List.length_append, List.length_cons, List.length_nil, bL_TreatyText, bL_CenturyText, bL_Seen, bL_Joiner, bL_Life, bL_State, bL_Tray]) rfl (bl_116 w)))))))
theorem bl_117 (w : kx_W) : (blk_State w (0 + 115))[2]? = some (kE w 117) := rfl
theorem bE117 {w : kx_W} : bE w 117 := bE_of (bx_al (A := blk_KT w 0) (bx_co (j := 116) rfl (bx_co (j := 115) rfl (bx_co (j := 114) rfl (bx_co (j := 113) rfl (bx_ap (n := 111) (j := 2) (by simp only [List.length_append, List.length_cons, List.length_nil, bL_TreatyText, bL_CenturyText, bL_Seen, bL_Joiner, bL_Life, bL_State, bL_Tray]) rfl (bl_117 w)))))))
theorem bl_118 (w : kx_W) : (blk_State w (0 + 115))[3]? = some (kE w 118) := rfl
theorem bE118 {w : kx_W} : bE w 118 := bE_of (bx_al (A := blk_KT w 0) (bx_co (j := 117) rfl (bx_co (j := 116) rfl (bx_co (j := 115) rfl (bx_co (j := 114) rfl (bx_ap (n := 111) (j := 3) (by simp only [List.length_append, List.length_cons, List.length_nil, bL_TreatyText, bL_CenturyText, bL_Seen, bL_Joiner, bL_Life, bL_State, bL_Tray]) rfl (bl_118 w)))))))
theorem bl_119 (w : kx_W) : (blk_State w (0 + 115))[4]? = some (kE w 119) := rfl
theorem bE119 {w : kx_W} : bE w 119 := bE_of (bx_al (A := blk_KT w 0) (bx_co (j := 118) rfl (bx_co (j := 117) rfl (bx_co (j := 116) rfl (bx_co (j := 115) rfl (bx_ap (n := 111) (j := 4) (by simp only [List.length_append, List.length_cons, List.length_nil, bL_TreatyText, bL_CenturyText, bL_Seen, bL_Joiner, bL_Life, bL_State, bL_Tray]) rfl (bl_119 w)))))))
theorem bl_120 (w : kx_W) : (blk_State w (0 + 115))[5]? = some (kE w 120) := rfl
theorem bE120 {w : kx_W} : bE w 120 := bE_of (bx_al (A := blk_KT w 0) (bx_co (j := 119) rfl (bx_co (j := 118) rfl (bx_co (j := 117) rfl (bx_co (j := 116) rfl (bx_ap (n := 111) (j := 5) (by simp only [List.length_append, List.length_cons, List.length_nil, bL_TreatyText, bL_CenturyText, bL_Seen, bL_Joiner, bL_Life, bL_State, bL_Tray]) rfl (bl_120 w)))))))
theorem bl_121 (w : kx_W) : (blk_State w (0 + 115))[6]? = some (kE w 121) := rfl
theorem bE121 {w : kx_W} : bE w 121 := bE_of (bx_al (A := blk_KT w 0) (bx_co (j := 120) rfl (bx_co (j := 119) rfl (bx_co (j := 118) rfl (bx_co (j := 117) rfl (bx_ap (n := 111) (j := 6) (by simp only [List.length_append, List.length_cons, List.length_nil, bL_TreatyText, bL_CenturyText, bL_Seen, bL_Joiner, bL_Life, bL_State, bL_Tray]) rfl (bl_121 w)))))))
theorem bl_122 (w : kx_W) : (blk_State w (0 + 115))[7]? = some (kE w 122) := rfl
theorem bE122 {w : kx_W} : bE w 122 := bE_of (bx_al (A := blk_KT w 0) (bx_co (j := 121) rfl (bx_co (j := 120) rfl (bx_co (j := 119) rfl (bx_co (j := 118) rfl (bx_ap (n := 111) (j := 7) (by simp only [List.length_append, List.length_cons, List.length_nil, bL_TreatyText, bL_CenturyText, bL_Seen, bL_Joiner, bL_Life, bL_State, bL_Tray]) rfl (bl_122 w)))))))
theorem bl_123 (w : kx_W) : (blk_State w (0 + 115))[8]? = some (kE w 123) := rfl
theorem bE123 {w : kx_W} : bE w 123 := bE_of (bx_al (A := blk_KT w 0) (bx_co (j := 122) rfl (bx_co (j := 121) rfl (bx_co (j := 120) rfl (bx_co (j := 119) rfl (bx_ap (n := 111) (j := 8) (by simp only [List.length_append, List.length_cons, List.length_nil, bL_TreatyText, bL_CenturyText, bL_Seen, bL_Joiner, bL_Life, bL_State, bL_Tray]) rfl (bl_123 w)))))))
theorem bl_124 (w : kx_W) : (blk_State w (0 + 115))[9]? = some (kE w 124) := rfl
theorem bE124 {w : kx_W} : bE w 124 := bE_of (bx_al (A := blk_KT w 0) (bx_co (j := 123) rfl (bx_co (j := 122) rfl (bx_co (j := 121) rfl (bx_co (j := 120) rfl (bx_ap (n := 111) (j := 9) (by simp only [List.length_append, List.length_cons, List.length_nil, bL_TreatyText, bL_CenturyText, bL_Seen, bL_Joiner, bL_Life, bL_State, bL_Tray]) rfl (bl_124 w)))))))
theorem bl_125 (w : kx_W) : (blk_State w (0 + 115))[10]? = some (kE w 125) := rfl
theorem bE125 {w : kx_W} : bE w 125 := bE_of (bx_al (A := blk_KT w 0) (bx_co (j := 124) rfl (bx_co (j := 123) rfl (bx_co (j := 122) rfl (bx_co (j := 121) rfl (bx_ap (n := 111) (j := 10) (by simp only [List.length_append, List.length_cons, List.length_nil, bL_TreatyText, bL_CenturyText, bL_Seen, bL_Joiner, bL_Life, bL_State, bL_Tray]) rfl (bl_125 w)))))))
theorem bl_126 (w : kx_W) : (blk_State w (0 + 115))[11]? = some (kE w 126) := rfl
theorem bE126 {w : kx_W} : bE w 126 := bE_of (bx_al (A := blk_KT w 0) (bx_co (j := 125) rfl (bx_co (j := 124) rfl (bx_co (j := 123) rfl (bx_co (j := 122) rfl (bx_ap (n := 111) (j := 11) (by simp only [List.length_append, List.length_cons, List.length_nil, bL_TreatyText, bL_CenturyText, bL_Seen, bL_Joiner, bL_Life, bL_State, bL_Tray]) rfl (bl_126 w)))))))
theorem bl_127 (w : kx_W) : (blk_State w (0 + 115))[12]? = some (kE w 127) := rfl
theorem bE127 {w : kx_W} : bE w 127 := bE_of (bx_al (A := blk_KT w 0) (bx_co (j := 126) rfl (bx_co (j := 125) rfl (bx_co (j := 124) rfl (bx_co (j := 123) rfl (bx_ap (n := 111) (j := 12) (by simp only [List.length_append, List.length_cons, List.length_nil, bL_TreatyText, bL_CenturyText, bL_Seen, bL_Joiner, bL_Life, bL_State, bL_Tray]) rfl (bl_127 w)))))))
theorem bl_128 (w : kx_W) : (blk_State w (0 + 115))[13]? = some (kE w 128) := rfl
theorem bE128 {w : kx_W} : bE w 128 := bE_of (bx_al (A := blk_KT w 0) (bx_co (j := 127) rfl (bx_co (j := 126) rfl (bx_co (j := 125) rfl (bx_co (j := 124) rfl (bx_ap (n := 111) (j := 13) (by simp only [List.length_append, List.length_cons, List.length_nil, bL_TreatyText, bL_CenturyText, bL_Seen, bL_Joiner, bL_Life, bL_State, bL_Tray]) rfl (bl_128 w)))))))
theorem bl_129 (w : kx_W) : (blk_State w (0 + 115))[14]? = some (kE w 129) := rfl
theorem bE129 {w : kx_W} : bE w 129 := bE_of (bx_al (A := blk_KT w 0) (bx_co (j := 128) rfl (bx_co (j := 127) rfl (bx_co (j := 126) rfl (bx_co (j := 125) rfl (bx_ap (n := 111) (j := 14) (by simp only [List.length_append, List.length_cons, List.length_nil, bL_TreatyText, bL_CenturyText, bL_Seen, bL_Joiner, bL_Life, bL_State, bL_Tray]) rfl (bl_129 w)))))))
theorem bl_130 (w : kx_W) : (blk_State w (0 + 115))[15]? = some (kE w 130) := rfl
theorem bE130 {w : kx_W} : bE w 130 := bE_of (bx_al (A := blk_KT w 0) (bx_co (j := 129) rfl (bx_co (j := 128) rfl (bx_co (j := 127) rfl (bx_co (j := 126) rfl (bx_ap (n := 111) (j := 15) (by simp only [List.length_append, List.length_cons, List.length_nil, bL_TreatyText, bL_CenturyText, bL_Seen, bL_Joiner, bL_Life, bL_State, bL_Tray]) rfl (bl_130 w)))))))
theorem bl_131 (w : kx_W) : (blk_State w (0 + 115))[16]? = some (kE w 131) := rfl
theorem bE131 {w : kx_W} : bE w 131 := bE_of (bx_al (A := blk_KT w 0) (bx_co (j := 130) rfl (bx_co (j := 129) rfl (bx_co (j := 128) rfl (bx_co (j := 127) rfl (bx_ap (n := 111) (j := 16) (by simp only [List.length_append, List.length_cons, List.length_nil, bL_TreatyText, bL_CenturyText, bL_Seen, bL_Joiner, bL_Life, bL_State, bL_Tray]) rfl (bl_131 w)))))))
theorem bl_132 (w : kx_W) : (blk_State w (0 + 115))[17]? = some (kE w 132) := rfl
theorem bE132 {w : kx_W} : bE w 132 := bE_of (bx_al (A := blk_KT w 0) (bx_co (j := 131) rfl (bx_co (j := 130) rfl (bx_co (j := 129) rfl (bx_co (j := 128) rfl (bx_ap (n := 111) (j := 17) (by simp only [List.length_append, List.length_cons, List.length_nil, bL_TreatyText, bL_CenturyText, bL_Seen, bL_Joiner, bL_Life, bL_State, bL_Tray]) rfl (bl_132 w)))))))
theorem bl_133 (w : kx_W) : (blk_State w (0 + 115))[18]? = some (kE w 133) := rfl
theorem bE133 {w : kx_W} : bE w 133 := bE_of (bx_al (A := blk_KT w 0) (bx_co (j := 132) rfl (bx_co (j := 131) rfl (bx_co (j := 130) rfl (bx_co (j := 129) rfl (bx_ap (n := 111) (j := 18) (by simp only [List.length_append, List.length_cons, List.length_nil, bL_TreatyText, bL_CenturyText, bL_Seen, bL_Joiner, bL_Life, bL_State, bL_Tray]) rfl (bl_133 w)))))))
theorem bl_134 (w : kx_W) : (blk_State w (0 + 115))[19]? = some (kE w 134) := rfl
theorem bE134 {w : kx_W} : bE w 134 := bE_of (bx_al (A := blk_KT w 0) (bx_co (j := 133) rfl (bx_co (j := 132) rfl (bx_co (j := 131) rfl (bx_co (j := 130) rfl (bx_ap (n := 111) (j := 19) (by simp only [List.length_append, List.length_cons, List.length_nil, bL_TreatyText, bL_CenturyText, bL_Seen, bL_Joiner, bL_Life, bL_State, bL_Tray]) rfl (bl_134 w)))))))
theorem bl_135 (w : kx_W) : (blk_LA w)[0]? = some (kE w 135) := rfl
theorem bE135 {w : kx_W} : bE w 135 := bE_of (bx_ap (j := 0) (bL_KT0 w) rfl (bl_135 w))
theorem bl_136 (w : kx_W) : (blk_LA w)[1]? = some (kE w 136) := rfl
theorem bE136 {w : kx_W} : bE w 136 := bE_of (bx_ap (j := 1) (bL_KT0 w) rfl (bl_136 w))
theorem bEl_10 {w : kx_W} : ∀ k, k < 10 → bE w k := bE_S (bE_S (bE_S (bE_S (bE_S (bE_S (bE_S (bE_S (bE_S (bE_S (bE_0) bE0) bE1) bE2) bE3) bE4) bE5) bE6) bE7) bE8) bE9
theorem bEl_20 {w : kx_W} : ∀ k, k < 20 → bE w k := bE_S (bE_S (bE_S (bE_S (bE_S (bE_S (bE_S (bE_S (bE_S (bE_S (bEl_10) bE10) bE11) bE12) bE13) bE14) bE15) bE16) bE17) bE18) bE19
theorem bEl_30 {w : kx_W} : ∀ k, k < 30 → bE w k := bE_S (bE_S (bE_S (bE_S (bE_S (bE_S (bE_S (bE_S (bE_S (bE_S (bEl_20) bE20) bE21) bE22) bE23) bE24) bE25) bE26) bE27) bE28) bE29
theorem bEl_40 {w : kx_W} : ∀ k, k < 40 → bE w k := bE_S (bE_S (bE_S (bE_S (bE_S (bE_S (bE_S (bE_S (bE_S (bE_S (bEl_30) bE30) bE31) bE32) bE33) bE34) bE35) bE36) bE37) bE38) bE39
theorem bEl_50 {w : kx_W} : ∀ k, k < 50 → bE w k := bE_S (bE_S (bE_S (bE_S (bE_S (bE_S (bE_S (bE_S (bE_S (bE_S (bEl_40) bE40) bE41) bE42) bE43) bE44) bE45) bE46) bE47) bE48) bE49
theorem bEl_60 {w : kx_W} : ∀ k, k < 60 → bE w k := bE_S (bE_S (bE_S (bE_S (bE_S (bE_S (bE_S (bE_S (bE_S (bE_S (bEl_50) bE50) bE51) bE52) bE53) bE54) bE55) bE56) bE57) bE58) bE59
theorem bEl_70 {w : kx_W} : ∀ k, k < 70 → bE w k := bE_S (bE_S (bE_S (bE_S (bE_S (bE_S (bE_S (bE_S (bE_S (bE_S (bEl_60) bE60) bE61) bE62) bE63) bE64) bE65) bE66) bE67) bE68) bE69
theorem bEl_80 {w : kx_W} : ∀ k, k < 80 → bE w k := bE_S (bE_S (bE_S (bE_S (bE_S (bE_S (bE_S (bE_S (bE_S (bE_S (bEl_70) bE70) bE71) bE72) bE73) bE74) bE75) bE76) bE77) bE78) bE79
theorem bEl_90 {w : kx_W} : ∀ k, k < 90 → bE w k := bE_S (bE_S (bE_S (bE_S (bE_S (bE_S (bE_S (bE_S (bE_S (bE_S (bEl_80) bE80) bE81) bE82) bE83) bE84) bE85) bE86) bE87) bE88) bE89
theorem bEl_100 {w : kx_W} : ∀ k, k < 100 → bE w k := bE_S (bE_S (bE_S (bE_S (bE_S (bE_S (bE_S (bE_S (bE_S (bE_S (bEl_90) bE90) bE91) bE92) bE93) bE94) bE95) bE96) bE97) bE98) bE99
theorem bEl_110 {w : kx_W} : ∀ k, k < 110 → bE w k := bE_S (bE_S (bE_S (bE_S (bE_S (bE_S (bE_S (bE_S (bE_S (bE_S (bEl_100) bE100) bE101) bE102) bE103) bE104) bE105) bE106) bE107) bE108) bE109
theorem bEl_120 {w : kx_W} : ∀ k, k < 120 → bE w k := bE_S (bE_S (bE_S (bE_S (bE_S (bE_S (bE_S (bE_S (bE_S (bE_S (bEl_110) bE110) bE111) bE112) bE113) bE114) bE115) bE116) bE117) bE118) bE119
theorem bEl_130 {w : kx_W} : ∀ k, k < 130 → bE w k := bE_S (bE_S (bE_S (bE_S (bE_S (bE_S (bE_S (bE_S (bE_S (bE_S (bEl_120) bE120) bE121) bE122) bE123) bE124) bE125) bE126) bE127) bE128) bE129
theorem bEl_137 {w : kx_W} : ∀ k, k < 137 → bE w k := bE_S (bE_S (bE_S (bE_S (bE_S (bE_S (bE_S (bEl_130) bE130) bE131) bE132) bE133) bE134) bE135) bE136
theorem bx_fin {w : kx_W} {D : va_G} {H : Heap} (hP : va_P D kx_cl (bx_ws w (blk_KT w 0 ++ blk_LA w)) H) : va_P D kx_cl (kx_ws w M0) H := by
  intro k q hq
  have hk : k < 137 := by
    have := (List.getElem?_eq_some_iff.mp hq).1
    unfold kx_ws at this
    rw [List.length_map, List.length_range] at this
    exact this
  obtain ⟨e, h1, h2⟩ := bEl_137 (w := w) k hk
  have h3 := hP k _ (bx_at h1)
  have h4 : (kx_ws w M0)[k]? = some (w.2.2.2.1 + k, kx_en w M0 k (kx_lay.getD k (0, 0, []))) := by
    unfold kx_ws
    rw [List.getElem?_map, List.getElem?_range (show k < kx_n from hk)]
    rfl
  rw [h4] at hq
  cases hq
  exact h2 D H h3
