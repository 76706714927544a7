/-! ## the law's own bytes -/
theorem lwd_S {P : Nat × Instr × Nat → Prop} {l : List (Nat × Instr × Nat)} (n : Nat) {a : Nat} (h : ∀ q ∈ (l.drop a).take n, P q) (h1 : ∀ q ∈ l.drop (a + n), P q) : ∀ q ∈ l.drop a, P q := by
  intro q hq
  rw [← List.take_append_drop n (l.drop a)] at hq
  rcases List.mem_append.mp hq with g | g
  · exact h q g
  · rw [List.drop_drop] at g
    exact h1 q g
set_option maxRecDepth 20000 in
theorem lwd_0 : ∀ q ∈ (m_LW_law.2.2.2.2.drop 0).take 45, decode code q.1 = .ok (q.2.1, q.2.2) := by decide +kernel
set_option maxRecDepth 20000 in
theorem lwd_1 : ∀ q ∈ (m_LW_law.2.2.2.2.drop 45).take 45, decode code q.1 = .ok (q.2.1, q.2.2) := by decide +kernel
set_option maxRecDepth 20000 in
theorem lwd_2 : ∀ q ∈ (m_LW_law.2.2.2.2.drop 90).take 45, decode code q.1 = .ok (q.2.1, q.2.2) := by decide +kernel
set_option maxRecDepth 20000 in
theorem lwd_3 : ∀ q ∈ (m_LW_law.2.2.2.2.drop 135).take 45, decode code q.1 = .ok (q.2.1, q.2.2) := by decide +kernel
set_option maxRecDepth 20000 in
theorem lwd_4 : ∀ q ∈ (m_LW_law.2.2.2.2.drop 180).take 45, decode code q.1 = .ok (q.2.1, q.2.2) := by decide +kernel
set_option maxRecDepth 20000 in
theorem lwd_5 : ∀ q ∈ (m_LW_law.2.2.2.2.drop 225).take 45, decode code q.1 = .ok (q.2.1, q.2.2) := by decide +kernel
set_option maxRecDepth 20000 in
theorem lwd_6 : ∀ q ∈ (m_LW_law.2.2.2.2.drop 270).take 45, decode code q.1 = .ok (q.2.1, q.2.2) := by decide +kernel
set_option maxRecDepth 20000 in
theorem lwd_7 : ∀ q ∈ (m_LW_law.2.2.2.2.drop 315).take 45, decode code q.1 = .ok (q.2.1, q.2.2) := by decide +kernel
set_option maxRecDepth 20000 in
theorem lwd_8 : ∀ q ∈ (m_LW_law.2.2.2.2.drop 360).take 45, decode code q.1 = .ok (q.2.1, q.2.2) := by decide +kernel
set_option maxRecDepth 20000 in
theorem lwd_9 : ∀ q ∈ (m_LW_law.2.2.2.2.drop 405).take 45, decode code q.1 = .ok (q.2.1, q.2.2) := by decide +kernel
set_option maxRecDepth 20000 in
theorem lwd_10 : ∀ q ∈ (m_LW_law.2.2.2.2.drop 450).take 45, decode code q.1 = .ok (q.2.1, q.2.2) := by decide +kernel
set_option maxRecDepth 20000 in
theorem lwd_11 : ∀ q ∈ (m_LW_law.2.2.2.2.drop 495).take 45, decode code q.1 = .ok (q.2.1, q.2.2) := by decide +kernel
set_option maxRecDepth 20000 in
theorem lwd_12 : ∀ q ∈ (m_LW_law.2.2.2.2.drop 540).take 45, decode code q.1 = .ok (q.2.1, q.2.2) := by decide +kernel
set_option maxRecDepth 20000 in
theorem lwd_13 : ∀ q ∈ (m_LW_law.2.2.2.2.drop 585).take 45, decode code q.1 = .ok (q.2.1, q.2.2) := by decide +kernel
set_option maxRecDepth 20000 in
theorem lwd_14 : ∀ q ∈ (m_LW_law.2.2.2.2.drop 630).take 45, decode code q.1 = .ok (q.2.1, q.2.2) := by decide +kernel
set_option maxRecDepth 20000 in
theorem lwd_15 : ∀ q ∈ (m_LW_law.2.2.2.2.drop 675).take 45, decode code q.1 = .ok (q.2.1, q.2.2) := by decide +kernel
set_option maxRecDepth 20000 in
theorem lwd_16 : ∀ q ∈ (m_LW_law.2.2.2.2.drop 720).take 45, decode code q.1 = .ok (q.2.1, q.2.2) := by decide +kernel
set_option maxRecDepth 20000 in
theorem lwd_17 : ∀ q ∈ (m_LW_law.2.2.2.2.drop 765).take 45, decode code q.1 = .ok (q.2.1, q.2.2) := by decide +kernel
set_option maxRecDepth 20000 in
theorem lwd_18 : ∀ q ∈ (m_LW_law.2.2.2.2.drop 810).take 45, decode code q.1 = .ok (q.2.1, q.2.2) := by decide +kernel
set_option maxRecDepth 20000 in
theorem lwd_19 : ∀ q ∈ (m_LW_law.2.2.2.2.drop 855).take 45, decode code q.1 = .ok (q.2.1, q.2.2) := by decide +kernel
set_option maxRecDepth 20000 in
theorem lwd_e : ∀ q ∈ m_LW_law.2.2.2.2.drop 900, decode code q.1 = .ok (q.2.1, q.2.2) := by decide +kernel
theorem lwk_s : ∀ q ∈ m_LW_law.2.2.2.2, decode code q.1 = .ok (q.2.1, q.2.2) := lwd_S 45 lwd_0 (lwd_S 45 lwd_1 (lwd_S 45 lwd_2 (lwd_S 45 lwd_3 (lwd_S 45 lwd_4 (lwd_S 45 lwd_5 (lwd_S 45 lwd_6 (lwd_S 45 lwd_7 (lwd_S 45 lwd_8 (lwd_S 45 lwd_9 (lwd_S 45 lwd_10 (lwd_S 45 lwd_11 (lwd_S 45 lwd_12 (lwd_S 45 lwd_13 (lwd_S 45 lwd_14 (lwd_S 45 lwd_15 (lwd_S 45 lwd_16 (lwd_S 45 lwd_17 (lwd_S 45 lwd_18 (lwd_S 45 lwd_19 (lwd_e))))))))))))))))))))
