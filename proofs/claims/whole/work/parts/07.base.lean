theorem ac : (∀ (S : sT) (k : Nat) (x : Int32) (j : Nat), vI (uI S k x) j = if j = k then x else vI S j) ∧ (∀ (S : sT) (k : Nat) (x : Int64) (j : Nat), vI (uL S k x) j = vI S j) ∧ (∀ (S : sT) (k : Nat) (f : Nat → Int32) (j : Nat), vI (uA S k f) j = vI S j) ∧ (∀ (S : sT) (k : Nat) (f : Nat → Int64) (j : Nat), vI (uB S k f) j = vI S j) ∧ (∀ (S : sT) (k : Nat) (j : Nat), vI (uT S k) j = vI S j)
  ∧ (∀ (S : sT) (k : Nat) (x : Int32) (j : Nat), vL (uI S k x) j = vL S j) ∧ (∀ (S : sT) (k : Nat) (x : Int64) (j : Nat), vL (uL S k x) j = if j = k then x else vL S j) ∧ (∀ (S : sT) (k : Nat) (f : Nat → Int32) (j : Nat), vL (uA S k f) j = vL S j) ∧ (∀ (S : sT) (k : Nat) (f : Nat → Int64) (j : Nat), vL (uB S k f) j = vL S j) ∧ (∀ (S : sT) (k : Nat) (j : Nat), vL (uT S k) j = vL S j)
  ∧ (∀ (S : sT) (k : Nat) (x : Int32) (j : Nat), vA (uI S k x) j = vA S j) ∧ (∀ (S : sT) (k : Nat) (x : Int64) (j : Nat), vA (uL S k x) j = vA S j) ∧ (∀ (S : sT) (k : Nat) (f : Nat → Int32) (j : Nat), vA (uA S k f) j = if j = k then f else vA S j) ∧ (∀ (S : sT) (k : Nat) (f : Nat → Int64) (j : Nat), vA (uB S k f) j = vA S j) ∧ (∀ (S : sT) (k : Nat) (j : Nat), vA (uT S k) j = vA S j)
  ∧ (∀ (S : sT) (k : Nat) (x : Int32) (j : Nat), vB (uI S k x) j = vB S j) ∧ (∀ (S : sT) (k : Nat) (x : Int64) (j : Nat), vB (uL S k x) j = vB S j) ∧ (∀ (S : sT) (k : Nat) (f : Nat → Int32) (j : Nat), vB (uA S k f) j = vB S j) ∧ (∀ (S : sT) (k : Nat) (f : Nat → Int64) (j : Nat), vB (uB S k f) j = if j = k then f else vB S j) ∧ (∀ (S : sT) (k : Nat) (j : Nat), vB (uT S k) j = vB S j)
  ∧ (∀ (S : sT) (k : Nat) (x : Int32), vT (uI S k x) = vT S) ∧ (∀ (S : sT) (k : Nat) (x : Int64), vT (uL S k x) = vT S) ∧ (∀ (S : sT) (k : Nat) (f : Nat → Int32), vT (uA S k f) = vT S) ∧ (∀ (S : sT) (k : Nat) (f : Nat → Int64), vT (uB S k f) = vT S) ∧ (∀ (S : sT) (k : Nat), vT (uT S k) = k) :=
  ⟨fun _ _ _ _ => rfl, fun _ _ _ _ => rfl, fun _ _ _ _ => rfl, fun _ _ _ _ => rfl, fun _ _ _ => rfl, fun _ _ _ _ => rfl, fun _ _ _ _ => rfl, fun _ _ _ _ => rfl, fun _ _ _ _ => rfl, fun _ _ _ => rfl, fun _ _ _ _ => rfl, fun _ _ _ _ => rfl, fun _ _ _ _ => rfl, fun _ _ _ _ => rfl, fun _ _ _ => rfl, fun _ _ _ _ => rfl, fun _ _ _ _ => rfl, fun _ _ _ _ => rfl, fun _ _ _ _ => rfl, fun _ _ _ => rfl, fun _ _ _ => rfl, fun _ _ _ => rfl, fun _ _ _ => rfl, fun _ _ _ => rfl, fun _ _ => rfl⟩
theorem up : (∀ (f : Nat → Int32) (k : Nat) (x : Int32) (j : Nat), upd f k x j = if j = k then x else f j) ∧ (∀ (f : Nat → Int64) (k : Nat) (x : Int64) (j : Nat), vp_updL f k x j = if j = k then x else f j) := ⟨fun _ _ _ _ => rfl, fun _ _ _ _ => rfl⟩
theorem q_isBelow (a b : Int32) (S : sT) (Q : Int32 → sT → Prop) : wp_X4_isBelow a b S Q ↔ Q (if 0 ≤ a ∧ a < b then 1 else 0) S := by
  unfold wp_X4_isBelow
  grind
theorem t1 (x : Int32) (h : ¬ x < 0) (h2 : ¬ (40 : Int32) < x) : 0 ≤ x ∧ x ≤ 40 ∧ x.toInt ≤ 40 := by grind
theorem t2 (x y : Int32) (h : ¬ x < 0) (h2 : x < 6) (h3 : ¬ y ≤ x) (hy : y = 5) : x < 5 := by grind
theorem t3 (x : Int32) (n : Nat) (h : vp_in x 6) (hn : x = nI n) (h31 : n < 2^31) : n < 6 := by
  rw [hn] at h
  have := vp_lt h
  rw [nI_clamp h31] at this
  exact this
theorem t4 (i j : Nat) (hi : i < 60) (hj : j < 100) (h : nI i < nI j) : i < j := by
  simp (disch := omega) only [nI_ltI] at h
  exact h
theorem t5 (i j : Nat) (hi : i < 60) (hj : j < 100) (h : ¬ nI j ≤ nI i + 1) : i + 1 < j := by
  simp (disch := omega) only [nI_1, nI_leI] at h
  omega
theorem t6 (S : sT) (x : Int32) : vI (uA (uI S 13 x) 12 (upd (vA S 12) 3 5)) 13 = x := by simp only [ac]; decide
theorem t7 (S : sT) (x : Int32) : vI (uA (uI S 13 x) 12 (upd (vA S 12) 3 5)) 14 = vI S 14 := by simp [ac]
theorem lt6 (i : Nat) (h : i < 6) : nI i = nI 0 ∨ i ≠ 0 := by grind
