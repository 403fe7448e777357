/-! who would dream when -/
def drB (k s t : Nat) (B4 B5 B0 : Bool) : Bool := match k with
  | 1 => B5
  | 2 => B0
  | 3 => B4 && decide (20 ≤ t)
  | 4 => B5 || decide (30 ≤ t)
  | 5 => B0 && decide (s % 2 = 0)
  | _ => B4
def dr (k s t : Nat) : Bool := drB k s t (decide ((t + s) % 6 < 2)) (decide ((t + s) % 6 < 4)) (decide ((t + s) % 6 < 2) || decide ((t + s) % 5 = 0))
def b2 (b : Bool) : Int32 := if b then 1 else 0
theorem b2_0 (b : Bool) : b2 b = 0 ↔ b = false := by cases b <;> decide
theorem bo_b2 (b : Bool) : bo (b2 b) := by cases b <;> rfl
theorem rem6 {a : Nat} (ha : a < 2 ^ 31) (d : Nat) (h0 : 0 < d) (hd : d < 2 ^ 31) (x : Int32) (hx : x = nI d) : nI a - nI a / x * x = nI (a % d) := by
  rw [hx]
  exact pk_rem ha h0 hd
theorem ktab : (¬ nI 0 = 1 ∧ ¬ nI 0 = 2 ∧ ¬ nI 0 = 3 ∧ ¬ nI 0 = 4 ∧ ¬ nI 0 = 5) ∧ (¬ nI 1 = 2 ∧ ¬ nI 1 = 3 ∧ ¬ nI 1 = 4 ∧ ¬ nI 1 = 5) ∧ (¬ nI 2 = 1 ∧ ¬ nI 2 = 3 ∧ ¬ nI 2 = 4 ∧ ¬ nI 2 = 5) ∧ (¬ nI 3 = 1 ∧ ¬ nI 3 = 2 ∧ ¬ nI 3 = 4 ∧ ¬ nI 3 = 5) ∧ (¬ nI 4 = 1 ∧ ¬ nI 4 = 2 ∧ ¬ nI 4 = 3 ∧ ¬ nI 4 = 5) ∧ (¬ nI 5 = 1 ∧ ¬ nI 5 = 2 ∧ ¬ nI 5 = 3 ∧ ¬ nI 5 = 4) := by decide
theorem ktb2 : nI 1 = 1 ∧ nI 2 = 2 ∧ nI 3 = 3 ∧ nI 4 = 4 ∧ nI 5 = 5 := by decide
theorem q_w49 {k s t : Nat} (hk : k ≤ 5) (hs : s ≤ 9) (ht : t ≤ 1000) (B4 B5 B0 : Bool) (S : sT) (Q : Int32 → sT → Prop) (h : Q (b2 (drB k s t B4 B5 B0)) S) : wb_X4_wouldDream_49 Q (nI k) (nI s) (nI t) (b2 B4) (b2 B5) (b2 B0) S := by
  have h2 : s % 2 < 2 := Nat.mod_lt _ (by decide)
  have c4 : nI (s % 2) = 0 ↔ s % 2 = 0 := nI_eq (b := 0) (by omega) (by decide)
  have c5 : nI t < 20 ↔ ¬ 20 ≤ t := (nI_ltI (b := 20) (by omega) (by decide)).trans (by omega)
  have c6 : nI t < 30 ↔ ¬ 30 ≤ t := (nI_ltI (b := 30) (by omega) (by decide)).trans (by omega)
  unfold wb_X4_wouldDream_49
  rw [rem6 (by omega) 2 (by decide) (by decide) 2 rfl, c4, c5, c6]
  have e0 : b2 false = 0 := rfl
  have e1 : b2 true = 1 := rfl
  have n1 : ¬ (1 : Int32) = 0 := by decide
  unfold drB at h
  rcases (show k = 0 ∨ k = 1 ∨ k = 2 ∨ k = 3 ∨ k = 4 ∨ k = 5 by omega) with rfl | rfl | rfl | rfl | rfl | rfl
  · exact ⟨fun h9 => absurd h9 (by decide), fun h9 => absurd h9 (by decide), fun h9 => absurd h9 (by decide), fun h9 => absurd h9 (by decide), fun h9 => absurd h9 (by decide), fun _ _ _ _ _ => ⟨bo_b2 _, h⟩⟩
  · exact ⟨fun _ => ⟨bo_b2 _, h⟩, fun h9 => absurd h9 (by decide), fun h9 => absurd h9 (by decide), fun h9 => absurd h9 (by decide), fun h9 => absurd h9 (by decide), fun h9 => absurd rfl h9⟩
  · exact ⟨fun h9 => absurd h9 (by decide), fun _ => ⟨bo_b2 _, h⟩, fun h9 => absurd h9 (by decide), fun h9 => absurd h9 (by decide), fun h9 => absurd h9 (by decide), fun _ h9 => absurd rfl h9⟩
  · refine ⟨fun h9 => absurd h9 (by decide), fun h9 => absurd h9 (by decide), fun _ => ?_, fun h9 => absurd h9 (by decide), fun h9 => absurd h9 (by decide), fun _ _ h9 => absurd rfl h9⟩
    cases B4 <;> by_cases d : 20 ≤ t <;> simp [d, e0, e1, n1] at h ⊢ <;> exact h
  · refine ⟨fun h9 => absurd h9 (by decide), fun h9 => absurd h9 (by decide), fun h9 => absurd h9 (by decide), fun _ => ?_, fun h9 => absurd h9 (by decide), fun _ _ _ h9 => absurd rfl h9⟩
    cases B5 <;> by_cases d : 30 ≤ t <;> simp [d, e0, e1, n1] at h ⊢ <;> exact h
  · refine ⟨fun h9 => absurd h9 (by decide), fun h9 => absurd h9 (by decide), fun h9 => absurd h9 (by decide), fun h9 => absurd h9 (by decide), fun _ => ?_, fun _ _ _ _ h9 => absurd rfl h9⟩
    cases B0 <;> by_cases d : s % 2 = 0 <;> simp [d, e0, e1, n1] at h ⊢ <;> exact h
theorem q_would {k s t : Nat} (hk : k ≤ 5) (hs : s ≤ 9) (ht : t ≤ 1000) (S : sT) (Q : Int32 → sT → Prop) (h : Q (b2 (dr k s t)) S) : wp_X4_wouldDream (nI k) (nI s) (nI t) S Q := by
  have h6 : (t + s) % 6 < 6 := Nat.mod_lt _ (by decide)
  have h5 : (t + s) % 5 < 5 := Nat.mod_lt _ (by decide)
  have c1 : (1 : Int32) < nI ((t + s) % 6) ↔ ¬ (t + s) % 6 < 2 := (nI_ltI (a := 1) (by decide) (by omega)).trans (by omega)
  have c2 : (3 : Int32) < nI ((t + s) % 6) ↔ ¬ (t + s) % 6 < 4 := (nI_ltI (a := 3) (by decide) (by omega)).trans (by omega)
  have c3 : nI ((t + s) % 5) = 0 ↔ (t + s) % 5 = 0 := nI_eq (b := 0) (by omega) (by decide)
  have key : ∀ B4 B5 : Bool, B4 = decide ((t + s) % 6 < 2) → B5 = decide ((t + s) % 6 < 4) → wb_X4_wouldDream_29 Q (nI k) (nI s) (nI t) (b2 B4) (b2 B5) S := by
    intro B4 B5 e4 e5
    have fin : ∀ B0 : Bool, B0 = (decide ((t + s) % 6 < 2) || decide ((t + s) % 5 = 0)) → wb_X4_wouldDream_49 Q (nI k) (nI s) (nI t) (b2 B4) (b2 B5) (b2 B0) S := by
      intro B0 e0
      refine q_w49 hk hs ht B4 B5 B0 S Q ?_
      rw [e4, e5, e0]
      unfold dr at h
      exact h
    unfold wb_X4_wouldDream_29 wb_X4_wouldDream_44
    rw [nI_add, rem6 (by omega) 5 (by decide) (by decide) 5 rfl, c3, b2_0]
    refine ⟨fun h9 => fin true ?_, fun h9 => ⟨fun h8 => fin false ?_, fun h8 => fin true ?_⟩⟩
    · have : B4 = true := by cases B4 <;> simp_all
      rw [← e4, this]; rfl
    · rw [← e4, h9]; simp [h8]
    · simp [h8]
  unfold wp_X4_wouldDream wb_X4_wouldDream_17
  rw [nI_add, rem6 (by omega) 6 (by decide) (by decide) 6 rfl, c1, c2]
  refine ⟨fun h9 => ⟨fun h8 => key false false (by simp [h9]) (by simp [h8]), fun h8 => key false true (by simp [h9]) ?_⟩, fun h9 => ⟨fun h8 => key true false ?_ (by simp [h8]), fun h8 => key true true ?_ ?_⟩⟩
  · have : (t + s) % 6 < 4 := Classical.byContradiction h8
    simp [this]
  · have : (t + s) % 6 < 2 := Classical.byContradiction h9
    simp [this]
  · have : (t + s) % 6 < 2 := Classical.byContradiction h9
    simp [this]
  · have : (t + s) % 6 < 4 := Classical.byContradiction h8
    simp [this]
theorem q_dreamsBy {k s t : Nat} (hk : k ≤ 5) (hs : s ≤ 9) (ht : t ≤ 1000) (S : sT) (Q : Int32 → sT → Prop) (h : Q (b2 (dr k s t)) S) : wp_X5_dreamsBy (nI k) (nI s) (nI t) S Q := by
  have h6 : (t + s) % 6 < 6 := Nat.mod_lt _ (by decide)
  have h5 : (t + s) % 5 < 5 := Nat.mod_lt _ (by decide)
  have h2 : s % 2 < 2 := Nat.mod_lt _ (by decide)
  have c1 : nI ((t + s) % 6) < 2 ↔ (t + s) % 6 < 2 := nI_ltI (b := 2) (by omega) (by decide)
  have c1' : 2 ≤ nI ((t + s) % 6) ↔ ¬ (t + s) % 6 < 2 := (nI_leI (a := 2) (by decide) (by omega)).trans (by omega)
  have c2 : nI ((t + s) % 6) < 4 ↔ (t + s) % 6 < 4 := nI_ltI (b := 4) (by omega) (by decide)
  have c2' : 4 ≤ nI ((t + s) % 6) ↔ ¬ (t + s) % 6 < 4 := (nI_leI (a := 4) (by decide) (by omega)).trans (by omega)
  have c3 : nI ((t + s) % 5) = 0 ↔ (t + s) % 5 = 0 := nI_eq (b := 0) (by omega) (by decide)
  have c4 : nI (s % 2) = 0 ↔ s % 2 = 0 := nI_eq (b := 0) (by omega) (by decide)
  have c5 : nI t ≤ 19 ↔ ¬ 20 ≤ t := (nI_leI (b := 19) (by omega) (by decide)).trans (by omega)
  have c6 : nI t ≤ 29 ↔ ¬ 30 ≤ t := (nI_leI (b := 29) (by omega) (by decide)).trans (by omega)
  have e0 : b2 false = 0 := rfl
  have e1 : b2 true = 1 := rfl
  have n1 : ¬ (1 : Int32) = 0 := by decide
  have key : ∀ B : Bool, B = decide ((t + s) % 5 = 0) → wb_X5_dreamsBy_20 Q (nI k) (nI s) (nI t) (nI ((t + s) % 6)) (b2 B) S := by
    intro B eB
    unfold wb_X5_dreamsBy_20 wb_X5_dreamsBy_127
    rw [rem6 (by omega) 2 (by decide) (by decide) 2 rfl, c1, c1', c2, c2', c4, c5, c6]
    unfold dr drB at h
    rw [← eB] at h
    rcases (show k = 0 ∨ k = 1 ∨ k = 2 ∨ k = 3 ∨ k = 4 ∨ k = 5 by omega) with rfl | rfl | rfl | rfl | rfl | rfl
    · refine ⟨fun h9 => absurd h9 (by decide), fun h9 => absurd h9 (by decide), fun h9 => absurd h9 (by decide), fun h9 => absurd h9 (by decide), fun h9 => absurd h9 (by decide), fun _ _ _ _ _ => ?_⟩
      by_cases d : (t + s) % 6 < 2 <;> simp [d, e0, e1, n1] at h ⊢ <;> exact h
    · refine ⟨fun _ => ?_, fun h9 => absurd h9 (by decide), fun h9 => absurd h9 (by decide), fun h9 => absurd h9 (by decide), fun h9 => absurd h9 (by decide), fun h9 => absurd rfl h9⟩
      by_cases d : (t + s) % 6 < 4 <;> simp [d, e0, e1, n1] at h ⊢ <;> exact h
    · refine ⟨fun h9 => absurd h9 (by decide), fun _ => ?_, fun h9 => absurd h9 (by decide), fun h9 => absurd h9 (by decide), fun h9 => absurd h9 (by decide), fun _ h9 => absurd rfl h9⟩
      by_cases d : (t + s) % 6 < 2 <;> cases B <;> simp [d, e0, e1, n1] at h ⊢ <;> exact h
    · refine ⟨fun h9 => absurd h9 (by decide), fun h9 => absurd h9 (by decide), fun _ => ?_, fun h9 => absurd h9 (by decide), fun h9 => absurd h9 (by decide), fun _ _ h9 => absurd rfl h9⟩
      by_cases d : (t + s) % 6 < 2 <;> by_cases d2 : 20 ≤ t <;> simp [d, d2, e0, e1, n1] at h ⊢ <;> exact h
    · refine ⟨fun h9 => absurd h9 (by decide), fun h9 => absurd h9 (by decide), fun h9 => absurd h9 (by decide), fun _ => ?_, fun h9 => absurd h9 (by decide), fun _ _ _ h9 => absurd rfl h9⟩
      by_cases d : (t + s) % 6 < 4 <;> by_cases d2 : 30 ≤ t <;> simp [d, d2, e0, e1, n1] at h ⊢ <;> exact h
    · refine ⟨fun h9 => absurd h9 (by decide), fun h9 => absurd h9 (by decide), fun h9 => absurd h9 (by decide), fun h9 => absurd h9 (by decide), fun _ => ?_, fun _ _ _ _ h9 => absurd rfl h9⟩
      by_cases d : (t + s) % 6 < 2 <;> by_cases d2 : s % 2 = 0 <;> cases B <;> simp [d, d2, e0, e1, n1] at h ⊢ <;> exact h
  unfold wp_X5_dreamsBy
  rw [nI_add, rem6 (by omega) 6 (by decide) (by decide) 6 rfl, rem6 (by omega) 5 (by decide) (by decide) 5 rfl, c3]
  exact ⟨fun h9 => key false (by simp [h9]), fun h9 => key true (by simp [h9])⟩
/-! bits of small numbers -/
def bt (a i : Nat) : Bool := decide (a / 2 ^ i % 2 = 1)
theorem bit_and : ∀ a, a < 64 → ∀ i, i < 6 → (nI a >>> (nI i &&& 31)) &&& 1 = nI (a / 2 ^ i % 2) := by decide +kernel
theorem bit_b2 {a i : Nat} (ha : a < 64) (hi : i < 6) : (nI a >>> (nI i &&& 31)) &&& 1 = b2 (bt a i) := by
  rw [bit_and a ha i hi]
  unfold bt b2
  rcases Nat.mod_two_eq_zero_or_one (a / 2 ^ i) with h | h <;> rw [h] <;> decide
theorem q_has {a i : Nat} (ha : a < 64) (hi : i < 6) (S : sT) (Q : Int32 → sT → Prop) (h : Q (b2 (bt a i)) S) : wp_X5_has (nI a) (nI i) S Q := by
  unfold wp_X5_has
  rw [bit_b2 ha hi]
  cases hb : bt a i <;> rw [hb] at h
  · exact ⟨fun _ => h, fun h9 => absurd h9 (by decide)⟩
  · exact ⟨fun h9 => absurd rfl h9, fun _ => h⟩
theorem q_asleep {j a i : Nat} (ha : a < 64) (hi : i < 6) (S : sT) (Q : Int32 → sT → Prop) (hs : vI S (20 + 13 * j + 9) = nI a) (h : Q (b2 (bt a i)) S) : wp_X1_isAsleep j (nI i) S Q := by
  unfold wp_X1_isAsleep
  rw [hs, bit_b2 ha hi]
  cases hb : bt a i <;> rw [hb] at h
  · exact ⟨fun _ => h, fun h9 => absurd rfl h9⟩
  · exact ⟨fun h9 => absurd h9 (by decide), fun _ => h⟩
theorem q_bit (b : Bool) (S : sT) (Q : Int32 → sT → Prop) (h : Q (b2 b) S) : wp_X4_bit (b2 b) S Q := by
  unfold wp_X4_bit
  cases b
  · exact ⟨fun _ => h, fun h9 => absurd rfl h9⟩
  · exact ⟨fun h9 => absurd h9 (by decide), fun _ => h⟩
