/-! the two states side by side -/
def relM (C R : sT) : Prop := vI C 13 = vI R 4 ∧ vL C 14 = vL R 5 ∧ vL C 15 = vL R 6 ∧ vI C 16 = vI R 7 ∧ ∀ f, f < 6 → vA C 12 f = vA R 8 f
def relR (C R : sT) : Prop := ∀ r, r < 6 → vA C 200 r = vA R 1 r ∧ (vA R 1 r = -1 ∨ ∃ z : Nat, z ≤ 40 ∧ vA R 1 r = nI z) ∧ ∀ i, i < 40 → vA C (300 + r) i = vA R 0 (40 * r + i)
def relT (C R : sT) : Prop := ∀ t, t < 4 → vA C 201 t = vA R 3 t ∧ (vA R 3 t = -1 ∨ ∃ z : Nat, z ≤ 60 ∧ vA R 3 t = nI z) ∧ ∀ i, i < 60 → vA C (310 + t) i = vA R 2 (60 * t + i)
/-- one deed: what stood before it (A), behind it (B) -/
def logD (n : Nat) (what who was : Int32) (A B : Nat → Nat) : Prop :=
  (what = 0 ∧ was = nI (A 1) ∧ B 0 = A 0 + 1 ∧ B 2 = A 2 ∧ ∀ i, i < n → B (3 + i) = A (3 + i)) ∨
  (what = 1 ∧ (∃ w, w < n ∧ who = nI w ∧ was = nI (A (3 + w)) ∧ ∀ i, i < n → i ≠ w → B (3 + i) = A (3 + i)) ∧ B 0 = A 0 ∧ B 1 = A 1 ∧ B 2 = A 2) ∨
  (what = 2 ∧ was = nI (A 2) ∧ B 0 = A 0 ∧ B 1 = A 1 ∧ ∀ i, i < n → B (3 + i) = A (3 + i)) ∨
  (what = 3 ∧ ∀ i, i < 3 + n → B i = A i)
/-- the line j of the class: n sleepers, the last place, when due, kinds, beds; T e: minute, place, who is asleep, suppers when e deeds were done; d deeds -/
def nightC (S : sT) (j n last due : Nat) (kd bd : Nat → Nat) (T : Nat → Nat → Nat) (d : Nat) : Prop :=
  (vI S (20 + 13 * j + 6) = nI n ∧ vI S (20 + 13 * j + 7) = nI last ∧ vI S (20 + 13 * j + 8) = nI due ∧ vI S (20 + 13 * j + 9) = nI (T d 2) ∧ vI S (20 + 13 * j + 10) = nI (T d 0) ∧ vI S (20 + 13 * j + 11) = nI (T d 1) ∧ vI S (20 + 13 * j + 12) = nI d) ∧
  (∀ i, i < n → vA S (20 + 13 * j) i = nI (kd i) ∧ vA S (20 + 13 * j + 1) i = nI (bd i) ∧ vA S (20 + 13 * j + 2) i = nI (T d (3 + i))) ∧
  ∀ e, e < d → logD n (vA S (20 + 13 * j + 3) e) (vA S (20 + 13 * j + 4) e) (vA S (20 + 13 * j + 5) e) (T e) (T (e + 1))
def nightR (S : sT) (n last due : Nat) (kd bd : Nat → Nat) (T : Nat → Nat → Nat) (d : Nat) : Prop :=
  (vI S 9 = nI n ∧ vI S 10 = nI last ∧ vI S 11 = nI due ∧ vI S 17 = nI d) ∧ (∀ i, i < n → vA S 12 i = nI (kd i) ∧ vA S 13 i = nI (bd i)) ∧ (∀ i, i < 3 + n → vA S 14 i = nI (T d i)) ∧ ∀ e, e < d → ∀ i, i < 3 + n → vA S 16 (9 * e + i) = nI (T e i)
def keptR (S : sT) (k n : Nat) (T : Nat → Nat → Nat) (d : Nat) : Prop :=
  vA S 18 (370 * k) = nI d ∧ (∀ i, i < 3 + n → vA S 18 (370 * k + 1 + i) = nI (T d i)) ∧ ∀ e, e < d → ∀ i, i < 3 + n → vA S 18 (370 * k + 10 + (9 * e + i)) = nI (T e i)
def okV (n last : Nat) (V : Nat → Nat) : Prop := V 0 ≤ 99 ∧ V 1 ≤ last ∧ V 2 < 2 ^ n ∧ ∀ i, i < n → V (3 + i) ≤ 9
def okN (n last due : Nat) (kd bd : Nat → Nat) : Prop := n ≤ 6 ∧ last ≤ 20 ∧ due ≤ 60 ∧ ∀ i, i < n → kd i ≤ 5 ∧ bd i ≤ last
def relK (C R : sT) (n last due : Nat) (kd bd : Nat → Nat) : Prop := ∀ k, k < 3 → (vA C 5 k = 0 ∧ vA R 18 (370 * k) = -1) ∨ (vA C 5 k = 1 ∧ ∃ (T : Nat → Nat → Nat) (d : Nat), d ≤ 40 ∧ (∀ e, e ≤ d → okV n last (T e)) ∧ nightC C (2 + k) n last due kd bd T d ∧ keptR R k n T d)
def relN (C R : sT) : Prop := ∃ (n last due : Nat) (kd bd : Nat → Nat) (T : Nat → Nat → Nat) (d : Nat), okN n last due kd bd ∧ d ≤ 40 ∧ (∀ e, e ≤ d → okV n last (T e)) ∧ nightC C 0 n last due kd bd T d ∧ nightR R n last due kd bd T d ∧ relK C R n last due kd bd
def Inv (C R : sT) : Prop := relM C R ∧ relR C R ∧ relT C R ∧ relN C R
/-! what stays, where nothing of it is written -/
theorem relM_of {C C' R R' : sT} (h : relM C R) (e1 : vI C' 13 = vI C 13) (e2 : vL C' 14 = vL C 14) (e3 : vL C' 15 = vL C 15) (e4 : vI C' 16 = vI C 16) (e5 : vA C' 12 = vA C 12) (f1 : vI R' 4 = vI R 4) (f2 : vL R' 5 = vL R 5) (f3 : vL R' 6 = vL R 6) (f4 : vI R' 7 = vI R 7) (f5 : vA R' 8 = vA R 8) : relM C' R' := by
  unfold relM at *
  rw [e1, e2, e3, e4, e5, f1, f2, f3, f4, f5]
  exact h
theorem relR_of {C C' R R' : sT} (h : relR C R) (e1 : vA C' 200 = vA C 200) (e2 : ∀ r, r < 6 → vA C' (300 + r) = vA C (300 + r)) (f1 : vA R' 1 = vA R 1) (f2 : vA R' 0 = vA R 0) : relR C' R' := by
  intro r hr
  rw [e1, e2 r hr, f1, f2]
  exact h r hr
theorem relT_of {C C' R R' : sT} (h : relT C R) (e1 : vA C' 201 = vA C 201) (e2 : ∀ r, r < 4 → vA C' (310 + r) = vA C (310 + r)) (f1 : vA R' 3 = vA R 3) (f2 : vA R' 2 = vA R 2) : relT C' R' := by
  intro r hr
  rw [e1, e2 r hr, f1, f2]
  exact h r hr
theorem nightC_of {C C' : sT} {j n last due : Nat} {kd bd : Nat → Nat} {T : Nat → Nat → Nat} {d : Nat} (h : nightC C j n last due kd bd T d) (e : ∀ f, f < 13 → vI C' (20 + 13 * j + f) = vI C (20 + 13 * j + f) ∧ vA C' (20 + 13 * j + f) = vA C (20 + 13 * j + f)) : nightC C' j n last due kd bd T d := by
  have e0 := (e 0 (by omega)).2
  rw [Nat.add_zero] at e0
  unfold nightC at *
  rw [(e 6 (by omega)).1, (e 7 (by omega)).1, (e 8 (by omega)).1, (e 9 (by omega)).1, (e 10 (by omega)).1, (e 11 (by omega)).1, (e 12 (by omega)).1, e0, (e 1 (by omega)).2, (e 2 (by omega)).2, (e 3 (by omega)).2, (e 4 (by omega)).2, (e 5 (by omega)).2]
  exact h
theorem relN_of {C C' R R' : sT} (h : relN C R) (e5 : vA C' 5 = vA C 5) (e : ∀ k, (20 ≤ k ∧ k < 33) ∨ (46 ≤ k ∧ k < 85) → vI C' k = vI C k ∧ vA C' k = vA C k) (f1 : vI R' 9 = vI R 9) (f2 : vI R' 10 = vI R 10) (f3 : vI R' 11 = vI R 11) (f4 : vI R' 17 = vI R 17) (g1 : vA R' 12 = vA R 12) (g2 : vA R' 13 = vA R 13) (g3 : vA R' 14 = vA R 14) (g4 : vA R' 16 = vA R 16) (g5 : vA R' 18 = vA R 18) : relN C' R' := by
  obtain ⟨n, last, due, kd, bd, T, d, h1, h2, h3, h4, h5, h6⟩ := h
  refine ⟨n, last, due, kd, bd, T, d, h1, h2, h3, nightC_of h4 (fun f hf => e _ (by omega)), ?_, fun k hk => ?_⟩
  · unfold nightR at *
    rw [f1, f2, f3, f4, g1, g2, g3, g4]
    exact h5
  · unfold keptR
    rw [e5, g5]
    rcases h6 k hk with h7 | ⟨h7, T', d', h8, h9, h10, h11⟩
    · exact Or.inl h7
    · exact Or.inr ⟨h7, T', d', h8, h9, nightC_of h10 (fun f hf => e _ (by omega)), h11⟩
/-! small answers -/
theorem i64_le (a b : Int32) : a.toInt64 ≤ b.toInt64 ↔ a ≤ b := by
  rw [Int64.le_iff_toInt_le, Int32.le_iff_toInt_le, Int32.toInt_toInt64, Int32.toInt_toInt64]
theorem q_inL (x lo hi : Int64) (S : sT) (Q : Int32 → sT → Prop) : wp_X5_in x lo hi S Q ↔ Q (if lo ≤ x ∧ x ≤ hi then 1 else 0) S := by
  have e1 : lg_cmp x lo < 0 ↔ ¬ lo ≤ x := by
    unfold lg_cmp
    grind
  have e2 : 0 < lg_cmp x hi ↔ ¬ x ≤ hi := by
    unfold lg_cmp
    grind
  unfold wp_X5_in
  rw [e1, e2]
  grind
theorem q_in (a b c : Int32) (lo hi : Int64) (h1 : lo = b.toInt64) (h2 : hi = c.toInt64) (S : sT) (Q : Int32 → sT → Prop) : wp_X5_in a.toInt64 lo hi S Q ↔ Q (if b ≤ a ∧ a ≤ c then 1 else 0) S := by
  rw [q_inL, h1, h2]
  simp only [i64_le]
theorem bo_if (c : Prop) [Decidable c] : bo (if c then 1 else 0) := by split <;> rfl
theorem q_isRow (a : Int32) (S : sT) (Q : Int32 → sT → Prop) : wp_X5_isRow a S Q ↔ Q (if 0 ≤ a ∧ a ≤ 5 then 1 else 0) S := by
  unfold wp_X5_isRow
  rw [q_in a 0 5 0 5 (by decide) (by decide)]
  exact ⟨fun h => h.2, fun h => ⟨bo_if _, h⟩⟩
theorem q_isText (a : Int32) (S : sT) (Q : Int32 → sT → Prop) : wp_X5_isText a S Q ↔ Q (if 0 ≤ a ∧ a ≤ 3 then 1 else 0) S := by
  unfold wp_X5_isText
  rw [q_in a 0 3 0 3 (by decide) (by decide)]
  exact ⟨fun h => h.2, fun h => ⟨bo_if _, h⟩⟩
theorem q_bears (g : Nat) (hg : g < 2) (a : Int32) (S : sT) (Q : Int32 → sT → Prop) : wp_X3_bears g a S Q ↔ Q (if 0 ≤ a ∧ a < nI (nO g) then 1 else 0) S := by
  unfold wp_X3_bears
  rw [lSize g hg, q_isBelow]
  exact ⟨fun h => h.2, fun h => ⟨bo_if _, h⟩⟩
def fdC (f : Nat) (S : sT) : sT := uA (uI S 16 (nI f)) 12 (upd (vA S 12) f (vA S 12 f + 1))
def fdR (f : Nat) (S : sT) : sT := uA (uI S 7 (nI f)) 8 (upd (vA S 8) f (vA S 8 f + 1))
theorem q_foundC (f : Nat) (hf : f < 6) (S : sT) (Q : Int32 → sT → Prop) (h : Q (-3) (fdC f S)) : wp_X4_found (nI f) S Q := by
  unfold wp_X4_found
  refine ⟨vp_in_nI hf (by decide), vp_in_nI hf (by decide), ?_⟩
  rw [nI_clamp (by omega)]
  exact h
theorem q_foundR (f : Nat) (hf : f < 6) (S : sT) (Q : Int32 → sT → Prop) (h : Q (-3) (fdR f S)) : wp_X5_found (nI f) S Q := by
  unfold wp_X5_found
  refine ⟨vp_in_nI hf (by decide), vp_in_nI hf (by decide), ?_⟩
  rw [nI_clamp (by omega)]
  exact h
theorem inv_fd {C R : sT} (h : Inv C R) (f : Nat) (hf : f < 6) : Inv (fdC f C) (fdR f R) := by
  obtain ⟨h1, h2, h3, h4⟩ := h
  refine ⟨?_, relR_of h2 ?_ ?_ ?_ ?_, relT_of h3 ?_ ?_ ?_ ?_, relN_of h4 ?_ ?_ ?_ ?_ ?_ ?_ ?_ ?_ ?_ ?_ ?_⟩
  · obtain ⟨a1, a2, a3, a4, a5⟩ := h1
    refine ⟨?_, ?_, ?_, ?_, fun g hg => ?_⟩
    · simp [fdC, fdR, ac, a1]
    · simp [fdC, fdR, ac, a2]
    · simp [fdC, fdR, ac, a3]
    · simp [fdC, fdR, ac]
    · simp only [fdC, fdR, ac, up, if_true]
      rw [a5 g hg, a5 f hf]
  all_goals first | (simp [fdC, fdR, ac]; done) | (intro r hr; simp [fdC, fdR, ac]; omega) | (intro r hr; constructor <;> simp [fdC, fdR, ac] <;> omega)
