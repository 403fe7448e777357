theorem yes {c P Q : Prop} (hc : c) (h : P) : (c → P) ∧ (¬ c → Q) := ⟨fun _ => h, fun h9 => absurd hc h9⟩
theorem no {c P Q : Prop} (hc : ¬ c) (h : Q) : (c → P) ∧ (¬ c → Q) := ⟨fun h9 => absurd h9 hc, fun _ => h⟩
theorem yes' {c P Q : Prop} (hc : c) (h : P) : (¬ c → Q) ∧ (c → P) := ⟨fun h9 => absurd hc h9, fun _ => h⟩
theorem no' {c P Q : Prop} (hc : ¬ c) (h : Q) : (¬ c → Q) ∧ (c → P) := ⟨fun _ => h, fun h9 => absurd h9 hc⟩
theorem n10 : ¬ (1 : Int32) = 0 := by decide
theorem cy {b : Bool} {P Q : Prop} (h0 : b = false → P) (h1 : b = true → Q) : (b2 b = 0 → P) ∧ (¬ b2 b = 0 → Q) := by
  cases b
  · exact yes rfl (h0 rfl)
  · exact no (by decide) (h1 rfl)
theorem cn {b : Bool} {P Q : Prop} (h0 : b = false → P) (h1 : b = true → Q) : (¬ b2 b = 0 → Q) ∧ (b2 b = 0 → P) := ⟨(cy h0 h1).2, (cy h0 h1).1⟩
theorem ixY {n : Nat} {x : Int32} (hn : n < 2 ^ 31) (h : 0 ≤ x ∧ x < nI n) : ∃ i, i < n ∧ x = nI i := by
  rcases cIx x hn with h9 | h9
  · exact absurd h h9
  · exact h9
theorem ixI {n i : Nat} (hi : i < n) (hn : n < 2 ^ 31) : 0 ≤ nI i ∧ nI i < nI n := ⟨nI_pos' (by omega), nI_lt hi hn⟩
/-! how often, when first -/
def oft (k s : Nat) : Nat → Int32
  | 0 => 0
  | n + 1 => oft k s n + b2 (dr k s n)
theorem q_dreamt {k s : Nat} (hk : k ≤ 5) (hs : s ≤ 9) (S : sT) (Q : Int32 → sT → Prop) (h : Q (oft k s 60) S) : wp_X4_dreamtMinutes (nI k) (nI s) S Q := by
  unfold wp_X4_dreamtMinutes
  refine pk_loop (fun n i (a : Int32) => wl_X4_dreamtMinutes_4 Q n (nI k) (nI s) a (nI i) S) (fun i a => a = oft k s i) 60 0 0 (Nat.zero_le _) rfl ?_ ?_
  · intro n a ha
    show wb_X4_dreamtMinutes_4 Q _ (nI k) (nI s) a (nI 60) S
    unfold wb_X4_dreamtMinutes_4
    rw [ha]
    exact yes (by decide) h
  · intro n i a hi ha ih
    show wb_X4_dreamtMinutes_4 Q _ (nI k) (nI s) a (nI i) S
    unfold wb_X4_dreamtMinutes_4
    refine no (nI_ge hi (by decide)) (q_would hk hs (by omega) S _ (q_bit _ S _ ?_))
    have h2 := ih (a + b2 (dr k s i)) (by rw [ha]; rfl)
    rw [← nI_1] at h2
    exact h2
theorem q_often {k s : Nat} (hk : k ≤ 5) (hs : s ≤ 9) (S : sT) (Q : Int32 → sT → Prop) (h : Q (oft k s 60) S) : wp_X5_often (nI k) (nI s) S Q := by
  unfold wp_X5_often
  refine pk_loop (fun n i (a : Int32) => wl_X5_often_4 Q n (nI k) (nI s) a (nI i) S) (fun i a => a = oft k s i) 60 0 0 (Nat.zero_le _) rfl ?_ ?_
  · intro n a ha
    show wb_X5_often_4 Q _ (nI k) (nI s) a (nI 60) S
    unfold wb_X5_often_4
    rw [ha]
    exact yes (by decide) h
  · intro n i a hi ha ih
    show wb_X5_often_4 Q _ (nI k) (nI s) a (nI i) S
    unfold wb_X5_often_4 wb_X5_often_25
    refine no (nI_ge hi (by decide)) (q_dreamsBy hk hs (by omega) S _ ?_)
    have h2 := ih (a + b2 (dr k s i)) (by rw [ha]; rfl)
    rw [← nI_1] at h2
    refine cy (fun e => ?_) (fun e => ?_) <;> rw [e] at h2 <;> exact h2
def fst1 (k s t : Nat) : Bool := dr k s t && !(decide (k = 4) && dr 1 s t)
theorem fst_ex : (∀ s, s < 10 → fst1 3 s (30 - s) = true) ∧ (∀ s, s < 10 → fst1 4 s (40 - s) = true) := by decide +kernel
theorem fst_least {k s : Nat} (hk : k = 3 ∨ k = 4) (hs : s ≤ 9) : ∃ t, t < 60 ∧ fst1 k s t = true ∧ ∀ j, j < t → fst1 k s j = false := by
  have h : ∃ t, t < 60 ∧ fst1 k s t = true := by
    rcases hk with rfl | rfl
    · exact ⟨30 - s, by omega, fst_ex.1 s (by omega)⟩
    · exact ⟨40 - s, by omega, fst_ex.2 s (by omega)⟩
  obtain ⟨t, ht, hm⟩ := pk_least (fun t => t < 60 ∧ fst1 k s t = true) h
  refine ⟨t, ht.1, ht.2, fun j hj => ?_⟩
  cases e : fst1 k s j
  · rfl
  · exact absurd ⟨by omega, e⟩ (hm j hj)
theorem q_firstDream {k s t : Nat} (hk : k = 3 ∨ k = 4) (hs : s ≤ 9) (ht : t < 60) (h1 : fst1 k s t = true) (h2 : ∀ j, j < t → fst1 k s j = false) (S : sT) (Q : Int32 → sT → Prop) (h : Q (nI t) S) : wp_X4_firstDream (nI k) (nI s) S Q := by
  unfold wp_X4_firstDream
  have hk5 : k ≤ 5 := by omega
  have key : ∀ (K : Int32 → Int32 → Int32 → sT → Prop) (i : Nat), i < 60 → (fst1 k s i = true → Q (nI i) S) → (fst1 k s i = false → K (nI k) (nI s) (nI i + 1) S) → wb_X4_firstDream_2 Q K (nI k) (nI s) (nI i) S := by
    intro K i hi a1 a2
    unfold wb_X4_firstDream_2 wb_X4_firstDream_22 wb_X4_firstDream_27 wb_X4_firstDream_43
    refine no (nI_ge hi (by decide)) ?_
    rcases hk with rfl | rfl
    · refine no' (by decide) (no n10 (q_would hk5 hs (by omega) S _ (cy (fun e => a2 ?_) (fun e => a1 ?_))))
      · unfold fst1; rw [e]; rfl
      · unfold fst1; rw [e]; rfl
    · refine yes' (by decide) (q_would (k := 1) (by decide) hs (by omega) S _ (cn (fun e => ?_) (fun e => ?_)))
      · refine no n10 (q_would hk5 hs (by omega) S _ (cy (fun e2 => a2 ?_) (fun e2 => a1 ?_)))
        · unfold fst1; rw [e2]; rfl
        · unfold fst1; rw [e2, e]; rfl
      · refine yes rfl (a2 ?_)
        unfold fst1; rw [e]; simp
  refine pk_loop (fun n i (a : Unit) => wl_X4_firstDream_2 Q n (nI k) (nI s) (nI i) S) (fun i a => True) t 0 () (Nat.zero_le _) trivial ?_ ?_
  · intro n a _
    exact key _ t ht (fun _ => h) (fun e => by rw [e] at h1; exact absurd h1 (by decide))
  · intro n i a hi _ ih
    refine key _ i (by omega) (fun e => by rw [h2 i hi] at e; exact absurd e (by decide)) (fun _ => ?_)
    have h3 := ih () trivial
    rw [← nI_1] at h3
    exact h3
theorem q_firstOf {k s t : Nat} (hk : k = 3 ∨ k = 4) (hs : s ≤ 9) (ht : t < 60) (h1 : fst1 k s t = true) (h2 : ∀ j, j < t → fst1 k s j = false) (S : sT) (Q : Int32 → sT → Prop) (h : Q (nI t) S) : wp_X5_firstOf (nI k) (nI s) (b2 (decide (k = 4))) S Q := by
  unfold wp_X5_firstOf
  have hk5 : k ≤ 5 := by omega
  have key : ∀ (K : Int32 → Int32 → Int32 → Int32 → sT → Prop) (i : Nat), i < 60 → (fst1 k s i = true → Q (nI i) S) → (fst1 k s i = false → K (nI k) (nI s) (b2 (decide (k = 4))) (nI i + 1) S) → wb_X5_firstOf_3 Q K (nI k) (nI s) (b2 (decide (k = 4))) (nI i) S := by
    intro K i hi a1 a2
    unfold wb_X5_firstOf_3 wb_X5_firstOf_27
    refine q_dreamsBy hk5 hs (by omega) S _ (cy (fun e => a2 ?_) (fun e => cy (fun e2 => a1 ?_) (fun e2 => q_dreamsBy (k := 1) (by decide) hs (by omega) S _ (cy (fun e3 => a1 ?_) (fun e3 => a2 ?_)))))
    · unfold fst1; rw [e]; rfl
    · unfold fst1; rw [e, e2]; rfl
    · unfold fst1; rw [e, e3]; simp
    · unfold fst1; rw [e2, e3]; simp
  refine pk_loop (fun n i (a : Unit) => wl_X5_firstOf_3 Q n (nI k) (nI s) (b2 (decide (k = 4))) (nI i) S) (fun i a => True) t 0 () (Nat.zero_le _) trivial ?_ ?_
  · intro n a _
    exact key _ t ht (fun _ => h) (fun e => by rw [e] at h1; exact absurd h1 (by decide))
  · intro n i a hi _ ih
    refine key _ i (by omega) (fun e => by rw [h2 i hi] at e; exact absurd e (by decide)) (fun _ => ?_)
    have h3 := ih () trivial
    rw [← nI_1] at h3
    exact h3
def isO (k w : Nat) : Bool := decide (k = w) || (decide (k = 4) && decide (w = 1)) || (decide (k = 5) && decide (w = 2))
theorem q_isOf {k w : Nat} (hk : k ≤ 5) (hw : w ≤ 5) (S : sT) (Q : Int32 → sT → Prop) (h : Q (b2 (isO k w)) S) : wp_X5_isOf (nI k) (nI w) S Q := by
  have e1 : nI k = nI w ↔ k = w := nI_eq (by omega) (by omega)
  have e2 : nI k = 4 ↔ k = 4 := nI_eq (b := 4) (by omega) (by omega)
  have e3 : nI k = 5 ↔ k = 5 := nI_eq (b := 5) (by omega) (by omega)
  have e4 : nI w = 1 ↔ w = 1 := nI_eq (b := 1) (by omega) (by omega)
  have e5 : nI w = 2 ↔ w = 2 := nI_eq (b := 2) (by omega) (by omega)
  have t0 : b2 false = 0 := rfl
  have t1 : b2 true = 1 := rfl
  unfold wp_X5_isOf wb_X5_isOf_15
  rw [e1, e2, e3, e4, e5]
  unfold isO at h
  refine ⟨fun c => ?_, fun c => ⟨fun c2 => ⟨fun c3 => ?_, fun c3 => ⟨fun c4 => ?_, fun c4 => ?_⟩⟩, fun c2 => ⟨fun c3 => ?_, fun c3 => ⟨fun c4 => ?_, fun c4 => ⟨fun c5 => ?_, fun c5 => ?_⟩⟩⟩⟩⟩ <;> simp_all
theorem kU_tab : ∀ k, k < 6 → ∀ w, w < 6 → ¬ w = 0 → ((nI k = nI w ∨ kU k = nI w) ↔ isO k w = true) := by decide +kernel
