theorem ifT {c : Prop} [Decidable c] : ((if c then (1 : Int32) else 0) = 0) ↔ ¬ c := by split <;> simp_all
/-- a shelf's refusal, of the class -/
theorem q_holds (g : Nat) (hg : g < 2) (j : Nat) (hj : j < nO g) (S : sT) (Q : Int32 → sT → Prop) (h : Q (if vA S (200 + g) j = -1 then 0 else 1) S) : wp_X3_holds g (nI j) S Q := by
  have h31 : nO g < 2 ^ 31 := by rcases (show g = 0 ∨ g = 1 by omega) with rfl | rfl <;> decide
  unfold wp_X3_holds
  rw [q_bears g hg, if_pos ⟨nI_pos' (by omega), nI_lt hj h31⟩, lSize g hg]
  refine ⟨fun h9 => absurd h9 (by decide), fun _ => ⟨vp_in_nI hj h31, ?_, ?_⟩⟩
  · intro h9
    rw [nI_clamp (by omega)] at h9
    rw [if_pos h9] at h
    exact h
  · intro h9
    rw [nI_clamp (by omega)] at h9
    rw [if_neg h9] at h
    exact h
theorem nO_31 (g : Nat) : nO g < 2 ^ 31 := by
  unfold nO
  split <;> decide
theorem q_shelf (g : Nat) (hg : g < 2) (a : Int32) (S : sT) (Q : Int32 → sT → Prop) (h1 : ¬ (0 ≤ a ∧ a < nI (nO g)) → Q (-1) S) (h2 : ∀ j, j < nO g → a = nI j → vA S (200 + g) j = -1 → Q (-3) (fdC 1 S)) (h3 : ∀ j, j < nO g → a = nI j → ¬ vA S (200 + g) j = -1 → Q 0 S) : wp_X4_refusalOfShelf g a S Q := by
  unfold wp_X4_refusalOfShelf
  rw [q_bears g hg, ifT]
  refine ⟨fun hc => ?_, fun hc => h1 hc⟩
  rcases pk_ix a (nO_31 g) with h9 | h9 | ⟨j, hj, rfl⟩
  · exfalso; grind
  · exfalso; grind
  · refine q_holds g hg j hj S _ ⟨fun h9 => q_foundC 1 (by decide) S _ ?_, fun h9 => ?_⟩
    · by_cases h8 : vA S (200 + g) j = -1
      · exact h2 j hj rfl h8
      · rw [if_neg h8] at h9
        exact absurd h9 (by decide)
    · by_cases h8 : vA S (200 + g) j = -1
      · rw [if_pos h8] at h9
        exact absurd rfl h9
      · exact h3 j hj rfl h8
theorem q_cell (g : Nat) (hg : g < 2) (a b : Int32) (S : sT) (Q : Int32 → sT → Prop) (h1 : ¬ (0 ≤ a ∧ a < nI (nO g)) → Q (-1) S) (h2 : ∀ j, j < nO g → a = nI j → vA S (200 + g) j = -1 → Q (-3) (fdC 1 S)) (h3 : ∀ j, j < nO g → a = nI j → ¬ vA S (200 + g) j = -1 → ¬ (0 ≤ b ∧ b < vA S (200 + g) j) → Q (-3) (fdC 2 S)) (h4 : ∀ j, j < nO g → a = nI j → ¬ vA S (200 + g) j = -1 → 0 ≤ b → b < vA S (200 + g) j → Q 0 S) : wp_X4_refusalOfCell g a b S Q := by
  unfold wp_X4_refusalOfCell
  refine q_shelf g hg a S _ ?_ ?_ ?_
  · intro hc
    exact ⟨fun h9 => absurd h9 (by decide), fun _ => h1 hc⟩
  · intro j hj e hc
    exact ⟨fun h9 => absurd h9 (by decide), fun _ => h2 j hj e hc⟩
  · intro j hj e hc
    refine ⟨fun _ => ?_, fun h9 => absurd rfl h9⟩
    subst e
    rw [lSize g hg]
    refine ⟨vp_in_nI hj (nO_31 g), ?_⟩
    rw [q_isBelow, nI_clamp (by have := nO_31 g; omega), ifT]
    refine ⟨fun h9 => q_foundC 2 (by decide) S _ (h3 j hj rfl hc h9), fun h9 => ?_⟩
    have h8 : 0 ≤ b ∧ b < vA S (200 + g) j := Classical.byContradiction h9
    exact h4 j hj rfl hc h8.1 h8.2
theorem eS_bad (g : Nat) (hg : g < 2) {a : Int32} {S : sT} {Q : Int32 → sT → Prop} (hc : ¬ (0 ≤ a ∧ a < nI (nO g))) (h : Q (-1) S) : wp_X4_refusalOfShelf g a S Q :=
  q_shelf g hg a S Q (fun _ => h) (fun j hj e _ => absurd ⟨by rw [e]; exact nI_pos' (by have := nO_31 g; omega), by rw [e]; exact nI_lt hj (nO_31 g)⟩ hc) (fun j hj e _ => absurd ⟨by rw [e]; exact nI_pos' (by have := nO_31 g; omega), by rw [e]; exact nI_lt hj (nO_31 g)⟩ hc)
theorem nIinj {g a b : Nat} (ha : a < nO g) (hb : b < nO g) (e : nI a = nI b) : a = b := (nI_eq (by have := nO_31 g; omega) (by have := nO_31 g; omega)).mp e
theorem eS_no (g : Nat) (hg : g < 2) {j : Nat} (hj : j < nO g) {S : sT} {Q : Int32 → sT → Prop} (hz : vA S (200 + g) j = -1) (h : Q (-3) (fdC 1 S)) : wp_X4_refusalOfShelf g (nI j) S Q :=
  q_shelf g hg _ S Q (fun hc => absurd ⟨nI_pos' (by have := nO_31 g; omega), nI_lt hj (nO_31 g)⟩ hc) (fun _ _ _ _ => h) (fun i hi e hn => by
    have := nIinj hi hj e.symm
    subst this
    exact absurd hz hn)
theorem eS_yes (g : Nat) (hg : g < 2) {j : Nat} (hj : j < nO g) {S : sT} {Q : Int32 → sT → Prop} (hz : ¬ vA S (200 + g) j = -1) (h : Q 0 S) : wp_X4_refusalOfShelf g (nI j) S Q :=
  q_shelf g hg _ S Q (fun hc => absurd ⟨nI_pos' (by have := nO_31 g; omega), nI_lt hj (nO_31 g)⟩ hc) (fun i hi e hn => by
    have := nIinj hi hj e.symm
    subst this
    exact absurd hn hz) (fun _ _ _ _ => h)
theorem nIne {z : Nat} (hz : z < 2 ^ 31) : ¬ nI z = -1 := fun e => by
  have h := nI_pos hz
  rw [e] at h
  exact h (by decide)
theorem eC_bad (g : Nat) (hg : g < 2) {a b : Int32} {S : sT} {Q : Int32 → sT → Prop} (hc : ¬ (0 ≤ a ∧ a < nI (nO g))) (h : Q (-1) S) : wp_X4_refusalOfCell g a b S Q := by
  unfold wp_X4_refusalOfCell
  exact eS_bad g hg hc ⟨fun h9 => absurd h9 (by decide), fun _ => h⟩
theorem eC_no (g : Nat) (hg : g < 2) {j : Nat} (hj : j < nO g) {b : Int32} {S : sT} {Q : Int32 → sT → Prop} (hz : vA S (200 + g) j = -1) (h : Q (-3) (fdC 1 S)) : wp_X4_refusalOfCell g (nI j) b S Q := by
  unfold wp_X4_refusalOfCell
  exact eS_no g hg hj hz ⟨fun h9 => absurd h9 (by decide), fun _ => h⟩
theorem eC_out (g : Nat) (hg : g < 2) {j z : Nat} (hj : j < nO g) (hz31 : z < 2 ^ 31) {b : Int32} {S : sT} {Q : Int32 → sT → Prop} (hz : vA S (200 + g) j = nI z) (hb : ¬ (0 ≤ b ∧ b < nI z)) (h : Q (-3) (fdC 2 S)) : wp_X4_refusalOfCell g (nI j) b S Q := by
  unfold wp_X4_refusalOfCell
  refine eS_yes g hg hj (by rw [hz]; exact nIne hz31) ⟨fun _ => ?_, fun h9 => absurd rfl h9⟩
  rw [lSize g hg]
  refine ⟨vp_in_nI hj (nO_31 g), ?_⟩
  rw [q_isBelow, nI_clamp (by have := nO_31 g; omega), hz, if_neg hb]
  exact ⟨fun _ => q_foundC 2 (by decide) S _ h, fun h9 => absurd rfl h9⟩
theorem eC_in (g : Nat) (hg : g < 2) {j z i : Nat} (hj : j < nO g) (hz31 : z < 2 ^ 31) (hi : i < z) {S : sT} {Q : Int32 → sT → Prop} (hz : vA S (200 + g) j = nI z) (h : Q 0 S) : wp_X4_refusalOfCell g (nI j) (nI i) S Q := by
  unfold wp_X4_refusalOfCell
  refine eS_yes g hg hj (by rw [hz]; exact nIne hz31) ⟨fun _ => ?_, fun h9 => absurd rfl h9⟩
  rw [lSize g hg]
  refine ⟨vp_in_nI hj (nO_31 g), ?_⟩
  rw [q_isBelow, nI_clamp (by have := nO_31 g; omega), hz, if_pos ⟨nI_pos' (by omega), nI_lt hi hz31⟩]
  exact ⟨fun h9 => absurd h9 (by decide), fun _ => h⟩
theorem cIx (x : Int32) {z : Nat} (hz : z < 2 ^ 31) : ¬ (0 ≤ x ∧ x < nI z) ∨ ∃ i, i < z ∧ x = nI i := by
  rcases pk_ix x hz with h | h | h
  · exact Or.inl (fun h9 => by grind)
  · exact Or.inl (fun h9 => by grind)
  · exact Or.inr h
theorem le_pred (x : Int32) {z : Nat} (hz : z ≤ 1000) : (0 ≤ x ∧ x ≤ nI z - 1) ↔ (0 ≤ x ∧ x < nI z) := by
  have h0 : 0 ≤ nI z := nI_pos' (by omega)
  have h1 : nI z ≤ nI 1000 := nI_le hz (by decide)
  have h2 : nI 1000 = 1000 := rfl
  grind
theorem inv_keepC {C C' R R' : sT} (h : Inv C R) (hM : relM C' R') (hR : relR C' R') (hT : relT C' R') (e5 : vA C' 5 = vA C 5) (e : ∀ k, (20 ≤ k ∧ k < 33) ∨ (46 ≤ k ∧ k < 85) → vI C' k = vI C k ∧ vA C' k = vA C k) (f : ∀ k, k ∈ [9, 10, 11, 17] → vI R' k = vI R k) (g : ∀ k, k ∈ [12, 13, 14, 16, 18] → vA R' k = vA R k) : Inv C' R' :=
  ⟨hM, hR, hT, relN_of h.2.2.2 e5 e (f 9 (by decide)) (f 10 (by decide)) (f 11 (by decide)) (f 17 (by decide)) (g 12 (by decide)) (g 13 (by decide)) (g 14 (by decide)) (g 16 (by decide)) (g 18 (by decide))⟩
theorem inv_told {C R : sT} (h : Inv C R) (x : Int32) : Inv (uI C 13 x) (uI R 4 x) := by
  obtain ⟨⟨a1, a2, a3, a4, a5⟩, h2, h3, h4⟩ := id h
  refine inv_keepC h ⟨?_, ?_, ?_, ?_, ?_⟩ (relR_of h2 ?_ ?_ ?_ ?_) (relT_of h3 ?_ ?_ ?_ ?_) ?_ ?_ ?_ ?_
  all_goals first | (simp [ac]; done) | (simp [ac]; assumption) | (intro k hk; simp at hk; rcases hk with rfl | rfl | rfl | rfl | rfl <;> simp [ac]; done) | (intro k hk; simp at hk; rcases hk with rfl | rfl | rfl | rfl <;> simp [ac]; done) | (intro k hk; constructor <;> simp [ac] <;> omega) | (intro r hr; simp [ac]; done)
theorem st_at_ok : st_at Inv := by
  intro x1 x2 C R hI
  obtain ⟨hM, hR, hT, hN⟩ := id hI
  unfold wp_X4_at
  rcases cIx x1 (show 6 < 2 ^ 31 by decide) with h1 | ⟨j, hj, rfl⟩
  · refine eC_bad 0 (by decide) h1 ⟨fun h9 => absurd h9 (by decide), fun _ => ?_⟩
    have h2 : ¬ (0 ≤ x1 ∧ x1 ≤ 5) := fun h9 => h1 ⟨h9.1, by have : nI 6 = 6 := rfl; grind⟩
    show wp_X5_at _ _ _ _
    unfold wp_X5_at
    rw [q_isRow, if_neg h2]
    exact ⟨fun h9 => absurd rfl h9, fun _ => ⟨rfl, hI⟩⟩
  · have hj5 : 0 ≤ nI j ∧ nI j ≤ 5 := ⟨nI_pos' (by omega), nI_le (show j ≤ 5 by omega) (by decide)⟩
    obtain ⟨hs, hz, hcell⟩ := hR j hj
    rcases hz with hz | ⟨z, hz40, hz⟩
    · refine eC_no 0 (by decide) hj (hs.trans hz) ⟨fun h9 => absurd h9 (by decide), fun _ => ?_⟩
      show wp_X5_at _ _ _ _
      unfold wp_X5_at
      rw [q_isRow, if_pos hj5]
      refine ⟨fun _ => ⟨vp_in_nI hj (by decide), ?_, fun _ => q_foundR 1 (by decide) R _ ⟨rfl, inv_fd hI 1 (by decide)⟩⟩, fun h9 => absurd h9 (by decide)⟩
      rw [nI_clamp (by omega), hz]
      exact fun h9 => absurd h9 (by decide)
    · rcases cIx x2 (show z < 2 ^ 31 by omega) with h3 | ⟨i, hi, rfl⟩
      · refine eC_out 0 (by decide) hj (show z < 2 ^ 31 by omega) (hs.trans hz) h3 ⟨fun h9 => absurd h9 (by decide), fun _ => ?_⟩
        show wp_X5_at _ _ _ _
        unfold wp_X5_at
        rw [q_isRow, if_pos hj5]
        refine ⟨fun _ => ⟨vp_in_nI hj (by decide), fun _ => ⟨vp_in_nI hj (by decide), ?_⟩, ?_⟩, fun h9 => absurd h9 (by decide)⟩
        · rw [nI_clamp (by omega), hz, q_in x2 0 (nI z - 1) 0 _ (by decide) rfl, if_neg (fun h9 => h3 ((le_pred x2 (by omega)).mp h9))]
          exact ⟨fun _ => q_foundR 2 (by decide) R _ ⟨rfl, inv_fd hI 2 (by decide)⟩, fun h9 => absurd rfl h9⟩
        · rw [nI_clamp (by omega), hz]
          exact fun h9 => absurd (nI_pos' (show z < 2 ^ 31 by omega)) h9
      · have hi40 : i < 40 := by omega
        have e1 : (40 : Int32) * nI j + nI i = nI (40 * j + i) := by rw [show (40 : Int32) = nI 40 from rfl, pk_mul, nI_add]
        refine eC_in 0 (by decide) hj (show z < 2 ^ 31 by omega) hi (hs.trans hz) ⟨fun _ => ⟨vp_in_nI hj (by decide), vp_in_nI hi40 (by decide), ?_⟩, fun h9 => absurd rfl h9⟩
        
        show wp_X5_at _ _ _ _
        unfold wp_X5_at
        rw [q_isRow, if_pos hj5]
        refine ⟨fun _ => ⟨vp_in_nI hj (by decide), fun _ => ⟨vp_in_nI hj (by decide), ?_⟩, ?_⟩, fun h9 => absurd h9 (by decide)⟩
        · rw [nI_clamp (show j < 2 ^ 31 by omega), hz, q_in (nI i) 0 (nI z - 1) 0 _ (by decide) rfl, if_pos ((le_pred (nI i) (by omega)).mpr ⟨nI_pos' (by omega), nI_lt hi (by omega)⟩), e1]
          refine ⟨fun h9 => absurd h9 (by decide), fun _ => ⟨vp_in_nI (by omega) (by decide), ?_⟩⟩
          unfold wp_X5_tell
          refine ⟨rfl, ?_⟩
          rw [nI_clamp (show i < 2 ^ 31 by omega), nI_clamp (show 40 * j + i < 2 ^ 31 by omega), hcell i hi40]
          exact inv_told hI _
        · rw [nI_clamp (by omega), hz]
          exact fun h9 => absurd (nI_pos' (show z < 2 ^ 31 by omega)) h9
theorem inv_lay {C R : sT} (h : Inv C R) {j i : Nat} (hj : j < 6) (hi : i < 40) (t v : Int32) : Inv (uA (uI C 13 t) (300 + j) (upd (vA (uI C 13 t) (300 + j)) i v)) (uI (uA R 0 (upd (vA R 0) (40 * j + i) v)) 4 t) := by
  obtain ⟨⟨a1, a2, a3, a4, a5⟩, h2, h3, h4⟩ := id h
  refine inv_keepC h ⟨?_, ?_, ?_, ?_, ?_⟩ ?_ (relT_of h3 ?_ ?_ ?_ ?_) ?_ ?_ ?_ ?_
  case refine_6 =>
    intro r hr
    obtain ⟨b1, b2, b3⟩ := h2 r hr
    refine ⟨?_, ?_, fun k hk => ?_⟩
    · simp [ac]
      rw [if_neg (by omega)]
      exact b1
    · simp [ac]
      exact b2
    · simp only [ac, up, if_true]
      by_cases e : r = j
      · subst e
        simp only [if_true, up]
        by_cases e2 : k = i
        · subst e2
          simp
        · rw [if_neg e2, if_neg (by omega)]
          exact b3 k hk
      · rw [if_neg (by omega), if_neg (by omega)]
        exact b3 k hk
  all_goals first | (simp [ac]; done) | (simp [ac]; assumption) | (intro k hk; simp at hk; rcases hk with rfl | rfl | rfl | rfl | rfl <;> simp [ac]; done) | (intro k hk; simp at hk; rcases hk with rfl | rfl | rfl | rfl <;> simp [ac]; done) | (intro k hk; constructor <;> simp [ac] <;> omega) | (intro k hk; constructor <;> (simp only [ac]; try rw [if_neg (by omega)])) | (intro r hr; simp only [ac]; rw [if_neg (by omega)]; done) | (intro r hr; simp only [ac]; rw [if_neg (by omega)]; apply a5; assumption) | (simp only [ac]; rw [if_neg (by omega)]; done) | (simp only [ac]; rw [if_neg (by omega)]; assumption)
theorem st_lay_ok : st_lay Inv := by
  intro x1 x2 x3 C R hI
  obtain ⟨hM, hR, hT, hN⟩ := id hI
  unfold wp_X4_lay
  rcases cIx x1 (show 6 < 2 ^ 31 by decide) with h1 | ⟨j, hj, rfl⟩
  · refine eC_bad 0 (by decide) h1 ⟨fun h9 => absurd h9 (by decide), fun _ => ?_⟩
    have h2 : ¬ (0 ≤ x1 ∧ x1 ≤ 5) := fun h9 => h1 ⟨h9.1, by have : nI 6 = 6 := rfl; grind⟩
    show wp_X5_lay _ _ _ _ _
    unfold wp_X5_lay
    rw [q_isRow, if_neg h2]
    exact ⟨fun h9 => absurd rfl h9, fun _ => ⟨rfl, hI⟩⟩
  · have hj5 : 0 ≤ nI j ∧ nI j ≤ 5 := ⟨nI_pos' (by omega), nI_le (show j ≤ 5 by omega) (by decide)⟩
    obtain ⟨hs, hz, hcell⟩ := hR j hj
    rcases hz with hz | ⟨z, hz40, hz⟩
    · refine eC_no 0 (by decide) hj (hs.trans hz) ⟨fun h9 => absurd h9 (by decide), fun _ => ?_⟩
      show wp_X5_lay _ _ _ _ _
      unfold wp_X5_lay
      rw [q_isRow, if_pos hj5]
      refine ⟨fun _ => ⟨vp_in_nI hj (by decide), ?_, fun _ => q_foundR 1 (by decide) R _ ⟨rfl, inv_fd hI 1 (by decide)⟩⟩, fun h9 => absurd h9 (by decide)⟩
      rw [nI_clamp (by omega), hz]
      exact fun h9 => absurd h9 (by decide)
    · rcases cIx x2 (show z < 2 ^ 31 by omega) with h3 | ⟨i, hi, rfl⟩
      · refine eC_out 0 (by decide) hj (show z < 2 ^ 31 by omega) (hs.trans hz) h3 ⟨fun h9 => absurd h9 (by decide), fun _ => ?_⟩
        show wp_X5_lay _ _ _ _ _
        unfold wp_X5_lay
        rw [q_isRow, if_pos hj5]
        refine ⟨fun _ => ⟨vp_in_nI hj (by decide), fun _ => ⟨vp_in_nI hj (by decide), ?_⟩, ?_⟩, fun h9 => absurd h9 (by decide)⟩
        · rw [nI_clamp (by omega), hz, q_in x2 0 (nI z - 1) 0 _ (by decide) rfl, if_neg (fun h9 => h3 ((le_pred x2 (by omega)).mp h9))]
          exact ⟨fun h9 => absurd rfl h9, fun _ => q_foundR 2 (by decide) R _ ⟨rfl, inv_fd hI 2 (by decide)⟩⟩
        · rw [nI_clamp (by omega), hz]
          exact fun h9 => absurd (nI_pos' (show z < 2 ^ 31 by omega)) h9
      · have hi40 : i < 40 := by omega
        have e1 : (40 : Int32) * nI j + nI i = nI (40 * j + i) := by rw [show (40 : Int32) = nI 40 from rfl, pk_mul, nI_add]
        refine eC_in 0 (by decide) hj (show z < 2 ^ 31 by omega) hi (hs.trans hz) ⟨fun _ => ⟨vp_in_nI hj (by decide), vp_in_nI hi40 (by decide), vp_in_nI hj (by decide), vp_in_nI hi40 (by decide), ?_⟩, fun h9 => absurd rfl h9⟩
        intro S6 eS6
        show wp_X5_lay _ _ _ _ _
        unfold wp_X5_lay
        rw [q_isRow, if_pos hj5]
        refine ⟨fun _ => ⟨vp_in_nI hj (by decide), fun _ => ⟨vp_in_nI hj (by decide), ?_⟩, ?_⟩, fun h9 => absurd h9 (by decide)⟩
        · rw [nI_clamp (show j < 2 ^ 31 by omega), hz, q_in (nI i) 0 (nI z - 1) 0 _ (by decide) rfl, if_pos ((le_pred (nI i) (by omega)).mpr ⟨nI_pos' (by omega), nI_lt hi (by omega)⟩), e1]
          refine ⟨fun _ => ⟨vp_in_nI (by omega) (by decide), vp_in_nI (by omega) (by decide), ?_⟩, fun h9 => absurd h9 (by decide)⟩
          unfold wp_X5_tell
          refine ⟨rfl, ?_⟩
          rw [eS6, nI_clamp (show i < 2 ^ 31 by omega), nI_clamp (show 40 * j + i < 2 ^ 31 by omega), nI_clamp (show j < 2 ^ 31 by omega), hcell i hi40]
          have h9 := inv_told hI (vA R 0 (40 * j + i))
          exact inv_lay hI hj hi40 _ _
        · rw [nI_clamp (by omega), hz]
          exact fun h9 => absurd (nI_pos' (show z < 2 ^ 31 by omega)) h9
theorem st_asked_ok : st_asked Inv := fun C R hI => ⟨hI.1.1, hI⟩
theorem st_upper_ok : st_upper Inv := fun C R hI => ⟨hI.1.2.1, hI⟩
theorem st_lower_ok : st_lower Inv := fun C R hI => ⟨hI.1.2.2.1, hI⟩
theorem st_finding_ok : st_finding Inv := fun C R hI => ⟨hI.1.2.2.2.1, hI⟩
theorem st_findings_ok : st_findings Inv := by
  intro x1 C R hI
  have hr : ∀ v : Int32, ¬ (1 ≤ x1 ∧ x1 ≤ 5) → v = -1 → wp_X5_findings x1 R (fun r2 SR1 => v = r2 ∧ Inv C SR1) := by
    intro v h hv
    unfold wp_X5_findings
    rw [q_in x1 1 5 1 5 (by decide) (by decide), if_neg h]
    exact ⟨fun _ => ⟨hv, hI⟩, fun h9 => absurd rfl h9⟩
  unfold wp_X4_findings
  refine ⟨fun h => hr _ (by grind) rfl, fun h => ⟨fun h2 => hr _ (by grind) rfl, fun h2 => ?_⟩⟩
  obtain ⟨j, hj, rfl⟩ : ∃ j, j < 6 ∧ x1 = nI j := by
    rcases pk_ix x1 (show 6 < 2 ^ 31 by decide) with h9 | h9 | h9
    · exfalso; grind
    · exfalso
      have : nI 6 = 6 := rfl
      grind
    · exact h9
  refine ⟨vp_in_nI hj (by decide), ?_⟩
  show wp_X5_findings _ _ _
  unfold wp_X5_findings
  rw [q_in (nI j) 1 5 1 5 (by decide) (by decide), if_pos (by grind)]
  refine ⟨fun h9 => absurd h9 (by decide), fun _ => ⟨vp_in_nI hj (by decide), ?_, hI⟩⟩
  rw [nI_clamp (by omega)]
  exact hI.1.2.2.2.2 j hj
theorem st_tear_ok : st_tear Inv := by
  intro x1 C R hI
  obtain ⟨hM, hR, hT, hN⟩ := id hI
  unfold wp_X4_tear
  rcases cIx x1 (show 6 < 2 ^ 31 by decide) with h1 | ⟨j, hj, rfl⟩
  · refine eS_bad 0 (by decide) h1 ⟨fun h9 => absurd h9 (by decide), fun _ => ?_⟩
    have h2 : ¬ (0 ≤ x1 ∧ x1 ≤ 5) := fun h9 => h1 ⟨h9.1, by have : nI 6 = 6 := rfl; grind⟩
    show wp_X5_tear _ _ _
    unfold wp_X5_tear
    rw [q_isRow, if_neg h2]
    exact ⟨fun h9 => absurd rfl h9, fun _ => ⟨rfl, hI⟩⟩
  · have hj5 : 0 ≤ nI j ∧ nI j ≤ 5 := ⟨nI_pos' (by omega), nI_le (show j ≤ 5 by omega) (by decide)⟩
    obtain ⟨hs, hz, hcell⟩ := hR j hj
    have hcl : (nI j).toNatClampNeg = j := nI_clamp (by omega)
    rcases hz with hz | ⟨z, hz40, hz⟩
    · refine eS_no 0 (by decide) hj (hs.trans hz) ⟨fun h9 => absurd h9 (by decide), fun _ => ?_⟩
      show wp_X5_tear _ _ _
      unfold wp_X5_tear
      rw [q_isRow, if_pos hj5]
      refine ⟨fun _ => ⟨vp_in_nI hj (by decide), ?_, fun _ => q_foundR 1 (by decide) R _ ⟨rfl, inv_fd hI 1 (by decide)⟩⟩, fun h9 => absurd h9 (by decide)⟩
      rw [hcl, hz]
      exact fun h9 => absurd h9 (by decide)
    · refine eS_yes 0 (by decide) hj (by rw [hs.trans hz]; exact nIne (by omega)) ⟨fun _ => ⟨vp_in_nI hj (by decide), ?_⟩, fun h9 => absurd rfl h9⟩
      show wp_X5_tear _ _ _
      unfold wp_X5_tear
      rw [q_isRow, if_pos hj5]
      refine ⟨fun _ => ⟨vp_in_nI hj (by decide), fun _ => ⟨vp_in_nI hj (by decide), rfl, ?_⟩, ?_⟩, fun h9 => absurd h9 (by decide)⟩
      · rw [hcl]
        obtain ⟨a1, a2, a3, a4, a5⟩ := hM
        refine inv_keepC hI ⟨?_, ?_, ?_, ?_, ?_⟩ ?_ (relT_of hT ?_ ?_ ?_ ?_) ?_ ?_ ?_ ?_
        case refine_6 =>
          intro r hr
          obtain ⟨b1, b2, b3⟩ := hR r hr
          simp only [ac, up, if_true]
          by_cases e : r = j
          · subst e
            refine ⟨by simp, Or.inl (by simp), fun k hk => ?_⟩
            rw [if_neg (by omega), if_neg (by omega)]
            exact b3 k hk
          · rw [if_neg e, if_neg e]
            refine ⟨b1, b2, fun k hk => ?_⟩
            rw [if_neg (by omega), if_neg (by omega)]
            exact b3 k hk
        all_goals first | (simp [ac]; done) | (simp [ac]; assumption) | (intro k hk; simp at hk; rcases hk with rfl | rfl | rfl | rfl | rfl <;> simp [ac]; done) | (intro k hk; simp at hk; rcases hk with rfl | rfl | rfl | rfl <;> simp [ac]; done) | (intro k hk; constructor <;> simp [ac] <;> omega) | (intro k hk; constructor <;> (simp only [ac]; try rw [if_neg (by omega)])) | (intro r hr; simp only [ac]; rw [if_neg (by omega)]; done) | (intro r hr; simp only [ac]; rw [if_neg (by omega)]; apply a5; assumption) | (simp only [ac]; rw [if_neg (by omega)]; done) | (simp only [ac]; rw [if_neg (by omega)]; assumption)
      · rw [hcl, hz]
        exact fun h9 => absurd (nI_pos' (show z < 2 ^ 31 by omega)) h9
