theorem q_fillC (k0 : Nat) (hnn : lenC k0 < 2 ^ 31) (x : Int32) (S : sT) (Q : sT → Prop) (h : ∀ f : Nat → Int32, (∀ j, j < lenC k0 → f j = x) → Q (uA S k0 f)) : wp_J7_fill_53178 k0 x S Q := by
  unfold wp_J7_fill_53178
  have h9 := pk_loop (fun n i (f : Nat → Int32) => wl_J7_fill_53178_5 k0 Q n x (nI i) (nI (lenC k0)) (uA S k0 f)) (fun i f => ∀ j, j < i → f j = x) (lenC k0) 0 (vA S k0) (Nat.zero_le _) (fun j hj => absurd hj (Nat.not_lt_zero j)) ?_ ?_
  · obtain ⟨n, hn⟩ := h9
    rw [uA_id] at hn
    exact ⟨n, hn⟩
  · intro n f hf
    show wb_J7_fill_53178_5 k0 Q _ x (nI (lenC k0)) (nI (lenC k0)) (uA S k0 f)
    unfold wb_J7_fill_53178_5
    exact ⟨fun _ => h f hf, fun hc => absurd (nI_le (Nat.le_refl _) hnn) hc⟩
  · intro n i f hi hf ih
    show wb_J7_fill_53178_5 k0 Q _ x (nI i) (nI (lenC k0)) (uA S k0 f)
    unfold wb_J7_fill_53178_5
    refine ⟨fun hc => absurd hc (nI_ge hi hnn), fun _ => ⟨vp_in_nI hi hnn, ?_⟩⟩
    have h2 := ih (upd f i x) (fun j hj => by
      unfold upd
      by_cases e : j = i
      · rw [if_pos e]
      · rw [if_neg e]
        exact hf j (by omega))
    rw [vA_uA, uA_uA, nI_clamp (Nat.lt_trans hi hnn)]
    rw [← nI_1] at h2
    exact h2
theorem nW_31 (g : Nat) : nW g < 2 ^ 31 := by
  unfold nW
  split <;> decide
theorem q_layOut (g : Nat) (hg : g < 2) {j : Nat} (hj : j < nO g) (n x : Int32) (S : sT) (Q : sT → Prop) (h : ∀ f : Nat → Int32, (∀ i, i < nW g → f i = x) → Q (uA (uA S (300 + 10 * g + j) f) (200 + g) (upd (vA S (200 + g)) j n))) : wp_X3_layOut g (nI j) n x S Q := by
  unfold wp_X3_layOut
  have hcl : (nI j).toNatClampNeg = j := nI_clamp (by have := nO_31 g; omega)
  have hlen := lRow g hg j hj
  refine ⟨vp_in_nI hj (nO_31 g), ?_⟩
  rw [hcl]
  refine q_fillC _ (by rw [hlen]; exact nW_31 g) x S _ (fun f hf => ?_)
  rw [hlen] at hf
  rw [lSize g hg]
  refine ⟨vp_in_nI hj (nO_31 g), ?_⟩
  have e1 : vA (uA S (300 + 10 * g + j) f) (200 + g) = vA S (200 + g) := by
    simp only [ac]
    rw [if_neg (by omega)]
  rw [e1]
  exact h f hf
theorem inv_rowset {C R : sT} (h : Inv C R) {j z : Nat} (hj : j < 6) (hz : z ≤ 40) {f F : Nat → Int32} (h1 : ∀ i, i < 40 → F (40 * j + i) = f i) (h9 : ∀ k, k < 40 * j ∨ 40 * j + 40 ≤ k → F k = vA R 0 k) : Inv (uA (uA C (300 + j) f) 200 (upd (vA C 200) j (nI z))) (uA (uA R 1 (upd (vA R 1) j (nI z))) 0 F) := by
  obtain ⟨⟨a1, a2, a3, a4, a5⟩, h2, h3, h4⟩ := id h
  refine inv_keepC h ⟨?_, ?_, ?_, ?_, ?_⟩ ?_ (relT_of h3 ?_ ?_ ?_ ?_) ?_ ?_ ?_ ?_
  case refine_6 =>
    intro r hr
    obtain ⟨b1, b2, b3⟩ := h2 r hr
    refine ⟨?_, ?_, fun k hk => ?_⟩
    · simp only [ac, up, if_true]
      by_cases e : r = j
      · subst e
        simp [up]
      · simp [e, up]
        exact b1
    · simp only [ac, up, if_true]
      by_cases e : r = j
      · subst e
        exact Or.inr ⟨z, hz, by simp [up]⟩
      · simp [e, up]
        exact b2
    · simp only [ac, if_true]
      rw [if_neg (by omega)]
      by_cases e : r = j
      · subst e
        rw [if_pos rfl]
        exact (h1 k hk).symm
      · rw [if_neg (by omega), h9 _ (by omega)]
        exact b3 k hk
  all_goals first | (simp [ac]; done) | (simp [ac]; assumption) | (simp only [ac]; (repeat rw [if_neg (by omega)]); done) | (simp only [ac]; (repeat rw [if_neg (by omega)]); assumption) | (intro r hr; simp only [ac]; (repeat rw [if_neg (by omega)]); done) | (intro r hr; simp only [ac]; (repeat rw [if_neg (by omega)]); apply a5; assumption) | (intro k hk; simp at hk; rcases hk with rfl | rfl | rfl | rfl | rfl <;> simp [ac]; done) | (intro k hk; simp at hk; rcases hk with rfl | rfl | rfl | rfl <;> simp [ac]; done) | (intro k hk; constructor <;> simp [ac] <;> omega) | (intro k hk; constructor <;> (simp only [ac]; (repeat rw [if_neg (by omega)])))
theorem q_rowR {j : Nat} (hj : j < 6) (x2 : Int32) (S : sT) (Q : Int32 → sT → Prop) (h : ∀ F : Nat → Int32, (∀ i, i < 40 → F (40 * j + i) = 0) → (∀ k, k < 40 * j ∨ 40 * j + 40 ≤ k → F k = vA S 0 k) → Q x2 (uA S 0 F)) : ∃ n : Nat, wl_X5_row_34 Q n (nI j) x2 (0 : Int32) S := by
  have h9 := pk_loop (fun n i (F : Nat → Int32) => wl_X5_row_34 Q n (nI j) x2 (nI i) (uA S 0 F)) (fun i F => (∀ k, k < i → F (40 * j + k) = 0) ∧ ∀ k, k < 40 * j ∨ 40 * j + 40 ≤ k → F k = vA S 0 k) 40 0 (vA S 0) (Nat.zero_le _) ⟨fun j hj => absurd hj (Nat.not_lt_zero j), fun _ _ => rfl⟩ ?_ ?_
  · obtain ⟨n, hn⟩ := h9
    rw [uA_id] at hn
    exact ⟨n, hn⟩
  · intro n F hF
    show wb_X5_row_34 Q _ (nI j) x2 (nI 40) (uA S 0 F)
    unfold wb_X5_row_34
    exact ⟨fun _ => h F hF.1 hF.2, fun hc => absurd (show (40 : Int32) ≤ nI 40 by decide) hc⟩
  · intro n i F hi hF ih
    show wb_X5_row_34 Q _ (nI j) x2 (nI i) (uA S 0 F)
    unfold wb_X5_row_34
    have e1 : (40 : Int32) * nI j + nI i = nI (40 * j + i) := by rw [show (40 : Int32) = nI 40 from rfl, pk_mul, nI_add]
    rw [e1]
    refine ⟨fun hc => absurd hc (nI_ge hi (by decide)), fun _ => ⟨vp_in_nI (by omega) (by decide), ?_⟩⟩
    have h2 := ih (upd F (40 * j + i) 0) ⟨fun k hk => by
      simp only [up]
      by_cases e : k = i
      · rw [if_pos (by omega)]
      · rw [if_neg (by omega)]
        exact hF.1 k (by omega), fun k hk => by
      simp only [up]
      rw [if_neg (by omega)]
      exact hF.2 k hk⟩
    rw [vA_uA, uA_uA, nI_clamp (by omega)]
    rw [← nI_1] at h2
    exact h2
theorem st_row_ok : st_row Inv := by
  intro x1 x2 C R hI
  obtain ⟨hM, hR, hT, hN⟩ := id hI
  unfold wp_X4_row
  rw [q_bears 0 (by decide)]
  have e6 : nI (nO 0) = 6 := rfl
  have hR9 : ∀ v : Int32, ¬ (0 ≤ x1 ∧ x1 ≤ 5) ∨ ¬ x2 ≤ 40 → v = -1 → wp_X5_row x1 x2 R (fun r2 SR1 => v = r2 ∧ Inv C SR1) := by
    intro v h hv
    unfold wp_X5_row
    rw [q_isRow]
    by_cases h1 : 0 ≤ x1 ∧ x1 ≤ 5
    · rw [if_pos h1]
      refine ⟨fun h9 => absurd h9 (by decide), fun _ => ⟨fun h9 => absurd h9 (by grind), fun _ => ⟨hv, hI⟩⟩⟩
    · rw [if_neg h1]
      exact ⟨fun _ => ⟨hv, hI⟩, fun h9 => absurd rfl h9⟩
  by_cases h1 : 0 ≤ x1 ∧ x1 < nI (nO 0)
  · rw [if_pos h1]
    obtain ⟨j, hj, rfl⟩ : ∃ j, j < 6 ∧ x1 = nI j := by
      rcases cIx x1 (show 6 < 2 ^ 31 by decide) with h9 | h9
      · exact absurd h1 h9
      · exact h9
    have hj5 : 0 ≤ nI j ∧ nI j ≤ 5 := ⟨nI_pos' (by omega), nI_le (show j ≤ 5 by omega) (by decide)⟩
    have hcl : (nI j).toNatClampNeg = j := nI_clamp (by omega)
    refine ⟨fun h9 => absurd h9 (by decide), fun _ => ⟨fun h2 => ⟨fun h3 => ?_, fun h3 => ?_⟩, fun h2 => hR9 _ (Or.inr h2) rfl⟩⟩
    · obtain ⟨z, hz, rfl⟩ : ∃ z, z < 41 ∧ x2 = nI z := by
        rcases cIx x2 (show 41 < 2 ^ 31 by decide) with h9 | h9
        · exfalso
          have : nI 41 = 41 := rfl
          grind
        · exact h9
      refine q_layOut 0 (by decide) hj _ _ C _ (fun f hf => ?_)
      show wp_X5_row _ _ _ _
      unfold wp_X5_row
      rw [q_isRow, if_pos hj5]
      refine ⟨fun h9 => absurd h9 (by decide), fun _ => ⟨fun _ => ⟨fun _ => ⟨vp_in_nI hj (by decide), ?_⟩, fun h9 => absurd h3 h9⟩, fun h9 => absurd h2 h9⟩⟩
      rw [hcl]
      refine q_rowR hj _ _ _ (fun F h5 h6 => ⟨rfl, ?_⟩)
      refine inv_rowset hI hj (by omega) (fun i hi => ?_) (fun k hk => ?_)
      · rw [h5 i hi, hf i hi]
      · rw [h6 k hk]
        simp only [ac]
        simp
    · refine q_foundC 5 (by decide) C _ ?_
      show wp_X5_row _ _ _ _
      unfold wp_X5_row
      rw [q_isRow, if_pos hj5]
      exact ⟨fun h9 => absurd h9 (by decide), fun _ => ⟨fun _ => ⟨fun h9 => absurd h9 h3, fun _ => q_foundR 5 (by decide) R _ ⟨rfl, inv_fd hI 5 (by decide)⟩⟩, fun h9 => absurd h2 h9⟩⟩
  · rw [if_neg h1]
    exact ⟨fun _ => hR9 _ (Or.inl (by grind)) rfl, fun h9 => absurd rfl h9⟩
theorem inv_textset {C R : sT} (h : Inv C R) {j z : Nat} (hj : j < 4) (hz : z ≤ 60) {f F : Nat → Int32} (h1 : ∀ i, i < 60 → F (60 * j + i) = f i) (h9 : ∀ k, k < 60 * j ∨ 60 * j + 60 ≤ k → F k = vA R 2 k) : Inv (uA (uA C (310 + j) f) 201 (upd (vA C 201) j (nI z))) (uA (uA R 3 (upd (vA R 3) j (nI z))) 2 F) := by
  obtain ⟨⟨a1, a2, a3, a4, a5⟩, h2, h3, h4⟩ := id h
  refine inv_keepC h ⟨?_, ?_, ?_, ?_, ?_⟩ (relR_of h2 ?_ ?_ ?_ ?_) ?_ ?_ ?_ ?_ ?_
  case refine_10 =>
    intro r hr
    obtain ⟨b1, b2, b3⟩ := h3 r hr
    refine ⟨?_, ?_, fun k hk => ?_⟩
    · simp only [ac, up, if_true]
      by_cases e : r = j
      · subst e
        simp [up]
      · simp [e, up]
        exact b1
    · simp only [ac, up, if_true]
      by_cases e : r = j
      · subst e
        exact Or.inr ⟨z, hz, by simp [up]⟩
      · simp [e, up]
        exact b2
    · simp only [ac, if_true]
      rw [if_neg (by omega)]
      by_cases e : r = j
      · subst e
        rw [if_pos rfl]
        exact (h1 k hk).symm
      · rw [if_neg (by omega), h9 _ (by omega)]
        exact b3 k hk
  all_goals first | (simp [ac]; done) | (simp [ac]; assumption) | (simp only [ac]; (repeat rw [if_neg (by omega)]); done) | (simp only [ac]; (repeat rw [if_neg (by omega)]); assumption) | (intro r hr; simp only [ac]; (repeat rw [if_neg (by omega)]); done) | (intro r hr; simp only [ac]; (repeat rw [if_neg (by omega)]); apply a5; assumption) | (intro k hk; simp at hk; rcases hk with rfl | rfl | rfl | rfl | rfl <;> simp [ac]; done) | (intro k hk; simp at hk; rcases hk with rfl | rfl | rfl | rfl <;> simp [ac]; done) | (intro k hk; constructor <;> simp [ac] <;> omega) | (intro k hk; constructor <;> (simp only [ac]; (repeat rw [if_neg (by omega)])))
theorem q_textR {j : Nat} (hj : j < 4) (x2 : Int32) (S : sT) (Q : Int32 → sT → Prop) (h : ∀ F : Nat → Int32, (∀ i, i < 60 → F (60 * j + i) = 32) → (∀ k, k < 60 * j ∨ 60 * j + 60 ≤ k → F k = vA S 2 k) → Q x2 (uA S 2 F)) : ∃ n : Nat, wl_X5_text_34 Q n (nI j) x2 (0 : Int32) S := by
  have h9 := pk_loop (fun n i (F : Nat → Int32) => wl_X5_text_34 Q n (nI j) x2 (nI i) (uA S 2 F)) (fun i F => (∀ k, k < i → F (60 * j + k) = 32) ∧ ∀ k, k < 60 * j ∨ 60 * j + 60 ≤ k → F k = vA S 2 k) 60 0 (vA S 2) (Nat.zero_le _) ⟨fun j hj => absurd hj (Nat.not_lt_zero j), fun _ _ => rfl⟩ ?_ ?_
  · obtain ⟨n, hn⟩ := h9
    rw [uA_id] at hn
    exact ⟨n, hn⟩
  · intro n F hF
    show wb_X5_text_34 Q _ (nI j) x2 (nI 60) (uA S 2 F)
    unfold wb_X5_text_34
    exact ⟨fun _ => h F hF.1 hF.2, fun hc => absurd (show (60 : Int32) ≤ nI 60 by decide) hc⟩
  · intro n i F hi hF ih
    show wb_X5_text_34 Q _ (nI j) x2 (nI i) (uA S 2 F)
    unfold wb_X5_text_34
    have e1 : (60 : Int32) * nI j + nI i = nI (60 * j + i) := by rw [show (60 : Int32) = nI 60 from rfl, pk_mul, nI_add]
    rw [e1]
    refine ⟨fun hc => absurd hc (nI_ge hi (by decide)), fun _ => ⟨vp_in_nI (by omega) (by decide), ?_⟩⟩
    have h2 := ih (upd F (60 * j + i) 32) ⟨fun k hk => by
      simp only [up]
      by_cases e : k = i
      · rw [if_pos (by omega)]
      · rw [if_neg (by omega)]
        exact hF.1 k (by omega), fun k hk => by
      simp only [up]
      rw [if_neg (by omega)]
      exact hF.2 k hk⟩
    rw [vA_uA, uA_uA, nI_clamp (by omega)]
    rw [← nI_1] at h2
    exact h2
theorem st_text_ok : st_text Inv := by
  intro x1 x2 C R hI
  obtain ⟨hM, hR, hT, hN⟩ := id hI
  unfold wp_X4_text
  rw [q_bears 1 (by decide)]
  have e6 : nI (nO 1) = 4 := rfl
  have hR9 : ∀ v : Int32, ¬ (0 ≤ x1 ∧ x1 ≤ 3) ∨ ¬ x2 ≤ 60 → v = -1 → wp_X5_text x1 x2 R (fun r2 SR1 => v = r2 ∧ Inv C SR1) := by
    intro v h hv
    unfold wp_X5_text
    rw [q_isText]
    by_cases h1 : 0 ≤ x1 ∧ x1 ≤ 3
    · rw [if_pos h1]
      refine ⟨fun h9 => absurd h9 (by decide), fun _ => ⟨fun h9 => absurd h9 (by grind), fun _ => ⟨hv, hI⟩⟩⟩
    · rw [if_neg h1]
      exact ⟨fun _ => ⟨hv, hI⟩, fun h9 => absurd rfl h9⟩
  by_cases h1 : 0 ≤ x1 ∧ x1 < nI (nO 1)
  · rw [if_pos h1]
    obtain ⟨j, hj, rfl⟩ : ∃ j, j < 4 ∧ x1 = nI j := by
      rcases cIx x1 (show 4 < 2 ^ 31 by decide) with h9 | h9
      · exact absurd h1 h9
      · exact h9
    have hj5 : 0 ≤ nI j ∧ nI j ≤ 3 := ⟨nI_pos' (by omega), nI_le (show j ≤ 3 by omega) (by decide)⟩
    have hcl : (nI j).toNatClampNeg = j := nI_clamp (by omega)
    refine ⟨fun h9 => absurd h9 (by decide), fun _ => ⟨fun h2 => ⟨fun h3 => ?_, fun h3 => ?_⟩, fun h2 => hR9 _ (Or.inr h2) rfl⟩⟩
    · obtain ⟨z, hz, rfl⟩ : ∃ z, z < 61 ∧ x2 = nI z := by
        rcases cIx x2 (show 61 < 2 ^ 31 by decide) with h9 | h9
        · exfalso
          have : nI 61 = 61 := rfl
          grind
        · exact h9
      refine q_layOut 1 (by decide) hj _ _ C _ (fun f hf => ?_)
      show wp_X5_text _ _ _ _
      unfold wp_X5_text
      rw [q_isText, if_pos hj5]
      refine ⟨fun h9 => absurd h9 (by decide), fun _ => ⟨fun _ => ⟨fun _ => ⟨vp_in_nI hj (by decide), ?_⟩, fun h9 => absurd h3 h9⟩, fun h9 => absurd h2 h9⟩⟩
      rw [hcl]
      refine q_textR hj _ _ _ (fun F h5 h6 => ⟨rfl, ?_⟩)
      refine inv_textset hI hj (by omega) (fun i hi => ?_) (fun k hk => ?_)
      · rw [h5 i hi, hf i hi]
      · rw [h6 k hk]
        simp only [ac]
        simp
    · refine q_foundC 5 (by decide) C _ ?_
      show wp_X5_text _ _ _ _
      unfold wp_X5_text
      rw [q_isText, if_pos hj5]
      exact ⟨fun h9 => absurd h9 (by decide), fun _ => ⟨fun _ => ⟨fun h9 => absurd h9 h3, fun _ => q_foundR 5 (by decide) R _ ⟨rfl, inv_fd hI 5 (by decide)⟩⟩, fun h9 => absurd h2 h9⟩⟩
  · rw [if_neg h1]
    exact ⟨fun _ => hR9 _ (Or.inl (by grind)) rfl, fun h9 => absurd rfl h9⟩
