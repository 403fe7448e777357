theorem q_isSpan (x n z : Int32) (S : sT) (Q : Int32 → sT → Prop) : wp_X4_isSpan x n z S Q ↔ Q (if ¬ x < 0 ∧ ¬ z < n ∧ ¬ z - n < x then 1 else 0) S := by
  unfold wp_X4_isSpan
  grind
theorem spanC (x n : Int32) {z : Nat} (hz : z ≤ 40) (hn : 0 ≤ n) : (¬ x < 0 ∧ ¬ nI z < n ∧ ¬ nI z - n < x) ↔ (0 ≤ x.toInt ∧ x.toInt + n.toInt ≤ z) := by
  have hz1 : (nI z).toInt = z := nI_toInt (by omega)
  have h0 : (0 : Int32).toInt = 0 := rfl
  rw [Int32.le_iff_toInt_le, h0] at hn
  rw [Int32.lt_iff_toInt_lt, Int32.lt_iff_toInt_lt, Int32.lt_iff_toInt_lt, hz1, h0]
  by_cases hb : (z : Int) < n.toInt
  · omega
  · have e : (nI z - n).toInt = z - n.toInt := by
      rw [Int32.toInt_sub, hz1]
      apply Int.bmod_eq_of_le <;> omega
    rw [e]
    omega
theorem spanR (x n : Int32) {z : Nat} (hz : z ≤ 40) (hn : 0 ≤ n) : (lg_cmp (x.toInt64 + n.toInt64) (nI z).toInt64 ≤ 0) ↔ x.toInt + n.toInt ≤ z := by
  have hz1 : (nI z).toInt64.toInt = z := by rw [Int32.toInt_toInt64, nI_toInt (by omega)]
  have e1 : (x.toInt64 + n.toInt64).toInt = x.toInt + n.toInt := by
    rw [Int64.toInt_add, Int32.toInt_toInt64, Int32.toInt_toInt64]
    have a1 := Int32.le_toInt x
    have a2 := Int32.toInt_lt x
    have a3 := Int32.le_toInt n
    have a4 := Int32.toInt_lt n
    apply Int.bmod_eq_of_le <;> omega
  have e2 : lg_cmp (x.toInt64 + n.toInt64) (nI z).toInt64 ≤ 0 ↔ ¬ (nI z).toInt64 < x.toInt64 + n.toInt64 := by
    unfold lg_cmp
    grind
  rw [e2, Int64.lt_iff_toInt_lt, e1, hz1]
  omega
theorem spanR' (x n : Int32) {z : Nat} (hz : z ≤ 40) (hn : 0 ≤ n) : (0 < lg_cmp (x.toInt64 + n.toInt64) (nI z).toInt64) ↔ ¬ x.toInt + n.toInt ≤ z := by
  rw [← spanR x n hz hn]
  grind
theorem nat_of (x : Int32) (h : 0 ≤ x.toInt) : ∃ i : Nat, i < 2 ^ 31 ∧ x = nI i ∧ x.toInt = i := by
  obtain ⟨i, hi, e⟩ := nI_of (x := x) (by
    rw [Int32.lt_iff_toInt_lt]
    have h0 : (0 : Int32).toInt = 0 := rfl
    omega)
  exact ⟨i, hi, e, by rw [e]; exact nI_toInt hi⟩
/-- the reference's own copying, place by place -/
theorem q_copyR {a b i j m : Nat} (ha : a < 6) (hb : b < 6) (hi : i + m ≤ 40) (hj : j + m ≤ 40) (S : sT) (Q : Int32 → sT → Prop) (h : ∀ F : Nat → Int32, (∀ k, k < m → F (40 * b + j + k) = vA S 0 (40 * a + i + k)) → (∀ k, k < 40 * b + j ∨ 40 * b + j + m ≤ k → F k = vA S 0 k) → Q 1 (uA S 0 F)) : ∃ n : Nat, wl_X5_copy_104 Q n (nI a) (nI i) (nI b) (nI j) (nI m) (0 : Int32) S := by
  have e40 : ∀ u v w : Nat, (40 : Int32) * nI u + nI v + nI w = nI (40 * u + v + w) := fun u v w => by rw [show (40 : Int32) = nI 40 from rfl, pk_mul, nI_add, nI_add]
  have h9 := pk_loop (fun n k (F : Nat → Int32) => wl_X5_copy_104 Q n (nI a) (nI i) (nI b) (nI j) (nI m) (nI k) (uA S 0 F)) (fun k F => (∀ p, p < m → ((j ≤ i → p < k) ∧ (i < j → m - 1 - p < k)) → F (40 * b + j + p) = vA S 0 (40 * a + i + p)) ∧ ∀ q, (∀ p, p < m → ((j ≤ i → p < k) ∧ (i < j → m - 1 - p < k)) → q ≠ 40 * b + j + p) → F q = vA S 0 q) m 0 (vA S 0) (Nat.zero_le _) ⟨fun p hp h9 => by omega, fun _ _ => rfl⟩ ?_ ?_
  · obtain ⟨n, hn⟩ := h9
    rw [uA_id] at hn
    exact ⟨n, hn⟩
  · intro n F hF
    show wb_X5_copy_104 Q _ (nI a) (nI i) (nI b) (nI j) (nI m) (nI m) (uA S 0 F)
    unfold wb_X5_copy_104
    refine ⟨fun _ => h F (fun k hk => hF.1 k hk (by omega)) (fun k hk => hF.2 k (fun p hp _ => by omega)), fun hc => absurd (nI_le (Nat.le_refl m) (by omega)) hc⟩
  · intro n k F hk hF ih
    show wb_X5_copy_104 Q _ (nI a) (nI i) (nI b) (nI j) (nI m) (nI k) (uA S 0 F)
    unfold wb_X5_copy_104
    have step : ∀ p : Nat, p < m → ((j ≤ i → p = k) ∧ (i < j → p = m - 1 - k)) → wb_X5_copy_129 Q (fun x1 x2 x3 x4 x5 x6 S => wl_X5_copy_104 Q n x1 x2 x3 x4 x5 x6 S) (nI a) (nI i) (nI b) (nI j) (nI m) (nI k) (nI p) (uA S 0 F) := by
      intro p hp hpk
      unfold wb_X5_copy_129
      rw [e40, e40]
      refine ⟨vp_in_nI (by omega) (by decide), vp_in_nI (by omega) (by decide), ?_⟩
      intro S3 eS3
      rw [eS3, vA_uA, uA_uA, nI_clamp (show 40 * b + j + p < 2 ^ 31 by omega), nI_clamp (show 40 * a + i + p < 2 ^ 31 by omega)]
      have hval : F (40 * a + i + p) = vA S 0 (40 * a + i + p) := hF.2 _ (fun q hq h8 => by omega)
      rw [hval]
      have h2 := ih (upd F (40 * b + j + p) (vA S 0 (40 * a + i + p))) ⟨fun q hq h8 => by
        simp only [up]
        by_cases e : q = p
        · subst e
          simp
        · rw [if_neg (by omega)]
          exact hF.1 q hq (by omega), fun q h8 => by
        simp only [up]
        rw [if_neg (h8 p hp (by omega))]
        exact hF.2 q (fun r hr h7 => h8 r hr (by omega))⟩
      rw [← nI_1] at h2
      exact h2
    refine ⟨fun hc => absurd hc (nI_ge hk (by omega)), fun _ => ⟨fun hc => ?_, fun hc => ?_⟩⟩
    · have hji : j ≤ i := (nI_leI (by omega) (by omega)).mp hc
      exact step k hk (by omega)
    · have hji : ¬ j ≤ i := fun h8 => hc (nI_le h8 (by omega))
      have e : nI m - 1 - nI k = nI (m - 1 - k) := by
        rw [show (1 : Int32) = nI 1 from rfl, pk_sub (by omega), pk_sub (by omega)]
      rw [e]
      exact step (m - 1 - k) (by omega) (by omega)
theorem inv_copy {C R : sT} (h : Inv C R) {a b i j m : Nat} (ha : a < 6) (hb : b < 6) (hi : i + m ≤ 40) (hj : j + m ≤ 40) {F : Nat → Int32} (h1 : ∀ k, k < m → F (40 * b + j + k) = vA R 0 (40 * a + i + k)) (h9 : ∀ k, k < 40 * b + j ∨ 40 * b + j + m ≤ k → F k = vA R 0 k) : Inv (uA C (300 + b) (va_cpy (vA C (300 + a)) (vA C (300 + b)) i j m)) (uA R 0 F) := by
  obtain ⟨⟨a1, a2, a3, a4, a5⟩, h2, h3, h4⟩ := id h
  refine inv_keepC h ⟨?_, ?_, ?_, ?_, ?_⟩ ?_ (relT_of h3 ?_ ?_ ?_ ?_) ?_ ?_ ?_ ?_
  case refine_6 =>
    intro r hr
    obtain ⟨b1, b2, b3⟩ := h2 r hr
    obtain ⟨-, -, d3⟩ := h2 a ha
    refine ⟨?_, ?_, fun k hk => ?_⟩
    · simp only [ac]
      rw [if_neg (by omega)]
      exact b1
    · simp [ac]
      exact b2
    · simp only [ac, if_true]
      by_cases e : r = b
      · subst e
        rw [if_pos rfl]
        by_cases e2 : j ≤ k ∧ k < j + m
        · rw [pk_cpy_in e2.1 e2.2, d3 _ (by omega)]
          have h8 := h1 (k - j) (by omega)
          rw [show 40 * r + j + (k - j) = 40 * r + k by omega, show 40 * a + i + (k - j) = 40 * a + (i + (k - j)) by omega] at h8
          exact h8.symm
        · rw [pk_cpy_out (by omega), h9 _ (by omega)]
          exact b3 k hk
      · rw [if_neg (by omega), h9 _ (by omega)]
        exact b3 k hk
  all_goals first | (simp [ac]; done) | (simp [ac]; assumption) | (simp only [ac]; (repeat rw [if_neg (by omega)]); done) | (simp only [ac]; (repeat rw [if_neg (by omega)]); assumption) | (intro r hr; simp only [ac]; (repeat rw [if_neg (by omega)]); done) | (intro r hr; simp only [ac]; (repeat rw [if_neg (by omega)]); apply a5; assumption) | (intro k hk; simp at hk; rcases hk with rfl | rfl | rfl | rfl | rfl <;> simp [ac]; done) | (intro k hk; simp at hk; rcases hk with rfl | rfl | rfl | rfl <;> simp [ac]; done) | (intro k hk; constructor <;> simp [ac] <;> omega) | (intro k hk; constructor <;> (simp only [ac]; (repeat rw [if_neg (by omega)])))
theorem st_copy_ok : st_copy Inv := by
  intro x1 x2 x3 x4 x5 C R hI
  obtain ⟨hM, hR, hT, hN⟩ := id hI
  have e6 : nI (nO 0) = 6 := rfl
  have hbad : ∀ v : Int32, (¬ (0 ≤ x1 ∧ x1 ≤ 5) ∨ ¬ (0 ≤ x3 ∧ x3 ≤ 5)) → v = -1 → wp_X5_copy x1 x2 x3 x4 x5 R (fun r2 SR1 => v = r2 ∧ Inv C SR1) := by
    intro v h hv
    unfold wp_X5_copy
    rw [q_isRow]
    by_cases h1 : 0 ≤ x1 ∧ x1 ≤ 5
    · rw [if_pos h1, q_isRow, if_neg (by grind)]
      exact ⟨fun h9 => absurd h9 (by decide), fun _ => ⟨fun h9 => absurd rfl h9, fun _ => ⟨hv, hI⟩⟩⟩
    · rw [if_neg h1]
      exact ⟨fun _ => ⟨hv, hI⟩, fun h9 => absurd rfl h9⟩
  unfold wp_X4_copy
  rw [q_bears 0 (by decide)]
  by_cases h1 : 0 ≤ x1 ∧ x1 < nI (nO 0)
  rotate_left
  · rw [if_neg h1]
    exact ⟨fun _ => hbad _ (Or.inl (by grind)) rfl, fun h9 => absurd rfl h9⟩
  rw [if_pos h1]
  refine ⟨fun h9 => absurd h9 (by decide), fun _ => ?_⟩
  rw [q_bears 0 (by decide)]
  by_cases h3 : 0 ≤ x3 ∧ x3 < nI (nO 0)
  rotate_left
  · rw [if_neg h3]
    exact ⟨fun h9 => absurd rfl h9, fun _ => hbad _ (Or.inr (by grind)) rfl⟩
  rw [if_pos h3]
  obtain ⟨a, ha, rfl⟩ : ∃ a, a < 6 ∧ x1 = nI a := by
    rcases cIx x1 (show 6 < 2 ^ 31 by decide) with h9 | h9
    · exact absurd h1 h9
    · exact h9
  obtain ⟨b, hb, rfl⟩ : ∃ b, b < 6 ∧ x3 = nI b := by
    rcases cIx x3 (show 6 < 2 ^ 31 by decide) with h9 | h9
    · exact absurd h3 h9
    · exact h9
  have ha5 : 0 ≤ nI a ∧ nI a ≤ 5 := ⟨nI_pos' (by omega), nI_le (show a ≤ 5 by omega) (by decide)⟩
  have hb5 : 0 ≤ nI b ∧ nI b ≤ 5 := ⟨nI_pos' (by omega), nI_le (show b ≤ 5 by omega) (by decide)⟩
  have hca : (nI a).toNatClampNeg = a := nI_clamp (by omega)
  have hcb : (nI b).toNatClampNeg = b := nI_clamp (by omega)
  obtain ⟨hsa, hza, -⟩ := hR a ha
  obtain ⟨hsb, hzb, -⟩ := hR b hb
  refine ⟨fun _ => ⟨fun h5 => ?_, fun h5 => ?_⟩, fun h9 => absurd h9 (by decide)⟩
  rotate_left
  · refine q_foundC 5 (by decide) C _ ?_
    show wp_X5_copy _ _ _ _ _ _ _
    unfold wp_X5_copy
    rw [q_isRow, if_pos ha5, q_isRow, if_pos hb5]
    exact ⟨fun h9 => absurd h9 (by decide), fun _ => ⟨fun _ => ⟨fun h9 => absurd h9 h5, fun _ => q_foundR 5 (by decide) R _ ⟨rfl, inv_fd hI 5 (by decide)⟩⟩, fun h9 => absurd h9 (by decide)⟩⟩
  refine q_holds 0 (by decide) a ha C _ ?_
  rw [show 200 + 0 = 200 from rfl, hsa]
  rcases hza with hza | ⟨za, hza40, hza⟩
  · rw [if_pos hza]
    refine ⟨fun _ => ?_, fun h9 => absurd rfl h9⟩
    unfold wb_X4_copy_57
    refine q_foundC 1 (by decide) C _ ?_
    show wp_X5_copy _ _ _ _ _ _ _
    unfold wp_X5_copy
    rw [q_isRow, if_pos ha5, q_isRow, if_pos hb5, hca, hza]
    exact ⟨fun h9 => absurd h9 (by decide), fun _ => ⟨fun _ => ⟨fun _ => ⟨vp_in_nI ha (by decide), fun _ => q_foundR 1 (by decide) R _ ⟨rfl, inv_fd hI 1 (by decide)⟩, fun h9 => absurd (by decide) h9⟩, fun h9 => absurd h5 h9⟩, fun h9 => absurd h9 (by decide)⟩⟩
  rw [if_neg (by rw [hza]; exact nIne (by omega))]
  refine ⟨fun h9 => absurd h9 (by decide), fun _ => ?_⟩
  refine q_holds 0 (by decide) b hb C _ ?_
  rw [show 200 + 0 = 200 from rfl, hsb]
  have hnna : ¬ nI za < 0 := nI_pos (by omega)
  rcases hzb with hzb | ⟨zb, hzb40, hzb⟩
  · rw [if_pos hzb]
    refine ⟨fun h9 => absurd rfl h9, fun _ => ?_⟩
    unfold wb_X4_copy_57
    refine q_foundC 1 (by decide) C _ ?_
    show wp_X5_copy _ _ _ _ _ _ _
    unfold wp_X5_copy
    rw [q_isRow, if_pos ha5, q_isRow, if_pos hb5, hca, hcb, hza, hzb]
    exact ⟨fun h9 => absurd h9 (by decide), fun _ => ⟨fun _ => ⟨fun _ => ⟨vp_in_nI ha (by decide), fun h9 => absurd h9 hnna, fun _ => ⟨vp_in_nI hb (by decide), fun h9 => absurd h9 (by decide), fun _ => q_foundR 1 (by decide) R _ ⟨rfl, inv_fd hI 1 (by decide)⟩⟩⟩, fun h9 => absurd h5 h9⟩, fun h9 => absurd h9 (by decide)⟩⟩
  rw [if_neg (by rw [hzb]; exact nIne (by omega))]
  have hnnb : 0 ≤ nI zb := nI_pos' (by omega)
  have h0 : (0 : Int32).toInt = 0 := rfl
  -- the reference: found, or copied
  have hno : ∀ v : Int32, ¬ ((0 ≤ x2.toInt ∧ x2.toInt + x5.toInt ≤ za) ∧ (0 ≤ x4.toInt ∧ x4.toInt + x5.toInt ≤ zb)) → v = -3 → wp_X5_copy (nI a) x2 (nI b) x4 x5 R (fun r2 SR1 => v = r2 ∧ Inv (fdC 2 C) SR1) := by
    intro v hn hv
    unfold wp_X5_copy
    rw [q_isRow, if_pos ha5, q_isRow, if_pos hb5, hca, hcb, hza, hzb]
    have hf : wb_X5_copy_95 (fun r2 SR1 => v = r2 ∧ Inv (fdC 2 C) SR1) R := by
      unfold wb_X5_copy_95
      exact q_foundR 2 (by decide) R _ ⟨hv, inv_fd hI 2 (by decide)⟩
    refine ⟨fun h9 => absurd h9 (by decide), fun _ => ⟨fun _ => ⟨fun _ => ⟨vp_in_nI ha (by decide), fun h9 => absurd h9 hnna, fun _ => ⟨vp_in_nI hb (by decide), fun _ => ⟨fun _ => hf, fun h6 => ⟨fun _ => hf, fun h7 => ⟨vp_in_nI ha (by decide), fun _ => hf, fun h8 => ⟨vp_in_nI hb (by decide), fun h10 => ?_, fun _ => hf⟩⟩⟩⟩, fun h9 => absurd hnnb h9⟩⟩, fun h9 => absurd h5 h9⟩, fun h9 => absurd h9 (by decide)⟩⟩
    exfalso
    rw [spanR' x2 x5 hza40 h5] at h8
    rw [spanR x4 x5 hzb40 h5] at h10
    rw [Int32.lt_iff_toInt_lt, h0] at h6 h7
    omega
  refine ⟨fun _ => ⟨vp_in_nI ha (by decide), ?_⟩, fun h9 => absurd h9 (by decide)⟩
  rw [hca, hsa, hza, q_isSpan]
  by_cases hp1 : ¬ x2 < 0 ∧ ¬ nI za < x5 ∧ ¬ nI za - x5 < x2
  rotate_left
  · rw [if_neg hp1]
    refine ⟨fun _ => ?_, fun h9 => absurd rfl h9⟩
    unfold wb_X4_copy_100
    rw [spanC x2 x5 hza40 h5] at hp1
    exact q_foundC 2 (by decide) C _ (hno _ (fun h9 => hp1 h9.1) rfl)
  rw [if_pos hp1]
  refine ⟨fun h9 => absurd h9 (by decide), fun _ => ⟨vp_in_nI hb (by decide), ?_⟩⟩
  rw [hcb, hsb, hzb, q_isSpan]
  by_cases hp2 : ¬ x4 < 0 ∧ ¬ nI zb < x5 ∧ ¬ nI zb - x5 < x4
  rotate_left
  · rw [if_neg hp2]
    refine ⟨fun h9 => absurd rfl h9, fun _ => ?_⟩
    unfold wb_X4_copy_100
    rw [spanC x4 x5 hzb40 h5] at hp2
    exact q_foundC 2 (by decide) C _ (hno _ (fun h9 => hp2 h9.2) rfl)
  rw [if_pos hp2]
  refine ⟨fun _ => ?_, fun h9 => absurd h9 (by decide)⟩
  have hs1 := (spanC x2 x5 hza40 h5).mp hp1
  have hs2 := (spanC x4 x5 hzb40 h5).mp hp2
  obtain ⟨i, hi31, rfl, ei⟩ := nat_of x2 hs1.1
  obtain ⟨j, hj31, rfl, ej⟩ := nat_of x4 hs2.1
  obtain ⟨m, hm31, rfl, em⟩ := nat_of x5 (by rw [Int32.le_iff_toInt_le, h0] at h5; exact h5)
  rw [nI_clamp hi31, nI_clamp hj31, nI_clamp hm31]
  refine ⟨vp_in_nI ha (by decide), vp_in_nI hb (by decide), nI_pos hi31, nI_pos hj31, nI_pos hm31, by omega, by omega, ?_⟩
  intro S17 eS17
  show wp_X5_copy _ _ _ _ _ _ _
  unfold wp_X5_copy
  rw [q_isRow, if_pos ha5, q_isRow, if_pos hb5, hca, hcb, hza, hzb, eS17]
  refine ⟨fun h9 => absurd h9 (by decide), fun _ => ⟨fun _ => ⟨fun _ => ⟨vp_in_nI ha (by decide), fun h9 => absurd h9 hnna, fun _ => ⟨vp_in_nI hb (by decide), fun _ => ⟨fun h9 => absurd h9 (nI_pos hi31), fun _ => ⟨fun h9 => absurd h9 (nI_pos hj31), fun _ => ⟨vp_in_nI ha (by decide), fun h9 => ?_, fun _ => ⟨vp_in_nI hb (by decide), fun _ => ?_, fun h9 => ?_⟩⟩⟩⟩, fun h9 => absurd hnnb h9⟩⟩, fun h9 => absurd h5 h9⟩, fun h9 => absurd h9 (by decide)⟩⟩
  · rw [spanR' _ _ hza40 h5] at h9
    exact absurd hs1.2 h9
  · exact q_copyR ha hb (by omega) (by omega) R _ (fun F g1 g2 => ⟨rfl, inv_copy hI ha hb (by omega) (by omega) g1 g2⟩)
  · rw [spanR _ _ hzb40 h5] at h9
    exact absurd hs2.2 h9
