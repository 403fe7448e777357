theorem inv_put {C R : sT} (h : Inv C R) {j i : Nat} (hj : j < 4) (hi : i < 60) (v : Int32) : Inv (uA C (310 + j) (upd (vA C (310 + j)) i v)) (uA R 2 (upd (vA R 2) (60 * j + i) v)) := by
  obtain ⟨⟨a1, a2, a3, a4, a5⟩, h2, h3, h4⟩ := id h
  refine inv_keepC h ⟨?_, ?_, ?_, ?_, ?_⟩ (relR_of h2 ?_ ?_ ?_ ?_) ?_ ?_ ?_ ?_ ?_
  case refine_10 =>
    intro r hr
    obtain ⟨b1, b2, b3⟩ := h3 r hr
    refine ⟨?_, ?_, fun k hk => ?_⟩
    · simp only [ac]
      rw [if_neg (by omega)]
      exact b1
    · simp [ac]
      exact b2
    · simp only [ac, if_true]
      by_cases e : r = j
      · subst e
        simp only [if_true, up]
        by_cases e2 : k = i
        · subst e2
          simp
        · rw [if_neg e2, if_neg (by omega)]
          exact b3 k hk
      · rw [if_neg (by omega)]
        simp only [up]
        rw [if_neg (by omega)]
        exact b3 k hk
  all_goals first | (simp [ac]; done) | (simp [ac]; assumption) | (simp only [ac]; (repeat rw [if_neg (by omega)]); done) | (simp only [ac]; (repeat rw [if_neg (by omega)]); assumption) | (intro r hr; simp only [ac]; (repeat rw [if_neg (by omega)]); done) | (intro r hr; simp only [ac]; (repeat rw [if_neg (by omega)]); apply a5; assumption) | (intro k hk; simp at hk; rcases hk with rfl | rfl | rfl | rfl | rfl <;> simp [ac]; done) | (intro k hk; simp at hk; rcases hk with rfl | rfl | rfl | rfl <;> simp [ac]; done) | (intro k hk; constructor <;> simp [ac] <;> omega) | (intro k hk; constructor <;> (simp only [ac]; (repeat rw [if_neg (by omega)])))
theorem st_put_ok : st_put Inv := by
  intro x1 x2 x3 C R hI
  obtain ⟨hM, hR, hT, hN⟩ := id hI
  unfold wp_X4_put
  rcases cIx x1 (show 4 < 2 ^ 31 by decide) with h1 | ⟨j, hj, rfl⟩
  · refine eC_bad 1 (by decide) h1 ⟨fun h9 => absurd h9 (by decide), fun _ => ?_⟩
    have h2 : ¬ (0 ≤ x1 ∧ x1 ≤ 3) := fun h9 => h1 ⟨h9.1, by have : nI 4 = 4 := rfl; grind⟩
    show wp_X5_put _ _ _ _ _
    unfold wp_X5_put
    rw [q_isText, if_neg h2]
    exact ⟨fun h9 => absurd rfl h9, fun _ => ⟨rfl, hI⟩⟩
  · have hj5 : 0 ≤ nI j ∧ nI j ≤ 3 := ⟨nI_pos' (by omega), nI_le (show j ≤ 3 by omega) (by decide)⟩
    obtain ⟨hs, hz, hcell⟩ := hT j hj
    rcases hz with hz | ⟨z, hz40, hz⟩
    · refine eC_no 1 (by decide) hj (hs.trans hz) ⟨fun h9 => absurd h9 (by decide), fun _ => ?_⟩
      show wp_X5_put _ _ _ _ _
      unfold wp_X5_put
      rw [q_isText, if_pos hj5]
      refine ⟨fun _ => ⟨vp_in_nI hj (by decide), ?_, fun _ => q_foundR 1 (by decide) R _ ⟨rfl, inv_fd hI 1 (by decide)⟩⟩, fun h9 => absurd h9 (by decide)⟩
      rw [nI_clamp (by omega), hz]
      exact fun h9 => absurd h9 (by decide)
    · rcases cIx x2 (show z < 2 ^ 31 by omega) with h3 | ⟨i, hi, rfl⟩
      · refine eC_out 1 (by decide) hj (show z < 2 ^ 31 by omega) (hs.trans hz) h3 ⟨fun h9 => absurd h9 (by decide), fun _ => ?_⟩
        show wp_X5_put _ _ _ _ _
        unfold wp_X5_put
        rw [q_isText, if_pos hj5]
        refine ⟨fun _ => ⟨vp_in_nI hj (by decide), fun _ => ⟨vp_in_nI hj (by decide), ?_⟩, ?_⟩, fun h9 => absurd h9 (by decide)⟩
        · rw [nI_clamp (by omega), hz, q_in x2 0 (nI z - 1) 0 _ (by decide) rfl, if_neg (fun h9 => h3 ((le_pred x2 (by omega)).mp h9))]
          exact ⟨fun h9 => absurd rfl h9, fun _ => q_foundR 2 (by decide) R _ ⟨rfl, inv_fd hI 2 (by decide)⟩⟩
        · rw [nI_clamp (by omega), hz]
          exact fun h9 => absurd (nI_pos' (show z < 2 ^ 31 by omega)) h9
      · have hi40 : i < 60 := by omega
        have e1 : (60 : Int32) * nI j + nI i = nI (60 * j + i) := by rw [show (60 : Int32) = nI 60 from rfl, pk_mul, nI_add]
        refine eC_in 1 (by decide) hj (show z < 2 ^ 31 by omega) hi (hs.trans hz) ⟨fun _ => ⟨vp_in_nI hj (by decide), vp_in_nI hi40 (by decide), vp_in_nI hj (by decide), vp_in_nI hi40 (by decide), ?_⟩, fun h9 => absurd rfl h9⟩
        show wp_X5_put _ _ _ _ _
        unfold wp_X5_put
        rw [q_isText, if_pos hj5]
        refine ⟨fun _ => ⟨vp_in_nI hj (by decide), fun _ => ⟨vp_in_nI hj (by decide), ?_⟩, ?_⟩, fun h9 => absurd h9 (by decide)⟩
        · rw [nI_clamp (show j < 2 ^ 31 by omega), hz, q_in (nI i) 0 (nI z - 1) 0 _ (by decide) rfl, if_pos ((le_pred (nI i) (by omega)).mpr ⟨nI_pos' (by omega), nI_lt hi (by omega)⟩), e1]
          refine ⟨fun _ => ⟨vp_in_nI (by omega) (by decide), vp_in_nI (by omega) (by decide), ?_, ?_⟩, fun h9 => absurd h9 (by decide)⟩
          · rw [nI_clamp (show i < 2 ^ 31 by omega), nI_clamp (show 60 * j + i < 2 ^ 31 by omega), hcell i hi40]
          · rw [nI_clamp (show i < 2 ^ 31 by omega), nI_clamp (show 60 * j + i < 2 ^ 31 by omega)]
            exact inv_put hI hj hi40 _
        · rw [nI_clamp (by omega), hz]
          exact fun h9 => absurd (nI_pos' (show z < 2 ^ 31 by omega)) h9
def smL (f : Nat → Int32) : Nat → Int64
  | 0 => 0
  | k + 1 => smL f k + (f k).toInt64
theorem smL_congr {f g : Nat → Int32} : ∀ (n : Nat), (∀ i, i < n → f i = g i) → smL f n = smL g n
  | 0, _ => rfl
  | n + 1, h => by
    unfold smL
    rw [smL_congr n (fun i hi => h i (by omega)), h n (by omega)]
theorem i64ne {z : Nat} (h0 : 0 < z) (hz : z ≤ 1000) : ¬ (nI z).toInt64 = 0 := fun e => by
  have h1 : (nI z).toInt64.toInt = (z : Int) := by rw [Int32.toInt_toInt64, nI_toInt (by omega)]
  rw [e] at h1
  have h2 : (0 : Int64).toInt = 0 := rfl
  omega
theorem q_meanC {j z : Nat} (hj : j < 6) (h0 : 0 < z) (hz : z ≤ 40) (S : sT) (Q : Int32 → sT → Prop) (h : Q 1 (uI S 13 (smL (vA S (300 + j)) z / (nI z).toInt64).toInt32)) : ∃ n : Nat, wl_X4_mean_42 Q n (nI j) (nI z) (0 : Int64) (0 : Int32) S := by
  have h9 := pk_loop (fun n i (a : Int64) => wl_X4_mean_42 Q n (nI j) (nI z) a (nI i) S) (fun i a => a = smL (vA S (300 + j)) i) z 0 0 (Nat.zero_le _) rfl ?_ ?_
  · exact h9
  · intro n a ha
    show wb_X4_mean_42 Q _ (nI j) (nI z) a (nI z) S
    unfold wb_X4_mean_42
    rw [ha]
    exact ⟨fun _ => ⟨i64ne h0 (by omega), h⟩, fun hc => absurd (nI_le (Nat.le_refl z) (by omega)) hc⟩
  · intro n i a hi ha ih
    show wb_X4_mean_42 Q _ (nI j) (nI z) a (nI i) S
    unfold wb_X4_mean_42
    refine ⟨fun hc => absurd hc (nI_ge hi (by omega)), fun _ => ⟨vp_in_nI hj (by decide), vp_in_nI (show i < 40 by omega) (by decide), ?_⟩⟩
    rw [nI_clamp (show j < 2 ^ 31 by omega), nI_clamp (show i < 2 ^ 31 by omega)]
    have h2 := ih (a + (vA S (300 + j) i).toInt64) (by rw [ha]; rfl)
    rw [← nI_1] at h2
    exact h2
theorem q_meanR {j z : Nat} (hj : j < 6) (h0 : 0 < z) (hz : z ≤ 40) (S : sT) (Q : Int32 → sT → Prop) (hs : vA S 1 j = nI z) (h : Q 1 (uI S 4 (smL (fun i => vA S 0 (40 * j + i)) z / (nI z).toInt64).toInt32)) : ∃ n : Nat, wl_X5_mean_44 Q n (nI j) (0 : Int64) (0 : Int32) S := by
  have hcl : (nI j).toNatClampNeg = j := nI_clamp (by omega)
  have h9 := pk_loop (fun n i (a : Int64) => wl_X5_mean_44 Q n (nI j) a (nI i) S) (fun i a => a = smL (fun i => vA S 0 (40 * j + i)) i) z 0 0 (Nat.zero_le _) rfl ?_ ?_
  · exact h9
  · intro n a ha
    show wb_X5_mean_44 Q _ (nI j) a (nI z) S
    unfold wb_X5_mean_44
    rw [hcl, hs, ha]
    exact ⟨vp_in_nI hj (by decide), fun _ => ⟨vp_in_nI hj (by decide), i64ne h0 (by omega), h⟩, fun hc => absurd (nI_le (Nat.le_refl z) (by omega)) hc⟩
  · intro n i a hi ha ih
    show wb_X5_mean_44 Q _ (nI j) a (nI i) S
    unfold wb_X5_mean_44
    have e1 : (40 : Int32) * nI j + nI i = nI (40 * j + i) := by rw [show (40 : Int32) = nI 40 from rfl, pk_mul, nI_add]
    rw [hcl, hs, e1]
    refine ⟨vp_in_nI hj (by decide), fun hc => absurd hc (nI_ge hi (by omega)), fun _ => ⟨vp_in_nI (by omega) (by decide), ?_⟩⟩
    rw [nI_clamp (show 40 * j + i < 2 ^ 31 by omega)]
    have h2 := ih (a + (vA S 0 (40 * j + i)).toInt64) (by rw [ha]; rfl)
    rw [← nI_1] at h2
    exact h2
theorem st_mean_ok : st_mean Inv := by
  intro x1 C R hI
  obtain ⟨hM, hR, hT, hN⟩ := id hI
  unfold wp_X4_mean
  rcases cIx x1 (show 6 < 2 ^ 31 by decide) with h1 | ⟨j, hj, rfl⟩
  · refine eS_bad 0 (by decide) h1 ⟨fun h9 => absurd h9 (by decide), fun _ => ?_⟩
    have h2 : ¬ (0 ≤ x1 ∧ x1 ≤ 5) := fun h9 => h1 ⟨h9.1, by have : nI 6 = 6 := rfl; grind⟩
    show wp_X5_mean _ _ _
    unfold wp_X5_mean
    rw [q_isRow, if_neg h2]
    exact ⟨fun h9 => absurd rfl h9, fun _ => ⟨rfl, hI⟩⟩
  · have hj5 : 0 ≤ nI j ∧ nI j ≤ 5 := ⟨nI_pos' (by omega), nI_le (show j ≤ 5 by omega) (by decide)⟩
    obtain ⟨hs, hz, hcell⟩ := hR j hj
    have hcl : (nI j).toNatClampNeg = j := nI_clamp (by omega)
    rcases hz with hz | ⟨z, hz40, hz⟩
    · refine eS_no 0 (by decide) hj (hs.trans hz) ⟨fun h9 => absurd h9 (by decide), fun _ => ?_⟩
      show wp_X5_mean _ _ _
      unfold wp_X5_mean
      rw [q_isRow, if_pos hj5]
      refine ⟨fun _ => ⟨vp_in_nI hj (by decide), ?_, fun _ => q_foundR 1 (by decide) R _ ⟨rfl, inv_fd hI 1 (by decide)⟩⟩, fun h9 => absurd h9 (by decide)⟩
      rw [hcl, hz]
      exact fun h9 => absurd h9 (by decide)
    · have h0z : 0 ≤ nI z := nI_pos' (by omega)
      refine eS_yes 0 (by decide) hj (by rw [hs.trans hz]; exact nIne (by omega)) ⟨fun _ => ⟨vp_in_nI hj (by decide), ?_⟩, fun h9 => absurd rfl h9⟩
      rw [hcl, hs.trans hz]
      rcases Nat.eq_zero_or_pos z with rfl | hp
      · refine ⟨fun h9 => absurd h9 (by decide), fun _ => q_foundC 4 (by decide) C _ ?_⟩
        show wp_X5_mean _ _ _
        unfold wp_X5_mean
        rw [q_isRow, if_pos hj5, hcl, hz]
        exact ⟨fun _ => ⟨vp_in_nI hj (by decide), fun _ => ⟨vp_in_nI hj (by decide), fun h9 => absurd rfl h9, fun _ => q_foundR 4 (by decide) R _ ⟨rfl, inv_fd hI 4 (by decide)⟩⟩, fun h9 => absurd h0z h9⟩, fun h9 => absurd h9 (by decide)⟩
      · have h0p : 0 < nI z := nI_lt hp (by omega)
        refine ⟨fun _ => q_meanC hj hp hz40 C _ ?_, fun h9 => absurd h0p h9⟩
        show wp_X5_mean _ _ _
        unfold wp_X5_mean
        rw [q_isRow, if_pos hj5, hcl, hz]
        refine ⟨fun _ => ⟨vp_in_nI hj (by decide), fun _ => ⟨vp_in_nI hj (by decide), fun _ => q_meanR hj hp hz40 R _ hz ⟨rfl, ?_⟩, fun h9 => absurd h9 (nI_ne0 hp (by omega))⟩, fun h9 => absurd h0z h9⟩, fun h9 => absurd h9 (by decide)⟩
        rw [smL_congr z (f := vA C (300 + j)) (g := fun i => vA R 0 (40 * j + i)) (fun i hi => hcell i (by omega))]
        exact inv_told hI _
