/-! the start -/
theorem inv_start {F G H K : Nat → Int32} (hF : ∀ k, k < 6 → F k = -1) (hG : ∀ k, k < 4 → G k = -1) (h0 : H 0 = 0) (h1 : H 1 = 0) (h2 : H 2 = 0) (hK : ∀ k, k < 3 → K (370 * k) = -1) : Inv S0C (uA (uI (uA (uA (uA S0R 1 F) 3 G) 14 H) 17 0) 18 K) := by
  refine ⟨⟨rfl, rfl, rfl, rfl, fun _ _ => rfl⟩, fun r hr => ⟨?_, Or.inl (hF r hr), fun i hi => ?_⟩, fun r hr => ⟨?_, Or.inl (hG r hr), fun i hi => ?_⟩, ?_⟩
  · exact (hF r hr).symm
  · show (if 300 + r = 200 then fun _ => -1 else if 300 + r = 201 then fun _ => -1 else fun _ : Nat => (0 : Int32)) i = 0
    rw [if_neg (by omega), if_neg (by omega)]
  · exact (hG r hr).symm
  · show (if 310 + r = 200 then fun _ => -1 else if 310 + r = 201 then fun _ => -1 else fun _ : Nat => (0 : Int32)) i = 0
    rw [if_neg (by omega), if_neg (by omega)]
  · refine ⟨0, 0, 0, fun _ => 0, fun _ => 0, fun _ _ => 0, 0, ⟨by decide, by decide, by decide, fun i hi => absurd hi (by omega)⟩, by decide, fun e _ => ⟨Nat.zero_le _, Nat.zero_le _, Nat.one_pos, fun i hi => absurd hi (by omega)⟩, ⟨⟨rfl, rfl, rfl, rfl, rfl, rfl, rfl⟩, fun i hi => absurd hi (by omega), fun e he => absurd he (by omega)⟩, ⟨⟨rfl, rfl, rfl, rfl⟩, fun i hi => absurd hi (by omega), fun i hi => ?_, fun e he => absurd he (by omega)⟩, fun k hk => Or.inl ⟨rfl, hK k hk⟩⟩
    show H i = 0
    rcases (show i = 0 ∨ i = 1 ∨ i = 2 by omega) with rfl | rfl | rfl
    · exact h0
    · exact h1
    · exact h2
theorem start_ok : wp_X5_init S0R (fun SR => Inv S0C SR) := by
  unfold wp_X5_init
  have h9 := pk_loop (fun n i (F : Nat → Int32) => wl_X5_init_150 (fun SR => Inv S0C SR) n (nI i) (uA S0R 1 F)) (fun i F => ∀ k, k < i → F k = -1) 6 0 (vA S0R 1) (Nat.zero_le _) (fun j hj => absurd hj (Nat.not_lt_zero j)) ?_ ?_
  · obtain ⟨n, hn⟩ := h9
    rw [uA_id] at hn
    exact ⟨n, hn⟩
  · intro n F hF
    show wb_X5_init_150 _ _ (nI 6) _
    unfold wb_X5_init_150
    refine yes (by decide) ?_
    have h8 := pk_loop (fun n i (G : Nat → Int32) => wl_X5_init_171 (fun SR => Inv S0C SR) n (nI i) (uA (uA S0R 1 F) 3 G)) (fun i G => ∀ k, k < i → G k = -1) 4 0 (vA (uA S0R 1 F) 3) (Nat.zero_le _) (fun j hj => absurd hj (Nat.not_lt_zero j)) ?_ ?_
    · obtain ⟨n, hn⟩ := h8
      rw [uA_id] at hn
      exact ⟨n, hn⟩
    · intro n G hG
      show wb_X5_init_171 _ _ (nI 4) _
      unfold wb_X5_init_171
      refine yes (by decide) ?_
      refine r_begins _ _ (fun H K h0 h1 h2 h3 hK => inv_start hF hG h0 h1 (h2.trans ?_) hK)
      show ((1 : Int32) <<< ((0 : Int32) &&& 31)) - 1 = 0
      decide
    · intro n i G hi hG ih
      show wb_X5_init_171 _ _ (nI i) _
      unfold wb_X5_init_171
      rw [vA_uA, uA_uA, nI_clamp (by omega), nI_1]
      refine no (nI_ge hi (by decide)) ⟨vp_in_nI hi (by decide), ih (upd G i (-1)) (fun k hk => ?_)⟩
      simp only [up]
      by_cases e : k = i
      · rw [if_pos e]
      · rw [if_neg e]
        exact hG k (by omega)
  · intro n i F hi hF ih
    show wb_X5_init_150 _ _ (nI i) _
    unfold wb_X5_init_150
    rw [vA_uA, uA_uA, nI_clamp (by omega), nI_1]
    refine no (nI_ge hi (by decide)) ⟨vp_in_nI hi (by decide), ih (upd F i (-1)) (fun k hk => ?_)⟩
    simp only [up]
    by_cases e : k = i
    · rw [if_pos e]
    · rw [if_neg e]
      exact hF k (by omega)
theorem stp_ok : stp Inv := ⟨st_row_ok, st_lay_ok, st_at_ok, st_tear_ok, st_copy_ok, st_mean_ok, st_text_ok, st_put_ok, st_fault_ok, st_line_ok, st_sleeper_ok, st_mark_ok, st_dreams_ok, st_minute_ok, st_feed_ok, st_wake_ok, st_lull_ok, st_undo_ok, st_keep_ok, st_on_ok, st_train_ok, st_comes_ok, st_stood_ok, st_intime_ok, st_feast_ok, st_bed_ok, st_account_ok, st_kinds_ok, st_look_ok, st_duel_ok, st_odds_ok, st_mid_ok, st_lots_ok, st_asked_ok, st_upper_ok, st_lower_ok, st_count_ok, st_finding_ok, st_findings_ok, st_digest_ok⟩
