/-! a line out of a text -/
theorem q_lineC (S : sT) (Q : Int32 → sT → Prop) (h : ∀ f : Nat → Int32, (∀ k, k < 3 → f k = 0) → Q (vI S 26) (uA S 5 f)) : ∃ n : Nat, wl_X4_line_66 Q n (0 : Int32) S := by
  have h9 := pk_loop (fun n i (f : Nat → Int32) => wl_X4_line_66 Q n (nI i) (uA S 5 f)) (fun i f => ∀ k, k < i → f k = 0) 3 0 (vA S 5) (Nat.zero_le _) (fun j hj => absurd hj (Nat.not_lt_zero j)) ?_ ?_
  · obtain ⟨n, hn⟩ := h9
    rw [uA_id] at hn
    exact ⟨n, hn⟩
  · intro n f hf
    show wb_X4_line_66 Q _ (nI 3) (uA S 5 f)
    unfold wb_X4_line_66
    exact yes (by decide) (h f hf)
  · intro n i f hi hf ih
    show wb_X4_line_66 Q _ (nI i) (uA S 5 f)
    unfold wb_X4_line_66
    refine no (nI_ge hi (by decide)) ⟨vp_in_nI hi (by decide), ?_⟩
    have h2 := ih (upd f i 0) (fun k hk => by
      simp only [up]
      by_cases e : k = i
      · rw [if_pos e]
      · rw [if_neg e]
        exact hf k (by omega))
    rw [vA_uA, uA_uA, nI_clamp (by omega), nI_1]
    exact h2
theorem r_begins (S : sT) (Q : sT → Prop) (h : ∀ F G : Nat → Int32, F 0 = 0 → F 1 = 0 → F 2 = ((1 : Int32) <<< (vI S 9 &&& 31)) - 1 → (∀ i, 3 ≤ i → F i = vA S 14 i) → (∀ k, k < 3 → G (370 * k) = -1) → Q (uA (uI (uA S 14 F) 17 0) 18 G)) : wp_X5_begins S Q := by
  unfold wp_X5_begins
  have d0 : (0 : Int32).toNatClampNeg = 0 := rfl
  have d1 : (1 : Int32).toNatClampNeg = 1 := rfl
  have d2 : (2 : Int32).toNatClampNeg = 2 := rfl
  rw [d0, d1, d2]
  refine ⟨vp_in_nI (show 0 < 9 by decide) (by decide), vp_in_nI (show 1 < 9 by decide) (by decide), fun S3 e3 => ⟨vp_in_nI (show 2 < 9 by decide) (by decide), fun S5 e5 => ?_⟩⟩
  subst e3
  subst e5
  rw [vA_uA, uA_uA, vA_uA, uA_uA]
  have e9 : ∀ g g' : Nat → Int32, vI (uA (uA S 14 g) 14 g') 9 = vI S 9 := fun _ _ => rfl
  rw [e9]
  generalize hF : upd (upd (upd (vA S 14) 0 0) 1 0) 2 (((1 : Int32) <<< (vI S 9 &&& 31)) - 1) = F
  have F0 : F 0 = 0 := by rw [← hF]; rfl
  have F1 : F 1 = 0 := by rw [← hF]; rfl
  have F2 : F 2 = ((1 : Int32) <<< (vI S 9 &&& 31)) - 1 := by rw [← hF]; rfl
  have F3 : ∀ i, 3 ≤ i → F i = vA S 14 i := by
    intro i hi
    rw [← hF]
    simp only [up]
    (repeat rw [if_neg (by omega)])
  have h9 := pk_loop (fun n i (G : Nat → Int32) => wl_X5_begins_35 Q n (nI i) (uA (uI (uA S 14 F) 17 0) 18 G)) (fun i G => ∀ k, k < i → G (370 * k) = -1) 3 0 (vA S 18) (Nat.zero_le _) (fun j hj => absurd hj (Nat.not_lt_zero j)) ?_ ?_
  · obtain ⟨n, hn⟩ := h9
    rw [show vA S 18 = vA (uI (uA S 14 F) 17 0) 18 from rfl, uA_id] at hn
    exact ⟨n, hn⟩
  · intro n G hG
    show wb_X5_begins_35 Q _ (nI 3) _
    unfold wb_X5_begins_35
    exact yes (by decide) (h F G F0 F1 F2 F3 hG)
  · intro n i G hi hG ih
    show wb_X5_begins_35 Q _ (nI i) _
    unfold wb_X5_begins_35
    rw [e370 i, nI_clamp (by omega), vA_uA, uA_uA, nI_1]
    refine no (nI_ge hi (by decide)) ⟨vp_in_nI (by omega) (by decide), ?_⟩
    exact ih (upd G (370 * i) (-1)) (fun k hk => by
      simp only [up]
      by_cases e : k = i
      · rw [if_pos (by rw [e])]
      · rw [if_neg (by omega)]
        exact hG k (by omega))
theorem r_line (S : sT) (Q : Int32 → sT → Prop) (h : ∀ S' : sT, (∀ k, vI S' k = vI S k) → (∀ k, vL S' k = vL S k) → (∀ k, k < 12 ∨ 14 < k → vA S' k = vA S k) → (∀ j, j < 6 → vA S' 12 j = vA S 26 j ∧ vA S' 13 j = vA S 27 j ∧ vA S' 14 (3 + j) = vA S 28 j) → wp_X5_begins S' (fun S1 => Q (vI S1 9) S1)) : ∃ n : Nat, wl_X5_line_63 Q n (0 : Int32) S := by
  refine pk_loop (fun n i (S' : sT) => wl_X5_line_63 Q n (nI i) S') (fun i S' => (∀ k, vI S' k = vI S k) ∧ (∀ k, vL S' k = vL S k) ∧ (∀ k, k < 12 ∨ 14 < k → vA S' k = vA S k) ∧ (∀ j, j < i → vA S' 12 j = vA S 26 j ∧ vA S' 13 j = vA S 27 j ∧ vA S' 14 (3 + j) = vA S 28 j)) 6 0 S (Nat.zero_le _) ⟨fun _ => rfl, fun _ => rfl, fun _ _ => rfl, fun j hj => absurd hj (Nat.not_lt_zero j)⟩ ?_ ?_
  · intro n S' ⟨h1, h2, h3, h4⟩
    show wb_X5_line_63 Q _ (nI 6) S'
    unfold wb_X5_line_63
    exact yes (by decide) (h S' h1 h2 h3 h4)
  · intro n i S' hi ⟨h1, h2, h3, h4⟩ ih
    show wb_X5_line_63 Q _ (nI i) S'
    unfold wb_X5_line_63
    have hin : vp_in (nI i) 6 := vp_in_nI hi (by decide)
    have e3 : (3 : Int32) + nI i = nI (3 + i) := nI_add 3 i
    rw [e3, nI_clamp (by omega), nI_clamp (by omega), nI_1]
    refine no (nI_ge hi (by decide)) ⟨hin, hin, hin, hin, fun S6 e6 => ⟨hin, vp_in_nI (by omega) (by decide), ?_⟩⟩
    refine ih _ ⟨fun k => ?_, fun k => ?_, fun k hk => ?_, fun j hj => ?_⟩
    · rw [e6]; exact h1 k
    · rw [e6]; exact h2 k
    · rw [e6]
      simp only [ac]
      (repeat rw [if_neg (by omega)])
      exact h3 k hk
    · rw [e6]
      simp only [ac, up, Nat.reduceEqDiff, if_true, if_false, ↓reduceIte]
      rw [h3 26 (by omega), h3 27 (by omega), h3 28 (by omega)]
      by_cases e : j = i
      · rw [if_pos e, if_pos e, if_pos (by omega), e]
        exact ⟨rfl, rfl, rfl⟩
      · rw [if_neg e, if_neg e, if_neg (by omega)]
        exact h4 j (by omega)
theorem msk2 : ∀ m, m ≤ 6 → ((1 : Int32) <<< (nI m &&& 31)) - 1 = nI (2 ^ m - 1) := by decide +kernel
/-- the state of a line that has just begun -/
def T0 (m : Nat) (sp : Nat → Nat) : Nat → Nat → Nat := fun _ i => if i = 2 then 2 ^ m - 1 else if 3 ≤ i then sp (i - 3) else 0
theorem T0_ok {m last : Nat} {sp : Nat → Nat} (hs : ∀ i, i < m → sp i ≤ 9) (e : Nat) : okV m last (T0 m sp e) := by
  refine ⟨by simp [T0], by simp [T0], ?_, fun i hi => ?_⟩
  · have : 0 < 2 ^ m := Nat.two_pow_pos m
    simp [T0]
    omega
  · have e1 : T0 m sp e (3 + i) = sp i := by
      unfold T0
      rw [if_neg (by omega), if_pos (by omega), Nat.add_sub_cancel_left]
    rw [e1]
    exact hs i hi
theorem st_line_ok : st_line Inv := by
  intro x1 C R hI
  obtain ⟨hM, hR, hT, hN⟩ := id hI
  unfold wp_X4_line
  rcases cIx x1 (show 4 < 2 ^ 31 by decide) with h1 | ⟨t, ht, rfl⟩
  · refine eS_bad 1 (by decide) h1 ⟨fun h9 => absurd h9 (by decide), fun _ => ?_⟩
    have h2 : ¬ (0 ≤ x1 ∧ x1 ≤ 3) := fun h9 => h1 ⟨h9.1, by have : nI 4 = 4 := rfl; grind⟩
    show wp_X5_line _ _ _
    unfold wp_X5_line
    rw [q_isText, if_neg h2]
    exact yes' rfl ⟨rfl, hI⟩
  have ht3 : 0 ≤ nI t ∧ nI t ≤ 3 := ⟨nI_pos' (by omega), nI_le (show t ≤ 3 by omega) (by decide)⟩
  obtain ⟨hs, hz, hcell⟩ := hT t ht
  have hcl : (nI t).toNatClampNeg = t := nI_clamp (by omega)
  rcases hz with hz | ⟨z, hz60, hz⟩
  · refine eS_no 1 (by decide) ht (hs.trans hz) ⟨fun h9 => absurd h9 (by decide), fun _ => ?_⟩
    show wp_X5_line _ _ _
    unfold wp_X5_line
    rw [q_isText, if_pos ht3, hcl, hz]
    exact no' n10 ⟨vp_in_nI ht (by decide), fun h9 => absurd h9 (by decide), fun _ => q_foundR 1 (by decide) R _ ⟨rfl, inv_fd hI 1 (by decide)⟩⟩
  obtain ⟨r, m, last, due, kd, bd, sp, i1, i2, i3⟩ := rd_all (s := fun i => vA R 2 (60 * t + i)) ht hz60 hcell hz (fun _ _ => rfl)
  refine eS_yes 1 (by decide) ht (by rw [hs.trans hz]; exact nIne (by omega)) ⟨fun _ => ⟨vp_in_nI ht (by decide), vp_in_nI ht (by decide), ?_⟩, fun h9 => absurd rfl h9⟩
  rw [hcl, hs.trans hz]
  refine i2 _ (fun C' f1 dc => ?_)
  have hRef : ∀ Q : Int32 → sT → Prop, wp_X5_reads (nI t) R (fun r_3 S_3 => ((r_3 = (-9 : Int32) → ∀ S_4 : sT, S_4 = uI (uI (uI S_3 9 (vI S_3 25)) 10 (vI (uI S_3 9 (vI S_3 25)) 23)) 11 (vI (uI (uI S_3 9 (vI S_3 25)) 10 (vI (uI S_3 9 (vI S_3 25)) 23)) 24) → ∃ n : Nat, wl_X5_line_63 Q n (0 : Int32) S_4) ∧ (¬ r_3 = (-9 : Int32) → Q (-4 : Int32) S_3))) → wp_X5_line (nI t) R Q := by
    intro Q g
    unfold wp_X5_line
    rw [q_isText, if_pos ht3, hcl, hz]
    exact no' n10 ⟨vp_in_nI ht (by decide), fun _ => g, fun h9 => absurd (nI_pos' (show z < 2 ^ 31 by omega)) h9⟩
  refine ⟨fun er => ?_, fun er => hRef _ (i3 _ (fun R' f2 _ => no er ⟨rfl, inv_rd hI f1 f2⟩))⟩
  obtain ⟨hm0, hm, hl, hd, hbd⟩ := i1 er
  obtain ⟨⟨a1, a2, a3, a4, a5, a6, a7⟩, as⟩ := dc er
  refine q_become (Or.inl ⟨rfl, Or.inl rfl⟩) C' _ (fun C2 hb => ?_)
  refine q_lineC C2 _ (fun f5 hf5 => ?_)
  refine hRef _ (i3 _ (fun R' f2 dr => yes er (fun S4 e4 => ?_)))
  obtain ⟨⟨b1, b2, b3⟩, bs⟩ := dr er
  have e9 : vI S4 9 = nI m := by rw [e4]; exact b3
  have e10 : vI S4 10 = nI last := by rw [e4]; exact b1
  have e11 : vI S4 11 = nI due := by rw [e4]; exact b2
  have oI : ∀ k, k < 9 ∨ 11 < k → vI S4 k = vI R' k := by
    intro k hk
    rw [e4]
    simp only [ac]
    (repeat rw [if_neg (by omega)])
  have oA : ∀ k, vA S4 k = vA R' k := fun k => by rw [e4]; rfl
  have oL : ∀ k, vL S4 k = vL R' k := fun k => by rw [e4]; rfl
  refine r_line S4 _ (fun S5 g1 g2 g3 g4 => ?_)
  refine r_begins S5 _ (fun F G F0 F1 F2 F3 hG => ?_)
  rw [g1 9, e9, msk2 m hm] at F2
  obtain ⟨c1, c2, c3, c4, c5⟩ := id hb
  have ciC : ∀ k, k < 20 ∨ (33 ≤ k ∧ k < 46) → vI C2 k = vI C' k := fun k hk => (c1 k (by omega)).1
  have caC : ∀ k, ¬ (20 ≤ k ∧ k < 33) → vA C2 k = vA C' k := fun k hk => (c1 k (by omega)).2
  have hnC' : nightC C' 1 m last due kd bd (T0 m sp) 0 := by
    refine ⟨⟨a1, a2, a3, a4, a5, a6, a7⟩, fun i hi => ?_, fun e he => absurd he (by omega)⟩
    obtain ⟨k1, k2, k3⟩ := as i hi
    refine ⟨k1, k2, k3.trans ?_⟩
    unfold T0
    rw [if_neg (by omega), if_pos (by omega), Nat.add_sub_cancel_left]
  have hnC2 : nightC C2 0 m last due kd bd (T0 m sp) 0 := night_bec hnC' hm (by decide) hb
  refine ⟨?_, ?_, ?_, ?_, m, last, due, kd, bd, T0 m sp, 0, ⟨hm, hl, hd, fun i hi => ⟨(hbd i hi).1, (hbd i hi).2.1⟩⟩, by decide, fun e he => T0_ok (fun i hi => (hbd i hi).2.2) e, ?_, ?_, ?_⟩
  · show vI C2 26 = vI S5 9
    rw [g1 9, e9]
    exact hnC2.1.1
  · obtain ⟨m1, m2, m3, m4, m5⟩ := hM
    refine ⟨?_, ?_, ?_, ?_, fun f hf => ?_⟩
    · show vI C2 13 = vI S5 4
      rw [ciC 13 (by omega), g1 4, oI 4 (by omega), f2.2.1 4 (by omega), (f1.2 13 (by omega)).2 (by omega)]; exact m1
    · show vL C2 14 = vL S5 5
      rw [c2 14, g2 5, oL 5, f2.1 5, f1.1 14]; exact m2
    · show vL C2 15 = vL S5 6
      rw [c2 15, g2 6, oL 6, f2.1 6, f1.1 15]; exact m3
    · show vI C2 16 = vI S5 7
      rw [ciC 16 (by omega), g1 7, oI 7 (by omega), f2.2.1 7 (by omega), (f1.2 16 (by omega)).2 (by omega)]; exact m4
    · show vA C2 12 f = vA S5 8 f
      rw [caC 12 (by omega), g3 8 (by omega), oA 8, f2.2.2 8 (by omega), (f1.2 12 (by omega)).1]; exact m5 f hf
  · refine relR_of hR ?_ (fun r hr => ?_) ?_ ?_
    · show vA C2 200 = _
      rw [caC 200 (by omega), (f1.2 200 (by omega)).1]
    · have e : vA (uA C2 5 f5) (300 + r) = vA C2 (300 + r) := by simp only [ac]; rw [if_neg (by omega)]
      rw [e, caC _ (by omega), (f1.2 _ (by omega)).1]
    · show vA S5 1 = _
      rw [g3 1 (by omega), oA 1, f2.2.2 1 (by omega)]
    · show vA S5 0 = _
      rw [g3 0 (by omega), oA 0, f2.2.2 0 (by omega)]
  · refine relT_of hT ?_ (fun r hr => ?_) ?_ ?_
    · show vA C2 201 = _
      rw [caC 201 (by omega), (f1.2 201 (by omega)).1]
    · have e : vA (uA C2 5 f5) (310 + r) = vA C2 (310 + r) := by simp only [ac]; rw [if_neg (by omega)]
      rw [e, caC _ (by omega), (f1.2 _ (by omega)).1]
    · show vA S5 3 = _
      rw [g3 3 (by omega), oA 3, f2.2.2 3 (by omega)]
    · show vA S5 2 = _
      rw [g3 2 (by omega), oA 2, f2.2.2 2 (by omega)]
  · refine nightC_of hnC2 (fun f hf => ⟨rfl, ?_⟩)
    simp only [ac]
    rw [if_neg (by omega)]
  · refine ⟨⟨?_, ?_, ?_, rfl⟩, fun i hi => ?_, fun i hi => ?_, fun e he => absurd he (by omega)⟩
    · exact (g1 9).trans e9
    · exact (g1 10).trans e10
    · exact (g1 11).trans e11
    · obtain ⟨k1, k2, k3⟩ := g4 i (by omega)
      obtain ⟨l1, l2, l3⟩ := bs i hi
      constructor
      · show vA S5 12 i = _
        rw [k1, oA 26]; exact l1
      · show vA S5 13 i = _
        rw [k2, oA 27]; exact l2
    · show F i = nI (T0 m sp 0 i)
      unfold T0
      by_cases e2 : i = 2
      · rw [if_pos e2, e2]; exact F2
      · rw [if_neg e2]
        by_cases e3 : 3 ≤ i
        · obtain ⟨k1, k2, k3⟩ := g4 (i - 3) (by omega)
          obtain ⟨l1, l2, l3⟩ := bs (i - 3) (by omega)
          rw [if_pos e3, F3 i e3]
          rw [show 3 + (i - 3) = i by omega] at k3
          rw [k3, oA 28]; exact l3
        · rw [if_neg e3]
          rcases (show i = 0 ∨ i = 1 by omega) with rfl | rfl
          · exact F0
          · exact F1
  · intro k hk
    left
    exact ⟨hf5 k hk, hG k hk⟩
