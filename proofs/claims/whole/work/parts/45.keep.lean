def becC (C C' : sT) (j0 j1 : Nat) : Prop := (∀ k, ¬ (20 + 13 * j0 ≤ k ∧ k < 20 + 13 * j0 + 13) → vI C' k = vI C k ∧ vA C' k = vA C k) ∧ (∀ k, vL C' k = vL C k) ∧ (∀ f, f < 7 → vI C' (20 + 13 * j0 + (6 + f)) = vI C (20 + 13 * j1 + (6 + f))) ∧ (∀ f, f < 3 → ∀ i, i < 6 → vA C' (20 + 13 * j0 + f) i = vA C (20 + 13 * j1 + f) i) ∧ ∀ f, f < 3 → ∀ i, i < 40 → vA C' (20 + 13 * j0 + (3 + f)) i = vA C (20 + 13 * j1 + (3 + f)) i
theorem cpy0 {f g : Nat → Int32} {m i : Nat} (h : i < m) : va_cpy f g 0 0 m i = f i := by
  rw [pk_cpy_in (Nat.zero_le _) (by omega)]
  congr 1
  omega
set_option maxHeartbeats 4000000 in
theorem q_become {j0 j1 : Nat} (hj : (j0 = 0 ∧ (j1 = 1 ∨ j1 = 2 ∨ j1 = 3 ∨ j1 = 4)) ∨ (j1 = 0 ∧ (j0 = 2 ∨ j0 = 3 ∨ j0 = 4))) (C : sT) (Q : sT → Prop) (h : ∀ C', becC C C' j0 j1 → Q C') : wp_X1_become j0 j1 C Q := by
  have d0 : (0 : Int32).toNatClampNeg = 0 := rfl
  have d6 : (6 : Int32).toNatClampNeg = 6 := rfl
  have d40 : (40 : Int32).toNatClampNeg = 40 := rfl
  have a0 : ¬ (0 : Int32) < 0 := by decide
  have a6 : ¬ (6 : Int32) < 0 := by decide
  have a40 : ¬ (40 : Int32) < 0 := by decide
  unfold wp_X1_become
  rw [d0, d6, d40]
  refine ⟨a0, a0, a6, by decide, by decide, fun S1 e1 => ⟨a0, a0, a6, by decide, by decide, fun S2 e2 => ⟨a0, a0, a6, by decide, by decide, fun S3 e3 => ⟨a0, a0, a40, by decide, by decide, fun S4 e4 => ⟨a0, a0, a40, by decide, by decide, fun S5 e5 => ⟨a0, a0, a40, by decide, by decide, fun S6 e6 S7 e7 S8 e8 S9 e9 => h _ ?_⟩⟩⟩⟩⟩⟩
  subst e1 e2 e3 e4 e5 e6 e7 e8 e9
  rcases hj with ⟨rfl, rfl | rfl | rfl | rfl⟩ | ⟨rfl, rfl | rfl | rfl⟩
  all_goals
    refine ⟨fun k hk => ⟨?_, ?_⟩, fun k => ?_, fun f hf => ?_, fun f hf i hi => ?_, fun f hf i hi => ?_⟩
    · simp only [ac, Nat.reduceMul, Nat.reduceAdd] at hk ⊢
      (repeat rw [if_neg (by omega)])
    · simp only [ac, Nat.reduceMul, Nat.reduceAdd] at hk ⊢
      (repeat rw [if_neg (by omega)])
    · simp only [ac]
    · rcases (show f = 0 ∨ f = 1 ∨ f = 2 ∨ f = 3 ∨ f = 4 ∨ f = 5 ∨ f = 6 by omega) with rfl | rfl | rfl | rfl | rfl | rfl | rfl <;> simp only [ac, Nat.reduceMul, Nat.reduceAdd, Nat.reduceEqDiff, ↓reduceIte]
    · rcases (show f = 0 ∨ f = 1 ∨ f = 2 by omega) with rfl | rfl | rfl <;> simp only [ac, Nat.reduceMul, Nat.reduceAdd, Nat.reduceEqDiff, ↓reduceIte] <;> exact cpy0 hi
    · rcases (show f = 0 ∨ f = 1 ∨ f = 2 by omega) with rfl | rfl | rfl <;> simp only [ac, Nat.reduceMul, Nat.reduceAdd, Nat.reduceEqDiff, ↓reduceIte] <;> exact cpy0 hi
theorem night_bec {C C' : sT} {j0 j1 n last due : Nat} {kd bd : Nat → Nat} {T : Nat → Nat → Nat} {d : Nat} (hN : nightC C j1 n last due kd bd T d) (hn : n ≤ 6) (hd : d ≤ 40) (hb : becC C C' j0 j1) : nightC C' j0 n last due kd bd T d := by
  obtain ⟨b1, b2, b3, b4, b5⟩ := hb
  obtain ⟨⟨c1, c2, c3, c4, c5, c6, c7⟩, cs, cl⟩ := hN
  refine ⟨⟨(b3 0 (by decide)).trans c1, (b3 1 (by decide)).trans c2, (b3 2 (by decide)).trans c3, (b3 3 (by decide)).trans c4, (b3 4 (by decide)).trans c5, (b3 5 (by decide)).trans c6, (b3 6 (by decide)).trans c7⟩, fun i hi => ?_, fun e he => ?_⟩
  · obtain ⟨k1, k2, k3⟩ := cs i hi
    exact ⟨(b4 0 (by decide) i (by omega)).trans k1, (b4 1 (by decide) i (by omega)).trans k2, (b4 2 (by decide) i (by omega)).trans k3⟩
  · have g := cl e he
    rw [show vA C' (20 + 13 * j0 + 3) e = vA C (20 + 13 * j1 + 3) e from b5 0 (by decide) e (by omega), show vA C' (20 + 13 * j0 + 4) e = vA C (20 + 13 * j1 + 4) e from b5 1 (by decide) e (by omega), show vA C' (20 + 13 * j0 + 5) e = vA C (20 + 13 * j1 + 5) e from b5 2 (by decide) e (by omega)]
    exact g
theorem ix3 {x : Int32} : (0 ≤ x ∧ x ≤ 2) ↔ (0 ≤ x ∧ x < 3) := by grind
theorem e370 (k : Nat) : (370 : Int32) * nI k = nI (370 * k) := pk_mul 370 k
theorem st_keep_ok : st_keep Inv := by
  intro x1 C R hI
  obtain ⟨h1, h2, h3, n, last, due, kd, bd, T, d, h5, hd, hV, hC, hR, hK⟩ := id hI
  have hn := h5.1
  obtain ⟨⟨c1, c2, c3, c4, c5, c6, c7⟩, cs, cl⟩ := id hC
  obtain ⟨⟨r1, r2, r3, r4⟩, rs, rn, ra⟩ := id hR
  have en : nI n = 0 ↔ n = 0 := nI_eq (b := 0) (by omega) (by decide)
  unfold wp_X4_keep
  rw [q_isBelow]
  by_cases c : 0 ≤ x1 ∧ x1 < 3
  · rw [if_pos c]
    obtain ⟨k, hk, rfl⟩ := ixY (n := 3) (by decide) c
    refine no' n10 ?_
    rw [show vI C 26 = nI n from c1, en, nI_clamp (show k < 2 ^ 31 by omega)]
    refine ⟨fun e0 => ⟨vp_in_nI hk (by decide), ?_⟩, fun e0 => ?_⟩
    · refine q_become (Or.inr ⟨rfl, by omega⟩) C _ (fun C' hb => ⟨vp_in_nI hk (by decide), ?_⟩)
      have hv1 : vp_nar .boolean (1 : Int32) = 1 := by decide
      rw [hv1]
      show wp_X5_keep _ _ _
      unfold wp_X5_keep
      rw [q_in _ 0 2 0 2 (by decide) (by decide), if_pos (ix3.mpr c), r1, en]
      refine no' n10 ⟨fun _ => ?_, fun h9 => absurd h9 e0⟩
      rw [e370 k, nI_clamp (show 370 * k < 2 ^ 31 by omega), nI_1, r4]
      refine ⟨vp_in_nI (by omega) (by decide), ?_⟩
      refine q_copies 14 18 0 (370 * k + 1) 9 (by decide) (by decide) (show 370 * k + 1 + 9 ≤ 1110 by omega) (by decide) (by decide) _ _ (fun F f1 f2 => ?_)
      rw [uA_uA, show nI (370 * k + 1) + 9 = nI (370 * k + 10) from nI_add _ 9]
      refine q_copies 16 18 0 (370 * k + 10) 360 (by decide) (by decide) (show 370 * k + 10 + 360 ≤ 1110 by omega) (by decide) (by decide) _ _ (fun G g1 g2 => ?_)
      rw [uA_uA, vA_uA] at *
      have f1' : ∀ i, i < 9 → F (370 * k + 1 + i) = vA R 14 i := fun i hi => (f1 i hi).trans (by rw [Nat.zero_add]; rfl)
      have g1' : ∀ i, i < 360 → G (370 * k + 10 + i) = vA R 16 i := fun i hi => (g1 i hi).trans (by rw [Nat.zero_add]; rfl)
      obtain ⟨b1, b2, b3, b4, b5⟩ := id hb
      have ob : ∀ m, m < 46 ∨ 85 ≤ m → vI C' m = vI C m ∧ vA C' m = vA C m := fun m hm => b1 m (by omega)
      have oA : ∀ (g : Nat → Int32) (m : Nat), ¬ m = 5 → vA (uA C' 5 g) m = vA C' m := fun g m hm => by simp only [ac]; rw [if_neg hm]
      refine ⟨?_, ?_⟩
      · show vI C' 32 = vI R 17
        rw [(ob 32 (by omega)).1, r4]; exact c7
      · refine ⟨relM_of h1 (ob 13 (by omega)).1 (b2 14) (b2 15) (ob 16 (by omega)).1 ?_ rfl rfl rfl rfl rfl, relR_of h2 ?_ (fun r hr => ?_) rfl rfl, relT_of h3 ?_ (fun r hr => ?_) rfl rfl, n, last, due, kd, bd, T, d, h5, hd, hV, ?_, hR, ?_⟩
        · rw [oA _ _ (by decide)]; exact (ob 12 (by omega)).2
        · rw [oA _ _ (by decide)]; exact (ob 200 (by omega)).2
        · rw [oA _ _ (by omega)]; exact (ob (300 + r) (by omega)).2
        · rw [oA _ _ (by decide)]; exact (ob 201 (by omega)).2
        · rw [oA _ _ (by omega)]; exact (ob (310 + r) (by omega)).2
        · refine nightC_of hC (fun f hf => ⟨(ob _ (by omega)).1, ?_⟩)
          rw [oA _ _ (by omega)]; exact (ob _ (by omega)).2
        · intro k' hk'
          have e5 : vA (uA C' 5 (upd (vA C' 5) k 1)) 5 = upd (vA C' 5) k 1 := vA_uA _ _ _
          by_cases e : k' = k
          · right
            subst e
            refine ⟨by rw [e5]; simp [up], T, d, hd, hV, ?_, ?_⟩
            · refine nightC_of (C := C') (night_bec hC hn hd hb) (fun f hf => ⟨rfl, ?_⟩)
              exact oA _ _ (by omega)
            · have eG : vA (uA R 18 G) 18 = G := vA_uA _ _ _
              unfold keptR
              rw [eG]
              refine ⟨?_, fun i hi => ?_, fun e he i hi => ?_⟩
              · rw [g2 _ (by omega), f2 _ (by omega)]
                show upd (vA R 18) (370 * k') (nI d) (370 * k') = _
                simp [up]
              · rw [g2 _ (by omega), f1' i (by omega)]; exact rn i hi
              · rw [g1' (9 * e + i) (by omega)]; exact ra e he i hi
          · have eG : vA (uA R 18 G) 18 = G := vA_uA _ _ _
            have eo : ∀ m, 370 * k' ≤ m → m < 370 * k' + 370 → G m = vA R 18 m := by
              intro m m1 m2
              have hne : m < 370 * k ∨ 370 * k + 370 ≤ m := by
                rcases (show k' < k ∨ k < k' by omega) with h | h
                · left; omega
                · right; omega
              rw [g2 m (by omega), f2 m (by omega)]
              show upd (vA R 18) (370 * k) (nI d) m = _
              simp only [up]
              rw [if_neg (by omega)]
            rcases hK k' hk' with ⟨z1, z2⟩ | ⟨z1, T', d', z2, z3, z4, z5⟩
            · left
              rw [e5, eG]
              simp only [up]
              rw [if_neg e, (ob 5 (by omega)).2, eo _ (by omega) (by omega)]
              exact ⟨z1, z2⟩
            · right
              refine ⟨?_, T', d', z2, z3, ?_, ?_⟩
              · rw [e5]
                simp only [up]
                rw [if_neg e, (ob 5 (by omega)).2]
                exact z1
              · refine nightC_of z4 (fun f hf => ?_)
                have hb9 := b1 (20 + 13 * (2 + k') + f) (by omega)
                exact ⟨hb9.1, by rw [oA _ _ (by omega)]; exact hb9.2⟩
              · unfold keptR
                rw [eG]
                refine ⟨?_, fun i hi => ?_, fun e he i hi => ?_⟩
                · rw [eo _ (by omega) (by omega)]; exact z5.1
                · rw [eo _ (by omega) (by omega)]; exact z5.2.1 i hi
                · rw [eo _ (by omega) (by omega)]; exact z5.2.2 e he i hi
    · show wp_X5_keep _ _ _
      unfold wp_X5_keep
      rw [q_in _ 0 2 0 2 (by decide) (by decide), if_pos (ix3.mpr c), r1, en]
      exact no' n10 ⟨fun h9 => absurd e0 h9, fun _ => ⟨rfl, hI⟩⟩
  · rw [if_neg c]
    refine yes' rfl ?_
    show wp_X5_keep _ _ _
    unfold wp_X5_keep
    rw [q_in _ 0 2 0 2 (by decide) (by decide), if_neg (fun h9 => c (ix3.mp h9))]
    exact yes' rfl ⟨rfl, hI⟩
theorem st_on_ok : st_on Inv := by
  intro x1 C R hI
  obtain ⟨h1, h2, h3, n, last, due, kd, bd, T, d, h5, hd, hV, hC, hR, hK⟩ := id hI
  have hn := h5.1
  obtain ⟨⟨r1, r2, r3, r4⟩, rs, rn, ra⟩ := id hR
  unfold wp_X4_on
  rw [q_isBelow]
  by_cases c : 0 ≤ x1 ∧ x1 < 3
  · rw [if_pos c]
    obtain ⟨k, hk, rfl⟩ := ixY (n := 3) (by decide) c
    rw [nI_clamp (show k < 2 ^ 31 by omega)]
    refine no' n10 ⟨vp_in_nI hk (by decide), ?_⟩
    rcases hK k hk with ⟨z1, z2⟩ | ⟨z1, T', d', z2, z3, z4, z5⟩
    · rw [z1]
      refine yes' rfl (q_foundC 1 (by decide) C _ ?_)
      show wp_X5_on _ _ _
      unfold wp_X5_on
      rw [q_in _ 0 2 0 2 (by decide) (by decide), if_pos (ix3.mpr c), e370 k, nI_clamp (show 370 * k < 2 ^ 31 by omega), z2]
      exact no' n10 ⟨vp_in_nI (by omega) (by decide), no (by decide) (q_foundR 1 (by decide) R _ ⟨rfl, inv_fd hI 1 (by decide)⟩)⟩
    · rw [z1]
      refine no' n10 ⟨vp_in_nI hk (by decide), q_become (Or.inl ⟨rfl, by omega⟩) C _ (fun C' hb => ?_)⟩
      have hN' := night_bec z4 hn z2 hb
      show wp_X5_on _ _ _
      unfold wp_X5_on
      rw [q_in _ 0 2 0 2 (by decide) (by decide), if_pos (ix3.mpr c), e370 k, nI_clamp (show 370 * k < 2 ^ 31 by omega), z5.1, nI_1]
      refine no' n10 ⟨vp_in_nI (by omega) (by decide), yes (nI_pos' (by omega)) ⟨vp_in_nI (by omega) (by decide), ?_⟩⟩
      refine q_copies 18 14 (370 * k + 1) 0 9 (by decide) (show 370 * k + 1 + 9 ≤ 1110 by omega) (by decide) (by decide) (by decide) _ _ (fun F f1 f2 => ?_)
      rw [show nI (370 * k + 1) + 9 = nI (370 * k + 10) from nI_add _ 9]
      refine q_copies 18 16 (370 * k + 10) 0 360 (by decide) (show 370 * k + 10 + 360 ≤ 1110 by omega) (by decide) (by decide) (by decide) _ _ (fun G g1 g2 => ?_)
      refine ⟨hN'.1.2.2.2.2.2.2, ?_⟩
      refine inv_off h1 h2 h3 hK h5 ⟨fun m hm => hb.1 m (by omega), hb.2.1⟩ ⟨fun m a1 a2 => ?_, fun m a1 => ?_, fun _ => rfl⟩ z2 z3 hN' ⟨⟨r1, r2, r3, rfl⟩, rs, fun i hi => ?_, fun e he i hi => ?_⟩
      · simp only [ac]; rw [if_neg a2, if_neg a1]
      · simp only [ac]; rw [if_neg a1]
      · show F i = _
        have := f1 i (by omega)
        rw [Nat.zero_add] at this
        rw [this]; exact z5.2.1 i hi
      · show G (9 * e + i) = _
        have := g1 (9 * e + i) (by omega)
        rw [Nat.zero_add] at this
        rw [this]; exact z5.2.2 e he i hi
  · rw [if_neg c]
    refine yes' rfl ?_
    show wp_X5_on _ _ _
    unfold wp_X5_on
    rw [q_in _ 0 2 0 2 (by decide) (by decide), if_neg (fun h9 => c (ix3.mp h9))]
    exact yes' rfl ⟨rfl, hI⟩
