theorem k13 : ∀ (w : Nat), w < 12 → w = 0 ∨ w = 1 ∨ w = 2 ∨ w = 3 ∨ w = 4 ∨ w = 5 ∨ w = 6 ∨ w = 7 ∨ w = 8 ∨ w = 9 ∨ w = 10 ∨ w = 11 := by omega
theorem q_told {C R : sT} (hI : Inv C R) {w : Nat} (hw : w < 12) : ∃ v : Int32, (∀ Q : Int32 → sT → Prop, Q v C → wp_X4_toldCount (nI w) C Q) ∧ (∀ Q : Int32 → sT → Prop, Q v R → wp_X5_count (nI w) R Q) := by
  obtain ⟨hM, hRr, hT, hN⟩ := id hI
  obtain ⟨n, last, due, kd, bd, T, d, hok, hd40, hV, hC, hR, hK⟩ := id hN
  obtain ⟨⟨c1, c2, c3, c4, c5, c6, c7⟩, cs, -⟩ := id hC
  obtain ⟨⟨r1, r2, r3, r4⟩, rs, rn, -⟩ := id hR
  have hn := hok.1
  have hVd := hV d (Nat.le_refl d)
  have zR : ∀ r, r < 6 → vA C 200 r = -1 ∨ ∃ z : Nat, z ≤ 60 ∧ vA C 200 r = nI z := by
    intro r hr
    rw [(hRr r hr).1]
    rcases (hRr r hr).2.1 with h | ⟨z, h1, h2⟩
    · exact Or.inl h
    · exact Or.inr ⟨z, by omega, h2⟩
  have zT : ∀ r, r < 4 → vA C 201 r = -1 ∨ ∃ z : Nat, z ≤ 60 ∧ vA C 201 r = nI z := by
    intro r hr
    rw [(hT r hr).1]
    exact (hT r hr).2.1
  have zK : ∀ r, r < 3 → (vA C 5 r = 0 ∧ vA R 18 (370 * r) = -1) ∨ (vA C 5 r = 1 ∧ ∃ d : Nat, d ≤ 40 ∧ vA R 18 (370 * r) = nI d) := by
    intro r hr
    rcases hK r hr with h | ⟨h1, T', d', h2, h3, h4, h5⟩
    · exact Or.inl h
    · exact Or.inr ⟨h1, d', h2, h5.1⟩
  unfold wp_X4_toldCount wp_X5_count
  have z0 : (0 : Int32).toNatClampNeg = 0 := rfl
  have z1 : (1 : Int32).toNatClampNeg = 1 := rfl
  have z2 : (2 : Int32).toNatClampNeg = 2 := rfl
  have v0 : vp_in (0 : Int32) 9 := vp_in_nI (n := 0) (by decide) (by decide)
  have v1 : vp_in (1 : Int32) 9 := vp_in_nI (n := 1) (by decide) (by decide)
  have v2 : vp_in (2 : Int32) 9 := vp_in_nI (n := 2) (by decide) (by decide)
  rcases k13 w hw with rfl | rfl | rfl | rfl | rfl | rfl | rfl | rfl | rfl | rfl | rfl | rfl
  · refine ⟨nI n, fun Q hQ => ?_, fun Q hQ => ?_⟩
    · simp only [show vI C 26 = nI n from c1]
      (refine ⟨?_, ?_, ?_, ?_, ?_, ?_, ?_, ?_, ?_, ?_, ?_, ?_⟩) <;> first | exact fun h9 => absurd h9 (by decide) | exact fun h9 => absurd rfl h9 | exact fun _ => hQ
    · simp only [r1]
      (refine ⟨?_, ?_, ?_, ?_, ?_, ?_, ?_, ?_, ?_, ?_, ?_, ?_, ?_⟩) <;> first | exact fun h9 => absurd h9 (by decide) | exact fun h9 => absurd rfl h9 | exact fun _ => hQ
  · refine ⟨nI last, fun Q hQ => ?_, fun Q hQ => ?_⟩
    · simp only [show vI C 27 = nI last from c2]
      (refine ⟨?_, ?_, ?_, ?_, ?_, ?_, ?_, ?_, ?_, ?_, ?_, ?_⟩) <;> first | exact fun h9 => absurd h9 (by decide) | exact fun _ => hQ | exact fun _ h9 => absurd rfl h9
    · simp only [r2]
      (refine ⟨?_, ?_, ?_, ?_, ?_, ?_, ?_, ?_, ?_, ?_, ?_, ?_, ?_⟩) <;> first | exact fun h9 => absurd h9 (by decide) | exact fun _ => hQ | exact fun _ h9 => absurd rfl h9
  · refine ⟨nI d, fun Q hQ => ?_, fun Q hQ => ?_⟩
    · simp only [show vI C 32 = nI d from c7]
      (refine ⟨?_, ?_, ?_, ?_, ?_, ?_, ?_, ?_, ?_, ?_, ?_, ?_⟩) <;> first | exact fun h9 => absurd h9 (by decide) | exact fun _ => hQ | exact fun _ _ h9 => absurd rfl h9
    · simp only [r4]
      (refine ⟨?_, ?_, ?_, ?_, ?_, ?_, ?_, ?_, ?_, ?_, ?_, ?_, ?_⟩) <;> first | exact fun h9 => absurd h9 (by decide) | exact fun _ => hQ | exact fun _ _ h9 => absurd rfl h9
  · refine ⟨nI (T d 0), fun Q hQ => ?_, fun Q hQ => ?_⟩
    · simp only [show vI C 30 = nI (T d 0) from c5]
      (refine ⟨?_, ?_, ?_, ?_, ?_, ?_, ?_, ?_, ?_, ?_, ?_, ?_⟩) <;> first | exact fun h9 => absurd h9 (by decide) | exact fun _ => hQ | exact fun _ _ _ h9 => absurd rfl h9
    · simp only [z0, rn 0 (by omega)]
      (refine ⟨?_, ?_, ?_, ?_, ?_, ?_, ?_, ?_, ?_, ?_, ?_, ?_, ?_⟩) <;> first | exact fun h9 => absurd h9 (by decide) | exact fun _ => ⟨v0, hQ⟩ | exact fun _ _ _ h9 => absurd rfl h9
  · refine ⟨nI (T d 1), fun Q hQ => ?_, fun Q hQ => ?_⟩
    · simp only [show vI C 31 = nI (T d 1) from c6]
      (refine ⟨?_, ?_, ?_, ?_, ?_, ?_, ?_, ?_, ?_, ?_, ?_, ?_⟩) <;> first | exact fun h9 => absurd h9 (by decide) | exact fun _ => hQ | exact fun _ _ _ _ h9 => absurd rfl h9
    · simp only [z1, rn 1 (by omega)]
      (refine ⟨?_, ?_, ?_, ?_, ?_, ?_, ?_, ?_, ?_, ?_, ?_, ?_, ?_⟩) <;> first | exact fun h9 => absurd h9 (by decide) | exact fun _ => ⟨v1, hQ⟩ | exact fun _ _ _ _ h9 => absurd rfl h9
  · refine ⟨nI (T d 2), fun Q hQ => ?_, fun Q hQ => ?_⟩
    · simp only [show vI C 29 = nI (T d 2) from c4]
      (refine ⟨?_, ?_, ?_, ?_, ?_, ?_, ?_, ?_, ?_, ?_, ?_, ?_⟩) <;> first | exact fun h9 => absurd h9 (by decide) | exact fun _ => hQ | exact fun _ _ _ _ _ h9 => absurd rfl h9
    · simp only [z2, rn 2 (by omega)]
      (refine ⟨?_, ?_, ?_, ?_, ?_, ?_, ?_, ?_, ?_, ?_, ?_, ?_, ?_⟩) <;> first | exact fun h9 => absurd h9 (by decide) | exact fun _ => ⟨v2, hQ⟩ | exact fun _ _ _ _ _ h9 => absurd rfl h9
  · refine ⟨fo (whoF kd (T d)) 0 n, fun Q hQ => ?_, fun Q hQ => ?_⟩
    · have g := q_dreamers hC hok hVd Q hQ
      (refine ⟨?_, ?_, ?_, ?_, ?_, ?_, ?_, ?_, ?_, ?_, ?_, ?_⟩) <;> first | exact fun h9 => absurd h9 (by decide) | exact fun _ => g | exact fun _ _ _ _ _ _ h9 => absurd rfl h9
    · have g := q_whoDream r1 (fun i hi => (rs i hi).1) rn hok hVd Q hQ
      (refine ⟨?_, ?_, ?_, ?_, ?_, ?_, ?_, ?_, ?_, ?_, ?_, ?_, ?_⟩) <;> first | exact fun h9 => absurd h9 (by decide) | exact fun _ => g | exact fun _ _ _ _ _ _ h9 => absurd rfl h9
  · refine ⟨nI due, fun Q hQ => ?_, fun Q hQ => ?_⟩
    · simp only [show vI C 28 = nI due from c3]
      (refine ⟨?_, ?_, ?_, ?_, ?_, ?_, ?_, ?_, ?_, ?_, ?_, ?_⟩) <;> first | exact fun h9 => absurd h9 (by decide) | exact fun _ => hQ | exact fun _ _ _ _ _ _ _ h9 => absurd rfl h9
    · simp only [r3]
      (refine ⟨?_, ?_, ?_, ?_, ?_, ?_, ?_, ?_, ?_, ?_, ?_, ?_, ?_⟩) <;> first | exact fun h9 => absurd h9 (by decide) | exact fun _ => hQ | exact fun _ _ _ _ _ _ _ h9 => absurd rfl h9
  · refine ⟨fo (thF (vA C 200)) 0 6, fun Q hQ => ?_, fun Q hQ => ?_⟩
    · have g := q_howMany 0 (by decide) C zR Q hQ
      (refine ⟨?_, ?_, ?_, ?_, ?_, ?_, ?_, ?_, ?_, ?_, ?_, ?_⟩) <;> first | exact fun h9 => absurd h9 (by decide) | exact fun _ => g | exact fun _ _ _ _ _ _ _ _ h9 => absurd rfl h9
    · have g := q_there 1 6 1 (by decide) (by decide) (by decide) (by decide) (by decide) R Q (by
        rw [← fo_congr (f := thF (vA C 200)) (fun i hi b => by unfold thF; rw [(hRr i hi).1]; simp)]
        exact hQ)
      (refine ⟨?_, ?_, ?_, ?_, ?_, ?_, ?_, ?_, ?_, ?_, ?_, ?_, ?_⟩) <;> first | exact fun h9 => absurd h9 (by decide) | exact fun _ => g | exact fun _ _ _ _ _ _ _ _ h9 => absurd rfl h9
  · refine ⟨fo (thF (vA C 201)) 0 4, fun Q hQ => ?_, fun Q hQ => ?_⟩
    · have g := q_howMany 1 (by decide) C zT Q hQ
      (refine ⟨?_, ?_, ?_, ?_, ?_, ?_, ?_, ?_, ?_, ?_, ?_, ?_⟩) <;> first | exact fun h9 => absurd h9 (by decide) | exact fun _ => g | exact fun _ _ _ _ _ _ _ _ _ h9 => absurd rfl h9
    · have g := q_there 3 4 1 (by decide) (by decide) (by decide) (by decide) (by decide) R Q (by
        rw [← fo_congr (f := thF (vA C 201)) (fun i hi b => by unfold thF; rw [(hT i hi).1]; simp)]
        exact hQ)
      (refine ⟨?_, ?_, ?_, ?_, ?_, ?_, ?_, ?_, ?_, ?_, ?_, ?_, ?_⟩) <;> first | exact fun h9 => absurd h9 (by decide) | exact fun _ => g | exact fun _ _ _ _ _ _ _ _ _ h9 => absurd rfl h9
  · refine ⟨fo (thF (fun r => vA R 18 (370 * r))) 0 3, fun Q hQ => ?_, fun Q hQ => ?_⟩
    · have g := q_keptCount C (fun r => vA R 18 (370 * r)) zK Q hQ
      (refine ⟨?_, ?_, ?_, ?_, ?_, ?_, ?_, ?_, ?_, ?_, ?_, ?_⟩) <;> first | exact fun h9 => absurd h9 (by decide) | exact fun _ => g | exact fun _ _ _ _ _ _ _ _ _ _ h9 => absurd rfl h9
    · have g := q_there 18 3 370 (by decide) (by decide) (by decide) (by decide) (by decide) R Q hQ
      (refine ⟨?_, ?_, ?_, ?_, ?_, ?_, ?_, ?_, ?_, ?_, ?_, ?_, ?_⟩) <;> first | exact fun h9 => absurd h9 (by decide) | exact fun _ => g | exact fun _ _ _ _ _ _ _ _ _ _ h9 => absurd rfl h9
  · refine ⟨fo (chF kd) 0 n, fun Q hQ => ?_, fun Q hQ => ?_⟩
    · have g := q_cheese hC hok Q hQ
      (refine ⟨?_, ?_, ?_, ?_, ?_, ?_, ?_, ?_, ?_, ?_, ?_, ?_⟩) <;> first | exact fun h9 => absurd h9 (by decide) | exact fun _ _ _ _ _ _ _ _ _ _ _ => g
    · have g := q_ofCheese r1 (fun i hi => (rs i hi).1) hok Q hQ
      (refine ⟨?_, ?_, ?_, ?_, ?_, ?_, ?_, ?_, ?_, ?_, ?_, ?_, ?_⟩) <;> first | exact fun h9 => absurd h9 (by decide) | exact fun _ => g | exact fun _ _ _ _ _ _ _ _ _ _ _ h9 => absurd rfl h9
theorem st_count_ok : st_count Inv := by
  intro x1 C R hI
  unfold wp_X4_count
  rw [q_isBelow]
  by_cases h1 : 0 ≤ x1 ∧ x1 < 12
  · obtain ⟨w, hw, rfl⟩ := ixY (n := 12) (by decide) h1
    obtain ⟨v, g1, g2⟩ := q_told hI hw
    rw [if_pos h1]
    exact no n10 (g1 _ (g2 _ ⟨rfl, hI⟩))
  · rw [if_neg h1]
    refine yes rfl ?_
    show wp_X5_count _ _ _
    unfold wp_X5_count
    (refine ⟨?_, ?_, ?_, ?_, ?_, ?_, ?_, ?_, ?_, ?_, ?_, ?_, ?_⟩) <;> first | exact fun h9 => absurd (show 0 ≤ x1 ∧ x1 < 12 by rw [h9]; decide) h1 | exact fun _ _ _ _ _ _ _ _ _ _ _ _ => ⟨rfl, hI⟩
