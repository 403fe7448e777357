theorem pow_le64 {n a : Nat} (hn : n ≤ 6) (h : a < 2 ^ n) : a < 64 := by
  have : 2 ^ n ≤ 2 ^ 6 := Nat.pow_le_pow_right (by decide) hn
  omega
theorem q_isOne {n : Nat} (hn : n ≤ 6) (x : Int32) (S : sT) (hs : vI S 9 = nI n) (Q : Int32 → sT → Prop) : wp_X5_isOne x S Q ↔ Q (if 0 ≤ x ∧ x < nI n then 1 else 0) S := by
  unfold wp_X5_isOne
  rw [hs, q_in x 0 (nI n - 1) 0 _ (by decide) rfl]
  simp only [le_pred x (show n ≤ 1000 by omega)]
  exact ⟨fun h => h.2, fun h => ⟨bo_if _, h⟩⟩
/-- does i dream, in the state V -/
def drm (kd : Nat → Nat) (V : Nat → Nat) (i : Nat) : Bool := bt (V 2) i && dr (kd i) (V (3 + i)) (V 0)
theorem q_dreamC {S : sT} {j n last due : Nat} {kd bd : Nat → Nat} {T : Nat → Nat → Nat} {d : Nat} (hN : nightC S j n last due kd bd T d) (hok : okN n last due kd bd) (hV : okV n last (T d)) {i : Nat} (hi : i < n) (Q : Int32 → sT → Prop) (h : Q (b2 (drm kd (T d) i)) S) : wp_X1_isDreaming j (nI i) S Q := by
  obtain ⟨⟨-, -, -, ha, hc, -, -⟩, hs, -⟩ := hN
  obtain ⟨k1, k2, k3⟩ := hs i hi
  have hn := hok.1
  have hcl : (nI i).toNatClampNeg = i := nI_clamp (by omega)
  unfold wp_X1_isDreaming
  refine q_asleep (pow_le64 hn hV.2.2.1) (by omega) S _ ha ?_
  unfold drm at h
  cases hb : bt (T d 2) i <;> rw [hb] at h
  · exact ⟨fun _ => h, fun h9 => absurd rfl h9⟩
  · refine ⟨fun h9 => absurd h9 (by decide), fun _ => ⟨vp_in_nI (by omega) (by decide), vp_in_nI (by omega) (by decide), ?_⟩⟩
    rw [hcl, Nat.add_zero, k1, k3, hc]
    refine q_would (hok.2.2.2 i hi).1 (hV.2.2.2 i hi) (by have := hV.1; omega) S _ ?_
    rw [Bool.true_and] at h
    cases hd : dr (kd i) (T d (3 + i)) (T d 0) <;> rw [hd] at h
    · exact ⟨fun _ => h, fun h9 => absurd rfl h9⟩
    · exact ⟨fun h9 => absurd h9 (by decide), fun _ => h⟩
theorem q_dreamsOn {S : sT} {k n last due : Nat} {kd bd : Nat → Nat} {V : Nat → Nat} (hk9 : lenR k = 9) (hkd : ∀ i, i < n → vA S 12 i = nI (kd i)) (hs : ∀ i, i < 3 + n → vA S k i = nI (V i)) (hok : okN n last due kd bd) {i t : Nat} (hi : i < n) (hsu : V (3 + i) ≤ 9) (ht : t ≤ 1000) (Q : Int32 → sT → Prop) (h : Q (b2 (dr (kd i) (V (3 + i)) t)) S) : wp_X5_dreamsOn k (nI i) (nI t) S Q := by
  have hn := hok.1
  have hcl : (nI i).toNatClampNeg = i := nI_clamp (by omega)
  have e3 : (3 : Int32) + nI i = nI (3 + i) := nI_add 3 i
  unfold wp_X5_dreamsOn
  rw [e3, hk9, hcl, nI_clamp (show 3 + i < 2 ^ 31 by omega), hkd i hi, hs (3 + i) (by omega)]
  refine ⟨vp_in_nI (by omega) (by decide), vp_in_nI (by omega) (by decide), ?_⟩
  exact q_dreamsBy (hok.2.2.2 i hi).1 hsu ht S _ ⟨bo_b2 _, h⟩
theorem q_dreamR {S : sT} {n last due : Nat} {kd bd : Nat → Nat} {V : Nat → Nat} (hkd : ∀ i, i < n → vA S 12 i = nI (kd i)) (hs : ∀ i, i < 3 + n → vA S 14 i = nI (V i)) (hok : okN n last due kd bd) (hV : okV n last V) {i : Nat} (hi : i < n) (Q : Int32 → sT → Prop) (h : Q (b2 (drm kd V i)) S) : wp_X5_isDreaming (nI i) S Q := by
  have hn := hok.1
  unfold wp_X5_isDreaming
  refine ⟨vp_in_nI (n := 2) (by decide) (by decide), ?_⟩
  rw [show (2 : Int32).toNatClampNeg = 2 from rfl, hs 2 (by omega)]
  refine q_has (pow_le64 hn hV.2.2.1) (by omega) S _ ?_
  unfold drm at h
  cases hb : bt (V 2) i <;> rw [hb] at h
  · exact ⟨fun _ => h, fun h9 => absurd rfl h9⟩
  · refine ⟨fun h9 => absurd h9 (by decide), fun _ => ⟨vp_in_nI (n := 0) (by decide) (by decide), ?_⟩⟩
    rw [show (0 : Int32).toNatClampNeg = 0 from rfl, hs 0 (by omega)]
    refine q_dreamsOn rfl hkd hs hok hi (hV.2.2.2 i hi) (by have := hV.1; omega) _ ?_
    rw [Bool.true_and] at h
    cases hd : dr (kd i) (V (3 + i)) (V 0) <;> rw [hd] at h
    · exact ⟨fun _ => h, fun h9 => absurd rfl h9⟩
    · exact ⟨fun h9 => absurd h9 (by decide), fun _ => h⟩
theorem st_dreams_ok : st_dreams Inv := by
  intro x1 x2 C R hI
  obtain ⟨n, last, due, kd, bd, T, d, hok, hd40, hV, hC, hR, hK⟩ := id hI.2.2.2
  obtain ⟨⟨c1, -, -, -, -, -, -⟩, cs, -⟩ := id hC
  obtain ⟨⟨r1, -, -, -⟩, rs, rn, -⟩ := id hR
  have hn := hok.1
  have hb : ∀ v : Int32, ¬ ((0 ≤ x1 ∧ x1 < nI n) ∧ (0 ≤ x2 ∧ x2 < 100)) → v = -1 → wp_X5_dreams x1 x2 R (fun r2 SR1 => v = r2 ∧ Inv C SR1) := by
    intro v h hv
    unfold wp_X5_dreams
    rw [q_isOne hn x1 R r1]
    by_cases h1 : 0 ≤ x1 ∧ x1 < nI n
    · rw [if_pos h1, q_in x2 0 99 0 99 (by decide) (by decide), if_neg (by grind)]
      exact ⟨fun h9 => absurd h9 (by decide), fun _ => ⟨fun h9 => absurd rfl h9, fun _ => ⟨hv, hI⟩⟩⟩
    · rw [if_neg h1]
      exact ⟨fun _ => ⟨hv, hI⟩, fun h9 => absurd rfl h9⟩
  unfold wp_X4_dreams
  rw [show vI C 26 = nI n from c1, q_isBelow]
  by_cases h1 : 0 ≤ x1 ∧ x1 < nI n
  · rw [if_pos h1]
    refine ⟨fun h9 => absurd h9 (by decide), fun _ => ?_⟩
    rw [q_isBelow]
    by_cases h2 : 0 ≤ x2 ∧ x2 < 100
    · rw [if_pos h2]
      obtain ⟨i, hi, rfl⟩ : ∃ i, i < n ∧ x1 = nI i := by
        rcases cIx x1 (show n < 2 ^ 31 by omega) with h9 | h9
        · exact absurd h1 h9
        · exact h9
      obtain ⟨t, ht, rfl⟩ : ∃ t, t < 100 ∧ x2 = nI t := by
        rcases cIx x2 (show 100 < 2 ^ 31 by decide) with h9 | h9
        · exact absurd h2 h9
        · exact h9
      obtain ⟨k1, k2, k3⟩ := cs i hi
      have hVd := hV d (Nat.le_refl d)
      refine ⟨fun _ => ⟨vp_in_nI (by omega) (by decide), vp_in_nI (by omega) (by decide), ?_⟩, fun h9 => absurd h9 (by decide)⟩
      rw [nI_clamp (show i < 2 ^ 31 by omega), show vA C 20 i = nI (kd i) from k1, show vA C 22 i = nI (T d (3 + i)) from k3]
      refine q_would (hok.2.2.2 i hi).1 (hVd.2.2.2 i hi) (by omega) C _ (q_bit _ C _ ?_)
      show wp_X5_dreams _ _ _ _
      unfold wp_X5_dreams
      rw [q_isOne hn _ R r1, if_pos h1, q_in _ 0 99 0 99 (by decide) (by decide), if_pos (by grind)]
      refine ⟨fun h9 => absurd h9 (by decide), fun _ => ⟨fun _ => ?_, fun h9 => absurd h9 (by decide)⟩⟩
      refine q_dreamsOn rfl (fun i hi => (rs i hi).1) rn hok hi (hVd.2.2.2 i hi) (by omega) _ ?_
      cases dr (kd i) (T d (3 + i)) t
      · exact ⟨fun _ => ⟨rfl, hI⟩, fun h9 => absurd rfl h9⟩
      · exact ⟨fun h9 => absurd h9 (by decide), fun _ => ⟨rfl, hI⟩⟩
    · rw [if_neg h2]
      exact ⟨fun h9 => absurd rfl h9, fun _ => hb _ (fun h9 => h2 h9.2) rfl⟩
  · rw [if_neg h1]
    exact ⟨fun _ => hb _ (fun h9 => h1 h9.1) rfl, fun h9 => absurd rfl h9⟩
theorem st_sleeper_ok : st_sleeper Inv := by
  intro x1 x2 C R hI
  obtain ⟨n, last, due, kd, bd, T, d, hok, hd40, hV, hC, hR, hK⟩ := id hI.2.2.2
  obtain ⟨⟨c1, -, -, c4, -, -, -⟩, cs, -⟩ := id hC
  obtain ⟨⟨r1, -, -, -⟩, rs, rn, -⟩ := id hR
  have hn := hok.1
  have hb : ∀ v : Int32, ¬ ((0 ≤ x1 ∧ x1 < nI n) ∧ (0 ≤ x2 ∧ x2 < 5)) → v = -1 → wp_X5_sleeper x1 x2 R (fun r2 SR1 => v = r2 ∧ Inv C SR1) := by
    intro v h hv
    unfold wp_X5_sleeper
    rw [q_isOne hn x1 R r1]
    by_cases h1 : 0 ≤ x1 ∧ x1 < nI n
    · rw [if_pos h1, q_in x2 0 4 0 4 (by decide) (by decide), if_neg (by grind)]
      exact ⟨fun h9 => absurd h9 (by decide), fun _ => ⟨fun h9 => absurd rfl h9, fun _ => ⟨hv, hI⟩⟩⟩
    · rw [if_neg h1]
      exact ⟨fun _ => ⟨hv, hI⟩, fun h9 => absurd rfl h9⟩
  unfold wp_X4_sleeper
  rw [show vI C 26 = nI n from c1, q_isBelow]
  by_cases h1 : 0 ≤ x1 ∧ x1 < nI n
  · rw [if_pos h1]
    refine ⟨fun h9 => absurd h9 (by decide), fun _ => ?_⟩
    rw [q_isBelow]
    by_cases h2 : 0 ≤ x2 ∧ x2 < 5
    · rw [if_pos h2]
      obtain ⟨i, hi, rfl⟩ : ∃ i, i < n ∧ x1 = nI i := by
        rcases cIx x1 (show n < 2 ^ 31 by omega) with h9 | h9
        · exact absurd h1 h9
        · exact h9
      obtain ⟨w, hw, rfl⟩ : ∃ w, w < 5 ∧ x2 = nI w := by
        rcases cIx x2 (show 5 < 2 ^ 31 by decide) with h9 | h9
        · exact absurd h2 h9
        · exact h9
      obtain ⟨k1, k2, k3⟩ := cs i hi
      have hVd := hV d (Nat.le_refl d)
      have hcl : (nI i).toNatClampNeg = i := nI_clamp (by omega)
      have ha := pow_le64 hn hVd.2.2.1
      have e3 : (3 : Int32) + nI i = nI (3 + i) := nI_add 3 i
      have hcl3 : (nI (3 + i)).toNatClampNeg = 3 + i := nI_clamp (by omega)
      refine ⟨fun _ => ?_, fun h9 => absurd h9 (by decide)⟩
      have fin : ∀ v : Int32, (v = nI (kd i) ∧ w = 0) ∨ (v = nI (bd i) ∧ w = 1) ∨ (v = nI (T d (3 + i)) ∧ w = 2) ∨ (v = b2 (bt (T d 2) i) ∧ w = 3) ∨ (v = b2 (drm kd (T d) i) ∧ w = 4) → wp_X5_sleeper (nI i) (nI w) R (fun r2 SR1 => 1 = r2 ∧ Inv (uI C 13 v) SR1) := by
        intro v hv
        unfold wp_X5_sleeper
        rw [q_isOne hn _ R r1, if_pos h1, q_in _ 0 4 0 4 (by decide) (by decide), if_pos (by grind)]
        refine ⟨fun h9 => absurd h9 (by decide), fun _ => ⟨fun _ => ?_, fun h9 => absurd h9 (by decide)⟩⟩
        rw [e3, hcl, hcl3, (rs i hi).1, (rs i hi).2, rn (3 + i) (by omega), show (2 : Int32).toNatClampNeg = 2 from rfl, rn 2 (by omega), bit_b2 ha (by omega)]
        unfold wp_X5_tell
        rcases hv with ⟨rfl, rfl⟩ | ⟨rfl, rfl⟩ | ⟨rfl, rfl⟩ | ⟨rfl, rfl⟩ | ⟨rfl, rfl⟩
        · exact ⟨fun _ => ⟨vp_in_nI (by omega) (by decide), rfl, inv_told hI _⟩, fun h9 => absurd h9 (by decide), fun h9 => absurd h9 (by decide), fun h9 => absurd h9 (by decide), fun h9 => absurd rfl h9⟩
        · exact ⟨fun h9 => absurd h9 (by decide), fun _ => ⟨vp_in_nI (by omega) (by decide), rfl, inv_told hI _⟩, fun h9 => absurd h9 (by decide), fun h9 => absurd h9 (by decide), fun _ h9 => absurd rfl h9⟩
        · exact ⟨fun h9 => absurd h9 (by decide), fun h9 => absurd h9 (by decide), fun _ => ⟨vp_in_nI (by omega) (by decide), rfl, inv_told hI _⟩, fun h9 => absurd h9 (by decide), fun _ _ h9 => absurd rfl h9⟩
        · exact ⟨fun h9 => absurd h9 (by decide), fun h9 => absurd h9 (by decide), fun h9 => absurd h9 (by decide), fun _ => ⟨vp_in_nI (n := 2) (by decide) (by decide), rfl, inv_told hI _⟩, fun _ _ _ h9 => absurd rfl h9⟩
        · refine ⟨fun h9 => absurd h9 (by decide), fun h9 => absurd h9 (by decide), fun h9 => absurd h9 (by decide), fun h9 => absurd h9 (by decide), fun _ _ _ _ => ?_⟩
          refine q_dreamR (fun i hi => (rs i hi).1) rn hok hVd hi _ ?_
          unfold wb_X5_sleeper_116 wp_X5_tell
          cases drm kd (T d) i
          · exact ⟨fun _ => ⟨rfl, inv_told hI _⟩, fun h9 => absurd rfl h9⟩
          · exact ⟨fun h9 => absurd h9 (by decide), fun _ => ⟨rfl, inv_told hI _⟩⟩
      unfold wp_X4_toldOfSleeper
      rw [hcl, show vA C 20 i = nI (kd i) from k1, show vA C 21 i = nI (bd i) from k2, show vA C 22 i = nI (T d (3 + i)) from k3]
      rcases (show w = 0 ∨ w = 1 ∨ w = 2 ∨ w = 3 ∨ w = 4 by omega) with rfl | rfl | rfl | rfl | rfl
      · exact ⟨fun _ => ⟨vp_in_nI (by omega) (by decide), fin _ (Or.inl ⟨rfl, rfl⟩)⟩, fun h9 => absurd h9 (by decide), fun h9 => absurd h9 (by decide), fun h9 => absurd h9 (by decide), fun h9 => absurd rfl h9⟩
      · exact ⟨fun h9 => absurd h9 (by decide), fun _ => ⟨vp_in_nI (by omega) (by decide), fin _ (Or.inr (Or.inl ⟨rfl, rfl⟩))⟩, fun h9 => absurd h9 (by decide), fun h9 => absurd h9 (by decide), fun _ h9 => absurd rfl h9⟩
      · exact ⟨fun h9 => absurd h9 (by decide), fun h9 => absurd h9 (by decide), fun _ => ⟨vp_in_nI (by omega) (by decide), fin _ (Or.inr (Or.inr (Or.inl ⟨rfl, rfl⟩)))⟩, fun h9 => absurd h9 (by decide), fun _ _ h9 => absurd rfl h9⟩
      · exact ⟨fun h9 => absurd h9 (by decide), fun h9 => absurd h9 (by decide), fun h9 => absurd h9 (by decide), fun _ => q_asleep ha (by omega) C _ c4 (q_bit _ C _ (fin _ (Or.inr (Or.inr (Or.inr (Or.inl ⟨rfl, rfl⟩)))))), fun _ _ _ h9 => absurd rfl h9⟩
      · exact ⟨fun h9 => absurd h9 (by decide), fun h9 => absurd h9 (by decide), fun h9 => absurd h9 (by decide), fun h9 => absurd h9 (by decide), fun _ _ _ _ => q_dreamC hC hok hVd hi _ (q_bit _ C _ (fin _ (Or.inr (Or.inr (Or.inr (Or.inr ⟨rfl, rfl⟩))))))⟩
    · rw [if_neg h2]
      exact ⟨fun h9 => absurd rfl h9, fun _ => hb _ (fun h9 => h2 h9.2) rfl⟩
  · rw [if_neg h1]
    exact ⟨fun _ => hb _ (fun h9 => h1 h9.1) rfl, fun h9 => absurd rfl h9⟩
