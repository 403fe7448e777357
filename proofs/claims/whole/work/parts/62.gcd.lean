/-! parts -/
theorem cmp0 (x : Int64) : lg_cmp x 0 = 0 ↔ x = 0 := by
  unfold lg_cmp
  grind
theorem lN0 {b : Nat} (hb : b < 2 ^ 63) : lN b = 0 ↔ b = 0 := pk_lEQ (b := 0) hb (by decide)
theorem gcd_step (a b : Nat) : Nat.gcd a b = Nat.gcd b (a % b) := by
  rw [Nat.gcd_comm a b, Nat.gcd_rec b a, Nat.gcd_comm]
theorem half {b r : Nat} (hr : r < b) (h0 : 0 < r) : 2 * (b % r) < b := by
  by_cases c : 2 * r ≤ b
  · have := Nat.mod_lt b h0
    omega
  · have h1 : b % r = b - r := by
      rw [Nat.mod_eq_sub_mod (by omega), Nat.mod_eq_of_lt (by omega)]
    omega
theorem wl_gd_s (Q : Int64 → sT → Prop) (f : Nat) (x0 x2 : Int64) (x4 : Int32) (S : sT) : wl_X4_greatestDivisor_3 Q (f + 1) x0 x2 x4 S = wb_X4_greatestDivisor_3 Q (fun x0 x2 x4 S => wl_X4_greatestDivisor_3 Q f x0 x2 x4 S) x0 x2 x4 S := rfl
theorem wl_fr_s (Q : Int32 → sT → Prop) (f : Nat) (x1 x3 x5 x7 : Int64) (S : sT) : wl_X5_fraction_6 Q (f + 1) x1 x3 x5 x7 S = wb_X5_fraction_6 Q (fun x1 x3 x5 x7 S => wl_X5_fraction_6 Q f x1 x3 x5 x7 S) x1 x3 x5 x7 S := rfl
theorem gd_one (Q : Int64 → sT → Prop) (S : sT) (f a b i : Nat) (ha : a < 2 ^ 63) (hb : b < 2 ^ 63) (hi : i < 200) (h0 : b = 0 → Q (if lN a < 1 then 1 else lN a) S) (h1 : ¬ b = 0 → wl_X4_greatestDivisor_3 Q f (lN b) (lN (a % b)) (nI (i + 1)) S) : wl_X4_greatestDivisor_3 Q (f + 1) (lN a) (lN b) (nI i) S := by
  rw [wl_gd_s]
  unfold wb_X4_greatestDivisor_3 wb_X4_greatestDivisor_33
  rw [cmp0, lN0 hb, nI_1]
  refine no (nI_ge (b := 200) hi (by decide)) ⟨h0, fun c => ⟨c, ?_⟩⟩
  rw [pk_lRem ha (by omega) hb]
  exact h1 c
theorem gd_run (Q : Int64 → sT → Prop) (S : sT) : ∀ k a b i, a < 2 ^ 63 → b < 2 ^ 63 → b < 2 ^ k → i + 2 * k < 200 → Q (if lN (Nat.gcd a b) < 1 then 1 else lN (Nat.gcd a b)) S → wl_X4_greatestDivisor_3 Q (2 * k + 1) (lN a) (lN b) (nI i) S
  | 0, a, b, i, ha, hb, hk, hi, h => by
    have hb0 : b = 0 := by
      have : b < 1 := hk
      omega
    refine gd_one Q S 0 a b i ha hb (by omega) (fun _ => ?_) (fun c => absurd hb0 c)
    rw [hb0, Nat.gcd_zero_right] at h
    exact h
  | k + 1, a, b, i, ha, hb, hk, hi, h => by
    show wl_X4_greatestDivisor_3 Q (2 * k + 1 + 1 + 1) _ _ _ S
    refine gd_one Q S _ a b i ha hb (by omega) (fun c => ?_) (fun c => ?_)
    · rw [c, Nat.gcd_zero_right] at h
      exact h
    · have hr : a % b < b := Nat.mod_lt _ (by omega)
      refine gd_one Q S _ b (a % b) (i + 1) hb (by omega) (by omega) (fun c2 => ?_) (fun c2 => ?_)
      · rw [gcd_step, c2, Nat.gcd_zero_right] at h
        exact h
      · have h2 := half hr (by omega)
        have hp : 2 ^ (k + 1) = 2 * 2 ^ k := by rw [Nat.pow_succ]; omega
        refine gd_run Q S k (a % b) (b % (a % b)) (i + 1 + 1) (by omega) (by omega) (by omega) (by omega) ?_
        rw [gcd_step, gcd_step b] at h
        exact h
theorem q_gcdC {x y : Nat} (hx : x < 2 ^ 63) (hy : y < 2 ^ 40) (hy0 : 0 < y) (S : sT) (Q : Int64 → sT → Prop) (h : Q (lN (Nat.gcd x y)) S) : wp_X4_greatestDivisor (lN x) (lN y) S Q := by
  unfold wp_X4_greatestDivisor
  have hg : 0 < Nat.gcd x y := Nat.gcd_pos_of_pos_right x hy0
  have hg2 : Nat.gcd x y ≤ y := Nat.gcd_le_right x hy0
  have e : ¬ lN (Nat.gcd x y) < 1 := fun h9 => by
    have := (pk_lLT (a := Nat.gcd x y) (b := 1) (by omega) (by decide)).mp h9
    omega
  refine ⟨2 * 40 + 1, gd_run Q S 40 x y 0 hx (by omega) hy (by decide) ?_⟩
  rw [if_neg e]
  exact h
theorem fr_one (Q : Int32 → sT → Prop) (S : sT) (X Y : Int64) (f a b : Nat) (ha : a < 2 ^ 63) (hb : b < 2 ^ 63) (h0 : b = 0 → ¬ lN a = 0 ∧ Q 1 (uL (uL S 5 (X / lN a)) 6 (Y / lN a))) (h1 : ¬ b = 0 → wl_X5_fraction_6 Q f X Y (lN b) (lN (a % b)) S) : wl_X5_fraction_6 Q (f + 1) X Y (lN a) (lN b) S := by
  rw [wl_fr_s]
  unfold wb_X5_fraction_6
  rw [cmp0, lN0 hb]
  refine ⟨fun c => ⟨(h0 c).1, (h0 c).1, (h0 c).2⟩, fun c => ⟨c, ?_⟩⟩
  rw [pk_lRem ha (by omega) hb]
  exact h1 c
theorem fr_run (Q : Int32 → sT → Prop) (S : sT) (X Y : Int64) : ∀ k a b, a < 2 ^ 63 → b < 2 ^ 63 → b < 2 ^ k → (¬ lN (Nat.gcd a b) = 0 ∧ Q 1 (uL (uL S 5 (X / lN (Nat.gcd a b))) 6 (Y / lN (Nat.gcd a b)))) → wl_X5_fraction_6 Q (2 * k + 1) X Y (lN a) (lN b) S
  | 0, a, b, ha, hb, hk, h => by
    have hb0 : b = 0 := by
      have : b < 1 := hk
      omega
    refine fr_one Q S X Y 0 a b ha hb (fun _ => ?_) (fun c => absurd hb0 c)
    rw [hb0, Nat.gcd_zero_right] at h
    exact h
  | k + 1, a, b, ha, hb, hk, h => by
    show wl_X5_fraction_6 Q (2 * k + 1 + 1 + 1) _ _ _ _ S
    refine fr_one Q S X Y _ a b ha hb (fun c => ?_) (fun c => ?_)
    · rw [c, Nat.gcd_zero_right] at h
      exact h
    · have hr : a % b < b := Nat.mod_lt _ (by omega)
      refine fr_one Q S X Y _ b (a % b) hb (by omega) (fun c2 => ?_) (fun c2 => ?_)
      · rw [gcd_step, c2, Nat.gcd_zero_right] at h
        exact h
      · have h2 := half hr (by omega)
        have hp : 2 ^ (k + 1) = 2 * 2 ^ k := by rw [Nat.pow_succ]; omega
        refine fr_run Q S X Y k (a % b) (b % (a % b)) (by omega) (by omega) (by omega) ?_
        rw [gcd_step, gcd_step b] at h
        exact h
theorem q_tellPart {x y : Nat} (hx : x < 2 ^ 63) (hy : y < 2 ^ 40) (hy0 : 0 < y) (S : sT) (Q : sT → Prop) (h : Q (uL (uL S 14 (lN x / lN (Nat.gcd x y))) 15 (lN y / lN (Nat.gcd x y)))) : wp_X4_tellPart (lN x) (lN y) S Q := by
  unfold wp_X4_tellPart
  have hg : 0 < Nat.gcd x y := Nat.gcd_pos_of_pos_right x hy0
  have hg2 : Nat.gcd x y ≤ y := Nat.gcd_le_right x hy0
  have e : ¬ lN (Nat.gcd x y) = 0 := fun h9 => by
    have := (lN0 (b := Nat.gcd x y) (by omega)).mp h9
    omega
  exact q_gcdC hx hy hy0 S _ ⟨e, e, h⟩
theorem q_fraction {x y : Nat} (hx : x < 2 ^ 63) (hy : y < 2 ^ 40) (hy0 : 0 < y) (S : sT) (Q : Int32 → sT → Prop) (h : Q 1 (uL (uL S 5 (lN x / lN (Nat.gcd x y))) 6 (lN y / lN (Nat.gcd x y)))) : wp_X5_fraction (lN x) (lN y) S Q := by
  unfold wp_X5_fraction
  have hg : 0 < Nat.gcd x y := Nat.gcd_pos_of_pos_right x hy0
  have hg2 : Nat.gcd x y ≤ y := Nat.gcd_le_right x hy0
  have e : ¬ lN (Nat.gcd x y) = 0 := fun h9 => by
    have := (lN0 (b := Nat.gcd x y) (by omega)).mp h9
    omega
  exact ⟨2 * 40 + 1, fr_run Q S _ _ 40 x y hx (by omega) hy ⟨e, h⟩⟩
theorem inv_part {C R : sT} (h : Inv C R) (x y : Int64) : Inv (uL (uL C 14 x) 15 y) (uL (uL R 5 x) 6 y) := by
  obtain ⟨⟨a1, a2, a3, a4, a5⟩, h2, h3, h4⟩ := h
  exact ⟨⟨a1, rfl, rfl, a4, a5⟩, h2, h3, h4⟩
theorem q_power {q k : Nat} (hq : q < 2 ^ 31) (hk : k ≤ 100) (S : sT) (Q : Int64 → sT → Prop) (h : Q (lN (q ^ k)) S) : wp_X4_power (nI q) (nI k) S Q := by
  unfold wp_X4_power
  have main := pk_loop (fun f i (_ : Unit) => wl_X4_power_5 Q f (nI q) (nI k) (lN (q ^ i)) (nI i) S) (fun _ _ => True) k 0 () (Nat.zero_le _) trivial ?_ ?_
  · exact main
  · intro f _ _
    show wb_X4_power_5 Q _ _ _ _ _ S
    unfold wb_X4_power_5
    exact yes (nI_le (Nat.le_refl _) (by omega)) h
  · intro f i _ hi _ ih
    show wb_X4_power_5 Q _ (nI q) (nI k) (lN (q ^ i)) (nI i) S
    unfold wb_X4_power_5
    rw [nI_l hq, lN_mul, nI_1]
    have h9 := ih () trivial
    rw [Nat.pow_succ] at h9
    exact no (nI_ge hi (by omega)) h9
theorem q_aw1 (S : sT) (Q : Int64 → sT → Prop) : ∀ f a c, a < 64 → pc a < f → Q (lN (12 ^ (c + pc a))) S → wl_X5_allWays_9 Q f (lN (12 ^ c)) (nI a) S
  | 0, a, c, _, h2, _ => absurd h2 (Nat.not_lt_zero _)
  | f + 1, a, c, h1, h2, h3 => by
    show wb_X5_allWays_9 Q _ (lN (12 ^ c)) (nI a) S
    unfold wb_X5_allWays_9
    have e0 : nI a = 0 ↔ a = 0 := nI_eq (b := 0) (by omega) (by decide)
    rw [e0]
    refine ⟨fun c0 => ?_, fun c0 => ?_⟩
    · rw [c0] at h3
      exact h3
    · obtain ⟨t1, t2, t3⟩ := low_tab a h1 c0
      rw [t1, show (12 : Int64) = lN 12 from rfl, lN_mul, ← Nat.pow_succ]
      refine q_aw1 S Q f _ (c + 1) t3 (by omega) ?_
      rw [show c + 1 + pc (a &&& (a - 1)) = c + pc a by omega]
      exact h3
theorem q_allWays {S : sT} {a : Nat} (ha : a < 64) (hS : vA S 14 2 = nI a) (Q : Int64 → sT → Prop) (h : Q (lN (12 ^ pc a)) S) : wp_X5_allWays S Q := by
  unfold wp_X5_allWays
  have := pc_le a
  rw [show (2 : Int32).toNatClampNeg = 2 from rfl, hS]
  refine ⟨vp_in_nI (n := 2) (by decide) (by decide), 7, q_aw1 S Q 7 a 0 ha (by omega) ?_⟩
  rw [Nat.zero_add]
  exact h
