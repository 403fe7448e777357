/-! one minute: stands, goes -/
def stdF (kd bd V : Nat → Nat) (i : Nat) (a : Bool) : Bool := a || (decide (bd i = V 1) && drm kd V i)
def std (n last : Nat) (kd bd V : Nat → Nat) : Bool := fo (stdF kd bd V) (decide (V 1 = last)) n
def go (n last : Nat) (kd bd V : Nat → Nat) (i : Nat) : Nat := if i = 0 then V 0 + 1 else if i = 1 then (if std n last kd bd V = true then V 1 else V 1 + 1) else V i
def okW (n : Nat) (kd bd V : Nat → Nat) : Prop := n ≤ 6 ∧ (∀ i, i < n → kd i ≤ 5 ∧ bd i ≤ 20 ∧ V (3 + i) ≤ 9) ∧ V 0 ≤ 900 ∧ V 1 ≤ 20 ∧ V 2 < 64
def onR (S : sT) (k n last : Nat) (kd bd V : Nat → Nat) : Prop := vI S 9 = nI n ∧ vI S 10 = nI last ∧ (∀ i, i < n → vA S 12 i = nI (kd i) ∧ vA S 13 i = nI (bd i)) ∧ ∀ i, i < 3 + n → vA S k i = nI (V i)
def lineC (S : sT) (n last : Nat) (kd bd V : Nat → Nat) : Prop := vI S 26 = nI n ∧ vI S 27 = nI last ∧ vI S 29 = nI (V 2) ∧ vI S 30 = nI (V 0) ∧ vI S 31 = nI (V 1) ∧ ∀ i, i < n → vA S 20 i = nI (kd i) ∧ vA S 21 i = nI (bd i) ∧ vA S 22 i = nI (V (3 + i))
theorem b2_or : ∀ a b : Bool, b2 a ||| b2 b = b2 (a || b) := by decide
theorem fo_true (kd bd V : Nat → Nat) : ∀ n, fo (stdF kd bd V) true n = true
  | 0 => rfl
  | n + 1 => by
    show stdF kd bd V n (fo (stdF kd bd V) true n) = true
    rw [fo_true kd bd V n]
    rfl
theorem std_last {n last : Nat} {kd bd V : Nat → Nat} (h : V 1 = last) : std n last kd bd V = true := by
  unfold std
  rw [show decide (V 1 = last) = true by simp [h]]
  exact fo_true kd bd V n
theorem q_dreamL {S : sT} {n last : Nat} {kd bd V : Nat → Nat} (hL : lineC S n last kd bd V) (hW : okW n kd bd V) {i : Nat} (hi : i < n) (Q : Int32 → sT → Prop) (h : Q (b2 (drm kd V i)) S) : wp_X1_isDreaming 0 (nI i) S Q := by
  obtain ⟨-, -, ha, hc, -, hs⟩ := hL
  obtain ⟨k1, k2, k3⟩ := hs i hi
  have hn := hW.1
  have hcl : (nI i).toNatClampNeg = i := nI_clamp (by omega)
  unfold wp_X1_isDreaming
  refine q_asleep hW.2.2.2.2 (by omega) S _ ha ?_
  unfold drm at h
  refine cy (fun e => ?_) (fun e => ?_)
  · rw [e] at h; exact h
  · rw [e, Bool.true_and] at h
    refine ⟨vp_in_nI (by omega) (by decide), vp_in_nI (by omega) (by decide), ?_⟩
    rw [hcl, show vA S (20 + 13 * 0 + 0) i = nI (kd i) from k1, show vA S (20 + 13 * 0 + 2) i = nI (V (3 + i)) from k3, show vI S (20 + 13 * 0 + 10) = nI (V 0) from hc]
    refine q_would (hW.2.1 i hi).1 (hW.2.1 i hi).2.2 (by have := hW.2.2.1; omega) S _ (cy (fun e => ?_) (fun e => ?_))
    · rw [e] at h; exact h
    · rw [e] at h; exact h
theorem q_standL {S : sT} {n last : Nat} {kd bd V : Nat → Nat} (hL : lineC S n last kd bd V) (hW : okW n kd bd V) (hl : V 1 ≤ last) (hl20 : last ≤ 20) (Q : Int32 → sT → Prop) (h : Q (b2 (std n last kd bd V)) S) : wp_X1_isStanding 0 S Q := by
  obtain ⟨h26, h27, h29, h30, h31, hs⟩ := id hL
  have hn := hW.1
  have key : ∀ a0 : Bool, a0 = decide (V 1 = last) → wb_X1_isStanding_16 0 Q (b2 a0) S := by
    intro a0 e0
    unfold wb_X1_isStanding_16
    refine q_fo (fun m i (a : Bool) => wl_X1_isStanding_19 0 Q m (b2 a) (nI i) S) (stdF kd bd V) a0 n (fun n9 => ?_) (fun n9 i a hi ha ih => ?_)
    · show wb_X1_isStanding_19 0 Q _ _ _ S
      unfold wb_X1_isStanding_19
      rw [show vI S (20 + 13 * 0 + 6) = nI n from h26]
      refine yes (nI_le (Nat.le_refl _) (by omega)) ⟨bo_b2 _, ?_⟩
      rw [e0]
      exact h
    · show wb_X1_isStanding_19 0 Q _ _ _ S
      unfold wb_X1_isStanding_19 wb_X1_isStanding_53 wb_X1_isStanding_54
      rw [show vI S (20 + 13 * 0 + 6) = nI n from h26, nI_clamp (show i < 2 ^ 31 by omega), show vA S (20 + 13 * 0 + 1) i = nI (bd i) from (hs i hi).2.1, show vI S (20 + 13 * 0 + 11) = nI (V 1) from h31]
      have hb := (hW.2.1 i hi).2.1
      rw [nI_eq (show bd i < 2 ^ 31 by omega) (show V 1 < 2 ^ 31 by omega)]
      rw [← nI_1] at ih
      unfold stdF at ih
      rw [← b2_or] at ih
      refine no (nI_ge hi (by omega)) ⟨vp_in_nI (by omega) (by decide), fun e => ?_, fun e => q_dreamL hL hW hi _ (cy (fun e2 => ?_) (fun e2 => ?_))⟩
      · simp only [e, decide_false, Bool.false_and] at ih
        exact ih
      · rw [e2, Bool.and_false] at ih
        exact ih
      · simp only [e, e2, decide_true, Bool.and_true] at ih
        exact ih
  unfold wp_X1_isStanding
  rw [show vI S (20 + 13 * 0 + 11) = nI (V 1) from h31, show vI S (20 + 13 * 0 + 7) = nI last from h27, nI_ltI (by omega) (by omega)]
  refine ⟨fun e => key false ?_, fun e => key true ?_⟩
  · rw [eq_comm, decide_eq_false_iff_not]; omega
  · rw [eq_comm, decide_eq_true_iff]; omega
theorem q_standsOn {S : sT} {k n last : Nat} {kd bd V : Nat → Nat} (hk9 : lenR k = 9) (hL : onR S k n last kd bd V) (hW : okW n kd bd V) (hl20 : last ≤ 20) (Q : Int32 → sT → Prop) (h : Q (b2 (std n last kd bd V)) S) : wp_X5_standsOn k S Q := by
  obtain ⟨h9, h10, hs, hv⟩ := id hL
  have hn := hW.1
  have hok : okN n 20 0 kd bd := ⟨hn, by decide, by decide, fun i hi => ⟨(hW.2.1 i hi).1, (hW.2.1 i hi).2.1⟩⟩
  have key : ∀ a0 : Bool, a0 = decide (V 1 = last) → wb_X5_standsOn_15 k Q (b2 a0) S := by
    intro a0 e0
    unfold wb_X5_standsOn_15
    refine q_fo (fun m i (a : Bool) => wl_X5_standsOn_18 k Q m (b2 a) (nI i) S) (stdF kd bd V) a0 n (fun n9 => ?_) (fun n9 i a hi ha ih => ?_)
    · show wb_X5_standsOn_18 k Q _ _ _ S
      unfold wb_X5_standsOn_18
      rw [h9]
      refine yes (nI_le (Nat.le_refl _) (by omega)) ⟨bo_b2 _, ?_⟩
      rw [e0]
      exact h
    · show wb_X5_standsOn_18 k Q _ _ _ S
      unfold wb_X5_standsOn_18 wb_X5_standsOn_64 wb_X5_standsOn_68 wb_X5_standsOn_69
      rw [← nI_1] at ih
      unfold stdF at ih
      have hb := (hW.2.1 i hi).2.1
      have hV1 := hW.2.2.2.1
      rw [h9, hk9, show (2 : Int32).toNatClampNeg = 2 from rfl, show (1 : Int32).toNatClampNeg = 1 from rfl, show (0 : Int32).toNatClampNeg = 0 from rfl, nI_clamp (show i < 2 ^ 31 by omega), hv 2 (by omega)]
      refine no (nI_ge hi (by omega)) (cn (fun ea => ?_) (fun ea => ?_))
      · refine ⟨vp_in_nI (n := 2) (by decide) (by decide), q_has hW.2.2.2.2 (by omega) S _ (cy (fun e => ?_) (fun e => ⟨vp_in_nI (by omega) (by decide), vp_in_nI (n := 1) (by decide) (by decide), ?_⟩))⟩
        · unfold drm at ih
          rw [ea, e, Bool.false_and, Bool.and_false, Bool.or_false] at ih
          exact ih
        · rw [(hs i hi).2, hv 1 (by omega), hv 0 (by omega), nI_eq (show bd i < 2 ^ 31 by omega) (show V 1 < 2 ^ 31 by omega)]
          refine ⟨fun e2 => ?_, fun e2 => ⟨vp_in_nI (n := 0) (by decide) (by decide), q_dreamsOn hk9 (fun i hi => (hs i hi).1) hv hok hi (hW.2.1 i hi).2.2 (by have := hW.2.2.1; omega) _ (cy (fun e3 => ?_) (fun e3 => ?_))⟩⟩
          · simp only [ea, e2, decide_false, Bool.false_and, Bool.or_false] at ih
            exact ih
          · unfold drm at ih
            rw [ea, e3, Bool.and_false, Bool.and_false, Bool.or_false] at ih
            exact ih
          · unfold drm at ih
            simp only [ea, e, e2, e3, decide_true, Bool.and_true, Bool.or_true] at ih
            exact ih
      · rw [ea, Bool.true_or] at ih
        exact ih
  unfold wp_X5_standsOn
  rw [hk9, show (1 : Int32).toNatClampNeg = 1 from rfl, hv 1 (by omega), h10, nI_eq (by have := hW.2.2.2.1; omega) (by omega)]
  refine ⟨vp_in_nI (n := 1) (by decide) (by decide), fun e => key false ?_, fun e => key true ?_⟩
  · rw [eq_comm, decide_eq_false_iff_not]; exact e
  · rw [eq_comm, decide_eq_true_iff]; exact e
theorem q_goes {S : sT} {k n last : Nat} {kd bd V : Nat → Nat} (hk9 : lenR k = 9) (hL : onR S k n last kd bd V) (hW : okW n kd bd V) (hl20 : last ≤ 20) (Q : Int32 → sT → Prop) (h : ∀ F : Nat → Int32, (∀ i, i < 3 + n → F i = nI (go n last kd bd V i)) → Q (b2 (std n last kd bd V)) (uA S k F)) : wp_X5_goes k S Q := by
  have hv := hL.2.2.2
  have hn := hW.1
  unfold wp_X5_goes
  refine q_standsOn hk9 hL hW hl20 _ ?_
  have key : ∀ y : Int32, y = b2 (!(std n last kd bd V)) → wb_X5_goes_19 k Q (b2 (std n last kd bd V)) 1 (vA S k 1) y S := by
    intro y hy
    unfold wb_X5_goes_19
    rw [hk9]
    refine ⟨vp_in_nI (n := 1) (by decide) (by decide), vp_in_nI (n := 0) (by decide) (by decide), vp_in_nI (n := 0) (by decide) (by decide), fun S4 e4 => ⟨bo_b2 _, ?_⟩⟩
    rw [e4, vA_uA, uA_uA, show (1 : Int32).toNatClampNeg = 1 from rfl, show (0 : Int32).toNatClampNeg = 0 from rfl]
    refine h _ (fun i hi => ?_)
    simp only [up]
    unfold go
    by_cases e0 : i = 0
    · rw [if_pos e0, if_pos e0, if_neg (by decide), hv 0 (by omega), nI_1]
    · rw [if_neg e0, if_neg e0]
      by_cases e1 : i = 1
      · rw [if_pos e1, if_pos e1, hv 1 (by omega), hy]
        cases std n last kd bd V
        · rw [if_neg (by decide)]
          exact nI_add (V 1) 1
        · rw [if_pos rfl]
          exact nI_add (V 1) 0
      · rw [if_neg e1, if_neg e1, hv i hi]
  rw [hk9, show (1 : Int32).toNatClampNeg = 1 from rfl]
  refine ⟨vp_in_nI (n := 1) (by decide) (by decide), cy (fun e => key 1 ?_) (fun e => key 0 ?_)⟩
  · rw [e]; rfl
  · rw [e]; rfl
theorem okW_go {n last : Nat} {kd bd V : Nat → Nat} (hW : okW n kd bd V) (hl : V 1 ≤ last) (hl20 : last ≤ 20) (h0 : V 0 < 900) : okW n kd bd (go n last kd bd V) ∧ go n last kd bd V 1 ≤ last := by
  have g1 : go n last kd bd V 1 ≤ last := by
    show (if std n last kd bd V = true then V 1 else V 1 + 1) ≤ last
    by_cases e : V 1 = last
    · rw [if_pos (std_last e)]; omega
    · split <;> omega
  refine ⟨⟨hW.1, fun i hi => ⟨(hW.2.1 i hi).1, (hW.2.1 i hi).2.1, ?_⟩, h0, by omega, hW.2.2.2.2⟩, g1⟩
  have : go n last kd bd V (3 + i) = V (3 + i) := by
    unfold go
    rw [if_neg (by omega), if_neg (by omega)]
  rw [this]
  exact (hW.2.1 i hi).2.2
