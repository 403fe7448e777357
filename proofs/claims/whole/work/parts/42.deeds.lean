theorem okV_go {n last : Nat} {kd bd V : Nat → Nat} (hV : okV n last V) (h : V 0 < 99) : okV n last (go n last kd bd V) := by
  refine ⟨h, ?_, hV.2.2.1, fun i hi => ?_⟩
  · show (if std n last kd bd V = true then V 1 else V 1 + 1) ≤ last
    have := hV.2.1
    by_cases e : V 1 = last
    · rw [if_pos (std_last e)]; omega
    · split <;> omega
  · unfold go
    rw [if_neg (by omega), if_neg (by omega)]
    exact hV.2.2.2 i hi
theorem okV_sup {n last : Nat} {V : Nat → Nat} (hV : okV n last V) {w s : Nat} (hs : s ≤ 9) : okV n last (setV V (3 + w) s) := by
  refine ⟨?_, ?_, ?_, fun i hi => ?_⟩
  · unfold setV; rw [if_neg (by omega)]; exact hV.1
  · unfold setV; rw [if_neg (by omega)]; exact hV.2.1
  · unfold setV; rw [if_neg (by omega)]; exact hV.2.2.1
  · unfold setV
    split
    · exact hs
    · exact hV.2.2.2 i hi
theorem okV_wol {n last : Nat} {V : Nat → Nat} (hV : okV n last V) {w : Nat} (hw : w < n) : okV n last (setV V 2 (V 2 ^^^ 2 ^ w)) := by
  refine ⟨?_, ?_, ?_, fun i hi => ?_⟩
  · unfold setV; rw [if_neg (by omega)]; exact hV.1
  · unfold setV; rw [if_neg (by omega)]; exact hV.2.1
  · unfold setV; rw [if_pos rfl]
    exact Nat.xor_lt_two_pow hV.2.2.1 (Nat.pow_lt_pow_right (by decide) hw)
  · unfold setV; rw [if_neg (by omega)]; exact hV.2.2.2 i hi
theorem st_minute_ok : st_minute Inv := by
  intro C R hI
  obtain ⟨n, last, due, kd, bd, d, V, hN⟩ := IN_of hI
  obtain ⟨hL, hW, hl, hl20, h99, hV, hn, hd, hdue, c28, c32, hR, r11, r17⟩ := IN_line hN
  have en : nI n = 0 ↔ n = 0 := nI_eq (b := 0) (by omega) (by decide)
  have e9 : nI (V 0) = 99 ↔ V 0 = 99 := nI_eq (b := 99) (by omega) (by decide)
  have e40 : nI d = 40 ↔ d = 40 := nI_eq (b := 40) (by omega) (by decide)
  have gR : ∀ Q : Int32 → sT → Prop, (n = 0 → Q (-4) R) → (¬ n = 0 → V 0 = 99 → Q (-4) R) → (¬ n = 0 → ¬ V 0 = 99 → d = 40 → Q (-2) R) → (¬ n = 0 → ¬ V 0 = 99 → ¬ d = 40 → ∀ R', deedR n R R' d V (go n last kd bd V) → Q (nI (go n last kd bd V 1)) R') → wp_X5_minute R Q := by
    intro Q a1 a2 a3 a4
    unfold wp_X5_minute
    rw [hR.1, show (0 : Int32).toNatClampNeg = 0 from rfl, hR.2.2.2 0 (by omega), r17, en, e9, e40]
    refine ⟨a1, fun c1 => ⟨vp_in_nI (n := 0) (by decide) (by decide), fun c2 => ⟨fun c3 => ?_, a3 c1 c2⟩, a2 c1⟩⟩
    refine q_remember r17 (by omega) _ (fun F f1 f2 => ?_)
    have hR2 : onR (uI (uA R 16 F) 17 (nI (d + 1))) 14 n last kd bd V := hR
    refine q_goes rfl hR2 hW hl20 _ (fun G hG => ⟨vp_in_nI (n := 1) (by decide) (by decide), ?_⟩)
    rw [vA_uA, show (1 : Int32).toNatClampNeg = 1 from rfl, hG 1 (by omega)]
    exact a4 c1 c2 c3 _ (deedR_of hn hR.2.2.2 f1 f2 hG)
  unfold wp_X4_minute
  rw [show vI C 26 = nI n from hL.1, show vI C 30 = nI (V 0) from hL.2.2.2.1, en, show (99 : Int32) = nI 99 from rfl, nI_ltI (by omega) (by omega)]
  refine ⟨fun c1 => gR _ (fun _ => ⟨rfl, hI⟩) (fun h9 => absurd c1 h9) (fun h9 => absurd c1 h9) (fun h9 => absurd c1 h9), fun c1 => ⟨fun c2 => ?_, fun c2 => ?_⟩⟩
  · refine q_room (m := 1) c32 hd (by decide) _ (cn (fun e => ?_) (fun e => ?_))
    · simp at e
      exact gR _ (fun h9 => absurd h9 c1) (fun _ h9 => by omega) (fun _ _ _ => ⟨rfl, hI⟩) (fun _ _ h9 => by omega)
    · simp at e
      refine q_pass hL hW hl hl20 h99 c32 (by omega) _ (fun C' what who was lg oC hL' => ?_)
      rw [if_pos c2] at lg hL'
      refine gR _ (fun h9 => absurd h9 c1) (fun _ h9 => by omega) (fun _ _ h9 => by omega) (fun _ _ _ R' oR => ⟨hL'.2.2.2.2.1, ?_⟩)
      exact inv_of_IN (IN_step hN (by omega) (okV_go hV c2) lg oC hL' oR)
  · exact gR _ (fun h9 => absurd h9 c1) (fun _ _ => ⟨rfl, hI⟩) (fun _ h9 => by omega) (fun _ h9 => by omega)
theorem st_feed_ok : st_feed Inv := by
  intro x1 x2 C R hI
  obtain ⟨n, last, due, kd, bd, d, V, hN⟩ := IN_of hI
  obtain ⟨hL, hW, hl, hl20, h99, hV, hn, hd, hdue, c28, c32, hR, r11, r17⟩ := IN_line hN
  have e40 : nI d = 40 ↔ d = 40 := nI_eq (b := 40) (by omega) (by decide)
  have gR : ∀ Q : Int32 → sT → Prop, (¬ ((0 ≤ x1 ∧ x1 < nI n) ∧ (0 ≤ x2 ∧ x2 < 10)) → Q (-1) R) → (((0 ≤ x1 ∧ x1 < nI n) ∧ (0 ≤ x2 ∧ x2 < 10)) → d = 40 → Q (-2) R) → (∀ w s, w < n → s < 10 → x1 = nI w → x2 = nI s → ¬ d = 40 → ∀ R', deedR n R R' d V (setV V (3 + w) s) → Q (nI (V (3 + w))) R') → wp_X5_feed x1 x2 R Q := by
    intro Q a1 a2 a3
    unfold wp_X5_feed
    rw [q_isOne hn x1 R hR.1]
    by_cases h1 : 0 ≤ x1 ∧ x1 < nI n
    · rw [if_pos h1, q_in x2 0 9 0 9 (by decide) (by decide)]
      by_cases h2 : 0 ≤ x2 ∧ x2 < 10
      · rw [if_pos (by grind), r17, e40]
        refine no n10 (no' n10 ⟨fun c => ?_, fun c => a2 ⟨h1, h2⟩ c⟩)
        obtain ⟨w, hw, rfl⟩ := ixY (show n < 2 ^ 31 by omega) h1
        obtain ⟨s, hs, rfl⟩ := ixY (n := 10) (by decide) h2
        rw [show (3 : Int32) + nI w = nI (3 + w) from nI_add 3 w, nI_clamp (show 3 + w < 2 ^ 31 by omega)]
        refine q_remember r17 (by omega) _ (fun F f1 f2 => ⟨vp_in_nI (by omega) (by decide), vp_in_nI (by omega) (by decide), ?_⟩)
        have e1 : vA (uI (uA R 16 F) 17 (nI (d + 1))) 14 = vA R 14 := rfl
        rw [e1, hR.2.2.2 (3 + w) (by omega)]
        refine a3 w s hw hs rfl rfl c _ (deedR_of hn hR.2.2.2 f1 f2 (fun i hi => ?_))
        simp only [up]
        unfold setV
        by_cases e : i = 3 + w
        · rw [if_pos e, if_pos e]
        · rw [if_neg e, if_neg e]; exact hR.2.2.2 i hi
      · rw [if_neg (by grind)]
        exact no n10 (yes' rfl (a1 (fun h9 => h2 h9.2)))
    · rw [if_neg h1]
      exact yes rfl (a1 (fun h9 => h1 h9.1))
  unfold wp_X4_feed
  rw [show vI C 26 = nI n from hL.1, q_isBelow]
  by_cases h1 : 0 ≤ x1 ∧ x1 < nI n
  · rw [if_pos h1]
    refine no n10 ?_
    rw [q_isBelow]
    by_cases h2 : 0 ≤ x2 ∧ x2 < 10
    · rw [if_pos h2]
      refine no' n10 (q_room (m := 1) c32 hd (by decide) _ (cn (fun e => ?_) (fun e => ?_)))
      · simp at e
        exact gR _ (fun h9 => absurd ⟨h1, h2⟩ h9) (fun _ _ => ⟨rfl, hI⟩) (fun _ _ _ _ _ _ h9 => by omega)
      · simp at e
        obtain ⟨w, hw, rfl⟩ := ixY (show n < 2 ^ 31 by omega) h1
        obtain ⟨s, hs, rfl⟩ := ixY (n := 10) (by decide) h2
        refine ⟨vp_in_nI (by omega) (by decide), ?_⟩
        rw [nI_clamp (show w < 2 ^ 31 by omega), show vA C 22 w = nI (V (3 + w)) from (hL.2.2.2.2.2 w hw).2.2]
        refine q_sup hL hn hw c32 (by omega) _ (fun C' what who was lg oC hL' => ?_)
        refine gR _ (fun h9 => absurd ⟨h1, h2⟩ h9) (fun _ h9 => by omega) (fun w' s' hw' hs' ew es _ R' oR => ?_)
        have ew' : w = w' := (nI_eq (by omega) (by omega)).mp ew
        have es' : s = s' := (nI_eq (by omega) (by omega)).mp es
        subst ew' es'
        exact ⟨rfl, inv_of_IN (IN_step hN (by omega) (okV_sup hV (by omega)) lg oC hL' oR)⟩
    · rw [if_neg h2]
      exact yes' rfl (gR _ (fun _ => ⟨rfl, hI⟩) (fun h9 => absurd h9.2 h2) (fun w s hw hs ew es => absurd (by rw [es]; exact ixI hs (by decide)) h2))
  · rw [if_neg h1]
    exact yes rfl (gR _ (fun _ => ⟨rfl, hI⟩) (fun h9 => absurd h9.1 h1) (fun w s hw hs ew es => absurd (by rw [ew]; exact ixI hw (by omega)) h1))
