theorem onR_up {R : sT} {n last d : Nat} {kd bd V : Nat → Nat} (hR : onR R 14 n last kd bd V) (hW : okW n kd bd V) {w : Nat} (hw : w < n) {F : Nat → Int32} : onR (uA (uI (uA R 16 F) 17 (nI (d + 1))) 14 (upd (vA R 14) 2 (nI (V 2 ^^^ 2 ^ w)))) 14 n last kd bd (setV V 2 (V 2 ^^^ 2 ^ w)) := by
  refine ⟨hR.1, hR.2.1, hR.2.2.1, fun i hi => ?_⟩
  show upd (vA R 14) 2 _ i = _
  simp only [up]
  unfold setV
  by_cases e : i = 2
  · rw [if_pos e, if_pos e]
  · rw [if_neg e, if_neg e]; exact hR.2.2.2 i hi
theorem okW_wol {n : Nat} {kd bd V : Nat → Nat} (hW : okW n kd bd V) {w : Nat} (hw : w < n) : okW n kd bd (setV V 2 (V 2 ^^^ 2 ^ w)) := by
  have hn := hW.1
  refine ⟨hW.1, fun i hi => ⟨(hW.2.1 i hi).1, (hW.2.1 i hi).2.1, ?_⟩, hW.2.2.1, hW.2.2.2.1, ?_⟩
  · unfold setV; rw [if_neg (by omega)]; exact (hW.2.1 i hi).2.2
  · show setV V 2 (V 2 ^^^ 2 ^ w) 2 < 64
    unfold setV; rw [if_pos rfl]
    exact Nat.xor_lt_two_pow (n := 6) hW.2.2.2.2 (Nat.pow_lt_pow_right (by decide) (by omega))
theorem q_dreamRR {S : sT} {n last : Nat} {kd bd V : Nat → Nat} (hR : onR S 14 n last kd bd V) (hV : okV n last V) (hW : okW n kd bd V) {i : Nat} (hi : i < n) (Q : Int32 → sT → Prop) (h : Q (b2 (drm kd V i)) S) : wp_X5_isDreaming (nI i) S Q :=
  q_dreamR (last := 20) (due := 0) (bd := bd) (fun i hi => (hR.2.2.1 i hi).1) hR.2.2.2 ⟨hW.1, by decide, by decide, fun i hi => ⟨(hW.2.1 i hi).1, (hW.2.1 i hi).2.1⟩⟩ ⟨hV.1, hW.2.2.2.1, hV.2.2.1, hV.2.2.2⟩ hi Q h
theorem st_wake_ok : st_wake Inv := by
  intro x1 C R hI
  obtain ⟨n, last, due, kd, bd, d, V, hN⟩ := IN_of hI
  obtain ⟨hL, hW, hl, hl20, h99, hV, hn, hd, hdue, c28, c32, hR, r11, r17⟩ := IN_line hN
  have e40 : nI d = 40 ↔ d = 40 := nI_eq (b := 40) (by omega) (by decide)
  have z2 : (2 : Int32).toNatClampNeg = 2 := rfl
  have gB : ¬ (0 ≤ x1 ∧ x1 < nI n) → wp_X5_wake x1 R (fun r2 SR1 => -1 = r2 ∧ Inv C SR1) := by
    intro h1
    unfold wp_X5_wake
    rw [q_isOne hn x1 R hR.1, if_neg h1]
    exact yes' rfl ⟨rfl, hI⟩
  have gR : ∀ Q : Int32 → sT → Prop, ∀ w, w < n → x1 = nI w → (bt (V 2) w = false → Q (-4) R) → (bt (V 2) w = true → d = 40 → Q (-2) R) → (bt (V 2) w = true → ¬ d = 40 → ∀ R', deedR n R R' d V (setV V 2 (V 2 ^^^ 2 ^ w)) → Q (b2 (drm kd V w)) R') → wp_X5_wake x1 R Q := by
    intro Q w hw ew a1 a2 a3
    unfold wp_X5_wake
    rw [q_isOne hn x1 R hR.1, if_pos (by rw [ew]; exact ixI hw (by omega)), z2, hR.2.2.2 2 (by omega), ew]
    refine no' n10 ⟨vp_in_nI (n := 2) (by decide) (by decide), q_has hW.2.2.2.2 (by omega) R _ (cn (fun e => a1 e) (fun e => ?_))⟩
    rw [r17, e40]
    refine ⟨fun c => q_remember r17 (by omega) _ (fun F f1 f2 => ?_), fun c => a2 e c⟩
    refine q_dreamRR (S := uI (uA R 16 F) 17 (nI (d + 1))) hR hV hW hw _ ⟨vp_in_nI (n := 2) (by decide) (by decide), vp_in_nI (n := 2) (by decide) (by decide), fun S8 e8 => ?_⟩
    have e1 : vA (uI (uA R 16 F) 17 (nI (d + 1))) 14 = vA R 14 := rfl
    rw [e1, hR.2.2.2 2 (by omega), xor_tab _ hW.2.2.2.2 w (by omega)] at e8
    have h9 := a3 e c S8 (by
      rw [e8]
      refine deedR_of hn hR.2.2.2 f1 f2 (fun i hi => ?_)
      simp only [up]
      unfold setV
      by_cases e : i = 2
      · rw [if_pos e, if_pos e]
      · rw [if_neg e, if_neg e]; exact hR.2.2.2 i hi)
    refine cy (fun e => ?_) (fun e => ?_)
    · rw [e] at h9; exact h9
    · rw [e] at h9; exact h9
  unfold wp_X4_wake
  rw [show vI C 26 = nI n from hL.1, q_isBelow]
  by_cases h1 : 0 ≤ x1 ∧ x1 < nI n
  · rw [if_pos h1]
    obtain ⟨w, hw, rfl⟩ := ixY (show n < 2 ^ 31 by omega) h1
    refine no' n10 (q_asleep hW.2.2.2.2 (by omega) C _ hL.2.2.1 (cn (fun e => ?_) (fun e => ?_)))
    · exact gR _ w hw rfl (fun _ => ⟨rfl, hI⟩) (fun h9 => by rw [e] at h9; exact absurd h9 (by decide)) (fun h9 => by rw [e] at h9; exact absurd h9 (by decide))
    · refine q_room (m := 1) c32 hd (by decide) _ (cn (fun e2 => ?_) (fun e2 => ?_))
      · simp at e2
        exact gR _ w hw rfl (fun h9 => by rw [e] at h9; exact absurd h9 (by decide)) (fun _ _ => ⟨rfl, hI⟩) (fun _ h9 => by omega)
      · simp at e2
        refine q_dreamL hL hW hw _ (q_bit _ C _ (q_wol hL hW hw c32 (by omega) _ (fun C' what who was lg oC hL' => ?_)))
        exact gR _ w hw rfl (fun h9 => by rw [e] at h9; exact absurd h9 (by decide)) (fun _ h9 => by omega) (fun _ _ R' oR => ⟨rfl, inv_of_IN (IN_step hN (by omega) (okV_wol hV hw) lg oC hL' oR)⟩)
  · rw [if_neg h1]
    exact yes' rfl (gB h1)
theorem st_lull_ok : st_lull Inv := by
  intro x1 C R hI
  obtain ⟨n, last, due, kd, bd, d, V, hN⟩ := IN_of hI
  obtain ⟨hL, hW, hl, hl20, h99, hV, hn, hd, hdue, c28, c32, hR, r11, r17⟩ := IN_line hN
  have e40 : nI d = 40 ↔ d = 40 := nI_eq (b := 40) (by omega) (by decide)
  have z2 : (2 : Int32).toNatClampNeg = 2 := rfl
  have gB : ¬ (0 ≤ x1 ∧ x1 < nI n) → wp_X5_lull x1 R (fun r2 SR1 => -1 = r2 ∧ Inv C SR1) := by
    intro h1
    unfold wp_X5_lull
    rw [q_isOne hn x1 R hR.1, if_neg h1]
    exact yes' rfl ⟨rfl, hI⟩
  have gR : ∀ Q : Int32 → sT → Prop, ∀ w, w < n → x1 = nI w → (bt (V 2) w = true → Q (-4) R) → (bt (V 2) w = false → d = 40 → Q (-2) R) → (bt (V 2) w = false → ¬ d = 40 → ∀ R', deedR n R R' d V (setV V 2 (V 2 ^^^ 2 ^ w)) → Q (b2 (drm kd (setV V 2 (V 2 ^^^ 2 ^ w)) w)) R') → wp_X5_lull x1 R Q := by
    intro Q w hw ew a1 a2 a3
    unfold wp_X5_lull
    rw [q_isOne hn x1 R hR.1, if_pos (by rw [ew]; exact ixI hw (by omega)), z2, hR.2.2.2 2 (by omega), ew]
    refine no' n10 ⟨vp_in_nI (n := 2) (by decide) (by decide), q_has hW.2.2.2.2 (by omega) R _ (cy (fun e => ?_) (fun e => a1 e))⟩
    rw [r17, e40]
    refine ⟨fun c => q_remember r17 (by omega) _ (fun F f1 f2 => ⟨vp_in_nI (n := 2) (by decide) (by decide), vp_in_nI (n := 2) (by decide) (by decide), fun S8 e8 => ?_⟩), fun c => a2 e c⟩
    have e1 : vA (uI (uA R 16 F) 17 (nI (d + 1))) 14 = vA R 14 := rfl
    rw [e1, hR.2.2.2 2 (by omega), xor_tab _ hW.2.2.2.2 w (by omega)] at e8
    have o8 : onR S8 14 n last kd bd (setV V 2 (V 2 ^^^ 2 ^ w)) := by
      rw [e8]
      exact onR_up hR hW hw
    have h9 := a3 e c S8 (by
      rw [e8]
      refine deedR_of hn hR.2.2.2 f1 f2 (fun i hi => ?_)
      simp only [up]
      unfold setV
      by_cases e : i = 2
      · rw [if_pos e, if_pos e]
      · rw [if_neg e, if_neg e]; exact hR.2.2.2 i hi)
    refine q_dreamRR o8 (okV_wol hV hw) (okW_wol hW hw) hw _ (cy (fun e => ?_) (fun e => ?_))
    · rw [e] at h9; exact h9
    · rw [e] at h9; exact h9
  unfold wp_X4_lull
  rw [show vI C 26 = nI n from hL.1, q_isBelow]
  by_cases h1 : 0 ≤ x1 ∧ x1 < nI n
  · rw [if_pos h1]
    obtain ⟨w, hw, rfl⟩ := ixY (show n < 2 ^ 31 by omega) h1
    refine no' n10 (q_asleep hW.2.2.2.2 (by omega) C _ hL.2.2.1 (cy (fun e => ?_) (fun e => ?_)))
    · refine q_room (m := 1) c32 hd (by decide) _ (cn (fun e2 => ?_) (fun e2 => ?_))
      · simp at e2
        exact gR _ w hw rfl (fun h9 => by rw [e] at h9; exact absurd h9 (by decide)) (fun _ _ => ⟨rfl, hI⟩) (fun _ h9 => by omega)
      · simp at e2
        refine q_wol hL hW hw c32 (by omega) _ (fun C' what who was lg oC hL' => ?_)
        refine q_dreamL hL' (okW_wol hW hw) hw _ (q_bit _ C' _ ?_)
        exact gR _ w hw rfl (fun h9 => by rw [e] at h9; exact absurd h9 (by decide)) (fun _ h9 => by omega) (fun _ _ R' oR => ⟨rfl, inv_of_IN (IN_step hN (by omega) (okV_wol hV hw) lg oC hL' oR)⟩)
    · exact gR _ w hw rfl (fun _ => ⟨rfl, hI⟩) (fun h9 => by rw [e] at h9; exact absurd h9 (by decide)) (fun h9 => by rw [e] at h9; exact absurd h9 (by decide))
  · rw [if_neg h1]
    exact yes' rfl (gB h1)
