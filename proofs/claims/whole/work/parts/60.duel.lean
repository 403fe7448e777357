/-! by turns -/
def wgF (fw : Bool) (D : Nat → Int32) (a i : Nat) (b : Int32) : Int32 := if bt a i = fw then (if fw = true then (if b < D (a ^^^ 2 ^ i) then D (a ^^^ 2 ^ i) else b) else (if D (a ^^^ 2 ^ i) < b then D (a ^^^ 2 ^ i) else b)) else b
def tn (n : Nat) (fw : Bool) (D : Nat → Int32) (a : Nat) : Int32 := fo (wgF fw D a) (D a) n
theorem and_bit : ∀ a, a < 64 → ∀ i, i < 6 → (nI a &&& ((1 : Int32) <<< (nI i &&& 31)) = 0 ↔ bt a i = false) := by decide +kernel
theorem xor_ltn {a i n : Nat} (ha : a < 2 ^ n) (hi : i < n) : a ^^^ 2 ^ i < 2 ^ n := Nat.xor_lt_two_pow ha (Nat.pow_lt_pow_right (by decide) hi)
theorem wl_pt_s (Q : sT → Prop) (K : Int32 → Int32 → Int32 → sT → Prop) (f : Nat) (x1 x2 x3 x4 x5 : Int32) (S : sT) : wl_X4_playTurn_28 Q K (f + 1) x1 x2 x3 x4 x5 S = wb_X4_playTurn_28 Q K (fun x1 x2 x3 x4 x5 S => wl_X4_playTurn_28 Q K f x1 x2 x3 x4 x5 S) x1 x2 x3 x4 x5 S := rfl
theorem wl_pt2_s (Q : sT → Prop) (f : Nat) (x1 x2 x3 : Int32) (S : sT) : wl_X4_playTurn_2 Q (f + 1) x1 x2 x3 S = wb_X4_playTurn_2 Q (fun x1 x2 x3 S => wl_X4_playTurn_2 Q f x1 x2 x3 S) x1 x2 x3 S := rfl
theorem q_playTurn {S : sT} {n l : Nat} (hn : n ≤ 6) (hl : l < 4) (h26 : vI S 26 = nI n) (fw : Bool) {D : Nat → Int32} (hD : ∀ s, s < 2 ^ n → vA S (330 + l) s = D s) (Q : sT → Prop) (h : ∀ G : Nat → Int32, (∀ s, s < 2 ^ n → G s = tn n fw D s) → Q (uA S (330 + (l + 1)) G)) : wp_X4_playTurn (nI (l + 1)) (b2 fw) S Q := by
  have p64 : 2 ^ n ≤ 2 ^ 6 := Nat.pow_le_pow_right (by decide) hn
  unfold wp_X4_playTurn
  have main := pk_loop (fun f i (G : Nat → Int32) => wl_X4_playTurn_2 Q f (nI (l + 1)) (b2 fw) (nI i) (uA S (330 + (l + 1)) G)) (fun i G => ∀ s, s < i → G s = tn n fw D s) (2 ^ n) 0 (vA S (330 + (l + 1))) (Nat.zero_le _) (fun s hs => absurd hs (Nat.not_lt_zero s)) ?_ ?_
  · obtain ⟨f, hf⟩ := main
    rw [uA_id] at hf
    exact ⟨f, hf⟩
  · intro f G hG
    show wl_X4_playTurn_2 Q (f + 1) (nI (l + 1)) (b2 fw) (nI (2 ^ n)) (uA S (330 + (l + 1)) G)
    rw [wl_pt2_s]
    unfold wb_X4_playTurn_2 wp_X1_setCount
    have e26 : vI (uA S (330 + (l + 1)) G) (20 + 13 * 0 + 6) = nI n := h26
    rw [e26, pow_tab n hn]
    exact yes (nI_le (Nat.le_refl _) (by omega)) (h G hG)
  · intro f a G ha hG ih
    show wl_X4_playTurn_2 Q (f + 1) (nI (l + 1)) (b2 fw) (nI a) (uA S (330 + (l + 1)) G)
    rw [wl_pt2_s]
    unfold wb_X4_playTurn_2 wp_X1_setCount
    have e26 : vI (uA S (330 + (l + 1)) G) (20 + 13 * 0 + 6) = nI n := h26
    have e26' : vI (uA S (330 + (l + 1)) G) 26 = nI n := h26
    have e330 : vA (uA S (330 + (l + 1)) G) (330 + l) = vA S (330 + l) := by simp only [ac]; rw [if_neg (by omega)]
    rw [e26, pow_tab n hn, nI_pred, nI_clamp (show l < 2 ^ 31 by omega), nI_clamp (show a < 2 ^ 31 by omega)]
    refine no (nI_ge ha (by omega)) ⟨vp_in_nI (by omega) (by decide), vp_in_nI (by omega) (by decide), ?_⟩
    rw [e330, hD a ha]
    refine q_fo (fun f2 i (b : Int32) => wl_X4_playTurn_28 Q (fun x1 x2 x3 S => wl_X4_playTurn_2 Q f x1 x2 x3 S) f2 (nI (l + 1)) (b2 fw) (nI a) b (nI i) (uA S (330 + (l + 1)) G)) (wgF fw D a) (D a) n (fun n9 => ?_) (fun n9 i b hi hb ih2 => ?_)
    · show wl_X4_playTurn_28 Q _ (n9 + 1) (nI (l + 1)) (b2 fw) (nI a) (tn n fw D a) (nI n) _
      rw [wl_pt_s]
      unfold wb_X4_playTurn_28
      rw [e26', nI_clamp (show l + 1 < 2 ^ 31 by omega), nI_clamp (show a < 2 ^ 31 by omega), vA_uA, uA_uA]
      refine yes (nI_le (Nat.le_refl _) (by omega)) ⟨vp_in_nI (by omega) (by decide), vp_in_nI (by omega) (by decide), ?_⟩
      have h9 := ih (upd G a (tn n fw D a)) (fun s hs => by
        simp only [up]
        by_cases c : s = a
        · rw [if_pos c, c]
        · rw [if_neg c]; exact hG s (by omega))
      rw [nI_1 a]
      exact h9
    · show wl_X4_playTurn_28 Q _ (n9 + 1) (nI (l + 1)) (b2 fw) (nI a) b (nI i) _
      rw [wl_pt_s]
      unfold wb_X4_playTurn_28
      have hx := xor_ltn ha hi
      rw [e26', nI_pred, nI_clamp (show l < 2 ^ 31 by omega), xor_tab a (by omega) i (by omega), nI_clamp (show a ^^^ 2 ^ i < 2 ^ 31 by omega), e330, hD _ hx, and_bit a (by omega) i (by omega)]
      refine no (nI_ge hi (by omega)) ⟨vp_in_nI (by omega) (by decide), vp_in_nI (by omega) (by decide), fun z ez => ?_⟩
      subst ez
      have nx : ∀ c : Int32, c = wgF fw D a i b → wb_X4_playTurn_114 Q (fun x1 x2 x3 S => wl_X4_playTurn_2 Q f x1 x2 x3 S) (fun x1 x2 x3 x4 x5 S => wl_X4_playTurn_28 Q (fun x1 x2 x3 S => wl_X4_playTurn_2 Q f x1 x2 x3 S) n9 x1 x2 x3 x4 x5 S) (nI (l + 1)) (b2 fw) (nI a) c (nI i) (uA S (330 + (l + 1)) G) := by
        intro c hc
        unfold wb_X4_playTurn_114
        rw [hc, nI_1]
        exact ih2
      unfold wb_X4_playTurn_73 wb_X4_playTurn_96
      cases fw
      · refine ⟨fun c => yes rfl (yes' rfl (yes' rfl (nx _ ?_))), fun c => yes rfl (yes' rfl (no' n10 (nx _ ?_)))⟩
        · unfold wgF; rw [c]; rfl
        · unfold wgF
          rw [if_neg c]
      · refine ⟨fun c => no n10 (yes rfl (no' n10 (nx _ ?_))), fun c => no n10 (no n10 (nx _ ?_))⟩
        · unfold wgF; rw [c]; rfl
        · unfold wgF
          rw [show bt a i = true by simpa using c]
          rfl
theorem wl_w_s (Q : Int32 → sT → Prop) (f : Nat) (x1 x2 x3 x4 : Int32) (S : sT) : wl_X5_weighs_10 Q (f + 1) x1 x2 x3 x4 S = wb_X5_weighs_10 Q (fun x1 x2 x3 x4 S => wl_X5_weighs_10 Q f x1 x2 x3 x4 S) x1 x2 x3 x4 S := rfl
theorem q_weighs {S : sT} {n : Nat} (hn : n ≤ 6) (h9 : vI S 9 = nI n) (fw : Bool) {D : Nat → Int32} (hD : ∀ s, s < 2 ^ n → vA S 30 s = D s) {a : Nat} (ha : a < 2 ^ n) (Q : Int32 → sT → Prop) (h : Q (tn n fw D a) S) : wp_X5_weighs (nI a) (b2 fw) S Q := by
  have p64 : 2 ^ n ≤ 2 ^ 6 := Nat.pow_le_pow_right (by decide) hn
  unfold wp_X5_weighs
  rw [nI_clamp (show a < 2 ^ 31 by omega), hD a ha]
  refine ⟨vp_in_nI (by omega) (by decide), ?_⟩
  refine q_fo (fun f i (b : Int32) => wl_X5_weighs_10 Q f (nI a) (b2 fw) b (nI i) S) (wgF fw D a) (D a) n (fun n9 => ?_) (fun n9 i b hi hb ih => ?_)
  · show wl_X5_weighs_10 Q (n9 + 1) (nI a) (b2 fw) (tn n fw D a) (nI n) S
    rw [wl_w_s]
    unfold wb_X5_weighs_10
    rw [h9]
    exact yes (nI_le (Nat.le_refl _) (by omega)) h
  · show wl_X5_weighs_10 Q (n9 + 1) (nI a) (b2 fw) b (nI i) S
    rw [wl_w_s]
    unfold wb_X5_weighs_10 wb_X5_weighs_44 wb_X5_weighs_77
    have hx := xor_ltn ha hi
    rw [h9, xor_tab a (by omega) i (by omega), nI_clamp (show a ^^^ 2 ^ i < 2 ^ 31 by omega)]
    refine no (nI_ge hi (by omega)) (q_has (by omega) (by omega) S _ ?_)
    rw [hD _ hx]
    have nx : ∀ c : Int32, c = wgF fw D a i b → wl_X5_weighs_10 Q n9 (nI a) (b2 fw) c (nI i + 1) S := by
      intro c hc
      rw [hc, nI_1]
      exact ih
    have bI : b2 (bt a i) = b2 fw ↔ bt a i = fw := by
      cases bt a i <;> cases fw <;> decide
    have ll : b ≤ b := by grind
    rw [bI]
    unfold wgF at nx
    refine ⟨fun c => ?_, fun c => ⟨vp_in_nI (by omega) (by decide), ?_⟩⟩
    · rw [if_neg c] at nx
      exact cy (fun _ => yes ll (nx b rfl)) (fun _ => yes ll (nx b rfl))
    · rw [if_pos c] at nx
      refine cy (fun e => ?_) (fun e => ?_)
      · rw [if_neg (by rw [e]; decide)] at nx
        refine ⟨fun c2 => nx b ?_, fun c2 => nx _ ?_⟩
        · rw [if_neg (by grind)]
        · rw [if_pos (by grind)]
      · rw [if_pos e] at nx
        refine ⟨fun c2 => nx b ?_, fun c2 => nx _ ?_⟩
        · rw [if_neg (by grind)]
        · rw [if_pos (by grind)]
/-- the places by turns -/
def Dl (n last : Nat) (kd bd V : Nat → Nat) (N : Nat) : Nat → Nat → Int32
  | 0 => fun s => nI (it n last kd bd (setV V 2 s) 20 1)
  | l + 1 => fun s => tn n (decide ((N - (l + 1)) % 2 = 0)) (Dl n last kd bd V N l) s
theorem onR_off {R S : sT} {n last : Nat} {kd bd V : Nat → Nat} (hR : onR R 14 n last kd bd V) (o : offA R S) : onR S 14 n last kd bd V := by
  refine ⟨(o.2.1 9).trans hR.1, (o.2.1 10).trans hR.2.1, fun i hi => ?_, fun i hi => ?_⟩
  · rw [o.1 12 (by omega), o.1 13 (by omega)]; exact hR.2.2.1 i hi
  · rw [o.1 14 (by omega)]; exact hR.2.2.2 i hi
theorem jn_uA {S : sT} {n last : Nat} {kd bd V : Nat → Nat} (h : jn S n last kd bd V) (k : Nat) (hk : 320 ≤ k) (g : Nat → Int32) : jn (uA S k g) n last kd bd V := by
  obtain ⟨a1, a2, a3, a4⟩ := h
  refine ⟨a1, a2, a3, fun i hi => ⟨?_, (a4 i hi).2⟩⟩
  have e : vA (uA S k g) 111 = vA S 111 := by simp only [ac]; rw [if_neg (by omega)]
  rw [e]
  exact (a4 i hi).1
