theorem wl_d36_s (Q : Int32 → sT → Prop) (f : Nat) (x1 x2 : Int32) (S : sT) : wl_X4_duel_36 Q (f + 1) x1 x2 S = wb_X4_duel_36 Q (fun x1 x2 S => wl_X4_duel_36 Q f x1 x2 S) x1 x2 S := rfl
theorem wl_d73_s (Q : Int32 → sT → Prop) (f : Nat) (x1 x2 : Int32) (S : sT) : wl_X4_duel_73 Q (f + 1) x1 x2 S = wb_X4_duel_73 Q (fun x1 x2 S => wl_X4_duel_73 Q f x1 x2 S) x1 x2 S := rfl
theorem wl_d33_s (Q : Int32 → sT → Prop) (f : Nat) (x1 x2 x3 : Int32) (S : sT) : wl_X5_duel_33 Q (f + 1) x1 x2 x3 S = wb_X5_duel_33 Q (fun x1 x2 x3 S => wl_X5_duel_33 Q f x1 x2 x3 S) x1 x2 x3 S := rfl
theorem wl_d69_s (Q : Int32 → sT → Prop) (f : Nat) (x1 x2 : Int32) (S : sT) : wl_X5_duel_69 Q (f + 1) x1 x2 S = wb_X5_duel_69 Q (fun x1 x2 S => wl_X5_duel_69 Q f x1 x2 S) x1 x2 S := rfl
theorem wl_d76_s (Q : Int32 → sT → Prop) (K : Int32 → Int32 → sT → Prop) (f : Nat) (x1 x2 x3 : Int32) (S : sT) : wl_X5_duel_76 Q K (f + 1) x1 x2 x3 S = wb_X5_duel_76 Q K (fun x1 x2 x3 S => wl_X5_duel_76 Q K f x1 x2 x3 S) x1 x2 x3 S := rfl
theorem q_duelR {R : sT} {n last : Nat} {kd bd V : Nat → Nat} (hR : onR R 14 n last kd bd V) (hW : okW n kd bd V) (hl : V 1 ≤ last) (hl20 : last ≤ 20) (h0 : V 0 ≤ 800) (hV2 : V 2 < 2 ^ n) {N : Nat} (hN : N ≤ 4) (Q : Int32 → sT → Prop) (h : ∀ S, offA R S → Q (Dl n last kd bd V N N (V 2)) S) : ∃ f, wl_X5_duel_33 Q f (nI N) (nI (2 ^ n)) (0 : Int32) R := by
  have hn := hW.1
  have p64 : 2 ^ n ≤ 2 ^ 6 := Nat.pow_le_pow_right (by decide) hn
  refine pk_loop (fun f i (S : sT) => wl_X5_duel_33 Q f (nI N) (nI (2 ^ n)) (nI i) S) (fun i S => offA R S ∧ ∀ s, s < i → vA S 30 s = Dl n last kd bd V N 0 s) (2 ^ n) 0 R (Nat.zero_le _) ⟨offA_refl R, fun s hs => absurd hs (Nat.not_lt_zero s)⟩ ?_ ?_
  · intro f S ⟨oS, hS⟩
    show wl_X5_duel_33 Q (f + 1) (nI N) (nI (2 ^ n)) (nI (2 ^ n)) S
    rw [wl_d33_s]
    unfold wb_X5_duel_33
    refine yes (nI_le (Nat.le_refl _) (by omega)) ?_
    refine pk_loop (fun f i (S : sT) => wl_X5_duel_69 Q f (nI (2 ^ n)) (nI (N - i)) S) (fun i S => offA R S ∧ ∀ s, s < 2 ^ n → vA S 30 s = Dl n last kd bd V N i s) N 0 S (Nat.zero_le _) ⟨oS, hS⟩ ?_ ?_
    · intro f S ⟨oS, hS⟩
      show wl_X5_duel_69 Q (f + 1) (nI (2 ^ n)) (nI (N - N)) S
      rw [wl_d69_s]
      unfold wb_X5_duel_69
      have hR2 := onR_off hR oS
      rw [show N - N = 0 by omega, show (2 : Int32).toNatClampNeg = 2 from rfl, hR2.2.2.2 2 (by omega), nI_clamp (show V 2 < 2 ^ 31 by omega), hS _ hV2]
      exact yes (by decide) ⟨vp_in_nI (n := 2) (by decide) (by decide), vp_in_nI (by omega) (by decide), h S oS⟩
    · intro f i S hi ⟨oS, hS⟩ ih
      show wl_X5_duel_69 Q (f + 1) (nI (2 ^ n)) (nI (N - i)) S
      rw [wl_d69_s]
      unfold wb_X5_duel_69
      refine no (nI_nle (by omega) (by omega)) ?_
      refine pk_loop (fun f2 s (S : sT) => wl_X5_duel_76 Q (fun x2 x3 S => wl_X5_duel_69 Q f x2 x3 S) f2 (nI (2 ^ n)) (nI (N - i)) (nI s) S) (fun m S => offA R S ∧ (∀ s, s < 2 ^ n → vA S 30 s = Dl n last kd bd V N i s) ∧ ∀ s, s < m → vA S 31 s = Dl n last kd bd V N (i + 1) s) (2 ^ n) 0 S (Nat.zero_le _) ⟨oS, hS, fun s hs => absurd hs (Nat.not_lt_zero s)⟩ ?_ ?_
      · intro f2 S ⟨oS, hS, hT⟩
        show wl_X5_duel_76 Q _ (f2 + 1) (nI (2 ^ n)) (nI (N - i)) (nI (2 ^ n)) S
        rw [wl_d76_s]
        unfold wb_X5_duel_76
        refine yes (nI_le (Nat.le_refl _) (by omega)) (q_copies 31 30 0 0 (2 ^ n) (by decide) (by show 0 + 2 ^ n ≤ 64; omega) (by show 0 + 2 ^ n ≤ 64; omega) (by decide) (by decide) S _ (fun F f1 f2 => ?_))
        rw [show N - i = (N - (i + 1)) + 1 by omega, pk_m1]
        refine ih _ ⟨offA_uA oS 30 (by omega) F, fun s hs => ?_⟩
        have := f1 s hs
        rw [Nat.zero_add] at this
        rw [vA_uA, this]
        exact hT s hs
      · intro f2 a S ha ⟨oS, hS, hT⟩ ih2
        show wl_X5_duel_76 Q _ (f2 + 1) (nI (2 ^ n)) (nI (N - i)) (nI a) S
        rw [wl_d76_s]
        unfold wb_X5_duel_76 wb_X5_duel_103
        have hm : (N - i) % 2 < 2 := Nat.mod_lt _ (by decide)
        have e1 : nI ((N - i) % 2) = 1 ↔ (N - i) % 2 = 1 := nI_eq (b := 1) (by omega) (by decide)
        rw [rem6 (by omega) 2 (by decide) (by decide) 2 rfl, e1, nI_clamp (show a < 2 ^ 31 by omega)]
        have hR2 := onR_off hR oS
        have nx : ∀ fw : Bool, fw = decide ((N - (i + 1)) % 2 = 0) → wp_X5_weighs (nI a) (b2 fw) S (fun r_1 S_1 => (vp_in (nI a) 64) ∧ wl_X5_duel_76 Q (fun x2 x3 S => wl_X5_duel_69 Q f x2 x3 S) f2 (nI (2 ^ n)) (nI (N - i)) (nI a + 1) (uA S_1 31 (upd (vA S_1 31) a r_1))) := by
          intro fw hfw
          refine q_weighs hn hR2.1 fw hS ha _ ⟨vp_in_nI (by omega) (by decide), ?_⟩
          have h9 := ih2 (uA S 31 (upd (vA S 31) a (tn n fw (Dl n last kd bd V N i) a))) ⟨offA_uA oS 31 (by omega) _, hS, fun s hs => by
            rw [vA_uA]
            simp only [up]
            by_cases c : s = a
            · rw [if_pos c, c, hfw]
              rfl
            · rw [if_neg c]; exact hT s (by omega)⟩
          rw [← nI_1] at h9
          exact h9
        refine no (nI_ge ha (by omega)) ⟨fun c => ?_, fun c => ?_⟩
        · have h9 := nx false (by rw [eq_comm, decide_eq_false_iff_not]; omega)
          exact h9
        · have h9 := nx true (by rw [eq_comm, decide_eq_true_iff]; omega)
          exact h9
  · intro f i S hi ⟨oS, hS⟩ ih
    show wl_X5_duel_33 Q (f + 1) (nI N) (nI (2 ^ n)) (nI i) S
    rw [wl_d33_s]
    unfold wb_X5_duel_33
    have hR2 := onR_off hR oS
    rw [show (2 : Int32).toNatClampNeg = 2 from rfl, nI_clamp (show i < 2 ^ 31 by omega)]
    refine no (nI_ge hi (by omega)) (q_layAside hR2 hn _ (fun G hG => ⟨vp_in_nI (n := 2) (by decide) (by decide), ?_⟩))
    refine q_pbA (m := 20) hG hW hl hl20 h0 (show i < 64 by omega) (by decide) _ (fun F hF => ⟨vp_in_nI (by omega) (by decide), ?_⟩)
    rw [uA_uA]
    have e30 : vA (uA S 15 F) 30 = vA S 30 := rfl
    rw [e30]
    have h9 := ih (uA (uA S 15 F) 30 (upd (vA S 30) i (nI (it n last kd bd (setV V 2 i) 20 1)))) ⟨offA_uA (offA_uA oS 15 (by omega) F) 30 (by omega) _, fun s hs => by
      rw [vA_uA]
      simp only [up]
      by_cases c : s = i
      · rw [if_pos c, c]; rfl
      · rw [if_neg c]; exact hS s (by omega)⟩
    rw [← nI_1] at h9
    exact h9
theorem st_duel_ok : st_duel Inv := by
  intro x1 C R hI
  obtain ⟨n, last, due, kd, bd, d, V, hN⟩ := IN_of hI
  obtain ⟨hL, hW, hl, hl20, h99, hV, hn, hd, hdue, c28, c32, hR, r11, r17⟩ := IN_line hN
  have en : nI n = 0 ↔ n = 0 := nI_eq (b := 0) (by omega) (by decide)
  have p64 : 2 ^ n ≤ 2 ^ 6 := Nat.pow_le_pow_right (by decide) hn
  have hV2 : V 2 < 2 ^ n := hV.2.2.1
  have i5 : (0 ≤ x1 ∧ x1 ≤ 4) ↔ (0 ≤ x1 ∧ x1 < 5) := by grind
  unfold wp_X4_duel
  rw [q_isBelow]
  by_cases c : 0 ≤ x1 ∧ x1 < 5
  rotate_left
  · rw [if_neg c]
    refine yes' rfl ?_
    show wp_X5_duel _ _ _
    unfold wp_X5_duel
    rw [q_in _ 0 4 0 4 (by decide) (by decide), if_neg (fun h9 => c (i5.mp h9))]
    exact yes' rfl ⟨rfl, hI⟩
  rw [if_pos c, show vI C 26 = nI n from hL.1, en]
  have gR : ∀ Q : Int32 → sT → Prop, ((¬ n = 0 → ∃ f : Nat, wl_X5_duel_33 Q f x1 (nI (2 ^ n)) (0 : Int32) R) ∧ (n = 0 → Q (-4 : Int32) R)) → wp_X5_duel x1 R Q := by
    intro Q hQ
    unfold wp_X5_duel
    rw [q_in _ 0 4 0 4 (by decide) (by decide), if_pos (i5.mpr c), hR.1, en, pow_tab n hn]
    exact no' n10 hQ
  obtain ⟨N, hN5, rfl⟩ := ixY (n := 5) (by decide) c
  refine no' n10 ⟨fun e0 => q_setOut hL hW _ (fun S1 o1 j1 => ?_), fun e0 => gR _ (yes' e0 ⟨rfl, hI⟩)⟩
  refine pk_loop (fun f i (S : sT) => wl_X4_duel_36 _ f (nI N) (nI i) S) (fun i S => offK C S ∧ jn S n last kd bd V ∧ ∀ s, s < i → vA S 330 s = Dl n last kd bd V N 0 s) (2 ^ n) 0 S1 (Nat.zero_le _) ⟨offK_of o1, j1, fun s hs => absurd hs (Nat.not_lt_zero s)⟩ ?_ ?_
  · intro f S ⟨oS, hj, hS⟩
    show wl_X4_duel_36 _ (f + 1) (nI N) (nI (2 ^ n)) S
    rw [wl_d36_s]
    unfold wb_X4_duel_36 wp_X1_setCount
    rw [show vI S (20 + 13 * 0 + 6) = nI n from (line_K hL oS).1, pow_tab n hn]
    refine yes (nI_le (Nat.le_refl _) (by omega)) ?_
    refine pk_loop (fun f i (S : sT) => wl_X4_duel_73 _ f (nI N) (nI (i + 1)) S) (fun i S => offK C S ∧ ∀ s, s < 2 ^ n → vA S (330 + i) s = Dl n last kd bd V N i s) N 0 S (Nat.zero_le _) ⟨oS, hS⟩ ?_ ?_
    · intro f S ⟨oS, hS⟩
      show wl_X4_duel_73 _ (f + 1) (nI N) (nI (N + 1)) S
      rw [wl_d73_s]
      unfold wb_X4_duel_73
      rw [show vI S 29 = nI (V 2) from (line_K hL oS).2.2.1, nI_clamp (show N < 2 ^ 31 by omega), nI_clamp (show V 2 < 2 ^ 31 by omega), hS _ hV2]
      refine yes (nI_lt (by omega) (by omega)) ⟨vp_in_nI hN5 (by decide), vp_in_nI (by omega) (by decide), gR _ (no' e0 (q_duelR hR hW hl hl20 (by omega) hV2 (by omega) _ (fun S' oS' => ⟨rfl, inv_K hI oS oS'⟩)))⟩
    · intro f i S hi ⟨oS, hS⟩ ih
      show wl_X4_duel_73 _ (f + 1) (nI N) (nI (i + 1)) S
      rw [wl_d73_s]
      unfold wb_X4_duel_73 wb_X4_duel_91
      have hm : (N - (i + 1)) % 2 < 2 := Nat.mod_lt _ (by decide)
      have e1 : nI ((N - (i + 1)) % 2) = 0 ↔ (N - (i + 1)) % 2 = 0 := nI_eq (b := 0) (by omega) (by decide)
      rw [pk_sub (show i + 1 ≤ N by omega), rem6 (by omega) 2 (by decide) (by decide) 2 rfl, e1]
      have nx : ∀ fw : Bool, fw = decide ((N - (i + 1)) % 2 = 0) → wp_X4_playTurn (nI (i + 1)) (b2 fw) S (fun S_1 => wl_X4_duel_73 (fun r SC1 => wp_X5_duel (nI N) R (fun r2 SR1 => r = r2 ∧ Inv SC1 SR1)) f (nI N) (nI (i + 1) + 1) S_1) := by
        intro fw hfw
        refine q_playTurn hn (by omega) (line_K hL oS).1 fw hS _ (fun G hG => ?_)
        have h9 := ih (uA S (330 + (i + 1)) G) ⟨offK_uA oS _ _ (by omega), fun s hs => by
          rw [vA_uA, hG s hs, hfw]
          rfl⟩
        rw [nI_1 (i + 1)]
        exact h9
      refine no (nI_nlt (by omega) (by omega)) ⟨fun c => ?_, fun c => ?_⟩
      · exact nx false (by rw [eq_comm, decide_eq_false_iff_not]; exact c)
      · exact nx true (by rw [eq_comm, decide_eq_true_iff]; exact c)
  · intro f i S hi ⟨oS, hj, hS⟩ ih
    show wl_X4_duel_36 _ (f + 1) (nI N) (nI i) S
    rw [wl_d36_s]
    unfold wb_X4_duel_36 wp_X1_setCount
    rw [show vI S (20 + 13 * 0 + 6) = nI n from (line_K hL oS).1, pow_tab n hn, nI_clamp (show i < 2 ^ 31 by omega), show 330 + (0 : Int32).toNatClampNeg = 330 from rfl]
    refine no (nI_ge hi (by omega)) ⟨vp_in_nI (n := 0) (by decide) (by decide), ?_⟩
    refine q_rideA (mn := 20) hj hW hl hl20 (by omega) (show i < 64 by omega) (by decide) _ (fun S2 o2 j2 ht => ⟨vp_in_nI (by omega) (by decide), ?_⟩)
    have h9 := ih (uA S2 330 (upd (vA S2 330) i (nI (it n last kd bd (setV V 2 i) 20 1)))) ⟨offK_uA (offK_trans oS (offK_of o2)) _ _ (by omega), jn_uA j2 330 (by decide) _, fun s hs => by
      rw [vA_uA]
      simp only [up]
      by_cases c : s = i
      · rw [if_pos c, c]; rfl
      · rw [if_neg c, (o2.1 330 (by omega)).2.1]; exact hS s (by omega)⟩
    rw [← nI_1] at h9
    exact h9
