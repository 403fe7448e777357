theorem wl_wp_s (Q : sT → Prop) (f : Nat) (x1 x2 x3 : Int32) (S : sT) : wl_X4_weighPlaces_21 Q (f + 1) x1 x2 x3 S = wb_X4_weighPlaces_21 Q (fun x1 x2 x3 S => wl_X4_weighPlaces_21 Q f x1 x2 x3 S) x1 x2 x3 S := rfl
theorem q_weigh {C : sT} {n last : Nat} {kd bd V : Nat → Nat} (hL : lineC C n last kd bd V) (hW : okW n kd bd V) (hl : V 1 ≤ last) (hl20 : last ≤ 20) (h0 : V 0 ≤ 800) {m p : Nat} (hm : m ≤ 30) (hp : p ≤ 12) (Q : sT → Prop) (h : ∀ S, offK C S → (∀ q, q < 21 → vB S 11 q = lN (fo (wtF (fun s => prt s (V 2)) (plV n last kd bd V m) (wgt p (V 2))) (fun _ => 0) (2 ^ n) q)) → Q S) : wp_X4_weighPlaces (nI m) (nI p) C Q := by
  have hn := hW.1
  have p64 : 2 ^ n ≤ 2 ^ 6 := Nat.pow_le_pow_right (by decide) hn
  have h64 := hW.2.2.2.2
  unfold wp_X4_weighPlaces
  refine q_fillL 11 (by decide) 0 C _ (fun f0 hf0 => ?_)
  have hL1 : lineC (uB C 11 f0) n last kd bd V := hL
  have o1 : offK C (uB C 11 f0) := offK_uB (offK_refl C) 11 f0
  refine q_setOut hL1 hW _ (fun S1 o2 j1 => ?_)
  have o12 := offK_trans o1 (offK_of o2)
  have v11 : ∀ q, q < 21 → vB S1 11 q = lN 0 := by
    intro q hq
    rw [(o2.1 11 (by omega)).2.2, vB_uB]
    exact hf0 q hq
  refine pk_loop (fun f i (S : sT) => wl_X4_weighPlaces_21 Q f (nI m) (nI p) (nI i) S) (fun i S => offK C S ∧ jn S n last kd bd V ∧ ∀ q, q < 21 → vB S 11 q = lN (fo (wtF (fun s => prt s (V 2)) (plV n last kd bd V m) (wgt p (V 2))) (fun _ => 0) i q)) (2 ^ n) 0 S1 (Nat.zero_le _) ⟨o12, j1, v11⟩ ?_ ?_
  · intro f S ⟨oS, hj, hS⟩
    show wl_X4_weighPlaces_21 Q (f + 1) (nI m) (nI p) (nI (2 ^ n)) S
    rw [wl_wp_s]
    unfold wb_X4_weighPlaces_21 wp_X1_setCount
    rw [show vI S (20 + 13 * 0 + 6) = nI n from (line_K hL oS).1, pow_tab n hn]
    exact yes (nI_le (Nat.le_refl _) (by omega)) (h S oS hS)
  · intro f s S hs ⟨oS, hj, hS⟩ ih
    show wl_X4_weighPlaces_21 Q (f + 1) (nI m) (nI p) (nI s) S
    rw [wl_wp_s]
    unfold wb_X4_weighPlaces_21 wp_X1_setCount wb_X4_weighPlaces_101
    rw [show vI S (20 + 13 * 0 + 6) = nI n from (line_K hL oS).1, pow_tab n hn]
    refine no (nI_ge hs (by omega)) ?_
    rw [show vI S 29 = nI (V 2) from (line_K hL oS).2.2.1]
    have hstep : ∀ q, fo (wtF (fun s => prt s (V 2)) (plV n last kd bd V m) (wgt p (V 2))) (fun _ => 0) (s + 1) q = if prt s (V 2) = true ∧ q = plV n last kd bd V m s then fo (wtF (fun s => prt s (V 2)) (plV n last kd bd V m) (wgt p (V 2))) (fun _ => 0) s q + wgt p (V 2) s else fo (wtF (fun s => prt s (V 2)) (plV n last kd bd V m) (wgt p (V 2))) (fun _ => 0) s q := fun _ => rfl
    refine q_isPart s (V 2) S _ (cy (fun e => ?_) (fun e => ?_))
    · have h9 := ih S ⟨oS, hj, fun q hq => by
        rw [hstep, if_neg (by rw [e]; simp)]
        exact hS q hq⟩
      rw [← nI_1] at h9
      exact h9
    · refine q_rideA hj hW hl hl20 h0 (show s < 64 by omega) (by omega) _ (fun S2 o2 j2 ht => ?_)
      have oS2 := offK_trans oS (offK_of o2)
      have hle := (it_ok (okW_set2 hW (show s < 64 by omega)) (show setV V 2 s 1 ≤ last from hl) hl20 (show setV V 2 s 0 ≤ 800 from h0) m (by omega)).2
      rw [show vI S2 29 = nI (V 2) from (line_K hL oS2).2.2.1, (prt_tab (V 2) h64 s (by omega) e).1]
      have l1 := pc_le (V 2 ^^^ s)
      have l2 := pc_le s
      refine q_bitCount (xor64 h64 (by omega)) S2 _ (q_power (by omega) (by omega) S2 _ ⟨vp_in_nI (by omega) (by decide), ?_⟩)
      refine q_bitCount (by omega) S2 _ ?_
      rw [show (12 : Int32) - nI p = nI (12 - p) from pk_sub hp]
      refine q_power (by omega) (by omega) S2 _ ⟨vp_in_nI (by omega) (by decide), ?_⟩
      rw [nI_clamp (show it n last kd bd (setV V 2 s) m 1 < 2 ^ 31 by omega), lN_mul, (o2.1 11 (by omega)).2.2, hS _ (by omega), lN_add]
      have h9 := ih (uB S2 11 (vp_updL (vB S 11) (it n last kd bd (setV V 2 s) m 1) (lN (fo (wtF (fun s => prt s (V 2)) (plV n last kd bd V m) (wgt p (V 2))) (fun _ => 0) s (it n last kd bd (setV V 2 s) m 1) + p ^ pc (V 2 ^^^ s) * (12 - p) ^ pc s)))) ⟨offK_uB oS2 11 _, j2, fun q hq => by
        rw [vB_uB, hstep]
        simp only [up]
        by_cases c : q = plV n last kd bd V m s
        · rw [if_pos (show q = it n last kd bd (setV V 2 s) m 1 from c), if_pos ⟨e, c⟩, c]
          rfl
        · rw [if_neg (show ¬ q = it n last kd bd (setV V 2 s) m 1 from c), if_neg (fun h9 => c h9.2)]
          exact hS q hq⟩
      rw [← nI_1] at h9
      exact h9
theorem hF_le (n last : Nat) (kd bd V : Nat → Nat) (m p : Nat) (hp : p ≤ 12) (c : Nat → Nat) (hpl : ∀ s, plV n last kd bd V m s ≤ 20) (hc : ∀ q, q ≤ 20 → c q ≤ 20) (s : Nat) : hF (fun s => prt s (V 2)) (plV n last kd bd V m) (wgt p (V 2)) c s ≤ 20 * 12 ^ 12 := by
  unfold hF
  split
  · exact Nat.mul_le_mul (hc _ (hpl s)) (wgt_le p (V 2) s hp)
  · exact Nat.zero_le _
/-- what both end with -/
theorem odds_finC {C S : sT} (oS : offK C S) {n last : Nat} {kd bd V : Nat → Nat} (hL : lineC C n last kd bd V) (hW : okW n kd bd V) {x : Nat} (hx : x < 2 ^ 63) (Q : Int32 → sT → Prop) (h : Q 1 (uL (uL S 14 (lN x / lN (Nat.gcd x (12 ^ pc (V 2))))) 15 (lN (12 ^ pc (V 2)) / lN (Nat.gcd x (12 ^ pc (V 2)))))) : wp_J6_bitCount_0f7a4 (vI S 29) S (fun r_1 S_1 => wp_X4_power (12 : Int32) r_1 S_1 (fun r_2 S_2 => wp_X4_tellPart (lN x) r_2 S_2 (fun S_3 => Q (1 : Int32) S_3))) := by
  have l1 := pc_le (V 2)
  have hy : 12 ^ pc (V 2) < 2 ^ 40 := Nat.lt_of_le_of_lt (Nat.pow_le_pow_right (by decide) l1) (by decide)
  have hy0 : 0 < 12 ^ pc (V 2) := Nat.pow_pos (by decide)
  rw [show vI S 29 = nI (V 2) from (line_K hL oS).2.2.1]
  exact q_bitCount hW.2.2.2.2 S _ (q_power (q := 12) (by decide) (by omega) S _ (q_tellPart hx hy hy0 S _ h))
theorem odds_finR {R : sT} {n last : Nat} {kd bd V : Nat → Nat} (hR : onR R 14 n last kd bd V) (hW : okW n kd bd V) {x : Nat} (hx : x < 2 ^ 63) (F : Nat → Int32) (Q : Int32 → sT → Prop) (h : Q 1 (uL (uL (uA R 15 F) 5 (lN x / lN (Nat.gcd x (12 ^ pc (V 2))))) 6 (lN (12 ^ pc (V 2)) / lN (Nat.gcd x (12 ^ pc (V 2)))))) : wp_X5_allWays (uA R 15 F) (fun r_5 S_5 => wp_X5_fraction (lN x) r_5 S_5 (fun r_6 S_6 => Q r_6 S_6)) := by
  have l1 := pc_le (V 2)
  have hn := hW.1
  have hy : 12 ^ pc (V 2) < 2 ^ 40 := Nat.lt_of_le_of_lt (Nat.pow_le_pow_right (by decide) l1) (by decide)
  have hy0 : 0 < 12 ^ pc (V 2) := Nat.pow_pos (by decide)
  exact q_allWays hW.2.2.2.2 (show vA (uA R 15 F) 14 2 = nI (V 2) from hR.2.2.2 2 (by omega)) _ (q_fraction hx hy hy0 _ _ h)
theorem pl_le {n last : Nat} {kd bd V : Nat → Nat} (hl : V 1 ≤ last) (hl20 : last ≤ 20) (m s : Nat) : plV n last kd bd V m s < 21 ∧ plV n last kd bd V m s ≤ 20 := by
  have gl : ∀ W : Nat → Nat, W 1 ≤ last → ∀ k, it n last kd bd W k 1 ≤ last := by
    intro W hW1 k
    induction k with
    | zero => exact hW1
    | succ k ihk =>
      show (if std n last kd bd (it n last kd bd W k) = true then it n last kd bd W k 1 else it n last kd bd W k 1 + 1) ≤ last
      by_cases e : it n last kd bd W k 1 = last
      · rw [if_pos (std_last e)]; omega
      · split <;> omega
  have := gl (setV V 2 s) hl m
  unfold plV
  omega
theorem sum_bd {n last : Nat} {kd bd V : Nat → Nat} (hn : n ≤ 6) (hl : V 1 ≤ last) (hl20 : last ≤ 20) (m p : Nat) (hp : p ≤ 12) (c : Nat → Nat) (hc : ∀ q, q ≤ 20 → c q ≤ 20) : sN (hF (fun s => prt s (V 2)) (plV n last kd bd V m) (wgt p (V 2)) c) (2 ^ n) < 2 ^ 63 := by
  have p64 : 2 ^ n ≤ 2 ^ 6 := Nat.pow_le_pow_right (by decide) hn
  have h9 := sN_le _ _ (hF_le n last kd bd V m p hp c (fun s => (pl_le hl hl20 m s).2) hc) (2 ^ n)
  have h8 : 2 ^ n * (20 * 12 ^ 12) ≤ 64 * (20 * 12 ^ 12) := Nat.mul_le_mul_right _ (by omega)
  have h7 : 64 * (20 * 12 ^ 12) < 2 ^ 63 := by decide
  omega
theorem wl_od_s (Q : Int32 → sT → Prop) (f : Nat) (x4 : Int64) (x6 : Int32) (S : sT) : wl_X4_odds_54 Q (f + 1) x4 x6 S = wb_X4_odds_54 Q (fun x4 x6 S => wl_X4_odds_54 Q f x4 x6 S) x4 x6 S := rfl
theorem wl_md_s (Q : Int32 → sT → Prop) (f : Nat) (x4 : Int64) (x6 : Int32) (S : sT) : wl_X4_mid_44 Q (f + 1) x4 x6 S = wb_X4_mid_44 Q (fun x4 x6 S => wl_X4_mid_44 Q f x4 x6 S) x4 x6 S := rfl
theorem cs_z (c W : Nat → Nat) (v : Nat) (h : ∀ q, q < v → c q = 0) : ∀ e, e ≤ v → cs c W e = 0
  | 0, _ => rfl
  | e + 1, he => by
    rw [cs_s, cs_z c W v h e (by omega), h e (by omega)]
    simp
theorem st_odds_ok : st_odds Inv := by
  intro x1 x2 x3 C R hI
  obtain ⟨n, last, due, kd, bd, d, V, hN⟩ := IN_of hI
  obtain ⟨hL, hW, hl, hl20, h99, hV, hn, hd, hdue, c28, c32, hR, r11, r17⟩ := IN_line hN
  have en : nI n = 0 ↔ n = 0 := nI_eq (b := 0) (by omega) (by decide)
  have p64 : 2 ^ n ≤ 2 ^ 6 := Nat.pow_le_pow_right (by decide) hn
  have hV2 : V 2 < 2 ^ n := hV.2.2.1
  have g1 : (0 ≤ x1 ∧ x1 ≤ 30) ↔ (0 ≤ x1 ∧ x1 < 31) := by grind
  have g2 : (0 ≤ x2 ∧ x2 ≤ 20) ↔ (0 ≤ x2 ∧ x2 < 21) := by grind
  have g3 : (0 ≤ x3 ∧ x3 ≤ 12) ↔ (0 ≤ x3 ∧ x3 < 13) := by grind
  have hb : ¬ ((0 ≤ x1 ∧ x1 < 31) ∧ (0 ≤ x2 ∧ x2 < 21) ∧ (0 ≤ x3 ∧ x3 < 13)) → wp_X5_odds x1 x2 x3 R (fun r2 SR1 => -1 = r2 ∧ Inv C SR1) := by
    intro h
    unfold wp_X5_odds
    rw [q_in x1 0 30 0 30 (by decide) (by decide)]
    by_cases h1 : 0 ≤ x1 ∧ x1 < 31
    · rw [if_pos (g1.mpr h1), q_in x2 0 20 0 20 (by decide) (by decide)]
      by_cases h2 : 0 ≤ x2 ∧ x2 < 21
      · rw [if_pos (g2.mpr h2), q_in x3 0 12 0 12 (by decide) (by decide), if_neg (fun h9 => h ⟨h1, h2, g3.mp h9⟩)]
        exact no n10 (no n10 (yes' rfl ⟨rfl, hI⟩))
      · rw [if_neg (fun h9 => h2 (g2.mp h9))]
        exact no n10 (yes rfl ⟨rfl, hI⟩)
    · rw [if_neg (fun h9 => h1 (g1.mp h9))]
      exact yes rfl ⟨rfl, hI⟩
  unfold wp_X4_odds
  rw [q_isBelow]
  by_cases h1 : 0 ≤ x1 ∧ x1 < 31
  rotate_left
  · rw [if_neg h1]
    exact yes rfl (hb (fun h9 => h1 h9.1))
  rw [if_pos h1]
  refine no n10 ?_
  rw [q_isBelow]
  by_cases h2 : 0 ≤ x2 ∧ x2 < 21
  rotate_left
  · rw [if_neg h2]
    exact yes rfl (hb (fun h9 => h2 h9.2.1))
  rw [if_pos h2]
  refine no n10 ?_
  rw [q_isBelow]
  by_cases h3 : 0 ≤ x3 ∧ x3 < 13
  rotate_left
  · rw [if_neg h3]
    exact yes' rfl (hb (fun h9 => h3 h9.2.2))
  rw [if_pos h3, show vI C 26 = nI n from hL.1, en]
  have gR : ∀ Q : Int32 → sT → Prop, ((¬ n = 0 → wp_X5_ways x1 x2 x3 R (fun r_4 S_4 => wp_X5_allWays S_4 (fun r_5 S_5 => wp_X5_fraction r_4 r_5 S_5 (fun r_6 S_6 => Q r_6 S_6)))) ∧ (n = 0 → Q (-4 : Int32) R)) → wp_X5_odds x1 x2 x3 R Q := by
    intro Q hQ
    unfold wp_X5_odds
    rw [q_in x1 0 30 0 30 (by decide) (by decide), if_pos (g1.mpr h1), q_in x2 0 20 0 20 (by decide) (by decide), if_pos (g2.mpr h2), q_in x3 0 12 0 12 (by decide) (by decide), if_pos (g3.mpr h3), hR.1, en]
    exact no n10 (no n10 (no' n10 hQ))
  obtain ⟨m, hm, rfl⟩ := ixY (n := 31) (by decide) h1
  obtain ⟨v, hv, rfl⟩ := ixY (n := 21) (by decide) h2
  obtain ⟨p, hp, rfl⟩ := ixY (n := 13) (by decide) h3
  refine no' n10 ⟨fun e0 => ?_, fun e0 => gR _ (yes' e0 ⟨rfl, hI⟩)⟩
  refine q_weigh hL hW hl hl20 (by omega) (show m ≤ 30 by omega) (show p ≤ 12 by omega) _ (fun S oS hS => ?_)
  -- what is counted
  have hcd : ∃ c : Nat → Nat, ∀ q, c q = if q < v then 0 else 1 := ⟨fun q => if q < v then 0 else 1, fun _ => rfl⟩
  obtain ⟨c, hc⟩ := hcd
  have hxb := sum_bd (kd := kd) (bd := bd) hn hl hl20 m p (by omega) c (fun q _ => by rw [hc]; split <;> omega)
  have main := pk_loop (fun f i (_ : Unit) => wl_X4_odds_54 (fun r SC1 => wp_X5_odds (nI m) (nI v) (nI p) R (fun r2 SR1 => r = r2 ∧ Inv SC1 SR1)) f (lN (cs c (fo (wtF (fun s => prt s (V 2)) (plV n last kd bd V m) (wgt p (V 2))) (fun _ => 0) (2 ^ n)) i)) (nI i) S) (fun i _ => v ≤ i) 21 v () (by omega) (Nat.le_refl v) ?_ ?_
  · have e9 := cs_z c (fo (wtF (fun s => prt s (V 2)) (plV n last kd bd V m) (wgt p (V 2))) (fun _ => 0) (2 ^ n)) v (fun q hq => by rw [hc, if_pos hq]) v (Nat.le_refl v)
    obtain ⟨f, hf⟩ := main
    refine ⟨f, ?_⟩
    have hf' : wl_X4_odds_54 (fun r SC1 => wp_X5_odds (nI m) (nI v) (nI p) R (fun r2 SR1 => r = r2 ∧ Inv SC1 SR1)) f (lN (cs c (fo (wtF (fun s => prt s (V 2)) (plV n last kd bd V m) (wgt p (V 2))) (fun _ => 0) (2 ^ n)) v)) (nI v) S := hf
    rw [e9] at hf'
    exact hf'
  · intro f _ _
    show wl_X4_odds_54 _ (f + 1) (lN (cs c (fo (wtF (fun s => prt s (V 2)) (plV n last kd bd V m) (wgt p (V 2))) (fun _ => 0) (2 ^ n)) 21)) (nI 21) S
    rw [wl_od_s]
    unfold wb_X4_odds_54
    rw [cs_all _ _ _ _ (fun s => (pl_le hl hl20 m s).1)]
    refine yes (by decide) (odds_finC oS hL hW hxb (fun r SC1 => wp_X5_odds (nI m) (nI v) (nI p) R (fun r2 SR1 => r = r2 ∧ Inv SC1 SR1)) ?_)
    refine gR _ (no' e0 (q_ways hR hW hl hl20 (by omega) hV2 (show m ≤ 30 by omega) (show p ≤ 12 by omega) (Or.inr ⟨v, by omega, rfl, hc⟩) _ (fun F => odds_finR hR hW hxb F _ ⟨rfl, ?_⟩)))
    exact inv_part (inv_K hI oS (offA_uA (offA_refl R) 15 (by omega) F)) _ _
  · intro f i _ hi hvi ih
    show wl_X4_odds_54 _ (f + 1) (lN (cs c (fo (wtF (fun s => prt s (V 2)) (plV n last kd bd V m) (wgt p (V 2))) (fun _ => 0) (2 ^ n)) i)) (nI i) S
    rw [wl_od_s]
    unfold wb_X4_odds_54
    rw [nI_clamp (show i < 2 ^ 31 by omega), hS i hi, lN_add, nI_1]
    have h9 := ih () (by omega)
    rw [cs_s, hc i, if_neg (by omega), Nat.one_mul] at h9
    exact no (nI_nlt (a := 20) (by omega) (by decide)) ⟨vp_in_nI hi (by decide), h9⟩
theorem st_mid_ok : st_mid Inv := by
  intro x1 x3 C R hI
  obtain ⟨n, last, due, kd, bd, d, V, hN⟩ := IN_of hI
  obtain ⟨hL, hW, hl, hl20, h99, hV, hn, hd, hdue, c28, c32, hR, r11, r17⟩ := IN_line hN
  have en : nI n = 0 ↔ n = 0 := nI_eq (b := 0) (by omega) (by decide)
  have hV2 : V 2 < 2 ^ n := hV.2.2.1
  have g1 : (0 ≤ x1 ∧ x1 ≤ 30) ↔ (0 ≤ x1 ∧ x1 < 31) := by grind
  have g3 : (0 ≤ x3 ∧ x3 ≤ 12) ↔ (0 ≤ x3 ∧ x3 < 13) := by grind
  have hb : ¬ ((0 ≤ x1 ∧ x1 < 31) ∧ (0 ≤ x3 ∧ x3 < 13)) → wp_X5_mid x1 x3 R (fun r2 SR1 => -1 = r2 ∧ Inv C SR1) := by
    intro h
    unfold wp_X5_mid
    rw [q_in x1 0 30 0 30 (by decide) (by decide)]
    by_cases h1 : 0 ≤ x1 ∧ x1 < 31
    · rw [if_pos (g1.mpr h1), q_in x3 0 12 0 12 (by decide) (by decide), if_neg (fun h9 => h ⟨h1, g3.mp h9⟩)]
      exact no n10 (yes' rfl ⟨rfl, hI⟩)
    · rw [if_neg (fun h9 => h1 (g1.mp h9))]
      exact yes rfl ⟨rfl, hI⟩
  unfold wp_X4_mid
  rw [q_isBelow]
  by_cases h1 : 0 ≤ x1 ∧ x1 < 31
  rotate_left
  · rw [if_neg h1]
    exact yes rfl (hb (fun h9 => h1 h9.1))
  rw [if_pos h1]
  refine no n10 ?_
  rw [q_isBelow]
  by_cases h3 : 0 ≤ x3 ∧ x3 < 13
  rotate_left
  · rw [if_neg h3]
    exact yes' rfl (hb (fun h9 => h3 h9.2))
  rw [if_pos h3, show vI C 26 = nI n from hL.1, en]
  have gR : ∀ Q : Int32 → sT → Prop, ((¬ n = 0 → wp_X5_ways x1 (-9) x3 R (fun r_4 S_4 => wp_X5_allWays S_4 (fun r_5 S_5 => wp_X5_fraction r_4 r_5 S_5 (fun r_6 S_6 => Q r_6 S_6)))) ∧ (n = 0 → Q (-4 : Int32) R)) → wp_X5_mid x1 x3 R Q := by
    intro Q hQ
    unfold wp_X5_mid
    rw [q_in x1 0 30 0 30 (by decide) (by decide), if_pos (g1.mpr h1), q_in x3 0 12 0 12 (by decide) (by decide), if_pos (g3.mpr h3), hR.1, en]
    exact no n10 (no' n10 hQ)
  obtain ⟨m, hm, rfl⟩ := ixY (n := 31) (by decide) h1
  obtain ⟨p, hp, rfl⟩ := ixY (n := 13) (by decide) h3
  refine no' n10 ⟨fun e0 => ?_, fun e0 => gR _ (yes' e0 ⟨rfl, hI⟩)⟩
  refine q_weigh hL hW hl hl20 (by omega) (show m ≤ 30 by omega) (show p ≤ 12 by omega) _ (fun S oS hS => ?_)
  have hxb := sum_bd (kd := kd) (bd := bd) hn hl hl20 m p (by omega) (fun q => q) (fun q hq => hq)
  have main := pk_loop (fun f i (_ : Unit) => wl_X4_mid_44 (fun r SC1 => wp_X5_mid (nI m) (nI p) R (fun r2 SR1 => r = r2 ∧ Inv SC1 SR1)) f (lN (cs (fun q => q) (fo (wtF (fun s => prt s (V 2)) (plV n last kd bd V m) (wgt p (V 2))) (fun _ => 0) (2 ^ n)) i)) (nI i) S) (fun i _ => True) 21 0 () (by omega) trivial ?_ ?_
  · exact main
  · intro f _ _
    show wl_X4_mid_44 _ (f + 1) (lN (cs (fun q => q) (fo (wtF (fun s => prt s (V 2)) (plV n last kd bd V m) (wgt p (V 2))) (fun _ => 0) (2 ^ n)) 21)) (nI 21) S
    rw [wl_md_s]
    unfold wb_X4_mid_44
    rw [cs_all _ _ _ _ (fun s => (pl_le hl hl20 m s).1)]
    refine yes (by decide) (odds_finC oS hL hW hxb (fun r SC1 => wp_X5_mid (nI m) (nI p) R (fun r2 SR1 => r = r2 ∧ Inv SC1 SR1)) ?_)
    refine gR _ (no' e0 (q_ways hR hW hl hl20 (by omega) hV2 (show m ≤ 30 by omega) (show p ≤ 12 by omega) (Or.inl ⟨rfl, fun _ => rfl⟩) _ (fun F => odds_finR hR hW hxb F _ ⟨rfl, ?_⟩)))
    exact inv_part (inv_K hI oS (offA_uA (offA_refl R) 15 (by omega) F)) _ _
  · intro f i _ hi _ ih
    show wl_X4_mid_44 _ (f + 1) (lN (cs (fun q => q) (fo (wtF (fun s => prt s (V 2)) (plV n last kd bd V m) (wgt p (V 2))) (fun _ => 0) (2 ^ n)) i)) (nI i) S
    rw [wl_md_s]
    unfold wb_X4_mid_44
    rw [nI_clamp (show i < 2 ^ 31 by omega), hS i hi, nI_l (show i < 2 ^ 31 by omega), lN_mul, lN_add, nI_1]
    have h9 := ih () trivial
    rw [cs_s] at h9
    exact no (nI_nlt (a := 20) (by omega) (by decide)) ⟨vp_in_nI hi (by decide), h9⟩
