theorem wl_lk_s (Q : Int32 → sT → Prop) (f : Nat) (x1 x2 : Int32) (S : sT) : wl_X4_look_29 Q (f + 1) x1 x2 S = wb_X4_look_29 Q (fun x1 x2 S => wl_X4_look_29 Q f x1 x2 S) x1 x2 S := rfl
theorem wl_lk2_s (Q : Int32 → sT → Prop) (f : Nat) (x1 x2 x3 : Int32) (S : sT) : wl_X4_look_115 Q (f + 1) x1 x2 x3 S = wb_X4_look_115 Q (fun x1 x2 x3 S => wl_X4_look_115 Q f x1 x2 x3 S) x1 x2 x3 S := rfl
theorem wl_lkR_s (Q : Int32 → sT → Prop) (f : Nat) (x1 x2 x3 : Int32) (S : sT) : wl_X5_look_19 Q (f + 1) x1 x2 x3 S = wb_X5_look_19 Q (fun x1 x2 x3 S => wl_X5_look_19 Q f x1 x2 x3 S) x1 x2 x3 S := rfl
theorem wl_lkR2_s (Q : Int32 → sT → Prop) (K : Int32 → Int32 → Int32 → sT → Prop) (f : Nat) (x1 x2 x3 x4 : Int32) (S : sT) : wl_X5_look_39 Q K (f + 1) x1 x2 x3 x4 S = wb_X5_look_39 Q K (fun x1 x2 x3 x4 S => wl_X5_look_39 Q K f x1 x2 x3 x4 S) x1 x2 x3 x4 S := rfl
theorem wl_lkR3_s (Q : Int32 → sT → Prop) (f : Nat) (x1 x2 x3 : Int32) (S : sT) : wl_X5_look_91 Q (f + 1) x1 x2 x3 S = wb_X5_look_91 Q (fun x1 x2 x3 S => wl_X5_look_91 Q f x1 x2 x3 S) x1 x2 x3 S := rfl
/-- the reference's last round -/
theorem q_lkR {S : sT} {P : Nat → Nat → Nat} (hP : ∀ k, k < 6 → ∀ m, m ≤ 20 → P k m ≤ 100) (hS : ∀ k, k < 6 → ∀ m, m < 20 → vA S 29 (20 * k + m) = nI (P k (m + 1))) (Q : Int32 → sT → Prop) (h : Q (nI (fo (lkF P) (0, 7) 20).1) (uI S 4 (nI (fo (lkF P) (0, 7) 20).2))) : ∃ f, wl_X5_look_91 Q f (0 : Int32) (7 : Int32) (0 : Int32) S := by
  have main := q_fo (fun f i (x : Nat × Nat) => wl_X5_look_91 Q f (nI x.1) (nI x.2) (nI i) S) (lkF P) (0, 7) 20 (fun n9 => ?_) (fun n9 m x hm hx ih => ?_)
  · exact main
  · show wl_X5_look_91 Q (n9 + 1) _ _ (nI 20) S
    rw [wl_lkR3_s]
    unfold wb_X5_look_91 wp_X5_answer
    exact yes (by decide) h
  · show wl_X5_look_91 Q (n9 + 1) (nI x.1) (nI x.2) (nI m) S
    rw [wl_lkR3_s]
    unfold wb_X5_look_91
    have hb := lkF_bd P 0 (by decide) m
    rw [← hx] at hb
    have h6 : gp P (m + 1) ≤ 6 := gp_le P (m + 1) 6
    refine no (nI_ge hm (by decide)) (q_gpR hm (fun k hk => hP k hk (m + 1) (by omega)) (fun k hk => hS k hk m hm) _ Q _ ?_)
    unfold lkF at ih
    rw [nI_leI (by omega) (by omega), nI_1 m]
    refine ⟨fun c => ?_, fun c => ?_⟩
    · rw [if_pos c] at ih
      exact ih
    · rw [if_neg c] at ih
      exact ih
theorem q_lkC {S : sT} {P : Nat → Nat → Nat} (hP : ∀ k, k < 6 → ∀ m, m ≤ 20 → P k m ≤ 100) (hS : ∀ k, k < 6 → ∀ m, m ≤ 20 → vA S (320 + k) m = nI (P k m)) (Q : Int32 → sT → Prop) (h : Q (nI (fo (lkF P) (1, 7) 20).1) (uI S 13 (nI (fo (lkF P) (1, 7) 20).2))) : ∃ f, wl_X4_look_115 Q f (1 : Int32) (7 : Int32) (1 : Int32) S := by
  have main := q_fo (fun f i (x : Nat × Nat) => wl_X4_look_115 Q f (nI x.1) (nI x.2) (nI (i + 1)) S) (lkF P) (1, 7) 20 (fun n9 => ?_) (fun n9 m x hm hx ih => ?_)
  · exact main
  · show wl_X4_look_115 Q (n9 + 1) _ _ (nI 21) S
    rw [wl_lk2_s]
    unfold wb_X4_look_115
    exact yes (by decide) h
  · show wl_X4_look_115 Q (n9 + 1) (nI x.1) (nI x.2) (nI (m + 1)) S
    rw [wl_lk2_s]
    unfold wb_X4_look_115 wb_X4_look_142
    have hb := lkF_bd P 1 (by decide) m
    rw [← hx] at hb
    have h6 : gp P (m + 1) ≤ 6 := gp_le P (m + 1) 6
    refine no (nI_nlt (a := 20) (by omega) (by decide)) (q_gpC (show m + 1 < 21 by omega) (fun k hk => hP k hk (m + 1) (by omega)) (fun k hk => hS k hk (m + 1) (by omega)) _ ?_)
    unfold lkF at ih
    rw [nI_leI (by omega) (by omega), nI_1 (m + 1)]
    refine ⟨fun c => ?_, fun c => ?_⟩
    · rw [if_pos c] at ih
      exact ih
    · rw [if_neg c] at ih
      exact ih
theorem st_look_ok : st_look Inv := by
  intro x1 C R hI
  obtain ⟨n, last, due, kd, bd, d, V, hN⟩ := IN_of hI
  obtain ⟨hL, hW, hl, hl20, h99, hV, hn, hd, hdue, c28, c32, hR, r11, r17⟩ := IN_line hN
  have hV2 := hW.2.2.2.2
  unfold wp_X4_look
  rw [show vI C 26 = nI n from hL.1, q_isBelow]
  by_cases h1 : 0 ≤ x1 ∧ x1 < nI n
  rotate_left
  · rw [if_neg h1]
    refine yes' rfl ?_
    show wp_X5_look _ _ _
    unfold wp_X5_look
    rw [q_isOne hn _ R hR.1, if_neg h1]
    exact yes' rfl ⟨rfl, hI⟩
  rw [if_pos h1]
  refine no' n10 (q_setOut hL hW _ (fun S1 o1 j1 => ?_))
  obtain ⟨w, hw, rfl⟩ := ixY (show n < 2 ^ 31 by omega) h1
  have hsw := (hW.2.1 w hw).2.2
  -- where it is with the kind k, m minutes on
  have hPd : ∃ P : Nat → Nat → Nat, ∀ k m, P k m = it n last (setV kd w k) bd V m 1 := ⟨_, fun _ _ => rfl⟩
  obtain ⟨P, hPe⟩ := hPd
  have hP : ∀ k, k < 6 → ∀ m, m ≤ 20 → P k m ≤ 100 := fun k hk m hm => by
    rw [hPe]
    have := (it_ok (okW_kd hW w k (by omega)) hl hl20 (by omega) m (by omega)).2
    omega
  have main := pk_loop (fun f i (S : sT) => wl_X4_look_29 (fun r SC1 => wp_X5_look (nI w) R (fun r2 SR1 => r = r2 ∧ Inv SC1 SR1)) f (nI w) (nI i) S) (fun i S => offK C S ∧ (∃ kd', (∀ i, ¬ i = w → kd' i = kd i) ∧ jn S n last kd' bd V) ∧ ∀ k, k < i → ∀ m, m ≤ 20 → vA S (320 + k) m = nI (P k m)) 6 0 S1 (Nat.zero_le _) ⟨offK_of o1, ⟨kd, fun _ _ => rfl, j1⟩, fun k hk => absurd hk (Nat.not_lt_zero k)⟩ ?_ ?_
  · exact main
  · intro f S ⟨oS, _, hS⟩
    show wl_X4_look_29 _ (f + 1) (nI w) (nI 6) S
    rw [wl_lk_s]
    unfold wb_X4_look_29
    refine yes (by decide) (q_lkC hP hS _ ?_)
    show wp_X5_look _ _ _
    unfold wp_X5_look
    rw [q_isOne hn _ R hR.1, if_pos h1, nI_clamp (show w < 2 ^ 31 by omega)]
    refine no' n10 ⟨vp_in_nI (by omega) (by decide), ?_⟩
    have main2 := pk_loop (fun f i (x : (Nat → Int32) × (Nat → Int32) × (Nat → Int32)) => wl_X5_look_19 (fun r2 SR1 => nI (fo (lkF P) (1, 7) 20).1 = r2 ∧ Inv (uI S 13 (nI (fo (lkF P) (1, 7) 20).2)) SR1) f (nI w) (vA R 12 w) (nI i) (uA (uA (uA R 29 x.1) 12 x.2.1) 15 x.2.2)) (fun i x => (∀ k, k < i → ∀ m, m < 20 → x.1 (20 * k + m) = nI (P k (m + 1))) ∧ ∀ i, i < 6 → ¬ i = w → x.2.1 i = vA R 12 i) 6 0 (vA R 29, vA R 12, vA R 15) (Nat.zero_le _) ⟨fun k hk => absurd hk (Nat.not_lt_zero k), fun _ _ _ => rfl⟩ ?_ ?_
    · obtain ⟨f, hf⟩ := main2
      have hf' : wl_X5_look_19 (fun r2 SR1 => nI (fo (lkF P) (1, 7) 20).1 = r2 ∧ Inv (uI S 13 (nI (fo (lkF P) (1, 7) 20).2)) SR1) f (nI w) (vA R 12 w) (nI 0) (uA (uA (uA R 29 (vA R 29)) 12 (vA R 12)) 15 (vA R 15)) := hf
      rw [uA_id, uA_id, uA_id] at hf'
      exact ⟨f, hf'⟩
    · intro f ⟨H9, H, F⟩ ⟨h9, hH⟩
      show wl_X5_look_19 _ (f + 1) (nI w) (vA R 12 w) (nI 6) (uA (uA (uA R 29 H9) 12 H) 15 F)
      rw [wl_lkR_s]
      unfold wb_X5_look_19
      have e12 : vA (uA (uA (uA R 29 H9) 12 H) 15 F) 12 = H := vA_uA (uA R 29 H9) 12 H
      rw [nI_clamp (show w < 2 ^ 31 by omega), e12, uA_comm (uA (uA R 29 H9) 12 H) (show ¬ 15 = 12 by decide) F (upd H w (vA R 12 w)), uA_uA]
      have e29 : vA (uA (uA (uA R 29 H9) 12 (upd H w (vA R 12 w))) 15 F) 29 = H9 := vA_uA R 29 H9
      refine yes (by decide) ⟨vp_in_nI (by omega) (by decide), q_lkR hP (by rw [e29]; exact h9) _ ?_⟩
      rw [lkF_eq P 19]
      refine ⟨rfl, inv_told ?_ _⟩
      have hI2 : Inv S (uA R 29 H9) := inv_K hI oS (offA_uA (offA_refl R) 29 (by omega) H9)
      exact inv_kd hI2 hH
    · intro f i ⟨H9, H, F⟩ hi ⟨h9, hH⟩ ih
      show wl_X5_look_19 _ (f + 1) (nI w) (vA R 12 w) (nI i) (uA (uA (uA R 29 H9) 12 H) 15 F)
      rw [wl_lkR_s]
      unfold wb_X5_look_19
      have e12 : vA (uA (uA (uA R 29 H9) 12 H) 15 F) 12 = H := vA_uA (uA R 29 H9) 12 H
      rw [nI_clamp (show w < 2 ^ 31 by omega), e12, uA_comm (uA (uA R 29 H9) 12 H) (show ¬ 15 = 12 by decide) F (upd H w (nI i)), uA_uA (uA R 29 H9) 12 H (upd H w (nI i))]
      have hW' := okW_kd hW w i (by omega)
      have hR9 : onR (uA R 29 H9) 14 n last kd bd V := hR
      have hH' : ∀ i_1, i_1 < 6 → ¬ i_1 = w → upd H w (nI i) i_1 = vA R 12 i_1 := fun k hk c => by
        simp only [up]; rw [if_neg c]; exact hH k hk c
      refine no (nI_ge hi (by decide)) ⟨vp_in_nI (by omega) (by decide), q_layAside (onR_kd hR9 hn i hH) hn _ (fun G hG => ?_)⟩
      rw [uA_uA] at hG ⊢
      have main3 := pk_loop (fun f2 m (x : (Nat → Int32) × (Nat → Int32)) => wl_X5_look_39 (fun r2 SR1 => nI (fo (lkF P) (1, 7) 20).1 = r2 ∧ Inv (uI S 13 (nI (fo (lkF P) (1, 7) 20).2)) SR1) (fun x1 x2 x3 S9 => wl_X5_look_19 (fun r2 SR1 => nI (fo (lkF P) (1, 7) 20).1 = r2 ∧ Inv (uI S 13 (nI (fo (lkF P) (1, 7) 20).2)) SR1) f x1 x2 x3 S9) f2 (nI w) (vA R 12 w) (nI i) (nI m) (uA (uA (uA R 29 x.1) 12 (upd H w (nI i))) 15 x.2)) (fun m x => onR (uA (uA (uA R 29 x.1) 12 (upd H w (nI i))) 15 x.2) 15 n last (setV kd w i) bd (it n last (setV kd w i) bd V m) ∧ (∀ k, k < i → ∀ q, q < 20 → x.1 (20 * k + q) = nI (P k (q + 1))) ∧ ∀ q, q < m → x.1 (20 * i + q) = nI (P i (q + 1))) 20 0 (H9, G) (Nat.zero_le _) ⟨hG, h9, fun q hq => absurd hq (Nat.not_lt_zero q)⟩ ?_ ?_
      · exact main3
      · intro f2 ⟨A, B⟩ ⟨b1, b2, b3⟩
        show wl_X5_look_39 _ _ (f2 + 1) (nI w) (vA R 12 w) (nI i) (nI 20) (uA (uA (uA R 29 A) 12 (upd H w (nI i))) 15 B)
        rw [wl_lkR2_s]
        unfold wb_X5_look_39
        have h8 := ih (A, upd H w (nI i), B) ⟨fun k hk q hq => by
          by_cases c : k = i
          · rw [c]; exact b3 q hq
          · exact b2 k (by omega) q hq, hH'⟩
        rw [← nI_1] at h8
        exact yes (by decide) h8
      · intro f2 m ⟨A, B⟩ hm ⟨b1, b2, b3⟩ ih2
        show wl_X5_look_39 _ _ (f2 + 1) (nI w) (vA R 12 w) (nI i) (nI m) (uA (uA (uA R 29 A) 12 (upd H w (nI i))) 15 B)
        rw [wl_lkR2_s]
        unfold wb_X5_look_39
        obtain ⟨hWm, hlm⟩ := it_ok hW' hl hl20 (by omega) m (by omega)
        have e9 : (20 : Int32) * nI i + nI m = nI (20 * i + m) := by rw [show (20 : Int32) = nI 20 from rfl, pk_mul, nI_add]
        rw [e9, nI_clamp (show 20 * i + m < 2 ^ 31 by omega)]
        refine no (nI_ge hm (by decide)) (q_placeBehind (m := 1) b1 hWm hlm hl20 (by rw [(it_val n last (setV kd w i) bd V m).1]; omega) (by decide) _ (fun K hK => ⟨vp_in_nI (by omega) (by decide), ?_⟩))
        rw [uA_uA] at hK ⊢
        have e29 : vA (uA (uA (uA R 29 A) 12 (upd H w (nI i))) 15 K) 29 = A := vA_uA R 29 A
        rw [e29, uA_comm _ (show ¬ 15 = 29 by decide), uA_comm _ (show ¬ 12 = 29 by decide), uA_uA]
        have h8 := ih2 (upd A (20 * i + m) (nI (it n last (setV kd w i) bd (it n last (setV kd w i) bd V m) 1 1)), K) ⟨hK, fun k hk q hq => by
          show upd A _ _ _ = _
          simp only [up]
          rw [if_neg (by omega)]
          exact b2 k hk q hq, fun q hq => by
          show upd A _ _ _ = _
          simp only [up]
          by_cases c : q = m
          · rw [if_pos (by omega), c, hPe]
            rfl
          · rw [if_neg (by omega)]
            exact b3 q (by omega)⟩
        rw [← nI_1] at h8
        exact h8
  · intro f i S hi ⟨oS, ⟨kd', hkd', hj'⟩, hS⟩ ih
    show wl_X4_look_29 _ (f + 1) (nI w) (nI i) S
    rw [wl_lk_s]
    unfold wb_X4_look_29
    have hLS := line_K hL oS
    rw [nI_clamp (show w < 2 ^ 31 by omega), nI_clamp (show i < 2 ^ 31 by omega), show vA S 22 w = nI (V (3 + w)) from (hLS.2.2.2.2.2 w hw).2.2, show vI S 30 = nI (V 0) from hLS.2.2.2.1]
    refine no (nI_ge hi (by decide)) ⟨vp_in_nI (by omega) (by decide), q_dbits (by omega) hsw (by omega) S _ (fun b hb => ⟨vp_in_nI (by omega) (by decide), ?_⟩)⟩
    have e29 : vI (uB S 110 (vp_updL (vB S 110) w b)) 29 = nI (V 2) := hLS.2.2.1
    rw [e29]
    have j2 := jn_kd (kd := kd) (k := i) hj' hkd' hb
    have oS2 := offK_uB oS 110 (vp_updL (vB S 110) w b)
    have hW' := okW_kd hW w i (by omega)
    refine q_ride (mn := 20) j2 hW' hl hl20 (by omega) (by decide) _ (fun S3 o3 j3 _ _ ht => ⟨vp_in_nI hi (by decide), by decide, by decide, by decide, by decide, by decide, fun S13 e13 => ?_⟩)
    have hk3 : ∀ i_1, ¬ i_1 = w → setV kd w i i_1 = kd i_1 := fun k c => by unfold setV; rw [if_neg c]
    have h9 := ih S13 ⟨by rw [e13]; exact offK_uA (offK_trans oS2 (offK_of o3)) _ _ (by omega), ⟨_, hk3, by
      rw [e13]
      obtain ⟨a1, a2, a3, a4⟩ := j3
      refine ⟨a1, a2, a3, fun k hk => ⟨?_, (a4 k hk).2⟩⟩
      have e111 : vA (uA S3 (320 + i) (va_cpy (vA S3 113) (vA S3 (320 + i)) (0 : Int32).toNatClampNeg (0 : Int32).toNatClampNeg (21 : Int32).toNatClampNeg)) 111 = vA S3 111 := by
        simp only [ac]; rw [if_neg (by omega)]
      rw [e111]
      exact (a4 k hk).1⟩, fun k hk m hm => by
      rw [e13]
      by_cases c : k = i
      · rw [c, vA_uA]
        show va_cpy _ _ 0 0 21 m = _
        rw [cpy0 (by omega), ht m hm, hPe]
      · have e320 : ∀ g, vA (uA S3 (320 + i) g) (320 + k) = vA S3 (320 + k) := fun g => by
          simp only [ac]; rw [if_neg (by omega)]
        rw [e320, (o3.1 (320 + k) (by omega)).2.1]
        exact hS k (by omega) m hm⟩
    rw [← nI_1] at h9
    exact h9
