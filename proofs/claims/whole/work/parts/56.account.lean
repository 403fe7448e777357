theorem acF_s {n last : Nat} {kd bd V : Nat → Nat} {rv : Nat → Int32} {z i : Nat} {x0 x : Nat × Nat} (hx : x = fo (acF n last kd bd V rv z) x0 i) : fo (acF n last kd bd V rv z) x0 (i + 1) = if ft n last kd bd (setV V 2 i) rv z = true then (x.1 + 1, x.2 &&& i) else x := by
  rw [hx]
  rfl
theorem wl_ac_s (Q : Int32 → sT → Prop) (f : Nat) (x1 x2 x3 x4 : Int32) (S : sT) : wl_X4_account_65 Q (f + 1) x1 x2 x3 x4 S = wb_X4_account_65 Q (fun x1 x2 x3 x4 S => wl_X4_account_65 Q f x1 x2 x3 x4 S) x1 x2 x3 x4 S := rfl
theorem wl_acR_s (Q : Int32 → sT → Prop) (f : Nat) (x1 x2 x3 x4 : Int32) (S : sT) : wl_X5_account_40 Q (f + 1) x1 x2 x3 x4 S = wb_X5_account_40 Q (fun x1 x2 x3 x4 S => wl_X5_account_40 Q f x1 x2 x3 x4 S) x1 x2 x3 x4 S := rfl
theorem st_account_ok : st_account Inv := by
  intro x1 C R hI
  obtain ⟨n, last, due, kd, bd, d, V, hN⟩ := IN_of hI
  obtain ⟨hL, hW, hl, hl20, h99, hV, hn, hd, hdue, c28, c32, hR, r11, r17⟩ := IN_line hN
  have en : nI n = 0 ↔ n = 0 := nI_eq (b := 0) (by omega) (by decide)
  have hV2 := hW.2.2.2.2
  have p64 : 2 ^ n ≤ 2 ^ 6 := Nat.pow_le_pow_right (by decide) hn
  have ir : (0 ≤ x1 ∧ x1 ≤ 5) ↔ (0 ≤ x1 ∧ x1 < nI (nO 0)) := by
    have : nI (nO 0) = 6 := rfl
    rw [this]
    grind
  unfold wp_X4_account
  rw [q_bears 0 (by decide)]
  by_cases h1 : 0 ≤ x1 ∧ x1 < nI (nO 0)
  rotate_left
  · rw [if_neg h1]
    refine yes' rfl ?_
    show wp_X5_account _ _ _
    unfold wp_X5_account
    rw [q_isRow, if_neg (fun h9 => h1 (ir.mp h9))]
    exact yes' rfl ⟨rfl, hI⟩
  rw [if_pos h1, show vI C 26 = nI n from hL.1, en]
  have gR : ∀ Q : Int32 → sT → Prop, ((¬ n = 0 → wp_X5_refusesRow x1 R (fun r_2 S_2 => ((r_2 = 0 → ∃ n : Nat, wl_X5_account_40 Q n x1 (0 : Int32) (63 : Int32) (0 : Int32) S_2) ∧ (¬ r_2 = 0 → Q r_2 S_2)))) ∧ (n = 0 → Q (-4 : Int32) R)) → wp_X5_account x1 R Q := by
    intro Q hQ
    unfold wp_X5_account
    rw [q_isRow, if_pos (ir.mpr h1), hR.1, en]
    exact no' n10 hQ
  obtain ⟨j, hj, rfl⟩ := ixY (show nO 0 < 2 ^ 31 by decide) h1
  refine no' n10 ⟨fun e0 => ?_, fun e0 => gR _ (yes' e0 ⟨rfl, hI⟩)⟩
  rcases q_seen hI hL.2.1 hR.2.1 hl20 hj with ⟨f, hf, gC, gRr⟩ | ⟨z, hz1, hz20, hzR, hzC, hcell, gC, gRr⟩
  · exact gC _ (no (by decide) (gR _ (no' e0 (gRr _ (no (by decide) ⟨rfl, inv_fd hI f hf⟩)))))
  refine gC _ (yes rfl ?_)
  unfold wp_X1_setCount
  rw [show vI C (20 + 13 * 0 + 6) = nI n from hL.1, pow_tab n hn]
  show wp_X0_setOut 0 C _
  rw [show nI (2 ^ n) - 1 = nI (2 ^ n - 1) from pk_sub (b := 1) Nat.one_le_two_pow]
  refine q_setOut hL hW _ (fun S1 o1 j1 => ?_)
  have main := pk_loop (fun f i (x : (Nat × Nat) × sT) => wl_X4_account_65 (fun r SC1 => wp_X5_account (nI j) R (fun r2 SR1 => r = r2 ∧ Inv SC1 SR1)) f (nI j) (nI x.1.1) (nI x.1.2) (nI i) x.2) (fun i x => x.1 = fo (acF n last kd bd V (fun k => vA R 0 (40 * j + k)) z) (0, 2 ^ n - 1) i ∧ offJ C x.2 ∧ jn x.2 n last kd bd V) (2 ^ n) 0 ((0, 2 ^ n - 1), S1) (Nat.zero_le _) ⟨rfl, o1, j1⟩ ?_ ?_
  · exact main
  · intro f ⟨⟨a, b⟩, S⟩ ⟨hx, oS, hj'⟩
    show wl_X4_account_65 _ (f + 1) (nI j) (nI a) (nI b) (nI (2 ^ n)) S
    rw [wl_ac_s]
    unfold wb_X4_account_65 wp_X1_setCount
    rw [show vI S (20 + 13 * 0 + 6) = nI n from (line_J hL oS).1, pow_tab n hn]
    have hab := acF_bd n last kd bd V (fun k => vA R 0 (40 * j + k)) z (2 ^ n - 1) (by omega) (2 ^ n)
    have heq := acF_eq n last kd bd V (fun k => vA R 0 (40 * j + k)) z hn (2 ^ n) (Nat.le_refl _)
    rw [← show ((a, b) : Nat × Nat) = _ from hx] at hab heq
    have ea : nI a = 0 ↔ a = 0 := nI_eq (b := 0) (by have := hab.1; show a < _; have h8 : a ≤ 2 ^ n := hab.1; omega) (by decide)
    rw [ea]
    have fin : ∀ (r : Int32) (S' : sT), (a = 0 → r = -9 ∧ S' = S) → (¬ a = 0 → r = nI a ∧ S' = uI S 13 (nI b)) → wp_X5_account (nI j) R (fun r2 SR1 => r = r2 ∧ Inv S' SR1) := by
      intro r S' f1 f2
      refine gR _ (no' e0 (gRr _ (yes rfl ?_)))
      have main2 := pk_loop (fun f i (x : (Nat × Nat) × (Nat → Int32)) => wl_X5_account_40 (fun r2 SR1 => r = r2 ∧ Inv S' SR1) f (nI j) (nI x.1.1) (nI x.1.2) (nI i) (uA R 15 x.2)) (fun i x => x.1 = fo (acF n last kd bd V (fun k => vA R 0 (40 * j + k)) z) (0, 63) i) (2 ^ n) 0 ((0, 63), vA R 15) (Nat.zero_le _) rfl ?_ ?_
      · obtain ⟨f, hf⟩ := main2
        rw [uA_id] at hf
        exact ⟨f, hf⟩
      · intro f ⟨⟨a', b'⟩, F⟩ hx'
        show wl_X5_account_40 _ (f + 1) (nI j) (nI a') (nI b') (nI (2 ^ n)) (uA R 15 F)
        rw [wl_acR_s]
        unfold wb_X5_account_40 wp_X5_answer
        have e9 : vI (uA R 15 F) 9 = nI n := hR.1
        rw [e9, pow_tab n hn]
        rw [← show ((a', b') : Nat × Nat) = _ from hx'] at heq
        obtain ⟨q1, q2⟩ := heq
        have q1' : a = a' := q1
        rw [← q1', ea]
        have hI' : Inv S (uA R 15 F) := inv_K hI (offK_of oS) (offA_uA (offA_refl R) 15 (by omega) F)
        refine yes (nI_le (Nat.le_refl _) (by omega)) ⟨fun c => ?_, fun c => ?_⟩
        · obtain ⟨g1, g2⟩ := f2 c
          refine ⟨g1, ?_⟩
          have q2' : b = b' := by
            rcases q2 with ⟨q3, _⟩ | q3
            · exact absurd q3 c
            · exact q3
          rw [g2, q2']
          exact inv_told hI' _
        · obtain ⟨g1, g2⟩ := f1 c
          refine ⟨g1, ?_⟩
          rw [g2]
          exact hI'
      · intro f i ⟨⟨a', b'⟩, F⟩ hi hx' ih
        show wl_X5_account_40 _ (f + 1) (nI j) (nI a') (nI b') (nI i) (uA R 15 F)
        rw [wl_acR_s]
        unfold wb_X5_account_40 wb_X5_account_81
        have e9 : vI (uA R 15 F) 9 = nI n := hR.1
        rw [e9, pow_tab n hn, show (2 : Int32).toNatClampNeg = 2 from rfl]
        have hstep := acF_s hx'
        have hR2 : onR (uA R 15 F) 14 n last kd bd V := hR
        have hab' := acF_bd n last kd bd V (fun k => vA R 0 (40 * j + k)) z 63 (by omega) i
        rw [← show ((a', b') : Nat × Nat) = _ from hx'] at hab'
        refine no (nI_ge hi (by omega)) (q_layAside hR2 hn _ (fun G hG => ⟨vp_in_nI (n := 2) (by decide) (by decide), ?_⟩))
        obtain ⟨s0, s1, s2, s3⟩ := set2 V i
        refine q_goesAs (z := z) (rv := fun k => vA R 0 (40 * j + k)) (onR_set2 hG i rfl) (okW_set2 hW (by omega)) (by rw [s1]; exact hl) hl20 (by rw [s0]; omega) hj hz20 hzR (fun k hk => rfl) _ (fun H => ?_)
        rw [uA_uA, uA_uA, uA_uA]
        refine cy (fun e => ?_) (fun e => ?_)
        · rw [if_neg (by rw [e]; decide)] at hstep
          have h9 := ih ((a', b'), H) hstep.symm
          rw [← nI_1] at h9
          exact h9
        · rw [if_pos e] at hstep
          have h9 := ih ((a' + 1, b' &&& i), H) hstep.symm
          rw [nI_1 a', nI_1 i, and_tab b' hab'.2 i (by omega)]
          exact h9
    exact yes (nI_le (Nat.le_refl _) (by omega)) ⟨fun c => fin _ _ (fun h9 => absurd h9 c) (fun _ => ⟨rfl, rfl⟩), fun c => fin _ _ (fun _ => ⟨rfl, rfl⟩) (fun h9 => absurd c h9)⟩
  · intro f i ⟨⟨a, b⟩, S⟩ hi ⟨hx, oS, hj'⟩ ih
    show wl_X4_account_65 _ (f + 1) (nI j) (nI a) (nI b) (nI i) S
    rw [wl_ac_s]
    unfold wb_X4_account_65 wp_X1_setCount wb_X4_account_97
    rw [show vI S (20 + 13 * 0 + 6) = nI n from (line_J hL oS).1, pow_tab n hn]
    have hstep := acF_s hx
    have hab := acF_bd n last kd bd V (fun k => vA R 0 (40 * j + k)) z (2 ^ n - 1) (by omega) i
    rw [← show ((a, b) : Nat × Nat) = _ from hx] at hab
    refine no (nI_ge hi (by omega)) (q_fits (z := z) (rv := fun k => vA R 0 (40 * j + k)) hj' hW hl hl20 (by omega) (a := i) (by omega) hj hz20 ?_ (fun k hk => ?_) _ (fun S2 o2 j2 => ?_))
    · rw [(oS.1 200 (by omega)).2.1]; exact hzC
    · have hj6 : j < 6 := hj
      rw [(oS.1 (300 + j) (by omega)).2.1]; exact hcell k hk
    · have oS2 := offJ_trans oS o2
      refine cy (fun e => ?_) (fun e => ?_)
      · rw [if_neg (by rw [e]; decide)] at hstep
        have h9 := ih ((a, b), S2) ⟨hstep.symm, oS2, j2⟩
        rw [← nI_1] at h9
        exact h9
      · rw [if_pos e] at hstep
        have h9 := ih ((a + 1, b &&& i), S2) ⟨hstep.symm, oS2, j2⟩
        rw [nI_1 a, nI_1 i, and_tab b hab.2 i (by omega)]
        exact h9
