theorem uA_comm (S : sT) {k m : Nat} (h : ¬ k = m) (f g : Nat → Int32) : uA (uA S k f) m g = uA (uA S m g) k f := by
  unfold uA
  simp only [Prod.mk.injEq, true_and, and_true]
  funext j
  unfold va_up
  by_cases a : j = k
  · subst a
    simp [h]
  · by_cases b : j = m
    · subst b
      simp [a]
    · simp [a, b]
theorem setV_id (V : Nat → Nat) (k : Nat) : setV V k (V k) = V := by
  funext i
  unfold setV
  by_cases c : i = k
  · rw [if_pos c, c]
  · rw [if_neg c]
theorem okW_kd {n : Nat} {kd bd V : Nat → Nat} (hW : okW n kd bd V) (w k : Nat) (hk : k ≤ 5) : okW n (setV kd w k) bd V := by
  refine ⟨hW.1, fun i hi => ⟨?_, (hW.2.1 i hi).2.1, (hW.2.1 i hi).2.2⟩, hW.2.2⟩
  unfold setV
  split
  · exact hk
  · exact (hW.2.1 i hi).1
/-- the journey with another kind for one -/
theorem jn_kd {S : sT} {n last : Nat} {kd kd' bd V : Nat → Nat} {w k : Nat} (hJ : jn S n last kd' bd V) (hk' : ∀ i, ¬ i = w → kd' i = kd i) {b : Int64} (hb : ∀ m, m ≤ 60 → lb b m = dr k (V (3 + w)) (V 0 + m)) : jn (uB S 110 (vp_updL (vB S 110) w b)) n last (setV kd w k) bd V := by
  obtain ⟨a1, a2, a3, a4⟩ := hJ
  refine ⟨a1, a2, a3, fun i hi => ⟨(a4 i hi).1, fun m hm => ?_⟩⟩
  rw [vB_uB]
  simp only [up]
  unfold setV
  by_cases c : i = w
  · rw [if_pos c, if_pos c, c]
    exact hb m hm
  · rw [if_neg c, if_neg c, ← hk' i c]
    exact (a4 i hi).2 m hm
theorem onR_kd {R : sT} {n last : Nat} {kd bd V : Nat → Nat} (hR : onR R 14 n last kd bd V) (hn : n ≤ 6) {w : Nat} (k : Nat) {H F : Nat → Int32} (hH : ∀ i, i < 6 → ¬ i = w → H i = vA R 12 i) : onR (uA (uA R 12 (upd H w (nI k))) 15 F) 14 n last (setV kd w k) bd V := by
  refine ⟨hR.1, hR.2.1, fun i hi => ⟨?_, (hR.2.2.1 i hi).2⟩, hR.2.2.2⟩
  show upd H w (nI k) i = _
  simp only [up]
  unfold setV
  by_cases c : i = w
  · rw [if_pos c, if_pos c]
  · rw [if_neg c, if_neg c, hH i (by omega) c]
    exact (hR.2.2.1 i hi).1
/-- kinds as they were -/
theorem inv_kd {C R : sT} (hI : Inv C R) {w : Nat} {H F : Nat → Int32} (hH : ∀ i, i < 6 → ¬ i = w → H i = vA R 12 i) : Inv C (uA (uA R 12 (upd H w (vA R 12 w))) 15 F) := by
  have e : ∀ i, i < 6 → upd H w (vA R 12 w) i = vA R 12 i := by
    intro i hi
    simp only [up]
    by_cases c : i = w
    · rw [if_pos c, c]
    · rw [if_neg c]; exact hH i hi c
  obtain ⟨g1, g2, g3, n2, l2, d2, kd2, bd2, T2, dd2, k1, k2, k3, k4, k5, k6⟩ := hI
  refine ⟨g1, g2, g3, n2, l2, d2, kd2, bd2, T2, dd2, k1, k2, k3, k4, ?_, k6⟩
  obtain ⟨m1, m2, m3, m4⟩ := k5
  refine ⟨m1, fun i hi => ⟨?_, (m2 i hi).2⟩, m3, m4⟩
  show upd H w (vA R 12 w) i = _
  rw [e i (by have := k1.1; omega)]
  exact (m2 i hi).1
def kF (n last : Nat) (kd bd V : Nat → Nat) (rv : Nat → Int32) (z w k : Nat) (a : Int32) : Int32 := if ft n last (setV kd w k) bd V rv z = true then a ||| ((1 : Int32) <<< (nI k &&& 31)) else a
theorem kF_s {n last : Nat} {kd bd V : Nat → Nat} {rv : Nat → Int32} {z w i : Nat} {x0 x : Int32} (hx : x = fo (kF n last kd bd V rv z w) x0 i) : fo (kF n last kd bd V rv z w) x0 (i + 1) = if ft n last (setV kd w i) bd V rv z = true then x ||| ((1 : Int32) <<< (nI i &&& 31)) else x := by
  rw [hx]
  rfl
theorem wl_k_s (Q : Int32 → sT → Prop) (f : Nat) (x1 x2 x3 x4 : Int32) (S : sT) : wl_X4_kinds_56 Q (f + 1) x1 x2 x3 x4 S = wb_X4_kinds_56 Q (fun x1 x2 x3 x4 S => wl_X4_kinds_56 Q f x1 x2 x3 x4 S) x1 x2 x3 x4 S := rfl
theorem wl_kR_s (Q : Int32 → sT → Prop) (f : Nat) (x1 x2 x3 x4 x5 : Int32) (S : sT) : wl_X5_kinds_43 Q (f + 1) x1 x2 x3 x4 x5 S = wb_X5_kinds_43 Q (fun x1 x2 x3 x4 x5 S => wl_X5_kinds_43 Q f x1 x2 x3 x4 x5 S) x1 x2 x3 x4 x5 S := rfl
theorem st_kinds_ok : st_kinds Inv := by
  intro x1 x2 C R hI
  obtain ⟨n, last, due, kd, bd, d, V, hN⟩ := IN_of hI
  obtain ⟨hL, hW, hl, hl20, h99, hV, hn, hd, hdue, c28, c32, hR, r11, r17⟩ := IN_line hN
  have hV2 := hW.2.2.2.2
  have ir : (0 ≤ x2 ∧ x2 ≤ 5) ↔ (0 ≤ x2 ∧ x2 < nI (nO 0)) := by
    have : nI (nO 0) = 6 := rfl
    rw [this]
    grind
  have hb : ¬ ((0 ≤ x1 ∧ x1 < nI n) ∧ (0 ≤ x2 ∧ x2 < nI (nO 0))) → wp_X5_kinds x1 x2 R (fun r2 SR1 => -1 = r2 ∧ Inv C SR1) := by
    intro h
    unfold wp_X5_kinds
    rw [q_isOne hn x1 R hR.1]
    by_cases h1 : 0 ≤ x1 ∧ x1 < nI n
    · rw [if_pos h1, q_isRow, if_neg (fun h9 => h ⟨h1, ir.mp h9⟩)]
      exact no n10 (yes' rfl ⟨rfl, hI⟩)
    · rw [if_neg h1]
      exact yes rfl ⟨rfl, hI⟩
  unfold wp_X4_kinds
  rw [show vI C 26 = nI n from hL.1, q_isBelow]
  by_cases h1 : 0 ≤ x1 ∧ x1 < nI n
  rotate_left
  · rw [if_neg h1]
    exact yes rfl (hb (fun h9 => h1 h9.1))
  rw [if_pos h1]
  refine no n10 ?_
  rw [q_bears 0 (by decide)]
  by_cases h2 : 0 ≤ x2 ∧ x2 < nI (nO 0)
  rotate_left
  · rw [if_neg h2]
    exact yes' rfl (hb (fun h9 => h2 h9.2))
  rw [if_pos h2]
  have gR : ∀ Q : Int32 → sT → Prop, wp_X5_refusesRow x2 R (fun r_3 S_3 => ((r_3 = 0 → (vp_in x1 6) ∧ ∃ n : Nat, wl_X5_kinds_43 Q n x1 x2 (vA S_3 12 x1.toNatClampNeg) (0 : Int32) (0 : Int32) S_3) ∧ (¬ r_3 = 0 → Q r_3 S_3))) → wp_X5_kinds x1 x2 R Q := by
    intro Q hQ
    unfold wp_X5_kinds
    rw [q_isOne hn x1 R hR.1, if_pos h1, q_isRow, if_pos (ir.mpr h2)]
    exact no n10 (no' n10 hQ)
  obtain ⟨w, hw, rfl⟩ := ixY (show n < 2 ^ 31 by omega) h1
  obtain ⟨j, hj, rfl⟩ := ixY (show nO 0 < 2 ^ 31 by decide) h2
  have hj6 : j < 6 := hj
  refine no' n10 ?_
  rcases q_seen hI hL.2.1 hR.2.1 hl20 hj with ⟨f, hf, gC, gRr⟩ | ⟨z, hz1, hz20, hzR, hzC, hcell, gC, gRr⟩
  · exact gC _ (no (by decide) (gR _ (gRr _ (no (by decide) ⟨rfl, inv_fd hI f hf⟩))))
  refine gC _ (yes rfl (q_setOut hL hW _ (fun S1 o1 j1 => ?_)))
  have hsw := (hW.2.1 w hw).2.2
  have main := pk_loop (fun f i (x : Int32 × sT) => wl_X4_kinds_56 (fun r SC1 => wp_X5_kinds (nI w) (nI j) R (fun r2 SR1 => r = r2 ∧ Inv SC1 SR1)) f (nI w) (nI j) x.1 (nI i) x.2) (fun i x => x.1 = fo (kF n last kd bd V (fun k => vA R 0 (40 * j + k)) z w) 0 i ∧ offJ C x.2 ∧ ∃ kd', (∀ i, ¬ i = w → kd' i = kd i) ∧ jn x.2 n last kd' bd V) 6 0 (0, S1) (Nat.zero_le _) ⟨rfl, o1, kd, fun _ _ => rfl, j1⟩ ?_ ?_
  · exact main
  · intro f ⟨a, S⟩ ⟨hx, oS, hj'⟩
    show wl_X4_kinds_56 _ (f + 1) (nI w) (nI j) a (nI 6) S
    rw [wl_k_s]
    unfold wb_X4_kinds_56
    refine yes (by decide) (gR _ (gRr _ (yes rfl ⟨vp_in_nI (by omega) (by decide), ?_⟩)))
    rw [nI_clamp (show w < 2 ^ 31 by omega)]
    have main2 := pk_loop (fun f i (x : Int32 × (Nat → Int32) × (Nat → Int32)) => wl_X5_kinds_43 (fun r2 SR1 => a = r2 ∧ Inv S SR1) f (nI w) (nI j) (vA R 12 w) x.1 (nI i) (uA (uA R 12 x.2.1) 15 x.2.2)) (fun i x => x.1 = fo (kF n last kd bd V (fun k => vA R 0 (40 * j + k)) z w) 0 i ∧ ∀ i, i < 6 → ¬ i = w → x.2.1 i = vA R 12 i) 6 0 (0, vA R 12, vA R 15) (Nat.zero_le _) ⟨rfl, fun _ _ _ => rfl⟩ ?_ ?_
    · obtain ⟨f, hf⟩ := main2
      have e : uA (uA R 12 (vA R 12)) 15 (vA R 15) = R := by rw [uA_id, uA_id]
      have hf' : wl_X5_kinds_43 (fun r2 SR1 => a = r2 ∧ Inv S SR1) f (nI w) (nI j) (vA R 12 w) 0 (nI 0) (uA (uA R 12 (vA R 12)) 15 (vA R 15)) := hf
      rw [e] at hf'
      exact ⟨f, hf'⟩
    · intro f ⟨a', H, F⟩ ⟨hx', hH⟩
      show wl_X5_kinds_43 _ (f + 1) (nI w) (nI j) (vA R 12 w) a' (nI 6) (uA (uA R 12 H) 15 F)
      rw [wl_kR_s]
      unfold wb_X5_kinds_43
      rw [nI_clamp (show w < 2 ^ 31 by omega)]
      refine yes (by decide) ⟨vp_in_nI (by omega) (by decide), hx.trans hx'.symm, ?_⟩
      have e12 : vA (uA (uA R 12 H) 15 F) 12 = H := vA_uA R 12 H
      rw [e12, uA_comm _ (show ¬ 15 = 12 by decide), uA_uA]
      exact inv_kd (inv_K hI (offK_of oS) (offA_refl R)) hH
    · intro f i ⟨a', H, F⟩ hi ⟨hx', hH⟩ ih
      show wl_X5_kinds_43 _ (f + 1) (nI w) (nI j) (vA R 12 w) a' (nI i) (uA (uA R 12 H) 15 F)
      rw [wl_kR_s]
      unfold wb_X5_kinds_43 wb_X5_kinds_80
      have e12 : vA (uA (uA R 12 H) 15 F) 12 = H := vA_uA R 12 H
      rw [nI_clamp (show w < 2 ^ 31 by omega), e12, uA_comm (uA R 12 H) (show ¬ 15 = 12 by decide) F (upd H w (nI i)), uA_uA R 12 H (upd H w (nI i))]
      have hstep := kF_s hx'
      have hW' := okW_kd hW w i (by omega)
      refine no (nI_ge hi (by decide)) ⟨vp_in_nI (by omega) (by decide), q_layAside (onR_kd hR hn i hH) hn _ (fun G hG => ?_)⟩
      refine q_goesAs (z := z) (rv := fun k => vA R 0 (40 * j + k)) hG hW' hl hl20 (by omega) hj hz20 hzR (fun k hk => rfl) _ (fun K => ?_)
      rw [uA_uA, uA_uA]
      have hH' : ∀ i_1, i_1 < 6 → ¬ i_1 = w → upd H w (nI i) i_1 = vA R 12 i_1 := fun k hk c => by
        simp only [up]; rw [if_neg c]; exact hH k hk c
      refine cy (fun e => ?_) (fun e => ?_)
      · rw [if_neg (by rw [e]; decide)] at hstep
        have h9 := ih (a', upd H w (nI i), K) ⟨hstep.symm, hH'⟩
        rw [← nI_1] at h9
        rw [or0]
        exact h9
      · rw [if_pos e] at hstep
        have h9 := ih (a' ||| ((1 : Int32) <<< (nI i &&& 31)), upd H w (nI i), K) ⟨hstep.symm, hH'⟩
        rw [← nI_1] at h9
        exact h9
  · intro f i ⟨a, S⟩ hi ⟨hx, oS, kd', hkd', hj'⟩ ih
    show wl_X4_kinds_56 _ (f + 1) (nI w) (nI j) a (nI i) S
    rw [wl_k_s]
    unfold wb_X4_kinds_56 wb_X4_kinds_117
    have hLS := line_J hL oS
    rw [nI_clamp (show w < 2 ^ 31 by omega), show vA S 22 w = nI (V (3 + w)) from (hLS.2.2.2.2.2 w hw).2.2, show vI S 30 = nI (V 0) from hLS.2.2.2.1]
    refine no (nI_ge hi (by decide)) ⟨vp_in_nI (by omega) (by decide), q_dbits (by omega) hsw (by omega) S _ (fun b hb => ⟨vp_in_nI (by omega) (by decide), ?_⟩)⟩
    have e29 : vI (uB S 110 (vp_updL (vB S 110) w b)) 29 = nI (V 2) := hLS.2.2.1
    rw [e29]
    have j2 := jn_kd (kd := kd) (k := i) hj' hkd' hb
    have oS2 := offJ_uB oS 110 (vp_updL (vB S 110) w b) (by decide)
    have hW' := okW_kd hW w i (by omega)
    have hstep := kF_s hx
    refine q_fits (z := z) (rv := fun k => vA R 0 (40 * j + k)) j2 hW' hl hl20 (by omega) hV2 hj hz20 ?_ (fun k hk => ?_) _ (fun S3 o3 j3 => ?_)
    · rw [(oS2.1 200 (by omega)).2.1]; exact hzC
    · rw [(oS2.1 (300 + j) (by omega)).2.1]; exact hcell k hk
    · have oS3 := offJ_trans oS2 o3
      rw [setV_id]
      have hk3 : ∀ i_1, ¬ i_1 = w → setV kd w i i_1 = kd i_1 := fun k c => by unfold setV; rw [if_neg c]
      refine cy (fun e => ?_) (fun e => ?_)
      · rw [if_neg (by rw [e]; decide)] at hstep
        have h9 := ih (a, S3) ⟨hstep.symm, oS3, _, hk3, j3⟩
        rw [← nI_1] at h9
        exact h9
      · rw [if_pos e] at hstep
        have h9 := ih (a ||| ((1 : Int32) <<< (nI i &&& 31)), S3) ⟨hstep.symm, oS3, _, hk3, j3⟩
        rw [← nI_1] at h9
        exact h9
