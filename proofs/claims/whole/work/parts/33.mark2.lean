theorem isO_w {k w : Nat} (h : isO k w = true) : (w = 3 → k = 3) ∧ (w = 4 → k = 4) ∧ (w = 5 → k = 5) := by
  unfold isO at h
  simp at h
  omega
theorem st_mark_ok : st_mark Inv := by
  intro x1 x2 C R hI
  obtain ⟨n, last, due, kd, bd, T, d, hok, hd40, hV, hC, hR, hK⟩ := id hI.2.2.2
  obtain ⟨⟨c1, -, -, -, -, -, -⟩, cs, -⟩ := id hC
  obtain ⟨⟨r1, -, -, -⟩, rs, rn, -⟩ := id hR
  have hn := hok.1
  have hVd := hV d (Nat.le_refl d)
  have hb : ¬ ((0 ≤ x1 ∧ x1 < nI n) ∧ ¬ x2 = 0 ∧ 0 ≤ x2 ∧ x2 < 6) → wp_X5_mark x1 x2 R (fun r2 SR1 => -1 = r2 ∧ Inv C SR1) := by
    intro h
    unfold wp_X5_mark
    rw [q_isOne hn x1 R r1]
    by_cases h1 : 0 ≤ x1 ∧ x1 < nI n
    · rw [if_pos h1, q_in x2 1 5 1 5 (by decide) (by decide), if_neg (by grind)]
      exact no n10 (yes' rfl ⟨rfl, hI⟩)
    · rw [if_neg h1]
      exact yes rfl ⟨rfl, hI⟩
  unfold wp_X4_mark
  rw [show vI C 26 = nI n from c1, q_isBelow]
  by_cases h1 : 0 ≤ x1 ∧ x1 < nI n
  rotate_left
  · rw [if_neg h1]
    exact yes rfl (hb (fun h9 => h1 h9.1))
  rw [if_pos h1]
  refine no n10 ⟨fun h9 => hb (fun h8 => h8.2.1 h9), fun hx0 => ?_⟩
  rw [q_isBelow]
  by_cases h2 : 0 ≤ x2 ∧ x2 < 6
  rotate_left
  · rw [if_neg h2]
    exact yes' rfl (hb (fun h9 => h2 h9.2.2))
  rw [if_pos h2]
  obtain ⟨i, hi, rfl⟩ := ixY (show n < 2 ^ 31 by omega) h1
  obtain ⟨w, hw, rfl⟩ := ixY (n := 6) (by decide) h2
  have hw0 : ¬ w = 0 := fun e => hx0 (by rw [e]; rfl)
  obtain ⟨k1, k2, k3⟩ := cs i hi
  have hk5 : kd i ≤ 5 := (hok.2.2.2 i hi).1
  have hs9 := hVd.2.2.2 i hi
  have hcl : (nI i).toNatClampNeg = i := nI_clamp (by omega)
  have e3 : (3 : Int32) + nI i = nI (3 + i) := nI_add 3 i
  have hcl3 : (nI (3 + i)).toNatClampNeg = 3 + i := nI_clamp (by omega)
  have kt := kU_tab (kd i) (by omega) w hw hw0
  have gR : ∀ Q, (isO (kd i) w = true → ((nI w = (1 : Int32) → (vp_in (nI i) 6) ∧ wp_X5_often (nI (kd i)) (nI (T d (3 + i))) R Q) ∧ (nI w = (2 : Int32) → (vp_in (nI i) 6) ∧ wp_X5_often (nI (kd i)) (nI (T d (3 + i))) R (fun r_12 S_12 => wp_X5_often (0 : Int32) (nI (T d (3 + i))) S_12 (fun r_13 S_13 => Q (((100 : Int32) + r_12) - r_13) S_13))) ∧ (nI w = (3 : Int32) → wp_X5_firstOf (3 : Int32) (nI (T d (3 + i))) (0 : Int32) R Q) ∧ (nI w = (4 : Int32) → wp_X5_firstOf (4 : Int32) (nI (T d (3 + i))) (1 : Int32) R Q) ∧ (¬ nI w = (1 : Int32) → ¬ nI w = (2 : Int32) → ¬ nI w = (3 : Int32) → ¬ nI w = (4 : Int32) → wp_X5_often (2 : Int32) (nI (T d (3 + i))) R (fun r_6 S_6 => wp_X5_often (5 : Int32) (nI (T d (3 + i))) S_6 (fun r_7 S_7 => Q (r_6 - r_7) S_7))))) → (isO (kd i) w = false → Q (-3) (fdR 3 R)) → wp_X5_mark (nI i) (nI w) R Q := by
    intro Q a1 a2
    unfold wp_X5_mark
    rw [q_isOne hn _ R r1, if_pos h1, q_in _ 1 5 1 5 (by decide) (by decide), if_pos (by grind), e3, hcl, hcl3, (rs i hi).1]
    refine no n10 (no' n10 ⟨vp_in_nI (by omega) (by decide), q_isOf hk5 (by omega) R _ (cn (fun e => q_foundR 3 (by decide) R _ (a2 e)) (fun e => ⟨vp_in_nI (by omega) (by decide), ?_⟩))⟩)
    rw [(rs i hi).1, rn (3 + i) (by omega)]
    exact a1 e
  have gC : ∀ Q, isO (kd i) w = true → (∀ r, (w = 1 → r = oft (kd i) (T d (3 + i)) 60) → (w = 2 → r = oft (kd i) (T d (3 + i)) 60 - oft 0 (T d (3 + i)) 60 + 100) → (w = 5 → r = oft 2 (T d (3 + i)) 60 - oft 5 (T d (3 + i)) 60) → (w = 3 ∨ w = 4 → ∃ t, t < 60 ∧ fst1 w (T d (3 + i)) t = true ∧ (∀ j, j < t → fst1 w (T d (3 + i)) j = false) ∧ r = nI t) → Q r C) → wb_X4_mark_59 Q (nI i) (nI w) (nI (kd i)) C := by
    intro Q ho h
    obtain ⟨o3, o4, o5⟩ := isO_w ho
    unfold wb_X4_mark_59
    rw [hcl, show vA C 22 i = nI (T d (3 + i)) from k3]
    refine ⟨vp_in_nI (by omega) (by decide), ?_⟩
    rcases (show w = 1 ∨ w = 2 ∨ w = 3 ∨ w = 4 ∨ w = 5 by omega) with rfl | rfl | rfl | rfl | rfl
    · refine ⟨fun _ => q_dreamt hk5 hs9 C _ (h _ ?_ ?_ ?_ ?_), fun h9 => absurd h9 (by decide), fun h9 => absurd h9 (by decide), fun h9 => absurd rfl h9⟩ <;> simp
    · refine ⟨fun h9 => absurd h9 (by decide), fun _ => q_dreamt hk5 hs9 C _ (q_dreamt (k := 0) (by decide) hs9 C _ (h _ ?_ ?_ ?_ ?_)), fun h9 => absurd h9 (by decide), fun _ h9 => absurd rfl h9⟩ <;> simp
    · obtain ⟨t, ht, f1, f2⟩ := fst_least (k := 3) (Or.inl rfl) hs9
      refine ⟨fun h9 => absurd h9 (by decide), fun h9 => absurd h9 (by decide), fun h9 => absurd h9 (by decide), fun _ _ _ => ?_⟩
      rw [o3 rfl]
      exact q_firstDream (Or.inl rfl) hs9 ht f1 f2 C _ (h _ (by simp) (by simp) (by simp) (fun _ => ⟨t, ht, f1, f2, rfl⟩))
    · obtain ⟨t, ht, f1, f2⟩ := fst_least (k := 4) (Or.inr rfl) hs9
      refine ⟨fun h9 => absurd h9 (by decide), fun h9 => absurd h9 (by decide), fun h9 => absurd h9 (by decide), fun _ _ _ => ?_⟩
      rw [o4 rfl]
      exact q_firstDream (Or.inr rfl) hs9 ht f1 f2 C _ (h _ (by simp) (by simp) (by simp) (fun _ => ⟨t, ht, f1, f2, rfl⟩))
    · rw [o5 rfl] at h ⊢
      refine ⟨fun h9 => absurd h9 (by decide), fun h9 => absurd h9 (by decide), fun _ => q_dreamt (k := 2) (by decide) hs9 C _ (q_dreamt (by decide) hs9 C _ (h _ ?_ ?_ ?_ ?_)), fun _ _ h9 => absurd rfl h9⟩ <;> simp
  have fin : isO (kd i) w = true → wb_X4_mark_59 (fun r SC1 => wp_X5_mark (nI i) (nI w) R (fun r2 SR1 => r = r2 ∧ Inv SC1 SR1)) (nI i) (nI w) (nI (kd i)) C := by
    intro ho
    refine gC _ ho (fun r g1 g2 g5 g34 => gR _ (fun _ => ?_) (fun e => by rw [ho] at e; exact absurd e (by decide)))
    rcases (show w = 1 ∨ w = 2 ∨ w = 3 ∨ w = 4 ∨ w = 5 by omega) with rfl | rfl | rfl | rfl | rfl
    · exact ⟨fun _ => ⟨vp_in_nI (by omega) (by decide), q_often hk5 hs9 R _ ⟨g1 rfl, hI⟩⟩, fun h9 => absurd h9 (by decide), fun h9 => absurd h9 (by decide), fun h9 => absurd h9 (by decide), fun h9 => absurd rfl h9⟩
    · refine ⟨fun h9 => absurd h9 (by decide), fun _ => ⟨vp_in_nI (by omega) (by decide), q_often hk5 hs9 R _ (q_often (k := 0) (by decide) hs9 R _ ⟨?_, hI⟩)⟩, fun h9 => absurd h9 (by decide), fun h9 => absurd h9 (by decide), fun _ h9 => absurd rfl h9⟩
      rw [g2 rfl]
      grind
    · obtain ⟨t, ht, f1, f2, e⟩ := g34 (Or.inl rfl)
      exact ⟨fun h9 => absurd h9 (by decide), fun h9 => absurd h9 (by decide), fun _ => q_firstOf (k := 3) (Or.inl rfl) hs9 ht f1 f2 R _ ⟨e, hI⟩, fun h9 => absurd h9 (by decide), fun _ _ h9 => absurd rfl h9⟩
    · obtain ⟨t, ht, f1, f2, e⟩ := g34 (Or.inr rfl)
      exact ⟨fun h9 => absurd h9 (by decide), fun h9 => absurd h9 (by decide), fun h9 => absurd h9 (by decide), fun _ => q_firstOf (k := 4) (Or.inr rfl) hs9 ht f1 f2 R _ ⟨e, hI⟩, fun _ _ _ h9 => absurd rfl h9⟩
    · exact ⟨fun h9 => absurd h9 (by decide), fun h9 => absurd h9 (by decide), fun h9 => absurd h9 (by decide), fun h9 => absurd h9 (by decide), fun _ _ _ _ => q_often (k := 2) (by decide) hs9 R _ (q_often (k := 5) (by decide) hs9 R _ ⟨g5 rfl, hI⟩)⟩
  rw [hcl, show vA C 20 i = nI (kd i) from k1, nI_clamp (show kd i < 2 ^ 31 by omega)]
  refine no' n10 ⟨vp_in_nI (by omega) (by decide), fun h9 => fin (kt.mp (Or.inl h9)), fun h9 => ⟨vp_in_nI (by omega) (by decide), fun h8 => fin (kt.mp (Or.inr h8)), fun h8 => ?_⟩⟩
  refine q_foundC 3 (by decide) C _ (gR _ (fun e => ?_) (fun _ => ⟨rfl, inv_fd hI 3 (by decide)⟩))
  rcases kt.mpr e with h7 | h7
  · exact absurd h7 h9
  · exact absurd h7 h8
