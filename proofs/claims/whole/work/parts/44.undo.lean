theorem inv_off {n last due : Nat} {kd bd : Nat → Nat} {T : Nat → Nat → Nat} {d : Nat} {C R C' R' : sT} (h1 : relM C R) (h2 : relR C R) (h3 : relT C R) (h4 : relK C R n last due kd bd) (h5 : okN n last due kd bd) (oC : offC C C') (oR : offR R R') (hd : d ≤ 40) (hV : ∀ e, e ≤ d → okV n last (T e)) (hC : nightC C' 0 n last due kd bd T d) (hR : nightR R' n last due kd bd T d) : Inv C' R' := by
  obtain ⟨o1, o2⟩ := oC
  obtain ⟨p1, p2, p3⟩ := oR
  have hoc : ∀ k, 46 ≤ k ∧ k < 85 → vI C' k = vI C k ∧ vA C' k = vA C k := fun k hk => o1 k (by omega)
  exact ⟨relM_of h1 (o1 13 (by omega)).1 (o2 14) (o2 15) (o1 16 (by omega)).1 (o1 12 (by omega)).2 (p2 4 (by omega)) (p3 5) (p3 6) (p2 7 (by omega)) (p1 8 (by omega) (by omega)), relR_of h2 (o1 200 (by omega)).2 (fun r hr => (o1 (300 + r) (by omega)).2) (p1 1 (by omega) (by omega)) (p1 0 (by omega) (by omega)), relT_of h3 (o1 201 (by omega)).2 (fun r hr => (o1 (310 + r) (by omega)).2) (p1 3 (by omega) (by omega)) (p1 2 (by omega) (by omega)), n, last, due, kd, bd, T, d, h5, hd, hV, hC, hR, relK_of h4 (o1 5 (by omega)).2 hoc (p1 18 (by omega) (by omega))⟩
theorem q_back {C : sT} {n last due : Nat} {kd bd : Nat → Nat} {T : Nat → Nat → Nat} {d : Nat} (hN : nightC C 0 n last due kd bd T (d + 1)) (hn : n ≤ 6) (hd : d < 40) (Q : sT → Prop) (h : ∀ C', offC C C' → nightC C' 0 n last due kd bd T d → Q C') : wp_X1_takeBackLatest 0 C Q := by
  obtain ⟨⟨c1, c2, c3, c4, c5, c6, c7⟩, cs, cl⟩ := hN
  have lg := cl d (by omega)
  have cl' : ∀ e, e < d → logD n (vA C 23 e) (vA C 24 e) (vA C 25 e) (T e) (T (e + 1)) := fun e he => cl e (by omega)
  have c1' : vI C 26 = nI n := c1
  have c2' : vI C 27 = nI last := c2
  have c3' : vI C 28 = nI due := c3
  have c4' : vI C 29 = nI (T (d + 1) 2) := c4
  have c5' : vI C 30 = nI (T (d + 1) 0) := c5
  have c6' : vI C 31 = nI (T (d + 1) 1) := c6
  have c7' : vI C 32 = nI (d + 1) := c7
  have hcl : (nI d).toNatClampNeg = d := nI_clamp (by omega)
  unfold wp_X1_takeBackLatest
  simp only [Nat.reduceMul, Nat.reduceAdd, ac, c7', nI_pred, Nat.reduceEqDiff, ↓reduceIte, hcl]
  refine yes (nI_lt (a := 0) (by omega) (by omega)) ⟨vp_in_nI hd (by decide), fun z ez => ⟨vp_in_nI hd (by decide), ?_⟩⟩
  have oI : ∀ (C1 : sT) (k : Nat) (x : Int32), offC C C1 → 20 ≤ k → k < 33 → offC C (uI C1 k x) := by
    intro C1 k x ⟨a1, a2⟩ hk1 hk2
    refine ⟨fun m hm => ⟨?_, (a1 m hm).2⟩, a2⟩
    simp only [ac]; rw [if_neg (by omega)]; exact (a1 m hm).1
  have o0 : offC C C := ⟨fun _ _ => ⟨rfl, rfl⟩, fun _ => rfl⟩
  have o1 := oI C 32 (nI d) o0 (by decide) (by decide)
  rcases lg with ⟨w1, w2, w3, w4, w5⟩ | ⟨w1, ⟨w, hw, w2, w3, w4⟩, w5, w6, w7⟩ | ⟨w1, w2, w3, w4, w5⟩ | ⟨w1, w2⟩
  · rw [show vA C 23 d = 0 from w1]
    have ez' : z = nI (T d 1) := ez.trans w2
    refine ⟨fun _ S4 e4 => ?_, fun h9 => absurd h9 (by decide), fun h9 => absurd h9 (by decide), fun h9 => absurd rfl h9⟩
    rw [e4, ez']
    refine h _ (oI _ 31 _ (oI _ 30 _ o1 (by decide) (by decide)) (by decide) (by decide)) ⟨⟨c1', c2', c3', ?_, ?_, rfl, rfl⟩, fun i hi => ?_, cl'⟩
    · show vI C 29 = _
      rw [c4', w4]
    · show vI C 30 - 1 = _
      rw [c5', w3, nI_pred]
    · obtain ⟨k1, k2, k3⟩ := cs i hi
      exact ⟨k1, k2, by rw [← w5 i hi]; exact k3⟩
  · rw [show vA C 23 d = 1 from w1, show vA C 24 d = nI w from w2, nI_clamp (show w < 2 ^ 31 by omega)]
    have ez' : z = nI (T d (3 + w)) := ez.trans w3
    refine ⟨fun h9 => absurd h9 (by decide), fun _ => ⟨vp_in_nI hd (by decide), vp_in_nI (by omega) (by decide), fun S8 e8 => ?_⟩, fun h9 => absurd h9 (by decide), fun _ h9 => absurd rfl h9⟩
    rw [e8, ez']
    refine h _ ⟨fun m hm => ⟨(o1.1 m hm).1, ?_⟩, o1.2⟩ ⟨⟨c1', c2', c3', ?_, ?_, ?_, rfl⟩, fun i hi => ?_, cl'⟩
    · simp only [ac]; rw [if_neg (by omega)]
    · show vI C 29 = _
      rw [c4', w7]
    · show vI C 30 = _
      rw [c5', w5]
    · show vI C 31 = _
      rw [c6', w6]
    · obtain ⟨k1, k2, k3⟩ := cs i hi
      refine ⟨k1, k2, ?_⟩
      show upd (vA C 22) w _ i = _
      simp only [up]
      by_cases e : i = w
      · rw [if_pos e, e]
      · rw [if_neg e, ← w4 i hi e]; exact k3
  · rw [show vA C 23 d = 2 from w1]
    have ez' : z = nI (T d 2) := ez.trans w2
    refine ⟨fun h9 => absurd h9 (by decide), fun h9 => absurd h9 (by decide), fun _ => ?_, fun _ _ h9 => absurd rfl h9⟩
    rw [ez']
    refine h _ (oI _ 29 _ o1 (by decide) (by decide)) ⟨⟨c1', c2', c3', rfl, ?_, ?_, rfl⟩, fun i hi => ?_, cl'⟩
    · show vI C 30 = _
      rw [c5', w3]
    · show vI C 31 = _
      rw [c6', w4]
    · obtain ⟨k1, k2, k3⟩ := cs i hi
      exact ⟨k1, k2, by rw [← w5 i hi]; exact k3⟩
  · rw [show vA C 23 d = 3 from w1]
    refine ⟨fun h9 => absurd h9 (by decide), fun h9 => absurd h9 (by decide), fun h9 => absurd h9 (by decide), fun _ _ _ => ?_⟩
    refine h _ o1 ⟨⟨c1', c2', c3', ?_, ?_, ?_, rfl⟩, fun i hi => ?_, cl'⟩
    · show vI C 29 = _
      rw [c4', w2 2 (by omega)]
    · show vI C 30 = _
      rw [c5', w2 0 (by omega)]
    · show vI C 31 = _
      rw [c6', w2 1 (by omega)]
    · obtain ⟨k1, k2, k3⟩ := cs i hi
      exact ⟨k1, k2, by rw [← w2 (3 + i) (by omega)]; exact k3⟩
theorem wl_undo_s (Q : Int32 → sT → Prop) (f : Nat) (x2 x3 : Int32) (S : sT) : wl_X4_undo_30 Q (f + 1) x2 x3 S = wb_X4_undo_30 Q (fun x2 x3 S => wl_X4_undo_30 Q f x2 x3 S) x2 x3 S := rfl
theorem st_undo_ok : st_undo Inv := by
  intro x1 C R hI
  obtain ⟨h1, h2, h3, n, last, due, kd, bd, T, d, h5, hd, hV, hC, hR, hK⟩ := id hI
  have hn := h5.1
  have c7 : vI C 32 = nI d := hC.1.2.2.2.2.2.2
  obtain ⟨⟨r1, r2, r3, r4⟩, rs, rn, ra⟩ := id hR
  unfold wp_X4_undo
  rw [c7, nI_1, q_isBelow]
  by_cases c : 0 ≤ x1 ∧ x1 < nI (d + 1)
  · rw [if_pos c]
    have cR : 0 ≤ x1 ∧ x1 ≤ nI d := by
      obtain ⟨m, hm, rfl⟩ := ixY (show d + 1 < 2 ^ 31 by omega) c
      exact ⟨nI_pos' (by omega), nI_le (by omega) (by omega)⟩
    obtain ⟨m, hm, rfl⟩ := ixY (show d + 1 < 2 ^ 31 by omega) c
    rw [c7, pk_sub (show m ≤ d by omega)]
    refine no' n10 ?_
    have o0 : offC C C := ⟨fun _ _ => ⟨rfl, rfl⟩, fun _ => rfl⟩
    refine pk_loop (fun f i (S : sT) => wl_X4_undo_30 _ f (nI (d - m)) (nI i) S) (fun i S => offC C S ∧ nightC S 0 n last due kd bd T (d - i)) (d - m) 0 C (Nat.zero_le _) ⟨o0, hC⟩ ?_ ?_
    · intro f S ⟨oS, hS⟩
      show wl_X4_undo_30 _ (f + 1) (nI (d - m)) (nI (d - m)) S
      rw [wl_undo_s]
      unfold wb_X4_undo_30
      rw [show d - (d - m) = m by omega] at hS
      refine yes (nI_le (Nat.le_refl _) (by omega)) ?_
      show wp_X5_undo _ _ _
      unfold wp_X5_undo
      rw [r4, q_in _ 0 (nI d) 0 _ (by decide) rfl, if_pos cR, r4, pk_sub (show m ≤ d by omega)]
      have fin : ∀ R', offR R R' → vI R' 17 = nI m → (∀ i, i < 3 + n → vA R' 14 i = nI (T m i)) → vA R' 16 = vA R 16 → Inv S R' := by
        intro R' oR e17 e14 e16
        refine inv_off h1 h2 h3 hK h5 oS oR (show m ≤ 40 by omega) (fun e he => hV e (by omega)) hS ⟨⟨(oR.2.1 9 (by decide)).trans r1, (oR.2.1 10 (by decide)).trans r2, (oR.2.1 11 (by decide)).trans r3, e17⟩, fun i hi => ?_, e14, fun e he i hi => ?_⟩
        · rw [oR.1 12 (by decide) (by decide), oR.1 13 (by decide) (by decide)]; exact rs i hi
        · rw [e16]; exact ra e (by omega) i hi
      unfold wb_X5_undo_45
      refine no' n10 ⟨fun c0 => ⟨rfl, ?_⟩, fun c0 => ?_⟩
      · have hdm : d - m = 0 := by
          rcases Nat.eq_zero_or_pos (d - m) with h9 | h9
          · exact h9
          · exact absurd c0 (nI_nle h9 (by omega))
        refine fin _ ⟨fun _ _ _ => rfl, fun k hk => ?_, fun _ => rfl⟩ rfl (fun i hi => ?_) rfl
        · simp only [ac]; rw [if_neg hk]
        · show vA R 14 i = _
          rw [rn i hi, show d = m by omega]
      · have hdm : 0 < d - m := by
          rcases Nat.eq_zero_or_pos (d - m) with h9 | h9
          · rw [h9] at c0; exact absurd (by decide) c0
          · exact h9
        rw [show (9 : Int32) * nI m = nI (9 * m) from pk_mul 9 m]
        refine q_copies 16 14 (9 * m) 0 9 (by decide) (show 9 * m + 9 ≤ 360 by omega) (by decide) (by decide) (by decide) R _ (fun F f1 f2 => ⟨rfl, ?_⟩)
        refine fin _ ⟨fun k a1 a2 => ?_, fun k hk => ?_, fun _ => rfl⟩ rfl (fun i hi => ?_) rfl
        · simp only [ac]; rw [if_neg a1]
        · simp only [ac]; rw [if_neg hk]
        · show F i = _
          have := f1 i (by omega)
          rw [Nat.zero_add] at this
          rw [this]; exact ra m (by omega) i hi
    · intro f i S hi ⟨oS, hS⟩ ih
      show wl_X4_undo_30 _ (f + 1) (nI (d - m)) (nI i) S
      rw [wl_undo_s]
      unfold wb_X4_undo_30
      rw [show d - i = (d - (i + 1)) + 1 by omega] at hS
      refine no (nI_ge hi (by omega)) (q_back hS hn (by omega) _ (fun C' oC' hC' => ?_))
      have h9 := ih C' ⟨⟨fun k hk => ⟨((oC'.1 k hk).1).trans (oS.1 k hk).1, ((oC'.1 k hk).2).trans (oS.1 k hk).2⟩, fun k => (oC'.2 k).trans (oS.2 k)⟩, hC'⟩
      rw [← nI_1] at h9
      exact h9
  · rw [if_neg c]
    refine yes' rfl ?_
    show wp_X5_undo _ _ _
    unfold wp_X5_undo
    rw [r4, q_in x1 0 (nI d) 0 _ (by decide) rfl, if_neg (fun h9 => c ⟨h9.1, by
      have h8 : nI d < nI (d + 1) := nI_lt (by omega) (by omega)
      grind⟩)]
    exact yes' rfl ⟨rfl, hI⟩
