/-! what reading leaves as it is -/
def frC (D D' : sT) : Prop := vT D' = vT D ∧ (∀ k, vL D' k = vL D k) ∧ ∀ k, k < 33 ∨ 46 ≤ k → vI D' k = vI D k ∧ vA D' k = vA D k
def frR (R R' : sT) : Prop := (∀ k, vL R' k = vL R k) ∧ (∀ k, k < 23 ∨ 26 ≤ k → vI R' k = vI R k) ∧ ∀ k, k < 26 ∨ 29 ≤ k → vA R' k = vA R k
theorem frC_r (D : sT) : frC D D := ⟨rfl, fun _ => rfl, fun _ _ => ⟨rfl, rfl⟩⟩
theorem frR_r (R : sT) : frR R R := ⟨fun _ => rfl, fun _ _ => rfl, fun _ _ => rfl⟩
theorem frC_t {A B C : sT} (h : frC A B) (g : frC B C) : frC A C := ⟨g.1.trans h.1, fun k => (g.2.1 k).trans (h.2.1 k), fun k hk => ⟨(g.2.2 k hk).1.trans (h.2.2 k hk).1, (g.2.2 k hk).2.trans (h.2.2 k hk).2⟩⟩
theorem frR_t {A B C : sT} (h : frR A B) (g : frR B C) : frR A C := ⟨fun k => (g.1 k).trans (h.1 k), fun k hk => (g.2.1 k hk).trans (h.2.1 k hk), fun k hk => (g.2.2 k hk).trans (h.2.2 k hk)⟩
theorem tC_fr {D D' : sT} {t : Nat} {s : Nat → Int32} {z : Nat} (h : tC D t s z) (g : frC D D') : tC D' t s z := by
  obtain ⟨ht, hz, hT, hs, hx⟩ := h
  exact ⟨ht, hz, g.1.trans hT, (g.2.2 101 (by omega)).1.trans hs, fun i hi => by rw [(g.2.2 (310 + t) (by omega)).2]; exact hx i hi⟩
theorem tR_fr {R R' : sT} {t : Nat} {s : Nat → Int32} {z : Nat} (h : tR R t s z) (g : frR R R') : tR R' t s z := by
  obtain ⟨ht, hz, hs, hw, hx⟩ := h
  exact ⟨ht, hz, (g.2.1 20 (by omega)).trans hs, (g.2.1 21 (by omega)).trans hw, fun i hi => by rw [g.2.2 2 (by omega)]; exact hx i hi⟩
/-! a draft with m sleepers -/
def dC (D : sT) (last due m : Nat) (kd bd sp : Nat → Nat) : Prop := (vI D 39 = nI m ∧ vI D 40 = nI last ∧ vI D 41 = nI due ∧ vI D 42 = nI (2 ^ m - 1) ∧ vI D 43 = 0 ∧ vI D 44 = 0 ∧ vI D 45 = 0) ∧ ∀ i, i < m → vA D 33 i = nI (kd i) ∧ vA D 34 i = nI (bd i) ∧ vA D 35 i = nI (sp i)
def dR (R : sT) (last due m : Nat) (kd bd sp : Nat → Nat) : Prop := (vI R 23 = nI last ∧ vI R 24 = nI due ∧ vI R 25 = nI m) ∧ ∀ i, i < m → vA R 26 i = nI (kd i) ∧ vA R 27 i = nI (bd i) ∧ vA R 28 i = nI (sp i)
def begD (D : sT) (x y : Int32) : sT := uI (uI (uI (uI (uI (uI (uI D 39 0) 40 x) 41 y) 42 0) 43 0) 44 0) 45 0
theorem begD_fr (D : sT) (x y : Int32) : frC D (begD D x y) := by
  refine ⟨rfl, fun _ => rfl, fun k hk => ⟨?_, rfl⟩⟩
  unfold begD
  simp only [ac]
  (repeat rw [if_neg (by omega)])
theorem c_begin {D : sT} {x y a f : Int32} {Q : sT → Prop} (h : Q (xcs (begD D x y) a f)) : wp_X1_begin 1 x y (xcs D a f) Q := by
  unfold wp_X1_begin
  intro S1 e1
  subst e1
  simp only [Nat.reduceMul, Nat.reduceAdd]
  rw [csuI D _ _ (by decide) (by decide), csuI _ _ _ (by decide) (by decide), csuI _ _ _ (by decide) (by decide), csuI _ _ _ (by decide) (by decide), csuI _ _ _ (by decide) (by decide), csuI _ _ _ (by decide) (by decide), csuI _ _ _ (by decide) (by decide)]
  exact h
theorem begD_d (D : sT) (last due : Nat) (kd bd sp : Nat → Nat) : dC (begD D (nI last) (nI due)) last due 0 kd bd sp := by
  refine ⟨⟨rfl, rfl, rfl, rfl, rfl, rfl, rfl⟩, fun i hi => absurd hi (by omega)⟩
def addD (D : sT) (m : Nat) (x y u : Int32) : sT := uI (uI (uA (uA (uA D 33 (upd (vA D 33) m x)) 34 (upd (vA D 34) m y)) 35 (upd (vA D 35) m u)) 42 (vI D 42 ||| ((1 : Int32) <<< (nI m &&& 31)))) 39 (nI (m + 1))
theorem addD_fr (D : sT) (m : Nat) (x y u : Int32) : frC D (addD D m x y u) := by
  refine ⟨rfl, fun _ => rfl, fun k hk => ⟨?_, ?_⟩⟩
  · unfold addD
    simp only [ac]
    (repeat rw [if_neg (by omega)])
  · unfold addD
    simp only [ac]
    (repeat rw [if_neg (by omega)])
theorem c_add {D : sT} {m : Nat} (hm : m < 6) (h39 : vI D 39 = nI m) {x y u a f : Int32} {Q : sT → Prop} (h : Q (xcs (addD D m x y u) a f)) : wp_X1_addSleeper 1 x y u (xcs D a f) Q := by
  have hcl : (nI m).toNatClampNeg = m := nI_clamp (by omega)
  have hin : vp_in (nI m) 6 := vp_in_nI hm (by decide)
  have k39 : ∀ E : sT, vI (xcs E a f) 39 = vI E 39 := fun E => csI E _ _ (by decide) (by decide)
  have k42 : ∀ E : sT, vI (xcs E a f) 42 = vI E 42 := fun E => csI E _ _ (by decide) (by decide)
  unfold wp_X1_addSleeper
  simp only [Nat.reduceMul, Nat.reduceAdd, Nat.add_zero, csuA, csA, k39]
  have u1 : ∀ (E : sT) (k : Nat) (g : Nat → Int32), vI (uA E k g) 39 = vI E 39 := fun _ _ _ => rfl
  simp only [u1, h39, hcl]
  refine yes (nI_lt hm (by decide)) ⟨hin, hin, fun S3 e3 => ?_⟩
  subst e3
  simp only [csuA, csA, k39, u1, h39, hcl]
  refine ⟨hin, fun S5 e5 => ?_⟩
  subst e5
  rw [csuI _ _ _ (by decide) (by decide), csuI _ _ _ (by decide) (by decide), k39, k42]
  have e1 : ∀ (E : sT) (x : Int32), vI (uI E 42 x) 39 = vI E 39 := fun E x => by simp [ac]
  rw [e1, u1, u1, u1, h39, nI_1]
  exact h
theorem msk : ∀ m, m < 6 → nI (2 ^ m - 1) ||| ((1 : Int32) <<< (nI m &&& 31)) = nI (2 ^ (m + 1) - 1) := by decide +kernel
def ext (f : Nat → Nat) (m x : Nat) : Nat → Nat := fun i => if i = m then x else f i
theorem addD_d {D : sT} {last due m : Nat} {kd bd sp : Nat → Nat} (hm : m < 6) (h : dC D last due m kd bd sp) (k b u : Nat) : dC (addD D m (nI k) (nI b) (nI u)) last due (m + 1) (ext kd m k) (ext bd m b) (ext sp m u) := by
  obtain ⟨⟨a1, a2, a3, a4, a5, a6, a7⟩, hs⟩ := h
  refine ⟨⟨rfl, a2, a3, ?_, a5, a6, a7⟩, fun i hi => ?_⟩
  · have e : vI (addD D m (nI k) (nI b) (nI u)) 42 = vI D 42 ||| ((1 : Int32) <<< (nI m &&& 31)) := rfl
    rw [e, a4, msk m hm]
  · have e1 : vA (addD D m (nI k) (nI b) (nI u)) 33 = upd (vA D 33) m (nI k) := rfl
    have e2 : vA (addD D m (nI k) (nI b) (nI u)) 34 = upd (vA D 34) m (nI b) := rfl
    have e3 : vA (addD D m (nI k) (nI b) (nI u)) 35 = upd (vA D 35) m (nI u) := rfl
    rw [e1, e2, e3]
    simp only [up, ext]
    by_cases e : i = m
    · simp [e]
    · simp only [if_neg e]
      exact hs i (by omega)
/-! the head -/
theorem rd_head {D R : sT} {t : Nat} {s : Nat → Int32} {z : Nat} {v : Int32} (hC : tC D t s z) (hR : tR R t s z) :
    (∃ q, q ≤ z ∧ (∀ Q : sT → Prop, (∀ D' a, frC D D' → Q (xcs D' a (nI q))) → wp_X2_readHead 1 (xcs D (nI 0) (-9)) Q) ∧ (∀ Q : Int32 → sT → Prop, (∀ R' v', frR R R' → Q 0 (xrs R' (nI q) v')) → wp_X5_readsHead (xrs R (nI 0) v) Q)) ∨
    (∃ (last due p : Nat) (D' R' : sT) (v' : Int32), last ≤ 20 ∧ due ≤ 60 ∧ p ≤ z ∧ frC D D' ∧ (∀ kd bd sp, dC D' last due 0 kd bd sp) ∧ frR R R' ∧ vI R' 23 = nI last ∧ vI R' 24 = nI due ∧ vI R' 25 = vI R 25 ∧ (∀ Q : sT → Prop, Q (xcs D' (nI p) (-9)) → wp_X2_readHead 1 (xcs D (nI 0) (-9)) Q) ∧ (∀ Q : Int32 → sT → Prop, Q 1 (xrs R' (nI p) v') → wp_X5_readsHead (xrs R (nI 0) v) Q)) := by
  obtain ⟨ht, hz, hT, hs, hx⟩ := id hC
  obtain ⟨p, hp⟩ := sk_ex s z z 0 (by omega)
  have hpz := hp.2.1
  -- C up to the letter
  have cH : ∀ Q : sT → Prop, ((p < z ∧ s p = 110) → wp_X2_readTwoFigures (nI 5) (nI 20) (xcs D (nI (p + 1)) (-9)) (fun r_4 S_4 => wp_X2_readTwoFigures (nI 0) (nI 60) S_4 (fun r_5 S_5 => wp_X1_begin 1 r_4 r_5 S_5 (fun S_6 => Q S_6)))) → (¬ (p < z ∧ s p = 110) → Q (xcs D (nI p) (nI p))) → wp_X2_readHead 1 (xcs D (nI 0) (-9)) Q := by
    intro Q g1 g2
    unfold wp_X2_readHead wb_X2_readHead_29
    refine c_skip hC _ ?_ p 0 (by omega) hp
    rw [cs102, csI D _ _ (by decide) (by decide), csT, csA, hT, hs, nI_leI (by omega) (by omega), nI_clamp (by omega), csu2, csu3, nI_1]
    by_cases c : p < z
    · refine no (by omega) ⟨kRow1 t ht, by rw [lRow1 t ht]; exact vp_in_nI (by omega) (by decide), ?_⟩
      rw [hx p (by omega)]
      exact ⟨fun c2 => g1 ⟨c, c2⟩, fun c2 => g2 (fun c3 => c2 c3.2)⟩
    · exact yes (by omega) (g2 (fun c3 => c c3.1))
  have rH : ∀ Q : Int32 → sT → Prop, ((p < z ∧ s p = 110) → wp_X5_areFigures (nI 5) (nI 20) (xrs R (nI (p + 1)) v) (fun r_3 S_3 => ((¬ r_3 = 0 → wp_X5_areFigures (nI 0) (nI 60) (uI S_3 23 (vI S_3 22)) (fun r_4 S_4 => ((¬ r_4 = 0 → Q (1 : Int32) (uI S_4 24 (vI S_4 22))) ∧ (r_4 = 0 → Q (0 : Int32) S_4)))) ∧ (r_3 = 0 → Q (0 : Int32) S_3)))) → (¬ (p < z ∧ s p = 110) → Q 0 (xrs R (nI p) v)) → wp_X5_readsHead (xrs R (nI 0) v) Q := by
    intro Q g1 g2
    unfold wp_X5_readsHead
    refine r_skip hR _ ?_ p 0 (by omega) hp
    rw [r_here hR hpz, rs19, rsu1, nI_1]
    by_cases c : p < z
    · rw [if_pos c]
      exact ⟨fun c2 => g1 ⟨c, c2⟩, fun c2 => g2 (fun c3 => c2 c3.2)⟩
    · rw [if_neg c]
      exact no (by decide) (g2 (fun c3 => c c3.1))
  by_cases c : p < z ∧ s p = 110
  · cases h1 : two s z (p + 1) 5 20 with
    | inr q =>
      have hq := two_inr (by omega) h1
      refine Or.inl ⟨q, hq, fun Q g => ?_, fun Q g => ?_⟩
      · refine cH Q (fun _ => ?_) (fun c2 => absurd c c2)
        refine c_two hC (by omega) (by decide) (by decide) _ (fun w e => ?_) (fun q' a e => ?_)
        · rw [h1] at e; cases e
        · rw [h1] at e
          have := Sum.inr.inj e
          subst this
          refine c_two0 (n9 (by omega)) _ (c_begin (g _ _ (begD_fr _ _ _)))
      · refine rH Q (fun _ => ?_) (fun c2 => absurd c c2)
        refine r_two hR (by omega) (by decide) (by decide) _ (fun w e => ?_) (fun q' a e => ?_)
        · rw [h1] at e; cases e
        · rw [h1] at e
          have := Sum.inr.inj e
          subst this
          exact yes' rfl (g _ _ (frR_r R))
    | inl last =>
      have hl := two_inl h1
      have hR2 : tR (uI R 23 (nI last)) t s z := ⟨hR.1, hR.2.1, hR.2.2.1, hR.2.2.2.1, hR.2.2.2.2⟩
      have f1 : ∀ x y : Int32, frR R (uI (uI R 23 x) 24 y) := fun x y => ⟨fun _ => rfl, fun k hk => by simp only [ac]; (repeat rw [if_neg (by omega)]), fun _ _ => rfl⟩
      have f0 : ∀ x : Int32, frR R (uI R 23 x) := fun x => ⟨fun _ => rfl, fun k hk => by simp only [ac]; (repeat rw [if_neg (by omega)]), fun _ _ => rfl⟩
      cases h2 : two s z (p + 1 + 2) 0 60 with
      | inr q =>
        have hq := two_inr (by omega) h2
        refine Or.inl ⟨q, hq, fun Q g => ?_, fun Q g => ?_⟩
        · refine cH Q (fun _ => ?_) (fun c2 => absurd c c2)
          refine c_two hC (by omega) (by decide) (by decide) _ (fun w e => ?_) (fun q' a e => ?_)
          · refine c_two hC (by omega) (by decide) (by decide) _ (fun w e => ?_) (fun q' a e => ?_)
            · rw [h2] at e; cases e
            · rw [h2] at e
              have := Sum.inr.inj e
              subst this
              exact c_begin (g _ _ (begD_fr _ _ _))
          · rw [h1] at e; cases e
        · refine rH Q (fun _ => ?_) (fun c2 => absurd c c2)
          refine r_two hR (by omega) (by decide) (by decide) _ (fun w e => ?_) (fun q' a e => ?_)
          · rw [h1] at e
            have := Sum.inl.inj e
            subst this
            refine no' n10 ?_
            rw [rs22, rsuI R _ _ (by decide) (by decide)]
            refine r_two hR2 (by omega) (by decide) (by decide) _ (fun w e => ?_) (fun q' a e => ?_)
            · rw [h2] at e; cases e
            · rw [h2] at e
              have := Sum.inr.inj e
              subst this
              exact yes' rfl (g _ _ (f0 _))
          · rw [h1] at e; cases e
      | inl due =>
        have hd := two_inl h2
        refine Or.inr ⟨last, due, p + 1 + 2 + 2, begD D (nI last) (nI due), uI (uI R 23 (nI last)) 24 (nI due), nI due, by omega, by omega, by omega, begD_fr _ _ _, fun kd bd sp => begD_d D _ _ kd bd sp, f1 _ _, rfl, rfl, rfl, fun Q g => ?_, fun Q g => ?_⟩
        · refine cH Q (fun _ => ?_) (fun c2 => absurd c c2)
          refine c_two hC (by omega) (by decide) (by decide) _ (fun w e => ?_) (fun q' a e => ?_)
          · rw [h1] at e
            have := Sum.inl.inj e
            subst this
            refine c_two hC (by omega) (by decide) (by decide) _ (fun w e => ?_) (fun q' a e => ?_)
            · rw [h2] at e
              have := Sum.inl.inj e
              subst this
              exact c_begin g
            · rw [h2] at e; cases e
          · rw [h1] at e; cases e
        · refine rH Q (fun _ => ?_) (fun c2 => absurd c c2)
          refine r_two hR (by omega) (by decide) (by decide) _ (fun w e => ?_) (fun q' a e => ?_)
          · rw [h1] at e
            have := Sum.inl.inj e
            subst this
            refine no' n10 ?_
            rw [rs22, rsuI R _ _ (by decide) (by decide)]
            refine r_two hR2 (by omega) (by decide) (by decide) _ (fun w e => ?_) (fun q' a e => ?_)
            · rw [h2] at e
              have := Sum.inl.inj e
              subst this
              refine no' n10 ?_
              rw [rs22, rsuI _ _ _ (by decide) (by decide)]
              exact g
            · rw [h2] at e; cases e
          · rw [h1] at e; cases e
  · exact Or.inl ⟨p, hpz, fun Q g => cH Q (fun c2 => absurd c2 c) (fun _ => g _ _ (frC_r D)), fun Q g => rH Q (fun c2 => absurd c2 c) (fun _ => g _ _ (frR_r R))⟩
