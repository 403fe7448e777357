/-! one sleeper -/
theorem rd_one {D R : sT} {t : Nat} {s : Nat → Int32} {z p m last due : Nat} {kd bd sp : Nat → Nat} {v : Int32} (hC : tC D t s z) (hR : tR R t s z) (hp : p < z) (hm : m ≤ 6) (hl : last ≤ 20) (d1 : dC D last due m kd bd sp) (d2 : dR R last due m kd bd sp) :
    (∃ q, q ≤ z ∧ (∀ Q : sT → Prop, (∀ D' a, frC D D' → Q (xcs D' a (nI q))) → wp_X2_readSleeper 1 (xcs D (nI p) (-9)) Q) ∧ (∀ Q : Int32 → sT → Prop, (∀ R' v', frR R R' → Q 0 (xrs R' (nI q) v')) → wp_X5_readsSleeper (xrs R (nI p) v) Q)) ∨
    (m < 6 ∧ ∃ (k b u p' : Nat) (D' R' : sT) (v' : Int32), k ≤ 5 ∧ b ≤ last ∧ u ≤ 9 ∧ p' ≤ z ∧ frC D D' ∧ dC D' last due (m + 1) (ext kd m k) (ext bd m b) (ext sp m u) ∧ frR R R' ∧ dR R' last due (m + 1) (ext kd m k) (ext bd m b) (ext sp m u) ∧ (∀ Q : sT → Prop, Q (xcs D' (nI p') (-9)) → wp_X2_readSleeper 1 (xcs D (nI p) (-9)) Q) ∧ (∀ Q : Int32 → sT → Prop, Q 1 (xrs R' (nI p') v') → wp_X5_readsSleeper (xrs R (nI p) v) Q)) := by
  obtain ⟨ht, hz, hT, hs, hx⟩ := id hC
  obtain ⟨⟨a1, a2, a3, a4, a5, a6, a7⟩, as⟩ := id d1
  obtain ⟨⟨b1, b2, b3⟩, bs⟩ := id d2
  have hcl : (nI m).toNatClampNeg = m := nI_clamp (by omega)
  have cH : ∀ Q : sT → Prop, (¬ kb (s p) = -9 → m < 6 → wp_X2_readTwoFigures (nI 0) (nI last) (xcs D (nI (p + 1)) (-9)) (fun r_4 S_4 => wp_X2_readFigure S_4 (fun r_5 S_5 => wp_X1_addSleeper 1 (kb (s p)) r_4 r_5 S_5 (fun S_6 => Q S_6)))) → (kb (s p) = -9 ∨ ¬ m < 6 → Q (xcs D (nI p) (nI p))) → wp_X2_readSleeper 1 (xcs D (nI p) (-9)) Q := by
    intro Q g1 g2
    unfold wp_X2_readSleeper wb_X2_readSleeper_28
    rw [csT, csA, cs102, hT, nI_clamp (by omega), hx p (by omega)]
    refine ⟨kRow1 t ht, by rw [lRow1 t ht]; exact vp_in_nI (by omega) (by decide), c_kind ?_⟩
    simp only [Nat.reduceMul, Nat.reduceAdd]
    rw [cs102, csu2, csu3, nI_1, csI D _ _ (by decide) (by decide), csI D _ _ (by decide) (by decide), a1, a2]
    refine ⟨fun c => g2 (Or.inl c), fun c => ⟨fun c2 => g1 c ((nI_ltI (b := 6) (by omega) (by decide)).mp c2), fun c2 => g2 (Or.inr (fun c3 => c2 (nI_lt c3 (by decide))))⟩⟩
  have rH : ∀ Q : Int32 → sT → Prop, (¬ kb (s p) = -9 → m < 6 → wp_X5_areFigures (nI 0) (nI last) (xrs R (nI (p + 1)) v) (fun r_3 S_3 => ((¬ r_3 = 0 → (vp_in (vI S_3 25) 6) ∧ (vp_in (vI (uA S_3 26 (upd (vA S_3 26) (vI S_3 25).toNatClampNeg (kb (s p)))) 25) 6) ∧ ∀ S_6 : sT, S_6 = uA (uA S_3 26 (upd (vA S_3 26) (vI S_3 25).toNatClampNeg (kb (s p)))) 27 (upd (vA (uA S_3 26 (upd (vA S_3 26) (vI S_3 25).toNatClampNeg (kb (s p)))) 27) (vI (uA S_3 26 (upd (vA S_3 26) (vI S_3 25).toNatClampNeg (kb (s p)))) 25).toNatClampNeg (vI (uA S_3 26 (upd (vA S_3 26) (vI S_3 25).toNatClampNeg (kb (s p)))) 22)) → wp_X5_isFigure S_6 (fun r_7 S_7 => ((¬ r_7 = 0 → (vp_in (vI S_7 25) 6) ∧ ∀ S_9 : sT, S_9 = uI (uA S_7 28 (upd (vA S_7 28) (vI S_7 25).toNatClampNeg (vI S_7 22))) 25 ((vI (uA S_7 28 (upd (vA S_7 28) (vI S_7 25).toNatClampNeg (vI S_7 22))) 25) + (1 : Int32)) → Q (1 : Int32) S_9) ∧ (r_7 = 0 → Q (0 : Int32) S_7)))) ∧ (r_3 = 0 → Q (0 : Int32) S_3)))) → (kb (s p) = -9 ∨ ¬ m < 6 → Q 0 (xrs R (nI p) v)) → wp_X5_readsSleeper (xrs R (nI p) v) Q := by
    intro Q g1 g2
    unfold wp_X5_readsSleeper
    rw [r_here hR (by omega), if_pos hp]
    refine r_kind ?_
    rw [rs19, rsu1, nI_1, rsI R _ _ (by decide) (by decide), rsI R _ _ (by decide) (by decide), b1, b3]
    refine ⟨fun c => g2 (Or.inl c), fun c => ⟨fun c2 => g1 c ?_, fun c2 => g2 (Or.inr (fun c3 => ?_))⟩⟩
    · have : ¬ m = 6 := fun e => c2 (by rw [e]; rfl)
      omega
    · have := (nI_eq (b := 6) (by omega) (by decide)).mp c2
      omega
  by_cases c : kb (s p) = -9 ∨ ¬ m < 6
  · exact Or.inl ⟨p, by omega, fun Q g => cH Q (fun e1 e2 => absurd c (by simp [e1, e2])) (fun _ => g _ _ (frC_r D)), fun Q g => rH Q (fun e1 e2 => absurd c (by simp [e1, e2])) (fun _ => g _ _ (frR_r R))⟩
  have ck : ¬ kb (s p) = -9 := fun e => c (Or.inl e)
  have cm : m < 6 := Classical.byContradiction (fun e => c (Or.inr e))
  obtain ⟨k, hk, ek⟩ := (kb_ok (s p)).resolve_left ck
  have hin : vp_in (nI m) 6 := vp_in_nI cm (by decide)
  cases h1 : two s z (p + 1) 0 last with
  | inr q =>
    have hq := two_inr (by omega) h1
    refine Or.inl ⟨q, hq, fun Q g => ?_, fun Q g => ?_⟩
    · refine cH Q (fun _ _ => ?_) (fun c2 => absurd c2 c)
      refine c_two hC (by omega) (by decide) (by omega) _ (fun w e => ?_) (fun q' a e => ?_)
      · rw [h1] at e; cases e
      · rw [h1] at e
        have := Sum.inr.inj e
        subst this
        exact c_fig0 (n9 (by omega)) _ (c_add cm a1 (g _ _ (addD_fr _ _ _ _ _)))
    · refine rH Q (fun _ _ => ?_) (fun c2 => absurd c2 c)
      refine r_two hR (by omega) (by decide) (by omega) _ (fun w e => ?_) (fun q' a e => ?_)
      · rw [h1] at e; cases e
      · rw [h1] at e
        have := Sum.inr.inj e
        subst this
        exact yes' rfl (g _ _ (frR_r R))
  | inl b =>
    have hb := two_inl h1
    -- the reference, behind both figures
    have rG : ∀ Q : Int32 → sT → Prop, (wp_X5_isFigure (xrs (uA (uA R 26 (upd (vA R 26) m (nI k))) 27 (upd (vA R 27) m (nI b))) (nI (p + 1 + 2)) (nI b)) (fun r_7 S_7 => ((¬ r_7 = 0 → (vp_in (vI S_7 25) 6) ∧ ∀ S_9 : sT, S_9 = uI (uA S_7 28 (upd (vA S_7 28) (vI S_7 25).toNatClampNeg (vI S_7 22))) 25 ((vI (uA S_7 28 (upd (vA S_7 28) (vI S_7 25).toNatClampNeg (vI S_7 22))) 25) + (1 : Int32)) → Q (1 : Int32) S_9) ∧ (r_7 = 0 → Q (0 : Int32) S_7)))) → wp_X5_readsSleeper (xrs R (nI p) v) Q := by
      intro Q g
      refine rH Q (fun _ _ => ?_) (fun c2 => absurd c2 c)
      refine r_two hR (by omega) (by decide) (by omega) _ (fun w e => ?_) (fun q' a e => ?_)
      · rw [h1] at e
        have := Sum.inl.inj e
        subst this
        refine no' n10 ?_
        have u1 : ∀ (E : sT) (j : Nat) (h : Nat → Int32), vI (uA E j h) 25 = vI E 25 := fun _ _ _ => rfl
        have u2 : ∀ (E : sT) (j : Nat) (h : Nat → Int32), vI (uA E j h) 22 = vI E 22 := fun _ _ _ => rfl
        rw [u1, u2, rs22, rsI R _ _ (by decide) (by decide), b3, hcl, ek]
        refine ⟨hin, hin, fun S6 e6 => ?_⟩
        rw [e6]
        exact g
      · rw [h1] at e; cases e
    have frG : ∀ f1 f2 : Nat → Int32, frR R (uA (uA R 26 f1) 27 f2) := fun f1 f2 => ⟨fun _ => rfl, fun _ _ => rfl, fun k hk => by simp only [ac]; (repeat rw [if_neg (by omega)])⟩
    have hR2 := tR_fr hR (frG (upd (vA R 26) m (nI k)) (upd (vA R 27) m (nI b)))
    cases h2 : fg s z (p + 1 + 2) with
    | none =>
      refine Or.inl ⟨p + 1 + 2, by omega, fun Q g => ?_, fun Q g => ?_⟩
      · refine cH Q (fun _ _ => ?_) (fun c2 => absurd c2 c)
        refine c_two hC (by omega) (by decide) (by omega) _ (fun w e => ?_) (fun q' a e => ?_)
        · refine c_fig hC (by omega) _ (fun w e => ?_) (fun _ => c_add cm a1 (g _ _ (addD_fr _ _ _ _ _)))
          rw [h2] at e; cases e
        · rw [h1] at e; cases e
      · refine rG Q (r_fig hR2 (by omega) _ (fun w e => ?_) (fun _ => yes' rfl (g _ _ (frG _ _))))
        rw [h2] at e; cases e
    | some u =>
      have hu := fg_some h2
      refine Or.inr ⟨cm, k, b, u, p + 1 + 2 + 1, addD D m (nI k) (nI b) (nI u), uI (uA (uA (uA R 26 (upd (vA R 26) m (nI k))) 27 (upd (vA R 27) m (nI b))) 28 (upd (vA R 28) m (nI u))) 25 (nI (m + 1)), nI u, hk, hb.2.2, by omega, by omega, addD_fr _ _ _ _ _, addD_d cm d1 k b u, ⟨fun _ => rfl, fun j hj => ?_, fun j hj => ?_⟩, ⟨⟨b1, b2, rfl⟩, fun i hi => ?_⟩, fun Q g => ?_, fun Q g => ?_⟩
      · simp only [ac]; (repeat rw [if_neg (by omega)])
      · simp only [ac]; (repeat rw [if_neg (by omega)])
      · simp only [ac, up, ext, Nat.reduceEqDiff, if_true, if_false]
        by_cases e : i = m
        · simp [e]
        · simp only [if_neg e]
          exact bs i (by omega)
      · refine cH Q (fun _ _ => ?_) (fun c2 => absurd c2 c)
        refine c_two hC (by omega) (by decide) (by omega) _ (fun w e => ?_) (fun q' a e => ?_)
        · rw [h1] at e
          have := Sum.inl.inj e
          subst this
          refine c_fig hC (by omega) _ (fun w e => ?_) (fun e => ?_)
          · rw [h2] at e
            have := Option.some.inj e
            subst this
            rw [ek]
            exact c_add cm a1 g
          · rw [h2] at e; cases e
        · rw [h1] at e; cases e
      · refine rG Q (r_fig hR2 (by omega) _ (fun w e => ?_) (fun e => ?_))
        · rw [h2] at e
          have := Option.some.inj e
          subst this
          refine no' n10 ?_
          have u1 : ∀ (E : sT) (j : Nat) (h : Nat → Int32), vI (uA E j h) 25 = vI E 25 := fun _ _ _ => rfl
          rw [u1, rs22, rsI _ _ _ (by decide) (by decide), u1, u1, b3, hcl, nI_1]
          refine ⟨hin, fun S9 e9 => ?_⟩
          subst e9
          rw [rsA, rsuA, rsuI _ _ _ (by decide) (by decide)]
          exact g
        · rw [h2] at e; cases e
/-! C's loop, where the text is at its end -/
theorem rd_done (k2 : Nat) {D : sT} {t : Nat} {s : Nat → Int32} {z : Nat} (h : tC D t s z) (Q : Int32 → sT → Prop) (hQ : Q (-9) (xcs D (nI z) (-9))) : ∀ k i, i + k = 7 → 0 < i → ∃ n, wl_X2_readInto_34 1 k2 Q n (nI i) (xcs D (nI z) (-9)) := by
  intro k
  induction k with
  | zero =>
    intro i hi h0
    refine ⟨1, ?_⟩
    show wb_X2_readInto_34 1 k2 Q _ (nI i) _
    unfold wb_X2_readInto_34 wb_X2_readInto_92
    rw [cs103]
    exact yes (nI_lt (show 6 < i by omega) (by omega)) hQ
  | succ k ih =>
    intro i hi h0
    obtain ⟨n, hn⟩ := ih (i + 1) (by omega) (by omega)
    refine ⟨n + 1, ?_⟩
    show wb_X2_readInto_34 1 k2 Q _ (nI i) _
    unfold wb_X2_readInto_34 wb_X2_readInto_92 wb_X2_readInto_86
    rw [cs103]
    refine no (nI_nlt (show i ≤ 6 by omega) (by decide)) (yes' rfl (c_skip h _ ?_ 0 z rfl ⟨Nat.le_refl _, Nat.le_refl _, fun i h1 h2 => absurd h1 (by omega), fun e => absurd e (by omega)⟩))
    rw [cs102, csI D _ _ (by decide) (by decide), h.2.2.2.1, nI_1]
    exact yes (nI_le (Nat.le_refl _) (by have := h.2.1; omega)) (no' (nI_ne0 h0 (by omega)) hn)
/-- where a fault is told already -/
theorem rd_flaw (k2 : Nat) {D : sT} {a : Int32} {q : Nat} (hq : q ≤ 60) (Q : Int32 → sT → Prop) (hQ : Q (nI q) (xcs D a (nI q))) (i n : Nat) : wl_X2_readInto_34 1 k2 Q (n + 1) (nI i) (xcs D a (nI q)) := by
  show wb_X2_readInto_34 1 k2 Q _ (nI i) _
  unfold wb_X2_readInto_34 wb_X2_readInto_92
  rw [cs103]
  exact ⟨fun _ => hQ, fun _ => no' (n9 hq) hQ⟩
/-- what the two loops come to, from m sleepers on -/
def rdP (k2 last due m p p' : Nat) (D R : sT) (v : Int32) : Prop :=
  ∃ (r : Int32) (m' : Nat) (kd' bd' sp' : Nat → Nat), (r = -9 → 0 < m' ∧ m' ≤ 6 ∧ ∀ i, i < m' → kd' i ≤ 5 ∧ bd' i ≤ last ∧ sp' i ≤ 9) ∧
    (∀ Q : Int32 → sT → Prop, (∀ D' a, frC D D' → (r = -9 → dC D' last due m' kd' bd' sp') → Q r (xcs D' a r)) → ∃ n, wl_X2_readInto_34 1 k2 Q n (nI m) (xcs D (nI p) (-9))) ∧
    (∀ Q : Int32 → sT → Prop, (∀ R' a v', frR R R' → (r = -9 → dR R' last due m' kd' bd' sp') → Q r (xrs R' a v')) → ∃ n, wl_X5_reads_38 Q n 1 (xrs R (nI p') v))
theorem rd_step (k2 : Nat) {t : Nat} {s : Nat → Int32} {z last due m p p' : Nat} {D R : sT} {v : Int32} {kd bd sp : Nat → Nat} (hl : last ≤ 20) (hm : m ≤ 6) (hC : tC D t s z) (hR : tR R t s z) (d1 : dC D last due m kd bd sp) (d2 : dR R last due m kd bd sp) (hb : ∀ i, i < m → kd i ≤ 5 ∧ bd i ≤ last ∧ sp i ≤ 9) (hp : skR s z p p')
    (ih : m < 6 → ∀ (p p' : Nat) (D R : sT) (v : Int32) (kd bd sp : Nat → Nat), tC D t s z → tR R t s z → dC D last due (m + 1) kd bd sp → dR R last due (m + 1) kd bd sp → (∀ i, i < m + 1 → kd i ≤ 5 ∧ bd i ≤ last ∧ sp i ≤ 9) → skR s z p p' → rdP k2 last due (m + 1) p p' D R v) : rdP k2 last due m p p' D R v := by
  obtain ⟨ht, hz, hT, hs, hx⟩ := id hC
  have hpz := hp.2.1
  have b3 := d2.1.2.2
  -- C up to the blanks' end
  have cH : ∀ (Q : Int32 → sT → Prop) (K : Int32 → sT → Prop), (z ≤ p' → m = 0 → K (nI (m + 1)) (xcs D (nI p') (nI z))) → (z ≤ p' → ¬ m = 0 → K (nI (m + 1)) (xcs D (nI p') (-9))) → (p' < z → wp_X2_readSleeper 1 (xcs D (nI p') (-9)) (fun S => K (nI (m + 1)) S)) → wb_X2_readInto_34 1 k2 Q K (nI m) (xcs D (nI p) (-9)) := by
    intro Q K g1 g2 g3
    unfold wb_X2_readInto_34 wb_X2_readInto_92 wb_X2_readInto_86
    rw [cs103]
    refine no (nI_nlt (show m ≤ 6 from hm) (by decide)) (yes' rfl (c_skip hC _ ?_ (p' - p) p (by have := hp.1; omega) hp))
    rw [cs102, csI D _ _ (by decide) (by decide), hs, nI_1, csu3, nI_leI (by omega) (by omega)]
    refine ⟨fun c => ⟨fun c2 => g2 c (fun e => c2 (by rw [e]; rfl)), fun c2 => g1 c ((nI_eq (b := 0) (by omega) (by decide)).mp c2)⟩, fun c => g3 (by omega)⟩
  have rH : ∀ (Q : Int32 → sT → Prop) (K : Int32 → sT → Prop), (z ≤ p' → m = 0 → Q (nI p') (xrs R (nI p') v)) → (z ≤ p' → ¬ m = 0 → Q (-9) (xrs R (nI p') v)) → (p' < z → wp_X5_readsSleeper (xrs R (nI p') v) (fun r_1 S_1 => ((r_1 = 0 → K r_1 S_1) ∧ (¬ r_1 = 0 → wp_X5_skips S_1 (fun S_2 => K r_1 S_2))))) → wb_X5_reads_38 Q K 1 (xrs R (nI p') v) := by
    intro Q K g1 g2 g3
    unfold wb_X5_reads_38 wb_X5_reads_69 wb_X5_reads_85
    rw [rs19, rsI R _ _ (by decide) (by decide), rsI R _ _ (by decide) (by decide), hR.2.2.1, b3, nI_leI (by omega) (by omega)]
    refine ⟨fun c => no n10 ⟨fun c2 => g1 c ?_, fun c2 => g2 c (fun e => c2 (by rw [e]; decide))⟩, fun c => no n10 (g3 (by omega))⟩
    have := (nI_leI (a := m) (b := 0) (by omega) (by decide)).mp c2
    omega
  by_cases c : p' < z
  · rcases rd_one (v := v) hC hR c hm hl d1 d2 with ⟨q, hq, g1, g2⟩ | ⟨hm6, k, b, u, p1, D', R', v', hk, hbl, hu, hp1, f1, e1, f2, e2, g1, g2⟩
    · refine ⟨nI q, 0, kd, bd, sp, fun e => absurd e (n9 (by omega)), fun Q hQ => ⟨2, ?_⟩, fun Q hQ => ⟨2, ?_⟩⟩
      · refine cH Q _ (fun c2 => absurd c2 (by omega)) (fun c2 => absurd c2 (by omega)) (fun _ => g1 _ (fun D' a hf => ?_))
        exact rd_flaw k2 (by omega) Q (hQ D' a hf (fun e => absurd e (n9 (by omega)))) (m + 1) 0
      · refine rH Q _ (fun c2 => absurd c2 (by omega)) (fun c2 => absurd c2 (by omega)) (fun _ => g2 _ (fun R' v' hf => yes rfl ?_))
        show wb_X5_reads_38 Q _ 0 _
        unfold wb_X5_reads_38 wb_X5_reads_69 wb_X5_reads_85
        rw [rs19]
        have hq9 := hQ R' (nI q) v' hf (fun e => absurd e (n9 (by omega)))
        exact ⟨fun _ => yes rfl hq9, fun _ => yes rfl (yes rfl hq9)⟩
    · obtain ⟨p2, hp2⟩ := sk_ex s z (z - p1) p1 (by omega)
      have hb' : ∀ i, i < m + 1 → ext kd m k i ≤ 5 ∧ ext bd m b i ≤ last ∧ ext sp m u i ≤ 9 := by
        intro i hi
        unfold ext
        by_cases e : i = m
        · simp only [if_pos e]
          exact ⟨hk, hbl, hu⟩
        · simp only [if_neg e]
          exact hb i (by omega)
      obtain ⟨r, m', kd', bd', sp', i1, i2, i3⟩ := ih hm6 p1 p2 D' R' v' _ _ _ (tC_fr hC f1) (tR_fr hR f2) e1 e2 hb' hp2
      refine ⟨r, m', kd', bd', sp', i1, fun Q hQ => ?_, fun Q hQ => ?_⟩
      · obtain ⟨n, hn⟩ := i2 Q (fun D2 a hf => hQ D2 a (frC_t f1 hf))
        exact ⟨n + 1, cH Q _ (fun c2 => absurd c2 (by omega)) (fun c2 => absurd c2 (by omega)) (fun _ => g1 _ hn)⟩
      · obtain ⟨n, hn⟩ := i3 Q (fun R2 a w hf => hQ R2 a w (frR_t f2 hf))
        exact ⟨n + 1, rH Q _ (fun c2 => absurd c2 (by omega)) (fun c2 => absurd c2 (by omega)) (fun _ => g2 _ (no n10 (r_skip (tR_fr hR f2) _ hn (p2 - p1) p1 (by have := hp2.1; omega) hp2)))⟩
  · by_cases c0 : m = 0
    · refine ⟨nI z, 0, kd, bd, sp, fun e => absurd e (n9 (by omega)), fun Q hQ => ⟨2, ?_⟩, fun Q hQ => ⟨1, ?_⟩⟩
      · exact cH Q _ (fun _ _ => rd_flaw k2 (by omega) Q (hQ D _ (frC_r D) (fun e => absurd e (n9 (by omega)))) (m + 1) 0) (fun _ e => absurd c0 e) (fun e => absurd e c)
      · exact rH Q _ (fun _ _ => by rw [show p' = z by omega]; exact hQ R _ v (frR_r R) (fun e => absurd e (n9 (by omega)))) (fun _ e => absurd c0 e) (fun e => absurd e c)
    · refine ⟨-9, m, kd, bd, sp, fun _ => ⟨by omega, hm, hb⟩, fun Q hQ => ?_, fun Q hQ => ⟨1, ?_⟩⟩
      · have ep : p' = z := by omega
        subst ep
        obtain ⟨n, hn⟩ := rd_done k2 hC Q (hQ D _ (frC_r D) (fun _ => d1)) (6 - m) (m + 1) (by omega) (by omega)
        exact ⟨n + 1, cH Q _ (fun _ e => absurd e c0) (fun _ _ => hn) (fun e => absurd e c)⟩
      · exact rH Q _ (fun _ e => absurd e c0) (fun _ _ => hQ R _ v (frR_r R) (fun _ => d2)) (fun e => absurd e c)
theorem rd_loop (k2 : Nat) {t : Nat} {s : Nat → Int32} {z last due : Nat} (hl : last ≤ 20) : ∀ (k m p p' : Nat) (D R : sT) (v : Int32) (kd bd sp : Nat → Nat), m + k = 6 → tC D t s z → tR R t s z → dC D last due m kd bd sp → dR R last due m kd bd sp → (∀ i, i < m → kd i ≤ 5 ∧ bd i ≤ last ∧ sp i ≤ 9) → skR s z p p' → rdP k2 last due m p p' D R v := by
  intro k
  induction k with
  | zero =>
    intro m p p' D R v kd bd sp hm hC hR d1 d2 hb hp
    exact rd_step k2 hl (by omega) hC hR d1 d2 hb hp (fun h6 => absurd h6 (by omega))
  | succ k ih =>
    intro m p p' D R v kd bd sp hm hC hR d1 d2 hb hp
    exact rd_step k2 hl (by omega) hC hR d1 d2 hb hp (fun h6 p1 p2 D R v kd bd sp => ih (m + 1) p1 p2 D R v kd bd sp (by omega))
