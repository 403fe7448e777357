def offA (R R' : sT) : Prop := (∀ k, ¬ (k = 15 ∨ (29 ≤ k ∧ k ≤ 31)) → vA R' k = vA R k) ∧ (∀ k, vI R' k = vI R k) ∧ ∀ k, vL R' k = vL R k
def offK (C C' : sT) : Prop := (∀ k, ¬ (110 ≤ k ∧ k < 117) → ¬ (320 ≤ k ∧ k < 350) → vI C' k = vI C k ∧ vA C' k = vA C k) ∧ ∀ k, vL C' k = vL C k
theorem offK_of {C C' : sT} (h : offJ C C') : offK C C' := ⟨fun k h1 _ => ⟨(h.1 k h1).1, (h.1 k h1).2.1⟩, h.2⟩
theorem offK_trans {A B C : sT} (h1 : offK A B) (h2 : offK B C) : offK A C := ⟨fun k a b => ⟨((h2.1 k a b).1).trans (h1.1 k a b).1, ((h2.1 k a b).2).trans (h1.1 k a b).2⟩, fun k => (h2.2 k).trans (h1.2 k)⟩
theorem offA_refl (R : sT) : offA R R := ⟨fun _ _ => rfl, fun _ => rfl, fun _ => rfl⟩
theorem offA_uA {R S : sT} (h : offA R S) (k : Nat) (hk : k = 15 ∨ (29 ≤ k ∧ k ≤ 31)) (F : Nat → Int32) : offA R (uA S k F) := ⟨fun m hm => by simp only [ac]; rw [if_neg (by omega)]; exact h.1 m hm, h.2.1, h.2.2⟩
theorem inv_K {C C' R R' : sT} (h : Inv C R) (oC : offK C C') (oR : offA R R') : Inv C' R' := by
  obtain ⟨h1, h2, h3, h4⟩ := h
  obtain ⟨o1, o2⟩ := oC
  obtain ⟨p1, p2, p3⟩ := oR
  exact ⟨relM_of h1 (o1 13 (by omega) (by omega)).1 (o2 14) (o2 15) (o1 16 (by omega) (by omega)).1 (o1 12 (by omega) (by omega)).2 (p2 4) (p3 5) (p3 6) (p2 7) (p1 8 (by omega)), relR_of h2 (o1 200 (by omega) (by omega)).2 (fun r hr => (o1 (300 + r) (by omega) (by omega)).2) (p1 1 (by omega)) (p1 0 (by omega)), relT_of h3 (o1 201 (by omega) (by omega)).2 (fun r hr => (o1 (310 + r) (by omega) (by omega)).2) (p1 3 (by omega)) (p1 2 (by omega)), relN_of h4 (o1 5 (by omega) (by omega)).2 (fun k hk => o1 k (by omega) (by omega)) (p2 9) (p2 10) (p2 11) (p2 17) (p1 12 (by omega)) (p1 13 (by omega)) (p1 14 (by omega)) (p1 16 (by omega)) (p1 18 (by omega))⟩
theorem q_layAside {R : sT} {n last : Nat} {kd bd V : Nat → Nat} (hR : onR R 14 n last kd bd V) (hn : n ≤ 6) (Q : sT → Prop) (h : ∀ F, onR (uA R 15 F) 15 n last kd bd V → Q (uA R 15 F)) : wp_X5_layAside R Q := by
  unfold wp_X5_layAside
  refine q_copies 14 15 0 0 9 (by decide) (by decide) (by decide) (by decide) (by decide) R _ (fun F f1 f2 => h F ⟨hR.1, hR.2.1, hR.2.2.1, fun i hi => ?_⟩)
  have := f1 i (by omega)
  rw [Nat.zero_add] at this
  rw [vA_uA, this]
  exact hR.2.2.2 i hi
theorem onR_go {S : sT} {n last : Nat} {kd bd V W : Nat → Nat} (hR : onR S 15 n last kd bd V) {F : Nat → Int32} (hF : ∀ i, i < 3 + n → F i = nI (W i)) : onR (uA S 15 F) 15 n last kd bd W :=
  ⟨hR.1, hR.2.1, hR.2.2.1, fun i hi => by rw [vA_uA]; exact hF i hi⟩
theorem wl_pb_s (Q : Int32 → sT → Prop) (f : Nat) (x1 x2 : Int32) (S : sT) : wl_X5_placeBehind_2 Q (f + 1) x1 x2 S = wb_X5_placeBehind_2 Q (fun x1 x2 S => wl_X5_placeBehind_2 Q f x1 x2 S) x1 x2 S := rfl
theorem q_placeBehind {S : sT} {n last : Nat} {kd bd V : Nat → Nat} (hR : onR S 15 n last kd bd V) (hW : okW n kd bd V) (hl : V 1 ≤ last) (hl20 : last ≤ 20) (h0 : V 0 ≤ 800) {m : Nat} (hm : m ≤ 100) (Q : Int32 → sT → Prop) (h : ∀ F, onR (uA S 15 F) 15 n last kd bd (it n last kd bd V m) → Q (nI (it n last kd bd V m 1)) (uA S 15 F)) : wp_X5_placeBehind (nI m) S Q := by
  unfold wp_X5_placeBehind
  have hn := hW.1
  have main := pk_loop (fun f i (F : Nat → Int32) => wl_X5_placeBehind_2 Q f (nI m) (nI i) (uA S 15 F)) (fun i F => onR (uA S 15 F) 15 n last kd bd (it n last kd bd V i)) m 0 (vA S 15) (Nat.zero_le _) (by rw [uA_id]; exact hR) ?_ ?_
  · obtain ⟨f, hf⟩ := main
    rw [uA_id] at hf
    exact ⟨f, hf⟩
  · intro f F hF
    show wl_X5_placeBehind_2 Q (f + 1) (nI m) (nI m) (uA S 15 F)
    rw [wl_pb_s]
    unfold wb_X5_placeBehind_2
    refine yes (nI_le (Nat.le_refl _) (by omega)) ⟨vp_in_nI (n := 1) (by decide) (by decide), ?_⟩
    rw [show (1 : Int32).toNatClampNeg = 1 from rfl, hF.2.2.2 1 (by omega)]
    exact h F hF
  · intro f i F hi hF ih
    show wl_X5_placeBehind_2 Q (f + 1) (nI m) (nI i) (uA S 15 F)
    rw [wl_pb_s]
    unfold wb_X5_placeBehind_2
    obtain ⟨hWi, hli⟩ := it_ok hW hl hl20 h0 i (by omega)
    refine no (nI_ge hi (by omega)) (q_goes rfl hF hWi hl20 _ (fun G hG => ?_))
    rw [uA_uA]
    have h9 := ih G (by
      have := onR_go hF hG
      rw [uA_uA] at this
      exact this)
    rw [← nI_1] at h9
    exact h9
/-! train -/
def sc (n last : Nat) (kd bd V : Nat → Nat) : Nat → Nat
  | 0 => 0
  | m + 1 => if std n last kd bd (it n last kd bd V m) = true then sc n last kd bd V m + 1 else sc n last kd bd V m
theorem sc_it (n last : Nat) (kd bd V : Nat → Nat) : ∀ m, it n last kd bd V m 1 + sc n last kd bd V m = V 1 + m
  | 0 => rfl
  | m + 1 => by
    have h := sc_it n last kd bd V m
    show (if std n last kd bd (it n last kd bd V m) = true then it n last kd bd V m 1 else it n last kd bd V m 1 + 1) + (if std n last kd bd (it n last kd bd V m) = true then sc n last kd bd V m + 1 else sc n last kd bd V m) = _
    split <;> omega
theorem sc_le (n last : Nat) (kd bd V : Nat → Nat) : ∀ m, sc n last kd bd V m ≤ m
  | 0 => Nat.le_refl 0
  | m + 1 => by
    have h := sc_le n last kd bd V m
    show (if std n last kd bd (it n last kd bd V m) = true then sc n last kd bd V m + 1 else sc n last kd bd V m) ≤ _
    split <;> omega
theorem wl_trainR_s (Q : Int32 → sT → Prop) (f : Nat) (x1 x2 x3 : Int32) (S : sT) : wl_X5_train_32 Q (f + 1) x1 x2 x3 S = wb_X5_train_32 Q (fun x1 x2 x3 S => wl_X5_train_32 Q f x1 x2 x3 S) x1 x2 x3 S := rfl
theorem line_J {C C' : sT} {n last : Nat} {kd bd V : Nat → Nat} (h : lineC C n last kd bd V) (o : offJ C C') : lineC C' n last kd bd V := by
  obtain ⟨l1, l2, l3, l4, l5, l6⟩ := h
  refine ⟨((o.1 26 (by omega)).1).trans l1, ((o.1 27 (by omega)).1).trans l2, ((o.1 29 (by omega)).1).trans l3, ((o.1 30 (by omega)).1).trans l4, ((o.1 31 (by omega)).1).trans l5, fun i hi => ?_⟩
  rw [(o.1 20 (by omega)).2.1, (o.1 21 (by omega)).2.1, (o.1 22 (by omega)).2.1]
  exact l6 i hi
theorem st_train_ok : st_train Inv := by
  intro x1 C R hI
  obtain ⟨n, last, due, kd, bd, d, V, hN⟩ := IN_of hI
  obtain ⟨hL, hW, hl, hl20, h99, hV, hn, hd, hdue, c28, c32, hR, r11, r17⟩ := IN_line hN
  have en : nI n = 0 ↔ n = 0 := nI_eq (b := 0) (by omega) (by decide)
  have i61 : (0 ≤ x1 ∧ x1 ≤ 60) ↔ (0 ≤ x1 ∧ x1 < 61) := by grind
  unfold wp_X4_train
  rw [q_isBelow]
  by_cases c : 0 ≤ x1 ∧ x1 < 61
  · rw [if_pos c]
    have gR : ∀ Q : Int32 → sT → Prop, ((¬ n = 0 → wp_X5_layAside R (fun S_2 => ∃ n : Nat, wl_X5_train_32 Q n x1 (0 : Int32) (0 : Int32) S_2)) ∧ (n = 0 → Q (-4 : Int32) R)) → wp_X5_train x1 R Q := by
      intro Q hQ
      unfold wp_X5_train
      rw [q_in _ 0 60 0 60 (by decide) (by decide), if_pos (i61.mpr c), hR.1, en]
      exact no' n10 hQ
    obtain ⟨m, hm, rfl⟩ := ixY (n := 61) (by decide) c
    rw [show vI C 26 = nI n from hL.1, en]
    refine no' n10 ⟨fun e0 => q_setOut hL hW _ (fun S1 o1 j1 => ?_), fun e0 => gR _ (yes' e0 ⟨rfl, hI⟩)⟩
    rw [show vI S1 29 = nI (V 2) from (line_J hL o1).2.2.1]
    refine q_ride j1 hW hl hl20 (by omega) (by omega) _ (fun S2 o2 j2 _ _ ht => gR _ (no' e0 (q_layAside hR hn _ (fun F0 hF0 => ?_))))
    have o12 := offJ_trans o1 o2
    have main := pk_loop (fun f i (F : Nat → Int32) => wl_X5_train_32 (fun r2 SR1 => nI (it n last kd bd V m 1) = r2 ∧ Inv (uI S2 13 (nI m - (nI (it n last kd bd V m 1) - vI S2 31))) SR1) f (nI m) (nI (sc n last kd bd V i)) (nI i) (uA R 15 F)) (fun i F => onR (uA R 15 F) 15 n last kd bd (it n last kd bd V i)) m 0 F0 (Nat.zero_le _) hF0 ?_ ?_
    · exact main
    · intro f F hF
      show wl_X5_train_32 _ (f + 1) (nI m) (nI (sc n last kd bd V m)) (nI m) (uA R 15 F)
      rw [wl_trainR_s]
      unfold wb_X5_train_32 wp_X5_answer
      refine yes (nI_le (Nat.le_refl _) (by omega)) ⟨vp_in_nI (n := 1) (by decide) (by decide), ?_, ?_⟩
      · rw [show (1 : Int32).toNatClampNeg = 1 from rfl, hF.2.2.2 1 (by omega)]
      · have h1 := sc_it n last kd bd V m
        have h2 := sc_le n last kd bd V m
        rw [show vI S2 31 = nI (V 1) from (line_J hL o12).2.2.2.2.1, pk_sub (show V 1 ≤ it n last kd bd V m 1 by omega), pk_sub (show it n last kd bd V m 1 - V 1 ≤ m by omega), show m - (it n last kd bd V m 1 - V 1) = sc n last kd bd V m by omega]
        exact inv_told (inv_K hI (offK_of o12) (offA_uA (offA_refl R) 15 (by omega) F)) _
    · intro f i F hi hF ih
      show wl_X5_train_32 _ (f + 1) (nI m) (nI (sc n last kd bd V i)) (nI i) (uA R 15 F)
      rw [wl_trainR_s]
      unfold wb_X5_train_32 wb_X5_train_54
      obtain ⟨hWi, hli⟩ := it_ok hW hl hl20 (by omega) i (by omega)
      refine no (nI_ge hi (by omega)) (q_goes rfl hF hWi hl20 _ (fun G hG => ?_))
      have h8 := onR_go hF hG
      rw [uA_uA] at h8
      have h9 := ih G h8
      rw [← nI_1] at h9
      rw [uA_uA]
      have hsc : sc n last kd bd V (i + 1) = if std n last kd bd (it n last kd bd V i) = true then sc n last kd bd V i + 1 else sc n last kd bd V i := rfl
      refine cy (fun e => ?_) (fun e => ?_)
      · rw [hsc, e, if_neg (by decide)] at h9
        rw [show nI (sc n last kd bd V i) + 0 = nI (sc n last kd bd V i) from nI_add _ 0]
        exact h9
      · rw [hsc, e, if_pos rfl, ← nI_1] at h9
        exact h9
  · rw [if_neg c]
    refine yes' rfl ?_
    show wp_X5_train _ _ _
    unfold wp_X5_train
    rw [q_in _ 0 60 0 60 (by decide) (by decide), if_neg (fun h9 => c (i61.mp h9))]
    exact yes' rfl ⟨rfl, hI⟩
theorem wl_comes_s (Q : Int32 → sT → Prop) (f : Nat) (x1 : Int32) (S : sT) : wl_X4_comes_43 Q (f + 1) x1 S = wb_X4_comes_43 Q (fun x1 S => wl_X4_comes_43 Q f x1 S) x1 S := rfl
theorem wl_comesR_s (Q : Int32 → sT → Prop) (f : Nat) (x1 : Int32) (S : sT) : wl_X5_comes_16 Q (f + 1) x1 S = wb_X5_comes_16 Q (fun x1 S => wl_X5_comes_16 Q f x1 S) x1 S := rfl
theorem st_comes_ok : st_comes Inv := by
  intro C R hI
  obtain ⟨n, last, due, kd, bd, d, V, hN⟩ := IN_of hI
  obtain ⟨hL, hW, hl, hl20, h99, hV, hn, hd, hdue, c28, c32, hR, r11, r17⟩ := IN_line hN
  have en : nI n = 0 ↔ n = 0 := nI_eq (b := 0) (by omega) (by decide)
  have gR : ∀ Q : Int32 → sT → Prop, ((¬ n = 0 → wp_X5_layAside R (fun S_1 => ∃ n : Nat, wl_X5_comes_16 Q n (0 : Int32) S_1)) ∧ (n = 0 → Q (-4 : Int32) R)) → wp_X5_comes R Q := by
    intro Q hQ
    unfold wp_X5_comes
    rw [hR.1, en]
    exact hQ
  unfold wp_X4_comes
  rw [show vI C 26 = nI n from hL.1, en]
  refine ⟨fun e0 => q_setOut hL hW _ (fun S1 o1 j1 => ?_), fun e0 => gR _ (yes' e0 ⟨rfl, hI⟩)⟩
  rw [show vI S1 29 = nI (V 2) from (line_J hL o1).2.2.1]
  refine q_ride (mn := 60) j1 hW hl hl20 (by omega) (by omega) _ (fun S2 o2 j2 _ _ ht => ?_)
  have o12 := offJ_trans o1 o2
  have hL2 := line_J hL o12
  have itl : ∀ m, m ≤ 61 → it n last kd bd V m 1 ≤ last := fun m hm => (it_ok hW hl hl20 (by omega) m (by omega)).2
  -- the first minute in which it is at the last place, if there is one
  obtain ⟨e, hE, hno, hex⟩ : ∃ e, e ≤ 61 ∧ (∀ m, m < e → ¬ it n last kd bd V m 1 = last) ∧ (e = 61 ∨ (e ≤ 60 ∧ it n last kd bd V e 1 = last)) := by
    by_cases h : ∃ m, m ≤ 60 ∧ it n last kd bd V m 1 = last
    · obtain ⟨k, hk, hm⟩ := pk_least (fun m => m ≤ 60 ∧ it n last kd bd V m 1 = last) h
      exact ⟨k, by omega, fun m hm2 h9 => hm m hm2 ⟨by omega, h9⟩, Or.inr hk⟩
    · exact ⟨61, by omega, fun m hm h9 => h ⟨m, by omega, h9⟩, Or.inl rfl⟩
  have fin : ∀ (r : Int32) (S' : sT), (e = 61 → r = -9 ∧ S' = S2) → (e ≤ 60 → r = nI e ∧ S' = uI S2 13 (nI (V 0 + e))) → wp_X5_comes R (fun r2 SR1 => r = r2 ∧ Inv S' SR1) := by
    intro r S' f1 f2
    refine gR _ (no' e0 (q_layAside hR hn _ (fun F0 hF0 => ?_)))
    have main := pk_loop (fun f i (F : Nat → Int32) => wl_X5_comes_16 (fun r2 SR1 => r = r2 ∧ Inv S' SR1) f (nI i) (uA R 15 F)) (fun i F => onR (uA R 15 F) 15 n last kd bd (it n last kd bd V i)) e 0 F0 (Nat.zero_le _) hF0 ?_ ?_
    · exact main
    · intro f F hF
      show wl_X5_comes_16 _ (f + 1) (nI e) (uA R 15 F)
      rw [wl_comesR_s]
      unfold wb_X5_comes_16 wp_X5_answer
      rcases hex with he | ⟨he, hp⟩
      · obtain ⟨g1, g2⟩ := f1 he
        refine yes (by rw [he]; decide) ⟨g1, ?_⟩
        rw [g2]
        exact inv_K hI (offK_of o12) (offA_uA (offA_refl R) 15 (by omega) F)
      · obtain ⟨g1, g2⟩ := f2 he
        refine no (nI_ge (b := 61) (by omega) (by decide)) ⟨vp_in_nI (n := 1) (by decide) (by decide), ?_⟩
        rw [show (1 : Int32).toNatClampNeg = 1 from rfl, show (0 : Int32).toNatClampNeg = 0 from rfl, hF.2.2.2 1 (by omega), hF.2.2.2 0 (by omega), hF.2.1, hp, (it_val n last kd bd V e).1]
        refine yes' rfl ⟨vp_in_nI (n := 0) (by decide) (by decide), g1, ?_⟩
        rw [g2]
        exact inv_told (inv_K hI (offK_of o12) (offA_uA (offA_refl R) 15 (by omega) F)) _
    · intro f i F hi hF ih
      show wl_X5_comes_16 _ (f + 1) (nI i) (uA R 15 F)
      rw [wl_comesR_s]
      unfold wb_X5_comes_16
      obtain ⟨hWi, hli⟩ := it_ok hW hl hl20 (by omega) i (by omega)
      refine no (nI_ge (b := 61) (by omega) (by decide)) ⟨vp_in_nI (n := 1) (by decide) (by decide), ?_⟩
      rw [show (1 : Int32).toNatClampNeg = 1 from rfl, hF.2.2.2 1 (by omega), hF.2.1, nI_eq (by omega) (by omega)]
      refine no' (hno i hi) (q_goes rfl hF hWi hl20 _ (fun G hG => ?_))
      have h8 := onR_go hF hG
      rw [uA_uA] at h8
      have h9 := ih G h8
      rw [← nI_1] at h9
      rw [uA_uA]
      exact h9
  have main := pk_loop (fun f i (_ : Unit) => wl_X4_comes_43 (fun r SC1 => wp_X5_comes R (fun r2 SR1 => r = r2 ∧ Inv SC1 SR1)) f (nI i) S2) (fun i _ => True) e 0 () (Nat.zero_le _) trivial ?_ ?_
  · exact main
  · intro f _ _
    show wl_X4_comes_43 _ (f + 1) (nI e) S2
    rw [wl_comes_s]
    unfold wb_X4_comes_43
    rcases hex with he | ⟨he, hp⟩
    · exact yes (by rw [he]; decide) (fin _ _ (fun _ => ⟨rfl, rfl⟩) (fun h9 => by omega))
    · refine no (nI_nlt (a := 60) (by omega) (by decide)) ⟨vp_in_nI (by omega) (by decide), ?_⟩
      rw [nI_clamp (show e < 2 ^ 31 by omega), ht e he, show vI S2 27 = nI last from hL2.2.1, hp, show vI S2 30 = nI (V 0) from hL2.2.2.2.1, nI_add]
      exact yes' rfl (fin _ _ (fun h9 => by omega) (fun _ => ⟨rfl, rfl⟩))
  · intro f i _ hi _ ih
    show wl_X4_comes_43 _ (f + 1) (nI i) S2
    rw [wl_comes_s]
    unfold wb_X4_comes_43
    have hli := itl i (by omega)
    refine no (nI_nlt (a := 60) (by omega) (by decide)) ⟨vp_in_nI (by omega) (by decide), ?_⟩
    rw [nI_clamp (show i < 2 ^ 31 by omega), ht i (by omega), show vI S2 27 = nI last from hL2.2.1, nI_eq (by omega) (by omega)]
    have h9 := ih () trivial
    rw [← nI_1] at h9
    exact no' (hno i hi) h9
