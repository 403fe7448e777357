theorem nightC_step {C C' : sT} {n last due : Nat} {kd bd : Nat → Nat} {T : Nat → Nat → Nat} {d : Nat} (h : nightC C 0 n last due kd bd T d) {what who was : Int32} (hlog : logD n what who was (T d) (T (d + 1))) (oC : deedC C C' d what who was) (hL : lineC C' n last kd bd (T (d + 1))) : nightC C' 0 n last due kd bd T (d + 1) := by
  obtain ⟨⟨o1, o2⟩, d1, d2, d3, d4, d5⟩ := oC
  obtain ⟨l1, l2, l3, l4, l5, l6⟩ := hL
  obtain ⟨⟨c1, c2, c3, c4, c5, c6, c7⟩, cs, cl⟩ := h
  refine ⟨⟨l1, l2, ?_, l3, l4, l5, d4⟩, l6, fun e he => ?_⟩
  · show vI C' 28 = _
    rw [d5]; exact c3
  · show logD n (vA C' 23 e) (vA C' 24 e) (vA C' 25 e) _ _
    rw [d1, d2, d3]
    simp only [up]
    by_cases c : e = d
    · rw [if_pos c, if_pos c, if_pos c, c]
      exact hlog
    · rw [if_neg c, if_neg c, if_neg c]
      exact cl e (by omega)
theorem nightR_step {R R' : sT} {n last due : Nat} {kd bd : Nat → Nat} {T : Nat → Nat → Nat} {d : Nat} (h : nightR R n last due kd bd T d) (oR : deedR n R R' d (T d) (T (d + 1))) : nightR R' n last due kd bd T (d + 1) := by
  obtain ⟨⟨p1, p2, p3⟩, q1, q2, q3⟩ := oR
  obtain ⟨⟨r1, r2, r3, r4⟩, rs, rn, ra⟩ := h
  refine ⟨⟨(p2 9 (by omega)).trans r1, (p2 10 (by omega)).trans r2, (p2 11 (by omega)).trans r3, q1⟩, fun i hi => ?_, q2, fun e he i hi => ?_⟩
  · rw [p1 12 (by omega) (by omega), p1 13 (by omega) (by omega)]
    exact rs i hi
  · rw [q3 e (by omega) i hi]
    by_cases c : e = d
    · rw [if_pos c, c]
    · rw [if_neg c]
      exact ra e (by omega) i hi
theorem line_of {C : sT} {n last due : Nat} {kd bd : Nat → Nat} {T : Nat → Nat → Nat} {d : Nat} (h : nightC C 0 n last due kd bd T d) : lineC C n last kd bd (T d) :=
  ⟨h.1.1, h.1.2.1, h.1.2.2.2.1, h.1.2.2.2.2.1, h.1.2.2.2.2.2.1, h.2.1⟩
theorem onR_of {R : sT} {n last due : Nat} {kd bd : Nat → Nat} {T : Nat → Nat → Nat} {d : Nat} (h : nightR R n last due kd bd T d) : onR R 14 n last kd bd (T d) :=
  ⟨h.1.1, h.1.2.1, h.2.1, h.2.2.1⟩
theorem okW_of {n last due : Nat} {kd bd V : Nat → Nat} (h5 : okN n last due kd bd) (hV : okV n last V) : okW n kd bd V := by
  have := h5.2.1
  refine ⟨h5.1, fun i hi => ⟨(h5.2.2.2 i hi).1, ?_, hV.2.2.2 i hi⟩, ?_, ?_, pow_le64 h5.1 hV.2.2.1⟩
  · have := (h5.2.2.2 i hi).2; omega
  · have := hV.1; omega
  · have := hV.2.1; omega
def lotV (n last : Nat) (kd bd : Nat → Nat) (a : Nat) (V : Nat → Nat) : Nat → Nat :=
  if a % 4 = 0 then setV V 2 (V 2 ^^^ 2 ^ (a / 8 % n)) else if a % 4 = 1 then setV V (3 + a / 8 % n) (a / 64 % 10) else if V 0 < 99 then go n last kd bd V else V
theorem okV_lot {n last : Nat} {kd bd V : Nat → Nat} (hn : 0 < n) (hV : okV n last V) (a : Nat) : okV n last (lotV n last kd bd a V) := by
  unfold lotV
  have h9 : a / 8 % n < n := Nat.mod_lt _ hn
  split
  · exact okV_wol hV h9
  · split
    · exact okV_sup hV (by have : a / 64 % 10 < 10 := Nat.mod_lt _ (by decide); omega)
    · split
      · exact okV_go hV (by assumption)
      · exact hV
theorem lotI {a n : Nat} (ha : a < 2 ^ 31) (hn : 0 < n) (hn6 : n ≤ 6) : nI a - nI a / 4 * 4 = nI (a % 4) ∧ (nI a / 8) - (nI a / 8) / nI n * nI n = nI (a / 8 % n) ∧ (nI a / 64) - (nI a / 64) / 10 * 10 = nI (a / 64 % 10) := by
  refine ⟨rem6 ha 4 (by decide) (by decide) 4 rfl, ?_, ?_⟩
  · rw [show nI a / 8 = nI (a / 8) from pk_div ha (by decide) (by decide)]
    exact pk_rem (by omega) hn (by omega)
  · rw [show nI a / 64 = nI (a / 64) from pk_div ha (by decide) (by decide)]
    exact rem6 (by omega) 10 (by decide) (by decide) 10 rfl
theorem q_lotC {C : sT} {n last d : Nat} {kd bd V : Nat → Nat} (hn : 0 < n) (hL : lineC C n last kd bd V) (hW : okW n kd bd V) (hl : V 1 ≤ last) (hl20 : last ≤ 20) (h99 : V 0 ≤ 99) (h32 : vI C 32 = nI d) (hd : d < 40) {a : Nat} (ha : a < 2 ^ 31) (Q : sT → Prop) (h : ∀ C' what who was, logD n what who was V (lotV n last kd bd a V) → deedC C C' d what who was → lineC C' n last kd bd (lotV n last kd bd a V) → Q C') : wp_X4_doByLot (nI a) C Q := by
  have hn6 := hW.1
  have hw : a / 8 % n < n := Nat.mod_lt _ hn
  obtain ⟨e4, e8, e64⟩ := lotI ha hn hn6
  have m4 : a % 4 < 4 := Nat.mod_lt _ (by decide)
  have n0 : ¬ nI n = 0 := nI_ne0 hn (by omega)
  have z0 : nI (a % 4) = 0 ↔ a % 4 = 0 := nI_eq (b := 0) (by omega) (by decide)
  have z1 : nI (a % 4) = 1 ↔ a % 4 = 1 := nI_eq (b := 1) (by omega) (by decide)
  unfold wp_X4_doByLot
  rw [show vI C 26 = nI n from hL.1, e4, e8, e64, z0, z1]
  refine no' n0 ⟨n0, fun c => ?_, fun c => ?_, fun c c2 => ?_⟩
  · rw [show lotV n last kd bd a V = _ from if_pos c] at h
    exact q_wol hL hW hw h32 hd _ h
  · rw [show lotV n last kd bd a V = _ from (if_neg (by omega)).trans (if_pos c)] at h
    exact q_sup hL hn6 hw h32 hd _ h
  · rw [show lotV n last kd bd a V = _ from (if_neg c).trans (if_neg c2)] at h
    exact q_pass hL hW hl hl20 h99 h32 hd _ h
theorem q_lotR {R : sT} {n last d : Nat} {kd bd V : Nat → Nat} (hn : 0 < n) (hR : onR R 14 n last kd bd V) (hW : okW n kd bd V) (hl20 : last ≤ 20) (h99 : V 0 ≤ 99) (r17 : vI R 17 = nI d) (hd : d < 40) {a : Nat} (ha : a < 2 ^ 31) (Q : sT → Prop) (h : ∀ R', deedR n R R' d V (lotV n last kd bd a V) → Q R') : wp_X5_lot (nI a) R Q := by
  have hn6 := hW.1
  have hw : a / 8 % n < n := Nat.mod_lt _ hn
  obtain ⟨e4, e8, e64⟩ := lotI ha hn hn6
  have m4 : a % 4 < 4 := Nat.mod_lt _ (by decide)
  have n0 : ¬ nI n = 0 := nI_ne0 hn (by omega)
  have z0 : nI (a % 4) = 0 ↔ a % 4 = 0 := nI_eq (b := 0) (by omega) (by decide)
  have z1 : nI (a % 4) = 1 ↔ a % 4 = 1 := nI_eq (b := 1) (by omega) (by decide)
  unfold wp_X5_lot
  rw [hR.1, e4, e8, e64, z0, z1]
  refine ⟨n0, q_remember r17 hd _ (fun F f1 f2 => ?_)⟩
  have e1 : vA (uI (uA R 16 F) 17 (nI (d + 1))) 14 = vA R 14 := rfl
  rw [e1, show (0 : Int32).toNatClampNeg = 0 from rfl, show (2 : Int32).toNatClampNeg = 2 from rfl, hR.2.2.2 0 (by omega), hR.2.2.2 2 (by omega), xor_tab _ hW.2.2.2.2 _ (by omega), show (3 : Int32) + nI (a / 8 % n) = nI (3 + a / 8 % n) from nI_add 3 _, nI_clamp (show 3 + a / 8 % n < 2 ^ 31 by omega), show (99 : Int32) = nI 99 from rfl, nI_leI (by omega) (by omega)]
  refine ⟨fun c => ⟨fun c2 => ⟨vp_in_nI (n := 0) (by decide) (by decide), fun c3 => ?_, fun c3 => ?_⟩, fun c2 => ⟨vp_in_nI (by omega) (by decide), fun S6 e6 => ?_⟩⟩, fun c => ⟨vp_in_nI (n := 2) (by decide) (by decide), vp_in_nI (n := 2) (by decide) (by decide), fun S9 e9 => ?_⟩⟩
  · rw [show lotV n last kd bd a V = V from (if_neg c).trans ((if_neg c2).trans (if_neg (by omega)))] at h
    exact h _ (deedR_id hn6 hR.2.2.2 f1 f2 (fun _ _ => rfl))
  · rw [show lotV n last kd bd a V = _ from (if_neg c).trans ((if_neg c2).trans (if_pos (by omega)))] at h
    have hR2 : onR (uI (uA R 16 F) 17 (nI (d + 1))) 14 n last kd bd V := hR
    exact q_goes rfl hR2 hW hl20 _ (fun G hG => h _ (deedR_of hn6 hR.2.2.2 f1 f2 hG))
  · rw [show lotV n last kd bd a V = _ from (if_neg c).trans (if_pos c2)] at h
    rw [e6]
    refine h _ (deedR_of hn6 hR.2.2.2 f1 f2 (fun i hi => ?_))
    simp only [up]
    unfold setV
    by_cases e : i = 3 + a / 8 % n
    · rw [if_pos e, if_pos e]
    · rw [if_neg e, if_neg e]; exact hR.2.2.2 i hi
  · rw [show lotV n last kd bd a V = _ from if_pos c] at h
    rw [e9]
    refine h _ (deedR_of hn6 hR.2.2.2 f1 f2 (fun i hi => ?_))
    simp only [up]
    unfold setV
    by_cases e : i = 2
    · rw [if_pos e, if_pos e]
    · rw [if_neg e, if_neg e]; exact hR.2.2.2 i hi
def la (a : Nat) : Nat → Nat
  | 0 => a
  | i + 1 => la a i * 48271 % 2147483647
def lv (n last : Nat) (kd bd V : Nat → Nat) (a : Nat) : Nat → Nat → Nat
  | 0 => V
  | i + 1 => lotV n last kd bd (la a (i + 1)) (lv n last kd bd V a i)
theorem la_lt (a : Nat) (ha : a < 2147483647) : ∀ i, la a i < 2147483647
  | 0 => ha
  | i + 1 => Nat.mod_lt _ (by decide)
theorem la_step (a : Nat) (ha : a < 2147483647) (i : Nat) : (lN (la a i) * 48271) - (lN (la a i) * 48271) / 2147483647 * 2147483647 = lN (la a (i + 1)) := by
  have h := la_lt a ha i
  rw [show (48271 : Int64) = lN 48271 from rfl, lN_mul, show (2147483647 : Int64) = lN 2147483647 from rfl]
  exact pk_lRem (by omega) (by decide) (by decide)
theorem wl_lots_s (Q : Int32 → sT → Prop) (f : Nat) (x1 : Int32) (x3 : Int64) (x5 : Int32) (S : sT) : wl_X4_lots_58 Q (f + 1) x1 x3 x5 S = wb_X4_lots_58 Q (fun x1 x3 x5 S => wl_X4_lots_58 Q f x1 x3 x5 S) x1 x3 x5 S := rfl
theorem wl_lotsR_s (Q : Int32 → sT → Prop) (f : Nat) (x1 : Int32) (x3 : Int64) (x5 : Int32) (S : sT) : wl_X5_lots_45 Q (f + 1) x1 x3 x5 S = wb_X5_lots_45 Q (fun x1 x3 x5 S => wl_X5_lots_45 Q f x1 x3 x5 S) x1 x3 x5 S := rfl
theorem st_lots_ok : st_lots Inv := by
  intro x1 x2 C R hI
  obtain ⟨h1, h2, h3, n, last, due, kd, bd, T, d, h5, hd, hV, hC, hR, hK⟩ := id hI
  have hn := h5.1
  have hl20 := h5.2.1
  obtain ⟨⟨r1, r2, r3, r4⟩, rs, rn, ra⟩ := id hR
  have c7 : vI C 32 = nI d := hC.1.2.2.2.2.2.2
  have c1 : vI C 26 = nI n := hC.1.1
  have en : nI n = 0 ↔ n = 0 := nI_eq (b := 0) (by omega) (by decide)
  have hb : ¬ ((1 ≤ x1 ∧ x1 ≤ 20) ∧ (1 ≤ x2 ∧ x2 ≤ 2147483646)) → wp_X5_lots x1 x2 R (fun r2 SR1 => -1 = r2 ∧ Inv C SR1) := by
    intro h
    unfold wp_X5_lots
    rw [q_in x1 1 20 1 20 (by decide) (by decide)]
    by_cases h1 : 1 ≤ x1 ∧ x1 ≤ 20
    · rw [if_pos h1, q_in x2 1 2147483646 1 2147483646 (by decide) (by decide), if_neg (fun h9 => h ⟨h1, h9⟩)]
      exact no n10 (yes' rfl ⟨rfl, hI⟩)
    · rw [if_neg h1]
      exact yes rfl ⟨rfl, hI⟩
  unfold wp_X4_lots
  refine ⟨fun c => hb (by grind), fun c => ⟨fun c2 => hb (by grind), fun c2 => ⟨fun c3 => hb (by grind), fun c3 => ⟨fun c4 => ?_, fun c4 => hb (by grind)⟩⟩⟩⟩
  have hg1 : 1 ≤ x1 ∧ x1 ≤ 20 := by grind
  have hg2 : 1 ≤ x2 ∧ x2 ≤ 2147483646 := by grind
  have gR : ∀ Q : Int32 → sT → Prop, wp_X5_refuses x1 R (fun r_3 S_3 => ((r_3 = 0 → ∃ n : Nat, wl_X5_lots_45 Q n x1 x2.toInt64 (0 : Int32) S_3) ∧ (¬ r_3 = 0 → Q r_3 S_3))) → wp_X5_lots x1 x2 R Q := by
    intro Q hQ
    unfold wp_X5_lots
    rw [q_in x1 1 20 1 20 (by decide) (by decide), if_pos hg1, q_in x2 1 2147483646 1 2147483646 (by decide) (by decide), if_pos hg2]
    exact no n10 (no' n10 hQ)
  rw [c1, en]
  obtain ⟨m, hm, rfl⟩ : ∃ m, m < 21 ∧ x1 = nI m := ixY (n := 21) (by decide) ⟨by grind, by have : nI 21 = 21 := rfl; grind⟩
  obtain ⟨a, ha, rfl⟩ : ∃ a, a < 2147483647 ∧ x2 = nI a := ixY (n := 2147483647) (by decide) ⟨by grind, c4⟩
  refine ⟨fun e0 => ?_, fun e0 => gR _ ?_⟩
  rotate_left
  · unfold wp_X5_refuses
    rw [r1, en]
    exact yes' e0 (no (by decide) ⟨rfl, hI⟩)
  refine q_room c7 hd (by omega) _ (cn (fun e => gR _ ?_) (fun e => ?_))
  · simp at e
    unfold wp_X5_refuses
    rw [r1, en, r4, nI_add, show (40 : Int32) = nI 40 from rfl, nI_leI (by omega) (by omega)]
    exact no' e0 (no (by omega) (no (by decide) ⟨rfl, hI⟩))
  simp at e
  have hn0 : 0 < n := by omega
  rw [nI_l (show a < 2 ^ 31 by omega)]
  have T' : ∃ T' : Nat → Nat → Nat, (∀ e, e ≤ d → T' e = T e) ∧ ∀ i, T' (d + i) = lv n last kd bd (T d) a i := by
    refine ⟨fun e => if e ≤ d then T e else lv n last kd bd (T d) a (e - d), fun e he => if_pos he, fun i => ?_⟩
    show (if d + i ≤ d then T (d + i) else lv n last kd bd (T d) a (d + i - d)) = _
    by_cases c : i = 0
    · rw [c, if_pos (by omega)]; rfl
    · rw [if_neg (by omega), show d + i - d = i by omega]
  obtain ⟨T', t1, t2⟩ := T'
  have hVl : ∀ i, okV n last (lv n last kd bd (T d) a i) := by
    intro i
    induction i with
    | zero => exact hV d (Nat.le_refl d)
    | succ i ih => exact okV_lot hn0 ih _
  have hC' : nightC C 0 n last due kd bd T' d := by
    obtain ⟨g1, g2, g3⟩ := hC
    refine ⟨by rw [t1 d (Nat.le_refl d)]; exact g1, by rw [t1 d (Nat.le_refl d)]; exact g2, fun e he => ?_⟩
    rw [t1 e (by omega), t1 (e + 1) (by omega)]
    exact g3 e he
  have hR' : nightR R n last due kd bd T' d := by
    obtain ⟨g1, g2, g3, g4⟩ := hR
    refine ⟨g1, g2, by rw [t1 d (Nat.le_refl d)]; exact g3, fun e he => ?_⟩
    rw [t1 e (by omega)]
    exact g4 e he
  have o0 : offC C C := ⟨fun _ _ => ⟨rfl, rfl⟩, fun _ => rfl⟩
  have p0 : offR R R := ⟨fun _ _ _ => rfl, fun _ _ => rfl, fun _ => rfl⟩
  have main := pk_loop (fun f i (S : sT) => wl_X4_lots_58 (fun r SC1 => wp_X5_lots (nI m) (nI a) R (fun r2 SR1 => r = r2 ∧ Inv SC1 SR1)) f (nI m) (lN (la a i)) (nI i) S) (fun i S => offC C S ∧ nightC S 0 n last due kd bd T' (d + i)) m 0 C (Nat.zero_le _) ⟨o0, hC'⟩ ?_ ?_
  · exact main
  · intro f S ⟨oS, hS⟩
    show wl_X4_lots_58 _ (f + 1) (nI m) (lN (la a m)) (nI m) S
    rw [wl_lots_s]
    unfold wb_X4_lots_58
    refine yes (nI_le (Nat.le_refl _) (by omega)) (gR _ ?_)
    unfold wp_X5_refuses
    rw [r1, en, r4, nI_add, show (40 : Int32) = nI 40 from rfl, nI_leI (by omega) (by omega), nI_l (show a < 2 ^ 31 by omega)]
    refine no' e0 (yes (by omega) (yes rfl ?_))
    have main2 := pk_loop (fun f i (S2 : sT) => wl_X5_lots_45 (fun r2 SR1 => vI S 31 = r2 ∧ Inv S SR1) f (nI m) (lN (la a i)) (nI i) S2) (fun i S => offR R S ∧ nightR S n last due kd bd T' (d + i)) m 0 R (Nat.zero_le _) ⟨p0, hR'⟩ ?_ ?_
    · exact main2
    · intro f S2 ⟨oS2, hS2⟩
      show wl_X5_lots_45 _ (f + 1) (nI m) (lN (la a m)) (nI m) S2
      rw [wl_lotsR_s]
      unfold wb_X5_lots_45
      refine yes (nI_le (Nat.le_refl _) (by omega)) ⟨vp_in_nI (n := 1) (by decide) (by decide), ?_, ?_⟩
      · rw [show (1 : Int32).toNatClampNeg = 1 from rfl, hS2.2.2.1 1 (by omega)]
        exact hS.1.2.2.2.2.2.1
      · refine inv_off h1 h2 h3 hK h5 oS oS2 (show d + m ≤ 40 by omega) (fun e he => ?_) hS hS2
        by_cases c : e ≤ d
        · rw [t1 e c]; exact hV e c
        · rw [show e = d + (e - d) by omega, t2]; exact hVl _
    · intro f i S2 hi ⟨oS2, hS2⟩ ih
      show wl_X5_lots_45 _ (f + 1) (nI m) (lN (la a i)) (nI i) S2
      rw [wl_lotsR_s]
      unfold wb_X5_lots_45
      refine no (nI_ge hi (by omega)) (fun z ez => ?_)
      rw [la_step a ha i] at ez
      have hVi : okV n last (T' (d + i)) := by rw [t2]; exact hVl i
      rw [ez, lN_i]
      refine q_lotR hn0 (onR_of hS2) (okW_of h5 hVi) hl20 hVi.1 hS2.1.2.2.2 (by omega) (show la a (i + 1) < 2 ^ 31 by have := la_lt a ha (i + 1); omega) _ (fun R' oR => ?_)
      have eT : T' (d + i + 1) = lotV n last kd bd (la a (i + 1)) (T' (d + i)) := by
        rw [Nat.add_assoc, t2, t2]; rfl
      rw [← eT] at oR
      have h9 := ih R' ⟨⟨fun k a1 a2 => (oR.1.1 k a1 a2).trans (oS2.1 k a1 a2), fun k a1 => (oR.1.2.1 k a1).trans (oS2.2.1 k a1), fun k => (oR.1.2.2 k).trans (oS2.2.2 k)⟩, nightR_step hS2 oR⟩
      rw [← nI_1] at h9
      exact h9
  · intro f i S hi ⟨oS, hS⟩ ih
    show wl_X4_lots_58 _ (f + 1) (nI m) (lN (la a i)) (nI i) S
    rw [wl_lots_s]
    unfold wb_X4_lots_58
    refine no (nI_ge hi (by omega)) (fun z ez => ?_)
    rw [la_step a ha i] at ez
    have hVi : okV n last (T' (d + i)) := by rw [t2]; exact hVl i
    rw [ez, lN_i]
    refine q_lotC hn0 (line_of hS) (okW_of h5 hVi) hVi.2.1 hl20 hVi.1 hS.1.2.2.2.2.2.2 (by omega) (show la a (i + 1) < 2 ^ 31 by have := la_lt a ha (i + 1); omega) _ (fun C' what who was lg oC hL' => ?_)
    have eT : T' (d + i + 1) = lotV n last kd bd (la a (i + 1)) (T' (d + i)) := by
      rw [Nat.add_assoc, t2, t2]; rfl
    rw [← eT] at lg hL'
    have h9 := ih C' ⟨⟨fun k hk => ⟨((oC.1.1 k hk).1).trans (oS.1 k hk).1, ((oC.1.1 k hk).2).trans (oS.1 k hk).2⟩, fun k => (oC.1.2 k).trans (oS.2 k)⟩, nightC_step hS lg oC hL'⟩
    rw [← nI_1] at h9
    exact h9
