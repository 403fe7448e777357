def mcF (n last : Nat) (kd bd V : Nat → Nat) (p k : Nat) (a : Int32) : Int32 := a + b2 (decide (it n last kd bd V k 1 = p) && std n last kd bd (it n last kd bd V k))
theorem it_next (n last : Nat) (kd bd V : Nat → Nat) (k : Nat) : it n last kd bd V (k + 1) 1 = if std n last kd bd (it n last kd bd V k) = true then it n last kd bd V k 1 else it n last kd bd V k 1 + 1 := rfl
theorem q_minutesAt {S : sT} {n last : Nat} {kd bd V : Nat → Nat} (hit : ∀ m, m ≤ 100 → it n last kd bd V m 1 ≤ 20) {p mn : Nat} (hp : p ≤ 100) (hmn : mn ≤ 60) (ht : ∀ m, m ≤ mn → vA S 113 m = nI (it n last kd bd V m 1)) (Q : Int32 → sT → Prop) (h : Q (fo (mcF n last kd bd V p) 0 mn) S) : wp_X0_minutesAt (nI p) (nI mn) S Q := by
  unfold wp_X0_minutesAt
  refine q_fo (fun f i a => wl_X0_minutesAt_5 Q f (nI p) (nI mn) a (nI i) S) (mcF n last kd bd V p) 0 mn (fun n9 => ?_) (fun n9 i a hi ha ih => ?_)
  · show wb_X0_minutesAt_5 Q _ _ _ _ _ S
    unfold wb_X0_minutesAt_5
    exact yes (nI_le (Nat.le_refl _) (by omega)) h
  · show wb_X0_minutesAt_5 Q _ _ _ _ _ S
    unfold wb_X0_minutesAt_5 wb_X0_minutesAt_47 wb_X0_minutesAt_48
    have h1 := hit i (by omega)
    have h2 := hit (i + 1) (by omega)
    rw [nI_1, nI_clamp (show i < 2 ^ 31 by omega), nI_clamp (show i + 1 < 2 ^ 31 by omega), ht i (by omega), ht (i + 1) (by omega), nI_eq (a := it n last kd bd V i 1) (b := p) (by omega) (by omega), nI_eq (a := it n last kd bd V (i + 1) 1) (b := p) (by omega) (by omega)]
    have hx := it_next n last kd bd V i
    unfold mcF at ih
    refine no (nI_ge hi (by omega)) (no (nI_ge (b := 60) (by omega) (by decide)) ⟨vp_in_nI (by omega) (by decide), fun c => ?_, fun c => ⟨vp_in_nI (by omega) (by decide), fun c2 => ?_, fun c2 => ?_⟩⟩)
    · rw [show decide (it n last kd bd V i 1 = p) = false by simp [c], Bool.false_and] at ih
      exact q_bit false S _ ih
    · have e : std n last kd bd (it n last kd bd V i) = false := by
        cases hs : std n last kd bd (it n last kd bd V i)
        · rfl
        · rw [hs, if_pos rfl] at hx; omega
      rw [e, Bool.and_false] at ih
      exact q_bit false S _ ih
    · have e : std n last kd bd (it n last kd bd V i) = true := by
        cases hs : std n last kd bd (it n last kd bd V i)
        · rw [hs, if_neg (by decide)] at hx; omega
        · rfl
      rw [e, Bool.and_true, show decide (it n last kd bd V i 1 = p) = true by simp [c]] at ih
      exact q_bit true S _ ih
theorem wl_sa_s (Q : Int32 → sT → Prop) (f : Nat) (x1 x2 x3 x4 : Int32) (S : sT) : wl_X5_standsAt_9 Q (f + 1) x1 x2 x3 x4 S = wb_X5_standsAt_9 Q (fun x1 x2 x3 x4 S => wl_X5_standsAt_9 Q f x1 x2 x3 x4 S) x1 x2 x3 x4 S := rfl
theorem q_standsAt {R : sT} {n last : Nat} {kd bd V : Nat → Nat} (hR : onR R 14 n last kd bd V) (hW : okW n kd bd V) (hl : V 1 ≤ last) (hl20 : last ≤ 20) (h0 : V 0 ≤ 800) {p mn : Nat} (hp : p ≤ 100) (hmn : mn ≤ 60) (Q : Int32 → sT → Prop) (h : ∀ F, Q (fo (mcF n last kd bd V p) 0 mn) (uA R 15 F)) : wp_X5_standsAt (nI p) (nI mn) R Q := by
  have hn := hW.1
  unfold wp_X5_standsAt
  refine q_layAside hR hn _ (fun F0 hF0 => ?_)
  have main := pk_loop (fun f i (F : Nat → Int32) => wl_X5_standsAt_9 Q f (nI p) (nI mn) (fo (mcF n last kd bd V p) 0 i) (nI i) (uA R 15 F)) (fun i F => onR (uA R 15 F) 15 n last kd bd (it n last kd bd V i)) mn 0 F0 (Nat.zero_le _) hF0 ?_ ?_
  · exact main
  · intro f F hF
    show wl_X5_standsAt_9 Q (f + 1) (nI p) (nI mn) _ (nI mn) (uA R 15 F)
    rw [wl_sa_s]
    unfold wb_X5_standsAt_9
    exact yes (nI_le (Nat.le_refl _) (by omega)) (h F)
  · intro f i F hi hF ih
    show wl_X5_standsAt_9 Q (f + 1) (nI p) (nI mn) _ (nI i) (uA R 15 F)
    rw [wl_sa_s]
    unfold wb_X5_standsAt_9 wb_X5_standsAt_30 wb_X5_standsAt_57 wb_X5_standsAt_58
    obtain ⟨hWi, hli⟩ := it_ok hW hl hl20 h0 i (by omega)
    rw [show (1 : Int32).toNatClampNeg = 1 from rfl, hF.2.2.2 1 (by omega), nI_eq (by omega) (by omega)]
    have hmc : fo (mcF n last kd bd V p) 0 (i + 1) = fo (mcF n last kd bd V p) 0 i + b2 (decide (it n last kd bd V i 1 = p) && std n last kd bd (it n last kd bd V i)) := rfl
    have key : ∀ G, (∀ k, k < 3 + n → G k = nI (go n last kd bd (it n last kd bd V i) k)) → wl_X5_standsAt_9 Q f (nI p) (nI mn) (fo (mcF n last kd bd V p) 0 i + b2 (decide (it n last kd bd V i 1 = p) && std n last kd bd (it n last kd bd V i))) (nI i + 1) (uA (uA R 15 F) 15 G) := by
      intro G hG
      have h8 := onR_go hF hG
      rw [uA_uA] at h8
      have h9 := ih G h8
      rw [← nI_1, hmc] at h9
      rw [uA_uA]
      exact h9
    refine no (nI_ge hi (by omega)) ⟨vp_in_nI (n := 1) (by decide) (by decide), fun c => q_goes rfl hF hWi hl20 _ (fun G hG => ?_), fun c => q_goes rfl hF hWi hl20 _ (fun G hG => ?_)⟩
    · have h9 := key G hG
      rw [show decide (it n last kd bd V i 1 = p) = false by simp [c], Bool.false_and] at h9
      exact yes rfl h9
    · have h9 := key G hG
      rw [show decide (it n last kd bd V i 1 = p) = true by simp [c], Bool.true_and] at h9
      refine no n10 (cy (fun e => ?_) (fun e => ?_))
      · rw [e] at h9; exact h9
      · rw [e] at h9; exact h9
theorem st_stood_ok : st_stood Inv := by
  intro x1 C R hI
  obtain ⟨n, last, due, kd, bd, d, V, hN⟩ := IN_of hI
  obtain ⟨hL, hW, hl, hl20, h99, hV, hn, hd, hdue, c28, c32, hR, r11, r17⟩ := IN_line hN
  unfold wp_X4_stood
  rw [show vI C 26 = nI n from hL.1, q_isBelow]
  by_cases h1 : 0 ≤ x1 ∧ x1 < nI n
  · rw [if_pos h1]
    refine no' n10 (q_setOut hL hW _ (fun S1 o1 j1 => ?_))
    rw [show vI S1 29 = nI (V 2) from (line_J hL o1).2.2.1]
    refine q_ride (mn := 60) j1 hW hl hl20 (by omega) (by omega) _ (fun S2 o2 j2 _ _ ht => ?_)
    have o12 := offJ_trans o1 o2
    obtain ⟨w, hw, rfl⟩ := ixY (show n < 2 ^ 31 by omega) h1
    have hbw := (hW.2.1 w hw).2.1
    refine ⟨vp_in_nI (by omega) (by decide), ?_⟩
    rw [nI_clamp (show w < 2 ^ 31 by omega), show vA S2 21 w = nI (bd w) from ((line_J hL o12).2.2.2.2.2 w hw).2.1]
    refine q_minutesAt (mn := 60) (fun m hm => by have := (it_ok hW hl hl20 (by omega) m hm).2; omega) (by omega) (by decide) ht _ ?_
    show wp_X5_stood _ _ _
    unfold wp_X5_stood
    rw [q_isOne hn _ R hR.1, if_pos h1]
    refine no n10 ⟨vp_in_nI (by omega) (by decide), ?_⟩
    rw [nI_clamp (show w < 2 ^ 31 by omega), (hR.2.2.1 w hw).2]
    exact q_standsAt (mn := 60) hR hW hl hl20 (by omega) (by omega) (by decide) _ (fun F => ⟨rfl, inv_K hI (offK_of o12) (offA_uA (offA_refl R) 15 (by omega) F)⟩)
  · rw [if_neg h1]
    refine yes' rfl ?_
    show wp_X5_stood _ _ _
    unfold wp_X5_stood
    rw [q_isOne hn _ R hR.1, if_neg h1]
    exact yes rfl ⟨rfl, hI⟩
/-! bed -/
def bdF (n last : Nat) (kd bd V : Nat → Nat) (w p : Nat) (a : Int32 × Int32) : Int32 × Int32 := if fo (mcF n last kd (setV bd w p) V p) 0 40 ≤ a.2 then a else (nI p, fo (mcF n last kd (setV bd w p) V p) 0 40)
theorem okW_bd {n : Nat} {kd bd V : Nat → Nat} (hW : okW n kd bd V) (w p : Nat) (hp : p ≤ 20) : okW n kd (setV bd w p) V := by
  refine ⟨hW.1, fun i hi => ⟨(hW.2.1 i hi).1, ?_, (hW.2.1 i hi).2.2⟩, hW.2.2⟩
  unfold setV
  split
  · exact hp
  · exact (hW.2.1 i hi).2.1
theorem st_bed_ok : st_bed Inv := by
  intro x1 C R hI
  obtain ⟨n, last, due, kd, bd, d, V, hN⟩ := IN_of hI
  obtain ⟨hL, hW, hl, hl20, h99, hV, hn, hd, hdue, c28, c32, hR, r11, r17⟩ := IN_line hN
  unfold wp_X4_bed
  rw [show vI C 26 = nI n from hL.1, q_isBelow]
  by_cases h1 : 0 ≤ x1 ∧ x1 < nI n
  · rw [if_pos h1]
    refine no' n10 (q_setOut hL hW _ (fun S1 o1 j1 => ?_))
    obtain ⟨w, hw, rfl⟩ := ixY (show n < 2 ^ 31 by omega) h1
    have main := pk_loop (fun f i (x : (Int32 × Int32) × sT) => wl_X4_bed_34 (fun r SC1 => wp_X5_bed (nI w) R (fun r2 SR1 => r = r2 ∧ Inv SC1 SR1)) f (nI w) x.1.1 x.1.2 (nI i) x.2) (fun i x => x.1 = fo (bdF n last kd bd V w) (0, -1) i ∧ offJ C x.2 ∧ (jn x.2 n last kd bd V ∨ ∃ q, jn x.2 n last kd (setV bd w q) V)) (last + 1) 0 (((0, -1)), S1) (Nat.zero_le _) ⟨rfl, o1, Or.inl j1⟩ ?_ ?_
    · exact main
    · intro f ⟨⟨a, b⟩, S⟩ ⟨hx, oS, hj⟩
      show wb_X4_bed_34 (fun r SC1 => wp_X5_bed (nI w) R (fun r2 SR1 => r = r2 ∧ Inv SC1 SR1)) (fun x1 x2 x3 x4 S => wl_X4_bed_34 (fun r SC1 => wp_X5_bed (nI w) R (fun r2 SR1 => r = r2 ∧ Inv SC1 SR1)) f x1 x2 x3 x4 S) (nI w) a b (nI (last + 1)) S
      unfold wb_X4_bed_34
      rw [show vI S 27 = nI last from (line_J hL oS).2.1]
      refine yes (nI_lt (by omega) (by omega)) ?_
      show wp_X5_bed _ _ _
      unfold wp_X5_bed
      rw [q_isOne hn _ R hR.1, if_pos h1, nI_clamp (show w < 2 ^ 31 by omega), (hR.2.2.1 w hw).2]
      refine no' n10 ⟨vp_in_nI (by omega) (by decide), ?_⟩
      have main2 := pk_loop (fun f i (x : (Int32 × Int32) × sT) => wl_X5_bed_25 (fun r2 SR1 => a = r2 ∧ Inv (uI S 13 b) SR1) f (nI w) (nI (bd w)) x.1.1 x.1.2 (nI i) x.2) (fun i x => x.1 = fo (bdF n last kd bd V w) (0, -1) i ∧ ∃ F, x.2 = uA (uA R 15 F) 13 (vA x.2 13) ∧ ∀ k, k < 6 → ¬ k = w → vA x.2 13 k = vA R 13 k) (last + 1) 0 ((0, -1), R) (Nat.zero_le _) ⟨rfl, vA R 15, by rw [uA_id, uA_id], fun _ _ _ => rfl⟩ ?_ ?_
      · exact main2
      · intro f ⟨⟨a', b'⟩, S'⟩ ⟨hx', F, eS', hk'⟩
        show wb_X5_bed_25 (fun r2 SR1 => a = r2 ∧ Inv (uI S 13 b) SR1) (fun x1 x2 x3 x4 x5 S' => wl_X5_bed_25 (fun r2 SR1 => a = r2 ∧ Inv (uI S 13 b) SR1) f x1 x2 x3 x4 x5 S') (nI w) (nI (bd w)) a' b' (nI (last + 1)) S'
        unfold wb_X5_bed_25 wp_X5_answer
        have e10 : vI S' 10 = nI last := by rw [show S' = _ from eS']; exact hR.2.1
        rw [e10, nI_clamp (show w < 2 ^ 31 by omega)]
        have hab : (a, b) = (a', b') := hx.trans hx'.symm
        obtain ⟨ea, eb⟩ := Prod.mk.inj hab
        refine yes (nI_lt (by omega) (by omega)) ⟨vp_in_nI (by omega) (by decide), ea, ?_⟩
        rw [eb]
        refine inv_told ?_ _
        have e13 : ∀ k, k < 6 → upd (vA S' 13) w (nI (bd w)) k = vA R 13 k := by
          intro k hk
          simp only [up]
          by_cases c : k = w
          · rw [if_pos c, c]; exact ((hR.2.2.1 w hw).2).symm
          · rw [if_neg c]; exact hk' k hk c
        rw [show S' = _ from eS', uA_uA]
        have hI2 : Inv S (uA R 15 F) := inv_K hI (offK_of oS) (offA_uA (offA_refl R) 15 (by omega) F)
        obtain ⟨g1, g2, g3, n2, l2, d2, kd2, bd2, T2, dd2, k1, k2, k3, k4, k5, k6⟩ := hI2
        have v13 : vA (uA (uA R 15 F) 13 (vA S' 13)) 13 = vA S' 13 := vA_uA _ _ _
        refine ⟨g1, g2, g3, n2, l2, d2, kd2, bd2, T2, dd2, k1, k2, k3, k4, ?_, k6⟩
        obtain ⟨m1, m2, m3, m4⟩ := k5
        refine ⟨m1, fun i hi => ⟨(m2 i hi).1, ?_⟩, m3, m4⟩
        rw [vA_uA, v13, e13 i (by have := k1.1; omega)]
        exact (m2 i hi).2
      · intro f i ⟨⟨a', b'⟩, S'⟩ hi ⟨hx', F, eS', hk'⟩ ih
        show wb_X5_bed_25 (fun r2 SR1 => a = r2 ∧ Inv (uI S 13 b) SR1) (fun x1 x2 x3 x4 x5 S' => wl_X5_bed_25 (fun r2 SR1 => a = r2 ∧ Inv (uI S 13 b) SR1) f x1 x2 x3 x4 x5 S') (nI w) (nI (bd w)) a' b' (nI i) S'
        unfold wb_X5_bed_25 wb_X5_bed_65 wb_X5_bed_80
        have e10 : vI S' 10 = nI last := by rw [show S' = _ from eS']; exact hR.2.1
        rw [e10, nI_clamp (show w < 2 ^ 31 by omega)]
        have hW' := okW_bd hW w i (by omega)
        have hR' : onR (uA S' 13 (upd (vA S' 13) w (nI i))) 14 n last kd (setV bd w i) V := by
          refine ⟨by rw [show S' = _ from eS']; exact hR.1, e10, fun k hk => ⟨by rw [show S' = _ from eS']; exact (hR.2.2.1 k hk).1, ?_⟩, by rw [show S' = _ from eS']; exact hR.2.2.2⟩
          rw [vA_uA]
          simp only [up]
          unfold setV
          by_cases c : k = w
          · rw [if_pos c, if_pos c]
          · rw [if_neg c, if_neg c]
            exact (hk' k (by omega) c).trans (hR.2.2.1 k hk).2
        refine no (nI_nlt (by omega) (by omega)) ⟨vp_in_nI (by omega) (by decide), q_standsAt (mn := 40) hR' hW' hl hl20 (by omega) (by omega) (by decide) _ (fun G => ?_)⟩
        have nx : ∀ x : Int32 × Int32, x = fo (bdF n last kd bd V w) (0, -1) (i + 1) → wl_X5_bed_25 (fun r2 SR1 => a = r2 ∧ Inv (uI S 13 b) SR1) f (nI w) (nI (bd w)) x.1 x.2 (nI i + 1) (uA (uA S' 13 (upd (vA S' 13) w (nI i))) 15 G) := by
          intro x hx9
          have v13 : vA (uA (uA S' 13 (upd (vA S' 13) w (nI i))) 15 G) 13 = upd (vA S' 13) w (nI i) := vA_uA S' 13 _
          have h9 := ih (x, uA (uA S' 13 (upd (vA S' 13) w (nI i))) 15 G) ⟨hx9, G, (by
            rw [v13]
            conv => lhs; rw [show S' = _ from eS']
            unfold uA va_up
            simp only [Prod.mk.injEq, true_and, and_true]
            funext k
            by_cases c1 : k = 15
            · subst c1; simp
            · by_cases c2 : k = 13
              · subst c2; simp
                rfl
              · simp [c1, c2]), fun k hk c => by
            rw [v13]
            simp only [up]
            rw [if_neg c]
            exact hk' k hk c⟩
          rw [← nI_1] at h9
          exact h9
        have hb : fo (bdF n last kd bd V w) (0, -1) (i + 1) = bdF n last kd bd V w i (a', b') := by rw [show ((a', b') : Int32 × Int32) = _ from hx']; rfl
        unfold bdF at hb
        refine ⟨fun c => yes c ?_, fun c => no c ?_⟩
        · rw [if_pos c] at hb
          exact nx (a', b') hb.symm
        · rw [if_neg c] at hb
          exact nx (nI i, _) hb.symm
    · intro f i ⟨⟨a, b⟩, S⟩ hi ⟨hx, oS, hj⟩ ih
      show wb_X4_bed_34 (fun r SC1 => wp_X5_bed (nI w) R (fun r2 SR1 => r = r2 ∧ Inv SC1 SR1)) (fun x1 x2 x3 x4 S => wl_X4_bed_34 (fun r SC1 => wp_X5_bed (nI w) R (fun r2 SR1 => r = r2 ∧ Inv SC1 SR1)) f x1 x2 x3 x4 S) (nI w) a b (nI i) S
      unfold wb_X4_bed_34 wb_X4_bed_99
      rw [show vI S 27 = nI last from (line_J hL oS).2.1, nI_clamp (show w < 2 ^ 31 by omega), show vI (uA S 111 (upd (vA S 111) w (nI i))) 29 = nI (V 2) from (line_J hL oS).2.2.1]
      have hW' := okW_bd hW w i (by omega)
      have j' : jn (uA S 111 (upd (vA S 111) w (nI i))) n last kd (setV bd w i) V := by
        have key : ∀ q, jn S n last kd q V → (∀ k, ¬ k = w → q k = bd k) → jn (uA S 111 (upd (vA S 111) w (nI i))) n last kd (setV bd w i) V := by
          intro q ⟨a1, a2, a3, a4⟩ hq
          refine ⟨a1, a2, a3, fun k hk => ⟨?_, (a4 k hk).2⟩⟩
          rw [vA_uA]
          simp only [up]
          unfold setV
          by_cases c : k = w
          · rw [if_pos c, if_pos c]
          · rw [if_neg c, if_neg c, ← hq k c]
            exact (a4 k hk).1
        rcases hj with hj | ⟨q, hj⟩
        · exact key bd hj (fun _ _ => rfl)
        · exact key _ hj (fun k hk => by unfold setV; rw [if_neg hk])
      refine no (nI_nlt (by omega) (by omega)) ⟨vp_in_nI (by omega) (by decide), q_ride (mn := 40) j' hW' hl hl20 (by omega) (by omega) _ (fun S2 o2 j2 _ _ ht => ?_)⟩
      refine q_minutesAt (mn := 40) (fun m hm => by have := (it_ok hW' hl hl20 (by omega) m hm).2; omega) (by omega) (by decide) ht _ ?_
      have oS2 := offJ_trans (offJ_uA oS 111 (upd (vA S 111) w (nI i)) (by decide)) o2
      have hb : fo (bdF n last kd bd V w) (0, -1) (i + 1) = bdF n last kd bd V w i (a, b) := by rw [show ((a, b) : Int32 × Int32) = _ from hx]; rfl
      unfold bdF at hb
      refine ⟨fun c => ?_, fun c => ?_⟩
      · rw [if_pos c] at hb
        have h9 := ih ((a, b), S2) ⟨hb.symm, oS2, Or.inr ⟨i, j2⟩⟩
        rw [← nI_1] at h9
        exact h9
      · rw [if_neg c] at hb
        have h9 := ih ((nI i, _), S2) ⟨hb.symm, oS2, Or.inr ⟨i, j2⟩⟩
        rw [← nI_1] at h9
        exact h9
  · rw [if_neg h1]
    refine yes' rfl ?_
    show wp_X5_bed _ _ _
    unfold wp_X5_bed
    rw [q_isOne hn _ R hR.1, if_neg h1]
    exact yes' rfl ⟨rfl, hI⟩
