theorem q_wayTwo {C S : sT} (oS : offK C S) {n last : Nat} {kd bd V : Nat → Nat} (hL : lineC C n last kd bd V) (hW : okW n kd bd V) (hl : V 1 ≤ last) (hl20 : last ≤ 20) (h0 : V 0 ≤ 800) (hj : jn S n last kd bd V) (hlr : lrn S n kd V) {m pl : Nat} (hm : m ≤ 40) (hpl : pl ≤ 20) {g : Nat → Nat} (hg : ∀ w1, w1 < 10 * n → 10 * (w1 / 10 + 1) ≤ g w1 ∧ g w1 ≤ 10 * n ∧ (∀ w, 10 * (w1 / 10 + 1) ≤ w → w < g w1 → (mt bd V pl (w1 / 10) && (mt bd V pl (w / 10) && sdF n last kd bd m pl (sp (sp V w1) w))) = false) ∧ (g w1 = 10 * n ∨ (g w1 < 10 * n ∧ (mt bd V pl (w1 / 10) && (mt bd V pl (g w1 / 10) && sdF n last kd bd m pl (sp (sp V w1) (g w1)))) = true))) {o : Nat} (ho : o ≤ 10 * n) (hno : ∀ w, w < o → g w = 10 * n) (hex : o = 10 * n ∨ (o < 10 * n ∧ ¬ g o = 10 * n)) (Q : Int32 → sT → Prop) (h : ∀ S', offK C S' → Q (if o = 10 * n then -9 else nI (1000 * o + g o)) S') : wp_X4_wayByTwo (nI m) (nI pl) S Q := by
  have hn := hW.1
  unfold wp_X4_wayByTwo
  have key : ∀ (f w : Nat) (S : sT), w < 10 * n → offK C S → jn S n last kd bd V → lrn S n kd V → (¬ g w = 10 * n → ∀ S', offK C S' → Q (nI (1000 * w + g w)) S') → (g w = 10 * n → ∀ S', offK C S' → jn S' n last kd bd V → lrn S' n kd V → wl_X4_wayByTwo_2 Q f (nI m) (nI pl) (nI (w + 1)) S') → wl_X4_wayByTwo_2 Q (f + 1) (nI m) (nI pl) (nI w) S := by
    intro f w S hw oS hj hlr a1 a2
    rw [wl_w2_s]
    unfold wb_X4_wayByTwo_2 wb_X4_wayByTwo_109
    have hLS := line_K hL oS
    obtain ⟨hi, hs, w1, w2, w3, w4⟩ := way_n hn hw
    obtain ⟨g1, g2, g3, g4⟩ := hg w hw
    rw [hLS.1, show nI n * 10 = nI (n * 10) from pk_mul n 10, w3, w4, w2, w1, nI_1, show nI (w / 10) + 1 = nI (w / 10 + 1) from nI_1 _, show nI (w / 10 + 1) * 10 = nI (10 * (w / 10 + 1)) from by rw [show (10 : Int32) = nI 10 from rfl, pk_mul, Nat.mul_comm]]
    refine no (nI_ge (by omega) (by omega)) (q_matters hLS hW hpl hi _ (cy (fun em => ?_) (fun em => ?_)))
    · have eg : g w = 10 * n := by
        rcases g4 with g4 | ⟨_, g4⟩
        · exact g4
        · rw [em, Bool.false_and] at g4
          exact absurd g4 (by decide)
      exact a2 eg S oS hj hlr
    · refine ⟨vp_in_nI (by omega) (by decide), vp_in_nI (by omega) (by decide), vp_in_nI hs (by decide), vp_in_nI (by omega) (by decide), fun S6 e6 => ?_⟩
      have j6 : jn S6 n last kd bd (sp V w) := by
        rw [e6]
        exact jn_sup hj (fun m hm => by rw [hlr (w / 10) hi (w % 10) hs m hm])
      have o6 : offJ S S6 := by
        rw [e6]
        exact offJ_uB (offJ_refl S) 110 _ (by decide)
      refine q_wayOne (e := g w) (W := sp V w) (offK_trans oS (offK_of o6)) hL hW (okW_sp hW w) (sp_at (by omega)) (sp_at (by omega)) (sp_at (by omega)) hl hl20 h0 j6 (lrn_J hlr o6) hm hpl g1 g2 (fun w9 h1 h2 => ?_) ?_ _ (fun S7 k7 j7 l7 => ⟨vp_in_nI (by omega) (by decide), ?_⟩)
      · have := g3 w9 h1 h2
        rw [em, Bool.true_and] at this
        exact this
      · rw [em, Bool.true_and] at g4
        exact g4
      · have o8 := offJ_uB (offJ_refl S7) 110 (vp_updL (vB S7 110) (w / 10) (vB S 110 (w / 10))) (by decide)
        have j8 : jn (uB S7 110 (vp_updL (vB S7 110) (w / 10) (vB S 110 (w / 10)))) n last kd bd V := by
          have h9 := jn_sup (i := w / 10) (s := V (3 + w / 10)) (b := vB S 110 (w / 10)) j7 (fun m hm => by
            rw [(hj.2.2.2 (w / 10) hi).2 m hm, sp_at (by omega)])
          unfold sp at h9
          rw [setV_setV, setV_id] at h9
          exact h9
        have l8 := lrn_J l7 o8
        have k8 := offK_trans k7 (offK_of o8)
        by_cases c : g w = 10 * n
        · rw [if_pos c]
          exact yes rfl (a2 c _ k8 j8 l8)
        · rw [if_neg c]
          refine no (nne9 (by omega)) ?_
          rw [show (1000 : Int32) * nI w = nI (1000 * w) from pk_mul 1000 w, nI_add]
          exact a1 c _ k8
  refine pk_loop (fun f i (S : sT) => wl_X4_wayByTwo_2 Q f (nI m) (nI pl) (nI i) S) (fun i S => offK C S ∧ jn S n last kd bd V ∧ lrn S n kd V) o 0 S (Nat.zero_le _) ⟨oS, hj, hlr⟩ ?_ ?_
  · intro f S ⟨oS, hj, hlr⟩
    show wl_X4_wayByTwo_2 Q (f + 1) (nI m) (nI pl) (nI o) S
    rcases hex with hx | ⟨hx1, hx2⟩
    · rw [wl_w2_s]
      unfold wb_X4_wayByTwo_2
      have hLS := line_K hL oS
      rw [hLS.1, show nI n * 10 = nI (n * 10) from pk_mul n 10]
      have h9 := h S oS
      rw [if_pos hx] at h9
      exact yes (nI_le (by omega) (by omega)) h9
    · refine key f o S hx1 oS hj hlr (fun _ S' o' => ?_) (fun h9 => absurd h9 hx2)
      have h9 := h S' o'
      rw [if_neg (by omega)] at h9
      exact h9
  · intro f i S hi ⟨oS, hj, hlr⟩ ih
    show wl_X4_wayByTwo_2 Q (f + 1) (nI m) (nI pl) (nI i) S
    exact key f i S (by omega) oS hj hlr (fun h9 => absurd (hno i hi) h9) (fun _ S' o' j' l' => ih S' ⟨o', j', l'⟩)
/-! the reference's -/
theorem q_standsThen {S : sT} {n last : Nat} {kd bd W : Nat → Nat} (hR : onR S 15 n last kd bd W) (hW : okW n kd bd W) (hl : W 1 ≤ last) (hl20 : last ≤ 20) (h0 : W 0 ≤ 800) {m pl : Nat} (hm : m ≤ 40) (hpl : pl ≤ 20) (Q : Int32 → sT → Prop) (h : ∀ F, Q (b2 (sdF n last kd bd m pl W)) (uA S 15 F)) : wp_X5_standsThen (nI pl) (nI m) S Q := by
  unfold wp_X5_standsThen
  refine q_placeBehind hR hW hl hl20 h0 (show m ≤ 100 by omega) _ (fun F hF => ?_)
  obtain ⟨l1, l2⟩ := it_ok hW hl hl20 h0 m (by omega)
  rw [nI_eq (by omega) (by omega)]
  have h9 := h F
  unfold sdF at h9
  refine ⟨fun c => ?_, fun c => q_standsOn rfl hF l1 hl20 _ (cy (fun e => ?_) (fun e => ?_))⟩
  · rw [decide_eq_false c] at h9
    exact h9
  · rw [e, Bool.and_false] at h9
    exact h9
  · rw [e, decide_eq_true c] at h9
    exact h9
theorem onR_sup {S : sT} {n last : Nat} {kd bd W : Nat → Nat} (hR : onR S 15 n last kd bd W) (i s : Nat) : onR (uA S 15 (upd (vA S 15) (3 + i) (nI s))) 15 n last kd bd (setV W (3 + i) s) := by
  refine onR_go hR (fun k hk => ?_)
  simp only [up]
  unfold setV
  by_cases c : k = 3 + i
  · rw [if_pos c, if_pos c]
  · rw [if_neg c, if_neg c]; exact hR.2.2.2 k hk
/-- what is laid aside for one, for two -/
def spO (W : Nat → Nat) (o : Option Nat) : Nat → Nat := match o with
  | none => W
  | some w => sp W w
theorem okW_spO {n : Nat} {kd bd W : Nat → Nat} (hW : okW n kd bd W) (o : Option Nat) : okW n kd bd (spO W o) := by
  cases o
  · exact hW
  · exact okW_sp hW _
theorem spO_at {W : Nat → Nat} {o : Option Nat} {j : Nat} (h : j < 3) : spO W o j = W j := by
  cases o
  · rfl
  · exact sp_at (by omega)
theorem q_isFeast {R : sT} {n last : Nat} {kd bd V : Nat → Nat} (hR : onR R 14 n last kd bd V) (hW : okW n kd bd V) (hl : V 1 ≤ last) (hl20 : last ≤ 20) (h0 : V 0 ≤ 800) {m pl : Nat} (hm : m ≤ 40) (hpl : pl ≤ 20) (o1 o2 : Option Nat) (ho : ∀ w, o1 = some w ∨ o2 = some w → w < 10 * n) (Q : Int32 → sT → Prop) (h : ∀ F, Q (b2 (sdF n last kd bd m pl (spO (spO V o1) o2))) (uA R 15 F)) : wp_X5_isFeast (nI pl) (nI m) (enR o1) (enR o2) R Q := by
  have hn := hW.1
  unfold wp_X5_isFeast
  refine q_layAside hR hn _ (fun G hG => ?_)
  have k2 : ∀ S W, onR S 15 n last kd bd W → okW n kd bd W → W 1 ≤ last → W 0 ≤ 800 → (∀ F, Q (b2 (sdF n last kd bd m pl (spO W o2))) (uA S 15 F)) → wb_X5_isFeast_25 Q (nI pl) (nI m) (enR o2) S := by
    intro S W hS hWW w1 w0 hQ
    unfold wb_X5_isFeast_25 wb_X5_isFeast_49
    cases e2 : o2 with
    | none =>
      rw [e2] at hQ
      exact yes rfl (q_standsThen hS hWW w1 hl20 w0 hm hpl _ (fun F => ⟨bo_b2 _, hQ F⟩))
    | some w =>
      rw [e2] at hQ
      have hw := ho w (Or.inr e2)
      obtain ⟨hi, hs, d1, d2, d3, d4⟩ := way_n hn hw
      refine no (nne9 (z := w) (by omega)) ?_
      show vp_in (3 + nI w / 10) 9 ∧ wp_X5_standsThen (nI pl) (nI m) (uA S 15 (upd (vA S 15) (3 + nI w / 10).toNatClampNeg (nI w - nI w / 10 * 10))) _
      rw [d2, d1, show (3 : Int32) + nI (w / 10) = nI (3 + w / 10) from nI_add 3 _, nI_clamp (show 3 + w / 10 < 2 ^ 31 by omega)]
      refine ⟨vp_in_nI (by omega) (by decide), q_standsThen (onR_sup hS (w / 10) (w % 10)) (okW_sp hWW w) (by rw [show setV W (3 + w / 10) (w % 10) 1 = W 1 from sp_at (w1 := w) (by omega)]; exact w1) hl20 (by rw [show setV W (3 + w / 10) (w % 10) 0 = W 0 from sp_at (w1 := w) (by omega)]; exact w0) hm hpl _ (fun F => ⟨bo_b2 _, ?_⟩)⟩
      rw [uA_uA]
      exact hQ F
  cases e1 : o1 with
  | none =>
    rw [e1] at h
    refine yes rfl (k2 _ V hG hW hl h0 (fun F => ?_))
    rw [uA_uA]
    exact h F
  | some w =>
    rw [e1] at h
    have hw := ho w (Or.inl e1)
    obtain ⟨hi, hs, d1, d2, d3, d4⟩ := way_n hn hw
    refine no (nne9 (z := w) (by omega)) ?_
    show vp_in (3 + nI w / 10) 9 ∧ wb_X5_isFeast_25 Q (nI pl) (nI m) (enR o2) (uA (uA R 15 G) 15 (upd (vA (uA R 15 G) 15) (3 + nI w / 10).toNatClampNeg (nI w - nI w / 10 * 10)))
    rw [d2, d1, show (3 : Int32) + nI (w / 10) = nI (3 + w / 10) from nI_add 3 _, nI_clamp (show 3 + w / 10 < 2 ^ 31 by omega)]
    refine ⟨vp_in_nI (by omega) (by decide), k2 _ (sp V w) (onR_sup hG (w / 10) (w % 10)) (okW_sp hW w) (by rw [sp_at (by omega)]; exact hl) (by rw [sp_at (by omega)]; exact h0) (fun F => ?_)⟩
    rw [uA_uA, uA_uA]
    exact h F
theorem q_isOther {R : sT} {n last : Nat} {kd bd V : Nat → Nat} (hR : onR R 14 n last kd bd V) (hW : okW n kd bd V) {w : Nat} (hw : w < 10 * n) (Q : Int32 → sT → Prop) (h : Q (b2 (oth V w)) R) : wp_X5_isOther (nI w) R Q := by
  have hn := hW.1
  obtain ⟨hi, hs, d1, d2, d3, d4⟩ := way_n hn hw
  have hsu := (hW.2.1 (w / 10) hi).2.2
  unfold wp_X5_isOther
  unfold oth at h
  rw [d2, d1, show (2 : Int32).toNatClampNeg = 2 from rfl, hR.2.2.2 2 (by omega), show (3 : Int32) + nI (w / 10) = nI (3 + w / 10) from nI_add 3 _, nI_clamp (show 3 + w / 10 < 2 ^ 31 by omega)]
  refine ⟨vp_in_nI (n := 2) (by decide) (by decide), q_has hW.2.2.2.2 (by omega) R _ (cy (fun e => ?_) (fun e => ⟨vp_in_nI (by omega) (by decide), ?_⟩))⟩
  · rw [e] at h; exact h
  · rw [hR.2.2.2 (3 + w / 10) (by omega), nI_eq (by omega) (by omega)]
    rw [e] at h
    refine ⟨fun c => ?_, fun c => ?_⟩
    · rw [decide_eq_true c] at h; exact h
    · rw [decide_eq_false c] at h; exact h
