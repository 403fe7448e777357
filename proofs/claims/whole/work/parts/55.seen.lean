/-! what was seen -/
def ft (n last : Nat) (kd bd W : Nat → Nat) (rv : Nat → Int32) : Nat → Bool
  | 0 => true
  | k + 1 => ft n last kd bd W rv k && decide (nI (it n last kd bd W (k + 1) 1) = rv k)
theorem ft_mono {n last : Nat} {kd bd W : Nat → Nat} {rv : Nat → Int32} {i : Nat} (h : ft n last kd bd W rv i = false) : ∀ k, ft n last kd bd W rv (i + k) = false
  | 0 => h
  | k + 1 => by
    show (ft n last kd bd W rv (i + k) && _) = false
    rw [ft_mono h k]
    rfl
theorem ft_f {n last : Nat} {kd bd W : Nat → Nat} {rv : Nat → Int32} {i z : Nat} (h : ft n last kd bd W rv i = false) (hz : i ≤ z) : ft n last kd bd W rv z = false := by
  have := ft_mono h (z - i)
  rw [show i + (z - i) = z by omega] at this
  exact this
theorem wl_fs_s (Q : Int32 → sT → Prop) (f : Nat) (x1 x3 x4 : Int32) (S : sT) : wl_X4_fitsSeen_23 Q (f + 1) x1 x3 x4 S = wb_X4_fitsSeen_23 Q (fun x1 x3 x4 S => wl_X4_fitsSeen_23 Q f x1 x3 x4 S) x1 x3 x4 S := rfl
theorem q_fits {S : sT} {n last : Nat} {kd bd V : Nat → Nat} (hJ : jn S n last kd bd V) (hW : okW n kd bd V) (hl : V 1 ≤ last) (hl20 : last ≤ 20) (h0 : V 0 ≤ 800) {a : Nat} (ha : a < 64) {j z : Nat} (hj : j < 6) (hz20 : z ≤ 20) (hz : vA S 200 j = nI z) {rv : Nat → Int32} (hrv : ∀ k, k < z → vA S (300 + j) k = rv k) (Q : Int32 → sT → Prop) (h : ∀ S', offJ S S' → jn S' n last kd bd V → Q (b2 (ft n last kd bd (setV V 2 a) rv z)) S') : wp_X4_fitsSeen (nI j) (nI a) S Q := by
  unfold wp_X4_fitsSeen
  rw [nI_clamp (show j < 2 ^ 31 by omega), hz]
  refine ⟨vp_in_nI hj (by decide), q_rideA hJ hW hl hl20 h0 ha (by omega) _ (fun S' o j' ht => ?_)⟩
  have hc : ∀ k, k < z → vA S' (300 + j) k = rv k := fun k hk => by rw [(o.1 (300 + j) (by omega)).2.1]; exact hrv k hk
  refine pk_loop (fun f i (_ : Unit) => wl_X4_fitsSeen_23 Q f (nI j) (nI z) (nI i) S') (fun i _ => ft n last kd bd (setV V 2 a) rv i = true) z 0 () (Nat.zero_le _) rfl ?_ ?_
  · intro f _ hi
    show wl_X4_fitsSeen_23 Q (f + 1) (nI j) (nI z) (nI z) S'
    rw [wl_fs_s]
    unfold wb_X4_fitsSeen_23
    have h9 := h S' o j'
    rw [hi] at h9
    exact yes (nI_le (Nat.le_refl _) (by omega)) h9
  · intro f i _ hi hfi ih
    show wl_X4_fitsSeen_23 Q (f + 1) (nI j) (nI z) (nI i) S'
    rw [wl_fs_s]
    unfold wb_X4_fitsSeen_23
    rw [nI_1, nI_clamp (show i + 1 < 2 ^ 31 by omega), nI_clamp (show j < 2 ^ 31 by omega), nI_clamp (show i < 2 ^ 31 by omega), ht (i + 1) (by omega), hc i hi]
    refine no (nI_ge hi (by omega)) ⟨vp_in_nI (by omega) (by decide), vp_in_nI hj (by decide), vp_in_nI (by omega) (by decide), fun c => ?_, fun c => ?_⟩
    · exact ih () (by
        show (ft n last kd bd (setV V 2 a) rv i && decide _) = true
        rw [hfi, decide_eq_true c]
        rfl)
    · have h9 := h S' o j'
      have : ft n last kd bd (setV V 2 a) rv (i + 1) = false := by
        show (ft n last kd bd (setV V 2 a) rv i && decide _) = false
        rw [hfi, decide_eq_false c]
        rfl
      rw [ft_f this (by omega)] at h9
      exact h9
theorem wl_ga_s (Q : Int32 → sT → Prop) (f : Nat) (x1 x2 x3 : Int32) (S : sT) : wl_X5_goesAs_4 Q (f + 1) x1 x2 x3 S = wb_X5_goesAs_4 Q (fun x1 x2 x3 S => wl_X5_goesAs_4 Q f x1 x2 x3 S) x1 x2 x3 S := rfl
theorem q_goesAs {S : sT} {n last : Nat} {kd bd W : Nat → Nat} (hR : onR S 15 n last kd bd W) (hW : okW n kd bd W) (hl : W 1 ≤ last) (hl20 : last ≤ 20) (h0 : W 0 ≤ 700) {j z : Nat} (hj : j < 6) (hz20 : z ≤ 20) (hz : vA S 1 j = nI z) {rv : Nat → Int32} (hrv : ∀ k, k < z → vA S 0 (40 * j + k) = rv k) (Q : Int32 → sT → Prop) (h : ∀ F, Q (b2 (ft n last kd bd W rv z)) (uA S 15 F)) : wp_X5_goesAs (nI j) S Q := by
  unfold wp_X5_goesAs
  have hn := hW.1
  have main := pk_loop (fun f i (F : Nat → Int32) => wl_X5_goesAs_4 Q f (nI j) (b2 (ft n last kd bd W rv i)) (nI i) (uA S 15 F)) (fun i F => ft n last kd bd W rv i = true → onR (uA S 15 F) 15 n last kd bd (it n last kd bd W i)) z 0 (vA S 15) (Nat.zero_le _) (fun _ => by rw [uA_id]; exact hR) ?_ ?_
  · obtain ⟨f, hf⟩ := main
    rw [uA_id] at hf
    exact ⟨f, hf⟩
  · intro f F hF
    show wl_X5_goesAs_4 Q (f + 1) (nI j) (b2 (ft n last kd bd W rv z)) (nI z) (uA S 15 F)
    rw [wl_ga_s]
    unfold wb_X5_goesAs_4
    have e1 : vA (uA S 15 F) 1 j = nI z := hz
    rw [nI_clamp (show j < 2 ^ 31 by omega), e1]
    exact ⟨vp_in_nI hj (by decide), yes (nI_le (Nat.le_refl _) (by omega)) ⟨bo_b2 _, h F⟩⟩
  · intro f i F hi hF ih
    show wl_X5_goesAs_4 Q (f + 1) (nI j) (b2 (ft n last kd bd W rv i)) (nI i) (uA S 15 F)
    rw [wl_ga_s]
    unfold wb_X5_goesAs_4 wb_X5_goesAs_41 wb_X5_goesAs_42
    have e1 : vA (uA S 15 F) 1 j = nI z := hz
    have e9 : (40 : Int32) * nI j + nI i = nI (40 * j + i) := by rw [show (40 : Int32) = nI 40 from rfl, pk_mul, nI_add]
    rw [nI_clamp (show j < 2 ^ 31 by omega), e1, e9, nI_clamp (show 40 * j + i < 2 ^ 31 by omega)]
    have nx : ∀ (b : Bool) (G : Nat → Int32), b = ft n last kd bd W rv (i + 1) → (b = true → onR (uA S 15 G) 15 n last kd bd (it n last kd bd W (i + 1))) → wl_X5_goesAs_4 Q f (nI j) (b2 b) (nI i + 1) (uA S 15 G) := by
      intro b G hb hG
      rw [hb] at hG ⊢
      have h9 := ih G hG
      rw [← nI_1] at h9
      exact h9
    refine ⟨vp_in_nI hj (by decide), no (nI_ge hi (by omega)) (cy (fun e => ?_) (fun e => ?_))⟩
    · refine nx false F ?_ (fun h9 => absurd h9 (by decide))
      exact (ft_f e (by omega)).symm
    · obtain ⟨hWi, hli⟩ := it_ok hW hl hl20 (show W 0 ≤ 800 by omega) i (by omega)
      refine q_placeBehind (m := 1) (hF e) hWi hli hl20 (by rw [(it_val n last kd bd W i).1]; omega) (by decide) _ (fun G hG => ⟨vp_in_nI (by omega) (by decide), ?_⟩)
      rw [uA_uA] at hG
      have e0 : vA (uA (uA S 15 F) 15 G) 0 (40 * j + i) = rv i := hrv i hi
      rw [e0, uA_uA]
      have es : ft n last kd bd W rv (i + 1) = decide (nI (it n last kd bd W (i + 1) 1) = rv i) := by
        show (ft n last kd bd W rv i && decide _) = _
        rw [e, Bool.true_and]
      refine ⟨fun c => nx false G ?_ (fun h9 => absurd h9 (by decide)), fun c => nx true G ?_ (fun _ => hG)⟩
      · rw [es]; exact (decide_eq_false c).symm
      · rw [es]; exact (decide_eq_true c).symm
theorem wl_rs_s (Q : Int32 → sT → Prop) (f : Nat) (x1 x3 x4 : Int32) (S : sT) : wl_X4_refusalOfSeen_46 Q (f + 1) x1 x3 x4 S = wb_X4_refusalOfSeen_46 Q (fun x1 x3 x4 S => wl_X4_refusalOfSeen_46 Q f x1 x3 x4 S) x1 x3 x4 S := rfl
theorem wl_rr_s (Q : Int32 → sT → Prop) (f : Nat) (x1 x3 : Int32) (S : sT) : wl_X5_refusesRow_40 Q (f + 1) x1 x3 S = wb_X5_refusesRow_40 Q (fun x1 x3 S => wl_X5_refusesRow_40 Q f x1 x3 S) x1 x3 S := rfl
theorem below_in (x : Int32) {l : Nat} (hl : l ≤ 20) : (0 ≤ x ∧ x ≤ nI l) ↔ (0 ≤ x ∧ x < nI (l + 1)) := by
  rw [← nI_1]
  have h0 : 0 ≤ nI l := nI_pos' (by omega)
  have h1 : nI l ≤ nI 20 := nI_le hl (by decide)
  have h2 : nI 20 = 20 := rfl
  grind
theorem q_seen {C R : sT} (hI : Inv C R) {last j : Nat} (hlC : vI C 27 = nI last) (hlR : vI R 10 = nI last) (hl20 : last ≤ 20) (hj : j < 6) : (∃ f, f < 6 ∧ (∀ Q : Int32 → sT → Prop, Q (-3) (fdC f C) → wp_X4_refusalOfSeen (nI j) C Q) ∧ (∀ Q : Int32 → sT → Prop, Q (-3) (fdR f R) → wp_X5_refusesRow (nI j) R Q)) ∨ (∃ z, 1 ≤ z ∧ z ≤ 20 ∧ vA R 1 j = nI z ∧ vA C 200 j = nI z ∧ (∀ k, k < z → vA C (300 + j) k = vA R 0 (40 * j + k)) ∧ (∀ Q : Int32 → sT → Prop, Q 0 C → wp_X4_refusalOfSeen (nI j) C Q) ∧ (∀ Q : Int32 → sT → Prop, Q 0 R → wp_X5_refusesRow (nI j) R Q)) := by
  obtain ⟨hs, hz, hcell⟩ := hI.2.1 j hj
  have hcl : (nI j).toNatClampNeg = j := nI_clamp (by omega)
  rcases hz with hz | ⟨z, hz40, hz⟩
  · left
    refine ⟨1, by decide, fun Q h => ?_, fun Q h => ?_⟩
    · unfold wp_X4_refusalOfSeen
      exact eS_no 0 (by decide) hj (hs.trans hz) (no (by decide) h)
    · unfold wp_X5_refusesRow
      rw [hcl, hz]
      exact ⟨vp_in_nI hj (by decide), no (by decide) (q_foundR 1 (by decide) R _ h)⟩
  · have hsC := hs.trans hz
    have p0 : (0 : Int32) ≤ nI z := nI_pos' (by omega)
    have l1 : nI z < 1 ↔ z < 1 := nI_ltI (b := 1) (by omega) (by decide)
    have l20 : nI z ≤ 20 ↔ z ≤ 20 := nI_leI (b := 20) (by omega) (by decide)
    have i20 : ((1 : Int32) ≤ nI z ∧ nI z ≤ 20) ↔ (1 ≤ z ∧ z ≤ 20) := by
      rw [l20, show (1 : Int32) ≤ nI z ↔ 1 ≤ z from nI_leI (a := 1) (by decide) (by omega)]
    by_cases hzz : 1 ≤ z ∧ z ≤ 20
    · have base : ∀ Q : Int32 → sT → Prop, (∃ f : Nat, wl_X4_refusalOfSeen_46 Q f (nI j) (nI z) 0 C) → wp_X4_refusalOfSeen (nI j) C Q := by
        intro Q h
        unfold wp_X4_refusalOfSeen
        refine eS_yes 0 (by decide) hj (by rw [hsC]; exact nIne (by omega)) (yes rfl ⟨vp_in_nI hj (by decide), ?_⟩)
        rw [hcl, hsC, l1, l20]
        exact no (by omega) (yes (by omega) h)
      have baseR : ∀ Q : Int32 → sT → Prop, (∃ f : Nat, wl_X5_refusesRow_40 Q f (nI j) 0 R) → wp_X5_refusesRow (nI j) R Q := by
        intro Q h
        unfold wp_X5_refusesRow
        rw [hcl, hz]
        refine ⟨vp_in_nI hj (by decide), yes p0 ⟨vp_in_nI hj (by decide), ?_⟩⟩
        rw [q_in _ 1 20 1 20 (by decide) (by decide), if_pos (i20.mpr hzz)]
        exact no' n10 h
      have e9 : ∀ i, (40 : Int32) * nI j + nI i = nI (40 * j + i) := fun i => by rw [show (40 : Int32) = nI 40 from rfl, pk_mul, nI_add]
      obtain ⟨e, hE, hno, hex⟩ : ∃ e, e ≤ z ∧ (∀ m, m < e → (0 ≤ vA R 0 (40 * j + m) ∧ vA R 0 (40 * j + m) < nI (last + 1))) ∧ (e = z ∨ (e < z ∧ ¬ (0 ≤ vA R 0 (40 * j + e) ∧ vA R 0 (40 * j + e) < nI (last + 1)))) := by
        by_cases h : ∃ m, m < z ∧ ¬ (0 ≤ vA R 0 (40 * j + m) ∧ vA R 0 (40 * j + m) < nI (last + 1))
        · obtain ⟨k, hk, hm⟩ := pk_least (fun m => m < z ∧ ¬ (0 ≤ vA R 0 (40 * j + m) ∧ vA R 0 (40 * j + m) < nI (last + 1))) h
          exact ⟨k, by omega, fun m hm2 => Classical.byContradiction (fun h9 => hm m hm2 ⟨by omega, h9⟩), Or.inr hk⟩
        · exact ⟨z, by omega, fun m hm => Classical.byContradiction (fun h9 => h ⟨m, by omega, h9⟩), Or.inl rfl⟩
      have lc : ∀ Q : Int32 → sT → Prop, (e = z → Q 0 C) → (e < z → Q (-3) (fdC 3 C)) → ∃ f : Nat, wl_X4_refusalOfSeen_46 Q f (nI j) (nI z) 0 C := by
        intro Q a1 a2
        refine pk_loop (fun f i (_ : Unit) => wl_X4_refusalOfSeen_46 Q f (nI j) (nI z) (nI i) C) (fun i _ => True) e 0 () (Nat.zero_le _) trivial ?_ ?_
        · intro f _ _
          show wl_X4_refusalOfSeen_46 Q (f + 1) (nI j) (nI z) (nI e) C
          rw [wl_rs_s]
          unfold wb_X4_refusalOfSeen_46
          rcases hex with he | ⟨he, hbad⟩
          · exact yes (nI_le (by omega) (by omega)) (a1 he)
          · refine no (nI_ge he (by omega)) ⟨vp_in_nI hj (by decide), vp_in_nI (by omega) (by decide), ?_⟩
            rw [hcl, nI_clamp (show e < 2 ^ 31 by omega), hlC, nI_1, q_isBelow, hcell e (by omega), if_neg hbad]
            exact yes' rfl (q_foundC 3 (by decide) C _ (a2 he))
        · intro f i _ hi _ ih
          show wl_X4_refusalOfSeen_46 Q (f + 1) (nI j) (nI z) (nI i) C
          rw [wl_rs_s]
          unfold wb_X4_refusalOfSeen_46
          refine no (nI_ge (by omega) (by omega)) ⟨vp_in_nI hj (by decide), vp_in_nI (by omega) (by decide), ?_⟩
          rw [hcl, nI_clamp (show i < 2 ^ 31 by omega), hlC, nI_1, q_isBelow, hcell i (by omega), if_pos (hno i hi)]
          have h9 := ih () trivial
          rw [← nI_1] at h9
          exact no' n10 h9
      have lr : ∀ Q : Int32 → sT → Prop, (e = z → Q 0 R) → (e < z → Q (-3) (fdR 3 R)) → ∃ f : Nat, wl_X5_refusesRow_40 Q f (nI j) 0 R := by
        intro Q a1 a2
        refine pk_loop (fun f i (_ : Unit) => wl_X5_refusesRow_40 Q f (nI j) (nI i) R) (fun i _ => True) e 0 () (Nat.zero_le _) trivial ?_ ?_
        · intro f _ _
          show wl_X5_refusesRow_40 Q (f + 1) (nI j) (nI e) R
          rw [wl_rr_s]
          unfold wb_X5_refusesRow_40
          rw [hcl, hz, e9, nI_clamp (show 40 * j + e < 2 ^ 31 by omega), hlR]
          refine ⟨vp_in_nI hj (by decide), ?_⟩
          rcases hex with he | ⟨he, hbad⟩
          · exact yes (nI_le (by omega) (by omega)) (a1 he)
          · refine no (nI_ge he (by omega)) ⟨vp_in_nI (by omega) (by decide), ?_⟩
            rw [q_in _ 0 (nI last) 0 _ (by decide) rfl, if_neg (fun h9 => hbad ((below_in _ hl20).mp h9))]
            exact yes' rfl (q_foundR 3 (by decide) R _ (a2 he))
        · intro f i _ hi _ ih
          show wl_X5_refusesRow_40 Q (f + 1) (nI j) (nI i) R
          rw [wl_rr_s]
          unfold wb_X5_refusesRow_40
          rw [hcl, hz, e9, nI_clamp (show 40 * j + i < 2 ^ 31 by omega), hlR]
          refine ⟨vp_in_nI hj (by decide), no (nI_ge (by omega) (by omega)) ⟨vp_in_nI (by omega) (by decide), ?_⟩⟩
          rw [q_in _ 0 (nI last) 0 _ (by decide) rfl, if_pos ((below_in _ hl20).mpr (hno i hi))]
          have h9 := ih () trivial
          rw [← nI_1] at h9
          exact no' n10 h9
      rcases hex with he | ⟨he, hbad⟩
      · right
        exact ⟨z, hzz.1, hzz.2, hz, hsC, fun k hk => hcell k (by omega), fun Q h => base Q (lc Q (fun _ => h) (fun h9 => by omega)), fun Q h => baseR Q (lr Q (fun _ => h) (fun h9 => by omega))⟩
      · left
        exact ⟨3, by decide, fun Q h => base Q (lc Q (fun h9 => by omega) (fun _ => h)), fun Q h => baseR Q (lr Q (fun h9 => by omega) (fun _ => h))⟩
    · left
      refine ⟨5, by decide, fun Q h => ?_, fun Q h => ?_⟩
      · unfold wp_X4_refusalOfSeen wb_X4_refusalOfSeen_37
        refine eS_yes 0 (by decide) hj (by rw [hsC]; exact nIne (by omega)) (yes rfl ⟨vp_in_nI hj (by decide), ?_⟩)
        rw [hcl, hsC, l1, l20]
        by_cases c : z < 1
        · exact yes c (q_foundC 5 (by decide) C _ h)
        · exact no c (no (by omega) (q_foundC 5 (by decide) C _ h))
      · unfold wp_X5_refusesRow
        rw [hcl, hz]
        refine ⟨vp_in_nI hj (by decide), yes p0 ⟨vp_in_nI hj (by decide), ?_⟩⟩
        rw [q_in _ 1 20 1 20 (by decide) (by decide), if_neg (fun h9 => hzz (i20.mp h9))]
        exact yes' rfl (q_foundR 5 (by decide) R _ h)
/-! on whose account -/
def acF (n last : Nat) (kd bd V : Nat → Nat) (rv : Nat → Int32) (z s : Nat) (x : Nat × Nat) : Nat × Nat := if ft n last kd bd (setV V 2 s) rv z = true then (x.1 + 1, x.2 &&& s) else x
theorem and_tab : ∀ a, a < 64 → ∀ b, b < 64 → nI a &&& nI b = nI (a &&& b) := by decide +kernel
theorem and_lt64 {a b : Nat} (ha : a < 64) : a &&& b < 64 := Nat.lt_of_le_of_lt Nat.and_le_left ha
theorem acF_bd (n last : Nat) (kd bd V : Nat → Nat) (rv : Nat → Int32) (z i0 : Nat) (h0 : i0 < 64) : ∀ e, (fo (acF n last kd bd V rv z) (0, i0) e).1 ≤ e ∧ (fo (acF n last kd bd V rv z) (0, i0) e).2 < 64
  | 0 => ⟨Nat.le_refl 0, h0⟩
  | e + 1 => by
    obtain ⟨h1, h2⟩ := acF_bd n last kd bd V rv z i0 h0 e
    show (acF n last kd bd V rv z e (fo (acF n last kd bd V rv z) (0, i0) e)).1 ≤ e + 1 ∧ (acF n last kd bd V rv z e (fo (acF n last kd bd V rv z) (0, i0) e)).2 < 64
    generalize fo (acF n last kd bd V rv z) (0, i0) e = X at h1 h2 ⊢
    have u : ∀ x : Nat × Nat, acF n last kd bd V rv z e x = if ft n last kd bd (setV V 2 e) rv z = true then (x.1 + 1, x.2 &&& e) else x := fun _ => rfl
    rw [u]
    split
    · exact ⟨by show X.1 + 1 ≤ e + 1; omega, and_lt64 h2⟩
    · exact ⟨by omega, h2⟩
theorem acF_eq (n last : Nat) (kd bd V : Nat → Nat) (rv : Nat → Int32) (z : Nat) (hn : n ≤ 6) : ∀ e, e ≤ 2 ^ n → (fo (acF n last kd bd V rv z) (0, 2 ^ n - 1) e).1 = (fo (acF n last kd bd V rv z) (0, 63) e).1 ∧ (((fo (acF n last kd bd V rv z) (0, 2 ^ n - 1) e).1 = 0 ∧ (fo (acF n last kd bd V rv z) (0, 2 ^ n - 1) e).2 = 2 ^ n - 1 ∧ (fo (acF n last kd bd V rv z) (0, 63) e).2 = 63) ∨ (fo (acF n last kd bd V rv z) (0, 2 ^ n - 1) e).2 = (fo (acF n last kd bd V rv z) (0, 63) e).2)
  | 0, _ => ⟨rfl, Or.inl ⟨rfl, rfl, rfl⟩⟩
  | e + 1, he => by
    obtain ⟨h1, h2⟩ := acF_eq n last kd bd V rv z hn e (by omega)
    have p64 : 2 ^ n ≤ 2 ^ 6 := Nat.pow_le_pow_right (by decide) hn
    show (acF n last kd bd V rv z e (fo (acF n last kd bd V rv z) (0, 2 ^ n - 1) e)).1 = (acF n last kd bd V rv z e (fo (acF n last kd bd V rv z) (0, 63) e)).1 ∧ (((acF n last kd bd V rv z e (fo (acF n last kd bd V rv z) (0, 2 ^ n - 1) e)).1 = 0 ∧ (acF n last kd bd V rv z e (fo (acF n last kd bd V rv z) (0, 2 ^ n - 1) e)).2 = 2 ^ n - 1 ∧ (acF n last kd bd V rv z e (fo (acF n last kd bd V rv z) (0, 63) e)).2 = 63) ∨ (acF n last kd bd V rv z e (fo (acF n last kd bd V rv z) (0, 2 ^ n - 1) e)).2 = (acF n last kd bd V rv z e (fo (acF n last kd bd V rv z) (0, 63) e)).2)
    generalize fo (acF n last kd bd V rv z) (0, 2 ^ n - 1) e = X at h1 h2 ⊢
    generalize fo (acF n last kd bd V rv z) (0, 63) e = Y at h1 h2 ⊢
    have u : ∀ x : Nat × Nat, acF n last kd bd V rv z e x = if ft n last kd bd (setV V 2 e) rv z = true then (x.1 + 1, x.2 &&& e) else x := fun _ => rfl
    rw [u, u]
    by_cases c : ft n last kd bd (setV V 2 e) rv z = true
    · rw [if_pos c, if_pos c]
      refine ⟨?_, Or.inr ?_⟩
      · show X.1 + 1 = Y.1 + 1
        omega
      · show X.2 &&& e = Y.2 &&& e
        rcases h2 with ⟨_, a2, a3⟩ | a1
        · rw [a2, a3, Nat.and_comm, Nat.and_comm 63, Nat.and_two_pow_sub_one_eq_mod, show (63 : Nat) = 2 ^ 6 - 1 from rfl, Nat.and_two_pow_sub_one_eq_mod, Nat.mod_eq_of_lt (by omega), Nat.mod_eq_of_lt (by omega)]
        · rw [a1]
    · rw [if_neg c, if_neg c]
      exact ⟨h1, h2⟩
