theorem uB_uB (S : sT) (k : Nat) (f g : Nat → Int64) : uB (uB S k f) k g = uB S k g := by
  unfold uB
  simp only [Prod.mk.injEq, true_and, and_true]
  funext j
  unfold va_up
  split <;> rfl
theorem uB_id (S : sT) (k : Nat) : uB S k (vB S k) = S := by
  unfold uB vB
  obtain ⟨a, b, c, e, t⟩ := S
  simp only [Prod.mk.injEq, true_and, and_true]
  funext j
  unfold va_up
  split
  · rename_i h; rw [h]
  · rfl
theorem vB_uB (S : sT) (k : Nat) (f : Nat → Int64) : vB (uB S k f) k = f := by
  simp only [ac, if_true]
theorem q_fillL (k0 : Nat) (hnn : lenCL k0 < 2 ^ 31) (x : Int64) (S : sT) (Q : sT → Prop) (h : ∀ f : Nat → Int64, (∀ j, j < lenCL k0 → f j = x) → Q (uB S k0 f)) : wp_J7_fill_d0a16 k0 x S Q := by
  unfold wp_J7_fill_d0a16
  have h9 := pk_loop (fun n i (f : Nat → Int64) => wl_J7_fill_d0a16_6 k0 Q n x (nI i) (nI (lenCL k0)) (uB S k0 f)) (fun i f => ∀ j, j < i → f j = x) (lenCL k0) 0 (vB S k0) (Nat.zero_le _) (fun j hj => absurd hj (Nat.not_lt_zero j)) ?_ ?_
  · obtain ⟨n, hn⟩ := h9
    rw [uB_id] at hn
    exact ⟨n, hn⟩
  · intro n f hf
    show wb_J7_fill_d0a16_6 k0 Q _ x (nI (lenCL k0)) (nI (lenCL k0)) (uB S k0 f)
    unfold wb_J7_fill_d0a16_6
    exact ⟨fun _ => h f hf, fun hc => absurd (nI_le (Nat.le_refl _) hnn) hc⟩
  · intro n i f hi hf ih
    show wb_J7_fill_d0a16_6 k0 Q _ x (nI i) (nI (lenCL k0)) (uB S k0 f)
    unfold wb_J7_fill_d0a16_6
    refine ⟨fun hc => absurd hc (nI_ge hi hnn), fun _ => ⟨vp_in_nI hi hnn, ?_⟩⟩
    have h2 := ih (vp_updL f i x) (fun j hj => by
      simp only [up]
      by_cases e : j = i
      · rw [if_pos e]
      · rw [if_neg e]
        exact hf j (by omega))
    rw [vB_uB, uB_uB, nI_clamp (Nat.lt_trans hi hnn)]
    rw [← nI_1] at h2
    exact h2
/-! minutes to come -/
def it (n last : Nat) (kd bd V : Nat → Nat) : Nat → Nat → Nat
  | 0 => V
  | m + 1 => go n last kd bd (it n last kd bd V m)
theorem it_val (n last : Nat) (kd bd V : Nat → Nat) : ∀ m, it n last kd bd V m 0 = V 0 + m ∧ ∀ i, 2 ≤ i → it n last kd bd V m i = V i
  | 0 => ⟨rfl, fun _ _ => rfl⟩
  | m + 1 => by
    obtain ⟨h1, h2⟩ := it_val n last kd bd V m
    refine ⟨?_, fun i hi => ?_⟩
    · show it n last kd bd V m 0 + 1 = _
      rw [h1]; omega
    · show go n last kd bd (it n last kd bd V m) i = _
      unfold go
      rw [if_neg (by omega), if_neg (by omega)]
      exact h2 i hi
theorem it_ok {n last : Nat} {kd bd V : Nat → Nat} (hW : okW n kd bd V) (hl : V 1 ≤ last) (hl20 : last ≤ 20) (h0 : V 0 ≤ 800) : ∀ m, m ≤ 100 → okW n kd bd (it n last kd bd V m) ∧ it n last kd bd V m 1 ≤ last
  | 0, _ => ⟨hW, hl⟩
  | m + 1, hm => by
    obtain ⟨h1, h2⟩ := it_ok hW hl hl20 h0 m (by omega)
    exact okW_go h1 h2 hl20 (by rw [(it_val n last kd bd V m).1]; omega)
/-- the state with place p, m minutes on -/
def atV (V : Nat → Nat) (p m : Nat) (i : Nat) : Nat := if i = 0 then V 0 + m else if i = 1 then p else V i
def gs (n : Nat) (kd bd V : Nat → Nat) (p m : Nat) : Bool := fo (stdF kd bd (atV V p m)) false n
theorem stdF_at (kd bd V : Nat → Nat) (p m i : Nat) (a : Bool) : stdF kd bd (atV V p m) i a = (a || (decide (bd i = p) && (bt (V 2) i && dr (kd i) (V (3 + i)) (V 0 + m)))) := by
  unfold stdF drm
  rw [show atV V p m 2 = V 2 from rfl, show atV V p m 1 = p from rfl, show atV V p m 0 = V 0 + m from rfl, show atV V p m (3 + i) = V (3 + i) by unfold atV; rw [if_neg (by omega), if_neg (by omega)]]
theorem fo_or (kd bd W : Nat → Nat) (b : Bool) : ∀ n, fo (stdF kd bd W) b n = (b || fo (stdF kd bd W) false n)
  | 0 => by simp [fo]
  | n + 1 => by
    show stdF kd bd W n (fo (stdF kd bd W) b n) = (b || stdF kd bd W n (fo (stdF kd bd W) false n))
    rw [fo_or kd bd W b n]
    unfold stdF
    rw [Bool.or_assoc]
theorem std_it (n last : Nat) (kd bd V : Nat → Nat) (m : Nat) : std n last kd bd (it n last kd bd V m) = (decide (it n last kd bd V m 1 = last) || gs n kd bd V (it n last kd bd V m 1) m) := by
  unfold std gs
  rw [fo_or]
  congr 1
  refine fo_congr (fun i hi b => ?_)
  obtain ⟨h1, h2⟩ := it_val n last kd bd V m
  rw [stdF_at]
  unfold stdF drm
  rw [h1, h2 2 (by omega), h2 (3 + i) (by omega)]
/-- the class's journey -/
def jn (S : sT) (n last : Nat) (kd bd V : Nat → Nat) : Prop := vI S 114 = nI n ∧ vI S 115 = nI last ∧ vI S 116 = nI (V 1) ∧ ∀ i, i < n → vA S 111 i = nI (bd i) ∧ ∀ m, m ≤ 60 → lb (vB S 110 i) m = dr (kd i) (V (3 + i)) (V 0 + m)
def offJ (C C' : sT) : Prop := (∀ k, ¬ (110 ≤ k ∧ k < 117) → vI C' k = vI C k ∧ vA C' k = vA C k ∧ vB C' k = vB C k) ∧ ∀ k, vL C' k = vL C k
theorem offJ_refl (C : sT) : offJ C C := ⟨fun _ _ => ⟨rfl, rfl, rfl⟩, fun _ => rfl⟩
theorem offJ_trans {A B C : sT} (h1 : offJ A B) (h2 : offJ B C) : offJ A C := ⟨fun k hk => ⟨((h2.1 k hk).1).trans (h1.1 k hk).1, ((h2.1 k hk).2.1).trans (h1.1 k hk).2.1, ((h2.1 k hk).2.2).trans (h1.1 k hk).2.2⟩, fun k => (h2.2 k).trans (h1.2 k)⟩
theorem offJ_uI {A B : sT} (h : offJ A B) (k : Nat) (x : Int32) (hk : 110 ≤ k ∧ k < 117) : offJ A (uI B k x) := ⟨fun m hm => ⟨by simp only [ac]; rw [if_neg (by omega)]; exact (h.1 m hm).1, (h.1 m hm).2.1, (h.1 m hm).2.2⟩, h.2⟩
theorem offJ_uA {A B : sT} (h : offJ A B) (k : Nat) (x : Nat → Int32) (hk : 110 ≤ k ∧ k < 117) : offJ A (uA B k x) := ⟨fun m hm => ⟨(h.1 m hm).1, by simp only [ac]; rw [if_neg (by omega)]; exact (h.1 m hm).2.1, (h.1 m hm).2.2⟩, h.2⟩
theorem offJ_uB {A B : sT} (h : offJ A B) (k : Nat) (x : Nat → Int64) (hk : 110 ≤ k ∧ k < 117) : offJ A (uB B k x) := ⟨fun m hm => ⟨(h.1 m hm).1, (h.1 m hm).2.1, by simp only [ac]; rw [if_neg (by omega)]; exact (h.1 m hm).2.2⟩, h.2⟩
theorem q_gather {S : sT} {n last : Nat} {kd bd V : Nat → Nat} (hJ : jn S n last kd bd V) (hW : okW n kd bd V) (Q : sT → Prop) (h : ∀ G : Nat → Int64, (∀ p, p < 21 → ∀ m, m ≤ 60 → lb (G p) m = gs n kd bd V p m) → Q (uB S 112 G)) : wp_X0_gatherStands (nI (V 2)) S Q := by
  obtain ⟨j1, j2, j3, j4⟩ := hJ
  have hn := hW.1
  unfold wp_X0_gatherStands
  refine q_fillL 112 (by decide) 0 S _ (fun f0 hf0 => ?_)
  refine pk_loop (fun f i (G : Nat → Int64) => wl_X0_gatherStands_10 Q f (nI (V 2)) (nI i) (uB S 112 G)) (fun i G => ∀ p, p < 21 → ∀ m, m ≤ 60 → lb (G p) m = fo (stdF kd bd (atV V p m)) false i) n 0 f0 (Nat.zero_le _) (fun p hp m hm => ?_) ?_ ?_
  · rw [hf0 p hp, lb_0]; rfl
  · intro f G hG
    show wb_X0_gatherStands_10 Q _ _ _ (uB S 112 G)
    unfold wb_X0_gatherStands_10
    have e : vI (uB S 112 G) 114 = nI n := j1
    rw [e]
    exact yes (nI_le (Nat.le_refl _) (by omega)) (h G hG)
  · intro f i G hi hG ih
    show wb_X0_gatherStands_10 Q _ _ _ (uB S 112 G)
    unfold wb_X0_gatherStands_10 wb_X0_gatherStands_46
    have hb := (hW.2.1 i hi).2.1
    have e : vI (uB S 112 G) 114 = nI n := j1
    have e2 : vA (uB S 112 G) 111 i = nI (bd i) := (j4 i hi).1
    have e3 : vB (uB S 112 G) 110 = vB S 110 := rfl
    rw [e, bit_b2 hW.2.2.2.2 (show i < 6 by omega), nI_clamp (show i < 2 ^ 31 by omega), e2, e3, vB_uB, nI_clamp (show bd i < 2 ^ 31 by omega), uB_uB]
    refine no (nI_ge hi (by omega)) (cy (fun eb => ?_) (fun eb => ⟨vp_in_nI (by omega) (by decide), vp_in_nI (by omega) (by decide), vp_in_nI (by omega) (by decide), vp_in_nI (by omega) (by decide), fun S5 e5 => ?_⟩))
    · have h9 := ih G (fun p hp m hm => by
        rw [hG p hp m hm]
        show _ = stdF kd bd (atV V p m) i _
        rw [stdF_at, eb]
        simp)
      rw [← nI_1] at h9
      exact h9
    · have h9 := ih (vp_updL G (bd i) (G (bd i) ||| vB S 110 i)) (fun p hp m hm => by
        show _ = stdF kd bd (atV V p m) i _
        simp only [up]
        rw [stdF_at, eb, Bool.true_and]
        by_cases c : p = bd i
        · rw [if_pos c, lb_or, ← c, hG p hp m hm, (j4 i hi).2 m hm]
          simp [c]
        · rw [if_neg c, hG p hp m hm]
          rw [show decide (bd i = p) = false by simp; omega]
          simp)
      rw [← nI_1] at h9
      rw [e5]
      exact h9
theorem q_ride {S : sT} {n last : Nat} {kd bd V : Nat → Nat} (hJ : jn S n last kd bd V) (hW : okW n kd bd V) (hl : V 1 ≤ last) (hl20 : last ≤ 20) (h0 : V 0 ≤ 800) {mn : Nat} (hmn : mn ≤ 60) (Q : Int32 → sT → Prop) (h : ∀ S' : sT, offJ S S' → jn S' n last kd bd V → vB S' 110 = vB S 110 → vA S' 111 = vA S 111 → (∀ m, m ≤ mn → vA S' 113 m = nI (it n last kd bd V m 1)) → Q (nI (it n last kd bd V mn 1)) S') : wp_X0_ride (nI mn) (nI (V 2)) S Q := by
  unfold wp_X0_ride
  refine q_gather hJ hW _ (fun G hG => ⟨vp_in_nI (n := 0) (by decide) (by decide), ?_⟩)
  obtain ⟨j1, j2, j3, j4⟩ := id hJ
  have e116 : vI (uB S 112 G) 116 = nI (V 1) := j3
  rw [e116, show (0 : Int32).toNatClampNeg = 0 from rfl]
  have main := pk_loop (fun f i (F : Nat → Int32) => wl_X0_ride_20 Q f (nI mn) (nI (it n last kd bd V i 1)) (nI i) (uA (uB S 112 G) 113 F)) (fun i F => ∀ m, m ≤ i → F m = nI (it n last kd bd V m 1)) mn 0 (upd (vA (uB S 112 G) 113) 0 (nI (V 1))) (Nat.zero_le _) (fun m hm => ?_) ?_ ?_
  · exact main
  · rw [show m = 0 by omega]
    simp only [up, if_true]
    rfl
  · intro f F hF
    show wb_X0_ride_20 Q _ (nI mn) _ (nI mn) (uA (uB S 112 G) 113 F)
    unfold wb_X0_ride_20
    refine yes (nI_le (Nat.le_refl _) (by omega)) (h _ (offJ_uA (offJ_uB (offJ_refl S) 112 G (by decide)) 113 F (by decide)) hJ rfl rfl (fun m hm => ?_))
    rw [vA_uA]
    exact hF m hm
  · intro f i F hi hF ih
    show wb_X0_ride_20 Q _ (nI mn) _ (nI i) (uA (uB S 112 G) 113 F)
    unfold wb_X0_ride_20 wb_X0_ride_57 wb_X0_ride_62 wb_X0_ride_72
    obtain ⟨hWi, hli⟩ := it_ok hW hl hl20 h0 i (by omega)
    have e115 : vI (uA (uB S 112 G) 113 F) 115 = nI last := j2
    have e112 : vB (uA (uB S 112 G) 113 F) 112 = G := vB_uB S 112 G
    have hs := std_it n last kd bd V i
    have hgo : it n last kd bd V (i + 1) 1 = if std n last kd bd (it n last kd bd V i) = true then it n last kd bd V i 1 else it n last kd bd V i 1 + 1 := rfl
    rw [e115, e112, nI_1, vA_uA, nI_clamp (show i + 1 < 2 ^ 31 by omega), nI_clamp (show it n last kd bd V i 1 < 2 ^ 31 by omega), lb_test (G (it n last kd bd V i 1)) (show i < 60 by omega), hG _ (show it n last kd bd V i 1 < 21 by omega) i (by omega), nI_leI (a := last) (by omega) (by omega)]
    have fin : ∀ q : Nat, q = it n last kd bd V (i + 1) 1 → vp_in (nI (i + 1)) 61 ∧ wl_X0_ride_20 Q f (nI mn) (nI q) (nI (i + 1)) (uA (uA (uB S 112 G) 113 F) 113 (upd F (i + 1) (nI q))) := by
      intro q hq
      refine ⟨vp_in_nI (by omega) (by decide), ?_⟩
      rw [uA_uA]
      have h9 := ih (upd F (i + 1) (nI q)) (fun m hm => by
        simp only [up]
        by_cases c : m = i + 1
        · rw [if_pos c, c, hq]
        · rw [if_neg c]; exact hF m (by omega))
      rw [hq] at h9 ⊢
      exact h9
    refine no (nI_ge hi (by omega)) (no (nI_ge (b := 60) (by omega) (by decide)) ⟨fun c => ?_, fun c => ⟨vp_in_nI (by omega) (by decide), fun c2 => ?_, fun c2 => ?_⟩⟩)
    · refine no' n10 (fin _ ?_)
      rw [hgo, if_pos]
      exact std_last (by omega)
    · refine yes' rfl ?_
      rw [nI_1]
      refine fin _ ?_
      rw [hgo, if_neg]
      rw [hs, c2]
      simp
      omega
    · refine no' n10 (fin _ ?_)
      rw [hgo, if_pos]
      rw [hs]
      simp at c2
      rw [c2]
      simp
theorem q_dbits {k s t : Nat} (hk : k ≤ 5) (hs : s ≤ 9) (ht : t ≤ 900) (S : sT) (Q : Int64 → sT → Prop) (h : ∀ w : Int64, (∀ m, m ≤ 60 → lb w m = dr k s (t + m)) → Q w S) : wp_X4_dreamBitsFrom (nI k) (nI s) (nI t) S Q := by
  unfold wp_X4_dreamBitsFrom
  refine pk_loop (fun f i (w : Int64) => wl_X4_dreamBitsFrom_5 Q f (nI k) (nI s) (nI t) w (nI i) S) (fun i w => (∀ m, m < i → lb w m = dr k s (t + m)) ∧ ∀ m, i ≤ m → m ≤ 60 → lb w m = false) 61 0 0 (Nat.zero_le _) ⟨fun m hm => absurd hm (Nat.not_lt_zero m), fun m _ _ => lb_0 m⟩ ?_ ?_
  · intro f w hw
    show wb_X4_dreamBitsFrom_5 Q _ _ _ _ w (nI 61) S
    unfold wb_X4_dreamBitsFrom_5
    exact yes (by decide) (h w (fun m hm => hw.1 m (by omega)))
  · intro f i w hi hw ih
    show wb_X4_dreamBitsFrom_5 Q _ _ _ _ w (nI i) S
    unfold wb_X4_dreamBitsFrom_5 wb_X4_dreamBitsFrom_31
    rw [nI_add]
    refine no (nI_nlt (a := 60) (by omega) (by decide)) (q_would hk hs (by omega) S _ (cy (fun e => ?_) (fun e => ?_)))
    · have h9 := ih w ⟨fun m hm => by
        by_cases c : m = i
        · rw [c, e]; exact hw.2 i (Nat.le_refl i) (by omega)
        · exact hw.1 m (by omega), fun m h1 h2 => hw.2 m (by omega) h2⟩
      rw [← nI_1] at h9
      exact h9
    · have h9 := ih (w ||| ((1 : Int64) <<< ((nI i).toInt64 &&& 63))) ⟨fun m hm => by
        rw [lb_or, lb_one i hi m (by omega)]
        by_cases c : m = i
        · rw [c, e]; simp
        · rw [hw.1 m (by omega)]; simp [c], fun m h1 h2 => by
        rw [lb_or, lb_one i hi m (by omega), hw.2 m (by omega) h2]
        simp
        omega⟩
      rw [← nI_1] at h9
      exact h9
theorem q_setOut {C : sT} {n last : Nat} {kd bd V : Nat → Nat} (hL : lineC C n last kd bd V) (hW : okW n kd bd V) (Q : sT → Prop) (h : ∀ C' : sT, offJ C C' → jn C' n last kd bd V → Q C') : wp_X0_setOut 0 C Q := by
  obtain ⟨l1, l2, l3, l4, l5, l6⟩ := id hL
  have hn := hW.1
  unfold wp_X0_setOut
  intro S1 e1
  have e1' : S1 = uI (uI (uI C 114 (nI n)) 115 (nI last)) 116 (nI (V 1)) := by
    rw [e1]
    show uI (uI (uI C 114 (vI C 26)) 115 (vI C 27)) 116 (vI C 31) = _
    rw [l1, l2, l5]
  have o1 : offJ C S1 := by
    rw [e1']
    exact offJ_uI (offJ_uI (offJ_uI (offJ_refl C) 114 _ (by decide)) 115 _ (by decide)) 116 _ (by decide)
  have v1 : vI S1 114 = nI n ∧ vI S1 115 = nI last ∧ vI S1 116 = nI (V 1) := by
    rw [e1']; exact ⟨rfl, rfl, rfl⟩
  clear e1 e1'
  refine pk_loop (fun f i (S : sT) => wl_X0_setOut_26 0 Q f (nI i) S) (fun i S => offJ C S ∧ (vI S 114 = nI n ∧ vI S 115 = nI last ∧ vI S 116 = nI (V 1)) ∧ ∀ k, k < i → vA S 111 k = nI (bd k) ∧ ∀ m, m ≤ 60 → lb (vB S 110 k) m = dr (kd k) (V (3 + k)) (V 0 + m)) n 0 S1 (Nat.zero_le _) ⟨o1, v1, fun k hk => absurd hk (Nat.not_lt_zero k)⟩ ?_ ?_
  · intro f S ⟨oS, vS, hS⟩
    show wb_X0_setOut_26 0 Q _ (nI n) S
    unfold wb_X0_setOut_26
    rw [vS.1]
    exact yes (nI_le (Nat.le_refl _) (by omega)) (h S oS ⟨vS.1, vS.2.1, vS.2.2, hS⟩)
  · intro f i S hi ⟨oS, vS, hS⟩ ih
    show wb_X0_setOut_26 0 Q _ (nI i) S
    unfold wb_X0_setOut_26
    simp only [Nat.reduceMul, Nat.reduceAdd, Nat.mul_zero, Nat.add_zero]
    obtain ⟨k1, k2, k3⟩ := l6 i hi
    have s20 : vA S 20 = vA C 20 := (oS.1 20 (by omega)).2.1
    have s21 : vA S 21 = vA C 21 := (oS.1 21 (by omega)).2.1
    have s22 : vA S 22 = vA C 22 := (oS.1 22 (by omega)).2.1
    have s30 : vI S 30 = vI C 30 := (oS.1 30 (by omega)).1
    have q1 : ∀ F, vA (uA S 111 F) 20 = vA C 20 := fun F => s20
    have q2 : ∀ F, vA (uA S 111 F) 22 = vA C 22 := fun F => s22
    have q3 : ∀ F, vI (uA S 111 F) 30 = vI C 30 := fun F => s30
    rw [vS.1, nI_clamp (show i < 2 ^ 31 by omega), q1, q2, q3, s21, k1, k2, k3, l4]
    refine no (nI_ge hi (by omega)) ⟨vp_in_nI (by omega) (by decide), vp_in_nI (by omega) (by decide), vp_in_nI (by omega) (by decide), vp_in_nI (by omega) (by decide), ?_⟩
    refine q_dbits (hW.2.1 i hi).1 (hW.2.1 i hi).2.2 hW.2.2.1 _ _ (fun w hw => ⟨vp_in_nI (by omega) (by decide), ?_⟩)
    have h9 := ih (uB (uA S 111 (upd (vA S 111) i (nI (bd i)))) 110 (vp_updL (vB (uA S 111 (upd (vA S 111) i (nI (bd i)))) 110) i w)) ⟨offJ_uB (offJ_uA oS 111 _ (by decide)) 110 _ (by decide), vS, fun k hk => by
      rw [vB_uB]
      show upd (vA S 111) i (nI (bd i)) k = _ ∧ ∀ m, m ≤ 60 → lb (vp_updL (vB S 110) i w k) m = _
      simp only [up]
      by_cases c : k = i
      · rw [if_pos c, if_pos c, c]
        exact ⟨rfl, hw⟩
      · rw [if_neg c, if_neg c]
        exact hS k (by omega)⟩
    rw [← nI_1] at h9
    exact h9
