/-! steps from 0 up to e -/
def fo {α : Type} (f : Nat → α → α) (a : α) : Nat → α
  | 0 => a
  | n + 1 => f n (fo f a n)
theorem fo_congr {α : Type} {f g : Nat → α → α} {a : α} : ∀ {n : Nat}, (∀ i, i < n → ∀ b, f i b = g i b) → fo f a n = fo g a n
  | 0, _ => rfl
  | n + 1, h => by
    show f n (fo f a n) = g n (fo g a n)
    rw [fo_congr (n := n) (fun i hi b => h i (by omega) b), h n (by omega)]
theorem q_fo {α : Type} (W : Nat → Nat → α → Prop) (f : Nat → α → α) (a0 : α) (e : Nat) (hx : ∀ n, W (n + 1) e (fo f a0 e)) (hs : ∀ n i a, i < e → a = fo f a0 i → W n (i + 1) (f i a) → W (n + 1) i a) : ∃ n, W n 0 a0 :=
  pk_loop W (fun i a => a = fo f a0 i) e 0 a0 (Nat.zero_le _) rfl (fun n a ha => by rw [ha]; exact hx n) (fun n i a hi ha ih => hs n i a hi ha (ih _ (by rw [ha]; rfl)))
theorem sh0 : ∀ i, i < 6 → (0 : Int32) <<< (nI i &&& 31) = 0 := by decide
theorem or0 (a : Int32) : a ||| 0 = a := by simp
def whoF (kd V : Nat → Nat) (i : Nat) (a : Int32) : Int32 := a ||| (b2 (drm kd V i) <<< (nI i &&& 31))
theorem q_dreamers {S : sT} {j n last due : Nat} {kd bd : Nat → Nat} {T : Nat → Nat → Nat} {d : Nat} (hN : nightC S j n last due kd bd T d) (hok : okN n last due kd bd) (hV : okV n last (T d)) (Q : Int32 → sT → Prop) (h : Q (fo (whoF kd (T d)) 0 n) S) : wp_X1_dreamers j S Q := by
  have hn := hok.1
  have c1 := hN.1.1
  unfold wp_X1_dreamers
  refine q_fo (fun n i a => wl_X1_dreamers_4 j Q n a (nI i) S) (whoF kd (T d)) 0 n (fun n9 => ?_) (fun n9 i a hi ha ih => ?_)
  · show wb_X1_dreamers_4 j Q _ _ _ S
    unfold wb_X1_dreamers_4
    rw [c1]
    exact yes (nI_le (Nat.le_refl _) (by omega)) h
  · show wb_X1_dreamers_4 j Q _ _ _ S
    unfold wb_X1_dreamers_4
    rw [c1]
    refine no (nI_ge hi (by omega)) (q_dreamC hN hok hV hi _ (q_bit _ S _ ?_))
    rw [← nI_1] at ih
    exact ih
theorem q_whoDream {S : sT} {n last due : Nat} {kd bd : Nat → Nat} {V : Nat → Nat} (h9 : vI S 9 = nI n) (hkd : ∀ i, i < n → vA S 12 i = nI (kd i)) (hs : ∀ i, i < 3 + n → vA S 14 i = nI (V i)) (hok : okN n last due kd bd) (hV : okV n last V) (Q : Int32 → sT → Prop) (h : Q (fo (whoF kd V) 0 n) S) : wp_X5_whoDream S Q := by
  have hn := hok.1
  unfold wp_X5_whoDream
  refine q_fo (fun n i a => wl_X5_whoDream_4 Q n a (nI i) S) (whoF kd V) 0 n (fun n9 => ?_) (fun n9 i a hi ha ih => ?_)
  · show wb_X5_whoDream_4 Q _ _ _ S
    unfold wb_X5_whoDream_4
    rw [h9]
    exact yes (nI_le (Nat.le_refl _) (by omega)) h
  · show wb_X5_whoDream_4 Q _ _ _ S
    unfold wb_X5_whoDream_4 wb_X5_whoDream_28
    rw [h9]
    rw [← nI_1] at ih
    unfold whoF at ih
    refine no (nI_ge hi (by omega)) (q_dreamR hkd hs hok hV hi _ (cy (fun e => ?_) (fun e => ?_)))
    · rw [e, show b2 false = 0 from rfl, sh0 i (by omega)] at ih
      exact ih
    · rw [e, show b2 true = 1 from rfl] at ih
      exact ih
def thF (f : Nat → Int32) (r : Nat) (a : Int32) : Int32 := a + b2 (decide (0 ≤ f r))
theorem sz_b2 {x : Int32} (h : x = -1 ∨ ∃ z : Nat, z ≤ 60 ∧ x = nI z) : (if x = -1 then (0 : Int32) else 1) = b2 (decide (0 ≤ x)) := by
  rcases h with rfl | ⟨z, hz, rfl⟩
  · decide
  · rw [if_neg (nIne (by omega))]
    have : 0 ≤ nI z := nI_pos' (by omega)
    simp [this, b2]
theorem q_howMany (g : Nat) (hg : g < 2) (S : sT) (hz : ∀ r, r < nO g → vA S (200 + g) r = -1 ∨ ∃ z : Nat, z ≤ 60 ∧ vA S (200 + g) r = nI z) (Q : Int32 → sT → Prop) (h : Q (fo (thF (vA S (200 + g))) 0 (nO g)) S) : wp_X3_howMany g S Q := by
  unfold wp_X3_howMany
  refine q_fo (fun n i a => wl_X3_howMany_4 g Q n a (nI i) S) (thF (vA S (200 + g))) 0 (nO g) (fun n9 => ?_) (fun n9 i a hi ha ih => ?_)
  · show wb_X3_howMany_4 g Q _ _ _ S
    unfold wb_X3_howMany_4
    rw [lSize g hg]
    exact yes (nI_le (Nat.le_refl _) (nO_31 g)) h
  · show wb_X3_howMany_4 g Q _ _ _ S
    unfold wb_X3_howMany_4
    rw [lSize g hg]
    refine no (nI_ge hi (nO_31 g)) (q_holds g hg i hi S _ ?_)
    rw [sz_b2 (hz i hi)]
    refine q_bit _ S _ ?_
    rw [← nI_1] at ih
    exact ih
theorem q_there (k0 m s : Nat) (hm : m ≤ 10) (hs : s ≤ 400) (hl : s * m ≤ lenR k0) (hl2 : lenR k0 < 2 ^ 31) (h0 : 0 < s) (S : sT) (Q : Int32 → sT → Prop) (h : Q (fo (thF (fun r => vA S k0 (s * r))) 0 m) S) : wp_X5_there k0 (nI m) (nI s) S Q := by
  unfold wp_X5_there
  refine q_fo (fun n i a => wl_X5_there_5 k0 Q n (nI m) (nI s) a (nI i) S) (thF (fun r => vA S k0 (s * r))) 0 m (fun n9 => ?_) (fun n9 i a hi ha ih => ?_)
  · show wb_X5_there_5 k0 Q _ _ _ _ _ S
    unfold wb_X5_there_5
    exact yes (nI_le (Nat.le_refl _) (by omega)) h
  · show wb_X5_there_5 k0 Q _ _ _ _ _ S
    unfold wb_X5_there_5 wb_X5_there_26
    have h1 : s * i < s * m := Nat.mul_lt_mul_of_pos_left hi h0
    rw [pk_mul, nI_clamp (by omega)]
    rw [← nI_1] at ih
    unfold thF at ih
    refine no (nI_ge hi (by omega)) ⟨vp_in_nI (by omega) hl2, fun e => ?_, fun e => ?_⟩
    · rw [show decide (0 ≤ vA S k0 (s * i)) = true from by simp [e]] at ih
      exact ih
    · rw [show decide (0 ≤ vA S k0 (s * i)) = false from by simp [e]] at ih
      exact ih
theorem q_keptCount (S : sT) (f : Nat → Int32) (hz : ∀ r, r < 3 → (vA S 5 r = 0 ∧ f r = -1) ∨ (vA S 5 r = 1 ∧ ∃ d : Nat, d ≤ 40 ∧ f r = nI d)) (Q : Int32 → sT → Prop) (h : Q (fo (thF f) 0 3) S) : wp_X4_keptCount S Q := by
  unfold wp_X4_keptCount
  refine q_fo (fun n i a => wl_X4_keptCount_4 Q n a (nI i) S) (thF f) 0 3 (fun n9 => ?_) (fun n9 i a hi ha ih => ?_)
  · show wb_X4_keptCount_4 Q _ _ _ S
    unfold wb_X4_keptCount_4
    exact yes (by decide) h
  · show wb_X4_keptCount_4 Q _ _ _ S
    unfold wb_X4_keptCount_4
    refine no (nI_ge hi (by decide)) ⟨vp_in_nI hi (by decide), ?_⟩
    rw [nI_clamp (by omega)]
    have e : vA S 5 i = b2 (decide (0 ≤ f i)) := by
      rcases hz i hi with ⟨e1, e2⟩ | ⟨e1, d, hd, e2⟩
      · rw [e1, e2]; decide
      · rw [e1, e2]
        have : 0 ≤ nI d := nI_pos' (by omega)
        simp [this, b2]
    rw [e]
    refine q_bit _ S _ ?_
    rw [← nI_1] at ih
    exact ih
def chF (kd : Nat → Nat) (i : Nat) (a : Int32) : Int32 := a + b2 (isO (kd i) 1)
theorem q_cheese {S : sT} {j n last due : Nat} {kd bd : Nat → Nat} {T : Nat → Nat → Nat} {d : Nat} (hN : nightC S j n last due kd bd T d) (hok : okN n last due kd bd) (Q : Int32 → sT → Prop) (h : Q (fo (chF kd) 0 n) S) : wp_X1_cheeseEaters j S Q := by
  have hn := hok.1
  have c1 := hN.1.1
  unfold wp_X1_cheeseEaters
  refine q_fo (fun n i a => wl_X1_cheeseEaters_4 j Q n a (nI i) S) (chF kd) 0 n (fun n9 => ?_) (fun n9 i a hi ha ih => ?_)
  · show wb_X1_cheeseEaters_4 j Q _ _ _ S
    unfold wb_X1_cheeseEaters_4
    rw [c1]
    exact yes (nI_le (Nat.le_refl _) (by omega)) h
  · show wb_X1_cheeseEaters_4 j Q _ _ _ S
    unfold wb_X1_cheeseEaters_4 wb_X1_cheeseEaters_33 wb_X1_cheeseEaters_38
    have hk := (hok.2.2.2 i hi).1
    rw [nI_clamp (show i < 2 ^ 31 by omega), show vA S (20 + 13 * j + 0) i = nI (kd i) from (hN.2.1 i hi).1, c1]
    have e1 : nI (kd i) = 1 ↔ kd i = 1 := nI_eq (b := 1) (by omega) (by omega)
    have e2 : nI (kd i) = 4 ↔ kd i = 4 := nI_eq (b := 4) (by omega) (by omega)
    rw [e1, e2]
    rw [← nI_1] at ih
    unfold chF isO at ih
    refine no (nI_ge hi (by omega)) ⟨vp_in_nI (by omega) (by decide), fun a1 => ?_, fun a1 => ⟨vp_in_nI (by omega) (by decide), fun a2 => ?_, fun a2 => ?_⟩⟩
    · simp [a1] at ih
      exact q_bit true S _ ih
    · simp [a1, a2] at ih
      exact q_bit false S _ ih
    · simp [a2] at ih
      exact q_bit true S _ ih
theorem q_ofCheese {S : sT} {n last due : Nat} {kd bd : Nat → Nat} (h9 : vI S 9 = nI n) (hkd : ∀ i, i < n → vA S 12 i = nI (kd i)) (hok : okN n last due kd bd) (Q : Int32 → sT → Prop) (h : Q (fo (chF kd) 0 n) S) : wp_X5_ofCheese S Q := by
  have hn := hok.1
  unfold wp_X5_ofCheese
  refine q_fo (fun n i a => wl_X5_ofCheese_4 Q n a (nI i) S) (chF kd) 0 n (fun n9 => ?_) (fun n9 i a hi ha ih => ?_)
  · show wb_X5_ofCheese_4 Q _ _ _ S
    unfold wb_X5_ofCheese_4
    rw [h9]
    exact yes (nI_le (Nat.le_refl _) (by omega)) h
  · show wb_X5_ofCheese_4 Q _ _ _ S
    unfold wb_X5_ofCheese_4 wb_X5_ofCheese_31
    have hk := (hok.2.2.2 i hi).1
    rw [nI_clamp (show i < 2 ^ 31 by omega), hkd i hi, h9]
    rw [← nI_1] at ih
    unfold chF at ih
    refine no (nI_ge hi (by omega)) ⟨vp_in_nI (by omega) (by decide), q_isOf (w := 1) hk (by decide) S _ (cy (fun e => ?_) (fun e => ?_))⟩
    · rw [e] at ih; exact ih
    · rw [e] at ih; exact ih
