theorem line_K {C C' : sT} {n last : Nat} {kd bd V : Nat → Nat} (h : lineC C n last kd bd V) (o : offK C C') : lineC C' n last kd bd V := by
  obtain ⟨l1, l2, l3, l4, l5, l6⟩ := h
  refine ⟨((o.1 26 (by omega) (by omega)).1).trans l1, ((o.1 27 (by omega) (by omega)).1).trans l2, ((o.1 29 (by omega) (by omega)).1).trans l3, ((o.1 30 (by omega) (by omega)).1).trans l4, ((o.1 31 (by omega) (by omega)).1).trans l5, fun i hi => ?_⟩
  rw [(o.1 20 (by omega) (by omega)).2, (o.1 21 (by omega) (by omega)).2, (o.1 22 (by omega) (by omega)).2]
  exact l6 i hi
theorem offK_refl (C : sT) : offK C C := ⟨fun _ _ _ => ⟨rfl, rfl⟩, fun _ => rfl⟩
theorem offK_uA {A B : sT} (h : offK A B) (k : Nat) (x : Nat → Int32) (hk : 320 ≤ k ∧ k < 350) : offK A (uA B k x) := ⟨fun m a b => ⟨(h.1 m a b).1, by simp only [ac]; rw [if_neg (by omega)]; exact (h.1 m a b).2⟩, h.2⟩
theorem offK_uB {A B : sT} (h : offK A B) (k : Nat) (x : Nat → Int64) : offK A (uB B k x) := ⟨fun m a b => ⟨(h.1 m a b).1, (h.1 m a b).2⟩, h.2⟩
/-! where to look -/
def alkF (P : Nat → Nat → Nat) (m k o a : Nat) : Nat := if P o m = P k m then a + 1 else a
def alk (P : Nat → Nat → Nat) (m k : Nat) : Nat := fo (alkF P m k) 0 6
def gpF (P : Nat → Nat → Nat) (m k g : Nat) : Nat := if g < alk P m k then alk P m k else g
def gp (P : Nat → Nat → Nat) (m : Nat) : Nat := fo (gpF P m) 0 6
theorem alk_le (P : Nat → Nat → Nat) (m k : Nat) : ∀ e, fo (alkF P m k) 0 e ≤ e
  | 0 => Nat.le_refl 0
  | e + 1 => by
    have h := alk_le P m k e
    show alkF P m k e (fo (alkF P m k) 0 e) ≤ e + 1
    have u : ∀ a, alkF P m k e a = if P e m = P k m then a + 1 else a := fun _ => rfl
    rw [u]
    split <;> omega
theorem gp_le (P : Nat → Nat → Nat) (m : Nat) : ∀ e, fo (gpF P m) 0 e ≤ 6
  | 0 => Nat.zero_le 6
  | e + 1 => by
    have h := gp_le P m e
    have h2 : alk P m e ≤ 6 := alk_le P m e 6
    show gpF P m e (fo (gpF P m) 0 e) ≤ 6
    have u : ∀ a, gpF P m e a = if a < alk P m e then alk P m e else a := fun _ => rfl
    rw [u]
    split <;> omega
theorem q_gpC {S : sT} {P : Nat → Nat → Nat} {m : Nat} (hm : m < 21) (hP : ∀ k, k < 6 → P k m ≤ 100) (hS : ∀ k, k < 6 → vA S (320 + k) m = nI (P k m)) (Q : Int32 → sT → Prop) (h : Q (nI (gp P m)) S) : wp_X4_greatestPart (nI m) S Q := by
  unfold wp_X4_greatestPart
  refine q_fo (fun f i (g : Nat) => wl_X4_greatestPart_4 Q f (nI m) (nI g) (nI i) S) (gpF P m) 0 6 (fun n9 => ?_) (fun n9 k g hk hg ih => ?_)
  · show wb_X4_greatestPart_4 Q _ _ _ _ S
    unfold wb_X4_greatestPart_4
    exact yes (by decide) h
  · show wb_X4_greatestPart_4 Q _ _ _ _ S
    unfold wb_X4_greatestPart_4
    have hg6 : g ≤ 6 := by rw [hg]; exact gp_le P m k
    refine no (nI_ge hk (by decide)) ?_
    refine q_fo (fun f i (a : Nat) => wl_X4_greatestPart_16 Q (fun x1 x2 x3 S => wl_X4_greatestPart_4 Q n9 x1 x2 x3 S) f (nI m) (nI g) (nI k) (nI a) (nI i) S) (alkF P m k) 0 6 (fun n8 => ?_) (fun n8 o a ho ha ih2 => ?_)
    · show wb_X4_greatestPart_16 Q _ _ _ _ _ _ _ S
      unfold wb_X4_greatestPart_16
      have ha6 : fo (alkF P m k) 0 6 ≤ 6 := alk_le P m k 6
      refine yes (by decide) ?_
      unfold gpF at ih
      rw [← nI_1] at ih
      show wl_X4_greatestPart_4 Q n9 (nI m) (if nI g < nI (fo (alkF P m k) 0 6) then nI (fo (alkF P m k) 0 6) else nI g) (nI k + 1) S
      have e : (if nI g < nI (fo (alkF P m k) 0 6) then nI (fo (alkF P m k) 0 6) else nI g) = nI (if g < alk P m k then alk P m k else g) := by
        unfold alk
        by_cases c : g < fo (alkF P m k) 0 6
        · rw [if_pos c, if_pos (nI_lt c (by omega))]
        · rw [if_neg c, if_neg (nI_nlt (by omega) (by omega))]
      rw [e]
      exact ih
    · show wb_X4_greatestPart_16 Q _ _ _ _ _ _ _ S
      unfold wb_X4_greatestPart_16 wb_X4_greatestPart_50
      have p1 := hP o ho
      have p2 := hP k hk
      rw [nI_clamp (show o < 2 ^ 31 by omega), nI_clamp (show m < 2 ^ 31 by omega), nI_clamp (show k < 2 ^ 31 by omega), hS o ho, hS k hk, nI_eq (a := P o m) (b := P k m) (by omega) (by omega)]
      unfold alkF at ih2
      refine no (nI_ge ho (by decide)) ⟨vp_in_nI ho (by decide), vp_in_nI hm (by decide), vp_in_nI hk (by decide), vp_in_nI hm (by decide), fun c => q_bit false S _ ?_, fun c => q_bit true S _ ?_⟩
      · rw [if_neg c] at ih2
        rw [nI_1 o]
        rw [show nI a + b2 false = nI a from nI_add a 0]
        exact ih2
      · rw [if_pos c] at ih2
        rw [nI_1 o]
        rw [show nI a + b2 true = nI (a + 1) from nI_1 a]
        exact ih2
theorem q_gpR {S : sT} {P : Nat → Nat → Nat} {m : Nat} (hm : m < 20) (hP : ∀ k, k < 6 → P k (m + 1) ≤ 100) (hS : ∀ k, k < 6 → vA S 29 (20 * k + m) = nI (P k (m + 1))) (x3 : Int32) {l : Nat} (Q : Int32 → sT → Prop) (K91 : Int32 → Int32 → Int32 → sT → Prop) (h : (nI l ≤ nI (gp P (m + 1)) → K91 x3 (nI l) (nI m + 1) S) ∧ (¬ nI l ≤ nI (gp P (m + 1)) → K91 (nI m + 1) (nI (gp P (m + 1))) (nI m + 1) S)) : ∃ f, wl_X5_look_104 Q K91 f x3 (nI l) (nI m) (0 : Int32) (0 : Int32) S := by
  refine q_fo (fun f i (g : Nat) => wl_X5_look_104 Q K91 f x3 (nI l) (nI m) (nI g) (nI i) S) (gpF P (m + 1)) 0 6 (fun n9 => ?_) (fun n9 k g hk hg ih => ?_)
  · show wb_X5_look_104 Q K91 _ _ _ _ _ _ S
    unfold wb_X5_look_104 wb_X5_look_206 wb_X5_look_221
    refine yes (by decide) ⟨fun c => yes c (h.1 c), fun c => no c (h.2 c)⟩
  · show wb_X5_look_104 Q K91 _ _ _ _ _ _ S
    unfold wb_X5_look_104
    have hg6 : g ≤ 6 := by rw [hg]; exact gp_le P (m + 1) k
    refine no (nI_ge hk (by decide)) ?_
    refine q_fo (fun f i (a : Nat) => wl_X5_look_117 Q K91 (fun x3 x4 x5 x6 x7 S => wl_X5_look_104 Q K91 n9 x3 x4 x5 x6 x7 S) f x3 (nI l) (nI m) (nI g) (nI k) (nI a) (nI i) S) (alkF P (m + 1) k) 0 6 (fun n8 => ?_) (fun n8 o a ho ha ih2 => ?_)
    · show wb_X5_look_117 Q K91 _ _ _ _ _ _ _ _ _ S
      unfold wb_X5_look_117 wb_X5_look_183
      have ha6 : fo (alkF P (m + 1) k) 0 6 ≤ 6 := alk_le P (m + 1) k 6
      unfold gpF at ih
      rw [← nI_1] at ih
      rw [nI_leI (by omega) (by omega)]
      refine yes (by decide) ⟨fun c => ?_, fun c => ?_⟩
      · rw [if_neg (show ¬ g < alk P (m + 1) k by unfold alk; omega)] at ih
        exact ih
      · rw [if_pos (show g < alk P (m + 1) k by unfold alk; omega)] at ih
        exact ih
    · show wb_X5_look_117 Q K91 _ _ _ _ _ _ _ _ _ S
      unfold wb_X5_look_117 wb_X5_look_160
      have p1 := hP o ho
      have p2 := hP k hk
      have e9 : ∀ i, (20 : Int32) * nI i + nI m = nI (20 * i + m) := fun i => by rw [show (20 : Int32) = nI 20 from rfl, pk_mul, nI_add]
      rw [e9, e9, nI_clamp (show 20 * k + m < 2 ^ 31 by omega), nI_clamp (show 20 * o + m < 2 ^ 31 by omega), hS o ho, hS k hk, nI_eq (a := P k (m + 1)) (b := P o (m + 1)) (by omega) (by omega)]
      unfold alkF at ih2
      refine no (nI_ge ho (by decide)) ⟨vp_in_nI (by omega) (by decide), vp_in_nI (by omega) (by decide), fun c => ?_, fun c => ?_⟩
      · rw [if_neg (fun h9 => c h9.symm)] at ih2
        rw [nI_1 o]
        rw [show nI a + 0 = nI a from nI_add a 0]
        exact ih2
      · rw [if_pos c.symm] at ih2
        rw [nI_1 o, nI_1 a]
        exact ih2
def lkF (P : Nat → Nat → Nat) (m : Nat) (x : Nat × Nat) : Nat × Nat := if x.2 ≤ gp P (m + 1) then x else (m + 1, gp P (m + 1))
theorem lkF_s {P : Nat → Nat → Nat} {i : Nat} {x0 x : Nat × Nat} (hx : x = fo (lkF P) x0 i) : fo (lkF P) x0 (i + 1) = if x.2 ≤ gp P (i + 1) then x else (i + 1, gp P (i + 1)) := by
  rw [hx]
  rfl
theorem lkF_eq (P : Nat → Nat → Nat) : ∀ e, fo (lkF P) (1, 7) (e + 1) = fo (lkF P) (0, 7) (e + 1)
  | 0 => by
    have h := gp_le P 1 6
    rw [lkF_s (i := 0) (x0 := (1, 7)) rfl, lkF_s (i := 0) (x0 := (0, 7)) rfl]
    show (if 7 ≤ gp P 1 then ((1, 7) : Nat × Nat) else (1, gp P 1)) = (if 7 ≤ gp P 1 then ((0, 7) : Nat × Nat) else (1, gp P 1))
    have h2 : gp P 1 ≤ 6 := h
    rw [if_neg (by omega), if_neg (by omega)]
  | e + 1 => by
    show lkF P (e + 1) (fo (lkF P) (1, 7) (e + 1)) = lkF P (e + 1) (fo (lkF P) (0, 7) (e + 1))
    rw [lkF_eq P e]
theorem lkF_bd (P : Nat → Nat → Nat) (a : Nat) (ha : a ≤ 1) : ∀ e, (fo (lkF P) (a, 7) e).1 ≤ e + 1 ∧ (fo (lkF P) (a, 7) e).2 ≤ 7
  | 0 => ⟨by show a ≤ 1; omega, Nat.le_refl 7⟩
  | e + 1 => by
    obtain ⟨h1, h2⟩ := lkF_bd P a ha e
    have h3 : gp P (e + 1) ≤ 6 := gp_le P (e + 1) 6
    rw [lkF_s (i := e) (x0 := (a, 7)) rfl]
    split
    · exact ⟨by omega, h2⟩
    · exact ⟨by show e + 1 ≤ e + 1 + 1; omega, by show gp P (e + 1) ≤ 7; omega⟩
