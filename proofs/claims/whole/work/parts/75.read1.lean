/-! a text is read: one reader and the other, side by side -/
def xcs (D : sT) (p f : Int32) : sT := uI (uI D 102 p) 103 f
def xrs (R : sT) (a v : Int32) : sT := uI (uI R 19 a) 22 v
theorem upd_upd (f : Nat → Int32) (k : Nat) (x y : Int32) : upd (upd f k x) k y = upd f k y := by
  funext j
  simp only [up]
  by_cases e : j = k
  · rw [if_pos e, if_pos e]
  · rw [if_neg e, if_neg e, if_neg e]
theorem upd_sw (f : Nat → Int32) {k l : Nat} (h : ¬ k = l) (x y : Int32) : upd (upd f k x) l y = upd (upd f l y) k x := by
  funext j
  simp only [up]
  by_cases e : j = k
  · rw [if_neg (by omega), if_pos e, if_pos e]
  · rw [if_neg e, if_neg e]
theorem uI_uI (S : sT) (k : Nat) (x y : Int32) : uI (uI S k x) k y = uI S k y := by
  unfold uI
  simp only [upd_upd]
theorem uI_sw (S : sT) {k l : Nat} (h : ¬ k = l) (x y : Int32) : uI (uI S k x) l y = uI (uI S l y) k x := by
  unfold uI
  simp only [upd_sw _ h]
theorem uI_id (S : sT) (k : Nat) : uI S k (vI S k) = S := by
  have h : upd S.1 k (S.1 k) = S.1 := by
    funext j
    simp only [up]
    by_cases e : j = k
    · rw [if_pos e, e]
    · rw [if_neg e]
  unfold uI vI
  rw [h]
theorem cs102 (D : sT) (p f : Int32) : vI (xcs D p f) 102 = p := by simp [xcs, ac]
theorem cs103 (D : sT) (p f : Int32) : vI (xcs D p f) 103 = f := by simp [xcs, ac]
theorem csI (D : sT) (p f : Int32) {k : Nat} (h1 : ¬ k = 102) (h2 : ¬ k = 103) : vI (xcs D p f) k = vI D k := by simp [xcs, ac, h1, h2]
theorem csT (D : sT) (p f : Int32) : vT (xcs D p f) = vT D := rfl
theorem csA (D : sT) (p f : Int32) (k : Nat) : vA (xcs D p f) k = vA D k := rfl
theorem csL (D : sT) (p f : Int32) (k : Nat) : vL (xcs D p f) k = vL D k := rfl
theorem csu2 (D : sT) (p f x : Int32) : uI (xcs D p f) 102 x = xcs D x f := by
  unfold xcs
  rw [uI_sw _ (by decide), uI_uI]
theorem csu3 (D : sT) (p f x : Int32) : uI (xcs D p f) 103 x = xcs D p x := by
  unfold xcs
  rw [uI_uI]
theorem csuI (D : sT) (p f : Int32) {k : Nat} (h1 : ¬ k = 102) (h2 : ¬ k = 103) (x : Int32) : uI (xcs D p f) k x = xcs (uI D k x) p f := by
  unfold xcs
  rw [uI_sw _ (fun e => h2 e.symm), uI_sw _ (fun e => h1 e.symm)]
theorem csuA (D : sT) (p f : Int32) (k : Nat) (g : Nat → Int32) : uA (xcs D p f) k g = xcs (uA D k g) p f := rfl
theorem rs19 (R : sT) (a v : Int32) : vI (xrs R a v) 19 = a := by simp [xrs, ac]
theorem rs22 (R : sT) (a v : Int32) : vI (xrs R a v) 22 = v := by simp [xrs, ac]
theorem rsI (R : sT) (a v : Int32) {k : Nat} (h1 : ¬ k = 19) (h2 : ¬ k = 22) : vI (xrs R a v) k = vI R k := by simp [xrs, ac, h1, h2]
theorem rsA (R : sT) (a v : Int32) (k : Nat) : vA (xrs R a v) k = vA R k := rfl
theorem rsL (R : sT) (a v : Int32) (k : Nat) : vL (xrs R a v) k = vL R k := rfl
theorem rsu1 (R : sT) (a v x : Int32) : uI (xrs R a v) 19 x = xrs R x v := by
  unfold xrs
  rw [uI_sw _ (by decide), uI_uI]
theorem rsu2 (R : sT) (a v x : Int32) : uI (xrs R a v) 22 x = xrs R a x := by
  unfold xrs
  rw [uI_uI]
theorem rsuI (R : sT) (a v : Int32) {k : Nat} (h1 : ¬ k = 19) (h2 : ¬ k = 22) (x : Int32) : uI (xrs R a v) k x = xrs (uI R k x) a v := by
  unfold xrs
  rw [uI_sw _ (fun e => h2 e.symm), uI_sw _ (fun e => h1 e.symm)]
theorem rsuA (R : sT) (a v : Int32) (k : Nat) (g : Nat → Int32) : uA (xrs R a v) k g = xrs (uA R k g) a v := rfl
/-! the text: place t, signs s, size z -/
def tC (D : sT) (t : Nat) (s : Nat → Int32) (z : Nat) : Prop := t < 4 ∧ z ≤ 60 ∧ vT D = 310 + t ∧ vI D 101 = nI z ∧ ∀ i, i < 60 → vA D (310 + t) i = s i
def tR (R : sT) (t : Nat) (s : Nat → Int32) (z : Nat) : Prop := t < 4 ∧ z ≤ 60 ∧ vI R 20 = nI z ∧ vI R 21 = nI t ∧ ∀ i, i < 60 → vA R 2 (60 * t + i) = s i
/-- a figure -/
def fg (s : Nat → Int32) (z p : Nat) : Option Nat := if p < z ∧ 48 ≤ s p ∧ s p ≤ 57 then some (s p - 48).toNatClampNeg else none
theorem fg_ix {x : Int32} (h : 48 ≤ x ∧ x ≤ 57) : ∃ i, i < 10 ∧ x - 48 = nI i := by
  have e : nI 10 = 10 := rfl
  exact ixY (n := 10) (by decide) (by rw [e]; constructor <;> grind)
theorem fg_some {s : Nat → Int32} {z p v : Nat} (h : fg s z p = some v) : p < z ∧ (48 ≤ s p ∧ s p ≤ 57) ∧ v < 10 ∧ s p - 48 = nI v := by
  unfold fg at h
  by_cases c : p < z ∧ 48 ≤ s p ∧ s p ≤ 57
  · rw [if_pos c] at h
    obtain ⟨i, hi, e⟩ := fg_ix c.2
    rw [e, nI_clamp (by omega)] at h
    have := Option.some.inj h
    subst this
    exact ⟨c.1, c.2, hi, e⟩
  · rw [if_neg c] at h
    cases h
theorem fg_none {s : Nat → Int32} {z p : Nat} (h : fg s z p = none) : ¬ (p < z ∧ 48 ≤ s p ∧ s p ≤ 57) := by
  unfold fg at h
  intro c
  rw [if_pos c] at h
  cases h
theorem c_fig {D : sT} {t : Nat} {s : Nat → Int32} {z p : Nat} (h : tC D t s z) (hp : p ≤ z) (Q : Int32 → sT → Prop) (h1 : ∀ v, fg s z p = some v → Q (nI v) (xcs D (nI (p + 1)) (-9))) (h2 : fg s z p = none → Q 0 (xcs D (nI p) (nI p))) : wp_X2_readFigure (xcs D (nI p) (-9)) Q := by
  obtain ⟨ht, hz, hT, hs, hx⟩ := h
  unfold wp_X2_readFigure wb_X2_readFigure_39
  rw [cs103, cs102, csI D _ _ (by decide) (by decide), csT, csA, hT, hs, nI_leI (by omega) (by omega)]
  refine yes rfl ?_
  by_cases hpz : p < z
  · refine no (by omega) ⟨kRow1 t ht, by rw [lRow1 t ht]; exact vp_in_nI (by omega) (by decide), ?_⟩
    rw [nI_clamp (by omega), hx p (by omega), q_isBelow, csu2, csu3, cs102, nI_1]
    by_cases hd : 48 ≤ s p ∧ s p ≤ 57
    · obtain ⟨i, hi, e⟩ := fg_ix hd
      have ef : fg s z p = some i := by
        unfold fg
        rw [if_pos ⟨hpz, hd⟩, e, nI_clamp (by omega)]
      rw [e, if_pos (show 0 ≤ nI i ∧ nI i < 10 from ixI (n := 10) hi (by decide))]
      exact no' n10 (h1 i ef)
    · have ef : fg s z p = none := by
        unfold fg
        rw [if_neg (fun c => hd c.2)]
      have hb : ¬ (0 ≤ s p - 48 ∧ s p - 48 < 10) := by
        intro hc
        obtain ⟨i, hi, e⟩ := ixY (n := 10) (by decide) (show 0 ≤ s p - 48 ∧ s p - 48 < nI 10 from hc)
        apply hd
        have e2 : s p = nI (48 + i) := by
          have e3 : s p = nI i + 48 := by grind
          rw [e3, show (48 : Int32) = nI 48 from rfl, nI_add, Nat.add_comm]
        rw [e2]
        exact ⟨nI_le (show 48 ≤ 48 + i by omega) (by omega), nI_le (show 48 + i ≤ 57 by omega) (by decide)⟩
      rw [if_neg hb]
      exact yes' rfl (h2 ef)
  · refine yes (by omega) ?_
    rw [q_isBelow, if_neg (by decide), csu3, cs102]
    exact yes' rfl (h2 (by unfold fg; rw [if_neg (fun c => hpz c.1)]))
theorem c_fig0 {D : sT} {p f : Int32} (hf : ¬ f = -9) (Q : Int32 → sT → Prop) (h1 : Q 0 (xcs D p f)) : wp_X2_readFigure (xcs D p f) Q := by
  unfold wp_X2_readFigure
  rw [cs103]
  exact no hf h1
theorem r_here {R : sT} {t : Nat} {s : Nat → Int32} {z p : Nat} {v : Int32} (h : tR R t s z) (hp : p ≤ z) (Q : Int32 → sT → Prop) : wp_X5_here (xrs R (nI p) v) Q ↔ Q (if p < z then s p else -1) (xrs R (nI p) v) := by
  obtain ⟨ht, hz, hs, hw, hx⟩ := h
  unfold wp_X5_here
  rw [rs19, rsI R _ _ (by decide) (by decide), rsI R _ _ (by decide) (by decide), rsA, hs, hw, nI_leI (by omega) (by omega), show (60 : Int32) * nI t + nI p = nI (60 * t + p) by rw [show (60 : Int32) = nI 60 from rfl, pk_mul, nI_add], nI_clamp (by omega)]
  by_cases hpz : p < z
  · rw [if_pos hpz, hx p (by omega)]
    exact ⟨fun h => (h.2 (by omega)).2, fun h => no (by omega) ⟨vp_in_nI (by omega) (by decide), h⟩⟩
  · rw [if_neg hpz]
    exact ⟨fun h => h.1 (by omega), fun h => yes (by omega) h⟩
theorem r_fig {R : sT} {t : Nat} {s : Nat → Int32} {z p : Nat} {v : Int32} (h : tR R t s z) (hp : p ≤ z) (Q : Int32 → sT → Prop) (h1 : ∀ u, fg s z p = some u → Q 1 (xrs R (nI (p + 1)) (nI u))) (h2 : fg s z p = none → Q 0 (xrs R (nI p) v)) : wp_X5_isFigure (xrs R (nI p) v) Q := by
  unfold wp_X5_isFigure
  rw [r_here h hp, q_in _ 48 57 48 57 (by decide) (by decide), r_here h hp]
  by_cases hd : p < z ∧ 48 ≤ s p ∧ s p ≤ 57
  · obtain ⟨i, hi, e⟩ := fg_ix hd.2
    have ef : fg s z p = some i := by
      unfold fg
      rw [if_pos hd, e, nI_clamp (by omega)]
    rw [if_pos hd.1, if_pos hd.2, e, rsu2, rs19, rsu1, nI_1]
    exact no' n10 (h1 i ef)
  · have ef : fg s z p = none := by
      unfold fg
      rw [if_neg hd]
    rw [if_neg (show ¬ (48 ≤ (if p < z then s p else -1) ∧ (if p < z then s p else -1) ≤ 57) by
      intro hc
      by_cases hpz : p < z
      · rw [if_pos hpz] at hc
        exact hd ⟨hpz, hc⟩
      · rw [if_neg hpz] at hc
        exact absurd hc (by decide))]
    exact yes' rfl (h2 ef)
/-- two figures -/
def two (s : Nat → Int32) (z p lo hi : Nat) : Sum Nat Nat :=
  match fg s z p with
  | none => .inr p
  | some a => match fg s z (p + 1) with
    | none => .inr (p + 1)
    | some b => if lo ≤ 10 * a + b ∧ 10 * a + b ≤ hi then .inl (10 * a + b) else .inr p
theorem two_inl {s : Nat → Int32} {z p lo hi v : Nat} (h : two s z p lo hi = .inl v) : p + 2 ≤ z ∧ lo ≤ v ∧ v ≤ hi := by
  unfold two at h
  cases h1 : fg s z p with
  | none => rw [h1] at h; cases h
  | some a =>
    rw [h1] at h
    cases h2 : fg s z (p + 1) with
    | none => rw [h2] at h; cases h
    | some b =>
      rw [h2] at h
      have g2 := fg_some h2
      by_cases c : lo ≤ 10 * a + b ∧ 10 * a + b ≤ hi
      · simp only [if_pos c] at h
        have := Sum.inl.inj h
        omega
      · simp only [if_neg c] at h
        cases h
theorem two_inr {s : Nat → Int32} {z p lo hi q : Nat} (hp : p ≤ z) (h : two s z p lo hi = .inr q) : q ≤ z := by
  unfold two at h
  cases h1 : fg s z p with
  | none => rw [h1] at h; have := Sum.inr.inj h; omega
  | some a =>
    rw [h1] at h
    have g1 := fg_some h1
    cases h2 : fg s z (p + 1) with
    | none => rw [h2] at h; have := Sum.inr.inj h; omega
    | some b =>
      rw [h2] at h
      by_cases c : lo ≤ 10 * a + b ∧ 10 * a + b ≤ hi
      · simp only [if_pos c] at h
        cases h
      · simp only [if_neg c] at h
        have := Sum.inr.inj h
        omega
theorem n9 {q : Nat} (h : q ≤ 60) : ¬ nI q = -9 := fun e => by
  have h := nI_pos (show q < 2 ^ 31 by omega)
  rw [e] at h
  exact h (by decide)
theorem e10 (a b : Nat) : (10 : Int32) * nI a + nI b = nI (10 * a + b) := by
  rw [show (10 : Int32) = nI 10 from rfl, pk_mul, nI_add]
theorem c_two {D : sT} {t : Nat} {s : Nat → Int32} {z p : Nat} (h : tC D t s z) (hp : p ≤ z) {lo hi : Nat} (hlo : lo ≤ 60) (hhi : hi ≤ 60) (Q : Int32 → sT → Prop) (h1 : ∀ v, two s z p lo hi = .inl v → Q (nI v) (xcs D (nI (p + 2)) (-9))) (h2 : ∀ q a, two s z p lo hi = .inr q → Q 0 (xcs D a (nI q))) : wp_X2_readTwoFigures (nI lo) (nI hi) (xcs D (nI p) (-9)) Q := by
  have hz := h.2.1
  unfold wp_X2_readTwoFigures wb_X2_readTwoFigures_44 wb_X2_readTwoFigures_49
  rw [cs102]
  refine c_fig h hp _ (fun a ha => ?_) (fun ha => ?_)
  · have ga := fg_some ha
    refine c_fig h (by omega) _ (fun b hb => ?_) (fun hb => ?_)
    · have gb := fg_some hb
      have e2 : two s z p lo hi = if lo ≤ 10 * a + b ∧ 10 * a + b ≤ hi then .inl (10 * a + b) else .inr p := by
        unfold two
        rw [ha, hb]
      rw [cs103, e10, csu3, nI_ltI (by omega) (by omega), nI_leI (by omega) (by omega), cs103]
      refine yes' rfl ⟨fun c => ?_, fun c => ⟨fun c2 => ?_, fun c2 => ?_⟩⟩
      · exact ⟨fun _ => h2 p _ (by rw [e2, if_neg (by omega)]), fun e => absurd e (n9 (by omega))⟩
      · exact yes' rfl (h1 _ (by rw [e2, if_pos (by omega)]))
      · exact ⟨fun _ => h2 p _ (by rw [e2, if_neg (by omega)]), fun e => absurd e (n9 (by omega))⟩
    · rw [cs103]
      have e2 : two s z p lo hi = .inr (p + 1) := by
        unfold two
        rw [ha, hb]
      exact ⟨fun _ => ⟨fun _ => h2 _ _ e2, fun e => absurd e (n9 (by omega))⟩, fun e => absurd e (n9 (by omega))⟩
  · have e2 : two s z p lo hi = .inr p := by
      unfold two
      rw [ha]
    refine c_fig0 (n9 (by omega)) _ ?_
    rw [cs103]
    exact ⟨fun _ => ⟨fun _ => h2 _ _ e2, fun e => absurd e (n9 (by omega))⟩, fun e => absurd e (n9 (by omega))⟩
theorem c_two0 {D : sT} {p f lo hi : Int32} (hf : ¬ f = -9) (Q : Int32 → sT → Prop) (h1 : Q 0 (xcs D p f)) : wp_X2_readTwoFigures lo hi (xcs D p f) Q := by
  unfold wp_X2_readTwoFigures wb_X2_readTwoFigures_44 wb_X2_readTwoFigures_49
  refine c_fig0 hf _ (c_fig0 hf _ ?_)
  rw [cs103]
  exact no' hf (no' hf h1)
theorem r_two {R : sT} {t : Nat} {s : Nat → Int32} {z p : Nat} {v : Int32} (h : tR R t s z) (hp : p ≤ z) {lo hi : Nat} (hlo : lo ≤ 60) (hhi : hi ≤ 60) (Q : Int32 → sT → Prop) (h1 : ∀ u, two s z p lo hi = .inl u → Q 1 (xrs R (nI (p + 2)) (nI u))) (h2 : ∀ q u, two s z p lo hi = .inr q → Q 0 (xrs R (nI q) u)) : wp_X5_areFigures (nI lo) (nI hi) (xrs R (nI p) v) Q := by
  have hz := h.2.1
  unfold wp_X5_areFigures wb_X5_areFigures_67
  rw [rs19]
  refine r_fig h hp _ (fun a ha => ?_) (fun ha => ?_)
  · have ga := fg_some ha
    refine no' n10 (r_fig h (by omega) _ (fun b hb => ?_) (fun hb => ?_))
    · have gb := fg_some hb
      have e2 : two s z p lo hi = if lo ≤ 10 * a + b ∧ 10 * a + b ≤ hi then .inl (10 * a + b) else .inr p := by
        unfold two
        rw [ha, hb]
      refine no' n10 ?_
      rw [rs22, rs22, rsu2, rs22, show nI b + 10 * nI a = nI (10 * a + b) by rw [show (10 : Int32) = nI 10 from rfl, pk_mul, nI_add, Nat.add_comm], q_in _ (nI lo) (nI hi) _ _ rfl rfl, rs19, rsu1, rsu1, rs22, rs22, q_in _ (nI lo) (nI hi) _ _ rfl rfl, q_in _ (nI lo) (nI hi) _ _ rfl rfl]
      by_cases c : lo ≤ 10 * a + b ∧ 10 * a + b ≤ hi
      · rw [if_pos (show nI lo ≤ nI (10 * a + b) ∧ nI (10 * a + b) ≤ nI hi from ⟨nI_le c.1 (by omega), nI_le c.2 (by omega)⟩)]
        exact no n10 ⟨by decide, h1 _ (by rw [e2, if_pos c])⟩
      · rw [if_neg (show ¬ (nI lo ≤ nI (10 * a + b) ∧ nI (10 * a + b) ≤ nI hi) from fun h => c ⟨(nI_leI (by omega) (by omega)).mp h.1, (nI_leI (by omega) (by omega)).mp h.2⟩)]
        exact yes rfl ⟨by decide, h2 _ _ (by rw [e2, if_neg c])⟩
    · exact yes' rfl (h2 _ _ (by unfold two; rw [ha, hb]))
  · exact yes' rfl (h2 _ _ (by unfold two; rw [ha]))
/-! blanks -/
def skR (s : Nat → Int32) (z p q : Nat) : Prop := p ≤ q ∧ q ≤ z ∧ (∀ i, p ≤ i → i < q → s i = 32) ∧ (q < z → ¬ s q = 32)
theorem sk_ex (s : Nat → Int32) (z : Nat) : ∀ k p, p + k = z → ∃ q, skR s z p q := by
  intro k
  induction k with
  | zero => exact fun p hp => ⟨p, Nat.le_refl _, by omega, fun i h1 h2 => absurd h1 (by omega), fun h => absurd h (by omega)⟩
  | succ k ih =>
    intro p hp
    by_cases c : s p = 32
    · obtain ⟨q, h1, h2, h3, h4⟩ := ih (p + 1) (by omega)
      refine ⟨q, by omega, h2, fun i g1 g2 => ?_, h4⟩
      by_cases e : i = p
      · rw [e]; exact c
      · exact h3 i (by omega) g2
    · exact ⟨p, Nat.le_refl _, by omega, fun i h1 h2 => absurd h1 (by omega), fun _ => c⟩
theorem c_skip {D : sT} {t : Nat} {s : Nat → Int32} {z : Nat} (h : tC D t s z) {f : Int32} (Q : sT → Prop) {q : Nat} (hQ : Q (xcs D (nI q) f)) : ∀ k p, p + k = q → skR s z p q → wp_X2_passBlanks (xcs D (nI p) f) Q := by
  obtain ⟨ht, hz, hT, hs, hx⟩ := h
  have key : ∀ (K : sT → Prop) (p : Nat), skR s z p q → (p = q → wb_X2_passBlanks_0 Q K (xcs D (nI p) f)) ∧ (p < q → K (xcs D (nI (p + 1)) f) → wb_X2_passBlanks_0 Q K (xcs D (nI p) f)) := by
    intro K p ⟨h1, h2, h3, h4⟩
    unfold wb_X2_passBlanks_0
    rw [cs102, csI D _ _ (by decide) (by decide), csT, csA, hT, hs, nI_leI (by omega) (by omega), nI_clamp (by omega), csu2, nI_1]
    refine ⟨fun e => ?_, fun e hK => ?_⟩
    · subst e
      refine ⟨fun _ => hQ, fun c => ⟨kRow1 t ht, by rw [lRow1 t ht]; exact vp_in_nI (by omega) (by decide), fun _ => hQ, fun c2 => ?_⟩⟩
      rw [hx p (by omega)] at c2
      exact absurd c2 (h4 (by omega))
    · refine no (by omega) ⟨kRow1 t ht, by rw [lRow1 t ht]; exact vp_in_nI (by omega) (by decide), fun c2 => ?_, fun _ => hK⟩
      rw [hx p (by omega)] at c2
      exact absurd (h3 p (Nat.le_refl _) e) c2
  intro k
  induction k with
  | zero => exact fun p hp hk => ⟨1, (key _ p hk).1 (by omega)⟩
  | succ k ih =>
    intro p hp hk
    obtain ⟨n, hn⟩ := ih (p + 1) (by omega) ⟨by omega, hk.2.1, fun i g1 g2 => hk.2.2.1 i (by omega) g2, hk.2.2.2⟩
    exact ⟨n + 1, (key _ p hk).2 (by omega) hn⟩
theorem r_skip {R : sT} {t : Nat} {s : Nat → Int32} {z : Nat} {v : Int32} (h : tR R t s z) (Q : sT → Prop) {q : Nat} (hQ : Q (xrs R (nI q) v)) : ∀ k p, p + k = q → skR s z p q → wp_X5_skips (xrs R (nI p) v) Q := by
  have key : ∀ (K : sT → Prop) (p : Nat), skR s z p q → (p = q → wb_X5_skips_0 Q K (xrs R (nI p) v)) ∧ (p < q → K (xrs R (nI (p + 1)) v) → wb_X5_skips_0 Q K (xrs R (nI p) v)) := by
    intro K p ⟨h1, h2, h3, h4⟩
    unfold wb_X5_skips_0
    rw [r_here h (by omega), rs19, rsu1, nI_1]
    refine ⟨fun e => ?_, fun e hK => ?_⟩
    · subst e
      refine no' (fun c2 => ?_) hQ
      by_cases c : p < z
      · rw [if_pos c] at c2
        exact h4 c c2
      · rw [if_neg c] at c2
        exact absurd c2 (by decide)
    · rw [if_pos (by omega)]
      exact yes' (h3 p (Nat.le_refl _) e) hK
  intro k
  induction k with
  | zero => exact fun p hp hk => ⟨1, (key _ p hk).1 (by omega)⟩
  | succ k ih =>
    intro p hp hk
    obtain ⟨n, hn⟩ := ih (p + 1) (by omega) ⟨by omega, hk.2.1, fun i g1 g2 => hk.2.2.1 i (by omega) g2, hk.2.2.2⟩
    exact ⟨n + 1, (key _ p hk).2 (by omega) hn⟩
/-! the letter of a kind -/
def kb (x : Int32) : Int32 := if x = 115 then 0 else if x = 99 then 1 else if x = 98 then 2 else if x = 105 then 3 else if x = 103 then 4 else if x = 108 then 5 else -9
theorem kb_ok (x : Int32) : kb x = -9 ∨ ∃ k, k ≤ 5 ∧ kb x = nI k := by
  unfold kb
  split
  · exact Or.inr ⟨0, by decide, rfl⟩
  split
  · exact Or.inr ⟨1, by decide, rfl⟩
  split
  · exact Or.inr ⟨2, by decide, rfl⟩
  split
  · exact Or.inr ⟨3, by decide, rfl⟩
  split
  · exact Or.inr ⟨4, by decide, rfl⟩
  split
  · exact Or.inr ⟨5, by decide, rfl⟩
  · exact Or.inl rfl
theorem c_kind1 {x : Int32} {S : sT} {Q : Int32 → sT → Prop} (n i : Nat) (hi : i < 6) (h1 : kL i = x → Q (nI i) S) (h2 : ¬ kL i = x → wl_X2_kindByLetter_2 Q n x (nI (i + 1)) S) : wl_X2_kindByLetter_2 Q (n + 1) x (nI i) S := by
  show wb_X2_kindByLetter_2 Q _ x (nI i) S
  unfold wb_X2_kindByLetter_2
  rw [nI_clamp (by omega), nI_1]
  exact no (nI_ge hi (by decide)) ⟨vp_in_nI hi (by decide), h2, h1⟩
theorem c_kind {x : Int32} {S : sT} {Q : Int32 → sT → Prop} (h : Q (kb x) S) : wp_X2_kindByLetter x S Q := by
  unfold kb at h
  refine ⟨7, c_kind1 6 0 (by decide) (fun e => ?_) (fun e0 => c_kind1 5 1 (by decide) (fun e => ?_) (fun e1 => c_kind1 4 2 (by decide) (fun e => ?_) (fun e2 => c_kind1 3 3 (by decide) (fun e => ?_) (fun e3 => c_kind1 2 4 (by decide) (fun e => ?_) (fun e4 => c_kind1 1 5 (by decide) (fun e => ?_) (fun e5 => ?_))))))⟩
  · rw [if_pos (show x = 115 from e.symm)] at h; exact h
  · rw [if_neg (show ¬ x = 115 from fun c => e0 c.symm), if_pos (show x = 99 from e.symm)] at h; exact h
  · rw [if_neg (show ¬ x = 115 from fun c => e0 c.symm), if_neg (show ¬ x = 99 from fun c => e1 c.symm), if_pos (show x = 98 from e.symm)] at h; exact h
  · rw [if_neg (show ¬ x = 115 from fun c => e0 c.symm), if_neg (show ¬ x = 99 from fun c => e1 c.symm), if_neg (show ¬ x = 98 from fun c => e2 c.symm), if_pos (show x = 105 from e.symm)] at h; exact h
  · rw [if_neg (show ¬ x = 115 from fun c => e0 c.symm), if_neg (show ¬ x = 99 from fun c => e1 c.symm), if_neg (show ¬ x = 98 from fun c => e2 c.symm), if_neg (show ¬ x = 105 from fun c => e3 c.symm), if_pos (show x = 103 from e.symm)] at h; exact h
  · rw [if_neg (show ¬ x = 115 from fun c => e0 c.symm), if_neg (show ¬ x = 99 from fun c => e1 c.symm), if_neg (show ¬ x = 98 from fun c => e2 c.symm), if_neg (show ¬ x = 105 from fun c => e3 c.symm), if_neg (show ¬ x = 103 from fun c => e4 c.symm), if_pos (show x = 108 from e.symm)] at h; exact h
  · rw [if_neg (show ¬ x = 115 from fun c => e0 c.symm), if_neg (show ¬ x = 99 from fun c => e1 c.symm), if_neg (show ¬ x = 98 from fun c => e2 c.symm), if_neg (show ¬ x = 105 from fun c => e3 c.symm), if_neg (show ¬ x = 103 from fun c => e4 c.symm), if_neg (show ¬ x = 108 from fun c => e5 c.symm)] at h
    show wb_X2_kindByLetter_2 Q _ x (nI 6) S
    unfold wb_X2_kindByLetter_2
    exact yes (by decide) h
theorem r_kind {x : Int32} {S : sT} {Q : Int32 → sT → Prop} (h : Q (kb x) S) : wp_X5_kindOf x S Q := by
  unfold wp_X5_kindOf
  refine ⟨fun e => ?_, fun e => ?_, fun e => ?_, fun e => ?_, fun e => ?_, fun e => ?_, fun e1 e2 e3 e4 e5 e6 => ?_⟩
  · subst e; exact h
  · subst e; exact h
  · subst e; exact h
  · subst e; exact h
  · subst e; exact h
  · subst e; exact h
  · unfold kb at h
    rw [if_neg e6, if_neg e2, if_neg e1, if_neg e4, if_neg e3, if_neg e5] at h
    exact h
