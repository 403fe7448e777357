/-! deeds -/
def offC (C C' : sT) : Prop := (∀ k, ¬ (20 ≤ k ∧ k < 33) → vI C' k = vI C k ∧ vA C' k = vA C k) ∧ ∀ k, vL C' k = vL C k
def offR (R R' : sT) : Prop := (∀ k, ¬ k = 14 → ¬ k = 16 → vA R' k = vA R k) ∧ (∀ k, ¬ k = 17 → vI R' k = vI R k) ∧ ∀ k, vL R' k = vL R k
def IN (n last due : Nat) (kd bd : Nat → Nat) (d : Nat) (V : Nat → Nat) (C R : sT) : Prop := relM C R ∧ relR C R ∧ relT C R ∧ relK C R n last due kd bd ∧ okN n last due kd bd ∧ d ≤ 40 ∧ ∃ T : Nat → Nat → Nat, T d = V ∧ (∀ e, e ≤ d → okV n last (T e)) ∧ nightC C 0 n last due kd bd T d ∧ nightR R n last due kd bd T d
theorem inv_of_IN {n last due : Nat} {kd bd : Nat → Nat} {d : Nat} {V : Nat → Nat} {C R : sT} (h : IN n last due kd bd d V C R) : Inv C R := by
  obtain ⟨h1, h2, h3, h4, h5, h6, T, h7, h8, h9, h10⟩ := h
  exact ⟨h1, h2, h3, n, last, due, kd, bd, T, d, h5, h6, h8, h9, h10, h4⟩
theorem IN_of {C R : sT} (h : Inv C R) : ∃ (n last due : Nat) (kd bd : Nat → Nat) (d : Nat) (V : Nat → Nat), IN n last due kd bd d V C R := by
  obtain ⟨h1, h2, h3, n, last, due, kd, bd, T, d, h5, h6, h8, h9, h10, h4⟩ := h
  exact ⟨n, last, due, kd, bd, d, T d, h1, h2, h3, h4, h5, h6, T, rfl, h8, h9, h10⟩
def deedC (C C' : sT) (d : Nat) (what who was : Int32) : Prop := offC C C' ∧ vA C' 23 = upd (vA C 23) d what ∧ vA C' 24 = upd (vA C 24) d who ∧ vA C' 25 = upd (vA C 25) d was ∧ vI C' 32 = nI (d + 1) ∧ vI C' 28 = vI C 28
def deedR (n : Nat) (R R' : sT) (d : Nat) (V V' : Nat → Nat) : Prop := offR R R' ∧ vI R' 17 = nI (d + 1) ∧ (∀ i, i < 3 + n → vA R' 14 i = nI (V' i)) ∧ ∀ e, e ≤ d → ∀ i, i < 3 + n → vA R' 16 (9 * e + i) = if e = d then nI (V i) else vA R 16 (9 * e + i)
theorem relK_of {C C' R R' : sT} {n last due : Nat} {kd bd : Nat → Nat} (h : relK C R n last due kd bd) (e5 : vA C' 5 = vA C 5) (e : ∀ k, 46 ≤ k ∧ k < 85 → vI C' k = vI C k ∧ vA C' k = vA C k) (g5 : vA R' 18 = vA R 18) : relK C' R' n last due kd bd := by
  intro k hk
  unfold keptR
  rw [e5, g5]
  rcases h k hk with h7 | ⟨h7, T', d', h8, h9, h10, h11⟩
  · exact Or.inl h7
  · exact Or.inr ⟨h7, T', d', h8, h9, nightC_of h10 (fun f hf => e _ (by omega)), h11⟩
theorem IN_line {n last due : Nat} {kd bd : Nat → Nat} {d : Nat} {V : Nat → Nat} {C R : sT} (h : IN n last due kd bd d V C R) : lineC C n last kd bd V ∧ okW n kd bd V ∧ V 1 ≤ last ∧ last ≤ 20 ∧ V 0 ≤ 99 ∧ okV n last V ∧ n ≤ 6 ∧ d ≤ 40 ∧ due ≤ 60 ∧ vI C 28 = nI due ∧ vI C 32 = nI d ∧ onR R 14 n last kd bd V ∧ vI R 11 = nI due ∧ vI R 17 = nI d := by
  obtain ⟨h1, h2, h3, h4, h5, h6, T, h7, h8, h9, h10⟩ := h
  obtain ⟨⟨c1, c2, c3, c4, c5, c6, c7⟩, cs, -⟩ := h9
  obtain ⟨⟨r1, r2, r3, r4⟩, rs, rn, -⟩ := h10
  have hV := h8 d (Nat.le_refl d)
  rw [h7] at hV c4 c5 c6 cs rn
  have hl := h5.2.1
  refine ⟨⟨c1, c2, c4, c5, c6, cs⟩, ⟨h5.1, fun i hi => ⟨(h5.2.2.2 i hi).1, ?_, hV.2.2.2 i hi⟩, ?_, ?_, pow_le64 h5.1 hV.2.2.1⟩, hV.2.1, hl, hV.1, hV, h5.1, h6, h5.2.2.1, c3, c7, ⟨r1, r2, rs, rn⟩, r3, r4⟩
  · have := (h5.2.2.2 i hi).2; omega
  · have := hV.1; omega
  · have := hV.2.1; omega
theorem IN_step {n last due : Nat} {kd bd : Nat → Nat} {d : Nat} {V V' : Nat → Nat} {C R C' R' : sT} (h : IN n last due kd bd d V C R) (hd : d < 40) (hV' : okV n last V') {what who was : Int32} (hlog : logD n what who was V V') (oC : deedC C C' d what who was) (hL : lineC C' n last kd bd V') (oR : deedR n R R' d V V') : IN n last due kd bd (d + 1) V' C' R' := by
  obtain ⟨h1, h2, h3, h4, h5, h6, T, h7, h8, h9, h10⟩ := h
  obtain ⟨⟨o1, o2⟩, d1, d2, d3, d4, d5⟩ := oC
  obtain ⟨⟨p1, p2, p3⟩, q1, q2, q3⟩ := oR
  obtain ⟨l1, l2, l3, l4, l5, l6⟩ := hL
  have hoc : ∀ k, 46 ≤ k ∧ k < 85 → vI C' k = vI C k ∧ vA C' k = vA C k := fun k hk => o1 k (by omega)
  refine ⟨relM_of h1 (o1 13 (by omega)).1 (o2 14) (o2 15) (o1 16 (by omega)).1 (o1 12 (by omega)).2 (p2 4 (by omega)) (p3 5) (p3 6) (p2 7 (by omega)) (p1 8 (by omega) (by omega)), relR_of h2 (o1 200 (by omega)).2 (fun r hr => (o1 (300 + r) (by omega)).2) (p1 1 (by omega) (by omega)) (p1 0 (by omega) (by omega)), relT_of h3 (o1 201 (by omega)).2 (fun r hr => (o1 (310 + r) (by omega)).2) (p1 3 (by omega) (by omega)) (p1 2 (by omega) (by omega)), relK_of h4 (o1 5 (by omega)).2 hoc (p1 18 (by omega) (by omega)), h5, by omega, fun e => if e ≤ d then T e else V', ?_, ?_, ?_, ?_⟩
  · show (if d + 1 ≤ d then _ else _) = _
    rw [if_neg (by omega)]
  · intro e he
    show okV n last (if e ≤ d then T e else V')
    by_cases c : e ≤ d
    · rw [if_pos c]; exact h8 e c
    · rw [if_neg c]; exact hV'
  · obtain ⟨⟨c1, c2, c3, c4, c5, c6, c7⟩, cs, cl⟩ := h9
    have eT : (fun e => if e ≤ d then T e else V') (d + 1) = V' := by
      show (if d + 1 ≤ d then _ else _) = _
      rw [if_neg (by omega)]
    refine ⟨⟨l1, l2, ?_, ?_, ?_, ?_, d4⟩, fun i hi => ?_, fun e he => ?_⟩
    · show vI C' 28 = _
      rw [d5]; exact c3
    · rw [eT]; exact l3
    · rw [eT]; exact l4
    · rw [eT]; exact l5
    · rw [eT]; exact l6 i hi
    · show logD n (vA C' 23 e) (vA C' 24 e) (vA C' 25 e) (if e ≤ d then T e else V') (if e + 1 ≤ d then T (e + 1) else V')
      rw [d1, d2, d3, if_pos (show e ≤ d by omega)]
      simp only [up]
      by_cases c : e = d
      · rw [if_pos c, if_pos c, if_pos c, if_neg (by omega), c, h7]
        exact hlog
      · rw [if_neg c, if_neg c, if_neg c, if_pos (by omega)]
        exact cl e (by omega)
  · obtain ⟨⟨r1, r2, r3, r4⟩, rs, rn, ra⟩ := h10
    have eT : (fun e => if e ≤ d then T e else V') (d + 1) = V' := by
      show (if d + 1 ≤ d then _ else _) = _
      rw [if_neg (by omega)]
    refine ⟨⟨(p2 9 (by omega)).trans r1, (p2 10 (by omega)).trans r2, (p2 11 (by omega)).trans r3, q1⟩, fun i hi => ?_, fun i hi => ?_, fun e he i hi => ?_⟩
    · rw [p1 12 (by omega) (by omega), p1 13 (by omega) (by omega)]
      exact rs i hi
    · rw [eT]; exact q2 i hi
    · show _ = nI ((if e ≤ d then T e else V') i)
      rw [q3 e (by omega) i hi, if_pos (show e ≤ d by omega)]
      by_cases c : e = d
      · rw [if_pos c, c, h7]
      · rw [if_neg c]
        exact ra e (by omega) i hi
/-! the class's -/
def nd (C : sT) (d : Nat) (x1 x2 x3 : Int32) : sT := uI (uA (uA (uA C 23 (upd (vA C 23) d x1)) 24 (upd (vA C 24) d x2)) 25 (upd (vA C 25) d x3)) 32 (nI (d + 1))
theorem q_room {C : sT} {d m : Nat} (h : vI C 32 = nI d) (hd : d ≤ 40) (hm : m ≤ 40) (Q : Int32 → sT → Prop) (hQ : Q (b2 (decide (d + m ≤ 40))) C) : wp_X1_hasRoomFor 0 (nI m) C Q := by
  unfold wp_X1_hasRoomFor
  rw [show vI C (20 + 13 * 0 + 12) = nI d from h, show (40 : Int32) = nI 40 from rfl, pk_sub hm, nI_ltI (by omega) (by omega)]
  by_cases c : d + m ≤ 40
  · rw [show decide (d + m ≤ 40) = true by simp [c]] at hQ
    exact no (by omega) hQ
  · rw [show decide (d + m ≤ 40) = false by simp [c]] at hQ
    exact yes (by omega) hQ
theorem q_note {C : sT} {d : Nat} (h : vI C 32 = nI d) (hd : d < 40) (x1 x2 x3 : Int32) (Q : sT → Prop) (hQ : Q (nd C d x1 x2 x3)) : wp_X1_noteDeed 0 x1 x2 x3 C Q := by
  unfold wp_X1_noteDeed
  simp only [Nat.reduceMul, Nat.reduceAdd]
  refine q_room (m := 1) h (by omega) (by decide) _ (cn (fun e => ?_) (fun e => ?_))
  · simp at e; omega
  have hcl : (nI d).toNatClampNeg = d := nI_clamp (by omega)
  simp only [ac, h, hcl]
  refine ⟨vp_in_nI hd (by decide), vp_in_nI hd (by decide), fun S4 e4 => ?_⟩
  rw [if_neg (by decide)] at e4
  subst e4
  simp only [ac, h, hcl]
  refine ⟨vp_in_nI hd (by decide), fun S6 e6 => ?_⟩
  rw [if_neg (by decide), if_neg (by decide), nI_1] at e6
  subst e6
  exact hQ
theorem off_nd (C : sT) (d : Nat) (x1 x2 x3 : Int32) : deedC C (nd C d x1 x2 x3) d x1 x2 x3 := by
  refine ⟨⟨fun k hk => ⟨?_, ?_⟩, fun k => ?_⟩, ?_, ?_, ?_, ?_, ?_⟩
  · simp only [nd, ac]; rw [if_neg (by omega)]
  · simp only [nd, ac]; rw [if_neg (by omega), if_neg (by omega), if_neg (by omega)]
  all_goals simp [nd, ac]
theorem line_nd {C : sT} {n last : Nat} {kd bd V : Nat → Nat} (h : lineC C n last kd bd V) (d : Nat) (x1 x2 x3 : Int32) : lineC (nd C d x1 x2 x3) n last kd bd V := h
theorem deedC_uI {C C' : sT} {d : Nat} {x1 x2 x3 : Int32} (h : deedC C C' d x1 x2 x3) (k : Nat) (hk : k = 29 ∨ k = 30 ∨ k = 31) (x : Int32) : deedC C (uI C' k x) d x1 x2 x3 := by
  obtain ⟨⟨o1, o2⟩, d1, d2, d3, d4, d5⟩ := h
  refine ⟨⟨fun m hm => ⟨?_, (o1 m hm).2⟩, o2⟩, d1, d2, d3, ?_, ?_⟩
  · simp only [ac]; rw [if_neg (by omega)]; exact (o1 m hm).1
  · simp only [ac]; rw [if_neg (by omega)]; exact d4
  · simp only [ac]; rw [if_neg (by omega)]; exact d5
theorem deedC_uA {C C' : sT} {d : Nat} {x1 x2 x3 : Int32} (h : deedC C C' d x1 x2 x3) (f : Nat → Int32) : deedC C (uA C' 22 f) d x1 x2 x3 := by
  obtain ⟨⟨o1, o2⟩, d1, d2, d3, d4, d5⟩ := h
  refine ⟨⟨fun m hm => ⟨(o1 m hm).1, ?_⟩, o2⟩, d1, d2, d3, d4, d5⟩
  simp only [ac]; rw [if_neg (by omega)]; exact (o1 m hm).2
theorem q_pass {C : sT} {n last d : Nat} {kd bd V : Nat → Nat} (hL : lineC C n last kd bd V) (hW : okW n kd bd V) (hl : V 1 ≤ last) (hl20 : last ≤ 20) (h99 : V 0 ≤ 99) (h32 : vI C 32 = nI d) (hd : d < 40) (Q : sT → Prop) (h : ∀ C' what who was, logD n what who was V (if V 0 < 99 then go n last kd bd V else V) → deedC C C' d what who was → lineC C' n last kd bd (if V 0 < 99 then go n last kd bd V else V) → Q C') : wp_X1_passMinute 0 C Q := by
  obtain ⟨l1, l2, l3, l4, l5, l6⟩ := id hL
  unfold wp_X1_passMinute
  rw [show vI C (20 + 13 * 0 + 10) = nI (V 0) from l4, show vI C (20 + 13 * 0 + 11) = nI (V 1) from l5, show (99 : Int32) = nI 99 from rfl, nI_ltI (by omega) (by omega)]
  by_cases c : V 0 < 99
  · rw [if_pos c] at h
    refine yes c (q_note h32 hd _ _ _ _ ?_)
    have hL1 := line_nd hL d 0 0 (nI (V 1))
    have o1 := off_nd C d 0 0 (nI (V 1))
    obtain ⟨m1, m2, m3, m4, m5, m6⟩ := id hL1
    have lg : logD n 0 0 (nI (V 1)) V (go n last kd bd V) := Or.inl ⟨rfl, rfl, rfl, rfl, fun i hi => by
      unfold go
      rw [if_neg (by omega), if_neg (by omega)]⟩
    refine q_standL hL1 hW hl hl20 _ (cn (fun e => ?_) (fun e => ?_))
    · unfold wb_X1_passMinute_44
      refine h _ 0 0 _ lg (deedC_uI (deedC_uI o1 31 (by omega) _) 30 (by omega) _) ⟨m1, m2, m3, ?_, ?_, fun i hi => ?_⟩
      · simp only [ac, if_true]
        show vI (nd C d 0 0 (nI (V 1))) 30 + 1 = nI (V 0 + 1)
        rw [m4, nI_1]
      · show vI (nd C d 0 0 (nI (V 1))) 31 + 1 = nI (go n last kd bd V 1)
        rw [m5, nI_1]
        show _ = nI (if std n last kd bd V = true then V 1 else V 1 + 1)
        rw [e, if_neg (by decide)]
      · obtain ⟨k1, k2, k3⟩ := m6 i hi
        refine ⟨k1, k2, ?_⟩
        unfold go
        rw [if_neg (by omega), if_neg (by omega)]
        exact k3
    · unfold wb_X1_passMinute_44
      refine h _ 0 0 _ lg (deedC_uI o1 30 (by omega) _) ⟨m1, m2, m3, ?_, ?_, fun i hi => ?_⟩
      · show vI (nd C d 0 0 (nI (V 1))) 30 + 1 = nI (V 0 + 1)
        rw [m4, nI_1]
      · show vI (nd C d 0 0 (nI (V 1))) 31 = nI (go n last kd bd V 1)
        rw [m5]
        show _ = nI (if std n last kd bd V = true then V 1 else V 1 + 1)
        rw [e, if_pos rfl]
      · obtain ⟨k1, k2, k3⟩ := m6 i hi
        refine ⟨k1, k2, ?_⟩
        unfold go
        rw [if_neg (by omega), if_neg (by omega)]
        exact k3
  · rw [if_neg c] at h
    refine no c (q_note h32 hd _ _ _ _ ?_)
    exact h _ 3 0 0 (Or.inr (Or.inr (Or.inr ⟨rfl, fun _ _ => rfl⟩))) (off_nd C d 3 0 0) (line_nd hL d 3 0 0)
def setV (V : Nat → Nat) (k s : Nat) (i : Nat) : Nat := if i = k then s else V i
theorem q_sup {C : sT} {n last d : Nat} {kd bd V : Nat → Nat} (hL : lineC C n last kd bd V) (hn : n ≤ 6) {w s : Nat} (hw : w < n) (h32 : vI C 32 = nI d) (hd : d < 40) (Q : sT → Prop) (h : ∀ C' what who was, logD n what who was V (setV V (3 + w) s) → deedC C C' d what who was → lineC C' n last kd bd (setV V (3 + w) s) → Q C') : wp_X1_changeSupper 0 (nI w) (nI s) C Q := by
  obtain ⟨l1, l2, l3, l4, l5, l6⟩ := id hL
  unfold wp_X1_changeSupper
  rw [nI_clamp (show w < 2 ^ 31 by omega), show vA C (20 + 13 * 0 + 2) w = nI (V (3 + w)) from (l6 w hw).2.2]
  refine ⟨vp_in_nI (by omega) (by decide), q_note h32 hd _ _ _ _ ⟨vp_in_nI (by omega) (by decide), ?_⟩⟩
  have o1 := off_nd C d 1 (nI w) (nI (V (3 + w)))
  obtain ⟨m1, m2, m3, m4, m5, m6⟩ := line_nd hL d 1 (nI w) (nI (V (3 + w)))
  refine h _ 1 (nI w) (nI (V (3 + w))) (Or.inr (Or.inl ⟨rfl, ⟨w, hw, rfl, rfl, fun i hi hne => ?_⟩, ?_, ?_, ?_⟩)) (deedC_uA o1 _) ⟨m1, m2, ?_, ?_, ?_, fun i hi => ?_⟩
  · unfold setV; rw [if_neg (by omega)]
  · unfold setV; rw [if_neg (by omega)]
  · unfold setV; rw [if_neg (by omega)]
  · unfold setV; rw [if_neg (by omega)]
  · unfold setV; rw [if_neg (by omega)]; exact m3
  · unfold setV; rw [if_neg (by omega)]; exact m4
  · unfold setV; rw [if_neg (by omega)]; exact m5
  · obtain ⟨k1, k2, k3⟩ := m6 i hi
    refine ⟨k1, k2, ?_⟩
    show upd (vA (nd C d 1 (nI w) (nI (V (3 + w)))) 22) w (nI s) i = _
    simp only [up]
    unfold setV
    by_cases e : i = w
    · rw [if_pos e, if_pos (by omega)]
    · rw [if_neg e, if_neg (by omega)]; exact k3
theorem xor_tab : ∀ a, a < 64 → ∀ i, i < 6 → nI a ^^^ ((1 : Int32) <<< (nI i &&& 31)) = nI (a ^^^ 2 ^ i) := by decide +kernel
theorem q_wol {C : sT} {n last d : Nat} {kd bd V : Nat → Nat} (hL : lineC C n last kd bd V) (hW : okW n kd bd V) {w : Nat} (hw : w < n) (h32 : vI C 32 = nI d) (hd : d < 40) (Q : sT → Prop) (h : ∀ C' what who was, logD n what who was V (setV V 2 (V 2 ^^^ 2 ^ w)) → deedC C C' d what who was → lineC C' n last kd bd (setV V 2 (V 2 ^^^ 2 ^ w)) → Q C') : wp_X1_wakeOrLull 0 (nI w) C Q := by
  obtain ⟨l1, l2, l3, l4, l5, l6⟩ := id hL
  unfold wp_X1_wakeOrLull
  rw [show vI C (20 + 13 * 0 + 9) = nI (V 2) from l3]
  refine q_note h32 hd _ _ _ _ ?_
  have o1 := off_nd C d 2 (nI w) (nI (V 2))
  obtain ⟨m1, m2, m3, m4, m5, m6⟩ := line_nd hL d 2 (nI w) (nI (V 2))
  refine h _ 2 (nI w) (nI (V 2)) (Or.inr (Or.inr (Or.inl ⟨rfl, rfl, ?_, ?_, fun i hi => ?_⟩))) (deedC_uI o1 _ (by omega) _) ⟨m1, m2, ?_, ?_, ?_, fun i hi => ?_⟩
  · unfold setV; rw [if_neg (by omega)]
  · unfold setV; rw [if_neg (by omega)]
  · unfold setV; rw [if_neg (by omega)]
  · show vI (nd C d 2 (nI w) (nI (V 2))) 29 ^^^ _ = _
    rw [m3, xor_tab _ hW.2.2.2.2 w (by have := hW.1; omega)]
    rfl
  · unfold setV; rw [if_neg (by omega)]; exact m4
  · unfold setV; rw [if_neg (by omega)]; exact m5
  · obtain ⟨k1, k2, k3⟩ := m6 i hi
    refine ⟨k1, k2, ?_⟩
    unfold setV
    rw [if_neg (by omega)]
    exact k3
/-! the reference's -/
theorem q_copies (k0 k2 i0 j0 m : Nat) (hne : ¬ k0 = k2) (h1 : i0 + m ≤ lenR k0) (h2 : j0 + m ≤ lenR k2) (hl1 : lenR k0 < 2 ^ 31) (hl2 : lenR k2 < 2 ^ 31) (S : sT) (Q : sT → Prop) (h : ∀ F : Nat → Int32, (∀ i, i < m → F (j0 + i) = vA S k0 (i0 + i)) → (∀ k, k < j0 ∨ j0 + m ≤ k → F k = vA S k2 k) → Q (uA S k2 F)) : wp_X5_copies k0 k2 (nI i0) (nI j0) (nI m) S Q := by
  unfold wp_X5_copies
  have h9 := pk_loop (fun n i (F : Nat → Int32) => wl_X5_copies_3 k0 k2 Q n (nI i0) (nI j0) (nI m) (nI i) (uA S k2 F)) (fun i F => (∀ k, k < i → F (j0 + k) = vA S k0 (i0 + k)) ∧ ∀ k, k < j0 ∨ j0 + m ≤ k → F k = vA S k2 k) m 0 (vA S k2) (Nat.zero_le _) ⟨fun j hj => absurd hj (Nat.not_lt_zero j), fun _ _ => rfl⟩ ?_ ?_
  · obtain ⟨n, hn⟩ := h9
    rw [uA_id] at hn
    exact ⟨n, hn⟩
  · intro n F hF
    show wb_X5_copies_3 k0 k2 Q _ _ _ _ _ (uA S k2 F)
    unfold wb_X5_copies_3
    exact yes (nI_le (Nat.le_refl _) (by omega)) (h F hF.1 hF.2)
  · intro n i F hi hF ih
    show wb_X5_copies_3 k0 k2 Q _ _ _ _ _ (uA S k2 F)
    unfold wb_X5_copies_3
    rw [nI_add, nI_add, nI_clamp (show i0 + i < 2 ^ 31 by omega), nI_clamp (show j0 + i < 2 ^ 31 by omega)]
    refine no (nI_ge hi (by omega)) ⟨vp_in_nI (by omega) hl1, vp_in_nI (by omega) hl2, ?_⟩
    have e1 : vA (uA S k2 F) k0 = vA S k0 := by
      simp only [ac]; rw [if_neg hne]
    rw [e1, vA_uA, uA_uA]
    have h3 := ih (upd F (j0 + i) (vA S k0 (i0 + i))) ⟨fun k hk => by
      simp only [up]
      by_cases e : k = i
      · rw [if_pos (by omega), e]
      · rw [if_neg (by omega)]
        exact hF.1 k (by omega), fun k hk => by
      simp only [up]
      rw [if_neg (by omega)]
      exact hF.2 k hk⟩
    rw [← nI_1] at h3
    exact h3
theorem q_remember {R : sT} {d : Nat} (h : vI R 17 = nI d) (hd : d < 40) (Q : sT → Prop) (hQ : ∀ F : Nat → Int32, (∀ i, i < 9 → F (9 * d + i) = vA R 14 i) → (∀ k, k < 9 * d → F k = vA R 16 k) → Q (uI (uA R 16 F) 17 (nI (d + 1)))) : wp_X5_remember R Q := by
  unfold wp_X5_remember
  rw [h, show (9 : Int32) * nI d = nI (9 * d) from pk_mul 9 d]
  refine q_copies 14 16 0 (9 * d) 9 (by decide) (by decide) (show 9 * d + 9 ≤ 360 by omega) (by decide) (by decide) R _ (fun F h1 h2 => ?_)
  have e : vI (uA R 16 F) 17 = nI d := h
  rw [e, nI_1]
  exact hQ F (fun i hi => by rw [h1 i hi, Nat.zero_add]) (fun k hk => h2 k (Or.inl hk))
theorem deedR_of {R : sT} {n d : Nat} (hn : n ≤ 6) {V V' : Nat → Nat} (hV : ∀ i, i < 3 + n → vA R 14 i = nI (V i)) {F G : Nat → Int32} (h1 : ∀ i, i < 9 → F (9 * d + i) = vA R 14 i) (h2 : ∀ k, k < 9 * d → F k = vA R 16 k) (hG : ∀ i, i < 3 + n → G i = nI (V' i)) : deedR n R (uA (uI (uA R 16 F) 17 (nI (d + 1))) 14 G) d V V' := by
  refine ⟨⟨fun k a1 a2 => ?_, fun k a1 => ?_, fun k => ?_⟩, ?_, fun i hi => ?_, fun e he i hi => ?_⟩
  · simp only [ac]; rw [if_neg a1, if_neg a2]
  · simp only [ac]; rw [if_neg a1]
  · simp only [ac]
  · simp [ac]
  · simp only [ac, if_true]; exact hG i hi
  · show F (9 * e + i) = _
    by_cases c : e = d
    · rw [if_pos c, c, h1 i (by omega)]; exact hV i hi
    · rw [if_neg c]; exact h2 _ (by omega)
theorem deedR_id {R : sT} {n d : Nat} (hn : n ≤ 6) {V V' : Nat → Nat} (hV : ∀ i, i < 3 + n → vA R 14 i = nI (V i)) {F : Nat → Int32} (h1 : ∀ i, i < 9 → F (9 * d + i) = vA R 14 i) (h2 : ∀ k, k < 9 * d → F k = vA R 16 k) (hG : ∀ i, i < 3 + n → V' i = V i) : deedR n R (uI (uA R 16 F) 17 (nI (d + 1))) d V V' := by
  have h := deedR_of (V' := V') hn hV h1 h2 (G := vA R 14) (fun i hi => by rw [hG i hi]; exact hV i hi)
  have e : uA (uI (uA R 16 F) 17 (nI (d + 1))) 14 (vA R 14) = uI (uA R 16 F) 17 (nI (d + 1)) := uA_id (uI (uA R 16 F) 17 (nI (d + 1))) 14
  rw [e] at h
  exact h
