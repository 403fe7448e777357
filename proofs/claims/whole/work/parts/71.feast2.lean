theorem q_stB {S : sT} {n last : Nat} {kd bd W : Nat → Nat} (hJ : jn S n last kd bd W) (hW : okW n kd bd W) (hl : W 1 ≤ last) (hl20 : last ≤ 20) (h0 : W 0 ≤ 800) (h29 : vI S 29 = nI (W 2)) {m pl : Nat} (hm : m ≤ 40) (hpl : pl ≤ 20) (Q : Int32 → sT → Prop) (h : ∀ S', offJ S S' → jn S' n last kd bd W → Q (b2 (sdF n last kd bd m pl W)) S') : wp_X4_standsBehind (nI m) (nI pl) S Q := by
  unfold wp_X4_standsBehind
  rw [h29, nI_1]
  refine q_ride hJ hW hl hl20 h0 (show m + 1 ≤ 60 by omega) _ (fun S' o j _ _ ht => ⟨vp_in_nI (by omega) (by decide), ?_⟩)
  have l1 := (it_ok hW hl hl20 h0 m (by omega)).2
  have l2 := (it_ok hW hl hl20 h0 (m + 1) (by omega)).2
  rw [nI_clamp (show m < 2 ^ 31 by omega), nI_clamp (show m + 1 < 2 ^ 31 by omega), ht m (by omega), ht (m + 1) (by omega), nI_eq (a := it n last kd bd W m 1) (by omega) (by omega), nI_eq (a := it n last kd bd W (m + 1) 1) (by omega) (by omega)]
  have h9 := h S' o j
  have hx := it_next n last kd bd W m
  unfold sdF at h9
  refine ⟨fun c => ?_, fun c => ⟨vp_in_nI (by omega) (by decide), fun c2 => ?_, fun c2 => ?_⟩⟩
  · rw [decide_eq_false c] at h9
    exact h9
  · have e : std n last kd bd (it n last kd bd W m) = false := by
      cases hs : std n last kd bd (it n last kd bd W m)
      · rfl
      · rw [hs, if_pos rfl] at hx; omega
    rw [e, Bool.and_false] at h9
    exact h9
  · have e : std n last kd bd (it n last kd bd W m) = true := by
      cases hs : std n last kd bd (it n last kd bd W m)
      · rw [hs, if_neg (by decide)] at hx; omega
      · rfl
    rw [e, decide_eq_true c] at h9
    exact h9
def lrn (S : sT) (n : Nat) (kd V : Nat → Nat) : Prop := ∀ i, i < n → ∀ s, s < 10 → ∀ m, m ≤ 60 → lb (vB S (340 + i) s) m = dr (kd i) s (V 0 + m)
theorem lrn_J {S S' : sT} {n : Nat} {kd V : Nat → Nat} (h : lrn S n kd V) (o : offJ S S') : lrn S' n kd V := by
  intro i hi s hs m hm
  rw [(o.1 (340 + i) (by omega)).2.2]
  exact h i hi s hs m hm
theorem wl_ls_s (Q : sT → Prop) (f : Nat) (x1 : Int32) (S : sT) : wl_X4_learnSuppers_2 Q (f + 1) x1 S = wb_X4_learnSuppers_2 Q (fun x1 S => wl_X4_learnSuppers_2 Q f x1 S) x1 S := rfl
theorem wl_ls2_s (Q : sT → Prop) (K : Int32 → sT → Prop) (f : Nat) (x1 x2 : Int32) (S : sT) : wl_X4_learnSuppers_15 Q K (f + 1) x1 x2 S = wb_X4_learnSuppers_15 Q K (fun x1 x2 S => wl_X4_learnSuppers_15 Q K f x1 x2 S) x1 x2 S := rfl
theorem q_learn {C S : sT} (oS : offK C S) {n last : Nat} {kd bd V : Nat → Nat} (hL : lineC C n last kd bd V) (hW : okW n kd bd V) (hj : jn S n last kd bd V) (Q : sT → Prop) (h : ∀ S', offK C S' → jn S' n last kd bd V → lrn S' n kd V → Q S') : wp_X4_learnSuppers S Q := by
  have hn := hW.1
  unfold wp_X4_learnSuppers
  refine pk_loop (fun f i (S : sT) => wl_X4_learnSuppers_2 Q f (nI i) S) (fun i S => offK C S ∧ jn S n last kd bd V ∧ lrn S i kd V) n 0 S (Nat.zero_le _) ⟨oS, hj, fun i hi => absurd hi (Nat.not_lt_zero i)⟩ ?_ ?_
  · intro f S ⟨oS, hj, hS⟩
    show wl_X4_learnSuppers_2 Q (f + 1) (nI n) S
    rw [wl_ls_s]
    unfold wb_X4_learnSuppers_2
    rw [(line_K hL oS).1]
    exact yes (nI_le (Nat.le_refl _) (by omega)) (h S oS hj hS)
  · intro f i S hi ⟨oS, hj, hS⟩ ih
    show wl_X4_learnSuppers_2 Q (f + 1) (nI i) S
    rw [wl_ls_s]
    unfold wb_X4_learnSuppers_2
    rw [(line_K hL oS).1]
    refine no (nI_ge hi (by omega)) ?_
    refine pk_loop (fun f2 s (S : sT) => wl_X4_learnSuppers_15 Q (fun x1 S => wl_X4_learnSuppers_2 Q f x1 S) f2 (nI i) (nI s) S) (fun e S => offK C S ∧ jn S n last kd bd V ∧ lrn S i kd V ∧ ∀ s, s < e → ∀ m, m ≤ 60 → lb (vB S (340 + i) s) m = dr (kd i) s (V 0 + m)) 10 0 S (Nat.zero_le _) ⟨oS, hj, hS, fun s hs => absurd hs (Nat.not_lt_zero s)⟩ ?_ ?_
    · intro f2 S ⟨oS, hj, hS, hT⟩
      show wl_X4_learnSuppers_15 Q _ (f2 + 1) (nI i) (nI 10) S
      rw [wl_ls2_s]
      unfold wb_X4_learnSuppers_15
      have h9 := ih S ⟨oS, hj, fun k hk s hs m hm => by
        by_cases c : k = i
        · rw [c]; exact hT s hs m hm
        · exact hS k (by omega) s hs m hm⟩
      rw [← nI_1] at h9
      exact yes (by decide) h9
    · intro f2 s S hs ⟨oS, hj, hS, hT⟩ ih2
      show wl_X4_learnSuppers_15 Q _ (f2 + 1) (nI i) (nI s) S
      rw [wl_ls2_s]
      unfold wb_X4_learnSuppers_15
      have hLS := line_K hL oS
      rw [nI_clamp (show i < 2 ^ 31 by omega), nI_clamp (show s < 2 ^ 31 by omega), show vA S 20 i = nI (kd i) from (hLS.2.2.2.2.2 i hi).1, show vI S 30 = nI (V 0) from hLS.2.2.2.1]
      refine no (nI_ge hs (by decide)) ⟨vp_in_nI (by omega) (by decide), vp_in_nI (by omega) (by decide), q_dbits (hW.2.1 i hi).1 (by omega) hW.2.2.1 S _ (fun b hb => ⟨vp_in_nI hs (by decide), ?_⟩)⟩
      have eo : ∀ (g : Nat → Int64) (k : Nat), ¬ k = 340 + i → vB (uB S (340 + i) g) k = vB S k := fun g k hk => by
        simp only [ac]; rw [if_neg hk]
      have h9 := ih2 (uB S (340 + i) (vp_updL (vB S (340 + i)) s b)) ⟨offK_uB oS _ _, by
        obtain ⟨a1, a2, a3, a4⟩ := hj
        refine ⟨a1, a2, a3, fun k hk => ⟨(a4 k hk).1, ?_⟩⟩
        rw [eo _ 110 (by omega)]
        exact (a4 k hk).2, fun k hk s' hs' m hm => by
        rw [eo _ (340 + k) (by omega)]
        exact hS k hk s' hs' m hm, fun s' hs' m hm => by
        rw [vB_uB]
        simp only [up]
        by_cases c : s' = s
        · rw [if_pos c, c]; exact hb m hm
        · rw [if_neg c]; exact hT s' (by omega) m hm⟩
      rw [← nI_1] at h9
      exact h9
theorem q_matters {S : sT} {n last : Nat} {kd bd V : Nat → Nat} (hL : lineC S n last kd bd V) (hW : okW n kd bd V) {pl i : Nat} (hpl : pl ≤ 20) (hi : i < n) (Q : Int32 → sT → Prop) (h : Q (b2 (mt bd V pl i)) S) : wp_X4_mattersTo (nI pl) (nI i) S Q := by
  have hn := hW.1
  obtain ⟨l1, l2, l3, l4, l5, l6⟩ := hL
  have hb := (hW.2.1 i hi).2.1
  have hv := hW.2.2.2.1
  unfold wp_X4_mattersTo
  unfold mt at h
  refine q_asleep hW.2.2.2.2 (by omega) S _ l3 (cy (fun e => ?_) (fun e => ?_))
  · rw [e] at h; exact h
  · rw [e, Bool.true_and] at h
    rw [nI_clamp (show i < 2 ^ 31 by omega), show vA S 21 i = nI (bd i) from (l6 i hi).2.1, l5, nI_ltI (a := bd i) (by omega) (by omega), nI_ltI (a := pl) (by omega) (by omega)]
    refine ⟨vp_in_nI (by omega) (by decide), fun c => ?_, fun c => ⟨vp_in_nI (by omega) (by decide), fun c2 => ?_, fun c2 => ?_⟩⟩
    · rw [decide_eq_false (show ¬ V 1 ≤ bd i by omega)] at h
      exact h
    · rw [decide_eq_false (show ¬ bd i ≤ pl by omega), Bool.and_false] at h
      exact h
    · rw [decide_eq_true (show V 1 ≤ bd i by omega), decide_eq_true (show bd i ≤ pl by omega)] at h
      exact h
/-- the journey with another supper for one -/
theorem jn_sup {S : sT} {n last : Nat} {kd bd W : Nat → Nat} (hJ : jn S n last kd bd W) {i s : Nat} {b : Int64} (hb : ∀ m, m ≤ 60 → lb b m = dr (kd i) s (W 0 + m)) : jn (uB S 110 (vp_updL (vB S 110) i b)) n last kd bd (setV W (3 + i) s) := by
  obtain ⟨a1, a2, a3, a4⟩ := hJ
  obtain ⟨e0, e1, e2, e3⟩ := agr_set i s W
  refine ⟨a1, a2, by rw [e1]; exact a3, fun k hk => ⟨(a4 k hk).1, fun m hm => ?_⟩⟩
  rw [vB_uB]
  simp only [up]
  rw [e0]
  by_cases c : k = i
  · rw [if_pos c, c, hb m hm]
    unfold setV
    rw [if_pos rfl]
  · rw [if_neg c, e3 k c]
    exact (a4 k hk).2 m hm
theorem setV_setV (W : Nat → Nat) (k s t : Nat) : setV (setV W k s) k t = setV W k t := by
  funext j
  unfold setV
  by_cases c : j = k
  · rw [if_pos c, if_pos c]
  · rw [if_neg c, if_neg c, if_neg c]
theorem okW_sp {n : Nat} {kd bd W : Nat → Nat} (hW : okW n kd bd W) (w : Nat) : okW n kd bd (sp W w) := by
  refine ⟨hW.1, fun i hi => ⟨(hW.2.1 i hi).1, (hW.2.1 i hi).2.1, ?_⟩, ?_, ?_, ?_⟩
  · unfold sp setV
    split
    · have : w % 10 < 10 := Nat.mod_lt _ (by decide)
      omega
    · exact (hW.2.1 i hi).2.2
  · rw [sp_at (by omega)]; exact hW.2.2.1
  · rw [sp_at (by omega)]; exact hW.2.2.2.1
  · rw [sp_at (by omega)]; exact hW.2.2.2.2
theorem wl_w1_s (Q : Int32 → sT → Prop) (f : Nat) (x2 x3 x4 : Int32) (S : sT) : wl_X4_wayByOne_3 Q (f + 1) x2 x3 x4 S = wb_X4_wayByOne_3 Q (fun x2 x3 x4 S => wl_X4_wayByOne_3 Q f x2 x3 x4 S) x2 x3 x4 S := rfl
theorem wl_w2_s (Q : Int32 → sT → Prop) (f : Nat) (x2 x3 x4 : Int32) (S : sT) : wl_X4_wayByTwo_2 Q (f + 1) x2 x3 x4 S = wb_X4_wayByTwo_2 Q (fun x2 x3 x4 S => wl_X4_wayByTwo_2 Q f x2 x3 x4 S) x2 x3 x4 S := rfl
theorem way_n {w n : Nat} (hn : n ≤ 6) (hw : w < 10 * n) : w / 10 < n ∧ w % 10 < 10 ∧ nI w / 10 = nI (w / 10) ∧ nI w - nI w / 10 * 10 = nI (w % 10) ∧ (nI w / 10).toNatClampNeg = w / 10 ∧ (nI w - nI w / 10 * 10).toNatClampNeg = w % 10 := by
  have h1 : nI w / 10 = nI (w / 10) := pk_div (by omega) (by decide) (by decide)
  have h2 : nI w - nI w / 10 * 10 = nI (w % 10) := rem6 (by omega) 10 (by decide) (by decide) 10 rfl
  exact ⟨by omega, by omega, h1, h2, by rw [h1]; exact nI_clamp (by omega), by rw [h2]; exact nI_clamp (by omega)⟩
/-- from f0 on, over the suppers W (V but for some) -/
theorem q_wayOne {C S : sT} (oS : offK C S) {n last : Nat} {kd bd V W : Nat → Nat} (hL : lineC C n last kd bd V) (hWV : okW n kd bd V) (hW : okW n kd bd W) (e0 : W 0 = V 0) (e1 : W 1 = V 1) (e2 : W 2 = V 2) (hl : V 1 ≤ last) (hl20 : last ≤ 20) (h0 : V 0 ≤ 800) (hj : jn S n last kd bd W) (hlr : lrn S n kd V) {m pl : Nat} (hm : m ≤ 40) (hpl : pl ≤ 20) {f0 e : Nat} (hf : f0 ≤ e) (he : e ≤ 10 * n) (hno : ∀ w, f0 ≤ w → w < e → (mt bd V pl (w / 10) && sdF n last kd bd m pl (sp W w)) = false) (hex : e = 10 * n ∨ (e < 10 * n ∧ (mt bd V pl (e / 10) && sdF n last kd bd m pl (sp W e)) = true)) (Q : Int32 → sT → Prop) (h : ∀ S', offK C S' → jn S' n last kd bd W → lrn S' n kd V → Q (if e = 10 * n then -9 else nI e) S') : wp_X4_wayByOne (nI f0) (nI m) (nI pl) S Q := by
  have hn := hW.1
  unfold wp_X4_wayByOne
  -- one step
  have key : ∀ (f w : Nat) (S : sT), w < 10 * n → offK C S → jn S n last kd bd W → lrn S n kd V → ((mt bd V pl (w / 10) && sdF n last kd bd m pl (sp W w)) = true → ∀ S', offK C S' → jn S' n last kd bd W → lrn S' n kd V → Q (nI w) S') → ((mt bd V pl (w / 10) && sdF n last kd bd m pl (sp W w)) = false → ∀ S', offK C S' → jn S' n last kd bd W → lrn S' n kd V → wl_X4_wayByOne_3 Q f (nI m) (nI pl) (nI (w + 1)) S') → wl_X4_wayByOne_3 Q (f + 1) (nI m) (nI pl) (nI w) S := by
    intro f w S hw oS hj hlr a1 a2
    rw [wl_w1_s]
    unfold wb_X4_wayByOne_3 wb_X4_wayByOne_98
    have hLS := line_K hL oS
    obtain ⟨hi, hs, w1, w2, w3, w4⟩ := way_n hn hw
    rw [hLS.1, show nI n * 10 = nI (n * 10) from pk_mul n 10, w3, w4, w2, w1, nI_1]
    refine no (nI_ge (by omega) (by omega)) (q_matters hLS hWV hpl hi _ (cy (fun em => ?_) (fun em => ?_)))
    · exact a2 (by rw [em]; rfl) S oS hj hlr
    · refine ⟨vp_in_nI (by omega) (by decide), vp_in_nI (by omega) (by decide), vp_in_nI hs (by decide), vp_in_nI (by omega) (by decide), fun S6 e6 => ?_⟩
      rw [em, Bool.true_and] at a1 a2
      have j6 : jn S6 n last kd bd (sp W w) := by
        rw [e6]
        exact jn_sup hj (fun m hm => by rw [hlr (w / 10) hi (w % 10) hs m hm, e0])
      have o6 : offJ S S6 := by
        rw [e6]
        exact offJ_uB (offJ_refl S) 110 _ (by decide)
      refine q_stB j6 (okW_sp hW w) (by rw [sp_at (by omega), e1]; exact hl) hl20 (by rw [sp_at (by omega), e0]; exact h0) ?_ hm hpl _ (fun S7 o7 j7 => ⟨vp_in_nI (by omega) (by decide), ?_⟩)
      · rw [(o6.1 29 (by omega)).1, hLS.2.2.1, sp_at (by omega), e2]
      · have o67 := offJ_trans o6 o7
        have o8 := offJ_uB o67 110 (vp_updL (vB S7 110) (w / 10) (vB S 110 (w / 10))) (by decide)
        have j8 : jn (uB S7 110 (vp_updL (vB S7 110) (w / 10) (vB S 110 (w / 10)))) n last kd bd W := by
          have h9 := jn_sup (i := w / 10) (s := W (3 + w / 10)) (b := vB S 110 (w / 10)) j7 (fun m hm => by
            rw [(hj.2.2.2 (w / 10) hi).2 m hm, sp_at (by omega)])
          unfold sp at h9
          rw [setV_setV, setV_id] at h9
          exact h9
        have l8 := lrn_J hlr o8
        have k8 := offK_trans oS (offK_of o8)
        exact cy (fun es => a2 es _ k8 j8 l8) (fun es => a1 es _ k8 j8 l8)
  refine pk_loop (fun f i (S : sT) => wl_X4_wayByOne_3 Q f (nI m) (nI pl) (nI i) S) (fun i S => f0 ≤ i ∧ offK C S ∧ jn S n last kd bd W ∧ lrn S n kd V) e f0 S hf ⟨Nat.le_refl _, oS, hj, hlr⟩ ?_ ?_
  · intro f S ⟨_, oS, hj, hlr⟩
    show wl_X4_wayByOne_3 Q (f + 1) (nI m) (nI pl) (nI e) S
    rcases hex with hx | ⟨hx1, hx2⟩
    · rw [wl_w1_s]
      unfold wb_X4_wayByOne_3
      have hLS := line_K hL oS
      rw [hLS.1, show nI n * 10 = nI (n * 10) from pk_mul n 10]
      have h9 := h S oS hj hlr
      rw [if_pos hx] at h9
      exact yes (nI_le (by omega) (by omega)) h9
    · refine key f e S hx1 oS hj hlr (fun _ S' o' j' l' => ?_) (fun h9 => by rw [hx2] at h9; exact absurd h9 (by decide))
      have h9 := h S' o' j' l'
      rw [if_neg (by omega)] at h9
      exact h9
  · intro f i S hi ⟨hfi, oS, hj, hlr⟩ ih
    show wl_X4_wayByOne_3 Q (f + 1) (nI m) (nI pl) (nI i) S
    refine key f i S (by omega) oS hj hlr (fun h9 => by rw [hno i hfi hi] at h9; exact absurd h9 (by decide)) (fun _ S' o' j' l' => ?_)
    exact ih S' ⟨by omega, o', j', l'⟩
