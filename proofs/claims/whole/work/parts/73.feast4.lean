theorem wl_f58_s (Q : Int32 → sT → Prop) (f : Nat) (x1 x2 x3 : Int32) (S : sT) : wl_X5_feast_58 Q (f + 1) x1 x2 x3 S = wb_X5_feast_58 Q (fun x1 x2 x3 S => wl_X5_feast_58 Q f x1 x2 x3 S) x1 x2 x3 S := rfl
theorem wl_f104_s (Q : Int32 → sT → Prop) (f : Nat) (x1 x2 x3 : Int32) (S : sT) : wl_X5_feast_104 Q (f + 1) x1 x2 x3 S = wb_X5_feast_104 Q (fun x1 x2 x3 S => wl_X5_feast_104 Q f x1 x2 x3 S) x1 x2 x3 S := rfl
theorem wl_f126_s (Q : Int32 → sT → Prop) (K : Int32 → Int32 → Int32 → sT → Prop) (f : Nat) (x1 x2 x3 x4 : Int32) (S : sT) : wl_X5_feast_126 Q K (f + 1) x1 x2 x3 x4 S = wb_X5_feast_126 Q K (fun x1 x2 x3 x4 S => wl_X5_feast_126 Q K f x1 x2 x3 x4 S) x1 x2 x3 x4 S := rfl
theorem q_f104 {R : sT} {n last : Nat} {kd bd V : Nat → Nat} (hR : onR R 14 n last kd bd V) (hW : okW n kd bd V) (hl : V 1 ≤ last) (hl20 : last ≤ 20) (h0 : V 0 ≤ 800) {m pl : Nat} (hm : m ≤ 40) (hpl : pl ≤ 20) {g : Nat → Nat} (hg : ∀ w1, w1 < 10 * n → 10 * (w1 / 10 + 1) ≤ g w1 ∧ g w1 ≤ 10 * n ∧ (∀ w, 10 * (w1 / 10 + 1) ≤ w → w < g w1 → (oth V w1 && (oth V w && sdF n last kd bd m pl (sp (sp V w1) w))) = false) ∧ (g w1 = 10 * n ∨ (g w1 < 10 * n ∧ (oth V w1 && (oth V (g w1) && sdF n last kd bd m pl (sp (sp V w1) (g w1)))) = true))) {o : Nat} (ho : o ≤ 10 * n) (hno : ∀ w, w < o → g w = 10 * n) (hex : o = 10 * n ∨ (o < 10 * n ∧ ¬ g o = 10 * n)) (Q : Int32 → sT → Prop) (h : ∀ F, if o = 10 * n then Q (-9) (uA R 15 F) else Q 2 (uI (uA R 15 F) 4 (nI (1000 * o + g o)))) (F0 : Nat → Int32) : ∃ f, wl_X5_feast_104 Q f (nI pl) (nI m) (0 : Int32) (uA R 15 F0) := by
  have hn := hW.1
  have hR' : ∀ F, onR (uA R 15 F) 14 n last kd bd V := fun F => hR
  have e10 : (10 : Int32) * nI n = nI (10 * n) := pk_mul 10 n
  have key : ∀ (f w : Nat) (F : Nat → Int32), w < 10 * n → (¬ g w = 10 * n → ∀ F, Q 2 (uI (uA R 15 F) 4 (nI (1000 * w + g w)))) → (g w = 10 * n → ∀ F, wl_X5_feast_104 Q f (nI pl) (nI m) (nI (w + 1)) (uA R 15 F)) → wl_X5_feast_104 Q (f + 1) (nI pl) (nI m) (nI w) (uA R 15 F) := by
    intro f w F hw a1 a2
    rw [wl_f104_s]
    unfold wb_X5_feast_104
    obtain ⟨hi, hs, d1, d2, d3, d4⟩ := way_n hn hw
    obtain ⟨g1, g2, g3, g4⟩ := hg w hw
    rw [(hR' F).1, e10, d1, nI_1, show (10 : Int32) * nI (w / 10 + 1) = nI (10 * (w / 10 + 1)) from pk_mul 10 _]
    refine no (nI_ge (by omega) (by omega)) ?_
    have stp2 : ∀ (f2 v : Nat) (F : Nat → Int32), v < 10 * n → ((oth V w && (oth V v && sdF n last kd bd m pl (sp (sp V w) v))) = true → ∀ F, Q 2 (uI (uA R 15 F) 4 (nI (1000 * w + v)))) → ((oth V w && (oth V v && sdF n last kd bd m pl (sp (sp V w) v))) = false → ∀ F, wl_X5_feast_126 Q (fun x1 x2 x3 S => wl_X5_feast_104 Q f x1 x2 x3 S) f2 (nI pl) (nI m) (nI w) (nI (v + 1)) (uA R 15 F)) → wl_X5_feast_126 Q (fun x1 x2 x3 S => wl_X5_feast_104 Q f x1 x2 x3 S) (f2 + 1) (nI pl) (nI m) (nI w) (nI v) (uA R 15 F) := by
      intro f2 v F hv b1 b2
      rw [wl_f126_s]
      unfold wb_X5_feast_126 wb_X5_feast_181 wp_X5_answer
      rw [(hR' F).1, e10, nI_1 v]
      refine no (nI_ge (by omega) (by omega)) (q_isOther (hR' F) hW hw _ (cy (fun c1 => ?_) (fun c1 => ?_)))
      · exact b2 (by rw [c1]; rfl) F
      · rw [c1, Bool.true_and] at b1 b2
        refine q_isOther (hR' F) hW hv _ (cy (fun c2 => ?_) (fun c2 => ?_))
        · exact b2 (by rw [c2]; rfl) F
        · rw [c2, Bool.true_and] at b1 b2
          refine q_isFeast (hR' F) hW hl hl20 h0 hm hpl (some w) (some v) (fun x hx => ?_) _ (fun G => ?_)
          · rcases hx with hx | hx
            · rw [← Option.some.inj hx]; exact hw
            · rw [← Option.some.inj hx]; exact hv
          · rw [uA_uA]
            refine cy (fun c3 => b2 c3 G) (fun c3 => ?_)
            rw [show (1000 : Int32) * nI w = nI (1000 * w) from pk_mul 1000 w, nI_add]
            exact b1 c3 G
    refine pk_loop (fun f2 v (F : Nat → Int32) => wl_X5_feast_126 Q (fun x1 x2 x3 S => wl_X5_feast_104 Q f x1 x2 x3 S) f2 (nI pl) (nI m) (nI w) (nI v) (uA R 15 F)) (fun v _ => 10 * (w / 10 + 1) ≤ v) (g w) (10 * (w / 10 + 1)) F g1 (Nat.le_refl _) ?_ ?_
    · intro f2 F _
      show wl_X5_feast_126 Q _ (f2 + 1) (nI pl) (nI m) (nI w) (nI (g w)) (uA R 15 F)
      rcases g4 with g4 | ⟨g5, g6⟩
      · rw [wl_f126_s]
        unfold wb_X5_feast_126
        rw [(hR' F).1, e10, g4]
        have h9 := a2 g4 F
        rw [← nI_1] at h9
        exact yes (nI_le (Nat.le_refl _) (by omega)) h9
      · exact stp2 f2 (g w) F g5 (fun _ F => a1 (by omega) F) (fun h9 => by rw [g6] at h9; exact absurd h9 (by decide))
    · intro f2 v F hv hfv ih
      show wl_X5_feast_126 Q _ (f2 + 1) (nI pl) (nI m) (nI w) (nI v) (uA R 15 F)
      exact stp2 f2 v F (by omega) (fun h9 => by rw [g3 v hfv hv] at h9; exact absurd h9 (by decide)) (fun _ F => ih F (by omega))
  refine pk_loop (fun f i (F : Nat → Int32) => wl_X5_feast_104 Q f (nI pl) (nI m) (nI i) (uA R 15 F)) (fun _ _ => True) o 0 F0 (Nat.zero_le _) trivial ?_ ?_
  · intro f F _
    show wl_X5_feast_104 Q (f + 1) (nI pl) (nI m) (nI o) (uA R 15 F)
    rcases hex with hx | ⟨hx1, hx2⟩
    · rw [wl_f104_s]
      unfold wb_X5_feast_104
      rw [(hR' F).1, e10]
      have h9 := h F
      rw [if_pos hx] at h9
      exact yes (nI_le (by omega) (by omega)) h9
    · refine key f o F hx1 (fun _ F => ?_) (fun h9 => absurd h9 hx2)
      have h9 := h F
      rw [if_neg (by omega)] at h9
      exact h9
  · intro f i F hi _ ih
    show wl_X5_feast_104 Q (f + 1) (nI pl) (nI m) (nI i) (uA R 15 F)
    exact key f i F (by omega) (fun h9 => absurd (hno i hi) h9) (fun _ F => ih F trivial)
theorem st_feast_ok : st_feast Inv := by
  intro x1 x2 C R hI
  obtain ⟨n, last, due, kd, bd, d, V, hN⟩ := IN_of hI
  obtain ⟨hL, hW, hl, hl20, h99, hV, hn, hd, hdue, c28, c32, hR, r11, r17⟩ := IN_line hN
  have en : nI n = 0 ↔ n = 0 := nI_eq (b := 0) (by omega) (by decide)
  have g1 : (0 ≤ x1 ∧ x1 ≤ 20) ↔ (0 ≤ x1 ∧ x1 < 21) := by grind
  have g2 : (0 ≤ x2 ∧ x2 ≤ 40) ↔ (0 ≤ x2 ∧ x2 < 41) := by grind
  have hb : ¬ ((0 ≤ x1 ∧ x1 < 21) ∧ (0 ≤ x2 ∧ x2 < 41)) → wp_X5_feast x1 x2 R (fun r2 SR1 => -1 = r2 ∧ Inv C SR1) := by
    intro h
    unfold wp_X5_feast
    rw [q_in x1 0 20 0 20 (by decide) (by decide)]
    by_cases h1 : 0 ≤ x1 ∧ x1 < 21
    · rw [if_pos (g1.mpr h1), q_in x2 0 40 0 40 (by decide) (by decide), if_neg (fun h9 => h ⟨h1, g2.mp h9⟩)]
      exact no n10 (yes' rfl ⟨rfl, hI⟩)
    · rw [if_neg (fun h9 => h1 (g1.mp h9))]
      exact yes rfl ⟨rfl, hI⟩
  unfold wp_X4_feast
  rw [q_isBelow]
  by_cases h1 : 0 ≤ x1 ∧ x1 < 21
  rotate_left
  · rw [if_neg h1]
    exact yes rfl (hb (fun h9 => h1 h9.1))
  rw [if_pos h1]
  refine no n10 ?_
  rw [q_isBelow]
  by_cases h2 : 0 ≤ x2 ∧ x2 < 41
  rotate_left
  · rw [if_neg h2]
    exact yes' rfl (hb (fun h9 => h2 h9.2))
  rw [if_pos h2, show vI C 26 = nI n from hL.1, en]
  have gR : ∀ Q : Int32 → sT → Prop, ((¬ n = 0 → wp_X5_isFeast x1 x2 (-9 : Int32) (-9 : Int32) R (fun r_3 S_3 => ((r_3 = 0 → ∃ n : Nat, wl_X5_feast_58 Q n x1 x2 (0 : Int32) S_3) ∧ (¬ r_3 = 0 → wp_X5_answer (0 : Int32) (0 : Int32) S_3 (fun r_5 S_5 => Q r_5 S_5))))) ∧ (n = 0 → Q (-4 : Int32) R)) → wp_X5_feast x1 x2 R Q := by
    intro Q hQ
    unfold wp_X5_feast
    rw [q_in x1 0 20 0 20 (by decide) (by decide), if_pos (g1.mpr h1), q_in x2 0 40 0 40 (by decide) (by decide), if_pos (g2.mpr h2), hR.1, en]
    exact no n10 (no' n10 hQ)
  obtain ⟨pl, hpl, rfl⟩ := ixY (n := 21) (by decide) h1
  obtain ⟨m, hm, rfl⟩ := ixY (n := 41) (by decide) h2
  refine no' n10 ⟨fun e0 => ?_, fun e0 => gR _ (yes' e0 ⟨rfl, hI⟩)⟩
  have hR' : ∀ F, onR (uA R 15 F) 14 n last kd bd V := fun F => hR
  have hIF : ∀ S, offK C S → ∀ F, Inv S (uA R 15 F) := fun S oS F => inv_K hI oS (offA_uA (offA_refl R) 15 (by omega) F)
  have e10 : (10 : Int32) * nI n = nI (10 * n) := pk_mul 10 n
  -- the reference: nothing needs doing, or the search begins
  have gR0 : ∀ Q : Int32 → sT → Prop, (sdF n last kd bd m pl V = true → ∀ F, Q 0 (uI (uA R 15 F) 4 0)) → (sdF n last kd bd m pl V = false → ∀ F, ∃ f, wl_X5_feast_58 Q f (nI pl) (nI m) (0 : Int32) (uA R 15 F)) → wp_X5_feast (nI pl) (nI m) R Q := by
    intro Q a1 a2
    refine gR _ (no' e0 (q_isFeast hR hW hl hl20 (by omega) (show m ≤ 40 by omega) (show pl ≤ 20 by omega) none none (fun w hw => ?_) _ (fun F => cy (fun c => a2 c F) (fun c => a1 c F))))
    rcases hw with hw | hw <;> exact absurd hw (by simp)
  refine q_setOut hL hW _ (fun S1 o1 j1 => ?_)
  refine q_stB j1 hW hl hl20 (by omega) ((line_J hL o1).2.2.1) (show m ≤ 40 by omega) (show pl ≤ 20 by omega) _ (fun S2 o2 j2 => ?_)
  have k2 := offK_of (offJ_trans o1 o2)
  refine cy (fun c0 => ?_) (fun c0 => ?_)
  rotate_left
  · exact gR0 _ (fun _ F => ⟨rfl, inv_told (hIF S2 k2 F) _⟩) (fun h9 => by rw [c0] at h9; exact absurd h9 (by decide))
  -- one
  obtain ⟨e, -, he, hno, hex⟩ := first (fun w => mt bd V pl (w / 10) && sdF n last kd bd m pl (sp V w)) (Nat.zero_le (10 * n))
  refine q_learn k2 hL hW j2 _ (fun S3 k3 j3 l3 => ?_)
  -- the reference's search by one
  have r58 : ∀ Q : Int32 → sT → Prop, (e < 10 * n → ∀ F, Q 1 (uI (uA R 15 F) 4 (nI e))) → (e = 10 * n → ∀ F, ∃ f, wl_X5_feast_104 Q f (nI pl) (nI m) (0 : Int32) (uA R 15 F)) → ∀ F, ∃ f, wl_X5_feast_58 Q f (nI pl) (nI m) (0 : Int32) (uA R 15 F) := by
    intro Q a1 a2 F0
    have stp1 : ∀ (f w : Nat) (F : Nat → Int32), w < 10 * n → ((mt bd V pl (w / 10) && sdF n last kd bd m pl (sp V w)) = true → ∀ F, Q 1 (uI (uA R 15 F) 4 (nI w))) → ((mt bd V pl (w / 10) && sdF n last kd bd m pl (sp V w)) = false → ∀ F, wl_X5_feast_58 Q f (nI pl) (nI m) (nI (w + 1)) (uA R 15 F)) → wl_X5_feast_58 Q (f + 1) (nI pl) (nI m) (nI w) (uA R 15 F) := by
      intro f w F hw b1 b2
      rw [P1_eq c0] at b1 b2
      rw [wl_f58_s]
      unfold wb_X5_feast_58 wb_X5_feast_96 wp_X5_answer
      rw [(hR' F).1, e10, nI_1]
      refine no (nI_ge (by omega) (by omega)) (q_isOther (hR' F) hW hw _ (cy (fun d1 => ?_) (fun d1 => ?_)))
      · exact b2 (by rw [d1]; rfl) F
      · rw [d1, Bool.true_and] at b1 b2
        refine q_isFeast (hR' F) hW hl hl20 (by omega) (show m ≤ 40 by omega) (show pl ≤ 20 by omega) (some w) none (fun x hx => ?_) _ (fun G => ?_)
        · rcases hx with hx | hx
          · rw [← Option.some.inj hx]; exact hw
          · exact absurd hx (by simp)
        · rw [uA_uA]
          exact cy (fun d2 => b2 d2 G) (fun d2 => b1 d2 G)
    refine pk_loop (fun f i (F : Nat → Int32) => wl_X5_feast_58 Q f (nI pl) (nI m) (nI i) (uA R 15 F)) (fun _ _ => True) e 0 F0 (Nat.zero_le _) trivial ?_ ?_
    · intro f F _
      show wl_X5_feast_58 Q (f + 1) (nI pl) (nI m) (nI e) (uA R 15 F)
      rcases hex with hx | ⟨hx1, hx2⟩
      · rw [wl_f58_s]
        unfold wb_X5_feast_58
        rw [(hR' F).1, e10]
        exact yes (nI_le (by omega) (by omega)) (a2 hx F)
      · exact stp1 f e F hx1 (fun _ F => a1 hx1 F) (fun h9 => absurd hx2 (by
          show ¬ (mt bd V pl (e / 10) && sdF n last kd bd m pl (sp V e)) = true
          rw [h9]; decide))
    · intro f i F hi _ ih
      show wl_X5_feast_58 Q (f + 1) (nI pl) (nI m) (nI i) (uA R 15 F)
      refine stp1 f i F (by omega) (fun h9 => ?_) (fun _ F => ih F trivial)
      have := hno i (Nat.zero_le i) hi
      rw [show (mt bd V pl (i / 10) && sdF n last kd bd m pl (sp V i)) = false from this] at h9
      exact absurd h9 (by decide)
  have base : ∀ Q : Int32 → sT → Prop, (∀ F, ∃ f, wl_X5_feast_58 Q f (nI pl) (nI m) (0 : Int32) (uA R 15 F)) → wp_X5_feast (nI pl) (nI m) R Q := fun Q hQ => gR0 Q (fun h9 => by rw [c0] at h9; exact absurd h9 (by decide)) (fun _ => hQ)
  refine q_wayOne (f0 := 0) (e := e) k3 hL hW hW rfl rfl rfl hl hl20 (by omega) j3 l3 (show m ≤ 40 by omega) (show pl ≤ 20 by omega) (Nat.zero_le _) he hno hex _ (fun S4 k4 j4 l4 => ?_)
  by_cases ce : e = 10 * n
  rotate_left
  · rw [if_neg ce]
    refine no (nne9 (by omega)) (base _ (r58 _ (fun _ F => ⟨rfl, inv_told (hIF S4 k4 F) _⟩) (fun h9 => absurd h9 ce)))
  rw [if_pos ce]
  refine yes rfl ?_
  -- two
  have hone : ∀ w, w < 10 * n → bt (V 2) (w / 10) = true → sdF n last kd bd m pl (sp V w) = false := by
    intro w hw ha
    have h9 : (mt bd V pl (w / 10) && sdF n last kd bd m pl (sp V w)) = false := hno w (Nat.zero_le w) (by omega)
    cases hs : sdF n last kd bd m pl (sp V w)
    · rfl
    · rw [hs, Bool.and_true] at h9
      have e9 := st_nm (n := n) (last := last) (kd := kd) (m := m) (agr_set (w / 10) (w % 10) V) (mt_f h9 ha)
      rw [show sdF n last kd bd m pl (sp V w) = sdF n last kd bd m pl V from e9, c0] at hs
      exact absurd hs (by decide)
  obtain ⟨g, hg⟩ := Classical.axiomOfChoice (r := fun (w1 : Nat) (e : Nat) => w1 < 10 * n → 10 * (w1 / 10 + 1) ≤ e ∧ e ≤ 10 * n ∧ (∀ w, 10 * (w1 / 10 + 1) ≤ w → w < e → (mt bd V pl (w1 / 10) && (mt bd V pl (w / 10) && sdF n last kd bd m pl (sp (sp V w1) w))) = false) ∧ (e = 10 * n ∨ (e < 10 * n ∧ (mt bd V pl (w1 / 10) && (mt bd V pl (e / 10) && sdF n last kd bd m pl (sp (sp V w1) e))) = true))) (fun w1 => by
    by_cases hw : w1 < 10 * n
    · obtain ⟨e, q1, q2, q3, q4⟩ := first (fun w => mt bd V pl (w1 / 10) && (mt bd V pl (w / 10) && sdF n last kd bd m pl (sp (sp V w1) w))) (show 10 * (w1 / 10 + 1) ≤ 10 * n by omega)
      exact ⟨e, fun _ => ⟨q1, q2, q3, q4⟩⟩
    · exact ⟨0, fun h9 => absurd h9 hw⟩)
  obtain ⟨o, -, ho, hno2, hex2⟩ := first (fun w => decide (¬ g w = 10 * n)) (Nat.zero_le (10 * n))
  have hno3 : ∀ w, w < o → g w = 10 * n := fun w hw => by
    have := hno2 w (Nat.zero_le w) hw
    simpa using this
  have hex3 : o = 10 * n ∨ (o < 10 * n ∧ ¬ g o = 10 * n) := by
    rcases hex2 with h9 | ⟨h9, h8⟩
    · exact Or.inl h9
    · exact Or.inr ⟨h9, by simpa using h8⟩
  have hgR : ∀ w1, w1 < 10 * n → 10 * (w1 / 10 + 1) ≤ g w1 ∧ g w1 ≤ 10 * n ∧ (∀ w, 10 * (w1 / 10 + 1) ≤ w → w < g w1 → (oth V w1 && (oth V w && sdF n last kd bd m pl (sp (sp V w1) w))) = false) ∧ (g w1 = 10 * n ∨ (g w1 < 10 * n ∧ (oth V w1 && (oth V (g w1) && sdF n last kd bd m pl (sp (sp V w1) (g w1)))) = true)) := by
    intro w1 hw1
    obtain ⟨q1, q2, q3, q4⟩ := hg w1 hw1
    have eq : ∀ w, 10 * (w1 / 10 + 1) ≤ w → w < 10 * n → (mt bd V pl (w1 / 10) && (mt bd V pl (w / 10) && sdF n last kd bd m pl (sp (sp V w1) w))) = (oth V w1 && (oth V w && sdF n last kd bd m pl (sp (sp V w1) w))) := by
      intro w ha hb
      refine P2_eq (fun x hx hbt => ?_) (by omega)
      rcases hx with rfl | rfl
      · exact hone _ hw1 hbt
      · exact hone _ hb hbt
    refine ⟨q1, q2, fun w ha hb => ?_, ?_⟩
    · rw [← eq w ha (by omega)]; exact q3 w ha hb
    · rcases q4 with q4 | ⟨q5, q6⟩
      · exact Or.inl q4
      · exact Or.inr ⟨q5, by rw [← eq _ q1 q5]; exact q6⟩
  refine q_wayTwo k4 hL hW hl hl20 (by omega) j4 l4 (show m ≤ 40 by omega) (show pl ≤ 20 by omega) hg ho hno3 hex3 _ (fun S5 k5 => ?_)
  have fin : ∀ (r : Int32) (S' : sT), (o = 10 * n → r = -9 ∧ S' = S5) → (¬ o = 10 * n → r = 2 ∧ S' = uI S5 13 (nI (1000 * o + g o))) → wp_X5_feast (nI pl) (nI m) R (fun r2 SR1 => r = r2 ∧ Inv S' SR1) := by
    intro r S' f1 f2
    refine base _ (r58 _ (fun h9 => by omega) (fun _ F => q_f104 hR hW hl hl20 (by omega) (show m ≤ 40 by omega) (show pl ≤ 20 by omega) hgR ho hno3 hex3 _ (fun F => ?_) F))
    by_cases co : o = 10 * n
    · rw [if_pos co]
      obtain ⟨q1, q2⟩ := f1 co
      exact ⟨q1, by rw [q2]; exact hIF S5 k5 F⟩
    · rw [if_neg co]
      obtain ⟨q1, q2⟩ := f2 co
      exact ⟨q1, by rw [q2]; exact inv_told (hIF S5 k5 F) _⟩
  by_cases co : o = 10 * n
  · rw [if_pos co]
    exact yes rfl (fin _ _ (fun _ => ⟨rfl, rfl⟩) (fun h9 => absurd co h9))
  · rw [if_neg co]
    have hgo := (hg o (by omega)).2.1
    exact no (nne9 (by omega)) (fin _ _ (fun h9 => absurd h9 co) (fun _ => ⟨rfl, rfl⟩))
