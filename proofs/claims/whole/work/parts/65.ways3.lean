/-- what is counted of a place -/
def cOK (xv : Int32) (c : Nat → Nat) : Prop := (xv = -9 ∧ ∀ q, c q = q) ∨ ∃ v, v ≤ 20 ∧ xv = nI v ∧ ∀ q, c q = if q < v then 0 else 1
theorem wl_wy_s (Q : Int64 → sT → Prop) (f : Nat) (x1 x2 x3 : Int32) (x4 : Int64) (x6 : Int32) (S : sT) : wl_X5_ways_6 Q (f + 1) x1 x2 x3 x4 x6 S = wb_X5_ways_6 Q (fun x1 x2 x3 x4 x6 S => wl_X5_ways_6 Q f x1 x2 x3 x4 x6 S) x1 x2 x3 x4 x6 S := rfl
theorem wl_wy2_s (Q : Int64 → sT → Prop) (K : Int32 → Int32 → Int32 → Int64 → Int32 → sT → Prop) (f : Nat) (x1 x2 x3 : Int32) (x4 : Int64) (x6 : Int32) (x7 : Int64) (x9 : Int32) (S : sT) : wl_X5_ways_37 Q K (f + 1) x1 x2 x3 x4 x6 x7 x9 S = wb_X5_ways_37 Q K (fun x1 x2 x3 x4 x6 x7 x9 S => wl_X5_ways_37 Q K f x1 x2 x3 x4 x6 x7 x9 S) x1 x2 x3 x4 x6 x7 x9 S := rfl
def plV (n last : Nat) (kd bd V : Nat → Nat) (m s : Nat) : Nat := it n last kd bd (setV V 2 s) m 1
theorem q_ways {R : sT} {n last : Nat} {kd bd V : Nat → Nat} (hR : onR R 14 n last kd bd V) (hW : okW n kd bd V) (hl : V 1 ≤ last) (hl20 : last ≤ 20) (h0 : V 0 ≤ 800) (hV2 : V 2 < 2 ^ n) {m p : Nat} (hm : m ≤ 30) (hp : p ≤ 12) {xv : Int32} {c : Nat → Nat} (hc : cOK xv c) (Q : Int64 → sT → Prop) (h : ∀ F, Q (lN (sN (hF (fun s => prt s (V 2)) (plV n last kd bd V m) (wgt p (V 2)) c) (2 ^ n))) (uA R 15 F)) : wp_X5_ways (nI m) xv (nI p) R Q := by
  have hn := hW.1
  have p64 : 2 ^ n ≤ 2 ^ 6 := Nat.pow_le_pow_right (by decide) hn
  have h64 := hW.2.2.2.2
  unfold wp_X5_ways
  have hR' : ∀ F, onR (uA R 15 F) 14 n last kd bd V := fun F => hR
  have main := pk_loop (fun f i (F : Nat → Int32) => wl_X5_ways_6 Q f (nI m) xv (nI p) (lN (sN (fun s => hF (fun s => prt s (V 2)) (plV n last kd bd V m) (wgt p (V 2)) c (V 2 ^^^ s)) i)) (nI i) (uA R 15 F)) (fun _ _ => True) (2 ^ n) 0 (vA R 15) (Nat.zero_le _) trivial ?_ ?_
  · obtain ⟨f, hf⟩ := main
    rw [uA_id] at hf
    exact ⟨f, hf⟩
  · intro f F _
    show wl_X5_ways_6 Q (f + 1) (nI m) xv (nI p) (lN (sN (fun s => hF (fun s => prt s (V 2)) (plV n last kd bd V m) (wgt p (V 2)) c (V 2 ^^^ s)) (2 ^ n))) (nI (2 ^ n)) (uA R 15 F)
    rw [wl_wy_s]
    unfold wb_X5_ways_6
    rw [(hR' F).1, pow_tab n hn, sN_xor _ hn hV2]
    exact yes (nI_le (Nat.le_refl _) (by omega)) (h F)
  · intro f s F hs _ ih
    show wl_X5_ways_6 Q (f + 1) (nI m) xv (nI p) (lN (sN (fun s => hF (fun s => prt s (V 2)) (plV n last kd bd V m) (wgt p (V 2)) c (V 2 ^^^ s)) s)) (nI s) (uA R 15 F)
    rw [wl_wy_s]
    unfold wb_X5_ways_6 wb_X5_ways_149
    have hstep := sN_s (fun s => hF (fun s => prt s (V 2)) (plV n last kd bd V m) (wgt p (V 2)) c (V 2 ^^^ s)) s
    rw [(hR' F).1, pow_tab n hn, show (2 : Int32).toNatClampNeg = 2 from rfl, (hR' F).2.2.2 2 (by omega)]
    generalize sN (fun s => hF (fun s => prt s (V 2)) (plV n last kd bd V m) (wgt p (V 2)) c (V 2 ^^^ s)) s = A at hstep ⊢
    have nx : ∀ (B : Nat) (G : Nat → Int32), B = A + hF (fun s => prt s (V 2)) (plV n last kd bd V m) (wgt p (V 2)) c (V 2 ^^^ s) → wl_X5_ways_6 Q f (nI m) xv (nI p) (lN B) (nI s + 1) (uA R 15 G) := by
      intro B G hB
      have h9 := ih G trivial
      rw [hstep, ← hB, ← nI_1] at h9
      exact h9
    refine no (nI_ge hs (by omega)) ⟨vp_in_nI (n := 2) (by decide) (by decide), fun cc => ?_, fun cc => ?_⟩
    · refine nx A F ?_
      unfold hF
      rw [if_neg]
      · omega
      · show ¬ prt (V 2 ^^^ s) (V 2) = true
        rw [prt_x n (by omega) (V 2) hV2 s hs]
        exact fun h9 => cc (of_decide_eq_true h9)
    · have hpr : prt s (V 2) = true := decide_eq_true cc
      obtain ⟨t1, t2⟩ := cnt_tab n (by omega) (V 2) hV2 s hs hpr
      have hH : hF (fun s => prt s (V 2)) (plV n last kd bd V m) (wgt p (V 2)) c (V 2 ^^^ s) = c (plV n last kd bd V m (V 2 ^^^ s)) * (p ^ pc s * (12 - p) ^ pc (V 2 ^^^ s)) := by
        unfold hF
        rw [if_pos (show prt (V 2 ^^^ s) (V 2) = true by rw [prt_x n (by omega) (V 2) hV2 s hs]; exact hpr)]
        unfold wgt
        rw [xx]
      have main2 := pk_loop (fun f2 i (_ : Unit) => wl_X5_ways_37 Q (fun x1 x2 x3 x4 x6 S => wl_X5_ways_6 Q f x1 x2 x3 x4 x6 S) f2 (nI m) xv (nI p) (lN A) (nI s) (lN (p ^ fo (c1F (V 2) s) 0 i * (12 - p) ^ fo (c2F (V 2) s) 0 i)) (nI i) (uA R 15 F)) (fun _ _ => True) n 0 () (Nat.zero_le _) trivial ?_ ?_
      · exact main2
      · intro f2 _ _
        show wl_X5_ways_37 Q _ (f2 + 1) (nI m) xv (nI p) (lN A) (nI s) (lN (p ^ fo (c1F (V 2) s) 0 n * (12 - p) ^ fo (c2F (V 2) s) 0 n)) (nI n) (uA R 15 F)
        rw [wl_wy2_s]
        unfold wb_X5_ways_37 wb_X5_ways_145 wb_X5_ways_149
        rw [(hR' F).1, show (2 : Int32).toNatClampNeg = 2 from rfl, t1, t2]
        refine yes (nI_le (Nat.le_refl _) (by omega)) (q_layAside (hR' F) hn _ (fun G hG => ⟨vp_in_nI (n := 2) (by decide) (by decide), vp_in_nI (n := 2) (by decide) (by decide), ?_⟩))
        rw [hG.2.2.2 2 (by omega), (prt_tab (V 2) h64 s (by omega) hpr).2]
        refine q_pbA hG hW hl hl20 h0 (xor64 h64 (by omega)) (by omega) _ (fun K hK => ?_)
        rw [uA_uA, uA_uA]
        have hle := (it_ok (okW_set2 hW (xor64 h64 (show s < 64 by omega))) (show setV V 2 (V 2 ^^^ s) 1 ≤ last from hl) hl20 (show setV V 2 (V 2 ^^^ s) 0 ≤ 800 from h0) m (by omega)).2
        have epl : plV n last kd bd V m (V 2 ^^^ s) = it n last kd bd (setV V 2 (V 2 ^^^ s)) m 1 := rfl
        have fin : ∀ y : Int64, y = lN (c (plV n last kd bd V m (V 2 ^^^ s))) → wl_X5_ways_6 Q f (nI m) xv (nI p) (lN A + lN (p ^ pc s * (12 - p) ^ pc (V 2 ^^^ s)) * y) (nI s + 1) (uA R 15 K) := by
          intro y hy
          rw [hy, lN_mul, lN_add]
          refine nx _ K ?_
          rw [hH, Nat.mul_comm]
        rcases hc with ⟨e1, e2⟩ | ⟨v, hv, e1, e2⟩
        · refine yes' e1 (fin _ ?_)
          rw [e2, epl, nI_l (by omega)]
        · refine no' (by rw [e1]; exact nne9 (by omega)) ?_
          have e3 : nI (it n last kd bd (setV V 2 (V 2 ^^^ s)) m 1) < xv ↔ it n last kd bd (setV V 2 (V 2 ^^^ s)) m 1 < v := by
            rw [e1]; exact nI_ltI (by omega) (by omega)
          rw [e3]
          refine ⟨fun c1 => fin 0 ?_, fun c1 => fin 1 ?_⟩
          · rw [e2, epl, if_pos c1]; rfl
          · rw [e2, epl, if_neg c1]; rfl
      · intro f2 i _ hi _ ih2
        show wl_X5_ways_37 Q _ (f2 + 1) (nI m) xv (nI p) (lN A) (nI s) (lN (p ^ fo (c1F (V 2) s) 0 i * (12 - p) ^ fo (c2F (V 2) s) 0 i)) (nI i) (uA R 15 F)
        rw [wl_wy2_s]
        unfold wb_X5_ways_37 wb_X5_ways_87
        rw [(hR' F).1, show (2 : Int32).toNatClampNeg = 2 from rfl, (hR' F).2.2.2 2 (by omega)]
        have u1 : fo (c1F (V 2) s) 0 (i + 1) = if bt (V 2) i = true ∧ bt s i = true then fo (c1F (V 2) s) 0 i + 1 else fo (c1F (V 2) s) 0 i := rfl
        have u2 : fo (c2F (V 2) s) 0 (i + 1) = if bt (V 2) i = true ∧ bt s i = false then fo (c2F (V 2) s) 0 i + 1 else fo (c2F (V 2) s) 0 i := rfl
        have h9 := ih2 () trivial
        rw [← nI_1] at h9
        rw [u1, u2] at h9
        generalize fo (c1F (V 2) s) 0 i = X at h9 ⊢
        generalize fo (c2F (V 2) s) 0 i = Y at h9 ⊢
        refine no (nI_ge hi (by omega)) ⟨vp_in_nI (n := 2) (by decide) (by decide), q_has h64 (by omega) _ _ (cn (fun e => ?_) (fun e => ?_))⟩
        · rw [e, if_neg (by simp), if_neg (by simp)] at h9
          rw [show (1 : Int64) = lN 1 from rfl, lN_mul, Nat.mul_one]
          exact h9
        · refine q_has (show s < 64 by omega) (by omega) _ _ (cy (fun e2 => ?_) (fun e2 => ?_))
          · rw [e, e2, if_neg (by simp), if_pos (by simp), Nat.pow_succ] at h9
            rw [nI_l (show p < 2 ^ 31 by omega), show (12 : Int64) = lN 12 from rfl, lN_sub hp, lN_mul, Nat.mul_assoc]
            exact h9
          · rw [e, e2, if_pos (by simp), if_neg (by simp), Nat.pow_succ] at h9
            rw [nI_l (show p < 2 ^ 31 by omega), lN_mul, Nat.mul_assoc, Nat.mul_comm ((12 - p) ^ Y) p, ← Nat.mul_assoc]
            exact h9
