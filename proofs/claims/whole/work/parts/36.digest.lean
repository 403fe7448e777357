def tos (kd bd V : Nat → Nat) (i w : Nat) : Int32 := match w with
  | 0 => nI (kd i)
  | 1 => nI (bd i)
  | 2 => nI (V (3 + i))
  | 3 => b2 (bt (V 2) i)
  | _ => b2 (drm kd V i)
theorem q_tos {C : sT} {n last due : Nat} {kd bd : Nat → Nat} {T : Nat → Nat → Nat} {d : Nat} (hC : nightC C 0 n last due kd bd T d) (hok : okN n last due kd bd) (hV : okV n last (T d)) {i w : Nat} (hi : i < n) (hw : w < 5) (Q : Int32 → sT → Prop) (h : Q (tos kd bd (T d) i w) C) : wp_X4_toldOfSleeper (nI i) (nI w) C Q := by
  have hn := hok.1
  obtain ⟨⟨c1, -, -, c4, -, -, -⟩, cs, -⟩ := id hC
  obtain ⟨k1, k2, k3⟩ := cs i hi
  have hcl : (nI i).toNatClampNeg = i := nI_clamp (by omega)
  have ha := pow_le64 hn hV.2.2.1
  unfold wp_X4_toldOfSleeper
  rw [hcl, show vA C 20 i = nI (kd i) from k1, show vA C 21 i = nI (bd i) from k2, show vA C 22 i = nI (T d (3 + i)) from k3]
  rcases (show w = 0 ∨ w = 1 ∨ w = 2 ∨ w = 3 ∨ w = 4 by omega) with rfl | rfl | rfl | rfl | rfl
  · exact ⟨fun _ => ⟨vp_in_nI (by omega) (by decide), h⟩, fun h9 => absurd h9 (by decide), fun h9 => absurd h9 (by decide), fun h9 => absurd h9 (by decide), fun h9 => absurd rfl h9⟩
  · exact ⟨fun h9 => absurd h9 (by decide), fun _ => ⟨vp_in_nI (by omega) (by decide), h⟩, fun h9 => absurd h9 (by decide), fun h9 => absurd h9 (by decide), fun _ h9 => absurd rfl h9⟩
  · exact ⟨fun h9 => absurd h9 (by decide), fun h9 => absurd h9 (by decide), fun _ => ⟨vp_in_nI (by omega) (by decide), h⟩, fun h9 => absurd h9 (by decide), fun _ _ h9 => absurd rfl h9⟩
  · exact ⟨fun h9 => absurd h9 (by decide), fun h9 => absurd h9 (by decide), fun h9 => absurd h9 (by decide), fun _ => q_asleep ha (by omega) C _ c4 (q_bit _ C _ h), fun _ _ _ h9 => absurd rfl h9⟩
  · exact ⟨fun h9 => absurd h9 (by decide), fun h9 => absurd h9 (by decide), fun h9 => absurd h9 (by decide), fun h9 => absurd h9 (by decide), fun _ _ _ _ => q_dreamC hC hok hV hi _ (q_bit _ C _ h)⟩
def st31 (v : Nat → Int32) (w : Nat) (h : Int64) : Int64 := 31 * h + (v w).toInt64
def shF (sz : Nat → Int32) (zs : Nat → Nat) (cell : Nat → Nat → Int32) (r : Nat) (h : Int64) : Int64 := fo (st31 (cell r)) (31 * h + (sz r).toInt64) (zs r)
theorem q_stir (g : Nat) (hg : g < 2) (S : sT) (zs : Nat → Nat) (hz : ∀ r, r < nO g → (vA S (200 + g) r = -1 ∧ zs r = 0) ∨ (vA S (200 + g) r = nI (zs r) ∧ zs r ≤ nW g)) (x : Int64) (Q : Int64 → sT → Prop) (h : Q (fo (shF (vA S (200 + g)) zs (fun r => vA S (300 + 10 * g + r))) x (nO g)) S) : wp_X3_stir g x S Q := by
  unfold wp_X3_stir
  refine q_fo (fun n i a => wl_X3_stir_5 g Q n a (nI i) S) (shF (vA S (200 + g)) zs (fun r => vA S (300 + 10 * g + r))) x (nO g) (fun n9 => ?_) (fun n9 r a hr ha ih => ?_)
  · show wb_X3_stir_5 g Q _ _ _ S
    unfold wb_X3_stir_5
    rw [lSize g hg]
    exact yes (nI_le (Nat.le_refl _) (nO_31 g)) h
  · show wb_X3_stir_5 g Q _ _ _ S
    unfold wb_X3_stir_5
    rw [lSize g hg, nI_clamp (by have := nO_31 g; omega)]
    refine no (nI_ge hr (nO_31 g)) ⟨vp_in_nI hr (nO_31 g), ?_⟩
    refine q_fo (fun n i b => wl_X3_stir_33 g Q (fun x3 x5 S => wl_X3_stir_5 g Q n9 x3 x5 S) n b (nI r) (nI i) S) (st31 (vA S (300 + 10 * g + r))) _ (zs r) (fun n8 => ?_) (fun n8 i b hi hb ih2 => ?_)
    · show wb_X3_stir_33 g Q _ _ _ _ _ S
      unfold wb_X3_stir_33
      rw [lSize g hg, nI_clamp (by have := nO_31 g; omega)]
      rw [← nI_1] at ih
      refine ⟨vp_in_nI hr (nO_31 g), yes ?_ ih⟩
      rcases hz r hr with ⟨e1, e2⟩ | ⟨e1, e2⟩
      · rw [e1, e2]; decide
      · rw [e1]; exact nI_le (Nat.le_refl _) (by have := nW_31 g; omega)
    · show wb_X3_stir_33 g Q _ _ _ _ _ S
      unfold wb_X3_stir_33
      rw [lSize g hg, nI_clamp (by have := nO_31 g; omega)]
      rw [← nI_1] at ih2
      rcases hz r hr with ⟨e1, e2⟩ | ⟨e1, e2⟩
      · omega
      · refine ⟨vp_in_nI hr (nO_31 g), no ?_ ⟨vp_in_nI hr (nO_31 g), vp_in_nI (by omega) (nW_31 g), fun z ez => ?_⟩⟩
        · rw [e1]; exact nI_ge hi (by have := nW_31 g; omega)
        · rw [ez, nI_clamp (show i < 2 ^ 31 by have := nW_31 g; omega)]
          exact ih2
theorem q_dgR180 (S : sT) (zs : Nat → Nat) (hz : ∀ r, r < 6 → (vA S 1 r = -1 ∧ zs r = 0) ∨ (vA S 1 r = nI (zs r) ∧ zs r ≤ 40)) (x : Int64) (Q : Int64 → sT → Prop) (h : ∃ n : Nat, wl_X5_digest_225 Q n (fo (shF (vA S 1) zs (fun r i => vA S 0 (40 * r + i))) x 6) (0 : Int32) S) : ∃ n : Nat, wl_X5_digest_157 Q n x (0 : Int32) S := by
  refine q_fo (fun n i a => wl_X5_digest_157 Q n a (nI i) S) (shF (vA S 1) zs (fun r i => vA S 0 (40 * r + i))) x 6 (fun n9 => ?_) (fun n9 r a hr ha ih => ?_)
  · show wb_X5_digest_157 Q _ _ _ S
    unfold wb_X5_digest_157
    exact yes (by decide) h
  · show wb_X5_digest_157 Q _ _ _ S
    unfold wb_X5_digest_157
    rw [nI_clamp (show r < 2 ^ 31 by omega)]
    refine no (nI_ge hr (by decide)) ⟨vp_in_nI hr (by decide), ?_⟩
    refine q_fo (fun n i b => wl_X5_digest_180 Q (fun x3 x5 S => wl_X5_digest_157 Q n9 x3 x5 S) n b (nI r) (nI i) S) (st31 (fun i => vA S 0 (40 * r + i))) _ (zs r) (fun n8 => ?_) (fun n8 i b hi hb ih2 => ?_)
    · show wb_X5_digest_180 Q _ _ _ _ _ S
      unfold wb_X5_digest_180
      rw [nI_clamp (show r < 2 ^ 31 by omega)]
      rw [← nI_1] at ih
      refine ⟨vp_in_nI hr (by decide), yes ?_ ih⟩
      rcases hz r hr with ⟨e1, e2⟩ | ⟨e1, e2⟩
      · rw [e1, e2]; decide
      · rw [e1]; exact nI_le (Nat.le_refl _) (by omega)
    · show wb_X5_digest_180 Q _ _ _ _ _ S
      unfold wb_X5_digest_180
      rw [nI_clamp (show r < 2 ^ 31 by omega)]
      rw [← nI_1] at ih2
      rcases hz r hr with ⟨e1, e2⟩ | ⟨e1, e2⟩
      · omega
      · have e9 : (40 : Int32) * nI r + nI i = nI (40 * r + i) := by rw [show (40 : Int32) = nI 40 from rfl, pk_mul, nI_add]
        rw [e9, nI_clamp (show 40 * r + i < 2 ^ 31 by omega)]
        refine ⟨vp_in_nI hr (by decide), no ?_ ⟨vp_in_nI (by omega) (by decide), fun z ez => ?_⟩⟩
        · rw [e1]; exact nI_ge hi (by omega)
        · rw [ez]
          exact ih2
theorem q_dgR247 (S : sT) (zs : Nat → Nat) (hz : ∀ r, r < 4 → (vA S 3 r = -1 ∧ zs r = 0) ∨ (vA S 3 r = nI (zs r) ∧ zs r ≤ 60)) (x : Int64) (Q : Int64 → sT → Prop) (h : Q (fo (shF (vA S 3) zs (fun r i => vA S 2 (60 * r + i))) x 4) S) : ∃ n : Nat, wl_X5_digest_225 Q n x (0 : Int32) S := by
  refine q_fo (fun n i a => wl_X5_digest_225 Q n a (nI i) S) (shF (vA S 3) zs (fun r i => vA S 2 (60 * r + i))) x 4 (fun n9 => ?_) (fun n9 r a hr ha ih => ?_)
  · show wb_X5_digest_225 Q _ _ _ S
    unfold wb_X5_digest_225
    exact yes (by decide) h
  · show wb_X5_digest_225 Q _ _ _ S
    unfold wb_X5_digest_225
    rw [nI_clamp (show r < 2 ^ 31 by omega)]
    refine no (nI_ge hr (by decide)) ⟨vp_in_nI hr (by decide), ?_⟩
    refine q_fo (fun n i b => wl_X5_digest_247 Q (fun x3 x5 S => wl_X5_digest_225 Q n9 x3 x5 S) n b (nI r) (nI i) S) (st31 (fun i => vA S 2 (60 * r + i))) _ (zs r) (fun n8 => ?_) (fun n8 i b hi hb ih2 => ?_)
    · show wb_X5_digest_247 Q _ _ _ _ _ S
      unfold wb_X5_digest_247
      rw [nI_clamp (show r < 2 ^ 31 by omega)]
      rw [← nI_1] at ih
      refine ⟨vp_in_nI hr (by decide), yes ?_ ih⟩
      rcases hz r hr with ⟨e1, e2⟩ | ⟨e1, e2⟩
      · rw [e1, e2]; decide
      · rw [e1]; exact nI_le (Nat.le_refl _) (by omega)
    · show wb_X5_digest_247 Q _ _ _ _ _ S
      unfold wb_X5_digest_247
      rw [nI_clamp (show r < 2 ^ 31 by omega)]
      rw [← nI_1] at ih2
      rcases hz r hr with ⟨e1, e2⟩ | ⟨e1, e2⟩
      · omega
      · have e9 : (60 : Int32) * nI r + nI i = nI (60 * r + i) := by rw [show (60 : Int32) = nI 60 from rfl, pk_mul, nI_add]
        rw [e9, nI_clamp (show 60 * r + i < 2 ^ 31 by omega)]
        refine ⟨vp_in_nI hr (by decide), no ?_ ⟨vp_in_nI (by omega) (by decide), fun z ez => ?_⟩⟩
        · rw [e1]; exact nI_ge hi (by omega)
        · rw [ez]
          exact ih2
theorem q_dgR126 (S : sT) (x : Int64) (Q : Int64 → sT → Prop) (h : ∃ n : Nat, wl_X5_digest_157 Q n (fo (st31 (fun k => vA S 18 (370 * k))) x 3) (0 : Int32) S) : ∃ n : Nat, wl_X5_digest_126 Q n x (0 : Int32) S := by
  refine q_fo (fun n i a => wl_X5_digest_126 Q n a (nI i) S) (st31 (fun k => vA S 18 (370 * k))) x 3 (fun n9 => ?_) (fun n9 r a hr ha ih => ?_)
  · show wb_X5_digest_126 Q _ _ _ S
    unfold wb_X5_digest_126
    exact yes (by decide) h
  · show wb_X5_digest_126 Q _ _ _ S
    unfold wb_X5_digest_126
    rw [show (370 : Int32) = nI 370 from rfl, pk_mul, nI_clamp (show 370 * r < 2 ^ 31 by omega)]
    refine no (nI_ge hr (by decide)) ⟨vp_in_nI (by omega) (by decide), fun z ez => ?_⟩
    rw [← nI_1] at ih
    rw [ez]
    exact ih
theorem q_dgC82 (S : sT) (f : Nat → Int32) (hf : ∀ k, k < 3 → (vA S 5 k = 0 ∧ f k = -1) ∨ (vA S 5 k = 1 ∧ vI S (20 + 13 * (2 + k) + 12) = f k)) (x : Int64) (Q : Int64 → sT → Prop) (h : wp_X3_stir 0 (fo (st31 f) x 3) S (fun r_1 S_1 => wp_X3_stir 1 r_1 S_1 (fun r_2 S_2 => Q r_2 S_2))) : ∃ n : Nat, wl_X4_digest_82 Q n x (0 : Int32) S := by
  refine q_fo (fun n i a => wl_X4_digest_82 Q n a (nI i) S) (st31 f) x 3 (fun n9 => ?_) (fun n9 r a hr ha ih => ?_)
  · show wb_X4_digest_82 Q _ _ _ S
    unfold wb_X4_digest_82
    exact yes (by decide) h
  · show wb_X4_digest_82 Q _ _ _ S
    unfold wb_X4_digest_82 wb_X4_digest_114
    rw [nI_clamp (show r < 2 ^ 31 by omega)]
    rw [← nI_1] at ih
    unfold st31 at ih
    refine no (nI_ge hr (by decide)) ⟨vp_in_nI (by omega) (by decide), ?_⟩
    rcases hf r hr with ⟨e1, e2⟩ | ⟨e1, e2⟩
    · rw [e2] at ih
      rw [e1]
      exact yes rfl ih
    · rw [e1, e2]
      exact no n10 ⟨vp_in_nI (by omega) (by decide), ih⟩
def slF (kd bd V : Nat → Nat) (i : Nat) (h : Int64) : Int64 := fo (st31 (tos kd bd V i)) h 5
theorem q_dgC33 {C : sT} {n last due : Nat} {kd bd : Nat → Nat} {T : Nat → Nat → Nat} {d : Nat} (hC : nightC C 0 n last due kd bd T d) (hok : okN n last due kd bd) (hV : okV n last (T d)) (x : Int64) (Q : Int64 → sT → Prop) (h : ∃ m : Nat, wl_X4_digest_82 Q m (fo (slF kd bd (T d)) x n) (0 : Int32) C) : ∃ m : Nat, wl_X4_digest_33 Q m x (0 : Int32) C := by
  have hn := hok.1
  have c1 : vI C 26 = nI n := hC.1.1
  refine q_fo (fun n i a => wl_X4_digest_33 Q n a (nI i) C) (slF kd bd (T d)) x n (fun n9 => ?_) (fun n9 r a hr ha ih => ?_)
  · show wb_X4_digest_33 Q _ _ _ C
    unfold wb_X4_digest_33
    rw [c1]
    exact yes (nI_le (Nat.le_refl _) (by omega)) h
  · show wb_X4_digest_33 Q _ _ _ C
    unfold wb_X4_digest_33
    rw [c1]
    refine no (nI_ge hr (by omega)) ?_
    refine q_fo (fun n i b => wl_X4_digest_47 Q (fun x3 x5 S => wl_X4_digest_33 Q n9 x3 x5 S) n b (nI r) (nI i) C) (st31 (tos kd bd (T d) r)) _ 5 (fun n8 => ?_) (fun n8 i b hi hb ih2 => ?_)
    · show wb_X4_digest_47 Q _ _ _ _ _ C
      unfold wb_X4_digest_47
      rw [← nI_1] at ih
      exact yes (by decide) ih
    · show wb_X4_digest_47 Q _ _ _ _ _ C
      unfold wb_X4_digest_47
      rw [← nI_1] at ih2
      exact no (nI_ge hi (by decide)) (q_tos hC hok hV hr hi _ ih2)
theorem q_dgR33 {R : sT} {n last due : Nat} {kd bd : Nat → Nat} {V : Nat → Nat} (h9 : vI R 9 = nI n) (rs : ∀ i, i < n → vA R 12 i = nI (kd i) ∧ vA R 13 i = nI (bd i)) (hs : ∀ i, i < 3 + n → vA R 14 i = nI (V i)) (hok : okN n last due kd bd) (hV : okV n last V) (x : Int64) (Q : Int64 → sT → Prop) (h : ∃ m : Nat, wl_X5_digest_126 Q m (fo (slF kd bd V) x n) (0 : Int32) R) : ∃ m : Nat, wl_X5_digest_33 Q m x (0 : Int32) R := by
  have hn := hok.1
  refine q_fo (fun n i a => wl_X5_digest_33 Q n a (nI i) R) (slF kd bd V) x n (fun n9 => ?_) (fun n9 r a hr ha ih => ?_)
  · show wb_X5_digest_33 Q _ _ _ R
    unfold wb_X5_digest_33
    rw [h9]
    exact yes (nI_le (Nat.le_refl _) (by omega)) h
  · show wb_X5_digest_33 Q _ _ _ R
    unfold wb_X5_digest_33 wb_X5_digest_115
    have e3 : (3 : Int32) + nI r = nI (3 + r) := nI_add 3 r
    rw [h9, e3, nI_clamp (show r < 2 ^ 31 by omega), nI_clamp (show 3 + r < 2 ^ 31 by omega), show (2 : Int32).toNatClampNeg = 2 from rfl, (rs r hr).1, (rs r hr).2, hs (3 + r) (by omega), hs 2 (by omega), bit_b2 (pow_le64 hn hV.2.2.1) (by omega)]
    rw [← nI_1] at ih
    refine no (nI_ge hr (by omega)) ⟨vp_in_nI (by omega) (by decide), vp_in_nI (by omega) (by decide), vp_in_nI (by omega) (by decide), fun z ez => ⟨vp_in_nI (n := 2) (by decide) (by decide), q_dreamR (fun i hi => (rs i hi).1) hs hok hV hr _ ?_⟩⟩
    rw [ez]
    have ih3 : wl_X5_digest_33 Q n9 (31 * (31 * (31 * (31 * (31 * a + (nI (kd r)).toInt64) + (nI (bd r)).toInt64) + (nI (V (3 + r))).toInt64) + (b2 (bt (V 2) r)).toInt64) + (b2 (drm kd V r)).toInt64) (nI r + 1) R := ih
    refine cy (fun e => ?_) (fun e => ?_)
    · rw [e] at ih3; exact ih3
    · rw [e] at ih3; exact ih3
theorem st_digest_ok : st_digest Inv := by
  intro C R hI
  obtain ⟨hM, hRr, hT, hN⟩ := id hI
  obtain ⟨n, last, due, kd, bd, T, d, hok, hd40, hV, hC, hR, hK⟩ := id hN
  obtain ⟨⟨r1, r2, r3, r4⟩, rs, rn, -⟩ := id hR
  have hn := hok.1
  have hVd := hV d (Nat.le_refl d)
  obtain ⟨v, hv⟩ := Classical.axiomOfChoice (r := fun (w : Nat) (v : Int32) => w < 12 → (∀ Q : Int32 → sT → Prop, Q v C → wp_X4_toldCount (nI w) C Q) ∧ (∀ Q : Int32 → sT → Prop, Q v R → wp_X5_count (nI w) R Q)) (fun w => by
    by_cases hw : w < 12
    · obtain ⟨v, hv⟩ := q_told hI hw
      exact ⟨v, fun _ => hv⟩
    · exact ⟨0, fun h9 => absurd h9 hw⟩)
  obtain ⟨zr, hzr⟩ := Classical.axiomOfChoice (r := fun (w : Nat) (z : Nat) => w < 6 → (vA R 1 w = -1 ∧ z = 0) ∨ (vA R 1 w = nI z ∧ z ≤ 40)) (fun w => by
    by_cases hw : w < 6
    · rcases (hRr w hw).2.1 with h | ⟨z, h1, h2⟩
      · exact ⟨0, fun _ => Or.inl ⟨h, rfl⟩⟩
      · exact ⟨z, fun _ => Or.inr ⟨h2, h1⟩⟩
    · exact ⟨0, fun h9 => absurd h9 hw⟩)
  obtain ⟨zt, hzt⟩ := Classical.axiomOfChoice (r := fun (w : Nat) (z : Nat) => w < 4 → (vA R 3 w = -1 ∧ z = 0) ∨ (vA R 3 w = nI z ∧ z ≤ 60)) (fun w => by
    by_cases hw : w < 4
    · rcases (hT w hw).2.1 with h | ⟨z, h1, h2⟩
      · exact ⟨0, fun _ => Or.inl ⟨h, rfl⟩⟩
      · exact ⟨z, fun _ => Or.inr ⟨h2, h1⟩⟩
    · exact ⟨0, fun h9 => absurd h9 hw⟩)
  have key : ∀ X : Int64, X = (fo (shF (vA R 3) zt (fun r i => vA R 2 (60 * r + i))) (fo (shF (vA R 1) zr (fun r i => vA R 0 (40 * r + i))) (fo (st31 (fun k => vA R 18 (370 * k))) (fo (slF kd bd (T d)) (fo (st31 v) 17 12) n) 3) 6) 4) → wp_X5_digest R (fun r2 SR1 => X = r2 ∧ Inv C SR1) := by
    intro X hX
    unfold wp_X5_digest
    refine q_fo (fun n i a => wl_X5_digest_6 _ n a (nI i) R) (st31 v) 17 12 (fun n9 => ?_) (fun n9 r a hr ha ih => ?_)
    · show wb_X5_digest_6 _ _ _ _ R
      unfold wb_X5_digest_6
      refine yes (by decide) (q_dgR33 r1 rs rn hok hVd _ _ (q_dgR126 R _ _ (q_dgR180 R zr hzr _ _ (q_dgR247 R zt hzt _ _ ⟨hX, hI⟩))))
    · show wb_X5_digest_6 _ _ _ _ R
      unfold wb_X5_digest_6
      rw [← nI_1] at ih
      exact no (nI_ge hr (by decide)) ((hv r hr).2 _ ih)
  unfold wp_X4_digest
  refine q_fo (fun n i a => wl_X4_digest_6 _ n a (nI i) C) (st31 v) 17 12 (fun n9 => ?_) (fun n9 r a hr ha ih => ?_)
  · show wb_X4_digest_6 _ _ _ _ C
    unfold wb_X4_digest_6
    refine yes (by decide) (q_dgC33 hC hok hVd _ _ (q_dgC82 C (fun k => vA R 18 (370 * k)) (fun k hk => ?_) _ _ (q_stir 0 (by decide) C zr (fun r hr => ?_) _ _ (q_stir 1 (by decide) C zt (fun r hr => ?_) _ _ ?_))))
    · rcases hK k hk with h | ⟨h1, T', d', h2, h3, h4, h5⟩
      · exact Or.inl h
      · exact Or.inr ⟨h1, h4.1.2.2.2.2.2.2.trans h5.1.symm⟩
    · have := hzr r hr
      rw [show vA C (200 + 0) r = vA R 1 r from (hRr r hr).1]
      exact this
    · have := hzt r hr
      rw [show vA C (200 + 1) r = vA R 3 r from (hT r hr).1]
      exact this
    · refine key _ ?_
      have f1 : ∀ x, fo (shF (vA C (200 + 1)) zt (fun r => vA C (300 + 10 * 1 + r))) x 4 = fo (shF (vA R 3) zt (fun r i => vA R 2 (60 * r + i))) x 4 := by
        intro x
        refine fo_congr (fun r hr b => ?_)
        unfold shF
        rw [show vA C (200 + 1) r = vA R 3 r from (hT r hr).1]
        refine fo_congr (fun i hi c => ?_)
        unfold st31
        have hi60 : i < 60 := by
          rcases hzt r hr with h | h
          · omega
          · omega
        show 31 * c + (vA C (310 + r) i).toInt64 = _
        rw [(hT r hr).2.2 i hi60]
      have f2 : ∀ x, fo (shF (vA C (200 + 0)) zr (fun r => vA C (300 + 10 * 0 + r))) x 6 = fo (shF (vA R 1) zr (fun r i => vA R 0 (40 * r + i))) x 6 := by
        intro x
        refine fo_congr (fun r hr b => ?_)
        unfold shF
        rw [show vA C (200 + 0) r = vA R 1 r from (hRr r hr).1]
        refine fo_congr (fun i hi c => ?_)
        unfold st31
        have hi60 : i < 40 := by
          rcases hzr r hr with h | h
          · omega
          · omega
        show 31 * c + (vA C (300 + r) i).toInt64 = _
        rw [(hRr r hr).2.2 i hi60]
      rw [← f1, ← f2]
      rfl
  · show wb_X4_digest_6 _ _ _ _ C
    unfold wb_X4_digest_6
    rw [← nI_1] at ih
    exact no (nI_ge hr (by decide)) ((hv r hr).1 _ ih)
