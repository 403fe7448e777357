/-! a text read whole -/
def fC (C C' : sT) : Prop := (∀ k, vL C' k = vL C k) ∧ ∀ k, k < 33 ∨ 46 ≤ k → vA C' k = vA C k ∧ (¬ (101 ≤ k ∧ k ≤ 103) → vI C' k = vI C k)
def fR (R R' : sT) : Prop := (∀ k, vL R' k = vL R k) ∧ (∀ k, k < 19 ∨ 26 ≤ k → vI R' k = vI R k) ∧ ∀ k, k < 26 ∨ 29 ≤ k → vA R' k = vA R k
theorem fC_of {C D : sT} {t z a f x : Int32} {k2 : Nat} (h : frC (uI (uT C k2) 101 x) D) : fC C (xcs D a f) := by
  refine ⟨fun k => h.2.1 k, fun k hk => ⟨(h.2.2 k hk).2, fun hn => ?_⟩⟩
  rw [csI D _ _ (by omega) (by omega), (h.2.2 k hk).1]
  simp only [ac]
  rw [if_neg (by omega)]
theorem fR_of {R R' : sT} {x y w a v : Int32} (h : frR (uI (uI (uI R 21 x) 20 y) 25 w) R') : fR R (xrs R' a v) := by
  refine ⟨fun k => h.1 k, fun k hk => ?_, fun k hk => h.2.2 k hk⟩
  rw [rsI R' _ _ (by omega) (by omega), h.2.1 k (by omega)]
  simp only [ac]
  (repeat rw [if_neg (by omega)])
theorem dC_cs {D : sT} {last due m : Nat} {kd bd sp : Nat → Nat} (a f : Int32) (h : dC D last due m kd bd sp) : dC (xcs D a f) last due m kd bd sp := by
  have e : ∀ k, 39 ≤ k → k ≤ 45 → vI (xcs D a f) k = vI D k := fun k h1 h2 => csI D _ _ (by omega) (by omega)
  unfold dC at *
  rw [e 39 (by omega) (by omega), e 40 (by omega) (by omega), e 41 (by omega) (by omega), e 42 (by omega) (by omega), e 43 (by omega) (by omega), e 44 (by omega) (by omega), e 45 (by omega) (by omega)]
  exact h
theorem dR_rs {R : sT} {last due m : Nat} {kd bd sp : Nat → Nat} (a v : Int32) (h : dR R last due m kd bd sp) : dR (xrs R a v) last due m kd bd sp := by
  unfold dR at *
  rw [rsI R _ _ (by decide) (by decide), rsI R _ _ (by decide) (by decide), rsI R _ _ (by decide) (by decide)]
  exact h
theorem rd_all {C R : sT} {t z : Nat} {s : Nat → Int32} (ht : t < 4) (hz : z ≤ 60) (hxC : ∀ i, i < 60 → vA C (310 + t) i = s i) (h3 : vA R 3 t = nI z) (hxR : ∀ i, i < 60 → vA R 2 (60 * t + i) = s i) :
    ∃ (r : Int32) (m last due : Nat) (kd bd sp : Nat → Nat), (r = -9 → 0 < m ∧ m ≤ 6 ∧ last ≤ 20 ∧ due ≤ 60 ∧ ∀ i, i < m → kd i ≤ 5 ∧ bd i ≤ last ∧ sp i ≤ 9) ∧
      (∀ Q : Int32 → sT → Prop, (∀ C', fC C C' → (r = -9 → dC C' last due m kd bd sp) → Q r C') → wp_X2_readInto 1 (310 + t) (nI z) C Q) ∧
      (∀ Q : Int32 → sT → Prop, (∀ R', fR R R' → (r = -9 → dR R' last due m kd bd sp) → Q r R') → wp_X5_reads (nI t) R Q) := by
  have hC : tC (uI (uT C (310 + t)) 101 (nI z)) t s z := ⟨ht, hz, rfl, rfl, hxC⟩
  have hR : tR (uI (uI (uI R 21 (nI t)) 20 (nI z)) 25 0) t s z := ⟨ht, hz, rfl, rfl, hxR⟩
  have cH : ∀ Q : Int32 → sT → Prop, wp_X2_readHead 1 (xcs (uI (uT C (310 + t)) 101 (nI z)) (nI 0) (-9)) (fun S_1 => ∃ n : Nat, wl_X2_readInto_34 1 (310 + t) Q n (nI 0) S_1) → wp_X2_readInto 1 (310 + t) (nI z) C Q := by
    intro Q g
    unfold wp_X2_readInto
    rw [lRow1 t ht, if_neg (nI_nlt hz (by decide))]
    exact g
  have rH : ∀ Q : Int32 → sT → Prop, wp_X5_readsHead (xrs (uI (uI (uI R 21 (nI t)) 20 (nI z)) 25 0) (nI 0) (vI R 22)) (fun r_2 S_2 => ((r_2 = 0 → ∃ n : Nat, wl_X5_reads_38 Q n r_2 S_2) ∧ (¬ r_2 = 0 → wp_X5_skips S_2 (fun S_4 => ∃ n : Nat, wl_X5_reads_38 Q n r_2 S_4)))) → wp_X5_reads (nI t) R Q := by
    intro Q g
    unfold wp_X5_reads
    refine ⟨vp_in_nI ht (by decide), ?_⟩
    have e3 : vA (uI R 21 (nI t)) 3 = vA R 3 := rfl
    rw [nI_clamp (by omega), e3, h3]
    have e4 : uI (uI (uI (uI R 21 (nI t)) 20 (nI z)) 19 (0 : Int32)) 25 (0 : Int32) = xrs (uI (uI (uI R 21 (nI t)) 20 (nI z)) 25 0) (nI 0) (vI R 22) := by
      unfold xrs
      rw [uI_sw _ (show ¬ 19 = 25 by decide)]
      exact (uI_id (uI (uI (uI (uI R 21 (nI t)) 20 (nI z)) 25 0) 19 0) 22).symm
    rw [e4]
    exact g
  rcases rd_head (v := vI R 22) hC hR with ⟨q, hq, g1, g2⟩ | ⟨last, due, p, D', R', v', hl, hd, hp, f1, d1, f2, r1, r2, r3, g1, g2⟩
  · refine ⟨nI q, 0, 0, 0, fun _ => 0, fun _ => 0, fun _ => 0, fun e => absurd e (n9 (by omega)), fun Q hQ => cH Q ?_, fun Q hQ => rH Q ?_⟩
    · exact g1 _ (fun D' a hf => ⟨1, rd_flaw _ (by omega) Q (hQ _ (fC_of (t := 0) (z := 0) hf) (fun e => absurd e (n9 (by omega)))) 0 0⟩)
    · refine g2 _ (fun R' v' hf => yes rfl ⟨1, ?_⟩)
      show wb_X5_reads_38 Q _ 0 _
      unfold wb_X5_reads_38 wb_X5_reads_69 wb_X5_reads_85
      rw [rs19]
      have hq9 := hQ (xrs R' (nI q) v') (fR_of hf) (fun e => absurd e (n9 (by omega)))
      exact ⟨fun _ => yes rfl hq9, fun _ => yes rfl (yes rfl hq9)⟩
  · obtain ⟨p', hp'⟩ := sk_ex s z (z - p) p (by omega)
    obtain ⟨r, m', kd', bd', sp', i1, i2, i3⟩ := rd_loop (310 + t) hl 6 0 p p' D' R' v' (fun _ => 0) (fun _ => 0) (fun _ => 0) rfl (tC_fr hC f1) (tR_fr hR f2) (d1 _ _ _) ⟨⟨r1, r2, r3⟩, fun i hi => absurd hi (by omega)⟩ (fun i hi => absurd hi (by omega)) hp'
    refine ⟨r, m', last, due, kd', bd', sp', fun e => ⟨(i1 e).1, (i1 e).2.1, hl, hd, (i1 e).2.2⟩, fun Q hQ => cH Q ?_, fun Q hQ => rH Q ?_⟩
    · exact g1 _ (i2 Q (fun D2 a hf h9 => hQ _ (fC_of (t := 0) (z := 0) (frC_t f1 hf)) (fun e => dC_cs _ _ (h9 e))))
    · exact g2 _ (no n10 (r_skip (tR_fr hR f2) _ (i3 Q (fun R2 a w hf h9 => hQ _ (fR_of (frR_t f2 hf)) (fun e => dR_rs _ _ (h9 e)))) (p' - p) p (by have := hp'.1; omega) hp'))
theorem inv_rd {C R C' R' : sT} (h : Inv C R) (f : fC C C') (g : fR R R') : Inv C' R' := by
  have fi : ∀ k, k < 33 ∨ (46 ≤ k ∧ k < 100) → vI C' k = vI C k := fun k hk => (f.2 k (by omega)).2 (by omega)
  have fa : ∀ k, k < 33 ∨ 46 ≤ k → vA C' k = vA C k := fun k hk => (f.2 k (by omega)).1
  obtain ⟨h1, h2, h3, h4⟩ := id h
  refine inv_keepC h (relM_of h1 (fi 13 (by omega)) (f.1 14) (f.1 15) (fi 16 (by omega)) (fa 12 (by omega)) (g.2.1 4 (by omega)) (g.1 5) (g.1 6) (g.2.1 7 (by omega)) (g.2.2 8 (by omega))) (relR_of h2 (fa 200 (by omega)) (fun r hr => fa _ (by omega)) (g.2.2 1 (by omega)) (g.2.2 0 (by omega))) (relT_of h3 (fa 201 (by omega)) (fun r hr => fa _ (by omega)) (g.2.2 3 (by omega)) (g.2.2 2 (by omega))) (fa 5 (by omega)) (fun k hk => ⟨fi k (by omega), fa k (by omega)⟩) (fun k hk => ?_) (fun k hk => ?_)
  · simp at hk
    exact g.2.1 k (by omega)
  · simp at hk
    exact g.2.2 k (by omega)
theorem st_fault_ok : st_fault Inv := by
  intro x1 C R hI
  obtain ⟨hM, hR, hT, hN⟩ := id hI
  unfold wp_X4_fault
  rcases cIx x1 (show 4 < 2 ^ 31 by decide) with h1 | ⟨t, ht, rfl⟩
  · refine eS_bad 1 (by decide) h1 ⟨fun h9 => absurd h9 (by decide), fun _ => ?_⟩
    have h2 : ¬ (0 ≤ x1 ∧ x1 ≤ 3) := fun h9 => h1 ⟨h9.1, by have : nI 4 = 4 := rfl; grind⟩
    show wp_X5_fault _ _ _
    unfold wp_X5_fault
    rw [q_isText, if_neg h2]
    exact yes' rfl ⟨rfl, hI⟩
  · have ht3 : 0 ≤ nI t ∧ nI t ≤ 3 := ⟨nI_pos' (by omega), nI_le (show t ≤ 3 by omega) (by decide)⟩
    obtain ⟨hs, hz, hcell⟩ := hT t ht
    have hcl : (nI t).toNatClampNeg = t := nI_clamp (by omega)
    rcases hz with hz | ⟨z, hz60, hz⟩
    · refine eS_no 1 (by decide) ht (hs.trans hz) ⟨fun h9 => absurd h9 (by decide), fun _ => ?_⟩
      show wp_X5_fault _ _ _
      unfold wp_X5_fault
      rw [q_isText, if_pos ht3, hcl, hz]
      exact no' n10 ⟨vp_in_nI ht (by decide), fun h9 => absurd h9 (by decide), fun _ => q_foundR 1 (by decide) R _ ⟨rfl, inv_fd hI 1 (by decide)⟩⟩
    · obtain ⟨r, m, last, due, kd, bd, sp, i1, i2, i3⟩ := rd_all (s := fun i => vA R 2 (60 * t + i)) ht hz60 hcell hz (fun _ _ => rfl)
      refine eS_yes 1 (by decide) ht (by rw [hs.trans hz]; exact nIne (by omega)) ⟨fun _ => ⟨vp_in_nI ht (by decide), vp_in_nI ht (by decide), ?_⟩, fun h9 => absurd rfl h9⟩
      rw [hcl, hs.trans hz]
      refine i2 _ (fun C' f1 _ => ?_)
      show wp_X5_fault _ _ _
      unfold wp_X5_fault
      rw [q_isText, if_pos ht3, hcl, hz]
      exact no' n10 ⟨vp_in_nI ht (by decide), fun _ => i3 _ (fun R' f2 _ => ⟨rfl, inv_rd hI f1 f2⟩), fun h9 => absurd (nI_pos' (show z < 2 ^ 31 by omega)) h9⟩
