/-! other suppers -/
def sdF (n last : Nat) (kd bd : Nat → Nat) (m pl : Nat) (W : Nat → Nat) : Bool := decide (it n last kd bd W m 1 = pl) && std n last kd bd (it n last kd bd W m)
def agr (i : Nat) (W W' : Nat → Nat) : Prop := W' 0 = W 0 ∧ W' 1 = W 1 ∧ W' 2 = W 2 ∧ ∀ j, ¬ j = i → W' (3 + j) = W (3 + j)
theorem agr_symm {i : Nat} {W W' : Nat → Nat} (h : agr i W W') : agr i W' W := ⟨h.1.symm, h.2.1.symm, h.2.2.1.symm, fun j hj => (h.2.2.2 j hj).symm⟩
theorem agr_set (i s : Nat) (W : Nat → Nat) : agr i W (setV W (3 + i) s) := by
  refine ⟨?_, ?_, ?_, fun j hj => ?_⟩ <;> unfold setV <;> rw [if_neg (by omega)]
theorem gs_nm {n : Nat} {kd bd W W' : Nat → Nat} {i p k : Nat} (h : agr i W W') (hp : ¬ bd i = p) : gs n kd bd W' p k = gs n kd bd W p k := by
  unfold gs
  refine fo_congr (fun j hj b => ?_)
  rw [stdF_at, stdF_at]
  obtain ⟨h0, h1, h2, h3⟩ := h
  by_cases c : j = i
  · rw [c, show decide (bd i = p) = false from decide_eq_false hp]
    simp
  · rw [h0, h2, h3 j c]
theorem it_nm {n last : Nat} {kd bd W W' : Nat → Nat} {i : Nat} (h : agr i W W') : ∀ k, (∀ j, j < k → ¬ bd i = it n last kd bd W j 1) → it n last kd bd W' k 1 = it n last kd bd W k 1
  | 0, _ => h.2.1
  | k + 1, hk => by
    have ih := it_nm (n := n) (last := last) (kd := kd) h k (fun j hj => hk j (by omega))
    rw [it_next, it_next, std_it, std_it, ih, gs_nm h (hk k (by omega))]
theorem it_mono (n last : Nat) (kd bd W : Nat → Nat) (j : Nat) : ∀ k, it n last kd bd W j 1 ≤ it n last kd bd W (j + k) 1
  | 0 => Nat.le_refl _
  | k + 1 => by
    have := it_mono n last kd bd W j k
    show _ ≤ (if std n last kd bd (it n last kd bd W (j + k)) = true then it n last kd bd W (j + k) 1 else it n last kd bd W (j + k) 1 + 1)
    split <;> omega
theorem it_mono' (n last : Nat) (kd bd W : Nat → Nat) {j k : Nat} (h : j ≤ k) : it n last kd bd W j 1 ≤ it n last kd bd W k 1 := by
  have := it_mono n last kd bd W j (k - j)
  rw [show j + (k - j) = k by omega] at this
  exact this
theorem st_nm1 {n last : Nat} {kd bd W W' : Nat → Nat} {i m pl : Nat} (h : agr i W W') (hh : ∀ j, j ≤ m → ¬ bd i = it n last kd bd W j 1) : sdF n last kd bd m pl W' = sdF n last kd bd m pl W := by
  have e := it_nm (n := n) (last := last) (kd := kd) h m (fun j hj => hh j (by omega))
  unfold sdF
  rw [std_it, std_it, e, gs_nm h (hh m (Nat.le_refl m))]
theorem st_nm {n last : Nat} {kd bd W W' : Nat → Nat} {i m pl : Nat} (h : agr i W W') (hc : bd i < W 1 ∨ pl < bd i) : sdF n last kd bd m pl W' = sdF n last kd bd m pl W := by
  rcases hc with hc | hc
  · refine st_nm1 h (fun j hj => ?_)
    have := it_mono' n last kd bd W (Nat.zero_le j)
    have e : it n last kd bd W 0 1 = W 1 := rfl
    omega
  · by_cases c : it n last kd bd W m 1 = pl
    · refine st_nm1 h (fun j hj => ?_)
      have := it_mono' n last kd bd W hj
      omega
    · by_cases c2 : it n last kd bd W' m 1 = pl
      · refine (st_nm1 (agr_symm h) (fun j hj => ?_)).symm
        have := it_mono' n last kd bd W' hj
        omega
      · unfold sdF
        rw [decide_eq_false c, decide_eq_false c2]
        rfl
/-- one, two other suppers -/
def sp (W : Nat → Nat) (w : Nat) : Nat → Nat := setV W (3 + w / 10) (w % 10)
def mt (bd V : Nat → Nat) (pl i : Nat) : Bool := bt (V 2) i && (decide (V 1 ≤ bd i) && decide (bd i ≤ pl))
def oth (V : Nat → Nat) (w : Nat) : Bool := bt (V 2) (w / 10) && !decide (V (3 + w / 10) = w % 10)
theorem mt_f {bd V : Nat → Nat} {pl i : Nat} (h : mt bd V pl i = false) (ha : bt (V 2) i = true) : bd i < V 1 ∨ pl < bd i := by
  unfold mt at h
  rw [ha] at h
  simp at h
  omega
theorem sp_same {W : Nat → Nat} {w : Nat} (h : W (3 + w / 10) = w % 10) : sp W w = W := by
  unfold sp
  rw [← h]
  exact setV_id W _
/-- one: both count alike -/
theorem P1_eq {n last : Nat} {kd bd V : Nat → Nat} {m pl w : Nat} (h0 : sdF n last kd bd m pl V = false) : (mt bd V pl (w / 10) && sdF n last kd bd m pl (sp V w)) = (oth V w && sdF n last kd bd m pl (sp V w)) := by
  cases hs : sdF n last kd bd m pl (sp V w)
  · simp
  · rw [Bool.and_true, Bool.and_true]
    have hne : ¬ V (3 + w / 10) = w % 10 := fun e => by
      rw [sp_same e, h0] at hs
      exact absurd hs (by decide)
    unfold oth
    rw [decide_eq_false hne]
    cases ha : bt (V 2) (w / 10)
    · unfold mt
      rw [ha]
      rfl
    · cases hm : mt bd V pl (w / 10)
      · have e := st_nm (n := n) (last := last) (kd := kd) (m := m) (agr_set (w / 10) (w % 10) V) (mt_f hm ha)
        unfold sp at hs
        rw [e, h0] at hs
        exact absurd hs (by decide)
      · rfl
theorem sp_comm {V : Nat → Nat} {w1 w2 : Nat} (h : ¬ w1 / 10 = w2 / 10) : sp (sp V w1) w2 = sp (sp V w2) w1 := by
  unfold sp
  funext i
  unfold setV
  by_cases c1 : i = 3 + w1 / 10
  · rw [if_neg (by omega), if_pos c1, if_pos c1]
  · by_cases c2 : i = 3 + w2 / 10
    · rw [if_pos c2, if_neg c1, if_pos c2]
    · rw [if_neg c2, if_neg c1, if_neg c1, if_neg c2]
theorem sp_at {V : Nat → Nat} {w1 j : Nat} (h : ¬ j = 3 + w1 / 10) : sp V w1 j = V j := by
  unfold sp setV
  rw [if_neg h]
theorem P2_eq {n last : Nat} {kd bd V : Nat → Nat} {m pl w1 w2 : Nat} (h1 : ∀ w, w = w1 ∨ w = w2 → bt (V 2) (w / 10) = true → sdF n last kd bd m pl (sp V w) = false) (hne : ¬ w1 / 10 = w2 / 10) : (mt bd V pl (w1 / 10) && (mt bd V pl (w2 / 10) && sdF n last kd bd m pl (sp (sp V w1) w2))) = (oth V w1 && (oth V w2 && sdF n last kd bd m pl (sp (sp V w1) w2))) := by
  cases hs : sdF n last kd bd m pl (sp (sp V w1) w2)
  · simp
  · rw [Bool.and_true, Bool.and_true]
    cases a1 : bt (V 2) (w1 / 10)
    · unfold mt oth
      rw [a1]
      rfl
    · cases a2 : bt (V 2) (w2 / 10)
      · unfold mt oth
        rw [a2]
        simp
      · have b1 := h1 w1 (Or.inl rfl) a1
        have b2 := h1 w2 (Or.inr rfl) a2
        have n1 : ¬ V (3 + w1 / 10) = w1 % 10 := fun e => by
          rw [sp_same e, b2] at hs
          exact absurd hs (by decide)
        have n2 : ¬ V (3 + w2 / 10) = w2 % 10 := fun e => by
          rw [sp_same (W := sp V w1) (w := w2) (by rw [sp_at (by omega)]; exact e), b1] at hs
          exact absurd hs (by decide)
        have m1 : mt bd V pl (w1 / 10) = true := by
          cases hm : mt bd V pl (w1 / 10)
          · have hc := mt_f hm a1
            have e := st_nm (n := n) (last := last) (kd := kd) (m := m) (agr_set (w1 / 10) (w1 % 10) (sp V w2)) (bd := bd) (pl := pl) (by
              rw [sp_at (show ¬ 1 = 3 + w2 / 10 by omega)]; exact hc)
            rw [sp_comm hne] at hs
            have e' : sdF n last kd bd m pl (sp (sp V w2) w1) = sdF n last kd bd m pl (sp V w2) := e
            rw [e', b2] at hs
            exact absurd hs (by decide)
          · rfl
        have m2 : mt bd V pl (w2 / 10) = true := by
          cases hm : mt bd V pl (w2 / 10)
          · have hc := mt_f hm a2
            have e := st_nm (n := n) (last := last) (kd := kd) (m := m) (agr_set (w2 / 10) (w2 % 10) (sp V w1)) (bd := bd) (pl := pl) (by
              rw [sp_at (show ¬ 1 = 3 + w1 / 10 by omega)]; exact hc)
            have e' : sdF n last kd bd m pl (sp (sp V w1) w2) = sdF n last kd bd m pl (sp V w1) := e
            rw [e', b1] at hs
            exact absurd hs (by decide)
          · rfl
        unfold oth
        rw [m1, m2, a1, a2, decide_eq_false n1, decide_eq_false n2]
        rfl
theorem first (P : Nat → Bool) {f0 N : Nat} (h : f0 ≤ N) : ∃ e, f0 ≤ e ∧ e ≤ N ∧ (∀ w, f0 ≤ w → w < e → P w = false) ∧ (e = N ∨ (e < N ∧ P e = true)) := by
  by_cases hx : ∃ w, f0 ≤ w ∧ w < N ∧ P w = true
  · obtain ⟨e, he, hm⟩ := pk_least (fun w => f0 ≤ w ∧ w < N ∧ P w = true) hx
    refine ⟨e, he.1, by omega, fun w h1 h2 => ?_, Or.inr ⟨he.2.1, he.2.2⟩⟩
    cases hp : P w
    · rfl
    · exact absurd ⟨h1, by omega, hp⟩ (hm w h2)
  · refine ⟨N, h, Nat.le_refl N, fun w h1 h2 => ?_, Or.inl rfl⟩
    cases hp : P w
    · rfl
    · exact absurd ⟨w, h1, h2, hp⟩ hx
