/-! sets of sleepers -/
def pc (a : Nat) : Nat := a % 2 + a / 2 % 2 + a / 4 % 2 + a / 8 % 2 + a / 16 % 2 + a / 32 % 2
theorem pc_le (a : Nat) : pc a ≤ 6 := by
  unfold pc
  omega
theorem bc_tab : ∀ a, a < 64 → ∀ z1, z1 = (nI a - ((((nI a).toUInt32 >>> ((1 : Int32).toUInt32 &&& Int32.toUInt32 31)).toInt32) &&& (1431655765 : Int32))) → True := fun _ _ _ _ => trivial
def bcE (x0 : Int32) : Int32 :=
  let z1 := (x0 - (((x0.toUInt32 >>> ((1 : Int32).toUInt32 &&& Int32.toUInt32 31)).toInt32) &&& (1431655765 : Int32)))
  let z2 := ((z1 &&& (858993459 : Int32)) + (((z1.toUInt32 >>> ((2 : Int32).toUInt32 &&& Int32.toUInt32 31)).toInt32) &&& (858993459 : Int32)))
  let z3 := ((z2 + ((z2.toUInt32 >>> ((4 : Int32).toUInt32 &&& Int32.toUInt32 31)).toInt32)) &&& (252645135 : Int32))
  let z4 := (z3 + ((z3.toUInt32 >>> ((8 : Int32).toUInt32 &&& Int32.toUInt32 31)).toInt32))
  let z5 := (z4 + ((z4.toUInt32 >>> ((16 : Int32).toUInt32 &&& Int32.toUInt32 31)).toInt32))
  z5 &&& (63 : Int32)
theorem bcE_tab : ∀ a, a < 64 → bcE (nI a) = nI (pc a) := by decide +kernel
theorem q_bitCount {a : Nat} (ha : a < 64) (S : sT) (Q : Int32 → sT → Prop) (h : Q (nI (pc a)) S) : wp_J6_bitCount_0f7a4 (nI a) S Q := by
  unfold wp_J6_bitCount_0f7a4
  intro z1 e1 z2 e2 z3 e3 z4 e4 z5 e5
  subst e1 e2 e3 e4 e5
  rw [← bcE_tab a ha] at h
  exact h
theorem low_tab : ∀ a, a < 64 → ¬ a = 0 → nI a &&& (nI a - 1) = nI (a &&& (a - 1)) ∧ pc a = pc (a &&& (a - 1)) + 1 ∧ (a &&& (a - 1)) < 64 := by decide +kernel
theorem q_bits1 (S : sT) (Q : Int32 → sT → Prop) : ∀ f a c, a < 64 → pc a < f → Q (nI (c + pc a)) S → wl_X5_bits_4 Q f (nI c) (nI a) S
  | 0, a, c, _, h2, _ => absurd h2 (Nat.not_lt_zero _)
  | f + 1, a, c, h1, h2, h3 => by
    show wb_X5_bits_4 Q _ (nI c) (nI a) S
    unfold wb_X5_bits_4
    have e0 : nI a = 0 ↔ a = 0 := nI_eq (b := 0) (by omega) (by decide)
    rw [e0]
    refine ⟨fun c0 => ?_, fun c0 => ?_⟩
    · rw [c0] at h3
      exact h3
    · obtain ⟨t1, t2, t3⟩ := low_tab a h1 c0
      rw [t1, nI_1]
      refine q_bits1 S Q f _ (c + 1) t3 (by omega) ?_
      rw [show c + 1 + pc (a &&& (a - 1)) = c + pc a by omega]
      exact h3
theorem q_bits {a : Nat} (ha : a < 64) (S : sT) (Q : Int32 → sT → Prop) (h : Q (nI (pc a)) S) : wp_X5_bits (nI a) S Q := by
  unfold wp_X5_bits
  have := pc_le a
  refine ⟨7, q_bits1 S Q 7 a 0 ha (by omega) ?_⟩
  rw [Nat.zero_add]
  exact h
theorem pow_tab : ∀ n, n ≤ 6 → (1 : Int32) <<< (nI n &&& 31) = nI (2 ^ n) := by decide +kernel
def prt (s a : Nat) : Bool := decide (nI s &&& (nI a ^^^ (-1 : Int32)) = 0)
theorem prt_tab : ∀ a, a < 64 → ∀ s, s < 64 → prt s a = true → nI a &&& (nI s ^^^ (-1 : Int32)) = nI (a ^^^ s) ∧ nI a ^^^ nI s = nI (a ^^^ s) := by decide +kernel
theorem q_isPart (s a : Nat) (S : sT) (Q : Int32 → sT → Prop) (h : Q (b2 (prt s a)) S) : wp_X4_isPart (nI s) (nI a) S Q := by
  unfold wp_X4_isPart
  unfold prt at h
  refine ⟨fun c => ?_, fun c => ?_⟩
  · rw [show decide (nI s &&& (nI a ^^^ (-1 : Int32)) = 0) = false from decide_eq_false c] at h
    exact h
  · rw [show decide (nI s &&& (nI a ^^^ (-1 : Int32)) = 0) = true from decide_eq_true c] at h
    exact h
theorem xor64 {a s : Nat} (ha : a < 64) (hs : s < 64) : a ^^^ s < 64 := Nat.xor_lt_two_pow (n := 6) ha hs
theorem pow64 {n s : Nat} (hn : n ≤ 6) (hs : s < 2 ^ n) : s < 64 := pow_le64 hn hs
theorem jn_congr {S : sT} {n last : Nat} {kd bd V W : Nat → Nat} (h : jn S n last kd bd V) (e0 : W 0 = V 0) (e1 : W 1 = V 1) (e3 : ∀ i, i < n → W (3 + i) = V (3 + i)) : jn S n last kd bd W := by
  obtain ⟨a1, a2, a3, a4⟩ := h
  refine ⟨a1, a2, by rw [e1]; exact a3, fun i hi => ⟨(a4 i hi).1, fun m hm => ?_⟩⟩
  rw [e0, e3 i hi]
  exact (a4 i hi).2 m hm
theorem set2 (V : Nat → Nat) (a : Nat) : setV V 2 a 0 = V 0 ∧ setV V 2 a 1 = V 1 ∧ setV V 2 a 2 = a ∧ ∀ i, setV V 2 a (3 + i) = V (3 + i) := by
  refine ⟨rfl, rfl, rfl, fun i => ?_⟩
  unfold setV
  rw [if_neg (by omega)]
theorem okW_set2 {n : Nat} {kd bd V : Nat → Nat} (hW : okW n kd bd V) {a : Nat} (ha : a < 64) : okW n kd bd (setV V 2 a) := by
  obtain ⟨e0, e1, e2, e3⟩ := set2 V a
  refine ⟨hW.1, fun i hi => ⟨(hW.2.1 i hi).1, (hW.2.1 i hi).2.1, by rw [e3]; exact (hW.2.1 i hi).2.2⟩, by rw [e0]; exact hW.2.2.1, by rw [e1]; exact hW.2.2.2.1, by rw [e2]; exact ha⟩
/-- a ride with others asleep -/
theorem q_rideA {S : sT} {n last : Nat} {kd bd V : Nat → Nat} (hJ : jn S n last kd bd V) (hW : okW n kd bd V) (hl : V 1 ≤ last) (hl20 : last ≤ 20) (h0 : V 0 ≤ 800) {a : Nat} (ha : a < 64) {mn : Nat} (hmn : mn ≤ 60) (Q : Int32 → sT → Prop) (h : ∀ S' : sT, offJ S S' → jn S' n last kd bd V → (∀ m, m ≤ mn → vA S' 113 m = nI (it n last kd bd (setV V 2 a) m 1)) → Q (nI (it n last kd bd (setV V 2 a) mn 1)) S') : wp_X0_ride (nI mn) (nI a) S Q := by
  obtain ⟨e0, e1, e2, e3⟩ := set2 V a
  have hJ' : jn S n last kd bd (setV V 2 a) := jn_congr hJ e0 e1 (fun i _ => e3 i)
  have h9 := q_ride hJ' (okW_set2 hW ha) (by rw [e1]; exact hl) hl20 (by rw [e0]; exact h0) hmn Q (fun S' o j _ _ ht => h S' o (jn_congr j e0.symm e1.symm (fun i _ => (e3 i).symm)) ht)
  rw [e2] at h9
  exact h9
/-- so many minutes on, with others asleep, in the reference -/
theorem onR_set2 {S : sT} {n last : Nat} {kd bd V : Nat → Nat} (hR : onR S 15 n last kd bd V) (a : Nat) {F : Nat → Int32} (hF : F = upd (vA S 15) 2 (nI a)) : onR (uA S 15 F) 15 n last kd bd (setV V 2 a) := by
  refine ⟨hR.1, hR.2.1, hR.2.2.1, fun i hi => ?_⟩
  rw [vA_uA, hF]
  simp only [up]
  unfold setV
  by_cases c : i = 2
  · rw [if_pos c, if_pos c]
  · rw [if_neg c, if_neg c]
    exact hR.2.2.2 i hi
theorem q_pbA {S : sT} {n last : Nat} {kd bd V : Nat → Nat} (hR : onR S 15 n last kd bd V) (hW : okW n kd bd V) (hl : V 1 ≤ last) (hl20 : last ≤ 20) (h0 : V 0 ≤ 800) {a : Nat} (ha : a < 64) {m : Nat} (hm : m ≤ 100) (Q : Int32 → sT → Prop) (h : ∀ F, onR (uA S 15 F) 15 n last kd bd (it n last kd bd (setV V 2 a) m) → Q (nI (it n last kd bd (setV V 2 a) m 1)) (uA S 15 F)) : wp_X5_placeBehind (nI m) (uA S 15 (upd (vA S 15) 2 (nI a))) Q := by
  obtain ⟨e0, e1, e2, e3⟩ := set2 V a
  refine q_placeBehind (onR_set2 hR a rfl) (okW_set2 hW ha) (by rw [e1]; exact hl) hl20 (by rw [e0]; exact h0) hm Q (fun F hF => ?_)
  rw [uA_uA] at hF ⊢
  exact h F hF
/-! in time -/
def inF (n last : Nat) (kd bd V : Nat → Nat) (left s : Nat) (o : Option Nat) : Option Nat :=
  if prt s (V 2) = true ∧ (∀ b, o = some b → pc s < pc b) ∧ it n last kd bd (setV V 2 (V 2 ^^^ s)) left 1 = last then some s else o
theorem inF_s {n last : Nat} {kd bd V : Nat → Nat} {left i : Nat} {o : Option Nat} (ho : o = fo (inF n last kd bd V left) none i) : fo (inF n last kd bd V left) none (i + 1) = if prt i (V 2) = true ∧ (∀ b, o = some b → pc i < pc b) ∧ it n last kd bd (setV V 2 (V 2 ^^^ i)) left 1 = last then some i else o := by
  rw [ho]
  rfl
theorem inF_lt (n last : Nat) (kd bd V : Nat → Nat) (left : Nat) : ∀ e b, fo (inF n last kd bd V left) none e = some b → b < e
  | 0, b, h => by exact absurd h (by simp [fo])
  | e + 1, b, h => by
    have h2 : inF n last kd bd V left e (fo (inF n last kd bd V left) none e) = some b := h
    unfold inF at h2
    split at h2
    · have := Option.some.inj h2; omega
    · have := inF_lt n last kd bd V left e b h2; omega
def enO (o : Option Nat) : Int32 × Int32 := match o with
  | none => (-9, 0)
  | some b => (nI (pc b), nI b)
def enR (o : Option Nat) : Int32 := match o with
  | none => -9
  | some b => nI b
theorem nne9 {z : Nat} (hz : z < 2 ^ 31) : ¬ nI z = -9 := fun e => by
  have h := nI_pos hz
  rw [e] at h
  exact h (by decide)
theorem wl_in_s (Q : Int32 → sT → Prop) (f : Nat) (x1 x2 x3 x4 : Int32) (S : sT) : wl_X4_intime_52 Q (f + 1) x1 x2 x3 x4 S = wb_X4_intime_52 Q (fun x1 x2 x3 x4 S => wl_X4_intime_52 Q f x1 x2 x3 x4 S) x1 x2 x3 x4 S := rfl
theorem wl_inR_s (Q : Int32 → sT → Prop) (f : Nat) (x1 x2 x3 : Int32) (S : sT) : wl_X5_intime_44 Q (f + 1) x1 x2 x3 S = wb_X5_intime_44 Q (fun x1 x2 x3 S => wl_X5_intime_44 Q f x1 x2 x3 S) x1 x2 x3 S := rfl
theorem st_intime_ok : st_intime Inv := by
  intro C R hI
  obtain ⟨n, last, due, kd, bd, d, V, hN⟩ := IN_of hI
  obtain ⟨hL, hW, hl, hl20, h99, hV, hn, hd, hdue, c28, c32, hR, r11, r17⟩ := IN_line hN
  have en : nI n = 0 ↔ n = 0 := nI_eq (b := 0) (by omega) (by decide)
  have hV2 := hW.2.2.2.2
  have p64 : 2 ^ n ≤ 2 ^ 6 := Nat.pow_le_pow_right (by decide) hn
  have gR : ∀ Q : Int32 → sT → Prop, (¬ n = 0 → ∃ f : Nat, wl_X5_intime_44 Q f (nI (due - V 0)) (-9) 0 R) → (n = 0 → Q (-4) R) → wp_X5_intime R Q := by
    intro Q a1 a2
    unfold wp_X5_intime wb_X5_intime_38
    rw [hR.1, en, r11, show (0 : Int32).toNatClampNeg = 0 from rfl, hR.2.2.2 0 (by omega), nI_leI (by omega) (by omega)]
    refine ⟨fun e0 => ⟨vp_in_nI (n := 0) (by decide) (by decide), fun c => ?_, fun c => ⟨vp_in_nI (n := 0) (by decide) (by decide), ?_⟩⟩, a2⟩
    · have h9 := a1 e0
      rw [show due - V 0 = 0 by omega] at h9
      exact h9
    · rw [pk_sub (by omega)]
      exact a1 e0
  unfold wp_X4_intime
  rw [show vI C 26 = nI n from hL.1, en, c28, show vI C 30 = nI (V 0) from hL.2.2.2.1]
  refine ⟨fun e0 z ez => ?_, fun e0 => gR _ (fun h9 => absurd e0 h9) (fun _ => ⟨rfl, hI⟩)⟩
  have ez' : z = nI (due - V 0) := by
    rw [ez]
    by_cases c : V 0 ≤ due
    · rw [pk_sub c]
      by_cases c2 : due - V 0 = 0
      · rw [c2]; rfl
      · rw [if_pos (show (0 : Int32) < nI (due - V 0) from nI_lt (a := 0) (by omega) (by omega))]
    · have h9 := pk_sneg (a := due) (b := V 0) (by omega) (by omega)
      rw [if_neg (by grind), show due - V 0 = 0 by omega]
      rfl
  rw [ez']
  clear ez ez'
  refine q_setOut hL hW _ (fun S1 o1 j1 => ?_)
  have main := pk_loop (fun f i (x : Option Nat × sT) => wl_X4_intime_52 (fun r SC1 => wp_X5_intime R (fun r2 SR1 => r = r2 ∧ Inv SC1 SR1)) f (nI (due - V 0)) (enO x.1).1 (enO x.1).2 (nI i) x.2) (fun i x => x.1 = fo (inF n last kd bd V (due - V 0)) none i ∧ offJ C x.2 ∧ jn x.2 n last kd bd V) (2 ^ n) 0 (none, S1) (Nat.zero_le _) ⟨rfl, o1, j1⟩ ?_ ?_
  · exact main
  · intro f ⟨o, S⟩ ⟨hx, oS, hj⟩
    show wl_X4_intime_52 _ (f + 1) (nI (due - V 0)) (enO o).1 (enO o).2 (nI (2 ^ n)) S
    rw [wl_in_s]
    unfold wb_X4_intime_52 wp_X1_setCount
    rw [show vI S (20 + 13 * 0 + 6) = nI n from (line_J hL oS).1, pow_tab n hn]
    have fin : ∀ (r : Int32) (S' : sT), (o = none → r = -9 ∧ S' = S) → (∀ b, o = some b → r = nI (pc b) ∧ S' = uI S 13 (nI b)) → wp_X5_intime R (fun r2 SR1 => r = r2 ∧ Inv S' SR1) := by
      intro r S' f1 f2
      refine gR _ (fun _ => ?_) (fun h9 => absurd h9 e0)
      have main2 := pk_loop (fun f i (x : Option Nat × (Nat → Int32)) => wl_X5_intime_44 (fun r2 SR1 => r = r2 ∧ Inv S' SR1) f (nI (due - V 0)) (enR x.1) (nI i) (uA R 15 x.2)) (fun i x => x.1 = fo (inF n last kd bd V (due - V 0)) none i) (2 ^ n) 0 (none, vA R 15) (Nat.zero_le _) rfl ?_ ?_
      · obtain ⟨f, hf⟩ := main2
        rw [uA_id] at hf
        exact ⟨f, hf⟩
      · intro f ⟨o', F⟩ hx'
        show wl_X5_intime_44 _ (f + 1) (nI (due - V 0)) (enR o') (nI (2 ^ n)) (uA R 15 F)
        rw [wl_inR_s]
        unfold wb_X5_intime_44
        have e9 : vI (uA R 15 F) 9 = nI n := hR.1
        rw [e9, pow_tab n hn]
        refine yes (nI_le (Nat.le_refl _) (by omega)) ?_
        have eo : o' = o := hx'.trans hx.symm
        rw [eo]
        have hI' : Inv S (uA R 15 F) := inv_K hI (offK_of oS) (offA_uA (offA_refl R) 15 (by omega) F)
        cases ho : o with
        | none =>
          obtain ⟨g1, g2⟩ := f1 ho
          refine yes' rfl ⟨g1, ?_⟩
          rw [g2]
          exact hI'
        | some b =>
          obtain ⟨g1, g2⟩ := f2 b ho
          have hb := inF_lt n last kd bd V (due - V 0) (2 ^ n) b (hx.symm.trans ho)
          refine no' (nne9 (z := b) (by omega)) (q_bits (a := b) (by omega) _ _ ⟨g1, ?_⟩)
          rw [g2]
          exact inv_told hI' _
      · intro f i ⟨o', F⟩ hi hx' ih
        show wl_X5_intime_44 _ (f + 1) (nI (due - V 0)) (enR o') (nI i) (uA R 15 F)
        rw [wl_inR_s]
        unfold wb_X5_intime_44 wb_X5_intime_84 wb_X5_intime_115 wb_X5_intime_116
        have e9 : vI (uA R 15 F) 9 = nI n := hR.1
        have e14 : vA (uA R 15 F) 14 2 = nI (V 2) := hR.2.2.2 2 (by omega)
        rw [e9, pow_tab n hn, show (2 : Int32).toNatClampNeg = 2 from rfl, e14]
        have nx : ∀ (o9 : Option Nat) (G : Nat → Int32), o9 = fo (inF n last kd bd V (due - V 0)) none (i + 1) → wl_X5_intime_44 (fun r2 SR1 => r = r2 ∧ Inv S' SR1) f (nI (due - V 0)) (enR o9) (nI i + 1) (uA R 15 G) := by
          intro o9 G h9
          have h8 := ih (o9, G) h9
          rw [← nI_1] at h8
          exact h8
        have hstep : fo (inF n last kd bd V (due - V 0)) none (i + 1) = if prt i (V 2) = true ∧ (∀ b, o' = some b → pc i < pc b) ∧ it n last kd bd (setV V 2 (V 2 ^^^ i)) (due - V 0) 1 = last then some i else o' := inF_s hx'
        have go1 : prt i (V 2) = true → (∀ b, o' = some b → pc i < pc b) → wp_X5_layAside (uA R 15 F) (fun S_1 => (vp_in (2 : Int32) 9) ∧ (vp_in (2 : Int32) 9) ∧ wp_X5_placeBehind (nI (due - V 0)) (uA S_1 15 (upd (vA S_1 15) 2 ((vA S_1 15 2) ^^^ nI i))) (fun r_4 S_4 => ((¬ r_4 = (vI S_4 10) → (fun x1 x2 x3 S => wl_X5_intime_44 (fun r2 SR1 => r = r2 ∧ Inv S' SR1) f x1 x2 x3 S) (nI (due - V 0)) (enR o') (nI i + 1) S_4) ∧ (r_4 = (vI S_4 10) → (fun x1 x2 x3 S => wl_X5_intime_44 (fun r2 SR1 => r = r2 ∧ Inv S' SR1) f x1 x2 x3 S) (nI (due - V 0)) (nI i) (nI i + 1) S_4)))) := by
          intro hp hq
          have hR2 : onR (uA R 15 F) 14 n last kd bd V := hR
          refine q_layAside hR2 hn _ (fun G hG => ⟨vp_in_nI (n := 2) (by decide) (by decide), vp_in_nI (n := 2) (by decide) (by decide), ?_⟩)
          rw [hG.2.2.2 2 (by omega), (prt_tab (V 2) hV2 i (by omega) hp).2]
          refine q_pbA hG hW hl hl20 (by omega) (xor64 hV2 (by omega)) (by omega) _ (fun H hH => ?_)
          have hle := (it_ok (okW_set2 hW (xor64 hV2 (show i < 64 by omega))) hl hl20 (show V 0 ≤ 800 by omega) (due - V 0) (by omega)).2
          rw [hH.2.1, nI_eq (by omega) (by omega), uA_uA, uA_uA]
          refine ⟨fun c => nx o' H ?_, fun c => nx (some i) H ?_⟩
          · rw [hstep, if_neg (fun h9 => c h9.2.2)]
          · rw [hstep, if_pos ⟨hp, hq, c⟩]
        refine no (nI_ge hi (by omega)) ⟨vp_in_nI (n := 2) (by decide) (by decide), fun c => ?_, fun c => ⟨fun c2 => ?_, fun c2 => ?_⟩⟩
        · refine nx o' F ?_
          rw [hstep, if_neg]
          intro h9
          exact c (of_decide_eq_true h9.1)
        · have ho' : o' = none := by
            cases ho : o' with
            | none => rfl
            | some b =>
              rw [ho] at c2
              have hb := inF_lt n last kd bd V (due - V 0) i b (hx'.symm.trans ho)
              exact absurd c2 (nne9 (z := b) (by omega))
          refine go1 (decide_eq_true c) (fun b hb => ?_)
          rw [ho'] at hb
          exact absurd hb (by simp)
        · obtain ⟨b, ho⟩ : ∃ b, o' = some b := by
            cases ho : o' with
            | none => rw [ho] at c2; exact absurd rfl c2
            | some b => exact ⟨b, rfl⟩
          have hb : b < i := inF_lt n last kd bd V (due - V 0) i b (hx'.symm.trans ho)
          have eo : enR o' = nI b := by rw [ho]; rfl
          refine q_bits (a := i) (by omega) _ _ ?_
          rw [eo]
          refine q_bits (a := b) (by omega) _ _ ?_
          have l1 := pc_le i
          have l2 := pc_le b
          rw [nI_leI (by omega) (by omega)]
          refine ⟨fun c3 => ?_, fun c3 => ?_⟩
          · rw [← eo]
            refine nx o' F ?_
            rw [hstep, if_neg]
            intro h9
            have := h9.2.1 b ho
            omega
          · rw [← eo]
            refine go1 (decide_eq_true c) (fun b' hb' => ?_)
            rw [ho] at hb'
            have := Option.some.inj hb'
            rw [← this]
            omega
    refine yes (nI_le (Nat.le_refl _) (by omega)) ?_
    cases ho : o with
    | none => exact yes rfl (fin _ _ (fun _ => ⟨rfl, rfl⟩) (fun b hb => by rw [ho] at hb; exact absurd hb (by simp)))
    | some b =>
      have hb := pc_le b
      refine no (nne9 (z := pc b) (by omega)) (fin _ _ (fun h9 => by rw [ho] at h9; exact absurd h9 (by simp)) (fun b' hb' => ?_))
      rw [ho] at hb'
      have := Option.some.inj hb'
      rw [← this]
      exact ⟨rfl, rfl⟩
  · intro f i ⟨o, S⟩ hi ⟨hx, oS, hj⟩ ih
    show wl_X4_intime_52 _ (f + 1) (nI (due - V 0)) (enO o).1 (enO o).2 (nI i) S
    rw [wl_in_s]
    unfold wb_X4_intime_52 wp_X1_setCount
    rw [show vI S (20 + 13 * 0 + 6) = nI n from (line_J hL oS).1, pow_tab n hn]
    have hstep : fo (inF n last kd bd V (due - V 0)) none (i + 1) = if prt i (V 2) = true ∧ (∀ b, o = some b → pc i < pc b) ∧ it n last kd bd (setV V 2 (V 2 ^^^ i)) (due - V 0) 1 = last then some i else o := inF_s hx
    refine no (nI_ge hi (by omega)) (q_bitCount (a := i) (by omega) S _ ?_)
    rw [show vI S 29 = nI (V 2) from (line_J hL oS).2.2.1]
    have nx : ∀ (o9 : Option Nat) (S9 : sT), o9 = fo (inF n last kd bd V (due - V 0)) none (i + 1) → offJ C S9 → jn S9 n last kd bd V → wl_X4_intime_52 (fun r SC1 => wp_X5_intime R (fun r2 SR1 => r = r2 ∧ Inv SC1 SR1)) f (nI (due - V 0)) (enO o9).1 (enO o9).2 (nI i + 1) S9 := by
      intro o9 S9 h9 h8 h7
      have h6 := ih (o9, S9) ⟨h9, h8, h7⟩
      rw [← nI_1] at h6
      exact h6
    have go1 : prt i (V 2) = true → (∀ b, o = some b → pc i < pc b) → wb_X4_intime_98 (fun r SC1 => wp_X5_intime R (fun r2 SR1 => r = r2 ∧ Inv SC1 SR1)) (fun x1 x2 x3 x4 S => wl_X4_intime_52 (fun r SC1 => wp_X5_intime R (fun r2 SR1 => r = r2 ∧ Inv SC1 SR1)) f x1 x2 x3 x4 S) (nI (due - V 0)) (enO o).1 (enO o).2 (nI i) (nI (pc i)) S := by
      intro hp hq
      unfold wb_X4_intime_98 wb_X4_intime_134
      rw [show vI S 29 = nI (V 2) from (line_J hL oS).2.2.1, (prt_tab (V 2) hV2 i (by omega) hp).1]
      refine q_rideA hj hW hl hl20 (by omega) (xor64 hV2 (by omega)) (by omega) _ (fun S2 o2 j2 ht => ?_)
      have oS2 := offJ_trans oS o2
      have hle := (it_ok (okW_set2 hW (xor64 hV2 (show i < 64 by omega))) hl hl20 (show V 0 ≤ 800 by omega) (due - V 0) (by omega)).2
      rw [show vI S2 27 = nI last from (line_J hL oS2).2.1, nI_eq (by omega) (by omega)]
      refine ⟨fun c => nx o S2 ?_ oS2 j2, fun c => nx (some i) S2 ?_ oS2 j2⟩
      · rw [hstep, if_neg (fun h9 => c h9.2.2)]
      · rw [hstep, if_pos ⟨hp, hq, c⟩]
    refine q_isPart i (V 2) S _ (cy (fun e => ?_) (fun e => ?_))
    · unfold wb_X4_intime_134
      refine nx o S ?_ oS hj
      rw [hstep, if_neg]
      intro h9
      rw [e] at h9
      exact absurd h9.1 (by decide)
    · cases ho : o with
      | none =>
        have g := go1 e (fun b hb => by rw [ho] at hb; exact absurd hb (by simp))
        rw [ho] at g
        exact yes rfl g
      | some b =>
        have hb := pc_le b
        have hi6 := pc_le i
        refine no (nne9 (z := pc b) (by omega)) ?_
        show (nI (pc b) ≤ nI (pc i) → _) ∧ (¬ nI (pc b) ≤ nI (pc i) → _)
        rw [nI_leI (by omega) (by omega)]
        refine ⟨fun c => ?_, fun c => ?_⟩
        · unfold wb_X4_intime_134
          have g := nx o S (by
            rw [hstep, if_neg]
            intro h9
            have := h9.2.1 b ho
            omega) oS hj
          rw [ho] at g
          exact g
        · have g := go1 e (fun b' hb' => by
            rw [ho] at hb'
            have := Option.some.inj hb'
            rw [← this]
            omega)
          rw [ho] at g
          exact g
