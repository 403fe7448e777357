abbrev rm_X4_toldCount : Room := { frames := 4, cells := 0, slots := 0, locals := 85 }
def wp_X4_toldCount (x1 : Int32) (S : sT) (Q : Int32 → sT → Prop) : Prop :=
  ((x1 = (0 : Int32) → Q (vI S 26) S) ∧ (x1 = (1 : Int32) → Q (vI S 27) S) ∧ (x1 = (2 : Int32) → Q (vI S 32) S) ∧ (x1 = (3 : Int32) → Q (vI S 30) S) ∧ (x1 = (4 : Int32) → Q (vI S 31) S) ∧ (x1 = (5 : Int32) → Q (vI S 29) S) ∧ (x1 = (6 : Int32) → wp_X1_dreamers 0 S (fun r_8 S_8 => Q r_8 S_8)) ∧ (x1 = (7 : Int32) → Q (vI S 28) S) ∧ (x1 = (8 : Int32) → wp_X3_howMany 0 S (fun r_11 S_11 => Q r_11 S_11)) ∧ (x1 = (9 : Int32) → wp_X3_howMany 1 S (fun r_13 S_13 => Q r_13 S_13)) ∧ (x1 = (10 : Int32) → wp_X4_keptCount S (fun r_15 S_15 => Q r_15 S_15)) ∧ (¬ x1 = (0 : Int32) → ¬ x1 = (1 : Int32) → ¬ x1 = (2 : Int32) → ¬ x1 = (3 : Int32) → ¬ x1 = (4 : Int32) → ¬ x1 = (5 : Int32) → ¬ x1 = (6 : Int32) → ¬ x1 = (7 : Int32) → ¬ x1 = (8 : Int32) → ¬ x1 = (9 : Int32) → ¬ x1 = (10 : Int32) → wp_X1_cheeseEaters 0 S (fun r_1 S_1 => Q r_1 S_1)))
set_option maxHeartbeats 4000000 in
set_option maxRecDepth 100000 in
theorem bk_X4_toldCount {p : Program} {l : Launch} {e : Env} {s : State} {m : MethodId} {args : Array Value} {below : List Frame} {meth : Method} {c : Code} {Z : State → Prop} {D : va_G} {cA : Nat → ClassId} {h : Nat → Nat} {Q : Int32 → sT → Prop} (C0 : cx p s m args c cX4_toldCount 2 RX4 D cA true keysC h) (hret : rtI p l e rm_X4_toldCount s m args below meth c cX4_toldCount Z D (wC h cA) (aK keysC h s.heap.size) Q) {x1 : Int32} {S : sT} {H : Heap} {locs : List Loc} {ls : Array Slot} (hP : va_P D vwCl (wC h cA S) H) (hS : va_S (aK keysC h s.heap.size) s.heap H locs) (hd : wp_X4_toldCount x1 S Q) (hl : lv_has ls 2 [(0, .ref (h 1000)), (1, .int x1)]) : W p l e rm_X4_toldCount s m args below meth c H locs 0 0 Z (F0 m 0 ls []) := by
  obtain ⟨⟨hx, hb, hml, hown, hts⟩, hK, -, -⟩ := id C0
  unfold wp_X4_toldCount at hd
  refine lv_iload_n hx hb dX4_toldCount_0 rfl (lv_at hl 1 rfl) ?_
  by_cases hq2 : x1 = (0 : Int32)
  · have hd := hd.1 hq2
    refine lv_tableIn (off := 59) (tgt := 60) hx hb dX4_toldCount_1 (by rw [hq2]; decide) (by rw [hq2]; decide) (by rw [hq2]; decide) (by decide) ?_
    refine lv_aload_n hx hb dX4_toldCount_60 rfl (lv_at hl 0 rfl) ?_
    refine gf_X4_24 C0 hP dX4_toldCount_61 ?_
    refine gf_X4_129_0 C0 hP dX4_toldCount_64 ?_
    exact hret _ _ _ _ _ _ hd hP hS dX4_toldCount_67
  by_cases hq3 : x1 = (1 : Int32)
  · have hd := hd.2.1 hq3
    refine lv_tableIn (off := 67) (tgt := 68) hx hb dX4_toldCount_1 (by rw [hq3]; decide) (by rw [hq3]; decide) (by rw [hq3]; decide) (by decide) ?_
    refine lv_aload_n hx hb dX4_toldCount_68 rfl (lv_at hl 0 rfl) ?_
    refine gf_X4_24 C0 hP dX4_toldCount_69 ?_
    refine gf_X4_205_0 C0 hP dX4_toldCount_72 ?_
    exact hret _ _ _ _ _ _ hd hP hS dX4_toldCount_75
  by_cases hq4 : x1 = (2 : Int32)
  · have hd := hd.2.2.1 hq4
    refine lv_tableIn (off := 75) (tgt := 76) hx hb dX4_toldCount_1 (by rw [hq4]; decide) (by rw [hq4]; decide) (by rw [hq4]; decide) (by decide) ?_
    refine lv_aload_n hx hb dX4_toldCount_76 rfl (lv_at hl 0 rfl) ?_
    refine gf_X4_24 C0 hP dX4_toldCount_77 ?_
    refine gf_X4_187_0 C0 hP dX4_toldCount_80 ?_
    exact hret _ _ _ _ _ _ hd hP hS dX4_toldCount_83
  by_cases hq5 : x1 = (3 : Int32)
  · have hd := hd.2.2.2.1 hq5
    refine lv_tableIn (off := 83) (tgt := 84) hx hb dX4_toldCount_1 (by rw [hq5]; decide) (by rw [hq5]; decide) (by rw [hq5]; decide) (by decide) ?_
    refine lv_aload_n hx hb dX4_toldCount_84 rfl (lv_at hl 0 rfl) ?_
    refine gf_X4_24 C0 hP dX4_toldCount_85 ?_
    refine gf_X4_162_0 C0 hP dX4_toldCount_88 ?_
    exact hret _ _ _ _ _ _ hd hP hS dX4_toldCount_91
  by_cases hq6 : x1 = (4 : Int32)
  · have hd := hd.2.2.2.2.1 hq6
    refine lv_tableIn (off := 91) (tgt := 92) hx hb dX4_toldCount_1 (by rw [hq6]; decide) (by rw [hq6]; decide) (by rw [hq6]; decide) (by decide) ?_
    refine lv_aload_n hx hb dX4_toldCount_92 rfl (lv_at hl 0 rfl) ?_
    refine gf_X4_24 C0 hP dX4_toldCount_93 ?_
    refine gf_X4_171_0 C0 hP dX4_toldCount_96 ?_
    exact hret _ _ _ _ _ _ hd hP hS dX4_toldCount_99
  by_cases hq7 : x1 = (5 : Int32)
  · have hd := hd.2.2.2.2.2.1 hq7
    refine lv_tableIn (off := 99) (tgt := 100) hx hb dX4_toldCount_1 (by rw [hq7]; decide) (by rw [hq7]; decide) (by rw [hq7]; decide) (by decide) ?_
    refine lv_aload_n hx hb dX4_toldCount_100 rfl (lv_at hl 0 rfl) ?_
    refine gf_X4_24 C0 hP dX4_toldCount_101 ?_
    refine gf_X4_196_0 C0 hP dX4_toldCount_104 ?_
    exact hret _ _ _ _ _ _ hd hP hS dX4_toldCount_107
  by_cases hq9 : x1 = (6 : Int32)
  · have hd := hd.2.2.2.2.2.2.1 hq9
    refine lv_tableIn (off := 107) (tgt := 108) hx hb dX4_toldCount_1 (by rw [hq9]; decide) (by rw [hq9]; decide) (by rw [hq9]; decide) (by decide) ?_
    refine lv_aload_n hx hb dX4_toldCount_108 rfl (lv_at hl 0 rfl) ?_
    refine gf_X4_24 C0 hP dX4_toldCount_109 ?_
    refine cl_VNi (n := 0) (rest := []) C0 hP hS (c_X1_dreamers l C0.2.2.1 (by decide) _ hd) (lwG_C lc_X1_dreamers) (by decide +kernel : (RX4, 322, yX1_dreamers, "DreamTrain") ∈ nestM) lz_RX1 li_X1_dreamers lx_X1_dreamers (by decide +kernel) (oL_at h cA _ 0 (by decide)) rfl rfl rfl (Nat.le_of_ble_eq_true rfl) ⟨rfl, rfl⟩ ⟨by decide, by decide⟩ dX4_toldCount_112 hl.1 ⟨Nat.zero_le _, Nat.zero_le _⟩ (fun r_8 S_8 H locs hd hP hS => ?_)
    exact hret _ _ _ _ _ _ hd hP hS dX4_toldCount_115
  by_cases hq10 : x1 = (7 : Int32)
  · have hd := hd.2.2.2.2.2.2.2.1 hq10
    refine lv_tableIn (off := 115) (tgt := 116) hx hb dX4_toldCount_1 (by rw [hq10]; decide) (by rw [hq10]; decide) (by rw [hq10]; decide) (by decide) ?_
    refine lv_aload_n hx hb dX4_toldCount_116 rfl (lv_at hl 0 rfl) ?_
    refine gf_X4_24 C0 hP dX4_toldCount_117 ?_
    refine gf_X4_214_0 C0 hP dX4_toldCount_120 ?_
    exact hret _ _ _ _ _ _ hd hP hS dX4_toldCount_123
  by_cases hq12 : x1 = (8 : Int32)
  · have hd := hd.2.2.2.2.2.2.2.2.1 hq12
    refine lv_tableIn (off := 123) (tgt := 124) hx hb dX4_toldCount_1 (by rw [hq12]; decide) (by rw [hq12]; decide) (by rw [hq12]; decide) (by decide) ?_
    refine lv_aload_n hx hb dX4_toldCount_124 rfl (lv_at hl 0 rfl) ?_
    refine gf_X4_14 C0 hP dX4_toldCount_125 ?_
    refine cl_VNi (n := 0) (rest := []) C0 hP hS (c_X3_howMany l C0.2.2.1 (by decide) _ hd) (lwG_C lc_X3_howMany) (by decide +kernel : (RX4, 325, yX3_howMany, "DreamTrain") ∈ nestM) lz_RX3 li_X3_howMany lx_X3_howMany (by decide +kernel) (oS_at h cA _ 0 (by decide)) rfl rfl rfl (Nat.le_of_ble_eq_true rfl) ⟨rfl, rfl⟩ ⟨by decide, by decide⟩ dX4_toldCount_128 hl.1 ⟨Nat.zero_le _, Nat.zero_le _⟩ (fun r_11 S_11 H locs hd hP hS => ?_)
    exact hret _ _ _ _ _ _ hd hP hS dX4_toldCount_131
  by_cases hq14 : x1 = (9 : Int32)
  · have hd := hd.2.2.2.2.2.2.2.2.2.1 hq14
    refine lv_tableIn (off := 131) (tgt := 132) hx hb dX4_toldCount_1 (by rw [hq14]; decide) (by rw [hq14]; decide) (by rw [hq14]; decide) (by decide) ?_
    refine lv_aload_n hx hb dX4_toldCount_132 rfl (lv_at hl 0 rfl) ?_
    refine gf_X4_18 C0 hP dX4_toldCount_133 ?_
    refine cl_VNi (n := 0) (rest := []) C0 hP hS (c_X3_howMany l C0.2.2.1 (by decide) _ hd) (lwG_C lc_X3_howMany) (by decide +kernel : (RX4, 325, yX3_howMany, "DreamTrain") ∈ nestM) lz_RX3 li_X3_howMany lx_X3_howMany (by decide +kernel) (oS_at h cA _ 1 (by decide)) rfl rfl rfl (Nat.le_of_ble_eq_true rfl) ⟨rfl, rfl⟩ ⟨by decide, by decide⟩ dX4_toldCount_136 hl.1 ⟨Nat.zero_le _, Nat.zero_le _⟩ (fun r_13 S_13 H locs hd hP hS => ?_)
    exact hret _ _ _ _ _ _ hd hP hS dX4_toldCount_139
  by_cases hq16 : x1 = (10 : Int32)
  · have hd := hd.2.2.2.2.2.2.2.2.2.2.1 hq16
    refine lv_tableIn (off := 139) (tgt := 140) hx hb dX4_toldCount_1 (by rw [hq16]; decide) (by rw [hq16]; decide) (by rw [hq16]; decide) (by decide) ?_
    refine lv_aload_n hx hb dX4_toldCount_140 rfl (lv_at hl 0 rfl) ?_
    refine cl_Vi (n := 0) (rest := []) C0 hP hS (c_X4_keptCount l C0.2.2.1 _ hd) (lwG_V lm_X4_328 li_X4_keptCount lx_X4_keptCount lz_RX4 lc_X4_keptCount) (by decide +kernel) (oD_at h cA _) rfl rfl rfl (Nat.le_of_ble_eq_true rfl) ⟨rfl, rfl⟩ ⟨by decide, by decide⟩ dX4_toldCount_141 hl.1 ⟨Nat.zero_le _, Nat.zero_le _⟩ (fun r_15 S_15 H locs hd hP hS => ?_)
    exact hret _ _ _ _ _ _ hd hP hS dX4_toldCount_144
  have hd := hd.2.2.2.2.2.2.2.2.2.2.2 hq2 hq3 hq4 hq5 hq6 hq7 hq9 hq10 hq12 hq14 hq16
  refine lv_tableOut (tgt := 145) hx hb dX4_toldCount_1 (sw_out 0 10 (by decide) (by decide) (fun v h1 h2 => by rcases (show v = 0 ∨ v = 1 ∨ v = 2 ∨ v = 3 ∨ v = 4 ∨ v = 5 ∨ v = 6 ∨ v = 7 ∨ v = 8 ∨ v = 9 ∨ v = 10 by omega) with rfl | rfl | rfl | rfl | rfl | rfl | rfl | rfl | rfl | rfl | rfl <;> assumption)) (by decide) ?_
  refine lv_aload_n hx hb dX4_toldCount_145 rfl (lv_at hl 0 rfl) ?_
  refine gf_X4_24 C0 hP dX4_toldCount_146 ?_
  refine cl_VNi (n := 0) (rest := []) C0 hP hS (c_X1_cheeseEaters l C0.2.2.1 (by decide) _ hd) (lwG_C lc_X1_cheeseEaters) (by decide +kernel : (RX4, 331, yX1_cheeseEaters, "DreamTrain") ∈ nestM) lz_RX1 li_X1_cheeseEaters lx_X1_cheeseEaters (by decide +kernel) (oL_at h cA _ 0 (by decide)) rfl rfl rfl (Nat.le_of_ble_eq_true rfl) ⟨rfl, rfl⟩ ⟨by decide, by decide⟩ dX4_toldCount_149 hl.1 ⟨Nat.zero_le _, Nat.zero_le _⟩ (fun r_1 S_1 H locs hd hP hS => ?_)
  exact hret _ _ _ _ _ _ hd hP hS dX4_toldCount_152
theorem c_X4_toldCount (l : Launch) {D : va_G} {cA : Nat → ClassId} {h : Nat → Nat} (hk : ky keysC h) {x1 : Int32} {S : sT} (sz : Nat) {Q : Int32 → sT → Prop} (hd : wp_X4_toldCount x1 S Q) : Met l yX4_toldCount (wsU yX4_toldCount cX4_toldCount 2 (some .int)) rm_X4_toldCount (va_Pc [.ref (h 1000), .int x1] (gP D cA true keysC h (wC h cA) S sz)) (va_Qi Q (wB D (wC h cA)) (aK keysC h sz)) 0 0 (aK keysC h sz) :=
  mk_i (by decide) hk (Nat.le_of_ble_eq_true rfl) (fun p e s m below meth c Z ls C0 hret hP hS hl => bk_X4_toldCount C0 hret hP hS hd hl)
abbrev rm_X4_count : Room := { frames := 5, cells := 0, slots := 0, locals := 106 }
def wp_X4_count (x1 : Int32) (S : sT) (Q : Int32 → sT → Prop) : Prop :=
  wp_X4_isBelow x1 (12 : Int32) S (fun r_1 S_1 => ((r_1 = 0 → Q (-1 : Int32) S_1) ∧ (¬ r_1 = 0 → wp_X4_toldCount x1 S_1 (fun r_2 S_2 => Q r_2 S_2))))
set_option maxHeartbeats 4000000 in
set_option maxRecDepth 100000 in
theorem bk_X4_count {p : Program} {l : Launch} {e : Env} {s : State} {m : MethodId} {args : Array Value} {below : List Frame} {meth : Method} {c : Code} {Z : State → Prop} {D : va_G} {cA : Nat → ClassId} {h : Nat → Nat} {Q : Int32 → sT → Prop} (C0 : cx p s m args c cX4_count 2 RX4 D cA true keysC h) (hret : rtI p l e rm_X4_count s m args below meth c cX4_count Z D (wC h cA) (aK keysC h s.heap.size) Q) {x1 : Int32} {S : sT} {H : Heap} {locs : List Loc} {ls : Array Slot} (hP : va_P D vwCl (wC h cA S) H) (hS : va_S (aK keysC h s.heap.size) s.heap H locs) (hd : wp_X4_count x1 S Q) (hl : lv_has ls 2 [(0, .ref (h 1000)), (1, .int x1)]) : W p l e rm_X4_count s m args below meth c H locs 0 0 Z (F0 m 0 ls []) := by
  obtain ⟨⟨hx, hb, hml, hown, hts⟩, hK, -, -⟩ := id C0
  unfold wp_X4_count at hd
  refine lv_iload_n hx hb dX4_count_0 rfl (lv_at hl 1 rfl) ?_
  refine lv_bipush (v := 12) hx hb dX4_count_1 (by decide) ?_
  refine cl_Si (n := 2) (rest := []) C0 hP hS (c_X4_isBelow l C0.2.2.1 _ hd) (lwG_S lm_X4_132 ls_X4_isBelow lz_RX4 lc_X4_isBelow) (by decide +kernel) rfl rfl (Nat.le_of_ble_eq_true rfl) ⟨rfl, rfl⟩ ⟨by decide, by decide⟩ dX4_count_3 hl.1 ⟨Nat.zero_le _, Nat.zero_le _⟩ (fun r_1 S_1 H locs hd hP hS => ?_)
  refine lv_if_eq (tgt := 17) hx hb dX4_count_6 (by decide) (fun hc => ?_) (fun hc => ?_)
  · have hd := hd.1 hc
    refine lv_iconst (v := (-1)) hx hb dX4_count_17 (by decide) ?_
    exact hret _ _ _ _ _ _ hd hP hS dX4_count_18
  · have hd := hd.2 hc
    refine lv_aload_n hx hb dX4_count_9 rfl (lv_at hl 0 rfl) ?_
    refine lv_iload_n hx hb dX4_count_10 rfl (lv_at hl 1 rfl) ?_
    refine cl_Vi (n := 1) (rest := []) C0 hP hS (c_X4_toldCount l C0.2.2.1 _ hd) (lwG_V lm_X4_290 li_X4_toldCount lx_X4_toldCount lz_RX4 lc_X4_toldCount) (by decide +kernel) (oD_at h cA _) rfl rfl rfl (Nat.le_of_ble_eq_true rfl) ⟨rfl, rfl⟩ ⟨by decide, by decide⟩ dX4_count_11 hl.1 ⟨Nat.zero_le _, Nat.zero_le _⟩ (fun r_2 S_2 H locs hd hP hS => ?_)
    refine lv_goto (tgt := 18) hx hb dX4_count_14 (by decide) ?_
    exact hret _ _ _ _ _ _ hd hP hS dX4_count_18
theorem c_X4_count (l : Launch) {D : va_G} {cA : Nat → ClassId} {h : Nat → Nat} (hk : ky keysC h) {x1 : Int32} {S : sT} (sz : Nat) {Q : Int32 → sT → Prop} (hd : wp_X4_count x1 S Q) : Met l yX4_count (wsU yX4_count cX4_count 2 (some .int)) rm_X4_count (va_Pc [.ref (h 1000), .int x1] (gP D cA true keysC h (wC h cA) S sz)) (va_Qi Q (wB D (wC h cA)) (aK keysC h sz)) 0 0 (aK keysC h sz) :=
  mk_i (by decide) hk (Nat.le_of_ble_eq_true rfl) (fun p e s m below meth c Z ls C0 hret hP hS hl => bk_X4_count C0 hret hP hS hd hl)
abbrev rm_X4_toldOfSleeper : Room := { frames := 2, cells := 0, slots := 0, locals := 47 }
def wp_X4_toldOfSleeper (x1 : Int32) (x2 : Int32) (S : sT) (Q : Int32 → sT → Prop) : Prop :=
  ((x2 = (0 : Int32) → (vp_in x1 6) ∧ Q (vA S 20 x1.toNatClampNeg) S) ∧ (x2 = (1 : Int32) → (vp_in x1 6) ∧ Q (vA S 21 x1.toNatClampNeg) S) ∧ (x2 = (2 : Int32) → (vp_in x1 6) ∧ Q (vA S 22 x1.toNatClampNeg) S) ∧ (x2 = (3 : Int32) → wp_X1_isAsleep 0 x1 S (fun r_9 S_9 => wp_X4_bit r_9 S_9 (fun r_10 S_10 => Q r_10 S_10))) ∧ (¬ x2 = (0 : Int32) → ¬ x2 = (1 : Int32) → ¬ x2 = (2 : Int32) → ¬ x2 = (3 : Int32) → wp_X1_isDreaming 0 x1 S (fun r_1 S_1 => wp_X4_bit r_1 S_1 (fun r_2 S_2 => Q r_2 S_2))))
set_option maxHeartbeats 4000000 in
set_option maxRecDepth 100000 in
theorem bk_X4_toldOfSleeper {p : Program} {l : Launch} {e : Env} {s : State} {m : MethodId} {args : Array Value} {below : List Frame} {meth : Method} {c : Code} {Z : State → Prop} {D : va_G} {cA : Nat → ClassId} {h : Nat → Nat} {Q : Int32 → sT → Prop} (C0 : cx p s m args c cX4_toldOfSleeper 3 RX4 D cA true keysC h) (hret : rtI p l e rm_X4_toldOfSleeper s m args below meth c cX4_toldOfSleeper Z D (wC h cA) (aK keysC h s.heap.size) Q) {x1 : Int32} {x2 : Int32} {S : sT} {H : Heap} {locs : List Loc} {ls : Array Slot} (hP : va_P D vwCl (wC h cA S) H) (hS : va_S (aK keysC h s.heap.size) s.heap H locs) (hd : wp_X4_toldOfSleeper x1 x2 S Q) (hl : lv_has ls 3 [(0, .ref (h 1000)), (1, .int x1), (2, .int x2)]) : W p l e rm_X4_toldOfSleeper s m args below meth c H locs 0 0 Z (F0 m 0 ls []) := by
  obtain ⟨⟨hx, hb, hml, hown, hts⟩, hK, -, -⟩ := id C0
  unfold wp_X4_toldOfSleeper at hd
  refine lv_iload_n hx hb dX4_toldOfSleeper_0 rfl (lv_at hl 2 rfl) ?_
  by_cases hq4 : x2 = (0 : Int32)
  · have hd := hd.1 hq4
    refine lv_tableIn (off := 31) (tgt := 32) hx hb dX4_toldOfSleeper_1 (by rw [hq4]; decide) (by rw [hq4]; decide) (by rw [hq4]; decide) (by decide) ?_
    refine lv_aload_n hx hb dX4_toldOfSleeper_32 rfl (lv_at hl 0 rfl) ?_
    refine gf_X4_24 C0 hP dX4_toldOfSleeper_33 ?_
    refine gf_X4_140_0 C0 hP dX4_toldOfSleeper_36 ?_
    refine lv_iload_n hx hb dX4_toldOfSleeper_39 rfl (lv_at hl 1 rfl) ?_
    obtain ⟨h_3, hd⟩ := hd
    refine ldC (by decide) C0 hP h_3 dX4_toldOfSleeper_40 ?_
    exact hret _ _ _ _ _ _ hd hP hS dX4_toldOfSleeper_41
  by_cases hq6 : x2 = (1 : Int32)
  · have hd := hd.2.1 hq6
    refine lv_tableIn (off := 41) (tgt := 42) hx hb dX4_toldOfSleeper_1 (by rw [hq6]; decide) (by rw [hq6]; decide) (by rw [hq6]; decide) (by decide) ?_
    refine lv_aload_n hx hb dX4_toldOfSleeper_42 rfl (lv_at hl 0 rfl) ?_
    refine gf_X4_24 C0 hP dX4_toldOfSleeper_43 ?_
    refine gf_X4_208_0 C0 hP dX4_toldOfSleeper_46 ?_
    refine lv_iload_n hx hb dX4_toldOfSleeper_49 rfl (lv_at hl 1 rfl) ?_
    obtain ⟨h_5, hd⟩ := hd
    refine ldC (by decide) C0 hP h_5 dX4_toldOfSleeper_50 ?_
    exact hret _ _ _ _ _ _ hd hP hS dX4_toldOfSleeper_51
  by_cases hq8 : x2 = (2 : Int32)
  · have hd := hd.2.2.1 hq8
    refine lv_tableIn (off := 51) (tgt := 52) hx hb dX4_toldOfSleeper_1 (by rw [hq8]; decide) (by rw [hq8]; decide) (by rw [hq8]; decide) (by decide) ?_
    refine lv_aload_n hx hb dX4_toldOfSleeper_52 rfl (lv_at hl 0 rfl) ?_
    refine gf_X4_24 C0 hP dX4_toldOfSleeper_53 ?_
    refine gf_X4_146_0 C0 hP dX4_toldOfSleeper_56 ?_
    refine lv_iload_n hx hb dX4_toldOfSleeper_59 rfl (lv_at hl 1 rfl) ?_
    obtain ⟨h_7, hd⟩ := hd
    refine ldC (by decide) C0 hP h_7 dX4_toldOfSleeper_60 ?_
    exact hret _ _ _ _ _ _ hd hP hS dX4_toldOfSleeper_61
  by_cases hq11 : x2 = (3 : Int32)
  · have hd := hd.2.2.2.1 hq11
    refine lv_tableIn (off := 61) (tgt := 62) hx hb dX4_toldOfSleeper_1 (by rw [hq11]; decide) (by rw [hq11]; decide) (by rw [hq11]; decide) (by decide) ?_
    refine lv_aload_n hx hb dX4_toldOfSleeper_62 rfl (lv_at hl 0 rfl) ?_
    refine gf_X4_24 C0 hP dX4_toldOfSleeper_63 ?_
    refine lv_iload_n hx hb dX4_toldOfSleeper_66 rfl (lv_at hl 1 rfl) ?_
    refine cl_VNi (n := 1) (rest := []) C0 hP hS (c_X1_isAsleep l C0.2.2.1 (by decide) _ hd) (lwG_C lc_X1_isAsleep) (by decide +kernel : (RX4, 177, yX1_isAsleep, "DreamTrain") ∈ nestM) lz_RX1 li_X1_isAsleep lx_X1_isAsleep (by decide +kernel) (oL_at h cA _ 0 (by decide)) rfl rfl rfl (Nat.le_of_ble_eq_true rfl) ⟨rfl, rfl⟩ ⟨by decide, by decide⟩ dX4_toldOfSleeper_67 hl.1 ⟨Nat.zero_le _, Nat.zero_le _⟩ (fun r_9 S_9 H locs hd hP hS => ?_)
    refine cl_Si (n := 1) (rest := []) C0 hP hS (c_X4_bit l C0.2.2.1 _ hd) (lwG_S lm_X4_158 ls_X4_bit lz_RX4 lc_X4_bit) (by decide +kernel) rfl rfl (Nat.le_of_ble_eq_true rfl) ⟨rfl, rfl⟩ ⟨by decide, by decide⟩ dX4_toldOfSleeper_70 hl.1 ⟨Nat.zero_le _, Nat.zero_le _⟩ (fun r_10 S_10 H locs hd hP hS => ?_)
    exact hret _ _ _ _ _ _ hd hP hS dX4_toldOfSleeper_73
  have hd := hd.2.2.2.2 hq4 hq6 hq8 hq11
  refine lv_tableOut (tgt := 74) hx hb dX4_toldOfSleeper_1 (sw_out 0 3 (by decide) (by decide) (fun v h1 h2 => by rcases (show v = 0 ∨ v = 1 ∨ v = 2 ∨ v = 3 by omega) with rfl | rfl | rfl | rfl <;> assumption)) (by decide) ?_
  refine lv_aload_n hx hb dX4_toldOfSleeper_74 rfl (lv_at hl 0 rfl) ?_
  refine gf_X4_24 C0 hP dX4_toldOfSleeper_75 ?_
  refine lv_iload_n hx hb dX4_toldOfSleeper_78 rfl (lv_at hl 1 rfl) ?_
  refine cl_VNi (n := 1) (rest := []) C0 hP hS (c_X1_isDreaming l C0.2.2.1 (by decide) _ hd) (lwG_C lc_X1_isDreaming) (by decide +kernel : (RX4, 180, yX1_isDreaming, "DreamTrain") ∈ nestM) lz_RX1 li_X1_isDreaming lx_X1_isDreaming (by decide +kernel) (oL_at h cA _ 0 (by decide)) rfl rfl rfl (Nat.le_of_ble_eq_true rfl) ⟨rfl, rfl⟩ ⟨by decide, by decide⟩ dX4_toldOfSleeper_79 hl.1 ⟨Nat.zero_le _, Nat.zero_le _⟩ (fun r_1 S_1 H locs hd hP hS => ?_)
  refine cl_Si (n := 1) (rest := []) C0 hP hS (c_X4_bit l C0.2.2.1 _ hd) (lwG_S lm_X4_158 ls_X4_bit lz_RX4 lc_X4_bit) (by decide +kernel) rfl rfl (Nat.le_of_ble_eq_true rfl) ⟨rfl, rfl⟩ ⟨by decide, by decide⟩ dX4_toldOfSleeper_82 hl.1 ⟨Nat.zero_le _, Nat.zero_le _⟩ (fun r_2 S_2 H locs hd hP hS => ?_)
  exact hret _ _ _ _ _ _ hd hP hS dX4_toldOfSleeper_85
theorem c_X4_toldOfSleeper (l : Launch) {D : va_G} {cA : Nat → ClassId} {h : Nat → Nat} (hk : ky keysC h) {x1 : Int32} {x2 : Int32} {S : sT} (sz : Nat) {Q : Int32 → sT → Prop} (hd : wp_X4_toldOfSleeper x1 x2 S Q) : Met l yX4_toldOfSleeper (wsU yX4_toldOfSleeper cX4_toldOfSleeper 3 (some .int)) rm_X4_toldOfSleeper (va_Pc [.ref (h 1000), .int x1, .int x2] (gP D cA true keysC h (wC h cA) S sz)) (va_Qi Q (wB D (wC h cA)) (aK keysC h sz)) 0 0 (aK keysC h sz) :=
  mk_i (by decide) hk (Nat.le_of_ble_eq_true rfl) (fun p e s m below meth c Z ls C0 hret hP hS hl => bk_X4_toldOfSleeper C0 hret hP hS hd hl)
abbrev rm_X4_digest : Room := { frames := 5, cells := 0, slots := 0, locals := 106 }
def wb_X4_digest_47 (Q : Int64 → sT → Prop) (K33 : Int64 → Int32 → sT → Prop) (K47 : Int64 → Int32 → Int32 → sT → Prop) (x1 : Int64) (x3 : Int32) (x4 : Int32) (S : sT) : Prop :=
  (((5 : Int32) ≤ x4 → K33 x1 (x3 + (1 : Int32)) S) ∧ (¬ (5 : Int32) ≤ x4 → wp_X4_toldOfSleeper x3 x4 S (fun r_1 S_1 => K47 (((31 : Int64) * x1) + r_1.toInt64) x3 (x4 + (1 : Int32)) S_1)))
set_option maxHeartbeats 4000000 in
set_option maxRecDepth 100000 in
theorem bk_X4_digest_47 {p : Program} {l : Launch} {e : Env} {s : State} {m : MethodId} {args : Array Value} {below : List Frame} {meth : Method} {c : Code} {Z : State → Prop} {D : va_G} {cA : Nat → ClassId} {h : Nat → Nat} {Q : Int64 → sT → Prop} (C0 : cx p s m args c cX4_digest 5 RX4 D cA true keysC h) (hret : rtL p l e rm_X4_digest s m args below meth c cX4_digest Z D (wC h cA) (aK keysC h s.heap.size) Q) {K33 : Int64 → Int32 → sT → Prop} {K47 : Int64 → Int32 → Int32 → sT → Prop} (k33 : ∀ (x1 : Int64) (x3 : Int32) (S : sT) (H : Heap) (locs : List Loc) (ls : Array Slot), K33 x1 x3 S → va_P D vwCl (wC h cA S) H → va_S (aK keysC h s.heap.size) s.heap H locs → lv_has ls 5 [(0, .ref (h 1000)), (1, .long x1), (3, .int x3)] → W p l e rm_X4_digest s m args below meth c H locs 0 0 Z (F0 m 33 ls [])) (k47 : ∀ (x1 : Int64) (x3 : Int32) (x4 : Int32) (S : sT) (H : Heap) (locs : List Loc) (ls : Array Slot), K47 x1 x3 x4 S → va_P D vwCl (wC h cA S) H → va_S (aK keysC h s.heap.size) s.heap H locs → lv_has ls 5 [(0, .ref (h 1000)), (1, .long x1), (3, .int x3), (4, .int x4)] → W p l e rm_X4_digest s m args below meth c H locs 0 0 Z (F0 m 47 ls [])) {x1 : Int64} {x3 : Int32} {x4 : Int32} {S : sT} {H : Heap} {locs : List Loc} {ls : Array Slot} (hP : va_P D vwCl (wC h cA S) H) (hS : va_S (aK keysC h s.heap.size) s.heap H locs) (hd : wb_X4_digest_47 Q K33 K47 x1 x3 x4 S) (hl : lv_has ls 5 [(0, .ref (h 1000)), (1, .long x1), (3, .int x3), (4, .int x4)]) : W p l e rm_X4_digest s m args below meth c H locs 0 0 Z (F0 m 47 ls []) := by
  obtain ⟨⟨hx, hb, hml, hown, hts⟩, hK, -, -⟩ := id C0
  unfold wb_X4_digest_47 at hd
  refine lv_iload hx hb dX4_digest_47 (lv_at hl 3 rfl) ?_
  refine lv_iconst (v := 5) hx hb dX4_digest_49 (by decide) ?_
  refine lv_icmp_ge (tgt := 74) hx hb dX4_digest_50 (by decide) (fun hc => ?_) (fun hc => ?_)
  · have hd := hd.1 hc
    refine lv_iinc (v := x3 + (1 : Int32)) (lv' := [(3, .int (x3 + (1 : Int32))), (0, .ref (h 1000)), (1, .long x1), (4, .int x4)]) hx hb dX4_digest_74 hl (k := 2) rfl rfl (by decide) rfl (fun ls hl => ?_)
    refine lv_goto (tgt := 33) hx hb dX4_digest_77 (by decide) ?_
    exact k33 _ _ _ _ _ _ hd hP hS (lv_sub hl [1, 2, 0] rfl)
  · have hd := hd.2 hc
    refine lv_ldc2 hx hb hown (hts _ lk_X4_298) dX4_digest_53 ?_
    refine lv_lload_n hx hb dX4_digest_56 rfl (lv_at hl 1 rfl) ?_
    refine lv_lmul hx hb dX4_digest_57 ?_
    refine lv_aload_n hx hb dX4_digest_58 rfl (lv_at hl 0 rfl) ?_
    refine lv_iload_n hx hb dX4_digest_59 rfl (lv_at hl 2 rfl) ?_
    refine lv_iload hx hb dX4_digest_60 (lv_at hl 3 rfl) ?_
    refine cl_Vi (n := 2) (rest := [.long ((31 : Int64) * x1)]) C0 hP hS (c_X4_toldOfSleeper l C0.2.2.1 _ hd) (lwG_V lm_X4_136 li_X4_toldOfSleeper lx_X4_toldOfSleeper lz_RX4 lc_X4_toldOfSleeper) (by decide +kernel) (oD_at h cA _) rfl rfl rfl (Nat.le_of_ble_eq_true rfl) ⟨rfl, rfl⟩ ⟨by decide, by decide⟩ dX4_digest_62 hl.1 ⟨Nat.zero_le _, Nat.zero_le _⟩ (fun r_1 S_1 H locs hd hP hS => ?_)
    refine lv_i2l hx hb dX4_digest_65 rfl ?_
    refine lv_ladd hx hb dX4_digest_66 ?_
    refine lv_lstore_n (lv' := [(1, .long (((31 : Int64) * x1) + r_1.toInt64)), (0, .ref (h 1000)), (3, .int x3), (4, .int x4)]) hx hb dX4_digest_67 rfl hl (by decide) rfl (fun ls hl => ?_)
    refine lv_iinc (v := x4 + (1 : Int32)) (lv' := [(4, .int (x4 + (1 : Int32))), (1, .long (((31 : Int64) * x1) + r_1.toInt64)), (0, .ref (h 1000)), (3, .int x3)]) hx hb dX4_digest_68 hl (k := 3) rfl rfl (by decide) rfl (fun ls hl => ?_)
    refine lv_goto (tgt := 47) hx hb dX4_digest_71 (by decide) ?_
    exact k47 _ _ _ _ _ _ _ hd hP hS (lv_sub hl [2, 1, 3, 0] rfl)
def wl_X4_digest_47 (Q : Int64 → sT → Prop) (K33 : Int64 → Int32 → sT → Prop) : Nat → Int64 → Int32 → Int32 → sT → Prop
  | 0, _, _, _ => fun _ => False
  | n + 1, x1, x3, x4 => fun S => wb_X4_digest_47 Q K33 (fun x1 x3 x4 S => wl_X4_digest_47 Q K33 n x1 x3 x4 S) x1 x3 x4 S
theorem bl_X4_digest_47 {p : Program} {l : Launch} {e : Env} {s : State} {m : MethodId} {args : Array Value} {below : List Frame} {meth : Method} {c : Code} {Z : State → Prop} {D : va_G} {cA : Nat → ClassId} {h : Nat → Nat} {Q : Int64 → sT → Prop} (C0 : cx p s m args c cX4_digest 5 RX4 D cA true keysC h) (hret : rtL p l e rm_X4_digest s m args below meth c cX4_digest Z D (wC h cA) (aK keysC h s.heap.size) Q) {K33 : Int64 → Int32 → sT → Prop} (k33 : ∀ (x1 : Int64) (x3 : Int32) (S : sT) (H : Heap) (locs : List Loc) (ls : Array Slot), K33 x1 x3 S → va_P D vwCl (wC h cA S) H → va_S (aK keysC h s.heap.size) s.heap H locs → lv_has ls 5 [(0, .ref (h 1000)), (1, .long x1), (3, .int x3)] → W p l e rm_X4_digest s m args below meth c H locs 0 0 Z (F0 m 33 ls [])) : ∀ (n : Nat) (x1 : Int64) (x3 : Int32) (x4 : Int32) (S : sT) (H : Heap) (locs : List Loc) (ls : Array Slot), va_P D vwCl (wC h cA S) H → va_S (aK keysC h s.heap.size) s.heap H locs → wl_X4_digest_47 Q K33 n x1 x3 x4 S → lv_has ls 5 [(0, .ref (h 1000)), (1, .long x1), (3, .int x3), (4, .int x4)] → W p l e rm_X4_digest s m args below meth c H locs 0 0 Z (F0 m 47 ls []) := by
  intro n
  induction n with
  | zero => intro x1 x3 x4 S H locs ls hP hS hd hl; exact (show False from hd).elim
  | succ n ih => intro x1 x3 x4 S H locs ls hP hS hd hl; exact bk_X4_digest_47 C0 hret k33 (fun x1 x3 x4 S H locs ls hd hP hS hl => ih x1 x3 x4 S H locs ls hP hS hd hl) hP hS hd hl
def wb_X4_digest_114 (Q : Int64 → sT → Prop) (K82 : Int64 → Int32 → sT → Prop) (x3 : Int32) (y0 : Int64) (y1 : Int32) (S : sT) : Prop :=
  K82 (y0 + y1.toInt64) (x3 + (1 : Int32)) S
set_option maxHeartbeats 4000000 in
set_option maxRecDepth 100000 in
theorem bk_X4_digest_114 {p : Program} {l : Launch} {e : Env} {s : State} {m : MethodId} {args : Array Value} {below : List Frame} {meth : Method} {c : Code} {Z : State → Prop} {D : va_G} {cA : Nat → ClassId} {h : Nat → Nat} {Q : Int64 → sT → Prop} (C0 : cx p s m args c cX4_digest 5 RX4 D cA true keysC h) (hret : rtL p l e rm_X4_digest s m args below meth c cX4_digest Z D (wC h cA) (aK keysC h s.heap.size) Q) {K82 : Int64 → Int32 → sT → Prop} (k82 : ∀ (x1 : Int64) (x3 : Int32) (S : sT) (H : Heap) (locs : List Loc) (ls : Array Slot), K82 x1 x3 S → va_P D vwCl (wC h cA S) H → va_S (aK keysC h s.heap.size) s.heap H locs → lv_has ls 5 [(0, .ref (h 1000)), (1, .long x1), (3, .int x3)] → W p l e rm_X4_digest s m args below meth c H locs 0 0 Z (F0 m 82 ls [])) {x3 : Int32} {y0 : Int64} {y1 : Int32} {S : sT} {H : Heap} {locs : List Loc} {ls : Array Slot} (hP : va_P D vwCl (wC h cA S) H) (hS : va_S (aK keysC h s.heap.size) s.heap H locs) (hd : wb_X4_digest_114 Q K82 x3 y0 y1 S) (hl : lv_has ls 5 [(0, .ref (h 1000)), (3, .int x3)]) : W p l e rm_X4_digest s m args below meth c H locs 0 0 Z (F0 m 114 ls [.int y1, .long y0]) := by
  obtain ⟨⟨hx, hb, hml, hown, hts⟩, hK, -, -⟩ := id C0
  unfold wb_X4_digest_114 at hd
  refine lv_i2l hx hb dX4_digest_114 rfl ?_
  refine lv_ladd hx hb dX4_digest_115 ?_
  refine lv_lstore_n (lv' := [(1, .long (y0 + y1.toInt64)), (0, .ref (h 1000)), (3, .int x3)]) hx hb dX4_digest_116 rfl hl (by decide) rfl (fun ls hl => ?_)
  refine lv_iinc (v := x3 + (1 : Int32)) (lv' := [(3, .int (x3 + (1 : Int32))), (1, .long (y0 + y1.toInt64)), (0, .ref (h 1000))]) hx hb dX4_digest_117 hl (k := 2) rfl rfl (by decide) rfl (fun ls hl => ?_)
  refine lv_goto (tgt := 82) hx hb dX4_digest_120 (by decide) ?_
  exact k82 _ _ _ _ _ _ hd hP hS (lv_sub hl [2, 1, 0] rfl)
def wb_X4_digest_82 (Q : Int64 → sT → Prop) (K82 : Int64 → Int32 → sT → Prop) (x1 : Int64) (x3 : Int32) (S : sT) : Prop :=
  (((3 : Int32) ≤ x3 → wp_X3_stir 0 x1 S (fun r_1 S_1 => wp_X3_stir 1 r_1 S_1 (fun r_2 S_2 => Q r_2 S_2))) ∧ (¬ (3 : Int32) ≤ x3 → (vp_in x3 3) ∧ (((vA S 5 x3.toNatClampNeg) = 0 → wb_X4_digest_114 Q K82 x3 ((31 : Int64) * x1) (-1 : Int32) S) ∧ (¬ (vA S 5 x3.toNatClampNeg) = 0 → (vp_in x3 3) ∧ wb_X4_digest_114 Q K82 x3 ((31 : Int64) * x1) (vI S (20 + 13 * (2 + x3.toNatClampNeg) + 12)) S))))
set_option maxHeartbeats 4000000 in
set_option maxRecDepth 100000 in
theorem bk_X4_digest_82 {p : Program} {l : Launch} {e : Env} {s : State} {m : MethodId} {args : Array Value} {below : List Frame} {meth : Method} {c : Code} {Z : State → Prop} {D : va_G} {cA : Nat → ClassId} {h : Nat → Nat} {Q : Int64 → sT → Prop} (C0 : cx p s m args c cX4_digest 5 RX4 D cA true keysC h) (hret : rtL p l e rm_X4_digest s m args below meth c cX4_digest Z D (wC h cA) (aK keysC h s.heap.size) Q) {K82 : Int64 → Int32 → sT → Prop} (k82 : ∀ (x1 : Int64) (x3 : Int32) (S : sT) (H : Heap) (locs : List Loc) (ls : Array Slot), K82 x1 x3 S → va_P D vwCl (wC h cA S) H → va_S (aK keysC h s.heap.size) s.heap H locs → lv_has ls 5 [(0, .ref (h 1000)), (1, .long x1), (3, .int x3)] → W p l e rm_X4_digest s m args below meth c H locs 0 0 Z (F0 m 82 ls [])) {x1 : Int64} {x3 : Int32} {S : sT} {H : Heap} {locs : List Loc} {ls : Array Slot} (hP : va_P D vwCl (wC h cA S) H) (hS : va_S (aK keysC h s.heap.size) s.heap H locs) (hd : wb_X4_digest_82 Q K82 x1 x3 S) (hl : lv_has ls 5 [(0, .ref (h 1000)), (1, .long x1), (3, .int x3)]) : W p l e rm_X4_digest s m args below meth c H locs 0 0 Z (F0 m 82 ls []) := by
  obtain ⟨⟨hx, hb, hml, hown, hts⟩, hK, -, -⟩ := id C0
  unfold wb_X4_digest_82 at hd
  refine lv_iload_n hx hb dX4_digest_82 rfl (lv_at hl 2 rfl) ?_
  refine lv_iconst (v := 3) hx hb dX4_digest_83 (by decide) ?_
  refine lv_icmp_ge (tgt := 123) hx hb dX4_digest_84 (by decide) (fun hc => ?_) (fun hc => ?_)
  · have hd := hd.1 hc
    refine lv_aload_n hx hb dX4_digest_123 rfl (lv_at hl 0 rfl) ?_
    refine gf_X4_18 C0 hP dX4_digest_124 ?_
    refine lv_aload_n hx hb dX4_digest_127 rfl (lv_at hl 0 rfl) ?_
    refine gf_X4_14 C0 hP dX4_digest_128 ?_
    refine lv_lload_n hx hb dX4_digest_131 rfl (lv_at hl 1 rfl) ?_
    refine cl_VNl (n := 1) (rest := [.ref (h 1002)]) C0 hP hS (c_X3_stir l C0.2.2.1 (by decide) _ hd) (lwG_C lc_X3_stir) (by decide +kernel : (RX4, 300, yX3_stir, "DreamTrain") ∈ nestM) lz_RX3 li_X3_stir lx_X3_stir (by decide +kernel) (oS_at h cA _ 0 (by decide)) rfl rfl rfl (Nat.le_of_ble_eq_true rfl) ⟨rfl, rfl⟩ ⟨by decide, by decide⟩ dX4_digest_132 hl.1 ⟨Nat.zero_le _, Nat.zero_le _⟩ (fun r_1 S_1 H locs hd hP hS => ?_)
    refine cl_VNl (n := 1) (rest := []) C0 hP hS (c_X3_stir l C0.2.2.1 (by decide) _ hd) (lwG_C lc_X3_stir) (by decide +kernel : (RX4, 300, yX3_stir, "DreamTrain") ∈ nestM) lz_RX3 li_X3_stir lx_X3_stir (by decide +kernel) (oS_at h cA _ 1 (by decide)) rfl rfl rfl (Nat.le_of_ble_eq_true rfl) ⟨rfl, rfl⟩ ⟨by decide, by decide⟩ dX4_digest_135 hl.1 ⟨Nat.zero_le _, Nat.zero_le _⟩ (fun r_2 S_2 H locs hd hP hS => ?_)
    exact hret _ _ _ _ _ _ hd hP hS dX4_digest_138
  · have hd := hd.2 hc
    refine lv_ldc2 hx hb hown (hts _ lk_X4_298) dX4_digest_87 ?_
    refine lv_lload_n hx hb dX4_digest_90 rfl (lv_at hl 1 rfl) ?_
    refine lv_lmul hx hb dX4_digest_91 ?_
    refine lv_aload_n hx hb dX4_digest_92 rfl (lv_at hl 0 rfl) ?_
    refine gf_X4_35 C0 hP dX4_digest_93 ?_
    refine lv_iload_n hx hb dX4_digest_96 rfl (lv_at hl 2 rfl) ?_
    obtain ⟨h_3, hd⟩ := hd
    refine ldZ C0 hP h_3 dX4_digest_97 ?_
    refine lv_if_eq (tgt := 113) hx hb dX4_digest_98 (by decide) (fun hc => ?_) (fun hc => ?_)
    · have hd := hd.1 hc
      refine lv_iconst (v := (-1)) hx hb dX4_digest_113 (by decide) ?_
      exact bk_X4_digest_114 C0 hret k82 hP hS hd (lv_sub hl [0, 2] rfl)
    · have hd := hd.2 hc
      refine lv_aload_n hx hb dX4_digest_101 rfl (lv_at hl 0 rfl) ?_
      refine gf_X4_31 C0 hP dX4_digest_102 ?_
      refine lv_iload_n hx hb dX4_digest_105 rfl (lv_at hl 2 rfl) ?_
      obtain ⟨h_4, hd⟩ := hd
      refine ao_1015 C0 hP h_4 dX4_digest_106 ?_
      refine gf_X4_187_v (2 + x3.toNatClampNeg) (by have h9 := vp_lt h_4; omega) C0 hP dX4_digest_107 ?_
      refine lv_goto (tgt := 114) hx hb dX4_digest_110 (by decide) ?_
      exact bk_X4_digest_114 C0 hret k82 hP hS hd (lv_sub hl [0, 2] rfl)
def wl_X4_digest_82 (Q : Int64 → sT → Prop) : Nat → Int64 → Int32 → sT → Prop
  | 0, _, _ => fun _ => False
  | n + 1, x1, x3 => fun S => wb_X4_digest_82 Q (fun x1 x3 S => wl_X4_digest_82 Q n x1 x3 S) x1 x3 S
theorem bl_X4_digest_82 {p : Program} {l : Launch} {e : Env} {s : State} {m : MethodId} {args : Array Value} {below : List Frame} {meth : Method} {c : Code} {Z : State → Prop} {D : va_G} {cA : Nat → ClassId} {h : Nat → Nat} {Q : Int64 → sT → Prop} (C0 : cx p s m args c cX4_digest 5 RX4 D cA true keysC h) (hret : rtL p l e rm_X4_digest s m args below meth c cX4_digest Z D (wC h cA) (aK keysC h s.heap.size) Q) : ∀ (n : Nat) (x1 : Int64) (x3 : Int32) (S : sT) (H : Heap) (locs : List Loc) (ls : Array Slot), va_P D vwCl (wC h cA S) H → va_S (aK keysC h s.heap.size) s.heap H locs → wl_X4_digest_82 Q n x1 x3 S → lv_has ls 5 [(0, .ref (h 1000)), (1, .long x1), (3, .int x3)] → W p l e rm_X4_digest s m args below meth c H locs 0 0 Z (F0 m 82 ls []) := by
  intro n
  induction n with
  | zero => intro x1 x3 S H locs ls hP hS hd hl; exact (show False from hd).elim
  | succ n ih => intro x1 x3 S H locs ls hP hS hd hl; exact bk_X4_digest_82 C0 hret (fun x1 x3 S H locs ls hd hP hS hl => ih x1 x3 S H locs ls hP hS hd hl) hP hS hd hl
def wb_X4_digest_33 (Q : Int64 → sT → Prop) (K33 : Int64 → Int32 → sT → Prop) (x1 : Int64) (x3 : Int32) (S : sT) : Prop :=
  (((vI S 26) ≤ x3 → ∃ n : Nat, wl_X4_digest_82 Q n x1 (0 : Int32) S) ∧ (¬ (vI S 26) ≤ x3 → ∃ n : Nat, wl_X4_digest_47 Q K33 n x1 x3 (0 : Int32) S))
set_option maxHeartbeats 4000000 in
set_option maxRecDepth 100000 in
theorem bk_X4_digest_33 {p : Program} {l : Launch} {e : Env} {s : State} {m : MethodId} {args : Array Value} {below : List Frame} {meth : Method} {c : Code} {Z : State → Prop} {D : va_G} {cA : Nat → ClassId} {h : Nat → Nat} {Q : Int64 → sT → Prop} (C0 : cx p s m args c cX4_digest 5 RX4 D cA true keysC h) (hret : rtL p l e rm_X4_digest s m args below meth c cX4_digest Z D (wC h cA) (aK keysC h s.heap.size) Q) {K33 : Int64 → Int32 → sT → Prop} (k33 : ∀ (x1 : Int64) (x3 : Int32) (S : sT) (H : Heap) (locs : List Loc) (ls : Array Slot), K33 x1 x3 S → va_P D vwCl (wC h cA S) H → va_S (aK keysC h s.heap.size) s.heap H locs → lv_has ls 5 [(0, .ref (h 1000)), (1, .long x1), (3, .int x3)] → W p l e rm_X4_digest s m args below meth c H locs 0 0 Z (F0 m 33 ls [])) {x1 : Int64} {x3 : Int32} {S : sT} {H : Heap} {locs : List Loc} {ls : Array Slot} (hP : va_P D vwCl (wC h cA S) H) (hS : va_S (aK keysC h s.heap.size) s.heap H locs) (hd : wb_X4_digest_33 Q K33 x1 x3 S) (hl : lv_has ls 5 [(0, .ref (h 1000)), (1, .long x1), (3, .int x3)]) : W p l e rm_X4_digest s m args below meth c H locs 0 0 Z (F0 m 33 ls []) := by
  obtain ⟨⟨hx, hb, hml, hown, hts⟩, hK, -, -⟩ := id C0
  unfold wb_X4_digest_33 at hd
  refine lv_iload_n hx hb dX4_digest_33 rfl (lv_at hl 2 rfl) ?_
  refine lv_aload_n hx hb dX4_digest_34 rfl (lv_at hl 0 rfl) ?_
  refine gf_X4_24 C0 hP dX4_digest_35 ?_
  refine gf_X4_129_0 C0 hP dX4_digest_38 ?_
  refine lv_icmp_ge (tgt := 80) hx hb dX4_digest_41 (by decide) (fun hc => ?_) (fun hc => ?_)
  · have hd := hd.1 hc
    refine lv_iconst (v := 0) hx hb dX4_digest_80 (by decide) ?_
    refine lv_istore_n (lv' := [(3, .int (0 : Int32)), (0, .ref (h 1000)), (1, .long x1)]) hx hb dX4_digest_81 rfl hl (by decide) rfl (fun ls hl => ?_)
    obtain ⟨n_1, hd⟩ := hd
    exact bl_X4_digest_82 C0 hret _ _ _ _ _ _ _ hP hS hd (lv_sub hl [1, 2, 0] rfl)
  · have hd := hd.2 hc
    refine lv_iconst (v := 0) hx hb dX4_digest_44 (by decide) ?_
    refine lv_istore (lv' := [(4, .int (0 : Int32)), (0, .ref (h 1000)), (1, .long x1), (3, .int x3)]) hx hb dX4_digest_45 hl (by decide) rfl (fun ls hl => ?_)
    obtain ⟨n_2, hd⟩ := hd
    exact bl_X4_digest_47 C0 hret k33 _ _ _ _ _ _ _ _ hP hS hd (lv_sub hl [1, 2, 3, 0] rfl)
def wl_X4_digest_33 (Q : Int64 → sT → Prop) : Nat → Int64 → Int32 → sT → Prop
  | 0, _, _ => fun _ => False
  | n + 1, x1, x3 => fun S => wb_X4_digest_33 Q (fun x1 x3 S => wl_X4_digest_33 Q n x1 x3 S) x1 x3 S
theorem bl_X4_digest_33 {p : Program} {l : Launch} {e : Env} {s : State} {m : MethodId} {args : Array Value} {below : List Frame} {meth : Method} {c : Code} {Z : State → Prop} {D : va_G} {cA : Nat → ClassId} {h : Nat → Nat} {Q : Int64 → sT → Prop} (C0 : cx p s m args c cX4_digest 5 RX4 D cA true keysC h) (hret : rtL p l e rm_X4_digest s m args below meth c cX4_digest Z D (wC h cA) (aK keysC h s.heap.size) Q) : ∀ (n : Nat) (x1 : Int64) (x3 : Int32) (S : sT) (H : Heap) (locs : List Loc) (ls : Array Slot), va_P D vwCl (wC h cA S) H → va_S (aK keysC h s.heap.size) s.heap H locs → wl_X4_digest_33 Q n x1 x3 S → lv_has ls 5 [(0, .ref (h 1000)), (1, .long x1), (3, .int x3)] → W p l e rm_X4_digest s m args below meth c H locs 0 0 Z (F0 m 33 ls []) := by
  intro n
  induction n with
  | zero => intro x1 x3 S H locs ls hP hS hd hl; exact (show False from hd).elim
  | succ n ih => intro x1 x3 S H locs ls hP hS hd hl; exact bk_X4_digest_33 C0 hret (fun x1 x3 S H locs ls hd hP hS hl => ih x1 x3 S H locs ls hP hS hd hl) hP hS hd hl
def wb_X4_digest_6 (Q : Int64 → sT → Prop) (K6 : Int64 → Int32 → sT → Prop) (x1 : Int64) (x3 : Int32) (S : sT) : Prop :=
  (((12 : Int32) ≤ x3 → ∃ n : Nat, wl_X4_digest_33 Q n x1 (0 : Int32) S) ∧ (¬ (12 : Int32) ≤ x3 → wp_X4_toldCount x3 S (fun r_2 S_2 => K6 (((31 : Int64) * x1) + r_2.toInt64) (x3 + (1 : Int32)) S_2)))
set_option maxHeartbeats 4000000 in
set_option maxRecDepth 100000 in
theorem bk_X4_digest_6 {p : Program} {l : Launch} {e : Env} {s : State} {m : MethodId} {args : Array Value} {below : List Frame} {meth : Method} {c : Code} {Z : State → Prop} {D : va_G} {cA : Nat → ClassId} {h : Nat → Nat} {Q : Int64 → sT → Prop} (C0 : cx p s m args c cX4_digest 5 RX4 D cA true keysC h) (hret : rtL p l e rm_X4_digest s m args below meth c cX4_digest Z D (wC h cA) (aK keysC h s.heap.size) Q) {K6 : Int64 → Int32 → sT → Prop} (k6 : ∀ (x1 : Int64) (x3 : Int32) (S : sT) (H : Heap) (locs : List Loc) (ls : Array Slot), K6 x1 x3 S → va_P D vwCl (wC h cA S) H → va_S (aK keysC h s.heap.size) s.heap H locs → lv_has ls 5 [(0, .ref (h 1000)), (1, .long x1), (3, .int x3)] → W p l e rm_X4_digest s m args below meth c H locs 0 0 Z (F0 m 6 ls [])) {x1 : Int64} {x3 : Int32} {S : sT} {H : Heap} {locs : List Loc} {ls : Array Slot} (hP : va_P D vwCl (wC h cA S) H) (hS : va_S (aK keysC h s.heap.size) s.heap H locs) (hd : wb_X4_digest_6 Q K6 x1 x3 S) (hl : lv_has ls 5 [(0, .ref (h 1000)), (1, .long x1), (3, .int x3)]) : W p l e rm_X4_digest s m args below meth c H locs 0 0 Z (F0 m 6 ls []) := by
  obtain ⟨⟨hx, hb, hml, hown, hts⟩, hK, -, -⟩ := id C0
  unfold wb_X4_digest_6 at hd
  refine lv_iload_n hx hb dX4_digest_6 rfl (lv_at hl 2 rfl) ?_
  refine lv_bipush (v := 12) hx hb dX4_digest_7 (by decide) ?_
  refine lv_icmp_ge (tgt := 31) hx hb dX4_digest_9 (by decide) (fun hc => ?_) (fun hc => ?_)
  · have hd := hd.1 hc
    refine lv_iconst (v := 0) hx hb dX4_digest_31 (by decide) ?_
    refine lv_istore_n (lv' := [(3, .int (0 : Int32)), (0, .ref (h 1000)), (1, .long x1)]) hx hb dX4_digest_32 rfl hl (by decide) rfl (fun ls hl => ?_)
    obtain ⟨n_1, hd⟩ := hd
    exact bl_X4_digest_33 C0 hret _ _ _ _ _ _ _ hP hS hd (lv_sub hl [1, 2, 0] rfl)
  · have hd := hd.2 hc
    refine lv_ldc2 hx hb hown (hts _ lk_X4_298) dX4_digest_12 ?_
    refine lv_lload_n hx hb dX4_digest_15 rfl (lv_at hl 1 rfl) ?_
    refine lv_lmul hx hb dX4_digest_16 ?_
    refine lv_aload_n hx hb dX4_digest_17 rfl (lv_at hl 0 rfl) ?_
    refine lv_iload_n hx hb dX4_digest_18 rfl (lv_at hl 2 rfl) ?_
    refine cl_Vi (n := 1) (rest := [.long ((31 : Int64) * x1)]) C0 hP hS (c_X4_toldCount l C0.2.2.1 _ hd) (lwG_V lm_X4_290 li_X4_toldCount lx_X4_toldCount lz_RX4 lc_X4_toldCount) (by decide +kernel) (oD_at h cA _) rfl rfl rfl (Nat.le_of_ble_eq_true rfl) ⟨rfl, rfl⟩ ⟨by decide, by decide⟩ dX4_digest_19 hl.1 ⟨Nat.zero_le _, Nat.zero_le _⟩ (fun r_2 S_2 H locs hd hP hS => ?_)
    refine lv_i2l hx hb dX4_digest_22 rfl ?_
    refine lv_ladd hx hb dX4_digest_23 ?_
    refine lv_lstore_n (lv' := [(1, .long (((31 : Int64) * x1) + r_2.toInt64)), (0, .ref (h 1000)), (3, .int x3)]) hx hb dX4_digest_24 rfl hl (by decide) rfl (fun ls hl => ?_)
    refine lv_iinc (v := x3 + (1 : Int32)) (lv' := [(3, .int (x3 + (1 : Int32))), (1, .long (((31 : Int64) * x1) + r_2.toInt64)), (0, .ref (h 1000))]) hx hb dX4_digest_25 hl (k := 2) rfl rfl (by decide) rfl (fun ls hl => ?_)
    refine lv_goto (tgt := 6) hx hb dX4_digest_28 (by decide) ?_
    exact k6 _ _ _ _ _ _ hd hP hS (lv_sub hl [2, 1, 0] rfl)
def wl_X4_digest_6 (Q : Int64 → sT → Prop) : Nat → Int64 → Int32 → sT → Prop
  | 0, _, _ => fun _ => False
  | n + 1, x1, x3 => fun S => wb_X4_digest_6 Q (fun x1 x3 S => wl_X4_digest_6 Q n x1 x3 S) x1 x3 S
theorem bl_X4_digest_6 {p : Program} {l : Launch} {e : Env} {s : State} {m : MethodId} {args : Array Value} {below : List Frame} {meth : Method} {c : Code} {Z : State → Prop} {D : va_G} {cA : Nat → ClassId} {h : Nat → Nat} {Q : Int64 → sT → Prop} (C0 : cx p s m args c cX4_digest 5 RX4 D cA true keysC h) (hret : rtL p l e rm_X4_digest s m args below meth c cX4_digest Z D (wC h cA) (aK keysC h s.heap.size) Q) : ∀ (n : Nat) (x1 : Int64) (x3 : Int32) (S : sT) (H : Heap) (locs : List Loc) (ls : Array Slot), va_P D vwCl (wC h cA S) H → va_S (aK keysC h s.heap.size) s.heap H locs → wl_X4_digest_6 Q n x1 x3 S → lv_has ls 5 [(0, .ref (h 1000)), (1, .long x1), (3, .int x3)] → W p l e rm_X4_digest s m args below meth c H locs 0 0 Z (F0 m 6 ls []) := by
  intro n
  induction n with
  | zero => intro x1 x3 S H locs ls hP hS hd hl; exact (show False from hd).elim
  | succ n ih => intro x1 x3 S H locs ls hP hS hd hl; exact bk_X4_digest_6 C0 hret (fun x1 x3 S H locs ls hd hP hS hl => ih x1 x3 S H locs ls hP hS hd hl) hP hS hd hl
def wp_X4_digest (S : sT) (Q : Int64 → sT → Prop) : Prop :=
  ∃ n : Nat, wl_X4_digest_6 Q n (17 : Int64) (0 : Int32) S
set_option maxHeartbeats 4000000 in
set_option maxRecDepth 100000 in
theorem bk_X4_digest {p : Program} {l : Launch} {e : Env} {s : State} {m : MethodId} {args : Array Value} {below : List Frame} {meth : Method} {c : Code} {Z : State → Prop} {D : va_G} {cA : Nat → ClassId} {h : Nat → Nat} {Q : Int64 → sT → Prop} (C0 : cx p s m args c cX4_digest 5 RX4 D cA true keysC h) (hret : rtL p l e rm_X4_digest s m args below meth c cX4_digest Z D (wC h cA) (aK keysC h s.heap.size) Q) {S : sT} {H : Heap} {locs : List Loc} {ls : Array Slot} (hP : va_P D vwCl (wC h cA S) H) (hS : va_S (aK keysC h s.heap.size) s.heap H locs) (hd : wp_X4_digest S Q) (hl : lv_has ls 5 [(0, .ref (h 1000))]) : W p l e rm_X4_digest s m args below meth c H locs 0 0 Z (F0 m 0 ls []) := by
  obtain ⟨⟨hx, hb, hml, hown, hts⟩, hK, -, -⟩ := id C0
  unfold wp_X4_digest at hd
  refine lv_ldc2 hx hb hown (hts _ lk_X4_296) dX4_digest_0 ?_
  refine lv_lstore_n (lv' := [(1, .long (17 : Int64)), (0, .ref (h 1000))]) hx hb dX4_digest_3 rfl hl (by decide) rfl (fun ls hl => ?_)
  refine lv_iconst (v := 0) hx hb dX4_digest_4 (by decide) ?_
  refine lv_istore_n (lv' := [(3, .int (0 : Int32)), (1, .long (17 : Int64)), (0, .ref (h 1000))]) hx hb dX4_digest_5 rfl hl (by decide) rfl (fun ls hl => ?_)
  obtain ⟨n_1, hd⟩ := hd
  exact bl_X4_digest_6 C0 hret _ _ _ _ _ _ _ hP hS hd (lv_sub hl [2, 1, 0] rfl)
theorem c_X4_digest (l : Launch) {D : va_G} {cA : Nat → ClassId} {h : Nat → Nat} (hk : ky keysC h) {S : sT} (sz : Nat) {Q : Int64 → sT → Prop} (hd : wp_X4_digest S Q) : Met l yX4_digest (wsU yX4_digest cX4_digest 5 (some .long)) rm_X4_digest (va_Pc [.ref (h 1000)] (gP D cA true keysC h (wC h cA) S sz)) (va_Ql Q (wB D (wC h cA)) (aK keysC h sz)) 0 0 (aK keysC h sz) :=
  mk_l (by decide) hk (Nat.le_of_ble_eq_true rfl) (fun p e s m below meth c Z ls C0 hret hP hS hl => bk_X4_digest C0 hret hP hS hd hl)
abbrev rm_X4_doByLot : Room := { frames := 4, cells := 0, slots := 0, locals := 89 }
def wp_X4_doByLot (x1 : Int32) (S : sT) (Q : sT → Prop) : Prop :=
  ((¬ (vI S 26) = 0 → (¬ (vI S 26) = 0) ∧ (((x1 - x1 / (4 : Int32) * (4 : Int32)) = (0 : Int32) → wp_X1_wakeOrLull 0 ((x1 / (8 : Int32)) - (x1 / (8 : Int32)) / (vI S 26) * (vI S 26)) S (fun S_3 => Q S_3)) ∧ ((x1 - x1 / (4 : Int32) * (4 : Int32)) = (1 : Int32) → wp_X1_changeSupper 0 ((x1 / (8 : Int32)) - (x1 / (8 : Int32)) / (vI S 26) * (vI S 26)) ((x1 / (64 : Int32)) - (x1 / (64 : Int32)) / (10 : Int32) * (10 : Int32)) S (fun S_5 => Q S_5)) ∧ (¬ (x1 - x1 / (4 : Int32) * (4 : Int32)) = (0 : Int32) → ¬ (x1 - x1 / (4 : Int32) * (4 : Int32)) = (1 : Int32) → wp_X1_passMinute 0 S (fun S_2 => Q S_2)))) ∧ ((vI S 26) = 0 → Q S))
set_option maxHeartbeats 4000000 in
set_option maxRecDepth 100000 in
theorem bk_X4_doByLot {p : Program} {l : Launch} {e : Env} {s : State} {m : MethodId} {args : Array Value} {below : List Frame} {meth : Method} {c : Code} {Z : State → Prop} {D : va_G} {cA : Nat → ClassId} {h : Nat → Nat} {Q : sT → Prop} (C0 : cx p s m args c cX4_doByLot 3 RX4 D cA true keysC h) (hret : rtV p l e rm_X4_doByLot s m args below meth c cX4_doByLot Z D (wC h cA) (aK keysC h s.heap.size) Q) {x1 : Int32} {S : sT} {H : Heap} {locs : List Loc} {ls : Array Slot} (hP : va_P D vwCl (wC h cA S) H) (hS : va_S (aK keysC h s.heap.size) s.heap H locs) (hd : wp_X4_doByLot x1 S Q) (hl : lv_has ls 3 [(0, .ref (h 1000)), (1, .int x1)]) : W p l e rm_X4_doByLot s m args below meth c H locs 0 0 Z (F0 m 0 ls []) := by
  obtain ⟨⟨hx, hb, hml, hown, hts⟩, hK, -, -⟩ := id C0
  unfold wp_X4_doByLot at hd
  refine lv_aload_n hx hb dX4_doByLot_0 rfl (lv_at hl 0 rfl) ?_
  refine gf_X4_24 C0 hP dX4_doByLot_1 ?_
  refine gf_X4_129_0 C0 hP dX4_doByLot_4 ?_
  refine lv_if_ne (tgt := 11) hx hb dX4_doByLot_7 (by decide) (fun hc => ?_) (fun hc => ?_)
  · have hd := hd.1 hc
    refine lv_iload_n hx hb dX4_doByLot_11 rfl (lv_at hl 1 rfl) ?_
    refine lv_bipush (v := 8) hx hb dX4_doByLot_12 (by decide) ?_
    refine lv_idiv hx hb dX4_doByLot_14 (by decide) ?_
    refine lv_aload_n hx hb dX4_doByLot_15 rfl (lv_at hl 0 rfl) ?_
    refine gf_X4_24 C0 hP dX4_doByLot_16 ?_
    refine gf_X4_129_0 C0 hP dX4_doByLot_19 ?_
    obtain ⟨h_1, hd⟩ := hd
    refine lv_irem hx hb dX4_doByLot_22 h_1 ?_
    refine lv_istore_n (lv' := [(2, .int ((x1 / (8 : Int32)) - (x1 / (8 : Int32)) / (vI S 26) * (vI S 26))), (0, .ref (h 1000)), (1, .int x1)]) hx hb dX4_doByLot_23 rfl hl (by decide) rfl (fun ls hl => ?_)
    refine lv_iload_n hx hb dX4_doByLot_24 rfl (lv_at hl 2 rfl) ?_
    refine lv_iconst (v := 4) hx hb dX4_doByLot_25 (by decide) ?_
    refine lv_irem hx hb dX4_doByLot_26 (by decide) ?_
    by_cases hq4 : (x1 - x1 / (4 : Int32) * (4 : Int32)) = (0 : Int32)
    · have hd := hd.1 hq4
      refine lv_lookup (off := 25) (tgt := 52) hx hb dX4_doByLot_27 (by decide) (by rw [hq4]; decide) (by decide) ?_
      refine lv_aload_n hx hb dX4_doByLot_52 rfl (lv_at hl 1 rfl) ?_
      refine gf_X4_24 C0 hP dX4_doByLot_53 ?_
      refine lv_iload_n hx hb dX4_doByLot_56 rfl (lv_at hl 0 rfl) ?_
      refine cl_VNv (n := 1) (rest := []) C0 hP hS (c_X1_wakeOrLull l C0.2.2.1 (by decide) _ hd) (lwG_C lc_X1_wakeOrLull) (by decide +kernel : (RX4, 183, yX1_wakeOrLull, "DreamTrain") ∈ nestM) lz_RX1 li_X1_wakeOrLull lx_X1_wakeOrLull (by decide +kernel) (oL_at h cA _ 0 (by decide)) rfl rfl rfl (Nat.le_of_ble_eq_true rfl) ⟨rfl, rfl⟩ ⟨by decide, by decide⟩ dX4_doByLot_57 hl.1 ⟨Nat.zero_le _, Nat.zero_le _⟩ (fun S_3 H locs hd hP hS => ?_)
      refine lv_goto (tgt := 88) hx hb dX4_doByLot_60 (by decide) ?_
      exact hret _ _ _ _ _ hd hP hS dX4_doByLot_88
    by_cases hq6 : (x1 - x1 / (4 : Int32) * (4 : Int32)) = (1 : Int32)
    · have hd := hd.2.1 hq6
      refine lv_lookup (off := 36) (tgt := 63) hx hb dX4_doByLot_27 (by decide) (by rw [hq6]; decide) (by decide) ?_
      refine lv_aload_n hx hb dX4_doByLot_63 rfl (lv_at hl 1 rfl) ?_
      refine gf_X4_24 C0 hP dX4_doByLot_64 ?_
      refine lv_iload_n hx hb dX4_doByLot_67 rfl (lv_at hl 0 rfl) ?_
      refine lv_iload_n hx hb dX4_doByLot_68 rfl (lv_at hl 2 rfl) ?_
      refine lv_bipush (v := 64) hx hb dX4_doByLot_69 (by decide) ?_
      refine lv_idiv hx hb dX4_doByLot_71 (by decide) ?_
      refine lv_bipush (v := 10) hx hb dX4_doByLot_72 (by decide) ?_
      refine lv_irem hx hb dX4_doByLot_74 (by decide) ?_
      refine cl_VNv (n := 2) (rest := []) C0 hP hS (c_X1_changeSupper l C0.2.2.1 (by decide) _ hd) (lwG_C lc_X1_changeSupper) (by decide +kernel : (RX4, 174, yX1_changeSupper, "DreamTrain") ∈ nestM) lz_RX1 li_X1_changeSupper lx_X1_changeSupper (by decide +kernel) (oL_at h cA _ 0 (by decide)) rfl rfl rfl (Nat.le_of_ble_eq_true rfl) ⟨rfl, rfl⟩ ⟨by decide, by decide⟩ dX4_doByLot_75 hl.1 ⟨Nat.zero_le _, Nat.zero_le _⟩ (fun S_5 H locs hd hP hS => ?_)
      refine lv_goto (tgt := 88) hx hb dX4_doByLot_78 (by decide) ?_
      exact hret _ _ _ _ _ hd hP hS dX4_doByLot_88
    have hd := hd.2.2 hq4 hq6
    refine lv_lookup (off := 54) (tgt := 81) hx hb dX4_doByLot_27 (by decide) (lk_out2 hq4 hq6) (by decide) ?_
    refine lv_aload_n hx hb dX4_doByLot_81 rfl (lv_at hl 1 rfl) ?_
    refine gf_X4_24 C0 hP dX4_doByLot_82 ?_
    refine cl_VNv (n := 0) (rest := []) C0 hP hS (c_X1_passMinute l C0.2.2.1 (by decide) _ hd) (lwG_C lc_X1_passMinute) (by decide +kernel : (RX4, 168, yX1_passMinute, "DreamTrain") ∈ nestM) lz_RX1 li_X1_passMinute lx_X1_passMinute (by decide +kernel) (oL_at h cA _ 0 (by decide)) rfl rfl rfl (Nat.le_of_ble_eq_true rfl) ⟨rfl, rfl⟩ ⟨by decide, by decide⟩ dX4_doByLot_85 hl.1 ⟨Nat.zero_le _, Nat.zero_le _⟩ (fun S_2 H locs hd hP hS => ?_)
    exact hret _ _ _ _ _ hd hP hS dX4_doByLot_88
  · have hd := hd.2 hc
    exact hret _ _ _ _ _ hd hP hS dX4_doByLot_10
theorem c_X4_doByLot (l : Launch) {D : va_G} {cA : Nat → ClassId} {h : Nat → Nat} (hk : ky keysC h) {x1 : Int32} {S : sT} (sz : Nat) {Q : sT → Prop} (hd : wp_X4_doByLot x1 S Q) : Met l yX4_doByLot (wsU yX4_doByLot cX4_doByLot 3 none) rm_X4_doByLot (va_Pc [.ref (h 1000), .int x1] (gP D cA true keysC h (wC h cA) S sz)) (va_Qv Q (wB D (wC h cA)) (aK keysC h sz)) 0 0 (aK keysC h sz) :=
  mk_v (by decide) hk (Nat.le_of_ble_eq_true rfl) (fun p e s m below meth c Z ls C0 hret hP hS hl => bk_X4_doByLot C0 hret hP hS hd hl)
abbrev rm_X4_dreams : Room := { frames := 1, cells := 0, slots := 0, locals := 26 }
def wp_X4_dreams (x1 : Int32) (x2 : Int32) (S : sT) (Q : Int32 → sT → Prop) : Prop :=
  wp_X4_isBelow x1 (vI S 26) S (fun r_1 S_1 => ((r_1 = 0 → Q (-1 : Int32) S_1) ∧ (¬ r_1 = 0 → wp_X4_isBelow x2 (100 : Int32) S_1 (fun r_2 S_2 => ((¬ r_2 = 0 → (vp_in x1 6) ∧ (vp_in x1 6) ∧ wp_X4_wouldDream (vA S_2 20 x1.toNatClampNeg) (vA S_2 22 x1.toNatClampNeg) x2 S_2 (fun r_5 S_5 => wp_X4_bit r_5 S_5 (fun r_6 S_6 => Q r_6 S_6))) ∧ (r_2 = 0 → Q (-1 : Int32) S_2))))))
set_option maxHeartbeats 4000000 in
set_option maxRecDepth 100000 in
theorem bk_X4_dreams {p : Program} {l : Launch} {e : Env} {s : State} {m : MethodId} {args : Array Value} {below : List Frame} {meth : Method} {c : Code} {Z : State → Prop} {D : va_G} {cA : Nat → ClassId} {h : Nat → Nat} {Q : Int32 → sT → Prop} (C0 : cx p s m args c cX4_dreams 3 RX4 D cA true keysC h) (hret : rtI p l e rm_X4_dreams s m args below meth c cX4_dreams Z D (wC h cA) (aK keysC h s.heap.size) Q) {x1 : Int32} {x2 : Int32} {S : sT} {H : Heap} {locs : List Loc} {ls : Array Slot} (hP : va_P D vwCl (wC h cA S) H) (hS : va_S (aK keysC h s.heap.size) s.heap H locs) (hd : wp_X4_dreams x1 x2 S Q) (hl : lv_has ls 3 [(0, .ref (h 1000)), (1, .int x1), (2, .int x2)]) : W p l e rm_X4_dreams s m args below meth c H locs 0 0 Z (F0 m 0 ls []) := by
  obtain ⟨⟨hx, hb, hml, hown, hts⟩, hK, -, -⟩ := id C0
  unfold wp_X4_dreams at hd
  refine lv_iload_n hx hb dX4_dreams_0 rfl (lv_at hl 1 rfl) ?_
  refine lv_aload_n hx hb dX4_dreams_1 rfl (lv_at hl 0 rfl) ?_
  refine gf_X4_24 C0 hP dX4_dreams_2 ?_
  refine gf_X4_129_0 C0 hP dX4_dreams_5 ?_
  refine cl_Si (n := 2) (rest := []) C0 hP hS (c_X4_isBelow l C0.2.2.1 _ hd) (lwG_S lm_X4_132 ls_X4_isBelow lz_RX4 lc_X4_isBelow) (by decide +kernel) rfl rfl (Nat.le_of_ble_eq_true rfl) ⟨rfl, rfl⟩ ⟨by decide, by decide⟩ dX4_dreams_8 hl.1 ⟨Nat.zero_le _, Nat.zero_le _⟩ (fun r_1 S_1 H locs hd hP hS => ?_)
  refine lv_if_eq (tgt := 23) hx hb dX4_dreams_11 (by decide) (fun hc => ?_) (fun hc => ?_)
  · have hd := hd.1 hc
    refine lv_iconst (v := (-1)) hx hb dX4_dreams_23 (by decide) ?_
    exact hret _ _ _ _ _ _ hd hP hS dX4_dreams_24
  · have hd := hd.2 hc
    refine lv_iload_n hx hb dX4_dreams_14 rfl (lv_at hl 2 rfl) ?_
    refine lv_bipush (v := 100) hx hb dX4_dreams_15 (by decide) ?_
    refine cl_Si (n := 2) (rest := []) C0 hP hS (c_X4_isBelow l C0.2.2.1 _ hd) (lwG_S lm_X4_132 ls_X4_isBelow lz_RX4 lc_X4_isBelow) (by decide +kernel) rfl rfl (Nat.le_of_ble_eq_true rfl) ⟨rfl, rfl⟩ ⟨by decide, by decide⟩ dX4_dreams_17 hl.1 ⟨Nat.zero_le _, Nat.zero_le _⟩ (fun r_2 S_2 H locs hd hP hS => ?_)
    refine lv_if_ne (tgt := 25) hx hb dX4_dreams_20 (by decide) (fun hc => ?_) (fun hc => ?_)
    · have hd := hd.1 hc
      refine lv_aload_n hx hb dX4_dreams_25 rfl (lv_at hl 0 rfl) ?_
      refine gf_X4_24 C0 hP dX4_dreams_26 ?_
      refine gf_X4_140_0 C0 hP dX4_dreams_29 ?_
      refine lv_iload_n hx hb dX4_dreams_32 rfl (lv_at hl 1 rfl) ?_
      obtain ⟨h_3, hd⟩ := hd
      refine ldC (by decide) C0 hP h_3 dX4_dreams_33 ?_
      refine lv_aload_n hx hb dX4_dreams_34 rfl (lv_at hl 0 rfl) ?_
      refine gf_X4_24 C0 hP dX4_dreams_35 ?_
      refine gf_X4_146_0 C0 hP dX4_dreams_38 ?_
      refine lv_iload_n hx hb dX4_dreams_41 rfl (lv_at hl 1 rfl) ?_
      obtain ⟨h_4, hd⟩ := hd
      refine ldC (by decide) C0 hP h_4 dX4_dreams_42 ?_
      refine lv_iload_n hx hb dX4_dreams_43 rfl (lv_at hl 2 rfl) ?_
      refine cl_Si (n := 3) (rest := []) C0 hP hS (c_X4_wouldDream l C0.2.2.1 _ hd) (lwG_S lm_X4_155 ls_X4_wouldDream lz_RX4 lc_X4_wouldDream) (by decide +kernel) rfl rfl (Nat.le_of_ble_eq_true rfl) ⟨rfl, rfl⟩ ⟨by decide, by decide⟩ dX4_dreams_44 hl.1 ⟨Nat.zero_le _, Nat.zero_le _⟩ (fun r_5 S_5 H locs hd hP hS => ?_)
      refine cl_Si (n := 1) (rest := []) C0 hP hS (c_X4_bit l C0.2.2.1 _ hd) (lwG_S lm_X4_158 ls_X4_bit lz_RX4 lc_X4_bit) (by decide +kernel) rfl rfl (Nat.le_of_ble_eq_true rfl) ⟨rfl, rfl⟩ ⟨by decide, by decide⟩ dX4_dreams_47 hl.1 ⟨Nat.zero_le _, Nat.zero_le _⟩ (fun r_6 S_6 H locs hd hP hS => ?_)
      exact hret _ _ _ _ _ _ hd hP hS dX4_dreams_50
    · have hd := hd.2 hc
      refine lv_iconst (v := (-1)) hx hb dX4_dreams_23 (by decide) ?_
      exact hret _ _ _ _ _ _ hd hP hS dX4_dreams_24
theorem c_X4_dreams (l : Launch) {D : va_G} {cA : Nat → ClassId} {h : Nat → Nat} (hk : ky keysC h) {x1 : Int32} {x2 : Int32} {S : sT} (sz : Nat) {Q : Int32 → sT → Prop} (hd : wp_X4_dreams x1 x2 S Q) : Met l yX4_dreams (wsU yX4_dreams cX4_dreams 3 (some .int)) rm_X4_dreams (va_Pc [.ref (h 1000), .int x1, .int x2] (gP D cA true keysC h (wC h cA) S sz)) (va_Qi Q (wB D (wC h cA)) (aK keysC h sz)) 0 0 (aK keysC h sz) :=
  mk_i (by decide) hk (Nat.le_of_ble_eq_true rfl) (fun p e s m below meth c Z ls C0 hret hP hS hl => bk_X4_dreams C0 hret hP hS hd hl)
abbrev rm_X4_dreamtMinutes : Room := { frames := 1, cells := 0, slots := 0, locals := 26 }
def wb_X4_dreamtMinutes_4 (Q : Int32 → sT → Prop) (K4 : Int32 → Int32 → Int32 → Int32 → sT → Prop) (x0 : Int32) (x1 : Int32) (x2 : Int32) (x3 : Int32) (S : sT) : Prop :=
  (((60 : Int32) ≤ x3 → Q x2 S) ∧ (¬ (60 : Int32) ≤ x3 → wp_X4_wouldDream x0 x1 x3 S (fun r_1 S_1 => wp_X4_bit r_1 S_1 (fun r_2 S_2 => K4 x0 x1 (x2 + r_2) (x3 + (1 : Int32)) S_2))))
set_option maxHeartbeats 4000000 in
set_option maxRecDepth 100000 in
theorem bk_X4_dreamtMinutes_4 {p : Program} {l : Launch} {e : Env} {s : State} {m : MethodId} {args : Array Value} {below : List Frame} {meth : Method} {c : Code} {Z : State → Prop} {D : va_G} {cA : Nat → ClassId} {h : Nat → Nat} {Q : Int32 → sT → Prop} (C0 : cx p s m args c cX4_dreamtMinutes 4 RX4 D cA true keysC h) (hret : rtI p l e rm_X4_dreamtMinutes s m args below meth c cX4_dreamtMinutes Z D (wC h cA) (aK keysC h s.heap.size) Q) {K4 : Int32 → Int32 → Int32 → Int32 → sT → Prop} (k4 : ∀ (x0 : Int32) (x1 : Int32) (x2 : Int32) (x3 : Int32) (S : sT) (H : Heap) (locs : List Loc) (ls : Array Slot), K4 x0 x1 x2 x3 S → va_P D vwCl (wC h cA S) H → va_S (aK keysC h s.heap.size) s.heap H locs → lv_has ls 4 [(0, .int x0), (1, .int x1), (2, .int x2), (3, .int x3)] → W p l e rm_X4_dreamtMinutes s m args below meth c H locs 0 0 Z (F0 m 4 ls [])) {x0 : Int32} {x1 : Int32} {x2 : Int32} {x3 : Int32} {S : sT} {H : Heap} {locs : List Loc} {ls : Array Slot} (hP : va_P D vwCl (wC h cA S) H) (hS : va_S (aK keysC h s.heap.size) s.heap H locs) (hd : wb_X4_dreamtMinutes_4 Q K4 x0 x1 x2 x3 S) (hl : lv_has ls 4 [(0, .int x0), (1, .int x1), (2, .int x2), (3, .int x3)]) : W p l e rm_X4_dreamtMinutes s m args below meth c H locs 0 0 Z (F0 m 4 ls []) := by
  obtain ⟨⟨hx, hb, hml, hown, hts⟩, hK, -, -⟩ := id C0
  unfold wb_X4_dreamtMinutes_4 at hd
  refine lv_iload_n hx hb dX4_dreamtMinutes_4 rfl (lv_at hl 3 rfl) ?_
  refine lv_bipush (v := 60) hx hb dX4_dreamtMinutes_5 (by decide) ?_
  refine lv_icmp_ge (tgt := 28) hx hb dX4_dreamtMinutes_7 (by decide) (fun hc => ?_) (fun hc => ?_)
  · have hd := hd.1 hc
    refine lv_iload_n hx hb dX4_dreamtMinutes_28 rfl (lv_at hl 2 rfl) ?_
    exact hret _ _ _ _ _ _ hd hP hS dX4_dreamtMinutes_29
  · have hd := hd.2 hc
    refine lv_iload_n hx hb dX4_dreamtMinutes_10 rfl (lv_at hl 2 rfl) ?_
    refine lv_iload_n hx hb dX4_dreamtMinutes_11 rfl (lv_at hl 0 rfl) ?_
    refine lv_iload_n hx hb dX4_dreamtMinutes_12 rfl (lv_at hl 1 rfl) ?_
    refine lv_iload_n hx hb dX4_dreamtMinutes_13 rfl (lv_at hl 3 rfl) ?_
    refine cl_Si (n := 3) (rest := [.int x2]) C0 hP hS (c_X4_wouldDream l C0.2.2.1 _ hd) (lwG_S lm_X4_155 ls_X4_wouldDream lz_RX4 lc_X4_wouldDream) (by decide +kernel) rfl rfl (Nat.le_of_ble_eq_true rfl) ⟨rfl, rfl⟩ ⟨by decide, by decide⟩ dX4_dreamtMinutes_14 hl.1 ⟨Nat.zero_le _, Nat.zero_le _⟩ (fun r_1 S_1 H locs hd hP hS => ?_)
    refine cl_Si (n := 1) (rest := [.int x2]) C0 hP hS (c_X4_bit l C0.2.2.1 _ hd) (lwG_S lm_X4_158 ls_X4_bit lz_RX4 lc_X4_bit) (by decide +kernel) rfl rfl (Nat.le_of_ble_eq_true rfl) ⟨rfl, rfl⟩ ⟨by decide, by decide⟩ dX4_dreamtMinutes_17 hl.1 ⟨Nat.zero_le _, Nat.zero_le _⟩ (fun r_2 S_2 H locs hd hP hS => ?_)
    refine lv_iadd hx hb dX4_dreamtMinutes_20 ?_
    refine lv_istore_n (lv' := [(2, .int (x2 + r_2)), (0, .int x0), (1, .int x1), (3, .int x3)]) hx hb dX4_dreamtMinutes_21 rfl hl (by decide) rfl (fun ls hl => ?_)
    refine lv_iinc (v := x3 + (1 : Int32)) (lv' := [(3, .int (x3 + (1 : Int32))), (2, .int (x2 + r_2)), (0, .int x0), (1, .int x1)]) hx hb dX4_dreamtMinutes_22 hl (k := 3) rfl rfl (by decide) rfl (fun ls hl => ?_)
    refine lv_goto (tgt := 4) hx hb dX4_dreamtMinutes_25 (by decide) ?_
    exact k4 _ _ _ _ _ _ _ _ hd hP hS (lv_sub hl [2, 3, 1, 0] rfl)
def wl_X4_dreamtMinutes_4 (Q : Int32 → sT → Prop) : Nat → Int32 → Int32 → Int32 → Int32 → sT → Prop
  | 0, _, _, _, _ => fun _ => False
  | n + 1, x0, x1, x2, x3 => fun S => wb_X4_dreamtMinutes_4 Q (fun x0 x1 x2 x3 S => wl_X4_dreamtMinutes_4 Q n x0 x1 x2 x3 S) x0 x1 x2 x3 S
theorem bl_X4_dreamtMinutes_4 {p : Program} {l : Launch} {e : Env} {s : State} {m : MethodId} {args : Array Value} {below : List Frame} {meth : Method} {c : Code} {Z : State → Prop} {D : va_G} {cA : Nat → ClassId} {h : Nat → Nat} {Q : Int32 → sT → Prop} (C0 : cx p s m args c cX4_dreamtMinutes 4 RX4 D cA true keysC h) (hret : rtI p l e rm_X4_dreamtMinutes s m args below meth c cX4_dreamtMinutes Z D (wC h cA) (aK keysC h s.heap.size) Q) : ∀ (n : Nat) (x0 : Int32) (x1 : Int32) (x2 : Int32) (x3 : Int32) (S : sT) (H : Heap) (locs : List Loc) (ls : Array Slot), va_P D vwCl (wC h cA S) H → va_S (aK keysC h s.heap.size) s.heap H locs → wl_X4_dreamtMinutes_4 Q n x0 x1 x2 x3 S → lv_has ls 4 [(0, .int x0), (1, .int x1), (2, .int x2), (3, .int x3)] → W p l e rm_X4_dreamtMinutes s m args below meth c H locs 0 0 Z (F0 m 4 ls []) := by
  intro n
  induction n with
  | zero => intro x0 x1 x2 x3 S H locs ls hP hS hd hl; exact (show False from hd).elim
  | succ n ih => intro x0 x1 x2 x3 S H locs ls hP hS hd hl; exact bk_X4_dreamtMinutes_4 C0 hret (fun x0 x1 x2 x3 S H locs ls hd hP hS hl => ih x0 x1 x2 x3 S H locs ls hP hS hd hl) hP hS hd hl
def wp_X4_dreamtMinutes (x0 : Int32) (x1 : Int32) (S : sT) (Q : Int32 → sT → Prop) : Prop :=
  ∃ n : Nat, wl_X4_dreamtMinutes_4 Q n x0 x1 (0 : Int32) (0 : Int32) S
set_option maxHeartbeats 4000000 in
set_option maxRecDepth 100000 in
theorem bk_X4_dreamtMinutes {p : Program} {l : Launch} {e : Env} {s : State} {m : MethodId} {args : Array Value} {below : List Frame} {meth : Method} {c : Code} {Z : State → Prop} {D : va_G} {cA : Nat → ClassId} {h : Nat → Nat} {Q : Int32 → sT → Prop} (C0 : cx p s m args c cX4_dreamtMinutes 4 RX4 D cA true keysC h) (hret : rtI p l e rm_X4_dreamtMinutes s m args below meth c cX4_dreamtMinutes Z D (wC h cA) (aK keysC h s.heap.size) Q) {x0 : Int32} {x1 : Int32} {S : sT} {H : Heap} {locs : List Loc} {ls : Array Slot} (hP : va_P D vwCl (wC h cA S) H) (hS : va_S (aK keysC h s.heap.size) s.heap H locs) (hd : wp_X4_dreamtMinutes x0 x1 S Q) (hl : lv_has ls 4 [(0, .int x0), (1, .int x1)]) : W p l e rm_X4_dreamtMinutes s m args below meth c H locs 0 0 Z (F0 m 0 ls []) := by
  obtain ⟨⟨hx, hb, hml, hown, hts⟩, hK, -, -⟩ := id C0
  unfold wp_X4_dreamtMinutes at hd
  refine lv_iconst (v := 0) hx hb dX4_dreamtMinutes_0 (by decide) ?_
  refine lv_istore_n (lv' := [(2, .int (0 : Int32)), (0, .int x0), (1, .int x1)]) hx hb dX4_dreamtMinutes_1 rfl hl (by decide) rfl (fun ls hl => ?_)
  refine lv_iconst (v := 0) hx hb dX4_dreamtMinutes_2 (by decide) ?_
  refine lv_istore_n (lv' := [(3, .int (0 : Int32)), (2, .int (0 : Int32)), (0, .int x0), (1, .int x1)]) hx hb dX4_dreamtMinutes_3 rfl hl (by decide) rfl (fun ls hl => ?_)
  obtain ⟨n_1, hd⟩ := hd
  exact bl_X4_dreamtMinutes_4 C0 hret _ _ _ _ _ _ _ _ _ hP hS hd (lv_sub hl [2, 3, 1, 0] rfl)
theorem c_X4_dreamtMinutes (l : Launch) {D : va_G} {cA : Nat → ClassId} {h : Nat → Nat} (hk : ky keysC h) {x0 : Int32} {x1 : Int32} {S : sT} (sz : Nat) {Q : Int32 → sT → Prop} (hd : wp_X4_dreamtMinutes x0 x1 S Q) : Met l yX4_dreamtMinutes (wsU yX4_dreamtMinutes cX4_dreamtMinutes 4 (some .int)) rm_X4_dreamtMinutes (va_Pc [.int x0, .int x1] (gP D cA true keysC h (wC h cA) S sz)) (va_Qi Q (wB D (wC h cA)) (aK keysC h sz)) 0 0 (aK keysC h sz) :=
  mk_i (by decide) hk (Nat.le_of_ble_eq_true rfl) (fun p e s m below meth c Z ls C0 hret hP hS hl => bk_X4_dreamtMinutes C0 hret hP hS hd hl)
abbrev rm_X4_playTurn : Room := { frames := 1, cells := 0, slots := 0, locals := 24 }
def wb_X4_playTurn_114 (Q : sT → Prop) (K2 : Int32 → Int32 → Int32 → sT → Prop) (K28 : Int32 → Int32 → Int32 → Int32 → Int32 → sT → Prop) (x1 : Int32) (x2 : Int32) (x3 : Int32) (x4 : Int32) (x5 : Int32) (S : sT) : Prop :=
  K28 x1 x2 x3 x4 (x5 + (1 : Int32)) S
set_option maxHeartbeats 4000000 in
set_option maxRecDepth 100000 in
theorem bk_X4_playTurn_114 {p : Program} {l : Launch} {e : Env} {s : State} {m : MethodId} {args : Array Value} {below : List Frame} {meth : Method} {c : Code} {Z : State → Prop} {D : va_G} {cA : Nat → ClassId} {h : Nat → Nat} {Q : sT → Prop} (C0 : cx p s m args c cX4_playTurn 9 RX4 D cA true keysC h) (hret : rtV p l e rm_X4_playTurn s m args below meth c cX4_playTurn Z D (wC h cA) (aK keysC h s.heap.size) Q) {K2 : Int32 → Int32 → Int32 → sT → Prop} {K28 : Int32 → Int32 → Int32 → Int32 → Int32 → sT → Prop} (k2 : ∀ (x1 : Int32) (x2 : Int32) (x3 : Int32) (S : sT) (H : Heap) (locs : List Loc) (ls : Array Slot), K2 x1 x2 x3 S → va_P D vwCl (wC h cA S) H → va_S (aK keysC h s.heap.size) s.heap H locs → lv_has ls 9 [(0, .ref (h 1000)), (1, .int x1), (2, .int x2), (3, .int x3)] → W p l e rm_X4_playTurn s m args below meth c H locs 0 0 Z (F0 m 2 ls [])) (k28 : ∀ (x1 : Int32) (x2 : Int32) (x3 : Int32) (x4 : Int32) (x5 : Int32) (S : sT) (H : Heap) (locs : List Loc) (ls : Array Slot), K28 x1 x2 x3 x4 x5 S → va_P D vwCl (wC h cA S) H → va_S (aK keysC h s.heap.size) s.heap H locs → lv_has ls 9 [(0, .ref (h 1000)), (1, .int x1), (2, .int x2), (3, .int x3), (4, .int x4), (5, .int x5)] → W p l e rm_X4_playTurn s m args below meth c H locs 0 0 Z (F0 m 28 ls [])) {x1 : Int32} {x2 : Int32} {x3 : Int32} {x4 : Int32} {x5 : Int32} {S : sT} {H : Heap} {locs : List Loc} {ls : Array Slot} (hP : va_P D vwCl (wC h cA S) H) (hS : va_S (aK keysC h s.heap.size) s.heap H locs) (hd : wb_X4_playTurn_114 Q K2 K28 x1 x2 x3 x4 x5 S) (hl : lv_has ls 9 [(0, .ref (h 1000)), (1, .int x1), (2, .int x2), (3, .int x3), (4, .int x4), (5, .int x5)]) : W p l e rm_X4_playTurn s m args below meth c H locs 0 0 Z (F0 m 114 ls []) := by
  obtain ⟨⟨hx, hb, hml, hown, hts⟩, hK, -, -⟩ := id C0
  unfold wb_X4_playTurn_114 at hd
  refine lv_iinc (v := x5 + (1 : Int32)) (lv' := [(5, .int (x5 + (1 : Int32))), (0, .ref (h 1000)), (1, .int x1), (2, .int x2), (3, .int x3), (4, .int x4)]) hx hb dX4_playTurn_114 hl (k := 5) rfl rfl (by decide) rfl (fun ls hl => ?_)
  refine lv_goto (tgt := 28) hx hb dX4_playTurn_117 (by decide) ?_
  exact k28 _ _ _ _ _ _ _ _ _ hd hP hS (lv_sub hl [1, 2, 3, 4, 5, 0] rfl)
def wb_X4_playTurn_96 (Q : sT → Prop) (K2 : Int32 → Int32 → Int32 → sT → Prop) (K28 : Int32 → Int32 → Int32 → Int32 → Int32 → sT → Prop) (x1 : Int32) (x2 : Int32) (x3 : Int32) (x4 : Int32) (x5 : Int32) (x7 : Int32) (x8 : Int32) (S : sT) : Prop :=
  ((¬ x2 = 0 → wb_X4_playTurn_114 Q K2 K28 x1 x2 x3 x4 x5 S) ∧ (x2 = 0 → ((¬ x8 = 0 → wb_X4_playTurn_114 Q K2 K28 x1 x2 x3 x4 x5 S) ∧ (x8 = 0 → wb_X4_playTurn_114 Q K2 K28 x1 x2 x3 (if x7 < x4 then x7 else x4) x5 S))))
set_option maxHeartbeats 4000000 in
set_option maxRecDepth 100000 in
theorem bk_X4_playTurn_96 {p : Program} {l : Launch} {e : Env} {s : State} {m : MethodId} {args : Array Value} {below : List Frame} {meth : Method} {c : Code} {Z : State → Prop} {D : va_G} {cA : Nat → ClassId} {h : Nat → Nat} {Q : sT → Prop} (C0 : cx p s m args c cX4_playTurn 9 RX4 D cA true keysC h) (hret : rtV p l e rm_X4_playTurn s m args below meth c cX4_playTurn Z D (wC h cA) (aK keysC h s.heap.size) Q) {K2 : Int32 → Int32 → Int32 → sT → Prop} {K28 : Int32 → Int32 → Int32 → Int32 → Int32 → sT → Prop} (k2 : ∀ (x1 : Int32) (x2 : Int32) (x3 : Int32) (S : sT) (H : Heap) (locs : List Loc) (ls : Array Slot), K2 x1 x2 x3 S → va_P D vwCl (wC h cA S) H → va_S (aK keysC h s.heap.size) s.heap H locs → lv_has ls 9 [(0, .ref (h 1000)), (1, .int x1), (2, .int x2), (3, .int x3)] → W p l e rm_X4_playTurn s m args below meth c H locs 0 0 Z (F0 m 2 ls [])) (k28 : ∀ (x1 : Int32) (x2 : Int32) (x3 : Int32) (x4 : Int32) (x5 : Int32) (S : sT) (H : Heap) (locs : List Loc) (ls : Array Slot), K28 x1 x2 x3 x4 x5 S → va_P D vwCl (wC h cA S) H → va_S (aK keysC h s.heap.size) s.heap H locs → lv_has ls 9 [(0, .ref (h 1000)), (1, .int x1), (2, .int x2), (3, .int x3), (4, .int x4), (5, .int x5)] → W p l e rm_X4_playTurn s m args below meth c H locs 0 0 Z (F0 m 28 ls [])) {x1 : Int32} {x2 : Int32} {x3 : Int32} {x4 : Int32} {x5 : Int32} {x7 : Int32} {x8 : Int32} {S : sT} {H : Heap} {locs : List Loc} {ls : Array Slot} (hP : va_P D vwCl (wC h cA S) H) (hS : va_S (aK keysC h s.heap.size) s.heap H locs) (hd : wb_X4_playTurn_96 Q K2 K28 x1 x2 x3 x4 x5 x7 x8 S) (hl : lv_has ls 9 [(0, .ref (h 1000)), (1, .int x1), (2, .int x2), (3, .int x3), (4, .int x4), (5, .int x5), (7, .int x7), (8, .int x8)]) : W p l e rm_X4_playTurn s m args below meth c H locs 0 0 Z (F0 m 96 ls []) := by
  obtain ⟨⟨hx, hb, hml, hown, hts⟩, hK, -, -⟩ := id C0
  unfold wb_X4_playTurn_96 at hd
  refine lv_iload_n hx hb dX4_playTurn_96 rfl (lv_at hl 2 rfl) ?_
  refine lv_if_ne (tgt := 114) hx hb dX4_playTurn_97 (by decide) (fun hc => ?_) (fun hc => ?_)
  · have hd := hd.1 hc
    exact bk_X4_playTurn_114 C0 hret k2 k28 hP hS hd (lv_sub hl [0, 1, 2, 3, 4, 5] rfl)
  · have hd := hd.2 hc
    refine lv_iload hx hb dX4_playTurn_100 (lv_at hl 7 rfl) ?_
    refine lv_if_ne (tgt := 114) hx hb dX4_playTurn_102 (by decide) (fun hc => ?_) (fun hc => ?_)
    · have hd := hd.1 hc
      exact bk_X4_playTurn_114 C0 hret k2 k28 hP hS hd (lv_sub hl [0, 1, 2, 3, 4, 5] rfl)
    · have hd := hd.2 hc
      refine lv_iload hx hb dX4_playTurn_105 (lv_at hl 4 rfl) ?_
      refine lv_iload hx hb dX4_playTurn_107 (lv_at hl 6 rfl) ?_
      refine va_mmin hx hb (by rw [hml]; exact hl.1.symm) hown (hts _ lm_X4_307) (hts _ ls_mmin) (hts _ lz_RJ9) (hts _ lc_mmin) (by decide) (Nat.le_of_ble_eq_true rfl) (Nat.zero_le _) (Nat.zero_le _) dX4_playTurn_109 ?_
      refine lv_istore (lv' := [(4, .int (if x7 < x4 then x7 else x4)), (0, .ref (h 1000)), (1, .int x1), (2, .int x2), (3, .int x3), (5, .int x5), (7, .int x7), (8, .int x8)]) hx hb dX4_playTurn_112 hl (by decide) rfl (fun ls hl => ?_)
      exact bk_X4_playTurn_114 C0 hret k2 k28 hP hS hd (lv_sub hl [1, 2, 3, 4, 0, 5] rfl)
def wb_X4_playTurn_73 (Q : sT → Prop) (K2 : Int32 → Int32 → Int32 → sT → Prop) (K28 : Int32 → Int32 → Int32 → Int32 → Int32 → sT → Prop) (x1 : Int32) (x2 : Int32) (x3 : Int32) (x4 : Int32) (x5 : Int32) (x7 : Int32) (y0 : Int32) (S : sT) : Prop :=
  ((x2 = 0 → wb_X4_playTurn_96 Q K2 K28 x1 x2 x3 x4 x5 x7 y0 S) ∧ (¬ x2 = 0 → ((y0 = 0 → wb_X4_playTurn_96 Q K2 K28 x1 x2 x3 x4 x5 x7 y0 S) ∧ (¬ y0 = 0 → wb_X4_playTurn_114 Q K2 K28 x1 x2 x3 (if x4 < x7 then x7 else x4) x5 S))))
set_option maxHeartbeats 4000000 in
set_option maxRecDepth 100000 in
theorem bk_X4_playTurn_73 {p : Program} {l : Launch} {e : Env} {s : State} {m : MethodId} {args : Array Value} {below : List Frame} {meth : Method} {c : Code} {Z : State → Prop} {D : va_G} {cA : Nat → ClassId} {h : Nat → Nat} {Q : sT → Prop} (C0 : cx p s m args c cX4_playTurn 9 RX4 D cA true keysC h) (hret : rtV p l e rm_X4_playTurn s m args below meth c cX4_playTurn Z D (wC h cA) (aK keysC h s.heap.size) Q) {K2 : Int32 → Int32 → Int32 → sT → Prop} {K28 : Int32 → Int32 → Int32 → Int32 → Int32 → sT → Prop} (k2 : ∀ (x1 : Int32) (x2 : Int32) (x3 : Int32) (S : sT) (H : Heap) (locs : List Loc) (ls : Array Slot), K2 x1 x2 x3 S → va_P D vwCl (wC h cA S) H → va_S (aK keysC h s.heap.size) s.heap H locs → lv_has ls 9 [(0, .ref (h 1000)), (1, .int x1), (2, .int x2), (3, .int x3)] → W p l e rm_X4_playTurn s m args below meth c H locs 0 0 Z (F0 m 2 ls [])) (k28 : ∀ (x1 : Int32) (x2 : Int32) (x3 : Int32) (x4 : Int32) (x5 : Int32) (S : sT) (H : Heap) (locs : List Loc) (ls : Array Slot), K28 x1 x2 x3 x4 x5 S → va_P D vwCl (wC h cA S) H → va_S (aK keysC h s.heap.size) s.heap H locs → lv_has ls 9 [(0, .ref (h 1000)), (1, .int x1), (2, .int x2), (3, .int x3), (4, .int x4), (5, .int x5)] → W p l e rm_X4_playTurn s m args below meth c H locs 0 0 Z (F0 m 28 ls [])) {x1 : Int32} {x2 : Int32} {x3 : Int32} {x4 : Int32} {x5 : Int32} {x7 : Int32} {y0 : Int32} {S : sT} {H : Heap} {locs : List Loc} {ls : Array Slot} (hP : va_P D vwCl (wC h cA S) H) (hS : va_S (aK keysC h s.heap.size) s.heap H locs) (hd : wb_X4_playTurn_73 Q K2 K28 x1 x2 x3 x4 x5 x7 y0 S) (hl : lv_has ls 9 [(0, .ref (h 1000)), (1, .int x1), (2, .int x2), (3, .int x3), (4, .int x4), (5, .int x5), (7, .int x7)]) : W p l e rm_X4_playTurn s m args below meth c H locs 0 0 Z (F0 m 73 ls [.int y0]) := by
  obtain ⟨⟨hx, hb, hml, hown, hts⟩, hK, -, -⟩ := id C0
  unfold wb_X4_playTurn_73 at hd
  refine lv_istore (lv' := [(8, .int y0), (0, .ref (h 1000)), (1, .int x1), (2, .int x2), (3, .int x3), (4, .int x4), (5, .int x5), (7, .int x7)]) hx hb dX4_playTurn_73 hl (by decide) rfl (fun ls hl => ?_)
  refine lv_iload_n hx hb dX4_playTurn_75 rfl (lv_at hl 3 rfl) ?_
  refine lv_if_eq (tgt := 96) hx hb dX4_playTurn_76 (by decide) (fun hc => ?_) (fun hc => ?_)
  · have hd := hd.1 hc
    exact bk_X4_playTurn_96 C0 hret k2 k28 hP hS hd (lv_sub hl [1, 2, 3, 4, 5, 6, 7, 0] rfl)
  · have hd := hd.2 hc
    refine lv_iload hx hb dX4_playTurn_79 (lv_at hl 0 rfl) ?_
    refine lv_if_eq (tgt := 96) hx hb dX4_playTurn_81 (by decide) (fun hc => ?_) (fun hc => ?_)
    · have hd := hd.1 hc
      exact bk_X4_playTurn_96 C0 hret k2 k28 hP hS hd (lv_sub hl [1, 2, 3, 4, 5, 6, 7, 0] rfl)
    · have hd := hd.2 hc
      refine lv_iload hx hb dX4_playTurn_84 (lv_at hl 5 rfl) ?_
      refine lv_iload hx hb dX4_playTurn_86 (lv_at hl 7 rfl) ?_
      refine va_mmax hx hb (by rw [hml]; exact hl.1.symm) hown (hts _ lm_X4_217) (hts _ ls_mmax) (hts _ lz_RJ9) (hts _ lc_mmax) (by decide) (Nat.le_of_ble_eq_true rfl) (Nat.zero_le _) (Nat.zero_le _) dX4_playTurn_88 ?_
      refine lv_istore (lv' := [(4, .int (if x4 < x7 then x7 else x4)), (8, .int y0), (0, .ref (h 1000)), (1, .int x1), (2, .int x2), (3, .int x3), (5, .int x5), (7, .int x7)]) hx hb dX4_playTurn_91 hl (by decide) rfl (fun ls hl => ?_)
      refine lv_goto (tgt := 114) hx hb dX4_playTurn_93 (by decide) ?_
      exact bk_X4_playTurn_114 C0 hret k2 k28 hP hS hd (lv_sub hl [2, 3, 4, 5, 0, 6] rfl)
def wb_X4_playTurn_28 (Q : sT → Prop) (K2 : Int32 → Int32 → Int32 → sT → Prop) (K28 : Int32 → Int32 → Int32 → Int32 → Int32 → sT → Prop) (x1 : Int32) (x2 : Int32) (x3 : Int32) (x4 : Int32) (x5 : Int32) (S : sT) : Prop :=
  (((vI S 26) ≤ x5 → (vp_in x1 5) ∧ (vp_in x3 64) ∧ K2 x1 x2 (x3 + (1 : Int32)) (uA S (330 + x1.toNatClampNeg) (upd (vA S (330 + x1.toNatClampNeg)) x3.toNatClampNeg x4))) ∧ (¬ (vI S 26) ≤ x5 → (vp_in (x1 - (1 : Int32)) 5) ∧ (vp_in (x3 ^^^ ((1 : Int32) <<< (x5 &&& 31))) 64) ∧ ∀ z_5 : Int32, z_5 = (vA S (330 + (x1 - (1 : Int32)).toNatClampNeg) (x3 ^^^ ((1 : Int32) <<< (x5 &&& 31))).toNatClampNeg) → (((x3 &&& ((1 : Int32) <<< (x5 &&& 31))) = 0 → wb_X4_playTurn_73 Q K2 K28 x1 x2 x3 x4 x5 z_5 (0 : Int32) S) ∧ (¬ (x3 &&& ((1 : Int32) <<< (x5 &&& 31))) = 0 → wb_X4_playTurn_73 Q K2 K28 x1 x2 x3 x4 x5 z_5 (1 : Int32) S))))
set_option maxHeartbeats 4000000 in
set_option maxRecDepth 100000 in
theorem bk_X4_playTurn_28 {p : Program} {l : Launch} {e : Env} {s : State} {m : MethodId} {args : Array Value} {below : List Frame} {meth : Method} {c : Code} {Z : State → Prop} {D : va_G} {cA : Nat → ClassId} {h : Nat → Nat} {Q : sT → Prop} (C0 : cx p s m args c cX4_playTurn 9 RX4 D cA true keysC h) (hret : rtV p l e rm_X4_playTurn s m args below meth c cX4_playTurn Z D (wC h cA) (aK keysC h s.heap.size) Q) {K2 : Int32 → Int32 → Int32 → sT → Prop} {K28 : Int32 → Int32 → Int32 → Int32 → Int32 → sT → Prop} (k2 : ∀ (x1 : Int32) (x2 : Int32) (x3 : Int32) (S : sT) (H : Heap) (locs : List Loc) (ls : Array Slot), K2 x1 x2 x3 S → va_P D vwCl (wC h cA S) H → va_S (aK keysC h s.heap.size) s.heap H locs → lv_has ls 9 [(0, .ref (h 1000)), (1, .int x1), (2, .int x2), (3, .int x3)] → W p l e rm_X4_playTurn s m args below meth c H locs 0 0 Z (F0 m 2 ls [])) (k28 : ∀ (x1 : Int32) (x2 : Int32) (x3 : Int32) (x4 : Int32) (x5 : Int32) (S : sT) (H : Heap) (locs : List Loc) (ls : Array Slot), K28 x1 x2 x3 x4 x5 S → va_P D vwCl (wC h cA S) H → va_S (aK keysC h s.heap.size) s.heap H locs → lv_has ls 9 [(0, .ref (h 1000)), (1, .int x1), (2, .int x2), (3, .int x3), (4, .int x4), (5, .int x5)] → W p l e rm_X4_playTurn s m args below meth c H locs 0 0 Z (F0 m 28 ls [])) {x1 : Int32} {x2 : Int32} {x3 : Int32} {x4 : Int32} {x5 : Int32} {S : sT} {H : Heap} {locs : List Loc} {ls : Array Slot} (hP : va_P D vwCl (wC h cA S) H) (hS : va_S (aK keysC h s.heap.size) s.heap H locs) (hd : wb_X4_playTurn_28 Q K2 K28 x1 x2 x3 x4 x5 S) (hl : lv_has ls 9 [(0, .ref (h 1000)), (1, .int x1), (2, .int x2), (3, .int x3), (4, .int x4), (5, .int x5)]) : W p l e rm_X4_playTurn s m args below meth c H locs 0 0 Z (F0 m 28 ls []) := by
  obtain ⟨⟨hx, hb, hml, hown, hts⟩, hK, -, -⟩ := id C0
  unfold wb_X4_playTurn_28 at hd
  refine lv_iload hx hb dX4_playTurn_28 (lv_at hl 5 rfl) ?_
  refine lv_aload_n hx hb dX4_playTurn_30 rfl (lv_at hl 0 rfl) ?_
  refine gf_X4_24 C0 hP dX4_playTurn_31 ?_
  refine gf_X4_129_0 C0 hP dX4_playTurn_34 ?_
  refine lv_icmp_ge (tgt := 120) hx hb dX4_playTurn_37 (by decide) (fun hc => ?_) (fun hc => ?_)
  · have hd := hd.1 hc
    refine lv_aload_n hx hb dX4_playTurn_120 rfl (lv_at hl 0 rfl) ?_
    refine gf_X4_63 C0 hP dX4_playTurn_121 ?_
    refine lv_iload_n hx hb dX4_playTurn_124 rfl (lv_at hl 1 rfl) ?_
    obtain ⟨h_1, hd⟩ := hd
    refine ao_1014 C0 hP h_1 dX4_playTurn_125 ?_
    refine lv_iload_n hx hb dX4_playTurn_126 rfl (lv_at hl 3 rfl) ?_
    refine lv_iload hx hb dX4_playTurn_127 (lv_at hl 4 rfl) ?_
    obtain ⟨h_2, hd⟩ := hd
    refine stC (kDue _ (vp_lt h_1)) C0 hP hS (by rw [lDue _ (vp_lt h_1)]; exact h_2) dX4_playTurn_129 (fun H locs hP hS => ?_)
    refine lv_iinc (v := x3 + (1 : Int32)) (lv' := [(3, .int (x3 + (1 : Int32))), (0, .ref (h 1000)), (1, .int x1), (2, .int x2), (4, .int x4), (5, .int x5)]) hx hb dX4_playTurn_130 hl (k := 3) rfl rfl (by decide) rfl (fun ls hl => ?_)
    refine lv_goto (tgt := 2) hx hb dX4_playTurn_133 (by decide) ?_
    exact k2 _ _ _ _ _ _ _ hd hP hS (lv_sub hl [1, 2, 3, 0] rfl)
  · have hd := hd.2 hc
    refine lv_iconst (v := 1) hx hb dX4_playTurn_40 (by decide) ?_
    refine lv_iload hx hb dX4_playTurn_41 (lv_at hl 5 rfl) ?_
    refine lv_ishl hx hb dX4_playTurn_43 ?_
    refine lv_istore (lv' := [(6, .int ((1 : Int32) <<< (x5 &&& 31))), (0, .ref (h 1000)), (1, .int x1), (2, .int x2), (3, .int x3), (4, .int x4), (5, .int x5)]) hx hb dX4_playTurn_44 hl (by decide) rfl (fun ls hl => ?_)
    refine lv_aload_n hx hb dX4_playTurn_46 rfl (lv_at hl 1 rfl) ?_
    refine gf_X4_63 C0 hP dX4_playTurn_47 ?_
    refine lv_iload_n hx hb dX4_playTurn_50 rfl (lv_at hl 2 rfl) ?_
    refine lv_iconst (v := 1) hx hb dX4_playTurn_51 (by decide) ?_
    refine lv_isub hx hb dX4_playTurn_52 ?_
    obtain ⟨h_3, hd⟩ := hd
    refine ao_1014 C0 hP h_3 dX4_playTurn_53 ?_
    refine lv_iload_n hx hb dX4_playTurn_54 rfl (lv_at hl 4 rfl) ?_
    refine lv_iload hx hb dX4_playTurn_55 (lv_at hl 0 rfl) ?_
    refine lv_ixor hx hb dX4_playTurn_57 ?_
    obtain ⟨h_4, hd⟩ := hd
    refine ldC (kDue _ (vp_lt h_3)) C0 hP (by rw [lDue _ (vp_lt h_3)]; exact h_4) dX4_playTurn_58 ?_
    refine lv_topi (fun z_5 ez_5 => ?_)
    have hd := hd z_5 ez_5
    refine lv_istore (lv' := [(7, .int z_5), (6, .int ((1 : Int32) <<< (x5 &&& 31))), (0, .ref (h 1000)), (1, .int x1), (2, .int x2), (3, .int x3), (4, .int x4), (5, .int x5)]) hx hb dX4_playTurn_59 hl (by decide) rfl (fun ls hl => ?_)
    refine lv_iload_n hx hb dX4_playTurn_61 rfl (lv_at hl 5 rfl) ?_
    refine lv_iload hx hb dX4_playTurn_62 (lv_at hl 1 rfl) ?_
    refine lv_iand hx hb dX4_playTurn_64 ?_
    refine lv_if_eq (tgt := 72) hx hb dX4_playTurn_65 (by decide) (fun hc => ?_) (fun hc => ?_)
    · have hd := hd.1 hc
      refine lv_iconst (v := 0) hx hb dX4_playTurn_72 (by decide) ?_
      exact bk_X4_playTurn_73 C0 hret k2 k28 hP hS hd (lv_sub hl [2, 3, 4, 5, 6, 7, 0] rfl)
    · have hd := hd.2 hc
      refine lv_iconst (v := 1) hx hb dX4_playTurn_68 (by decide) ?_
      refine lv_goto (tgt := 73) hx hb dX4_playTurn_69 (by decide) ?_
      exact bk_X4_playTurn_73 C0 hret k2 k28 hP hS hd (lv_sub hl [2, 3, 4, 5, 6, 7, 0] rfl)
def wl_X4_playTurn_28 (Q : sT → Prop) (K2 : Int32 → Int32 → Int32 → sT → Prop) : Nat → Int32 → Int32 → Int32 → Int32 → Int32 → sT → Prop
  | 0, _, _, _, _, _ => fun _ => False
  | n + 1, x1, x2, x3, x4, x5 => fun S => wb_X4_playTurn_28 Q K2 (fun x1 x2 x3 x4 x5 S => wl_X4_playTurn_28 Q K2 n x1 x2 x3 x4 x5 S) x1 x2 x3 x4 x5 S
theorem bl_X4_playTurn_28 {p : Program} {l : Launch} {e : Env} {s : State} {m : MethodId} {args : Array Value} {below : List Frame} {meth : Method} {c : Code} {Z : State → Prop} {D : va_G} {cA : Nat → ClassId} {h : Nat → Nat} {Q : sT → Prop} (C0 : cx p s m args c cX4_playTurn 9 RX4 D cA true keysC h) (hret : rtV p l e rm_X4_playTurn s m args below meth c cX4_playTurn Z D (wC h cA) (aK keysC h s.heap.size) Q) {K2 : Int32 → Int32 → Int32 → sT → Prop} (k2 : ∀ (x1 : Int32) (x2 : Int32) (x3 : Int32) (S : sT) (H : Heap) (locs : List Loc) (ls : Array Slot), K2 x1 x2 x3 S → va_P D vwCl (wC h cA S) H → va_S (aK keysC h s.heap.size) s.heap H locs → lv_has ls 9 [(0, .ref (h 1000)), (1, .int x1), (2, .int x2), (3, .int x3)] → W p l e rm_X4_playTurn s m args below meth c H locs 0 0 Z (F0 m 2 ls [])) : ∀ (n : Nat) (x1 : Int32) (x2 : Int32) (x3 : Int32) (x4 : Int32) (x5 : Int32) (S : sT) (H : Heap) (locs : List Loc) (ls : Array Slot), va_P D vwCl (wC h cA S) H → va_S (aK keysC h s.heap.size) s.heap H locs → wl_X4_playTurn_28 Q K2 n x1 x2 x3 x4 x5 S → lv_has ls 9 [(0, .ref (h 1000)), (1, .int x1), (2, .int x2), (3, .int x3), (4, .int x4), (5, .int x5)] → W p l e rm_X4_playTurn s m args below meth c H locs 0 0 Z (F0 m 28 ls []) := by
  intro n
  induction n with
  | zero => intro x1 x2 x3 x4 x5 S H locs ls hP hS hd hl; exact (show False from hd).elim
  | succ n ih => intro x1 x2 x3 x4 x5 S H locs ls hP hS hd hl; exact bk_X4_playTurn_28 C0 hret k2 (fun x1 x2 x3 x4 x5 S H locs ls hd hP hS hl => ih x1 x2 x3 x4 x5 S H locs ls hP hS hd hl) hP hS hd hl
def wb_X4_playTurn_2 (Q : sT → Prop) (K2 : Int32 → Int32 → Int32 → sT → Prop) (x1 : Int32) (x2 : Int32) (x3 : Int32) (S : sT) : Prop :=
  wp_X1_setCount 0 S (fun r_1 S_1 => ((r_1 ≤ x3 → Q S_1) ∧ (¬ r_1 ≤ x3 → (vp_in (x1 - (1 : Int32)) 5) ∧ (vp_in x3 64) ∧ ∃ n : Nat, wl_X4_playTurn_28 Q K2 n x1 x2 x3 (vA S_1 (330 + (x1 - (1 : Int32)).toNatClampNeg) x3.toNatClampNeg) (0 : Int32) S_1)))
set_option maxHeartbeats 4000000 in
set_option maxRecDepth 100000 in
theorem bk_X4_playTurn_2 {p : Program} {l : Launch} {e : Env} {s : State} {m : MethodId} {args : Array Value} {below : List Frame} {meth : Method} {c : Code} {Z : State → Prop} {D : va_G} {cA : Nat → ClassId} {h : Nat → Nat} {Q : sT → Prop} (C0 : cx p s m args c cX4_playTurn 9 RX4 D cA true keysC h) (hret : rtV p l e rm_X4_playTurn s m args below meth c cX4_playTurn Z D (wC h cA) (aK keysC h s.heap.size) Q) {K2 : Int32 → Int32 → Int32 → sT → Prop} (k2 : ∀ (x1 : Int32) (x2 : Int32) (x3 : Int32) (S : sT) (H : Heap) (locs : List Loc) (ls : Array Slot), K2 x1 x2 x3 S → va_P D vwCl (wC h cA S) H → va_S (aK keysC h s.heap.size) s.heap H locs → lv_has ls 9 [(0, .ref (h 1000)), (1, .int x1), (2, .int x2), (3, .int x3)] → W p l e rm_X4_playTurn s m args below meth c H locs 0 0 Z (F0 m 2 ls [])) {x1 : Int32} {x2 : Int32} {x3 : Int32} {S : sT} {H : Heap} {locs : List Loc} {ls : Array Slot} (hP : va_P D vwCl (wC h cA S) H) (hS : va_S (aK keysC h s.heap.size) s.heap H locs) (hd : wb_X4_playTurn_2 Q K2 x1 x2 x3 S) (hl : lv_has ls 9 [(0, .ref (h 1000)), (1, .int x1), (2, .int x2), (3, .int x3)]) : W p l e rm_X4_playTurn s m args below meth c H locs 0 0 Z (F0 m 2 ls []) := by
  obtain ⟨⟨hx, hb, hml, hown, hts⟩, hK, -, -⟩ := id C0
  unfold wb_X4_playTurn_2 at hd
  refine lv_iload_n hx hb dX4_playTurn_2 rfl (lv_at hl 3 rfl) ?_
  refine lv_aload_n hx hb dX4_playTurn_3 rfl (lv_at hl 0 rfl) ?_
  refine gf_X4_24 C0 hP dX4_playTurn_4 ?_
  refine cl_VNi (n := 0) (rest := [.int x3]) C0 hP hS (c_X1_setCount l C0.2.2.1 (by decide) _ hd) (lwG_C lc_X1_setCount) (by decide +kernel : (RX4, 222, yX1_setCount, "DreamTrain") ∈ nestM) lz_RX1 li_X1_setCount lx_X1_setCount (by decide +kernel) (oL_at h cA _ 0 (by decide)) rfl rfl rfl (Nat.le_of_ble_eq_true rfl) ⟨rfl, rfl⟩ ⟨by decide, by decide⟩ dX4_playTurn_7 hl.1 ⟨Nat.zero_le _, Nat.zero_le _⟩ (fun r_1 S_1 H locs hd hP hS => ?_)
  refine lv_icmp_ge (tgt := 136) hx hb dX4_playTurn_10 (by decide) (fun hc => ?_) (fun hc => ?_)
  · have hd := hd.1 hc
    exact hret _ _ _ _ _ hd hP hS dX4_playTurn_136
  · have hd := hd.2 hc
    refine lv_aload_n hx hb dX4_playTurn_13 rfl (lv_at hl 0 rfl) ?_
    refine gf_X4_63 C0 hP dX4_playTurn_14 ?_
    refine lv_iload_n hx hb dX4_playTurn_17 rfl (lv_at hl 1 rfl) ?_
    refine lv_iconst (v := 1) hx hb dX4_playTurn_18 (by decide) ?_
    refine lv_isub hx hb dX4_playTurn_19 ?_
    obtain ⟨h_2, hd⟩ := hd
    refine ao_1014 C0 hP h_2 dX4_playTurn_20 ?_
    refine lv_iload_n hx hb dX4_playTurn_21 rfl (lv_at hl 3 rfl) ?_
    obtain ⟨h_3, hd⟩ := hd
    refine ldC (kDue _ (vp_lt h_2)) C0 hP (by rw [lDue _ (vp_lt h_2)]; exact h_3) dX4_playTurn_22 ?_
    refine lv_istore (lv' := [(4, .int (vA S_1 (330 + (x1 - (1 : Int32)).toNatClampNeg) x3.toNatClampNeg)), (0, .ref (h 1000)), (1, .int x1), (2, .int x2), (3, .int x3)]) hx hb dX4_playTurn_23 hl (by decide) rfl (fun ls hl => ?_)
    refine lv_iconst (v := 0) hx hb dX4_playTurn_25 (by decide) ?_
    refine lv_istore (lv' := [(5, .int (0 : Int32)), (4, .int (vA S_1 (330 + (x1 - (1 : Int32)).toNatClampNeg) x3.toNatClampNeg)), (0, .ref (h 1000)), (1, .int x1), (2, .int x2), (3, .int x3)]) hx hb dX4_playTurn_26 hl (by decide) rfl (fun ls hl => ?_)
    obtain ⟨n_4, hd⟩ := hd
    exact bl_X4_playTurn_28 C0 hret k2 _ _ _ _ _ _ _ _ _ _ hP hS hd (lv_sub hl [2, 3, 4, 5, 1, 0] rfl)
def wl_X4_playTurn_2 (Q : sT → Prop) : Nat → Int32 → Int32 → Int32 → sT → Prop
  | 0, _, _, _ => fun _ => False
  | n + 1, x1, x2, x3 => fun S => wb_X4_playTurn_2 Q (fun x1 x2 x3 S => wl_X4_playTurn_2 Q n x1 x2 x3 S) x1 x2 x3 S
theorem bl_X4_playTurn_2 {p : Program} {l : Launch} {e : Env} {s : State} {m : MethodId} {args : Array Value} {below : List Frame} {meth : Method} {c : Code} {Z : State → Prop} {D : va_G} {cA : Nat → ClassId} {h : Nat → Nat} {Q : sT → Prop} (C0 : cx p s m args c cX4_playTurn 9 RX4 D cA true keysC h) (hret : rtV p l e rm_X4_playTurn s m args below meth c cX4_playTurn Z D (wC h cA) (aK keysC h s.heap.size) Q) : ∀ (n : Nat) (x1 : Int32) (x2 : Int32) (x3 : Int32) (S : sT) (H : Heap) (locs : List Loc) (ls : Array Slot), va_P D vwCl (wC h cA S) H → va_S (aK keysC h s.heap.size) s.heap H locs → wl_X4_playTurn_2 Q n x1 x2 x3 S → lv_has ls 9 [(0, .ref (h 1000)), (1, .int x1), (2, .int x2), (3, .int x3)] → W p l e rm_X4_playTurn s m args below meth c H locs 0 0 Z (F0 m 2 ls []) := by
  intro n
  induction n with
  | zero => intro x1 x2 x3 S H locs ls hP hS hd hl; exact (show False from hd).elim
  | succ n ih => intro x1 x2 x3 S H locs ls hP hS hd hl; exact bk_X4_playTurn_2 C0 hret (fun x1 x2 x3 S H locs ls hd hP hS hl => ih x1 x2 x3 S H locs ls hP hS hd hl) hP hS hd hl
def wp_X4_playTurn (x1 : Int32) (x2 : Int32) (S : sT) (Q : sT → Prop) : Prop :=
  ∃ n : Nat, wl_X4_playTurn_2 Q n x1 x2 (0 : Int32) S
set_option maxHeartbeats 4000000 in
set_option maxRecDepth 100000 in
theorem bk_X4_playTurn {p : Program} {l : Launch} {e : Env} {s : State} {m : MethodId} {args : Array Value} {below : List Frame} {meth : Method} {c : Code} {Z : State → Prop} {D : va_G} {cA : Nat → ClassId} {h : Nat → Nat} {Q : sT → Prop} (C0 : cx p s m args c cX4_playTurn 9 RX4 D cA true keysC h) (hret : rtV p l e rm_X4_playTurn s m args below meth c cX4_playTurn Z D (wC h cA) (aK keysC h s.heap.size) Q) {x1 : Int32} {x2 : Int32} {S : sT} {H : Heap} {locs : List Loc} {ls : Array Slot} (hP : va_P D vwCl (wC h cA S) H) (hS : va_S (aK keysC h s.heap.size) s.heap H locs) (hd : wp_X4_playTurn x1 x2 S Q) (hl : lv_has ls 9 [(0, .ref (h 1000)), (1, .int x1), (2, .int x2)]) : W p l e rm_X4_playTurn s m args below meth c H locs 0 0 Z (F0 m 0 ls []) := by
  obtain ⟨⟨hx, hb, hml, hown, hts⟩, hK, -, -⟩ := id C0
  unfold wp_X4_playTurn at hd
  refine lv_iconst (v := 0) hx hb dX4_playTurn_0 (by decide) ?_
  refine lv_istore_n (lv' := [(3, .int (0 : Int32)), (0, .ref (h 1000)), (1, .int x1), (2, .int x2)]) hx hb dX4_playTurn_1 rfl hl (by decide) rfl (fun ls hl => ?_)
  obtain ⟨n_1, hd⟩ := hd
  exact bl_X4_playTurn_2 C0 hret _ _ _ _ _ _ _ _ hP hS hd (lv_sub hl [1, 2, 3, 0] rfl)
theorem c_X4_playTurn (l : Launch) {D : va_G} {cA : Nat → ClassId} {h : Nat → Nat} (hk : ky keysC h) {x1 : Int32} {x2 : Int32} {S : sT} (sz : Nat) {Q : sT → Prop} (hd : wp_X4_playTurn x1 x2 S Q) : Met l yX4_playTurn (wsU yX4_playTurn cX4_playTurn 9 none) rm_X4_playTurn (va_Pc [.ref (h 1000), .int x1, .int x2] (gP D cA true keysC h (wC h cA) S sz)) (va_Qv Q (wB D (wC h cA)) (aK keysC h sz)) 0 0 (aK keysC h sz) :=
  mk_v (by decide) hk (Nat.le_of_ble_eq_true rfl) (fun p e s m below meth c Z ls C0 hret hP hS hl => bk_X4_playTurn C0 hret hP hS hd hl)
abbrev rm_X4_duel : Room := { frames := 3, cells := 0, slots := 0, locals := 73 }
def wb_X4_duel_91 (Q : Int32 → sT → Prop) (K73 : Int32 → Int32 → sT → Prop) (x1 : Int32) (x2 : Int32) (y0 : Int32) (S : sT) : Prop :=
  wp_X4_playTurn x2 y0 S (fun S_1 => K73 x1 (x2 + (1 : Int32)) S_1)
set_option maxHeartbeats 4000000 in
set_option maxRecDepth 100000 in
theorem bk_X4_duel_91 {p : Program} {l : Launch} {e : Env} {s : State} {m : MethodId} {args : Array Value} {below : List Frame} {meth : Method} {c : Code} {Z : State → Prop} {D : va_G} {cA : Nat → ClassId} {h : Nat → Nat} {Q : Int32 → sT → Prop} (C0 : cx p s m args c cX4_duel 4 RX4 D cA true keysC h) (hret : rtI p l e rm_X4_duel s m args below meth c cX4_duel Z D (wC h cA) (aK keysC h s.heap.size) Q) {K73 : Int32 → Int32 → sT → Prop} (k73 : ∀ (x1 : Int32) (x2 : Int32) (S : sT) (H : Heap) (locs : List Loc) (ls : Array Slot), K73 x1 x2 S → va_P D vwCl (wC h cA S) H → va_S (aK keysC h s.heap.size) s.heap H locs → lv_has ls 4 [(0, .ref (h 1000)), (1, .int x1), (2, .int x2)] → W p l e rm_X4_duel s m args below meth c H locs 0 0 Z (F0 m 73 ls [])) {x1 : Int32} {x2 : Int32} {y0 : Int32} {S : sT} {H : Heap} {locs : List Loc} {ls : Array Slot} (hP : va_P D vwCl (wC h cA S) H) (hS : va_S (aK keysC h s.heap.size) s.heap H locs) (hd : wb_X4_duel_91 Q K73 x1 x2 y0 S) (hl : lv_has ls 4 [(0, .ref (h 1000)), (1, .int x1), (2, .int x2)]) : W p l e rm_X4_duel s m args below meth c H locs 0 0 Z (F0 m 91 ls [.int y0]) := by
  obtain ⟨⟨hx, hb, hml, hown, hts⟩, hK, -, -⟩ := id C0
  unfold wb_X4_duel_91 at hd
  refine lv_istore_n (lv' := [(3, .int y0), (0, .ref (h 1000)), (1, .int x1), (2, .int x2)]) hx hb dX4_duel_91 rfl hl (by decide) rfl (fun ls hl => ?_)
  refine lv_aload_n hx hb dX4_duel_92 rfl (lv_at hl 1 rfl) ?_
  refine lv_iload_n hx hb dX4_duel_93 rfl (lv_at hl 3 rfl) ?_
  refine lv_iload_n hx hb dX4_duel_94 rfl (lv_at hl 0 rfl) ?_
  refine cl_Vv (n := 2) (rest := []) C0 hP hS (c_X4_playTurn l C0.2.2.1 _ hd) (lwG_V lm_X4_264 li_X4_playTurn lx_X4_playTurn lz_RX4 lc_X4_playTurn) (by decide +kernel) (oD_at h cA _) rfl rfl rfl (Nat.le_of_ble_eq_true rfl) ⟨rfl, rfl⟩ ⟨by decide, by decide⟩ dX4_duel_95 hl.1 ⟨Nat.zero_le _, Nat.zero_le _⟩ (fun S_1 H locs hd hP hS => ?_)
  refine lv_iinc (v := x2 + (1 : Int32)) (lv' := [(2, .int (x2 + (1 : Int32))), (3, .int y0), (0, .ref (h 1000)), (1, .int x1)]) hx hb dX4_duel_98 hl (k := 3) rfl rfl (by decide) rfl (fun ls hl => ?_)
  refine lv_goto (tgt := 73) hx hb dX4_duel_101 (by decide) ?_
  exact k73 _ _ _ _ _ _ hd hP hS (lv_sub hl [2, 3, 0] rfl)
def wb_X4_duel_73 (Q : Int32 → sT → Prop) (K73 : Int32 → Int32 → sT → Prop) (x1 : Int32) (x2 : Int32) (S : sT) : Prop :=
  ((x1 < x2 → (vp_in x1 5) ∧ (vp_in (vI S 29) 64) ∧ Q (vA S (330 + x1.toNatClampNeg) (vI S 29).toNatClampNeg) S) ∧ (¬ x1 < x2 → ((¬ ((x1 - x2) - (x1 - x2) / (2 : Int32) * (2 : Int32)) = 0 → wb_X4_duel_91 Q K73 x1 x2 (0 : Int32) S) ∧ (((x1 - x2) - (x1 - x2) / (2 : Int32) * (2 : Int32)) = 0 → wb_X4_duel_91 Q K73 x1 x2 (1 : Int32) S))))
set_option maxHeartbeats 4000000 in
set_option maxRecDepth 100000 in
theorem bk_X4_duel_73 {p : Program} {l : Launch} {e : Env} {s : State} {m : MethodId} {args : Array Value} {below : List Frame} {meth : Method} {c : Code} {Z : State → Prop} {D : va_G} {cA : Nat → ClassId} {h : Nat → Nat} {Q : Int32 → sT → Prop} (C0 : cx p s m args c cX4_duel 4 RX4 D cA true keysC h) (hret : rtI p l e rm_X4_duel s m args below meth c cX4_duel Z D (wC h cA) (aK keysC h s.heap.size) Q) {K73 : Int32 → Int32 → sT → Prop} (k73 : ∀ (x1 : Int32) (x2 : Int32) (S : sT) (H : Heap) (locs : List Loc) (ls : Array Slot), K73 x1 x2 S → va_P D vwCl (wC h cA S) H → va_S (aK keysC h s.heap.size) s.heap H locs → lv_has ls 4 [(0, .ref (h 1000)), (1, .int x1), (2, .int x2)] → W p l e rm_X4_duel s m args below meth c H locs 0 0 Z (F0 m 73 ls [])) {x1 : Int32} {x2 : Int32} {S : sT} {H : Heap} {locs : List Loc} {ls : Array Slot} (hP : va_P D vwCl (wC h cA S) H) (hS : va_S (aK keysC h s.heap.size) s.heap H locs) (hd : wb_X4_duel_73 Q K73 x1 x2 S) (hl : lv_has ls 4 [(0, .ref (h 1000)), (1, .int x1), (2, .int x2)]) : W p l e rm_X4_duel s m args below meth c H locs 0 0 Z (F0 m 73 ls []) := by
  obtain ⟨⟨hx, hb, hml, hown, hts⟩, hK, -, -⟩ := id C0
  unfold wb_X4_duel_73 at hd
  refine lv_iload_n hx hb dX4_duel_73 rfl (lv_at hl 2 rfl) ?_
  refine lv_iload_n hx hb dX4_duel_74 rfl (lv_at hl 1 rfl) ?_
  refine lv_icmp_gt (tgt := 104) hx hb dX4_duel_75 (by decide) (fun hc => ?_) (fun hc => ?_)
  · have hd := hd.1 hc
    refine lv_aload_n hx hb dX4_duel_104 rfl (lv_at hl 0 rfl) ?_
    refine gf_X4_63 C0 hP dX4_duel_105 ?_
    refine lv_iload_n hx hb dX4_duel_108 rfl (lv_at hl 1 rfl) ?_
    obtain ⟨h_1, hd⟩ := hd
    refine ao_1014 C0 hP h_1 dX4_duel_109 ?_
    refine lv_aload_n hx hb dX4_duel_110 rfl (lv_at hl 0 rfl) ?_
    refine gf_X4_24 C0 hP dX4_duel_111 ?_
    refine gf_X4_196_0 C0 hP dX4_duel_114 ?_
    obtain ⟨h_2, hd⟩ := hd
    refine ldC (kDue _ (vp_lt h_1)) C0 hP (by rw [lDue _ (vp_lt h_1)]; exact h_2) dX4_duel_117 ?_
    exact hret _ _ _ _ _ _ hd hP hS dX4_duel_118
  · have hd := hd.2 hc
    refine lv_iload_n hx hb dX4_duel_78 rfl (lv_at hl 1 rfl) ?_
    refine lv_iload_n hx hb dX4_duel_79 rfl (lv_at hl 2 rfl) ?_
    refine lv_isub hx hb dX4_duel_80 ?_
    refine lv_iconst (v := 2) hx hb dX4_duel_81 (by decide) ?_
    refine lv_irem hx hb dX4_duel_82 (by decide) ?_
    refine lv_if_ne (tgt := 90) hx hb dX4_duel_83 (by decide) (fun hc => ?_) (fun hc => ?_)
    · have hd := hd.1 hc
      refine lv_iconst (v := 0) hx hb dX4_duel_90 (by decide) ?_
      exact bk_X4_duel_91 C0 hret k73 hP hS hd (lv_sub hl [0, 1, 2] rfl)
    · have hd := hd.2 hc
      refine lv_iconst (v := 1) hx hb dX4_duel_86 (by decide) ?_
      refine lv_goto (tgt := 91) hx hb dX4_duel_87 (by decide) ?_
      exact bk_X4_duel_91 C0 hret k73 hP hS hd (lv_sub hl [0, 1, 2] rfl)
def wl_X4_duel_73 (Q : Int32 → sT → Prop) : Nat → Int32 → Int32 → sT → Prop
  | 0, _, _ => fun _ => False
  | n + 1, x1, x2 => fun S => wb_X4_duel_73 Q (fun x1 x2 S => wl_X4_duel_73 Q n x1 x2 S) x1 x2 S
theorem bl_X4_duel_73 {p : Program} {l : Launch} {e : Env} {s : State} {m : MethodId} {args : Array Value} {below : List Frame} {meth : Method} {c : Code} {Z : State → Prop} {D : va_G} {cA : Nat → ClassId} {h : Nat → Nat} {Q : Int32 → sT → Prop} (C0 : cx p s m args c cX4_duel 4 RX4 D cA true keysC h) (hret : rtI p l e rm_X4_duel s m args below meth c cX4_duel Z D (wC h cA) (aK keysC h s.heap.size) Q) : ∀ (n : Nat) (x1 : Int32) (x2 : Int32) (S : sT) (H : Heap) (locs : List Loc) (ls : Array Slot), va_P D vwCl (wC h cA S) H → va_S (aK keysC h s.heap.size) s.heap H locs → wl_X4_duel_73 Q n x1 x2 S → lv_has ls 4 [(0, .ref (h 1000)), (1, .int x1), (2, .int x2)] → W p l e rm_X4_duel s m args below meth c H locs 0 0 Z (F0 m 73 ls []) := by
  intro n
  induction n with
  | zero => intro x1 x2 S H locs ls hP hS hd hl; exact (show False from hd).elim
  | succ n ih => intro x1 x2 S H locs ls hP hS hd hl; exact bk_X4_duel_73 C0 hret (fun x1 x2 S H locs ls hd hP hS hl => ih x1 x2 S H locs ls hP hS hd hl) hP hS hd hl
def wb_X4_duel_36 (Q : Int32 → sT → Prop) (K36 : Int32 → Int32 → sT → Prop) (x1 : Int32) (x2 : Int32) (S : sT) : Prop :=
  wp_X1_setCount 0 S (fun r_1 S_1 => ((r_1 ≤ x2 → ∃ n : Nat, wl_X4_duel_73 Q n x1 (1 : Int32) S_1) ∧ (¬ r_1 ≤ x2 → (vp_in (0 : Int32) 5) ∧ wp_X0_ride (20 : Int32) x2 S_1 (fun r_4 S_4 => (vp_in x2 64) ∧ K36 x1 (x2 + (1 : Int32)) (uA S_4 (330 + (0 : Int32).toNatClampNeg) (upd (vA S_4 (330 + (0 : Int32).toNatClampNeg)) x2.toNatClampNeg r_4))))))
set_option maxHeartbeats 4000000 in
set_option maxRecDepth 100000 in
theorem bk_X4_duel_36 {p : Program} {l : Launch} {e : Env} {s : State} {m : MethodId} {args : Array Value} {below : List Frame} {meth : Method} {c : Code} {Z : State → Prop} {D : va_G} {cA : Nat → ClassId} {h : Nat → Nat} {Q : Int32 → sT → Prop} (C0 : cx p s m args c cX4_duel 4 RX4 D cA true keysC h) (hret : rtI p l e rm_X4_duel s m args below meth c cX4_duel Z D (wC h cA) (aK keysC h s.heap.size) Q) {K36 : Int32 → Int32 → sT → Prop} (k36 : ∀ (x1 : Int32) (x2 : Int32) (S : sT) (H : Heap) (locs : List Loc) (ls : Array Slot), K36 x1 x2 S → va_P D vwCl (wC h cA S) H → va_S (aK keysC h s.heap.size) s.heap H locs → lv_has ls 4 [(0, .ref (h 1000)), (1, .int x1), (2, .int x2)] → W p l e rm_X4_duel s m args below meth c H locs 0 0 Z (F0 m 36 ls [])) {x1 : Int32} {x2 : Int32} {S : sT} {H : Heap} {locs : List Loc} {ls : Array Slot} (hP : va_P D vwCl (wC h cA S) H) (hS : va_S (aK keysC h s.heap.size) s.heap H locs) (hd : wb_X4_duel_36 Q K36 x1 x2 S) (hl : lv_has ls 4 [(0, .ref (h 1000)), (1, .int x1), (2, .int x2)]) : W p l e rm_X4_duel s m args below meth c H locs 0 0 Z (F0 m 36 ls []) := by
  obtain ⟨⟨hx, hb, hml, hown, hts⟩, hK, -, -⟩ := id C0
  unfold wb_X4_duel_36 at hd
  refine lv_iload_n hx hb dX4_duel_36 rfl (lv_at hl 2 rfl) ?_
  refine lv_aload_n hx hb dX4_duel_37 rfl (lv_at hl 0 rfl) ?_
  refine gf_X4_24 C0 hP dX4_duel_38 ?_
  refine cl_VNi (n := 0) (rest := [.int x2]) C0 hP hS (c_X1_setCount l C0.2.2.1 (by decide) _ hd) (lwG_C lc_X1_setCount) (by decide +kernel : (RX4, 222, yX1_setCount, "DreamTrain") ∈ nestM) lz_RX1 li_X1_setCount lx_X1_setCount (by decide +kernel) (oL_at h cA _ 0 (by decide)) rfl rfl rfl (Nat.le_of_ble_eq_true rfl) ⟨rfl, rfl⟩ ⟨by decide, by decide⟩ dX4_duel_41 hl.1 ⟨Nat.zero_le _, Nat.zero_le _⟩ (fun r_1 S_1 H locs hd hP hS => ?_)
  refine lv_icmp_ge (tgt := 71) hx hb dX4_duel_44 (by decide) (fun hc => ?_) (fun hc => ?_)
  · have hd := hd.1 hc
    refine lv_iconst (v := 1) hx hb dX4_duel_71 (by decide) ?_
    refine lv_istore_n (lv' := [(2, .int (1 : Int32)), (0, .ref (h 1000)), (1, .int x1)]) hx hb dX4_duel_72 rfl hl (by decide) rfl (fun ls hl => ?_)
    obtain ⟨n_2, hd⟩ := hd
    exact bl_X4_duel_73 C0 hret _ _ _ _ _ _ _ hP hS hd (lv_sub hl [1, 2, 0] rfl)
  · have hd := hd.2 hc
    refine lv_aload_n hx hb dX4_duel_47 rfl (lv_at hl 0 rfl) ?_
    refine gf_X4_63 C0 hP dX4_duel_48 ?_
    refine lv_iconst (v := 0) hx hb dX4_duel_51 (by decide) ?_
    obtain ⟨h_3, hd⟩ := hd
    refine ao_1014 C0 hP h_3 dX4_duel_52 ?_
    refine lv_iload_n hx hb dX4_duel_53 rfl (lv_at hl 2 rfl) ?_
    refine lv_aload_n hx hb dX4_duel_54 rfl (lv_at hl 0 rfl) ?_
    refine gf_X4_49 C0 hP dX4_duel_55 ?_
    refine lv_bipush (v := 20) hx hb dX4_duel_58 (by decide) ?_
    refine lv_iload_n hx hb dX4_duel_60 rfl (lv_at hl 2 rfl) ?_
    refine cl_VNi (n := 2) (rest := [.int x2, .ref (h (330 + (0 : Int32).toNatClampNeg))]) C0 hP hS (c_X0_ride l C0.2.2.1 _ hd) (lwG_C lc_X0_ride) (by decide +kernel : (RX4, 199, yX0_ride, "DreamTrain") ∈ nestM) lz_RX0 li_X0_ride lx_X0_ride (by decide +kernel) (oJ_at h cA _) rfl rfl rfl (Nat.le_of_ble_eq_true rfl) ⟨rfl, rfl⟩ ⟨by decide, by decide⟩ dX4_duel_61 hl.1 ⟨Nat.zero_le _, Nat.zero_le _⟩ (fun r_4 S_4 H locs hd hP hS => ?_)
    obtain ⟨h_5, hd⟩ := hd
    refine stC (kDue _ (vp_lt h_3)) C0 hP hS (by rw [lDue _ (vp_lt h_3)]; exact h_5) dX4_duel_64 (fun H locs hP hS => ?_)
    refine lv_iinc (v := x2 + (1 : Int32)) (lv' := [(2, .int (x2 + (1 : Int32))), (0, .ref (h 1000)), (1, .int x1)]) hx hb dX4_duel_65 hl (k := 2) rfl rfl (by decide) rfl (fun ls hl => ?_)
    refine lv_goto (tgt := 36) hx hb dX4_duel_68 (by decide) ?_
    exact k36 _ _ _ _ _ _ hd hP hS (lv_sub hl [1, 2, 0] rfl)
def wl_X4_duel_36 (Q : Int32 → sT → Prop) : Nat → Int32 → Int32 → sT → Prop
  | 0, _, _ => fun _ => False
  | n + 1, x1, x2 => fun S => wb_X4_duel_36 Q (fun x1 x2 S => wl_X4_duel_36 Q n x1 x2 S) x1 x2 S
theorem bl_X4_duel_36 {p : Program} {l : Launch} {e : Env} {s : State} {m : MethodId} {args : Array Value} {below : List Frame} {meth : Method} {c : Code} {Z : State → Prop} {D : va_G} {cA : Nat → ClassId} {h : Nat → Nat} {Q : Int32 → sT → Prop} (C0 : cx p s m args c cX4_duel 4 RX4 D cA true keysC h) (hret : rtI p l e rm_X4_duel s m args below meth c cX4_duel Z D (wC h cA) (aK keysC h s.heap.size) Q) : ∀ (n : Nat) (x1 : Int32) (x2 : Int32) (S : sT) (H : Heap) (locs : List Loc) (ls : Array Slot), va_P D vwCl (wC h cA S) H → va_S (aK keysC h s.heap.size) s.heap H locs → wl_X4_duel_36 Q n x1 x2 S → lv_has ls 4 [(0, .ref (h 1000)), (1, .int x1), (2, .int x2)] → W p l e rm_X4_duel s m args below meth c H locs 0 0 Z (F0 m 36 ls []) := by
  intro n
  induction n with
  | zero => intro x1 x2 S H locs ls hP hS hd hl; exact (show False from hd).elim
  | succ n ih => intro x1 x2 S H locs ls hP hS hd hl; exact bk_X4_duel_36 C0 hret (fun x1 x2 S H locs ls hd hP hS hl => ih x1 x2 S H locs ls hP hS hd hl) hP hS hd hl
def wp_X4_duel (x1 : Int32) (S : sT) (Q : Int32 → sT → Prop) : Prop :=
  wp_X4_isBelow x1 (5 : Int32) S (fun r_1 S_1 => ((¬ r_1 = 0 → ((¬ (vI S_1 26) = 0 → wp_X0_setOut 0 S_1 (fun S_2 => ∃ n : Nat, wl_X4_duel_36 Q n x1 (0 : Int32) S_2)) ∧ ((vI S_1 26) = 0 → Q (-4 : Int32) S_1))) ∧ (r_1 = 0 → Q (-1 : Int32) S_1)))
set_option maxHeartbeats 4000000 in
set_option maxRecDepth 100000 in
theorem bk_X4_duel {p : Program} {l : Launch} {e : Env} {s : State} {m : MethodId} {args : Array Value} {below : List Frame} {meth : Method} {c : Code} {Z : State → Prop} {D : va_G} {cA : Nat → ClassId} {h : Nat → Nat} {Q : Int32 → sT → Prop} (C0 : cx p s m args c cX4_duel 4 RX4 D cA true keysC h) (hret : rtI p l e rm_X4_duel s m args below meth c cX4_duel Z D (wC h cA) (aK keysC h s.heap.size) Q) {x1 : Int32} {S : sT} {H : Heap} {locs : List Loc} {ls : Array Slot} (hP : va_P D vwCl (wC h cA S) H) (hS : va_S (aK keysC h s.heap.size) s.heap H locs) (hd : wp_X4_duel x1 S Q) (hl : lv_has ls 4 [(0, .ref (h 1000)), (1, .int x1)]) : W p l e rm_X4_duel s m args below meth c H locs 0 0 Z (F0 m 0 ls []) := by
  obtain ⟨⟨hx, hb, hml, hown, hts⟩, hK, -, -⟩ := id C0
  unfold wp_X4_duel at hd
  refine lv_iload_n hx hb dX4_duel_0 rfl (lv_at hl 1 rfl) ?_
  refine lv_iconst (v := 5) hx hb dX4_duel_1 (by decide) ?_
  refine cl_Si (n := 2) (rest := []) C0 hP hS (c_X4_isBelow l C0.2.2.1 _ hd) (lwG_S lm_X4_132 ls_X4_isBelow lz_RX4 lc_X4_isBelow) (by decide +kernel) rfl rfl (Nat.le_of_ble_eq_true rfl) ⟨rfl, rfl⟩ ⟨by decide, by decide⟩ dX4_duel_2 hl.1 ⟨Nat.zero_le _, Nat.zero_le _⟩ (fun r_1 S_1 H locs hd hP hS => ?_)
  refine lv_if_ne (tgt := 10) hx hb dX4_duel_5 (by decide) (fun hc => ?_) (fun hc => ?_)
  · have hd := hd.1 hc
    refine lv_aload_n hx hb dX4_duel_10 rfl (lv_at hl 0 rfl) ?_
    refine gf_X4_24 C0 hP dX4_duel_11 ?_
    refine gf_X4_129_0 C0 hP dX4_duel_14 ?_
    refine lv_if_ne (tgt := 23) hx hb dX4_duel_17 (by decide) (fun hc => ?_) (fun hc => ?_)
    · have hd := hd.1 hc
      refine lv_aload_n hx hb dX4_duel_23 rfl (lv_at hl 0 rfl) ?_
      refine gf_X4_49 C0 hP dX4_duel_24 ?_
      refine lv_aload_n hx hb dX4_duel_27 rfl (lv_at hl 0 rfl) ?_
      refine gf_X4_24 C0 hP dX4_duel_28 ?_
      refine cl_VNv (n := 1) (rest := []) C0 hP hS (c_X0_setOut l C0.2.2.1 (by decide) _ hd) (lwG_C lc_X0_setOut) (by decide +kernel : (RX4, 193, yX0_setOut, "DreamTrain") ∈ nestM) lz_RX0 li_X0_setOut lx_X0_setOut (by decide +kernel) (oJ_at h cA _) rfl rfl rfl (Nat.le_of_ble_eq_true rfl) ⟨rfl, rfl⟩ ⟨by decide, by decide⟩ dX4_duel_31 hl.1 ⟨Nat.zero_le _, Nat.zero_le _⟩ (fun S_2 H locs hd hP hS => ?_)
      refine lv_iconst (v := 0) hx hb dX4_duel_34 (by decide) ?_
      refine lv_istore_n (lv' := [(2, .int (0 : Int32)), (0, .ref (h 1000)), (1, .int x1)]) hx hb dX4_duel_35 rfl hl (by decide) rfl (fun ls hl => ?_)
      obtain ⟨n_3, hd⟩ := hd
      exact bl_X4_duel_36 C0 hret _ _ _ _ _ _ _ hP hS hd (lv_sub hl [1, 2, 0] rfl)
    · have hd := hd.2 hc
      refine lv_bipush (v := (-4)) hx hb dX4_duel_20 (by decide) ?_
      exact hret _ _ _ _ _ _ hd hP hS dX4_duel_22
  · have hd := hd.2 hc
    refine lv_iconst (v := (-1)) hx hb dX4_duel_8 (by decide) ?_
    exact hret _ _ _ _ _ _ hd hP hS dX4_duel_9
theorem c_X4_duel (l : Launch) {D : va_G} {cA : Nat → ClassId} {h : Nat → Nat} (hk : ky keysC h) {x1 : Int32} {S : sT} (sz : Nat) {Q : Int32 → sT → Prop} (hd : wp_X4_duel x1 S Q) : Met l yX4_duel (wsU yX4_duel cX4_duel 4 (some .int)) rm_X4_duel (va_Pc [.ref (h 1000), .int x1] (gP D cA true keysC h (wC h cA) S sz)) (va_Qi Q (wB D (wC h cA)) (aK keysC h sz)) 0 0 (aK keysC h sz) :=
  mk_i (by decide) hk (Nat.le_of_ble_eq_true rfl) (fun p e s m below meth c Z ls C0 hret hP hS hl => bk_X4_duel C0 hret hP hS hd hl)
abbrev rm_X4_fault : Room := { frames := 5, cells := 0, slots := 0, locals := 114 }
def wp_X4_fault (x1 : Int32) (S : sT) (Q : Int32 → sT → Prop) : Prop :=
  wp_X4_refusalOfShelf 1 x1 S (fun r_1 S_1 => ((r_1 = 0 → (vp_in x1 4) ∧ (vp_in x1 4) ∧ wp_X2_readInto 1 (310 + x1.toNatClampNeg) (vA S_1 201 x1.toNatClampNeg) S_1 (fun r_4 S_4 => Q r_4 S_4)) ∧ (¬ r_1 = 0 → Q r_1 S_1)))
set_option maxHeartbeats 4000000 in
set_option maxRecDepth 100000 in
theorem bk_X4_fault {p : Program} {l : Launch} {e : Env} {s : State} {m : MethodId} {args : Array Value} {below : List Frame} {meth : Method} {c : Code} {Z : State → Prop} {D : va_G} {cA : Nat → ClassId} {h : Nat → Nat} {Q : Int32 → sT → Prop} (C0 : cx p s m args c cX4_fault 3 RX4 D cA true keysC h) (hret : rtI p l e rm_X4_fault s m args below meth c cX4_fault Z D (wC h cA) (aK keysC h s.heap.size) Q) {x1 : Int32} {S : sT} {H : Heap} {locs : List Loc} {ls : Array Slot} (hP : va_P D vwCl (wC h cA S) H) (hS : va_S (aK keysC h s.heap.size) s.heap H locs) (hd : wp_X4_fault x1 S Q) (hl : lv_has ls 3 [(0, .ref (h 1000)), (1, .int x1)]) : W p l e rm_X4_fault s m args below meth c H locs 0 0 Z (F0 m 0 ls []) := by
  obtain ⟨⟨hx, hb, hml, hown, hts⟩, hK, -, -⟩ := id C0
  unfold wp_X4_fault at hd
  refine lv_aload_n hx hb dX4_fault_0 rfl (lv_at hl 0 rfl) ?_
  refine lv_aload_n hx hb dX4_fault_1 rfl (lv_at hl 0 rfl) ?_
  refine gf_X4_18 C0 hP dX4_fault_2 ?_
  refine lv_iload_n hx hb dX4_fault_5 rfl (lv_at hl 1 rfl) ?_
  refine cl_Vi (n := 2) (rest := []) C0 hP hS (c_X4_refusalOfShelf l C0.2.2.1 (by decide) _ hd) (lwG_V lm_X4_101 li_X4_refusalOfShelf lx_X4_refusalOfShelf lz_RX4 lc_X4_refusalOfShelf) (by decide +kernel) (oD_at h cA _) rfl rfl rfl (Nat.le_of_ble_eq_true rfl) ⟨rfl, rfl⟩ ⟨by decide, by decide⟩ dX4_fault_6 hl.1 ⟨Nat.zero_le _, Nat.zero_le _⟩ (fun r_1 S_1 H locs hd hP hS => ?_)
  refine lv_istore_n (lv' := [(2, .int r_1), (0, .ref (h 1000)), (1, .int x1)]) hx hb dX4_fault_9 rfl hl (by decide) rfl (fun ls hl => ?_)
  refine lv_iload_n hx hb dX4_fault_10 rfl (lv_at hl 0 rfl) ?_
  refine lv_if_eq (tgt := 16) hx hb dX4_fault_11 (by decide) (fun hc => ?_) (fun hc => ?_)
  · have hd := hd.1 hc
    refine lv_aload_n hx hb dX4_fault_16 rfl (lv_at hl 1 rfl) ?_
    refine gf_X4_42 C0 hP dX4_fault_17 ?_
    refine lv_aload_n hx hb dX4_fault_20 rfl (lv_at hl 1 rfl) ?_
    refine gf_X4_28 C0 hP dX4_fault_21 ?_
    refine lv_aload_n hx hb dX4_fault_24 rfl (lv_at hl 1 rfl) ?_
    refine gf_X4_18 C0 hP dX4_fault_25 ?_
    refine gf_X4_94_1 C0 hP dX4_fault_28 ?_
    refine lv_iload_n hx hb dX4_fault_31 rfl (lv_at hl 2 rfl) ?_
    obtain ⟨h_2, hd⟩ := hd
    refine ao_1011 C0 hP h_2 dX4_fault_32 ?_
    refine lv_aload_n hx hb dX4_fault_33 rfl (lv_at hl 1 rfl) ?_
    refine gf_X4_18 C0 hP dX4_fault_34 ?_
    refine gf_X4_105_1 C0 hP dX4_fault_37 ?_
    refine lv_iload_n hx hb dX4_fault_40 rfl (lv_at hl 2 rfl) ?_
    obtain ⟨h_3, hd⟩ := hd
    refine ldC (by decide) C0 hP h_3 dX4_fault_41 ?_
    refine cl_VNi (n := 3) (rest := []) C0 hP hS (c_X2_readInto l C0.2.2.1 (by decide) (kRow1 _ (vp_lt h_2)) _ hd) (lwG_C lc_X2_readInto) (by decide +kernel : (RX4, 121, yX2_readInto, "DreamTrain") ∈ nestM) lz_RX2 li_X2_readInto lx_X2_readInto (by decide +kernel) (oE_at h cA _) rfl rfl rfl (Nat.le_of_ble_eq_true rfl) ⟨rfl, rfl⟩ ⟨by decide, by decide⟩ dX4_fault_42 hl.1 ⟨Nat.zero_le _, Nat.zero_le _⟩ (fun r_4 S_4 H locs hd hP hS => ?_)
    exact hret _ _ _ _ _ _ hd hP hS dX4_fault_45
  · have hd := hd.2 hc
    refine lv_iload_n hx hb dX4_fault_14 rfl (lv_at hl 0 rfl) ?_
    exact hret _ _ _ _ _ _ hd hP hS dX4_fault_15
theorem c_X4_fault (l : Launch) {D : va_G} {cA : Nat → ClassId} {h : Nat → Nat} (hk : ky keysC h) {x1 : Int32} {S : sT} (sz : Nat) {Q : Int32 → sT → Prop} (hd : wp_X4_fault x1 S Q) : Met l yX4_fault (wsU yX4_fault cX4_fault 3 (some .int)) rm_X4_fault (va_Pc [.ref (h 1000), .int x1] (gP D cA true keysC h (wC h cA) S sz)) (va_Qi Q (wB D (wC h cA)) (aK keysC h sz)) 0 0 (aK keysC h sz) :=
  mk_i (by decide) hk (Nat.le_of_ble_eq_true rfl) (fun p e s m below meth c Z ls C0 hret hP hS hl => bk_X4_fault C0 hret hP hS hd hl)
abbrev rm_X4_learnSuppers : Room := { frames := 2, cells := 0, slots := 0, locals := 51 }
def wb_X4_learnSuppers_15 (Q : sT → Prop) (K2 : Int32 → sT → Prop) (K15 : Int32 → Int32 → sT → Prop) (x1 : Int32) (x2 : Int32) (S : sT) : Prop :=
  (((10 : Int32) ≤ x2 → K2 (x1 + (1 : Int32)) S) ∧ (¬ (10 : Int32) ≤ x2 → (vp_in x1 6) ∧ (vp_in x1 6) ∧ wp_X4_dreamBitsFrom (vA S 20 x1.toNatClampNeg) x2 (vI S 30) S (fun r_3 S_3 => (vp_in x2 10) ∧ K15 x1 (x2 + (1 : Int32)) (uB S_3 (340 + x1.toNatClampNeg) (vp_updL (vB S_3 (340 + x1.toNatClampNeg)) x2.toNatClampNeg r_3)))))
set_option maxHeartbeats 4000000 in
set_option maxRecDepth 100000 in
theorem bk_X4_learnSuppers_15 {p : Program} {l : Launch} {e : Env} {s : State} {m : MethodId} {args : Array Value} {below : List Frame} {meth : Method} {c : Code} {Z : State → Prop} {D : va_G} {cA : Nat → ClassId} {h : Nat → Nat} {Q : sT → Prop} (C0 : cx p s m args c cX4_learnSuppers 3 RX4 D cA true keysC h) (hret : rtV p l e rm_X4_learnSuppers s m args below meth c cX4_learnSuppers Z D (wC h cA) (aK keysC h s.heap.size) Q) {K2 : Int32 → sT → Prop} {K15 : Int32 → Int32 → sT → Prop} (k2 : ∀ (x1 : Int32) (S : sT) (H : Heap) (locs : List Loc) (ls : Array Slot), K2 x1 S → va_P D vwCl (wC h cA S) H → va_S (aK keysC h s.heap.size) s.heap H locs → lv_has ls 3 [(0, .ref (h 1000)), (1, .int x1)] → W p l e rm_X4_learnSuppers s m args below meth c H locs 0 0 Z (F0 m 2 ls [])) (k15 : ∀ (x1 : Int32) (x2 : Int32) (S : sT) (H : Heap) (locs : List Loc) (ls : Array Slot), K15 x1 x2 S → va_P D vwCl (wC h cA S) H → va_S (aK keysC h s.heap.size) s.heap H locs → lv_has ls 3 [(0, .ref (h 1000)), (1, .int x1), (2, .int x2)] → W p l e rm_X4_learnSuppers s m args below meth c H locs 0 0 Z (F0 m 15 ls [])) {x1 : Int32} {x2 : Int32} {S : sT} {H : Heap} {locs : List Loc} {ls : Array Slot} (hP : va_P D vwCl (wC h cA S) H) (hS : va_S (aK keysC h s.heap.size) s.heap H locs) (hd : wb_X4_learnSuppers_15 Q K2 K15 x1 x2 S) (hl : lv_has ls 3 [(0, .ref (h 1000)), (1, .int x1), (2, .int x2)]) : W p l e rm_X4_learnSuppers s m args below meth c H locs 0 0 Z (F0 m 15 ls []) := by
  obtain ⟨⟨hx, hb, hml, hown, hts⟩, hK, -, -⟩ := id C0
  unfold wb_X4_learnSuppers_15 at hd
  refine lv_iload_n hx hb dX4_learnSuppers_15 rfl (lv_at hl 2 rfl) ?_
  refine lv_bipush (v := 10) hx hb dX4_learnSuppers_16 (by decide) ?_
  refine lv_icmp_ge (tgt := 55) hx hb dX4_learnSuppers_18 (by decide) (fun hc => ?_) (fun hc => ?_)
  · have hd := hd.1 hc
    refine lv_iinc (v := x1 + (1 : Int32)) (lv' := [(1, .int (x1 + (1 : Int32))), (0, .ref (h 1000)), (2, .int x2)]) hx hb dX4_learnSuppers_55 hl (k := 1) rfl rfl (by decide) rfl (fun ls hl => ?_)
    refine lv_goto (tgt := 2) hx hb dX4_learnSuppers_58 (by decide) ?_
    exact k2 _ _ _ _ _ hd hP hS (lv_sub hl [1, 0] rfl)
  · have hd := hd.2 hc
    refine lv_aload_n hx hb dX4_learnSuppers_21 rfl (lv_at hl 0 rfl) ?_
    refine gf_X4_55 C0 hP dX4_learnSuppers_22 ?_
    refine lv_iload_n hx hb dX4_learnSuppers_25 rfl (lv_at hl 1 rfl) ?_
    obtain ⟨h_1, hd⟩ := hd
    refine ao_1012 C0 hP h_1 dX4_learnSuppers_26 ?_
    refine lv_iload_n hx hb dX4_learnSuppers_27 rfl (lv_at hl 2 rfl) ?_
    refine lv_aload_n hx hb dX4_learnSuppers_28 rfl (lv_at hl 0 rfl) ?_
    refine gf_X4_24 C0 hP dX4_learnSuppers_29 ?_
    refine gf_X4_140_0 C0 hP dX4_learnSuppers_32 ?_
    refine lv_iload_n hx hb dX4_learnSuppers_35 rfl (lv_at hl 1 rfl) ?_
    obtain ⟨h_2, hd⟩ := hd
    refine ldC (by decide) C0 hP h_2 dX4_learnSuppers_36 ?_
    refine lv_iload_n hx hb dX4_learnSuppers_37 rfl (lv_at hl 2 rfl) ?_
    refine lv_aload_n hx hb dX4_learnSuppers_38 rfl (lv_at hl 0 rfl) ?_
    refine gf_X4_24 C0 hP dX4_learnSuppers_39 ?_
    refine gf_X4_162_0 C0 hP dX4_learnSuppers_42 ?_
    refine cl_Sl (n := 3) (rest := [.int x2, .ref (h (340 + x1.toNatClampNeg))]) C0 hP hS (c_X4_dreamBitsFrom l C0.2.2.1 _ hd) (lwG_S lm_X4_257 ls_X4_dreamBitsFrom lz_RX4 lc_X4_dreamBitsFrom) (by decide +kernel) rfl rfl (Nat.le_of_ble_eq_true rfl) ⟨rfl, rfl⟩ ⟨by decide, by decide⟩ dX4_learnSuppers_45 hl.1 ⟨Nat.zero_le _, Nat.zero_le _⟩ (fun r_3 S_3 H locs hd hP hS => ?_)
    obtain ⟨h_4, hd⟩ := hd
    refine stL (kSup _ (vp_lt h_1)) C0 hP hS (by rw [lSup _ (vp_lt h_1)]; exact h_4) dX4_learnSuppers_48 (fun H locs hP hS => ?_)
    refine lv_iinc (v := x2 + (1 : Int32)) (lv' := [(2, .int (x2 + (1 : Int32))), (0, .ref (h 1000)), (1, .int x1)]) hx hb dX4_learnSuppers_49 hl (k := 2) rfl rfl (by decide) rfl (fun ls hl => ?_)
    refine lv_goto (tgt := 15) hx hb dX4_learnSuppers_52 (by decide) ?_
    exact k15 _ _ _ _ _ _ hd hP hS (lv_sub hl [1, 2, 0] rfl)
def wl_X4_learnSuppers_15 (Q : sT → Prop) (K2 : Int32 → sT → Prop) : Nat → Int32 → Int32 → sT → Prop
  | 0, _, _ => fun _ => False
  | n + 1, x1, x2 => fun S => wb_X4_learnSuppers_15 Q K2 (fun x1 x2 S => wl_X4_learnSuppers_15 Q K2 n x1 x2 S) x1 x2 S
theorem bl_X4_learnSuppers_15 {p : Program} {l : Launch} {e : Env} {s : State} {m : MethodId} {args : Array Value} {below : List Frame} {meth : Method} {c : Code} {Z : State → Prop} {D : va_G} {cA : Nat → ClassId} {h : Nat → Nat} {Q : sT → Prop} (C0 : cx p s m args c cX4_learnSuppers 3 RX4 D cA true keysC h) (hret : rtV p l e rm_X4_learnSuppers s m args below meth c cX4_learnSuppers Z D (wC h cA) (aK keysC h s.heap.size) Q) {K2 : Int32 → sT → Prop} (k2 : ∀ (x1 : Int32) (S : sT) (H : Heap) (locs : List Loc) (ls : Array Slot), K2 x1 S → va_P D vwCl (wC h cA S) H → va_S (aK keysC h s.heap.size) s.heap H locs → lv_has ls 3 [(0, .ref (h 1000)), (1, .int x1)] → W p l e rm_X4_learnSuppers s m args below meth c H locs 0 0 Z (F0 m 2 ls [])) : ∀ (n : Nat) (x1 : Int32) (x2 : Int32) (S : sT) (H : Heap) (locs : List Loc) (ls : Array Slot), va_P D vwCl (wC h cA S) H → va_S (aK keysC h s.heap.size) s.heap H locs → wl_X4_learnSuppers_15 Q K2 n x1 x2 S → lv_has ls 3 [(0, .ref (h 1000)), (1, .int x1), (2, .int x2)] → W p l e rm_X4_learnSuppers s m args below meth c H locs 0 0 Z (F0 m 15 ls []) := by
  intro n
  induction n with
  | zero => intro x1 x2 S H locs ls hP hS hd hl; exact (show False from hd).elim
  | succ n ih => intro x1 x2 S H locs ls hP hS hd hl; exact bk_X4_learnSuppers_15 C0 hret k2 (fun x1 x2 S H locs ls hd hP hS hl => ih x1 x2 S H locs ls hP hS hd hl) hP hS hd hl
def wb_X4_learnSuppers_2 (Q : sT → Prop) (K2 : Int32 → sT → Prop) (x1 : Int32) (S : sT) : Prop :=
  (((vI S 26) ≤ x1 → Q S) ∧ (¬ (vI S 26) ≤ x1 → ∃ n : Nat, wl_X4_learnSuppers_15 Q K2 n x1 (0 : Int32) S))
set_option maxHeartbeats 4000000 in
set_option maxRecDepth 100000 in
theorem bk_X4_learnSuppers_2 {p : Program} {l : Launch} {e : Env} {s : State} {m : MethodId} {args : Array Value} {below : List Frame} {meth : Method} {c : Code} {Z : State → Prop} {D : va_G} {cA : Nat → ClassId} {h : Nat → Nat} {Q : sT → Prop} (C0 : cx p s m args c cX4_learnSuppers 3 RX4 D cA true keysC h) (hret : rtV p l e rm_X4_learnSuppers s m args below meth c cX4_learnSuppers Z D (wC h cA) (aK keysC h s.heap.size) Q) {K2 : Int32 → sT → Prop} (k2 : ∀ (x1 : Int32) (S : sT) (H : Heap) (locs : List Loc) (ls : Array Slot), K2 x1 S → va_P D vwCl (wC h cA S) H → va_S (aK keysC h s.heap.size) s.heap H locs → lv_has ls 3 [(0, .ref (h 1000)), (1, .int x1)] → W p l e rm_X4_learnSuppers s m args below meth c H locs 0 0 Z (F0 m 2 ls [])) {x1 : Int32} {S : sT} {H : Heap} {locs : List Loc} {ls : Array Slot} (hP : va_P D vwCl (wC h cA S) H) (hS : va_S (aK keysC h s.heap.size) s.heap H locs) (hd : wb_X4_learnSuppers_2 Q K2 x1 S) (hl : lv_has ls 3 [(0, .ref (h 1000)), (1, .int x1)]) : W p l e rm_X4_learnSuppers s m args below meth c H locs 0 0 Z (F0 m 2 ls []) := by
  obtain ⟨⟨hx, hb, hml, hown, hts⟩, hK, -, -⟩ := id C0
  unfold wb_X4_learnSuppers_2 at hd
  refine lv_iload_n hx hb dX4_learnSuppers_2 rfl (lv_at hl 1 rfl) ?_
  refine lv_aload_n hx hb dX4_learnSuppers_3 rfl (lv_at hl 0 rfl) ?_
  refine gf_X4_24 C0 hP dX4_learnSuppers_4 ?_
  refine gf_X4_129_0 C0 hP dX4_learnSuppers_7 ?_
  refine lv_icmp_ge (tgt := 61) hx hb dX4_learnSuppers_10 (by decide) (fun hc => ?_) (fun hc => ?_)
  · have hd := hd.1 hc
    exact hret _ _ _ _ _ hd hP hS dX4_learnSuppers_61
  · have hd := hd.2 hc
    refine lv_iconst (v := 0) hx hb dX4_learnSuppers_13 (by decide) ?_
    refine lv_istore_n (lv' := [(2, .int (0 : Int32)), (0, .ref (h 1000)), (1, .int x1)]) hx hb dX4_learnSuppers_14 rfl hl (by decide) rfl (fun ls hl => ?_)
    obtain ⟨n_1, hd⟩ := hd
    exact bl_X4_learnSuppers_15 C0 hret k2 _ _ _ _ _ _ _ hP hS hd (lv_sub hl [1, 2, 0] rfl)
def wl_X4_learnSuppers_2 (Q : sT → Prop) : Nat → Int32 → sT → Prop
  | 0, _ => fun _ => False
  | n + 1, x1 => fun S => wb_X4_learnSuppers_2 Q (fun x1 S => wl_X4_learnSuppers_2 Q n x1 S) x1 S
theorem bl_X4_learnSuppers_2 {p : Program} {l : Launch} {e : Env} {s : State} {m : MethodId} {args : Array Value} {below : List Frame} {meth : Method} {c : Code} {Z : State → Prop} {D : va_G} {cA : Nat → ClassId} {h : Nat → Nat} {Q : sT → Prop} (C0 : cx p s m args c cX4_learnSuppers 3 RX4 D cA true keysC h) (hret : rtV p l e rm_X4_learnSuppers s m args below meth c cX4_learnSuppers Z D (wC h cA) (aK keysC h s.heap.size) Q) : ∀ (n : Nat) (x1 : Int32) (S : sT) (H : Heap) (locs : List Loc) (ls : Array Slot), va_P D vwCl (wC h cA S) H → va_S (aK keysC h s.heap.size) s.heap H locs → wl_X4_learnSuppers_2 Q n x1 S → lv_has ls 3 [(0, .ref (h 1000)), (1, .int x1)] → W p l e rm_X4_learnSuppers s m args below meth c H locs 0 0 Z (F0 m 2 ls []) := by
  intro n
  induction n with
  | zero => intro x1 S H locs ls hP hS hd hl; exact (show False from hd).elim
  | succ n ih => intro x1 S H locs ls hP hS hd hl; exact bk_X4_learnSuppers_2 C0 hret (fun x1 S H locs ls hd hP hS hl => ih x1 S H locs ls hP hS hd hl) hP hS hd hl
def wp_X4_learnSuppers (S : sT) (Q : sT → Prop) : Prop :=
  ∃ n : Nat, wl_X4_learnSuppers_2 Q n (0 : Int32) S
set_option maxHeartbeats 4000000 in
set_option maxRecDepth 100000 in
theorem bk_X4_learnSuppers {p : Program} {l : Launch} {e : Env} {s : State} {m : MethodId} {args : Array Value} {below : List Frame} {meth : Method} {c : Code} {Z : State → Prop} {D : va_G} {cA : Nat → ClassId} {h : Nat → Nat} {Q : sT → Prop} (C0 : cx p s m args c cX4_learnSuppers 3 RX4 D cA true keysC h) (hret : rtV p l e rm_X4_learnSuppers s m args below meth c cX4_learnSuppers Z D (wC h cA) (aK keysC h s.heap.size) Q) {S : sT} {H : Heap} {locs : List Loc} {ls : Array Slot} (hP : va_P D vwCl (wC h cA S) H) (hS : va_S (aK keysC h s.heap.size) s.heap H locs) (hd : wp_X4_learnSuppers S Q) (hl : lv_has ls 3 [(0, .ref (h 1000))]) : W p l e rm_X4_learnSuppers s m args below meth c H locs 0 0 Z (F0 m 0 ls []) := by
  obtain ⟨⟨hx, hb, hml, hown, hts⟩, hK, -, -⟩ := id C0
  unfold wp_X4_learnSuppers at hd
  refine lv_iconst (v := 0) hx hb dX4_learnSuppers_0 (by decide) ?_
  refine lv_istore_n (lv' := [(1, .int (0 : Int32)), (0, .ref (h 1000))]) hx hb dX4_learnSuppers_1 rfl hl (by decide) rfl (fun ls hl => ?_)
  obtain ⟨n_1, hd⟩ := hd
  exact bl_X4_learnSuppers_2 C0 hret _ _ _ _ _ _ hP hS hd (lv_sub hl [1, 0] rfl)
theorem c_X4_learnSuppers (l : Launch) {D : va_G} {cA : Nat → ClassId} {h : Nat → Nat} (hk : ky keysC h) {S : sT} (sz : Nat) {Q : sT → Prop} (hd : wp_X4_learnSuppers S Q) : Met l yX4_learnSuppers (wsU yX4_learnSuppers cX4_learnSuppers 3 none) rm_X4_learnSuppers (va_Pc [.ref (h 1000)] (gP D cA true keysC h (wC h cA) S sz)) (va_Qv Q (wB D (wC h cA)) (aK keysC h sz)) 0 0 (aK keysC h sz) :=
  mk_v (by decide) hk (Nat.le_of_ble_eq_true rfl) (fun p e s m below meth c Z ls C0 hret hP hS hl => bk_X4_learnSuppers C0 hret hP hS hd hl)
abbrev rm_X4_standsBehind : Room := { frames := 3, cells := 0, slots := 0, locals := 71 }
def wp_X4_standsBehind (x1 : Int32) (x2 : Int32) (S : sT) (Q : Int32 → sT → Prop) : Prop :=
  wp_X0_ride (x1 + (1 : Int32)) (vI S 29) S (fun r_1 S_1 => (vp_in x1 61) ∧ ((¬ (vA S_1 113 x1.toNatClampNeg) = x2 → Q (0 : Int32) S_1) ∧ ((vA S_1 113 x1.toNatClampNeg) = x2 → (vp_in (x1 + (1 : Int32)) 61) ∧ ((¬ (vA S_1 113 (x1 + (1 : Int32)).toNatClampNeg) = x2 → Q (0 : Int32) S_1) ∧ ((vA S_1 113 (x1 + (1 : Int32)).toNatClampNeg) = x2 → Q (1 : Int32) S_1)))))
set_option maxHeartbeats 4000000 in
set_option maxRecDepth 100000 in
theorem bk_X4_standsBehind {p : Program} {l : Launch} {e : Env} {s : State} {m : MethodId} {args : Array Value} {below : List Frame} {meth : Method} {c : Code} {Z : State → Prop} {D : va_G} {cA : Nat → ClassId} {h : Nat → Nat} {Q : Int32 → sT → Prop} (C0 : cx p s m args c cX4_standsBehind 3 RX4 D cA true keysC h) (hret : rtZ p l e rm_X4_standsBehind s m args below meth c cX4_standsBehind Z D (wC h cA) (aK keysC h s.heap.size) Q) {x1 : Int32} {x2 : Int32} {S : sT} {H : Heap} {locs : List Loc} {ls : Array Slot} (hP : va_P D vwCl (wC h cA S) H) (hS : va_S (aK keysC h s.heap.size) s.heap H locs) (hd : wp_X4_standsBehind x1 x2 S Q) (hl : lv_has ls 3 [(0, .ref (h 1000)), (1, .int x1), (2, .int x2)]) : W p l e rm_X4_standsBehind s m args below meth c H locs 0 0 Z (F0 m 0 ls []) := by
  obtain ⟨⟨hx, hb, hml, hown, hts⟩, hK, -, -⟩ := id C0
  unfold wp_X4_standsBehind at hd
  refine lv_aload_n hx hb dX4_standsBehind_0 rfl (lv_at hl 0 rfl) ?_
  refine gf_X4_49 C0 hP dX4_standsBehind_1 ?_
  refine lv_iload_n hx hb dX4_standsBehind_4 rfl (lv_at hl 1 rfl) ?_
  refine lv_iconst (v := 1) hx hb dX4_standsBehind_5 (by decide) ?_
  refine lv_iadd hx hb dX4_standsBehind_6 ?_
  refine lv_aload_n hx hb dX4_standsBehind_7 rfl (lv_at hl 0 rfl) ?_
  refine gf_X4_24 C0 hP dX4_standsBehind_8 ?_
  refine gf_X4_196_0 C0 hP dX4_standsBehind_11 ?_
  refine cl_VNi (n := 2) (rest := []) C0 hP hS (c_X0_ride l C0.2.2.1 _ hd) (lwG_C lc_X0_ride) (by decide +kernel : (RX4, 199, yX0_ride, "DreamTrain") ∈ nestM) lz_RX0 li_X0_ride lx_X0_ride (by decide +kernel) (oJ_at h cA _) rfl rfl rfl (Nat.le_of_ble_eq_true rfl) ⟨rfl, rfl⟩ ⟨by decide, by decide⟩ dX4_standsBehind_14 hl.1 ⟨Nat.zero_le _, Nat.zero_le _⟩ (fun r_1 S_1 H locs hd hP hS => ?_)
  refine lv_pop hx hb dX4_standsBehind_17 rfl ?_
  refine lv_aload_n hx hb dX4_standsBehind_18 rfl (lv_at hl 0 rfl) ?_
  refine gf_X4_49 C0 hP dX4_standsBehind_19 ?_
  refine gf_X4_202 C0 hP dX4_standsBehind_22 ?_
  refine lv_iload_n hx hb dX4_standsBehind_25 rfl (lv_at hl 1 rfl) ?_
  obtain ⟨h_2, hd⟩ := hd
  refine ldC (by decide) C0 hP h_2 dX4_standsBehind_26 ?_
  refine lv_iload_n hx hb dX4_standsBehind_27 rfl (lv_at hl 2 rfl) ?_
  refine lv_icmp_ne (tgt := 50) hx hb dX4_standsBehind_28 (by decide) (fun hc => ?_) (fun hc => ?_)
  · have hd := hd.1 hc
    refine lv_iconst (v := 0) hx hb dX4_standsBehind_50 (by decide) ?_
    exact hret _ _ _ _ _ _ rfl hd hP hS dX4_standsBehind_51
  · have hd := hd.2 hc
    refine lv_aload_n hx hb dX4_standsBehind_31 rfl (lv_at hl 0 rfl) ?_
    refine gf_X4_49 C0 hP dX4_standsBehind_32 ?_
    refine gf_X4_202 C0 hP dX4_standsBehind_35 ?_
    refine lv_iload_n hx hb dX4_standsBehind_38 rfl (lv_at hl 1 rfl) ?_
    refine lv_iconst (v := 1) hx hb dX4_standsBehind_39 (by decide) ?_
    refine lv_iadd hx hb dX4_standsBehind_40 ?_
    obtain ⟨h_3, hd⟩ := hd
    refine ldC (by decide) C0 hP h_3 dX4_standsBehind_41 ?_
    refine lv_iload_n hx hb dX4_standsBehind_42 rfl (lv_at hl 2 rfl) ?_
    refine lv_icmp_ne (tgt := 50) hx hb dX4_standsBehind_43 (by decide) (fun hc => ?_) (fun hc => ?_)
    · have hd := hd.1 hc
      refine lv_iconst (v := 0) hx hb dX4_standsBehind_50 (by decide) ?_
      exact hret _ _ _ _ _ _ rfl hd hP hS dX4_standsBehind_51
    · have hd := hd.2 hc
      refine lv_iconst (v := 1) hx hb dX4_standsBehind_46 (by decide) ?_
      refine lv_goto (tgt := 51) hx hb dX4_standsBehind_47 (by decide) ?_
      exact hret _ _ _ _ _ _ rfl hd hP hS dX4_standsBehind_51
theorem c_X4_standsBehind (l : Launch) {D : va_G} {cA : Nat → ClassId} {h : Nat → Nat} (hk : ky keysC h) {x1 : Int32} {x2 : Int32} {S : sT} (sz : Nat) {Q : Int32 → sT → Prop} (hd : wp_X4_standsBehind x1 x2 S Q) : Met l yX4_standsBehind (wsU yX4_standsBehind cX4_standsBehind 3 (some .boolean)) rm_X4_standsBehind (va_Pc [.ref (h 1000), .int x1, .int x2] (gP D cA true keysC h (wC h cA) S sz)) (va_Qi Q (wB D (wC h cA)) (aK keysC h sz)) 0 0 (aK keysC h sz) :=
  mk_z (by decide) hk (Nat.le_of_ble_eq_true rfl) (fun p e s m below meth c Z ls C0 hret hP hS hl => bk_X4_standsBehind C0 hret hP hS hd hl)
