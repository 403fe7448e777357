abbrev rm_X5_isText : Room := { frames := 1, cells := 0, slots := 0, locals := 25 }
def wp_X5_isText (x0 : Int32) (S : sT) (Q : Int32 → sT → Prop) : Prop :=
  wp_X5_in x0.toInt64 (0 : Int64) (3 : Int64) S (fun r_1 S_1 => bo r_1 ∧ Q r_1 S_1)
set_option maxHeartbeats 4000000 in
set_option maxRecDepth 100000 in
theorem bk_X5_isText {p : Program} {l : Launch} {e : Env} {s : State} {m : MethodId} {args : Array Value} {below : List Frame} {meth : Method} {c : Code} {Z : State → Prop} {D : va_G} {cA : Nat → ClassId} {h : Nat → Nat} {Q : Int32 → sT → Prop} (C0 : cx p s m args c cX5_isText 1 RX5 D cA false keysRA h) (hret : rtZ p l e rm_X5_isText s m args below meth c cX5_isText Z D (wR h cA) (aK keysRA h s.heap.size) Q) {x0 : Int32} {S : sT} {H : Heap} {locs : List Loc} {ls : Array Slot} (hP : va_P D vwCl (wR h cA S) H) (hS : va_S (aK keysRA h s.heap.size) s.heap H locs) (hd : wp_X5_isText x0 S Q) (hl : lv_has ls 1 [(0, .int x0)]) : W p l e rm_X5_isText s m args below meth c H locs 0 0 Z (F0 m 0 ls []) := by
  obtain ⟨⟨hx, hb, hml, hown, hts⟩, hK, -, -⟩ := id C0
  unfold wp_X5_isText at hd
  refine lv_iload_n hx hb dX5_isText_0 rfl (lv_at hl 0 rfl) ?_
  refine lv_i2l hx hb dX5_isText_1 rfl ?_
  refine lv_lconst (v := 0) hx hb dX5_isText_2 (by decide) ?_
  refine lv_ldc2 hx hb hown (hts _ lk_X5_81) dX5_isText_3 ?_
  refine cl_Si (n := 3) (rest := []) C0 hP hS (c_X5_in l C0.2.2.1 _ hd) (lwG_S lm_X5_77 ls_X5_in lz_RX5 lc_X5_in) (by decide +kernel) rfl rfl (Nat.le_of_ble_eq_true rfl) ⟨rfl, rfl⟩ ⟨by decide, by decide⟩ dX5_isText_6 hl.1 ⟨Nat.zero_le _, Nat.zero_le _⟩ (fun r_1 S_1 H locs hd hP hS => ?_)
  exact hret _ _ _ _ _ _ hd.1 hd.2 hP hS dX5_isText_9
theorem c_X5_isText (l : Launch) {D : va_G} {cA : Nat → ClassId} {h : Nat → Nat} (hk : ky keysRA h) {x0 : Int32} {S : sT} (sz : Nat) {Q : Int32 → sT → Prop} (hd : wp_X5_isText x0 S Q) : Met l yX5_isText (wsU yX5_isText cX5_isText 1 (some .boolean)) rm_X5_isText (va_Pc [.int x0] (gP D cA false keysRA h (wR h cA) S sz)) (va_Qi Q (wB D (wR h cA)) (aK keysRA h sz)) 0 0 (aK keysRA h sz) :=
  mk_z (by decide) hk (Nat.le_of_ble_eq_true rfl) (fun p e s m below meth c Z ls C0 hret hP hS hl => bk_X5_isText C0 hret hP hS hd hl)
abbrev rm_X5_skips : Room := { frames := 1, cells := 0, slots := 0, locals := 20 }
def wb_X5_skips_0 (Q : sT → Prop) (K0 : sT → Prop) (S : sT) : Prop :=
  wp_X5_here S (fun r_1 S_1 => ((¬ r_1 = (32 : Int32) → Q S_1) ∧ (r_1 = (32 : Int32) → K0 (uI S_1 19 ((vI S_1 19) + (1 : Int32))))))
set_option maxHeartbeats 4000000 in
set_option maxRecDepth 100000 in
theorem bk_X5_skips_0 {p : Program} {l : Launch} {e : Env} {s : State} {m : MethodId} {args : Array Value} {below : List Frame} {meth : Method} {c : Code} {Z : State → Prop} {D : va_G} {cA : Nat → ClassId} {h : Nat → Nat} {Q : sT → Prop} (C0 : cx p s m args c cX5_skips 1 RX5 D cA false keysRA h) (hret : rtV p l e rm_X5_skips s m args below meth c cX5_skips Z D (wR h cA) (aK keysRA h s.heap.size) Q) {K0 : sT → Prop} (k0 : ∀ (S : sT) (H : Heap) (locs : List Loc) (ls : Array Slot), K0 S → va_P D vwCl (wR h cA S) H → va_S (aK keysRA h s.heap.size) s.heap H locs → lv_has ls 1 [(0, .ref (h 100))] → W p l e rm_X5_skips s m args below meth c H locs 0 0 Z (F0 m 0 ls [])) {S : sT} {H : Heap} {locs : List Loc} {ls : Array Slot} (hP : va_P D vwCl (wR h cA S) H) (hS : va_S (aK keysRA h s.heap.size) s.heap H locs) (hd : wb_X5_skips_0 Q K0 S) (hl : lv_has ls 1 [(0, .ref (h 100))]) : W p l e rm_X5_skips s m args below meth c H locs 0 0 Z (F0 m 0 ls []) := by
  obtain ⟨⟨hx, hb, hml, hown, hts⟩, hK, -, -⟩ := id C0
  unfold wb_X5_skips_0 at hd
  refine lv_aload_n hx hb dX5_skips_0 rfl (lv_at hl 0 rfl) ?_
  refine cl_Vi (n := 0) (rest := []) C0 hP hS (c_X5_here l C0.2.2.1 _ hd) (lwG_V lm_X5_112 li_X5_here lx_X5_here lz_RX5 lc_X5_here) (by decide +kernel) (oR_at h cA _) rfl rfl rfl (Nat.le_of_ble_eq_true rfl) ⟨rfl, rfl⟩ ⟨by decide, by decide⟩ dX5_skips_1 hl.1 ⟨Nat.zero_le _, Nat.zero_le _⟩ (fun r_1 S_1 H locs hd hP hS => ?_)
  refine lv_bipush (v := 32) hx hb dX5_skips_4 (by decide) ?_
  refine lv_icmp_ne (tgt := 22) hx hb dX5_skips_6 (by decide) (fun hc => ?_) (fun hc => ?_)
  · have hd := hd.1 hc
    exact hret _ _ _ _ _ hd hP hS dX5_skips_22
  · have hd := hd.2 hc
    refine lv_aload_n hx hb dX5_skips_9 rfl (lv_at hl 0 rfl) ?_
    refine lv_dup hx hb dX5_skips_10 rfl ?_
    refine gf_X5_103 C0 hP dX5_skips_11 ?_
    refine lv_iconst (v := 1) hx hb dX5_skips_14 (by decide) ?_
    refine lv_iadd hx hb dX5_skips_15 ?_
    refine pf_X5_103 C0 hP hS dX5_skips_16 (fun H locs hP hS => ?_)
    refine lv_goto (tgt := 0) hx hb dX5_skips_19 (by decide) ?_
    exact k0  _ _ _ _ hd hP hS (lv_sub hl [0] rfl)
def wl_X5_skips_0 (Q : sT → Prop) : Nat → sT → Prop
  | 0 => fun _ => False
  | n + 1 => fun S => wb_X5_skips_0 Q (fun S => wl_X5_skips_0 Q n S) S
theorem bl_X5_skips_0 {p : Program} {l : Launch} {e : Env} {s : State} {m : MethodId} {args : Array Value} {below : List Frame} {meth : Method} {c : Code} {Z : State → Prop} {D : va_G} {cA : Nat → ClassId} {h : Nat → Nat} {Q : sT → Prop} (C0 : cx p s m args c cX5_skips 1 RX5 D cA false keysRA h) (hret : rtV p l e rm_X5_skips s m args below meth c cX5_skips Z D (wR h cA) (aK keysRA h s.heap.size) Q) : ∀ (n : Nat) (S : sT) (H : Heap) (locs : List Loc) (ls : Array Slot), va_P D vwCl (wR h cA S) H → va_S (aK keysRA h s.heap.size) s.heap H locs → wl_X5_skips_0 Q n S → lv_has ls 1 [(0, .ref (h 100))] → W p l e rm_X5_skips s m args below meth c H locs 0 0 Z (F0 m 0 ls []) := by
  intro n
  induction n with
  | zero => intro S H locs ls hP hS hd hl; exact (show False from hd).elim
  | succ n ih => intro S H locs ls hP hS hd hl; exact bk_X5_skips_0 C0 hret (fun  S H locs ls hd hP hS hl => ih  S H locs ls hP hS hd hl) hP hS hd hl
def wp_X5_skips (S : sT) (Q : sT → Prop) : Prop :=
  ∃ n : Nat, wl_X5_skips_0 Q n S
set_option maxHeartbeats 4000000 in
set_option maxRecDepth 100000 in
theorem bk_X5_skips {p : Program} {l : Launch} {e : Env} {s : State} {m : MethodId} {args : Array Value} {below : List Frame} {meth : Method} {c : Code} {Z : State → Prop} {D : va_G} {cA : Nat → ClassId} {h : Nat → Nat} {Q : sT → Prop} (C0 : cx p s m args c cX5_skips 1 RX5 D cA false keysRA h) (hret : rtV p l e rm_X5_skips s m args below meth c cX5_skips Z D (wR h cA) (aK keysRA h s.heap.size) Q) {S : sT} {H : Heap} {locs : List Loc} {ls : Array Slot} (hP : va_P D vwCl (wR h cA S) H) (hS : va_S (aK keysRA h s.heap.size) s.heap H locs) (hd : wp_X5_skips S Q) (hl : lv_has ls 1 [(0, .ref (h 100))]) : W p l e rm_X5_skips s m args below meth c H locs 0 0 Z (F0 m 0 ls []) := by
  obtain ⟨⟨hx, hb, hml, hown, hts⟩, hK, -, -⟩ := id C0
  unfold wp_X5_skips at hd
  obtain ⟨n_1, hd⟩ := hd
  exact bl_X5_skips_0 C0 hret _  _ _ _ _ hP hS hd (lv_sub hl [0] rfl)
theorem c_X5_skips (l : Launch) {D : va_G} {cA : Nat → ClassId} {h : Nat → Nat} (hk : ky keysRA h) {S : sT} (sz : Nat) {Q : sT → Prop} (hd : wp_X5_skips S Q) : Met l yX5_skips (wsU yX5_skips cX5_skips 1 none) rm_X5_skips (va_Pc [.ref (h 100)] (gP D cA false keysRA h (wR h cA) S sz)) (va_Qv Q (wB D (wR h cA)) (aK keysRA h sz)) 0 0 (aK keysRA h sz) :=
  mk_v (by decide) hk (Nat.le_of_ble_eq_true rfl) (fun p e s m below meth c Z ls C0 hret hP hS hl => bk_X5_skips C0 hret hP hS hd hl)
abbrev rm_X5_readsHead : Room := { frames := 3, cells := 0, slots := 0, locals := 69 }
def wp_X5_readsHead (S : sT) (Q : Int32 → sT → Prop) : Prop :=
  wp_X5_skips S (fun S_1 => wp_X5_here S_1 (fun r_2 S_2 => ((r_2 = (110 : Int32) → wp_X5_areFigures (5 : Int32) (20 : Int32) (uI S_2 19 ((vI S_2 19) + (1 : Int32))) (fun r_3 S_3 => ((¬ r_3 = 0 → wp_X5_areFigures (0 : Int32) (60 : Int32) (uI S_3 23 (vI S_3 22)) (fun r_4 S_4 => ((¬ r_4 = 0 → Q (1 : Int32) (uI S_4 24 (vI S_4 22))) ∧ (r_4 = 0 → Q (0 : Int32) S_4)))) ∧ (r_3 = 0 → Q (0 : Int32) S_3)))) ∧ (¬ r_2 = (110 : Int32) → Q (0 : Int32) S_2))))
set_option maxHeartbeats 4000000 in
set_option maxRecDepth 100000 in
theorem bk_X5_readsHead {p : Program} {l : Launch} {e : Env} {s : State} {m : MethodId} {args : Array Value} {below : List Frame} {meth : Method} {c : Code} {Z : State → Prop} {D : va_G} {cA : Nat → ClassId} {h : Nat → Nat} {Q : Int32 → sT → Prop} (C0 : cx p s m args c cX5_readsHead 1 RX5 D cA false keysRA h) (hret : rtZ p l e rm_X5_readsHead s m args below meth c cX5_readsHead Z D (wR h cA) (aK keysRA h s.heap.size) Q) {S : sT} {H : Heap} {locs : List Loc} {ls : Array Slot} (hP : va_P D vwCl (wR h cA S) H) (hS : va_S (aK keysRA h s.heap.size) s.heap H locs) (hd : wp_X5_readsHead S Q) (hl : lv_has ls 1 [(0, .ref (h 100))]) : W p l e rm_X5_readsHead s m args below meth c H locs 0 0 Z (F0 m 0 ls []) := by
  obtain ⟨⟨hx, hb, hml, hown, hts⟩, hK, -, -⟩ := id C0
  unfold wp_X5_readsHead at hd
  refine lv_aload_n hx hb dX5_readsHead_0 rfl (lv_at hl 0 rfl) ?_
  refine cl_Vv (n := 0) (rest := []) C0 hP hS (c_X5_skips l C0.2.2.1 _ hd) (lwG_V lm_X5_127 li_X5_skips lx_X5_skips lz_RX5 lc_X5_skips) (by decide +kernel) (oR_at h cA _) rfl rfl rfl (Nat.le_of_ble_eq_true rfl) ⟨rfl, rfl⟩ ⟨by decide, by decide⟩ dX5_readsHead_1 hl.1 ⟨Nat.zero_le _, Nat.zero_le _⟩ (fun S_1 H locs hd hP hS => ?_)
  refine lv_aload_n hx hb dX5_readsHead_4 rfl (lv_at hl 0 rfl) ?_
  refine cl_Vi (n := 0) (rest := []) C0 hP hS (c_X5_here l C0.2.2.1 _ hd) (lwG_V lm_X5_112 li_X5_here lx_X5_here lz_RX5 lc_X5_here) (by decide +kernel) (oR_at h cA _) rfl rfl rfl (Nat.le_of_ble_eq_true rfl) ⟨rfl, rfl⟩ ⟨by decide, by decide⟩ dX5_readsHead_5 hl.1 ⟨Nat.zero_le _, Nat.zero_le _⟩ (fun r_2 S_2 H locs hd hP hS => ?_)
  refine lv_bipush (v := 110) hx hb dX5_readsHead_8 (by decide) ?_
  refine lv_icmp_eq (tgt := 15) hx hb dX5_readsHead_10 (by decide) (fun hc => ?_) (fun hc => ?_)
  · have hd := hd.1 hc
    refine lv_aload_n hx hb dX5_readsHead_15 rfl (lv_at hl 0 rfl) ?_
    refine lv_dup hx hb dX5_readsHead_16 rfl ?_
    refine gf_X5_103 C0 hP dX5_readsHead_17 ?_
    refine lv_iconst (v := 1) hx hb dX5_readsHead_20 (by decide) ?_
    refine lv_iadd hx hb dX5_readsHead_21 ?_
    refine pf_X5_103 C0 hP hS dX5_readsHead_22 (fun H locs hP hS => ?_)
    refine lv_aload_n hx hb dX5_readsHead_25 rfl (lv_at hl 0 rfl) ?_
    refine lv_iconst (v := 5) hx hb dX5_readsHead_26 (by decide) ?_
    refine lv_bipush (v := 20) hx hb dX5_readsHead_27 (by decide) ?_
    refine cl_Vi (n := 2) (rest := []) C0 hP hS (c_X5_areFigures l C0.2.2.1 _ hd) (lwG_V lm_X5_130 li_X5_areFigures lx_X5_areFigures lz_RX5 lc_X5_areFigures) (by decide +kernel) (oR_at h cA _) rfl rfl rfl (Nat.le_of_ble_eq_true rfl) ⟨rfl, rfl⟩ ⟨by decide, by decide⟩ dX5_readsHead_29 hl.1 ⟨Nat.zero_le _, Nat.zero_le _⟩ (fun r_3 S_3 H locs hd hP hS => ?_)
    refine lv_if_ne (tgt := 37) hx hb dX5_readsHead_32 (by decide) (fun hc => ?_) (fun hc => ?_)
    · have hd := hd.1 hc
      refine lv_aload_n hx hb dX5_readsHead_37 rfl (lv_at hl 0 rfl) ?_
      refine lv_aload_n hx hb dX5_readsHead_38 rfl (lv_at hl 0 rfl) ?_
      refine gf_X5_120 C0 hP dX5_readsHead_39 ?_
      refine pf_X5_134 C0 hP hS dX5_readsHead_42 (fun H locs hP hS => ?_)
      refine lv_aload_n hx hb dX5_readsHead_45 rfl (lv_at hl 0 rfl) ?_
      refine lv_iconst (v := 0) hx hb dX5_readsHead_46 (by decide) ?_
      refine lv_bipush (v := 60) hx hb dX5_readsHead_47 (by decide) ?_
      refine cl_Vi (n := 2) (rest := []) C0 hP hS (c_X5_areFigures l C0.2.2.1 _ hd) (lwG_V lm_X5_130 li_X5_areFigures lx_X5_areFigures lz_RX5 lc_X5_areFigures) (by decide +kernel) (oR_at h cA _) rfl rfl rfl (Nat.le_of_ble_eq_true rfl) ⟨rfl, rfl⟩ ⟨by decide, by decide⟩ dX5_readsHead_49 hl.1 ⟨Nat.zero_le _, Nat.zero_le _⟩ (fun r_4 S_4 H locs hd hP hS => ?_)
      refine lv_if_ne (tgt := 57) hx hb dX5_readsHead_52 (by decide) (fun hc => ?_) (fun hc => ?_)
      · have hd := hd.1 hc
        refine lv_aload_n hx hb dX5_readsHead_57 rfl (lv_at hl 0 rfl) ?_
        refine lv_aload_n hx hb dX5_readsHead_58 rfl (lv_at hl 0 rfl) ?_
        refine gf_X5_120 C0 hP dX5_readsHead_59 ?_
        refine pf_X5_137 C0 hP hS dX5_readsHead_62 (fun H locs hP hS => ?_)
        refine lv_iconst (v := 1) hx hb dX5_readsHead_65 (by decide) ?_
        exact hret _ _ _ _ _ _ rfl hd hP hS dX5_readsHead_66
      · have hd := hd.2 hc
        refine lv_iconst (v := 0) hx hb dX5_readsHead_55 (by decide) ?_
        exact hret _ _ _ _ _ _ rfl hd hP hS dX5_readsHead_56
    · have hd := hd.2 hc
      refine lv_iconst (v := 0) hx hb dX5_readsHead_35 (by decide) ?_
      exact hret _ _ _ _ _ _ rfl hd hP hS dX5_readsHead_36
  · have hd := hd.2 hc
    refine lv_iconst (v := 0) hx hb dX5_readsHead_13 (by decide) ?_
    exact hret _ _ _ _ _ _ rfl hd hP hS dX5_readsHead_14
theorem c_X5_readsHead (l : Launch) {D : va_G} {cA : Nat → ClassId} {h : Nat → Nat} (hk : ky keysRA h) {S : sT} (sz : Nat) {Q : Int32 → sT → Prop} (hd : wp_X5_readsHead S Q) : Met l yX5_readsHead (wsU yX5_readsHead cX5_readsHead 1 (some .boolean)) rm_X5_readsHead (va_Pc [.ref (h 100)] (gP D cA false keysRA h (wR h cA) S sz)) (va_Qi Q (wB D (wR h cA)) (aK keysRA h sz)) 0 0 (aK keysRA h sz) :=
  mk_z (by decide) hk (Nat.le_of_ble_eq_true rfl) (fun p e s m below meth c Z ls C0 hret hP hS hl => bk_X5_readsHead C0 hret hP hS hd hl)
abbrev rm_X5_kindOf : Room := { frames := 0, cells := 0, slots := 0, locals := 0 }
def wp_X5_kindOf (x0 : Int32) (S : sT) (Q : Int32 → sT → Prop) : Prop :=
  ((x0 = (98 : Int32) → Q (2 : Int32) S) ∧ (x0 = (99 : Int32) → Q (1 : Int32) S) ∧ (x0 = (103 : Int32) → Q (4 : Int32) S) ∧ (x0 = (105 : Int32) → Q (3 : Int32) S) ∧ (x0 = (108 : Int32) → Q (5 : Int32) S) ∧ (x0 = (115 : Int32) → Q (0 : Int32) S) ∧ (¬ x0 = (98 : Int32) → ¬ x0 = (99 : Int32) → ¬ x0 = (103 : Int32) → ¬ x0 = (105 : Int32) → ¬ x0 = (108 : Int32) → ¬ x0 = (115 : Int32) → Q (-9 : Int32) S))
set_option maxHeartbeats 4000000 in
set_option maxRecDepth 100000 in
theorem bk_X5_kindOf {p : Program} {l : Launch} {e : Env} {s : State} {m : MethodId} {args : Array Value} {below : List Frame} {meth : Method} {c : Code} {Z : State → Prop} {D : va_G} {cA : Nat → ClassId} {h : Nat → Nat} {Q : Int32 → sT → Prop} (C0 : cx p s m args c cX5_kindOf 1 RX5 D cA false keysRA h) (hret : rtI p l e rm_X5_kindOf s m args below meth c cX5_kindOf Z D (wR h cA) (aK keysRA h s.heap.size) Q) {x0 : Int32} {S : sT} {H : Heap} {locs : List Loc} {ls : Array Slot} (hP : va_P D vwCl (wR h cA S) H) (hS : va_S (aK keysRA h s.heap.size) s.heap H locs) (hd : wp_X5_kindOf x0 S Q) (hl : lv_has ls 1 [(0, .int x0)]) : W p l e rm_X5_kindOf s m args below meth c H locs 0 0 Z (F0 m 0 ls []) := by
  obtain ⟨⟨hx, hb, hml, hown, hts⟩, hK, -, -⟩ := id C0
  unfold wp_X5_kindOf at hd
  refine lv_iload_n hx hb dX5_kindOf_0 rfl (lv_at hl 0 rfl) ?_
  by_cases hq1 : x0 = (98 : Int32)
  · have hd := hd.1 hq1
    refine lv_tableIn (off := 91) (tgt := 92) hx hb dX5_kindOf_1 (by rw [hq1]; decide) (by rw [hq1]; decide) (by rw [hq1]; decide) (by decide) ?_
    refine lv_iconst (v := 2) hx hb dX5_kindOf_92 (by decide) ?_
    exact hret _ _ _ _ _ _ hd hP hS dX5_kindOf_93
  by_cases hq2 : x0 = (99 : Int32)
  · have hd := hd.2.1 hq2
    refine lv_tableIn (off := 89) (tgt := 90) hx hb dX5_kindOf_1 (by rw [hq2]; decide) (by rw [hq2]; decide) (by rw [hq2]; decide) (by decide) ?_
    refine lv_iconst (v := 1) hx hb dX5_kindOf_90 (by decide) ?_
    exact hret _ _ _ _ _ _ hd hP hS dX5_kindOf_91
  by_cases hq3 : x0 = (103 : Int32)
  · have hd := hd.2.2.1 hq3
    refine lv_tableIn (off := 95) (tgt := 96) hx hb dX5_kindOf_1 (by rw [hq3]; decide) (by rw [hq3]; decide) (by rw [hq3]; decide) (by decide) ?_
    refine lv_iconst (v := 4) hx hb dX5_kindOf_96 (by decide) ?_
    exact hret _ _ _ _ _ _ hd hP hS dX5_kindOf_97
  by_cases hq4 : x0 = (105 : Int32)
  · have hd := hd.2.2.2.1 hq4
    refine lv_tableIn (off := 93) (tgt := 94) hx hb dX5_kindOf_1 (by rw [hq4]; decide) (by rw [hq4]; decide) (by rw [hq4]; decide) (by decide) ?_
    refine lv_iconst (v := 3) hx hb dX5_kindOf_94 (by decide) ?_
    exact hret _ _ _ _ _ _ hd hP hS dX5_kindOf_95
  by_cases hq5 : x0 = (108 : Int32)
  · have hd := hd.2.2.2.2.1 hq5
    refine lv_tableIn (off := 97) (tgt := 98) hx hb dX5_kindOf_1 (by rw [hq5]; decide) (by rw [hq5]; decide) (by rw [hq5]; decide) (by decide) ?_
    refine lv_iconst (v := 5) hx hb dX5_kindOf_98 (by decide) ?_
    exact hret _ _ _ _ _ _ hd hP hS dX5_kindOf_99
  by_cases hq6 : x0 = (115 : Int32)
  · have hd := hd.2.2.2.2.2.1 hq6
    refine lv_tableIn (off := 87) (tgt := 88) hx hb dX5_kindOf_1 (by rw [hq6]; decide) (by rw [hq6]; decide) (by rw [hq6]; decide) (by decide) ?_
    refine lv_iconst (v := 0) hx hb dX5_kindOf_88 (by decide) ?_
    exact hret _ _ _ _ _ _ hd hP hS dX5_kindOf_89
  have hd := hd.2.2.2.2.2.2 hq1 hq2 hq3 hq4 hq5 hq6
  have hdef : W p l e rm_X5_kindOf s m args below meth c H locs 0 0 Z (F0 m 100 ls []) := by
    refine lv_bipush (v := (-9)) hx hb dX5_kindOf_100 (by decide) ?_
    exact hret _ _ _ _ _ _ hd hP hS dX5_kindOf_102
  by_cases hq7 : x0 = (100 : Int32)
  · refine lv_tableIn (off := 99) (tgt := 100) hx hb dX5_kindOf_1 (by rw [hq7]; decide) (by rw [hq7]; decide) (by rw [hq7]; decide) (by decide) ?_
    exact hdef
  by_cases hq8 : x0 = (101 : Int32)
  · refine lv_tableIn (off := 99) (tgt := 100) hx hb dX5_kindOf_1 (by rw [hq8]; decide) (by rw [hq8]; decide) (by rw [hq8]; decide) (by decide) ?_
    exact hdef
  by_cases hq9 : x0 = (102 : Int32)
  · refine lv_tableIn (off := 99) (tgt := 100) hx hb dX5_kindOf_1 (by rw [hq9]; decide) (by rw [hq9]; decide) (by rw [hq9]; decide) (by decide) ?_
    exact hdef
  by_cases hq10 : x0 = (104 : Int32)
  · refine lv_tableIn (off := 99) (tgt := 100) hx hb dX5_kindOf_1 (by rw [hq10]; decide) (by rw [hq10]; decide) (by rw [hq10]; decide) (by decide) ?_
    exact hdef
  by_cases hq11 : x0 = (106 : Int32)
  · refine lv_tableIn (off := 99) (tgt := 100) hx hb dX5_kindOf_1 (by rw [hq11]; decide) (by rw [hq11]; decide) (by rw [hq11]; decide) (by decide) ?_
    exact hdef
  by_cases hq12 : x0 = (107 : Int32)
  · refine lv_tableIn (off := 99) (tgt := 100) hx hb dX5_kindOf_1 (by rw [hq12]; decide) (by rw [hq12]; decide) (by rw [hq12]; decide) (by decide) ?_
    exact hdef
  by_cases hq13 : x0 = (109 : Int32)
  · refine lv_tableIn (off := 99) (tgt := 100) hx hb dX5_kindOf_1 (by rw [hq13]; decide) (by rw [hq13]; decide) (by rw [hq13]; decide) (by decide) ?_
    exact hdef
  by_cases hq14 : x0 = (110 : Int32)
  · refine lv_tableIn (off := 99) (tgt := 100) hx hb dX5_kindOf_1 (by rw [hq14]; decide) (by rw [hq14]; decide) (by rw [hq14]; decide) (by decide) ?_
    exact hdef
  by_cases hq15 : x0 = (111 : Int32)
  · refine lv_tableIn (off := 99) (tgt := 100) hx hb dX5_kindOf_1 (by rw [hq15]; decide) (by rw [hq15]; decide) (by rw [hq15]; decide) (by decide) ?_
    exact hdef
  by_cases hq16 : x0 = (112 : Int32)
  · refine lv_tableIn (off := 99) (tgt := 100) hx hb dX5_kindOf_1 (by rw [hq16]; decide) (by rw [hq16]; decide) (by rw [hq16]; decide) (by decide) ?_
    exact hdef
  by_cases hq17 : x0 = (113 : Int32)
  · refine lv_tableIn (off := 99) (tgt := 100) hx hb dX5_kindOf_1 (by rw [hq17]; decide) (by rw [hq17]; decide) (by rw [hq17]; decide) (by decide) ?_
    exact hdef
  by_cases hq18 : x0 = (114 : Int32)
  · refine lv_tableIn (off := 99) (tgt := 100) hx hb dX5_kindOf_1 (by rw [hq18]; decide) (by rw [hq18]; decide) (by rw [hq18]; decide) (by decide) ?_
    exact hdef
  refine lv_tableOut (tgt := 100) hx hb dX5_kindOf_1 (sw_out 98 115 (by decide) (by decide) (fun v h1 h2 => by rcases (show v = 98 ∨ v = 99 ∨ v = 100 ∨ v = 101 ∨ v = 102 ∨ v = 103 ∨ v = 104 ∨ v = 105 ∨ v = 106 ∨ v = 107 ∨ v = 108 ∨ v = 109 ∨ v = 110 ∨ v = 111 ∨ v = 112 ∨ v = 113 ∨ v = 114 ∨ v = 115 by omega) with rfl | rfl | rfl | rfl | rfl | rfl | rfl | rfl | rfl | rfl | rfl | rfl | rfl | rfl | rfl | rfl | rfl | rfl <;> assumption)) (by decide) ?_
  exact hdef
theorem c_X5_kindOf (l : Launch) {D : va_G} {cA : Nat → ClassId} {h : Nat → Nat} (hk : ky keysRA h) {x0 : Int32} {S : sT} (sz : Nat) {Q : Int32 → sT → Prop} (hd : wp_X5_kindOf x0 S Q) : Met l yX5_kindOf (wsU yX5_kindOf cX5_kindOf 1 (some .int)) rm_X5_kindOf (va_Pc [.int x0] (gP D cA false keysRA h (wR h cA) S sz)) (va_Qi Q (wB D (wR h cA)) (aK keysRA h sz)) 0 0 (aK keysRA h sz) :=
  mk_i (by decide) hk (Nat.le_of_ble_eq_true rfl) (fun p e s m below meth c Z ls C0 hret hP hS hl => bk_X5_kindOf C0 hret hP hS hd hl)
abbrev rm_X5_readsSleeper : Room := { frames := 3, cells := 0, slots := 0, locals := 69 }
def wp_X5_readsSleeper (S : sT) (Q : Int32 → sT → Prop) : Prop :=
  wp_X5_here S (fun r_1 S_1 => wp_X5_kindOf r_1 S_1 (fun r_2 S_2 => ((r_2 = (-9 : Int32) → Q (0 : Int32) S_2) ∧ (¬ r_2 = (-9 : Int32) → ((¬ (vI S_2 25) = (6 : Int32) → wp_X5_areFigures (0 : Int32) (vI (uI S_2 19 ((vI S_2 19) + (1 : Int32))) 23) (uI S_2 19 ((vI S_2 19) + (1 : Int32))) (fun r_3 S_3 => ((¬ r_3 = 0 → (vp_in (vI S_3 25) 6) ∧ (vp_in (vI (uA S_3 26 (upd (vA S_3 26) (vI S_3 25).toNatClampNeg r_2)) 25) 6) ∧ ∀ S_6 : sT, S_6 = uA (uA S_3 26 (upd (vA S_3 26) (vI S_3 25).toNatClampNeg r_2)) 27 (upd (vA (uA S_3 26 (upd (vA S_3 26) (vI S_3 25).toNatClampNeg r_2)) 27) (vI (uA S_3 26 (upd (vA S_3 26) (vI S_3 25).toNatClampNeg r_2)) 25).toNatClampNeg (vI (uA S_3 26 (upd (vA S_3 26) (vI S_3 25).toNatClampNeg r_2)) 22)) → wp_X5_isFigure S_6 (fun r_7 S_7 => ((¬ r_7 = 0 → (vp_in (vI S_7 25) 6) ∧ ∀ S_9 : sT, S_9 = uI (uA S_7 28 (upd (vA S_7 28) (vI S_7 25).toNatClampNeg (vI S_7 22))) 25 ((vI (uA S_7 28 (upd (vA S_7 28) (vI S_7 25).toNatClampNeg (vI S_7 22))) 25) + (1 : Int32)) → Q (1 : Int32) S_9) ∧ (r_7 = 0 → Q (0 : Int32) S_7)))) ∧ (r_3 = 0 → Q (0 : Int32) S_3)))) ∧ ((vI S_2 25) = (6 : Int32) → Q (0 : Int32) S_2))))))
set_option maxHeartbeats 4000000 in
set_option maxRecDepth 100000 in
theorem bk_X5_readsSleeper {p : Program} {l : Launch} {e : Env} {s : State} {m : MethodId} {args : Array Value} {below : List Frame} {meth : Method} {c : Code} {Z : State → Prop} {D : va_G} {cA : Nat → ClassId} {h : Nat → Nat} {Q : Int32 → sT → Prop} (C0 : cx p s m args c cX5_readsSleeper 2 RX5 D cA false keysRA h) (hret : rtZ p l e rm_X5_readsSleeper s m args below meth c cX5_readsSleeper Z D (wR h cA) (aK keysRA h s.heap.size) Q) {S : sT} {H : Heap} {locs : List Loc} {ls : Array Slot} (hP : va_P D vwCl (wR h cA S) H) (hS : va_S (aK keysRA h s.heap.size) s.heap H locs) (hd : wp_X5_readsSleeper S Q) (hl : lv_has ls 2 [(0, .ref (h 100))]) : W p l e rm_X5_readsSleeper s m args below meth c H locs 0 0 Z (F0 m 0 ls []) := by
  obtain ⟨⟨hx, hb, hml, hown, hts⟩, hK, -, -⟩ := id C0
  unfold wp_X5_readsSleeper at hd
  refine lv_aload_n hx hb dX5_readsSleeper_0 rfl (lv_at hl 0 rfl) ?_
  refine cl_Vi (n := 0) (rest := []) C0 hP hS (c_X5_here l C0.2.2.1 _ hd) (lwG_V lm_X5_112 li_X5_here lx_X5_here lz_RX5 lc_X5_here) (by decide +kernel) (oR_at h cA _) rfl rfl rfl (Nat.le_of_ble_eq_true rfl) ⟨rfl, rfl⟩ ⟨by decide, by decide⟩ dX5_readsSleeper_1 hl.1 ⟨Nat.zero_le _, Nat.zero_le _⟩ (fun r_1 S_1 H locs hd hP hS => ?_)
  refine cl_Si (n := 1) (rest := []) C0 hP hS (c_X5_kindOf l C0.2.2.1 _ hd) (lwG_S lm_X5_140 ls_X5_kindOf lz_RX5 lc_X5_kindOf) (by decide +kernel) rfl rfl (Nat.le_of_ble_eq_true rfl) ⟨rfl, rfl⟩ ⟨by decide, by decide⟩ dX5_readsSleeper_4 hl.1 ⟨Nat.zero_le _, Nat.zero_le _⟩ (fun r_2 S_2 H locs hd hP hS => ?_)
  refine lv_istore_n (lv' := [(1, .int r_2), (0, .ref (h 100))]) hx hb dX5_readsSleeper_7 rfl hl (by decide) rfl (fun ls hl => ?_)
  refine lv_iload_n hx hb dX5_readsSleeper_8 rfl (lv_at hl 0 rfl) ?_
  refine lv_bipush (v := (-9)) hx hb dX5_readsSleeper_9 (by decide) ?_
  refine lv_icmp_eq (tgt := 23) hx hb dX5_readsSleeper_11 (by decide) (fun hc => ?_) (fun hc => ?_)
  · have hd := hd.1 hc
    refine lv_iconst (v := 0) hx hb dX5_readsSleeper_23 (by decide) ?_
    exact hret _ _ _ _ _ _ rfl hd hP hS dX5_readsSleeper_24
  · have hd := hd.2 hc
    refine lv_aload_n hx hb dX5_readsSleeper_14 rfl (lv_at hl 1 rfl) ?_
    refine gf_X5_143 C0 hP dX5_readsSleeper_15 ?_
    refine lv_bipush (v := 6) hx hb dX5_readsSleeper_18 (by decide) ?_
    refine lv_icmp_ne (tgt := 25) hx hb dX5_readsSleeper_20 (by decide) (fun hc => ?_) (fun hc => ?_)
    · have hd := hd.1 hc
      refine lv_aload_n hx hb dX5_readsSleeper_25 rfl (lv_at hl 1 rfl) ?_
      refine lv_dup hx hb dX5_readsSleeper_26 rfl ?_
      refine gf_X5_103 C0 hP dX5_readsSleeper_27 ?_
      refine lv_iconst (v := 1) hx hb dX5_readsSleeper_30 (by decide) ?_
      refine lv_iadd hx hb dX5_readsSleeper_31 ?_
      refine pf_X5_103 C0 hP hS dX5_readsSleeper_32 (fun H locs hP hS => ?_)
      refine lv_aload_n hx hb dX5_readsSleeper_35 rfl (lv_at hl 1 rfl) ?_
      refine lv_iconst (v := 0) hx hb dX5_readsSleeper_36 (by decide) ?_
      refine lv_aload_n hx hb dX5_readsSleeper_37 rfl (lv_at hl 1 rfl) ?_
      refine gf_X5_134 C0 hP dX5_readsSleeper_38 ?_
      refine cl_Vi (n := 2) (rest := []) C0 hP hS (c_X5_areFigures l C0.2.2.1 _ hd) (lwG_V lm_X5_130 li_X5_areFigures lx_X5_areFigures lz_RX5 lc_X5_areFigures) (by decide +kernel) (oR_at h cA _) rfl rfl rfl (Nat.le_of_ble_eq_true rfl) ⟨rfl, rfl⟩ ⟨by decide, by decide⟩ dX5_readsSleeper_41 hl.1 ⟨Nat.zero_le _, Nat.zero_le _⟩ (fun r_3 S_3 H locs hd hP hS => ?_)
      refine lv_if_ne (tgt := 49) hx hb dX5_readsSleeper_44 (by decide) (fun hc => ?_) (fun hc => ?_)
      · have hd := hd.1 hc
        refine lv_aload_n hx hb dX5_readsSleeper_49 rfl (lv_at hl 1 rfl) ?_
        refine gf_X5_47 C0 hP dX5_readsSleeper_50 ?_
        refine lv_aload_n hx hb dX5_readsSleeper_53 rfl (lv_at hl 1 rfl) ?_
        refine gf_X5_143 C0 hP dX5_readsSleeper_54 ?_
        refine lv_iload_n hx hb dX5_readsSleeper_57 rfl (lv_at hl 0 rfl) ?_
        obtain ⟨h_4, hd⟩ := hd
        refine stR (by decide) C0 hP hS h_4 dX5_readsSleeper_58 (fun H locs hP hS => ?_)
        refine lv_aload_n hx hb dX5_readsSleeper_59 rfl (lv_at hl 1 rfl) ?_
        refine gf_X5_50 C0 hP dX5_readsSleeper_60 ?_
        refine lv_aload_n hx hb dX5_readsSleeper_63 rfl (lv_at hl 1 rfl) ?_
        refine gf_X5_143 C0 hP dX5_readsSleeper_64 ?_
        refine lv_aload_n hx hb dX5_readsSleeper_67 rfl (lv_at hl 1 rfl) ?_
        refine gf_X5_120 C0 hP dX5_readsSleeper_68 ?_
        obtain ⟨h_5, hd⟩ := hd
        refine stR (by decide) C0 hP hS h_5 dX5_readsSleeper_71 (fun H locs hP hS => ?_)
        obtain ⟨S_6, eS_6⟩ : ∃ x : sT, x = uA (uA S_3 26 (upd (vA S_3 26) (vI S_3 25).toNatClampNeg r_2)) 27 (upd (vA (uA S_3 26 (upd (vA S_3 26) (vI S_3 25).toNatClampNeg r_2)) 27) (vI (uA S_3 26 (upd (vA S_3 26) (vI S_3 25).toNatClampNeg r_2)) 25).toNatClampNeg (vI (uA S_3 26 (upd (vA S_3 26) (vI S_3 25).toNatClampNeg r_2)) 22)) := ⟨_, rfl⟩
        rw [← eS_6] at hP
        have hd := hd S_6 eS_6
        refine lv_aload_n hx hb dX5_readsSleeper_72 rfl (lv_at hl 1 rfl) ?_
        refine cl_Vi (n := 0) (rest := []) C0 hP hS (c_X5_isFigure l C0.2.2.1 _ hd) (lwG_V lm_X5_123 li_X5_isFigure lx_X5_isFigure lz_RX5 lc_X5_isFigure) (by decide +kernel) (oR_at h cA _) rfl rfl rfl (Nat.le_of_ble_eq_true rfl) ⟨rfl, rfl⟩ ⟨by decide, by decide⟩ dX5_readsSleeper_73 hl.1 ⟨Nat.zero_le _, Nat.zero_le _⟩ (fun r_7 S_7 H locs hd hP hS => ?_)
        refine lv_if_ne (tgt := 81) hx hb dX5_readsSleeper_76 (by decide) (fun hc => ?_) (fun hc => ?_)
        · have hd := hd.1 hc
          refine lv_aload_n hx hb dX5_readsSleeper_81 rfl (lv_at hl 1 rfl) ?_
          refine gf_X5_53 C0 hP dX5_readsSleeper_82 ?_
          refine lv_aload_n hx hb dX5_readsSleeper_85 rfl (lv_at hl 1 rfl) ?_
          refine gf_X5_143 C0 hP dX5_readsSleeper_86 ?_
          refine lv_aload_n hx hb dX5_readsSleeper_89 rfl (lv_at hl 1 rfl) ?_
          refine gf_X5_120 C0 hP dX5_readsSleeper_90 ?_
          obtain ⟨h_8, hd⟩ := hd
          refine stR (by decide) C0 hP hS h_8 dX5_readsSleeper_93 (fun H locs hP hS => ?_)
          refine lv_aload_n hx hb dX5_readsSleeper_94 rfl (lv_at hl 1 rfl) ?_
          refine lv_dup hx hb dX5_readsSleeper_95 rfl ?_
          refine gf_X5_143 C0 hP dX5_readsSleeper_96 ?_
          refine lv_iconst (v := 1) hx hb dX5_readsSleeper_99 (by decide) ?_
          refine lv_iadd hx hb dX5_readsSleeper_100 ?_
          refine pf_X5_143 C0 hP hS dX5_readsSleeper_101 (fun H locs hP hS => ?_)
          obtain ⟨S_9, eS_9⟩ : ∃ x : sT, x = uI (uA S_7 28 (upd (vA S_7 28) (vI S_7 25).toNatClampNeg (vI S_7 22))) 25 ((vI (uA S_7 28 (upd (vA S_7 28) (vI S_7 25).toNatClampNeg (vI S_7 22))) 25) + (1 : Int32)) := ⟨_, rfl⟩
          rw [← eS_9] at hP
          have hd := hd S_9 eS_9
          refine lv_iconst (v := 1) hx hb dX5_readsSleeper_104 (by decide) ?_
          exact hret _ _ _ _ _ _ rfl hd hP hS dX5_readsSleeper_105
        · have hd := hd.2 hc
          refine lv_iconst (v := 0) hx hb dX5_readsSleeper_79 (by decide) ?_
          exact hret _ _ _ _ _ _ rfl hd hP hS dX5_readsSleeper_80
      · have hd := hd.2 hc
        refine lv_iconst (v := 0) hx hb dX5_readsSleeper_47 (by decide) ?_
        exact hret _ _ _ _ _ _ rfl hd hP hS dX5_readsSleeper_48
    · have hd := hd.2 hc
      refine lv_iconst (v := 0) hx hb dX5_readsSleeper_23 (by decide) ?_
      exact hret _ _ _ _ _ _ rfl hd hP hS dX5_readsSleeper_24
theorem c_X5_readsSleeper (l : Launch) {D : va_G} {cA : Nat → ClassId} {h : Nat → Nat} (hk : ky keysRA h) {S : sT} (sz : Nat) {Q : Int32 → sT → Prop} (hd : wp_X5_readsSleeper S Q) : Met l yX5_readsSleeper (wsU yX5_readsSleeper cX5_readsSleeper 2 (some .boolean)) rm_X5_readsSleeper (va_Pc [.ref (h 100)] (gP D cA false keysRA h (wR h cA) S sz)) (va_Qi Q (wB D (wR h cA)) (aK keysRA h sz)) 0 0 (aK keysRA h sz) :=
  mk_z (by decide) hk (Nat.le_of_ble_eq_true rfl) (fun p e s m below meth c Z ls C0 hret hP hS hl => bk_X5_readsSleeper C0 hret hP hS hd hl)
abbrev rm_X5_reads : Room := { frames := 4, cells := 0, slots := 0, locals := 90 }
def wb_X5_reads_85 (Q : Int32 → sT → Prop) (S : sT) : Prop :=
  Q (vI S 19) S
set_option maxHeartbeats 4000000 in
set_option maxRecDepth 100000 in
theorem bk_X5_reads_85 {p : Program} {l : Launch} {e : Env} {s : State} {m : MethodId} {args : Array Value} {below : List Frame} {meth : Method} {c : Code} {Z : State → Prop} {D : va_G} {cA : Nat → ClassId} {h : Nat → Nat} {Q : Int32 → sT → Prop} (C0 : cx p s m args c cX5_reads 3 RX5 D cA false keysRA h) (hret : rtI p l e rm_X5_reads s m args below meth c cX5_reads Z D (wR h cA) (aK keysRA h s.heap.size) Q) {S : sT} {H : Heap} {locs : List Loc} {ls : Array Slot} (hP : va_P D vwCl (wR h cA S) H) (hS : va_S (aK keysRA h s.heap.size) s.heap H locs) (hd : wb_X5_reads_85 Q S) (hl : lv_has ls 3 [(0, .ref (h 100))]) : W p l e rm_X5_reads s m args below meth c H locs 0 0 Z (F0 m 85 ls []) := by
  obtain ⟨⟨hx, hb, hml, hown, hts⟩, hK, -, -⟩ := id C0
  unfold wb_X5_reads_85 at hd
  refine lv_aload_n hx hb dX5_reads_85 rfl (lv_at hl 0 rfl) ?_
  refine gf_X5_103 C0 hP dX5_reads_86 ?_
  exact hret _ _ _ _ _ _ hd hP hS dX5_reads_89
def wb_X5_reads_69 (Q : Int32 → sT → Prop) (x2 : Int32) (S : sT) : Prop :=
  ((x2 = 0 → wb_X5_reads_85 Q S) ∧ (¬ x2 = 0 → (((vI S 25) ≤ 0 → wb_X5_reads_85 Q S) ∧ (¬ (vI S 25) ≤ 0 → Q (-9 : Int32) S))))
set_option maxHeartbeats 4000000 in
set_option maxRecDepth 100000 in
theorem bk_X5_reads_69 {p : Program} {l : Launch} {e : Env} {s : State} {m : MethodId} {args : Array Value} {below : List Frame} {meth : Method} {c : Code} {Z : State → Prop} {D : va_G} {cA : Nat → ClassId} {h : Nat → Nat} {Q : Int32 → sT → Prop} (C0 : cx p s m args c cX5_reads 3 RX5 D cA false keysRA h) (hret : rtI p l e rm_X5_reads s m args below meth c cX5_reads Z D (wR h cA) (aK keysRA h s.heap.size) Q) {x2 : Int32} {S : sT} {H : Heap} {locs : List Loc} {ls : Array Slot} (hP : va_P D vwCl (wR h cA S) H) (hS : va_S (aK keysRA h s.heap.size) s.heap H locs) (hd : wb_X5_reads_69 Q x2 S) (hl : lv_has ls 3 [(0, .ref (h 100)), (2, .int x2)]) : W p l e rm_X5_reads s m args below meth c H locs 0 0 Z (F0 m 69 ls []) := by
  obtain ⟨⟨hx, hb, hml, hown, hts⟩, hK, -, -⟩ := id C0
  unfold wb_X5_reads_69 at hd
  refine lv_iload_n hx hb dX5_reads_69 rfl (lv_at hl 1 rfl) ?_
  refine lv_if_eq (tgt := 85) hx hb dX5_reads_70 (by decide) (fun hc => ?_) (fun hc => ?_)
  · have hd := hd.1 hc
    exact bk_X5_reads_85 C0 hret hP hS hd (lv_sub hl [0] rfl)
  · have hd := hd.2 hc
    refine lv_aload_n hx hb dX5_reads_73 rfl (lv_at hl 0 rfl) ?_
    refine gf_X5_143 C0 hP dX5_reads_74 ?_
    refine lv_if_le (tgt := 85) hx hb dX5_reads_77 (by decide) (fun hc => ?_) (fun hc => ?_)
    · have hd := hd.1 hc
      exact bk_X5_reads_85 C0 hret hP hS hd (lv_sub hl [0] rfl)
    · have hd := hd.2 hc
      refine lv_bipush (v := (-9)) hx hb dX5_reads_80 (by decide) ?_
      refine lv_goto (tgt := 89) hx hb dX5_reads_82 (by decide) ?_
      exact hret _ _ _ _ _ _ hd hP hS dX5_reads_89
def wb_X5_reads_38 (Q : Int32 → sT → Prop) (K38 : Int32 → sT → Prop) (x2 : Int32) (S : sT) : Prop :=
  (((vI S 20) ≤ (vI S 19) → wb_X5_reads_69 Q x2 S) ∧ (¬ (vI S 20) ≤ (vI S 19) → ((x2 = 0 → wb_X5_reads_69 Q x2 S) ∧ (¬ x2 = 0 → wp_X5_readsSleeper S (fun r_1 S_1 => ((r_1 = 0 → K38 r_1 S_1) ∧ (¬ r_1 = 0 → wp_X5_skips S_1 (fun S_2 => K38 r_1 S_2))))))))
set_option maxHeartbeats 4000000 in
set_option maxRecDepth 100000 in
theorem bk_X5_reads_38 {p : Program} {l : Launch} {e : Env} {s : State} {m : MethodId} {args : Array Value} {below : List Frame} {meth : Method} {c : Code} {Z : State → Prop} {D : va_G} {cA : Nat → ClassId} {h : Nat → Nat} {Q : Int32 → sT → Prop} (C0 : cx p s m args c cX5_reads 3 RX5 D cA false keysRA h) (hret : rtI p l e rm_X5_reads s m args below meth c cX5_reads Z D (wR h cA) (aK keysRA h s.heap.size) Q) {K38 : Int32 → sT → Prop} (k38 : ∀ (x2 : Int32) (S : sT) (H : Heap) (locs : List Loc) (ls : Array Slot), K38 x2 S → va_P D vwCl (wR h cA S) H → va_S (aK keysRA h s.heap.size) s.heap H locs → lv_has ls 3 [(0, .ref (h 100)), (2, .int x2)] → W p l e rm_X5_reads s m args below meth c H locs 0 0 Z (F0 m 38 ls [])) {x2 : Int32} {S : sT} {H : Heap} {locs : List Loc} {ls : Array Slot} (hP : va_P D vwCl (wR h cA S) H) (hS : va_S (aK keysRA h s.heap.size) s.heap H locs) (hd : wb_X5_reads_38 Q K38 x2 S) (hl : lv_has ls 3 [(0, .ref (h 100)), (2, .int x2)]) : W p l e rm_X5_reads s m args below meth c H locs 0 0 Z (F0 m 38 ls []) := by
  obtain ⟨⟨hx, hb, hml, hown, hts⟩, hK, -, -⟩ := id C0
  unfold wb_X5_reads_38 at hd
  refine lv_aload_n hx hb dX5_reads_38 rfl (lv_at hl 0 rfl) ?_
  refine gf_X5_103 C0 hP dX5_reads_39 ?_
  refine lv_aload_n hx hb dX5_reads_42 rfl (lv_at hl 0 rfl) ?_
  refine gf_X5_106 C0 hP dX5_reads_43 ?_
  refine lv_icmp_ge (tgt := 69) hx hb dX5_reads_46 (by decide) (fun hc => ?_) (fun hc => ?_)
  · have hd := hd.1 hc
    exact bk_X5_reads_69 C0 hret hP hS hd (lv_sub hl [0, 1] rfl)
  · have hd := hd.2 hc
    refine lv_iload_n hx hb dX5_reads_49 rfl (lv_at hl 1 rfl) ?_
    refine lv_if_eq (tgt := 69) hx hb dX5_reads_50 (by decide) (fun hc => ?_) (fun hc => ?_)
    · have hd := hd.1 hc
      exact bk_X5_reads_69 C0 hret hP hS hd (lv_sub hl [0, 1] rfl)
    · have hd := hd.2 hc
      refine lv_aload_n hx hb dX5_reads_53 rfl (lv_at hl 0 rfl) ?_
      refine cl_Vi (n := 0) (rest := []) C0 hP hS (c_X5_readsSleeper l C0.2.2.1 _ hd) (lwG_V lm_X5_149 li_X5_readsSleeper lx_X5_readsSleeper lz_RX5 lc_X5_readsSleeper) (by decide +kernel) (oR_at h cA _) rfl rfl rfl (Nat.le_of_ble_eq_true rfl) ⟨rfl, rfl⟩ ⟨by decide, by decide⟩ dX5_reads_54 hl.1 ⟨Nat.zero_le _, Nat.zero_le _⟩ (fun r_1 S_1 H locs hd hP hS => ?_)
      refine lv_istore_n (lv' := [(2, .int r_1), (0, .ref (h 100))]) hx hb dX5_reads_57 rfl hl (by decide) rfl (fun ls hl => ?_)
      refine lv_iload_n hx hb dX5_reads_58 rfl (lv_at hl 0 rfl) ?_
      refine lv_if_eq (tgt := 38) hx hb dX5_reads_59 (by decide) (fun hc => ?_) (fun hc => ?_)
      · have hd := hd.1 hc
        exact k38 _ _ _ _ _ hd hP hS (lv_sub hl [1, 0] rfl)
      · have hd := hd.2 hc
        refine lv_aload_n hx hb dX5_reads_62 rfl (lv_at hl 1 rfl) ?_
        refine cl_Vv (n := 0) (rest := []) C0 hP hS (c_X5_skips l C0.2.2.1 _ hd) (lwG_V lm_X5_127 li_X5_skips lx_X5_skips lz_RX5 lc_X5_skips) (by decide +kernel) (oR_at h cA _) rfl rfl rfl (Nat.le_of_ble_eq_true rfl) ⟨rfl, rfl⟩ ⟨by decide, by decide⟩ dX5_reads_63 hl.1 ⟨Nat.zero_le _, Nat.zero_le _⟩ (fun S_2 H locs hd hP hS => ?_)
        refine lv_goto (tgt := 38) hx hb dX5_reads_66 (by decide) ?_
        exact k38 _ _ _ _ _ hd hP hS (lv_sub hl [1, 0] rfl)
def wl_X5_reads_38 (Q : Int32 → sT → Prop) : Nat → Int32 → sT → Prop
  | 0, _ => fun _ => False
  | n + 1, x2 => fun S => wb_X5_reads_38 Q (fun x2 S => wl_X5_reads_38 Q n x2 S) x2 S
theorem bl_X5_reads_38 {p : Program} {l : Launch} {e : Env} {s : State} {m : MethodId} {args : Array Value} {below : List Frame} {meth : Method} {c : Code} {Z : State → Prop} {D : va_G} {cA : Nat → ClassId} {h : Nat → Nat} {Q : Int32 → sT → Prop} (C0 : cx p s m args c cX5_reads 3 RX5 D cA false keysRA h) (hret : rtI p l e rm_X5_reads s m args below meth c cX5_reads Z D (wR h cA) (aK keysRA h s.heap.size) Q) : ∀ (n : Nat) (x2 : Int32) (S : sT) (H : Heap) (locs : List Loc) (ls : Array Slot), va_P D vwCl (wR h cA S) H → va_S (aK keysRA h s.heap.size) s.heap H locs → wl_X5_reads_38 Q n x2 S → lv_has ls 3 [(0, .ref (h 100)), (2, .int x2)] → W p l e rm_X5_reads s m args below meth c H locs 0 0 Z (F0 m 38 ls []) := by
  intro n
  induction n with
  | zero => intro x2 S H locs ls hP hS hd hl; exact (show False from hd).elim
  | succ n ih => intro x2 S H locs ls hP hS hd hl; exact bk_X5_reads_38 C0 hret (fun x2 S H locs ls hd hP hS hl => ih x2 S H locs ls hP hS hd hl) hP hS hd hl
def wp_X5_reads (x1 : Int32) (S : sT) (Q : Int32 → sT → Prop) : Prop :=
  (vp_in x1 4) ∧ wp_X5_readsHead (uI (uI (uI (uI S 21 x1) 20 (vA (uI S 21 x1) 3 x1.toNatClampNeg)) 19 (0 : Int32)) 25 (0 : Int32)) (fun r_2 S_2 => ((r_2 = 0 → ∃ n : Nat, wl_X5_reads_38 Q n r_2 S_2) ∧ (¬ r_2 = 0 → wp_X5_skips S_2 (fun S_4 => ∃ n : Nat, wl_X5_reads_38 Q n r_2 S_4))))
set_option maxHeartbeats 4000000 in
set_option maxRecDepth 100000 in
theorem bk_X5_reads {p : Program} {l : Launch} {e : Env} {s : State} {m : MethodId} {args : Array Value} {below : List Frame} {meth : Method} {c : Code} {Z : State → Prop} {D : va_G} {cA : Nat → ClassId} {h : Nat → Nat} {Q : Int32 → sT → Prop} (C0 : cx p s m args c cX5_reads 3 RX5 D cA false keysRA h) (hret : rtI p l e rm_X5_reads s m args below meth c cX5_reads Z D (wR h cA) (aK keysRA h s.heap.size) Q) {x1 : Int32} {S : sT} {H : Heap} {locs : List Loc} {ls : Array Slot} (hP : va_P D vwCl (wR h cA S) H) (hS : va_S (aK keysRA h s.heap.size) s.heap H locs) (hd : wp_X5_reads x1 S Q) (hl : lv_has ls 3 [(0, .ref (h 100)), (1, .int x1)]) : W p l e rm_X5_reads s m args below meth c H locs 0 0 Z (F0 m 0 ls []) := by
  obtain ⟨⟨hx, hb, hml, hown, hts⟩, hK, -, -⟩ := id C0
  unfold wp_X5_reads at hd
  refine lv_aload_n hx hb dX5_reads_0 rfl (lv_at hl 0 rfl) ?_
  refine lv_iload_n hx hb dX5_reads_1 rfl (lv_at hl 1 rfl) ?_
  refine pf_X5_109 C0 hP hS dX5_reads_2 (fun H locs hP hS => ?_)
  refine lv_aload_n hx hb dX5_reads_5 rfl (lv_at hl 0 rfl) ?_
  refine lv_aload_n hx hb dX5_reads_6 rfl (lv_at hl 0 rfl) ?_
  refine gf_X5_19 C0 hP dX5_reads_7 ?_
  refine lv_iload_n hx hb dX5_reads_10 rfl (lv_at hl 1 rfl) ?_
  obtain ⟨h_1, hd⟩ := hd
  refine ldR (by decide) C0 hP h_1 dX5_reads_11 ?_
  refine pf_X5_106 C0 hP hS dX5_reads_12 (fun H locs hP hS => ?_)
  refine lv_aload_n hx hb dX5_reads_15 rfl (lv_at hl 0 rfl) ?_
  refine lv_iconst (v := 0) hx hb dX5_reads_16 (by decide) ?_
  refine pf_X5_103 C0 hP hS dX5_reads_17 (fun H locs hP hS => ?_)
  refine lv_aload_n hx hb dX5_reads_20 rfl (lv_at hl 0 rfl) ?_
  refine lv_iconst (v := 0) hx hb dX5_reads_21 (by decide) ?_
  refine pf_X5_143 C0 hP hS dX5_reads_22 (fun H locs hP hS => ?_)
  refine lv_aload_n hx hb dX5_reads_25 rfl (lv_at hl 0 rfl) ?_
  refine cl_Vi (n := 0) (rest := []) C0 hP hS (c_X5_readsHead l C0.2.2.1 _ hd) (lwG_V lm_X5_146 li_X5_readsHead lx_X5_readsHead lz_RX5 lc_X5_readsHead) (by decide +kernel) (oR_at h cA _) rfl rfl rfl (Nat.le_of_ble_eq_true rfl) ⟨rfl, rfl⟩ ⟨by decide, by decide⟩ dX5_reads_26 hl.1 ⟨Nat.zero_le _, Nat.zero_le _⟩ (fun r_2 S_2 H locs hd hP hS => ?_)
  refine lv_istore_n (lv' := [(2, .int r_2), (0, .ref (h 100)), (1, .int x1)]) hx hb dX5_reads_29 rfl hl (by decide) rfl (fun ls hl => ?_)
  refine lv_iload_n hx hb dX5_reads_30 rfl (lv_at hl 0 rfl) ?_
  refine lv_if_eq (tgt := 38) hx hb dX5_reads_31 (by decide) (fun hc => ?_) (fun hc => ?_)
  · have hd := hd.1 hc
    obtain ⟨n_3, hd⟩ := hd
    exact bl_X5_reads_38 C0 hret _ _ _ _ _ _ hP hS hd (lv_sub hl [1, 0] rfl)
  · have hd := hd.2 hc
    refine lv_aload_n hx hb dX5_reads_34 rfl (lv_at hl 1 rfl) ?_
    refine cl_Vv (n := 0) (rest := []) C0 hP hS (c_X5_skips l C0.2.2.1 _ hd) (lwG_V lm_X5_127 li_X5_skips lx_X5_skips lz_RX5 lc_X5_skips) (by decide +kernel) (oR_at h cA _) rfl rfl rfl (Nat.le_of_ble_eq_true rfl) ⟨rfl, rfl⟩ ⟨by decide, by decide⟩ dX5_reads_35 hl.1 ⟨Nat.zero_le _, Nat.zero_le _⟩ (fun S_4 H locs hd hP hS => ?_)
    obtain ⟨n_5, hd⟩ := hd
    exact bl_X5_reads_38 C0 hret _ _ _ _ _ _ hP hS hd (lv_sub hl [1, 0] rfl)
theorem c_X5_reads (l : Launch) {D : va_G} {cA : Nat → ClassId} {h : Nat → Nat} (hk : ky keysRA h) {x1 : Int32} {S : sT} (sz : Nat) {Q : Int32 → sT → Prop} (hd : wp_X5_reads x1 S Q) : Met l yX5_reads (wsU yX5_reads cX5_reads 3 (some .int)) rm_X5_reads (va_Pc [.ref (h 100), .int x1] (gP D cA false keysRA h (wR h cA) S sz)) (va_Qi Q (wB D (wR h cA)) (aK keysRA h sz)) 0 0 (aK keysRA h sz) :=
  mk_i (by decide) hk (Nat.le_of_ble_eq_true rfl) (fun p e s m below meth c Z ls C0 hret hP hS hl => bk_X5_reads C0 hret hP hS hd hl)
abbrev rm_X5_fault : Room := { frames := 5, cells := 0, slots := 0, locals := 112 }
def wp_X5_fault (x1 : Int32) (S : sT) (Q : Int32 → sT → Prop) : Prop :=
  wp_X5_isText x1 S (fun r_1 S_1 => ((¬ r_1 = 0 → (vp_in x1 4) ∧ ((0 ≤ (vA S_1 3 x1.toNatClampNeg) → wp_X5_reads x1 S_1 (fun r_3 S_3 => Q r_3 S_3)) ∧ (¬ 0 ≤ (vA S_1 3 x1.toNatClampNeg) → wp_X5_found (1 : Int32) S_1 (fun r_4 S_4 => Q r_4 S_4)))) ∧ (r_1 = 0 → Q (-1 : Int32) S_1)))
set_option maxHeartbeats 4000000 in
set_option maxRecDepth 100000 in
theorem bk_X5_fault {p : Program} {l : Launch} {e : Env} {s : State} {m : MethodId} {args : Array Value} {below : List Frame} {meth : Method} {c : Code} {Z : State → Prop} {D : va_G} {cA : Nat → ClassId} {h : Nat → Nat} {Q : Int32 → sT → Prop} (C0 : cx p s m args c cX5_fault 2 RX5 D cA false keysRA h) (hret : rtI p l e rm_X5_fault s m args below meth c cX5_fault Z D (wR h cA) (aK keysRA h s.heap.size) Q) {x1 : Int32} {S : sT} {H : Heap} {locs : List Loc} {ls : Array Slot} (hP : va_P D vwCl (wR h cA S) H) (hS : va_S (aK keysRA h s.heap.size) s.heap H locs) (hd : wp_X5_fault x1 S Q) (hl : lv_has ls 2 [(0, .ref (h 100)), (1, .int x1)]) : W p l e rm_X5_fault s m args below meth c H locs 0 0 Z (F0 m 0 ls []) := by
  obtain ⟨⟨hx, hb, hml, hown, hts⟩, hK, -, -⟩ := id C0
  unfold wp_X5_fault at hd
  refine lv_iload_n hx hb dX5_fault_0 rfl (lv_at hl 1 rfl) ?_
  refine cl_Si (n := 1) (rest := []) C0 hP hS (c_X5_isText l C0.2.2.1 _ hd) (lwG_S lm_X5_94 ls_X5_isText lz_RX5 lc_X5_isText) (by decide +kernel) rfl rfl (Nat.le_of_ble_eq_true rfl) ⟨rfl, rfl⟩ ⟨by decide, by decide⟩ dX5_fault_1 hl.1 ⟨Nat.zero_le _, Nat.zero_le _⟩ (fun r_1 S_1 H locs hd hP hS => ?_)
  refine lv_if_ne (tgt := 9) hx hb dX5_fault_4 (by decide) (fun hc => ?_) (fun hc => ?_)
  · have hd := hd.1 hc
    refine lv_aload_n hx hb dX5_fault_9 rfl (lv_at hl 0 rfl) ?_
    refine gf_X5_19 C0 hP dX5_fault_10 ?_
    refine lv_iload_n hx hb dX5_fault_13 rfl (lv_at hl 1 rfl) ?_
    obtain ⟨h_2, hd⟩ := hd
    refine ldR (by decide) C0 hP h_2 dX5_fault_14 ?_
    refine lv_if_ge (tgt := 26) hx hb dX5_fault_15 (by decide) (fun hc => ?_) (fun hc => ?_)
    · have hd := hd.1 hc
      refine lv_aload_n hx hb dX5_fault_26 rfl (lv_at hl 0 rfl) ?_
      refine lv_iload_n hx hb dX5_fault_27 rfl (lv_at hl 1 rfl) ?_
      refine cl_Vi (n := 1) (rest := []) C0 hP hS (c_X5_reads l C0.2.2.1 _ hd) (lwG_V lm_X5_152 li_X5_reads lx_X5_reads lz_RX5 lc_X5_reads) (by decide +kernel) (oR_at h cA _) rfl rfl rfl (Nat.le_of_ble_eq_true rfl) ⟨rfl, rfl⟩ ⟨by decide, by decide⟩ dX5_fault_28 hl.1 ⟨Nat.zero_le _, Nat.zero_le _⟩ (fun r_3 S_3 H locs hd hP hS => ?_)
      exact hret _ _ _ _ _ _ hd hP hS dX5_fault_31
    · have hd := hd.2 hc
      refine lv_aload_n hx hb dX5_fault_18 rfl (lv_at hl 0 rfl) ?_
      refine lv_iconst (v := 1) hx hb dX5_fault_19 (by decide) ?_
      refine cl_Vi (n := 1) (rest := []) C0 hP hS (c_X5_found l C0.2.2.1 _ hd) (lwG_V lm_X5_87 li_X5_found lx_X5_found lz_RX5 lc_X5_found) (by decide +kernel) (oR_at h cA _) rfl rfl rfl (Nat.le_of_ble_eq_true rfl) ⟨rfl, rfl⟩ ⟨by decide, by decide⟩ dX5_fault_20 hl.1 ⟨Nat.zero_le _, Nat.zero_le _⟩ (fun r_4 S_4 H locs hd hP hS => ?_)
      refine lv_goto (tgt := 31) hx hb dX5_fault_23 (by decide) ?_
      exact hret _ _ _ _ _ _ hd hP hS dX5_fault_31
  · have hd := hd.2 hc
    refine lv_iconst (v := (-1)) hx hb dX5_fault_7 (by decide) ?_
    exact hret _ _ _ _ _ _ hd hP hS dX5_fault_8
theorem c_X5_fault (l : Launch) {D : va_G} {cA : Nat → ClassId} {h : Nat → Nat} (hk : ky keysRA h) {x1 : Int32} {S : sT} (sz : Nat) {Q : Int32 → sT → Prop} (hd : wp_X5_fault x1 S Q) : Met l yX5_fault (wsU yX5_fault cX5_fault 2 (some .int)) rm_X5_fault (va_Pc [.ref (h 100), .int x1] (gP D cA false keysRA h (wR h cA) S sz)) (va_Qi Q (wB D (wR h cA)) (aK keysRA h sz)) 0 0 (aK keysRA h sz) :=
  mk_i (by decide) hk (Nat.le_of_ble_eq_true rfl) (fun p e s m below meth c Z ls C0 hret hP hS hl => bk_X5_fault C0 hret hP hS hd hl)
abbrev rm_X5_standsThen : Room := { frames := 5, cells := 0, slots := 0, locals := 115 }
def wp_X5_standsThen (x1 : Int32) (x2 : Int32) (S : sT) (Q : Int32 → sT → Prop) : Prop :=
  wp_X5_placeBehind x2 S (fun r_1 S_1 => ((¬ r_1 = x1 → Q (0 : Int32) S_1) ∧ (r_1 = x1 → wp_X5_standsOn 15 S_1 (fun r_2 S_2 => ((r_2 = 0 → Q (0 : Int32) S_2) ∧ (¬ r_2 = 0 → Q (1 : Int32) S_2))))))
set_option maxHeartbeats 4000000 in
set_option maxRecDepth 100000 in
theorem bk_X5_standsThen {p : Program} {l : Launch} {e : Env} {s : State} {m : MethodId} {args : Array Value} {below : List Frame} {meth : Method} {c : Code} {Z : State → Prop} {D : va_G} {cA : Nat → ClassId} {h : Nat → Nat} {Q : Int32 → sT → Prop} (C0 : cx p s m args c cX5_standsThen 3 RX5 D cA false keysRA h) (hret : rtZ p l e rm_X5_standsThen s m args below meth c cX5_standsThen Z D (wR h cA) (aK keysRA h s.heap.size) Q) {x1 : Int32} {x2 : Int32} {S : sT} {H : Heap} {locs : List Loc} {ls : Array Slot} (hP : va_P D vwCl (wR h cA S) H) (hS : va_S (aK keysRA h s.heap.size) s.heap H locs) (hd : wp_X5_standsThen x1 x2 S Q) (hl : lv_has ls 3 [(0, .ref (h 100)), (1, .int x1), (2, .int x2)]) : W p l e rm_X5_standsThen s m args below meth c H locs 0 0 Z (F0 m 0 ls []) := by
  obtain ⟨⟨hx, hb, hml, hown, hts⟩, hK, -, -⟩ := id C0
  unfold wp_X5_standsThen at hd
  refine lv_aload_n hx hb dX5_standsThen_0 rfl (lv_at hl 0 rfl) ?_
  refine lv_iload_n hx hb dX5_standsThen_1 rfl (lv_at hl 2 rfl) ?_
  refine cl_Vi (n := 1) (rest := []) C0 hP hS (c_X5_placeBehind l C0.2.2.1 _ hd) (lwG_V lm_X5_225 li_X5_placeBehind lx_X5_placeBehind lz_RX5 lc_X5_placeBehind) (by decide +kernel) (oR_at h cA _) rfl rfl rfl (Nat.le_of_ble_eq_true rfl) ⟨rfl, rfl⟩ ⟨by decide, by decide⟩ dX5_standsThen_2 hl.1 ⟨Nat.zero_le _, Nat.zero_le _⟩ (fun r_1 S_1 H locs hd hP hS => ?_)
  refine lv_iload_n hx hb dX5_standsThen_5 rfl (lv_at hl 1 rfl) ?_
  refine lv_icmp_ne (tgt := 24) hx hb dX5_standsThen_6 (by decide) (fun hc => ?_) (fun hc => ?_)
  · have hd := hd.1 hc
    refine lv_iconst (v := 0) hx hb dX5_standsThen_24 (by decide) ?_
    exact hret _ _ _ _ _ _ rfl hd hP hS dX5_standsThen_25
  · have hd := hd.2 hc
    refine lv_aload_n hx hb dX5_standsThen_9 rfl (lv_at hl 0 rfl) ?_
    refine lv_aload_n hx hb dX5_standsThen_10 rfl (lv_at hl 0 rfl) ?_
    refine gf_X5_38 C0 hP dX5_standsThen_11 ?_
    refine cl_Vi (n := 1) (rest := []) C0 hP hS (c_X5_standsOn l C0.2.2.1 (by decide) _ hd) (lwG_V lm_X5_172 li_X5_standsOn lx_X5_standsOn lz_RX5 lc_X5_standsOn) (by decide +kernel) (oR_at h cA _) rfl rfl rfl (Nat.le_of_ble_eq_true rfl) ⟨rfl, rfl⟩ ⟨by decide, by decide⟩ dX5_standsThen_14 hl.1 ⟨Nat.zero_le _, Nat.zero_le _⟩ (fun r_2 S_2 H locs hd hP hS => ?_)
    refine lv_if_eq (tgt := 24) hx hb dX5_standsThen_17 (by decide) (fun hc => ?_) (fun hc => ?_)
    · have hd := hd.1 hc
      refine lv_iconst (v := 0) hx hb dX5_standsThen_24 (by decide) ?_
      exact hret _ _ _ _ _ _ rfl hd hP hS dX5_standsThen_25
    · have hd := hd.2 hc
      refine lv_iconst (v := 1) hx hb dX5_standsThen_20 (by decide) ?_
      refine lv_goto (tgt := 25) hx hb dX5_standsThen_21 (by decide) ?_
      exact hret _ _ _ _ _ _ rfl hd hP hS dX5_standsThen_25
theorem c_X5_standsThen (l : Launch) {D : va_G} {cA : Nat → ClassId} {h : Nat → Nat} (hk : ky keysRA h) {x1 : Int32} {x2 : Int32} {S : sT} (sz : Nat) {Q : Int32 → sT → Prop} (hd : wp_X5_standsThen x1 x2 S Q) : Met l yX5_standsThen (wsU yX5_standsThen cX5_standsThen 3 (some .boolean)) rm_X5_standsThen (va_Pc [.ref (h 100), .int x1, .int x2] (gP D cA false keysRA h (wR h cA) S sz)) (va_Qi Q (wB D (wR h cA)) (aK keysRA h sz)) 0 0 (aK keysRA h sz) :=
  mk_z (by decide) hk (Nat.le_of_ble_eq_true rfl) (fun p e s m below meth c Z ls C0 hret hP hS hl => bk_X5_standsThen C0 hret hP hS hd hl)
abbrev rm_X5_isFeast : Room := { frames := 6, cells := 0, slots := 0, locals := 137 }
def wb_X5_isFeast_49 (Q : Int32 → sT → Prop) (x1 : Int32) (x2 : Int32) (S : sT) : Prop :=
  wp_X5_standsThen x1 x2 S (fun r_1 S_1 => bo r_1 ∧ Q r_1 S_1)
set_option maxHeartbeats 4000000 in
set_option maxRecDepth 100000 in
theorem bk_X5_isFeast_49 {p : Program} {l : Launch} {e : Env} {s : State} {m : MethodId} {args : Array Value} {below : List Frame} {meth : Method} {c : Code} {Z : State → Prop} {D : va_G} {cA : Nat → ClassId} {h : Nat → Nat} {Q : Int32 → sT → Prop} (C0 : cx p s m args c cX5_isFeast 5 RX5 D cA false keysRA h) (hret : rtZ p l e rm_X5_isFeast s m args below meth c cX5_isFeast Z D (wR h cA) (aK keysRA h s.heap.size) Q) {x1 : Int32} {x2 : Int32} {S : sT} {H : Heap} {locs : List Loc} {ls : Array Slot} (hP : va_P D vwCl (wR h cA S) H) (hS : va_S (aK keysRA h s.heap.size) s.heap H locs) (hd : wb_X5_isFeast_49 Q x1 x2 S) (hl : lv_has ls 5 [(0, .ref (h 100)), (1, .int x1), (2, .int x2)]) : W p l e rm_X5_isFeast s m args below meth c H locs 0 0 Z (F0 m 49 ls []) := by
  obtain ⟨⟨hx, hb, hml, hown, hts⟩, hK, -, -⟩ := id C0
  unfold wb_X5_isFeast_49 at hd
  refine lv_aload_n hx hb dX5_isFeast_49 rfl (lv_at hl 0 rfl) ?_
  refine lv_iload_n hx hb dX5_isFeast_50 rfl (lv_at hl 1 rfl) ?_
  refine lv_iload_n hx hb dX5_isFeast_51 rfl (lv_at hl 2 rfl) ?_
  refine cl_Vi (n := 2) (rest := []) C0 hP hS (c_X5_standsThen l C0.2.2.1 _ hd) (lwG_V lm_X5_228 li_X5_standsThen lx_X5_standsThen lz_RX5 lc_X5_standsThen) (by decide +kernel) (oR_at h cA _) rfl rfl rfl (Nat.le_of_ble_eq_true rfl) ⟨rfl, rfl⟩ ⟨by decide, by decide⟩ dX5_isFeast_52 hl.1 ⟨Nat.zero_le _, Nat.zero_le _⟩ (fun r_1 S_1 H locs hd hP hS => ?_)
  exact hret _ _ _ _ _ _ hd.1 hd.2 hP hS dX5_isFeast_55
def wb_X5_isFeast_25 (Q : Int32 → sT → Prop) (x1 : Int32) (x2 : Int32) (x4 : Int32) (S : sT) : Prop :=
  ((x4 = (-9 : Int32) → wb_X5_isFeast_49 Q x1 x2 S) ∧ (¬ x4 = (-9 : Int32) → (vp_in ((3 : Int32) + (x4 / (10 : Int32))) 9) ∧ wb_X5_isFeast_49 Q x1 x2 (uA S 15 (upd (vA S 15) ((3 : Int32) + (x4 / (10 : Int32))).toNatClampNeg (x4 - x4 / (10 : Int32) * (10 : Int32))))))
set_option maxHeartbeats 4000000 in
set_option maxRecDepth 100000 in
theorem bk_X5_isFeast_25 {p : Program} {l : Launch} {e : Env} {s : State} {m : MethodId} {args : Array Value} {below : List Frame} {meth : Method} {c : Code} {Z : State → Prop} {D : va_G} {cA : Nat → ClassId} {h : Nat → Nat} {Q : Int32 → sT → Prop} (C0 : cx p s m args c cX5_isFeast 5 RX5 D cA false keysRA h) (hret : rtZ p l e rm_X5_isFeast s m args below meth c cX5_isFeast Z D (wR h cA) (aK keysRA h s.heap.size) Q) {x1 : Int32} {x2 : Int32} {x4 : Int32} {S : sT} {H : Heap} {locs : List Loc} {ls : Array Slot} (hP : va_P D vwCl (wR h cA S) H) (hS : va_S (aK keysRA h s.heap.size) s.heap H locs) (hd : wb_X5_isFeast_25 Q x1 x2 x4 S) (hl : lv_has ls 5 [(0, .ref (h 100)), (1, .int x1), (2, .int x2), (4, .int x4)]) : W p l e rm_X5_isFeast s m args below meth c H locs 0 0 Z (F0 m 25 ls []) := by
  obtain ⟨⟨hx, hb, hml, hown, hts⟩, hK, -, -⟩ := id C0
  unfold wb_X5_isFeast_25 at hd
  refine lv_iload hx hb dX5_isFeast_25 (lv_at hl 3 rfl) ?_
  refine lv_bipush (v := (-9)) hx hb dX5_isFeast_27 (by decide) ?_
  refine lv_icmp_eq (tgt := 49) hx hb dX5_isFeast_29 (by decide) (fun hc => ?_) (fun hc => ?_)
  · have hd := hd.1 hc
    exact bk_X5_isFeast_49 C0 hret hP hS hd (lv_sub hl [0, 1, 2] rfl)
  · have hd := hd.2 hc
    refine lv_aload_n hx hb dX5_isFeast_32 rfl (lv_at hl 0 rfl) ?_
    refine gf_X5_38 C0 hP dX5_isFeast_33 ?_
    refine lv_iconst (v := 3) hx hb dX5_isFeast_36 (by decide) ?_
    refine lv_iload hx hb dX5_isFeast_37 (lv_at hl 3 rfl) ?_
    refine lv_bipush (v := 10) hx hb dX5_isFeast_39 (by decide) ?_
    refine lv_idiv hx hb dX5_isFeast_41 (by decide) ?_
    refine lv_iadd hx hb dX5_isFeast_42 ?_
    refine lv_iload hx hb dX5_isFeast_43 (lv_at hl 3 rfl) ?_
    refine lv_bipush (v := 10) hx hb dX5_isFeast_45 (by decide) ?_
    refine lv_irem hx hb dX5_isFeast_47 (by decide) ?_
    obtain ⟨h_1, hd⟩ := hd
    refine stR (by decide) C0 hP hS h_1 dX5_isFeast_48 (fun H locs hP hS => ?_)
    exact bk_X5_isFeast_49 C0 hret hP hS hd (lv_sub hl [0, 1, 2] rfl)
def wp_X5_isFeast (x1 : Int32) (x2 : Int32) (x3 : Int32) (x4 : Int32) (S : sT) (Q : Int32 → sT → Prop) : Prop :=
  wp_X5_layAside S (fun S_1 => ((x3 = (-9 : Int32) → wb_X5_isFeast_25 Q x1 x2 x4 S_1) ∧ (¬ x3 = (-9 : Int32) → (vp_in ((3 : Int32) + (x3 / (10 : Int32))) 9) ∧ wb_X5_isFeast_25 Q x1 x2 x4 (uA S_1 15 (upd (vA S_1 15) ((3 : Int32) + (x3 / (10 : Int32))).toNatClampNeg (x3 - x3 / (10 : Int32) * (10 : Int32)))))))
set_option maxHeartbeats 4000000 in
set_option maxRecDepth 100000 in
theorem bk_X5_isFeast {p : Program} {l : Launch} {e : Env} {s : State} {m : MethodId} {args : Array Value} {below : List Frame} {meth : Method} {c : Code} {Z : State → Prop} {D : va_G} {cA : Nat → ClassId} {h : Nat → Nat} {Q : Int32 → sT → Prop} (C0 : cx p s m args c cX5_isFeast 5 RX5 D cA false keysRA h) (hret : rtZ p l e rm_X5_isFeast s m args below meth c cX5_isFeast Z D (wR h cA) (aK keysRA h s.heap.size) Q) {x1 : Int32} {x2 : Int32} {x3 : Int32} {x4 : Int32} {S : sT} {H : Heap} {locs : List Loc} {ls : Array Slot} (hP : va_P D vwCl (wR h cA S) H) (hS : va_S (aK keysRA h s.heap.size) s.heap H locs) (hd : wp_X5_isFeast x1 x2 x3 x4 S Q) (hl : lv_has ls 5 [(0, .ref (h 100)), (1, .int x1), (2, .int x2), (3, .int x3), (4, .int x4)]) : W p l e rm_X5_isFeast s m args below meth c H locs 0 0 Z (F0 m 0 ls []) := by
  obtain ⟨⟨hx, hb, hml, hown, hts⟩, hK, -, -⟩ := id C0
  unfold wp_X5_isFeast at hd
  refine lv_aload_n hx hb dX5_isFeast_0 rfl (lv_at hl 0 rfl) ?_
  refine cl_Vv (n := 0) (rest := []) C0 hP hS (c_X5_layAside l C0.2.2.1 _ hd) (lwG_V lm_X5_213 li_X5_layAside lx_X5_layAside lz_RX5 lc_X5_layAside) (by decide +kernel) (oR_at h cA _) rfl rfl rfl (Nat.le_of_ble_eq_true rfl) ⟨rfl, rfl⟩ ⟨by decide, by decide⟩ dX5_isFeast_1 hl.1 ⟨Nat.zero_le _, Nat.zero_le _⟩ (fun S_1 H locs hd hP hS => ?_)
  refine lv_iload_n hx hb dX5_isFeast_4 rfl (lv_at hl 3 rfl) ?_
  refine lv_bipush (v := (-9)) hx hb dX5_isFeast_5 (by decide) ?_
  refine lv_icmp_eq (tgt := 25) hx hb dX5_isFeast_7 (by decide) (fun hc => ?_) (fun hc => ?_)
  · have hd := hd.1 hc
    exact bk_X5_isFeast_25 C0 hret hP hS hd (lv_sub hl [0, 1, 2, 4] rfl)
  · have hd := hd.2 hc
    refine lv_aload_n hx hb dX5_isFeast_10 rfl (lv_at hl 0 rfl) ?_
    refine gf_X5_38 C0 hP dX5_isFeast_11 ?_
    refine lv_iconst (v := 3) hx hb dX5_isFeast_14 (by decide) ?_
    refine lv_iload_n hx hb dX5_isFeast_15 rfl (lv_at hl 3 rfl) ?_
    refine lv_bipush (v := 10) hx hb dX5_isFeast_16 (by decide) ?_
    refine lv_idiv hx hb dX5_isFeast_18 (by decide) ?_
    refine lv_iadd hx hb dX5_isFeast_19 ?_
    refine lv_iload_n hx hb dX5_isFeast_20 rfl (lv_at hl 3 rfl) ?_
    refine lv_bipush (v := 10) hx hb dX5_isFeast_21 (by decide) ?_
    refine lv_irem hx hb dX5_isFeast_23 (by decide) ?_
    obtain ⟨h_2, hd⟩ := hd
    refine stR (by decide) C0 hP hS h_2 dX5_isFeast_24 (fun H locs hP hS => ?_)
    exact bk_X5_isFeast_25 C0 hret hP hS hd (lv_sub hl [0, 1, 2, 4] rfl)
theorem c_X5_isFeast (l : Launch) {D : va_G} {cA : Nat → ClassId} {h : Nat → Nat} (hk : ky keysRA h) {x1 : Int32} {x2 : Int32} {x3 : Int32} {x4 : Int32} {S : sT} (sz : Nat) {Q : Int32 → sT → Prop} (hd : wp_X5_isFeast x1 x2 x3 x4 S Q) : Met l yX5_isFeast (wsU yX5_isFeast cX5_isFeast 5 (some .boolean)) rm_X5_isFeast (va_Pc [.ref (h 100), .int x1, .int x2, .int x3, .int x4] (gP D cA false keysRA h (wR h cA) S sz)) (va_Qi Q (wB D (wR h cA)) (aK keysRA h sz)) 0 0 (aK keysRA h sz) :=
  mk_z (by decide) hk (Nat.le_of_ble_eq_true rfl) (fun p e s m below meth c Z ls C0 hret hP hS hl => bk_X5_isFeast C0 hret hP hS hd hl)
abbrev rm_X5_isOther : Room := { frames := 1, cells := 0, slots := 0, locals := 21 }
def wp_X5_isOther (x1 : Int32) (S : sT) (Q : Int32 → sT → Prop) : Prop :=
  (vp_in (2 : Int32) 9) ∧ wp_X5_has (vA S 14 (2 : Int32).toNatClampNeg) (x1 / (10 : Int32)) S (fun r_2 S_2 => ((r_2 = 0 → Q (0 : Int32) S_2) ∧ (¬ r_2 = 0 → (vp_in ((3 : Int32) + (x1 / (10 : Int32))) 9) ∧ (((vA S_2 14 ((3 : Int32) + (x1 / (10 : Int32))).toNatClampNeg) = (x1 - x1 / (10 : Int32) * (10 : Int32)) → Q (0 : Int32) S_2) ∧ (¬ (vA S_2 14 ((3 : Int32) + (x1 / (10 : Int32))).toNatClampNeg) = (x1 - x1 / (10 : Int32) * (10 : Int32)) → Q (1 : Int32) S_2)))))
set_option maxHeartbeats 4000000 in
set_option maxRecDepth 100000 in
theorem bk_X5_isOther {p : Program} {l : Launch} {e : Env} {s : State} {m : MethodId} {args : Array Value} {below : List Frame} {meth : Method} {c : Code} {Z : State → Prop} {D : va_G} {cA : Nat → ClassId} {h : Nat → Nat} {Q : Int32 → sT → Prop} (C0 : cx p s m args c cX5_isOther 2 RX5 D cA false keysRA h) (hret : rtZ p l e rm_X5_isOther s m args below meth c cX5_isOther Z D (wR h cA) (aK keysRA h s.heap.size) Q) {x1 : Int32} {S : sT} {H : Heap} {locs : List Loc} {ls : Array Slot} (hP : va_P D vwCl (wR h cA S) H) (hS : va_S (aK keysRA h s.heap.size) s.heap H locs) (hd : wp_X5_isOther x1 S Q) (hl : lv_has ls 2 [(0, .ref (h 100)), (1, .int x1)]) : W p l e rm_X5_isOther s m args below meth c H locs 0 0 Z (F0 m 0 ls []) := by
  obtain ⟨⟨hx, hb, hml, hown, hts⟩, hK, -, -⟩ := id C0
  unfold wp_X5_isOther at hd
  refine lv_aload_n hx hb dX5_isOther_0 rfl (lv_at hl 0 rfl) ?_
  refine gf_X5_35 C0 hP dX5_isOther_1 ?_
  refine lv_iconst (v := 2) hx hb dX5_isOther_4 (by decide) ?_
  obtain ⟨h_1, hd⟩ := hd
  refine ldR (by decide) C0 hP h_1 dX5_isOther_5 ?_
  refine lv_iload_n hx hb dX5_isOther_6 rfl (lv_at hl 1 rfl) ?_
  refine lv_bipush (v := 10) hx hb dX5_isOther_7 (by decide) ?_
  refine lv_idiv hx hb dX5_isOther_9 (by decide) ?_
  refine cl_Si (n := 2) (rest := []) C0 hP hS (c_X5_has l C0.2.2.1 _ hd) (lwG_S lm_X5_165 ls_X5_has lz_RX5 lc_X5_has) (by decide +kernel) rfl rfl (Nat.le_of_ble_eq_true rfl) ⟨rfl, rfl⟩ ⟨by decide, by decide⟩ dX5_isOther_10 hl.1 ⟨Nat.zero_le _, Nat.zero_le _⟩ (fun r_2 S_2 H locs hd hP hS => ?_)
  refine lv_if_eq (tgt := 38) hx hb dX5_isOther_13 (by decide) (fun hc => ?_) (fun hc => ?_)
  · have hd := hd.1 hc
    refine lv_iconst (v := 0) hx hb dX5_isOther_38 (by decide) ?_
    exact hret _ _ _ _ _ _ rfl hd hP hS dX5_isOther_39
  · have hd := hd.2 hc
    refine lv_aload_n hx hb dX5_isOther_16 rfl (lv_at hl 0 rfl) ?_
    refine gf_X5_35 C0 hP dX5_isOther_17 ?_
    refine lv_iconst (v := 3) hx hb dX5_isOther_20 (by decide) ?_
    refine lv_iload_n hx hb dX5_isOther_21 rfl (lv_at hl 1 rfl) ?_
    refine lv_bipush (v := 10) hx hb dX5_isOther_22 (by decide) ?_
    refine lv_idiv hx hb dX5_isOther_24 (by decide) ?_
    refine lv_iadd hx hb dX5_isOther_25 ?_
    obtain ⟨h_3, hd⟩ := hd
    refine ldR (by decide) C0 hP h_3 dX5_isOther_26 ?_
    refine lv_iload_n hx hb dX5_isOther_27 rfl (lv_at hl 1 rfl) ?_
    refine lv_bipush (v := 10) hx hb dX5_isOther_28 (by decide) ?_
    refine lv_irem hx hb dX5_isOther_30 (by decide) ?_
    refine lv_icmp_eq (tgt := 38) hx hb dX5_isOther_31 (by decide) (fun hc => ?_) (fun hc => ?_)
    · have hd := hd.1 hc
      refine lv_iconst (v := 0) hx hb dX5_isOther_38 (by decide) ?_
      exact hret _ _ _ _ _ _ rfl hd hP hS dX5_isOther_39
    · have hd := hd.2 hc
      refine lv_iconst (v := 1) hx hb dX5_isOther_34 (by decide) ?_
      refine lv_goto (tgt := 39) hx hb dX5_isOther_35 (by decide) ?_
      exact hret _ _ _ _ _ _ rfl hd hP hS dX5_isOther_39
theorem c_X5_isOther (l : Launch) {D : va_G} {cA : Nat → ClassId} {h : Nat → Nat} (hk : ky keysRA h) {x1 : Int32} {S : sT} (sz : Nat) {Q : Int32 → sT → Prop} (hd : wp_X5_isOther x1 S Q) : Met l yX5_isOther (wsU yX5_isOther cX5_isOther 2 (some .boolean)) rm_X5_isOther (va_Pc [.ref (h 100), .int x1] (gP D cA false keysRA h (wR h cA) S sz)) (va_Qi Q (wB D (wR h cA)) (aK keysRA h sz)) 0 0 (aK keysRA h sz) :=
  mk_z (by decide) hk (Nat.le_of_ble_eq_true rfl) (fun p e s m below meth c Z ls C0 hret hP hS hl => bk_X5_isOther C0 hret hP hS hd hl)
abbrev rm_X5_feast : Room := { frames := 7, cells := 0, slots := 0, locals := 161 }
def wb_X5_feast_96 (Q : Int32 → sT → Prop) (K58 : Int32 → Int32 → Int32 → sT → Prop) (x1 : Int32) (x2 : Int32) (x3 : Int32) (S : sT) : Prop :=
  K58 x1 x2 (x3 + (1 : Int32)) S
set_option maxHeartbeats 4000000 in
set_option maxRecDepth 100000 in
theorem bk_X5_feast_96 {p : Program} {l : Launch} {e : Env} {s : State} {m : MethodId} {args : Array Value} {below : List Frame} {meth : Method} {c : Code} {Z : State → Prop} {D : va_G} {cA : Nat → ClassId} {h : Nat → Nat} {Q : Int32 → sT → Prop} (C0 : cx p s m args c cX5_feast 5 RX5 D cA false keysRA h) (hret : rtI p l e rm_X5_feast s m args below meth c cX5_feast Z D (wR h cA) (aK keysRA h s.heap.size) Q) {K58 : Int32 → Int32 → Int32 → sT → Prop} (k58 : ∀ (x1 : Int32) (x2 : Int32) (x3 : Int32) (S : sT) (H : Heap) (locs : List Loc) (ls : Array Slot), K58 x1 x2 x3 S → va_P D vwCl (wR h cA S) H → va_S (aK keysRA h s.heap.size) s.heap H locs → lv_has ls 5 [(0, .ref (h 100)), (1, .int x1), (2, .int x2), (3, .int x3)] → W p l e rm_X5_feast s m args below meth c H locs 0 0 Z (F0 m 58 ls [])) {x1 : Int32} {x2 : Int32} {x3 : Int32} {S : sT} {H : Heap} {locs : List Loc} {ls : Array Slot} (hP : va_P D vwCl (wR h cA S) H) (hS : va_S (aK keysRA h s.heap.size) s.heap H locs) (hd : wb_X5_feast_96 Q K58 x1 x2 x3 S) (hl : lv_has ls 5 [(0, .ref (h 100)), (1, .int x1), (2, .int x2), (3, .int x3)]) : W p l e rm_X5_feast s m args below meth c H locs 0 0 Z (F0 m 96 ls []) := by
  obtain ⟨⟨hx, hb, hml, hown, hts⟩, hK, -, -⟩ := id C0
  unfold wb_X5_feast_96 at hd
  refine lv_iinc (v := x3 + (1 : Int32)) (lv' := [(3, .int (x3 + (1 : Int32))), (0, .ref (h 100)), (1, .int x1), (2, .int x2)]) hx hb dX5_feast_96 hl (k := 3) rfl rfl (by decide) rfl (fun ls hl => ?_)
  refine lv_goto (tgt := 58) hx hb dX5_feast_99 (by decide) ?_
  exact k58 _ _ _ _ _ _ _ hd hP hS (lv_sub hl [1, 2, 3, 0] rfl)
def wb_X5_feast_181 (Q : Int32 → sT → Prop) (K104 : Int32 → Int32 → Int32 → sT → Prop) (K126 : Int32 → Int32 → Int32 → Int32 → sT → Prop) (x1 : Int32) (x2 : Int32) (x3 : Int32) (x4 : Int32) (S : sT) : Prop :=
  K126 x1 x2 x3 (x4 + (1 : Int32)) S
set_option maxHeartbeats 4000000 in
set_option maxRecDepth 100000 in
theorem bk_X5_feast_181 {p : Program} {l : Launch} {e : Env} {s : State} {m : MethodId} {args : Array Value} {below : List Frame} {meth : Method} {c : Code} {Z : State → Prop} {D : va_G} {cA : Nat → ClassId} {h : Nat → Nat} {Q : Int32 → sT → Prop} (C0 : cx p s m args c cX5_feast 5 RX5 D cA false keysRA h) (hret : rtI p l e rm_X5_feast s m args below meth c cX5_feast Z D (wR h cA) (aK keysRA h s.heap.size) Q) {K104 : Int32 → Int32 → Int32 → sT → Prop} {K126 : Int32 → Int32 → Int32 → Int32 → sT → Prop} (k104 : ∀ (x1 : Int32) (x2 : Int32) (x3 : Int32) (S : sT) (H : Heap) (locs : List Loc) (ls : Array Slot), K104 x1 x2 x3 S → va_P D vwCl (wR h cA S) H → va_S (aK keysRA h s.heap.size) s.heap H locs → lv_has ls 5 [(0, .ref (h 100)), (1, .int x1), (2, .int x2), (3, .int x3)] → W p l e rm_X5_feast s m args below meth c H locs 0 0 Z (F0 m 104 ls [])) (k126 : ∀ (x1 : Int32) (x2 : Int32) (x3 : Int32) (x4 : Int32) (S : sT) (H : Heap) (locs : List Loc) (ls : Array Slot), K126 x1 x2 x3 x4 S → va_P D vwCl (wR h cA S) H → va_S (aK keysRA h s.heap.size) s.heap H locs → lv_has ls 5 [(0, .ref (h 100)), (1, .int x1), (2, .int x2), (3, .int x3), (4, .int x4)] → W p l e rm_X5_feast s m args below meth c H locs 0 0 Z (F0 m 126 ls [])) {x1 : Int32} {x2 : Int32} {x3 : Int32} {x4 : Int32} {S : sT} {H : Heap} {locs : List Loc} {ls : Array Slot} (hP : va_P D vwCl (wR h cA S) H) (hS : va_S (aK keysRA h s.heap.size) s.heap H locs) (hd : wb_X5_feast_181 Q K104 K126 x1 x2 x3 x4 S) (hl : lv_has ls 5 [(0, .ref (h 100)), (1, .int x1), (2, .int x2), (3, .int x3), (4, .int x4)]) : W p l e rm_X5_feast s m args below meth c H locs 0 0 Z (F0 m 181 ls []) := by
  obtain ⟨⟨hx, hb, hml, hown, hts⟩, hK, -, -⟩ := id C0
  unfold wb_X5_feast_181 at hd
  refine lv_iinc (v := x4 + (1 : Int32)) (lv' := [(4, .int (x4 + (1 : Int32))), (0, .ref (h 100)), (1, .int x1), (2, .int x2), (3, .int x3)]) hx hb dX5_feast_181 hl (k := 4) rfl rfl (by decide) rfl (fun ls hl => ?_)
  refine lv_goto (tgt := 126) hx hb dX5_feast_184 (by decide) ?_
  exact k126 _ _ _ _ _ _ _ _ hd hP hS (lv_sub hl [1, 2, 3, 4, 0] rfl)
def wb_X5_feast_126 (Q : Int32 → sT → Prop) (K104 : Int32 → Int32 → Int32 → sT → Prop) (K126 : Int32 → Int32 → Int32 → Int32 → sT → Prop) (x1 : Int32) (x2 : Int32) (x3 : Int32) (x4 : Int32) (S : sT) : Prop :=
  ((((10 : Int32) * (vI S 9)) ≤ x4 → K104 x1 x2 (x3 + (1 : Int32)) S) ∧ (¬ ((10 : Int32) * (vI S 9)) ≤ x4 → wp_X5_isOther x3 S (fun r_1 S_1 => ((r_1 = 0 → wb_X5_feast_181 Q K104 K126 x1 x2 x3 x4 S_1) ∧ (¬ r_1 = 0 → wp_X5_isOther x4 S_1 (fun r_2 S_2 => ((r_2 = 0 → wb_X5_feast_181 Q K104 K126 x1 x2 x3 x4 S_2) ∧ (¬ r_2 = 0 → wp_X5_isFeast x1 x2 x3 x4 S_2 (fun r_3 S_3 => ((r_3 = 0 → wb_X5_feast_181 Q K104 K126 x1 x2 x3 x4 S_3) ∧ (¬ r_3 = 0 → wp_X5_answer (2 : Int32) (((1000 : Int32) * x3) + x4) S_3 (fun r_4 S_4 => Q r_4 S_4))))))))))))
set_option maxHeartbeats 4000000 in
set_option maxRecDepth 100000 in
theorem bk_X5_feast_126 {p : Program} {l : Launch} {e : Env} {s : State} {m : MethodId} {args : Array Value} {below : List Frame} {meth : Method} {c : Code} {Z : State → Prop} {D : va_G} {cA : Nat → ClassId} {h : Nat → Nat} {Q : Int32 → sT → Prop} (C0 : cx p s m args c cX5_feast 5 RX5 D cA false keysRA h) (hret : rtI p l e rm_X5_feast s m args below meth c cX5_feast Z D (wR h cA) (aK keysRA h s.heap.size) Q) {K104 : Int32 → Int32 → Int32 → sT → Prop} {K126 : Int32 → Int32 → Int32 → Int32 → sT → Prop} (k104 : ∀ (x1 : Int32) (x2 : Int32) (x3 : Int32) (S : sT) (H : Heap) (locs : List Loc) (ls : Array Slot), K104 x1 x2 x3 S → va_P D vwCl (wR h cA S) H → va_S (aK keysRA h s.heap.size) s.heap H locs → lv_has ls 5 [(0, .ref (h 100)), (1, .int x1), (2, .int x2), (3, .int x3)] → W p l e rm_X5_feast s m args below meth c H locs 0 0 Z (F0 m 104 ls [])) (k126 : ∀ (x1 : Int32) (x2 : Int32) (x3 : Int32) (x4 : Int32) (S : sT) (H : Heap) (locs : List Loc) (ls : Array Slot), K126 x1 x2 x3 x4 S → va_P D vwCl (wR h cA S) H → va_S (aK keysRA h s.heap.size) s.heap H locs → lv_has ls 5 [(0, .ref (h 100)), (1, .int x1), (2, .int x2), (3, .int x3), (4, .int x4)] → W p l e rm_X5_feast s m args below meth c H locs 0 0 Z (F0 m 126 ls [])) {x1 : Int32} {x2 : Int32} {x3 : Int32} {x4 : Int32} {S : sT} {H : Heap} {locs : List Loc} {ls : Array Slot} (hP : va_P D vwCl (wR h cA S) H) (hS : va_S (aK keysRA h s.heap.size) s.heap H locs) (hd : wb_X5_feast_126 Q K104 K126 x1 x2 x3 x4 S) (hl : lv_has ls 5 [(0, .ref (h 100)), (1, .int x1), (2, .int x2), (3, .int x3), (4, .int x4)]) : W p l e rm_X5_feast s m args below meth c H locs 0 0 Z (F0 m 126 ls []) := by
  obtain ⟨⟨hx, hb, hml, hown, hts⟩, hK, -, -⟩ := id C0
  unfold wb_X5_feast_126 at hd
  refine lv_iload hx hb dX5_feast_126 (lv_at hl 4 rfl) ?_
  refine lv_bipush (v := 10) hx hb dX5_feast_128 (by decide) ?_
  refine lv_aload_n hx hb dX5_feast_130 rfl (lv_at hl 0 rfl) ?_
  refine gf_X5_97 C0 hP dX5_feast_131 ?_
  refine lv_imul hx hb dX5_feast_134 ?_
  refine lv_icmp_ge (tgt := 187) hx hb dX5_feast_135 (by decide) (fun hc => ?_) (fun hc => ?_)
  · have hd := hd.1 hc
    refine lv_iinc (v := x3 + (1 : Int32)) (lv' := [(3, .int (x3 + (1 : Int32))), (0, .ref (h 100)), (1, .int x1), (2, .int x2), (4, .int x4)]) hx hb dX5_feast_187 hl (k := 3) rfl rfl (by decide) rfl (fun ls hl => ?_)
    refine lv_goto (tgt := 104) hx hb dX5_feast_190 (by decide) ?_
    exact k104 _ _ _ _ _ _ _ hd hP hS (lv_sub hl [1, 2, 3, 0] rfl)
  · have hd := hd.2 hc
    refine lv_aload_n hx hb dX5_feast_138 rfl (lv_at hl 0 rfl) ?_
    refine lv_iload_n hx hb dX5_feast_139 rfl (lv_at hl 3 rfl) ?_
    refine cl_Vi (n := 1) (rest := []) C0 hP hS (c_X5_isOther l C0.2.2.1 _ hd) (lwG_V lm_X5_239 li_X5_isOther lx_X5_isOther lz_RX5 lc_X5_isOther) (by decide +kernel) (oR_at h cA _) rfl rfl rfl (Nat.le_of_ble_eq_true rfl) ⟨rfl, rfl⟩ ⟨by decide, by decide⟩ dX5_feast_140 hl.1 ⟨Nat.zero_le _, Nat.zero_le _⟩ (fun r_1 S_1 H locs hd hP hS => ?_)
    refine lv_if_eq (tgt := 181) hx hb dX5_feast_143 (by decide) (fun hc => ?_) (fun hc => ?_)
    · have hd := hd.1 hc
      exact bk_X5_feast_181 C0 hret k104 k126 hP hS hd (lv_sub hl [0, 1, 2, 3, 4] rfl)
    · have hd := hd.2 hc
      refine lv_aload_n hx hb dX5_feast_146 rfl (lv_at hl 0 rfl) ?_
      refine lv_iload hx hb dX5_feast_147 (lv_at hl 4 rfl) ?_
      refine cl_Vi (n := 1) (rest := []) C0 hP hS (c_X5_isOther l C0.2.2.1 _ hd) (lwG_V lm_X5_239 li_X5_isOther lx_X5_isOther lz_RX5 lc_X5_isOther) (by decide +kernel) (oR_at h cA _) rfl rfl rfl (Nat.le_of_ble_eq_true rfl) ⟨rfl, rfl⟩ ⟨by decide, by decide⟩ dX5_feast_149 hl.1 ⟨Nat.zero_le _, Nat.zero_le _⟩ (fun r_2 S_2 H locs hd hP hS => ?_)
      refine lv_if_eq (tgt := 181) hx hb dX5_feast_152 (by decide) (fun hc => ?_) (fun hc => ?_)
      · have hd := hd.1 hc
        exact bk_X5_feast_181 C0 hret k104 k126 hP hS hd (lv_sub hl [0, 1, 2, 3, 4] rfl)
      · have hd := hd.2 hc
        refine lv_aload_n hx hb dX5_feast_155 rfl (lv_at hl 0 rfl) ?_
        refine lv_iload_n hx hb dX5_feast_156 rfl (lv_at hl 1 rfl) ?_
        refine lv_iload_n hx hb dX5_feast_157 rfl (lv_at hl 2 rfl) ?_
        refine lv_iload_n hx hb dX5_feast_158 rfl (lv_at hl 3 rfl) ?_
        refine lv_iload hx hb dX5_feast_159 (lv_at hl 4 rfl) ?_
        refine cl_Vi (n := 4) (rest := []) C0 hP hS (c_X5_isFeast l C0.2.2.1 _ hd) (lwG_V lm_X5_235 li_X5_isFeast lx_X5_isFeast lz_RX5 lc_X5_isFeast) (by decide +kernel) (oR_at h cA _) rfl rfl rfl (Nat.le_of_ble_eq_true rfl) ⟨rfl, rfl⟩ ⟨by decide, by decide⟩ dX5_feast_161 hl.1 ⟨Nat.zero_le _, Nat.zero_le _⟩ (fun r_3 S_3 H locs hd hP hS => ?_)
        refine lv_if_eq (tgt := 181) hx hb dX5_feast_164 (by decide) (fun hc => ?_) (fun hc => ?_)
        · have hd := hd.1 hc
          exact bk_X5_feast_181 C0 hret k104 k126 hP hS hd (lv_sub hl [0, 1, 2, 3, 4] rfl)
        · have hd := hd.2 hc
          refine lv_aload_n hx hb dX5_feast_167 rfl (lv_at hl 0 rfl) ?_
          refine lv_iconst (v := 2) hx hb dX5_feast_168 (by decide) ?_
          refine lv_sipush (v := 1000) hx hb dX5_feast_169 (by decide) ?_
          refine lv_iload_n hx hb dX5_feast_172 rfl (lv_at hl 3 rfl) ?_
          refine lv_imul hx hb dX5_feast_173 ?_
          refine lv_iload hx hb dX5_feast_174 (lv_at hl 4 rfl) ?_
          refine lv_iadd hx hb dX5_feast_176 ?_
          refine cl_Vi (n := 2) (rest := []) C0 hP hS (c_X5_answer l C0.2.2.1 _ hd) (lwG_V lm_X5_216 li_X5_answer lx_X5_answer lz_RX5 lc_X5_answer) (by decide +kernel) (oR_at h cA _) rfl rfl rfl (Nat.le_of_ble_eq_true rfl) ⟨rfl, rfl⟩ ⟨by decide, by decide⟩ dX5_feast_177 hl.1 ⟨Nat.zero_le _, Nat.zero_le _⟩ (fun r_4 S_4 H locs hd hP hS => ?_)
          exact hret _ _ _ _ _ _ hd hP hS dX5_feast_180
def wl_X5_feast_126 (Q : Int32 → sT → Prop) (K104 : Int32 → Int32 → Int32 → sT → Prop) : Nat → Int32 → Int32 → Int32 → Int32 → sT → Prop
  | 0, _, _, _, _ => fun _ => False
  | n + 1, x1, x2, x3, x4 => fun S => wb_X5_feast_126 Q K104 (fun x1 x2 x3 x4 S => wl_X5_feast_126 Q K104 n x1 x2 x3 x4 S) x1 x2 x3 x4 S
theorem bl_X5_feast_126 {p : Program} {l : Launch} {e : Env} {s : State} {m : MethodId} {args : Array Value} {below : List Frame} {meth : Method} {c : Code} {Z : State → Prop} {D : va_G} {cA : Nat → ClassId} {h : Nat → Nat} {Q : Int32 → sT → Prop} (C0 : cx p s m args c cX5_feast 5 RX5 D cA false keysRA h) (hret : rtI p l e rm_X5_feast s m args below meth c cX5_feast Z D (wR h cA) (aK keysRA h s.heap.size) Q) {K104 : Int32 → Int32 → Int32 → sT → Prop} (k104 : ∀ (x1 : Int32) (x2 : Int32) (x3 : Int32) (S : sT) (H : Heap) (locs : List Loc) (ls : Array Slot), K104 x1 x2 x3 S → va_P D vwCl (wR h cA S) H → va_S (aK keysRA h s.heap.size) s.heap H locs → lv_has ls 5 [(0, .ref (h 100)), (1, .int x1), (2, .int x2), (3, .int x3)] → W p l e rm_X5_feast s m args below meth c H locs 0 0 Z (F0 m 104 ls [])) : ∀ (n : Nat) (x1 : Int32) (x2 : Int32) (x3 : Int32) (x4 : Int32) (S : sT) (H : Heap) (locs : List Loc) (ls : Array Slot), va_P D vwCl (wR h cA S) H → va_S (aK keysRA h s.heap.size) s.heap H locs → wl_X5_feast_126 Q K104 n x1 x2 x3 x4 S → lv_has ls 5 [(0, .ref (h 100)), (1, .int x1), (2, .int x2), (3, .int x3), (4, .int x4)] → W p l e rm_X5_feast s m args below meth c H locs 0 0 Z (F0 m 126 ls []) := by
  intro n
  induction n with
  | zero => intro x1 x2 x3 x4 S H locs ls hP hS hd hl; exact (show False from hd).elim
  | succ n ih => intro x1 x2 x3 x4 S H locs ls hP hS hd hl; exact bk_X5_feast_126 C0 hret k104 (fun x1 x2 x3 x4 S H locs ls hd hP hS hl => ih x1 x2 x3 x4 S H locs ls hP hS hd hl) hP hS hd hl
def wb_X5_feast_104 (Q : Int32 → sT → Prop) (K104 : Int32 → Int32 → Int32 → sT → Prop) (x1 : Int32) (x2 : Int32) (x3 : Int32) (S : sT) : Prop :=
  ((((10 : Int32) * (vI S 9)) ≤ x3 → Q (-9 : Int32) S) ∧ (¬ ((10 : Int32) * (vI S 9)) ≤ x3 → ∃ n : Nat, wl_X5_feast_126 Q K104 n x1 x2 x3 ((10 : Int32) * ((x3 / (10 : Int32)) + (1 : Int32))) S))
set_option maxHeartbeats 4000000 in
set_option maxRecDepth 100000 in
theorem bk_X5_feast_104 {p : Program} {l : Launch} {e : Env} {s : State} {m : MethodId} {args : Array Value} {below : List Frame} {meth : Method} {c : Code} {Z : State → Prop} {D : va_G} {cA : Nat → ClassId} {h : Nat → Nat} {Q : Int32 → sT → Prop} (C0 : cx p s m args c cX5_feast 5 RX5 D cA false keysRA h) (hret : rtI p l e rm_X5_feast s m args below meth c cX5_feast Z D (wR h cA) (aK keysRA h s.heap.size) Q) {K104 : Int32 → Int32 → Int32 → sT → Prop} (k104 : ∀ (x1 : Int32) (x2 : Int32) (x3 : Int32) (S : sT) (H : Heap) (locs : List Loc) (ls : Array Slot), K104 x1 x2 x3 S → va_P D vwCl (wR h cA S) H → va_S (aK keysRA h s.heap.size) s.heap H locs → lv_has ls 5 [(0, .ref (h 100)), (1, .int x1), (2, .int x2), (3, .int x3)] → W p l e rm_X5_feast s m args below meth c H locs 0 0 Z (F0 m 104 ls [])) {x1 : Int32} {x2 : Int32} {x3 : Int32} {S : sT} {H : Heap} {locs : List Loc} {ls : Array Slot} (hP : va_P D vwCl (wR h cA S) H) (hS : va_S (aK keysRA h s.heap.size) s.heap H locs) (hd : wb_X5_feast_104 Q K104 x1 x2 x3 S) (hl : lv_has ls 5 [(0, .ref (h 100)), (1, .int x1), (2, .int x2), (3, .int x3)]) : W p l e rm_X5_feast s m args below meth c H locs 0 0 Z (F0 m 104 ls []) := by
  obtain ⟨⟨hx, hb, hml, hown, hts⟩, hK, -, -⟩ := id C0
  unfold wb_X5_feast_104 at hd
  refine lv_iload_n hx hb dX5_feast_104 rfl (lv_at hl 3 rfl) ?_
  refine lv_bipush (v := 10) hx hb dX5_feast_105 (by decide) ?_
  refine lv_aload_n hx hb dX5_feast_107 rfl (lv_at hl 0 rfl) ?_
  refine gf_X5_97 C0 hP dX5_feast_108 ?_
  refine lv_imul hx hb dX5_feast_111 ?_
  refine lv_icmp_ge (tgt := 193) hx hb dX5_feast_112 (by decide) (fun hc => ?_) (fun hc => ?_)
  · have hd := hd.1 hc
    refine lv_bipush (v := (-9)) hx hb dX5_feast_193 (by decide) ?_
    exact hret _ _ _ _ _ _ hd hP hS dX5_feast_195
  · have hd := hd.2 hc
    refine lv_bipush (v := 10) hx hb dX5_feast_115 (by decide) ?_
    refine lv_iload_n hx hb dX5_feast_117 rfl (lv_at hl 3 rfl) ?_
    refine lv_bipush (v := 10) hx hb dX5_feast_118 (by decide) ?_
    refine lv_idiv hx hb dX5_feast_120 (by decide) ?_
    refine lv_iconst (v := 1) hx hb dX5_feast_121 (by decide) ?_
    refine lv_iadd hx hb dX5_feast_122 ?_
    refine lv_imul hx hb dX5_feast_123 ?_
    refine lv_istore (lv' := [(4, .int ((10 : Int32) * ((x3 / (10 : Int32)) + (1 : Int32)))), (0, .ref (h 100)), (1, .int x1), (2, .int x2), (3, .int x3)]) hx hb dX5_feast_124 hl (by decide) rfl (fun ls hl => ?_)
    obtain ⟨n_1, hd⟩ := hd
    exact bl_X5_feast_126 C0 hret k104 _ _ _ _ _ _ _ _ _ hP hS hd (lv_sub hl [1, 2, 3, 4, 0] rfl)
def wl_X5_feast_104 (Q : Int32 → sT → Prop) : Nat → Int32 → Int32 → Int32 → sT → Prop
  | 0, _, _, _ => fun _ => False
  | n + 1, x1, x2, x3 => fun S => wb_X5_feast_104 Q (fun x1 x2 x3 S => wl_X5_feast_104 Q n x1 x2 x3 S) x1 x2 x3 S
theorem bl_X5_feast_104 {p : Program} {l : Launch} {e : Env} {s : State} {m : MethodId} {args : Array Value} {below : List Frame} {meth : Method} {c : Code} {Z : State → Prop} {D : va_G} {cA : Nat → ClassId} {h : Nat → Nat} {Q : Int32 → sT → Prop} (C0 : cx p s m args c cX5_feast 5 RX5 D cA false keysRA h) (hret : rtI p l e rm_X5_feast s m args below meth c cX5_feast Z D (wR h cA) (aK keysRA h s.heap.size) Q) : ∀ (n : Nat) (x1 : Int32) (x2 : Int32) (x3 : Int32) (S : sT) (H : Heap) (locs : List Loc) (ls : Array Slot), va_P D vwCl (wR h cA S) H → va_S (aK keysRA h s.heap.size) s.heap H locs → wl_X5_feast_104 Q n x1 x2 x3 S → lv_has ls 5 [(0, .ref (h 100)), (1, .int x1), (2, .int x2), (3, .int x3)] → W p l e rm_X5_feast s m args below meth c H locs 0 0 Z (F0 m 104 ls []) := by
  intro n
  induction n with
  | zero => intro x1 x2 x3 S H locs ls hP hS hd hl; exact (show False from hd).elim
  | succ n ih => intro x1 x2 x3 S H locs ls hP hS hd hl; exact bk_X5_feast_104 C0 hret (fun x1 x2 x3 S H locs ls hd hP hS hl => ih x1 x2 x3 S H locs ls hP hS hd hl) hP hS hd hl
def wb_X5_feast_58 (Q : Int32 → sT → Prop) (K58 : Int32 → Int32 → Int32 → sT → Prop) (x1 : Int32) (x2 : Int32) (x3 : Int32) (S : sT) : Prop :=
  ((((10 : Int32) * (vI S 9)) ≤ x3 → ∃ n : Nat, wl_X5_feast_104 Q n x1 x2 (0 : Int32) S) ∧ (¬ ((10 : Int32) * (vI S 9)) ≤ x3 → wp_X5_isOther x3 S (fun r_2 S_2 => ((r_2 = 0 → wb_X5_feast_96 Q K58 x1 x2 x3 S_2) ∧ (¬ r_2 = 0 → wp_X5_isFeast x1 x2 x3 (-9 : Int32) S_2 (fun r_3 S_3 => ((r_3 = 0 → wb_X5_feast_96 Q K58 x1 x2 x3 S_3) ∧ (¬ r_3 = 0 → wp_X5_answer (1 : Int32) x3 S_3 (fun r_4 S_4 => Q r_4 S_4)))))))))
set_option maxHeartbeats 4000000 in
set_option maxRecDepth 100000 in
theorem bk_X5_feast_58 {p : Program} {l : Launch} {e : Env} {s : State} {m : MethodId} {args : Array Value} {below : List Frame} {meth : Method} {c : Code} {Z : State → Prop} {D : va_G} {cA : Nat → ClassId} {h : Nat → Nat} {Q : Int32 → sT → Prop} (C0 : cx p s m args c cX5_feast 5 RX5 D cA false keysRA h) (hret : rtI p l e rm_X5_feast s m args below meth c cX5_feast Z D (wR h cA) (aK keysRA h s.heap.size) Q) {K58 : Int32 → Int32 → Int32 → sT → Prop} (k58 : ∀ (x1 : Int32) (x2 : Int32) (x3 : Int32) (S : sT) (H : Heap) (locs : List Loc) (ls : Array Slot), K58 x1 x2 x3 S → va_P D vwCl (wR h cA S) H → va_S (aK keysRA h s.heap.size) s.heap H locs → lv_has ls 5 [(0, .ref (h 100)), (1, .int x1), (2, .int x2), (3, .int x3)] → W p l e rm_X5_feast s m args below meth c H locs 0 0 Z (F0 m 58 ls [])) {x1 : Int32} {x2 : Int32} {x3 : Int32} {S : sT} {H : Heap} {locs : List Loc} {ls : Array Slot} (hP : va_P D vwCl (wR h cA S) H) (hS : va_S (aK keysRA h s.heap.size) s.heap H locs) (hd : wb_X5_feast_58 Q K58 x1 x2 x3 S) (hl : lv_has ls 5 [(0, .ref (h 100)), (1, .int x1), (2, .int x2), (3, .int x3)]) : W p l e rm_X5_feast s m args below meth c H locs 0 0 Z (F0 m 58 ls []) := by
  obtain ⟨⟨hx, hb, hml, hown, hts⟩, hK, -, -⟩ := id C0
  unfold wb_X5_feast_58 at hd
  refine lv_iload_n hx hb dX5_feast_58 rfl (lv_at hl 3 rfl) ?_
  refine lv_bipush (v := 10) hx hb dX5_feast_59 (by decide) ?_
  refine lv_aload_n hx hb dX5_feast_61 rfl (lv_at hl 0 rfl) ?_
  refine gf_X5_97 C0 hP dX5_feast_62 ?_
  refine lv_imul hx hb dX5_feast_65 ?_
  refine lv_icmp_ge (tgt := 102) hx hb dX5_feast_66 (by decide) (fun hc => ?_) (fun hc => ?_)
  · have hd := hd.1 hc
    refine lv_iconst (v := 0) hx hb dX5_feast_102 (by decide) ?_
    refine lv_istore_n (lv' := [(3, .int (0 : Int32)), (0, .ref (h 100)), (1, .int x1), (2, .int x2)]) hx hb dX5_feast_103 rfl hl (by decide) rfl (fun ls hl => ?_)
    obtain ⟨n_1, hd⟩ := hd
    exact bl_X5_feast_104 C0 hret _ _ _ _ _ _ _ _ hP hS hd (lv_sub hl [1, 2, 3, 0] rfl)
  · have hd := hd.2 hc
    refine lv_aload_n hx hb dX5_feast_69 rfl (lv_at hl 0 rfl) ?_
    refine lv_iload_n hx hb dX5_feast_70 rfl (lv_at hl 3 rfl) ?_
    refine cl_Vi (n := 1) (rest := []) C0 hP hS (c_X5_isOther l C0.2.2.1 _ hd) (lwG_V lm_X5_239 li_X5_isOther lx_X5_isOther lz_RX5 lc_X5_isOther) (by decide +kernel) (oR_at h cA _) rfl rfl rfl (Nat.le_of_ble_eq_true rfl) ⟨rfl, rfl⟩ ⟨by decide, by decide⟩ dX5_feast_71 hl.1 ⟨Nat.zero_le _, Nat.zero_le _⟩ (fun r_2 S_2 H locs hd hP hS => ?_)
    refine lv_if_eq (tgt := 96) hx hb dX5_feast_74 (by decide) (fun hc => ?_) (fun hc => ?_)
    · have hd := hd.1 hc
      exact bk_X5_feast_96 C0 hret k58 hP hS hd (lv_sub hl [0, 1, 2, 3] rfl)
    · have hd := hd.2 hc
      refine lv_aload_n hx hb dX5_feast_77 rfl (lv_at hl 0 rfl) ?_
      refine lv_iload_n hx hb dX5_feast_78 rfl (lv_at hl 1 rfl) ?_
      refine lv_iload_n hx hb dX5_feast_79 rfl (lv_at hl 2 rfl) ?_
      refine lv_iload_n hx hb dX5_feast_80 rfl (lv_at hl 3 rfl) ?_
      refine lv_bipush (v := (-9)) hx hb dX5_feast_81 (by decide) ?_
      refine cl_Vi (n := 4) (rest := []) C0 hP hS (c_X5_isFeast l C0.2.2.1 _ hd) (lwG_V lm_X5_235 li_X5_isFeast lx_X5_isFeast lz_RX5 lc_X5_isFeast) (by decide +kernel) (oR_at h cA _) rfl rfl rfl (Nat.le_of_ble_eq_true rfl) ⟨rfl, rfl⟩ ⟨by decide, by decide⟩ dX5_feast_83 hl.1 ⟨Nat.zero_le _, Nat.zero_le _⟩ (fun r_3 S_3 H locs hd hP hS => ?_)
      refine lv_if_eq (tgt := 96) hx hb dX5_feast_86 (by decide) (fun hc => ?_) (fun hc => ?_)
      · have hd := hd.1 hc
        exact bk_X5_feast_96 C0 hret k58 hP hS hd (lv_sub hl [0, 1, 2, 3] rfl)
      · have hd := hd.2 hc
        refine lv_aload_n hx hb dX5_feast_89 rfl (lv_at hl 0 rfl) ?_
        refine lv_iconst (v := 1) hx hb dX5_feast_90 (by decide) ?_
        refine lv_iload_n hx hb dX5_feast_91 rfl (lv_at hl 3 rfl) ?_
        refine cl_Vi (n := 2) (rest := []) C0 hP hS (c_X5_answer l C0.2.2.1 _ hd) (lwG_V lm_X5_216 li_X5_answer lx_X5_answer lz_RX5 lc_X5_answer) (by decide +kernel) (oR_at h cA _) rfl rfl rfl (Nat.le_of_ble_eq_true rfl) ⟨rfl, rfl⟩ ⟨by decide, by decide⟩ dX5_feast_92 hl.1 ⟨Nat.zero_le _, Nat.zero_le _⟩ (fun r_4 S_4 H locs hd hP hS => ?_)
        exact hret _ _ _ _ _ _ hd hP hS dX5_feast_95
def wl_X5_feast_58 (Q : Int32 → sT → Prop) : Nat → Int32 → Int32 → Int32 → sT → Prop
  | 0, _, _, _ => fun _ => False
  | n + 1, x1, x2, x3 => fun S => wb_X5_feast_58 Q (fun x1 x2 x3 S => wl_X5_feast_58 Q n x1 x2 x3 S) x1 x2 x3 S
theorem bl_X5_feast_58 {p : Program} {l : Launch} {e : Env} {s : State} {m : MethodId} {args : Array Value} {below : List Frame} {meth : Method} {c : Code} {Z : State → Prop} {D : va_G} {cA : Nat → ClassId} {h : Nat → Nat} {Q : Int32 → sT → Prop} (C0 : cx p s m args c cX5_feast 5 RX5 D cA false keysRA h) (hret : rtI p l e rm_X5_feast s m args below meth c cX5_feast Z D (wR h cA) (aK keysRA h s.heap.size) Q) : ∀ (n : Nat) (x1 : Int32) (x2 : Int32) (x3 : Int32) (S : sT) (H : Heap) (locs : List Loc) (ls : Array Slot), va_P D vwCl (wR h cA S) H → va_S (aK keysRA h s.heap.size) s.heap H locs → wl_X5_feast_58 Q n x1 x2 x3 S → lv_has ls 5 [(0, .ref (h 100)), (1, .int x1), (2, .int x2), (3, .int x3)] → W p l e rm_X5_feast s m args below meth c H locs 0 0 Z (F0 m 58 ls []) := by
  intro n
  induction n with
  | zero => intro x1 x2 x3 S H locs ls hP hS hd hl; exact (show False from hd).elim
  | succ n ih => intro x1 x2 x3 S H locs ls hP hS hd hl; exact bk_X5_feast_58 C0 hret (fun x1 x2 x3 S H locs ls hd hP hS hl => ih x1 x2 x3 S H locs ls hP hS hd hl) hP hS hd hl
def wp_X5_feast (x1 : Int32) (x2 : Int32) (S : sT) (Q : Int32 → sT → Prop) : Prop :=
  wp_X5_in x1.toInt64 (0 : Int64) (20 : Int64) S (fun r_1 S_1 => ((r_1 = 0 → Q (-1 : Int32) S_1) ∧ (¬ r_1 = 0 → wp_X5_in x2.toInt64 (0 : Int64) (40 : Int64) S_1 (fun r_2 S_2 => ((¬ r_2 = 0 → ((¬ (vI S_2 9) = 0 → wp_X5_isFeast x1 x2 (-9 : Int32) (-9 : Int32) S_2 (fun r_3 S_3 => ((r_3 = 0 → ∃ n : Nat, wl_X5_feast_58 Q n x1 x2 (0 : Int32) S_3) ∧ (¬ r_3 = 0 → wp_X5_answer (0 : Int32) (0 : Int32) S_3 (fun r_5 S_5 => Q r_5 S_5))))) ∧ ((vI S_2 9) = 0 → Q (-4 : Int32) S_2))) ∧ (r_2 = 0 → Q (-1 : Int32) S_2))))))
set_option maxHeartbeats 4000000 in
set_option maxRecDepth 100000 in
theorem bk_X5_feast {p : Program} {l : Launch} {e : Env} {s : State} {m : MethodId} {args : Array Value} {below : List Frame} {meth : Method} {c : Code} {Z : State → Prop} {D : va_G} {cA : Nat → ClassId} {h : Nat → Nat} {Q : Int32 → sT → Prop} (C0 : cx p s m args c cX5_feast 5 RX5 D cA false keysRA h) (hret : rtI p l e rm_X5_feast s m args below meth c cX5_feast Z D (wR h cA) (aK keysRA h s.heap.size) Q) {x1 : Int32} {x2 : Int32} {S : sT} {H : Heap} {locs : List Loc} {ls : Array Slot} (hP : va_P D vwCl (wR h cA S) H) (hS : va_S (aK keysRA h s.heap.size) s.heap H locs) (hd : wp_X5_feast x1 x2 S Q) (hl : lv_has ls 5 [(0, .ref (h 100)), (1, .int x1), (2, .int x2)]) : W p l e rm_X5_feast s m args below meth c H locs 0 0 Z (F0 m 0 ls []) := by
  obtain ⟨⟨hx, hb, hml, hown, hts⟩, hK, -, -⟩ := id C0
  unfold wp_X5_feast at hd
  refine lv_iload_n hx hb dX5_feast_0 rfl (lv_at hl 1 rfl) ?_
  refine lv_i2l hx hb dX5_feast_1 rfl ?_
  refine lv_lconst (v := 0) hx hb dX5_feast_2 (by decide) ?_
  refine lv_ldc2 hx hb hown (hts _ lk_X5_231) dX5_feast_3 ?_
  refine cl_Si (n := 3) (rest := []) C0 hP hS (c_X5_in l C0.2.2.1 _ hd) (lwG_S lm_X5_77 ls_X5_in lz_RX5 lc_X5_in) (by decide +kernel) rfl rfl (Nat.le_of_ble_eq_true rfl) ⟨rfl, rfl⟩ ⟨by decide, by decide⟩ dX5_feast_6 hl.1 ⟨Nat.zero_le _, Nat.zero_le _⟩ (fun r_1 S_1 H locs hd hP hS => ?_)
  refine lv_if_eq (tgt := 24) hx hb dX5_feast_9 (by decide) (fun hc => ?_) (fun hc => ?_)
  · have hd := hd.1 hc
    refine lv_iconst (v := (-1)) hx hb dX5_feast_24 (by decide) ?_
    exact hret _ _ _ _ _ _ hd hP hS dX5_feast_25
  · have hd := hd.2 hc
    refine lv_iload_n hx hb dX5_feast_12 rfl (lv_at hl 2 rfl) ?_
    refine lv_i2l hx hb dX5_feast_13 rfl ?_
    refine lv_lconst (v := 0) hx hb dX5_feast_14 (by decide) ?_
    refine lv_ldc2 hx hb hown (hts _ lk_X5_233) dX5_feast_15 ?_
    refine cl_Si (n := 3) (rest := []) C0 hP hS (c_X5_in l C0.2.2.1 _ hd) (lwG_S lm_X5_77 ls_X5_in lz_RX5 lc_X5_in) (by decide +kernel) rfl rfl (Nat.le_of_ble_eq_true rfl) ⟨rfl, rfl⟩ ⟨by decide, by decide⟩ dX5_feast_18 hl.1 ⟨Nat.zero_le _, Nat.zero_le _⟩ (fun r_2 S_2 H locs hd hP hS => ?_)
    refine lv_if_ne (tgt := 26) hx hb dX5_feast_21 (by decide) (fun hc => ?_) (fun hc => ?_)
    · have hd := hd.1 hc
      refine lv_aload_n hx hb dX5_feast_26 rfl (lv_at hl 0 rfl) ?_
      refine gf_X5_97 C0 hP dX5_feast_27 ?_
      refine lv_if_ne (tgt := 36) hx hb dX5_feast_30 (by decide) (fun hc => ?_) (fun hc => ?_)
      · have hd := hd.1 hc
        refine lv_aload_n hx hb dX5_feast_36 rfl (lv_at hl 0 rfl) ?_
        refine lv_iload_n hx hb dX5_feast_37 rfl (lv_at hl 1 rfl) ?_
        refine lv_iload_n hx hb dX5_feast_38 rfl (lv_at hl 2 rfl) ?_
        refine lv_bipush (v := (-9)) hx hb dX5_feast_39 (by decide) ?_
        refine lv_bipush (v := (-9)) hx hb dX5_feast_41 (by decide) ?_
        refine cl_Vi (n := 4) (rest := []) C0 hP hS (c_X5_isFeast l C0.2.2.1 _ hd) (lwG_V lm_X5_235 li_X5_isFeast lx_X5_isFeast lz_RX5 lc_X5_isFeast) (by decide +kernel) (oR_at h cA _) rfl rfl rfl (Nat.le_of_ble_eq_true rfl) ⟨rfl, rfl⟩ ⟨by decide, by decide⟩ dX5_feast_43 hl.1 ⟨Nat.zero_le _, Nat.zero_le _⟩ (fun r_3 S_3 H locs hd hP hS => ?_)
        refine lv_if_eq (tgt := 56) hx hb dX5_feast_46 (by decide) (fun hc => ?_) (fun hc => ?_)
        · have hd := hd.1 hc
          refine lv_iconst (v := 0) hx hb dX5_feast_56 (by decide) ?_
          refine lv_istore_n (lv' := [(3, .int (0 : Int32)), (0, .ref (h 100)), (1, .int x1), (2, .int x2)]) hx hb dX5_feast_57 rfl hl (by decide) rfl (fun ls hl => ?_)
          obtain ⟨n_4, hd⟩ := hd
          exact bl_X5_feast_58 C0 hret _ _ _ _ _ _ _ _ hP hS hd (lv_sub hl [1, 2, 3, 0] rfl)
        · have hd := hd.2 hc
          refine lv_aload_n hx hb dX5_feast_49 rfl (lv_at hl 0 rfl) ?_
          refine lv_iconst (v := 0) hx hb dX5_feast_50 (by decide) ?_
          refine lv_iconst (v := 0) hx hb dX5_feast_51 (by decide) ?_
          refine cl_Vi (n := 2) (rest := []) C0 hP hS (c_X5_answer l C0.2.2.1 _ hd) (lwG_V lm_X5_216 li_X5_answer lx_X5_answer lz_RX5 lc_X5_answer) (by decide +kernel) (oR_at h cA _) rfl rfl rfl (Nat.le_of_ble_eq_true rfl) ⟨rfl, rfl⟩ ⟨by decide, by decide⟩ dX5_feast_52 hl.1 ⟨Nat.zero_le _, Nat.zero_le _⟩ (fun r_5 S_5 H locs hd hP hS => ?_)
          exact hret _ _ _ _ _ _ hd hP hS dX5_feast_55
      · have hd := hd.2 hc
        refine lv_bipush (v := (-4)) hx hb dX5_feast_33 (by decide) ?_
        exact hret _ _ _ _ _ _ hd hP hS dX5_feast_35
    · have hd := hd.2 hc
      refine lv_iconst (v := (-1)) hx hb dX5_feast_24 (by decide) ?_
      exact hret _ _ _ _ _ _ hd hP hS dX5_feast_25
theorem c_X5_feast (l : Launch) {D : va_G} {cA : Nat → ClassId} {h : Nat → Nat} (hk : ky keysRA h) {x1 : Int32} {x2 : Int32} {S : sT} (sz : Nat) {Q : Int32 → sT → Prop} (hd : wp_X5_feast x1 x2 S Q) : Met l yX5_feast (wsU yX5_feast cX5_feast 5 (some .int)) rm_X5_feast (va_Pc [.ref (h 100), .int x1, .int x2] (gP D cA false keysRA h (wR h cA) S sz)) (va_Qi Q (wB D (wR h cA)) (aK keysRA h sz)) 0 0 (aK keysRA h sz) :=
  mk_i (by decide) hk (Nat.le_of_ble_eq_true rfl) (fun p e s m below meth c Z ls C0 hret hP hS hl => bk_X5_feast C0 hret hP hS hd hl)
abbrev rm_X5_remember : Room := { frames := 1, cells := 0, slots := 0, locals := 25 }
def wp_X5_remember (S : sT) (Q : sT → Prop) : Prop :=
  wp_X5_copies 14 16 (0 : Int32) ((9 : Int32) * (vI S 17)) (9 : Int32) S (fun S_1 => Q (uI S_1 17 ((vI S_1 17) + (1 : Int32))))
set_option maxHeartbeats 4000000 in
set_option maxRecDepth 100000 in
theorem bk_X5_remember {p : Program} {l : Launch} {e : Env} {s : State} {m : MethodId} {args : Array Value} {below : List Frame} {meth : Method} {c : Code} {Z : State → Prop} {D : va_G} {cA : Nat → ClassId} {h : Nat → Nat} {Q : sT → Prop} (C0 : cx p s m args c cX5_remember 1 RX5 D cA false keysRA h) (hret : rtV p l e rm_X5_remember s m args below meth c cX5_remember Z D (wR h cA) (aK keysRA h s.heap.size) Q) {S : sT} {H : Heap} {locs : List Loc} {ls : Array Slot} (hP : va_P D vwCl (wR h cA S) H) (hS : va_S (aK keysRA h s.heap.size) s.heap H locs) (hd : wp_X5_remember S Q) (hl : lv_has ls 1 [(0, .ref (h 100))]) : W p l e rm_X5_remember s m args below meth c H locs 0 0 Z (F0 m 0 ls []) := by
  obtain ⟨⟨hx, hb, hml, hown, hts⟩, hK, -, -⟩ := id C0
  unfold wp_X5_remember at hd
  refine lv_aload_n hx hb dX5_remember_0 rfl (lv_at hl 0 rfl) ?_
  refine gf_X5_35 C0 hP dX5_remember_1 ?_
  refine lv_iconst (v := 0) hx hb dX5_remember_4 (by decide) ?_
  refine lv_aload_n hx hb dX5_remember_5 rfl (lv_at hl 0 rfl) ?_
  refine gf_X5_41 C0 hP dX5_remember_6 ?_
  refine lv_bipush (v := 9) hx hb dX5_remember_9 (by decide) ?_
  refine lv_aload_n hx hb dX5_remember_11 rfl (lv_at hl 0 rfl) ?_
  refine gf_X5_100 C0 hP dX5_remember_12 ?_
  refine lv_imul hx hb dX5_remember_15 ?_
  refine lv_bipush (v := 9) hx hb dX5_remember_16 (by decide) ?_
  refine cl_Sv (n := 5) (rest := []) C0 hP hS (c_X5_copies l C0.2.2.1 (by decide) (by decide) _ hd) (lwG_S lm_X5_197 ls_X5_copies lz_RX5 lc_X5_copies) (by decide +kernel) rfl rfl (Nat.le_of_ble_eq_true rfl) ⟨rfl, rfl⟩ ⟨by decide, by decide⟩ dX5_remember_18 hl.1 ⟨Nat.zero_le _, Nat.zero_le _⟩ (fun S_1 H locs hd hP hS => ?_)
  refine lv_aload_n hx hb dX5_remember_21 rfl (lv_at hl 0 rfl) ?_
  refine lv_dup hx hb dX5_remember_22 rfl ?_
  refine gf_X5_100 C0 hP dX5_remember_23 ?_
  refine lv_iconst (v := 1) hx hb dX5_remember_26 (by decide) ?_
  refine lv_iadd hx hb dX5_remember_27 ?_
  refine pf_X5_100 C0 hP hS dX5_remember_28 (fun H locs hP hS => ?_)
  exact hret _ _ _ _ _ hd hP hS dX5_remember_31
theorem c_X5_remember (l : Launch) {D : va_G} {cA : Nat → ClassId} {h : Nat → Nat} (hk : ky keysRA h) {S : sT} (sz : Nat) {Q : sT → Prop} (hd : wp_X5_remember S Q) : Met l yX5_remember (wsU yX5_remember cX5_remember 1 none) rm_X5_remember (va_Pc [.ref (h 100)] (gP D cA false keysRA h (wR h cA) S sz)) (va_Qv Q (wB D (wR h cA)) (aK keysRA h sz)) 0 0 (aK keysRA h sz) :=
  mk_v (by decide) hk (Nat.le_of_ble_eq_true rfl) (fun p e s m below meth c Z ls C0 hret hP hS hl => bk_X5_remember C0 hret hP hS hd hl)
abbrev rm_X5_feed : Room := { frames := 2, cells := 0, slots := 0, locals := 46 }
def wp_X5_feed (x1 : Int32) (x2 : Int32) (S : sT) (Q : Int32 → sT → Prop) : Prop :=
  wp_X5_isOne x1 S (fun r_1 S_1 => ((r_1 = 0 → Q (-1 : Int32) S_1) ∧ (¬ r_1 = 0 → wp_X5_in x2.toInt64 (0 : Int64) (9 : Int64) S_1 (fun r_2 S_2 => ((¬ r_2 = 0 → ((¬ (vI S_2 17) = (40 : Int32) → wp_X5_remember S_2 (fun S_3 => (vp_in ((3 : Int32) + x1) 9) ∧ (vp_in ((3 : Int32) + x1) 9) ∧ Q (vA S_3 14 ((3 : Int32) + x1).toNatClampNeg) (uA S_3 14 (upd (vA S_3 14) ((3 : Int32) + x1).toNatClampNeg x2)))) ∧ ((vI S_2 17) = (40 : Int32) → Q (-2 : Int32) S_2))) ∧ (r_2 = 0 → Q (-1 : Int32) S_2))))))
set_option maxHeartbeats 4000000 in
set_option maxRecDepth 100000 in
theorem bk_X5_feed {p : Program} {l : Launch} {e : Env} {s : State} {m : MethodId} {args : Array Value} {below : List Frame} {meth : Method} {c : Code} {Z : State → Prop} {D : va_G} {cA : Nat → ClassId} {h : Nat → Nat} {Q : Int32 → sT → Prop} (C0 : cx p s m args c cX5_feed 4 RX5 D cA false keysRA h) (hret : rtI p l e rm_X5_feed s m args below meth c cX5_feed Z D (wR h cA) (aK keysRA h s.heap.size) Q) {x1 : Int32} {x2 : Int32} {S : sT} {H : Heap} {locs : List Loc} {ls : Array Slot} (hP : va_P D vwCl (wR h cA S) H) (hS : va_S (aK keysRA h s.heap.size) s.heap H locs) (hd : wp_X5_feed x1 x2 S Q) (hl : lv_has ls 4 [(0, .ref (h 100)), (1, .int x1), (2, .int x2)]) : W p l e rm_X5_feed s m args below meth c H locs 0 0 Z (F0 m 0 ls []) := by
  obtain ⟨⟨hx, hb, hml, hown, hts⟩, hK, -, -⟩ := id C0
  unfold wp_X5_feed at hd
  refine lv_aload_n hx hb dX5_feed_0 rfl (lv_at hl 0 rfl) ?_
  refine lv_iload_n hx hb dX5_feed_1 rfl (lv_at hl 1 rfl) ?_
  refine cl_Vi (n := 1) (rest := []) C0 hP hS (c_X5_isOne l C0.2.2.1 _ hd) (lwG_V lm_X5_176 li_X5_isOne lx_X5_isOne lz_RX5 lc_X5_isOne) (by decide +kernel) (oR_at h cA _) rfl rfl rfl (Nat.le_of_ble_eq_true rfl) ⟨rfl, rfl⟩ ⟨by decide, by decide⟩ dX5_feed_2 hl.1 ⟨Nat.zero_le _, Nat.zero_le _⟩ (fun r_1 S_1 H locs hd hP hS => ?_)
  refine lv_if_eq (tgt := 20) hx hb dX5_feed_5 (by decide) (fun hc => ?_) (fun hc => ?_)
  · have hd := hd.1 hc
    refine lv_iconst (v := (-1)) hx hb dX5_feed_20 (by decide) ?_
    exact hret _ _ _ _ _ _ hd hP hS dX5_feed_21
  · have hd := hd.2 hc
    refine lv_iload_n hx hb dX5_feed_8 rfl (lv_at hl 2 rfl) ?_
    refine lv_i2l hx hb dX5_feed_9 rfl ?_
    refine lv_lconst (v := 0) hx hb dX5_feed_10 (by decide) ?_
    refine lv_ldc2 hx hb hown (hts _ lk_X5_207) dX5_feed_11 ?_
    refine cl_Si (n := 3) (rest := []) C0 hP hS (c_X5_in l C0.2.2.1 _ hd) (lwG_S lm_X5_77 ls_X5_in lz_RX5 lc_X5_in) (by decide +kernel) rfl rfl (Nat.le_of_ble_eq_true rfl) ⟨rfl, rfl⟩ ⟨by decide, by decide⟩ dX5_feed_14 hl.1 ⟨Nat.zero_le _, Nat.zero_le _⟩ (fun r_2 S_2 H locs hd hP hS => ?_)
    refine lv_if_ne (tgt := 22) hx hb dX5_feed_17 (by decide) (fun hc => ?_) (fun hc => ?_)
    · have hd := hd.1 hc
      refine lv_aload_n hx hb dX5_feed_22 rfl (lv_at hl 0 rfl) ?_
      refine gf_X5_100 C0 hP dX5_feed_23 ?_
      refine lv_bipush (v := 40) hx hb dX5_feed_26 (by decide) ?_
      refine lv_icmp_ne (tgt := 34) hx hb dX5_feed_28 (by decide) (fun hc => ?_) (fun hc => ?_)
      · have hd := hd.1 hc
        refine lv_aload_n hx hb dX5_feed_34 rfl (lv_at hl 0 rfl) ?_
        refine cl_Vv (n := 0) (rest := []) C0 hP hS (c_X5_remember l C0.2.2.1 _ hd) (lwG_V lm_X5_201 li_X5_remember lx_X5_remember lz_RX5 lc_X5_remember) (by decide +kernel) (oR_at h cA _) rfl rfl rfl (Nat.le_of_ble_eq_true rfl) ⟨rfl, rfl⟩ ⟨by decide, by decide⟩ dX5_feed_35 hl.1 ⟨Nat.zero_le _, Nat.zero_le _⟩ (fun S_3 H locs hd hP hS => ?_)
        refine lv_aload_n hx hb dX5_feed_38 rfl (lv_at hl 0 rfl) ?_
        refine gf_X5_35 C0 hP dX5_feed_39 ?_
        refine lv_iconst (v := 3) hx hb dX5_feed_42 (by decide) ?_
        refine lv_iload_n hx hb dX5_feed_43 rfl (lv_at hl 1 rfl) ?_
        refine lv_iadd hx hb dX5_feed_44 ?_
        obtain ⟨h_4, hd⟩ := hd
        refine ldR (by decide) C0 hP h_4 dX5_feed_45 ?_
        refine lv_istore_n (lv' := [(3, .int (vA S_3 14 ((3 : Int32) + x1).toNatClampNeg)), (0, .ref (h 100)), (1, .int x1), (2, .int x2)]) hx hb dX5_feed_46 rfl hl (by decide) rfl (fun ls hl => ?_)
        refine lv_aload_n hx hb dX5_feed_47 rfl (lv_at hl 1 rfl) ?_
        refine gf_X5_35 C0 hP dX5_feed_48 ?_
        refine lv_iconst (v := 3) hx hb dX5_feed_51 (by decide) ?_
        refine lv_iload_n hx hb dX5_feed_52 rfl (lv_at hl 2 rfl) ?_
        refine lv_iadd hx hb dX5_feed_53 ?_
        refine lv_iload_n hx hb dX5_feed_54 rfl (lv_at hl 3 rfl) ?_
        obtain ⟨h_5, hd⟩ := hd
        refine stR (by decide) C0 hP hS h_5 dX5_feed_55 (fun H locs hP hS => ?_)
        refine lv_iload_n hx hb dX5_feed_56 rfl (lv_at hl 0 rfl) ?_
        exact hret _ _ _ _ _ _ hd hP hS dX5_feed_57
      · have hd := hd.2 hc
        refine lv_bipush (v := (-2)) hx hb dX5_feed_31 (by decide) ?_
        exact hret _ _ _ _ _ _ hd hP hS dX5_feed_33
    · have hd := hd.2 hc
      refine lv_iconst (v := (-1)) hx hb dX5_feed_20 (by decide) ?_
      exact hret _ _ _ _ _ _ hd hP hS dX5_feed_21
theorem c_X5_feed (l : Launch) {D : va_G} {cA : Nat → ClassId} {h : Nat → Nat} (hk : ky keysRA h) {x1 : Int32} {x2 : Int32} {S : sT} (sz : Nat) {Q : Int32 → sT → Prop} (hd : wp_X5_feed x1 x2 S Q) : Met l yX5_feed (wsU yX5_feed cX5_feed 4 (some .int)) rm_X5_feed (va_Pc [.ref (h 100), .int x1, .int x2] (gP D cA false keysRA h (wR h cA) S sz)) (va_Qi Q (wB D (wR h cA)) (aK keysRA h sz)) 0 0 (aK keysRA h sz) :=
  mk_i (by decide) hk (Nat.le_of_ble_eq_true rfl) (fun p e s m below meth c Z ls C0 hret hP hS hl => bk_X5_feed C0 hret hP hS hd hl)
abbrev rm_X5_finding : Room := { frames := 0, cells := 0, slots := 0, locals := 0 }
def wp_X5_finding (S : sT) (Q : Int32 → sT → Prop) : Prop :=
  Q (vI S 7) S
set_option maxHeartbeats 4000000 in
set_option maxRecDepth 100000 in
theorem bk_X5_finding {p : Program} {l : Launch} {e : Env} {s : State} {m : MethodId} {args : Array Value} {below : List Frame} {meth : Method} {c : Code} {Z : State → Prop} {D : va_G} {cA : Nat → ClassId} {h : Nat → Nat} {Q : Int32 → sT → Prop} (C0 : cx p s m args c cX5_finding 1 RX5 D cA false keysRA h) (hret : rtI p l e rm_X5_finding s m args below meth c cX5_finding Z D (wR h cA) (aK keysRA h s.heap.size) Q) {S : sT} {H : Heap} {locs : List Loc} {ls : Array Slot} (hP : va_P D vwCl (wR h cA S) H) (hS : va_S (aK keysRA h s.heap.size) s.heap H locs) (hd : wp_X5_finding S Q) (hl : lv_has ls 1 [(0, .ref (h 100))]) : W p l e rm_X5_finding s m args below meth c H locs 0 0 Z (F0 m 0 ls []) := by
  obtain ⟨⟨hx, hb, hml, hown, hts⟩, hK, -, -⟩ := id C0
  unfold wp_X5_finding at hd
  refine lv_aload_n hx hb dX5_finding_0 rfl (lv_at hl 0 rfl) ?_
  refine gf_X5_68 C0 hP dX5_finding_1 ?_
  exact hret _ _ _ _ _ _ hd hP hS dX5_finding_4
theorem c_X5_finding (l : Launch) {D : va_G} {cA : Nat → ClassId} {h : Nat → Nat} (hk : ky keysRA h) {S : sT} (sz : Nat) {Q : Int32 → sT → Prop} (hd : wp_X5_finding S Q) : Met l yX5_finding (wsU yX5_finding cX5_finding 1 (some .int)) rm_X5_finding (va_Pc [.ref (h 100)] (gP D cA false keysRA h (wR h cA) S sz)) (va_Qi Q (wB D (wR h cA)) (aK keysRA h sz)) 0 0 (aK keysRA h sz) :=
  mk_i (by decide) hk (Nat.le_of_ble_eq_true rfl) (fun p e s m below meth c Z ls C0 hret hP hS hl => bk_X5_finding C0 hret hP hS hd hl)
abbrev rm_X5_findings : Room := { frames := 1, cells := 0, slots := 0, locals := 25 }
def wp_X5_findings (x1 : Int32) (S : sT) (Q : Int32 → sT → Prop) : Prop :=
  wp_X5_in x1.toInt64 (1 : Int64) (5 : Int64) S (fun r_1 S_1 => ((r_1 = 0 → Q (-1 : Int32) S_1) ∧ (¬ r_1 = 0 → (vp_in x1 6) ∧ Q (vA S_1 8 x1.toNatClampNeg) S_1)))
set_option maxHeartbeats 4000000 in
set_option maxRecDepth 100000 in
theorem bk_X5_findings {p : Program} {l : Launch} {e : Env} {s : State} {m : MethodId} {args : Array Value} {below : List Frame} {meth : Method} {c : Code} {Z : State → Prop} {D : va_G} {cA : Nat → ClassId} {h : Nat → Nat} {Q : Int32 → sT → Prop} (C0 : cx p s m args c cX5_findings 2 RX5 D cA false keysRA h) (hret : rtI p l e rm_X5_findings s m args below meth c cX5_findings Z D (wR h cA) (aK keysRA h s.heap.size) Q) {x1 : Int32} {S : sT} {H : Heap} {locs : List Loc} {ls : Array Slot} (hP : va_P D vwCl (wR h cA S) H) (hS : va_S (aK keysRA h s.heap.size) s.heap H locs) (hd : wp_X5_findings x1 S Q) (hl : lv_has ls 2 [(0, .ref (h 100)), (1, .int x1)]) : W p l e rm_X5_findings s m args below meth c H locs 0 0 Z (F0 m 0 ls []) := by
  obtain ⟨⟨hx, hb, hml, hown, hts⟩, hK, -, -⟩ := id C0
  unfold wp_X5_findings at hd
  refine lv_iload_n hx hb dX5_findings_0 rfl (lv_at hl 1 rfl) ?_
  refine lv_i2l hx hb dX5_findings_1 rfl ?_
  refine lv_lconst (v := 1) hx hb dX5_findings_2 (by decide) ?_
  refine lv_ldc2 hx hb hown (hts _ lk_X5_75) dX5_findings_3 ?_
  refine cl_Si (n := 3) (rest := []) C0 hP hS (c_X5_in l C0.2.2.1 _ hd) (lwG_S lm_X5_77 ls_X5_in lz_RX5 lc_X5_in) (by decide +kernel) rfl rfl (Nat.le_of_ble_eq_true rfl) ⟨rfl, rfl⟩ ⟨by decide, by decide⟩ dX5_findings_6 hl.1 ⟨Nat.zero_le _, Nat.zero_le _⟩ (fun r_1 S_1 H locs hd hP hS => ?_)
  refine lv_if_eq (tgt := 21) hx hb dX5_findings_9 (by decide) (fun hc => ?_) (fun hc => ?_)
  · have hd := hd.1 hc
    refine lv_iconst (v := (-1)) hx hb dX5_findings_21 (by decide) ?_
    exact hret _ _ _ _ _ _ hd hP hS dX5_findings_22
  · have hd := hd.2 hc
    refine lv_aload_n hx hb dX5_findings_12 rfl (lv_at hl 0 rfl) ?_
    refine gf_X5_26 C0 hP dX5_findings_13 ?_
    refine lv_iload_n hx hb dX5_findings_16 rfl (lv_at hl 1 rfl) ?_
    obtain ⟨h_2, hd⟩ := hd
    refine ldR (by decide) C0 hP h_2 dX5_findings_17 ?_
    refine lv_goto (tgt := 22) hx hb dX5_findings_18 (by decide) ?_
    exact hret _ _ _ _ _ _ hd hP hS dX5_findings_22
theorem c_X5_findings (l : Launch) {D : va_G} {cA : Nat → ClassId} {h : Nat → Nat} (hk : ky keysRA h) {x1 : Int32} {S : sT} (sz : Nat) {Q : Int32 → sT → Prop} (hd : wp_X5_findings x1 S Q) : Met l yX5_findings (wsU yX5_findings cX5_findings 2 (some .int)) rm_X5_findings (va_Pc [.ref (h 100), .int x1] (gP D cA false keysRA h (wR h cA) S sz)) (va_Qi Q (wB D (wR h cA)) (aK keysRA h sz)) 0 0 (aK keysRA h sz) :=
  mk_i (by decide) hk (Nat.le_of_ble_eq_true rfl) (fun p e s m below meth c Z ls C0 hret hP hS hl => bk_X5_findings C0 hret hP hS hd hl)
abbrev rm_X5_firstOf : Room := { frames := 1, cells := 0, slots := 0, locals := 24 }
def wb_X5_firstOf_27 (Q : Int32 → sT → Prop) (K3 : Int32 → Int32 → Int32 → Int32 → sT → Prop) (x1 : Int32) (x2 : Int32) (x3 : Int32) (x4 : Int32) (S : sT) : Prop :=
  K3 x1 x2 x3 (x4 + (1 : Int32)) S
set_option maxHeartbeats 4000000 in
set_option maxRecDepth 100000 in
theorem bk_X5_firstOf_27 {p : Program} {l : Launch} {e : Env} {s : State} {m : MethodId} {args : Array Value} {below : List Frame} {meth : Method} {c : Code} {Z : State → Prop} {D : va_G} {cA : Nat → ClassId} {h : Nat → Nat} {Q : Int32 → sT → Prop} (C0 : cx p s m args c cX5_firstOf 5 RX5 D cA false keysRA h) (hret : rtI p l e rm_X5_firstOf s m args below meth c cX5_firstOf Z D (wR h cA) (aK keysRA h s.heap.size) Q) {K3 : Int32 → Int32 → Int32 → Int32 → sT → Prop} (k3 : ∀ (x1 : Int32) (x2 : Int32) (x3 : Int32) (x4 : Int32) (S : sT) (H : Heap) (locs : List Loc) (ls : Array Slot), K3 x1 x2 x3 x4 S → va_P D vwCl (wR h cA S) H → va_S (aK keysRA h s.heap.size) s.heap H locs → lv_has ls 5 [(1, .int x1), (2, .int x2), (3, .int x3), (4, .int x4)] → W p l e rm_X5_firstOf s m args below meth c H locs 0 0 Z (F0 m 3 ls [])) {x1 : Int32} {x2 : Int32} {x3 : Int32} {x4 : Int32} {S : sT} {H : Heap} {locs : List Loc} {ls : Array Slot} (hP : va_P D vwCl (wR h cA S) H) (hS : va_S (aK keysRA h s.heap.size) s.heap H locs) (hd : wb_X5_firstOf_27 Q K3 x1 x2 x3 x4 S) (hl : lv_has ls 5 [(1, .int x1), (2, .int x2), (3, .int x3), (4, .int x4)]) : W p l e rm_X5_firstOf s m args below meth c H locs 0 0 Z (F0 m 27 ls []) := by
  obtain ⟨⟨hx, hb, hml, hown, hts⟩, hK, -, -⟩ := id C0
  unfold wb_X5_firstOf_27 at hd
  refine lv_iinc (v := x4 + (1 : Int32)) (lv' := [(4, .int (x4 + (1 : Int32))), (1, .int x1), (2, .int x2), (3, .int x3)]) hx hb dX5_firstOf_27 hl (k := 3) rfl rfl (by decide) rfl (fun ls hl => ?_)
  refine lv_goto (tgt := 3) hx hb dX5_firstOf_30 (by decide) ?_
  exact k3 _ _ _ _ _ _ _ _ hd hP hS (lv_sub hl [1, 2, 3, 0] rfl)
def wb_X5_firstOf_3 (Q : Int32 → sT → Prop) (K3 : Int32 → Int32 → Int32 → Int32 → sT → Prop) (x1 : Int32) (x2 : Int32) (x3 : Int32) (x4 : Int32) (S : sT) : Prop :=
  wp_X5_dreamsBy x1 x2 x4 S (fun r_1 S_1 => ((r_1 = 0 → wb_X5_firstOf_27 Q K3 x1 x2 x3 x4 S_1) ∧ (¬ r_1 = 0 → ((x3 = 0 → Q x4 S_1) ∧ (¬ x3 = 0 → wp_X5_dreamsBy (1 : Int32) x2 x4 S_1 (fun r_2 S_2 => ((r_2 = 0 → Q x4 S_2) ∧ (¬ r_2 = 0 → wb_X5_firstOf_27 Q K3 x1 x2 x3 x4 S_2))))))))
set_option maxHeartbeats 4000000 in
set_option maxRecDepth 100000 in
theorem bk_X5_firstOf_3 {p : Program} {l : Launch} {e : Env} {s : State} {m : MethodId} {args : Array Value} {below : List Frame} {meth : Method} {c : Code} {Z : State → Prop} {D : va_G} {cA : Nat → ClassId} {h : Nat → Nat} {Q : Int32 → sT → Prop} (C0 : cx p s m args c cX5_firstOf 5 RX5 D cA false keysRA h) (hret : rtI p l e rm_X5_firstOf s m args below meth c cX5_firstOf Z D (wR h cA) (aK keysRA h s.heap.size) Q) {K3 : Int32 → Int32 → Int32 → Int32 → sT → Prop} (k3 : ∀ (x1 : Int32) (x2 : Int32) (x3 : Int32) (x4 : Int32) (S : sT) (H : Heap) (locs : List Loc) (ls : Array Slot), K3 x1 x2 x3 x4 S → va_P D vwCl (wR h cA S) H → va_S (aK keysRA h s.heap.size) s.heap H locs → lv_has ls 5 [(1, .int x1), (2, .int x2), (3, .int x3), (4, .int x4)] → W p l e rm_X5_firstOf s m args below meth c H locs 0 0 Z (F0 m 3 ls [])) {x1 : Int32} {x2 : Int32} {x3 : Int32} {x4 : Int32} {S : sT} {H : Heap} {locs : List Loc} {ls : Array Slot} (hP : va_P D vwCl (wR h cA S) H) (hS : va_S (aK keysRA h s.heap.size) s.heap H locs) (hd : wb_X5_firstOf_3 Q K3 x1 x2 x3 x4 S) (hl : lv_has ls 5 [(1, .int x1), (2, .int x2), (3, .int x3), (4, .int x4)]) : W p l e rm_X5_firstOf s m args below meth c H locs 0 0 Z (F0 m 3 ls []) := by
  obtain ⟨⟨hx, hb, hml, hown, hts⟩, hK, -, -⟩ := id C0
  unfold wb_X5_firstOf_3 at hd
  refine lv_iload_n hx hb dX5_firstOf_3 rfl (lv_at hl 0 rfl) ?_
  refine lv_iload_n hx hb dX5_firstOf_4 rfl (lv_at hl 1 rfl) ?_
  refine lv_iload hx hb dX5_firstOf_5 (lv_at hl 3 rfl) ?_
  refine cl_Si (n := 3) (rest := []) C0 hP hS (c_X5_dreamsBy l C0.2.2.1 _ hd) (lwG_S lm_X5_161 ls_X5_dreamsBy lz_RX5 lc_X5_dreamsBy) (by decide +kernel) rfl rfl (Nat.le_of_ble_eq_true rfl) ⟨rfl, rfl⟩ ⟨by decide, by decide⟩ dX5_firstOf_7 hl.1 ⟨Nat.zero_le _, Nat.zero_le _⟩ (fun r_1 S_1 H locs hd hP hS => ?_)
  refine lv_if_eq (tgt := 27) hx hb dX5_firstOf_10 (by decide) (fun hc => ?_) (fun hc => ?_)
  · have hd := hd.1 hc
    exact bk_X5_firstOf_27 C0 hret k3 hP hS hd (lv_sub hl [0, 1, 2, 3] rfl)
  · have hd := hd.2 hc
    refine lv_iload_n hx hb dX5_firstOf_13 rfl (lv_at hl 2 rfl) ?_
    refine lv_if_eq (tgt := 33) hx hb dX5_firstOf_14 (by decide) (fun hc => ?_) (fun hc => ?_)
    · have hd := hd.1 hc
      refine lv_iload hx hb dX5_firstOf_33 (lv_at hl 3 rfl) ?_
      exact hret _ _ _ _ _ _ hd hP hS dX5_firstOf_35
    · have hd := hd.2 hc
      refine lv_iconst (v := 1) hx hb dX5_firstOf_17 (by decide) ?_
      refine lv_iload_n hx hb dX5_firstOf_18 rfl (lv_at hl 1 rfl) ?_
      refine lv_iload hx hb dX5_firstOf_19 (lv_at hl 3 rfl) ?_
      refine cl_Si (n := 3) (rest := []) C0 hP hS (c_X5_dreamsBy l C0.2.2.1 _ hd) (lwG_S lm_X5_161 ls_X5_dreamsBy lz_RX5 lc_X5_dreamsBy) (by decide +kernel) rfl rfl (Nat.le_of_ble_eq_true rfl) ⟨rfl, rfl⟩ ⟨by decide, by decide⟩ dX5_firstOf_21 hl.1 ⟨Nat.zero_le _, Nat.zero_le _⟩ (fun r_2 S_2 H locs hd hP hS => ?_)
      refine lv_if_eq (tgt := 33) hx hb dX5_firstOf_24 (by decide) (fun hc => ?_) (fun hc => ?_)
      · have hd := hd.1 hc
        refine lv_iload hx hb dX5_firstOf_33 (lv_at hl 3 rfl) ?_
        exact hret _ _ _ _ _ _ hd hP hS dX5_firstOf_35
      · have hd := hd.2 hc
        exact bk_X5_firstOf_27 C0 hret k3 hP hS hd (lv_sub hl [0, 1, 2, 3] rfl)
def wl_X5_firstOf_3 (Q : Int32 → sT → Prop) : Nat → Int32 → Int32 → Int32 → Int32 → sT → Prop
  | 0, _, _, _, _ => fun _ => False
  | n + 1, x1, x2, x3, x4 => fun S => wb_X5_firstOf_3 Q (fun x1 x2 x3 x4 S => wl_X5_firstOf_3 Q n x1 x2 x3 x4 S) x1 x2 x3 x4 S
theorem bl_X5_firstOf_3 {p : Program} {l : Launch} {e : Env} {s : State} {m : MethodId} {args : Array Value} {below : List Frame} {meth : Method} {c : Code} {Z : State → Prop} {D : va_G} {cA : Nat → ClassId} {h : Nat → Nat} {Q : Int32 → sT → Prop} (C0 : cx p s m args c cX5_firstOf 5 RX5 D cA false keysRA h) (hret : rtI p l e rm_X5_firstOf s m args below meth c cX5_firstOf Z D (wR h cA) (aK keysRA h s.heap.size) Q) : ∀ (n : Nat) (x1 : Int32) (x2 : Int32) (x3 : Int32) (x4 : Int32) (S : sT) (H : Heap) (locs : List Loc) (ls : Array Slot), va_P D vwCl (wR h cA S) H → va_S (aK keysRA h s.heap.size) s.heap H locs → wl_X5_firstOf_3 Q n x1 x2 x3 x4 S → lv_has ls 5 [(1, .int x1), (2, .int x2), (3, .int x3), (4, .int x4)] → W p l e rm_X5_firstOf s m args below meth c H locs 0 0 Z (F0 m 3 ls []) := by
  intro n
  induction n with
  | zero => intro x1 x2 x3 x4 S H locs ls hP hS hd hl; exact (show False from hd).elim
  | succ n ih => intro x1 x2 x3 x4 S H locs ls hP hS hd hl; exact bk_X5_firstOf_3 C0 hret (fun x1 x2 x3 x4 S H locs ls hd hP hS hl => ih x1 x2 x3 x4 S H locs ls hP hS hd hl) hP hS hd hl
def wp_X5_firstOf (x1 : Int32) (x2 : Int32) (x3 : Int32) (S : sT) (Q : Int32 → sT → Prop) : Prop :=
  ∃ n : Nat, wl_X5_firstOf_3 Q n x1 x2 x3 (0 : Int32) S
set_option maxHeartbeats 4000000 in
set_option maxRecDepth 100000 in
theorem bk_X5_firstOf {p : Program} {l : Launch} {e : Env} {s : State} {m : MethodId} {args : Array Value} {below : List Frame} {meth : Method} {c : Code} {Z : State → Prop} {D : va_G} {cA : Nat → ClassId} {h : Nat → Nat} {Q : Int32 → sT → Prop} (C0 : cx p s m args c cX5_firstOf 5 RX5 D cA false keysRA h) (hret : rtI p l e rm_X5_firstOf s m args below meth c cX5_firstOf Z D (wR h cA) (aK keysRA h s.heap.size) Q) {x1 : Int32} {x2 : Int32} {x3 : Int32} {S : sT} {H : Heap} {locs : List Loc} {ls : Array Slot} (hP : va_P D vwCl (wR h cA S) H) (hS : va_S (aK keysRA h s.heap.size) s.heap H locs) (hd : wp_X5_firstOf x1 x2 x3 S Q) (hl : lv_has ls 5 [(0, .ref (h 100)), (1, .int x1), (2, .int x2), (3, .int x3)]) : W p l e rm_X5_firstOf s m args below meth c H locs 0 0 Z (F0 m 0 ls []) := by
  obtain ⟨⟨hx, hb, hml, hown, hts⟩, hK, -, -⟩ := id C0
  unfold wp_X5_firstOf at hd
  refine lv_iconst (v := 0) hx hb dX5_firstOf_0 (by decide) ?_
  refine lv_istore (lv' := [(4, .int (0 : Int32)), (0, .ref (h 100)), (1, .int x1), (2, .int x2), (3, .int x3)]) hx hb dX5_firstOf_1 hl (by decide) rfl (fun ls hl => ?_)
  obtain ⟨n_1, hd⟩ := hd
  exact bl_X5_firstOf_3 C0 hret _ _ _ _ _ _ _ _ _ hP hS hd (lv_sub hl [2, 3, 4, 0] rfl)
theorem c_X5_firstOf (l : Launch) {D : va_G} {cA : Nat → ClassId} {h : Nat → Nat} (hk : ky keysRA h) {x1 : Int32} {x2 : Int32} {x3 : Int32} {S : sT} (sz : Nat) {Q : Int32 → sT → Prop} (hd : wp_X5_firstOf x1 x2 x3 S Q) : Met l yX5_firstOf (wsU yX5_firstOf cX5_firstOf 5 (some .int)) rm_X5_firstOf (va_Pc [.ref (h 100), .int x1, .int x2, .int x3] (gP D cA false keysRA h (wR h cA) S sz)) (va_Qi Q (wB D (wR h cA)) (aK keysRA h sz)) 0 0 (aK keysRA h sz) :=
  mk_i (by decide) hk (Nat.le_of_ble_eq_true rfl) (fun p e s m below meth c Z ls C0 hret hP hS hl => bk_X5_firstOf C0 hret hP hS hd hl)
abbrev rm_X5_fraction : Room := { frames := 0, cells := 0, slots := 0, locals := 0 }
def wb_X5_fraction_6 (Q : Int32 → sT → Prop) (K6 : Int64 → Int64 → Int64 → Int64 → sT → Prop) (x1 : Int64) (x3 : Int64) (x5 : Int64) (x7 : Int64) (S : sT) : Prop :=
  (((lg_cmp x7 (0 : Int64)) = 0 → (¬ x5 = 0) ∧ (¬ x5 = 0) ∧ Q (1 : Int32) (uL (uL S 5 (x1 / x5)) 6 (x3 / x5))) ∧ (¬ (lg_cmp x7 (0 : Int64)) = 0 → (¬ x7 = 0) ∧ K6 x1 x3 x7 (x5 - x5 / x7 * x7) S))
set_option maxHeartbeats 4000000 in
set_option maxRecDepth 100000 in
theorem bk_X5_fraction_6 {p : Program} {l : Launch} {e : Env} {s : State} {m : MethodId} {args : Array Value} {below : List Frame} {meth : Method} {c : Code} {Z : State → Prop} {D : va_G} {cA : Nat → ClassId} {h : Nat → Nat} {Q : Int32 → sT → Prop} (C0 : cx p s m args c cX5_fraction 11 RX5 D cA false keysRA h) (hret : rtI p l e rm_X5_fraction s m args below meth c cX5_fraction Z D (wR h cA) (aK keysRA h s.heap.size) Q) {K6 : Int64 → Int64 → Int64 → Int64 → sT → Prop} (k6 : ∀ (x1 : Int64) (x3 : Int64) (x5 : Int64) (x7 : Int64) (S : sT) (H : Heap) (locs : List Loc) (ls : Array Slot), K6 x1 x3 x5 x7 S → va_P D vwCl (wR h cA S) H → va_S (aK keysRA h s.heap.size) s.heap H locs → lv_has ls 11 [(0, .ref (h 100)), (1, .long x1), (3, .long x3), (5, .long x5), (7, .long x7)] → W p l e rm_X5_fraction s m args below meth c H locs 0 0 Z (F0 m 6 ls [])) {x1 : Int64} {x3 : Int64} {x5 : Int64} {x7 : Int64} {S : sT} {H : Heap} {locs : List Loc} {ls : Array Slot} (hP : va_P D vwCl (wR h cA S) H) (hS : va_S (aK keysRA h s.heap.size) s.heap H locs) (hd : wb_X5_fraction_6 Q K6 x1 x3 x5 x7 S) (hl : lv_has ls 11 [(0, .ref (h 100)), (1, .long x1), (3, .long x3), (5, .long x5), (7, .long x7)]) : W p l e rm_X5_fraction s m args below meth c H locs 0 0 Z (F0 m 6 ls []) := by
  obtain ⟨⟨hx, hb, hml, hown, hts⟩, hK, -, -⟩ := id C0
  unfold wb_X5_fraction_6 at hd
  refine lv_lload hx hb dX5_fraction_6 (lv_at hl 4 rfl) ?_
  refine lv_lconst (v := 0) hx hb dX5_fraction_8 (by decide) ?_
  refine W.lcmp hx hb dX5_fraction_9 ?_
  refine lv_if_eq (tgt := 31) hx hb dX5_fraction_10 (by decide) (fun hc => ?_) (fun hc => ?_)
  · have hd := hd.1 hc
    refine lv_aload_n hx hb dX5_fraction_31 rfl (lv_at hl 0 rfl) ?_
    refine lv_lload_n hx hb dX5_fraction_32 rfl (lv_at hl 1 rfl) ?_
    refine lv_lload hx hb dX5_fraction_33 (lv_at hl 3 rfl) ?_
    obtain ⟨h_1, hd⟩ := hd
    refine lv_ldiv hx hb dX5_fraction_35 h_1 ?_
    refine pf_X5_252 C0 hP hS dX5_fraction_36 (fun H locs hP hS => ?_)
    refine lv_aload_n hx hb dX5_fraction_39 rfl (lv_at hl 0 rfl) ?_
    refine lv_lload_n hx hb dX5_fraction_40 rfl (lv_at hl 2 rfl) ?_
    refine lv_lload hx hb dX5_fraction_41 (lv_at hl 3 rfl) ?_
    obtain ⟨h_2, hd⟩ := hd
    refine lv_ldiv hx hb dX5_fraction_43 h_2 ?_
    refine pf_X5_22 C0 hP hS dX5_fraction_44 (fun H locs hP hS => ?_)
    refine lv_iconst (v := 1) hx hb dX5_fraction_47 (by decide) ?_
    exact hret _ _ _ _ _ _ hd hP hS dX5_fraction_48
  · have hd := hd.2 hc
    refine lv_lload hx hb dX5_fraction_13 (lv_at hl 3 rfl) ?_
    refine lv_lload hx hb dX5_fraction_15 (lv_at hl 4 rfl) ?_
    obtain ⟨h_3, hd⟩ := hd
    refine lv_lrem hx hb dX5_fraction_17 h_3 ?_
    refine lv_lstore (lv' := [(9, .long (x5 - x5 / x7 * x7)), (0, .ref (h 100)), (1, .long x1), (3, .long x3), (5, .long x5), (7, .long x7)]) hx hb dX5_fraction_18 hl (by decide) rfl (fun ls hl => ?_)
    refine lv_lload hx hb dX5_fraction_20 (lv_at hl 5 rfl) ?_
    refine lv_lstore (lv' := [(5, .long x7), (9, .long (x5 - x5 / x7 * x7)), (0, .ref (h 100)), (1, .long x1), (3, .long x3), (7, .long x7)]) hx hb dX5_fraction_22 hl (by decide) rfl (fun ls hl => ?_)
    refine lv_lload hx hb dX5_fraction_24 (lv_at hl 1 rfl) ?_
    refine lv_lstore (lv' := [(7, .long (x5 - x5 / x7 * x7)), (5, .long x7), (9, .long (x5 - x5 / x7 * x7)), (0, .ref (h 100)), (1, .long x1), (3, .long x3)]) hx hb dX5_fraction_26 hl (by decide) rfl (fun ls hl => ?_)
    refine lv_goto (tgt := 6) hx hb dX5_fraction_28 (by decide) ?_
    exact k6 _ _ _ _ _ _ _ _ hd hP hS (lv_sub hl [3, 4, 5, 1, 0] rfl)
def wl_X5_fraction_6 (Q : Int32 → sT → Prop) : Nat → Int64 → Int64 → Int64 → Int64 → sT → Prop
  | 0, _, _, _, _ => fun _ => False
  | n + 1, x1, x3, x5, x7 => fun S => wb_X5_fraction_6 Q (fun x1 x3 x5 x7 S => wl_X5_fraction_6 Q n x1 x3 x5 x7 S) x1 x3 x5 x7 S
theorem bl_X5_fraction_6 {p : Program} {l : Launch} {e : Env} {s : State} {m : MethodId} {args : Array Value} {below : List Frame} {meth : Method} {c : Code} {Z : State → Prop} {D : va_G} {cA : Nat → ClassId} {h : Nat → Nat} {Q : Int32 → sT → Prop} (C0 : cx p s m args c cX5_fraction 11 RX5 D cA false keysRA h) (hret : rtI p l e rm_X5_fraction s m args below meth c cX5_fraction Z D (wR h cA) (aK keysRA h s.heap.size) Q) : ∀ (n : Nat) (x1 : Int64) (x3 : Int64) (x5 : Int64) (x7 : Int64) (S : sT) (H : Heap) (locs : List Loc) (ls : Array Slot), va_P D vwCl (wR h cA S) H → va_S (aK keysRA h s.heap.size) s.heap H locs → wl_X5_fraction_6 Q n x1 x3 x5 x7 S → lv_has ls 11 [(0, .ref (h 100)), (1, .long x1), (3, .long x3), (5, .long x5), (7, .long x7)] → W p l e rm_X5_fraction s m args below meth c H locs 0 0 Z (F0 m 6 ls []) := by
  intro n
  induction n with
  | zero => intro x1 x3 x5 x7 S H locs ls hP hS hd hl; exact (show False from hd).elim
  | succ n ih => intro x1 x3 x5 x7 S H locs ls hP hS hd hl; exact bk_X5_fraction_6 C0 hret (fun x1 x3 x5 x7 S H locs ls hd hP hS hl => ih x1 x3 x5 x7 S H locs ls hP hS hd hl) hP hS hd hl
def wp_X5_fraction (x1 : Int64) (x3 : Int64) (S : sT) (Q : Int32 → sT → Prop) : Prop :=
  ∃ n : Nat, wl_X5_fraction_6 Q n x1 x3 x1 x3 S
set_option maxHeartbeats 4000000 in
set_option maxRecDepth 100000 in
theorem bk_X5_fraction {p : Program} {l : Launch} {e : Env} {s : State} {m : MethodId} {args : Array Value} {below : List Frame} {meth : Method} {c : Code} {Z : State → Prop} {D : va_G} {cA : Nat → ClassId} {h : Nat → Nat} {Q : Int32 → sT → Prop} (C0 : cx p s m args c cX5_fraction 11 RX5 D cA false keysRA h) (hret : rtI p l e rm_X5_fraction s m args below meth c cX5_fraction Z D (wR h cA) (aK keysRA h s.heap.size) Q) {x1 : Int64} {x3 : Int64} {S : sT} {H : Heap} {locs : List Loc} {ls : Array Slot} (hP : va_P D vwCl (wR h cA S) H) (hS : va_S (aK keysRA h s.heap.size) s.heap H locs) (hd : wp_X5_fraction x1 x3 S Q) (hl : lv_has ls 11 [(0, .ref (h 100)), (1, .long x1), (3, .long x3)]) : W p l e rm_X5_fraction s m args below meth c H locs 0 0 Z (F0 m 0 ls []) := by
  obtain ⟨⟨hx, hb, hml, hown, hts⟩, hK, -, -⟩ := id C0
  unfold wp_X5_fraction at hd
  refine lv_lload_n hx hb dX5_fraction_0 rfl (lv_at hl 1 rfl) ?_
  refine lv_lstore (lv' := [(5, .long x1), (0, .ref (h 100)), (1, .long x1), (3, .long x3)]) hx hb dX5_fraction_1 hl (by decide) rfl (fun ls hl => ?_)
  refine lv_lload_n hx hb dX5_fraction_3 rfl (lv_at hl 3 rfl) ?_
  refine lv_lstore (lv' := [(7, .long x3), (5, .long x1), (0, .ref (h 100)), (1, .long x1), (3, .long x3)]) hx hb dX5_fraction_4 hl (by decide) rfl (fun ls hl => ?_)
  obtain ⟨n_1, hd⟩ := hd
  exact bl_X5_fraction_6 C0 hret _ _ _ _ _ _ _ _ _ hP hS hd (lv_sub hl [2, 3, 4, 1, 0] rfl)
theorem c_X5_fraction (l : Launch) {D : va_G} {cA : Nat → ClassId} {h : Nat → Nat} (hk : ky keysRA h) {x1 : Int64} {x3 : Int64} {S : sT} (sz : Nat) {Q : Int32 → sT → Prop} (hd : wp_X5_fraction x1 x3 S Q) : Met l yX5_fraction (wsU yX5_fraction cX5_fraction 11 (some .int)) rm_X5_fraction (va_Pc [.ref (h 100), .long x1, .long x3] (gP D cA false keysRA h (wR h cA) S sz)) (va_Qi Q (wB D (wR h cA)) (aK keysRA h sz)) 0 0 (aK keysRA h sz) :=
  mk_i (by decide) hk (Nat.le_of_ble_eq_true rfl) (fun p e s m below meth c Z ls C0 hret hP hS hl => bk_X5_fraction C0 hret hP hS hd hl)
abbrev rm_X5_intime : Room := { frames := 5, cells := 0, slots := 0, locals := 115 }
def wb_X5_intime_116 (Q : Int32 → sT → Prop) (K44 : Int32 → Int32 → Int32 → sT → Prop) (x1 : Int32) (x2 : Int32) (x3 : Int32) (S : sT) : Prop :=
  K44 x1 x2 (x3 + (1 : Int32)) S
set_option maxHeartbeats 4000000 in
set_option maxRecDepth 100000 in
theorem bk_X5_intime_116 {p : Program} {l : Launch} {e : Env} {s : State} {m : MethodId} {args : Array Value} {below : List Frame} {meth : Method} {c : Code} {Z : State → Prop} {D : va_G} {cA : Nat → ClassId} {h : Nat → Nat} {Q : Int32 → sT → Prop} (C0 : cx p s m args c cX5_intime 4 RX5 D cA false keysRA h) (hret : rtI p l e rm_X5_intime s m args below meth c cX5_intime Z D (wR h cA) (aK keysRA h s.heap.size) Q) {K44 : Int32 → Int32 → Int32 → sT → Prop} (k44 : ∀ (x1 : Int32) (x2 : Int32) (x3 : Int32) (S : sT) (H : Heap) (locs : List Loc) (ls : Array Slot), K44 x1 x2 x3 S → va_P D vwCl (wR h cA S) H → va_S (aK keysRA h s.heap.size) s.heap H locs → lv_has ls 4 [(0, .ref (h 100)), (1, .int x1), (2, .int x2), (3, .int x3)] → W p l e rm_X5_intime s m args below meth c H locs 0 0 Z (F0 m 44 ls [])) {x1 : Int32} {x2 : Int32} {x3 : Int32} {S : sT} {H : Heap} {locs : List Loc} {ls : Array Slot} (hP : va_P D vwCl (wR h cA S) H) (hS : va_S (aK keysRA h s.heap.size) s.heap H locs) (hd : wb_X5_intime_116 Q K44 x1 x2 x3 S) (hl : lv_has ls 4 [(0, .ref (h 100)), (1, .int x1), (2, .int x2), (3, .int x3)]) : W p l e rm_X5_intime s m args below meth c H locs 0 0 Z (F0 m 116 ls []) := by
  obtain ⟨⟨hx, hb, hml, hown, hts⟩, hK, -, -⟩ := id C0
  unfold wb_X5_intime_116 at hd
  refine lv_iinc (v := x3 + (1 : Int32)) (lv' := [(3, .int (x3 + (1 : Int32))), (0, .ref (h 100)), (1, .int x1), (2, .int x2)]) hx hb dX5_intime_116 hl (k := 3) rfl rfl (by decide) rfl (fun ls hl => ?_)
  refine lv_goto (tgt := 44) hx hb dX5_intime_119 (by decide) ?_
  exact k44 _ _ _ _ _ _ _ hd hP hS (lv_sub hl [1, 2, 3, 0] rfl)
def wb_X5_intime_115 (Q : Int32 → sT → Prop) (K44 : Int32 → Int32 → Int32 → sT → Prop) (x1 : Int32) (x3 : Int32) (y0 : Int32) (S : sT) : Prop :=
  wb_X5_intime_116 Q K44 x1 y0 x3 S
set_option maxHeartbeats 4000000 in
set_option maxRecDepth 100000 in
theorem bk_X5_intime_115 {p : Program} {l : Launch} {e : Env} {s : State} {m : MethodId} {args : Array Value} {below : List Frame} {meth : Method} {c : Code} {Z : State → Prop} {D : va_G} {cA : Nat → ClassId} {h : Nat → Nat} {Q : Int32 → sT → Prop} (C0 : cx p s m args c cX5_intime 4 RX5 D cA false keysRA h) (hret : rtI p l e rm_X5_intime s m args below meth c cX5_intime Z D (wR h cA) (aK keysRA h s.heap.size) Q) {K44 : Int32 → Int32 → Int32 → sT → Prop} (k44 : ∀ (x1 : Int32) (x2 : Int32) (x3 : Int32) (S : sT) (H : Heap) (locs : List Loc) (ls : Array Slot), K44 x1 x2 x3 S → va_P D vwCl (wR h cA S) H → va_S (aK keysRA h s.heap.size) s.heap H locs → lv_has ls 4 [(0, .ref (h 100)), (1, .int x1), (2, .int x2), (3, .int x3)] → W p l e rm_X5_intime s m args below meth c H locs 0 0 Z (F0 m 44 ls [])) {x1 : Int32} {x3 : Int32} {y0 : Int32} {S : sT} {H : Heap} {locs : List Loc} {ls : Array Slot} (hP : va_P D vwCl (wR h cA S) H) (hS : va_S (aK keysRA h s.heap.size) s.heap H locs) (hd : wb_X5_intime_115 Q K44 x1 x3 y0 S) (hl : lv_has ls 4 [(0, .ref (h 100)), (1, .int x1), (3, .int x3)]) : W p l e rm_X5_intime s m args below meth c H locs 0 0 Z (F0 m 115 ls [.int y0]) := by
  obtain ⟨⟨hx, hb, hml, hown, hts⟩, hK, -, -⟩ := id C0
  unfold wb_X5_intime_115 at hd
  refine lv_istore_n (lv' := [(2, .int y0), (0, .ref (h 100)), (1, .int x1), (3, .int x3)]) hx hb dX5_intime_115 rfl hl (by decide) rfl (fun ls hl => ?_)
  exact bk_X5_intime_116 C0 hret k44 hP hS hd (lv_sub hl [1, 2, 0, 3] rfl)
def wb_X5_intime_84 (Q : Int32 → sT → Prop) (K44 : Int32 → Int32 → Int32 → sT → Prop) (x1 : Int32) (x2 : Int32) (x3 : Int32) (S : sT) : Prop :=
  wp_X5_layAside S (fun S_1 => (vp_in (2 : Int32) 9) ∧ (vp_in (2 : Int32) 9) ∧ wp_X5_placeBehind x1 (uA S_1 15 (upd (vA S_1 15) (2 : Int32).toNatClampNeg ((vA S_1 15 (2 : Int32).toNatClampNeg) ^^^ x3))) (fun r_4 S_4 => ((¬ r_4 = (vI S_4 10) → wb_X5_intime_115 Q K44 x1 x3 x2 S_4) ∧ (r_4 = (vI S_4 10) → wb_X5_intime_115 Q K44 x1 x3 x3 S_4))))
set_option maxHeartbeats 4000000 in
set_option maxRecDepth 100000 in
theorem bk_X5_intime_84 {p : Program} {l : Launch} {e : Env} {s : State} {m : MethodId} {args : Array Value} {below : List Frame} {meth : Method} {c : Code} {Z : State → Prop} {D : va_G} {cA : Nat → ClassId} {h : Nat → Nat} {Q : Int32 → sT → Prop} (C0 : cx p s m args c cX5_intime 4 RX5 D cA false keysRA h) (hret : rtI p l e rm_X5_intime s m args below meth c cX5_intime Z D (wR h cA) (aK keysRA h s.heap.size) Q) {K44 : Int32 → Int32 → Int32 → sT → Prop} (k44 : ∀ (x1 : Int32) (x2 : Int32) (x3 : Int32) (S : sT) (H : Heap) (locs : List Loc) (ls : Array Slot), K44 x1 x2 x3 S → va_P D vwCl (wR h cA S) H → va_S (aK keysRA h s.heap.size) s.heap H locs → lv_has ls 4 [(0, .ref (h 100)), (1, .int x1), (2, .int x2), (3, .int x3)] → W p l e rm_X5_intime s m args below meth c H locs 0 0 Z (F0 m 44 ls [])) {x1 : Int32} {x2 : Int32} {x3 : Int32} {S : sT} {H : Heap} {locs : List Loc} {ls : Array Slot} (hP : va_P D vwCl (wR h cA S) H) (hS : va_S (aK keysRA h s.heap.size) s.heap H locs) (hd : wb_X5_intime_84 Q K44 x1 x2 x3 S) (hl : lv_has ls 4 [(0, .ref (h 100)), (1, .int x1), (2, .int x2), (3, .int x3)]) : W p l e rm_X5_intime s m args below meth c H locs 0 0 Z (F0 m 84 ls []) := by
  obtain ⟨⟨hx, hb, hml, hown, hts⟩, hK, -, -⟩ := id C0
  unfold wb_X5_intime_84 at hd
  refine lv_aload_n hx hb dX5_intime_84 rfl (lv_at hl 0 rfl) ?_
  refine cl_Vv (n := 0) (rest := []) C0 hP hS (c_X5_layAside l C0.2.2.1 _ hd) (lwG_V lm_X5_213 li_X5_layAside lx_X5_layAside lz_RX5 lc_X5_layAside) (by decide +kernel) (oR_at h cA _) rfl rfl rfl (Nat.le_of_ble_eq_true rfl) ⟨rfl, rfl⟩ ⟨by decide, by decide⟩ dX5_intime_85 hl.1 ⟨Nat.zero_le _, Nat.zero_le _⟩ (fun S_1 H locs hd hP hS => ?_)
  refine lv_aload_n hx hb dX5_intime_88 rfl (lv_at hl 0 rfl) ?_
  refine gf_X5_38 C0 hP dX5_intime_89 ?_
  refine lv_iconst (v := 2) hx hb dX5_intime_92 (by decide) ?_
  refine lv_dup2_11 hx hb dX5_intime_93 rfl rfl ?_
  obtain ⟨h_2, hd⟩ := hd
  refine ldR (by decide) C0 hP h_2 dX5_intime_94 ?_
  refine lv_iload_n hx hb dX5_intime_95 rfl (lv_at hl 3 rfl) ?_
  refine lv_ixor hx hb dX5_intime_96 ?_
  obtain ⟨h_3, hd⟩ := hd
  refine stR (by decide) C0 hP hS h_3 dX5_intime_97 (fun H locs hP hS => ?_)
  refine lv_aload_n hx hb dX5_intime_98 rfl (lv_at hl 0 rfl) ?_
  refine lv_iload_n hx hb dX5_intime_99 rfl (lv_at hl 1 rfl) ?_
  refine cl_Vi (n := 1) (rest := []) C0 hP hS (c_X5_placeBehind l C0.2.2.1 _ hd) (lwG_V lm_X5_225 li_X5_placeBehind lx_X5_placeBehind lz_RX5 lc_X5_placeBehind) (by decide +kernel) (oR_at h cA _) rfl rfl rfl (Nat.le_of_ble_eq_true rfl) ⟨rfl, rfl⟩ ⟨by decide, by decide⟩ dX5_intime_100 hl.1 ⟨Nat.zero_le _, Nat.zero_le _⟩ (fun r_4 S_4 H locs hd hP hS => ?_)
  refine lv_aload_n hx hb dX5_intime_103 rfl (lv_at hl 0 rfl) ?_
  refine gf_X5_155 C0 hP dX5_intime_104 ?_
  refine lv_icmp_ne (tgt := 114) hx hb dX5_intime_107 (by decide) (fun hc => ?_) (fun hc => ?_)
  · have hd := hd.1 hc
    refine lv_iload_n hx hb dX5_intime_114 rfl (lv_at hl 2 rfl) ?_
    exact bk_X5_intime_115 C0 hret k44 hP hS hd (lv_sub hl [0, 1, 3] rfl)
  · have hd := hd.2 hc
    refine lv_iload_n hx hb dX5_intime_110 rfl (lv_at hl 3 rfl) ?_
    refine lv_goto (tgt := 115) hx hb dX5_intime_111 (by decide) ?_
    exact bk_X5_intime_115 C0 hret k44 hP hS hd (lv_sub hl [0, 1, 3] rfl)
def wb_X5_intime_44 (Q : Int32 → sT → Prop) (K44 : Int32 → Int32 → Int32 → sT → Prop) (x1 : Int32) (x2 : Int32) (x3 : Int32) (S : sT) : Prop :=
  ((((1 : Int32) <<< ((vI S 9) &&& 31)) ≤ x3 → ((¬ x2 = (-9 : Int32) → wp_X5_bits x2 S (fun r_1 S_1 => wp_X5_answer r_1 x2 S_1 (fun r_2 S_2 => Q r_2 S_2))) ∧ (x2 = (-9 : Int32) → Q (-9 : Int32) S))) ∧ (¬ ((1 : Int32) <<< ((vI S 9) &&& 31)) ≤ x3 → (vp_in (2 : Int32) 9) ∧ ((¬ (x3 &&& ((vA S 14 (2 : Int32).toNatClampNeg) ^^^ (-1 : Int32))) = 0 → wb_X5_intime_116 Q K44 x1 x2 x3 S) ∧ ((x3 &&& ((vA S 14 (2 : Int32).toNatClampNeg) ^^^ (-1 : Int32))) = 0 → ((x2 = (-9 : Int32) → wb_X5_intime_84 Q K44 x1 x2 x3 S) ∧ (¬ x2 = (-9 : Int32) → wp_X5_bits x3 S (fun r_4 S_4 => wp_X5_bits x2 S_4 (fun r_5 S_5 => ((r_5 ≤ r_4 → wb_X5_intime_116 Q K44 x1 x2 x3 S_5) ∧ (¬ r_5 ≤ r_4 → wb_X5_intime_84 Q K44 x1 x2 x3 S_5))))))))))
set_option maxHeartbeats 4000000 in
set_option maxRecDepth 100000 in
theorem bk_X5_intime_44 {p : Program} {l : Launch} {e : Env} {s : State} {m : MethodId} {args : Array Value} {below : List Frame} {meth : Method} {c : Code} {Z : State → Prop} {D : va_G} {cA : Nat → ClassId} {h : Nat → Nat} {Q : Int32 → sT → Prop} (C0 : cx p s m args c cX5_intime 4 RX5 D cA false keysRA h) (hret : rtI p l e rm_X5_intime s m args below meth c cX5_intime Z D (wR h cA) (aK keysRA h s.heap.size) Q) {K44 : Int32 → Int32 → Int32 → sT → Prop} (k44 : ∀ (x1 : Int32) (x2 : Int32) (x3 : Int32) (S : sT) (H : Heap) (locs : List Loc) (ls : Array Slot), K44 x1 x2 x3 S → va_P D vwCl (wR h cA S) H → va_S (aK keysRA h s.heap.size) s.heap H locs → lv_has ls 4 [(0, .ref (h 100)), (1, .int x1), (2, .int x2), (3, .int x3)] → W p l e rm_X5_intime s m args below meth c H locs 0 0 Z (F0 m 44 ls [])) {x1 : Int32} {x2 : Int32} {x3 : Int32} {S : sT} {H : Heap} {locs : List Loc} {ls : Array Slot} (hP : va_P D vwCl (wR h cA S) H) (hS : va_S (aK keysRA h s.heap.size) s.heap H locs) (hd : wb_X5_intime_44 Q K44 x1 x2 x3 S) (hl : lv_has ls 4 [(0, .ref (h 100)), (1, .int x1), (2, .int x2), (3, .int x3)]) : W p l e rm_X5_intime s m args below meth c H locs 0 0 Z (F0 m 44 ls []) := by
  obtain ⟨⟨hx, hb, hml, hown, hts⟩, hK, -, -⟩ := id C0
  unfold wb_X5_intime_44 at hd
  refine lv_iload_n hx hb dX5_intime_44 rfl (lv_at hl 3 rfl) ?_
  refine lv_iconst (v := 1) hx hb dX5_intime_45 (by decide) ?_
  refine lv_aload_n hx hb dX5_intime_46 rfl (lv_at hl 0 rfl) ?_
  refine gf_X5_97 C0 hP dX5_intime_47 ?_
  refine lv_ishl hx hb dX5_intime_50 ?_
  refine lv_icmp_ge (tgt := 122) hx hb dX5_intime_51 (by decide) (fun hc => ?_) (fun hc => ?_)
  · have hd := hd.1 hc
    refine lv_iload_n hx hb dX5_intime_122 rfl (lv_at hl 2 rfl) ?_
    refine lv_bipush (v := (-9)) hx hb dX5_intime_123 (by decide) ?_
    refine lv_icmp_ne (tgt := 133) hx hb dX5_intime_125 (by decide) (fun hc => ?_) (fun hc => ?_)
    · have hd := hd.1 hc
      refine lv_aload_n hx hb dX5_intime_133 rfl (lv_at hl 0 rfl) ?_
      refine lv_iload_n hx hb dX5_intime_134 rfl (lv_at hl 2 rfl) ?_
      refine cl_Si (n := 1) (rest := [.ref (h 100)]) C0 hP hS (c_X5_bits l C0.2.2.1 _ hd) (lwG_S lm_X5_222 ls_X5_bits lz_RX5 lc_X5_bits) (by decide +kernel) rfl rfl (Nat.le_of_ble_eq_true rfl) ⟨rfl, rfl⟩ ⟨by decide, by decide⟩ dX5_intime_135 hl.1 ⟨Nat.zero_le _, Nat.zero_le _⟩ (fun r_1 S_1 H locs hd hP hS => ?_)
      refine lv_iload_n hx hb dX5_intime_138 rfl (lv_at hl 2 rfl) ?_
      refine cl_Vi (n := 2) (rest := []) C0 hP hS (c_X5_answer l C0.2.2.1 _ hd) (lwG_V lm_X5_216 li_X5_answer lx_X5_answer lz_RX5 lc_X5_answer) (by decide +kernel) (oR_at h cA _) rfl rfl rfl (Nat.le_of_ble_eq_true rfl) ⟨rfl, rfl⟩ ⟨by decide, by decide⟩ dX5_intime_139 hl.1 ⟨Nat.zero_le _, Nat.zero_le _⟩ (fun r_2 S_2 H locs hd hP hS => ?_)
      exact hret _ _ _ _ _ _ hd hP hS dX5_intime_142
    · have hd := hd.2 hc
      refine lv_bipush (v := (-9)) hx hb dX5_intime_128 (by decide) ?_
      refine lv_goto (tgt := 142) hx hb dX5_intime_130 (by decide) ?_
      exact hret _ _ _ _ _ _ hd hP hS dX5_intime_142
  · have hd := hd.2 hc
    refine lv_iload_n hx hb dX5_intime_54 rfl (lv_at hl 3 rfl) ?_
    refine lv_aload_n hx hb dX5_intime_55 rfl (lv_at hl 0 rfl) ?_
    refine gf_X5_35 C0 hP dX5_intime_56 ?_
    refine lv_iconst (v := 2) hx hb dX5_intime_59 (by decide) ?_
    obtain ⟨h_3, hd⟩ := hd
    refine ldR (by decide) C0 hP h_3 dX5_intime_60 ?_
    refine lv_iconst (v := (-1)) hx hb dX5_intime_61 (by decide) ?_
    refine lv_ixor hx hb dX5_intime_62 ?_
    refine lv_iand hx hb dX5_intime_63 ?_
    refine lv_if_ne (tgt := 116) hx hb dX5_intime_64 (by decide) (fun hc => ?_) (fun hc => ?_)
    · have hd := hd.1 hc
      exact bk_X5_intime_116 C0 hret k44 hP hS hd (lv_sub hl [0, 1, 2, 3] rfl)
    · have hd := hd.2 hc
      refine lv_iload_n hx hb dX5_intime_67 rfl (lv_at hl 2 rfl) ?_
      refine lv_bipush (v := (-9)) hx hb dX5_intime_68 (by decide) ?_
      refine lv_icmp_eq (tgt := 84) hx hb dX5_intime_70 (by decide) (fun hc => ?_) (fun hc => ?_)
      · have hd := hd.1 hc
        exact bk_X5_intime_84 C0 hret k44 hP hS hd (lv_sub hl [0, 1, 2, 3] rfl)
      · have hd := hd.2 hc
        refine lv_iload_n hx hb dX5_intime_73 rfl (lv_at hl 3 rfl) ?_
        refine cl_Si (n := 1) (rest := []) C0 hP hS (c_X5_bits l C0.2.2.1 _ hd) (lwG_S lm_X5_222 ls_X5_bits lz_RX5 lc_X5_bits) (by decide +kernel) rfl rfl (Nat.le_of_ble_eq_true rfl) ⟨rfl, rfl⟩ ⟨by decide, by decide⟩ dX5_intime_74 hl.1 ⟨Nat.zero_le _, Nat.zero_le _⟩ (fun r_4 S_4 H locs hd hP hS => ?_)
        refine lv_iload_n hx hb dX5_intime_77 rfl (lv_at hl 2 rfl) ?_
        refine cl_Si (n := 1) (rest := [.int r_4]) C0 hP hS (c_X5_bits l C0.2.2.1 _ hd) (lwG_S lm_X5_222 ls_X5_bits lz_RX5 lc_X5_bits) (by decide +kernel) rfl rfl (Nat.le_of_ble_eq_true rfl) ⟨rfl, rfl⟩ ⟨by decide, by decide⟩ dX5_intime_78 hl.1 ⟨Nat.zero_le _, Nat.zero_le _⟩ (fun r_5 S_5 H locs hd hP hS => ?_)
        refine lv_icmp_ge (tgt := 116) hx hb dX5_intime_81 (by decide) (fun hc => ?_) (fun hc => ?_)
        · have hd := hd.1 hc
          exact bk_X5_intime_116 C0 hret k44 hP hS hd (lv_sub hl [0, 1, 2, 3] rfl)
        · have hd := hd.2 hc
          exact bk_X5_intime_84 C0 hret k44 hP hS hd (lv_sub hl [0, 1, 2, 3] rfl)
def wl_X5_intime_44 (Q : Int32 → sT → Prop) : Nat → Int32 → Int32 → Int32 → sT → Prop
  | 0, _, _, _ => fun _ => False
  | n + 1, x1, x2, x3 => fun S => wb_X5_intime_44 Q (fun x1 x2 x3 S => wl_X5_intime_44 Q n x1 x2 x3 S) x1 x2 x3 S
theorem bl_X5_intime_44 {p : Program} {l : Launch} {e : Env} {s : State} {m : MethodId} {args : Array Value} {below : List Frame} {meth : Method} {c : Code} {Z : State → Prop} {D : va_G} {cA : Nat → ClassId} {h : Nat → Nat} {Q : Int32 → sT → Prop} (C0 : cx p s m args c cX5_intime 4 RX5 D cA false keysRA h) (hret : rtI p l e rm_X5_intime s m args below meth c cX5_intime Z D (wR h cA) (aK keysRA h s.heap.size) Q) : ∀ (n : Nat) (x1 : Int32) (x2 : Int32) (x3 : Int32) (S : sT) (H : Heap) (locs : List Loc) (ls : Array Slot), va_P D vwCl (wR h cA S) H → va_S (aK keysRA h s.heap.size) s.heap H locs → wl_X5_intime_44 Q n x1 x2 x3 S → lv_has ls 4 [(0, .ref (h 100)), (1, .int x1), (2, .int x2), (3, .int x3)] → W p l e rm_X5_intime s m args below meth c H locs 0 0 Z (F0 m 44 ls []) := by
  intro n
  induction n with
  | zero => intro x1 x2 x3 S H locs ls hP hS hd hl; exact (show False from hd).elim
  | succ n ih => intro x1 x2 x3 S H locs ls hP hS hd hl; exact bk_X5_intime_44 C0 hret (fun x1 x2 x3 S H locs ls hd hP hS hl => ih x1 x2 x3 S H locs ls hP hS hd hl) hP hS hd hl
def wb_X5_intime_38 (Q : Int32 → sT → Prop) (y0 : Int32) (S : sT) : Prop :=
  ∃ n : Nat, wl_X5_intime_44 Q n y0 (-9 : Int32) (0 : Int32) S
set_option maxHeartbeats 4000000 in
set_option maxRecDepth 100000 in
theorem bk_X5_intime_38 {p : Program} {l : Launch} {e : Env} {s : State} {m : MethodId} {args : Array Value} {below : List Frame} {meth : Method} {c : Code} {Z : State → Prop} {D : va_G} {cA : Nat → ClassId} {h : Nat → Nat} {Q : Int32 → sT → Prop} (C0 : cx p s m args c cX5_intime 4 RX5 D cA false keysRA h) (hret : rtI p l e rm_X5_intime s m args below meth c cX5_intime Z D (wR h cA) (aK keysRA h s.heap.size) Q) {y0 : Int32} {S : sT} {H : Heap} {locs : List Loc} {ls : Array Slot} (hP : va_P D vwCl (wR h cA S) H) (hS : va_S (aK keysRA h s.heap.size) s.heap H locs) (hd : wb_X5_intime_38 Q y0 S) (hl : lv_has ls 4 [(0, .ref (h 100))]) : W p l e rm_X5_intime s m args below meth c H locs 0 0 Z (F0 m 38 ls [.int y0]) := by
  obtain ⟨⟨hx, hb, hml, hown, hts⟩, hK, -, -⟩ := id C0
  unfold wb_X5_intime_38 at hd
  refine lv_istore_n (lv' := [(1, .int y0), (0, .ref (h 100))]) hx hb dX5_intime_38 rfl hl (by decide) rfl (fun ls hl => ?_)
  refine lv_bipush (v := (-9)) hx hb dX5_intime_39 (by decide) ?_
  refine lv_istore_n (lv' := [(2, .int (-9 : Int32)), (1, .int y0), (0, .ref (h 100))]) hx hb dX5_intime_41 rfl hl (by decide) rfl (fun ls hl => ?_)
  refine lv_iconst (v := 0) hx hb dX5_intime_42 (by decide) ?_
  refine lv_istore_n (lv' := [(3, .int (0 : Int32)), (2, .int (-9 : Int32)), (1, .int y0), (0, .ref (h 100))]) hx hb dX5_intime_43 rfl hl (by decide) rfl (fun ls hl => ?_)
  obtain ⟨n_1, hd⟩ := hd
  exact bl_X5_intime_44 C0 hret _ _ _ _ _ _ _ _ hP hS hd (lv_sub hl [3, 2, 1, 0] rfl)
def wp_X5_intime (S : sT) (Q : Int32 → sT → Prop) : Prop :=
  ((¬ (vI S 9) = 0 → (vp_in (0 : Int32) 9) ∧ (((vI S 11) ≤ (vA S 14 (0 : Int32).toNatClampNeg) → wb_X5_intime_38 Q (0 : Int32) S) ∧ (¬ (vI S 11) ≤ (vA S 14 (0 : Int32).toNatClampNeg) → (vp_in (0 : Int32) 9) ∧ wb_X5_intime_38 Q ((vI S 11) - (vA S 14 (0 : Int32).toNatClampNeg)) S))) ∧ ((vI S 9) = 0 → Q (-4 : Int32) S))
set_option maxHeartbeats 4000000 in
set_option maxRecDepth 100000 in
theorem bk_X5_intime {p : Program} {l : Launch} {e : Env} {s : State} {m : MethodId} {args : Array Value} {below : List Frame} {meth : Method} {c : Code} {Z : State → Prop} {D : va_G} {cA : Nat → ClassId} {h : Nat → Nat} {Q : Int32 → sT → Prop} (C0 : cx p s m args c cX5_intime 4 RX5 D cA false keysRA h) (hret : rtI p l e rm_X5_intime s m args below meth c cX5_intime Z D (wR h cA) (aK keysRA h s.heap.size) Q) {S : sT} {H : Heap} {locs : List Loc} {ls : Array Slot} (hP : va_P D vwCl (wR h cA S) H) (hS : va_S (aK keysRA h s.heap.size) s.heap H locs) (hd : wp_X5_intime S Q) (hl : lv_has ls 4 [(0, .ref (h 100))]) : W p l e rm_X5_intime s m args below meth c H locs 0 0 Z (F0 m 0 ls []) := by
  obtain ⟨⟨hx, hb, hml, hown, hts⟩, hK, -, -⟩ := id C0
  unfold wp_X5_intime at hd
  refine lv_aload_n hx hb dX5_intime_0 rfl (lv_at hl 0 rfl) ?_
  refine gf_X5_97 C0 hP dX5_intime_1 ?_
  refine lv_if_ne (tgt := 10) hx hb dX5_intime_4 (by decide) (fun hc => ?_) (fun hc => ?_)
  · have hd := hd.1 hc
    refine lv_aload_n hx hb dX5_intime_10 rfl (lv_at hl 0 rfl) ?_
    refine gf_X5_158 C0 hP dX5_intime_11 ?_
    refine lv_aload_n hx hb dX5_intime_14 rfl (lv_at hl 0 rfl) ?_
    refine gf_X5_35 C0 hP dX5_intime_15 ?_
    refine lv_iconst (v := 0) hx hb dX5_intime_18 (by decide) ?_
    obtain ⟨h_1, hd⟩ := hd
    refine ldR (by decide) C0 hP h_1 dX5_intime_19 ?_
    refine lv_icmp_le (tgt := 37) hx hb dX5_intime_20 (by decide) (fun hc => ?_) (fun hc => ?_)
    · have hd := hd.1 hc
      refine lv_iconst (v := 0) hx hb dX5_intime_37 (by decide) ?_
      exact bk_X5_intime_38 C0 hret hP hS hd (lv_sub hl [0] rfl)
    · have hd := hd.2 hc
      refine lv_aload_n hx hb dX5_intime_23 rfl (lv_at hl 0 rfl) ?_
      refine gf_X5_158 C0 hP dX5_intime_24 ?_
      refine lv_aload_n hx hb dX5_intime_27 rfl (lv_at hl 0 rfl) ?_
      refine gf_X5_35 C0 hP dX5_intime_28 ?_
      refine lv_iconst (v := 0) hx hb dX5_intime_31 (by decide) ?_
      obtain ⟨h_2, hd⟩ := hd
      refine ldR (by decide) C0 hP h_2 dX5_intime_32 ?_
      refine lv_isub hx hb dX5_intime_33 ?_
      refine lv_goto (tgt := 38) hx hb dX5_intime_34 (by decide) ?_
      exact bk_X5_intime_38 C0 hret hP hS hd (lv_sub hl [0] rfl)
  · have hd := hd.2 hc
    refine lv_bipush (v := (-4)) hx hb dX5_intime_7 (by decide) ?_
    exact hret _ _ _ _ _ _ hd hP hS dX5_intime_9
theorem c_X5_intime (l : Launch) {D : va_G} {cA : Nat → ClassId} {h : Nat → Nat} (hk : ky keysRA h) {S : sT} (sz : Nat) {Q : Int32 → sT → Prop} (hd : wp_X5_intime S Q) : Met l yX5_intime (wsU yX5_intime cX5_intime 4 (some .int)) rm_X5_intime (va_Pc [.ref (h 100)] (gP D cA false keysRA h (wR h cA) S sz)) (va_Qi Q (wB D (wR h cA)) (aK keysRA h sz)) 0 0 (aK keysRA h sz) :=
  mk_i (by decide) hk (Nat.le_of_ble_eq_true rfl) (fun p e s m below meth c Z ls C0 hret hP hS hl => bk_X5_intime C0 hret hP hS hd hl)
