abbrev rm_X5_layAside : Room := { frames := 1, cells := 0, slots := 0, locals := 25 }
def wp_X5_layAside (S : sT) (Q : sT → Prop) : Prop :=
  wp_X5_copies 14 15 (0 : Int32) (0 : Int32) (9 : Int32) S (fun S_1 => Q S_1)
set_option maxHeartbeats 4000000 in
set_option maxRecDepth 100000 in
theorem bk_X5_layAside {p : Program} {l : Launch} {e : Env} {s : State} {m : MethodId} {args : Array Value} {below : List Frame} {meth : Method} {c : Code} {Z : State → Prop} {D : va_G} {cA : Nat → ClassId} {h : Nat → Nat} {Q : sT → Prop} (C0 : cx p s m args c cX5_layAside 1 RX5 D cA false keysRA h) (hret : rtV p l e rm_X5_layAside s m args below meth c cX5_layAside Z D (wR h cA) (aK keysRA h s.heap.size) Q) {S : sT} {H : Heap} {locs : List Loc} {ls : Array Slot} (hP : va_P D vwCl (wR h cA S) H) (hS : va_S (aK keysRA h s.heap.size) s.heap H locs) (hd : wp_X5_layAside S Q) (hl : lv_has ls 1 [(0, .ref (h 100))]) : W p l e rm_X5_layAside s m args below meth c H locs 0 0 Z (F0 m 0 ls []) := by
  obtain ⟨⟨hx, hb, hml, hown, hts⟩, hK, -, -⟩ := id C0
  unfold wp_X5_layAside at hd
  refine lv_aload_n hx hb dX5_layAside_0 rfl (lv_at hl 0 rfl) ?_
  refine gf_X5_35 C0 hP dX5_layAside_1 ?_
  refine lv_iconst (v := 0) hx hb dX5_layAside_4 (by decide) ?_
  refine lv_aload_n hx hb dX5_layAside_5 rfl (lv_at hl 0 rfl) ?_
  refine gf_X5_38 C0 hP dX5_layAside_6 ?_
  refine lv_iconst (v := 0) hx hb dX5_layAside_9 (by decide) ?_
  refine lv_bipush (v := 9) hx hb dX5_layAside_10 (by decide) ?_
  refine cl_Sv (n := 5) (rest := []) C0 hP hS (c_X5_copies l C0.2.2.1 (by decide) (by decide) _ hd) (lwG_S lm_X5_197 ls_X5_copies lz_RX5 lc_X5_copies) (by decide +kernel) rfl rfl (Nat.le_of_ble_eq_true rfl) ⟨rfl, rfl⟩ ⟨by decide, by decide⟩ dX5_layAside_12 hl.1 ⟨Nat.zero_le _, Nat.zero_le _⟩ (fun S_1 H locs hd hP hS => ?_)
  exact hret _ _ _ _ _ hd hP hS dX5_layAside_15
theorem c_X5_layAside (l : Launch) {D : va_G} {cA : Nat → ClassId} {h : Nat → Nat} (hk : ky keysRA h) {S : sT} (sz : Nat) {Q : sT → Prop} (hd : wp_X5_layAside S Q) : Met l yX5_layAside (wsU yX5_layAside cX5_layAside 1 none) rm_X5_layAside (va_Pc [.ref (h 100)] (gP D cA false keysRA h (wR h cA) S sz)) (va_Qv Q (wB D (wR h cA)) (aK keysRA h sz)) 0 0 (aK keysRA h sz) :=
  mk_v (by decide) hk (Nat.le_of_ble_eq_true rfl) (fun p e s m below meth c Z ls C0 hret hP hS hl => bk_X5_layAside C0 hret hP hS hd hl)
abbrev rm_X5_found : Room := { frames := 0, cells := 0, slots := 0, locals := 0 }
def wp_X5_found (x1 : Int32) (S : sT) (Q : Int32 → sT → Prop) : Prop :=
  (vp_in x1 6) ∧ (vp_in x1 6) ∧ Q (-3 : Int32) (uA (uI S 7 x1) 8 (upd (vA (uI S 7 x1) 8) x1.toNatClampNeg ((vA (uI S 7 x1) 8 x1.toNatClampNeg) + (1 : Int32))))
set_option maxHeartbeats 4000000 in
set_option maxRecDepth 100000 in
theorem bk_X5_found {p : Program} {l : Launch} {e : Env} {s : State} {m : MethodId} {args : Array Value} {below : List Frame} {meth : Method} {c : Code} {Z : State → Prop} {D : va_G} {cA : Nat → ClassId} {h : Nat → Nat} {Q : Int32 → sT → Prop} (C0 : cx p s m args c cX5_found 2 RX5 D cA false keysRA h) (hret : rtI p l e rm_X5_found s m args below meth c cX5_found Z D (wR h cA) (aK keysRA h s.heap.size) Q) {x1 : Int32} {S : sT} {H : Heap} {locs : List Loc} {ls : Array Slot} (hP : va_P D vwCl (wR h cA S) H) (hS : va_S (aK keysRA h s.heap.size) s.heap H locs) (hd : wp_X5_found x1 S Q) (hl : lv_has ls 2 [(0, .ref (h 100)), (1, .int x1)]) : W p l e rm_X5_found s m args below meth c H locs 0 0 Z (F0 m 0 ls []) := by
  obtain ⟨⟨hx, hb, hml, hown, hts⟩, hK, -, -⟩ := id C0
  unfold wp_X5_found at hd
  refine lv_aload_n hx hb dX5_found_0 rfl (lv_at hl 0 rfl) ?_
  refine lv_iload_n hx hb dX5_found_1 rfl (lv_at hl 1 rfl) ?_
  refine pf_X5_68 C0 hP hS dX5_found_2 (fun H locs hP hS => ?_)
  refine lv_aload_n hx hb dX5_found_5 rfl (lv_at hl 0 rfl) ?_
  refine gf_X5_26 C0 hP dX5_found_6 ?_
  refine lv_iload_n hx hb dX5_found_9 rfl (lv_at hl 1 rfl) ?_
  refine lv_dup2_11 hx hb dX5_found_10 rfl rfl ?_
  obtain ⟨h_1, hd⟩ := hd
  refine ldR (by decide) C0 hP h_1 dX5_found_11 ?_
  refine lv_iconst (v := 1) hx hb dX5_found_12 (by decide) ?_
  refine lv_iadd hx hb dX5_found_13 ?_
  obtain ⟨h_2, hd⟩ := hd
  refine stR (by decide) C0 hP hS h_2 dX5_found_14 (fun H locs hP hS => ?_)
  refine lv_bipush (v := (-3)) hx hb dX5_found_15 (by decide) ?_
  exact hret _ _ _ _ _ _ hd hP hS dX5_found_17
theorem c_X5_found (l : Launch) {D : va_G} {cA : Nat → ClassId} {h : Nat → Nat} (hk : ky keysRA h) {x1 : Int32} {S : sT} (sz : Nat) {Q : Int32 → sT → Prop} (hd : wp_X5_found x1 S Q) : Met l yX5_found (wsU yX5_found cX5_found 2 (some .int)) rm_X5_found (va_Pc [.ref (h 100), .int x1] (gP D cA false keysRA h (wR h cA) S sz)) (va_Qi Q (wB D (wR h cA)) (aK keysRA h sz)) 0 0 (aK keysRA h sz) :=
  mk_i (by decide) hk (Nat.le_of_ble_eq_true rfl) (fun p e s m below meth c Z ls C0 hret hP hS hl => bk_X5_found C0 hret hP hS hd hl)
abbrev rm_X5_refusesRow : Room := { frames := 1, cells := 0, slots := 0, locals := 25 }
def wb_X5_refusesRow_40 (Q : Int32 → sT → Prop) (K40 : Int32 → Int32 → sT → Prop) (x1 : Int32) (x2 : Int32) (S : sT) : Prop :=
  (vp_in x1 6) ∧ (((vA S 1 x1.toNatClampNeg) ≤ x2 → Q (0 : Int32) S) ∧ (¬ (vA S 1 x1.toNatClampNeg) ≤ x2 → (vp_in (((40 : Int32) * x1) + x2) 240) ∧ wp_X5_in ((vA S 0 (((40 : Int32) * x1) + x2).toNatClampNeg).toInt64) (0 : Int64) ((vI S 10).toInt64) S (fun r_3 S_3 => ((¬ r_3 = 0 → K40 x1 (x2 + (1 : Int32)) S_3) ∧ (r_3 = 0 → wp_X5_found (3 : Int32) S_3 (fun r_4 S_4 => Q r_4 S_4))))))
set_option maxHeartbeats 4000000 in
set_option maxRecDepth 100000 in
theorem bk_X5_refusesRow_40 {p : Program} {l : Launch} {e : Env} {s : State} {m : MethodId} {args : Array Value} {below : List Frame} {meth : Method} {c : Code} {Z : State → Prop} {D : va_G} {cA : Nat → ClassId} {h : Nat → Nat} {Q : Int32 → sT → Prop} (C0 : cx p s m args c cX5_refusesRow 3 RX5 D cA false keysRA h) (hret : rtI p l e rm_X5_refusesRow s m args below meth c cX5_refusesRow Z D (wR h cA) (aK keysRA h s.heap.size) Q) {K40 : Int32 → Int32 → sT → Prop} (k40 : ∀ (x1 : Int32) (x2 : Int32) (S : sT) (H : Heap) (locs : List Loc) (ls : Array Slot), K40 x1 x2 S → va_P D vwCl (wR h cA S) H → va_S (aK keysRA h s.heap.size) s.heap H locs → lv_has ls 3 [(0, .ref (h 100)), (1, .int x1), (2, .int x2)] → W p l e rm_X5_refusesRow s m args below meth c H locs 0 0 Z (F0 m 40 ls [])) {x1 : Int32} {x2 : Int32} {S : sT} {H : Heap} {locs : List Loc} {ls : Array Slot} (hP : va_P D vwCl (wR h cA S) H) (hS : va_S (aK keysRA h s.heap.size) s.heap H locs) (hd : wb_X5_refusesRow_40 Q K40 x1 x2 S) (hl : lv_has ls 3 [(0, .ref (h 100)), (1, .int x1), (2, .int x2)]) : W p l e rm_X5_refusesRow s m args below meth c H locs 0 0 Z (F0 m 40 ls []) := by
  obtain ⟨⟨hx, hb, hml, hown, hts⟩, hK, -, -⟩ := id C0
  unfold wb_X5_refusesRow_40 at hd
  refine lv_iload_n hx hb dX5_refusesRow_40 rfl (lv_at hl 2 rfl) ?_
  refine lv_aload_n hx hb dX5_refusesRow_41 rfl (lv_at hl 0 rfl) ?_
  refine gf_X5_13 C0 hP dX5_refusesRow_42 ?_
  refine lv_iload_n hx hb dX5_refusesRow_45 rfl (lv_at hl 1 rfl) ?_
  obtain ⟨h_1, hd⟩ := hd
  refine ldR (by decide) C0 hP h_1 dX5_refusesRow_46 ?_
  refine lv_icmp_ge (tgt := 86) hx hb dX5_refusesRow_47 (by decide) (fun hc => ?_) (fun hc => ?_)
  · have hd := hd.1 hc
    refine lv_iconst (v := 0) hx hb dX5_refusesRow_86 (by decide) ?_
    exact hret _ _ _ _ _ _ hd hP hS dX5_refusesRow_87
  · have hd := hd.2 hc
    refine lv_aload_n hx hb dX5_refusesRow_50 rfl (lv_at hl 0 rfl) ?_
    refine gf_X5_7 C0 hP dX5_refusesRow_51 ?_
    refine lv_bipush (v := 40) hx hb dX5_refusesRow_54 (by decide) ?_
    refine lv_iload_n hx hb dX5_refusesRow_56 rfl (lv_at hl 1 rfl) ?_
    refine lv_imul hx hb dX5_refusesRow_57 ?_
    refine lv_iload_n hx hb dX5_refusesRow_58 rfl (lv_at hl 2 rfl) ?_
    refine lv_iadd hx hb dX5_refusesRow_59 ?_
    obtain ⟨h_2, hd⟩ := hd
    refine ldR (by decide) C0 hP h_2 dX5_refusesRow_60 ?_
    refine lv_i2l hx hb dX5_refusesRow_61 rfl ?_
    refine lv_lconst (v := 0) hx hb dX5_refusesRow_62 (by decide) ?_
    refine lv_aload_n hx hb dX5_refusesRow_63 rfl (lv_at hl 0 rfl) ?_
    refine gf_X5_155 C0 hP dX5_refusesRow_64 ?_
    refine lv_i2l hx hb dX5_refusesRow_67 rfl ?_
    refine cl_Si (n := 3) (rest := []) C0 hP hS (c_X5_in l C0.2.2.1 _ hd) (lwG_S lm_X5_77 ls_X5_in lz_RX5 lc_X5_in) (by decide +kernel) rfl rfl (Nat.le_of_ble_eq_true rfl) ⟨rfl, rfl⟩ ⟨by decide, by decide⟩ dX5_refusesRow_68 hl.1 ⟨Nat.zero_le _, Nat.zero_le _⟩ (fun r_3 S_3 H locs hd hP hS => ?_)
    refine lv_if_ne (tgt := 80) hx hb dX5_refusesRow_71 (by decide) (fun hc => ?_) (fun hc => ?_)
    · have hd := hd.1 hc
      refine lv_iinc (v := x2 + (1 : Int32)) (lv' := [(2, .int (x2 + (1 : Int32))), (0, .ref (h 100)), (1, .int x1)]) hx hb dX5_refusesRow_80 hl (k := 2) rfl rfl (by decide) rfl (fun ls hl => ?_)
      refine lv_goto (tgt := 40) hx hb dX5_refusesRow_83 (by decide) ?_
      exact k40 _ _ _ _ _ _ hd hP hS (lv_sub hl [1, 2, 0] rfl)
    · have hd := hd.2 hc
      refine lv_aload_n hx hb dX5_refusesRow_74 rfl (lv_at hl 0 rfl) ?_
      refine lv_iconst (v := 3) hx hb dX5_refusesRow_75 (by decide) ?_
      refine cl_Vi (n := 1) (rest := []) C0 hP hS (c_X5_found l C0.2.2.1 _ hd) (lwG_V lm_X5_87 li_X5_found lx_X5_found lz_RX5 lc_X5_found) (by decide +kernel) (oR_at h cA _) rfl rfl rfl (Nat.le_of_ble_eq_true rfl) ⟨rfl, rfl⟩ ⟨by decide, by decide⟩ dX5_refusesRow_76 hl.1 ⟨Nat.zero_le _, Nat.zero_le _⟩ (fun r_4 S_4 H locs hd hP hS => ?_)
      exact hret _ _ _ _ _ _ hd hP hS dX5_refusesRow_79
def wl_X5_refusesRow_40 (Q : Int32 → sT → Prop) : Nat → Int32 → Int32 → sT → Prop
  | 0, _, _ => fun _ => False
  | n + 1, x1, x2 => fun S => wb_X5_refusesRow_40 Q (fun x1 x2 S => wl_X5_refusesRow_40 Q n x1 x2 S) x1 x2 S
theorem bl_X5_refusesRow_40 {p : Program} {l : Launch} {e : Env} {s : State} {m : MethodId} {args : Array Value} {below : List Frame} {meth : Method} {c : Code} {Z : State → Prop} {D : va_G} {cA : Nat → ClassId} {h : Nat → Nat} {Q : Int32 → sT → Prop} (C0 : cx p s m args c cX5_refusesRow 3 RX5 D cA false keysRA h) (hret : rtI p l e rm_X5_refusesRow s m args below meth c cX5_refusesRow Z D (wR h cA) (aK keysRA h s.heap.size) Q) : ∀ (n : Nat) (x1 : Int32) (x2 : Int32) (S : sT) (H : Heap) (locs : List Loc) (ls : Array Slot), va_P D vwCl (wR h cA S) H → va_S (aK keysRA h s.heap.size) s.heap H locs → wl_X5_refusesRow_40 Q n x1 x2 S → lv_has ls 3 [(0, .ref (h 100)), (1, .int x1), (2, .int x2)] → W p l e rm_X5_refusesRow s m args below meth c H locs 0 0 Z (F0 m 40 ls []) := by
  intro n
  induction n with
  | zero => intro x1 x2 S H locs ls hP hS hd hl; exact (show False from hd).elim
  | succ n ih => intro x1 x2 S H locs ls hP hS hd hl; exact bk_X5_refusesRow_40 C0 hret (fun x1 x2 S H locs ls hd hP hS hl => ih x1 x2 S H locs ls hP hS hd hl) hP hS hd hl
def wp_X5_refusesRow (x1 : Int32) (S : sT) (Q : Int32 → sT → Prop) : Prop :=
  (vp_in x1 6) ∧ ((0 ≤ (vA S 1 x1.toNatClampNeg) → (vp_in x1 6) ∧ wp_X5_in ((vA S 1 x1.toNatClampNeg).toInt64) (1 : Int64) (20 : Int64) S (fun r_3 S_3 => ((¬ r_3 = 0 → ∃ n : Nat, wl_X5_refusesRow_40 Q n x1 (0 : Int32) S_3) ∧ (r_3 = 0 → wp_X5_found (5 : Int32) S_3 (fun r_5 S_5 => Q r_5 S_5))))) ∧ (¬ 0 ≤ (vA S 1 x1.toNatClampNeg) → wp_X5_found (1 : Int32) S (fun r_6 S_6 => Q r_6 S_6)))
set_option maxHeartbeats 4000000 in
set_option maxRecDepth 100000 in
theorem bk_X5_refusesRow {p : Program} {l : Launch} {e : Env} {s : State} {m : MethodId} {args : Array Value} {below : List Frame} {meth : Method} {c : Code} {Z : State → Prop} {D : va_G} {cA : Nat → ClassId} {h : Nat → Nat} {Q : Int32 → sT → Prop} (C0 : cx p s m args c cX5_refusesRow 3 RX5 D cA false keysRA h) (hret : rtI p l e rm_X5_refusesRow s m args below meth c cX5_refusesRow Z D (wR h cA) (aK keysRA h s.heap.size) Q) {x1 : Int32} {S : sT} {H : Heap} {locs : List Loc} {ls : Array Slot} (hP : va_P D vwCl (wR h cA S) H) (hS : va_S (aK keysRA h s.heap.size) s.heap H locs) (hd : wp_X5_refusesRow x1 S Q) (hl : lv_has ls 3 [(0, .ref (h 100)), (1, .int x1)]) : W p l e rm_X5_refusesRow s m args below meth c H locs 0 0 Z (F0 m 0 ls []) := by
  obtain ⟨⟨hx, hb, hml, hown, hts⟩, hK, -, -⟩ := id C0
  unfold wp_X5_refusesRow at hd
  refine lv_aload_n hx hb dX5_refusesRow_0 rfl (lv_at hl 0 rfl) ?_
  refine gf_X5_13 C0 hP dX5_refusesRow_1 ?_
  refine lv_iload_n hx hb dX5_refusesRow_4 rfl (lv_at hl 1 rfl) ?_
  obtain ⟨h_1, hd⟩ := hd
  refine ldR (by decide) C0 hP h_1 dX5_refusesRow_5 ?_
  refine lv_if_ge (tgt := 15) hx hb dX5_refusesRow_6 (by decide) (fun hc => ?_) (fun hc => ?_)
  · have hd := hd.1 hc
    refine lv_aload_n hx hb dX5_refusesRow_15 rfl (lv_at hl 0 rfl) ?_
    refine gf_X5_13 C0 hP dX5_refusesRow_16 ?_
    refine lv_iload_n hx hb dX5_refusesRow_19 rfl (lv_at hl 1 rfl) ?_
    obtain ⟨h_2, hd⟩ := hd
    refine ldR (by decide) C0 hP h_2 dX5_refusesRow_20 ?_
    refine lv_i2l hx hb dX5_refusesRow_21 rfl ?_
    refine lv_lconst (v := 1) hx hb dX5_refusesRow_22 (by decide) ?_
    refine lv_ldc2 hx hb hown (hts _ lk_X5_231) dX5_refusesRow_23 ?_
    refine cl_Si (n := 3) (rest := []) C0 hP hS (c_X5_in l C0.2.2.1 _ hd) (lwG_S lm_X5_77 ls_X5_in lz_RX5 lc_X5_in) (by decide +kernel) rfl rfl (Nat.le_of_ble_eq_true rfl) ⟨rfl, rfl⟩ ⟨by decide, by decide⟩ dX5_refusesRow_26 hl.1 ⟨Nat.zero_le _, Nat.zero_le _⟩ (fun r_3 S_3 H locs hd hP hS => ?_)
    refine lv_if_ne (tgt := 38) hx hb dX5_refusesRow_29 (by decide) (fun hc => ?_) (fun hc => ?_)
    · have hd := hd.1 hc
      refine lv_iconst (v := 0) hx hb dX5_refusesRow_38 (by decide) ?_
      refine lv_istore_n (lv' := [(2, .int (0 : Int32)), (0, .ref (h 100)), (1, .int x1)]) hx hb dX5_refusesRow_39 rfl hl (by decide) rfl (fun ls hl => ?_)
      obtain ⟨n_4, hd⟩ := hd
      exact bl_X5_refusesRow_40 C0 hret _ _ _ _ _ _ _ hP hS hd (lv_sub hl [1, 2, 0] rfl)
    · have hd := hd.2 hc
      refine lv_aload_n hx hb dX5_refusesRow_32 rfl (lv_at hl 0 rfl) ?_
      refine lv_iconst (v := 5) hx hb dX5_refusesRow_33 (by decide) ?_
      refine cl_Vi (n := 1) (rest := []) C0 hP hS (c_X5_found l C0.2.2.1 _ hd) (lwG_V lm_X5_87 li_X5_found lx_X5_found lz_RX5 lc_X5_found) (by decide +kernel) (oR_at h cA _) rfl rfl rfl (Nat.le_of_ble_eq_true rfl) ⟨rfl, rfl⟩ ⟨by decide, by decide⟩ dX5_refusesRow_34 hl.1 ⟨Nat.zero_le _, Nat.zero_le _⟩ (fun r_5 S_5 H locs hd hP hS => ?_)
      exact hret _ _ _ _ _ _ hd hP hS dX5_refusesRow_37
  · have hd := hd.2 hc
    refine lv_aload_n hx hb dX5_refusesRow_9 rfl (lv_at hl 0 rfl) ?_
    refine lv_iconst (v := 1) hx hb dX5_refusesRow_10 (by decide) ?_
    refine cl_Vi (n := 1) (rest := []) C0 hP hS (c_X5_found l C0.2.2.1 _ hd) (lwG_V lm_X5_87 li_X5_found lx_X5_found lz_RX5 lc_X5_found) (by decide +kernel) (oR_at h cA _) rfl rfl rfl (Nat.le_of_ble_eq_true rfl) ⟨rfl, rfl⟩ ⟨by decide, by decide⟩ dX5_refusesRow_11 hl.1 ⟨Nat.zero_le _, Nat.zero_le _⟩ (fun r_6 S_6 H locs hd hP hS => ?_)
    exact hret _ _ _ _ _ _ hd hP hS dX5_refusesRow_14
theorem c_X5_refusesRow (l : Launch) {D : va_G} {cA : Nat → ClassId} {h : Nat → Nat} (hk : ky keysRA h) {x1 : Int32} {S : sT} (sz : Nat) {Q : Int32 → sT → Prop} (hd : wp_X5_refusesRow x1 S Q) : Met l yX5_refusesRow (wsU yX5_refusesRow cX5_refusesRow 3 (some .int)) rm_X5_refusesRow (va_Pc [.ref (h 100), .int x1] (gP D cA false keysRA h (wR h cA) S sz)) (va_Qi Q (wB D (wR h cA)) (aK keysRA h sz)) 0 0 (aK keysRA h sz) :=
  mk_i (by decide) hk (Nat.le_of_ble_eq_true rfl) (fun p e s m below meth c Z ls C0 hret hP hS hl => bk_X5_refusesRow C0 hret hP hS hd hl)
abbrev rm_X5_account : Room := { frames := 6, cells := 0, slots := 0, locals := 138 }
def wb_X5_account_81 (Q : Int32 → sT → Prop) (K40 : Int32 → Int32 → Int32 → Int32 → sT → Prop) (x1 : Int32) (x3 : Int32) (x4 : Int32) (x5 : Int32) (S : sT) : Prop :=
  K40 x1 x3 x4 (x5 + (1 : Int32)) S
set_option maxHeartbeats 4000000 in
set_option maxRecDepth 100000 in
theorem bk_X5_account_81 {p : Program} {l : Launch} {e : Env} {s : State} {m : MethodId} {args : Array Value} {below : List Frame} {meth : Method} {c : Code} {Z : State → Prop} {D : va_G} {cA : Nat → ClassId} {h : Nat → Nat} {Q : Int32 → sT → Prop} (C0 : cx p s m args c cX5_account 6 RX5 D cA false keysRA h) (hret : rtI p l e rm_X5_account s m args below meth c cX5_account Z D (wR h cA) (aK keysRA h s.heap.size) Q) {K40 : Int32 → Int32 → Int32 → Int32 → sT → Prop} (k40 : ∀ (x1 : Int32) (x3 : Int32) (x4 : Int32) (x5 : Int32) (S : sT) (H : Heap) (locs : List Loc) (ls : Array Slot), K40 x1 x3 x4 x5 S → va_P D vwCl (wR h cA S) H → va_S (aK keysRA h s.heap.size) s.heap H locs → lv_has ls 6 [(0, .ref (h 100)), (1, .int x1), (3, .int x3), (4, .int x4), (5, .int x5)] → W p l e rm_X5_account s m args below meth c H locs 0 0 Z (F0 m 40 ls [])) {x1 : Int32} {x3 : Int32} {x4 : Int32} {x5 : Int32} {S : sT} {H : Heap} {locs : List Loc} {ls : Array Slot} (hP : va_P D vwCl (wR h cA S) H) (hS : va_S (aK keysRA h s.heap.size) s.heap H locs) (hd : wb_X5_account_81 Q K40 x1 x3 x4 x5 S) (hl : lv_has ls 6 [(0, .ref (h 100)), (1, .int x1), (3, .int x3), (4, .int x4), (5, .int x5)]) : W p l e rm_X5_account s m args below meth c H locs 0 0 Z (F0 m 81 ls []) := by
  obtain ⟨⟨hx, hb, hml, hown, hts⟩, hK, -, -⟩ := id C0
  unfold wb_X5_account_81 at hd
  refine lv_iinc (v := x5 + (1 : Int32)) (lv' := [(5, .int (x5 + (1 : Int32))), (0, .ref (h 100)), (1, .int x1), (3, .int x3), (4, .int x4)]) hx hb dX5_account_81 hl (k := 4) rfl rfl (by decide) rfl (fun ls hl => ?_)
  refine lv_goto (tgt := 40) hx hb dX5_account_84 (by decide) ?_
  exact k40 _ _ _ _ _ _ _ _ hd hP hS (lv_sub hl [1, 2, 3, 4, 0] rfl)
def wb_X5_account_40 (Q : Int32 → sT → Prop) (K40 : Int32 → Int32 → Int32 → Int32 → sT → Prop) (x1 : Int32) (x3 : Int32) (x4 : Int32) (x5 : Int32) (S : sT) : Prop :=
  ((((1 : Int32) <<< ((vI S 9) &&& 31)) ≤ x5 → ((¬ x3 = 0 → wp_X5_answer x3 x4 S (fun r_1 S_1 => Q r_1 S_1)) ∧ (x3 = 0 → Q (-9 : Int32) S))) ∧ (¬ ((1 : Int32) <<< ((vI S 9) &&& 31)) ≤ x5 → wp_X5_layAside S (fun S_2 => (vp_in (2 : Int32) 9) ∧ wp_X5_goesAs x1 (uA S_2 15 (upd (vA S_2 15) (2 : Int32).toNatClampNeg x5)) (fun r_4 S_4 => ((r_4 = 0 → wb_X5_account_81 Q K40 x1 x3 x4 x5 S_4) ∧ (¬ r_4 = 0 → wb_X5_account_81 Q K40 x1 (x3 + (1 : Int32)) (x4 &&& x5) x5 S_4))))))
set_option maxHeartbeats 4000000 in
set_option maxRecDepth 100000 in
theorem bk_X5_account_40 {p : Program} {l : Launch} {e : Env} {s : State} {m : MethodId} {args : Array Value} {below : List Frame} {meth : Method} {c : Code} {Z : State → Prop} {D : va_G} {cA : Nat → ClassId} {h : Nat → Nat} {Q : Int32 → sT → Prop} (C0 : cx p s m args c cX5_account 6 RX5 D cA false keysRA h) (hret : rtI p l e rm_X5_account s m args below meth c cX5_account Z D (wR h cA) (aK keysRA h s.heap.size) Q) {K40 : Int32 → Int32 → Int32 → Int32 → sT → Prop} (k40 : ∀ (x1 : Int32) (x3 : Int32) (x4 : Int32) (x5 : Int32) (S : sT) (H : Heap) (locs : List Loc) (ls : Array Slot), K40 x1 x3 x4 x5 S → va_P D vwCl (wR h cA S) H → va_S (aK keysRA h s.heap.size) s.heap H locs → lv_has ls 6 [(0, .ref (h 100)), (1, .int x1), (3, .int x3), (4, .int x4), (5, .int x5)] → W p l e rm_X5_account s m args below meth c H locs 0 0 Z (F0 m 40 ls [])) {x1 : Int32} {x3 : Int32} {x4 : Int32} {x5 : Int32} {S : sT} {H : Heap} {locs : List Loc} {ls : Array Slot} (hP : va_P D vwCl (wR h cA S) H) (hS : va_S (aK keysRA h s.heap.size) s.heap H locs) (hd : wb_X5_account_40 Q K40 x1 x3 x4 x5 S) (hl : lv_has ls 6 [(0, .ref (h 100)), (1, .int x1), (3, .int x3), (4, .int x4), (5, .int x5)]) : W p l e rm_X5_account s m args below meth c H locs 0 0 Z (F0 m 40 ls []) := by
  obtain ⟨⟨hx, hb, hml, hown, hts⟩, hK, -, -⟩ := id C0
  unfold wb_X5_account_40 at hd
  refine lv_iload hx hb dX5_account_40 (lv_at hl 4 rfl) ?_
  refine lv_iconst (v := 1) hx hb dX5_account_42 (by decide) ?_
  refine lv_aload_n hx hb dX5_account_43 rfl (lv_at hl 0 rfl) ?_
  refine gf_X5_97 C0 hP dX5_account_44 ?_
  refine lv_ishl hx hb dX5_account_47 ?_
  refine lv_icmp_ge (tgt := 87) hx hb dX5_account_48 (by decide) (fun hc => ?_) (fun hc => ?_)
  · have hd := hd.1 hc
    refine lv_iload_n hx hb dX5_account_87 rfl (lv_at hl 2 rfl) ?_
    refine lv_if_ne (tgt := 96) hx hb dX5_account_88 (by decide) (fun hc => ?_) (fun hc => ?_)
    · have hd := hd.1 hc
      refine lv_aload_n hx hb dX5_account_96 rfl (lv_at hl 0 rfl) ?_
      refine lv_iload_n hx hb dX5_account_97 rfl (lv_at hl 2 rfl) ?_
      refine lv_iload hx hb dX5_account_98 (lv_at hl 3 rfl) ?_
      refine cl_Vi (n := 2) (rest := []) C0 hP hS (c_X5_answer l C0.2.2.1 _ hd) (lwG_V lm_X5_216 li_X5_answer lx_X5_answer lz_RX5 lc_X5_answer) (by decide +kernel) (oR_at h cA _) rfl rfl rfl (Nat.le_of_ble_eq_true rfl) ⟨rfl, rfl⟩ ⟨by decide, by decide⟩ dX5_account_100 hl.1 ⟨Nat.zero_le _, Nat.zero_le _⟩ (fun r_1 S_1 H locs hd hP hS => ?_)
      exact hret _ _ _ _ _ _ hd hP hS dX5_account_103
    · have hd := hd.2 hc
      refine lv_bipush (v := (-9)) hx hb dX5_account_91 (by decide) ?_
      refine lv_goto (tgt := 103) hx hb dX5_account_93 (by decide) ?_
      exact hret _ _ _ _ _ _ hd hP hS dX5_account_103
  · have hd := hd.2 hc
    refine lv_aload_n hx hb dX5_account_51 rfl (lv_at hl 0 rfl) ?_
    refine cl_Vv (n := 0) (rest := []) C0 hP hS (c_X5_layAside l C0.2.2.1 _ hd) (lwG_V lm_X5_213 li_X5_layAside lx_X5_layAside lz_RX5 lc_X5_layAside) (by decide +kernel) (oR_at h cA _) rfl rfl rfl (Nat.le_of_ble_eq_true rfl) ⟨rfl, rfl⟩ ⟨by decide, by decide⟩ dX5_account_52 hl.1 ⟨Nat.zero_le _, Nat.zero_le _⟩ (fun S_2 H locs hd hP hS => ?_)
    refine lv_aload_n hx hb dX5_account_55 rfl (lv_at hl 0 rfl) ?_
    refine gf_X5_38 C0 hP dX5_account_56 ?_
    refine lv_iconst (v := 2) hx hb dX5_account_59 (by decide) ?_
    refine lv_iload hx hb dX5_account_60 (lv_at hl 4 rfl) ?_
    obtain ⟨h_3, hd⟩ := hd
    refine stR (by decide) C0 hP hS h_3 dX5_account_62 (fun H locs hP hS => ?_)
    refine lv_aload_n hx hb dX5_account_63 rfl (lv_at hl 0 rfl) ?_
    refine lv_iload_n hx hb dX5_account_64 rfl (lv_at hl 1 rfl) ?_
    refine cl_Vi (n := 1) (rest := []) C0 hP hS (c_X5_goesAs l C0.2.2.1 _ hd) (lwG_V lm_X5_245 li_X5_goesAs lx_X5_goesAs lz_RX5 lc_X5_goesAs) (by decide +kernel) (oR_at h cA _) rfl rfl rfl (Nat.le_of_ble_eq_true rfl) ⟨rfl, rfl⟩ ⟨by decide, by decide⟩ dX5_account_65 hl.1 ⟨Nat.zero_le _, Nat.zero_le _⟩ (fun r_4 S_4 H locs hd hP hS => ?_)
    refine lv_if_eq (tgt := 81) hx hb dX5_account_68 (by decide) (fun hc => ?_) (fun hc => ?_)
    · have hd := hd.1 hc
      exact bk_X5_account_81 C0 hret k40 hP hS hd (lv_sub hl [0, 1, 2, 3, 4] rfl)
    · have hd := hd.2 hc
      refine lv_iinc (v := x3 + (1 : Int32)) (lv' := [(3, .int (x3 + (1 : Int32))), (0, .ref (h 100)), (1, .int x1), (4, .int x4), (5, .int x5)]) hx hb dX5_account_71 hl (k := 2) rfl rfl (by decide) rfl (fun ls hl => ?_)
      refine lv_iload hx hb dX5_account_74 (lv_at hl 3 rfl) ?_
      refine lv_iload hx hb dX5_account_76 (lv_at hl 4 rfl) ?_
      refine lv_iand hx hb dX5_account_78 ?_
      refine lv_istore (lv' := [(4, .int (x4 &&& x5)), (3, .int (x3 + (1 : Int32))), (0, .ref (h 100)), (1, .int x1), (5, .int x5)]) hx hb dX5_account_79 hl (by decide) rfl (fun ls hl => ?_)
      exact bk_X5_account_81 C0 hret k40 hP hS hd (lv_sub hl [2, 3, 1, 0, 4] rfl)
def wl_X5_account_40 (Q : Int32 → sT → Prop) : Nat → Int32 → Int32 → Int32 → Int32 → sT → Prop
  | 0, _, _, _, _ => fun _ => False
  | n + 1, x1, x3, x4, x5 => fun S => wb_X5_account_40 Q (fun x1 x3 x4 x5 S => wl_X5_account_40 Q n x1 x3 x4 x5 S) x1 x3 x4 x5 S
theorem bl_X5_account_40 {p : Program} {l : Launch} {e : Env} {s : State} {m : MethodId} {args : Array Value} {below : List Frame} {meth : Method} {c : Code} {Z : State → Prop} {D : va_G} {cA : Nat → ClassId} {h : Nat → Nat} {Q : Int32 → sT → Prop} (C0 : cx p s m args c cX5_account 6 RX5 D cA false keysRA h) (hret : rtI p l e rm_X5_account s m args below meth c cX5_account Z D (wR h cA) (aK keysRA h s.heap.size) Q) : ∀ (n : Nat) (x1 : Int32) (x3 : Int32) (x4 : Int32) (x5 : Int32) (S : sT) (H : Heap) (locs : List Loc) (ls : Array Slot), va_P D vwCl (wR h cA S) H → va_S (aK keysRA h s.heap.size) s.heap H locs → wl_X5_account_40 Q n x1 x3 x4 x5 S → lv_has ls 6 [(0, .ref (h 100)), (1, .int x1), (3, .int x3), (4, .int x4), (5, .int x5)] → W p l e rm_X5_account s m args below meth c H locs 0 0 Z (F0 m 40 ls []) := by
  intro n
  induction n with
  | zero => intro x1 x3 x4 x5 S H locs ls hP hS hd hl; exact (show False from hd).elim
  | succ n ih => intro x1 x3 x4 x5 S H locs ls hP hS hd hl; exact bk_X5_account_40 C0 hret (fun x1 x3 x4 x5 S H locs ls hd hP hS hl => ih x1 x3 x4 x5 S H locs ls hP hS hd hl) hP hS hd hl
def wp_X5_account (x1 : Int32) (S : sT) (Q : Int32 → sT → Prop) : Prop :=
  wp_X5_isRow x1 S (fun r_1 S_1 => ((¬ r_1 = 0 → ((¬ (vI S_1 9) = 0 → wp_X5_refusesRow x1 S_1 (fun r_2 S_2 => ((r_2 = 0 → ∃ n : Nat, wl_X5_account_40 Q n x1 (0 : Int32) (63 : Int32) (0 : Int32) S_2) ∧ (¬ r_2 = 0 → Q r_2 S_2)))) ∧ ((vI S_1 9) = 0 → Q (-4 : Int32) S_1))) ∧ (r_1 = 0 → Q (-1 : Int32) S_1)))
set_option maxHeartbeats 4000000 in
set_option maxRecDepth 100000 in
theorem bk_X5_account {p : Program} {l : Launch} {e : Env} {s : State} {m : MethodId} {args : Array Value} {below : List Frame} {meth : Method} {c : Code} {Z : State → Prop} {D : va_G} {cA : Nat → ClassId} {h : Nat → Nat} {Q : Int32 → sT → Prop} (C0 : cx p s m args c cX5_account 6 RX5 D cA false keysRA h) (hret : rtI p l e rm_X5_account s m args below meth c cX5_account Z D (wR h cA) (aK keysRA h s.heap.size) Q) {x1 : Int32} {S : sT} {H : Heap} {locs : List Loc} {ls : Array Slot} (hP : va_P D vwCl (wR h cA S) H) (hS : va_S (aK keysRA h s.heap.size) s.heap H locs) (hd : wp_X5_account x1 S Q) (hl : lv_has ls 6 [(0, .ref (h 100)), (1, .int x1)]) : W p l e rm_X5_account s m args below meth c H locs 0 0 Z (F0 m 0 ls []) := by
  obtain ⟨⟨hx, hb, hml, hown, hts⟩, hK, -, -⟩ := id C0
  unfold wp_X5_account at hd
  refine lv_iload_n hx hb dX5_account_0 rfl (lv_at hl 1 rfl) ?_
  refine cl_Si (n := 1) (rest := []) C0 hP hS (c_X5_isRow l C0.2.2.1 _ hd) (lwG_S lm_X5_83 ls_X5_isRow lz_RX5 lc_X5_isRow) (by decide +kernel) rfl rfl (Nat.le_of_ble_eq_true rfl) ⟨rfl, rfl⟩ ⟨by decide, by decide⟩ dX5_account_1 hl.1 ⟨Nat.zero_le _, Nat.zero_le _⟩ (fun r_1 S_1 H locs hd hP hS => ?_)
  refine lv_if_ne (tgt := 9) hx hb dX5_account_4 (by decide) (fun hc => ?_) (fun hc => ?_)
  · have hd := hd.1 hc
    refine lv_aload_n hx hb dX5_account_9 rfl (lv_at hl 0 rfl) ?_
    refine gf_X5_97 C0 hP dX5_account_10 ?_
    refine lv_if_ne (tgt := 19) hx hb dX5_account_13 (by decide) (fun hc => ?_) (fun hc => ?_)
    · have hd := hd.1 hc
      refine lv_aload_n hx hb dX5_account_19 rfl (lv_at hl 0 rfl) ?_
      refine lv_iload_n hx hb dX5_account_20 rfl (lv_at hl 1 rfl) ?_
      refine cl_Vi (n := 1) (rest := []) C0 hP hS (c_X5_refusesRow l C0.2.2.1 _ hd) (lwG_V lm_X5_242 li_X5_refusesRow lx_X5_refusesRow lz_RX5 lc_X5_refusesRow) (by decide +kernel) (oR_at h cA _) rfl rfl rfl (Nat.le_of_ble_eq_true rfl) ⟨rfl, rfl⟩ ⟨by decide, by decide⟩ dX5_account_21 hl.1 ⟨Nat.zero_le _, Nat.zero_le _⟩ (fun r_2 S_2 H locs hd hP hS => ?_)
      refine lv_istore_n (lv' := [(2, .int r_2), (0, .ref (h 100)), (1, .int x1)]) hx hb dX5_account_24 rfl hl (by decide) rfl (fun ls hl => ?_)
      refine lv_iload_n hx hb dX5_account_25 rfl (lv_at hl 0 rfl) ?_
      refine lv_if_eq (tgt := 31) hx hb dX5_account_26 (by decide) (fun hc => ?_) (fun hc => ?_)
      · have hd := hd.1 hc
        refine lv_iconst (v := 0) hx hb dX5_account_31 (by decide) ?_
        refine lv_istore_n (lv' := [(3, .int (0 : Int32)), (2, .int r_2), (0, .ref (h 100)), (1, .int x1)]) hx hb dX5_account_32 rfl hl (by decide) rfl (fun ls hl => ?_)
        refine lv_bipush (v := 63) hx hb dX5_account_33 (by decide) ?_
        refine lv_istore (lv' := [(4, .int (63 : Int32)), (3, .int (0 : Int32)), (2, .int r_2), (0, .ref (h 100)), (1, .int x1)]) hx hb dX5_account_35 hl (by decide) rfl (fun ls hl => ?_)
        refine lv_iconst (v := 0) hx hb dX5_account_37 (by decide) ?_
        refine lv_istore (lv' := [(5, .int (0 : Int32)), (4, .int (63 : Int32)), (3, .int (0 : Int32)), (2, .int r_2), (0, .ref (h 100)), (1, .int x1)]) hx hb dX5_account_38 hl (by decide) rfl (fun ls hl => ?_)
        obtain ⟨n_3, hd⟩ := hd
        exact bl_X5_account_40 C0 hret _ _ _ _ _ _ _ _ _ hP hS hd (lv_sub hl [4, 5, 2, 1, 0] rfl)
      · have hd := hd.2 hc
        refine lv_iload_n hx hb dX5_account_29 rfl (lv_at hl 0 rfl) ?_
        exact hret _ _ _ _ _ _ hd hP hS dX5_account_30
    · have hd := hd.2 hc
      refine lv_bipush (v := (-4)) hx hb dX5_account_16 (by decide) ?_
      exact hret _ _ _ _ _ _ hd hP hS dX5_account_18
  · have hd := hd.2 hc
    refine lv_iconst (v := (-1)) hx hb dX5_account_7 (by decide) ?_
    exact hret _ _ _ _ _ _ hd hP hS dX5_account_8
theorem c_X5_account (l : Launch) {D : va_G} {cA : Nat → ClassId} {h : Nat → Nat} (hk : ky keysRA h) {x1 : Int32} {S : sT} (sz : Nat) {Q : Int32 → sT → Prop} (hd : wp_X5_account x1 S Q) : Met l yX5_account (wsU yX5_account cX5_account 6 (some .int)) rm_X5_account (va_Pc [.ref (h 100), .int x1] (gP D cA false keysRA h (wR h cA) S sz)) (va_Qi Q (wB D (wR h cA)) (aK keysRA h sz)) 0 0 (aK keysRA h sz) :=
  mk_i (by decide) hk (Nat.le_of_ble_eq_true rfl) (fun p e s m below meth c Z ls C0 hret hP hS hl => bk_X5_account C0 hret hP hS hd hl)
abbrev rm_X5_allWays : Room := { frames := 0, cells := 0, slots := 0, locals := 0 }
def wb_X5_allWays_9 (Q : Int64 → sT → Prop) (K9 : Int64 → Int32 → sT → Prop) (x1 : Int64) (x3 : Int32) (S : sT) : Prop :=
  ((x3 = 0 → Q x1 S) ∧ (¬ x3 = 0 → K9 (x1 * (12 : Int64)) (x3 &&& (x3 - (1 : Int32))) S))
set_option maxHeartbeats 4000000 in
set_option maxRecDepth 100000 in
theorem bk_X5_allWays_9 {p : Program} {l : Launch} {e : Env} {s : State} {m : MethodId} {args : Array Value} {below : List Frame} {meth : Method} {c : Code} {Z : State → Prop} {D : va_G} {cA : Nat → ClassId} {h : Nat → Nat} {Q : Int64 → sT → Prop} (C0 : cx p s m args c cX5_allWays 4 RX5 D cA false keysRA h) (hret : rtL p l e rm_X5_allWays s m args below meth c cX5_allWays Z D (wR h cA) (aK keysRA h s.heap.size) Q) {K9 : Int64 → Int32 → sT → Prop} (k9 : ∀ (x1 : Int64) (x3 : Int32) (S : sT) (H : Heap) (locs : List Loc) (ls : Array Slot), K9 x1 x3 S → va_P D vwCl (wR h cA S) H → va_S (aK keysRA h s.heap.size) s.heap H locs → lv_has ls 4 [(1, .long x1), (3, .int x3)] → W p l e rm_X5_allWays s m args below meth c H locs 0 0 Z (F0 m 9 ls [])) {x1 : Int64} {x3 : Int32} {S : sT} {H : Heap} {locs : List Loc} {ls : Array Slot} (hP : va_P D vwCl (wR h cA S) H) (hS : va_S (aK keysRA h s.heap.size) s.heap H locs) (hd : wb_X5_allWays_9 Q K9 x1 x3 S) (hl : lv_has ls 4 [(1, .long x1), (3, .int x3)]) : W p l e rm_X5_allWays s m args below meth c H locs 0 0 Z (F0 m 9 ls []) := by
  obtain ⟨⟨hx, hb, hml, hown, hts⟩, hK, -, -⟩ := id C0
  unfold wb_X5_allWays_9 at hd
  refine lv_iload_n hx hb dX5_allWays_9 rfl (lv_at hl 1 rfl) ?_
  refine lv_if_eq (tgt := 28) hx hb dX5_allWays_10 (by decide) (fun hc => ?_) (fun hc => ?_)
  · have hd := hd.1 hc
    refine lv_lload_n hx hb dX5_allWays_28 rfl (lv_at hl 0 rfl) ?_
    exact hret _ _ _ _ _ _ hd hP hS dX5_allWays_29
  · have hd := hd.2 hc
    refine lv_lload_n hx hb dX5_allWays_13 rfl (lv_at hl 0 rfl) ?_
    refine lv_ldc2 hx hb hown (hts _ lk_X5_255) dX5_allWays_14 ?_
    refine lv_lmul hx hb dX5_allWays_17 ?_
    refine lv_lstore_n (lv' := [(1, .long (x1 * (12 : Int64))), (3, .int x3)]) hx hb dX5_allWays_18 rfl hl (by decide) rfl (fun ls hl => ?_)
    refine lv_iload_n hx hb dX5_allWays_19 rfl (lv_at hl 1 rfl) ?_
    refine lv_iload_n hx hb dX5_allWays_20 rfl (lv_at hl 1 rfl) ?_
    refine lv_iconst (v := 1) hx hb dX5_allWays_21 (by decide) ?_
    refine lv_isub hx hb dX5_allWays_22 ?_
    refine lv_iand hx hb dX5_allWays_23 ?_
    refine lv_istore_n (lv' := [(3, .int (x3 &&& (x3 - (1 : Int32)))), (1, .long (x1 * (12 : Int64)))]) hx hb dX5_allWays_24 rfl hl (by decide) rfl (fun ls hl => ?_)
    refine lv_goto (tgt := 9) hx hb dX5_allWays_25 (by decide) ?_
    exact k9 _ _ _ _ _ _ hd hP hS (lv_sub hl [1, 0] rfl)
def wl_X5_allWays_9 (Q : Int64 → sT → Prop) : Nat → Int64 → Int32 → sT → Prop
  | 0, _, _ => fun _ => False
  | n + 1, x1, x3 => fun S => wb_X5_allWays_9 Q (fun x1 x3 S => wl_X5_allWays_9 Q n x1 x3 S) x1 x3 S
theorem bl_X5_allWays_9 {p : Program} {l : Launch} {e : Env} {s : State} {m : MethodId} {args : Array Value} {below : List Frame} {meth : Method} {c : Code} {Z : State → Prop} {D : va_G} {cA : Nat → ClassId} {h : Nat → Nat} {Q : Int64 → sT → Prop} (C0 : cx p s m args c cX5_allWays 4 RX5 D cA false keysRA h) (hret : rtL p l e rm_X5_allWays s m args below meth c cX5_allWays Z D (wR h cA) (aK keysRA h s.heap.size) Q) : ∀ (n : Nat) (x1 : Int64) (x3 : Int32) (S : sT) (H : Heap) (locs : List Loc) (ls : Array Slot), va_P D vwCl (wR h cA S) H → va_S (aK keysRA h s.heap.size) s.heap H locs → wl_X5_allWays_9 Q n x1 x3 S → lv_has ls 4 [(1, .long x1), (3, .int x3)] → W p l e rm_X5_allWays s m args below meth c H locs 0 0 Z (F0 m 9 ls []) := by
  intro n
  induction n with
  | zero => intro x1 x3 S H locs ls hP hS hd hl; exact (show False from hd).elim
  | succ n ih => intro x1 x3 S H locs ls hP hS hd hl; exact bk_X5_allWays_9 C0 hret (fun x1 x3 S H locs ls hd hP hS hl => ih x1 x3 S H locs ls hP hS hd hl) hP hS hd hl
def wp_X5_allWays (S : sT) (Q : Int64 → sT → Prop) : Prop :=
  (vp_in (2 : Int32) 9) ∧ ∃ n : Nat, wl_X5_allWays_9 Q n (1 : Int64) (vA S 14 (2 : Int32).toNatClampNeg) S
set_option maxHeartbeats 4000000 in
set_option maxRecDepth 100000 in
theorem bk_X5_allWays {p : Program} {l : Launch} {e : Env} {s : State} {m : MethodId} {args : Array Value} {below : List Frame} {meth : Method} {c : Code} {Z : State → Prop} {D : va_G} {cA : Nat → ClassId} {h : Nat → Nat} {Q : Int64 → sT → Prop} (C0 : cx p s m args c cX5_allWays 4 RX5 D cA false keysRA h) (hret : rtL p l e rm_X5_allWays s m args below meth c cX5_allWays Z D (wR h cA) (aK keysRA h s.heap.size) Q) {S : sT} {H : Heap} {locs : List Loc} {ls : Array Slot} (hP : va_P D vwCl (wR h cA S) H) (hS : va_S (aK keysRA h s.heap.size) s.heap H locs) (hd : wp_X5_allWays S Q) (hl : lv_has ls 4 [(0, .ref (h 100))]) : W p l e rm_X5_allWays s m args below meth c H locs 0 0 Z (F0 m 0 ls []) := by
  obtain ⟨⟨hx, hb, hml, hown, hts⟩, hK, -, -⟩ := id C0
  unfold wp_X5_allWays at hd
  refine lv_lconst (v := 1) hx hb dX5_allWays_0 (by decide) ?_
  refine lv_lstore_n (lv' := [(1, .long (1 : Int64)), (0, .ref (h 100))]) hx hb dX5_allWays_1 rfl hl (by decide) rfl (fun ls hl => ?_)
  refine lv_aload_n hx hb dX5_allWays_2 rfl (lv_at hl 1 rfl) ?_
  refine gf_X5_35 C0 hP dX5_allWays_3 ?_
  refine lv_iconst (v := 2) hx hb dX5_allWays_6 (by decide) ?_
  obtain ⟨h_1, hd⟩ := hd
  refine ldR (by decide) C0 hP h_1 dX5_allWays_7 ?_
  refine lv_istore_n (lv' := [(3, .int (vA S 14 (2 : Int32).toNatClampNeg)), (1, .long (1 : Int64)), (0, .ref (h 100))]) hx hb dX5_allWays_8 rfl hl (by decide) rfl (fun ls hl => ?_)
  obtain ⟨n_2, hd⟩ := hd
  exact bl_X5_allWays_9 C0 hret _ _ _ _ _ _ _ hP hS hd (lv_sub hl [1, 0] rfl)
theorem c_X5_allWays (l : Launch) {D : va_G} {cA : Nat → ClassId} {h : Nat → Nat} (hk : ky keysRA h) {S : sT} (sz : Nat) {Q : Int64 → sT → Prop} (hd : wp_X5_allWays S Q) : Met l yX5_allWays (wsU yX5_allWays cX5_allWays 4 (some .long)) rm_X5_allWays (va_Pc [.ref (h 100)] (gP D cA false keysRA h (wR h cA) S sz)) (va_Ql Q (wB D (wR h cA)) (aK keysRA h sz)) 0 0 (aK keysRA h sz) :=
  mk_l (by decide) hk (Nat.le_of_ble_eq_true rfl) (fun p e s m below meth c Z ls C0 hret hP hS hl => bk_X5_allWays C0 hret hP hS hd hl)
abbrev rm_X5_here : Room := { frames := 0, cells := 0, slots := 0, locals := 0 }
def wp_X5_here (S : sT) (Q : Int32 → sT → Prop) : Prop :=
  (((vI S 20) ≤ (vI S 19) → Q (-1 : Int32) S) ∧ (¬ (vI S 20) ≤ (vI S 19) → (vp_in (((60 : Int32) * (vI S 21)) + (vI S 19)) 240) ∧ Q (vA S 2 (((60 : Int32) * (vI S 21)) + (vI S 19)).toNatClampNeg) S))
set_option maxHeartbeats 4000000 in
set_option maxRecDepth 100000 in
theorem bk_X5_here {p : Program} {l : Launch} {e : Env} {s : State} {m : MethodId} {args : Array Value} {below : List Frame} {meth : Method} {c : Code} {Z : State → Prop} {D : va_G} {cA : Nat → ClassId} {h : Nat → Nat} {Q : Int32 → sT → Prop} (C0 : cx p s m args c cX5_here 1 RX5 D cA false keysRA h) (hret : rtI p l e rm_X5_here s m args below meth c cX5_here Z D (wR h cA) (aK keysRA h s.heap.size) Q) {S : sT} {H : Heap} {locs : List Loc} {ls : Array Slot} (hP : va_P D vwCl (wR h cA S) H) (hS : va_S (aK keysRA h s.heap.size) s.heap H locs) (hd : wp_X5_here S Q) (hl : lv_has ls 1 [(0, .ref (h 100))]) : W p l e rm_X5_here s m args below meth c H locs 0 0 Z (F0 m 0 ls []) := by
  obtain ⟨⟨hx, hb, hml, hown, hts⟩, hK, -, -⟩ := id C0
  unfold wp_X5_here at hd
  refine lv_aload_n hx hb dX5_here_0 rfl (lv_at hl 0 rfl) ?_
  refine gf_X5_103 C0 hP dX5_here_1 ?_
  refine lv_aload_n hx hb dX5_here_4 rfl (lv_at hl 0 rfl) ?_
  refine gf_X5_106 C0 hP dX5_here_5 ?_
  refine lv_icmp_ge (tgt := 31) hx hb dX5_here_8 (by decide) (fun hc => ?_) (fun hc => ?_)
  · have hd := hd.1 hc
    refine lv_iconst (v := (-1)) hx hb dX5_here_31 (by decide) ?_
    exact hret _ _ _ _ _ _ hd hP hS dX5_here_32
  · have hd := hd.2 hc
    refine lv_aload_n hx hb dX5_here_11 rfl (lv_at hl 0 rfl) ?_
    refine gf_X5_16 C0 hP dX5_here_12 ?_
    refine lv_bipush (v := 60) hx hb dX5_here_15 (by decide) ?_
    refine lv_aload_n hx hb dX5_here_17 rfl (lv_at hl 0 rfl) ?_
    refine gf_X5_109 C0 hP dX5_here_18 ?_
    refine lv_imul hx hb dX5_here_21 ?_
    refine lv_aload_n hx hb dX5_here_22 rfl (lv_at hl 0 rfl) ?_
    refine gf_X5_103 C0 hP dX5_here_23 ?_
    refine lv_iadd hx hb dX5_here_26 ?_
    obtain ⟨h_1, hd⟩ := hd
    refine ldR (by decide) C0 hP h_1 dX5_here_27 ?_
    refine lv_goto (tgt := 32) hx hb dX5_here_28 (by decide) ?_
    exact hret _ _ _ _ _ _ hd hP hS dX5_here_32
theorem c_X5_here (l : Launch) {D : va_G} {cA : Nat → ClassId} {h : Nat → Nat} (hk : ky keysRA h) {S : sT} (sz : Nat) {Q : Int32 → sT → Prop} (hd : wp_X5_here S Q) : Met l yX5_here (wsU yX5_here cX5_here 1 (some .int)) rm_X5_here (va_Pc [.ref (h 100)] (gP D cA false keysRA h (wR h cA) S sz)) (va_Qi Q (wB D (wR h cA)) (aK keysRA h sz)) 0 0 (aK keysRA h sz) :=
  mk_i (by decide) hk (Nat.le_of_ble_eq_true rfl) (fun p e s m below meth c Z ls C0 hret hP hS hl => bk_X5_here C0 hret hP hS hd hl)
abbrev rm_X5_isFigure : Room := { frames := 1, cells := 0, slots := 0, locals := 25 }
def wp_X5_isFigure (S : sT) (Q : Int32 → sT → Prop) : Prop :=
  wp_X5_here S (fun r_1 S_1 => wp_X5_in r_1.toInt64 (48 : Int64) (57 : Int64) S_1 (fun r_2 S_2 => ((¬ r_2 = 0 → wp_X5_here S_2 (fun r_3 S_3 => Q (1 : Int32) (uI (uI S_3 22 (r_3 - (48 : Int32))) 19 ((vI (uI S_3 22 (r_3 - (48 : Int32))) 19) + (1 : Int32))))) ∧ (r_2 = 0 → Q (0 : Int32) S_2))))
set_option maxHeartbeats 4000000 in
set_option maxRecDepth 100000 in
theorem bk_X5_isFigure {p : Program} {l : Launch} {e : Env} {s : State} {m : MethodId} {args : Array Value} {below : List Frame} {meth : Method} {c : Code} {Z : State → Prop} {D : va_G} {cA : Nat → ClassId} {h : Nat → Nat} {Q : Int32 → sT → Prop} (C0 : cx p s m args c cX5_isFigure 1 RX5 D cA false keysRA h) (hret : rtZ p l e rm_X5_isFigure s m args below meth c cX5_isFigure Z D (wR h cA) (aK keysRA h s.heap.size) Q) {S : sT} {H : Heap} {locs : List Loc} {ls : Array Slot} (hP : va_P D vwCl (wR h cA S) H) (hS : va_S (aK keysRA h s.heap.size) s.heap H locs) (hd : wp_X5_isFigure S Q) (hl : lv_has ls 1 [(0, .ref (h 100))]) : W p l e rm_X5_isFigure s m args below meth c H locs 0 0 Z (F0 m 0 ls []) := by
  obtain ⟨⟨hx, hb, hml, hown, hts⟩, hK, -, -⟩ := id C0
  unfold wp_X5_isFigure at hd
  refine lv_aload_n hx hb dX5_isFigure_0 rfl (lv_at hl 0 rfl) ?_
  refine cl_Vi (n := 0) (rest := []) C0 hP hS (c_X5_here l C0.2.2.1 _ hd) (lwG_V lm_X5_112 li_X5_here lx_X5_here lz_RX5 lc_X5_here) (by decide +kernel) (oR_at h cA _) rfl rfl rfl (Nat.le_of_ble_eq_true rfl) ⟨rfl, rfl⟩ ⟨by decide, by decide⟩ dX5_isFigure_1 hl.1 ⟨Nat.zero_le _, Nat.zero_le _⟩ (fun r_1 S_1 H locs hd hP hS => ?_)
  refine lv_i2l hx hb dX5_isFigure_4 rfl ?_
  refine lv_ldc2 hx hb hown (hts _ lk_X5_116) dX5_isFigure_5 ?_
  refine lv_ldc2 hx hb hown (hts _ lk_X5_118) dX5_isFigure_8 ?_
  refine cl_Si (n := 3) (rest := []) C0 hP hS (c_X5_in l C0.2.2.1 _ hd) (lwG_S lm_X5_77 ls_X5_in lz_RX5 lc_X5_in) (by decide +kernel) rfl rfl (Nat.le_of_ble_eq_true rfl) ⟨rfl, rfl⟩ ⟨by decide, by decide⟩ dX5_isFigure_11 hl.1 ⟨Nat.zero_le _, Nat.zero_le _⟩ (fun r_2 S_2 H locs hd hP hS => ?_)
  refine lv_if_ne (tgt := 19) hx hb dX5_isFigure_14 (by decide) (fun hc => ?_) (fun hc => ?_)
  · have hd := hd.1 hc
    refine lv_aload_n hx hb dX5_isFigure_19 rfl (lv_at hl 0 rfl) ?_
    refine lv_aload_n hx hb dX5_isFigure_20 rfl (lv_at hl 0 rfl) ?_
    refine cl_Vi (n := 0) (rest := [.ref (h 100)]) C0 hP hS (c_X5_here l C0.2.2.1 _ hd) (lwG_V lm_X5_112 li_X5_here lx_X5_here lz_RX5 lc_X5_here) (by decide +kernel) (oR_at h cA _) rfl rfl rfl (Nat.le_of_ble_eq_true rfl) ⟨rfl, rfl⟩ ⟨by decide, by decide⟩ dX5_isFigure_21 hl.1 ⟨Nat.zero_le _, Nat.zero_le _⟩ (fun r_3 S_3 H locs hd hP hS => ?_)
    refine lv_bipush (v := 48) hx hb dX5_isFigure_24 (by decide) ?_
    refine lv_isub hx hb dX5_isFigure_26 ?_
    refine pf_X5_120 C0 hP hS dX5_isFigure_27 (fun H locs hP hS => ?_)
    refine lv_aload_n hx hb dX5_isFigure_30 rfl (lv_at hl 0 rfl) ?_
    refine lv_dup hx hb dX5_isFigure_31 rfl ?_
    refine gf_X5_103 C0 hP dX5_isFigure_32 ?_
    refine lv_iconst (v := 1) hx hb dX5_isFigure_35 (by decide) ?_
    refine lv_iadd hx hb dX5_isFigure_36 ?_
    refine pf_X5_103 C0 hP hS dX5_isFigure_37 (fun H locs hP hS => ?_)
    refine lv_iconst (v := 1) hx hb dX5_isFigure_40 (by decide) ?_
    exact hret _ _ _ _ _ _ rfl hd hP hS dX5_isFigure_41
  · have hd := hd.2 hc
    refine lv_iconst (v := 0) hx hb dX5_isFigure_17 (by decide) ?_
    exact hret _ _ _ _ _ _ rfl hd hP hS dX5_isFigure_18
theorem c_X5_isFigure (l : Launch) {D : va_G} {cA : Nat → ClassId} {h : Nat → Nat} (hk : ky keysRA h) {S : sT} (sz : Nat) {Q : Int32 → sT → Prop} (hd : wp_X5_isFigure S Q) : Met l yX5_isFigure (wsU yX5_isFigure cX5_isFigure 1 (some .boolean)) rm_X5_isFigure (va_Pc [.ref (h 100)] (gP D cA false keysRA h (wR h cA) S sz)) (va_Qi Q (wB D (wR h cA)) (aK keysRA h sz)) 0 0 (aK keysRA h sz) :=
  mk_z (by decide) hk (Nat.le_of_ble_eq_true rfl) (fun p e s m below meth c Z ls C0 hret hP hS hl => bk_X5_isFigure C0 hret hP hS hd hl)
abbrev rm_X5_areFigures : Room := { frames := 2, cells := 0, slots := 0, locals := 45 }
def wb_X5_areFigures_67 (Q : Int32 → sT → Prop) (x1 : Int32) (x2 : Int32) (y1 : Int32) (S : sT) : Prop :=
  wp_X5_in ((vI (uI S 19 y1) 22).toInt64) x1.toInt64 x2.toInt64 (uI S 19 y1) (fun r_1 S_1 => bo r_1 ∧ Q r_1 S_1)
set_option maxHeartbeats 4000000 in
set_option maxRecDepth 100000 in
theorem bk_X5_areFigures_67 {p : Program} {l : Launch} {e : Env} {s : State} {m : MethodId} {args : Array Value} {below : List Frame} {meth : Method} {c : Code} {Z : State → Prop} {D : va_G} {cA : Nat → ClassId} {h : Nat → Nat} {Q : Int32 → sT → Prop} (C0 : cx p s m args c cX5_areFigures 5 RX5 D cA false keysRA h) (hret : rtZ p l e rm_X5_areFigures s m args below meth c cX5_areFigures Z D (wR h cA) (aK keysRA h s.heap.size) Q) {x1 : Int32} {x2 : Int32} {y1 : Int32} {S : sT} {H : Heap} {locs : List Loc} {ls : Array Slot} (hP : va_P D vwCl (wR h cA S) H) (hS : va_S (aK keysRA h s.heap.size) s.heap H locs) (hd : wb_X5_areFigures_67 Q x1 x2 y1 S) (hl : lv_has ls 5 [(0, .ref (h 100)), (1, .int x1), (2, .int x2)]) : W p l e rm_X5_areFigures s m args below meth c H locs 0 0 Z (F0 m 67 ls [.int y1, .ref (h 100)]) := by
  obtain ⟨⟨hx, hb, hml, hown, hts⟩, hK, -, -⟩ := id C0
  unfold wb_X5_areFigures_67 at hd
  refine pf_X5_103 C0 hP hS dX5_areFigures_67 (fun H locs hP hS => ?_)
  refine lv_aload_n hx hb dX5_areFigures_70 rfl (lv_at hl 0 rfl) ?_
  refine gf_X5_120 C0 hP dX5_areFigures_71 ?_
  refine lv_i2l hx hb dX5_areFigures_74 rfl ?_
  refine lv_iload_n hx hb dX5_areFigures_75 rfl (lv_at hl 1 rfl) ?_
  refine lv_i2l hx hb dX5_areFigures_76 rfl ?_
  refine lv_iload_n hx hb dX5_areFigures_77 rfl (lv_at hl 2 rfl) ?_
  refine lv_i2l hx hb dX5_areFigures_78 rfl ?_
  refine cl_Si (n := 3) (rest := []) C0 hP hS (c_X5_in l C0.2.2.1 _ hd) (lwG_S lm_X5_77 ls_X5_in lz_RX5 lc_X5_in) (by decide +kernel) rfl rfl (Nat.le_of_ble_eq_true rfl) ⟨rfl, rfl⟩ ⟨by decide, by decide⟩ dX5_areFigures_79 hl.1 ⟨Nat.zero_le _, Nat.zero_le _⟩ (fun r_1 S_1 H locs hd hP hS => ?_)
  exact hret _ _ _ _ _ _ hd.1 hd.2 hP hS dX5_areFigures_82
def wp_X5_areFigures (x1 : Int32) (x2 : Int32) (S : sT) (Q : Int32 → sT → Prop) : Prop :=
  wp_X5_isFigure S (fun r_1 S_1 => ((¬ r_1 = 0 → wp_X5_isFigure S_1 (fun r_2 S_2 => ((¬ r_2 = 0 → wp_X5_in ((vI (uI S_2 22 ((vI S_2 22) + ((10 : Int32) * (vI S_1 22)))) 22).toInt64) x1.toInt64 x2.toInt64 (uI S_2 22 ((vI S_2 22) + ((10 : Int32) * (vI S_1 22)))) (fun r_3 S_3 => ((r_3 = 0 → wb_X5_areFigures_67 Q x1 x2 (vI S 19) S_3) ∧ (¬ r_3 = 0 → wb_X5_areFigures_67 Q x1 x2 (vI S_3 19) S_3)))) ∧ (r_2 = 0 → Q (0 : Int32) S_2)))) ∧ (r_1 = 0 → Q (0 : Int32) S_1)))
set_option maxHeartbeats 4000000 in
set_option maxRecDepth 100000 in
theorem bk_X5_areFigures {p : Program} {l : Launch} {e : Env} {s : State} {m : MethodId} {args : Array Value} {below : List Frame} {meth : Method} {c : Code} {Z : State → Prop} {D : va_G} {cA : Nat → ClassId} {h : Nat → Nat} {Q : Int32 → sT → Prop} (C0 : cx p s m args c cX5_areFigures 5 RX5 D cA false keysRA h) (hret : rtZ p l e rm_X5_areFigures s m args below meth c cX5_areFigures Z D (wR h cA) (aK keysRA h s.heap.size) Q) {x1 : Int32} {x2 : Int32} {S : sT} {H : Heap} {locs : List Loc} {ls : Array Slot} (hP : va_P D vwCl (wR h cA S) H) (hS : va_S (aK keysRA h s.heap.size) s.heap H locs) (hd : wp_X5_areFigures x1 x2 S Q) (hl : lv_has ls 5 [(0, .ref (h 100)), (1, .int x1), (2, .int x2)]) : W p l e rm_X5_areFigures s m args below meth c H locs 0 0 Z (F0 m 0 ls []) := by
  obtain ⟨⟨hx, hb, hml, hown, hts⟩, hK, -, -⟩ := id C0
  unfold wp_X5_areFigures at hd
  refine lv_aload_n hx hb dX5_areFigures_0 rfl (lv_at hl 0 rfl) ?_
  refine gf_X5_103 C0 hP dX5_areFigures_1 ?_
  refine lv_istore_n (lv' := [(3, .int (vI S 19)), (0, .ref (h 100)), (1, .int x1), (2, .int x2)]) hx hb dX5_areFigures_4 rfl hl (by decide) rfl (fun ls hl => ?_)
  refine lv_aload_n hx hb dX5_areFigures_5 rfl (lv_at hl 1 rfl) ?_
  refine cl_Vi (n := 0) (rest := []) C0 hP hS (c_X5_isFigure l C0.2.2.1 _ hd) (lwG_V lm_X5_123 li_X5_isFigure lx_X5_isFigure lz_RX5 lc_X5_isFigure) (by decide +kernel) (oR_at h cA _) rfl rfl rfl (Nat.le_of_ble_eq_true rfl) ⟨rfl, rfl⟩ ⟨by decide, by decide⟩ dX5_areFigures_6 hl.1 ⟨Nat.zero_le _, Nat.zero_le _⟩ (fun r_1 S_1 H locs hd hP hS => ?_)
  refine lv_if_ne (tgt := 14) hx hb dX5_areFigures_9 (by decide) (fun hc => ?_) (fun hc => ?_)
  · have hd := hd.1 hc
    refine lv_aload_n hx hb dX5_areFigures_14 rfl (lv_at hl 1 rfl) ?_
    refine gf_X5_120 C0 hP dX5_areFigures_15 ?_
    refine lv_istore (lv' := [(4, .int (vI S_1 22)), (3, .int (vI S 19)), (0, .ref (h 100)), (1, .int x1), (2, .int x2)]) hx hb dX5_areFigures_18 hl (by decide) rfl (fun ls hl => ?_)
    refine lv_aload_n hx hb dX5_areFigures_20 rfl (lv_at hl 2 rfl) ?_
    refine cl_Vi (n := 0) (rest := []) C0 hP hS (c_X5_isFigure l C0.2.2.1 _ hd) (lwG_V lm_X5_123 li_X5_isFigure lx_X5_isFigure lz_RX5 lc_X5_isFigure) (by decide +kernel) (oR_at h cA _) rfl rfl rfl (Nat.le_of_ble_eq_true rfl) ⟨rfl, rfl⟩ ⟨by decide, by decide⟩ dX5_areFigures_21 hl.1 ⟨Nat.zero_le _, Nat.zero_le _⟩ (fun r_2 S_2 H locs hd hP hS => ?_)
    refine lv_if_ne (tgt := 29) hx hb dX5_areFigures_24 (by decide) (fun hc => ?_) (fun hc => ?_)
    · have hd := hd.1 hc
      refine lv_aload_n hx hb dX5_areFigures_29 rfl (lv_at hl 2 rfl) ?_
      refine lv_dup hx hb dX5_areFigures_30 rfl ?_
      refine gf_X5_120 C0 hP dX5_areFigures_31 ?_
      refine lv_bipush (v := 10) hx hb dX5_areFigures_34 (by decide) ?_
      refine lv_iload hx hb dX5_areFigures_36 (lv_at hl 0 rfl) ?_
      refine lv_imul hx hb dX5_areFigures_38 ?_
      refine lv_iadd hx hb dX5_areFigures_39 ?_
      refine pf_X5_120 C0 hP hS dX5_areFigures_40 (fun H locs hP hS => ?_)
      refine lv_aload_n hx hb dX5_areFigures_43 rfl (lv_at hl 2 rfl) ?_
      refine lv_aload_n hx hb dX5_areFigures_44 rfl (lv_at hl 2 rfl) ?_
      refine gf_X5_120 C0 hP dX5_areFigures_45 ?_
      refine lv_i2l hx hb dX5_areFigures_48 rfl ?_
      refine lv_iload_n hx hb dX5_areFigures_49 rfl (lv_at hl 3 rfl) ?_
      refine lv_i2l hx hb dX5_areFigures_50 rfl ?_
      refine lv_iload_n hx hb dX5_areFigures_51 rfl (lv_at hl 4 rfl) ?_
      refine lv_i2l hx hb dX5_areFigures_52 rfl ?_
      refine cl_Si (n := 3) (rest := [.ref (h 100)]) C0 hP hS (c_X5_in l C0.2.2.1 _ hd) (lwG_S lm_X5_77 ls_X5_in lz_RX5 lc_X5_in) (by decide +kernel) rfl rfl (Nat.le_of_ble_eq_true rfl) ⟨rfl, rfl⟩ ⟨by decide, by decide⟩ dX5_areFigures_53 hl.1 ⟨Nat.zero_le _, Nat.zero_le _⟩ (fun r_3 S_3 H locs hd hP hS => ?_)
      refine lv_if_eq (tgt := 66) hx hb dX5_areFigures_56 (by decide) (fun hc => ?_) (fun hc => ?_)
      · have hd := hd.1 hc
        refine lv_iload_n hx hb dX5_areFigures_66 rfl (lv_at hl 1 rfl) ?_
        exact bk_X5_areFigures_67 C0 hret hP hS hd (lv_sub hl [2, 3, 4] rfl)
      · have hd := hd.2 hc
        refine lv_aload_n hx hb dX5_areFigures_59 rfl (lv_at hl 2 rfl) ?_
        refine gf_X5_103 C0 hP dX5_areFigures_60 ?_
        refine lv_goto (tgt := 67) hx hb dX5_areFigures_63 (by decide) ?_
        exact bk_X5_areFigures_67 C0 hret hP hS hd (lv_sub hl [2, 3, 4] rfl)
    · have hd := hd.2 hc
      refine lv_iconst (v := 0) hx hb dX5_areFigures_27 (by decide) ?_
      exact hret _ _ _ _ _ _ rfl hd hP hS dX5_areFigures_28
  · have hd := hd.2 hc
    refine lv_iconst (v := 0) hx hb dX5_areFigures_12 (by decide) ?_
    exact hret _ _ _ _ _ _ rfl hd hP hS dX5_areFigures_13
theorem c_X5_areFigures (l : Launch) {D : va_G} {cA : Nat → ClassId} {h : Nat → Nat} (hk : ky keysRA h) {x1 : Int32} {x2 : Int32} {S : sT} (sz : Nat) {Q : Int32 → sT → Prop} (hd : wp_X5_areFigures x1 x2 S Q) : Met l yX5_areFigures (wsU yX5_areFigures cX5_areFigures 5 (some .boolean)) rm_X5_areFigures (va_Pc [.ref (h 100), .int x1, .int x2] (gP D cA false keysRA h (wR h cA) S sz)) (va_Qi Q (wB D (wR h cA)) (aK keysRA h sz)) 0 0 (aK keysRA h sz) :=
  mk_z (by decide) hk (Nat.le_of_ble_eq_true rfl) (fun p e s m below meth c Z ls C0 hret hP hS hl => bk_X5_areFigures C0 hret hP hS hd hl)
abbrev rm_X5_asked : Room := { frames := 0, cells := 0, slots := 0, locals := 0 }
def wp_X5_asked (S : sT) (Q : Int32 → sT → Prop) : Prop :=
  Q (vI S 4) S
set_option maxHeartbeats 4000000 in
set_option maxRecDepth 100000 in
theorem bk_X5_asked {p : Program} {l : Launch} {e : Env} {s : State} {m : MethodId} {args : Array Value} {below : List Frame} {meth : Method} {c : Code} {Z : State → Prop} {D : va_G} {cA : Nat → ClassId} {h : Nat → Nat} {Q : Int32 → sT → Prop} (C0 : cx p s m args c cX5_asked 1 RX5 D cA false keysRA h) (hret : rtI p l e rm_X5_asked s m args below meth c cX5_asked Z D (wR h cA) (aK keysRA h s.heap.size) Q) {S : sT} {H : Heap} {locs : List Loc} {ls : Array Slot} (hP : va_P D vwCl (wR h cA S) H) (hS : va_S (aK keysRA h s.heap.size) s.heap H locs) (hd : wp_X5_asked S Q) (hl : lv_has ls 1 [(0, .ref (h 100))]) : W p l e rm_X5_asked s m args below meth c H locs 0 0 Z (F0 m 0 ls []) := by
  obtain ⟨⟨hx, hb, hml, hown, hts⟩, hK, -, -⟩ := id C0
  unfold wp_X5_asked at hd
  refine lv_aload_n hx hb dX5_asked_0 rfl (lv_at hl 0 rfl) ?_
  refine gf_X5_72 C0 hP dX5_asked_1 ?_
  exact hret _ _ _ _ _ _ hd hP hS dX5_asked_4
theorem c_X5_asked (l : Launch) {D : va_G} {cA : Nat → ClassId} {h : Nat → Nat} (hk : ky keysRA h) {S : sT} (sz : Nat) {Q : Int32 → sT → Prop} (hd : wp_X5_asked S Q) : Met l yX5_asked (wsU yX5_asked cX5_asked 1 (some .int)) rm_X5_asked (va_Pc [.ref (h 100)] (gP D cA false keysRA h (wR h cA) S sz)) (va_Qi Q (wB D (wR h cA)) (aK keysRA h sz)) 0 0 (aK keysRA h sz) :=
  mk_i (by decide) hk (Nat.le_of_ble_eq_true rfl) (fun p e s m below meth c Z ls C0 hret hP hS hl => bk_X5_asked C0 hret hP hS hd hl)
abbrev rm_X5_tell : Room := { frames := 0, cells := 0, slots := 0, locals := 0 }
def wp_X5_tell (x1 : Int32) (S : sT) (Q : Int32 → sT → Prop) : Prop :=
  Q (1 : Int32) (uI S 4 x1)
set_option maxHeartbeats 4000000 in
set_option maxRecDepth 100000 in
theorem bk_X5_tell {p : Program} {l : Launch} {e : Env} {s : State} {m : MethodId} {args : Array Value} {below : List Frame} {meth : Method} {c : Code} {Z : State → Prop} {D : va_G} {cA : Nat → ClassId} {h : Nat → Nat} {Q : Int32 → sT → Prop} (C0 : cx p s m args c cX5_tell 2 RX5 D cA false keysRA h) (hret : rtI p l e rm_X5_tell s m args below meth c cX5_tell Z D (wR h cA) (aK keysRA h s.heap.size) Q) {x1 : Int32} {S : sT} {H : Heap} {locs : List Loc} {ls : Array Slot} (hP : va_P D vwCl (wR h cA S) H) (hS : va_S (aK keysRA h s.heap.size) s.heap H locs) (hd : wp_X5_tell x1 S Q) (hl : lv_has ls 2 [(0, .ref (h 100)), (1, .int x1)]) : W p l e rm_X5_tell s m args below meth c H locs 0 0 Z (F0 m 0 ls []) := by
  obtain ⟨⟨hx, hb, hml, hown, hts⟩, hK, -, -⟩ := id C0
  unfold wp_X5_tell at hd
  refine lv_aload_n hx hb dX5_tell_0 rfl (lv_at hl 0 rfl) ?_
  refine lv_iload_n hx hb dX5_tell_1 rfl (lv_at hl 1 rfl) ?_
  refine pf_X5_72 C0 hP hS dX5_tell_2 (fun H locs hP hS => ?_)
  refine lv_iconst (v := 1) hx hb dX5_tell_5 (by decide) ?_
  exact hret _ _ _ _ _ _ hd hP hS dX5_tell_6
theorem c_X5_tell (l : Launch) {D : va_G} {cA : Nat → ClassId} {h : Nat → Nat} (hk : ky keysRA h) {x1 : Int32} {S : sT} (sz : Nat) {Q : Int32 → sT → Prop} (hd : wp_X5_tell x1 S Q) : Met l yX5_tell (wsU yX5_tell cX5_tell 2 (some .int)) rm_X5_tell (va_Pc [.ref (h 100), .int x1] (gP D cA false keysRA h (wR h cA) S sz)) (va_Qi Q (wB D (wR h cA)) (aK keysRA h sz)) 0 0 (aK keysRA h sz) :=
  mk_i (by decide) hk (Nat.le_of_ble_eq_true rfl) (fun p e s m below meth c Z ls C0 hret hP hS hl => bk_X5_tell C0 hret hP hS hd hl)
abbrev rm_X5_at : Room := { frames := 2, cells := 0, slots := 0, locals := 45 }
def wp_X5_at (x1 : Int32) (x2 : Int32) (S : sT) (Q : Int32 → sT → Prop) : Prop :=
  wp_X5_isRow x1 S (fun r_1 S_1 => ((¬ r_1 = 0 → (vp_in x1 6) ∧ ((0 ≤ (vA S_1 1 x1.toNatClampNeg) → (vp_in x1 6) ∧ wp_X5_in x2.toInt64 (0 : Int64) (((vA S_1 1 x1.toNatClampNeg) - (1 : Int32)).toInt64) S_1 (fun r_4 S_4 => ((r_4 = 0 → wp_X5_found (2 : Int32) S_4 (fun r_5 S_5 => Q r_5 S_5)) ∧ (¬ r_4 = 0 → (vp_in (((40 : Int32) * x1) + x2) 240) ∧ wp_X5_tell (vA S_4 0 (((40 : Int32) * x1) + x2).toNatClampNeg) S_4 (fun r_7 S_7 => Q r_7 S_7))))) ∧ (¬ 0 ≤ (vA S_1 1 x1.toNatClampNeg) → wp_X5_found (1 : Int32) S_1 (fun r_8 S_8 => Q r_8 S_8)))) ∧ (r_1 = 0 → Q (-1 : Int32) S_1)))
set_option maxHeartbeats 4000000 in
set_option maxRecDepth 100000 in
theorem bk_X5_at {p : Program} {l : Launch} {e : Env} {s : State} {m : MethodId} {args : Array Value} {below : List Frame} {meth : Method} {c : Code} {Z : State → Prop} {D : va_G} {cA : Nat → ClassId} {h : Nat → Nat} {Q : Int32 → sT → Prop} (C0 : cx p s m args c cX5_at 3 RX5 D cA false keysRA h) (hret : rtI p l e rm_X5_at s m args below meth c cX5_at Z D (wR h cA) (aK keysRA h s.heap.size) Q) {x1 : Int32} {x2 : Int32} {S : sT} {H : Heap} {locs : List Loc} {ls : Array Slot} (hP : va_P D vwCl (wR h cA S) H) (hS : va_S (aK keysRA h s.heap.size) s.heap H locs) (hd : wp_X5_at x1 x2 S Q) (hl : lv_has ls 3 [(0, .ref (h 100)), (1, .int x1), (2, .int x2)]) : W p l e rm_X5_at s m args below meth c H locs 0 0 Z (F0 m 0 ls []) := by
  obtain ⟨⟨hx, hb, hml, hown, hts⟩, hK, -, -⟩ := id C0
  unfold wp_X5_at at hd
  refine lv_iload_n hx hb dX5_at_0 rfl (lv_at hl 1 rfl) ?_
  refine cl_Si (n := 1) (rest := []) C0 hP hS (c_X5_isRow l C0.2.2.1 _ hd) (lwG_S lm_X5_83 ls_X5_isRow lz_RX5 lc_X5_isRow) (by decide +kernel) rfl rfl (Nat.le_of_ble_eq_true rfl) ⟨rfl, rfl⟩ ⟨by decide, by decide⟩ dX5_at_1 hl.1 ⟨Nat.zero_le _, Nat.zero_le _⟩ (fun r_1 S_1 H locs hd hP hS => ?_)
  refine lv_if_ne (tgt := 9) hx hb dX5_at_4 (by decide) (fun hc => ?_) (fun hc => ?_)
  · have hd := hd.1 hc
    refine lv_aload_n hx hb dX5_at_9 rfl (lv_at hl 0 rfl) ?_
    refine gf_X5_13 C0 hP dX5_at_10 ?_
    refine lv_iload_n hx hb dX5_at_13 rfl (lv_at hl 1 rfl) ?_
    obtain ⟨h_2, hd⟩ := hd
    refine ldR (by decide) C0 hP h_2 dX5_at_14 ?_
    refine lv_if_ge (tgt := 24) hx hb dX5_at_15 (by decide) (fun hc => ?_) (fun hc => ?_)
    · have hd := hd.1 hc
      refine lv_iload_n hx hb dX5_at_24 rfl (lv_at hl 2 rfl) ?_
      refine lv_i2l hx hb dX5_at_25 rfl ?_
      refine lv_lconst (v := 0) hx hb dX5_at_26 (by decide) ?_
      refine lv_aload_n hx hb dX5_at_27 rfl (lv_at hl 0 rfl) ?_
      refine gf_X5_13 C0 hP dX5_at_28 ?_
      refine lv_iload_n hx hb dX5_at_31 rfl (lv_at hl 1 rfl) ?_
      obtain ⟨h_3, hd⟩ := hd
      refine ldR (by decide) C0 hP h_3 dX5_at_32 ?_
      refine lv_iconst (v := 1) hx hb dX5_at_33 (by decide) ?_
      refine lv_isub hx hb dX5_at_34 ?_
      refine lv_i2l hx hb dX5_at_35 rfl ?_
      refine cl_Si (n := 3) (rest := []) C0 hP hS (c_X5_in l C0.2.2.1 _ hd) (lwG_S lm_X5_77 ls_X5_in lz_RX5 lc_X5_in) (by decide +kernel) rfl rfl (Nat.le_of_ble_eq_true rfl) ⟨rfl, rfl⟩ ⟨by decide, by decide⟩ dX5_at_36 hl.1 ⟨Nat.zero_le _, Nat.zero_le _⟩ (fun r_4 S_4 H locs hd hP hS => ?_)
      refine lv_if_eq (tgt := 60) hx hb dX5_at_39 (by decide) (fun hc => ?_) (fun hc => ?_)
      · have hd := hd.1 hc
        refine lv_aload_n hx hb dX5_at_60 rfl (lv_at hl 0 rfl) ?_
        refine lv_iconst (v := 2) hx hb dX5_at_61 (by decide) ?_
        refine cl_Vi (n := 1) (rest := []) C0 hP hS (c_X5_found l C0.2.2.1 _ hd) (lwG_V lm_X5_87 li_X5_found lx_X5_found lz_RX5 lc_X5_found) (by decide +kernel) (oR_at h cA _) rfl rfl rfl (Nat.le_of_ble_eq_true rfl) ⟨rfl, rfl⟩ ⟨by decide, by decide⟩ dX5_at_62 hl.1 ⟨Nat.zero_le _, Nat.zero_le _⟩ (fun r_5 S_5 H locs hd hP hS => ?_)
        exact hret _ _ _ _ _ _ hd hP hS dX5_at_65
      · have hd := hd.2 hc
        refine lv_aload_n hx hb dX5_at_42 rfl (lv_at hl 0 rfl) ?_
        refine lv_aload_n hx hb dX5_at_43 rfl (lv_at hl 0 rfl) ?_
        refine gf_X5_7 C0 hP dX5_at_44 ?_
        refine lv_bipush (v := 40) hx hb dX5_at_47 (by decide) ?_
        refine lv_iload_n hx hb dX5_at_49 rfl (lv_at hl 1 rfl) ?_
        refine lv_imul hx hb dX5_at_50 ?_
        refine lv_iload_n hx hb dX5_at_51 rfl (lv_at hl 2 rfl) ?_
        refine lv_iadd hx hb dX5_at_52 ?_
        obtain ⟨h_6, hd⟩ := hd
        refine ldR (by decide) C0 hP h_6 dX5_at_53 ?_
        refine cl_Vi (n := 1) (rest := []) C0 hP hS (c_X5_tell l C0.2.2.1 _ hd) (lwG_V lm_X5_91 li_X5_tell lx_X5_tell lz_RX5 lc_X5_tell) (by decide +kernel) (oR_at h cA _) rfl rfl rfl (Nat.le_of_ble_eq_true rfl) ⟨rfl, rfl⟩ ⟨by decide, by decide⟩ dX5_at_54 hl.1 ⟨Nat.zero_le _, Nat.zero_le _⟩ (fun r_7 S_7 H locs hd hP hS => ?_)
        refine lv_goto (tgt := 65) hx hb dX5_at_57 (by decide) ?_
        exact hret _ _ _ _ _ _ hd hP hS dX5_at_65
    · have hd := hd.2 hc
      refine lv_aload_n hx hb dX5_at_18 rfl (lv_at hl 0 rfl) ?_
      refine lv_iconst (v := 1) hx hb dX5_at_19 (by decide) ?_
      refine cl_Vi (n := 1) (rest := []) C0 hP hS (c_X5_found l C0.2.2.1 _ hd) (lwG_V lm_X5_87 li_X5_found lx_X5_found lz_RX5 lc_X5_found) (by decide +kernel) (oR_at h cA _) rfl rfl rfl (Nat.le_of_ble_eq_true rfl) ⟨rfl, rfl⟩ ⟨by decide, by decide⟩ dX5_at_20 hl.1 ⟨Nat.zero_le _, Nat.zero_le _⟩ (fun r_8 S_8 H locs hd hP hS => ?_)
      exact hret _ _ _ _ _ _ hd hP hS dX5_at_23
  · have hd := hd.2 hc
    refine lv_iconst (v := (-1)) hx hb dX5_at_7 (by decide) ?_
    exact hret _ _ _ _ _ _ hd hP hS dX5_at_8
theorem c_X5_at (l : Launch) {D : va_G} {cA : Nat → ClassId} {h : Nat → Nat} (hk : ky keysRA h) {x1 : Int32} {x2 : Int32} {S : sT} (sz : Nat) {Q : Int32 → sT → Prop} (hd : wp_X5_at x1 x2 S Q) : Met l yX5_at (wsU yX5_at cX5_at 3 (some .int)) rm_X5_at (va_Pc [.ref (h 100), .int x1, .int x2] (gP D cA false keysRA h (wR h cA) S sz)) (va_Qi Q (wB D (wR h cA)) (aK keysRA h sz)) 0 0 (aK keysRA h sz) :=
  mk_i (by decide) hk (Nat.le_of_ble_eq_true rfl) (fun p e s m below meth c Z ls C0 hret hP hS hl => bk_X5_at C0 hret hP hS hd hl)
abbrev rm_X5_isOne : Room := { frames := 1, cells := 0, slots := 0, locals := 25 }
def wp_X5_isOne (x1 : Int32) (S : sT) (Q : Int32 → sT → Prop) : Prop :=
  wp_X5_in x1.toInt64 (0 : Int64) (((vI S 9) - (1 : Int32)).toInt64) S (fun r_1 S_1 => bo r_1 ∧ Q r_1 S_1)
set_option maxHeartbeats 4000000 in
set_option maxRecDepth 100000 in
theorem bk_X5_isOne {p : Program} {l : Launch} {e : Env} {s : State} {m : MethodId} {args : Array Value} {below : List Frame} {meth : Method} {c : Code} {Z : State → Prop} {D : va_G} {cA : Nat → ClassId} {h : Nat → Nat} {Q : Int32 → sT → Prop} (C0 : cx p s m args c cX5_isOne 2 RX5 D cA false keysRA h) (hret : rtZ p l e rm_X5_isOne s m args below meth c cX5_isOne Z D (wR h cA) (aK keysRA h s.heap.size) Q) {x1 : Int32} {S : sT} {H : Heap} {locs : List Loc} {ls : Array Slot} (hP : va_P D vwCl (wR h cA S) H) (hS : va_S (aK keysRA h s.heap.size) s.heap H locs) (hd : wp_X5_isOne x1 S Q) (hl : lv_has ls 2 [(0, .ref (h 100)), (1, .int x1)]) : W p l e rm_X5_isOne s m args below meth c H locs 0 0 Z (F0 m 0 ls []) := by
  obtain ⟨⟨hx, hb, hml, hown, hts⟩, hK, -, -⟩ := id C0
  unfold wp_X5_isOne at hd
  refine lv_iload_n hx hb dX5_isOne_0 rfl (lv_at hl 1 rfl) ?_
  refine lv_i2l hx hb dX5_isOne_1 rfl ?_
  refine lv_lconst (v := 0) hx hb dX5_isOne_2 (by decide) ?_
  refine lv_aload_n hx hb dX5_isOne_3 rfl (lv_at hl 0 rfl) ?_
  refine gf_X5_97 C0 hP dX5_isOne_4 ?_
  refine lv_iconst (v := 1) hx hb dX5_isOne_7 (by decide) ?_
  refine lv_isub hx hb dX5_isOne_8 ?_
  refine lv_i2l hx hb dX5_isOne_9 rfl ?_
  refine cl_Si (n := 3) (rest := []) C0 hP hS (c_X5_in l C0.2.2.1 _ hd) (lwG_S lm_X5_77 ls_X5_in lz_RX5 lc_X5_in) (by decide +kernel) rfl rfl (Nat.le_of_ble_eq_true rfl) ⟨rfl, rfl⟩ ⟨by decide, by decide⟩ dX5_isOne_10 hl.1 ⟨Nat.zero_le _, Nat.zero_le _⟩ (fun r_1 S_1 H locs hd hP hS => ?_)
  exact hret _ _ _ _ _ _ hd.1 hd.2 hP hS dX5_isOne_13
theorem c_X5_isOne (l : Launch) {D : va_G} {cA : Nat → ClassId} {h : Nat → Nat} (hk : ky keysRA h) {x1 : Int32} {S : sT} (sz : Nat) {Q : Int32 → sT → Prop} (hd : wp_X5_isOne x1 S Q) : Met l yX5_isOne (wsU yX5_isOne cX5_isOne 2 (some .boolean)) rm_X5_isOne (va_Pc [.ref (h 100), .int x1] (gP D cA false keysRA h (wR h cA) S sz)) (va_Qi Q (wB D (wR h cA)) (aK keysRA h sz)) 0 0 (aK keysRA h sz) :=
  mk_z (by decide) hk (Nat.le_of_ble_eq_true rfl) (fun p e s m below meth c Z ls C0 hret hP hS hl => bk_X5_isOne C0 hret hP hS hd hl)
abbrev rm_X5_standsAt : Room := { frames := 4, cells := 0, slots := 0, locals := 92 }
def wb_X5_standsAt_58 (Q : Int32 → sT → Prop) (K9 : Int32 → Int32 → Int32 → Int32 → sT → Prop) (x1 : Int32) (x2 : Int32) (x4 : Int32) (y0 : Int32) (y1 : Int32) (S : sT) : Prop :=
  K9 x1 x2 (y0 + y1) (x4 + (1 : Int32)) S
set_option maxHeartbeats 4000000 in
set_option maxRecDepth 100000 in
theorem bk_X5_standsAt_58 {p : Program} {l : Launch} {e : Env} {s : State} {m : MethodId} {args : Array Value} {below : List Frame} {meth : Method} {c : Code} {Z : State → Prop} {D : va_G} {cA : Nat → ClassId} {h : Nat → Nat} {Q : Int32 → sT → Prop} (C0 : cx p s m args c cX5_standsAt 7 RX5 D cA false keysRA h) (hret : rtI p l e rm_X5_standsAt s m args below meth c cX5_standsAt Z D (wR h cA) (aK keysRA h s.heap.size) Q) {K9 : Int32 → Int32 → Int32 → Int32 → sT → Prop} (k9 : ∀ (x1 : Int32) (x2 : Int32) (x3 : Int32) (x4 : Int32) (S : sT) (H : Heap) (locs : List Loc) (ls : Array Slot), K9 x1 x2 x3 x4 S → va_P D vwCl (wR h cA S) H → va_S (aK keysRA h s.heap.size) s.heap H locs → lv_has ls 7 [(0, .ref (h 100)), (1, .int x1), (2, .int x2), (3, .int x3), (4, .int x4)] → W p l e rm_X5_standsAt s m args below meth c H locs 0 0 Z (F0 m 9 ls [])) {x1 : Int32} {x2 : Int32} {x4 : Int32} {y0 : Int32} {y1 : Int32} {S : sT} {H : Heap} {locs : List Loc} {ls : Array Slot} (hP : va_P D vwCl (wR h cA S) H) (hS : va_S (aK keysRA h s.heap.size) s.heap H locs) (hd : wb_X5_standsAt_58 Q K9 x1 x2 x4 y0 y1 S) (hl : lv_has ls 7 [(0, .ref (h 100)), (1, .int x1), (2, .int x2), (4, .int x4)]) : W p l e rm_X5_standsAt s m args below meth c H locs 0 0 Z (F0 m 58 ls [.int y1, .int y0]) := by
  obtain ⟨⟨hx, hb, hml, hown, hts⟩, hK, -, -⟩ := id C0
  unfold wb_X5_standsAt_58 at hd
  refine lv_iadd hx hb dX5_standsAt_58 ?_
  refine lv_istore_n (lv' := [(3, .int (y0 + y1)), (0, .ref (h 100)), (1, .int x1), (2, .int x2), (4, .int x4)]) hx hb dX5_standsAt_59 rfl hl (by decide) rfl (fun ls hl => ?_)
  refine lv_iinc (v := x4 + (1 : Int32)) (lv' := [(4, .int (x4 + (1 : Int32))), (3, .int (y0 + y1)), (0, .ref (h 100)), (1, .int x1), (2, .int x2)]) hx hb dX5_standsAt_60 hl (k := 4) rfl rfl (by decide) rfl (fun ls hl => ?_)
  refine lv_goto (tgt := 9) hx hb dX5_standsAt_63 (by decide) ?_
  exact k9 _ _ _ _ _ _ _ _ hd hP hS (lv_sub hl [2, 3, 4, 1, 0] rfl)
def wb_X5_standsAt_57 (Q : Int32 → sT → Prop) (K9 : Int32 → Int32 → Int32 → Int32 → sT → Prop) (x1 : Int32) (x2 : Int32) (x4 : Int32) (y0 : Int32) (S : sT) : Prop :=
  wb_X5_standsAt_58 Q K9 x1 x2 x4 y0 (0 : Int32) S
set_option maxHeartbeats 4000000 in
set_option maxRecDepth 100000 in
theorem bk_X5_standsAt_57 {p : Program} {l : Launch} {e : Env} {s : State} {m : MethodId} {args : Array Value} {below : List Frame} {meth : Method} {c : Code} {Z : State → Prop} {D : va_G} {cA : Nat → ClassId} {h : Nat → Nat} {Q : Int32 → sT → Prop} (C0 : cx p s m args c cX5_standsAt 7 RX5 D cA false keysRA h) (hret : rtI p l e rm_X5_standsAt s m args below meth c cX5_standsAt Z D (wR h cA) (aK keysRA h s.heap.size) Q) {K9 : Int32 → Int32 → Int32 → Int32 → sT → Prop} (k9 : ∀ (x1 : Int32) (x2 : Int32) (x3 : Int32) (x4 : Int32) (S : sT) (H : Heap) (locs : List Loc) (ls : Array Slot), K9 x1 x2 x3 x4 S → va_P D vwCl (wR h cA S) H → va_S (aK keysRA h s.heap.size) s.heap H locs → lv_has ls 7 [(0, .ref (h 100)), (1, .int x1), (2, .int x2), (3, .int x3), (4, .int x4)] → W p l e rm_X5_standsAt s m args below meth c H locs 0 0 Z (F0 m 9 ls [])) {x1 : Int32} {x2 : Int32} {x4 : Int32} {y0 : Int32} {S : sT} {H : Heap} {locs : List Loc} {ls : Array Slot} (hP : va_P D vwCl (wR h cA S) H) (hS : va_S (aK keysRA h s.heap.size) s.heap H locs) (hd : wb_X5_standsAt_57 Q K9 x1 x2 x4 y0 S) (hl : lv_has ls 7 [(0, .ref (h 100)), (1, .int x1), (2, .int x2), (4, .int x4)]) : W p l e rm_X5_standsAt s m args below meth c H locs 0 0 Z (F0 m 57 ls [.int y0]) := by
  obtain ⟨⟨hx, hb, hml, hown, hts⟩, hK, -, -⟩ := id C0
  unfold wb_X5_standsAt_57 at hd
  refine lv_iconst (v := 0) hx hb dX5_standsAt_57 (by decide) ?_
  exact bk_X5_standsAt_58 C0 hret k9 hP hS hd (lv_sub hl [0, 1, 2, 3] rfl)
def wb_X5_standsAt_30 (Q : Int32 → sT → Prop) (K9 : Int32 → Int32 → Int32 → Int32 → sT → Prop) (x1 : Int32) (x2 : Int32) (x3 : Int32) (x4 : Int32) (y0 : Int32) (S : sT) : Prop :=
  wp_X5_goes 15 S (fun r_1 S_1 => ((y0 = 0 → wb_X5_standsAt_57 Q K9 x1 x2 x4 x3 S_1) ∧ (¬ y0 = 0 → ((r_1 = 0 → wb_X5_standsAt_57 Q K9 x1 x2 x4 x3 S_1) ∧ (¬ r_1 = 0 → wb_X5_standsAt_58 Q K9 x1 x2 x4 x3 (1 : Int32) S_1)))))
set_option maxHeartbeats 4000000 in
set_option maxRecDepth 100000 in
theorem bk_X5_standsAt_30 {p : Program} {l : Launch} {e : Env} {s : State} {m : MethodId} {args : Array Value} {below : List Frame} {meth : Method} {c : Code} {Z : State → Prop} {D : va_G} {cA : Nat → ClassId} {h : Nat → Nat} {Q : Int32 → sT → Prop} (C0 : cx p s m args c cX5_standsAt 7 RX5 D cA false keysRA h) (hret : rtI p l e rm_X5_standsAt s m args below meth c cX5_standsAt Z D (wR h cA) (aK keysRA h s.heap.size) Q) {K9 : Int32 → Int32 → Int32 → Int32 → sT → Prop} (k9 : ∀ (x1 : Int32) (x2 : Int32) (x3 : Int32) (x4 : Int32) (S : sT) (H : Heap) (locs : List Loc) (ls : Array Slot), K9 x1 x2 x3 x4 S → va_P D vwCl (wR h cA S) H → va_S (aK keysRA h s.heap.size) s.heap H locs → lv_has ls 7 [(0, .ref (h 100)), (1, .int x1), (2, .int x2), (3, .int x3), (4, .int x4)] → W p l e rm_X5_standsAt s m args below meth c H locs 0 0 Z (F0 m 9 ls [])) {x1 : Int32} {x2 : Int32} {x3 : Int32} {x4 : Int32} {y0 : Int32} {S : sT} {H : Heap} {locs : List Loc} {ls : Array Slot} (hP : va_P D vwCl (wR h cA S) H) (hS : va_S (aK keysRA h s.heap.size) s.heap H locs) (hd : wb_X5_standsAt_30 Q K9 x1 x2 x3 x4 y0 S) (hl : lv_has ls 7 [(0, .ref (h 100)), (1, .int x1), (2, .int x2), (3, .int x3), (4, .int x4)]) : W p l e rm_X5_standsAt s m args below meth c H locs 0 0 Z (F0 m 30 ls [.int y0]) := by
  obtain ⟨⟨hx, hb, hml, hown, hts⟩, hK, -, -⟩ := id C0
  unfold wb_X5_standsAt_30 at hd
  refine lv_istore (lv' := [(5, .int y0), (0, .ref (h 100)), (1, .int x1), (2, .int x2), (3, .int x3), (4, .int x4)]) hx hb dX5_standsAt_30 hl (by decide) rfl (fun ls hl => ?_)
  refine lv_aload_n hx hb dX5_standsAt_32 rfl (lv_at hl 1 rfl) ?_
  refine lv_aload_n hx hb dX5_standsAt_33 rfl (lv_at hl 1 rfl) ?_
  refine gf_X5_38 C0 hP dX5_standsAt_34 ?_
  refine cl_Vi (n := 1) (rest := []) C0 hP hS (c_X5_goes l C0.2.2.1 (by decide) _ hd) (lwG_V lm_X5_204 li_X5_goes lx_X5_goes lz_RX5 lc_X5_goes) (by decide +kernel) (oR_at h cA _) rfl rfl rfl (Nat.le_of_ble_eq_true rfl) ⟨rfl, rfl⟩ ⟨by decide, by decide⟩ dX5_standsAt_37 hl.1 ⟨Nat.zero_le _, Nat.zero_le _⟩ (fun r_1 S_1 H locs hd hP hS => ?_)
  refine lv_istore (lv' := [(6, .int r_1), (5, .int y0), (0, .ref (h 100)), (1, .int x1), (2, .int x2), (3, .int x3), (4, .int x4)]) hx hb dX5_standsAt_40 hl (by decide) rfl (fun ls hl => ?_)
  refine lv_iload_n hx hb dX5_standsAt_42 rfl (lv_at hl 5 rfl) ?_
  refine lv_iload hx hb dX5_standsAt_43 (lv_at hl 1 rfl) ?_
  refine lv_if_eq (tgt := 57) hx hb dX5_standsAt_45 (by decide) (fun hc => ?_) (fun hc => ?_)
  · have hd := hd.1 hc
    exact bk_X5_standsAt_57 C0 hret k9 hP hS hd (lv_sub hl [2, 3, 4, 6] rfl)
  · have hd := hd.2 hc
    refine lv_iload hx hb dX5_standsAt_48 (lv_at hl 0 rfl) ?_
    refine lv_if_eq (tgt := 57) hx hb dX5_standsAt_50 (by decide) (fun hc => ?_) (fun hc => ?_)
    · have hd := hd.1 hc
      exact bk_X5_standsAt_57 C0 hret k9 hP hS hd (lv_sub hl [2, 3, 4, 6] rfl)
    · have hd := hd.2 hc
      refine lv_iconst (v := 1) hx hb dX5_standsAt_53 (by decide) ?_
      refine lv_goto (tgt := 58) hx hb dX5_standsAt_54 (by decide) ?_
      exact bk_X5_standsAt_58 C0 hret k9 hP hS hd (lv_sub hl [2, 3, 4, 6] rfl)
def wb_X5_standsAt_9 (Q : Int32 → sT → Prop) (K9 : Int32 → Int32 → Int32 → Int32 → sT → Prop) (x1 : Int32) (x2 : Int32) (x3 : Int32) (x4 : Int32) (S : sT) : Prop :=
  ((x2 ≤ x4 → Q x3 S) ∧ (¬ x2 ≤ x4 → (vp_in (1 : Int32) 9) ∧ ((¬ (vA S 15 (1 : Int32).toNatClampNeg) = x1 → wb_X5_standsAt_30 Q K9 x1 x2 x3 x4 (0 : Int32) S) ∧ ((vA S 15 (1 : Int32).toNatClampNeg) = x1 → wb_X5_standsAt_30 Q K9 x1 x2 x3 x4 (1 : Int32) S))))
set_option maxHeartbeats 4000000 in
set_option maxRecDepth 100000 in
theorem bk_X5_standsAt_9 {p : Program} {l : Launch} {e : Env} {s : State} {m : MethodId} {args : Array Value} {below : List Frame} {meth : Method} {c : Code} {Z : State → Prop} {D : va_G} {cA : Nat → ClassId} {h : Nat → Nat} {Q : Int32 → sT → Prop} (C0 : cx p s m args c cX5_standsAt 7 RX5 D cA false keysRA h) (hret : rtI p l e rm_X5_standsAt s m args below meth c cX5_standsAt Z D (wR h cA) (aK keysRA h s.heap.size) Q) {K9 : Int32 → Int32 → Int32 → Int32 → sT → Prop} (k9 : ∀ (x1 : Int32) (x2 : Int32) (x3 : Int32) (x4 : Int32) (S : sT) (H : Heap) (locs : List Loc) (ls : Array Slot), K9 x1 x2 x3 x4 S → va_P D vwCl (wR h cA S) H → va_S (aK keysRA h s.heap.size) s.heap H locs → lv_has ls 7 [(0, .ref (h 100)), (1, .int x1), (2, .int x2), (3, .int x3), (4, .int x4)] → W p l e rm_X5_standsAt s m args below meth c H locs 0 0 Z (F0 m 9 ls [])) {x1 : Int32} {x2 : Int32} {x3 : Int32} {x4 : Int32} {S : sT} {H : Heap} {locs : List Loc} {ls : Array Slot} (hP : va_P D vwCl (wR h cA S) H) (hS : va_S (aK keysRA h s.heap.size) s.heap H locs) (hd : wb_X5_standsAt_9 Q K9 x1 x2 x3 x4 S) (hl : lv_has ls 7 [(0, .ref (h 100)), (1, .int x1), (2, .int x2), (3, .int x3), (4, .int x4)]) : W p l e rm_X5_standsAt s m args below meth c H locs 0 0 Z (F0 m 9 ls []) := by
  obtain ⟨⟨hx, hb, hml, hown, hts⟩, hK, -, -⟩ := id C0
  unfold wb_X5_standsAt_9 at hd
  refine lv_iload hx hb dX5_standsAt_9 (lv_at hl 4 rfl) ?_
  refine lv_iload_n hx hb dX5_standsAt_11 rfl (lv_at hl 2 rfl) ?_
  refine lv_icmp_ge (tgt := 66) hx hb dX5_standsAt_12 (by decide) (fun hc => ?_) (fun hc => ?_)
  · have hd := hd.1 hc
    refine lv_iload_n hx hb dX5_standsAt_66 rfl (lv_at hl 3 rfl) ?_
    exact hret _ _ _ _ _ _ hd hP hS dX5_standsAt_67
  · have hd := hd.2 hc
    refine lv_aload_n hx hb dX5_standsAt_15 rfl (lv_at hl 0 rfl) ?_
    refine gf_X5_38 C0 hP dX5_standsAt_16 ?_
    refine lv_iconst (v := 1) hx hb dX5_standsAt_19 (by decide) ?_
    obtain ⟨h_1, hd⟩ := hd
    refine ldR (by decide) C0 hP h_1 dX5_standsAt_20 ?_
    refine lv_iload_n hx hb dX5_standsAt_21 rfl (lv_at hl 1 rfl) ?_
    refine lv_icmp_ne (tgt := 29) hx hb dX5_standsAt_22 (by decide) (fun hc => ?_) (fun hc => ?_)
    · have hd := hd.1 hc
      refine lv_iconst (v := 0) hx hb dX5_standsAt_29 (by decide) ?_
      exact bk_X5_standsAt_30 C0 hret k9 hP hS hd (lv_sub hl [0, 1, 2, 3, 4] rfl)
    · have hd := hd.2 hc
      refine lv_iconst (v := 1) hx hb dX5_standsAt_25 (by decide) ?_
      refine lv_goto (tgt := 30) hx hb dX5_standsAt_26 (by decide) ?_
      exact bk_X5_standsAt_30 C0 hret k9 hP hS hd (lv_sub hl [0, 1, 2, 3, 4] rfl)
def wl_X5_standsAt_9 (Q : Int32 → sT → Prop) : Nat → Int32 → Int32 → Int32 → Int32 → sT → Prop
  | 0, _, _, _, _ => fun _ => False
  | n + 1, x1, x2, x3, x4 => fun S => wb_X5_standsAt_9 Q (fun x1 x2 x3 x4 S => wl_X5_standsAt_9 Q n x1 x2 x3 x4 S) x1 x2 x3 x4 S
theorem bl_X5_standsAt_9 {p : Program} {l : Launch} {e : Env} {s : State} {m : MethodId} {args : Array Value} {below : List Frame} {meth : Method} {c : Code} {Z : State → Prop} {D : va_G} {cA : Nat → ClassId} {h : Nat → Nat} {Q : Int32 → sT → Prop} (C0 : cx p s m args c cX5_standsAt 7 RX5 D cA false keysRA h) (hret : rtI p l e rm_X5_standsAt s m args below meth c cX5_standsAt Z D (wR h cA) (aK keysRA h s.heap.size) Q) : ∀ (n : Nat) (x1 : Int32) (x2 : Int32) (x3 : Int32) (x4 : Int32) (S : sT) (H : Heap) (locs : List Loc) (ls : Array Slot), va_P D vwCl (wR h cA S) H → va_S (aK keysRA h s.heap.size) s.heap H locs → wl_X5_standsAt_9 Q n x1 x2 x3 x4 S → lv_has ls 7 [(0, .ref (h 100)), (1, .int x1), (2, .int x2), (3, .int x3), (4, .int x4)] → W p l e rm_X5_standsAt s m args below meth c H locs 0 0 Z (F0 m 9 ls []) := by
  intro n
  induction n with
  | zero => intro x1 x2 x3 x4 S H locs ls hP hS hd hl; exact (show False from hd).elim
  | succ n ih => intro x1 x2 x3 x4 S H locs ls hP hS hd hl; exact bk_X5_standsAt_9 C0 hret (fun x1 x2 x3 x4 S H locs ls hd hP hS hl => ih x1 x2 x3 x4 S H locs ls hP hS hd hl) hP hS hd hl
def wp_X5_standsAt (x1 : Int32) (x2 : Int32) (S : sT) (Q : Int32 → sT → Prop) : Prop :=
  wp_X5_layAside S (fun S_1 => ∃ n : Nat, wl_X5_standsAt_9 Q n x1 x2 (0 : Int32) (0 : Int32) S_1)
set_option maxHeartbeats 4000000 in
set_option maxRecDepth 100000 in
theorem bk_X5_standsAt {p : Program} {l : Launch} {e : Env} {s : State} {m : MethodId} {args : Array Value} {below : List Frame} {meth : Method} {c : Code} {Z : State → Prop} {D : va_G} {cA : Nat → ClassId} {h : Nat → Nat} {Q : Int32 → sT → Prop} (C0 : cx p s m args c cX5_standsAt 7 RX5 D cA false keysRA h) (hret : rtI p l e rm_X5_standsAt s m args below meth c cX5_standsAt Z D (wR h cA) (aK keysRA h s.heap.size) Q) {x1 : Int32} {x2 : Int32} {S : sT} {H : Heap} {locs : List Loc} {ls : Array Slot} (hP : va_P D vwCl (wR h cA S) H) (hS : va_S (aK keysRA h s.heap.size) s.heap H locs) (hd : wp_X5_standsAt x1 x2 S Q) (hl : lv_has ls 7 [(0, .ref (h 100)), (1, .int x1), (2, .int x2)]) : W p l e rm_X5_standsAt s m args below meth c H locs 0 0 Z (F0 m 0 ls []) := by
  obtain ⟨⟨hx, hb, hml, hown, hts⟩, hK, -, -⟩ := id C0
  unfold wp_X5_standsAt at hd
  refine lv_aload_n hx hb dX5_standsAt_0 rfl (lv_at hl 0 rfl) ?_
  refine cl_Vv (n := 0) (rest := []) C0 hP hS (c_X5_layAside l C0.2.2.1 _ hd) (lwG_V lm_X5_213 li_X5_layAside lx_X5_layAside lz_RX5 lc_X5_layAside) (by decide +kernel) (oR_at h cA _) rfl rfl rfl (Nat.le_of_ble_eq_true rfl) ⟨rfl, rfl⟩ ⟨by decide, by decide⟩ dX5_standsAt_1 hl.1 ⟨Nat.zero_le _, Nat.zero_le _⟩ (fun S_1 H locs hd hP hS => ?_)
  refine lv_iconst (v := 0) hx hb dX5_standsAt_4 (by decide) ?_
  refine lv_istore_n (lv' := [(3, .int (0 : Int32)), (0, .ref (h 100)), (1, .int x1), (2, .int x2)]) hx hb dX5_standsAt_5 rfl hl (by decide) rfl (fun ls hl => ?_)
  refine lv_iconst (v := 0) hx hb dX5_standsAt_6 (by decide) ?_
  refine lv_istore (lv' := [(4, .int (0 : Int32)), (3, .int (0 : Int32)), (0, .ref (h 100)), (1, .int x1), (2, .int x2)]) hx hb dX5_standsAt_7 hl (by decide) rfl (fun ls hl => ?_)
  obtain ⟨n_2, hd⟩ := hd
  exact bl_X5_standsAt_9 C0 hret _ _ _ _ _ _ _ _ _ hP hS hd (lv_sub hl [2, 3, 4, 1, 0] rfl)
theorem c_X5_standsAt (l : Launch) {D : va_G} {cA : Nat → ClassId} {h : Nat → Nat} (hk : ky keysRA h) {x1 : Int32} {x2 : Int32} {S : sT} (sz : Nat) {Q : Int32 → sT → Prop} (hd : wp_X5_standsAt x1 x2 S Q) : Met l yX5_standsAt (wsU yX5_standsAt cX5_standsAt 7 (some .int)) rm_X5_standsAt (va_Pc [.ref (h 100), .int x1, .int x2] (gP D cA false keysRA h (wR h cA) S sz)) (va_Qi Q (wB D (wR h cA)) (aK keysRA h sz)) 0 0 (aK keysRA h sz) :=
  mk_i (by decide) hk (Nat.le_of_ble_eq_true rfl) (fun p e s m below meth c Z ls C0 hret hP hS hl => bk_X5_standsAt C0 hret hP hS hd hl)
abbrev rm_X5_bed : Room := { frames := 5, cells := 0, slots := 0, locals := 118 }
def wb_X5_bed_80 (Q : Int32 → sT → Prop) (K25 : Int32 → Int32 → Int32 → Int32 → Int32 → sT → Prop) (x1 : Int32) (x2 : Int32) (x3 : Int32) (x5 : Int32) (y0 : Int32) (S : sT) : Prop :=
  K25 x1 x2 x3 y0 (x5 + (1 : Int32)) S
set_option maxHeartbeats 4000000 in
set_option maxRecDepth 100000 in
theorem bk_X5_bed_80 {p : Program} {l : Launch} {e : Env} {s : State} {m : MethodId} {args : Array Value} {below : List Frame} {meth : Method} {c : Code} {Z : State → Prop} {D : va_G} {cA : Nat → ClassId} {h : Nat → Nat} {Q : Int32 → sT → Prop} (C0 : cx p s m args c cX5_bed 7 RX5 D cA false keysRA h) (hret : rtI p l e rm_X5_bed s m args below meth c cX5_bed Z D (wR h cA) (aK keysRA h s.heap.size) Q) {K25 : Int32 → Int32 → Int32 → Int32 → Int32 → sT → Prop} (k25 : ∀ (x1 : Int32) (x2 : Int32) (x3 : Int32) (x4 : Int32) (x5 : Int32) (S : sT) (H : Heap) (locs : List Loc) (ls : Array Slot), K25 x1 x2 x3 x4 x5 S → va_P D vwCl (wR h cA S) H → va_S (aK keysRA h s.heap.size) s.heap H locs → lv_has ls 7 [(0, .ref (h 100)), (1, .int x1), (2, .int x2), (3, .int x3), (4, .int x4), (5, .int x5)] → W p l e rm_X5_bed s m args below meth c H locs 0 0 Z (F0 m 25 ls [])) {x1 : Int32} {x2 : Int32} {x3 : Int32} {x5 : Int32} {y0 : Int32} {S : sT} {H : Heap} {locs : List Loc} {ls : Array Slot} (hP : va_P D vwCl (wR h cA S) H) (hS : va_S (aK keysRA h s.heap.size) s.heap H locs) (hd : wb_X5_bed_80 Q K25 x1 x2 x3 x5 y0 S) (hl : lv_has ls 7 [(0, .ref (h 100)), (1, .int x1), (2, .int x2), (3, .int x3), (5, .int x5)]) : W p l e rm_X5_bed s m args below meth c H locs 0 0 Z (F0 m 80 ls [.int y0]) := by
  obtain ⟨⟨hx, hb, hml, hown, hts⟩, hK, -, -⟩ := id C0
  unfold wb_X5_bed_80 at hd
  refine lv_istore (lv' := [(4, .int y0), (0, .ref (h 100)), (1, .int x1), (2, .int x2), (3, .int x3), (5, .int x5)]) hx hb dX5_bed_80 hl (by decide) rfl (fun ls hl => ?_)
  refine lv_iinc (v := x5 + (1 : Int32)) (lv' := [(5, .int (x5 + (1 : Int32))), (4, .int y0), (0, .ref (h 100)), (1, .int x1), (2, .int x2), (3, .int x3)]) hx hb dX5_bed_82 hl (k := 5) rfl rfl (by decide) rfl (fun ls hl => ?_)
  refine lv_goto (tgt := 25) hx hb dX5_bed_85 (by decide) ?_
  exact k25 _ _ _ _ _ _ _ _ _ hd hP hS (lv_sub hl [2, 3, 4, 5, 1, 0] rfl)
def wb_X5_bed_65 (Q : Int32 → sT → Prop) (K25 : Int32 → Int32 → Int32 → Int32 → Int32 → sT → Prop) (x1 : Int32) (x2 : Int32) (x4 : Int32) (x5 : Int32) (x6 : Int32) (y0 : Int32) (S : sT) : Prop :=
  ((x6 ≤ x4 → wb_X5_bed_80 Q K25 x1 x2 y0 x5 x4 S) ∧ (¬ x6 ≤ x4 → wb_X5_bed_80 Q K25 x1 x2 y0 x5 x6 S))
set_option maxHeartbeats 4000000 in
set_option maxRecDepth 100000 in
theorem bk_X5_bed_65 {p : Program} {l : Launch} {e : Env} {s : State} {m : MethodId} {args : Array Value} {below : List Frame} {meth : Method} {c : Code} {Z : State → Prop} {D : va_G} {cA : Nat → ClassId} {h : Nat → Nat} {Q : Int32 → sT → Prop} (C0 : cx p s m args c cX5_bed 7 RX5 D cA false keysRA h) (hret : rtI p l e rm_X5_bed s m args below meth c cX5_bed Z D (wR h cA) (aK keysRA h s.heap.size) Q) {K25 : Int32 → Int32 → Int32 → Int32 → Int32 → sT → Prop} (k25 : ∀ (x1 : Int32) (x2 : Int32) (x3 : Int32) (x4 : Int32) (x5 : Int32) (S : sT) (H : Heap) (locs : List Loc) (ls : Array Slot), K25 x1 x2 x3 x4 x5 S → va_P D vwCl (wR h cA S) H → va_S (aK keysRA h s.heap.size) s.heap H locs → lv_has ls 7 [(0, .ref (h 100)), (1, .int x1), (2, .int x2), (3, .int x3), (4, .int x4), (5, .int x5)] → W p l e rm_X5_bed s m args below meth c H locs 0 0 Z (F0 m 25 ls [])) {x1 : Int32} {x2 : Int32} {x4 : Int32} {x5 : Int32} {x6 : Int32} {y0 : Int32} {S : sT} {H : Heap} {locs : List Loc} {ls : Array Slot} (hP : va_P D vwCl (wR h cA S) H) (hS : va_S (aK keysRA h s.heap.size) s.heap H locs) (hd : wb_X5_bed_65 Q K25 x1 x2 x4 x5 x6 y0 S) (hl : lv_has ls 7 [(0, .ref (h 100)), (1, .int x1), (2, .int x2), (4, .int x4), (5, .int x5), (6, .int x6)]) : W p l e rm_X5_bed s m args below meth c H locs 0 0 Z (F0 m 65 ls [.int y0]) := by
  obtain ⟨⟨hx, hb, hml, hown, hts⟩, hK, -, -⟩ := id C0
  unfold wb_X5_bed_65 at hd
  refine lv_istore_n (lv' := [(3, .int y0), (0, .ref (h 100)), (1, .int x1), (2, .int x2), (4, .int x4), (5, .int x5), (6, .int x6)]) hx hb dX5_bed_65 rfl hl (by decide) rfl (fun ls hl => ?_)
  refine lv_iload hx hb dX5_bed_66 (lv_at hl 6 rfl) ?_
  refine lv_iload hx hb dX5_bed_68 (lv_at hl 4 rfl) ?_
  refine lv_icmp_le (tgt := 78) hx hb dX5_bed_70 (by decide) (fun hc => ?_) (fun hc => ?_)
  · have hd := hd.1 hc
    refine lv_iload hx hb dX5_bed_78 (lv_at hl 4 rfl) ?_
    exact bk_X5_bed_80 C0 hret k25 hP hS hd (lv_sub hl [1, 2, 3, 0, 5] rfl)
  · have hd := hd.2 hc
    refine lv_iload hx hb dX5_bed_73 (lv_at hl 6 rfl) ?_
    refine lv_goto (tgt := 80) hx hb dX5_bed_75 (by decide) ?_
    exact bk_X5_bed_80 C0 hret k25 hP hS hd (lv_sub hl [1, 2, 3, 0, 5] rfl)
def wb_X5_bed_25 (Q : Int32 → sT → Prop) (K25 : Int32 → Int32 → Int32 → Int32 → Int32 → sT → Prop) (x1 : Int32) (x2 : Int32) (x3 : Int32) (x4 : Int32) (x5 : Int32) (S : sT) : Prop :=
  (((vI S 10) < x5 → (vp_in x1 6) ∧ wp_X5_answer x3 x4 (uA S 13 (upd (vA S 13) x1.toNatClampNeg x2)) (fun r_2 S_2 => Q r_2 S_2)) ∧ (¬ (vI S 10) < x5 → (vp_in x1 6) ∧ wp_X5_standsAt x5 (40 : Int32) (uA S 13 (upd (vA S 13) x1.toNatClampNeg x5)) (fun r_4 S_4 => ((r_4 ≤ x4 → wb_X5_bed_65 Q K25 x1 x2 x4 x5 r_4 x3 S_4) ∧ (¬ r_4 ≤ x4 → wb_X5_bed_65 Q K25 x1 x2 x4 x5 r_4 x5 S_4)))))
set_option maxHeartbeats 4000000 in
set_option maxRecDepth 100000 in
theorem bk_X5_bed_25 {p : Program} {l : Launch} {e : Env} {s : State} {m : MethodId} {args : Array Value} {below : List Frame} {meth : Method} {c : Code} {Z : State → Prop} {D : va_G} {cA : Nat → ClassId} {h : Nat → Nat} {Q : Int32 → sT → Prop} (C0 : cx p s m args c cX5_bed 7 RX5 D cA false keysRA h) (hret : rtI p l e rm_X5_bed s m args below meth c cX5_bed Z D (wR h cA) (aK keysRA h s.heap.size) Q) {K25 : Int32 → Int32 → Int32 → Int32 → Int32 → sT → Prop} (k25 : ∀ (x1 : Int32) (x2 : Int32) (x3 : Int32) (x4 : Int32) (x5 : Int32) (S : sT) (H : Heap) (locs : List Loc) (ls : Array Slot), K25 x1 x2 x3 x4 x5 S → va_P D vwCl (wR h cA S) H → va_S (aK keysRA h s.heap.size) s.heap H locs → lv_has ls 7 [(0, .ref (h 100)), (1, .int x1), (2, .int x2), (3, .int x3), (4, .int x4), (5, .int x5)] → W p l e rm_X5_bed s m args below meth c H locs 0 0 Z (F0 m 25 ls [])) {x1 : Int32} {x2 : Int32} {x3 : Int32} {x4 : Int32} {x5 : Int32} {S : sT} {H : Heap} {locs : List Loc} {ls : Array Slot} (hP : va_P D vwCl (wR h cA S) H) (hS : va_S (aK keysRA h s.heap.size) s.heap H locs) (hd : wb_X5_bed_25 Q K25 x1 x2 x3 x4 x5 S) (hl : lv_has ls 7 [(0, .ref (h 100)), (1, .int x1), (2, .int x2), (3, .int x3), (4, .int x4), (5, .int x5)]) : W p l e rm_X5_bed s m args below meth c H locs 0 0 Z (F0 m 25 ls []) := by
  obtain ⟨⟨hx, hb, hml, hown, hts⟩, hK, -, -⟩ := id C0
  unfold wb_X5_bed_25 at hd
  refine lv_iload hx hb dX5_bed_25 (lv_at hl 5 rfl) ?_
  refine lv_aload_n hx hb dX5_bed_27 rfl (lv_at hl 0 rfl) ?_
  refine gf_X5_155 C0 hP dX5_bed_28 ?_
  refine lv_icmp_gt (tgt := 88) hx hb dX5_bed_31 (by decide) (fun hc => ?_) (fun hc => ?_)
  · have hd := hd.1 hc
    refine lv_aload_n hx hb dX5_bed_88 rfl (lv_at hl 0 rfl) ?_
    refine gf_X5_32 C0 hP dX5_bed_89 ?_
    refine lv_iload_n hx hb dX5_bed_92 rfl (lv_at hl 1 rfl) ?_
    refine lv_iload_n hx hb dX5_bed_93 rfl (lv_at hl 2 rfl) ?_
    obtain ⟨h_1, hd⟩ := hd
    refine stR (by decide) C0 hP hS h_1 dX5_bed_94 (fun H locs hP hS => ?_)
    refine lv_aload_n hx hb dX5_bed_95 rfl (lv_at hl 0 rfl) ?_
    refine lv_iload_n hx hb dX5_bed_96 rfl (lv_at hl 3 rfl) ?_
    refine lv_iload hx hb dX5_bed_97 (lv_at hl 4 rfl) ?_
    refine cl_Vi (n := 2) (rest := []) C0 hP hS (c_X5_answer l C0.2.2.1 _ hd) (lwG_V lm_X5_216 li_X5_answer lx_X5_answer lz_RX5 lc_X5_answer) (by decide +kernel) (oR_at h cA _) rfl rfl rfl (Nat.le_of_ble_eq_true rfl) ⟨rfl, rfl⟩ ⟨by decide, by decide⟩ dX5_bed_99 hl.1 ⟨Nat.zero_le _, Nat.zero_le _⟩ (fun r_2 S_2 H locs hd hP hS => ?_)
    exact hret _ _ _ _ _ _ hd hP hS dX5_bed_102
  · have hd := hd.2 hc
    refine lv_aload_n hx hb dX5_bed_34 rfl (lv_at hl 0 rfl) ?_
    refine gf_X5_32 C0 hP dX5_bed_35 ?_
    refine lv_iload_n hx hb dX5_bed_38 rfl (lv_at hl 1 rfl) ?_
    refine lv_iload hx hb dX5_bed_39 (lv_at hl 5 rfl) ?_
    obtain ⟨h_3, hd⟩ := hd
    refine stR (by decide) C0 hP hS h_3 dX5_bed_41 (fun H locs hP hS => ?_)
    refine lv_aload_n hx hb dX5_bed_42 rfl (lv_at hl 0 rfl) ?_
    refine lv_iload hx hb dX5_bed_43 (lv_at hl 5 rfl) ?_
    refine lv_bipush (v := 40) hx hb dX5_bed_45 (by decide) ?_
    refine cl_Vi (n := 2) (rest := []) C0 hP hS (c_X5_standsAt l C0.2.2.1 _ hd) (lwG_V lm_X5_219 li_X5_standsAt lx_X5_standsAt lz_RX5 lc_X5_standsAt) (by decide +kernel) (oR_at h cA _) rfl rfl rfl (Nat.le_of_ble_eq_true rfl) ⟨rfl, rfl⟩ ⟨by decide, by decide⟩ dX5_bed_47 hl.1 ⟨Nat.zero_le _, Nat.zero_le _⟩ (fun r_4 S_4 H locs hd hP hS => ?_)
    refine lv_istore (lv' := [(6, .int r_4), (0, .ref (h 100)), (1, .int x1), (2, .int x2), (3, .int x3), (4, .int x4), (5, .int x5)]) hx hb dX5_bed_50 hl (by decide) rfl (fun ls hl => ?_)
    refine lv_iload hx hb dX5_bed_52 (lv_at hl 0 rfl) ?_
    refine lv_iload hx hb dX5_bed_54 (lv_at hl 5 rfl) ?_
    refine lv_icmp_le (tgt := 64) hx hb dX5_bed_56 (by decide) (fun hc => ?_) (fun hc => ?_)
    · have hd := hd.1 hc
      refine lv_iload_n hx hb dX5_bed_64 rfl (lv_at hl 4 rfl) ?_
      exact bk_X5_bed_65 C0 hret k25 hP hS hd (lv_sub hl [1, 2, 3, 5, 6, 0] rfl)
    · have hd := hd.2 hc
      refine lv_iload hx hb dX5_bed_59 (lv_at hl 6 rfl) ?_
      refine lv_goto (tgt := 65) hx hb dX5_bed_61 (by decide) ?_
      exact bk_X5_bed_65 C0 hret k25 hP hS hd (lv_sub hl [1, 2, 3, 5, 6, 0] rfl)
def wl_X5_bed_25 (Q : Int32 → sT → Prop) : Nat → Int32 → Int32 → Int32 → Int32 → Int32 → sT → Prop
  | 0, _, _, _, _, _ => fun _ => False
  | n + 1, x1, x2, x3, x4, x5 => fun S => wb_X5_bed_25 Q (fun x1 x2 x3 x4 x5 S => wl_X5_bed_25 Q n x1 x2 x3 x4 x5 S) x1 x2 x3 x4 x5 S
theorem bl_X5_bed_25 {p : Program} {l : Launch} {e : Env} {s : State} {m : MethodId} {args : Array Value} {below : List Frame} {meth : Method} {c : Code} {Z : State → Prop} {D : va_G} {cA : Nat → ClassId} {h : Nat → Nat} {Q : Int32 → sT → Prop} (C0 : cx p s m args c cX5_bed 7 RX5 D cA false keysRA h) (hret : rtI p l e rm_X5_bed s m args below meth c cX5_bed Z D (wR h cA) (aK keysRA h s.heap.size) Q) : ∀ (n : Nat) (x1 : Int32) (x2 : Int32) (x3 : Int32) (x4 : Int32) (x5 : Int32) (S : sT) (H : Heap) (locs : List Loc) (ls : Array Slot), va_P D vwCl (wR h cA S) H → va_S (aK keysRA h s.heap.size) s.heap H locs → wl_X5_bed_25 Q n x1 x2 x3 x4 x5 S → lv_has ls 7 [(0, .ref (h 100)), (1, .int x1), (2, .int x2), (3, .int x3), (4, .int x4), (5, .int x5)] → W p l e rm_X5_bed s m args below meth c H locs 0 0 Z (F0 m 25 ls []) := by
  intro n
  induction n with
  | zero => intro x1 x2 x3 x4 x5 S H locs ls hP hS hd hl; exact (show False from hd).elim
  | succ n ih => intro x1 x2 x3 x4 x5 S H locs ls hP hS hd hl; exact bk_X5_bed_25 C0 hret (fun x1 x2 x3 x4 x5 S H locs ls hd hP hS hl => ih x1 x2 x3 x4 x5 S H locs ls hP hS hd hl) hP hS hd hl
def wp_X5_bed (x1 : Int32) (S : sT) (Q : Int32 → sT → Prop) : Prop :=
  wp_X5_isOne x1 S (fun r_1 S_1 => ((¬ r_1 = 0 → (vp_in x1 6) ∧ ∃ n : Nat, wl_X5_bed_25 Q n x1 (vA S_1 13 x1.toNatClampNeg) (0 : Int32) (-1 : Int32) (0 : Int32) S_1) ∧ (r_1 = 0 → Q (-1 : Int32) S_1)))
set_option maxHeartbeats 4000000 in
set_option maxRecDepth 100000 in
theorem bk_X5_bed {p : Program} {l : Launch} {e : Env} {s : State} {m : MethodId} {args : Array Value} {below : List Frame} {meth : Method} {c : Code} {Z : State → Prop} {D : va_G} {cA : Nat → ClassId} {h : Nat → Nat} {Q : Int32 → sT → Prop} (C0 : cx p s m args c cX5_bed 7 RX5 D cA false keysRA h) (hret : rtI p l e rm_X5_bed s m args below meth c cX5_bed Z D (wR h cA) (aK keysRA h s.heap.size) Q) {x1 : Int32} {S : sT} {H : Heap} {locs : List Loc} {ls : Array Slot} (hP : va_P D vwCl (wR h cA S) H) (hS : va_S (aK keysRA h s.heap.size) s.heap H locs) (hd : wp_X5_bed x1 S Q) (hl : lv_has ls 7 [(0, .ref (h 100)), (1, .int x1)]) : W p l e rm_X5_bed s m args below meth c H locs 0 0 Z (F0 m 0 ls []) := by
  obtain ⟨⟨hx, hb, hml, hown, hts⟩, hK, -, -⟩ := id C0
  unfold wp_X5_bed at hd
  refine lv_aload_n hx hb dX5_bed_0 rfl (lv_at hl 0 rfl) ?_
  refine lv_iload_n hx hb dX5_bed_1 rfl (lv_at hl 1 rfl) ?_
  refine cl_Vi (n := 1) (rest := []) C0 hP hS (c_X5_isOne l C0.2.2.1 _ hd) (lwG_V lm_X5_176 li_X5_isOne lx_X5_isOne lz_RX5 lc_X5_isOne) (by decide +kernel) (oR_at h cA _) rfl rfl rfl (Nat.le_of_ble_eq_true rfl) ⟨rfl, rfl⟩ ⟨by decide, by decide⟩ dX5_bed_2 hl.1 ⟨Nat.zero_le _, Nat.zero_le _⟩ (fun r_1 S_1 H locs hd hP hS => ?_)
  refine lv_if_ne (tgt := 10) hx hb dX5_bed_5 (by decide) (fun hc => ?_) (fun hc => ?_)
  · have hd := hd.1 hc
    refine lv_aload_n hx hb dX5_bed_10 rfl (lv_at hl 0 rfl) ?_
    refine gf_X5_32 C0 hP dX5_bed_11 ?_
    refine lv_iload_n hx hb dX5_bed_14 rfl (lv_at hl 1 rfl) ?_
    obtain ⟨h_2, hd⟩ := hd
    refine ldR (by decide) C0 hP h_2 dX5_bed_15 ?_
    refine lv_istore_n (lv' := [(2, .int (vA S_1 13 x1.toNatClampNeg)), (0, .ref (h 100)), (1, .int x1)]) hx hb dX5_bed_16 rfl hl (by decide) rfl (fun ls hl => ?_)
    refine lv_iconst (v := 0) hx hb dX5_bed_17 (by decide) ?_
    refine lv_istore_n (lv' := [(3, .int (0 : Int32)), (2, .int (vA S_1 13 x1.toNatClampNeg)), (0, .ref (h 100)), (1, .int x1)]) hx hb dX5_bed_18 rfl hl (by decide) rfl (fun ls hl => ?_)
    refine lv_iconst (v := (-1)) hx hb dX5_bed_19 (by decide) ?_
    refine lv_istore (lv' := [(4, .int (-1 : Int32)), (3, .int (0 : Int32)), (2, .int (vA S_1 13 x1.toNatClampNeg)), (0, .ref (h 100)), (1, .int x1)]) hx hb dX5_bed_20 hl (by decide) rfl (fun ls hl => ?_)
    refine lv_iconst (v := 0) hx hb dX5_bed_22 (by decide) ?_
    refine lv_istore (lv' := [(5, .int (0 : Int32)), (4, .int (-1 : Int32)), (3, .int (0 : Int32)), (2, .int (vA S_1 13 x1.toNatClampNeg)), (0, .ref (h 100)), (1, .int x1)]) hx hb dX5_bed_23 hl (by decide) rfl (fun ls hl => ?_)
    obtain ⟨n_3, hd⟩ := hd
    exact bl_X5_bed_25 C0 hret _ _ _ _ _ _ _ _ _ _ hP hS hd (lv_sub hl [4, 5, 3, 2, 1, 0] rfl)
  · have hd := hd.2 hc
    refine lv_iconst (v := (-1)) hx hb dX5_bed_8 (by decide) ?_
    exact hret _ _ _ _ _ _ hd hP hS dX5_bed_9
theorem c_X5_bed (l : Launch) {D : va_G} {cA : Nat → ClassId} {h : Nat → Nat} (hk : ky keysRA h) {x1 : Int32} {S : sT} (sz : Nat) {Q : Int32 → sT → Prop} (hd : wp_X5_bed x1 S Q) : Met l yX5_bed (wsU yX5_bed cX5_bed 7 (some .int)) rm_X5_bed (va_Pc [.ref (h 100), .int x1] (gP D cA false keysRA h (wR h cA) S sz)) (va_Qi Q (wB D (wR h cA)) (aK keysRA h sz)) 0 0 (aK keysRA h sz) :=
  mk_i (by decide) hk (Nat.le_of_ble_eq_true rfl) (fun p e s m below meth c Z ls C0 hret hP hS hl => bk_X5_bed C0 hret hP hS hd hl)
abbrev rm_X5_begins : Room := { frames := 0, cells := 0, slots := 0, locals := 0 }
def wb_X5_begins_35 (Q : sT → Prop) (K35 : Int32 → sT → Prop) (x1 : Int32) (S : sT) : Prop :=
  (((3 : Int32) ≤ x1 → Q S) ∧ (¬ (3 : Int32) ≤ x1 → (vp_in ((370 : Int32) * x1) 1110) ∧ K35 (x1 + (1 : Int32)) (uA S 18 (upd (vA S 18) ((370 : Int32) * x1).toNatClampNeg (-1 : Int32)))))
set_option maxHeartbeats 4000000 in
set_option maxRecDepth 100000 in
theorem bk_X5_begins_35 {p : Program} {l : Launch} {e : Env} {s : State} {m : MethodId} {args : Array Value} {below : List Frame} {meth : Method} {c : Code} {Z : State → Prop} {D : va_G} {cA : Nat → ClassId} {h : Nat → Nat} {Q : sT → Prop} (C0 : cx p s m args c cX5_begins 2 RX5 D cA false keysRA h) (hret : rtV p l e rm_X5_begins s m args below meth c cX5_begins Z D (wR h cA) (aK keysRA h s.heap.size) Q) {K35 : Int32 → sT → Prop} (k35 : ∀ (x1 : Int32) (S : sT) (H : Heap) (locs : List Loc) (ls : Array Slot), K35 x1 S → va_P D vwCl (wR h cA S) H → va_S (aK keysRA h s.heap.size) s.heap H locs → lv_has ls 2 [(0, .ref (h 100)), (1, .int x1)] → W p l e rm_X5_begins s m args below meth c H locs 0 0 Z (F0 m 35 ls [])) {x1 : Int32} {S : sT} {H : Heap} {locs : List Loc} {ls : Array Slot} (hP : va_P D vwCl (wR h cA S) H) (hS : va_S (aK keysRA h s.heap.size) s.heap H locs) (hd : wb_X5_begins_35 Q K35 x1 S) (hl : lv_has ls 2 [(0, .ref (h 100)), (1, .int x1)]) : W p l e rm_X5_begins s m args below meth c H locs 0 0 Z (F0 m 35 ls []) := by
  obtain ⟨⟨hx, hb, hml, hown, hts⟩, hK, -, -⟩ := id C0
  unfold wb_X5_begins_35 at hd
  refine lv_iload_n hx hb dX5_begins_35 rfl (lv_at hl 1 rfl) ?_
  refine lv_iconst (v := 3) hx hb dX5_begins_36 (by decide) ?_
  refine lv_icmp_ge (tgt := 57) hx hb dX5_begins_37 (by decide) (fun hc => ?_) (fun hc => ?_)
  · have hd := hd.1 hc
    exact hret _ _ _ _ _ hd hP hS dX5_begins_57
  · have hd := hd.2 hc
    refine lv_aload_n hx hb dX5_begins_40 rfl (lv_at hl 0 rfl) ?_
    refine gf_X5_44 C0 hP dX5_begins_41 ?_
    refine lv_sipush (v := 370) hx hb dX5_begins_44 (by decide) ?_
    refine lv_iload_n hx hb dX5_begins_47 rfl (lv_at hl 1 rfl) ?_
    refine lv_imul hx hb dX5_begins_48 ?_
    refine lv_iconst (v := (-1)) hx hb dX5_begins_49 (by decide) ?_
    obtain ⟨h_1, hd⟩ := hd
    refine stR (by decide) C0 hP hS h_1 dX5_begins_50 (fun H locs hP hS => ?_)
    refine lv_iinc (v := x1 + (1 : Int32)) (lv' := [(1, .int (x1 + (1 : Int32))), (0, .ref (h 100))]) hx hb dX5_begins_51 hl (k := 1) rfl rfl (by decide) rfl (fun ls hl => ?_)
    refine lv_goto (tgt := 35) hx hb dX5_begins_54 (by decide) ?_
    exact k35 _ _ _ _ _ hd hP hS (lv_sub hl [1, 0] rfl)
def wl_X5_begins_35 (Q : sT → Prop) : Nat → Int32 → sT → Prop
  | 0, _ => fun _ => False
  | n + 1, x1 => fun S => wb_X5_begins_35 Q (fun x1 S => wl_X5_begins_35 Q n x1 S) x1 S
theorem bl_X5_begins_35 {p : Program} {l : Launch} {e : Env} {s : State} {m : MethodId} {args : Array Value} {below : List Frame} {meth : Method} {c : Code} {Z : State → Prop} {D : va_G} {cA : Nat → ClassId} {h : Nat → Nat} {Q : sT → Prop} (C0 : cx p s m args c cX5_begins 2 RX5 D cA false keysRA h) (hret : rtV p l e rm_X5_begins s m args below meth c cX5_begins Z D (wR h cA) (aK keysRA h s.heap.size) Q) : ∀ (n : Nat) (x1 : Int32) (S : sT) (H : Heap) (locs : List Loc) (ls : Array Slot), va_P D vwCl (wR h cA S) H → va_S (aK keysRA h s.heap.size) s.heap H locs → wl_X5_begins_35 Q n x1 S → lv_has ls 2 [(0, .ref (h 100)), (1, .int x1)] → W p l e rm_X5_begins s m args below meth c H locs 0 0 Z (F0 m 35 ls []) := by
  intro n
  induction n with
  | zero => intro x1 S H locs ls hP hS hd hl; exact (show False from hd).elim
  | succ n ih => intro x1 S H locs ls hP hS hd hl; exact bk_X5_begins_35 C0 hret (fun x1 S H locs ls hd hP hS hl => ih x1 S H locs ls hP hS hd hl) hP hS hd hl
def wp_X5_begins (S : sT) (Q : sT → Prop) : Prop :=
  (vp_in (0 : Int32) 9) ∧ (vp_in (1 : Int32) 9) ∧ ∀ S_3 : sT, S_3 = uA (uA S 14 (upd (vA S 14) (0 : Int32).toNatClampNeg (0 : Int32))) 14 (upd (vA (uA S 14 (upd (vA S 14) (0 : Int32).toNatClampNeg (0 : Int32))) 14) (1 : Int32).toNatClampNeg (0 : Int32)) → (vp_in (2 : Int32) 9) ∧ ∀ S_5 : sT, S_5 = uI (uA S_3 14 (upd (vA S_3 14) (2 : Int32).toNatClampNeg (((1 : Int32) <<< ((vI S_3 9) &&& 31)) - (1 : Int32)))) 17 (0 : Int32) → ∃ n : Nat, wl_X5_begins_35 Q n (0 : Int32) S_5
set_option maxHeartbeats 4000000 in
set_option maxRecDepth 100000 in
theorem bk_X5_begins {p : Program} {l : Launch} {e : Env} {s : State} {m : MethodId} {args : Array Value} {below : List Frame} {meth : Method} {c : Code} {Z : State → Prop} {D : va_G} {cA : Nat → ClassId} {h : Nat → Nat} {Q : sT → Prop} (C0 : cx p s m args c cX5_begins 2 RX5 D cA false keysRA h) (hret : rtV p l e rm_X5_begins s m args below meth c cX5_begins Z D (wR h cA) (aK keysRA h s.heap.size) Q) {S : sT} {H : Heap} {locs : List Loc} {ls : Array Slot} (hP : va_P D vwCl (wR h cA S) H) (hS : va_S (aK keysRA h s.heap.size) s.heap H locs) (hd : wp_X5_begins S Q) (hl : lv_has ls 2 [(0, .ref (h 100))]) : W p l e rm_X5_begins s m args below meth c H locs 0 0 Z (F0 m 0 ls []) := by
  obtain ⟨⟨hx, hb, hml, hown, hts⟩, hK, -, -⟩ := id C0
  unfold wp_X5_begins at hd
  refine lv_aload_n hx hb dX5_begins_0 rfl (lv_at hl 0 rfl) ?_
  refine gf_X5_35 C0 hP dX5_begins_1 ?_
  refine lv_iconst (v := 0) hx hb dX5_begins_4 (by decide) ?_
  refine lv_iconst (v := 0) hx hb dX5_begins_5 (by decide) ?_
  obtain ⟨h_1, hd⟩ := hd
  refine stR (by decide) C0 hP hS h_1 dX5_begins_6 (fun H locs hP hS => ?_)
  refine lv_aload_n hx hb dX5_begins_7 rfl (lv_at hl 0 rfl) ?_
  refine gf_X5_35 C0 hP dX5_begins_8 ?_
  refine lv_iconst (v := 1) hx hb dX5_begins_11 (by decide) ?_
  refine lv_iconst (v := 0) hx hb dX5_begins_12 (by decide) ?_
  obtain ⟨h_2, hd⟩ := hd
  refine stR (by decide) C0 hP hS h_2 dX5_begins_13 (fun H locs hP hS => ?_)
  obtain ⟨S_3, eS_3⟩ : ∃ x : sT, x = uA (uA S 14 (upd (vA S 14) (0 : Int32).toNatClampNeg (0 : Int32))) 14 (upd (vA (uA S 14 (upd (vA S 14) (0 : Int32).toNatClampNeg (0 : Int32))) 14) (1 : Int32).toNatClampNeg (0 : Int32)) := ⟨_, rfl⟩
  rw [← eS_3] at hP
  have hd := hd S_3 eS_3
  refine lv_aload_n hx hb dX5_begins_14 rfl (lv_at hl 0 rfl) ?_
  refine gf_X5_35 C0 hP dX5_begins_15 ?_
  refine lv_iconst (v := 2) hx hb dX5_begins_18 (by decide) ?_
  refine lv_iconst (v := 1) hx hb dX5_begins_19 (by decide) ?_
  refine lv_aload_n hx hb dX5_begins_20 rfl (lv_at hl 0 rfl) ?_
  refine gf_X5_97 C0 hP dX5_begins_21 ?_
  refine lv_ishl hx hb dX5_begins_24 ?_
  refine lv_iconst (v := 1) hx hb dX5_begins_25 (by decide) ?_
  refine lv_isub hx hb dX5_begins_26 ?_
  obtain ⟨h_4, hd⟩ := hd
  refine stR (by decide) C0 hP hS h_4 dX5_begins_27 (fun H locs hP hS => ?_)
  refine lv_aload_n hx hb dX5_begins_28 rfl (lv_at hl 0 rfl) ?_
  refine lv_iconst (v := 0) hx hb dX5_begins_29 (by decide) ?_
  refine pf_X5_100 C0 hP hS dX5_begins_30 (fun H locs hP hS => ?_)
  obtain ⟨S_5, eS_5⟩ : ∃ x : sT, x = uI (uA S_3 14 (upd (vA S_3 14) (2 : Int32).toNatClampNeg (((1 : Int32) <<< ((vI S_3 9) &&& 31)) - (1 : Int32)))) 17 (0 : Int32) := ⟨_, rfl⟩
  rw [← eS_5] at hP
  have hd := hd S_5 eS_5
  refine lv_iconst (v := 0) hx hb dX5_begins_33 (by decide) ?_
  refine lv_istore_n (lv' := [(1, .int (0 : Int32)), (0, .ref (h 100))]) hx hb dX5_begins_34 rfl hl (by decide) rfl (fun ls hl => ?_)
  obtain ⟨n_6, hd⟩ := hd
  exact bl_X5_begins_35 C0 hret _ _ _ _ _ _ hP hS hd (lv_sub hl [1, 0] rfl)
theorem c_X5_begins (l : Launch) {D : va_G} {cA : Nat → ClassId} {h : Nat → Nat} (hk : ky keysRA h) {S : sT} (sz : Nat) {Q : sT → Prop} (hd : wp_X5_begins S Q) : Met l yX5_begins (wsU yX5_begins cX5_begins 2 none) rm_X5_begins (va_Pc [.ref (h 100)] (gP D cA false keysRA h (wR h cA) S sz)) (va_Qv Q (wB D (wR h cA)) (aK keysRA h sz)) 0 0 (aK keysRA h sz) :=
  mk_v (by decide) hk (Nat.le_of_ble_eq_true rfl) (fun p e s m below meth c Z ls C0 hret hP hS hl => bk_X5_begins C0 hret hP hS hd hl)
abbrev rm_X5_bits : Room := { frames := 0, cells := 0, slots := 0, locals := 0 }
def wb_X5_bits_4 (Q : Int32 → sT → Prop) (K4 : Int32 → Int32 → sT → Prop) (x1 : Int32) (x2 : Int32) (S : sT) : Prop :=
  ((x2 = 0 → Q x1 S) ∧ (¬ x2 = 0 → K4 (x1 + (1 : Int32)) (x2 &&& (x2 - (1 : Int32))) S))
set_option maxHeartbeats 4000000 in
set_option maxRecDepth 100000 in
theorem bk_X5_bits_4 {p : Program} {l : Launch} {e : Env} {s : State} {m : MethodId} {args : Array Value} {below : List Frame} {meth : Method} {c : Code} {Z : State → Prop} {D : va_G} {cA : Nat → ClassId} {h : Nat → Nat} {Q : Int32 → sT → Prop} (C0 : cx p s m args c cX5_bits 3 RX5 D cA false keysRA h) (hret : rtI p l e rm_X5_bits s m args below meth c cX5_bits Z D (wR h cA) (aK keysRA h s.heap.size) Q) {K4 : Int32 → Int32 → sT → Prop} (k4 : ∀ (x1 : Int32) (x2 : Int32) (S : sT) (H : Heap) (locs : List Loc) (ls : Array Slot), K4 x1 x2 S → va_P D vwCl (wR h cA S) H → va_S (aK keysRA h s.heap.size) s.heap H locs → lv_has ls 3 [(1, .int x1), (2, .int x2)] → W p l e rm_X5_bits s m args below meth c H locs 0 0 Z (F0 m 4 ls [])) {x1 : Int32} {x2 : Int32} {S : sT} {H : Heap} {locs : List Loc} {ls : Array Slot} (hP : va_P D vwCl (wR h cA S) H) (hS : va_S (aK keysRA h s.heap.size) s.heap H locs) (hd : wb_X5_bits_4 Q K4 x1 x2 S) (hl : lv_has ls 3 [(1, .int x1), (2, .int x2)]) : W p l e rm_X5_bits s m args below meth c H locs 0 0 Z (F0 m 4 ls []) := by
  obtain ⟨⟨hx, hb, hml, hown, hts⟩, hK, -, -⟩ := id C0
  unfold wb_X5_bits_4 at hd
  refine lv_iload_n hx hb dX5_bits_4 rfl (lv_at hl 1 rfl) ?_
  refine lv_if_eq (tgt := 20) hx hb dX5_bits_5 (by decide) (fun hc => ?_) (fun hc => ?_)
  · have hd := hd.1 hc
    refine lv_iload_n hx hb dX5_bits_20 rfl (lv_at hl 0 rfl) ?_
    exact hret _ _ _ _ _ _ hd hP hS dX5_bits_21
  · have hd := hd.2 hc
    refine lv_iinc (v := x1 + (1 : Int32)) (lv' := [(1, .int (x1 + (1 : Int32))), (2, .int x2)]) hx hb dX5_bits_8 hl (k := 0) rfl rfl (by decide) rfl (fun ls hl => ?_)
    refine lv_iload_n hx hb dX5_bits_11 rfl (lv_at hl 1 rfl) ?_
    refine lv_iload_n hx hb dX5_bits_12 rfl (lv_at hl 1 rfl) ?_
    refine lv_iconst (v := 1) hx hb dX5_bits_13 (by decide) ?_
    refine lv_isub hx hb dX5_bits_14 ?_
    refine lv_iand hx hb dX5_bits_15 ?_
    refine lv_istore_n (lv' := [(2, .int (x2 &&& (x2 - (1 : Int32)))), (1, .int (x1 + (1 : Int32)))]) hx hb dX5_bits_16 rfl hl (by decide) rfl (fun ls hl => ?_)
    refine lv_goto (tgt := 4) hx hb dX5_bits_17 (by decide) ?_
    exact k4 _ _ _ _ _ _ hd hP hS (lv_sub hl [1, 0] rfl)
def wl_X5_bits_4 (Q : Int32 → sT → Prop) : Nat → Int32 → Int32 → sT → Prop
  | 0, _, _ => fun _ => False
  | n + 1, x1, x2 => fun S => wb_X5_bits_4 Q (fun x1 x2 S => wl_X5_bits_4 Q n x1 x2 S) x1 x2 S
theorem bl_X5_bits_4 {p : Program} {l : Launch} {e : Env} {s : State} {m : MethodId} {args : Array Value} {below : List Frame} {meth : Method} {c : Code} {Z : State → Prop} {D : va_G} {cA : Nat → ClassId} {h : Nat → Nat} {Q : Int32 → sT → Prop} (C0 : cx p s m args c cX5_bits 3 RX5 D cA false keysRA h) (hret : rtI p l e rm_X5_bits s m args below meth c cX5_bits Z D (wR h cA) (aK keysRA h s.heap.size) Q) : ∀ (n : Nat) (x1 : Int32) (x2 : Int32) (S : sT) (H : Heap) (locs : List Loc) (ls : Array Slot), va_P D vwCl (wR h cA S) H → va_S (aK keysRA h s.heap.size) s.heap H locs → wl_X5_bits_4 Q n x1 x2 S → lv_has ls 3 [(1, .int x1), (2, .int x2)] → W p l e rm_X5_bits s m args below meth c H locs 0 0 Z (F0 m 4 ls []) := by
  intro n
  induction n with
  | zero => intro x1 x2 S H locs ls hP hS hd hl; exact (show False from hd).elim
  | succ n ih => intro x1 x2 S H locs ls hP hS hd hl; exact bk_X5_bits_4 C0 hret (fun x1 x2 S H locs ls hd hP hS hl => ih x1 x2 S H locs ls hP hS hd hl) hP hS hd hl
def wp_X5_bits (x0 : Int32) (S : sT) (Q : Int32 → sT → Prop) : Prop :=
  ∃ n : Nat, wl_X5_bits_4 Q n (0 : Int32) x0 S
set_option maxHeartbeats 4000000 in
set_option maxRecDepth 100000 in
theorem bk_X5_bits {p : Program} {l : Launch} {e : Env} {s : State} {m : MethodId} {args : Array Value} {below : List Frame} {meth : Method} {c : Code} {Z : State → Prop} {D : va_G} {cA : Nat → ClassId} {h : Nat → Nat} {Q : Int32 → sT → Prop} (C0 : cx p s m args c cX5_bits 3 RX5 D cA false keysRA h) (hret : rtI p l e rm_X5_bits s m args below meth c cX5_bits Z D (wR h cA) (aK keysRA h s.heap.size) Q) {x0 : Int32} {S : sT} {H : Heap} {locs : List Loc} {ls : Array Slot} (hP : va_P D vwCl (wR h cA S) H) (hS : va_S (aK keysRA h s.heap.size) s.heap H locs) (hd : wp_X5_bits x0 S Q) (hl : lv_has ls 3 [(0, .int x0)]) : W p l e rm_X5_bits s m args below meth c H locs 0 0 Z (F0 m 0 ls []) := by
  obtain ⟨⟨hx, hb, hml, hown, hts⟩, hK, -, -⟩ := id C0
  unfold wp_X5_bits at hd
  refine lv_iconst (v := 0) hx hb dX5_bits_0 (by decide) ?_
  refine lv_istore_n (lv' := [(1, .int (0 : Int32)), (0, .int x0)]) hx hb dX5_bits_1 rfl hl (by decide) rfl (fun ls hl => ?_)
  refine lv_iload_n hx hb dX5_bits_2 rfl (lv_at hl 1 rfl) ?_
  refine lv_istore_n (lv' := [(2, .int x0), (1, .int (0 : Int32)), (0, .int x0)]) hx hb dX5_bits_3 rfl hl (by decide) rfl (fun ls hl => ?_)
  obtain ⟨n_1, hd⟩ := hd
  exact bl_X5_bits_4 C0 hret _ _ _ _ _ _ _ hP hS hd (lv_sub hl [1, 0] rfl)
theorem c_X5_bits (l : Launch) {D : va_G} {cA : Nat → ClassId} {h : Nat → Nat} (hk : ky keysRA h) {x0 : Int32} {S : sT} (sz : Nat) {Q : Int32 → sT → Prop} (hd : wp_X5_bits x0 S Q) : Met l yX5_bits (wsU yX5_bits cX5_bits 3 (some .int)) rm_X5_bits (va_Pc [.int x0] (gP D cA false keysRA h (wR h cA) S sz)) (va_Qi Q (wB D (wR h cA)) (aK keysRA h sz)) 0 0 (aK keysRA h sz) :=
  mk_i (by decide) hk (Nat.le_of_ble_eq_true rfl) (fun p e s m below meth c Z ls C0 hret hP hS hl => bk_X5_bits C0 hret hP hS hd hl)
abbrev rm_X5_comes : Room := { frames := 4, cells := 0, slots := 0, locals := 92 }
def wb_X5_comes_16 (Q : Int32 → sT → Prop) (K16 : Int32 → sT → Prop) (x1 : Int32) (S : sT) : Prop :=
  (((61 : Int32) ≤ x1 → Q (-9 : Int32) S) ∧ (¬ (61 : Int32) ≤ x1 → (vp_in (1 : Int32) 9) ∧ ((¬ (vA S 15 (1 : Int32).toNatClampNeg) = (vI S 10) → wp_X5_goes 15 S (fun r_2 S_2 => K16 (x1 + (1 : Int32)) S_2)) ∧ ((vA S 15 (1 : Int32).toNatClampNeg) = (vI S 10) → (vp_in (0 : Int32) 9) ∧ wp_X5_answer x1 (vA S 15 (0 : Int32).toNatClampNeg) S (fun r_4 S_4 => Q r_4 S_4)))))
set_option maxHeartbeats 4000000 in
set_option maxRecDepth 100000 in
theorem bk_X5_comes_16 {p : Program} {l : Launch} {e : Env} {s : State} {m : MethodId} {args : Array Value} {below : List Frame} {meth : Method} {c : Code} {Z : State → Prop} {D : va_G} {cA : Nat → ClassId} {h : Nat → Nat} {Q : Int32 → sT → Prop} (C0 : cx p s m args c cX5_comes 3 RX5 D cA false keysRA h) (hret : rtI p l e rm_X5_comes s m args below meth c cX5_comes Z D (wR h cA) (aK keysRA h s.heap.size) Q) {K16 : Int32 → sT → Prop} (k16 : ∀ (x1 : Int32) (S : sT) (H : Heap) (locs : List Loc) (ls : Array Slot), K16 x1 S → va_P D vwCl (wR h cA S) H → va_S (aK keysRA h s.heap.size) s.heap H locs → lv_has ls 3 [(0, .ref (h 100)), (1, .int x1)] → W p l e rm_X5_comes s m args below meth c H locs 0 0 Z (F0 m 16 ls [])) {x1 : Int32} {S : sT} {H : Heap} {locs : List Loc} {ls : Array Slot} (hP : va_P D vwCl (wR h cA S) H) (hS : va_S (aK keysRA h s.heap.size) s.heap H locs) (hd : wb_X5_comes_16 Q K16 x1 S) (hl : lv_has ls 3 [(0, .ref (h 100)), (1, .int x1)]) : W p l e rm_X5_comes s m args below meth c H locs 0 0 Z (F0 m 16 ls []) := by
  obtain ⟨⟨hx, hb, hml, hown, hts⟩, hK, -, -⟩ := id C0
  unfold wb_X5_comes_16 at hd
  refine lv_iload_n hx hb dX5_comes_16 rfl (lv_at hl 1 rfl) ?_
  refine lv_bipush (v := 61) hx hb dX5_comes_17 (by decide) ?_
  refine lv_icmp_ge (tgt := 62) hx hb dX5_comes_19 (by decide) (fun hc => ?_) (fun hc => ?_)
  · have hd := hd.1 hc
    refine lv_bipush (v := (-9)) hx hb dX5_comes_62 (by decide) ?_
    exact hret _ _ _ _ _ _ hd hP hS dX5_comes_64
  · have hd := hd.2 hc
    refine lv_aload_n hx hb dX5_comes_22 rfl (lv_at hl 0 rfl) ?_
    refine gf_X5_38 C0 hP dX5_comes_23 ?_
    refine lv_iconst (v := 1) hx hb dX5_comes_26 (by decide) ?_
    obtain ⟨h_1, hd⟩ := hd
    refine ldR (by decide) C0 hP h_1 dX5_comes_27 ?_
    refine lv_aload_n hx hb dX5_comes_28 rfl (lv_at hl 0 rfl) ?_
    refine gf_X5_155 C0 hP dX5_comes_29 ?_
    refine lv_icmp_ne (tgt := 47) hx hb dX5_comes_32 (by decide) (fun hc => ?_) (fun hc => ?_)
    · have hd := hd.1 hc
      refine lv_aload_n hx hb dX5_comes_47 rfl (lv_at hl 0 rfl) ?_
      refine lv_aload_n hx hb dX5_comes_48 rfl (lv_at hl 0 rfl) ?_
      refine gf_X5_38 C0 hP dX5_comes_49 ?_
      refine cl_Vi (n := 1) (rest := []) C0 hP hS (c_X5_goes l C0.2.2.1 (by decide) _ hd) (lwG_V lm_X5_204 li_X5_goes lx_X5_goes lz_RX5 lc_X5_goes) (by decide +kernel) (oR_at h cA _) rfl rfl rfl (Nat.le_of_ble_eq_true rfl) ⟨rfl, rfl⟩ ⟨by decide, by decide⟩ dX5_comes_52 hl.1 ⟨Nat.zero_le _, Nat.zero_le _⟩ (fun r_2 S_2 H locs hd hP hS => ?_)
      refine lv_istore_n (lv' := [(2, .int r_2), (0, .ref (h 100)), (1, .int x1)]) hx hb dX5_comes_55 rfl hl (by decide) rfl (fun ls hl => ?_)
      refine lv_iinc (v := x1 + (1 : Int32)) (lv' := [(1, .int (x1 + (1 : Int32))), (2, .int r_2), (0, .ref (h 100))]) hx hb dX5_comes_56 hl (k := 2) rfl rfl (by decide) rfl (fun ls hl => ?_)
      refine lv_goto (tgt := 16) hx hb dX5_comes_59 (by decide) ?_
      exact k16 _ _ _ _ _ hd hP hS (lv_sub hl [2, 0] rfl)
    · have hd := hd.2 hc
      refine lv_aload_n hx hb dX5_comes_35 rfl (lv_at hl 0 rfl) ?_
      refine lv_iload_n hx hb dX5_comes_36 rfl (lv_at hl 1 rfl) ?_
      refine lv_aload_n hx hb dX5_comes_37 rfl (lv_at hl 0 rfl) ?_
      refine gf_X5_38 C0 hP dX5_comes_38 ?_
      refine lv_iconst (v := 0) hx hb dX5_comes_41 (by decide) ?_
      obtain ⟨h_3, hd⟩ := hd
      refine ldR (by decide) C0 hP h_3 dX5_comes_42 ?_
      refine cl_Vi (n := 2) (rest := []) C0 hP hS (c_X5_answer l C0.2.2.1 _ hd) (lwG_V lm_X5_216 li_X5_answer lx_X5_answer lz_RX5 lc_X5_answer) (by decide +kernel) (oR_at h cA _) rfl rfl rfl (Nat.le_of_ble_eq_true rfl) ⟨rfl, rfl⟩ ⟨by decide, by decide⟩ dX5_comes_43 hl.1 ⟨Nat.zero_le _, Nat.zero_le _⟩ (fun r_4 S_4 H locs hd hP hS => ?_)
      exact hret _ _ _ _ _ _ hd hP hS dX5_comes_46
def wl_X5_comes_16 (Q : Int32 → sT → Prop) : Nat → Int32 → sT → Prop
  | 0, _ => fun _ => False
  | n + 1, x1 => fun S => wb_X5_comes_16 Q (fun x1 S => wl_X5_comes_16 Q n x1 S) x1 S
theorem bl_X5_comes_16 {p : Program} {l : Launch} {e : Env} {s : State} {m : MethodId} {args : Array Value} {below : List Frame} {meth : Method} {c : Code} {Z : State → Prop} {D : va_G} {cA : Nat → ClassId} {h : Nat → Nat} {Q : Int32 → sT → Prop} (C0 : cx p s m args c cX5_comes 3 RX5 D cA false keysRA h) (hret : rtI p l e rm_X5_comes s m args below meth c cX5_comes Z D (wR h cA) (aK keysRA h s.heap.size) Q) : ∀ (n : Nat) (x1 : Int32) (S : sT) (H : Heap) (locs : List Loc) (ls : Array Slot), va_P D vwCl (wR h cA S) H → va_S (aK keysRA h s.heap.size) s.heap H locs → wl_X5_comes_16 Q n x1 S → lv_has ls 3 [(0, .ref (h 100)), (1, .int x1)] → W p l e rm_X5_comes s m args below meth c H locs 0 0 Z (F0 m 16 ls []) := by
  intro n
  induction n with
  | zero => intro x1 S H locs ls hP hS hd hl; exact (show False from hd).elim
  | succ n ih => intro x1 S H locs ls hP hS hd hl; exact bk_X5_comes_16 C0 hret (fun x1 S H locs ls hd hP hS hl => ih x1 S H locs ls hP hS hd hl) hP hS hd hl
def wp_X5_comes (S : sT) (Q : Int32 → sT → Prop) : Prop :=
  ((¬ (vI S 9) = 0 → wp_X5_layAside S (fun S_1 => ∃ n : Nat, wl_X5_comes_16 Q n (0 : Int32) S_1)) ∧ ((vI S 9) = 0 → Q (-4 : Int32) S))
set_option maxHeartbeats 4000000 in
set_option maxRecDepth 100000 in
theorem bk_X5_comes {p : Program} {l : Launch} {e : Env} {s : State} {m : MethodId} {args : Array Value} {below : List Frame} {meth : Method} {c : Code} {Z : State → Prop} {D : va_G} {cA : Nat → ClassId} {h : Nat → Nat} {Q : Int32 → sT → Prop} (C0 : cx p s m args c cX5_comes 3 RX5 D cA false keysRA h) (hret : rtI p l e rm_X5_comes s m args below meth c cX5_comes Z D (wR h cA) (aK keysRA h s.heap.size) Q) {S : sT} {H : Heap} {locs : List Loc} {ls : Array Slot} (hP : va_P D vwCl (wR h cA S) H) (hS : va_S (aK keysRA h s.heap.size) s.heap H locs) (hd : wp_X5_comes S Q) (hl : lv_has ls 3 [(0, .ref (h 100))]) : W p l e rm_X5_comes s m args below meth c H locs 0 0 Z (F0 m 0 ls []) := by
  obtain ⟨⟨hx, hb, hml, hown, hts⟩, hK, -, -⟩ := id C0
  unfold wp_X5_comes at hd
  refine lv_aload_n hx hb dX5_comes_0 rfl (lv_at hl 0 rfl) ?_
  refine gf_X5_97 C0 hP dX5_comes_1 ?_
  refine lv_if_ne (tgt := 10) hx hb dX5_comes_4 (by decide) (fun hc => ?_) (fun hc => ?_)
  · have hd := hd.1 hc
    refine lv_aload_n hx hb dX5_comes_10 rfl (lv_at hl 0 rfl) ?_
    refine cl_Vv (n := 0) (rest := []) C0 hP hS (c_X5_layAside l C0.2.2.1 _ hd) (lwG_V lm_X5_213 li_X5_layAside lx_X5_layAside lz_RX5 lc_X5_layAside) (by decide +kernel) (oR_at h cA _) rfl rfl rfl (Nat.le_of_ble_eq_true rfl) ⟨rfl, rfl⟩ ⟨by decide, by decide⟩ dX5_comes_11 hl.1 ⟨Nat.zero_le _, Nat.zero_le _⟩ (fun S_1 H locs hd hP hS => ?_)
    refine lv_iconst (v := 0) hx hb dX5_comes_14 (by decide) ?_
    refine lv_istore_n (lv' := [(1, .int (0 : Int32)), (0, .ref (h 100))]) hx hb dX5_comes_15 rfl hl (by decide) rfl (fun ls hl => ?_)
    obtain ⟨n_2, hd⟩ := hd
    exact bl_X5_comes_16 C0 hret _ _ _ _ _ _ hP hS hd (lv_sub hl [1, 0] rfl)
  · have hd := hd.2 hc
    refine lv_bipush (v := (-4)) hx hb dX5_comes_7 (by decide) ?_
    exact hret _ _ _ _ _ _ hd hP hS dX5_comes_9
theorem c_X5_comes (l : Launch) {D : va_G} {cA : Nat → ClassId} {h : Nat → Nat} (hk : ky keysRA h) {S : sT} (sz : Nat) {Q : Int32 → sT → Prop} (hd : wp_X5_comes S Q) : Met l yX5_comes (wsU yX5_comes cX5_comes 3 (some .int)) rm_X5_comes (va_Pc [.ref (h 100)] (gP D cA false keysRA h (wR h cA) S sz)) (va_Qi Q (wB D (wR h cA)) (aK keysRA h sz)) 0 0 (aK keysRA h sz) :=
  mk_i (by decide) hk (Nat.le_of_ble_eq_true rfl) (fun p e s m below meth c Z ls C0 hret hP hS hl => bk_X5_comes C0 hret hP hS hd hl)
abbrev rm_X5_copy : Room := { frames := 2, cells := 0, slots := 0, locals := 45 }
def wb_X5_copy_45 (Q : Int32 → sT → Prop) (S : sT) : Prop :=
  wp_X5_found (1 : Int32) S (fun r_1 S_1 => Q r_1 S_1)
set_option maxHeartbeats 4000000 in
set_option maxRecDepth 100000 in
theorem bk_X5_copy_45 {p : Program} {l : Launch} {e : Env} {s : State} {m : MethodId} {args : Array Value} {below : List Frame} {meth : Method} {c : Code} {Z : State → Prop} {D : va_G} {cA : Nat → ClassId} {h : Nat → Nat} {Q : Int32 → sT → Prop} (C0 : cx p s m args c cX5_copy 8 RX5 D cA false keysRA h) (hret : rtI p l e rm_X5_copy s m args below meth c cX5_copy Z D (wR h cA) (aK keysRA h s.heap.size) Q) {S : sT} {H : Heap} {locs : List Loc} {ls : Array Slot} (hP : va_P D vwCl (wR h cA S) H) (hS : va_S (aK keysRA h s.heap.size) s.heap H locs) (hd : wb_X5_copy_45 Q S) (hl : lv_has ls 8 [(0, .ref (h 100))]) : W p l e rm_X5_copy s m args below meth c H locs 0 0 Z (F0 m 45 ls []) := by
  obtain ⟨⟨hx, hb, hml, hown, hts⟩, hK, -, -⟩ := id C0
  unfold wb_X5_copy_45 at hd
  refine lv_aload_n hx hb dX5_copy_45 rfl (lv_at hl 0 rfl) ?_
  refine lv_iconst (v := 1) hx hb dX5_copy_46 (by decide) ?_
  refine cl_Vi (n := 1) (rest := []) C0 hP hS (c_X5_found l C0.2.2.1 _ hd) (lwG_V lm_X5_87 li_X5_found lx_X5_found lz_RX5 lc_X5_found) (by decide +kernel) (oR_at h cA _) rfl rfl rfl (Nat.le_of_ble_eq_true rfl) ⟨rfl, rfl⟩ ⟨by decide, by decide⟩ dX5_copy_47 hl.1 ⟨Nat.zero_le _, Nat.zero_le _⟩ (fun r_1 S_1 H locs hd hP hS => ?_)
  exact hret _ _ _ _ _ _ hd hP hS dX5_copy_50
def wb_X5_copy_95 (Q : Int32 → sT → Prop) (S : sT) : Prop :=
  wp_X5_found (2 : Int32) S (fun r_1 S_1 => Q r_1 S_1)
set_option maxHeartbeats 4000000 in
set_option maxRecDepth 100000 in
theorem bk_X5_copy_95 {p : Program} {l : Launch} {e : Env} {s : State} {m : MethodId} {args : Array Value} {below : List Frame} {meth : Method} {c : Code} {Z : State → Prop} {D : va_G} {cA : Nat → ClassId} {h : Nat → Nat} {Q : Int32 → sT → Prop} (C0 : cx p s m args c cX5_copy 8 RX5 D cA false keysRA h) (hret : rtI p l e rm_X5_copy s m args below meth c cX5_copy Z D (wR h cA) (aK keysRA h s.heap.size) Q) {S : sT} {H : Heap} {locs : List Loc} {ls : Array Slot} (hP : va_P D vwCl (wR h cA S) H) (hS : va_S (aK keysRA h s.heap.size) s.heap H locs) (hd : wb_X5_copy_95 Q S) (hl : lv_has ls 8 [(0, .ref (h 100))]) : W p l e rm_X5_copy s m args below meth c H locs 0 0 Z (F0 m 95 ls []) := by
  obtain ⟨⟨hx, hb, hml, hown, hts⟩, hK, -, -⟩ := id C0
  unfold wb_X5_copy_95 at hd
  refine lv_aload_n hx hb dX5_copy_95 rfl (lv_at hl 0 rfl) ?_
  refine lv_iconst (v := 2) hx hb dX5_copy_96 (by decide) ?_
  refine cl_Vi (n := 1) (rest := []) C0 hP hS (c_X5_found l C0.2.2.1 _ hd) (lwG_V lm_X5_87 li_X5_found lx_X5_found lz_RX5 lc_X5_found) (by decide +kernel) (oR_at h cA _) rfl rfl rfl (Nat.le_of_ble_eq_true rfl) ⟨rfl, rfl⟩ ⟨by decide, by decide⟩ dX5_copy_97 hl.1 ⟨Nat.zero_le _, Nat.zero_le _⟩ (fun r_1 S_1 H locs hd hP hS => ?_)
  exact hret _ _ _ _ _ _ hd hP hS dX5_copy_100
def wb_X5_copy_129 (Q : Int32 → sT → Prop) (K104 : Int32 → Int32 → Int32 → Int32 → Int32 → Int32 → sT → Prop) (x1 : Int32) (x2 : Int32) (x3 : Int32) (x4 : Int32) (x5 : Int32) (x6 : Int32) (y0 : Int32) (S : sT) : Prop :=
  (vp_in ((((40 : Int32) * x1) + x2) + y0) 240) ∧ (vp_in ((((40 : Int32) * x3) + x4) + y0) 240) ∧ ∀ S_3 : sT, S_3 = uA S 0 (upd (vA S 0) ((((40 : Int32) * x3) + x4) + y0).toNatClampNeg (vA S 0 ((((40 : Int32) * x1) + x2) + y0).toNatClampNeg)) → K104 x1 x2 x3 x4 x5 (x6 + (1 : Int32)) S_3
set_option maxHeartbeats 4000000 in
set_option maxRecDepth 100000 in
theorem bk_X5_copy_129 {p : Program} {l : Launch} {e : Env} {s : State} {m : MethodId} {args : Array Value} {below : List Frame} {meth : Method} {c : Code} {Z : State → Prop} {D : va_G} {cA : Nat → ClassId} {h : Nat → Nat} {Q : Int32 → sT → Prop} (C0 : cx p s m args c cX5_copy 8 RX5 D cA false keysRA h) (hret : rtI p l e rm_X5_copy s m args below meth c cX5_copy Z D (wR h cA) (aK keysRA h s.heap.size) Q) {K104 : Int32 → Int32 → Int32 → Int32 → Int32 → Int32 → sT → Prop} (k104 : ∀ (x1 : Int32) (x2 : Int32) (x3 : Int32) (x4 : Int32) (x5 : Int32) (x6 : Int32) (S : sT) (H : Heap) (locs : List Loc) (ls : Array Slot), K104 x1 x2 x3 x4 x5 x6 S → va_P D vwCl (wR h cA S) H → va_S (aK keysRA h s.heap.size) s.heap H locs → lv_has ls 8 [(0, .ref (h 100)), (1, .int x1), (2, .int x2), (3, .int x3), (4, .int x4), (5, .int x5), (6, .int x6)] → W p l e rm_X5_copy s m args below meth c H locs 0 0 Z (F0 m 104 ls [])) {x1 : Int32} {x2 : Int32} {x3 : Int32} {x4 : Int32} {x5 : Int32} {x6 : Int32} {y0 : Int32} {S : sT} {H : Heap} {locs : List Loc} {ls : Array Slot} (hP : va_P D vwCl (wR h cA S) H) (hS : va_S (aK keysRA h s.heap.size) s.heap H locs) (hd : wb_X5_copy_129 Q K104 x1 x2 x3 x4 x5 x6 y0 S) (hl : lv_has ls 8 [(0, .ref (h 100)), (1, .int x1), (2, .int x2), (3, .int x3), (4, .int x4), (5, .int x5), (6, .int x6)]) : W p l e rm_X5_copy s m args below meth c H locs 0 0 Z (F0 m 129 ls [.int y0]) := by
  obtain ⟨⟨hx, hb, hml, hown, hts⟩, hK, -, -⟩ := id C0
  unfold wb_X5_copy_129 at hd
  refine lv_istore (lv' := [(7, .int y0), (0, .ref (h 100)), (1, .int x1), (2, .int x2), (3, .int x3), (4, .int x4), (5, .int x5), (6, .int x6)]) hx hb dX5_copy_129 hl (by decide) rfl (fun ls hl => ?_)
  refine lv_aload_n hx hb dX5_copy_131 rfl (lv_at hl 1 rfl) ?_
  refine gf_X5_7 C0 hP dX5_copy_132 ?_
  refine lv_bipush (v := 40) hx hb dX5_copy_135 (by decide) ?_
  refine lv_iload_n hx hb dX5_copy_137 rfl (lv_at hl 4 rfl) ?_
  refine lv_imul hx hb dX5_copy_138 ?_
  refine lv_iload hx hb dX5_copy_139 (lv_at hl 5 rfl) ?_
  refine lv_iadd hx hb dX5_copy_141 ?_
  refine lv_iload hx hb dX5_copy_142 (lv_at hl 0 rfl) ?_
  refine lv_iadd hx hb dX5_copy_144 ?_
  refine lv_aload_n hx hb dX5_copy_145 rfl (lv_at hl 1 rfl) ?_
  refine gf_X5_7 C0 hP dX5_copy_146 ?_
  refine lv_bipush (v := 40) hx hb dX5_copy_149 (by decide) ?_
  refine lv_iload_n hx hb dX5_copy_151 rfl (lv_at hl 2 rfl) ?_
  refine lv_imul hx hb dX5_copy_152 ?_
  refine lv_iload_n hx hb dX5_copy_153 rfl (lv_at hl 3 rfl) ?_
  refine lv_iadd hx hb dX5_copy_154 ?_
  refine lv_iload hx hb dX5_copy_155 (lv_at hl 0 rfl) ?_
  refine lv_iadd hx hb dX5_copy_157 ?_
  obtain ⟨h_1, hd⟩ := hd
  refine ldR (by decide) C0 hP h_1 dX5_copy_158 ?_
  obtain ⟨h_2, hd⟩ := hd
  refine stR (by decide) C0 hP hS h_2 dX5_copy_159 (fun H locs hP hS => ?_)
  obtain ⟨S_3, eS_3⟩ : ∃ x : sT, x = uA S 0 (upd (vA S 0) ((((40 : Int32) * x3) + x4) + y0).toNatClampNeg (vA S 0 ((((40 : Int32) * x1) + x2) + y0).toNatClampNeg)) := ⟨_, rfl⟩
  rw [← eS_3] at hP
  have hd := hd S_3 eS_3
  refine lv_iinc (v := x6 + (1 : Int32)) (lv' := [(6, .int (x6 + (1 : Int32))), (7, .int y0), (0, .ref (h 100)), (1, .int x1), (2, .int x2), (3, .int x3), (4, .int x4), (5, .int x5)]) hx hb dX5_copy_160 hl (k := 7) rfl rfl (by decide) rfl (fun ls hl => ?_)
  refine lv_goto (tgt := 104) hx hb dX5_copy_163 (by decide) ?_
  exact k104 _ _ _ _ _ _ _ _ _ _ hd hP hS (lv_sub hl [2, 3, 4, 5, 6, 7, 0] rfl)
def wb_X5_copy_104 (Q : Int32 → sT → Prop) (K104 : Int32 → Int32 → Int32 → Int32 → Int32 → Int32 → sT → Prop) (x1 : Int32) (x2 : Int32) (x3 : Int32) (x4 : Int32) (x5 : Int32) (x6 : Int32) (S : sT) : Prop :=
  ((x5 ≤ x6 → Q (1 : Int32) S) ∧ (¬ x5 ≤ x6 → ((x4 ≤ x2 → wb_X5_copy_129 Q K104 x1 x2 x3 x4 x5 x6 x6 S) ∧ (¬ x4 ≤ x2 → wb_X5_copy_129 Q K104 x1 x2 x3 x4 x5 x6 ((x5 - (1 : Int32)) - x6) S))))
set_option maxHeartbeats 4000000 in
set_option maxRecDepth 100000 in
theorem bk_X5_copy_104 {p : Program} {l : Launch} {e : Env} {s : State} {m : MethodId} {args : Array Value} {below : List Frame} {meth : Method} {c : Code} {Z : State → Prop} {D : va_G} {cA : Nat → ClassId} {h : Nat → Nat} {Q : Int32 → sT → Prop} (C0 : cx p s m args c cX5_copy 8 RX5 D cA false keysRA h) (hret : rtI p l e rm_X5_copy s m args below meth c cX5_copy Z D (wR h cA) (aK keysRA h s.heap.size) Q) {K104 : Int32 → Int32 → Int32 → Int32 → Int32 → Int32 → sT → Prop} (k104 : ∀ (x1 : Int32) (x2 : Int32) (x3 : Int32) (x4 : Int32) (x5 : Int32) (x6 : Int32) (S : sT) (H : Heap) (locs : List Loc) (ls : Array Slot), K104 x1 x2 x3 x4 x5 x6 S → va_P D vwCl (wR h cA S) H → va_S (aK keysRA h s.heap.size) s.heap H locs → lv_has ls 8 [(0, .ref (h 100)), (1, .int x1), (2, .int x2), (3, .int x3), (4, .int x4), (5, .int x5), (6, .int x6)] → W p l e rm_X5_copy s m args below meth c H locs 0 0 Z (F0 m 104 ls [])) {x1 : Int32} {x2 : Int32} {x3 : Int32} {x4 : Int32} {x5 : Int32} {x6 : Int32} {S : sT} {H : Heap} {locs : List Loc} {ls : Array Slot} (hP : va_P D vwCl (wR h cA S) H) (hS : va_S (aK keysRA h s.heap.size) s.heap H locs) (hd : wb_X5_copy_104 Q K104 x1 x2 x3 x4 x5 x6 S) (hl : lv_has ls 8 [(0, .ref (h 100)), (1, .int x1), (2, .int x2), (3, .int x3), (4, .int x4), (5, .int x5), (6, .int x6)]) : W p l e rm_X5_copy s m args below meth c H locs 0 0 Z (F0 m 104 ls []) := by
  obtain ⟨⟨hx, hb, hml, hown, hts⟩, hK, -, -⟩ := id C0
  unfold wb_X5_copy_104 at hd
  refine lv_iload hx hb dX5_copy_104 (lv_at hl 6 rfl) ?_
  refine lv_iload hx hb dX5_copy_106 (lv_at hl 5 rfl) ?_
  refine lv_icmp_ge (tgt := 166) hx hb dX5_copy_108 (by decide) (fun hc => ?_) (fun hc => ?_)
  · have hd := hd.1 hc
    refine lv_iconst (v := 1) hx hb dX5_copy_166 (by decide) ?_
    exact hret _ _ _ _ _ _ hd hP hS dX5_copy_167
  · have hd := hd.2 hc
    refine lv_iload hx hb dX5_copy_111 (lv_at hl 4 rfl) ?_
    refine lv_iload_n hx hb dX5_copy_113 rfl (lv_at hl 2 rfl) ?_
    refine lv_icmp_le (tgt := 127) hx hb dX5_copy_114 (by decide) (fun hc => ?_) (fun hc => ?_)
    · have hd := hd.1 hc
      refine lv_iload hx hb dX5_copy_127 (lv_at hl 6 rfl) ?_
      exact bk_X5_copy_129 C0 hret k104 hP hS hd (lv_sub hl [0, 1, 2, 3, 4, 5, 6] rfl)
    · have hd := hd.2 hc
      refine lv_iload hx hb dX5_copy_117 (lv_at hl 5 rfl) ?_
      refine lv_iconst (v := 1) hx hb dX5_copy_119 (by decide) ?_
      refine lv_isub hx hb dX5_copy_120 ?_
      refine lv_iload hx hb dX5_copy_121 (lv_at hl 6 rfl) ?_
      refine lv_isub hx hb dX5_copy_123 ?_
      refine lv_goto (tgt := 129) hx hb dX5_copy_124 (by decide) ?_
      exact bk_X5_copy_129 C0 hret k104 hP hS hd (lv_sub hl [0, 1, 2, 3, 4, 5, 6] rfl)
def wl_X5_copy_104 (Q : Int32 → sT → Prop) : Nat → Int32 → Int32 → Int32 → Int32 → Int32 → Int32 → sT → Prop
  | 0, _, _, _, _, _, _ => fun _ => False
  | n + 1, x1, x2, x3, x4, x5, x6 => fun S => wb_X5_copy_104 Q (fun x1 x2 x3 x4 x5 x6 S => wl_X5_copy_104 Q n x1 x2 x3 x4 x5 x6 S) x1 x2 x3 x4 x5 x6 S
theorem bl_X5_copy_104 {p : Program} {l : Launch} {e : Env} {s : State} {m : MethodId} {args : Array Value} {below : List Frame} {meth : Method} {c : Code} {Z : State → Prop} {D : va_G} {cA : Nat → ClassId} {h : Nat → Nat} {Q : Int32 → sT → Prop} (C0 : cx p s m args c cX5_copy 8 RX5 D cA false keysRA h) (hret : rtI p l e rm_X5_copy s m args below meth c cX5_copy Z D (wR h cA) (aK keysRA h s.heap.size) Q) : ∀ (n : Nat) (x1 : Int32) (x2 : Int32) (x3 : Int32) (x4 : Int32) (x5 : Int32) (x6 : Int32) (S : sT) (H : Heap) (locs : List Loc) (ls : Array Slot), va_P D vwCl (wR h cA S) H → va_S (aK keysRA h s.heap.size) s.heap H locs → wl_X5_copy_104 Q n x1 x2 x3 x4 x5 x6 S → lv_has ls 8 [(0, .ref (h 100)), (1, .int x1), (2, .int x2), (3, .int x3), (4, .int x4), (5, .int x5), (6, .int x6)] → W p l e rm_X5_copy s m args below meth c H locs 0 0 Z (F0 m 104 ls []) := by
  intro n
  induction n with
  | zero => intro x1 x2 x3 x4 x5 x6 S H locs ls hP hS hd hl; exact (show False from hd).elim
  | succ n ih => intro x1 x2 x3 x4 x5 x6 S H locs ls hP hS hd hl; exact bk_X5_copy_104 C0 hret (fun x1 x2 x3 x4 x5 x6 S H locs ls hd hP hS hl => ih x1 x2 x3 x4 x5 x6 S H locs ls hP hS hd hl) hP hS hd hl
def wp_X5_copy (x1 : Int32) (x2 : Int32) (x3 : Int32) (x4 : Int32) (x5 : Int32) (S : sT) (Q : Int32 → sT → Prop) : Prop :=
  wp_X5_isRow x1 S (fun r_1 S_1 => ((r_1 = 0 → Q (-1 : Int32) S_1) ∧ (¬ r_1 = 0 → wp_X5_isRow x3 S_1 (fun r_2 S_2 => ((¬ r_2 = 0 → ((0 ≤ x5 → (vp_in x1 6) ∧ (((vA S_2 1 x1.toNatClampNeg) < 0 → wb_X5_copy_45 Q S_2) ∧ (¬ (vA S_2 1 x1.toNatClampNeg) < 0 → (vp_in x3 6) ∧ ((0 ≤ (vA S_2 1 x3.toNatClampNeg) → ((x2 < 0 → wb_X5_copy_95 Q S_2) ∧ (¬ x2 < 0 → ((x4 < 0 → wb_X5_copy_95 Q S_2) ∧ (¬ x4 < 0 → (vp_in x1 6) ∧ ((0 < (lg_cmp (x2.toInt64 + x5.toInt64) ((vA S_2 1 x1.toNatClampNeg).toInt64)) → wb_X5_copy_95 Q S_2) ∧ (¬ 0 < (lg_cmp (x2.toInt64 + x5.toInt64) ((vA S_2 1 x1.toNatClampNeg).toInt64)) → (vp_in x3 6) ∧ (((lg_cmp (x4.toInt64 + x5.toInt64) ((vA S_2 1 x3.toNatClampNeg).toInt64)) ≤ 0 → ∃ n : Nat, wl_X5_copy_104 Q n x1 x2 x3 x4 x5 (0 : Int32) S_2) ∧ (¬ (lg_cmp (x4.toInt64 + x5.toInt64) ((vA S_2 1 x3.toNatClampNeg).toInt64)) ≤ 0 → wb_X5_copy_95 Q S_2))))))))) ∧ (¬ 0 ≤ (vA S_2 1 x3.toNatClampNeg) → wb_X5_copy_45 Q S_2))))) ∧ (¬ 0 ≤ x5 → wp_X5_found (5 : Int32) S_2 (fun r_8 S_8 => Q r_8 S_8)))) ∧ (r_2 = 0 → Q (-1 : Int32) S_2))))))
set_option maxHeartbeats 4000000 in
set_option maxRecDepth 100000 in
theorem bk_X5_copy {p : Program} {l : Launch} {e : Env} {s : State} {m : MethodId} {args : Array Value} {below : List Frame} {meth : Method} {c : Code} {Z : State → Prop} {D : va_G} {cA : Nat → ClassId} {h : Nat → Nat} {Q : Int32 → sT → Prop} (C0 : cx p s m args c cX5_copy 8 RX5 D cA false keysRA h) (hret : rtI p l e rm_X5_copy s m args below meth c cX5_copy Z D (wR h cA) (aK keysRA h s.heap.size) Q) {x1 : Int32} {x2 : Int32} {x3 : Int32} {x4 : Int32} {x5 : Int32} {S : sT} {H : Heap} {locs : List Loc} {ls : Array Slot} (hP : va_P D vwCl (wR h cA S) H) (hS : va_S (aK keysRA h s.heap.size) s.heap H locs) (hd : wp_X5_copy x1 x2 x3 x4 x5 S Q) (hl : lv_has ls 8 [(0, .ref (h 100)), (1, .int x1), (2, .int x2), (3, .int x3), (4, .int x4), (5, .int x5)]) : W p l e rm_X5_copy s m args below meth c H locs 0 0 Z (F0 m 0 ls []) := by
  obtain ⟨⟨hx, hb, hml, hown, hts⟩, hK, -, -⟩ := id C0
  unfold wp_X5_copy at hd
  refine lv_iload_n hx hb dX5_copy_0 rfl (lv_at hl 1 rfl) ?_
  refine cl_Si (n := 1) (rest := []) C0 hP hS (c_X5_isRow l C0.2.2.1 _ hd) (lwG_S lm_X5_83 ls_X5_isRow lz_RX5 lc_X5_isRow) (by decide +kernel) rfl rfl (Nat.le_of_ble_eq_true rfl) ⟨rfl, rfl⟩ ⟨by decide, by decide⟩ dX5_copy_1 hl.1 ⟨Nat.zero_le _, Nat.zero_le _⟩ (fun r_1 S_1 H locs hd hP hS => ?_)
  refine lv_if_eq (tgt := 14) hx hb dX5_copy_4 (by decide) (fun hc => ?_) (fun hc => ?_)
  · have hd := hd.1 hc
    refine lv_iconst (v := (-1)) hx hb dX5_copy_14 (by decide) ?_
    exact hret _ _ _ _ _ _ hd hP hS dX5_copy_15
  · have hd := hd.2 hc
    refine lv_iload_n hx hb dX5_copy_7 rfl (lv_at hl 3 rfl) ?_
    refine cl_Si (n := 1) (rest := []) C0 hP hS (c_X5_isRow l C0.2.2.1 _ hd) (lwG_S lm_X5_83 ls_X5_isRow lz_RX5 lc_X5_isRow) (by decide +kernel) rfl rfl (Nat.le_of_ble_eq_true rfl) ⟨rfl, rfl⟩ ⟨by decide, by decide⟩ dX5_copy_8 hl.1 ⟨Nat.zero_le _, Nat.zero_le _⟩ (fun r_2 S_2 H locs hd hP hS => ?_)
    refine lv_if_ne (tgt := 16) hx hb dX5_copy_11 (by decide) (fun hc => ?_) (fun hc => ?_)
    · have hd := hd.1 hc
      refine lv_iload hx hb dX5_copy_16 (lv_at hl 5 rfl) ?_
      refine lv_if_ge (tgt := 27) hx hb dX5_copy_18 (by decide) (fun hc => ?_) (fun hc => ?_)
      · have hd := hd.1 hc
        refine lv_aload_n hx hb dX5_copy_27 rfl (lv_at hl 0 rfl) ?_
        refine gf_X5_13 C0 hP dX5_copy_28 ?_
        refine lv_iload_n hx hb dX5_copy_31 rfl (lv_at hl 1 rfl) ?_
        obtain ⟨h_3, hd⟩ := hd
        refine ldR (by decide) C0 hP h_3 dX5_copy_32 ?_
        refine lv_if_lt (tgt := 45) hx hb dX5_copy_33 (by decide) (fun hc => ?_) (fun hc => ?_)
        · have hd := hd.1 hc
          exact bk_X5_copy_45 C0 hret hP hS hd (lv_sub hl [0] rfl)
        · have hd := hd.2 hc
          refine lv_aload_n hx hb dX5_copy_36 rfl (lv_at hl 0 rfl) ?_
          refine gf_X5_13 C0 hP dX5_copy_37 ?_
          refine lv_iload_n hx hb dX5_copy_40 rfl (lv_at hl 3 rfl) ?_
          obtain ⟨h_4, hd⟩ := hd
          refine ldR (by decide) C0 hP h_4 dX5_copy_41 ?_
          refine lv_if_ge (tgt := 51) hx hb dX5_copy_42 (by decide) (fun hc => ?_) (fun hc => ?_)
          · have hd := hd.1 hc
            refine lv_iload_n hx hb dX5_copy_51 rfl (lv_at hl 2 rfl) ?_
            refine lv_if_lt (tgt := 95) hx hb dX5_copy_52 (by decide) (fun hc => ?_) (fun hc => ?_)
            · have hd := hd.1 hc
              exact bk_X5_copy_95 C0 hret hP hS hd (lv_sub hl [0] rfl)
            · have hd := hd.2 hc
              refine lv_iload hx hb dX5_copy_55 (lv_at hl 4 rfl) ?_
              refine lv_if_lt (tgt := 95) hx hb dX5_copy_57 (by decide) (fun hc => ?_) (fun hc => ?_)
              · have hd := hd.1 hc
                exact bk_X5_copy_95 C0 hret hP hS hd (lv_sub hl [0] rfl)
              · have hd := hd.2 hc
                refine lv_iload_n hx hb dX5_copy_60 rfl (lv_at hl 2 rfl) ?_
                refine lv_i2l hx hb dX5_copy_61 rfl ?_
                refine lv_iload hx hb dX5_copy_62 (lv_at hl 5 rfl) ?_
                refine lv_i2l hx hb dX5_copy_64 rfl ?_
                refine lv_ladd hx hb dX5_copy_65 ?_
                refine lv_aload_n hx hb dX5_copy_66 rfl (lv_at hl 0 rfl) ?_
                refine gf_X5_13 C0 hP dX5_copy_67 ?_
                refine lv_iload_n hx hb dX5_copy_70 rfl (lv_at hl 1 rfl) ?_
                obtain ⟨h_5, hd⟩ := hd
                refine ldR (by decide) C0 hP h_5 dX5_copy_71 ?_
                refine lv_i2l hx hb dX5_copy_72 rfl ?_
                refine W.lcmp hx hb dX5_copy_73 ?_
                refine lv_if_gt (tgt := 95) hx hb dX5_copy_74 (by decide) (fun hc => ?_) (fun hc => ?_)
                · have hd := hd.1 hc
                  exact bk_X5_copy_95 C0 hret hP hS hd (lv_sub hl [0] rfl)
                · have hd := hd.2 hc
                  refine lv_iload hx hb dX5_copy_77 (lv_at hl 4 rfl) ?_
                  refine lv_i2l hx hb dX5_copy_79 rfl ?_
                  refine lv_iload hx hb dX5_copy_80 (lv_at hl 5 rfl) ?_
                  refine lv_i2l hx hb dX5_copy_82 rfl ?_
                  refine lv_ladd hx hb dX5_copy_83 ?_
                  refine lv_aload_n hx hb dX5_copy_84 rfl (lv_at hl 0 rfl) ?_
                  refine gf_X5_13 C0 hP dX5_copy_85 ?_
                  refine lv_iload_n hx hb dX5_copy_88 rfl (lv_at hl 3 rfl) ?_
                  obtain ⟨h_6, hd⟩ := hd
                  refine ldR (by decide) C0 hP h_6 dX5_copy_89 ?_
                  refine lv_i2l hx hb dX5_copy_90 rfl ?_
                  refine W.lcmp hx hb dX5_copy_91 ?_
                  refine lv_if_le (tgt := 101) hx hb dX5_copy_92 (by decide) (fun hc => ?_) (fun hc => ?_)
                  · have hd := hd.1 hc
                    refine lv_iconst (v := 0) hx hb dX5_copy_101 (by decide) ?_
                    refine lv_istore (lv' := [(6, .int (0 : Int32)), (0, .ref (h 100)), (1, .int x1), (2, .int x2), (3, .int x3), (4, .int x4), (5, .int x5)]) hx hb dX5_copy_102 hl (by decide) rfl (fun ls hl => ?_)
                    obtain ⟨n_7, hd⟩ := hd
                    exact bl_X5_copy_104 C0 hret _ _ _ _ _ _ _ _ _ _ _ hP hS hd (lv_sub hl [1, 2, 3, 4, 5, 6, 0] rfl)
                  · have hd := hd.2 hc
                    exact bk_X5_copy_95 C0 hret hP hS hd (lv_sub hl [0] rfl)
          · have hd := hd.2 hc
            exact bk_X5_copy_45 C0 hret hP hS hd (lv_sub hl [0] rfl)
      · have hd := hd.2 hc
        refine lv_aload_n hx hb dX5_copy_21 rfl (lv_at hl 0 rfl) ?_
        refine lv_iconst (v := 5) hx hb dX5_copy_22 (by decide) ?_
        refine cl_Vi (n := 1) (rest := []) C0 hP hS (c_X5_found l C0.2.2.1 _ hd) (lwG_V lm_X5_87 li_X5_found lx_X5_found lz_RX5 lc_X5_found) (by decide +kernel) (oR_at h cA _) rfl rfl rfl (Nat.le_of_ble_eq_true rfl) ⟨rfl, rfl⟩ ⟨by decide, by decide⟩ dX5_copy_23 hl.1 ⟨Nat.zero_le _, Nat.zero_le _⟩ (fun r_8 S_8 H locs hd hP hS => ?_)
        exact hret _ _ _ _ _ _ hd hP hS dX5_copy_26
    · have hd := hd.2 hc
      refine lv_iconst (v := (-1)) hx hb dX5_copy_14 (by decide) ?_
      exact hret _ _ _ _ _ _ hd hP hS dX5_copy_15
theorem c_X5_copy (l : Launch) {D : va_G} {cA : Nat → ClassId} {h : Nat → Nat} (hk : ky keysRA h) {x1 : Int32} {x2 : Int32} {x3 : Int32} {x4 : Int32} {x5 : Int32} {S : sT} (sz : Nat) {Q : Int32 → sT → Prop} (hd : wp_X5_copy x1 x2 x3 x4 x5 S Q) : Met l yX5_copy (wsU yX5_copy cX5_copy 8 (some .int)) rm_X5_copy (va_Pc [.ref (h 100), .int x1, .int x2, .int x3, .int x4, .int x5] (gP D cA false keysRA h (wR h cA) S sz)) (va_Qi Q (wB D (wR h cA)) (aK keysRA h sz)) 0 0 (aK keysRA h sz) :=
  mk_i (by decide) hk (Nat.le_of_ble_eq_true rfl) (fun p e s m below meth c Z ls C0 hret hP hS hl => bk_X5_copy C0 hret hP hS hd hl)
