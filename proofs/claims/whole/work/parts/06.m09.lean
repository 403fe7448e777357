abbrev rm_X5_isOf : Room := { frames := 0, cells := 0, slots := 0, locals := 0 }
def wb_X5_isOf_15 (Q : Int32 → sT → Prop) (x0 : Int32) (x1 : Int32) (S : sT) : Prop :=
  ((¬ x0 = (5 : Int32) → Q (0 : Int32) S) ∧ (x0 = (5 : Int32) → ((¬ x1 = (2 : Int32) → Q (0 : Int32) S) ∧ (x1 = (2 : Int32) → Q (1 : Int32) S))))
set_option maxHeartbeats 4000000 in
set_option maxRecDepth 100000 in
theorem bk_X5_isOf_15 {p : Program} {l : Launch} {e : Env} {s : State} {m : MethodId} {args : Array Value} {below : List Frame} {meth : Method} {c : Code} {Z : State → Prop} {D : va_G} {cA : Nat → ClassId} {h : Nat → Nat} {Q : Int32 → sT → Prop} (C0 : cx p s m args c cX5_isOf 2 RX5 D cA false keysRA h) (hret : rtZ p l e rm_X5_isOf s m args below meth c cX5_isOf Z D (wR h cA) (aK keysRA h s.heap.size) Q) {x0 : Int32} {x1 : Int32} {S : sT} {H : Heap} {locs : List Loc} {ls : Array Slot} (hP : va_P D vwCl (wR h cA S) H) (hS : va_S (aK keysRA h s.heap.size) s.heap H locs) (hd : wb_X5_isOf_15 Q x0 x1 S) (hl : lv_has ls 2 [(0, .int x0), (1, .int x1)]) : W p l e rm_X5_isOf s m args below meth c H locs 0 0 Z (F0 m 15 ls []) := by
  obtain ⟨⟨hx, hb, hml, hown, hts⟩, hK, -, -⟩ := id C0
  unfold wb_X5_isOf_15 at hd
  refine lv_iload_n hx hb dX5_isOf_15 rfl (lv_at hl 0 rfl) ?_
  refine lv_iconst (v := 5) hx hb dX5_isOf_16 (by decide) ?_
  refine lv_icmp_ne (tgt := 29) hx hb dX5_isOf_17 (by decide) (fun hc => ?_) (fun hc => ?_)
  · have hd := hd.1 hc
    refine lv_iconst (v := 0) hx hb dX5_isOf_29 (by decide) ?_
    exact hret _ _ _ _ _ _ rfl hd hP hS dX5_isOf_30
  · have hd := hd.2 hc
    refine lv_iload_n hx hb dX5_isOf_20 rfl (lv_at hl 1 rfl) ?_
    refine lv_iconst (v := 2) hx hb dX5_isOf_21 (by decide) ?_
    refine lv_icmp_ne (tgt := 29) hx hb dX5_isOf_22 (by decide) (fun hc => ?_) (fun hc => ?_)
    · have hd := hd.1 hc
      refine lv_iconst (v := 0) hx hb dX5_isOf_29 (by decide) ?_
      exact hret _ _ _ _ _ _ rfl hd hP hS dX5_isOf_30
    · have hd := hd.2 hc
      refine lv_iconst (v := 1) hx hb dX5_isOf_25 (by decide) ?_
      refine lv_goto (tgt := 30) hx hb dX5_isOf_26 (by decide) ?_
      exact hret _ _ _ _ _ _ rfl hd hP hS dX5_isOf_30
def wp_X5_isOf (x0 : Int32) (x1 : Int32) (S : sT) (Q : Int32 → sT → Prop) : Prop :=
  ((x0 = x1 → Q (1 : Int32) S) ∧ (¬ x0 = x1 → ((¬ x0 = (4 : Int32) → wb_X5_isOf_15 Q x0 x1 S) ∧ (x0 = (4 : Int32) → ((x1 = (1 : Int32) → Q (1 : Int32) S) ∧ (¬ x1 = (1 : Int32) → wb_X5_isOf_15 Q x0 x1 S))))))
set_option maxHeartbeats 4000000 in
set_option maxRecDepth 100000 in
theorem bk_X5_isOf {p : Program} {l : Launch} {e : Env} {s : State} {m : MethodId} {args : Array Value} {below : List Frame} {meth : Method} {c : Code} {Z : State → Prop} {D : va_G} {cA : Nat → ClassId} {h : Nat → Nat} {Q : Int32 → sT → Prop} (C0 : cx p s m args c cX5_isOf 2 RX5 D cA false keysRA h) (hret : rtZ p l e rm_X5_isOf s m args below meth c cX5_isOf Z D (wR h cA) (aK keysRA h s.heap.size) Q) {x0 : Int32} {x1 : Int32} {S : sT} {H : Heap} {locs : List Loc} {ls : Array Slot} (hP : va_P D vwCl (wR h cA S) H) (hS : va_S (aK keysRA h s.heap.size) s.heap H locs) (hd : wp_X5_isOf x0 x1 S Q) (hl : lv_has ls 2 [(0, .int x0), (1, .int x1)]) : W p l e rm_X5_isOf s m args below meth c H locs 0 0 Z (F0 m 0 ls []) := by
  obtain ⟨⟨hx, hb, hml, hown, hts⟩, hK, -, -⟩ := id C0
  unfold wp_X5_isOf at hd
  refine lv_iload_n hx hb dX5_isOf_0 rfl (lv_at hl 0 rfl) ?_
  refine lv_iload_n hx hb dX5_isOf_1 rfl (lv_at hl 1 rfl) ?_
  refine lv_icmp_eq (tgt := 25) hx hb dX5_isOf_2 (by decide) (fun hc => ?_) (fun hc => ?_)
  · have hd := hd.1 hc
    refine lv_iconst (v := 1) hx hb dX5_isOf_25 (by decide) ?_
    refine lv_goto (tgt := 30) hx hb dX5_isOf_26 (by decide) ?_
    exact hret _ _ _ _ _ _ rfl hd hP hS dX5_isOf_30
  · have hd := hd.2 hc
    refine lv_iload_n hx hb dX5_isOf_5 rfl (lv_at hl 0 rfl) ?_
    refine lv_iconst (v := 4) hx hb dX5_isOf_6 (by decide) ?_
    refine lv_icmp_ne (tgt := 15) hx hb dX5_isOf_7 (by decide) (fun hc => ?_) (fun hc => ?_)
    · have hd := hd.1 hc
      exact bk_X5_isOf_15 C0 hret hP hS hd (lv_sub hl [0, 1] rfl)
    · have hd := hd.2 hc
      refine lv_iload_n hx hb dX5_isOf_10 rfl (lv_at hl 1 rfl) ?_
      refine lv_iconst (v := 1) hx hb dX5_isOf_11 (by decide) ?_
      refine lv_icmp_eq (tgt := 25) hx hb dX5_isOf_12 (by decide) (fun hc => ?_) (fun hc => ?_)
      · have hd := hd.1 hc
        refine lv_iconst (v := 1) hx hb dX5_isOf_25 (by decide) ?_
        refine lv_goto (tgt := 30) hx hb dX5_isOf_26 (by decide) ?_
        exact hret _ _ _ _ _ _ rfl hd hP hS dX5_isOf_30
      · have hd := hd.2 hc
        exact bk_X5_isOf_15 C0 hret hP hS hd (lv_sub hl [0, 1] rfl)
theorem c_X5_isOf (l : Launch) {D : va_G} {cA : Nat → ClassId} {h : Nat → Nat} (hk : ky keysRA h) {x0 : Int32} {x1 : Int32} {S : sT} (sz : Nat) {Q : Int32 → sT → Prop} (hd : wp_X5_isOf x0 x1 S Q) : Met l yX5_isOf (wsU yX5_isOf cX5_isOf 2 (some .boolean)) rm_X5_isOf (va_Pc [.int x0, .int x1] (gP D cA false keysRA h (wR h cA) S sz)) (va_Qi Q (wB D (wR h cA)) (aK keysRA h sz)) 0 0 (aK keysRA h sz) :=
  mk_z (by decide) hk (Nat.le_of_ble_eq_true rfl) (fun p e s m below meth c Z ls C0 hret hP hS hl => bk_X5_isOf C0 hret hP hS hd hl)
abbrev rm_X5_ofCheese : Room := { frames := 1, cells := 0, slots := 0, locals := 21 }
def wb_X5_ofCheese_31 (Q : Int32 → sT → Prop) (K4 : Int32 → Int32 → sT → Prop) (x2 : Int32) (y0 : Int32) (y1 : Int32) (S : sT) : Prop :=
  K4 (y0 + y1) (x2 + (1 : Int32)) S
set_option maxHeartbeats 4000000 in
set_option maxRecDepth 100000 in
theorem bk_X5_ofCheese_31 {p : Program} {l : Launch} {e : Env} {s : State} {m : MethodId} {args : Array Value} {below : List Frame} {meth : Method} {c : Code} {Z : State → Prop} {D : va_G} {cA : Nat → ClassId} {h : Nat → Nat} {Q : Int32 → sT → Prop} (C0 : cx p s m args c cX5_ofCheese 3 RX5 D cA false keysRA h) (hret : rtI p l e rm_X5_ofCheese s m args below meth c cX5_ofCheese Z D (wR h cA) (aK keysRA h s.heap.size) Q) {K4 : Int32 → Int32 → sT → Prop} (k4 : ∀ (x1 : Int32) (x2 : Int32) (S : sT) (H : Heap) (locs : List Loc) (ls : Array Slot), K4 x1 x2 S → va_P D vwCl (wR h cA S) H → va_S (aK keysRA h s.heap.size) s.heap H locs → lv_has ls 3 [(0, .ref (h 100)), (1, .int x1), (2, .int x2)] → W p l e rm_X5_ofCheese s m args below meth c H locs 0 0 Z (F0 m 4 ls [])) {x2 : Int32} {y0 : Int32} {y1 : Int32} {S : sT} {H : Heap} {locs : List Loc} {ls : Array Slot} (hP : va_P D vwCl (wR h cA S) H) (hS : va_S (aK keysRA h s.heap.size) s.heap H locs) (hd : wb_X5_ofCheese_31 Q K4 x2 y0 y1 S) (hl : lv_has ls 3 [(0, .ref (h 100)), (2, .int x2)]) : W p l e rm_X5_ofCheese s m args below meth c H locs 0 0 Z (F0 m 31 ls [.int y1, .int y0]) := by
  obtain ⟨⟨hx, hb, hml, hown, hts⟩, hK, -, -⟩ := id C0
  unfold wb_X5_ofCheese_31 at hd
  refine lv_iadd hx hb dX5_ofCheese_31 ?_
  refine lv_istore_n (lv' := [(1, .int (y0 + y1)), (0, .ref (h 100)), (2, .int x2)]) hx hb dX5_ofCheese_32 rfl hl (by decide) rfl (fun ls hl => ?_)
  refine lv_iinc (v := x2 + (1 : Int32)) (lv' := [(2, .int (x2 + (1 : Int32))), (1, .int (y0 + y1)), (0, .ref (h 100))]) hx hb dX5_ofCheese_33 hl (k := 2) rfl rfl (by decide) rfl (fun ls hl => ?_)
  refine lv_goto (tgt := 4) hx hb dX5_ofCheese_36 (by decide) ?_
  exact k4 _ _ _ _ _ _ hd hP hS (lv_sub hl [2, 1, 0] rfl)
def wb_X5_ofCheese_4 (Q : Int32 → sT → Prop) (K4 : Int32 → Int32 → sT → Prop) (x1 : Int32) (x2 : Int32) (S : sT) : Prop :=
  (((vI S 9) ≤ x2 → Q x1 S) ∧ (¬ (vI S 9) ≤ x2 → (vp_in x2 6) ∧ wp_X5_isOf (vA S 12 x2.toNatClampNeg) (1 : Int32) S (fun r_2 S_2 => ((r_2 = 0 → wb_X5_ofCheese_31 Q K4 x2 x1 (0 : Int32) S_2) ∧ (¬ r_2 = 0 → wb_X5_ofCheese_31 Q K4 x2 x1 (1 : Int32) S_2)))))
set_option maxHeartbeats 4000000 in
set_option maxRecDepth 100000 in
theorem bk_X5_ofCheese_4 {p : Program} {l : Launch} {e : Env} {s : State} {m : MethodId} {args : Array Value} {below : List Frame} {meth : Method} {c : Code} {Z : State → Prop} {D : va_G} {cA : Nat → ClassId} {h : Nat → Nat} {Q : Int32 → sT → Prop} (C0 : cx p s m args c cX5_ofCheese 3 RX5 D cA false keysRA h) (hret : rtI p l e rm_X5_ofCheese s m args below meth c cX5_ofCheese Z D (wR h cA) (aK keysRA h s.heap.size) Q) {K4 : Int32 → Int32 → sT → Prop} (k4 : ∀ (x1 : Int32) (x2 : Int32) (S : sT) (H : Heap) (locs : List Loc) (ls : Array Slot), K4 x1 x2 S → va_P D vwCl (wR h cA S) H → va_S (aK keysRA h s.heap.size) s.heap H locs → lv_has ls 3 [(0, .ref (h 100)), (1, .int x1), (2, .int x2)] → W p l e rm_X5_ofCheese s m args below meth c H locs 0 0 Z (F0 m 4 ls [])) {x1 : Int32} {x2 : Int32} {S : sT} {H : Heap} {locs : List Loc} {ls : Array Slot} (hP : va_P D vwCl (wR h cA S) H) (hS : va_S (aK keysRA h s.heap.size) s.heap H locs) (hd : wb_X5_ofCheese_4 Q K4 x1 x2 S) (hl : lv_has ls 3 [(0, .ref (h 100)), (1, .int x1), (2, .int x2)]) : W p l e rm_X5_ofCheese s m args below meth c H locs 0 0 Z (F0 m 4 ls []) := by
  obtain ⟨⟨hx, hb, hml, hown, hts⟩, hK, -, -⟩ := id C0
  unfold wb_X5_ofCheese_4 at hd
  refine lv_iload_n hx hb dX5_ofCheese_4 rfl (lv_at hl 2 rfl) ?_
  refine lv_aload_n hx hb dX5_ofCheese_5 rfl (lv_at hl 0 rfl) ?_
  refine gf_X5_97 C0 hP dX5_ofCheese_6 ?_
  refine lv_icmp_ge (tgt := 39) hx hb dX5_ofCheese_9 (by decide) (fun hc => ?_) (fun hc => ?_)
  · have hd := hd.1 hc
    refine lv_iload_n hx hb dX5_ofCheese_39 rfl (lv_at hl 1 rfl) ?_
    exact hret _ _ _ _ _ _ hd hP hS dX5_ofCheese_40
  · have hd := hd.2 hc
    refine lv_iload_n hx hb dX5_ofCheese_12 rfl (lv_at hl 1 rfl) ?_
    refine lv_aload_n hx hb dX5_ofCheese_13 rfl (lv_at hl 0 rfl) ?_
    refine gf_X5_29 C0 hP dX5_ofCheese_14 ?_
    refine lv_iload_n hx hb dX5_ofCheese_17 rfl (lv_at hl 2 rfl) ?_
    obtain ⟨h_1, hd⟩ := hd
    refine ldR (by decide) C0 hP h_1 dX5_ofCheese_18 ?_
    refine lv_iconst (v := 1) hx hb dX5_ofCheese_19 (by decide) ?_
    refine cl_Si (n := 2) (rest := [.int x1]) C0 hP hS (c_X5_isOf l C0.2.2.1 _ hd) (lwG_S lm_X5_184 ls_X5_isOf lz_RX5 lc_X5_isOf) (by decide +kernel) rfl rfl (Nat.le_of_ble_eq_true rfl) ⟨rfl, rfl⟩ ⟨by decide, by decide⟩ dX5_ofCheese_20 hl.1 ⟨Nat.zero_le _, Nat.zero_le _⟩ (fun r_2 S_2 H locs hd hP hS => ?_)
    refine lv_if_eq (tgt := 30) hx hb dX5_ofCheese_23 (by decide) (fun hc => ?_) (fun hc => ?_)
    · have hd := hd.1 hc
      refine lv_iconst (v := 0) hx hb dX5_ofCheese_30 (by decide) ?_
      exact bk_X5_ofCheese_31 C0 hret k4 hP hS hd (lv_sub hl [0, 2] rfl)
    · have hd := hd.2 hc
      refine lv_iconst (v := 1) hx hb dX5_ofCheese_26 (by decide) ?_
      refine lv_goto (tgt := 31) hx hb dX5_ofCheese_27 (by decide) ?_
      exact bk_X5_ofCheese_31 C0 hret k4 hP hS hd (lv_sub hl [0, 2] rfl)
def wl_X5_ofCheese_4 (Q : Int32 → sT → Prop) : Nat → Int32 → Int32 → sT → Prop
  | 0, _, _ => fun _ => False
  | n + 1, x1, x2 => fun S => wb_X5_ofCheese_4 Q (fun x1 x2 S => wl_X5_ofCheese_4 Q n x1 x2 S) x1 x2 S
theorem bl_X5_ofCheese_4 {p : Program} {l : Launch} {e : Env} {s : State} {m : MethodId} {args : Array Value} {below : List Frame} {meth : Method} {c : Code} {Z : State → Prop} {D : va_G} {cA : Nat → ClassId} {h : Nat → Nat} {Q : Int32 → sT → Prop} (C0 : cx p s m args c cX5_ofCheese 3 RX5 D cA false keysRA h) (hret : rtI p l e rm_X5_ofCheese s m args below meth c cX5_ofCheese Z D (wR h cA) (aK keysRA h s.heap.size) Q) : ∀ (n : Nat) (x1 : Int32) (x2 : Int32) (S : sT) (H : Heap) (locs : List Loc) (ls : Array Slot), va_P D vwCl (wR h cA S) H → va_S (aK keysRA h s.heap.size) s.heap H locs → wl_X5_ofCheese_4 Q n x1 x2 S → lv_has ls 3 [(0, .ref (h 100)), (1, .int x1), (2, .int x2)] → W p l e rm_X5_ofCheese s m args below meth c H locs 0 0 Z (F0 m 4 ls []) := by
  intro n
  induction n with
  | zero => intro x1 x2 S H locs ls hP hS hd hl; exact (show False from hd).elim
  | succ n ih => intro x1 x2 S H locs ls hP hS hd hl; exact bk_X5_ofCheese_4 C0 hret (fun x1 x2 S H locs ls hd hP hS hl => ih x1 x2 S H locs ls hP hS hd hl) hP hS hd hl
def wp_X5_ofCheese (S : sT) (Q : Int32 → sT → Prop) : Prop :=
  ∃ n : Nat, wl_X5_ofCheese_4 Q n (0 : Int32) (0 : Int32) S
set_option maxHeartbeats 4000000 in
set_option maxRecDepth 100000 in
theorem bk_X5_ofCheese {p : Program} {l : Launch} {e : Env} {s : State} {m : MethodId} {args : Array Value} {below : List Frame} {meth : Method} {c : Code} {Z : State → Prop} {D : va_G} {cA : Nat → ClassId} {h : Nat → Nat} {Q : Int32 → sT → Prop} (C0 : cx p s m args c cX5_ofCheese 3 RX5 D cA false keysRA h) (hret : rtI p l e rm_X5_ofCheese s m args below meth c cX5_ofCheese Z D (wR h cA) (aK keysRA h s.heap.size) Q) {S : sT} {H : Heap} {locs : List Loc} {ls : Array Slot} (hP : va_P D vwCl (wR h cA S) H) (hS : va_S (aK keysRA h s.heap.size) s.heap H locs) (hd : wp_X5_ofCheese S Q) (hl : lv_has ls 3 [(0, .ref (h 100))]) : W p l e rm_X5_ofCheese s m args below meth c H locs 0 0 Z (F0 m 0 ls []) := by
  obtain ⟨⟨hx, hb, hml, hown, hts⟩, hK, -, -⟩ := id C0
  unfold wp_X5_ofCheese at hd
  refine lv_iconst (v := 0) hx hb dX5_ofCheese_0 (by decide) ?_
  refine lv_istore_n (lv' := [(1, .int (0 : Int32)), (0, .ref (h 100))]) hx hb dX5_ofCheese_1 rfl hl (by decide) rfl (fun ls hl => ?_)
  refine lv_iconst (v := 0) hx hb dX5_ofCheese_2 (by decide) ?_
  refine lv_istore_n (lv' := [(2, .int (0 : Int32)), (1, .int (0 : Int32)), (0, .ref (h 100))]) hx hb dX5_ofCheese_3 rfl hl (by decide) rfl (fun ls hl => ?_)
  obtain ⟨n_1, hd⟩ := hd
  exact bl_X5_ofCheese_4 C0 hret _ _ _ _ _ _ _ hP hS hd (lv_sub hl [2, 1, 0] rfl)
theorem c_X5_ofCheese (l : Launch) {D : va_G} {cA : Nat → ClassId} {h : Nat → Nat} (hk : ky keysRA h) {S : sT} (sz : Nat) {Q : Int32 → sT → Prop} (hd : wp_X5_ofCheese S Q) : Met l yX5_ofCheese (wsU yX5_ofCheese cX5_ofCheese 3 (some .int)) rm_X5_ofCheese (va_Pc [.ref (h 100)] (gP D cA false keysRA h (wR h cA) S sz)) (va_Qi Q (wB D (wR h cA)) (aK keysRA h sz)) 0 0 (aK keysRA h sz) :=
  mk_i (by decide) hk (Nat.le_of_ble_eq_true rfl) (fun p e s m below meth c Z ls C0 hret hP hS hl => bk_X5_ofCheese C0 hret hP hS hd hl)
abbrev rm_X5_there : Room := { frames := 0, cells := 0, slots := 0, locals := 0 }
def wb_X5_there_26 (k0 : Nat) (Q : Int32 → sT → Prop) (K5 : Int32 → Int32 → Int32 → Int32 → sT → Prop) (x1 : Int32) (x2 : Int32) (x4 : Int32) (y0 : Int32) (y1 : Int32) (S : sT) : Prop :=
  K5 x1 x2 (y0 + y1) (x4 + (1 : Int32)) S
set_option maxHeartbeats 4000000 in
set_option maxRecDepth 100000 in
theorem bk_X5_there_26 {p : Program} {l : Launch} {e : Env} {s : State} {m : MethodId} {args : Array Value} {below : List Frame} {meth : Method} {c : Code} {Z : State → Prop} {D : va_G} {cA : Nat → ClassId} {h : Nat → Nat} {Q : Int32 → sT → Prop} {k0 : Nat} (C0 : cx p s m args c cX5_there 5 RX5 D cA false keysRA h) (hret : rtI p l e rm_X5_there s m args below meth c cX5_there Z D (wR h cA) (aK keysRA h s.heap.size) Q) (hk0 : k0 ∈ keysR) {K5 : Int32 → Int32 → Int32 → Int32 → sT → Prop} (k5 : ∀ (x1 : Int32) (x2 : Int32) (x3 : Int32) (x4 : Int32) (S : sT) (H : Heap) (locs : List Loc) (ls : Array Slot), K5 x1 x2 x3 x4 S → va_P D vwCl (wR h cA S) H → va_S (aK keysRA h s.heap.size) s.heap H locs → lv_has ls 5 [(0, .ref (h k0)), (1, .int x1), (2, .int x2), (3, .int x3), (4, .int x4)] → W p l e rm_X5_there s m args below meth c H locs 0 0 Z (F0 m 5 ls [])) {x1 : Int32} {x2 : Int32} {x4 : Int32} {y0 : Int32} {y1 : Int32} {S : sT} {H : Heap} {locs : List Loc} {ls : Array Slot} (hP : va_P D vwCl (wR h cA S) H) (hS : va_S (aK keysRA h s.heap.size) s.heap H locs) (hd : wb_X5_there_26 k0 Q K5 x1 x2 x4 y0 y1 S) (hl : lv_has ls 5 [(0, .ref (h k0)), (1, .int x1), (2, .int x2), (4, .int x4)]) : W p l e rm_X5_there s m args below meth c H locs 0 0 Z (F0 m 26 ls [.int y1, .int y0]) := by
  obtain ⟨⟨hx, hb, hml, hown, hts⟩, hK, -, -⟩ := id C0
  unfold wb_X5_there_26 at hd
  refine lv_iadd hx hb dX5_there_26 ?_
  refine lv_istore_n (lv' := [(3, .int (y0 + y1)), (0, .ref (h k0)), (1, .int x1), (2, .int x2), (4, .int x4)]) hx hb dX5_there_27 rfl hl (by decide) rfl (fun ls hl => ?_)
  refine lv_iinc (v := x4 + (1 : Int32)) (lv' := [(4, .int (x4 + (1 : Int32))), (3, .int (y0 + y1)), (0, .ref (h k0)), (1, .int x1), (2, .int x2)]) hx hb dX5_there_28 hl (k := 4) rfl rfl (by decide) rfl (fun ls hl => ?_)
  refine lv_goto (tgt := 5) hx hb dX5_there_31 (by decide) ?_
  exact k5 _ _ _ _ _ _ _ _ hd hP hS (lv_sub hl [2, 3, 4, 1, 0] rfl)
def wb_X5_there_5 (k0 : Nat) (Q : Int32 → sT → Prop) (K5 : Int32 → Int32 → Int32 → Int32 → sT → Prop) (x1 : Int32) (x2 : Int32) (x3 : Int32) (x4 : Int32) (S : sT) : Prop :=
  ((x1 ≤ x4 → Q x3 S) ∧ (¬ x1 ≤ x4 → (vp_in (x2 * x4) (lenR k0)) ∧ ((0 ≤ (vA S k0 (x2 * x4).toNatClampNeg) → wb_X5_there_26 k0 Q K5 x1 x2 x4 x3 (1 : Int32) S) ∧ (¬ 0 ≤ (vA S k0 (x2 * x4).toNatClampNeg) → wb_X5_there_26 k0 Q K5 x1 x2 x4 x3 (0 : Int32) S))))
set_option maxHeartbeats 4000000 in
set_option maxRecDepth 100000 in
theorem bk_X5_there_5 {p : Program} {l : Launch} {e : Env} {s : State} {m : MethodId} {args : Array Value} {below : List Frame} {meth : Method} {c : Code} {Z : State → Prop} {D : va_G} {cA : Nat → ClassId} {h : Nat → Nat} {Q : Int32 → sT → Prop} {k0 : Nat} (C0 : cx p s m args c cX5_there 5 RX5 D cA false keysRA h) (hret : rtI p l e rm_X5_there s m args below meth c cX5_there Z D (wR h cA) (aK keysRA h s.heap.size) Q) (hk0 : k0 ∈ keysR) {K5 : Int32 → Int32 → Int32 → Int32 → sT → Prop} (k5 : ∀ (x1 : Int32) (x2 : Int32) (x3 : Int32) (x4 : Int32) (S : sT) (H : Heap) (locs : List Loc) (ls : Array Slot), K5 x1 x2 x3 x4 S → va_P D vwCl (wR h cA S) H → va_S (aK keysRA h s.heap.size) s.heap H locs → lv_has ls 5 [(0, .ref (h k0)), (1, .int x1), (2, .int x2), (3, .int x3), (4, .int x4)] → W p l e rm_X5_there s m args below meth c H locs 0 0 Z (F0 m 5 ls [])) {x1 : Int32} {x2 : Int32} {x3 : Int32} {x4 : Int32} {S : sT} {H : Heap} {locs : List Loc} {ls : Array Slot} (hP : va_P D vwCl (wR h cA S) H) (hS : va_S (aK keysRA h s.heap.size) s.heap H locs) (hd : wb_X5_there_5 k0 Q K5 x1 x2 x3 x4 S) (hl : lv_has ls 5 [(0, .ref (h k0)), (1, .int x1), (2, .int x2), (3, .int x3), (4, .int x4)]) : W p l e rm_X5_there s m args below meth c H locs 0 0 Z (F0 m 5 ls []) := by
  obtain ⟨⟨hx, hb, hml, hown, hts⟩, hK, -, -⟩ := id C0
  unfold wb_X5_there_5 at hd
  refine lv_iload hx hb dX5_there_5 (lv_at hl 4 rfl) ?_
  refine lv_iload_n hx hb dX5_there_7 rfl (lv_at hl 1 rfl) ?_
  refine lv_icmp_ge (tgt := 34) hx hb dX5_there_8 (by decide) (fun hc => ?_) (fun hc => ?_)
  · have hd := hd.1 hc
    refine lv_iload_n hx hb dX5_there_34 rfl (lv_at hl 3 rfl) ?_
    exact hret _ _ _ _ _ _ hd hP hS dX5_there_35
  · have hd := hd.2 hc
    refine lv_iload_n hx hb dX5_there_11 rfl (lv_at hl 3 rfl) ?_
    refine lv_aload_n hx hb dX5_there_12 rfl (lv_at hl 0 rfl) ?_
    refine lv_iload_n hx hb dX5_there_13 rfl (lv_at hl 2 rfl) ?_
    refine lv_iload hx hb dX5_there_14 (lv_at hl 4 rfl) ?_
    refine lv_imul hx hb dX5_there_16 ?_
    obtain ⟨h_1, hd⟩ := hd
    refine ldR hk0 C0 hP h_1 dX5_there_17 ?_
    refine lv_if_ge (tgt := 25) hx hb dX5_there_18 (by decide) (fun hc => ?_) (fun hc => ?_)
    · have hd := hd.1 hc
      refine lv_iconst (v := 1) hx hb dX5_there_25 (by decide) ?_
      exact bk_X5_there_26 C0 hret hk0 k5 hP hS hd (lv_sub hl [0, 1, 2, 4] rfl)
    · have hd := hd.2 hc
      refine lv_iconst (v := 0) hx hb dX5_there_21 (by decide) ?_
      refine lv_goto (tgt := 26) hx hb dX5_there_22 (by decide) ?_
      exact bk_X5_there_26 C0 hret hk0 k5 hP hS hd (lv_sub hl [0, 1, 2, 4] rfl)
def wl_X5_there_5 (k0 : Nat) (Q : Int32 → sT → Prop) : Nat → Int32 → Int32 → Int32 → Int32 → sT → Prop
  | 0, _, _, _, _ => fun _ => False
  | n + 1, x1, x2, x3, x4 => fun S => wb_X5_there_5 k0 Q (fun x1 x2 x3 x4 S => wl_X5_there_5 k0 Q n x1 x2 x3 x4 S) x1 x2 x3 x4 S
theorem bl_X5_there_5 {p : Program} {l : Launch} {e : Env} {s : State} {m : MethodId} {args : Array Value} {below : List Frame} {meth : Method} {c : Code} {Z : State → Prop} {D : va_G} {cA : Nat → ClassId} {h : Nat → Nat} {Q : Int32 → sT → Prop} {k0 : Nat} (C0 : cx p s m args c cX5_there 5 RX5 D cA false keysRA h) (hret : rtI p l e rm_X5_there s m args below meth c cX5_there Z D (wR h cA) (aK keysRA h s.heap.size) Q) (hk0 : k0 ∈ keysR) : ∀ (n : Nat) (x1 : Int32) (x2 : Int32) (x3 : Int32) (x4 : Int32) (S : sT) (H : Heap) (locs : List Loc) (ls : Array Slot), va_P D vwCl (wR h cA S) H → va_S (aK keysRA h s.heap.size) s.heap H locs → wl_X5_there_5 k0 Q n x1 x2 x3 x4 S → lv_has ls 5 [(0, .ref (h k0)), (1, .int x1), (2, .int x2), (3, .int x3), (4, .int x4)] → W p l e rm_X5_there s m args below meth c H locs 0 0 Z (F0 m 5 ls []) := by
  intro n
  induction n with
  | zero => intro x1 x2 x3 x4 S H locs ls hP hS hd hl; exact (show False from hd).elim
  | succ n ih => intro x1 x2 x3 x4 S H locs ls hP hS hd hl; exact bk_X5_there_5 C0 hret hk0 (fun x1 x2 x3 x4 S H locs ls hd hP hS hl => ih x1 x2 x3 x4 S H locs ls hP hS hd hl) hP hS hd hl
def wp_X5_there (k0 : Nat) (x1 : Int32) (x2 : Int32) (S : sT) (Q : Int32 → sT → Prop) : Prop :=
  ∃ n : Nat, wl_X5_there_5 k0 Q n x1 x2 (0 : Int32) (0 : Int32) S
set_option maxHeartbeats 4000000 in
set_option maxRecDepth 100000 in
theorem bk_X5_there {p : Program} {l : Launch} {e : Env} {s : State} {m : MethodId} {args : Array Value} {below : List Frame} {meth : Method} {c : Code} {Z : State → Prop} {D : va_G} {cA : Nat → ClassId} {h : Nat → Nat} {Q : Int32 → sT → Prop} {k0 : Nat} (C0 : cx p s m args c cX5_there 5 RX5 D cA false keysRA h) (hret : rtI p l e rm_X5_there s m args below meth c cX5_there Z D (wR h cA) (aK keysRA h s.heap.size) Q) (hk0 : k0 ∈ keysR) {x1 : Int32} {x2 : Int32} {S : sT} {H : Heap} {locs : List Loc} {ls : Array Slot} (hP : va_P D vwCl (wR h cA S) H) (hS : va_S (aK keysRA h s.heap.size) s.heap H locs) (hd : wp_X5_there k0 x1 x2 S Q) (hl : lv_has ls 5 [(0, .ref (h k0)), (1, .int x1), (2, .int x2)]) : W p l e rm_X5_there s m args below meth c H locs 0 0 Z (F0 m 0 ls []) := by
  obtain ⟨⟨hx, hb, hml, hown, hts⟩, hK, -, -⟩ := id C0
  unfold wp_X5_there at hd
  refine lv_iconst (v := 0) hx hb dX5_there_0 (by decide) ?_
  refine lv_istore_n (lv' := [(3, .int (0 : Int32)), (0, .ref (h k0)), (1, .int x1), (2, .int x2)]) hx hb dX5_there_1 rfl hl (by decide) rfl (fun ls hl => ?_)
  refine lv_iconst (v := 0) hx hb dX5_there_2 (by decide) ?_
  refine lv_istore (lv' := [(4, .int (0 : Int32)), (3, .int (0 : Int32)), (0, .ref (h k0)), (1, .int x1), (2, .int x2)]) hx hb dX5_there_3 hl (by decide) rfl (fun ls hl => ?_)
  obtain ⟨n_1, hd⟩ := hd
  exact bl_X5_there_5 C0 hret hk0 _ _ _ _ _ _ _ _ _ hP hS hd (lv_sub hl [2, 3, 4, 1, 0] rfl)
theorem c_X5_there (l : Launch) {D : va_G} {cA : Nat → ClassId} {h : Nat → Nat} (hk : ky keysRA h) {k0 : Nat} (hk0 : k0 ∈ keysR) {x1 : Int32} {x2 : Int32} {S : sT} (sz : Nat) {Q : Int32 → sT → Prop} (hd : wp_X5_there k0 x1 x2 S Q) : Met l yX5_there (wsU yX5_there cX5_there 5 (some .int)) rm_X5_there (va_Pc [.ref (h k0), .int x1, .int x2] (gP D cA false keysRA h (wR h cA) S sz)) (va_Qi Q (wB D (wR h cA)) (aK keysRA h sz)) 0 0 (aK keysRA h sz) :=
  mk_i (by decide) hk (Nat.le_of_ble_eq_true rfl) (fun p e s m below meth c Z ls C0 hret hP hS hl => bk_X5_there C0 hret hk0 hP hS hd hl)
abbrev rm_X5_isDreaming : Room := { frames := 2, cells := 0, slots := 0, locals := 47 }
def wp_X5_isDreaming (x1 : Int32) (S : sT) (Q : Int32 → sT → Prop) : Prop :=
  (vp_in (2 : Int32) 9) ∧ wp_X5_has (vA S 14 (2 : Int32).toNatClampNeg) x1 S (fun r_2 S_2 => ((r_2 = 0 → Q (0 : Int32) S_2) ∧ (¬ r_2 = 0 → (vp_in (0 : Int32) 9) ∧ wp_X5_dreamsOn 14 x1 (vA S_2 14 (0 : Int32).toNatClampNeg) S_2 (fun r_4 S_4 => ((r_4 = 0 → Q (0 : Int32) S_4) ∧ (¬ r_4 = 0 → Q (1 : Int32) S_4))))))
set_option maxHeartbeats 4000000 in
set_option maxRecDepth 100000 in
theorem bk_X5_isDreaming {p : Program} {l : Launch} {e : Env} {s : State} {m : MethodId} {args : Array Value} {below : List Frame} {meth : Method} {c : Code} {Z : State → Prop} {D : va_G} {cA : Nat → ClassId} {h : Nat → Nat} {Q : Int32 → sT → Prop} (C0 : cx p s m args c cX5_isDreaming 2 RX5 D cA false keysRA h) (hret : rtZ p l e rm_X5_isDreaming s m args below meth c cX5_isDreaming Z D (wR h cA) (aK keysRA h s.heap.size) Q) {x1 : Int32} {S : sT} {H : Heap} {locs : List Loc} {ls : Array Slot} (hP : va_P D vwCl (wR h cA S) H) (hS : va_S (aK keysRA h s.heap.size) s.heap H locs) (hd : wp_X5_isDreaming x1 S Q) (hl : lv_has ls 2 [(0, .ref (h 100)), (1, .int x1)]) : W p l e rm_X5_isDreaming s m args below meth c H locs 0 0 Z (F0 m 0 ls []) := by
  obtain ⟨⟨hx, hb, hml, hown, hts⟩, hK, -, -⟩ := id C0
  unfold wp_X5_isDreaming at hd
  refine lv_aload_n hx hb dX5_isDreaming_0 rfl (lv_at hl 0 rfl) ?_
  refine gf_X5_35 C0 hP dX5_isDreaming_1 ?_
  refine lv_iconst (v := 2) hx hb dX5_isDreaming_4 (by decide) ?_
  obtain ⟨h_1, hd⟩ := hd
  refine ldR (by decide) C0 hP h_1 dX5_isDreaming_5 ?_
  refine lv_iload_n hx hb dX5_isDreaming_6 rfl (lv_at hl 1 rfl) ?_
  refine cl_Si (n := 2) (rest := []) C0 hP hS (c_X5_has l C0.2.2.1 _ hd) (lwG_S lm_X5_165 ls_X5_has lz_RX5 lc_X5_has) (by decide +kernel) rfl rfl (Nat.le_of_ble_eq_true rfl) ⟨rfl, rfl⟩ ⟨by decide, by decide⟩ dX5_isDreaming_7 hl.1 ⟨Nat.zero_le _, Nat.zero_le _⟩ (fun r_2 S_2 H locs hd hP hS => ?_)
  refine lv_if_eq (tgt := 35) hx hb dX5_isDreaming_10 (by decide) (fun hc => ?_) (fun hc => ?_)
  · have hd := hd.1 hc
    refine lv_iconst (v := 0) hx hb dX5_isDreaming_35 (by decide) ?_
    exact hret _ _ _ _ _ _ rfl hd hP hS dX5_isDreaming_36
  · have hd := hd.2 hc
    refine lv_aload_n hx hb dX5_isDreaming_13 rfl (lv_at hl 0 rfl) ?_
    refine lv_aload_n hx hb dX5_isDreaming_14 rfl (lv_at hl 0 rfl) ?_
    refine gf_X5_35 C0 hP dX5_isDreaming_15 ?_
    refine lv_iload_n hx hb dX5_isDreaming_18 rfl (lv_at hl 1 rfl) ?_
    refine lv_aload_n hx hb dX5_isDreaming_19 rfl (lv_at hl 0 rfl) ?_
    refine gf_X5_35 C0 hP dX5_isDreaming_20 ?_
    refine lv_iconst (v := 0) hx hb dX5_isDreaming_23 (by decide) ?_
    obtain ⟨h_3, hd⟩ := hd
    refine ldR (by decide) C0 hP h_3 dX5_isDreaming_24 ?_
    refine cl_Vi (n := 3) (rest := []) C0 hP hS (c_X5_dreamsOn l C0.2.2.1 (by decide) _ hd) (lwG_V lm_X5_168 li_X5_dreamsOn lx_X5_dreamsOn lz_RX5 lc_X5_dreamsOn) (by decide +kernel) (oR_at h cA _) rfl rfl rfl (Nat.le_of_ble_eq_true rfl) ⟨rfl, rfl⟩ ⟨by decide, by decide⟩ dX5_isDreaming_25 hl.1 ⟨Nat.zero_le _, Nat.zero_le _⟩ (fun r_4 S_4 H locs hd hP hS => ?_)
    refine lv_if_eq (tgt := 35) hx hb dX5_isDreaming_28 (by decide) (fun hc => ?_) (fun hc => ?_)
    · have hd := hd.1 hc
      refine lv_iconst (v := 0) hx hb dX5_isDreaming_35 (by decide) ?_
      exact hret _ _ _ _ _ _ rfl hd hP hS dX5_isDreaming_36
    · have hd := hd.2 hc
      refine lv_iconst (v := 1) hx hb dX5_isDreaming_31 (by decide) ?_
      refine lv_goto (tgt := 36) hx hb dX5_isDreaming_32 (by decide) ?_
      exact hret _ _ _ _ _ _ rfl hd hP hS dX5_isDreaming_36
theorem c_X5_isDreaming (l : Launch) {D : va_G} {cA : Nat → ClassId} {h : Nat → Nat} (hk : ky keysRA h) {x1 : Int32} {S : sT} (sz : Nat) {Q : Int32 → sT → Prop} (hd : wp_X5_isDreaming x1 S Q) : Met l yX5_isDreaming (wsU yX5_isDreaming cX5_isDreaming 2 (some .boolean)) rm_X5_isDreaming (va_Pc [.ref (h 100), .int x1] (gP D cA false keysRA h (wR h cA) S sz)) (va_Qi Q (wB D (wR h cA)) (aK keysRA h sz)) 0 0 (aK keysRA h sz) :=
  mk_z (by decide) hk (Nat.le_of_ble_eq_true rfl) (fun p e s m below meth c Z ls C0 hret hP hS hl => bk_X5_isDreaming C0 hret hP hS hd hl)
abbrev rm_X5_whoDream : Room := { frames := 3, cells := 0, slots := 0, locals := 68 }
def wb_X5_whoDream_28 (Q : Int32 → sT → Prop) (K4 : Int32 → Int32 → sT → Prop) (x2 : Int32) (y0 : Int32) (y1 : Int32) (S : sT) : Prop :=
  K4 (y0 ||| y1) (x2 + (1 : Int32)) S
set_option maxHeartbeats 4000000 in
set_option maxRecDepth 100000 in
theorem bk_X5_whoDream_28 {p : Program} {l : Launch} {e : Env} {s : State} {m : MethodId} {args : Array Value} {below : List Frame} {meth : Method} {c : Code} {Z : State → Prop} {D : va_G} {cA : Nat → ClassId} {h : Nat → Nat} {Q : Int32 → sT → Prop} (C0 : cx p s m args c cX5_whoDream 3 RX5 D cA false keysRA h) (hret : rtI p l e rm_X5_whoDream s m args below meth c cX5_whoDream Z D (wR h cA) (aK keysRA h s.heap.size) Q) {K4 : Int32 → Int32 → sT → Prop} (k4 : ∀ (x1 : Int32) (x2 : Int32) (S : sT) (H : Heap) (locs : List Loc) (ls : Array Slot), K4 x1 x2 S → va_P D vwCl (wR h cA S) H → va_S (aK keysRA h s.heap.size) s.heap H locs → lv_has ls 3 [(0, .ref (h 100)), (1, .int x1), (2, .int x2)] → W p l e rm_X5_whoDream s m args below meth c H locs 0 0 Z (F0 m 4 ls [])) {x2 : Int32} {y0 : Int32} {y1 : Int32} {S : sT} {H : Heap} {locs : List Loc} {ls : Array Slot} (hP : va_P D vwCl (wR h cA S) H) (hS : va_S (aK keysRA h s.heap.size) s.heap H locs) (hd : wb_X5_whoDream_28 Q K4 x2 y0 y1 S) (hl : lv_has ls 3 [(0, .ref (h 100)), (2, .int x2)]) : W p l e rm_X5_whoDream s m args below meth c H locs 0 0 Z (F0 m 28 ls [.int y1, .int y0]) := by
  obtain ⟨⟨hx, hb, hml, hown, hts⟩, hK, -, -⟩ := id C0
  unfold wb_X5_whoDream_28 at hd
  refine lv_ior hx hb dX5_whoDream_28 ?_
  refine lv_istore_n (lv' := [(1, .int (y0 ||| y1)), (0, .ref (h 100)), (2, .int x2)]) hx hb dX5_whoDream_29 rfl hl (by decide) rfl (fun ls hl => ?_)
  refine lv_iinc (v := x2 + (1 : Int32)) (lv' := [(2, .int (x2 + (1 : Int32))), (1, .int (y0 ||| y1)), (0, .ref (h 100))]) hx hb dX5_whoDream_30 hl (k := 2) rfl rfl (by decide) rfl (fun ls hl => ?_)
  refine lv_goto (tgt := 4) hx hb dX5_whoDream_33 (by decide) ?_
  exact k4 _ _ _ _ _ _ hd hP hS (lv_sub hl [2, 1, 0] rfl)
def wb_X5_whoDream_4 (Q : Int32 → sT → Prop) (K4 : Int32 → Int32 → sT → Prop) (x1 : Int32) (x2 : Int32) (S : sT) : Prop :=
  (((vI S 9) ≤ x2 → Q x1 S) ∧ (¬ (vI S 9) ≤ x2 → wp_X5_isDreaming x2 S (fun r_1 S_1 => ((r_1 = 0 → wb_X5_whoDream_28 Q K4 x2 x1 (0 : Int32) S_1) ∧ (¬ r_1 = 0 → wb_X5_whoDream_28 Q K4 x2 x1 ((1 : Int32) <<< (x2 &&& 31)) S_1)))))
set_option maxHeartbeats 4000000 in
set_option maxRecDepth 100000 in
theorem bk_X5_whoDream_4 {p : Program} {l : Launch} {e : Env} {s : State} {m : MethodId} {args : Array Value} {below : List Frame} {meth : Method} {c : Code} {Z : State → Prop} {D : va_G} {cA : Nat → ClassId} {h : Nat → Nat} {Q : Int32 → sT → Prop} (C0 : cx p s m args c cX5_whoDream 3 RX5 D cA false keysRA h) (hret : rtI p l e rm_X5_whoDream s m args below meth c cX5_whoDream Z D (wR h cA) (aK keysRA h s.heap.size) Q) {K4 : Int32 → Int32 → sT → Prop} (k4 : ∀ (x1 : Int32) (x2 : Int32) (S : sT) (H : Heap) (locs : List Loc) (ls : Array Slot), K4 x1 x2 S → va_P D vwCl (wR h cA S) H → va_S (aK keysRA h s.heap.size) s.heap H locs → lv_has ls 3 [(0, .ref (h 100)), (1, .int x1), (2, .int x2)] → W p l e rm_X5_whoDream s m args below meth c H locs 0 0 Z (F0 m 4 ls [])) {x1 : Int32} {x2 : Int32} {S : sT} {H : Heap} {locs : List Loc} {ls : Array Slot} (hP : va_P D vwCl (wR h cA S) H) (hS : va_S (aK keysRA h s.heap.size) s.heap H locs) (hd : wb_X5_whoDream_4 Q K4 x1 x2 S) (hl : lv_has ls 3 [(0, .ref (h 100)), (1, .int x1), (2, .int x2)]) : W p l e rm_X5_whoDream s m args below meth c H locs 0 0 Z (F0 m 4 ls []) := by
  obtain ⟨⟨hx, hb, hml, hown, hts⟩, hK, -, -⟩ := id C0
  unfold wb_X5_whoDream_4 at hd
  refine lv_iload_n hx hb dX5_whoDream_4 rfl (lv_at hl 2 rfl) ?_
  refine lv_aload_n hx hb dX5_whoDream_5 rfl (lv_at hl 0 rfl) ?_
  refine gf_X5_97 C0 hP dX5_whoDream_6 ?_
  refine lv_icmp_ge (tgt := 36) hx hb dX5_whoDream_9 (by decide) (fun hc => ?_) (fun hc => ?_)
  · have hd := hd.1 hc
    refine lv_iload_n hx hb dX5_whoDream_36 rfl (lv_at hl 1 rfl) ?_
    exact hret _ _ _ _ _ _ hd hP hS dX5_whoDream_37
  · have hd := hd.2 hc
    refine lv_iload_n hx hb dX5_whoDream_12 rfl (lv_at hl 1 rfl) ?_
    refine lv_aload_n hx hb dX5_whoDream_13 rfl (lv_at hl 0 rfl) ?_
    refine lv_iload_n hx hb dX5_whoDream_14 rfl (lv_at hl 2 rfl) ?_
    refine cl_Vi (n := 1) (rest := [.int x1]) C0 hP hS (c_X5_isDreaming l C0.2.2.1 _ hd) (lwG_V lm_X5_181 li_X5_isDreaming lx_X5_isDreaming lz_RX5 lc_X5_isDreaming) (by decide +kernel) (oR_at h cA _) rfl rfl rfl (Nat.le_of_ble_eq_true rfl) ⟨rfl, rfl⟩ ⟨by decide, by decide⟩ dX5_whoDream_15 hl.1 ⟨Nat.zero_le _, Nat.zero_le _⟩ (fun r_1 S_1 H locs hd hP hS => ?_)
    refine lv_if_eq (tgt := 27) hx hb dX5_whoDream_18 (by decide) (fun hc => ?_) (fun hc => ?_)
    · have hd := hd.1 hc
      refine lv_iconst (v := 0) hx hb dX5_whoDream_27 (by decide) ?_
      exact bk_X5_whoDream_28 C0 hret k4 hP hS hd (lv_sub hl [0, 2] rfl)
    · have hd := hd.2 hc
      refine lv_iconst (v := 1) hx hb dX5_whoDream_21 (by decide) ?_
      refine lv_iload_n hx hb dX5_whoDream_22 rfl (lv_at hl 2 rfl) ?_
      refine lv_ishl hx hb dX5_whoDream_23 ?_
      refine lv_goto (tgt := 28) hx hb dX5_whoDream_24 (by decide) ?_
      exact bk_X5_whoDream_28 C0 hret k4 hP hS hd (lv_sub hl [0, 2] rfl)
def wl_X5_whoDream_4 (Q : Int32 → sT → Prop) : Nat → Int32 → Int32 → sT → Prop
  | 0, _, _ => fun _ => False
  | n + 1, x1, x2 => fun S => wb_X5_whoDream_4 Q (fun x1 x2 S => wl_X5_whoDream_4 Q n x1 x2 S) x1 x2 S
theorem bl_X5_whoDream_4 {p : Program} {l : Launch} {e : Env} {s : State} {m : MethodId} {args : Array Value} {below : List Frame} {meth : Method} {c : Code} {Z : State → Prop} {D : va_G} {cA : Nat → ClassId} {h : Nat → Nat} {Q : Int32 → sT → Prop} (C0 : cx p s m args c cX5_whoDream 3 RX5 D cA false keysRA h) (hret : rtI p l e rm_X5_whoDream s m args below meth c cX5_whoDream Z D (wR h cA) (aK keysRA h s.heap.size) Q) : ∀ (n : Nat) (x1 : Int32) (x2 : Int32) (S : sT) (H : Heap) (locs : List Loc) (ls : Array Slot), va_P D vwCl (wR h cA S) H → va_S (aK keysRA h s.heap.size) s.heap H locs → wl_X5_whoDream_4 Q n x1 x2 S → lv_has ls 3 [(0, .ref (h 100)), (1, .int x1), (2, .int x2)] → W p l e rm_X5_whoDream s m args below meth c H locs 0 0 Z (F0 m 4 ls []) := by
  intro n
  induction n with
  | zero => intro x1 x2 S H locs ls hP hS hd hl; exact (show False from hd).elim
  | succ n ih => intro x1 x2 S H locs ls hP hS hd hl; exact bk_X5_whoDream_4 C0 hret (fun x1 x2 S H locs ls hd hP hS hl => ih x1 x2 S H locs ls hP hS hd hl) hP hS hd hl
def wp_X5_whoDream (S : sT) (Q : Int32 → sT → Prop) : Prop :=
  ∃ n : Nat, wl_X5_whoDream_4 Q n (0 : Int32) (0 : Int32) S
set_option maxHeartbeats 4000000 in
set_option maxRecDepth 100000 in
theorem bk_X5_whoDream {p : Program} {l : Launch} {e : Env} {s : State} {m : MethodId} {args : Array Value} {below : List Frame} {meth : Method} {c : Code} {Z : State → Prop} {D : va_G} {cA : Nat → ClassId} {h : Nat → Nat} {Q : Int32 → sT → Prop} (C0 : cx p s m args c cX5_whoDream 3 RX5 D cA false keysRA h) (hret : rtI p l e rm_X5_whoDream s m args below meth c cX5_whoDream Z D (wR h cA) (aK keysRA h s.heap.size) Q) {S : sT} {H : Heap} {locs : List Loc} {ls : Array Slot} (hP : va_P D vwCl (wR h cA S) H) (hS : va_S (aK keysRA h s.heap.size) s.heap H locs) (hd : wp_X5_whoDream S Q) (hl : lv_has ls 3 [(0, .ref (h 100))]) : W p l e rm_X5_whoDream s m args below meth c H locs 0 0 Z (F0 m 0 ls []) := by
  obtain ⟨⟨hx, hb, hml, hown, hts⟩, hK, -, -⟩ := id C0
  unfold wp_X5_whoDream at hd
  refine lv_iconst (v := 0) hx hb dX5_whoDream_0 (by decide) ?_
  refine lv_istore_n (lv' := [(1, .int (0 : Int32)), (0, .ref (h 100))]) hx hb dX5_whoDream_1 rfl hl (by decide) rfl (fun ls hl => ?_)
  refine lv_iconst (v := 0) hx hb dX5_whoDream_2 (by decide) ?_
  refine lv_istore_n (lv' := [(2, .int (0 : Int32)), (1, .int (0 : Int32)), (0, .ref (h 100))]) hx hb dX5_whoDream_3 rfl hl (by decide) rfl (fun ls hl => ?_)
  obtain ⟨n_1, hd⟩ := hd
  exact bl_X5_whoDream_4 C0 hret _ _ _ _ _ _ _ hP hS hd (lv_sub hl [2, 1, 0] rfl)
theorem c_X5_whoDream (l : Launch) {D : va_G} {cA : Nat → ClassId} {h : Nat → Nat} (hk : ky keysRA h) {S : sT} (sz : Nat) {Q : Int32 → sT → Prop} (hd : wp_X5_whoDream S Q) : Met l yX5_whoDream (wsU yX5_whoDream cX5_whoDream 3 (some .int)) rm_X5_whoDream (va_Pc [.ref (h 100)] (gP D cA false keysRA h (wR h cA) S sz)) (va_Qi Q (wB D (wR h cA)) (aK keysRA h sz)) 0 0 (aK keysRA h sz) :=
  mk_i (by decide) hk (Nat.le_of_ble_eq_true rfl) (fun p e s m below meth c Z ls C0 hret hP hS hl => bk_X5_whoDream C0 hret hP hS hd hl)
abbrev rm_X5_count : Room := { frames := 4, cells := 0, slots := 0, locals := 90 }
def wp_X5_count (x1 : Int32) (S : sT) (Q : Int32 → sT → Prop) : Prop :=
  ((x1 = (0 : Int32) → Q (vI S 9) S) ∧ (x1 = (1 : Int32) → Q (vI S 10) S) ∧ (x1 = (2 : Int32) → Q (vI S 17) S) ∧ (x1 = (3 : Int32) → (vp_in (0 : Int32) 9) ∧ Q (vA S 14 (0 : Int32).toNatClampNeg) S) ∧ (x1 = (4 : Int32) → (vp_in (1 : Int32) 9) ∧ Q (vA S 14 (1 : Int32).toNatClampNeg) S) ∧ (x1 = (5 : Int32) → (vp_in (2 : Int32) 9) ∧ Q (vA S 14 (2 : Int32).toNatClampNeg) S) ∧ (x1 = (6 : Int32) → wp_X5_whoDream S (fun r_10 S_10 => Q r_10 S_10)) ∧ (x1 = (7 : Int32) → Q (vI S 11) S) ∧ (x1 = (8 : Int32) → wp_X5_there 1 (6 : Int32) (1 : Int32) S (fun r_13 S_13 => Q r_13 S_13)) ∧ (x1 = (9 : Int32) → wp_X5_there 3 (4 : Int32) (1 : Int32) S (fun r_15 S_15 => Q r_15 S_15)) ∧ (x1 = (10 : Int32) → wp_X5_there 18 (3 : Int32) (370 : Int32) S (fun r_17 S_17 => Q r_17 S_17)) ∧ (x1 = (11 : Int32) → wp_X5_ofCheese S (fun r_19 S_19 => Q r_19 S_19)) ∧ (¬ x1 = (0 : Int32) → ¬ x1 = (1 : Int32) → ¬ x1 = (2 : Int32) → ¬ x1 = (3 : Int32) → ¬ x1 = (4 : Int32) → ¬ x1 = (5 : Int32) → ¬ x1 = (6 : Int32) → ¬ x1 = (7 : Int32) → ¬ x1 = (8 : Int32) → ¬ x1 = (9 : Int32) → ¬ x1 = (10 : Int32) → ¬ x1 = (11 : Int32) → Q (-1 : Int32) S))
set_option maxHeartbeats 4000000 in
set_option maxRecDepth 100000 in
theorem bk_X5_count {p : Program} {l : Launch} {e : Env} {s : State} {m : MethodId} {args : Array Value} {below : List Frame} {meth : Method} {c : Code} {Z : State → Prop} {D : va_G} {cA : Nat → ClassId} {h : Nat → Nat} {Q : Int32 → sT → Prop} (C0 : cx p s m args c cX5_count 2 RX5 D cA false keysRA h) (hret : rtI p l e rm_X5_count s m args below meth c cX5_count Z D (wR h cA) (aK keysRA h s.heap.size) Q) {x1 : Int32} {S : sT} {H : Heap} {locs : List Loc} {ls : Array Slot} (hP : va_P D vwCl (wR h cA S) H) (hS : va_S (aK keysRA h s.heap.size) s.heap H locs) (hd : wp_X5_count x1 S Q) (hl : lv_has ls 2 [(0, .ref (h 100)), (1, .int x1)]) : W p l e rm_X5_count s m args below meth c H locs 0 0 Z (F0 m 0 ls []) := by
  obtain ⟨⟨hx, hb, hml, hown, hts⟩, hK, -, -⟩ := id C0
  unfold wp_X5_count at hd
  refine lv_iload_n hx hb dX5_count_0 rfl (lv_at hl 1 rfl) ?_
  by_cases hq1 : x1 = (0 : Int32)
  · have hd := hd.1 hq1
    refine lv_tableIn (off := 63) (tgt := 64) hx hb dX5_count_1 (by rw [hq1]; decide) (by rw [hq1]; decide) (by rw [hq1]; decide) (by decide) ?_
    refine lv_aload_n hx hb dX5_count_64 rfl (lv_at hl 0 rfl) ?_
    refine gf_X5_97 C0 hP dX5_count_65 ?_
    exact hret _ _ _ _ _ _ hd hP hS dX5_count_68
  by_cases hq2 : x1 = (1 : Int32)
  · have hd := hd.2.1 hq2
    refine lv_tableIn (off := 68) (tgt := 69) hx hb dX5_count_1 (by rw [hq2]; decide) (by rw [hq2]; decide) (by rw [hq2]; decide) (by decide) ?_
    refine lv_aload_n hx hb dX5_count_69 rfl (lv_at hl 0 rfl) ?_
    refine gf_X5_155 C0 hP dX5_count_70 ?_
    exact hret _ _ _ _ _ _ hd hP hS dX5_count_73
  by_cases hq3 : x1 = (2 : Int32)
  · have hd := hd.2.2.1 hq3
    refine lv_tableIn (off := 73) (tgt := 74) hx hb dX5_count_1 (by rw [hq3]; decide) (by rw [hq3]; decide) (by rw [hq3]; decide) (by decide) ?_
    refine lv_aload_n hx hb dX5_count_74 rfl (lv_at hl 0 rfl) ?_
    refine gf_X5_100 C0 hP dX5_count_75 ?_
    exact hret _ _ _ _ _ _ hd hP hS dX5_count_78
  by_cases hq5 : x1 = (3 : Int32)
  · have hd := hd.2.2.2.1 hq5
    refine lv_tableIn (off := 78) (tgt := 79) hx hb dX5_count_1 (by rw [hq5]; decide) (by rw [hq5]; decide) (by rw [hq5]; decide) (by decide) ?_
    refine lv_aload_n hx hb dX5_count_79 rfl (lv_at hl 0 rfl) ?_
    refine gf_X5_35 C0 hP dX5_count_80 ?_
    refine lv_iconst (v := 0) hx hb dX5_count_83 (by decide) ?_
    obtain ⟨h_4, hd⟩ := hd
    refine ldR (by decide) C0 hP h_4 dX5_count_84 ?_
    exact hret _ _ _ _ _ _ hd hP hS dX5_count_85
  by_cases hq7 : x1 = (4 : Int32)
  · have hd := hd.2.2.2.2.1 hq7
    refine lv_tableIn (off := 85) (tgt := 86) hx hb dX5_count_1 (by rw [hq7]; decide) (by rw [hq7]; decide) (by rw [hq7]; decide) (by decide) ?_
    refine lv_aload_n hx hb dX5_count_86 rfl (lv_at hl 0 rfl) ?_
    refine gf_X5_35 C0 hP dX5_count_87 ?_
    refine lv_iconst (v := 1) hx hb dX5_count_90 (by decide) ?_
    obtain ⟨h_6, hd⟩ := hd
    refine ldR (by decide) C0 hP h_6 dX5_count_91 ?_
    exact hret _ _ _ _ _ _ hd hP hS dX5_count_92
  by_cases hq9 : x1 = (5 : Int32)
  · have hd := hd.2.2.2.2.2.1 hq9
    refine lv_tableIn (off := 92) (tgt := 93) hx hb dX5_count_1 (by rw [hq9]; decide) (by rw [hq9]; decide) (by rw [hq9]; decide) (by decide) ?_
    refine lv_aload_n hx hb dX5_count_93 rfl (lv_at hl 0 rfl) ?_
    refine gf_X5_35 C0 hP dX5_count_94 ?_
    refine lv_iconst (v := 2) hx hb dX5_count_97 (by decide) ?_
    obtain ⟨h_8, hd⟩ := hd
    refine ldR (by decide) C0 hP h_8 dX5_count_98 ?_
    exact hret _ _ _ _ _ _ hd hP hS dX5_count_99
  by_cases hq11 : x1 = (6 : Int32)
  · have hd := hd.2.2.2.2.2.2.1 hq11
    refine lv_tableIn (off := 99) (tgt := 100) hx hb dX5_count_1 (by rw [hq11]; decide) (by rw [hq11]; decide) (by rw [hq11]; decide) (by decide) ?_
    refine lv_aload_n hx hb dX5_count_100 rfl (lv_at hl 0 rfl) ?_
    refine cl_Vi (n := 0) (rest := []) C0 hP hS (c_X5_whoDream l C0.2.2.1 _ hd) (lwG_V lm_X5_284 li_X5_whoDream lx_X5_whoDream lz_RX5 lc_X5_whoDream) (by decide +kernel) (oR_at h cA _) rfl rfl rfl (Nat.le_of_ble_eq_true rfl) ⟨rfl, rfl⟩ ⟨by decide, by decide⟩ dX5_count_101 hl.1 ⟨Nat.zero_le _, Nat.zero_le _⟩ (fun r_10 S_10 H locs hd hP hS => ?_)
    exact hret _ _ _ _ _ _ hd hP hS dX5_count_104
  by_cases hq12 : x1 = (7 : Int32)
  · have hd := hd.2.2.2.2.2.2.2.1 hq12
    refine lv_tableIn (off := 104) (tgt := 105) hx hb dX5_count_1 (by rw [hq12]; decide) (by rw [hq12]; decide) (by rw [hq12]; decide) (by decide) ?_
    refine lv_aload_n hx hb dX5_count_105 rfl (lv_at hl 0 rfl) ?_
    refine gf_X5_158 C0 hP dX5_count_106 ?_
    exact hret _ _ _ _ _ _ hd hP hS dX5_count_109
  by_cases hq14 : x1 = (8 : Int32)
  · have hd := hd.2.2.2.2.2.2.2.2.1 hq14
    refine lv_tableIn (off := 109) (tgt := 110) hx hb dX5_count_1 (by rw [hq14]; decide) (by rw [hq14]; decide) (by rw [hq14]; decide) (by decide) ?_
    refine lv_aload_n hx hb dX5_count_110 rfl (lv_at hl 0 rfl) ?_
    refine gf_X5_13 C0 hP dX5_count_111 ?_
    refine lv_bipush (v := 6) hx hb dX5_count_114 (by decide) ?_
    refine lv_iconst (v := 1) hx hb dX5_count_116 (by decide) ?_
    refine cl_Si (n := 3) (rest := []) C0 hP hS (c_X5_there l C0.2.2.1 (by decide) _ hd) (lwG_S lm_X5_287 ls_X5_there lz_RX5 lc_X5_there) (by decide +kernel) rfl rfl (Nat.le_of_ble_eq_true rfl) ⟨rfl, rfl⟩ ⟨by decide, by decide⟩ dX5_count_117 hl.1 ⟨Nat.zero_le _, Nat.zero_le _⟩ (fun r_13 S_13 H locs hd hP hS => ?_)
    exact hret _ _ _ _ _ _ hd hP hS dX5_count_120
  by_cases hq16 : x1 = (9 : Int32)
  · have hd := hd.2.2.2.2.2.2.2.2.2.1 hq16
    refine lv_tableIn (off := 120) (tgt := 121) hx hb dX5_count_1 (by rw [hq16]; decide) (by rw [hq16]; decide) (by rw [hq16]; decide) (by decide) ?_
    refine lv_aload_n hx hb dX5_count_121 rfl (lv_at hl 0 rfl) ?_
    refine gf_X5_19 C0 hP dX5_count_122 ?_
    refine lv_iconst (v := 4) hx hb dX5_count_125 (by decide) ?_
    refine lv_iconst (v := 1) hx hb dX5_count_126 (by decide) ?_
    refine cl_Si (n := 3) (rest := []) C0 hP hS (c_X5_there l C0.2.2.1 (by decide) _ hd) (lwG_S lm_X5_287 ls_X5_there lz_RX5 lc_X5_there) (by decide +kernel) rfl rfl (Nat.le_of_ble_eq_true rfl) ⟨rfl, rfl⟩ ⟨by decide, by decide⟩ dX5_count_127 hl.1 ⟨Nat.zero_le _, Nat.zero_le _⟩ (fun r_15 S_15 H locs hd hP hS => ?_)
    exact hret _ _ _ _ _ _ hd hP hS dX5_count_130
  by_cases hq18 : x1 = (10 : Int32)
  · have hd := hd.2.2.2.2.2.2.2.2.2.2.1 hq18
    refine lv_tableIn (off := 130) (tgt := 131) hx hb dX5_count_1 (by rw [hq18]; decide) (by rw [hq18]; decide) (by rw [hq18]; decide) (by decide) ?_
    refine lv_aload_n hx hb dX5_count_131 rfl (lv_at hl 0 rfl) ?_
    refine gf_X5_44 C0 hP dX5_count_132 ?_
    refine lv_iconst (v := 3) hx hb dX5_count_135 (by decide) ?_
    refine lv_sipush (v := 370) hx hb dX5_count_136 (by decide) ?_
    refine cl_Si (n := 3) (rest := []) C0 hP hS (c_X5_there l C0.2.2.1 (by decide) _ hd) (lwG_S lm_X5_287 ls_X5_there lz_RX5 lc_X5_there) (by decide +kernel) rfl rfl (Nat.le_of_ble_eq_true rfl) ⟨rfl, rfl⟩ ⟨by decide, by decide⟩ dX5_count_139 hl.1 ⟨Nat.zero_le _, Nat.zero_le _⟩ (fun r_17 S_17 H locs hd hP hS => ?_)
    exact hret _ _ _ _ _ _ hd hP hS dX5_count_142
  by_cases hq20 : x1 = (11 : Int32)
  · have hd := hd.2.2.2.2.2.2.2.2.2.2.2.1 hq20
    refine lv_tableIn (off := 142) (tgt := 143) hx hb dX5_count_1 (by rw [hq20]; decide) (by rw [hq20]; decide) (by rw [hq20]; decide) (by decide) ?_
    refine lv_aload_n hx hb dX5_count_143 rfl (lv_at hl 0 rfl) ?_
    refine cl_Vi (n := 0) (rest := []) C0 hP hS (c_X5_ofCheese l C0.2.2.1 _ hd) (lwG_V lm_X5_290 li_X5_ofCheese lx_X5_ofCheese lz_RX5 lc_X5_ofCheese) (by decide +kernel) (oR_at h cA _) rfl rfl rfl (Nat.le_of_ble_eq_true rfl) ⟨rfl, rfl⟩ ⟨by decide, by decide⟩ dX5_count_144 hl.1 ⟨Nat.zero_le _, Nat.zero_le _⟩ (fun r_19 S_19 H locs hd hP hS => ?_)
    exact hret _ _ _ _ _ _ hd hP hS dX5_count_147
  have hd := hd.2.2.2.2.2.2.2.2.2.2.2.2 hq1 hq2 hq3 hq5 hq7 hq9 hq11 hq12 hq14 hq16 hq18 hq20
  refine lv_tableOut (tgt := 148) hx hb dX5_count_1 (sw_out 0 11 (by decide) (by decide) (fun v h1 h2 => by rcases (show v = 0 ∨ v = 1 ∨ v = 2 ∨ v = 3 ∨ v = 4 ∨ v = 5 ∨ v = 6 ∨ v = 7 ∨ v = 8 ∨ v = 9 ∨ v = 10 ∨ v = 11 by omega) with rfl | rfl | rfl | rfl | rfl | rfl | rfl | rfl | rfl | rfl | rfl | rfl <;> assumption)) (by decide) ?_
  refine lv_iconst (v := (-1)) hx hb dX5_count_148 (by decide) ?_
  exact hret _ _ _ _ _ _ hd hP hS dX5_count_149
theorem c_X5_count (l : Launch) {D : va_G} {cA : Nat → ClassId} {h : Nat → Nat} (hk : ky keysRA h) {x1 : Int32} {S : sT} (sz : Nat) {Q : Int32 → sT → Prop} (hd : wp_X5_count x1 S Q) : Met l yX5_count (wsU yX5_count cX5_count 2 (some .int)) rm_X5_count (va_Pc [.ref (h 100), .int x1] (gP D cA false keysRA h (wR h cA) S sz)) (va_Qi Q (wB D (wR h cA)) (aK keysRA h sz)) 0 0 (aK keysRA h sz) :=
  mk_i (by decide) hk (Nat.le_of_ble_eq_true rfl) (fun p e s m below meth c Z ls C0 hret hP hS hl => bk_X5_count C0 hret hP hS hd hl)
abbrev rm_X5_digest : Room := { frames := 5, cells := 0, slots := 0, locals := 111 }
def wb_X5_digest_115 (Q : Int64 → sT → Prop) (K33 : Int64 → Int32 → sT → Prop) (x3 : Int32) (y0 : Int64) (y1 : Int32) (S : sT) : Prop :=
  K33 (y0 + y1.toInt64) (x3 + (1 : Int32)) S
set_option maxHeartbeats 4000000 in
set_option maxRecDepth 100000 in
theorem bk_X5_digest_115 {p : Program} {l : Launch} {e : Env} {s : State} {m : MethodId} {args : Array Value} {below : List Frame} {meth : Method} {c : Code} {Z : State → Prop} {D : va_G} {cA : Nat → ClassId} {h : Nat → Nat} {Q : Int64 → sT → Prop} (C0 : cx p s m args c cX5_digest 5 RX5 D cA false keysRA h) (hret : rtL p l e rm_X5_digest s m args below meth c cX5_digest Z D (wR h cA) (aK keysRA h s.heap.size) Q) {K33 : Int64 → Int32 → sT → Prop} (k33 : ∀ (x1 : Int64) (x3 : Int32) (S : sT) (H : Heap) (locs : List Loc) (ls : Array Slot), K33 x1 x3 S → va_P D vwCl (wR h cA S) H → va_S (aK keysRA h s.heap.size) s.heap H locs → lv_has ls 5 [(0, .ref (h 100)), (1, .long x1), (3, .int x3)] → W p l e rm_X5_digest s m args below meth c H locs 0 0 Z (F0 m 33 ls [])) {x3 : Int32} {y0 : Int64} {y1 : Int32} {S : sT} {H : Heap} {locs : List Loc} {ls : Array Slot} (hP : va_P D vwCl (wR h cA S) H) (hS : va_S (aK keysRA h s.heap.size) s.heap H locs) (hd : wb_X5_digest_115 Q K33 x3 y0 y1 S) (hl : lv_has ls 5 [(0, .ref (h 100)), (3, .int x3)]) : W p l e rm_X5_digest s m args below meth c H locs 0 0 Z (F0 m 115 ls [.int y1, .long y0]) := by
  obtain ⟨⟨hx, hb, hml, hown, hts⟩, hK, -, -⟩ := id C0
  unfold wb_X5_digest_115 at hd
  refine lv_i2l hx hb dX5_digest_115 rfl ?_
  refine lv_ladd hx hb dX5_digest_116 ?_
  refine lv_lstore_n (lv' := [(1, .long (y0 + y1.toInt64)), (0, .ref (h 100)), (3, .int x3)]) hx hb dX5_digest_117 rfl hl (by decide) rfl (fun ls hl => ?_)
  refine lv_iinc (v := x3 + (1 : Int32)) (lv' := [(3, .int (x3 + (1 : Int32))), (1, .long (y0 + y1.toInt64)), (0, .ref (h 100))]) hx hb dX5_digest_118 hl (k := 2) rfl rfl (by decide) rfl (fun ls hl => ?_)
  refine lv_goto (tgt := 33) hx hb dX5_digest_121 (by decide) ?_
  exact k33 _ _ _ _ _ _ hd hP hS (lv_sub hl [2, 1, 0] rfl)
def wb_X5_digest_180 (Q : Int64 → sT → Prop) (K157 : Int64 → Int32 → sT → Prop) (K180 : Int64 → Int32 → Int32 → sT → Prop) (x1 : Int64) (x3 : Int32) (x4 : Int32) (S : sT) : Prop :=
  (vp_in x3 6) ∧ (((vA S 1 x3.toNatClampNeg) ≤ x4 → K157 x1 (x3 + (1 : Int32)) S) ∧ (¬ (vA S 1 x3.toNatClampNeg) ≤ x4 → (vp_in (((40 : Int32) * x3) + x4) 240) ∧ ∀ z_3 : Int64, z_3 = (((31 : Int64) * x1) + ((vA S 0 (((40 : Int32) * x3) + x4).toNatClampNeg).toInt64)) → K180 z_3 x3 (x4 + (1 : Int32)) S))
set_option maxHeartbeats 4000000 in
set_option maxRecDepth 100000 in
theorem bk_X5_digest_180 {p : Program} {l : Launch} {e : Env} {s : State} {m : MethodId} {args : Array Value} {below : List Frame} {meth : Method} {c : Code} {Z : State → Prop} {D : va_G} {cA : Nat → ClassId} {h : Nat → Nat} {Q : Int64 → sT → Prop} (C0 : cx p s m args c cX5_digest 5 RX5 D cA false keysRA h) (hret : rtL p l e rm_X5_digest s m args below meth c cX5_digest Z D (wR h cA) (aK keysRA h s.heap.size) Q) {K157 : Int64 → Int32 → sT → Prop} {K180 : Int64 → Int32 → Int32 → sT → Prop} (k157 : ∀ (x1 : Int64) (x3 : Int32) (S : sT) (H : Heap) (locs : List Loc) (ls : Array Slot), K157 x1 x3 S → va_P D vwCl (wR h cA S) H → va_S (aK keysRA h s.heap.size) s.heap H locs → lv_has ls 5 [(0, .ref (h 100)), (1, .long x1), (3, .int x3)] → W p l e rm_X5_digest s m args below meth c H locs 0 0 Z (F0 m 157 ls [])) (k180 : ∀ (x1 : Int64) (x3 : Int32) (x4 : Int32) (S : sT) (H : Heap) (locs : List Loc) (ls : Array Slot), K180 x1 x3 x4 S → va_P D vwCl (wR h cA S) H → va_S (aK keysRA h s.heap.size) s.heap H locs → lv_has ls 5 [(0, .ref (h 100)), (1, .long x1), (3, .int x3), (4, .int x4)] → W p l e rm_X5_digest s m args below meth c H locs 0 0 Z (F0 m 180 ls [])) {x1 : Int64} {x3 : Int32} {x4 : Int32} {S : sT} {H : Heap} {locs : List Loc} {ls : Array Slot} (hP : va_P D vwCl (wR h cA S) H) (hS : va_S (aK keysRA h s.heap.size) s.heap H locs) (hd : wb_X5_digest_180 Q K157 K180 x1 x3 x4 S) (hl : lv_has ls 5 [(0, .ref (h 100)), (1, .long x1), (3, .int x3), (4, .int x4)]) : W p l e rm_X5_digest s m args below meth c H locs 0 0 Z (F0 m 180 ls []) := by
  obtain ⟨⟨hx, hb, hml, hown, hts⟩, hK, -, -⟩ := id C0
  unfold wb_X5_digest_180 at hd
  refine lv_iload hx hb dX5_digest_180 (lv_at hl 3 rfl) ?_
  refine lv_aload_n hx hb dX5_digest_182 rfl (lv_at hl 0 rfl) ?_
  refine gf_X5_13 C0 hP dX5_digest_183 ?_
  refine lv_iload_n hx hb dX5_digest_186 rfl (lv_at hl 2 rfl) ?_
  obtain ⟨h_1, hd⟩ := hd
  refine ldR (by decide) C0 hP h_1 dX5_digest_187 ?_
  refine lv_icmp_ge (tgt := 217) hx hb dX5_digest_188 (by decide) (fun hc => ?_) (fun hc => ?_)
  · have hd := hd.1 hc
    refine lv_iinc (v := x3 + (1 : Int32)) (lv' := [(3, .int (x3 + (1 : Int32))), (0, .ref (h 100)), (1, .long x1), (4, .int x4)]) hx hb dX5_digest_217 hl (k := 2) rfl rfl (by decide) rfl (fun ls hl => ?_)
    refine lv_goto (tgt := 157) hx hb dX5_digest_220 (by decide) ?_
    exact k157 _ _ _ _ _ _ hd hP hS (lv_sub hl [1, 2, 0] rfl)
  · have hd := hd.2 hc
    refine lv_ldc2 hx hb hown (hts _ lk_X5_295) dX5_digest_191 ?_
    refine lv_lload_n hx hb dX5_digest_194 rfl (lv_at hl 1 rfl) ?_
    refine lv_lmul hx hb dX5_digest_195 ?_
    refine lv_aload_n hx hb dX5_digest_196 rfl (lv_at hl 0 rfl) ?_
    refine gf_X5_7 C0 hP dX5_digest_197 ?_
    refine lv_bipush (v := 40) hx hb dX5_digest_200 (by decide) ?_
    refine lv_iload_n hx hb dX5_digest_202 rfl (lv_at hl 2 rfl) ?_
    refine lv_imul hx hb dX5_digest_203 ?_
    refine lv_iload hx hb dX5_digest_204 (lv_at hl 3 rfl) ?_
    refine lv_iadd hx hb dX5_digest_206 ?_
    obtain ⟨h_2, hd⟩ := hd
    refine ldR (by decide) C0 hP h_2 dX5_digest_207 ?_
    refine lv_i2l hx hb dX5_digest_208 rfl ?_
    refine lv_ladd hx hb dX5_digest_209 ?_
    refine lv_topl (fun z_3 ez_3 => ?_)
    have hd := hd z_3 ez_3
    refine lv_lstore_n (lv' := [(1, .long z_3), (0, .ref (h 100)), (3, .int x3), (4, .int x4)]) hx hb dX5_digest_210 rfl hl (by decide) rfl (fun ls hl => ?_)
    refine lv_iinc (v := x4 + (1 : Int32)) (lv' := [(4, .int (x4 + (1 : Int32))), (1, .long z_3), (0, .ref (h 100)), (3, .int x3)]) hx hb dX5_digest_211 hl (k := 3) rfl rfl (by decide) rfl (fun ls hl => ?_)
    refine lv_goto (tgt := 180) hx hb dX5_digest_214 (by decide) ?_
    exact k180 _ _ _ _ _ _ _ hd hP hS (lv_sub hl [2, 1, 3, 0] rfl)
def wl_X5_digest_180 (Q : Int64 → sT → Prop) (K157 : Int64 → Int32 → sT → Prop) : Nat → Int64 → Int32 → Int32 → sT → Prop
  | 0, _, _, _ => fun _ => False
  | n + 1, x1, x3, x4 => fun S => wb_X5_digest_180 Q K157 (fun x1 x3 x4 S => wl_X5_digest_180 Q K157 n x1 x3 x4 S) x1 x3 x4 S
theorem bl_X5_digest_180 {p : Program} {l : Launch} {e : Env} {s : State} {m : MethodId} {args : Array Value} {below : List Frame} {meth : Method} {c : Code} {Z : State → Prop} {D : va_G} {cA : Nat → ClassId} {h : Nat → Nat} {Q : Int64 → sT → Prop} (C0 : cx p s m args c cX5_digest 5 RX5 D cA false keysRA h) (hret : rtL p l e rm_X5_digest s m args below meth c cX5_digest Z D (wR h cA) (aK keysRA h s.heap.size) Q) {K157 : Int64 → Int32 → sT → Prop} (k157 : ∀ (x1 : Int64) (x3 : Int32) (S : sT) (H : Heap) (locs : List Loc) (ls : Array Slot), K157 x1 x3 S → va_P D vwCl (wR h cA S) H → va_S (aK keysRA h s.heap.size) s.heap H locs → lv_has ls 5 [(0, .ref (h 100)), (1, .long x1), (3, .int x3)] → W p l e rm_X5_digest s m args below meth c H locs 0 0 Z (F0 m 157 ls [])) : ∀ (n : Nat) (x1 : Int64) (x3 : Int32) (x4 : Int32) (S : sT) (H : Heap) (locs : List Loc) (ls : Array Slot), va_P D vwCl (wR h cA S) H → va_S (aK keysRA h s.heap.size) s.heap H locs → wl_X5_digest_180 Q K157 n x1 x3 x4 S → lv_has ls 5 [(0, .ref (h 100)), (1, .long x1), (3, .int x3), (4, .int x4)] → W p l e rm_X5_digest s m args below meth c H locs 0 0 Z (F0 m 180 ls []) := by
  intro n
  induction n with
  | zero => intro x1 x3 x4 S H locs ls hP hS hd hl; exact (show False from hd).elim
  | succ n ih => intro x1 x3 x4 S H locs ls hP hS hd hl; exact bk_X5_digest_180 C0 hret k157 (fun x1 x3 x4 S H locs ls hd hP hS hl => ih x1 x3 x4 S H locs ls hP hS hd hl) hP hS hd hl
def wb_X5_digest_247 (Q : Int64 → sT → Prop) (K225 : Int64 → Int32 → sT → Prop) (K247 : Int64 → Int32 → Int32 → sT → Prop) (x1 : Int64) (x3 : Int32) (x4 : Int32) (S : sT) : Prop :=
  (vp_in x3 4) ∧ (((vA S 3 x3.toNatClampNeg) ≤ x4 → K225 x1 (x3 + (1 : Int32)) S) ∧ (¬ (vA S 3 x3.toNatClampNeg) ≤ x4 → (vp_in (((60 : Int32) * x3) + x4) 240) ∧ ∀ z_3 : Int64, z_3 = (((31 : Int64) * x1) + ((vA S 2 (((60 : Int32) * x3) + x4).toNatClampNeg).toInt64)) → K247 z_3 x3 (x4 + (1 : Int32)) S))
set_option maxHeartbeats 4000000 in
set_option maxRecDepth 100000 in
theorem bk_X5_digest_247 {p : Program} {l : Launch} {e : Env} {s : State} {m : MethodId} {args : Array Value} {below : List Frame} {meth : Method} {c : Code} {Z : State → Prop} {D : va_G} {cA : Nat → ClassId} {h : Nat → Nat} {Q : Int64 → sT → Prop} (C0 : cx p s m args c cX5_digest 5 RX5 D cA false keysRA h) (hret : rtL p l e rm_X5_digest s m args below meth c cX5_digest Z D (wR h cA) (aK keysRA h s.heap.size) Q) {K225 : Int64 → Int32 → sT → Prop} {K247 : Int64 → Int32 → Int32 → sT → Prop} (k225 : ∀ (x1 : Int64) (x3 : Int32) (S : sT) (H : Heap) (locs : List Loc) (ls : Array Slot), K225 x1 x3 S → va_P D vwCl (wR h cA S) H → va_S (aK keysRA h s.heap.size) s.heap H locs → lv_has ls 5 [(0, .ref (h 100)), (1, .long x1), (3, .int x3)] → W p l e rm_X5_digest s m args below meth c H locs 0 0 Z (F0 m 225 ls [])) (k247 : ∀ (x1 : Int64) (x3 : Int32) (x4 : Int32) (S : sT) (H : Heap) (locs : List Loc) (ls : Array Slot), K247 x1 x3 x4 S → va_P D vwCl (wR h cA S) H → va_S (aK keysRA h s.heap.size) s.heap H locs → lv_has ls 5 [(0, .ref (h 100)), (1, .long x1), (3, .int x3), (4, .int x4)] → W p l e rm_X5_digest s m args below meth c H locs 0 0 Z (F0 m 247 ls [])) {x1 : Int64} {x3 : Int32} {x4 : Int32} {S : sT} {H : Heap} {locs : List Loc} {ls : Array Slot} (hP : va_P D vwCl (wR h cA S) H) (hS : va_S (aK keysRA h s.heap.size) s.heap H locs) (hd : wb_X5_digest_247 Q K225 K247 x1 x3 x4 S) (hl : lv_has ls 5 [(0, .ref (h 100)), (1, .long x1), (3, .int x3), (4, .int x4)]) : W p l e rm_X5_digest s m args below meth c H locs 0 0 Z (F0 m 247 ls []) := by
  obtain ⟨⟨hx, hb, hml, hown, hts⟩, hK, -, -⟩ := id C0
  unfold wb_X5_digest_247 at hd
  refine lv_iload hx hb dX5_digest_247 (lv_at hl 3 rfl) ?_
  refine lv_aload_n hx hb dX5_digest_249 rfl (lv_at hl 0 rfl) ?_
  refine gf_X5_19 C0 hP dX5_digest_250 ?_
  refine lv_iload_n hx hb dX5_digest_253 rfl (lv_at hl 2 rfl) ?_
  obtain ⟨h_1, hd⟩ := hd
  refine ldR (by decide) C0 hP h_1 dX5_digest_254 ?_
  refine lv_icmp_ge (tgt := 284) hx hb dX5_digest_255 (by decide) (fun hc => ?_) (fun hc => ?_)
  · have hd := hd.1 hc
    refine lv_iinc (v := x3 + (1 : Int32)) (lv' := [(3, .int (x3 + (1 : Int32))), (0, .ref (h 100)), (1, .long x1), (4, .int x4)]) hx hb dX5_digest_284 hl (k := 2) rfl rfl (by decide) rfl (fun ls hl => ?_)
    refine lv_goto (tgt := 225) hx hb dX5_digest_287 (by decide) ?_
    exact k225 _ _ _ _ _ _ hd hP hS (lv_sub hl [1, 2, 0] rfl)
  · have hd := hd.2 hc
    refine lv_ldc2 hx hb hown (hts _ lk_X5_295) dX5_digest_258 ?_
    refine lv_lload_n hx hb dX5_digest_261 rfl (lv_at hl 1 rfl) ?_
    refine lv_lmul hx hb dX5_digest_262 ?_
    refine lv_aload_n hx hb dX5_digest_263 rfl (lv_at hl 0 rfl) ?_
    refine gf_X5_16 C0 hP dX5_digest_264 ?_
    refine lv_bipush (v := 60) hx hb dX5_digest_267 (by decide) ?_
    refine lv_iload_n hx hb dX5_digest_269 rfl (lv_at hl 2 rfl) ?_
    refine lv_imul hx hb dX5_digest_270 ?_
    refine lv_iload hx hb dX5_digest_271 (lv_at hl 3 rfl) ?_
    refine lv_iadd hx hb dX5_digest_273 ?_
    obtain ⟨h_2, hd⟩ := hd
    refine ldR (by decide) C0 hP h_2 dX5_digest_274 ?_
    refine lv_i2l hx hb dX5_digest_275 rfl ?_
    refine lv_ladd hx hb dX5_digest_276 ?_
    refine lv_topl (fun z_3 ez_3 => ?_)
    have hd := hd z_3 ez_3
    refine lv_lstore_n (lv' := [(1, .long z_3), (0, .ref (h 100)), (3, .int x3), (4, .int x4)]) hx hb dX5_digest_277 rfl hl (by decide) rfl (fun ls hl => ?_)
    refine lv_iinc (v := x4 + (1 : Int32)) (lv' := [(4, .int (x4 + (1 : Int32))), (1, .long z_3), (0, .ref (h 100)), (3, .int x3)]) hx hb dX5_digest_278 hl (k := 3) rfl rfl (by decide) rfl (fun ls hl => ?_)
    refine lv_goto (tgt := 247) hx hb dX5_digest_281 (by decide) ?_
    exact k247 _ _ _ _ _ _ _ hd hP hS (lv_sub hl [2, 1, 3, 0] rfl)
def wl_X5_digest_247 (Q : Int64 → sT → Prop) (K225 : Int64 → Int32 → sT → Prop) : Nat → Int64 → Int32 → Int32 → sT → Prop
  | 0, _, _, _ => fun _ => False
  | n + 1, x1, x3, x4 => fun S => wb_X5_digest_247 Q K225 (fun x1 x3 x4 S => wl_X5_digest_247 Q K225 n x1 x3 x4 S) x1 x3 x4 S
theorem bl_X5_digest_247 {p : Program} {l : Launch} {e : Env} {s : State} {m : MethodId} {args : Array Value} {below : List Frame} {meth : Method} {c : Code} {Z : State → Prop} {D : va_G} {cA : Nat → ClassId} {h : Nat → Nat} {Q : Int64 → sT → Prop} (C0 : cx p s m args c cX5_digest 5 RX5 D cA false keysRA h) (hret : rtL p l e rm_X5_digest s m args below meth c cX5_digest Z D (wR h cA) (aK keysRA h s.heap.size) Q) {K225 : Int64 → Int32 → sT → Prop} (k225 : ∀ (x1 : Int64) (x3 : Int32) (S : sT) (H : Heap) (locs : List Loc) (ls : Array Slot), K225 x1 x3 S → va_P D vwCl (wR h cA S) H → va_S (aK keysRA h s.heap.size) s.heap H locs → lv_has ls 5 [(0, .ref (h 100)), (1, .long x1), (3, .int x3)] → W p l e rm_X5_digest s m args below meth c H locs 0 0 Z (F0 m 225 ls [])) : ∀ (n : Nat) (x1 : Int64) (x3 : Int32) (x4 : Int32) (S : sT) (H : Heap) (locs : List Loc) (ls : Array Slot), va_P D vwCl (wR h cA S) H → va_S (aK keysRA h s.heap.size) s.heap H locs → wl_X5_digest_247 Q K225 n x1 x3 x4 S → lv_has ls 5 [(0, .ref (h 100)), (1, .long x1), (3, .int x3), (4, .int x4)] → W p l e rm_X5_digest s m args below meth c H locs 0 0 Z (F0 m 247 ls []) := by
  intro n
  induction n with
  | zero => intro x1 x3 x4 S H locs ls hP hS hd hl; exact (show False from hd).elim
  | succ n ih => intro x1 x3 x4 S H locs ls hP hS hd hl; exact bk_X5_digest_247 C0 hret k225 (fun x1 x3 x4 S H locs ls hd hP hS hl => ih x1 x3 x4 S H locs ls hP hS hd hl) hP hS hd hl
def wb_X5_digest_225 (Q : Int64 → sT → Prop) (K225 : Int64 → Int32 → sT → Prop) (x1 : Int64) (x3 : Int32) (S : sT) : Prop :=
  (((4 : Int32) ≤ x3 → Q x1 S) ∧ (¬ (4 : Int32) ≤ x3 → (vp_in x3 4) ∧ ∃ n : Nat, wl_X5_digest_247 Q K225 n (((31 : Int64) * x1) + ((vA S 3 x3.toNatClampNeg).toInt64)) x3 (0 : Int32) S))
set_option maxHeartbeats 4000000 in
set_option maxRecDepth 100000 in
theorem bk_X5_digest_225 {p : Program} {l : Launch} {e : Env} {s : State} {m : MethodId} {args : Array Value} {below : List Frame} {meth : Method} {c : Code} {Z : State → Prop} {D : va_G} {cA : Nat → ClassId} {h : Nat → Nat} {Q : Int64 → sT → Prop} (C0 : cx p s m args c cX5_digest 5 RX5 D cA false keysRA h) (hret : rtL p l e rm_X5_digest s m args below meth c cX5_digest Z D (wR h cA) (aK keysRA h s.heap.size) Q) {K225 : Int64 → Int32 → sT → Prop} (k225 : ∀ (x1 : Int64) (x3 : Int32) (S : sT) (H : Heap) (locs : List Loc) (ls : Array Slot), K225 x1 x3 S → va_P D vwCl (wR h cA S) H → va_S (aK keysRA h s.heap.size) s.heap H locs → lv_has ls 5 [(0, .ref (h 100)), (1, .long x1), (3, .int x3)] → W p l e rm_X5_digest s m args below meth c H locs 0 0 Z (F0 m 225 ls [])) {x1 : Int64} {x3 : Int32} {S : sT} {H : Heap} {locs : List Loc} {ls : Array Slot} (hP : va_P D vwCl (wR h cA S) H) (hS : va_S (aK keysRA h s.heap.size) s.heap H locs) (hd : wb_X5_digest_225 Q K225 x1 x3 S) (hl : lv_has ls 5 [(0, .ref (h 100)), (1, .long x1), (3, .int x3)]) : W p l e rm_X5_digest s m args below meth c H locs 0 0 Z (F0 m 225 ls []) := by
  obtain ⟨⟨hx, hb, hml, hown, hts⟩, hK, -, -⟩ := id C0
  unfold wb_X5_digest_225 at hd
  refine lv_iload_n hx hb dX5_digest_225 rfl (lv_at hl 2 rfl) ?_
  refine lv_iconst (v := 4) hx hb dX5_digest_226 (by decide) ?_
  refine lv_icmp_ge (tgt := 290) hx hb dX5_digest_227 (by decide) (fun hc => ?_) (fun hc => ?_)
  · have hd := hd.1 hc
    refine lv_lload_n hx hb dX5_digest_290 rfl (lv_at hl 1 rfl) ?_
    exact hret _ _ _ _ _ _ hd hP hS dX5_digest_291
  · have hd := hd.2 hc
    refine lv_ldc2 hx hb hown (hts _ lk_X5_295) dX5_digest_230 ?_
    refine lv_lload_n hx hb dX5_digest_233 rfl (lv_at hl 1 rfl) ?_
    refine lv_lmul hx hb dX5_digest_234 ?_
    refine lv_aload_n hx hb dX5_digest_235 rfl (lv_at hl 0 rfl) ?_
    refine gf_X5_19 C0 hP dX5_digest_236 ?_
    refine lv_iload_n hx hb dX5_digest_239 rfl (lv_at hl 2 rfl) ?_
    obtain ⟨h_1, hd⟩ := hd
    refine ldR (by decide) C0 hP h_1 dX5_digest_240 ?_
    refine lv_i2l hx hb dX5_digest_241 rfl ?_
    refine lv_ladd hx hb dX5_digest_242 ?_
    refine lv_lstore_n (lv' := [(1, .long (((31 : Int64) * x1) + ((vA S 3 x3.toNatClampNeg).toInt64))), (0, .ref (h 100)), (3, .int x3)]) hx hb dX5_digest_243 rfl hl (by decide) rfl (fun ls hl => ?_)
    refine lv_iconst (v := 0) hx hb dX5_digest_244 (by decide) ?_
    refine lv_istore (lv' := [(4, .int (0 : Int32)), (1, .long (((31 : Int64) * x1) + ((vA S 3 x3.toNatClampNeg).toInt64))), (0, .ref (h 100)), (3, .int x3)]) hx hb dX5_digest_245 hl (by decide) rfl (fun ls hl => ?_)
    obtain ⟨n_2, hd⟩ := hd
    exact bl_X5_digest_247 C0 hret k225 _ _ _ _ _ _ _ _ hP hS hd (lv_sub hl [2, 1, 3, 0] rfl)
def wl_X5_digest_225 (Q : Int64 → sT → Prop) : Nat → Int64 → Int32 → sT → Prop
  | 0, _, _ => fun _ => False
  | n + 1, x1, x3 => fun S => wb_X5_digest_225 Q (fun x1 x3 S => wl_X5_digest_225 Q n x1 x3 S) x1 x3 S
theorem bl_X5_digest_225 {p : Program} {l : Launch} {e : Env} {s : State} {m : MethodId} {args : Array Value} {below : List Frame} {meth : Method} {c : Code} {Z : State → Prop} {D : va_G} {cA : Nat → ClassId} {h : Nat → Nat} {Q : Int64 → sT → Prop} (C0 : cx p s m args c cX5_digest 5 RX5 D cA false keysRA h) (hret : rtL p l e rm_X5_digest s m args below meth c cX5_digest Z D (wR h cA) (aK keysRA h s.heap.size) Q) : ∀ (n : Nat) (x1 : Int64) (x3 : Int32) (S : sT) (H : Heap) (locs : List Loc) (ls : Array Slot), va_P D vwCl (wR h cA S) H → va_S (aK keysRA h s.heap.size) s.heap H locs → wl_X5_digest_225 Q n x1 x3 S → lv_has ls 5 [(0, .ref (h 100)), (1, .long x1), (3, .int x3)] → W p l e rm_X5_digest s m args below meth c H locs 0 0 Z (F0 m 225 ls []) := by
  intro n
  induction n with
  | zero => intro x1 x3 S H locs ls hP hS hd hl; exact (show False from hd).elim
  | succ n ih => intro x1 x3 S H locs ls hP hS hd hl; exact bk_X5_digest_225 C0 hret (fun x1 x3 S H locs ls hd hP hS hl => ih x1 x3 S H locs ls hP hS hd hl) hP hS hd hl
def wb_X5_digest_157 (Q : Int64 → sT → Prop) (K157 : Int64 → Int32 → sT → Prop) (x1 : Int64) (x3 : Int32) (S : sT) : Prop :=
  (((6 : Int32) ≤ x3 → ∃ n : Nat, wl_X5_digest_225 Q n x1 (0 : Int32) S) ∧ (¬ (6 : Int32) ≤ x3 → (vp_in x3 6) ∧ ∃ n : Nat, wl_X5_digest_180 Q K157 n (((31 : Int64) * x1) + ((vA S 1 x3.toNatClampNeg).toInt64)) x3 (0 : Int32) S))
set_option maxHeartbeats 4000000 in
set_option maxRecDepth 100000 in
theorem bk_X5_digest_157 {p : Program} {l : Launch} {e : Env} {s : State} {m : MethodId} {args : Array Value} {below : List Frame} {meth : Method} {c : Code} {Z : State → Prop} {D : va_G} {cA : Nat → ClassId} {h : Nat → Nat} {Q : Int64 → sT → Prop} (C0 : cx p s m args c cX5_digest 5 RX5 D cA false keysRA h) (hret : rtL p l e rm_X5_digest s m args below meth c cX5_digest Z D (wR h cA) (aK keysRA h s.heap.size) Q) {K157 : Int64 → Int32 → sT → Prop} (k157 : ∀ (x1 : Int64) (x3 : Int32) (S : sT) (H : Heap) (locs : List Loc) (ls : Array Slot), K157 x1 x3 S → va_P D vwCl (wR h cA S) H → va_S (aK keysRA h s.heap.size) s.heap H locs → lv_has ls 5 [(0, .ref (h 100)), (1, .long x1), (3, .int x3)] → W p l e rm_X5_digest s m args below meth c H locs 0 0 Z (F0 m 157 ls [])) {x1 : Int64} {x3 : Int32} {S : sT} {H : Heap} {locs : List Loc} {ls : Array Slot} (hP : va_P D vwCl (wR h cA S) H) (hS : va_S (aK keysRA h s.heap.size) s.heap H locs) (hd : wb_X5_digest_157 Q K157 x1 x3 S) (hl : lv_has ls 5 [(0, .ref (h 100)), (1, .long x1), (3, .int x3)]) : W p l e rm_X5_digest s m args below meth c H locs 0 0 Z (F0 m 157 ls []) := by
  obtain ⟨⟨hx, hb, hml, hown, hts⟩, hK, -, -⟩ := id C0
  unfold wb_X5_digest_157 at hd
  refine lv_iload_n hx hb dX5_digest_157 rfl (lv_at hl 2 rfl) ?_
  refine lv_bipush (v := 6) hx hb dX5_digest_158 (by decide) ?_
  refine lv_icmp_ge (tgt := 223) hx hb dX5_digest_160 (by decide) (fun hc => ?_) (fun hc => ?_)
  · have hd := hd.1 hc
    refine lv_iconst (v := 0) hx hb dX5_digest_223 (by decide) ?_
    refine lv_istore_n (lv' := [(3, .int (0 : Int32)), (0, .ref (h 100)), (1, .long x1)]) hx hb dX5_digest_224 rfl hl (by decide) rfl (fun ls hl => ?_)
    obtain ⟨n_1, hd⟩ := hd
    exact bl_X5_digest_225 C0 hret _ _ _ _ _ _ _ hP hS hd (lv_sub hl [1, 2, 0] rfl)
  · have hd := hd.2 hc
    refine lv_ldc2 hx hb hown (hts _ lk_X5_295) dX5_digest_163 ?_
    refine lv_lload_n hx hb dX5_digest_166 rfl (lv_at hl 1 rfl) ?_
    refine lv_lmul hx hb dX5_digest_167 ?_
    refine lv_aload_n hx hb dX5_digest_168 rfl (lv_at hl 0 rfl) ?_
    refine gf_X5_13 C0 hP dX5_digest_169 ?_
    refine lv_iload_n hx hb dX5_digest_172 rfl (lv_at hl 2 rfl) ?_
    obtain ⟨h_2, hd⟩ := hd
    refine ldR (by decide) C0 hP h_2 dX5_digest_173 ?_
    refine lv_i2l hx hb dX5_digest_174 rfl ?_
    refine lv_ladd hx hb dX5_digest_175 ?_
    refine lv_lstore_n (lv' := [(1, .long (((31 : Int64) * x1) + ((vA S 1 x3.toNatClampNeg).toInt64))), (0, .ref (h 100)), (3, .int x3)]) hx hb dX5_digest_176 rfl hl (by decide) rfl (fun ls hl => ?_)
    refine lv_iconst (v := 0) hx hb dX5_digest_177 (by decide) ?_
    refine lv_istore (lv' := [(4, .int (0 : Int32)), (1, .long (((31 : Int64) * x1) + ((vA S 1 x3.toNatClampNeg).toInt64))), (0, .ref (h 100)), (3, .int x3)]) hx hb dX5_digest_178 hl (by decide) rfl (fun ls hl => ?_)
    obtain ⟨n_3, hd⟩ := hd
    exact bl_X5_digest_180 C0 hret k157 _ _ _ _ _ _ _ _ hP hS hd (lv_sub hl [2, 1, 3, 0] rfl)
def wl_X5_digest_157 (Q : Int64 → sT → Prop) : Nat → Int64 → Int32 → sT → Prop
  | 0, _, _ => fun _ => False
  | n + 1, x1, x3 => fun S => wb_X5_digest_157 Q (fun x1 x3 S => wl_X5_digest_157 Q n x1 x3 S) x1 x3 S
theorem bl_X5_digest_157 {p : Program} {l : Launch} {e : Env} {s : State} {m : MethodId} {args : Array Value} {below : List Frame} {meth : Method} {c : Code} {Z : State → Prop} {D : va_G} {cA : Nat → ClassId} {h : Nat → Nat} {Q : Int64 → sT → Prop} (C0 : cx p s m args c cX5_digest 5 RX5 D cA false keysRA h) (hret : rtL p l e rm_X5_digest s m args below meth c cX5_digest Z D (wR h cA) (aK keysRA h s.heap.size) Q) : ∀ (n : Nat) (x1 : Int64) (x3 : Int32) (S : sT) (H : Heap) (locs : List Loc) (ls : Array Slot), va_P D vwCl (wR h cA S) H → va_S (aK keysRA h s.heap.size) s.heap H locs → wl_X5_digest_157 Q n x1 x3 S → lv_has ls 5 [(0, .ref (h 100)), (1, .long x1), (3, .int x3)] → W p l e rm_X5_digest s m args below meth c H locs 0 0 Z (F0 m 157 ls []) := by
  intro n
  induction n with
  | zero => intro x1 x3 S H locs ls hP hS hd hl; exact (show False from hd).elim
  | succ n ih => intro x1 x3 S H locs ls hP hS hd hl; exact bk_X5_digest_157 C0 hret (fun x1 x3 S H locs ls hd hP hS hl => ih x1 x3 S H locs ls hP hS hd hl) hP hS hd hl
def wb_X5_digest_126 (Q : Int64 → sT → Prop) (K126 : Int64 → Int32 → sT → Prop) (x1 : Int64) (x3 : Int32) (S : sT) : Prop :=
  (((3 : Int32) ≤ x3 → ∃ n : Nat, wl_X5_digest_157 Q n x1 (0 : Int32) S) ∧ (¬ (3 : Int32) ≤ x3 → (vp_in ((370 : Int32) * x3) 1110) ∧ ∀ z_3 : Int64, z_3 = (((31 : Int64) * x1) + ((vA S 18 ((370 : Int32) * x3).toNatClampNeg).toInt64)) → K126 z_3 (x3 + (1 : Int32)) S))
set_option maxHeartbeats 4000000 in
set_option maxRecDepth 100000 in
theorem bk_X5_digest_126 {p : Program} {l : Launch} {e : Env} {s : State} {m : MethodId} {args : Array Value} {below : List Frame} {meth : Method} {c : Code} {Z : State → Prop} {D : va_G} {cA : Nat → ClassId} {h : Nat → Nat} {Q : Int64 → sT → Prop} (C0 : cx p s m args c cX5_digest 5 RX5 D cA false keysRA h) (hret : rtL p l e rm_X5_digest s m args below meth c cX5_digest Z D (wR h cA) (aK keysRA h s.heap.size) Q) {K126 : Int64 → Int32 → sT → Prop} (k126 : ∀ (x1 : Int64) (x3 : Int32) (S : sT) (H : Heap) (locs : List Loc) (ls : Array Slot), K126 x1 x3 S → va_P D vwCl (wR h cA S) H → va_S (aK keysRA h s.heap.size) s.heap H locs → lv_has ls 5 [(0, .ref (h 100)), (1, .long x1), (3, .int x3)] → W p l e rm_X5_digest s m args below meth c H locs 0 0 Z (F0 m 126 ls [])) {x1 : Int64} {x3 : Int32} {S : sT} {H : Heap} {locs : List Loc} {ls : Array Slot} (hP : va_P D vwCl (wR h cA S) H) (hS : va_S (aK keysRA h s.heap.size) s.heap H locs) (hd : wb_X5_digest_126 Q K126 x1 x3 S) (hl : lv_has ls 5 [(0, .ref (h 100)), (1, .long x1), (3, .int x3)]) : W p l e rm_X5_digest s m args below meth c H locs 0 0 Z (F0 m 126 ls []) := by
  obtain ⟨⟨hx, hb, hml, hown, hts⟩, hK, -, -⟩ := id C0
  unfold wb_X5_digest_126 at hd
  refine lv_iload_n hx hb dX5_digest_126 rfl (lv_at hl 2 rfl) ?_
  refine lv_iconst (v := 3) hx hb dX5_digest_127 (by decide) ?_
  refine lv_icmp_ge (tgt := 155) hx hb dX5_digest_128 (by decide) (fun hc => ?_) (fun hc => ?_)
  · have hd := hd.1 hc
    refine lv_iconst (v := 0) hx hb dX5_digest_155 (by decide) ?_
    refine lv_istore_n (lv' := [(3, .int (0 : Int32)), (0, .ref (h 100)), (1, .long x1)]) hx hb dX5_digest_156 rfl hl (by decide) rfl (fun ls hl => ?_)
    obtain ⟨n_1, hd⟩ := hd
    exact bl_X5_digest_157 C0 hret _ _ _ _ _ _ _ hP hS hd (lv_sub hl [1, 2, 0] rfl)
  · have hd := hd.2 hc
    refine lv_ldc2 hx hb hown (hts _ lk_X5_295) dX5_digest_131 ?_
    refine lv_lload_n hx hb dX5_digest_134 rfl (lv_at hl 1 rfl) ?_
    refine lv_lmul hx hb dX5_digest_135 ?_
    refine lv_aload_n hx hb dX5_digest_136 rfl (lv_at hl 0 rfl) ?_
    refine gf_X5_44 C0 hP dX5_digest_137 ?_
    refine lv_sipush (v := 370) hx hb dX5_digest_140 (by decide) ?_
    refine lv_iload_n hx hb dX5_digest_143 rfl (lv_at hl 2 rfl) ?_
    refine lv_imul hx hb dX5_digest_144 ?_
    obtain ⟨h_2, hd⟩ := hd
    refine ldR (by decide) C0 hP h_2 dX5_digest_145 ?_
    refine lv_i2l hx hb dX5_digest_146 rfl ?_
    refine lv_ladd hx hb dX5_digest_147 ?_
    refine lv_topl (fun z_3 ez_3 => ?_)
    have hd := hd z_3 ez_3
    refine lv_lstore_n (lv' := [(1, .long z_3), (0, .ref (h 100)), (3, .int x3)]) hx hb dX5_digest_148 rfl hl (by decide) rfl (fun ls hl => ?_)
    refine lv_iinc (v := x3 + (1 : Int32)) (lv' := [(3, .int (x3 + (1 : Int32))), (1, .long z_3), (0, .ref (h 100))]) hx hb dX5_digest_149 hl (k := 2) rfl rfl (by decide) rfl (fun ls hl => ?_)
    refine lv_goto (tgt := 126) hx hb dX5_digest_152 (by decide) ?_
    exact k126 _ _ _ _ _ _ hd hP hS (lv_sub hl [2, 1, 0] rfl)
def wl_X5_digest_126 (Q : Int64 → sT → Prop) : Nat → Int64 → Int32 → sT → Prop
  | 0, _, _ => fun _ => False
  | n + 1, x1, x3 => fun S => wb_X5_digest_126 Q (fun x1 x3 S => wl_X5_digest_126 Q n x1 x3 S) x1 x3 S
theorem bl_X5_digest_126 {p : Program} {l : Launch} {e : Env} {s : State} {m : MethodId} {args : Array Value} {below : List Frame} {meth : Method} {c : Code} {Z : State → Prop} {D : va_G} {cA : Nat → ClassId} {h : Nat → Nat} {Q : Int64 → sT → Prop} (C0 : cx p s m args c cX5_digest 5 RX5 D cA false keysRA h) (hret : rtL p l e rm_X5_digest s m args below meth c cX5_digest Z D (wR h cA) (aK keysRA h s.heap.size) Q) : ∀ (n : Nat) (x1 : Int64) (x3 : Int32) (S : sT) (H : Heap) (locs : List Loc) (ls : Array Slot), va_P D vwCl (wR h cA S) H → va_S (aK keysRA h s.heap.size) s.heap H locs → wl_X5_digest_126 Q n x1 x3 S → lv_has ls 5 [(0, .ref (h 100)), (1, .long x1), (3, .int x3)] → W p l e rm_X5_digest s m args below meth c H locs 0 0 Z (F0 m 126 ls []) := by
  intro n
  induction n with
  | zero => intro x1 x3 S H locs ls hP hS hd hl; exact (show False from hd).elim
  | succ n ih => intro x1 x3 S H locs ls hP hS hd hl; exact bk_X5_digest_126 C0 hret (fun x1 x3 S H locs ls hd hP hS hl => ih x1 x3 S H locs ls hP hS hd hl) hP hS hd hl
def wb_X5_digest_33 (Q : Int64 → sT → Prop) (K33 : Int64 → Int32 → sT → Prop) (x1 : Int64) (x3 : Int32) (S : sT) : Prop :=
  (((vI S 9) ≤ x3 → ∃ n : Nat, wl_X5_digest_126 Q n x1 (0 : Int32) S) ∧ (¬ (vI S 9) ≤ x3 → (vp_in x3 6) ∧ (vp_in x3 6) ∧ (vp_in ((3 : Int32) + x3) 9) ∧ ∀ z_5 : Int64, z_5 = (((31 : Int64) * (((31 : Int64) * (((31 : Int64) * x1) + ((vA S 12 x3.toNatClampNeg).toInt64))) + ((vA S 13 x3.toNatClampNeg).toInt64))) + ((vA S 14 ((3 : Int32) + x3).toNatClampNeg).toInt64)) → (vp_in (2 : Int32) 9) ∧ wp_X5_isDreaming x3 S (fun r_7 S_7 => ((r_7 = 0 → wb_X5_digest_115 Q K33 x3 ((31 : Int64) * (((31 : Int64) * z_5) + ((((vA S 14 (2 : Int32).toNatClampNeg) >>> (x3 &&& 31)) &&& (1 : Int32)).toInt64))) (0 : Int32) S_7) ∧ (¬ r_7 = 0 → wb_X5_digest_115 Q K33 x3 ((31 : Int64) * (((31 : Int64) * z_5) + ((((vA S 14 (2 : Int32).toNatClampNeg) >>> (x3 &&& 31)) &&& (1 : Int32)).toInt64))) (1 : Int32) S_7)))))
set_option maxHeartbeats 4000000 in
set_option maxRecDepth 100000 in
theorem bk_X5_digest_33 {p : Program} {l : Launch} {e : Env} {s : State} {m : MethodId} {args : Array Value} {below : List Frame} {meth : Method} {c : Code} {Z : State → Prop} {D : va_G} {cA : Nat → ClassId} {h : Nat → Nat} {Q : Int64 → sT → Prop} (C0 : cx p s m args c cX5_digest 5 RX5 D cA false keysRA h) (hret : rtL p l e rm_X5_digest s m args below meth c cX5_digest Z D (wR h cA) (aK keysRA h s.heap.size) Q) {K33 : Int64 → Int32 → sT → Prop} (k33 : ∀ (x1 : Int64) (x3 : Int32) (S : sT) (H : Heap) (locs : List Loc) (ls : Array Slot), K33 x1 x3 S → va_P D vwCl (wR h cA S) H → va_S (aK keysRA h s.heap.size) s.heap H locs → lv_has ls 5 [(0, .ref (h 100)), (1, .long x1), (3, .int x3)] → W p l e rm_X5_digest s m args below meth c H locs 0 0 Z (F0 m 33 ls [])) {x1 : Int64} {x3 : Int32} {S : sT} {H : Heap} {locs : List Loc} {ls : Array Slot} (hP : va_P D vwCl (wR h cA S) H) (hS : va_S (aK keysRA h s.heap.size) s.heap H locs) (hd : wb_X5_digest_33 Q K33 x1 x3 S) (hl : lv_has ls 5 [(0, .ref (h 100)), (1, .long x1), (3, .int x3)]) : W p l e rm_X5_digest s m args below meth c H locs 0 0 Z (F0 m 33 ls []) := by
  obtain ⟨⟨hx, hb, hml, hown, hts⟩, hK, -, -⟩ := id C0
  unfold wb_X5_digest_33 at hd
  refine lv_iload_n hx hb dX5_digest_33 rfl (lv_at hl 2 rfl) ?_
  refine lv_aload_n hx hb dX5_digest_34 rfl (lv_at hl 0 rfl) ?_
  refine gf_X5_97 C0 hP dX5_digest_35 ?_
  refine lv_icmp_ge (tgt := 124) hx hb dX5_digest_38 (by decide) (fun hc => ?_) (fun hc => ?_)
  · have hd := hd.1 hc
    refine lv_iconst (v := 0) hx hb dX5_digest_124 (by decide) ?_
    refine lv_istore_n (lv' := [(3, .int (0 : Int32)), (0, .ref (h 100)), (1, .long x1)]) hx hb dX5_digest_125 rfl hl (by decide) rfl (fun ls hl => ?_)
    obtain ⟨n_1, hd⟩ := hd
    exact bl_X5_digest_126 C0 hret _ _ _ _ _ _ _ hP hS hd (lv_sub hl [1, 2, 0] rfl)
  · have hd := hd.2 hc
    refine lv_ldc2 hx hb hown (hts _ lk_X5_295) dX5_digest_41 ?_
    refine lv_ldc2 hx hb hown (hts _ lk_X5_295) dX5_digest_44 ?_
    refine lv_ldc2 hx hb hown (hts _ lk_X5_295) dX5_digest_47 ?_
    refine lv_lload_n hx hb dX5_digest_50 rfl (lv_at hl 1 rfl) ?_
    refine lv_lmul hx hb dX5_digest_51 ?_
    refine lv_aload_n hx hb dX5_digest_52 rfl (lv_at hl 0 rfl) ?_
    refine gf_X5_29 C0 hP dX5_digest_53 ?_
    refine lv_iload_n hx hb dX5_digest_56 rfl (lv_at hl 2 rfl) ?_
    obtain ⟨h_2, hd⟩ := hd
    refine ldR (by decide) C0 hP h_2 dX5_digest_57 ?_
    refine lv_i2l hx hb dX5_digest_58 rfl ?_
    refine lv_ladd hx hb dX5_digest_59 ?_
    refine lv_lmul hx hb dX5_digest_60 ?_
    refine lv_aload_n hx hb dX5_digest_61 rfl (lv_at hl 0 rfl) ?_
    refine gf_X5_32 C0 hP dX5_digest_62 ?_
    refine lv_iload_n hx hb dX5_digest_65 rfl (lv_at hl 2 rfl) ?_
    obtain ⟨h_3, hd⟩ := hd
    refine ldR (by decide) C0 hP h_3 dX5_digest_66 ?_
    refine lv_i2l hx hb dX5_digest_67 rfl ?_
    refine lv_ladd hx hb dX5_digest_68 ?_
    refine lv_lmul hx hb dX5_digest_69 ?_
    refine lv_aload_n hx hb dX5_digest_70 rfl (lv_at hl 0 rfl) ?_
    refine gf_X5_35 C0 hP dX5_digest_71 ?_
    refine lv_iconst (v := 3) hx hb dX5_digest_74 (by decide) ?_
    refine lv_iload_n hx hb dX5_digest_75 rfl (lv_at hl 2 rfl) ?_
    refine lv_iadd hx hb dX5_digest_76 ?_
    obtain ⟨h_4, hd⟩ := hd
    refine ldR (by decide) C0 hP h_4 dX5_digest_77 ?_
    refine lv_i2l hx hb dX5_digest_78 rfl ?_
    refine lv_ladd hx hb dX5_digest_79 ?_
    refine lv_topl (fun z_5 ez_5 => ?_)
    have hd := hd z_5 ez_5
    refine lv_lstore_n (lv' := [(1, .long z_5), (0, .ref (h 100)), (3, .int x3)]) hx hb dX5_digest_80 rfl hl (by decide) rfl (fun ls hl => ?_)
    refine lv_ldc2 hx hb hown (hts _ lk_X5_295) dX5_digest_81 ?_
    refine lv_ldc2 hx hb hown (hts _ lk_X5_295) dX5_digest_84 ?_
    refine lv_lload_n hx hb dX5_digest_87 rfl (lv_at hl 0 rfl) ?_
    refine lv_lmul hx hb dX5_digest_88 ?_
    refine lv_aload_n hx hb dX5_digest_89 rfl (lv_at hl 1 rfl) ?_
    refine gf_X5_35 C0 hP dX5_digest_90 ?_
    refine lv_iconst (v := 2) hx hb dX5_digest_93 (by decide) ?_
    obtain ⟨h_6, hd⟩ := hd
    refine ldR (by decide) C0 hP h_6 dX5_digest_94 ?_
    refine lv_iload_n hx hb dX5_digest_95 rfl (lv_at hl 2 rfl) ?_
    refine lv_ishr hx hb dX5_digest_96 ?_
    refine lv_iconst (v := 1) hx hb dX5_digest_97 (by decide) ?_
    refine lv_iand hx hb dX5_digest_98 ?_
    refine lv_i2l hx hb dX5_digest_99 rfl ?_
    refine lv_ladd hx hb dX5_digest_100 ?_
    refine lv_lmul hx hb dX5_digest_101 ?_
    refine lv_aload_n hx hb dX5_digest_102 rfl (lv_at hl 1 rfl) ?_
    refine lv_iload_n hx hb dX5_digest_103 rfl (lv_at hl 2 rfl) ?_
    refine cl_Vi (n := 1) (rest := [.long ((31 : Int64) * (((31 : Int64) * z_5) + ((((vA S 14 (2 : Int32).toNatClampNeg) >>> (x3 &&& 31)) &&& (1 : Int32)).toInt64)))]) C0 hP hS (c_X5_isDreaming l C0.2.2.1 _ hd) (lwG_V lm_X5_181 li_X5_isDreaming lx_X5_isDreaming lz_RX5 lc_X5_isDreaming) (by decide +kernel) (oR_at h cA _) rfl rfl rfl (Nat.le_of_ble_eq_true rfl) ⟨rfl, rfl⟩ ⟨by decide, by decide⟩ dX5_digest_104 hl.1 ⟨Nat.zero_le _, Nat.zero_le _⟩ (fun r_7 S_7 H locs hd hP hS => ?_)
    refine lv_if_eq (tgt := 114) hx hb dX5_digest_107 (by decide) (fun hc => ?_) (fun hc => ?_)
    · have hd := hd.1 hc
      refine lv_iconst (v := 0) hx hb dX5_digest_114 (by decide) ?_
      exact bk_X5_digest_115 C0 hret k33 hP hS hd (lv_sub hl [1, 2] rfl)
    · have hd := hd.2 hc
      refine lv_iconst (v := 1) hx hb dX5_digest_110 (by decide) ?_
      refine lv_goto (tgt := 115) hx hb dX5_digest_111 (by decide) ?_
      exact bk_X5_digest_115 C0 hret k33 hP hS hd (lv_sub hl [1, 2] rfl)
def wl_X5_digest_33 (Q : Int64 → sT → Prop) : Nat → Int64 → Int32 → sT → Prop
  | 0, _, _ => fun _ => False
  | n + 1, x1, x3 => fun S => wb_X5_digest_33 Q (fun x1 x3 S => wl_X5_digest_33 Q n x1 x3 S) x1 x3 S
theorem bl_X5_digest_33 {p : Program} {l : Launch} {e : Env} {s : State} {m : MethodId} {args : Array Value} {below : List Frame} {meth : Method} {c : Code} {Z : State → Prop} {D : va_G} {cA : Nat → ClassId} {h : Nat → Nat} {Q : Int64 → sT → Prop} (C0 : cx p s m args c cX5_digest 5 RX5 D cA false keysRA h) (hret : rtL p l e rm_X5_digest s m args below meth c cX5_digest Z D (wR h cA) (aK keysRA h s.heap.size) Q) : ∀ (n : Nat) (x1 : Int64) (x3 : Int32) (S : sT) (H : Heap) (locs : List Loc) (ls : Array Slot), va_P D vwCl (wR h cA S) H → va_S (aK keysRA h s.heap.size) s.heap H locs → wl_X5_digest_33 Q n x1 x3 S → lv_has ls 5 [(0, .ref (h 100)), (1, .long x1), (3, .int x3)] → W p l e rm_X5_digest s m args below meth c H locs 0 0 Z (F0 m 33 ls []) := by
  intro n
  induction n with
  | zero => intro x1 x3 S H locs ls hP hS hd hl; exact (show False from hd).elim
  | succ n ih => intro x1 x3 S H locs ls hP hS hd hl; exact bk_X5_digest_33 C0 hret (fun x1 x3 S H locs ls hd hP hS hl => ih x1 x3 S H locs ls hP hS hd hl) hP hS hd hl
def wb_X5_digest_6 (Q : Int64 → sT → Prop) (K6 : Int64 → Int32 → sT → Prop) (x1 : Int64) (x3 : Int32) (S : sT) : Prop :=
  (((12 : Int32) ≤ x3 → ∃ n : Nat, wl_X5_digest_33 Q n x1 (0 : Int32) S) ∧ (¬ (12 : Int32) ≤ x3 → wp_X5_count x3 S (fun r_2 S_2 => K6 (((31 : Int64) * x1) + r_2.toInt64) (x3 + (1 : Int32)) S_2)))
set_option maxHeartbeats 4000000 in
set_option maxRecDepth 100000 in
theorem bk_X5_digest_6 {p : Program} {l : Launch} {e : Env} {s : State} {m : MethodId} {args : Array Value} {below : List Frame} {meth : Method} {c : Code} {Z : State → Prop} {D : va_G} {cA : Nat → ClassId} {h : Nat → Nat} {Q : Int64 → sT → Prop} (C0 : cx p s m args c cX5_digest 5 RX5 D cA false keysRA h) (hret : rtL p l e rm_X5_digest s m args below meth c cX5_digest Z D (wR h cA) (aK keysRA h s.heap.size) Q) {K6 : Int64 → Int32 → sT → Prop} (k6 : ∀ (x1 : Int64) (x3 : Int32) (S : sT) (H : Heap) (locs : List Loc) (ls : Array Slot), K6 x1 x3 S → va_P D vwCl (wR h cA S) H → va_S (aK keysRA h s.heap.size) s.heap H locs → lv_has ls 5 [(0, .ref (h 100)), (1, .long x1), (3, .int x3)] → W p l e rm_X5_digest s m args below meth c H locs 0 0 Z (F0 m 6 ls [])) {x1 : Int64} {x3 : Int32} {S : sT} {H : Heap} {locs : List Loc} {ls : Array Slot} (hP : va_P D vwCl (wR h cA S) H) (hS : va_S (aK keysRA h s.heap.size) s.heap H locs) (hd : wb_X5_digest_6 Q K6 x1 x3 S) (hl : lv_has ls 5 [(0, .ref (h 100)), (1, .long x1), (3, .int x3)]) : W p l e rm_X5_digest s m args below meth c H locs 0 0 Z (F0 m 6 ls []) := by
  obtain ⟨⟨hx, hb, hml, hown, hts⟩, hK, -, -⟩ := id C0
  unfold wb_X5_digest_6 at hd
  refine lv_iload_n hx hb dX5_digest_6 rfl (lv_at hl 2 rfl) ?_
  refine lv_bipush (v := 12) hx hb dX5_digest_7 (by decide) ?_
  refine lv_icmp_ge (tgt := 31) hx hb dX5_digest_9 (by decide) (fun hc => ?_) (fun hc => ?_)
  · have hd := hd.1 hc
    refine lv_iconst (v := 0) hx hb dX5_digest_31 (by decide) ?_
    refine lv_istore_n (lv' := [(3, .int (0 : Int32)), (0, .ref (h 100)), (1, .long x1)]) hx hb dX5_digest_32 rfl hl (by decide) rfl (fun ls hl => ?_)
    obtain ⟨n_1, hd⟩ := hd
    exact bl_X5_digest_33 C0 hret _ _ _ _ _ _ _ hP hS hd (lv_sub hl [1, 2, 0] rfl)
  · have hd := hd.2 hc
    refine lv_ldc2 hx hb hown (hts _ lk_X5_295) dX5_digest_12 ?_
    refine lv_lload_n hx hb dX5_digest_15 rfl (lv_at hl 1 rfl) ?_
    refine lv_lmul hx hb dX5_digest_16 ?_
    refine lv_aload_n hx hb dX5_digest_17 rfl (lv_at hl 0 rfl) ?_
    refine lv_iload_n hx hb dX5_digest_18 rfl (lv_at hl 2 rfl) ?_
    refine cl_Vi (n := 1) (rest := [.long ((31 : Int64) * x1)]) C0 hP hS (c_X5_count l C0.2.2.1 _ hd) (lwG_V lm_X5_297 li_X5_count lx_X5_count lz_RX5 lc_X5_count) (by decide +kernel) (oR_at h cA _) rfl rfl rfl (Nat.le_of_ble_eq_true rfl) ⟨rfl, rfl⟩ ⟨by decide, by decide⟩ dX5_digest_19 hl.1 ⟨Nat.zero_le _, Nat.zero_le _⟩ (fun r_2 S_2 H locs hd hP hS => ?_)
    refine lv_i2l hx hb dX5_digest_22 rfl ?_
    refine lv_ladd hx hb dX5_digest_23 ?_
    refine lv_lstore_n (lv' := [(1, .long (((31 : Int64) * x1) + r_2.toInt64)), (0, .ref (h 100)), (3, .int x3)]) hx hb dX5_digest_24 rfl hl (by decide) rfl (fun ls hl => ?_)
    refine lv_iinc (v := x3 + (1 : Int32)) (lv' := [(3, .int (x3 + (1 : Int32))), (1, .long (((31 : Int64) * x1) + r_2.toInt64)), (0, .ref (h 100))]) hx hb dX5_digest_25 hl (k := 2) rfl rfl (by decide) rfl (fun ls hl => ?_)
    refine lv_goto (tgt := 6) hx hb dX5_digest_28 (by decide) ?_
    exact k6 _ _ _ _ _ _ hd hP hS (lv_sub hl [2, 1, 0] rfl)
def wl_X5_digest_6 (Q : Int64 → sT → Prop) : Nat → Int64 → Int32 → sT → Prop
  | 0, _, _ => fun _ => False
  | n + 1, x1, x3 => fun S => wb_X5_digest_6 Q (fun x1 x3 S => wl_X5_digest_6 Q n x1 x3 S) x1 x3 S
theorem bl_X5_digest_6 {p : Program} {l : Launch} {e : Env} {s : State} {m : MethodId} {args : Array Value} {below : List Frame} {meth : Method} {c : Code} {Z : State → Prop} {D : va_G} {cA : Nat → ClassId} {h : Nat → Nat} {Q : Int64 → sT → Prop} (C0 : cx p s m args c cX5_digest 5 RX5 D cA false keysRA h) (hret : rtL p l e rm_X5_digest s m args below meth c cX5_digest Z D (wR h cA) (aK keysRA h s.heap.size) Q) : ∀ (n : Nat) (x1 : Int64) (x3 : Int32) (S : sT) (H : Heap) (locs : List Loc) (ls : Array Slot), va_P D vwCl (wR h cA S) H → va_S (aK keysRA h s.heap.size) s.heap H locs → wl_X5_digest_6 Q n x1 x3 S → lv_has ls 5 [(0, .ref (h 100)), (1, .long x1), (3, .int x3)] → W p l e rm_X5_digest s m args below meth c H locs 0 0 Z (F0 m 6 ls []) := by
  intro n
  induction n with
  | zero => intro x1 x3 S H locs ls hP hS hd hl; exact (show False from hd).elim
  | succ n ih => intro x1 x3 S H locs ls hP hS hd hl; exact bk_X5_digest_6 C0 hret (fun x1 x3 S H locs ls hd hP hS hl => ih x1 x3 S H locs ls hP hS hd hl) hP hS hd hl
def wp_X5_digest (S : sT) (Q : Int64 → sT → Prop) : Prop :=
  ∃ n : Nat, wl_X5_digest_6 Q n (17 : Int64) (0 : Int32) S
set_option maxHeartbeats 4000000 in
set_option maxRecDepth 100000 in
theorem bk_X5_digest {p : Program} {l : Launch} {e : Env} {s : State} {m : MethodId} {args : Array Value} {below : List Frame} {meth : Method} {c : Code} {Z : State → Prop} {D : va_G} {cA : Nat → ClassId} {h : Nat → Nat} {Q : Int64 → sT → Prop} (C0 : cx p s m args c cX5_digest 5 RX5 D cA false keysRA h) (hret : rtL p l e rm_X5_digest s m args below meth c cX5_digest Z D (wR h cA) (aK keysRA h s.heap.size) Q) {S : sT} {H : Heap} {locs : List Loc} {ls : Array Slot} (hP : va_P D vwCl (wR h cA S) H) (hS : va_S (aK keysRA h s.heap.size) s.heap H locs) (hd : wp_X5_digest S Q) (hl : lv_has ls 5 [(0, .ref (h 100))]) : W p l e rm_X5_digest s m args below meth c H locs 0 0 Z (F0 m 0 ls []) := by
  obtain ⟨⟨hx, hb, hml, hown, hts⟩, hK, -, -⟩ := id C0
  unfold wp_X5_digest at hd
  refine lv_ldc2 hx hb hown (hts _ lk_X5_293) dX5_digest_0 ?_
  refine lv_lstore_n (lv' := [(1, .long (17 : Int64)), (0, .ref (h 100))]) hx hb dX5_digest_3 rfl hl (by decide) rfl (fun ls hl => ?_)
  refine lv_iconst (v := 0) hx hb dX5_digest_4 (by decide) ?_
  refine lv_istore_n (lv' := [(3, .int (0 : Int32)), (1, .long (17 : Int64)), (0, .ref (h 100))]) hx hb dX5_digest_5 rfl hl (by decide) rfl (fun ls hl => ?_)
  obtain ⟨n_1, hd⟩ := hd
  exact bl_X5_digest_6 C0 hret _ _ _ _ _ _ _ hP hS hd (lv_sub hl [2, 1, 0] rfl)
theorem c_X5_digest (l : Launch) {D : va_G} {cA : Nat → ClassId} {h : Nat → Nat} (hk : ky keysRA h) {S : sT} (sz : Nat) {Q : Int64 → sT → Prop} (hd : wp_X5_digest S Q) : Met l yX5_digest (wsU yX5_digest cX5_digest 5 (some .long)) rm_X5_digest (va_Pc [.ref (h 100)] (gP D cA false keysRA h (wR h cA) S sz)) (va_Ql Q (wB D (wR h cA)) (aK keysRA h sz)) 0 0 (aK keysRA h sz) :=
  mk_l (by decide) hk (Nat.le_of_ble_eq_true rfl) (fun p e s m below meth c Z ls C0 hret hP hS hl => bk_X5_digest C0 hret hP hS hd hl)
abbrev rm_X5_dreams : Room := { frames := 2, cells := 0, slots := 0, locals := 47 }
def wp_X5_dreams (x1 : Int32) (x2 : Int32) (S : sT) (Q : Int32 → sT → Prop) : Prop :=
  wp_X5_isOne x1 S (fun r_1 S_1 => ((r_1 = 0 → Q (-1 : Int32) S_1) ∧ (¬ r_1 = 0 → wp_X5_in x2.toInt64 (0 : Int64) (99 : Int64) S_1 (fun r_2 S_2 => ((¬ r_2 = 0 → wp_X5_dreamsOn 14 x1 x2 S_2 (fun r_3 S_3 => ((r_3 = 0 → Q (0 : Int32) S_3) ∧ (¬ r_3 = 0 → Q (1 : Int32) S_3)))) ∧ (r_2 = 0 → Q (-1 : Int32) S_2))))))
set_option maxHeartbeats 4000000 in
set_option maxRecDepth 100000 in
theorem bk_X5_dreams {p : Program} {l : Launch} {e : Env} {s : State} {m : MethodId} {args : Array Value} {below : List Frame} {meth : Method} {c : Code} {Z : State → Prop} {D : va_G} {cA : Nat → ClassId} {h : Nat → Nat} {Q : Int32 → sT → Prop} (C0 : cx p s m args c cX5_dreams 3 RX5 D cA false keysRA h) (hret : rtI p l e rm_X5_dreams s m args below meth c cX5_dreams Z D (wR h cA) (aK keysRA h s.heap.size) Q) {x1 : Int32} {x2 : Int32} {S : sT} {H : Heap} {locs : List Loc} {ls : Array Slot} (hP : va_P D vwCl (wR h cA S) H) (hS : va_S (aK keysRA h s.heap.size) s.heap H locs) (hd : wp_X5_dreams x1 x2 S Q) (hl : lv_has ls 3 [(0, .ref (h 100)), (1, .int x1), (2, .int x2)]) : W p l e rm_X5_dreams s m args below meth c H locs 0 0 Z (F0 m 0 ls []) := by
  obtain ⟨⟨hx, hb, hml, hown, hts⟩, hK, -, -⟩ := id C0
  unfold wp_X5_dreams at hd
  refine lv_aload_n hx hb dX5_dreams_0 rfl (lv_at hl 0 rfl) ?_
  refine lv_iload_n hx hb dX5_dreams_1 rfl (lv_at hl 1 rfl) ?_
  refine cl_Vi (n := 1) (rest := []) C0 hP hS (c_X5_isOne l C0.2.2.1 _ hd) (lwG_V lm_X5_176 li_X5_isOne lx_X5_isOne lz_RX5 lc_X5_isOne) (by decide +kernel) (oR_at h cA _) rfl rfl rfl (Nat.le_of_ble_eq_true rfl) ⟨rfl, rfl⟩ ⟨by decide, by decide⟩ dX5_dreams_2 hl.1 ⟨Nat.zero_le _, Nat.zero_le _⟩ (fun r_1 S_1 H locs hd hP hS => ?_)
  refine lv_if_eq (tgt := 20) hx hb dX5_dreams_5 (by decide) (fun hc => ?_) (fun hc => ?_)
  · have hd := hd.1 hc
    refine lv_iconst (v := (-1)) hx hb dX5_dreams_20 (by decide) ?_
    exact hret _ _ _ _ _ _ hd hP hS dX5_dreams_21
  · have hd := hd.2 hc
    refine lv_iload_n hx hb dX5_dreams_8 rfl (lv_at hl 2 rfl) ?_
    refine lv_i2l hx hb dX5_dreams_9 rfl ?_
    refine lv_lconst (v := 0) hx hb dX5_dreams_10 (by decide) ?_
    refine lv_ldc2 hx hb hown (hts _ lk_X5_195) dX5_dreams_11 ?_
    refine cl_Si (n := 3) (rest := []) C0 hP hS (c_X5_in l C0.2.2.1 _ hd) (lwG_S lm_X5_77 ls_X5_in lz_RX5 lc_X5_in) (by decide +kernel) rfl rfl (Nat.le_of_ble_eq_true rfl) ⟨rfl, rfl⟩ ⟨by decide, by decide⟩ dX5_dreams_14 hl.1 ⟨Nat.zero_le _, Nat.zero_le _⟩ (fun r_2 S_2 H locs hd hP hS => ?_)
    refine lv_if_ne (tgt := 22) hx hb dX5_dreams_17 (by decide) (fun hc => ?_) (fun hc => ?_)
    · have hd := hd.1 hc
      refine lv_aload_n hx hb dX5_dreams_22 rfl (lv_at hl 0 rfl) ?_
      refine lv_aload_n hx hb dX5_dreams_23 rfl (lv_at hl 0 rfl) ?_
      refine gf_X5_35 C0 hP dX5_dreams_24 ?_
      refine lv_iload_n hx hb dX5_dreams_27 rfl (lv_at hl 1 rfl) ?_
      refine lv_iload_n hx hb dX5_dreams_28 rfl (lv_at hl 2 rfl) ?_
      refine cl_Vi (n := 3) (rest := []) C0 hP hS (c_X5_dreamsOn l C0.2.2.1 (by decide) _ hd) (lwG_V lm_X5_168 li_X5_dreamsOn lx_X5_dreamsOn lz_RX5 lc_X5_dreamsOn) (by decide +kernel) (oR_at h cA _) rfl rfl rfl (Nat.le_of_ble_eq_true rfl) ⟨rfl, rfl⟩ ⟨by decide, by decide⟩ dX5_dreams_29 hl.1 ⟨Nat.zero_le _, Nat.zero_le _⟩ (fun r_3 S_3 H locs hd hP hS => ?_)
      refine lv_if_eq (tgt := 39) hx hb dX5_dreams_32 (by decide) (fun hc => ?_) (fun hc => ?_)
      · have hd := hd.1 hc
        refine lv_iconst (v := 0) hx hb dX5_dreams_39 (by decide) ?_
        exact hret _ _ _ _ _ _ hd hP hS dX5_dreams_40
      · have hd := hd.2 hc
        refine lv_iconst (v := 1) hx hb dX5_dreams_35 (by decide) ?_
        refine lv_goto (tgt := 40) hx hb dX5_dreams_36 (by decide) ?_
        exact hret _ _ _ _ _ _ hd hP hS dX5_dreams_40
    · have hd := hd.2 hc
      refine lv_iconst (v := (-1)) hx hb dX5_dreams_20 (by decide) ?_
      exact hret _ _ _ _ _ _ hd hP hS dX5_dreams_21
theorem c_X5_dreams (l : Launch) {D : va_G} {cA : Nat → ClassId} {h : Nat → Nat} (hk : ky keysRA h) {x1 : Int32} {x2 : Int32} {S : sT} (sz : Nat) {Q : Int32 → sT → Prop} (hd : wp_X5_dreams x1 x2 S Q) : Met l yX5_dreams (wsU yX5_dreams cX5_dreams 3 (some .int)) rm_X5_dreams (va_Pc [.ref (h 100), .int x1, .int x2] (gP D cA false keysRA h (wR h cA) S sz)) (va_Qi Q (wB D (wR h cA)) (aK keysRA h sz)) 0 0 (aK keysRA h sz) :=
  mk_i (by decide) hk (Nat.le_of_ble_eq_true rfl) (fun p e s m below meth c Z ls C0 hret hP hS hl => bk_X5_dreams C0 hret hP hS hd hl)
abbrev rm_X5_weighs : Room := { frames := 1, cells := 0, slots := 0, locals := 21 }
def wb_X5_weighs_77 (Q : Int32 → sT → Prop) (K10 : Int32 → Int32 → Int32 → Int32 → sT → Prop) (x1 : Int32) (x2 : Int32) (x4 : Int32) (y0 : Int32) (S : sT) : Prop :=
  K10 x1 x2 y0 (x4 + (1 : Int32)) S
set_option maxHeartbeats 4000000 in
set_option maxRecDepth 100000 in
theorem bk_X5_weighs_77 {p : Program} {l : Launch} {e : Env} {s : State} {m : MethodId} {args : Array Value} {below : List Frame} {meth : Method} {c : Code} {Z : State → Prop} {D : va_G} {cA : Nat → ClassId} {h : Nat → Nat} {Q : Int32 → sT → Prop} (C0 : cx p s m args c cX5_weighs 6 RX5 D cA false keysRA h) (hret : rtI p l e rm_X5_weighs s m args below meth c cX5_weighs Z D (wR h cA) (aK keysRA h s.heap.size) Q) {K10 : Int32 → Int32 → Int32 → Int32 → sT → Prop} (k10 : ∀ (x1 : Int32) (x2 : Int32) (x3 : Int32) (x4 : Int32) (S : sT) (H : Heap) (locs : List Loc) (ls : Array Slot), K10 x1 x2 x3 x4 S → va_P D vwCl (wR h cA S) H → va_S (aK keysRA h s.heap.size) s.heap H locs → lv_has ls 6 [(0, .ref (h 100)), (1, .int x1), (2, .int x2), (3, .int x3), (4, .int x4)] → W p l e rm_X5_weighs s m args below meth c H locs 0 0 Z (F0 m 10 ls [])) {x1 : Int32} {x2 : Int32} {x4 : Int32} {y0 : Int32} {S : sT} {H : Heap} {locs : List Loc} {ls : Array Slot} (hP : va_P D vwCl (wR h cA S) H) (hS : va_S (aK keysRA h s.heap.size) s.heap H locs) (hd : wb_X5_weighs_77 Q K10 x1 x2 x4 y0 S) (hl : lv_has ls 6 [(0, .ref (h 100)), (1, .int x1), (2, .int x2), (4, .int x4)]) : W p l e rm_X5_weighs s m args below meth c H locs 0 0 Z (F0 m 77 ls [.int y0]) := by
  obtain ⟨⟨hx, hb, hml, hown, hts⟩, hK, -, -⟩ := id C0
  unfold wb_X5_weighs_77 at hd
  refine lv_istore_n (lv' := [(3, .int y0), (0, .ref (h 100)), (1, .int x1), (2, .int x2), (4, .int x4)]) hx hb dX5_weighs_77 rfl hl (by decide) rfl (fun ls hl => ?_)
  refine lv_iinc (v := x4 + (1 : Int32)) (lv' := [(4, .int (x4 + (1 : Int32))), (3, .int y0), (0, .ref (h 100)), (1, .int x1), (2, .int x2)]) hx hb dX5_weighs_78 hl (k := 4) rfl rfl (by decide) rfl (fun ls hl => ?_)
  refine lv_goto (tgt := 10) hx hb dX5_weighs_81 (by decide) ?_
  exact k10 _ _ _ _ _ _ _ _ hd hP hS (lv_sub hl [2, 3, 4, 1, 0] rfl)
def wb_X5_weighs_44 (Q : Int32 → sT → Prop) (K10 : Int32 → Int32 → Int32 → Int32 → sT → Prop) (x1 : Int32) (x2 : Int32) (x3 : Int32) (x4 : Int32) (y0 : Int32) (S : sT) : Prop :=
  ((x2 = 0 → ((x3 ≤ y0 → wb_X5_weighs_77 Q K10 x1 x2 x4 x3 S) ∧ (¬ x3 ≤ y0 → wb_X5_weighs_77 Q K10 x1 x2 x4 y0 S))) ∧ (¬ x2 = 0 → ((y0 ≤ x3 → wb_X5_weighs_77 Q K10 x1 x2 x4 x3 S) ∧ (¬ y0 ≤ x3 → wb_X5_weighs_77 Q K10 x1 x2 x4 y0 S))))
set_option maxHeartbeats 4000000 in
set_option maxRecDepth 100000 in
theorem bk_X5_weighs_44 {p : Program} {l : Launch} {e : Env} {s : State} {m : MethodId} {args : Array Value} {below : List Frame} {meth : Method} {c : Code} {Z : State → Prop} {D : va_G} {cA : Nat → ClassId} {h : Nat → Nat} {Q : Int32 → sT → Prop} (C0 : cx p s m args c cX5_weighs 6 RX5 D cA false keysRA h) (hret : rtI p l e rm_X5_weighs s m args below meth c cX5_weighs Z D (wR h cA) (aK keysRA h s.heap.size) Q) {K10 : Int32 → Int32 → Int32 → Int32 → sT → Prop} (k10 : ∀ (x1 : Int32) (x2 : Int32) (x3 : Int32) (x4 : Int32) (S : sT) (H : Heap) (locs : List Loc) (ls : Array Slot), K10 x1 x2 x3 x4 S → va_P D vwCl (wR h cA S) H → va_S (aK keysRA h s.heap.size) s.heap H locs → lv_has ls 6 [(0, .ref (h 100)), (1, .int x1), (2, .int x2), (3, .int x3), (4, .int x4)] → W p l e rm_X5_weighs s m args below meth c H locs 0 0 Z (F0 m 10 ls [])) {x1 : Int32} {x2 : Int32} {x3 : Int32} {x4 : Int32} {y0 : Int32} {S : sT} {H : Heap} {locs : List Loc} {ls : Array Slot} (hP : va_P D vwCl (wR h cA S) H) (hS : va_S (aK keysRA h s.heap.size) s.heap H locs) (hd : wb_X5_weighs_44 Q K10 x1 x2 x3 x4 y0 S) (hl : lv_has ls 6 [(0, .ref (h 100)), (1, .int x1), (2, .int x2), (3, .int x3), (4, .int x4)]) : W p l e rm_X5_weighs s m args below meth c H locs 0 0 Z (F0 m 44 ls [.int y0]) := by
  obtain ⟨⟨hx, hb, hml, hown, hts⟩, hK, -, -⟩ := id C0
  unfold wb_X5_weighs_44 at hd
  refine lv_istore (lv' := [(5, .int y0), (0, .ref (h 100)), (1, .int x1), (2, .int x2), (3, .int x3), (4, .int x4)]) hx hb dX5_weighs_44 hl (by decide) rfl (fun ls hl => ?_)
  refine lv_iload_n hx hb dX5_weighs_46 rfl (lv_at hl 3 rfl) ?_
  refine lv_if_eq (tgt := 65) hx hb dX5_weighs_47 (by decide) (fun hc => ?_) (fun hc => ?_)
  · have hd := hd.1 hc
    refine lv_iload hx hb dX5_weighs_65 (lv_at hl 0 rfl) ?_
    refine lv_iload_n hx hb dX5_weighs_67 rfl (lv_at hl 4 rfl) ?_
    refine lv_icmp_ge (tgt := 76) hx hb dX5_weighs_68 (by decide) (fun hc => ?_) (fun hc => ?_)
    · have hd := hd.1 hc
      refine lv_iload_n hx hb dX5_weighs_76 rfl (lv_at hl 4 rfl) ?_
      exact bk_X5_weighs_77 C0 hret k10 hP hS hd (lv_sub hl [1, 2, 3, 5] rfl)
    · have hd := hd.2 hc
      refine lv_iload hx hb dX5_weighs_71 (lv_at hl 0 rfl) ?_
      refine lv_goto (tgt := 77) hx hb dX5_weighs_73 (by decide) ?_
      exact bk_X5_weighs_77 C0 hret k10 hP hS hd (lv_sub hl [1, 2, 3, 5] rfl)
  · have hd := hd.2 hc
    refine lv_iload hx hb dX5_weighs_50 (lv_at hl 0 rfl) ?_
    refine lv_iload_n hx hb dX5_weighs_52 rfl (lv_at hl 4 rfl) ?_
    refine lv_icmp_le (tgt := 61) hx hb dX5_weighs_53 (by decide) (fun hc => ?_) (fun hc => ?_)
    · have hd := hd.1 hc
      refine lv_iload_n hx hb dX5_weighs_61 rfl (lv_at hl 4 rfl) ?_
      refine lv_goto (tgt := 77) hx hb dX5_weighs_62 (by decide) ?_
      exact bk_X5_weighs_77 C0 hret k10 hP hS hd (lv_sub hl [1, 2, 3, 5] rfl)
    · have hd := hd.2 hc
      refine lv_iload hx hb dX5_weighs_56 (lv_at hl 0 rfl) ?_
      refine lv_goto (tgt := 77) hx hb dX5_weighs_58 (by decide) ?_
      exact bk_X5_weighs_77 C0 hret k10 hP hS hd (lv_sub hl [1, 2, 3, 5] rfl)
def wb_X5_weighs_10 (Q : Int32 → sT → Prop) (K10 : Int32 → Int32 → Int32 → Int32 → sT → Prop) (x1 : Int32) (x2 : Int32) (x3 : Int32) (x4 : Int32) (S : sT) : Prop :=
  (((vI S 9) ≤ x4 → Q x3 S) ∧ (¬ (vI S 9) ≤ x4 → wp_X5_has x1 x4 S (fun r_1 S_1 => ((¬ r_1 = x2 → wb_X5_weighs_44 Q K10 x1 x2 x3 x4 x3 S_1) ∧ (r_1 = x2 → (vp_in (x1 ^^^ ((1 : Int32) <<< (x4 &&& 31))) 64) ∧ wb_X5_weighs_44 Q K10 x1 x2 x3 x4 (vA S_1 30 (x1 ^^^ ((1 : Int32) <<< (x4 &&& 31))).toNatClampNeg) S_1)))))
set_option maxHeartbeats 4000000 in
set_option maxRecDepth 100000 in
theorem bk_X5_weighs_10 {p : Program} {l : Launch} {e : Env} {s : State} {m : MethodId} {args : Array Value} {below : List Frame} {meth : Method} {c : Code} {Z : State → Prop} {D : va_G} {cA : Nat → ClassId} {h : Nat → Nat} {Q : Int32 → sT → Prop} (C0 : cx p s m args c cX5_weighs 6 RX5 D cA false keysRA h) (hret : rtI p l e rm_X5_weighs s m args below meth c cX5_weighs Z D (wR h cA) (aK keysRA h s.heap.size) Q) {K10 : Int32 → Int32 → Int32 → Int32 → sT → Prop} (k10 : ∀ (x1 : Int32) (x2 : Int32) (x3 : Int32) (x4 : Int32) (S : sT) (H : Heap) (locs : List Loc) (ls : Array Slot), K10 x1 x2 x3 x4 S → va_P D vwCl (wR h cA S) H → va_S (aK keysRA h s.heap.size) s.heap H locs → lv_has ls 6 [(0, .ref (h 100)), (1, .int x1), (2, .int x2), (3, .int x3), (4, .int x4)] → W p l e rm_X5_weighs s m args below meth c H locs 0 0 Z (F0 m 10 ls [])) {x1 : Int32} {x2 : Int32} {x3 : Int32} {x4 : Int32} {S : sT} {H : Heap} {locs : List Loc} {ls : Array Slot} (hP : va_P D vwCl (wR h cA S) H) (hS : va_S (aK keysRA h s.heap.size) s.heap H locs) (hd : wb_X5_weighs_10 Q K10 x1 x2 x3 x4 S) (hl : lv_has ls 6 [(0, .ref (h 100)), (1, .int x1), (2, .int x2), (3, .int x3), (4, .int x4)]) : W p l e rm_X5_weighs s m args below meth c H locs 0 0 Z (F0 m 10 ls []) := by
  obtain ⟨⟨hx, hb, hml, hown, hts⟩, hK, -, -⟩ := id C0
  unfold wb_X5_weighs_10 at hd
  refine lv_iload hx hb dX5_weighs_10 (lv_at hl 4 rfl) ?_
  refine lv_aload_n hx hb dX5_weighs_12 rfl (lv_at hl 0 rfl) ?_
  refine gf_X5_97 C0 hP dX5_weighs_13 ?_
  refine lv_icmp_ge (tgt := 84) hx hb dX5_weighs_16 (by decide) (fun hc => ?_) (fun hc => ?_)
  · have hd := hd.1 hc
    refine lv_iload_n hx hb dX5_weighs_84 rfl (lv_at hl 3 rfl) ?_
    exact hret _ _ _ _ _ _ hd hP hS dX5_weighs_85
  · have hd := hd.2 hc
    refine lv_iload_n hx hb dX5_weighs_19 rfl (lv_at hl 1 rfl) ?_
    refine lv_iload hx hb dX5_weighs_20 (lv_at hl 4 rfl) ?_
    refine cl_Si (n := 2) (rest := []) C0 hP hS (c_X5_has l C0.2.2.1 _ hd) (lwG_S lm_X5_165 ls_X5_has lz_RX5 lc_X5_has) (by decide +kernel) rfl rfl (Nat.le_of_ble_eq_true rfl) ⟨rfl, rfl⟩ ⟨by decide, by decide⟩ dX5_weighs_22 hl.1 ⟨Nat.zero_le _, Nat.zero_le _⟩ (fun r_1 S_1 H locs hd hP hS => ?_)
    refine lv_iload_n hx hb dX5_weighs_25 rfl (lv_at hl 2 rfl) ?_
    refine lv_icmp_ne (tgt := 43) hx hb dX5_weighs_26 (by decide) (fun hc => ?_) (fun hc => ?_)
    · have hd := hd.1 hc
      refine lv_iload_n hx hb dX5_weighs_43 rfl (lv_at hl 3 rfl) ?_
      exact bk_X5_weighs_44 C0 hret k10 hP hS hd (lv_sub hl [0, 1, 2, 3, 4] rfl)
    · have hd := hd.2 hc
      refine lv_aload_n hx hb dX5_weighs_29 rfl (lv_at hl 0 rfl) ?_
      refine gf_X5_59 C0 hP dX5_weighs_30 ?_
      refine lv_iload_n hx hb dX5_weighs_33 rfl (lv_at hl 1 rfl) ?_
      refine lv_iconst (v := 1) hx hb dX5_weighs_34 (by decide) ?_
      refine lv_iload hx hb dX5_weighs_35 (lv_at hl 4 rfl) ?_
      refine lv_ishl hx hb dX5_weighs_37 ?_
      refine lv_ixor hx hb dX5_weighs_38 ?_
      obtain ⟨h_2, hd⟩ := hd
      refine ldR (by decide) C0 hP h_2 dX5_weighs_39 ?_
      refine lv_goto (tgt := 44) hx hb dX5_weighs_40 (by decide) ?_
      exact bk_X5_weighs_44 C0 hret k10 hP hS hd (lv_sub hl [0, 1, 2, 3, 4] rfl)
def wl_X5_weighs_10 (Q : Int32 → sT → Prop) : Nat → Int32 → Int32 → Int32 → Int32 → sT → Prop
  | 0, _, _, _, _ => fun _ => False
  | n + 1, x1, x2, x3, x4 => fun S => wb_X5_weighs_10 Q (fun x1 x2 x3 x4 S => wl_X5_weighs_10 Q n x1 x2 x3 x4 S) x1 x2 x3 x4 S
theorem bl_X5_weighs_10 {p : Program} {l : Launch} {e : Env} {s : State} {m : MethodId} {args : Array Value} {below : List Frame} {meth : Method} {c : Code} {Z : State → Prop} {D : va_G} {cA : Nat → ClassId} {h : Nat → Nat} {Q : Int32 → sT → Prop} (C0 : cx p s m args c cX5_weighs 6 RX5 D cA false keysRA h) (hret : rtI p l e rm_X5_weighs s m args below meth c cX5_weighs Z D (wR h cA) (aK keysRA h s.heap.size) Q) : ∀ (n : Nat) (x1 : Int32) (x2 : Int32) (x3 : Int32) (x4 : Int32) (S : sT) (H : Heap) (locs : List Loc) (ls : Array Slot), va_P D vwCl (wR h cA S) H → va_S (aK keysRA h s.heap.size) s.heap H locs → wl_X5_weighs_10 Q n x1 x2 x3 x4 S → lv_has ls 6 [(0, .ref (h 100)), (1, .int x1), (2, .int x2), (3, .int x3), (4, .int x4)] → W p l e rm_X5_weighs s m args below meth c H locs 0 0 Z (F0 m 10 ls []) := by
  intro n
  induction n with
  | zero => intro x1 x2 x3 x4 S H locs ls hP hS hd hl; exact (show False from hd).elim
  | succ n ih => intro x1 x2 x3 x4 S H locs ls hP hS hd hl; exact bk_X5_weighs_10 C0 hret (fun x1 x2 x3 x4 S H locs ls hd hP hS hl => ih x1 x2 x3 x4 S H locs ls hP hS hd hl) hP hS hd hl
def wp_X5_weighs (x1 : Int32) (x2 : Int32) (S : sT) (Q : Int32 → sT → Prop) : Prop :=
  (vp_in x1 64) ∧ ∃ n : Nat, wl_X5_weighs_10 Q n x1 x2 (vA S 30 x1.toNatClampNeg) (0 : Int32) S
set_option maxHeartbeats 4000000 in
set_option maxRecDepth 100000 in
theorem bk_X5_weighs {p : Program} {l : Launch} {e : Env} {s : State} {m : MethodId} {args : Array Value} {below : List Frame} {meth : Method} {c : Code} {Z : State → Prop} {D : va_G} {cA : Nat → ClassId} {h : Nat → Nat} {Q : Int32 → sT → Prop} (C0 : cx p s m args c cX5_weighs 6 RX5 D cA false keysRA h) (hret : rtI p l e rm_X5_weighs s m args below meth c cX5_weighs Z D (wR h cA) (aK keysRA h s.heap.size) Q) {x1 : Int32} {x2 : Int32} {S : sT} {H : Heap} {locs : List Loc} {ls : Array Slot} (hP : va_P D vwCl (wR h cA S) H) (hS : va_S (aK keysRA h s.heap.size) s.heap H locs) (hd : wp_X5_weighs x1 x2 S Q) (hl : lv_has ls 6 [(0, .ref (h 100)), (1, .int x1), (2, .int x2)]) : W p l e rm_X5_weighs s m args below meth c H locs 0 0 Z (F0 m 0 ls []) := by
  obtain ⟨⟨hx, hb, hml, hown, hts⟩, hK, -, -⟩ := id C0
  unfold wp_X5_weighs at hd
  refine lv_aload_n hx hb dX5_weighs_0 rfl (lv_at hl 0 rfl) ?_
  refine gf_X5_59 C0 hP dX5_weighs_1 ?_
  refine lv_iload_n hx hb dX5_weighs_4 rfl (lv_at hl 1 rfl) ?_
  obtain ⟨h_1, hd⟩ := hd
  refine ldR (by decide) C0 hP h_1 dX5_weighs_5 ?_
  refine lv_istore_n (lv' := [(3, .int (vA S 30 x1.toNatClampNeg)), (0, .ref (h 100)), (1, .int x1), (2, .int x2)]) hx hb dX5_weighs_6 rfl hl (by decide) rfl (fun ls hl => ?_)
  refine lv_iconst (v := 0) hx hb dX5_weighs_7 (by decide) ?_
  refine lv_istore (lv' := [(4, .int (0 : Int32)), (3, .int (vA S 30 x1.toNatClampNeg)), (0, .ref (h 100)), (1, .int x1), (2, .int x2)]) hx hb dX5_weighs_8 hl (by decide) rfl (fun ls hl => ?_)
  obtain ⟨n_2, hd⟩ := hd
  exact bl_X5_weighs_10 C0 hret _ _ _ _ _ _ _ _ _ hP hS hd (lv_sub hl [2, 3, 4, 1, 0] rfl)
theorem c_X5_weighs (l : Launch) {D : va_G} {cA : Nat → ClassId} {h : Nat → Nat} (hk : ky keysRA h) {x1 : Int32} {x2 : Int32} {S : sT} (sz : Nat) {Q : Int32 → sT → Prop} (hd : wp_X5_weighs x1 x2 S Q) : Met l yX5_weighs (wsU yX5_weighs cX5_weighs 6 (some .int)) rm_X5_weighs (va_Pc [.ref (h 100), .int x1, .int x2] (gP D cA false keysRA h (wR h cA) S sz)) (va_Qi Q (wB D (wR h cA)) (aK keysRA h sz)) 0 0 (aK keysRA h sz) :=
  mk_i (by decide) hk (Nat.le_of_ble_eq_true rfl) (fun p e s m below meth c Z ls C0 hret hP hS hl => bk_X5_weighs C0 hret hP hS hd hl)
abbrev rm_X5_duel : Room := { frames := 5, cells := 0, slots := 0, locals := 115 }
def wb_X5_duel_103 (Q : Int32 → sT → Prop) (K69 : Int32 → Int32 → sT → Prop) (K76 : Int32 → Int32 → Int32 → sT → Prop) (x2 : Int32) (x3 : Int32) (x4 : Int32) (y1 : Int32) (y3 : Int32) (y4 : Int32) (S : sT) : Prop :=
  wp_X5_weighs y3 y4 S (fun r_1 S_1 => (vp_in y1 64) ∧ K76 x2 x3 (x4 + (1 : Int32)) (uA S_1 31 (upd (vA S_1 31) y1.toNatClampNeg r_1)))
set_option maxHeartbeats 4000000 in
set_option maxRecDepth 100000 in
theorem bk_X5_duel_103 {p : Program} {l : Launch} {e : Env} {s : State} {m : MethodId} {args : Array Value} {below : List Frame} {meth : Method} {c : Code} {Z : State → Prop} {D : va_G} {cA : Nat → ClassId} {h : Nat → Nat} {Q : Int32 → sT → Prop} (C0 : cx p s m args c cX5_duel 5 RX5 D cA false keysRA h) (hret : rtI p l e rm_X5_duel s m args below meth c cX5_duel Z D (wR h cA) (aK keysRA h s.heap.size) Q) {K69 : Int32 → Int32 → sT → Prop} {K76 : Int32 → Int32 → Int32 → sT → Prop} (k69 : ∀ (x2 : Int32) (x3 : Int32) (S : sT) (H : Heap) (locs : List Loc) (ls : Array Slot), K69 x2 x3 S → va_P D vwCl (wR h cA S) H → va_S (aK keysRA h s.heap.size) s.heap H locs → lv_has ls 5 [(0, .ref (h 100)), (2, .int x2), (3, .int x3)] → W p l e rm_X5_duel s m args below meth c H locs 0 0 Z (F0 m 69 ls [])) (k76 : ∀ (x2 : Int32) (x3 : Int32) (x4 : Int32) (S : sT) (H : Heap) (locs : List Loc) (ls : Array Slot), K76 x2 x3 x4 S → va_P D vwCl (wR h cA S) H → va_S (aK keysRA h s.heap.size) s.heap H locs → lv_has ls 5 [(0, .ref (h 100)), (2, .int x2), (3, .int x3), (4, .int x4)] → W p l e rm_X5_duel s m args below meth c H locs 0 0 Z (F0 m 76 ls [])) {x2 : Int32} {x3 : Int32} {x4 : Int32} {y1 : Int32} {y3 : Int32} {y4 : Int32} {S : sT} {H : Heap} {locs : List Loc} {ls : Array Slot} (hP : va_P D vwCl (wR h cA S) H) (hS : va_S (aK keysRA h s.heap.size) s.heap H locs) (hd : wb_X5_duel_103 Q K69 K76 x2 x3 x4 y1 y3 y4 S) (hl : lv_has ls 5 [(0, .ref (h 100)), (2, .int x2), (3, .int x3), (4, .int x4)]) : W p l e rm_X5_duel s m args below meth c H locs 0 0 Z (F0 m 103 ls [.int y4, .int y3, .ref (h 100), .int y1, .ref (h 31)]) := by
  obtain ⟨⟨hx, hb, hml, hown, hts⟩, hK, -, -⟩ := id C0
  unfold wb_X5_duel_103 at hd
  refine cl_Vi (n := 2) (rest := [.int y1, .ref (h 31)]) C0 hP hS (c_X5_weighs l C0.2.2.1 _ hd) (lwG_V lm_X5_248 li_X5_weighs lx_X5_weighs lz_RX5 lc_X5_weighs) (by decide +kernel) (oR_at h cA _) rfl rfl rfl (Nat.le_of_ble_eq_true rfl) ⟨rfl, rfl⟩ ⟨by decide, by decide⟩ dX5_duel_103 hl.1 ⟨Nat.zero_le _, Nat.zero_le _⟩ (fun r_1 S_1 H locs hd hP hS => ?_)
  obtain ⟨h_2, hd⟩ := hd
  refine stR (by decide) C0 hP hS h_2 dX5_duel_106 (fun H locs hP hS => ?_)
  refine lv_iinc (v := x4 + (1 : Int32)) (lv' := [(4, .int (x4 + (1 : Int32))), (0, .ref (h 100)), (2, .int x2), (3, .int x3)]) hx hb dX5_duel_107 hl (k := 3) rfl rfl (by decide) rfl (fun ls hl => ?_)
  refine lv_goto (tgt := 76) hx hb dX5_duel_110 (by decide) ?_
  exact k76 _ _ _ _ _ _ _ hd hP hS (lv_sub hl [1, 2, 3, 0] rfl)
def wb_X5_duel_76 (Q : Int32 → sT → Prop) (K69 : Int32 → Int32 → sT → Prop) (K76 : Int32 → Int32 → Int32 → sT → Prop) (x2 : Int32) (x3 : Int32) (x4 : Int32) (S : sT) : Prop :=
  ((x2 ≤ x4 → wp_X5_copies 31 30 (0 : Int32) (0 : Int32) x2 S (fun S_1 => K69 x2 (x3 + (-1 : Int32)) S_1)) ∧ (¬ x2 ≤ x4 → ((¬ (x3 - x3 / (2 : Int32) * (2 : Int32)) = (1 : Int32) → wb_X5_duel_103 Q K69 K76 x2 x3 x4 x4 x4 (0 : Int32) S) ∧ ((x3 - x3 / (2 : Int32) * (2 : Int32)) = (1 : Int32) → wb_X5_duel_103 Q K69 K76 x2 x3 x4 x4 x4 (1 : Int32) S))))
set_option maxHeartbeats 4000000 in
set_option maxRecDepth 100000 in
theorem bk_X5_duel_76 {p : Program} {l : Launch} {e : Env} {s : State} {m : MethodId} {args : Array Value} {below : List Frame} {meth : Method} {c : Code} {Z : State → Prop} {D : va_G} {cA : Nat → ClassId} {h : Nat → Nat} {Q : Int32 → sT → Prop} (C0 : cx p s m args c cX5_duel 5 RX5 D cA false keysRA h) (hret : rtI p l e rm_X5_duel s m args below meth c cX5_duel Z D (wR h cA) (aK keysRA h s.heap.size) Q) {K69 : Int32 → Int32 → sT → Prop} {K76 : Int32 → Int32 → Int32 → sT → Prop} (k69 : ∀ (x2 : Int32) (x3 : Int32) (S : sT) (H : Heap) (locs : List Loc) (ls : Array Slot), K69 x2 x3 S → va_P D vwCl (wR h cA S) H → va_S (aK keysRA h s.heap.size) s.heap H locs → lv_has ls 5 [(0, .ref (h 100)), (2, .int x2), (3, .int x3)] → W p l e rm_X5_duel s m args below meth c H locs 0 0 Z (F0 m 69 ls [])) (k76 : ∀ (x2 : Int32) (x3 : Int32) (x4 : Int32) (S : sT) (H : Heap) (locs : List Loc) (ls : Array Slot), K76 x2 x3 x4 S → va_P D vwCl (wR h cA S) H → va_S (aK keysRA h s.heap.size) s.heap H locs → lv_has ls 5 [(0, .ref (h 100)), (2, .int x2), (3, .int x3), (4, .int x4)] → W p l e rm_X5_duel s m args below meth c H locs 0 0 Z (F0 m 76 ls [])) {x2 : Int32} {x3 : Int32} {x4 : Int32} {S : sT} {H : Heap} {locs : List Loc} {ls : Array Slot} (hP : va_P D vwCl (wR h cA S) H) (hS : va_S (aK keysRA h s.heap.size) s.heap H locs) (hd : wb_X5_duel_76 Q K69 K76 x2 x3 x4 S) (hl : lv_has ls 5 [(0, .ref (h 100)), (2, .int x2), (3, .int x3), (4, .int x4)]) : W p l e rm_X5_duel s m args below meth c H locs 0 0 Z (F0 m 76 ls []) := by
  obtain ⟨⟨hx, hb, hml, hown, hts⟩, hK, -, -⟩ := id C0
  unfold wb_X5_duel_76 at hd
  refine lv_iload hx hb dX5_duel_76 (lv_at hl 3 rfl) ?_
  refine lv_iload_n hx hb dX5_duel_78 rfl (lv_at hl 1 rfl) ?_
  refine lv_icmp_ge (tgt := 113) hx hb dX5_duel_79 (by decide) (fun hc => ?_) (fun hc => ?_)
  · have hd := hd.1 hc
    refine lv_aload_n hx hb dX5_duel_113 rfl (lv_at hl 0 rfl) ?_
    refine gf_X5_62 C0 hP dX5_duel_114 ?_
    refine lv_iconst (v := 0) hx hb dX5_duel_117 (by decide) ?_
    refine lv_aload_n hx hb dX5_duel_118 rfl (lv_at hl 0 rfl) ?_
    refine gf_X5_59 C0 hP dX5_duel_119 ?_
    refine lv_iconst (v := 0) hx hb dX5_duel_122 (by decide) ?_
    refine lv_iload_n hx hb dX5_duel_123 rfl (lv_at hl 1 rfl) ?_
    refine cl_Sv (n := 5) (rest := []) C0 hP hS (c_X5_copies l C0.2.2.1 (by decide) (by decide) _ hd) (lwG_S lm_X5_197 ls_X5_copies lz_RX5 lc_X5_copies) (by decide +kernel) rfl rfl (Nat.le_of_ble_eq_true rfl) ⟨rfl, rfl⟩ ⟨by decide, by decide⟩ dX5_duel_124 hl.1 ⟨Nat.zero_le _, Nat.zero_le _⟩ (fun S_1 H locs hd hP hS => ?_)
    refine lv_iinc (v := x3 + (-1 : Int32)) (lv' := [(3, .int (x3 + (-1 : Int32))), (0, .ref (h 100)), (2, .int x2), (4, .int x4)]) hx hb dX5_duel_127 hl (k := 2) rfl rfl (by decide) rfl (fun ls hl => ?_)
    refine lv_goto (tgt := 69) hx hb dX5_duel_130 (by decide) ?_
    exact k69 _ _ _ _ _ _ hd hP hS (lv_sub hl [1, 2, 0] rfl)
  · have hd := hd.2 hc
    refine lv_aload_n hx hb dX5_duel_82 rfl (lv_at hl 0 rfl) ?_
    refine gf_X5_62 C0 hP dX5_duel_83 ?_
    refine lv_iload hx hb dX5_duel_86 (lv_at hl 3 rfl) ?_
    refine lv_aload_n hx hb dX5_duel_88 rfl (lv_at hl 0 rfl) ?_
    refine lv_iload hx hb dX5_duel_89 (lv_at hl 3 rfl) ?_
    refine lv_iload_n hx hb dX5_duel_91 rfl (lv_at hl 2 rfl) ?_
    refine lv_iconst (v := 2) hx hb dX5_duel_92 (by decide) ?_
    refine lv_irem hx hb dX5_duel_93 (by decide) ?_
    refine lv_iconst (v := 1) hx hb dX5_duel_94 (by decide) ?_
    refine lv_icmp_ne (tgt := 102) hx hb dX5_duel_95 (by decide) (fun hc => ?_) (fun hc => ?_)
    · have hd := hd.1 hc
      refine lv_iconst (v := 0) hx hb dX5_duel_102 (by decide) ?_
      exact bk_X5_duel_103 C0 hret k69 k76 hP hS hd (lv_sub hl [0, 1, 2, 3] rfl)
    · have hd := hd.2 hc
      refine lv_iconst (v := 1) hx hb dX5_duel_98 (by decide) ?_
      refine lv_goto (tgt := 103) hx hb dX5_duel_99 (by decide) ?_
      exact bk_X5_duel_103 C0 hret k69 k76 hP hS hd (lv_sub hl [0, 1, 2, 3] rfl)
def wl_X5_duel_76 (Q : Int32 → sT → Prop) (K69 : Int32 → Int32 → sT → Prop) : Nat → Int32 → Int32 → Int32 → sT → Prop
  | 0, _, _, _ => fun _ => False
  | n + 1, x2, x3, x4 => fun S => wb_X5_duel_76 Q K69 (fun x2 x3 x4 S => wl_X5_duel_76 Q K69 n x2 x3 x4 S) x2 x3 x4 S
theorem bl_X5_duel_76 {p : Program} {l : Launch} {e : Env} {s : State} {m : MethodId} {args : Array Value} {below : List Frame} {meth : Method} {c : Code} {Z : State → Prop} {D : va_G} {cA : Nat → ClassId} {h : Nat → Nat} {Q : Int32 → sT → Prop} (C0 : cx p s m args c cX5_duel 5 RX5 D cA false keysRA h) (hret : rtI p l e rm_X5_duel s m args below meth c cX5_duel Z D (wR h cA) (aK keysRA h s.heap.size) Q) {K69 : Int32 → Int32 → sT → Prop} (k69 : ∀ (x2 : Int32) (x3 : Int32) (S : sT) (H : Heap) (locs : List Loc) (ls : Array Slot), K69 x2 x3 S → va_P D vwCl (wR h cA S) H → va_S (aK keysRA h s.heap.size) s.heap H locs → lv_has ls 5 [(0, .ref (h 100)), (2, .int x2), (3, .int x3)] → W p l e rm_X5_duel s m args below meth c H locs 0 0 Z (F0 m 69 ls [])) : ∀ (n : Nat) (x2 : Int32) (x3 : Int32) (x4 : Int32) (S : sT) (H : Heap) (locs : List Loc) (ls : Array Slot), va_P D vwCl (wR h cA S) H → va_S (aK keysRA h s.heap.size) s.heap H locs → wl_X5_duel_76 Q K69 n x2 x3 x4 S → lv_has ls 5 [(0, .ref (h 100)), (2, .int x2), (3, .int x3), (4, .int x4)] → W p l e rm_X5_duel s m args below meth c H locs 0 0 Z (F0 m 76 ls []) := by
  intro n
  induction n with
  | zero => intro x2 x3 x4 S H locs ls hP hS hd hl; exact (show False from hd).elim
  | succ n ih => intro x2 x3 x4 S H locs ls hP hS hd hl; exact bk_X5_duel_76 C0 hret k69 (fun x2 x3 x4 S H locs ls hd hP hS hl => ih x2 x3 x4 S H locs ls hP hS hd hl) hP hS hd hl
def wb_X5_duel_69 (Q : Int32 → sT → Prop) (K69 : Int32 → Int32 → sT → Prop) (x2 : Int32) (x3 : Int32) (S : sT) : Prop :=
  ((x3 ≤ 0 → (vp_in (2 : Int32) 9) ∧ (vp_in (vA S 14 (2 : Int32).toNatClampNeg) 64) ∧ Q (vA S 30 (vA S 14 (2 : Int32).toNatClampNeg).toNatClampNeg) S) ∧ (¬ x3 ≤ 0 → ∃ n : Nat, wl_X5_duel_76 Q K69 n x2 x3 (0 : Int32) S))
set_option maxHeartbeats 4000000 in
set_option maxRecDepth 100000 in
theorem bk_X5_duel_69 {p : Program} {l : Launch} {e : Env} {s : State} {m : MethodId} {args : Array Value} {below : List Frame} {meth : Method} {c : Code} {Z : State → Prop} {D : va_G} {cA : Nat → ClassId} {h : Nat → Nat} {Q : Int32 → sT → Prop} (C0 : cx p s m args c cX5_duel 5 RX5 D cA false keysRA h) (hret : rtI p l e rm_X5_duel s m args below meth c cX5_duel Z D (wR h cA) (aK keysRA h s.heap.size) Q) {K69 : Int32 → Int32 → sT → Prop} (k69 : ∀ (x2 : Int32) (x3 : Int32) (S : sT) (H : Heap) (locs : List Loc) (ls : Array Slot), K69 x2 x3 S → va_P D vwCl (wR h cA S) H → va_S (aK keysRA h s.heap.size) s.heap H locs → lv_has ls 5 [(0, .ref (h 100)), (2, .int x2), (3, .int x3)] → W p l e rm_X5_duel s m args below meth c H locs 0 0 Z (F0 m 69 ls [])) {x2 : Int32} {x3 : Int32} {S : sT} {H : Heap} {locs : List Loc} {ls : Array Slot} (hP : va_P D vwCl (wR h cA S) H) (hS : va_S (aK keysRA h s.heap.size) s.heap H locs) (hd : wb_X5_duel_69 Q K69 x2 x3 S) (hl : lv_has ls 5 [(0, .ref (h 100)), (2, .int x2), (3, .int x3)]) : W p l e rm_X5_duel s m args below meth c H locs 0 0 Z (F0 m 69 ls []) := by
  obtain ⟨⟨hx, hb, hml, hown, hts⟩, hK, -, -⟩ := id C0
  unfold wb_X5_duel_69 at hd
  refine lv_iload_n hx hb dX5_duel_69 rfl (lv_at hl 2 rfl) ?_
  refine lv_if_le (tgt := 133) hx hb dX5_duel_70 (by decide) (fun hc => ?_) (fun hc => ?_)
  · have hd := hd.1 hc
    refine lv_aload_n hx hb dX5_duel_133 rfl (lv_at hl 0 rfl) ?_
    refine gf_X5_59 C0 hP dX5_duel_134 ?_
    refine lv_aload_n hx hb dX5_duel_137 rfl (lv_at hl 0 rfl) ?_
    refine gf_X5_35 C0 hP dX5_duel_138 ?_
    refine lv_iconst (v := 2) hx hb dX5_duel_141 (by decide) ?_
    obtain ⟨h_1, hd⟩ := hd
    refine ldR (by decide) C0 hP h_1 dX5_duel_142 ?_
    obtain ⟨h_2, hd⟩ := hd
    refine ldR (by decide) C0 hP h_2 dX5_duel_143 ?_
    exact hret _ _ _ _ _ _ hd hP hS dX5_duel_144
  · have hd := hd.2 hc
    refine lv_iconst (v := 0) hx hb dX5_duel_73 (by decide) ?_
    refine lv_istore (lv' := [(4, .int (0 : Int32)), (0, .ref (h 100)), (2, .int x2), (3, .int x3)]) hx hb dX5_duel_74 hl (by decide) rfl (fun ls hl => ?_)
    obtain ⟨n_3, hd⟩ := hd
    exact bl_X5_duel_76 C0 hret k69 _ _ _ _ _ _ _ _ hP hS hd (lv_sub hl [1, 2, 3, 0] rfl)
def wl_X5_duel_69 (Q : Int32 → sT → Prop) : Nat → Int32 → Int32 → sT → Prop
  | 0, _, _ => fun _ => False
  | n + 1, x2, x3 => fun S => wb_X5_duel_69 Q (fun x2 x3 S => wl_X5_duel_69 Q n x2 x3 S) x2 x3 S
theorem bl_X5_duel_69 {p : Program} {l : Launch} {e : Env} {s : State} {m : MethodId} {args : Array Value} {below : List Frame} {meth : Method} {c : Code} {Z : State → Prop} {D : va_G} {cA : Nat → ClassId} {h : Nat → Nat} {Q : Int32 → sT → Prop} (C0 : cx p s m args c cX5_duel 5 RX5 D cA false keysRA h) (hret : rtI p l e rm_X5_duel s m args below meth c cX5_duel Z D (wR h cA) (aK keysRA h s.heap.size) Q) : ∀ (n : Nat) (x2 : Int32) (x3 : Int32) (S : sT) (H : Heap) (locs : List Loc) (ls : Array Slot), va_P D vwCl (wR h cA S) H → va_S (aK keysRA h s.heap.size) s.heap H locs → wl_X5_duel_69 Q n x2 x3 S → lv_has ls 5 [(0, .ref (h 100)), (2, .int x2), (3, .int x3)] → W p l e rm_X5_duel s m args below meth c H locs 0 0 Z (F0 m 69 ls []) := by
  intro n
  induction n with
  | zero => intro x2 x3 S H locs ls hP hS hd hl; exact (show False from hd).elim
  | succ n ih => intro x2 x3 S H locs ls hP hS hd hl; exact bk_X5_duel_69 C0 hret (fun x2 x3 S H locs ls hd hP hS hl => ih x2 x3 S H locs ls hP hS hd hl) hP hS hd hl
def wb_X5_duel_33 (Q : Int32 → sT → Prop) (K33 : Int32 → Int32 → Int32 → sT → Prop) (x1 : Int32) (x2 : Int32) (x3 : Int32) (S : sT) : Prop :=
  ((x2 ≤ x3 → ∃ n : Nat, wl_X5_duel_69 Q n x2 x1 S) ∧ (¬ x2 ≤ x3 → wp_X5_layAside S (fun S_2 => (vp_in (2 : Int32) 9) ∧ wp_X5_placeBehind (20 : Int32) (uA S_2 15 (upd (vA S_2 15) (2 : Int32).toNatClampNeg x3)) (fun r_4 S_4 => (vp_in x3 64) ∧ K33 x1 x2 (x3 + (1 : Int32)) (uA S_4 30 (upd (vA S_4 30) x3.toNatClampNeg r_4))))))
set_option maxHeartbeats 4000000 in
set_option maxRecDepth 100000 in
theorem bk_X5_duel_33 {p : Program} {l : Launch} {e : Env} {s : State} {m : MethodId} {args : Array Value} {below : List Frame} {meth : Method} {c : Code} {Z : State → Prop} {D : va_G} {cA : Nat → ClassId} {h : Nat → Nat} {Q : Int32 → sT → Prop} (C0 : cx p s m args c cX5_duel 5 RX5 D cA false keysRA h) (hret : rtI p l e rm_X5_duel s m args below meth c cX5_duel Z D (wR h cA) (aK keysRA h s.heap.size) Q) {K33 : Int32 → Int32 → Int32 → sT → Prop} (k33 : ∀ (x1 : Int32) (x2 : Int32) (x3 : Int32) (S : sT) (H : Heap) (locs : List Loc) (ls : Array Slot), K33 x1 x2 x3 S → va_P D vwCl (wR h cA S) H → va_S (aK keysRA h s.heap.size) s.heap H locs → lv_has ls 5 [(0, .ref (h 100)), (1, .int x1), (2, .int x2), (3, .int x3)] → W p l e rm_X5_duel s m args below meth c H locs 0 0 Z (F0 m 33 ls [])) {x1 : Int32} {x2 : Int32} {x3 : Int32} {S : sT} {H : Heap} {locs : List Loc} {ls : Array Slot} (hP : va_P D vwCl (wR h cA S) H) (hS : va_S (aK keysRA h s.heap.size) s.heap H locs) (hd : wb_X5_duel_33 Q K33 x1 x2 x3 S) (hl : lv_has ls 5 [(0, .ref (h 100)), (1, .int x1), (2, .int x2), (3, .int x3)]) : W p l e rm_X5_duel s m args below meth c H locs 0 0 Z (F0 m 33 ls []) := by
  obtain ⟨⟨hx, hb, hml, hown, hts⟩, hK, -, -⟩ := id C0
  unfold wb_X5_duel_33 at hd
  refine lv_iload_n hx hb dX5_duel_33 rfl (lv_at hl 3 rfl) ?_
  refine lv_iload_n hx hb dX5_duel_34 rfl (lv_at hl 2 rfl) ?_
  refine lv_icmp_ge (tgt := 67) hx hb dX5_duel_35 (by decide) (fun hc => ?_) (fun hc => ?_)
  · have hd := hd.1 hc
    refine lv_iload_n hx hb dX5_duel_67 rfl (lv_at hl 1 rfl) ?_
    refine lv_istore_n (lv' := [(3, .int x1), (0, .ref (h 100)), (1, .int x1), (2, .int x2)]) hx hb dX5_duel_68 rfl hl (by decide) rfl (fun ls hl => ?_)
    obtain ⟨n_1, hd⟩ := hd
    exact bl_X5_duel_69 C0 hret _ _ _ _ _ _ _ hP hS hd (lv_sub hl [1, 3, 0] rfl)
  · have hd := hd.2 hc
    refine lv_aload_n hx hb dX5_duel_38 rfl (lv_at hl 0 rfl) ?_
    refine cl_Vv (n := 0) (rest := []) C0 hP hS (c_X5_layAside l C0.2.2.1 _ hd) (lwG_V lm_X5_213 li_X5_layAside lx_X5_layAside lz_RX5 lc_X5_layAside) (by decide +kernel) (oR_at h cA _) rfl rfl rfl (Nat.le_of_ble_eq_true rfl) ⟨rfl, rfl⟩ ⟨by decide, by decide⟩ dX5_duel_39 hl.1 ⟨Nat.zero_le _, Nat.zero_le _⟩ (fun S_2 H locs hd hP hS => ?_)
    refine lv_aload_n hx hb dX5_duel_42 rfl (lv_at hl 0 rfl) ?_
    refine gf_X5_38 C0 hP dX5_duel_43 ?_
    refine lv_iconst (v := 2) hx hb dX5_duel_46 (by decide) ?_
    refine lv_iload_n hx hb dX5_duel_47 rfl (lv_at hl 3 rfl) ?_
    obtain ⟨h_3, hd⟩ := hd
    refine stR (by decide) C0 hP hS h_3 dX5_duel_48 (fun H locs hP hS => ?_)
    refine lv_aload_n hx hb dX5_duel_49 rfl (lv_at hl 0 rfl) ?_
    refine gf_X5_59 C0 hP dX5_duel_50 ?_
    refine lv_iload_n hx hb dX5_duel_53 rfl (lv_at hl 3 rfl) ?_
    refine lv_aload_n hx hb dX5_duel_54 rfl (lv_at hl 0 rfl) ?_
    refine lv_bipush (v := 20) hx hb dX5_duel_55 (by decide) ?_
    refine cl_Vi (n := 1) (rest := [.int x3, .ref (h 30)]) C0 hP hS (c_X5_placeBehind l C0.2.2.1 _ hd) (lwG_V lm_X5_225 li_X5_placeBehind lx_X5_placeBehind lz_RX5 lc_X5_placeBehind) (by decide +kernel) (oR_at h cA _) rfl rfl rfl (Nat.le_of_ble_eq_true rfl) ⟨rfl, rfl⟩ ⟨by decide, by decide⟩ dX5_duel_57 hl.1 ⟨Nat.zero_le _, Nat.zero_le _⟩ (fun r_4 S_4 H locs hd hP hS => ?_)
    obtain ⟨h_5, hd⟩ := hd
    refine stR (by decide) C0 hP hS h_5 dX5_duel_60 (fun H locs hP hS => ?_)
    refine lv_iinc (v := x3 + (1 : Int32)) (lv' := [(3, .int (x3 + (1 : Int32))), (0, .ref (h 100)), (1, .int x1), (2, .int x2)]) hx hb dX5_duel_61 hl (k := 3) rfl rfl (by decide) rfl (fun ls hl => ?_)
    refine lv_goto (tgt := 33) hx hb dX5_duel_64 (by decide) ?_
    exact k33 _ _ _ _ _ _ _ hd hP hS (lv_sub hl [1, 2, 3, 0] rfl)
def wl_X5_duel_33 (Q : Int32 → sT → Prop) : Nat → Int32 → Int32 → Int32 → sT → Prop
  | 0, _, _, _ => fun _ => False
  | n + 1, x1, x2, x3 => fun S => wb_X5_duel_33 Q (fun x1 x2 x3 S => wl_X5_duel_33 Q n x1 x2 x3 S) x1 x2 x3 S
theorem bl_X5_duel_33 {p : Program} {l : Launch} {e : Env} {s : State} {m : MethodId} {args : Array Value} {below : List Frame} {meth : Method} {c : Code} {Z : State → Prop} {D : va_G} {cA : Nat → ClassId} {h : Nat → Nat} {Q : Int32 → sT → Prop} (C0 : cx p s m args c cX5_duel 5 RX5 D cA false keysRA h) (hret : rtI p l e rm_X5_duel s m args below meth c cX5_duel Z D (wR h cA) (aK keysRA h s.heap.size) Q) : ∀ (n : Nat) (x1 : Int32) (x2 : Int32) (x3 : Int32) (S : sT) (H : Heap) (locs : List Loc) (ls : Array Slot), va_P D vwCl (wR h cA S) H → va_S (aK keysRA h s.heap.size) s.heap H locs → wl_X5_duel_33 Q n x1 x2 x3 S → lv_has ls 5 [(0, .ref (h 100)), (1, .int x1), (2, .int x2), (3, .int x3)] → W p l e rm_X5_duel s m args below meth c H locs 0 0 Z (F0 m 33 ls []) := by
  intro n
  induction n with
  | zero => intro x1 x2 x3 S H locs ls hP hS hd hl; exact (show False from hd).elim
  | succ n ih => intro x1 x2 x3 S H locs ls hP hS hd hl; exact bk_X5_duel_33 C0 hret (fun x1 x2 x3 S H locs ls hd hP hS hl => ih x1 x2 x3 S H locs ls hP hS hd hl) hP hS hd hl
def wp_X5_duel (x1 : Int32) (S : sT) (Q : Int32 → sT → Prop) : Prop :=
  wp_X5_in x1.toInt64 (0 : Int64) (4 : Int64) S (fun r_1 S_1 => ((¬ r_1 = 0 → ((¬ (vI S_1 9) = 0 → ∃ n : Nat, wl_X5_duel_33 Q n x1 ((1 : Int32) <<< ((vI S_1 9) &&& 31)) (0 : Int32) S_1) ∧ ((vI S_1 9) = 0 → Q (-4 : Int32) S_1))) ∧ (r_1 = 0 → Q (-1 : Int32) S_1)))
set_option maxHeartbeats 4000000 in
set_option maxRecDepth 100000 in
theorem bk_X5_duel {p : Program} {l : Launch} {e : Env} {s : State} {m : MethodId} {args : Array Value} {below : List Frame} {meth : Method} {c : Code} {Z : State → Prop} {D : va_G} {cA : Nat → ClassId} {h : Nat → Nat} {Q : Int32 → sT → Prop} (C0 : cx p s m args c cX5_duel 5 RX5 D cA false keysRA h) (hret : rtI p l e rm_X5_duel s m args below meth c cX5_duel Z D (wR h cA) (aK keysRA h s.heap.size) Q) {x1 : Int32} {S : sT} {H : Heap} {locs : List Loc} {ls : Array Slot} (hP : va_P D vwCl (wR h cA S) H) (hS : va_S (aK keysRA h s.heap.size) s.heap H locs) (hd : wp_X5_duel x1 S Q) (hl : lv_has ls 5 [(0, .ref (h 100)), (1, .int x1)]) : W p l e rm_X5_duel s m args below meth c H locs 0 0 Z (F0 m 0 ls []) := by
  obtain ⟨⟨hx, hb, hml, hown, hts⟩, hK, -, -⟩ := id C0
  unfold wp_X5_duel at hd
  refine lv_iload_n hx hb dX5_duel_0 rfl (lv_at hl 1 rfl) ?_
  refine lv_i2l hx hb dX5_duel_1 rfl ?_
  refine lv_lconst (v := 0) hx hb dX5_duel_2 (by decide) ?_
  refine lv_ldc2 hx hb hown (hts _ lk_X5_179) dX5_duel_3 ?_
  refine cl_Si (n := 3) (rest := []) C0 hP hS (c_X5_in l C0.2.2.1 _ hd) (lwG_S lm_X5_77 ls_X5_in lz_RX5 lc_X5_in) (by decide +kernel) rfl rfl (Nat.le_of_ble_eq_true rfl) ⟨rfl, rfl⟩ ⟨by decide, by decide⟩ dX5_duel_6 hl.1 ⟨Nat.zero_le _, Nat.zero_le _⟩ (fun r_1 S_1 H locs hd hP hS => ?_)
  refine lv_if_ne (tgt := 14) hx hb dX5_duel_9 (by decide) (fun hc => ?_) (fun hc => ?_)
  · have hd := hd.1 hc
    refine lv_aload_n hx hb dX5_duel_14 rfl (lv_at hl 0 rfl) ?_
    refine gf_X5_97 C0 hP dX5_duel_15 ?_
    refine lv_if_ne (tgt := 24) hx hb dX5_duel_18 (by decide) (fun hc => ?_) (fun hc => ?_)
    · have hd := hd.1 hc
      refine lv_iconst (v := 1) hx hb dX5_duel_24 (by decide) ?_
      refine lv_aload_n hx hb dX5_duel_25 rfl (lv_at hl 0 rfl) ?_
      refine gf_X5_97 C0 hP dX5_duel_26 ?_
      refine lv_ishl hx hb dX5_duel_29 ?_
      refine lv_istore_n (lv' := [(2, .int ((1 : Int32) <<< ((vI S_1 9) &&& 31))), (0, .ref (h 100)), (1, .int x1)]) hx hb dX5_duel_30 rfl hl (by decide) rfl (fun ls hl => ?_)
      refine lv_iconst (v := 0) hx hb dX5_duel_31 (by decide) ?_
      refine lv_istore_n (lv' := [(3, .int (0 : Int32)), (2, .int ((1 : Int32) <<< ((vI S_1 9) &&& 31))), (0, .ref (h 100)), (1, .int x1)]) hx hb dX5_duel_32 rfl hl (by decide) rfl (fun ls hl => ?_)
      obtain ⟨n_2, hd⟩ := hd
      exact bl_X5_duel_33 C0 hret _ _ _ _ _ _ _ _ hP hS hd (lv_sub hl [2, 3, 1, 0] rfl)
    · have hd := hd.2 hc
      refine lv_bipush (v := (-4)) hx hb dX5_duel_21 (by decide) ?_
      exact hret _ _ _ _ _ _ hd hP hS dX5_duel_23
  · have hd := hd.2 hc
    refine lv_iconst (v := (-1)) hx hb dX5_duel_12 (by decide) ?_
    exact hret _ _ _ _ _ _ hd hP hS dX5_duel_13
theorem c_X5_duel (l : Launch) {D : va_G} {cA : Nat → ClassId} {h : Nat → Nat} (hk : ky keysRA h) {x1 : Int32} {S : sT} (sz : Nat) {Q : Int32 → sT → Prop} (hd : wp_X5_duel x1 S Q) : Met l yX5_duel (wsU yX5_duel cX5_duel 5 (some .int)) rm_X5_duel (va_Pc [.ref (h 100), .int x1] (gP D cA false keysRA h (wR h cA) S sz)) (va_Qi Q (wB D (wR h cA)) (aK keysRA h sz)) 0 0 (aK keysRA h sz) :=
  mk_i (by decide) hk (Nat.le_of_ble_eq_true rfl) (fun p e s m below meth c Z ls C0 hret hP hS hl => bk_X5_duel C0 hret hP hS hd hl)
