abbrev rm_J6_bitCount_0f7a4 : Room := { frames := 0, cells := 0, slots := 0, locals := 0 }
def wp_J6_bitCount_0f7a4 (x0 : Int32) (S : sT) (Q : Int32 → sT → Prop) : Prop :=
  ∀ z_1 : Int32, z_1 = (x0 - (((x0.toUInt32 >>> ((1 : Int32).toUInt32 &&& Int32.toUInt32 31)).toInt32) &&& (1431655765 : Int32))) → ∀ z_2 : Int32, z_2 = ((z_1 &&& (858993459 : Int32)) + (((z_1.toUInt32 >>> ((2 : Int32).toUInt32 &&& Int32.toUInt32 31)).toInt32) &&& (858993459 : Int32))) → ∀ z_3 : Int32, z_3 = ((z_2 + ((z_2.toUInt32 >>> ((4 : Int32).toUInt32 &&& Int32.toUInt32 31)).toInt32)) &&& (252645135 : Int32)) → ∀ z_4 : Int32, z_4 = (z_3 + ((z_3.toUInt32 >>> ((8 : Int32).toUInt32 &&& Int32.toUInt32 31)).toInt32)) → ∀ z_5 : Int32, z_5 = (z_4 + ((z_4.toUInt32 >>> ((16 : Int32).toUInt32 &&& Int32.toUInt32 31)).toInt32)) → Q (z_5 &&& (63 : Int32)) S
set_option maxHeartbeats 4000000 in
set_option maxRecDepth 100000 in
theorem bk_J6_bitCount_0f7a4 {p : Program} {l : Launch} {e : Env} {s : State} {m : MethodId} {args : Array Value} {below : List Frame} {meth : Method} {c : Code} {Z : State → Prop} {D : va_G} {cA : Nat → ClassId} {h : Nat → Nat} {Q : Int32 → sT → Prop} (C0 : cx p s m args c cJ6_bitCount_0f7a4 1 RJ6 D cA true keysC h) (hret : rtI p l e rm_J6_bitCount_0f7a4 s m args below meth c cJ6_bitCount_0f7a4 Z D (wC h cA) (aK keysC h s.heap.size) Q) {x0 : Int32} {S : sT} {H : Heap} {locs : List Loc} {ls : Array Slot} (hP : va_P D vwCl (wC h cA S) H) (hS : va_S (aK keysC h s.heap.size) s.heap H locs) (hd : wp_J6_bitCount_0f7a4 x0 S Q) (hl : lv_has ls 1 [(0, .int x0)]) : W p l e rm_J6_bitCount_0f7a4 s m args below meth c H locs 0 0 Z (F0 m 0 ls []) := by
  obtain ⟨⟨hx, hb, hml, hown, hts⟩, hK, -, -⟩ := id C0
  unfold wp_J6_bitCount_0f7a4 at hd
  refine lv_iload_n hx hb dJ6_bitCount_0f7a4_0 rfl (lv_at hl 0 rfl) ?_
  refine lv_iload_n hx hb dJ6_bitCount_0f7a4_1 rfl (lv_at hl 0 rfl) ?_
  refine lv_iconst (v := 1) hx hb dJ6_bitCount_0f7a4_2 (by decide) ?_
  refine lv_iushr hx hb dJ6_bitCount_0f7a4_3 rfl ?_
  refine lv_ldcw hx hb hown (hts _ lk_J6_265) dJ6_bitCount_0f7a4_4 ?_
  refine lv_iand hx hb dJ6_bitCount_0f7a4_7 ?_
  refine lv_isub hx hb dJ6_bitCount_0f7a4_8 ?_
  refine lv_topi (fun z_1 ez_1 => ?_)
  have hd := hd z_1 ez_1
  refine lv_istore_n (lv' := [(0, .int z_1)]) hx hb dJ6_bitCount_0f7a4_9 rfl hl (by decide) rfl (fun ls hl => ?_)
  refine lv_iload_n hx hb dJ6_bitCount_0f7a4_10 rfl (lv_at hl 0 rfl) ?_
  refine lv_ldcw hx hb hown (hts _ lk_J6_266) dJ6_bitCount_0f7a4_11 ?_
  refine lv_iand hx hb dJ6_bitCount_0f7a4_14 ?_
  refine lv_iload_n hx hb dJ6_bitCount_0f7a4_15 rfl (lv_at hl 0 rfl) ?_
  refine lv_iconst (v := 2) hx hb dJ6_bitCount_0f7a4_16 (by decide) ?_
  refine lv_iushr hx hb dJ6_bitCount_0f7a4_17 rfl ?_
  refine lv_ldcw hx hb hown (hts _ lk_J6_266) dJ6_bitCount_0f7a4_18 ?_
  refine lv_iand hx hb dJ6_bitCount_0f7a4_21 ?_
  refine lv_iadd hx hb dJ6_bitCount_0f7a4_22 ?_
  refine lv_topi (fun z_2 ez_2 => ?_)
  have hd := hd z_2 ez_2
  refine lv_istore_n (lv' := [(0, .int z_2)]) hx hb dJ6_bitCount_0f7a4_23 rfl hl (by decide) rfl (fun ls hl => ?_)
  refine lv_iload_n hx hb dJ6_bitCount_0f7a4_24 rfl (lv_at hl 0 rfl) ?_
  refine lv_iload_n hx hb dJ6_bitCount_0f7a4_25 rfl (lv_at hl 0 rfl) ?_
  refine lv_iconst (v := 4) hx hb dJ6_bitCount_0f7a4_26 (by decide) ?_
  refine lv_iushr hx hb dJ6_bitCount_0f7a4_27 rfl ?_
  refine lv_iadd hx hb dJ6_bitCount_0f7a4_28 ?_
  refine lv_ldcw hx hb hown (hts _ lk_J6_267) dJ6_bitCount_0f7a4_29 ?_
  refine lv_iand hx hb dJ6_bitCount_0f7a4_32 ?_
  refine lv_topi (fun z_3 ez_3 => ?_)
  have hd := hd z_3 ez_3
  refine lv_istore_n (lv' := [(0, .int z_3)]) hx hb dJ6_bitCount_0f7a4_33 rfl hl (by decide) rfl (fun ls hl => ?_)
  refine lv_iload_n hx hb dJ6_bitCount_0f7a4_34 rfl (lv_at hl 0 rfl) ?_
  refine lv_iload_n hx hb dJ6_bitCount_0f7a4_35 rfl (lv_at hl 0 rfl) ?_
  refine lv_bipush (v := 8) hx hb dJ6_bitCount_0f7a4_36 (by decide) ?_
  refine lv_iushr hx hb dJ6_bitCount_0f7a4_38 rfl ?_
  refine lv_iadd hx hb dJ6_bitCount_0f7a4_39 ?_
  refine lv_topi (fun z_4 ez_4 => ?_)
  have hd := hd z_4 ez_4
  refine lv_istore_n (lv' := [(0, .int z_4)]) hx hb dJ6_bitCount_0f7a4_40 rfl hl (by decide) rfl (fun ls hl => ?_)
  refine lv_iload_n hx hb dJ6_bitCount_0f7a4_41 rfl (lv_at hl 0 rfl) ?_
  refine lv_iload_n hx hb dJ6_bitCount_0f7a4_42 rfl (lv_at hl 0 rfl) ?_
  refine lv_bipush (v := 16) hx hb dJ6_bitCount_0f7a4_43 (by decide) ?_
  refine lv_iushr hx hb dJ6_bitCount_0f7a4_45 rfl ?_
  refine lv_iadd hx hb dJ6_bitCount_0f7a4_46 ?_
  refine lv_topi (fun z_5 ez_5 => ?_)
  have hd := hd z_5 ez_5
  refine lv_istore_n (lv' := [(0, .int z_5)]) hx hb dJ6_bitCount_0f7a4_47 rfl hl (by decide) rfl (fun ls hl => ?_)
  refine lv_iload_n hx hb dJ6_bitCount_0f7a4_48 rfl (lv_at hl 0 rfl) ?_
  refine lv_bipush (v := 63) hx hb dJ6_bitCount_0f7a4_49 (by decide) ?_
  refine lv_iand hx hb dJ6_bitCount_0f7a4_51 ?_
  exact hret _ _ _ _ _ _ hd hP hS dJ6_bitCount_0f7a4_52
theorem c_J6_bitCount_0f7a4 (l : Launch) {D : va_G} {cA : Nat → ClassId} {h : Nat → Nat} (hk : ky keysC h) {x0 : Int32} {S : sT} (sz : Nat) {Q : Int32 → sT → Prop} (hd : wp_J6_bitCount_0f7a4 x0 S Q) : Met l yJ6_bitCount_0f7a4 (wsU yJ6_bitCount_0f7a4 cJ6_bitCount_0f7a4 1 (some .int)) rm_J6_bitCount_0f7a4 (va_Pc [.int x0] (gP D cA true keysC h (wC h cA) S sz)) (va_Qi Q (wB D (wC h cA)) (aK keysC h sz)) 0 0 (aK keysC h sz) :=
  mk_i (by decide) hk (Nat.le_of_ble_eq_true rfl) (fun p e s m below meth c Z ls C0 hret hP hS hl => bk_J6_bitCount_0f7a4 C0 hret hP hS hd hl)
abbrev rm_J7_fill_53178 : Room := { frames := 0, cells := 0, slots := 0, locals := 0 }
def wb_J7_fill_53178_5 (k0 : Nat) (Q : sT → Prop) (K5 : Int32 → Int32 → Int32 → sT → Prop) (x1 : Int32) (x2 : Int32) (x3 : Int32) (S : sT) : Prop :=
  ((x3 ≤ x2 → Q S) ∧ (¬ x3 ≤ x2 → (vp_in x2 (lenC k0)) ∧ K5 x1 (x2 + (1 : Int32)) x3 (uA S k0 (upd (vA S k0) x2.toNatClampNeg x1))))
set_option maxHeartbeats 4000000 in
set_option maxRecDepth 100000 in
theorem bk_J7_fill_53178_5 {p : Program} {l : Launch} {e : Env} {s : State} {m : MethodId} {args : Array Value} {below : List Frame} {meth : Method} {c : Code} {Z : State → Prop} {D : va_G} {cA : Nat → ClassId} {h : Nat → Nat} {Q : sT → Prop} {k0 : Nat} (C0 : cx p s m args c cJ7_fill_53178 4 RJ7 D cA true keysC h) (hret : rtV p l e rm_J7_fill_53178 s m args below meth c cJ7_fill_53178 Z D (wC h cA) (aK keysC h s.heap.size) Q) (hk0 : k0 ∈ keysCI) {K5 : Int32 → Int32 → Int32 → sT → Prop} (k5 : ∀ (x1 : Int32) (x2 : Int32) (x3 : Int32) (S : sT) (H : Heap) (locs : List Loc) (ls : Array Slot), K5 x1 x2 x3 S → va_P D vwCl (wC h cA S) H → va_S (aK keysC h s.heap.size) s.heap H locs → lv_has ls 4 [(0, .ref (h k0)), (1, .int x1), (2, .int x2), (3, .int x3)] → W p l e rm_J7_fill_53178 s m args below meth c H locs 0 0 Z (F0 m 5 ls [])) {x1 : Int32} {x2 : Int32} {x3 : Int32} {S : sT} {H : Heap} {locs : List Loc} {ls : Array Slot} (hP : va_P D vwCl (wC h cA S) H) (hS : va_S (aK keysC h s.heap.size) s.heap H locs) (hd : wb_J7_fill_53178_5 k0 Q K5 x1 x2 x3 S) (hl : lv_has ls 4 [(0, .ref (h k0)), (1, .int x1), (2, .int x2), (3, .int x3)]) : W p l e rm_J7_fill_53178 s m args below meth c H locs 0 0 Z (F0 m 5 ls []) := by
  obtain ⟨⟨hx, hb, hml, hown, hts⟩, hK, -, -⟩ := id C0
  unfold wb_J7_fill_53178_5 at hd
  refine lv_iload_n hx hb dJ7_fill_53178_5 rfl (lv_at hl 2 rfl) ?_
  refine lv_iload_n hx hb dJ7_fill_53178_6 rfl (lv_at hl 3 rfl) ?_
  refine lv_icmp_ge (tgt := 20) hx hb dJ7_fill_53178_7 (by decide) (fun hc => ?_) (fun hc => ?_)
  · have hd := hd.1 hc
    exact hret _ _ _ _ _ hd hP hS dJ7_fill_53178_20
  · have hd := hd.2 hc
    refine lv_aload_n hx hb dJ7_fill_53178_10 rfl (lv_at hl 0 rfl) ?_
    refine lv_iload_n hx hb dJ7_fill_53178_11 rfl (lv_at hl 2 rfl) ?_
    refine lv_iload_n hx hb dJ7_fill_53178_12 rfl (lv_at hl 1 rfl) ?_
    obtain ⟨h_1, hd⟩ := hd
    refine stC hk0 C0 hP hS h_1 dJ7_fill_53178_13 (fun H locs hP hS => ?_)
    refine lv_iinc (v := x2 + (1 : Int32)) (lv' := [(2, .int (x2 + (1 : Int32))), (0, .ref (h k0)), (1, .int x1), (3, .int x3)]) hx hb dJ7_fill_53178_14 hl (k := 2) rfl rfl (by decide) rfl (fun ls hl => ?_)
    refine lv_goto (tgt := 5) hx hb dJ7_fill_53178_17 (by decide) ?_
    exact k5 _ _ _ _ _ _ _ hd hP hS (lv_sub hl [1, 2, 0, 3] rfl)
def wl_J7_fill_53178_5 (k0 : Nat) (Q : sT → Prop) : Nat → Int32 → Int32 → Int32 → sT → Prop
  | 0, _, _, _ => fun _ => False
  | n + 1, x1, x2, x3 => fun S => wb_J7_fill_53178_5 k0 Q (fun x1 x2 x3 S => wl_J7_fill_53178_5 k0 Q n x1 x2 x3 S) x1 x2 x3 S
theorem bl_J7_fill_53178_5 {p : Program} {l : Launch} {e : Env} {s : State} {m : MethodId} {args : Array Value} {below : List Frame} {meth : Method} {c : Code} {Z : State → Prop} {D : va_G} {cA : Nat → ClassId} {h : Nat → Nat} {Q : sT → Prop} {k0 : Nat} (C0 : cx p s m args c cJ7_fill_53178 4 RJ7 D cA true keysC h) (hret : rtV p l e rm_J7_fill_53178 s m args below meth c cJ7_fill_53178 Z D (wC h cA) (aK keysC h s.heap.size) Q) (hk0 : k0 ∈ keysCI) : ∀ (n : Nat) (x1 : Int32) (x2 : Int32) (x3 : Int32) (S : sT) (H : Heap) (locs : List Loc) (ls : Array Slot), va_P D vwCl (wC h cA S) H → va_S (aK keysC h s.heap.size) s.heap H locs → wl_J7_fill_53178_5 k0 Q n x1 x2 x3 S → lv_has ls 4 [(0, .ref (h k0)), (1, .int x1), (2, .int x2), (3, .int x3)] → W p l e rm_J7_fill_53178 s m args below meth c H locs 0 0 Z (F0 m 5 ls []) := by
  intro n
  induction n with
  | zero => intro x1 x2 x3 S H locs ls hP hS hd hl; exact (show False from hd).elim
  | succ n ih => intro x1 x2 x3 S H locs ls hP hS hd hl; exact bk_J7_fill_53178_5 C0 hret hk0 (fun x1 x2 x3 S H locs ls hd hP hS hl => ih x1 x2 x3 S H locs ls hP hS hd hl) hP hS hd hl
def wp_J7_fill_53178 (k0 : Nat) (x1 : Int32) (S : sT) (Q : sT → Prop) : Prop :=
  ∃ n : Nat, wl_J7_fill_53178_5 k0 Q n x1 (0 : Int32) (nI (lenC k0)) S
set_option maxHeartbeats 4000000 in
set_option maxRecDepth 100000 in
theorem bk_J7_fill_53178 {p : Program} {l : Launch} {e : Env} {s : State} {m : MethodId} {args : Array Value} {below : List Frame} {meth : Method} {c : Code} {Z : State → Prop} {D : va_G} {cA : Nat → ClassId} {h : Nat → Nat} {Q : sT → Prop} {k0 : Nat} (C0 : cx p s m args c cJ7_fill_53178 4 RJ7 D cA true keysC h) (hret : rtV p l e rm_J7_fill_53178 s m args below meth c cJ7_fill_53178 Z D (wC h cA) (aK keysC h s.heap.size) Q) (hk0 : k0 ∈ keysCI) {x1 : Int32} {S : sT} {H : Heap} {locs : List Loc} {ls : Array Slot} (hP : va_P D vwCl (wC h cA S) H) (hS : va_S (aK keysC h s.heap.size) s.heap H locs) (hd : wp_J7_fill_53178 k0 x1 S Q) (hl : lv_has ls 4 [(0, .ref (h k0)), (1, .int x1)]) : W p l e rm_J7_fill_53178 s m args below meth c H locs 0 0 Z (F0 m 0 ls []) := by
  obtain ⟨⟨hx, hb, hml, hown, hts⟩, hK, -, -⟩ := id C0
  unfold wp_J7_fill_53178 at hd
  refine lv_iconst (v := 0) hx hb dJ7_fill_53178_0 (by decide) ?_
  refine lv_istore_n (lv' := [(2, .int (0 : Int32)), (0, .ref (h k0)), (1, .int x1)]) hx hb dJ7_fill_53178_1 rfl hl (by decide) rfl (fun ls hl => ?_)
  refine lv_aload_n hx hb dJ7_fill_53178_2 rfl (lv_at hl 1 rfl) ?_
  refine alC hk0 C0 hP dJ7_fill_53178_3 ?_
  refine lv_istore_n (lv' := [(3, .int (nI (lenC k0))), (2, .int (0 : Int32)), (0, .ref (h k0)), (1, .int x1)]) hx hb dJ7_fill_53178_4 rfl hl (by decide) rfl (fun ls hl => ?_)
  obtain ⟨n_1, hd⟩ := hd
  exact bl_J7_fill_53178_5 C0 hret hk0 _ _ _ _ _ _ _ _ hP hS hd (lv_sub hl [2, 3, 1, 0] rfl)
theorem c_J7_fill_53178 (l : Launch) {D : va_G} {cA : Nat → ClassId} {h : Nat → Nat} (hk : ky keysC h) {k0 : Nat} (hk0 : k0 ∈ keysCI) {x1 : Int32} {S : sT} (sz : Nat) {Q : sT → Prop} (hd : wp_J7_fill_53178 k0 x1 S Q) : Met l yJ7_fill_53178 (wsU yJ7_fill_53178 cJ7_fill_53178 4 none) rm_J7_fill_53178 (va_Pc [.ref (h k0), .int x1] (gP D cA true keysC h (wC h cA) S sz)) (va_Qv Q (wB D (wC h cA)) (aK keysC h sz)) 0 0 (aK keysC h sz) :=
  mk_v (by decide) hk (Nat.le_of_ble_eq_true rfl) (fun p e s m below meth c Z ls C0 hret hP hS hl => bk_J7_fill_53178 C0 hret hk0 hP hS hd hl)
abbrev rm_J7_fill_d0a16 : Room := { frames := 0, cells := 0, slots := 0, locals := 0 }
def wb_J7_fill_d0a16_6 (k0 : Nat) (Q : sT → Prop) (K6 : Int64 → Int32 → Int32 → sT → Prop) (x1 : Int64) (x3 : Int32) (x4 : Int32) (S : sT) : Prop :=
  ((x4 ≤ x3 → Q S) ∧ (¬ x4 ≤ x3 → (vp_in x3 (lenCL k0)) ∧ K6 x1 (x3 + (1 : Int32)) x4 (uB S k0 (vp_updL (vB S k0) x3.toNatClampNeg x1))))
set_option maxHeartbeats 4000000 in
set_option maxRecDepth 100000 in
theorem bk_J7_fill_d0a16_6 {p : Program} {l : Launch} {e : Env} {s : State} {m : MethodId} {args : Array Value} {below : List Frame} {meth : Method} {c : Code} {Z : State → Prop} {D : va_G} {cA : Nat → ClassId} {h : Nat → Nat} {Q : sT → Prop} {k0 : Nat} (C0 : cx p s m args c cJ7_fill_d0a16 5 RJ7 D cA true keysC h) (hret : rtV p l e rm_J7_fill_d0a16 s m args below meth c cJ7_fill_d0a16 Z D (wC h cA) (aK keysC h s.heap.size) Q) (hk0 : k0 ∈ keysCL) {K6 : Int64 → Int32 → Int32 → sT → Prop} (k6 : ∀ (x1 : Int64) (x3 : Int32) (x4 : Int32) (S : sT) (H : Heap) (locs : List Loc) (ls : Array Slot), K6 x1 x3 x4 S → va_P D vwCl (wC h cA S) H → va_S (aK keysC h s.heap.size) s.heap H locs → lv_has ls 5 [(0, .ref (h k0)), (1, .long x1), (3, .int x3), (4, .int x4)] → W p l e rm_J7_fill_d0a16 s m args below meth c H locs 0 0 Z (F0 m 6 ls [])) {x1 : Int64} {x3 : Int32} {x4 : Int32} {S : sT} {H : Heap} {locs : List Loc} {ls : Array Slot} (hP : va_P D vwCl (wC h cA S) H) (hS : va_S (aK keysC h s.heap.size) s.heap H locs) (hd : wb_J7_fill_d0a16_6 k0 Q K6 x1 x3 x4 S) (hl : lv_has ls 5 [(0, .ref (h k0)), (1, .long x1), (3, .int x3), (4, .int x4)]) : W p l e rm_J7_fill_d0a16 s m args below meth c H locs 0 0 Z (F0 m 6 ls []) := by
  obtain ⟨⟨hx, hb, hml, hown, hts⟩, hK, -, -⟩ := id C0
  unfold wb_J7_fill_d0a16_6 at hd
  refine lv_iload_n hx hb dJ7_fill_d0a16_6 rfl (lv_at hl 2 rfl) ?_
  refine lv_iload hx hb dJ7_fill_d0a16_7 (lv_at hl 3 rfl) ?_
  refine lv_icmp_ge (tgt := 22) hx hb dJ7_fill_d0a16_9 (by decide) (fun hc => ?_) (fun hc => ?_)
  · have hd := hd.1 hc
    exact hret _ _ _ _ _ hd hP hS dJ7_fill_d0a16_22
  · have hd := hd.2 hc
    refine lv_aload_n hx hb dJ7_fill_d0a16_12 rfl (lv_at hl 0 rfl) ?_
    refine lv_iload_n hx hb dJ7_fill_d0a16_13 rfl (lv_at hl 2 rfl) ?_
    refine lv_lload_n hx hb dJ7_fill_d0a16_14 rfl (lv_at hl 1 rfl) ?_
    obtain ⟨h_1, hd⟩ := hd
    refine stL hk0 C0 hP hS h_1 dJ7_fill_d0a16_15 (fun H locs hP hS => ?_)
    refine lv_iinc (v := x3 + (1 : Int32)) (lv' := [(3, .int (x3 + (1 : Int32))), (0, .ref (h k0)), (1, .long x1), (4, .int x4)]) hx hb dJ7_fill_d0a16_16 hl (k := 2) rfl rfl (by decide) rfl (fun ls hl => ?_)
    refine lv_goto (tgt := 6) hx hb dJ7_fill_d0a16_19 (by decide) ?_
    exact k6 _ _ _ _ _ _ _ hd hP hS (lv_sub hl [1, 2, 0, 3] rfl)
def wl_J7_fill_d0a16_6 (k0 : Nat) (Q : sT → Prop) : Nat → Int64 → Int32 → Int32 → sT → Prop
  | 0, _, _, _ => fun _ => False
  | n + 1, x1, x3, x4 => fun S => wb_J7_fill_d0a16_6 k0 Q (fun x1 x3 x4 S => wl_J7_fill_d0a16_6 k0 Q n x1 x3 x4 S) x1 x3 x4 S
theorem bl_J7_fill_d0a16_6 {p : Program} {l : Launch} {e : Env} {s : State} {m : MethodId} {args : Array Value} {below : List Frame} {meth : Method} {c : Code} {Z : State → Prop} {D : va_G} {cA : Nat → ClassId} {h : Nat → Nat} {Q : sT → Prop} {k0 : Nat} (C0 : cx p s m args c cJ7_fill_d0a16 5 RJ7 D cA true keysC h) (hret : rtV p l e rm_J7_fill_d0a16 s m args below meth c cJ7_fill_d0a16 Z D (wC h cA) (aK keysC h s.heap.size) Q) (hk0 : k0 ∈ keysCL) : ∀ (n : Nat) (x1 : Int64) (x3 : Int32) (x4 : Int32) (S : sT) (H : Heap) (locs : List Loc) (ls : Array Slot), va_P D vwCl (wC h cA S) H → va_S (aK keysC h s.heap.size) s.heap H locs → wl_J7_fill_d0a16_6 k0 Q n x1 x3 x4 S → lv_has ls 5 [(0, .ref (h k0)), (1, .long x1), (3, .int x3), (4, .int x4)] → W p l e rm_J7_fill_d0a16 s m args below meth c H locs 0 0 Z (F0 m 6 ls []) := by
  intro n
  induction n with
  | zero => intro x1 x3 x4 S H locs ls hP hS hd hl; exact (show False from hd).elim
  | succ n ih => intro x1 x3 x4 S H locs ls hP hS hd hl; exact bk_J7_fill_d0a16_6 C0 hret hk0 (fun x1 x3 x4 S H locs ls hd hP hS hl => ih x1 x3 x4 S H locs ls hP hS hd hl) hP hS hd hl
def wp_J7_fill_d0a16 (k0 : Nat) (x1 : Int64) (S : sT) (Q : sT → Prop) : Prop :=
  ∃ n : Nat, wl_J7_fill_d0a16_6 k0 Q n x1 (0 : Int32) (nI (lenCL k0)) S
set_option maxHeartbeats 4000000 in
set_option maxRecDepth 100000 in
theorem bk_J7_fill_d0a16 {p : Program} {l : Launch} {e : Env} {s : State} {m : MethodId} {args : Array Value} {below : List Frame} {meth : Method} {c : Code} {Z : State → Prop} {D : va_G} {cA : Nat → ClassId} {h : Nat → Nat} {Q : sT → Prop} {k0 : Nat} (C0 : cx p s m args c cJ7_fill_d0a16 5 RJ7 D cA true keysC h) (hret : rtV p l e rm_J7_fill_d0a16 s m args below meth c cJ7_fill_d0a16 Z D (wC h cA) (aK keysC h s.heap.size) Q) (hk0 : k0 ∈ keysCL) {x1 : Int64} {S : sT} {H : Heap} {locs : List Loc} {ls : Array Slot} (hP : va_P D vwCl (wC h cA S) H) (hS : va_S (aK keysC h s.heap.size) s.heap H locs) (hd : wp_J7_fill_d0a16 k0 x1 S Q) (hl : lv_has ls 5 [(0, .ref (h k0)), (1, .long x1)]) : W p l e rm_J7_fill_d0a16 s m args below meth c H locs 0 0 Z (F0 m 0 ls []) := by
  obtain ⟨⟨hx, hb, hml, hown, hts⟩, hK, -, -⟩ := id C0
  unfold wp_J7_fill_d0a16 at hd
  refine lv_iconst (v := 0) hx hb dJ7_fill_d0a16_0 (by decide) ?_
  refine lv_istore_n (lv' := [(3, .int (0 : Int32)), (0, .ref (h k0)), (1, .long x1)]) hx hb dJ7_fill_d0a16_1 rfl hl (by decide) rfl (fun ls hl => ?_)
  refine lv_aload_n hx hb dJ7_fill_d0a16_2 rfl (lv_at hl 1 rfl) ?_
  refine alL hk0 C0 hP dJ7_fill_d0a16_3 ?_
  refine lv_istore (lv' := [(4, .int (nI (lenCL k0))), (3, .int (0 : Int32)), (0, .ref (h k0)), (1, .long x1)]) hx hb dJ7_fill_d0a16_4 hl (by decide) rfl (fun ls hl => ?_)
  obtain ⟨n_1, hd⟩ := hd
  exact bl_J7_fill_d0a16_6 C0 hret hk0 _ _ _ _ _ _ _ _ hP hS hd (lv_sub hl [2, 3, 1, 0] rfl)
theorem c_J7_fill_d0a16 (l : Launch) {D : va_G} {cA : Nat → ClassId} {h : Nat → Nat} (hk : ky keysC h) {k0 : Nat} (hk0 : k0 ∈ keysCL) {x1 : Int64} {S : sT} (sz : Nat) {Q : sT → Prop} (hd : wp_J7_fill_d0a16 k0 x1 S Q) : Met l yJ7_fill_d0a16 (wsU yJ7_fill_d0a16 cJ7_fill_d0a16 5 none) rm_J7_fill_d0a16 (va_Pc [.ref (h k0), .long x1] (gP D cA true keysC h (wC h cA) S sz)) (va_Qv Q (wB D (wC h cA)) (aK keysC h sz)) 0 0 (aK keysC h sz) :=
  mk_v (by decide) hk (Nat.le_of_ble_eq_true rfl) (fun p e s m below meth c Z ls C0 hret hP hS hl => bk_J7_fill_d0a16 C0 hret hk0 hP hS hd hl)
abbrev rm_X0_gatherStands : Room := { frames := 1, cells := 0, slots := 0, locals := 24 }
def wb_X0_gatherStands_46 (Q : sT → Prop) (K10 : Int32 → Int32 → sT → Prop) (x1 : Int32) (x2 : Int32) (S : sT) : Prop :=
  K10 x1 (x2 + (1 : Int32)) S
set_option maxHeartbeats 4000000 in
set_option maxRecDepth 100000 in
theorem bk_X0_gatherStands_46 {p : Program} {l : Launch} {e : Env} {s : State} {m : MethodId} {args : Array Value} {below : List Frame} {meth : Method} {c : Code} {Z : State → Prop} {D : va_G} {cA : Nat → ClassId} {h : Nat → Nat} {Q : sT → Prop} (C0 : cx p s m args c cX0_gatherStands 3 RX0 D cA true keysC h) (hret : rtV p l e rm_X0_gatherStands s m args below meth c cX0_gatherStands Z D (wC h cA) (aK keysC h s.heap.size) Q) {K10 : Int32 → Int32 → sT → Prop} (k10 : ∀ (x1 : Int32) (x2 : Int32) (S : sT) (H : Heap) (locs : List Loc) (ls : Array Slot), K10 x1 x2 S → va_P D vwCl (wC h cA S) H → va_S (aK keysC h s.heap.size) s.heap H locs → lv_has ls 3 [(0, .ref (h 1009)), (1, .int x1), (2, .int x2)] → W p l e rm_X0_gatherStands s m args below meth c H locs 0 0 Z (F0 m 10 ls [])) {x1 : Int32} {x2 : Int32} {S : sT} {H : Heap} {locs : List Loc} {ls : Array Slot} (hP : va_P D vwCl (wC h cA S) H) (hS : va_S (aK keysC h s.heap.size) s.heap H locs) (hd : wb_X0_gatherStands_46 Q K10 x1 x2 S) (hl : lv_has ls 3 [(0, .ref (h 1009)), (1, .int x1), (2, .int x2)]) : W p l e rm_X0_gatherStands s m args below meth c H locs 0 0 Z (F0 m 46 ls []) := by
  obtain ⟨⟨hx, hb, hml, hown, hts⟩, hK, -, -⟩ := id C0
  unfold wb_X0_gatherStands_46 at hd
  refine lv_iinc (v := x2 + (1 : Int32)) (lv' := [(2, .int (x2 + (1 : Int32))), (0, .ref (h 1009)), (1, .int x1)]) hx hb dX0_gatherStands_46 hl (k := 2) rfl rfl (by decide) rfl (fun ls hl => ?_)
  refine lv_goto (tgt := 10) hx hb dX0_gatherStands_49 (by decide) ?_
  exact k10 _ _ _ _ _ _ hd hP hS (lv_sub hl [1, 2, 0] rfl)
def wb_X0_gatherStands_10 (Q : sT → Prop) (K10 : Int32 → Int32 → sT → Prop) (x1 : Int32) (x2 : Int32) (S : sT) : Prop :=
  (((vI S 114) ≤ x2 → Q S) ∧ (¬ (vI S 114) ≤ x2 → ((((x1 >>> (x2 &&& 31)) &&& (1 : Int32)) = 0 → wb_X0_gatherStands_46 Q K10 x1 x2 S) ∧ (¬ ((x1 >>> (x2 &&& 31)) &&& (1 : Int32)) = 0 → (vp_in x2 6) ∧ (vp_in (vA S 111 x2.toNatClampNeg) 21) ∧ (vp_in x2 6) ∧ (vp_in (vA S 111 x2.toNatClampNeg) 21) ∧ ∀ S_5 : sT, S_5 = uB S 112 (vp_updL (vB S 112) (vA S 111 x2.toNatClampNeg).toNatClampNeg ((vB S 112 (vA S 111 x2.toNatClampNeg).toNatClampNeg) ||| (vB S 110 x2.toNatClampNeg))) → wb_X0_gatherStands_46 Q K10 x1 x2 S_5))))
set_option maxHeartbeats 4000000 in
set_option maxRecDepth 100000 in
theorem bk_X0_gatherStands_10 {p : Program} {l : Launch} {e : Env} {s : State} {m : MethodId} {args : Array Value} {below : List Frame} {meth : Method} {c : Code} {Z : State → Prop} {D : va_G} {cA : Nat → ClassId} {h : Nat → Nat} {Q : sT → Prop} (C0 : cx p s m args c cX0_gatherStands 3 RX0 D cA true keysC h) (hret : rtV p l e rm_X0_gatherStands s m args below meth c cX0_gatherStands Z D (wC h cA) (aK keysC h s.heap.size) Q) {K10 : Int32 → Int32 → sT → Prop} (k10 : ∀ (x1 : Int32) (x2 : Int32) (S : sT) (H : Heap) (locs : List Loc) (ls : Array Slot), K10 x1 x2 S → va_P D vwCl (wC h cA S) H → va_S (aK keysC h s.heap.size) s.heap H locs → lv_has ls 3 [(0, .ref (h 1009)), (1, .int x1), (2, .int x2)] → W p l e rm_X0_gatherStands s m args below meth c H locs 0 0 Z (F0 m 10 ls [])) {x1 : Int32} {x2 : Int32} {S : sT} {H : Heap} {locs : List Loc} {ls : Array Slot} (hP : va_P D vwCl (wC h cA S) H) (hS : va_S (aK keysC h s.heap.size) s.heap H locs) (hd : wb_X0_gatherStands_10 Q K10 x1 x2 S) (hl : lv_has ls 3 [(0, .ref (h 1009)), (1, .int x1), (2, .int x2)]) : W p l e rm_X0_gatherStands s m args below meth c H locs 0 0 Z (F0 m 10 ls []) := by
  obtain ⟨⟨hx, hb, hml, hown, hts⟩, hK, -, -⟩ := id C0
  unfold wb_X0_gatherStands_10 at hd
  refine lv_iload_n hx hb dX0_gatherStands_10 rfl (lv_at hl 2 rfl) ?_
  refine lv_aload_n hx hb dX0_gatherStands_11 rfl (lv_at hl 0 rfl) ?_
  refine gf_X0_31 C0 hP dX0_gatherStands_12 ?_
  refine lv_icmp_ge (tgt := 52) hx hb dX0_gatherStands_15 (by decide) (fun hc => ?_) (fun hc => ?_)
  · have hd := hd.1 hc
    exact hret _ _ _ _ _ hd hP hS dX0_gatherStands_52
  · have hd := hd.2 hc
    refine lv_iload_n hx hb dX0_gatherStands_18 rfl (lv_at hl 1 rfl) ?_
    refine lv_iload_n hx hb dX0_gatherStands_19 rfl (lv_at hl 2 rfl) ?_
    refine lv_ishr hx hb dX0_gatherStands_20 ?_
    refine lv_iconst (v := 1) hx hb dX0_gatherStands_21 (by decide) ?_
    refine lv_iand hx hb dX0_gatherStands_22 ?_
    refine lv_if_eq (tgt := 46) hx hb dX0_gatherStands_23 (by decide) (fun hc => ?_) (fun hc => ?_)
    · have hd := hd.1 hc
      exact bk_X0_gatherStands_46 C0 hret k10 hP hS hd (lv_sub hl [0, 1, 2] rfl)
    · have hd := hd.2 hc
      refine lv_aload_n hx hb dX0_gatherStands_26 rfl (lv_at hl 0 rfl) ?_
      refine gf_X0_19 C0 hP dX0_gatherStands_27 ?_
      refine lv_aload_n hx hb dX0_gatherStands_30 rfl (lv_at hl 0 rfl) ?_
      refine gf_X0_15 C0 hP dX0_gatherStands_31 ?_
      refine lv_iload_n hx hb dX0_gatherStands_34 rfl (lv_at hl 2 rfl) ?_
      obtain ⟨h_1, hd⟩ := hd
      refine ldC (by decide) C0 hP h_1 dX0_gatherStands_35 ?_
      refine lv_dup2_11 hx hb dX0_gatherStands_36 rfl rfl ?_
      obtain ⟨h_2, hd⟩ := hd
      refine ldL (by decide) C0 hP h_2 dX0_gatherStands_37 ?_
      refine lv_aload_n hx hb dX0_gatherStands_38 rfl (lv_at hl 0 rfl) ?_
      refine gf_X0_9 C0 hP dX0_gatherStands_39 ?_
      refine lv_iload_n hx hb dX0_gatherStands_42 rfl (lv_at hl 2 rfl) ?_
      obtain ⟨h_3, hd⟩ := hd
      refine ldL (by decide) C0 hP h_3 dX0_gatherStands_43 ?_
      refine lv_lor hx hb dX0_gatherStands_44 ?_
      obtain ⟨h_4, hd⟩ := hd
      refine stL (by decide) C0 hP hS h_4 dX0_gatherStands_45 (fun H locs hP hS => ?_)
      obtain ⟨S_5, eS_5⟩ : ∃ x : sT, x = uB S 112 (vp_updL (vB S 112) (vA S 111 x2.toNatClampNeg).toNatClampNeg ((vB S 112 (vA S 111 x2.toNatClampNeg).toNatClampNeg) ||| (vB S 110 x2.toNatClampNeg))) := ⟨_, rfl⟩
      rw [← eS_5] at hP
      have hd := hd S_5 eS_5
      exact bk_X0_gatherStands_46 C0 hret k10 hP hS hd (lv_sub hl [0, 1, 2] rfl)
def wl_X0_gatherStands_10 (Q : sT → Prop) : Nat → Int32 → Int32 → sT → Prop
  | 0, _, _ => fun _ => False
  | n + 1, x1, x2 => fun S => wb_X0_gatherStands_10 Q (fun x1 x2 S => wl_X0_gatherStands_10 Q n x1 x2 S) x1 x2 S
theorem bl_X0_gatherStands_10 {p : Program} {l : Launch} {e : Env} {s : State} {m : MethodId} {args : Array Value} {below : List Frame} {meth : Method} {c : Code} {Z : State → Prop} {D : va_G} {cA : Nat → ClassId} {h : Nat → Nat} {Q : sT → Prop} (C0 : cx p s m args c cX0_gatherStands 3 RX0 D cA true keysC h) (hret : rtV p l e rm_X0_gatherStands s m args below meth c cX0_gatherStands Z D (wC h cA) (aK keysC h s.heap.size) Q) : ∀ (n : Nat) (x1 : Int32) (x2 : Int32) (S : sT) (H : Heap) (locs : List Loc) (ls : Array Slot), va_P D vwCl (wC h cA S) H → va_S (aK keysC h s.heap.size) s.heap H locs → wl_X0_gatherStands_10 Q n x1 x2 S → lv_has ls 3 [(0, .ref (h 1009)), (1, .int x1), (2, .int x2)] → W p l e rm_X0_gatherStands s m args below meth c H locs 0 0 Z (F0 m 10 ls []) := by
  intro n
  induction n with
  | zero => intro x1 x2 S H locs ls hP hS hd hl; exact (show False from hd).elim
  | succ n ih => intro x1 x2 S H locs ls hP hS hd hl; exact bk_X0_gatherStands_10 C0 hret (fun x1 x2 S H locs ls hd hP hS hl => ih x1 x2 S H locs ls hP hS hd hl) hP hS hd hl
def wp_X0_gatherStands (x1 : Int32) (S : sT) (Q : sT → Prop) : Prop :=
  wp_J7_fill_d0a16 112 (0 : Int64) S (fun S_1 => ∃ n : Nat, wl_X0_gatherStands_10 Q n x1 (0 : Int32) S_1)
set_option maxHeartbeats 4000000 in
set_option maxRecDepth 100000 in
theorem bk_X0_gatherStands {p : Program} {l : Launch} {e : Env} {s : State} {m : MethodId} {args : Array Value} {below : List Frame} {meth : Method} {c : Code} {Z : State → Prop} {D : va_G} {cA : Nat → ClassId} {h : Nat → Nat} {Q : sT → Prop} (C0 : cx p s m args c cX0_gatherStands 3 RX0 D cA true keysC h) (hret : rtV p l e rm_X0_gatherStands s m args below meth c cX0_gatherStands Z D (wC h cA) (aK keysC h s.heap.size) Q) {x1 : Int32} {S : sT} {H : Heap} {locs : List Loc} {ls : Array Slot} (hP : va_P D vwCl (wC h cA S) H) (hS : va_S (aK keysC h s.heap.size) s.heap H locs) (hd : wp_X0_gatherStands x1 S Q) (hl : lv_has ls 3 [(0, .ref (h 1009)), (1, .int x1)]) : W p l e rm_X0_gatherStands s m args below meth c H locs 0 0 Z (F0 m 0 ls []) := by
  obtain ⟨⟨hx, hb, hml, hown, hts⟩, hK, -, -⟩ := id C0
  unfold wp_X0_gatherStands at hd
  refine lv_aload_n hx hb dX0_gatherStands_0 rfl (lv_at hl 0 rfl) ?_
  refine gf_X0_19 C0 hP dX0_gatherStands_1 ?_
  refine lv_lconst (v := 0) hx hb dX0_gatherStands_4 (by decide) ?_
  refine cl_Sv (n := 2) (rest := []) C0 hP hS (c_J7_fill_d0a16 l C0.2.2.1 (by decide) _ hd) (lwG_S lm_X0_60 ls_J7_fill_d0a16 lz_RJ7 lc_J7_fill_d0a16) (by decide +kernel) rfl rfl (Nat.le_of_ble_eq_true rfl) ⟨rfl, rfl⟩ ⟨by decide, by decide⟩ dX0_gatherStands_5 hl.1 ⟨Nat.zero_le _, Nat.zero_le _⟩ (fun S_1 H locs hd hP hS => ?_)
  refine lv_iconst (v := 0) hx hb dX0_gatherStands_8 (by decide) ?_
  refine lv_istore_n (lv' := [(2, .int (0 : Int32)), (0, .ref (h 1009)), (1, .int x1)]) hx hb dX0_gatherStands_9 rfl hl (by decide) rfl (fun ls hl => ?_)
  obtain ⟨n_2, hd⟩ := hd
  exact bl_X0_gatherStands_10 C0 hret _ _ _ _ _ _ _ hP hS hd (lv_sub hl [1, 2, 0] rfl)
theorem c_X0_gatherStands (l : Launch) {D : va_G} {cA : Nat → ClassId} {h : Nat → Nat} (hk : ky keysC h) {x1 : Int32} {S : sT} (sz : Nat) {Q : sT → Prop} (hd : wp_X0_gatherStands x1 S Q) : Met l yX0_gatherStands (wsU yX0_gatherStands cX0_gatherStands 3 none) rm_X0_gatherStands (va_Pc [.ref (h 1009), .int x1] (gP D cA true keysC h (wC h cA) S sz)) (va_Qv Q (wB D (wC h cA)) (aK keysC h sz)) 0 0 (aK keysC h sz) :=
  mk_v (by decide) hk (Nat.le_of_ble_eq_true rfl) (fun p e s m below meth c Z ls C0 hret hP hS hl => bk_X0_gatherStands C0 hret hP hS hd hl)
abbrev rm_X4_bit : Room := { frames := 0, cells := 0, slots := 0, locals := 0 }
def wp_X4_bit (x0 : Int32) (S : sT) (Q : Int32 → sT → Prop) : Prop :=
  ((x0 = 0 → Q (0 : Int32) S) ∧ (¬ x0 = 0 → Q (1 : Int32) S))
set_option maxHeartbeats 4000000 in
set_option maxRecDepth 100000 in
theorem bk_X4_bit {p : Program} {l : Launch} {e : Env} {s : State} {m : MethodId} {args : Array Value} {below : List Frame} {meth : Method} {c : Code} {Z : State → Prop} {D : va_G} {cA : Nat → ClassId} {h : Nat → Nat} {Q : Int32 → sT → Prop} (C0 : cx p s m args c cX4_bit 1 RX4 D cA true keysC h) (hret : rtI p l e rm_X4_bit s m args below meth c cX4_bit Z D (wC h cA) (aK keysC h s.heap.size) Q) {x0 : Int32} {S : sT} {H : Heap} {locs : List Loc} {ls : Array Slot} (hP : va_P D vwCl (wC h cA S) H) (hS : va_S (aK keysC h s.heap.size) s.heap H locs) (hd : wp_X4_bit x0 S Q) (hl : lv_has ls 1 [(0, .int x0)]) : W p l e rm_X4_bit s m args below meth c H locs 0 0 Z (F0 m 0 ls []) := by
  obtain ⟨⟨hx, hb, hml, hown, hts⟩, hK, -, -⟩ := id C0
  unfold wp_X4_bit at hd
  refine lv_iload_n hx hb dX4_bit_0 rfl (lv_at hl 0 rfl) ?_
  refine lv_if_eq (tgt := 8) hx hb dX4_bit_1 (by decide) (fun hc => ?_) (fun hc => ?_)
  · have hd := hd.1 hc
    refine lv_iconst (v := 0) hx hb dX4_bit_8 (by decide) ?_
    exact hret _ _ _ _ _ _ hd hP hS dX4_bit_9
  · have hd := hd.2 hc
    refine lv_iconst (v := 1) hx hb dX4_bit_4 (by decide) ?_
    refine lv_goto (tgt := 9) hx hb dX4_bit_5 (by decide) ?_
    exact hret _ _ _ _ _ _ hd hP hS dX4_bit_9
theorem c_X4_bit (l : Launch) {D : va_G} {cA : Nat → ClassId} {h : Nat → Nat} (hk : ky keysC h) {x0 : Int32} {S : sT} (sz : Nat) {Q : Int32 → sT → Prop} (hd : wp_X4_bit x0 S Q) : Met l yX4_bit (wsU yX4_bit cX4_bit 1 (some .int)) rm_X4_bit (va_Pc [.int x0] (gP D cA true keysC h (wC h cA) S sz)) (va_Qi Q (wB D (wC h cA)) (aK keysC h sz)) 0 0 (aK keysC h sz) :=
  mk_i (by decide) hk (Nat.le_of_ble_eq_true rfl) (fun p e s m below meth c Z ls C0 hret hP hS hl => bk_X4_bit C0 hret hP hS hd hl)
abbrev rm_X0_minutesAt : Room := { frames := 1, cells := 0, slots := 0, locals := 20 }
def wb_X0_minutesAt_48 (Q : Int32 → sT → Prop) (K5 : Int32 → Int32 → Int32 → Int32 → sT → Prop) (x1 : Int32) (x2 : Int32) (x4 : Int32) (y0 : Int32) (y1 : Int32) (S : sT) : Prop :=
  wp_X4_bit y1 S (fun r_1 S_1 => K5 x1 x2 (y0 + r_1) (x4 + (1 : Int32)) S_1)
set_option maxHeartbeats 4000000 in
set_option maxRecDepth 100000 in
theorem bk_X0_minutesAt_48 {p : Program} {l : Launch} {e : Env} {s : State} {m : MethodId} {args : Array Value} {below : List Frame} {meth : Method} {c : Code} {Z : State → Prop} {D : va_G} {cA : Nat → ClassId} {h : Nat → Nat} {Q : Int32 → sT → Prop} (C0 : cx p s m args c cX0_minutesAt 5 RX0 D cA true keysC h) (hret : rtI p l e rm_X0_minutesAt s m args below meth c cX0_minutesAt Z D (wC h cA) (aK keysC h s.heap.size) Q) {K5 : Int32 → Int32 → Int32 → Int32 → sT → Prop} (k5 : ∀ (x1 : Int32) (x2 : Int32) (x3 : Int32) (x4 : Int32) (S : sT) (H : Heap) (locs : List Loc) (ls : Array Slot), K5 x1 x2 x3 x4 S → va_P D vwCl (wC h cA S) H → va_S (aK keysC h s.heap.size) s.heap H locs → lv_has ls 5 [(0, .ref (h 1009)), (1, .int x1), (2, .int x2), (3, .int x3), (4, .int x4)] → W p l e rm_X0_minutesAt s m args below meth c H locs 0 0 Z (F0 m 5 ls [])) {x1 : Int32} {x2 : Int32} {x4 : Int32} {y0 : Int32} {y1 : Int32} {S : sT} {H : Heap} {locs : List Loc} {ls : Array Slot} (hP : va_P D vwCl (wC h cA S) H) (hS : va_S (aK keysC h s.heap.size) s.heap H locs) (hd : wb_X0_minutesAt_48 Q K5 x1 x2 x4 y0 y1 S) (hl : lv_has ls 5 [(0, .ref (h 1009)), (1, .int x1), (2, .int x2), (4, .int x4)]) : W p l e rm_X0_minutesAt s m args below meth c H locs 0 0 Z (F0 m 48 ls [.int y1, .int y0]) := by
  obtain ⟨⟨hx, hb, hml, hown, hts⟩, hK, -, -⟩ := id C0
  unfold wb_X0_minutesAt_48 at hd
  refine cl_SNi (n := 1) (rest := [.int y0]) C0 hP hS (c_X4_bit l C0.2.2.1 _ hd) (lwG_C lc_X4_bit) (by decide +kernel : (RX0, 66, yX4_bit, "DreamTrain") ∈ nestM) lz_RX4 ls_X4_bit (by decide +kernel) rfl rfl (Nat.le_of_ble_eq_true rfl) ⟨rfl, rfl⟩ ⟨by decide, by decide⟩ dX0_minutesAt_48 hl.1 ⟨Nat.zero_le _, Nat.zero_le _⟩ (fun r_1 S_1 H locs hd hP hS => ?_)
  refine lv_iadd hx hb dX0_minutesAt_51 ?_
  refine lv_istore_n (lv' := [(3, .int (y0 + r_1)), (0, .ref (h 1009)), (1, .int x1), (2, .int x2), (4, .int x4)]) hx hb dX0_minutesAt_52 rfl hl (by decide) rfl (fun ls hl => ?_)
  refine lv_iinc (v := x4 + (1 : Int32)) (lv' := [(4, .int (x4 + (1 : Int32))), (3, .int (y0 + r_1)), (0, .ref (h 1009)), (1, .int x1), (2, .int x2)]) hx hb dX0_minutesAt_53 hl (k := 4) rfl rfl (by decide) rfl (fun ls hl => ?_)
  refine lv_goto (tgt := 5) hx hb dX0_minutesAt_56 (by decide) ?_
  exact k5 _ _ _ _ _ _ _ _ hd hP hS (lv_sub hl [2, 3, 4, 1, 0] rfl)
def wb_X0_minutesAt_47 (Q : Int32 → sT → Prop) (K5 : Int32 → Int32 → Int32 → Int32 → sT → Prop) (x1 : Int32) (x2 : Int32) (x4 : Int32) (y0 : Int32) (S : sT) : Prop :=
  wb_X0_minutesAt_48 Q K5 x1 x2 x4 y0 (0 : Int32) S
set_option maxHeartbeats 4000000 in
set_option maxRecDepth 100000 in
theorem bk_X0_minutesAt_47 {p : Program} {l : Launch} {e : Env} {s : State} {m : MethodId} {args : Array Value} {below : List Frame} {meth : Method} {c : Code} {Z : State → Prop} {D : va_G} {cA : Nat → ClassId} {h : Nat → Nat} {Q : Int32 → sT → Prop} (C0 : cx p s m args c cX0_minutesAt 5 RX0 D cA true keysC h) (hret : rtI p l e rm_X0_minutesAt s m args below meth c cX0_minutesAt Z D (wC h cA) (aK keysC h s.heap.size) Q) {K5 : Int32 → Int32 → Int32 → Int32 → sT → Prop} (k5 : ∀ (x1 : Int32) (x2 : Int32) (x3 : Int32) (x4 : Int32) (S : sT) (H : Heap) (locs : List Loc) (ls : Array Slot), K5 x1 x2 x3 x4 S → va_P D vwCl (wC h cA S) H → va_S (aK keysC h s.heap.size) s.heap H locs → lv_has ls 5 [(0, .ref (h 1009)), (1, .int x1), (2, .int x2), (3, .int x3), (4, .int x4)] → W p l e rm_X0_minutesAt s m args below meth c H locs 0 0 Z (F0 m 5 ls [])) {x1 : Int32} {x2 : Int32} {x4 : Int32} {y0 : Int32} {S : sT} {H : Heap} {locs : List Loc} {ls : Array Slot} (hP : va_P D vwCl (wC h cA S) H) (hS : va_S (aK keysC h s.heap.size) s.heap H locs) (hd : wb_X0_minutesAt_47 Q K5 x1 x2 x4 y0 S) (hl : lv_has ls 5 [(0, .ref (h 1009)), (1, .int x1), (2, .int x2), (4, .int x4)]) : W p l e rm_X0_minutesAt s m args below meth c H locs 0 0 Z (F0 m 47 ls [.int y0]) := by
  obtain ⟨⟨hx, hb, hml, hown, hts⟩, hK, -, -⟩ := id C0
  unfold wb_X0_minutesAt_47 at hd
  refine lv_iconst (v := 0) hx hb dX0_minutesAt_47 (by decide) ?_
  exact bk_X0_minutesAt_48 C0 hret k5 hP hS hd (lv_sub hl [0, 1, 2, 3] rfl)
def wb_X0_minutesAt_5 (Q : Int32 → sT → Prop) (K5 : Int32 → Int32 → Int32 → Int32 → sT → Prop) (x1 : Int32) (x2 : Int32) (x3 : Int32) (x4 : Int32) (S : sT) : Prop :=
  ((x2 ≤ x4 → Q x3 S) ∧ (¬ x2 ≤ x4 → (((60 : Int32) ≤ x4 → Q x3 S) ∧ (¬ (60 : Int32) ≤ x4 → (vp_in x4 61) ∧ ((¬ (vA S 113 x4.toNatClampNeg) = x1 → wb_X0_minutesAt_47 Q K5 x1 x2 x4 x3 S) ∧ ((vA S 113 x4.toNatClampNeg) = x1 → (vp_in (x4 + (1 : Int32)) 61) ∧ ((¬ (vA S 113 (x4 + (1 : Int32)).toNatClampNeg) = x1 → wb_X0_minutesAt_47 Q K5 x1 x2 x4 x3 S) ∧ ((vA S 113 (x4 + (1 : Int32)).toNatClampNeg) = x1 → wb_X0_minutesAt_48 Q K5 x1 x2 x4 x3 (1 : Int32) S))))))))
set_option maxHeartbeats 4000000 in
set_option maxRecDepth 100000 in
theorem bk_X0_minutesAt_5 {p : Program} {l : Launch} {e : Env} {s : State} {m : MethodId} {args : Array Value} {below : List Frame} {meth : Method} {c : Code} {Z : State → Prop} {D : va_G} {cA : Nat → ClassId} {h : Nat → Nat} {Q : Int32 → sT → Prop} (C0 : cx p s m args c cX0_minutesAt 5 RX0 D cA true keysC h) (hret : rtI p l e rm_X0_minutesAt s m args below meth c cX0_minutesAt Z D (wC h cA) (aK keysC h s.heap.size) Q) {K5 : Int32 → Int32 → Int32 → Int32 → sT → Prop} (k5 : ∀ (x1 : Int32) (x2 : Int32) (x3 : Int32) (x4 : Int32) (S : sT) (H : Heap) (locs : List Loc) (ls : Array Slot), K5 x1 x2 x3 x4 S → va_P D vwCl (wC h cA S) H → va_S (aK keysC h s.heap.size) s.heap H locs → lv_has ls 5 [(0, .ref (h 1009)), (1, .int x1), (2, .int x2), (3, .int x3), (4, .int x4)] → W p l e rm_X0_minutesAt s m args below meth c H locs 0 0 Z (F0 m 5 ls [])) {x1 : Int32} {x2 : Int32} {x3 : Int32} {x4 : Int32} {S : sT} {H : Heap} {locs : List Loc} {ls : Array Slot} (hP : va_P D vwCl (wC h cA S) H) (hS : va_S (aK keysC h s.heap.size) s.heap H locs) (hd : wb_X0_minutesAt_5 Q K5 x1 x2 x3 x4 S) (hl : lv_has ls 5 [(0, .ref (h 1009)), (1, .int x1), (2, .int x2), (3, .int x3), (4, .int x4)]) : W p l e rm_X0_minutesAt s m args below meth c H locs 0 0 Z (F0 m 5 ls []) := by
  obtain ⟨⟨hx, hb, hml, hown, hts⟩, hK, -, -⟩ := id C0
  unfold wb_X0_minutesAt_5 at hd
  refine lv_iload hx hb dX0_minutesAt_5 (lv_at hl 4 rfl) ?_
  refine lv_iload_n hx hb dX0_minutesAt_7 rfl (lv_at hl 2 rfl) ?_
  refine lv_icmp_ge (tgt := 59) hx hb dX0_minutesAt_8 (by decide) (fun hc => ?_) (fun hc => ?_)
  · have hd := hd.1 hc
    refine lv_iload_n hx hb dX0_minutesAt_59 rfl (lv_at hl 3 rfl) ?_
    exact hret _ _ _ _ _ _ hd hP hS dX0_minutesAt_60
  · have hd := hd.2 hc
    refine lv_iload hx hb dX0_minutesAt_11 (lv_at hl 4 rfl) ?_
    refine lv_bipush (v := 60) hx hb dX0_minutesAt_13 (by decide) ?_
    refine lv_icmp_ge (tgt := 59) hx hb dX0_minutesAt_15 (by decide) (fun hc => ?_) (fun hc => ?_)
    · have hd := hd.1 hc
      refine lv_iload_n hx hb dX0_minutesAt_59 rfl (lv_at hl 3 rfl) ?_
      exact hret _ _ _ _ _ _ hd hP hS dX0_minutesAt_60
    · have hd := hd.2 hc
      refine lv_iload_n hx hb dX0_minutesAt_18 rfl (lv_at hl 3 rfl) ?_
      refine lv_aload_n hx hb dX0_minutesAt_19 rfl (lv_at hl 0 rfl) ?_
      refine gf_X0_22 C0 hP dX0_minutesAt_20 ?_
      refine lv_iload hx hb dX0_minutesAt_23 (lv_at hl 4 rfl) ?_
      obtain ⟨h_1, hd⟩ := hd
      refine ldC (by decide) C0 hP h_1 dX0_minutesAt_25 ?_
      refine lv_iload_n hx hb dX0_minutesAt_26 rfl (lv_at hl 1 rfl) ?_
      refine lv_icmp_ne (tgt := 47) hx hb dX0_minutesAt_27 (by decide) (fun hc => ?_) (fun hc => ?_)
      · have hd := hd.1 hc
        exact bk_X0_minutesAt_47 C0 hret k5 hP hS hd (lv_sub hl [0, 1, 2, 4] rfl)
      · have hd := hd.2 hc
        refine lv_aload_n hx hb dX0_minutesAt_30 rfl (lv_at hl 0 rfl) ?_
        refine gf_X0_22 C0 hP dX0_minutesAt_31 ?_
        refine lv_iload hx hb dX0_minutesAt_34 (lv_at hl 4 rfl) ?_
        refine lv_iconst (v := 1) hx hb dX0_minutesAt_36 (by decide) ?_
        refine lv_iadd hx hb dX0_minutesAt_37 ?_
        obtain ⟨h_2, hd⟩ := hd
        refine ldC (by decide) C0 hP h_2 dX0_minutesAt_38 ?_
        refine lv_iload_n hx hb dX0_minutesAt_39 rfl (lv_at hl 1 rfl) ?_
        refine lv_icmp_ne (tgt := 47) hx hb dX0_minutesAt_40 (by decide) (fun hc => ?_) (fun hc => ?_)
        · have hd := hd.1 hc
          exact bk_X0_minutesAt_47 C0 hret k5 hP hS hd (lv_sub hl [0, 1, 2, 4] rfl)
        · have hd := hd.2 hc
          refine lv_iconst (v := 1) hx hb dX0_minutesAt_43 (by decide) ?_
          refine lv_goto (tgt := 48) hx hb dX0_minutesAt_44 (by decide) ?_
          exact bk_X0_minutesAt_48 C0 hret k5 hP hS hd (lv_sub hl [0, 1, 2, 4] rfl)
def wl_X0_minutesAt_5 (Q : Int32 → sT → Prop) : Nat → Int32 → Int32 → Int32 → Int32 → sT → Prop
  | 0, _, _, _, _ => fun _ => False
  | n + 1, x1, x2, x3, x4 => fun S => wb_X0_minutesAt_5 Q (fun x1 x2 x3 x4 S => wl_X0_minutesAt_5 Q n x1 x2 x3 x4 S) x1 x2 x3 x4 S
theorem bl_X0_minutesAt_5 {p : Program} {l : Launch} {e : Env} {s : State} {m : MethodId} {args : Array Value} {below : List Frame} {meth : Method} {c : Code} {Z : State → Prop} {D : va_G} {cA : Nat → ClassId} {h : Nat → Nat} {Q : Int32 → sT → Prop} (C0 : cx p s m args c cX0_minutesAt 5 RX0 D cA true keysC h) (hret : rtI p l e rm_X0_minutesAt s m args below meth c cX0_minutesAt Z D (wC h cA) (aK keysC h s.heap.size) Q) : ∀ (n : Nat) (x1 : Int32) (x2 : Int32) (x3 : Int32) (x4 : Int32) (S : sT) (H : Heap) (locs : List Loc) (ls : Array Slot), va_P D vwCl (wC h cA S) H → va_S (aK keysC h s.heap.size) s.heap H locs → wl_X0_minutesAt_5 Q n x1 x2 x3 x4 S → lv_has ls 5 [(0, .ref (h 1009)), (1, .int x1), (2, .int x2), (3, .int x3), (4, .int x4)] → W p l e rm_X0_minutesAt s m args below meth c H locs 0 0 Z (F0 m 5 ls []) := by
  intro n
  induction n with
  | zero => intro x1 x2 x3 x4 S H locs ls hP hS hd hl; exact (show False from hd).elim
  | succ n ih => intro x1 x2 x3 x4 S H locs ls hP hS hd hl; exact bk_X0_minutesAt_5 C0 hret (fun x1 x2 x3 x4 S H locs ls hd hP hS hl => ih x1 x2 x3 x4 S H locs ls hP hS hd hl) hP hS hd hl
def wp_X0_minutesAt (x1 : Int32) (x2 : Int32) (S : sT) (Q : Int32 → sT → Prop) : Prop :=
  ∃ n : Nat, wl_X0_minutesAt_5 Q n x1 x2 (0 : Int32) (0 : Int32) S
set_option maxHeartbeats 4000000 in
set_option maxRecDepth 100000 in
theorem bk_X0_minutesAt {p : Program} {l : Launch} {e : Env} {s : State} {m : MethodId} {args : Array Value} {below : List Frame} {meth : Method} {c : Code} {Z : State → Prop} {D : va_G} {cA : Nat → ClassId} {h : Nat → Nat} {Q : Int32 → sT → Prop} (C0 : cx p s m args c cX0_minutesAt 5 RX0 D cA true keysC h) (hret : rtI p l e rm_X0_minutesAt s m args below meth c cX0_minutesAt Z D (wC h cA) (aK keysC h s.heap.size) Q) {x1 : Int32} {x2 : Int32} {S : sT} {H : Heap} {locs : List Loc} {ls : Array Slot} (hP : va_P D vwCl (wC h cA S) H) (hS : va_S (aK keysC h s.heap.size) s.heap H locs) (hd : wp_X0_minutesAt x1 x2 S Q) (hl : lv_has ls 5 [(0, .ref (h 1009)), (1, .int x1), (2, .int x2)]) : W p l e rm_X0_minutesAt s m args below meth c H locs 0 0 Z (F0 m 0 ls []) := by
  obtain ⟨⟨hx, hb, hml, hown, hts⟩, hK, -, -⟩ := id C0
  unfold wp_X0_minutesAt at hd
  refine lv_iconst (v := 0) hx hb dX0_minutesAt_0 (by decide) ?_
  refine lv_istore_n (lv' := [(3, .int (0 : Int32)), (0, .ref (h 1009)), (1, .int x1), (2, .int x2)]) hx hb dX0_minutesAt_1 rfl hl (by decide) rfl (fun ls hl => ?_)
  refine lv_iconst (v := 0) hx hb dX0_minutesAt_2 (by decide) ?_
  refine lv_istore (lv' := [(4, .int (0 : Int32)), (3, .int (0 : Int32)), (0, .ref (h 1009)), (1, .int x1), (2, .int x2)]) hx hb dX0_minutesAt_3 hl (by decide) rfl (fun ls hl => ?_)
  obtain ⟨n_1, hd⟩ := hd
  exact bl_X0_minutesAt_5 C0 hret _ _ _ _ _ _ _ _ _ hP hS hd (lv_sub hl [2, 3, 4, 1, 0] rfl)
theorem c_X0_minutesAt (l : Launch) {D : va_G} {cA : Nat → ClassId} {h : Nat → Nat} (hk : ky keysC h) {x1 : Int32} {x2 : Int32} {S : sT} (sz : Nat) {Q : Int32 → sT → Prop} (hd : wp_X0_minutesAt x1 x2 S Q) : Met l yX0_minutesAt (wsU yX0_minutesAt cX0_minutesAt 5 (some .int)) rm_X0_minutesAt (va_Pc [.ref (h 1009), .int x1, .int x2] (gP D cA true keysC h (wC h cA) S sz)) (va_Qi Q (wB D (wC h cA)) (aK keysC h sz)) 0 0 (aK keysC h sz) :=
  mk_i (by decide) hk (Nat.le_of_ble_eq_true rfl) (fun p e s m below meth c Z ls C0 hret hP hS hl => bk_X0_minutesAt C0 hret hP hS hd hl)
abbrev rm_X0_ride : Room := { frames := 2, cells := 0, slots := 0, locals := 46 }
def wb_X0_ride_72 (Q : Int32 → sT → Prop) (K20 : Int32 → Int32 → Int32 → sT → Prop) (x1 : Int32) (x3 : Int32) (x4 : Int32) (S : sT) : Prop :=
  (vp_in (x4 + (1 : Int32)) 61) ∧ K20 x1 x3 (x4 + (1 : Int32)) (uA S 113 (upd (vA S 113) (x4 + (1 : Int32)).toNatClampNeg x3))
set_option maxHeartbeats 4000000 in
set_option maxRecDepth 100000 in
theorem bk_X0_ride_72 {p : Program} {l : Launch} {e : Env} {s : State} {m : MethodId} {args : Array Value} {below : List Frame} {meth : Method} {c : Code} {Z : State → Prop} {D : va_G} {cA : Nat → ClassId} {h : Nat → Nat} {Q : Int32 → sT → Prop} (C0 : cx p s m args c cX0_ride 6 RX0 D cA true keysC h) (hret : rtI p l e rm_X0_ride s m args below meth c cX0_ride Z D (wC h cA) (aK keysC h s.heap.size) Q) {K20 : Int32 → Int32 → Int32 → sT → Prop} (k20 : ∀ (x1 : Int32) (x3 : Int32) (x4 : Int32) (S : sT) (H : Heap) (locs : List Loc) (ls : Array Slot), K20 x1 x3 x4 S → va_P D vwCl (wC h cA S) H → va_S (aK keysC h s.heap.size) s.heap H locs → lv_has ls 6 [(0, .ref (h 1009)), (1, .int x1), (3, .int x3), (4, .int x4)] → W p l e rm_X0_ride s m args below meth c H locs 0 0 Z (F0 m 20 ls [])) {x1 : Int32} {x3 : Int32} {x4 : Int32} {S : sT} {H : Heap} {locs : List Loc} {ls : Array Slot} (hP : va_P D vwCl (wC h cA S) H) (hS : va_S (aK keysC h s.heap.size) s.heap H locs) (hd : wb_X0_ride_72 Q K20 x1 x3 x4 S) (hl : lv_has ls 6 [(0, .ref (h 1009)), (1, .int x1), (3, .int x3), (4, .int x4)]) : W p l e rm_X0_ride s m args below meth c H locs 0 0 Z (F0 m 72 ls []) := by
  obtain ⟨⟨hx, hb, hml, hown, hts⟩, hK, -, -⟩ := id C0
  unfold wb_X0_ride_72 at hd
  refine lv_aload_n hx hb dX0_ride_72 rfl (lv_at hl 0 rfl) ?_
  refine gf_X0_22 C0 hP dX0_ride_73 ?_
  refine lv_iload hx hb dX0_ride_76 (lv_at hl 3 rfl) ?_
  refine lv_iconst (v := 1) hx hb dX0_ride_78 (by decide) ?_
  refine lv_iadd hx hb dX0_ride_79 ?_
  refine lv_iload_n hx hb dX0_ride_80 rfl (lv_at hl 2 rfl) ?_
  obtain ⟨h_1, hd⟩ := hd
  refine stC (by decide) C0 hP hS h_1 dX0_ride_81 (fun H locs hP hS => ?_)
  refine lv_iinc (v := x4 + (1 : Int32)) (lv' := [(4, .int (x4 + (1 : Int32))), (0, .ref (h 1009)), (1, .int x1), (3, .int x3)]) hx hb dX0_ride_82 hl (k := 3) rfl rfl (by decide) rfl (fun ls hl => ?_)
  refine lv_goto (tgt := 20) hx hb dX0_ride_85 (by decide) ?_
  exact k20 _ _ _ _ _ _ _ hd hP hS (lv_sub hl [1, 2, 3, 0] rfl)
def wb_X0_ride_62 (Q : Int32 → sT → Prop) (K20 : Int32 → Int32 → Int32 → sT → Prop) (x1 : Int32) (x3 : Int32) (x4 : Int32) (y0 : Int32) (S : sT) : Prop :=
  ((¬ y0 = 0 → wb_X0_ride_72 Q K20 x1 x3 x4 S) ∧ (y0 = 0 → wb_X0_ride_72 Q K20 x1 (x3 + (1 : Int32)) x4 S))
set_option maxHeartbeats 4000000 in
set_option maxRecDepth 100000 in
theorem bk_X0_ride_62 {p : Program} {l : Launch} {e : Env} {s : State} {m : MethodId} {args : Array Value} {below : List Frame} {meth : Method} {c : Code} {Z : State → Prop} {D : va_G} {cA : Nat → ClassId} {h : Nat → Nat} {Q : Int32 → sT → Prop} (C0 : cx p s m args c cX0_ride 6 RX0 D cA true keysC h) (hret : rtI p l e rm_X0_ride s m args below meth c cX0_ride Z D (wC h cA) (aK keysC h s.heap.size) Q) {K20 : Int32 → Int32 → Int32 → sT → Prop} (k20 : ∀ (x1 : Int32) (x3 : Int32) (x4 : Int32) (S : sT) (H : Heap) (locs : List Loc) (ls : Array Slot), K20 x1 x3 x4 S → va_P D vwCl (wC h cA S) H → va_S (aK keysC h s.heap.size) s.heap H locs → lv_has ls 6 [(0, .ref (h 1009)), (1, .int x1), (3, .int x3), (4, .int x4)] → W p l e rm_X0_ride s m args below meth c H locs 0 0 Z (F0 m 20 ls [])) {x1 : Int32} {x3 : Int32} {x4 : Int32} {y0 : Int32} {S : sT} {H : Heap} {locs : List Loc} {ls : Array Slot} (hP : va_P D vwCl (wC h cA S) H) (hS : va_S (aK keysC h s.heap.size) s.heap H locs) (hd : wb_X0_ride_62 Q K20 x1 x3 x4 y0 S) (hl : lv_has ls 6 [(0, .ref (h 1009)), (1, .int x1), (3, .int x3), (4, .int x4)]) : W p l e rm_X0_ride s m args below meth c H locs 0 0 Z (F0 m 62 ls [.int y0]) := by
  obtain ⟨⟨hx, hb, hml, hown, hts⟩, hK, -, -⟩ := id C0
  unfold wb_X0_ride_62 at hd
  refine lv_istore (lv' := [(5, .int y0), (0, .ref (h 1009)), (1, .int x1), (3, .int x3), (4, .int x4)]) hx hb dX0_ride_62 hl (by decide) rfl (fun ls hl => ?_)
  refine lv_iload hx hb dX0_ride_64 (lv_at hl 0 rfl) ?_
  refine lv_if_ne (tgt := 72) hx hb dX0_ride_66 (by decide) (fun hc => ?_) (fun hc => ?_)
  · have hd := hd.1 hc
    exact bk_X0_ride_72 C0 hret k20 hP hS hd (lv_sub hl [1, 2, 3, 4] rfl)
  · have hd := hd.2 hc
    refine lv_iinc (v := x3 + (1 : Int32)) (lv' := [(3, .int (x3 + (1 : Int32))), (5, .int y0), (0, .ref (h 1009)), (1, .int x1), (4, .int x4)]) hx hb dX0_ride_69 hl (k := 3) rfl rfl (by decide) rfl (fun ls hl => ?_)
    exact bk_X0_ride_72 C0 hret k20 hP hS hd (lv_sub hl [2, 3, 0, 4] rfl)
def wb_X0_ride_57 (Q : Int32 → sT → Prop) (K20 : Int32 → Int32 → Int32 → sT → Prop) (x1 : Int32) (x3 : Int32) (x4 : Int32) (S : sT) : Prop :=
  wb_X0_ride_62 Q K20 x1 x3 x4 (1 : Int32) S
set_option maxHeartbeats 4000000 in
set_option maxRecDepth 100000 in
theorem bk_X0_ride_57 {p : Program} {l : Launch} {e : Env} {s : State} {m : MethodId} {args : Array Value} {below : List Frame} {meth : Method} {c : Code} {Z : State → Prop} {D : va_G} {cA : Nat → ClassId} {h : Nat → Nat} {Q : Int32 → sT → Prop} (C0 : cx p s m args c cX0_ride 6 RX0 D cA true keysC h) (hret : rtI p l e rm_X0_ride s m args below meth c cX0_ride Z D (wC h cA) (aK keysC h s.heap.size) Q) {K20 : Int32 → Int32 → Int32 → sT → Prop} (k20 : ∀ (x1 : Int32) (x3 : Int32) (x4 : Int32) (S : sT) (H : Heap) (locs : List Loc) (ls : Array Slot), K20 x1 x3 x4 S → va_P D vwCl (wC h cA S) H → va_S (aK keysC h s.heap.size) s.heap H locs → lv_has ls 6 [(0, .ref (h 1009)), (1, .int x1), (3, .int x3), (4, .int x4)] → W p l e rm_X0_ride s m args below meth c H locs 0 0 Z (F0 m 20 ls [])) {x1 : Int32} {x3 : Int32} {x4 : Int32} {S : sT} {H : Heap} {locs : List Loc} {ls : Array Slot} (hP : va_P D vwCl (wC h cA S) H) (hS : va_S (aK keysC h s.heap.size) s.heap H locs) (hd : wb_X0_ride_57 Q K20 x1 x3 x4 S) (hl : lv_has ls 6 [(0, .ref (h 1009)), (1, .int x1), (3, .int x3), (4, .int x4)]) : W p l e rm_X0_ride s m args below meth c H locs 0 0 Z (F0 m 57 ls []) := by
  obtain ⟨⟨hx, hb, hml, hown, hts⟩, hK, -, -⟩ := id C0
  unfold wb_X0_ride_57 at hd
  refine lv_iconst (v := 1) hx hb dX0_ride_57 (by decide) ?_
  refine lv_goto (tgt := 62) hx hb dX0_ride_58 (by decide) ?_
  exact bk_X0_ride_62 C0 hret k20 hP hS hd (lv_sub hl [0, 1, 2, 3] rfl)
def wb_X0_ride_20 (Q : Int32 → sT → Prop) (K20 : Int32 → Int32 → Int32 → sT → Prop) (x1 : Int32) (x3 : Int32) (x4 : Int32) (S : sT) : Prop :=
  ((x1 ≤ x4 → Q x3 S) ∧ (¬ x1 ≤ x4 → (((60 : Int32) ≤ x4 → Q x3 S) ∧ (¬ (60 : Int32) ≤ x4 → (((vI S 115) ≤ x3 → wb_X0_ride_57 Q K20 x1 x3 x4 S) ∧ (¬ (vI S 115) ≤ x3 → (vp_in x3 21) ∧ (((lg_cmp ((((vB S 112 x3.toNatClampNeg).toUInt64 >>> (x4.toInt64.toUInt64 &&& Int64.toUInt64 63)).toInt64) &&& (1 : Int64)) (0 : Int64)) = 0 → wb_X0_ride_62 Q K20 x1 x3 x4 (0 : Int32) S) ∧ (¬ (lg_cmp ((((vB S 112 x3.toNatClampNeg).toUInt64 >>> (x4.toInt64.toUInt64 &&& Int64.toUInt64 63)).toInt64) &&& (1 : Int64)) (0 : Int64)) = 0 → wb_X0_ride_57 Q K20 x1 x3 x4 S))))))))
set_option maxHeartbeats 4000000 in
set_option maxRecDepth 100000 in
theorem bk_X0_ride_20 {p : Program} {l : Launch} {e : Env} {s : State} {m : MethodId} {args : Array Value} {below : List Frame} {meth : Method} {c : Code} {Z : State → Prop} {D : va_G} {cA : Nat → ClassId} {h : Nat → Nat} {Q : Int32 → sT → Prop} (C0 : cx p s m args c cX0_ride 6 RX0 D cA true keysC h) (hret : rtI p l e rm_X0_ride s m args below meth c cX0_ride Z D (wC h cA) (aK keysC h s.heap.size) Q) {K20 : Int32 → Int32 → Int32 → sT → Prop} (k20 : ∀ (x1 : Int32) (x3 : Int32) (x4 : Int32) (S : sT) (H : Heap) (locs : List Loc) (ls : Array Slot), K20 x1 x3 x4 S → va_P D vwCl (wC h cA S) H → va_S (aK keysC h s.heap.size) s.heap H locs → lv_has ls 6 [(0, .ref (h 1009)), (1, .int x1), (3, .int x3), (4, .int x4)] → W p l e rm_X0_ride s m args below meth c H locs 0 0 Z (F0 m 20 ls [])) {x1 : Int32} {x3 : Int32} {x4 : Int32} {S : sT} {H : Heap} {locs : List Loc} {ls : Array Slot} (hP : va_P D vwCl (wC h cA S) H) (hS : va_S (aK keysC h s.heap.size) s.heap H locs) (hd : wb_X0_ride_20 Q K20 x1 x3 x4 S) (hl : lv_has ls 6 [(0, .ref (h 1009)), (1, .int x1), (3, .int x3), (4, .int x4)]) : W p l e rm_X0_ride s m args below meth c H locs 0 0 Z (F0 m 20 ls []) := by
  obtain ⟨⟨hx, hb, hml, hown, hts⟩, hK, -, -⟩ := id C0
  unfold wb_X0_ride_20 at hd
  refine lv_iload hx hb dX0_ride_20 (lv_at hl 3 rfl) ?_
  refine lv_iload_n hx hb dX0_ride_22 rfl (lv_at hl 1 rfl) ?_
  refine lv_icmp_ge (tgt := 88) hx hb dX0_ride_23 (by decide) (fun hc => ?_) (fun hc => ?_)
  · have hd := hd.1 hc
    refine lv_iload_n hx hb dX0_ride_88 rfl (lv_at hl 2 rfl) ?_
    exact hret _ _ _ _ _ _ hd hP hS dX0_ride_89
  · have hd := hd.2 hc
    refine lv_iload hx hb dX0_ride_26 (lv_at hl 3 rfl) ?_
    refine lv_bipush (v := 60) hx hb dX0_ride_28 (by decide) ?_
    refine lv_icmp_ge (tgt := 88) hx hb dX0_ride_30 (by decide) (fun hc => ?_) (fun hc => ?_)
    · have hd := hd.1 hc
      refine lv_iload_n hx hb dX0_ride_88 rfl (lv_at hl 2 rfl) ?_
      exact hret _ _ _ _ _ _ hd hP hS dX0_ride_89
    · have hd := hd.2 hc
      refine lv_iload_n hx hb dX0_ride_33 rfl (lv_at hl 2 rfl) ?_
      refine lv_aload_n hx hb dX0_ride_34 rfl (lv_at hl 0 rfl) ?_
      refine gf_X0_35 C0 hP dX0_ride_35 ?_
      refine lv_icmp_ge (tgt := 57) hx hb dX0_ride_38 (by decide) (fun hc => ?_) (fun hc => ?_)
      · have hd := hd.1 hc
        exact bk_X0_ride_57 C0 hret k20 hP hS hd (lv_sub hl [0, 1, 2, 3] rfl)
      · have hd := hd.2 hc
        refine lv_aload_n hx hb dX0_ride_41 rfl (lv_at hl 0 rfl) ?_
        refine gf_X0_19 C0 hP dX0_ride_42 ?_
        refine lv_iload_n hx hb dX0_ride_45 rfl (lv_at hl 2 rfl) ?_
        obtain ⟨h_1, hd⟩ := hd
        refine ldL (by decide) C0 hP h_1 dX0_ride_46 ?_
        refine lv_iload hx hb dX0_ride_47 (lv_at hl 3 rfl) ?_
        refine lv_lushr hx hb dX0_ride_49 rfl ?_
        refine lv_lconst (v := 1) hx hb dX0_ride_50 (by decide) ?_
        refine lv_land hx hb dX0_ride_51 ?_
        refine lv_lconst (v := 0) hx hb dX0_ride_52 (by decide) ?_
        refine W.lcmp hx hb dX0_ride_53 ?_
        refine lv_if_eq (tgt := 61) hx hb dX0_ride_54 (by decide) (fun hc => ?_) (fun hc => ?_)
        · have hd := hd.1 hc
          refine lv_iconst (v := 0) hx hb dX0_ride_61 (by decide) ?_
          exact bk_X0_ride_62 C0 hret k20 hP hS hd (lv_sub hl [0, 1, 2, 3] rfl)
        · have hd := hd.2 hc
          exact bk_X0_ride_57 C0 hret k20 hP hS hd (lv_sub hl [0, 1, 2, 3] rfl)
def wl_X0_ride_20 (Q : Int32 → sT → Prop) : Nat → Int32 → Int32 → Int32 → sT → Prop
  | 0, _, _, _ => fun _ => False
  | n + 1, x1, x3, x4 => fun S => wb_X0_ride_20 Q (fun x1 x3 x4 S => wl_X0_ride_20 Q n x1 x3 x4 S) x1 x3 x4 S
theorem bl_X0_ride_20 {p : Program} {l : Launch} {e : Env} {s : State} {m : MethodId} {args : Array Value} {below : List Frame} {meth : Method} {c : Code} {Z : State → Prop} {D : va_G} {cA : Nat → ClassId} {h : Nat → Nat} {Q : Int32 → sT → Prop} (C0 : cx p s m args c cX0_ride 6 RX0 D cA true keysC h) (hret : rtI p l e rm_X0_ride s m args below meth c cX0_ride Z D (wC h cA) (aK keysC h s.heap.size) Q) : ∀ (n : Nat) (x1 : Int32) (x3 : Int32) (x4 : Int32) (S : sT) (H : Heap) (locs : List Loc) (ls : Array Slot), va_P D vwCl (wC h cA S) H → va_S (aK keysC h s.heap.size) s.heap H locs → wl_X0_ride_20 Q n x1 x3 x4 S → lv_has ls 6 [(0, .ref (h 1009)), (1, .int x1), (3, .int x3), (4, .int x4)] → W p l e rm_X0_ride s m args below meth c H locs 0 0 Z (F0 m 20 ls []) := by
  intro n
  induction n with
  | zero => intro x1 x3 x4 S H locs ls hP hS hd hl; exact (show False from hd).elim
  | succ n ih => intro x1 x3 x4 S H locs ls hP hS hd hl; exact bk_X0_ride_20 C0 hret (fun x1 x3 x4 S H locs ls hd hP hS hl => ih x1 x3 x4 S H locs ls hP hS hd hl) hP hS hd hl
def wp_X0_ride (x1 : Int32) (x2 : Int32) (S : sT) (Q : Int32 → sT → Prop) : Prop :=
  wp_X0_gatherStands x2 S (fun S_1 => (vp_in (0 : Int32) 61) ∧ ∃ n : Nat, wl_X0_ride_20 Q n x1 (vI S_1 116) (0 : Int32) (uA S_1 113 (upd (vA S_1 113) (0 : Int32).toNatClampNeg (vI S_1 116))))
set_option maxHeartbeats 4000000 in
set_option maxRecDepth 100000 in
theorem bk_X0_ride {p : Program} {l : Launch} {e : Env} {s : State} {m : MethodId} {args : Array Value} {below : List Frame} {meth : Method} {c : Code} {Z : State → Prop} {D : va_G} {cA : Nat → ClassId} {h : Nat → Nat} {Q : Int32 → sT → Prop} (C0 : cx p s m args c cX0_ride 6 RX0 D cA true keysC h) (hret : rtI p l e rm_X0_ride s m args below meth c cX0_ride Z D (wC h cA) (aK keysC h s.heap.size) Q) {x1 : Int32} {x2 : Int32} {S : sT} {H : Heap} {locs : List Loc} {ls : Array Slot} (hP : va_P D vwCl (wC h cA S) H) (hS : va_S (aK keysC h s.heap.size) s.heap H locs) (hd : wp_X0_ride x1 x2 S Q) (hl : lv_has ls 6 [(0, .ref (h 1009)), (1, .int x1), (2, .int x2)]) : W p l e rm_X0_ride s m args below meth c H locs 0 0 Z (F0 m 0 ls []) := by
  obtain ⟨⟨hx, hb, hml, hown, hts⟩, hK, -, -⟩ := id C0
  unfold wp_X0_ride at hd
  refine lv_aload_n hx hb dX0_ride_0 rfl (lv_at hl 0 rfl) ?_
  refine lv_iload_n hx hb dX0_ride_1 rfl (lv_at hl 2 rfl) ?_
  refine cl_Vv (n := 1) (rest := []) C0 hP hS (c_X0_gatherStands l C0.2.2.1 _ hd) (lwG_V lm_X0_56 li_X0_gatherStands lx_X0_gatherStands lz_RX0 lc_X0_gatherStands) (by decide +kernel) (oJ_at h cA _) rfl rfl rfl (Nat.le_of_ble_eq_true rfl) ⟨rfl, rfl⟩ ⟨by decide, by decide⟩ dX0_ride_2 hl.1 ⟨Nat.zero_le _, Nat.zero_le _⟩ (fun S_1 H locs hd hP hS => ?_)
  refine lv_aload_n hx hb dX0_ride_5 rfl (lv_at hl 0 rfl) ?_
  refine gf_X0_39 C0 hP dX0_ride_6 ?_
  refine lv_istore_n (lv' := [(3, .int (vI S_1 116)), (0, .ref (h 1009)), (1, .int x1), (2, .int x2)]) hx hb dX0_ride_9 rfl hl (by decide) rfl (fun ls hl => ?_)
  refine lv_aload_n hx hb dX0_ride_10 rfl (lv_at hl 1 rfl) ?_
  refine gf_X0_22 C0 hP dX0_ride_11 ?_
  refine lv_iconst (v := 0) hx hb dX0_ride_14 (by decide) ?_
  refine lv_iload_n hx hb dX0_ride_15 rfl (lv_at hl 0 rfl) ?_
  obtain ⟨h_2, hd⟩ := hd
  refine stC (by decide) C0 hP hS h_2 dX0_ride_16 (fun H locs hP hS => ?_)
  refine lv_iconst (v := 0) hx hb dX0_ride_17 (by decide) ?_
  refine lv_istore (lv' := [(4, .int (0 : Int32)), (3, .int (vI S_1 116)), (0, .ref (h 1009)), (1, .int x1), (2, .int x2)]) hx hb dX0_ride_18 hl (by decide) rfl (fun ls hl => ?_)
  obtain ⟨n_3, hd⟩ := hd
  exact bl_X0_ride_20 C0 hret _ _ _ _ _ _ _ _ hP hS hd (lv_sub hl [2, 3, 1, 0] rfl)
theorem c_X0_ride (l : Launch) {D : va_G} {cA : Nat → ClassId} {h : Nat → Nat} (hk : ky keysC h) {x1 : Int32} {x2 : Int32} {S : sT} (sz : Nat) {Q : Int32 → sT → Prop} (hd : wp_X0_ride x1 x2 S Q) : Met l yX0_ride (wsU yX0_ride cX0_ride 6 (some .int)) rm_X0_ride (va_Pc [.ref (h 1009), .int x1, .int x2] (gP D cA true keysC h (wC h cA) S sz)) (va_Qi Q (wB D (wC h cA)) (aK keysC h sz)) 0 0 (aK keysC h sz) :=
  mk_i (by decide) hk (Nat.le_of_ble_eq_true rfl) (fun p e s m below meth c Z ls C0 hret hP hS hl => bk_X0_ride C0 hret hP hS hd hl)
abbrev rm_X4_wouldDream : Room := { frames := 0, cells := 0, slots := 0, locals := 0 }
def wb_X4_wouldDream_49 (Q : Int32 → sT → Prop) (x0 : Int32) (x1 : Int32) (x2 : Int32) (x4 : Int32) (x5 : Int32) (y0 : Int32) (S : sT) : Prop :=
  ((x0 = (1 : Int32) → bo x5 ∧ Q x5 S) ∧ (x0 = (2 : Int32) → bo y0 ∧ Q y0 S) ∧ (x0 = (3 : Int32) → ((x4 = 0 → Q (0 : Int32) S) ∧ (¬ x4 = 0 → ((x2 < (20 : Int32) → Q (0 : Int32) S) ∧ (¬ x2 < (20 : Int32) → Q (1 : Int32) S))))) ∧ (x0 = (4 : Int32) → ((¬ x5 = 0 → Q (1 : Int32) S) ∧ (x5 = 0 → ((x2 < (30 : Int32) → Q (0 : Int32) S) ∧ (¬ x2 < (30 : Int32) → Q (1 : Int32) S))))) ∧ (x0 = (5 : Int32) → ((y0 = 0 → Q (0 : Int32) S) ∧ (¬ y0 = 0 → ((¬ (x1 - x1 / (2 : Int32) * (2 : Int32)) = 0 → Q (0 : Int32) S) ∧ ((x1 - x1 / (2 : Int32) * (2 : Int32)) = 0 → Q (1 : Int32) S))))) ∧ (¬ x0 = (1 : Int32) → ¬ x0 = (2 : Int32) → ¬ x0 = (3 : Int32) → ¬ x0 = (4 : Int32) → ¬ x0 = (5 : Int32) → bo x4 ∧ Q x4 S))
set_option maxHeartbeats 4000000 in
set_option maxRecDepth 100000 in
theorem bk_X4_wouldDream_49 {p : Program} {l : Launch} {e : Env} {s : State} {m : MethodId} {args : Array Value} {below : List Frame} {meth : Method} {c : Code} {Z : State → Prop} {D : va_G} {cA : Nat → ClassId} {h : Nat → Nat} {Q : Int32 → sT → Prop} (C0 : cx p s m args c cX4_wouldDream 7 RX4 D cA true keysC h) (hret : rtZ p l e rm_X4_wouldDream s m args below meth c cX4_wouldDream Z D (wC h cA) (aK keysC h s.heap.size) Q) {x0 : Int32} {x1 : Int32} {x2 : Int32} {x4 : Int32} {x5 : Int32} {y0 : Int32} {S : sT} {H : Heap} {locs : List Loc} {ls : Array Slot} (hP : va_P D vwCl (wC h cA S) H) (hS : va_S (aK keysC h s.heap.size) s.heap H locs) (hd : wb_X4_wouldDream_49 Q x0 x1 x2 x4 x5 y0 S) (hl : lv_has ls 7 [(0, .int x0), (1, .int x1), (2, .int x2), (4, .int x4), (5, .int x5)]) : W p l e rm_X4_wouldDream s m args below meth c H locs 0 0 Z (F0 m 49 ls [.int y0]) := by
  obtain ⟨⟨hx, hb, hml, hown, hts⟩, hK, -, -⟩ := id C0
  unfold wb_X4_wouldDream_49 at hd
  refine lv_istore (lv' := [(6, .int y0), (0, .int x0), (1, .int x1), (2, .int x2), (4, .int x4), (5, .int x5)]) hx hb dX4_wouldDream_49 hl (by decide) rfl (fun ls hl => ?_)
  refine lv_iload_n hx hb dX4_wouldDream_51 rfl (lv_at hl 1 rfl) ?_
  by_cases hq1 : x0 = (1 : Int32)
  · have hd := hd.1 hq1
    refine lv_tableIn (off := 36) (tgt := 88) hx hb dX4_wouldDream_52 (by rw [hq1]; decide) (by rw [hq1]; decide) (by rw [hq1]; decide) (by decide) ?_
    refine lv_iload hx hb dX4_wouldDream_88 (lv_at hl 5 rfl) ?_
    exact hret _ _ _ _ _ _ hd.1 hd.2 hP hS dX4_wouldDream_90
  by_cases hq2 : x0 = (2 : Int32)
  · have hd := hd.2.1 hq2
    refine lv_tableIn (off := 39) (tgt := 91) hx hb dX4_wouldDream_52 (by rw [hq2]; decide) (by rw [hq2]; decide) (by rw [hq2]; decide) (by decide) ?_
    refine lv_iload hx hb dX4_wouldDream_91 (lv_at hl 0 rfl) ?_
    exact hret _ _ _ _ _ _ hd.1 hd.2 hP hS dX4_wouldDream_93
  by_cases hq3 : x0 = (3 : Int32)
  · have hd := hd.2.2.1 hq3
    refine lv_tableIn (off := 42) (tgt := 94) hx hb dX4_wouldDream_52 (by rw [hq3]; decide) (by rw [hq3]; decide) (by rw [hq3]; decide) (by decide) ?_
    refine lv_iload hx hb dX4_wouldDream_94 (lv_at hl 4 rfl) ?_
    refine lv_if_eq (tgt := 109) hx hb dX4_wouldDream_96 (by decide) (fun hc => ?_) (fun hc => ?_)
    · have hd := hd.1 hc
      refine lv_iconst (v := 0) hx hb dX4_wouldDream_109 (by decide) ?_
      exact hret _ _ _ _ _ _ rfl hd hP hS dX4_wouldDream_110
    · have hd := hd.2 hc
      refine lv_iload_n hx hb dX4_wouldDream_99 rfl (lv_at hl 3 rfl) ?_
      refine lv_bipush (v := 20) hx hb dX4_wouldDream_100 (by decide) ?_
      refine lv_icmp_lt (tgt := 109) hx hb dX4_wouldDream_102 (by decide) (fun hc => ?_) (fun hc => ?_)
      · have hd := hd.1 hc
        refine lv_iconst (v := 0) hx hb dX4_wouldDream_109 (by decide) ?_
        exact hret _ _ _ _ _ _ rfl hd hP hS dX4_wouldDream_110
      · have hd := hd.2 hc
        refine lv_iconst (v := 1) hx hb dX4_wouldDream_105 (by decide) ?_
        refine lv_goto (tgt := 110) hx hb dX4_wouldDream_106 (by decide) ?_
        exact hret _ _ _ _ _ _ rfl hd hP hS dX4_wouldDream_110
  by_cases hq4 : x0 = (4 : Int32)
  · have hd := hd.2.2.2.1 hq4
    refine lv_tableIn (off := 59) (tgt := 111) hx hb dX4_wouldDream_52 (by rw [hq4]; decide) (by rw [hq4]; decide) (by rw [hq4]; decide) (by decide) ?_
    refine lv_iload hx hb dX4_wouldDream_111 (lv_at hl 5 rfl) ?_
    refine lv_if_ne (tgt := 122) hx hb dX4_wouldDream_113 (by decide) (fun hc => ?_) (fun hc => ?_)
    · have hd := hd.1 hc
      refine lv_iconst (v := 1) hx hb dX4_wouldDream_122 (by decide) ?_
      refine lv_goto (tgt := 127) hx hb dX4_wouldDream_123 (by decide) ?_
      exact hret _ _ _ _ _ _ rfl hd hP hS dX4_wouldDream_127
    · have hd := hd.2 hc
      refine lv_iload_n hx hb dX4_wouldDream_116 rfl (lv_at hl 3 rfl) ?_
      refine lv_bipush (v := 30) hx hb dX4_wouldDream_117 (by decide) ?_
      refine lv_icmp_lt (tgt := 126) hx hb dX4_wouldDream_119 (by decide) (fun hc => ?_) (fun hc => ?_)
      · have hd := hd.1 hc
        refine lv_iconst (v := 0) hx hb dX4_wouldDream_126 (by decide) ?_
        exact hret _ _ _ _ _ _ rfl hd hP hS dX4_wouldDream_127
      · have hd := hd.2 hc
        refine lv_iconst (v := 1) hx hb dX4_wouldDream_122 (by decide) ?_
        refine lv_goto (tgt := 127) hx hb dX4_wouldDream_123 (by decide) ?_
        exact hret _ _ _ _ _ _ rfl hd hP hS dX4_wouldDream_127
  by_cases hq5 : x0 = (5 : Int32)
  · have hd := hd.2.2.2.2.1 hq5
    refine lv_tableIn (off := 76) (tgt := 128) hx hb dX4_wouldDream_52 (by rw [hq5]; decide) (by rw [hq5]; decide) (by rw [hq5]; decide) (by decide) ?_
    refine lv_iload hx hb dX4_wouldDream_128 (lv_at hl 0 rfl) ?_
    refine lv_if_eq (tgt := 143) hx hb dX4_wouldDream_130 (by decide) (fun hc => ?_) (fun hc => ?_)
    · have hd := hd.1 hc
      refine lv_iconst (v := 0) hx hb dX4_wouldDream_143 (by decide) ?_
      exact hret _ _ _ _ _ _ rfl hd hP hS dX4_wouldDream_144
    · have hd := hd.2 hc
      refine lv_iload_n hx hb dX4_wouldDream_133 rfl (lv_at hl 2 rfl) ?_
      refine lv_iconst (v := 2) hx hb dX4_wouldDream_134 (by decide) ?_
      refine lv_irem hx hb dX4_wouldDream_135 (by decide) ?_
      refine lv_if_ne (tgt := 143) hx hb dX4_wouldDream_136 (by decide) (fun hc => ?_) (fun hc => ?_)
      · have hd := hd.1 hc
        refine lv_iconst (v := 0) hx hb dX4_wouldDream_143 (by decide) ?_
        exact hret _ _ _ _ _ _ rfl hd hP hS dX4_wouldDream_144
      · have hd := hd.2 hc
        refine lv_iconst (v := 1) hx hb dX4_wouldDream_139 (by decide) ?_
        refine lv_goto (tgt := 144) hx hb dX4_wouldDream_140 (by decide) ?_
        exact hret _ _ _ _ _ _ rfl hd hP hS dX4_wouldDream_144
  have hd := hd.2.2.2.2.2 hq1 hq2 hq3 hq4 hq5
  refine lv_tableOut (tgt := 145) hx hb dX4_wouldDream_52 (sw_out 1 5 (by decide) (by decide) (fun v h1 h2 => by rcases (show v = 1 ∨ v = 2 ∨ v = 3 ∨ v = 4 ∨ v = 5 by omega) with rfl | rfl | rfl | rfl | rfl <;> assumption)) (by decide) ?_
  refine lv_iload hx hb dX4_wouldDream_145 (lv_at hl 4 rfl) ?_
  exact hret _ _ _ _ _ _ hd.1 hd.2 hP hS dX4_wouldDream_147
def wb_X4_wouldDream_44 (Q : Int32 → sT → Prop) (x0 : Int32) (x1 : Int32) (x2 : Int32) (x4 : Int32) (x5 : Int32) (S : sT) : Prop :=
  wb_X4_wouldDream_49 Q x0 x1 x2 x4 x5 (1 : Int32) S
set_option maxHeartbeats 4000000 in
set_option maxRecDepth 100000 in
theorem bk_X4_wouldDream_44 {p : Program} {l : Launch} {e : Env} {s : State} {m : MethodId} {args : Array Value} {below : List Frame} {meth : Method} {c : Code} {Z : State → Prop} {D : va_G} {cA : Nat → ClassId} {h : Nat → Nat} {Q : Int32 → sT → Prop} (C0 : cx p s m args c cX4_wouldDream 7 RX4 D cA true keysC h) (hret : rtZ p l e rm_X4_wouldDream s m args below meth c cX4_wouldDream Z D (wC h cA) (aK keysC h s.heap.size) Q) {x0 : Int32} {x1 : Int32} {x2 : Int32} {x4 : Int32} {x5 : Int32} {S : sT} {H : Heap} {locs : List Loc} {ls : Array Slot} (hP : va_P D vwCl (wC h cA S) H) (hS : va_S (aK keysC h s.heap.size) s.heap H locs) (hd : wb_X4_wouldDream_44 Q x0 x1 x2 x4 x5 S) (hl : lv_has ls 7 [(0, .int x0), (1, .int x1), (2, .int x2), (4, .int x4), (5, .int x5)]) : W p l e rm_X4_wouldDream s m args below meth c H locs 0 0 Z (F0 m 44 ls []) := by
  obtain ⟨⟨hx, hb, hml, hown, hts⟩, hK, -, -⟩ := id C0
  unfold wb_X4_wouldDream_44 at hd
  refine lv_iconst (v := 1) hx hb dX4_wouldDream_44 (by decide) ?_
  refine lv_goto (tgt := 49) hx hb dX4_wouldDream_45 (by decide) ?_
  exact bk_X4_wouldDream_49 C0 hret hP hS hd (lv_sub hl [0, 1, 2, 3, 4] rfl)
def wb_X4_wouldDream_29 (Q : Int32 → sT → Prop) (x0 : Int32) (x1 : Int32) (x2 : Int32) (x4 : Int32) (y0 : Int32) (S : sT) : Prop :=
  ((¬ x4 = 0 → wb_X4_wouldDream_44 Q x0 x1 x2 x4 y0 S) ∧ (x4 = 0 → ((¬ ((x2 + x1) - (x2 + x1) / (5 : Int32) * (5 : Int32)) = 0 → wb_X4_wouldDream_49 Q x0 x1 x2 x4 y0 (0 : Int32) S) ∧ (((x2 + x1) - (x2 + x1) / (5 : Int32) * (5 : Int32)) = 0 → wb_X4_wouldDream_44 Q x0 x1 x2 x4 y0 S))))
set_option maxHeartbeats 4000000 in
set_option maxRecDepth 100000 in
theorem bk_X4_wouldDream_29 {p : Program} {l : Launch} {e : Env} {s : State} {m : MethodId} {args : Array Value} {below : List Frame} {meth : Method} {c : Code} {Z : State → Prop} {D : va_G} {cA : Nat → ClassId} {h : Nat → Nat} {Q : Int32 → sT → Prop} (C0 : cx p s m args c cX4_wouldDream 7 RX4 D cA true keysC h) (hret : rtZ p l e rm_X4_wouldDream s m args below meth c cX4_wouldDream Z D (wC h cA) (aK keysC h s.heap.size) Q) {x0 : Int32} {x1 : Int32} {x2 : Int32} {x4 : Int32} {y0 : Int32} {S : sT} {H : Heap} {locs : List Loc} {ls : Array Slot} (hP : va_P D vwCl (wC h cA S) H) (hS : va_S (aK keysC h s.heap.size) s.heap H locs) (hd : wb_X4_wouldDream_29 Q x0 x1 x2 x4 y0 S) (hl : lv_has ls 7 [(0, .int x0), (1, .int x1), (2, .int x2), (4, .int x4)]) : W p l e rm_X4_wouldDream s m args below meth c H locs 0 0 Z (F0 m 29 ls [.int y0]) := by
  obtain ⟨⟨hx, hb, hml, hown, hts⟩, hK, -, -⟩ := id C0
  unfold wb_X4_wouldDream_29 at hd
  refine lv_istore (lv' := [(5, .int y0), (0, .int x0), (1, .int x1), (2, .int x2), (4, .int x4)]) hx hb dX4_wouldDream_29 hl (by decide) rfl (fun ls hl => ?_)
  refine lv_iload hx hb dX4_wouldDream_31 (lv_at hl 4 rfl) ?_
  refine lv_if_ne (tgt := 44) hx hb dX4_wouldDream_33 (by decide) (fun hc => ?_) (fun hc => ?_)
  · have hd := hd.1 hc
    exact bk_X4_wouldDream_44 C0 hret hP hS hd (lv_sub hl [1, 2, 3, 4, 0] rfl)
  · have hd := hd.2 hc
    refine lv_iload_n hx hb dX4_wouldDream_36 rfl (lv_at hl 3 rfl) ?_
    refine lv_iload_n hx hb dX4_wouldDream_37 rfl (lv_at hl 2 rfl) ?_
    refine lv_iadd hx hb dX4_wouldDream_38 ?_
    refine lv_iconst (v := 5) hx hb dX4_wouldDream_39 (by decide) ?_
    refine lv_irem hx hb dX4_wouldDream_40 (by decide) ?_
    refine lv_if_ne (tgt := 48) hx hb dX4_wouldDream_41 (by decide) (fun hc => ?_) (fun hc => ?_)
    · have hd := hd.1 hc
      refine lv_iconst (v := 0) hx hb dX4_wouldDream_48 (by decide) ?_
      exact bk_X4_wouldDream_49 C0 hret hP hS hd (lv_sub hl [1, 2, 3, 4, 0] rfl)
    · have hd := hd.2 hc
      exact bk_X4_wouldDream_44 C0 hret hP hS hd (lv_sub hl [1, 2, 3, 4, 0] rfl)
def wb_X4_wouldDream_17 (Q : Int32 → sT → Prop) (x0 : Int32) (x1 : Int32) (x2 : Int32) (x3 : Int32) (y0 : Int32) (S : sT) : Prop :=
  (((3 : Int32) < x3 → wb_X4_wouldDream_29 Q x0 x1 x2 y0 (0 : Int32) S) ∧ (¬ (3 : Int32) < x3 → wb_X4_wouldDream_29 Q x0 x1 x2 y0 (1 : Int32) S))
set_option maxHeartbeats 4000000 in
set_option maxRecDepth 100000 in
theorem bk_X4_wouldDream_17 {p : Program} {l : Launch} {e : Env} {s : State} {m : MethodId} {args : Array Value} {below : List Frame} {meth : Method} {c : Code} {Z : State → Prop} {D : va_G} {cA : Nat → ClassId} {h : Nat → Nat} {Q : Int32 → sT → Prop} (C0 : cx p s m args c cX4_wouldDream 7 RX4 D cA true keysC h) (hret : rtZ p l e rm_X4_wouldDream s m args below meth c cX4_wouldDream Z D (wC h cA) (aK keysC h s.heap.size) Q) {x0 : Int32} {x1 : Int32} {x2 : Int32} {x3 : Int32} {y0 : Int32} {S : sT} {H : Heap} {locs : List Loc} {ls : Array Slot} (hP : va_P D vwCl (wC h cA S) H) (hS : va_S (aK keysC h s.heap.size) s.heap H locs) (hd : wb_X4_wouldDream_17 Q x0 x1 x2 x3 y0 S) (hl : lv_has ls 7 [(0, .int x0), (1, .int x1), (2, .int x2), (3, .int x3)]) : W p l e rm_X4_wouldDream s m args below meth c H locs 0 0 Z (F0 m 17 ls [.int y0]) := by
  obtain ⟨⟨hx, hb, hml, hown, hts⟩, hK, -, -⟩ := id C0
  unfold wb_X4_wouldDream_17 at hd
  refine lv_istore (lv' := [(4, .int y0), (0, .int x0), (1, .int x1), (2, .int x2), (3, .int x3)]) hx hb dX4_wouldDream_17 hl (by decide) rfl (fun ls hl => ?_)
  refine lv_iload_n hx hb dX4_wouldDream_19 rfl (lv_at hl 4 rfl) ?_
  refine lv_iconst (v := 3) hx hb dX4_wouldDream_20 (by decide) ?_
  refine lv_icmp_gt (tgt := 28) hx hb dX4_wouldDream_21 (by decide) (fun hc => ?_) (fun hc => ?_)
  · have hd := hd.1 hc
    refine lv_iconst (v := 0) hx hb dX4_wouldDream_28 (by decide) ?_
    exact bk_X4_wouldDream_29 C0 hret hP hS hd (lv_sub hl [1, 2, 3, 0] rfl)
  · have hd := hd.2 hc
    refine lv_iconst (v := 1) hx hb dX4_wouldDream_24 (by decide) ?_
    refine lv_goto (tgt := 29) hx hb dX4_wouldDream_25 (by decide) ?_
    exact bk_X4_wouldDream_29 C0 hret hP hS hd (lv_sub hl [1, 2, 3, 0] rfl)
def wp_X4_wouldDream (x0 : Int32) (x1 : Int32) (x2 : Int32) (S : sT) (Q : Int32 → sT → Prop) : Prop :=
  (((1 : Int32) < ((x2 + x1) - (x2 + x1) / (6 : Int32) * (6 : Int32)) → wb_X4_wouldDream_17 Q x0 x1 x2 ((x2 + x1) - (x2 + x1) / (6 : Int32) * (6 : Int32)) (0 : Int32) S) ∧ (¬ (1 : Int32) < ((x2 + x1) - (x2 + x1) / (6 : Int32) * (6 : Int32)) → wb_X4_wouldDream_17 Q x0 x1 x2 ((x2 + x1) - (x2 + x1) / (6 : Int32) * (6 : Int32)) (1 : Int32) S))
set_option maxHeartbeats 4000000 in
set_option maxRecDepth 100000 in
theorem bk_X4_wouldDream {p : Program} {l : Launch} {e : Env} {s : State} {m : MethodId} {args : Array Value} {below : List Frame} {meth : Method} {c : Code} {Z : State → Prop} {D : va_G} {cA : Nat → ClassId} {h : Nat → Nat} {Q : Int32 → sT → Prop} (C0 : cx p s m args c cX4_wouldDream 7 RX4 D cA true keysC h) (hret : rtZ p l e rm_X4_wouldDream s m args below meth c cX4_wouldDream Z D (wC h cA) (aK keysC h s.heap.size) Q) {x0 : Int32} {x1 : Int32} {x2 : Int32} {S : sT} {H : Heap} {locs : List Loc} {ls : Array Slot} (hP : va_P D vwCl (wC h cA S) H) (hS : va_S (aK keysC h s.heap.size) s.heap H locs) (hd : wp_X4_wouldDream x0 x1 x2 S Q) (hl : lv_has ls 7 [(0, .int x0), (1, .int x1), (2, .int x2)]) : W p l e rm_X4_wouldDream s m args below meth c H locs 0 0 Z (F0 m 0 ls []) := by
  obtain ⟨⟨hx, hb, hml, hown, hts⟩, hK, -, -⟩ := id C0
  unfold wp_X4_wouldDream at hd
  refine lv_iload_n hx hb dX4_wouldDream_0 rfl (lv_at hl 2 rfl) ?_
  refine lv_iload_n hx hb dX4_wouldDream_1 rfl (lv_at hl 1 rfl) ?_
  refine lv_iadd hx hb dX4_wouldDream_2 ?_
  refine lv_bipush (v := 6) hx hb dX4_wouldDream_3 (by decide) ?_
  refine lv_irem hx hb dX4_wouldDream_5 (by decide) ?_
  refine lv_istore_n (lv' := [(3, .int ((x2 + x1) - (x2 + x1) / (6 : Int32) * (6 : Int32))), (0, .int x0), (1, .int x1), (2, .int x2)]) hx hb dX4_wouldDream_6 rfl hl (by decide) rfl (fun ls hl => ?_)
  refine lv_iload_n hx hb dX4_wouldDream_7 rfl (lv_at hl 0 rfl) ?_
  refine lv_iconst (v := 1) hx hb dX4_wouldDream_8 (by decide) ?_
  refine lv_icmp_gt (tgt := 16) hx hb dX4_wouldDream_9 (by decide) (fun hc => ?_) (fun hc => ?_)
  · have hd := hd.1 hc
    refine lv_iconst (v := 0) hx hb dX4_wouldDream_16 (by decide) ?_
    exact bk_X4_wouldDream_17 C0 hret hP hS hd (lv_sub hl [1, 2, 3, 0] rfl)
  · have hd := hd.2 hc
    refine lv_iconst (v := 1) hx hb dX4_wouldDream_12 (by decide) ?_
    refine lv_goto (tgt := 17) hx hb dX4_wouldDream_13 (by decide) ?_
    exact bk_X4_wouldDream_17 C0 hret hP hS hd (lv_sub hl [1, 2, 3, 0] rfl)
theorem c_X4_wouldDream (l : Launch) {D : va_G} {cA : Nat → ClassId} {h : Nat → Nat} (hk : ky keysC h) {x0 : Int32} {x1 : Int32} {x2 : Int32} {S : sT} (sz : Nat) {Q : Int32 → sT → Prop} (hd : wp_X4_wouldDream x0 x1 x2 S Q) : Met l yX4_wouldDream (wsU yX4_wouldDream cX4_wouldDream 7 (some .boolean)) rm_X4_wouldDream (va_Pc [.int x0, .int x1, .int x2] (gP D cA true keysC h (wC h cA) S sz)) (va_Qi Q (wB D (wC h cA)) (aK keysC h sz)) 0 0 (aK keysC h sz) :=
  mk_z (by decide) hk (Nat.le_of_ble_eq_true rfl) (fun p e s m below meth c Z ls C0 hret hP hS hl => bk_X4_wouldDream C0 hret hP hS hd hl)
abbrev rm_X4_dreamBitsFrom : Room := { frames := 1, cells := 0, slots := 0, locals := 26 }
def wb_X4_dreamBitsFrom_31 (Q : Int64 → sT → Prop) (K5 : Int32 → Int32 → Int32 → Int64 → Int32 → sT → Prop) (x0 : Int32) (x1 : Int32) (x2 : Int32) (x3 : Int64) (x5 : Int32) (S : sT) : Prop :=
  K5 x0 x1 x2 x3 (x5 + (1 : Int32)) S
set_option maxHeartbeats 4000000 in
set_option maxRecDepth 100000 in
theorem bk_X4_dreamBitsFrom_31 {p : Program} {l : Launch} {e : Env} {s : State} {m : MethodId} {args : Array Value} {below : List Frame} {meth : Method} {c : Code} {Z : State → Prop} {D : va_G} {cA : Nat → ClassId} {h : Nat → Nat} {Q : Int64 → sT → Prop} (C0 : cx p s m args c cX4_dreamBitsFrom 6 RX4 D cA true keysC h) (hret : rtL p l e rm_X4_dreamBitsFrom s m args below meth c cX4_dreamBitsFrom Z D (wC h cA) (aK keysC h s.heap.size) Q) {K5 : Int32 → Int32 → Int32 → Int64 → Int32 → sT → Prop} (k5 : ∀ (x0 : Int32) (x1 : Int32) (x2 : Int32) (x3 : Int64) (x5 : Int32) (S : sT) (H : Heap) (locs : List Loc) (ls : Array Slot), K5 x0 x1 x2 x3 x5 S → va_P D vwCl (wC h cA S) H → va_S (aK keysC h s.heap.size) s.heap H locs → lv_has ls 6 [(0, .int x0), (1, .int x1), (2, .int x2), (3, .long x3), (5, .int x5)] → W p l e rm_X4_dreamBitsFrom s m args below meth c H locs 0 0 Z (F0 m 5 ls [])) {x0 : Int32} {x1 : Int32} {x2 : Int32} {x3 : Int64} {x5 : Int32} {S : sT} {H : Heap} {locs : List Loc} {ls : Array Slot} (hP : va_P D vwCl (wC h cA S) H) (hS : va_S (aK keysC h s.heap.size) s.heap H locs) (hd : wb_X4_dreamBitsFrom_31 Q K5 x0 x1 x2 x3 x5 S) (hl : lv_has ls 6 [(0, .int x0), (1, .int x1), (2, .int x2), (3, .long x3), (5, .int x5)]) : W p l e rm_X4_dreamBitsFrom s m args below meth c H locs 0 0 Z (F0 m 31 ls []) := by
  obtain ⟨⟨hx, hb, hml, hown, hts⟩, hK, -, -⟩ := id C0
  unfold wb_X4_dreamBitsFrom_31 at hd
  refine lv_iinc (v := x5 + (1 : Int32)) (lv' := [(5, .int (x5 + (1 : Int32))), (0, .int x0), (1, .int x1), (2, .int x2), (3, .long x3)]) hx hb dX4_dreamBitsFrom_31 hl (k := 4) rfl rfl (by decide) rfl (fun ls hl => ?_)
  refine lv_goto (tgt := 5) hx hb dX4_dreamBitsFrom_34 (by decide) ?_
  exact k5 _ _ _ _ _ _ _ _ _ hd hP hS (lv_sub hl [1, 2, 3, 4, 0] rfl)
def wb_X4_dreamBitsFrom_5 (Q : Int64 → sT → Prop) (K5 : Int32 → Int32 → Int32 → Int64 → Int32 → sT → Prop) (x0 : Int32) (x1 : Int32) (x2 : Int32) (x3 : Int64) (x5 : Int32) (S : sT) : Prop :=
  (((60 : Int32) < x5 → Q x3 S) ∧ (¬ (60 : Int32) < x5 → wp_X4_wouldDream x0 x1 (x2 + x5) S (fun r_1 S_1 => ((r_1 = 0 → wb_X4_dreamBitsFrom_31 Q K5 x0 x1 x2 x3 x5 S_1) ∧ (¬ r_1 = 0 → wb_X4_dreamBitsFrom_31 Q K5 x0 x1 x2 (x3 ||| ((1 : Int64) <<< (x5.toInt64 &&& 63))) x5 S_1)))))
set_option maxHeartbeats 4000000 in
set_option maxRecDepth 100000 in
theorem bk_X4_dreamBitsFrom_5 {p : Program} {l : Launch} {e : Env} {s : State} {m : MethodId} {args : Array Value} {below : List Frame} {meth : Method} {c : Code} {Z : State → Prop} {D : va_G} {cA : Nat → ClassId} {h : Nat → Nat} {Q : Int64 → sT → Prop} (C0 : cx p s m args c cX4_dreamBitsFrom 6 RX4 D cA true keysC h) (hret : rtL p l e rm_X4_dreamBitsFrom s m args below meth c cX4_dreamBitsFrom Z D (wC h cA) (aK keysC h s.heap.size) Q) {K5 : Int32 → Int32 → Int32 → Int64 → Int32 → sT → Prop} (k5 : ∀ (x0 : Int32) (x1 : Int32) (x2 : Int32) (x3 : Int64) (x5 : Int32) (S : sT) (H : Heap) (locs : List Loc) (ls : Array Slot), K5 x0 x1 x2 x3 x5 S → va_P D vwCl (wC h cA S) H → va_S (aK keysC h s.heap.size) s.heap H locs → lv_has ls 6 [(0, .int x0), (1, .int x1), (2, .int x2), (3, .long x3), (5, .int x5)] → W p l e rm_X4_dreamBitsFrom s m args below meth c H locs 0 0 Z (F0 m 5 ls [])) {x0 : Int32} {x1 : Int32} {x2 : Int32} {x3 : Int64} {x5 : Int32} {S : sT} {H : Heap} {locs : List Loc} {ls : Array Slot} (hP : va_P D vwCl (wC h cA S) H) (hS : va_S (aK keysC h s.heap.size) s.heap H locs) (hd : wb_X4_dreamBitsFrom_5 Q K5 x0 x1 x2 x3 x5 S) (hl : lv_has ls 6 [(0, .int x0), (1, .int x1), (2, .int x2), (3, .long x3), (5, .int x5)]) : W p l e rm_X4_dreamBitsFrom s m args below meth c H locs 0 0 Z (F0 m 5 ls []) := by
  obtain ⟨⟨hx, hb, hml, hown, hts⟩, hK, -, -⟩ := id C0
  unfold wb_X4_dreamBitsFrom_5 at hd
  refine lv_iload hx hb dX4_dreamBitsFrom_5 (lv_at hl 4 rfl) ?_
  refine lv_bipush (v := 60) hx hb dX4_dreamBitsFrom_7 (by decide) ?_
  refine lv_icmp_gt (tgt := 37) hx hb dX4_dreamBitsFrom_9 (by decide) (fun hc => ?_) (fun hc => ?_)
  · have hd := hd.1 hc
    refine lv_lload_n hx hb dX4_dreamBitsFrom_37 rfl (lv_at hl 3 rfl) ?_
    exact hret _ _ _ _ _ _ hd hP hS dX4_dreamBitsFrom_38
  · have hd := hd.2 hc
    refine lv_iload_n hx hb dX4_dreamBitsFrom_12 rfl (lv_at hl 0 rfl) ?_
    refine lv_iload_n hx hb dX4_dreamBitsFrom_13 rfl (lv_at hl 1 rfl) ?_
    refine lv_iload_n hx hb dX4_dreamBitsFrom_14 rfl (lv_at hl 2 rfl) ?_
    refine lv_iload hx hb dX4_dreamBitsFrom_15 (lv_at hl 4 rfl) ?_
    refine lv_iadd hx hb dX4_dreamBitsFrom_17 ?_
    refine cl_Si (n := 3) (rest := []) C0 hP hS (c_X4_wouldDream l C0.2.2.1 _ hd) (lwG_S lm_X4_155 ls_X4_wouldDream lz_RX4 lc_X4_wouldDream) (by decide +kernel) rfl rfl (Nat.le_of_ble_eq_true rfl) ⟨rfl, rfl⟩ ⟨by decide, by decide⟩ dX4_dreamBitsFrom_18 hl.1 ⟨Nat.zero_le _, Nat.zero_le _⟩ (fun r_1 S_1 H locs hd hP hS => ?_)
    refine lv_if_eq (tgt := 31) hx hb dX4_dreamBitsFrom_21 (by decide) (fun hc => ?_) (fun hc => ?_)
    · have hd := hd.1 hc
      exact bk_X4_dreamBitsFrom_31 C0 hret k5 hP hS hd (lv_sub hl [0, 1, 2, 3, 4] rfl)
    · have hd := hd.2 hc
      refine lv_lload_n hx hb dX4_dreamBitsFrom_24 rfl (lv_at hl 3 rfl) ?_
      refine lv_lconst (v := 1) hx hb dX4_dreamBitsFrom_25 (by decide) ?_
      refine lv_iload hx hb dX4_dreamBitsFrom_26 (lv_at hl 4 rfl) ?_
      refine lv_lshl hx hb dX4_dreamBitsFrom_28 rfl ?_
      refine lv_lor hx hb dX4_dreamBitsFrom_29 ?_
      refine lv_lstore_n (lv' := [(3, .long (x3 ||| ((1 : Int64) <<< (x5.toInt64 &&& 63)))), (0, .int x0), (1, .int x1), (2, .int x2), (5, .int x5)]) hx hb dX4_dreamBitsFrom_30 rfl hl (by decide) rfl (fun ls hl => ?_)
      exact bk_X4_dreamBitsFrom_31 C0 hret k5 hP hS hd (lv_sub hl [1, 2, 3, 0, 4] rfl)
def wl_X4_dreamBitsFrom_5 (Q : Int64 → sT → Prop) : Nat → Int32 → Int32 → Int32 → Int64 → Int32 → sT → Prop
  | 0, _, _, _, _, _ => fun _ => False
  | n + 1, x0, x1, x2, x3, x5 => fun S => wb_X4_dreamBitsFrom_5 Q (fun x0 x1 x2 x3 x5 S => wl_X4_dreamBitsFrom_5 Q n x0 x1 x2 x3 x5 S) x0 x1 x2 x3 x5 S
theorem bl_X4_dreamBitsFrom_5 {p : Program} {l : Launch} {e : Env} {s : State} {m : MethodId} {args : Array Value} {below : List Frame} {meth : Method} {c : Code} {Z : State → Prop} {D : va_G} {cA : Nat → ClassId} {h : Nat → Nat} {Q : Int64 → sT → Prop} (C0 : cx p s m args c cX4_dreamBitsFrom 6 RX4 D cA true keysC h) (hret : rtL p l e rm_X4_dreamBitsFrom s m args below meth c cX4_dreamBitsFrom Z D (wC h cA) (aK keysC h s.heap.size) Q) : ∀ (n : Nat) (x0 : Int32) (x1 : Int32) (x2 : Int32) (x3 : Int64) (x5 : Int32) (S : sT) (H : Heap) (locs : List Loc) (ls : Array Slot), va_P D vwCl (wC h cA S) H → va_S (aK keysC h s.heap.size) s.heap H locs → wl_X4_dreamBitsFrom_5 Q n x0 x1 x2 x3 x5 S → lv_has ls 6 [(0, .int x0), (1, .int x1), (2, .int x2), (3, .long x3), (5, .int x5)] → W p l e rm_X4_dreamBitsFrom s m args below meth c H locs 0 0 Z (F0 m 5 ls []) := by
  intro n
  induction n with
  | zero => intro x0 x1 x2 x3 x5 S H locs ls hP hS hd hl; exact (show False from hd).elim
  | succ n ih => intro x0 x1 x2 x3 x5 S H locs ls hP hS hd hl; exact bk_X4_dreamBitsFrom_5 C0 hret (fun x0 x1 x2 x3 x5 S H locs ls hd hP hS hl => ih x0 x1 x2 x3 x5 S H locs ls hP hS hd hl) hP hS hd hl
def wp_X4_dreamBitsFrom (x0 : Int32) (x1 : Int32) (x2 : Int32) (S : sT) (Q : Int64 → sT → Prop) : Prop :=
  ∃ n : Nat, wl_X4_dreamBitsFrom_5 Q n x0 x1 x2 (0 : Int64) (0 : Int32) S
set_option maxHeartbeats 4000000 in
set_option maxRecDepth 100000 in
theorem bk_X4_dreamBitsFrom {p : Program} {l : Launch} {e : Env} {s : State} {m : MethodId} {args : Array Value} {below : List Frame} {meth : Method} {c : Code} {Z : State → Prop} {D : va_G} {cA : Nat → ClassId} {h : Nat → Nat} {Q : Int64 → sT → Prop} (C0 : cx p s m args c cX4_dreamBitsFrom 6 RX4 D cA true keysC h) (hret : rtL p l e rm_X4_dreamBitsFrom s m args below meth c cX4_dreamBitsFrom Z D (wC h cA) (aK keysC h s.heap.size) Q) {x0 : Int32} {x1 : Int32} {x2 : Int32} {S : sT} {H : Heap} {locs : List Loc} {ls : Array Slot} (hP : va_P D vwCl (wC h cA S) H) (hS : va_S (aK keysC h s.heap.size) s.heap H locs) (hd : wp_X4_dreamBitsFrom x0 x1 x2 S Q) (hl : lv_has ls 6 [(0, .int x0), (1, .int x1), (2, .int x2)]) : W p l e rm_X4_dreamBitsFrom s m args below meth c H locs 0 0 Z (F0 m 0 ls []) := by
  obtain ⟨⟨hx, hb, hml, hown, hts⟩, hK, -, -⟩ := id C0
  unfold wp_X4_dreamBitsFrom at hd
  refine lv_lconst (v := 0) hx hb dX4_dreamBitsFrom_0 (by decide) ?_
  refine lv_lstore_n (lv' := [(3, .long (0 : Int64)), (0, .int x0), (1, .int x1), (2, .int x2)]) hx hb dX4_dreamBitsFrom_1 rfl hl (by decide) rfl (fun ls hl => ?_)
  refine lv_iconst (v := 0) hx hb dX4_dreamBitsFrom_2 (by decide) ?_
  refine lv_istore (lv' := [(5, .int (0 : Int32)), (3, .long (0 : Int64)), (0, .int x0), (1, .int x1), (2, .int x2)]) hx hb dX4_dreamBitsFrom_3 hl (by decide) rfl (fun ls hl => ?_)
  obtain ⟨n_1, hd⟩ := hd
  exact bl_X4_dreamBitsFrom_5 C0 hret _ _ _ _ _ _ _ _ _ _ hP hS hd (lv_sub hl [2, 3, 4, 1, 0] rfl)
theorem c_X4_dreamBitsFrom (l : Launch) {D : va_G} {cA : Nat → ClassId} {h : Nat → Nat} (hk : ky keysC h) {x0 : Int32} {x1 : Int32} {x2 : Int32} {S : sT} (sz : Nat) {Q : Int64 → sT → Prop} (hd : wp_X4_dreamBitsFrom x0 x1 x2 S Q) : Met l yX4_dreamBitsFrom (wsU yX4_dreamBitsFrom cX4_dreamBitsFrom 6 (some .long)) rm_X4_dreamBitsFrom (va_Pc [.int x0, .int x1, .int x2] (gP D cA true keysC h (wC h cA) S sz)) (va_Ql Q (wB D (wC h cA)) (aK keysC h sz)) 0 0 (aK keysC h sz) :=
  mk_l (by decide) hk (Nat.le_of_ble_eq_true rfl) (fun p e s m below meth c Z ls C0 hret hP hS hl => bk_X4_dreamBitsFrom C0 hret hP hS hd hl)
abbrev rm_X0_setOut : Room := { frames := 2, cells := 0, slots := 0, locals := 51 }
def wb_X0_setOut_26 (j1 : Nat) (Q : sT → Prop) (K26 : Int32 → sT → Prop) (x2 : Int32) (S : sT) : Prop :=
  (((vI S 114) ≤ x2 → Q S) ∧ (¬ (vI S 114) ≤ x2 → (vp_in x2 6) ∧ (vp_in x2 6) ∧ (vp_in x2 6) ∧ (vp_in x2 6) ∧ wp_X4_dreamBitsFrom (vA (uA S 111 (upd (vA S 111) x2.toNatClampNeg (vA S (20 + 13 * j1 + 1) x2.toNatClampNeg))) (20 + 13 * j1 + 0) x2.toNatClampNeg) (vA (uA S 111 (upd (vA S 111) x2.toNatClampNeg (vA S (20 + 13 * j1 + 1) x2.toNatClampNeg))) (20 + 13 * j1 + 2) x2.toNatClampNeg) (vI (uA S 111 (upd (vA S 111) x2.toNatClampNeg (vA S (20 + 13 * j1 + 1) x2.toNatClampNeg))) (20 + 13 * j1 + 10)) (uA S 111 (upd (vA S 111) x2.toNatClampNeg (vA S (20 + 13 * j1 + 1) x2.toNatClampNeg))) (fun r_5 S_5 => (vp_in x2 6) ∧ K26 (x2 + (1 : Int32)) (uB S_5 110 (vp_updL (vB S_5 110) x2.toNatClampNeg r_5)))))
set_option maxHeartbeats 4000000 in
set_option maxRecDepth 100000 in
theorem bk_X0_setOut_26 {p : Program} {l : Launch} {e : Env} {s : State} {m : MethodId} {args : Array Value} {below : List Frame} {meth : Method} {c : Code} {Z : State → Prop} {D : va_G} {cA : Nat → ClassId} {h : Nat → Nat} {Q : sT → Prop} {j1 : Nat} (C0 : cx p s m args c cX0_setOut 3 RX0 D cA true keysC h) (hret : rtV p l e rm_X0_setOut s m args below meth c cX0_setOut Z D (wC h cA) (aK keysC h s.heap.size) Q) (hj1 : j1 < 5) {K26 : Int32 → sT → Prop} (k26 : ∀ (x2 : Int32) (S : sT) (H : Heap) (locs : List Loc) (ls : Array Slot), K26 x2 S → va_P D vwCl (wC h cA S) H → va_S (aK keysC h s.heap.size) s.heap H locs → lv_has ls 3 [(0, .ref (h 1009)), (1, .ref (h (1003 + j1))), (2, .int x2)] → W p l e rm_X0_setOut s m args below meth c H locs 0 0 Z (F0 m 26 ls [])) {x2 : Int32} {S : sT} {H : Heap} {locs : List Loc} {ls : Array Slot} (hP : va_P D vwCl (wC h cA S) H) (hS : va_S (aK keysC h s.heap.size) s.heap H locs) (hd : wb_X0_setOut_26 j1 Q K26 x2 S) (hl : lv_has ls 3 [(0, .ref (h 1009)), (1, .ref (h (1003 + j1))), (2, .int x2)]) : W p l e rm_X0_setOut s m args below meth c H locs 0 0 Z (F0 m 26 ls []) := by
  obtain ⟨⟨hx, hb, hml, hown, hts⟩, hK, -, -⟩ := id C0
  unfold wb_X0_setOut_26 at hd
  refine lv_iload_n hx hb dX0_setOut_26 rfl (lv_at hl 2 rfl) ?_
  refine lv_aload_n hx hb dX0_setOut_27 rfl (lv_at hl 0 rfl) ?_
  refine gf_X0_31 C0 hP dX0_setOut_28 ?_
  refine lv_icmp_ge (tgt := 77) hx hb dX0_setOut_31 (by decide) (fun hc => ?_) (fun hc => ?_)
  · have hd := hd.1 hc
    exact hret _ _ _ _ _ hd hP hS dX0_setOut_77
  · have hd := hd.2 hc
    refine lv_aload_n hx hb dX0_setOut_34 rfl (lv_at hl 0 rfl) ?_
    refine gf_X0_15 C0 hP dX0_setOut_35 ?_
    refine lv_iload_n hx hb dX0_setOut_38 rfl (lv_at hl 2 rfl) ?_
    refine lv_aload_n hx hb dX0_setOut_39 rfl (lv_at hl 1 rfl) ?_
    refine gf_X0_42_v j1 hj1 C0 hP dX0_setOut_40 ?_
    refine lv_iload_n hx hb dX0_setOut_43 rfl (lv_at hl 2 rfl) ?_
    obtain ⟨h_1, hd⟩ := hd
    refine ldC (kLine _ hj1 1 (by decide)) C0 hP (by rw [lLineA _ hj1 1 (by decide)]; exact h_1) dX0_setOut_44 ?_
    obtain ⟨h_2, hd⟩ := hd
    refine stC (by decide) C0 hP hS h_2 dX0_setOut_45 (fun H locs hP hS => ?_)
    refine lv_aload_n hx hb dX0_setOut_46 rfl (lv_at hl 0 rfl) ?_
    refine gf_X0_9 C0 hP dX0_setOut_47 ?_
    refine lv_iload_n hx hb dX0_setOut_50 rfl (lv_at hl 2 rfl) ?_
    refine lv_aload_n hx hb dX0_setOut_51 rfl (lv_at hl 1 rfl) ?_
    refine gf_X0_43_v j1 hj1 C0 hP dX0_setOut_52 ?_
    refine lv_iload_n hx hb dX0_setOut_55 rfl (lv_at hl 2 rfl) ?_
    obtain ⟨h_3, hd⟩ := hd
    refine ldC (kLine _ hj1 0 (by decide)) C0 hP (by rw [lLineA _ hj1 0 (by decide)]; exact h_3) dX0_setOut_56 ?_
    refine lv_aload_n hx hb dX0_setOut_57 rfl (lv_at hl 1 rfl) ?_
    refine gf_X0_46_v j1 hj1 C0 hP dX0_setOut_58 ?_
    refine lv_iload_n hx hb dX0_setOut_61 rfl (lv_at hl 2 rfl) ?_
    obtain ⟨h_4, hd⟩ := hd
    refine ldC (kLine _ hj1 2 (by decide)) C0 hP (by rw [lLineA _ hj1 2 (by decide)]; exact h_4) dX0_setOut_62 ?_
    refine lv_aload_n hx hb dX0_setOut_63 rfl (lv_at hl 1 rfl) ?_
    refine gf_X0_49_v j1 hj1 C0 hP dX0_setOut_64 ?_
    refine cl_SNl (n := 3) (rest := [.int x2, .ref (h 110)]) C0 hP hS (c_X4_dreamBitsFrom l C0.2.2.1 _ hd) (lwG_C lc_X4_dreamBitsFrom) (by decide +kernel : (RX0, 52, yX4_dreamBitsFrom, "DreamTrain") ∈ nestM) lz_RX4 ls_X4_dreamBitsFrom (by decide +kernel) rfl rfl (Nat.le_of_ble_eq_true rfl) ⟨rfl, rfl⟩ ⟨by decide, by decide⟩ dX0_setOut_67 hl.1 ⟨Nat.zero_le _, Nat.zero_le _⟩ (fun r_5 S_5 H locs hd hP hS => ?_)
    obtain ⟨h_6, hd⟩ := hd
    refine stL (by decide) C0 hP hS h_6 dX0_setOut_70 (fun H locs hP hS => ?_)
    refine lv_iinc (v := x2 + (1 : Int32)) (lv' := [(2, .int (x2 + (1 : Int32))), (0, .ref (h 1009)), (1, .ref (h (1003 + j1)))]) hx hb dX0_setOut_71 hl (k := 2) rfl rfl (by decide) rfl (fun ls hl => ?_)
    refine lv_goto (tgt := 26) hx hb dX0_setOut_74 (by decide) ?_
    exact k26 _ _ _ _ _ hd hP hS (lv_sub hl [1, 2, 0] rfl)
def wl_X0_setOut_26 (j1 : Nat) (Q : sT → Prop) : Nat → Int32 → sT → Prop
  | 0, _ => fun _ => False
  | n + 1, x2 => fun S => wb_X0_setOut_26 j1 Q (fun x2 S => wl_X0_setOut_26 j1 Q n x2 S) x2 S
theorem bl_X0_setOut_26 {p : Program} {l : Launch} {e : Env} {s : State} {m : MethodId} {args : Array Value} {below : List Frame} {meth : Method} {c : Code} {Z : State → Prop} {D : va_G} {cA : Nat → ClassId} {h : Nat → Nat} {Q : sT → Prop} {j1 : Nat} (C0 : cx p s m args c cX0_setOut 3 RX0 D cA true keysC h) (hret : rtV p l e rm_X0_setOut s m args below meth c cX0_setOut Z D (wC h cA) (aK keysC h s.heap.size) Q) (hj1 : j1 < 5) : ∀ (n : Nat) (x2 : Int32) (S : sT) (H : Heap) (locs : List Loc) (ls : Array Slot), va_P D vwCl (wC h cA S) H → va_S (aK keysC h s.heap.size) s.heap H locs → wl_X0_setOut_26 j1 Q n x2 S → lv_has ls 3 [(0, .ref (h 1009)), (1, .ref (h (1003 + j1))), (2, .int x2)] → W p l e rm_X0_setOut s m args below meth c H locs 0 0 Z (F0 m 26 ls []) := by
  intro n
  induction n with
  | zero => intro x2 S H locs ls hP hS hd hl; exact (show False from hd).elim
  | succ n ih => intro x2 S H locs ls hP hS hd hl; exact bk_X0_setOut_26 C0 hret hj1 (fun x2 S H locs ls hd hP hS hl => ih x2 S H locs ls hP hS hd hl) hP hS hd hl
def wp_X0_setOut (j1 : Nat) (S : sT) (Q : sT → Prop) : Prop :=
  ∀ S_1 : sT, S_1 = uI (uI (uI S 114 (vI S (20 + 13 * j1 + 6))) 115 (vI (uI S 114 (vI S (20 + 13 * j1 + 6))) (20 + 13 * j1 + 7))) 116 (vI (uI (uI S 114 (vI S (20 + 13 * j1 + 6))) 115 (vI (uI S 114 (vI S (20 + 13 * j1 + 6))) (20 + 13 * j1 + 7))) (20 + 13 * j1 + 11)) → ∃ n : Nat, wl_X0_setOut_26 j1 Q n (0 : Int32) S_1
set_option maxHeartbeats 4000000 in
set_option maxRecDepth 100000 in
theorem bk_X0_setOut {p : Program} {l : Launch} {e : Env} {s : State} {m : MethodId} {args : Array Value} {below : List Frame} {meth : Method} {c : Code} {Z : State → Prop} {D : va_G} {cA : Nat → ClassId} {h : Nat → Nat} {Q : sT → Prop} {j1 : Nat} (C0 : cx p s m args c cX0_setOut 3 RX0 D cA true keysC h) (hret : rtV p l e rm_X0_setOut s m args below meth c cX0_setOut Z D (wC h cA) (aK keysC h s.heap.size) Q) (hj1 : j1 < 5) {S : sT} {H : Heap} {locs : List Loc} {ls : Array Slot} (hP : va_P D vwCl (wC h cA S) H) (hS : va_S (aK keysC h s.heap.size) s.heap H locs) (hd : wp_X0_setOut j1 S Q) (hl : lv_has ls 3 [(0, .ref (h 1009)), (1, .ref (h (1003 + j1)))]) : W p l e rm_X0_setOut s m args below meth c H locs 0 0 Z (F0 m 0 ls []) := by
  obtain ⟨⟨hx, hb, hml, hown, hts⟩, hK, -, -⟩ := id C0
  unfold wp_X0_setOut at hd
  refine lv_aload_n hx hb dX0_setOut_0 rfl (lv_at hl 0 rfl) ?_
  refine lv_aload_n hx hb dX0_setOut_1 rfl (lv_at hl 1 rfl) ?_
  refine gf_X0_25_v j1 hj1 C0 hP dX0_setOut_2 ?_
  refine pf_X0_31 C0 hP hS dX0_setOut_5 (fun H locs hP hS => ?_)
  refine lv_aload_n hx hb dX0_setOut_8 rfl (lv_at hl 0 rfl) ?_
  refine lv_aload_n hx hb dX0_setOut_9 rfl (lv_at hl 1 rfl) ?_
  refine gf_X0_32_v j1 hj1 C0 hP dX0_setOut_10 ?_
  refine pf_X0_35 C0 hP hS dX0_setOut_13 (fun H locs hP hS => ?_)
  refine lv_aload_n hx hb dX0_setOut_16 rfl (lv_at hl 0 rfl) ?_
  refine lv_aload_n hx hb dX0_setOut_17 rfl (lv_at hl 1 rfl) ?_
  refine gf_X0_36_v j1 hj1 C0 hP dX0_setOut_18 ?_
  refine pf_X0_39 C0 hP hS dX0_setOut_21 (fun H locs hP hS => ?_)
  obtain ⟨S_1, eS_1⟩ : ∃ x : sT, x = uI (uI (uI S 114 (vI S (20 + 13 * j1 + 6))) 115 (vI (uI S 114 (vI S (20 + 13 * j1 + 6))) (20 + 13 * j1 + 7))) 116 (vI (uI (uI S 114 (vI S (20 + 13 * j1 + 6))) 115 (vI (uI S 114 (vI S (20 + 13 * j1 + 6))) (20 + 13 * j1 + 7))) (20 + 13 * j1 + 11)) := ⟨_, rfl⟩
  rw [← eS_1] at hP
  have hd := hd S_1 eS_1
  refine lv_iconst (v := 0) hx hb dX0_setOut_24 (by decide) ?_
  refine lv_istore_n (lv' := [(2, .int (0 : Int32)), (0, .ref (h 1009)), (1, .ref (h (1003 + j1)))]) hx hb dX0_setOut_25 rfl hl (by decide) rfl (fun ls hl => ?_)
  obtain ⟨n_2, hd⟩ := hd
  exact bl_X0_setOut_26 C0 hret hj1 _ _ _ _ _ _ hP hS hd (lv_sub hl [1, 2, 0] rfl)
theorem c_X0_setOut (l : Launch) {D : va_G} {cA : Nat → ClassId} {h : Nat → Nat} (hk : ky keysC h) {j1 : Nat} (hj1 : j1 < 5) {S : sT} (sz : Nat) {Q : sT → Prop} (hd : wp_X0_setOut j1 S Q) : Met l yX0_setOut (wsU yX0_setOut cX0_setOut 3 none) rm_X0_setOut (va_Pc [.ref (h 1009), .ref (h (1003 + j1))] (gP D cA true keysC h (wC h cA) S sz)) (va_Qv Q (wB D (wC h cA)) (aK keysC h sz)) 0 0 (aK keysC h sz) :=
  mk_v (by decide) hk (Nat.le_of_ble_eq_true rfl) (fun p e s m below meth c Z ls C0 hret hP hS hl => bk_X0_setOut C0 hret hj1 hP hS hd hl)
abbrev rm_X1_addSleeper : Room := { frames := 0, cells := 0, slots := 0, locals := 0 }
def wp_X1_addSleeper (j0 : Nat) (x1 : Int32) (x2 : Int32) (x3 : Int32) (S : sT) (Q : sT → Prop) : Prop :=
  (((vI S (20 + 13 * j0 + 6)) < (6 : Int32) → (vp_in (vI S (20 + 13 * j0 + 6)) 6) ∧ (vp_in (vI (uA S (20 + 13 * j0 + 0) (upd (vA S (20 + 13 * j0 + 0)) (vI S (20 + 13 * j0 + 6)).toNatClampNeg x1)) (20 + 13 * j0 + 6)) 6) ∧ ∀ S_3 : sT, S_3 = uA (uA S (20 + 13 * j0 + 0) (upd (vA S (20 + 13 * j0 + 0)) (vI S (20 + 13 * j0 + 6)).toNatClampNeg x1)) (20 + 13 * j0 + 1) (upd (vA (uA S (20 + 13 * j0 + 0) (upd (vA S (20 + 13 * j0 + 0)) (vI S (20 + 13 * j0 + 6)).toNatClampNeg x1)) (20 + 13 * j0 + 1)) (vI (uA S (20 + 13 * j0 + 0) (upd (vA S (20 + 13 * j0 + 0)) (vI S (20 + 13 * j0 + 6)).toNatClampNeg x1)) (20 + 13 * j0 + 6)).toNatClampNeg x2) → (vp_in (vI S_3 (20 + 13 * j0 + 6)) 6) ∧ ∀ S_5 : sT, S_5 = uI (uA S_3 (20 + 13 * j0 + 2) (upd (vA S_3 (20 + 13 * j0 + 2)) (vI S_3 (20 + 13 * j0 + 6)).toNatClampNeg x3)) (20 + 13 * j0 + 9) ((vI (uA S_3 (20 + 13 * j0 + 2) (upd (vA S_3 (20 + 13 * j0 + 2)) (vI S_3 (20 + 13 * j0 + 6)).toNatClampNeg x3)) (20 + 13 * j0 + 9)) ||| ((1 : Int32) <<< ((vI (uA S_3 (20 + 13 * j0 + 2) (upd (vA S_3 (20 + 13 * j0 + 2)) (vI S_3 (20 + 13 * j0 + 6)).toNatClampNeg x3)) (20 + 13 * j0 + 6)) &&& 31))) → Q (uI S_5 (20 + 13 * j0 + 6) ((vI S_5 (20 + 13 * j0 + 6)) + (1 : Int32)))) ∧ (¬ (vI S (20 + 13 * j0 + 6)) < (6 : Int32) → Q S))
set_option maxHeartbeats 4000000 in
set_option maxRecDepth 100000 in
theorem bk_X1_addSleeper {p : Program} {l : Launch} {e : Env} {s : State} {m : MethodId} {args : Array Value} {below : List Frame} {meth : Method} {c : Code} {Z : State → Prop} {D : va_G} {cA : Nat → ClassId} {h : Nat → Nat} {Q : sT → Prop} {j0 : Nat} (C0 : cx p s m args c cX1_addSleeper 4 RX1 D cA true keysC h) (hret : rtV p l e rm_X1_addSleeper s m args below meth c cX1_addSleeper Z D (wC h cA) (aK keysC h s.heap.size) Q) (hj0 : j0 < 5) {x1 : Int32} {x2 : Int32} {x3 : Int32} {S : sT} {H : Heap} {locs : List Loc} {ls : Array Slot} (hP : va_P D vwCl (wC h cA S) H) (hS : va_S (aK keysC h s.heap.size) s.heap H locs) (hd : wp_X1_addSleeper j0 x1 x2 x3 S Q) (hl : lv_has ls 4 [(0, .ref (h (1003 + j0))), (1, .int x1), (2, .int x2), (3, .int x3)]) : W p l e rm_X1_addSleeper s m args below meth c H locs 0 0 Z (F0 m 0 ls []) := by
  obtain ⟨⟨hx, hb, hml, hown, hts⟩, hK, -, -⟩ := id C0
  unfold wp_X1_addSleeper at hd
  refine lv_aload_n hx hb dX1_addSleeper_0 rfl (lv_at hl 0 rfl) ?_
  refine gf_X1_30_v j0 hj0 C0 hP dX1_addSleeper_1 ?_
  refine lv_bipush (v := 6) hx hb dX1_addSleeper_4 (by decide) ?_
  refine lv_icmp_lt (tgt := 10) hx hb dX1_addSleeper_6 (by decide) (fun hc => ?_) (fun hc => ?_)
  · have hd := hd.1 hc
    refine lv_aload_n hx hb dX1_addSleeper_10 rfl (lv_at hl 0 rfl) ?_
    refine gf_X1_9_v j0 hj0 C0 hP dX1_addSleeper_11 ?_
    refine lv_aload_n hx hb dX1_addSleeper_14 rfl (lv_at hl 0 rfl) ?_
    refine gf_X1_30_v j0 hj0 C0 hP dX1_addSleeper_15 ?_
    refine lv_iload_n hx hb dX1_addSleeper_18 rfl (lv_at hl 1 rfl) ?_
    obtain ⟨h_1, hd⟩ := hd
    refine stC (kLine _ hj0 0 (by decide)) C0 hP hS (by rw [lLineA _ hj0 0 (by decide)]; exact h_1) dX1_addSleeper_19 (fun H locs hP hS => ?_)
    refine lv_aload_n hx hb dX1_addSleeper_20 rfl (lv_at hl 0 rfl) ?_
    refine gf_X1_15_v j0 hj0 C0 hP dX1_addSleeper_21 ?_
    refine lv_aload_n hx hb dX1_addSleeper_24 rfl (lv_at hl 0 rfl) ?_
    refine gf_X1_30_v j0 hj0 C0 hP dX1_addSleeper_25 ?_
    refine lv_iload_n hx hb dX1_addSleeper_28 rfl (lv_at hl 2 rfl) ?_
    obtain ⟨h_2, hd⟩ := hd
    refine stC (kLine _ hj0 1 (by decide)) C0 hP hS (by rw [lLineA _ hj0 1 (by decide)]; exact h_2) dX1_addSleeper_29 (fun H locs hP hS => ?_)
    obtain ⟨S_3, eS_3⟩ : ∃ x : sT, x = uA (uA S (20 + 13 * j0 + 0) (upd (vA S (20 + 13 * j0 + 0)) (vI S (20 + 13 * j0 + 6)).toNatClampNeg x1)) (20 + 13 * j0 + 1) (upd (vA (uA S (20 + 13 * j0 + 0) (upd (vA S (20 + 13 * j0 + 0)) (vI S (20 + 13 * j0 + 6)).toNatClampNeg x1)) (20 + 13 * j0 + 1)) (vI (uA S (20 + 13 * j0 + 0) (upd (vA S (20 + 13 * j0 + 0)) (vI S (20 + 13 * j0 + 6)).toNatClampNeg x1)) (20 + 13 * j0 + 6)).toNatClampNeg x2) := ⟨_, rfl⟩
    rw [← eS_3] at hP
    have hd := hd S_3 eS_3
    refine lv_aload_n hx hb dX1_addSleeper_30 rfl (lv_at hl 0 rfl) ?_
    refine gf_X1_18_v j0 hj0 C0 hP dX1_addSleeper_31 ?_
    refine lv_aload_n hx hb dX1_addSleeper_34 rfl (lv_at hl 0 rfl) ?_
    refine gf_X1_30_v j0 hj0 C0 hP dX1_addSleeper_35 ?_
    refine lv_iload_n hx hb dX1_addSleeper_38 rfl (lv_at hl 3 rfl) ?_
    obtain ⟨h_4, hd⟩ := hd
    refine stC (kLine _ hj0 2 (by decide)) C0 hP hS (by rw [lLineA _ hj0 2 (by decide)]; exact h_4) dX1_addSleeper_39 (fun H locs hP hS => ?_)
    refine lv_aload_n hx hb dX1_addSleeper_40 rfl (lv_at hl 0 rfl) ?_
    refine lv_dup hx hb dX1_addSleeper_41 rfl ?_
    refine gf_X1_40_v j0 hj0 C0 hP dX1_addSleeper_42 ?_
    refine lv_iconst (v := 1) hx hb dX1_addSleeper_45 (by decide) ?_
    refine lv_aload_n hx hb dX1_addSleeper_46 rfl (lv_at hl 0 rfl) ?_
    refine gf_X1_30_v j0 hj0 C0 hP dX1_addSleeper_47 ?_
    refine lv_ishl hx hb dX1_addSleeper_50 ?_
    refine lv_ior hx hb dX1_addSleeper_51 ?_
    refine pf_X1_40_v j0 hj0 C0 hP hS dX1_addSleeper_52 (fun H locs hP hS => ?_)
    obtain ⟨S_5, eS_5⟩ : ∃ x : sT, x = uI (uA S_3 (20 + 13 * j0 + 2) (upd (vA S_3 (20 + 13 * j0 + 2)) (vI S_3 (20 + 13 * j0 + 6)).toNatClampNeg x3)) (20 + 13 * j0 + 9) ((vI (uA S_3 (20 + 13 * j0 + 2) (upd (vA S_3 (20 + 13 * j0 + 2)) (vI S_3 (20 + 13 * j0 + 6)).toNatClampNeg x3)) (20 + 13 * j0 + 9)) ||| ((1 : Int32) <<< ((vI (uA S_3 (20 + 13 * j0 + 2) (upd (vA S_3 (20 + 13 * j0 + 2)) (vI S_3 (20 + 13 * j0 + 6)).toNatClampNeg x3)) (20 + 13 * j0 + 6)) &&& 31))) := ⟨_, rfl⟩
    rw [← eS_5] at hP
    have hd := hd S_5 eS_5
    refine lv_aload_n hx hb dX1_addSleeper_55 rfl (lv_at hl 0 rfl) ?_
    refine lv_dup hx hb dX1_addSleeper_56 rfl ?_
    refine gf_X1_30_v j0 hj0 C0 hP dX1_addSleeper_57 ?_
    refine lv_iconst (v := 1) hx hb dX1_addSleeper_60 (by decide) ?_
    refine lv_iadd hx hb dX1_addSleeper_61 ?_
    refine pf_X1_30_v j0 hj0 C0 hP hS dX1_addSleeper_62 (fun H locs hP hS => ?_)
    exact hret _ _ _ _ _ hd hP hS dX1_addSleeper_65
  · have hd := hd.2 hc
    exact hret _ _ _ _ _ hd hP hS dX1_addSleeper_9
theorem c_X1_addSleeper (l : Launch) {D : va_G} {cA : Nat → ClassId} {h : Nat → Nat} (hk : ky keysC h) {j0 : Nat} (hj0 : j0 < 5) {x1 : Int32} {x2 : Int32} {x3 : Int32} {S : sT} (sz : Nat) {Q : sT → Prop} (hd : wp_X1_addSleeper j0 x1 x2 x3 S Q) : Met l yX1_addSleeper (wsU yX1_addSleeper cX1_addSleeper 4 none) rm_X1_addSleeper (va_Pc [.ref (h (1003 + j0)), .int x1, .int x2, .int x3] (gP D cA true keysC h (wC h cA) S sz)) (va_Qv Q (wB D (wC h cA)) (aK keysC h sz)) 0 0 (aK keysC h sz) :=
  mk_v (by decide) hk (Nat.le_of_ble_eq_true rfl) (fun p e s m below meth c Z ls C0 hret hP hS hl => bk_X1_addSleeper C0 hret hj0 hP hS hd hl)
abbrev rm_X1_become : Room := { frames := 1, cells := 0, slots := 0, locals := 60 }
def wp_X1_become (j0 : Nat) (j1 : Nat) (S : sT) (Q : sT → Prop) : Prop :=
  (¬ (0 : Int32) < 0) ∧ (¬ (0 : Int32) < 0) ∧ (¬ (6 : Int32) < 0) ∧ ((0 : Int32).toNatClampNeg + (6 : Int32).toNatClampNeg ≤ 6) ∧ ((0 : Int32).toNatClampNeg + (6 : Int32).toNatClampNeg ≤ 6) ∧ ∀ S_7 : sT, S_7 = uA S (20 + 13 * j0 + 0) (va_cpy (vA S (20 + 13 * j1 + 0)) (vA S (20 + 13 * j0 + 0)) (0 : Int32).toNatClampNeg (0 : Int32).toNatClampNeg (6 : Int32).toNatClampNeg) → (¬ (0 : Int32) < 0) ∧ (¬ (0 : Int32) < 0) ∧ (¬ (6 : Int32) < 0) ∧ ((0 : Int32).toNatClampNeg + (6 : Int32).toNatClampNeg ≤ 6) ∧ ((0 : Int32).toNatClampNeg + (6 : Int32).toNatClampNeg ≤ 6) ∧ ∀ S_14 : sT, S_14 = uA S_7 (20 + 13 * j0 + 1) (va_cpy (vA S_7 (20 + 13 * j1 + 1)) (vA S_7 (20 + 13 * j0 + 1)) (0 : Int32).toNatClampNeg (0 : Int32).toNatClampNeg (6 : Int32).toNatClampNeg) → (¬ (0 : Int32) < 0) ∧ (¬ (0 : Int32) < 0) ∧ (¬ (6 : Int32) < 0) ∧ ((0 : Int32).toNatClampNeg + (6 : Int32).toNatClampNeg ≤ 6) ∧ ((0 : Int32).toNatClampNeg + (6 : Int32).toNatClampNeg ≤ 6) ∧ ∀ S_21 : sT, S_21 = uA S_14 (20 + 13 * j0 + 2) (va_cpy (vA S_14 (20 + 13 * j1 + 2)) (vA S_14 (20 + 13 * j0 + 2)) (0 : Int32).toNatClampNeg (0 : Int32).toNatClampNeg (6 : Int32).toNatClampNeg) → (¬ (0 : Int32) < 0) ∧ (¬ (0 : Int32) < 0) ∧ (¬ (40 : Int32) < 0) ∧ ((0 : Int32).toNatClampNeg + (40 : Int32).toNatClampNeg ≤ 40) ∧ ((0 : Int32).toNatClampNeg + (40 : Int32).toNatClampNeg ≤ 40) ∧ ∀ S_28 : sT, S_28 = uA S_21 (20 + 13 * j0 + 3) (va_cpy (vA S_21 (20 + 13 * j1 + 3)) (vA S_21 (20 + 13 * j0 + 3)) (0 : Int32).toNatClampNeg (0 : Int32).toNatClampNeg (40 : Int32).toNatClampNeg) → (¬ (0 : Int32) < 0) ∧ (¬ (0 : Int32) < 0) ∧ (¬ (40 : Int32) < 0) ∧ ((0 : Int32).toNatClampNeg + (40 : Int32).toNatClampNeg ≤ 40) ∧ ((0 : Int32).toNatClampNeg + (40 : Int32).toNatClampNeg ≤ 40) ∧ ∀ S_35 : sT, S_35 = uA S_28 (20 + 13 * j0 + 4) (va_cpy (vA S_28 (20 + 13 * j1 + 4)) (vA S_28 (20 + 13 * j0 + 4)) (0 : Int32).toNatClampNeg (0 : Int32).toNatClampNeg (40 : Int32).toNatClampNeg) → (¬ (0 : Int32) < 0) ∧ (¬ (0 : Int32) < 0) ∧ (¬ (40 : Int32) < 0) ∧ ((0 : Int32).toNatClampNeg + (40 : Int32).toNatClampNeg ≤ 40) ∧ ((0 : Int32).toNatClampNeg + (40 : Int32).toNatClampNeg ≤ 40) ∧ ∀ S_42 : sT, S_42 = uA S_35 (20 + 13 * j0 + 5) (va_cpy (vA S_35 (20 + 13 * j1 + 5)) (vA S_35 (20 + 13 * j0 + 5)) (0 : Int32).toNatClampNeg (0 : Int32).toNatClampNeg (40 : Int32).toNatClampNeg) → ∀ S_43 : sT, S_43 = uI (uI S_42 (20 + 13 * j0 + 6) (vI S_42 (20 + 13 * j1 + 6))) (20 + 13 * j0 + 7) (vI (uI S_42 (20 + 13 * j0 + 6) (vI S_42 (20 + 13 * j1 + 6))) (20 + 13 * j1 + 7)) → ∀ S_44 : sT, S_44 = uI (uI S_43 (20 + 13 * j0 + 8) (vI S_43 (20 + 13 * j1 + 8))) (20 + 13 * j0 + 9) (vI (uI S_43 (20 + 13 * j0 + 8) (vI S_43 (20 + 13 * j1 + 8))) (20 + 13 * j1 + 9)) → ∀ S_45 : sT, S_45 = uI (uI S_44 (20 + 13 * j0 + 10) (vI S_44 (20 + 13 * j1 + 10))) (20 + 13 * j0 + 11) (vI (uI S_44 (20 + 13 * j0 + 10) (vI S_44 (20 + 13 * j1 + 10))) (20 + 13 * j1 + 11)) → Q (uI S_45 (20 + 13 * j0 + 12) (vI S_45 (20 + 13 * j1 + 12)))
set_option maxHeartbeats 4000000 in
set_option maxRecDepth 100000 in
theorem bk_X1_become {p : Program} {l : Launch} {e : Env} {s : State} {m : MethodId} {args : Array Value} {below : List Frame} {meth : Method} {c : Code} {Z : State → Prop} {D : va_G} {cA : Nat → ClassId} {h : Nat → Nat} {Q : sT → Prop} {j0 : Nat} {j1 : Nat} (C0 : cx p s m args c cX1_become 2 RX1 D cA true keysC h) (hret : rtV p l e rm_X1_become s m args below meth c cX1_become Z D (wC h cA) (aK keysC h s.heap.size) Q) (hj0 : j0 < 5) (hj1 : j1 < 5) {S : sT} {H : Heap} {locs : List Loc} {ls : Array Slot} (hP : va_P D vwCl (wC h cA S) H) (hS : va_S (aK keysC h s.heap.size) s.heap H locs) (hd : wp_X1_become j0 j1 S Q) (hl : lv_has ls 2 [(0, .ref (h (1003 + j0))), (1, .ref (h (1003 + j1)))]) : W p l e rm_X1_become s m args below meth c H locs 0 0 Z (F0 m 0 ls []) := by
  obtain ⟨⟨hx, hb, hml, hown, hts⟩, hK, -, -⟩ := id C0
  unfold wp_X1_become at hd
  refine lv_aload_n hx hb dX1_become_0 rfl (lv_at hl 1 rfl) ?_
  refine gf_X1_9_v j1 hj1 C0 hP dX1_become_1 ?_
  refine lv_iconst (v := 0) hx hb dX1_become_4 (by decide) ?_
  refine lv_aload_n hx hb dX1_become_5 rfl (lv_at hl 0 rfl) ?_
  refine gf_X1_9_v j0 hj0 C0 hP dX1_become_6 ?_
  refine lv_iconst (v := 0) hx hb dX1_become_9 (by decide) ?_
  refine lv_bipush (v := 6) hx hb dX1_become_10 (by decide) ?_
  obtain ⟨h_1, hd⟩ := hd
  obtain ⟨h_2, hd⟩ := hd
  obtain ⟨h_3, hd⟩ := hd
  obtain ⟨h_4, hd⟩ := hd
  obtain ⟨h_5, hd⟩ := hd
  obtain ⟨qa6, hqa6, -⟩ := iC_at (k := 20 + 13 * j1 + 0) h cA S (kLine _ hj1 0 (by decide))
  obtain ⟨qb6, hqb6, hsb6⟩ := iC_at (k := 20 + 13 * j0 + 0) h cA S (kLine _ hj0 0 (by decide))
  refine va_copyi hx hb (by rw [hml]; exact hl.1.symm) hown (hts _ lm_X1_52) (hts _ ln_ac) (hts _ ls_ac) (hts _ lz_RJ10) hK.1 hP (wD (wC_fst h cA _) C0.2.2.1 _) hS qa6 qb6 0 0 hqa6 hqb6 rfl rfl rfl h_1 h_2 h_3 (by rw [lLineA _ hj1 0 (by decide)]; exact h_4) (by rw [lLineA _ hj0 0 (by decide)]; exact h_5) (fun _ _ => rfl) (by decide) (by decide) dX1_become_12 (fun H locs hP _ hS => ?_)
  rw [hsb6] at hP
  obtain ⟨S_7, eS_7⟩ : ∃ x : sT, x = uA S (20 + 13 * j0 + 0) (va_cpy (vA S (20 + 13 * j1 + 0)) (vA S (20 + 13 * j0 + 0)) (0 : Int32).toNatClampNeg (0 : Int32).toNatClampNeg (6 : Int32).toNatClampNeg) := ⟨_, rfl⟩
  rw [← eS_7] at hP
  have hd := hd S_7 eS_7
  refine lv_aload_n hx hb dX1_become_15 rfl (lv_at hl 1 rfl) ?_
  refine gf_X1_15_v j1 hj1 C0 hP dX1_become_16 ?_
  refine lv_iconst (v := 0) hx hb dX1_become_19 (by decide) ?_
  refine lv_aload_n hx hb dX1_become_20 rfl (lv_at hl 0 rfl) ?_
  refine gf_X1_15_v j0 hj0 C0 hP dX1_become_21 ?_
  refine lv_iconst (v := 0) hx hb dX1_become_24 (by decide) ?_
  refine lv_bipush (v := 6) hx hb dX1_become_25 (by decide) ?_
  obtain ⟨h_8, hd⟩ := hd
  obtain ⟨h_9, hd⟩ := hd
  obtain ⟨h_10, hd⟩ := hd
  obtain ⟨h_11, hd⟩ := hd
  obtain ⟨h_12, hd⟩ := hd
  obtain ⟨qa13, hqa13, -⟩ := iC_at (k := 20 + 13 * j1 + 1) h cA S_7 (kLine _ hj1 1 (by decide))
  obtain ⟨qb13, hqb13, hsb13⟩ := iC_at (k := 20 + 13 * j0 + 1) h cA S_7 (kLine _ hj0 1 (by decide))
  refine va_copyi hx hb (by rw [hml]; exact hl.1.symm) hown (hts _ lm_X1_52) (hts _ ln_ac) (hts _ ls_ac) (hts _ lz_RJ10) hK.1 hP (wD (wC_fst h cA _) C0.2.2.1 _) hS qa13 qb13 0 0 hqa13 hqb13 rfl rfl rfl h_8 h_9 h_10 (by rw [lLineA _ hj1 1 (by decide)]; exact h_11) (by rw [lLineA _ hj0 1 (by decide)]; exact h_12) (fun _ _ => rfl) (by decide) (by decide) dX1_become_27 (fun H locs hP _ hS => ?_)
  rw [hsb13] at hP
  obtain ⟨S_14, eS_14⟩ : ∃ x : sT, x = uA S_7 (20 + 13 * j0 + 1) (va_cpy (vA S_7 (20 + 13 * j1 + 1)) (vA S_7 (20 + 13 * j0 + 1)) (0 : Int32).toNatClampNeg (0 : Int32).toNatClampNeg (6 : Int32).toNatClampNeg) := ⟨_, rfl⟩
  rw [← eS_14] at hP
  have hd := hd S_14 eS_14
  refine lv_aload_n hx hb dX1_become_30 rfl (lv_at hl 1 rfl) ?_
  refine gf_X1_18_v j1 hj1 C0 hP dX1_become_31 ?_
  refine lv_iconst (v := 0) hx hb dX1_become_34 (by decide) ?_
  refine lv_aload_n hx hb dX1_become_35 rfl (lv_at hl 0 rfl) ?_
  refine gf_X1_18_v j0 hj0 C0 hP dX1_become_36 ?_
  refine lv_iconst (v := 0) hx hb dX1_become_39 (by decide) ?_
  refine lv_bipush (v := 6) hx hb dX1_become_40 (by decide) ?_
  obtain ⟨h_15, hd⟩ := hd
  obtain ⟨h_16, hd⟩ := hd
  obtain ⟨h_17, hd⟩ := hd
  obtain ⟨h_18, hd⟩ := hd
  obtain ⟨h_19, hd⟩ := hd
  obtain ⟨qa20, hqa20, -⟩ := iC_at (k := 20 + 13 * j1 + 2) h cA S_14 (kLine _ hj1 2 (by decide))
  obtain ⟨qb20, hqb20, hsb20⟩ := iC_at (k := 20 + 13 * j0 + 2) h cA S_14 (kLine _ hj0 2 (by decide))
  refine va_copyi hx hb (by rw [hml]; exact hl.1.symm) hown (hts _ lm_X1_52) (hts _ ln_ac) (hts _ ls_ac) (hts _ lz_RJ10) hK.1 hP (wD (wC_fst h cA _) C0.2.2.1 _) hS qa20 qb20 0 0 hqa20 hqb20 rfl rfl rfl h_15 h_16 h_17 (by rw [lLineA _ hj1 2 (by decide)]; exact h_18) (by rw [lLineA _ hj0 2 (by decide)]; exact h_19) (fun _ _ => rfl) (by decide) (by decide) dX1_become_42 (fun H locs hP _ hS => ?_)
  rw [hsb20] at hP
  obtain ⟨S_21, eS_21⟩ : ∃ x : sT, x = uA S_14 (20 + 13 * j0 + 2) (va_cpy (vA S_14 (20 + 13 * j1 + 2)) (vA S_14 (20 + 13 * j0 + 2)) (0 : Int32).toNatClampNeg (0 : Int32).toNatClampNeg (6 : Int32).toNatClampNeg) := ⟨_, rfl⟩
  rw [← eS_21] at hP
  have hd := hd S_21 eS_21
  refine lv_aload_n hx hb dX1_become_45 rfl (lv_at hl 1 rfl) ?_
  refine gf_X1_21_v j1 hj1 C0 hP dX1_become_46 ?_
  refine lv_iconst (v := 0) hx hb dX1_become_49 (by decide) ?_
  refine lv_aload_n hx hb dX1_become_50 rfl (lv_at hl 0 rfl) ?_
  refine gf_X1_21_v j0 hj0 C0 hP dX1_become_51 ?_
  refine lv_iconst (v := 0) hx hb dX1_become_54 (by decide) ?_
  refine lv_bipush (v := 40) hx hb dX1_become_55 (by decide) ?_
  obtain ⟨h_22, hd⟩ := hd
  obtain ⟨h_23, hd⟩ := hd
  obtain ⟨h_24, hd⟩ := hd
  obtain ⟨h_25, hd⟩ := hd
  obtain ⟨h_26, hd⟩ := hd
  obtain ⟨qa27, hqa27, -⟩ := iC_at (k := 20 + 13 * j1 + 3) h cA S_21 (kLine _ hj1 3 (by decide))
  obtain ⟨qb27, hqb27, hsb27⟩ := iC_at (k := 20 + 13 * j0 + 3) h cA S_21 (kLine _ hj0 3 (by decide))
  refine va_copyi hx hb (by rw [hml]; exact hl.1.symm) hown (hts _ lm_X1_52) (hts _ ln_ac) (hts _ ls_ac) (hts _ lz_RJ10) hK.1 hP (wD (wC_fst h cA _) C0.2.2.1 _) hS qa27 qb27 0 0 hqa27 hqb27 rfl rfl rfl h_22 h_23 h_24 (by rw [lLineB _ hj1 3 (by decide) (by decide)]; exact h_25) (by rw [lLineB _ hj0 3 (by decide) (by decide)]; exact h_26) (fun _ _ => rfl) (by decide) (by decide) dX1_become_57 (fun H locs hP _ hS => ?_)
  rw [hsb27] at hP
  obtain ⟨S_28, eS_28⟩ : ∃ x : sT, x = uA S_21 (20 + 13 * j0 + 3) (va_cpy (vA S_21 (20 + 13 * j1 + 3)) (vA S_21 (20 + 13 * j0 + 3)) (0 : Int32).toNatClampNeg (0 : Int32).toNatClampNeg (40 : Int32).toNatClampNeg) := ⟨_, rfl⟩
  rw [← eS_28] at hP
  have hd := hd S_28 eS_28
  refine lv_aload_n hx hb dX1_become_60 rfl (lv_at hl 1 rfl) ?_
  refine gf_X1_24_v j1 hj1 C0 hP dX1_become_61 ?_
  refine lv_iconst (v := 0) hx hb dX1_become_64 (by decide) ?_
  refine lv_aload_n hx hb dX1_become_65 rfl (lv_at hl 0 rfl) ?_
  refine gf_X1_24_v j0 hj0 C0 hP dX1_become_66 ?_
  refine lv_iconst (v := 0) hx hb dX1_become_69 (by decide) ?_
  refine lv_bipush (v := 40) hx hb dX1_become_70 (by decide) ?_
  obtain ⟨h_29, hd⟩ := hd
  obtain ⟨h_30, hd⟩ := hd
  obtain ⟨h_31, hd⟩ := hd
  obtain ⟨h_32, hd⟩ := hd
  obtain ⟨h_33, hd⟩ := hd
  obtain ⟨qa34, hqa34, -⟩ := iC_at (k := 20 + 13 * j1 + 4) h cA S_28 (kLine _ hj1 4 (by decide))
  obtain ⟨qb34, hqb34, hsb34⟩ := iC_at (k := 20 + 13 * j0 + 4) h cA S_28 (kLine _ hj0 4 (by decide))
  refine va_copyi hx hb (by rw [hml]; exact hl.1.symm) hown (hts _ lm_X1_52) (hts _ ln_ac) (hts _ ls_ac) (hts _ lz_RJ10) hK.1 hP (wD (wC_fst h cA _) C0.2.2.1 _) hS qa34 qb34 0 0 hqa34 hqb34 rfl rfl rfl h_29 h_30 h_31 (by rw [lLineB _ hj1 4 (by decide) (by decide)]; exact h_32) (by rw [lLineB _ hj0 4 (by decide) (by decide)]; exact h_33) (fun _ _ => rfl) (by decide) (by decide) dX1_become_72 (fun H locs hP _ hS => ?_)
  rw [hsb34] at hP
  obtain ⟨S_35, eS_35⟩ : ∃ x : sT, x = uA S_28 (20 + 13 * j0 + 4) (va_cpy (vA S_28 (20 + 13 * j1 + 4)) (vA S_28 (20 + 13 * j0 + 4)) (0 : Int32).toNatClampNeg (0 : Int32).toNatClampNeg (40 : Int32).toNatClampNeg) := ⟨_, rfl⟩
  rw [← eS_35] at hP
  have hd := hd S_35 eS_35
  refine lv_aload_n hx hb dX1_become_75 rfl (lv_at hl 1 rfl) ?_
  refine gf_X1_27_v j1 hj1 C0 hP dX1_become_76 ?_
  refine lv_iconst (v := 0) hx hb dX1_become_79 (by decide) ?_
  refine lv_aload_n hx hb dX1_become_80 rfl (lv_at hl 0 rfl) ?_
  refine gf_X1_27_v j0 hj0 C0 hP dX1_become_81 ?_
  refine lv_iconst (v := 0) hx hb dX1_become_84 (by decide) ?_
  refine lv_bipush (v := 40) hx hb dX1_become_85 (by decide) ?_
  obtain ⟨h_36, hd⟩ := hd
  obtain ⟨h_37, hd⟩ := hd
  obtain ⟨h_38, hd⟩ := hd
  obtain ⟨h_39, hd⟩ := hd
  obtain ⟨h_40, hd⟩ := hd
  obtain ⟨qa41, hqa41, -⟩ := iC_at (k := 20 + 13 * j1 + 5) h cA S_35 (kLine _ hj1 5 (by decide))
  obtain ⟨qb41, hqb41, hsb41⟩ := iC_at (k := 20 + 13 * j0 + 5) h cA S_35 (kLine _ hj0 5 (by decide))
  refine va_copyi hx hb (by rw [hml]; exact hl.1.symm) hown (hts _ lm_X1_52) (hts _ ln_ac) (hts _ ls_ac) (hts _ lz_RJ10) hK.1 hP (wD (wC_fst h cA _) C0.2.2.1 _) hS qa41 qb41 0 0 hqa41 hqb41 rfl rfl rfl h_36 h_37 h_38 (by rw [lLineB _ hj1 5 (by decide) (by decide)]; exact h_39) (by rw [lLineB _ hj0 5 (by decide) (by decide)]; exact h_40) (fun _ _ => rfl) (by decide) (by decide) dX1_become_87 (fun H locs hP _ hS => ?_)
  rw [hsb41] at hP
  obtain ⟨S_42, eS_42⟩ : ∃ x : sT, x = uA S_35 (20 + 13 * j0 + 5) (va_cpy (vA S_35 (20 + 13 * j1 + 5)) (vA S_35 (20 + 13 * j0 + 5)) (0 : Int32).toNatClampNeg (0 : Int32).toNatClampNeg (40 : Int32).toNatClampNeg) := ⟨_, rfl⟩
  rw [← eS_42] at hP
  have hd := hd S_42 eS_42
  refine lv_aload_n hx hb dX1_become_90 rfl (lv_at hl 0 rfl) ?_
  refine lv_aload_n hx hb dX1_become_91 rfl (lv_at hl 1 rfl) ?_
  refine gf_X1_30_v j1 hj1 C0 hP dX1_become_92 ?_
  refine pf_X1_30_v j0 hj0 C0 hP hS dX1_become_95 (fun H locs hP hS => ?_)
  refine lv_aload_n hx hb dX1_become_98 rfl (lv_at hl 0 rfl) ?_
  refine lv_aload_n hx hb dX1_become_99 rfl (lv_at hl 1 rfl) ?_
  refine gf_X1_34_v j1 hj1 C0 hP dX1_become_100 ?_
  refine pf_X1_34_v j0 hj0 C0 hP hS dX1_become_103 (fun H locs hP hS => ?_)
  obtain ⟨S_43, eS_43⟩ : ∃ x : sT, x = uI (uI S_42 (20 + 13 * j0 + 6) (vI S_42 (20 + 13 * j1 + 6))) (20 + 13 * j0 + 7) (vI (uI S_42 (20 + 13 * j0 + 6) (vI S_42 (20 + 13 * j1 + 6))) (20 + 13 * j1 + 7)) := ⟨_, rfl⟩
  rw [← eS_43] at hP
  have hd := hd S_43 eS_43
  refine lv_aload_n hx hb dX1_become_106 rfl (lv_at hl 0 rfl) ?_
  refine lv_aload_n hx hb dX1_become_107 rfl (lv_at hl 1 rfl) ?_
  refine gf_X1_37_v j1 hj1 C0 hP dX1_become_108 ?_
  refine pf_X1_37_v j0 hj0 C0 hP hS dX1_become_111 (fun H locs hP hS => ?_)
  refine lv_aload_n hx hb dX1_become_114 rfl (lv_at hl 0 rfl) ?_
  refine lv_aload_n hx hb dX1_become_115 rfl (lv_at hl 1 rfl) ?_
  refine gf_X1_40_v j1 hj1 C0 hP dX1_become_116 ?_
  refine pf_X1_40_v j0 hj0 C0 hP hS dX1_become_119 (fun H locs hP hS => ?_)
  obtain ⟨S_44, eS_44⟩ : ∃ x : sT, x = uI (uI S_43 (20 + 13 * j0 + 8) (vI S_43 (20 + 13 * j1 + 8))) (20 + 13 * j0 + 9) (vI (uI S_43 (20 + 13 * j0 + 8) (vI S_43 (20 + 13 * j1 + 8))) (20 + 13 * j1 + 9)) := ⟨_, rfl⟩
  rw [← eS_44] at hP
  have hd := hd S_44 eS_44
  refine lv_aload_n hx hb dX1_become_122 rfl (lv_at hl 0 rfl) ?_
  refine lv_aload_n hx hb dX1_become_123 rfl (lv_at hl 1 rfl) ?_
  refine gf_X1_43_v j1 hj1 C0 hP dX1_become_124 ?_
  refine pf_X1_43_v j0 hj0 C0 hP hS dX1_become_127 (fun H locs hP hS => ?_)
  refine lv_aload_n hx hb dX1_become_130 rfl (lv_at hl 0 rfl) ?_
  refine lv_aload_n hx hb dX1_become_131 rfl (lv_at hl 1 rfl) ?_
  refine gf_X1_46_v j1 hj1 C0 hP dX1_become_132 ?_
  refine pf_X1_46_v j0 hj0 C0 hP hS dX1_become_135 (fun H locs hP hS => ?_)
  obtain ⟨S_45, eS_45⟩ : ∃ x : sT, x = uI (uI S_44 (20 + 13 * j0 + 10) (vI S_44 (20 + 13 * j1 + 10))) (20 + 13 * j0 + 11) (vI (uI S_44 (20 + 13 * j0 + 10) (vI S_44 (20 + 13 * j1 + 10))) (20 + 13 * j1 + 11)) := ⟨_, rfl⟩
  rw [← eS_45] at hP
  have hd := hd S_45 eS_45
  refine lv_aload_n hx hb dX1_become_138 rfl (lv_at hl 0 rfl) ?_
  refine lv_aload_n hx hb dX1_become_139 rfl (lv_at hl 1 rfl) ?_
  refine gf_X1_49_v j1 hj1 C0 hP dX1_become_140 ?_
  refine pf_X1_49_v j0 hj0 C0 hP hS dX1_become_143 (fun H locs hP hS => ?_)
  exact hret _ _ _ _ _ hd hP hS dX1_become_146
theorem c_X1_become (l : Launch) {D : va_G} {cA : Nat → ClassId} {h : Nat → Nat} (hk : ky keysC h) {j0 : Nat} {j1 : Nat} (hj0 : j0 < 5) (hj1 : j1 < 5) {S : sT} (sz : Nat) {Q : sT → Prop} (hd : wp_X1_become j0 j1 S Q) : Met l yX1_become (wsU yX1_become cX1_become 2 none) rm_X1_become (va_Pc [.ref (h (1003 + j0)), .ref (h (1003 + j1))] (gP D cA true keysC h (wC h cA) S sz)) (va_Qv Q (wB D (wC h cA)) (aK keysC h sz)) 0 0 (aK keysC h sz) :=
  mk_v (by decide) hk (Nat.le_of_ble_eq_true rfl) (fun p e s m below meth c Z ls C0 hret hP hS hl => bk_X1_become C0 hret hj0 hj1 hP hS hd hl)
abbrev rm_X1_begin : Room := { frames := 0, cells := 0, slots := 0, locals := 0 }
def wp_X1_begin (j0 : Nat) (x1 : Int32) (x2 : Int32) (S : sT) (Q : sT → Prop) : Prop :=
  ∀ S_1 : sT, S_1 = uI (uI (uI (uI S (20 + 13 * j0 + 6) (0 : Int32)) (20 + 13 * j0 + 7) x1) (20 + 13 * j0 + 8) x2) (20 + 13 * j0 + 9) (0 : Int32) → Q (uI (uI (uI S_1 (20 + 13 * j0 + 10) (0 : Int32)) (20 + 13 * j0 + 11) (0 : Int32)) (20 + 13 * j0 + 12) (0 : Int32))
set_option maxHeartbeats 4000000 in
set_option maxRecDepth 100000 in
theorem bk_X1_begin {p : Program} {l : Launch} {e : Env} {s : State} {m : MethodId} {args : Array Value} {below : List Frame} {meth : Method} {c : Code} {Z : State → Prop} {D : va_G} {cA : Nat → ClassId} {h : Nat → Nat} {Q : sT → Prop} {j0 : Nat} (C0 : cx p s m args c cX1_begin 3 RX1 D cA true keysC h) (hret : rtV p l e rm_X1_begin s m args below meth c cX1_begin Z D (wC h cA) (aK keysC h s.heap.size) Q) (hj0 : j0 < 5) {x1 : Int32} {x2 : Int32} {S : sT} {H : Heap} {locs : List Loc} {ls : Array Slot} (hP : va_P D vwCl (wC h cA S) H) (hS : va_S (aK keysC h s.heap.size) s.heap H locs) (hd : wp_X1_begin j0 x1 x2 S Q) (hl : lv_has ls 3 [(0, .ref (h (1003 + j0))), (1, .int x1), (2, .int x2)]) : W p l e rm_X1_begin s m args below meth c H locs 0 0 Z (F0 m 0 ls []) := by
  obtain ⟨⟨hx, hb, hml, hown, hts⟩, hK, -, -⟩ := id C0
  unfold wp_X1_begin at hd
  refine lv_aload_n hx hb dX1_begin_0 rfl (lv_at hl 0 rfl) ?_
  refine lv_iconst (v := 0) hx hb dX1_begin_1 (by decide) ?_
  refine pf_X1_30_v j0 hj0 C0 hP hS dX1_begin_2 (fun H locs hP hS => ?_)
  refine lv_aload_n hx hb dX1_begin_5 rfl (lv_at hl 0 rfl) ?_
  refine lv_iload_n hx hb dX1_begin_6 rfl (lv_at hl 1 rfl) ?_
  refine pf_X1_34_v j0 hj0 C0 hP hS dX1_begin_7 (fun H locs hP hS => ?_)
  refine lv_aload_n hx hb dX1_begin_10 rfl (lv_at hl 0 rfl) ?_
  refine lv_iload_n hx hb dX1_begin_11 rfl (lv_at hl 2 rfl) ?_
  refine pf_X1_37_v j0 hj0 C0 hP hS dX1_begin_12 (fun H locs hP hS => ?_)
  refine lv_aload_n hx hb dX1_begin_15 rfl (lv_at hl 0 rfl) ?_
  refine lv_iconst (v := 0) hx hb dX1_begin_16 (by decide) ?_
  refine pf_X1_40_v j0 hj0 C0 hP hS dX1_begin_17 (fun H locs hP hS => ?_)
  obtain ⟨S_1, eS_1⟩ : ∃ x : sT, x = uI (uI (uI (uI S (20 + 13 * j0 + 6) (0 : Int32)) (20 + 13 * j0 + 7) x1) (20 + 13 * j0 + 8) x2) (20 + 13 * j0 + 9) (0 : Int32) := ⟨_, rfl⟩
  rw [← eS_1] at hP
  have hd := hd S_1 eS_1
  refine lv_aload_n hx hb dX1_begin_20 rfl (lv_at hl 0 rfl) ?_
  refine lv_iconst (v := 0) hx hb dX1_begin_21 (by decide) ?_
  refine pf_X1_43_v j0 hj0 C0 hP hS dX1_begin_22 (fun H locs hP hS => ?_)
  refine lv_aload_n hx hb dX1_begin_25 rfl (lv_at hl 0 rfl) ?_
  refine lv_iconst (v := 0) hx hb dX1_begin_26 (by decide) ?_
  refine pf_X1_46_v j0 hj0 C0 hP hS dX1_begin_27 (fun H locs hP hS => ?_)
  refine lv_aload_n hx hb dX1_begin_30 rfl (lv_at hl 0 rfl) ?_
  refine lv_iconst (v := 0) hx hb dX1_begin_31 (by decide) ?_
  refine pf_X1_49_v j0 hj0 C0 hP hS dX1_begin_32 (fun H locs hP hS => ?_)
  exact hret _ _ _ _ _ hd hP hS dX1_begin_35
theorem c_X1_begin (l : Launch) {D : va_G} {cA : Nat → ClassId} {h : Nat → Nat} (hk : ky keysC h) {j0 : Nat} (hj0 : j0 < 5) {x1 : Int32} {x2 : Int32} {S : sT} (sz : Nat) {Q : sT → Prop} (hd : wp_X1_begin j0 x1 x2 S Q) : Met l yX1_begin (wsU yX1_begin cX1_begin 3 none) rm_X1_begin (va_Pc [.ref (h (1003 + j0)), .int x1, .int x2] (gP D cA true keysC h (wC h cA) S sz)) (va_Qv Q (wB D (wC h cA)) (aK keysC h sz)) 0 0 (aK keysC h sz) :=
  mk_v (by decide) hk (Nat.le_of_ble_eq_true rfl) (fun p e s m below meth c Z ls C0 hret hP hS hl => bk_X1_begin C0 hret hj0 hP hS hd hl)
abbrev rm_X1_hasRoomFor : Room := { frames := 0, cells := 0, slots := 0, locals := 0 }
def wp_X1_hasRoomFor (j0 : Nat) (x1 : Int32) (S : sT) (Q : Int32 → sT → Prop) : Prop :=
  ((((40 : Int32) - x1) < (vI S (20 + 13 * j0 + 12)) → Q (0 : Int32) S) ∧ (¬ ((40 : Int32) - x1) < (vI S (20 + 13 * j0 + 12)) → Q (1 : Int32) S))
set_option maxHeartbeats 4000000 in
set_option maxRecDepth 100000 in
theorem bk_X1_hasRoomFor {p : Program} {l : Launch} {e : Env} {s : State} {m : MethodId} {args : Array Value} {below : List Frame} {meth : Method} {c : Code} {Z : State → Prop} {D : va_G} {cA : Nat → ClassId} {h : Nat → Nat} {Q : Int32 → sT → Prop} {j0 : Nat} (C0 : cx p s m args c cX1_hasRoomFor 2 RX1 D cA true keysC h) (hret : rtZ p l e rm_X1_hasRoomFor s m args below meth c cX1_hasRoomFor Z D (wC h cA) (aK keysC h s.heap.size) Q) (hj0 : j0 < 5) {x1 : Int32} {S : sT} {H : Heap} {locs : List Loc} {ls : Array Slot} (hP : va_P D vwCl (wC h cA S) H) (hS : va_S (aK keysC h s.heap.size) s.heap H locs) (hd : wp_X1_hasRoomFor j0 x1 S Q) (hl : lv_has ls 2 [(0, .ref (h (1003 + j0))), (1, .int x1)]) : W p l e rm_X1_hasRoomFor s m args below meth c H locs 0 0 Z (F0 m 0 ls []) := by
  obtain ⟨⟨hx, hb, hml, hown, hts⟩, hK, -, -⟩ := id C0
  unfold wp_X1_hasRoomFor at hd
  refine lv_aload_n hx hb dX1_hasRoomFor_0 rfl (lv_at hl 0 rfl) ?_
  refine gf_X1_49_v j0 hj0 C0 hP dX1_hasRoomFor_1 ?_
  refine lv_bipush (v := 40) hx hb dX1_hasRoomFor_4 (by decide) ?_
  refine lv_iload_n hx hb dX1_hasRoomFor_6 rfl (lv_at hl 1 rfl) ?_
  refine lv_isub hx hb dX1_hasRoomFor_7 ?_
  refine lv_icmp_gt (tgt := 15) hx hb dX1_hasRoomFor_8 (by decide) (fun hc => ?_) (fun hc => ?_)
  · have hd := hd.1 hc
    refine lv_iconst (v := 0) hx hb dX1_hasRoomFor_15 (by decide) ?_
    exact hret _ _ _ _ _ _ rfl hd hP hS dX1_hasRoomFor_16
  · have hd := hd.2 hc
    refine lv_iconst (v := 1) hx hb dX1_hasRoomFor_11 (by decide) ?_
    refine lv_goto (tgt := 16) hx hb dX1_hasRoomFor_12 (by decide) ?_
    exact hret _ _ _ _ _ _ rfl hd hP hS dX1_hasRoomFor_16
theorem c_X1_hasRoomFor (l : Launch) {D : va_G} {cA : Nat → ClassId} {h : Nat → Nat} (hk : ky keysC h) {j0 : Nat} (hj0 : j0 < 5) {x1 : Int32} {S : sT} (sz : Nat) {Q : Int32 → sT → Prop} (hd : wp_X1_hasRoomFor j0 x1 S Q) : Met l yX1_hasRoomFor (wsU yX1_hasRoomFor cX1_hasRoomFor 2 (some .boolean)) rm_X1_hasRoomFor (va_Pc [.ref (h (1003 + j0)), .int x1] (gP D cA true keysC h (wC h cA) S sz)) (va_Qi Q (wB D (wC h cA)) (aK keysC h sz)) 0 0 (aK keysC h sz) :=
  mk_z (by decide) hk (Nat.le_of_ble_eq_true rfl) (fun p e s m below meth c Z ls C0 hret hP hS hl => bk_X1_hasRoomFor C0 hret hj0 hP hS hd hl)
