abbrev rm_X3_bears : Room := { frames := 1, cells := 0, slots := 0, locals := 21 }
def wp_X3_bears (g0 : Nat) (x1 : Int32) (S : sT) (Q : Int32 → sT → Prop) : Prop :=
  wp_X4_isBelow x1 (nI (lenC (200 + g0))) S (fun r_1 S_1 => bo r_1 ∧ Q r_1 S_1)
set_option maxHeartbeats 4000000 in
set_option maxRecDepth 100000 in
theorem bk_X3_bears {p : Program} {l : Launch} {e : Env} {s : State} {m : MethodId} {args : Array Value} {below : List Frame} {meth : Method} {c : Code} {Z : State → Prop} {D : va_G} {cA : Nat → ClassId} {h : Nat → Nat} {Q : Int32 → sT → Prop} {g0 : Nat} (C0 : cx p s m args c cX3_bears 2 RX3 D cA true keysC h) (hret : rtZ p l e rm_X3_bears s m args below meth c cX3_bears Z D (wC h cA) (aK keysC h s.heap.size) Q) (hg0 : g0 < 2) {x1 : Int32} {S : sT} {H : Heap} {locs : List Loc} {ls : Array Slot} (hP : va_P D vwCl (wC h cA S) H) (hS : va_S (aK keysC h s.heap.size) s.heap H locs) (hd : wp_X3_bears g0 x1 S Q) (hl : lv_has ls 2 [(0, .ref (h (1001 + g0))), (1, .int x1)]) : W p l e rm_X3_bears s m args below meth c H locs 0 0 Z (F0 m 0 ls []) := by
  obtain ⟨⟨hx, hb, hml, hown, hts⟩, hK, -, -⟩ := id C0
  unfold wp_X3_bears at hd
  refine lv_iload_n hx hb dX3_bears_0 rfl (lv_at hl 1 rfl) ?_
  refine lv_aload_n hx hb dX3_bears_1 rfl (lv_at hl 0 rfl) ?_
  refine gf_X3_16_v g0 hg0 C0 hP dX3_bears_2 ?_
  refine alC (kSize _ hg0) C0 hP dX3_bears_5 ?_
  refine cl_SNi (n := 2) (rest := []) C0 hP hS (c_X4_isBelow l C0.2.2.1 _ hd) (lwG_C lc_X4_isBelow) (by decide +kernel : (RX3, 26, yX4_isBelow, "DreamTrain") ∈ nestM) lz_RX4 ls_X4_isBelow (by decide +kernel) rfl rfl (Nat.le_of_ble_eq_true rfl) ⟨rfl, rfl⟩ ⟨by decide, by decide⟩ dX3_bears_6 hl.1 ⟨Nat.zero_le _, Nat.zero_le _⟩ (fun r_1 S_1 H locs hd hP hS => ?_)
  exact hret _ _ _ _ _ _ hd.1 hd.2 hP hS dX3_bears_9
theorem c_X3_bears (l : Launch) {D : va_G} {cA : Nat → ClassId} {h : Nat → Nat} (hk : ky keysC h) {g0 : Nat} (hg0 : g0 < 2) {x1 : Int32} {S : sT} (sz : Nat) {Q : Int32 → sT → Prop} (hd : wp_X3_bears g0 x1 S Q) : Met l yX3_bears (wsU yX3_bears cX3_bears 2 (some .boolean)) rm_X3_bears (va_Pc [.ref (h (1001 + g0)), .int x1] (gP D cA true keysC h (wC h cA) S sz)) (va_Qi Q (wB D (wC h cA)) (aK keysC h sz)) 0 0 (aK keysC h sz) :=
  mk_z (by decide) hk (Nat.le_of_ble_eq_true rfl) (fun p e s m below meth c Z ls C0 hret hP hS hl => bk_X3_bears C0 hret hg0 hP hS hd hl)
abbrev rm_X3_holds : Room := { frames := 2, cells := 0, slots := 0, locals := 42 }
def wp_X3_holds (g0 : Nat) (x1 : Int32) (S : sT) (Q : Int32 → sT → Prop) : Prop :=
  wp_X3_bears g0 x1 S (fun r_1 S_1 => ((r_1 = 0 → Q (0 : Int32) S_1) ∧ (¬ r_1 = 0 → (vp_in x1 (lenC (200 + g0))) ∧ (((vA S_1 (200 + g0) x1.toNatClampNeg) = (-1 : Int32) → Q (0 : Int32) S_1) ∧ (¬ (vA S_1 (200 + g0) x1.toNatClampNeg) = (-1 : Int32) → Q (1 : Int32) S_1)))))
set_option maxHeartbeats 4000000 in
set_option maxRecDepth 100000 in
theorem bk_X3_holds {p : Program} {l : Launch} {e : Env} {s : State} {m : MethodId} {args : Array Value} {below : List Frame} {meth : Method} {c : Code} {Z : State → Prop} {D : va_G} {cA : Nat → ClassId} {h : Nat → Nat} {Q : Int32 → sT → Prop} {g0 : Nat} (C0 : cx p s m args c cX3_holds 2 RX3 D cA true keysC h) (hret : rtZ p l e rm_X3_holds s m args below meth c cX3_holds Z D (wC h cA) (aK keysC h s.heap.size) Q) (hg0 : g0 < 2) {x1 : Int32} {S : sT} {H : Heap} {locs : List Loc} {ls : Array Slot} (hP : va_P D vwCl (wC h cA S) H) (hS : va_S (aK keysC h s.heap.size) s.heap H locs) (hd : wp_X3_holds g0 x1 S Q) (hl : lv_has ls 2 [(0, .ref (h (1001 + g0))), (1, .int x1)]) : W p l e rm_X3_holds s m args below meth c H locs 0 0 Z (F0 m 0 ls []) := by
  obtain ⟨⟨hx, hb, hml, hown, hts⟩, hK, -, -⟩ := id C0
  unfold wp_X3_holds at hd
  refine lv_aload_n hx hb dX3_holds_0 rfl (lv_at hl 0 rfl) ?_
  refine lv_iload_n hx hb dX3_holds_1 rfl (lv_at hl 1 rfl) ?_
  refine cl_Vi (n := 1) (rest := []) C0 hP hS (c_X3_bears l C0.2.2.1 hg0 _ hd) (lwG_V lm_X3_30 li_X3_bears lx_X3_bears lz_RX3 lc_X3_bears) (by decide +kernel) (oS_at h cA _ g0 hg0) rfl rfl rfl (Nat.le_of_ble_eq_true rfl) ⟨rfl, rfl⟩ ⟨by decide, by decide⟩ dX3_holds_2 hl.1 ⟨Nat.zero_le _, Nat.zero_le _⟩ (fun r_1 S_1 H locs hd hP hS => ?_)
  refine lv_if_eq (tgt := 22) hx hb dX3_holds_5 (by decide) (fun hc => ?_) (fun hc => ?_)
  · have hd := hd.1 hc
    refine lv_iconst (v := 0) hx hb dX3_holds_22 (by decide) ?_
    exact hret _ _ _ _ _ _ rfl hd hP hS dX3_holds_23
  · have hd := hd.2 hc
    refine lv_aload_n hx hb dX3_holds_8 rfl (lv_at hl 0 rfl) ?_
    refine gf_X3_16_v g0 hg0 C0 hP dX3_holds_9 ?_
    refine lv_iload_n hx hb dX3_holds_12 rfl (lv_at hl 1 rfl) ?_
    obtain ⟨h_2, hd⟩ := hd
    refine ldC (kSize _ hg0) C0 hP h_2 dX3_holds_13 ?_
    refine lv_iconst (v := (-1)) hx hb dX3_holds_14 (by decide) ?_
    refine lv_icmp_eq (tgt := 22) hx hb dX3_holds_15 (by decide) (fun hc => ?_) (fun hc => ?_)
    · have hd := hd.1 hc
      refine lv_iconst (v := 0) hx hb dX3_holds_22 (by decide) ?_
      exact hret _ _ _ _ _ _ rfl hd hP hS dX3_holds_23
    · have hd := hd.2 hc
      refine lv_iconst (v := 1) hx hb dX3_holds_18 (by decide) ?_
      refine lv_goto (tgt := 23) hx hb dX3_holds_19 (by decide) ?_
      exact hret _ _ _ _ _ _ rfl hd hP hS dX3_holds_23
theorem c_X3_holds (l : Launch) {D : va_G} {cA : Nat → ClassId} {h : Nat → Nat} (hk : ky keysC h) {g0 : Nat} (hg0 : g0 < 2) {x1 : Int32} {S : sT} (sz : Nat) {Q : Int32 → sT → Prop} (hd : wp_X3_holds g0 x1 S Q) : Met l yX3_holds (wsU yX3_holds cX3_holds 2 (some .boolean)) rm_X3_holds (va_Pc [.ref (h (1001 + g0)), .int x1] (gP D cA true keysC h (wC h cA) S sz)) (va_Qi Q (wB D (wC h cA)) (aK keysC h sz)) 0 0 (aK keysC h sz) :=
  mk_z (by decide) hk (Nat.le_of_ble_eq_true rfl) (fun p e s m below meth c Z ls C0 hret hP hS hl => bk_X3_holds C0 hret hg0 hP hS hd hl)
abbrev rm_X3_howMany : Room := { frames := 3, cells := 0, slots := 0, locals := 63 }
def wb_X3_howMany_4 (g0 : Nat) (Q : Int32 → sT → Prop) (K4 : Int32 → Int32 → sT → Prop) (x1 : Int32) (x2 : Int32) (S : sT) : Prop :=
  (((nI (lenC (200 + g0))) ≤ x2 → Q x1 S) ∧ (¬ (nI (lenC (200 + g0))) ≤ x2 → wp_X3_holds g0 x2 S (fun r_1 S_1 => wp_X4_bit r_1 S_1 (fun r_2 S_2 => K4 (x1 + r_2) (x2 + (1 : Int32)) S_2))))
set_option maxHeartbeats 4000000 in
set_option maxRecDepth 100000 in
theorem bk_X3_howMany_4 {p : Program} {l : Launch} {e : Env} {s : State} {m : MethodId} {args : Array Value} {below : List Frame} {meth : Method} {c : Code} {Z : State → Prop} {D : va_G} {cA : Nat → ClassId} {h : Nat → Nat} {Q : Int32 → sT → Prop} {g0 : Nat} (C0 : cx p s m args c cX3_howMany 3 RX3 D cA true keysC h) (hret : rtI p l e rm_X3_howMany s m args below meth c cX3_howMany Z D (wC h cA) (aK keysC h s.heap.size) Q) (hg0 : g0 < 2) {K4 : Int32 → Int32 → sT → Prop} (k4 : ∀ (x1 : Int32) (x2 : Int32) (S : sT) (H : Heap) (locs : List Loc) (ls : Array Slot), K4 x1 x2 S → va_P D vwCl (wC h cA S) H → va_S (aK keysC h s.heap.size) s.heap H locs → lv_has ls 3 [(0, .ref (h (1001 + g0))), (1, .int x1), (2, .int x2)] → W p l e rm_X3_howMany s m args below meth c H locs 0 0 Z (F0 m 4 ls [])) {x1 : Int32} {x2 : Int32} {S : sT} {H : Heap} {locs : List Loc} {ls : Array Slot} (hP : va_P D vwCl (wC h cA S) H) (hS : va_S (aK keysC h s.heap.size) s.heap H locs) (hd : wb_X3_howMany_4 g0 Q K4 x1 x2 S) (hl : lv_has ls 3 [(0, .ref (h (1001 + g0))), (1, .int x1), (2, .int x2)]) : W p l e rm_X3_howMany s m args below meth c H locs 0 0 Z (F0 m 4 ls []) := by
  obtain ⟨⟨hx, hb, hml, hown, hts⟩, hK, -, -⟩ := id C0
  unfold wb_X3_howMany_4 at hd
  refine lv_iload_n hx hb dX3_howMany_4 rfl (lv_at hl 2 rfl) ?_
  refine lv_aload_n hx hb dX3_howMany_5 rfl (lv_at hl 0 rfl) ?_
  refine gf_X3_16_v g0 hg0 C0 hP dX3_howMany_6 ?_
  refine alC (kSize _ hg0) C0 hP dX3_howMany_9 ?_
  refine lv_icmp_ge (tgt := 30) hx hb dX3_howMany_10 (by decide) (fun hc => ?_) (fun hc => ?_)
  · have hd := hd.1 hc
    refine lv_iload_n hx hb dX3_howMany_30 rfl (lv_at hl 1 rfl) ?_
    exact hret _ _ _ _ _ _ hd hP hS dX3_howMany_31
  · have hd := hd.2 hc
    refine lv_iload_n hx hb dX3_howMany_13 rfl (lv_at hl 1 rfl) ?_
    refine lv_aload_n hx hb dX3_howMany_14 rfl (lv_at hl 0 rfl) ?_
    refine lv_iload_n hx hb dX3_howMany_15 rfl (lv_at hl 2 rfl) ?_
    refine cl_Vi (n := 1) (rest := [.int x1]) C0 hP hS (c_X3_holds l C0.2.2.1 hg0 _ hd) (lwG_V lm_X3_34 li_X3_holds lx_X3_holds lz_RX3 lc_X3_holds) (by decide +kernel) (oS_at h cA _ g0 hg0) rfl rfl rfl (Nat.le_of_ble_eq_true rfl) ⟨rfl, rfl⟩ ⟨by decide, by decide⟩ dX3_howMany_16 hl.1 ⟨Nat.zero_le _, Nat.zero_le _⟩ (fun r_1 S_1 H locs hd hP hS => ?_)
    refine cl_SNi (n := 1) (rest := [.int x1]) C0 hP hS (c_X4_bit l C0.2.2.1 _ hd) (lwG_C lc_X4_bit) (by decide +kernel : (RX3, 37, yX4_bit, "DreamTrain") ∈ nestM) lz_RX4 ls_X4_bit (by decide +kernel) rfl rfl (Nat.le_of_ble_eq_true rfl) ⟨rfl, rfl⟩ ⟨by decide, by decide⟩ dX3_howMany_19 hl.1 ⟨Nat.zero_le _, Nat.zero_le _⟩ (fun r_2 S_2 H locs hd hP hS => ?_)
    refine lv_iadd hx hb dX3_howMany_22 ?_
    refine lv_istore_n (lv' := [(1, .int (x1 + r_2)), (0, .ref (h (1001 + g0))), (2, .int x2)]) hx hb dX3_howMany_23 rfl hl (by decide) rfl (fun ls hl => ?_)
    refine lv_iinc (v := x2 + (1 : Int32)) (lv' := [(2, .int (x2 + (1 : Int32))), (1, .int (x1 + r_2)), (0, .ref (h (1001 + g0)))]) hx hb dX3_howMany_24 hl (k := 2) rfl rfl (by decide) rfl (fun ls hl => ?_)
    refine lv_goto (tgt := 4) hx hb dX3_howMany_27 (by decide) ?_
    exact k4 _ _ _ _ _ _ hd hP hS (lv_sub hl [2, 1, 0] rfl)
def wl_X3_howMany_4 (g0 : Nat) (Q : Int32 → sT → Prop) : Nat → Int32 → Int32 → sT → Prop
  | 0, _, _ => fun _ => False
  | n + 1, x1, x2 => fun S => wb_X3_howMany_4 g0 Q (fun x1 x2 S => wl_X3_howMany_4 g0 Q n x1 x2 S) x1 x2 S
theorem bl_X3_howMany_4 {p : Program} {l : Launch} {e : Env} {s : State} {m : MethodId} {args : Array Value} {below : List Frame} {meth : Method} {c : Code} {Z : State → Prop} {D : va_G} {cA : Nat → ClassId} {h : Nat → Nat} {Q : Int32 → sT → Prop} {g0 : Nat} (C0 : cx p s m args c cX3_howMany 3 RX3 D cA true keysC h) (hret : rtI p l e rm_X3_howMany s m args below meth c cX3_howMany Z D (wC h cA) (aK keysC h s.heap.size) Q) (hg0 : g0 < 2) : ∀ (n : Nat) (x1 : Int32) (x2 : Int32) (S : sT) (H : Heap) (locs : List Loc) (ls : Array Slot), va_P D vwCl (wC h cA S) H → va_S (aK keysC h s.heap.size) s.heap H locs → wl_X3_howMany_4 g0 Q n x1 x2 S → lv_has ls 3 [(0, .ref (h (1001 + g0))), (1, .int x1), (2, .int x2)] → W p l e rm_X3_howMany s m args below meth c H locs 0 0 Z (F0 m 4 ls []) := by
  intro n
  induction n with
  | zero => intro x1 x2 S H locs ls hP hS hd hl; exact (show False from hd).elim
  | succ n ih => intro x1 x2 S H locs ls hP hS hd hl; exact bk_X3_howMany_4 C0 hret hg0 (fun x1 x2 S H locs ls hd hP hS hl => ih x1 x2 S H locs ls hP hS hd hl) hP hS hd hl
def wp_X3_howMany (g0 : Nat) (S : sT) (Q : Int32 → sT → Prop) : Prop :=
  ∃ n : Nat, wl_X3_howMany_4 g0 Q n (0 : Int32) (0 : Int32) S
set_option maxHeartbeats 4000000 in
set_option maxRecDepth 100000 in
theorem bk_X3_howMany {p : Program} {l : Launch} {e : Env} {s : State} {m : MethodId} {args : Array Value} {below : List Frame} {meth : Method} {c : Code} {Z : State → Prop} {D : va_G} {cA : Nat → ClassId} {h : Nat → Nat} {Q : Int32 → sT → Prop} {g0 : Nat} (C0 : cx p s m args c cX3_howMany 3 RX3 D cA true keysC h) (hret : rtI p l e rm_X3_howMany s m args below meth c cX3_howMany Z D (wC h cA) (aK keysC h s.heap.size) Q) (hg0 : g0 < 2) {S : sT} {H : Heap} {locs : List Loc} {ls : Array Slot} (hP : va_P D vwCl (wC h cA S) H) (hS : va_S (aK keysC h s.heap.size) s.heap H locs) (hd : wp_X3_howMany g0 S Q) (hl : lv_has ls 3 [(0, .ref (h (1001 + g0)))]) : W p l e rm_X3_howMany s m args below meth c H locs 0 0 Z (F0 m 0 ls []) := by
  obtain ⟨⟨hx, hb, hml, hown, hts⟩, hK, -, -⟩ := id C0
  unfold wp_X3_howMany at hd
  refine lv_iconst (v := 0) hx hb dX3_howMany_0 (by decide) ?_
  refine lv_istore_n (lv' := [(1, .int (0 : Int32)), (0, .ref (h (1001 + g0)))]) hx hb dX3_howMany_1 rfl hl (by decide) rfl (fun ls hl => ?_)
  refine lv_iconst (v := 0) hx hb dX3_howMany_2 (by decide) ?_
  refine lv_istore_n (lv' := [(2, .int (0 : Int32)), (1, .int (0 : Int32)), (0, .ref (h (1001 + g0)))]) hx hb dX3_howMany_3 rfl hl (by decide) rfl (fun ls hl => ?_)
  obtain ⟨n_1, hd⟩ := hd
  exact bl_X3_howMany_4 C0 hret hg0 _ _ _ _ _ _ _ hP hS hd (lv_sub hl [2, 1, 0] rfl)
theorem c_X3_howMany (l : Launch) {D : va_G} {cA : Nat → ClassId} {h : Nat → Nat} (hk : ky keysC h) {g0 : Nat} (hg0 : g0 < 2) {S : sT} (sz : Nat) {Q : Int32 → sT → Prop} (hd : wp_X3_howMany g0 S Q) : Met l yX3_howMany (wsU yX3_howMany cX3_howMany 3 (some .int)) rm_X3_howMany (va_Pc [.ref (h (1001 + g0))] (gP D cA true keysC h (wC h cA) S sz)) (va_Qi Q (wB D (wC h cA)) (aK keysC h sz)) 0 0 (aK keysC h sz) :=
  mk_i (by decide) hk (Nat.le_of_ble_eq_true rfl) (fun p e s m below meth c Z ls C0 hret hP hS hl => bk_X3_howMany C0 hret hg0 hP hS hd hl)
abbrev rm_X3_layOut : Room := { frames := 1, cells := 0, slots := 0, locals := 23 }
def wp_X3_layOut (g0 : Nat) (x1 : Int32) (x2 : Int32) (x3 : Int32) (S : sT) (Q : sT → Prop) : Prop :=
  (vp_in x1 (nO g0)) ∧ wp_J7_fill_53178 (300 + 10 * g0 + x1.toNatClampNeg) x3 S (fun S_2 => (vp_in x1 (lenC (200 + g0))) ∧ Q (uA S_2 (200 + g0) (upd (vA S_2 (200 + g0)) x1.toNatClampNeg x2)))
set_option maxHeartbeats 4000000 in
set_option maxRecDepth 100000 in
theorem bk_X3_layOut {p : Program} {l : Launch} {e : Env} {s : State} {m : MethodId} {args : Array Value} {below : List Frame} {meth : Method} {c : Code} {Z : State → Prop} {D : va_G} {cA : Nat → ClassId} {h : Nat → Nat} {Q : sT → Prop} {g0 : Nat} (C0 : cx p s m args c cX3_layOut 4 RX3 D cA true keysC h) (hret : rtV p l e rm_X3_layOut s m args below meth c cX3_layOut Z D (wC h cA) (aK keysC h s.heap.size) Q) (hg0 : g0 < 2) {x1 : Int32} {x2 : Int32} {x3 : Int32} {S : sT} {H : Heap} {locs : List Loc} {ls : Array Slot} (hP : va_P D vwCl (wC h cA S) H) (hS : va_S (aK keysC h s.heap.size) s.heap H locs) (hd : wp_X3_layOut g0 x1 x2 x3 S Q) (hl : lv_has ls 4 [(0, .ref (h (1001 + g0))), (1, .int x1), (2, .int x2), (3, .int x3)]) : W p l e rm_X3_layOut s m args below meth c H locs 0 0 Z (F0 m 0 ls []) := by
  obtain ⟨⟨hx, hb, hml, hown, hts⟩, hK, -, -⟩ := id C0
  unfold wp_X3_layOut at hd
  refine lv_aload_n hx hb dX3_layOut_0 rfl (lv_at hl 0 rfl) ?_
  refine gf_X3_11_v g0 hg0 C0 hP dX3_layOut_1 ?_
  refine lv_iload_n hx hb dX3_layOut_4 rfl (lv_at hl 1 rfl) ?_
  obtain ⟨h_1, hd⟩ := hd
  refine ao_shelf g0 hg0 C0 hP h_1 dX3_layOut_5 ?_
  refine lv_iload_n hx hb dX3_layOut_6 rfl (lv_at hl 3 rfl) ?_
  refine cl_Sv (n := 2) (rest := []) C0 hP hS (c_J7_fill_53178 l C0.2.2.1 (kRow _ hg0 _ (vp_lt h_1)) _ hd) (lwG_S lm_X3_20 ls_J7_fill_53178 lz_RJ7 lc_J7_fill_53178) (by decide +kernel) rfl rfl (Nat.le_of_ble_eq_true rfl) ⟨rfl, rfl⟩ ⟨by decide, by decide⟩ dX3_layOut_7 hl.1 ⟨Nat.zero_le _, Nat.zero_le _⟩ (fun S_2 H locs hd hP hS => ?_)
  refine lv_aload_n hx hb dX3_layOut_10 rfl (lv_at hl 0 rfl) ?_
  refine gf_X3_16_v g0 hg0 C0 hP dX3_layOut_11 ?_
  refine lv_iload_n hx hb dX3_layOut_14 rfl (lv_at hl 1 rfl) ?_
  refine lv_iload_n hx hb dX3_layOut_15 rfl (lv_at hl 2 rfl) ?_
  obtain ⟨h_3, hd⟩ := hd
  refine stC (kSize _ hg0) C0 hP hS h_3 dX3_layOut_16 (fun H locs hP hS => ?_)
  exact hret _ _ _ _ _ hd hP hS dX3_layOut_17
theorem c_X3_layOut (l : Launch) {D : va_G} {cA : Nat → ClassId} {h : Nat → Nat} (hk : ky keysC h) {g0 : Nat} (hg0 : g0 < 2) {x1 : Int32} {x2 : Int32} {x3 : Int32} {S : sT} (sz : Nat) {Q : sT → Prop} (hd : wp_X3_layOut g0 x1 x2 x3 S Q) : Met l yX3_layOut (wsU yX3_layOut cX3_layOut 4 none) rm_X3_layOut (va_Pc [.ref (h (1001 + g0)), .int x1, .int x2, .int x3] (gP D cA true keysC h (wC h cA) S sz)) (va_Qv Q (wB D (wC h cA)) (aK keysC h sz)) 0 0 (aK keysC h sz) :=
  mk_v (by decide) hk (Nat.le_of_ble_eq_true rfl) (fun p e s m below meth c Z ls C0 hret hP hS hl => bk_X3_layOut C0 hret hg0 hP hS hd hl)
abbrev rm_X3_stir : Room := { frames := 0, cells := 0, slots := 0, locals := 0 }
def wb_X3_stir_33 (g0 : Nat) (Q : Int64 → sT → Prop) (K5 : Int64 → Int32 → sT → Prop) (K33 : Int64 → Int32 → Int32 → sT → Prop) (x3 : Int64) (x5 : Int32) (x6 : Int32) (S : sT) : Prop :=
  (vp_in x5 (lenC (200 + g0))) ∧ (((vA S (200 + g0) x5.toNatClampNeg) ≤ x6 → K5 x3 (x5 + (1 : Int32)) S) ∧ (¬ (vA S (200 + g0) x5.toNatClampNeg) ≤ x6 → (vp_in x5 (nO g0)) ∧ (vp_in x6 (nW g0)) ∧ ∀ z_4 : Int64, z_4 = (((31 : Int64) * x3) + ((vA S (300 + 10 * g0 + x5.toNatClampNeg) x6.toNatClampNeg).toInt64)) → K33 z_4 x5 (x6 + (1 : Int32)) S))
set_option maxHeartbeats 4000000 in
set_option maxRecDepth 100000 in
theorem bk_X3_stir_33 {p : Program} {l : Launch} {e : Env} {s : State} {m : MethodId} {args : Array Value} {below : List Frame} {meth : Method} {c : Code} {Z : State → Prop} {D : va_G} {cA : Nat → ClassId} {h : Nat → Nat} {Q : Int64 → sT → Prop} {g0 : Nat} (C0 : cx p s m args c cX3_stir 7 RX3 D cA true keysC h) (hret : rtL p l e rm_X3_stir s m args below meth c cX3_stir Z D (wC h cA) (aK keysC h s.heap.size) Q) (hg0 : g0 < 2) {K5 : Int64 → Int32 → sT → Prop} {K33 : Int64 → Int32 → Int32 → sT → Prop} (k5 : ∀ (x3 : Int64) (x5 : Int32) (S : sT) (H : Heap) (locs : List Loc) (ls : Array Slot), K5 x3 x5 S → va_P D vwCl (wC h cA S) H → va_S (aK keysC h s.heap.size) s.heap H locs → lv_has ls 7 [(0, .ref (h (1001 + g0))), (3, .long x3), (5, .int x5)] → W p l e rm_X3_stir s m args below meth c H locs 0 0 Z (F0 m 5 ls [])) (k33 : ∀ (x3 : Int64) (x5 : Int32) (x6 : Int32) (S : sT) (H : Heap) (locs : List Loc) (ls : Array Slot), K33 x3 x5 x6 S → va_P D vwCl (wC h cA S) H → va_S (aK keysC h s.heap.size) s.heap H locs → lv_has ls 7 [(0, .ref (h (1001 + g0))), (3, .long x3), (5, .int x5), (6, .int x6)] → W p l e rm_X3_stir s m args below meth c H locs 0 0 Z (F0 m 33 ls [])) {x3 : Int64} {x5 : Int32} {x6 : Int32} {S : sT} {H : Heap} {locs : List Loc} {ls : Array Slot} (hP : va_P D vwCl (wC h cA S) H) (hS : va_S (aK keysC h s.heap.size) s.heap H locs) (hd : wb_X3_stir_33 g0 Q K5 K33 x3 x5 x6 S) (hl : lv_has ls 7 [(0, .ref (h (1001 + g0))), (3, .long x3), (5, .int x5), (6, .int x6)]) : W p l e rm_X3_stir s m args below meth c H locs 0 0 Z (F0 m 33 ls []) := by
  obtain ⟨⟨hx, hb, hml, hown, hts⟩, hK, -, -⟩ := id C0
  unfold wb_X3_stir_33 at hd
  refine lv_iload hx hb dX3_stir_33 (lv_at hl 3 rfl) ?_
  refine lv_aload_n hx hb dX3_stir_35 rfl (lv_at hl 0 rfl) ?_
  refine gf_X3_16_v g0 hg0 C0 hP dX3_stir_36 ?_
  refine lv_iload hx hb dX3_stir_39 (lv_at hl 2 rfl) ?_
  obtain ⟨h_1, hd⟩ := hd
  refine ldC (kSize _ hg0) C0 hP h_1 dX3_stir_41 ?_
  refine lv_icmp_ge (tgt := 69) hx hb dX3_stir_42 (by decide) (fun hc => ?_) (fun hc => ?_)
  · have hd := hd.1 hc
    refine lv_iinc (v := x5 + (1 : Int32)) (lv' := [(5, .int (x5 + (1 : Int32))), (0, .ref (h (1001 + g0))), (3, .long x3), (6, .int x6)]) hx hb dX3_stir_69 hl (k := 2) rfl rfl (by decide) rfl (fun ls hl => ?_)
    refine lv_goto (tgt := 5) hx hb dX3_stir_72 (by decide) ?_
    exact k5 _ _ _ _ _ _ hd hP hS (lv_sub hl [1, 2, 0] rfl)
  · have hd := hd.2 hc
    refine lv_ldc2 hx hb hown (hts _ lk_X3_41) dX3_stir_45 ?_
    refine lv_lload_n hx hb dX3_stir_48 rfl (lv_at hl 1 rfl) ?_
    refine lv_lmul hx hb dX3_stir_49 ?_
    refine lv_aload_n hx hb dX3_stir_50 rfl (lv_at hl 0 rfl) ?_
    refine gf_X3_11_v g0 hg0 C0 hP dX3_stir_51 ?_
    refine lv_iload hx hb dX3_stir_54 (lv_at hl 2 rfl) ?_
    obtain ⟨h_2, hd⟩ := hd
    refine ao_shelf g0 hg0 C0 hP h_2 dX3_stir_56 ?_
    refine lv_iload hx hb dX3_stir_57 (lv_at hl 3 rfl) ?_
    obtain ⟨h_3, hd⟩ := hd
    refine ldC (kRow _ hg0 _ (vp_lt h_2)) C0 hP (by rw [lRow _ hg0 _ (vp_lt h_2)]; exact h_3) dX3_stir_59 ?_
    refine lv_i2l hx hb dX3_stir_60 rfl ?_
    refine lv_ladd hx hb dX3_stir_61 ?_
    refine lv_topl (fun z_4 ez_4 => ?_)
    have hd := hd z_4 ez_4
    refine lv_lstore_n (lv' := [(3, .long z_4), (0, .ref (h (1001 + g0))), (5, .int x5), (6, .int x6)]) hx hb dX3_stir_62 rfl hl (by decide) rfl (fun ls hl => ?_)
    refine lv_iinc (v := x6 + (1 : Int32)) (lv' := [(6, .int (x6 + (1 : Int32))), (3, .long z_4), (0, .ref (h (1001 + g0))), (5, .int x5)]) hx hb dX3_stir_63 hl (k := 3) rfl rfl (by decide) rfl (fun ls hl => ?_)
    refine lv_goto (tgt := 33) hx hb dX3_stir_66 (by decide) ?_
    exact k33 _ _ _ _ _ _ _ hd hP hS (lv_sub hl [2, 1, 3, 0] rfl)
def wl_X3_stir_33 (g0 : Nat) (Q : Int64 → sT → Prop) (K5 : Int64 → Int32 → sT → Prop) : Nat → Int64 → Int32 → Int32 → sT → Prop
  | 0, _, _, _ => fun _ => False
  | n + 1, x3, x5, x6 => fun S => wb_X3_stir_33 g0 Q K5 (fun x3 x5 x6 S => wl_X3_stir_33 g0 Q K5 n x3 x5 x6 S) x3 x5 x6 S
theorem bl_X3_stir_33 {p : Program} {l : Launch} {e : Env} {s : State} {m : MethodId} {args : Array Value} {below : List Frame} {meth : Method} {c : Code} {Z : State → Prop} {D : va_G} {cA : Nat → ClassId} {h : Nat → Nat} {Q : Int64 → sT → Prop} {g0 : Nat} (C0 : cx p s m args c cX3_stir 7 RX3 D cA true keysC h) (hret : rtL p l e rm_X3_stir s m args below meth c cX3_stir Z D (wC h cA) (aK keysC h s.heap.size) Q) (hg0 : g0 < 2) {K5 : Int64 → Int32 → sT → Prop} (k5 : ∀ (x3 : Int64) (x5 : Int32) (S : sT) (H : Heap) (locs : List Loc) (ls : Array Slot), K5 x3 x5 S → va_P D vwCl (wC h cA S) H → va_S (aK keysC h s.heap.size) s.heap H locs → lv_has ls 7 [(0, .ref (h (1001 + g0))), (3, .long x3), (5, .int x5)] → W p l e rm_X3_stir s m args below meth c H locs 0 0 Z (F0 m 5 ls [])) : ∀ (n : Nat) (x3 : Int64) (x5 : Int32) (x6 : Int32) (S : sT) (H : Heap) (locs : List Loc) (ls : Array Slot), va_P D vwCl (wC h cA S) H → va_S (aK keysC h s.heap.size) s.heap H locs → wl_X3_stir_33 g0 Q K5 n x3 x5 x6 S → lv_has ls 7 [(0, .ref (h (1001 + g0))), (3, .long x3), (5, .int x5), (6, .int x6)] → W p l e rm_X3_stir s m args below meth c H locs 0 0 Z (F0 m 33 ls []) := by
  intro n
  induction n with
  | zero => intro x3 x5 x6 S H locs ls hP hS hd hl; exact (show False from hd).elim
  | succ n ih => intro x3 x5 x6 S H locs ls hP hS hd hl; exact bk_X3_stir_33 C0 hret hg0 k5 (fun x3 x5 x6 S H locs ls hd hP hS hl => ih x3 x5 x6 S H locs ls hP hS hd hl) hP hS hd hl
def wb_X3_stir_5 (g0 : Nat) (Q : Int64 → sT → Prop) (K5 : Int64 → Int32 → sT → Prop) (x3 : Int64) (x5 : Int32) (S : sT) : Prop :=
  (((nI (lenC (200 + g0))) ≤ x5 → Q x3 S) ∧ (¬ (nI (lenC (200 + g0))) ≤ x5 → (vp_in x5 (lenC (200 + g0))) ∧ ∃ n : Nat, wl_X3_stir_33 g0 Q K5 n (((31 : Int64) * x3) + ((vA S (200 + g0) x5.toNatClampNeg).toInt64)) x5 (0 : Int32) S))
set_option maxHeartbeats 4000000 in
set_option maxRecDepth 100000 in
theorem bk_X3_stir_5 {p : Program} {l : Launch} {e : Env} {s : State} {m : MethodId} {args : Array Value} {below : List Frame} {meth : Method} {c : Code} {Z : State → Prop} {D : va_G} {cA : Nat → ClassId} {h : Nat → Nat} {Q : Int64 → sT → Prop} {g0 : Nat} (C0 : cx p s m args c cX3_stir 7 RX3 D cA true keysC h) (hret : rtL p l e rm_X3_stir s m args below meth c cX3_stir Z D (wC h cA) (aK keysC h s.heap.size) Q) (hg0 : g0 < 2) {K5 : Int64 → Int32 → sT → Prop} (k5 : ∀ (x3 : Int64) (x5 : Int32) (S : sT) (H : Heap) (locs : List Loc) (ls : Array Slot), K5 x3 x5 S → va_P D vwCl (wC h cA S) H → va_S (aK keysC h s.heap.size) s.heap H locs → lv_has ls 7 [(0, .ref (h (1001 + g0))), (3, .long x3), (5, .int x5)] → W p l e rm_X3_stir s m args below meth c H locs 0 0 Z (F0 m 5 ls [])) {x3 : Int64} {x5 : Int32} {S : sT} {H : Heap} {locs : List Loc} {ls : Array Slot} (hP : va_P D vwCl (wC h cA S) H) (hS : va_S (aK keysC h s.heap.size) s.heap H locs) (hd : wb_X3_stir_5 g0 Q K5 x3 x5 S) (hl : lv_has ls 7 [(0, .ref (h (1001 + g0))), (3, .long x3), (5, .int x5)]) : W p l e rm_X3_stir s m args below meth c H locs 0 0 Z (F0 m 5 ls []) := by
  obtain ⟨⟨hx, hb, hml, hown, hts⟩, hK, -, -⟩ := id C0
  unfold wb_X3_stir_5 at hd
  refine lv_iload hx hb dX3_stir_5 (lv_at hl 2 rfl) ?_
  refine lv_aload_n hx hb dX3_stir_7 rfl (lv_at hl 0 rfl) ?_
  refine gf_X3_16_v g0 hg0 C0 hP dX3_stir_8 ?_
  refine alC (kSize _ hg0) C0 hP dX3_stir_11 ?_
  refine lv_icmp_ge (tgt := 75) hx hb dX3_stir_12 (by decide) (fun hc => ?_) (fun hc => ?_)
  · have hd := hd.1 hc
    refine lv_lload_n hx hb dX3_stir_75 rfl (lv_at hl 1 rfl) ?_
    exact hret _ _ _ _ _ _ hd hP hS dX3_stir_76
  · have hd := hd.2 hc
    refine lv_ldc2 hx hb hown (hts _ lk_X3_41) dX3_stir_15 ?_
    refine lv_lload_n hx hb dX3_stir_18 rfl (lv_at hl 1 rfl) ?_
    refine lv_lmul hx hb dX3_stir_19 ?_
    refine lv_aload_n hx hb dX3_stir_20 rfl (lv_at hl 0 rfl) ?_
    refine gf_X3_16_v g0 hg0 C0 hP dX3_stir_21 ?_
    refine lv_iload hx hb dX3_stir_24 (lv_at hl 2 rfl) ?_
    obtain ⟨h_1, hd⟩ := hd
    refine ldC (kSize _ hg0) C0 hP h_1 dX3_stir_26 ?_
    refine lv_i2l hx hb dX3_stir_27 rfl ?_
    refine lv_ladd hx hb dX3_stir_28 ?_
    refine lv_lstore_n (lv' := [(3, .long (((31 : Int64) * x3) + ((vA S (200 + g0) x5.toNatClampNeg).toInt64))), (0, .ref (h (1001 + g0))), (5, .int x5)]) hx hb dX3_stir_29 rfl hl (by decide) rfl (fun ls hl => ?_)
    refine lv_iconst (v := 0) hx hb dX3_stir_30 (by decide) ?_
    refine lv_istore (lv' := [(6, .int (0 : Int32)), (3, .long (((31 : Int64) * x3) + ((vA S (200 + g0) x5.toNatClampNeg).toInt64))), (0, .ref (h (1001 + g0))), (5, .int x5)]) hx hb dX3_stir_31 hl (by decide) rfl (fun ls hl => ?_)
    obtain ⟨n_2, hd⟩ := hd
    exact bl_X3_stir_33 C0 hret hg0 k5 _ _ _ _ _ _ _ _ hP hS hd (lv_sub hl [2, 1, 3, 0] rfl)
def wl_X3_stir_5 (g0 : Nat) (Q : Int64 → sT → Prop) : Nat → Int64 → Int32 → sT → Prop
  | 0, _, _ => fun _ => False
  | n + 1, x3, x5 => fun S => wb_X3_stir_5 g0 Q (fun x3 x5 S => wl_X3_stir_5 g0 Q n x3 x5 S) x3 x5 S
theorem bl_X3_stir_5 {p : Program} {l : Launch} {e : Env} {s : State} {m : MethodId} {args : Array Value} {below : List Frame} {meth : Method} {c : Code} {Z : State → Prop} {D : va_G} {cA : Nat → ClassId} {h : Nat → Nat} {Q : Int64 → sT → Prop} {g0 : Nat} (C0 : cx p s m args c cX3_stir 7 RX3 D cA true keysC h) (hret : rtL p l e rm_X3_stir s m args below meth c cX3_stir Z D (wC h cA) (aK keysC h s.heap.size) Q) (hg0 : g0 < 2) : ∀ (n : Nat) (x3 : Int64) (x5 : Int32) (S : sT) (H : Heap) (locs : List Loc) (ls : Array Slot), va_P D vwCl (wC h cA S) H → va_S (aK keysC h s.heap.size) s.heap H locs → wl_X3_stir_5 g0 Q n x3 x5 S → lv_has ls 7 [(0, .ref (h (1001 + g0))), (3, .long x3), (5, .int x5)] → W p l e rm_X3_stir s m args below meth c H locs 0 0 Z (F0 m 5 ls []) := by
  intro n
  induction n with
  | zero => intro x3 x5 S H locs ls hP hS hd hl; exact (show False from hd).elim
  | succ n ih => intro x3 x5 S H locs ls hP hS hd hl; exact bk_X3_stir_5 C0 hret hg0 (fun x3 x5 S H locs ls hd hP hS hl => ih x3 x5 S H locs ls hP hS hd hl) hP hS hd hl
def wp_X3_stir (g0 : Nat) (x1 : Int64) (S : sT) (Q : Int64 → sT → Prop) : Prop :=
  ∃ n : Nat, wl_X3_stir_5 g0 Q n x1 (0 : Int32) S
set_option maxHeartbeats 4000000 in
set_option maxRecDepth 100000 in
theorem bk_X3_stir {p : Program} {l : Launch} {e : Env} {s : State} {m : MethodId} {args : Array Value} {below : List Frame} {meth : Method} {c : Code} {Z : State → Prop} {D : va_G} {cA : Nat → ClassId} {h : Nat → Nat} {Q : Int64 → sT → Prop} {g0 : Nat} (C0 : cx p s m args c cX3_stir 7 RX3 D cA true keysC h) (hret : rtL p l e rm_X3_stir s m args below meth c cX3_stir Z D (wC h cA) (aK keysC h s.heap.size) Q) (hg0 : g0 < 2) {x1 : Int64} {S : sT} {H : Heap} {locs : List Loc} {ls : Array Slot} (hP : va_P D vwCl (wC h cA S) H) (hS : va_S (aK keysC h s.heap.size) s.heap H locs) (hd : wp_X3_stir g0 x1 S Q) (hl : lv_has ls 7 [(0, .ref (h (1001 + g0))), (1, .long x1)]) : W p l e rm_X3_stir s m args below meth c H locs 0 0 Z (F0 m 0 ls []) := by
  obtain ⟨⟨hx, hb, hml, hown, hts⟩, hK, -, -⟩ := id C0
  unfold wp_X3_stir at hd
  refine lv_lload_n hx hb dX3_stir_0 rfl (lv_at hl 1 rfl) ?_
  refine lv_lstore_n (lv' := [(3, .long x1), (0, .ref (h (1001 + g0))), (1, .long x1)]) hx hb dX3_stir_1 rfl hl (by decide) rfl (fun ls hl => ?_)
  refine lv_iconst (v := 0) hx hb dX3_stir_2 (by decide) ?_
  refine lv_istore (lv' := [(5, .int (0 : Int32)), (3, .long x1), (0, .ref (h (1001 + g0))), (1, .long x1)]) hx hb dX3_stir_3 hl (by decide) rfl (fun ls hl => ?_)
  obtain ⟨n_1, hd⟩ := hd
  exact bl_X3_stir_5 C0 hret hg0 _ _ _ _ _ _ _ hP hS hd (lv_sub hl [2, 1, 0] rfl)
theorem c_X3_stir (l : Launch) {D : va_G} {cA : Nat → ClassId} {h : Nat → Nat} (hk : ky keysC h) {g0 : Nat} (hg0 : g0 < 2) {x1 : Int64} {S : sT} (sz : Nat) {Q : Int64 → sT → Prop} (hd : wp_X3_stir g0 x1 S Q) : Met l yX3_stir (wsU yX3_stir cX3_stir 7 (some .long)) rm_X3_stir (va_Pc [.ref (h (1001 + g0)), .long x1] (gP D cA true keysC h (wC h cA) S sz)) (va_Ql Q (wB D (wC h cA)) (aK keysC h sz)) 0 0 (aK keysC h sz) :=
  mk_l (by decide) hk (Nat.le_of_ble_eq_true rfl) (fun p e s m below meth c Z ls C0 hret hP hS hl => bk_X3_stir C0 hret hg0 hP hS hd hl)
abbrev rm_X4_fitsSeen : Room := { frames := 3, cells := 0, slots := 0, locals := 71 }
def wb_X4_fitsSeen_23 (Q : Int32 → sT → Prop) (K23 : Int32 → Int32 → Int32 → sT → Prop) (x1 : Int32) (x3 : Int32) (x4 : Int32) (S : sT) : Prop :=
  ((x3 ≤ x4 → Q (1 : Int32) S) ∧ (¬ x3 ≤ x4 → (vp_in (x4 + (1 : Int32)) 61) ∧ (vp_in x1 6) ∧ (vp_in x4 40) ∧ (((vA S 113 (x4 + (1 : Int32)).toNatClampNeg) = (vA S (300 + x1.toNatClampNeg) x4.toNatClampNeg) → K23 x1 x3 (x4 + (1 : Int32)) S) ∧ (¬ (vA S 113 (x4 + (1 : Int32)).toNatClampNeg) = (vA S (300 + x1.toNatClampNeg) x4.toNatClampNeg) → Q (0 : Int32) S))))
set_option maxHeartbeats 4000000 in
set_option maxRecDepth 100000 in
theorem bk_X4_fitsSeen_23 {p : Program} {l : Launch} {e : Env} {s : State} {m : MethodId} {args : Array Value} {below : List Frame} {meth : Method} {c : Code} {Z : State → Prop} {D : va_G} {cA : Nat → ClassId} {h : Nat → Nat} {Q : Int32 → sT → Prop} (C0 : cx p s m args c cX4_fitsSeen 5 RX4 D cA true keysC h) (hret : rtZ p l e rm_X4_fitsSeen s m args below meth c cX4_fitsSeen Z D (wC h cA) (aK keysC h s.heap.size) Q) {K23 : Int32 → Int32 → Int32 → sT → Prop} (k23 : ∀ (x1 : Int32) (x3 : Int32) (x4 : Int32) (S : sT) (H : Heap) (locs : List Loc) (ls : Array Slot), K23 x1 x3 x4 S → va_P D vwCl (wC h cA S) H → va_S (aK keysC h s.heap.size) s.heap H locs → lv_has ls 5 [(0, .ref (h 1000)), (1, .int x1), (3, .int x3), (4, .int x4)] → W p l e rm_X4_fitsSeen s m args below meth c H locs 0 0 Z (F0 m 23 ls [])) {x1 : Int32} {x3 : Int32} {x4 : Int32} {S : sT} {H : Heap} {locs : List Loc} {ls : Array Slot} (hP : va_P D vwCl (wC h cA S) H) (hS : va_S (aK keysC h s.heap.size) s.heap H locs) (hd : wb_X4_fitsSeen_23 Q K23 x1 x3 x4 S) (hl : lv_has ls 5 [(0, .ref (h 1000)), (1, .int x1), (3, .int x3), (4, .int x4)]) : W p l e rm_X4_fitsSeen s m args below meth c H locs 0 0 Z (F0 m 23 ls []) := by
  obtain ⟨⟨hx, hb, hml, hown, hts⟩, hK, -, -⟩ := id C0
  unfold wb_X4_fitsSeen_23 at hd
  refine lv_iload hx hb dX4_fitsSeen_23 (lv_at hl 3 rfl) ?_
  refine lv_iload_n hx hb dX4_fitsSeen_25 rfl (lv_at hl 2 rfl) ?_
  refine lv_icmp_ge (tgt := 64) hx hb dX4_fitsSeen_26 (by decide) (fun hc => ?_) (fun hc => ?_)
  · have hd := hd.1 hc
    refine lv_iconst (v := 1) hx hb dX4_fitsSeen_64 (by decide) ?_
    exact hret _ _ _ _ _ _ rfl hd hP hS dX4_fitsSeen_65
  · have hd := hd.2 hc
    refine lv_aload_n hx hb dX4_fitsSeen_29 rfl (lv_at hl 0 rfl) ?_
    refine gf_X4_49 C0 hP dX4_fitsSeen_30 ?_
    refine gf_X4_202 C0 hP dX4_fitsSeen_33 ?_
    refine lv_iload hx hb dX4_fitsSeen_36 (lv_at hl 3 rfl) ?_
    refine lv_iconst (v := 1) hx hb dX4_fitsSeen_38 (by decide) ?_
    refine lv_iadd hx hb dX4_fitsSeen_39 ?_
    obtain ⟨h_1, hd⟩ := hd
    refine ldC (by decide) C0 hP h_1 dX4_fitsSeen_40 ?_
    refine lv_aload_n hx hb dX4_fitsSeen_41 rfl (lv_at hl 0 rfl) ?_
    refine gf_X4_14 C0 hP dX4_fitsSeen_42 ?_
    refine gf_X4_94_0 C0 hP dX4_fitsSeen_45 ?_
    refine lv_iload_n hx hb dX4_fitsSeen_48 rfl (lv_at hl 1 rfl) ?_
    obtain ⟨h_2, hd⟩ := hd
    refine ao_1010 C0 hP h_2 dX4_fitsSeen_49 ?_
    refine lv_iload hx hb dX4_fitsSeen_50 (lv_at hl 3 rfl) ?_
    obtain ⟨h_3, hd⟩ := hd
    refine ldC (kRow0 _ (vp_lt h_2)) C0 hP (by rw [lRow0 _ (vp_lt h_2)]; exact h_3) dX4_fitsSeen_52 ?_
    refine lv_icmp_eq (tgt := 58) hx hb dX4_fitsSeen_53 (by decide) (fun hc => ?_) (fun hc => ?_)
    · have hd := hd.1 hc
      refine lv_iinc (v := x4 + (1 : Int32)) (lv' := [(4, .int (x4 + (1 : Int32))), (0, .ref (h 1000)), (1, .int x1), (3, .int x3)]) hx hb dX4_fitsSeen_58 hl (k := 3) rfl rfl (by decide) rfl (fun ls hl => ?_)
      refine lv_goto (tgt := 23) hx hb dX4_fitsSeen_61 (by decide) ?_
      exact k23 _ _ _ _ _ _ _ hd hP hS (lv_sub hl [1, 2, 3, 0] rfl)
    · have hd := hd.2 hc
      refine lv_iconst (v := 0) hx hb dX4_fitsSeen_56 (by decide) ?_
      exact hret _ _ _ _ _ _ rfl hd hP hS dX4_fitsSeen_57
def wl_X4_fitsSeen_23 (Q : Int32 → sT → Prop) : Nat → Int32 → Int32 → Int32 → sT → Prop
  | 0, _, _, _ => fun _ => False
  | n + 1, x1, x3, x4 => fun S => wb_X4_fitsSeen_23 Q (fun x1 x3 x4 S => wl_X4_fitsSeen_23 Q n x1 x3 x4 S) x1 x3 x4 S
theorem bl_X4_fitsSeen_23 {p : Program} {l : Launch} {e : Env} {s : State} {m : MethodId} {args : Array Value} {below : List Frame} {meth : Method} {c : Code} {Z : State → Prop} {D : va_G} {cA : Nat → ClassId} {h : Nat → Nat} {Q : Int32 → sT → Prop} (C0 : cx p s m args c cX4_fitsSeen 5 RX4 D cA true keysC h) (hret : rtZ p l e rm_X4_fitsSeen s m args below meth c cX4_fitsSeen Z D (wC h cA) (aK keysC h s.heap.size) Q) : ∀ (n : Nat) (x1 : Int32) (x3 : Int32) (x4 : Int32) (S : sT) (H : Heap) (locs : List Loc) (ls : Array Slot), va_P D vwCl (wC h cA S) H → va_S (aK keysC h s.heap.size) s.heap H locs → wl_X4_fitsSeen_23 Q n x1 x3 x4 S → lv_has ls 5 [(0, .ref (h 1000)), (1, .int x1), (3, .int x3), (4, .int x4)] → W p l e rm_X4_fitsSeen s m args below meth c H locs 0 0 Z (F0 m 23 ls []) := by
  intro n
  induction n with
  | zero => intro x1 x3 x4 S H locs ls hP hS hd hl; exact (show False from hd).elim
  | succ n ih => intro x1 x3 x4 S H locs ls hP hS hd hl; exact bk_X4_fitsSeen_23 C0 hret (fun x1 x3 x4 S H locs ls hd hP hS hl => ih x1 x3 x4 S H locs ls hP hS hd hl) hP hS hd hl
def wp_X4_fitsSeen (x1 : Int32) (x2 : Int32) (S : sT) (Q : Int32 → sT → Prop) : Prop :=
  (vp_in x1 6) ∧ wp_X0_ride (vA S 200 x1.toNatClampNeg) x2 S (fun r_2 S_2 => ∃ n : Nat, wl_X4_fitsSeen_23 Q n x1 (vA S 200 x1.toNatClampNeg) (0 : Int32) S_2)
set_option maxHeartbeats 4000000 in
set_option maxRecDepth 100000 in
theorem bk_X4_fitsSeen {p : Program} {l : Launch} {e : Env} {s : State} {m : MethodId} {args : Array Value} {below : List Frame} {meth : Method} {c : Code} {Z : State → Prop} {D : va_G} {cA : Nat → ClassId} {h : Nat → Nat} {Q : Int32 → sT → Prop} (C0 : cx p s m args c cX4_fitsSeen 5 RX4 D cA true keysC h) (hret : rtZ p l e rm_X4_fitsSeen s m args below meth c cX4_fitsSeen Z D (wC h cA) (aK keysC h s.heap.size) Q) {x1 : Int32} {x2 : Int32} {S : sT} {H : Heap} {locs : List Loc} {ls : Array Slot} (hP : va_P D vwCl (wC h cA S) H) (hS : va_S (aK keysC h s.heap.size) s.heap H locs) (hd : wp_X4_fitsSeen x1 x2 S Q) (hl : lv_has ls 5 [(0, .ref (h 1000)), (1, .int x1), (2, .int x2)]) : W p l e rm_X4_fitsSeen s m args below meth c H locs 0 0 Z (F0 m 0 ls []) := by
  obtain ⟨⟨hx, hb, hml, hown, hts⟩, hK, -, -⟩ := id C0
  unfold wp_X4_fitsSeen at hd
  refine lv_aload_n hx hb dX4_fitsSeen_0 rfl (lv_at hl 0 rfl) ?_
  refine gf_X4_14 C0 hP dX4_fitsSeen_1 ?_
  refine gf_X4_105_0 C0 hP dX4_fitsSeen_4 ?_
  refine lv_iload_n hx hb dX4_fitsSeen_7 rfl (lv_at hl 1 rfl) ?_
  obtain ⟨h_1, hd⟩ := hd
  refine ldC (by decide) C0 hP h_1 dX4_fitsSeen_8 ?_
  refine lv_istore_n (lv' := [(3, .int (vA S 200 x1.toNatClampNeg)), (0, .ref (h 1000)), (1, .int x1), (2, .int x2)]) hx hb dX4_fitsSeen_9 rfl hl (by decide) rfl (fun ls hl => ?_)
  refine lv_aload_n hx hb dX4_fitsSeen_10 rfl (lv_at hl 1 rfl) ?_
  refine gf_X4_49 C0 hP dX4_fitsSeen_11 ?_
  refine lv_iload_n hx hb dX4_fitsSeen_14 rfl (lv_at hl 0 rfl) ?_
  refine lv_iload_n hx hb dX4_fitsSeen_15 rfl (lv_at hl 3 rfl) ?_
  refine cl_VNi (n := 2) (rest := []) C0 hP hS (c_X0_ride l C0.2.2.1 _ hd) (lwG_C lc_X0_ride) (by decide +kernel : (RX4, 199, yX0_ride, "DreamTrain") ∈ nestM) lz_RX0 li_X0_ride lx_X0_ride (by decide +kernel) (oJ_at h cA _) rfl rfl rfl (Nat.le_of_ble_eq_true rfl) ⟨rfl, rfl⟩ ⟨by decide, by decide⟩ dX4_fitsSeen_16 hl.1 ⟨Nat.zero_le _, Nat.zero_le _⟩ (fun r_2 S_2 H locs hd hP hS => ?_)
  refine lv_pop hx hb dX4_fitsSeen_19 rfl ?_
  refine lv_iconst (v := 0) hx hb dX4_fitsSeen_20 (by decide) ?_
  refine lv_istore (lv' := [(4, .int (0 : Int32)), (3, .int (vA S 200 x1.toNatClampNeg)), (0, .ref (h 1000)), (1, .int x1), (2, .int x2)]) hx hb dX4_fitsSeen_21 hl (by decide) rfl (fun ls hl => ?_)
  obtain ⟨n_3, hd⟩ := hd
  exact bl_X4_fitsSeen_23 C0 hret _ _ _ _ _ _ _ _ hP hS hd (lv_sub hl [2, 3, 1, 0] rfl)
theorem c_X4_fitsSeen (l : Launch) {D : va_G} {cA : Nat → ClassId} {h : Nat → Nat} (hk : ky keysC h) {x1 : Int32} {x2 : Int32} {S : sT} (sz : Nat) {Q : Int32 → sT → Prop} (hd : wp_X4_fitsSeen x1 x2 S Q) : Met l yX4_fitsSeen (wsU yX4_fitsSeen cX4_fitsSeen 5 (some .boolean)) rm_X4_fitsSeen (va_Pc [.ref (h 1000), .int x1, .int x2] (gP D cA true keysC h (wC h cA) S sz)) (va_Qi Q (wB D (wC h cA)) (aK keysC h sz)) 0 0 (aK keysC h sz) :=
  mk_z (by decide) hk (Nat.le_of_ble_eq_true rfl) (fun p e s m below meth c Z ls C0 hret hP hS hl => bk_X4_fitsSeen C0 hret hP hS hd hl)
abbrev rm_X4_found : Room := { frames := 0, cells := 0, slots := 0, locals := 0 }
def wp_X4_found (x1 : Int32) (S : sT) (Q : Int32 → sT → Prop) : Prop :=
  (vp_in x1 6) ∧ (vp_in x1 6) ∧ Q (-3 : Int32) (uA (uI S 16 x1) 12 (upd (vA (uI S 16 x1) 12) x1.toNatClampNeg ((vA (uI S 16 x1) 12 x1.toNatClampNeg) + (1 : Int32))))
set_option maxHeartbeats 4000000 in
set_option maxRecDepth 100000 in
theorem bk_X4_found {p : Program} {l : Launch} {e : Env} {s : State} {m : MethodId} {args : Array Value} {below : List Frame} {meth : Method} {c : Code} {Z : State → Prop} {D : va_G} {cA : Nat → ClassId} {h : Nat → Nat} {Q : Int32 → sT → Prop} (C0 : cx p s m args c cX4_found 2 RX4 D cA true keysC h) (hret : rtI p l e rm_X4_found s m args below meth c cX4_found Z D (wC h cA) (aK keysC h s.heap.size) Q) {x1 : Int32} {S : sT} {H : Heap} {locs : List Loc} {ls : Array Slot} (hP : va_P D vwCl (wC h cA S) H) (hS : va_S (aK keysC h s.heap.size) s.heap H locs) (hd : wp_X4_found x1 S Q) (hl : lv_has ls 2 [(0, .ref (h 1000)), (1, .int x1)]) : W p l e rm_X4_found s m args below meth c H locs 0 0 Z (F0 m 0 ls []) := by
  obtain ⟨⟨hx, hb, hml, hown, hts⟩, hK, -, -⟩ := id C0
  unfold wp_X4_found at hd
  refine lv_aload_n hx hb dX4_found_0 rfl (lv_at hl 0 rfl) ?_
  refine lv_iload_n hx hb dX4_found_1 rfl (lv_at hl 1 rfl) ?_
  refine pf_X4_293 C0 hP hS dX4_found_2 (fun H locs hP hS => ?_)
  refine lv_aload_n hx hb dX4_found_5 rfl (lv_at hl 0 rfl) ?_
  refine gf_X4_70 C0 hP dX4_found_6 ?_
  refine lv_iload_n hx hb dX4_found_9 rfl (lv_at hl 1 rfl) ?_
  refine lv_dup2_11 hx hb dX4_found_10 rfl rfl ?_
  obtain ⟨h_1, hd⟩ := hd
  refine ldC (by decide) C0 hP h_1 dX4_found_11 ?_
  refine lv_iconst (v := 1) hx hb dX4_found_12 (by decide) ?_
  refine lv_iadd hx hb dX4_found_13 ?_
  obtain ⟨h_2, hd⟩ := hd
  refine stC (by decide) C0 hP hS h_2 dX4_found_14 (fun H locs hP hS => ?_)
  refine lv_bipush (v := (-3)) hx hb dX4_found_15 (by decide) ?_
  exact hret _ _ _ _ _ _ hd hP hS dX4_found_17
theorem c_X4_found (l : Launch) {D : va_G} {cA : Nat → ClassId} {h : Nat → Nat} (hk : ky keysC h) {x1 : Int32} {S : sT} (sz : Nat) {Q : Int32 → sT → Prop} (hd : wp_X4_found x1 S Q) : Met l yX4_found (wsU yX4_found cX4_found 2 (some .int)) rm_X4_found (va_Pc [.ref (h 1000), .int x1] (gP D cA true keysC h (wC h cA) S sz)) (va_Qi Q (wB D (wC h cA)) (aK keysC h sz)) 0 0 (aK keysC h sz) :=
  mk_i (by decide) hk (Nat.le_of_ble_eq_true rfl) (fun p e s m below meth c Z ls C0 hret hP hS hl => bk_X4_found C0 hret hP hS hd hl)
abbrev rm_X4_refusalOfShelf : Room := { frames := 3, cells := 0, slots := 0, locals := 63 }
def wp_X4_refusalOfShelf (g1 : Nat) (x2 : Int32) (S : sT) (Q : Int32 → sT → Prop) : Prop :=
  wp_X3_bears g1 x2 S (fun r_1 S_1 => ((¬ r_1 = 0 → wp_X3_holds g1 x2 S_1 (fun r_2 S_2 => ((r_2 = 0 → wp_X4_found (1 : Int32) S_2 (fun r_3 S_3 => Q r_3 S_3)) ∧ (¬ r_2 = 0 → Q (0 : Int32) S_2)))) ∧ (r_1 = 0 → Q (-1 : Int32) S_1)))
set_option maxHeartbeats 4000000 in
set_option maxRecDepth 100000 in
theorem bk_X4_refusalOfShelf {p : Program} {l : Launch} {e : Env} {s : State} {m : MethodId} {args : Array Value} {below : List Frame} {meth : Method} {c : Code} {Z : State → Prop} {D : va_G} {cA : Nat → ClassId} {h : Nat → Nat} {Q : Int32 → sT → Prop} {g1 : Nat} (C0 : cx p s m args c cX4_refusalOfShelf 3 RX4 D cA true keysC h) (hret : rtI p l e rm_X4_refusalOfShelf s m args below meth c cX4_refusalOfShelf Z D (wC h cA) (aK keysC h s.heap.size) Q) (hg1 : g1 < 2) {x2 : Int32} {S : sT} {H : Heap} {locs : List Loc} {ls : Array Slot} (hP : va_P D vwCl (wC h cA S) H) (hS : va_S (aK keysC h s.heap.size) s.heap H locs) (hd : wp_X4_refusalOfShelf g1 x2 S Q) (hl : lv_has ls 3 [(0, .ref (h 1000)), (1, .ref (h (1001 + g1))), (2, .int x2)]) : W p l e rm_X4_refusalOfShelf s m args below meth c H locs 0 0 Z (F0 m 0 ls []) := by
  obtain ⟨⟨hx, hb, hml, hown, hts⟩, hK, -, -⟩ := id C0
  unfold wp_X4_refusalOfShelf at hd
  refine lv_aload_n hx hb dX4_refusalOfShelf_0 rfl (lv_at hl 1 rfl) ?_
  refine lv_iload_n hx hb dX4_refusalOfShelf_1 rfl (lv_at hl 2 rfl) ?_
  refine cl_VNi (n := 1) (rest := []) C0 hP hS (c_X3_bears l C0.2.2.1 hg1 _ hd) (lwG_C lc_X3_bears) (by decide +kernel : (RX4, 78, yX3_bears, "DreamTrain") ∈ nestM) lz_RX3 li_X3_bears lx_X3_bears (by decide +kernel) (oS_at h cA _ g1 hg1) rfl rfl rfl (Nat.le_of_ble_eq_true rfl) ⟨rfl, rfl⟩ ⟨by decide, by decide⟩ dX4_refusalOfShelf_2 hl.1 ⟨Nat.zero_le _, Nat.zero_le _⟩ (fun r_1 S_1 H locs hd hP hS => ?_)
  refine lv_if_ne (tgt := 10) hx hb dX4_refusalOfShelf_5 (by decide) (fun hc => ?_) (fun hc => ?_)
  · have hd := hd.1 hc
    refine lv_aload_n hx hb dX4_refusalOfShelf_10 rfl (lv_at hl 1 rfl) ?_
    refine lv_iload_n hx hb dX4_refusalOfShelf_11 rfl (lv_at hl 2 rfl) ?_
    refine cl_VNi (n := 1) (rest := []) C0 hP hS (c_X3_holds l C0.2.2.1 hg1 _ hd) (lwG_C lc_X3_holds) (by decide +kernel : (RX4, 108, yX3_holds, "DreamTrain") ∈ nestM) lz_RX3 li_X3_holds lx_X3_holds (by decide +kernel) (oS_at h cA _ g1 hg1) rfl rfl rfl (Nat.le_of_ble_eq_true rfl) ⟨rfl, rfl⟩ ⟨by decide, by decide⟩ dX4_refusalOfShelf_12 hl.1 ⟨Nat.zero_le _, Nat.zero_le _⟩ (fun r_2 S_2 H locs hd hP hS => ?_)
    refine lv_if_eq (tgt := 22) hx hb dX4_refusalOfShelf_15 (by decide) (fun hc => ?_) (fun hc => ?_)
    · have hd := hd.1 hc
      refine lv_aload_n hx hb dX4_refusalOfShelf_22 rfl (lv_at hl 0 rfl) ?_
      refine lv_iconst (v := 1) hx hb dX4_refusalOfShelf_23 (by decide) ?_
      refine cl_Vi (n := 1) (rest := []) C0 hP hS (c_X4_found l C0.2.2.1 _ hd) (lwG_V lm_X4_82 li_X4_found lx_X4_found lz_RX4 lc_X4_found) (by decide +kernel) (oD_at h cA _) rfl rfl rfl (Nat.le_of_ble_eq_true rfl) ⟨rfl, rfl⟩ ⟨by decide, by decide⟩ dX4_refusalOfShelf_24 hl.1 ⟨Nat.zero_le _, Nat.zero_le _⟩ (fun r_3 S_3 H locs hd hP hS => ?_)
      exact hret _ _ _ _ _ _ hd hP hS dX4_refusalOfShelf_27
    · have hd := hd.2 hc
      refine lv_iconst (v := 0) hx hb dX4_refusalOfShelf_18 (by decide) ?_
      refine lv_goto (tgt := 27) hx hb dX4_refusalOfShelf_19 (by decide) ?_
      exact hret _ _ _ _ _ _ hd hP hS dX4_refusalOfShelf_27
  · have hd := hd.2 hc
    refine lv_iconst (v := (-1)) hx hb dX4_refusalOfShelf_8 (by decide) ?_
    exact hret _ _ _ _ _ _ hd hP hS dX4_refusalOfShelf_9
theorem c_X4_refusalOfShelf (l : Launch) {D : va_G} {cA : Nat → ClassId} {h : Nat → Nat} (hk : ky keysC h) {g1 : Nat} (hg1 : g1 < 2) {x2 : Int32} {S : sT} (sz : Nat) {Q : Int32 → sT → Prop} (hd : wp_X4_refusalOfShelf g1 x2 S Q) : Met l yX4_refusalOfShelf (wsU yX4_refusalOfShelf cX4_refusalOfShelf 3 (some .int)) rm_X4_refusalOfShelf (va_Pc [.ref (h 1000), .ref (h (1001 + g1)), .int x2] (gP D cA true keysC h (wC h cA) S sz)) (va_Qi Q (wB D (wC h cA)) (aK keysC h sz)) 0 0 (aK keysC h sz) :=
  mk_i (by decide) hk (Nat.le_of_ble_eq_true rfl) (fun p e s m below meth c Z ls C0 hret hP hS hl => bk_X4_refusalOfShelf C0 hret hg1 hP hS hd hl)
abbrev rm_X4_refusalOfSeen : Room := { frames := 4, cells := 0, slots := 0, locals := 85 }
def wb_X4_refusalOfSeen_37 (Q : Int32 → sT → Prop) (S : sT) : Prop :=
  wp_X4_found (5 : Int32) S (fun r_1 S_1 => Q r_1 S_1)
set_option maxHeartbeats 4000000 in
set_option maxRecDepth 100000 in
theorem bk_X4_refusalOfSeen_37 {p : Program} {l : Launch} {e : Env} {s : State} {m : MethodId} {args : Array Value} {below : List Frame} {meth : Method} {c : Code} {Z : State → Prop} {D : va_G} {cA : Nat → ClassId} {h : Nat → Nat} {Q : Int32 → sT → Prop} (C0 : cx p s m args c cX4_refusalOfSeen 5 RX4 D cA true keysC h) (hret : rtI p l e rm_X4_refusalOfSeen s m args below meth c cX4_refusalOfSeen Z D (wC h cA) (aK keysC h s.heap.size) Q) {S : sT} {H : Heap} {locs : List Loc} {ls : Array Slot} (hP : va_P D vwCl (wC h cA S) H) (hS : va_S (aK keysC h s.heap.size) s.heap H locs) (hd : wb_X4_refusalOfSeen_37 Q S) (hl : lv_has ls 5 [(0, .ref (h 1000))]) : W p l e rm_X4_refusalOfSeen s m args below meth c H locs 0 0 Z (F0 m 37 ls []) := by
  obtain ⟨⟨hx, hb, hml, hown, hts⟩, hK, -, -⟩ := id C0
  unfold wb_X4_refusalOfSeen_37 at hd
  refine lv_aload_n hx hb dX4_refusalOfSeen_37 rfl (lv_at hl 0 rfl) ?_
  refine lv_iconst (v := 5) hx hb dX4_refusalOfSeen_38 (by decide) ?_
  refine cl_Vi (n := 1) (rest := []) C0 hP hS (c_X4_found l C0.2.2.1 _ hd) (lwG_V lm_X4_82 li_X4_found lx_X4_found lz_RX4 lc_X4_found) (by decide +kernel) (oD_at h cA _) rfl rfl rfl (Nat.le_of_ble_eq_true rfl) ⟨rfl, rfl⟩ ⟨by decide, by decide⟩ dX4_refusalOfSeen_39 hl.1 ⟨Nat.zero_le _, Nat.zero_le _⟩ (fun r_1 S_1 H locs hd hP hS => ?_)
  exact hret _ _ _ _ _ _ hd hP hS dX4_refusalOfSeen_42
def wb_X4_refusalOfSeen_46 (Q : Int32 → sT → Prop) (K46 : Int32 → Int32 → Int32 → sT → Prop) (x1 : Int32) (x3 : Int32) (x4 : Int32) (S : sT) : Prop :=
  ((x3 ≤ x4 → Q (0 : Int32) S) ∧ (¬ x3 ≤ x4 → (vp_in x1 6) ∧ (vp_in x4 40) ∧ wp_X4_isBelow (vA S (300 + x1.toNatClampNeg) x4.toNatClampNeg) ((vI S 27) + (1 : Int32)) S (fun r_3 S_3 => ((¬ r_3 = 0 → K46 x1 x3 (x4 + (1 : Int32)) S_3) ∧ (r_3 = 0 → wp_X4_found (3 : Int32) S_3 (fun r_4 S_4 => Q r_4 S_4))))))
set_option maxHeartbeats 4000000 in
set_option maxRecDepth 100000 in
theorem bk_X4_refusalOfSeen_46 {p : Program} {l : Launch} {e : Env} {s : State} {m : MethodId} {args : Array Value} {below : List Frame} {meth : Method} {c : Code} {Z : State → Prop} {D : va_G} {cA : Nat → ClassId} {h : Nat → Nat} {Q : Int32 → sT → Prop} (C0 : cx p s m args c cX4_refusalOfSeen 5 RX4 D cA true keysC h) (hret : rtI p l e rm_X4_refusalOfSeen s m args below meth c cX4_refusalOfSeen Z D (wC h cA) (aK keysC h s.heap.size) Q) {K46 : Int32 → Int32 → Int32 → sT → Prop} (k46 : ∀ (x1 : Int32) (x3 : Int32) (x4 : Int32) (S : sT) (H : Heap) (locs : List Loc) (ls : Array Slot), K46 x1 x3 x4 S → va_P D vwCl (wC h cA S) H → va_S (aK keysC h s.heap.size) s.heap H locs → lv_has ls 5 [(0, .ref (h 1000)), (1, .int x1), (3, .int x3), (4, .int x4)] → W p l e rm_X4_refusalOfSeen s m args below meth c H locs 0 0 Z (F0 m 46 ls [])) {x1 : Int32} {x3 : Int32} {x4 : Int32} {S : sT} {H : Heap} {locs : List Loc} {ls : Array Slot} (hP : va_P D vwCl (wC h cA S) H) (hS : va_S (aK keysC h s.heap.size) s.heap H locs) (hd : wb_X4_refusalOfSeen_46 Q K46 x1 x3 x4 S) (hl : lv_has ls 5 [(0, .ref (h 1000)), (1, .int x1), (3, .int x3), (4, .int x4)]) : W p l e rm_X4_refusalOfSeen s m args below meth c H locs 0 0 Z (F0 m 46 ls []) := by
  obtain ⟨⟨hx, hb, hml, hown, hts⟩, hK, -, -⟩ := id C0
  unfold wb_X4_refusalOfSeen_46 at hd
  refine lv_iload hx hb dX4_refusalOfSeen_46 (lv_at hl 3 rfl) ?_
  refine lv_iload_n hx hb dX4_refusalOfSeen_48 rfl (lv_at hl 2 rfl) ?_
  refine lv_icmp_ge (tgt := 91) hx hb dX4_refusalOfSeen_49 (by decide) (fun hc => ?_) (fun hc => ?_)
  · have hd := hd.1 hc
    refine lv_iconst (v := 0) hx hb dX4_refusalOfSeen_91 (by decide) ?_
    exact hret _ _ _ _ _ _ hd hP hS dX4_refusalOfSeen_92
  · have hd := hd.2 hc
    refine lv_aload_n hx hb dX4_refusalOfSeen_52 rfl (lv_at hl 0 rfl) ?_
    refine gf_X4_14 C0 hP dX4_refusalOfSeen_53 ?_
    refine gf_X4_94_0 C0 hP dX4_refusalOfSeen_56 ?_
    refine lv_iload_n hx hb dX4_refusalOfSeen_59 rfl (lv_at hl 1 rfl) ?_
    obtain ⟨h_1, hd⟩ := hd
    refine ao_1010 C0 hP h_1 dX4_refusalOfSeen_60 ?_
    refine lv_iload hx hb dX4_refusalOfSeen_61 (lv_at hl 3 rfl) ?_
    obtain ⟨h_2, hd⟩ := hd
    refine ldC (kRow0 _ (vp_lt h_1)) C0 hP (by rw [lRow0 _ (vp_lt h_1)]; exact h_2) dX4_refusalOfSeen_63 ?_
    refine lv_aload_n hx hb dX4_refusalOfSeen_64 rfl (lv_at hl 0 rfl) ?_
    refine gf_X4_24 C0 hP dX4_refusalOfSeen_65 ?_
    refine gf_X4_205_0 C0 hP dX4_refusalOfSeen_68 ?_
    refine lv_iconst (v := 1) hx hb dX4_refusalOfSeen_71 (by decide) ?_
    refine lv_iadd hx hb dX4_refusalOfSeen_72 ?_
    refine cl_Si (n := 2) (rest := []) C0 hP hS (c_X4_isBelow l C0.2.2.1 _ hd) (lwG_S lm_X4_132 ls_X4_isBelow lz_RX4 lc_X4_isBelow) (by decide +kernel) rfl rfl (Nat.le_of_ble_eq_true rfl) ⟨rfl, rfl⟩ ⟨by decide, by decide⟩ dX4_refusalOfSeen_73 hl.1 ⟨Nat.zero_le _, Nat.zero_le _⟩ (fun r_3 S_3 H locs hd hP hS => ?_)
    refine lv_if_ne (tgt := 85) hx hb dX4_refusalOfSeen_76 (by decide) (fun hc => ?_) (fun hc => ?_)
    · have hd := hd.1 hc
      refine lv_iinc (v := x4 + (1 : Int32)) (lv' := [(4, .int (x4 + (1 : Int32))), (0, .ref (h 1000)), (1, .int x1), (3, .int x3)]) hx hb dX4_refusalOfSeen_85 hl (k := 3) rfl rfl (by decide) rfl (fun ls hl => ?_)
      refine lv_goto (tgt := 46) hx hb dX4_refusalOfSeen_88 (by decide) ?_
      exact k46 _ _ _ _ _ _ _ hd hP hS (lv_sub hl [1, 2, 3, 0] rfl)
    · have hd := hd.2 hc
      refine lv_aload_n hx hb dX4_refusalOfSeen_79 rfl (lv_at hl 0 rfl) ?_
      refine lv_iconst (v := 3) hx hb dX4_refusalOfSeen_80 (by decide) ?_
      refine cl_Vi (n := 1) (rest := []) C0 hP hS (c_X4_found l C0.2.2.1 _ hd) (lwG_V lm_X4_82 li_X4_found lx_X4_found lz_RX4 lc_X4_found) (by decide +kernel) (oD_at h cA _) rfl rfl rfl (Nat.le_of_ble_eq_true rfl) ⟨rfl, rfl⟩ ⟨by decide, by decide⟩ dX4_refusalOfSeen_81 hl.1 ⟨Nat.zero_le _, Nat.zero_le _⟩ (fun r_4 S_4 H locs hd hP hS => ?_)
      exact hret _ _ _ _ _ _ hd hP hS dX4_refusalOfSeen_84
def wl_X4_refusalOfSeen_46 (Q : Int32 → sT → Prop) : Nat → Int32 → Int32 → Int32 → sT → Prop
  | 0, _, _, _ => fun _ => False
  | n + 1, x1, x3, x4 => fun S => wb_X4_refusalOfSeen_46 Q (fun x1 x3 x4 S => wl_X4_refusalOfSeen_46 Q n x1 x3 x4 S) x1 x3 x4 S
theorem bl_X4_refusalOfSeen_46 {p : Program} {l : Launch} {e : Env} {s : State} {m : MethodId} {args : Array Value} {below : List Frame} {meth : Method} {c : Code} {Z : State → Prop} {D : va_G} {cA : Nat → ClassId} {h : Nat → Nat} {Q : Int32 → sT → Prop} (C0 : cx p s m args c cX4_refusalOfSeen 5 RX4 D cA true keysC h) (hret : rtI p l e rm_X4_refusalOfSeen s m args below meth c cX4_refusalOfSeen Z D (wC h cA) (aK keysC h s.heap.size) Q) : ∀ (n : Nat) (x1 : Int32) (x3 : Int32) (x4 : Int32) (S : sT) (H : Heap) (locs : List Loc) (ls : Array Slot), va_P D vwCl (wC h cA S) H → va_S (aK keysC h s.heap.size) s.heap H locs → wl_X4_refusalOfSeen_46 Q n x1 x3 x4 S → lv_has ls 5 [(0, .ref (h 1000)), (1, .int x1), (3, .int x3), (4, .int x4)] → W p l e rm_X4_refusalOfSeen s m args below meth c H locs 0 0 Z (F0 m 46 ls []) := by
  intro n
  induction n with
  | zero => intro x1 x3 x4 S H locs ls hP hS hd hl; exact (show False from hd).elim
  | succ n ih => intro x1 x3 x4 S H locs ls hP hS hd hl; exact bk_X4_refusalOfSeen_46 C0 hret (fun x1 x3 x4 S H locs ls hd hP hS hl => ih x1 x3 x4 S H locs ls hP hS hd hl) hP hS hd hl
def wp_X4_refusalOfSeen (x1 : Int32) (S : sT) (Q : Int32 → sT → Prop) : Prop :=
  wp_X4_refusalOfShelf 0 x1 S (fun r_1 S_1 => ((r_1 = 0 → (vp_in x1 6) ∧ (((vA S_1 200 x1.toNatClampNeg) < (1 : Int32) → wb_X4_refusalOfSeen_37 Q S_1) ∧ (¬ (vA S_1 200 x1.toNatClampNeg) < (1 : Int32) → (((vA S_1 200 x1.toNatClampNeg) ≤ (20 : Int32) → ∃ n : Nat, wl_X4_refusalOfSeen_46 Q n x1 (vA S_1 200 x1.toNatClampNeg) (0 : Int32) S_1) ∧ (¬ (vA S_1 200 x1.toNatClampNeg) ≤ (20 : Int32) → wb_X4_refusalOfSeen_37 Q S_1))))) ∧ (¬ r_1 = 0 → Q r_1 S_1)))
set_option maxHeartbeats 4000000 in
set_option maxRecDepth 100000 in
theorem bk_X4_refusalOfSeen {p : Program} {l : Launch} {e : Env} {s : State} {m : MethodId} {args : Array Value} {below : List Frame} {meth : Method} {c : Code} {Z : State → Prop} {D : va_G} {cA : Nat → ClassId} {h : Nat → Nat} {Q : Int32 → sT → Prop} (C0 : cx p s m args c cX4_refusalOfSeen 5 RX4 D cA true keysC h) (hret : rtI p l e rm_X4_refusalOfSeen s m args below meth c cX4_refusalOfSeen Z D (wC h cA) (aK keysC h s.heap.size) Q) {x1 : Int32} {S : sT} {H : Heap} {locs : List Loc} {ls : Array Slot} (hP : va_P D vwCl (wC h cA S) H) (hS : va_S (aK keysC h s.heap.size) s.heap H locs) (hd : wp_X4_refusalOfSeen x1 S Q) (hl : lv_has ls 5 [(0, .ref (h 1000)), (1, .int x1)]) : W p l e rm_X4_refusalOfSeen s m args below meth c H locs 0 0 Z (F0 m 0 ls []) := by
  obtain ⟨⟨hx, hb, hml, hown, hts⟩, hK, -, -⟩ := id C0
  unfold wp_X4_refusalOfSeen at hd
  refine lv_aload_n hx hb dX4_refusalOfSeen_0 rfl (lv_at hl 0 rfl) ?_
  refine lv_aload_n hx hb dX4_refusalOfSeen_1 rfl (lv_at hl 0 rfl) ?_
  refine gf_X4_14 C0 hP dX4_refusalOfSeen_2 ?_
  refine lv_iload_n hx hb dX4_refusalOfSeen_5 rfl (lv_at hl 1 rfl) ?_
  refine cl_Vi (n := 2) (rest := []) C0 hP hS (c_X4_refusalOfShelf l C0.2.2.1 (by decide) _ hd) (lwG_V lm_X4_101 li_X4_refusalOfShelf lx_X4_refusalOfShelf lz_RX4 lc_X4_refusalOfShelf) (by decide +kernel) (oD_at h cA _) rfl rfl rfl (Nat.le_of_ble_eq_true rfl) ⟨rfl, rfl⟩ ⟨by decide, by decide⟩ dX4_refusalOfSeen_6 hl.1 ⟨Nat.zero_le _, Nat.zero_le _⟩ (fun r_1 S_1 H locs hd hP hS => ?_)
  refine lv_istore_n (lv' := [(2, .int r_1), (0, .ref (h 1000)), (1, .int x1)]) hx hb dX4_refusalOfSeen_9 rfl hl (by decide) rfl (fun ls hl => ?_)
  refine lv_iload_n hx hb dX4_refusalOfSeen_10 rfl (lv_at hl 0 rfl) ?_
  refine lv_if_eq (tgt := 16) hx hb dX4_refusalOfSeen_11 (by decide) (fun hc => ?_) (fun hc => ?_)
  · have hd := hd.1 hc
    refine lv_aload_n hx hb dX4_refusalOfSeen_16 rfl (lv_at hl 1 rfl) ?_
    refine gf_X4_14 C0 hP dX4_refusalOfSeen_17 ?_
    refine gf_X4_105_0 C0 hP dX4_refusalOfSeen_20 ?_
    refine lv_iload_n hx hb dX4_refusalOfSeen_23 rfl (lv_at hl 2 rfl) ?_
    obtain ⟨h_2, hd⟩ := hd
    refine ldC (by decide) C0 hP h_2 dX4_refusalOfSeen_24 ?_
    refine lv_istore_n (lv' := [(3, .int (vA S_1 200 x1.toNatClampNeg)), (2, .int r_1), (0, .ref (h 1000)), (1, .int x1)]) hx hb dX4_refusalOfSeen_25 rfl hl (by decide) rfl (fun ls hl => ?_)
    refine lv_iload_n hx hb dX4_refusalOfSeen_26 rfl (lv_at hl 0 rfl) ?_
    refine lv_iconst (v := 1) hx hb dX4_refusalOfSeen_27 (by decide) ?_
    refine lv_icmp_lt (tgt := 37) hx hb dX4_refusalOfSeen_28 (by decide) (fun hc => ?_) (fun hc => ?_)
    · have hd := hd.1 hc
      exact bk_X4_refusalOfSeen_37 C0 hret hP hS hd (lv_sub hl [2] rfl)
    · have hd := hd.2 hc
      refine lv_iload_n hx hb dX4_refusalOfSeen_31 rfl (lv_at hl 0 rfl) ?_
      refine lv_bipush (v := 20) hx hb dX4_refusalOfSeen_32 (by decide) ?_
      refine lv_icmp_le (tgt := 43) hx hb dX4_refusalOfSeen_34 (by decide) (fun hc => ?_) (fun hc => ?_)
      · have hd := hd.1 hc
        refine lv_iconst (v := 0) hx hb dX4_refusalOfSeen_43 (by decide) ?_
        refine lv_istore (lv' := [(4, .int (0 : Int32)), (3, .int (vA S_1 200 x1.toNatClampNeg)), (2, .int r_1), (0, .ref (h 1000)), (1, .int x1)]) hx hb dX4_refusalOfSeen_44 hl (by decide) rfl (fun ls hl => ?_)
        obtain ⟨n_3, hd⟩ := hd
        exact bl_X4_refusalOfSeen_46 C0 hret _ _ _ _ _ _ _ _ hP hS hd (lv_sub hl [3, 4, 1, 0] rfl)
      · have hd := hd.2 hc
        exact bk_X4_refusalOfSeen_37 C0 hret hP hS hd (lv_sub hl [2] rfl)
  · have hd := hd.2 hc
    refine lv_iload_n hx hb dX4_refusalOfSeen_14 rfl (lv_at hl 0 rfl) ?_
    exact hret _ _ _ _ _ _ hd hP hS dX4_refusalOfSeen_15
theorem c_X4_refusalOfSeen (l : Launch) {D : va_G} {cA : Nat → ClassId} {h : Nat → Nat} (hk : ky keysC h) {x1 : Int32} {S : sT} (sz : Nat) {Q : Int32 → sT → Prop} (hd : wp_X4_refusalOfSeen x1 S Q) : Met l yX4_refusalOfSeen (wsU yX4_refusalOfSeen cX4_refusalOfSeen 5 (some .int)) rm_X4_refusalOfSeen (va_Pc [.ref (h 1000), .int x1] (gP D cA true keysC h (wC h cA) S sz)) (va_Qi Q (wB D (wC h cA)) (aK keysC h sz)) 0 0 (aK keysC h sz) :=
  mk_i (by decide) hk (Nat.le_of_ble_eq_true rfl) (fun p e s m below meth c Z ls C0 hret hP hS hl => bk_X4_refusalOfSeen C0 hret hP hS hd hl)
abbrev rm_X4_account : Room := { frames := 5, cells := 0, slots := 0, locals := 109 }
def wb_X4_account_97 (Q : Int32 → sT → Prop) (K65 : Int32 → Int32 → Int32 → Int32 → sT → Prop) (x1 : Int32) (x3 : Int32) (x4 : Int32) (x5 : Int32) (S : sT) : Prop :=
  K65 x1 x3 x4 (x5 + (1 : Int32)) S
set_option maxHeartbeats 4000000 in
set_option maxRecDepth 100000 in
theorem bk_X4_account_97 {p : Program} {l : Launch} {e : Env} {s : State} {m : MethodId} {args : Array Value} {below : List Frame} {meth : Method} {c : Code} {Z : State → Prop} {D : va_G} {cA : Nat → ClassId} {h : Nat → Nat} {Q : Int32 → sT → Prop} (C0 : cx p s m args c cX4_account 6 RX4 D cA true keysC h) (hret : rtI p l e rm_X4_account s m args below meth c cX4_account Z D (wC h cA) (aK keysC h s.heap.size) Q) {K65 : Int32 → Int32 → Int32 → Int32 → sT → Prop} (k65 : ∀ (x1 : Int32) (x3 : Int32) (x4 : Int32) (x5 : Int32) (S : sT) (H : Heap) (locs : List Loc) (ls : Array Slot), K65 x1 x3 x4 x5 S → va_P D vwCl (wC h cA S) H → va_S (aK keysC h s.heap.size) s.heap H locs → lv_has ls 6 [(0, .ref (h 1000)), (1, .int x1), (3, .int x3), (4, .int x4), (5, .int x5)] → W p l e rm_X4_account s m args below meth c H locs 0 0 Z (F0 m 65 ls [])) {x1 : Int32} {x3 : Int32} {x4 : Int32} {x5 : Int32} {S : sT} {H : Heap} {locs : List Loc} {ls : Array Slot} (hP : va_P D vwCl (wC h cA S) H) (hS : va_S (aK keysC h s.heap.size) s.heap H locs) (hd : wb_X4_account_97 Q K65 x1 x3 x4 x5 S) (hl : lv_has ls 6 [(0, .ref (h 1000)), (1, .int x1), (3, .int x3), (4, .int x4), (5, .int x5)]) : W p l e rm_X4_account s m args below meth c H locs 0 0 Z (F0 m 97 ls []) := by
  obtain ⟨⟨hx, hb, hml, hown, hts⟩, hK, -, -⟩ := id C0
  unfold wb_X4_account_97 at hd
  refine lv_iinc (v := x5 + (1 : Int32)) (lv' := [(5, .int (x5 + (1 : Int32))), (0, .ref (h 1000)), (1, .int x1), (3, .int x3), (4, .int x4)]) hx hb dX4_account_97 hl (k := 4) rfl rfl (by decide) rfl (fun ls hl => ?_)
  refine lv_goto (tgt := 65) hx hb dX4_account_100 (by decide) ?_
  exact k65 _ _ _ _ _ _ _ _ hd hP hS (lv_sub hl [1, 2, 3, 4, 0] rfl)
def wb_X4_account_65 (Q : Int32 → sT → Prop) (K65 : Int32 → Int32 → Int32 → Int32 → sT → Prop) (x1 : Int32) (x3 : Int32) (x4 : Int32) (x5 : Int32) (S : sT) : Prop :=
  wp_X1_setCount 0 S (fun r_1 S_1 => ((r_1 ≤ x5 → ((¬ x3 = 0 → Q x3 (uI S_1 13 x4)) ∧ (x3 = 0 → Q (-9 : Int32) S_1))) ∧ (¬ r_1 ≤ x5 → wp_X4_fitsSeen x1 x5 S_1 (fun r_2 S_2 => ((r_2 = 0 → wb_X4_account_97 Q K65 x1 x3 x4 x5 S_2) ∧ (¬ r_2 = 0 → wb_X4_account_97 Q K65 x1 (x3 + (1 : Int32)) (x4 &&& x5) x5 S_2))))))
set_option maxHeartbeats 4000000 in
set_option maxRecDepth 100000 in
theorem bk_X4_account_65 {p : Program} {l : Launch} {e : Env} {s : State} {m : MethodId} {args : Array Value} {below : List Frame} {meth : Method} {c : Code} {Z : State → Prop} {D : va_G} {cA : Nat → ClassId} {h : Nat → Nat} {Q : Int32 → sT → Prop} (C0 : cx p s m args c cX4_account 6 RX4 D cA true keysC h) (hret : rtI p l e rm_X4_account s m args below meth c cX4_account Z D (wC h cA) (aK keysC h s.heap.size) Q) {K65 : Int32 → Int32 → Int32 → Int32 → sT → Prop} (k65 : ∀ (x1 : Int32) (x3 : Int32) (x4 : Int32) (x5 : Int32) (S : sT) (H : Heap) (locs : List Loc) (ls : Array Slot), K65 x1 x3 x4 x5 S → va_P D vwCl (wC h cA S) H → va_S (aK keysC h s.heap.size) s.heap H locs → lv_has ls 6 [(0, .ref (h 1000)), (1, .int x1), (3, .int x3), (4, .int x4), (5, .int x5)] → W p l e rm_X4_account s m args below meth c H locs 0 0 Z (F0 m 65 ls [])) {x1 : Int32} {x3 : Int32} {x4 : Int32} {x5 : Int32} {S : sT} {H : Heap} {locs : List Loc} {ls : Array Slot} (hP : va_P D vwCl (wC h cA S) H) (hS : va_S (aK keysC h s.heap.size) s.heap H locs) (hd : wb_X4_account_65 Q K65 x1 x3 x4 x5 S) (hl : lv_has ls 6 [(0, .ref (h 1000)), (1, .int x1), (3, .int x3), (4, .int x4), (5, .int x5)]) : W p l e rm_X4_account s m args below meth c H locs 0 0 Z (F0 m 65 ls []) := by
  obtain ⟨⟨hx, hb, hml, hown, hts⟩, hK, -, -⟩ := id C0
  unfold wb_X4_account_65 at hd
  refine lv_iload hx hb dX4_account_65 (lv_at hl 4 rfl) ?_
  refine lv_aload_n hx hb dX4_account_67 rfl (lv_at hl 0 rfl) ?_
  refine gf_X4_24 C0 hP dX4_account_68 ?_
  refine cl_VNi (n := 0) (rest := [.int x5]) C0 hP hS (c_X1_setCount l C0.2.2.1 (by decide) _ hd) (lwG_C lc_X1_setCount) (by decide +kernel : (RX4, 222, yX1_setCount, "DreamTrain") ∈ nestM) lz_RX1 li_X1_setCount lx_X1_setCount (by decide +kernel) (oL_at h cA _ 0 (by decide)) rfl rfl rfl (Nat.le_of_ble_eq_true rfl) ⟨rfl, rfl⟩ ⟨by decide, by decide⟩ dX4_account_71 hl.1 ⟨Nat.zero_le _, Nat.zero_le _⟩ (fun r_1 S_1 H locs hd hP hS => ?_)
  refine lv_icmp_ge (tgt := 103) hx hb dX4_account_74 (by decide) (fun hc => ?_) (fun hc => ?_)
  · have hd := hd.1 hc
    refine lv_iload_n hx hb dX4_account_103 rfl (lv_at hl 2 rfl) ?_
    refine lv_if_ne (tgt := 110) hx hb dX4_account_104 (by decide) (fun hc => ?_) (fun hc => ?_)
    · have hd := hd.1 hc
      refine lv_aload_n hx hb dX4_account_110 rfl (lv_at hl 0 rfl) ?_
      refine lv_iload hx hb dX4_account_111 (lv_at hl 3 rfl) ?_
      refine pf_X4_97 C0 hP hS dX4_account_113 (fun H locs hP hS => ?_)
      refine lv_iload_n hx hb dX4_account_116 rfl (lv_at hl 2 rfl) ?_
      exact hret _ _ _ _ _ _ hd hP hS dX4_account_117
    · have hd := hd.2 hc
      refine lv_bipush (v := (-9)) hx hb dX4_account_107 (by decide) ?_
      exact hret _ _ _ _ _ _ hd hP hS dX4_account_109
  · have hd := hd.2 hc
    refine lv_aload_n hx hb dX4_account_77 rfl (lv_at hl 0 rfl) ?_
    refine lv_iload_n hx hb dX4_account_78 rfl (lv_at hl 1 rfl) ?_
    refine lv_iload hx hb dX4_account_79 (lv_at hl 4 rfl) ?_
    refine cl_Vi (n := 2) (rest := []) C0 hP hS (c_X4_fitsSeen l C0.2.2.1 _ hd) (lwG_V lm_X4_251 li_X4_fitsSeen lx_X4_fitsSeen lz_RX4 lc_X4_fitsSeen) (by decide +kernel) (oD_at h cA _) rfl rfl rfl (Nat.le_of_ble_eq_true rfl) ⟨rfl, rfl⟩ ⟨by decide, by decide⟩ dX4_account_81 hl.1 ⟨Nat.zero_le _, Nat.zero_le _⟩ (fun r_2 S_2 H locs hd hP hS => ?_)
    refine lv_if_eq (tgt := 97) hx hb dX4_account_84 (by decide) (fun hc => ?_) (fun hc => ?_)
    · have hd := hd.1 hc
      exact bk_X4_account_97 C0 hret k65 hP hS hd (lv_sub hl [0, 1, 2, 3, 4] rfl)
    · have hd := hd.2 hc
      refine lv_iinc (v := x3 + (1 : Int32)) (lv' := [(3, .int (x3 + (1 : Int32))), (0, .ref (h 1000)), (1, .int x1), (4, .int x4), (5, .int x5)]) hx hb dX4_account_87 hl (k := 2) rfl rfl (by decide) rfl (fun ls hl => ?_)
      refine lv_iload hx hb dX4_account_90 (lv_at hl 3 rfl) ?_
      refine lv_iload hx hb dX4_account_92 (lv_at hl 4 rfl) ?_
      refine lv_iand hx hb dX4_account_94 ?_
      refine lv_istore (lv' := [(4, .int (x4 &&& x5)), (3, .int (x3 + (1 : Int32))), (0, .ref (h 1000)), (1, .int x1), (5, .int x5)]) hx hb dX4_account_95 hl (by decide) rfl (fun ls hl => ?_)
      exact bk_X4_account_97 C0 hret k65 hP hS hd (lv_sub hl [2, 3, 1, 0, 4] rfl)
def wl_X4_account_65 (Q : Int32 → sT → Prop) : Nat → Int32 → Int32 → Int32 → Int32 → sT → Prop
  | 0, _, _, _, _ => fun _ => False
  | n + 1, x1, x3, x4, x5 => fun S => wb_X4_account_65 Q (fun x1 x3 x4 x5 S => wl_X4_account_65 Q n x1 x3 x4 x5 S) x1 x3 x4 x5 S
theorem bl_X4_account_65 {p : Program} {l : Launch} {e : Env} {s : State} {m : MethodId} {args : Array Value} {below : List Frame} {meth : Method} {c : Code} {Z : State → Prop} {D : va_G} {cA : Nat → ClassId} {h : Nat → Nat} {Q : Int32 → sT → Prop} (C0 : cx p s m args c cX4_account 6 RX4 D cA true keysC h) (hret : rtI p l e rm_X4_account s m args below meth c cX4_account Z D (wC h cA) (aK keysC h s.heap.size) Q) : ∀ (n : Nat) (x1 : Int32) (x3 : Int32) (x4 : Int32) (x5 : Int32) (S : sT) (H : Heap) (locs : List Loc) (ls : Array Slot), va_P D vwCl (wC h cA S) H → va_S (aK keysC h s.heap.size) s.heap H locs → wl_X4_account_65 Q n x1 x3 x4 x5 S → lv_has ls 6 [(0, .ref (h 1000)), (1, .int x1), (3, .int x3), (4, .int x4), (5, .int x5)] → W p l e rm_X4_account s m args below meth c H locs 0 0 Z (F0 m 65 ls []) := by
  intro n
  induction n with
  | zero => intro x1 x3 x4 x5 S H locs ls hP hS hd hl; exact (show False from hd).elim
  | succ n ih => intro x1 x3 x4 x5 S H locs ls hP hS hd hl; exact bk_X4_account_65 C0 hret (fun x1 x3 x4 x5 S H locs ls hd hP hS hl => ih x1 x3 x4 x5 S H locs ls hP hS hd hl) hP hS hd hl
def wp_X4_account (x1 : Int32) (S : sT) (Q : Int32 → sT → Prop) : Prop :=
  wp_X3_bears 0 x1 S (fun r_1 S_1 => ((¬ r_1 = 0 → ((¬ (vI S_1 26) = 0 → wp_X4_refusalOfSeen x1 S_1 (fun r_2 S_2 => ((r_2 = 0 → wp_X1_setCount 0 S_2 (fun r_3 S_3 => wp_X0_setOut 0 S_3 (fun S_4 => ∃ n : Nat, wl_X4_account_65 Q n x1 (0 : Int32) (r_3 - (1 : Int32)) (0 : Int32) S_4))) ∧ (¬ r_2 = 0 → Q r_2 S_2)))) ∧ ((vI S_1 26) = 0 → Q (-4 : Int32) S_1))) ∧ (r_1 = 0 → Q (-1 : Int32) S_1)))
set_option maxHeartbeats 4000000 in
set_option maxRecDepth 100000 in
theorem bk_X4_account {p : Program} {l : Launch} {e : Env} {s : State} {m : MethodId} {args : Array Value} {below : List Frame} {meth : Method} {c : Code} {Z : State → Prop} {D : va_G} {cA : Nat → ClassId} {h : Nat → Nat} {Q : Int32 → sT → Prop} (C0 : cx p s m args c cX4_account 6 RX4 D cA true keysC h) (hret : rtI p l e rm_X4_account s m args below meth c cX4_account Z D (wC h cA) (aK keysC h s.heap.size) Q) {x1 : Int32} {S : sT} {H : Heap} {locs : List Loc} {ls : Array Slot} (hP : va_P D vwCl (wC h cA S) H) (hS : va_S (aK keysC h s.heap.size) s.heap H locs) (hd : wp_X4_account x1 S Q) (hl : lv_has ls 6 [(0, .ref (h 1000)), (1, .int x1)]) : W p l e rm_X4_account s m args below meth c H locs 0 0 Z (F0 m 0 ls []) := by
  obtain ⟨⟨hx, hb, hml, hown, hts⟩, hK, -, -⟩ := id C0
  unfold wp_X4_account at hd
  refine lv_aload_n hx hb dX4_account_0 rfl (lv_at hl 0 rfl) ?_
  refine gf_X4_14 C0 hP dX4_account_1 ?_
  refine lv_iload_n hx hb dX4_account_4 rfl (lv_at hl 1 rfl) ?_
  refine cl_VNi (n := 1) (rest := []) C0 hP hS (c_X3_bears l C0.2.2.1 (by decide) _ hd) (lwG_C lc_X3_bears) (by decide +kernel : (RX4, 78, yX3_bears, "DreamTrain") ∈ nestM) lz_RX3 li_X3_bears lx_X3_bears (by decide +kernel) (oS_at h cA _ 0 (by decide)) rfl rfl rfl (Nat.le_of_ble_eq_true rfl) ⟨rfl, rfl⟩ ⟨by decide, by decide⟩ dX4_account_5 hl.1 ⟨Nat.zero_le _, Nat.zero_le _⟩ (fun r_1 S_1 H locs hd hP hS => ?_)
  refine lv_if_ne (tgt := 13) hx hb dX4_account_8 (by decide) (fun hc => ?_) (fun hc => ?_)
  · have hd := hd.1 hc
    refine lv_aload_n hx hb dX4_account_13 rfl (lv_at hl 0 rfl) ?_
    refine gf_X4_24 C0 hP dX4_account_14 ?_
    refine gf_X4_129_0 C0 hP dX4_account_17 ?_
    refine lv_if_ne (tgt := 26) hx hb dX4_account_20 (by decide) (fun hc => ?_) (fun hc => ?_)
    · have hd := hd.1 hc
      refine lv_aload_n hx hb dX4_account_26 rfl (lv_at hl 0 rfl) ?_
      refine lv_iload_n hx hb dX4_account_27 rfl (lv_at hl 1 rfl) ?_
      refine cl_Vi (n := 1) (rest := []) C0 hP hS (c_X4_refusalOfSeen l C0.2.2.1 _ hd) (lwG_V lm_X4_248 li_X4_refusalOfSeen lx_X4_refusalOfSeen lz_RX4 lc_X4_refusalOfSeen) (by decide +kernel) (oD_at h cA _) rfl rfl rfl (Nat.le_of_ble_eq_true rfl) ⟨rfl, rfl⟩ ⟨by decide, by decide⟩ dX4_account_28 hl.1 ⟨Nat.zero_le _, Nat.zero_le _⟩ (fun r_2 S_2 H locs hd hP hS => ?_)
      refine lv_istore_n (lv' := [(2, .int r_2), (0, .ref (h 1000)), (1, .int x1)]) hx hb dX4_account_31 rfl hl (by decide) rfl (fun ls hl => ?_)
      refine lv_iload_n hx hb dX4_account_32 rfl (lv_at hl 0 rfl) ?_
      refine lv_if_eq (tgt := 38) hx hb dX4_account_33 (by decide) (fun hc => ?_) (fun hc => ?_)
      · have hd := hd.1 hc
        refine lv_iconst (v := 0) hx hb dX4_account_38 (by decide) ?_
        refine lv_istore_n (lv' := [(3, .int (0 : Int32)), (2, .int r_2), (0, .ref (h 1000)), (1, .int x1)]) hx hb dX4_account_39 rfl hl (by decide) rfl (fun ls hl => ?_)
        refine lv_aload_n hx hb dX4_account_40 rfl (lv_at hl 2 rfl) ?_
        refine gf_X4_24 C0 hP dX4_account_41 ?_
        refine cl_VNi (n := 0) (rest := []) C0 hP hS (c_X1_setCount l C0.2.2.1 (by decide) _ hd) (lwG_C lc_X1_setCount) (by decide +kernel : (RX4, 222, yX1_setCount, "DreamTrain") ∈ nestM) lz_RX1 li_X1_setCount lx_X1_setCount (by decide +kernel) (oL_at h cA _ 0 (by decide)) rfl rfl rfl (Nat.le_of_ble_eq_true rfl) ⟨rfl, rfl⟩ ⟨by decide, by decide⟩ dX4_account_44 hl.1 ⟨Nat.zero_le _, Nat.zero_le _⟩ (fun r_3 S_3 H locs hd hP hS => ?_)
        refine lv_iconst (v := 1) hx hb dX4_account_47 (by decide) ?_
        refine lv_isub hx hb dX4_account_48 ?_
        refine lv_istore (lv' := [(4, .int (r_3 - (1 : Int32))), (3, .int (0 : Int32)), (2, .int r_2), (0, .ref (h 1000)), (1, .int x1)]) hx hb dX4_account_49 hl (by decide) rfl (fun ls hl => ?_)
        refine lv_aload_n hx hb dX4_account_51 rfl (lv_at hl 3 rfl) ?_
        refine gf_X4_49 C0 hP dX4_account_52 ?_
        refine lv_aload_n hx hb dX4_account_55 rfl (lv_at hl 3 rfl) ?_
        refine gf_X4_24 C0 hP dX4_account_56 ?_
        refine cl_VNv (n := 1) (rest := []) C0 hP hS (c_X0_setOut l C0.2.2.1 (by decide) _ hd) (lwG_C lc_X0_setOut) (by decide +kernel : (RX4, 193, yX0_setOut, "DreamTrain") ∈ nestM) lz_RX0 li_X0_setOut lx_X0_setOut (by decide +kernel) (oJ_at h cA _) rfl rfl rfl (Nat.le_of_ble_eq_true rfl) ⟨rfl, rfl⟩ ⟨by decide, by decide⟩ dX4_account_59 hl.1 ⟨Nat.zero_le _, Nat.zero_le _⟩ (fun S_4 H locs hd hP hS => ?_)
        refine lv_iconst (v := 0) hx hb dX4_account_62 (by decide) ?_
        refine lv_istore (lv' := [(5, .int (0 : Int32)), (4, .int (r_3 - (1 : Int32))), (3, .int (0 : Int32)), (2, .int r_2), (0, .ref (h 1000)), (1, .int x1)]) hx hb dX4_account_63 hl (by decide) rfl (fun ls hl => ?_)
        obtain ⟨n_5, hd⟩ := hd
        exact bl_X4_account_65 C0 hret _ _ _ _ _ _ _ _ _ hP hS hd (lv_sub hl [4, 5, 2, 1, 0] rfl)
      · have hd := hd.2 hc
        refine lv_iload_n hx hb dX4_account_36 rfl (lv_at hl 0 rfl) ?_
        exact hret _ _ _ _ _ _ hd hP hS dX4_account_37
    · have hd := hd.2 hc
      refine lv_bipush (v := (-4)) hx hb dX4_account_23 (by decide) ?_
      exact hret _ _ _ _ _ _ hd hP hS dX4_account_25
  · have hd := hd.2 hc
    refine lv_iconst (v := (-1)) hx hb dX4_account_11 (by decide) ?_
    exact hret _ _ _ _ _ _ hd hP hS dX4_account_12
theorem c_X4_account (l : Launch) {D : va_G} {cA : Nat → ClassId} {h : Nat → Nat} (hk : ky keysC h) {x1 : Int32} {S : sT} (sz : Nat) {Q : Int32 → sT → Prop} (hd : wp_X4_account x1 S Q) : Met l yX4_account (wsU yX4_account cX4_account 6 (some .int)) rm_X4_account (va_Pc [.ref (h 1000), .int x1] (gP D cA true keysC h (wC h cA) S sz)) (va_Qi Q (wB D (wC h cA)) (aK keysC h sz)) 0 0 (aK keysC h sz) :=
  mk_i (by decide) hk (Nat.le_of_ble_eq_true rfl) (fun p e s m below meth c Z ls C0 hret hP hS hl => bk_X4_account C0 hret hP hS hd hl)
abbrev rm_X4_asked : Room := { frames := 0, cells := 0, slots := 0, locals := 0 }
def wp_X4_asked (S : sT) (Q : Int32 → sT → Prop) : Prop :=
  Q (vI S 13) S
set_option maxHeartbeats 4000000 in
set_option maxRecDepth 100000 in
theorem bk_X4_asked {p : Program} {l : Launch} {e : Env} {s : State} {m : MethodId} {args : Array Value} {below : List Frame} {meth : Method} {c : Code} {Z : State → Prop} {D : va_G} {cA : Nat → ClassId} {h : Nat → Nat} {Q : Int32 → sT → Prop} (C0 : cx p s m args c cX4_asked 1 RX4 D cA true keysC h) (hret : rtI p l e rm_X4_asked s m args below meth c cX4_asked Z D (wC h cA) (aK keysC h s.heap.size) Q) {S : sT} {H : Heap} {locs : List Loc} {ls : Array Slot} (hP : va_P D vwCl (wC h cA S) H) (hS : va_S (aK keysC h s.heap.size) s.heap H locs) (hd : wp_X4_asked S Q) (hl : lv_has ls 1 [(0, .ref (h 1000))]) : W p l e rm_X4_asked s m args below meth c H locs 0 0 Z (F0 m 0 ls []) := by
  obtain ⟨⟨hx, hb, hml, hown, hts⟩, hK, -, -⟩ := id C0
  unfold wp_X4_asked at hd
  refine lv_aload_n hx hb dX4_asked_0 rfl (lv_at hl 0 rfl) ?_
  refine gf_X4_97 C0 hP dX4_asked_1 ?_
  exact hret _ _ _ _ _ _ hd hP hS dX4_asked_4
theorem c_X4_asked (l : Launch) {D : va_G} {cA : Nat → ClassId} {h : Nat → Nat} (hk : ky keysC h) {S : sT} (sz : Nat) {Q : Int32 → sT → Prop} (hd : wp_X4_asked S Q) : Met l yX4_asked (wsU yX4_asked cX4_asked 1 (some .int)) rm_X4_asked (va_Pc [.ref (h 1000)] (gP D cA true keysC h (wC h cA) S sz)) (va_Qi Q (wB D (wC h cA)) (aK keysC h sz)) 0 0 (aK keysC h sz) :=
  mk_i (by decide) hk (Nat.le_of_ble_eq_true rfl) (fun p e s m below meth c Z ls C0 hret hP hS hl => bk_X4_asked C0 hret hP hS hd hl)
abbrev rm_X4_refusalOfCell : Room := { frames := 4, cells := 0, slots := 0, locals := 85 }
def wp_X4_refusalOfCell (g1 : Nat) (x2 : Int32) (x3 : Int32) (S : sT) (Q : Int32 → sT → Prop) : Prop :=
  wp_X4_refusalOfShelf g1 x2 S (fun r_1 S_1 => ((r_1 = 0 → (vp_in x2 (lenC (200 + g1))) ∧ wp_X4_isBelow x3 (vA S_1 (200 + g1) x2.toNatClampNeg) S_1 (fun r_3 S_3 => ((r_3 = 0 → wp_X4_found (2 : Int32) S_3 (fun r_4 S_4 => Q r_4 S_4)) ∧ (¬ r_3 = 0 → Q (0 : Int32) S_3)))) ∧ (¬ r_1 = 0 → Q r_1 S_1)))
set_option maxHeartbeats 4000000 in
set_option maxRecDepth 100000 in
theorem bk_X4_refusalOfCell {p : Program} {l : Launch} {e : Env} {s : State} {m : MethodId} {args : Array Value} {below : List Frame} {meth : Method} {c : Code} {Z : State → Prop} {D : va_G} {cA : Nat → ClassId} {h : Nat → Nat} {Q : Int32 → sT → Prop} {g1 : Nat} (C0 : cx p s m args c cX4_refusalOfCell 5 RX4 D cA true keysC h) (hret : rtI p l e rm_X4_refusalOfCell s m args below meth c cX4_refusalOfCell Z D (wC h cA) (aK keysC h s.heap.size) Q) (hg1 : g1 < 2) {x2 : Int32} {x3 : Int32} {S : sT} {H : Heap} {locs : List Loc} {ls : Array Slot} (hP : va_P D vwCl (wC h cA S) H) (hS : va_S (aK keysC h s.heap.size) s.heap H locs) (hd : wp_X4_refusalOfCell g1 x2 x3 S Q) (hl : lv_has ls 5 [(0, .ref (h 1000)), (1, .ref (h (1001 + g1))), (2, .int x2), (3, .int x3)]) : W p l e rm_X4_refusalOfCell s m args below meth c H locs 0 0 Z (F0 m 0 ls []) := by
  obtain ⟨⟨hx, hb, hml, hown, hts⟩, hK, -, -⟩ := id C0
  unfold wp_X4_refusalOfCell at hd
  refine lv_aload_n hx hb dX4_refusalOfCell_0 rfl (lv_at hl 0 rfl) ?_
  refine lv_aload_n hx hb dX4_refusalOfCell_1 rfl (lv_at hl 1 rfl) ?_
  refine lv_iload_n hx hb dX4_refusalOfCell_2 rfl (lv_at hl 2 rfl) ?_
  refine cl_Vi (n := 2) (rest := []) C0 hP hS (c_X4_refusalOfShelf l C0.2.2.1 hg1 _ hd) (lwG_V lm_X4_101 li_X4_refusalOfShelf lx_X4_refusalOfShelf lz_RX4 lc_X4_refusalOfShelf) (by decide +kernel) (oD_at h cA _) rfl rfl rfl (Nat.le_of_ble_eq_true rfl) ⟨rfl, rfl⟩ ⟨by decide, by decide⟩ dX4_refusalOfCell_3 hl.1 ⟨Nat.zero_le _, Nat.zero_le _⟩ (fun r_1 S_1 H locs hd hP hS => ?_)
  refine lv_istore (lv' := [(4, .int r_1), (0, .ref (h 1000)), (1, .ref (h (1001 + g1))), (2, .int x2), (3, .int x3)]) hx hb dX4_refusalOfCell_6 hl (by decide) rfl (fun ls hl => ?_)
  refine lv_iload hx hb dX4_refusalOfCell_8 (lv_at hl 0 rfl) ?_
  refine lv_if_eq (tgt := 16) hx hb dX4_refusalOfCell_10 (by decide) (fun hc => ?_) (fun hc => ?_)
  · have hd := hd.1 hc
    refine lv_iload_n hx hb dX4_refusalOfCell_16 rfl (lv_at hl 4 rfl) ?_
    refine lv_aload_n hx hb dX4_refusalOfCell_17 rfl (lv_at hl 2 rfl) ?_
    refine gf_X4_105_v g1 hg1 C0 hP dX4_refusalOfCell_18 ?_
    refine lv_iload_n hx hb dX4_refusalOfCell_21 rfl (lv_at hl 3 rfl) ?_
    obtain ⟨h_2, hd⟩ := hd
    refine ldC (kSize _ hg1) C0 hP h_2 dX4_refusalOfCell_22 ?_
    refine cl_Si (n := 2) (rest := []) C0 hP hS (c_X4_isBelow l C0.2.2.1 _ hd) (lwG_S lm_X4_132 ls_X4_isBelow lz_RX4 lc_X4_isBelow) (by decide +kernel) rfl rfl (Nat.le_of_ble_eq_true rfl) ⟨rfl, rfl⟩ ⟨by decide, by decide⟩ dX4_refusalOfCell_23 hl.1 ⟨Nat.zero_le _, Nat.zero_le _⟩ (fun r_3 S_3 H locs hd hP hS => ?_)
    refine lv_if_eq (tgt := 33) hx hb dX4_refusalOfCell_26 (by decide) (fun hc => ?_) (fun hc => ?_)
    · have hd := hd.1 hc
      refine lv_aload_n hx hb dX4_refusalOfCell_33 rfl (lv_at hl 1 rfl) ?_
      refine lv_iconst (v := 2) hx hb dX4_refusalOfCell_34 (by decide) ?_
      refine cl_Vi (n := 1) (rest := []) C0 hP hS (c_X4_found l C0.2.2.1 _ hd) (lwG_V lm_X4_82 li_X4_found lx_X4_found lz_RX4 lc_X4_found) (by decide +kernel) (oD_at h cA _) rfl rfl rfl (Nat.le_of_ble_eq_true rfl) ⟨rfl, rfl⟩ ⟨by decide, by decide⟩ dX4_refusalOfCell_35 hl.1 ⟨Nat.zero_le _, Nat.zero_le _⟩ (fun r_4 S_4 H locs hd hP hS => ?_)
      exact hret _ _ _ _ _ _ hd hP hS dX4_refusalOfCell_38
    · have hd := hd.2 hc
      refine lv_iconst (v := 0) hx hb dX4_refusalOfCell_29 (by decide) ?_
      refine lv_goto (tgt := 38) hx hb dX4_refusalOfCell_30 (by decide) ?_
      exact hret _ _ _ _ _ _ hd hP hS dX4_refusalOfCell_38
  · have hd := hd.2 hc
    refine lv_iload hx hb dX4_refusalOfCell_13 (lv_at hl 0 rfl) ?_
    exact hret _ _ _ _ _ _ hd hP hS dX4_refusalOfCell_15
theorem c_X4_refusalOfCell (l : Launch) {D : va_G} {cA : Nat → ClassId} {h : Nat → Nat} (hk : ky keysC h) {g1 : Nat} (hg1 : g1 < 2) {x2 : Int32} {x3 : Int32} {S : sT} (sz : Nat) {Q : Int32 → sT → Prop} (hd : wp_X4_refusalOfCell g1 x2 x3 S Q) : Met l yX4_refusalOfCell (wsU yX4_refusalOfCell cX4_refusalOfCell 5 (some .int)) rm_X4_refusalOfCell (va_Pc [.ref (h 1000), .ref (h (1001 + g1)), .int x2, .int x3] (gP D cA true keysC h (wC h cA) S sz)) (va_Qi Q (wB D (wC h cA)) (aK keysC h sz)) 0 0 (aK keysC h sz) :=
  mk_i (by decide) hk (Nat.le_of_ble_eq_true rfl) (fun p e s m below meth c Z ls C0 hret hP hS hl => bk_X4_refusalOfCell C0 hret hg1 hP hS hd hl)
abbrev rm_X4_at : Room := { frames := 5, cells := 0, slots := 0, locals := 109 }
def wp_X4_at (x1 : Int32) (x2 : Int32) (S : sT) (Q : Int32 → sT → Prop) : Prop :=
  wp_X4_refusalOfCell 0 x1 x2 S (fun r_1 S_1 => ((r_1 = 0 → (vp_in x1 6) ∧ (vp_in x2 40) ∧ Q (1 : Int32) (uI S_1 13 (vA S_1 (300 + x1.toNatClampNeg) x2.toNatClampNeg))) ∧ (¬ r_1 = 0 → Q r_1 S_1)))
set_option maxHeartbeats 4000000 in
set_option maxRecDepth 100000 in
theorem bk_X4_at {p : Program} {l : Launch} {e : Env} {s : State} {m : MethodId} {args : Array Value} {below : List Frame} {meth : Method} {c : Code} {Z : State → Prop} {D : va_G} {cA : Nat → ClassId} {h : Nat → Nat} {Q : Int32 → sT → Prop} (C0 : cx p s m args c cX4_at 4 RX4 D cA true keysC h) (hret : rtI p l e rm_X4_at s m args below meth c cX4_at Z D (wC h cA) (aK keysC h s.heap.size) Q) {x1 : Int32} {x2 : Int32} {S : sT} {H : Heap} {locs : List Loc} {ls : Array Slot} (hP : va_P D vwCl (wC h cA S) H) (hS : va_S (aK keysC h s.heap.size) s.heap H locs) (hd : wp_X4_at x1 x2 S Q) (hl : lv_has ls 4 [(0, .ref (h 1000)), (1, .int x1), (2, .int x2)]) : W p l e rm_X4_at s m args below meth c H locs 0 0 Z (F0 m 0 ls []) := by
  obtain ⟨⟨hx, hb, hml, hown, hts⟩, hK, -, -⟩ := id C0
  unfold wp_X4_at at hd
  refine lv_aload_n hx hb dX4_at_0 rfl (lv_at hl 0 rfl) ?_
  refine lv_aload_n hx hb dX4_at_1 rfl (lv_at hl 0 rfl) ?_
  refine gf_X4_14 C0 hP dX4_at_2 ?_
  refine lv_iload_n hx hb dX4_at_5 rfl (lv_at hl 1 rfl) ?_
  refine lv_iload_n hx hb dX4_at_6 rfl (lv_at hl 2 rfl) ?_
  refine cl_Vi (n := 3) (rest := []) C0 hP hS (c_X4_refusalOfCell l C0.2.2.1 (by decide) _ hd) (lwG_V lm_X4_90 li_X4_refusalOfCell lx_X4_refusalOfCell lz_RX4 lc_X4_refusalOfCell) (by decide +kernel) (oD_at h cA _) rfl rfl rfl (Nat.le_of_ble_eq_true rfl) ⟨rfl, rfl⟩ ⟨by decide, by decide⟩ dX4_at_7 hl.1 ⟨Nat.zero_le _, Nat.zero_le _⟩ (fun r_1 S_1 H locs hd hP hS => ?_)
  refine lv_istore_n (lv' := [(3, .int r_1), (0, .ref (h 1000)), (1, .int x1), (2, .int x2)]) hx hb dX4_at_10 rfl hl (by decide) rfl (fun ls hl => ?_)
  refine lv_iload_n hx hb dX4_at_11 rfl (lv_at hl 0 rfl) ?_
  refine lv_if_eq (tgt := 17) hx hb dX4_at_12 (by decide) (fun hc => ?_) (fun hc => ?_)
  · have hd := hd.1 hc
    refine lv_aload_n hx hb dX4_at_17 rfl (lv_at hl 1 rfl) ?_
    refine lv_aload_n hx hb dX4_at_18 rfl (lv_at hl 1 rfl) ?_
    refine gf_X4_14 C0 hP dX4_at_19 ?_
    refine gf_X4_94_0 C0 hP dX4_at_22 ?_
    refine lv_iload_n hx hb dX4_at_25 rfl (lv_at hl 2 rfl) ?_
    obtain ⟨h_2, hd⟩ := hd
    refine ao_1010 C0 hP h_2 dX4_at_26 ?_
    refine lv_iload_n hx hb dX4_at_27 rfl (lv_at hl 3 rfl) ?_
    obtain ⟨h_3, hd⟩ := hd
    refine ldC (kRow0 _ (vp_lt h_2)) C0 hP (by rw [lRow0 _ (vp_lt h_2)]; exact h_3) dX4_at_28 ?_
    refine pf_X4_97 C0 hP hS dX4_at_29 (fun H locs hP hS => ?_)
    refine lv_iconst (v := 1) hx hb dX4_at_32 (by decide) ?_
    exact hret _ _ _ _ _ _ hd hP hS dX4_at_33
  · have hd := hd.2 hc
    refine lv_iload_n hx hb dX4_at_15 rfl (lv_at hl 0 rfl) ?_
    exact hret _ _ _ _ _ _ hd hP hS dX4_at_16
theorem c_X4_at (l : Launch) {D : va_G} {cA : Nat → ClassId} {h : Nat → Nat} (hk : ky keysC h) {x1 : Int32} {x2 : Int32} {S : sT} (sz : Nat) {Q : Int32 → sT → Prop} (hd : wp_X4_at x1 x2 S Q) : Met l yX4_at (wsU yX4_at cX4_at 4 (some .int)) rm_X4_at (va_Pc [.ref (h 1000), .int x1, .int x2] (gP D cA true keysC h (wC h cA) S sz)) (va_Qi Q (wB D (wC h cA)) (aK keysC h sz)) 0 0 (aK keysC h sz) :=
  mk_i (by decide) hk (Nat.le_of_ble_eq_true rfl) (fun p e s m below meth c Z ls C0 hret hP hS hl => bk_X4_at C0 hret hP hS hd hl)
abbrev rm_X4_bed : Room := { frames := 3, cells := 0, slots := 0, locals := 73 }
def wb_X4_bed_99 (Q : Int32 → sT → Prop) (K34 : Int32 → Int32 → Int32 → Int32 → sT → Prop) (x1 : Int32) (x2 : Int32) (x3 : Int32) (x4 : Int32) (S : sT) : Prop :=
  K34 x1 x2 x3 (x4 + (1 : Int32)) S
set_option maxHeartbeats 4000000 in
set_option maxRecDepth 100000 in
theorem bk_X4_bed_99 {p : Program} {l : Launch} {e : Env} {s : State} {m : MethodId} {args : Array Value} {below : List Frame} {meth : Method} {c : Code} {Z : State → Prop} {D : va_G} {cA : Nat → ClassId} {h : Nat → Nat} {Q : Int32 → sT → Prop} (C0 : cx p s m args c cX4_bed 6 RX4 D cA true keysC h) (hret : rtI p l e rm_X4_bed s m args below meth c cX4_bed Z D (wC h cA) (aK keysC h s.heap.size) Q) {K34 : Int32 → Int32 → Int32 → Int32 → sT → Prop} (k34 : ∀ (x1 : Int32) (x2 : Int32) (x3 : Int32) (x4 : Int32) (S : sT) (H : Heap) (locs : List Loc) (ls : Array Slot), K34 x1 x2 x3 x4 S → va_P D vwCl (wC h cA S) H → va_S (aK keysC h s.heap.size) s.heap H locs → lv_has ls 6 [(0, .ref (h 1000)), (1, .int x1), (2, .int x2), (3, .int x3), (4, .int x4)] → W p l e rm_X4_bed s m args below meth c H locs 0 0 Z (F0 m 34 ls [])) {x1 : Int32} {x2 : Int32} {x3 : Int32} {x4 : Int32} {S : sT} {H : Heap} {locs : List Loc} {ls : Array Slot} (hP : va_P D vwCl (wC h cA S) H) (hS : va_S (aK keysC h s.heap.size) s.heap H locs) (hd : wb_X4_bed_99 Q K34 x1 x2 x3 x4 S) (hl : lv_has ls 6 [(0, .ref (h 1000)), (1, .int x1), (2, .int x2), (3, .int x3), (4, .int x4)]) : W p l e rm_X4_bed s m args below meth c H locs 0 0 Z (F0 m 99 ls []) := by
  obtain ⟨⟨hx, hb, hml, hown, hts⟩, hK, -, -⟩ := id C0
  unfold wb_X4_bed_99 at hd
  refine lv_iinc (v := x4 + (1 : Int32)) (lv' := [(4, .int (x4 + (1 : Int32))), (0, .ref (h 1000)), (1, .int x1), (2, .int x2), (3, .int x3)]) hx hb dX4_bed_99 hl (k := 4) rfl rfl (by decide) rfl (fun ls hl => ?_)
  refine lv_goto (tgt := 34) hx hb dX4_bed_102 (by decide) ?_
  exact k34 _ _ _ _ _ _ _ _ hd hP hS (lv_sub hl [1, 2, 3, 4, 0] rfl)
def wb_X4_bed_34 (Q : Int32 → sT → Prop) (K34 : Int32 → Int32 → Int32 → Int32 → sT → Prop) (x1 : Int32) (x2 : Int32) (x3 : Int32) (x4 : Int32) (S : sT) : Prop :=
  (((vI S 27) < x4 → Q x2 (uI S 13 x3)) ∧ (¬ (vI S 27) < x4 → (vp_in x1 6) ∧ wp_X0_ride (40 : Int32) (vI (uA S 111 (upd (vA S 111) x1.toNatClampNeg x4)) 29) (uA S 111 (upd (vA S 111) x1.toNatClampNeg x4)) (fun r_2 S_2 => wp_X0_minutesAt x4 (40 : Int32) S_2 (fun r_3 S_3 => ((r_3 ≤ x3 → wb_X4_bed_99 Q K34 x1 x2 x3 x4 S_3) ∧ (¬ r_3 ≤ x3 → wb_X4_bed_99 Q K34 x1 x4 r_3 x4 S_3))))))
set_option maxHeartbeats 4000000 in
set_option maxRecDepth 100000 in
theorem bk_X4_bed_34 {p : Program} {l : Launch} {e : Env} {s : State} {m : MethodId} {args : Array Value} {below : List Frame} {meth : Method} {c : Code} {Z : State → Prop} {D : va_G} {cA : Nat → ClassId} {h : Nat → Nat} {Q : Int32 → sT → Prop} (C0 : cx p s m args c cX4_bed 6 RX4 D cA true keysC h) (hret : rtI p l e rm_X4_bed s m args below meth c cX4_bed Z D (wC h cA) (aK keysC h s.heap.size) Q) {K34 : Int32 → Int32 → Int32 → Int32 → sT → Prop} (k34 : ∀ (x1 : Int32) (x2 : Int32) (x3 : Int32) (x4 : Int32) (S : sT) (H : Heap) (locs : List Loc) (ls : Array Slot), K34 x1 x2 x3 x4 S → va_P D vwCl (wC h cA S) H → va_S (aK keysC h s.heap.size) s.heap H locs → lv_has ls 6 [(0, .ref (h 1000)), (1, .int x1), (2, .int x2), (3, .int x3), (4, .int x4)] → W p l e rm_X4_bed s m args below meth c H locs 0 0 Z (F0 m 34 ls [])) {x1 : Int32} {x2 : Int32} {x3 : Int32} {x4 : Int32} {S : sT} {H : Heap} {locs : List Loc} {ls : Array Slot} (hP : va_P D vwCl (wC h cA S) H) (hS : va_S (aK keysC h s.heap.size) s.heap H locs) (hd : wb_X4_bed_34 Q K34 x1 x2 x3 x4 S) (hl : lv_has ls 6 [(0, .ref (h 1000)), (1, .int x1), (2, .int x2), (3, .int x3), (4, .int x4)]) : W p l e rm_X4_bed s m args below meth c H locs 0 0 Z (F0 m 34 ls []) := by
  obtain ⟨⟨hx, hb, hml, hown, hts⟩, hK, -, -⟩ := id C0
  unfold wb_X4_bed_34 at hd
  refine lv_iload hx hb dX4_bed_34 (lv_at hl 4 rfl) ?_
  refine lv_aload_n hx hb dX4_bed_36 rfl (lv_at hl 0 rfl) ?_
  refine gf_X4_24 C0 hP dX4_bed_37 ?_
  refine gf_X4_205_0 C0 hP dX4_bed_40 ?_
  refine lv_icmp_gt (tgt := 105) hx hb dX4_bed_43 (by decide) (fun hc => ?_) (fun hc => ?_)
  · have hd := hd.1 hc
    refine lv_aload_n hx hb dX4_bed_105 rfl (lv_at hl 0 rfl) ?_
    refine lv_iload_n hx hb dX4_bed_106 rfl (lv_at hl 3 rfl) ?_
    refine pf_X4_97 C0 hP hS dX4_bed_107 (fun H locs hP hS => ?_)
    refine lv_iload_n hx hb dX4_bed_110 rfl (lv_at hl 2 rfl) ?_
    exact hret _ _ _ _ _ _ hd hP hS dX4_bed_111
  · have hd := hd.2 hc
    refine lv_aload_n hx hb dX4_bed_46 rfl (lv_at hl 0 rfl) ?_
    refine gf_X4_49 C0 hP dX4_bed_47 ?_
    refine gf_X4_247 C0 hP dX4_bed_50 ?_
    refine lv_iload_n hx hb dX4_bed_53 rfl (lv_at hl 1 rfl) ?_
    refine lv_iload hx hb dX4_bed_54 (lv_at hl 4 rfl) ?_
    obtain ⟨h_1, hd⟩ := hd
    refine stC (by decide) C0 hP hS h_1 dX4_bed_56 (fun H locs hP hS => ?_)
    refine lv_aload_n hx hb dX4_bed_57 rfl (lv_at hl 0 rfl) ?_
    refine gf_X4_49 C0 hP dX4_bed_58 ?_
    refine lv_bipush (v := 40) hx hb dX4_bed_61 (by decide) ?_
    refine lv_aload_n hx hb dX4_bed_63 rfl (lv_at hl 0 rfl) ?_
    refine gf_X4_24 C0 hP dX4_bed_64 ?_
    refine gf_X4_196_0 C0 hP dX4_bed_67 ?_
    refine cl_VNi (n := 2) (rest := []) C0 hP hS (c_X0_ride l C0.2.2.1 _ hd) (lwG_C lc_X0_ride) (by decide +kernel : (RX4, 199, yX0_ride, "DreamTrain") ∈ nestM) lz_RX0 li_X0_ride lx_X0_ride (by decide +kernel) (oJ_at h cA _) rfl rfl rfl (Nat.le_of_ble_eq_true rfl) ⟨rfl, rfl⟩ ⟨by decide, by decide⟩ dX4_bed_70 hl.1 ⟨Nat.zero_le _, Nat.zero_le _⟩ (fun r_2 S_2 H locs hd hP hS => ?_)
    refine lv_pop hx hb dX4_bed_73 rfl ?_
    refine lv_aload_n hx hb dX4_bed_74 rfl (lv_at hl 0 rfl) ?_
    refine gf_X4_49 C0 hP dX4_bed_75 ?_
    refine lv_iload hx hb dX4_bed_78 (lv_at hl 4 rfl) ?_
    refine lv_bipush (v := 40) hx hb dX4_bed_80 (by decide) ?_
    refine cl_VNi (n := 2) (rest := []) C0 hP hS (c_X0_minutesAt l C0.2.2.1 _ hd) (lwG_C lc_X0_minutesAt) (by decide +kernel : (RX4, 211, yX0_minutesAt, "DreamTrain") ∈ nestM) lz_RX0 li_X0_minutesAt lx_X0_minutesAt (by decide +kernel) (oJ_at h cA _) rfl rfl rfl (Nat.le_of_ble_eq_true rfl) ⟨rfl, rfl⟩ ⟨by decide, by decide⟩ dX4_bed_82 hl.1 ⟨Nat.zero_le _, Nat.zero_le _⟩ (fun r_3 S_3 H locs hd hP hS => ?_)
    refine lv_istore (lv' := [(5, .int r_3), (0, .ref (h 1000)), (1, .int x1), (2, .int x2), (3, .int x3), (4, .int x4)]) hx hb dX4_bed_85 hl (by decide) rfl (fun ls hl => ?_)
    refine lv_iload hx hb dX4_bed_87 (lv_at hl 0 rfl) ?_
    refine lv_iload_n hx hb dX4_bed_89 rfl (lv_at hl 4 rfl) ?_
    refine lv_icmp_le (tgt := 99) hx hb dX4_bed_90 (by decide) (fun hc => ?_) (fun hc => ?_)
    · have hd := hd.1 hc
      exact bk_X4_bed_99 C0 hret k34 hP hS hd (lv_sub hl [1, 2, 3, 4, 5] rfl)
    · have hd := hd.2 hc
      refine lv_iload hx hb dX4_bed_93 (lv_at hl 0 rfl) ?_
      refine lv_istore_n (lv' := [(3, .int r_3), (5, .int r_3), (0, .ref (h 1000)), (1, .int x1), (2, .int x2), (4, .int x4)]) hx hb dX4_bed_95 rfl hl (by decide) rfl (fun ls hl => ?_)
      refine lv_iload hx hb dX4_bed_96 (lv_at hl 5 rfl) ?_
      refine lv_istore_n (lv' := [(2, .int x4), (3, .int r_3), (5, .int r_3), (0, .ref (h 1000)), (1, .int x1), (4, .int x4)]) hx hb dX4_bed_98 rfl hl (by decide) rfl (fun ls hl => ?_)
      exact bk_X4_bed_99 C0 hret k34 hP hS hd (lv_sub hl [3, 4, 0, 1, 5] rfl)
def wl_X4_bed_34 (Q : Int32 → sT → Prop) : Nat → Int32 → Int32 → Int32 → Int32 → sT → Prop
  | 0, _, _, _, _ => fun _ => False
  | n + 1, x1, x2, x3, x4 => fun S => wb_X4_bed_34 Q (fun x1 x2 x3 x4 S => wl_X4_bed_34 Q n x1 x2 x3 x4 S) x1 x2 x3 x4 S
theorem bl_X4_bed_34 {p : Program} {l : Launch} {e : Env} {s : State} {m : MethodId} {args : Array Value} {below : List Frame} {meth : Method} {c : Code} {Z : State → Prop} {D : va_G} {cA : Nat → ClassId} {h : Nat → Nat} {Q : Int32 → sT → Prop} (C0 : cx p s m args c cX4_bed 6 RX4 D cA true keysC h) (hret : rtI p l e rm_X4_bed s m args below meth c cX4_bed Z D (wC h cA) (aK keysC h s.heap.size) Q) : ∀ (n : Nat) (x1 : Int32) (x2 : Int32) (x3 : Int32) (x4 : Int32) (S : sT) (H : Heap) (locs : List Loc) (ls : Array Slot), va_P D vwCl (wC h cA S) H → va_S (aK keysC h s.heap.size) s.heap H locs → wl_X4_bed_34 Q n x1 x2 x3 x4 S → lv_has ls 6 [(0, .ref (h 1000)), (1, .int x1), (2, .int x2), (3, .int x3), (4, .int x4)] → W p l e rm_X4_bed s m args below meth c H locs 0 0 Z (F0 m 34 ls []) := by
  intro n
  induction n with
  | zero => intro x1 x2 x3 x4 S H locs ls hP hS hd hl; exact (show False from hd).elim
  | succ n ih => intro x1 x2 x3 x4 S H locs ls hP hS hd hl; exact bk_X4_bed_34 C0 hret (fun x1 x2 x3 x4 S H locs ls hd hP hS hl => ih x1 x2 x3 x4 S H locs ls hP hS hd hl) hP hS hd hl
def wp_X4_bed (x1 : Int32) (S : sT) (Q : Int32 → sT → Prop) : Prop :=
  wp_X4_isBelow x1 (vI S 26) S (fun r_1 S_1 => ((¬ r_1 = 0 → wp_X0_setOut 0 S_1 (fun S_2 => ∃ n : Nat, wl_X4_bed_34 Q n x1 (0 : Int32) (-1 : Int32) (0 : Int32) S_2)) ∧ (r_1 = 0 → Q (-1 : Int32) S_1)))
set_option maxHeartbeats 4000000 in
set_option maxRecDepth 100000 in
theorem bk_X4_bed {p : Program} {l : Launch} {e : Env} {s : State} {m : MethodId} {args : Array Value} {below : List Frame} {meth : Method} {c : Code} {Z : State → Prop} {D : va_G} {cA : Nat → ClassId} {h : Nat → Nat} {Q : Int32 → sT → Prop} (C0 : cx p s m args c cX4_bed 6 RX4 D cA true keysC h) (hret : rtI p l e rm_X4_bed s m args below meth c cX4_bed Z D (wC h cA) (aK keysC h s.heap.size) Q) {x1 : Int32} {S : sT} {H : Heap} {locs : List Loc} {ls : Array Slot} (hP : va_P D vwCl (wC h cA S) H) (hS : va_S (aK keysC h s.heap.size) s.heap H locs) (hd : wp_X4_bed x1 S Q) (hl : lv_has ls 6 [(0, .ref (h 1000)), (1, .int x1)]) : W p l e rm_X4_bed s m args below meth c H locs 0 0 Z (F0 m 0 ls []) := by
  obtain ⟨⟨hx, hb, hml, hown, hts⟩, hK, -, -⟩ := id C0
  unfold wp_X4_bed at hd
  refine lv_iload_n hx hb dX4_bed_0 rfl (lv_at hl 1 rfl) ?_
  refine lv_aload_n hx hb dX4_bed_1 rfl (lv_at hl 0 rfl) ?_
  refine gf_X4_24 C0 hP dX4_bed_2 ?_
  refine gf_X4_129_0 C0 hP dX4_bed_5 ?_
  refine cl_Si (n := 2) (rest := []) C0 hP hS (c_X4_isBelow l C0.2.2.1 _ hd) (lwG_S lm_X4_132 ls_X4_isBelow lz_RX4 lc_X4_isBelow) (by decide +kernel) rfl rfl (Nat.le_of_ble_eq_true rfl) ⟨rfl, rfl⟩ ⟨by decide, by decide⟩ dX4_bed_8 hl.1 ⟨Nat.zero_le _, Nat.zero_le _⟩ (fun r_1 S_1 H locs hd hP hS => ?_)
  refine lv_if_ne (tgt := 16) hx hb dX4_bed_11 (by decide) (fun hc => ?_) (fun hc => ?_)
  · have hd := hd.1 hc
    refine lv_iconst (v := 0) hx hb dX4_bed_16 (by decide) ?_
    refine lv_istore_n (lv' := [(2, .int (0 : Int32)), (0, .ref (h 1000)), (1, .int x1)]) hx hb dX4_bed_17 rfl hl (by decide) rfl (fun ls hl => ?_)
    refine lv_iconst (v := (-1)) hx hb dX4_bed_18 (by decide) ?_
    refine lv_istore_n (lv' := [(3, .int (-1 : Int32)), (2, .int (0 : Int32)), (0, .ref (h 1000)), (1, .int x1)]) hx hb dX4_bed_19 rfl hl (by decide) rfl (fun ls hl => ?_)
    refine lv_aload_n hx hb dX4_bed_20 rfl (lv_at hl 2 rfl) ?_
    refine gf_X4_49 C0 hP dX4_bed_21 ?_
    refine lv_aload_n hx hb dX4_bed_24 rfl (lv_at hl 2 rfl) ?_
    refine gf_X4_24 C0 hP dX4_bed_25 ?_
    refine cl_VNv (n := 1) (rest := []) C0 hP hS (c_X0_setOut l C0.2.2.1 (by decide) _ hd) (lwG_C lc_X0_setOut) (by decide +kernel : (RX4, 193, yX0_setOut, "DreamTrain") ∈ nestM) lz_RX0 li_X0_setOut lx_X0_setOut (by decide +kernel) (oJ_at h cA _) rfl rfl rfl (Nat.le_of_ble_eq_true rfl) ⟨rfl, rfl⟩ ⟨by decide, by decide⟩ dX4_bed_28 hl.1 ⟨Nat.zero_le _, Nat.zero_le _⟩ (fun S_2 H locs hd hP hS => ?_)
    refine lv_iconst (v := 0) hx hb dX4_bed_31 (by decide) ?_
    refine lv_istore (lv' := [(4, .int (0 : Int32)), (3, .int (-1 : Int32)), (2, .int (0 : Int32)), (0, .ref (h 1000)), (1, .int x1)]) hx hb dX4_bed_32 hl (by decide) rfl (fun ls hl => ?_)
    obtain ⟨n_3, hd⟩ := hd
    exact bl_X4_bed_34 C0 hret _ _ _ _ _ _ _ _ _ hP hS hd (lv_sub hl [3, 4, 2, 1, 0] rfl)
  · have hd := hd.2 hc
    refine lv_iconst (v := (-1)) hx hb dX4_bed_14 (by decide) ?_
    exact hret _ _ _ _ _ _ hd hP hS dX4_bed_15
theorem c_X4_bed (l : Launch) {D : va_G} {cA : Nat → ClassId} {h : Nat → Nat} (hk : ky keysC h) {x1 : Int32} {S : sT} (sz : Nat) {Q : Int32 → sT → Prop} (hd : wp_X4_bed x1 S Q) : Met l yX4_bed (wsU yX4_bed cX4_bed 6 (some .int)) rm_X4_bed (va_Pc [.ref (h 1000), .int x1] (gP D cA true keysC h (wC h cA) S sz)) (va_Qi Q (wB D (wC h cA)) (aK keysC h sz)) 0 0 (aK keysC h sz) :=
  mk_i (by decide) hk (Nat.le_of_ble_eq_true rfl) (fun p e s m below meth c Z ls C0 hret hP hS hl => bk_X4_bed C0 hret hP hS hd hl)
abbrev rm_X4_comes : Room := { frames := 3, cells := 0, slots := 0, locals := 73 }
def wb_X4_comes_43 (Q : Int32 → sT → Prop) (K43 : Int32 → sT → Prop) (x1 : Int32) (S : sT) : Prop :=
  (((60 : Int32) < x1 → Q (-9 : Int32) S) ∧ (¬ (60 : Int32) < x1 → (vp_in x1 61) ∧ ((¬ (vA S 113 x1.toNatClampNeg) = (vI S 27) → K43 (x1 + (1 : Int32)) S) ∧ ((vA S 113 x1.toNatClampNeg) = (vI S 27) → Q x1 (uI S 13 ((vI S 30) + x1))))))
set_option maxHeartbeats 4000000 in
set_option maxRecDepth 100000 in
theorem bk_X4_comes_43 {p : Program} {l : Launch} {e : Env} {s : State} {m : MethodId} {args : Array Value} {below : List Frame} {meth : Method} {c : Code} {Z : State → Prop} {D : va_G} {cA : Nat → ClassId} {h : Nat → Nat} {Q : Int32 → sT → Prop} (C0 : cx p s m args c cX4_comes 2 RX4 D cA true keysC h) (hret : rtI p l e rm_X4_comes s m args below meth c cX4_comes Z D (wC h cA) (aK keysC h s.heap.size) Q) {K43 : Int32 → sT → Prop} (k43 : ∀ (x1 : Int32) (S : sT) (H : Heap) (locs : List Loc) (ls : Array Slot), K43 x1 S → va_P D vwCl (wC h cA S) H → va_S (aK keysC h s.heap.size) s.heap H locs → lv_has ls 2 [(0, .ref (h 1000)), (1, .int x1)] → W p l e rm_X4_comes s m args below meth c H locs 0 0 Z (F0 m 43 ls [])) {x1 : Int32} {S : sT} {H : Heap} {locs : List Loc} {ls : Array Slot} (hP : va_P D vwCl (wC h cA S) H) (hS : va_S (aK keysC h s.heap.size) s.heap H locs) (hd : wb_X4_comes_43 Q K43 x1 S) (hl : lv_has ls 2 [(0, .ref (h 1000)), (1, .int x1)]) : W p l e rm_X4_comes s m args below meth c H locs 0 0 Z (F0 m 43 ls []) := by
  obtain ⟨⟨hx, hb, hml, hown, hts⟩, hK, -, -⟩ := id C0
  unfold wb_X4_comes_43 at hd
  refine lv_iload_n hx hb dX4_comes_43 rfl (lv_at hl 1 rfl) ?_
  refine lv_bipush (v := 60) hx hb dX4_comes_44 (by decide) ?_
  refine lv_icmp_gt (tgt := 89) hx hb dX4_comes_46 (by decide) (fun hc => ?_) (fun hc => ?_)
  · have hd := hd.1 hc
    refine lv_bipush (v := (-9)) hx hb dX4_comes_89 (by decide) ?_
    exact hret _ _ _ _ _ _ hd hP hS dX4_comes_91
  · have hd := hd.2 hc
    refine lv_aload_n hx hb dX4_comes_49 rfl (lv_at hl 0 rfl) ?_
    refine gf_X4_49 C0 hP dX4_comes_50 ?_
    refine gf_X4_202 C0 hP dX4_comes_53 ?_
    refine lv_iload_n hx hb dX4_comes_56 rfl (lv_at hl 1 rfl) ?_
    obtain ⟨h_1, hd⟩ := hd
    refine ldC (by decide) C0 hP h_1 dX4_comes_57 ?_
    refine lv_aload_n hx hb dX4_comes_58 rfl (lv_at hl 0 rfl) ?_
    refine gf_X4_24 C0 hP dX4_comes_59 ?_
    refine gf_X4_205_0 C0 hP dX4_comes_62 ?_
    refine lv_icmp_ne (tgt := 83) hx hb dX4_comes_65 (by decide) (fun hc => ?_) (fun hc => ?_)
    · have hd := hd.1 hc
      refine lv_iinc (v := x1 + (1 : Int32)) (lv' := [(1, .int (x1 + (1 : Int32))), (0, .ref (h 1000))]) hx hb dX4_comes_83 hl (k := 1) rfl rfl (by decide) rfl (fun ls hl => ?_)
      refine lv_goto (tgt := 43) hx hb dX4_comes_86 (by decide) ?_
      exact k43 _ _ _ _ _ hd hP hS (lv_sub hl [1, 0] rfl)
    · have hd := hd.2 hc
      refine lv_aload_n hx hb dX4_comes_68 rfl (lv_at hl 0 rfl) ?_
      refine lv_aload_n hx hb dX4_comes_69 rfl (lv_at hl 0 rfl) ?_
      refine gf_X4_24 C0 hP dX4_comes_70 ?_
      refine gf_X4_162_0 C0 hP dX4_comes_73 ?_
      refine lv_iload_n hx hb dX4_comes_76 rfl (lv_at hl 1 rfl) ?_
      refine lv_iadd hx hb dX4_comes_77 ?_
      refine pf_X4_97 C0 hP hS dX4_comes_78 (fun H locs hP hS => ?_)
      refine lv_iload_n hx hb dX4_comes_81 rfl (lv_at hl 1 rfl) ?_
      exact hret _ _ _ _ _ _ hd hP hS dX4_comes_82
def wl_X4_comes_43 (Q : Int32 → sT → Prop) : Nat → Int32 → sT → Prop
  | 0, _ => fun _ => False
  | n + 1, x1 => fun S => wb_X4_comes_43 Q (fun x1 S => wl_X4_comes_43 Q n x1 S) x1 S
theorem bl_X4_comes_43 {p : Program} {l : Launch} {e : Env} {s : State} {m : MethodId} {args : Array Value} {below : List Frame} {meth : Method} {c : Code} {Z : State → Prop} {D : va_G} {cA : Nat → ClassId} {h : Nat → Nat} {Q : Int32 → sT → Prop} (C0 : cx p s m args c cX4_comes 2 RX4 D cA true keysC h) (hret : rtI p l e rm_X4_comes s m args below meth c cX4_comes Z D (wC h cA) (aK keysC h s.heap.size) Q) : ∀ (n : Nat) (x1 : Int32) (S : sT) (H : Heap) (locs : List Loc) (ls : Array Slot), va_P D vwCl (wC h cA S) H → va_S (aK keysC h s.heap.size) s.heap H locs → wl_X4_comes_43 Q n x1 S → lv_has ls 2 [(0, .ref (h 1000)), (1, .int x1)] → W p l e rm_X4_comes s m args below meth c H locs 0 0 Z (F0 m 43 ls []) := by
  intro n
  induction n with
  | zero => intro x1 S H locs ls hP hS hd hl; exact (show False from hd).elim
  | succ n ih => intro x1 S H locs ls hP hS hd hl; exact bk_X4_comes_43 C0 hret (fun x1 S H locs ls hd hP hS hl => ih x1 S H locs ls hP hS hd hl) hP hS hd hl
def wp_X4_comes (S : sT) (Q : Int32 → sT → Prop) : Prop :=
  ((¬ (vI S 26) = 0 → wp_X0_setOut 0 S (fun S_1 => wp_X0_ride (60 : Int32) (vI S_1 29) S_1 (fun r_2 S_2 => ∃ n : Nat, wl_X4_comes_43 Q n (0 : Int32) S_2))) ∧ ((vI S 26) = 0 → Q (-4 : Int32) S))
set_option maxHeartbeats 4000000 in
set_option maxRecDepth 100000 in
theorem bk_X4_comes {p : Program} {l : Launch} {e : Env} {s : State} {m : MethodId} {args : Array Value} {below : List Frame} {meth : Method} {c : Code} {Z : State → Prop} {D : va_G} {cA : Nat → ClassId} {h : Nat → Nat} {Q : Int32 → sT → Prop} (C0 : cx p s m args c cX4_comes 2 RX4 D cA true keysC h) (hret : rtI p l e rm_X4_comes s m args below meth c cX4_comes Z D (wC h cA) (aK keysC h s.heap.size) Q) {S : sT} {H : Heap} {locs : List Loc} {ls : Array Slot} (hP : va_P D vwCl (wC h cA S) H) (hS : va_S (aK keysC h s.heap.size) s.heap H locs) (hd : wp_X4_comes S Q) (hl : lv_has ls 2 [(0, .ref (h 1000))]) : W p l e rm_X4_comes s m args below meth c H locs 0 0 Z (F0 m 0 ls []) := by
  obtain ⟨⟨hx, hb, hml, hown, hts⟩, hK, -, -⟩ := id C0
  unfold wp_X4_comes at hd
  refine lv_aload_n hx hb dX4_comes_0 rfl (lv_at hl 0 rfl) ?_
  refine gf_X4_24 C0 hP dX4_comes_1 ?_
  refine gf_X4_129_0 C0 hP dX4_comes_4 ?_
  refine lv_if_ne (tgt := 13) hx hb dX4_comes_7 (by decide) (fun hc => ?_) (fun hc => ?_)
  · have hd := hd.1 hc
    refine lv_aload_n hx hb dX4_comes_13 rfl (lv_at hl 0 rfl) ?_
    refine gf_X4_49 C0 hP dX4_comes_14 ?_
    refine lv_aload_n hx hb dX4_comes_17 rfl (lv_at hl 0 rfl) ?_
    refine gf_X4_24 C0 hP dX4_comes_18 ?_
    refine cl_VNv (n := 1) (rest := []) C0 hP hS (c_X0_setOut l C0.2.2.1 (by decide) _ hd) (lwG_C lc_X0_setOut) (by decide +kernel : (RX4, 193, yX0_setOut, "DreamTrain") ∈ nestM) lz_RX0 li_X0_setOut lx_X0_setOut (by decide +kernel) (oJ_at h cA _) rfl rfl rfl (Nat.le_of_ble_eq_true rfl) ⟨rfl, rfl⟩ ⟨by decide, by decide⟩ dX4_comes_21 hl.1 ⟨Nat.zero_le _, Nat.zero_le _⟩ (fun S_1 H locs hd hP hS => ?_)
    refine lv_aload_n hx hb dX4_comes_24 rfl (lv_at hl 0 rfl) ?_
    refine gf_X4_49 C0 hP dX4_comes_25 ?_
    refine lv_bipush (v := 60) hx hb dX4_comes_28 (by decide) ?_
    refine lv_aload_n hx hb dX4_comes_30 rfl (lv_at hl 0 rfl) ?_
    refine gf_X4_24 C0 hP dX4_comes_31 ?_
    refine gf_X4_196_0 C0 hP dX4_comes_34 ?_
    refine cl_VNi (n := 2) (rest := []) C0 hP hS (c_X0_ride l C0.2.2.1 _ hd) (lwG_C lc_X0_ride) (by decide +kernel : (RX4, 199, yX0_ride, "DreamTrain") ∈ nestM) lz_RX0 li_X0_ride lx_X0_ride (by decide +kernel) (oJ_at h cA _) rfl rfl rfl (Nat.le_of_ble_eq_true rfl) ⟨rfl, rfl⟩ ⟨by decide, by decide⟩ dX4_comes_37 hl.1 ⟨Nat.zero_le _, Nat.zero_le _⟩ (fun r_2 S_2 H locs hd hP hS => ?_)
    refine lv_pop hx hb dX4_comes_40 rfl ?_
    refine lv_iconst (v := 0) hx hb dX4_comes_41 (by decide) ?_
    refine lv_istore_n (lv' := [(1, .int (0 : Int32)), (0, .ref (h 1000))]) hx hb dX4_comes_42 rfl hl (by decide) rfl (fun ls hl => ?_)
    obtain ⟨n_3, hd⟩ := hd
    exact bl_X4_comes_43 C0 hret _ _ _ _ _ _ hP hS hd (lv_sub hl [1, 0] rfl)
  · have hd := hd.2 hc
    refine lv_bipush (v := (-4)) hx hb dX4_comes_10 (by decide) ?_
    exact hret _ _ _ _ _ _ hd hP hS dX4_comes_12
theorem c_X4_comes (l : Launch) {D : va_G} {cA : Nat → ClassId} {h : Nat → Nat} (hk : ky keysC h) {S : sT} (sz : Nat) {Q : Int32 → sT → Prop} (hd : wp_X4_comes S Q) : Met l yX4_comes (wsU yX4_comes cX4_comes 2 (some .int)) rm_X4_comes (va_Pc [.ref (h 1000)] (gP D cA true keysC h (wC h cA) S sz)) (va_Qi Q (wB D (wC h cA)) (aK keysC h sz)) 0 0 (aK keysC h sz) :=
  mk_i (by decide) hk (Nat.le_of_ble_eq_true rfl) (fun p e s m below meth c Z ls C0 hret hP hS hl => bk_X4_comes C0 hret hP hS hd hl)
abbrev rm_X4_isSpan : Room := { frames := 0, cells := 0, slots := 0, locals := 0 }
def wp_X4_isSpan (x0 : Int32) (x1 : Int32) (x2 : Int32) (S : sT) (Q : Int32 → sT → Prop) : Prop :=
  ((x0 < 0 → Q (0 : Int32) S) ∧ (¬ x0 < 0 → ((x2 < x1 → Q (0 : Int32) S) ∧ (¬ x2 < x1 → (((x2 - x1) < x0 → Q (0 : Int32) S) ∧ (¬ (x2 - x1) < x0 → Q (1 : Int32) S))))))
set_option maxHeartbeats 4000000 in
set_option maxRecDepth 100000 in
theorem bk_X4_isSpan {p : Program} {l : Launch} {e : Env} {s : State} {m : MethodId} {args : Array Value} {below : List Frame} {meth : Method} {c : Code} {Z : State → Prop} {D : va_G} {cA : Nat → ClassId} {h : Nat → Nat} {Q : Int32 → sT → Prop} (C0 : cx p s m args c cX4_isSpan 3 RX4 D cA true keysC h) (hret : rtZ p l e rm_X4_isSpan s m args below meth c cX4_isSpan Z D (wC h cA) (aK keysC h s.heap.size) Q) {x0 : Int32} {x1 : Int32} {x2 : Int32} {S : sT} {H : Heap} {locs : List Loc} {ls : Array Slot} (hP : va_P D vwCl (wC h cA S) H) (hS : va_S (aK keysC h s.heap.size) s.heap H locs) (hd : wp_X4_isSpan x0 x1 x2 S Q) (hl : lv_has ls 3 [(0, .int x0), (1, .int x1), (2, .int x2)]) : W p l e rm_X4_isSpan s m args below meth c H locs 0 0 Z (F0 m 0 ls []) := by
  obtain ⟨⟨hx, hb, hml, hown, hts⟩, hK, -, -⟩ := id C0
  unfold wp_X4_isSpan at hd
  refine lv_iload_n hx hb dX4_isSpan_0 rfl (lv_at hl 0 rfl) ?_
  refine lv_if_lt (tgt := 20) hx hb dX4_isSpan_1 (by decide) (fun hc => ?_) (fun hc => ?_)
  · have hd := hd.1 hc
    refine lv_iconst (v := 0) hx hb dX4_isSpan_20 (by decide) ?_
    exact hret _ _ _ _ _ _ rfl hd hP hS dX4_isSpan_21
  · have hd := hd.2 hc
    refine lv_iload_n hx hb dX4_isSpan_4 rfl (lv_at hl 1 rfl) ?_
    refine lv_iload_n hx hb dX4_isSpan_5 rfl (lv_at hl 2 rfl) ?_
    refine lv_icmp_gt (tgt := 20) hx hb dX4_isSpan_6 (by decide) (fun hc => ?_) (fun hc => ?_)
    · have hd := hd.1 hc
      refine lv_iconst (v := 0) hx hb dX4_isSpan_20 (by decide) ?_
      exact hret _ _ _ _ _ _ rfl hd hP hS dX4_isSpan_21
    · have hd := hd.2 hc
      refine lv_iload_n hx hb dX4_isSpan_9 rfl (lv_at hl 0 rfl) ?_
      refine lv_iload_n hx hb dX4_isSpan_10 rfl (lv_at hl 2 rfl) ?_
      refine lv_iload_n hx hb dX4_isSpan_11 rfl (lv_at hl 1 rfl) ?_
      refine lv_isub hx hb dX4_isSpan_12 ?_
      refine lv_icmp_gt (tgt := 20) hx hb dX4_isSpan_13 (by decide) (fun hc => ?_) (fun hc => ?_)
      · have hd := hd.1 hc
        refine lv_iconst (v := 0) hx hb dX4_isSpan_20 (by decide) ?_
        exact hret _ _ _ _ _ _ rfl hd hP hS dX4_isSpan_21
      · have hd := hd.2 hc
        refine lv_iconst (v := 1) hx hb dX4_isSpan_16 (by decide) ?_
        refine lv_goto (tgt := 21) hx hb dX4_isSpan_17 (by decide) ?_
        exact hret _ _ _ _ _ _ rfl hd hP hS dX4_isSpan_21
theorem c_X4_isSpan (l : Launch) {D : va_G} {cA : Nat → ClassId} {h : Nat → Nat} (hk : ky keysC h) {x0 : Int32} {x1 : Int32} {x2 : Int32} {S : sT} (sz : Nat) {Q : Int32 → sT → Prop} (hd : wp_X4_isSpan x0 x1 x2 S Q) : Met l yX4_isSpan (wsU yX4_isSpan cX4_isSpan 3 (some .boolean)) rm_X4_isSpan (va_Pc [.int x0, .int x1, .int x2] (gP D cA true keysC h (wC h cA) S sz)) (va_Qi Q (wB D (wC h cA)) (aK keysC h sz)) 0 0 (aK keysC h sz) :=
  mk_z (by decide) hk (Nat.le_of_ble_eq_true rfl) (fun p e s m below meth c Z ls C0 hret hP hS hl => bk_X4_isSpan C0 hret hP hS hd hl)
abbrev rm_X4_copy : Room := { frames := 3, cells := 0, slots := 0, locals := 63 }
def wb_X4_copy_57 (Q : Int32 → sT → Prop) (S : sT) : Prop :=
  wp_X4_found (1 : Int32) S (fun r_1 S_1 => Q r_1 S_1)
set_option maxHeartbeats 4000000 in
set_option maxRecDepth 100000 in
theorem bk_X4_copy_57 {p : Program} {l : Launch} {e : Env} {s : State} {m : MethodId} {args : Array Value} {below : List Frame} {meth : Method} {c : Code} {Z : State → Prop} {D : va_G} {cA : Nat → ClassId} {h : Nat → Nat} {Q : Int32 → sT → Prop} (C0 : cx p s m args c cX4_copy 6 RX4 D cA true keysC h) (hret : rtI p l e rm_X4_copy s m args below meth c cX4_copy Z D (wC h cA) (aK keysC h s.heap.size) Q) {S : sT} {H : Heap} {locs : List Loc} {ls : Array Slot} (hP : va_P D vwCl (wC h cA S) H) (hS : va_S (aK keysC h s.heap.size) s.heap H locs) (hd : wb_X4_copy_57 Q S) (hl : lv_has ls 6 [(0, .ref (h 1000))]) : W p l e rm_X4_copy s m args below meth c H locs 0 0 Z (F0 m 57 ls []) := by
  obtain ⟨⟨hx, hb, hml, hown, hts⟩, hK, -, -⟩ := id C0
  unfold wb_X4_copy_57 at hd
  refine lv_aload_n hx hb dX4_copy_57 rfl (lv_at hl 0 rfl) ?_
  refine lv_iconst (v := 1) hx hb dX4_copy_58 (by decide) ?_
  refine cl_Vi (n := 1) (rest := []) C0 hP hS (c_X4_found l C0.2.2.1 _ hd) (lwG_V lm_X4_82 li_X4_found lx_X4_found lz_RX4 lc_X4_found) (by decide +kernel) (oD_at h cA _) rfl rfl rfl (Nat.le_of_ble_eq_true rfl) ⟨rfl, rfl⟩ ⟨by decide, by decide⟩ dX4_copy_59 hl.1 ⟨Nat.zero_le _, Nat.zero_le _⟩ (fun r_1 S_1 H locs hd hP hS => ?_)
  exact hret _ _ _ _ _ _ hd hP hS dX4_copy_62
def wb_X4_copy_100 (Q : Int32 → sT → Prop) (S : sT) : Prop :=
  wp_X4_found (2 : Int32) S (fun r_1 S_1 => Q r_1 S_1)
set_option maxHeartbeats 4000000 in
set_option maxRecDepth 100000 in
theorem bk_X4_copy_100 {p : Program} {l : Launch} {e : Env} {s : State} {m : MethodId} {args : Array Value} {below : List Frame} {meth : Method} {c : Code} {Z : State → Prop} {D : va_G} {cA : Nat → ClassId} {h : Nat → Nat} {Q : Int32 → sT → Prop} (C0 : cx p s m args c cX4_copy 6 RX4 D cA true keysC h) (hret : rtI p l e rm_X4_copy s m args below meth c cX4_copy Z D (wC h cA) (aK keysC h s.heap.size) Q) {S : sT} {H : Heap} {locs : List Loc} {ls : Array Slot} (hP : va_P D vwCl (wC h cA S) H) (hS : va_S (aK keysC h s.heap.size) s.heap H locs) (hd : wb_X4_copy_100 Q S) (hl : lv_has ls 6 [(0, .ref (h 1000))]) : W p l e rm_X4_copy s m args below meth c H locs 0 0 Z (F0 m 100 ls []) := by
  obtain ⟨⟨hx, hb, hml, hown, hts⟩, hK, -, -⟩ := id C0
  unfold wb_X4_copy_100 at hd
  refine lv_aload_n hx hb dX4_copy_100 rfl (lv_at hl 0 rfl) ?_
  refine lv_iconst (v := 2) hx hb dX4_copy_101 (by decide) ?_
  refine cl_Vi (n := 1) (rest := []) C0 hP hS (c_X4_found l C0.2.2.1 _ hd) (lwG_V lm_X4_82 li_X4_found lx_X4_found lz_RX4 lc_X4_found) (by decide +kernel) (oD_at h cA _) rfl rfl rfl (Nat.le_of_ble_eq_true rfl) ⟨rfl, rfl⟩ ⟨by decide, by decide⟩ dX4_copy_102 hl.1 ⟨Nat.zero_le _, Nat.zero_le _⟩ (fun r_1 S_1 H locs hd hP hS => ?_)
  exact hret _ _ _ _ _ _ hd hP hS dX4_copy_105
def wp_X4_copy (x1 : Int32) (x2 : Int32) (x3 : Int32) (x4 : Int32) (x5 : Int32) (S : sT) (Q : Int32 → sT → Prop) : Prop :=
  wp_X3_bears 0 x1 S (fun r_1 S_1 => ((r_1 = 0 → Q (-1 : Int32) S_1) ∧ (¬ r_1 = 0 → wp_X3_bears 0 x3 S_1 (fun r_2 S_2 => ((¬ r_2 = 0 → ((0 ≤ x5 → wp_X3_holds 0 x1 S_2 (fun r_3 S_3 => ((r_3 = 0 → wb_X4_copy_57 Q S_3) ∧ (¬ r_3 = 0 → wp_X3_holds 0 x3 S_3 (fun r_4 S_4 => ((¬ r_4 = 0 → (vp_in x1 6) ∧ wp_X4_isSpan x2 x5 (vA S_4 200 x1.toNatClampNeg) S_4 (fun r_6 S_6 => ((r_6 = 0 → wb_X4_copy_100 Q S_6) ∧ (¬ r_6 = 0 → (vp_in x3 6) ∧ wp_X4_isSpan x4 x5 (vA S_6 200 x3.toNatClampNeg) S_6 (fun r_8 S_8 => ((¬ r_8 = 0 → (vp_in x1 6) ∧ (vp_in x3 6) ∧ (¬ x2 < 0) ∧ (¬ x4 < 0) ∧ (¬ x5 < 0) ∧ (x2.toNatClampNeg + x5.toNatClampNeg ≤ 40) ∧ (x4.toNatClampNeg + x5.toNatClampNeg ≤ 40) ∧ ∀ S_17 : sT, S_17 = uA S_8 (300 + x3.toNatClampNeg) (va_cpy (vA S_8 (300 + x1.toNatClampNeg)) (vA S_8 (300 + x3.toNatClampNeg)) x2.toNatClampNeg x4.toNatClampNeg x5.toNatClampNeg) → Q (1 : Int32) S_17) ∧ (r_8 = 0 → wb_X4_copy_100 Q S_8))))))) ∧ (r_4 = 0 → wb_X4_copy_57 Q S_4))))))) ∧ (¬ 0 ≤ x5 → wp_X4_found (5 : Int32) S_2 (fun r_18 S_18 => Q r_18 S_18)))) ∧ (r_2 = 0 → Q (-1 : Int32) S_2))))))
set_option maxHeartbeats 4000000 in
set_option maxRecDepth 100000 in
theorem bk_X4_copy {p : Program} {l : Launch} {e : Env} {s : State} {m : MethodId} {args : Array Value} {below : List Frame} {meth : Method} {c : Code} {Z : State → Prop} {D : va_G} {cA : Nat → ClassId} {h : Nat → Nat} {Q : Int32 → sT → Prop} (C0 : cx p s m args c cX4_copy 6 RX4 D cA true keysC h) (hret : rtI p l e rm_X4_copy s m args below meth c cX4_copy Z D (wC h cA) (aK keysC h s.heap.size) Q) {x1 : Int32} {x2 : Int32} {x3 : Int32} {x4 : Int32} {x5 : Int32} {S : sT} {H : Heap} {locs : List Loc} {ls : Array Slot} (hP : va_P D vwCl (wC h cA S) H) (hS : va_S (aK keysC h s.heap.size) s.heap H locs) (hd : wp_X4_copy x1 x2 x3 x4 x5 S Q) (hl : lv_has ls 6 [(0, .ref (h 1000)), (1, .int x1), (2, .int x2), (3, .int x3), (4, .int x4), (5, .int x5)]) : W p l e rm_X4_copy s m args below meth c H locs 0 0 Z (F0 m 0 ls []) := by
  obtain ⟨⟨hx, hb, hml, hown, hts⟩, hK, -, -⟩ := id C0
  unfold wp_X4_copy at hd
  refine lv_aload_n hx hb dX4_copy_0 rfl (lv_at hl 0 rfl) ?_
  refine gf_X4_14 C0 hP dX4_copy_1 ?_
  refine lv_iload_n hx hb dX4_copy_4 rfl (lv_at hl 1 rfl) ?_
  refine cl_VNi (n := 1) (rest := []) C0 hP hS (c_X3_bears l C0.2.2.1 (by decide) _ hd) (lwG_C lc_X3_bears) (by decide +kernel : (RX4, 78, yX3_bears, "DreamTrain") ∈ nestM) lz_RX3 li_X3_bears lx_X3_bears (by decide +kernel) (oS_at h cA _ 0 (by decide)) rfl rfl rfl (Nat.le_of_ble_eq_true rfl) ⟨rfl, rfl⟩ ⟨by decide, by decide⟩ dX4_copy_5 hl.1 ⟨Nat.zero_le _, Nat.zero_le _⟩ (fun r_1 S_1 H locs hd hP hS => ?_)
  refine lv_if_eq (tgt := 22) hx hb dX4_copy_8 (by decide) (fun hc => ?_) (fun hc => ?_)
  · have hd := hd.1 hc
    refine lv_iconst (v := (-1)) hx hb dX4_copy_22 (by decide) ?_
    exact hret _ _ _ _ _ _ hd hP hS dX4_copy_23
  · have hd := hd.2 hc
    refine lv_aload_n hx hb dX4_copy_11 rfl (lv_at hl 0 rfl) ?_
    refine gf_X4_14 C0 hP dX4_copy_12 ?_
    refine lv_iload_n hx hb dX4_copy_15 rfl (lv_at hl 3 rfl) ?_
    refine cl_VNi (n := 1) (rest := []) C0 hP hS (c_X3_bears l C0.2.2.1 (by decide) _ hd) (lwG_C lc_X3_bears) (by decide +kernel : (RX4, 78, yX3_bears, "DreamTrain") ∈ nestM) lz_RX3 li_X3_bears lx_X3_bears (by decide +kernel) (oS_at h cA _ 0 (by decide)) rfl rfl rfl (Nat.le_of_ble_eq_true rfl) ⟨rfl, rfl⟩ ⟨by decide, by decide⟩ dX4_copy_16 hl.1 ⟨Nat.zero_le _, Nat.zero_le _⟩ (fun r_2 S_2 H locs hd hP hS => ?_)
    refine lv_if_ne (tgt := 24) hx hb dX4_copy_19 (by decide) (fun hc => ?_) (fun hc => ?_)
    · have hd := hd.1 hc
      refine lv_iload hx hb dX4_copy_24 (lv_at hl 5 rfl) ?_
      refine lv_if_ge (tgt := 35) hx hb dX4_copy_26 (by decide) (fun hc => ?_) (fun hc => ?_)
      · have hd := hd.1 hc
        refine lv_aload_n hx hb dX4_copy_35 rfl (lv_at hl 0 rfl) ?_
        refine gf_X4_14 C0 hP dX4_copy_36 ?_
        refine lv_iload_n hx hb dX4_copy_39 rfl (lv_at hl 1 rfl) ?_
        refine cl_VNi (n := 1) (rest := []) C0 hP hS (c_X3_holds l C0.2.2.1 (by decide) _ hd) (lwG_C lc_X3_holds) (by decide +kernel : (RX4, 108, yX3_holds, "DreamTrain") ∈ nestM) lz_RX3 li_X3_holds lx_X3_holds (by decide +kernel) (oS_at h cA _ 0 (by decide)) rfl rfl rfl (Nat.le_of_ble_eq_true rfl) ⟨rfl, rfl⟩ ⟨by decide, by decide⟩ dX4_copy_40 hl.1 ⟨Nat.zero_le _, Nat.zero_le _⟩ (fun r_3 S_3 H locs hd hP hS => ?_)
        refine lv_if_eq (tgt := 57) hx hb dX4_copy_43 (by decide) (fun hc => ?_) (fun hc => ?_)
        · have hd := hd.1 hc
          exact bk_X4_copy_57 C0 hret hP hS hd (lv_sub hl [0] rfl)
        · have hd := hd.2 hc
          refine lv_aload_n hx hb dX4_copy_46 rfl (lv_at hl 0 rfl) ?_
          refine gf_X4_14 C0 hP dX4_copy_47 ?_
          refine lv_iload_n hx hb dX4_copy_50 rfl (lv_at hl 3 rfl) ?_
          refine cl_VNi (n := 1) (rest := []) C0 hP hS (c_X3_holds l C0.2.2.1 (by decide) _ hd) (lwG_C lc_X3_holds) (by decide +kernel : (RX4, 108, yX3_holds, "DreamTrain") ∈ nestM) lz_RX3 li_X3_holds lx_X3_holds (by decide +kernel) (oS_at h cA _ 0 (by decide)) rfl rfl rfl (Nat.le_of_ble_eq_true rfl) ⟨rfl, rfl⟩ ⟨by decide, by decide⟩ dX4_copy_51 hl.1 ⟨Nat.zero_le _, Nat.zero_le _⟩ (fun r_4 S_4 H locs hd hP hS => ?_)
          refine lv_if_ne (tgt := 63) hx hb dX4_copy_54 (by decide) (fun hc => ?_) (fun hc => ?_)
          · have hd := hd.1 hc
            refine lv_iload_n hx hb dX4_copy_63 rfl (lv_at hl 2 rfl) ?_
            refine lv_iload hx hb dX4_copy_64 (lv_at hl 5 rfl) ?_
            refine lv_aload_n hx hb dX4_copy_66 rfl (lv_at hl 0 rfl) ?_
            refine gf_X4_14 C0 hP dX4_copy_67 ?_
            refine gf_X4_105_0 C0 hP dX4_copy_70 ?_
            refine lv_iload_n hx hb dX4_copy_73 rfl (lv_at hl 1 rfl) ?_
            obtain ⟨h_5, hd⟩ := hd
            refine ldC (by decide) C0 hP h_5 dX4_copy_74 ?_
            refine cl_Si (n := 3) (rest := []) C0 hP hS (c_X4_isSpan l C0.2.2.1 _ hd) (lwG_S lm_X4_111 ls_X4_isSpan lz_RX4 lc_X4_isSpan) (by decide +kernel) rfl rfl (Nat.le_of_ble_eq_true rfl) ⟨rfl, rfl⟩ ⟨by decide, by decide⟩ dX4_copy_75 hl.1 ⟨Nat.zero_le _, Nat.zero_le _⟩ (fun r_6 S_6 H locs hd hP hS => ?_)
            refine lv_if_eq (tgt := 100) hx hb dX4_copy_78 (by decide) (fun hc => ?_) (fun hc => ?_)
            · have hd := hd.1 hc
              exact bk_X4_copy_100 C0 hret hP hS hd (lv_sub hl [0] rfl)
            · have hd := hd.2 hc
              refine lv_iload hx hb dX4_copy_81 (lv_at hl 4 rfl) ?_
              refine lv_iload hx hb dX4_copy_83 (lv_at hl 5 rfl) ?_
              refine lv_aload_n hx hb dX4_copy_85 rfl (lv_at hl 0 rfl) ?_
              refine gf_X4_14 C0 hP dX4_copy_86 ?_
              refine gf_X4_105_0 C0 hP dX4_copy_89 ?_
              refine lv_iload_n hx hb dX4_copy_92 rfl (lv_at hl 3 rfl) ?_
              obtain ⟨h_7, hd⟩ := hd
              refine ldC (by decide) C0 hP h_7 dX4_copy_93 ?_
              refine cl_Si (n := 3) (rest := []) C0 hP hS (c_X4_isSpan l C0.2.2.1 _ hd) (lwG_S lm_X4_111 ls_X4_isSpan lz_RX4 lc_X4_isSpan) (by decide +kernel) rfl rfl (Nat.le_of_ble_eq_true rfl) ⟨rfl, rfl⟩ ⟨by decide, by decide⟩ dX4_copy_94 hl.1 ⟨Nat.zero_le _, Nat.zero_le _⟩ (fun r_8 S_8 H locs hd hP hS => ?_)
              refine lv_if_ne (tgt := 106) hx hb dX4_copy_97 (by decide) (fun hc => ?_) (fun hc => ?_)
              · have hd := hd.1 hc
                refine lv_aload_n hx hb dX4_copy_106 rfl (lv_at hl 0 rfl) ?_
                refine gf_X4_14 C0 hP dX4_copy_107 ?_
                refine gf_X4_94_0 C0 hP dX4_copy_110 ?_
                refine lv_iload_n hx hb dX4_copy_113 rfl (lv_at hl 1 rfl) ?_
                obtain ⟨h_9, hd⟩ := hd
                refine ao_1010 C0 hP h_9 dX4_copy_114 ?_
                refine lv_iload_n hx hb dX4_copy_115 rfl (lv_at hl 2 rfl) ?_
                refine lv_aload_n hx hb dX4_copy_116 rfl (lv_at hl 0 rfl) ?_
                refine gf_X4_14 C0 hP dX4_copy_117 ?_
                refine gf_X4_94_0 C0 hP dX4_copy_120 ?_
                refine lv_iload_n hx hb dX4_copy_123 rfl (lv_at hl 3 rfl) ?_
                obtain ⟨h_10, hd⟩ := hd
                refine ao_1010 C0 hP h_10 dX4_copy_124 ?_
                refine lv_iload hx hb dX4_copy_125 (lv_at hl 4 rfl) ?_
                refine lv_iload hx hb dX4_copy_127 (lv_at hl 5 rfl) ?_
                obtain ⟨h_11, hd⟩ := hd
                obtain ⟨h_12, hd⟩ := hd
                obtain ⟨h_13, hd⟩ := hd
                obtain ⟨h_14, hd⟩ := hd
                obtain ⟨h_15, hd⟩ := hd
                obtain ⟨qa16, hqa16, -⟩ := iC_at (k := 300 + x1.toNatClampNeg) h cA S_8 (kRow0 _ (vp_lt h_9))
                obtain ⟨qb16, hqb16, hsb16⟩ := iC_at (k := 300 + x3.toNatClampNeg) h cA S_8 (kRow0 _ (vp_lt h_10))
                refine va_copyi hx hb (by rw [hml]; exact hl.1.symm) hown (hts _ lm_X4_115) (hts _ ln_ac) (hts _ ls_ac) (hts _ lz_RJ10) hK.1 hP (wD (wC_fst h cA _) C0.2.2.1 _) hS qa16 qb16 0 0 hqa16 hqb16 rfl rfl rfl h_11 h_12 h_13 (by rw [lRow0 _ (vp_lt h_9)]; exact h_14) (by rw [lRow0 _ (vp_lt h_10)]; exact h_15) (fun _ _ => rfl) (by decide) (by decide) dX4_copy_129 (fun H locs hP _ hS => ?_)
                rw [hsb16] at hP
                obtain ⟨S_17, eS_17⟩ : ∃ x : sT, x = uA S_8 (300 + x3.toNatClampNeg) (va_cpy (vA S_8 (300 + x1.toNatClampNeg)) (vA S_8 (300 + x3.toNatClampNeg)) x2.toNatClampNeg x4.toNatClampNeg x5.toNatClampNeg) := ⟨_, rfl⟩
                rw [← eS_17] at hP
                have hd := hd S_17 eS_17
                refine lv_iconst (v := 1) hx hb dX4_copy_132 (by decide) ?_
                exact hret _ _ _ _ _ _ hd hP hS dX4_copy_133
              · have hd := hd.2 hc
                exact bk_X4_copy_100 C0 hret hP hS hd (lv_sub hl [0] rfl)
          · have hd := hd.2 hc
            exact bk_X4_copy_57 C0 hret hP hS hd (lv_sub hl [0] rfl)
      · have hd := hd.2 hc
        refine lv_aload_n hx hb dX4_copy_29 rfl (lv_at hl 0 rfl) ?_
        refine lv_iconst (v := 5) hx hb dX4_copy_30 (by decide) ?_
        refine cl_Vi (n := 1) (rest := []) C0 hP hS (c_X4_found l C0.2.2.1 _ hd) (lwG_V lm_X4_82 li_X4_found lx_X4_found lz_RX4 lc_X4_found) (by decide +kernel) (oD_at h cA _) rfl rfl rfl (Nat.le_of_ble_eq_true rfl) ⟨rfl, rfl⟩ ⟨by decide, by decide⟩ dX4_copy_31 hl.1 ⟨Nat.zero_le _, Nat.zero_le _⟩ (fun r_18 S_18 H locs hd hP hS => ?_)
        exact hret _ _ _ _ _ _ hd hP hS dX4_copy_34
    · have hd := hd.2 hc
      refine lv_iconst (v := (-1)) hx hb dX4_copy_22 (by decide) ?_
      exact hret _ _ _ _ _ _ hd hP hS dX4_copy_23
theorem c_X4_copy (l : Launch) {D : va_G} {cA : Nat → ClassId} {h : Nat → Nat} (hk : ky keysC h) {x1 : Int32} {x2 : Int32} {x3 : Int32} {x4 : Int32} {x5 : Int32} {S : sT} (sz : Nat) {Q : Int32 → sT → Prop} (hd : wp_X4_copy x1 x2 x3 x4 x5 S Q) : Met l yX4_copy (wsU yX4_copy cX4_copy 6 (some .int)) rm_X4_copy (va_Pc [.ref (h 1000), .int x1, .int x2, .int x3, .int x4, .int x5] (gP D cA true keysC h (wC h cA) S sz)) (va_Qi Q (wB D (wC h cA)) (aK keysC h sz)) 0 0 (aK keysC h sz) :=
  mk_i (by decide) hk (Nat.le_of_ble_eq_true rfl) (fun p e s m below meth c Z ls C0 hret hP hS hl => bk_X4_copy C0 hret hP hS hd hl)
abbrev rm_X4_keptCount : Room := { frames := 1, cells := 0, slots := 0, locals := 20 }
def wb_X4_keptCount_4 (Q : Int32 → sT → Prop) (K4 : Int32 → Int32 → sT → Prop) (x1 : Int32) (x2 : Int32) (S : sT) : Prop :=
  (((3 : Int32) ≤ x2 → Q x1 S) ∧ (¬ (3 : Int32) ≤ x2 → (vp_in x2 3) ∧ wp_X4_bit (vA S 5 x2.toNatClampNeg) S (fun r_2 S_2 => K4 (x1 + r_2) (x2 + (1 : Int32)) S_2)))
set_option maxHeartbeats 4000000 in
set_option maxRecDepth 100000 in
theorem bk_X4_keptCount_4 {p : Program} {l : Launch} {e : Env} {s : State} {m : MethodId} {args : Array Value} {below : List Frame} {meth : Method} {c : Code} {Z : State → Prop} {D : va_G} {cA : Nat → ClassId} {h : Nat → Nat} {Q : Int32 → sT → Prop} (C0 : cx p s m args c cX4_keptCount 3 RX4 D cA true keysC h) (hret : rtI p l e rm_X4_keptCount s m args below meth c cX4_keptCount Z D (wC h cA) (aK keysC h s.heap.size) Q) {K4 : Int32 → Int32 → sT → Prop} (k4 : ∀ (x1 : Int32) (x2 : Int32) (S : sT) (H : Heap) (locs : List Loc) (ls : Array Slot), K4 x1 x2 S → va_P D vwCl (wC h cA S) H → va_S (aK keysC h s.heap.size) s.heap H locs → lv_has ls 3 [(0, .ref (h 1000)), (1, .int x1), (2, .int x2)] → W p l e rm_X4_keptCount s m args below meth c H locs 0 0 Z (F0 m 4 ls [])) {x1 : Int32} {x2 : Int32} {S : sT} {H : Heap} {locs : List Loc} {ls : Array Slot} (hP : va_P D vwCl (wC h cA S) H) (hS : va_S (aK keysC h s.heap.size) s.heap H locs) (hd : wb_X4_keptCount_4 Q K4 x1 x2 S) (hl : lv_has ls 3 [(0, .ref (h 1000)), (1, .int x1), (2, .int x2)]) : W p l e rm_X4_keptCount s m args below meth c H locs 0 0 Z (F0 m 4 ls []) := by
  obtain ⟨⟨hx, hb, hml, hown, hts⟩, hK, -, -⟩ := id C0
  unfold wb_X4_keptCount_4 at hd
  refine lv_iload_n hx hb dX4_keptCount_4 rfl (lv_at hl 2 rfl) ?_
  refine lv_iconst (v := 3) hx hb dX4_keptCount_5 (by decide) ?_
  refine lv_icmp_ge (tgt := 27) hx hb dX4_keptCount_6 (by decide) (fun hc => ?_) (fun hc => ?_)
  · have hd := hd.1 hc
    refine lv_iload_n hx hb dX4_keptCount_27 rfl (lv_at hl 1 rfl) ?_
    exact hret _ _ _ _ _ _ hd hP hS dX4_keptCount_28
  · have hd := hd.2 hc
    refine lv_iload_n hx hb dX4_keptCount_9 rfl (lv_at hl 1 rfl) ?_
    refine lv_aload_n hx hb dX4_keptCount_10 rfl (lv_at hl 0 rfl) ?_
    refine gf_X4_35 C0 hP dX4_keptCount_11 ?_
    refine lv_iload_n hx hb dX4_keptCount_14 rfl (lv_at hl 2 rfl) ?_
    obtain ⟨h_1, hd⟩ := hd
    refine ldZ C0 hP h_1 dX4_keptCount_15 ?_
    refine cl_Si (n := 1) (rest := [.int x1]) C0 hP hS (c_X4_bit l C0.2.2.1 _ hd) (lwG_S lm_X4_158 ls_X4_bit lz_RX4 lc_X4_bit) (by decide +kernel) rfl rfl (Nat.le_of_ble_eq_true rfl) ⟨rfl, rfl⟩ ⟨by decide, by decide⟩ dX4_keptCount_16 hl.1 ⟨Nat.zero_le _, Nat.zero_le _⟩ (fun r_2 S_2 H locs hd hP hS => ?_)
    refine lv_iadd hx hb dX4_keptCount_19 ?_
    refine lv_istore_n (lv' := [(1, .int (x1 + r_2)), (0, .ref (h 1000)), (2, .int x2)]) hx hb dX4_keptCount_20 rfl hl (by decide) rfl (fun ls hl => ?_)
    refine lv_iinc (v := x2 + (1 : Int32)) (lv' := [(2, .int (x2 + (1 : Int32))), (1, .int (x1 + r_2)), (0, .ref (h 1000))]) hx hb dX4_keptCount_21 hl (k := 2) rfl rfl (by decide) rfl (fun ls hl => ?_)
    refine lv_goto (tgt := 4) hx hb dX4_keptCount_24 (by decide) ?_
    exact k4 _ _ _ _ _ _ hd hP hS (lv_sub hl [2, 1, 0] rfl)
def wl_X4_keptCount_4 (Q : Int32 → sT → Prop) : Nat → Int32 → Int32 → sT → Prop
  | 0, _, _ => fun _ => False
  | n + 1, x1, x2 => fun S => wb_X4_keptCount_4 Q (fun x1 x2 S => wl_X4_keptCount_4 Q n x1 x2 S) x1 x2 S
theorem bl_X4_keptCount_4 {p : Program} {l : Launch} {e : Env} {s : State} {m : MethodId} {args : Array Value} {below : List Frame} {meth : Method} {c : Code} {Z : State → Prop} {D : va_G} {cA : Nat → ClassId} {h : Nat → Nat} {Q : Int32 → sT → Prop} (C0 : cx p s m args c cX4_keptCount 3 RX4 D cA true keysC h) (hret : rtI p l e rm_X4_keptCount s m args below meth c cX4_keptCount Z D (wC h cA) (aK keysC h s.heap.size) Q) : ∀ (n : Nat) (x1 : Int32) (x2 : Int32) (S : sT) (H : Heap) (locs : List Loc) (ls : Array Slot), va_P D vwCl (wC h cA S) H → va_S (aK keysC h s.heap.size) s.heap H locs → wl_X4_keptCount_4 Q n x1 x2 S → lv_has ls 3 [(0, .ref (h 1000)), (1, .int x1), (2, .int x2)] → W p l e rm_X4_keptCount s m args below meth c H locs 0 0 Z (F0 m 4 ls []) := by
  intro n
  induction n with
  | zero => intro x1 x2 S H locs ls hP hS hd hl; exact (show False from hd).elim
  | succ n ih => intro x1 x2 S H locs ls hP hS hd hl; exact bk_X4_keptCount_4 C0 hret (fun x1 x2 S H locs ls hd hP hS hl => ih x1 x2 S H locs ls hP hS hd hl) hP hS hd hl
def wp_X4_keptCount (S : sT) (Q : Int32 → sT → Prop) : Prop :=
  ∃ n : Nat, wl_X4_keptCount_4 Q n (0 : Int32) (0 : Int32) S
set_option maxHeartbeats 4000000 in
set_option maxRecDepth 100000 in
theorem bk_X4_keptCount {p : Program} {l : Launch} {e : Env} {s : State} {m : MethodId} {args : Array Value} {below : List Frame} {meth : Method} {c : Code} {Z : State → Prop} {D : va_G} {cA : Nat → ClassId} {h : Nat → Nat} {Q : Int32 → sT → Prop} (C0 : cx p s m args c cX4_keptCount 3 RX4 D cA true keysC h) (hret : rtI p l e rm_X4_keptCount s m args below meth c cX4_keptCount Z D (wC h cA) (aK keysC h s.heap.size) Q) {S : sT} {H : Heap} {locs : List Loc} {ls : Array Slot} (hP : va_P D vwCl (wC h cA S) H) (hS : va_S (aK keysC h s.heap.size) s.heap H locs) (hd : wp_X4_keptCount S Q) (hl : lv_has ls 3 [(0, .ref (h 1000))]) : W p l e rm_X4_keptCount s m args below meth c H locs 0 0 Z (F0 m 0 ls []) := by
  obtain ⟨⟨hx, hb, hml, hown, hts⟩, hK, -, -⟩ := id C0
  unfold wp_X4_keptCount at hd
  refine lv_iconst (v := 0) hx hb dX4_keptCount_0 (by decide) ?_
  refine lv_istore_n (lv' := [(1, .int (0 : Int32)), (0, .ref (h 1000))]) hx hb dX4_keptCount_1 rfl hl (by decide) rfl (fun ls hl => ?_)
  refine lv_iconst (v := 0) hx hb dX4_keptCount_2 (by decide) ?_
  refine lv_istore_n (lv' := [(2, .int (0 : Int32)), (1, .int (0 : Int32)), (0, .ref (h 1000))]) hx hb dX4_keptCount_3 rfl hl (by decide) rfl (fun ls hl => ?_)
  obtain ⟨n_1, hd⟩ := hd
  exact bl_X4_keptCount_4 C0 hret _ _ _ _ _ _ _ hP hS hd (lv_sub hl [2, 1, 0] rfl)
theorem c_X4_keptCount (l : Launch) {D : va_G} {cA : Nat → ClassId} {h : Nat → Nat} (hk : ky keysC h) {S : sT} (sz : Nat) {Q : Int32 → sT → Prop} (hd : wp_X4_keptCount S Q) : Met l yX4_keptCount (wsU yX4_keptCount cX4_keptCount 3 (some .int)) rm_X4_keptCount (va_Pc [.ref (h 1000)] (gP D cA true keysC h (wC h cA) S sz)) (va_Qi Q (wB D (wC h cA)) (aK keysC h sz)) 0 0 (aK keysC h sz) :=
  mk_i (by decide) hk (Nat.le_of_ble_eq_true rfl) (fun p e s m below meth c Z ls C0 hret hP hS hl => bk_X4_keptCount C0 hret hP hS hd hl)
