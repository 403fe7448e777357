abbrev rm_X1_noteDeed : Room := { frames := 1, cells := 0, slots := 0, locals := 21 }
def wp_X1_noteDeed (j0 : Nat) (x1 : Int32) (x2 : Int32) (x3 : Int32) (S : sT) (Q : sT → Prop) : Prop :=
  wp_X1_hasRoomFor j0 (1 : Int32) S (fun r_1 S_1 => ((¬ r_1 = 0 → (vp_in (vI S_1 (20 + 13 * j0 + 12)) 40) ∧ (vp_in (vI (uA S_1 (20 + 13 * j0 + 3) (upd (vA S_1 (20 + 13 * j0 + 3)) (vI S_1 (20 + 13 * j0 + 12)).toNatClampNeg x1)) (20 + 13 * j0 + 12)) 40) ∧ ∀ S_4 : sT, S_4 = uA (uA S_1 (20 + 13 * j0 + 3) (upd (vA S_1 (20 + 13 * j0 + 3)) (vI S_1 (20 + 13 * j0 + 12)).toNatClampNeg x1)) (20 + 13 * j0 + 4) (upd (vA (uA S_1 (20 + 13 * j0 + 3) (upd (vA S_1 (20 + 13 * j0 + 3)) (vI S_1 (20 + 13 * j0 + 12)).toNatClampNeg x1)) (20 + 13 * j0 + 4)) (vI (uA S_1 (20 + 13 * j0 + 3) (upd (vA S_1 (20 + 13 * j0 + 3)) (vI S_1 (20 + 13 * j0 + 12)).toNatClampNeg x1)) (20 + 13 * j0 + 12)).toNatClampNeg x2) → (vp_in (vI S_4 (20 + 13 * j0 + 12)) 40) ∧ ∀ S_6 : sT, S_6 = uI (uA S_4 (20 + 13 * j0 + 5) (upd (vA S_4 (20 + 13 * j0 + 5)) (vI S_4 (20 + 13 * j0 + 12)).toNatClampNeg x3)) (20 + 13 * j0 + 12) ((vI (uA S_4 (20 + 13 * j0 + 5) (upd (vA S_4 (20 + 13 * j0 + 5)) (vI S_4 (20 + 13 * j0 + 12)).toNatClampNeg x3)) (20 + 13 * j0 + 12)) + (1 : Int32)) → Q S_6) ∧ (r_1 = 0 → Q S_1)))
set_option maxHeartbeats 4000000 in
set_option maxRecDepth 100000 in
theorem bk_X1_noteDeed {p : Program} {l : Launch} {e : Env} {s : State} {m : MethodId} {args : Array Value} {below : List Frame} {meth : Method} {c : Code} {Z : State → Prop} {D : va_G} {cA : Nat → ClassId} {h : Nat → Nat} {Q : sT → Prop} {j0 : Nat} (C0 : cx p s m args c cX1_noteDeed 4 RX1 D cA true keysC h) (hret : rtV p l e rm_X1_noteDeed s m args below meth c cX1_noteDeed Z D (wC h cA) (aK keysC h s.heap.size) Q) (hj0 : j0 < 5) {x1 : Int32} {x2 : Int32} {x3 : Int32} {S : sT} {H : Heap} {locs : List Loc} {ls : Array Slot} (hP : va_P D vwCl (wC h cA S) H) (hS : va_S (aK keysC h s.heap.size) s.heap H locs) (hd : wp_X1_noteDeed j0 x1 x2 x3 S Q) (hl : lv_has ls 4 [(0, .ref (h (1003 + j0))), (1, .int x1), (2, .int x2), (3, .int x3)]) : W p l e rm_X1_noteDeed s m args below meth c H locs 0 0 Z (F0 m 0 ls []) := by
  obtain ⟨⟨hx, hb, hml, hown, hts⟩, hK, -, -⟩ := id C0
  unfold wp_X1_noteDeed at hd
  refine lv_aload_n hx hb dX1_noteDeed_0 rfl (lv_at hl 0 rfl) ?_
  refine lv_iconst (v := 1) hx hb dX1_noteDeed_1 (by decide) ?_
  refine cl_Vi (n := 1) (rest := []) C0 hP hS (c_X1_hasRoomFor l C0.2.2.1 hj0 _ hd) (lwG_V lm_X1_73 li_X1_hasRoomFor lx_X1_hasRoomFor lz_RX1 lc_X1_hasRoomFor) (by decide +kernel) (oL_at h cA _ j0 hj0) rfl rfl rfl (Nat.le_of_ble_eq_true rfl) ⟨rfl, rfl⟩ ⟨by decide, by decide⟩ dX1_noteDeed_2 hl.1 ⟨Nat.zero_le _, Nat.zero_le _⟩ (fun r_1 S_1 H locs hd hP hS => ?_)
  refine lv_if_ne (tgt := 9) hx hb dX1_noteDeed_5 (by decide) (fun hc => ?_) (fun hc => ?_)
  · have hd := hd.1 hc
    refine lv_aload_n hx hb dX1_noteDeed_9 rfl (lv_at hl 0 rfl) ?_
    refine gf_X1_21_v j0 hj0 C0 hP dX1_noteDeed_10 ?_
    refine lv_aload_n hx hb dX1_noteDeed_13 rfl (lv_at hl 0 rfl) ?_
    refine gf_X1_49_v j0 hj0 C0 hP dX1_noteDeed_14 ?_
    refine lv_iload_n hx hb dX1_noteDeed_17 rfl (lv_at hl 1 rfl) ?_
    obtain ⟨h_2, hd⟩ := hd
    refine stC (kLine _ hj0 3 (by decide)) C0 hP hS (by rw [lLineB _ hj0 3 (by decide) (by decide)]; exact h_2) dX1_noteDeed_18 (fun H locs hP hS => ?_)
    refine lv_aload_n hx hb dX1_noteDeed_19 rfl (lv_at hl 0 rfl) ?_
    refine gf_X1_24_v j0 hj0 C0 hP dX1_noteDeed_20 ?_
    refine lv_aload_n hx hb dX1_noteDeed_23 rfl (lv_at hl 0 rfl) ?_
    refine gf_X1_49_v j0 hj0 C0 hP dX1_noteDeed_24 ?_
    refine lv_iload_n hx hb dX1_noteDeed_27 rfl (lv_at hl 2 rfl) ?_
    obtain ⟨h_3, hd⟩ := hd
    refine stC (kLine _ hj0 4 (by decide)) C0 hP hS (by rw [lLineB _ hj0 4 (by decide) (by decide)]; exact h_3) dX1_noteDeed_28 (fun H locs hP hS => ?_)
    obtain ⟨S_4, eS_4⟩ : ∃ x : sT, x = uA (uA S_1 (20 + 13 * j0 + 3) (upd (vA S_1 (20 + 13 * j0 + 3)) (vI S_1 (20 + 13 * j0 + 12)).toNatClampNeg x1)) (20 + 13 * j0 + 4) (upd (vA (uA S_1 (20 + 13 * j0 + 3) (upd (vA S_1 (20 + 13 * j0 + 3)) (vI S_1 (20 + 13 * j0 + 12)).toNatClampNeg x1)) (20 + 13 * j0 + 4)) (vI (uA S_1 (20 + 13 * j0 + 3) (upd (vA S_1 (20 + 13 * j0 + 3)) (vI S_1 (20 + 13 * j0 + 12)).toNatClampNeg x1)) (20 + 13 * j0 + 12)).toNatClampNeg x2) := ⟨_, rfl⟩
    rw [← eS_4] at hP
    have hd := hd S_4 eS_4
    refine lv_aload_n hx hb dX1_noteDeed_29 rfl (lv_at hl 0 rfl) ?_
    refine gf_X1_27_v j0 hj0 C0 hP dX1_noteDeed_30 ?_
    refine lv_aload_n hx hb dX1_noteDeed_33 rfl (lv_at hl 0 rfl) ?_
    refine gf_X1_49_v j0 hj0 C0 hP dX1_noteDeed_34 ?_
    refine lv_iload_n hx hb dX1_noteDeed_37 rfl (lv_at hl 3 rfl) ?_
    obtain ⟨h_5, hd⟩ := hd
    refine stC (kLine _ hj0 5 (by decide)) C0 hP hS (by rw [lLineB _ hj0 5 (by decide) (by decide)]; exact h_5) dX1_noteDeed_38 (fun H locs hP hS => ?_)
    refine lv_aload_n hx hb dX1_noteDeed_39 rfl (lv_at hl 0 rfl) ?_
    refine lv_dup hx hb dX1_noteDeed_40 rfl ?_
    refine gf_X1_49_v j0 hj0 C0 hP dX1_noteDeed_41 ?_
    refine lv_iconst (v := 1) hx hb dX1_noteDeed_44 (by decide) ?_
    refine lv_iadd hx hb dX1_noteDeed_45 ?_
    refine pf_X1_49_v j0 hj0 C0 hP hS dX1_noteDeed_46 (fun H locs hP hS => ?_)
    obtain ⟨S_6, eS_6⟩ : ∃ x : sT, x = uI (uA S_4 (20 + 13 * j0 + 5) (upd (vA S_4 (20 + 13 * j0 + 5)) (vI S_4 (20 + 13 * j0 + 12)).toNatClampNeg x3)) (20 + 13 * j0 + 12) ((vI (uA S_4 (20 + 13 * j0 + 5) (upd (vA S_4 (20 + 13 * j0 + 5)) (vI S_4 (20 + 13 * j0 + 12)).toNatClampNeg x3)) (20 + 13 * j0 + 12)) + (1 : Int32)) := ⟨_, rfl⟩
    rw [← eS_6] at hP
    have hd := hd S_6 eS_6
    exact hret _ _ _ _ _ hd hP hS dX1_noteDeed_49
  · have hd := hd.2 hc
    exact hret _ _ _ _ _ hd hP hS dX1_noteDeed_8
theorem c_X1_noteDeed (l : Launch) {D : va_G} {cA : Nat → ClassId} {h : Nat → Nat} (hk : ky keysC h) {j0 : Nat} (hj0 : j0 < 5) {x1 : Int32} {x2 : Int32} {x3 : Int32} {S : sT} (sz : Nat) {Q : sT → Prop} (hd : wp_X1_noteDeed j0 x1 x2 x3 S Q) : Met l yX1_noteDeed (wsU yX1_noteDeed cX1_noteDeed 4 none) rm_X1_noteDeed (va_Pc [.ref (h (1003 + j0)), .int x1, .int x2, .int x3] (gP D cA true keysC h (wC h cA) S sz)) (va_Qv Q (wB D (wC h cA)) (aK keysC h sz)) 0 0 (aK keysC h sz) :=
  mk_v (by decide) hk (Nat.le_of_ble_eq_true rfl) (fun p e s m below meth c Z ls C0 hret hP hS hl => bk_X1_noteDeed C0 hret hj0 hP hS hd hl)
abbrev rm_X1_changeSupper : Room := { frames := 2, cells := 0, slots := 0, locals := 44 }
def wp_X1_changeSupper (j0 : Nat) (x1 : Int32) (x2 : Int32) (S : sT) (Q : sT → Prop) : Prop :=
  (vp_in x1 6) ∧ wp_X1_noteDeed j0 (1 : Int32) x1 (vA S (20 + 13 * j0 + 2) x1.toNatClampNeg) S (fun S_2 => (vp_in x1 6) ∧ Q (uA S_2 (20 + 13 * j0 + 2) (upd (vA S_2 (20 + 13 * j0 + 2)) x1.toNatClampNeg x2)))
set_option maxHeartbeats 4000000 in
set_option maxRecDepth 100000 in
theorem bk_X1_changeSupper {p : Program} {l : Launch} {e : Env} {s : State} {m : MethodId} {args : Array Value} {below : List Frame} {meth : Method} {c : Code} {Z : State → Prop} {D : va_G} {cA : Nat → ClassId} {h : Nat → Nat} {Q : sT → Prop} {j0 : Nat} (C0 : cx p s m args c cX1_changeSupper 3 RX1 D cA true keysC h) (hret : rtV p l e rm_X1_changeSupper s m args below meth c cX1_changeSupper Z D (wC h cA) (aK keysC h s.heap.size) Q) (hj0 : j0 < 5) {x1 : Int32} {x2 : Int32} {S : sT} {H : Heap} {locs : List Loc} {ls : Array Slot} (hP : va_P D vwCl (wC h cA S) H) (hS : va_S (aK keysC h s.heap.size) s.heap H locs) (hd : wp_X1_changeSupper j0 x1 x2 S Q) (hl : lv_has ls 3 [(0, .ref (h (1003 + j0))), (1, .int x1), (2, .int x2)]) : W p l e rm_X1_changeSupper s m args below meth c H locs 0 0 Z (F0 m 0 ls []) := by
  obtain ⟨⟨hx, hb, hml, hown, hts⟩, hK, -, -⟩ := id C0
  unfold wp_X1_changeSupper at hd
  refine lv_aload_n hx hb dX1_changeSupper_0 rfl (lv_at hl 0 rfl) ?_
  refine lv_iconst (v := 1) hx hb dX1_changeSupper_1 (by decide) ?_
  refine lv_iload_n hx hb dX1_changeSupper_2 rfl (lv_at hl 1 rfl) ?_
  refine lv_aload_n hx hb dX1_changeSupper_3 rfl (lv_at hl 0 rfl) ?_
  refine gf_X1_18_v j0 hj0 C0 hP dX1_changeSupper_4 ?_
  refine lv_iload_n hx hb dX1_changeSupper_7 rfl (lv_at hl 1 rfl) ?_
  obtain ⟨h_1, hd⟩ := hd
  refine ldC (kLine _ hj0 2 (by decide)) C0 hP (by rw [lLineA _ hj0 2 (by decide)]; exact h_1) dX1_changeSupper_8 ?_
  refine cl_Vv (n := 3) (rest := []) C0 hP hS (c_X1_noteDeed l C0.2.2.1 hj0 _ hd) (lwG_V lm_X1_76 li_X1_noteDeed lx_X1_noteDeed lz_RX1 lc_X1_noteDeed) (by decide +kernel) (oL_at h cA _ j0 hj0) rfl rfl rfl (Nat.le_of_ble_eq_true rfl) ⟨rfl, rfl⟩ ⟨by decide, by decide⟩ dX1_changeSupper_9 hl.1 ⟨Nat.zero_le _, Nat.zero_le _⟩ (fun S_2 H locs hd hP hS => ?_)
  refine lv_aload_n hx hb dX1_changeSupper_12 rfl (lv_at hl 0 rfl) ?_
  refine gf_X1_18_v j0 hj0 C0 hP dX1_changeSupper_13 ?_
  refine lv_iload_n hx hb dX1_changeSupper_16 rfl (lv_at hl 1 rfl) ?_
  refine lv_iload_n hx hb dX1_changeSupper_17 rfl (lv_at hl 2 rfl) ?_
  obtain ⟨h_3, hd⟩ := hd
  refine stC (kLine _ hj0 2 (by decide)) C0 hP hS (by rw [lLineA _ hj0 2 (by decide)]; exact h_3) dX1_changeSupper_18 (fun H locs hP hS => ?_)
  exact hret _ _ _ _ _ hd hP hS dX1_changeSupper_19
theorem c_X1_changeSupper (l : Launch) {D : va_G} {cA : Nat → ClassId} {h : Nat → Nat} (hk : ky keysC h) {j0 : Nat} (hj0 : j0 < 5) {x1 : Int32} {x2 : Int32} {S : sT} (sz : Nat) {Q : sT → Prop} (hd : wp_X1_changeSupper j0 x1 x2 S Q) : Met l yX1_changeSupper (wsU yX1_changeSupper cX1_changeSupper 3 none) rm_X1_changeSupper (va_Pc [.ref (h (1003 + j0)), .int x1, .int x2] (gP D cA true keysC h (wC h cA) S sz)) (va_Qv Q (wB D (wC h cA)) (aK keysC h sz)) 0 0 (aK keysC h sz) :=
  mk_v (by decide) hk (Nat.le_of_ble_eq_true rfl) (fun p e s m below meth c Z ls C0 hret hP hS hl => bk_X1_changeSupper C0 hret hj0 hP hS hd hl)
abbrev rm_X1_cheeseEaters : Room := { frames := 1, cells := 0, slots := 0, locals := 20 }
def wb_X1_cheeseEaters_38 (j0 : Nat) (Q : Int32 → sT → Prop) (K4 : Int32 → Int32 → sT → Prop) (x2 : Int32) (y0 : Int32) (y1 : Int32) (S : sT) : Prop :=
  wp_X4_bit y1 S (fun r_1 S_1 => K4 (y0 + r_1) (x2 + (1 : Int32)) S_1)
set_option maxHeartbeats 4000000 in
set_option maxRecDepth 100000 in
theorem bk_X1_cheeseEaters_38 {p : Program} {l : Launch} {e : Env} {s : State} {m : MethodId} {args : Array Value} {below : List Frame} {meth : Method} {c : Code} {Z : State → Prop} {D : va_G} {cA : Nat → ClassId} {h : Nat → Nat} {Q : Int32 → sT → Prop} {j0 : Nat} (C0 : cx p s m args c cX1_cheeseEaters 3 RX1 D cA true keysC h) (hret : rtI p l e rm_X1_cheeseEaters s m args below meth c cX1_cheeseEaters Z D (wC h cA) (aK keysC h s.heap.size) Q) (hj0 : j0 < 5) {K4 : Int32 → Int32 → sT → Prop} (k4 : ∀ (x1 : Int32) (x2 : Int32) (S : sT) (H : Heap) (locs : List Loc) (ls : Array Slot), K4 x1 x2 S → va_P D vwCl (wC h cA S) H → va_S (aK keysC h s.heap.size) s.heap H locs → lv_has ls 3 [(0, .ref (h (1003 + j0))), (1, .int x1), (2, .int x2)] → W p l e rm_X1_cheeseEaters s m args below meth c H locs 0 0 Z (F0 m 4 ls [])) {x2 : Int32} {y0 : Int32} {y1 : Int32} {S : sT} {H : Heap} {locs : List Loc} {ls : Array Slot} (hP : va_P D vwCl (wC h cA S) H) (hS : va_S (aK keysC h s.heap.size) s.heap H locs) (hd : wb_X1_cheeseEaters_38 j0 Q K4 x2 y0 y1 S) (hl : lv_has ls 3 [(0, .ref (h (1003 + j0))), (2, .int x2)]) : W p l e rm_X1_cheeseEaters s m args below meth c H locs 0 0 Z (F0 m 38 ls [.int y1, .int y0]) := by
  obtain ⟨⟨hx, hb, hml, hown, hts⟩, hK, -, -⟩ := id C0
  unfold wb_X1_cheeseEaters_38 at hd
  refine cl_SNi (n := 1) (rest := [.int y0]) C0 hP hS (c_X4_bit l C0.2.2.1 _ hd) (lwG_C lc_X4_bit) (by decide +kernel : (RX1, 69, yX4_bit, "DreamTrain") ∈ nestM) lz_RX4 ls_X4_bit (by decide +kernel) rfl rfl (Nat.le_of_ble_eq_true rfl) ⟨rfl, rfl⟩ ⟨by decide, by decide⟩ dX1_cheeseEaters_38 hl.1 ⟨Nat.zero_le _, Nat.zero_le _⟩ (fun r_1 S_1 H locs hd hP hS => ?_)
  refine lv_iadd hx hb dX1_cheeseEaters_41 ?_
  refine lv_istore_n (lv' := [(1, .int (y0 + r_1)), (0, .ref (h (1003 + j0))), (2, .int x2)]) hx hb dX1_cheeseEaters_42 rfl hl (by decide) rfl (fun ls hl => ?_)
  refine lv_iinc (v := x2 + (1 : Int32)) (lv' := [(2, .int (x2 + (1 : Int32))), (1, .int (y0 + r_1)), (0, .ref (h (1003 + j0)))]) hx hb dX1_cheeseEaters_43 hl (k := 2) rfl rfl (by decide) rfl (fun ls hl => ?_)
  refine lv_goto (tgt := 4) hx hb dX1_cheeseEaters_46 (by decide) ?_
  exact k4 _ _ _ _ _ _ hd hP hS (lv_sub hl [2, 1, 0] rfl)
def wb_X1_cheeseEaters_33 (j0 : Nat) (Q : Int32 → sT → Prop) (K4 : Int32 → Int32 → sT → Prop) (x2 : Int32) (y0 : Int32) (S : sT) : Prop :=
  wb_X1_cheeseEaters_38 j0 Q K4 x2 y0 (1 : Int32) S
set_option maxHeartbeats 4000000 in
set_option maxRecDepth 100000 in
theorem bk_X1_cheeseEaters_33 {p : Program} {l : Launch} {e : Env} {s : State} {m : MethodId} {args : Array Value} {below : List Frame} {meth : Method} {c : Code} {Z : State → Prop} {D : va_G} {cA : Nat → ClassId} {h : Nat → Nat} {Q : Int32 → sT → Prop} {j0 : Nat} (C0 : cx p s m args c cX1_cheeseEaters 3 RX1 D cA true keysC h) (hret : rtI p l e rm_X1_cheeseEaters s m args below meth c cX1_cheeseEaters Z D (wC h cA) (aK keysC h s.heap.size) Q) (hj0 : j0 < 5) {K4 : Int32 → Int32 → sT → Prop} (k4 : ∀ (x1 : Int32) (x2 : Int32) (S : sT) (H : Heap) (locs : List Loc) (ls : Array Slot), K4 x1 x2 S → va_P D vwCl (wC h cA S) H → va_S (aK keysC h s.heap.size) s.heap H locs → lv_has ls 3 [(0, .ref (h (1003 + j0))), (1, .int x1), (2, .int x2)] → W p l e rm_X1_cheeseEaters s m args below meth c H locs 0 0 Z (F0 m 4 ls [])) {x2 : Int32} {y0 : Int32} {S : sT} {H : Heap} {locs : List Loc} {ls : Array Slot} (hP : va_P D vwCl (wC h cA S) H) (hS : va_S (aK keysC h s.heap.size) s.heap H locs) (hd : wb_X1_cheeseEaters_33 j0 Q K4 x2 y0 S) (hl : lv_has ls 3 [(0, .ref (h (1003 + j0))), (2, .int x2)]) : W p l e rm_X1_cheeseEaters s m args below meth c H locs 0 0 Z (F0 m 33 ls [.int y0]) := by
  obtain ⟨⟨hx, hb, hml, hown, hts⟩, hK, -, -⟩ := id C0
  unfold wb_X1_cheeseEaters_33 at hd
  refine lv_iconst (v := 1) hx hb dX1_cheeseEaters_33 (by decide) ?_
  refine lv_goto (tgt := 38) hx hb dX1_cheeseEaters_34 (by decide) ?_
  exact bk_X1_cheeseEaters_38 C0 hret hj0 k4 hP hS hd (lv_sub hl [0, 1] rfl)
def wb_X1_cheeseEaters_4 (j0 : Nat) (Q : Int32 → sT → Prop) (K4 : Int32 → Int32 → sT → Prop) (x1 : Int32) (x2 : Int32) (S : sT) : Prop :=
  (((vI S (20 + 13 * j0 + 6)) ≤ x2 → Q x1 S) ∧ (¬ (vI S (20 + 13 * j0 + 6)) ≤ x2 → (vp_in x2 6) ∧ (((vA S (20 + 13 * j0 + 0) x2.toNatClampNeg) = (1 : Int32) → wb_X1_cheeseEaters_33 j0 Q K4 x2 x1 S) ∧ (¬ (vA S (20 + 13 * j0 + 0) x2.toNatClampNeg) = (1 : Int32) → (vp_in x2 6) ∧ ((¬ (vA S (20 + 13 * j0 + 0) x2.toNatClampNeg) = (4 : Int32) → wb_X1_cheeseEaters_38 j0 Q K4 x2 x1 (0 : Int32) S) ∧ ((vA S (20 + 13 * j0 + 0) x2.toNatClampNeg) = (4 : Int32) → wb_X1_cheeseEaters_33 j0 Q K4 x2 x1 S))))))
set_option maxHeartbeats 4000000 in
set_option maxRecDepth 100000 in
theorem bk_X1_cheeseEaters_4 {p : Program} {l : Launch} {e : Env} {s : State} {m : MethodId} {args : Array Value} {below : List Frame} {meth : Method} {c : Code} {Z : State → Prop} {D : va_G} {cA : Nat → ClassId} {h : Nat → Nat} {Q : Int32 → sT → Prop} {j0 : Nat} (C0 : cx p s m args c cX1_cheeseEaters 3 RX1 D cA true keysC h) (hret : rtI p l e rm_X1_cheeseEaters s m args below meth c cX1_cheeseEaters Z D (wC h cA) (aK keysC h s.heap.size) Q) (hj0 : j0 < 5) {K4 : Int32 → Int32 → sT → Prop} (k4 : ∀ (x1 : Int32) (x2 : Int32) (S : sT) (H : Heap) (locs : List Loc) (ls : Array Slot), K4 x1 x2 S → va_P D vwCl (wC h cA S) H → va_S (aK keysC h s.heap.size) s.heap H locs → lv_has ls 3 [(0, .ref (h (1003 + j0))), (1, .int x1), (2, .int x2)] → W p l e rm_X1_cheeseEaters s m args below meth c H locs 0 0 Z (F0 m 4 ls [])) {x1 : Int32} {x2 : Int32} {S : sT} {H : Heap} {locs : List Loc} {ls : Array Slot} (hP : va_P D vwCl (wC h cA S) H) (hS : va_S (aK keysC h s.heap.size) s.heap H locs) (hd : wb_X1_cheeseEaters_4 j0 Q K4 x1 x2 S) (hl : lv_has ls 3 [(0, .ref (h (1003 + j0))), (1, .int x1), (2, .int x2)]) : W p l e rm_X1_cheeseEaters s m args below meth c H locs 0 0 Z (F0 m 4 ls []) := by
  obtain ⟨⟨hx, hb, hml, hown, hts⟩, hK, -, -⟩ := id C0
  unfold wb_X1_cheeseEaters_4 at hd
  refine lv_iload_n hx hb dX1_cheeseEaters_4 rfl (lv_at hl 2 rfl) ?_
  refine lv_aload_n hx hb dX1_cheeseEaters_5 rfl (lv_at hl 0 rfl) ?_
  refine gf_X1_30_v j0 hj0 C0 hP dX1_cheeseEaters_6 ?_
  refine lv_icmp_ge (tgt := 49) hx hb dX1_cheeseEaters_9 (by decide) (fun hc => ?_) (fun hc => ?_)
  · have hd := hd.1 hc
    refine lv_iload_n hx hb dX1_cheeseEaters_49 rfl (lv_at hl 1 rfl) ?_
    exact hret _ _ _ _ _ _ hd hP hS dX1_cheeseEaters_50
  · have hd := hd.2 hc
    refine lv_iload_n hx hb dX1_cheeseEaters_12 rfl (lv_at hl 1 rfl) ?_
    refine lv_aload_n hx hb dX1_cheeseEaters_13 rfl (lv_at hl 0 rfl) ?_
    refine gf_X1_9_v j0 hj0 C0 hP dX1_cheeseEaters_14 ?_
    refine lv_iload_n hx hb dX1_cheeseEaters_17 rfl (lv_at hl 2 rfl) ?_
    obtain ⟨h_1, hd⟩ := hd
    refine ldC (kLine _ hj0 0 (by decide)) C0 hP (by rw [lLineA _ hj0 0 (by decide)]; exact h_1) dX1_cheeseEaters_18 ?_
    refine lv_iconst (v := 1) hx hb dX1_cheeseEaters_19 (by decide) ?_
    refine lv_icmp_eq (tgt := 33) hx hb dX1_cheeseEaters_20 (by decide) (fun hc => ?_) (fun hc => ?_)
    · have hd := hd.1 hc
      exact bk_X1_cheeseEaters_33 C0 hret hj0 k4 hP hS hd (lv_sub hl [0, 2] rfl)
    · have hd := hd.2 hc
      refine lv_aload_n hx hb dX1_cheeseEaters_23 rfl (lv_at hl 0 rfl) ?_
      refine gf_X1_9_v j0 hj0 C0 hP dX1_cheeseEaters_24 ?_
      refine lv_iload_n hx hb dX1_cheeseEaters_27 rfl (lv_at hl 2 rfl) ?_
      obtain ⟨h_2, hd⟩ := hd
      refine ldC (kLine _ hj0 0 (by decide)) C0 hP (by rw [lLineA _ hj0 0 (by decide)]; exact h_2) dX1_cheeseEaters_28 ?_
      refine lv_iconst (v := 4) hx hb dX1_cheeseEaters_29 (by decide) ?_
      refine lv_icmp_ne (tgt := 37) hx hb dX1_cheeseEaters_30 (by decide) (fun hc => ?_) (fun hc => ?_)
      · have hd := hd.1 hc
        refine lv_iconst (v := 0) hx hb dX1_cheeseEaters_37 (by decide) ?_
        exact bk_X1_cheeseEaters_38 C0 hret hj0 k4 hP hS hd (lv_sub hl [0, 2] rfl)
      · have hd := hd.2 hc
        exact bk_X1_cheeseEaters_33 C0 hret hj0 k4 hP hS hd (lv_sub hl [0, 2] rfl)
def wl_X1_cheeseEaters_4 (j0 : Nat) (Q : Int32 → sT → Prop) : Nat → Int32 → Int32 → sT → Prop
  | 0, _, _ => fun _ => False
  | n + 1, x1, x2 => fun S => wb_X1_cheeseEaters_4 j0 Q (fun x1 x2 S => wl_X1_cheeseEaters_4 j0 Q n x1 x2 S) x1 x2 S
theorem bl_X1_cheeseEaters_4 {p : Program} {l : Launch} {e : Env} {s : State} {m : MethodId} {args : Array Value} {below : List Frame} {meth : Method} {c : Code} {Z : State → Prop} {D : va_G} {cA : Nat → ClassId} {h : Nat → Nat} {Q : Int32 → sT → Prop} {j0 : Nat} (C0 : cx p s m args c cX1_cheeseEaters 3 RX1 D cA true keysC h) (hret : rtI p l e rm_X1_cheeseEaters s m args below meth c cX1_cheeseEaters Z D (wC h cA) (aK keysC h s.heap.size) Q) (hj0 : j0 < 5) : ∀ (n : Nat) (x1 : Int32) (x2 : Int32) (S : sT) (H : Heap) (locs : List Loc) (ls : Array Slot), va_P D vwCl (wC h cA S) H → va_S (aK keysC h s.heap.size) s.heap H locs → wl_X1_cheeseEaters_4 j0 Q n x1 x2 S → lv_has ls 3 [(0, .ref (h (1003 + j0))), (1, .int x1), (2, .int x2)] → W p l e rm_X1_cheeseEaters s m args below meth c H locs 0 0 Z (F0 m 4 ls []) := by
  intro n
  induction n with
  | zero => intro x1 x2 S H locs ls hP hS hd hl; exact (show False from hd).elim
  | succ n ih => intro x1 x2 S H locs ls hP hS hd hl; exact bk_X1_cheeseEaters_4 C0 hret hj0 (fun x1 x2 S H locs ls hd hP hS hl => ih x1 x2 S H locs ls hP hS hd hl) hP hS hd hl
def wp_X1_cheeseEaters (j0 : Nat) (S : sT) (Q : Int32 → sT → Prop) : Prop :=
  ∃ n : Nat, wl_X1_cheeseEaters_4 j0 Q n (0 : Int32) (0 : Int32) S
set_option maxHeartbeats 4000000 in
set_option maxRecDepth 100000 in
theorem bk_X1_cheeseEaters {p : Program} {l : Launch} {e : Env} {s : State} {m : MethodId} {args : Array Value} {below : List Frame} {meth : Method} {c : Code} {Z : State → Prop} {D : va_G} {cA : Nat → ClassId} {h : Nat → Nat} {Q : Int32 → sT → Prop} {j0 : Nat} (C0 : cx p s m args c cX1_cheeseEaters 3 RX1 D cA true keysC h) (hret : rtI p l e rm_X1_cheeseEaters s m args below meth c cX1_cheeseEaters Z D (wC h cA) (aK keysC h s.heap.size) Q) (hj0 : j0 < 5) {S : sT} {H : Heap} {locs : List Loc} {ls : Array Slot} (hP : va_P D vwCl (wC h cA S) H) (hS : va_S (aK keysC h s.heap.size) s.heap H locs) (hd : wp_X1_cheeseEaters j0 S Q) (hl : lv_has ls 3 [(0, .ref (h (1003 + j0)))]) : W p l e rm_X1_cheeseEaters s m args below meth c H locs 0 0 Z (F0 m 0 ls []) := by
  obtain ⟨⟨hx, hb, hml, hown, hts⟩, hK, -, -⟩ := id C0
  unfold wp_X1_cheeseEaters at hd
  refine lv_iconst (v := 0) hx hb dX1_cheeseEaters_0 (by decide) ?_
  refine lv_istore_n (lv' := [(1, .int (0 : Int32)), (0, .ref (h (1003 + j0)))]) hx hb dX1_cheeseEaters_1 rfl hl (by decide) rfl (fun ls hl => ?_)
  refine lv_iconst (v := 0) hx hb dX1_cheeseEaters_2 (by decide) ?_
  refine lv_istore_n (lv' := [(2, .int (0 : Int32)), (1, .int (0 : Int32)), (0, .ref (h (1003 + j0)))]) hx hb dX1_cheeseEaters_3 rfl hl (by decide) rfl (fun ls hl => ?_)
  obtain ⟨n_1, hd⟩ := hd
  exact bl_X1_cheeseEaters_4 C0 hret hj0 _ _ _ _ _ _ _ hP hS hd (lv_sub hl [2, 1, 0] rfl)
theorem c_X1_cheeseEaters (l : Launch) {D : va_G} {cA : Nat → ClassId} {h : Nat → Nat} (hk : ky keysC h) {j0 : Nat} (hj0 : j0 < 5) {S : sT} (sz : Nat) {Q : Int32 → sT → Prop} (hd : wp_X1_cheeseEaters j0 S Q) : Met l yX1_cheeseEaters (wsU yX1_cheeseEaters cX1_cheeseEaters 3 (some .int)) rm_X1_cheeseEaters (va_Pc [.ref (h (1003 + j0))] (gP D cA true keysC h (wC h cA) S sz)) (va_Qi Q (wB D (wC h cA)) (aK keysC h sz)) 0 0 (aK keysC h sz) :=
  mk_i (by decide) hk (Nat.le_of_ble_eq_true rfl) (fun p e s m below meth c Z ls C0 hret hP hS hl => bk_X1_cheeseEaters C0 hret hj0 hP hS hd hl)
abbrev rm_X1_isAsleep : Room := { frames := 0, cells := 0, slots := 0, locals := 0 }
def wp_X1_isAsleep (j0 : Nat) (x1 : Int32) (S : sT) (Q : Int32 → sT → Prop) : Prop :=
  (((((vI S (20 + 13 * j0 + 9)) >>> (x1 &&& 31)) &&& (1 : Int32)) = 0 → Q (0 : Int32) S) ∧ (¬ (((vI S (20 + 13 * j0 + 9)) >>> (x1 &&& 31)) &&& (1 : Int32)) = 0 → Q (1 : Int32) S))
set_option maxHeartbeats 4000000 in
set_option maxRecDepth 100000 in
theorem bk_X1_isAsleep {p : Program} {l : Launch} {e : Env} {s : State} {m : MethodId} {args : Array Value} {below : List Frame} {meth : Method} {c : Code} {Z : State → Prop} {D : va_G} {cA : Nat → ClassId} {h : Nat → Nat} {Q : Int32 → sT → Prop} {j0 : Nat} (C0 : cx p s m args c cX1_isAsleep 2 RX1 D cA true keysC h) (hret : rtZ p l e rm_X1_isAsleep s m args below meth c cX1_isAsleep Z D (wC h cA) (aK keysC h s.heap.size) Q) (hj0 : j0 < 5) {x1 : Int32} {S : sT} {H : Heap} {locs : List Loc} {ls : Array Slot} (hP : va_P D vwCl (wC h cA S) H) (hS : va_S (aK keysC h s.heap.size) s.heap H locs) (hd : wp_X1_isAsleep j0 x1 S Q) (hl : lv_has ls 2 [(0, .ref (h (1003 + j0))), (1, .int x1)]) : W p l e rm_X1_isAsleep s m args below meth c H locs 0 0 Z (F0 m 0 ls []) := by
  obtain ⟨⟨hx, hb, hml, hown, hts⟩, hK, -, -⟩ := id C0
  unfold wp_X1_isAsleep at hd
  refine lv_aload_n hx hb dX1_isAsleep_0 rfl (lv_at hl 0 rfl) ?_
  refine gf_X1_40_v j0 hj0 C0 hP dX1_isAsleep_1 ?_
  refine lv_iload_n hx hb dX1_isAsleep_4 rfl (lv_at hl 1 rfl) ?_
  refine lv_ishr hx hb dX1_isAsleep_5 ?_
  refine lv_iconst (v := 1) hx hb dX1_isAsleep_6 (by decide) ?_
  refine lv_iand hx hb dX1_isAsleep_7 ?_
  refine lv_if_eq (tgt := 15) hx hb dX1_isAsleep_8 (by decide) (fun hc => ?_) (fun hc => ?_)
  · have hd := hd.1 hc
    refine lv_iconst (v := 0) hx hb dX1_isAsleep_15 (by decide) ?_
    exact hret _ _ _ _ _ _ rfl hd hP hS dX1_isAsleep_16
  · have hd := hd.2 hc
    refine lv_iconst (v := 1) hx hb dX1_isAsleep_11 (by decide) ?_
    refine lv_goto (tgt := 16) hx hb dX1_isAsleep_12 (by decide) ?_
    exact hret _ _ _ _ _ _ rfl hd hP hS dX1_isAsleep_16
theorem c_X1_isAsleep (l : Launch) {D : va_G} {cA : Nat → ClassId} {h : Nat → Nat} (hk : ky keysC h) {j0 : Nat} (hj0 : j0 < 5) {x1 : Int32} {S : sT} (sz : Nat) {Q : Int32 → sT → Prop} (hd : wp_X1_isAsleep j0 x1 S Q) : Met l yX1_isAsleep (wsU yX1_isAsleep cX1_isAsleep 2 (some .boolean)) rm_X1_isAsleep (va_Pc [.ref (h (1003 + j0)), .int x1] (gP D cA true keysC h (wC h cA) S sz)) (va_Qi Q (wB D (wC h cA)) (aK keysC h sz)) 0 0 (aK keysC h sz) :=
  mk_z (by decide) hk (Nat.le_of_ble_eq_true rfl) (fun p e s m below meth c Z ls C0 hret hP hS hl => bk_X1_isAsleep C0 hret hj0 hP hS hd hl)
abbrev rm_X1_isDreaming : Room := { frames := 1, cells := 0, slots := 0, locals := 26 }
def wp_X1_isDreaming (j0 : Nat) (x1 : Int32) (S : sT) (Q : Int32 → sT → Prop) : Prop :=
  wp_X1_isAsleep j0 x1 S (fun r_1 S_1 => ((r_1 = 0 → Q (0 : Int32) S_1) ∧ (¬ r_1 = 0 → (vp_in x1 6) ∧ (vp_in x1 6) ∧ wp_X4_wouldDream (vA S_1 (20 + 13 * j0 + 0) x1.toNatClampNeg) (vA S_1 (20 + 13 * j0 + 2) x1.toNatClampNeg) (vI S_1 (20 + 13 * j0 + 10)) S_1 (fun r_4 S_4 => ((r_4 = 0 → Q (0 : Int32) S_4) ∧ (¬ r_4 = 0 → Q (1 : Int32) S_4))))))
set_option maxHeartbeats 4000000 in
set_option maxRecDepth 100000 in
theorem bk_X1_isDreaming {p : Program} {l : Launch} {e : Env} {s : State} {m : MethodId} {args : Array Value} {below : List Frame} {meth : Method} {c : Code} {Z : State → Prop} {D : va_G} {cA : Nat → ClassId} {h : Nat → Nat} {Q : Int32 → sT → Prop} {j0 : Nat} (C0 : cx p s m args c cX1_isDreaming 2 RX1 D cA true keysC h) (hret : rtZ p l e rm_X1_isDreaming s m args below meth c cX1_isDreaming Z D (wC h cA) (aK keysC h s.heap.size) Q) (hj0 : j0 < 5) {x1 : Int32} {S : sT} {H : Heap} {locs : List Loc} {ls : Array Slot} (hP : va_P D vwCl (wC h cA S) H) (hS : va_S (aK keysC h s.heap.size) s.heap H locs) (hd : wp_X1_isDreaming j0 x1 S Q) (hl : lv_has ls 2 [(0, .ref (h (1003 + j0))), (1, .int x1)]) : W p l e rm_X1_isDreaming s m args below meth c H locs 0 0 Z (F0 m 0 ls []) := by
  obtain ⟨⟨hx, hb, hml, hown, hts⟩, hK, -, -⟩ := id C0
  unfold wp_X1_isDreaming at hd
  refine lv_aload_n hx hb dX1_isDreaming_0 rfl (lv_at hl 0 rfl) ?_
  refine lv_iload_n hx hb dX1_isDreaming_1 rfl (lv_at hl 1 rfl) ?_
  refine cl_Vi (n := 1) (rest := []) C0 hP hS (c_X1_isAsleep l C0.2.2.1 hj0 _ hd) (lwG_V lm_X1_58 li_X1_isAsleep lx_X1_isAsleep lz_RX1 lc_X1_isAsleep) (by decide +kernel) (oL_at h cA _ j0 hj0) rfl rfl rfl (Nat.le_of_ble_eq_true rfl) ⟨rfl, rfl⟩ ⟨by decide, by decide⟩ dX1_isDreaming_2 hl.1 ⟨Nat.zero_le _, Nat.zero_le _⟩ (fun r_1 S_1 H locs hd hP hS => ?_)
  refine lv_if_eq (tgt := 34) hx hb dX1_isDreaming_5 (by decide) (fun hc => ?_) (fun hc => ?_)
  · have hd := hd.1 hc
    refine lv_iconst (v := 0) hx hb dX1_isDreaming_34 (by decide) ?_
    exact hret _ _ _ _ _ _ rfl hd hP hS dX1_isDreaming_35
  · have hd := hd.2 hc
    refine lv_aload_n hx hb dX1_isDreaming_8 rfl (lv_at hl 0 rfl) ?_
    refine gf_X1_9_v j0 hj0 C0 hP dX1_isDreaming_9 ?_
    refine lv_iload_n hx hb dX1_isDreaming_12 rfl (lv_at hl 1 rfl) ?_
    obtain ⟨h_2, hd⟩ := hd
    refine ldC (kLine _ hj0 0 (by decide)) C0 hP (by rw [lLineA _ hj0 0 (by decide)]; exact h_2) dX1_isDreaming_13 ?_
    refine lv_aload_n hx hb dX1_isDreaming_14 rfl (lv_at hl 0 rfl) ?_
    refine gf_X1_18_v j0 hj0 C0 hP dX1_isDreaming_15 ?_
    refine lv_iload_n hx hb dX1_isDreaming_18 rfl (lv_at hl 1 rfl) ?_
    obtain ⟨h_3, hd⟩ := hd
    refine ldC (kLine _ hj0 2 (by decide)) C0 hP (by rw [lLineA _ hj0 2 (by decide)]; exact h_3) dX1_isDreaming_19 ?_
    refine lv_aload_n hx hb dX1_isDreaming_20 rfl (lv_at hl 0 rfl) ?_
    refine gf_X1_43_v j0 hj0 C0 hP dX1_isDreaming_21 ?_
    refine cl_SNi (n := 3) (rest := []) C0 hP hS (c_X4_wouldDream l C0.2.2.1 _ hd) (lwG_C lc_X4_wouldDream) (by decide +kernel : (RX1, 62, yX4_wouldDream, "DreamTrain") ∈ nestM) lz_RX4 ls_X4_wouldDream (by decide +kernel) rfl rfl (Nat.le_of_ble_eq_true rfl) ⟨rfl, rfl⟩ ⟨by decide, by decide⟩ dX1_isDreaming_24 hl.1 ⟨Nat.zero_le _, Nat.zero_le _⟩ (fun r_4 S_4 H locs hd hP hS => ?_)
    refine lv_if_eq (tgt := 34) hx hb dX1_isDreaming_27 (by decide) (fun hc => ?_) (fun hc => ?_)
    · have hd := hd.1 hc
      refine lv_iconst (v := 0) hx hb dX1_isDreaming_34 (by decide) ?_
      exact hret _ _ _ _ _ _ rfl hd hP hS dX1_isDreaming_35
    · have hd := hd.2 hc
      refine lv_iconst (v := 1) hx hb dX1_isDreaming_30 (by decide) ?_
      refine lv_goto (tgt := 35) hx hb dX1_isDreaming_31 (by decide) ?_
      exact hret _ _ _ _ _ _ rfl hd hP hS dX1_isDreaming_35
theorem c_X1_isDreaming (l : Launch) {D : va_G} {cA : Nat → ClassId} {h : Nat → Nat} (hk : ky keysC h) {j0 : Nat} (hj0 : j0 < 5) {x1 : Int32} {S : sT} (sz : Nat) {Q : Int32 → sT → Prop} (hd : wp_X1_isDreaming j0 x1 S Q) : Met l yX1_isDreaming (wsU yX1_isDreaming cX1_isDreaming 2 (some .boolean)) rm_X1_isDreaming (va_Pc [.ref (h (1003 + j0)), .int x1] (gP D cA true keysC h (wC h cA) S sz)) (va_Qi Q (wB D (wC h cA)) (aK keysC h sz)) 0 0 (aK keysC h sz) :=
  mk_z (by decide) hk (Nat.le_of_ble_eq_true rfl) (fun p e s m below meth c Z ls C0 hret hP hS hl => bk_X1_isDreaming C0 hret hj0 hP hS hd hl)
abbrev rm_X1_dreamers : Room := { frames := 2, cells := 0, slots := 0, locals := 47 }
def wb_X1_dreamers_4 (j0 : Nat) (Q : Int32 → sT → Prop) (K4 : Int32 → Int32 → sT → Prop) (x1 : Int32) (x2 : Int32) (S : sT) : Prop :=
  (((vI S (20 + 13 * j0 + 6)) ≤ x2 → Q x1 S) ∧ (¬ (vI S (20 + 13 * j0 + 6)) ≤ x2 → wp_X1_isDreaming j0 x2 S (fun r_1 S_1 => wp_X4_bit r_1 S_1 (fun r_2 S_2 => K4 (x1 ||| (r_2 <<< (x2 &&& 31))) (x2 + (1 : Int32)) S_2))))
set_option maxHeartbeats 4000000 in
set_option maxRecDepth 100000 in
theorem bk_X1_dreamers_4 {p : Program} {l : Launch} {e : Env} {s : State} {m : MethodId} {args : Array Value} {below : List Frame} {meth : Method} {c : Code} {Z : State → Prop} {D : va_G} {cA : Nat → ClassId} {h : Nat → Nat} {Q : Int32 → sT → Prop} {j0 : Nat} (C0 : cx p s m args c cX1_dreamers 3 RX1 D cA true keysC h) (hret : rtI p l e rm_X1_dreamers s m args below meth c cX1_dreamers Z D (wC h cA) (aK keysC h s.heap.size) Q) (hj0 : j0 < 5) {K4 : Int32 → Int32 → sT → Prop} (k4 : ∀ (x1 : Int32) (x2 : Int32) (S : sT) (H : Heap) (locs : List Loc) (ls : Array Slot), K4 x1 x2 S → va_P D vwCl (wC h cA S) H → va_S (aK keysC h s.heap.size) s.heap H locs → lv_has ls 3 [(0, .ref (h (1003 + j0))), (1, .int x1), (2, .int x2)] → W p l e rm_X1_dreamers s m args below meth c H locs 0 0 Z (F0 m 4 ls [])) {x1 : Int32} {x2 : Int32} {S : sT} {H : Heap} {locs : List Loc} {ls : Array Slot} (hP : va_P D vwCl (wC h cA S) H) (hS : va_S (aK keysC h s.heap.size) s.heap H locs) (hd : wb_X1_dreamers_4 j0 Q K4 x1 x2 S) (hl : lv_has ls 3 [(0, .ref (h (1003 + j0))), (1, .int x1), (2, .int x2)]) : W p l e rm_X1_dreamers s m args below meth c H locs 0 0 Z (F0 m 4 ls []) := by
  obtain ⟨⟨hx, hb, hml, hown, hts⟩, hK, -, -⟩ := id C0
  unfold wb_X1_dreamers_4 at hd
  refine lv_iload_n hx hb dX1_dreamers_4 rfl (lv_at hl 2 rfl) ?_
  refine lv_aload_n hx hb dX1_dreamers_5 rfl (lv_at hl 0 rfl) ?_
  refine gf_X1_30_v j0 hj0 C0 hP dX1_dreamers_6 ?_
  refine lv_icmp_ge (tgt := 31) hx hb dX1_dreamers_9 (by decide) (fun hc => ?_) (fun hc => ?_)
  · have hd := hd.1 hc
    refine lv_iload_n hx hb dX1_dreamers_31 rfl (lv_at hl 1 rfl) ?_
    exact hret _ _ _ _ _ _ hd hP hS dX1_dreamers_32
  · have hd := hd.2 hc
    refine lv_iload_n hx hb dX1_dreamers_12 rfl (lv_at hl 1 rfl) ?_
    refine lv_aload_n hx hb dX1_dreamers_13 rfl (lv_at hl 0 rfl) ?_
    refine lv_iload_n hx hb dX1_dreamers_14 rfl (lv_at hl 2 rfl) ?_
    refine cl_Vi (n := 1) (rest := [.int x1]) C0 hP hS (c_X1_isDreaming l C0.2.2.1 hj0 _ hd) (lwG_V lm_X1_66 li_X1_isDreaming lx_X1_isDreaming lz_RX1 lc_X1_isDreaming) (by decide +kernel) (oL_at h cA _ j0 hj0) rfl rfl rfl (Nat.le_of_ble_eq_true rfl) ⟨rfl, rfl⟩ ⟨by decide, by decide⟩ dX1_dreamers_15 hl.1 ⟨Nat.zero_le _, Nat.zero_le _⟩ (fun r_1 S_1 H locs hd hP hS => ?_)
    refine cl_SNi (n := 1) (rest := [.int x1]) C0 hP hS (c_X4_bit l C0.2.2.1 _ hd) (lwG_C lc_X4_bit) (by decide +kernel : (RX1, 69, yX4_bit, "DreamTrain") ∈ nestM) lz_RX4 ls_X4_bit (by decide +kernel) rfl rfl (Nat.le_of_ble_eq_true rfl) ⟨rfl, rfl⟩ ⟨by decide, by decide⟩ dX1_dreamers_18 hl.1 ⟨Nat.zero_le _, Nat.zero_le _⟩ (fun r_2 S_2 H locs hd hP hS => ?_)
    refine lv_iload_n hx hb dX1_dreamers_21 rfl (lv_at hl 2 rfl) ?_
    refine lv_ishl hx hb dX1_dreamers_22 ?_
    refine lv_ior hx hb dX1_dreamers_23 ?_
    refine lv_istore_n (lv' := [(1, .int (x1 ||| (r_2 <<< (x2 &&& 31)))), (0, .ref (h (1003 + j0))), (2, .int x2)]) hx hb dX1_dreamers_24 rfl hl (by decide) rfl (fun ls hl => ?_)
    refine lv_iinc (v := x2 + (1 : Int32)) (lv' := [(2, .int (x2 + (1 : Int32))), (1, .int (x1 ||| (r_2 <<< (x2 &&& 31)))), (0, .ref (h (1003 + j0)))]) hx hb dX1_dreamers_25 hl (k := 2) rfl rfl (by decide) rfl (fun ls hl => ?_)
    refine lv_goto (tgt := 4) hx hb dX1_dreamers_28 (by decide) ?_
    exact k4 _ _ _ _ _ _ hd hP hS (lv_sub hl [2, 1, 0] rfl)
def wl_X1_dreamers_4 (j0 : Nat) (Q : Int32 → sT → Prop) : Nat → Int32 → Int32 → sT → Prop
  | 0, _, _ => fun _ => False
  | n + 1, x1, x2 => fun S => wb_X1_dreamers_4 j0 Q (fun x1 x2 S => wl_X1_dreamers_4 j0 Q n x1 x2 S) x1 x2 S
theorem bl_X1_dreamers_4 {p : Program} {l : Launch} {e : Env} {s : State} {m : MethodId} {args : Array Value} {below : List Frame} {meth : Method} {c : Code} {Z : State → Prop} {D : va_G} {cA : Nat → ClassId} {h : Nat → Nat} {Q : Int32 → sT → Prop} {j0 : Nat} (C0 : cx p s m args c cX1_dreamers 3 RX1 D cA true keysC h) (hret : rtI p l e rm_X1_dreamers s m args below meth c cX1_dreamers Z D (wC h cA) (aK keysC h s.heap.size) Q) (hj0 : j0 < 5) : ∀ (n : Nat) (x1 : Int32) (x2 : Int32) (S : sT) (H : Heap) (locs : List Loc) (ls : Array Slot), va_P D vwCl (wC h cA S) H → va_S (aK keysC h s.heap.size) s.heap H locs → wl_X1_dreamers_4 j0 Q n x1 x2 S → lv_has ls 3 [(0, .ref (h (1003 + j0))), (1, .int x1), (2, .int x2)] → W p l e rm_X1_dreamers s m args below meth c H locs 0 0 Z (F0 m 4 ls []) := by
  intro n
  induction n with
  | zero => intro x1 x2 S H locs ls hP hS hd hl; exact (show False from hd).elim
  | succ n ih => intro x1 x2 S H locs ls hP hS hd hl; exact bk_X1_dreamers_4 C0 hret hj0 (fun x1 x2 S H locs ls hd hP hS hl => ih x1 x2 S H locs ls hP hS hd hl) hP hS hd hl
def wp_X1_dreamers (j0 : Nat) (S : sT) (Q : Int32 → sT → Prop) : Prop :=
  ∃ n : Nat, wl_X1_dreamers_4 j0 Q n (0 : Int32) (0 : Int32) S
set_option maxHeartbeats 4000000 in
set_option maxRecDepth 100000 in
theorem bk_X1_dreamers {p : Program} {l : Launch} {e : Env} {s : State} {m : MethodId} {args : Array Value} {below : List Frame} {meth : Method} {c : Code} {Z : State → Prop} {D : va_G} {cA : Nat → ClassId} {h : Nat → Nat} {Q : Int32 → sT → Prop} {j0 : Nat} (C0 : cx p s m args c cX1_dreamers 3 RX1 D cA true keysC h) (hret : rtI p l e rm_X1_dreamers s m args below meth c cX1_dreamers Z D (wC h cA) (aK keysC h s.heap.size) Q) (hj0 : j0 < 5) {S : sT} {H : Heap} {locs : List Loc} {ls : Array Slot} (hP : va_P D vwCl (wC h cA S) H) (hS : va_S (aK keysC h s.heap.size) s.heap H locs) (hd : wp_X1_dreamers j0 S Q) (hl : lv_has ls 3 [(0, .ref (h (1003 + j0)))]) : W p l e rm_X1_dreamers s m args below meth c H locs 0 0 Z (F0 m 0 ls []) := by
  obtain ⟨⟨hx, hb, hml, hown, hts⟩, hK, -, -⟩ := id C0
  unfold wp_X1_dreamers at hd
  refine lv_iconst (v := 0) hx hb dX1_dreamers_0 (by decide) ?_
  refine lv_istore_n (lv' := [(1, .int (0 : Int32)), (0, .ref (h (1003 + j0)))]) hx hb dX1_dreamers_1 rfl hl (by decide) rfl (fun ls hl => ?_)
  refine lv_iconst (v := 0) hx hb dX1_dreamers_2 (by decide) ?_
  refine lv_istore_n (lv' := [(2, .int (0 : Int32)), (1, .int (0 : Int32)), (0, .ref (h (1003 + j0)))]) hx hb dX1_dreamers_3 rfl hl (by decide) rfl (fun ls hl => ?_)
  obtain ⟨n_1, hd⟩ := hd
  exact bl_X1_dreamers_4 C0 hret hj0 _ _ _ _ _ _ _ hP hS hd (lv_sub hl [2, 1, 0] rfl)
theorem c_X1_dreamers (l : Launch) {D : va_G} {cA : Nat → ClassId} {h : Nat → Nat} (hk : ky keysC h) {j0 : Nat} (hj0 : j0 < 5) {S : sT} (sz : Nat) {Q : Int32 → sT → Prop} (hd : wp_X1_dreamers j0 S Q) : Met l yX1_dreamers (wsU yX1_dreamers cX1_dreamers 3 (some .int)) rm_X1_dreamers (va_Pc [.ref (h (1003 + j0))] (gP D cA true keysC h (wC h cA) S sz)) (va_Qi Q (wB D (wC h cA)) (aK keysC h sz)) 0 0 (aK keysC h sz) :=
  mk_i (by decide) hk (Nat.le_of_ble_eq_true rfl) (fun p e s m below meth c Z ls C0 hret hP hS hl => bk_X1_dreamers C0 hret hj0 hP hS hd hl)
abbrev rm_X1_isStanding : Room := { frames := 2, cells := 0, slots := 0, locals := 47 }
def wb_X1_isStanding_54 (j0 : Nat) (Q : Int32 → sT → Prop) (K19 : Int32 → Int32 → sT → Prop) (x2 : Int32) (y0 : Int32) (y1 : Int32) (S : sT) : Prop :=
  K19 (y0 ||| y1) (x2 + (1 : Int32)) S
set_option maxHeartbeats 4000000 in
set_option maxRecDepth 100000 in
theorem bk_X1_isStanding_54 {p : Program} {l : Launch} {e : Env} {s : State} {m : MethodId} {args : Array Value} {below : List Frame} {meth : Method} {c : Code} {Z : State → Prop} {D : va_G} {cA : Nat → ClassId} {h : Nat → Nat} {Q : Int32 → sT → Prop} {j0 : Nat} (C0 : cx p s m args c cX1_isStanding 3 RX1 D cA true keysC h) (hret : rtZ p l e rm_X1_isStanding s m args below meth c cX1_isStanding Z D (wC h cA) (aK keysC h s.heap.size) Q) (hj0 : j0 < 5) {K19 : Int32 → Int32 → sT → Prop} (k19 : ∀ (x1 : Int32) (x2 : Int32) (S : sT) (H : Heap) (locs : List Loc) (ls : Array Slot), K19 x1 x2 S → va_P D vwCl (wC h cA S) H → va_S (aK keysC h s.heap.size) s.heap H locs → lv_has ls 3 [(0, .ref (h (1003 + j0))), (1, .int x1), (2, .int x2)] → W p l e rm_X1_isStanding s m args below meth c H locs 0 0 Z (F0 m 19 ls [])) {x2 : Int32} {y0 : Int32} {y1 : Int32} {S : sT} {H : Heap} {locs : List Loc} {ls : Array Slot} (hP : va_P D vwCl (wC h cA S) H) (hS : va_S (aK keysC h s.heap.size) s.heap H locs) (hd : wb_X1_isStanding_54 j0 Q K19 x2 y0 y1 S) (hl : lv_has ls 3 [(0, .ref (h (1003 + j0))), (2, .int x2)]) : W p l e rm_X1_isStanding s m args below meth c H locs 0 0 Z (F0 m 54 ls [.int y1, .int y0]) := by
  obtain ⟨⟨hx, hb, hml, hown, hts⟩, hK, -, -⟩ := id C0
  unfold wb_X1_isStanding_54 at hd
  refine lv_ior hx hb dX1_isStanding_54 ?_
  refine lv_istore_n (lv' := [(1, .int (y0 ||| y1)), (0, .ref (h (1003 + j0))), (2, .int x2)]) hx hb dX1_isStanding_55 rfl hl (by decide) rfl (fun ls hl => ?_)
  refine lv_iinc (v := x2 + (1 : Int32)) (lv' := [(2, .int (x2 + (1 : Int32))), (1, .int (y0 ||| y1)), (0, .ref (h (1003 + j0)))]) hx hb dX1_isStanding_56 hl (k := 2) rfl rfl (by decide) rfl (fun ls hl => ?_)
  refine lv_goto (tgt := 19) hx hb dX1_isStanding_59 (by decide) ?_
  exact k19 _ _ _ _ _ _ hd hP hS (lv_sub hl [2, 1, 0] rfl)
def wb_X1_isStanding_53 (j0 : Nat) (Q : Int32 → sT → Prop) (K19 : Int32 → Int32 → sT → Prop) (x2 : Int32) (y0 : Int32) (S : sT) : Prop :=
  wb_X1_isStanding_54 j0 Q K19 x2 y0 (0 : Int32) S
set_option maxHeartbeats 4000000 in
set_option maxRecDepth 100000 in
theorem bk_X1_isStanding_53 {p : Program} {l : Launch} {e : Env} {s : State} {m : MethodId} {args : Array Value} {below : List Frame} {meth : Method} {c : Code} {Z : State → Prop} {D : va_G} {cA : Nat → ClassId} {h : Nat → Nat} {Q : Int32 → sT → Prop} {j0 : Nat} (C0 : cx p s m args c cX1_isStanding 3 RX1 D cA true keysC h) (hret : rtZ p l e rm_X1_isStanding s m args below meth c cX1_isStanding Z D (wC h cA) (aK keysC h s.heap.size) Q) (hj0 : j0 < 5) {K19 : Int32 → Int32 → sT → Prop} (k19 : ∀ (x1 : Int32) (x2 : Int32) (S : sT) (H : Heap) (locs : List Loc) (ls : Array Slot), K19 x1 x2 S → va_P D vwCl (wC h cA S) H → va_S (aK keysC h s.heap.size) s.heap H locs → lv_has ls 3 [(0, .ref (h (1003 + j0))), (1, .int x1), (2, .int x2)] → W p l e rm_X1_isStanding s m args below meth c H locs 0 0 Z (F0 m 19 ls [])) {x2 : Int32} {y0 : Int32} {S : sT} {H : Heap} {locs : List Loc} {ls : Array Slot} (hP : va_P D vwCl (wC h cA S) H) (hS : va_S (aK keysC h s.heap.size) s.heap H locs) (hd : wb_X1_isStanding_53 j0 Q K19 x2 y0 S) (hl : lv_has ls 3 [(0, .ref (h (1003 + j0))), (2, .int x2)]) : W p l e rm_X1_isStanding s m args below meth c H locs 0 0 Z (F0 m 53 ls [.int y0]) := by
  obtain ⟨⟨hx, hb, hml, hown, hts⟩, hK, -, -⟩ := id C0
  unfold wb_X1_isStanding_53 at hd
  refine lv_iconst (v := 0) hx hb dX1_isStanding_53 (by decide) ?_
  exact bk_X1_isStanding_54 C0 hret hj0 k19 hP hS hd (lv_sub hl [0, 1] rfl)
def wb_X1_isStanding_19 (j0 : Nat) (Q : Int32 → sT → Prop) (K19 : Int32 → Int32 → sT → Prop) (x1 : Int32) (x2 : Int32) (S : sT) : Prop :=
  (((vI S (20 + 13 * j0 + 6)) ≤ x2 → bo x1 ∧ Q x1 S) ∧ (¬ (vI S (20 + 13 * j0 + 6)) ≤ x2 → (vp_in x2 6) ∧ ((¬ (vA S (20 + 13 * j0 + 1) x2.toNatClampNeg) = (vI S (20 + 13 * j0 + 11)) → wb_X1_isStanding_53 j0 Q K19 x2 x1 S) ∧ ((vA S (20 + 13 * j0 + 1) x2.toNatClampNeg) = (vI S (20 + 13 * j0 + 11)) → wp_X1_isDreaming j0 x2 S (fun r_2 S_2 => ((r_2 = 0 → wb_X1_isStanding_53 j0 Q K19 x2 x1 S_2) ∧ (¬ r_2 = 0 → wb_X1_isStanding_54 j0 Q K19 x2 x1 (1 : Int32) S_2)))))))
set_option maxHeartbeats 4000000 in
set_option maxRecDepth 100000 in
theorem bk_X1_isStanding_19 {p : Program} {l : Launch} {e : Env} {s : State} {m : MethodId} {args : Array Value} {below : List Frame} {meth : Method} {c : Code} {Z : State → Prop} {D : va_G} {cA : Nat → ClassId} {h : Nat → Nat} {Q : Int32 → sT → Prop} {j0 : Nat} (C0 : cx p s m args c cX1_isStanding 3 RX1 D cA true keysC h) (hret : rtZ p l e rm_X1_isStanding s m args below meth c cX1_isStanding Z D (wC h cA) (aK keysC h s.heap.size) Q) (hj0 : j0 < 5) {K19 : Int32 → Int32 → sT → Prop} (k19 : ∀ (x1 : Int32) (x2 : Int32) (S : sT) (H : Heap) (locs : List Loc) (ls : Array Slot), K19 x1 x2 S → va_P D vwCl (wC h cA S) H → va_S (aK keysC h s.heap.size) s.heap H locs → lv_has ls 3 [(0, .ref (h (1003 + j0))), (1, .int x1), (2, .int x2)] → W p l e rm_X1_isStanding s m args below meth c H locs 0 0 Z (F0 m 19 ls [])) {x1 : Int32} {x2 : Int32} {S : sT} {H : Heap} {locs : List Loc} {ls : Array Slot} (hP : va_P D vwCl (wC h cA S) H) (hS : va_S (aK keysC h s.heap.size) s.heap H locs) (hd : wb_X1_isStanding_19 j0 Q K19 x1 x2 S) (hl : lv_has ls 3 [(0, .ref (h (1003 + j0))), (1, .int x1), (2, .int x2)]) : W p l e rm_X1_isStanding s m args below meth c H locs 0 0 Z (F0 m 19 ls []) := by
  obtain ⟨⟨hx, hb, hml, hown, hts⟩, hK, -, -⟩ := id C0
  unfold wb_X1_isStanding_19 at hd
  refine lv_iload_n hx hb dX1_isStanding_19 rfl (lv_at hl 2 rfl) ?_
  refine lv_aload_n hx hb dX1_isStanding_20 rfl (lv_at hl 0 rfl) ?_
  refine gf_X1_30_v j0 hj0 C0 hP dX1_isStanding_21 ?_
  refine lv_icmp_ge (tgt := 62) hx hb dX1_isStanding_24 (by decide) (fun hc => ?_) (fun hc => ?_)
  · have hd := hd.1 hc
    refine lv_iload_n hx hb dX1_isStanding_62 rfl (lv_at hl 1 rfl) ?_
    exact hret _ _ _ _ _ _ hd.1 hd.2 hP hS dX1_isStanding_63
  · have hd := hd.2 hc
    refine lv_iload_n hx hb dX1_isStanding_27 rfl (lv_at hl 1 rfl) ?_
    refine lv_aload_n hx hb dX1_isStanding_28 rfl (lv_at hl 0 rfl) ?_
    refine gf_X1_15_v j0 hj0 C0 hP dX1_isStanding_29 ?_
    refine lv_iload_n hx hb dX1_isStanding_32 rfl (lv_at hl 2 rfl) ?_
    obtain ⟨h_1, hd⟩ := hd
    refine ldC (kLine _ hj0 1 (by decide)) C0 hP (by rw [lLineA _ hj0 1 (by decide)]; exact h_1) dX1_isStanding_33 ?_
    refine lv_aload_n hx hb dX1_isStanding_34 rfl (lv_at hl 0 rfl) ?_
    refine gf_X1_46_v j0 hj0 C0 hP dX1_isStanding_35 ?_
    refine lv_icmp_ne (tgt := 53) hx hb dX1_isStanding_38 (by decide) (fun hc => ?_) (fun hc => ?_)
    · have hd := hd.1 hc
      exact bk_X1_isStanding_53 C0 hret hj0 k19 hP hS hd (lv_sub hl [0, 2] rfl)
    · have hd := hd.2 hc
      refine lv_aload_n hx hb dX1_isStanding_41 rfl (lv_at hl 0 rfl) ?_
      refine lv_iload_n hx hb dX1_isStanding_42 rfl (lv_at hl 2 rfl) ?_
      refine cl_Vi (n := 1) (rest := [.int x1]) C0 hP hS (c_X1_isDreaming l C0.2.2.1 hj0 _ hd) (lwG_V lm_X1_66 li_X1_isDreaming lx_X1_isDreaming lz_RX1 lc_X1_isDreaming) (by decide +kernel) (oL_at h cA _ j0 hj0) rfl rfl rfl (Nat.le_of_ble_eq_true rfl) ⟨rfl, rfl⟩ ⟨by decide, by decide⟩ dX1_isStanding_43 hl.1 ⟨Nat.zero_le _, Nat.zero_le _⟩ (fun r_2 S_2 H locs hd hP hS => ?_)
      refine lv_if_eq (tgt := 53) hx hb dX1_isStanding_46 (by decide) (fun hc => ?_) (fun hc => ?_)
      · have hd := hd.1 hc
        exact bk_X1_isStanding_53 C0 hret hj0 k19 hP hS hd (lv_sub hl [0, 2] rfl)
      · have hd := hd.2 hc
        refine lv_iconst (v := 1) hx hb dX1_isStanding_49 (by decide) ?_
        refine lv_goto (tgt := 54) hx hb dX1_isStanding_50 (by decide) ?_
        exact bk_X1_isStanding_54 C0 hret hj0 k19 hP hS hd (lv_sub hl [0, 2] rfl)
def wl_X1_isStanding_19 (j0 : Nat) (Q : Int32 → sT → Prop) : Nat → Int32 → Int32 → sT → Prop
  | 0, _, _ => fun _ => False
  | n + 1, x1, x2 => fun S => wb_X1_isStanding_19 j0 Q (fun x1 x2 S => wl_X1_isStanding_19 j0 Q n x1 x2 S) x1 x2 S
theorem bl_X1_isStanding_19 {p : Program} {l : Launch} {e : Env} {s : State} {m : MethodId} {args : Array Value} {below : List Frame} {meth : Method} {c : Code} {Z : State → Prop} {D : va_G} {cA : Nat → ClassId} {h : Nat → Nat} {Q : Int32 → sT → Prop} {j0 : Nat} (C0 : cx p s m args c cX1_isStanding 3 RX1 D cA true keysC h) (hret : rtZ p l e rm_X1_isStanding s m args below meth c cX1_isStanding Z D (wC h cA) (aK keysC h s.heap.size) Q) (hj0 : j0 < 5) : ∀ (n : Nat) (x1 : Int32) (x2 : Int32) (S : sT) (H : Heap) (locs : List Loc) (ls : Array Slot), va_P D vwCl (wC h cA S) H → va_S (aK keysC h s.heap.size) s.heap H locs → wl_X1_isStanding_19 j0 Q n x1 x2 S → lv_has ls 3 [(0, .ref (h (1003 + j0))), (1, .int x1), (2, .int x2)] → W p l e rm_X1_isStanding s m args below meth c H locs 0 0 Z (F0 m 19 ls []) := by
  intro n
  induction n with
  | zero => intro x1 x2 S H locs ls hP hS hd hl; exact (show False from hd).elim
  | succ n ih => intro x1 x2 S H locs ls hP hS hd hl; exact bk_X1_isStanding_19 C0 hret hj0 (fun x1 x2 S H locs ls hd hP hS hl => ih x1 x2 S H locs ls hP hS hd hl) hP hS hd hl
def wb_X1_isStanding_16 (j0 : Nat) (Q : Int32 → sT → Prop) (y0 : Int32) (S : sT) : Prop :=
  ∃ n : Nat, wl_X1_isStanding_19 j0 Q n y0 (0 : Int32) S
set_option maxHeartbeats 4000000 in
set_option maxRecDepth 100000 in
theorem bk_X1_isStanding_16 {p : Program} {l : Launch} {e : Env} {s : State} {m : MethodId} {args : Array Value} {below : List Frame} {meth : Method} {c : Code} {Z : State → Prop} {D : va_G} {cA : Nat → ClassId} {h : Nat → Nat} {Q : Int32 → sT → Prop} {j0 : Nat} (C0 : cx p s m args c cX1_isStanding 3 RX1 D cA true keysC h) (hret : rtZ p l e rm_X1_isStanding s m args below meth c cX1_isStanding Z D (wC h cA) (aK keysC h s.heap.size) Q) (hj0 : j0 < 5) {y0 : Int32} {S : sT} {H : Heap} {locs : List Loc} {ls : Array Slot} (hP : va_P D vwCl (wC h cA S) H) (hS : va_S (aK keysC h s.heap.size) s.heap H locs) (hd : wb_X1_isStanding_16 j0 Q y0 S) (hl : lv_has ls 3 [(0, .ref (h (1003 + j0)))]) : W p l e rm_X1_isStanding s m args below meth c H locs 0 0 Z (F0 m 16 ls [.int y0]) := by
  obtain ⟨⟨hx, hb, hml, hown, hts⟩, hK, -, -⟩ := id C0
  unfold wb_X1_isStanding_16 at hd
  refine lv_istore_n (lv' := [(1, .int y0), (0, .ref (h (1003 + j0)))]) hx hb dX1_isStanding_16 rfl hl (by decide) rfl (fun ls hl => ?_)
  refine lv_iconst (v := 0) hx hb dX1_isStanding_17 (by decide) ?_
  refine lv_istore_n (lv' := [(2, .int (0 : Int32)), (1, .int y0), (0, .ref (h (1003 + j0)))]) hx hb dX1_isStanding_18 rfl hl (by decide) rfl (fun ls hl => ?_)
  obtain ⟨n_1, hd⟩ := hd
  exact bl_X1_isStanding_19 C0 hret hj0 _ _ _ _ _ _ _ hP hS hd (lv_sub hl [2, 1, 0] rfl)
def wp_X1_isStanding (j0 : Nat) (S : sT) (Q : Int32 → sT → Prop) : Prop :=
  (((vI S (20 + 13 * j0 + 11)) < (vI S (20 + 13 * j0 + 7)) → wb_X1_isStanding_16 j0 Q (0 : Int32) S) ∧ (¬ (vI S (20 + 13 * j0 + 11)) < (vI S (20 + 13 * j0 + 7)) → wb_X1_isStanding_16 j0 Q (1 : Int32) S))
set_option maxHeartbeats 4000000 in
set_option maxRecDepth 100000 in
theorem bk_X1_isStanding {p : Program} {l : Launch} {e : Env} {s : State} {m : MethodId} {args : Array Value} {below : List Frame} {meth : Method} {c : Code} {Z : State → Prop} {D : va_G} {cA : Nat → ClassId} {h : Nat → Nat} {Q : Int32 → sT → Prop} {j0 : Nat} (C0 : cx p s m args c cX1_isStanding 3 RX1 D cA true keysC h) (hret : rtZ p l e rm_X1_isStanding s m args below meth c cX1_isStanding Z D (wC h cA) (aK keysC h s.heap.size) Q) (hj0 : j0 < 5) {S : sT} {H : Heap} {locs : List Loc} {ls : Array Slot} (hP : va_P D vwCl (wC h cA S) H) (hS : va_S (aK keysC h s.heap.size) s.heap H locs) (hd : wp_X1_isStanding j0 S Q) (hl : lv_has ls 3 [(0, .ref (h (1003 + j0)))]) : W p l e rm_X1_isStanding s m args below meth c H locs 0 0 Z (F0 m 0 ls []) := by
  obtain ⟨⟨hx, hb, hml, hown, hts⟩, hK, -, -⟩ := id C0
  unfold wp_X1_isStanding at hd
  refine lv_aload_n hx hb dX1_isStanding_0 rfl (lv_at hl 0 rfl) ?_
  refine gf_X1_46_v j0 hj0 C0 hP dX1_isStanding_1 ?_
  refine lv_aload_n hx hb dX1_isStanding_4 rfl (lv_at hl 0 rfl) ?_
  refine gf_X1_34_v j0 hj0 C0 hP dX1_isStanding_5 ?_
  refine lv_icmp_lt (tgt := 15) hx hb dX1_isStanding_8 (by decide) (fun hc => ?_) (fun hc => ?_)
  · have hd := hd.1 hc
    refine lv_iconst (v := 0) hx hb dX1_isStanding_15 (by decide) ?_
    exact bk_X1_isStanding_16 C0 hret hj0 hP hS hd (lv_sub hl [0] rfl)
  · have hd := hd.2 hc
    refine lv_iconst (v := 1) hx hb dX1_isStanding_11 (by decide) ?_
    refine lv_goto (tgt := 16) hx hb dX1_isStanding_12 (by decide) ?_
    exact bk_X1_isStanding_16 C0 hret hj0 hP hS hd (lv_sub hl [0] rfl)
theorem c_X1_isStanding (l : Launch) {D : va_G} {cA : Nat → ClassId} {h : Nat → Nat} (hk : ky keysC h) {j0 : Nat} (hj0 : j0 < 5) {S : sT} (sz : Nat) {Q : Int32 → sT → Prop} (hd : wp_X1_isStanding j0 S Q) : Met l yX1_isStanding (wsU yX1_isStanding cX1_isStanding 3 (some .boolean)) rm_X1_isStanding (va_Pc [.ref (h (1003 + j0))] (gP D cA true keysC h (wC h cA) S sz)) (va_Qi Q (wB D (wC h cA)) (aK keysC h sz)) 0 0 (aK keysC h sz) :=
  mk_z (by decide) hk (Nat.le_of_ble_eq_true rfl) (fun p e s m below meth c Z ls C0 hret hP hS hl => bk_X1_isStanding C0 hret hj0 hP hS hd hl)
abbrev rm_X1_passMinute : Room := { frames := 3, cells := 0, slots := 0, locals := 69 }
def wb_X1_passMinute_44 (j0 : Nat) (Q : sT → Prop) (S : sT) : Prop :=
  Q (uI S (20 + 13 * j0 + 10) ((vI S (20 + 13 * j0 + 10)) + (1 : Int32)))
set_option maxHeartbeats 4000000 in
set_option maxRecDepth 100000 in
theorem bk_X1_passMinute_44 {p : Program} {l : Launch} {e : Env} {s : State} {m : MethodId} {args : Array Value} {below : List Frame} {meth : Method} {c : Code} {Z : State → Prop} {D : va_G} {cA : Nat → ClassId} {h : Nat → Nat} {Q : sT → Prop} {j0 : Nat} (C0 : cx p s m args c cX1_passMinute 1 RX1 D cA true keysC h) (hret : rtV p l e rm_X1_passMinute s m args below meth c cX1_passMinute Z D (wC h cA) (aK keysC h s.heap.size) Q) (hj0 : j0 < 5) {S : sT} {H : Heap} {locs : List Loc} {ls : Array Slot} (hP : va_P D vwCl (wC h cA S) H) (hS : va_S (aK keysC h s.heap.size) s.heap H locs) (hd : wb_X1_passMinute_44 j0 Q S) (hl : lv_has ls 1 [(0, .ref (h (1003 + j0)))]) : W p l e rm_X1_passMinute s m args below meth c H locs 0 0 Z (F0 m 44 ls []) := by
  obtain ⟨⟨hx, hb, hml, hown, hts⟩, hK, -, -⟩ := id C0
  unfold wb_X1_passMinute_44 at hd
  refine lv_aload_n hx hb dX1_passMinute_44 rfl (lv_at hl 0 rfl) ?_
  refine lv_dup hx hb dX1_passMinute_45 rfl ?_
  refine gf_X1_43_v j0 hj0 C0 hP dX1_passMinute_46 ?_
  refine lv_iconst (v := 1) hx hb dX1_passMinute_49 (by decide) ?_
  refine lv_iadd hx hb dX1_passMinute_50 ?_
  refine pf_X1_43_v j0 hj0 C0 hP hS dX1_passMinute_51 (fun H locs hP hS => ?_)
  exact hret _ _ _ _ _ hd hP hS dX1_passMinute_54
def wp_X1_passMinute (j0 : Nat) (S : sT) (Q : sT → Prop) : Prop :=
  (((vI S (20 + 13 * j0 + 10)) < (99 : Int32) → wp_X1_noteDeed j0 (0 : Int32) (0 : Int32) (vI S (20 + 13 * j0 + 11)) S (fun S_1 => wp_X1_isStanding j0 S_1 (fun r_2 S_2 => ((¬ r_2 = 0 → wb_X1_passMinute_44 j0 Q S_2) ∧ (r_2 = 0 → wb_X1_passMinute_44 j0 Q (uI S_2 (20 + 13 * j0 + 11) ((vI S_2 (20 + 13 * j0 + 11)) + (1 : Int32)))))))) ∧ (¬ (vI S (20 + 13 * j0 + 10)) < (99 : Int32) → wp_X1_noteDeed j0 (3 : Int32) (0 : Int32) (0 : Int32) S (fun S_3 => Q S_3)))
set_option maxHeartbeats 4000000 in
set_option maxRecDepth 100000 in
theorem bk_X1_passMinute {p : Program} {l : Launch} {e : Env} {s : State} {m : MethodId} {args : Array Value} {below : List Frame} {meth : Method} {c : Code} {Z : State → Prop} {D : va_G} {cA : Nat → ClassId} {h : Nat → Nat} {Q : sT → Prop} {j0 : Nat} (C0 : cx p s m args c cX1_passMinute 1 RX1 D cA true keysC h) (hret : rtV p l e rm_X1_passMinute s m args below meth c cX1_passMinute Z D (wC h cA) (aK keysC h s.heap.size) Q) (hj0 : j0 < 5) {S : sT} {H : Heap} {locs : List Loc} {ls : Array Slot} (hP : va_P D vwCl (wC h cA S) H) (hS : va_S (aK keysC h s.heap.size) s.heap H locs) (hd : wp_X1_passMinute j0 S Q) (hl : lv_has ls 1 [(0, .ref (h (1003 + j0)))]) : W p l e rm_X1_passMinute s m args below meth c H locs 0 0 Z (F0 m 0 ls []) := by
  obtain ⟨⟨hx, hb, hml, hown, hts⟩, hK, -, -⟩ := id C0
  unfold wp_X1_passMinute at hd
  refine lv_aload_n hx hb dX1_passMinute_0 rfl (lv_at hl 0 rfl) ?_
  refine gf_X1_43_v j0 hj0 C0 hP dX1_passMinute_1 ?_
  refine lv_bipush (v := 99) hx hb dX1_passMinute_4 (by decide) ?_
  refine lv_icmp_lt (tgt := 17) hx hb dX1_passMinute_6 (by decide) (fun hc => ?_) (fun hc => ?_)
  · have hd := hd.1 hc
    refine lv_aload_n hx hb dX1_passMinute_17 rfl (lv_at hl 0 rfl) ?_
    refine lv_iconst (v := 0) hx hb dX1_passMinute_18 (by decide) ?_
    refine lv_iconst (v := 0) hx hb dX1_passMinute_19 (by decide) ?_
    refine lv_aload_n hx hb dX1_passMinute_20 rfl (lv_at hl 0 rfl) ?_
    refine gf_X1_46_v j0 hj0 C0 hP dX1_passMinute_21 ?_
    refine cl_Vv (n := 3) (rest := []) C0 hP hS (c_X1_noteDeed l C0.2.2.1 hj0 _ hd) (lwG_V lm_X1_76 li_X1_noteDeed lx_X1_noteDeed lz_RX1 lc_X1_noteDeed) (by decide +kernel) (oL_at h cA _ j0 hj0) rfl rfl rfl (Nat.le_of_ble_eq_true rfl) ⟨rfl, rfl⟩ ⟨by decide, by decide⟩ dX1_passMinute_24 hl.1 ⟨Nat.zero_le _, Nat.zero_le _⟩ (fun S_1 H locs hd hP hS => ?_)
    refine lv_aload_n hx hb dX1_passMinute_27 rfl (lv_at hl 0 rfl) ?_
    refine cl_Vi (n := 0) (rest := []) C0 hP hS (c_X1_isStanding l C0.2.2.1 hj0 _ hd) (lwG_V lm_X1_80 li_X1_isStanding lx_X1_isStanding lz_RX1 lc_X1_isStanding) (by decide +kernel) (oL_at h cA _ j0 hj0) rfl rfl rfl (Nat.le_of_ble_eq_true rfl) ⟨rfl, rfl⟩ ⟨by decide, by decide⟩ dX1_passMinute_28 hl.1 ⟨Nat.zero_le _, Nat.zero_le _⟩ (fun r_2 S_2 H locs hd hP hS => ?_)
    refine lv_if_ne (tgt := 44) hx hb dX1_passMinute_31 (by decide) (fun hc => ?_) (fun hc => ?_)
    · have hd := hd.1 hc
      exact bk_X1_passMinute_44 C0 hret hj0 hP hS hd (lv_sub hl [0] rfl)
    · have hd := hd.2 hc
      refine lv_aload_n hx hb dX1_passMinute_34 rfl (lv_at hl 0 rfl) ?_
      refine lv_dup hx hb dX1_passMinute_35 rfl ?_
      refine gf_X1_46_v j0 hj0 C0 hP dX1_passMinute_36 ?_
      refine lv_iconst (v := 1) hx hb dX1_passMinute_39 (by decide) ?_
      refine lv_iadd hx hb dX1_passMinute_40 ?_
      refine pf_X1_46_v j0 hj0 C0 hP hS dX1_passMinute_41 (fun H locs hP hS => ?_)
      exact bk_X1_passMinute_44 C0 hret hj0 hP hS hd (lv_sub hl [0] rfl)
  · have hd := hd.2 hc
    refine lv_aload_n hx hb dX1_passMinute_9 rfl (lv_at hl 0 rfl) ?_
    refine lv_iconst (v := 3) hx hb dX1_passMinute_10 (by decide) ?_
    refine lv_iconst (v := 0) hx hb dX1_passMinute_11 (by decide) ?_
    refine lv_iconst (v := 0) hx hb dX1_passMinute_12 (by decide) ?_
    refine cl_Vv (n := 3) (rest := []) C0 hP hS (c_X1_noteDeed l C0.2.2.1 hj0 _ hd) (lwG_V lm_X1_76 li_X1_noteDeed lx_X1_noteDeed lz_RX1 lc_X1_noteDeed) (by decide +kernel) (oL_at h cA _ j0 hj0) rfl rfl rfl (Nat.le_of_ble_eq_true rfl) ⟨rfl, rfl⟩ ⟨by decide, by decide⟩ dX1_passMinute_13 hl.1 ⟨Nat.zero_le _, Nat.zero_le _⟩ (fun S_3 H locs hd hP hS => ?_)
    exact hret _ _ _ _ _ hd hP hS dX1_passMinute_16
theorem c_X1_passMinute (l : Launch) {D : va_G} {cA : Nat → ClassId} {h : Nat → Nat} (hk : ky keysC h) {j0 : Nat} (hj0 : j0 < 5) {S : sT} (sz : Nat) {Q : sT → Prop} (hd : wp_X1_passMinute j0 S Q) : Met l yX1_passMinute (wsU yX1_passMinute cX1_passMinute 1 none) rm_X1_passMinute (va_Pc [.ref (h (1003 + j0))] (gP D cA true keysC h (wC h cA) S sz)) (va_Qv Q (wB D (wC h cA)) (aK keysC h sz)) 0 0 (aK keysC h sz) :=
  mk_v (by decide) hk (Nat.le_of_ble_eq_true rfl) (fun p e s m below meth c Z ls C0 hret hP hS hl => bk_X1_passMinute C0 hret hj0 hP hS hd hl)
abbrev rm_X1_setCount : Room := { frames := 0, cells := 0, slots := 0, locals := 0 }
def wp_X1_setCount (j0 : Nat) (S : sT) (Q : Int32 → sT → Prop) : Prop :=
  Q ((1 : Int32) <<< ((vI S (20 + 13 * j0 + 6)) &&& 31)) S
set_option maxHeartbeats 4000000 in
set_option maxRecDepth 100000 in
theorem bk_X1_setCount {p : Program} {l : Launch} {e : Env} {s : State} {m : MethodId} {args : Array Value} {below : List Frame} {meth : Method} {c : Code} {Z : State → Prop} {D : va_G} {cA : Nat → ClassId} {h : Nat → Nat} {Q : Int32 → sT → Prop} {j0 : Nat} (C0 : cx p s m args c cX1_setCount 1 RX1 D cA true keysC h) (hret : rtI p l e rm_X1_setCount s m args below meth c cX1_setCount Z D (wC h cA) (aK keysC h s.heap.size) Q) (hj0 : j0 < 5) {S : sT} {H : Heap} {locs : List Loc} {ls : Array Slot} (hP : va_P D vwCl (wC h cA S) H) (hS : va_S (aK keysC h s.heap.size) s.heap H locs) (hd : wp_X1_setCount j0 S Q) (hl : lv_has ls 1 [(0, .ref (h (1003 + j0)))]) : W p l e rm_X1_setCount s m args below meth c H locs 0 0 Z (F0 m 0 ls []) := by
  obtain ⟨⟨hx, hb, hml, hown, hts⟩, hK, -, -⟩ := id C0
  unfold wp_X1_setCount at hd
  refine lv_iconst (v := 1) hx hb dX1_setCount_0 (by decide) ?_
  refine lv_aload_n hx hb dX1_setCount_1 rfl (lv_at hl 0 rfl) ?_
  refine gf_X1_30_v j0 hj0 C0 hP dX1_setCount_2 ?_
  refine lv_ishl hx hb dX1_setCount_5 ?_
  exact hret _ _ _ _ _ _ hd hP hS dX1_setCount_6
theorem c_X1_setCount (l : Launch) {D : va_G} {cA : Nat → ClassId} {h : Nat → Nat} (hk : ky keysC h) {j0 : Nat} (hj0 : j0 < 5) {S : sT} (sz : Nat) {Q : Int32 → sT → Prop} (hd : wp_X1_setCount j0 S Q) : Met l yX1_setCount (wsU yX1_setCount cX1_setCount 1 (some .int)) rm_X1_setCount (va_Pc [.ref (h (1003 + j0))] (gP D cA true keysC h (wC h cA) S sz)) (va_Qi Q (wB D (wC h cA)) (aK keysC h sz)) 0 0 (aK keysC h sz) :=
  mk_i (by decide) hk (Nat.le_of_ble_eq_true rfl) (fun p e s m below meth c Z ls C0 hret hP hS hl => bk_X1_setCount C0 hret hj0 hP hS hd hl)
abbrev rm_X1_takeBackLatest : Room := { frames := 0, cells := 0, slots := 0, locals := 0 }
def wp_X1_takeBackLatest (j0 : Nat) (S : sT) (Q : sT → Prop) : Prop :=
  ((0 < (vI S (20 + 13 * j0 + 12)) → (vp_in (vI (uI S (20 + 13 * j0 + 12) ((vI S (20 + 13 * j0 + 12)) - (1 : Int32))) (20 + 13 * j0 + 12)) 40) ∧ ∀ z_2 : Int32, z_2 = (vA (uI S (20 + 13 * j0 + 12) ((vI S (20 + 13 * j0 + 12)) - (1 : Int32))) (20 + 13 * j0 + 5) (vI (uI S (20 + 13 * j0 + 12) ((vI S (20 + 13 * j0 + 12)) - (1 : Int32))) (20 + 13 * j0 + 12)).toNatClampNeg) → (vp_in (vI (uI S (20 + 13 * j0 + 12) ((vI S (20 + 13 * j0 + 12)) - (1 : Int32))) (20 + 13 * j0 + 12)) 40) ∧ (((vA (uI S (20 + 13 * j0 + 12) ((vI S (20 + 13 * j0 + 12)) - (1 : Int32))) (20 + 13 * j0 + 3) (vI (uI S (20 + 13 * j0 + 12) ((vI S (20 + 13 * j0 + 12)) - (1 : Int32))) (20 + 13 * j0 + 12)).toNatClampNeg) = (0 : Int32) → ∀ S_4 : sT, S_4 = uI (uI S (20 + 13 * j0 + 12) ((vI S (20 + 13 * j0 + 12)) - (1 : Int32))) (20 + 13 * j0 + 10) ((vI (uI S (20 + 13 * j0 + 12) ((vI S (20 + 13 * j0 + 12)) - (1 : Int32))) (20 + 13 * j0 + 10)) - (1 : Int32)) → Q (uI S_4 (20 + 13 * j0 + 11) z_2)) ∧ ((vA (uI S (20 + 13 * j0 + 12) ((vI S (20 + 13 * j0 + 12)) - (1 : Int32))) (20 + 13 * j0 + 3) (vI (uI S (20 + 13 * j0 + 12) ((vI S (20 + 13 * j0 + 12)) - (1 : Int32))) (20 + 13 * j0 + 12)).toNatClampNeg) = (1 : Int32) → (vp_in (vI (uI S (20 + 13 * j0 + 12) ((vI S (20 + 13 * j0 + 12)) - (1 : Int32))) (20 + 13 * j0 + 12)) 40) ∧ (vp_in (vA (uI S (20 + 13 * j0 + 12) ((vI S (20 + 13 * j0 + 12)) - (1 : Int32))) (20 + 13 * j0 + 4) (vI (uI S (20 + 13 * j0 + 12) ((vI S (20 + 13 * j0 + 12)) - (1 : Int32))) (20 + 13 * j0 + 12)).toNatClampNeg) 6) ∧ ∀ S_8 : sT, S_8 = uA (uI S (20 + 13 * j0 + 12) ((vI S (20 + 13 * j0 + 12)) - (1 : Int32))) (20 + 13 * j0 + 2) (upd (vA (uI S (20 + 13 * j0 + 12) ((vI S (20 + 13 * j0 + 12)) - (1 : Int32))) (20 + 13 * j0 + 2)) (vA (uI S (20 + 13 * j0 + 12) ((vI S (20 + 13 * j0 + 12)) - (1 : Int32))) (20 + 13 * j0 + 4) (vI (uI S (20 + 13 * j0 + 12) ((vI S (20 + 13 * j0 + 12)) - (1 : Int32))) (20 + 13 * j0 + 12)).toNatClampNeg).toNatClampNeg z_2) → Q S_8) ∧ ((vA (uI S (20 + 13 * j0 + 12) ((vI S (20 + 13 * j0 + 12)) - (1 : Int32))) (20 + 13 * j0 + 3) (vI (uI S (20 + 13 * j0 + 12) ((vI S (20 + 13 * j0 + 12)) - (1 : Int32))) (20 + 13 * j0 + 12)).toNatClampNeg) = (2 : Int32) → Q (uI (uI S (20 + 13 * j0 + 12) ((vI S (20 + 13 * j0 + 12)) - (1 : Int32))) (20 + 13 * j0 + 9) z_2)) ∧ (¬ (vA (uI S (20 + 13 * j0 + 12) ((vI S (20 + 13 * j0 + 12)) - (1 : Int32))) (20 + 13 * j0 + 3) (vI (uI S (20 + 13 * j0 + 12) ((vI S (20 + 13 * j0 + 12)) - (1 : Int32))) (20 + 13 * j0 + 12)).toNatClampNeg) = (0 : Int32) → ¬ (vA (uI S (20 + 13 * j0 + 12) ((vI S (20 + 13 * j0 + 12)) - (1 : Int32))) (20 + 13 * j0 + 3) (vI (uI S (20 + 13 * j0 + 12) ((vI S (20 + 13 * j0 + 12)) - (1 : Int32))) (20 + 13 * j0 + 12)).toNatClampNeg) = (1 : Int32) → ¬ (vA (uI S (20 + 13 * j0 + 12) ((vI S (20 + 13 * j0 + 12)) - (1 : Int32))) (20 + 13 * j0 + 3) (vI (uI S (20 + 13 * j0 + 12) ((vI S (20 + 13 * j0 + 12)) - (1 : Int32))) (20 + 13 * j0 + 12)).toNatClampNeg) = (2 : Int32) → Q (uI S (20 + 13 * j0 + 12) ((vI S (20 + 13 * j0 + 12)) - (1 : Int32)))))) ∧ (¬ 0 < (vI S (20 + 13 * j0 + 12)) → Q S))
set_option maxHeartbeats 4000000 in
set_option maxRecDepth 100000 in
theorem bk_X1_takeBackLatest {p : Program} {l : Launch} {e : Env} {s : State} {m : MethodId} {args : Array Value} {below : List Frame} {meth : Method} {c : Code} {Z : State → Prop} {D : va_G} {cA : Nat → ClassId} {h : Nat → Nat} {Q : sT → Prop} {j0 : Nat} (C0 : cx p s m args c cX1_takeBackLatest 2 RX1 D cA true keysC h) (hret : rtV p l e rm_X1_takeBackLatest s m args below meth c cX1_takeBackLatest Z D (wC h cA) (aK keysC h s.heap.size) Q) (hj0 : j0 < 5) {S : sT} {H : Heap} {locs : List Loc} {ls : Array Slot} (hP : va_P D vwCl (wC h cA S) H) (hS : va_S (aK keysC h s.heap.size) s.heap H locs) (hd : wp_X1_takeBackLatest j0 S Q) (hl : lv_has ls 2 [(0, .ref (h (1003 + j0)))]) : W p l e rm_X1_takeBackLatest s m args below meth c H locs 0 0 Z (F0 m 0 ls []) := by
  obtain ⟨⟨hx, hb, hml, hown, hts⟩, hK, -, -⟩ := id C0
  unfold wp_X1_takeBackLatest at hd
  refine lv_aload_n hx hb dX1_takeBackLatest_0 rfl (lv_at hl 0 rfl) ?_
  refine gf_X1_49_v j0 hj0 C0 hP dX1_takeBackLatest_1 ?_
  refine lv_if_gt (tgt := 8) hx hb dX1_takeBackLatest_4 (by decide) (fun hc => ?_) (fun hc => ?_)
  · have hd := hd.1 hc
    refine lv_aload_n hx hb dX1_takeBackLatest_8 rfl (lv_at hl 0 rfl) ?_
    refine lv_dup hx hb dX1_takeBackLatest_9 rfl ?_
    refine gf_X1_49_v j0 hj0 C0 hP dX1_takeBackLatest_10 ?_
    refine lv_iconst (v := 1) hx hb dX1_takeBackLatest_13 (by decide) ?_
    refine lv_isub hx hb dX1_takeBackLatest_14 ?_
    refine pf_X1_49_v j0 hj0 C0 hP hS dX1_takeBackLatest_15 (fun H locs hP hS => ?_)
    refine lv_aload_n hx hb dX1_takeBackLatest_18 rfl (lv_at hl 0 rfl) ?_
    refine gf_X1_27_v j0 hj0 C0 hP dX1_takeBackLatest_19 ?_
    refine lv_aload_n hx hb dX1_takeBackLatest_22 rfl (lv_at hl 0 rfl) ?_
    refine gf_X1_49_v j0 hj0 C0 hP dX1_takeBackLatest_23 ?_
    obtain ⟨h_1, hd⟩ := hd
    refine ldC (kLine _ hj0 5 (by decide)) C0 hP (by rw [lLineB _ hj0 5 (by decide) (by decide)]; exact h_1) dX1_takeBackLatest_26 ?_
    refine lv_topi (fun z_2 ez_2 => ?_)
    have hd := hd z_2 ez_2
    refine lv_istore_n (lv' := [(1, .int z_2), (0, .ref (h (1003 + j0)))]) hx hb dX1_takeBackLatest_27 rfl hl (by decide) rfl (fun ls hl => ?_)
    refine lv_aload_n hx hb dX1_takeBackLatest_28 rfl (lv_at hl 1 rfl) ?_
    refine gf_X1_21_v j0 hj0 C0 hP dX1_takeBackLatest_29 ?_
    refine lv_aload_n hx hb dX1_takeBackLatest_32 rfl (lv_at hl 1 rfl) ?_
    refine gf_X1_49_v j0 hj0 C0 hP dX1_takeBackLatest_33 ?_
    obtain ⟨h_3, hd⟩ := hd
    refine ldC (kLine _ hj0 3 (by decide)) C0 hP (by rw [lLineB _ hj0 3 (by decide) (by decide)]; exact h_3) dX1_takeBackLatest_36 ?_
    by_cases hq5 : (vA (uI S (20 + 13 * j0 + 12) ((vI S (20 + 13 * j0 + 12)) - (1 : Int32))) (20 + 13 * j0 + 3) (vI (uI S (20 + 13 * j0 + 12) ((vI S (20 + 13 * j0 + 12)) - (1 : Int32))) (20 + 13 * j0 + 12)).toNatClampNeg) = (0 : Int32)
    · have hd := hd.1 hq5
      refine lv_tableIn (off := 27) (tgt := 64) hx hb dX1_takeBackLatest_37 (by rw [hq5]; decide) (by rw [hq5]; decide) (by rw [hq5]; decide) (by decide) ?_
      refine lv_aload_n hx hb dX1_takeBackLatest_64 rfl (lv_at hl 1 rfl) ?_
      refine lv_dup hx hb dX1_takeBackLatest_65 rfl ?_
      refine gf_X1_43_v j0 hj0 C0 hP dX1_takeBackLatest_66 ?_
      refine lv_iconst (v := 1) hx hb dX1_takeBackLatest_69 (by decide) ?_
      refine lv_isub hx hb dX1_takeBackLatest_70 ?_
      refine pf_X1_43_v j0 hj0 C0 hP hS dX1_takeBackLatest_71 (fun H locs hP hS => ?_)
      obtain ⟨S_4, eS_4⟩ : ∃ x : sT, x = uI (uI S (20 + 13 * j0 + 12) ((vI S (20 + 13 * j0 + 12)) - (1 : Int32))) (20 + 13 * j0 + 10) ((vI (uI S (20 + 13 * j0 + 12) ((vI S (20 + 13 * j0 + 12)) - (1 : Int32))) (20 + 13 * j0 + 10)) - (1 : Int32)) := ⟨_, rfl⟩
      rw [← eS_4] at hP
      have hd := hd S_4 eS_4
      refine lv_aload_n hx hb dX1_takeBackLatest_74 rfl (lv_at hl 1 rfl) ?_
      refine lv_iload_n hx hb dX1_takeBackLatest_75 rfl (lv_at hl 0 rfl) ?_
      refine pf_X1_46_v j0 hj0 C0 hP hS dX1_takeBackLatest_76 (fun H locs hP hS => ?_)
      refine lv_goto (tgt := 108) hx hb dX1_takeBackLatest_79 (by decide) ?_
      exact hret _ _ _ _ _ hd hP hS dX1_takeBackLatest_108
    by_cases hq9 : (vA (uI S (20 + 13 * j0 + 12) ((vI S (20 + 13 * j0 + 12)) - (1 : Int32))) (20 + 13 * j0 + 3) (vI (uI S (20 + 13 * j0 + 12) ((vI S (20 + 13 * j0 + 12)) - (1 : Int32))) (20 + 13 * j0 + 12)).toNatClampNeg) = (1 : Int32)
    · have hd := hd.2.1 hq9
      refine lv_tableIn (off := 45) (tgt := 82) hx hb dX1_takeBackLatest_37 (by rw [hq9]; decide) (by rw [hq9]; decide) (by rw [hq9]; decide) (by decide) ?_
      refine lv_aload_n hx hb dX1_takeBackLatest_82 rfl (lv_at hl 1 rfl) ?_
      refine gf_X1_18_v j0 hj0 C0 hP dX1_takeBackLatest_83 ?_
      refine lv_aload_n hx hb dX1_takeBackLatest_86 rfl (lv_at hl 1 rfl) ?_
      refine gf_X1_24_v j0 hj0 C0 hP dX1_takeBackLatest_87 ?_
      refine lv_aload_n hx hb dX1_takeBackLatest_90 rfl (lv_at hl 1 rfl) ?_
      refine gf_X1_49_v j0 hj0 C0 hP dX1_takeBackLatest_91 ?_
      obtain ⟨h_6, hd⟩ := hd
      refine ldC (kLine _ hj0 4 (by decide)) C0 hP (by rw [lLineB _ hj0 4 (by decide) (by decide)]; exact h_6) dX1_takeBackLatest_94 ?_
      refine lv_iload_n hx hb dX1_takeBackLatest_95 rfl (lv_at hl 0 rfl) ?_
      obtain ⟨h_7, hd⟩ := hd
      refine stC (kLine _ hj0 2 (by decide)) C0 hP hS (by rw [lLineA _ hj0 2 (by decide)]; exact h_7) dX1_takeBackLatest_96 (fun H locs hP hS => ?_)
      obtain ⟨S_8, eS_8⟩ : ∃ x : sT, x = uA (uI S (20 + 13 * j0 + 12) ((vI S (20 + 13 * j0 + 12)) - (1 : Int32))) (20 + 13 * j0 + 2) (upd (vA (uI S (20 + 13 * j0 + 12) ((vI S (20 + 13 * j0 + 12)) - (1 : Int32))) (20 + 13 * j0 + 2)) (vA (uI S (20 + 13 * j0 + 12) ((vI S (20 + 13 * j0 + 12)) - (1 : Int32))) (20 + 13 * j0 + 4) (vI (uI S (20 + 13 * j0 + 12) ((vI S (20 + 13 * j0 + 12)) - (1 : Int32))) (20 + 13 * j0 + 12)).toNatClampNeg).toNatClampNeg z_2) := ⟨_, rfl⟩
      rw [← eS_8] at hP
      have hd := hd S_8 eS_8
      refine lv_goto (tgt := 108) hx hb dX1_takeBackLatest_97 (by decide) ?_
      exact hret _ _ _ _ _ hd hP hS dX1_takeBackLatest_108
    by_cases hq10 : (vA (uI S (20 + 13 * j0 + 12) ((vI S (20 + 13 * j0 + 12)) - (1 : Int32))) (20 + 13 * j0 + 3) (vI (uI S (20 + 13 * j0 + 12) ((vI S (20 + 13 * j0 + 12)) - (1 : Int32))) (20 + 13 * j0 + 12)).toNatClampNeg) = (2 : Int32)
    · have hd := hd.2.2.1 hq10
      refine lv_tableIn (off := 63) (tgt := 100) hx hb dX1_takeBackLatest_37 (by rw [hq10]; decide) (by rw [hq10]; decide) (by rw [hq10]; decide) (by decide) ?_
      refine lv_aload_n hx hb dX1_takeBackLatest_100 rfl (lv_at hl 1 rfl) ?_
      refine lv_iload_n hx hb dX1_takeBackLatest_101 rfl (lv_at hl 0 rfl) ?_
      refine pf_X1_40_v j0 hj0 C0 hP hS dX1_takeBackLatest_102 (fun H locs hP hS => ?_)
      refine lv_goto (tgt := 108) hx hb dX1_takeBackLatest_105 (by decide) ?_
      exact hret _ _ _ _ _ hd hP hS dX1_takeBackLatest_108
    have hd := hd.2.2.2 hq5 hq9 hq10
    refine lv_tableOut (tgt := 108) hx hb dX1_takeBackLatest_37 (sw_out 0 2 (by decide) (by decide) (fun v h1 h2 => by rcases (show v = 0 ∨ v = 1 ∨ v = 2 by omega) with rfl | rfl | rfl <;> assumption)) (by decide) ?_
    exact hret _ _ _ _ _ hd hP hS dX1_takeBackLatest_108
  · have hd := hd.2 hc
    exact hret _ _ _ _ _ hd hP hS dX1_takeBackLatest_7
theorem c_X1_takeBackLatest (l : Launch) {D : va_G} {cA : Nat → ClassId} {h : Nat → Nat} (hk : ky keysC h) {j0 : Nat} (hj0 : j0 < 5) {S : sT} (sz : Nat) {Q : sT → Prop} (hd : wp_X1_takeBackLatest j0 S Q) : Met l yX1_takeBackLatest (wsU yX1_takeBackLatest cX1_takeBackLatest 2 none) rm_X1_takeBackLatest (va_Pc [.ref (h (1003 + j0))] (gP D cA true keysC h (wC h cA) S sz)) (va_Qv Q (wB D (wC h cA)) (aK keysC h sz)) 0 0 (aK keysC h sz) :=
  mk_v (by decide) hk (Nat.le_of_ble_eq_true rfl) (fun p e s m below meth c Z ls C0 hret hP hS hl => bk_X1_takeBackLatest C0 hret hj0 hP hS hd hl)
abbrev rm_X1_wakeOrLull : Room := { frames := 2, cells := 0, slots := 0, locals := 44 }
def wp_X1_wakeOrLull (j0 : Nat) (x1 : Int32) (S : sT) (Q : sT → Prop) : Prop :=
  wp_X1_noteDeed j0 (2 : Int32) x1 (vI S (20 + 13 * j0 + 9)) S (fun S_1 => Q (uI S_1 (20 + 13 * j0 + 9) ((vI S_1 (20 + 13 * j0 + 9)) ^^^ ((1 : Int32) <<< (x1 &&& 31)))))
set_option maxHeartbeats 4000000 in
set_option maxRecDepth 100000 in
theorem bk_X1_wakeOrLull {p : Program} {l : Launch} {e : Env} {s : State} {m : MethodId} {args : Array Value} {below : List Frame} {meth : Method} {c : Code} {Z : State → Prop} {D : va_G} {cA : Nat → ClassId} {h : Nat → Nat} {Q : sT → Prop} {j0 : Nat} (C0 : cx p s m args c cX1_wakeOrLull 2 RX1 D cA true keysC h) (hret : rtV p l e rm_X1_wakeOrLull s m args below meth c cX1_wakeOrLull Z D (wC h cA) (aK keysC h s.heap.size) Q) (hj0 : j0 < 5) {x1 : Int32} {S : sT} {H : Heap} {locs : List Loc} {ls : Array Slot} (hP : va_P D vwCl (wC h cA S) H) (hS : va_S (aK keysC h s.heap.size) s.heap H locs) (hd : wp_X1_wakeOrLull j0 x1 S Q) (hl : lv_has ls 2 [(0, .ref (h (1003 + j0))), (1, .int x1)]) : W p l e rm_X1_wakeOrLull s m args below meth c H locs 0 0 Z (F0 m 0 ls []) := by
  obtain ⟨⟨hx, hb, hml, hown, hts⟩, hK, -, -⟩ := id C0
  unfold wp_X1_wakeOrLull at hd
  refine lv_aload_n hx hb dX1_wakeOrLull_0 rfl (lv_at hl 0 rfl) ?_
  refine lv_iconst (v := 2) hx hb dX1_wakeOrLull_1 (by decide) ?_
  refine lv_iload_n hx hb dX1_wakeOrLull_2 rfl (lv_at hl 1 rfl) ?_
  refine lv_aload_n hx hb dX1_wakeOrLull_3 rfl (lv_at hl 0 rfl) ?_
  refine gf_X1_40_v j0 hj0 C0 hP dX1_wakeOrLull_4 ?_
  refine cl_Vv (n := 3) (rest := []) C0 hP hS (c_X1_noteDeed l C0.2.2.1 hj0 _ hd) (lwG_V lm_X1_76 li_X1_noteDeed lx_X1_noteDeed lz_RX1 lc_X1_noteDeed) (by decide +kernel) (oL_at h cA _ j0 hj0) rfl rfl rfl (Nat.le_of_ble_eq_true rfl) ⟨rfl, rfl⟩ ⟨by decide, by decide⟩ dX1_wakeOrLull_7 hl.1 ⟨Nat.zero_le _, Nat.zero_le _⟩ (fun S_1 H locs hd hP hS => ?_)
  refine lv_aload_n hx hb dX1_wakeOrLull_10 rfl (lv_at hl 0 rfl) ?_
  refine lv_dup hx hb dX1_wakeOrLull_11 rfl ?_
  refine gf_X1_40_v j0 hj0 C0 hP dX1_wakeOrLull_12 ?_
  refine lv_iconst (v := 1) hx hb dX1_wakeOrLull_15 (by decide) ?_
  refine lv_iload_n hx hb dX1_wakeOrLull_16 rfl (lv_at hl 1 rfl) ?_
  refine lv_ishl hx hb dX1_wakeOrLull_17 ?_
  refine lv_ixor hx hb dX1_wakeOrLull_18 ?_
  refine pf_X1_40_v j0 hj0 C0 hP hS dX1_wakeOrLull_19 (fun H locs hP hS => ?_)
  exact hret _ _ _ _ _ hd hP hS dX1_wakeOrLull_22
theorem c_X1_wakeOrLull (l : Launch) {D : va_G} {cA : Nat → ClassId} {h : Nat → Nat} (hk : ky keysC h) {j0 : Nat} (hj0 : j0 < 5) {x1 : Int32} {S : sT} (sz : Nat) {Q : sT → Prop} (hd : wp_X1_wakeOrLull j0 x1 S Q) : Met l yX1_wakeOrLull (wsU yX1_wakeOrLull cX1_wakeOrLull 2 none) rm_X1_wakeOrLull (va_Pc [.ref (h (1003 + j0)), .int x1] (gP D cA true keysC h (wC h cA) S sz)) (va_Qv Q (wB D (wC h cA)) (aK keysC h sz)) 0 0 (aK keysC h sz) :=
  mk_v (by decide) hk (Nat.le_of_ble_eq_true rfl) (fun p e s m below meth c Z ls C0 hret hP hS hl => bk_X1_wakeOrLull C0 hret hj0 hP hS hd hl)
abbrev rm_X2_kindByLetter : Room := { frames := 0, cells := 0, slots := 0, locals := 0 }
def wb_X2_kindByLetter_2 (Q : Int32 → sT → Prop) (K2 : Int32 → Int32 → sT → Prop) (x0 : Int32) (x1 : Int32) (S : sT) : Prop :=
  (((6 : Int32) ≤ x1 → Q (-9 : Int32) S) ∧ (¬ (6 : Int32) ≤ x1 → (vp_in x1 6) ∧ ((¬ (kL x1.toNatClampNeg) = x0 → K2 x0 (x1 + (1 : Int32)) S) ∧ ((kL x1.toNatClampNeg) = x0 → Q x1 S))))
set_option maxHeartbeats 4000000 in
set_option maxRecDepth 100000 in
theorem bk_X2_kindByLetter_2 {p : Program} {l : Launch} {e : Env} {s : State} {m : MethodId} {args : Array Value} {below : List Frame} {meth : Method} {c : Code} {Z : State → Prop} {D : va_G} {cA : Nat → ClassId} {h : Nat → Nat} {Q : Int32 → sT → Prop} (C0 : cx p s m args c cX2_kindByLetter 2 RX2 D cA true keysC h) (hret : rtI p l e rm_X2_kindByLetter s m args below meth c cX2_kindByLetter Z D (wC h cA) (aK keysC h s.heap.size) Q) {K2 : Int32 → Int32 → sT → Prop} (k2 : ∀ (x0 : Int32) (x1 : Int32) (S : sT) (H : Heap) (locs : List Loc) (ls : Array Slot), K2 x0 x1 S → va_P D vwCl (wC h cA S) H → va_S (aK keysC h s.heap.size) s.heap H locs → lv_has ls 2 [(0, .int x0), (1, .int x1)] → W p l e rm_X2_kindByLetter s m args below meth c H locs 0 0 Z (F0 m 2 ls [])) {x0 : Int32} {x1 : Int32} {S : sT} {H : Heap} {locs : List Loc} {ls : Array Slot} (hP : va_P D vwCl (wC h cA S) H) (hS : va_S (aK keysC h s.heap.size) s.heap H locs) (hd : wb_X2_kindByLetter_2 Q K2 x0 x1 S) (hl : lv_has ls 2 [(0, .int x0), (1, .int x1)]) : W p l e rm_X2_kindByLetter s m args below meth c H locs 0 0 Z (F0 m 2 ls []) := by
  obtain ⟨⟨hx, hb, hml, hown, hts⟩, hK, -, -⟩ := id C0
  unfold wb_X2_kindByLetter_2 at hd
  refine lv_iload_n hx hb dX2_kindByLetter_2 rfl (lv_at hl 1 rfl) ?_
  refine lv_bipush (v := 6) hx hb dX2_kindByLetter_3 (by decide) ?_
  refine lv_icmp_ge (tgt := 25) hx hb dX2_kindByLetter_5 (by decide) (fun hc => ?_) (fun hc => ?_)
  · have hd := hd.1 hc
    refine lv_bipush (v := (-9)) hx hb dX2_kindByLetter_25 (by decide) ?_
    exact hret _ _ _ _ _ _ hd hP hS dX2_kindByLetter_27
  · have hd := hd.2 hc
    obtain ⟨t1_1, t2_1, ⟨z1_1, z2_1⟩, z3_1, z4_1⟩ := C0.2.2.2 rfl
    refine va_getsN hx hb z1_1 hS hown (va_Nw.use rfl (C0.2.1.2.1 (RX2, 68, "DreamTrain", "KIND_LETTERS", "[I", "DreamTrain") (by decide +kernel))) (fun _ h9 => h9) dX2_kindByLetter_8 ?_
    refine lv_iload_n hx hb dX2_kindByLetter_11 rfl (lv_at hl 1 rfl) ?_
    obtain ⟨h_2, hd⟩ := hd
    refine va_ti hx hb z2_1 hS h_2 rfl dX2_kindByLetter_12 ?_
    refine lv_iload_n hx hb dX2_kindByLetter_13 rfl (lv_at hl 0 rfl) ?_
    refine lv_icmp_ne (tgt := 19) hx hb dX2_kindByLetter_14 (by decide) (fun hc => ?_) (fun hc => ?_)
    · have hd := hd.1 hc
      refine lv_iinc (v := x1 + (1 : Int32)) (lv' := [(1, .int (x1 + (1 : Int32))), (0, .int x0)]) hx hb dX2_kindByLetter_19 hl (k := 1) rfl rfl (by decide) rfl (fun ls hl => ?_)
      refine lv_goto (tgt := 2) hx hb dX2_kindByLetter_22 (by decide) ?_
      exact k2 _ _ _ _ _ _ hd hP hS (lv_sub hl [1, 0] rfl)
    · have hd := hd.2 hc
      refine lv_iload_n hx hb dX2_kindByLetter_17 rfl (lv_at hl 1 rfl) ?_
      exact hret _ _ _ _ _ _ hd hP hS dX2_kindByLetter_18
def wl_X2_kindByLetter_2 (Q : Int32 → sT → Prop) : Nat → Int32 → Int32 → sT → Prop
  | 0, _, _ => fun _ => False
  | n + 1, x0, x1 => fun S => wb_X2_kindByLetter_2 Q (fun x0 x1 S => wl_X2_kindByLetter_2 Q n x0 x1 S) x0 x1 S
theorem bl_X2_kindByLetter_2 {p : Program} {l : Launch} {e : Env} {s : State} {m : MethodId} {args : Array Value} {below : List Frame} {meth : Method} {c : Code} {Z : State → Prop} {D : va_G} {cA : Nat → ClassId} {h : Nat → Nat} {Q : Int32 → sT → Prop} (C0 : cx p s m args c cX2_kindByLetter 2 RX2 D cA true keysC h) (hret : rtI p l e rm_X2_kindByLetter s m args below meth c cX2_kindByLetter Z D (wC h cA) (aK keysC h s.heap.size) Q) : ∀ (n : Nat) (x0 : Int32) (x1 : Int32) (S : sT) (H : Heap) (locs : List Loc) (ls : Array Slot), va_P D vwCl (wC h cA S) H → va_S (aK keysC h s.heap.size) s.heap H locs → wl_X2_kindByLetter_2 Q n x0 x1 S → lv_has ls 2 [(0, .int x0), (1, .int x1)] → W p l e rm_X2_kindByLetter s m args below meth c H locs 0 0 Z (F0 m 2 ls []) := by
  intro n
  induction n with
  | zero => intro x0 x1 S H locs ls hP hS hd hl; exact (show False from hd).elim
  | succ n ih => intro x0 x1 S H locs ls hP hS hd hl; exact bk_X2_kindByLetter_2 C0 hret (fun x0 x1 S H locs ls hd hP hS hl => ih x0 x1 S H locs ls hP hS hd hl) hP hS hd hl
def wp_X2_kindByLetter (x0 : Int32) (S : sT) (Q : Int32 → sT → Prop) : Prop :=
  ∃ n : Nat, wl_X2_kindByLetter_2 Q n x0 (0 : Int32) S
set_option maxHeartbeats 4000000 in
set_option maxRecDepth 100000 in
theorem bk_X2_kindByLetter {p : Program} {l : Launch} {e : Env} {s : State} {m : MethodId} {args : Array Value} {below : List Frame} {meth : Method} {c : Code} {Z : State → Prop} {D : va_G} {cA : Nat → ClassId} {h : Nat → Nat} {Q : Int32 → sT → Prop} (C0 : cx p s m args c cX2_kindByLetter 2 RX2 D cA true keysC h) (hret : rtI p l e rm_X2_kindByLetter s m args below meth c cX2_kindByLetter Z D (wC h cA) (aK keysC h s.heap.size) Q) {x0 : Int32} {S : sT} {H : Heap} {locs : List Loc} {ls : Array Slot} (hP : va_P D vwCl (wC h cA S) H) (hS : va_S (aK keysC h s.heap.size) s.heap H locs) (hd : wp_X2_kindByLetter x0 S Q) (hl : lv_has ls 2 [(0, .int x0)]) : W p l e rm_X2_kindByLetter s m args below meth c H locs 0 0 Z (F0 m 0 ls []) := by
  obtain ⟨⟨hx, hb, hml, hown, hts⟩, hK, -, -⟩ := id C0
  unfold wp_X2_kindByLetter at hd
  refine lv_iconst (v := 0) hx hb dX2_kindByLetter_0 (by decide) ?_
  refine lv_istore_n (lv' := [(1, .int (0 : Int32)), (0, .int x0)]) hx hb dX2_kindByLetter_1 rfl hl (by decide) rfl (fun ls hl => ?_)
  obtain ⟨n_1, hd⟩ := hd
  exact bl_X2_kindByLetter_2 C0 hret _ _ _ _ _ _ _ hP hS hd (lv_sub hl [1, 0] rfl)
theorem c_X2_kindByLetter (l : Launch) {D : va_G} {cA : Nat → ClassId} {h : Nat → Nat} (hk : ky keysC h) {x0 : Int32} {S : sT} (sz : Nat) {Q : Int32 → sT → Prop} (hd : wp_X2_kindByLetter x0 S Q) : Met l yX2_kindByLetter (wsU yX2_kindByLetter cX2_kindByLetter 2 (some .int)) rm_X2_kindByLetter (va_Pc [.int x0] (gP D cA true keysC h (wC h cA) S sz)) (va_Qi Q (wB D (wC h cA)) (aK keysC h sz)) 0 0 (aK keysC h sz) :=
  mk_i (by decide) hk (Nat.le_of_ble_eq_true rfl) (fun p e s m below meth c Z ls C0 hret hP hS hl => bk_X2_kindByLetter C0 hret hP hS hd hl)
abbrev rm_X2_passBlanks : Room := { frames := 0, cells := 0, slots := 0, locals := 0 }
def wb_X2_passBlanks_0 (Q : sT → Prop) (K0 : sT → Prop) (S : sT) : Prop :=
  (((vI S 101) ≤ (vI S 102) → Q S) ∧ (¬ (vI S 101) ≤ (vI S 102) → (vT S ∈ keysCI) ∧ (vp_in (vI S 102) (lenC (vT S))) ∧ ((¬ (vA S (vT S) (vI S 102).toNatClampNeg) = (32 : Int32) → Q S) ∧ ((vA S (vT S) (vI S 102).toNatClampNeg) = (32 : Int32) → K0 (uI S 102 ((vI S 102) + (1 : Int32)))))))
set_option maxHeartbeats 4000000 in
set_option maxRecDepth 100000 in
theorem bk_X2_passBlanks_0 {p : Program} {l : Launch} {e : Env} {s : State} {m : MethodId} {args : Array Value} {below : List Frame} {meth : Method} {c : Code} {Z : State → Prop} {D : va_G} {cA : Nat → ClassId} {h : Nat → Nat} {Q : sT → Prop} (C0 : cx p s m args c cX2_passBlanks 1 RX2 D cA true keysC h) (hret : rtV p l e rm_X2_passBlanks s m args below meth c cX2_passBlanks Z D (wC h cA) (aK keysC h s.heap.size) Q) {K0 : sT → Prop} (k0 : ∀ (S : sT) (H : Heap) (locs : List Loc) (ls : Array Slot), K0 S → va_P D vwCl (wC h cA S) H → va_S (aK keysC h s.heap.size) s.heap H locs → lv_has ls 1 [(0, .ref (h 1008))] → W p l e rm_X2_passBlanks s m args below meth c H locs 0 0 Z (F0 m 0 ls [])) {S : sT} {H : Heap} {locs : List Loc} {ls : Array Slot} (hP : va_P D vwCl (wC h cA S) H) (hS : va_S (aK keysC h s.heap.size) s.heap H locs) (hd : wb_X2_passBlanks_0 Q K0 S) (hl : lv_has ls 1 [(0, .ref (h 1008))]) : W p l e rm_X2_passBlanks s m args below meth c H locs 0 0 Z (F0 m 0 ls []) := by
  obtain ⟨⟨hx, hb, hml, hown, hts⟩, hK, -, -⟩ := id C0
  unfold wb_X2_passBlanks_0 at hd
  refine lv_aload_n hx hb dX2_passBlanks_0 rfl (lv_at hl 0 rfl) ?_
  refine gf_X2_25 C0 hP dX2_passBlanks_1 ?_
  refine lv_aload_n hx hb dX2_passBlanks_4 rfl (lv_at hl 0 rfl) ?_
  refine gf_X2_21 C0 hP dX2_passBlanks_5 ?_
  refine lv_icmp_ge (tgt := 38) hx hb dX2_passBlanks_8 (by decide) (fun hc => ?_) (fun hc => ?_)
  · have hd := hd.1 hc
    exact hret _ _ _ _ _ hd hP hS dX2_passBlanks_38
  · have hd := hd.2 hc
    refine lv_aload_n hx hb dX2_passBlanks_11 rfl (lv_at hl 0 rfl) ?_
    refine gf_X2_9 C0 hP dX2_passBlanks_12 ?_
    refine lv_aload_n hx hb dX2_passBlanks_15 rfl (lv_at hl 0 rfl) ?_
    refine gf_X2_25 C0 hP dX2_passBlanks_16 ?_
    obtain ⟨h_1, hd⟩ := hd
    obtain ⟨h_2, hd⟩ := hd
    refine ldC h_1 C0 hP h_2 dX2_passBlanks_19 ?_
    refine lv_bipush (v := 32) hx hb dX2_passBlanks_20 (by decide) ?_
    refine lv_icmp_ne (tgt := 38) hx hb dX2_passBlanks_22 (by decide) (fun hc => ?_) (fun hc => ?_)
    · have hd := hd.1 hc
      exact hret _ _ _ _ _ hd hP hS dX2_passBlanks_38
    · have hd := hd.2 hc
      refine lv_aload_n hx hb dX2_passBlanks_25 rfl (lv_at hl 0 rfl) ?_
      refine lv_dup hx hb dX2_passBlanks_26 rfl ?_
      refine gf_X2_25 C0 hP dX2_passBlanks_27 ?_
      refine lv_iconst (v := 1) hx hb dX2_passBlanks_30 (by decide) ?_
      refine lv_iadd hx hb dX2_passBlanks_31 ?_
      refine pf_X2_25 C0 hP hS dX2_passBlanks_32 (fun H locs hP hS => ?_)
      refine lv_goto (tgt := 0) hx hb dX2_passBlanks_35 (by decide) ?_
      exact k0  _ _ _ _ hd hP hS (lv_sub hl [0] rfl)
def wl_X2_passBlanks_0 (Q : sT → Prop) : Nat → sT → Prop
  | 0 => fun _ => False
  | n + 1 => fun S => wb_X2_passBlanks_0 Q (fun S => wl_X2_passBlanks_0 Q n S) S
theorem bl_X2_passBlanks_0 {p : Program} {l : Launch} {e : Env} {s : State} {m : MethodId} {args : Array Value} {below : List Frame} {meth : Method} {c : Code} {Z : State → Prop} {D : va_G} {cA : Nat → ClassId} {h : Nat → Nat} {Q : sT → Prop} (C0 : cx p s m args c cX2_passBlanks 1 RX2 D cA true keysC h) (hret : rtV p l e rm_X2_passBlanks s m args below meth c cX2_passBlanks Z D (wC h cA) (aK keysC h s.heap.size) Q) : ∀ (n : Nat) (S : sT) (H : Heap) (locs : List Loc) (ls : Array Slot), va_P D vwCl (wC h cA S) H → va_S (aK keysC h s.heap.size) s.heap H locs → wl_X2_passBlanks_0 Q n S → lv_has ls 1 [(0, .ref (h 1008))] → W p l e rm_X2_passBlanks s m args below meth c H locs 0 0 Z (F0 m 0 ls []) := by
  intro n
  induction n with
  | zero => intro S H locs ls hP hS hd hl; exact (show False from hd).elim
  | succ n ih => intro S H locs ls hP hS hd hl; exact bk_X2_passBlanks_0 C0 hret (fun  S H locs ls hd hP hS hl => ih  S H locs ls hP hS hd hl) hP hS hd hl
def wp_X2_passBlanks (S : sT) (Q : sT → Prop) : Prop :=
  ∃ n : Nat, wl_X2_passBlanks_0 Q n S
set_option maxHeartbeats 4000000 in
set_option maxRecDepth 100000 in
theorem bk_X2_passBlanks {p : Program} {l : Launch} {e : Env} {s : State} {m : MethodId} {args : Array Value} {below : List Frame} {meth : Method} {c : Code} {Z : State → Prop} {D : va_G} {cA : Nat → ClassId} {h : Nat → Nat} {Q : sT → Prop} (C0 : cx p s m args c cX2_passBlanks 1 RX2 D cA true keysC h) (hret : rtV p l e rm_X2_passBlanks s m args below meth c cX2_passBlanks Z D (wC h cA) (aK keysC h s.heap.size) Q) {S : sT} {H : Heap} {locs : List Loc} {ls : Array Slot} (hP : va_P D vwCl (wC h cA S) H) (hS : va_S (aK keysC h s.heap.size) s.heap H locs) (hd : wp_X2_passBlanks S Q) (hl : lv_has ls 1 [(0, .ref (h 1008))]) : W p l e rm_X2_passBlanks s m args below meth c H locs 0 0 Z (F0 m 0 ls []) := by
  obtain ⟨⟨hx, hb, hml, hown, hts⟩, hK, -, -⟩ := id C0
  unfold wp_X2_passBlanks at hd
  obtain ⟨n_1, hd⟩ := hd
  exact bl_X2_passBlanks_0 C0 hret _  _ _ _ _ hP hS hd (lv_sub hl [0] rfl)
theorem c_X2_passBlanks (l : Launch) {D : va_G} {cA : Nat → ClassId} {h : Nat → Nat} (hk : ky keysC h) {S : sT} (sz : Nat) {Q : sT → Prop} (hd : wp_X2_passBlanks S Q) : Met l yX2_passBlanks (wsU yX2_passBlanks cX2_passBlanks 1 none) rm_X2_passBlanks (va_Pc [.ref (h 1008)] (gP D cA true keysC h (wC h cA) S sz)) (va_Qv Q (wB D (wC h cA)) (aK keysC h sz)) 0 0 (aK keysC h sz) :=
  mk_v (by decide) hk (Nat.le_of_ble_eq_true rfl) (fun p e s m below meth c Z ls C0 hret hP hS hl => bk_X2_passBlanks C0 hret hP hS hd hl)
abbrev rm_X4_isBelow : Room := { frames := 0, cells := 0, slots := 0, locals := 0 }
def wp_X4_isBelow (x0 : Int32) (x1 : Int32) (S : sT) (Q : Int32 → sT → Prop) : Prop :=
  ((x0 < 0 → Q (0 : Int32) S) ∧ (¬ x0 < 0 → ((x1 ≤ x0 → Q (0 : Int32) S) ∧ (¬ x1 ≤ x0 → Q (1 : Int32) S))))
set_option maxHeartbeats 4000000 in
set_option maxRecDepth 100000 in
theorem bk_X4_isBelow {p : Program} {l : Launch} {e : Env} {s : State} {m : MethodId} {args : Array Value} {below : List Frame} {meth : Method} {c : Code} {Z : State → Prop} {D : va_G} {cA : Nat → ClassId} {h : Nat → Nat} {Q : Int32 → sT → Prop} (C0 : cx p s m args c cX4_isBelow 2 RX4 D cA true keysC h) (hret : rtZ p l e rm_X4_isBelow s m args below meth c cX4_isBelow Z D (wC h cA) (aK keysC h s.heap.size) Q) {x0 : Int32} {x1 : Int32} {S : sT} {H : Heap} {locs : List Loc} {ls : Array Slot} (hP : va_P D vwCl (wC h cA S) H) (hS : va_S (aK keysC h s.heap.size) s.heap H locs) (hd : wp_X4_isBelow x0 x1 S Q) (hl : lv_has ls 2 [(0, .int x0), (1, .int x1)]) : W p l e rm_X4_isBelow s m args below meth c H locs 0 0 Z (F0 m 0 ls []) := by
  obtain ⟨⟨hx, hb, hml, hown, hts⟩, hK, -, -⟩ := id C0
  unfold wp_X4_isBelow at hd
  refine lv_iload_n hx hb dX4_isBelow_0 rfl (lv_at hl 0 rfl) ?_
  refine lv_if_lt (tgt := 13) hx hb dX4_isBelow_1 (by decide) (fun hc => ?_) (fun hc => ?_)
  · have hd := hd.1 hc
    refine lv_iconst (v := 0) hx hb dX4_isBelow_13 (by decide) ?_
    exact hret _ _ _ _ _ _ rfl hd hP hS dX4_isBelow_14
  · have hd := hd.2 hc
    refine lv_iload_n hx hb dX4_isBelow_4 rfl (lv_at hl 0 rfl) ?_
    refine lv_iload_n hx hb dX4_isBelow_5 rfl (lv_at hl 1 rfl) ?_
    refine lv_icmp_ge (tgt := 13) hx hb dX4_isBelow_6 (by decide) (fun hc => ?_) (fun hc => ?_)
    · have hd := hd.1 hc
      refine lv_iconst (v := 0) hx hb dX4_isBelow_13 (by decide) ?_
      exact hret _ _ _ _ _ _ rfl hd hP hS dX4_isBelow_14
    · have hd := hd.2 hc
      refine lv_iconst (v := 1) hx hb dX4_isBelow_9 (by decide) ?_
      refine lv_goto (tgt := 14) hx hb dX4_isBelow_10 (by decide) ?_
      exact hret _ _ _ _ _ _ rfl hd hP hS dX4_isBelow_14
theorem c_X4_isBelow (l : Launch) {D : va_G} {cA : Nat → ClassId} {h : Nat → Nat} (hk : ky keysC h) {x0 : Int32} {x1 : Int32} {S : sT} (sz : Nat) {Q : Int32 → sT → Prop} (hd : wp_X4_isBelow x0 x1 S Q) : Met l yX4_isBelow (wsU yX4_isBelow cX4_isBelow 2 (some .boolean)) rm_X4_isBelow (va_Pc [.int x0, .int x1] (gP D cA true keysC h (wC h cA) S sz)) (va_Qi Q (wB D (wC h cA)) (aK keysC h sz)) 0 0 (aK keysC h sz) :=
  mk_z (by decide) hk (Nat.le_of_ble_eq_true rfl) (fun p e s m below meth c Z ls C0 hret hP hS hl => bk_X4_isBelow C0 hret hP hS hd hl)
abbrev rm_X2_readFigure : Room := { frames := 1, cells := 0, slots := 0, locals := 21 }
def wb_X2_readFigure_39 (Q : Int32 → sT → Prop) (y0 : Int32) (S : sT) : Prop :=
  wp_X4_isBelow y0 (10 : Int32) S (fun r_1 S_1 => ((¬ r_1 = 0 → Q y0 (uI S_1 102 ((vI S_1 102) + (1 : Int32)))) ∧ (r_1 = 0 → Q (0 : Int32) (uI S_1 103 (vI S_1 102)))))
set_option maxHeartbeats 4000000 in
set_option maxRecDepth 100000 in
theorem bk_X2_readFigure_39 {p : Program} {l : Launch} {e : Env} {s : State} {m : MethodId} {args : Array Value} {below : List Frame} {meth : Method} {c : Code} {Z : State → Prop} {D : va_G} {cA : Nat → ClassId} {h : Nat → Nat} {Q : Int32 → sT → Prop} (C0 : cx p s m args c cX2_readFigure 2 RX2 D cA true keysC h) (hret : rtI p l e rm_X2_readFigure s m args below meth c cX2_readFigure Z D (wC h cA) (aK keysC h s.heap.size) Q) {y0 : Int32} {S : sT} {H : Heap} {locs : List Loc} {ls : Array Slot} (hP : va_P D vwCl (wC h cA S) H) (hS : va_S (aK keysC h s.heap.size) s.heap H locs) (hd : wb_X2_readFigure_39 Q y0 S) (hl : lv_has ls 2 [(0, .ref (h 1008))]) : W p l e rm_X2_readFigure s m args below meth c H locs 0 0 Z (F0 m 39 ls [.int y0]) := by
  obtain ⟨⟨hx, hb, hml, hown, hts⟩, hK, -, -⟩ := id C0
  unfold wb_X2_readFigure_39 at hd
  refine lv_istore_n (lv' := [(1, .int y0), (0, .ref (h 1008))]) hx hb dX2_readFigure_39 rfl hl (by decide) rfl (fun ls hl => ?_)
  refine lv_iload_n hx hb dX2_readFigure_40 rfl (lv_at hl 0 rfl) ?_
  refine lv_bipush (v := 10) hx hb dX2_readFigure_41 (by decide) ?_
  refine cl_SNi (n := 2) (rest := []) C0 hP hS (c_X4_isBelow l C0.2.2.1 _ hd) (lwG_C lc_X4_isBelow) (by decide +kernel : (RX2, 71, yX4_isBelow, "DreamTrain") ∈ nestM) lz_RX4 ls_X4_isBelow (by decide +kernel) rfl rfl (Nat.le_of_ble_eq_true rfl) ⟨rfl, rfl⟩ ⟨by decide, by decide⟩ dX2_readFigure_43 hl.1 ⟨Nat.zero_le _, Nat.zero_le _⟩ (fun r_1 S_1 H locs hd hP hS => ?_)
  refine lv_if_ne (tgt := 59) hx hb dX2_readFigure_46 (by decide) (fun hc => ?_) (fun hc => ?_)
  · have hd := hd.1 hc
    refine lv_aload_n hx hb dX2_readFigure_59 rfl (lv_at hl 1 rfl) ?_
    refine lv_dup hx hb dX2_readFigure_60 rfl ?_
    refine gf_X2_25 C0 hP dX2_readFigure_61 ?_
    refine lv_iconst (v := 1) hx hb dX2_readFigure_64 (by decide) ?_
    refine lv_iadd hx hb dX2_readFigure_65 ?_
    refine pf_X2_25 C0 hP hS dX2_readFigure_66 (fun H locs hP hS => ?_)
    refine lv_iload_n hx hb dX2_readFigure_69 rfl (lv_at hl 0 rfl) ?_
    exact hret _ _ _ _ _ _ hd hP hS dX2_readFigure_70
  · have hd := hd.2 hc
    refine lv_aload_n hx hb dX2_readFigure_49 rfl (lv_at hl 1 rfl) ?_
    refine lv_aload_n hx hb dX2_readFigure_50 rfl (lv_at hl 1 rfl) ?_
    refine gf_X2_25 C0 hP dX2_readFigure_51 ?_
    refine pf_X2_28 C0 hP hS dX2_readFigure_54 (fun H locs hP hS => ?_)
    refine lv_iconst (v := 0) hx hb dX2_readFigure_57 (by decide) ?_
    exact hret _ _ _ _ _ _ hd hP hS dX2_readFigure_58
def wp_X2_readFigure (S : sT) (Q : Int32 → sT → Prop) : Prop :=
  (((vI S 103) = (-9 : Int32) → (((vI S 101) ≤ (vI S 102) → wb_X2_readFigure_39 Q (-9 : Int32) S) ∧ (¬ (vI S 101) ≤ (vI S 102) → (vT S ∈ keysCI) ∧ (vp_in (vI S 102) (lenC (vT S))) ∧ wb_X2_readFigure_39 Q ((vA S (vT S) (vI S 102).toNatClampNeg) - (48 : Int32)) S))) ∧ (¬ (vI S 103) = (-9 : Int32) → Q (0 : Int32) S))
set_option maxHeartbeats 4000000 in
set_option maxRecDepth 100000 in
theorem bk_X2_readFigure {p : Program} {l : Launch} {e : Env} {s : State} {m : MethodId} {args : Array Value} {below : List Frame} {meth : Method} {c : Code} {Z : State → Prop} {D : va_G} {cA : Nat → ClassId} {h : Nat → Nat} {Q : Int32 → sT → Prop} (C0 : cx p s m args c cX2_readFigure 2 RX2 D cA true keysC h) (hret : rtI p l e rm_X2_readFigure s m args below meth c cX2_readFigure Z D (wC h cA) (aK keysC h s.heap.size) Q) {S : sT} {H : Heap} {locs : List Loc} {ls : Array Slot} (hP : va_P D vwCl (wC h cA S) H) (hS : va_S (aK keysC h s.heap.size) s.heap H locs) (hd : wp_X2_readFigure S Q) (hl : lv_has ls 2 [(0, .ref (h 1008))]) : W p l e rm_X2_readFigure s m args below meth c H locs 0 0 Z (F0 m 0 ls []) := by
  obtain ⟨⟨hx, hb, hml, hown, hts⟩, hK, -, -⟩ := id C0
  unfold wp_X2_readFigure at hd
  refine lv_aload_n hx hb dX2_readFigure_0 rfl (lv_at hl 0 rfl) ?_
  refine gf_X2_28 C0 hP dX2_readFigure_1 ?_
  refine lv_bipush (v := (-9)) hx hb dX2_readFigure_4 (by decide) ?_
  refine lv_icmp_eq (tgt := 11) hx hb dX2_readFigure_6 (by decide) (fun hc => ?_) (fun hc => ?_)
  · have hd := hd.1 hc
    refine lv_aload_n hx hb dX2_readFigure_11 rfl (lv_at hl 0 rfl) ?_
    refine gf_X2_25 C0 hP dX2_readFigure_12 ?_
    refine lv_aload_n hx hb dX2_readFigure_15 rfl (lv_at hl 0 rfl) ?_
    refine gf_X2_21 C0 hP dX2_readFigure_16 ?_
    refine lv_icmp_ge (tgt := 37) hx hb dX2_readFigure_19 (by decide) (fun hc => ?_) (fun hc => ?_)
    · have hd := hd.1 hc
      refine lv_bipush (v := (-9)) hx hb dX2_readFigure_37 (by decide) ?_
      exact bk_X2_readFigure_39 C0 hret hP hS hd (lv_sub hl [0] rfl)
    · have hd := hd.2 hc
      refine lv_aload_n hx hb dX2_readFigure_22 rfl (lv_at hl 0 rfl) ?_
      refine gf_X2_9 C0 hP dX2_readFigure_23 ?_
      refine lv_aload_n hx hb dX2_readFigure_26 rfl (lv_at hl 0 rfl) ?_
      refine gf_X2_25 C0 hP dX2_readFigure_27 ?_
      obtain ⟨h_1, hd⟩ := hd
      obtain ⟨h_2, hd⟩ := hd
      refine ldC h_1 C0 hP h_2 dX2_readFigure_30 ?_
      refine lv_bipush (v := 48) hx hb dX2_readFigure_31 (by decide) ?_
      refine lv_isub hx hb dX2_readFigure_33 ?_
      refine lv_goto (tgt := 39) hx hb dX2_readFigure_34 (by decide) ?_
      exact bk_X2_readFigure_39 C0 hret hP hS hd (lv_sub hl [0] rfl)
  · have hd := hd.2 hc
    refine lv_iconst (v := 0) hx hb dX2_readFigure_9 (by decide) ?_
    exact hret _ _ _ _ _ _ hd hP hS dX2_readFigure_10
theorem c_X2_readFigure (l : Launch) {D : va_G} {cA : Nat → ClassId} {h : Nat → Nat} (hk : ky keysC h) {S : sT} (sz : Nat) {Q : Int32 → sT → Prop} (hd : wp_X2_readFigure S Q) : Met l yX2_readFigure (wsU yX2_readFigure cX2_readFigure 2 (some .int)) rm_X2_readFigure (va_Pc [.ref (h 1008)] (gP D cA true keysC h (wC h cA) S sz)) (va_Qi Q (wB D (wC h cA)) (aK keysC h sz)) 0 0 (aK keysC h sz) :=
  mk_i (by decide) hk (Nat.le_of_ble_eq_true rfl) (fun p e s m below meth c Z ls C0 hret hP hS hl => bk_X2_readFigure C0 hret hP hS hd hl)
abbrev rm_X2_readTwoFigures : Room := { frames := 2, cells := 0, slots := 0, locals := 42 }
def wb_X2_readTwoFigures_49 (Q : Int32 → sT → Prop) (x4 : Int32) (S : sT) : Prop :=
  ((¬ (vI S 103) = (-9 : Int32) → Q (0 : Int32) S) ∧ ((vI S 103) = (-9 : Int32) → Q x4 S))
set_option maxHeartbeats 4000000 in
set_option maxRecDepth 100000 in
theorem bk_X2_readTwoFigures_49 {p : Program} {l : Launch} {e : Env} {s : State} {m : MethodId} {args : Array Value} {below : List Frame} {meth : Method} {c : Code} {Z : State → Prop} {D : va_G} {cA : Nat → ClassId} {h : Nat → Nat} {Q : Int32 → sT → Prop} (C0 : cx p s m args c cX2_readTwoFigures 5 RX2 D cA true keysC h) (hret : rtI p l e rm_X2_readTwoFigures s m args below meth c cX2_readTwoFigures Z D (wC h cA) (aK keysC h s.heap.size) Q) {x4 : Int32} {S : sT} {H : Heap} {locs : List Loc} {ls : Array Slot} (hP : va_P D vwCl (wC h cA S) H) (hS : va_S (aK keysC h s.heap.size) s.heap H locs) (hd : wb_X2_readTwoFigures_49 Q x4 S) (hl : lv_has ls 5 [(0, .ref (h 1008)), (4, .int x4)]) : W p l e rm_X2_readTwoFigures s m args below meth c H locs 0 0 Z (F0 m 49 ls []) := by
  obtain ⟨⟨hx, hb, hml, hown, hts⟩, hK, -, -⟩ := id C0
  unfold wb_X2_readTwoFigures_49 at hd
  refine lv_aload_n hx hb dX2_readTwoFigures_49 rfl (lv_at hl 0 rfl) ?_
  refine gf_X2_28 C0 hP dX2_readTwoFigures_50 ?_
  refine lv_bipush (v := (-9)) hx hb dX2_readTwoFigures_53 (by decide) ?_
  refine lv_icmp_ne (tgt := 63) hx hb dX2_readTwoFigures_55 (by decide) (fun hc => ?_) (fun hc => ?_)
  · have hd := hd.1 hc
    refine lv_iconst (v := 0) hx hb dX2_readTwoFigures_63 (by decide) ?_
    exact hret _ _ _ _ _ _ hd hP hS dX2_readTwoFigures_64
  · have hd := hd.2 hc
    refine lv_iload hx hb dX2_readTwoFigures_58 (lv_at hl 1 rfl) ?_
    refine lv_goto (tgt := 64) hx hb dX2_readTwoFigures_60 (by decide) ?_
    exact hret _ _ _ _ _ _ hd hP hS dX2_readTwoFigures_64
def wb_X2_readTwoFigures_44 (Q : Int32 → sT → Prop) (x3 : Int32) (x4 : Int32) (S : sT) : Prop :=
  wb_X2_readTwoFigures_49 Q x4 (uI S 103 x3)
set_option maxHeartbeats 4000000 in
set_option maxRecDepth 100000 in
theorem bk_X2_readTwoFigures_44 {p : Program} {l : Launch} {e : Env} {s : State} {m : MethodId} {args : Array Value} {below : List Frame} {meth : Method} {c : Code} {Z : State → Prop} {D : va_G} {cA : Nat → ClassId} {h : Nat → Nat} {Q : Int32 → sT → Prop} (C0 : cx p s m args c cX2_readTwoFigures 5 RX2 D cA true keysC h) (hret : rtI p l e rm_X2_readTwoFigures s m args below meth c cX2_readTwoFigures Z D (wC h cA) (aK keysC h s.heap.size) Q) {x3 : Int32} {x4 : Int32} {S : sT} {H : Heap} {locs : List Loc} {ls : Array Slot} (hP : va_P D vwCl (wC h cA S) H) (hS : va_S (aK keysC h s.heap.size) s.heap H locs) (hd : wb_X2_readTwoFigures_44 Q x3 x4 S) (hl : lv_has ls 5 [(0, .ref (h 1008)), (3, .int x3), (4, .int x4)]) : W p l e rm_X2_readTwoFigures s m args below meth c H locs 0 0 Z (F0 m 44 ls []) := by
  obtain ⟨⟨hx, hb, hml, hown, hts⟩, hK, -, -⟩ := id C0
  unfold wb_X2_readTwoFigures_44 at hd
  refine lv_aload_n hx hb dX2_readTwoFigures_44 rfl (lv_at hl 0 rfl) ?_
  refine lv_iload_n hx hb dX2_readTwoFigures_45 rfl (lv_at hl 1 rfl) ?_
  refine pf_X2_28 C0 hP hS dX2_readTwoFigures_46 (fun H locs hP hS => ?_)
  exact bk_X2_readTwoFigures_49 C0 hret hP hS hd (lv_sub hl [0, 2] rfl)
def wp_X2_readTwoFigures (x1 : Int32) (x2 : Int32) (S : sT) (Q : Int32 → sT → Prop) : Prop :=
  wp_X2_readFigure S (fun r_1 S_1 => wp_X2_readFigure S_1 (fun r_2 S_2 => ((¬ (vI S_2 103) = (-9 : Int32) → wb_X2_readTwoFigures_49 Q (((10 : Int32) * r_1) + r_2) S_2) ∧ ((vI S_2 103) = (-9 : Int32) → (((((10 : Int32) * r_1) + r_2) < x1 → wb_X2_readTwoFigures_44 Q (vI S 102) (((10 : Int32) * r_1) + r_2) S_2) ∧ (¬ (((10 : Int32) * r_1) + r_2) < x1 → (((((10 : Int32) * r_1) + r_2) ≤ x2 → wb_X2_readTwoFigures_49 Q (((10 : Int32) * r_1) + r_2) S_2) ∧ (¬ (((10 : Int32) * r_1) + r_2) ≤ x2 → wb_X2_readTwoFigures_44 Q (vI S 102) (((10 : Int32) * r_1) + r_2) S_2))))))))
set_option maxHeartbeats 4000000 in
set_option maxRecDepth 100000 in
theorem bk_X2_readTwoFigures {p : Program} {l : Launch} {e : Env} {s : State} {m : MethodId} {args : Array Value} {below : List Frame} {meth : Method} {c : Code} {Z : State → Prop} {D : va_G} {cA : Nat → ClassId} {h : Nat → Nat} {Q : Int32 → sT → Prop} (C0 : cx p s m args c cX2_readTwoFigures 5 RX2 D cA true keysC h) (hret : rtI p l e rm_X2_readTwoFigures s m args below meth c cX2_readTwoFigures Z D (wC h cA) (aK keysC h s.heap.size) Q) {x1 : Int32} {x2 : Int32} {S : sT} {H : Heap} {locs : List Loc} {ls : Array Slot} (hP : va_P D vwCl (wC h cA S) H) (hS : va_S (aK keysC h s.heap.size) s.heap H locs) (hd : wp_X2_readTwoFigures x1 x2 S Q) (hl : lv_has ls 5 [(0, .ref (h 1008)), (1, .int x1), (2, .int x2)]) : W p l e rm_X2_readTwoFigures s m args below meth c H locs 0 0 Z (F0 m 0 ls []) := by
  obtain ⟨⟨hx, hb, hml, hown, hts⟩, hK, -, -⟩ := id C0
  unfold wp_X2_readTwoFigures at hd
  refine lv_aload_n hx hb dX2_readTwoFigures_0 rfl (lv_at hl 0 rfl) ?_
  refine gf_X2_25 C0 hP dX2_readTwoFigures_1 ?_
  refine lv_istore_n (lv' := [(3, .int (vI S 102)), (0, .ref (h 1008)), (1, .int x1), (2, .int x2)]) hx hb dX2_readTwoFigures_4 rfl hl (by decide) rfl (fun ls hl => ?_)
  refine lv_bipush (v := 10) hx hb dX2_readTwoFigures_5 (by decide) ?_
  refine lv_aload_n hx hb dX2_readTwoFigures_7 rfl (lv_at hl 1 rfl) ?_
  refine cl_Vi (n := 0) (rest := [.int (10 : Int32)]) C0 hP hS (c_X2_readFigure l C0.2.2.1 _ hd) (lwG_V lm_X2_60 li_X2_readFigure lx_X2_readFigure lz_RX2 lc_X2_readFigure) (by decide +kernel) (oE_at h cA _) rfl rfl rfl (Nat.le_of_ble_eq_true rfl) ⟨rfl, rfl⟩ ⟨by decide, by decide⟩ dX2_readTwoFigures_8 hl.1 ⟨Nat.zero_le _, Nat.zero_le _⟩ (fun r_1 S_1 H locs hd hP hS => ?_)
  refine lv_imul hx hb dX2_readTwoFigures_11 ?_
  refine lv_istore (lv' := [(4, .int ((10 : Int32) * r_1)), (3, .int (vI S 102)), (0, .ref (h 1008)), (1, .int x1), (2, .int x2)]) hx hb dX2_readTwoFigures_12 hl (by decide) rfl (fun ls hl => ?_)
  refine lv_iload hx hb dX2_readTwoFigures_14 (lv_at hl 0 rfl) ?_
  refine lv_aload_n hx hb dX2_readTwoFigures_16 rfl (lv_at hl 2 rfl) ?_
  refine cl_Vi (n := 0) (rest := [.int ((10 : Int32) * r_1)]) C0 hP hS (c_X2_readFigure l C0.2.2.1 _ hd) (lwG_V lm_X2_60 li_X2_readFigure lx_X2_readFigure lz_RX2 lc_X2_readFigure) (by decide +kernel) (oE_at h cA _) rfl rfl rfl (Nat.le_of_ble_eq_true rfl) ⟨rfl, rfl⟩ ⟨by decide, by decide⟩ dX2_readTwoFigures_17 hl.1 ⟨Nat.zero_le _, Nat.zero_le _⟩ (fun r_2 S_2 H locs hd hP hS => ?_)
  refine lv_iadd hx hb dX2_readTwoFigures_20 ?_
  refine lv_istore (lv' := [(4, .int (((10 : Int32) * r_1) + r_2)), (3, .int (vI S 102)), (0, .ref (h 1008)), (1, .int x1), (2, .int x2)]) hx hb dX2_readTwoFigures_21 hl (by decide) rfl (fun ls hl => ?_)
  refine lv_aload_n hx hb dX2_readTwoFigures_23 rfl (lv_at hl 2 rfl) ?_
  refine gf_X2_28 C0 hP dX2_readTwoFigures_24 ?_
  refine lv_bipush (v := (-9)) hx hb dX2_readTwoFigures_27 (by decide) ?_
  refine lv_icmp_ne (tgt := 49) hx hb dX2_readTwoFigures_29 (by decide) (fun hc => ?_) (fun hc => ?_)
  · have hd := hd.1 hc
    exact bk_X2_readTwoFigures_49 C0 hret hP hS hd (lv_sub hl [2, 0] rfl)
  · have hd := hd.2 hc
    refine lv_iload hx hb dX2_readTwoFigures_32 (lv_at hl 0 rfl) ?_
    refine lv_iload_n hx hb dX2_readTwoFigures_34 rfl (lv_at hl 3 rfl) ?_
    refine lv_icmp_lt (tgt := 44) hx hb dX2_readTwoFigures_35 (by decide) (fun hc => ?_) (fun hc => ?_)
    · have hd := hd.1 hc
      exact bk_X2_readTwoFigures_44 C0 hret hP hS hd (lv_sub hl [2, 1, 0] rfl)
    · have hd := hd.2 hc
      refine lv_iload hx hb dX2_readTwoFigures_38 (lv_at hl 0 rfl) ?_
      refine lv_iload_n hx hb dX2_readTwoFigures_40 rfl (lv_at hl 4 rfl) ?_
      refine lv_icmp_le (tgt := 49) hx hb dX2_readTwoFigures_41 (by decide) (fun hc => ?_) (fun hc => ?_)
      · have hd := hd.1 hc
        exact bk_X2_readTwoFigures_49 C0 hret hP hS hd (lv_sub hl [2, 0] rfl)
      · have hd := hd.2 hc
        exact bk_X2_readTwoFigures_44 C0 hret hP hS hd (lv_sub hl [2, 1, 0] rfl)
theorem c_X2_readTwoFigures (l : Launch) {D : va_G} {cA : Nat → ClassId} {h : Nat → Nat} (hk : ky keysC h) {x1 : Int32} {x2 : Int32} {S : sT} (sz : Nat) {Q : Int32 → sT → Prop} (hd : wp_X2_readTwoFigures x1 x2 S Q) : Met l yX2_readTwoFigures (wsU yX2_readTwoFigures cX2_readTwoFigures 5 (some .int)) rm_X2_readTwoFigures (va_Pc [.ref (h 1008), .int x1, .int x2] (gP D cA true keysC h (wC h cA) S sz)) (va_Qi Q (wB D (wC h cA)) (aK keysC h sz)) 0 0 (aK keysC h sz) :=
  mk_i (by decide) hk (Nat.le_of_ble_eq_true rfl) (fun p e s m below meth c Z ls C0 hret hP hS hl => bk_X2_readTwoFigures C0 hret hP hS hd hl)
abbrev rm_X2_readHead : Room := { frames := 3, cells := 0, slots := 0, locals := 66 }
def wb_X2_readHead_29 (j1 : Nat) (Q : sT → Prop) (S : sT) : Prop :=
  Q (uI S 103 (vI S 102))
set_option maxHeartbeats 4000000 in
set_option maxRecDepth 100000 in
theorem bk_X2_readHead_29 {p : Program} {l : Launch} {e : Env} {s : State} {m : MethodId} {args : Array Value} {below : List Frame} {meth : Method} {c : Code} {Z : State → Prop} {D : va_G} {cA : Nat → ClassId} {h : Nat → Nat} {Q : sT → Prop} {j1 : Nat} (C0 : cx p s m args c cX2_readHead 4 RX2 D cA true keysC h) (hret : rtV p l e rm_X2_readHead s m args below meth c cX2_readHead Z D (wC h cA) (aK keysC h s.heap.size) Q) (hj1 : j1 < 5) {S : sT} {H : Heap} {locs : List Loc} {ls : Array Slot} (hP : va_P D vwCl (wC h cA S) H) (hS : va_S (aK keysC h s.heap.size) s.heap H locs) (hd : wb_X2_readHead_29 j1 Q S) (hl : lv_has ls 4 [(0, .ref (h 1008))]) : W p l e rm_X2_readHead s m args below meth c H locs 0 0 Z (F0 m 29 ls []) := by
  obtain ⟨⟨hx, hb, hml, hown, hts⟩, hK, -, -⟩ := id C0
  unfold wb_X2_readHead_29 at hd
  refine lv_aload_n hx hb dX2_readHead_29 rfl (lv_at hl 0 rfl) ?_
  refine lv_aload_n hx hb dX2_readHead_30 rfl (lv_at hl 0 rfl) ?_
  refine gf_X2_25 C0 hP dX2_readHead_31 ?_
  refine pf_X2_28 C0 hP hS dX2_readHead_34 (fun H locs hP hS => ?_)
  exact hret _ _ _ _ _ hd hP hS dX2_readHead_37
def wp_X2_readHead (j1 : Nat) (S : sT) (Q : sT → Prop) : Prop :=
  wp_X2_passBlanks S (fun S_1 => (((vI S_1 101) ≤ (vI S_1 102) → wb_X2_readHead_29 j1 Q S_1) ∧ (¬ (vI S_1 101) ≤ (vI S_1 102) → (vT S_1 ∈ keysCI) ∧ (vp_in (vI S_1 102) (lenC (vT S_1))) ∧ (((vA S_1 (vT S_1) (vI S_1 102).toNatClampNeg) = (110 : Int32) → wp_X2_readTwoFigures (5 : Int32) (20 : Int32) (uI S_1 102 ((vI S_1 102) + (1 : Int32))) (fun r_4 S_4 => wp_X2_readTwoFigures (0 : Int32) (60 : Int32) S_4 (fun r_5 S_5 => wp_X1_begin j1 r_4 r_5 S_5 (fun S_6 => Q S_6)))) ∧ (¬ (vA S_1 (vT S_1) (vI S_1 102).toNatClampNeg) = (110 : Int32) → wb_X2_readHead_29 j1 Q S_1)))))
set_option maxHeartbeats 4000000 in
set_option maxRecDepth 100000 in
theorem bk_X2_readHead {p : Program} {l : Launch} {e : Env} {s : State} {m : MethodId} {args : Array Value} {below : List Frame} {meth : Method} {c : Code} {Z : State → Prop} {D : va_G} {cA : Nat → ClassId} {h : Nat → Nat} {Q : sT → Prop} {j1 : Nat} (C0 : cx p s m args c cX2_readHead 4 RX2 D cA true keysC h) (hret : rtV p l e rm_X2_readHead s m args below meth c cX2_readHead Z D (wC h cA) (aK keysC h s.heap.size) Q) (hj1 : j1 < 5) {S : sT} {H : Heap} {locs : List Loc} {ls : Array Slot} (hP : va_P D vwCl (wC h cA S) H) (hS : va_S (aK keysC h s.heap.size) s.heap H locs) (hd : wp_X2_readHead j1 S Q) (hl : lv_has ls 4 [(0, .ref (h 1008)), (1, .ref (h (1003 + j1)))]) : W p l e rm_X2_readHead s m args below meth c H locs 0 0 Z (F0 m 0 ls []) := by
  obtain ⟨⟨hx, hb, hml, hown, hts⟩, hK, -, -⟩ := id C0
  unfold wp_X2_readHead at hd
  refine lv_aload_n hx hb dX2_readHead_0 rfl (lv_at hl 0 rfl) ?_
  refine cl_Vv (n := 0) (rest := []) C0 hP hS (c_X2_passBlanks l C0.2.2.1 _ hd) (lwG_V lm_X2_35 li_X2_passBlanks lx_X2_passBlanks lz_RX2 lc_X2_passBlanks) (by decide +kernel) (oE_at h cA _) rfl rfl rfl (Nat.le_of_ble_eq_true rfl) ⟨rfl, rfl⟩ ⟨by decide, by decide⟩ dX2_readHead_1 hl.1 ⟨Nat.zero_le _, Nat.zero_le _⟩ (fun S_1 H locs hd hP hS => ?_)
  refine lv_aload_n hx hb dX2_readHead_4 rfl (lv_at hl 0 rfl) ?_
  refine gf_X2_25 C0 hP dX2_readHead_5 ?_
  refine lv_aload_n hx hb dX2_readHead_8 rfl (lv_at hl 0 rfl) ?_
  refine gf_X2_21 C0 hP dX2_readHead_9 ?_
  refine lv_icmp_ge (tgt := 29) hx hb dX2_readHead_12 (by decide) (fun hc => ?_) (fun hc => ?_)
  · have hd := hd.1 hc
    exact bk_X2_readHead_29 C0 hret hj1 hP hS hd (lv_sub hl [0] rfl)
  · have hd := hd.2 hc
    refine lv_aload_n hx hb dX2_readHead_15 rfl (lv_at hl 0 rfl) ?_
    refine gf_X2_9 C0 hP dX2_readHead_16 ?_
    refine lv_aload_n hx hb dX2_readHead_19 rfl (lv_at hl 0 rfl) ?_
    refine gf_X2_25 C0 hP dX2_readHead_20 ?_
    obtain ⟨h_2, hd⟩ := hd
    obtain ⟨h_3, hd⟩ := hd
    refine ldC h_2 C0 hP h_3 dX2_readHead_23 ?_
    refine lv_bipush (v := 110) hx hb dX2_readHead_24 (by decide) ?_
    refine lv_icmp_eq (tgt := 38) hx hb dX2_readHead_26 (by decide) (fun hc => ?_) (fun hc => ?_)
    · have hd := hd.1 hc
      refine lv_aload_n hx hb dX2_readHead_38 rfl (lv_at hl 0 rfl) ?_
      refine lv_dup hx hb dX2_readHead_39 rfl ?_
      refine gf_X2_25 C0 hP dX2_readHead_40 ?_
      refine lv_iconst (v := 1) hx hb dX2_readHead_43 (by decide) ?_
      refine lv_iadd hx hb dX2_readHead_44 ?_
      refine pf_X2_25 C0 hP hS dX2_readHead_45 (fun H locs hP hS => ?_)
      refine lv_aload_n hx hb dX2_readHead_48 rfl (lv_at hl 0 rfl) ?_
      refine lv_iconst (v := 5) hx hb dX2_readHead_49 (by decide) ?_
      refine lv_bipush (v := 20) hx hb dX2_readHead_50 (by decide) ?_
      refine cl_Vi (n := 2) (rest := []) C0 hP hS (c_X2_readTwoFigures l C0.2.2.1 _ hd) (lwG_V lm_X2_41 li_X2_readTwoFigures lx_X2_readTwoFigures lz_RX2 lc_X2_readTwoFigures) (by decide +kernel) (oE_at h cA _) rfl rfl rfl (Nat.le_of_ble_eq_true rfl) ⟨rfl, rfl⟩ ⟨by decide, by decide⟩ dX2_readHead_52 hl.1 ⟨Nat.zero_le _, Nat.zero_le _⟩ (fun r_4 S_4 H locs hd hP hS => ?_)
      refine lv_istore_n (lv' := [(2, .int r_4), (0, .ref (h 1008)), (1, .ref (h (1003 + j1)))]) hx hb dX2_readHead_55 rfl hl (by decide) rfl (fun ls hl => ?_)
      refine lv_aload_n hx hb dX2_readHead_56 rfl (lv_at hl 1 rfl) ?_
      refine lv_iconst (v := 0) hx hb dX2_readHead_57 (by decide) ?_
      refine lv_bipush (v := 60) hx hb dX2_readHead_58 (by decide) ?_
      refine cl_Vi (n := 2) (rest := []) C0 hP hS (c_X2_readTwoFigures l C0.2.2.1 _ hd) (lwG_V lm_X2_41 li_X2_readTwoFigures lx_X2_readTwoFigures lz_RX2 lc_X2_readTwoFigures) (by decide +kernel) (oE_at h cA _) rfl rfl rfl (Nat.le_of_ble_eq_true rfl) ⟨rfl, rfl⟩ ⟨by decide, by decide⟩ dX2_readHead_60 hl.1 ⟨Nat.zero_le _, Nat.zero_le _⟩ (fun r_5 S_5 H locs hd hP hS => ?_)
      refine lv_istore_n (lv' := [(3, .int r_5), (2, .int r_4), (0, .ref (h 1008)), (1, .ref (h (1003 + j1)))]) hx hb dX2_readHead_63 rfl hl (by decide) rfl (fun ls hl => ?_)
      refine lv_aload_n hx hb dX2_readHead_64 rfl (lv_at hl 3 rfl) ?_
      refine lv_iload_n hx hb dX2_readHead_65 rfl (lv_at hl 1 rfl) ?_
      refine lv_iload_n hx hb dX2_readHead_66 rfl (lv_at hl 0 rfl) ?_
      refine cl_VNv (n := 2) (rest := []) C0 hP hS (c_X1_begin l C0.2.2.1 hj1 _ hd) (lwG_C lc_X1_begin) (by decide +kernel : (RX2, 44, yX1_begin, "DreamTrain") ∈ nestM) lz_RX1 li_X1_begin lx_X1_begin (by decide +kernel) (oL_at h cA _ j1 hj1) rfl rfl rfl (Nat.le_of_ble_eq_true rfl) ⟨rfl, rfl⟩ ⟨by decide, by decide⟩ dX2_readHead_67 hl.1 ⟨Nat.zero_le _, Nat.zero_le _⟩ (fun S_6 H locs hd hP hS => ?_)
      exact hret _ _ _ _ _ hd hP hS dX2_readHead_70
    · have hd := hd.2 hc
      exact bk_X2_readHead_29 C0 hret hj1 hP hS hd (lv_sub hl [0] rfl)
theorem c_X2_readHead (l : Launch) {D : va_G} {cA : Nat → ClassId} {h : Nat → Nat} (hk : ky keysC h) {j1 : Nat} (hj1 : j1 < 5) {S : sT} (sz : Nat) {Q : sT → Prop} (hd : wp_X2_readHead j1 S Q) : Met l yX2_readHead (wsU yX2_readHead cX2_readHead 4 none) rm_X2_readHead (va_Pc [.ref (h 1008), .ref (h (1003 + j1))] (gP D cA true keysC h (wC h cA) S sz)) (va_Qv Q (wB D (wC h cA)) (aK keysC h sz)) 0 0 (aK keysC h sz) :=
  mk_v (by decide) hk (Nat.le_of_ble_eq_true rfl) (fun p e s m below meth c Z ls C0 hret hP hS hl => bk_X2_readHead C0 hret hj1 hP hS hd hl)
abbrev rm_X2_readSleeper : Room := { frames := 3, cells := 0, slots := 0, locals := 66 }
def wb_X2_readSleeper_28 (j1 : Nat) (Q : sT → Prop) (S : sT) : Prop :=
  Q (uI S 103 (vI S 102))
set_option maxHeartbeats 4000000 in
set_option maxRecDepth 100000 in
theorem bk_X2_readSleeper_28 {p : Program} {l : Launch} {e : Env} {s : State} {m : MethodId} {args : Array Value} {below : List Frame} {meth : Method} {c : Code} {Z : State → Prop} {D : va_G} {cA : Nat → ClassId} {h : Nat → Nat} {Q : sT → Prop} {j1 : Nat} (C0 : cx p s m args c cX2_readSleeper 5 RX2 D cA true keysC h) (hret : rtV p l e rm_X2_readSleeper s m args below meth c cX2_readSleeper Z D (wC h cA) (aK keysC h s.heap.size) Q) (hj1 : j1 < 5) {S : sT} {H : Heap} {locs : List Loc} {ls : Array Slot} (hP : va_P D vwCl (wC h cA S) H) (hS : va_S (aK keysC h s.heap.size) s.heap H locs) (hd : wb_X2_readSleeper_28 j1 Q S) (hl : lv_has ls 5 [(0, .ref (h 1008))]) : W p l e rm_X2_readSleeper s m args below meth c H locs 0 0 Z (F0 m 28 ls []) := by
  obtain ⟨⟨hx, hb, hml, hown, hts⟩, hK, -, -⟩ := id C0
  unfold wb_X2_readSleeper_28 at hd
  refine lv_aload_n hx hb dX2_readSleeper_28 rfl (lv_at hl 0 rfl) ?_
  refine lv_aload_n hx hb dX2_readSleeper_29 rfl (lv_at hl 0 rfl) ?_
  refine gf_X2_25 C0 hP dX2_readSleeper_30 ?_
  refine pf_X2_28 C0 hP hS dX2_readSleeper_33 (fun H locs hP hS => ?_)
  exact hret _ _ _ _ _ hd hP hS dX2_readSleeper_36
def wp_X2_readSleeper (j1 : Nat) (S : sT) (Q : sT → Prop) : Prop :=
  (vT S ∈ keysCI) ∧ (vp_in (vI S 102) (lenC (vT S))) ∧ wp_X2_kindByLetter (vA S (vT S) (vI S 102).toNatClampNeg) S (fun r_3 S_3 => ((r_3 = (-9 : Int32) → wb_X2_readSleeper_28 j1 Q S_3) ∧ (¬ r_3 = (-9 : Int32) → (((vI S_3 (20 + 13 * j1 + 6)) < (6 : Int32) → wp_X2_readTwoFigures (0 : Int32) (vI (uI S_3 102 ((vI S_3 102) + (1 : Int32))) (20 + 13 * j1 + 7)) (uI S_3 102 ((vI S_3 102) + (1 : Int32))) (fun r_4 S_4 => wp_X2_readFigure S_4 (fun r_5 S_5 => wp_X1_addSleeper j1 r_3 r_4 r_5 S_5 (fun S_6 => Q S_6)))) ∧ (¬ (vI S_3 (20 + 13 * j1 + 6)) < (6 : Int32) → wb_X2_readSleeper_28 j1 Q S_3)))))
set_option maxHeartbeats 4000000 in
set_option maxRecDepth 100000 in
theorem bk_X2_readSleeper {p : Program} {l : Launch} {e : Env} {s : State} {m : MethodId} {args : Array Value} {below : List Frame} {meth : Method} {c : Code} {Z : State → Prop} {D : va_G} {cA : Nat → ClassId} {h : Nat → Nat} {Q : sT → Prop} {j1 : Nat} (C0 : cx p s m args c cX2_readSleeper 5 RX2 D cA true keysC h) (hret : rtV p l e rm_X2_readSleeper s m args below meth c cX2_readSleeper Z D (wC h cA) (aK keysC h s.heap.size) Q) (hj1 : j1 < 5) {S : sT} {H : Heap} {locs : List Loc} {ls : Array Slot} (hP : va_P D vwCl (wC h cA S) H) (hS : va_S (aK keysC h s.heap.size) s.heap H locs) (hd : wp_X2_readSleeper j1 S Q) (hl : lv_has ls 5 [(0, .ref (h 1008)), (1, .ref (h (1003 + j1)))]) : W p l e rm_X2_readSleeper s m args below meth c H locs 0 0 Z (F0 m 0 ls []) := by
  obtain ⟨⟨hx, hb, hml, hown, hts⟩, hK, -, -⟩ := id C0
  unfold wp_X2_readSleeper at hd
  refine lv_aload_n hx hb dX2_readSleeper_0 rfl (lv_at hl 0 rfl) ?_
  refine gf_X2_9 C0 hP dX2_readSleeper_1 ?_
  refine lv_aload_n hx hb dX2_readSleeper_4 rfl (lv_at hl 0 rfl) ?_
  refine gf_X2_25 C0 hP dX2_readSleeper_5 ?_
  obtain ⟨h_1, hd⟩ := hd
  obtain ⟨h_2, hd⟩ := hd
  refine ldC h_1 C0 hP h_2 dX2_readSleeper_8 ?_
  refine cl_Si (n := 1) (rest := []) C0 hP hS (c_X2_kindByLetter l C0.2.2.1 _ hd) (lwG_S lm_X2_50 ls_X2_kindByLetter lz_RX2 lc_X2_kindByLetter) (by decide +kernel) rfl rfl (Nat.le_of_ble_eq_true rfl) ⟨rfl, rfl⟩ ⟨by decide, by decide⟩ dX2_readSleeper_9 hl.1 ⟨Nat.zero_le _, Nat.zero_le _⟩ (fun r_3 S_3 H locs hd hP hS => ?_)
  refine lv_istore_n (lv' := [(2, .int r_3), (0, .ref (h 1008)), (1, .ref (h (1003 + j1)))]) hx hb dX2_readSleeper_12 rfl hl (by decide) rfl (fun ls hl => ?_)
  refine lv_iload_n hx hb dX2_readSleeper_13 rfl (lv_at hl 0 rfl) ?_
  refine lv_bipush (v := (-9)) hx hb dX2_readSleeper_14 (by decide) ?_
  refine lv_icmp_eq (tgt := 28) hx hb dX2_readSleeper_16 (by decide) (fun hc => ?_) (fun hc => ?_)
  · have hd := hd.1 hc
    exact bk_X2_readSleeper_28 C0 hret hj1 hP hS hd (lv_sub hl [1] rfl)
  · have hd := hd.2 hc
    refine lv_aload_n hx hb dX2_readSleeper_19 rfl (lv_at hl 2 rfl) ?_
    refine gf_X2_54_v j1 hj1 C0 hP dX2_readSleeper_20 ?_
    refine lv_bipush (v := 6) hx hb dX2_readSleeper_23 (by decide) ?_
    refine lv_icmp_lt (tgt := 37) hx hb dX2_readSleeper_25 (by decide) (fun hc => ?_) (fun hc => ?_)
    · have hd := hd.1 hc
      refine lv_aload_n hx hb dX2_readSleeper_37 rfl (lv_at hl 1 rfl) ?_
      refine lv_dup hx hb dX2_readSleeper_38 rfl ?_
      refine gf_X2_25 C0 hP dX2_readSleeper_39 ?_
      refine lv_iconst (v := 1) hx hb dX2_readSleeper_42 (by decide) ?_
      refine lv_iadd hx hb dX2_readSleeper_43 ?_
      refine pf_X2_25 C0 hP hS dX2_readSleeper_44 (fun H locs hP hS => ?_)
      refine lv_aload_n hx hb dX2_readSleeper_47 rfl (lv_at hl 1 rfl) ?_
      refine lv_iconst (v := 0) hx hb dX2_readSleeper_48 (by decide) ?_
      refine lv_aload_n hx hb dX2_readSleeper_49 rfl (lv_at hl 2 rfl) ?_
      refine gf_X2_57_v j1 hj1 C0 hP dX2_readSleeper_50 ?_
      refine cl_Vi (n := 2) (rest := []) C0 hP hS (c_X2_readTwoFigures l C0.2.2.1 _ hd) (lwG_V lm_X2_41 li_X2_readTwoFigures lx_X2_readTwoFigures lz_RX2 lc_X2_readTwoFigures) (by decide +kernel) (oE_at h cA _) rfl rfl rfl (Nat.le_of_ble_eq_true rfl) ⟨rfl, rfl⟩ ⟨by decide, by decide⟩ dX2_readSleeper_53 hl.1 ⟨Nat.zero_le _, Nat.zero_le _⟩ (fun r_4 S_4 H locs hd hP hS => ?_)
      refine lv_istore_n (lv' := [(3, .int r_4), (2, .int r_3), (0, .ref (h 1008)), (1, .ref (h (1003 + j1)))]) hx hb dX2_readSleeper_56 rfl hl (by decide) rfl (fun ls hl => ?_)
      refine lv_aload_n hx hb dX2_readSleeper_57 rfl (lv_at hl 2 rfl) ?_
      refine cl_Vi (n := 0) (rest := []) C0 hP hS (c_X2_readFigure l C0.2.2.1 _ hd) (lwG_V lm_X2_60 li_X2_readFigure lx_X2_readFigure lz_RX2 lc_X2_readFigure) (by decide +kernel) (oE_at h cA _) rfl rfl rfl (Nat.le_of_ble_eq_true rfl) ⟨rfl, rfl⟩ ⟨by decide, by decide⟩ dX2_readSleeper_58 hl.1 ⟨Nat.zero_le _, Nat.zero_le _⟩ (fun r_5 S_5 H locs hd hP hS => ?_)
      refine lv_istore (lv' := [(4, .int r_5), (3, .int r_4), (2, .int r_3), (0, .ref (h 1008)), (1, .ref (h (1003 + j1)))]) hx hb dX2_readSleeper_61 hl (by decide) rfl (fun ls hl => ?_)
      refine lv_aload_n hx hb dX2_readSleeper_63 rfl (lv_at hl 4 rfl) ?_
      refine lv_iload_n hx hb dX2_readSleeper_64 rfl (lv_at hl 2 rfl) ?_
      refine lv_iload_n hx hb dX2_readSleeper_65 rfl (lv_at hl 1 rfl) ?_
      refine lv_iload hx hb dX2_readSleeper_66 (lv_at hl 0 rfl) ?_
      refine cl_VNv (n := 3) (rest := []) C0 hP hS (c_X1_addSleeper l C0.2.2.1 hj1 _ hd) (lwG_C lc_X1_addSleeper) (by decide +kernel : (RX2, 64, yX1_addSleeper, "DreamTrain") ∈ nestM) lz_RX1 li_X1_addSleeper lx_X1_addSleeper (by decide +kernel) (oL_at h cA _ j1 hj1) rfl rfl rfl (Nat.le_of_ble_eq_true rfl) ⟨rfl, rfl⟩ ⟨by decide, by decide⟩ dX2_readSleeper_68 hl.1 ⟨Nat.zero_le _, Nat.zero_le _⟩ (fun S_6 H locs hd hP hS => ?_)
      exact hret _ _ _ _ _ hd hP hS dX2_readSleeper_71
    · have hd := hd.2 hc
      exact bk_X2_readSleeper_28 C0 hret hj1 hP hS hd (lv_sub hl [1] rfl)
theorem c_X2_readSleeper (l : Launch) {D : va_G} {cA : Nat → ClassId} {h : Nat → Nat} (hk : ky keysC h) {j1 : Nat} (hj1 : j1 < 5) {S : sT} (sz : Nat) {Q : sT → Prop} (hd : wp_X2_readSleeper j1 S Q) : Met l yX2_readSleeper (wsU yX2_readSleeper cX2_readSleeper 5 none) rm_X2_readSleeper (va_Pc [.ref (h 1008), .ref (h (1003 + j1))] (gP D cA true keysC h (wC h cA) S sz)) (va_Qv Q (wB D (wC h cA)) (aK keysC h sz)) 0 0 (aK keysC h sz) :=
  mk_v (by decide) hk (Nat.le_of_ble_eq_true rfl) (fun p e s m below meth c Z ls C0 hret hP hS hl => bk_X2_readSleeper C0 hret hj1 hP hS hd hl)
abbrev rm_X2_readInto : Room := { frames := 4, cells := 0, slots := 0, locals := 90 }
def wb_X2_readInto_86 (j1 : Nat) (k2 : Nat) (Q : Int32 → sT → Prop) (K34 : Int32 → sT → Prop) (x4 : Int32) (S : sT) : Prop :=
  K34 (x4 + (1 : Int32)) S
set_option maxHeartbeats 4000000 in
set_option maxRecDepth 100000 in
theorem bk_X2_readInto_86 {p : Program} {l : Launch} {e : Env} {s : State} {m : MethodId} {args : Array Value} {below : List Frame} {meth : Method} {c : Code} {Z : State → Prop} {D : va_G} {cA : Nat → ClassId} {h : Nat → Nat} {Q : Int32 → sT → Prop} {j1 : Nat} {k2 : Nat} (C0 : cx p s m args c cX2_readInto 5 RX2 D cA true keysC h) (hret : rtI p l e rm_X2_readInto s m args below meth c cX2_readInto Z D (wC h cA) (aK keysC h s.heap.size) Q) (hj1 : j1 < 5) (hk2 : k2 ∈ keysCI) {K34 : Int32 → sT → Prop} (k34 : ∀ (x4 : Int32) (S : sT) (H : Heap) (locs : List Loc) (ls : Array Slot), K34 x4 S → va_P D vwCl (wC h cA S) H → va_S (aK keysC h s.heap.size) s.heap H locs → lv_has ls 5 [(0, .ref (h 1008)), (1, .ref (h (1003 + j1))), (4, .int x4)] → W p l e rm_X2_readInto s m args below meth c H locs 0 0 Z (F0 m 34 ls [])) {x4 : Int32} {S : sT} {H : Heap} {locs : List Loc} {ls : Array Slot} (hP : va_P D vwCl (wC h cA S) H) (hS : va_S (aK keysC h s.heap.size) s.heap H locs) (hd : wb_X2_readInto_86 j1 k2 Q K34 x4 S) (hl : lv_has ls 5 [(0, .ref (h 1008)), (1, .ref (h (1003 + j1))), (4, .int x4)]) : W p l e rm_X2_readInto s m args below meth c H locs 0 0 Z (F0 m 86 ls []) := by
  obtain ⟨⟨hx, hb, hml, hown, hts⟩, hK, -, -⟩ := id C0
  unfold wb_X2_readInto_86 at hd
  refine lv_iinc (v := x4 + (1 : Int32)) (lv' := [(4, .int (x4 + (1 : Int32))), (0, .ref (h 1008)), (1, .ref (h (1003 + j1)))]) hx hb dX2_readInto_86 hl (k := 2) rfl rfl (by decide) rfl (fun ls hl => ?_)
  refine lv_goto (tgt := 34) hx hb dX2_readInto_89 (by decide) ?_
  exact k34 _ _ _ _ _ hd hP hS (lv_sub hl [1, 2, 0] rfl)
def wb_X2_readInto_92 (j1 : Nat) (k2 : Nat) (Q : Int32 → sT → Prop) (S : sT) : Prop :=
  Q (vI S 103) S
set_option maxHeartbeats 4000000 in
set_option maxRecDepth 100000 in
theorem bk_X2_readInto_92 {p : Program} {l : Launch} {e : Env} {s : State} {m : MethodId} {args : Array Value} {below : List Frame} {meth : Method} {c : Code} {Z : State → Prop} {D : va_G} {cA : Nat → ClassId} {h : Nat → Nat} {Q : Int32 → sT → Prop} {j1 : Nat} {k2 : Nat} (C0 : cx p s m args c cX2_readInto 5 RX2 D cA true keysC h) (hret : rtI p l e rm_X2_readInto s m args below meth c cX2_readInto Z D (wC h cA) (aK keysC h s.heap.size) Q) (hj1 : j1 < 5) (hk2 : k2 ∈ keysCI) {S : sT} {H : Heap} {locs : List Loc} {ls : Array Slot} (hP : va_P D vwCl (wC h cA S) H) (hS : va_S (aK keysC h s.heap.size) s.heap H locs) (hd : wb_X2_readInto_92 j1 k2 Q S) (hl : lv_has ls 5 [(0, .ref (h 1008))]) : W p l e rm_X2_readInto s m args below meth c H locs 0 0 Z (F0 m 92 ls []) := by
  obtain ⟨⟨hx, hb, hml, hown, hts⟩, hK, -, -⟩ := id C0
  unfold wb_X2_readInto_92 at hd
  refine lv_aload_n hx hb dX2_readInto_92 rfl (lv_at hl 0 rfl) ?_
  refine gf_X2_28 C0 hP dX2_readInto_93 ?_
  exact hret _ _ _ _ _ _ hd hP hS dX2_readInto_96
def wb_X2_readInto_34 (j1 : Nat) (k2 : Nat) (Q : Int32 → sT → Prop) (K34 : Int32 → sT → Prop) (x4 : Int32) (S : sT) : Prop :=
  (((6 : Int32) < x4 → wb_X2_readInto_92 j1 k2 Q S) ∧ (¬ (6 : Int32) < x4 → ((¬ (vI S 103) = (-9 : Int32) → wb_X2_readInto_92 j1 k2 Q S) ∧ ((vI S 103) = (-9 : Int32) → wp_X2_passBlanks S (fun S_1 => (((vI S_1 101) ≤ (vI S_1 102) → ((¬ x4 = 0 → wb_X2_readInto_86 j1 k2 Q K34 x4 S_1) ∧ (x4 = 0 → wb_X2_readInto_86 j1 k2 Q K34 x4 (uI S_1 103 (vI S_1 101))))) ∧ (¬ (vI S_1 101) ≤ (vI S_1 102) → wp_X2_readSleeper j1 S_1 (fun S_2 => wb_X2_readInto_86 j1 k2 Q K34 x4 S_2))))))))
set_option maxHeartbeats 4000000 in
set_option maxRecDepth 100000 in
theorem bk_X2_readInto_34 {p : Program} {l : Launch} {e : Env} {s : State} {m : MethodId} {args : Array Value} {below : List Frame} {meth : Method} {c : Code} {Z : State → Prop} {D : va_G} {cA : Nat → ClassId} {h : Nat → Nat} {Q : Int32 → sT → Prop} {j1 : Nat} {k2 : Nat} (C0 : cx p s m args c cX2_readInto 5 RX2 D cA true keysC h) (hret : rtI p l e rm_X2_readInto s m args below meth c cX2_readInto Z D (wC h cA) (aK keysC h s.heap.size) Q) (hj1 : j1 < 5) (hk2 : k2 ∈ keysCI) {K34 : Int32 → sT → Prop} (k34 : ∀ (x4 : Int32) (S : sT) (H : Heap) (locs : List Loc) (ls : Array Slot), K34 x4 S → va_P D vwCl (wC h cA S) H → va_S (aK keysC h s.heap.size) s.heap H locs → lv_has ls 5 [(0, .ref (h 1008)), (1, .ref (h (1003 + j1))), (4, .int x4)] → W p l e rm_X2_readInto s m args below meth c H locs 0 0 Z (F0 m 34 ls [])) {x4 : Int32} {S : sT} {H : Heap} {locs : List Loc} {ls : Array Slot} (hP : va_P D vwCl (wC h cA S) H) (hS : va_S (aK keysC h s.heap.size) s.heap H locs) (hd : wb_X2_readInto_34 j1 k2 Q K34 x4 S) (hl : lv_has ls 5 [(0, .ref (h 1008)), (1, .ref (h (1003 + j1))), (4, .int x4)]) : W p l e rm_X2_readInto s m args below meth c H locs 0 0 Z (F0 m 34 ls []) := by
  obtain ⟨⟨hx, hb, hml, hown, hts⟩, hK, -, -⟩ := id C0
  unfold wb_X2_readInto_34 at hd
  refine lv_iload hx hb dX2_readInto_34 (lv_at hl 2 rfl) ?_
  refine lv_bipush (v := 6) hx hb dX2_readInto_36 (by decide) ?_
  refine lv_icmp_gt (tgt := 92) hx hb dX2_readInto_38 (by decide) (fun hc => ?_) (fun hc => ?_)
  · have hd := hd.1 hc
    exact bk_X2_readInto_92 C0 hret hj1 hk2 hP hS hd (lv_sub hl [0] rfl)
  · have hd := hd.2 hc
    refine lv_aload_n hx hb dX2_readInto_41 rfl (lv_at hl 0 rfl) ?_
    refine gf_X2_28 C0 hP dX2_readInto_42 ?_
    refine lv_bipush (v := (-9)) hx hb dX2_readInto_45 (by decide) ?_
    refine lv_icmp_ne (tgt := 92) hx hb dX2_readInto_47 (by decide) (fun hc => ?_) (fun hc => ?_)
    · have hd := hd.1 hc
      exact bk_X2_readInto_92 C0 hret hj1 hk2 hP hS hd (lv_sub hl [0] rfl)
    · have hd := hd.2 hc
      refine lv_aload_n hx hb dX2_readInto_50 rfl (lv_at hl 0 rfl) ?_
      refine cl_Vv (n := 0) (rest := []) C0 hP hS (c_X2_passBlanks l C0.2.2.1 _ hd) (lwG_V lm_X2_35 li_X2_passBlanks lx_X2_passBlanks lz_RX2 lc_X2_passBlanks) (by decide +kernel) (oE_at h cA _) rfl rfl rfl (Nat.le_of_ble_eq_true rfl) ⟨rfl, rfl⟩ ⟨by decide, by decide⟩ dX2_readInto_51 hl.1 ⟨Nat.zero_le _, Nat.zero_le _⟩ (fun S_1 H locs hd hP hS => ?_)
      refine lv_aload_n hx hb dX2_readInto_54 rfl (lv_at hl 0 rfl) ?_
      refine gf_X2_25 C0 hP dX2_readInto_55 ?_
      refine lv_aload_n hx hb dX2_readInto_58 rfl (lv_at hl 0 rfl) ?_
      refine gf_X2_21 C0 hP dX2_readInto_59 ?_
      refine lv_icmp_ge (tgt := 73) hx hb dX2_readInto_62 (by decide) (fun hc => ?_) (fun hc => ?_)
      · have hd := hd.1 hc
        refine lv_iload hx hb dX2_readInto_73 (lv_at hl 2 rfl) ?_
        refine lv_if_ne (tgt := 86) hx hb dX2_readInto_75 (by decide) (fun hc => ?_) (fun hc => ?_)
        · have hd := hd.1 hc
          exact bk_X2_readInto_86 C0 hret hj1 hk2 k34 hP hS hd (lv_sub hl [0, 1, 2] rfl)
        · have hd := hd.2 hc
          refine lv_aload_n hx hb dX2_readInto_78 rfl (lv_at hl 0 rfl) ?_
          refine lv_aload_n hx hb dX2_readInto_79 rfl (lv_at hl 0 rfl) ?_
          refine gf_X2_21 C0 hP dX2_readInto_80 ?_
          refine pf_X2_28 C0 hP hS dX2_readInto_83 (fun H locs hP hS => ?_)
          exact bk_X2_readInto_86 C0 hret hj1 hk2 k34 hP hS hd (lv_sub hl [0, 1, 2] rfl)
      · have hd := hd.2 hc
        refine lv_aload_n hx hb dX2_readInto_65 rfl (lv_at hl 0 rfl) ?_
        refine lv_aload_n hx hb dX2_readInto_66 rfl (lv_at hl 1 rfl) ?_
        refine cl_Vv (n := 1) (rest := []) C0 hP hS (c_X2_readSleeper l C0.2.2.1 hj1 _ hd) (lwG_V lm_X2_38 li_X2_readSleeper lx_X2_readSleeper lz_RX2 lc_X2_readSleeper) (by decide +kernel) (oE_at h cA _) rfl rfl rfl (Nat.le_of_ble_eq_true rfl) ⟨rfl, rfl⟩ ⟨by decide, by decide⟩ dX2_readInto_67 hl.1 ⟨Nat.zero_le _, Nat.zero_le _⟩ (fun S_2 H locs hd hP hS => ?_)
        refine lv_goto (tgt := 86) hx hb dX2_readInto_70 (by decide) ?_
        exact bk_X2_readInto_86 C0 hret hj1 hk2 k34 hP hS hd (lv_sub hl [0, 1, 2] rfl)
def wl_X2_readInto_34 (j1 : Nat) (k2 : Nat) (Q : Int32 → sT → Prop) : Nat → Int32 → sT → Prop
  | 0, _ => fun _ => False
  | n + 1, x4 => fun S => wb_X2_readInto_34 j1 k2 Q (fun x4 S => wl_X2_readInto_34 j1 k2 Q n x4 S) x4 S
theorem bl_X2_readInto_34 {p : Program} {l : Launch} {e : Env} {s : State} {m : MethodId} {args : Array Value} {below : List Frame} {meth : Method} {c : Code} {Z : State → Prop} {D : va_G} {cA : Nat → ClassId} {h : Nat → Nat} {Q : Int32 → sT → Prop} {j1 : Nat} {k2 : Nat} (C0 : cx p s m args c cX2_readInto 5 RX2 D cA true keysC h) (hret : rtI p l e rm_X2_readInto s m args below meth c cX2_readInto Z D (wC h cA) (aK keysC h s.heap.size) Q) (hj1 : j1 < 5) (hk2 : k2 ∈ keysCI) : ∀ (n : Nat) (x4 : Int32) (S : sT) (H : Heap) (locs : List Loc) (ls : Array Slot), va_P D vwCl (wC h cA S) H → va_S (aK keysC h s.heap.size) s.heap H locs → wl_X2_readInto_34 j1 k2 Q n x4 S → lv_has ls 5 [(0, .ref (h 1008)), (1, .ref (h (1003 + j1))), (4, .int x4)] → W p l e rm_X2_readInto s m args below meth c H locs 0 0 Z (F0 m 34 ls []) := by
  intro n
  induction n with
  | zero => intro x4 S H locs ls hP hS hd hl; exact (show False from hd).elim
  | succ n ih => intro x4 S H locs ls hP hS hd hl; exact bk_X2_readInto_34 C0 hret hj1 hk2 (fun x4 S H locs ls hd hP hS hl => ih x4 S H locs ls hP hS hd hl) hP hS hd hl
def wp_X2_readInto (j1 : Nat) (k2 : Nat) (x3 : Int32) (S : sT) (Q : Int32 → sT → Prop) : Prop :=
  wp_X2_readHead j1 (uI (uI (uI (uT S k2) 101 (if (nI (lenC k2)) < x3 then (nI (lenC k2)) else x3)) 102 (0 : Int32)) 103 (-9 : Int32)) (fun S_1 => ∃ n : Nat, wl_X2_readInto_34 j1 k2 Q n (0 : Int32) S_1)
set_option maxHeartbeats 4000000 in
set_option maxRecDepth 100000 in
theorem bk_X2_readInto {p : Program} {l : Launch} {e : Env} {s : State} {m : MethodId} {args : Array Value} {below : List Frame} {meth : Method} {c : Code} {Z : State → Prop} {D : va_G} {cA : Nat → ClassId} {h : Nat → Nat} {Q : Int32 → sT → Prop} {j1 : Nat} {k2 : Nat} (C0 : cx p s m args c cX2_readInto 5 RX2 D cA true keysC h) (hret : rtI p l e rm_X2_readInto s m args below meth c cX2_readInto Z D (wC h cA) (aK keysC h s.heap.size) Q) (hj1 : j1 < 5) (hk2 : k2 ∈ keysCI) {x3 : Int32} {S : sT} {H : Heap} {locs : List Loc} {ls : Array Slot} (hP : va_P D vwCl (wC h cA S) H) (hS : va_S (aK keysC h s.heap.size) s.heap H locs) (hd : wp_X2_readInto j1 k2 x3 S Q) (hl : lv_has ls 5 [(0, .ref (h 1008)), (1, .ref (h (1003 + j1))), (2, .ref (h k2)), (3, .int x3)]) : W p l e rm_X2_readInto s m args below meth c H locs 0 0 Z (F0 m 0 ls []) := by
  obtain ⟨⟨hx, hb, hml, hown, hts⟩, hK, -, -⟩ := id C0
  unfold wp_X2_readInto at hd
  refine lv_aload_n hx hb dX2_readInto_0 rfl (lv_at hl 0 rfl) ?_
  refine lv_aload_n hx hb dX2_readInto_1 rfl (lv_at hl 2 rfl) ?_
  refine pf_X2_9 C0 hP hS dX2_readInto_2 (fun H locs hP hS => ?_)
  refine lv_aload_n hx hb dX2_readInto_5 rfl (lv_at hl 0 rfl) ?_
  refine lv_iload_n hx hb dX2_readInto_6 rfl (lv_at hl 3 rfl) ?_
  refine lv_aload_n hx hb dX2_readInto_7 rfl (lv_at hl 2 rfl) ?_
  refine alC hk2 C0 hP dX2_readInto_8 ?_
  refine va_mmin hx hb (by rw [hml]; exact hl.1.symm) hown (hts _ lm_X2_15) (hts _ ls_mmin) (hts _ lz_RJ9) (hts _ lc_mmin) (by decide) (Nat.le_of_ble_eq_true rfl) (Nat.zero_le _) (Nat.zero_le _) dX2_readInto_9 ?_
  refine pf_X2_21 C0 hP hS dX2_readInto_12 (fun H locs hP hS => ?_)
  refine lv_aload_n hx hb dX2_readInto_15 rfl (lv_at hl 0 rfl) ?_
  refine lv_iconst (v := 0) hx hb dX2_readInto_16 (by decide) ?_
  refine pf_X2_25 C0 hP hS dX2_readInto_17 (fun H locs hP hS => ?_)
  refine lv_aload_n hx hb dX2_readInto_20 rfl (lv_at hl 0 rfl) ?_
  refine lv_bipush (v := (-9)) hx hb dX2_readInto_21 (by decide) ?_
  refine pf_X2_28 C0 hP hS dX2_readInto_23 (fun H locs hP hS => ?_)
  refine lv_aload_n hx hb dX2_readInto_26 rfl (lv_at hl 0 rfl) ?_
  refine lv_aload_n hx hb dX2_readInto_27 rfl (lv_at hl 1 rfl) ?_
  refine cl_Vv (n := 1) (rest := []) C0 hP hS (c_X2_readHead l C0.2.2.1 hj1 _ hd) (lwG_V lm_X2_31 li_X2_readHead lx_X2_readHead lz_RX2 lc_X2_readHead) (by decide +kernel) (oE_at h cA _) rfl rfl rfl (Nat.le_of_ble_eq_true rfl) ⟨rfl, rfl⟩ ⟨by decide, by decide⟩ dX2_readInto_28 hl.1 ⟨Nat.zero_le _, Nat.zero_le _⟩ (fun S_1 H locs hd hP hS => ?_)
  refine lv_iconst (v := 0) hx hb dX2_readInto_31 (by decide) ?_
  refine lv_istore (lv' := [(4, .int (0 : Int32)), (0, .ref (h 1008)), (1, .ref (h (1003 + j1))), (2, .ref (h k2)), (3, .int x3)]) hx hb dX2_readInto_32 hl (by decide) rfl (fun ls hl => ?_)
  obtain ⟨n_2, hd⟩ := hd
  exact bl_X2_readInto_34 C0 hret hj1 hk2 _ _ _ _ _ _ hP hS hd (lv_sub hl [1, 2, 0] rfl)
theorem c_X2_readInto (l : Launch) {D : va_G} {cA : Nat → ClassId} {h : Nat → Nat} (hk : ky keysC h) {j1 : Nat} {k2 : Nat} (hj1 : j1 < 5) (hk2 : k2 ∈ keysCI) {x3 : Int32} {S : sT} (sz : Nat) {Q : Int32 → sT → Prop} (hd : wp_X2_readInto j1 k2 x3 S Q) : Met l yX2_readInto (wsU yX2_readInto cX2_readInto 5 (some .int)) rm_X2_readInto (va_Pc [.ref (h 1008), .ref (h (1003 + j1)), .ref (h k2), .int x3] (gP D cA true keysC h (wC h cA) S sz)) (va_Qi Q (wB D (wC h cA)) (aK keysC h sz)) 0 0 (aK keysC h sz) :=
  mk_i (by decide) hk (Nat.le_of_ble_eq_true rfl) (fun p e s m below meth c Z ls C0 hret hP hS hl => bk_X2_readInto C0 hret hj1 hk2 hP hS hd hl)
