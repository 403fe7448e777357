abbrev rm_X4_on : Room := { frames := 2, cells := 0, slots := 0, locals := 81 }
def wp_X4_on (x1 : Int32) (S : sT) (Q : Int32 → sT → Prop) : Prop :=
  wp_X4_isBelow x1 (3 : Int32) S (fun r_1 S_1 => ((¬ r_1 = 0 → (vp_in x1 3) ∧ ((¬ (vA S_1 5 x1.toNatClampNeg) = 0 → (vp_in x1 3) ∧ wp_X1_become 0 (2 + x1.toNatClampNeg) S_1 (fun S_4 => Q (vI S_4 32) S_4)) ∧ ((vA S_1 5 x1.toNatClampNeg) = 0 → wp_X4_found (1 : Int32) S_1 (fun r_5 S_5 => Q r_5 S_5)))) ∧ (r_1 = 0 → Q (-1 : Int32) S_1)))
set_option maxHeartbeats 4000000 in
set_option maxRecDepth 100000 in
theorem bk_X4_on {p : Program} {l : Launch} {e : Env} {s : State} {m : MethodId} {args : Array Value} {below : List Frame} {meth : Method} {c : Code} {Z : State → Prop} {D : va_G} {cA : Nat → ClassId} {h : Nat → Nat} {Q : Int32 → sT → Prop} (C0 : cx p s m args c cX4_on 2 RX4 D cA true keysC h) (hret : rtI p l e rm_X4_on s m args below meth c cX4_on Z D (wC h cA) (aK keysC h s.heap.size) Q) {x1 : Int32} {S : sT} {H : Heap} {locs : List Loc} {ls : Array Slot} (hP : va_P D vwCl (wC h cA S) H) (hS : va_S (aK keysC h s.heap.size) s.heap H locs) (hd : wp_X4_on x1 S Q) (hl : lv_has ls 2 [(0, .ref (h 1000)), (1, .int x1)]) : W p l e rm_X4_on s m args below meth c H locs 0 0 Z (F0 m 0 ls []) := by
  obtain ⟨⟨hx, hb, hml, hown, hts⟩, hK, -, -⟩ := id C0
  unfold wp_X4_on at hd
  refine lv_iload_n hx hb dX4_on_0 rfl (lv_at hl 1 rfl) ?_
  refine lv_iconst (v := 3) hx hb dX4_on_1 (by decide) ?_
  refine cl_Si (n := 2) (rest := []) C0 hP hS (c_X4_isBelow l C0.2.2.1 _ hd) (lwG_S lm_X4_132 ls_X4_isBelow lz_RX4 lc_X4_isBelow) (by decide +kernel) rfl rfl (Nat.le_of_ble_eq_true rfl) ⟨rfl, rfl⟩ ⟨by decide, by decide⟩ dX4_on_2 hl.1 ⟨Nat.zero_le _, Nat.zero_le _⟩ (fun r_1 S_1 H locs hd hP hS => ?_)
  refine lv_if_ne (tgt := 10) hx hb dX4_on_5 (by decide) (fun hc => ?_) (fun hc => ?_)
  · have hd := hd.1 hc
    refine lv_aload_n hx hb dX4_on_10 rfl (lv_at hl 0 rfl) ?_
    refine gf_X4_35 C0 hP dX4_on_11 ?_
    refine lv_iload_n hx hb dX4_on_14 rfl (lv_at hl 1 rfl) ?_
    obtain ⟨h_2, hd⟩ := hd
    refine ldZ C0 hP h_2 dX4_on_15 ?_
    refine lv_if_ne (tgt := 25) hx hb dX4_on_16 (by decide) (fun hc => ?_) (fun hc => ?_)
    · have hd := hd.1 hc
      refine lv_aload_n hx hb dX4_on_25 rfl (lv_at hl 0 rfl) ?_
      refine gf_X4_24 C0 hP dX4_on_26 ?_
      refine lv_aload_n hx hb dX4_on_29 rfl (lv_at hl 0 rfl) ?_
      refine gf_X4_31 C0 hP dX4_on_30 ?_
      refine lv_iload_n hx hb dX4_on_33 rfl (lv_at hl 1 rfl) ?_
      obtain ⟨h_3, hd⟩ := hd
      refine ao_1015 C0 hP h_3 dX4_on_34 ?_
      refine cl_VNv (n := 1) (rest := []) C0 hP hS (c_X1_become l C0.2.2.1 (by decide) (by have h9 := vp_lt h_3; omega) _ hd) (lwG_C lc_X1_become) (by decide +kernel : (RX4, 125, yX1_become, "DreamTrain") ∈ nestM) lz_RX1 li_X1_become lx_X1_become (by decide +kernel) (oL_at h cA _ 0 (by decide)) rfl rfl rfl (Nat.le_of_ble_eq_true rfl) ⟨rfl, rfl⟩ ⟨by decide, by decide⟩ dX4_on_35 hl.1 ⟨Nat.zero_le _, Nat.zero_le _⟩ (fun S_4 H locs hd hP hS => ?_)
      refine lv_aload_n hx hb dX4_on_38 rfl (lv_at hl 0 rfl) ?_
      refine gf_X4_24 C0 hP dX4_on_39 ?_
      refine gf_X4_187_0 C0 hP dX4_on_42 ?_
      exact hret _ _ _ _ _ _ hd hP hS dX4_on_45
    · have hd := hd.2 hc
      refine lv_aload_n hx hb dX4_on_19 rfl (lv_at hl 0 rfl) ?_
      refine lv_iconst (v := 1) hx hb dX4_on_20 (by decide) ?_
      refine cl_Vi (n := 1) (rest := []) C0 hP hS (c_X4_found l C0.2.2.1 _ hd) (lwG_V lm_X4_82 li_X4_found lx_X4_found lz_RX4 lc_X4_found) (by decide +kernel) (oD_at h cA _) rfl rfl rfl (Nat.le_of_ble_eq_true rfl) ⟨rfl, rfl⟩ ⟨by decide, by decide⟩ dX4_on_21 hl.1 ⟨Nat.zero_le _, Nat.zero_le _⟩ (fun r_5 S_5 H locs hd hP hS => ?_)
      exact hret _ _ _ _ _ _ hd hP hS dX4_on_24
  · have hd := hd.2 hc
    refine lv_iconst (v := (-1)) hx hb dX4_on_8 (by decide) ?_
    exact hret _ _ _ _ _ _ hd hP hS dX4_on_9
theorem c_X4_on (l : Launch) {D : va_G} {cA : Nat → ClassId} {h : Nat → Nat} (hk : ky keysC h) {x1 : Int32} {S : sT} (sz : Nat) {Q : Int32 → sT → Prop} (hd : wp_X4_on x1 S Q) : Met l yX4_on (wsU yX4_on cX4_on 2 (some .int)) rm_X4_on (va_Pc [.ref (h 1000), .int x1] (gP D cA true keysC h (wC h cA) S sz)) (va_Qi Q (wB D (wC h cA)) (aK keysC h sz)) 0 0 (aK keysC h sz) :=
  mk_i (by decide) hk (Nat.le_of_ble_eq_true rfl) (fun p e s m below meth c Z ls C0 hret hP hS hl => bk_X4_on C0 hret hP hS hd hl)
abbrev rm_X4_put : Room := { frames := 5, cells := 0, slots := 0, locals := 109 }
def wp_X4_put (x1 : Int32) (x2 : Int32) (x3 : Int32) (S : sT) (Q : Int32 → sT → Prop) : Prop :=
  wp_X4_refusalOfCell 1 x1 x2 S (fun r_1 S_1 => ((r_1 = 0 → (vp_in x1 4) ∧ (vp_in x2 60) ∧ (vp_in x1 4) ∧ (vp_in x2 60) ∧ Q ((vA S_1 (310 + x1.toNatClampNeg) x2.toNatClampNeg) + (1000 : Int32)) (uA S_1 (310 + x1.toNatClampNeg) (upd (vA S_1 (310 + x1.toNatClampNeg)) x2.toNatClampNeg x3.toInt8.toInt32))) ∧ (¬ r_1 = 0 → Q r_1 S_1)))
set_option maxHeartbeats 4000000 in
set_option maxRecDepth 100000 in
theorem bk_X4_put {p : Program} {l : Launch} {e : Env} {s : State} {m : MethodId} {args : Array Value} {below : List Frame} {meth : Method} {c : Code} {Z : State → Prop} {D : va_G} {cA : Nat → ClassId} {h : Nat → Nat} {Q : Int32 → sT → Prop} (C0 : cx p s m args c cX4_put 6 RX4 D cA true keysC h) (hret : rtI p l e rm_X4_put s m args below meth c cX4_put Z D (wC h cA) (aK keysC h s.heap.size) Q) {x1 : Int32} {x2 : Int32} {x3 : Int32} {S : sT} {H : Heap} {locs : List Loc} {ls : Array Slot} (hP : va_P D vwCl (wC h cA S) H) (hS : va_S (aK keysC h s.heap.size) s.heap H locs) (hd : wp_X4_put x1 x2 x3 S Q) (hl : lv_has ls 6 [(0, .ref (h 1000)), (1, .int x1), (2, .int x2), (3, .int x3)]) : W p l e rm_X4_put s m args below meth c H locs 0 0 Z (F0 m 0 ls []) := by
  obtain ⟨⟨hx, hb, hml, hown, hts⟩, hK, -, -⟩ := id C0
  unfold wp_X4_put at hd
  refine lv_aload_n hx hb dX4_put_0 rfl (lv_at hl 0 rfl) ?_
  refine lv_aload_n hx hb dX4_put_1 rfl (lv_at hl 0 rfl) ?_
  refine gf_X4_18 C0 hP dX4_put_2 ?_
  refine lv_iload_n hx hb dX4_put_5 rfl (lv_at hl 1 rfl) ?_
  refine lv_iload_n hx hb dX4_put_6 rfl (lv_at hl 2 rfl) ?_
  refine cl_Vi (n := 3) (rest := []) C0 hP hS (c_X4_refusalOfCell l C0.2.2.1 (by decide) _ hd) (lwG_V lm_X4_90 li_X4_refusalOfCell lx_X4_refusalOfCell lz_RX4 lc_X4_refusalOfCell) (by decide +kernel) (oD_at h cA _) rfl rfl rfl (Nat.le_of_ble_eq_true rfl) ⟨rfl, rfl⟩ ⟨by decide, by decide⟩ dX4_put_7 hl.1 ⟨Nat.zero_le _, Nat.zero_le _⟩ (fun r_1 S_1 H locs hd hP hS => ?_)
  refine lv_istore (lv' := [(4, .int r_1), (0, .ref (h 1000)), (1, .int x1), (2, .int x2), (3, .int x3)]) hx hb dX4_put_10 hl (by decide) rfl (fun ls hl => ?_)
  refine lv_iload hx hb dX4_put_12 (lv_at hl 0 rfl) ?_
  refine lv_if_eq (tgt := 20) hx hb dX4_put_14 (by decide) (fun hc => ?_) (fun hc => ?_)
  · have hd := hd.1 hc
    refine lv_aload_n hx hb dX4_put_20 rfl (lv_at hl 1 rfl) ?_
    refine gf_X4_18 C0 hP dX4_put_21 ?_
    refine gf_X4_94_1 C0 hP dX4_put_24 ?_
    refine lv_iload_n hx hb dX4_put_27 rfl (lv_at hl 2 rfl) ?_
    obtain ⟨h_2, hd⟩ := hd
    refine ao_1011 C0 hP h_2 dX4_put_28 ?_
    refine lv_iload_n hx hb dX4_put_29 rfl (lv_at hl 3 rfl) ?_
    obtain ⟨h_3, hd⟩ := hd
    refine ldC (kRow1 _ (vp_lt h_2)) C0 hP (by rw [lRow1 _ (vp_lt h_2)]; exact h_3) dX4_put_30 ?_
    refine lv_istore (lv' := [(5, .int (vA S_1 (310 + x1.toNatClampNeg) x2.toNatClampNeg)), (4, .int r_1), (0, .ref (h 1000)), (1, .int x1), (2, .int x2), (3, .int x3)]) hx hb dX4_put_31 hl (by decide) rfl (fun ls hl => ?_)
    refine lv_aload_n hx hb dX4_put_33 rfl (lv_at hl 2 rfl) ?_
    refine gf_X4_18 C0 hP dX4_put_34 ?_
    refine gf_X4_94_1 C0 hP dX4_put_37 ?_
    refine lv_iload_n hx hb dX4_put_40 rfl (lv_at hl 3 rfl) ?_
    obtain ⟨h_4, hd⟩ := hd
    refine ao_1011 C0 hP h_4 dX4_put_41 ?_
    refine lv_iload_n hx hb dX4_put_42 rfl (lv_at hl 4 rfl) ?_
    refine lv_iload_n hx hb dX4_put_43 rfl (lv_at hl 5 rfl) ?_
    refine lv_i2b hx hb dX4_put_44 rfl ?_
    obtain ⟨h_5, hd⟩ := hd
    refine stC (kRow1 _ (vp_lt h_4)) C0 hP hS (by rw [lRow1 _ (vp_lt h_4)]; exact h_5) dX4_put_45 (fun H locs hP hS => ?_)
    refine lv_iload hx hb dX4_put_46 (lv_at hl 0 rfl) ?_
    refine lv_sipush (v := 1000) hx hb dX4_put_48 (by decide) ?_
    refine lv_iadd hx hb dX4_put_51 ?_
    exact hret _ _ _ _ _ _ hd hP hS dX4_put_52
  · have hd := hd.2 hc
    refine lv_iload hx hb dX4_put_17 (lv_at hl 0 rfl) ?_
    exact hret _ _ _ _ _ _ hd hP hS dX4_put_19
theorem c_X4_put (l : Launch) {D : va_G} {cA : Nat → ClassId} {h : Nat → Nat} (hk : ky keysC h) {x1 : Int32} {x2 : Int32} {x3 : Int32} {S : sT} (sz : Nat) {Q : Int32 → sT → Prop} (hd : wp_X4_put x1 x2 x3 S Q) : Met l yX4_put (wsU yX4_put cX4_put 6 (some .int)) rm_X4_put (va_Pc [.ref (h 1000), .int x1, .int x2, .int x3] (gP D cA true keysC h (wC h cA) S sz)) (va_Qi Q (wB D (wC h cA)) (aK keysC h sz)) 0 0 (aK keysC h sz) :=
  mk_i (by decide) hk (Nat.le_of_ble_eq_true rfl) (fun p e s m below meth c Z ls C0 hret hP hS hl => bk_X4_put C0 hret hP hS hd hl)
abbrev rm_X4_row : Room := { frames := 2, cells := 0, slots := 0, locals := 46 }
def wp_X4_row (x1 : Int32) (x2 : Int32) (S : sT) (Q : Int32 → sT → Prop) : Prop :=
  wp_X3_bears 0 x1 S (fun r_1 S_1 => ((r_1 = 0 → Q (-1 : Int32) S_1) ∧ (¬ r_1 = 0 → ((x2 ≤ (40 : Int32) → ((0 ≤ x2 → wp_X3_layOut 0 x1 x2 (0 : Int32) S_1 (fun S_2 => Q x2 S_2)) ∧ (¬ 0 ≤ x2 → wp_X4_found (5 : Int32) S_1 (fun r_3 S_3 => Q r_3 S_3)))) ∧ (¬ x2 ≤ (40 : Int32) → Q (-1 : Int32) S_1)))))
set_option maxHeartbeats 4000000 in
set_option maxRecDepth 100000 in
theorem bk_X4_row {p : Program} {l : Launch} {e : Env} {s : State} {m : MethodId} {args : Array Value} {below : List Frame} {meth : Method} {c : Code} {Z : State → Prop} {D : va_G} {cA : Nat → ClassId} {h : Nat → Nat} {Q : Int32 → sT → Prop} (C0 : cx p s m args c cX4_row 3 RX4 D cA true keysC h) (hret : rtI p l e rm_X4_row s m args below meth c cX4_row Z D (wC h cA) (aK keysC h s.heap.size) Q) {x1 : Int32} {x2 : Int32} {S : sT} {H : Heap} {locs : List Loc} {ls : Array Slot} (hP : va_P D vwCl (wC h cA S) H) (hS : va_S (aK keysC h s.heap.size) s.heap H locs) (hd : wp_X4_row x1 x2 S Q) (hl : lv_has ls 3 [(0, .ref (h 1000)), (1, .int x1), (2, .int x2)]) : W p l e rm_X4_row s m args below meth c H locs 0 0 Z (F0 m 0 ls []) := by
  obtain ⟨⟨hx, hb, hml, hown, hts⟩, hK, -, -⟩ := id C0
  unfold wp_X4_row at hd
  refine lv_aload_n hx hb dX4_row_0 rfl (lv_at hl 0 rfl) ?_
  refine gf_X4_14 C0 hP dX4_row_1 ?_
  refine lv_iload_n hx hb dX4_row_4 rfl (lv_at hl 1 rfl) ?_
  refine cl_VNi (n := 1) (rest := []) C0 hP hS (c_X3_bears l C0.2.2.1 (by decide) _ hd) (lwG_C lc_X3_bears) (by decide +kernel : (RX4, 78, yX3_bears, "DreamTrain") ∈ nestM) lz_RX3 li_X3_bears lx_X3_bears (by decide +kernel) (oS_at h cA _ 0 (by decide)) rfl rfl rfl (Nat.le_of_ble_eq_true rfl) ⟨rfl, rfl⟩ ⟨by decide, by decide⟩ dX4_row_5 hl.1 ⟨Nat.zero_le _, Nat.zero_le _⟩ (fun r_1 S_1 H locs hd hP hS => ?_)
  refine lv_if_eq (tgt := 17) hx hb dX4_row_8 (by decide) (fun hc => ?_) (fun hc => ?_)
  · have hd := hd.1 hc
    refine lv_iconst (v := (-1)) hx hb dX4_row_17 (by decide) ?_
    exact hret _ _ _ _ _ _ hd hP hS dX4_row_18
  · have hd := hd.2 hc
    refine lv_iload_n hx hb dX4_row_11 rfl (lv_at hl 2 rfl) ?_
    refine lv_bipush (v := 40) hx hb dX4_row_12 (by decide) ?_
    refine lv_icmp_le (tgt := 19) hx hb dX4_row_14 (by decide) (fun hc => ?_) (fun hc => ?_)
    · have hd := hd.1 hc
      refine lv_iload_n hx hb dX4_row_19 rfl (lv_at hl 2 rfl) ?_
      refine lv_if_ge (tgt := 29) hx hb dX4_row_20 (by decide) (fun hc => ?_) (fun hc => ?_)
      · have hd := hd.1 hc
        refine lv_aload_n hx hb dX4_row_29 rfl (lv_at hl 0 rfl) ?_
        refine gf_X4_14 C0 hP dX4_row_30 ?_
        refine lv_iload_n hx hb dX4_row_33 rfl (lv_at hl 1 rfl) ?_
        refine lv_iload_n hx hb dX4_row_34 rfl (lv_at hl 2 rfl) ?_
        refine lv_iconst (v := 0) hx hb dX4_row_35 (by decide) ?_
        refine cl_VNv (n := 3) (rest := []) C0 hP hS (c_X3_layOut l C0.2.2.1 (by decide) _ hd) (lwG_C lc_X3_layOut) (by decide +kernel : (RX4, 86, yX3_layOut, "DreamTrain") ∈ nestM) lz_RX3 li_X3_layOut lx_X3_layOut (by decide +kernel) (oS_at h cA _ 0 (by decide)) rfl rfl rfl (Nat.le_of_ble_eq_true rfl) ⟨rfl, rfl⟩ ⟨by decide, by decide⟩ dX4_row_36 hl.1 ⟨Nat.zero_le _, Nat.zero_le _⟩ (fun S_2 H locs hd hP hS => ?_)
        refine lv_iload_n hx hb dX4_row_39 rfl (lv_at hl 2 rfl) ?_
        exact hret _ _ _ _ _ _ hd hP hS dX4_row_40
      · have hd := hd.2 hc
        refine lv_aload_n hx hb dX4_row_23 rfl (lv_at hl 0 rfl) ?_
        refine lv_iconst (v := 5) hx hb dX4_row_24 (by decide) ?_
        refine cl_Vi (n := 1) (rest := []) C0 hP hS (c_X4_found l C0.2.2.1 _ hd) (lwG_V lm_X4_82 li_X4_found lx_X4_found lz_RX4 lc_X4_found) (by decide +kernel) (oD_at h cA _) rfl rfl rfl (Nat.le_of_ble_eq_true rfl) ⟨rfl, rfl⟩ ⟨by decide, by decide⟩ dX4_row_25 hl.1 ⟨Nat.zero_le _, Nat.zero_le _⟩ (fun r_3 S_3 H locs hd hP hS => ?_)
        exact hret _ _ _ _ _ _ hd hP hS dX4_row_28
    · have hd := hd.2 hc
      refine lv_iconst (v := (-1)) hx hb dX4_row_17 (by decide) ?_
      exact hret _ _ _ _ _ _ hd hP hS dX4_row_18
theorem c_X4_row (l : Launch) {D : va_G} {cA : Nat → ClassId} {h : Nat → Nat} (hk : ky keysC h) {x1 : Int32} {x2 : Int32} {S : sT} (sz : Nat) {Q : Int32 → sT → Prop} (hd : wp_X4_row x1 x2 S Q) : Met l yX4_row (wsU yX4_row cX4_row 3 (some .int)) rm_X4_row (va_Pc [.ref (h 1000), .int x1, .int x2] (gP D cA true keysC h (wC h cA) S sz)) (va_Qi Q (wB D (wC h cA)) (aK keysC h sz)) 0 0 (aK keysC h sz) :=
  mk_i (by decide) hk (Nat.le_of_ble_eq_true rfl) (fun p e s m below meth c Z ls C0 hret hP hS hl => bk_X4_row C0 hret hP hS hd hl)
abbrev rm_X4_sleeper : Room := { frames := 3, cells := 0, slots := 0, locals := 69 }
def wp_X4_sleeper (x1 : Int32) (x2 : Int32) (S : sT) (Q : Int32 → sT → Prop) : Prop :=
  wp_X4_isBelow x1 (vI S 26) S (fun r_1 S_1 => ((r_1 = 0 → Q (-1 : Int32) S_1) ∧ (¬ r_1 = 0 → wp_X4_isBelow x2 (5 : Int32) S_1 (fun r_2 S_2 => ((¬ r_2 = 0 → wp_X4_toldOfSleeper x1 x2 S_2 (fun r_3 S_3 => Q (1 : Int32) (uI S_3 13 r_3))) ∧ (r_2 = 0 → Q (-1 : Int32) S_2))))))
set_option maxHeartbeats 4000000 in
set_option maxRecDepth 100000 in
theorem bk_X4_sleeper {p : Program} {l : Launch} {e : Env} {s : State} {m : MethodId} {args : Array Value} {below : List Frame} {meth : Method} {c : Code} {Z : State → Prop} {D : va_G} {cA : Nat → ClassId} {h : Nat → Nat} {Q : Int32 → sT → Prop} (C0 : cx p s m args c cX4_sleeper 3 RX4 D cA true keysC h) (hret : rtI p l e rm_X4_sleeper s m args below meth c cX4_sleeper Z D (wC h cA) (aK keysC h s.heap.size) Q) {x1 : Int32} {x2 : Int32} {S : sT} {H : Heap} {locs : List Loc} {ls : Array Slot} (hP : va_P D vwCl (wC h cA S) H) (hS : va_S (aK keysC h s.heap.size) s.heap H locs) (hd : wp_X4_sleeper x1 x2 S Q) (hl : lv_has ls 3 [(0, .ref (h 1000)), (1, .int x1), (2, .int x2)]) : W p l e rm_X4_sleeper s m args below meth c H locs 0 0 Z (F0 m 0 ls []) := by
  obtain ⟨⟨hx, hb, hml, hown, hts⟩, hK, -, -⟩ := id C0
  unfold wp_X4_sleeper at hd
  refine lv_iload_n hx hb dX4_sleeper_0 rfl (lv_at hl 1 rfl) ?_
  refine lv_aload_n hx hb dX4_sleeper_1 rfl (lv_at hl 0 rfl) ?_
  refine gf_X4_24 C0 hP dX4_sleeper_2 ?_
  refine gf_X4_129_0 C0 hP dX4_sleeper_5 ?_
  refine cl_Si (n := 2) (rest := []) C0 hP hS (c_X4_isBelow l C0.2.2.1 _ hd) (lwG_S lm_X4_132 ls_X4_isBelow lz_RX4 lc_X4_isBelow) (by decide +kernel) rfl rfl (Nat.le_of_ble_eq_true rfl) ⟨rfl, rfl⟩ ⟨by decide, by decide⟩ dX4_sleeper_8 hl.1 ⟨Nat.zero_le _, Nat.zero_le _⟩ (fun r_1 S_1 H locs hd hP hS => ?_)
  refine lv_if_eq (tgt := 22) hx hb dX4_sleeper_11 (by decide) (fun hc => ?_) (fun hc => ?_)
  · have hd := hd.1 hc
    refine lv_iconst (v := (-1)) hx hb dX4_sleeper_22 (by decide) ?_
    exact hret _ _ _ _ _ _ hd hP hS dX4_sleeper_23
  · have hd := hd.2 hc
    refine lv_iload_n hx hb dX4_sleeper_14 rfl (lv_at hl 2 rfl) ?_
    refine lv_iconst (v := 5) hx hb dX4_sleeper_15 (by decide) ?_
    refine cl_Si (n := 2) (rest := []) C0 hP hS (c_X4_isBelow l C0.2.2.1 _ hd) (lwG_S lm_X4_132 ls_X4_isBelow lz_RX4 lc_X4_isBelow) (by decide +kernel) rfl rfl (Nat.le_of_ble_eq_true rfl) ⟨rfl, rfl⟩ ⟨by decide, by decide⟩ dX4_sleeper_16 hl.1 ⟨Nat.zero_le _, Nat.zero_le _⟩ (fun r_2 S_2 H locs hd hP hS => ?_)
    refine lv_if_ne (tgt := 24) hx hb dX4_sleeper_19 (by decide) (fun hc => ?_) (fun hc => ?_)
    · have hd := hd.1 hc
      refine lv_aload_n hx hb dX4_sleeper_24 rfl (lv_at hl 0 rfl) ?_
      refine lv_aload_n hx hb dX4_sleeper_25 rfl (lv_at hl 0 rfl) ?_
      refine lv_iload_n hx hb dX4_sleeper_26 rfl (lv_at hl 1 rfl) ?_
      refine lv_iload_n hx hb dX4_sleeper_27 rfl (lv_at hl 2 rfl) ?_
      refine cl_Vi (n := 2) (rest := [.ref (h 1000)]) C0 hP hS (c_X4_toldOfSleeper l C0.2.2.1 _ hd) (lwG_V lm_X4_136 li_X4_toldOfSleeper lx_X4_toldOfSleeper lz_RX4 lc_X4_toldOfSleeper) (by decide +kernel) (oD_at h cA _) rfl rfl rfl (Nat.le_of_ble_eq_true rfl) ⟨rfl, rfl⟩ ⟨by decide, by decide⟩ dX4_sleeper_28 hl.1 ⟨Nat.zero_le _, Nat.zero_le _⟩ (fun r_3 S_3 H locs hd hP hS => ?_)
      refine pf_X4_97 C0 hP hS dX4_sleeper_31 (fun H locs hP hS => ?_)
      refine lv_iconst (v := 1) hx hb dX4_sleeper_34 (by decide) ?_
      exact hret _ _ _ _ _ _ hd hP hS dX4_sleeper_35
    · have hd := hd.2 hc
      refine lv_iconst (v := (-1)) hx hb dX4_sleeper_22 (by decide) ?_
      exact hret _ _ _ _ _ _ hd hP hS dX4_sleeper_23
theorem c_X4_sleeper (l : Launch) {D : va_G} {cA : Nat → ClassId} {h : Nat → Nat} (hk : ky keysC h) {x1 : Int32} {x2 : Int32} {S : sT} (sz : Nat) {Q : Int32 → sT → Prop} (hd : wp_X4_sleeper x1 x2 S Q) : Met l yX4_sleeper (wsU yX4_sleeper cX4_sleeper 3 (some .int)) rm_X4_sleeper (va_Pc [.ref (h 1000), .int x1, .int x2] (gP D cA true keysC h (wC h cA) S sz)) (va_Qi Q (wB D (wC h cA)) (aK keysC h sz)) 0 0 (aK keysC h sz) :=
  mk_i (by decide) hk (Nat.le_of_ble_eq_true rfl) (fun p e s m below meth c Z ls C0 hret hP hS hl => bk_X4_sleeper C0 hret hP hS hd hl)
abbrev rm_X4_stood : Room := { frames := 3, cells := 0, slots := 0, locals := 73 }
def wp_X4_stood (x1 : Int32) (S : sT) (Q : Int32 → sT → Prop) : Prop :=
  wp_X4_isBelow x1 (vI S 26) S (fun r_1 S_1 => ((¬ r_1 = 0 → wp_X0_setOut 0 S_1 (fun S_2 => wp_X0_ride (60 : Int32) (vI S_2 29) S_2 (fun r_3 S_3 => (vp_in x1 6) ∧ wp_X0_minutesAt (vA S_3 21 x1.toNatClampNeg) (60 : Int32) S_3 (fun r_5 S_5 => Q r_5 S_5)))) ∧ (r_1 = 0 → Q (-1 : Int32) S_1)))
set_option maxHeartbeats 4000000 in
set_option maxRecDepth 100000 in
theorem bk_X4_stood {p : Program} {l : Launch} {e : Env} {s : State} {m : MethodId} {args : Array Value} {below : List Frame} {meth : Method} {c : Code} {Z : State → Prop} {D : va_G} {cA : Nat → ClassId} {h : Nat → Nat} {Q : Int32 → sT → Prop} (C0 : cx p s m args c cX4_stood 2 RX4 D cA true keysC h) (hret : rtI p l e rm_X4_stood s m args below meth c cX4_stood Z D (wC h cA) (aK keysC h s.heap.size) Q) {x1 : Int32} {S : sT} {H : Heap} {locs : List Loc} {ls : Array Slot} (hP : va_P D vwCl (wC h cA S) H) (hS : va_S (aK keysC h s.heap.size) s.heap H locs) (hd : wp_X4_stood x1 S Q) (hl : lv_has ls 2 [(0, .ref (h 1000)), (1, .int x1)]) : W p l e rm_X4_stood s m args below meth c H locs 0 0 Z (F0 m 0 ls []) := by
  obtain ⟨⟨hx, hb, hml, hown, hts⟩, hK, -, -⟩ := id C0
  unfold wp_X4_stood at hd
  refine lv_iload_n hx hb dX4_stood_0 rfl (lv_at hl 1 rfl) ?_
  refine lv_aload_n hx hb dX4_stood_1 rfl (lv_at hl 0 rfl) ?_
  refine gf_X4_24 C0 hP dX4_stood_2 ?_
  refine gf_X4_129_0 C0 hP dX4_stood_5 ?_
  refine cl_Si (n := 2) (rest := []) C0 hP hS (c_X4_isBelow l C0.2.2.1 _ hd) (lwG_S lm_X4_132 ls_X4_isBelow lz_RX4 lc_X4_isBelow) (by decide +kernel) rfl rfl (Nat.le_of_ble_eq_true rfl) ⟨rfl, rfl⟩ ⟨by decide, by decide⟩ dX4_stood_8 hl.1 ⟨Nat.zero_le _, Nat.zero_le _⟩ (fun r_1 S_1 H locs hd hP hS => ?_)
  refine lv_if_ne (tgt := 16) hx hb dX4_stood_11 (by decide) (fun hc => ?_) (fun hc => ?_)
  · have hd := hd.1 hc
    refine lv_aload_n hx hb dX4_stood_16 rfl (lv_at hl 0 rfl) ?_
    refine gf_X4_49 C0 hP dX4_stood_17 ?_
    refine lv_aload_n hx hb dX4_stood_20 rfl (lv_at hl 0 rfl) ?_
    refine gf_X4_24 C0 hP dX4_stood_21 ?_
    refine cl_VNv (n := 1) (rest := []) C0 hP hS (c_X0_setOut l C0.2.2.1 (by decide) _ hd) (lwG_C lc_X0_setOut) (by decide +kernel : (RX4, 193, yX0_setOut, "DreamTrain") ∈ nestM) lz_RX0 li_X0_setOut lx_X0_setOut (by decide +kernel) (oJ_at h cA _) rfl rfl rfl (Nat.le_of_ble_eq_true rfl) ⟨rfl, rfl⟩ ⟨by decide, by decide⟩ dX4_stood_24 hl.1 ⟨Nat.zero_le _, Nat.zero_le _⟩ (fun S_2 H locs hd hP hS => ?_)
    refine lv_aload_n hx hb dX4_stood_27 rfl (lv_at hl 0 rfl) ?_
    refine gf_X4_49 C0 hP dX4_stood_28 ?_
    refine lv_bipush (v := 60) hx hb dX4_stood_31 (by decide) ?_
    refine lv_aload_n hx hb dX4_stood_33 rfl (lv_at hl 0 rfl) ?_
    refine gf_X4_24 C0 hP dX4_stood_34 ?_
    refine gf_X4_196_0 C0 hP dX4_stood_37 ?_
    refine cl_VNi (n := 2) (rest := []) C0 hP hS (c_X0_ride l C0.2.2.1 _ hd) (lwG_C lc_X0_ride) (by decide +kernel : (RX4, 199, yX0_ride, "DreamTrain") ∈ nestM) lz_RX0 li_X0_ride lx_X0_ride (by decide +kernel) (oJ_at h cA _) rfl rfl rfl (Nat.le_of_ble_eq_true rfl) ⟨rfl, rfl⟩ ⟨by decide, by decide⟩ dX4_stood_40 hl.1 ⟨Nat.zero_le _, Nat.zero_le _⟩ (fun r_3 S_3 H locs hd hP hS => ?_)
    refine lv_pop hx hb dX4_stood_43 rfl ?_
    refine lv_aload_n hx hb dX4_stood_44 rfl (lv_at hl 0 rfl) ?_
    refine gf_X4_49 C0 hP dX4_stood_45 ?_
    refine lv_aload_n hx hb dX4_stood_48 rfl (lv_at hl 0 rfl) ?_
    refine gf_X4_24 C0 hP dX4_stood_49 ?_
    refine gf_X4_208_0 C0 hP dX4_stood_52 ?_
    refine lv_iload_n hx hb dX4_stood_55 rfl (lv_at hl 1 rfl) ?_
    obtain ⟨h_4, hd⟩ := hd
    refine ldC (by decide) C0 hP h_4 dX4_stood_56 ?_
    refine lv_bipush (v := 60) hx hb dX4_stood_57 (by decide) ?_
    refine cl_VNi (n := 2) (rest := []) C0 hP hS (c_X0_minutesAt l C0.2.2.1 _ hd) (lwG_C lc_X0_minutesAt) (by decide +kernel : (RX4, 211, yX0_minutesAt, "DreamTrain") ∈ nestM) lz_RX0 li_X0_minutesAt lx_X0_minutesAt (by decide +kernel) (oJ_at h cA _) rfl rfl rfl (Nat.le_of_ble_eq_true rfl) ⟨rfl, rfl⟩ ⟨by decide, by decide⟩ dX4_stood_59 hl.1 ⟨Nat.zero_le _, Nat.zero_le _⟩ (fun r_5 S_5 H locs hd hP hS => ?_)
    exact hret _ _ _ _ _ _ hd hP hS dX4_stood_62
  · have hd := hd.2 hc
    refine lv_iconst (v := (-1)) hx hb dX4_stood_14 (by decide) ?_
    exact hret _ _ _ _ _ _ hd hP hS dX4_stood_15
theorem c_X4_stood (l : Launch) {D : va_G} {cA : Nat → ClassId} {h : Nat → Nat} (hk : ky keysC h) {x1 : Int32} {S : sT} (sz : Nat) {Q : Int32 → sT → Prop} (hd : wp_X4_stood x1 S Q) : Met l yX4_stood (wsU yX4_stood cX4_stood 2 (some .int)) rm_X4_stood (va_Pc [.ref (h 1000), .int x1] (gP D cA true keysC h (wC h cA) S sz)) (va_Qi Q (wB D (wC h cA)) (aK keysC h sz)) 0 0 (aK keysC h sz) :=
  mk_i (by decide) hk (Nat.le_of_ble_eq_true rfl) (fun p e s m below meth c Z ls C0 hret hP hS hl => bk_X4_stood C0 hret hP hS hd hl)
abbrev rm_X4_tear : Room := { frames := 4, cells := 0, slots := 0, locals := 85 }
def wp_X4_tear (x1 : Int32) (S : sT) (Q : Int32 → sT → Prop) : Prop :=
  wp_X4_refusalOfShelf 0 x1 S (fun r_1 S_1 => ((r_1 = 0 → (vp_in x1 6) ∧ Q (1 : Int32) (uA S_1 200 (upd (vA S_1 200) x1.toNatClampNeg (-1 : Int32)))) ∧ (¬ r_1 = 0 → Q r_1 S_1)))
set_option maxHeartbeats 4000000 in
set_option maxRecDepth 100000 in
theorem bk_X4_tear {p : Program} {l : Launch} {e : Env} {s : State} {m : MethodId} {args : Array Value} {below : List Frame} {meth : Method} {c : Code} {Z : State → Prop} {D : va_G} {cA : Nat → ClassId} {h : Nat → Nat} {Q : Int32 → sT → Prop} (C0 : cx p s m args c cX4_tear 3 RX4 D cA true keysC h) (hret : rtI p l e rm_X4_tear s m args below meth c cX4_tear Z D (wC h cA) (aK keysC h s.heap.size) Q) {x1 : Int32} {S : sT} {H : Heap} {locs : List Loc} {ls : Array Slot} (hP : va_P D vwCl (wC h cA S) H) (hS : va_S (aK keysC h s.heap.size) s.heap H locs) (hd : wp_X4_tear x1 S Q) (hl : lv_has ls 3 [(0, .ref (h 1000)), (1, .int x1)]) : W p l e rm_X4_tear s m args below meth c H locs 0 0 Z (F0 m 0 ls []) := by
  obtain ⟨⟨hx, hb, hml, hown, hts⟩, hK, -, -⟩ := id C0
  unfold wp_X4_tear at hd
  refine lv_aload_n hx hb dX4_tear_0 rfl (lv_at hl 0 rfl) ?_
  refine lv_aload_n hx hb dX4_tear_1 rfl (lv_at hl 0 rfl) ?_
  refine gf_X4_14 C0 hP dX4_tear_2 ?_
  refine lv_iload_n hx hb dX4_tear_5 rfl (lv_at hl 1 rfl) ?_
  refine cl_Vi (n := 2) (rest := []) C0 hP hS (c_X4_refusalOfShelf l C0.2.2.1 (by decide) _ hd) (lwG_V lm_X4_101 li_X4_refusalOfShelf lx_X4_refusalOfShelf lz_RX4 lc_X4_refusalOfShelf) (by decide +kernel) (oD_at h cA _) rfl rfl rfl (Nat.le_of_ble_eq_true rfl) ⟨rfl, rfl⟩ ⟨by decide, by decide⟩ dX4_tear_6 hl.1 ⟨Nat.zero_le _, Nat.zero_le _⟩ (fun r_1 S_1 H locs hd hP hS => ?_)
  refine lv_istore_n (lv' := [(2, .int r_1), (0, .ref (h 1000)), (1, .int x1)]) hx hb dX4_tear_9 rfl hl (by decide) rfl (fun ls hl => ?_)
  refine lv_iload_n hx hb dX4_tear_10 rfl (lv_at hl 0 rfl) ?_
  refine lv_if_eq (tgt := 16) hx hb dX4_tear_11 (by decide) (fun hc => ?_) (fun hc => ?_)
  · have hd := hd.1 hc
    refine lv_aload_n hx hb dX4_tear_16 rfl (lv_at hl 1 rfl) ?_
    refine gf_X4_14 C0 hP dX4_tear_17 ?_
    refine gf_X4_105_0 C0 hP dX4_tear_20 ?_
    refine lv_iload_n hx hb dX4_tear_23 rfl (lv_at hl 2 rfl) ?_
    refine lv_iconst (v := (-1)) hx hb dX4_tear_24 (by decide) ?_
    obtain ⟨h_2, hd⟩ := hd
    refine stC (by decide) C0 hP hS h_2 dX4_tear_25 (fun H locs hP hS => ?_)
    refine lv_iconst (v := 1) hx hb dX4_tear_26 (by decide) ?_
    exact hret _ _ _ _ _ _ hd hP hS dX4_tear_27
  · have hd := hd.2 hc
    refine lv_iload_n hx hb dX4_tear_14 rfl (lv_at hl 0 rfl) ?_
    exact hret _ _ _ _ _ _ hd hP hS dX4_tear_15
theorem c_X4_tear (l : Launch) {D : va_G} {cA : Nat → ClassId} {h : Nat → Nat} (hk : ky keysC h) {x1 : Int32} {S : sT} (sz : Nat) {Q : Int32 → sT → Prop} (hd : wp_X4_tear x1 S Q) : Met l yX4_tear (wsU yX4_tear cX4_tear 3 (some .int)) rm_X4_tear (va_Pc [.ref (h 1000), .int x1] (gP D cA true keysC h (wC h cA) S sz)) (va_Qi Q (wB D (wC h cA)) (aK keysC h sz)) 0 0 (aK keysC h sz) :=
  mk_i (by decide) hk (Nat.le_of_ble_eq_true rfl) (fun p e s m below meth c Z ls C0 hret hP hS hl => bk_X4_tear C0 hret hP hS hd hl)
abbrev rm_X4_text : Room := { frames := 2, cells := 0, slots := 0, locals := 46 }
def wp_X4_text (x1 : Int32) (x2 : Int32) (S : sT) (Q : Int32 → sT → Prop) : Prop :=
  wp_X3_bears 1 x1 S (fun r_1 S_1 => ((r_1 = 0 → Q (-1 : Int32) S_1) ∧ (¬ r_1 = 0 → ((x2 ≤ (60 : Int32) → ((0 ≤ x2 → wp_X3_layOut 1 x1 x2 (32 : Int32) S_1 (fun S_2 => Q x2 S_2)) ∧ (¬ 0 ≤ x2 → wp_X4_found (5 : Int32) S_1 (fun r_3 S_3 => Q r_3 S_3)))) ∧ (¬ x2 ≤ (60 : Int32) → Q (-1 : Int32) S_1)))))
set_option maxHeartbeats 4000000 in
set_option maxRecDepth 100000 in
theorem bk_X4_text {p : Program} {l : Launch} {e : Env} {s : State} {m : MethodId} {args : Array Value} {below : List Frame} {meth : Method} {c : Code} {Z : State → Prop} {D : va_G} {cA : Nat → ClassId} {h : Nat → Nat} {Q : Int32 → sT → Prop} (C0 : cx p s m args c cX4_text 3 RX4 D cA true keysC h) (hret : rtI p l e rm_X4_text s m args below meth c cX4_text Z D (wC h cA) (aK keysC h s.heap.size) Q) {x1 : Int32} {x2 : Int32} {S : sT} {H : Heap} {locs : List Loc} {ls : Array Slot} (hP : va_P D vwCl (wC h cA S) H) (hS : va_S (aK keysC h s.heap.size) s.heap H locs) (hd : wp_X4_text x1 x2 S Q) (hl : lv_has ls 3 [(0, .ref (h 1000)), (1, .int x1), (2, .int x2)]) : W p l e rm_X4_text s m args below meth c H locs 0 0 Z (F0 m 0 ls []) := by
  obtain ⟨⟨hx, hb, hml, hown, hts⟩, hK, -, -⟩ := id C0
  unfold wp_X4_text at hd
  refine lv_aload_n hx hb dX4_text_0 rfl (lv_at hl 0 rfl) ?_
  refine gf_X4_18 C0 hP dX4_text_1 ?_
  refine lv_iload_n hx hb dX4_text_4 rfl (lv_at hl 1 rfl) ?_
  refine cl_VNi (n := 1) (rest := []) C0 hP hS (c_X3_bears l C0.2.2.1 (by decide) _ hd) (lwG_C lc_X3_bears) (by decide +kernel : (RX4, 78, yX3_bears, "DreamTrain") ∈ nestM) lz_RX3 li_X3_bears lx_X3_bears (by decide +kernel) (oS_at h cA _ 1 (by decide)) rfl rfl rfl (Nat.le_of_ble_eq_true rfl) ⟨rfl, rfl⟩ ⟨by decide, by decide⟩ dX4_text_5 hl.1 ⟨Nat.zero_le _, Nat.zero_le _⟩ (fun r_1 S_1 H locs hd hP hS => ?_)
  refine lv_if_eq (tgt := 17) hx hb dX4_text_8 (by decide) (fun hc => ?_) (fun hc => ?_)
  · have hd := hd.1 hc
    refine lv_iconst (v := (-1)) hx hb dX4_text_17 (by decide) ?_
    exact hret _ _ _ _ _ _ hd hP hS dX4_text_18
  · have hd := hd.2 hc
    refine lv_iload_n hx hb dX4_text_11 rfl (lv_at hl 2 rfl) ?_
    refine lv_bipush (v := 60) hx hb dX4_text_12 (by decide) ?_
    refine lv_icmp_le (tgt := 19) hx hb dX4_text_14 (by decide) (fun hc => ?_) (fun hc => ?_)
    · have hd := hd.1 hc
      refine lv_iload_n hx hb dX4_text_19 rfl (lv_at hl 2 rfl) ?_
      refine lv_if_ge (tgt := 29) hx hb dX4_text_20 (by decide) (fun hc => ?_) (fun hc => ?_)
      · have hd := hd.1 hc
        refine lv_aload_n hx hb dX4_text_29 rfl (lv_at hl 0 rfl) ?_
        refine gf_X4_18 C0 hP dX4_text_30 ?_
        refine lv_iload_n hx hb dX4_text_33 rfl (lv_at hl 1 rfl) ?_
        refine lv_iload_n hx hb dX4_text_34 rfl (lv_at hl 2 rfl) ?_
        refine lv_bipush (v := 32) hx hb dX4_text_35 (by decide) ?_
        refine cl_VNv (n := 3) (rest := []) C0 hP hS (c_X3_layOut l C0.2.2.1 (by decide) _ hd) (lwG_C lc_X3_layOut) (by decide +kernel : (RX4, 86, yX3_layOut, "DreamTrain") ∈ nestM) lz_RX3 li_X3_layOut lx_X3_layOut (by decide +kernel) (oS_at h cA _ 1 (by decide)) rfl rfl rfl (Nat.le_of_ble_eq_true rfl) ⟨rfl, rfl⟩ ⟨by decide, by decide⟩ dX4_text_37 hl.1 ⟨Nat.zero_le _, Nat.zero_le _⟩ (fun S_2 H locs hd hP hS => ?_)
        refine lv_iload_n hx hb dX4_text_40 rfl (lv_at hl 2 rfl) ?_
        exact hret _ _ _ _ _ _ hd hP hS dX4_text_41
      · have hd := hd.2 hc
        refine lv_aload_n hx hb dX4_text_23 rfl (lv_at hl 0 rfl) ?_
        refine lv_iconst (v := 5) hx hb dX4_text_24 (by decide) ?_
        refine cl_Vi (n := 1) (rest := []) C0 hP hS (c_X4_found l C0.2.2.1 _ hd) (lwG_V lm_X4_82 li_X4_found lx_X4_found lz_RX4 lc_X4_found) (by decide +kernel) (oD_at h cA _) rfl rfl rfl (Nat.le_of_ble_eq_true rfl) ⟨rfl, rfl⟩ ⟨by decide, by decide⟩ dX4_text_25 hl.1 ⟨Nat.zero_le _, Nat.zero_le _⟩ (fun r_3 S_3 H locs hd hP hS => ?_)
        exact hret _ _ _ _ _ _ hd hP hS dX4_text_28
    · have hd := hd.2 hc
      refine lv_iconst (v := (-1)) hx hb dX4_text_17 (by decide) ?_
      exact hret _ _ _ _ _ _ hd hP hS dX4_text_18
theorem c_X4_text (l : Launch) {D : va_G} {cA : Nat → ClassId} {h : Nat → Nat} (hk : ky keysC h) {x1 : Int32} {x2 : Int32} {S : sT} (sz : Nat) {Q : Int32 → sT → Prop} (hd : wp_X4_text x1 x2 S Q) : Met l yX4_text (wsU yX4_text cX4_text 3 (some .int)) rm_X4_text (va_Pc [.ref (h 1000), .int x1, .int x2] (gP D cA true keysC h (wC h cA) S sz)) (va_Qi Q (wB D (wC h cA)) (aK keysC h sz)) 0 0 (aK keysC h sz) :=
  mk_i (by decide) hk (Nat.le_of_ble_eq_true rfl) (fun p e s m below meth c Z ls C0 hret hP hS hl => bk_X4_text C0 hret hP hS hd hl)
abbrev rm_X4_train : Room := { frames := 3, cells := 0, slots := 0, locals := 73 }
def wp_X4_train (x1 : Int32) (S : sT) (Q : Int32 → sT → Prop) : Prop :=
  wp_X4_isBelow x1 (61 : Int32) S (fun r_1 S_1 => ((¬ r_1 = 0 → ((¬ (vI S_1 26) = 0 → wp_X0_setOut 0 S_1 (fun S_2 => wp_X0_ride x1 (vI S_2 29) S_2 (fun r_3 S_3 => Q r_3 (uI S_3 13 (x1 - (r_3 - (vI S_3 31))))))) ∧ ((vI S_1 26) = 0 → Q (-4 : Int32) S_1))) ∧ (r_1 = 0 → Q (-1 : Int32) S_1)))
set_option maxHeartbeats 4000000 in
set_option maxRecDepth 100000 in
theorem bk_X4_train {p : Program} {l : Launch} {e : Env} {s : State} {m : MethodId} {args : Array Value} {below : List Frame} {meth : Method} {c : Code} {Z : State → Prop} {D : va_G} {cA : Nat → ClassId} {h : Nat → Nat} {Q : Int32 → sT → Prop} (C0 : cx p s m args c cX4_train 3 RX4 D cA true keysC h) (hret : rtI p l e rm_X4_train s m args below meth c cX4_train Z D (wC h cA) (aK keysC h s.heap.size) Q) {x1 : Int32} {S : sT} {H : Heap} {locs : List Loc} {ls : Array Slot} (hP : va_P D vwCl (wC h cA S) H) (hS : va_S (aK keysC h s.heap.size) s.heap H locs) (hd : wp_X4_train x1 S Q) (hl : lv_has ls 3 [(0, .ref (h 1000)), (1, .int x1)]) : W p l e rm_X4_train s m args below meth c H locs 0 0 Z (F0 m 0 ls []) := by
  obtain ⟨⟨hx, hb, hml, hown, hts⟩, hK, -, -⟩ := id C0
  unfold wp_X4_train at hd
  refine lv_iload_n hx hb dX4_train_0 rfl (lv_at hl 1 rfl) ?_
  refine lv_bipush (v := 61) hx hb dX4_train_1 (by decide) ?_
  refine cl_Si (n := 2) (rest := []) C0 hP hS (c_X4_isBelow l C0.2.2.1 _ hd) (lwG_S lm_X4_132 ls_X4_isBelow lz_RX4 lc_X4_isBelow) (by decide +kernel) rfl rfl (Nat.le_of_ble_eq_true rfl) ⟨rfl, rfl⟩ ⟨by decide, by decide⟩ dX4_train_3 hl.1 ⟨Nat.zero_le _, Nat.zero_le _⟩ (fun r_1 S_1 H locs hd hP hS => ?_)
  refine lv_if_ne (tgt := 11) hx hb dX4_train_6 (by decide) (fun hc => ?_) (fun hc => ?_)
  · have hd := hd.1 hc
    refine lv_aload_n hx hb dX4_train_11 rfl (lv_at hl 0 rfl) ?_
    refine gf_X4_24 C0 hP dX4_train_12 ?_
    refine gf_X4_129_0 C0 hP dX4_train_15 ?_
    refine lv_if_ne (tgt := 24) hx hb dX4_train_18 (by decide) (fun hc => ?_) (fun hc => ?_)
    · have hd := hd.1 hc
      refine lv_aload_n hx hb dX4_train_24 rfl (lv_at hl 0 rfl) ?_
      refine gf_X4_49 C0 hP dX4_train_25 ?_
      refine lv_aload_n hx hb dX4_train_28 rfl (lv_at hl 0 rfl) ?_
      refine gf_X4_24 C0 hP dX4_train_29 ?_
      refine cl_VNv (n := 1) (rest := []) C0 hP hS (c_X0_setOut l C0.2.2.1 (by decide) _ hd) (lwG_C lc_X0_setOut) (by decide +kernel : (RX4, 193, yX0_setOut, "DreamTrain") ∈ nestM) lz_RX0 li_X0_setOut lx_X0_setOut (by decide +kernel) (oJ_at h cA _) rfl rfl rfl (Nat.le_of_ble_eq_true rfl) ⟨rfl, rfl⟩ ⟨by decide, by decide⟩ dX4_train_32 hl.1 ⟨Nat.zero_le _, Nat.zero_le _⟩ (fun S_2 H locs hd hP hS => ?_)
      refine lv_aload_n hx hb dX4_train_35 rfl (lv_at hl 0 rfl) ?_
      refine gf_X4_49 C0 hP dX4_train_36 ?_
      refine lv_iload_n hx hb dX4_train_39 rfl (lv_at hl 1 rfl) ?_
      refine lv_aload_n hx hb dX4_train_40 rfl (lv_at hl 0 rfl) ?_
      refine gf_X4_24 C0 hP dX4_train_41 ?_
      refine gf_X4_196_0 C0 hP dX4_train_44 ?_
      refine cl_VNi (n := 2) (rest := []) C0 hP hS (c_X0_ride l C0.2.2.1 _ hd) (lwG_C lc_X0_ride) (by decide +kernel : (RX4, 199, yX0_ride, "DreamTrain") ∈ nestM) lz_RX0 li_X0_ride lx_X0_ride (by decide +kernel) (oJ_at h cA _) rfl rfl rfl (Nat.le_of_ble_eq_true rfl) ⟨rfl, rfl⟩ ⟨by decide, by decide⟩ dX4_train_47 hl.1 ⟨Nat.zero_le _, Nat.zero_le _⟩ (fun r_3 S_3 H locs hd hP hS => ?_)
      refine lv_istore_n (lv' := [(2, .int r_3), (0, .ref (h 1000)), (1, .int x1)]) hx hb dX4_train_50 rfl hl (by decide) rfl (fun ls hl => ?_)
      refine lv_aload_n hx hb dX4_train_51 rfl (lv_at hl 1 rfl) ?_
      refine lv_iload_n hx hb dX4_train_52 rfl (lv_at hl 2 rfl) ?_
      refine lv_iload_n hx hb dX4_train_53 rfl (lv_at hl 0 rfl) ?_
      refine lv_aload_n hx hb dX4_train_54 rfl (lv_at hl 1 rfl) ?_
      refine gf_X4_24 C0 hP dX4_train_55 ?_
      refine gf_X4_171_0 C0 hP dX4_train_58 ?_
      refine lv_isub hx hb dX4_train_61 ?_
      refine lv_isub hx hb dX4_train_62 ?_
      refine pf_X4_97 C0 hP hS dX4_train_63 (fun H locs hP hS => ?_)
      refine lv_iload_n hx hb dX4_train_66 rfl (lv_at hl 0 rfl) ?_
      exact hret _ _ _ _ _ _ hd hP hS dX4_train_67
    · have hd := hd.2 hc
      refine lv_bipush (v := (-4)) hx hb dX4_train_21 (by decide) ?_
      exact hret _ _ _ _ _ _ hd hP hS dX4_train_23
  · have hd := hd.2 hc
    refine lv_iconst (v := (-1)) hx hb dX4_train_9 (by decide) ?_
    exact hret _ _ _ _ _ _ hd hP hS dX4_train_10
theorem c_X4_train (l : Launch) {D : va_G} {cA : Nat → ClassId} {h : Nat → Nat} (hk : ky keysC h) {x1 : Int32} {S : sT} (sz : Nat) {Q : Int32 → sT → Prop} (hd : wp_X4_train x1 S Q) : Met l yX4_train (wsU yX4_train cX4_train 3 (some .int)) rm_X4_train (va_Pc [.ref (h 1000), .int x1] (gP D cA true keysC h (wC h cA) S sz)) (va_Qi Q (wB D (wC h cA)) (aK keysC h sz)) 0 0 (aK keysC h sz) :=
  mk_i (by decide) hk (Nat.le_of_ble_eq_true rfl) (fun p e s m below meth c Z ls C0 hret hP hS hl => bk_X4_train C0 hret hP hS hd hl)
abbrev rm_X4_undo : Room := { frames := 1, cells := 0, slots := 0, locals := 21 }
def wb_X4_undo_30 (Q : Int32 → sT → Prop) (K30 : Int32 → Int32 → sT → Prop) (x2 : Int32) (x3 : Int32) (S : sT) : Prop :=
  ((x2 ≤ x3 → Q x2 S) ∧ (¬ x2 ≤ x3 → wp_X1_takeBackLatest 0 S (fun S_1 => K30 x2 (x3 + (1 : Int32)) S_1)))
set_option maxHeartbeats 4000000 in
set_option maxRecDepth 100000 in
theorem bk_X4_undo_30 {p : Program} {l : Launch} {e : Env} {s : State} {m : MethodId} {args : Array Value} {below : List Frame} {meth : Method} {c : Code} {Z : State → Prop} {D : va_G} {cA : Nat → ClassId} {h : Nat → Nat} {Q : Int32 → sT → Prop} (C0 : cx p s m args c cX4_undo 4 RX4 D cA true keysC h) (hret : rtI p l e rm_X4_undo s m args below meth c cX4_undo Z D (wC h cA) (aK keysC h s.heap.size) Q) {K30 : Int32 → Int32 → sT → Prop} (k30 : ∀ (x2 : Int32) (x3 : Int32) (S : sT) (H : Heap) (locs : List Loc) (ls : Array Slot), K30 x2 x3 S → va_P D vwCl (wC h cA S) H → va_S (aK keysC h s.heap.size) s.heap H locs → lv_has ls 4 [(0, .ref (h 1000)), (2, .int x2), (3, .int x3)] → W p l e rm_X4_undo s m args below meth c H locs 0 0 Z (F0 m 30 ls [])) {x2 : Int32} {x3 : Int32} {S : sT} {H : Heap} {locs : List Loc} {ls : Array Slot} (hP : va_P D vwCl (wC h cA S) H) (hS : va_S (aK keysC h s.heap.size) s.heap H locs) (hd : wb_X4_undo_30 Q K30 x2 x3 S) (hl : lv_has ls 4 [(0, .ref (h 1000)), (2, .int x2), (3, .int x3)]) : W p l e rm_X4_undo s m args below meth c H locs 0 0 Z (F0 m 30 ls []) := by
  obtain ⟨⟨hx, hb, hml, hown, hts⟩, hK, -, -⟩ := id C0
  unfold wb_X4_undo_30 at hd
  refine lv_iload_n hx hb dX4_undo_30 rfl (lv_at hl 2 rfl) ?_
  refine lv_iload_n hx hb dX4_undo_31 rfl (lv_at hl 1 rfl) ?_
  refine lv_icmp_ge (tgt := 48) hx hb dX4_undo_32 (by decide) (fun hc => ?_) (fun hc => ?_)
  · have hd := hd.1 hc
    refine lv_iload_n hx hb dX4_undo_48 rfl (lv_at hl 1 rfl) ?_
    exact hret _ _ _ _ _ _ hd hP hS dX4_undo_49
  · have hd := hd.2 hc
    refine lv_aload_n hx hb dX4_undo_35 rfl (lv_at hl 0 rfl) ?_
    refine gf_X4_24 C0 hP dX4_undo_36 ?_
    refine cl_VNv (n := 0) (rest := []) C0 hP hS (c_X1_takeBackLatest l C0.2.2.1 (by decide) _ hd) (lwG_C lc_X1_takeBackLatest) (by decide +kernel : (RX4, 190, yX1_takeBackLatest, "DreamTrain") ∈ nestM) lz_RX1 li_X1_takeBackLatest lx_X1_takeBackLatest (by decide +kernel) (oL_at h cA _ 0 (by decide)) rfl rfl rfl (Nat.le_of_ble_eq_true rfl) ⟨rfl, rfl⟩ ⟨by decide, by decide⟩ dX4_undo_39 hl.1 ⟨Nat.zero_le _, Nat.zero_le _⟩ (fun S_1 H locs hd hP hS => ?_)
    refine lv_iinc (v := x3 + (1 : Int32)) (lv' := [(3, .int (x3 + (1 : Int32))), (0, .ref (h 1000)), (2, .int x2)]) hx hb dX4_undo_42 hl (k := 2) rfl rfl (by decide) rfl (fun ls hl => ?_)
    refine lv_goto (tgt := 30) hx hb dX4_undo_45 (by decide) ?_
    exact k30 _ _ _ _ _ _ hd hP hS (lv_sub hl [1, 2, 0] rfl)
def wl_X4_undo_30 (Q : Int32 → sT → Prop) : Nat → Int32 → Int32 → sT → Prop
  | 0, _, _ => fun _ => False
  | n + 1, x2, x3 => fun S => wb_X4_undo_30 Q (fun x2 x3 S => wl_X4_undo_30 Q n x2 x3 S) x2 x3 S
theorem bl_X4_undo_30 {p : Program} {l : Launch} {e : Env} {s : State} {m : MethodId} {args : Array Value} {below : List Frame} {meth : Method} {c : Code} {Z : State → Prop} {D : va_G} {cA : Nat → ClassId} {h : Nat → Nat} {Q : Int32 → sT → Prop} (C0 : cx p s m args c cX4_undo 4 RX4 D cA true keysC h) (hret : rtI p l e rm_X4_undo s m args below meth c cX4_undo Z D (wC h cA) (aK keysC h s.heap.size) Q) : ∀ (n : Nat) (x2 : Int32) (x3 : Int32) (S : sT) (H : Heap) (locs : List Loc) (ls : Array Slot), va_P D vwCl (wC h cA S) H → va_S (aK keysC h s.heap.size) s.heap H locs → wl_X4_undo_30 Q n x2 x3 S → lv_has ls 4 [(0, .ref (h 1000)), (2, .int x2), (3, .int x3)] → W p l e rm_X4_undo s m args below meth c H locs 0 0 Z (F0 m 30 ls []) := by
  intro n
  induction n with
  | zero => intro x2 x3 S H locs ls hP hS hd hl; exact (show False from hd).elim
  | succ n ih => intro x2 x3 S H locs ls hP hS hd hl; exact bk_X4_undo_30 C0 hret (fun x2 x3 S H locs ls hd hP hS hl => ih x2 x3 S H locs ls hP hS hd hl) hP hS hd hl
def wp_X4_undo (x1 : Int32) (S : sT) (Q : Int32 → sT → Prop) : Prop :=
  wp_X4_isBelow x1 ((vI S 32) + (1 : Int32)) S (fun r_1 S_1 => ((¬ r_1 = 0 → ∃ n : Nat, wl_X4_undo_30 Q n ((vI S_1 32) - x1) (0 : Int32) S_1) ∧ (r_1 = 0 → Q (-1 : Int32) S_1)))
set_option maxHeartbeats 4000000 in
set_option maxRecDepth 100000 in
theorem bk_X4_undo {p : Program} {l : Launch} {e : Env} {s : State} {m : MethodId} {args : Array Value} {below : List Frame} {meth : Method} {c : Code} {Z : State → Prop} {D : va_G} {cA : Nat → ClassId} {h : Nat → Nat} {Q : Int32 → sT → Prop} (C0 : cx p s m args c cX4_undo 4 RX4 D cA true keysC h) (hret : rtI p l e rm_X4_undo s m args below meth c cX4_undo Z D (wC h cA) (aK keysC h s.heap.size) Q) {x1 : Int32} {S : sT} {H : Heap} {locs : List Loc} {ls : Array Slot} (hP : va_P D vwCl (wC h cA S) H) (hS : va_S (aK keysC h s.heap.size) s.heap H locs) (hd : wp_X4_undo x1 S Q) (hl : lv_has ls 4 [(0, .ref (h 1000)), (1, .int x1)]) : W p l e rm_X4_undo s m args below meth c H locs 0 0 Z (F0 m 0 ls []) := by
  obtain ⟨⟨hx, hb, hml, hown, hts⟩, hK, -, -⟩ := id C0
  unfold wp_X4_undo at hd
  refine lv_iload_n hx hb dX4_undo_0 rfl (lv_at hl 1 rfl) ?_
  refine lv_aload_n hx hb dX4_undo_1 rfl (lv_at hl 0 rfl) ?_
  refine gf_X4_24 C0 hP dX4_undo_2 ?_
  refine gf_X4_187_0 C0 hP dX4_undo_5 ?_
  refine lv_iconst (v := 1) hx hb dX4_undo_8 (by decide) ?_
  refine lv_iadd hx hb dX4_undo_9 ?_
  refine cl_Si (n := 2) (rest := []) C0 hP hS (c_X4_isBelow l C0.2.2.1 _ hd) (lwG_S lm_X4_132 ls_X4_isBelow lz_RX4 lc_X4_isBelow) (by decide +kernel) rfl rfl (Nat.le_of_ble_eq_true rfl) ⟨rfl, rfl⟩ ⟨by decide, by decide⟩ dX4_undo_10 hl.1 ⟨Nat.zero_le _, Nat.zero_le _⟩ (fun r_1 S_1 H locs hd hP hS => ?_)
  refine lv_if_ne (tgt := 18) hx hb dX4_undo_13 (by decide) (fun hc => ?_) (fun hc => ?_)
  · have hd := hd.1 hc
    refine lv_aload_n hx hb dX4_undo_18 rfl (lv_at hl 0 rfl) ?_
    refine gf_X4_24 C0 hP dX4_undo_19 ?_
    refine gf_X4_187_0 C0 hP dX4_undo_22 ?_
    refine lv_iload_n hx hb dX4_undo_25 rfl (lv_at hl 1 rfl) ?_
    refine lv_isub hx hb dX4_undo_26 ?_
    refine lv_istore_n (lv' := [(2, .int ((vI S_1 32) - x1)), (0, .ref (h 1000)), (1, .int x1)]) hx hb dX4_undo_27 rfl hl (by decide) rfl (fun ls hl => ?_)
    refine lv_iconst (v := 0) hx hb dX4_undo_28 (by decide) ?_
    refine lv_istore_n (lv' := [(3, .int (0 : Int32)), (2, .int ((vI S_1 32) - x1)), (0, .ref (h 1000)), (1, .int x1)]) hx hb dX4_undo_29 rfl hl (by decide) rfl (fun ls hl => ?_)
    obtain ⟨n_2, hd⟩ := hd
    exact bl_X4_undo_30 C0 hret _ _ _ _ _ _ _ hP hS hd (lv_sub hl [2, 1, 0] rfl)
  · have hd := hd.2 hc
    refine lv_iconst (v := (-1)) hx hb dX4_undo_16 (by decide) ?_
    exact hret _ _ _ _ _ _ hd hP hS dX4_undo_17
theorem c_X4_undo (l : Launch) {D : va_G} {cA : Nat → ClassId} {h : Nat → Nat} (hk : ky keysC h) {x1 : Int32} {S : sT} (sz : Nat) {Q : Int32 → sT → Prop} (hd : wp_X4_undo x1 S Q) : Met l yX4_undo (wsU yX4_undo cX4_undo 4 (some .int)) rm_X4_undo (va_Pc [.ref (h 1000), .int x1] (gP D cA true keysC h (wC h cA) S sz)) (va_Qi Q (wB D (wC h cA)) (aK keysC h sz)) 0 0 (aK keysC h sz) :=
  mk_i (by decide) hk (Nat.le_of_ble_eq_true rfl) (fun p e s m below meth c Z ls C0 hret hP hS hl => bk_X4_undo C0 hret hP hS hd hl)
abbrev rm_X4_upper : Room := { frames := 0, cells := 0, slots := 0, locals := 0 }
def wp_X4_upper (S : sT) (Q : Int64 → sT → Prop) : Prop :=
  Q (vL S 14) S
set_option maxHeartbeats 4000000 in
set_option maxRecDepth 100000 in
theorem bk_X4_upper {p : Program} {l : Launch} {e : Env} {s : State} {m : MethodId} {args : Array Value} {below : List Frame} {meth : Method} {c : Code} {Z : State → Prop} {D : va_G} {cA : Nat → ClassId} {h : Nat → Nat} {Q : Int64 → sT → Prop} (C0 : cx p s m args c cX4_upper 1 RX4 D cA true keysC h) (hret : rtL p l e rm_X4_upper s m args below meth c cX4_upper Z D (wC h cA) (aK keysC h s.heap.size) Q) {S : sT} {H : Heap} {locs : List Loc} {ls : Array Slot} (hP : va_P D vwCl (wC h cA S) H) (hS : va_S (aK keysC h s.heap.size) s.heap H locs) (hd : wp_X4_upper S Q) (hl : lv_has ls 1 [(0, .ref (h 1000))]) : W p l e rm_X4_upper s m args below meth c H locs 0 0 Z (F0 m 0 ls []) := by
  obtain ⟨⟨hx, hb, hml, hown, hts⟩, hK, -, -⟩ := id C0
  unfold wp_X4_upper at hd
  refine lv_aload_n hx hb dX4_upper_0 rfl (lv_at hl 0 rfl) ?_
  refine gf_X4_287 C0 hP dX4_upper_1 ?_
  exact hret _ _ _ _ _ _ hd hP hS dX4_upper_4
theorem c_X4_upper (l : Launch) {D : va_G} {cA : Nat → ClassId} {h : Nat → Nat} (hk : ky keysC h) {S : sT} (sz : Nat) {Q : Int64 → sT → Prop} (hd : wp_X4_upper S Q) : Met l yX4_upper (wsU yX4_upper cX4_upper 1 (some .long)) rm_X4_upper (va_Pc [.ref (h 1000)] (gP D cA true keysC h (wC h cA) S sz)) (va_Ql Q (wB D (wC h cA)) (aK keysC h sz)) 0 0 (aK keysC h sz) :=
  mk_l (by decide) hk (Nat.le_of_ble_eq_true rfl) (fun p e s m below meth c Z ls C0 hret hP hS hl => bk_X4_upper C0 hret hP hS hd hl)
abbrev rm_X4_wake : Room := { frames := 3, cells := 0, slots := 0, locals := 65 }
def wp_X4_wake (x1 : Int32) (S : sT) (Q : Int32 → sT → Prop) : Prop :=
  wp_X4_isBelow x1 (vI S 26) S (fun r_1 S_1 => ((¬ r_1 = 0 → wp_X1_isAsleep 0 x1 S_1 (fun r_2 S_2 => ((¬ r_2 = 0 → wp_X1_hasRoomFor 0 (1 : Int32) S_2 (fun r_3 S_3 => ((¬ r_3 = 0 → wp_X1_isDreaming 0 x1 S_3 (fun r_4 S_4 => wp_X4_bit r_4 S_4 (fun r_5 S_5 => wp_X1_wakeOrLull 0 x1 S_5 (fun S_6 => Q r_5 S_6)))) ∧ (r_3 = 0 → Q (-2 : Int32) S_3)))) ∧ (r_2 = 0 → Q (-4 : Int32) S_2)))) ∧ (r_1 = 0 → Q (-1 : Int32) S_1)))
set_option maxHeartbeats 4000000 in
set_option maxRecDepth 100000 in
theorem bk_X4_wake {p : Program} {l : Launch} {e : Env} {s : State} {m : MethodId} {args : Array Value} {below : List Frame} {meth : Method} {c : Code} {Z : State → Prop} {D : va_G} {cA : Nat → ClassId} {h : Nat → Nat} {Q : Int32 → sT → Prop} (C0 : cx p s m args c cX4_wake 3 RX4 D cA true keysC h) (hret : rtI p l e rm_X4_wake s m args below meth c cX4_wake Z D (wC h cA) (aK keysC h s.heap.size) Q) {x1 : Int32} {S : sT} {H : Heap} {locs : List Loc} {ls : Array Slot} (hP : va_P D vwCl (wC h cA S) H) (hS : va_S (aK keysC h s.heap.size) s.heap H locs) (hd : wp_X4_wake x1 S Q) (hl : lv_has ls 3 [(0, .ref (h 1000)), (1, .int x1)]) : W p l e rm_X4_wake s m args below meth c H locs 0 0 Z (F0 m 0 ls []) := by
  obtain ⟨⟨hx, hb, hml, hown, hts⟩, hK, -, -⟩ := id C0
  unfold wp_X4_wake at hd
  refine lv_iload_n hx hb dX4_wake_0 rfl (lv_at hl 1 rfl) ?_
  refine lv_aload_n hx hb dX4_wake_1 rfl (lv_at hl 0 rfl) ?_
  refine gf_X4_24 C0 hP dX4_wake_2 ?_
  refine gf_X4_129_0 C0 hP dX4_wake_5 ?_
  refine cl_Si (n := 2) (rest := []) C0 hP hS (c_X4_isBelow l C0.2.2.1 _ hd) (lwG_S lm_X4_132 ls_X4_isBelow lz_RX4 lc_X4_isBelow) (by decide +kernel) rfl rfl (Nat.le_of_ble_eq_true rfl) ⟨rfl, rfl⟩ ⟨by decide, by decide⟩ dX4_wake_8 hl.1 ⟨Nat.zero_le _, Nat.zero_le _⟩ (fun r_1 S_1 H locs hd hP hS => ?_)
  refine lv_if_ne (tgt := 16) hx hb dX4_wake_11 (by decide) (fun hc => ?_) (fun hc => ?_)
  · have hd := hd.1 hc
    refine lv_aload_n hx hb dX4_wake_16 rfl (lv_at hl 0 rfl) ?_
    refine gf_X4_24 C0 hP dX4_wake_17 ?_
    refine lv_iload_n hx hb dX4_wake_20 rfl (lv_at hl 1 rfl) ?_
    refine cl_VNi (n := 1) (rest := []) C0 hP hS (c_X1_isAsleep l C0.2.2.1 (by decide) _ hd) (lwG_C lc_X1_isAsleep) (by decide +kernel : (RX4, 177, yX1_isAsleep, "DreamTrain") ∈ nestM) lz_RX1 li_X1_isAsleep lx_X1_isAsleep (by decide +kernel) (oL_at h cA _ 0 (by decide)) rfl rfl rfl (Nat.le_of_ble_eq_true rfl) ⟨rfl, rfl⟩ ⟨by decide, by decide⟩ dX4_wake_21 hl.1 ⟨Nat.zero_le _, Nat.zero_le _⟩ (fun r_2 S_2 H locs hd hP hS => ?_)
    refine lv_if_ne (tgt := 30) hx hb dX4_wake_24 (by decide) (fun hc => ?_) (fun hc => ?_)
    · have hd := hd.1 hc
      refine lv_aload_n hx hb dX4_wake_30 rfl (lv_at hl 0 rfl) ?_
      refine gf_X4_24 C0 hP dX4_wake_31 ?_
      refine lv_iconst (v := 1) hx hb dX4_wake_34 (by decide) ?_
      refine cl_VNi (n := 1) (rest := []) C0 hP hS (c_X1_hasRoomFor l C0.2.2.1 (by decide) _ hd) (lwG_C lc_X1_hasRoomFor) (by decide +kernel : (RX4, 165, yX1_hasRoomFor, "DreamTrain") ∈ nestM) lz_RX1 li_X1_hasRoomFor lx_X1_hasRoomFor (by decide +kernel) (oL_at h cA _ 0 (by decide)) rfl rfl rfl (Nat.le_of_ble_eq_true rfl) ⟨rfl, rfl⟩ ⟨by decide, by decide⟩ dX4_wake_35 hl.1 ⟨Nat.zero_le _, Nat.zero_le _⟩ (fun r_3 S_3 H locs hd hP hS => ?_)
      refine lv_if_ne (tgt := 44) hx hb dX4_wake_38 (by decide) (fun hc => ?_) (fun hc => ?_)
      · have hd := hd.1 hc
        refine lv_aload_n hx hb dX4_wake_44 rfl (lv_at hl 0 rfl) ?_
        refine gf_X4_24 C0 hP dX4_wake_45 ?_
        refine lv_iload_n hx hb dX4_wake_48 rfl (lv_at hl 1 rfl) ?_
        refine cl_VNi (n := 1) (rest := []) C0 hP hS (c_X1_isDreaming l C0.2.2.1 (by decide) _ hd) (lwG_C lc_X1_isDreaming) (by decide +kernel : (RX4, 180, yX1_isDreaming, "DreamTrain") ∈ nestM) lz_RX1 li_X1_isDreaming lx_X1_isDreaming (by decide +kernel) (oL_at h cA _ 0 (by decide)) rfl rfl rfl (Nat.le_of_ble_eq_true rfl) ⟨rfl, rfl⟩ ⟨by decide, by decide⟩ dX4_wake_49 hl.1 ⟨Nat.zero_le _, Nat.zero_le _⟩ (fun r_4 S_4 H locs hd hP hS => ?_)
        refine cl_Si (n := 1) (rest := []) C0 hP hS (c_X4_bit l C0.2.2.1 _ hd) (lwG_S lm_X4_158 ls_X4_bit lz_RX4 lc_X4_bit) (by decide +kernel) rfl rfl (Nat.le_of_ble_eq_true rfl) ⟨rfl, rfl⟩ ⟨by decide, by decide⟩ dX4_wake_52 hl.1 ⟨Nat.zero_le _, Nat.zero_le _⟩ (fun r_5 S_5 H locs hd hP hS => ?_)
        refine lv_istore_n (lv' := [(2, .int r_5), (0, .ref (h 1000)), (1, .int x1)]) hx hb dX4_wake_55 rfl hl (by decide) rfl (fun ls hl => ?_)
        refine lv_aload_n hx hb dX4_wake_56 rfl (lv_at hl 1 rfl) ?_
        refine gf_X4_24 C0 hP dX4_wake_57 ?_
        refine lv_iload_n hx hb dX4_wake_60 rfl (lv_at hl 2 rfl) ?_
        refine cl_VNv (n := 1) (rest := []) C0 hP hS (c_X1_wakeOrLull l C0.2.2.1 (by decide) _ hd) (lwG_C lc_X1_wakeOrLull) (by decide +kernel : (RX4, 183, yX1_wakeOrLull, "DreamTrain") ∈ nestM) lz_RX1 li_X1_wakeOrLull lx_X1_wakeOrLull (by decide +kernel) (oL_at h cA _ 0 (by decide)) rfl rfl rfl (Nat.le_of_ble_eq_true rfl) ⟨rfl, rfl⟩ ⟨by decide, by decide⟩ dX4_wake_61 hl.1 ⟨Nat.zero_le _, Nat.zero_le _⟩ (fun S_6 H locs hd hP hS => ?_)
        refine lv_iload_n hx hb dX4_wake_64 rfl (lv_at hl 0 rfl) ?_
        exact hret _ _ _ _ _ _ hd hP hS dX4_wake_65
      · have hd := hd.2 hc
        refine lv_bipush (v := (-2)) hx hb dX4_wake_41 (by decide) ?_
        exact hret _ _ _ _ _ _ hd hP hS dX4_wake_43
    · have hd := hd.2 hc
      refine lv_bipush (v := (-4)) hx hb dX4_wake_27 (by decide) ?_
      exact hret _ _ _ _ _ _ hd hP hS dX4_wake_29
  · have hd := hd.2 hc
    refine lv_iconst (v := (-1)) hx hb dX4_wake_14 (by decide) ?_
    exact hret _ _ _ _ _ _ hd hP hS dX4_wake_15
theorem c_X4_wake (l : Launch) {D : va_G} {cA : Nat → ClassId} {h : Nat → Nat} (hk : ky keysC h) {x1 : Int32} {S : sT} (sz : Nat) {Q : Int32 → sT → Prop} (hd : wp_X4_wake x1 S Q) : Met l yX4_wake (wsU yX4_wake cX4_wake 3 (some .int)) rm_X4_wake (va_Pc [.ref (h 1000), .int x1] (gP D cA true keysC h (wC h cA) S sz)) (va_Qi Q (wB D (wC h cA)) (aK keysC h sz)) 0 0 (aK keysC h sz) :=
  mk_i (by decide) hk (Nat.le_of_ble_eq_true rfl) (fun p e s m below meth c Z ls C0 hret hP hS hl => bk_X4_wake C0 hret hP hS hd hl)
abbrev rm_X5_answer : Room := { frames := 0, cells := 0, slots := 0, locals := 0 }
def wp_X5_answer (x1 : Int32) (x2 : Int32) (S : sT) (Q : Int32 → sT → Prop) : Prop :=
  Q x1 (uI S 4 x2)
set_option maxHeartbeats 4000000 in
set_option maxRecDepth 100000 in
theorem bk_X5_answer {p : Program} {l : Launch} {e : Env} {s : State} {m : MethodId} {args : Array Value} {below : List Frame} {meth : Method} {c : Code} {Z : State → Prop} {D : va_G} {cA : Nat → ClassId} {h : Nat → Nat} {Q : Int32 → sT → Prop} (C0 : cx p s m args c cX5_answer 3 RX5 D cA false keysRA h) (hret : rtI p l e rm_X5_answer s m args below meth c cX5_answer Z D (wR h cA) (aK keysRA h s.heap.size) Q) {x1 : Int32} {x2 : Int32} {S : sT} {H : Heap} {locs : List Loc} {ls : Array Slot} (hP : va_P D vwCl (wR h cA S) H) (hS : va_S (aK keysRA h s.heap.size) s.heap H locs) (hd : wp_X5_answer x1 x2 S Q) (hl : lv_has ls 3 [(0, .ref (h 100)), (1, .int x1), (2, .int x2)]) : W p l e rm_X5_answer s m args below meth c H locs 0 0 Z (F0 m 0 ls []) := by
  obtain ⟨⟨hx, hb, hml, hown, hts⟩, hK, -, -⟩ := id C0
  unfold wp_X5_answer at hd
  refine lv_aload_n hx hb dX5_answer_0 rfl (lv_at hl 0 rfl) ?_
  refine lv_iload_n hx hb dX5_answer_1 rfl (lv_at hl 2 rfl) ?_
  refine pf_X5_72 C0 hP hS dX5_answer_2 (fun H locs hP hS => ?_)
  refine lv_iload_n hx hb dX5_answer_5 rfl (lv_at hl 1 rfl) ?_
  exact hret _ _ _ _ _ _ hd hP hS dX5_answer_6
theorem c_X5_answer (l : Launch) {D : va_G} {cA : Nat → ClassId} {h : Nat → Nat} (hk : ky keysRA h) {x1 : Int32} {x2 : Int32} {S : sT} (sz : Nat) {Q : Int32 → sT → Prop} (hd : wp_X5_answer x1 x2 S Q) : Met l yX5_answer (wsU yX5_answer cX5_answer 3 (some .int)) rm_X5_answer (va_Pc [.ref (h 100), .int x1, .int x2] (gP D cA false keysRA h (wR h cA) S sz)) (va_Qi Q (wB D (wR h cA)) (aK keysRA h sz)) 0 0 (aK keysRA h sz) :=
  mk_i (by decide) hk (Nat.le_of_ble_eq_true rfl) (fun p e s m below meth c Z ls C0 hret hP hS hl => bk_X5_answer C0 hret hP hS hd hl)
abbrev rm_X5_dreamsBy : Room := { frames := 0, cells := 0, slots := 0, locals := 0 }
def wb_X5_dreamsBy_127 (Q : Int32 → sT → Prop) (x1 : Int32) (S : sT) : Prop :=
  ((¬ (x1 - x1 / (2 : Int32) * (2 : Int32)) = 0 → Q (0 : Int32) S) ∧ ((x1 - x1 / (2 : Int32) * (2 : Int32)) = 0 → Q (1 : Int32) S))
set_option maxHeartbeats 4000000 in
set_option maxRecDepth 100000 in
theorem bk_X5_dreamsBy_127 {p : Program} {l : Launch} {e : Env} {s : State} {m : MethodId} {args : Array Value} {below : List Frame} {meth : Method} {c : Code} {Z : State → Prop} {D : va_G} {cA : Nat → ClassId} {h : Nat → Nat} {Q : Int32 → sT → Prop} (C0 : cx p s m args c cX5_dreamsBy 5 RX5 D cA false keysRA h) (hret : rtZ p l e rm_X5_dreamsBy s m args below meth c cX5_dreamsBy Z D (wR h cA) (aK keysRA h s.heap.size) Q) {x1 : Int32} {S : sT} {H : Heap} {locs : List Loc} {ls : Array Slot} (hP : va_P D vwCl (wR h cA S) H) (hS : va_S (aK keysRA h s.heap.size) s.heap H locs) (hd : wb_X5_dreamsBy_127 Q x1 S) (hl : lv_has ls 5 [(1, .int x1)]) : W p l e rm_X5_dreamsBy s m args below meth c H locs 0 0 Z (F0 m 127 ls []) := by
  obtain ⟨⟨hx, hb, hml, hown, hts⟩, hK, -, -⟩ := id C0
  unfold wb_X5_dreamsBy_127 at hd
  refine lv_iload_n hx hb dX5_dreamsBy_127 rfl (lv_at hl 0 rfl) ?_
  refine lv_iconst (v := 2) hx hb dX5_dreamsBy_128 (by decide) ?_
  refine lv_irem hx hb dX5_dreamsBy_129 (by decide) ?_
  refine lv_if_ne (tgt := 137) hx hb dX5_dreamsBy_130 (by decide) (fun hc => ?_) (fun hc => ?_)
  · have hd := hd.1 hc
    refine lv_iconst (v := 0) hx hb dX5_dreamsBy_137 (by decide) ?_
    exact hret _ _ _ _ _ _ rfl hd hP hS dX5_dreamsBy_138
  · have hd := hd.2 hc
    refine lv_iconst (v := 1) hx hb dX5_dreamsBy_133 (by decide) ?_
    refine lv_goto (tgt := 138) hx hb dX5_dreamsBy_134 (by decide) ?_
    exact hret _ _ _ _ _ _ rfl hd hP hS dX5_dreamsBy_138
def wb_X5_dreamsBy_20 (Q : Int32 → sT → Prop) (x0 : Int32) (x1 : Int32) (x2 : Int32) (x3 : Int32) (y0 : Int32) (S : sT) : Prop :=
  ((x0 = (1 : Int32) → (((4 : Int32) ≤ x3 → Q (0 : Int32) S) ∧ (¬ (4 : Int32) ≤ x3 → Q (1 : Int32) S))) ∧ (x0 = (2 : Int32) → ((x3 < (2 : Int32) → Q (1 : Int32) S) ∧ (¬ x3 < (2 : Int32) → ((y0 = 0 → Q (0 : Int32) S) ∧ (¬ y0 = 0 → Q (1 : Int32) S))))) ∧ (x0 = (3 : Int32) → (((2 : Int32) ≤ x3 → Q (0 : Int32) S) ∧ (¬ (2 : Int32) ≤ x3 → ((x2 ≤ (19 : Int32) → Q (0 : Int32) S) ∧ (¬ x2 ≤ (19 : Int32) → Q (1 : Int32) S))))) ∧ (x0 = (4 : Int32) → ((x3 < (4 : Int32) → Q (1 : Int32) S) ∧ (¬ x3 < (4 : Int32) → ((x2 ≤ (29 : Int32) → Q (0 : Int32) S) ∧ (¬ x2 ≤ (29 : Int32) → Q (1 : Int32) S))))) ∧ (x0 = (5 : Int32) → ((x3 < (2 : Int32) → wb_X5_dreamsBy_127 Q x1 S) ∧ (¬ x3 < (2 : Int32) → ((y0 = 0 → Q (0 : Int32) S) ∧ (¬ y0 = 0 → wb_X5_dreamsBy_127 Q x1 S))))) ∧ (¬ x0 = (1 : Int32) → ¬ x0 = (2 : Int32) → ¬ x0 = (3 : Int32) → ¬ x0 = (4 : Int32) → ¬ x0 = (5 : Int32) → (((2 : Int32) ≤ x3 → Q (0 : Int32) S) ∧ (¬ (2 : Int32) ≤ x3 → Q (1 : Int32) S))))
set_option maxHeartbeats 4000000 in
set_option maxRecDepth 100000 in
theorem bk_X5_dreamsBy_20 {p : Program} {l : Launch} {e : Env} {s : State} {m : MethodId} {args : Array Value} {below : List Frame} {meth : Method} {c : Code} {Z : State → Prop} {D : va_G} {cA : Nat → ClassId} {h : Nat → Nat} {Q : Int32 → sT → Prop} (C0 : cx p s m args c cX5_dreamsBy 5 RX5 D cA false keysRA h) (hret : rtZ p l e rm_X5_dreamsBy s m args below meth c cX5_dreamsBy Z D (wR h cA) (aK keysRA h s.heap.size) Q) {x0 : Int32} {x1 : Int32} {x2 : Int32} {x3 : Int32} {y0 : Int32} {S : sT} {H : Heap} {locs : List Loc} {ls : Array Slot} (hP : va_P D vwCl (wR h cA S) H) (hS : va_S (aK keysRA h s.heap.size) s.heap H locs) (hd : wb_X5_dreamsBy_20 Q x0 x1 x2 x3 y0 S) (hl : lv_has ls 5 [(0, .int x0), (1, .int x1), (2, .int x2), (3, .int x3)]) : W p l e rm_X5_dreamsBy s m args below meth c H locs 0 0 Z (F0 m 20 ls [.int y0]) := by
  obtain ⟨⟨hx, hb, hml, hown, hts⟩, hK, -, -⟩ := id C0
  unfold wb_X5_dreamsBy_20 at hd
  refine lv_istore (lv' := [(4, .int y0), (0, .int x0), (1, .int x1), (2, .int x2), (3, .int x3)]) hx hb dX5_dreamsBy_20 hl (by decide) rfl (fun ls hl => ?_)
  refine lv_iload_n hx hb dX5_dreamsBy_22 rfl (lv_at hl 1 rfl) ?_
  by_cases hq1 : x0 = (1 : Int32)
  · have hd := hd.1 hq1
    refine lv_tableIn (off := 33) (tgt := 56) hx hb dX5_dreamsBy_23 (by rw [hq1]; decide) (by rw [hq1]; decide) (by rw [hq1]; decide) (by decide) ?_
    refine lv_iload_n hx hb dX5_dreamsBy_56 rfl (lv_at hl 4 rfl) ?_
    refine lv_iconst (v := 4) hx hb dX5_dreamsBy_57 (by decide) ?_
    refine lv_icmp_ge (tgt := 65) hx hb dX5_dreamsBy_58 (by decide) (fun hc => ?_) (fun hc => ?_)
    · have hd := hd.1 hc
      refine lv_iconst (v := 0) hx hb dX5_dreamsBy_65 (by decide) ?_
      exact hret _ _ _ _ _ _ rfl hd hP hS dX5_dreamsBy_66
    · have hd := hd.2 hc
      refine lv_iconst (v := 1) hx hb dX5_dreamsBy_61 (by decide) ?_
      refine lv_goto (tgt := 66) hx hb dX5_dreamsBy_62 (by decide) ?_
      exact hret _ _ _ _ _ _ rfl hd hP hS dX5_dreamsBy_66
  by_cases hq2 : x0 = (2 : Int32)
  · have hd := hd.2.1 hq2
    refine lv_tableIn (off := 44) (tgt := 67) hx hb dX5_dreamsBy_23 (by rw [hq2]; decide) (by rw [hq2]; decide) (by rw [hq2]; decide) (by decide) ?_
    refine lv_iload_n hx hb dX5_dreamsBy_67 rfl (lv_at hl 4 rfl) ?_
    refine lv_iconst (v := 2) hx hb dX5_dreamsBy_68 (by decide) ?_
    refine lv_icmp_lt (tgt := 77) hx hb dX5_dreamsBy_69 (by decide) (fun hc => ?_) (fun hc => ?_)
    · have hd := hd.1 hc
      refine lv_iconst (v := 1) hx hb dX5_dreamsBy_77 (by decide) ?_
      refine lv_goto (tgt := 82) hx hb dX5_dreamsBy_78 (by decide) ?_
      exact hret _ _ _ _ _ _ rfl hd hP hS dX5_dreamsBy_82
    · have hd := hd.2 hc
      refine lv_iload hx hb dX5_dreamsBy_72 (lv_at hl 0 rfl) ?_
      refine lv_if_eq (tgt := 81) hx hb dX5_dreamsBy_74 (by decide) (fun hc => ?_) (fun hc => ?_)
      · have hd := hd.1 hc
        refine lv_iconst (v := 0) hx hb dX5_dreamsBy_81 (by decide) ?_
        exact hret _ _ _ _ _ _ rfl hd hP hS dX5_dreamsBy_82
      · have hd := hd.2 hc
        refine lv_iconst (v := 1) hx hb dX5_dreamsBy_77 (by decide) ?_
        refine lv_goto (tgt := 82) hx hb dX5_dreamsBy_78 (by decide) ?_
        exact hret _ _ _ _ _ _ rfl hd hP hS dX5_dreamsBy_82
  by_cases hq3 : x0 = (3 : Int32)
  · have hd := hd.2.2.1 hq3
    refine lv_tableIn (off := 60) (tgt := 83) hx hb dX5_dreamsBy_23 (by rw [hq3]; decide) (by rw [hq3]; decide) (by rw [hq3]; decide) (by decide) ?_
    refine lv_iload_n hx hb dX5_dreamsBy_83 rfl (lv_at hl 4 rfl) ?_
    refine lv_iconst (v := 2) hx hb dX5_dreamsBy_84 (by decide) ?_
    refine lv_icmp_ge (tgt := 98) hx hb dX5_dreamsBy_85 (by decide) (fun hc => ?_) (fun hc => ?_)
    · have hd := hd.1 hc
      refine lv_iconst (v := 0) hx hb dX5_dreamsBy_98 (by decide) ?_
      exact hret _ _ _ _ _ _ rfl hd hP hS dX5_dreamsBy_99
    · have hd := hd.2 hc
      refine lv_iload_n hx hb dX5_dreamsBy_88 rfl (lv_at hl 3 rfl) ?_
      refine lv_bipush (v := 19) hx hb dX5_dreamsBy_89 (by decide) ?_
      refine lv_icmp_le (tgt := 98) hx hb dX5_dreamsBy_91 (by decide) (fun hc => ?_) (fun hc => ?_)
      · have hd := hd.1 hc
        refine lv_iconst (v := 0) hx hb dX5_dreamsBy_98 (by decide) ?_
        exact hret _ _ _ _ _ _ rfl hd hP hS dX5_dreamsBy_99
      · have hd := hd.2 hc
        refine lv_iconst (v := 1) hx hb dX5_dreamsBy_94 (by decide) ?_
        refine lv_goto (tgt := 99) hx hb dX5_dreamsBy_95 (by decide) ?_
        exact hret _ _ _ _ _ _ rfl hd hP hS dX5_dreamsBy_99
  by_cases hq4 : x0 = (4 : Int32)
  · have hd := hd.2.2.2.1 hq4
    refine lv_tableIn (off := 77) (tgt := 100) hx hb dX5_dreamsBy_23 (by rw [hq4]; decide) (by rw [hq4]; decide) (by rw [hq4]; decide) (by decide) ?_
    refine lv_iload_n hx hb dX5_dreamsBy_100 rfl (lv_at hl 4 rfl) ?_
    refine lv_iconst (v := 4) hx hb dX5_dreamsBy_101 (by decide) ?_
    refine lv_icmp_lt (tgt := 111) hx hb dX5_dreamsBy_102 (by decide) (fun hc => ?_) (fun hc => ?_)
    · have hd := hd.1 hc
      refine lv_iconst (v := 1) hx hb dX5_dreamsBy_111 (by decide) ?_
      refine lv_goto (tgt := 116) hx hb dX5_dreamsBy_112 (by decide) ?_
      exact hret _ _ _ _ _ _ rfl hd hP hS dX5_dreamsBy_116
    · have hd := hd.2 hc
      refine lv_iload_n hx hb dX5_dreamsBy_105 rfl (lv_at hl 3 rfl) ?_
      refine lv_bipush (v := 29) hx hb dX5_dreamsBy_106 (by decide) ?_
      refine lv_icmp_le (tgt := 115) hx hb dX5_dreamsBy_108 (by decide) (fun hc => ?_) (fun hc => ?_)
      · have hd := hd.1 hc
        refine lv_iconst (v := 0) hx hb dX5_dreamsBy_115 (by decide) ?_
        exact hret _ _ _ _ _ _ rfl hd hP hS dX5_dreamsBy_116
      · have hd := hd.2 hc
        refine lv_iconst (v := 1) hx hb dX5_dreamsBy_111 (by decide) ?_
        refine lv_goto (tgt := 116) hx hb dX5_dreamsBy_112 (by decide) ?_
        exact hret _ _ _ _ _ _ rfl hd hP hS dX5_dreamsBy_116
  by_cases hq5 : x0 = (5 : Int32)
  · have hd := hd.2.2.2.2.1 hq5
    refine lv_tableIn (off := 94) (tgt := 117) hx hb dX5_dreamsBy_23 (by rw [hq5]; decide) (by rw [hq5]; decide) (by rw [hq5]; decide) (by decide) ?_
    refine lv_iload_n hx hb dX5_dreamsBy_117 rfl (lv_at hl 4 rfl) ?_
    refine lv_iconst (v := 2) hx hb dX5_dreamsBy_118 (by decide) ?_
    refine lv_icmp_lt (tgt := 127) hx hb dX5_dreamsBy_119 (by decide) (fun hc => ?_) (fun hc => ?_)
    · have hd := hd.1 hc
      exact bk_X5_dreamsBy_127 C0 hret hP hS hd (lv_sub hl [2] rfl)
    · have hd := hd.2 hc
      refine lv_iload hx hb dX5_dreamsBy_122 (lv_at hl 0 rfl) ?_
      refine lv_if_eq (tgt := 137) hx hb dX5_dreamsBy_124 (by decide) (fun hc => ?_) (fun hc => ?_)
      · have hd := hd.1 hc
        refine lv_iconst (v := 0) hx hb dX5_dreamsBy_137 (by decide) ?_
        exact hret _ _ _ _ _ _ rfl hd hP hS dX5_dreamsBy_138
      · have hd := hd.2 hc
        exact bk_X5_dreamsBy_127 C0 hret hP hS hd (lv_sub hl [2] rfl)
  have hd := hd.2.2.2.2.2 hq1 hq2 hq3 hq4 hq5
  refine lv_tableOut (tgt := 139) hx hb dX5_dreamsBy_23 (sw_out 1 5 (by decide) (by decide) (fun v h1 h2 => by rcases (show v = 1 ∨ v = 2 ∨ v = 3 ∨ v = 4 ∨ v = 5 by omega) with rfl | rfl | rfl | rfl | rfl <;> assumption)) (by decide) ?_
  refine lv_iload_n hx hb dX5_dreamsBy_139 rfl (lv_at hl 4 rfl) ?_
  refine lv_iconst (v := 2) hx hb dX5_dreamsBy_140 (by decide) ?_
  refine lv_icmp_ge (tgt := 148) hx hb dX5_dreamsBy_141 (by decide) (fun hc => ?_) (fun hc => ?_)
  · have hd := hd.1 hc
    refine lv_iconst (v := 0) hx hb dX5_dreamsBy_148 (by decide) ?_
    exact hret _ _ _ _ _ _ rfl hd hP hS dX5_dreamsBy_149
  · have hd := hd.2 hc
    refine lv_iconst (v := 1) hx hb dX5_dreamsBy_144 (by decide) ?_
    refine lv_goto (tgt := 149) hx hb dX5_dreamsBy_145 (by decide) ?_
    exact hret _ _ _ _ _ _ rfl hd hP hS dX5_dreamsBy_149
def wp_X5_dreamsBy (x0 : Int32) (x1 : Int32) (x2 : Int32) (S : sT) (Q : Int32 → sT → Prop) : Prop :=
  ((¬ ((x2 + x1) - (x2 + x1) / (5 : Int32) * (5 : Int32)) = 0 → wb_X5_dreamsBy_20 Q x0 x1 x2 ((x2 + x1) - (x2 + x1) / (6 : Int32) * (6 : Int32)) (0 : Int32) S) ∧ (((x2 + x1) - (x2 + x1) / (5 : Int32) * (5 : Int32)) = 0 → wb_X5_dreamsBy_20 Q x0 x1 x2 ((x2 + x1) - (x2 + x1) / (6 : Int32) * (6 : Int32)) (1 : Int32) S))
set_option maxHeartbeats 4000000 in
set_option maxRecDepth 100000 in
theorem bk_X5_dreamsBy {p : Program} {l : Launch} {e : Env} {s : State} {m : MethodId} {args : Array Value} {below : List Frame} {meth : Method} {c : Code} {Z : State → Prop} {D : va_G} {cA : Nat → ClassId} {h : Nat → Nat} {Q : Int32 → sT → Prop} (C0 : cx p s m args c cX5_dreamsBy 5 RX5 D cA false keysRA h) (hret : rtZ p l e rm_X5_dreamsBy s m args below meth c cX5_dreamsBy Z D (wR h cA) (aK keysRA h s.heap.size) Q) {x0 : Int32} {x1 : Int32} {x2 : Int32} {S : sT} {H : Heap} {locs : List Loc} {ls : Array Slot} (hP : va_P D vwCl (wR h cA S) H) (hS : va_S (aK keysRA h s.heap.size) s.heap H locs) (hd : wp_X5_dreamsBy x0 x1 x2 S Q) (hl : lv_has ls 5 [(0, .int x0), (1, .int x1), (2, .int x2)]) : W p l e rm_X5_dreamsBy s m args below meth c H locs 0 0 Z (F0 m 0 ls []) := by
  obtain ⟨⟨hx, hb, hml, hown, hts⟩, hK, -, -⟩ := id C0
  unfold wp_X5_dreamsBy at hd
  refine lv_iload_n hx hb dX5_dreamsBy_0 rfl (lv_at hl 2 rfl) ?_
  refine lv_iload_n hx hb dX5_dreamsBy_1 rfl (lv_at hl 1 rfl) ?_
  refine lv_iadd hx hb dX5_dreamsBy_2 ?_
  refine lv_bipush (v := 6) hx hb dX5_dreamsBy_3 (by decide) ?_
  refine lv_irem hx hb dX5_dreamsBy_5 (by decide) ?_
  refine lv_istore_n (lv' := [(3, .int ((x2 + x1) - (x2 + x1) / (6 : Int32) * (6 : Int32))), (0, .int x0), (1, .int x1), (2, .int x2)]) hx hb dX5_dreamsBy_6 rfl hl (by decide) rfl (fun ls hl => ?_)
  refine lv_iload_n hx hb dX5_dreamsBy_7 rfl (lv_at hl 3 rfl) ?_
  refine lv_iload_n hx hb dX5_dreamsBy_8 rfl (lv_at hl 2 rfl) ?_
  refine lv_iadd hx hb dX5_dreamsBy_9 ?_
  refine lv_iconst (v := 5) hx hb dX5_dreamsBy_10 (by decide) ?_
  refine lv_irem hx hb dX5_dreamsBy_11 (by decide) ?_
  refine lv_if_ne (tgt := 19) hx hb dX5_dreamsBy_12 (by decide) (fun hc => ?_) (fun hc => ?_)
  · have hd := hd.1 hc
    refine lv_iconst (v := 0) hx hb dX5_dreamsBy_19 (by decide) ?_
    exact bk_X5_dreamsBy_20 C0 hret hP hS hd (lv_sub hl [1, 2, 3, 0] rfl)
  · have hd := hd.2 hc
    refine lv_iconst (v := 1) hx hb dX5_dreamsBy_15 (by decide) ?_
    refine lv_goto (tgt := 20) hx hb dX5_dreamsBy_16 (by decide) ?_
    exact bk_X5_dreamsBy_20 C0 hret hP hS hd (lv_sub hl [1, 2, 3, 0] rfl)
theorem c_X5_dreamsBy (l : Launch) {D : va_G} {cA : Nat → ClassId} {h : Nat → Nat} (hk : ky keysRA h) {x0 : Int32} {x1 : Int32} {x2 : Int32} {S : sT} (sz : Nat) {Q : Int32 → sT → Prop} (hd : wp_X5_dreamsBy x0 x1 x2 S Q) : Met l yX5_dreamsBy (wsU yX5_dreamsBy cX5_dreamsBy 5 (some .boolean)) rm_X5_dreamsBy (va_Pc [.int x0, .int x1, .int x2] (gP D cA false keysRA h (wR h cA) S sz)) (va_Qi Q (wB D (wR h cA)) (aK keysRA h sz)) 0 0 (aK keysRA h sz) :=
  mk_z (by decide) hk (Nat.le_of_ble_eq_true rfl) (fun p e s m below meth c Z ls C0 hret hP hS hl => bk_X5_dreamsBy C0 hret hP hS hd hl)
abbrev rm_X5_dreamsOn : Room := { frames := 1, cells := 0, slots := 0, locals := 24 }
def wp_X5_dreamsOn (k1 : Nat) (x2 : Int32) (x3 : Int32) (S : sT) (Q : Int32 → sT → Prop) : Prop :=
  (vp_in x2 6) ∧ (vp_in ((3 : Int32) + x2) (lenR k1)) ∧ wp_X5_dreamsBy (vA S 12 x2.toNatClampNeg) (vA S k1 ((3 : Int32) + x2).toNatClampNeg) x3 S (fun r_3 S_3 => bo r_3 ∧ Q r_3 S_3)
set_option maxHeartbeats 4000000 in
set_option maxRecDepth 100000 in
theorem bk_X5_dreamsOn {p : Program} {l : Launch} {e : Env} {s : State} {m : MethodId} {args : Array Value} {below : List Frame} {meth : Method} {c : Code} {Z : State → Prop} {D : va_G} {cA : Nat → ClassId} {h : Nat → Nat} {Q : Int32 → sT → Prop} {k1 : Nat} (C0 : cx p s m args c cX5_dreamsOn 4 RX5 D cA false keysRA h) (hret : rtZ p l e rm_X5_dreamsOn s m args below meth c cX5_dreamsOn Z D (wR h cA) (aK keysRA h s.heap.size) Q) (hk1 : k1 ∈ keysR) {x2 : Int32} {x3 : Int32} {S : sT} {H : Heap} {locs : List Loc} {ls : Array Slot} (hP : va_P D vwCl (wR h cA S) H) (hS : va_S (aK keysRA h s.heap.size) s.heap H locs) (hd : wp_X5_dreamsOn k1 x2 x3 S Q) (hl : lv_has ls 4 [(0, .ref (h 100)), (1, .ref (h k1)), (2, .int x2), (3, .int x3)]) : W p l e rm_X5_dreamsOn s m args below meth c H locs 0 0 Z (F0 m 0 ls []) := by
  obtain ⟨⟨hx, hb, hml, hown, hts⟩, hK, -, -⟩ := id C0
  unfold wp_X5_dreamsOn at hd
  refine lv_aload_n hx hb dX5_dreamsOn_0 rfl (lv_at hl 0 rfl) ?_
  refine gf_X5_29 C0 hP dX5_dreamsOn_1 ?_
  refine lv_iload_n hx hb dX5_dreamsOn_4 rfl (lv_at hl 2 rfl) ?_
  obtain ⟨h_1, hd⟩ := hd
  refine ldR (by decide) C0 hP h_1 dX5_dreamsOn_5 ?_
  refine lv_aload_n hx hb dX5_dreamsOn_6 rfl (lv_at hl 1 rfl) ?_
  refine lv_iconst (v := 3) hx hb dX5_dreamsOn_7 (by decide) ?_
  refine lv_iload_n hx hb dX5_dreamsOn_8 rfl (lv_at hl 2 rfl) ?_
  refine lv_iadd hx hb dX5_dreamsOn_9 ?_
  obtain ⟨h_2, hd⟩ := hd
  refine ldR hk1 C0 hP h_2 dX5_dreamsOn_10 ?_
  refine lv_iload_n hx hb dX5_dreamsOn_11 rfl (lv_at hl 3 rfl) ?_
  refine cl_Si (n := 3) (rest := []) C0 hP hS (c_X5_dreamsBy l C0.2.2.1 _ hd) (lwG_S lm_X5_161 ls_X5_dreamsBy lz_RX5 lc_X5_dreamsBy) (by decide +kernel) rfl rfl (Nat.le_of_ble_eq_true rfl) ⟨rfl, rfl⟩ ⟨by decide, by decide⟩ dX5_dreamsOn_12 hl.1 ⟨Nat.zero_le _, Nat.zero_le _⟩ (fun r_3 S_3 H locs hd hP hS => ?_)
  exact hret _ _ _ _ _ _ hd.1 hd.2 hP hS dX5_dreamsOn_15
theorem c_X5_dreamsOn (l : Launch) {D : va_G} {cA : Nat → ClassId} {h : Nat → Nat} (hk : ky keysRA h) {k1 : Nat} (hk1 : k1 ∈ keysR) {x2 : Int32} {x3 : Int32} {S : sT} (sz : Nat) {Q : Int32 → sT → Prop} (hd : wp_X5_dreamsOn k1 x2 x3 S Q) : Met l yX5_dreamsOn (wsU yX5_dreamsOn cX5_dreamsOn 4 (some .boolean)) rm_X5_dreamsOn (va_Pc [.ref (h 100), .ref (h k1), .int x2, .int x3] (gP D cA false keysRA h (wR h cA) S sz)) (va_Qi Q (wB D (wR h cA)) (aK keysRA h sz)) 0 0 (aK keysRA h sz) :=
  mk_z (by decide) hk (Nat.le_of_ble_eq_true rfl) (fun p e s m below meth c Z ls C0 hret hP hS hl => bk_X5_dreamsOn C0 hret hk1 hP hS hd hl)
abbrev rm_X5_has : Room := { frames := 0, cells := 0, slots := 0, locals := 0 }
def wp_X5_has (x0 : Int32) (x1 : Int32) (S : sT) (Q : Int32 → sT → Prop) : Prop :=
  ((¬ ((x0 >>> (x1 &&& 31)) &&& (1 : Int32)) = (1 : Int32) → Q (0 : Int32) S) ∧ (((x0 >>> (x1 &&& 31)) &&& (1 : Int32)) = (1 : Int32) → Q (1 : Int32) S))
set_option maxHeartbeats 4000000 in
set_option maxRecDepth 100000 in
theorem bk_X5_has {p : Program} {l : Launch} {e : Env} {s : State} {m : MethodId} {args : Array Value} {below : List Frame} {meth : Method} {c : Code} {Z : State → Prop} {D : va_G} {cA : Nat → ClassId} {h : Nat → Nat} {Q : Int32 → sT → Prop} (C0 : cx p s m args c cX5_has 2 RX5 D cA false keysRA h) (hret : rtZ p l e rm_X5_has s m args below meth c cX5_has Z D (wR h cA) (aK keysRA h s.heap.size) Q) {x0 : Int32} {x1 : Int32} {S : sT} {H : Heap} {locs : List Loc} {ls : Array Slot} (hP : va_P D vwCl (wR h cA S) H) (hS : va_S (aK keysRA h s.heap.size) s.heap H locs) (hd : wp_X5_has x0 x1 S Q) (hl : lv_has ls 2 [(0, .int x0), (1, .int x1)]) : W p l e rm_X5_has s m args below meth c H locs 0 0 Z (F0 m 0 ls []) := by
  obtain ⟨⟨hx, hb, hml, hown, hts⟩, hK, -, -⟩ := id C0
  unfold wp_X5_has at hd
  refine lv_iload_n hx hb dX5_has_0 rfl (lv_at hl 0 rfl) ?_
  refine lv_iload_n hx hb dX5_has_1 rfl (lv_at hl 1 rfl) ?_
  refine lv_ishr hx hb dX5_has_2 ?_
  refine lv_iconst (v := 1) hx hb dX5_has_3 (by decide) ?_
  refine lv_iand hx hb dX5_has_4 ?_
  refine lv_iconst (v := 1) hx hb dX5_has_5 (by decide) ?_
  refine lv_icmp_ne (tgt := 13) hx hb dX5_has_6 (by decide) (fun hc => ?_) (fun hc => ?_)
  · have hd := hd.1 hc
    refine lv_iconst (v := 0) hx hb dX5_has_13 (by decide) ?_
    exact hret _ _ _ _ _ _ rfl hd hP hS dX5_has_14
  · have hd := hd.2 hc
    refine lv_iconst (v := 1) hx hb dX5_has_9 (by decide) ?_
    refine lv_goto (tgt := 14) hx hb dX5_has_10 (by decide) ?_
    exact hret _ _ _ _ _ _ rfl hd hP hS dX5_has_14
theorem c_X5_has (l : Launch) {D : va_G} {cA : Nat → ClassId} {h : Nat → Nat} (hk : ky keysRA h) {x0 : Int32} {x1 : Int32} {S : sT} (sz : Nat) {Q : Int32 → sT → Prop} (hd : wp_X5_has x0 x1 S Q) : Met l yX5_has (wsU yX5_has cX5_has 2 (some .boolean)) rm_X5_has (va_Pc [.int x0, .int x1] (gP D cA false keysRA h (wR h cA) S sz)) (va_Qi Q (wB D (wR h cA)) (aK keysRA h sz)) 0 0 (aK keysRA h sz) :=
  mk_z (by decide) hk (Nat.le_of_ble_eq_true rfl) (fun p e s m below meth c Z ls C0 hret hP hS hl => bk_X5_has C0 hret hP hS hd hl)
abbrev rm_X5_standsOn : Room := { frames := 2, cells := 0, slots := 0, locals := 47 }
def wb_X5_standsOn_69 (k1 : Nat) (Q : Int32 → sT → Prop) (K18 : Int32 → Int32 → sT → Prop) (x3 : Int32) (y0 : Int32) (S : sT) : Prop :=
  K18 y0 (x3 + (1 : Int32)) S
set_option maxHeartbeats 4000000 in
set_option maxRecDepth 100000 in
theorem bk_X5_standsOn_69 {p : Program} {l : Launch} {e : Env} {s : State} {m : MethodId} {args : Array Value} {below : List Frame} {meth : Method} {c : Code} {Z : State → Prop} {D : va_G} {cA : Nat → ClassId} {h : Nat → Nat} {Q : Int32 → sT → Prop} {k1 : Nat} (C0 : cx p s m args c cX5_standsOn 4 RX5 D cA false keysRA h) (hret : rtZ p l e rm_X5_standsOn s m args below meth c cX5_standsOn Z D (wR h cA) (aK keysRA h s.heap.size) Q) (hk1 : k1 ∈ keysR) {K18 : Int32 → Int32 → sT → Prop} (k18 : ∀ (x2 : Int32) (x3 : Int32) (S : sT) (H : Heap) (locs : List Loc) (ls : Array Slot), K18 x2 x3 S → va_P D vwCl (wR h cA S) H → va_S (aK keysRA h s.heap.size) s.heap H locs → lv_has ls 4 [(0, .ref (h 100)), (1, .ref (h k1)), (2, .int x2), (3, .int x3)] → W p l e rm_X5_standsOn s m args below meth c H locs 0 0 Z (F0 m 18 ls [])) {x3 : Int32} {y0 : Int32} {S : sT} {H : Heap} {locs : List Loc} {ls : Array Slot} (hP : va_P D vwCl (wR h cA S) H) (hS : va_S (aK keysRA h s.heap.size) s.heap H locs) (hd : wb_X5_standsOn_69 k1 Q K18 x3 y0 S) (hl : lv_has ls 4 [(0, .ref (h 100)), (1, .ref (h k1)), (3, .int x3)]) : W p l e rm_X5_standsOn s m args below meth c H locs 0 0 Z (F0 m 69 ls [.int y0]) := by
  obtain ⟨⟨hx, hb, hml, hown, hts⟩, hK, -, -⟩ := id C0
  unfold wb_X5_standsOn_69 at hd
  refine lv_istore_n (lv' := [(2, .int y0), (0, .ref (h 100)), (1, .ref (h k1)), (3, .int x3)]) hx hb dX5_standsOn_69 rfl hl (by decide) rfl (fun ls hl => ?_)
  refine lv_iinc (v := x3 + (1 : Int32)) (lv' := [(3, .int (x3 + (1 : Int32))), (2, .int y0), (0, .ref (h 100)), (1, .ref (h k1))]) hx hb dX5_standsOn_70 hl (k := 3) rfl rfl (by decide) rfl (fun ls hl => ?_)
  refine lv_goto (tgt := 18) hx hb dX5_standsOn_73 (by decide) ?_
  exact k18 _ _ _ _ _ _ hd hP hS (lv_sub hl [2, 3, 1, 0] rfl)
def wb_X5_standsOn_64 (k1 : Nat) (Q : Int32 → sT → Prop) (K18 : Int32 → Int32 → sT → Prop) (x3 : Int32) (S : sT) : Prop :=
  wb_X5_standsOn_69 k1 Q K18 x3 (1 : Int32) S
set_option maxHeartbeats 4000000 in
set_option maxRecDepth 100000 in
theorem bk_X5_standsOn_64 {p : Program} {l : Launch} {e : Env} {s : State} {m : MethodId} {args : Array Value} {below : List Frame} {meth : Method} {c : Code} {Z : State → Prop} {D : va_G} {cA : Nat → ClassId} {h : Nat → Nat} {Q : Int32 → sT → Prop} {k1 : Nat} (C0 : cx p s m args c cX5_standsOn 4 RX5 D cA false keysRA h) (hret : rtZ p l e rm_X5_standsOn s m args below meth c cX5_standsOn Z D (wR h cA) (aK keysRA h s.heap.size) Q) (hk1 : k1 ∈ keysR) {K18 : Int32 → Int32 → sT → Prop} (k18 : ∀ (x2 : Int32) (x3 : Int32) (S : sT) (H : Heap) (locs : List Loc) (ls : Array Slot), K18 x2 x3 S → va_P D vwCl (wR h cA S) H → va_S (aK keysRA h s.heap.size) s.heap H locs → lv_has ls 4 [(0, .ref (h 100)), (1, .ref (h k1)), (2, .int x2), (3, .int x3)] → W p l e rm_X5_standsOn s m args below meth c H locs 0 0 Z (F0 m 18 ls [])) {x3 : Int32} {S : sT} {H : Heap} {locs : List Loc} {ls : Array Slot} (hP : va_P D vwCl (wR h cA S) H) (hS : va_S (aK keysRA h s.heap.size) s.heap H locs) (hd : wb_X5_standsOn_64 k1 Q K18 x3 S) (hl : lv_has ls 4 [(0, .ref (h 100)), (1, .ref (h k1)), (3, .int x3)]) : W p l e rm_X5_standsOn s m args below meth c H locs 0 0 Z (F0 m 64 ls []) := by
  obtain ⟨⟨hx, hb, hml, hown, hts⟩, hK, -, -⟩ := id C0
  unfold wb_X5_standsOn_64 at hd
  refine lv_iconst (v := 1) hx hb dX5_standsOn_64 (by decide) ?_
  refine lv_goto (tgt := 69) hx hb dX5_standsOn_65 (by decide) ?_
  exact bk_X5_standsOn_69 C0 hret hk1 k18 hP hS hd (lv_sub hl [0, 1, 2] rfl)
def wb_X5_standsOn_68 (k1 : Nat) (Q : Int32 → sT → Prop) (K18 : Int32 → Int32 → sT → Prop) (x3 : Int32) (S : sT) : Prop :=
  wb_X5_standsOn_69 k1 Q K18 x3 (0 : Int32) S
set_option maxHeartbeats 4000000 in
set_option maxRecDepth 100000 in
theorem bk_X5_standsOn_68 {p : Program} {l : Launch} {e : Env} {s : State} {m : MethodId} {args : Array Value} {below : List Frame} {meth : Method} {c : Code} {Z : State → Prop} {D : va_G} {cA : Nat → ClassId} {h : Nat → Nat} {Q : Int32 → sT → Prop} {k1 : Nat} (C0 : cx p s m args c cX5_standsOn 4 RX5 D cA false keysRA h) (hret : rtZ p l e rm_X5_standsOn s m args below meth c cX5_standsOn Z D (wR h cA) (aK keysRA h s.heap.size) Q) (hk1 : k1 ∈ keysR) {K18 : Int32 → Int32 → sT → Prop} (k18 : ∀ (x2 : Int32) (x3 : Int32) (S : sT) (H : Heap) (locs : List Loc) (ls : Array Slot), K18 x2 x3 S → va_P D vwCl (wR h cA S) H → va_S (aK keysRA h s.heap.size) s.heap H locs → lv_has ls 4 [(0, .ref (h 100)), (1, .ref (h k1)), (2, .int x2), (3, .int x3)] → W p l e rm_X5_standsOn s m args below meth c H locs 0 0 Z (F0 m 18 ls [])) {x3 : Int32} {S : sT} {H : Heap} {locs : List Loc} {ls : Array Slot} (hP : va_P D vwCl (wR h cA S) H) (hS : va_S (aK keysRA h s.heap.size) s.heap H locs) (hd : wb_X5_standsOn_68 k1 Q K18 x3 S) (hl : lv_has ls 4 [(0, .ref (h 100)), (1, .ref (h k1)), (3, .int x3)]) : W p l e rm_X5_standsOn s m args below meth c H locs 0 0 Z (F0 m 68 ls []) := by
  obtain ⟨⟨hx, hb, hml, hown, hts⟩, hK, -, -⟩ := id C0
  unfold wb_X5_standsOn_68 at hd
  refine lv_iconst (v := 0) hx hb dX5_standsOn_68 (by decide) ?_
  exact bk_X5_standsOn_69 C0 hret hk1 k18 hP hS hd (lv_sub hl [0, 1, 2] rfl)
def wb_X5_standsOn_18 (k1 : Nat) (Q : Int32 → sT → Prop) (K18 : Int32 → Int32 → sT → Prop) (x2 : Int32) (x3 : Int32) (S : sT) : Prop :=
  (((vI S 9) ≤ x3 → bo x2 ∧ Q x2 S) ∧ (¬ (vI S 9) ≤ x3 → ((¬ x2 = 0 → wb_X5_standsOn_64 k1 Q K18 x3 S) ∧ (x2 = 0 → (vp_in (2 : Int32) (lenR k1)) ∧ wp_X5_has (vA S k1 (2 : Int32).toNatClampNeg) x3 S (fun r_2 S_2 => ((r_2 = 0 → wb_X5_standsOn_68 k1 Q K18 x3 S_2) ∧ (¬ r_2 = 0 → (vp_in x3 6) ∧ (vp_in (1 : Int32) (lenR k1)) ∧ ((¬ (vA S_2 13 x3.toNatClampNeg) = (vA S_2 k1 (1 : Int32).toNatClampNeg) → wb_X5_standsOn_68 k1 Q K18 x3 S_2) ∧ ((vA S_2 13 x3.toNatClampNeg) = (vA S_2 k1 (1 : Int32).toNatClampNeg) → (vp_in (0 : Int32) (lenR k1)) ∧ wp_X5_dreamsOn k1 x3 (vA S_2 k1 (0 : Int32).toNatClampNeg) S_2 (fun r_6 S_6 => ((r_6 = 0 → wb_X5_standsOn_68 k1 Q K18 x3 S_6) ∧ (¬ r_6 = 0 → wb_X5_standsOn_64 k1 Q K18 x3 S_6))))))))))))
set_option maxHeartbeats 4000000 in
set_option maxRecDepth 100000 in
theorem bk_X5_standsOn_18 {p : Program} {l : Launch} {e : Env} {s : State} {m : MethodId} {args : Array Value} {below : List Frame} {meth : Method} {c : Code} {Z : State → Prop} {D : va_G} {cA : Nat → ClassId} {h : Nat → Nat} {Q : Int32 → sT → Prop} {k1 : Nat} (C0 : cx p s m args c cX5_standsOn 4 RX5 D cA false keysRA h) (hret : rtZ p l e rm_X5_standsOn s m args below meth c cX5_standsOn Z D (wR h cA) (aK keysRA h s.heap.size) Q) (hk1 : k1 ∈ keysR) {K18 : Int32 → Int32 → sT → Prop} (k18 : ∀ (x2 : Int32) (x3 : Int32) (S : sT) (H : Heap) (locs : List Loc) (ls : Array Slot), K18 x2 x3 S → va_P D vwCl (wR h cA S) H → va_S (aK keysRA h s.heap.size) s.heap H locs → lv_has ls 4 [(0, .ref (h 100)), (1, .ref (h k1)), (2, .int x2), (3, .int x3)] → W p l e rm_X5_standsOn s m args below meth c H locs 0 0 Z (F0 m 18 ls [])) {x2 : Int32} {x3 : Int32} {S : sT} {H : Heap} {locs : List Loc} {ls : Array Slot} (hP : va_P D vwCl (wR h cA S) H) (hS : va_S (aK keysRA h s.heap.size) s.heap H locs) (hd : wb_X5_standsOn_18 k1 Q K18 x2 x3 S) (hl : lv_has ls 4 [(0, .ref (h 100)), (1, .ref (h k1)), (2, .int x2), (3, .int x3)]) : W p l e rm_X5_standsOn s m args below meth c H locs 0 0 Z (F0 m 18 ls []) := by
  obtain ⟨⟨hx, hb, hml, hown, hts⟩, hK, -, -⟩ := id C0
  unfold wb_X5_standsOn_18 at hd
  refine lv_iload_n hx hb dX5_standsOn_18 rfl (lv_at hl 3 rfl) ?_
  refine lv_aload_n hx hb dX5_standsOn_19 rfl (lv_at hl 0 rfl) ?_
  refine gf_X5_97 C0 hP dX5_standsOn_20 ?_
  refine lv_icmp_ge (tgt := 76) hx hb dX5_standsOn_23 (by decide) (fun hc => ?_) (fun hc => ?_)
  · have hd := hd.1 hc
    refine lv_iload_n hx hb dX5_standsOn_76 rfl (lv_at hl 2 rfl) ?_
    exact hret _ _ _ _ _ _ hd.1 hd.2 hP hS dX5_standsOn_77
  · have hd := hd.2 hc
    refine lv_iload_n hx hb dX5_standsOn_26 rfl (lv_at hl 2 rfl) ?_
    refine lv_if_ne (tgt := 64) hx hb dX5_standsOn_27 (by decide) (fun hc => ?_) (fun hc => ?_)
    · have hd := hd.1 hc
      exact bk_X5_standsOn_64 C0 hret hk1 k18 hP hS hd (lv_sub hl [0, 1, 3] rfl)
    · have hd := hd.2 hc
      refine lv_aload_n hx hb dX5_standsOn_30 rfl (lv_at hl 1 rfl) ?_
      refine lv_iconst (v := 2) hx hb dX5_standsOn_31 (by decide) ?_
      obtain ⟨h_1, hd⟩ := hd
      refine ldR hk1 C0 hP h_1 dX5_standsOn_32 ?_
      refine lv_iload_n hx hb dX5_standsOn_33 rfl (lv_at hl 3 rfl) ?_
      refine cl_Si (n := 2) (rest := []) C0 hP hS (c_X5_has l C0.2.2.1 _ hd) (lwG_S lm_X5_165 ls_X5_has lz_RX5 lc_X5_has) (by decide +kernel) rfl rfl (Nat.le_of_ble_eq_true rfl) ⟨rfl, rfl⟩ ⟨by decide, by decide⟩ dX5_standsOn_34 hl.1 ⟨Nat.zero_le _, Nat.zero_le _⟩ (fun r_2 S_2 H locs hd hP hS => ?_)
      refine lv_if_eq (tgt := 68) hx hb dX5_standsOn_37 (by decide) (fun hc => ?_) (fun hc => ?_)
      · have hd := hd.1 hc
        exact bk_X5_standsOn_68 C0 hret hk1 k18 hP hS hd (lv_sub hl [0, 1, 3] rfl)
      · have hd := hd.2 hc
        refine lv_aload_n hx hb dX5_standsOn_40 rfl (lv_at hl 0 rfl) ?_
        refine gf_X5_32 C0 hP dX5_standsOn_41 ?_
        refine lv_iload_n hx hb dX5_standsOn_44 rfl (lv_at hl 3 rfl) ?_
        obtain ⟨h_3, hd⟩ := hd
        refine ldR (by decide) C0 hP h_3 dX5_standsOn_45 ?_
        refine lv_aload_n hx hb dX5_standsOn_46 rfl (lv_at hl 1 rfl) ?_
        refine lv_iconst (v := 1) hx hb dX5_standsOn_47 (by decide) ?_
        obtain ⟨h_4, hd⟩ := hd
        refine ldR hk1 C0 hP h_4 dX5_standsOn_48 ?_
        refine lv_icmp_ne (tgt := 68) hx hb dX5_standsOn_49 (by decide) (fun hc => ?_) (fun hc => ?_)
        · have hd := hd.1 hc
          exact bk_X5_standsOn_68 C0 hret hk1 k18 hP hS hd (lv_sub hl [0, 1, 3] rfl)
        · have hd := hd.2 hc
          refine lv_aload_n hx hb dX5_standsOn_52 rfl (lv_at hl 0 rfl) ?_
          refine lv_aload_n hx hb dX5_standsOn_53 rfl (lv_at hl 1 rfl) ?_
          refine lv_iload_n hx hb dX5_standsOn_54 rfl (lv_at hl 3 rfl) ?_
          refine lv_aload_n hx hb dX5_standsOn_55 rfl (lv_at hl 1 rfl) ?_
          refine lv_iconst (v := 0) hx hb dX5_standsOn_56 (by decide) ?_
          obtain ⟨h_5, hd⟩ := hd
          refine ldR hk1 C0 hP h_5 dX5_standsOn_57 ?_
          refine cl_Vi (n := 3) (rest := []) C0 hP hS (c_X5_dreamsOn l C0.2.2.1 hk1 _ hd) (lwG_V lm_X5_168 li_X5_dreamsOn lx_X5_dreamsOn lz_RX5 lc_X5_dreamsOn) (by decide +kernel) (oR_at h cA _) rfl rfl rfl (Nat.le_of_ble_eq_true rfl) ⟨rfl, rfl⟩ ⟨by decide, by decide⟩ dX5_standsOn_58 hl.1 ⟨Nat.zero_le _, Nat.zero_le _⟩ (fun r_6 S_6 H locs hd hP hS => ?_)
          refine lv_if_eq (tgt := 68) hx hb dX5_standsOn_61 (by decide) (fun hc => ?_) (fun hc => ?_)
          · have hd := hd.1 hc
            exact bk_X5_standsOn_68 C0 hret hk1 k18 hP hS hd (lv_sub hl [0, 1, 3] rfl)
          · have hd := hd.2 hc
            exact bk_X5_standsOn_64 C0 hret hk1 k18 hP hS hd (lv_sub hl [0, 1, 3] rfl)
def wl_X5_standsOn_18 (k1 : Nat) (Q : Int32 → sT → Prop) : Nat → Int32 → Int32 → sT → Prop
  | 0, _, _ => fun _ => False
  | n + 1, x2, x3 => fun S => wb_X5_standsOn_18 k1 Q (fun x2 x3 S => wl_X5_standsOn_18 k1 Q n x2 x3 S) x2 x3 S
theorem bl_X5_standsOn_18 {p : Program} {l : Launch} {e : Env} {s : State} {m : MethodId} {args : Array Value} {below : List Frame} {meth : Method} {c : Code} {Z : State → Prop} {D : va_G} {cA : Nat → ClassId} {h : Nat → Nat} {Q : Int32 → sT → Prop} {k1 : Nat} (C0 : cx p s m args c cX5_standsOn 4 RX5 D cA false keysRA h) (hret : rtZ p l e rm_X5_standsOn s m args below meth c cX5_standsOn Z D (wR h cA) (aK keysRA h s.heap.size) Q) (hk1 : k1 ∈ keysR) : ∀ (n : Nat) (x2 : Int32) (x3 : Int32) (S : sT) (H : Heap) (locs : List Loc) (ls : Array Slot), va_P D vwCl (wR h cA S) H → va_S (aK keysRA h s.heap.size) s.heap H locs → wl_X5_standsOn_18 k1 Q n x2 x3 S → lv_has ls 4 [(0, .ref (h 100)), (1, .ref (h k1)), (2, .int x2), (3, .int x3)] → W p l e rm_X5_standsOn s m args below meth c H locs 0 0 Z (F0 m 18 ls []) := by
  intro n
  induction n with
  | zero => intro x2 x3 S H locs ls hP hS hd hl; exact (show False from hd).elim
  | succ n ih => intro x2 x3 S H locs ls hP hS hd hl; exact bk_X5_standsOn_18 C0 hret hk1 (fun x2 x3 S H locs ls hd hP hS hl => ih x2 x3 S H locs ls hP hS hd hl) hP hS hd hl
def wb_X5_standsOn_15 (k1 : Nat) (Q : Int32 → sT → Prop) (y0 : Int32) (S : sT) : Prop :=
  ∃ n : Nat, wl_X5_standsOn_18 k1 Q n y0 (0 : Int32) S
set_option maxHeartbeats 4000000 in
set_option maxRecDepth 100000 in
theorem bk_X5_standsOn_15 {p : Program} {l : Launch} {e : Env} {s : State} {m : MethodId} {args : Array Value} {below : List Frame} {meth : Method} {c : Code} {Z : State → Prop} {D : va_G} {cA : Nat → ClassId} {h : Nat → Nat} {Q : Int32 → sT → Prop} {k1 : Nat} (C0 : cx p s m args c cX5_standsOn 4 RX5 D cA false keysRA h) (hret : rtZ p l e rm_X5_standsOn s m args below meth c cX5_standsOn Z D (wR h cA) (aK keysRA h s.heap.size) Q) (hk1 : k1 ∈ keysR) {y0 : Int32} {S : sT} {H : Heap} {locs : List Loc} {ls : Array Slot} (hP : va_P D vwCl (wR h cA S) H) (hS : va_S (aK keysRA h s.heap.size) s.heap H locs) (hd : wb_X5_standsOn_15 k1 Q y0 S) (hl : lv_has ls 4 [(0, .ref (h 100)), (1, .ref (h k1))]) : W p l e rm_X5_standsOn s m args below meth c H locs 0 0 Z (F0 m 15 ls [.int y0]) := by
  obtain ⟨⟨hx, hb, hml, hown, hts⟩, hK, -, -⟩ := id C0
  unfold wb_X5_standsOn_15 at hd
  refine lv_istore_n (lv' := [(2, .int y0), (0, .ref (h 100)), (1, .ref (h k1))]) hx hb dX5_standsOn_15 rfl hl (by decide) rfl (fun ls hl => ?_)
  refine lv_iconst (v := 0) hx hb dX5_standsOn_16 (by decide) ?_
  refine lv_istore_n (lv' := [(3, .int (0 : Int32)), (2, .int y0), (0, .ref (h 100)), (1, .ref (h k1))]) hx hb dX5_standsOn_17 rfl hl (by decide) rfl (fun ls hl => ?_)
  obtain ⟨n_1, hd⟩ := hd
  exact bl_X5_standsOn_18 C0 hret hk1 _ _ _ _ _ _ _ hP hS hd (lv_sub hl [2, 3, 1, 0] rfl)
def wp_X5_standsOn (k1 : Nat) (S : sT) (Q : Int32 → sT → Prop) : Prop :=
  (vp_in (1 : Int32) (lenR k1)) ∧ ((¬ (vA S k1 (1 : Int32).toNatClampNeg) = (vI S 10) → wb_X5_standsOn_15 k1 Q (0 : Int32) S) ∧ ((vA S k1 (1 : Int32).toNatClampNeg) = (vI S 10) → wb_X5_standsOn_15 k1 Q (1 : Int32) S))
set_option maxHeartbeats 4000000 in
set_option maxRecDepth 100000 in
theorem bk_X5_standsOn {p : Program} {l : Launch} {e : Env} {s : State} {m : MethodId} {args : Array Value} {below : List Frame} {meth : Method} {c : Code} {Z : State → Prop} {D : va_G} {cA : Nat → ClassId} {h : Nat → Nat} {Q : Int32 → sT → Prop} {k1 : Nat} (C0 : cx p s m args c cX5_standsOn 4 RX5 D cA false keysRA h) (hret : rtZ p l e rm_X5_standsOn s m args below meth c cX5_standsOn Z D (wR h cA) (aK keysRA h s.heap.size) Q) (hk1 : k1 ∈ keysR) {S : sT} {H : Heap} {locs : List Loc} {ls : Array Slot} (hP : va_P D vwCl (wR h cA S) H) (hS : va_S (aK keysRA h s.heap.size) s.heap H locs) (hd : wp_X5_standsOn k1 S Q) (hl : lv_has ls 4 [(0, .ref (h 100)), (1, .ref (h k1))]) : W p l e rm_X5_standsOn s m args below meth c H locs 0 0 Z (F0 m 0 ls []) := by
  obtain ⟨⟨hx, hb, hml, hown, hts⟩, hK, -, -⟩ := id C0
  unfold wp_X5_standsOn at hd
  refine lv_aload_n hx hb dX5_standsOn_0 rfl (lv_at hl 1 rfl) ?_
  refine lv_iconst (v := 1) hx hb dX5_standsOn_1 (by decide) ?_
  obtain ⟨h_1, hd⟩ := hd
  refine ldR hk1 C0 hP h_1 dX5_standsOn_2 ?_
  refine lv_aload_n hx hb dX5_standsOn_3 rfl (lv_at hl 0 rfl) ?_
  refine gf_X5_155 C0 hP dX5_standsOn_4 ?_
  refine lv_icmp_ne (tgt := 14) hx hb dX5_standsOn_7 (by decide) (fun hc => ?_) (fun hc => ?_)
  · have hd := hd.1 hc
    refine lv_iconst (v := 0) hx hb dX5_standsOn_14 (by decide) ?_
    exact bk_X5_standsOn_15 C0 hret hk1 hP hS hd (lv_sub hl [0, 1] rfl)
  · have hd := hd.2 hc
    refine lv_iconst (v := 1) hx hb dX5_standsOn_10 (by decide) ?_
    refine lv_goto (tgt := 15) hx hb dX5_standsOn_11 (by decide) ?_
    exact bk_X5_standsOn_15 C0 hret hk1 hP hS hd (lv_sub hl [0, 1] rfl)
theorem c_X5_standsOn (l : Launch) {D : va_G} {cA : Nat → ClassId} {h : Nat → Nat} (hk : ky keysRA h) {k1 : Nat} (hk1 : k1 ∈ keysR) {S : sT} (sz : Nat) {Q : Int32 → sT → Prop} (hd : wp_X5_standsOn k1 S Q) : Met l yX5_standsOn (wsU yX5_standsOn cX5_standsOn 4 (some .boolean)) rm_X5_standsOn (va_Pc [.ref (h 100), .ref (h k1)] (gP D cA false keysRA h (wR h cA) S sz)) (va_Qi Q (wB D (wR h cA)) (aK keysRA h sz)) 0 0 (aK keysRA h sz) :=
  mk_z (by decide) hk (Nat.le_of_ble_eq_true rfl) (fun p e s m below meth c Z ls C0 hret hP hS hl => bk_X5_standsOn C0 hret hk1 hP hS hd hl)
abbrev rm_X5_goes : Room := { frames := 3, cells := 0, slots := 0, locals := 70 }
def wb_X5_goes_19 (k1 : Nat) (Q : Int32 → sT → Prop) (x2 : Int32) (y1 : Int32) (y2 : Int32) (y3 : Int32) (S : sT) : Prop :=
  (vp_in y1 (lenR k1)) ∧ (vp_in (0 : Int32) (lenR k1)) ∧ (vp_in (0 : Int32) (lenR k1)) ∧ ∀ S_4 : sT, S_4 = uA (uA S k1 (upd (vA S k1) y1.toNatClampNeg (y2 + y3))) k1 (upd (vA (uA S k1 (upd (vA S k1) y1.toNatClampNeg (y2 + y3))) k1) (0 : Int32).toNatClampNeg ((vA (uA S k1 (upd (vA S k1) y1.toNatClampNeg (y2 + y3))) k1 (0 : Int32).toNatClampNeg) + (1 : Int32))) → bo x2 ∧ Q x2 S_4
set_option maxHeartbeats 4000000 in
set_option maxRecDepth 100000 in
theorem bk_X5_goes_19 {p : Program} {l : Launch} {e : Env} {s : State} {m : MethodId} {args : Array Value} {below : List Frame} {meth : Method} {c : Code} {Z : State → Prop} {D : va_G} {cA : Nat → ClassId} {h : Nat → Nat} {Q : Int32 → sT → Prop} {k1 : Nat} (C0 : cx p s m args c cX5_goes 3 RX5 D cA false keysRA h) (hret : rtZ p l e rm_X5_goes s m args below meth c cX5_goes Z D (wR h cA) (aK keysRA h s.heap.size) Q) (hk1 : k1 ∈ keysR) {x2 : Int32} {y1 : Int32} {y2 : Int32} {y3 : Int32} {S : sT} {H : Heap} {locs : List Loc} {ls : Array Slot} (hP : va_P D vwCl (wR h cA S) H) (hS : va_S (aK keysRA h s.heap.size) s.heap H locs) (hd : wb_X5_goes_19 k1 Q x2 y1 y2 y3 S) (hl : lv_has ls 3 [(1, .ref (h k1)), (2, .int x2)]) : W p l e rm_X5_goes s m args below meth c H locs 0 0 Z (F0 m 19 ls [.int y3, .int y2, .int y1, .ref (h k1)]) := by
  obtain ⟨⟨hx, hb, hml, hown, hts⟩, hK, -, -⟩ := id C0
  unfold wb_X5_goes_19 at hd
  refine lv_iadd hx hb dX5_goes_19 ?_
  obtain ⟨h_1, hd⟩ := hd
  refine stR hk1 C0 hP hS h_1 dX5_goes_20 (fun H locs hP hS => ?_)
  refine lv_aload_n hx hb dX5_goes_21 rfl (lv_at hl 0 rfl) ?_
  refine lv_iconst (v := 0) hx hb dX5_goes_22 (by decide) ?_
  refine lv_dup2_11 hx hb dX5_goes_23 rfl rfl ?_
  obtain ⟨h_2, hd⟩ := hd
  refine ldR hk1 C0 hP h_2 dX5_goes_24 ?_
  refine lv_iconst (v := 1) hx hb dX5_goes_25 (by decide) ?_
  refine lv_iadd hx hb dX5_goes_26 ?_
  obtain ⟨h_3, hd⟩ := hd
  refine stR hk1 C0 hP hS h_3 dX5_goes_27 (fun H locs hP hS => ?_)
  obtain ⟨S_4, eS_4⟩ : ∃ x : sT, x = uA (uA S k1 (upd (vA S k1) y1.toNatClampNeg (y2 + y3))) k1 (upd (vA (uA S k1 (upd (vA S k1) y1.toNatClampNeg (y2 + y3))) k1) (0 : Int32).toNatClampNeg ((vA (uA S k1 (upd (vA S k1) y1.toNatClampNeg (y2 + y3))) k1 (0 : Int32).toNatClampNeg) + (1 : Int32))) := ⟨_, rfl⟩
  rw [← eS_4] at hP
  have hd := hd S_4 eS_4
  refine lv_iload_n hx hb dX5_goes_28 rfl (lv_at hl 1 rfl) ?_
  exact hret _ _ _ _ _ _ hd.1 hd.2 hP hS dX5_goes_29
def wp_X5_goes (k1 : Nat) (S : sT) (Q : Int32 → sT → Prop) : Prop :=
  wp_X5_standsOn k1 S (fun r_1 S_1 => (vp_in (1 : Int32) (lenR k1)) ∧ ((r_1 = 0 → wb_X5_goes_19 k1 Q r_1 (1 : Int32) (vA S_1 k1 (1 : Int32).toNatClampNeg) (1 : Int32) S_1) ∧ (¬ r_1 = 0 → wb_X5_goes_19 k1 Q r_1 (1 : Int32) (vA S_1 k1 (1 : Int32).toNatClampNeg) (0 : Int32) S_1)))
set_option maxHeartbeats 4000000 in
set_option maxRecDepth 100000 in
theorem bk_X5_goes {p : Program} {l : Launch} {e : Env} {s : State} {m : MethodId} {args : Array Value} {below : List Frame} {meth : Method} {c : Code} {Z : State → Prop} {D : va_G} {cA : Nat → ClassId} {h : Nat → Nat} {Q : Int32 → sT → Prop} {k1 : Nat} (C0 : cx p s m args c cX5_goes 3 RX5 D cA false keysRA h) (hret : rtZ p l e rm_X5_goes s m args below meth c cX5_goes Z D (wR h cA) (aK keysRA h s.heap.size) Q) (hk1 : k1 ∈ keysR) {S : sT} {H : Heap} {locs : List Loc} {ls : Array Slot} (hP : va_P D vwCl (wR h cA S) H) (hS : va_S (aK keysRA h s.heap.size) s.heap H locs) (hd : wp_X5_goes k1 S Q) (hl : lv_has ls 3 [(0, .ref (h 100)), (1, .ref (h k1))]) : W p l e rm_X5_goes s m args below meth c H locs 0 0 Z (F0 m 0 ls []) := by
  obtain ⟨⟨hx, hb, hml, hown, hts⟩, hK, -, -⟩ := id C0
  unfold wp_X5_goes at hd
  refine lv_aload_n hx hb dX5_goes_0 rfl (lv_at hl 0 rfl) ?_
  refine lv_aload_n hx hb dX5_goes_1 rfl (lv_at hl 1 rfl) ?_
  refine cl_Vi (n := 1) (rest := []) C0 hP hS (c_X5_standsOn l C0.2.2.1 hk1 _ hd) (lwG_V lm_X5_172 li_X5_standsOn lx_X5_standsOn lz_RX5 lc_X5_standsOn) (by decide +kernel) (oR_at h cA _) rfl rfl rfl (Nat.le_of_ble_eq_true rfl) ⟨rfl, rfl⟩ ⟨by decide, by decide⟩ dX5_goes_2 hl.1 ⟨Nat.zero_le _, Nat.zero_le _⟩ (fun r_1 S_1 H locs hd hP hS => ?_)
  refine lv_istore_n (lv' := [(2, .int r_1), (0, .ref (h 100)), (1, .ref (h k1))]) hx hb dX5_goes_5 rfl hl (by decide) rfl (fun ls hl => ?_)
  refine lv_aload_n hx hb dX5_goes_6 rfl (lv_at hl 2 rfl) ?_
  refine lv_iconst (v := 1) hx hb dX5_goes_7 (by decide) ?_
  refine lv_dup2_11 hx hb dX5_goes_8 rfl rfl ?_
  obtain ⟨h_2, hd⟩ := hd
  refine ldR hk1 C0 hP h_2 dX5_goes_9 ?_
  refine lv_iload_n hx hb dX5_goes_10 rfl (lv_at hl 0 rfl) ?_
  refine lv_if_eq (tgt := 18) hx hb dX5_goes_11 (by decide) (fun hc => ?_) (fun hc => ?_)
  · have hd := hd.1 hc
    refine lv_iconst (v := 1) hx hb dX5_goes_18 (by decide) ?_
    exact bk_X5_goes_19 C0 hret hk1 hP hS hd (lv_sub hl [2, 0] rfl)
  · have hd := hd.2 hc
    refine lv_iconst (v := 0) hx hb dX5_goes_14 (by decide) ?_
    refine lv_goto (tgt := 19) hx hb dX5_goes_15 (by decide) ?_
    exact bk_X5_goes_19 C0 hret hk1 hP hS hd (lv_sub hl [2, 0] rfl)
theorem c_X5_goes (l : Launch) {D : va_G} {cA : Nat → ClassId} {h : Nat → Nat} (hk : ky keysRA h) {k1 : Nat} (hk1 : k1 ∈ keysR) {S : sT} (sz : Nat) {Q : Int32 → sT → Prop} (hd : wp_X5_goes k1 S Q) : Met l yX5_goes (wsU yX5_goes cX5_goes 3 (some .boolean)) rm_X5_goes (va_Pc [.ref (h 100), .ref (h k1)] (gP D cA false keysRA h (wR h cA) S sz)) (va_Qi Q (wB D (wR h cA)) (aK keysRA h sz)) 0 0 (aK keysRA h sz) :=
  mk_z (by decide) hk (Nat.le_of_ble_eq_true rfl) (fun p e s m below meth c Z ls C0 hret hP hS hl => bk_X5_goes C0 hret hk1 hP hS hd hl)
abbrev rm_X5_placeBehind : Room := { frames := 4, cells := 0, slots := 0, locals := 92 }
def wb_X5_placeBehind_2 (Q : Int32 → sT → Prop) (K2 : Int32 → Int32 → sT → Prop) (x1 : Int32) (x2 : Int32) (S : sT) : Prop :=
  ((x1 ≤ x2 → (vp_in (1 : Int32) 9) ∧ Q (vA S 15 (1 : Int32).toNatClampNeg) S) ∧ (¬ x1 ≤ x2 → wp_X5_goes 15 S (fun r_2 S_2 => K2 x1 (x2 + (1 : Int32)) S_2)))
set_option maxHeartbeats 4000000 in
set_option maxRecDepth 100000 in
theorem bk_X5_placeBehind_2 {p : Program} {l : Launch} {e : Env} {s : State} {m : MethodId} {args : Array Value} {below : List Frame} {meth : Method} {c : Code} {Z : State → Prop} {D : va_G} {cA : Nat → ClassId} {h : Nat → Nat} {Q : Int32 → sT → Prop} (C0 : cx p s m args c cX5_placeBehind 4 RX5 D cA false keysRA h) (hret : rtI p l e rm_X5_placeBehind s m args below meth c cX5_placeBehind Z D (wR h cA) (aK keysRA h s.heap.size) Q) {K2 : Int32 → Int32 → sT → Prop} (k2 : ∀ (x1 : Int32) (x2 : Int32) (S : sT) (H : Heap) (locs : List Loc) (ls : Array Slot), K2 x1 x2 S → va_P D vwCl (wR h cA S) H → va_S (aK keysRA h s.heap.size) s.heap H locs → lv_has ls 4 [(0, .ref (h 100)), (1, .int x1), (2, .int x2)] → W p l e rm_X5_placeBehind s m args below meth c H locs 0 0 Z (F0 m 2 ls [])) {x1 : Int32} {x2 : Int32} {S : sT} {H : Heap} {locs : List Loc} {ls : Array Slot} (hP : va_P D vwCl (wR h cA S) H) (hS : va_S (aK keysRA h s.heap.size) s.heap H locs) (hd : wb_X5_placeBehind_2 Q K2 x1 x2 S) (hl : lv_has ls 4 [(0, .ref (h 100)), (1, .int x1), (2, .int x2)]) : W p l e rm_X5_placeBehind s m args below meth c H locs 0 0 Z (F0 m 2 ls []) := by
  obtain ⟨⟨hx, hb, hml, hown, hts⟩, hK, -, -⟩ := id C0
  unfold wb_X5_placeBehind_2 at hd
  refine lv_iload_n hx hb dX5_placeBehind_2 rfl (lv_at hl 2 rfl) ?_
  refine lv_iload_n hx hb dX5_placeBehind_3 rfl (lv_at hl 1 rfl) ?_
  refine lv_icmp_ge (tgt := 22) hx hb dX5_placeBehind_4 (by decide) (fun hc => ?_) (fun hc => ?_)
  · have hd := hd.1 hc
    refine lv_aload_n hx hb dX5_placeBehind_22 rfl (lv_at hl 0 rfl) ?_
    refine gf_X5_38 C0 hP dX5_placeBehind_23 ?_
    refine lv_iconst (v := 1) hx hb dX5_placeBehind_26 (by decide) ?_
    obtain ⟨h_1, hd⟩ := hd
    refine ldR (by decide) C0 hP h_1 dX5_placeBehind_27 ?_
    exact hret _ _ _ _ _ _ hd hP hS dX5_placeBehind_28
  · have hd := hd.2 hc
    refine lv_aload_n hx hb dX5_placeBehind_7 rfl (lv_at hl 0 rfl) ?_
    refine lv_aload_n hx hb dX5_placeBehind_8 rfl (lv_at hl 0 rfl) ?_
    refine gf_X5_38 C0 hP dX5_placeBehind_9 ?_
    refine cl_Vi (n := 1) (rest := []) C0 hP hS (c_X5_goes l C0.2.2.1 (by decide) _ hd) (lwG_V lm_X5_204 li_X5_goes lx_X5_goes lz_RX5 lc_X5_goes) (by decide +kernel) (oR_at h cA _) rfl rfl rfl (Nat.le_of_ble_eq_true rfl) ⟨rfl, rfl⟩ ⟨by decide, by decide⟩ dX5_placeBehind_12 hl.1 ⟨Nat.zero_le _, Nat.zero_le _⟩ (fun r_2 S_2 H locs hd hP hS => ?_)
    refine lv_istore_n (lv' := [(3, .int r_2), (0, .ref (h 100)), (1, .int x1), (2, .int x2)]) hx hb dX5_placeBehind_15 rfl hl (by decide) rfl (fun ls hl => ?_)
    refine lv_iinc (v := x2 + (1 : Int32)) (lv' := [(2, .int (x2 + (1 : Int32))), (3, .int r_2), (0, .ref (h 100)), (1, .int x1)]) hx hb dX5_placeBehind_16 hl (k := 3) rfl rfl (by decide) rfl (fun ls hl => ?_)
    refine lv_goto (tgt := 2) hx hb dX5_placeBehind_19 (by decide) ?_
    exact k2 _ _ _ _ _ _ hd hP hS (lv_sub hl [2, 3, 0] rfl)
def wl_X5_placeBehind_2 (Q : Int32 → sT → Prop) : Nat → Int32 → Int32 → sT → Prop
  | 0, _, _ => fun _ => False
  | n + 1, x1, x2 => fun S => wb_X5_placeBehind_2 Q (fun x1 x2 S => wl_X5_placeBehind_2 Q n x1 x2 S) x1 x2 S
theorem bl_X5_placeBehind_2 {p : Program} {l : Launch} {e : Env} {s : State} {m : MethodId} {args : Array Value} {below : List Frame} {meth : Method} {c : Code} {Z : State → Prop} {D : va_G} {cA : Nat → ClassId} {h : Nat → Nat} {Q : Int32 → sT → Prop} (C0 : cx p s m args c cX5_placeBehind 4 RX5 D cA false keysRA h) (hret : rtI p l e rm_X5_placeBehind s m args below meth c cX5_placeBehind Z D (wR h cA) (aK keysRA h s.heap.size) Q) : ∀ (n : Nat) (x1 : Int32) (x2 : Int32) (S : sT) (H : Heap) (locs : List Loc) (ls : Array Slot), va_P D vwCl (wR h cA S) H → va_S (aK keysRA h s.heap.size) s.heap H locs → wl_X5_placeBehind_2 Q n x1 x2 S → lv_has ls 4 [(0, .ref (h 100)), (1, .int x1), (2, .int x2)] → W p l e rm_X5_placeBehind s m args below meth c H locs 0 0 Z (F0 m 2 ls []) := by
  intro n
  induction n with
  | zero => intro x1 x2 S H locs ls hP hS hd hl; exact (show False from hd).elim
  | succ n ih => intro x1 x2 S H locs ls hP hS hd hl; exact bk_X5_placeBehind_2 C0 hret (fun x1 x2 S H locs ls hd hP hS hl => ih x1 x2 S H locs ls hP hS hd hl) hP hS hd hl
def wp_X5_placeBehind (x1 : Int32) (S : sT) (Q : Int32 → sT → Prop) : Prop :=
  ∃ n : Nat, wl_X5_placeBehind_2 Q n x1 (0 : Int32) S
set_option maxHeartbeats 4000000 in
set_option maxRecDepth 100000 in
theorem bk_X5_placeBehind {p : Program} {l : Launch} {e : Env} {s : State} {m : MethodId} {args : Array Value} {below : List Frame} {meth : Method} {c : Code} {Z : State → Prop} {D : va_G} {cA : Nat → ClassId} {h : Nat → Nat} {Q : Int32 → sT → Prop} (C0 : cx p s m args c cX5_placeBehind 4 RX5 D cA false keysRA h) (hret : rtI p l e rm_X5_placeBehind s m args below meth c cX5_placeBehind Z D (wR h cA) (aK keysRA h s.heap.size) Q) {x1 : Int32} {S : sT} {H : Heap} {locs : List Loc} {ls : Array Slot} (hP : va_P D vwCl (wR h cA S) H) (hS : va_S (aK keysRA h s.heap.size) s.heap H locs) (hd : wp_X5_placeBehind x1 S Q) (hl : lv_has ls 4 [(0, .ref (h 100)), (1, .int x1)]) : W p l e rm_X5_placeBehind s m args below meth c H locs 0 0 Z (F0 m 0 ls []) := by
  obtain ⟨⟨hx, hb, hml, hown, hts⟩, hK, -, -⟩ := id C0
  unfold wp_X5_placeBehind at hd
  refine lv_iconst (v := 0) hx hb dX5_placeBehind_0 (by decide) ?_
  refine lv_istore_n (lv' := [(2, .int (0 : Int32)), (0, .ref (h 100)), (1, .int x1)]) hx hb dX5_placeBehind_1 rfl hl (by decide) rfl (fun ls hl => ?_)
  obtain ⟨n_1, hd⟩ := hd
  exact bl_X5_placeBehind_2 C0 hret _ _ _ _ _ _ _ hP hS hd (lv_sub hl [1, 2, 0] rfl)
theorem c_X5_placeBehind (l : Launch) {D : va_G} {cA : Nat → ClassId} {h : Nat → Nat} (hk : ky keysRA h) {x1 : Int32} {S : sT} (sz : Nat) {Q : Int32 → sT → Prop} (hd : wp_X5_placeBehind x1 S Q) : Met l yX5_placeBehind (wsU yX5_placeBehind cX5_placeBehind 4 (some .int)) rm_X5_placeBehind (va_Pc [.ref (h 100), .int x1] (gP D cA false keysRA h (wR h cA) S sz)) (va_Qi Q (wB D (wR h cA)) (aK keysRA h sz)) 0 0 (aK keysRA h sz) :=
  mk_i (by decide) hk (Nat.le_of_ble_eq_true rfl) (fun p e s m below meth c Z ls C0 hret hP hS hl => bk_X5_placeBehind C0 hret hP hS hd hl)
abbrev rm_X5_goesAs : Room := { frames := 5, cells := 0, slots := 0, locals := 115 }
def wb_X5_goesAs_42 (Q : Int32 → sT → Prop) (K4 : Int32 → Int32 → Int32 → sT → Prop) (x1 : Int32) (x3 : Int32) (y0 : Int32) (S : sT) : Prop :=
  K4 x1 y0 (x3 + (1 : Int32)) S
set_option maxHeartbeats 4000000 in
set_option maxRecDepth 100000 in
theorem bk_X5_goesAs_42 {p : Program} {l : Launch} {e : Env} {s : State} {m : MethodId} {args : Array Value} {below : List Frame} {meth : Method} {c : Code} {Z : State → Prop} {D : va_G} {cA : Nat → ClassId} {h : Nat → Nat} {Q : Int32 → sT → Prop} (C0 : cx p s m args c cX5_goesAs 4 RX5 D cA false keysRA h) (hret : rtZ p l e rm_X5_goesAs s m args below meth c cX5_goesAs Z D (wR h cA) (aK keysRA h s.heap.size) Q) {K4 : Int32 → Int32 → Int32 → sT → Prop} (k4 : ∀ (x1 : Int32) (x2 : Int32) (x3 : Int32) (S : sT) (H : Heap) (locs : List Loc) (ls : Array Slot), K4 x1 x2 x3 S → va_P D vwCl (wR h cA S) H → va_S (aK keysRA h s.heap.size) s.heap H locs → lv_has ls 4 [(0, .ref (h 100)), (1, .int x1), (2, .int x2), (3, .int x3)] → W p l e rm_X5_goesAs s m args below meth c H locs 0 0 Z (F0 m 4 ls [])) {x1 : Int32} {x3 : Int32} {y0 : Int32} {S : sT} {H : Heap} {locs : List Loc} {ls : Array Slot} (hP : va_P D vwCl (wR h cA S) H) (hS : va_S (aK keysRA h s.heap.size) s.heap H locs) (hd : wb_X5_goesAs_42 Q K4 x1 x3 y0 S) (hl : lv_has ls 4 [(0, .ref (h 100)), (1, .int x1), (3, .int x3)]) : W p l e rm_X5_goesAs s m args below meth c H locs 0 0 Z (F0 m 42 ls [.int y0]) := by
  obtain ⟨⟨hx, hb, hml, hown, hts⟩, hK, -, -⟩ := id C0
  unfold wb_X5_goesAs_42 at hd
  refine lv_istore_n (lv' := [(2, .int y0), (0, .ref (h 100)), (1, .int x1), (3, .int x3)]) hx hb dX5_goesAs_42 rfl hl (by decide) rfl (fun ls hl => ?_)
  refine lv_iinc (v := x3 + (1 : Int32)) (lv' := [(3, .int (x3 + (1 : Int32))), (2, .int y0), (0, .ref (h 100)), (1, .int x1)]) hx hb dX5_goesAs_43 hl (k := 3) rfl rfl (by decide) rfl (fun ls hl => ?_)
  refine lv_goto (tgt := 4) hx hb dX5_goesAs_46 (by decide) ?_
  exact k4 _ _ _ _ _ _ _ hd hP hS (lv_sub hl [2, 3, 1, 0] rfl)
def wb_X5_goesAs_41 (Q : Int32 → sT → Prop) (K4 : Int32 → Int32 → Int32 → sT → Prop) (x1 : Int32) (x3 : Int32) (S : sT) : Prop :=
  wb_X5_goesAs_42 Q K4 x1 x3 (0 : Int32) S
set_option maxHeartbeats 4000000 in
set_option maxRecDepth 100000 in
theorem bk_X5_goesAs_41 {p : Program} {l : Launch} {e : Env} {s : State} {m : MethodId} {args : Array Value} {below : List Frame} {meth : Method} {c : Code} {Z : State → Prop} {D : va_G} {cA : Nat → ClassId} {h : Nat → Nat} {Q : Int32 → sT → Prop} (C0 : cx p s m args c cX5_goesAs 4 RX5 D cA false keysRA h) (hret : rtZ p l e rm_X5_goesAs s m args below meth c cX5_goesAs Z D (wR h cA) (aK keysRA h s.heap.size) Q) {K4 : Int32 → Int32 → Int32 → sT → Prop} (k4 : ∀ (x1 : Int32) (x2 : Int32) (x3 : Int32) (S : sT) (H : Heap) (locs : List Loc) (ls : Array Slot), K4 x1 x2 x3 S → va_P D vwCl (wR h cA S) H → va_S (aK keysRA h s.heap.size) s.heap H locs → lv_has ls 4 [(0, .ref (h 100)), (1, .int x1), (2, .int x2), (3, .int x3)] → W p l e rm_X5_goesAs s m args below meth c H locs 0 0 Z (F0 m 4 ls [])) {x1 : Int32} {x3 : Int32} {S : sT} {H : Heap} {locs : List Loc} {ls : Array Slot} (hP : va_P D vwCl (wR h cA S) H) (hS : va_S (aK keysRA h s.heap.size) s.heap H locs) (hd : wb_X5_goesAs_41 Q K4 x1 x3 S) (hl : lv_has ls 4 [(0, .ref (h 100)), (1, .int x1), (3, .int x3)]) : W p l e rm_X5_goesAs s m args below meth c H locs 0 0 Z (F0 m 41 ls []) := by
  obtain ⟨⟨hx, hb, hml, hown, hts⟩, hK, -, -⟩ := id C0
  unfold wb_X5_goesAs_41 at hd
  refine lv_iconst (v := 0) hx hb dX5_goesAs_41 (by decide) ?_
  exact bk_X5_goesAs_42 C0 hret k4 hP hS hd (lv_sub hl [0, 1, 2] rfl)
def wb_X5_goesAs_4 (Q : Int32 → sT → Prop) (K4 : Int32 → Int32 → Int32 → sT → Prop) (x1 : Int32) (x2 : Int32) (x3 : Int32) (S : sT) : Prop :=
  (vp_in x1 6) ∧ (((vA S 1 x1.toNatClampNeg) ≤ x3 → bo x2 ∧ Q x2 S) ∧ (¬ (vA S 1 x1.toNatClampNeg) ≤ x3 → ((x2 = 0 → wb_X5_goesAs_41 Q K4 x1 x3 S) ∧ (¬ x2 = 0 → wp_X5_placeBehind (1 : Int32) S (fun r_2 S_2 => (vp_in (((40 : Int32) * x1) + x3) 240) ∧ ((¬ r_2 = (vA S_2 0 (((40 : Int32) * x1) + x3).toNatClampNeg) → wb_X5_goesAs_41 Q K4 x1 x3 S_2) ∧ (r_2 = (vA S_2 0 (((40 : Int32) * x1) + x3).toNatClampNeg) → wb_X5_goesAs_42 Q K4 x1 x3 (1 : Int32) S_2)))))))
set_option maxHeartbeats 4000000 in
set_option maxRecDepth 100000 in
theorem bk_X5_goesAs_4 {p : Program} {l : Launch} {e : Env} {s : State} {m : MethodId} {args : Array Value} {below : List Frame} {meth : Method} {c : Code} {Z : State → Prop} {D : va_G} {cA : Nat → ClassId} {h : Nat → Nat} {Q : Int32 → sT → Prop} (C0 : cx p s m args c cX5_goesAs 4 RX5 D cA false keysRA h) (hret : rtZ p l e rm_X5_goesAs s m args below meth c cX5_goesAs Z D (wR h cA) (aK keysRA h s.heap.size) Q) {K4 : Int32 → Int32 → Int32 → sT → Prop} (k4 : ∀ (x1 : Int32) (x2 : Int32) (x3 : Int32) (S : sT) (H : Heap) (locs : List Loc) (ls : Array Slot), K4 x1 x2 x3 S → va_P D vwCl (wR h cA S) H → va_S (aK keysRA h s.heap.size) s.heap H locs → lv_has ls 4 [(0, .ref (h 100)), (1, .int x1), (2, .int x2), (3, .int x3)] → W p l e rm_X5_goesAs s m args below meth c H locs 0 0 Z (F0 m 4 ls [])) {x1 : Int32} {x2 : Int32} {x3 : Int32} {S : sT} {H : Heap} {locs : List Loc} {ls : Array Slot} (hP : va_P D vwCl (wR h cA S) H) (hS : va_S (aK keysRA h s.heap.size) s.heap H locs) (hd : wb_X5_goesAs_4 Q K4 x1 x2 x3 S) (hl : lv_has ls 4 [(0, .ref (h 100)), (1, .int x1), (2, .int x2), (3, .int x3)]) : W p l e rm_X5_goesAs s m args below meth c H locs 0 0 Z (F0 m 4 ls []) := by
  obtain ⟨⟨hx, hb, hml, hown, hts⟩, hK, -, -⟩ := id C0
  unfold wb_X5_goesAs_4 at hd
  refine lv_iload_n hx hb dX5_goesAs_4 rfl (lv_at hl 3 rfl) ?_
  refine lv_aload_n hx hb dX5_goesAs_5 rfl (lv_at hl 0 rfl) ?_
  refine gf_X5_13 C0 hP dX5_goesAs_6 ?_
  refine lv_iload_n hx hb dX5_goesAs_9 rfl (lv_at hl 1 rfl) ?_
  obtain ⟨h_1, hd⟩ := hd
  refine ldR (by decide) C0 hP h_1 dX5_goesAs_10 ?_
  refine lv_icmp_ge (tgt := 49) hx hb dX5_goesAs_11 (by decide) (fun hc => ?_) (fun hc => ?_)
  · have hd := hd.1 hc
    refine lv_iload_n hx hb dX5_goesAs_49 rfl (lv_at hl 2 rfl) ?_
    exact hret _ _ _ _ _ _ hd.1 hd.2 hP hS dX5_goesAs_50
  · have hd := hd.2 hc
    refine lv_iload_n hx hb dX5_goesAs_14 rfl (lv_at hl 2 rfl) ?_
    refine lv_if_eq (tgt := 41) hx hb dX5_goesAs_15 (by decide) (fun hc => ?_) (fun hc => ?_)
    · have hd := hd.1 hc
      exact bk_X5_goesAs_41 C0 hret k4 hP hS hd (lv_sub hl [0, 1, 3] rfl)
    · have hd := hd.2 hc
      refine lv_aload_n hx hb dX5_goesAs_18 rfl (lv_at hl 0 rfl) ?_
      refine lv_iconst (v := 1) hx hb dX5_goesAs_19 (by decide) ?_
      refine cl_Vi (n := 1) (rest := []) C0 hP hS (c_X5_placeBehind l C0.2.2.1 _ hd) (lwG_V lm_X5_225 li_X5_placeBehind lx_X5_placeBehind lz_RX5 lc_X5_placeBehind) (by decide +kernel) (oR_at h cA _) rfl rfl rfl (Nat.le_of_ble_eq_true rfl) ⟨rfl, rfl⟩ ⟨by decide, by decide⟩ dX5_goesAs_20 hl.1 ⟨Nat.zero_le _, Nat.zero_le _⟩ (fun r_2 S_2 H locs hd hP hS => ?_)
      refine lv_aload_n hx hb dX5_goesAs_23 rfl (lv_at hl 0 rfl) ?_
      refine gf_X5_7 C0 hP dX5_goesAs_24 ?_
      refine lv_bipush (v := 40) hx hb dX5_goesAs_27 (by decide) ?_
      refine lv_iload_n hx hb dX5_goesAs_29 rfl (lv_at hl 1 rfl) ?_
      refine lv_imul hx hb dX5_goesAs_30 ?_
      refine lv_iload_n hx hb dX5_goesAs_31 rfl (lv_at hl 3 rfl) ?_
      refine lv_iadd hx hb dX5_goesAs_32 ?_
      obtain ⟨h_3, hd⟩ := hd
      refine ldR (by decide) C0 hP h_3 dX5_goesAs_33 ?_
      refine lv_icmp_ne (tgt := 41) hx hb dX5_goesAs_34 (by decide) (fun hc => ?_) (fun hc => ?_)
      · have hd := hd.1 hc
        exact bk_X5_goesAs_41 C0 hret k4 hP hS hd (lv_sub hl [0, 1, 3] rfl)
      · have hd := hd.2 hc
        refine lv_iconst (v := 1) hx hb dX5_goesAs_37 (by decide) ?_
        refine lv_goto (tgt := 42) hx hb dX5_goesAs_38 (by decide) ?_
        exact bk_X5_goesAs_42 C0 hret k4 hP hS hd (lv_sub hl [0, 1, 3] rfl)
def wl_X5_goesAs_4 (Q : Int32 → sT → Prop) : Nat → Int32 → Int32 → Int32 → sT → Prop
  | 0, _, _, _ => fun _ => False
  | n + 1, x1, x2, x3 => fun S => wb_X5_goesAs_4 Q (fun x1 x2 x3 S => wl_X5_goesAs_4 Q n x1 x2 x3 S) x1 x2 x3 S
theorem bl_X5_goesAs_4 {p : Program} {l : Launch} {e : Env} {s : State} {m : MethodId} {args : Array Value} {below : List Frame} {meth : Method} {c : Code} {Z : State → Prop} {D : va_G} {cA : Nat → ClassId} {h : Nat → Nat} {Q : Int32 → sT → Prop} (C0 : cx p s m args c cX5_goesAs 4 RX5 D cA false keysRA h) (hret : rtZ p l e rm_X5_goesAs s m args below meth c cX5_goesAs Z D (wR h cA) (aK keysRA h s.heap.size) Q) : ∀ (n : Nat) (x1 : Int32) (x2 : Int32) (x3 : Int32) (S : sT) (H : Heap) (locs : List Loc) (ls : Array Slot), va_P D vwCl (wR h cA S) H → va_S (aK keysRA h s.heap.size) s.heap H locs → wl_X5_goesAs_4 Q n x1 x2 x3 S → lv_has ls 4 [(0, .ref (h 100)), (1, .int x1), (2, .int x2), (3, .int x3)] → W p l e rm_X5_goesAs s m args below meth c H locs 0 0 Z (F0 m 4 ls []) := by
  intro n
  induction n with
  | zero => intro x1 x2 x3 S H locs ls hP hS hd hl; exact (show False from hd).elim
  | succ n ih => intro x1 x2 x3 S H locs ls hP hS hd hl; exact bk_X5_goesAs_4 C0 hret (fun x1 x2 x3 S H locs ls hd hP hS hl => ih x1 x2 x3 S H locs ls hP hS hd hl) hP hS hd hl
def wp_X5_goesAs (x1 : Int32) (S : sT) (Q : Int32 → sT → Prop) : Prop :=
  ∃ n : Nat, wl_X5_goesAs_4 Q n x1 (1 : Int32) (0 : Int32) S
set_option maxHeartbeats 4000000 in
set_option maxRecDepth 100000 in
theorem bk_X5_goesAs {p : Program} {l : Launch} {e : Env} {s : State} {m : MethodId} {args : Array Value} {below : List Frame} {meth : Method} {c : Code} {Z : State → Prop} {D : va_G} {cA : Nat → ClassId} {h : Nat → Nat} {Q : Int32 → sT → Prop} (C0 : cx p s m args c cX5_goesAs 4 RX5 D cA false keysRA h) (hret : rtZ p l e rm_X5_goesAs s m args below meth c cX5_goesAs Z D (wR h cA) (aK keysRA h s.heap.size) Q) {x1 : Int32} {S : sT} {H : Heap} {locs : List Loc} {ls : Array Slot} (hP : va_P D vwCl (wR h cA S) H) (hS : va_S (aK keysRA h s.heap.size) s.heap H locs) (hd : wp_X5_goesAs x1 S Q) (hl : lv_has ls 4 [(0, .ref (h 100)), (1, .int x1)]) : W p l e rm_X5_goesAs s m args below meth c H locs 0 0 Z (F0 m 0 ls []) := by
  obtain ⟨⟨hx, hb, hml, hown, hts⟩, hK, -, -⟩ := id C0
  unfold wp_X5_goesAs at hd
  refine lv_iconst (v := 1) hx hb dX5_goesAs_0 (by decide) ?_
  refine lv_istore_n (lv' := [(2, .int (1 : Int32)), (0, .ref (h 100)), (1, .int x1)]) hx hb dX5_goesAs_1 rfl hl (by decide) rfl (fun ls hl => ?_)
  refine lv_iconst (v := 0) hx hb dX5_goesAs_2 (by decide) ?_
  refine lv_istore_n (lv' := [(3, .int (0 : Int32)), (2, .int (1 : Int32)), (0, .ref (h 100)), (1, .int x1)]) hx hb dX5_goesAs_3 rfl hl (by decide) rfl (fun ls hl => ?_)
  obtain ⟨n_1, hd⟩ := hd
  exact bl_X5_goesAs_4 C0 hret _ _ _ _ _ _ _ _ hP hS hd (lv_sub hl [2, 3, 1, 0] rfl)
theorem c_X5_goesAs (l : Launch) {D : va_G} {cA : Nat → ClassId} {h : Nat → Nat} (hk : ky keysRA h) {x1 : Int32} {S : sT} (sz : Nat) {Q : Int32 → sT → Prop} (hd : wp_X5_goesAs x1 S Q) : Met l yX5_goesAs (wsU yX5_goesAs cX5_goesAs 4 (some .boolean)) rm_X5_goesAs (va_Pc [.ref (h 100), .int x1] (gP D cA false keysRA h (wR h cA) S sz)) (va_Qi Q (wB D (wR h cA)) (aK keysRA h sz)) 0 0 (aK keysRA h sz) :=
  mk_z (by decide) hk (Nat.le_of_ble_eq_true rfl) (fun p e s m below meth c Z ls C0 hret hP hS hl => bk_X5_goesAs C0 hret hP hS hd hl)
abbrev rm_X5_in : Room := { frames := 0, cells := 0, slots := 0, locals := 0 }
def wp_X5_in (x0 : Int64) (x2 : Int64) (x4 : Int64) (S : sT) (Q : Int32 → sT → Prop) : Prop :=
  (((lg_cmp x0 x2) < 0 → Q (0 : Int32) S) ∧ (¬ (lg_cmp x0 x2) < 0 → ((0 < (lg_cmp x0 x4) → Q (0 : Int32) S) ∧ (¬ 0 < (lg_cmp x0 x4) → Q (1 : Int32) S))))
set_option maxHeartbeats 4000000 in
set_option maxRecDepth 100000 in
theorem bk_X5_in {p : Program} {l : Launch} {e : Env} {s : State} {m : MethodId} {args : Array Value} {below : List Frame} {meth : Method} {c : Code} {Z : State → Prop} {D : va_G} {cA : Nat → ClassId} {h : Nat → Nat} {Q : Int32 → sT → Prop} (C0 : cx p s m args c cX5_in 6 RX5 D cA false keysRA h) (hret : rtZ p l e rm_X5_in s m args below meth c cX5_in Z D (wR h cA) (aK keysRA h s.heap.size) Q) {x0 : Int64} {x2 : Int64} {x4 : Int64} {S : sT} {H : Heap} {locs : List Loc} {ls : Array Slot} (hP : va_P D vwCl (wR h cA S) H) (hS : va_S (aK keysRA h s.heap.size) s.heap H locs) (hd : wp_X5_in x0 x2 x4 S Q) (hl : lv_has ls 6 [(0, .long x0), (2, .long x2), (4, .long x4)]) : W p l e rm_X5_in s m args below meth c H locs 0 0 Z (F0 m 0 ls []) := by
  obtain ⟨⟨hx, hb, hml, hown, hts⟩, hK, -, -⟩ := id C0
  unfold wp_X5_in at hd
  refine lv_lload_n hx hb dX5_in_0 rfl (lv_at hl 0 rfl) ?_
  refine lv_lload_n hx hb dX5_in_1 rfl (lv_at hl 1 rfl) ?_
  refine W.lcmp hx hb dX5_in_2 ?_
  refine lv_if_lt (tgt := 17) hx hb dX5_in_3 (by decide) (fun hc => ?_) (fun hc => ?_)
  · have hd := hd.1 hc
    refine lv_iconst (v := 0) hx hb dX5_in_17 (by decide) ?_
    exact hret _ _ _ _ _ _ rfl hd hP hS dX5_in_18
  · have hd := hd.2 hc
    refine lv_lload_n hx hb dX5_in_6 rfl (lv_at hl 0 rfl) ?_
    refine lv_lload hx hb dX5_in_7 (lv_at hl 2 rfl) ?_
    refine W.lcmp hx hb dX5_in_9 ?_
    refine lv_if_gt (tgt := 17) hx hb dX5_in_10 (by decide) (fun hc => ?_) (fun hc => ?_)
    · have hd := hd.1 hc
      refine lv_iconst (v := 0) hx hb dX5_in_17 (by decide) ?_
      exact hret _ _ _ _ _ _ rfl hd hP hS dX5_in_18
    · have hd := hd.2 hc
      refine lv_iconst (v := 1) hx hb dX5_in_13 (by decide) ?_
      refine lv_goto (tgt := 18) hx hb dX5_in_14 (by decide) ?_
      exact hret _ _ _ _ _ _ rfl hd hP hS dX5_in_18
theorem c_X5_in (l : Launch) {D : va_G} {cA : Nat → ClassId} {h : Nat → Nat} (hk : ky keysRA h) {x0 : Int64} {x2 : Int64} {x4 : Int64} {S : sT} (sz : Nat) {Q : Int32 → sT → Prop} (hd : wp_X5_in x0 x2 x4 S Q) : Met l yX5_in (wsU yX5_in cX5_in 6 (some .boolean)) rm_X5_in (va_Pc [.long x0, .long x2, .long x4] (gP D cA false keysRA h (wR h cA) S sz)) (va_Qi Q (wB D (wR h cA)) (aK keysRA h sz)) 0 0 (aK keysRA h sz) :=
  mk_z (by decide) hk (Nat.le_of_ble_eq_true rfl) (fun p e s m below meth c Z ls C0 hret hP hS hl => bk_X5_in C0 hret hP hS hd hl)
abbrev rm_X5_isRow : Room := { frames := 1, cells := 0, slots := 0, locals := 25 }
def wp_X5_isRow (x0 : Int32) (S : sT) (Q : Int32 → sT → Prop) : Prop :=
  wp_X5_in x0.toInt64 (0 : Int64) (5 : Int64) S (fun r_1 S_1 => bo r_1 ∧ Q r_1 S_1)
set_option maxHeartbeats 4000000 in
set_option maxRecDepth 100000 in
theorem bk_X5_isRow {p : Program} {l : Launch} {e : Env} {s : State} {m : MethodId} {args : Array Value} {below : List Frame} {meth : Method} {c : Code} {Z : State → Prop} {D : va_G} {cA : Nat → ClassId} {h : Nat → Nat} {Q : Int32 → sT → Prop} (C0 : cx p s m args c cX5_isRow 1 RX5 D cA false keysRA h) (hret : rtZ p l e rm_X5_isRow s m args below meth c cX5_isRow Z D (wR h cA) (aK keysRA h s.heap.size) Q) {x0 : Int32} {S : sT} {H : Heap} {locs : List Loc} {ls : Array Slot} (hP : va_P D vwCl (wR h cA S) H) (hS : va_S (aK keysRA h s.heap.size) s.heap H locs) (hd : wp_X5_isRow x0 S Q) (hl : lv_has ls 1 [(0, .int x0)]) : W p l e rm_X5_isRow s m args below meth c H locs 0 0 Z (F0 m 0 ls []) := by
  obtain ⟨⟨hx, hb, hml, hown, hts⟩, hK, -, -⟩ := id C0
  unfold wp_X5_isRow at hd
  refine lv_iload_n hx hb dX5_isRow_0 rfl (lv_at hl 0 rfl) ?_
  refine lv_i2l hx hb dX5_isRow_1 rfl ?_
  refine lv_lconst (v := 0) hx hb dX5_isRow_2 (by decide) ?_
  refine lv_ldc2 hx hb hown (hts _ lk_X5_75) dX5_isRow_3 ?_
  refine cl_Si (n := 3) (rest := []) C0 hP hS (c_X5_in l C0.2.2.1 _ hd) (lwG_S lm_X5_77 ls_X5_in lz_RX5 lc_X5_in) (by decide +kernel) rfl rfl (Nat.le_of_ble_eq_true rfl) ⟨rfl, rfl⟩ ⟨by decide, by decide⟩ dX5_isRow_6 hl.1 ⟨Nat.zero_le _, Nat.zero_le _⟩ (fun r_1 S_1 H locs hd hP hS => ?_)
  exact hret _ _ _ _ _ _ hd.1 hd.2 hP hS dX5_isRow_9
theorem c_X5_isRow (l : Launch) {D : va_G} {cA : Nat → ClassId} {h : Nat → Nat} (hk : ky keysRA h) {x0 : Int32} {S : sT} (sz : Nat) {Q : Int32 → sT → Prop} (hd : wp_X5_isRow x0 S Q) : Met l yX5_isRow (wsU yX5_isRow cX5_isRow 1 (some .boolean)) rm_X5_isRow (va_Pc [.int x0] (gP D cA false keysRA h (wR h cA) S sz)) (va_Qi Q (wB D (wR h cA)) (aK keysRA h sz)) 0 0 (aK keysRA h sz) :=
  mk_z (by decide) hk (Nat.le_of_ble_eq_true rfl) (fun p e s m below meth c Z ls C0 hret hP hS hl => bk_X5_isRow C0 hret hP hS hd hl)
abbrev rm_X5_copies : Room := { frames := 0, cells := 0, slots := 0, locals := 0 }
def wb_X5_copies_3 (k0 : Nat) (k2 : Nat) (Q : sT → Prop) (K3 : Int32 → Int32 → Int32 → Int32 → sT → Prop) (x1 : Int32) (x3 : Int32) (x4 : Int32) (x5 : Int32) (S : sT) : Prop :=
  ((x4 ≤ x5 → Q S) ∧ (¬ x4 ≤ x5 → (vp_in (x1 + x5) (lenR k0)) ∧ (vp_in (x3 + x5) (lenR k2)) ∧ K3 x1 x3 x4 (x5 + (1 : Int32)) (uA S k2 (upd (vA S k2) (x3 + x5).toNatClampNeg (vA S k0 (x1 + x5).toNatClampNeg)))))
set_option maxHeartbeats 4000000 in
set_option maxRecDepth 100000 in
theorem bk_X5_copies_3 {p : Program} {l : Launch} {e : Env} {s : State} {m : MethodId} {args : Array Value} {below : List Frame} {meth : Method} {c : Code} {Z : State → Prop} {D : va_G} {cA : Nat → ClassId} {h : Nat → Nat} {Q : sT → Prop} {k0 : Nat} {k2 : Nat} (C0 : cx p s m args c cX5_copies 6 RX5 D cA false keysRA h) (hret : rtV p l e rm_X5_copies s m args below meth c cX5_copies Z D (wR h cA) (aK keysRA h s.heap.size) Q) (hk0 : k0 ∈ keysR) (hk2 : k2 ∈ keysR) {K3 : Int32 → Int32 → Int32 → Int32 → sT → Prop} (k3 : ∀ (x1 : Int32) (x3 : Int32) (x4 : Int32) (x5 : Int32) (S : sT) (H : Heap) (locs : List Loc) (ls : Array Slot), K3 x1 x3 x4 x5 S → va_P D vwCl (wR h cA S) H → va_S (aK keysRA h s.heap.size) s.heap H locs → lv_has ls 6 [(0, .ref (h k0)), (1, .int x1), (2, .ref (h k2)), (3, .int x3), (4, .int x4), (5, .int x5)] → W p l e rm_X5_copies s m args below meth c H locs 0 0 Z (F0 m 3 ls [])) {x1 : Int32} {x3 : Int32} {x4 : Int32} {x5 : Int32} {S : sT} {H : Heap} {locs : List Loc} {ls : Array Slot} (hP : va_P D vwCl (wR h cA S) H) (hS : va_S (aK keysRA h s.heap.size) s.heap H locs) (hd : wb_X5_copies_3 k0 k2 Q K3 x1 x3 x4 x5 S) (hl : lv_has ls 6 [(0, .ref (h k0)), (1, .int x1), (2, .ref (h k2)), (3, .int x3), (4, .int x4), (5, .int x5)]) : W p l e rm_X5_copies s m args below meth c H locs 0 0 Z (F0 m 3 ls []) := by
  obtain ⟨⟨hx, hb, hml, hown, hts⟩, hK, -, -⟩ := id C0
  unfold wb_X5_copies_3 at hd
  refine lv_iload hx hb dX5_copies_3 (lv_at hl 5 rfl) ?_
  refine lv_iload hx hb dX5_copies_5 (lv_at hl 4 rfl) ?_
  refine lv_icmp_ge (tgt := 28) hx hb dX5_copies_7 (by decide) (fun hc => ?_) (fun hc => ?_)
  · have hd := hd.1 hc
    exact hret _ _ _ _ _ hd hP hS dX5_copies_28
  · have hd := hd.2 hc
    refine lv_aload_n hx hb dX5_copies_10 rfl (lv_at hl 2 rfl) ?_
    refine lv_iload_n hx hb dX5_copies_11 rfl (lv_at hl 3 rfl) ?_
    refine lv_iload hx hb dX5_copies_12 (lv_at hl 5 rfl) ?_
    refine lv_iadd hx hb dX5_copies_14 ?_
    refine lv_aload_n hx hb dX5_copies_15 rfl (lv_at hl 0 rfl) ?_
    refine lv_iload_n hx hb dX5_copies_16 rfl (lv_at hl 1 rfl) ?_
    refine lv_iload hx hb dX5_copies_17 (lv_at hl 5 rfl) ?_
    refine lv_iadd hx hb dX5_copies_19 ?_
    obtain ⟨h_1, hd⟩ := hd
    refine ldR hk0 C0 hP h_1 dX5_copies_20 ?_
    obtain ⟨h_2, hd⟩ := hd
    refine stR hk2 C0 hP hS h_2 dX5_copies_21 (fun H locs hP hS => ?_)
    refine lv_iinc (v := x5 + (1 : Int32)) (lv' := [(5, .int (x5 + (1 : Int32))), (0, .ref (h k0)), (1, .int x1), (2, .ref (h k2)), (3, .int x3), (4, .int x4)]) hx hb dX5_copies_22 hl (k := 5) rfl rfl (by decide) rfl (fun ls hl => ?_)
    refine lv_goto (tgt := 3) hx hb dX5_copies_25 (by decide) ?_
    exact k3 _ _ _ _ _ _ _ _ hd hP hS (lv_sub hl [1, 2, 3, 4, 5, 0] rfl)
def wl_X5_copies_3 (k0 : Nat) (k2 : Nat) (Q : sT → Prop) : Nat → Int32 → Int32 → Int32 → Int32 → sT → Prop
  | 0, _, _, _, _ => fun _ => False
  | n + 1, x1, x3, x4, x5 => fun S => wb_X5_copies_3 k0 k2 Q (fun x1 x3 x4 x5 S => wl_X5_copies_3 k0 k2 Q n x1 x3 x4 x5 S) x1 x3 x4 x5 S
theorem bl_X5_copies_3 {p : Program} {l : Launch} {e : Env} {s : State} {m : MethodId} {args : Array Value} {below : List Frame} {meth : Method} {c : Code} {Z : State → Prop} {D : va_G} {cA : Nat → ClassId} {h : Nat → Nat} {Q : sT → Prop} {k0 : Nat} {k2 : Nat} (C0 : cx p s m args c cX5_copies 6 RX5 D cA false keysRA h) (hret : rtV p l e rm_X5_copies s m args below meth c cX5_copies Z D (wR h cA) (aK keysRA h s.heap.size) Q) (hk0 : k0 ∈ keysR) (hk2 : k2 ∈ keysR) : ∀ (n : Nat) (x1 : Int32) (x3 : Int32) (x4 : Int32) (x5 : Int32) (S : sT) (H : Heap) (locs : List Loc) (ls : Array Slot), va_P D vwCl (wR h cA S) H → va_S (aK keysRA h s.heap.size) s.heap H locs → wl_X5_copies_3 k0 k2 Q n x1 x3 x4 x5 S → lv_has ls 6 [(0, .ref (h k0)), (1, .int x1), (2, .ref (h k2)), (3, .int x3), (4, .int x4), (5, .int x5)] → W p l e rm_X5_copies s m args below meth c H locs 0 0 Z (F0 m 3 ls []) := by
  intro n
  induction n with
  | zero => intro x1 x3 x4 x5 S H locs ls hP hS hd hl; exact (show False from hd).elim
  | succ n ih => intro x1 x3 x4 x5 S H locs ls hP hS hd hl; exact bk_X5_copies_3 C0 hret hk0 hk2 (fun x1 x3 x4 x5 S H locs ls hd hP hS hl => ih x1 x3 x4 x5 S H locs ls hP hS hd hl) hP hS hd hl
def wp_X5_copies (k0 : Nat) (k2 : Nat) (x1 : Int32) (x3 : Int32) (x4 : Int32) (S : sT) (Q : sT → Prop) : Prop :=
  ∃ n : Nat, wl_X5_copies_3 k0 k2 Q n x1 x3 x4 (0 : Int32) S
set_option maxHeartbeats 4000000 in
set_option maxRecDepth 100000 in
theorem bk_X5_copies {p : Program} {l : Launch} {e : Env} {s : State} {m : MethodId} {args : Array Value} {below : List Frame} {meth : Method} {c : Code} {Z : State → Prop} {D : va_G} {cA : Nat → ClassId} {h : Nat → Nat} {Q : sT → Prop} {k0 : Nat} {k2 : Nat} (C0 : cx p s m args c cX5_copies 6 RX5 D cA false keysRA h) (hret : rtV p l e rm_X5_copies s m args below meth c cX5_copies Z D (wR h cA) (aK keysRA h s.heap.size) Q) (hk0 : k0 ∈ keysR) (hk2 : k2 ∈ keysR) {x1 : Int32} {x3 : Int32} {x4 : Int32} {S : sT} {H : Heap} {locs : List Loc} {ls : Array Slot} (hP : va_P D vwCl (wR h cA S) H) (hS : va_S (aK keysRA h s.heap.size) s.heap H locs) (hd : wp_X5_copies k0 k2 x1 x3 x4 S Q) (hl : lv_has ls 6 [(0, .ref (h k0)), (1, .int x1), (2, .ref (h k2)), (3, .int x3), (4, .int x4)]) : W p l e rm_X5_copies s m args below meth c H locs 0 0 Z (F0 m 0 ls []) := by
  obtain ⟨⟨hx, hb, hml, hown, hts⟩, hK, -, -⟩ := id C0
  unfold wp_X5_copies at hd
  refine lv_iconst (v := 0) hx hb dX5_copies_0 (by decide) ?_
  refine lv_istore (lv' := [(5, .int (0 : Int32)), (0, .ref (h k0)), (1, .int x1), (2, .ref (h k2)), (3, .int x3), (4, .int x4)]) hx hb dX5_copies_1 hl (by decide) rfl (fun ls hl => ?_)
  obtain ⟨n_1, hd⟩ := hd
  exact bl_X5_copies_3 C0 hret hk0 hk2 _ _ _ _ _ _ _ _ _ hP hS hd (lv_sub hl [1, 2, 3, 4, 5, 0] rfl)
theorem c_X5_copies (l : Launch) {D : va_G} {cA : Nat → ClassId} {h : Nat → Nat} (hk : ky keysRA h) {k0 : Nat} {k2 : Nat} (hk0 : k0 ∈ keysR) (hk2 : k2 ∈ keysR) {x1 : Int32} {x3 : Int32} {x4 : Int32} {S : sT} (sz : Nat) {Q : sT → Prop} (hd : wp_X5_copies k0 k2 x1 x3 x4 S Q) : Met l yX5_copies (wsU yX5_copies cX5_copies 6 none) rm_X5_copies (va_Pc [.ref (h k0), .int x1, .ref (h k2), .int x3, .int x4] (gP D cA false keysRA h (wR h cA) S sz)) (va_Qv Q (wB D (wR h cA)) (aK keysRA h sz)) 0 0 (aK keysRA h sz) :=
  mk_v (by decide) hk (Nat.le_of_ble_eq_true rfl) (fun p e s m below meth c Z ls C0 hret hP hS hl => bk_X5_copies C0 hret hk0 hk2 hP hS hd hl)
