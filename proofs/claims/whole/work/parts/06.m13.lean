abbrev rm_X5_undo : Room := { frames := 1, cells := 0, slots := 0, locals := 25 }
def wb_X5_undo_45 (Q : Int32 → sT → Prop) (x1 : Int32) (x2 : Int32) (S : sT) : Prop :=
  Q x2 (uI S 17 x1)
set_option maxHeartbeats 4000000 in
set_option maxRecDepth 100000 in
theorem bk_X5_undo_45 {p : Program} {l : Launch} {e : Env} {s : State} {m : MethodId} {args : Array Value} {below : List Frame} {meth : Method} {c : Code} {Z : State → Prop} {D : va_G} {cA : Nat → ClassId} {h : Nat → Nat} {Q : Int32 → sT → Prop} (C0 : cx p s m args c cX5_undo 3 RX5 D cA false keysRA h) (hret : rtI p l e rm_X5_undo s m args below meth c cX5_undo Z D (wR h cA) (aK keysRA h s.heap.size) Q) {x1 : Int32} {x2 : Int32} {S : sT} {H : Heap} {locs : List Loc} {ls : Array Slot} (hP : va_P D vwCl (wR h cA S) H) (hS : va_S (aK keysRA h s.heap.size) s.heap H locs) (hd : wb_X5_undo_45 Q x1 x2 S) (hl : lv_has ls 3 [(0, .ref (h 100)), (1, .int x1), (2, .int x2)]) : W p l e rm_X5_undo s m args below meth c H locs 0 0 Z (F0 m 45 ls []) := by
  obtain ⟨⟨hx, hb, hml, hown, hts⟩, hK, -, -⟩ := id C0
  unfold wb_X5_undo_45 at hd
  refine lv_aload_n hx hb dX5_undo_45 rfl (lv_at hl 0 rfl) ?_
  refine lv_iload_n hx hb dX5_undo_46 rfl (lv_at hl 1 rfl) ?_
  refine pf_X5_100 C0 hP hS dX5_undo_47 (fun H locs hP hS => ?_)
  refine lv_iload_n hx hb dX5_undo_50 rfl (lv_at hl 2 rfl) ?_
  exact hret _ _ _ _ _ _ hd hP hS dX5_undo_51
def wp_X5_undo (x1 : Int32) (S : sT) (Q : Int32 → sT → Prop) : Prop :=
  wp_X5_in x1.toInt64 (0 : Int64) ((vI S 17).toInt64) S (fun r_1 S_1 => ((¬ r_1 = 0 → ((((vI S_1 17) - x1) ≤ 0 → wb_X5_undo_45 Q x1 ((vI S_1 17) - x1) S_1) ∧ (¬ ((vI S_1 17) - x1) ≤ 0 → wp_X5_copies 16 14 ((9 : Int32) * x1) (0 : Int32) (9 : Int32) S_1 (fun S_2 => wb_X5_undo_45 Q x1 ((vI S_1 17) - x1) S_2)))) ∧ (r_1 = 0 → Q (-1 : Int32) S_1)))
set_option maxHeartbeats 4000000 in
set_option maxRecDepth 100000 in
theorem bk_X5_undo {p : Program} {l : Launch} {e : Env} {s : State} {m : MethodId} {args : Array Value} {below : List Frame} {meth : Method} {c : Code} {Z : State → Prop} {D : va_G} {cA : Nat → ClassId} {h : Nat → Nat} {Q : Int32 → sT → Prop} (C0 : cx p s m args c cX5_undo 3 RX5 D cA false keysRA h) (hret : rtI p l e rm_X5_undo s m args below meth c cX5_undo Z D (wR h cA) (aK keysRA h s.heap.size) Q) {x1 : Int32} {S : sT} {H : Heap} {locs : List Loc} {ls : Array Slot} (hP : va_P D vwCl (wR h cA S) H) (hS : va_S (aK keysRA h s.heap.size) s.heap H locs) (hd : wp_X5_undo x1 S Q) (hl : lv_has ls 3 [(0, .ref (h 100)), (1, .int x1)]) : W p l e rm_X5_undo s m args below meth c H locs 0 0 Z (F0 m 0 ls []) := by
  obtain ⟨⟨hx, hb, hml, hown, hts⟩, hK, -, -⟩ := id C0
  unfold wp_X5_undo at hd
  refine lv_iload_n hx hb dX5_undo_0 rfl (lv_at hl 1 rfl) ?_
  refine lv_i2l hx hb dX5_undo_1 rfl ?_
  refine lv_lconst (v := 0) hx hb dX5_undo_2 (by decide) ?_
  refine lv_aload_n hx hb dX5_undo_3 rfl (lv_at hl 0 rfl) ?_
  refine gf_X5_100 C0 hP dX5_undo_4 ?_
  refine lv_i2l hx hb dX5_undo_7 rfl ?_
  refine cl_Si (n := 3) (rest := []) C0 hP hS (c_X5_in l C0.2.2.1 _ hd) (lwG_S lm_X5_77 ls_X5_in lz_RX5 lc_X5_in) (by decide +kernel) rfl rfl (Nat.le_of_ble_eq_true rfl) ⟨rfl, rfl⟩ ⟨by decide, by decide⟩ dX5_undo_8 hl.1 ⟨Nat.zero_le _, Nat.zero_le _⟩ (fun r_1 S_1 H locs hd hP hS => ?_)
  refine lv_if_ne (tgt := 16) hx hb dX5_undo_11 (by decide) (fun hc => ?_) (fun hc => ?_)
  · have hd := hd.1 hc
    refine lv_aload_n hx hb dX5_undo_16 rfl (lv_at hl 0 rfl) ?_
    refine gf_X5_100 C0 hP dX5_undo_17 ?_
    refine lv_iload_n hx hb dX5_undo_20 rfl (lv_at hl 1 rfl) ?_
    refine lv_isub hx hb dX5_undo_21 ?_
    refine lv_istore_n (lv' := [(2, .int ((vI S_1 17) - x1)), (0, .ref (h 100)), (1, .int x1)]) hx hb dX5_undo_22 rfl hl (by decide) rfl (fun ls hl => ?_)
    refine lv_iload_n hx hb dX5_undo_23 rfl (lv_at hl 0 rfl) ?_
    refine lv_if_le (tgt := 45) hx hb dX5_undo_24 (by decide) (fun hc => ?_) (fun hc => ?_)
    · have hd := hd.1 hc
      exact bk_X5_undo_45 C0 hret hP hS hd (lv_sub hl [1, 2, 0] rfl)
    · have hd := hd.2 hc
      refine lv_aload_n hx hb dX5_undo_27 rfl (lv_at hl 1 rfl) ?_
      refine gf_X5_41 C0 hP dX5_undo_28 ?_
      refine lv_bipush (v := 9) hx hb dX5_undo_31 (by decide) ?_
      refine lv_iload_n hx hb dX5_undo_33 rfl (lv_at hl 2 rfl) ?_
      refine lv_imul hx hb dX5_undo_34 ?_
      refine lv_aload_n hx hb dX5_undo_35 rfl (lv_at hl 1 rfl) ?_
      refine gf_X5_35 C0 hP dX5_undo_36 ?_
      refine lv_iconst (v := 0) hx hb dX5_undo_39 (by decide) ?_
      refine lv_bipush (v := 9) hx hb dX5_undo_40 (by decide) ?_
      refine cl_Sv (n := 5) (rest := []) C0 hP hS (c_X5_copies l C0.2.2.1 (by decide) (by decide) _ hd) (lwG_S lm_X5_197 ls_X5_copies lz_RX5 lc_X5_copies) (by decide +kernel) rfl rfl (Nat.le_of_ble_eq_true rfl) ⟨rfl, rfl⟩ ⟨by decide, by decide⟩ dX5_undo_42 hl.1 ⟨Nat.zero_le _, Nat.zero_le _⟩ (fun S_2 H locs hd hP hS => ?_)
      exact bk_X5_undo_45 C0 hret hP hS hd (lv_sub hl [1, 2, 0] rfl)
  · have hd := hd.2 hc
    refine lv_iconst (v := (-1)) hx hb dX5_undo_14 (by decide) ?_
    exact hret _ _ _ _ _ _ hd hP hS dX5_undo_15
theorem c_X5_undo (l : Launch) {D : va_G} {cA : Nat → ClassId} {h : Nat → Nat} (hk : ky keysRA h) {x1 : Int32} {S : sT} (sz : Nat) {Q : Int32 → sT → Prop} (hd : wp_X5_undo x1 S Q) : Met l yX5_undo (wsU yX5_undo cX5_undo 3 (some .int)) rm_X5_undo (va_Pc [.ref (h 100), .int x1] (gP D cA false keysRA h (wR h cA) S sz)) (va_Qi Q (wB D (wR h cA)) (aK keysRA h sz)) 0 0 (aK keysRA h sz) :=
  mk_i (by decide) hk (Nat.le_of_ble_eq_true rfl) (fun p e s m below meth c Z ls C0 hret hP hS hl => bk_X5_undo C0 hret hP hS hd hl)
abbrev rm_X5_upper : Room := { frames := 0, cells := 0, slots := 0, locals := 0 }
def wp_X5_upper (S : sT) (Q : Int64 → sT → Prop) : Prop :=
  Q (vL S 5) S
set_option maxHeartbeats 4000000 in
set_option maxRecDepth 100000 in
theorem bk_X5_upper {p : Program} {l : Launch} {e : Env} {s : State} {m : MethodId} {args : Array Value} {below : List Frame} {meth : Method} {c : Code} {Z : State → Prop} {D : va_G} {cA : Nat → ClassId} {h : Nat → Nat} {Q : Int64 → sT → Prop} (C0 : cx p s m args c cX5_upper 1 RX5 D cA false keysRA h) (hret : rtL p l e rm_X5_upper s m args below meth c cX5_upper Z D (wR h cA) (aK keysRA h s.heap.size) Q) {S : sT} {H : Heap} {locs : List Loc} {ls : Array Slot} (hP : va_P D vwCl (wR h cA S) H) (hS : va_S (aK keysRA h s.heap.size) s.heap H locs) (hd : wp_X5_upper S Q) (hl : lv_has ls 1 [(0, .ref (h 100))]) : W p l e rm_X5_upper s m args below meth c H locs 0 0 Z (F0 m 0 ls []) := by
  obtain ⟨⟨hx, hb, hml, hown, hts⟩, hK, -, -⟩ := id C0
  unfold wp_X5_upper at hd
  refine lv_aload_n hx hb dX5_upper_0 rfl (lv_at hl 0 rfl) ?_
  refine gf_X5_252 C0 hP dX5_upper_1 ?_
  exact hret _ _ _ _ _ _ hd hP hS dX5_upper_4
theorem c_X5_upper (l : Launch) {D : va_G} {cA : Nat → ClassId} {h : Nat → Nat} (hk : ky keysRA h) {S : sT} (sz : Nat) {Q : Int64 → sT → Prop} (hd : wp_X5_upper S Q) : Met l yX5_upper (wsU yX5_upper cX5_upper 1 (some .long)) rm_X5_upper (va_Pc [.ref (h 100)] (gP D cA false keysRA h (wR h cA) S sz)) (va_Ql Q (wB D (wR h cA)) (aK keysRA h sz)) 0 0 (aK keysRA h sz) :=
  mk_l (by decide) hk (Nat.le_of_ble_eq_true rfl) (fun p e s m below meth c Z ls C0 hret hP hS hl => bk_X5_upper C0 hret hP hS hd hl)
abbrev rm_X5_wake : Room := { frames := 3, cells := 0, slots := 0, locals := 68 }
def wp_X5_wake (x1 : Int32) (S : sT) (Q : Int32 → sT → Prop) : Prop :=
  wp_X5_isOne x1 S (fun r_1 S_1 => ((¬ r_1 = 0 → (vp_in (2 : Int32) 9) ∧ wp_X5_has (vA S_1 14 (2 : Int32).toNatClampNeg) x1 S_1 (fun r_3 S_3 => ((¬ r_3 = 0 → ((¬ (vI S_3 17) = (40 : Int32) → wp_X5_remember S_3 (fun S_4 => wp_X5_isDreaming x1 S_4 (fun r_5 S_5 => (vp_in (2 : Int32) 9) ∧ (vp_in (2 : Int32) 9) ∧ ∀ S_8 : sT, S_8 = uA S_5 14 (upd (vA S_5 14) (2 : Int32).toNatClampNeg ((vA S_5 14 (2 : Int32).toNatClampNeg) ^^^ ((1 : Int32) <<< (x1 &&& 31)))) → ((r_5 = 0 → Q (0 : Int32) S_8) ∧ (¬ r_5 = 0 → Q (1 : Int32) S_8))))) ∧ ((vI S_3 17) = (40 : Int32) → Q (-2 : Int32) S_3))) ∧ (r_3 = 0 → Q (-4 : Int32) S_3)))) ∧ (r_1 = 0 → Q (-1 : Int32) S_1)))
set_option maxHeartbeats 4000000 in
set_option maxRecDepth 100000 in
theorem bk_X5_wake {p : Program} {l : Launch} {e : Env} {s : State} {m : MethodId} {args : Array Value} {below : List Frame} {meth : Method} {c : Code} {Z : State → Prop} {D : va_G} {cA : Nat → ClassId} {h : Nat → Nat} {Q : Int32 → sT → Prop} (C0 : cx p s m args c cX5_wake 3 RX5 D cA false keysRA h) (hret : rtI p l e rm_X5_wake s m args below meth c cX5_wake Z D (wR h cA) (aK keysRA h s.heap.size) Q) {x1 : Int32} {S : sT} {H : Heap} {locs : List Loc} {ls : Array Slot} (hP : va_P D vwCl (wR h cA S) H) (hS : va_S (aK keysRA h s.heap.size) s.heap H locs) (hd : wp_X5_wake x1 S Q) (hl : lv_has ls 3 [(0, .ref (h 100)), (1, .int x1)]) : W p l e rm_X5_wake s m args below meth c H locs 0 0 Z (F0 m 0 ls []) := by
  obtain ⟨⟨hx, hb, hml, hown, hts⟩, hK, -, -⟩ := id C0
  unfold wp_X5_wake at hd
  refine lv_aload_n hx hb dX5_wake_0 rfl (lv_at hl 0 rfl) ?_
  refine lv_iload_n hx hb dX5_wake_1 rfl (lv_at hl 1 rfl) ?_
  refine cl_Vi (n := 1) (rest := []) C0 hP hS (c_X5_isOne l C0.2.2.1 _ hd) (lwG_V lm_X5_176 li_X5_isOne lx_X5_isOne lz_RX5 lc_X5_isOne) (by decide +kernel) (oR_at h cA _) rfl rfl rfl (Nat.le_of_ble_eq_true rfl) ⟨rfl, rfl⟩ ⟨by decide, by decide⟩ dX5_wake_2 hl.1 ⟨Nat.zero_le _, Nat.zero_le _⟩ (fun r_1 S_1 H locs hd hP hS => ?_)
  refine lv_if_ne (tgt := 10) hx hb dX5_wake_5 (by decide) (fun hc => ?_) (fun hc => ?_)
  · have hd := hd.1 hc
    refine lv_aload_n hx hb dX5_wake_10 rfl (lv_at hl 0 rfl) ?_
    refine gf_X5_35 C0 hP dX5_wake_11 ?_
    refine lv_iconst (v := 2) hx hb dX5_wake_14 (by decide) ?_
    obtain ⟨h_2, hd⟩ := hd
    refine ldR (by decide) C0 hP h_2 dX5_wake_15 ?_
    refine lv_iload_n hx hb dX5_wake_16 rfl (lv_at hl 1 rfl) ?_
    refine cl_Si (n := 2) (rest := []) C0 hP hS (c_X5_has l C0.2.2.1 _ hd) (lwG_S lm_X5_165 ls_X5_has lz_RX5 lc_X5_has) (by decide +kernel) rfl rfl (Nat.le_of_ble_eq_true rfl) ⟨rfl, rfl⟩ ⟨by decide, by decide⟩ dX5_wake_17 hl.1 ⟨Nat.zero_le _, Nat.zero_le _⟩ (fun r_3 S_3 H locs hd hP hS => ?_)
    refine lv_if_ne (tgt := 26) hx hb dX5_wake_20 (by decide) (fun hc => ?_) (fun hc => ?_)
    · have hd := hd.1 hc
      refine lv_aload_n hx hb dX5_wake_26 rfl (lv_at hl 0 rfl) ?_
      refine gf_X5_100 C0 hP dX5_wake_27 ?_
      refine lv_bipush (v := 40) hx hb dX5_wake_30 (by decide) ?_
      refine lv_icmp_ne (tgt := 38) hx hb dX5_wake_32 (by decide) (fun hc => ?_) (fun hc => ?_)
      · have hd := hd.1 hc
        refine lv_aload_n hx hb dX5_wake_38 rfl (lv_at hl 0 rfl) ?_
        refine cl_Vv (n := 0) (rest := []) C0 hP hS (c_X5_remember l C0.2.2.1 _ hd) (lwG_V lm_X5_201 li_X5_remember lx_X5_remember lz_RX5 lc_X5_remember) (by decide +kernel) (oR_at h cA _) rfl rfl rfl (Nat.le_of_ble_eq_true rfl) ⟨rfl, rfl⟩ ⟨by decide, by decide⟩ dX5_wake_39 hl.1 ⟨Nat.zero_le _, Nat.zero_le _⟩ (fun S_4 H locs hd hP hS => ?_)
        refine lv_aload_n hx hb dX5_wake_42 rfl (lv_at hl 0 rfl) ?_
        refine lv_iload_n hx hb dX5_wake_43 rfl (lv_at hl 1 rfl) ?_
        refine cl_Vi (n := 1) (rest := []) C0 hP hS (c_X5_isDreaming l C0.2.2.1 _ hd) (lwG_V lm_X5_181 li_X5_isDreaming lx_X5_isDreaming lz_RX5 lc_X5_isDreaming) (by decide +kernel) (oR_at h cA _) rfl rfl rfl (Nat.le_of_ble_eq_true rfl) ⟨rfl, rfl⟩ ⟨by decide, by decide⟩ dX5_wake_44 hl.1 ⟨Nat.zero_le _, Nat.zero_le _⟩ (fun r_5 S_5 H locs hd hP hS => ?_)
        refine lv_istore_n (lv' := [(2, .int r_5), (0, .ref (h 100)), (1, .int x1)]) hx hb dX5_wake_47 rfl hl (by decide) rfl (fun ls hl => ?_)
        refine lv_aload_n hx hb dX5_wake_48 rfl (lv_at hl 1 rfl) ?_
        refine gf_X5_35 C0 hP dX5_wake_49 ?_
        refine lv_iconst (v := 2) hx hb dX5_wake_52 (by decide) ?_
        refine lv_dup2_11 hx hb dX5_wake_53 rfl rfl ?_
        obtain ⟨h_6, hd⟩ := hd
        refine ldR (by decide) C0 hP h_6 dX5_wake_54 ?_
        refine lv_iconst (v := 1) hx hb dX5_wake_55 (by decide) ?_
        refine lv_iload_n hx hb dX5_wake_56 rfl (lv_at hl 2 rfl) ?_
        refine lv_ishl hx hb dX5_wake_57 ?_
        refine lv_ixor hx hb dX5_wake_58 ?_
        obtain ⟨h_7, hd⟩ := hd
        refine stR (by decide) C0 hP hS h_7 dX5_wake_59 (fun H locs hP hS => ?_)
        obtain ⟨S_8, eS_8⟩ : ∃ x : sT, x = uA S_5 14 (upd (vA S_5 14) (2 : Int32).toNatClampNeg ((vA S_5 14 (2 : Int32).toNatClampNeg) ^^^ ((1 : Int32) <<< (x1 &&& 31)))) := ⟨_, rfl⟩
        rw [← eS_8] at hP
        have hd := hd S_8 eS_8
        refine lv_iload_n hx hb dX5_wake_60 rfl (lv_at hl 0 rfl) ?_
        refine lv_if_eq (tgt := 68) hx hb dX5_wake_61 (by decide) (fun hc => ?_) (fun hc => ?_)
        · have hd := hd.1 hc
          refine lv_iconst (v := 0) hx hb dX5_wake_68 (by decide) ?_
          exact hret _ _ _ _ _ _ hd hP hS dX5_wake_69
        · have hd := hd.2 hc
          refine lv_iconst (v := 1) hx hb dX5_wake_64 (by decide) ?_
          refine lv_goto (tgt := 69) hx hb dX5_wake_65 (by decide) ?_
          exact hret _ _ _ _ _ _ hd hP hS dX5_wake_69
      · have hd := hd.2 hc
        refine lv_bipush (v := (-2)) hx hb dX5_wake_35 (by decide) ?_
        exact hret _ _ _ _ _ _ hd hP hS dX5_wake_37
    · have hd := hd.2 hc
      refine lv_bipush (v := (-4)) hx hb dX5_wake_23 (by decide) ?_
      exact hret _ _ _ _ _ _ hd hP hS dX5_wake_25
  · have hd := hd.2 hc
    refine lv_iconst (v := (-1)) hx hb dX5_wake_8 (by decide) ?_
    exact hret _ _ _ _ _ _ hd hP hS dX5_wake_9
theorem c_X5_wake (l : Launch) {D : va_G} {cA : Nat → ClassId} {h : Nat → Nat} (hk : ky keysRA h) {x1 : Int32} {S : sT} (sz : Nat) {Q : Int32 → sT → Prop} (hd : wp_X5_wake x1 S Q) : Met l yX5_wake (wsU yX5_wake cX5_wake 3 (some .int)) rm_X5_wake (va_Pc [.ref (h 100), .int x1] (gP D cA false keysRA h (wR h cA) S sz)) (va_Qi Q (wB D (wR h cA)) (aK keysRA h sz)) 0 0 (aK keysRA h sz) :=
  mk_i (by decide) hk (Nat.le_of_ble_eq_true rfl) (fun p e s m below meth c Z ls C0 hret hP hS hl => bk_X5_wake C0 hret hP hS hd hl)
