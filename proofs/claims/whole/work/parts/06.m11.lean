abbrev rm_X5_keep : Room := { frames := 1, cells := 0, slots := 0, locals := 25 }
def wp_X5_keep (x1 : Int32) (S : sT) (Q : Int32 → sT → Prop) : Prop :=
  wp_X5_in x1.toInt64 (0 : Int64) (2 : Int64) S (fun r_1 S_1 => ((¬ r_1 = 0 → ((¬ (vI S_1 9) = 0 → (vp_in ((370 : Int32) * x1) 1110) ∧ wp_X5_copies 14 18 (0 : Int32) (((370 : Int32) * x1) + (1 : Int32)) (9 : Int32) (uA S_1 18 (upd (vA S_1 18) ((370 : Int32) * x1).toNatClampNeg (vI S_1 17))) (fun S_3 => wp_X5_copies 16 18 (0 : Int32) ((((370 : Int32) * x1) + (1 : Int32)) + (9 : Int32)) (360 : Int32) S_3 (fun S_4 => Q (vI S_4 17) S_4))) ∧ ((vI S_1 9) = 0 → Q (-4 : Int32) S_1))) ∧ (r_1 = 0 → Q (-1 : Int32) S_1)))
set_option maxHeartbeats 4000000 in
set_option maxRecDepth 100000 in
theorem bk_X5_keep {p : Program} {l : Launch} {e : Env} {s : State} {m : MethodId} {args : Array Value} {below : List Frame} {meth : Method} {c : Code} {Z : State → Prop} {D : va_G} {cA : Nat → ClassId} {h : Nat → Nat} {Q : Int32 → sT → Prop} (C0 : cx p s m args c cX5_keep 2 RX5 D cA false keysRA h) (hret : rtI p l e rm_X5_keep s m args below meth c cX5_keep Z D (wR h cA) (aK keysRA h s.heap.size) Q) {x1 : Int32} {S : sT} {H : Heap} {locs : List Loc} {ls : Array Slot} (hP : va_P D vwCl (wR h cA S) H) (hS : va_S (aK keysRA h s.heap.size) s.heap H locs) (hd : wp_X5_keep x1 S Q) (hl : lv_has ls 2 [(0, .ref (h 100)), (1, .int x1)]) : W p l e rm_X5_keep s m args below meth c H locs 0 0 Z (F0 m 0 ls []) := by
  obtain ⟨⟨hx, hb, hml, hown, hts⟩, hK, -, -⟩ := id C0
  unfold wp_X5_keep at hd
  refine lv_iload_n hx hb dX5_keep_0 rfl (lv_at hl 1 rfl) ?_
  refine lv_i2l hx hb dX5_keep_1 rfl ?_
  refine lv_lconst (v := 0) hx hb dX5_keep_2 (by decide) ?_
  refine lv_ldc2 hx hb hown (hts _ lk_X5_209) dX5_keep_3 ?_
  refine cl_Si (n := 3) (rest := []) C0 hP hS (c_X5_in l C0.2.2.1 _ hd) (lwG_S lm_X5_77 ls_X5_in lz_RX5 lc_X5_in) (by decide +kernel) rfl rfl (Nat.le_of_ble_eq_true rfl) ⟨rfl, rfl⟩ ⟨by decide, by decide⟩ dX5_keep_6 hl.1 ⟨Nat.zero_le _, Nat.zero_le _⟩ (fun r_1 S_1 H locs hd hP hS => ?_)
  refine lv_if_ne (tgt := 14) hx hb dX5_keep_9 (by decide) (fun hc => ?_) (fun hc => ?_)
  · have hd := hd.1 hc
    refine lv_aload_n hx hb dX5_keep_14 rfl (lv_at hl 0 rfl) ?_
    refine gf_X5_97 C0 hP dX5_keep_15 ?_
    refine lv_if_ne (tgt := 24) hx hb dX5_keep_18 (by decide) (fun hc => ?_) (fun hc => ?_)
    · have hd := hd.1 hc
      refine lv_aload_n hx hb dX5_keep_24 rfl (lv_at hl 0 rfl) ?_
      refine gf_X5_44 C0 hP dX5_keep_25 ?_
      refine lv_sipush (v := 370) hx hb dX5_keep_28 (by decide) ?_
      refine lv_iload_n hx hb dX5_keep_31 rfl (lv_at hl 1 rfl) ?_
      refine lv_imul hx hb dX5_keep_32 ?_
      refine lv_aload_n hx hb dX5_keep_33 rfl (lv_at hl 0 rfl) ?_
      refine gf_X5_100 C0 hP dX5_keep_34 ?_
      obtain ⟨h_2, hd⟩ := hd
      refine stR (by decide) C0 hP hS h_2 dX5_keep_37 (fun H locs hP hS => ?_)
      refine lv_aload_n hx hb dX5_keep_38 rfl (lv_at hl 0 rfl) ?_
      refine gf_X5_35 C0 hP dX5_keep_39 ?_
      refine lv_iconst (v := 0) hx hb dX5_keep_42 (by decide) ?_
      refine lv_aload_n hx hb dX5_keep_43 rfl (lv_at hl 0 rfl) ?_
      refine gf_X5_44 C0 hP dX5_keep_44 ?_
      refine lv_sipush (v := 370) hx hb dX5_keep_47 (by decide) ?_
      refine lv_iload_n hx hb dX5_keep_50 rfl (lv_at hl 1 rfl) ?_
      refine lv_imul hx hb dX5_keep_51 ?_
      refine lv_iconst (v := 1) hx hb dX5_keep_52 (by decide) ?_
      refine lv_iadd hx hb dX5_keep_53 ?_
      refine lv_bipush (v := 9) hx hb dX5_keep_54 (by decide) ?_
      refine cl_Sv (n := 5) (rest := []) C0 hP hS (c_X5_copies l C0.2.2.1 (by decide) (by decide) _ hd) (lwG_S lm_X5_197 ls_X5_copies lz_RX5 lc_X5_copies) (by decide +kernel) rfl rfl (Nat.le_of_ble_eq_true rfl) ⟨rfl, rfl⟩ ⟨by decide, by decide⟩ dX5_keep_56 hl.1 ⟨Nat.zero_le _, Nat.zero_le _⟩ (fun S_3 H locs hd hP hS => ?_)
      refine lv_aload_n hx hb dX5_keep_59 rfl (lv_at hl 0 rfl) ?_
      refine gf_X5_41 C0 hP dX5_keep_60 ?_
      refine lv_iconst (v := 0) hx hb dX5_keep_63 (by decide) ?_
      refine lv_aload_n hx hb dX5_keep_64 rfl (lv_at hl 0 rfl) ?_
      refine gf_X5_44 C0 hP dX5_keep_65 ?_
      refine lv_sipush (v := 370) hx hb dX5_keep_68 (by decide) ?_
      refine lv_iload_n hx hb dX5_keep_71 rfl (lv_at hl 1 rfl) ?_
      refine lv_imul hx hb dX5_keep_72 ?_
      refine lv_iconst (v := 1) hx hb dX5_keep_73 (by decide) ?_
      refine lv_iadd hx hb dX5_keep_74 ?_
      refine lv_bipush (v := 9) hx hb dX5_keep_75 (by decide) ?_
      refine lv_iadd hx hb dX5_keep_77 ?_
      refine lv_sipush (v := 360) hx hb dX5_keep_78 (by decide) ?_
      refine cl_Sv (n := 5) (rest := []) C0 hP hS (c_X5_copies l C0.2.2.1 (by decide) (by decide) _ hd) (lwG_S lm_X5_197 ls_X5_copies lz_RX5 lc_X5_copies) (by decide +kernel) rfl rfl (Nat.le_of_ble_eq_true rfl) ⟨rfl, rfl⟩ ⟨by decide, by decide⟩ dX5_keep_81 hl.1 ⟨Nat.zero_le _, Nat.zero_le _⟩ (fun S_4 H locs hd hP hS => ?_)
      refine lv_aload_n hx hb dX5_keep_84 rfl (lv_at hl 0 rfl) ?_
      refine gf_X5_100 C0 hP dX5_keep_85 ?_
      exact hret _ _ _ _ _ _ hd hP hS dX5_keep_88
    · have hd := hd.2 hc
      refine lv_bipush (v := (-4)) hx hb dX5_keep_21 (by decide) ?_
      exact hret _ _ _ _ _ _ hd hP hS dX5_keep_23
  · have hd := hd.2 hc
    refine lv_iconst (v := (-1)) hx hb dX5_keep_12 (by decide) ?_
    exact hret _ _ _ _ _ _ hd hP hS dX5_keep_13
theorem c_X5_keep (l : Launch) {D : va_G} {cA : Nat → ClassId} {h : Nat → Nat} (hk : ky keysRA h) {x1 : Int32} {S : sT} (sz : Nat) {Q : Int32 → sT → Prop} (hd : wp_X5_keep x1 S Q) : Met l yX5_keep (wsU yX5_keep cX5_keep 2 (some .int)) rm_X5_keep (va_Pc [.ref (h 100), .int x1] (gP D cA false keysRA h (wR h cA) S sz)) (va_Qi Q (wB D (wR h cA)) (aK keysRA h sz)) 0 0 (aK keysRA h sz) :=
  mk_i (by decide) hk (Nat.le_of_ble_eq_true rfl) (fun p e s m below meth c Z ls C0 hret hP hS hl => bk_X5_keep C0 hret hP hS hd hl)
abbrev rm_X5_kinds : Room := { frames := 6, cells := 0, slots := 0, locals := 138 }
def wb_X5_kinds_80 (Q : Int32 → sT → Prop) (K43 : Int32 → Int32 → Int32 → Int32 → Int32 → sT → Prop) (x1 : Int32) (x2 : Int32) (x4 : Int32) (x6 : Int32) (y0 : Int32) (y1 : Int32) (S : sT) : Prop :=
  K43 x1 x2 x4 (y0 ||| y1) (x6 + (1 : Int32)) S
set_option maxHeartbeats 4000000 in
set_option maxRecDepth 100000 in
theorem bk_X5_kinds_80 {p : Program} {l : Launch} {e : Env} {s : State} {m : MethodId} {args : Array Value} {below : List Frame} {meth : Method} {c : Code} {Z : State → Prop} {D : va_G} {cA : Nat → ClassId} {h : Nat → Nat} {Q : Int32 → sT → Prop} (C0 : cx p s m args c cX5_kinds 7 RX5 D cA false keysRA h) (hret : rtI p l e rm_X5_kinds s m args below meth c cX5_kinds Z D (wR h cA) (aK keysRA h s.heap.size) Q) {K43 : Int32 → Int32 → Int32 → Int32 → Int32 → sT → Prop} (k43 : ∀ (x1 : Int32) (x2 : Int32) (x4 : Int32) (x5 : Int32) (x6 : Int32) (S : sT) (H : Heap) (locs : List Loc) (ls : Array Slot), K43 x1 x2 x4 x5 x6 S → va_P D vwCl (wR h cA S) H → va_S (aK keysRA h s.heap.size) s.heap H locs → lv_has ls 7 [(0, .ref (h 100)), (1, .int x1), (2, .int x2), (4, .int x4), (5, .int x5), (6, .int x6)] → W p l e rm_X5_kinds s m args below meth c H locs 0 0 Z (F0 m 43 ls [])) {x1 : Int32} {x2 : Int32} {x4 : Int32} {x6 : Int32} {y0 : Int32} {y1 : Int32} {S : sT} {H : Heap} {locs : List Loc} {ls : Array Slot} (hP : va_P D vwCl (wR h cA S) H) (hS : va_S (aK keysRA h s.heap.size) s.heap H locs) (hd : wb_X5_kinds_80 Q K43 x1 x2 x4 x6 y0 y1 S) (hl : lv_has ls 7 [(0, .ref (h 100)), (1, .int x1), (2, .int x2), (4, .int x4), (6, .int x6)]) : W p l e rm_X5_kinds s m args below meth c H locs 0 0 Z (F0 m 80 ls [.int y1, .int y0]) := by
  obtain ⟨⟨hx, hb, hml, hown, hts⟩, hK, -, -⟩ := id C0
  unfold wb_X5_kinds_80 at hd
  refine lv_ior hx hb dX5_kinds_80 ?_
  refine lv_istore (lv' := [(5, .int (y0 ||| y1)), (0, .ref (h 100)), (1, .int x1), (2, .int x2), (4, .int x4), (6, .int x6)]) hx hb dX5_kinds_81 hl (by decide) rfl (fun ls hl => ?_)
  refine lv_iinc (v := x6 + (1 : Int32)) (lv' := [(6, .int (x6 + (1 : Int32))), (5, .int (y0 ||| y1)), (0, .ref (h 100)), (1, .int x1), (2, .int x2), (4, .int x4)]) hx hb dX5_kinds_83 hl (k := 5) rfl rfl (by decide) rfl (fun ls hl => ?_)
  refine lv_goto (tgt := 43) hx hb dX5_kinds_86 (by decide) ?_
  exact k43 _ _ _ _ _ _ _ _ _ hd hP hS (lv_sub hl [2, 3, 4, 5, 1, 0] rfl)
def wb_X5_kinds_43 (Q : Int32 → sT → Prop) (K43 : Int32 → Int32 → Int32 → Int32 → Int32 → sT → Prop) (x1 : Int32) (x2 : Int32) (x4 : Int32) (x5 : Int32) (x6 : Int32) (S : sT) : Prop :=
  (((6 : Int32) ≤ x6 → (vp_in x1 6) ∧ Q x5 (uA S 12 (upd (vA S 12) x1.toNatClampNeg x4))) ∧ (¬ (6 : Int32) ≤ x6 → (vp_in x1 6) ∧ wp_X5_layAside (uA S 12 (upd (vA S 12) x1.toNatClampNeg x6)) (fun S_3 => wp_X5_goesAs x2 S_3 (fun r_4 S_4 => ((r_4 = 0 → wb_X5_kinds_80 Q K43 x1 x2 x4 x6 x5 (0 : Int32) S_4) ∧ (¬ r_4 = 0 → wb_X5_kinds_80 Q K43 x1 x2 x4 x6 x5 ((1 : Int32) <<< (x6 &&& 31)) S_4))))))
set_option maxHeartbeats 4000000 in
set_option maxRecDepth 100000 in
theorem bk_X5_kinds_43 {p : Program} {l : Launch} {e : Env} {s : State} {m : MethodId} {args : Array Value} {below : List Frame} {meth : Method} {c : Code} {Z : State → Prop} {D : va_G} {cA : Nat → ClassId} {h : Nat → Nat} {Q : Int32 → sT → Prop} (C0 : cx p s m args c cX5_kinds 7 RX5 D cA false keysRA h) (hret : rtI p l e rm_X5_kinds s m args below meth c cX5_kinds Z D (wR h cA) (aK keysRA h s.heap.size) Q) {K43 : Int32 → Int32 → Int32 → Int32 → Int32 → sT → Prop} (k43 : ∀ (x1 : Int32) (x2 : Int32) (x4 : Int32) (x5 : Int32) (x6 : Int32) (S : sT) (H : Heap) (locs : List Loc) (ls : Array Slot), K43 x1 x2 x4 x5 x6 S → va_P D vwCl (wR h cA S) H → va_S (aK keysRA h s.heap.size) s.heap H locs → lv_has ls 7 [(0, .ref (h 100)), (1, .int x1), (2, .int x2), (4, .int x4), (5, .int x5), (6, .int x6)] → W p l e rm_X5_kinds s m args below meth c H locs 0 0 Z (F0 m 43 ls [])) {x1 : Int32} {x2 : Int32} {x4 : Int32} {x5 : Int32} {x6 : Int32} {S : sT} {H : Heap} {locs : List Loc} {ls : Array Slot} (hP : va_P D vwCl (wR h cA S) H) (hS : va_S (aK keysRA h s.heap.size) s.heap H locs) (hd : wb_X5_kinds_43 Q K43 x1 x2 x4 x5 x6 S) (hl : lv_has ls 7 [(0, .ref (h 100)), (1, .int x1), (2, .int x2), (4, .int x4), (5, .int x5), (6, .int x6)]) : W p l e rm_X5_kinds s m args below meth c H locs 0 0 Z (F0 m 43 ls []) := by
  obtain ⟨⟨hx, hb, hml, hown, hts⟩, hK, -, -⟩ := id C0
  unfold wb_X5_kinds_43 at hd
  refine lv_iload hx hb dX5_kinds_43 (lv_at hl 5 rfl) ?_
  refine lv_bipush (v := 6) hx hb dX5_kinds_45 (by decide) ?_
  refine lv_icmp_ge (tgt := 89) hx hb dX5_kinds_47 (by decide) (fun hc => ?_) (fun hc => ?_)
  · have hd := hd.1 hc
    refine lv_aload_n hx hb dX5_kinds_89 rfl (lv_at hl 0 rfl) ?_
    refine gf_X5_29 C0 hP dX5_kinds_90 ?_
    refine lv_iload_n hx hb dX5_kinds_93 rfl (lv_at hl 1 rfl) ?_
    refine lv_iload hx hb dX5_kinds_94 (lv_at hl 3 rfl) ?_
    obtain ⟨h_1, hd⟩ := hd
    refine stR (by decide) C0 hP hS h_1 dX5_kinds_96 (fun H locs hP hS => ?_)
    refine lv_iload hx hb dX5_kinds_97 (lv_at hl 4 rfl) ?_
    exact hret _ _ _ _ _ _ hd hP hS dX5_kinds_99
  · have hd := hd.2 hc
    refine lv_aload_n hx hb dX5_kinds_50 rfl (lv_at hl 0 rfl) ?_
    refine gf_X5_29 C0 hP dX5_kinds_51 ?_
    refine lv_iload_n hx hb dX5_kinds_54 rfl (lv_at hl 1 rfl) ?_
    refine lv_iload hx hb dX5_kinds_55 (lv_at hl 5 rfl) ?_
    obtain ⟨h_2, hd⟩ := hd
    refine stR (by decide) C0 hP hS h_2 dX5_kinds_57 (fun H locs hP hS => ?_)
    refine lv_aload_n hx hb dX5_kinds_58 rfl (lv_at hl 0 rfl) ?_
    refine cl_Vv (n := 0) (rest := []) C0 hP hS (c_X5_layAside l C0.2.2.1 _ hd) (lwG_V lm_X5_213 li_X5_layAside lx_X5_layAside lz_RX5 lc_X5_layAside) (by decide +kernel) (oR_at h cA _) rfl rfl rfl (Nat.le_of_ble_eq_true rfl) ⟨rfl, rfl⟩ ⟨by decide, by decide⟩ dX5_kinds_59 hl.1 ⟨Nat.zero_le _, Nat.zero_le _⟩ (fun S_3 H locs hd hP hS => ?_)
    refine lv_iload hx hb dX5_kinds_62 (lv_at hl 4 rfl) ?_
    refine lv_aload_n hx hb dX5_kinds_64 rfl (lv_at hl 0 rfl) ?_
    refine lv_iload_n hx hb dX5_kinds_65 rfl (lv_at hl 2 rfl) ?_
    refine cl_Vi (n := 1) (rest := [.int x5]) C0 hP hS (c_X5_goesAs l C0.2.2.1 _ hd) (lwG_V lm_X5_245 li_X5_goesAs lx_X5_goesAs lz_RX5 lc_X5_goesAs) (by decide +kernel) (oR_at h cA _) rfl rfl rfl (Nat.le_of_ble_eq_true rfl) ⟨rfl, rfl⟩ ⟨by decide, by decide⟩ dX5_kinds_66 hl.1 ⟨Nat.zero_le _, Nat.zero_le _⟩ (fun r_4 S_4 H locs hd hP hS => ?_)
    refine lv_if_eq (tgt := 79) hx hb dX5_kinds_69 (by decide) (fun hc => ?_) (fun hc => ?_)
    · have hd := hd.1 hc
      refine lv_iconst (v := 0) hx hb dX5_kinds_79 (by decide) ?_
      exact bk_X5_kinds_80 C0 hret k43 hP hS hd (lv_sub hl [0, 1, 2, 3, 5] rfl)
    · have hd := hd.2 hc
      refine lv_iconst (v := 1) hx hb dX5_kinds_72 (by decide) ?_
      refine lv_iload hx hb dX5_kinds_73 (lv_at hl 5 rfl) ?_
      refine lv_ishl hx hb dX5_kinds_75 ?_
      refine lv_goto (tgt := 80) hx hb dX5_kinds_76 (by decide) ?_
      exact bk_X5_kinds_80 C0 hret k43 hP hS hd (lv_sub hl [0, 1, 2, 3, 5] rfl)
def wl_X5_kinds_43 (Q : Int32 → sT → Prop) : Nat → Int32 → Int32 → Int32 → Int32 → Int32 → sT → Prop
  | 0, _, _, _, _, _ => fun _ => False
  | n + 1, x1, x2, x4, x5, x6 => fun S => wb_X5_kinds_43 Q (fun x1 x2 x4 x5 x6 S => wl_X5_kinds_43 Q n x1 x2 x4 x5 x6 S) x1 x2 x4 x5 x6 S
theorem bl_X5_kinds_43 {p : Program} {l : Launch} {e : Env} {s : State} {m : MethodId} {args : Array Value} {below : List Frame} {meth : Method} {c : Code} {Z : State → Prop} {D : va_G} {cA : Nat → ClassId} {h : Nat → Nat} {Q : Int32 → sT → Prop} (C0 : cx p s m args c cX5_kinds 7 RX5 D cA false keysRA h) (hret : rtI p l e rm_X5_kinds s m args below meth c cX5_kinds Z D (wR h cA) (aK keysRA h s.heap.size) Q) : ∀ (n : Nat) (x1 : Int32) (x2 : Int32) (x4 : Int32) (x5 : Int32) (x6 : Int32) (S : sT) (H : Heap) (locs : List Loc) (ls : Array Slot), va_P D vwCl (wR h cA S) H → va_S (aK keysRA h s.heap.size) s.heap H locs → wl_X5_kinds_43 Q n x1 x2 x4 x5 x6 S → lv_has ls 7 [(0, .ref (h 100)), (1, .int x1), (2, .int x2), (4, .int x4), (5, .int x5), (6, .int x6)] → W p l e rm_X5_kinds s m args below meth c H locs 0 0 Z (F0 m 43 ls []) := by
  intro n
  induction n with
  | zero => intro x1 x2 x4 x5 x6 S H locs ls hP hS hd hl; exact (show False from hd).elim
  | succ n ih => intro x1 x2 x4 x5 x6 S H locs ls hP hS hd hl; exact bk_X5_kinds_43 C0 hret (fun x1 x2 x4 x5 x6 S H locs ls hd hP hS hl => ih x1 x2 x4 x5 x6 S H locs ls hP hS hd hl) hP hS hd hl
def wp_X5_kinds (x1 : Int32) (x2 : Int32) (S : sT) (Q : Int32 → sT → Prop) : Prop :=
  wp_X5_isOne x1 S (fun r_1 S_1 => ((r_1 = 0 → Q (-1 : Int32) S_1) ∧ (¬ r_1 = 0 → wp_X5_isRow x2 S_1 (fun r_2 S_2 => ((¬ r_2 = 0 → wp_X5_refusesRow x2 S_2 (fun r_3 S_3 => ((r_3 = 0 → (vp_in x1 6) ∧ ∃ n : Nat, wl_X5_kinds_43 Q n x1 x2 (vA S_3 12 x1.toNatClampNeg) (0 : Int32) (0 : Int32) S_3) ∧ (¬ r_3 = 0 → Q r_3 S_3)))) ∧ (r_2 = 0 → Q (-1 : Int32) S_2))))))
set_option maxHeartbeats 4000000 in
set_option maxRecDepth 100000 in
theorem bk_X5_kinds {p : Program} {l : Launch} {e : Env} {s : State} {m : MethodId} {args : Array Value} {below : List Frame} {meth : Method} {c : Code} {Z : State → Prop} {D : va_G} {cA : Nat → ClassId} {h : Nat → Nat} {Q : Int32 → sT → Prop} (C0 : cx p s m args c cX5_kinds 7 RX5 D cA false keysRA h) (hret : rtI p l e rm_X5_kinds s m args below meth c cX5_kinds Z D (wR h cA) (aK keysRA h s.heap.size) Q) {x1 : Int32} {x2 : Int32} {S : sT} {H : Heap} {locs : List Loc} {ls : Array Slot} (hP : va_P D vwCl (wR h cA S) H) (hS : va_S (aK keysRA h s.heap.size) s.heap H locs) (hd : wp_X5_kinds x1 x2 S Q) (hl : lv_has ls 7 [(0, .ref (h 100)), (1, .int x1), (2, .int x2)]) : W p l e rm_X5_kinds s m args below meth c H locs 0 0 Z (F0 m 0 ls []) := by
  obtain ⟨⟨hx, hb, hml, hown, hts⟩, hK, -, -⟩ := id C0
  unfold wp_X5_kinds at hd
  refine lv_aload_n hx hb dX5_kinds_0 rfl (lv_at hl 0 rfl) ?_
  refine lv_iload_n hx hb dX5_kinds_1 rfl (lv_at hl 1 rfl) ?_
  refine cl_Vi (n := 1) (rest := []) C0 hP hS (c_X5_isOne l C0.2.2.1 _ hd) (lwG_V lm_X5_176 li_X5_isOne lx_X5_isOne lz_RX5 lc_X5_isOne) (by decide +kernel) (oR_at h cA _) rfl rfl rfl (Nat.le_of_ble_eq_true rfl) ⟨rfl, rfl⟩ ⟨by decide, by decide⟩ dX5_kinds_2 hl.1 ⟨Nat.zero_le _, Nat.zero_le _⟩ (fun r_1 S_1 H locs hd hP hS => ?_)
  refine lv_if_eq (tgt := 15) hx hb dX5_kinds_5 (by decide) (fun hc => ?_) (fun hc => ?_)
  · have hd := hd.1 hc
    refine lv_iconst (v := (-1)) hx hb dX5_kinds_15 (by decide) ?_
    exact hret _ _ _ _ _ _ hd hP hS dX5_kinds_16
  · have hd := hd.2 hc
    refine lv_iload_n hx hb dX5_kinds_8 rfl (lv_at hl 2 rfl) ?_
    refine cl_Si (n := 1) (rest := []) C0 hP hS (c_X5_isRow l C0.2.2.1 _ hd) (lwG_S lm_X5_83 ls_X5_isRow lz_RX5 lc_X5_isRow) (by decide +kernel) rfl rfl (Nat.le_of_ble_eq_true rfl) ⟨rfl, rfl⟩ ⟨by decide, by decide⟩ dX5_kinds_9 hl.1 ⟨Nat.zero_le _, Nat.zero_le _⟩ (fun r_2 S_2 H locs hd hP hS => ?_)
    refine lv_if_ne (tgt := 17) hx hb dX5_kinds_12 (by decide) (fun hc => ?_) (fun hc => ?_)
    · have hd := hd.1 hc
      refine lv_aload_n hx hb dX5_kinds_17 rfl (lv_at hl 0 rfl) ?_
      refine lv_iload_n hx hb dX5_kinds_18 rfl (lv_at hl 2 rfl) ?_
      refine cl_Vi (n := 1) (rest := []) C0 hP hS (c_X5_refusesRow l C0.2.2.1 _ hd) (lwG_V lm_X5_242 li_X5_refusesRow lx_X5_refusesRow lz_RX5 lc_X5_refusesRow) (by decide +kernel) (oR_at h cA _) rfl rfl rfl (Nat.le_of_ble_eq_true rfl) ⟨rfl, rfl⟩ ⟨by decide, by decide⟩ dX5_kinds_19 hl.1 ⟨Nat.zero_le _, Nat.zero_le _⟩ (fun r_3 S_3 H locs hd hP hS => ?_)
      refine lv_istore_n (lv' := [(3, .int r_3), (0, .ref (h 100)), (1, .int x1), (2, .int x2)]) hx hb dX5_kinds_22 rfl hl (by decide) rfl (fun ls hl => ?_)
      refine lv_iload_n hx hb dX5_kinds_23 rfl (lv_at hl 0 rfl) ?_
      refine lv_if_eq (tgt := 29) hx hb dX5_kinds_24 (by decide) (fun hc => ?_) (fun hc => ?_)
      · have hd := hd.1 hc
        refine lv_aload_n hx hb dX5_kinds_29 rfl (lv_at hl 1 rfl) ?_
        refine gf_X5_29 C0 hP dX5_kinds_30 ?_
        refine lv_iload_n hx hb dX5_kinds_33 rfl (lv_at hl 2 rfl) ?_
        obtain ⟨h_4, hd⟩ := hd
        refine ldR (by decide) C0 hP h_4 dX5_kinds_34 ?_
        refine lv_istore (lv' := [(4, .int (vA S_3 12 x1.toNatClampNeg)), (3, .int r_3), (0, .ref (h 100)), (1, .int x1), (2, .int x2)]) hx hb dX5_kinds_35 hl (by decide) rfl (fun ls hl => ?_)
        refine lv_iconst (v := 0) hx hb dX5_kinds_37 (by decide) ?_
        refine lv_istore (lv' := [(5, .int (0 : Int32)), (4, .int (vA S_3 12 x1.toNatClampNeg)), (3, .int r_3), (0, .ref (h 100)), (1, .int x1), (2, .int x2)]) hx hb dX5_kinds_38 hl (by decide) rfl (fun ls hl => ?_)
        refine lv_iconst (v := 0) hx hb dX5_kinds_40 (by decide) ?_
        refine lv_istore (lv' := [(6, .int (0 : Int32)), (5, .int (0 : Int32)), (4, .int (vA S_3 12 x1.toNatClampNeg)), (3, .int r_3), (0, .ref (h 100)), (1, .int x1), (2, .int x2)]) hx hb dX5_kinds_41 hl (by decide) rfl (fun ls hl => ?_)
        obtain ⟨n_5, hd⟩ := hd
        exact bl_X5_kinds_43 C0 hret _ _ _ _ _ _ _ _ _ _ hP hS hd (lv_sub hl [4, 5, 6, 2, 1, 0] rfl)
      · have hd := hd.2 hc
        refine lv_iload_n hx hb dX5_kinds_27 rfl (lv_at hl 0 rfl) ?_
        exact hret _ _ _ _ _ _ hd hP hS dX5_kinds_28
    · have hd := hd.2 hc
      refine lv_iconst (v := (-1)) hx hb dX5_kinds_15 (by decide) ?_
      exact hret _ _ _ _ _ _ hd hP hS dX5_kinds_16
theorem c_X5_kinds (l : Launch) {D : va_G} {cA : Nat → ClassId} {h : Nat → Nat} (hk : ky keysRA h) {x1 : Int32} {x2 : Int32} {S : sT} (sz : Nat) {Q : Int32 → sT → Prop} (hd : wp_X5_kinds x1 x2 S Q) : Met l yX5_kinds (wsU yX5_kinds cX5_kinds 7 (some .int)) rm_X5_kinds (va_Pc [.ref (h 100), .int x1, .int x2] (gP D cA false keysRA h (wR h cA) S sz)) (va_Qi Q (wB D (wR h cA)) (aK keysRA h sz)) 0 0 (aK keysRA h sz) :=
  mk_i (by decide) hk (Nat.le_of_ble_eq_true rfl) (fun p e s m below meth c Z ls C0 hret hP hS hl => bk_X5_kinds C0 hret hP hS hd hl)
abbrev rm_X5_lay : Room := { frames := 2, cells := 0, slots := 0, locals := 45 }
def wp_X5_lay (x1 : Int32) (x2 : Int32) (x3 : Int32) (S : sT) (Q : Int32 → sT → Prop) : Prop :=
  wp_X5_isRow x1 S (fun r_1 S_1 => ((¬ r_1 = 0 → (vp_in x1 6) ∧ ((0 ≤ (vA S_1 1 x1.toNatClampNeg) → (vp_in x1 6) ∧ wp_X5_in x2.toInt64 (0 : Int64) (((vA S_1 1 x1.toNatClampNeg) - (1 : Int32)).toInt64) S_1 (fun r_4 S_4 => ((¬ r_4 = 0 → (vp_in (((40 : Int32) * x1) + x2) 240) ∧ (vp_in (((40 : Int32) * x1) + x2) 240) ∧ wp_X5_tell (vA S_4 0 (((40 : Int32) * x1) + x2).toNatClampNeg) (uA S_4 0 (upd (vA S_4 0) (((40 : Int32) * x1) + x2).toNatClampNeg x3)) (fun r_7 S_7 => Q r_7 S_7)) ∧ (r_4 = 0 → wp_X5_found (2 : Int32) S_4 (fun r_8 S_8 => Q r_8 S_8))))) ∧ (¬ 0 ≤ (vA S_1 1 x1.toNatClampNeg) → wp_X5_found (1 : Int32) S_1 (fun r_9 S_9 => Q r_9 S_9)))) ∧ (r_1 = 0 → Q (-1 : Int32) S_1)))
set_option maxHeartbeats 4000000 in
set_option maxRecDepth 100000 in
theorem bk_X5_lay {p : Program} {l : Launch} {e : Env} {s : State} {m : MethodId} {args : Array Value} {below : List Frame} {meth : Method} {c : Code} {Z : State → Prop} {D : va_G} {cA : Nat → ClassId} {h : Nat → Nat} {Q : Int32 → sT → Prop} (C0 : cx p s m args c cX5_lay 5 RX5 D cA false keysRA h) (hret : rtI p l e rm_X5_lay s m args below meth c cX5_lay Z D (wR h cA) (aK keysRA h s.heap.size) Q) {x1 : Int32} {x2 : Int32} {x3 : Int32} {S : sT} {H : Heap} {locs : List Loc} {ls : Array Slot} (hP : va_P D vwCl (wR h cA S) H) (hS : va_S (aK keysRA h s.heap.size) s.heap H locs) (hd : wp_X5_lay x1 x2 x3 S Q) (hl : lv_has ls 5 [(0, .ref (h 100)), (1, .int x1), (2, .int x2), (3, .int x3)]) : W p l e rm_X5_lay s m args below meth c H locs 0 0 Z (F0 m 0 ls []) := by
  obtain ⟨⟨hx, hb, hml, hown, hts⟩, hK, -, -⟩ := id C0
  unfold wp_X5_lay at hd
  refine lv_iload_n hx hb dX5_lay_0 rfl (lv_at hl 1 rfl) ?_
  refine cl_Si (n := 1) (rest := []) C0 hP hS (c_X5_isRow l C0.2.2.1 _ hd) (lwG_S lm_X5_83 ls_X5_isRow lz_RX5 lc_X5_isRow) (by decide +kernel) rfl rfl (Nat.le_of_ble_eq_true rfl) ⟨rfl, rfl⟩ ⟨by decide, by decide⟩ dX5_lay_1 hl.1 ⟨Nat.zero_le _, Nat.zero_le _⟩ (fun r_1 S_1 H locs hd hP hS => ?_)
  refine lv_if_ne (tgt := 9) hx hb dX5_lay_4 (by decide) (fun hc => ?_) (fun hc => ?_)
  · have hd := hd.1 hc
    refine lv_aload_n hx hb dX5_lay_9 rfl (lv_at hl 0 rfl) ?_
    refine gf_X5_13 C0 hP dX5_lay_10 ?_
    refine lv_iload_n hx hb dX5_lay_13 rfl (lv_at hl 1 rfl) ?_
    obtain ⟨h_2, hd⟩ := hd
    refine ldR (by decide) C0 hP h_2 dX5_lay_14 ?_
    refine lv_if_ge (tgt := 24) hx hb dX5_lay_15 (by decide) (fun hc => ?_) (fun hc => ?_)
    · have hd := hd.1 hc
      refine lv_iload_n hx hb dX5_lay_24 rfl (lv_at hl 2 rfl) ?_
      refine lv_i2l hx hb dX5_lay_25 rfl ?_
      refine lv_lconst (v := 0) hx hb dX5_lay_26 (by decide) ?_
      refine lv_aload_n hx hb dX5_lay_27 rfl (lv_at hl 0 rfl) ?_
      refine gf_X5_13 C0 hP dX5_lay_28 ?_
      refine lv_iload_n hx hb dX5_lay_31 rfl (lv_at hl 1 rfl) ?_
      obtain ⟨h_3, hd⟩ := hd
      refine ldR (by decide) C0 hP h_3 dX5_lay_32 ?_
      refine lv_iconst (v := 1) hx hb dX5_lay_33 (by decide) ?_
      refine lv_isub hx hb dX5_lay_34 ?_
      refine lv_i2l hx hb dX5_lay_35 rfl ?_
      refine cl_Si (n := 3) (rest := []) C0 hP hS (c_X5_in l C0.2.2.1 _ hd) (lwG_S lm_X5_77 ls_X5_in lz_RX5 lc_X5_in) (by decide +kernel) rfl rfl (Nat.le_of_ble_eq_true rfl) ⟨rfl, rfl⟩ ⟨by decide, by decide⟩ dX5_lay_36 hl.1 ⟨Nat.zero_le _, Nat.zero_le _⟩ (fun r_4 S_4 H locs hd hP hS => ?_)
      refine lv_if_ne (tgt := 48) hx hb dX5_lay_39 (by decide) (fun hc => ?_) (fun hc => ?_)
      · have hd := hd.1 hc
        refine lv_aload_n hx hb dX5_lay_48 rfl (lv_at hl 0 rfl) ?_
        refine gf_X5_7 C0 hP dX5_lay_49 ?_
        refine lv_bipush (v := 40) hx hb dX5_lay_52 (by decide) ?_
        refine lv_iload_n hx hb dX5_lay_54 rfl (lv_at hl 1 rfl) ?_
        refine lv_imul hx hb dX5_lay_55 ?_
        refine lv_iload_n hx hb dX5_lay_56 rfl (lv_at hl 2 rfl) ?_
        refine lv_iadd hx hb dX5_lay_57 ?_
        obtain ⟨h_5, hd⟩ := hd
        refine ldR (by decide) C0 hP h_5 dX5_lay_58 ?_
        refine lv_istore (lv' := [(4, .int (vA S_4 0 (((40 : Int32) * x1) + x2).toNatClampNeg)), (0, .ref (h 100)), (1, .int x1), (2, .int x2), (3, .int x3)]) hx hb dX5_lay_59 hl (by decide) rfl (fun ls hl => ?_)
        refine lv_aload_n hx hb dX5_lay_61 rfl (lv_at hl 1 rfl) ?_
        refine gf_X5_7 C0 hP dX5_lay_62 ?_
        refine lv_bipush (v := 40) hx hb dX5_lay_65 (by decide) ?_
        refine lv_iload_n hx hb dX5_lay_67 rfl (lv_at hl 2 rfl) ?_
        refine lv_imul hx hb dX5_lay_68 ?_
        refine lv_iload_n hx hb dX5_lay_69 rfl (lv_at hl 3 rfl) ?_
        refine lv_iadd hx hb dX5_lay_70 ?_
        refine lv_iload_n hx hb dX5_lay_71 rfl (lv_at hl 4 rfl) ?_
        obtain ⟨h_6, hd⟩ := hd
        refine stR (by decide) C0 hP hS h_6 dX5_lay_72 (fun H locs hP hS => ?_)
        refine lv_aload_n hx hb dX5_lay_73 rfl (lv_at hl 1 rfl) ?_
        refine lv_iload hx hb dX5_lay_74 (lv_at hl 0 rfl) ?_
        refine cl_Vi (n := 1) (rest := []) C0 hP hS (c_X5_tell l C0.2.2.1 _ hd) (lwG_V lm_X5_91 li_X5_tell lx_X5_tell lz_RX5 lc_X5_tell) (by decide +kernel) (oR_at h cA _) rfl rfl rfl (Nat.le_of_ble_eq_true rfl) ⟨rfl, rfl⟩ ⟨by decide, by decide⟩ dX5_lay_76 hl.1 ⟨Nat.zero_le _, Nat.zero_le _⟩ (fun r_7 S_7 H locs hd hP hS => ?_)
        exact hret _ _ _ _ _ _ hd hP hS dX5_lay_79
      · have hd := hd.2 hc
        refine lv_aload_n hx hb dX5_lay_42 rfl (lv_at hl 0 rfl) ?_
        refine lv_iconst (v := 2) hx hb dX5_lay_43 (by decide) ?_
        refine cl_Vi (n := 1) (rest := []) C0 hP hS (c_X5_found l C0.2.2.1 _ hd) (lwG_V lm_X5_87 li_X5_found lx_X5_found lz_RX5 lc_X5_found) (by decide +kernel) (oR_at h cA _) rfl rfl rfl (Nat.le_of_ble_eq_true rfl) ⟨rfl, rfl⟩ ⟨by decide, by decide⟩ dX5_lay_44 hl.1 ⟨Nat.zero_le _, Nat.zero_le _⟩ (fun r_8 S_8 H locs hd hP hS => ?_)
        exact hret _ _ _ _ _ _ hd hP hS dX5_lay_47
    · have hd := hd.2 hc
      refine lv_aload_n hx hb dX5_lay_18 rfl (lv_at hl 0 rfl) ?_
      refine lv_iconst (v := 1) hx hb dX5_lay_19 (by decide) ?_
      refine cl_Vi (n := 1) (rest := []) C0 hP hS (c_X5_found l C0.2.2.1 _ hd) (lwG_V lm_X5_87 li_X5_found lx_X5_found lz_RX5 lc_X5_found) (by decide +kernel) (oR_at h cA _) rfl rfl rfl (Nat.le_of_ble_eq_true rfl) ⟨rfl, rfl⟩ ⟨by decide, by decide⟩ dX5_lay_20 hl.1 ⟨Nat.zero_le _, Nat.zero_le _⟩ (fun r_9 S_9 H locs hd hP hS => ?_)
      exact hret _ _ _ _ _ _ hd hP hS dX5_lay_23
  · have hd := hd.2 hc
    refine lv_iconst (v := (-1)) hx hb dX5_lay_7 (by decide) ?_
    exact hret _ _ _ _ _ _ hd hP hS dX5_lay_8
theorem c_X5_lay (l : Launch) {D : va_G} {cA : Nat → ClassId} {h : Nat → Nat} (hk : ky keysRA h) {x1 : Int32} {x2 : Int32} {x3 : Int32} {S : sT} (sz : Nat) {Q : Int32 → sT → Prop} (hd : wp_X5_lay x1 x2 x3 S Q) : Met l yX5_lay (wsU yX5_lay cX5_lay 5 (some .int)) rm_X5_lay (va_Pc [.ref (h 100), .int x1, .int x2, .int x3] (gP D cA false keysRA h (wR h cA) S sz)) (va_Qi Q (wB D (wR h cA)) (aK keysRA h sz)) 0 0 (aK keysRA h sz) :=
  mk_i (by decide) hk (Nat.le_of_ble_eq_true rfl) (fun p e s m below meth c Z ls C0 hret hP hS hl => bk_X5_lay C0 hret hP hS hd hl)
abbrev rm_X5_line : Room := { frames := 5, cells := 0, slots := 0, locals := 112 }
def wb_X5_line_63 (Q : Int32 → sT → Prop) (K63 : Int32 → sT → Prop) (x2 : Int32) (S : sT) : Prop :=
  (((6 : Int32) ≤ x2 → wp_X5_begins S (fun S_1 => Q (vI S_1 9) S_1)) ∧ (¬ (6 : Int32) ≤ x2 → (vp_in x2 6) ∧ (vp_in x2 6) ∧ (vp_in x2 6) ∧ (vp_in x2 6) ∧ ∀ S_6 : sT, S_6 = uA (uA S 12 (upd (vA S 12) x2.toNatClampNeg (vA S 26 x2.toNatClampNeg))) 13 (upd (vA (uA S 12 (upd (vA S 12) x2.toNatClampNeg (vA S 26 x2.toNatClampNeg))) 13) x2.toNatClampNeg (vA (uA S 12 (upd (vA S 12) x2.toNatClampNeg (vA S 26 x2.toNatClampNeg))) 27 x2.toNatClampNeg)) → (vp_in x2 6) ∧ (vp_in ((3 : Int32) + x2) 9) ∧ K63 (x2 + (1 : Int32)) (uA S_6 14 (upd (vA S_6 14) ((3 : Int32) + x2).toNatClampNeg (vA S_6 28 x2.toNatClampNeg)))))
set_option maxHeartbeats 4000000 in
set_option maxRecDepth 100000 in
theorem bk_X5_line_63 {p : Program} {l : Launch} {e : Env} {s : State} {m : MethodId} {args : Array Value} {below : List Frame} {meth : Method} {c : Code} {Z : State → Prop} {D : va_G} {cA : Nat → ClassId} {h : Nat → Nat} {Q : Int32 → sT → Prop} (C0 : cx p s m args c cX5_line 3 RX5 D cA false keysRA h) (hret : rtI p l e rm_X5_line s m args below meth c cX5_line Z D (wR h cA) (aK keysRA h s.heap.size) Q) {K63 : Int32 → sT → Prop} (k63 : ∀ (x2 : Int32) (S : sT) (H : Heap) (locs : List Loc) (ls : Array Slot), K63 x2 S → va_P D vwCl (wR h cA S) H → va_S (aK keysRA h s.heap.size) s.heap H locs → lv_has ls 3 [(0, .ref (h 100)), (2, .int x2)] → W p l e rm_X5_line s m args below meth c H locs 0 0 Z (F0 m 63 ls [])) {x2 : Int32} {S : sT} {H : Heap} {locs : List Loc} {ls : Array Slot} (hP : va_P D vwCl (wR h cA S) H) (hS : va_S (aK keysRA h s.heap.size) s.heap H locs) (hd : wb_X5_line_63 Q K63 x2 S) (hl : lv_has ls 3 [(0, .ref (h 100)), (2, .int x2)]) : W p l e rm_X5_line s m args below meth c H locs 0 0 Z (F0 m 63 ls []) := by
  obtain ⟨⟨hx, hb, hml, hown, hts⟩, hK, -, -⟩ := id C0
  unfold wb_X5_line_63 at hd
  refine lv_iload_n hx hb dX5_line_63 rfl (lv_at hl 1 rfl) ?_
  refine lv_bipush (v := 6) hx hb dX5_line_64 (by decide) ?_
  refine lv_icmp_ge (tgt := 113) hx hb dX5_line_66 (by decide) (fun hc => ?_) (fun hc => ?_)
  · have hd := hd.1 hc
    refine lv_aload_n hx hb dX5_line_113 rfl (lv_at hl 0 rfl) ?_
    refine cl_Vv (n := 0) (rest := []) C0 hP hS (c_X5_begins l C0.2.2.1 _ hd) (lwG_V lm_X5_65 li_X5_begins lx_X5_begins lz_RX5 lc_X5_begins) (by decide +kernel) (oR_at h cA _) rfl rfl rfl (Nat.le_of_ble_eq_true rfl) ⟨rfl, rfl⟩ ⟨by decide, by decide⟩ dX5_line_114 hl.1 ⟨Nat.zero_le _, Nat.zero_le _⟩ (fun S_1 H locs hd hP hS => ?_)
    refine lv_aload_n hx hb dX5_line_117 rfl (lv_at hl 0 rfl) ?_
    refine gf_X5_97 C0 hP dX5_line_118 ?_
    exact hret _ _ _ _ _ _ hd hP hS dX5_line_121
  · have hd := hd.2 hc
    refine lv_aload_n hx hb dX5_line_69 rfl (lv_at hl 0 rfl) ?_
    refine gf_X5_29 C0 hP dX5_line_70 ?_
    refine lv_iload_n hx hb dX5_line_73 rfl (lv_at hl 1 rfl) ?_
    refine lv_aload_n hx hb dX5_line_74 rfl (lv_at hl 0 rfl) ?_
    refine gf_X5_47 C0 hP dX5_line_75 ?_
    refine lv_iload_n hx hb dX5_line_78 rfl (lv_at hl 1 rfl) ?_
    obtain ⟨h_2, hd⟩ := hd
    refine ldR (by decide) C0 hP h_2 dX5_line_79 ?_
    obtain ⟨h_3, hd⟩ := hd
    refine stR (by decide) C0 hP hS h_3 dX5_line_80 (fun H locs hP hS => ?_)
    refine lv_aload_n hx hb dX5_line_81 rfl (lv_at hl 0 rfl) ?_
    refine gf_X5_32 C0 hP dX5_line_82 ?_
    refine lv_iload_n hx hb dX5_line_85 rfl (lv_at hl 1 rfl) ?_
    refine lv_aload_n hx hb dX5_line_86 rfl (lv_at hl 0 rfl) ?_
    refine gf_X5_50 C0 hP dX5_line_87 ?_
    refine lv_iload_n hx hb dX5_line_90 rfl (lv_at hl 1 rfl) ?_
    obtain ⟨h_4, hd⟩ := hd
    refine ldR (by decide) C0 hP h_4 dX5_line_91 ?_
    obtain ⟨h_5, hd⟩ := hd
    refine stR (by decide) C0 hP hS h_5 dX5_line_92 (fun H locs hP hS => ?_)
    obtain ⟨S_6, eS_6⟩ : ∃ x : sT, x = uA (uA S 12 (upd (vA S 12) x2.toNatClampNeg (vA S 26 x2.toNatClampNeg))) 13 (upd (vA (uA S 12 (upd (vA S 12) x2.toNatClampNeg (vA S 26 x2.toNatClampNeg))) 13) x2.toNatClampNeg (vA (uA S 12 (upd (vA S 12) x2.toNatClampNeg (vA S 26 x2.toNatClampNeg))) 27 x2.toNatClampNeg)) := ⟨_, rfl⟩
    rw [← eS_6] at hP
    have hd := hd S_6 eS_6
    refine lv_aload_n hx hb dX5_line_93 rfl (lv_at hl 0 rfl) ?_
    refine gf_X5_35 C0 hP dX5_line_94 ?_
    refine lv_iconst (v := 3) hx hb dX5_line_97 (by decide) ?_
    refine lv_iload_n hx hb dX5_line_98 rfl (lv_at hl 1 rfl) ?_
    refine lv_iadd hx hb dX5_line_99 ?_
    refine lv_aload_n hx hb dX5_line_100 rfl (lv_at hl 0 rfl) ?_
    refine gf_X5_53 C0 hP dX5_line_101 ?_
    refine lv_iload_n hx hb dX5_line_104 rfl (lv_at hl 1 rfl) ?_
    obtain ⟨h_7, hd⟩ := hd
    refine ldR (by decide) C0 hP h_7 dX5_line_105 ?_
    obtain ⟨h_8, hd⟩ := hd
    refine stR (by decide) C0 hP hS h_8 dX5_line_106 (fun H locs hP hS => ?_)
    refine lv_iinc (v := x2 + (1 : Int32)) (lv' := [(2, .int (x2 + (1 : Int32))), (0, .ref (h 100))]) hx hb dX5_line_107 hl (k := 1) rfl rfl (by decide) rfl (fun ls hl => ?_)
    refine lv_goto (tgt := 63) hx hb dX5_line_110 (by decide) ?_
    exact k63 _ _ _ _ _ hd hP hS (lv_sub hl [1, 0] rfl)
def wl_X5_line_63 (Q : Int32 → sT → Prop) : Nat → Int32 → sT → Prop
  | 0, _ => fun _ => False
  | n + 1, x2 => fun S => wb_X5_line_63 Q (fun x2 S => wl_X5_line_63 Q n x2 S) x2 S
theorem bl_X5_line_63 {p : Program} {l : Launch} {e : Env} {s : State} {m : MethodId} {args : Array Value} {below : List Frame} {meth : Method} {c : Code} {Z : State → Prop} {D : va_G} {cA : Nat → ClassId} {h : Nat → Nat} {Q : Int32 → sT → Prop} (C0 : cx p s m args c cX5_line 3 RX5 D cA false keysRA h) (hret : rtI p l e rm_X5_line s m args below meth c cX5_line Z D (wR h cA) (aK keysRA h s.heap.size) Q) : ∀ (n : Nat) (x2 : Int32) (S : sT) (H : Heap) (locs : List Loc) (ls : Array Slot), va_P D vwCl (wR h cA S) H → va_S (aK keysRA h s.heap.size) s.heap H locs → wl_X5_line_63 Q n x2 S → lv_has ls 3 [(0, .ref (h 100)), (2, .int x2)] → W p l e rm_X5_line s m args below meth c H locs 0 0 Z (F0 m 63 ls []) := by
  intro n
  induction n with
  | zero => intro x2 S H locs ls hP hS hd hl; exact (show False from hd).elim
  | succ n ih => intro x2 S H locs ls hP hS hd hl; exact bk_X5_line_63 C0 hret (fun x2 S H locs ls hd hP hS hl => ih x2 S H locs ls hP hS hd hl) hP hS hd hl
def wp_X5_line (x1 : Int32) (S : sT) (Q : Int32 → sT → Prop) : Prop :=
  wp_X5_isText x1 S (fun r_1 S_1 => ((¬ r_1 = 0 → (vp_in x1 4) ∧ ((0 ≤ (vA S_1 3 x1.toNatClampNeg) → wp_X5_reads x1 S_1 (fun r_3 S_3 => ((r_3 = (-9 : Int32) → ∀ S_4 : sT, S_4 = uI (uI (uI S_3 9 (vI S_3 25)) 10 (vI (uI S_3 9 (vI S_3 25)) 23)) 11 (vI (uI (uI S_3 9 (vI S_3 25)) 10 (vI (uI S_3 9 (vI S_3 25)) 23)) 24) → ∃ n : Nat, wl_X5_line_63 Q n (0 : Int32) S_4) ∧ (¬ r_3 = (-9 : Int32) → Q (-4 : Int32) S_3)))) ∧ (¬ 0 ≤ (vA S_1 3 x1.toNatClampNeg) → wp_X5_found (1 : Int32) S_1 (fun r_6 S_6 => Q r_6 S_6)))) ∧ (r_1 = 0 → Q (-1 : Int32) S_1)))
set_option maxHeartbeats 4000000 in
set_option maxRecDepth 100000 in
theorem bk_X5_line {p : Program} {l : Launch} {e : Env} {s : State} {m : MethodId} {args : Array Value} {below : List Frame} {meth : Method} {c : Code} {Z : State → Prop} {D : va_G} {cA : Nat → ClassId} {h : Nat → Nat} {Q : Int32 → sT → Prop} (C0 : cx p s m args c cX5_line 3 RX5 D cA false keysRA h) (hret : rtI p l e rm_X5_line s m args below meth c cX5_line Z D (wR h cA) (aK keysRA h s.heap.size) Q) {x1 : Int32} {S : sT} {H : Heap} {locs : List Loc} {ls : Array Slot} (hP : va_P D vwCl (wR h cA S) H) (hS : va_S (aK keysRA h s.heap.size) s.heap H locs) (hd : wp_X5_line x1 S Q) (hl : lv_has ls 3 [(0, .ref (h 100)), (1, .int x1)]) : W p l e rm_X5_line s m args below meth c H locs 0 0 Z (F0 m 0 ls []) := by
  obtain ⟨⟨hx, hb, hml, hown, hts⟩, hK, -, -⟩ := id C0
  unfold wp_X5_line at hd
  refine lv_iload_n hx hb dX5_line_0 rfl (lv_at hl 1 rfl) ?_
  refine cl_Si (n := 1) (rest := []) C0 hP hS (c_X5_isText l C0.2.2.1 _ hd) (lwG_S lm_X5_94 ls_X5_isText lz_RX5 lc_X5_isText) (by decide +kernel) rfl rfl (Nat.le_of_ble_eq_true rfl) ⟨rfl, rfl⟩ ⟨by decide, by decide⟩ dX5_line_1 hl.1 ⟨Nat.zero_le _, Nat.zero_le _⟩ (fun r_1 S_1 H locs hd hP hS => ?_)
  refine lv_if_ne (tgt := 9) hx hb dX5_line_4 (by decide) (fun hc => ?_) (fun hc => ?_)
  · have hd := hd.1 hc
    refine lv_aload_n hx hb dX5_line_9 rfl (lv_at hl 0 rfl) ?_
    refine gf_X5_19 C0 hP dX5_line_10 ?_
    refine lv_iload_n hx hb dX5_line_13 rfl (lv_at hl 1 rfl) ?_
    obtain ⟨h_2, hd⟩ := hd
    refine ldR (by decide) C0 hP h_2 dX5_line_14 ?_
    refine lv_if_ge (tgt := 24) hx hb dX5_line_15 (by decide) (fun hc => ?_) (fun hc => ?_)
    · have hd := hd.1 hc
      refine lv_aload_n hx hb dX5_line_24 rfl (lv_at hl 0 rfl) ?_
      refine lv_iload_n hx hb dX5_line_25 rfl (lv_at hl 1 rfl) ?_
      refine cl_Vi (n := 1) (rest := []) C0 hP hS (c_X5_reads l C0.2.2.1 _ hd) (lwG_V lm_X5_152 li_X5_reads lx_X5_reads lz_RX5 lc_X5_reads) (by decide +kernel) (oR_at h cA _) rfl rfl rfl (Nat.le_of_ble_eq_true rfl) ⟨rfl, rfl⟩ ⟨by decide, by decide⟩ dX5_line_26 hl.1 ⟨Nat.zero_le _, Nat.zero_le _⟩ (fun r_3 S_3 H locs hd hP hS => ?_)
      refine lv_bipush (v := (-9)) hx hb dX5_line_29 (by decide) ?_
      refine lv_icmp_eq (tgt := 37) hx hb dX5_line_31 (by decide) (fun hc => ?_) (fun hc => ?_)
      · have hd := hd.1 hc
        refine lv_aload_n hx hb dX5_line_37 rfl (lv_at hl 0 rfl) ?_
        refine lv_aload_n hx hb dX5_line_38 rfl (lv_at hl 0 rfl) ?_
        refine gf_X5_143 C0 hP dX5_line_39 ?_
        refine pf_X5_97 C0 hP hS dX5_line_42 (fun H locs hP hS => ?_)
        refine lv_aload_n hx hb dX5_line_45 rfl (lv_at hl 0 rfl) ?_
        refine lv_aload_n hx hb dX5_line_46 rfl (lv_at hl 0 rfl) ?_
        refine gf_X5_134 C0 hP dX5_line_47 ?_
        refine pf_X5_155 C0 hP hS dX5_line_50 (fun H locs hP hS => ?_)
        refine lv_aload_n hx hb dX5_line_53 rfl (lv_at hl 0 rfl) ?_
        refine lv_aload_n hx hb dX5_line_54 rfl (lv_at hl 0 rfl) ?_
        refine gf_X5_137 C0 hP dX5_line_55 ?_
        refine pf_X5_158 C0 hP hS dX5_line_58 (fun H locs hP hS => ?_)
        obtain ⟨S_4, eS_4⟩ : ∃ x : sT, x = uI (uI (uI S_3 9 (vI S_3 25)) 10 (vI (uI S_3 9 (vI S_3 25)) 23)) 11 (vI (uI (uI S_3 9 (vI S_3 25)) 10 (vI (uI S_3 9 (vI S_3 25)) 23)) 24) := ⟨_, rfl⟩
        rw [← eS_4] at hP
        have hd := hd S_4 eS_4
        refine lv_iconst (v := 0) hx hb dX5_line_61 (by decide) ?_
        refine lv_istore_n (lv' := [(2, .int (0 : Int32)), (0, .ref (h 100)), (1, .int x1)]) hx hb dX5_line_62 rfl hl (by decide) rfl (fun ls hl => ?_)
        obtain ⟨n_5, hd⟩ := hd
        exact bl_X5_line_63 C0 hret _ _ _ _ _ _ hP hS hd (lv_sub hl [1, 0] rfl)
      · have hd := hd.2 hc
        refine lv_bipush (v := (-4)) hx hb dX5_line_34 (by decide) ?_
        exact hret _ _ _ _ _ _ hd hP hS dX5_line_36
    · have hd := hd.2 hc
      refine lv_aload_n hx hb dX5_line_18 rfl (lv_at hl 0 rfl) ?_
      refine lv_iconst (v := 1) hx hb dX5_line_19 (by decide) ?_
      refine cl_Vi (n := 1) (rest := []) C0 hP hS (c_X5_found l C0.2.2.1 _ hd) (lwG_V lm_X5_87 li_X5_found lx_X5_found lz_RX5 lc_X5_found) (by decide +kernel) (oR_at h cA _) rfl rfl rfl (Nat.le_of_ble_eq_true rfl) ⟨rfl, rfl⟩ ⟨by decide, by decide⟩ dX5_line_20 hl.1 ⟨Nat.zero_le _, Nat.zero_le _⟩ (fun r_6 S_6 H locs hd hP hS => ?_)
      exact hret _ _ _ _ _ _ hd hP hS dX5_line_23
  · have hd := hd.2 hc
    refine lv_iconst (v := (-1)) hx hb dX5_line_7 (by decide) ?_
    exact hret _ _ _ _ _ _ hd hP hS dX5_line_8
theorem c_X5_line (l : Launch) {D : va_G} {cA : Nat → ClassId} {h : Nat → Nat} (hk : ky keysRA h) {x1 : Int32} {S : sT} (sz : Nat) {Q : Int32 → sT → Prop} (hd : wp_X5_line x1 S Q) : Met l yX5_line (wsU yX5_line cX5_line 3 (some .int)) rm_X5_line (va_Pc [.ref (h 100), .int x1] (gP D cA false keysRA h (wR h cA) S sz)) (va_Qi Q (wB D (wR h cA)) (aK keysRA h sz)) 0 0 (aK keysRA h sz) :=
  mk_i (by decide) hk (Nat.le_of_ble_eq_true rfl) (fun p e s m below meth c Z ls C0 hret hP hS hl => bk_X5_line C0 hret hP hS hd hl)
abbrev rm_X5_look : Room := { frames := 5, cells := 0, slots := 0, locals := 115 }
def wb_X5_look_39 (Q : Int32 → sT → Prop) (K19 : Int32 → Int32 → Int32 → sT → Prop) (K39 : Int32 → Int32 → Int32 → Int32 → sT → Prop) (x1 : Int32) (x2 : Int32) (x3 : Int32) (x4 : Int32) (S : sT) : Prop :=
  (((20 : Int32) ≤ x4 → K19 x1 x2 (x3 + (1 : Int32)) S) ∧ (¬ (20 : Int32) ≤ x4 → wp_X5_placeBehind (1 : Int32) S (fun r_1 S_1 => (vp_in (((20 : Int32) * x3) + x4) 120) ∧ K39 x1 x2 x3 (x4 + (1 : Int32)) (uA S_1 29 (upd (vA S_1 29) (((20 : Int32) * x3) + x4).toNatClampNeg r_1)))))
set_option maxHeartbeats 4000000 in
set_option maxRecDepth 100000 in
theorem bk_X5_look_39 {p : Program} {l : Launch} {e : Env} {s : State} {m : MethodId} {args : Array Value} {below : List Frame} {meth : Method} {c : Code} {Z : State → Prop} {D : va_G} {cA : Nat → ClassId} {h : Nat → Nat} {Q : Int32 → sT → Prop} (C0 : cx p s m args c cX5_look 10 RX5 D cA false keysRA h) (hret : rtI p l e rm_X5_look s m args below meth c cX5_look Z D (wR h cA) (aK keysRA h s.heap.size) Q) {K19 : Int32 → Int32 → Int32 → sT → Prop} {K39 : Int32 → Int32 → Int32 → Int32 → sT → Prop} (k19 : ∀ (x1 : Int32) (x2 : Int32) (x3 : Int32) (S : sT) (H : Heap) (locs : List Loc) (ls : Array Slot), K19 x1 x2 x3 S → va_P D vwCl (wR h cA S) H → va_S (aK keysRA h s.heap.size) s.heap H locs → lv_has ls 10 [(0, .ref (h 100)), (1, .int x1), (2, .int x2), (3, .int x3)] → W p l e rm_X5_look s m args below meth c H locs 0 0 Z (F0 m 19 ls [])) (k39 : ∀ (x1 : Int32) (x2 : Int32) (x3 : Int32) (x4 : Int32) (S : sT) (H : Heap) (locs : List Loc) (ls : Array Slot), K39 x1 x2 x3 x4 S → va_P D vwCl (wR h cA S) H → va_S (aK keysRA h s.heap.size) s.heap H locs → lv_has ls 10 [(0, .ref (h 100)), (1, .int x1), (2, .int x2), (3, .int x3), (4, .int x4)] → W p l e rm_X5_look s m args below meth c H locs 0 0 Z (F0 m 39 ls [])) {x1 : Int32} {x2 : Int32} {x3 : Int32} {x4 : Int32} {S : sT} {H : Heap} {locs : List Loc} {ls : Array Slot} (hP : va_P D vwCl (wR h cA S) H) (hS : va_S (aK keysRA h s.heap.size) s.heap H locs) (hd : wb_X5_look_39 Q K19 K39 x1 x2 x3 x4 S) (hl : lv_has ls 10 [(0, .ref (h 100)), (1, .int x1), (2, .int x2), (3, .int x3), (4, .int x4)]) : W p l e rm_X5_look s m args below meth c H locs 0 0 Z (F0 m 39 ls []) := by
  obtain ⟨⟨hx, hb, hml, hown, hts⟩, hK, -, -⟩ := id C0
  unfold wb_X5_look_39 at hd
  refine lv_iload hx hb dX5_look_39 (lv_at hl 4 rfl) ?_
  refine lv_bipush (v := 20) hx hb dX5_look_41 (by decide) ?_
  refine lv_icmp_ge (tgt := 69) hx hb dX5_look_43 (by decide) (fun hc => ?_) (fun hc => ?_)
  · have hd := hd.1 hc
    refine lv_iinc (v := x3 + (1 : Int32)) (lv' := [(3, .int (x3 + (1 : Int32))), (0, .ref (h 100)), (1, .int x1), (2, .int x2), (4, .int x4)]) hx hb dX5_look_69 hl (k := 3) rfl rfl (by decide) rfl (fun ls hl => ?_)
    refine lv_goto (tgt := 19) hx hb dX5_look_72 (by decide) ?_
    exact k19 _ _ _ _ _ _ _ hd hP hS (lv_sub hl [1, 2, 3, 0] rfl)
  · have hd := hd.2 hc
    refine lv_aload_n hx hb dX5_look_46 rfl (lv_at hl 0 rfl) ?_
    refine gf_X5_56 C0 hP dX5_look_47 ?_
    refine lv_bipush (v := 20) hx hb dX5_look_50 (by decide) ?_
    refine lv_iload_n hx hb dX5_look_52 rfl (lv_at hl 3 rfl) ?_
    refine lv_imul hx hb dX5_look_53 ?_
    refine lv_iload hx hb dX5_look_54 (lv_at hl 4 rfl) ?_
    refine lv_iadd hx hb dX5_look_56 ?_
    refine lv_aload_n hx hb dX5_look_57 rfl (lv_at hl 0 rfl) ?_
    refine lv_iconst (v := 1) hx hb dX5_look_58 (by decide) ?_
    refine cl_Vi (n := 1) (rest := [.int (((20 : Int32) * x3) + x4), .ref (h 29)]) C0 hP hS (c_X5_placeBehind l C0.2.2.1 _ hd) (lwG_V lm_X5_225 li_X5_placeBehind lx_X5_placeBehind lz_RX5 lc_X5_placeBehind) (by decide +kernel) (oR_at h cA _) rfl rfl rfl (Nat.le_of_ble_eq_true rfl) ⟨rfl, rfl⟩ ⟨by decide, by decide⟩ dX5_look_59 hl.1 ⟨Nat.zero_le _, Nat.zero_le _⟩ (fun r_1 S_1 H locs hd hP hS => ?_)
    obtain ⟨h_2, hd⟩ := hd
    refine stR (by decide) C0 hP hS h_2 dX5_look_62 (fun H locs hP hS => ?_)
    refine lv_iinc (v := x4 + (1 : Int32)) (lv' := [(4, .int (x4 + (1 : Int32))), (0, .ref (h 100)), (1, .int x1), (2, .int x2), (3, .int x3)]) hx hb dX5_look_63 hl (k := 4) rfl rfl (by decide) rfl (fun ls hl => ?_)
    refine lv_goto (tgt := 39) hx hb dX5_look_66 (by decide) ?_
    exact k39 _ _ _ _ _ _ _ _ hd hP hS (lv_sub hl [1, 2, 3, 4, 0] rfl)
def wl_X5_look_39 (Q : Int32 → sT → Prop) (K19 : Int32 → Int32 → Int32 → sT → Prop) : Nat → Int32 → Int32 → Int32 → Int32 → sT → Prop
  | 0, _, _, _, _ => fun _ => False
  | n + 1, x1, x2, x3, x4 => fun S => wb_X5_look_39 Q K19 (fun x1 x2 x3 x4 S => wl_X5_look_39 Q K19 n x1 x2 x3 x4 S) x1 x2 x3 x4 S
theorem bl_X5_look_39 {p : Program} {l : Launch} {e : Env} {s : State} {m : MethodId} {args : Array Value} {below : List Frame} {meth : Method} {c : Code} {Z : State → Prop} {D : va_G} {cA : Nat → ClassId} {h : Nat → Nat} {Q : Int32 → sT → Prop} (C0 : cx p s m args c cX5_look 10 RX5 D cA false keysRA h) (hret : rtI p l e rm_X5_look s m args below meth c cX5_look Z D (wR h cA) (aK keysRA h s.heap.size) Q) {K19 : Int32 → Int32 → Int32 → sT → Prop} (k19 : ∀ (x1 : Int32) (x2 : Int32) (x3 : Int32) (S : sT) (H : Heap) (locs : List Loc) (ls : Array Slot), K19 x1 x2 x3 S → va_P D vwCl (wR h cA S) H → va_S (aK keysRA h s.heap.size) s.heap H locs → lv_has ls 10 [(0, .ref (h 100)), (1, .int x1), (2, .int x2), (3, .int x3)] → W p l e rm_X5_look s m args below meth c H locs 0 0 Z (F0 m 19 ls [])) : ∀ (n : Nat) (x1 : Int32) (x2 : Int32) (x3 : Int32) (x4 : Int32) (S : sT) (H : Heap) (locs : List Loc) (ls : Array Slot), va_P D vwCl (wR h cA S) H → va_S (aK keysRA h s.heap.size) s.heap H locs → wl_X5_look_39 Q K19 n x1 x2 x3 x4 S → lv_has ls 10 [(0, .ref (h 100)), (1, .int x1), (2, .int x2), (3, .int x3), (4, .int x4)] → W p l e rm_X5_look s m args below meth c H locs 0 0 Z (F0 m 39 ls []) := by
  intro n
  induction n with
  | zero => intro x1 x2 x3 x4 S H locs ls hP hS hd hl; exact (show False from hd).elim
  | succ n ih => intro x1 x2 x3 x4 S H locs ls hP hS hd hl; exact bk_X5_look_39 C0 hret k19 (fun x1 x2 x3 x4 S H locs ls hd hP hS hl => ih x1 x2 x3 x4 S H locs ls hP hS hd hl) hP hS hd hl
def wb_X5_look_160 (Q : Int32 → sT → Prop) (K91 : Int32 → Int32 → Int32 → sT → Prop) (K104 : Int32 → Int32 → Int32 → Int32 → Int32 → sT → Prop) (K117 : Int32 → Int32 → Int32 → Int32 → Int32 → Int32 → Int32 → sT → Prop) (x3 : Int32) (x4 : Int32) (x5 : Int32) (x6 : Int32) (x7 : Int32) (x9 : Int32) (y0 : Int32) (y1 : Int32) (S : sT) : Prop :=
  K117 x3 x4 x5 x6 x7 (y0 + y1) (x9 + (1 : Int32)) S
set_option maxHeartbeats 4000000 in
set_option maxRecDepth 100000 in
theorem bk_X5_look_160 {p : Program} {l : Launch} {e : Env} {s : State} {m : MethodId} {args : Array Value} {below : List Frame} {meth : Method} {c : Code} {Z : State → Prop} {D : va_G} {cA : Nat → ClassId} {h : Nat → Nat} {Q : Int32 → sT → Prop} (C0 : cx p s m args c cX5_look 10 RX5 D cA false keysRA h) (hret : rtI p l e rm_X5_look s m args below meth c cX5_look Z D (wR h cA) (aK keysRA h s.heap.size) Q) {K91 : Int32 → Int32 → Int32 → sT → Prop} {K104 : Int32 → Int32 → Int32 → Int32 → Int32 → sT → Prop} {K117 : Int32 → Int32 → Int32 → Int32 → Int32 → Int32 → Int32 → sT → Prop} (k91 : ∀ (x3 : Int32) (x4 : Int32) (x5 : Int32) (S : sT) (H : Heap) (locs : List Loc) (ls : Array Slot), K91 x3 x4 x5 S → va_P D vwCl (wR h cA S) H → va_S (aK keysRA h s.heap.size) s.heap H locs → lv_has ls 10 [(0, .ref (h 100)), (3, .int x3), (4, .int x4), (5, .int x5)] → W p l e rm_X5_look s m args below meth c H locs 0 0 Z (F0 m 91 ls [])) (k104 : ∀ (x3 : Int32) (x4 : Int32) (x5 : Int32) (x6 : Int32) (x7 : Int32) (S : sT) (H : Heap) (locs : List Loc) (ls : Array Slot), K104 x3 x4 x5 x6 x7 S → va_P D vwCl (wR h cA S) H → va_S (aK keysRA h s.heap.size) s.heap H locs → lv_has ls 10 [(0, .ref (h 100)), (3, .int x3), (4, .int x4), (5, .int x5), (6, .int x6), (7, .int x7)] → W p l e rm_X5_look s m args below meth c H locs 0 0 Z (F0 m 104 ls [])) (k117 : ∀ (x3 : Int32) (x4 : Int32) (x5 : Int32) (x6 : Int32) (x7 : Int32) (x8 : Int32) (x9 : Int32) (S : sT) (H : Heap) (locs : List Loc) (ls : Array Slot), K117 x3 x4 x5 x6 x7 x8 x9 S → va_P D vwCl (wR h cA S) H → va_S (aK keysRA h s.heap.size) s.heap H locs → lv_has ls 10 [(0, .ref (h 100)), (3, .int x3), (4, .int x4), (5, .int x5), (6, .int x6), (7, .int x7), (8, .int x8), (9, .int x9)] → W p l e rm_X5_look s m args below meth c H locs 0 0 Z (F0 m 117 ls [])) {x3 : Int32} {x4 : Int32} {x5 : Int32} {x6 : Int32} {x7 : Int32} {x9 : Int32} {y0 : Int32} {y1 : Int32} {S : sT} {H : Heap} {locs : List Loc} {ls : Array Slot} (hP : va_P D vwCl (wR h cA S) H) (hS : va_S (aK keysRA h s.heap.size) s.heap H locs) (hd : wb_X5_look_160 Q K91 K104 K117 x3 x4 x5 x6 x7 x9 y0 y1 S) (hl : lv_has ls 10 [(0, .ref (h 100)), (3, .int x3), (4, .int x4), (5, .int x5), (6, .int x6), (7, .int x7), (9, .int x9)]) : W p l e rm_X5_look s m args below meth c H locs 0 0 Z (F0 m 160 ls [.int y1, .int y0]) := by
  obtain ⟨⟨hx, hb, hml, hown, hts⟩, hK, -, -⟩ := id C0
  unfold wb_X5_look_160 at hd
  refine lv_iadd hx hb dX5_look_160 ?_
  refine lv_istore (lv' := [(8, .int (y0 + y1)), (0, .ref (h 100)), (3, .int x3), (4, .int x4), (5, .int x5), (6, .int x6), (7, .int x7), (9, .int x9)]) hx hb dX5_look_161 hl (by decide) rfl (fun ls hl => ?_)
  refine lv_iinc (v := x9 + (1 : Int32)) (lv' := [(9, .int (x9 + (1 : Int32))), (8, .int (y0 + y1)), (0, .ref (h 100)), (3, .int x3), (4, .int x4), (5, .int x5), (6, .int x6), (7, .int x7)]) hx hb dX5_look_163 hl (k := 7) rfl rfl (by decide) rfl (fun ls hl => ?_)
  refine lv_goto (tgt := 117) hx hb dX5_look_166 (by decide) ?_
  exact k117 _ _ _ _ _ _ _ _ _ _ _ hd hP hS (lv_sub hl [2, 3, 4, 5, 6, 7, 1, 0] rfl)
def wb_X5_look_183 (Q : Int32 → sT → Prop) (K91 : Int32 → Int32 → Int32 → sT → Prop) (K104 : Int32 → Int32 → Int32 → Int32 → Int32 → sT → Prop) (x3 : Int32) (x4 : Int32) (x5 : Int32) (x7 : Int32) (y0 : Int32) (S : sT) : Prop :=
  K104 x3 x4 x5 y0 (x7 + (1 : Int32)) S
set_option maxHeartbeats 4000000 in
set_option maxRecDepth 100000 in
theorem bk_X5_look_183 {p : Program} {l : Launch} {e : Env} {s : State} {m : MethodId} {args : Array Value} {below : List Frame} {meth : Method} {c : Code} {Z : State → Prop} {D : va_G} {cA : Nat → ClassId} {h : Nat → Nat} {Q : Int32 → sT → Prop} (C0 : cx p s m args c cX5_look 10 RX5 D cA false keysRA h) (hret : rtI p l e rm_X5_look s m args below meth c cX5_look Z D (wR h cA) (aK keysRA h s.heap.size) Q) {K91 : Int32 → Int32 → Int32 → sT → Prop} {K104 : Int32 → Int32 → Int32 → Int32 → Int32 → sT → Prop} (k91 : ∀ (x3 : Int32) (x4 : Int32) (x5 : Int32) (S : sT) (H : Heap) (locs : List Loc) (ls : Array Slot), K91 x3 x4 x5 S → va_P D vwCl (wR h cA S) H → va_S (aK keysRA h s.heap.size) s.heap H locs → lv_has ls 10 [(0, .ref (h 100)), (3, .int x3), (4, .int x4), (5, .int x5)] → W p l e rm_X5_look s m args below meth c H locs 0 0 Z (F0 m 91 ls [])) (k104 : ∀ (x3 : Int32) (x4 : Int32) (x5 : Int32) (x6 : Int32) (x7 : Int32) (S : sT) (H : Heap) (locs : List Loc) (ls : Array Slot), K104 x3 x4 x5 x6 x7 S → va_P D vwCl (wR h cA S) H → va_S (aK keysRA h s.heap.size) s.heap H locs → lv_has ls 10 [(0, .ref (h 100)), (3, .int x3), (4, .int x4), (5, .int x5), (6, .int x6), (7, .int x7)] → W p l e rm_X5_look s m args below meth c H locs 0 0 Z (F0 m 104 ls [])) {x3 : Int32} {x4 : Int32} {x5 : Int32} {x7 : Int32} {y0 : Int32} {S : sT} {H : Heap} {locs : List Loc} {ls : Array Slot} (hP : va_P D vwCl (wR h cA S) H) (hS : va_S (aK keysRA h s.heap.size) s.heap H locs) (hd : wb_X5_look_183 Q K91 K104 x3 x4 x5 x7 y0 S) (hl : lv_has ls 10 [(0, .ref (h 100)), (3, .int x3), (4, .int x4), (5, .int x5), (7, .int x7)]) : W p l e rm_X5_look s m args below meth c H locs 0 0 Z (F0 m 183 ls [.int y0]) := by
  obtain ⟨⟨hx, hb, hml, hown, hts⟩, hK, -, -⟩ := id C0
  unfold wb_X5_look_183 at hd
  refine lv_istore (lv' := [(6, .int y0), (0, .ref (h 100)), (3, .int x3), (4, .int x4), (5, .int x5), (7, .int x7)]) hx hb dX5_look_183 hl (by decide) rfl (fun ls hl => ?_)
  refine lv_iinc (v := x7 + (1 : Int32)) (lv' := [(7, .int (x7 + (1 : Int32))), (6, .int y0), (0, .ref (h 100)), (3, .int x3), (4, .int x4), (5, .int x5)]) hx hb dX5_look_185 hl (k := 5) rfl rfl (by decide) rfl (fun ls hl => ?_)
  refine lv_goto (tgt := 104) hx hb dX5_look_188 (by decide) ?_
  exact k104 _ _ _ _ _ _ _ _ _ hd hP hS (lv_sub hl [2, 3, 4, 5, 1, 0] rfl)
def wb_X5_look_117 (Q : Int32 → sT → Prop) (K91 : Int32 → Int32 → Int32 → sT → Prop) (K104 : Int32 → Int32 → Int32 → Int32 → Int32 → sT → Prop) (K117 : Int32 → Int32 → Int32 → Int32 → Int32 → Int32 → Int32 → sT → Prop) (x3 : Int32) (x4 : Int32) (x5 : Int32) (x6 : Int32) (x7 : Int32) (x8 : Int32) (x9 : Int32) (S : sT) : Prop :=
  (((6 : Int32) ≤ x9 → ((x8 ≤ x6 → wb_X5_look_183 Q K91 K104 x3 x4 x5 x7 x6 S) ∧ (¬ x8 ≤ x6 → wb_X5_look_183 Q K91 K104 x3 x4 x5 x7 x8 S))) ∧ (¬ (6 : Int32) ≤ x9 → (vp_in (((20 : Int32) * x7) + x5) 120) ∧ (vp_in (((20 : Int32) * x9) + x5) 120) ∧ ((¬ (vA S 29 (((20 : Int32) * x7) + x5).toNatClampNeg) = (vA S 29 (((20 : Int32) * x9) + x5).toNatClampNeg) → wb_X5_look_160 Q K91 K104 K117 x3 x4 x5 x6 x7 x9 x8 (0 : Int32) S) ∧ ((vA S 29 (((20 : Int32) * x7) + x5).toNatClampNeg) = (vA S 29 (((20 : Int32) * x9) + x5).toNatClampNeg) → wb_X5_look_160 Q K91 K104 K117 x3 x4 x5 x6 x7 x9 x8 (1 : Int32) S))))
set_option maxHeartbeats 4000000 in
set_option maxRecDepth 100000 in
theorem bk_X5_look_117 {p : Program} {l : Launch} {e : Env} {s : State} {m : MethodId} {args : Array Value} {below : List Frame} {meth : Method} {c : Code} {Z : State → Prop} {D : va_G} {cA : Nat → ClassId} {h : Nat → Nat} {Q : Int32 → sT → Prop} (C0 : cx p s m args c cX5_look 10 RX5 D cA false keysRA h) (hret : rtI p l e rm_X5_look s m args below meth c cX5_look Z D (wR h cA) (aK keysRA h s.heap.size) Q) {K91 : Int32 → Int32 → Int32 → sT → Prop} {K104 : Int32 → Int32 → Int32 → Int32 → Int32 → sT → Prop} {K117 : Int32 → Int32 → Int32 → Int32 → Int32 → Int32 → Int32 → sT → Prop} (k91 : ∀ (x3 : Int32) (x4 : Int32) (x5 : Int32) (S : sT) (H : Heap) (locs : List Loc) (ls : Array Slot), K91 x3 x4 x5 S → va_P D vwCl (wR h cA S) H → va_S (aK keysRA h s.heap.size) s.heap H locs → lv_has ls 10 [(0, .ref (h 100)), (3, .int x3), (4, .int x4), (5, .int x5)] → W p l e rm_X5_look s m args below meth c H locs 0 0 Z (F0 m 91 ls [])) (k104 : ∀ (x3 : Int32) (x4 : Int32) (x5 : Int32) (x6 : Int32) (x7 : Int32) (S : sT) (H : Heap) (locs : List Loc) (ls : Array Slot), K104 x3 x4 x5 x6 x7 S → va_P D vwCl (wR h cA S) H → va_S (aK keysRA h s.heap.size) s.heap H locs → lv_has ls 10 [(0, .ref (h 100)), (3, .int x3), (4, .int x4), (5, .int x5), (6, .int x6), (7, .int x7)] → W p l e rm_X5_look s m args below meth c H locs 0 0 Z (F0 m 104 ls [])) (k117 : ∀ (x3 : Int32) (x4 : Int32) (x5 : Int32) (x6 : Int32) (x7 : Int32) (x8 : Int32) (x9 : Int32) (S : sT) (H : Heap) (locs : List Loc) (ls : Array Slot), K117 x3 x4 x5 x6 x7 x8 x9 S → va_P D vwCl (wR h cA S) H → va_S (aK keysRA h s.heap.size) s.heap H locs → lv_has ls 10 [(0, .ref (h 100)), (3, .int x3), (4, .int x4), (5, .int x5), (6, .int x6), (7, .int x7), (8, .int x8), (9, .int x9)] → W p l e rm_X5_look s m args below meth c H locs 0 0 Z (F0 m 117 ls [])) {x3 : Int32} {x4 : Int32} {x5 : Int32} {x6 : Int32} {x7 : Int32} {x8 : Int32} {x9 : Int32} {S : sT} {H : Heap} {locs : List Loc} {ls : Array Slot} (hP : va_P D vwCl (wR h cA S) H) (hS : va_S (aK keysRA h s.heap.size) s.heap H locs) (hd : wb_X5_look_117 Q K91 K104 K117 x3 x4 x5 x6 x7 x8 x9 S) (hl : lv_has ls 10 [(0, .ref (h 100)), (3, .int x3), (4, .int x4), (5, .int x5), (6, .int x6), (7, .int x7), (8, .int x8), (9, .int x9)]) : W p l e rm_X5_look s m args below meth c H locs 0 0 Z (F0 m 117 ls []) := by
  obtain ⟨⟨hx, hb, hml, hown, hts⟩, hK, -, -⟩ := id C0
  unfold wb_X5_look_117 at hd
  refine lv_iload hx hb dX5_look_117 (lv_at hl 7 rfl) ?_
  refine lv_bipush (v := 6) hx hb dX5_look_119 (by decide) ?_
  refine lv_icmp_ge (tgt := 169) hx hb dX5_look_121 (by decide) (fun hc => ?_) (fun hc => ?_)
  · have hd := hd.1 hc
    refine lv_iload hx hb dX5_look_169 (lv_at hl 6 rfl) ?_
    refine lv_iload hx hb dX5_look_171 (lv_at hl 4 rfl) ?_
    refine lv_icmp_le (tgt := 181) hx hb dX5_look_173 (by decide) (fun hc => ?_) (fun hc => ?_)
    · have hd := hd.1 hc
      refine lv_iload hx hb dX5_look_181 (lv_at hl 4 rfl) ?_
      exact bk_X5_look_183 C0 hret k91 k104 hP hS hd (lv_sub hl [0, 1, 2, 3, 5] rfl)
    · have hd := hd.2 hc
      refine lv_iload hx hb dX5_look_176 (lv_at hl 6 rfl) ?_
      refine lv_goto (tgt := 183) hx hb dX5_look_178 (by decide) ?_
      exact bk_X5_look_183 C0 hret k91 k104 hP hS hd (lv_sub hl [0, 1, 2, 3, 5] rfl)
  · have hd := hd.2 hc
    refine lv_iload hx hb dX5_look_124 (lv_at hl 6 rfl) ?_
    refine lv_aload_n hx hb dX5_look_126 rfl (lv_at hl 0 rfl) ?_
    refine gf_X5_56 C0 hP dX5_look_127 ?_
    refine lv_bipush (v := 20) hx hb dX5_look_130 (by decide) ?_
    refine lv_iload hx hb dX5_look_132 (lv_at hl 5 rfl) ?_
    refine lv_imul hx hb dX5_look_134 ?_
    refine lv_iload hx hb dX5_look_135 (lv_at hl 3 rfl) ?_
    refine lv_iadd hx hb dX5_look_137 ?_
    obtain ⟨h_1, hd⟩ := hd
    refine ldR (by decide) C0 hP h_1 dX5_look_138 ?_
    refine lv_aload_n hx hb dX5_look_139 rfl (lv_at hl 0 rfl) ?_
    refine gf_X5_56 C0 hP dX5_look_140 ?_
    refine lv_bipush (v := 20) hx hb dX5_look_143 (by decide) ?_
    refine lv_iload hx hb dX5_look_145 (lv_at hl 7 rfl) ?_
    refine lv_imul hx hb dX5_look_147 ?_
    refine lv_iload hx hb dX5_look_148 (lv_at hl 3 rfl) ?_
    refine lv_iadd hx hb dX5_look_150 ?_
    obtain ⟨h_2, hd⟩ := hd
    refine ldR (by decide) C0 hP h_2 dX5_look_151 ?_
    refine lv_icmp_ne (tgt := 159) hx hb dX5_look_152 (by decide) (fun hc => ?_) (fun hc => ?_)
    · have hd := hd.1 hc
      refine lv_iconst (v := 0) hx hb dX5_look_159 (by decide) ?_
      exact bk_X5_look_160 C0 hret k91 k104 k117 hP hS hd (lv_sub hl [0, 1, 2, 3, 4, 5, 7] rfl)
    · have hd := hd.2 hc
      refine lv_iconst (v := 1) hx hb dX5_look_155 (by decide) ?_
      refine lv_goto (tgt := 160) hx hb dX5_look_156 (by decide) ?_
      exact bk_X5_look_160 C0 hret k91 k104 k117 hP hS hd (lv_sub hl [0, 1, 2, 3, 4, 5, 7] rfl)
def wl_X5_look_117 (Q : Int32 → sT → Prop) (K91 : Int32 → Int32 → Int32 → sT → Prop) (K104 : Int32 → Int32 → Int32 → Int32 → Int32 → sT → Prop) : Nat → Int32 → Int32 → Int32 → Int32 → Int32 → Int32 → Int32 → sT → Prop
  | 0, _, _, _, _, _, _, _ => fun _ => False
  | n + 1, x3, x4, x5, x6, x7, x8, x9 => fun S => wb_X5_look_117 Q K91 K104 (fun x3 x4 x5 x6 x7 x8 x9 S => wl_X5_look_117 Q K91 K104 n x3 x4 x5 x6 x7 x8 x9 S) x3 x4 x5 x6 x7 x8 x9 S
theorem bl_X5_look_117 {p : Program} {l : Launch} {e : Env} {s : State} {m : MethodId} {args : Array Value} {below : List Frame} {meth : Method} {c : Code} {Z : State → Prop} {D : va_G} {cA : Nat → ClassId} {h : Nat → Nat} {Q : Int32 → sT → Prop} (C0 : cx p s m args c cX5_look 10 RX5 D cA false keysRA h) (hret : rtI p l e rm_X5_look s m args below meth c cX5_look Z D (wR h cA) (aK keysRA h s.heap.size) Q) {K91 : Int32 → Int32 → Int32 → sT → Prop} {K104 : Int32 → Int32 → Int32 → Int32 → Int32 → sT → Prop} (k91 : ∀ (x3 : Int32) (x4 : Int32) (x5 : Int32) (S : sT) (H : Heap) (locs : List Loc) (ls : Array Slot), K91 x3 x4 x5 S → va_P D vwCl (wR h cA S) H → va_S (aK keysRA h s.heap.size) s.heap H locs → lv_has ls 10 [(0, .ref (h 100)), (3, .int x3), (4, .int x4), (5, .int x5)] → W p l e rm_X5_look s m args below meth c H locs 0 0 Z (F0 m 91 ls [])) (k104 : ∀ (x3 : Int32) (x4 : Int32) (x5 : Int32) (x6 : Int32) (x7 : Int32) (S : sT) (H : Heap) (locs : List Loc) (ls : Array Slot), K104 x3 x4 x5 x6 x7 S → va_P D vwCl (wR h cA S) H → va_S (aK keysRA h s.heap.size) s.heap H locs → lv_has ls 10 [(0, .ref (h 100)), (3, .int x3), (4, .int x4), (5, .int x5), (6, .int x6), (7, .int x7)] → W p l e rm_X5_look s m args below meth c H locs 0 0 Z (F0 m 104 ls [])) : ∀ (n : Nat) (x3 : Int32) (x4 : Int32) (x5 : Int32) (x6 : Int32) (x7 : Int32) (x8 : Int32) (x9 : Int32) (S : sT) (H : Heap) (locs : List Loc) (ls : Array Slot), va_P D vwCl (wR h cA S) H → va_S (aK keysRA h s.heap.size) s.heap H locs → wl_X5_look_117 Q K91 K104 n x3 x4 x5 x6 x7 x8 x9 S → lv_has ls 10 [(0, .ref (h 100)), (3, .int x3), (4, .int x4), (5, .int x5), (6, .int x6), (7, .int x7), (8, .int x8), (9, .int x9)] → W p l e rm_X5_look s m args below meth c H locs 0 0 Z (F0 m 117 ls []) := by
  intro n
  induction n with
  | zero => intro x3 x4 x5 x6 x7 x8 x9 S H locs ls hP hS hd hl; exact (show False from hd).elim
  | succ n ih => intro x3 x4 x5 x6 x7 x8 x9 S H locs ls hP hS hd hl; exact bk_X5_look_117 C0 hret k91 k104 (fun x3 x4 x5 x6 x7 x8 x9 S H locs ls hd hP hS hl => ih x3 x4 x5 x6 x7 x8 x9 S H locs ls hP hS hd hl) hP hS hd hl
def wb_X5_look_221 (Q : Int32 → sT → Prop) (K91 : Int32 → Int32 → Int32 → sT → Prop) (x3 : Int32) (x5 : Int32) (y0 : Int32) (S : sT) : Prop :=
  K91 x3 y0 (x5 + (1 : Int32)) S
set_option maxHeartbeats 4000000 in
set_option maxRecDepth 100000 in
theorem bk_X5_look_221 {p : Program} {l : Launch} {e : Env} {s : State} {m : MethodId} {args : Array Value} {below : List Frame} {meth : Method} {c : Code} {Z : State → Prop} {D : va_G} {cA : Nat → ClassId} {h : Nat → Nat} {Q : Int32 → sT → Prop} (C0 : cx p s m args c cX5_look 10 RX5 D cA false keysRA h) (hret : rtI p l e rm_X5_look s m args below meth c cX5_look Z D (wR h cA) (aK keysRA h s.heap.size) Q) {K91 : Int32 → Int32 → Int32 → sT → Prop} (k91 : ∀ (x3 : Int32) (x4 : Int32) (x5 : Int32) (S : sT) (H : Heap) (locs : List Loc) (ls : Array Slot), K91 x3 x4 x5 S → va_P D vwCl (wR h cA S) H → va_S (aK keysRA h s.heap.size) s.heap H locs → lv_has ls 10 [(0, .ref (h 100)), (3, .int x3), (4, .int x4), (5, .int x5)] → W p l e rm_X5_look s m args below meth c H locs 0 0 Z (F0 m 91 ls [])) {x3 : Int32} {x5 : Int32} {y0 : Int32} {S : sT} {H : Heap} {locs : List Loc} {ls : Array Slot} (hP : va_P D vwCl (wR h cA S) H) (hS : va_S (aK keysRA h s.heap.size) s.heap H locs) (hd : wb_X5_look_221 Q K91 x3 x5 y0 S) (hl : lv_has ls 10 [(0, .ref (h 100)), (3, .int x3), (5, .int x5)]) : W p l e rm_X5_look s m args below meth c H locs 0 0 Z (F0 m 221 ls [.int y0]) := by
  obtain ⟨⟨hx, hb, hml, hown, hts⟩, hK, -, -⟩ := id C0
  unfold wb_X5_look_221 at hd
  refine lv_istore (lv' := [(4, .int y0), (0, .ref (h 100)), (3, .int x3), (5, .int x5)]) hx hb dX5_look_221 hl (by decide) rfl (fun ls hl => ?_)
  refine lv_iinc (v := x5 + (1 : Int32)) (lv' := [(5, .int (x5 + (1 : Int32))), (4, .int y0), (0, .ref (h 100)), (3, .int x3)]) hx hb dX5_look_223 hl (k := 3) rfl rfl (by decide) rfl (fun ls hl => ?_)
  refine lv_goto (tgt := 91) hx hb dX5_look_226 (by decide) ?_
  exact k91 _ _ _ _ _ _ _ hd hP hS (lv_sub hl [2, 3, 1, 0] rfl)
def wb_X5_look_206 (Q : Int32 → sT → Prop) (K91 : Int32 → Int32 → Int32 → sT → Prop) (x4 : Int32) (x5 : Int32) (x6 : Int32) (y0 : Int32) (S : sT) : Prop :=
  ((x4 ≤ x6 → wb_X5_look_221 Q K91 y0 x5 x4 S) ∧ (¬ x4 ≤ x6 → wb_X5_look_221 Q K91 y0 x5 x6 S))
set_option maxHeartbeats 4000000 in
set_option maxRecDepth 100000 in
theorem bk_X5_look_206 {p : Program} {l : Launch} {e : Env} {s : State} {m : MethodId} {args : Array Value} {below : List Frame} {meth : Method} {c : Code} {Z : State → Prop} {D : va_G} {cA : Nat → ClassId} {h : Nat → Nat} {Q : Int32 → sT → Prop} (C0 : cx p s m args c cX5_look 10 RX5 D cA false keysRA h) (hret : rtI p l e rm_X5_look s m args below meth c cX5_look Z D (wR h cA) (aK keysRA h s.heap.size) Q) {K91 : Int32 → Int32 → Int32 → sT → Prop} (k91 : ∀ (x3 : Int32) (x4 : Int32) (x5 : Int32) (S : sT) (H : Heap) (locs : List Loc) (ls : Array Slot), K91 x3 x4 x5 S → va_P D vwCl (wR h cA S) H → va_S (aK keysRA h s.heap.size) s.heap H locs → lv_has ls 10 [(0, .ref (h 100)), (3, .int x3), (4, .int x4), (5, .int x5)] → W p l e rm_X5_look s m args below meth c H locs 0 0 Z (F0 m 91 ls [])) {x4 : Int32} {x5 : Int32} {x6 : Int32} {y0 : Int32} {S : sT} {H : Heap} {locs : List Loc} {ls : Array Slot} (hP : va_P D vwCl (wR h cA S) H) (hS : va_S (aK keysRA h s.heap.size) s.heap H locs) (hd : wb_X5_look_206 Q K91 x4 x5 x6 y0 S) (hl : lv_has ls 10 [(0, .ref (h 100)), (4, .int x4), (5, .int x5), (6, .int x6)]) : W p l e rm_X5_look s m args below meth c H locs 0 0 Z (F0 m 206 ls [.int y0]) := by
  obtain ⟨⟨hx, hb, hml, hown, hts⟩, hK, -, -⟩ := id C0
  unfold wb_X5_look_206 at hd
  refine lv_istore_n (lv' := [(3, .int y0), (0, .ref (h 100)), (4, .int x4), (5, .int x5), (6, .int x6)]) hx hb dX5_look_206 rfl hl (by decide) rfl (fun ls hl => ?_)
  refine lv_iload hx hb dX5_look_207 (lv_at hl 4 rfl) ?_
  refine lv_iload hx hb dX5_look_209 (lv_at hl 2 rfl) ?_
  refine lv_icmp_ge (tgt := 219) hx hb dX5_look_211 (by decide) (fun hc => ?_) (fun hc => ?_)
  · have hd := hd.1 hc
    refine lv_iload hx hb dX5_look_219 (lv_at hl 2 rfl) ?_
    exact bk_X5_look_221 C0 hret k91 hP hS hd (lv_sub hl [1, 0, 3] rfl)
  · have hd := hd.2 hc
    refine lv_iload hx hb dX5_look_214 (lv_at hl 4 rfl) ?_
    refine lv_goto (tgt := 221) hx hb dX5_look_216 (by decide) ?_
    exact bk_X5_look_221 C0 hret k91 hP hS hd (lv_sub hl [1, 0, 3] rfl)
def wb_X5_look_104 (Q : Int32 → sT → Prop) (K91 : Int32 → Int32 → Int32 → sT → Prop) (K104 : Int32 → Int32 → Int32 → Int32 → Int32 → sT → Prop) (x3 : Int32) (x4 : Int32) (x5 : Int32) (x6 : Int32) (x7 : Int32) (S : sT) : Prop :=
  (((6 : Int32) ≤ x7 → ((x4 ≤ x6 → wb_X5_look_206 Q K91 x4 x5 x6 x3 S) ∧ (¬ x4 ≤ x6 → wb_X5_look_206 Q K91 x4 x5 x6 (x5 + (1 : Int32)) S))) ∧ (¬ (6 : Int32) ≤ x7 → ∃ n : Nat, wl_X5_look_117 Q K91 K104 n x3 x4 x5 x6 x7 (0 : Int32) (0 : Int32) S))
set_option maxHeartbeats 4000000 in
set_option maxRecDepth 100000 in
theorem bk_X5_look_104 {p : Program} {l : Launch} {e : Env} {s : State} {m : MethodId} {args : Array Value} {below : List Frame} {meth : Method} {c : Code} {Z : State → Prop} {D : va_G} {cA : Nat → ClassId} {h : Nat → Nat} {Q : Int32 → sT → Prop} (C0 : cx p s m args c cX5_look 10 RX5 D cA false keysRA h) (hret : rtI p l e rm_X5_look s m args below meth c cX5_look Z D (wR h cA) (aK keysRA h s.heap.size) Q) {K91 : Int32 → Int32 → Int32 → sT → Prop} {K104 : Int32 → Int32 → Int32 → Int32 → Int32 → sT → Prop} (k91 : ∀ (x3 : Int32) (x4 : Int32) (x5 : Int32) (S : sT) (H : Heap) (locs : List Loc) (ls : Array Slot), K91 x3 x4 x5 S → va_P D vwCl (wR h cA S) H → va_S (aK keysRA h s.heap.size) s.heap H locs → lv_has ls 10 [(0, .ref (h 100)), (3, .int x3), (4, .int x4), (5, .int x5)] → W p l e rm_X5_look s m args below meth c H locs 0 0 Z (F0 m 91 ls [])) (k104 : ∀ (x3 : Int32) (x4 : Int32) (x5 : Int32) (x6 : Int32) (x7 : Int32) (S : sT) (H : Heap) (locs : List Loc) (ls : Array Slot), K104 x3 x4 x5 x6 x7 S → va_P D vwCl (wR h cA S) H → va_S (aK keysRA h s.heap.size) s.heap H locs → lv_has ls 10 [(0, .ref (h 100)), (3, .int x3), (4, .int x4), (5, .int x5), (6, .int x6), (7, .int x7)] → W p l e rm_X5_look s m args below meth c H locs 0 0 Z (F0 m 104 ls [])) {x3 : Int32} {x4 : Int32} {x5 : Int32} {x6 : Int32} {x7 : Int32} {S : sT} {H : Heap} {locs : List Loc} {ls : Array Slot} (hP : va_P D vwCl (wR h cA S) H) (hS : va_S (aK keysRA h s.heap.size) s.heap H locs) (hd : wb_X5_look_104 Q K91 K104 x3 x4 x5 x6 x7 S) (hl : lv_has ls 10 [(0, .ref (h 100)), (3, .int x3), (4, .int x4), (5, .int x5), (6, .int x6), (7, .int x7)]) : W p l e rm_X5_look s m args below meth c H locs 0 0 Z (F0 m 104 ls []) := by
  obtain ⟨⟨hx, hb, hml, hown, hts⟩, hK, -, -⟩ := id C0
  unfold wb_X5_look_104 at hd
  refine lv_iload hx hb dX5_look_104 (lv_at hl 5 rfl) ?_
  refine lv_bipush (v := 6) hx hb dX5_look_106 (by decide) ?_
  refine lv_icmp_ge (tgt := 191) hx hb dX5_look_108 (by decide) (fun hc => ?_) (fun hc => ?_)
  · have hd := hd.1 hc
    refine lv_iload hx hb dX5_look_191 (lv_at hl 4 rfl) ?_
    refine lv_iload hx hb dX5_look_193 (lv_at hl 2 rfl) ?_
    refine lv_icmp_ge (tgt := 205) hx hb dX5_look_195 (by decide) (fun hc => ?_) (fun hc => ?_)
    · have hd := hd.1 hc
      refine lv_iload_n hx hb dX5_look_205 rfl (lv_at hl 1 rfl) ?_
      exact bk_X5_look_206 C0 hret k91 hP hS hd (lv_sub hl [0, 2, 3, 4] rfl)
    · have hd := hd.2 hc
      refine lv_iload hx hb dX5_look_198 (lv_at hl 3 rfl) ?_
      refine lv_iconst (v := 1) hx hb dX5_look_200 (by decide) ?_
      refine lv_iadd hx hb dX5_look_201 ?_
      refine lv_goto (tgt := 206) hx hb dX5_look_202 (by decide) ?_
      exact bk_X5_look_206 C0 hret k91 hP hS hd (lv_sub hl [0, 2, 3, 4] rfl)
  · have hd := hd.2 hc
    refine lv_iconst (v := 0) hx hb dX5_look_111 (by decide) ?_
    refine lv_istore (lv' := [(8, .int (0 : Int32)), (0, .ref (h 100)), (3, .int x3), (4, .int x4), (5, .int x5), (6, .int x6), (7, .int x7)]) hx hb dX5_look_112 hl (by decide) rfl (fun ls hl => ?_)
    refine lv_iconst (v := 0) hx hb dX5_look_114 (by decide) ?_
    refine lv_istore (lv' := [(9, .int (0 : Int32)), (8, .int (0 : Int32)), (0, .ref (h 100)), (3, .int x3), (4, .int x4), (5, .int x5), (6, .int x6), (7, .int x7)]) hx hb dX5_look_115 hl (by decide) rfl (fun ls hl => ?_)
    obtain ⟨n_1, hd⟩ := hd
    exact bl_X5_look_117 C0 hret k91 k104 _ _ _ _ _ _ _ _ _ _ _ _ hP hS hd (lv_sub hl [2, 3, 4, 5, 6, 7, 1, 0] rfl)
def wl_X5_look_104 (Q : Int32 → sT → Prop) (K91 : Int32 → Int32 → Int32 → sT → Prop) : Nat → Int32 → Int32 → Int32 → Int32 → Int32 → sT → Prop
  | 0, _, _, _, _, _ => fun _ => False
  | n + 1, x3, x4, x5, x6, x7 => fun S => wb_X5_look_104 Q K91 (fun x3 x4 x5 x6 x7 S => wl_X5_look_104 Q K91 n x3 x4 x5 x6 x7 S) x3 x4 x5 x6 x7 S
theorem bl_X5_look_104 {p : Program} {l : Launch} {e : Env} {s : State} {m : MethodId} {args : Array Value} {below : List Frame} {meth : Method} {c : Code} {Z : State → Prop} {D : va_G} {cA : Nat → ClassId} {h : Nat → Nat} {Q : Int32 → sT → Prop} (C0 : cx p s m args c cX5_look 10 RX5 D cA false keysRA h) (hret : rtI p l e rm_X5_look s m args below meth c cX5_look Z D (wR h cA) (aK keysRA h s.heap.size) Q) {K91 : Int32 → Int32 → Int32 → sT → Prop} (k91 : ∀ (x3 : Int32) (x4 : Int32) (x5 : Int32) (S : sT) (H : Heap) (locs : List Loc) (ls : Array Slot), K91 x3 x4 x5 S → va_P D vwCl (wR h cA S) H → va_S (aK keysRA h s.heap.size) s.heap H locs → lv_has ls 10 [(0, .ref (h 100)), (3, .int x3), (4, .int x4), (5, .int x5)] → W p l e rm_X5_look s m args below meth c H locs 0 0 Z (F0 m 91 ls [])) : ∀ (n : Nat) (x3 : Int32) (x4 : Int32) (x5 : Int32) (x6 : Int32) (x7 : Int32) (S : sT) (H : Heap) (locs : List Loc) (ls : Array Slot), va_P D vwCl (wR h cA S) H → va_S (aK keysRA h s.heap.size) s.heap H locs → wl_X5_look_104 Q K91 n x3 x4 x5 x6 x7 S → lv_has ls 10 [(0, .ref (h 100)), (3, .int x3), (4, .int x4), (5, .int x5), (6, .int x6), (7, .int x7)] → W p l e rm_X5_look s m args below meth c H locs 0 0 Z (F0 m 104 ls []) := by
  intro n
  induction n with
  | zero => intro x3 x4 x5 x6 x7 S H locs ls hP hS hd hl; exact (show False from hd).elim
  | succ n ih => intro x3 x4 x5 x6 x7 S H locs ls hP hS hd hl; exact bk_X5_look_104 C0 hret k91 (fun x3 x4 x5 x6 x7 S H locs ls hd hP hS hl => ih x3 x4 x5 x6 x7 S H locs ls hP hS hd hl) hP hS hd hl
def wb_X5_look_91 (Q : Int32 → sT → Prop) (K91 : Int32 → Int32 → Int32 → sT → Prop) (x3 : Int32) (x4 : Int32) (x5 : Int32) (S : sT) : Prop :=
  (((20 : Int32) ≤ x5 → wp_X5_answer x3 x4 S (fun r_1 S_1 => Q r_1 S_1)) ∧ (¬ (20 : Int32) ≤ x5 → ∃ n : Nat, wl_X5_look_104 Q K91 n x3 x4 x5 (0 : Int32) (0 : Int32) S))
set_option maxHeartbeats 4000000 in
set_option maxRecDepth 100000 in
theorem bk_X5_look_91 {p : Program} {l : Launch} {e : Env} {s : State} {m : MethodId} {args : Array Value} {below : List Frame} {meth : Method} {c : Code} {Z : State → Prop} {D : va_G} {cA : Nat → ClassId} {h : Nat → Nat} {Q : Int32 → sT → Prop} (C0 : cx p s m args c cX5_look 10 RX5 D cA false keysRA h) (hret : rtI p l e rm_X5_look s m args below meth c cX5_look Z D (wR h cA) (aK keysRA h s.heap.size) Q) {K91 : Int32 → Int32 → Int32 → sT → Prop} (k91 : ∀ (x3 : Int32) (x4 : Int32) (x5 : Int32) (S : sT) (H : Heap) (locs : List Loc) (ls : Array Slot), K91 x3 x4 x5 S → va_P D vwCl (wR h cA S) H → va_S (aK keysRA h s.heap.size) s.heap H locs → lv_has ls 10 [(0, .ref (h 100)), (3, .int x3), (4, .int x4), (5, .int x5)] → W p l e rm_X5_look s m args below meth c H locs 0 0 Z (F0 m 91 ls [])) {x3 : Int32} {x4 : Int32} {x5 : Int32} {S : sT} {H : Heap} {locs : List Loc} {ls : Array Slot} (hP : va_P D vwCl (wR h cA S) H) (hS : va_S (aK keysRA h s.heap.size) s.heap H locs) (hd : wb_X5_look_91 Q K91 x3 x4 x5 S) (hl : lv_has ls 10 [(0, .ref (h 100)), (3, .int x3), (4, .int x4), (5, .int x5)]) : W p l e rm_X5_look s m args below meth c H locs 0 0 Z (F0 m 91 ls []) := by
  obtain ⟨⟨hx, hb, hml, hown, hts⟩, hK, -, -⟩ := id C0
  unfold wb_X5_look_91 at hd
  refine lv_iload hx hb dX5_look_91 (lv_at hl 3 rfl) ?_
  refine lv_bipush (v := 20) hx hb dX5_look_93 (by decide) ?_
  refine lv_icmp_ge (tgt := 229) hx hb dX5_look_95 (by decide) (fun hc => ?_) (fun hc => ?_)
  · have hd := hd.1 hc
    refine lv_aload_n hx hb dX5_look_229 rfl (lv_at hl 0 rfl) ?_
    refine lv_iload_n hx hb dX5_look_230 rfl (lv_at hl 1 rfl) ?_
    refine lv_iload hx hb dX5_look_231 (lv_at hl 2 rfl) ?_
    refine cl_Vi (n := 2) (rest := []) C0 hP hS (c_X5_answer l C0.2.2.1 _ hd) (lwG_V lm_X5_216 li_X5_answer lx_X5_answer lz_RX5 lc_X5_answer) (by decide +kernel) (oR_at h cA _) rfl rfl rfl (Nat.le_of_ble_eq_true rfl) ⟨rfl, rfl⟩ ⟨by decide, by decide⟩ dX5_look_233 hl.1 ⟨Nat.zero_le _, Nat.zero_le _⟩ (fun r_1 S_1 H locs hd hP hS => ?_)
    exact hret _ _ _ _ _ _ hd hP hS dX5_look_236
  · have hd := hd.2 hc
    refine lv_iconst (v := 0) hx hb dX5_look_98 (by decide) ?_
    refine lv_istore (lv' := [(6, .int (0 : Int32)), (0, .ref (h 100)), (3, .int x3), (4, .int x4), (5, .int x5)]) hx hb dX5_look_99 hl (by decide) rfl (fun ls hl => ?_)
    refine lv_iconst (v := 0) hx hb dX5_look_101 (by decide) ?_
    refine lv_istore (lv' := [(7, .int (0 : Int32)), (6, .int (0 : Int32)), (0, .ref (h 100)), (3, .int x3), (4, .int x4), (5, .int x5)]) hx hb dX5_look_102 hl (by decide) rfl (fun ls hl => ?_)
    obtain ⟨n_2, hd⟩ := hd
    exact bl_X5_look_104 C0 hret k91 _ _ _ _ _ _ _ _ _ _ hP hS hd (lv_sub hl [2, 3, 4, 5, 1, 0] rfl)
def wl_X5_look_91 (Q : Int32 → sT → Prop) : Nat → Int32 → Int32 → Int32 → sT → Prop
  | 0, _, _, _ => fun _ => False
  | n + 1, x3, x4, x5 => fun S => wb_X5_look_91 Q (fun x3 x4 x5 S => wl_X5_look_91 Q n x3 x4 x5 S) x3 x4 x5 S
theorem bl_X5_look_91 {p : Program} {l : Launch} {e : Env} {s : State} {m : MethodId} {args : Array Value} {below : List Frame} {meth : Method} {c : Code} {Z : State → Prop} {D : va_G} {cA : Nat → ClassId} {h : Nat → Nat} {Q : Int32 → sT → Prop} (C0 : cx p s m args c cX5_look 10 RX5 D cA false keysRA h) (hret : rtI p l e rm_X5_look s m args below meth c cX5_look Z D (wR h cA) (aK keysRA h s.heap.size) Q) : ∀ (n : Nat) (x3 : Int32) (x4 : Int32) (x5 : Int32) (S : sT) (H : Heap) (locs : List Loc) (ls : Array Slot), va_P D vwCl (wR h cA S) H → va_S (aK keysRA h s.heap.size) s.heap H locs → wl_X5_look_91 Q n x3 x4 x5 S → lv_has ls 10 [(0, .ref (h 100)), (3, .int x3), (4, .int x4), (5, .int x5)] → W p l e rm_X5_look s m args below meth c H locs 0 0 Z (F0 m 91 ls []) := by
  intro n
  induction n with
  | zero => intro x3 x4 x5 S H locs ls hP hS hd hl; exact (show False from hd).elim
  | succ n ih => intro x3 x4 x5 S H locs ls hP hS hd hl; exact bk_X5_look_91 C0 hret (fun x3 x4 x5 S H locs ls hd hP hS hl => ih x3 x4 x5 S H locs ls hP hS hd hl) hP hS hd hl
def wb_X5_look_19 (Q : Int32 → sT → Prop) (K19 : Int32 → Int32 → Int32 → sT → Prop) (x1 : Int32) (x2 : Int32) (x3 : Int32) (S : sT) : Prop :=
  (((6 : Int32) ≤ x3 → (vp_in x1 6) ∧ ∃ n : Nat, wl_X5_look_91 Q n (0 : Int32) (7 : Int32) (0 : Int32) (uA S 12 (upd (vA S 12) x1.toNatClampNeg x2))) ∧ (¬ (6 : Int32) ≤ x3 → (vp_in x1 6) ∧ wp_X5_layAside (uA S 12 (upd (vA S 12) x1.toNatClampNeg x3)) (fun S_4 => ∃ n : Nat, wl_X5_look_39 Q K19 n x1 x2 x3 (0 : Int32) S_4)))
set_option maxHeartbeats 4000000 in
set_option maxRecDepth 100000 in
theorem bk_X5_look_19 {p : Program} {l : Launch} {e : Env} {s : State} {m : MethodId} {args : Array Value} {below : List Frame} {meth : Method} {c : Code} {Z : State → Prop} {D : va_G} {cA : Nat → ClassId} {h : Nat → Nat} {Q : Int32 → sT → Prop} (C0 : cx p s m args c cX5_look 10 RX5 D cA false keysRA h) (hret : rtI p l e rm_X5_look s m args below meth c cX5_look Z D (wR h cA) (aK keysRA h s.heap.size) Q) {K19 : Int32 → Int32 → Int32 → sT → Prop} (k19 : ∀ (x1 : Int32) (x2 : Int32) (x3 : Int32) (S : sT) (H : Heap) (locs : List Loc) (ls : Array Slot), K19 x1 x2 x3 S → va_P D vwCl (wR h cA S) H → va_S (aK keysRA h s.heap.size) s.heap H locs → lv_has ls 10 [(0, .ref (h 100)), (1, .int x1), (2, .int x2), (3, .int x3)] → W p l e rm_X5_look s m args below meth c H locs 0 0 Z (F0 m 19 ls [])) {x1 : Int32} {x2 : Int32} {x3 : Int32} {S : sT} {H : Heap} {locs : List Loc} {ls : Array Slot} (hP : va_P D vwCl (wR h cA S) H) (hS : va_S (aK keysRA h s.heap.size) s.heap H locs) (hd : wb_X5_look_19 Q K19 x1 x2 x3 S) (hl : lv_has ls 10 [(0, .ref (h 100)), (1, .int x1), (2, .int x2), (3, .int x3)]) : W p l e rm_X5_look s m args below meth c H locs 0 0 Z (F0 m 19 ls []) := by
  obtain ⟨⟨hx, hb, hml, hown, hts⟩, hK, -, -⟩ := id C0
  unfold wb_X5_look_19 at hd
  refine lv_iload_n hx hb dX5_look_19 rfl (lv_at hl 3 rfl) ?_
  refine lv_bipush (v := 6) hx hb dX5_look_20 (by decide) ?_
  refine lv_icmp_ge (tgt := 75) hx hb dX5_look_22 (by decide) (fun hc => ?_) (fun hc => ?_)
  · have hd := hd.1 hc
    refine lv_aload_n hx hb dX5_look_75 rfl (lv_at hl 0 rfl) ?_
    refine gf_X5_29 C0 hP dX5_look_76 ?_
    refine lv_iload_n hx hb dX5_look_79 rfl (lv_at hl 1 rfl) ?_
    refine lv_iload_n hx hb dX5_look_80 rfl (lv_at hl 2 rfl) ?_
    obtain ⟨h_1, hd⟩ := hd
    refine stR (by decide) C0 hP hS h_1 dX5_look_81 (fun H locs hP hS => ?_)
    refine lv_iconst (v := 0) hx hb dX5_look_82 (by decide) ?_
    refine lv_istore_n (lv' := [(3, .int (0 : Int32)), (0, .ref (h 100)), (1, .int x1), (2, .int x2)]) hx hb dX5_look_83 rfl hl (by decide) rfl (fun ls hl => ?_)
    refine lv_bipush (v := 7) hx hb dX5_look_84 (by decide) ?_
    refine lv_istore (lv' := [(4, .int (7 : Int32)), (3, .int (0 : Int32)), (0, .ref (h 100)), (1, .int x1), (2, .int x2)]) hx hb dX5_look_86 hl (by decide) rfl (fun ls hl => ?_)
    refine lv_iconst (v := 0) hx hb dX5_look_88 (by decide) ?_
    refine lv_istore (lv' := [(5, .int (0 : Int32)), (4, .int (7 : Int32)), (3, .int (0 : Int32)), (0, .ref (h 100)), (1, .int x1), (2, .int x2)]) hx hb dX5_look_89 hl (by decide) rfl (fun ls hl => ?_)
    obtain ⟨n_2, hd⟩ := hd
    exact bl_X5_look_91 C0 hret _ _ _ _ _ _ _ _ hP hS hd (lv_sub hl [3, 2, 1, 0] rfl)
  · have hd := hd.2 hc
    refine lv_aload_n hx hb dX5_look_25 rfl (lv_at hl 0 rfl) ?_
    refine gf_X5_29 C0 hP dX5_look_26 ?_
    refine lv_iload_n hx hb dX5_look_29 rfl (lv_at hl 1 rfl) ?_
    refine lv_iload_n hx hb dX5_look_30 rfl (lv_at hl 3 rfl) ?_
    obtain ⟨h_3, hd⟩ := hd
    refine stR (by decide) C0 hP hS h_3 dX5_look_31 (fun H locs hP hS => ?_)
    refine lv_aload_n hx hb dX5_look_32 rfl (lv_at hl 0 rfl) ?_
    refine cl_Vv (n := 0) (rest := []) C0 hP hS (c_X5_layAside l C0.2.2.1 _ hd) (lwG_V lm_X5_213 li_X5_layAside lx_X5_layAside lz_RX5 lc_X5_layAside) (by decide +kernel) (oR_at h cA _) rfl rfl rfl (Nat.le_of_ble_eq_true rfl) ⟨rfl, rfl⟩ ⟨by decide, by decide⟩ dX5_look_33 hl.1 ⟨Nat.zero_le _, Nat.zero_le _⟩ (fun S_4 H locs hd hP hS => ?_)
    refine lv_iconst (v := 0) hx hb dX5_look_36 (by decide) ?_
    refine lv_istore (lv' := [(4, .int (0 : Int32)), (0, .ref (h 100)), (1, .int x1), (2, .int x2), (3, .int x3)]) hx hb dX5_look_37 hl (by decide) rfl (fun ls hl => ?_)
    obtain ⟨n_5, hd⟩ := hd
    exact bl_X5_look_39 C0 hret k19 _ _ _ _ _ _ _ _ _ hP hS hd (lv_sub hl [1, 2, 3, 4, 0] rfl)
def wl_X5_look_19 (Q : Int32 → sT → Prop) : Nat → Int32 → Int32 → Int32 → sT → Prop
  | 0, _, _, _ => fun _ => False
  | n + 1, x1, x2, x3 => fun S => wb_X5_look_19 Q (fun x1 x2 x3 S => wl_X5_look_19 Q n x1 x2 x3 S) x1 x2 x3 S
theorem bl_X5_look_19 {p : Program} {l : Launch} {e : Env} {s : State} {m : MethodId} {args : Array Value} {below : List Frame} {meth : Method} {c : Code} {Z : State → Prop} {D : va_G} {cA : Nat → ClassId} {h : Nat → Nat} {Q : Int32 → sT → Prop} (C0 : cx p s m args c cX5_look 10 RX5 D cA false keysRA h) (hret : rtI p l e rm_X5_look s m args below meth c cX5_look Z D (wR h cA) (aK keysRA h s.heap.size) Q) : ∀ (n : Nat) (x1 : Int32) (x2 : Int32) (x3 : Int32) (S : sT) (H : Heap) (locs : List Loc) (ls : Array Slot), va_P D vwCl (wR h cA S) H → va_S (aK keysRA h s.heap.size) s.heap H locs → wl_X5_look_19 Q n x1 x2 x3 S → lv_has ls 10 [(0, .ref (h 100)), (1, .int x1), (2, .int x2), (3, .int x3)] → W p l e rm_X5_look s m args below meth c H locs 0 0 Z (F0 m 19 ls []) := by
  intro n
  induction n with
  | zero => intro x1 x2 x3 S H locs ls hP hS hd hl; exact (show False from hd).elim
  | succ n ih => intro x1 x2 x3 S H locs ls hP hS hd hl; exact bk_X5_look_19 C0 hret (fun x1 x2 x3 S H locs ls hd hP hS hl => ih x1 x2 x3 S H locs ls hP hS hd hl) hP hS hd hl
def wp_X5_look (x1 : Int32) (S : sT) (Q : Int32 → sT → Prop) : Prop :=
  wp_X5_isOne x1 S (fun r_1 S_1 => ((¬ r_1 = 0 → (vp_in x1 6) ∧ ∃ n : Nat, wl_X5_look_19 Q n x1 (vA S_1 12 x1.toNatClampNeg) (0 : Int32) S_1) ∧ (r_1 = 0 → Q (-1 : Int32) S_1)))
set_option maxHeartbeats 4000000 in
set_option maxRecDepth 100000 in
theorem bk_X5_look {p : Program} {l : Launch} {e : Env} {s : State} {m : MethodId} {args : Array Value} {below : List Frame} {meth : Method} {c : Code} {Z : State → Prop} {D : va_G} {cA : Nat → ClassId} {h : Nat → Nat} {Q : Int32 → sT → Prop} (C0 : cx p s m args c cX5_look 10 RX5 D cA false keysRA h) (hret : rtI p l e rm_X5_look s m args below meth c cX5_look Z D (wR h cA) (aK keysRA h s.heap.size) Q) {x1 : Int32} {S : sT} {H : Heap} {locs : List Loc} {ls : Array Slot} (hP : va_P D vwCl (wR h cA S) H) (hS : va_S (aK keysRA h s.heap.size) s.heap H locs) (hd : wp_X5_look x1 S Q) (hl : lv_has ls 10 [(0, .ref (h 100)), (1, .int x1)]) : W p l e rm_X5_look s m args below meth c H locs 0 0 Z (F0 m 0 ls []) := by
  obtain ⟨⟨hx, hb, hml, hown, hts⟩, hK, -, -⟩ := id C0
  unfold wp_X5_look at hd
  refine lv_aload_n hx hb dX5_look_0 rfl (lv_at hl 0 rfl) ?_
  refine lv_iload_n hx hb dX5_look_1 rfl (lv_at hl 1 rfl) ?_
  refine cl_Vi (n := 1) (rest := []) C0 hP hS (c_X5_isOne l C0.2.2.1 _ hd) (lwG_V lm_X5_176 li_X5_isOne lx_X5_isOne lz_RX5 lc_X5_isOne) (by decide +kernel) (oR_at h cA _) rfl rfl rfl (Nat.le_of_ble_eq_true rfl) ⟨rfl, rfl⟩ ⟨by decide, by decide⟩ dX5_look_2 hl.1 ⟨Nat.zero_le _, Nat.zero_le _⟩ (fun r_1 S_1 H locs hd hP hS => ?_)
  refine lv_if_ne (tgt := 10) hx hb dX5_look_5 (by decide) (fun hc => ?_) (fun hc => ?_)
  · have hd := hd.1 hc
    refine lv_aload_n hx hb dX5_look_10 rfl (lv_at hl 0 rfl) ?_
    refine gf_X5_29 C0 hP dX5_look_11 ?_
    refine lv_iload_n hx hb dX5_look_14 rfl (lv_at hl 1 rfl) ?_
    obtain ⟨h_2, hd⟩ := hd
    refine ldR (by decide) C0 hP h_2 dX5_look_15 ?_
    refine lv_istore_n (lv' := [(2, .int (vA S_1 12 x1.toNatClampNeg)), (0, .ref (h 100)), (1, .int x1)]) hx hb dX5_look_16 rfl hl (by decide) rfl (fun ls hl => ?_)
    refine lv_iconst (v := 0) hx hb dX5_look_17 (by decide) ?_
    refine lv_istore_n (lv' := [(3, .int (0 : Int32)), (2, .int (vA S_1 12 x1.toNatClampNeg)), (0, .ref (h 100)), (1, .int x1)]) hx hb dX5_look_18 rfl hl (by decide) rfl (fun ls hl => ?_)
    obtain ⟨n_3, hd⟩ := hd
    exact bl_X5_look_19 C0 hret _ _ _ _ _ _ _ _ hP hS hd (lv_sub hl [2, 3, 1, 0] rfl)
  · have hd := hd.2 hc
    refine lv_iconst (v := (-1)) hx hb dX5_look_8 (by decide) ?_
    exact hret _ _ _ _ _ _ hd hP hS dX5_look_9
theorem c_X5_look (l : Launch) {D : va_G} {cA : Nat → ClassId} {h : Nat → Nat} (hk : ky keysRA h) {x1 : Int32} {S : sT} (sz : Nat) {Q : Int32 → sT → Prop} (hd : wp_X5_look x1 S Q) : Met l yX5_look (wsU yX5_look cX5_look 10 (some .int)) rm_X5_look (va_Pc [.ref (h 100), .int x1] (gP D cA false keysRA h (wR h cA) S sz)) (va_Qi Q (wB D (wR h cA)) (aK keysRA h sz)) 0 0 (aK keysRA h sz) :=
  mk_i (by decide) hk (Nat.le_of_ble_eq_true rfl) (fun p e s m below meth c Z ls C0 hret hP hS hl => bk_X5_look C0 hret hP hS hd hl)
abbrev rm_X5_lot : Room := { frames := 4, cells := 0, slots := 0, locals := 92 }
def wp_X5_lot (x1 : Int32) (S : sT) (Q : sT → Prop) : Prop :=
  (¬ (vI S 9) = 0) ∧ wp_X5_remember S (fun S_2 => ((¬ (x1 - x1 / (4 : Int32) * (4 : Int32)) = 0 → ((¬ (x1 - x1 / (4 : Int32) * (4 : Int32)) = (1 : Int32) → (vp_in (0 : Int32) 9) ∧ (((99 : Int32) ≤ (vA S_2 14 (0 : Int32).toNatClampNeg) → Q S_2) ∧ (¬ (99 : Int32) ≤ (vA S_2 14 (0 : Int32).toNatClampNeg) → wp_X5_goes 14 S_2 (fun r_4 S_4 => Q S_4)))) ∧ ((x1 - x1 / (4 : Int32) * (4 : Int32)) = (1 : Int32) → (vp_in ((3 : Int32) + ((x1 / (8 : Int32)) - (x1 / (8 : Int32)) / (vI S 9) * (vI S 9))) 9) ∧ ∀ S_6 : sT, S_6 = uA S_2 14 (upd (vA S_2 14) ((3 : Int32) + ((x1 / (8 : Int32)) - (x1 / (8 : Int32)) / (vI S 9) * (vI S 9))).toNatClampNeg ((x1 / (64 : Int32)) - (x1 / (64 : Int32)) / (10 : Int32) * (10 : Int32))) → Q S_6))) ∧ ((x1 - x1 / (4 : Int32) * (4 : Int32)) = 0 → (vp_in (2 : Int32) 9) ∧ (vp_in (2 : Int32) 9) ∧ ∀ S_9 : sT, S_9 = uA S_2 14 (upd (vA S_2 14) (2 : Int32).toNatClampNeg ((vA S_2 14 (2 : Int32).toNatClampNeg) ^^^ ((1 : Int32) <<< (((x1 / (8 : Int32)) - (x1 / (8 : Int32)) / (vI S 9) * (vI S 9)) &&& 31)))) → Q S_9)))
set_option maxHeartbeats 4000000 in
set_option maxRecDepth 100000 in
theorem bk_X5_lot {p : Program} {l : Launch} {e : Env} {s : State} {m : MethodId} {args : Array Value} {below : List Frame} {meth : Method} {c : Code} {Z : State → Prop} {D : va_G} {cA : Nat → ClassId} {h : Nat → Nat} {Q : sT → Prop} (C0 : cx p s m args c cX5_lot 4 RX5 D cA false keysRA h) (hret : rtV p l e rm_X5_lot s m args below meth c cX5_lot Z D (wR h cA) (aK keysRA h s.heap.size) Q) {x1 : Int32} {S : sT} {H : Heap} {locs : List Loc} {ls : Array Slot} (hP : va_P D vwCl (wR h cA S) H) (hS : va_S (aK keysRA h s.heap.size) s.heap H locs) (hd : wp_X5_lot x1 S Q) (hl : lv_has ls 4 [(0, .ref (h 100)), (1, .int x1)]) : W p l e rm_X5_lot s m args below meth c H locs 0 0 Z (F0 m 0 ls []) := by
  obtain ⟨⟨hx, hb, hml, hown, hts⟩, hK, -, -⟩ := id C0
  unfold wp_X5_lot at hd
  refine lv_iload_n hx hb dX5_lot_0 rfl (lv_at hl 1 rfl) ?_
  refine lv_bipush (v := 8) hx hb dX5_lot_1 (by decide) ?_
  refine lv_idiv hx hb dX5_lot_3 (by decide) ?_
  refine lv_aload_n hx hb dX5_lot_4 rfl (lv_at hl 0 rfl) ?_
  refine gf_X5_97 C0 hP dX5_lot_5 ?_
  obtain ⟨h_1, hd⟩ := hd
  refine lv_irem hx hb dX5_lot_8 h_1 ?_
  refine lv_istore_n (lv' := [(2, .int ((x1 / (8 : Int32)) - (x1 / (8 : Int32)) / (vI S 9) * (vI S 9))), (0, .ref (h 100)), (1, .int x1)]) hx hb dX5_lot_9 rfl hl (by decide) rfl (fun ls hl => ?_)
  refine lv_aload_n hx hb dX5_lot_10 rfl (lv_at hl 1 rfl) ?_
  refine cl_Vv (n := 0) (rest := []) C0 hP hS (c_X5_remember l C0.2.2.1 _ hd) (lwG_V lm_X5_201 li_X5_remember lx_X5_remember lz_RX5 lc_X5_remember) (by decide +kernel) (oR_at h cA _) rfl rfl rfl (Nat.le_of_ble_eq_true rfl) ⟨rfl, rfl⟩ ⟨by decide, by decide⟩ dX5_lot_11 hl.1 ⟨Nat.zero_le _, Nat.zero_le _⟩ (fun S_2 H locs hd hP hS => ?_)
  refine lv_iload_n hx hb dX5_lot_14 rfl (lv_at hl 2 rfl) ?_
  refine lv_iconst (v := 4) hx hb dX5_lot_15 (by decide) ?_
  refine lv_irem hx hb dX5_lot_16 (by decide) ?_
  refine lv_if_ne (tgt := 35) hx hb dX5_lot_17 (by decide) (fun hc => ?_) (fun hc => ?_)
  · have hd := hd.1 hc
    refine lv_iload_n hx hb dX5_lot_35 rfl (lv_at hl 2 rfl) ?_
    refine lv_iconst (v := 4) hx hb dX5_lot_36 (by decide) ?_
    refine lv_irem hx hb dX5_lot_37 (by decide) ?_
    refine lv_iconst (v := 1) hx hb dX5_lot_38 (by decide) ?_
    refine lv_icmp_ne (tgt := 60) hx hb dX5_lot_39 (by decide) (fun hc => ?_) (fun hc => ?_)
    · have hd := hd.1 hc
      refine lv_aload_n hx hb dX5_lot_60 rfl (lv_at hl 1 rfl) ?_
      refine gf_X5_35 C0 hP dX5_lot_61 ?_
      refine lv_iconst (v := 0) hx hb dX5_lot_64 (by decide) ?_
      obtain ⟨h_3, hd⟩ := hd
      refine ldR (by decide) C0 hP h_3 dX5_lot_65 ?_
      refine lv_bipush (v := 99) hx hb dX5_lot_66 (by decide) ?_
      refine lv_icmp_ge (tgt := 80) hx hb dX5_lot_68 (by decide) (fun hc => ?_) (fun hc => ?_)
      · have hd := hd.1 hc
        exact hret _ _ _ _ _ hd hP hS dX5_lot_80
      · have hd := hd.2 hc
        refine lv_aload_n hx hb dX5_lot_71 rfl (lv_at hl 1 rfl) ?_
        refine lv_aload_n hx hb dX5_lot_72 rfl (lv_at hl 1 rfl) ?_
        refine gf_X5_35 C0 hP dX5_lot_73 ?_
        refine cl_Vi (n := 1) (rest := []) C0 hP hS (c_X5_goes l C0.2.2.1 (by decide) _ hd) (lwG_V lm_X5_204 li_X5_goes lx_X5_goes lz_RX5 lc_X5_goes) (by decide +kernel) (oR_at h cA _) rfl rfl rfl (Nat.le_of_ble_eq_true rfl) ⟨rfl, rfl⟩ ⟨by decide, by decide⟩ dX5_lot_76 hl.1 ⟨Nat.zero_le _, Nat.zero_le _⟩ (fun r_4 S_4 H locs hd hP hS => ?_)
        refine lv_istore_n (lv' := [(3, .int r_4), (2, .int ((x1 / (8 : Int32)) - (x1 / (8 : Int32)) / (vI S 9) * (vI S 9))), (0, .ref (h 100)), (1, .int x1)]) hx hb dX5_lot_79 rfl hl (by decide) rfl (fun ls hl => ?_)
        exact hret _ _ _ _ _ hd hP hS dX5_lot_80
    · have hd := hd.2 hc
      refine lv_aload_n hx hb dX5_lot_42 rfl (lv_at hl 1 rfl) ?_
      refine gf_X5_35 C0 hP dX5_lot_43 ?_
      refine lv_iconst (v := 3) hx hb dX5_lot_46 (by decide) ?_
      refine lv_iload_n hx hb dX5_lot_47 rfl (lv_at hl 0 rfl) ?_
      refine lv_iadd hx hb dX5_lot_48 ?_
      refine lv_iload_n hx hb dX5_lot_49 rfl (lv_at hl 2 rfl) ?_
      refine lv_bipush (v := 64) hx hb dX5_lot_50 (by decide) ?_
      refine lv_idiv hx hb dX5_lot_52 (by decide) ?_
      refine lv_bipush (v := 10) hx hb dX5_lot_53 (by decide) ?_
      refine lv_irem hx hb dX5_lot_55 (by decide) ?_
      obtain ⟨h_5, hd⟩ := hd
      refine stR (by decide) C0 hP hS h_5 dX5_lot_56 (fun H locs hP hS => ?_)
      obtain ⟨S_6, eS_6⟩ : ∃ x : sT, x = uA S_2 14 (upd (vA S_2 14) ((3 : Int32) + ((x1 / (8 : Int32)) - (x1 / (8 : Int32)) / (vI S 9) * (vI S 9))).toNatClampNeg ((x1 / (64 : Int32)) - (x1 / (64 : Int32)) / (10 : Int32) * (10 : Int32))) := ⟨_, rfl⟩
      rw [← eS_6] at hP
      have hd := hd S_6 eS_6
      refine lv_goto (tgt := 80) hx hb dX5_lot_57 (by decide) ?_
      exact hret _ _ _ _ _ hd hP hS dX5_lot_80
  · have hd := hd.2 hc
    refine lv_aload_n hx hb dX5_lot_20 rfl (lv_at hl 1 rfl) ?_
    refine gf_X5_35 C0 hP dX5_lot_21 ?_
    refine lv_iconst (v := 2) hx hb dX5_lot_24 (by decide) ?_
    refine lv_dup2_11 hx hb dX5_lot_25 rfl rfl ?_
    obtain ⟨h_7, hd⟩ := hd
    refine ldR (by decide) C0 hP h_7 dX5_lot_26 ?_
    refine lv_iconst (v := 1) hx hb dX5_lot_27 (by decide) ?_
    refine lv_iload_n hx hb dX5_lot_28 rfl (lv_at hl 0 rfl) ?_
    refine lv_ishl hx hb dX5_lot_29 ?_
    refine lv_ixor hx hb dX5_lot_30 ?_
    obtain ⟨h_8, hd⟩ := hd
    refine stR (by decide) C0 hP hS h_8 dX5_lot_31 (fun H locs hP hS => ?_)
    obtain ⟨S_9, eS_9⟩ : ∃ x : sT, x = uA S_2 14 (upd (vA S_2 14) (2 : Int32).toNatClampNeg ((vA S_2 14 (2 : Int32).toNatClampNeg) ^^^ ((1 : Int32) <<< (((x1 / (8 : Int32)) - (x1 / (8 : Int32)) / (vI S 9) * (vI S 9)) &&& 31)))) := ⟨_, rfl⟩
    rw [← eS_9] at hP
    have hd := hd S_9 eS_9
    refine lv_goto (tgt := 80) hx hb dX5_lot_32 (by decide) ?_
    exact hret _ _ _ _ _ hd hP hS dX5_lot_80
theorem c_X5_lot (l : Launch) {D : va_G} {cA : Nat → ClassId} {h : Nat → Nat} (hk : ky keysRA h) {x1 : Int32} {S : sT} (sz : Nat) {Q : sT → Prop} (hd : wp_X5_lot x1 S Q) : Met l yX5_lot (wsU yX5_lot cX5_lot 4 none) rm_X5_lot (va_Pc [.ref (h 100), .int x1] (gP D cA false keysRA h (wR h cA) S sz)) (va_Qv Q (wB D (wR h cA)) (aK keysRA h sz)) 0 0 (aK keysRA h sz) :=
  mk_v (by decide) hk (Nat.le_of_ble_eq_true rfl) (fun p e s m below meth c Z ls C0 hret hP hS hl => bk_X5_lot C0 hret hP hS hd hl)
abbrev rm_X5_refuses : Room := { frames := 0, cells := 0, slots := 0, locals := 0 }
def wp_X5_refuses (x1 : Int32) (S : sT) (Q : Int32 → sT → Prop) : Prop :=
  ((¬ (vI S 9) = 0 → ((((vI S 17) + x1) ≤ (40 : Int32) → Q (0 : Int32) S) ∧ (¬ ((vI S 17) + x1) ≤ (40 : Int32) → Q (-2 : Int32) S))) ∧ ((vI S 9) = 0 → Q (-4 : Int32) S))
set_option maxHeartbeats 4000000 in
set_option maxRecDepth 100000 in
theorem bk_X5_refuses {p : Program} {l : Launch} {e : Env} {s : State} {m : MethodId} {args : Array Value} {below : List Frame} {meth : Method} {c : Code} {Z : State → Prop} {D : va_G} {cA : Nat → ClassId} {h : Nat → Nat} {Q : Int32 → sT → Prop} (C0 : cx p s m args c cX5_refuses 2 RX5 D cA false keysRA h) (hret : rtI p l e rm_X5_refuses s m args below meth c cX5_refuses Z D (wR h cA) (aK keysRA h s.heap.size) Q) {x1 : Int32} {S : sT} {H : Heap} {locs : List Loc} {ls : Array Slot} (hP : va_P D vwCl (wR h cA S) H) (hS : va_S (aK keysRA h s.heap.size) s.heap H locs) (hd : wp_X5_refuses x1 S Q) (hl : lv_has ls 2 [(0, .ref (h 100)), (1, .int x1)]) : W p l e rm_X5_refuses s m args below meth c H locs 0 0 Z (F0 m 0 ls []) := by
  obtain ⟨⟨hx, hb, hml, hown, hts⟩, hK, -, -⟩ := id C0
  unfold wp_X5_refuses at hd
  refine lv_aload_n hx hb dX5_refuses_0 rfl (lv_at hl 0 rfl) ?_
  refine gf_X5_97 C0 hP dX5_refuses_1 ?_
  refine lv_if_ne (tgt := 12) hx hb dX5_refuses_4 (by decide) (fun hc => ?_) (fun hc => ?_)
  · have hd := hd.1 hc
    refine lv_aload_n hx hb dX5_refuses_12 rfl (lv_at hl 0 rfl) ?_
    refine gf_X5_100 C0 hP dX5_refuses_13 ?_
    refine lv_iload_n hx hb dX5_refuses_16 rfl (lv_at hl 1 rfl) ?_
    refine lv_iadd hx hb dX5_refuses_17 ?_
    refine lv_bipush (v := 40) hx hb dX5_refuses_18 (by decide) ?_
    refine lv_icmp_le (tgt := 28) hx hb dX5_refuses_20 (by decide) (fun hc => ?_) (fun hc => ?_)
    · have hd := hd.1 hc
      refine lv_iconst (v := 0) hx hb dX5_refuses_28 (by decide) ?_
      exact hret _ _ _ _ _ _ hd hP hS dX5_refuses_29
    · have hd := hd.2 hc
      refine lv_bipush (v := (-2)) hx hb dX5_refuses_23 (by decide) ?_
      refine lv_goto (tgt := 29) hx hb dX5_refuses_25 (by decide) ?_
      exact hret _ _ _ _ _ _ hd hP hS dX5_refuses_29
  · have hd := hd.2 hc
    refine lv_bipush (v := (-4)) hx hb dX5_refuses_7 (by decide) ?_
    refine lv_goto (tgt := 29) hx hb dX5_refuses_9 (by decide) ?_
    exact hret _ _ _ _ _ _ hd hP hS dX5_refuses_29
theorem c_X5_refuses (l : Launch) {D : va_G} {cA : Nat → ClassId} {h : Nat → Nat} (hk : ky keysRA h) {x1 : Int32} {S : sT} (sz : Nat) {Q : Int32 → sT → Prop} (hd : wp_X5_refuses x1 S Q) : Met l yX5_refuses (wsU yX5_refuses cX5_refuses 2 (some .int)) rm_X5_refuses (va_Pc [.ref (h 100), .int x1] (gP D cA false keysRA h (wR h cA) S sz)) (va_Qi Q (wB D (wR h cA)) (aK keysRA h sz)) 0 0 (aK keysRA h sz) :=
  mk_i (by decide) hk (Nat.le_of_ble_eq_true rfl) (fun p e s m below meth c Z ls C0 hret hP hS hl => bk_X5_refuses C0 hret hP hS hd hl)
abbrev rm_X5_lots : Room := { frames := 5, cells := 0, slots := 0, locals := 115 }
def wb_X5_lots_45 (Q : Int32 → sT → Prop) (K45 : Int32 → Int64 → Int32 → sT → Prop) (x1 : Int32) (x4 : Int64) (x6 : Int32) (S : sT) : Prop :=
  ((x1 ≤ x6 → (vp_in (1 : Int32) 9) ∧ Q (vA S 14 (1 : Int32).toNatClampNeg) S) ∧ (¬ x1 ≤ x6 → ∀ z_2 : Int64, z_2 = ((x4 * (48271 : Int64)) - (x4 * (48271 : Int64)) / (2147483647 : Int64) * (2147483647 : Int64)) → wp_X5_lot z_2.toInt32 S (fun S_3 => K45 x1 z_2 (x6 + (1 : Int32)) S_3)))
set_option maxHeartbeats 4000000 in
set_option maxRecDepth 100000 in
theorem bk_X5_lots_45 {p : Program} {l : Launch} {e : Env} {s : State} {m : MethodId} {args : Array Value} {below : List Frame} {meth : Method} {c : Code} {Z : State → Prop} {D : va_G} {cA : Nat → ClassId} {h : Nat → Nat} {Q : Int32 → sT → Prop} (C0 : cx p s m args c cX5_lots 7 RX5 D cA false keysRA h) (hret : rtI p l e rm_X5_lots s m args below meth c cX5_lots Z D (wR h cA) (aK keysRA h s.heap.size) Q) {K45 : Int32 → Int64 → Int32 → sT → Prop} (k45 : ∀ (x1 : Int32) (x4 : Int64) (x6 : Int32) (S : sT) (H : Heap) (locs : List Loc) (ls : Array Slot), K45 x1 x4 x6 S → va_P D vwCl (wR h cA S) H → va_S (aK keysRA h s.heap.size) s.heap H locs → lv_has ls 7 [(0, .ref (h 100)), (1, .int x1), (4, .long x4), (6, .int x6)] → W p l e rm_X5_lots s m args below meth c H locs 0 0 Z (F0 m 45 ls [])) {x1 : Int32} {x4 : Int64} {x6 : Int32} {S : sT} {H : Heap} {locs : List Loc} {ls : Array Slot} (hP : va_P D vwCl (wR h cA S) H) (hS : va_S (aK keysRA h s.heap.size) s.heap H locs) (hd : wb_X5_lots_45 Q K45 x1 x4 x6 S) (hl : lv_has ls 7 [(0, .ref (h 100)), (1, .int x1), (4, .long x4), (6, .int x6)]) : W p l e rm_X5_lots s m args below meth c H locs 0 0 Z (F0 m 45 ls []) := by
  obtain ⟨⟨hx, hb, hml, hown, hts⟩, hK, -, -⟩ := id C0
  unfold wb_X5_lots_45 at hd
  refine lv_iload hx hb dX5_lots_45 (lv_at hl 3 rfl) ?_
  refine lv_iload_n hx hb dX5_lots_47 rfl (lv_at hl 1 rfl) ?_
  refine lv_icmp_ge (tgt := 76) hx hb dX5_lots_48 (by decide) (fun hc => ?_) (fun hc => ?_)
  · have hd := hd.1 hc
    refine lv_aload_n hx hb dX5_lots_76 rfl (lv_at hl 0 rfl) ?_
    refine gf_X5_35 C0 hP dX5_lots_77 ?_
    refine lv_iconst (v := 1) hx hb dX5_lots_80 (by decide) ?_
    obtain ⟨h_1, hd⟩ := hd
    refine ldR (by decide) C0 hP h_1 dX5_lots_81 ?_
    exact hret _ _ _ _ _ _ hd hP hS dX5_lots_82
  · have hd := hd.2 hc
    refine lv_lload hx hb dX5_lots_51 (lv_at hl 2 rfl) ?_
    refine lv_ldc2 hx hb hown (hts _ lk_X5_276) dX5_lots_53 ?_
    refine lv_lmul hx hb dX5_lots_56 ?_
    refine lv_ldc2 hx hb hown (hts _ lk_X5_278) dX5_lots_57 ?_
    refine lv_lrem hx hb dX5_lots_60 (by decide) ?_
    refine lv_topl (fun z_2 ez_2 => ?_)
    have hd := hd z_2 ez_2
    refine lv_lstore (lv' := [(4, .long z_2), (0, .ref (h 100)), (1, .int x1), (6, .int x6)]) hx hb dX5_lots_61 hl (by decide) rfl (fun ls hl => ?_)
    refine lv_aload_n hx hb dX5_lots_63 rfl (lv_at hl 1 rfl) ?_
    refine lv_lload hx hb dX5_lots_64 (lv_at hl 0 rfl) ?_
    refine lv_l2i hx hb dX5_lots_66 rfl ?_
    refine cl_Vv (n := 1) (rest := []) C0 hP hS (c_X5_lot l C0.2.2.1 _ hd) (lwG_V lm_X5_280 li_X5_lot lx_X5_lot lz_RX5 lc_X5_lot) (by decide +kernel) (oR_at h cA _) rfl rfl rfl (Nat.le_of_ble_eq_true rfl) ⟨rfl, rfl⟩ ⟨by decide, by decide⟩ dX5_lots_67 hl.1 ⟨Nat.zero_le _, Nat.zero_le _⟩ (fun S_3 H locs hd hP hS => ?_)
    refine lv_iinc (v := x6 + (1 : Int32)) (lv' := [(6, .int (x6 + (1 : Int32))), (4, .long z_2), (0, .ref (h 100)), (1, .int x1)]) hx hb dX5_lots_70 hl (k := 3) rfl rfl (by decide) rfl (fun ls hl => ?_)
    refine lv_goto (tgt := 45) hx hb dX5_lots_73 (by decide) ?_
    exact k45 _ _ _ _ _ _ _ hd hP hS (lv_sub hl [2, 3, 1, 0] rfl)
def wl_X5_lots_45 (Q : Int32 → sT → Prop) : Nat → Int32 → Int64 → Int32 → sT → Prop
  | 0, _, _, _ => fun _ => False
  | n + 1, x1, x4, x6 => fun S => wb_X5_lots_45 Q (fun x1 x4 x6 S => wl_X5_lots_45 Q n x1 x4 x6 S) x1 x4 x6 S
theorem bl_X5_lots_45 {p : Program} {l : Launch} {e : Env} {s : State} {m : MethodId} {args : Array Value} {below : List Frame} {meth : Method} {c : Code} {Z : State → Prop} {D : va_G} {cA : Nat → ClassId} {h : Nat → Nat} {Q : Int32 → sT → Prop} (C0 : cx p s m args c cX5_lots 7 RX5 D cA false keysRA h) (hret : rtI p l e rm_X5_lots s m args below meth c cX5_lots Z D (wR h cA) (aK keysRA h s.heap.size) Q) : ∀ (n : Nat) (x1 : Int32) (x4 : Int64) (x6 : Int32) (S : sT) (H : Heap) (locs : List Loc) (ls : Array Slot), va_P D vwCl (wR h cA S) H → va_S (aK keysRA h s.heap.size) s.heap H locs → wl_X5_lots_45 Q n x1 x4 x6 S → lv_has ls 7 [(0, .ref (h 100)), (1, .int x1), (4, .long x4), (6, .int x6)] → W p l e rm_X5_lots s m args below meth c H locs 0 0 Z (F0 m 45 ls []) := by
  intro n
  induction n with
  | zero => intro x1 x4 x6 S H locs ls hP hS hd hl; exact (show False from hd).elim
  | succ n ih => intro x1 x4 x6 S H locs ls hP hS hd hl; exact bk_X5_lots_45 C0 hret (fun x1 x4 x6 S H locs ls hd hP hS hl => ih x1 x4 x6 S H locs ls hP hS hd hl) hP hS hd hl
def wp_X5_lots (x1 : Int32) (x2 : Int32) (S : sT) (Q : Int32 → sT → Prop) : Prop :=
  wp_X5_in x1.toInt64 (1 : Int64) (20 : Int64) S (fun r_1 S_1 => ((r_1 = 0 → Q (-1 : Int32) S_1) ∧ (¬ r_1 = 0 → wp_X5_in x2.toInt64 (1 : Int64) (2147483646 : Int64) S_1 (fun r_2 S_2 => ((¬ r_2 = 0 → wp_X5_refuses x1 S_2 (fun r_3 S_3 => ((r_3 = 0 → ∃ n : Nat, wl_X5_lots_45 Q n x1 x2.toInt64 (0 : Int32) S_3) ∧ (¬ r_3 = 0 → Q r_3 S_3)))) ∧ (r_2 = 0 → Q (-1 : Int32) S_2))))))
set_option maxHeartbeats 4000000 in
set_option maxRecDepth 100000 in
theorem bk_X5_lots {p : Program} {l : Launch} {e : Env} {s : State} {m : MethodId} {args : Array Value} {below : List Frame} {meth : Method} {c : Code} {Z : State → Prop} {D : va_G} {cA : Nat → ClassId} {h : Nat → Nat} {Q : Int32 → sT → Prop} (C0 : cx p s m args c cX5_lots 7 RX5 D cA false keysRA h) (hret : rtI p l e rm_X5_lots s m args below meth c cX5_lots Z D (wR h cA) (aK keysRA h s.heap.size) Q) {x1 : Int32} {x2 : Int32} {S : sT} {H : Heap} {locs : List Loc} {ls : Array Slot} (hP : va_P D vwCl (wR h cA S) H) (hS : va_S (aK keysRA h s.heap.size) s.heap H locs) (hd : wp_X5_lots x1 x2 S Q) (hl : lv_has ls 7 [(0, .ref (h 100)), (1, .int x1), (2, .int x2)]) : W p l e rm_X5_lots s m args below meth c H locs 0 0 Z (F0 m 0 ls []) := by
  obtain ⟨⟨hx, hb, hml, hown, hts⟩, hK, -, -⟩ := id C0
  unfold wp_X5_lots at hd
  refine lv_iload_n hx hb dX5_lots_0 rfl (lv_at hl 1 rfl) ?_
  refine lv_i2l hx hb dX5_lots_1 rfl ?_
  refine lv_lconst (v := 1) hx hb dX5_lots_2 (by decide) ?_
  refine lv_ldc2 hx hb hown (hts _ lk_X5_231) dX5_lots_3 ?_
  refine cl_Si (n := 3) (rest := []) C0 hP hS (c_X5_in l C0.2.2.1 _ hd) (lwG_S lm_X5_77 ls_X5_in lz_RX5 lc_X5_in) (by decide +kernel) rfl rfl (Nat.le_of_ble_eq_true rfl) ⟨rfl, rfl⟩ ⟨by decide, by decide⟩ dX5_lots_6 hl.1 ⟨Nat.zero_le _, Nat.zero_le _⟩ (fun r_1 S_1 H locs hd hP hS => ?_)
  refine lv_if_eq (tgt := 24) hx hb dX5_lots_9 (by decide) (fun hc => ?_) (fun hc => ?_)
  · have hd := hd.1 hc
    refine lv_iconst (v := (-1)) hx hb dX5_lots_24 (by decide) ?_
    exact hret _ _ _ _ _ _ hd hP hS dX5_lots_25
  · have hd := hd.2 hc
    refine lv_iload_n hx hb dX5_lots_12 rfl (lv_at hl 2 rfl) ?_
    refine lv_i2l hx hb dX5_lots_13 rfl ?_
    refine lv_lconst (v := 1) hx hb dX5_lots_14 (by decide) ?_
    refine lv_ldc2 hx hb hown (hts _ lk_X5_271) dX5_lots_15 ?_
    refine cl_Si (n := 3) (rest := []) C0 hP hS (c_X5_in l C0.2.2.1 _ hd) (lwG_S lm_X5_77 ls_X5_in lz_RX5 lc_X5_in) (by decide +kernel) rfl rfl (Nat.le_of_ble_eq_true rfl) ⟨rfl, rfl⟩ ⟨by decide, by decide⟩ dX5_lots_18 hl.1 ⟨Nat.zero_le _, Nat.zero_le _⟩ (fun r_2 S_2 H locs hd hP hS => ?_)
    refine lv_if_ne (tgt := 26) hx hb dX5_lots_21 (by decide) (fun hc => ?_) (fun hc => ?_)
    · have hd := hd.1 hc
      refine lv_aload_n hx hb dX5_lots_26 rfl (lv_at hl 0 rfl) ?_
      refine lv_iload_n hx hb dX5_lots_27 rfl (lv_at hl 1 rfl) ?_
      refine cl_Vi (n := 1) (rest := []) C0 hP hS (c_X5_refuses l C0.2.2.1 _ hd) (lwG_V lm_X5_273 li_X5_refuses lx_X5_refuses lz_RX5 lc_X5_refuses) (by decide +kernel) (oR_at h cA _) rfl rfl rfl (Nat.le_of_ble_eq_true rfl) ⟨rfl, rfl⟩ ⟨by decide, by decide⟩ dX5_lots_28 hl.1 ⟨Nat.zero_le _, Nat.zero_le _⟩ (fun r_3 S_3 H locs hd hP hS => ?_)
      refine lv_istore_n (lv' := [(3, .int r_3), (0, .ref (h 100)), (1, .int x1), (2, .int x2)]) hx hb dX5_lots_31 rfl hl (by decide) rfl (fun ls hl => ?_)
      refine lv_iload_n hx hb dX5_lots_32 rfl (lv_at hl 0 rfl) ?_
      refine lv_if_eq (tgt := 38) hx hb dX5_lots_33 (by decide) (fun hc => ?_) (fun hc => ?_)
      · have hd := hd.1 hc
        refine lv_iload_n hx hb dX5_lots_38 rfl (lv_at hl 3 rfl) ?_
        refine lv_i2l hx hb dX5_lots_39 rfl ?_
        refine lv_lstore (lv' := [(4, .long x2.toInt64), (3, .int r_3), (0, .ref (h 100)), (1, .int x1), (2, .int x2)]) hx hb dX5_lots_40 hl (by decide) rfl (fun ls hl => ?_)
        refine lv_iconst (v := 0) hx hb dX5_lots_42 (by decide) ?_
        refine lv_istore (lv' := [(6, .int (0 : Int32)), (4, .long x2.toInt64), (3, .int r_3), (0, .ref (h 100)), (1, .int x1), (2, .int x2)]) hx hb dX5_lots_43 hl (by decide) rfl (fun ls hl => ?_)
        obtain ⟨n_4, hd⟩ := hd
        exact bl_X5_lots_45 C0 hret _ _ _ _ _ _ _ _ hP hS hd (lv_sub hl [3, 4, 1, 0] rfl)
      · have hd := hd.2 hc
        refine lv_iload_n hx hb dX5_lots_36 rfl (lv_at hl 0 rfl) ?_
        exact hret _ _ _ _ _ _ hd hP hS dX5_lots_37
    · have hd := hd.2 hc
      refine lv_iconst (v := (-1)) hx hb dX5_lots_24 (by decide) ?_
      exact hret _ _ _ _ _ _ hd hP hS dX5_lots_25
theorem c_X5_lots (l : Launch) {D : va_G} {cA : Nat → ClassId} {h : Nat → Nat} (hk : ky keysRA h) {x1 : Int32} {x2 : Int32} {S : sT} (sz : Nat) {Q : Int32 → sT → Prop} (hd : wp_X5_lots x1 x2 S Q) : Met l yX5_lots (wsU yX5_lots cX5_lots 7 (some .int)) rm_X5_lots (va_Pc [.ref (h 100), .int x1, .int x2] (gP D cA false keysRA h (wR h cA) S sz)) (va_Qi Q (wB D (wR h cA)) (aK keysRA h sz)) 0 0 (aK keysRA h sz) :=
  mk_i (by decide) hk (Nat.le_of_ble_eq_true rfl) (fun p e s m below meth c Z ls C0 hret hP hS hl => bk_X5_lots C0 hret hP hS hd hl)
abbrev rm_X5_lower : Room := { frames := 0, cells := 0, slots := 0, locals := 0 }
def wp_X5_lower (S : sT) (Q : Int64 → sT → Prop) : Prop :=
  Q (vL S 6) S
set_option maxHeartbeats 4000000 in
set_option maxRecDepth 100000 in
theorem bk_X5_lower {p : Program} {l : Launch} {e : Env} {s : State} {m : MethodId} {args : Array Value} {below : List Frame} {meth : Method} {c : Code} {Z : State → Prop} {D : va_G} {cA : Nat → ClassId} {h : Nat → Nat} {Q : Int64 → sT → Prop} (C0 : cx p s m args c cX5_lower 1 RX5 D cA false keysRA h) (hret : rtL p l e rm_X5_lower s m args below meth c cX5_lower Z D (wR h cA) (aK keysRA h s.heap.size) Q) {S : sT} {H : Heap} {locs : List Loc} {ls : Array Slot} (hP : va_P D vwCl (wR h cA S) H) (hS : va_S (aK keysRA h s.heap.size) s.heap H locs) (hd : wp_X5_lower S Q) (hl : lv_has ls 1 [(0, .ref (h 100))]) : W p l e rm_X5_lower s m args below meth c H locs 0 0 Z (F0 m 0 ls []) := by
  obtain ⟨⟨hx, hb, hml, hown, hts⟩, hK, -, -⟩ := id C0
  unfold wp_X5_lower at hd
  refine lv_aload_n hx hb dX5_lower_0 rfl (lv_at hl 0 rfl) ?_
  refine gf_X5_22 C0 hP dX5_lower_1 ?_
  exact hret _ _ _ _ _ _ hd hP hS dX5_lower_4
theorem c_X5_lower (l : Launch) {D : va_G} {cA : Nat → ClassId} {h : Nat → Nat} (hk : ky keysRA h) {S : sT} (sz : Nat) {Q : Int64 → sT → Prop} (hd : wp_X5_lower S Q) : Met l yX5_lower (wsU yX5_lower cX5_lower 1 (some .long)) rm_X5_lower (va_Pc [.ref (h 100)] (gP D cA false keysRA h (wR h cA) S sz)) (va_Ql Q (wB D (wR h cA)) (aK keysRA h sz)) 0 0 (aK keysRA h sz) :=
  mk_l (by decide) hk (Nat.le_of_ble_eq_true rfl) (fun p e s m below meth c Z ls C0 hret hP hS hl => bk_X5_lower C0 hret hP hS hd hl)
abbrev rm_X5_lull : Room := { frames := 3, cells := 0, slots := 0, locals := 68 }
def wp_X5_lull (x1 : Int32) (S : sT) (Q : Int32 → sT → Prop) : Prop :=
  wp_X5_isOne x1 S (fun r_1 S_1 => ((¬ r_1 = 0 → (vp_in (2 : Int32) 9) ∧ wp_X5_has (vA S_1 14 (2 : Int32).toNatClampNeg) x1 S_1 (fun r_3 S_3 => ((r_3 = 0 → ((¬ (vI S_3 17) = (40 : Int32) → wp_X5_remember S_3 (fun S_4 => (vp_in (2 : Int32) 9) ∧ (vp_in (2 : Int32) 9) ∧ ∀ S_7 : sT, S_7 = uA S_4 14 (upd (vA S_4 14) (2 : Int32).toNatClampNeg ((vA S_4 14 (2 : Int32).toNatClampNeg) ^^^ ((1 : Int32) <<< (x1 &&& 31)))) → wp_X5_isDreaming x1 S_7 (fun r_8 S_8 => ((r_8 = 0 → Q (0 : Int32) S_8) ∧ (¬ r_8 = 0 → Q (1 : Int32) S_8))))) ∧ ((vI S_3 17) = (40 : Int32) → Q (-2 : Int32) S_3))) ∧ (¬ r_3 = 0 → Q (-4 : Int32) S_3)))) ∧ (r_1 = 0 → Q (-1 : Int32) S_1)))
set_option maxHeartbeats 4000000 in
set_option maxRecDepth 100000 in
theorem bk_X5_lull {p : Program} {l : Launch} {e : Env} {s : State} {m : MethodId} {args : Array Value} {below : List Frame} {meth : Method} {c : Code} {Z : State → Prop} {D : va_G} {cA : Nat → ClassId} {h : Nat → Nat} {Q : Int32 → sT → Prop} (C0 : cx p s m args c cX5_lull 2 RX5 D cA false keysRA h) (hret : rtI p l e rm_X5_lull s m args below meth c cX5_lull Z D (wR h cA) (aK keysRA h s.heap.size) Q) {x1 : Int32} {S : sT} {H : Heap} {locs : List Loc} {ls : Array Slot} (hP : va_P D vwCl (wR h cA S) H) (hS : va_S (aK keysRA h s.heap.size) s.heap H locs) (hd : wp_X5_lull x1 S Q) (hl : lv_has ls 2 [(0, .ref (h 100)), (1, .int x1)]) : W p l e rm_X5_lull s m args below meth c H locs 0 0 Z (F0 m 0 ls []) := by
  obtain ⟨⟨hx, hb, hml, hown, hts⟩, hK, -, -⟩ := id C0
  unfold wp_X5_lull at hd
  refine lv_aload_n hx hb dX5_lull_0 rfl (lv_at hl 0 rfl) ?_
  refine lv_iload_n hx hb dX5_lull_1 rfl (lv_at hl 1 rfl) ?_
  refine cl_Vi (n := 1) (rest := []) C0 hP hS (c_X5_isOne l C0.2.2.1 _ hd) (lwG_V lm_X5_176 li_X5_isOne lx_X5_isOne lz_RX5 lc_X5_isOne) (by decide +kernel) (oR_at h cA _) rfl rfl rfl (Nat.le_of_ble_eq_true rfl) ⟨rfl, rfl⟩ ⟨by decide, by decide⟩ dX5_lull_2 hl.1 ⟨Nat.zero_le _, Nat.zero_le _⟩ (fun r_1 S_1 H locs hd hP hS => ?_)
  refine lv_if_ne (tgt := 10) hx hb dX5_lull_5 (by decide) (fun hc => ?_) (fun hc => ?_)
  · have hd := hd.1 hc
    refine lv_aload_n hx hb dX5_lull_10 rfl (lv_at hl 0 rfl) ?_
    refine gf_X5_35 C0 hP dX5_lull_11 ?_
    refine lv_iconst (v := 2) hx hb dX5_lull_14 (by decide) ?_
    obtain ⟨h_2, hd⟩ := hd
    refine ldR (by decide) C0 hP h_2 dX5_lull_15 ?_
    refine lv_iload_n hx hb dX5_lull_16 rfl (lv_at hl 1 rfl) ?_
    refine cl_Si (n := 2) (rest := []) C0 hP hS (c_X5_has l C0.2.2.1 _ hd) (lwG_S lm_X5_165 ls_X5_has lz_RX5 lc_X5_has) (by decide +kernel) rfl rfl (Nat.le_of_ble_eq_true rfl) ⟨rfl, rfl⟩ ⟨by decide, by decide⟩ dX5_lull_17 hl.1 ⟨Nat.zero_le _, Nat.zero_le _⟩ (fun r_3 S_3 H locs hd hP hS => ?_)
    refine lv_if_eq (tgt := 26) hx hb dX5_lull_20 (by decide) (fun hc => ?_) (fun hc => ?_)
    · have hd := hd.1 hc
      refine lv_aload_n hx hb dX5_lull_26 rfl (lv_at hl 0 rfl) ?_
      refine gf_X5_100 C0 hP dX5_lull_27 ?_
      refine lv_bipush (v := 40) hx hb dX5_lull_30 (by decide) ?_
      refine lv_icmp_ne (tgt := 38) hx hb dX5_lull_32 (by decide) (fun hc => ?_) (fun hc => ?_)
      · have hd := hd.1 hc
        refine lv_aload_n hx hb dX5_lull_38 rfl (lv_at hl 0 rfl) ?_
        refine cl_Vv (n := 0) (rest := []) C0 hP hS (c_X5_remember l C0.2.2.1 _ hd) (lwG_V lm_X5_201 li_X5_remember lx_X5_remember lz_RX5 lc_X5_remember) (by decide +kernel) (oR_at h cA _) rfl rfl rfl (Nat.le_of_ble_eq_true rfl) ⟨rfl, rfl⟩ ⟨by decide, by decide⟩ dX5_lull_39 hl.1 ⟨Nat.zero_le _, Nat.zero_le _⟩ (fun S_4 H locs hd hP hS => ?_)
        refine lv_aload_n hx hb dX5_lull_42 rfl (lv_at hl 0 rfl) ?_
        refine gf_X5_35 C0 hP dX5_lull_43 ?_
        refine lv_iconst (v := 2) hx hb dX5_lull_46 (by decide) ?_
        refine lv_dup2_11 hx hb dX5_lull_47 rfl rfl ?_
        obtain ⟨h_5, hd⟩ := hd
        refine ldR (by decide) C0 hP h_5 dX5_lull_48 ?_
        refine lv_iconst (v := 1) hx hb dX5_lull_49 (by decide) ?_
        refine lv_iload_n hx hb dX5_lull_50 rfl (lv_at hl 1 rfl) ?_
        refine lv_ishl hx hb dX5_lull_51 ?_
        refine lv_ixor hx hb dX5_lull_52 ?_
        obtain ⟨h_6, hd⟩ := hd
        refine stR (by decide) C0 hP hS h_6 dX5_lull_53 (fun H locs hP hS => ?_)
        obtain ⟨S_7, eS_7⟩ : ∃ x : sT, x = uA S_4 14 (upd (vA S_4 14) (2 : Int32).toNatClampNeg ((vA S_4 14 (2 : Int32).toNatClampNeg) ^^^ ((1 : Int32) <<< (x1 &&& 31)))) := ⟨_, rfl⟩
        rw [← eS_7] at hP
        have hd := hd S_7 eS_7
        refine lv_aload_n hx hb dX5_lull_54 rfl (lv_at hl 0 rfl) ?_
        refine lv_iload_n hx hb dX5_lull_55 rfl (lv_at hl 1 rfl) ?_
        refine cl_Vi (n := 1) (rest := []) C0 hP hS (c_X5_isDreaming l C0.2.2.1 _ hd) (lwG_V lm_X5_181 li_X5_isDreaming lx_X5_isDreaming lz_RX5 lc_X5_isDreaming) (by decide +kernel) (oR_at h cA _) rfl rfl rfl (Nat.le_of_ble_eq_true rfl) ⟨rfl, rfl⟩ ⟨by decide, by decide⟩ dX5_lull_56 hl.1 ⟨Nat.zero_le _, Nat.zero_le _⟩ (fun r_8 S_8 H locs hd hP hS => ?_)
        refine lv_if_eq (tgt := 66) hx hb dX5_lull_59 (by decide) (fun hc => ?_) (fun hc => ?_)
        · have hd := hd.1 hc
          refine lv_iconst (v := 0) hx hb dX5_lull_66 (by decide) ?_
          exact hret _ _ _ _ _ _ hd hP hS dX5_lull_67
        · have hd := hd.2 hc
          refine lv_iconst (v := 1) hx hb dX5_lull_62 (by decide) ?_
          refine lv_goto (tgt := 67) hx hb dX5_lull_63 (by decide) ?_
          exact hret _ _ _ _ _ _ hd hP hS dX5_lull_67
      · have hd := hd.2 hc
        refine lv_bipush (v := (-2)) hx hb dX5_lull_35 (by decide) ?_
        exact hret _ _ _ _ _ _ hd hP hS dX5_lull_37
    · have hd := hd.2 hc
      refine lv_bipush (v := (-4)) hx hb dX5_lull_23 (by decide) ?_
      exact hret _ _ _ _ _ _ hd hP hS dX5_lull_25
  · have hd := hd.2 hc
    refine lv_iconst (v := (-1)) hx hb dX5_lull_8 (by decide) ?_
    exact hret _ _ _ _ _ _ hd hP hS dX5_lull_9
theorem c_X5_lull (l : Launch) {D : va_G} {cA : Nat → ClassId} {h : Nat → Nat} (hk : ky keysRA h) {x1 : Int32} {S : sT} (sz : Nat) {Q : Int32 → sT → Prop} (hd : wp_X5_lull x1 S Q) : Met l yX5_lull (wsU yX5_lull cX5_lull 2 (some .int)) rm_X5_lull (va_Pc [.ref (h 100), .int x1] (gP D cA false keysRA h (wR h cA) S sz)) (va_Qi Q (wB D (wR h cA)) (aK keysRA h sz)) 0 0 (aK keysRA h sz) :=
  mk_i (by decide) hk (Nat.le_of_ble_eq_true rfl) (fun p e s m below meth c Z ls C0 hret hP hS hl => bk_X5_lull C0 hret hP hS hd hl)
abbrev rm_X5_often : Room := { frames := 1, cells := 0, slots := 0, locals := 24 }
def wb_X5_often_25 (Q : Int32 → sT → Prop) (K4 : Int32 → Int32 → Int32 → Int32 → sT → Prop) (x0 : Int32) (x1 : Int32) (x3 : Int32) (y0 : Int32) (y1 : Int32) (S : sT) : Prop :=
  K4 x0 x1 (y0 + y1) (x3 + (1 : Int32)) S
set_option maxHeartbeats 4000000 in
set_option maxRecDepth 100000 in
theorem bk_X5_often_25 {p : Program} {l : Launch} {e : Env} {s : State} {m : MethodId} {args : Array Value} {below : List Frame} {meth : Method} {c : Code} {Z : State → Prop} {D : va_G} {cA : Nat → ClassId} {h : Nat → Nat} {Q : Int32 → sT → Prop} (C0 : cx p s m args c cX5_often 4 RX5 D cA false keysRA h) (hret : rtI p l e rm_X5_often s m args below meth c cX5_often Z D (wR h cA) (aK keysRA h s.heap.size) Q) {K4 : Int32 → Int32 → Int32 → Int32 → sT → Prop} (k4 : ∀ (x0 : Int32) (x1 : Int32) (x2 : Int32) (x3 : Int32) (S : sT) (H : Heap) (locs : List Loc) (ls : Array Slot), K4 x0 x1 x2 x3 S → va_P D vwCl (wR h cA S) H → va_S (aK keysRA h s.heap.size) s.heap H locs → lv_has ls 4 [(0, .int x0), (1, .int x1), (2, .int x2), (3, .int x3)] → W p l e rm_X5_often s m args below meth c H locs 0 0 Z (F0 m 4 ls [])) {x0 : Int32} {x1 : Int32} {x3 : Int32} {y0 : Int32} {y1 : Int32} {S : sT} {H : Heap} {locs : List Loc} {ls : Array Slot} (hP : va_P D vwCl (wR h cA S) H) (hS : va_S (aK keysRA h s.heap.size) s.heap H locs) (hd : wb_X5_often_25 Q K4 x0 x1 x3 y0 y1 S) (hl : lv_has ls 4 [(0, .int x0), (1, .int x1), (3, .int x3)]) : W p l e rm_X5_often s m args below meth c H locs 0 0 Z (F0 m 25 ls [.int y1, .int y0]) := by
  obtain ⟨⟨hx, hb, hml, hown, hts⟩, hK, -, -⟩ := id C0
  unfold wb_X5_often_25 at hd
  refine lv_iadd hx hb dX5_often_25 ?_
  refine lv_istore_n (lv' := [(2, .int (y0 + y1)), (0, .int x0), (1, .int x1), (3, .int x3)]) hx hb dX5_often_26 rfl hl (by decide) rfl (fun ls hl => ?_)
  refine lv_iinc (v := x3 + (1 : Int32)) (lv' := [(3, .int (x3 + (1 : Int32))), (2, .int (y0 + y1)), (0, .int x0), (1, .int x1)]) hx hb dX5_often_27 hl (k := 3) rfl rfl (by decide) rfl (fun ls hl => ?_)
  refine lv_goto (tgt := 4) hx hb dX5_often_30 (by decide) ?_
  exact k4 _ _ _ _ _ _ _ _ hd hP hS (lv_sub hl [2, 3, 1, 0] rfl)
def wb_X5_often_4 (Q : Int32 → sT → Prop) (K4 : Int32 → Int32 → Int32 → Int32 → sT → Prop) (x0 : Int32) (x1 : Int32) (x2 : Int32) (x3 : Int32) (S : sT) : Prop :=
  (((60 : Int32) ≤ x3 → Q x2 S) ∧ (¬ (60 : Int32) ≤ x3 → wp_X5_dreamsBy x0 x1 x3 S (fun r_1 S_1 => ((r_1 = 0 → wb_X5_often_25 Q K4 x0 x1 x3 x2 (0 : Int32) S_1) ∧ (¬ r_1 = 0 → wb_X5_often_25 Q K4 x0 x1 x3 x2 (1 : Int32) S_1)))))
set_option maxHeartbeats 4000000 in
set_option maxRecDepth 100000 in
theorem bk_X5_often_4 {p : Program} {l : Launch} {e : Env} {s : State} {m : MethodId} {args : Array Value} {below : List Frame} {meth : Method} {c : Code} {Z : State → Prop} {D : va_G} {cA : Nat → ClassId} {h : Nat → Nat} {Q : Int32 → sT → Prop} (C0 : cx p s m args c cX5_often 4 RX5 D cA false keysRA h) (hret : rtI p l e rm_X5_often s m args below meth c cX5_often Z D (wR h cA) (aK keysRA h s.heap.size) Q) {K4 : Int32 → Int32 → Int32 → Int32 → sT → Prop} (k4 : ∀ (x0 : Int32) (x1 : Int32) (x2 : Int32) (x3 : Int32) (S : sT) (H : Heap) (locs : List Loc) (ls : Array Slot), K4 x0 x1 x2 x3 S → va_P D vwCl (wR h cA S) H → va_S (aK keysRA h s.heap.size) s.heap H locs → lv_has ls 4 [(0, .int x0), (1, .int x1), (2, .int x2), (3, .int x3)] → W p l e rm_X5_often s m args below meth c H locs 0 0 Z (F0 m 4 ls [])) {x0 : Int32} {x1 : Int32} {x2 : Int32} {x3 : Int32} {S : sT} {H : Heap} {locs : List Loc} {ls : Array Slot} (hP : va_P D vwCl (wR h cA S) H) (hS : va_S (aK keysRA h s.heap.size) s.heap H locs) (hd : wb_X5_often_4 Q K4 x0 x1 x2 x3 S) (hl : lv_has ls 4 [(0, .int x0), (1, .int x1), (2, .int x2), (3, .int x3)]) : W p l e rm_X5_often s m args below meth c H locs 0 0 Z (F0 m 4 ls []) := by
  obtain ⟨⟨hx, hb, hml, hown, hts⟩, hK, -, -⟩ := id C0
  unfold wb_X5_often_4 at hd
  refine lv_iload_n hx hb dX5_often_4 rfl (lv_at hl 3 rfl) ?_
  refine lv_bipush (v := 60) hx hb dX5_often_5 (by decide) ?_
  refine lv_icmp_ge (tgt := 33) hx hb dX5_often_7 (by decide) (fun hc => ?_) (fun hc => ?_)
  · have hd := hd.1 hc
    refine lv_iload_n hx hb dX5_often_33 rfl (lv_at hl 2 rfl) ?_
    exact hret _ _ _ _ _ _ hd hP hS dX5_often_34
  · have hd := hd.2 hc
    refine lv_iload_n hx hb dX5_often_10 rfl (lv_at hl 2 rfl) ?_
    refine lv_iload_n hx hb dX5_often_11 rfl (lv_at hl 0 rfl) ?_
    refine lv_iload_n hx hb dX5_often_12 rfl (lv_at hl 1 rfl) ?_
    refine lv_iload_n hx hb dX5_often_13 rfl (lv_at hl 3 rfl) ?_
    refine cl_Si (n := 3) (rest := [.int x2]) C0 hP hS (c_X5_dreamsBy l C0.2.2.1 _ hd) (lwG_S lm_X5_161 ls_X5_dreamsBy lz_RX5 lc_X5_dreamsBy) (by decide +kernel) rfl rfl (Nat.le_of_ble_eq_true rfl) ⟨rfl, rfl⟩ ⟨by decide, by decide⟩ dX5_often_14 hl.1 ⟨Nat.zero_le _, Nat.zero_le _⟩ (fun r_1 S_1 H locs hd hP hS => ?_)
    refine lv_if_eq (tgt := 24) hx hb dX5_often_17 (by decide) (fun hc => ?_) (fun hc => ?_)
    · have hd := hd.1 hc
      refine lv_iconst (v := 0) hx hb dX5_often_24 (by decide) ?_
      exact bk_X5_often_25 C0 hret k4 hP hS hd (lv_sub hl [0, 1, 3] rfl)
    · have hd := hd.2 hc
      refine lv_iconst (v := 1) hx hb dX5_often_20 (by decide) ?_
      refine lv_goto (tgt := 25) hx hb dX5_often_21 (by decide) ?_
      exact bk_X5_often_25 C0 hret k4 hP hS hd (lv_sub hl [0, 1, 3] rfl)
def wl_X5_often_4 (Q : Int32 → sT → Prop) : Nat → Int32 → Int32 → Int32 → Int32 → sT → Prop
  | 0, _, _, _, _ => fun _ => False
  | n + 1, x0, x1, x2, x3 => fun S => wb_X5_often_4 Q (fun x0 x1 x2 x3 S => wl_X5_often_4 Q n x0 x1 x2 x3 S) x0 x1 x2 x3 S
theorem bl_X5_often_4 {p : Program} {l : Launch} {e : Env} {s : State} {m : MethodId} {args : Array Value} {below : List Frame} {meth : Method} {c : Code} {Z : State → Prop} {D : va_G} {cA : Nat → ClassId} {h : Nat → Nat} {Q : Int32 → sT → Prop} (C0 : cx p s m args c cX5_often 4 RX5 D cA false keysRA h) (hret : rtI p l e rm_X5_often s m args below meth c cX5_often Z D (wR h cA) (aK keysRA h s.heap.size) Q) : ∀ (n : Nat) (x0 : Int32) (x1 : Int32) (x2 : Int32) (x3 : Int32) (S : sT) (H : Heap) (locs : List Loc) (ls : Array Slot), va_P D vwCl (wR h cA S) H → va_S (aK keysRA h s.heap.size) s.heap H locs → wl_X5_often_4 Q n x0 x1 x2 x3 S → lv_has ls 4 [(0, .int x0), (1, .int x1), (2, .int x2), (3, .int x3)] → W p l e rm_X5_often s m args below meth c H locs 0 0 Z (F0 m 4 ls []) := by
  intro n
  induction n with
  | zero => intro x0 x1 x2 x3 S H locs ls hP hS hd hl; exact (show False from hd).elim
  | succ n ih => intro x0 x1 x2 x3 S H locs ls hP hS hd hl; exact bk_X5_often_4 C0 hret (fun x0 x1 x2 x3 S H locs ls hd hP hS hl => ih x0 x1 x2 x3 S H locs ls hP hS hd hl) hP hS hd hl
def wp_X5_often (x0 : Int32) (x1 : Int32) (S : sT) (Q : Int32 → sT → Prop) : Prop :=
  ∃ n : Nat, wl_X5_often_4 Q n x0 x1 (0 : Int32) (0 : Int32) S
set_option maxHeartbeats 4000000 in
set_option maxRecDepth 100000 in
theorem bk_X5_often {p : Program} {l : Launch} {e : Env} {s : State} {m : MethodId} {args : Array Value} {below : List Frame} {meth : Method} {c : Code} {Z : State → Prop} {D : va_G} {cA : Nat → ClassId} {h : Nat → Nat} {Q : Int32 → sT → Prop} (C0 : cx p s m args c cX5_often 4 RX5 D cA false keysRA h) (hret : rtI p l e rm_X5_often s m args below meth c cX5_often Z D (wR h cA) (aK keysRA h s.heap.size) Q) {x0 : Int32} {x1 : Int32} {S : sT} {H : Heap} {locs : List Loc} {ls : Array Slot} (hP : va_P D vwCl (wR h cA S) H) (hS : va_S (aK keysRA h s.heap.size) s.heap H locs) (hd : wp_X5_often x0 x1 S Q) (hl : lv_has ls 4 [(0, .int x0), (1, .int x1)]) : W p l e rm_X5_often s m args below meth c H locs 0 0 Z (F0 m 0 ls []) := by
  obtain ⟨⟨hx, hb, hml, hown, hts⟩, hK, -, -⟩ := id C0
  unfold wp_X5_often at hd
  refine lv_iconst (v := 0) hx hb dX5_often_0 (by decide) ?_
  refine lv_istore_n (lv' := [(2, .int (0 : Int32)), (0, .int x0), (1, .int x1)]) hx hb dX5_often_1 rfl hl (by decide) rfl (fun ls hl => ?_)
  refine lv_iconst (v := 0) hx hb dX5_often_2 (by decide) ?_
  refine lv_istore_n (lv' := [(3, .int (0 : Int32)), (2, .int (0 : Int32)), (0, .int x0), (1, .int x1)]) hx hb dX5_often_3 rfl hl (by decide) rfl (fun ls hl => ?_)
  obtain ⟨n_1, hd⟩ := hd
  exact bl_X5_often_4 C0 hret _ _ _ _ _ _ _ _ _ hP hS hd (lv_sub hl [2, 3, 1, 0] rfl)
theorem c_X5_often (l : Launch) {D : va_G} {cA : Nat → ClassId} {h : Nat → Nat} (hk : ky keysRA h) {x0 : Int32} {x1 : Int32} {S : sT} (sz : Nat) {Q : Int32 → sT → Prop} (hd : wp_X5_often x0 x1 S Q) : Met l yX5_often (wsU yX5_often cX5_often 4 (some .int)) rm_X5_often (va_Pc [.int x0, .int x1] (gP D cA false keysRA h (wR h cA) S sz)) (va_Qi Q (wB D (wR h cA)) (aK keysRA h sz)) 0 0 (aK keysRA h sz) :=
  mk_i (by decide) hk (Nat.le_of_ble_eq_true rfl) (fun p e s m below meth c Z ls C0 hret hP hS hl => bk_X5_often C0 hret hP hS hd hl)
