abbrev rm_X5_mark : Room := { frames := 2, cells := 0, slots := 0, locals := 48 }
def wp_X5_mark (x1 : Int32) (x2 : Int32) (S : sT) (Q : Int32 → sT → Prop) : Prop :=
  wp_X5_isOne x1 S (fun r_1 S_1 => ((r_1 = 0 → Q (-1 : Int32) S_1) ∧ (¬ r_1 = 0 → wp_X5_in x2.toInt64 (1 : Int64) (5 : Int64) S_1 (fun r_2 S_2 => ((¬ r_2 = 0 → (vp_in x1 6) ∧ wp_X5_isOf (vA S_2 12 x1.toNatClampNeg) x2 S_2 (fun r_4 S_4 => ((¬ r_4 = 0 → (vp_in ((3 : Int32) + x1) 9) ∧ ((x2 = (1 : Int32) → (vp_in x1 6) ∧ wp_X5_often (vA S_4 12 x1.toNatClampNeg) (vA S_4 14 ((3 : Int32) + x1).toNatClampNeg) S_4 (fun r_9 S_9 => Q r_9 S_9)) ∧ (x2 = (2 : Int32) → (vp_in x1 6) ∧ wp_X5_often (vA S_4 12 x1.toNatClampNeg) (vA S_4 14 ((3 : Int32) + x1).toNatClampNeg) S_4 (fun r_12 S_12 => wp_X5_often (0 : Int32) (vA S_4 14 ((3 : Int32) + x1).toNatClampNeg) S_12 (fun r_13 S_13 => Q (((100 : Int32) + r_12) - r_13) S_13))) ∧ (x2 = (3 : Int32) → wp_X5_firstOf (3 : Int32) (vA S_4 14 ((3 : Int32) + x1).toNatClampNeg) (0 : Int32) S_4 (fun r_15 S_15 => Q r_15 S_15)) ∧ (x2 = (4 : Int32) → wp_X5_firstOf (4 : Int32) (vA S_4 14 ((3 : Int32) + x1).toNatClampNeg) (1 : Int32) S_4 (fun r_17 S_17 => Q r_17 S_17)) ∧ (¬ x2 = (1 : Int32) → ¬ x2 = (2 : Int32) → ¬ x2 = (3 : Int32) → ¬ x2 = (4 : Int32) → wp_X5_often (2 : Int32) (vA S_4 14 ((3 : Int32) + x1).toNatClampNeg) S_4 (fun r_6 S_6 => wp_X5_often (5 : Int32) (vA S_4 14 ((3 : Int32) + x1).toNatClampNeg) S_6 (fun r_7 S_7 => Q (r_6 - r_7) S_7))))) ∧ (r_4 = 0 → wp_X5_found (3 : Int32) S_4 (fun r_19 S_19 => Q r_19 S_19))))) ∧ (r_2 = 0 → Q (-1 : Int32) S_2))))))
set_option maxHeartbeats 4000000 in
set_option maxRecDepth 100000 in
theorem bk_X5_mark {p : Program} {l : Launch} {e : Env} {s : State} {m : MethodId} {args : Array Value} {below : List Frame} {meth : Method} {c : Code} {Z : State → Prop} {D : va_G} {cA : Nat → ClassId} {h : Nat → Nat} {Q : Int32 → sT → Prop} (C0 : cx p s m args c cX5_mark 4 RX5 D cA false keysRA h) (hret : rtI p l e rm_X5_mark s m args below meth c cX5_mark Z D (wR h cA) (aK keysRA h s.heap.size) Q) {x1 : Int32} {x2 : Int32} {S : sT} {H : Heap} {locs : List Loc} {ls : Array Slot} (hP : va_P D vwCl (wR h cA S) H) (hS : va_S (aK keysRA h s.heap.size) s.heap H locs) (hd : wp_X5_mark x1 x2 S Q) (hl : lv_has ls 4 [(0, .ref (h 100)), (1, .int x1), (2, .int x2)]) : W p l e rm_X5_mark s m args below meth c H locs 0 0 Z (F0 m 0 ls []) := by
  obtain ⟨⟨hx, hb, hml, hown, hts⟩, hK, -, -⟩ := id C0
  unfold wp_X5_mark at hd
  refine lv_aload_n hx hb dX5_mark_0 rfl (lv_at hl 0 rfl) ?_
  refine lv_iload_n hx hb dX5_mark_1 rfl (lv_at hl 1 rfl) ?_
  refine cl_Vi (n := 1) (rest := []) C0 hP hS (c_X5_isOne l C0.2.2.1 _ hd) (lwG_V lm_X5_176 li_X5_isOne lx_X5_isOne lz_RX5 lc_X5_isOne) (by decide +kernel) (oR_at h cA _) rfl rfl rfl (Nat.le_of_ble_eq_true rfl) ⟨rfl, rfl⟩ ⟨by decide, by decide⟩ dX5_mark_2 hl.1 ⟨Nat.zero_le _, Nat.zero_le _⟩ (fun r_1 S_1 H locs hd hP hS => ?_)
  refine lv_if_eq (tgt := 20) hx hb dX5_mark_5 (by decide) (fun hc => ?_) (fun hc => ?_)
  · have hd := hd.1 hc
    refine lv_iconst (v := (-1)) hx hb dX5_mark_20 (by decide) ?_
    exact hret _ _ _ _ _ _ hd hP hS dX5_mark_21
  · have hd := hd.2 hc
    refine lv_iload_n hx hb dX5_mark_8 rfl (lv_at hl 2 rfl) ?_
    refine lv_i2l hx hb dX5_mark_9 rfl ?_
    refine lv_lconst (v := 1) hx hb dX5_mark_10 (by decide) ?_
    refine lv_ldc2 hx hb hown (hts _ lk_X5_75) dX5_mark_11 ?_
    refine cl_Si (n := 3) (rest := []) C0 hP hS (c_X5_in l C0.2.2.1 _ hd) (lwG_S lm_X5_77 ls_X5_in lz_RX5 lc_X5_in) (by decide +kernel) rfl rfl (Nat.le_of_ble_eq_true rfl) ⟨rfl, rfl⟩ ⟨by decide, by decide⟩ dX5_mark_14 hl.1 ⟨Nat.zero_le _, Nat.zero_le _⟩ (fun r_2 S_2 H locs hd hP hS => ?_)
    refine lv_if_ne (tgt := 22) hx hb dX5_mark_17 (by decide) (fun hc => ?_) (fun hc => ?_)
    · have hd := hd.1 hc
      refine lv_aload_n hx hb dX5_mark_22 rfl (lv_at hl 0 rfl) ?_
      refine gf_X5_29 C0 hP dX5_mark_23 ?_
      refine lv_iload_n hx hb dX5_mark_26 rfl (lv_at hl 1 rfl) ?_
      obtain ⟨h_3, hd⟩ := hd
      refine ldR (by decide) C0 hP h_3 dX5_mark_27 ?_
      refine lv_iload_n hx hb dX5_mark_28 rfl (lv_at hl 2 rfl) ?_
      refine cl_Si (n := 2) (rest := []) C0 hP hS (c_X5_isOf l C0.2.2.1 _ hd) (lwG_S lm_X5_184 ls_X5_isOf lz_RX5 lc_X5_isOf) (by decide +kernel) rfl rfl (Nat.le_of_ble_eq_true rfl) ⟨rfl, rfl⟩ ⟨by decide, by decide⟩ dX5_mark_29 hl.1 ⟨Nat.zero_le _, Nat.zero_le _⟩ (fun r_4 S_4 H locs hd hP hS => ?_)
      refine lv_if_ne (tgt := 41) hx hb dX5_mark_32 (by decide) (fun hc => ?_) (fun hc => ?_)
      · have hd := hd.1 hc
        refine lv_aload_n hx hb dX5_mark_41 rfl (lv_at hl 0 rfl) ?_
        refine gf_X5_35 C0 hP dX5_mark_42 ?_
        refine lv_iconst (v := 3) hx hb dX5_mark_45 (by decide) ?_
        refine lv_iload_n hx hb dX5_mark_46 rfl (lv_at hl 1 rfl) ?_
        refine lv_iadd hx hb dX5_mark_47 ?_
        obtain ⟨h_5, hd⟩ := hd
        refine ldR (by decide) C0 hP h_5 dX5_mark_48 ?_
        refine lv_istore_n (lv' := [(3, .int (vA S_4 14 ((3 : Int32) + x1).toNatClampNeg)), (0, .ref (h 100)), (1, .int x1), (2, .int x2)]) hx hb dX5_mark_49 rfl hl (by decide) rfl (fun ls hl => ?_)
        refine lv_iload_n hx hb dX5_mark_50 rfl (lv_at hl 3 rfl) ?_
        by_cases hq10 : x2 = (1 : Int32)
        · have hd := hd.1 hq10
          refine lv_tableIn (off := 29) (tgt := 80) hx hb dX5_mark_51 (by rw [hq10]; decide) (by rw [hq10]; decide) (by rw [hq10]; decide) (by decide) ?_
          refine lv_aload_n hx hb dX5_mark_80 rfl (lv_at hl 1 rfl) ?_
          refine gf_X5_29 C0 hP dX5_mark_81 ?_
          refine lv_iload_n hx hb dX5_mark_84 rfl (lv_at hl 2 rfl) ?_
          obtain ⟨h_8, hd⟩ := hd
          refine ldR (by decide) C0 hP h_8 dX5_mark_85 ?_
          refine lv_iload_n hx hb dX5_mark_86 rfl (lv_at hl 0 rfl) ?_
          refine cl_Si (n := 2) (rest := []) C0 hP hS (c_X5_often l C0.2.2.1 _ hd) (lwG_S lm_X5_187 ls_X5_often lz_RX5 lc_X5_often) (by decide +kernel) rfl rfl (Nat.le_of_ble_eq_true rfl) ⟨rfl, rfl⟩ ⟨by decide, by decide⟩ dX5_mark_87 hl.1 ⟨Nat.zero_le _, Nat.zero_le _⟩ (fun r_9 S_9 H locs hd hP hS => ?_)
          exact hret _ _ _ _ _ _ hd hP hS dX5_mark_90
        by_cases hq14 : x2 = (2 : Int32)
        · have hd := hd.2.1 hq14
          refine lv_tableIn (off := 40) (tgt := 91) hx hb dX5_mark_51 (by rw [hq14]; decide) (by rw [hq14]; decide) (by rw [hq14]; decide) (by decide) ?_
          refine lv_bipush (v := 100) hx hb dX5_mark_91 (by decide) ?_
          refine lv_aload_n hx hb dX5_mark_93 rfl (lv_at hl 1 rfl) ?_
          refine gf_X5_29 C0 hP dX5_mark_94 ?_
          refine lv_iload_n hx hb dX5_mark_97 rfl (lv_at hl 2 rfl) ?_
          obtain ⟨h_11, hd⟩ := hd
          refine ldR (by decide) C0 hP h_11 dX5_mark_98 ?_
          refine lv_iload_n hx hb dX5_mark_99 rfl (lv_at hl 0 rfl) ?_
          refine cl_Si (n := 2) (rest := [.int (100 : Int32)]) C0 hP hS (c_X5_often l C0.2.2.1 _ hd) (lwG_S lm_X5_187 ls_X5_often lz_RX5 lc_X5_often) (by decide +kernel) rfl rfl (Nat.le_of_ble_eq_true rfl) ⟨rfl, rfl⟩ ⟨by decide, by decide⟩ dX5_mark_100 hl.1 ⟨Nat.zero_le _, Nat.zero_le _⟩ (fun r_12 S_12 H locs hd hP hS => ?_)
          refine lv_iadd hx hb dX5_mark_103 ?_
          refine lv_iconst (v := 0) hx hb dX5_mark_104 (by decide) ?_
          refine lv_iload_n hx hb dX5_mark_105 rfl (lv_at hl 0 rfl) ?_
          refine cl_Si (n := 2) (rest := [.int ((100 : Int32) + r_12)]) C0 hP hS (c_X5_often l C0.2.2.1 _ hd) (lwG_S lm_X5_187 ls_X5_often lz_RX5 lc_X5_often) (by decide +kernel) rfl rfl (Nat.le_of_ble_eq_true rfl) ⟨rfl, rfl⟩ ⟨by decide, by decide⟩ dX5_mark_106 hl.1 ⟨Nat.zero_le _, Nat.zero_le _⟩ (fun r_13 S_13 H locs hd hP hS => ?_)
          refine lv_isub hx hb dX5_mark_109 ?_
          exact hret _ _ _ _ _ _ hd hP hS dX5_mark_110
        by_cases hq16 : x2 = (3 : Int32)
        · have hd := hd.2.2.1 hq16
          refine lv_tableIn (off := 60) (tgt := 111) hx hb dX5_mark_51 (by rw [hq16]; decide) (by rw [hq16]; decide) (by rw [hq16]; decide) (by decide) ?_
          refine lv_aload_n hx hb dX5_mark_111 rfl (lv_at hl 1 rfl) ?_
          refine lv_iconst (v := 3) hx hb dX5_mark_112 (by decide) ?_
          refine lv_iload_n hx hb dX5_mark_113 rfl (lv_at hl 0 rfl) ?_
          refine lv_iconst (v := 0) hx hb dX5_mark_114 (by decide) ?_
          refine cl_Vi (n := 3) (rest := []) C0 hP hS (c_X5_firstOf l C0.2.2.1 _ hd) (lwG_V lm_X5_191 li_X5_firstOf lx_X5_firstOf lz_RX5 lc_X5_firstOf) (by decide +kernel) (oR_at h cA _) rfl rfl rfl (Nat.le_of_ble_eq_true rfl) ⟨rfl, rfl⟩ ⟨by decide, by decide⟩ dX5_mark_115 hl.1 ⟨Nat.zero_le _, Nat.zero_le _⟩ (fun r_15 S_15 H locs hd hP hS => ?_)
          exact hret _ _ _ _ _ _ hd hP hS dX5_mark_118
        by_cases hq18 : x2 = (4 : Int32)
        · have hd := hd.2.2.2.1 hq18
          refine lv_tableIn (off := 68) (tgt := 119) hx hb dX5_mark_51 (by rw [hq18]; decide) (by rw [hq18]; decide) (by rw [hq18]; decide) (by decide) ?_
          refine lv_aload_n hx hb dX5_mark_119 rfl (lv_at hl 1 rfl) ?_
          refine lv_iconst (v := 4) hx hb dX5_mark_120 (by decide) ?_
          refine lv_iload_n hx hb dX5_mark_121 rfl (lv_at hl 0 rfl) ?_
          refine lv_iconst (v := 1) hx hb dX5_mark_122 (by decide) ?_
          refine cl_Vi (n := 3) (rest := []) C0 hP hS (c_X5_firstOf l C0.2.2.1 _ hd) (lwG_V lm_X5_191 li_X5_firstOf lx_X5_firstOf lz_RX5 lc_X5_firstOf) (by decide +kernel) (oR_at h cA _) rfl rfl rfl (Nat.le_of_ble_eq_true rfl) ⟨rfl, rfl⟩ ⟨by decide, by decide⟩ dX5_mark_123 hl.1 ⟨Nat.zero_le _, Nat.zero_le _⟩ (fun r_17 S_17 H locs hd hP hS => ?_)
          exact hret _ _ _ _ _ _ hd hP hS dX5_mark_126
        have hd := hd.2.2.2.2 hq10 hq14 hq16 hq18
        refine lv_tableOut (tgt := 127) hx hb dX5_mark_51 (sw_out 1 4 (by decide) (by decide) (fun v h1 h2 => by rcases (show v = 1 ∨ v = 2 ∨ v = 3 ∨ v = 4 by omega) with rfl | rfl | rfl | rfl <;> assumption)) (by decide) ?_
        refine lv_iconst (v := 2) hx hb dX5_mark_127 (by decide) ?_
        refine lv_iload_n hx hb dX5_mark_128 rfl (lv_at hl 0 rfl) ?_
        refine cl_Si (n := 2) (rest := []) C0 hP hS (c_X5_often l C0.2.2.1 _ hd) (lwG_S lm_X5_187 ls_X5_often lz_RX5 lc_X5_often) (by decide +kernel) rfl rfl (Nat.le_of_ble_eq_true rfl) ⟨rfl, rfl⟩ ⟨by decide, by decide⟩ dX5_mark_129 hl.1 ⟨Nat.zero_le _, Nat.zero_le _⟩ (fun r_6 S_6 H locs hd hP hS => ?_)
        refine lv_iconst (v := 5) hx hb dX5_mark_132 (by decide) ?_
        refine lv_iload_n hx hb dX5_mark_133 rfl (lv_at hl 0 rfl) ?_
        refine cl_Si (n := 2) (rest := [.int r_6]) C0 hP hS (c_X5_often l C0.2.2.1 _ hd) (lwG_S lm_X5_187 ls_X5_often lz_RX5 lc_X5_often) (by decide +kernel) rfl rfl (Nat.le_of_ble_eq_true rfl) ⟨rfl, rfl⟩ ⟨by decide, by decide⟩ dX5_mark_134 hl.1 ⟨Nat.zero_le _, Nat.zero_le _⟩ (fun r_7 S_7 H locs hd hP hS => ?_)
        refine lv_isub hx hb dX5_mark_137 ?_
        exact hret _ _ _ _ _ _ hd hP hS dX5_mark_138
      · have hd := hd.2 hc
        refine lv_aload_n hx hb dX5_mark_35 rfl (lv_at hl 0 rfl) ?_
        refine lv_iconst (v := 3) hx hb dX5_mark_36 (by decide) ?_
        refine cl_Vi (n := 1) (rest := []) C0 hP hS (c_X5_found l C0.2.2.1 _ hd) (lwG_V lm_X5_87 li_X5_found lx_X5_found lz_RX5 lc_X5_found) (by decide +kernel) (oR_at h cA _) rfl rfl rfl (Nat.le_of_ble_eq_true rfl) ⟨rfl, rfl⟩ ⟨by decide, by decide⟩ dX5_mark_37 hl.1 ⟨Nat.zero_le _, Nat.zero_le _⟩ (fun r_19 S_19 H locs hd hP hS => ?_)
        exact hret _ _ _ _ _ _ hd hP hS dX5_mark_40
    · have hd := hd.2 hc
      refine lv_iconst (v := (-1)) hx hb dX5_mark_20 (by decide) ?_
      exact hret _ _ _ _ _ _ hd hP hS dX5_mark_21
theorem c_X5_mark (l : Launch) {D : va_G} {cA : Nat → ClassId} {h : Nat → Nat} (hk : ky keysRA h) {x1 : Int32} {x2 : Int32} {S : sT} (sz : Nat) {Q : Int32 → sT → Prop} (hd : wp_X5_mark x1 x2 S Q) : Met l yX5_mark (wsU yX5_mark cX5_mark 4 (some .int)) rm_X5_mark (va_Pc [.ref (h 100), .int x1, .int x2] (gP D cA false keysRA h (wR h cA) S sz)) (va_Qi Q (wB D (wR h cA)) (aK keysRA h sz)) 0 0 (aK keysRA h sz) :=
  mk_i (by decide) hk (Nat.le_of_ble_eq_true rfl) (fun p e s m below meth c Z ls C0 hret hP hS hl => bk_X5_mark C0 hret hP hS hd hl)
abbrev rm_X5_mean : Room := { frames := 2, cells := 0, slots := 0, locals := 45 }
def wb_X5_mean_44 (Q : Int32 → sT → Prop) (K44 : Int32 → Int64 → Int32 → sT → Prop) (x1 : Int32) (x2 : Int64) (x4 : Int32) (S : sT) : Prop :=
  (vp_in x1 6) ∧ (((vA S 1 x1.toNatClampNeg) ≤ x4 → (vp_in x1 6) ∧ (¬ ((vA S 1 x1.toNatClampNeg).toInt64) = 0) ∧ wp_X5_tell ((x2 / ((vA S 1 x1.toNatClampNeg).toInt64)).toInt32) S (fun r_4 S_4 => Q r_4 S_4)) ∧ (¬ (vA S 1 x1.toNatClampNeg) ≤ x4 → (vp_in (((40 : Int32) * x1) + x4) 240) ∧ K44 x1 (x2 + ((vA S 0 (((40 : Int32) * x1) + x4).toNatClampNeg).toInt64)) (x4 + (1 : Int32)) S))
set_option maxHeartbeats 4000000 in
set_option maxRecDepth 100000 in
theorem bk_X5_mean_44 {p : Program} {l : Launch} {e : Env} {s : State} {m : MethodId} {args : Array Value} {below : List Frame} {meth : Method} {c : Code} {Z : State → Prop} {D : va_G} {cA : Nat → ClassId} {h : Nat → Nat} {Q : Int32 → sT → Prop} (C0 : cx p s m args c cX5_mean 5 RX5 D cA false keysRA h) (hret : rtI p l e rm_X5_mean s m args below meth c cX5_mean Z D (wR h cA) (aK keysRA h s.heap.size) Q) {K44 : Int32 → Int64 → Int32 → sT → Prop} (k44 : ∀ (x1 : Int32) (x2 : Int64) (x4 : Int32) (S : sT) (H : Heap) (locs : List Loc) (ls : Array Slot), K44 x1 x2 x4 S → va_P D vwCl (wR h cA S) H → va_S (aK keysRA h s.heap.size) s.heap H locs → lv_has ls 5 [(0, .ref (h 100)), (1, .int x1), (2, .long x2), (4, .int x4)] → W p l e rm_X5_mean s m args below meth c H locs 0 0 Z (F0 m 44 ls [])) {x1 : Int32} {x2 : Int64} {x4 : Int32} {S : sT} {H : Heap} {locs : List Loc} {ls : Array Slot} (hP : va_P D vwCl (wR h cA S) H) (hS : va_S (aK keysRA h s.heap.size) s.heap H locs) (hd : wb_X5_mean_44 Q K44 x1 x2 x4 S) (hl : lv_has ls 5 [(0, .ref (h 100)), (1, .int x1), (2, .long x2), (4, .int x4)]) : W p l e rm_X5_mean s m args below meth c H locs 0 0 Z (F0 m 44 ls []) := by
  obtain ⟨⟨hx, hb, hml, hown, hts⟩, hK, -, -⟩ := id C0
  unfold wb_X5_mean_44 at hd
  refine lv_iload hx hb dX5_mean_44 (lv_at hl 3 rfl) ?_
  refine lv_aload_n hx hb dX5_mean_46 rfl (lv_at hl 0 rfl) ?_
  refine gf_X5_13 C0 hP dX5_mean_47 ?_
  refine lv_iload_n hx hb dX5_mean_50 rfl (lv_at hl 1 rfl) ?_
  obtain ⟨h_1, hd⟩ := hd
  refine ldR (by decide) C0 hP h_1 dX5_mean_51 ?_
  refine lv_icmp_ge (tgt := 77) hx hb dX5_mean_52 (by decide) (fun hc => ?_) (fun hc => ?_)
  · have hd := hd.1 hc
    refine lv_aload_n hx hb dX5_mean_77 rfl (lv_at hl 0 rfl) ?_
    refine lv_lload_n hx hb dX5_mean_78 rfl (lv_at hl 2 rfl) ?_
    refine lv_aload_n hx hb dX5_mean_79 rfl (lv_at hl 0 rfl) ?_
    refine gf_X5_13 C0 hP dX5_mean_80 ?_
    refine lv_iload_n hx hb dX5_mean_83 rfl (lv_at hl 1 rfl) ?_
    obtain ⟨h_2, hd⟩ := hd
    refine ldR (by decide) C0 hP h_2 dX5_mean_84 ?_
    refine lv_i2l hx hb dX5_mean_85 rfl ?_
    obtain ⟨h_3, hd⟩ := hd
    refine lv_ldiv hx hb dX5_mean_86 h_3 ?_
    refine lv_l2i hx hb dX5_mean_87 rfl ?_
    refine cl_Vi (n := 1) (rest := []) C0 hP hS (c_X5_tell l C0.2.2.1 _ hd) (lwG_V lm_X5_91 li_X5_tell lx_X5_tell lz_RX5 lc_X5_tell) (by decide +kernel) (oR_at h cA _) rfl rfl rfl (Nat.le_of_ble_eq_true rfl) ⟨rfl, rfl⟩ ⟨by decide, by decide⟩ dX5_mean_88 hl.1 ⟨Nat.zero_le _, Nat.zero_le _⟩ (fun r_4 S_4 H locs hd hP hS => ?_)
    exact hret _ _ _ _ _ _ hd hP hS dX5_mean_91
  · have hd := hd.2 hc
    refine lv_lload_n hx hb dX5_mean_55 rfl (lv_at hl 2 rfl) ?_
    refine lv_aload_n hx hb dX5_mean_56 rfl (lv_at hl 0 rfl) ?_
    refine gf_X5_7 C0 hP dX5_mean_57 ?_
    refine lv_bipush (v := 40) hx hb dX5_mean_60 (by decide) ?_
    refine lv_iload_n hx hb dX5_mean_62 rfl (lv_at hl 1 rfl) ?_
    refine lv_imul hx hb dX5_mean_63 ?_
    refine lv_iload hx hb dX5_mean_64 (lv_at hl 3 rfl) ?_
    refine lv_iadd hx hb dX5_mean_66 ?_
    obtain ⟨h_5, hd⟩ := hd
    refine ldR (by decide) C0 hP h_5 dX5_mean_67 ?_
    refine lv_i2l hx hb dX5_mean_68 rfl ?_
    refine lv_ladd hx hb dX5_mean_69 ?_
    refine lv_lstore_n (lv' := [(2, .long (x2 + ((vA S 0 (((40 : Int32) * x1) + x4).toNatClampNeg).toInt64))), (0, .ref (h 100)), (1, .int x1), (4, .int x4)]) hx hb dX5_mean_70 rfl hl (by decide) rfl (fun ls hl => ?_)
    refine lv_iinc (v := x4 + (1 : Int32)) (lv' := [(4, .int (x4 + (1 : Int32))), (2, .long (x2 + ((vA S 0 (((40 : Int32) * x1) + x4).toNatClampNeg).toInt64))), (0, .ref (h 100)), (1, .int x1)]) hx hb dX5_mean_71 hl (k := 3) rfl rfl (by decide) rfl (fun ls hl => ?_)
    refine lv_goto (tgt := 44) hx hb dX5_mean_74 (by decide) ?_
    exact k44 _ _ _ _ _ _ _ hd hP hS (lv_sub hl [2, 3, 1, 0] rfl)
def wl_X5_mean_44 (Q : Int32 → sT → Prop) : Nat → Int32 → Int64 → Int32 → sT → Prop
  | 0, _, _, _ => fun _ => False
  | n + 1, x1, x2, x4 => fun S => wb_X5_mean_44 Q (fun x1 x2 x4 S => wl_X5_mean_44 Q n x1 x2 x4 S) x1 x2 x4 S
theorem bl_X5_mean_44 {p : Program} {l : Launch} {e : Env} {s : State} {m : MethodId} {args : Array Value} {below : List Frame} {meth : Method} {c : Code} {Z : State → Prop} {D : va_G} {cA : Nat → ClassId} {h : Nat → Nat} {Q : Int32 → sT → Prop} (C0 : cx p s m args c cX5_mean 5 RX5 D cA false keysRA h) (hret : rtI p l e rm_X5_mean s m args below meth c cX5_mean Z D (wR h cA) (aK keysRA h s.heap.size) Q) : ∀ (n : Nat) (x1 : Int32) (x2 : Int64) (x4 : Int32) (S : sT) (H : Heap) (locs : List Loc) (ls : Array Slot), va_P D vwCl (wR h cA S) H → va_S (aK keysRA h s.heap.size) s.heap H locs → wl_X5_mean_44 Q n x1 x2 x4 S → lv_has ls 5 [(0, .ref (h 100)), (1, .int x1), (2, .long x2), (4, .int x4)] → W p l e rm_X5_mean s m args below meth c H locs 0 0 Z (F0 m 44 ls []) := by
  intro n
  induction n with
  | zero => intro x1 x2 x4 S H locs ls hP hS hd hl; exact (show False from hd).elim
  | succ n ih => intro x1 x2 x4 S H locs ls hP hS hd hl; exact bk_X5_mean_44 C0 hret (fun x1 x2 x4 S H locs ls hd hP hS hl => ih x1 x2 x4 S H locs ls hP hS hd hl) hP hS hd hl
def wp_X5_mean (x1 : Int32) (S : sT) (Q : Int32 → sT → Prop) : Prop :=
  wp_X5_isRow x1 S (fun r_1 S_1 => ((¬ r_1 = 0 → (vp_in x1 6) ∧ ((0 ≤ (vA S_1 1 x1.toNatClampNeg) → (vp_in x1 6) ∧ ((¬ (vA S_1 1 x1.toNatClampNeg) = 0 → ∃ n : Nat, wl_X5_mean_44 Q n x1 (0 : Int64) (0 : Int32) S_1) ∧ ((vA S_1 1 x1.toNatClampNeg) = 0 → wp_X5_found (4 : Int32) S_1 (fun r_5 S_5 => Q r_5 S_5)))) ∧ (¬ 0 ≤ (vA S_1 1 x1.toNatClampNeg) → wp_X5_found (1 : Int32) S_1 (fun r_6 S_6 => Q r_6 S_6)))) ∧ (r_1 = 0 → Q (-1 : Int32) S_1)))
set_option maxHeartbeats 4000000 in
set_option maxRecDepth 100000 in
theorem bk_X5_mean {p : Program} {l : Launch} {e : Env} {s : State} {m : MethodId} {args : Array Value} {below : List Frame} {meth : Method} {c : Code} {Z : State → Prop} {D : va_G} {cA : Nat → ClassId} {h : Nat → Nat} {Q : Int32 → sT → Prop} (C0 : cx p s m args c cX5_mean 5 RX5 D cA false keysRA h) (hret : rtI p l e rm_X5_mean s m args below meth c cX5_mean Z D (wR h cA) (aK keysRA h s.heap.size) Q) {x1 : Int32} {S : sT} {H : Heap} {locs : List Loc} {ls : Array Slot} (hP : va_P D vwCl (wR h cA S) H) (hS : va_S (aK keysRA h s.heap.size) s.heap H locs) (hd : wp_X5_mean x1 S Q) (hl : lv_has ls 5 [(0, .ref (h 100)), (1, .int x1)]) : W p l e rm_X5_mean s m args below meth c H locs 0 0 Z (F0 m 0 ls []) := by
  obtain ⟨⟨hx, hb, hml, hown, hts⟩, hK, -, -⟩ := id C0
  unfold wp_X5_mean at hd
  refine lv_iload_n hx hb dX5_mean_0 rfl (lv_at hl 1 rfl) ?_
  refine cl_Si (n := 1) (rest := []) C0 hP hS (c_X5_isRow l C0.2.2.1 _ hd) (lwG_S lm_X5_83 ls_X5_isRow lz_RX5 lc_X5_isRow) (by decide +kernel) rfl rfl (Nat.le_of_ble_eq_true rfl) ⟨rfl, rfl⟩ ⟨by decide, by decide⟩ dX5_mean_1 hl.1 ⟨Nat.zero_le _, Nat.zero_le _⟩ (fun r_1 S_1 H locs hd hP hS => ?_)
  refine lv_if_ne (tgt := 9) hx hb dX5_mean_4 (by decide) (fun hc => ?_) (fun hc => ?_)
  · have hd := hd.1 hc
    refine lv_aload_n hx hb dX5_mean_9 rfl (lv_at hl 0 rfl) ?_
    refine gf_X5_13 C0 hP dX5_mean_10 ?_
    refine lv_iload_n hx hb dX5_mean_13 rfl (lv_at hl 1 rfl) ?_
    obtain ⟨h_2, hd⟩ := hd
    refine ldR (by decide) C0 hP h_2 dX5_mean_14 ?_
    refine lv_if_ge (tgt := 24) hx hb dX5_mean_15 (by decide) (fun hc => ?_) (fun hc => ?_)
    · have hd := hd.1 hc
      refine lv_aload_n hx hb dX5_mean_24 rfl (lv_at hl 0 rfl) ?_
      refine gf_X5_13 C0 hP dX5_mean_25 ?_
      refine lv_iload_n hx hb dX5_mean_28 rfl (lv_at hl 1 rfl) ?_
      obtain ⟨h_3, hd⟩ := hd
      refine ldR (by decide) C0 hP h_3 dX5_mean_29 ?_
      refine lv_if_ne (tgt := 39) hx hb dX5_mean_30 (by decide) (fun hc => ?_) (fun hc => ?_)
      · have hd := hd.1 hc
        refine lv_lconst (v := 0) hx hb dX5_mean_39 (by decide) ?_
        refine lv_lstore_n (lv' := [(2, .long (0 : Int64)), (0, .ref (h 100)), (1, .int x1)]) hx hb dX5_mean_40 rfl hl (by decide) rfl (fun ls hl => ?_)
        refine lv_iconst (v := 0) hx hb dX5_mean_41 (by decide) ?_
        refine lv_istore (lv' := [(4, .int (0 : Int32)), (2, .long (0 : Int64)), (0, .ref (h 100)), (1, .int x1)]) hx hb dX5_mean_42 hl (by decide) rfl (fun ls hl => ?_)
        obtain ⟨n_4, hd⟩ := hd
        exact bl_X5_mean_44 C0 hret _ _ _ _ _ _ _ _ hP hS hd (lv_sub hl [2, 3, 1, 0] rfl)
      · have hd := hd.2 hc
        refine lv_aload_n hx hb dX5_mean_33 rfl (lv_at hl 0 rfl) ?_
        refine lv_iconst (v := 4) hx hb dX5_mean_34 (by decide) ?_
        refine cl_Vi (n := 1) (rest := []) C0 hP hS (c_X5_found l C0.2.2.1 _ hd) (lwG_V lm_X5_87 li_X5_found lx_X5_found lz_RX5 lc_X5_found) (by decide +kernel) (oR_at h cA _) rfl rfl rfl (Nat.le_of_ble_eq_true rfl) ⟨rfl, rfl⟩ ⟨by decide, by decide⟩ dX5_mean_35 hl.1 ⟨Nat.zero_le _, Nat.zero_le _⟩ (fun r_5 S_5 H locs hd hP hS => ?_)
        exact hret _ _ _ _ _ _ hd hP hS dX5_mean_38
    · have hd := hd.2 hc
      refine lv_aload_n hx hb dX5_mean_18 rfl (lv_at hl 0 rfl) ?_
      refine lv_iconst (v := 1) hx hb dX5_mean_19 (by decide) ?_
      refine cl_Vi (n := 1) (rest := []) C0 hP hS (c_X5_found l C0.2.2.1 _ hd) (lwG_V lm_X5_87 li_X5_found lx_X5_found lz_RX5 lc_X5_found) (by decide +kernel) (oR_at h cA _) rfl rfl rfl (Nat.le_of_ble_eq_true rfl) ⟨rfl, rfl⟩ ⟨by decide, by decide⟩ dX5_mean_20 hl.1 ⟨Nat.zero_le _, Nat.zero_le _⟩ (fun r_6 S_6 H locs hd hP hS => ?_)
      exact hret _ _ _ _ _ _ hd hP hS dX5_mean_23
  · have hd := hd.2 hc
    refine lv_iconst (v := (-1)) hx hb dX5_mean_7 (by decide) ?_
    exact hret _ _ _ _ _ _ hd hP hS dX5_mean_8
theorem c_X5_mean (l : Launch) {D : va_G} {cA : Nat → ClassId} {h : Nat → Nat} (hk : ky keysRA h) {x1 : Int32} {S : sT} (sz : Nat) {Q : Int32 → sT → Prop} (hd : wp_X5_mean x1 S Q) : Met l yX5_mean (wsU yX5_mean cX5_mean 5 (some .int)) rm_X5_mean (va_Pc [.ref (h 100), .int x1] (gP D cA false keysRA h (wR h cA) S sz)) (va_Qi Q (wB D (wR h cA)) (aK keysRA h sz)) 0 0 (aK keysRA h sz) :=
  mk_i (by decide) hk (Nat.le_of_ble_eq_true rfl) (fun p e s m below meth c Z ls C0 hret hP hS hl => bk_X5_mean C0 hret hP hS hd hl)
abbrev rm_X5_ways : Room := { frames := 5, cells := 0, slots := 0, locals := 115 }
def wb_X5_ways_87 (Q : Int64 → sT → Prop) (K6 : Int32 → Int32 → Int32 → Int64 → Int32 → sT → Prop) (K37 : Int32 → Int32 → Int32 → Int64 → Int32 → Int64 → Int32 → sT → Prop) (x1 : Int32) (x2 : Int32) (x3 : Int32) (x4 : Int64) (x6 : Int32) (x9 : Int32) (y0 : Int64) (y1 : Int64) (S : sT) : Prop :=
  K37 x1 x2 x3 x4 x6 (y0 * y1) (x9 + (1 : Int32)) S
set_option maxHeartbeats 4000000 in
set_option maxRecDepth 100000 in
theorem bk_X5_ways_87 {p : Program} {l : Launch} {e : Env} {s : State} {m : MethodId} {args : Array Value} {below : List Frame} {meth : Method} {c : Code} {Z : State → Prop} {D : va_G} {cA : Nat → ClassId} {h : Nat → Nat} {Q : Int64 → sT → Prop} (C0 : cx p s m args c cX5_ways 10 RX5 D cA false keysRA h) (hret : rtL p l e rm_X5_ways s m args below meth c cX5_ways Z D (wR h cA) (aK keysRA h s.heap.size) Q) {K6 : Int32 → Int32 → Int32 → Int64 → Int32 → sT → Prop} {K37 : Int32 → Int32 → Int32 → Int64 → Int32 → Int64 → Int32 → sT → Prop} (k6 : ∀ (x1 : Int32) (x2 : Int32) (x3 : Int32) (x4 : Int64) (x6 : Int32) (S : sT) (H : Heap) (locs : List Loc) (ls : Array Slot), K6 x1 x2 x3 x4 x6 S → va_P D vwCl (wR h cA S) H → va_S (aK keysRA h s.heap.size) s.heap H locs → lv_has ls 10 [(0, .ref (h 100)), (1, .int x1), (2, .int x2), (3, .int x3), (4, .long x4), (6, .int x6)] → W p l e rm_X5_ways s m args below meth c H locs 0 0 Z (F0 m 6 ls [])) (k37 : ∀ (x1 : Int32) (x2 : Int32) (x3 : Int32) (x4 : Int64) (x6 : Int32) (x7 : Int64) (x9 : Int32) (S : sT) (H : Heap) (locs : List Loc) (ls : Array Slot), K37 x1 x2 x3 x4 x6 x7 x9 S → va_P D vwCl (wR h cA S) H → va_S (aK keysRA h s.heap.size) s.heap H locs → lv_has ls 10 [(0, .ref (h 100)), (1, .int x1), (2, .int x2), (3, .int x3), (4, .long x4), (6, .int x6), (7, .long x7), (9, .int x9)] → W p l e rm_X5_ways s m args below meth c H locs 0 0 Z (F0 m 37 ls [])) {x1 : Int32} {x2 : Int32} {x3 : Int32} {x4 : Int64} {x6 : Int32} {x9 : Int32} {y0 : Int64} {y1 : Int64} {S : sT} {H : Heap} {locs : List Loc} {ls : Array Slot} (hP : va_P D vwCl (wR h cA S) H) (hS : va_S (aK keysRA h s.heap.size) s.heap H locs) (hd : wb_X5_ways_87 Q K6 K37 x1 x2 x3 x4 x6 x9 y0 y1 S) (hl : lv_has ls 10 [(0, .ref (h 100)), (1, .int x1), (2, .int x2), (3, .int x3), (4, .long x4), (6, .int x6), (9, .int x9)]) : W p l e rm_X5_ways s m args below meth c H locs 0 0 Z (F0 m 87 ls [.long y1, .long y0]) := by
  obtain ⟨⟨hx, hb, hml, hown, hts⟩, hK, -, -⟩ := id C0
  unfold wb_X5_ways_87 at hd
  refine lv_lmul hx hb dX5_ways_87 ?_
  refine lv_lstore (lv' := [(7, .long (y0 * y1)), (0, .ref (h 100)), (1, .int x1), (2, .int x2), (3, .int x3), (4, .long x4), (6, .int x6), (9, .int x9)]) hx hb dX5_ways_88 hl (by decide) rfl (fun ls hl => ?_)
  refine lv_iinc (v := x9 + (1 : Int32)) (lv' := [(9, .int (x9 + (1 : Int32))), (7, .long (y0 * y1)), (0, .ref (h 100)), (1, .int x1), (2, .int x2), (3, .int x3), (4, .long x4), (6, .int x6)]) hx hb dX5_ways_90 hl (k := 7) rfl rfl (by decide) rfl (fun ls hl => ?_)
  refine lv_goto (tgt := 37) hx hb dX5_ways_93 (by decide) ?_
  exact k37 _ _ _ _ _ _ _ _ _ _ _ hd hP hS (lv_sub hl [2, 3, 4, 5, 6, 7, 1, 0] rfl)
def wb_X5_ways_149 (Q : Int64 → sT → Prop) (K6 : Int32 → Int32 → Int32 → Int64 → Int32 → sT → Prop) (x1 : Int32) (x2 : Int32) (x3 : Int32) (x4 : Int64) (x6 : Int32) (S : sT) : Prop :=
  K6 x1 x2 x3 x4 (x6 + (1 : Int32)) S
set_option maxHeartbeats 4000000 in
set_option maxRecDepth 100000 in
theorem bk_X5_ways_149 {p : Program} {l : Launch} {e : Env} {s : State} {m : MethodId} {args : Array Value} {below : List Frame} {meth : Method} {c : Code} {Z : State → Prop} {D : va_G} {cA : Nat → ClassId} {h : Nat → Nat} {Q : Int64 → sT → Prop} (C0 : cx p s m args c cX5_ways 10 RX5 D cA false keysRA h) (hret : rtL p l e rm_X5_ways s m args below meth c cX5_ways Z D (wR h cA) (aK keysRA h s.heap.size) Q) {K6 : Int32 → Int32 → Int32 → Int64 → Int32 → sT → Prop} (k6 : ∀ (x1 : Int32) (x2 : Int32) (x3 : Int32) (x4 : Int64) (x6 : Int32) (S : sT) (H : Heap) (locs : List Loc) (ls : Array Slot), K6 x1 x2 x3 x4 x6 S → va_P D vwCl (wR h cA S) H → va_S (aK keysRA h s.heap.size) s.heap H locs → lv_has ls 10 [(0, .ref (h 100)), (1, .int x1), (2, .int x2), (3, .int x3), (4, .long x4), (6, .int x6)] → W p l e rm_X5_ways s m args below meth c H locs 0 0 Z (F0 m 6 ls [])) {x1 : Int32} {x2 : Int32} {x3 : Int32} {x4 : Int64} {x6 : Int32} {S : sT} {H : Heap} {locs : List Loc} {ls : Array Slot} (hP : va_P D vwCl (wR h cA S) H) (hS : va_S (aK keysRA h s.heap.size) s.heap H locs) (hd : wb_X5_ways_149 Q K6 x1 x2 x3 x4 x6 S) (hl : lv_has ls 10 [(0, .ref (h 100)), (1, .int x1), (2, .int x2), (3, .int x3), (4, .long x4), (6, .int x6)]) : W p l e rm_X5_ways s m args below meth c H locs 0 0 Z (F0 m 149 ls []) := by
  obtain ⟨⟨hx, hb, hml, hown, hts⟩, hK, -, -⟩ := id C0
  unfold wb_X5_ways_149 at hd
  refine lv_iinc (v := x6 + (1 : Int32)) (lv' := [(6, .int (x6 + (1 : Int32))), (0, .ref (h 100)), (1, .int x1), (2, .int x2), (3, .int x3), (4, .long x4)]) hx hb dX5_ways_149 hl (k := 5) rfl rfl (by decide) rfl (fun ls hl => ?_)
  refine lv_goto (tgt := 6) hx hb dX5_ways_152 (by decide) ?_
  exact k6 _ _ _ _ _ _ _ _ _ hd hP hS (lv_sub hl [1, 2, 3, 4, 5, 0] rfl)
def wb_X5_ways_145 (Q : Int64 → sT → Prop) (K6 : Int32 → Int32 → Int32 → Int64 → Int32 → sT → Prop) (x1 : Int32) (x2 : Int32) (x3 : Int32) (x6 : Int32) (y0 : Int64) (y1 : Int64) (y2 : Int64) (S : sT) : Prop :=
  wb_X5_ways_149 Q K6 x1 x2 x3 (y0 + (y1 * y2)) x6 S
set_option maxHeartbeats 4000000 in
set_option maxRecDepth 100000 in
theorem bk_X5_ways_145 {p : Program} {l : Launch} {e : Env} {s : State} {m : MethodId} {args : Array Value} {below : List Frame} {meth : Method} {c : Code} {Z : State → Prop} {D : va_G} {cA : Nat → ClassId} {h : Nat → Nat} {Q : Int64 → sT → Prop} (C0 : cx p s m args c cX5_ways 10 RX5 D cA false keysRA h) (hret : rtL p l e rm_X5_ways s m args below meth c cX5_ways Z D (wR h cA) (aK keysRA h s.heap.size) Q) {K6 : Int32 → Int32 → Int32 → Int64 → Int32 → sT → Prop} (k6 : ∀ (x1 : Int32) (x2 : Int32) (x3 : Int32) (x4 : Int64) (x6 : Int32) (S : sT) (H : Heap) (locs : List Loc) (ls : Array Slot), K6 x1 x2 x3 x4 x6 S → va_P D vwCl (wR h cA S) H → va_S (aK keysRA h s.heap.size) s.heap H locs → lv_has ls 10 [(0, .ref (h 100)), (1, .int x1), (2, .int x2), (3, .int x3), (4, .long x4), (6, .int x6)] → W p l e rm_X5_ways s m args below meth c H locs 0 0 Z (F0 m 6 ls [])) {x1 : Int32} {x2 : Int32} {x3 : Int32} {x6 : Int32} {y0 : Int64} {y1 : Int64} {y2 : Int64} {S : sT} {H : Heap} {locs : List Loc} {ls : Array Slot} (hP : va_P D vwCl (wR h cA S) H) (hS : va_S (aK keysRA h s.heap.size) s.heap H locs) (hd : wb_X5_ways_145 Q K6 x1 x2 x3 x6 y0 y1 y2 S) (hl : lv_has ls 10 [(0, .ref (h 100)), (1, .int x1), (2, .int x2), (3, .int x3), (6, .int x6)]) : W p l e rm_X5_ways s m args below meth c H locs 0 0 Z (F0 m 145 ls [.long y2, .long y1, .long y0]) := by
  obtain ⟨⟨hx, hb, hml, hown, hts⟩, hK, -, -⟩ := id C0
  unfold wb_X5_ways_145 at hd
  refine lv_lmul hx hb dX5_ways_145 ?_
  refine lv_ladd hx hb dX5_ways_146 ?_
  refine lv_lstore (lv' := [(4, .long (y0 + (y1 * y2))), (0, .ref (h 100)), (1, .int x1), (2, .int x2), (3, .int x3), (6, .int x6)]) hx hb dX5_ways_147 hl (by decide) rfl (fun ls hl => ?_)
  exact bk_X5_ways_149 C0 hret k6 hP hS hd (lv_sub hl [1, 2, 3, 4, 0, 5] rfl)
def wb_X5_ways_37 (Q : Int64 → sT → Prop) (K6 : Int32 → Int32 → Int32 → Int64 → Int32 → sT → Prop) (K37 : Int32 → Int32 → Int32 → Int64 → Int32 → Int64 → Int32 → sT → Prop) (x1 : Int32) (x2 : Int32) (x3 : Int32) (x4 : Int64) (x6 : Int32) (x7 : Int64) (x9 : Int32) (S : sT) : Prop :=
  (((vI S 9) ≤ x9 → wp_X5_layAside S (fun S_1 => (vp_in (2 : Int32) 9) ∧ (vp_in (2 : Int32) 9) ∧ wp_X5_placeBehind x1 (uA S_1 15 (upd (vA S_1 15) (2 : Int32).toNatClampNeg ((vA S_1 15 (2 : Int32).toNatClampNeg) ^^^ x6))) (fun r_4 S_4 => ((¬ x2 = (-9 : Int32) → ((r_4 < x2 → wb_X5_ways_145 Q K6 x1 x2 x3 x6 x4 x7 (0 : Int64) S_4) ∧ (¬ r_4 < x2 → wb_X5_ways_145 Q K6 x1 x2 x3 x6 x4 x7 (1 : Int64) S_4))) ∧ (x2 = (-9 : Int32) → wb_X5_ways_145 Q K6 x1 x2 x3 x6 x4 x7 r_4.toInt64 S_4))))) ∧ (¬ (vI S 9) ≤ x9 → (vp_in (2 : Int32) 9) ∧ wp_X5_has (vA S 14 (2 : Int32).toNatClampNeg) x9 S (fun r_6 S_6 => ((¬ r_6 = 0 → wp_X5_has x6 x9 S_6 (fun r_7 S_7 => ((r_7 = 0 → wb_X5_ways_87 Q K6 K37 x1 x2 x3 x4 x6 x9 x7 ((12 : Int64) - x3.toInt64) S_7) ∧ (¬ r_7 = 0 → wb_X5_ways_87 Q K6 K37 x1 x2 x3 x4 x6 x9 x7 x3.toInt64 S_7)))) ∧ (r_6 = 0 → wb_X5_ways_87 Q K6 K37 x1 x2 x3 x4 x6 x9 x7 (1 : Int64) S_6)))))
set_option maxHeartbeats 4000000 in
set_option maxRecDepth 100000 in
theorem bk_X5_ways_37 {p : Program} {l : Launch} {e : Env} {s : State} {m : MethodId} {args : Array Value} {below : List Frame} {meth : Method} {c : Code} {Z : State → Prop} {D : va_G} {cA : Nat → ClassId} {h : Nat → Nat} {Q : Int64 → sT → Prop} (C0 : cx p s m args c cX5_ways 10 RX5 D cA false keysRA h) (hret : rtL p l e rm_X5_ways s m args below meth c cX5_ways Z D (wR h cA) (aK keysRA h s.heap.size) Q) {K6 : Int32 → Int32 → Int32 → Int64 → Int32 → sT → Prop} {K37 : Int32 → Int32 → Int32 → Int64 → Int32 → Int64 → Int32 → sT → Prop} (k6 : ∀ (x1 : Int32) (x2 : Int32) (x3 : Int32) (x4 : Int64) (x6 : Int32) (S : sT) (H : Heap) (locs : List Loc) (ls : Array Slot), K6 x1 x2 x3 x4 x6 S → va_P D vwCl (wR h cA S) H → va_S (aK keysRA h s.heap.size) s.heap H locs → lv_has ls 10 [(0, .ref (h 100)), (1, .int x1), (2, .int x2), (3, .int x3), (4, .long x4), (6, .int x6)] → W p l e rm_X5_ways s m args below meth c H locs 0 0 Z (F0 m 6 ls [])) (k37 : ∀ (x1 : Int32) (x2 : Int32) (x3 : Int32) (x4 : Int64) (x6 : Int32) (x7 : Int64) (x9 : Int32) (S : sT) (H : Heap) (locs : List Loc) (ls : Array Slot), K37 x1 x2 x3 x4 x6 x7 x9 S → va_P D vwCl (wR h cA S) H → va_S (aK keysRA h s.heap.size) s.heap H locs → lv_has ls 10 [(0, .ref (h 100)), (1, .int x1), (2, .int x2), (3, .int x3), (4, .long x4), (6, .int x6), (7, .long x7), (9, .int x9)] → W p l e rm_X5_ways s m args below meth c H locs 0 0 Z (F0 m 37 ls [])) {x1 : Int32} {x2 : Int32} {x3 : Int32} {x4 : Int64} {x6 : Int32} {x7 : Int64} {x9 : Int32} {S : sT} {H : Heap} {locs : List Loc} {ls : Array Slot} (hP : va_P D vwCl (wR h cA S) H) (hS : va_S (aK keysRA h s.heap.size) s.heap H locs) (hd : wb_X5_ways_37 Q K6 K37 x1 x2 x3 x4 x6 x7 x9 S) (hl : lv_has ls 10 [(0, .ref (h 100)), (1, .int x1), (2, .int x2), (3, .int x3), (4, .long x4), (6, .int x6), (7, .long x7), (9, .int x9)]) : W p l e rm_X5_ways s m args below meth c H locs 0 0 Z (F0 m 37 ls []) := by
  obtain ⟨⟨hx, hb, hml, hown, hts⟩, hK, -, -⟩ := id C0
  unfold wb_X5_ways_37 at hd
  refine lv_iload hx hb dX5_ways_37 (lv_at hl 7 rfl) ?_
  refine lv_aload_n hx hb dX5_ways_39 rfl (lv_at hl 0 rfl) ?_
  refine gf_X5_97 C0 hP dX5_ways_40 ?_
  refine lv_icmp_ge (tgt := 96) hx hb dX5_ways_43 (by decide) (fun hc => ?_) (fun hc => ?_)
  · have hd := hd.1 hc
    refine lv_aload_n hx hb dX5_ways_96 rfl (lv_at hl 0 rfl) ?_
    refine cl_Vv (n := 0) (rest := []) C0 hP hS (c_X5_layAside l C0.2.2.1 _ hd) (lwG_V lm_X5_213 li_X5_layAside lx_X5_layAside lz_RX5 lc_X5_layAside) (by decide +kernel) (oR_at h cA _) rfl rfl rfl (Nat.le_of_ble_eq_true rfl) ⟨rfl, rfl⟩ ⟨by decide, by decide⟩ dX5_ways_97 hl.1 ⟨Nat.zero_le _, Nat.zero_le _⟩ (fun S_1 H locs hd hP hS => ?_)
    refine lv_aload_n hx hb dX5_ways_100 rfl (lv_at hl 0 rfl) ?_
    refine gf_X5_38 C0 hP dX5_ways_101 ?_
    refine lv_iconst (v := 2) hx hb dX5_ways_104 (by decide) ?_
    refine lv_dup2_11 hx hb dX5_ways_105 rfl rfl ?_
    obtain ⟨h_2, hd⟩ := hd
    refine ldR (by decide) C0 hP h_2 dX5_ways_106 ?_
    refine lv_iload hx hb dX5_ways_107 (lv_at hl 5 rfl) ?_
    refine lv_ixor hx hb dX5_ways_109 ?_
    obtain ⟨h_3, hd⟩ := hd
    refine stR (by decide) C0 hP hS h_3 dX5_ways_110 (fun H locs hP hS => ?_)
    refine lv_aload_n hx hb dX5_ways_111 rfl (lv_at hl 0 rfl) ?_
    refine lv_iload_n hx hb dX5_ways_112 rfl (lv_at hl 1 rfl) ?_
    refine cl_Vi (n := 1) (rest := []) C0 hP hS (c_X5_placeBehind l C0.2.2.1 _ hd) (lwG_V lm_X5_225 li_X5_placeBehind lx_X5_placeBehind lz_RX5 lc_X5_placeBehind) (by decide +kernel) (oR_at h cA _) rfl rfl rfl (Nat.le_of_ble_eq_true rfl) ⟨rfl, rfl⟩ ⟨by decide, by decide⟩ dX5_ways_113 hl.1 ⟨Nat.zero_le _, Nat.zero_le _⟩ (fun r_4 S_4 H locs hd hP hS => ?_)
    refine lv_istore (lv' := [(9, .int r_4), (0, .ref (h 100)), (1, .int x1), (2, .int x2), (3, .int x3), (4, .long x4), (6, .int x6), (7, .long x7)]) hx hb dX5_ways_116 hl (by decide) rfl (fun ls hl => ?_)
    refine lv_lload hx hb dX5_ways_118 (lv_at hl 5 rfl) ?_
    refine lv_lload hx hb dX5_ways_120 (lv_at hl 7 rfl) ?_
    refine lv_iload_n hx hb dX5_ways_122 rfl (lv_at hl 3 rfl) ?_
    refine lv_bipush (v := (-9)) hx hb dX5_ways_123 (by decide) ?_
    refine lv_icmp_ne (tgt := 134) hx hb dX5_ways_125 (by decide) (fun hc => ?_) (fun hc => ?_)
    · have hd := hd.1 hc
      refine lv_iload hx hb dX5_ways_134 (lv_at hl 0 rfl) ?_
      refine lv_iload_n hx hb dX5_ways_136 rfl (lv_at hl 3 rfl) ?_
      refine lv_icmp_lt (tgt := 144) hx hb dX5_ways_137 (by decide) (fun hc => ?_) (fun hc => ?_)
      · have hd := hd.1 hc
        refine lv_lconst (v := 0) hx hb dX5_ways_144 (by decide) ?_
        exact bk_X5_ways_145 C0 hret k6 hP hS hd (lv_sub hl [1, 2, 3, 4, 6] rfl)
      · have hd := hd.2 hc
        refine lv_lconst (v := 1) hx hb dX5_ways_140 (by decide) ?_
        refine lv_goto (tgt := 145) hx hb dX5_ways_141 (by decide) ?_
        exact bk_X5_ways_145 C0 hret k6 hP hS hd (lv_sub hl [1, 2, 3, 4, 6] rfl)
    · have hd := hd.2 hc
      refine lv_iload hx hb dX5_ways_128 (lv_at hl 0 rfl) ?_
      refine lv_i2l hx hb dX5_ways_130 rfl ?_
      refine lv_goto (tgt := 145) hx hb dX5_ways_131 (by decide) ?_
      exact bk_X5_ways_145 C0 hret k6 hP hS hd (lv_sub hl [1, 2, 3, 4, 6] rfl)
  · have hd := hd.2 hc
    refine lv_lload hx hb dX5_ways_46 (lv_at hl 6 rfl) ?_
    refine lv_aload_n hx hb dX5_ways_48 rfl (lv_at hl 0 rfl) ?_
    refine gf_X5_35 C0 hP dX5_ways_49 ?_
    refine lv_iconst (v := 2) hx hb dX5_ways_52 (by decide) ?_
    obtain ⟨h_5, hd⟩ := hd
    refine ldR (by decide) C0 hP h_5 dX5_ways_53 ?_
    refine lv_iload hx hb dX5_ways_54 (lv_at hl 7 rfl) ?_
    refine cl_Si (n := 2) (rest := [.long x7]) C0 hP hS (c_X5_has l C0.2.2.1 _ hd) (lwG_S lm_X5_165 ls_X5_has lz_RX5 lc_X5_has) (by decide +kernel) rfl rfl (Nat.le_of_ble_eq_true rfl) ⟨rfl, rfl⟩ ⟨by decide, by decide⟩ dX5_ways_56 hl.1 ⟨Nat.zero_le _, Nat.zero_le _⟩ (fun r_6 S_6 H locs hd hP hS => ?_)
    refine lv_if_ne (tgt := 66) hx hb dX5_ways_59 (by decide) (fun hc => ?_) (fun hc => ?_)
    · have hd := hd.1 hc
      refine lv_iload hx hb dX5_ways_66 (lv_at hl 5 rfl) ?_
      refine lv_iload hx hb dX5_ways_68 (lv_at hl 7 rfl) ?_
      refine cl_Si (n := 2) (rest := [.long x7]) C0 hP hS (c_X5_has l C0.2.2.1 _ hd) (lwG_S lm_X5_165 ls_X5_has lz_RX5 lc_X5_has) (by decide +kernel) rfl rfl (Nat.le_of_ble_eq_true rfl) ⟨rfl, rfl⟩ ⟨by decide, by decide⟩ dX5_ways_70 hl.1 ⟨Nat.zero_le _, Nat.zero_le _⟩ (fun r_7 S_7 H locs hd hP hS => ?_)
      refine lv_if_eq (tgt := 81) hx hb dX5_ways_73 (by decide) (fun hc => ?_) (fun hc => ?_)
      · have hd := hd.1 hc
        refine lv_ldc2 hx hb hown (hts _ lk_X5_255) dX5_ways_81 ?_
        refine lv_iload_n hx hb dX5_ways_84 rfl (lv_at hl 3 rfl) ?_
        refine lv_i2l hx hb dX5_ways_85 rfl ?_
        refine lv_lsub hx hb dX5_ways_86 ?_
        exact bk_X5_ways_87 C0 hret k6 k37 hP hS hd (lv_sub hl [0, 1, 2, 3, 4, 5, 7] rfl)
      · have hd := hd.2 hc
        refine lv_iload_n hx hb dX5_ways_76 rfl (lv_at hl 3 rfl) ?_
        refine lv_i2l hx hb dX5_ways_77 rfl ?_
        refine lv_goto (tgt := 87) hx hb dX5_ways_78 (by decide) ?_
        exact bk_X5_ways_87 C0 hret k6 k37 hP hS hd (lv_sub hl [0, 1, 2, 3, 4, 5, 7] rfl)
    · have hd := hd.2 hc
      refine lv_lconst (v := 1) hx hb dX5_ways_62 (by decide) ?_
      refine lv_goto (tgt := 87) hx hb dX5_ways_63 (by decide) ?_
      exact bk_X5_ways_87 C0 hret k6 k37 hP hS hd (lv_sub hl [0, 1, 2, 3, 4, 5, 7] rfl)
def wl_X5_ways_37 (Q : Int64 → sT → Prop) (K6 : Int32 → Int32 → Int32 → Int64 → Int32 → sT → Prop) : Nat → Int32 → Int32 → Int32 → Int64 → Int32 → Int64 → Int32 → sT → Prop
  | 0, _, _, _, _, _, _, _ => fun _ => False
  | n + 1, x1, x2, x3, x4, x6, x7, x9 => fun S => wb_X5_ways_37 Q K6 (fun x1 x2 x3 x4 x6 x7 x9 S => wl_X5_ways_37 Q K6 n x1 x2 x3 x4 x6 x7 x9 S) x1 x2 x3 x4 x6 x7 x9 S
theorem bl_X5_ways_37 {p : Program} {l : Launch} {e : Env} {s : State} {m : MethodId} {args : Array Value} {below : List Frame} {meth : Method} {c : Code} {Z : State → Prop} {D : va_G} {cA : Nat → ClassId} {h : Nat → Nat} {Q : Int64 → sT → Prop} (C0 : cx p s m args c cX5_ways 10 RX5 D cA false keysRA h) (hret : rtL p l e rm_X5_ways s m args below meth c cX5_ways Z D (wR h cA) (aK keysRA h s.heap.size) Q) {K6 : Int32 → Int32 → Int32 → Int64 → Int32 → sT → Prop} (k6 : ∀ (x1 : Int32) (x2 : Int32) (x3 : Int32) (x4 : Int64) (x6 : Int32) (S : sT) (H : Heap) (locs : List Loc) (ls : Array Slot), K6 x1 x2 x3 x4 x6 S → va_P D vwCl (wR h cA S) H → va_S (aK keysRA h s.heap.size) s.heap H locs → lv_has ls 10 [(0, .ref (h 100)), (1, .int x1), (2, .int x2), (3, .int x3), (4, .long x4), (6, .int x6)] → W p l e rm_X5_ways s m args below meth c H locs 0 0 Z (F0 m 6 ls [])) : ∀ (n : Nat) (x1 : Int32) (x2 : Int32) (x3 : Int32) (x4 : Int64) (x6 : Int32) (x7 : Int64) (x9 : Int32) (S : sT) (H : Heap) (locs : List Loc) (ls : Array Slot), va_P D vwCl (wR h cA S) H → va_S (aK keysRA h s.heap.size) s.heap H locs → wl_X5_ways_37 Q K6 n x1 x2 x3 x4 x6 x7 x9 S → lv_has ls 10 [(0, .ref (h 100)), (1, .int x1), (2, .int x2), (3, .int x3), (4, .long x4), (6, .int x6), (7, .long x7), (9, .int x9)] → W p l e rm_X5_ways s m args below meth c H locs 0 0 Z (F0 m 37 ls []) := by
  intro n
  induction n with
  | zero => intro x1 x2 x3 x4 x6 x7 x9 S H locs ls hP hS hd hl; exact (show False from hd).elim
  | succ n ih => intro x1 x2 x3 x4 x6 x7 x9 S H locs ls hP hS hd hl; exact bk_X5_ways_37 C0 hret k6 (fun x1 x2 x3 x4 x6 x7 x9 S H locs ls hd hP hS hl => ih x1 x2 x3 x4 x6 x7 x9 S H locs ls hP hS hd hl) hP hS hd hl
def wb_X5_ways_6 (Q : Int64 → sT → Prop) (K6 : Int32 → Int32 → Int32 → Int64 → Int32 → sT → Prop) (x1 : Int32) (x2 : Int32) (x3 : Int32) (x4 : Int64) (x6 : Int32) (S : sT) : Prop :=
  ((((1 : Int32) <<< ((vI S 9) &&& 31)) ≤ x6 → Q x4 S) ∧ (¬ ((1 : Int32) <<< ((vI S 9) &&& 31)) ≤ x6 → (vp_in (2 : Int32) 9) ∧ ((¬ (x6 &&& ((vA S 14 (2 : Int32).toNatClampNeg) ^^^ (-1 : Int32))) = 0 → wb_X5_ways_149 Q K6 x1 x2 x3 x4 x6 S) ∧ ((x6 &&& ((vA S 14 (2 : Int32).toNatClampNeg) ^^^ (-1 : Int32))) = 0 → ∃ n : Nat, wl_X5_ways_37 Q K6 n x1 x2 x3 x4 x6 (1 : Int64) (0 : Int32) S))))
set_option maxHeartbeats 4000000 in
set_option maxRecDepth 100000 in
theorem bk_X5_ways_6 {p : Program} {l : Launch} {e : Env} {s : State} {m : MethodId} {args : Array Value} {below : List Frame} {meth : Method} {c : Code} {Z : State → Prop} {D : va_G} {cA : Nat → ClassId} {h : Nat → Nat} {Q : Int64 → sT → Prop} (C0 : cx p s m args c cX5_ways 10 RX5 D cA false keysRA h) (hret : rtL p l e rm_X5_ways s m args below meth c cX5_ways Z D (wR h cA) (aK keysRA h s.heap.size) Q) {K6 : Int32 → Int32 → Int32 → Int64 → Int32 → sT → Prop} (k6 : ∀ (x1 : Int32) (x2 : Int32) (x3 : Int32) (x4 : Int64) (x6 : Int32) (S : sT) (H : Heap) (locs : List Loc) (ls : Array Slot), K6 x1 x2 x3 x4 x6 S → va_P D vwCl (wR h cA S) H → va_S (aK keysRA h s.heap.size) s.heap H locs → lv_has ls 10 [(0, .ref (h 100)), (1, .int x1), (2, .int x2), (3, .int x3), (4, .long x4), (6, .int x6)] → W p l e rm_X5_ways s m args below meth c H locs 0 0 Z (F0 m 6 ls [])) {x1 : Int32} {x2 : Int32} {x3 : Int32} {x4 : Int64} {x6 : Int32} {S : sT} {H : Heap} {locs : List Loc} {ls : Array Slot} (hP : va_P D vwCl (wR h cA S) H) (hS : va_S (aK keysRA h s.heap.size) s.heap H locs) (hd : wb_X5_ways_6 Q K6 x1 x2 x3 x4 x6 S) (hl : lv_has ls 10 [(0, .ref (h 100)), (1, .int x1), (2, .int x2), (3, .int x3), (4, .long x4), (6, .int x6)]) : W p l e rm_X5_ways s m args below meth c H locs 0 0 Z (F0 m 6 ls []) := by
  obtain ⟨⟨hx, hb, hml, hown, hts⟩, hK, -, -⟩ := id C0
  unfold wb_X5_ways_6 at hd
  refine lv_iload hx hb dX5_ways_6 (lv_at hl 5 rfl) ?_
  refine lv_iconst (v := 1) hx hb dX5_ways_8 (by decide) ?_
  refine lv_aload_n hx hb dX5_ways_9 rfl (lv_at hl 0 rfl) ?_
  refine gf_X5_97 C0 hP dX5_ways_10 ?_
  refine lv_ishl hx hb dX5_ways_13 ?_
  refine lv_icmp_ge (tgt := 155) hx hb dX5_ways_14 (by decide) (fun hc => ?_) (fun hc => ?_)
  · have hd := hd.1 hc
    refine lv_lload hx hb dX5_ways_155 (lv_at hl 4 rfl) ?_
    exact hret _ _ _ _ _ _ hd hP hS dX5_ways_157
  · have hd := hd.2 hc
    refine lv_iload hx hb dX5_ways_17 (lv_at hl 5 rfl) ?_
    refine lv_aload_n hx hb dX5_ways_19 rfl (lv_at hl 0 rfl) ?_
    refine gf_X5_35 C0 hP dX5_ways_20 ?_
    refine lv_iconst (v := 2) hx hb dX5_ways_23 (by decide) ?_
    obtain ⟨h_1, hd⟩ := hd
    refine ldR (by decide) C0 hP h_1 dX5_ways_24 ?_
    refine lv_iconst (v := (-1)) hx hb dX5_ways_25 (by decide) ?_
    refine lv_ixor hx hb dX5_ways_26 ?_
    refine lv_iand hx hb dX5_ways_27 ?_
    refine lv_if_ne (tgt := 149) hx hb dX5_ways_28 (by decide) (fun hc => ?_) (fun hc => ?_)
    · have hd := hd.1 hc
      exact bk_X5_ways_149 C0 hret k6 hP hS hd (lv_sub hl [0, 1, 2, 3, 4, 5] rfl)
    · have hd := hd.2 hc
      refine lv_lconst (v := 1) hx hb dX5_ways_31 (by decide) ?_
      refine lv_lstore (lv' := [(7, .long (1 : Int64)), (0, .ref (h 100)), (1, .int x1), (2, .int x2), (3, .int x3), (4, .long x4), (6, .int x6)]) hx hb dX5_ways_32 hl (by decide) rfl (fun ls hl => ?_)
      refine lv_iconst (v := 0) hx hb dX5_ways_34 (by decide) ?_
      refine lv_istore (lv' := [(9, .int (0 : Int32)), (7, .long (1 : Int64)), (0, .ref (h 100)), (1, .int x1), (2, .int x2), (3, .int x3), (4, .long x4), (6, .int x6)]) hx hb dX5_ways_35 hl (by decide) rfl (fun ls hl => ?_)
      obtain ⟨n_2, hd⟩ := hd
      exact bl_X5_ways_37 C0 hret k6 _ _ _ _ _ _ _ _ _ _ _ _ hP hS hd (lv_sub hl [2, 3, 4, 5, 6, 7, 1, 0] rfl)
def wl_X5_ways_6 (Q : Int64 → sT → Prop) : Nat → Int32 → Int32 → Int32 → Int64 → Int32 → sT → Prop
  | 0, _, _, _, _, _ => fun _ => False
  | n + 1, x1, x2, x3, x4, x6 => fun S => wb_X5_ways_6 Q (fun x1 x2 x3 x4 x6 S => wl_X5_ways_6 Q n x1 x2 x3 x4 x6 S) x1 x2 x3 x4 x6 S
theorem bl_X5_ways_6 {p : Program} {l : Launch} {e : Env} {s : State} {m : MethodId} {args : Array Value} {below : List Frame} {meth : Method} {c : Code} {Z : State → Prop} {D : va_G} {cA : Nat → ClassId} {h : Nat → Nat} {Q : Int64 → sT → Prop} (C0 : cx p s m args c cX5_ways 10 RX5 D cA false keysRA h) (hret : rtL p l e rm_X5_ways s m args below meth c cX5_ways Z D (wR h cA) (aK keysRA h s.heap.size) Q) : ∀ (n : Nat) (x1 : Int32) (x2 : Int32) (x3 : Int32) (x4 : Int64) (x6 : Int32) (S : sT) (H : Heap) (locs : List Loc) (ls : Array Slot), va_P D vwCl (wR h cA S) H → va_S (aK keysRA h s.heap.size) s.heap H locs → wl_X5_ways_6 Q n x1 x2 x3 x4 x6 S → lv_has ls 10 [(0, .ref (h 100)), (1, .int x1), (2, .int x2), (3, .int x3), (4, .long x4), (6, .int x6)] → W p l e rm_X5_ways s m args below meth c H locs 0 0 Z (F0 m 6 ls []) := by
  intro n
  induction n with
  | zero => intro x1 x2 x3 x4 x6 S H locs ls hP hS hd hl; exact (show False from hd).elim
  | succ n ih => intro x1 x2 x3 x4 x6 S H locs ls hP hS hd hl; exact bk_X5_ways_6 C0 hret (fun x1 x2 x3 x4 x6 S H locs ls hd hP hS hl => ih x1 x2 x3 x4 x6 S H locs ls hP hS hd hl) hP hS hd hl
def wp_X5_ways (x1 : Int32) (x2 : Int32) (x3 : Int32) (S : sT) (Q : Int64 → sT → Prop) : Prop :=
  ∃ n : Nat, wl_X5_ways_6 Q n x1 x2 x3 (0 : Int64) (0 : Int32) S
set_option maxHeartbeats 4000000 in
set_option maxRecDepth 100000 in
theorem bk_X5_ways {p : Program} {l : Launch} {e : Env} {s : State} {m : MethodId} {args : Array Value} {below : List Frame} {meth : Method} {c : Code} {Z : State → Prop} {D : va_G} {cA : Nat → ClassId} {h : Nat → Nat} {Q : Int64 → sT → Prop} (C0 : cx p s m args c cX5_ways 10 RX5 D cA false keysRA h) (hret : rtL p l e rm_X5_ways s m args below meth c cX5_ways Z D (wR h cA) (aK keysRA h s.heap.size) Q) {x1 : Int32} {x2 : Int32} {x3 : Int32} {S : sT} {H : Heap} {locs : List Loc} {ls : Array Slot} (hP : va_P D vwCl (wR h cA S) H) (hS : va_S (aK keysRA h s.heap.size) s.heap H locs) (hd : wp_X5_ways x1 x2 x3 S Q) (hl : lv_has ls 10 [(0, .ref (h 100)), (1, .int x1), (2, .int x2), (3, .int x3)]) : W p l e rm_X5_ways s m args below meth c H locs 0 0 Z (F0 m 0 ls []) := by
  obtain ⟨⟨hx, hb, hml, hown, hts⟩, hK, -, -⟩ := id C0
  unfold wp_X5_ways at hd
  refine lv_lconst (v := 0) hx hb dX5_ways_0 (by decide) ?_
  refine lv_lstore (lv' := [(4, .long (0 : Int64)), (0, .ref (h 100)), (1, .int x1), (2, .int x2), (3, .int x3)]) hx hb dX5_ways_1 hl (by decide) rfl (fun ls hl => ?_)
  refine lv_iconst (v := 0) hx hb dX5_ways_3 (by decide) ?_
  refine lv_istore (lv' := [(6, .int (0 : Int32)), (4, .long (0 : Int64)), (0, .ref (h 100)), (1, .int x1), (2, .int x2), (3, .int x3)]) hx hb dX5_ways_4 hl (by decide) rfl (fun ls hl => ?_)
  obtain ⟨n_1, hd⟩ := hd
  exact bl_X5_ways_6 C0 hret _ _ _ _ _ _ _ _ _ _ hP hS hd (lv_sub hl [2, 3, 4, 5, 1, 0] rfl)
theorem c_X5_ways (l : Launch) {D : va_G} {cA : Nat → ClassId} {h : Nat → Nat} (hk : ky keysRA h) {x1 : Int32} {x2 : Int32} {x3 : Int32} {S : sT} (sz : Nat) {Q : Int64 → sT → Prop} (hd : wp_X5_ways x1 x2 x3 S Q) : Met l yX5_ways (wsU yX5_ways cX5_ways 10 (some .long)) rm_X5_ways (va_Pc [.ref (h 100), .int x1, .int x2, .int x3] (gP D cA false keysRA h (wR h cA) S sz)) (va_Ql Q (wB D (wR h cA)) (aK keysRA h sz)) 0 0 (aK keysRA h sz) :=
  mk_l (by decide) hk (Nat.le_of_ble_eq_true rfl) (fun p e s m below meth c Z ls C0 hret hP hS hl => bk_X5_ways C0 hret hP hS hd hl)
abbrev rm_X5_mid : Room := { frames := 6, cells := 0, slots := 0, locals := 144 }
def wp_X5_mid (x1 : Int32) (x2 : Int32) (S : sT) (Q : Int32 → sT → Prop) : Prop :=
  wp_X5_in x1.toInt64 (0 : Int64) (30 : Int64) S (fun r_1 S_1 => ((r_1 = 0 → Q (-1 : Int32) S_1) ∧ (¬ r_1 = 0 → wp_X5_in x2.toInt64 (0 : Int64) (12 : Int64) S_1 (fun r_2 S_2 => ((¬ r_2 = 0 → ((¬ (vI S_2 9) = 0 → wp_X5_ways x1 (-9 : Int32) x2 S_2 (fun r_3 S_3 => wp_X5_allWays S_3 (fun r_4 S_4 => wp_X5_fraction r_3 r_4 S_4 (fun r_5 S_5 => Q r_5 S_5)))) ∧ ((vI S_2 9) = 0 → Q (-4 : Int32) S_2))) ∧ (r_2 = 0 → Q (-1 : Int32) S_2))))))
set_option maxHeartbeats 4000000 in
set_option maxRecDepth 100000 in
theorem bk_X5_mid {p : Program} {l : Launch} {e : Env} {s : State} {m : MethodId} {args : Array Value} {below : List Frame} {meth : Method} {c : Code} {Z : State → Prop} {D : va_G} {cA : Nat → ClassId} {h : Nat → Nat} {Q : Int32 → sT → Prop} (C0 : cx p s m args c cX5_mid 3 RX5 D cA false keysRA h) (hret : rtI p l e rm_X5_mid s m args below meth c cX5_mid Z D (wR h cA) (aK keysRA h s.heap.size) Q) {x1 : Int32} {x2 : Int32} {S : sT} {H : Heap} {locs : List Loc} {ls : Array Slot} (hP : va_P D vwCl (wR h cA S) H) (hS : va_S (aK keysRA h s.heap.size) s.heap H locs) (hd : wp_X5_mid x1 x2 S Q) (hl : lv_has ls 3 [(0, .ref (h 100)), (1, .int x1), (2, .int x2)]) : W p l e rm_X5_mid s m args below meth c H locs 0 0 Z (F0 m 0 ls []) := by
  obtain ⟨⟨hx, hb, hml, hown, hts⟩, hK, -, -⟩ := id C0
  unfold wp_X5_mid at hd
  refine lv_iload_n hx hb dX5_mid_0 rfl (lv_at hl 1 rfl) ?_
  refine lv_i2l hx hb dX5_mid_1 rfl ?_
  refine lv_lconst (v := 0) hx hb dX5_mid_2 (by decide) ?_
  refine lv_ldc2 hx hb hown (hts _ lk_X5_257) dX5_mid_3 ?_
  refine cl_Si (n := 3) (rest := []) C0 hP hS (c_X5_in l C0.2.2.1 _ hd) (lwG_S lm_X5_77 ls_X5_in lz_RX5 lc_X5_in) (by decide +kernel) rfl rfl (Nat.le_of_ble_eq_true rfl) ⟨rfl, rfl⟩ ⟨by decide, by decide⟩ dX5_mid_6 hl.1 ⟨Nat.zero_le _, Nat.zero_le _⟩ (fun r_1 S_1 H locs hd hP hS => ?_)
  refine lv_if_eq (tgt := 24) hx hb dX5_mid_9 (by decide) (fun hc => ?_) (fun hc => ?_)
  · have hd := hd.1 hc
    refine lv_iconst (v := (-1)) hx hb dX5_mid_24 (by decide) ?_
    exact hret _ _ _ _ _ _ hd hP hS dX5_mid_25
  · have hd := hd.2 hc
    refine lv_iload_n hx hb dX5_mid_12 rfl (lv_at hl 2 rfl) ?_
    refine lv_i2l hx hb dX5_mid_13 rfl ?_
    refine lv_lconst (v := 0) hx hb dX5_mid_14 (by decide) ?_
    refine lv_ldc2 hx hb hown (hts _ lk_X5_255) dX5_mid_15 ?_
    refine cl_Si (n := 3) (rest := []) C0 hP hS (c_X5_in l C0.2.2.1 _ hd) (lwG_S lm_X5_77 ls_X5_in lz_RX5 lc_X5_in) (by decide +kernel) rfl rfl (Nat.le_of_ble_eq_true rfl) ⟨rfl, rfl⟩ ⟨by decide, by decide⟩ dX5_mid_18 hl.1 ⟨Nat.zero_le _, Nat.zero_le _⟩ (fun r_2 S_2 H locs hd hP hS => ?_)
    refine lv_if_ne (tgt := 26) hx hb dX5_mid_21 (by decide) (fun hc => ?_) (fun hc => ?_)
    · have hd := hd.1 hc
      refine lv_aload_n hx hb dX5_mid_26 rfl (lv_at hl 0 rfl) ?_
      refine gf_X5_97 C0 hP dX5_mid_27 ?_
      refine lv_if_ne (tgt := 38) hx hb dX5_mid_30 (by decide) (fun hc => ?_) (fun hc => ?_)
      · have hd := hd.1 hc
        refine lv_aload_n hx hb dX5_mid_38 rfl (lv_at hl 0 rfl) ?_
        refine lv_aload_n hx hb dX5_mid_39 rfl (lv_at hl 0 rfl) ?_
        refine lv_iload_n hx hb dX5_mid_40 rfl (lv_at hl 1 rfl) ?_
        refine lv_bipush (v := (-9)) hx hb dX5_mid_41 (by decide) ?_
        refine lv_iload_n hx hb dX5_mid_43 rfl (lv_at hl 2 rfl) ?_
        refine cl_Vl (n := 3) (rest := [.ref (h 100)]) C0 hP hS (c_X5_ways l C0.2.2.1 _ hd) (lwG_V lm_X5_259 li_X5_ways lx_X5_ways lz_RX5 lc_X5_ways) (by decide +kernel) (oR_at h cA _) rfl rfl rfl (Nat.le_of_ble_eq_true rfl) ⟨rfl, rfl⟩ ⟨by decide, by decide⟩ dX5_mid_44 hl.1 ⟨Nat.zero_le _, Nat.zero_le _⟩ (fun r_3 S_3 H locs hd hP hS => ?_)
        refine lv_aload_n hx hb dX5_mid_47 rfl (lv_at hl 0 rfl) ?_
        refine cl_Vl (n := 0) (rest := [.long r_3, .ref (h 100)]) C0 hP hS (c_X5_allWays l C0.2.2.1 _ hd) (lwG_V lm_X5_263 li_X5_allWays lx_X5_allWays lz_RX5 lc_X5_allWays) (by decide +kernel) (oR_at h cA _) rfl rfl rfl (Nat.le_of_ble_eq_true rfl) ⟨rfl, rfl⟩ ⟨by decide, by decide⟩ dX5_mid_48 hl.1 ⟨Nat.zero_le _, Nat.zero_le _⟩ (fun r_4 S_4 H locs hd hP hS => ?_)
        refine cl_Vi (n := 2) (rest := []) C0 hP hS (c_X5_fraction l C0.2.2.1 _ hd) (lwG_V lm_X5_267 li_X5_fraction lx_X5_fraction lz_RX5 lc_X5_fraction) (by decide +kernel) (oR_at h cA _) rfl rfl rfl (Nat.le_of_ble_eq_true rfl) ⟨rfl, rfl⟩ ⟨by decide, by decide⟩ dX5_mid_51 hl.1 ⟨Nat.zero_le _, Nat.zero_le _⟩ (fun r_5 S_5 H locs hd hP hS => ?_)
        exact hret _ _ _ _ _ _ hd hP hS dX5_mid_54
      · have hd := hd.2 hc
        refine lv_bipush (v := (-4)) hx hb dX5_mid_33 (by decide) ?_
        refine lv_goto (tgt := 54) hx hb dX5_mid_35 (by decide) ?_
        exact hret _ _ _ _ _ _ hd hP hS dX5_mid_54
    · have hd := hd.2 hc
      refine lv_iconst (v := (-1)) hx hb dX5_mid_24 (by decide) ?_
      exact hret _ _ _ _ _ _ hd hP hS dX5_mid_25
theorem c_X5_mid (l : Launch) {D : va_G} {cA : Nat → ClassId} {h : Nat → Nat} (hk : ky keysRA h) {x1 : Int32} {x2 : Int32} {S : sT} (sz : Nat) {Q : Int32 → sT → Prop} (hd : wp_X5_mid x1 x2 S Q) : Met l yX5_mid (wsU yX5_mid cX5_mid 3 (some .int)) rm_X5_mid (va_Pc [.ref (h 100), .int x1, .int x2] (gP D cA false keysRA h (wR h cA) S sz)) (va_Qi Q (wB D (wR h cA)) (aK keysRA h sz)) 0 0 (aK keysRA h sz) :=
  mk_i (by decide) hk (Nat.le_of_ble_eq_true rfl) (fun p e s m below meth c Z ls C0 hret hP hS hl => bk_X5_mid C0 hret hP hS hd hl)
abbrev rm_X5_minute : Room := { frames := 4, cells := 0, slots := 0, locals := 92 }
def wp_X5_minute (S : sT) (Q : Int32 → sT → Prop) : Prop :=
  (((vI S 9) = 0 → Q (-4 : Int32) S) ∧ (¬ (vI S 9) = 0 → (vp_in (0 : Int32) 9) ∧ ((¬ (vA S 14 (0 : Int32).toNatClampNeg) = (99 : Int32) → ((¬ (vI S 17) = (40 : Int32) → wp_X5_remember S (fun S_2 => wp_X5_goes 14 S_2 (fun r_3 S_3 => (vp_in (1 : Int32) 9) ∧ Q (vA S_3 14 (1 : Int32).toNatClampNeg) S_3))) ∧ ((vI S 17) = (40 : Int32) → Q (-2 : Int32) S))) ∧ ((vA S 14 (0 : Int32).toNatClampNeg) = (99 : Int32) → Q (-4 : Int32) S))))
set_option maxHeartbeats 4000000 in
set_option maxRecDepth 100000 in
theorem bk_X5_minute {p : Program} {l : Launch} {e : Env} {s : State} {m : MethodId} {args : Array Value} {below : List Frame} {meth : Method} {c : Code} {Z : State → Prop} {D : va_G} {cA : Nat → ClassId} {h : Nat → Nat} {Q : Int32 → sT → Prop} (C0 : cx p s m args c cX5_minute 2 RX5 D cA false keysRA h) (hret : rtI p l e rm_X5_minute s m args below meth c cX5_minute Z D (wR h cA) (aK keysRA h s.heap.size) Q) {S : sT} {H : Heap} {locs : List Loc} {ls : Array Slot} (hP : va_P D vwCl (wR h cA S) H) (hS : va_S (aK keysRA h s.heap.size) s.heap H locs) (hd : wp_X5_minute S Q) (hl : lv_has ls 2 [(0, .ref (h 100))]) : W p l e rm_X5_minute s m args below meth c H locs 0 0 Z (F0 m 0 ls []) := by
  obtain ⟨⟨hx, hb, hml, hown, hts⟩, hK, -, -⟩ := id C0
  unfold wp_X5_minute at hd
  refine lv_aload_n hx hb dX5_minute_0 rfl (lv_at hl 0 rfl) ?_
  refine gf_X5_97 C0 hP dX5_minute_1 ?_
  refine lv_if_eq (tgt := 18) hx hb dX5_minute_4 (by decide) (fun hc => ?_) (fun hc => ?_)
  · have hd := hd.1 hc
    refine lv_bipush (v := (-4)) hx hb dX5_minute_18 (by decide) ?_
    exact hret _ _ _ _ _ _ hd hP hS dX5_minute_20
  · have hd := hd.2 hc
    refine lv_aload_n hx hb dX5_minute_7 rfl (lv_at hl 0 rfl) ?_
    refine gf_X5_35 C0 hP dX5_minute_8 ?_
    refine lv_iconst (v := 0) hx hb dX5_minute_11 (by decide) ?_
    obtain ⟨h_1, hd⟩ := hd
    refine ldR (by decide) C0 hP h_1 dX5_minute_12 ?_
    refine lv_bipush (v := 99) hx hb dX5_minute_13 (by decide) ?_
    refine lv_icmp_ne (tgt := 21) hx hb dX5_minute_15 (by decide) (fun hc => ?_) (fun hc => ?_)
    · have hd := hd.1 hc
      refine lv_aload_n hx hb dX5_minute_21 rfl (lv_at hl 0 rfl) ?_
      refine gf_X5_100 C0 hP dX5_minute_22 ?_
      refine lv_bipush (v := 40) hx hb dX5_minute_25 (by decide) ?_
      refine lv_icmp_ne (tgt := 33) hx hb dX5_minute_27 (by decide) (fun hc => ?_) (fun hc => ?_)
      · have hd := hd.1 hc
        refine lv_aload_n hx hb dX5_minute_33 rfl (lv_at hl 0 rfl) ?_
        refine cl_Vv (n := 0) (rest := []) C0 hP hS (c_X5_remember l C0.2.2.1 _ hd) (lwG_V lm_X5_201 li_X5_remember lx_X5_remember lz_RX5 lc_X5_remember) (by decide +kernel) (oR_at h cA _) rfl rfl rfl (Nat.le_of_ble_eq_true rfl) ⟨rfl, rfl⟩ ⟨by decide, by decide⟩ dX5_minute_34 hl.1 ⟨Nat.zero_le _, Nat.zero_le _⟩ (fun S_2 H locs hd hP hS => ?_)
        refine lv_aload_n hx hb dX5_minute_37 rfl (lv_at hl 0 rfl) ?_
        refine lv_aload_n hx hb dX5_minute_38 rfl (lv_at hl 0 rfl) ?_
        refine gf_X5_35 C0 hP dX5_minute_39 ?_
        refine cl_Vi (n := 1) (rest := []) C0 hP hS (c_X5_goes l C0.2.2.1 (by decide) _ hd) (lwG_V lm_X5_204 li_X5_goes lx_X5_goes lz_RX5 lc_X5_goes) (by decide +kernel) (oR_at h cA _) rfl rfl rfl (Nat.le_of_ble_eq_true rfl) ⟨rfl, rfl⟩ ⟨by decide, by decide⟩ dX5_minute_42 hl.1 ⟨Nat.zero_le _, Nat.zero_le _⟩ (fun r_3 S_3 H locs hd hP hS => ?_)
        refine lv_istore_n (lv' := [(1, .int r_3), (0, .ref (h 100))]) hx hb dX5_minute_45 rfl hl (by decide) rfl (fun ls hl => ?_)
        refine lv_aload_n hx hb dX5_minute_46 rfl (lv_at hl 1 rfl) ?_
        refine gf_X5_35 C0 hP dX5_minute_47 ?_
        refine lv_iconst (v := 1) hx hb dX5_minute_50 (by decide) ?_
        obtain ⟨h_4, hd⟩ := hd
        refine ldR (by decide) C0 hP h_4 dX5_minute_51 ?_
        exact hret _ _ _ _ _ _ hd hP hS dX5_minute_52
      · have hd := hd.2 hc
        refine lv_bipush (v := (-2)) hx hb dX5_minute_30 (by decide) ?_
        exact hret _ _ _ _ _ _ hd hP hS dX5_minute_32
    · have hd := hd.2 hc
      refine lv_bipush (v := (-4)) hx hb dX5_minute_18 (by decide) ?_
      exact hret _ _ _ _ _ _ hd hP hS dX5_minute_20
theorem c_X5_minute (l : Launch) {D : va_G} {cA : Nat → ClassId} {h : Nat → Nat} (hk : ky keysRA h) {S : sT} (sz : Nat) {Q : Int32 → sT → Prop} (hd : wp_X5_minute S Q) : Met l yX5_minute (wsU yX5_minute cX5_minute 2 (some .int)) rm_X5_minute (va_Pc [.ref (h 100)] (gP D cA false keysRA h (wR h cA) S sz)) (va_Qi Q (wB D (wR h cA)) (aK keysRA h sz)) 0 0 (aK keysRA h sz) :=
  mk_i (by decide) hk (Nat.le_of_ble_eq_true rfl) (fun p e s m below meth c Z ls C0 hret hP hS hl => bk_X5_minute C0 hret hP hS hd hl)
abbrev rm_X5_odds : Room := { frames := 6, cells := 0, slots := 0, locals := 144 }
def wp_X5_odds (x1 : Int32) (x2 : Int32) (x3 : Int32) (S : sT) (Q : Int32 → sT → Prop) : Prop :=
  wp_X5_in x1.toInt64 (0 : Int64) (30 : Int64) S (fun r_1 S_1 => ((r_1 = 0 → Q (-1 : Int32) S_1) ∧ (¬ r_1 = 0 → wp_X5_in x2.toInt64 (0 : Int64) (20 : Int64) S_1 (fun r_2 S_2 => ((r_2 = 0 → Q (-1 : Int32) S_2) ∧ (¬ r_2 = 0 → wp_X5_in x3.toInt64 (0 : Int64) (12 : Int64) S_2 (fun r_3 S_3 => ((¬ r_3 = 0 → ((¬ (vI S_3 9) = 0 → wp_X5_ways x1 x2 x3 S_3 (fun r_4 S_4 => wp_X5_allWays S_4 (fun r_5 S_5 => wp_X5_fraction r_4 r_5 S_5 (fun r_6 S_6 => Q r_6 S_6)))) ∧ ((vI S_3 9) = 0 → Q (-4 : Int32) S_3))) ∧ (r_3 = 0 → Q (-1 : Int32) S_3)))))))))
set_option maxHeartbeats 4000000 in
set_option maxRecDepth 100000 in
theorem bk_X5_odds {p : Program} {l : Launch} {e : Env} {s : State} {m : MethodId} {args : Array Value} {below : List Frame} {meth : Method} {c : Code} {Z : State → Prop} {D : va_G} {cA : Nat → ClassId} {h : Nat → Nat} {Q : Int32 → sT → Prop} (C0 : cx p s m args c cX5_odds 4 RX5 D cA false keysRA h) (hret : rtI p l e rm_X5_odds s m args below meth c cX5_odds Z D (wR h cA) (aK keysRA h s.heap.size) Q) {x1 : Int32} {x2 : Int32} {x3 : Int32} {S : sT} {H : Heap} {locs : List Loc} {ls : Array Slot} (hP : va_P D vwCl (wR h cA S) H) (hS : va_S (aK keysRA h s.heap.size) s.heap H locs) (hd : wp_X5_odds x1 x2 x3 S Q) (hl : lv_has ls 4 [(0, .ref (h 100)), (1, .int x1), (2, .int x2), (3, .int x3)]) : W p l e rm_X5_odds s m args below meth c H locs 0 0 Z (F0 m 0 ls []) := by
  obtain ⟨⟨hx, hb, hml, hown, hts⟩, hK, -, -⟩ := id C0
  unfold wp_X5_odds at hd
  refine lv_iload_n hx hb dX5_odds_0 rfl (lv_at hl 1 rfl) ?_
  refine lv_i2l hx hb dX5_odds_1 rfl ?_
  refine lv_lconst (v := 0) hx hb dX5_odds_2 (by decide) ?_
  refine lv_ldc2 hx hb hown (hts _ lk_X5_257) dX5_odds_3 ?_
  refine cl_Si (n := 3) (rest := []) C0 hP hS (c_X5_in l C0.2.2.1 _ hd) (lwG_S lm_X5_77 ls_X5_in lz_RX5 lc_X5_in) (by decide +kernel) rfl rfl (Nat.le_of_ble_eq_true rfl) ⟨rfl, rfl⟩ ⟨by decide, by decide⟩ dX5_odds_6 hl.1 ⟨Nat.zero_le _, Nat.zero_le _⟩ (fun r_1 S_1 H locs hd hP hS => ?_)
  refine lv_if_eq (tgt := 36) hx hb dX5_odds_9 (by decide) (fun hc => ?_) (fun hc => ?_)
  · have hd := hd.1 hc
    refine lv_iconst (v := (-1)) hx hb dX5_odds_36 (by decide) ?_
    exact hret _ _ _ _ _ _ hd hP hS dX5_odds_37
  · have hd := hd.2 hc
    refine lv_iload_n hx hb dX5_odds_12 rfl (lv_at hl 2 rfl) ?_
    refine lv_i2l hx hb dX5_odds_13 rfl ?_
    refine lv_lconst (v := 0) hx hb dX5_odds_14 (by decide) ?_
    refine lv_ldc2 hx hb hown (hts _ lk_X5_231) dX5_odds_15 ?_
    refine cl_Si (n := 3) (rest := []) C0 hP hS (c_X5_in l C0.2.2.1 _ hd) (lwG_S lm_X5_77 ls_X5_in lz_RX5 lc_X5_in) (by decide +kernel) rfl rfl (Nat.le_of_ble_eq_true rfl) ⟨rfl, rfl⟩ ⟨by decide, by decide⟩ dX5_odds_18 hl.1 ⟨Nat.zero_le _, Nat.zero_le _⟩ (fun r_2 S_2 H locs hd hP hS => ?_)
    refine lv_if_eq (tgt := 36) hx hb dX5_odds_21 (by decide) (fun hc => ?_) (fun hc => ?_)
    · have hd := hd.1 hc
      refine lv_iconst (v := (-1)) hx hb dX5_odds_36 (by decide) ?_
      exact hret _ _ _ _ _ _ hd hP hS dX5_odds_37
    · have hd := hd.2 hc
      refine lv_iload_n hx hb dX5_odds_24 rfl (lv_at hl 3 rfl) ?_
      refine lv_i2l hx hb dX5_odds_25 rfl ?_
      refine lv_lconst (v := 0) hx hb dX5_odds_26 (by decide) ?_
      refine lv_ldc2 hx hb hown (hts _ lk_X5_255) dX5_odds_27 ?_
      refine cl_Si (n := 3) (rest := []) C0 hP hS (c_X5_in l C0.2.2.1 _ hd) (lwG_S lm_X5_77 ls_X5_in lz_RX5 lc_X5_in) (by decide +kernel) rfl rfl (Nat.le_of_ble_eq_true rfl) ⟨rfl, rfl⟩ ⟨by decide, by decide⟩ dX5_odds_30 hl.1 ⟨Nat.zero_le _, Nat.zero_le _⟩ (fun r_3 S_3 H locs hd hP hS => ?_)
      refine lv_if_ne (tgt := 38) hx hb dX5_odds_33 (by decide) (fun hc => ?_) (fun hc => ?_)
      · have hd := hd.1 hc
        refine lv_aload_n hx hb dX5_odds_38 rfl (lv_at hl 0 rfl) ?_
        refine gf_X5_97 C0 hP dX5_odds_39 ?_
        refine lv_if_ne (tgt := 50) hx hb dX5_odds_42 (by decide) (fun hc => ?_) (fun hc => ?_)
        · have hd := hd.1 hc
          refine lv_aload_n hx hb dX5_odds_50 rfl (lv_at hl 0 rfl) ?_
          refine lv_aload_n hx hb dX5_odds_51 rfl (lv_at hl 0 rfl) ?_
          refine lv_iload_n hx hb dX5_odds_52 rfl (lv_at hl 1 rfl) ?_
          refine lv_iload_n hx hb dX5_odds_53 rfl (lv_at hl 2 rfl) ?_
          refine lv_iload_n hx hb dX5_odds_54 rfl (lv_at hl 3 rfl) ?_
          refine cl_Vl (n := 3) (rest := [.ref (h 100)]) C0 hP hS (c_X5_ways l C0.2.2.1 _ hd) (lwG_V lm_X5_259 li_X5_ways lx_X5_ways lz_RX5 lc_X5_ways) (by decide +kernel) (oR_at h cA _) rfl rfl rfl (Nat.le_of_ble_eq_true rfl) ⟨rfl, rfl⟩ ⟨by decide, by decide⟩ dX5_odds_55 hl.1 ⟨Nat.zero_le _, Nat.zero_le _⟩ (fun r_4 S_4 H locs hd hP hS => ?_)
          refine lv_aload_n hx hb dX5_odds_58 rfl (lv_at hl 0 rfl) ?_
          refine cl_Vl (n := 0) (rest := [.long r_4, .ref (h 100)]) C0 hP hS (c_X5_allWays l C0.2.2.1 _ hd) (lwG_V lm_X5_263 li_X5_allWays lx_X5_allWays lz_RX5 lc_X5_allWays) (by decide +kernel) (oR_at h cA _) rfl rfl rfl (Nat.le_of_ble_eq_true rfl) ⟨rfl, rfl⟩ ⟨by decide, by decide⟩ dX5_odds_59 hl.1 ⟨Nat.zero_le _, Nat.zero_le _⟩ (fun r_5 S_5 H locs hd hP hS => ?_)
          refine cl_Vi (n := 2) (rest := []) C0 hP hS (c_X5_fraction l C0.2.2.1 _ hd) (lwG_V lm_X5_267 li_X5_fraction lx_X5_fraction lz_RX5 lc_X5_fraction) (by decide +kernel) (oR_at h cA _) rfl rfl rfl (Nat.le_of_ble_eq_true rfl) ⟨rfl, rfl⟩ ⟨by decide, by decide⟩ dX5_odds_62 hl.1 ⟨Nat.zero_le _, Nat.zero_le _⟩ (fun r_6 S_6 H locs hd hP hS => ?_)
          exact hret _ _ _ _ _ _ hd hP hS dX5_odds_65
        · have hd := hd.2 hc
          refine lv_bipush (v := (-4)) hx hb dX5_odds_45 (by decide) ?_
          refine lv_goto (tgt := 65) hx hb dX5_odds_47 (by decide) ?_
          exact hret _ _ _ _ _ _ hd hP hS dX5_odds_65
      · have hd := hd.2 hc
        refine lv_iconst (v := (-1)) hx hb dX5_odds_36 (by decide) ?_
        exact hret _ _ _ _ _ _ hd hP hS dX5_odds_37
theorem c_X5_odds (l : Launch) {D : va_G} {cA : Nat → ClassId} {h : Nat → Nat} (hk : ky keysRA h) {x1 : Int32} {x2 : Int32} {x3 : Int32} {S : sT} (sz : Nat) {Q : Int32 → sT → Prop} (hd : wp_X5_odds x1 x2 x3 S Q) : Met l yX5_odds (wsU yX5_odds cX5_odds 4 (some .int)) rm_X5_odds (va_Pc [.ref (h 100), .int x1, .int x2, .int x3] (gP D cA false keysRA h (wR h cA) S sz)) (va_Qi Q (wB D (wR h cA)) (aK keysRA h sz)) 0 0 (aK keysRA h sz) :=
  mk_i (by decide) hk (Nat.le_of_ble_eq_true rfl) (fun p e s m below meth c Z ls C0 hret hP hS hl => bk_X5_odds C0 hret hP hS hd hl)
abbrev rm_X5_on : Room := { frames := 1, cells := 0, slots := 0, locals := 25 }
def wp_X5_on (x1 : Int32) (S : sT) (Q : Int32 → sT → Prop) : Prop :=
  wp_X5_in x1.toInt64 (0 : Int64) (2 : Int64) S (fun r_1 S_1 => ((¬ r_1 = 0 → (vp_in ((370 : Int32) * x1) 1110) ∧ ((0 ≤ (vA S_1 18 ((370 : Int32) * x1).toNatClampNeg) → (vp_in ((370 : Int32) * x1) 1110) ∧ wp_X5_copies 18 14 (((370 : Int32) * x1) + (1 : Int32)) (0 : Int32) (9 : Int32) (uI S_1 17 (vA S_1 18 ((370 : Int32) * x1).toNatClampNeg)) (fun S_4 => wp_X5_copies 18 16 ((((370 : Int32) * x1) + (1 : Int32)) + (9 : Int32)) (0 : Int32) (360 : Int32) S_4 (fun S_5 => Q (vI S_5 17) S_5))) ∧ (¬ 0 ≤ (vA S_1 18 ((370 : Int32) * x1).toNatClampNeg) → wp_X5_found (1 : Int32) S_1 (fun r_6 S_6 => Q r_6 S_6)))) ∧ (r_1 = 0 → Q (-1 : Int32) S_1)))
set_option maxHeartbeats 4000000 in
set_option maxRecDepth 100000 in
theorem bk_X5_on {p : Program} {l : Launch} {e : Env} {s : State} {m : MethodId} {args : Array Value} {below : List Frame} {meth : Method} {c : Code} {Z : State → Prop} {D : va_G} {cA : Nat → ClassId} {h : Nat → Nat} {Q : Int32 → sT → Prop} (C0 : cx p s m args c cX5_on 2 RX5 D cA false keysRA h) (hret : rtI p l e rm_X5_on s m args below meth c cX5_on Z D (wR h cA) (aK keysRA h s.heap.size) Q) {x1 : Int32} {S : sT} {H : Heap} {locs : List Loc} {ls : Array Slot} (hP : va_P D vwCl (wR h cA S) H) (hS : va_S (aK keysRA h s.heap.size) s.heap H locs) (hd : wp_X5_on x1 S Q) (hl : lv_has ls 2 [(0, .ref (h 100)), (1, .int x1)]) : W p l e rm_X5_on s m args below meth c H locs 0 0 Z (F0 m 0 ls []) := by
  obtain ⟨⟨hx, hb, hml, hown, hts⟩, hK, -, -⟩ := id C0
  unfold wp_X5_on at hd
  refine lv_iload_n hx hb dX5_on_0 rfl (lv_at hl 1 rfl) ?_
  refine lv_i2l hx hb dX5_on_1 rfl ?_
  refine lv_lconst (v := 0) hx hb dX5_on_2 (by decide) ?_
  refine lv_ldc2 hx hb hown (hts _ lk_X5_209) dX5_on_3 ?_
  refine cl_Si (n := 3) (rest := []) C0 hP hS (c_X5_in l C0.2.2.1 _ hd) (lwG_S lm_X5_77 ls_X5_in lz_RX5 lc_X5_in) (by decide +kernel) rfl rfl (Nat.le_of_ble_eq_true rfl) ⟨rfl, rfl⟩ ⟨by decide, by decide⟩ dX5_on_6 hl.1 ⟨Nat.zero_le _, Nat.zero_le _⟩ (fun r_1 S_1 H locs hd hP hS => ?_)
  refine lv_if_ne (tgt := 14) hx hb dX5_on_9 (by decide) (fun hc => ?_) (fun hc => ?_)
  · have hd := hd.1 hc
    refine lv_aload_n hx hb dX5_on_14 rfl (lv_at hl 0 rfl) ?_
    refine gf_X5_44 C0 hP dX5_on_15 ?_
    refine lv_sipush (v := 370) hx hb dX5_on_18 (by decide) ?_
    refine lv_iload_n hx hb dX5_on_21 rfl (lv_at hl 1 rfl) ?_
    refine lv_imul hx hb dX5_on_22 ?_
    obtain ⟨h_2, hd⟩ := hd
    refine ldR (by decide) C0 hP h_2 dX5_on_23 ?_
    refine lv_if_ge (tgt := 33) hx hb dX5_on_24 (by decide) (fun hc => ?_) (fun hc => ?_)
    · have hd := hd.1 hc
      refine lv_aload_n hx hb dX5_on_33 rfl (lv_at hl 0 rfl) ?_
      refine lv_aload_n hx hb dX5_on_34 rfl (lv_at hl 0 rfl) ?_
      refine gf_X5_44 C0 hP dX5_on_35 ?_
      refine lv_sipush (v := 370) hx hb dX5_on_38 (by decide) ?_
      refine lv_iload_n hx hb dX5_on_41 rfl (lv_at hl 1 rfl) ?_
      refine lv_imul hx hb dX5_on_42 ?_
      obtain ⟨h_3, hd⟩ := hd
      refine ldR (by decide) C0 hP h_3 dX5_on_43 ?_
      refine pf_X5_100 C0 hP hS dX5_on_44 (fun H locs hP hS => ?_)
      refine lv_aload_n hx hb dX5_on_47 rfl (lv_at hl 0 rfl) ?_
      refine gf_X5_44 C0 hP dX5_on_48 ?_
      refine lv_sipush (v := 370) hx hb dX5_on_51 (by decide) ?_
      refine lv_iload_n hx hb dX5_on_54 rfl (lv_at hl 1 rfl) ?_
      refine lv_imul hx hb dX5_on_55 ?_
      refine lv_iconst (v := 1) hx hb dX5_on_56 (by decide) ?_
      refine lv_iadd hx hb dX5_on_57 ?_
      refine lv_aload_n hx hb dX5_on_58 rfl (lv_at hl 0 rfl) ?_
      refine gf_X5_35 C0 hP dX5_on_59 ?_
      refine lv_iconst (v := 0) hx hb dX5_on_62 (by decide) ?_
      refine lv_bipush (v := 9) hx hb dX5_on_63 (by decide) ?_
      refine cl_Sv (n := 5) (rest := []) C0 hP hS (c_X5_copies l C0.2.2.1 (by decide) (by decide) _ hd) (lwG_S lm_X5_197 ls_X5_copies lz_RX5 lc_X5_copies) (by decide +kernel) rfl rfl (Nat.le_of_ble_eq_true rfl) ⟨rfl, rfl⟩ ⟨by decide, by decide⟩ dX5_on_65 hl.1 ⟨Nat.zero_le _, Nat.zero_le _⟩ (fun S_4 H locs hd hP hS => ?_)
      refine lv_aload_n hx hb dX5_on_68 rfl (lv_at hl 0 rfl) ?_
      refine gf_X5_44 C0 hP dX5_on_69 ?_
      refine lv_sipush (v := 370) hx hb dX5_on_72 (by decide) ?_
      refine lv_iload_n hx hb dX5_on_75 rfl (lv_at hl 1 rfl) ?_
      refine lv_imul hx hb dX5_on_76 ?_
      refine lv_iconst (v := 1) hx hb dX5_on_77 (by decide) ?_
      refine lv_iadd hx hb dX5_on_78 ?_
      refine lv_bipush (v := 9) hx hb dX5_on_79 (by decide) ?_
      refine lv_iadd hx hb dX5_on_81 ?_
      refine lv_aload_n hx hb dX5_on_82 rfl (lv_at hl 0 rfl) ?_
      refine gf_X5_41 C0 hP dX5_on_83 ?_
      refine lv_iconst (v := 0) hx hb dX5_on_86 (by decide) ?_
      refine lv_sipush (v := 360) hx hb dX5_on_87 (by decide) ?_
      refine cl_Sv (n := 5) (rest := []) C0 hP hS (c_X5_copies l C0.2.2.1 (by decide) (by decide) _ hd) (lwG_S lm_X5_197 ls_X5_copies lz_RX5 lc_X5_copies) (by decide +kernel) rfl rfl (Nat.le_of_ble_eq_true rfl) ⟨rfl, rfl⟩ ⟨by decide, by decide⟩ dX5_on_90 hl.1 ⟨Nat.zero_le _, Nat.zero_le _⟩ (fun S_5 H locs hd hP hS => ?_)
      refine lv_aload_n hx hb dX5_on_93 rfl (lv_at hl 0 rfl) ?_
      refine gf_X5_100 C0 hP dX5_on_94 ?_
      exact hret _ _ _ _ _ _ hd hP hS dX5_on_97
    · have hd := hd.2 hc
      refine lv_aload_n hx hb dX5_on_27 rfl (lv_at hl 0 rfl) ?_
      refine lv_iconst (v := 1) hx hb dX5_on_28 (by decide) ?_
      refine cl_Vi (n := 1) (rest := []) C0 hP hS (c_X5_found l C0.2.2.1 _ hd) (lwG_V lm_X5_87 li_X5_found lx_X5_found lz_RX5 lc_X5_found) (by decide +kernel) (oR_at h cA _) rfl rfl rfl (Nat.le_of_ble_eq_true rfl) ⟨rfl, rfl⟩ ⟨by decide, by decide⟩ dX5_on_29 hl.1 ⟨Nat.zero_le _, Nat.zero_le _⟩ (fun r_6 S_6 H locs hd hP hS => ?_)
      exact hret _ _ _ _ _ _ hd hP hS dX5_on_32
  · have hd := hd.2 hc
    refine lv_iconst (v := (-1)) hx hb dX5_on_12 (by decide) ?_
    exact hret _ _ _ _ _ _ hd hP hS dX5_on_13
theorem c_X5_on (l : Launch) {D : va_G} {cA : Nat → ClassId} {h : Nat → Nat} (hk : ky keysRA h) {x1 : Int32} {S : sT} (sz : Nat) {Q : Int32 → sT → Prop} (hd : wp_X5_on x1 S Q) : Met l yX5_on (wsU yX5_on cX5_on 2 (some .int)) rm_X5_on (va_Pc [.ref (h 100), .int x1] (gP D cA false keysRA h (wR h cA) S sz)) (va_Qi Q (wB D (wR h cA)) (aK keysRA h sz)) 0 0 (aK keysRA h sz) :=
  mk_i (by decide) hk (Nat.le_of_ble_eq_true rfl) (fun p e s m below meth c Z ls C0 hret hP hS hl => bk_X5_on C0 hret hP hS hd hl)
abbrev rm_X5_put : Room := { frames := 2, cells := 0, slots := 0, locals := 45 }
def wp_X5_put (x1 : Int32) (x2 : Int32) (x3 : Int32) (S : sT) (Q : Int32 → sT → Prop) : Prop :=
  wp_X5_isText x1 S (fun r_1 S_1 => ((¬ r_1 = 0 → (vp_in x1 4) ∧ ((0 ≤ (vA S_1 3 x1.toNatClampNeg) → (vp_in x1 4) ∧ wp_X5_in x2.toInt64 (0 : Int64) (((vA S_1 3 x1.toNatClampNeg) - (1 : Int32)).toInt64) S_1 (fun r_4 S_4 => ((¬ r_4 = 0 → (vp_in (((60 : Int32) * x1) + x2) 240) ∧ (vp_in (((60 : Int32) * x1) + x2) 240) ∧ Q ((vA S_4 2 (((60 : Int32) * x1) + x2).toNatClampNeg) + (1000 : Int32)) (uA S_4 2 (upd (vA S_4 2) (((60 : Int32) * x1) + x2).toNatClampNeg x3.toInt8.toInt32))) ∧ (r_4 = 0 → wp_X5_found (2 : Int32) S_4 (fun r_7 S_7 => Q r_7 S_7))))) ∧ (¬ 0 ≤ (vA S_1 3 x1.toNatClampNeg) → wp_X5_found (1 : Int32) S_1 (fun r_8 S_8 => Q r_8 S_8)))) ∧ (r_1 = 0 → Q (-1 : Int32) S_1)))
set_option maxHeartbeats 4000000 in
set_option maxRecDepth 100000 in
theorem bk_X5_put {p : Program} {l : Launch} {e : Env} {s : State} {m : MethodId} {args : Array Value} {below : List Frame} {meth : Method} {c : Code} {Z : State → Prop} {D : va_G} {cA : Nat → ClassId} {h : Nat → Nat} {Q : Int32 → sT → Prop} (C0 : cx p s m args c cX5_put 5 RX5 D cA false keysRA h) (hret : rtI p l e rm_X5_put s m args below meth c cX5_put Z D (wR h cA) (aK keysRA h s.heap.size) Q) {x1 : Int32} {x2 : Int32} {x3 : Int32} {S : sT} {H : Heap} {locs : List Loc} {ls : Array Slot} (hP : va_P D vwCl (wR h cA S) H) (hS : va_S (aK keysRA h s.heap.size) s.heap H locs) (hd : wp_X5_put x1 x2 x3 S Q) (hl : lv_has ls 5 [(0, .ref (h 100)), (1, .int x1), (2, .int x2), (3, .int x3)]) : W p l e rm_X5_put s m args below meth c H locs 0 0 Z (F0 m 0 ls []) := by
  obtain ⟨⟨hx, hb, hml, hown, hts⟩, hK, -, -⟩ := id C0
  unfold wp_X5_put at hd
  refine lv_iload_n hx hb dX5_put_0 rfl (lv_at hl 1 rfl) ?_
  refine cl_Si (n := 1) (rest := []) C0 hP hS (c_X5_isText l C0.2.2.1 _ hd) (lwG_S lm_X5_94 ls_X5_isText lz_RX5 lc_X5_isText) (by decide +kernel) rfl rfl (Nat.le_of_ble_eq_true rfl) ⟨rfl, rfl⟩ ⟨by decide, by decide⟩ dX5_put_1 hl.1 ⟨Nat.zero_le _, Nat.zero_le _⟩ (fun r_1 S_1 H locs hd hP hS => ?_)
  refine lv_if_ne (tgt := 9) hx hb dX5_put_4 (by decide) (fun hc => ?_) (fun hc => ?_)
  · have hd := hd.1 hc
    refine lv_aload_n hx hb dX5_put_9 rfl (lv_at hl 0 rfl) ?_
    refine gf_X5_19 C0 hP dX5_put_10 ?_
    refine lv_iload_n hx hb dX5_put_13 rfl (lv_at hl 1 rfl) ?_
    obtain ⟨h_2, hd⟩ := hd
    refine ldR (by decide) C0 hP h_2 dX5_put_14 ?_
    refine lv_if_ge (tgt := 24) hx hb dX5_put_15 (by decide) (fun hc => ?_) (fun hc => ?_)
    · have hd := hd.1 hc
      refine lv_iload_n hx hb dX5_put_24 rfl (lv_at hl 2 rfl) ?_
      refine lv_i2l hx hb dX5_put_25 rfl ?_
      refine lv_lconst (v := 0) hx hb dX5_put_26 (by decide) ?_
      refine lv_aload_n hx hb dX5_put_27 rfl (lv_at hl 0 rfl) ?_
      refine gf_X5_19 C0 hP dX5_put_28 ?_
      refine lv_iload_n hx hb dX5_put_31 rfl (lv_at hl 1 rfl) ?_
      obtain ⟨h_3, hd⟩ := hd
      refine ldR (by decide) C0 hP h_3 dX5_put_32 ?_
      refine lv_iconst (v := 1) hx hb dX5_put_33 (by decide) ?_
      refine lv_isub hx hb dX5_put_34 ?_
      refine lv_i2l hx hb dX5_put_35 rfl ?_
      refine cl_Si (n := 3) (rest := []) C0 hP hS (c_X5_in l C0.2.2.1 _ hd) (lwG_S lm_X5_77 ls_X5_in lz_RX5 lc_X5_in) (by decide +kernel) rfl rfl (Nat.le_of_ble_eq_true rfl) ⟨rfl, rfl⟩ ⟨by decide, by decide⟩ dX5_put_36 hl.1 ⟨Nat.zero_le _, Nat.zero_le _⟩ (fun r_4 S_4 H locs hd hP hS => ?_)
      refine lv_if_ne (tgt := 48) hx hb dX5_put_39 (by decide) (fun hc => ?_) (fun hc => ?_)
      · have hd := hd.1 hc
        refine lv_aload_n hx hb dX5_put_48 rfl (lv_at hl 0 rfl) ?_
        refine gf_X5_16 C0 hP dX5_put_49 ?_
        refine lv_bipush (v := 60) hx hb dX5_put_52 (by decide) ?_
        refine lv_iload_n hx hb dX5_put_54 rfl (lv_at hl 1 rfl) ?_
        refine lv_imul hx hb dX5_put_55 ?_
        refine lv_iload_n hx hb dX5_put_56 rfl (lv_at hl 2 rfl) ?_
        refine lv_iadd hx hb dX5_put_57 ?_
        obtain ⟨h_5, hd⟩ := hd
        refine ldR (by decide) C0 hP h_5 dX5_put_58 ?_
        refine lv_istore (lv' := [(4, .int (vA S_4 2 (((60 : Int32) * x1) + x2).toNatClampNeg)), (0, .ref (h 100)), (1, .int x1), (2, .int x2), (3, .int x3)]) hx hb dX5_put_59 hl (by decide) rfl (fun ls hl => ?_)
        refine lv_aload_n hx hb dX5_put_61 rfl (lv_at hl 1 rfl) ?_
        refine gf_X5_16 C0 hP dX5_put_62 ?_
        refine lv_bipush (v := 60) hx hb dX5_put_65 (by decide) ?_
        refine lv_iload_n hx hb dX5_put_67 rfl (lv_at hl 2 rfl) ?_
        refine lv_imul hx hb dX5_put_68 ?_
        refine lv_iload_n hx hb dX5_put_69 rfl (lv_at hl 3 rfl) ?_
        refine lv_iadd hx hb dX5_put_70 ?_
        refine lv_iload_n hx hb dX5_put_71 rfl (lv_at hl 4 rfl) ?_
        refine lv_i2b hx hb dX5_put_72 rfl ?_
        obtain ⟨h_6, hd⟩ := hd
        refine stR (by decide) C0 hP hS h_6 dX5_put_73 (fun H locs hP hS => ?_)
        refine lv_iload hx hb dX5_put_74 (lv_at hl 0 rfl) ?_
        refine lv_sipush (v := 1000) hx hb dX5_put_76 (by decide) ?_
        refine lv_iadd hx hb dX5_put_79 ?_
        exact hret _ _ _ _ _ _ hd hP hS dX5_put_80
      · have hd := hd.2 hc
        refine lv_aload_n hx hb dX5_put_42 rfl (lv_at hl 0 rfl) ?_
        refine lv_iconst (v := 2) hx hb dX5_put_43 (by decide) ?_
        refine cl_Vi (n := 1) (rest := []) C0 hP hS (c_X5_found l C0.2.2.1 _ hd) (lwG_V lm_X5_87 li_X5_found lx_X5_found lz_RX5 lc_X5_found) (by decide +kernel) (oR_at h cA _) rfl rfl rfl (Nat.le_of_ble_eq_true rfl) ⟨rfl, rfl⟩ ⟨by decide, by decide⟩ dX5_put_44 hl.1 ⟨Nat.zero_le _, Nat.zero_le _⟩ (fun r_7 S_7 H locs hd hP hS => ?_)
        exact hret _ _ _ _ _ _ hd hP hS dX5_put_47
    · have hd := hd.2 hc
      refine lv_aload_n hx hb dX5_put_18 rfl (lv_at hl 0 rfl) ?_
      refine lv_iconst (v := 1) hx hb dX5_put_19 (by decide) ?_
      refine cl_Vi (n := 1) (rest := []) C0 hP hS (c_X5_found l C0.2.2.1 _ hd) (lwG_V lm_X5_87 li_X5_found lx_X5_found lz_RX5 lc_X5_found) (by decide +kernel) (oR_at h cA _) rfl rfl rfl (Nat.le_of_ble_eq_true rfl) ⟨rfl, rfl⟩ ⟨by decide, by decide⟩ dX5_put_20 hl.1 ⟨Nat.zero_le _, Nat.zero_le _⟩ (fun r_8 S_8 H locs hd hP hS => ?_)
      exact hret _ _ _ _ _ _ hd hP hS dX5_put_23
  · have hd := hd.2 hc
    refine lv_iconst (v := (-1)) hx hb dX5_put_7 (by decide) ?_
    exact hret _ _ _ _ _ _ hd hP hS dX5_put_8
theorem c_X5_put (l : Launch) {D : va_G} {cA : Nat → ClassId} {h : Nat → Nat} (hk : ky keysRA h) {x1 : Int32} {x2 : Int32} {x3 : Int32} {S : sT} (sz : Nat) {Q : Int32 → sT → Prop} (hd : wp_X5_put x1 x2 x3 S Q) : Met l yX5_put (wsU yX5_put cX5_put 5 (some .int)) rm_X5_put (va_Pc [.ref (h 100), .int x1, .int x2, .int x3] (gP D cA false keysRA h (wR h cA) S sz)) (va_Qi Q (wB D (wR h cA)) (aK keysRA h sz)) 0 0 (aK keysRA h sz) :=
  mk_i (by decide) hk (Nat.le_of_ble_eq_true rfl) (fun p e s m below meth c Z ls C0 hret hP hS hl => bk_X5_put C0 hret hP hS hd hl)
abbrev rm_X5_row : Room := { frames := 2, cells := 0, slots := 0, locals := 45 }
def wb_X5_row_34 (Q : Int32 → sT → Prop) (K34 : Int32 → Int32 → Int32 → sT → Prop) (x1 : Int32) (x2 : Int32) (x3 : Int32) (S : sT) : Prop :=
  (((40 : Int32) ≤ x3 → Q x2 S) ∧ (¬ (40 : Int32) ≤ x3 → (vp_in (((40 : Int32) * x1) + x3) 240) ∧ K34 x1 x2 (x3 + (1 : Int32)) (uA S 0 (upd (vA S 0) (((40 : Int32) * x1) + x3).toNatClampNeg (0 : Int32)))))
set_option maxHeartbeats 4000000 in
set_option maxRecDepth 100000 in
theorem bk_X5_row_34 {p : Program} {l : Launch} {e : Env} {s : State} {m : MethodId} {args : Array Value} {below : List Frame} {meth : Method} {c : Code} {Z : State → Prop} {D : va_G} {cA : Nat → ClassId} {h : Nat → Nat} {Q : Int32 → sT → Prop} (C0 : cx p s m args c cX5_row 4 RX5 D cA false keysRA h) (hret : rtI p l e rm_X5_row s m args below meth c cX5_row Z D (wR h cA) (aK keysRA h s.heap.size) Q) {K34 : Int32 → Int32 → Int32 → sT → Prop} (k34 : ∀ (x1 : Int32) (x2 : Int32) (x3 : Int32) (S : sT) (H : Heap) (locs : List Loc) (ls : Array Slot), K34 x1 x2 x3 S → va_P D vwCl (wR h cA S) H → va_S (aK keysRA h s.heap.size) s.heap H locs → lv_has ls 4 [(0, .ref (h 100)), (1, .int x1), (2, .int x2), (3, .int x3)] → W p l e rm_X5_row s m args below meth c H locs 0 0 Z (F0 m 34 ls [])) {x1 : Int32} {x2 : Int32} {x3 : Int32} {S : sT} {H : Heap} {locs : List Loc} {ls : Array Slot} (hP : va_P D vwCl (wR h cA S) H) (hS : va_S (aK keysRA h s.heap.size) s.heap H locs) (hd : wb_X5_row_34 Q K34 x1 x2 x3 S) (hl : lv_has ls 4 [(0, .ref (h 100)), (1, .int x1), (2, .int x2), (3, .int x3)]) : W p l e rm_X5_row s m args below meth c H locs 0 0 Z (F0 m 34 ls []) := by
  obtain ⟨⟨hx, hb, hml, hown, hts⟩, hK, -, -⟩ := id C0
  unfold wb_X5_row_34 at hd
  refine lv_iload_n hx hb dX5_row_34 rfl (lv_at hl 3 rfl) ?_
  refine lv_bipush (v := 40) hx hb dX5_row_35 (by decide) ?_
  refine lv_icmp_ge (tgt := 58) hx hb dX5_row_37 (by decide) (fun hc => ?_) (fun hc => ?_)
  · have hd := hd.1 hc
    refine lv_iload_n hx hb dX5_row_58 rfl (lv_at hl 2 rfl) ?_
    exact hret _ _ _ _ _ _ hd hP hS dX5_row_59
  · have hd := hd.2 hc
    refine lv_aload_n hx hb dX5_row_40 rfl (lv_at hl 0 rfl) ?_
    refine gf_X5_7 C0 hP dX5_row_41 ?_
    refine lv_bipush (v := 40) hx hb dX5_row_44 (by decide) ?_
    refine lv_iload_n hx hb dX5_row_46 rfl (lv_at hl 1 rfl) ?_
    refine lv_imul hx hb dX5_row_47 ?_
    refine lv_iload_n hx hb dX5_row_48 rfl (lv_at hl 3 rfl) ?_
    refine lv_iadd hx hb dX5_row_49 ?_
    refine lv_iconst (v := 0) hx hb dX5_row_50 (by decide) ?_
    obtain ⟨h_1, hd⟩ := hd
    refine stR (by decide) C0 hP hS h_1 dX5_row_51 (fun H locs hP hS => ?_)
    refine lv_iinc (v := x3 + (1 : Int32)) (lv' := [(3, .int (x3 + (1 : Int32))), (0, .ref (h 100)), (1, .int x1), (2, .int x2)]) hx hb dX5_row_52 hl (k := 3) rfl rfl (by decide) rfl (fun ls hl => ?_)
    refine lv_goto (tgt := 34) hx hb dX5_row_55 (by decide) ?_
    exact k34 _ _ _ _ _ _ _ hd hP hS (lv_sub hl [1, 2, 3, 0] rfl)
def wl_X5_row_34 (Q : Int32 → sT → Prop) : Nat → Int32 → Int32 → Int32 → sT → Prop
  | 0, _, _, _ => fun _ => False
  | n + 1, x1, x2, x3 => fun S => wb_X5_row_34 Q (fun x1 x2 x3 S => wl_X5_row_34 Q n x1 x2 x3 S) x1 x2 x3 S
theorem bl_X5_row_34 {p : Program} {l : Launch} {e : Env} {s : State} {m : MethodId} {args : Array Value} {below : List Frame} {meth : Method} {c : Code} {Z : State → Prop} {D : va_G} {cA : Nat → ClassId} {h : Nat → Nat} {Q : Int32 → sT → Prop} (C0 : cx p s m args c cX5_row 4 RX5 D cA false keysRA h) (hret : rtI p l e rm_X5_row s m args below meth c cX5_row Z D (wR h cA) (aK keysRA h s.heap.size) Q) : ∀ (n : Nat) (x1 : Int32) (x2 : Int32) (x3 : Int32) (S : sT) (H : Heap) (locs : List Loc) (ls : Array Slot), va_P D vwCl (wR h cA S) H → va_S (aK keysRA h s.heap.size) s.heap H locs → wl_X5_row_34 Q n x1 x2 x3 S → lv_has ls 4 [(0, .ref (h 100)), (1, .int x1), (2, .int x2), (3, .int x3)] → W p l e rm_X5_row s m args below meth c H locs 0 0 Z (F0 m 34 ls []) := by
  intro n
  induction n with
  | zero => intro x1 x2 x3 S H locs ls hP hS hd hl; exact (show False from hd).elim
  | succ n ih => intro x1 x2 x3 S H locs ls hP hS hd hl; exact bk_X5_row_34 C0 hret (fun x1 x2 x3 S H locs ls hd hP hS hl => ih x1 x2 x3 S H locs ls hP hS hd hl) hP hS hd hl
def wp_X5_row (x1 : Int32) (x2 : Int32) (S : sT) (Q : Int32 → sT → Prop) : Prop :=
  wp_X5_isRow x1 S (fun r_1 S_1 => ((r_1 = 0 → Q (-1 : Int32) S_1) ∧ (¬ r_1 = 0 → ((x2 ≤ (40 : Int32) → ((0 ≤ x2 → (vp_in x1 6) ∧ ∃ n : Nat, wl_X5_row_34 Q n x1 x2 (0 : Int32) (uA S_1 1 (upd (vA S_1 1) x1.toNatClampNeg x2))) ∧ (¬ 0 ≤ x2 → wp_X5_found (5 : Int32) S_1 (fun r_4 S_4 => Q r_4 S_4)))) ∧ (¬ x2 ≤ (40 : Int32) → Q (-1 : Int32) S_1)))))
set_option maxHeartbeats 4000000 in
set_option maxRecDepth 100000 in
theorem bk_X5_row {p : Program} {l : Launch} {e : Env} {s : State} {m : MethodId} {args : Array Value} {below : List Frame} {meth : Method} {c : Code} {Z : State → Prop} {D : va_G} {cA : Nat → ClassId} {h : Nat → Nat} {Q : Int32 → sT → Prop} (C0 : cx p s m args c cX5_row 4 RX5 D cA false keysRA h) (hret : rtI p l e rm_X5_row s m args below meth c cX5_row Z D (wR h cA) (aK keysRA h s.heap.size) Q) {x1 : Int32} {x2 : Int32} {S : sT} {H : Heap} {locs : List Loc} {ls : Array Slot} (hP : va_P D vwCl (wR h cA S) H) (hS : va_S (aK keysRA h s.heap.size) s.heap H locs) (hd : wp_X5_row x1 x2 S Q) (hl : lv_has ls 4 [(0, .ref (h 100)), (1, .int x1), (2, .int x2)]) : W p l e rm_X5_row s m args below meth c H locs 0 0 Z (F0 m 0 ls []) := by
  obtain ⟨⟨hx, hb, hml, hown, hts⟩, hK, -, -⟩ := id C0
  unfold wp_X5_row at hd
  refine lv_iload_n hx hb dX5_row_0 rfl (lv_at hl 1 rfl) ?_
  refine cl_Si (n := 1) (rest := []) C0 hP hS (c_X5_isRow l C0.2.2.1 _ hd) (lwG_S lm_X5_83 ls_X5_isRow lz_RX5 lc_X5_isRow) (by decide +kernel) rfl rfl (Nat.le_of_ble_eq_true rfl) ⟨rfl, rfl⟩ ⟨by decide, by decide⟩ dX5_row_1 hl.1 ⟨Nat.zero_le _, Nat.zero_le _⟩ (fun r_1 S_1 H locs hd hP hS => ?_)
  refine lv_if_eq (tgt := 13) hx hb dX5_row_4 (by decide) (fun hc => ?_) (fun hc => ?_)
  · have hd := hd.1 hc
    refine lv_iconst (v := (-1)) hx hb dX5_row_13 (by decide) ?_
    exact hret _ _ _ _ _ _ hd hP hS dX5_row_14
  · have hd := hd.2 hc
    refine lv_iload_n hx hb dX5_row_7 rfl (lv_at hl 2 rfl) ?_
    refine lv_bipush (v := 40) hx hb dX5_row_8 (by decide) ?_
    refine lv_icmp_le (tgt := 15) hx hb dX5_row_10 (by decide) (fun hc => ?_) (fun hc => ?_)
    · have hd := hd.1 hc
      refine lv_iload_n hx hb dX5_row_15 rfl (lv_at hl 2 rfl) ?_
      refine lv_if_ge (tgt := 25) hx hb dX5_row_16 (by decide) (fun hc => ?_) (fun hc => ?_)
      · have hd := hd.1 hc
        refine lv_aload_n hx hb dX5_row_25 rfl (lv_at hl 0 rfl) ?_
        refine gf_X5_13 C0 hP dX5_row_26 ?_
        refine lv_iload_n hx hb dX5_row_29 rfl (lv_at hl 1 rfl) ?_
        refine lv_iload_n hx hb dX5_row_30 rfl (lv_at hl 2 rfl) ?_
        obtain ⟨h_2, hd⟩ := hd
        refine stR (by decide) C0 hP hS h_2 dX5_row_31 (fun H locs hP hS => ?_)
        refine lv_iconst (v := 0) hx hb dX5_row_32 (by decide) ?_
        refine lv_istore_n (lv' := [(3, .int (0 : Int32)), (0, .ref (h 100)), (1, .int x1), (2, .int x2)]) hx hb dX5_row_33 rfl hl (by decide) rfl (fun ls hl => ?_)
        obtain ⟨n_3, hd⟩ := hd
        exact bl_X5_row_34 C0 hret _ _ _ _ _ _ _ _ hP hS hd (lv_sub hl [1, 2, 3, 0] rfl)
      · have hd := hd.2 hc
        refine lv_aload_n hx hb dX5_row_19 rfl (lv_at hl 0 rfl) ?_
        refine lv_iconst (v := 5) hx hb dX5_row_20 (by decide) ?_
        refine cl_Vi (n := 1) (rest := []) C0 hP hS (c_X5_found l C0.2.2.1 _ hd) (lwG_V lm_X5_87 li_X5_found lx_X5_found lz_RX5 lc_X5_found) (by decide +kernel) (oR_at h cA _) rfl rfl rfl (Nat.le_of_ble_eq_true rfl) ⟨rfl, rfl⟩ ⟨by decide, by decide⟩ dX5_row_21 hl.1 ⟨Nat.zero_le _, Nat.zero_le _⟩ (fun r_4 S_4 H locs hd hP hS => ?_)
        exact hret _ _ _ _ _ _ hd hP hS dX5_row_24
    · have hd := hd.2 hc
      refine lv_iconst (v := (-1)) hx hb dX5_row_13 (by decide) ?_
      exact hret _ _ _ _ _ _ hd hP hS dX5_row_14
theorem c_X5_row (l : Launch) {D : va_G} {cA : Nat → ClassId} {h : Nat → Nat} (hk : ky keysRA h) {x1 : Int32} {x2 : Int32} {S : sT} (sz : Nat) {Q : Int32 → sT → Prop} (hd : wp_X5_row x1 x2 S Q) : Met l yX5_row (wsU yX5_row cX5_row 4 (some .int)) rm_X5_row (va_Pc [.ref (h 100), .int x1, .int x2] (gP D cA false keysRA h (wR h cA) S sz)) (va_Qi Q (wB D (wR h cA)) (aK keysRA h sz)) 0 0 (aK keysRA h sz) :=
  mk_i (by decide) hk (Nat.le_of_ble_eq_true rfl) (fun p e s m below meth c Z ls C0 hret hP hS hl => bk_X5_row C0 hret hP hS hd hl)
abbrev rm_X5_sleeper : Room := { frames := 3, cells := 0, slots := 0, locals := 68 }
def wb_X5_sleeper_116 (Q : Int32 → sT → Prop) (y1 : Int32) (S : sT) : Prop :=
  wp_X5_tell y1 S (fun r_1 S_1 => Q r_1 S_1)
set_option maxHeartbeats 4000000 in
set_option maxRecDepth 100000 in
theorem bk_X5_sleeper_116 {p : Program} {l : Launch} {e : Env} {s : State} {m : MethodId} {args : Array Value} {below : List Frame} {meth : Method} {c : Code} {Z : State → Prop} {D : va_G} {cA : Nat → ClassId} {h : Nat → Nat} {Q : Int32 → sT → Prop} (C0 : cx p s m args c cX5_sleeper 3 RX5 D cA false keysRA h) (hret : rtI p l e rm_X5_sleeper s m args below meth c cX5_sleeper Z D (wR h cA) (aK keysRA h s.heap.size) Q) {y1 : Int32} {S : sT} {H : Heap} {locs : List Loc} {ls : Array Slot} (hP : va_P D vwCl (wR h cA S) H) (hS : va_S (aK keysRA h s.heap.size) s.heap H locs) (hd : wb_X5_sleeper_116 Q y1 S) (hl : lv_has ls 3 []) : W p l e rm_X5_sleeper s m args below meth c H locs 0 0 Z (F0 m 116 ls [.int y1, .ref (h 100)]) := by
  obtain ⟨⟨hx, hb, hml, hown, hts⟩, hK, -, -⟩ := id C0
  unfold wb_X5_sleeper_116 at hd
  refine cl_Vi (n := 1) (rest := []) C0 hP hS (c_X5_tell l C0.2.2.1 _ hd) (lwG_V lm_X5_91 li_X5_tell lx_X5_tell lz_RX5 lc_X5_tell) (by decide +kernel) (oR_at h cA _) rfl rfl rfl (Nat.le_of_ble_eq_true rfl) ⟨rfl, rfl⟩ ⟨by decide, by decide⟩ dX5_sleeper_116 hl.1 ⟨Nat.zero_le _, Nat.zero_le _⟩ (fun r_1 S_1 H locs hd hP hS => ?_)
  exact hret _ _ _ _ _ _ hd hP hS dX5_sleeper_119
def wp_X5_sleeper (x1 : Int32) (x2 : Int32) (S : sT) (Q : Int32 → sT → Prop) : Prop :=
  wp_X5_isOne x1 S (fun r_1 S_1 => ((r_1 = 0 → Q (-1 : Int32) S_1) ∧ (¬ r_1 = 0 → wp_X5_in x2.toInt64 (0 : Int64) (4 : Int64) S_1 (fun r_2 S_2 => ((¬ r_2 = 0 → ((x2 = (0 : Int32) → (vp_in x1 6) ∧ wp_X5_tell (vA S_2 12 x1.toNatClampNeg) S_2 (fun r_5 S_5 => Q r_5 S_5)) ∧ (x2 = (1 : Int32) → (vp_in x1 6) ∧ wp_X5_tell (vA S_2 13 x1.toNatClampNeg) S_2 (fun r_8 S_8 => Q r_8 S_8)) ∧ (x2 = (2 : Int32) → (vp_in ((3 : Int32) + x1) 9) ∧ wp_X5_tell (vA S_2 14 ((3 : Int32) + x1).toNatClampNeg) S_2 (fun r_11 S_11 => Q r_11 S_11)) ∧ (x2 = (3 : Int32) → (vp_in (2 : Int32) 9) ∧ wp_X5_tell (((vA S_2 14 (2 : Int32).toNatClampNeg) >>> (x1 &&& 31)) &&& (1 : Int32)) S_2 (fun r_14 S_14 => Q r_14 S_14)) ∧ (¬ x2 = (0 : Int32) → ¬ x2 = (1 : Int32) → ¬ x2 = (2 : Int32) → ¬ x2 = (3 : Int32) → wp_X5_isDreaming x1 S_2 (fun r_3 S_3 => ((r_3 = 0 → wb_X5_sleeper_116 Q (0 : Int32) S_3) ∧ (¬ r_3 = 0 → wb_X5_sleeper_116 Q (1 : Int32) S_3)))))) ∧ (r_2 = 0 → Q (-1 : Int32) S_2))))))
set_option maxHeartbeats 4000000 in
set_option maxRecDepth 100000 in
theorem bk_X5_sleeper {p : Program} {l : Launch} {e : Env} {s : State} {m : MethodId} {args : Array Value} {below : List Frame} {meth : Method} {c : Code} {Z : State → Prop} {D : va_G} {cA : Nat → ClassId} {h : Nat → Nat} {Q : Int32 → sT → Prop} (C0 : cx p s m args c cX5_sleeper 3 RX5 D cA false keysRA h) (hret : rtI p l e rm_X5_sleeper s m args below meth c cX5_sleeper Z D (wR h cA) (aK keysRA h s.heap.size) Q) {x1 : Int32} {x2 : Int32} {S : sT} {H : Heap} {locs : List Loc} {ls : Array Slot} (hP : va_P D vwCl (wR h cA S) H) (hS : va_S (aK keysRA h s.heap.size) s.heap H locs) (hd : wp_X5_sleeper x1 x2 S Q) (hl : lv_has ls 3 [(0, .ref (h 100)), (1, .int x1), (2, .int x2)]) : W p l e rm_X5_sleeper s m args below meth c H locs 0 0 Z (F0 m 0 ls []) := by
  obtain ⟨⟨hx, hb, hml, hown, hts⟩, hK, -, -⟩ := id C0
  unfold wp_X5_sleeper at hd
  refine lv_aload_n hx hb dX5_sleeper_0 rfl (lv_at hl 0 rfl) ?_
  refine lv_iload_n hx hb dX5_sleeper_1 rfl (lv_at hl 1 rfl) ?_
  refine cl_Vi (n := 1) (rest := []) C0 hP hS (c_X5_isOne l C0.2.2.1 _ hd) (lwG_V lm_X5_176 li_X5_isOne lx_X5_isOne lz_RX5 lc_X5_isOne) (by decide +kernel) (oR_at h cA _) rfl rfl rfl (Nat.le_of_ble_eq_true rfl) ⟨rfl, rfl⟩ ⟨by decide, by decide⟩ dX5_sleeper_2 hl.1 ⟨Nat.zero_le _, Nat.zero_le _⟩ (fun r_1 S_1 H locs hd hP hS => ?_)
  refine lv_if_eq (tgt := 20) hx hb dX5_sleeper_5 (by decide) (fun hc => ?_) (fun hc => ?_)
  · have hd := hd.1 hc
    refine lv_iconst (v := (-1)) hx hb dX5_sleeper_20 (by decide) ?_
    exact hret _ _ _ _ _ _ hd hP hS dX5_sleeper_21
  · have hd := hd.2 hc
    refine lv_iload_n hx hb dX5_sleeper_8 rfl (lv_at hl 2 rfl) ?_
    refine lv_i2l hx hb dX5_sleeper_9 rfl ?_
    refine lv_lconst (v := 0) hx hb dX5_sleeper_10 (by decide) ?_
    refine lv_ldc2 hx hb hown (hts _ lk_X5_179) dX5_sleeper_11 ?_
    refine cl_Si (n := 3) (rest := []) C0 hP hS (c_X5_in l C0.2.2.1 _ hd) (lwG_S lm_X5_77 ls_X5_in lz_RX5 lc_X5_in) (by decide +kernel) rfl rfl (Nat.le_of_ble_eq_true rfl) ⟨rfl, rfl⟩ ⟨by decide, by decide⟩ dX5_sleeper_14 hl.1 ⟨Nat.zero_le _, Nat.zero_le _⟩ (fun r_2 S_2 H locs hd hP hS => ?_)
    refine lv_if_ne (tgt := 22) hx hb dX5_sleeper_17 (by decide) (fun hc => ?_) (fun hc => ?_)
    · have hd := hd.1 hc
      refine lv_iload_n hx hb dX5_sleeper_22 rfl (lv_at hl 2 rfl) ?_
      by_cases hq6 : x2 = (0 : Int32)
      · have hd := hd.1 hq6
        refine lv_tableIn (off := 29) (tgt := 52) hx hb dX5_sleeper_23 (by rw [hq6]; decide) (by rw [hq6]; decide) (by rw [hq6]; decide) (by decide) ?_
        refine lv_aload_n hx hb dX5_sleeper_52 rfl (lv_at hl 0 rfl) ?_
        refine lv_aload_n hx hb dX5_sleeper_53 rfl (lv_at hl 0 rfl) ?_
        refine gf_X5_29 C0 hP dX5_sleeper_54 ?_
        refine lv_iload_n hx hb dX5_sleeper_57 rfl (lv_at hl 1 rfl) ?_
        obtain ⟨h_4, hd⟩ := hd
        refine ldR (by decide) C0 hP h_4 dX5_sleeper_58 ?_
        refine cl_Vi (n := 1) (rest := []) C0 hP hS (c_X5_tell l C0.2.2.1 _ hd) (lwG_V lm_X5_91 li_X5_tell lx_X5_tell lz_RX5 lc_X5_tell) (by decide +kernel) (oR_at h cA _) rfl rfl rfl (Nat.le_of_ble_eq_true rfl) ⟨rfl, rfl⟩ ⟨by decide, by decide⟩ dX5_sleeper_59 hl.1 ⟨Nat.zero_le _, Nat.zero_le _⟩ (fun r_5 S_5 H locs hd hP hS => ?_)
        exact hret _ _ _ _ _ _ hd hP hS dX5_sleeper_62
      by_cases hq9 : x2 = (1 : Int32)
      · have hd := hd.2.1 hq9
        refine lv_tableIn (off := 40) (tgt := 63) hx hb dX5_sleeper_23 (by rw [hq9]; decide) (by rw [hq9]; decide) (by rw [hq9]; decide) (by decide) ?_
        refine lv_aload_n hx hb dX5_sleeper_63 rfl (lv_at hl 0 rfl) ?_
        refine lv_aload_n hx hb dX5_sleeper_64 rfl (lv_at hl 0 rfl) ?_
        refine gf_X5_32 C0 hP dX5_sleeper_65 ?_
        refine lv_iload_n hx hb dX5_sleeper_68 rfl (lv_at hl 1 rfl) ?_
        obtain ⟨h_7, hd⟩ := hd
        refine ldR (by decide) C0 hP h_7 dX5_sleeper_69 ?_
        refine cl_Vi (n := 1) (rest := []) C0 hP hS (c_X5_tell l C0.2.2.1 _ hd) (lwG_V lm_X5_91 li_X5_tell lx_X5_tell lz_RX5 lc_X5_tell) (by decide +kernel) (oR_at h cA _) rfl rfl rfl (Nat.le_of_ble_eq_true rfl) ⟨rfl, rfl⟩ ⟨by decide, by decide⟩ dX5_sleeper_70 hl.1 ⟨Nat.zero_le _, Nat.zero_le _⟩ (fun r_8 S_8 H locs hd hP hS => ?_)
        exact hret _ _ _ _ _ _ hd hP hS dX5_sleeper_73
      by_cases hq12 : x2 = (2 : Int32)
      · have hd := hd.2.2.1 hq12
        refine lv_tableIn (off := 51) (tgt := 74) hx hb dX5_sleeper_23 (by rw [hq12]; decide) (by rw [hq12]; decide) (by rw [hq12]; decide) (by decide) ?_
        refine lv_aload_n hx hb dX5_sleeper_74 rfl (lv_at hl 0 rfl) ?_
        refine lv_aload_n hx hb dX5_sleeper_75 rfl (lv_at hl 0 rfl) ?_
        refine gf_X5_35 C0 hP dX5_sleeper_76 ?_
        refine lv_iconst (v := 3) hx hb dX5_sleeper_79 (by decide) ?_
        refine lv_iload_n hx hb dX5_sleeper_80 rfl (lv_at hl 1 rfl) ?_
        refine lv_iadd hx hb dX5_sleeper_81 ?_
        obtain ⟨h_10, hd⟩ := hd
        refine ldR (by decide) C0 hP h_10 dX5_sleeper_82 ?_
        refine cl_Vi (n := 1) (rest := []) C0 hP hS (c_X5_tell l C0.2.2.1 _ hd) (lwG_V lm_X5_91 li_X5_tell lx_X5_tell lz_RX5 lc_X5_tell) (by decide +kernel) (oR_at h cA _) rfl rfl rfl (Nat.le_of_ble_eq_true rfl) ⟨rfl, rfl⟩ ⟨by decide, by decide⟩ dX5_sleeper_83 hl.1 ⟨Nat.zero_le _, Nat.zero_le _⟩ (fun r_11 S_11 H locs hd hP hS => ?_)
        exact hret _ _ _ _ _ _ hd hP hS dX5_sleeper_86
      by_cases hq15 : x2 = (3 : Int32)
      · have hd := hd.2.2.2.1 hq15
        refine lv_tableIn (off := 64) (tgt := 87) hx hb dX5_sleeper_23 (by rw [hq15]; decide) (by rw [hq15]; decide) (by rw [hq15]; decide) (by decide) ?_
        refine lv_aload_n hx hb dX5_sleeper_87 rfl (lv_at hl 0 rfl) ?_
        refine lv_aload_n hx hb dX5_sleeper_88 rfl (lv_at hl 0 rfl) ?_
        refine gf_X5_35 C0 hP dX5_sleeper_89 ?_
        refine lv_iconst (v := 2) hx hb dX5_sleeper_92 (by decide) ?_
        obtain ⟨h_13, hd⟩ := hd
        refine ldR (by decide) C0 hP h_13 dX5_sleeper_93 ?_
        refine lv_iload_n hx hb dX5_sleeper_94 rfl (lv_at hl 1 rfl) ?_
        refine lv_ishr hx hb dX5_sleeper_95 ?_
        refine lv_iconst (v := 1) hx hb dX5_sleeper_96 (by decide) ?_
        refine lv_iand hx hb dX5_sleeper_97 ?_
        refine cl_Vi (n := 1) (rest := []) C0 hP hS (c_X5_tell l C0.2.2.1 _ hd) (lwG_V lm_X5_91 li_X5_tell lx_X5_tell lz_RX5 lc_X5_tell) (by decide +kernel) (oR_at h cA _) rfl rfl rfl (Nat.le_of_ble_eq_true rfl) ⟨rfl, rfl⟩ ⟨by decide, by decide⟩ dX5_sleeper_98 hl.1 ⟨Nat.zero_le _, Nat.zero_le _⟩ (fun r_14 S_14 H locs hd hP hS => ?_)
        exact hret _ _ _ _ _ _ hd hP hS dX5_sleeper_101
      have hd := hd.2.2.2.2 hq6 hq9 hq12 hq15
      refine lv_tableOut (tgt := 102) hx hb dX5_sleeper_23 (sw_out 0 3 (by decide) (by decide) (fun v h1 h2 => by rcases (show v = 0 ∨ v = 1 ∨ v = 2 ∨ v = 3 by omega) with rfl | rfl | rfl | rfl <;> assumption)) (by decide) ?_
      refine lv_aload_n hx hb dX5_sleeper_102 rfl (lv_at hl 0 rfl) ?_
      refine lv_aload_n hx hb dX5_sleeper_103 rfl (lv_at hl 0 rfl) ?_
      refine lv_iload_n hx hb dX5_sleeper_104 rfl (lv_at hl 1 rfl) ?_
      refine cl_Vi (n := 1) (rest := [.ref (h 100)]) C0 hP hS (c_X5_isDreaming l C0.2.2.1 _ hd) (lwG_V lm_X5_181 li_X5_isDreaming lx_X5_isDreaming lz_RX5 lc_X5_isDreaming) (by decide +kernel) (oR_at h cA _) rfl rfl rfl (Nat.le_of_ble_eq_true rfl) ⟨rfl, rfl⟩ ⟨by decide, by decide⟩ dX5_sleeper_105 hl.1 ⟨Nat.zero_le _, Nat.zero_le _⟩ (fun r_3 S_3 H locs hd hP hS => ?_)
      refine lv_if_eq (tgt := 115) hx hb dX5_sleeper_108 (by decide) (fun hc => ?_) (fun hc => ?_)
      · have hd := hd.1 hc
        refine lv_iconst (v := 0) hx hb dX5_sleeper_115 (by decide) ?_
        exact bk_X5_sleeper_116 C0 hret hP hS hd (lv_sub hl [] rfl)
      · have hd := hd.2 hc
        refine lv_iconst (v := 1) hx hb dX5_sleeper_111 (by decide) ?_
        refine lv_goto (tgt := 116) hx hb dX5_sleeper_112 (by decide) ?_
        exact bk_X5_sleeper_116 C0 hret hP hS hd (lv_sub hl [] rfl)
    · have hd := hd.2 hc
      refine lv_iconst (v := (-1)) hx hb dX5_sleeper_20 (by decide) ?_
      exact hret _ _ _ _ _ _ hd hP hS dX5_sleeper_21
theorem c_X5_sleeper (l : Launch) {D : va_G} {cA : Nat → ClassId} {h : Nat → Nat} (hk : ky keysRA h) {x1 : Int32} {x2 : Int32} {S : sT} (sz : Nat) {Q : Int32 → sT → Prop} (hd : wp_X5_sleeper x1 x2 S Q) : Met l yX5_sleeper (wsU yX5_sleeper cX5_sleeper 3 (some .int)) rm_X5_sleeper (va_Pc [.ref (h 100), .int x1, .int x2] (gP D cA false keysRA h (wR h cA) S sz)) (va_Qi Q (wB D (wR h cA)) (aK keysRA h sz)) 0 0 (aK keysRA h sz) :=
  mk_i (by decide) hk (Nat.le_of_ble_eq_true rfl) (fun p e s m below meth c Z ls C0 hret hP hS hl => bk_X5_sleeper C0 hret hP hS hd hl)
abbrev rm_X5_stood : Room := { frames := 5, cells := 0, slots := 0, locals := 118 }
def wp_X5_stood (x1 : Int32) (S : sT) (Q : Int32 → sT → Prop) : Prop :=
  wp_X5_isOne x1 S (fun r_1 S_1 => ((r_1 = 0 → Q (-1 : Int32) S_1) ∧ (¬ r_1 = 0 → (vp_in x1 6) ∧ wp_X5_standsAt (vA S_1 13 x1.toNatClampNeg) (60 : Int32) S_1 (fun r_3 S_3 => Q r_3 S_3))))
set_option maxHeartbeats 4000000 in
set_option maxRecDepth 100000 in
theorem bk_X5_stood {p : Program} {l : Launch} {e : Env} {s : State} {m : MethodId} {args : Array Value} {below : List Frame} {meth : Method} {c : Code} {Z : State → Prop} {D : va_G} {cA : Nat → ClassId} {h : Nat → Nat} {Q : Int32 → sT → Prop} (C0 : cx p s m args c cX5_stood 2 RX5 D cA false keysRA h) (hret : rtI p l e rm_X5_stood s m args below meth c cX5_stood Z D (wR h cA) (aK keysRA h s.heap.size) Q) {x1 : Int32} {S : sT} {H : Heap} {locs : List Loc} {ls : Array Slot} (hP : va_P D vwCl (wR h cA S) H) (hS : va_S (aK keysRA h s.heap.size) s.heap H locs) (hd : wp_X5_stood x1 S Q) (hl : lv_has ls 2 [(0, .ref (h 100)), (1, .int x1)]) : W p l e rm_X5_stood s m args below meth c H locs 0 0 Z (F0 m 0 ls []) := by
  obtain ⟨⟨hx, hb, hml, hown, hts⟩, hK, -, -⟩ := id C0
  unfold wp_X5_stood at hd
  refine lv_aload_n hx hb dX5_stood_0 rfl (lv_at hl 0 rfl) ?_
  refine lv_iload_n hx hb dX5_stood_1 rfl (lv_at hl 1 rfl) ?_
  refine cl_Vi (n := 1) (rest := []) C0 hP hS (c_X5_isOne l C0.2.2.1 _ hd) (lwG_V lm_X5_176 li_X5_isOne lx_X5_isOne lz_RX5 lc_X5_isOne) (by decide +kernel) (oR_at h cA _) rfl rfl rfl (Nat.le_of_ble_eq_true rfl) ⟨rfl, rfl⟩ ⟨by decide, by decide⟩ dX5_stood_2 hl.1 ⟨Nat.zero_le _, Nat.zero_le _⟩ (fun r_1 S_1 H locs hd hP hS => ?_)
  refine lv_if_eq (tgt := 23) hx hb dX5_stood_5 (by decide) (fun hc => ?_) (fun hc => ?_)
  · have hd := hd.1 hc
    refine lv_iconst (v := (-1)) hx hb dX5_stood_23 (by decide) ?_
    exact hret _ _ _ _ _ _ hd hP hS dX5_stood_24
  · have hd := hd.2 hc
    refine lv_aload_n hx hb dX5_stood_8 rfl (lv_at hl 0 rfl) ?_
    refine lv_aload_n hx hb dX5_stood_9 rfl (lv_at hl 0 rfl) ?_
    refine gf_X5_32 C0 hP dX5_stood_10 ?_
    refine lv_iload_n hx hb dX5_stood_13 rfl (lv_at hl 1 rfl) ?_
    obtain ⟨h_2, hd⟩ := hd
    refine ldR (by decide) C0 hP h_2 dX5_stood_14 ?_
    refine lv_bipush (v := 60) hx hb dX5_stood_15 (by decide) ?_
    refine cl_Vi (n := 2) (rest := []) C0 hP hS (c_X5_standsAt l C0.2.2.1 _ hd) (lwG_V lm_X5_219 li_X5_standsAt lx_X5_standsAt lz_RX5 lc_X5_standsAt) (by decide +kernel) (oR_at h cA _) rfl rfl rfl (Nat.le_of_ble_eq_true rfl) ⟨rfl, rfl⟩ ⟨by decide, by decide⟩ dX5_stood_17 hl.1 ⟨Nat.zero_le _, Nat.zero_le _⟩ (fun r_3 S_3 H locs hd hP hS => ?_)
    refine lv_goto (tgt := 24) hx hb dX5_stood_20 (by decide) ?_
    exact hret _ _ _ _ _ _ hd hP hS dX5_stood_24
theorem c_X5_stood (l : Launch) {D : va_G} {cA : Nat → ClassId} {h : Nat → Nat} (hk : ky keysRA h) {x1 : Int32} {S : sT} (sz : Nat) {Q : Int32 → sT → Prop} (hd : wp_X5_stood x1 S Q) : Met l yX5_stood (wsU yX5_stood cX5_stood 2 (some .int)) rm_X5_stood (va_Pc [.ref (h 100), .int x1] (gP D cA false keysRA h (wR h cA) S sz)) (va_Qi Q (wB D (wR h cA)) (aK keysRA h sz)) 0 0 (aK keysRA h sz) :=
  mk_i (by decide) hk (Nat.le_of_ble_eq_true rfl) (fun p e s m below meth c Z ls C0 hret hP hS hl => bk_X5_stood C0 hret hP hS hd hl)
abbrev rm_X5_tear : Room := { frames := 2, cells := 0, slots := 0, locals := 45 }
def wp_X5_tear (x1 : Int32) (S : sT) (Q : Int32 → sT → Prop) : Prop :=
  wp_X5_isRow x1 S (fun r_1 S_1 => ((¬ r_1 = 0 → (vp_in x1 6) ∧ ((0 ≤ (vA S_1 1 x1.toNatClampNeg) → (vp_in x1 6) ∧ Q (1 : Int32) (uA S_1 1 (upd (vA S_1 1) x1.toNatClampNeg (-1 : Int32)))) ∧ (¬ 0 ≤ (vA S_1 1 x1.toNatClampNeg) → wp_X5_found (1 : Int32) S_1 (fun r_4 S_4 => Q r_4 S_4)))) ∧ (r_1 = 0 → Q (-1 : Int32) S_1)))
set_option maxHeartbeats 4000000 in
set_option maxRecDepth 100000 in
theorem bk_X5_tear {p : Program} {l : Launch} {e : Env} {s : State} {m : MethodId} {args : Array Value} {below : List Frame} {meth : Method} {c : Code} {Z : State → Prop} {D : va_G} {cA : Nat → ClassId} {h : Nat → Nat} {Q : Int32 → sT → Prop} (C0 : cx p s m args c cX5_tear 2 RX5 D cA false keysRA h) (hret : rtI p l e rm_X5_tear s m args below meth c cX5_tear Z D (wR h cA) (aK keysRA h s.heap.size) Q) {x1 : Int32} {S : sT} {H : Heap} {locs : List Loc} {ls : Array Slot} (hP : va_P D vwCl (wR h cA S) H) (hS : va_S (aK keysRA h s.heap.size) s.heap H locs) (hd : wp_X5_tear x1 S Q) (hl : lv_has ls 2 [(0, .ref (h 100)), (1, .int x1)]) : W p l e rm_X5_tear s m args below meth c H locs 0 0 Z (F0 m 0 ls []) := by
  obtain ⟨⟨hx, hb, hml, hown, hts⟩, hK, -, -⟩ := id C0
  unfold wp_X5_tear at hd
  refine lv_iload_n hx hb dX5_tear_0 rfl (lv_at hl 1 rfl) ?_
  refine cl_Si (n := 1) (rest := []) C0 hP hS (c_X5_isRow l C0.2.2.1 _ hd) (lwG_S lm_X5_83 ls_X5_isRow lz_RX5 lc_X5_isRow) (by decide +kernel) rfl rfl (Nat.le_of_ble_eq_true rfl) ⟨rfl, rfl⟩ ⟨by decide, by decide⟩ dX5_tear_1 hl.1 ⟨Nat.zero_le _, Nat.zero_le _⟩ (fun r_1 S_1 H locs hd hP hS => ?_)
  refine lv_if_ne (tgt := 9) hx hb dX5_tear_4 (by decide) (fun hc => ?_) (fun hc => ?_)
  · have hd := hd.1 hc
    refine lv_aload_n hx hb dX5_tear_9 rfl (lv_at hl 0 rfl) ?_
    refine gf_X5_13 C0 hP dX5_tear_10 ?_
    refine lv_iload_n hx hb dX5_tear_13 rfl (lv_at hl 1 rfl) ?_
    obtain ⟨h_2, hd⟩ := hd
    refine ldR (by decide) C0 hP h_2 dX5_tear_14 ?_
    refine lv_if_ge (tgt := 24) hx hb dX5_tear_15 (by decide) (fun hc => ?_) (fun hc => ?_)
    · have hd := hd.1 hc
      refine lv_aload_n hx hb dX5_tear_24 rfl (lv_at hl 0 rfl) ?_
      refine gf_X5_13 C0 hP dX5_tear_25 ?_
      refine lv_iload_n hx hb dX5_tear_28 rfl (lv_at hl 1 rfl) ?_
      refine lv_iconst (v := (-1)) hx hb dX5_tear_29 (by decide) ?_
      obtain ⟨h_3, hd⟩ := hd
      refine stR (by decide) C0 hP hS h_3 dX5_tear_30 (fun H locs hP hS => ?_)
      refine lv_iconst (v := 1) hx hb dX5_tear_31 (by decide) ?_
      exact hret _ _ _ _ _ _ hd hP hS dX5_tear_32
    · have hd := hd.2 hc
      refine lv_aload_n hx hb dX5_tear_18 rfl (lv_at hl 0 rfl) ?_
      refine lv_iconst (v := 1) hx hb dX5_tear_19 (by decide) ?_
      refine cl_Vi (n := 1) (rest := []) C0 hP hS (c_X5_found l C0.2.2.1 _ hd) (lwG_V lm_X5_87 li_X5_found lx_X5_found lz_RX5 lc_X5_found) (by decide +kernel) (oR_at h cA _) rfl rfl rfl (Nat.le_of_ble_eq_true rfl) ⟨rfl, rfl⟩ ⟨by decide, by decide⟩ dX5_tear_20 hl.1 ⟨Nat.zero_le _, Nat.zero_le _⟩ (fun r_4 S_4 H locs hd hP hS => ?_)
      exact hret _ _ _ _ _ _ hd hP hS dX5_tear_23
  · have hd := hd.2 hc
    refine lv_iconst (v := (-1)) hx hb dX5_tear_7 (by decide) ?_
    exact hret _ _ _ _ _ _ hd hP hS dX5_tear_8
theorem c_X5_tear (l : Launch) {D : va_G} {cA : Nat → ClassId} {h : Nat → Nat} (hk : ky keysRA h) {x1 : Int32} {S : sT} (sz : Nat) {Q : Int32 → sT → Prop} (hd : wp_X5_tear x1 S Q) : Met l yX5_tear (wsU yX5_tear cX5_tear 2 (some .int)) rm_X5_tear (va_Pc [.ref (h 100), .int x1] (gP D cA false keysRA h (wR h cA) S sz)) (va_Qi Q (wB D (wR h cA)) (aK keysRA h sz)) 0 0 (aK keysRA h sz) :=
  mk_i (by decide) hk (Nat.le_of_ble_eq_true rfl) (fun p e s m below meth c Z ls C0 hret hP hS hl => bk_X5_tear C0 hret hP hS hd hl)
abbrev rm_X5_text : Room := { frames := 2, cells := 0, slots := 0, locals := 45 }
def wb_X5_text_34 (Q : Int32 → sT → Prop) (K34 : Int32 → Int32 → Int32 → sT → Prop) (x1 : Int32) (x2 : Int32) (x3 : Int32) (S : sT) : Prop :=
  (((60 : Int32) ≤ x3 → Q x2 S) ∧ (¬ (60 : Int32) ≤ x3 → (vp_in (((60 : Int32) * x1) + x3) 240) ∧ K34 x1 x2 (x3 + (1 : Int32)) (uA S 2 (upd (vA S 2) (((60 : Int32) * x1) + x3).toNatClampNeg (32 : Int32)))))
set_option maxHeartbeats 4000000 in
set_option maxRecDepth 100000 in
theorem bk_X5_text_34 {p : Program} {l : Launch} {e : Env} {s : State} {m : MethodId} {args : Array Value} {below : List Frame} {meth : Method} {c : Code} {Z : State → Prop} {D : va_G} {cA : Nat → ClassId} {h : Nat → Nat} {Q : Int32 → sT → Prop} (C0 : cx p s m args c cX5_text 4 RX5 D cA false keysRA h) (hret : rtI p l e rm_X5_text s m args below meth c cX5_text Z D (wR h cA) (aK keysRA h s.heap.size) Q) {K34 : Int32 → Int32 → Int32 → sT → Prop} (k34 : ∀ (x1 : Int32) (x2 : Int32) (x3 : Int32) (S : sT) (H : Heap) (locs : List Loc) (ls : Array Slot), K34 x1 x2 x3 S → va_P D vwCl (wR h cA S) H → va_S (aK keysRA h s.heap.size) s.heap H locs → lv_has ls 4 [(0, .ref (h 100)), (1, .int x1), (2, .int x2), (3, .int x3)] → W p l e rm_X5_text s m args below meth c H locs 0 0 Z (F0 m 34 ls [])) {x1 : Int32} {x2 : Int32} {x3 : Int32} {S : sT} {H : Heap} {locs : List Loc} {ls : Array Slot} (hP : va_P D vwCl (wR h cA S) H) (hS : va_S (aK keysRA h s.heap.size) s.heap H locs) (hd : wb_X5_text_34 Q K34 x1 x2 x3 S) (hl : lv_has ls 4 [(0, .ref (h 100)), (1, .int x1), (2, .int x2), (3, .int x3)]) : W p l e rm_X5_text s m args below meth c H locs 0 0 Z (F0 m 34 ls []) := by
  obtain ⟨⟨hx, hb, hml, hown, hts⟩, hK, -, -⟩ := id C0
  unfold wb_X5_text_34 at hd
  refine lv_iload_n hx hb dX5_text_34 rfl (lv_at hl 3 rfl) ?_
  refine lv_bipush (v := 60) hx hb dX5_text_35 (by decide) ?_
  refine lv_icmp_ge (tgt := 59) hx hb dX5_text_37 (by decide) (fun hc => ?_) (fun hc => ?_)
  · have hd := hd.1 hc
    refine lv_iload_n hx hb dX5_text_59 rfl (lv_at hl 2 rfl) ?_
    exact hret _ _ _ _ _ _ hd hP hS dX5_text_60
  · have hd := hd.2 hc
    refine lv_aload_n hx hb dX5_text_40 rfl (lv_at hl 0 rfl) ?_
    refine gf_X5_16 C0 hP dX5_text_41 ?_
    refine lv_bipush (v := 60) hx hb dX5_text_44 (by decide) ?_
    refine lv_iload_n hx hb dX5_text_46 rfl (lv_at hl 1 rfl) ?_
    refine lv_imul hx hb dX5_text_47 ?_
    refine lv_iload_n hx hb dX5_text_48 rfl (lv_at hl 3 rfl) ?_
    refine lv_iadd hx hb dX5_text_49 ?_
    refine lv_bipush (v := 32) hx hb dX5_text_50 (by decide) ?_
    obtain ⟨h_1, hd⟩ := hd
    refine stR (by decide) C0 hP hS h_1 dX5_text_52 (fun H locs hP hS => ?_)
    refine lv_iinc (v := x3 + (1 : Int32)) (lv' := [(3, .int (x3 + (1 : Int32))), (0, .ref (h 100)), (1, .int x1), (2, .int x2)]) hx hb dX5_text_53 hl (k := 3) rfl rfl (by decide) rfl (fun ls hl => ?_)
    refine lv_goto (tgt := 34) hx hb dX5_text_56 (by decide) ?_
    exact k34 _ _ _ _ _ _ _ hd hP hS (lv_sub hl [1, 2, 3, 0] rfl)
def wl_X5_text_34 (Q : Int32 → sT → Prop) : Nat → Int32 → Int32 → Int32 → sT → Prop
  | 0, _, _, _ => fun _ => False
  | n + 1, x1, x2, x3 => fun S => wb_X5_text_34 Q (fun x1 x2 x3 S => wl_X5_text_34 Q n x1 x2 x3 S) x1 x2 x3 S
theorem bl_X5_text_34 {p : Program} {l : Launch} {e : Env} {s : State} {m : MethodId} {args : Array Value} {below : List Frame} {meth : Method} {c : Code} {Z : State → Prop} {D : va_G} {cA : Nat → ClassId} {h : Nat → Nat} {Q : Int32 → sT → Prop} (C0 : cx p s m args c cX5_text 4 RX5 D cA false keysRA h) (hret : rtI p l e rm_X5_text s m args below meth c cX5_text Z D (wR h cA) (aK keysRA h s.heap.size) Q) : ∀ (n : Nat) (x1 : Int32) (x2 : Int32) (x3 : Int32) (S : sT) (H : Heap) (locs : List Loc) (ls : Array Slot), va_P D vwCl (wR h cA S) H → va_S (aK keysRA h s.heap.size) s.heap H locs → wl_X5_text_34 Q n x1 x2 x3 S → lv_has ls 4 [(0, .ref (h 100)), (1, .int x1), (2, .int x2), (3, .int x3)] → W p l e rm_X5_text s m args below meth c H locs 0 0 Z (F0 m 34 ls []) := by
  intro n
  induction n with
  | zero => intro x1 x2 x3 S H locs ls hP hS hd hl; exact (show False from hd).elim
  | succ n ih => intro x1 x2 x3 S H locs ls hP hS hd hl; exact bk_X5_text_34 C0 hret (fun x1 x2 x3 S H locs ls hd hP hS hl => ih x1 x2 x3 S H locs ls hP hS hd hl) hP hS hd hl
def wp_X5_text (x1 : Int32) (x2 : Int32) (S : sT) (Q : Int32 → sT → Prop) : Prop :=
  wp_X5_isText x1 S (fun r_1 S_1 => ((r_1 = 0 → Q (-1 : Int32) S_1) ∧ (¬ r_1 = 0 → ((x2 ≤ (60 : Int32) → ((0 ≤ x2 → (vp_in x1 4) ∧ ∃ n : Nat, wl_X5_text_34 Q n x1 x2 (0 : Int32) (uA S_1 3 (upd (vA S_1 3) x1.toNatClampNeg x2))) ∧ (¬ 0 ≤ x2 → wp_X5_found (5 : Int32) S_1 (fun r_4 S_4 => Q r_4 S_4)))) ∧ (¬ x2 ≤ (60 : Int32) → Q (-1 : Int32) S_1)))))
set_option maxHeartbeats 4000000 in
set_option maxRecDepth 100000 in
theorem bk_X5_text {p : Program} {l : Launch} {e : Env} {s : State} {m : MethodId} {args : Array Value} {below : List Frame} {meth : Method} {c : Code} {Z : State → Prop} {D : va_G} {cA : Nat → ClassId} {h : Nat → Nat} {Q : Int32 → sT → Prop} (C0 : cx p s m args c cX5_text 4 RX5 D cA false keysRA h) (hret : rtI p l e rm_X5_text s m args below meth c cX5_text Z D (wR h cA) (aK keysRA h s.heap.size) Q) {x1 : Int32} {x2 : Int32} {S : sT} {H : Heap} {locs : List Loc} {ls : Array Slot} (hP : va_P D vwCl (wR h cA S) H) (hS : va_S (aK keysRA h s.heap.size) s.heap H locs) (hd : wp_X5_text x1 x2 S Q) (hl : lv_has ls 4 [(0, .ref (h 100)), (1, .int x1), (2, .int x2)]) : W p l e rm_X5_text s m args below meth c H locs 0 0 Z (F0 m 0 ls []) := by
  obtain ⟨⟨hx, hb, hml, hown, hts⟩, hK, -, -⟩ := id C0
  unfold wp_X5_text at hd
  refine lv_iload_n hx hb dX5_text_0 rfl (lv_at hl 1 rfl) ?_
  refine cl_Si (n := 1) (rest := []) C0 hP hS (c_X5_isText l C0.2.2.1 _ hd) (lwG_S lm_X5_94 ls_X5_isText lz_RX5 lc_X5_isText) (by decide +kernel) rfl rfl (Nat.le_of_ble_eq_true rfl) ⟨rfl, rfl⟩ ⟨by decide, by decide⟩ dX5_text_1 hl.1 ⟨Nat.zero_le _, Nat.zero_le _⟩ (fun r_1 S_1 H locs hd hP hS => ?_)
  refine lv_if_eq (tgt := 13) hx hb dX5_text_4 (by decide) (fun hc => ?_) (fun hc => ?_)
  · have hd := hd.1 hc
    refine lv_iconst (v := (-1)) hx hb dX5_text_13 (by decide) ?_
    exact hret _ _ _ _ _ _ hd hP hS dX5_text_14
  · have hd := hd.2 hc
    refine lv_iload_n hx hb dX5_text_7 rfl (lv_at hl 2 rfl) ?_
    refine lv_bipush (v := 60) hx hb dX5_text_8 (by decide) ?_
    refine lv_icmp_le (tgt := 15) hx hb dX5_text_10 (by decide) (fun hc => ?_) (fun hc => ?_)
    · have hd := hd.1 hc
      refine lv_iload_n hx hb dX5_text_15 rfl (lv_at hl 2 rfl) ?_
      refine lv_if_ge (tgt := 25) hx hb dX5_text_16 (by decide) (fun hc => ?_) (fun hc => ?_)
      · have hd := hd.1 hc
        refine lv_aload_n hx hb dX5_text_25 rfl (lv_at hl 0 rfl) ?_
        refine gf_X5_19 C0 hP dX5_text_26 ?_
        refine lv_iload_n hx hb dX5_text_29 rfl (lv_at hl 1 rfl) ?_
        refine lv_iload_n hx hb dX5_text_30 rfl (lv_at hl 2 rfl) ?_
        obtain ⟨h_2, hd⟩ := hd
        refine stR (by decide) C0 hP hS h_2 dX5_text_31 (fun H locs hP hS => ?_)
        refine lv_iconst (v := 0) hx hb dX5_text_32 (by decide) ?_
        refine lv_istore_n (lv' := [(3, .int (0 : Int32)), (0, .ref (h 100)), (1, .int x1), (2, .int x2)]) hx hb dX5_text_33 rfl hl (by decide) rfl (fun ls hl => ?_)
        obtain ⟨n_3, hd⟩ := hd
        exact bl_X5_text_34 C0 hret _ _ _ _ _ _ _ _ hP hS hd (lv_sub hl [1, 2, 3, 0] rfl)
      · have hd := hd.2 hc
        refine lv_aload_n hx hb dX5_text_19 rfl (lv_at hl 0 rfl) ?_
        refine lv_iconst (v := 5) hx hb dX5_text_20 (by decide) ?_
        refine cl_Vi (n := 1) (rest := []) C0 hP hS (c_X5_found l C0.2.2.1 _ hd) (lwG_V lm_X5_87 li_X5_found lx_X5_found lz_RX5 lc_X5_found) (by decide +kernel) (oR_at h cA _) rfl rfl rfl (Nat.le_of_ble_eq_true rfl) ⟨rfl, rfl⟩ ⟨by decide, by decide⟩ dX5_text_21 hl.1 ⟨Nat.zero_le _, Nat.zero_le _⟩ (fun r_4 S_4 H locs hd hP hS => ?_)
        exact hret _ _ _ _ _ _ hd hP hS dX5_text_24
    · have hd := hd.2 hc
      refine lv_iconst (v := (-1)) hx hb dX5_text_13 (by decide) ?_
      exact hret _ _ _ _ _ _ hd hP hS dX5_text_14
theorem c_X5_text (l : Launch) {D : va_G} {cA : Nat → ClassId} {h : Nat → Nat} (hk : ky keysRA h) {x1 : Int32} {x2 : Int32} {S : sT} (sz : Nat) {Q : Int32 → sT → Prop} (hd : wp_X5_text x1 x2 S Q) : Met l yX5_text (wsU yX5_text cX5_text 4 (some .int)) rm_X5_text (va_Pc [.ref (h 100), .int x1, .int x2] (gP D cA false keysRA h (wR h cA) S sz)) (va_Qi Q (wB D (wR h cA)) (aK keysRA h sz)) 0 0 (aK keysRA h sz) :=
  mk_i (by decide) hk (Nat.le_of_ble_eq_true rfl) (fun p e s m below meth c Z ls C0 hret hP hS hl => bk_X5_text C0 hret hP hS hd hl)
abbrev rm_X5_train : Room := { frames := 4, cells := 0, slots := 0, locals := 92 }
def wb_X5_train_54 (Q : Int32 → sT → Prop) (K32 : Int32 → Int32 → Int32 → sT → Prop) (x1 : Int32) (x3 : Int32) (y0 : Int32) (y1 : Int32) (S : sT) : Prop :=
  K32 x1 (y0 + y1) (x3 + (1 : Int32)) S
set_option maxHeartbeats 4000000 in
set_option maxRecDepth 100000 in
theorem bk_X5_train_54 {p : Program} {l : Launch} {e : Env} {s : State} {m : MethodId} {args : Array Value} {below : List Frame} {meth : Method} {c : Code} {Z : State → Prop} {D : va_G} {cA : Nat → ClassId} {h : Nat → Nat} {Q : Int32 → sT → Prop} (C0 : cx p s m args c cX5_train 4 RX5 D cA false keysRA h) (hret : rtI p l e rm_X5_train s m args below meth c cX5_train Z D (wR h cA) (aK keysRA h s.heap.size) Q) {K32 : Int32 → Int32 → Int32 → sT → Prop} (k32 : ∀ (x1 : Int32) (x2 : Int32) (x3 : Int32) (S : sT) (H : Heap) (locs : List Loc) (ls : Array Slot), K32 x1 x2 x3 S → va_P D vwCl (wR h cA S) H → va_S (aK keysRA h s.heap.size) s.heap H locs → lv_has ls 4 [(0, .ref (h 100)), (1, .int x1), (2, .int x2), (3, .int x3)] → W p l e rm_X5_train s m args below meth c H locs 0 0 Z (F0 m 32 ls [])) {x1 : Int32} {x3 : Int32} {y0 : Int32} {y1 : Int32} {S : sT} {H : Heap} {locs : List Loc} {ls : Array Slot} (hP : va_P D vwCl (wR h cA S) H) (hS : va_S (aK keysRA h s.heap.size) s.heap H locs) (hd : wb_X5_train_54 Q K32 x1 x3 y0 y1 S) (hl : lv_has ls 4 [(0, .ref (h 100)), (1, .int x1), (3, .int x3)]) : W p l e rm_X5_train s m args below meth c H locs 0 0 Z (F0 m 54 ls [.int y1, .int y0]) := by
  obtain ⟨⟨hx, hb, hml, hown, hts⟩, hK, -, -⟩ := id C0
  unfold wb_X5_train_54 at hd
  refine lv_iadd hx hb dX5_train_54 ?_
  refine lv_istore_n (lv' := [(2, .int (y0 + y1)), (0, .ref (h 100)), (1, .int x1), (3, .int x3)]) hx hb dX5_train_55 rfl hl (by decide) rfl (fun ls hl => ?_)
  refine lv_iinc (v := x3 + (1 : Int32)) (lv' := [(3, .int (x3 + (1 : Int32))), (2, .int (y0 + y1)), (0, .ref (h 100)), (1, .int x1)]) hx hb dX5_train_56 hl (k := 3) rfl rfl (by decide) rfl (fun ls hl => ?_)
  refine lv_goto (tgt := 32) hx hb dX5_train_59 (by decide) ?_
  exact k32 _ _ _ _ _ _ _ hd hP hS (lv_sub hl [2, 3, 1, 0] rfl)
def wb_X5_train_32 (Q : Int32 → sT → Prop) (K32 : Int32 → Int32 → Int32 → sT → Prop) (x1 : Int32) (x2 : Int32) (x3 : Int32) (S : sT) : Prop :=
  ((x1 ≤ x3 → (vp_in (1 : Int32) 9) ∧ wp_X5_answer (vA S 15 (1 : Int32).toNatClampNeg) x2 S (fun r_2 S_2 => Q r_2 S_2)) ∧ (¬ x1 ≤ x3 → wp_X5_goes 15 S (fun r_3 S_3 => ((r_3 = 0 → wb_X5_train_54 Q K32 x1 x3 x2 (0 : Int32) S_3) ∧ (¬ r_3 = 0 → wb_X5_train_54 Q K32 x1 x3 x2 (1 : Int32) S_3)))))
set_option maxHeartbeats 4000000 in
set_option maxRecDepth 100000 in
theorem bk_X5_train_32 {p : Program} {l : Launch} {e : Env} {s : State} {m : MethodId} {args : Array Value} {below : List Frame} {meth : Method} {c : Code} {Z : State → Prop} {D : va_G} {cA : Nat → ClassId} {h : Nat → Nat} {Q : Int32 → sT → Prop} (C0 : cx p s m args c cX5_train 4 RX5 D cA false keysRA h) (hret : rtI p l e rm_X5_train s m args below meth c cX5_train Z D (wR h cA) (aK keysRA h s.heap.size) Q) {K32 : Int32 → Int32 → Int32 → sT → Prop} (k32 : ∀ (x1 : Int32) (x2 : Int32) (x3 : Int32) (S : sT) (H : Heap) (locs : List Loc) (ls : Array Slot), K32 x1 x2 x3 S → va_P D vwCl (wR h cA S) H → va_S (aK keysRA h s.heap.size) s.heap H locs → lv_has ls 4 [(0, .ref (h 100)), (1, .int x1), (2, .int x2), (3, .int x3)] → W p l e rm_X5_train s m args below meth c H locs 0 0 Z (F0 m 32 ls [])) {x1 : Int32} {x2 : Int32} {x3 : Int32} {S : sT} {H : Heap} {locs : List Loc} {ls : Array Slot} (hP : va_P D vwCl (wR h cA S) H) (hS : va_S (aK keysRA h s.heap.size) s.heap H locs) (hd : wb_X5_train_32 Q K32 x1 x2 x3 S) (hl : lv_has ls 4 [(0, .ref (h 100)), (1, .int x1), (2, .int x2), (3, .int x3)]) : W p l e rm_X5_train s m args below meth c H locs 0 0 Z (F0 m 32 ls []) := by
  obtain ⟨⟨hx, hb, hml, hown, hts⟩, hK, -, -⟩ := id C0
  unfold wb_X5_train_32 at hd
  refine lv_iload_n hx hb dX5_train_32 rfl (lv_at hl 3 rfl) ?_
  refine lv_iload_n hx hb dX5_train_33 rfl (lv_at hl 1 rfl) ?_
  refine lv_icmp_ge (tgt := 62) hx hb dX5_train_34 (by decide) (fun hc => ?_) (fun hc => ?_)
  · have hd := hd.1 hc
    refine lv_aload_n hx hb dX5_train_62 rfl (lv_at hl 0 rfl) ?_
    refine lv_aload_n hx hb dX5_train_63 rfl (lv_at hl 0 rfl) ?_
    refine gf_X5_38 C0 hP dX5_train_64 ?_
    refine lv_iconst (v := 1) hx hb dX5_train_67 (by decide) ?_
    obtain ⟨h_1, hd⟩ := hd
    refine ldR (by decide) C0 hP h_1 dX5_train_68 ?_
    refine lv_iload_n hx hb dX5_train_69 rfl (lv_at hl 2 rfl) ?_
    refine cl_Vi (n := 2) (rest := []) C0 hP hS (c_X5_answer l C0.2.2.1 _ hd) (lwG_V lm_X5_216 li_X5_answer lx_X5_answer lz_RX5 lc_X5_answer) (by decide +kernel) (oR_at h cA _) rfl rfl rfl (Nat.le_of_ble_eq_true rfl) ⟨rfl, rfl⟩ ⟨by decide, by decide⟩ dX5_train_70 hl.1 ⟨Nat.zero_le _, Nat.zero_le _⟩ (fun r_2 S_2 H locs hd hP hS => ?_)
    exact hret _ _ _ _ _ _ hd hP hS dX5_train_73
  · have hd := hd.2 hc
    refine lv_iload_n hx hb dX5_train_37 rfl (lv_at hl 2 rfl) ?_
    refine lv_aload_n hx hb dX5_train_38 rfl (lv_at hl 0 rfl) ?_
    refine lv_aload_n hx hb dX5_train_39 rfl (lv_at hl 0 rfl) ?_
    refine gf_X5_38 C0 hP dX5_train_40 ?_
    refine cl_Vi (n := 1) (rest := [.int x2]) C0 hP hS (c_X5_goes l C0.2.2.1 (by decide) _ hd) (lwG_V lm_X5_204 li_X5_goes lx_X5_goes lz_RX5 lc_X5_goes) (by decide +kernel) (oR_at h cA _) rfl rfl rfl (Nat.le_of_ble_eq_true rfl) ⟨rfl, rfl⟩ ⟨by decide, by decide⟩ dX5_train_43 hl.1 ⟨Nat.zero_le _, Nat.zero_le _⟩ (fun r_3 S_3 H locs hd hP hS => ?_)
    refine lv_if_eq (tgt := 53) hx hb dX5_train_46 (by decide) (fun hc => ?_) (fun hc => ?_)
    · have hd := hd.1 hc
      refine lv_iconst (v := 0) hx hb dX5_train_53 (by decide) ?_
      exact bk_X5_train_54 C0 hret k32 hP hS hd (lv_sub hl [0, 1, 3] rfl)
    · have hd := hd.2 hc
      refine lv_iconst (v := 1) hx hb dX5_train_49 (by decide) ?_
      refine lv_goto (tgt := 54) hx hb dX5_train_50 (by decide) ?_
      exact bk_X5_train_54 C0 hret k32 hP hS hd (lv_sub hl [0, 1, 3] rfl)
def wl_X5_train_32 (Q : Int32 → sT → Prop) : Nat → Int32 → Int32 → Int32 → sT → Prop
  | 0, _, _, _ => fun _ => False
  | n + 1, x1, x2, x3 => fun S => wb_X5_train_32 Q (fun x1 x2 x3 S => wl_X5_train_32 Q n x1 x2 x3 S) x1 x2 x3 S
theorem bl_X5_train_32 {p : Program} {l : Launch} {e : Env} {s : State} {m : MethodId} {args : Array Value} {below : List Frame} {meth : Method} {c : Code} {Z : State → Prop} {D : va_G} {cA : Nat → ClassId} {h : Nat → Nat} {Q : Int32 → sT → Prop} (C0 : cx p s m args c cX5_train 4 RX5 D cA false keysRA h) (hret : rtI p l e rm_X5_train s m args below meth c cX5_train Z D (wR h cA) (aK keysRA h s.heap.size) Q) : ∀ (n : Nat) (x1 : Int32) (x2 : Int32) (x3 : Int32) (S : sT) (H : Heap) (locs : List Loc) (ls : Array Slot), va_P D vwCl (wR h cA S) H → va_S (aK keysRA h s.heap.size) s.heap H locs → wl_X5_train_32 Q n x1 x2 x3 S → lv_has ls 4 [(0, .ref (h 100)), (1, .int x1), (2, .int x2), (3, .int x3)] → W p l e rm_X5_train s m args below meth c H locs 0 0 Z (F0 m 32 ls []) := by
  intro n
  induction n with
  | zero => intro x1 x2 x3 S H locs ls hP hS hd hl; exact (show False from hd).elim
  | succ n ih => intro x1 x2 x3 S H locs ls hP hS hd hl; exact bk_X5_train_32 C0 hret (fun x1 x2 x3 S H locs ls hd hP hS hl => ih x1 x2 x3 S H locs ls hP hS hd hl) hP hS hd hl
def wp_X5_train (x1 : Int32) (S : sT) (Q : Int32 → sT → Prop) : Prop :=
  wp_X5_in x1.toInt64 (0 : Int64) (60 : Int64) S (fun r_1 S_1 => ((¬ r_1 = 0 → ((¬ (vI S_1 9) = 0 → wp_X5_layAside S_1 (fun S_2 => ∃ n : Nat, wl_X5_train_32 Q n x1 (0 : Int32) (0 : Int32) S_2)) ∧ ((vI S_1 9) = 0 → Q (-4 : Int32) S_1))) ∧ (r_1 = 0 → Q (-1 : Int32) S_1)))
set_option maxHeartbeats 4000000 in
set_option maxRecDepth 100000 in
theorem bk_X5_train {p : Program} {l : Launch} {e : Env} {s : State} {m : MethodId} {args : Array Value} {below : List Frame} {meth : Method} {c : Code} {Z : State → Prop} {D : va_G} {cA : Nat → ClassId} {h : Nat → Nat} {Q : Int32 → sT → Prop} (C0 : cx p s m args c cX5_train 4 RX5 D cA false keysRA h) (hret : rtI p l e rm_X5_train s m args below meth c cX5_train Z D (wR h cA) (aK keysRA h s.heap.size) Q) {x1 : Int32} {S : sT} {H : Heap} {locs : List Loc} {ls : Array Slot} (hP : va_P D vwCl (wR h cA S) H) (hS : va_S (aK keysRA h s.heap.size) s.heap H locs) (hd : wp_X5_train x1 S Q) (hl : lv_has ls 4 [(0, .ref (h 100)), (1, .int x1)]) : W p l e rm_X5_train s m args below meth c H locs 0 0 Z (F0 m 0 ls []) := by
  obtain ⟨⟨hx, hb, hml, hown, hts⟩, hK, -, -⟩ := id C0
  unfold wp_X5_train at hd
  refine lv_iload_n hx hb dX5_train_0 rfl (lv_at hl 1 rfl) ?_
  refine lv_i2l hx hb dX5_train_1 rfl ?_
  refine lv_lconst (v := 0) hx hb dX5_train_2 (by decide) ?_
  refine lv_ldc2 hx hb hown (hts _ lk_X5_211) dX5_train_3 ?_
  refine cl_Si (n := 3) (rest := []) C0 hP hS (c_X5_in l C0.2.2.1 _ hd) (lwG_S lm_X5_77 ls_X5_in lz_RX5 lc_X5_in) (by decide +kernel) rfl rfl (Nat.le_of_ble_eq_true rfl) ⟨rfl, rfl⟩ ⟨by decide, by decide⟩ dX5_train_6 hl.1 ⟨Nat.zero_le _, Nat.zero_le _⟩ (fun r_1 S_1 H locs hd hP hS => ?_)
  refine lv_if_ne (tgt := 14) hx hb dX5_train_9 (by decide) (fun hc => ?_) (fun hc => ?_)
  · have hd := hd.1 hc
    refine lv_aload_n hx hb dX5_train_14 rfl (lv_at hl 0 rfl) ?_
    refine gf_X5_97 C0 hP dX5_train_15 ?_
    refine lv_if_ne (tgt := 24) hx hb dX5_train_18 (by decide) (fun hc => ?_) (fun hc => ?_)
    · have hd := hd.1 hc
      refine lv_aload_n hx hb dX5_train_24 rfl (lv_at hl 0 rfl) ?_
      refine cl_Vv (n := 0) (rest := []) C0 hP hS (c_X5_layAside l C0.2.2.1 _ hd) (lwG_V lm_X5_213 li_X5_layAside lx_X5_layAside lz_RX5 lc_X5_layAside) (by decide +kernel) (oR_at h cA _) rfl rfl rfl (Nat.le_of_ble_eq_true rfl) ⟨rfl, rfl⟩ ⟨by decide, by decide⟩ dX5_train_25 hl.1 ⟨Nat.zero_le _, Nat.zero_le _⟩ (fun S_2 H locs hd hP hS => ?_)
      refine lv_iconst (v := 0) hx hb dX5_train_28 (by decide) ?_
      refine lv_istore_n (lv' := [(2, .int (0 : Int32)), (0, .ref (h 100)), (1, .int x1)]) hx hb dX5_train_29 rfl hl (by decide) rfl (fun ls hl => ?_)
      refine lv_iconst (v := 0) hx hb dX5_train_30 (by decide) ?_
      refine lv_istore_n (lv' := [(3, .int (0 : Int32)), (2, .int (0 : Int32)), (0, .ref (h 100)), (1, .int x1)]) hx hb dX5_train_31 rfl hl (by decide) rfl (fun ls hl => ?_)
      obtain ⟨n_3, hd⟩ := hd
      exact bl_X5_train_32 C0 hret _ _ _ _ _ _ _ _ hP hS hd (lv_sub hl [2, 3, 1, 0] rfl)
    · have hd := hd.2 hc
      refine lv_bipush (v := (-4)) hx hb dX5_train_21 (by decide) ?_
      exact hret _ _ _ _ _ _ hd hP hS dX5_train_23
  · have hd := hd.2 hc
    refine lv_iconst (v := (-1)) hx hb dX5_train_12 (by decide) ?_
    exact hret _ _ _ _ _ _ hd hP hS dX5_train_13
theorem c_X5_train (l : Launch) {D : va_G} {cA : Nat → ClassId} {h : Nat → Nat} (hk : ky keysRA h) {x1 : Int32} {S : sT} (sz : Nat) {Q : Int32 → sT → Prop} (hd : wp_X5_train x1 S Q) : Met l yX5_train (wsU yX5_train cX5_train 4 (some .int)) rm_X5_train (va_Pc [.ref (h 100), .int x1] (gP D cA false keysRA h (wR h cA) S sz)) (va_Qi Q (wB D (wR h cA)) (aK keysRA h sz)) 0 0 (aK keysRA h sz) :=
  mk_i (by decide) hk (Nat.le_of_ble_eq_true rfl) (fun p e s m below meth c Z ls C0 hret hP hS hl => bk_X5_train C0 hret hP hS hd hl)
