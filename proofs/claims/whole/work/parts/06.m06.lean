abbrev rm_X4_lay : Room := { frames := 5, cells := 0, slots := 0, locals := 109 }
def wp_X4_lay (x1 : Int32) (x2 : Int32) (x3 : Int32) (S : sT) (Q : Int32 → sT → Prop) : Prop :=
  wp_X4_refusalOfCell 0 x1 x2 S (fun r_1 S_1 => ((r_1 = 0 → (vp_in x1 6) ∧ (vp_in x2 40) ∧ (vp_in x1 6) ∧ (vp_in x2 40) ∧ ∀ S_6 : sT, S_6 = uA (uI S_1 13 (vA S_1 (300 + x1.toNatClampNeg) x2.toNatClampNeg)) (300 + x1.toNatClampNeg) (upd (vA (uI S_1 13 (vA S_1 (300 + x1.toNatClampNeg) x2.toNatClampNeg)) (300 + x1.toNatClampNeg)) x2.toNatClampNeg x3) → Q (1 : Int32) S_6) ∧ (¬ r_1 = 0 → Q r_1 S_1)))
set_option maxHeartbeats 4000000 in
set_option maxRecDepth 100000 in
theorem bk_X4_lay {p : Program} {l : Launch} {e : Env} {s : State} {m : MethodId} {args : Array Value} {below : List Frame} {meth : Method} {c : Code} {Z : State → Prop} {D : va_G} {cA : Nat → ClassId} {h : Nat → Nat} {Q : Int32 → sT → Prop} (C0 : cx p s m args c cX4_lay 5 RX4 D cA true keysC h) (hret : rtI p l e rm_X4_lay s m args below meth c cX4_lay Z D (wC h cA) (aK keysC h s.heap.size) Q) {x1 : Int32} {x2 : Int32} {x3 : Int32} {S : sT} {H : Heap} {locs : List Loc} {ls : Array Slot} (hP : va_P D vwCl (wC h cA S) H) (hS : va_S (aK keysC h s.heap.size) s.heap H locs) (hd : wp_X4_lay x1 x2 x3 S Q) (hl : lv_has ls 5 [(0, .ref (h 1000)), (1, .int x1), (2, .int x2), (3, .int x3)]) : W p l e rm_X4_lay s m args below meth c H locs 0 0 Z (F0 m 0 ls []) := by
  obtain ⟨⟨hx, hb, hml, hown, hts⟩, hK, -, -⟩ := id C0
  unfold wp_X4_lay at hd
  refine lv_aload_n hx hb dX4_lay_0 rfl (lv_at hl 0 rfl) ?_
  refine lv_aload_n hx hb dX4_lay_1 rfl (lv_at hl 0 rfl) ?_
  refine gf_X4_14 C0 hP dX4_lay_2 ?_
  refine lv_iload_n hx hb dX4_lay_5 rfl (lv_at hl 1 rfl) ?_
  refine lv_iload_n hx hb dX4_lay_6 rfl (lv_at hl 2 rfl) ?_
  refine cl_Vi (n := 3) (rest := []) C0 hP hS (c_X4_refusalOfCell l C0.2.2.1 (by decide) _ hd) (lwG_V lm_X4_90 li_X4_refusalOfCell lx_X4_refusalOfCell lz_RX4 lc_X4_refusalOfCell) (by decide +kernel) (oD_at h cA _) rfl rfl rfl (Nat.le_of_ble_eq_true rfl) ⟨rfl, rfl⟩ ⟨by decide, by decide⟩ dX4_lay_7 hl.1 ⟨Nat.zero_le _, Nat.zero_le _⟩ (fun r_1 S_1 H locs hd hP hS => ?_)
  refine lv_istore (lv' := [(4, .int r_1), (0, .ref (h 1000)), (1, .int x1), (2, .int x2), (3, .int x3)]) hx hb dX4_lay_10 hl (by decide) rfl (fun ls hl => ?_)
  refine lv_iload hx hb dX4_lay_12 (lv_at hl 0 rfl) ?_
  refine lv_if_eq (tgt := 20) hx hb dX4_lay_14 (by decide) (fun hc => ?_) (fun hc => ?_)
  · have hd := hd.1 hc
    refine lv_aload_n hx hb dX4_lay_20 rfl (lv_at hl 1 rfl) ?_
    refine lv_aload_n hx hb dX4_lay_21 rfl (lv_at hl 1 rfl) ?_
    refine gf_X4_14 C0 hP dX4_lay_22 ?_
    refine gf_X4_94_0 C0 hP dX4_lay_25 ?_
    refine lv_iload_n hx hb dX4_lay_28 rfl (lv_at hl 2 rfl) ?_
    obtain ⟨h_2, hd⟩ := hd
    refine ao_1010 C0 hP h_2 dX4_lay_29 ?_
    refine lv_iload_n hx hb dX4_lay_30 rfl (lv_at hl 3 rfl) ?_
    obtain ⟨h_3, hd⟩ := hd
    refine ldC (kRow0 _ (vp_lt h_2)) C0 hP (by rw [lRow0 _ (vp_lt h_2)]; exact h_3) dX4_lay_31 ?_
    refine pf_X4_97 C0 hP hS dX4_lay_32 (fun H locs hP hS => ?_)
    refine lv_aload_n hx hb dX4_lay_35 rfl (lv_at hl 1 rfl) ?_
    refine gf_X4_14 C0 hP dX4_lay_36 ?_
    refine gf_X4_94_0 C0 hP dX4_lay_39 ?_
    refine lv_iload_n hx hb dX4_lay_42 rfl (lv_at hl 2 rfl) ?_
    obtain ⟨h_4, hd⟩ := hd
    refine ao_1010 C0 hP h_4 dX4_lay_43 ?_
    refine lv_iload_n hx hb dX4_lay_44 rfl (lv_at hl 3 rfl) ?_
    refine lv_iload_n hx hb dX4_lay_45 rfl (lv_at hl 4 rfl) ?_
    obtain ⟨h_5, hd⟩ := hd
    refine stC (kRow0 _ (vp_lt h_4)) C0 hP hS (by rw [lRow0 _ (vp_lt h_4)]; exact h_5) dX4_lay_46 (fun H locs hP hS => ?_)
    obtain ⟨S_6, eS_6⟩ : ∃ x : sT, x = uA (uI S_1 13 (vA S_1 (300 + x1.toNatClampNeg) x2.toNatClampNeg)) (300 + x1.toNatClampNeg) (upd (vA (uI S_1 13 (vA S_1 (300 + x1.toNatClampNeg) x2.toNatClampNeg)) (300 + x1.toNatClampNeg)) x2.toNatClampNeg x3) := ⟨_, rfl⟩
    rw [← eS_6] at hP
    have hd := hd S_6 eS_6
    refine lv_iconst (v := 1) hx hb dX4_lay_47 (by decide) ?_
    exact hret _ _ _ _ _ _ hd hP hS dX4_lay_48
  · have hd := hd.2 hc
    refine lv_iload hx hb dX4_lay_17 (lv_at hl 0 rfl) ?_
    exact hret _ _ _ _ _ _ hd hP hS dX4_lay_19
theorem c_X4_lay (l : Launch) {D : va_G} {cA : Nat → ClassId} {h : Nat → Nat} (hk : ky keysC h) {x1 : Int32} {x2 : Int32} {x3 : Int32} {S : sT} (sz : Nat) {Q : Int32 → sT → Prop} (hd : wp_X4_lay x1 x2 x3 S Q) : Met l yX4_lay (wsU yX4_lay cX4_lay 5 (some .int)) rm_X4_lay (va_Pc [.ref (h 1000), .int x1, .int x2, .int x3] (gP D cA true keysC h (wC h cA) S sz)) (va_Qi Q (wB D (wC h cA)) (aK keysC h sz)) 0 0 (aK keysC h sz) :=
  mk_i (by decide) hk (Nat.le_of_ble_eq_true rfl) (fun p e s m below meth c Z ls C0 hret hP hS hl => bk_X4_lay C0 hret hP hS hd hl)
abbrev rm_X4_line : Room := { frames := 5, cells := 0, slots := 0, locals := 114 }
def wb_X4_line_66 (Q : Int32 → sT → Prop) (K66 : Int32 → sT → Prop) (x3 : Int32) (S : sT) : Prop :=
  (((3 : Int32) ≤ x3 → Q (vI S 26) S) ∧ (¬ (3 : Int32) ≤ x3 → (vp_in x3 3) ∧ K66 (x3 + (1 : Int32)) (uA S 5 (upd (vA S 5) x3.toNatClampNeg (vp_nar .boolean (0 : Int32))))))
set_option maxHeartbeats 4000000 in
set_option maxRecDepth 100000 in
theorem bk_X4_line_66 {p : Program} {l : Launch} {e : Env} {s : State} {m : MethodId} {args : Array Value} {below : List Frame} {meth : Method} {c : Code} {Z : State → Prop} {D : va_G} {cA : Nat → ClassId} {h : Nat → Nat} {Q : Int32 → sT → Prop} (C0 : cx p s m args c cX4_line 4 RX4 D cA true keysC h) (hret : rtI p l e rm_X4_line s m args below meth c cX4_line Z D (wC h cA) (aK keysC h s.heap.size) Q) {K66 : Int32 → sT → Prop} (k66 : ∀ (x3 : Int32) (S : sT) (H : Heap) (locs : List Loc) (ls : Array Slot), K66 x3 S → va_P D vwCl (wC h cA S) H → va_S (aK keysC h s.heap.size) s.heap H locs → lv_has ls 4 [(0, .ref (h 1000)), (3, .int x3)] → W p l e rm_X4_line s m args below meth c H locs 0 0 Z (F0 m 66 ls [])) {x3 : Int32} {S : sT} {H : Heap} {locs : List Loc} {ls : Array Slot} (hP : va_P D vwCl (wC h cA S) H) (hS : va_S (aK keysC h s.heap.size) s.heap H locs) (hd : wb_X4_line_66 Q K66 x3 S) (hl : lv_has ls 4 [(0, .ref (h 1000)), (3, .int x3)]) : W p l e rm_X4_line s m args below meth c H locs 0 0 Z (F0 m 66 ls []) := by
  obtain ⟨⟨hx, hb, hml, hown, hts⟩, hK, -, -⟩ := id C0
  unfold wb_X4_line_66 at hd
  refine lv_iload_n hx hb dX4_line_66 rfl (lv_at hl 1 rfl) ?_
  refine lv_iconst (v := 3) hx hb dX4_line_67 (by decide) ?_
  refine lv_icmp_ge (tgt := 84) hx hb dX4_line_68 (by decide) (fun hc => ?_) (fun hc => ?_)
  · have hd := hd.1 hc
    refine lv_aload_n hx hb dX4_line_84 rfl (lv_at hl 0 rfl) ?_
    refine gf_X4_24 C0 hP dX4_line_85 ?_
    refine gf_X4_129_0 C0 hP dX4_line_88 ?_
    exact hret _ _ _ _ _ _ hd hP hS dX4_line_91
  · have hd := hd.2 hc
    refine lv_aload_n hx hb dX4_line_71 rfl (lv_at hl 0 rfl) ?_
    refine gf_X4_35 C0 hP dX4_line_72 ?_
    refine lv_iload_n hx hb dX4_line_75 rfl (lv_at hl 1 rfl) ?_
    refine lv_iconst (v := 0) hx hb dX4_line_76 (by decide) ?_
    obtain ⟨h_1, hd⟩ := hd
    refine stZ C0 hP hS h_1 dX4_line_77 (fun H locs hP hS => ?_)
    refine lv_iinc (v := x3 + (1 : Int32)) (lv' := [(3, .int (x3 + (1 : Int32))), (0, .ref (h 1000))]) hx hb dX4_line_78 hl (k := 1) rfl rfl (by decide) rfl (fun ls hl => ?_)
    refine lv_goto (tgt := 66) hx hb dX4_line_81 (by decide) ?_
    exact k66 _ _ _ _ _ hd hP hS (lv_sub hl [1, 0] rfl)
def wl_X4_line_66 (Q : Int32 → sT → Prop) : Nat → Int32 → sT → Prop
  | 0, _ => fun _ => False
  | n + 1, x3 => fun S => wb_X4_line_66 Q (fun x3 S => wl_X4_line_66 Q n x3 S) x3 S
theorem bl_X4_line_66 {p : Program} {l : Launch} {e : Env} {s : State} {m : MethodId} {args : Array Value} {below : List Frame} {meth : Method} {c : Code} {Z : State → Prop} {D : va_G} {cA : Nat → ClassId} {h : Nat → Nat} {Q : Int32 → sT → Prop} (C0 : cx p s m args c cX4_line 4 RX4 D cA true keysC h) (hret : rtI p l e rm_X4_line s m args below meth c cX4_line Z D (wC h cA) (aK keysC h s.heap.size) Q) : ∀ (n : Nat) (x3 : Int32) (S : sT) (H : Heap) (locs : List Loc) (ls : Array Slot), va_P D vwCl (wC h cA S) H → va_S (aK keysC h s.heap.size) s.heap H locs → wl_X4_line_66 Q n x3 S → lv_has ls 4 [(0, .ref (h 1000)), (3, .int x3)] → W p l e rm_X4_line s m args below meth c H locs 0 0 Z (F0 m 66 ls []) := by
  intro n
  induction n with
  | zero => intro x3 S H locs ls hP hS hd hl; exact (show False from hd).elim
  | succ n ih => intro x3 S H locs ls hP hS hd hl; exact bk_X4_line_66 C0 hret (fun x3 S H locs ls hd hP hS hl => ih x3 S H locs ls hP hS hd hl) hP hS hd hl
def wp_X4_line (x1 : Int32) (S : sT) (Q : Int32 → sT → Prop) : Prop :=
  wp_X4_refusalOfShelf 1 x1 S (fun r_1 S_1 => ((r_1 = 0 → (vp_in x1 4) ∧ (vp_in x1 4) ∧ wp_X2_readInto 1 (310 + x1.toNatClampNeg) (vA S_1 201 x1.toNatClampNeg) S_1 (fun r_4 S_4 => ((r_4 = (-9 : Int32) → wp_X1_become 0 1 S_4 (fun S_5 => ∃ n : Nat, wl_X4_line_66 Q n (0 : Int32) S_5)) ∧ (¬ r_4 = (-9 : Int32) → Q (-4 : Int32) S_4)))) ∧ (¬ r_1 = 0 → Q r_1 S_1)))
set_option maxHeartbeats 4000000 in
set_option maxRecDepth 100000 in
theorem bk_X4_line {p : Program} {l : Launch} {e : Env} {s : State} {m : MethodId} {args : Array Value} {below : List Frame} {meth : Method} {c : Code} {Z : State → Prop} {D : va_G} {cA : Nat → ClassId} {h : Nat → Nat} {Q : Int32 → sT → Prop} (C0 : cx p s m args c cX4_line 4 RX4 D cA true keysC h) (hret : rtI p l e rm_X4_line s m args below meth c cX4_line Z D (wC h cA) (aK keysC h s.heap.size) Q) {x1 : Int32} {S : sT} {H : Heap} {locs : List Loc} {ls : Array Slot} (hP : va_P D vwCl (wC h cA S) H) (hS : va_S (aK keysC h s.heap.size) s.heap H locs) (hd : wp_X4_line x1 S Q) (hl : lv_has ls 4 [(0, .ref (h 1000)), (1, .int x1)]) : W p l e rm_X4_line s m args below meth c H locs 0 0 Z (F0 m 0 ls []) := by
  obtain ⟨⟨hx, hb, hml, hown, hts⟩, hK, -, -⟩ := id C0
  unfold wp_X4_line at hd
  refine lv_aload_n hx hb dX4_line_0 rfl (lv_at hl 0 rfl) ?_
  refine lv_aload_n hx hb dX4_line_1 rfl (lv_at hl 0 rfl) ?_
  refine gf_X4_18 C0 hP dX4_line_2 ?_
  refine lv_iload_n hx hb dX4_line_5 rfl (lv_at hl 1 rfl) ?_
  refine cl_Vi (n := 2) (rest := []) C0 hP hS (c_X4_refusalOfShelf l C0.2.2.1 (by decide) _ hd) (lwG_V lm_X4_101 li_X4_refusalOfShelf lx_X4_refusalOfShelf lz_RX4 lc_X4_refusalOfShelf) (by decide +kernel) (oD_at h cA _) rfl rfl rfl (Nat.le_of_ble_eq_true rfl) ⟨rfl, rfl⟩ ⟨by decide, by decide⟩ dX4_line_6 hl.1 ⟨Nat.zero_le _, Nat.zero_le _⟩ (fun r_1 S_1 H locs hd hP hS => ?_)
  refine lv_istore_n (lv' := [(2, .int r_1), (0, .ref (h 1000)), (1, .int x1)]) hx hb dX4_line_9 rfl hl (by decide) rfl (fun ls hl => ?_)
  refine lv_iload_n hx hb dX4_line_10 rfl (lv_at hl 0 rfl) ?_
  refine lv_if_eq (tgt := 16) hx hb dX4_line_11 (by decide) (fun hc => ?_) (fun hc => ?_)
  · have hd := hd.1 hc
    refine lv_aload_n hx hb dX4_line_16 rfl (lv_at hl 1 rfl) ?_
    refine gf_X4_42 C0 hP dX4_line_17 ?_
    refine lv_aload_n hx hb dX4_line_20 rfl (lv_at hl 1 rfl) ?_
    refine gf_X4_28 C0 hP dX4_line_21 ?_
    refine lv_aload_n hx hb dX4_line_24 rfl (lv_at hl 1 rfl) ?_
    refine gf_X4_18 C0 hP dX4_line_25 ?_
    refine gf_X4_94_1 C0 hP dX4_line_28 ?_
    refine lv_iload_n hx hb dX4_line_31 rfl (lv_at hl 2 rfl) ?_
    obtain ⟨h_2, hd⟩ := hd
    refine ao_1011 C0 hP h_2 dX4_line_32 ?_
    refine lv_aload_n hx hb dX4_line_33 rfl (lv_at hl 1 rfl) ?_
    refine gf_X4_18 C0 hP dX4_line_34 ?_
    refine gf_X4_105_1 C0 hP dX4_line_37 ?_
    refine lv_iload_n hx hb dX4_line_40 rfl (lv_at hl 2 rfl) ?_
    obtain ⟨h_3, hd⟩ := hd
    refine ldC (by decide) C0 hP h_3 dX4_line_41 ?_
    refine cl_VNi (n := 3) (rest := []) C0 hP hS (c_X2_readInto l C0.2.2.1 (by decide) (kRow1 _ (vp_lt h_2)) _ hd) (lwG_C lc_X2_readInto) (by decide +kernel : (RX4, 121, yX2_readInto, "DreamTrain") ∈ nestM) lz_RX2 li_X2_readInto lx_X2_readInto (by decide +kernel) (oE_at h cA _) rfl rfl rfl (Nat.le_of_ble_eq_true rfl) ⟨rfl, rfl⟩ ⟨by decide, by decide⟩ dX4_line_42 hl.1 ⟨Nat.zero_le _, Nat.zero_le _⟩ (fun r_4 S_4 H locs hd hP hS => ?_)
    refine lv_bipush (v := (-9)) hx hb dX4_line_45 (by decide) ?_
    refine lv_icmp_eq (tgt := 53) hx hb dX4_line_47 (by decide) (fun hc => ?_) (fun hc => ?_)
    · have hd := hd.1 hc
      refine lv_aload_n hx hb dX4_line_53 rfl (lv_at hl 1 rfl) ?_
      refine gf_X4_24 C0 hP dX4_line_54 ?_
      refine lv_aload_n hx hb dX4_line_57 rfl (lv_at hl 1 rfl) ?_
      refine gf_X4_28 C0 hP dX4_line_58 ?_
      refine cl_VNv (n := 1) (rest := []) C0 hP hS (c_X1_become l C0.2.2.1 (by decide) (by decide) _ hd) (lwG_C lc_X1_become) (by decide +kernel : (RX4, 125, yX1_become, "DreamTrain") ∈ nestM) lz_RX1 li_X1_become lx_X1_become (by decide +kernel) (oL_at h cA _ 0 (by decide)) rfl rfl rfl (Nat.le_of_ble_eq_true rfl) ⟨rfl, rfl⟩ ⟨by decide, by decide⟩ dX4_line_61 hl.1 ⟨Nat.zero_le _, Nat.zero_le _⟩ (fun S_5 H locs hd hP hS => ?_)
      refine lv_iconst (v := 0) hx hb dX4_line_64 (by decide) ?_
      refine lv_istore_n (lv' := [(3, .int (0 : Int32)), (2, .int r_1), (0, .ref (h 1000)), (1, .int x1)]) hx hb dX4_line_65 rfl hl (by decide) rfl (fun ls hl => ?_)
      obtain ⟨n_6, hd⟩ := hd
      exact bl_X4_line_66 C0 hret _ _ _ _ _ _ hP hS hd (lv_sub hl [2, 0] rfl)
    · have hd := hd.2 hc
      refine lv_bipush (v := (-4)) hx hb dX4_line_50 (by decide) ?_
      exact hret _ _ _ _ _ _ hd hP hS dX4_line_52
  · have hd := hd.2 hc
    refine lv_iload_n hx hb dX4_line_14 rfl (lv_at hl 0 rfl) ?_
    exact hret _ _ _ _ _ _ hd hP hS dX4_line_15
theorem c_X4_line (l : Launch) {D : va_G} {cA : Nat → ClassId} {h : Nat → Nat} (hk : ky keysC h) {x1 : Int32} {S : sT} (sz : Nat) {Q : Int32 → sT → Prop} (hd : wp_X4_line x1 S Q) : Met l yX4_line (wsU yX4_line cX4_line 4 (some .int)) rm_X4_line (va_Pc [.ref (h 1000), .int x1] (gP D cA true keysC h (wC h cA) S sz)) (va_Qi Q (wB D (wC h cA)) (aK keysC h sz)) 0 0 (aK keysC h sz) :=
  mk_i (by decide) hk (Nat.le_of_ble_eq_true rfl) (fun p e s m below meth c Z ls C0 hret hP hS hl => bk_X4_line C0 hret hP hS hd hl)
abbrev rm_X4_look : Room := { frames := 3, cells := 0, slots := 0, locals := 73 }
def wb_X4_look_142 (Q : Int32 → sT → Prop) (K115 : Int32 → Int32 → Int32 → sT → Prop) (x2 : Int32) (x3 : Int32) (x4 : Int32) (S : sT) : Prop :=
  K115 x2 x3 (x4 + (1 : Int32)) S
set_option maxHeartbeats 4000000 in
set_option maxRecDepth 100000 in
theorem bk_X4_look_142 {p : Program} {l : Launch} {e : Env} {s : State} {m : MethodId} {args : Array Value} {below : List Frame} {meth : Method} {c : Code} {Z : State → Prop} {D : va_G} {cA : Nat → ClassId} {h : Nat → Nat} {Q : Int32 → sT → Prop} (C0 : cx p s m args c cX4_look 6 RX4 D cA true keysC h) (hret : rtI p l e rm_X4_look s m args below meth c cX4_look Z D (wC h cA) (aK keysC h s.heap.size) Q) {K115 : Int32 → Int32 → Int32 → sT → Prop} (k115 : ∀ (x2 : Int32) (x3 : Int32) (x4 : Int32) (S : sT) (H : Heap) (locs : List Loc) (ls : Array Slot), K115 x2 x3 x4 S → va_P D vwCl (wC h cA S) H → va_S (aK keysC h s.heap.size) s.heap H locs → lv_has ls 6 [(0, .ref (h 1000)), (2, .int x2), (3, .int x3), (4, .int x4)] → W p l e rm_X4_look s m args below meth c H locs 0 0 Z (F0 m 115 ls [])) {x2 : Int32} {x3 : Int32} {x4 : Int32} {S : sT} {H : Heap} {locs : List Loc} {ls : Array Slot} (hP : va_P D vwCl (wC h cA S) H) (hS : va_S (aK keysC h s.heap.size) s.heap H locs) (hd : wb_X4_look_142 Q K115 x2 x3 x4 S) (hl : lv_has ls 6 [(0, .ref (h 1000)), (2, .int x2), (3, .int x3), (4, .int x4)]) : W p l e rm_X4_look s m args below meth c H locs 0 0 Z (F0 m 142 ls []) := by
  obtain ⟨⟨hx, hb, hml, hown, hts⟩, hK, -, -⟩ := id C0
  unfold wb_X4_look_142 at hd
  refine lv_iinc (v := x4 + (1 : Int32)) (lv' := [(4, .int (x4 + (1 : Int32))), (0, .ref (h 1000)), (2, .int x2), (3, .int x3)]) hx hb dX4_look_142 hl (k := 3) rfl rfl (by decide) rfl (fun ls hl => ?_)
  refine lv_goto (tgt := 115) hx hb dX4_look_145 (by decide) ?_
  exact k115 _ _ _ _ _ _ _ hd hP hS (lv_sub hl [1, 2, 3, 0] rfl)
def wb_X4_look_115 (Q : Int32 → sT → Prop) (K115 : Int32 → Int32 → Int32 → sT → Prop) (x2 : Int32) (x3 : Int32) (x4 : Int32) (S : sT) : Prop :=
  (((20 : Int32) < x4 → Q x2 (uI S 13 x3)) ∧ (¬ (20 : Int32) < x4 → wp_X4_greatestPart x4 S (fun r_1 S_1 => ((x3 ≤ r_1 → wb_X4_look_142 Q K115 x2 x3 x4 S_1) ∧ (¬ x3 ≤ r_1 → wb_X4_look_142 Q K115 x4 r_1 x4 S_1)))))
set_option maxHeartbeats 4000000 in
set_option maxRecDepth 100000 in
theorem bk_X4_look_115 {p : Program} {l : Launch} {e : Env} {s : State} {m : MethodId} {args : Array Value} {below : List Frame} {meth : Method} {c : Code} {Z : State → Prop} {D : va_G} {cA : Nat → ClassId} {h : Nat → Nat} {Q : Int32 → sT → Prop} (C0 : cx p s m args c cX4_look 6 RX4 D cA true keysC h) (hret : rtI p l e rm_X4_look s m args below meth c cX4_look Z D (wC h cA) (aK keysC h s.heap.size) Q) {K115 : Int32 → Int32 → Int32 → sT → Prop} (k115 : ∀ (x2 : Int32) (x3 : Int32) (x4 : Int32) (S : sT) (H : Heap) (locs : List Loc) (ls : Array Slot), K115 x2 x3 x4 S → va_P D vwCl (wC h cA S) H → va_S (aK keysC h s.heap.size) s.heap H locs → lv_has ls 6 [(0, .ref (h 1000)), (2, .int x2), (3, .int x3), (4, .int x4)] → W p l e rm_X4_look s m args below meth c H locs 0 0 Z (F0 m 115 ls [])) {x2 : Int32} {x3 : Int32} {x4 : Int32} {S : sT} {H : Heap} {locs : List Loc} {ls : Array Slot} (hP : va_P D vwCl (wC h cA S) H) (hS : va_S (aK keysC h s.heap.size) s.heap H locs) (hd : wb_X4_look_115 Q K115 x2 x3 x4 S) (hl : lv_has ls 6 [(0, .ref (h 1000)), (2, .int x2), (3, .int x3), (4, .int x4)]) : W p l e rm_X4_look s m args below meth c H locs 0 0 Z (F0 m 115 ls []) := by
  obtain ⟨⟨hx, hb, hml, hown, hts⟩, hK, -, -⟩ := id C0
  unfold wb_X4_look_115 at hd
  refine lv_iload hx hb dX4_look_115 (lv_at hl 3 rfl) ?_
  refine lv_bipush (v := 20) hx hb dX4_look_117 (by decide) ?_
  refine lv_icmp_gt (tgt := 148) hx hb dX4_look_119 (by decide) (fun hc => ?_) (fun hc => ?_)
  · have hd := hd.1 hc
    refine lv_aload_n hx hb dX4_look_148 rfl (lv_at hl 0 rfl) ?_
    refine lv_iload_n hx hb dX4_look_149 rfl (lv_at hl 2 rfl) ?_
    refine pf_X4_97 C0 hP hS dX4_look_150 (fun H locs hP hS => ?_)
    refine lv_iload_n hx hb dX4_look_153 rfl (lv_at hl 1 rfl) ?_
    exact hret _ _ _ _ _ _ hd hP hS dX4_look_154
  · have hd := hd.2 hc
    refine lv_aload_n hx hb dX4_look_122 rfl (lv_at hl 0 rfl) ?_
    refine lv_iload hx hb dX4_look_123 (lv_at hl 3 rfl) ?_
    refine cl_Vi (n := 1) (rest := []) C0 hP hS (c_X4_greatestPart l C0.2.2.1 _ hd) (lwG_V lm_X4_261 li_X4_greatestPart lx_X4_greatestPart lz_RX4 lc_X4_greatestPart) (by decide +kernel) (oD_at h cA _) rfl rfl rfl (Nat.le_of_ble_eq_true rfl) ⟨rfl, rfl⟩ ⟨by decide, by decide⟩ dX4_look_125 hl.1 ⟨Nat.zero_le _, Nat.zero_le _⟩ (fun r_1 S_1 H locs hd hP hS => ?_)
    refine lv_istore (lv' := [(5, .int r_1), (0, .ref (h 1000)), (2, .int x2), (3, .int x3), (4, .int x4)]) hx hb dX4_look_128 hl (by decide) rfl (fun ls hl => ?_)
    refine lv_iload hx hb dX4_look_130 (lv_at hl 0 rfl) ?_
    refine lv_iload_n hx hb dX4_look_132 rfl (lv_at hl 3 rfl) ?_
    refine lv_icmp_ge (tgt := 142) hx hb dX4_look_133 (by decide) (fun hc => ?_) (fun hc => ?_)
    · have hd := hd.1 hc
      exact bk_X4_look_142 C0 hret k115 hP hS hd (lv_sub hl [1, 2, 3, 4] rfl)
    · have hd := hd.2 hc
      refine lv_iload hx hb dX4_look_136 (lv_at hl 0 rfl) ?_
      refine lv_istore_n (lv' := [(3, .int r_1), (5, .int r_1), (0, .ref (h 1000)), (2, .int x2), (4, .int x4)]) hx hb dX4_look_138 rfl hl (by decide) rfl (fun ls hl => ?_)
      refine lv_iload hx hb dX4_look_139 (lv_at hl 4 rfl) ?_
      refine lv_istore_n (lv' := [(2, .int x4), (3, .int r_1), (5, .int r_1), (0, .ref (h 1000)), (4, .int x4)]) hx hb dX4_look_141 rfl hl (by decide) rfl (fun ls hl => ?_)
      exact bk_X4_look_142 C0 hret k115 hP hS hd (lv_sub hl [3, 0, 1, 4] rfl)
def wl_X4_look_115 (Q : Int32 → sT → Prop) : Nat → Int32 → Int32 → Int32 → sT → Prop
  | 0, _, _, _ => fun _ => False
  | n + 1, x2, x3, x4 => fun S => wb_X4_look_115 Q (fun x2 x3 x4 S => wl_X4_look_115 Q n x2 x3 x4 S) x2 x3 x4 S
theorem bl_X4_look_115 {p : Program} {l : Launch} {e : Env} {s : State} {m : MethodId} {args : Array Value} {below : List Frame} {meth : Method} {c : Code} {Z : State → Prop} {D : va_G} {cA : Nat → ClassId} {h : Nat → Nat} {Q : Int32 → sT → Prop} (C0 : cx p s m args c cX4_look 6 RX4 D cA true keysC h) (hret : rtI p l e rm_X4_look s m args below meth c cX4_look Z D (wC h cA) (aK keysC h s.heap.size) Q) : ∀ (n : Nat) (x2 : Int32) (x3 : Int32) (x4 : Int32) (S : sT) (H : Heap) (locs : List Loc) (ls : Array Slot), va_P D vwCl (wC h cA S) H → va_S (aK keysC h s.heap.size) s.heap H locs → wl_X4_look_115 Q n x2 x3 x4 S → lv_has ls 6 [(0, .ref (h 1000)), (2, .int x2), (3, .int x3), (4, .int x4)] → W p l e rm_X4_look s m args below meth c H locs 0 0 Z (F0 m 115 ls []) := by
  intro n
  induction n with
  | zero => intro x2 x3 x4 S H locs ls hP hS hd hl; exact (show False from hd).elim
  | succ n ih => intro x2 x3 x4 S H locs ls hP hS hd hl; exact bk_X4_look_115 C0 hret (fun x2 x3 x4 S H locs ls hd hP hS hl => ih x2 x3 x4 S H locs ls hP hS hd hl) hP hS hd hl
def wb_X4_look_29 (Q : Int32 → sT → Prop) (K29 : Int32 → Int32 → sT → Prop) (x1 : Int32) (x2 : Int32) (S : sT) : Prop :=
  (((6 : Int32) ≤ x2 → ∃ n : Nat, wl_X4_look_115 Q n (1 : Int32) (7 : Int32) (1 : Int32) S) ∧ (¬ (6 : Int32) ≤ x2 → (vp_in x1 6) ∧ wp_X4_dreamBitsFrom x2 (vA S 22 x1.toNatClampNeg) (vI S 30) S (fun r_3 S_3 => (vp_in x1 6) ∧ wp_X0_ride (20 : Int32) (vI (uB S_3 110 (vp_updL (vB S_3 110) x1.toNatClampNeg r_3)) 29) (uB S_3 110 (vp_updL (vB S_3 110) x1.toNatClampNeg r_3)) (fun r_5 S_5 => (vp_in x2 6) ∧ (¬ (0 : Int32) < 0) ∧ (¬ (0 : Int32) < 0) ∧ (¬ (21 : Int32) < 0) ∧ ((0 : Int32).toNatClampNeg + (21 : Int32).toNatClampNeg ≤ 61) ∧ ((0 : Int32).toNatClampNeg + (21 : Int32).toNatClampNeg ≤ 21) ∧ ∀ S_13 : sT, S_13 = uA S_5 (320 + x2.toNatClampNeg) (va_cpy (vA S_5 113) (vA S_5 (320 + x2.toNatClampNeg)) (0 : Int32).toNatClampNeg (0 : Int32).toNatClampNeg (21 : Int32).toNatClampNeg) → K29 x1 (x2 + (1 : Int32)) S_13))))
set_option maxHeartbeats 4000000 in
set_option maxRecDepth 100000 in
theorem bk_X4_look_29 {p : Program} {l : Launch} {e : Env} {s : State} {m : MethodId} {args : Array Value} {below : List Frame} {meth : Method} {c : Code} {Z : State → Prop} {D : va_G} {cA : Nat → ClassId} {h : Nat → Nat} {Q : Int32 → sT → Prop} (C0 : cx p s m args c cX4_look 6 RX4 D cA true keysC h) (hret : rtI p l e rm_X4_look s m args below meth c cX4_look Z D (wC h cA) (aK keysC h s.heap.size) Q) {K29 : Int32 → Int32 → sT → Prop} (k29 : ∀ (x1 : Int32) (x2 : Int32) (S : sT) (H : Heap) (locs : List Loc) (ls : Array Slot), K29 x1 x2 S → va_P D vwCl (wC h cA S) H → va_S (aK keysC h s.heap.size) s.heap H locs → lv_has ls 6 [(0, .ref (h 1000)), (1, .int x1), (2, .int x2)] → W p l e rm_X4_look s m args below meth c H locs 0 0 Z (F0 m 29 ls [])) {x1 : Int32} {x2 : Int32} {S : sT} {H : Heap} {locs : List Loc} {ls : Array Slot} (hP : va_P D vwCl (wC h cA S) H) (hS : va_S (aK keysC h s.heap.size) s.heap H locs) (hd : wb_X4_look_29 Q K29 x1 x2 S) (hl : lv_has ls 6 [(0, .ref (h 1000)), (1, .int x1), (2, .int x2)]) : W p l e rm_X4_look s m args below meth c H locs 0 0 Z (F0 m 29 ls []) := by
  obtain ⟨⟨hx, hb, hml, hown, hts⟩, hK, -, -⟩ := id C0
  unfold wb_X4_look_29 at hd
  refine lv_iload_n hx hb dX4_look_29 rfl (lv_at hl 2 rfl) ?_
  refine lv_bipush (v := 6) hx hb dX4_look_30 (by decide) ?_
  refine lv_icmp_ge (tgt := 107) hx hb dX4_look_32 (by decide) (fun hc => ?_) (fun hc => ?_)
  · have hd := hd.1 hc
    refine lv_iconst (v := 1) hx hb dX4_look_107 (by decide) ?_
    refine lv_istore_n (lv' := [(2, .int (1 : Int32)), (0, .ref (h 1000)), (1, .int x1)]) hx hb dX4_look_108 rfl hl (by decide) rfl (fun ls hl => ?_)
    refine lv_bipush (v := 7) hx hb dX4_look_109 (by decide) ?_
    refine lv_istore_n (lv' := [(3, .int (7 : Int32)), (2, .int (1 : Int32)), (0, .ref (h 1000)), (1, .int x1)]) hx hb dX4_look_111 rfl hl (by decide) rfl (fun ls hl => ?_)
    refine lv_iconst (v := 1) hx hb dX4_look_112 (by decide) ?_
    refine lv_istore (lv' := [(4, .int (1 : Int32)), (3, .int (7 : Int32)), (2, .int (1 : Int32)), (0, .ref (h 1000)), (1, .int x1)]) hx hb dX4_look_113 hl (by decide) rfl (fun ls hl => ?_)
    obtain ⟨n_1, hd⟩ := hd
    exact bl_X4_look_115 C0 hret _ _ _ _ _ _ _ _ hP hS hd (lv_sub hl [3, 2, 1, 0] rfl)
  · have hd := hd.2 hc
    refine lv_aload_n hx hb dX4_look_35 rfl (lv_at hl 0 rfl) ?_
    refine gf_X4_49 C0 hP dX4_look_36 ?_
    refine gf_X4_254 C0 hP dX4_look_39 ?_
    refine lv_iload_n hx hb dX4_look_42 rfl (lv_at hl 1 rfl) ?_
    refine lv_iload_n hx hb dX4_look_43 rfl (lv_at hl 2 rfl) ?_
    refine lv_aload_n hx hb dX4_look_44 rfl (lv_at hl 0 rfl) ?_
    refine gf_X4_24 C0 hP dX4_look_45 ?_
    refine gf_X4_146_0 C0 hP dX4_look_48 ?_
    refine lv_iload_n hx hb dX4_look_51 rfl (lv_at hl 1 rfl) ?_
    obtain ⟨h_2, hd⟩ := hd
    refine ldC (by decide) C0 hP h_2 dX4_look_52 ?_
    refine lv_aload_n hx hb dX4_look_53 rfl (lv_at hl 0 rfl) ?_
    refine gf_X4_24 C0 hP dX4_look_54 ?_
    refine gf_X4_162_0 C0 hP dX4_look_57 ?_
    refine cl_Sl (n := 3) (rest := [.int x1, .ref (h 110)]) C0 hP hS (c_X4_dreamBitsFrom l C0.2.2.1 _ hd) (lwG_S lm_X4_257 ls_X4_dreamBitsFrom lz_RX4 lc_X4_dreamBitsFrom) (by decide +kernel) rfl rfl (Nat.le_of_ble_eq_true rfl) ⟨rfl, rfl⟩ ⟨by decide, by decide⟩ dX4_look_60 hl.1 ⟨Nat.zero_le _, Nat.zero_le _⟩ (fun r_3 S_3 H locs hd hP hS => ?_)
    obtain ⟨h_4, hd⟩ := hd
    refine stL (by decide) C0 hP hS h_4 dX4_look_63 (fun H locs hP hS => ?_)
    refine lv_aload_n hx hb dX4_look_64 rfl (lv_at hl 0 rfl) ?_
    refine gf_X4_49 C0 hP dX4_look_65 ?_
    refine lv_bipush (v := 20) hx hb dX4_look_68 (by decide) ?_
    refine lv_aload_n hx hb dX4_look_70 rfl (lv_at hl 0 rfl) ?_
    refine gf_X4_24 C0 hP dX4_look_71 ?_
    refine gf_X4_196_0 C0 hP dX4_look_74 ?_
    refine cl_VNi (n := 2) (rest := []) C0 hP hS (c_X0_ride l C0.2.2.1 _ hd) (lwG_C lc_X0_ride) (by decide +kernel : (RX4, 199, yX0_ride, "DreamTrain") ∈ nestM) lz_RX0 li_X0_ride lx_X0_ride (by decide +kernel) (oJ_at h cA _) rfl rfl rfl (Nat.le_of_ble_eq_true rfl) ⟨rfl, rfl⟩ ⟨by decide, by decide⟩ dX4_look_77 hl.1 ⟨Nat.zero_le _, Nat.zero_le _⟩ (fun r_5 S_5 H locs hd hP hS => ?_)
    refine lv_pop hx hb dX4_look_80 rfl ?_
    refine lv_aload_n hx hb dX4_look_81 rfl (lv_at hl 0 rfl) ?_
    refine gf_X4_49 C0 hP dX4_look_82 ?_
    refine gf_X4_202 C0 hP dX4_look_85 ?_
    refine lv_iconst (v := 0) hx hb dX4_look_88 (by decide) ?_
    refine lv_aload_n hx hb dX4_look_89 rfl (lv_at hl 0 rfl) ?_
    refine gf_X4_60 C0 hP dX4_look_90 ?_
    refine lv_iload_n hx hb dX4_look_93 rfl (lv_at hl 2 rfl) ?_
    obtain ⟨h_6, hd⟩ := hd
    refine ao_1013 C0 hP h_6 dX4_look_94 ?_
    refine lv_iconst (v := 0) hx hb dX4_look_95 (by decide) ?_
    refine lv_bipush (v := 21) hx hb dX4_look_96 (by decide) ?_
    obtain ⟨h_7, hd⟩ := hd
    obtain ⟨h_8, hd⟩ := hd
    obtain ⟨h_9, hd⟩ := hd
    obtain ⟨h_10, hd⟩ := hd
    obtain ⟨h_11, hd⟩ := hd
    obtain ⟨qa12, hqa12, -⟩ := iC_at (k := 113) h cA S_5 (by decide)
    obtain ⟨qb12, hqb12, hsb12⟩ := iC_at (k := 320 + x2.toNatClampNeg) h cA S_5 (kTrk _ (vp_lt h_6))
    refine va_copyi hx hb (by rw [hml]; exact hl.1.symm) hown (hts _ lm_X4_115) (hts _ ln_ac) (hts _ ls_ac) (hts _ lz_RJ10) hK.1 hP (wD (wC_fst h cA _) C0.2.2.1 _) hS qa12 qb12 0 0 hqa12 hqb12 rfl rfl rfl h_7 h_8 h_9 h_10 (by rw [lTrk _ (vp_lt h_6)]; exact h_11) (fun _ _ => rfl) (by decide) (by decide) dX4_look_98 (fun H locs hP _ hS => ?_)
    rw [hsb12] at hP
    obtain ⟨S_13, eS_13⟩ : ∃ x : sT, x = uA S_5 (320 + x2.toNatClampNeg) (va_cpy (vA S_5 113) (vA S_5 (320 + x2.toNatClampNeg)) (0 : Int32).toNatClampNeg (0 : Int32).toNatClampNeg (21 : Int32).toNatClampNeg) := ⟨_, rfl⟩
    rw [← eS_13] at hP
    have hd := hd S_13 eS_13
    refine lv_iinc (v := x2 + (1 : Int32)) (lv' := [(2, .int (x2 + (1 : Int32))), (0, .ref (h 1000)), (1, .int x1)]) hx hb dX4_look_101 hl (k := 2) rfl rfl (by decide) rfl (fun ls hl => ?_)
    refine lv_goto (tgt := 29) hx hb dX4_look_104 (by decide) ?_
    exact k29 _ _ _ _ _ _ hd hP hS (lv_sub hl [1, 2, 0] rfl)
def wl_X4_look_29 (Q : Int32 → sT → Prop) : Nat → Int32 → Int32 → sT → Prop
  | 0, _, _ => fun _ => False
  | n + 1, x1, x2 => fun S => wb_X4_look_29 Q (fun x1 x2 S => wl_X4_look_29 Q n x1 x2 S) x1 x2 S
theorem bl_X4_look_29 {p : Program} {l : Launch} {e : Env} {s : State} {m : MethodId} {args : Array Value} {below : List Frame} {meth : Method} {c : Code} {Z : State → Prop} {D : va_G} {cA : Nat → ClassId} {h : Nat → Nat} {Q : Int32 → sT → Prop} (C0 : cx p s m args c cX4_look 6 RX4 D cA true keysC h) (hret : rtI p l e rm_X4_look s m args below meth c cX4_look Z D (wC h cA) (aK keysC h s.heap.size) Q) : ∀ (n : Nat) (x1 : Int32) (x2 : Int32) (S : sT) (H : Heap) (locs : List Loc) (ls : Array Slot), va_P D vwCl (wC h cA S) H → va_S (aK keysC h s.heap.size) s.heap H locs → wl_X4_look_29 Q n x1 x2 S → lv_has ls 6 [(0, .ref (h 1000)), (1, .int x1), (2, .int x2)] → W p l e rm_X4_look s m args below meth c H locs 0 0 Z (F0 m 29 ls []) := by
  intro n
  induction n with
  | zero => intro x1 x2 S H locs ls hP hS hd hl; exact (show False from hd).elim
  | succ n ih => intro x1 x2 S H locs ls hP hS hd hl; exact bk_X4_look_29 C0 hret (fun x1 x2 S H locs ls hd hP hS hl => ih x1 x2 S H locs ls hP hS hd hl) hP hS hd hl
def wp_X4_look (x1 : Int32) (S : sT) (Q : Int32 → sT → Prop) : Prop :=
  wp_X4_isBelow x1 (vI S 26) S (fun r_1 S_1 => ((¬ r_1 = 0 → wp_X0_setOut 0 S_1 (fun S_2 => ∃ n : Nat, wl_X4_look_29 Q n x1 (0 : Int32) S_2)) ∧ (r_1 = 0 → Q (-1 : Int32) S_1)))
set_option maxHeartbeats 4000000 in
set_option maxRecDepth 100000 in
theorem bk_X4_look {p : Program} {l : Launch} {e : Env} {s : State} {m : MethodId} {args : Array Value} {below : List Frame} {meth : Method} {c : Code} {Z : State → Prop} {D : va_G} {cA : Nat → ClassId} {h : Nat → Nat} {Q : Int32 → sT → Prop} (C0 : cx p s m args c cX4_look 6 RX4 D cA true keysC h) (hret : rtI p l e rm_X4_look s m args below meth c cX4_look Z D (wC h cA) (aK keysC h s.heap.size) Q) {x1 : Int32} {S : sT} {H : Heap} {locs : List Loc} {ls : Array Slot} (hP : va_P D vwCl (wC h cA S) H) (hS : va_S (aK keysC h s.heap.size) s.heap H locs) (hd : wp_X4_look x1 S Q) (hl : lv_has ls 6 [(0, .ref (h 1000)), (1, .int x1)]) : W p l e rm_X4_look s m args below meth c H locs 0 0 Z (F0 m 0 ls []) := by
  obtain ⟨⟨hx, hb, hml, hown, hts⟩, hK, -, -⟩ := id C0
  unfold wp_X4_look at hd
  refine lv_iload_n hx hb dX4_look_0 rfl (lv_at hl 1 rfl) ?_
  refine lv_aload_n hx hb dX4_look_1 rfl (lv_at hl 0 rfl) ?_
  refine gf_X4_24 C0 hP dX4_look_2 ?_
  refine gf_X4_129_0 C0 hP dX4_look_5 ?_
  refine cl_Si (n := 2) (rest := []) C0 hP hS (c_X4_isBelow l C0.2.2.1 _ hd) (lwG_S lm_X4_132 ls_X4_isBelow lz_RX4 lc_X4_isBelow) (by decide +kernel) rfl rfl (Nat.le_of_ble_eq_true rfl) ⟨rfl, rfl⟩ ⟨by decide, by decide⟩ dX4_look_8 hl.1 ⟨Nat.zero_le _, Nat.zero_le _⟩ (fun r_1 S_1 H locs hd hP hS => ?_)
  refine lv_if_ne (tgt := 16) hx hb dX4_look_11 (by decide) (fun hc => ?_) (fun hc => ?_)
  · have hd := hd.1 hc
    refine lv_aload_n hx hb dX4_look_16 rfl (lv_at hl 0 rfl) ?_
    refine gf_X4_49 C0 hP dX4_look_17 ?_
    refine lv_aload_n hx hb dX4_look_20 rfl (lv_at hl 0 rfl) ?_
    refine gf_X4_24 C0 hP dX4_look_21 ?_
    refine cl_VNv (n := 1) (rest := []) C0 hP hS (c_X0_setOut l C0.2.2.1 (by decide) _ hd) (lwG_C lc_X0_setOut) (by decide +kernel : (RX4, 193, yX0_setOut, "DreamTrain") ∈ nestM) lz_RX0 li_X0_setOut lx_X0_setOut (by decide +kernel) (oJ_at h cA _) rfl rfl rfl (Nat.le_of_ble_eq_true rfl) ⟨rfl, rfl⟩ ⟨by decide, by decide⟩ dX4_look_24 hl.1 ⟨Nat.zero_le _, Nat.zero_le _⟩ (fun S_2 H locs hd hP hS => ?_)
    refine lv_iconst (v := 0) hx hb dX4_look_27 (by decide) ?_
    refine lv_istore_n (lv' := [(2, .int (0 : Int32)), (0, .ref (h 1000)), (1, .int x1)]) hx hb dX4_look_28 rfl hl (by decide) rfl (fun ls hl => ?_)
    obtain ⟨n_3, hd⟩ := hd
    exact bl_X4_look_29 C0 hret _ _ _ _ _ _ _ hP hS hd (lv_sub hl [1, 2, 0] rfl)
  · have hd := hd.2 hc
    refine lv_iconst (v := (-1)) hx hb dX4_look_14 (by decide) ?_
    exact hret _ _ _ _ _ _ hd hP hS dX4_look_15
theorem c_X4_look (l : Launch) {D : va_G} {cA : Nat → ClassId} {h : Nat → Nat} (hk : ky keysC h) {x1 : Int32} {S : sT} (sz : Nat) {Q : Int32 → sT → Prop} (hd : wp_X4_look x1 S Q) : Met l yX4_look (wsU yX4_look cX4_look 6 (some .int)) rm_X4_look (va_Pc [.ref (h 1000), .int x1] (gP D cA true keysC h (wC h cA) S sz)) (va_Qi Q (wB D (wC h cA)) (aK keysC h sz)) 0 0 (aK keysC h sz) :=
  mk_i (by decide) hk (Nat.le_of_ble_eq_true rfl) (fun p e s m below meth c Z ls C0 hret hP hS hl => bk_X4_look C0 hret hP hS hd hl)
abbrev rm_X4_lots : Room := { frames := 5, cells := 0, slots := 0, locals := 111 }
def wb_X4_lots_58 (Q : Int32 → sT → Prop) (K58 : Int32 → Int64 → Int32 → sT → Prop) (x1 : Int32) (x3 : Int64) (x5 : Int32) (S : sT) : Prop :=
  ((x1 ≤ x5 → Q (vI S 31) S) ∧ (¬ x1 ≤ x5 → ∀ z_1 : Int64, z_1 = ((x3 * (48271 : Int64)) - (x3 * (48271 : Int64)) / (2147483647 : Int64) * (2147483647 : Int64)) → wp_X4_doByLot z_1.toInt32 S (fun S_2 => K58 x1 z_1 (x5 + (1 : Int32)) S_2)))
set_option maxHeartbeats 4000000 in
set_option maxRecDepth 100000 in
theorem bk_X4_lots_58 {p : Program} {l : Launch} {e : Env} {s : State} {m : MethodId} {args : Array Value} {below : List Frame} {meth : Method} {c : Code} {Z : State → Prop} {D : va_G} {cA : Nat → ClassId} {h : Nat → Nat} {Q : Int32 → sT → Prop} (C0 : cx p s m args c cX4_lots 6 RX4 D cA true keysC h) (hret : rtI p l e rm_X4_lots s m args below meth c cX4_lots Z D (wC h cA) (aK keysC h s.heap.size) Q) {K58 : Int32 → Int64 → Int32 → sT → Prop} (k58 : ∀ (x1 : Int32) (x3 : Int64) (x5 : Int32) (S : sT) (H : Heap) (locs : List Loc) (ls : Array Slot), K58 x1 x3 x5 S → va_P D vwCl (wC h cA S) H → va_S (aK keysC h s.heap.size) s.heap H locs → lv_has ls 6 [(0, .ref (h 1000)), (1, .int x1), (3, .long x3), (5, .int x5)] → W p l e rm_X4_lots s m args below meth c H locs 0 0 Z (F0 m 58 ls [])) {x1 : Int32} {x3 : Int64} {x5 : Int32} {S : sT} {H : Heap} {locs : List Loc} {ls : Array Slot} (hP : va_P D vwCl (wC h cA S) H) (hS : va_S (aK keysC h s.heap.size) s.heap H locs) (hd : wb_X4_lots_58 Q K58 x1 x3 x5 S) (hl : lv_has ls 6 [(0, .ref (h 1000)), (1, .int x1), (3, .long x3), (5, .int x5)]) : W p l e rm_X4_lots s m args below meth c H locs 0 0 Z (F0 m 58 ls []) := by
  obtain ⟨⟨hx, hb, hml, hown, hts⟩, hK, -, -⟩ := id C0
  unfold wb_X4_lots_58 at hd
  refine lv_iload hx hb dX4_lots_58 (lv_at hl 3 rfl) ?_
  refine lv_iload_n hx hb dX4_lots_60 rfl (lv_at hl 1 rfl) ?_
  refine lv_icmp_ge (tgt := 86) hx hb dX4_lots_61 (by decide) (fun hc => ?_) (fun hc => ?_)
  · have hd := hd.1 hc
    refine lv_aload_n hx hb dX4_lots_86 rfl (lv_at hl 0 rfl) ?_
    refine gf_X4_24 C0 hP dX4_lots_87 ?_
    refine gf_X4_171_0 C0 hP dX4_lots_90 ?_
    exact hret _ _ _ _ _ _ hd hP hS dX4_lots_93
  · have hd := hd.2 hc
    refine lv_lload_n hx hb dX4_lots_64 rfl (lv_at hl 2 rfl) ?_
    refine lv_ldc2 hx hb hown (hts _ lk_X4_280) dX4_lots_65 ?_
    refine lv_lmul hx hb dX4_lots_68 ?_
    refine lv_ldc2 hx hb hown (hts _ lk_X4_282) dX4_lots_69 ?_
    refine lv_lrem hx hb dX4_lots_72 (by decide) ?_
    refine lv_topl (fun z_1 ez_1 => ?_)
    have hd := hd z_1 ez_1
    refine lv_lstore_n (lv' := [(3, .long z_1), (0, .ref (h 1000)), (1, .int x1), (5, .int x5)]) hx hb dX4_lots_73 rfl hl (by decide) rfl (fun ls hl => ?_)
    refine lv_aload_n hx hb dX4_lots_74 rfl (lv_at hl 1 rfl) ?_
    refine lv_lload_n hx hb dX4_lots_75 rfl (lv_at hl 0 rfl) ?_
    refine lv_l2i hx hb dX4_lots_76 rfl ?_
    refine cl_Vv (n := 1) (rest := []) C0 hP hS (c_X4_doByLot l C0.2.2.1 _ hd) (lwG_V lm_X4_284 li_X4_doByLot lx_X4_doByLot lz_RX4 lc_X4_doByLot) (by decide +kernel) (oD_at h cA _) rfl rfl rfl (Nat.le_of_ble_eq_true rfl) ⟨rfl, rfl⟩ ⟨by decide, by decide⟩ dX4_lots_77 hl.1 ⟨Nat.zero_le _, Nat.zero_le _⟩ (fun S_2 H locs hd hP hS => ?_)
    refine lv_iinc (v := x5 + (1 : Int32)) (lv' := [(5, .int (x5 + (1 : Int32))), (3, .long z_1), (0, .ref (h 1000)), (1, .int x1)]) hx hb dX4_lots_80 hl (k := 3) rfl rfl (by decide) rfl (fun ls hl => ?_)
    refine lv_goto (tgt := 58) hx hb dX4_lots_83 (by decide) ?_
    exact k58 _ _ _ _ _ _ _ hd hP hS (lv_sub hl [2, 3, 1, 0] rfl)
def wl_X4_lots_58 (Q : Int32 → sT → Prop) : Nat → Int32 → Int64 → Int32 → sT → Prop
  | 0, _, _, _ => fun _ => False
  | n + 1, x1, x3, x5 => fun S => wb_X4_lots_58 Q (fun x1 x3 x5 S => wl_X4_lots_58 Q n x1 x3 x5 S) x1 x3 x5 S
theorem bl_X4_lots_58 {p : Program} {l : Launch} {e : Env} {s : State} {m : MethodId} {args : Array Value} {below : List Frame} {meth : Method} {c : Code} {Z : State → Prop} {D : va_G} {cA : Nat → ClassId} {h : Nat → Nat} {Q : Int32 → sT → Prop} (C0 : cx p s m args c cX4_lots 6 RX4 D cA true keysC h) (hret : rtI p l e rm_X4_lots s m args below meth c cX4_lots Z D (wC h cA) (aK keysC h s.heap.size) Q) : ∀ (n : Nat) (x1 : Int32) (x3 : Int64) (x5 : Int32) (S : sT) (H : Heap) (locs : List Loc) (ls : Array Slot), va_P D vwCl (wC h cA S) H → va_S (aK keysC h s.heap.size) s.heap H locs → wl_X4_lots_58 Q n x1 x3 x5 S → lv_has ls 6 [(0, .ref (h 1000)), (1, .int x1), (3, .long x3), (5, .int x5)] → W p l e rm_X4_lots s m args below meth c H locs 0 0 Z (F0 m 58 ls []) := by
  intro n
  induction n with
  | zero => intro x1 x3 x5 S H locs ls hP hS hd hl; exact (show False from hd).elim
  | succ n ih => intro x1 x3 x5 S H locs ls hP hS hd hl; exact bk_X4_lots_58 C0 hret (fun x1 x3 x5 S H locs ls hd hP hS hl => ih x1 x3 x5 S H locs ls hP hS hd hl) hP hS hd hl
def wp_X4_lots (x1 : Int32) (x2 : Int32) (S : sT) (Q : Int32 → sT → Prop) : Prop :=
  ((x1 < (1 : Int32) → Q (-1 : Int32) S) ∧ (¬ x1 < (1 : Int32) → (((20 : Int32) < x1 → Q (-1 : Int32) S) ∧ (¬ (20 : Int32) < x1 → ((x2 < (1 : Int32) → Q (-1 : Int32) S) ∧ (¬ x2 < (1 : Int32) → ((x2 < (2147483647 : Int32) → ((¬ (vI S 26) = 0 → wp_X1_hasRoomFor 0 x1 S (fun r_1 S_1 => ((¬ r_1 = 0 → ∃ n : Nat, wl_X4_lots_58 Q n x1 x2.toInt64 (0 : Int32) S_1) ∧ (r_1 = 0 → Q (-2 : Int32) S_1)))) ∧ ((vI S 26) = 0 → Q (-4 : Int32) S))) ∧ (¬ x2 < (2147483647 : Int32) → Q (-1 : Int32) S))))))))
set_option maxHeartbeats 4000000 in
set_option maxRecDepth 100000 in
theorem bk_X4_lots {p : Program} {l : Launch} {e : Env} {s : State} {m : MethodId} {args : Array Value} {below : List Frame} {meth : Method} {c : Code} {Z : State → Prop} {D : va_G} {cA : Nat → ClassId} {h : Nat → Nat} {Q : Int32 → sT → Prop} (C0 : cx p s m args c cX4_lots 6 RX4 D cA true keysC h) (hret : rtI p l e rm_X4_lots s m args below meth c cX4_lots Z D (wC h cA) (aK keysC h s.heap.size) Q) {x1 : Int32} {x2 : Int32} {S : sT} {H : Heap} {locs : List Loc} {ls : Array Slot} (hP : va_P D vwCl (wC h cA S) H) (hS : va_S (aK keysC h s.heap.size) s.heap H locs) (hd : wp_X4_lots x1 x2 S Q) (hl : lv_has ls 6 [(0, .ref (h 1000)), (1, .int x1), (2, .int x2)]) : W p l e rm_X4_lots s m args below meth c H locs 0 0 Z (F0 m 0 ls []) := by
  obtain ⟨⟨hx, hb, hml, hown, hts⟩, hK, -, -⟩ := id C0
  unfold wp_X4_lots at hd
  refine lv_iload_n hx hb dX4_lots_0 rfl (lv_at hl 1 rfl) ?_
  refine lv_iconst (v := 1) hx hb dX4_lots_1 (by decide) ?_
  refine lv_icmp_lt (tgt := 23) hx hb dX4_lots_2 (by decide) (fun hc => ?_) (fun hc => ?_)
  · have hd := hd.1 hc
    refine lv_iconst (v := (-1)) hx hb dX4_lots_23 (by decide) ?_
    exact hret _ _ _ _ _ _ hd hP hS dX4_lots_24
  · have hd := hd.2 hc
    refine lv_iload_n hx hb dX4_lots_5 rfl (lv_at hl 1 rfl) ?_
    refine lv_bipush (v := 20) hx hb dX4_lots_6 (by decide) ?_
    refine lv_icmp_gt (tgt := 23) hx hb dX4_lots_8 (by decide) (fun hc => ?_) (fun hc => ?_)
    · have hd := hd.1 hc
      refine lv_iconst (v := (-1)) hx hb dX4_lots_23 (by decide) ?_
      exact hret _ _ _ _ _ _ hd hP hS dX4_lots_24
    · have hd := hd.2 hc
      refine lv_iload_n hx hb dX4_lots_11 rfl (lv_at hl 2 rfl) ?_
      refine lv_iconst (v := 1) hx hb dX4_lots_12 (by decide) ?_
      refine lv_icmp_lt (tgt := 23) hx hb dX4_lots_13 (by decide) (fun hc => ?_) (fun hc => ?_)
      · have hd := hd.1 hc
        refine lv_iconst (v := (-1)) hx hb dX4_lots_23 (by decide) ?_
        exact hret _ _ _ _ _ _ hd hP hS dX4_lots_24
      · have hd := hd.2 hc
        refine lv_iload_n hx hb dX4_lots_16 rfl (lv_at hl 2 rfl) ?_
        refine lv_ldcw hx hb hown (hts _ lk_X4_279) dX4_lots_17 ?_
        refine lv_icmp_lt (tgt := 25) hx hb dX4_lots_20 (by decide) (fun hc => ?_) (fun hc => ?_)
        · have hd := hd.1 hc
          refine lv_aload_n hx hb dX4_lots_25 rfl (lv_at hl 0 rfl) ?_
          refine gf_X4_24 C0 hP dX4_lots_26 ?_
          refine gf_X4_129_0 C0 hP dX4_lots_29 ?_
          refine lv_if_ne (tgt := 38) hx hb dX4_lots_32 (by decide) (fun hc => ?_) (fun hc => ?_)
          · have hd := hd.1 hc
            refine lv_aload_n hx hb dX4_lots_38 rfl (lv_at hl 0 rfl) ?_
            refine gf_X4_24 C0 hP dX4_lots_39 ?_
            refine lv_iload_n hx hb dX4_lots_42 rfl (lv_at hl 1 rfl) ?_
            refine cl_VNi (n := 1) (rest := []) C0 hP hS (c_X1_hasRoomFor l C0.2.2.1 (by decide) _ hd) (lwG_C lc_X1_hasRoomFor) (by decide +kernel : (RX4, 165, yX1_hasRoomFor, "DreamTrain") ∈ nestM) lz_RX1 li_X1_hasRoomFor lx_X1_hasRoomFor (by decide +kernel) (oL_at h cA _ 0 (by decide)) rfl rfl rfl (Nat.le_of_ble_eq_true rfl) ⟨rfl, rfl⟩ ⟨by decide, by decide⟩ dX4_lots_43 hl.1 ⟨Nat.zero_le _, Nat.zero_le _⟩ (fun r_1 S_1 H locs hd hP hS => ?_)
            refine lv_if_ne (tgt := 52) hx hb dX4_lots_46 (by decide) (fun hc => ?_) (fun hc => ?_)
            · have hd := hd.1 hc
              refine lv_iload_n hx hb dX4_lots_52 rfl (lv_at hl 2 rfl) ?_
              refine lv_i2l hx hb dX4_lots_53 rfl ?_
              refine lv_lstore_n (lv' := [(3, .long x2.toInt64), (0, .ref (h 1000)), (1, .int x1), (2, .int x2)]) hx hb dX4_lots_54 rfl hl (by decide) rfl (fun ls hl => ?_)
              refine lv_iconst (v := 0) hx hb dX4_lots_55 (by decide) ?_
              refine lv_istore (lv' := [(5, .int (0 : Int32)), (3, .long x2.toInt64), (0, .ref (h 1000)), (1, .int x1), (2, .int x2)]) hx hb dX4_lots_56 hl (by decide) rfl (fun ls hl => ?_)
              obtain ⟨n_2, hd⟩ := hd
              exact bl_X4_lots_58 C0 hret _ _ _ _ _ _ _ _ hP hS hd (lv_sub hl [2, 3, 1, 0] rfl)
            · have hd := hd.2 hc
              refine lv_bipush (v := (-2)) hx hb dX4_lots_49 (by decide) ?_
              exact hret _ _ _ _ _ _ hd hP hS dX4_lots_51
          · have hd := hd.2 hc
            refine lv_bipush (v := (-4)) hx hb dX4_lots_35 (by decide) ?_
            exact hret _ _ _ _ _ _ hd hP hS dX4_lots_37
        · have hd := hd.2 hc
          refine lv_iconst (v := (-1)) hx hb dX4_lots_23 (by decide) ?_
          exact hret _ _ _ _ _ _ hd hP hS dX4_lots_24
theorem c_X4_lots (l : Launch) {D : va_G} {cA : Nat → ClassId} {h : Nat → Nat} (hk : ky keysC h) {x1 : Int32} {x2 : Int32} {S : sT} (sz : Nat) {Q : Int32 → sT → Prop} (hd : wp_X4_lots x1 x2 S Q) : Met l yX4_lots (wsU yX4_lots cX4_lots 6 (some .int)) rm_X4_lots (va_Pc [.ref (h 1000), .int x1, .int x2] (gP D cA true keysC h (wC h cA) S sz)) (va_Qi Q (wB D (wC h cA)) (aK keysC h sz)) 0 0 (aK keysC h sz) :=
  mk_i (by decide) hk (Nat.le_of_ble_eq_true rfl) (fun p e s m below meth c Z ls C0 hret hP hS hl => bk_X4_lots C0 hret hP hS hd hl)
abbrev rm_X4_lower : Room := { frames := 0, cells := 0, slots := 0, locals := 0 }
def wp_X4_lower (S : sT) (Q : Int64 → sT → Prop) : Prop :=
  Q (vL S 15) S
set_option maxHeartbeats 4000000 in
set_option maxRecDepth 100000 in
theorem bk_X4_lower {p : Program} {l : Launch} {e : Env} {s : State} {m : MethodId} {args : Array Value} {below : List Frame} {meth : Method} {c : Code} {Z : State → Prop} {D : va_G} {cA : Nat → ClassId} {h : Nat → Nat} {Q : Int64 → sT → Prop} (C0 : cx p s m args c cX4_lower 1 RX4 D cA true keysC h) (hret : rtL p l e rm_X4_lower s m args below meth c cX4_lower Z D (wC h cA) (aK keysC h s.heap.size) Q) {S : sT} {H : Heap} {locs : List Loc} {ls : Array Slot} (hP : va_P D vwCl (wC h cA S) H) (hS : va_S (aK keysC h s.heap.size) s.heap H locs) (hd : wp_X4_lower S Q) (hl : lv_has ls 1 [(0, .ref (h 1000))]) : W p l e rm_X4_lower s m args below meth c H locs 0 0 Z (F0 m 0 ls []) := by
  obtain ⟨⟨hx, hb, hml, hown, hts⟩, hK, -, -⟩ := id C0
  unfold wp_X4_lower at hd
  refine lv_aload_n hx hb dX4_lower_0 rfl (lv_at hl 0 rfl) ?_
  refine gf_X4_74 C0 hP dX4_lower_1 ?_
  exact hret _ _ _ _ _ _ hd hP hS dX4_lower_4
theorem c_X4_lower (l : Launch) {D : va_G} {cA : Nat → ClassId} {h : Nat → Nat} (hk : ky keysC h) {S : sT} (sz : Nat) {Q : Int64 → sT → Prop} (hd : wp_X4_lower S Q) : Met l yX4_lower (wsU yX4_lower cX4_lower 1 (some .long)) rm_X4_lower (va_Pc [.ref (h 1000)] (gP D cA true keysC h (wC h cA) S sz)) (va_Ql Q (wB D (wC h cA)) (aK keysC h sz)) 0 0 (aK keysC h sz) :=
  mk_l (by decide) hk (Nat.le_of_ble_eq_true rfl) (fun p e s m below meth c Z ls C0 hret hP hS hl => bk_X4_lower C0 hret hP hS hd hl)
abbrev rm_X4_lull : Room := { frames := 3, cells := 0, slots := 0, locals := 65 }
def wp_X4_lull (x1 : Int32) (S : sT) (Q : Int32 → sT → Prop) : Prop :=
  wp_X4_isBelow x1 (vI S 26) S (fun r_1 S_1 => ((¬ r_1 = 0 → wp_X1_isAsleep 0 x1 S_1 (fun r_2 S_2 => ((r_2 = 0 → wp_X1_hasRoomFor 0 (1 : Int32) S_2 (fun r_3 S_3 => ((¬ r_3 = 0 → wp_X1_wakeOrLull 0 x1 S_3 (fun S_4 => wp_X1_isDreaming 0 x1 S_4 (fun r_5 S_5 => wp_X4_bit r_5 S_5 (fun r_6 S_6 => Q r_6 S_6)))) ∧ (r_3 = 0 → Q (-2 : Int32) S_3)))) ∧ (¬ r_2 = 0 → Q (-4 : Int32) S_2)))) ∧ (r_1 = 0 → Q (-1 : Int32) S_1)))
set_option maxHeartbeats 4000000 in
set_option maxRecDepth 100000 in
theorem bk_X4_lull {p : Program} {l : Launch} {e : Env} {s : State} {m : MethodId} {args : Array Value} {below : List Frame} {meth : Method} {c : Code} {Z : State → Prop} {D : va_G} {cA : Nat → ClassId} {h : Nat → Nat} {Q : Int32 → sT → Prop} (C0 : cx p s m args c cX4_lull 2 RX4 D cA true keysC h) (hret : rtI p l e rm_X4_lull s m args below meth c cX4_lull Z D (wC h cA) (aK keysC h s.heap.size) Q) {x1 : Int32} {S : sT} {H : Heap} {locs : List Loc} {ls : Array Slot} (hP : va_P D vwCl (wC h cA S) H) (hS : va_S (aK keysC h s.heap.size) s.heap H locs) (hd : wp_X4_lull x1 S Q) (hl : lv_has ls 2 [(0, .ref (h 1000)), (1, .int x1)]) : W p l e rm_X4_lull s m args below meth c H locs 0 0 Z (F0 m 0 ls []) := by
  obtain ⟨⟨hx, hb, hml, hown, hts⟩, hK, -, -⟩ := id C0
  unfold wp_X4_lull at hd
  refine lv_iload_n hx hb dX4_lull_0 rfl (lv_at hl 1 rfl) ?_
  refine lv_aload_n hx hb dX4_lull_1 rfl (lv_at hl 0 rfl) ?_
  refine gf_X4_24 C0 hP dX4_lull_2 ?_
  refine gf_X4_129_0 C0 hP dX4_lull_5 ?_
  refine cl_Si (n := 2) (rest := []) C0 hP hS (c_X4_isBelow l C0.2.2.1 _ hd) (lwG_S lm_X4_132 ls_X4_isBelow lz_RX4 lc_X4_isBelow) (by decide +kernel) rfl rfl (Nat.le_of_ble_eq_true rfl) ⟨rfl, rfl⟩ ⟨by decide, by decide⟩ dX4_lull_8 hl.1 ⟨Nat.zero_le _, Nat.zero_le _⟩ (fun r_1 S_1 H locs hd hP hS => ?_)
  refine lv_if_ne (tgt := 16) hx hb dX4_lull_11 (by decide) (fun hc => ?_) (fun hc => ?_)
  · have hd := hd.1 hc
    refine lv_aload_n hx hb dX4_lull_16 rfl (lv_at hl 0 rfl) ?_
    refine gf_X4_24 C0 hP dX4_lull_17 ?_
    refine lv_iload_n hx hb dX4_lull_20 rfl (lv_at hl 1 rfl) ?_
    refine cl_VNi (n := 1) (rest := []) C0 hP hS (c_X1_isAsleep l C0.2.2.1 (by decide) _ hd) (lwG_C lc_X1_isAsleep) (by decide +kernel : (RX4, 177, yX1_isAsleep, "DreamTrain") ∈ nestM) lz_RX1 li_X1_isAsleep lx_X1_isAsleep (by decide +kernel) (oL_at h cA _ 0 (by decide)) rfl rfl rfl (Nat.le_of_ble_eq_true rfl) ⟨rfl, rfl⟩ ⟨by decide, by decide⟩ dX4_lull_21 hl.1 ⟨Nat.zero_le _, Nat.zero_le _⟩ (fun r_2 S_2 H locs hd hP hS => ?_)
    refine lv_if_eq (tgt := 30) hx hb dX4_lull_24 (by decide) (fun hc => ?_) (fun hc => ?_)
    · have hd := hd.1 hc
      refine lv_aload_n hx hb dX4_lull_30 rfl (lv_at hl 0 rfl) ?_
      refine gf_X4_24 C0 hP dX4_lull_31 ?_
      refine lv_iconst (v := 1) hx hb dX4_lull_34 (by decide) ?_
      refine cl_VNi (n := 1) (rest := []) C0 hP hS (c_X1_hasRoomFor l C0.2.2.1 (by decide) _ hd) (lwG_C lc_X1_hasRoomFor) (by decide +kernel : (RX4, 165, yX1_hasRoomFor, "DreamTrain") ∈ nestM) lz_RX1 li_X1_hasRoomFor lx_X1_hasRoomFor (by decide +kernel) (oL_at h cA _ 0 (by decide)) rfl rfl rfl (Nat.le_of_ble_eq_true rfl) ⟨rfl, rfl⟩ ⟨by decide, by decide⟩ dX4_lull_35 hl.1 ⟨Nat.zero_le _, Nat.zero_le _⟩ (fun r_3 S_3 H locs hd hP hS => ?_)
      refine lv_if_ne (tgt := 44) hx hb dX4_lull_38 (by decide) (fun hc => ?_) (fun hc => ?_)
      · have hd := hd.1 hc
        refine lv_aload_n hx hb dX4_lull_44 rfl (lv_at hl 0 rfl) ?_
        refine gf_X4_24 C0 hP dX4_lull_45 ?_
        refine lv_iload_n hx hb dX4_lull_48 rfl (lv_at hl 1 rfl) ?_
        refine cl_VNv (n := 1) (rest := []) C0 hP hS (c_X1_wakeOrLull l C0.2.2.1 (by decide) _ hd) (lwG_C lc_X1_wakeOrLull) (by decide +kernel : (RX4, 183, yX1_wakeOrLull, "DreamTrain") ∈ nestM) lz_RX1 li_X1_wakeOrLull lx_X1_wakeOrLull (by decide +kernel) (oL_at h cA _ 0 (by decide)) rfl rfl rfl (Nat.le_of_ble_eq_true rfl) ⟨rfl, rfl⟩ ⟨by decide, by decide⟩ dX4_lull_49 hl.1 ⟨Nat.zero_le _, Nat.zero_le _⟩ (fun S_4 H locs hd hP hS => ?_)
        refine lv_aload_n hx hb dX4_lull_52 rfl (lv_at hl 0 rfl) ?_
        refine gf_X4_24 C0 hP dX4_lull_53 ?_
        refine lv_iload_n hx hb dX4_lull_56 rfl (lv_at hl 1 rfl) ?_
        refine cl_VNi (n := 1) (rest := []) C0 hP hS (c_X1_isDreaming l C0.2.2.1 (by decide) _ hd) (lwG_C lc_X1_isDreaming) (by decide +kernel : (RX4, 180, yX1_isDreaming, "DreamTrain") ∈ nestM) lz_RX1 li_X1_isDreaming lx_X1_isDreaming (by decide +kernel) (oL_at h cA _ 0 (by decide)) rfl rfl rfl (Nat.le_of_ble_eq_true rfl) ⟨rfl, rfl⟩ ⟨by decide, by decide⟩ dX4_lull_57 hl.1 ⟨Nat.zero_le _, Nat.zero_le _⟩ (fun r_5 S_5 H locs hd hP hS => ?_)
        refine cl_Si (n := 1) (rest := []) C0 hP hS (c_X4_bit l C0.2.2.1 _ hd) (lwG_S lm_X4_158 ls_X4_bit lz_RX4 lc_X4_bit) (by decide +kernel) rfl rfl (Nat.le_of_ble_eq_true rfl) ⟨rfl, rfl⟩ ⟨by decide, by decide⟩ dX4_lull_60 hl.1 ⟨Nat.zero_le _, Nat.zero_le _⟩ (fun r_6 S_6 H locs hd hP hS => ?_)
        exact hret _ _ _ _ _ _ hd hP hS dX4_lull_63
      · have hd := hd.2 hc
        refine lv_bipush (v := (-2)) hx hb dX4_lull_41 (by decide) ?_
        exact hret _ _ _ _ _ _ hd hP hS dX4_lull_43
    · have hd := hd.2 hc
      refine lv_bipush (v := (-4)) hx hb dX4_lull_27 (by decide) ?_
      exact hret _ _ _ _ _ _ hd hP hS dX4_lull_29
  · have hd := hd.2 hc
    refine lv_iconst (v := (-1)) hx hb dX4_lull_14 (by decide) ?_
    exact hret _ _ _ _ _ _ hd hP hS dX4_lull_15
theorem c_X4_lull (l : Launch) {D : va_G} {cA : Nat → ClassId} {h : Nat → Nat} (hk : ky keysC h) {x1 : Int32} {S : sT} (sz : Nat) {Q : Int32 → sT → Prop} (hd : wp_X4_lull x1 S Q) : Met l yX4_lull (wsU yX4_lull cX4_lull 2 (some .int)) rm_X4_lull (va_Pc [.ref (h 1000), .int x1] (gP D cA true keysC h (wC h cA) S sz)) (va_Qi Q (wB D (wC h cA)) (aK keysC h sz)) 0 0 (aK keysC h sz) :=
  mk_i (by decide) hk (Nat.le_of_ble_eq_true rfl) (fun p e s m below meth c Z ls C0 hret hP hS hl => bk_X4_lull C0 hret hP hS hd hl)
abbrev rm_X4_mark : Room := { frames := 2, cells := 0, slots := 0, locals := 49 }
def wb_X4_mark_59 (Q : Int32 → sT → Prop) (x1 : Int32) (x2 : Int32) (x3 : Int32) (S : sT) : Prop :=
  (vp_in x1 6) ∧ ((x2 = (1 : Int32) → wp_X4_dreamtMinutes x3 (vA S 22 x1.toNatClampNeg) S (fun r_3 S_3 => Q r_3 S_3)) ∧ (x2 = (2 : Int32) → wp_X4_dreamtMinutes x3 (vA S 22 x1.toNatClampNeg) S (fun r_5 S_5 => wp_X4_dreamtMinutes (0 : Int32) (vA S 22 x1.toNatClampNeg) S_5 (fun r_6 S_6 => Q ((r_5 - r_6) + (100 : Int32)) S_6))) ∧ (x2 = (5 : Int32) → wp_X4_dreamtMinutes (2 : Int32) (vA S 22 x1.toNatClampNeg) S (fun r_8 S_8 => wp_X4_dreamtMinutes x3 (vA S 22 x1.toNatClampNeg) S_8 (fun r_9 S_9 => Q (r_8 - r_9) S_9))) ∧ (¬ x2 = (1 : Int32) → ¬ x2 = (2 : Int32) → ¬ x2 = (5 : Int32) → wp_X4_firstDream x3 (vA S 22 x1.toNatClampNeg) S (fun r_2 S_2 => Q r_2 S_2)))
set_option maxHeartbeats 4000000 in
set_option maxRecDepth 100000 in
theorem bk_X4_mark_59 {p : Program} {l : Launch} {e : Env} {s : State} {m : MethodId} {args : Array Value} {below : List Frame} {meth : Method} {c : Code} {Z : State → Prop} {D : va_G} {cA : Nat → ClassId} {h : Nat → Nat} {Q : Int32 → sT → Prop} (C0 : cx p s m args c cX4_mark 5 RX4 D cA true keysC h) (hret : rtI p l e rm_X4_mark s m args below meth c cX4_mark Z D (wC h cA) (aK keysC h s.heap.size) Q) {x1 : Int32} {x2 : Int32} {x3 : Int32} {S : sT} {H : Heap} {locs : List Loc} {ls : Array Slot} (hP : va_P D vwCl (wC h cA S) H) (hS : va_S (aK keysC h s.heap.size) s.heap H locs) (hd : wb_X4_mark_59 Q x1 x2 x3 S) (hl : lv_has ls 5 [(0, .ref (h 1000)), (1, .int x1), (2, .int x2), (3, .int x3)]) : W p l e rm_X4_mark s m args below meth c H locs 0 0 Z (F0 m 59 ls []) := by
  obtain ⟨⟨hx, hb, hml, hown, hts⟩, hK, -, -⟩ := id C0
  unfold wb_X4_mark_59 at hd
  refine lv_aload_n hx hb dX4_mark_59 rfl (lv_at hl 0 rfl) ?_
  refine gf_X4_24 C0 hP dX4_mark_60 ?_
  refine gf_X4_146_0 C0 hP dX4_mark_63 ?_
  refine lv_iload_n hx hb dX4_mark_66 rfl (lv_at hl 1 rfl) ?_
  obtain ⟨h_1, hd⟩ := hd
  refine ldC (by decide) C0 hP h_1 dX4_mark_67 ?_
  refine lv_istore (lv' := [(4, .int (vA S 22 x1.toNatClampNeg)), (0, .ref (h 1000)), (1, .int x1), (2, .int x2), (3, .int x3)]) hx hb dX4_mark_68 hl (by decide) rfl (fun ls hl => ?_)
  refine lv_iload_n hx hb dX4_mark_70 rfl (lv_at hl 3 rfl) ?_
  by_cases hq4 : x2 = (1 : Int32)
  · have hd := hd.1 hq4
    refine lv_tableIn (off := 33) (tgt := 104) hx hb dX4_mark_71 (by rw [hq4]; decide) (by rw [hq4]; decide) (by rw [hq4]; decide) (by decide) ?_
    refine lv_iload_n hx hb dX4_mark_104 rfl (lv_at hl 4 rfl) ?_
    refine lv_iload hx hb dX4_mark_105 (lv_at hl 0 rfl) ?_
    refine cl_Si (n := 2) (rest := []) C0 hP hS (c_X4_dreamtMinutes l C0.2.2.1 _ hd) (lwG_S lm_X4_149 ls_X4_dreamtMinutes lz_RX4 lc_X4_dreamtMinutes) (by decide +kernel) rfl rfl (Nat.le_of_ble_eq_true rfl) ⟨rfl, rfl⟩ ⟨by decide, by decide⟩ dX4_mark_107 hl.1 ⟨Nat.zero_le _, Nat.zero_le _⟩ (fun r_3 S_3 H locs hd hP hS => ?_)
    exact hret _ _ _ _ _ _ hd hP hS dX4_mark_110
  by_cases hq7 : x2 = (2 : Int32)
  · have hd := hd.2.1 hq7
    refine lv_tableIn (off := 40) (tgt := 111) hx hb dX4_mark_71 (by rw [hq7]; decide) (by rw [hq7]; decide) (by rw [hq7]; decide) (by decide) ?_
    refine lv_iload_n hx hb dX4_mark_111 rfl (lv_at hl 4 rfl) ?_
    refine lv_iload hx hb dX4_mark_112 (lv_at hl 0 rfl) ?_
    refine cl_Si (n := 2) (rest := []) C0 hP hS (c_X4_dreamtMinutes l C0.2.2.1 _ hd) (lwG_S lm_X4_149 ls_X4_dreamtMinutes lz_RX4 lc_X4_dreamtMinutes) (by decide +kernel) rfl rfl (Nat.le_of_ble_eq_true rfl) ⟨rfl, rfl⟩ ⟨by decide, by decide⟩ dX4_mark_114 hl.1 ⟨Nat.zero_le _, Nat.zero_le _⟩ (fun r_5 S_5 H locs hd hP hS => ?_)
    refine lv_iconst (v := 0) hx hb dX4_mark_117 (by decide) ?_
    refine lv_iload hx hb dX4_mark_118 (lv_at hl 0 rfl) ?_
    refine cl_Si (n := 2) (rest := [.int r_5]) C0 hP hS (c_X4_dreamtMinutes l C0.2.2.1 _ hd) (lwG_S lm_X4_149 ls_X4_dreamtMinutes lz_RX4 lc_X4_dreamtMinutes) (by decide +kernel) rfl rfl (Nat.le_of_ble_eq_true rfl) ⟨rfl, rfl⟩ ⟨by decide, by decide⟩ dX4_mark_120 hl.1 ⟨Nat.zero_le _, Nat.zero_le _⟩ (fun r_6 S_6 H locs hd hP hS => ?_)
    refine lv_isub hx hb dX4_mark_123 ?_
    refine lv_bipush (v := 100) hx hb dX4_mark_124 (by decide) ?_
    refine lv_iadd hx hb dX4_mark_126 ?_
    exact hret _ _ _ _ _ _ hd hP hS dX4_mark_127
  by_cases hq10 : x2 = (5 : Int32)
  · have hd := hd.2.2.1 hq10
    refine lv_tableIn (off := 57) (tgt := 128) hx hb dX4_mark_71 (by rw [hq10]; decide) (by rw [hq10]; decide) (by rw [hq10]; decide) (by decide) ?_
    refine lv_iconst (v := 2) hx hb dX4_mark_128 (by decide) ?_
    refine lv_iload hx hb dX4_mark_129 (lv_at hl 0 rfl) ?_
    refine cl_Si (n := 2) (rest := []) C0 hP hS (c_X4_dreamtMinutes l C0.2.2.1 _ hd) (lwG_S lm_X4_149 ls_X4_dreamtMinutes lz_RX4 lc_X4_dreamtMinutes) (by decide +kernel) rfl rfl (Nat.le_of_ble_eq_true rfl) ⟨rfl, rfl⟩ ⟨by decide, by decide⟩ dX4_mark_131 hl.1 ⟨Nat.zero_le _, Nat.zero_le _⟩ (fun r_8 S_8 H locs hd hP hS => ?_)
    refine lv_iload_n hx hb dX4_mark_134 rfl (lv_at hl 4 rfl) ?_
    refine lv_iload hx hb dX4_mark_135 (lv_at hl 0 rfl) ?_
    refine cl_Si (n := 2) (rest := [.int r_8]) C0 hP hS (c_X4_dreamtMinutes l C0.2.2.1 _ hd) (lwG_S lm_X4_149 ls_X4_dreamtMinutes lz_RX4 lc_X4_dreamtMinutes) (by decide +kernel) rfl rfl (Nat.le_of_ble_eq_true rfl) ⟨rfl, rfl⟩ ⟨by decide, by decide⟩ dX4_mark_137 hl.1 ⟨Nat.zero_le _, Nat.zero_le _⟩ (fun r_9 S_9 H locs hd hP hS => ?_)
    refine lv_isub hx hb dX4_mark_140 ?_
    exact hret _ _ _ _ _ _ hd hP hS dX4_mark_141
  have hd := hd.2.2.2 hq4 hq7 hq10
  have hdef : W p l e rm_X4_mark s m args below meth c H locs 0 0 Z (F0 m 142 ls []) := by
    refine lv_iload_n hx hb dX4_mark_142 rfl (lv_at hl 4 rfl) ?_
    refine lv_iload hx hb dX4_mark_143 (lv_at hl 0 rfl) ?_
    refine cl_Si (n := 2) (rest := []) C0 hP hS (c_X4_firstDream l C0.2.2.1 _ hd) (lwG_S lm_X4_152 ls_X4_firstDream lz_RX4 lc_X4_firstDream) (by decide +kernel) rfl rfl (Nat.le_of_ble_eq_true rfl) ⟨rfl, rfl⟩ ⟨by decide, by decide⟩ dX4_mark_145 hl.1 ⟨Nat.zero_le _, Nat.zero_le _⟩ (fun r_2 S_2 H locs hd hP hS => ?_)
    exact hret _ _ _ _ _ _ hd hP hS dX4_mark_148
  by_cases hq11 : x2 = (3 : Int32)
  · refine lv_tableIn (off := 71) (tgt := 142) hx hb dX4_mark_71 (by rw [hq11]; decide) (by rw [hq11]; decide) (by rw [hq11]; decide) (by decide) ?_
    exact hdef
  by_cases hq12 : x2 = (4 : Int32)
  · refine lv_tableIn (off := 71) (tgt := 142) hx hb dX4_mark_71 (by rw [hq12]; decide) (by rw [hq12]; decide) (by rw [hq12]; decide) (by decide) ?_
    exact hdef
  refine lv_tableOut (tgt := 142) hx hb dX4_mark_71 (sw_out 1 5 (by decide) (by decide) (fun v h1 h2 => by rcases (show v = 1 ∨ v = 2 ∨ v = 3 ∨ v = 4 ∨ v = 5 by omega) with rfl | rfl | rfl | rfl | rfl <;> assumption)) (by decide) ?_
  exact hdef
def wp_X4_mark (x1 : Int32) (x2 : Int32) (S : sT) (Q : Int32 → sT → Prop) : Prop :=
  wp_X4_isBelow x1 (vI S 26) S (fun r_1 S_1 => ((r_1 = 0 → Q (-1 : Int32) S_1) ∧ (¬ r_1 = 0 → ((x2 = 0 → Q (-1 : Int32) S_1) ∧ (¬ x2 = 0 → wp_X4_isBelow x2 (6 : Int32) S_1 (fun r_2 S_2 => ((¬ r_2 = 0 → (vp_in x1 6) ∧ (((vA S_2 20 x1.toNatClampNeg) = x2 → wb_X4_mark_59 Q x1 x2 (vA S_2 20 x1.toNatClampNeg) S_2) ∧ (¬ (vA S_2 20 x1.toNatClampNeg) = x2 → (vp_in (vA S_2 20 x1.toNatClampNeg) 6) ∧ (((kU (vA S_2 20 x1.toNatClampNeg).toNatClampNeg) = x2 → wb_X4_mark_59 Q x1 x2 (vA S_2 20 x1.toNatClampNeg) S_2) ∧ (¬ (kU (vA S_2 20 x1.toNatClampNeg).toNatClampNeg) = x2 → wp_X4_found (3 : Int32) S_2 (fun r_6 S_6 => Q r_6 S_6)))))) ∧ (r_2 = 0 → Q (-1 : Int32) S_2))))))))
set_option maxHeartbeats 4000000 in
set_option maxRecDepth 100000 in
theorem bk_X4_mark {p : Program} {l : Launch} {e : Env} {s : State} {m : MethodId} {args : Array Value} {below : List Frame} {meth : Method} {c : Code} {Z : State → Prop} {D : va_G} {cA : Nat → ClassId} {h : Nat → Nat} {Q : Int32 → sT → Prop} (C0 : cx p s m args c cX4_mark 5 RX4 D cA true keysC h) (hret : rtI p l e rm_X4_mark s m args below meth c cX4_mark Z D (wC h cA) (aK keysC h s.heap.size) Q) {x1 : Int32} {x2 : Int32} {S : sT} {H : Heap} {locs : List Loc} {ls : Array Slot} (hP : va_P D vwCl (wC h cA S) H) (hS : va_S (aK keysC h s.heap.size) s.heap H locs) (hd : wp_X4_mark x1 x2 S Q) (hl : lv_has ls 5 [(0, .ref (h 1000)), (1, .int x1), (2, .int x2)]) : W p l e rm_X4_mark s m args below meth c H locs 0 0 Z (F0 m 0 ls []) := by
  obtain ⟨⟨hx, hb, hml, hown, hts⟩, hK, -, -⟩ := id C0
  unfold wp_X4_mark at hd
  refine lv_iload_n hx hb dX4_mark_0 rfl (lv_at hl 1 rfl) ?_
  refine lv_aload_n hx hb dX4_mark_1 rfl (lv_at hl 0 rfl) ?_
  refine gf_X4_24 C0 hP dX4_mark_2 ?_
  refine gf_X4_129_0 C0 hP dX4_mark_5 ?_
  refine cl_Si (n := 2) (rest := []) C0 hP hS (c_X4_isBelow l C0.2.2.1 _ hd) (lwG_S lm_X4_132 ls_X4_isBelow lz_RX4 lc_X4_isBelow) (by decide +kernel) rfl rfl (Nat.le_of_ble_eq_true rfl) ⟨rfl, rfl⟩ ⟨by decide, by decide⟩ dX4_mark_8 hl.1 ⟨Nat.zero_le _, Nat.zero_le _⟩ (fun r_1 S_1 H locs hd hP hS => ?_)
  refine lv_if_eq (tgt := 27) hx hb dX4_mark_11 (by decide) (fun hc => ?_) (fun hc => ?_)
  · have hd := hd.1 hc
    refine lv_iconst (v := (-1)) hx hb dX4_mark_27 (by decide) ?_
    exact hret _ _ _ _ _ _ hd hP hS dX4_mark_28
  · have hd := hd.2 hc
    refine lv_iload_n hx hb dX4_mark_14 rfl (lv_at hl 2 rfl) ?_
    refine lv_if_eq (tgt := 27) hx hb dX4_mark_15 (by decide) (fun hc => ?_) (fun hc => ?_)
    · have hd := hd.1 hc
      refine lv_iconst (v := (-1)) hx hb dX4_mark_27 (by decide) ?_
      exact hret _ _ _ _ _ _ hd hP hS dX4_mark_28
    · have hd := hd.2 hc
      refine lv_iload_n hx hb dX4_mark_18 rfl (lv_at hl 2 rfl) ?_
      refine lv_bipush (v := 6) hx hb dX4_mark_19 (by decide) ?_
      refine cl_Si (n := 2) (rest := []) C0 hP hS (c_X4_isBelow l C0.2.2.1 _ hd) (lwG_S lm_X4_132 ls_X4_isBelow lz_RX4 lc_X4_isBelow) (by decide +kernel) rfl rfl (Nat.le_of_ble_eq_true rfl) ⟨rfl, rfl⟩ ⟨by decide, by decide⟩ dX4_mark_21 hl.1 ⟨Nat.zero_le _, Nat.zero_le _⟩ (fun r_2 S_2 H locs hd hP hS => ?_)
      refine lv_if_ne (tgt := 29) hx hb dX4_mark_24 (by decide) (fun hc => ?_) (fun hc => ?_)
      · have hd := hd.1 hc
        refine lv_aload_n hx hb dX4_mark_29 rfl (lv_at hl 0 rfl) ?_
        refine gf_X4_24 C0 hP dX4_mark_30 ?_
        refine gf_X4_140_0 C0 hP dX4_mark_33 ?_
        refine lv_iload_n hx hb dX4_mark_36 rfl (lv_at hl 1 rfl) ?_
        obtain ⟨h_3, hd⟩ := hd
        refine ldC (by decide) C0 hP h_3 dX4_mark_37 ?_
        refine lv_istore_n (lv' := [(3, .int (vA S_2 20 x1.toNatClampNeg)), (0, .ref (h 1000)), (1, .int x1), (2, .int x2)]) hx hb dX4_mark_38 rfl hl (by decide) rfl (fun ls hl => ?_)
        refine lv_iload_n hx hb dX4_mark_39 rfl (lv_at hl 0 rfl) ?_
        refine lv_iload_n hx hb dX4_mark_40 rfl (lv_at hl 3 rfl) ?_
        refine lv_icmp_eq (tgt := 59) hx hb dX4_mark_41 (by decide) (fun hc => ?_) (fun hc => ?_)
        · have hd := hd.1 hc
          exact bk_X4_mark_59 C0 hret hP hS hd (lv_sub hl [1, 2, 3, 0] rfl)
        · have hd := hd.2 hc
          obtain ⟨t1_4, t2_4, ⟨z1_4, z2_4⟩, z3_4, z4_4⟩ := C0.2.2.2 rfl
          refine va_gets hx hb z3_4 hS hown (hts _ lf_X4_143) (fun _ h9 => h9) dX4_mark_44 ?_
          refine lv_iload_n hx hb dX4_mark_47 rfl (lv_at hl 0 rfl) ?_
          obtain ⟨h_5, hd⟩ := hd
          refine va_ti hx hb z4_4 hS h_5 rfl dX4_mark_48 ?_
          refine lv_iload_n hx hb dX4_mark_49 rfl (lv_at hl 3 rfl) ?_
          refine lv_icmp_eq (tgt := 59) hx hb dX4_mark_50 (by decide) (fun hc => ?_) (fun hc => ?_)
          · have hd := hd.1 hc
            exact bk_X4_mark_59 C0 hret hP hS hd (lv_sub hl [1, 2, 3, 0] rfl)
          · have hd := hd.2 hc
            refine lv_aload_n hx hb dX4_mark_53 rfl (lv_at hl 1 rfl) ?_
            refine lv_iconst (v := 3) hx hb dX4_mark_54 (by decide) ?_
            refine cl_Vi (n := 1) (rest := []) C0 hP hS (c_X4_found l C0.2.2.1 _ hd) (lwG_V lm_X4_82 li_X4_found lx_X4_found lz_RX4 lc_X4_found) (by decide +kernel) (oD_at h cA _) rfl rfl rfl (Nat.le_of_ble_eq_true rfl) ⟨rfl, rfl⟩ ⟨by decide, by decide⟩ dX4_mark_55 hl.1 ⟨Nat.zero_le _, Nat.zero_le _⟩ (fun r_6 S_6 H locs hd hP hS => ?_)
            exact hret _ _ _ _ _ _ hd hP hS dX4_mark_58
      · have hd := hd.2 hc
        refine lv_iconst (v := (-1)) hx hb dX4_mark_27 (by decide) ?_
        exact hret _ _ _ _ _ _ hd hP hS dX4_mark_28
theorem c_X4_mark (l : Launch) {D : va_G} {cA : Nat → ClassId} {h : Nat → Nat} (hk : ky keysC h) {x1 : Int32} {x2 : Int32} {S : sT} (sz : Nat) {Q : Int32 → sT → Prop} (hd : wp_X4_mark x1 x2 S Q) : Met l yX4_mark (wsU yX4_mark cX4_mark 5 (some .int)) rm_X4_mark (va_Pc [.ref (h 1000), .int x1, .int x2] (gP D cA true keysC h (wC h cA) S sz)) (va_Qi Q (wB D (wC h cA)) (aK keysC h sz)) 0 0 (aK keysC h sz) :=
  mk_i (by decide) hk (Nat.le_of_ble_eq_true rfl) (fun p e s m below meth c Z ls C0 hret hP hS hl => bk_X4_mark C0 hret hP hS hd hl)
abbrev rm_X4_mean : Room := { frames := 4, cells := 0, slots := 0, locals := 85 }
def wb_X4_mean_42 (Q : Int32 → sT → Prop) (K42 : Int32 → Int32 → Int64 → Int32 → sT → Prop) (x1 : Int32) (x3 : Int32) (x4 : Int64) (x6 : Int32) (S : sT) : Prop :=
  ((x3 ≤ x6 → (¬ x3.toInt64 = 0) ∧ Q (1 : Int32) (uI S 13 ((x4 / x3.toInt64).toInt32))) ∧ (¬ x3 ≤ x6 → (vp_in x1 6) ∧ (vp_in x6 40) ∧ K42 x1 x3 (x4 + ((vA S (300 + x1.toNatClampNeg) x6.toNatClampNeg).toInt64)) (x6 + (1 : Int32)) S))
set_option maxHeartbeats 4000000 in
set_option maxRecDepth 100000 in
theorem bk_X4_mean_42 {p : Program} {l : Launch} {e : Env} {s : State} {m : MethodId} {args : Array Value} {below : List Frame} {meth : Method} {c : Code} {Z : State → Prop} {D : va_G} {cA : Nat → ClassId} {h : Nat → Nat} {Q : Int32 → sT → Prop} (C0 : cx p s m args c cX4_mean 7 RX4 D cA true keysC h) (hret : rtI p l e rm_X4_mean s m args below meth c cX4_mean Z D (wC h cA) (aK keysC h s.heap.size) Q) {K42 : Int32 → Int32 → Int64 → Int32 → sT → Prop} (k42 : ∀ (x1 : Int32) (x3 : Int32) (x4 : Int64) (x6 : Int32) (S : sT) (H : Heap) (locs : List Loc) (ls : Array Slot), K42 x1 x3 x4 x6 S → va_P D vwCl (wC h cA S) H → va_S (aK keysC h s.heap.size) s.heap H locs → lv_has ls 7 [(0, .ref (h 1000)), (1, .int x1), (3, .int x3), (4, .long x4), (6, .int x6)] → W p l e rm_X4_mean s m args below meth c H locs 0 0 Z (F0 m 42 ls [])) {x1 : Int32} {x3 : Int32} {x4 : Int64} {x6 : Int32} {S : sT} {H : Heap} {locs : List Loc} {ls : Array Slot} (hP : va_P D vwCl (wC h cA S) H) (hS : va_S (aK keysC h s.heap.size) s.heap H locs) (hd : wb_X4_mean_42 Q K42 x1 x3 x4 x6 S) (hl : lv_has ls 7 [(0, .ref (h 1000)), (1, .int x1), (3, .int x3), (4, .long x4), (6, .int x6)]) : W p l e rm_X4_mean s m args below meth c H locs 0 0 Z (F0 m 42 ls []) := by
  obtain ⟨⟨hx, hb, hml, hown, hts⟩, hK, -, -⟩ := id C0
  unfold wb_X4_mean_42 at hd
  refine lv_iload hx hb dX4_mean_42 (lv_at hl 4 rfl) ?_
  refine lv_iload_n hx hb dX4_mean_44 rfl (lv_at hl 2 rfl) ?_
  refine lv_icmp_ge (tgt := 72) hx hb dX4_mean_45 (by decide) (fun hc => ?_) (fun hc => ?_)
  · have hd := hd.1 hc
    refine lv_aload_n hx hb dX4_mean_72 rfl (lv_at hl 0 rfl) ?_
    refine lv_lload hx hb dX4_mean_73 (lv_at hl 3 rfl) ?_
    refine lv_iload_n hx hb dX4_mean_75 rfl (lv_at hl 2 rfl) ?_
    refine lv_i2l hx hb dX4_mean_76 rfl ?_
    obtain ⟨h_1, hd⟩ := hd
    refine lv_ldiv hx hb dX4_mean_77 h_1 ?_
    refine lv_l2i hx hb dX4_mean_78 rfl ?_
    refine pf_X4_97 C0 hP hS dX4_mean_79 (fun H locs hP hS => ?_)
    refine lv_iconst (v := 1) hx hb dX4_mean_82 (by decide) ?_
    exact hret _ _ _ _ _ _ hd hP hS dX4_mean_83
  · have hd := hd.2 hc
    refine lv_lload hx hb dX4_mean_48 (lv_at hl 3 rfl) ?_
    refine lv_aload_n hx hb dX4_mean_50 rfl (lv_at hl 0 rfl) ?_
    refine gf_X4_14 C0 hP dX4_mean_51 ?_
    refine gf_X4_94_0 C0 hP dX4_mean_54 ?_
    refine lv_iload_n hx hb dX4_mean_57 rfl (lv_at hl 1 rfl) ?_
    obtain ⟨h_2, hd⟩ := hd
    refine ao_1010 C0 hP h_2 dX4_mean_58 ?_
    refine lv_iload hx hb dX4_mean_59 (lv_at hl 4 rfl) ?_
    obtain ⟨h_3, hd⟩ := hd
    refine ldC (kRow0 _ (vp_lt h_2)) C0 hP (by rw [lRow0 _ (vp_lt h_2)]; exact h_3) dX4_mean_61 ?_
    refine lv_i2l hx hb dX4_mean_62 rfl ?_
    refine lv_ladd hx hb dX4_mean_63 ?_
    refine lv_lstore (lv' := [(4, .long (x4 + ((vA S (300 + x1.toNatClampNeg) x6.toNatClampNeg).toInt64))), (0, .ref (h 1000)), (1, .int x1), (3, .int x3), (6, .int x6)]) hx hb dX4_mean_64 hl (by decide) rfl (fun ls hl => ?_)
    refine lv_iinc (v := x6 + (1 : Int32)) (lv' := [(6, .int (x6 + (1 : Int32))), (4, .long (x4 + ((vA S (300 + x1.toNatClampNeg) x6.toNatClampNeg).toInt64))), (0, .ref (h 1000)), (1, .int x1), (3, .int x3)]) hx hb dX4_mean_66 hl (k := 4) rfl rfl (by decide) rfl (fun ls hl => ?_)
    refine lv_goto (tgt := 42) hx hb dX4_mean_69 (by decide) ?_
    exact k42 _ _ _ _ _ _ _ _ hd hP hS (lv_sub hl [2, 3, 4, 1, 0] rfl)
def wl_X4_mean_42 (Q : Int32 → sT → Prop) : Nat → Int32 → Int32 → Int64 → Int32 → sT → Prop
  | 0, _, _, _, _ => fun _ => False
  | n + 1, x1, x3, x4, x6 => fun S => wb_X4_mean_42 Q (fun x1 x3 x4 x6 S => wl_X4_mean_42 Q n x1 x3 x4 x6 S) x1 x3 x4 x6 S
theorem bl_X4_mean_42 {p : Program} {l : Launch} {e : Env} {s : State} {m : MethodId} {args : Array Value} {below : List Frame} {meth : Method} {c : Code} {Z : State → Prop} {D : va_G} {cA : Nat → ClassId} {h : Nat → Nat} {Q : Int32 → sT → Prop} (C0 : cx p s m args c cX4_mean 7 RX4 D cA true keysC h) (hret : rtI p l e rm_X4_mean s m args below meth c cX4_mean Z D (wC h cA) (aK keysC h s.heap.size) Q) : ∀ (n : Nat) (x1 : Int32) (x3 : Int32) (x4 : Int64) (x6 : Int32) (S : sT) (H : Heap) (locs : List Loc) (ls : Array Slot), va_P D vwCl (wC h cA S) H → va_S (aK keysC h s.heap.size) s.heap H locs → wl_X4_mean_42 Q n x1 x3 x4 x6 S → lv_has ls 7 [(0, .ref (h 1000)), (1, .int x1), (3, .int x3), (4, .long x4), (6, .int x6)] → W p l e rm_X4_mean s m args below meth c H locs 0 0 Z (F0 m 42 ls []) := by
  intro n
  induction n with
  | zero => intro x1 x3 x4 x6 S H locs ls hP hS hd hl; exact (show False from hd).elim
  | succ n ih => intro x1 x3 x4 x6 S H locs ls hP hS hd hl; exact bk_X4_mean_42 C0 hret (fun x1 x3 x4 x6 S H locs ls hd hP hS hl => ih x1 x3 x4 x6 S H locs ls hP hS hd hl) hP hS hd hl
def wp_X4_mean (x1 : Int32) (S : sT) (Q : Int32 → sT → Prop) : Prop :=
  wp_X4_refusalOfShelf 0 x1 S (fun r_1 S_1 => ((r_1 = 0 → (vp_in x1 6) ∧ ((0 < (vA S_1 200 x1.toNatClampNeg) → ∃ n : Nat, wl_X4_mean_42 Q n x1 (vA S_1 200 x1.toNatClampNeg) (0 : Int64) (0 : Int32) S_1) ∧ (¬ 0 < (vA S_1 200 x1.toNatClampNeg) → wp_X4_found (4 : Int32) S_1 (fun r_4 S_4 => Q r_4 S_4)))) ∧ (¬ r_1 = 0 → Q r_1 S_1)))
set_option maxHeartbeats 4000000 in
set_option maxRecDepth 100000 in
theorem bk_X4_mean {p : Program} {l : Launch} {e : Env} {s : State} {m : MethodId} {args : Array Value} {below : List Frame} {meth : Method} {c : Code} {Z : State → Prop} {D : va_G} {cA : Nat → ClassId} {h : Nat → Nat} {Q : Int32 → sT → Prop} (C0 : cx p s m args c cX4_mean 7 RX4 D cA true keysC h) (hret : rtI p l e rm_X4_mean s m args below meth c cX4_mean Z D (wC h cA) (aK keysC h s.heap.size) Q) {x1 : Int32} {S : sT} {H : Heap} {locs : List Loc} {ls : Array Slot} (hP : va_P D vwCl (wC h cA S) H) (hS : va_S (aK keysC h s.heap.size) s.heap H locs) (hd : wp_X4_mean x1 S Q) (hl : lv_has ls 7 [(0, .ref (h 1000)), (1, .int x1)]) : W p l e rm_X4_mean s m args below meth c H locs 0 0 Z (F0 m 0 ls []) := by
  obtain ⟨⟨hx, hb, hml, hown, hts⟩, hK, -, -⟩ := id C0
  unfold wp_X4_mean at hd
  refine lv_aload_n hx hb dX4_mean_0 rfl (lv_at hl 0 rfl) ?_
  refine lv_aload_n hx hb dX4_mean_1 rfl (lv_at hl 0 rfl) ?_
  refine gf_X4_14 C0 hP dX4_mean_2 ?_
  refine lv_iload_n hx hb dX4_mean_5 rfl (lv_at hl 1 rfl) ?_
  refine cl_Vi (n := 2) (rest := []) C0 hP hS (c_X4_refusalOfShelf l C0.2.2.1 (by decide) _ hd) (lwG_V lm_X4_101 li_X4_refusalOfShelf lx_X4_refusalOfShelf lz_RX4 lc_X4_refusalOfShelf) (by decide +kernel) (oD_at h cA _) rfl rfl rfl (Nat.le_of_ble_eq_true rfl) ⟨rfl, rfl⟩ ⟨by decide, by decide⟩ dX4_mean_6 hl.1 ⟨Nat.zero_le _, Nat.zero_le _⟩ (fun r_1 S_1 H locs hd hP hS => ?_)
  refine lv_istore_n (lv' := [(2, .int r_1), (0, .ref (h 1000)), (1, .int x1)]) hx hb dX4_mean_9 rfl hl (by decide) rfl (fun ls hl => ?_)
  refine lv_iload_n hx hb dX4_mean_10 rfl (lv_at hl 0 rfl) ?_
  refine lv_if_eq (tgt := 16) hx hb dX4_mean_11 (by decide) (fun hc => ?_) (fun hc => ?_)
  · have hd := hd.1 hc
    refine lv_aload_n hx hb dX4_mean_16 rfl (lv_at hl 1 rfl) ?_
    refine gf_X4_14 C0 hP dX4_mean_17 ?_
    refine gf_X4_105_0 C0 hP dX4_mean_20 ?_
    refine lv_iload_n hx hb dX4_mean_23 rfl (lv_at hl 2 rfl) ?_
    obtain ⟨h_2, hd⟩ := hd
    refine ldC (by decide) C0 hP h_2 dX4_mean_24 ?_
    refine lv_istore_n (lv' := [(3, .int (vA S_1 200 x1.toNatClampNeg)), (2, .int r_1), (0, .ref (h 1000)), (1, .int x1)]) hx hb dX4_mean_25 rfl hl (by decide) rfl (fun ls hl => ?_)
    refine lv_iload_n hx hb dX4_mean_26 rfl (lv_at hl 0 rfl) ?_
    refine lv_if_gt (tgt := 36) hx hb dX4_mean_27 (by decide) (fun hc => ?_) (fun hc => ?_)
    · have hd := hd.1 hc
      refine lv_lconst (v := 0) hx hb dX4_mean_36 (by decide) ?_
      refine lv_lstore (lv' := [(4, .long (0 : Int64)), (3, .int (vA S_1 200 x1.toNatClampNeg)), (2, .int r_1), (0, .ref (h 1000)), (1, .int x1)]) hx hb dX4_mean_37 hl (by decide) rfl (fun ls hl => ?_)
      refine lv_iconst (v := 0) hx hb dX4_mean_39 (by decide) ?_
      refine lv_istore (lv' := [(6, .int (0 : Int32)), (4, .long (0 : Int64)), (3, .int (vA S_1 200 x1.toNatClampNeg)), (2, .int r_1), (0, .ref (h 1000)), (1, .int x1)]) hx hb dX4_mean_40 hl (by decide) rfl (fun ls hl => ?_)
      obtain ⟨n_3, hd⟩ := hd
      exact bl_X4_mean_42 C0 hret _ _ _ _ _ _ _ _ _ hP hS hd (lv_sub hl [4, 5, 2, 1, 0] rfl)
    · have hd := hd.2 hc
      refine lv_aload_n hx hb dX4_mean_30 rfl (lv_at hl 2 rfl) ?_
      refine lv_iconst (v := 4) hx hb dX4_mean_31 (by decide) ?_
      refine cl_Vi (n := 1) (rest := []) C0 hP hS (c_X4_found l C0.2.2.1 _ hd) (lwG_V lm_X4_82 li_X4_found lx_X4_found lz_RX4 lc_X4_found) (by decide +kernel) (oD_at h cA _) rfl rfl rfl (Nat.le_of_ble_eq_true rfl) ⟨rfl, rfl⟩ ⟨by decide, by decide⟩ dX4_mean_32 hl.1 ⟨Nat.zero_le _, Nat.zero_le _⟩ (fun r_4 S_4 H locs hd hP hS => ?_)
      exact hret _ _ _ _ _ _ hd hP hS dX4_mean_35
  · have hd := hd.2 hc
    refine lv_iload_n hx hb dX4_mean_14 rfl (lv_at hl 0 rfl) ?_
    exact hret _ _ _ _ _ _ hd hP hS dX4_mean_15
theorem c_X4_mean (l : Launch) {D : va_G} {cA : Nat → ClassId} {h : Nat → Nat} (hk : ky keysC h) {x1 : Int32} {S : sT} (sz : Nat) {Q : Int32 → sT → Prop} (hd : wp_X4_mean x1 S Q) : Met l yX4_mean (wsU yX4_mean cX4_mean 7 (some .int)) rm_X4_mean (va_Pc [.ref (h 1000), .int x1] (gP D cA true keysC h (wC h cA) S sz)) (va_Qi Q (wB D (wC h cA)) (aK keysC h sz)) 0 0 (aK keysC h sz) :=
  mk_i (by decide) hk (Nat.le_of_ble_eq_true rfl) (fun p e s m below meth c Z ls C0 hret hP hS hl => bk_X4_mean C0 hret hP hS hd hl)
abbrev rm_X4_power : Room := { frames := 0, cells := 0, slots := 0, locals := 0 }
def wb_X4_power_5 (Q : Int64 → sT → Prop) (K5 : Int32 → Int32 → Int64 → Int32 → sT → Prop) (x0 : Int32) (x1 : Int32) (x2 : Int64) (x4 : Int32) (S : sT) : Prop :=
  ((x1 ≤ x4 → Q x2 S) ∧ (¬ x1 ≤ x4 → K5 x0 x1 (x2 * x0.toInt64) (x4 + (1 : Int32)) S))
set_option maxHeartbeats 4000000 in
set_option maxRecDepth 100000 in
theorem bk_X4_power_5 {p : Program} {l : Launch} {e : Env} {s : State} {m : MethodId} {args : Array Value} {below : List Frame} {meth : Method} {c : Code} {Z : State → Prop} {D : va_G} {cA : Nat → ClassId} {h : Nat → Nat} {Q : Int64 → sT → Prop} (C0 : cx p s m args c cX4_power 5 RX4 D cA true keysC h) (hret : rtL p l e rm_X4_power s m args below meth c cX4_power Z D (wC h cA) (aK keysC h s.heap.size) Q) {K5 : Int32 → Int32 → Int64 → Int32 → sT → Prop} (k5 : ∀ (x0 : Int32) (x1 : Int32) (x2 : Int64) (x4 : Int32) (S : sT) (H : Heap) (locs : List Loc) (ls : Array Slot), K5 x0 x1 x2 x4 S → va_P D vwCl (wC h cA S) H → va_S (aK keysC h s.heap.size) s.heap H locs → lv_has ls 5 [(0, .int x0), (1, .int x1), (2, .long x2), (4, .int x4)] → W p l e rm_X4_power s m args below meth c H locs 0 0 Z (F0 m 5 ls [])) {x0 : Int32} {x1 : Int32} {x2 : Int64} {x4 : Int32} {S : sT} {H : Heap} {locs : List Loc} {ls : Array Slot} (hP : va_P D vwCl (wC h cA S) H) (hS : va_S (aK keysC h s.heap.size) s.heap H locs) (hd : wb_X4_power_5 Q K5 x0 x1 x2 x4 S) (hl : lv_has ls 5 [(0, .int x0), (1, .int x1), (2, .long x2), (4, .int x4)]) : W p l e rm_X4_power s m args below meth c H locs 0 0 Z (F0 m 5 ls []) := by
  obtain ⟨⟨hx, hb, hml, hown, hts⟩, hK, -, -⟩ := id C0
  unfold wb_X4_power_5 at hd
  refine lv_iload hx hb dX4_power_5 (lv_at hl 3 rfl) ?_
  refine lv_iload_n hx hb dX4_power_7 rfl (lv_at hl 1 rfl) ?_
  refine lv_icmp_ge (tgt := 22) hx hb dX4_power_8 (by decide) (fun hc => ?_) (fun hc => ?_)
  · have hd := hd.1 hc
    refine lv_lload_n hx hb dX4_power_22 rfl (lv_at hl 2 rfl) ?_
    exact hret _ _ _ _ _ _ hd hP hS dX4_power_23
  · have hd := hd.2 hc
    refine lv_lload_n hx hb dX4_power_11 rfl (lv_at hl 2 rfl) ?_
    refine lv_iload_n hx hb dX4_power_12 rfl (lv_at hl 0 rfl) ?_
    refine lv_i2l hx hb dX4_power_13 rfl ?_
    refine lv_lmul hx hb dX4_power_14 ?_
    refine lv_lstore_n (lv' := [(2, .long (x2 * x0.toInt64)), (0, .int x0), (1, .int x1), (4, .int x4)]) hx hb dX4_power_15 rfl hl (by decide) rfl (fun ls hl => ?_)
    refine lv_iinc (v := x4 + (1 : Int32)) (lv' := [(4, .int (x4 + (1 : Int32))), (2, .long (x2 * x0.toInt64)), (0, .int x0), (1, .int x1)]) hx hb dX4_power_16 hl (k := 3) rfl rfl (by decide) rfl (fun ls hl => ?_)
    refine lv_goto (tgt := 5) hx hb dX4_power_19 (by decide) ?_
    exact k5 _ _ _ _ _ _ _ _ hd hP hS (lv_sub hl [2, 3, 1, 0] rfl)
def wl_X4_power_5 (Q : Int64 → sT → Prop) : Nat → Int32 → Int32 → Int64 → Int32 → sT → Prop
  | 0, _, _, _, _ => fun _ => False
  | n + 1, x0, x1, x2, x4 => fun S => wb_X4_power_5 Q (fun x0 x1 x2 x4 S => wl_X4_power_5 Q n x0 x1 x2 x4 S) x0 x1 x2 x4 S
theorem bl_X4_power_5 {p : Program} {l : Launch} {e : Env} {s : State} {m : MethodId} {args : Array Value} {below : List Frame} {meth : Method} {c : Code} {Z : State → Prop} {D : va_G} {cA : Nat → ClassId} {h : Nat → Nat} {Q : Int64 → sT → Prop} (C0 : cx p s m args c cX4_power 5 RX4 D cA true keysC h) (hret : rtL p l e rm_X4_power s m args below meth c cX4_power Z D (wC h cA) (aK keysC h s.heap.size) Q) : ∀ (n : Nat) (x0 : Int32) (x1 : Int32) (x2 : Int64) (x4 : Int32) (S : sT) (H : Heap) (locs : List Loc) (ls : Array Slot), va_P D vwCl (wC h cA S) H → va_S (aK keysC h s.heap.size) s.heap H locs → wl_X4_power_5 Q n x0 x1 x2 x4 S → lv_has ls 5 [(0, .int x0), (1, .int x1), (2, .long x2), (4, .int x4)] → W p l e rm_X4_power s m args below meth c H locs 0 0 Z (F0 m 5 ls []) := by
  intro n
  induction n with
  | zero => intro x0 x1 x2 x4 S H locs ls hP hS hd hl; exact (show False from hd).elim
  | succ n ih => intro x0 x1 x2 x4 S H locs ls hP hS hd hl; exact bk_X4_power_5 C0 hret (fun x0 x1 x2 x4 S H locs ls hd hP hS hl => ih x0 x1 x2 x4 S H locs ls hP hS hd hl) hP hS hd hl
def wp_X4_power (x0 : Int32) (x1 : Int32) (S : sT) (Q : Int64 → sT → Prop) : Prop :=
  ∃ n : Nat, wl_X4_power_5 Q n x0 x1 (1 : Int64) (0 : Int32) S
set_option maxHeartbeats 4000000 in
set_option maxRecDepth 100000 in
theorem bk_X4_power {p : Program} {l : Launch} {e : Env} {s : State} {m : MethodId} {args : Array Value} {below : List Frame} {meth : Method} {c : Code} {Z : State → Prop} {D : va_G} {cA : Nat → ClassId} {h : Nat → Nat} {Q : Int64 → sT → Prop} (C0 : cx p s m args c cX4_power 5 RX4 D cA true keysC h) (hret : rtL p l e rm_X4_power s m args below meth c cX4_power Z D (wC h cA) (aK keysC h s.heap.size) Q) {x0 : Int32} {x1 : Int32} {S : sT} {H : Heap} {locs : List Loc} {ls : Array Slot} (hP : va_P D vwCl (wC h cA S) H) (hS : va_S (aK keysC h s.heap.size) s.heap H locs) (hd : wp_X4_power x0 x1 S Q) (hl : lv_has ls 5 [(0, .int x0), (1, .int x1)]) : W p l e rm_X4_power s m args below meth c H locs 0 0 Z (F0 m 0 ls []) := by
  obtain ⟨⟨hx, hb, hml, hown, hts⟩, hK, -, -⟩ := id C0
  unfold wp_X4_power at hd
  refine lv_lconst (v := 1) hx hb dX4_power_0 (by decide) ?_
  refine lv_lstore_n (lv' := [(2, .long (1 : Int64)), (0, .int x0), (1, .int x1)]) hx hb dX4_power_1 rfl hl (by decide) rfl (fun ls hl => ?_)
  refine lv_iconst (v := 0) hx hb dX4_power_2 (by decide) ?_
  refine lv_istore (lv' := [(4, .int (0 : Int32)), (2, .long (1 : Int64)), (0, .int x0), (1, .int x1)]) hx hb dX4_power_3 hl (by decide) rfl (fun ls hl => ?_)
  obtain ⟨n_1, hd⟩ := hd
  exact bl_X4_power_5 C0 hret _ _ _ _ _ _ _ _ _ hP hS hd (lv_sub hl [2, 3, 1, 0] rfl)
theorem c_X4_power (l : Launch) {D : va_G} {cA : Nat → ClassId} {h : Nat → Nat} (hk : ky keysC h) {x0 : Int32} {x1 : Int32} {S : sT} (sz : Nat) {Q : Int64 → sT → Prop} (hd : wp_X4_power x0 x1 S Q) : Met l yX4_power (wsU yX4_power cX4_power 5 (some .long)) rm_X4_power (va_Pc [.int x0, .int x1] (gP D cA true keysC h (wC h cA) S sz)) (va_Ql Q (wB D (wC h cA)) (aK keysC h sz)) 0 0 (aK keysC h sz) :=
  mk_l (by decide) hk (Nat.le_of_ble_eq_true rfl) (fun p e s m below meth c Z ls C0 hret hP hS hl => bk_X4_power C0 hret hP hS hd hl)
abbrev rm_X4_tellPart : Room := { frames := 2, cells := 0, slots := 0, locals := 50 }
def wp_X4_tellPart (x1 : Int64) (x3 : Int64) (S : sT) (Q : sT → Prop) : Prop :=
  wp_X4_greatestDivisor x1 x3 S (fun r_1 S_1 => (¬ r_1 = 0) ∧ (¬ r_1 = 0) ∧ Q (uL (uL S_1 14 (x1 / r_1)) 15 (x3 / r_1)))
set_option maxHeartbeats 4000000 in
set_option maxRecDepth 100000 in
theorem bk_X4_tellPart {p : Program} {l : Launch} {e : Env} {s : State} {m : MethodId} {args : Array Value} {below : List Frame} {meth : Method} {c : Code} {Z : State → Prop} {D : va_G} {cA : Nat → ClassId} {h : Nat → Nat} {Q : sT → Prop} (C0 : cx p s m args c cX4_tellPart 7 RX4 D cA true keysC h) (hret : rtV p l e rm_X4_tellPart s m args below meth c cX4_tellPart Z D (wC h cA) (aK keysC h s.heap.size) Q) {x1 : Int64} {x3 : Int64} {S : sT} {H : Heap} {locs : List Loc} {ls : Array Slot} (hP : va_P D vwCl (wC h cA S) H) (hS : va_S (aK keysC h s.heap.size) s.heap H locs) (hd : wp_X4_tellPart x1 x3 S Q) (hl : lv_has ls 7 [(0, .ref (h 1000)), (1, .long x1), (3, .long x3)]) : W p l e rm_X4_tellPart s m args below meth c H locs 0 0 Z (F0 m 0 ls []) := by
  obtain ⟨⟨hx, hb, hml, hown, hts⟩, hK, -, -⟩ := id C0
  unfold wp_X4_tellPart at hd
  refine lv_lload_n hx hb dX4_tellPart_0 rfl (lv_at hl 1 rfl) ?_
  refine lv_lload_n hx hb dX4_tellPart_1 rfl (lv_at hl 2 rfl) ?_
  refine cl_Sl (n := 2) (rest := []) C0 hP hS (c_X4_greatestDivisor l C0.2.2.1 _ hd) (lwG_S lm_X4_316 ls_X4_greatestDivisor lz_RX4 lc_X4_greatestDivisor) (by decide +kernel) rfl rfl (Nat.le_of_ble_eq_true rfl) ⟨rfl, rfl⟩ ⟨by decide, by decide⟩ dX4_tellPart_2 hl.1 ⟨Nat.zero_le _, Nat.zero_le _⟩ (fun r_1 S_1 H locs hd hP hS => ?_)
  refine lv_lstore (lv' := [(5, .long r_1), (0, .ref (h 1000)), (1, .long x1), (3, .long x3)]) hx hb dX4_tellPart_5 hl (by decide) rfl (fun ls hl => ?_)
  refine lv_aload_n hx hb dX4_tellPart_7 rfl (lv_at hl 1 rfl) ?_
  refine lv_lload_n hx hb dX4_tellPart_8 rfl (lv_at hl 2 rfl) ?_
  refine lv_lload hx hb dX4_tellPart_9 (lv_at hl 0 rfl) ?_
  obtain ⟨h_2, hd⟩ := hd
  refine lv_ldiv hx hb dX4_tellPart_11 h_2 ?_
  refine pf_X4_287 C0 hP hS dX4_tellPart_12 (fun H locs hP hS => ?_)
  refine lv_aload_n hx hb dX4_tellPart_15 rfl (lv_at hl 1 rfl) ?_
  refine lv_lload_n hx hb dX4_tellPart_16 rfl (lv_at hl 3 rfl) ?_
  refine lv_lload hx hb dX4_tellPart_17 (lv_at hl 0 rfl) ?_
  obtain ⟨h_3, hd⟩ := hd
  refine lv_ldiv hx hb dX4_tellPart_19 h_3 ?_
  refine pf_X4_74 C0 hP hS dX4_tellPart_20 (fun H locs hP hS => ?_)
  exact hret _ _ _ _ _ hd hP hS dX4_tellPart_23
theorem c_X4_tellPart (l : Launch) {D : va_G} {cA : Nat → ClassId} {h : Nat → Nat} (hk : ky keysC h) {x1 : Int64} {x3 : Int64} {S : sT} (sz : Nat) {Q : sT → Prop} (hd : wp_X4_tellPart x1 x3 S Q) : Met l yX4_tellPart (wsU yX4_tellPart cX4_tellPart 7 none) rm_X4_tellPart (va_Pc [.ref (h 1000), .long x1, .long x3] (gP D cA true keysC h (wC h cA) S sz)) (va_Qv Q (wB D (wC h cA)) (aK keysC h sz)) 0 0 (aK keysC h sz) :=
  mk_v (by decide) hk (Nat.le_of_ble_eq_true rfl) (fun p e s m below meth c Z ls C0 hret hP hS hl => bk_X4_tellPart C0 hret hP hS hd hl)
abbrev rm_X4_weighPlaces : Room := { frames := 3, cells := 0, slots := 0, locals := 73 }
def wb_X4_weighPlaces_101 (Q : sT → Prop) (K21 : Int32 → Int32 → Int32 → sT → Prop) (x1 : Int32) (x2 : Int32) (x3 : Int32) (S : sT) : Prop :=
  K21 x1 x2 (x3 + (1 : Int32)) S
set_option maxHeartbeats 4000000 in
set_option maxRecDepth 100000 in
theorem bk_X4_weighPlaces_101 {p : Program} {l : Launch} {e : Env} {s : State} {m : MethodId} {args : Array Value} {below : List Frame} {meth : Method} {c : Code} {Z : State → Prop} {D : va_G} {cA : Nat → ClassId} {h : Nat → Nat} {Q : sT → Prop} (C0 : cx p s m args c cX4_weighPlaces 7 RX4 D cA true keysC h) (hret : rtV p l e rm_X4_weighPlaces s m args below meth c cX4_weighPlaces Z D (wC h cA) (aK keysC h s.heap.size) Q) {K21 : Int32 → Int32 → Int32 → sT → Prop} (k21 : ∀ (x1 : Int32) (x2 : Int32) (x3 : Int32) (S : sT) (H : Heap) (locs : List Loc) (ls : Array Slot), K21 x1 x2 x3 S → va_P D vwCl (wC h cA S) H → va_S (aK keysC h s.heap.size) s.heap H locs → lv_has ls 7 [(0, .ref (h 1000)), (1, .int x1), (2, .int x2), (3, .int x3)] → W p l e rm_X4_weighPlaces s m args below meth c H locs 0 0 Z (F0 m 21 ls [])) {x1 : Int32} {x2 : Int32} {x3 : Int32} {S : sT} {H : Heap} {locs : List Loc} {ls : Array Slot} (hP : va_P D vwCl (wC h cA S) H) (hS : va_S (aK keysC h s.heap.size) s.heap H locs) (hd : wb_X4_weighPlaces_101 Q K21 x1 x2 x3 S) (hl : lv_has ls 7 [(0, .ref (h 1000)), (1, .int x1), (2, .int x2), (3, .int x3)]) : W p l e rm_X4_weighPlaces s m args below meth c H locs 0 0 Z (F0 m 101 ls []) := by
  obtain ⟨⟨hx, hb, hml, hown, hts⟩, hK, -, -⟩ := id C0
  unfold wb_X4_weighPlaces_101 at hd
  refine lv_iinc (v := x3 + (1 : Int32)) (lv' := [(3, .int (x3 + (1 : Int32))), (0, .ref (h 1000)), (1, .int x1), (2, .int x2)]) hx hb dX4_weighPlaces_101 hl (k := 3) rfl rfl (by decide) rfl (fun ls hl => ?_)
  refine lv_goto (tgt := 21) hx hb dX4_weighPlaces_104 (by decide) ?_
  exact k21 _ _ _ _ _ _ _ hd hP hS (lv_sub hl [1, 2, 3, 0] rfl)
def wb_X4_weighPlaces_21 (Q : sT → Prop) (K21 : Int32 → Int32 → Int32 → sT → Prop) (x1 : Int32) (x2 : Int32) (x3 : Int32) (S : sT) : Prop :=
  wp_X1_setCount 0 S (fun r_1 S_1 => ((r_1 ≤ x3 → Q S_1) ∧ (¬ r_1 ≤ x3 → wp_X4_isPart x3 (vI S_1 29) S_1 (fun r_2 S_2 => ((r_2 = 0 → wb_X4_weighPlaces_101 Q K21 x1 x2 x3 S_2) ∧ (¬ r_2 = 0 → wp_X0_ride x1 x3 S_2 (fun r_3 S_3 => wp_J6_bitCount_0f7a4 ((vI S_3 29) &&& (x3 ^^^ (-1 : Int32))) S_3 (fun r_4 S_4 => wp_X4_power x2 r_4 S_4 (fun r_5 S_5 => (vp_in r_3 21) ∧ wp_J6_bitCount_0f7a4 x3 S_5 (fun r_7 S_7 => wp_X4_power ((12 : Int32) - x2) r_7 S_7 (fun r_8 S_8 => (vp_in r_3 21) ∧ wb_X4_weighPlaces_101 Q K21 x1 x2 x3 (uB S_8 11 (vp_updL (vB S_8 11) r_3.toNatClampNeg ((vB S_5 11 r_3.toNatClampNeg) + (r_5 * r_8)))))))))))))))
set_option maxHeartbeats 4000000 in
set_option maxRecDepth 100000 in
theorem bk_X4_weighPlaces_21 {p : Program} {l : Launch} {e : Env} {s : State} {m : MethodId} {args : Array Value} {below : List Frame} {meth : Method} {c : Code} {Z : State → Prop} {D : va_G} {cA : Nat → ClassId} {h : Nat → Nat} {Q : sT → Prop} (C0 : cx p s m args c cX4_weighPlaces 7 RX4 D cA true keysC h) (hret : rtV p l e rm_X4_weighPlaces s m args below meth c cX4_weighPlaces Z D (wC h cA) (aK keysC h s.heap.size) Q) {K21 : Int32 → Int32 → Int32 → sT → Prop} (k21 : ∀ (x1 : Int32) (x2 : Int32) (x3 : Int32) (S : sT) (H : Heap) (locs : List Loc) (ls : Array Slot), K21 x1 x2 x3 S → va_P D vwCl (wC h cA S) H → va_S (aK keysC h s.heap.size) s.heap H locs → lv_has ls 7 [(0, .ref (h 1000)), (1, .int x1), (2, .int x2), (3, .int x3)] → W p l e rm_X4_weighPlaces s m args below meth c H locs 0 0 Z (F0 m 21 ls [])) {x1 : Int32} {x2 : Int32} {x3 : Int32} {S : sT} {H : Heap} {locs : List Loc} {ls : Array Slot} (hP : va_P D vwCl (wC h cA S) H) (hS : va_S (aK keysC h s.heap.size) s.heap H locs) (hd : wb_X4_weighPlaces_21 Q K21 x1 x2 x3 S) (hl : lv_has ls 7 [(0, .ref (h 1000)), (1, .int x1), (2, .int x2), (3, .int x3)]) : W p l e rm_X4_weighPlaces s m args below meth c H locs 0 0 Z (F0 m 21 ls []) := by
  obtain ⟨⟨hx, hb, hml, hown, hts⟩, hK, -, -⟩ := id C0
  unfold wb_X4_weighPlaces_21 at hd
  refine lv_iload_n hx hb dX4_weighPlaces_21 rfl (lv_at hl 3 rfl) ?_
  refine lv_aload_n hx hb dX4_weighPlaces_22 rfl (lv_at hl 0 rfl) ?_
  refine gf_X4_24 C0 hP dX4_weighPlaces_23 ?_
  refine cl_VNi (n := 0) (rest := [.int x3]) C0 hP hS (c_X1_setCount l C0.2.2.1 (by decide) _ hd) (lwG_C lc_X1_setCount) (by decide +kernel : (RX4, 222, yX1_setCount, "DreamTrain") ∈ nestM) lz_RX1 li_X1_setCount lx_X1_setCount (by decide +kernel) (oL_at h cA _ 0 (by decide)) rfl rfl rfl (Nat.le_of_ble_eq_true rfl) ⟨rfl, rfl⟩ ⟨by decide, by decide⟩ dX4_weighPlaces_26 hl.1 ⟨Nat.zero_le _, Nat.zero_le _⟩ (fun r_1 S_1 H locs hd hP hS => ?_)
  refine lv_icmp_ge (tgt := 107) hx hb dX4_weighPlaces_29 (by decide) (fun hc => ?_) (fun hc => ?_)
  · have hd := hd.1 hc
    exact hret _ _ _ _ _ hd hP hS dX4_weighPlaces_107
  · have hd := hd.2 hc
    refine lv_iload_n hx hb dX4_weighPlaces_32 rfl (lv_at hl 3 rfl) ?_
    refine lv_aload_n hx hb dX4_weighPlaces_33 rfl (lv_at hl 0 rfl) ?_
    refine gf_X4_24 C0 hP dX4_weighPlaces_34 ?_
    refine gf_X4_196_0 C0 hP dX4_weighPlaces_37 ?_
    refine cl_Si (n := 2) (rest := []) C0 hP hS (c_X4_isPart l C0.2.2.1 _ hd) (lwG_S lm_X4_231 ls_X4_isPart lz_RX4 lc_X4_isPart) (by decide +kernel) rfl rfl (Nat.le_of_ble_eq_true rfl) ⟨rfl, rfl⟩ ⟨by decide, by decide⟩ dX4_weighPlaces_40 hl.1 ⟨Nat.zero_le _, Nat.zero_le _⟩ (fun r_2 S_2 H locs hd hP hS => ?_)
    refine lv_if_eq (tgt := 101) hx hb dX4_weighPlaces_43 (by decide) (fun hc => ?_) (fun hc => ?_)
    · have hd := hd.1 hc
      exact bk_X4_weighPlaces_101 C0 hret k21 hP hS hd (lv_sub hl [0, 1, 2, 3] rfl)
    · have hd := hd.2 hc
      refine lv_aload_n hx hb dX4_weighPlaces_46 rfl (lv_at hl 0 rfl) ?_
      refine gf_X4_49 C0 hP dX4_weighPlaces_47 ?_
      refine lv_iload_n hx hb dX4_weighPlaces_50 rfl (lv_at hl 1 rfl) ?_
      refine lv_iload_n hx hb dX4_weighPlaces_51 rfl (lv_at hl 3 rfl) ?_
      refine cl_VNi (n := 2) (rest := []) C0 hP hS (c_X0_ride l C0.2.2.1 _ hd) (lwG_C lc_X0_ride) (by decide +kernel : (RX4, 199, yX0_ride, "DreamTrain") ∈ nestM) lz_RX0 li_X0_ride lx_X0_ride (by decide +kernel) (oJ_at h cA _) rfl rfl rfl (Nat.le_of_ble_eq_true rfl) ⟨rfl, rfl⟩ ⟨by decide, by decide⟩ dX4_weighPlaces_52 hl.1 ⟨Nat.zero_le _, Nat.zero_le _⟩ (fun r_3 S_3 H locs hd hP hS => ?_)
      refine lv_istore (lv' := [(4, .int r_3), (0, .ref (h 1000)), (1, .int x1), (2, .int x2), (3, .int x3)]) hx hb dX4_weighPlaces_55 hl (by decide) rfl (fun ls hl => ?_)
      refine lv_iload_n hx hb dX4_weighPlaces_57 rfl (lv_at hl 3 rfl) ?_
      refine lv_aload_n hx hb dX4_weighPlaces_58 rfl (lv_at hl 1 rfl) ?_
      refine gf_X4_24 C0 hP dX4_weighPlaces_59 ?_
      refine gf_X4_196_0 C0 hP dX4_weighPlaces_62 ?_
      refine lv_iload_n hx hb dX4_weighPlaces_65 rfl (lv_at hl 4 rfl) ?_
      refine lv_iconst (v := (-1)) hx hb dX4_weighPlaces_66 (by decide) ?_
      refine lv_ixor hx hb dX4_weighPlaces_67 ?_
      refine lv_iand hx hb dX4_weighPlaces_68 ?_
      refine cl_Si (n := 1) (rest := [.int x2]) C0 hP hS (c_J6_bitCount_0f7a4 l C0.2.2.1 _ hd) (lwG_S lm_X4_226 ls_J6_bitCount_0f7a4 lz_RJ6 lc_J6_bitCount_0f7a4) (by decide +kernel) rfl rfl (Nat.le_of_ble_eq_true rfl) ⟨rfl, rfl⟩ ⟨by decide, by decide⟩ dX4_weighPlaces_69 hl.1 ⟨Nat.zero_le _, Nat.zero_le _⟩ (fun r_4 S_4 H locs hd hP hS => ?_)
      refine cl_Sl (n := 2) (rest := []) C0 hP hS (c_X4_power l C0.2.2.1 _ hd) (lwG_S lm_X4_271 ls_X4_power lz_RX4 lc_X4_power) (by decide +kernel) rfl rfl (Nat.le_of_ble_eq_true rfl) ⟨rfl, rfl⟩ ⟨by decide, by decide⟩ dX4_weighPlaces_72 hl.1 ⟨Nat.zero_le _, Nat.zero_le _⟩ (fun r_5 S_5 H locs hd hP hS => ?_)
      refine lv_lstore (lv' := [(5, .long r_5), (4, .int r_3), (0, .ref (h 1000)), (1, .int x1), (2, .int x2), (3, .int x3)]) hx hb dX4_weighPlaces_75 hl (by decide) rfl (fun ls hl => ?_)
      refine lv_aload_n hx hb dX4_weighPlaces_77 rfl (lv_at hl 2 rfl) ?_
      refine gf_X4_66 C0 hP dX4_weighPlaces_78 ?_
      refine lv_iload hx hb dX4_weighPlaces_81 (lv_at hl 1 rfl) ?_
      refine lv_dup2_11 hx hb dX4_weighPlaces_83 rfl rfl ?_
      obtain ⟨h_6, hd⟩ := hd
      refine ldL (by decide) C0 hP h_6 dX4_weighPlaces_84 ?_
      refine lv_lload hx hb dX4_weighPlaces_85 (lv_at hl 0 rfl) ?_
      refine lv_bipush (v := 12) hx hb dX4_weighPlaces_87 (by decide) ?_
      refine lv_iload_n hx hb dX4_weighPlaces_89 rfl (lv_at hl 4 rfl) ?_
      refine lv_isub hx hb dX4_weighPlaces_90 ?_
      refine lv_iload_n hx hb dX4_weighPlaces_91 rfl (lv_at hl 5 rfl) ?_
      refine cl_Si (n := 1) (rest := [.int ((12 : Int32) - x2), .long r_5, .long (vB S_5 11 r_3.toNatClampNeg), .int r_3, .ref (h 11)]) C0 hP hS (c_J6_bitCount_0f7a4 l C0.2.2.1 _ hd) (lwG_S lm_X4_226 ls_J6_bitCount_0f7a4 lz_RJ6 lc_J6_bitCount_0f7a4) (by decide +kernel) rfl rfl (Nat.le_of_ble_eq_true rfl) ⟨rfl, rfl⟩ ⟨by decide, by decide⟩ dX4_weighPlaces_92 hl.1 ⟨Nat.zero_le _, Nat.zero_le _⟩ (fun r_7 S_7 H locs hd hP hS => ?_)
      refine cl_Sl (n := 2) (rest := [.long r_5, .long (vB S_5 11 r_3.toNatClampNeg), .int r_3, .ref (h 11)]) C0 hP hS (c_X4_power l C0.2.2.1 _ hd) (lwG_S lm_X4_271 ls_X4_power lz_RX4 lc_X4_power) (by decide +kernel) rfl rfl (Nat.le_of_ble_eq_true rfl) ⟨rfl, rfl⟩ ⟨by decide, by decide⟩ dX4_weighPlaces_95 hl.1 ⟨Nat.zero_le _, Nat.zero_le _⟩ (fun r_8 S_8 H locs hd hP hS => ?_)
      refine lv_lmul hx hb dX4_weighPlaces_98 ?_
      refine lv_ladd hx hb dX4_weighPlaces_99 ?_
      obtain ⟨h_9, hd⟩ := hd
      refine stL (by decide) C0 hP hS h_9 dX4_weighPlaces_100 (fun H locs hP hS => ?_)
      exact bk_X4_weighPlaces_101 C0 hret k21 hP hS hd (lv_sub hl [2, 3, 4, 5] rfl)
def wl_X4_weighPlaces_21 (Q : sT → Prop) : Nat → Int32 → Int32 → Int32 → sT → Prop
  | 0, _, _, _ => fun _ => False
  | n + 1, x1, x2, x3 => fun S => wb_X4_weighPlaces_21 Q (fun x1 x2 x3 S => wl_X4_weighPlaces_21 Q n x1 x2 x3 S) x1 x2 x3 S
theorem bl_X4_weighPlaces_21 {p : Program} {l : Launch} {e : Env} {s : State} {m : MethodId} {args : Array Value} {below : List Frame} {meth : Method} {c : Code} {Z : State → Prop} {D : va_G} {cA : Nat → ClassId} {h : Nat → Nat} {Q : sT → Prop} (C0 : cx p s m args c cX4_weighPlaces 7 RX4 D cA true keysC h) (hret : rtV p l e rm_X4_weighPlaces s m args below meth c cX4_weighPlaces Z D (wC h cA) (aK keysC h s.heap.size) Q) : ∀ (n : Nat) (x1 : Int32) (x2 : Int32) (x3 : Int32) (S : sT) (H : Heap) (locs : List Loc) (ls : Array Slot), va_P D vwCl (wC h cA S) H → va_S (aK keysC h s.heap.size) s.heap H locs → wl_X4_weighPlaces_21 Q n x1 x2 x3 S → lv_has ls 7 [(0, .ref (h 1000)), (1, .int x1), (2, .int x2), (3, .int x3)] → W p l e rm_X4_weighPlaces s m args below meth c H locs 0 0 Z (F0 m 21 ls []) := by
  intro n
  induction n with
  | zero => intro x1 x2 x3 S H locs ls hP hS hd hl; exact (show False from hd).elim
  | succ n ih => intro x1 x2 x3 S H locs ls hP hS hd hl; exact bk_X4_weighPlaces_21 C0 hret (fun x1 x2 x3 S H locs ls hd hP hS hl => ih x1 x2 x3 S H locs ls hP hS hd hl) hP hS hd hl
def wp_X4_weighPlaces (x1 : Int32) (x2 : Int32) (S : sT) (Q : sT → Prop) : Prop :=
  wp_J7_fill_d0a16 11 (0 : Int64) S (fun S_1 => wp_X0_setOut 0 S_1 (fun S_2 => ∃ n : Nat, wl_X4_weighPlaces_21 Q n x1 x2 (0 : Int32) S_2))
set_option maxHeartbeats 4000000 in
set_option maxRecDepth 100000 in
theorem bk_X4_weighPlaces {p : Program} {l : Launch} {e : Env} {s : State} {m : MethodId} {args : Array Value} {below : List Frame} {meth : Method} {c : Code} {Z : State → Prop} {D : va_G} {cA : Nat → ClassId} {h : Nat → Nat} {Q : sT → Prop} (C0 : cx p s m args c cX4_weighPlaces 7 RX4 D cA true keysC h) (hret : rtV p l e rm_X4_weighPlaces s m args below meth c cX4_weighPlaces Z D (wC h cA) (aK keysC h s.heap.size) Q) {x1 : Int32} {x2 : Int32} {S : sT} {H : Heap} {locs : List Loc} {ls : Array Slot} (hP : va_P D vwCl (wC h cA S) H) (hS : va_S (aK keysC h s.heap.size) s.heap H locs) (hd : wp_X4_weighPlaces x1 x2 S Q) (hl : lv_has ls 7 [(0, .ref (h 1000)), (1, .int x1), (2, .int x2)]) : W p l e rm_X4_weighPlaces s m args below meth c H locs 0 0 Z (F0 m 0 ls []) := by
  obtain ⟨⟨hx, hb, hml, hown, hts⟩, hK, -, -⟩ := id C0
  unfold wp_X4_weighPlaces at hd
  refine lv_aload_n hx hb dX4_weighPlaces_0 rfl (lv_at hl 0 rfl) ?_
  refine gf_X4_66 C0 hP dX4_weighPlaces_1 ?_
  refine lv_lconst (v := 0) hx hb dX4_weighPlaces_4 (by decide) ?_
  refine cl_Sv (n := 2) (rest := []) C0 hP hS (c_J7_fill_d0a16 l C0.2.2.1 (by decide) _ hd) (lwG_S lm_X4_310 ls_J7_fill_d0a16 lz_RJ7 lc_J7_fill_d0a16) (by decide +kernel) rfl rfl (Nat.le_of_ble_eq_true rfl) ⟨rfl, rfl⟩ ⟨by decide, by decide⟩ dX4_weighPlaces_5 hl.1 ⟨Nat.zero_le _, Nat.zero_le _⟩ (fun S_1 H locs hd hP hS => ?_)
  refine lv_aload_n hx hb dX4_weighPlaces_8 rfl (lv_at hl 0 rfl) ?_
  refine gf_X4_49 C0 hP dX4_weighPlaces_9 ?_
  refine lv_aload_n hx hb dX4_weighPlaces_12 rfl (lv_at hl 0 rfl) ?_
  refine gf_X4_24 C0 hP dX4_weighPlaces_13 ?_
  refine cl_VNv (n := 1) (rest := []) C0 hP hS (c_X0_setOut l C0.2.2.1 (by decide) _ hd) (lwG_C lc_X0_setOut) (by decide +kernel : (RX4, 193, yX0_setOut, "DreamTrain") ∈ nestM) lz_RX0 li_X0_setOut lx_X0_setOut (by decide +kernel) (oJ_at h cA _) rfl rfl rfl (Nat.le_of_ble_eq_true rfl) ⟨rfl, rfl⟩ ⟨by decide, by decide⟩ dX4_weighPlaces_16 hl.1 ⟨Nat.zero_le _, Nat.zero_le _⟩ (fun S_2 H locs hd hP hS => ?_)
  refine lv_iconst (v := 0) hx hb dX4_weighPlaces_19 (by decide) ?_
  refine lv_istore_n (lv' := [(3, .int (0 : Int32)), (0, .ref (h 1000)), (1, .int x1), (2, .int x2)]) hx hb dX4_weighPlaces_20 rfl hl (by decide) rfl (fun ls hl => ?_)
  obtain ⟨n_3, hd⟩ := hd
  exact bl_X4_weighPlaces_21 C0 hret _ _ _ _ _ _ _ _ hP hS hd (lv_sub hl [1, 2, 3, 0] rfl)
theorem c_X4_weighPlaces (l : Launch) {D : va_G} {cA : Nat → ClassId} {h : Nat → Nat} (hk : ky keysC h) {x1 : Int32} {x2 : Int32} {S : sT} (sz : Nat) {Q : sT → Prop} (hd : wp_X4_weighPlaces x1 x2 S Q) : Met l yX4_weighPlaces (wsU yX4_weighPlaces cX4_weighPlaces 7 none) rm_X4_weighPlaces (va_Pc [.ref (h 1000), .int x1, .int x2] (gP D cA true keysC h (wC h cA) S sz)) (va_Qv Q (wB D (wC h cA)) (aK keysC h sz)) 0 0 (aK keysC h sz) :=
  mk_v (by decide) hk (Nat.le_of_ble_eq_true rfl) (fun p e s m below meth c Z ls C0 hret hP hS hl => bk_X4_weighPlaces C0 hret hP hS hd hl)
abbrev rm_X4_mid : Room := { frames := 4, cells := 0, slots := 0, locals := 99 }
def wb_X4_mid_44 (Q : Int32 → sT → Prop) (K44 : Int64 → Int32 → sT → Prop) (x3 : Int64) (x5 : Int32) (S : sT) : Prop :=
  (((20 : Int32) < x5 → wp_J6_bitCount_0f7a4 (vI S 29) S (fun r_1 S_1 => wp_X4_power (12 : Int32) r_1 S_1 (fun r_2 S_2 => wp_X4_tellPart x3 r_2 S_2 (fun S_3 => Q (1 : Int32) S_3)))) ∧ (¬ (20 : Int32) < x5 → (vp_in x5 21) ∧ K44 (x3 + (x5.toInt64 * (vB S 11 x5.toNatClampNeg))) (x5 + (1 : Int32)) S))
set_option maxHeartbeats 4000000 in
set_option maxRecDepth 100000 in
theorem bk_X4_mid_44 {p : Program} {l : Launch} {e : Env} {s : State} {m : MethodId} {args : Array Value} {below : List Frame} {meth : Method} {c : Code} {Z : State → Prop} {D : va_G} {cA : Nat → ClassId} {h : Nat → Nat} {Q : Int32 → sT → Prop} (C0 : cx p s m args c cX4_mid 6 RX4 D cA true keysC h) (hret : rtI p l e rm_X4_mid s m args below meth c cX4_mid Z D (wC h cA) (aK keysC h s.heap.size) Q) {K44 : Int64 → Int32 → sT → Prop} (k44 : ∀ (x3 : Int64) (x5 : Int32) (S : sT) (H : Heap) (locs : List Loc) (ls : Array Slot), K44 x3 x5 S → va_P D vwCl (wC h cA S) H → va_S (aK keysC h s.heap.size) s.heap H locs → lv_has ls 6 [(0, .ref (h 1000)), (3, .long x3), (5, .int x5)] → W p l e rm_X4_mid s m args below meth c H locs 0 0 Z (F0 m 44 ls [])) {x3 : Int64} {x5 : Int32} {S : sT} {H : Heap} {locs : List Loc} {ls : Array Slot} (hP : va_P D vwCl (wC h cA S) H) (hS : va_S (aK keysC h s.heap.size) s.heap H locs) (hd : wb_X4_mid_44 Q K44 x3 x5 S) (hl : lv_has ls 6 [(0, .ref (h 1000)), (3, .long x3), (5, .int x5)]) : W p l e rm_X4_mid s m args below meth c H locs 0 0 Z (F0 m 44 ls []) := by
  obtain ⟨⟨hx, hb, hml, hown, hts⟩, hK, -, -⟩ := id C0
  unfold wb_X4_mid_44 at hd
  refine lv_iload hx hb dX4_mid_44 (lv_at hl 2 rfl) ?_
  refine lv_bipush (v := 20) hx hb dX4_mid_46 (by decide) ?_
  refine lv_icmp_gt (tgt := 71) hx hb dX4_mid_48 (by decide) (fun hc => ?_) (fun hc => ?_)
  · have hd := hd.1 hc
    refine lv_aload_n hx hb dX4_mid_71 rfl (lv_at hl 0 rfl) ?_
    refine lv_lload_n hx hb dX4_mid_72 rfl (lv_at hl 1 rfl) ?_
    refine lv_bipush (v := 12) hx hb dX4_mid_73 (by decide) ?_
    refine lv_aload_n hx hb dX4_mid_75 rfl (lv_at hl 0 rfl) ?_
    refine gf_X4_24 C0 hP dX4_mid_76 ?_
    refine gf_X4_196_0 C0 hP dX4_mid_79 ?_
    refine cl_Si (n := 1) (rest := [.int (12 : Int32), .long x3, .ref (h 1000)]) C0 hP hS (c_J6_bitCount_0f7a4 l C0.2.2.1 _ hd) (lwG_S lm_X4_226 ls_J6_bitCount_0f7a4 lz_RJ6 lc_J6_bitCount_0f7a4) (by decide +kernel) rfl rfl (Nat.le_of_ble_eq_true rfl) ⟨rfl, rfl⟩ ⟨by decide, by decide⟩ dX4_mid_82 hl.1 ⟨Nat.zero_le _, Nat.zero_le _⟩ (fun r_1 S_1 H locs hd hP hS => ?_)
    refine cl_Sl (n := 2) (rest := [.long x3, .ref (h 1000)]) C0 hP hS (c_X4_power l C0.2.2.1 _ hd) (lwG_S lm_X4_271 ls_X4_power lz_RX4 lc_X4_power) (by decide +kernel) rfl rfl (Nat.le_of_ble_eq_true rfl) ⟨rfl, rfl⟩ ⟨by decide, by decide⟩ dX4_mid_85 hl.1 ⟨Nat.zero_le _, Nat.zero_le _⟩ (fun r_2 S_2 H locs hd hP hS => ?_)
    refine cl_Vv (n := 2) (rest := []) C0 hP hS (c_X4_tellPart l C0.2.2.1 _ hd) (lwG_V lm_X4_275 li_X4_tellPart lx_X4_tellPart lz_RX4 lc_X4_tellPart) (by decide +kernel) (oD_at h cA _) rfl rfl rfl (Nat.le_of_ble_eq_true rfl) ⟨rfl, rfl⟩ ⟨by decide, by decide⟩ dX4_mid_88 hl.1 ⟨Nat.zero_le _, Nat.zero_le _⟩ (fun S_3 H locs hd hP hS => ?_)
    refine lv_iconst (v := 1) hx hb dX4_mid_91 (by decide) ?_
    exact hret _ _ _ _ _ _ hd hP hS dX4_mid_92
  · have hd := hd.2 hc
    refine lv_lload_n hx hb dX4_mid_51 rfl (lv_at hl 1 rfl) ?_
    refine lv_iload hx hb dX4_mid_52 (lv_at hl 2 rfl) ?_
    refine lv_i2l hx hb dX4_mid_54 rfl ?_
    refine lv_aload_n hx hb dX4_mid_55 rfl (lv_at hl 0 rfl) ?_
    refine gf_X4_66 C0 hP dX4_mid_56 ?_
    refine lv_iload hx hb dX4_mid_59 (lv_at hl 2 rfl) ?_
    obtain ⟨h_4, hd⟩ := hd
    refine ldL (by decide) C0 hP h_4 dX4_mid_61 ?_
    refine lv_lmul hx hb dX4_mid_62 ?_
    refine lv_ladd hx hb dX4_mid_63 ?_
    refine lv_lstore_n (lv' := [(3, .long (x3 + (x5.toInt64 * (vB S 11 x5.toNatClampNeg)))), (0, .ref (h 1000)), (5, .int x5)]) hx hb dX4_mid_64 rfl hl (by decide) rfl (fun ls hl => ?_)
    refine lv_iinc (v := x5 + (1 : Int32)) (lv' := [(5, .int (x5 + (1 : Int32))), (3, .long (x3 + (x5.toInt64 * (vB S 11 x5.toNatClampNeg)))), (0, .ref (h 1000))]) hx hb dX4_mid_65 hl (k := 2) rfl rfl (by decide) rfl (fun ls hl => ?_)
    refine lv_goto (tgt := 44) hx hb dX4_mid_68 (by decide) ?_
    exact k44 _ _ _ _ _ _ hd hP hS (lv_sub hl [2, 1, 0] rfl)
def wl_X4_mid_44 (Q : Int32 → sT → Prop) : Nat → Int64 → Int32 → sT → Prop
  | 0, _, _ => fun _ => False
  | n + 1, x3, x5 => fun S => wb_X4_mid_44 Q (fun x3 x5 S => wl_X4_mid_44 Q n x3 x5 S) x3 x5 S
theorem bl_X4_mid_44 {p : Program} {l : Launch} {e : Env} {s : State} {m : MethodId} {args : Array Value} {below : List Frame} {meth : Method} {c : Code} {Z : State → Prop} {D : va_G} {cA : Nat → ClassId} {h : Nat → Nat} {Q : Int32 → sT → Prop} (C0 : cx p s m args c cX4_mid 6 RX4 D cA true keysC h) (hret : rtI p l e rm_X4_mid s m args below meth c cX4_mid Z D (wC h cA) (aK keysC h s.heap.size) Q) : ∀ (n : Nat) (x3 : Int64) (x5 : Int32) (S : sT) (H : Heap) (locs : List Loc) (ls : Array Slot), va_P D vwCl (wC h cA S) H → va_S (aK keysC h s.heap.size) s.heap H locs → wl_X4_mid_44 Q n x3 x5 S → lv_has ls 6 [(0, .ref (h 1000)), (3, .long x3), (5, .int x5)] → W p l e rm_X4_mid s m args below meth c H locs 0 0 Z (F0 m 44 ls []) := by
  intro n
  induction n with
  | zero => intro x3 x5 S H locs ls hP hS hd hl; exact (show False from hd).elim
  | succ n ih => intro x3 x5 S H locs ls hP hS hd hl; exact bk_X4_mid_44 C0 hret (fun x3 x5 S H locs ls hd hP hS hl => ih x3 x5 S H locs ls hP hS hd hl) hP hS hd hl
def wp_X4_mid (x1 : Int32) (x2 : Int32) (S : sT) (Q : Int32 → sT → Prop) : Prop :=
  wp_X4_isBelow x1 (31 : Int32) S (fun r_1 S_1 => ((r_1 = 0 → Q (-1 : Int32) S_1) ∧ (¬ r_1 = 0 → wp_X4_isBelow x2 (13 : Int32) S_1 (fun r_2 S_2 => ((¬ r_2 = 0 → ((¬ (vI S_2 26) = 0 → wp_X4_weighPlaces x1 x2 S_2 (fun S_3 => ∃ n : Nat, wl_X4_mid_44 Q n (0 : Int64) (0 : Int32) S_3)) ∧ ((vI S_2 26) = 0 → Q (-4 : Int32) S_2))) ∧ (r_2 = 0 → Q (-1 : Int32) S_2))))))
set_option maxHeartbeats 4000000 in
set_option maxRecDepth 100000 in
theorem bk_X4_mid {p : Program} {l : Launch} {e : Env} {s : State} {m : MethodId} {args : Array Value} {below : List Frame} {meth : Method} {c : Code} {Z : State → Prop} {D : va_G} {cA : Nat → ClassId} {h : Nat → Nat} {Q : Int32 → sT → Prop} (C0 : cx p s m args c cX4_mid 6 RX4 D cA true keysC h) (hret : rtI p l e rm_X4_mid s m args below meth c cX4_mid Z D (wC h cA) (aK keysC h s.heap.size) Q) {x1 : Int32} {x2 : Int32} {S : sT} {H : Heap} {locs : List Loc} {ls : Array Slot} (hP : va_P D vwCl (wC h cA S) H) (hS : va_S (aK keysC h s.heap.size) s.heap H locs) (hd : wp_X4_mid x1 x2 S Q) (hl : lv_has ls 6 [(0, .ref (h 1000)), (1, .int x1), (2, .int x2)]) : W p l e rm_X4_mid s m args below meth c H locs 0 0 Z (F0 m 0 ls []) := by
  obtain ⟨⟨hx, hb, hml, hown, hts⟩, hK, -, -⟩ := id C0
  unfold wp_X4_mid at hd
  refine lv_iload_n hx hb dX4_mid_0 rfl (lv_at hl 1 rfl) ?_
  refine lv_bipush (v := 31) hx hb dX4_mid_1 (by decide) ?_
  refine cl_Si (n := 2) (rest := []) C0 hP hS (c_X4_isBelow l C0.2.2.1 _ hd) (lwG_S lm_X4_132 ls_X4_isBelow lz_RX4 lc_X4_isBelow) (by decide +kernel) rfl rfl (Nat.le_of_ble_eq_true rfl) ⟨rfl, rfl⟩ ⟨by decide, by decide⟩ dX4_mid_3 hl.1 ⟨Nat.zero_le _, Nat.zero_le _⟩ (fun r_1 S_1 H locs hd hP hS => ?_)
  refine lv_if_eq (tgt := 18) hx hb dX4_mid_6 (by decide) (fun hc => ?_) (fun hc => ?_)
  · have hd := hd.1 hc
    refine lv_iconst (v := (-1)) hx hb dX4_mid_18 (by decide) ?_
    exact hret _ _ _ _ _ _ hd hP hS dX4_mid_19
  · have hd := hd.2 hc
    refine lv_iload_n hx hb dX4_mid_9 rfl (lv_at hl 2 rfl) ?_
    refine lv_bipush (v := 13) hx hb dX4_mid_10 (by decide) ?_
    refine cl_Si (n := 2) (rest := []) C0 hP hS (c_X4_isBelow l C0.2.2.1 _ hd) (lwG_S lm_X4_132 ls_X4_isBelow lz_RX4 lc_X4_isBelow) (by decide +kernel) rfl rfl (Nat.le_of_ble_eq_true rfl) ⟨rfl, rfl⟩ ⟨by decide, by decide⟩ dX4_mid_12 hl.1 ⟨Nat.zero_le _, Nat.zero_le _⟩ (fun r_2 S_2 H locs hd hP hS => ?_)
    refine lv_if_ne (tgt := 20) hx hb dX4_mid_15 (by decide) (fun hc => ?_) (fun hc => ?_)
    · have hd := hd.1 hc
      refine lv_aload_n hx hb dX4_mid_20 rfl (lv_at hl 0 rfl) ?_
      refine gf_X4_24 C0 hP dX4_mid_21 ?_
      refine gf_X4_129_0 C0 hP dX4_mid_24 ?_
      refine lv_if_ne (tgt := 33) hx hb dX4_mid_27 (by decide) (fun hc => ?_) (fun hc => ?_)
      · have hd := hd.1 hc
        refine lv_aload_n hx hb dX4_mid_33 rfl (lv_at hl 0 rfl) ?_
        refine lv_iload_n hx hb dX4_mid_34 rfl (lv_at hl 1 rfl) ?_
        refine lv_iload_n hx hb dX4_mid_35 rfl (lv_at hl 2 rfl) ?_
        refine cl_Vv (n := 2) (rest := []) C0 hP hS (c_X4_weighPlaces l C0.2.2.1 _ hd) (lwG_V lm_X4_268 li_X4_weighPlaces lx_X4_weighPlaces lz_RX4 lc_X4_weighPlaces) (by decide +kernel) (oD_at h cA _) rfl rfl rfl (Nat.le_of_ble_eq_true rfl) ⟨rfl, rfl⟩ ⟨by decide, by decide⟩ dX4_mid_36 hl.1 ⟨Nat.zero_le _, Nat.zero_le _⟩ (fun S_3 H locs hd hP hS => ?_)
        refine lv_lconst (v := 0) hx hb dX4_mid_39 (by decide) ?_
        refine lv_lstore_n (lv' := [(3, .long (0 : Int64)), (0, .ref (h 1000)), (1, .int x1), (2, .int x2)]) hx hb dX4_mid_40 rfl hl (by decide) rfl (fun ls hl => ?_)
        refine lv_iconst (v := 0) hx hb dX4_mid_41 (by decide) ?_
        refine lv_istore (lv' := [(5, .int (0 : Int32)), (3, .long (0 : Int64)), (0, .ref (h 1000)), (1, .int x1), (2, .int x2)]) hx hb dX4_mid_42 hl (by decide) rfl (fun ls hl => ?_)
        obtain ⟨n_4, hd⟩ := hd
        exact bl_X4_mid_44 C0 hret _ _ _ _ _ _ _ hP hS hd (lv_sub hl [2, 1, 0] rfl)
      · have hd := hd.2 hc
        refine lv_bipush (v := (-4)) hx hb dX4_mid_30 (by decide) ?_
        exact hret _ _ _ _ _ _ hd hP hS dX4_mid_32
    · have hd := hd.2 hc
      refine lv_iconst (v := (-1)) hx hb dX4_mid_18 (by decide) ?_
      exact hret _ _ _ _ _ _ hd hP hS dX4_mid_19
theorem c_X4_mid (l : Launch) {D : va_G} {cA : Nat → ClassId} {h : Nat → Nat} (hk : ky keysC h) {x1 : Int32} {x2 : Int32} {S : sT} (sz : Nat) {Q : Int32 → sT → Prop} (hd : wp_X4_mid x1 x2 S Q) : Met l yX4_mid (wsU yX4_mid cX4_mid 6 (some .int)) rm_X4_mid (va_Pc [.ref (h 1000), .int x1, .int x2] (gP D cA true keysC h (wC h cA) S sz)) (va_Qi Q (wB D (wC h cA)) (aK keysC h sz)) 0 0 (aK keysC h sz) :=
  mk_i (by decide) hk (Nat.le_of_ble_eq_true rfl) (fun p e s m below meth c Z ls C0 hret hP hS hl => bk_X4_mid C0 hret hP hS hd hl)
abbrev rm_X4_minute : Room := { frames := 4, cells := 0, slots := 0, locals := 89 }
def wp_X4_minute (S : sT) (Q : Int32 → sT → Prop) : Prop :=
  (((vI S 26) = 0 → Q (-4 : Int32) S) ∧ (¬ (vI S 26) = 0 → (((vI S 30) < (99 : Int32) → wp_X1_hasRoomFor 0 (1 : Int32) S (fun r_1 S_1 => ((¬ r_1 = 0 → wp_X1_passMinute 0 S_1 (fun S_2 => Q (vI S_2 31) S_2)) ∧ (r_1 = 0 → Q (-2 : Int32) S_1)))) ∧ (¬ (vI S 30) < (99 : Int32) → Q (-4 : Int32) S))))
set_option maxHeartbeats 4000000 in
set_option maxRecDepth 100000 in
theorem bk_X4_minute {p : Program} {l : Launch} {e : Env} {s : State} {m : MethodId} {args : Array Value} {below : List Frame} {meth : Method} {c : Code} {Z : State → Prop} {D : va_G} {cA : Nat → ClassId} {h : Nat → Nat} {Q : Int32 → sT → Prop} (C0 : cx p s m args c cX4_minute 1 RX4 D cA true keysC h) (hret : rtI p l e rm_X4_minute s m args below meth c cX4_minute Z D (wC h cA) (aK keysC h s.heap.size) Q) {S : sT} {H : Heap} {locs : List Loc} {ls : Array Slot} (hP : va_P D vwCl (wC h cA S) H) (hS : va_S (aK keysC h s.heap.size) s.heap H locs) (hd : wp_X4_minute S Q) (hl : lv_has ls 1 [(0, .ref (h 1000))]) : W p l e rm_X4_minute s m args below meth c H locs 0 0 Z (F0 m 0 ls []) := by
  obtain ⟨⟨hx, hb, hml, hown, hts⟩, hK, -, -⟩ := id C0
  unfold wp_X4_minute at hd
  refine lv_aload_n hx hb dX4_minute_0 rfl (lv_at hl 0 rfl) ?_
  refine gf_X4_24 C0 hP dX4_minute_1 ?_
  refine gf_X4_129_0 C0 hP dX4_minute_4 ?_
  refine lv_if_eq (tgt := 22) hx hb dX4_minute_7 (by decide) (fun hc => ?_) (fun hc => ?_)
  · have hd := hd.1 hc
    refine lv_bipush (v := (-4)) hx hb dX4_minute_22 (by decide) ?_
    exact hret _ _ _ _ _ _ hd hP hS dX4_minute_24
  · have hd := hd.2 hc
    refine lv_aload_n hx hb dX4_minute_10 rfl (lv_at hl 0 rfl) ?_
    refine gf_X4_24 C0 hP dX4_minute_11 ?_
    refine gf_X4_162_0 C0 hP dX4_minute_14 ?_
    refine lv_bipush (v := 99) hx hb dX4_minute_17 (by decide) ?_
    refine lv_icmp_lt (tgt := 25) hx hb dX4_minute_19 (by decide) (fun hc => ?_) (fun hc => ?_)
    · have hd := hd.1 hc
      refine lv_aload_n hx hb dX4_minute_25 rfl (lv_at hl 0 rfl) ?_
      refine gf_X4_24 C0 hP dX4_minute_26 ?_
      refine lv_iconst (v := 1) hx hb dX4_minute_29 (by decide) ?_
      refine cl_VNi (n := 1) (rest := []) C0 hP hS (c_X1_hasRoomFor l C0.2.2.1 (by decide) _ hd) (lwG_C lc_X1_hasRoomFor) (by decide +kernel : (RX4, 165, yX1_hasRoomFor, "DreamTrain") ∈ nestM) lz_RX1 li_X1_hasRoomFor lx_X1_hasRoomFor (by decide +kernel) (oL_at h cA _ 0 (by decide)) rfl rfl rfl (Nat.le_of_ble_eq_true rfl) ⟨rfl, rfl⟩ ⟨by decide, by decide⟩ dX4_minute_30 hl.1 ⟨Nat.zero_le _, Nat.zero_le _⟩ (fun r_1 S_1 H locs hd hP hS => ?_)
      refine lv_if_ne (tgt := 39) hx hb dX4_minute_33 (by decide) (fun hc => ?_) (fun hc => ?_)
      · have hd := hd.1 hc
        refine lv_aload_n hx hb dX4_minute_39 rfl (lv_at hl 0 rfl) ?_
        refine gf_X4_24 C0 hP dX4_minute_40 ?_
        refine cl_VNv (n := 0) (rest := []) C0 hP hS (c_X1_passMinute l C0.2.2.1 (by decide) _ hd) (lwG_C lc_X1_passMinute) (by decide +kernel : (RX4, 168, yX1_passMinute, "DreamTrain") ∈ nestM) lz_RX1 li_X1_passMinute lx_X1_passMinute (by decide +kernel) (oL_at h cA _ 0 (by decide)) rfl rfl rfl (Nat.le_of_ble_eq_true rfl) ⟨rfl, rfl⟩ ⟨by decide, by decide⟩ dX4_minute_43 hl.1 ⟨Nat.zero_le _, Nat.zero_le _⟩ (fun S_2 H locs hd hP hS => ?_)
        refine lv_aload_n hx hb dX4_minute_46 rfl (lv_at hl 0 rfl) ?_
        refine gf_X4_24 C0 hP dX4_minute_47 ?_
        refine gf_X4_171_0 C0 hP dX4_minute_50 ?_
        exact hret _ _ _ _ _ _ hd hP hS dX4_minute_53
      · have hd := hd.2 hc
        refine lv_bipush (v := (-2)) hx hb dX4_minute_36 (by decide) ?_
        exact hret _ _ _ _ _ _ hd hP hS dX4_minute_38
    · have hd := hd.2 hc
      refine lv_bipush (v := (-4)) hx hb dX4_minute_22 (by decide) ?_
      exact hret _ _ _ _ _ _ hd hP hS dX4_minute_24
theorem c_X4_minute (l : Launch) {D : va_G} {cA : Nat → ClassId} {h : Nat → Nat} (hk : ky keysC h) {S : sT} (sz : Nat) {Q : Int32 → sT → Prop} (hd : wp_X4_minute S Q) : Met l yX4_minute (wsU yX4_minute cX4_minute 1 (some .int)) rm_X4_minute (va_Pc [.ref (h 1000)] (gP D cA true keysC h (wC h cA) S sz)) (va_Qi Q (wB D (wC h cA)) (aK keysC h sz)) 0 0 (aK keysC h sz) :=
  mk_i (by decide) hk (Nat.le_of_ble_eq_true rfl) (fun p e s m below meth c Z ls C0 hret hP hS hl => bk_X4_minute C0 hret hP hS hd hl)
abbrev rm_X4_odds : Room := { frames := 4, cells := 0, slots := 0, locals := 99 }
def wb_X4_odds_54 (Q : Int32 → sT → Prop) (K54 : Int64 → Int32 → sT → Prop) (x4 : Int64) (x6 : Int32) (S : sT) : Prop :=
  (((20 : Int32) < x6 → wp_J6_bitCount_0f7a4 (vI S 29) S (fun r_1 S_1 => wp_X4_power (12 : Int32) r_1 S_1 (fun r_2 S_2 => wp_X4_tellPart x4 r_2 S_2 (fun S_3 => Q (1 : Int32) S_3)))) ∧ (¬ (20 : Int32) < x6 → (vp_in x6 21) ∧ K54 (x4 + (vB S 11 x6.toNatClampNeg)) (x6 + (1 : Int32)) S))
set_option maxHeartbeats 4000000 in
set_option maxRecDepth 100000 in
theorem bk_X4_odds_54 {p : Program} {l : Launch} {e : Env} {s : State} {m : MethodId} {args : Array Value} {below : List Frame} {meth : Method} {c : Code} {Z : State → Prop} {D : va_G} {cA : Nat → ClassId} {h : Nat → Nat} {Q : Int32 → sT → Prop} (C0 : cx p s m args c cX4_odds 7 RX4 D cA true keysC h) (hret : rtI p l e rm_X4_odds s m args below meth c cX4_odds Z D (wC h cA) (aK keysC h s.heap.size) Q) {K54 : Int64 → Int32 → sT → Prop} (k54 : ∀ (x4 : Int64) (x6 : Int32) (S : sT) (H : Heap) (locs : List Loc) (ls : Array Slot), K54 x4 x6 S → va_P D vwCl (wC h cA S) H → va_S (aK keysC h s.heap.size) s.heap H locs → lv_has ls 7 [(0, .ref (h 1000)), (4, .long x4), (6, .int x6)] → W p l e rm_X4_odds s m args below meth c H locs 0 0 Z (F0 m 54 ls [])) {x4 : Int64} {x6 : Int32} {S : sT} {H : Heap} {locs : List Loc} {ls : Array Slot} (hP : va_P D vwCl (wC h cA S) H) (hS : va_S (aK keysC h s.heap.size) s.heap H locs) (hd : wb_X4_odds_54 Q K54 x4 x6 S) (hl : lv_has ls 7 [(0, .ref (h 1000)), (4, .long x4), (6, .int x6)]) : W p l e rm_X4_odds s m args below meth c H locs 0 0 Z (F0 m 54 ls []) := by
  obtain ⟨⟨hx, hb, hml, hown, hts⟩, hK, -, -⟩ := id C0
  unfold wb_X4_odds_54 at hd
  refine lv_iload hx hb dX4_odds_54 (lv_at hl 2 rfl) ?_
  refine lv_bipush (v := 20) hx hb dX4_odds_56 (by decide) ?_
  refine lv_icmp_gt (tgt := 79) hx hb dX4_odds_58 (by decide) (fun hc => ?_) (fun hc => ?_)
  · have hd := hd.1 hc
    refine lv_aload_n hx hb dX4_odds_79 rfl (lv_at hl 0 rfl) ?_
    refine lv_lload hx hb dX4_odds_80 (lv_at hl 1 rfl) ?_
    refine lv_bipush (v := 12) hx hb dX4_odds_82 (by decide) ?_
    refine lv_aload_n hx hb dX4_odds_84 rfl (lv_at hl 0 rfl) ?_
    refine gf_X4_24 C0 hP dX4_odds_85 ?_
    refine gf_X4_196_0 C0 hP dX4_odds_88 ?_
    refine cl_Si (n := 1) (rest := [.int (12 : Int32), .long x4, .ref (h 1000)]) C0 hP hS (c_J6_bitCount_0f7a4 l C0.2.2.1 _ hd) (lwG_S lm_X4_226 ls_J6_bitCount_0f7a4 lz_RJ6 lc_J6_bitCount_0f7a4) (by decide +kernel) rfl rfl (Nat.le_of_ble_eq_true rfl) ⟨rfl, rfl⟩ ⟨by decide, by decide⟩ dX4_odds_91 hl.1 ⟨Nat.zero_le _, Nat.zero_le _⟩ (fun r_1 S_1 H locs hd hP hS => ?_)
    refine cl_Sl (n := 2) (rest := [.long x4, .ref (h 1000)]) C0 hP hS (c_X4_power l C0.2.2.1 _ hd) (lwG_S lm_X4_271 ls_X4_power lz_RX4 lc_X4_power) (by decide +kernel) rfl rfl (Nat.le_of_ble_eq_true rfl) ⟨rfl, rfl⟩ ⟨by decide, by decide⟩ dX4_odds_94 hl.1 ⟨Nat.zero_le _, Nat.zero_le _⟩ (fun r_2 S_2 H locs hd hP hS => ?_)
    refine cl_Vv (n := 2) (rest := []) C0 hP hS (c_X4_tellPart l C0.2.2.1 _ hd) (lwG_V lm_X4_275 li_X4_tellPart lx_X4_tellPart lz_RX4 lc_X4_tellPart) (by decide +kernel) (oD_at h cA _) rfl rfl rfl (Nat.le_of_ble_eq_true rfl) ⟨rfl, rfl⟩ ⟨by decide, by decide⟩ dX4_odds_97 hl.1 ⟨Nat.zero_le _, Nat.zero_le _⟩ (fun S_3 H locs hd hP hS => ?_)
    refine lv_iconst (v := 1) hx hb dX4_odds_100 (by decide) ?_
    exact hret _ _ _ _ _ _ hd hP hS dX4_odds_101
  · have hd := hd.2 hc
    refine lv_lload hx hb dX4_odds_61 (lv_at hl 1 rfl) ?_
    refine lv_aload_n hx hb dX4_odds_63 rfl (lv_at hl 0 rfl) ?_
    refine gf_X4_66 C0 hP dX4_odds_64 ?_
    refine lv_iload hx hb dX4_odds_67 (lv_at hl 2 rfl) ?_
    obtain ⟨h_4, hd⟩ := hd
    refine ldL (by decide) C0 hP h_4 dX4_odds_69 ?_
    refine lv_ladd hx hb dX4_odds_70 ?_
    refine lv_lstore (lv' := [(4, .long (x4 + (vB S 11 x6.toNatClampNeg))), (0, .ref (h 1000)), (6, .int x6)]) hx hb dX4_odds_71 hl (by decide) rfl (fun ls hl => ?_)
    refine lv_iinc (v := x6 + (1 : Int32)) (lv' := [(6, .int (x6 + (1 : Int32))), (4, .long (x4 + (vB S 11 x6.toNatClampNeg))), (0, .ref (h 1000))]) hx hb dX4_odds_73 hl (k := 2) rfl rfl (by decide) rfl (fun ls hl => ?_)
    refine lv_goto (tgt := 54) hx hb dX4_odds_76 (by decide) ?_
    exact k54 _ _ _ _ _ _ hd hP hS (lv_sub hl [2, 1, 0] rfl)
def wl_X4_odds_54 (Q : Int32 → sT → Prop) : Nat → Int64 → Int32 → sT → Prop
  | 0, _, _ => fun _ => False
  | n + 1, x4, x6 => fun S => wb_X4_odds_54 Q (fun x4 x6 S => wl_X4_odds_54 Q n x4 x6 S) x4 x6 S
theorem bl_X4_odds_54 {p : Program} {l : Launch} {e : Env} {s : State} {m : MethodId} {args : Array Value} {below : List Frame} {meth : Method} {c : Code} {Z : State → Prop} {D : va_G} {cA : Nat → ClassId} {h : Nat → Nat} {Q : Int32 → sT → Prop} (C0 : cx p s m args c cX4_odds 7 RX4 D cA true keysC h) (hret : rtI p l e rm_X4_odds s m args below meth c cX4_odds Z D (wC h cA) (aK keysC h s.heap.size) Q) : ∀ (n : Nat) (x4 : Int64) (x6 : Int32) (S : sT) (H : Heap) (locs : List Loc) (ls : Array Slot), va_P D vwCl (wC h cA S) H → va_S (aK keysC h s.heap.size) s.heap H locs → wl_X4_odds_54 Q n x4 x6 S → lv_has ls 7 [(0, .ref (h 1000)), (4, .long x4), (6, .int x6)] → W p l e rm_X4_odds s m args below meth c H locs 0 0 Z (F0 m 54 ls []) := by
  intro n
  induction n with
  | zero => intro x4 x6 S H locs ls hP hS hd hl; exact (show False from hd).elim
  | succ n ih => intro x4 x6 S H locs ls hP hS hd hl; exact bk_X4_odds_54 C0 hret (fun x4 x6 S H locs ls hd hP hS hl => ih x4 x6 S H locs ls hP hS hd hl) hP hS hd hl
def wp_X4_odds (x1 : Int32) (x2 : Int32) (x3 : Int32) (S : sT) (Q : Int32 → sT → Prop) : Prop :=
  wp_X4_isBelow x1 (31 : Int32) S (fun r_1 S_1 => ((r_1 = 0 → Q (-1 : Int32) S_1) ∧ (¬ r_1 = 0 → wp_X4_isBelow x2 (21 : Int32) S_1 (fun r_2 S_2 => ((r_2 = 0 → Q (-1 : Int32) S_2) ∧ (¬ r_2 = 0 → wp_X4_isBelow x3 (13 : Int32) S_2 (fun r_3 S_3 => ((¬ r_3 = 0 → ((¬ (vI S_3 26) = 0 → wp_X4_weighPlaces x1 x3 S_3 (fun S_4 => ∃ n : Nat, wl_X4_odds_54 Q n (0 : Int64) x2 S_4)) ∧ ((vI S_3 26) = 0 → Q (-4 : Int32) S_3))) ∧ (r_3 = 0 → Q (-1 : Int32) S_3)))))))))
set_option maxHeartbeats 4000000 in
set_option maxRecDepth 100000 in
theorem bk_X4_odds {p : Program} {l : Launch} {e : Env} {s : State} {m : MethodId} {args : Array Value} {below : List Frame} {meth : Method} {c : Code} {Z : State → Prop} {D : va_G} {cA : Nat → ClassId} {h : Nat → Nat} {Q : Int32 → sT → Prop} (C0 : cx p s m args c cX4_odds 7 RX4 D cA true keysC h) (hret : rtI p l e rm_X4_odds s m args below meth c cX4_odds Z D (wC h cA) (aK keysC h s.heap.size) Q) {x1 : Int32} {x2 : Int32} {x3 : Int32} {S : sT} {H : Heap} {locs : List Loc} {ls : Array Slot} (hP : va_P D vwCl (wC h cA S) H) (hS : va_S (aK keysC h s.heap.size) s.heap H locs) (hd : wp_X4_odds x1 x2 x3 S Q) (hl : lv_has ls 7 [(0, .ref (h 1000)), (1, .int x1), (2, .int x2), (3, .int x3)]) : W p l e rm_X4_odds s m args below meth c H locs 0 0 Z (F0 m 0 ls []) := by
  obtain ⟨⟨hx, hb, hml, hown, hts⟩, hK, -, -⟩ := id C0
  unfold wp_X4_odds at hd
  refine lv_iload_n hx hb dX4_odds_0 rfl (lv_at hl 1 rfl) ?_
  refine lv_bipush (v := 31) hx hb dX4_odds_1 (by decide) ?_
  refine cl_Si (n := 2) (rest := []) C0 hP hS (c_X4_isBelow l C0.2.2.1 _ hd) (lwG_S lm_X4_132 ls_X4_isBelow lz_RX4 lc_X4_isBelow) (by decide +kernel) rfl rfl (Nat.le_of_ble_eq_true rfl) ⟨rfl, rfl⟩ ⟨by decide, by decide⟩ dX4_odds_3 hl.1 ⟨Nat.zero_le _, Nat.zero_le _⟩ (fun r_1 S_1 H locs hd hP hS => ?_)
  refine lv_if_eq (tgt := 27) hx hb dX4_odds_6 (by decide) (fun hc => ?_) (fun hc => ?_)
  · have hd := hd.1 hc
    refine lv_iconst (v := (-1)) hx hb dX4_odds_27 (by decide) ?_
    exact hret _ _ _ _ _ _ hd hP hS dX4_odds_28
  · have hd := hd.2 hc
    refine lv_iload_n hx hb dX4_odds_9 rfl (lv_at hl 2 rfl) ?_
    refine lv_bipush (v := 21) hx hb dX4_odds_10 (by decide) ?_
    refine cl_Si (n := 2) (rest := []) C0 hP hS (c_X4_isBelow l C0.2.2.1 _ hd) (lwG_S lm_X4_132 ls_X4_isBelow lz_RX4 lc_X4_isBelow) (by decide +kernel) rfl rfl (Nat.le_of_ble_eq_true rfl) ⟨rfl, rfl⟩ ⟨by decide, by decide⟩ dX4_odds_12 hl.1 ⟨Nat.zero_le _, Nat.zero_le _⟩ (fun r_2 S_2 H locs hd hP hS => ?_)
    refine lv_if_eq (tgt := 27) hx hb dX4_odds_15 (by decide) (fun hc => ?_) (fun hc => ?_)
    · have hd := hd.1 hc
      refine lv_iconst (v := (-1)) hx hb dX4_odds_27 (by decide) ?_
      exact hret _ _ _ _ _ _ hd hP hS dX4_odds_28
    · have hd := hd.2 hc
      refine lv_iload_n hx hb dX4_odds_18 rfl (lv_at hl 3 rfl) ?_
      refine lv_bipush (v := 13) hx hb dX4_odds_19 (by decide) ?_
      refine cl_Si (n := 2) (rest := []) C0 hP hS (c_X4_isBelow l C0.2.2.1 _ hd) (lwG_S lm_X4_132 ls_X4_isBelow lz_RX4 lc_X4_isBelow) (by decide +kernel) rfl rfl (Nat.le_of_ble_eq_true rfl) ⟨rfl, rfl⟩ ⟨by decide, by decide⟩ dX4_odds_21 hl.1 ⟨Nat.zero_le _, Nat.zero_le _⟩ (fun r_3 S_3 H locs hd hP hS => ?_)
      refine lv_if_ne (tgt := 29) hx hb dX4_odds_24 (by decide) (fun hc => ?_) (fun hc => ?_)
      · have hd := hd.1 hc
        refine lv_aload_n hx hb dX4_odds_29 rfl (lv_at hl 0 rfl) ?_
        refine gf_X4_24 C0 hP dX4_odds_30 ?_
        refine gf_X4_129_0 C0 hP dX4_odds_33 ?_
        refine lv_if_ne (tgt := 42) hx hb dX4_odds_36 (by decide) (fun hc => ?_) (fun hc => ?_)
        · have hd := hd.1 hc
          refine lv_aload_n hx hb dX4_odds_42 rfl (lv_at hl 0 rfl) ?_
          refine lv_iload_n hx hb dX4_odds_43 rfl (lv_at hl 1 rfl) ?_
          refine lv_iload_n hx hb dX4_odds_44 rfl (lv_at hl 3 rfl) ?_
          refine cl_Vv (n := 2) (rest := []) C0 hP hS (c_X4_weighPlaces l C0.2.2.1 _ hd) (lwG_V lm_X4_268 li_X4_weighPlaces lx_X4_weighPlaces lz_RX4 lc_X4_weighPlaces) (by decide +kernel) (oD_at h cA _) rfl rfl rfl (Nat.le_of_ble_eq_true rfl) ⟨rfl, rfl⟩ ⟨by decide, by decide⟩ dX4_odds_45 hl.1 ⟨Nat.zero_le _, Nat.zero_le _⟩ (fun S_4 H locs hd hP hS => ?_)
          refine lv_lconst (v := 0) hx hb dX4_odds_48 (by decide) ?_
          refine lv_lstore (lv' := [(4, .long (0 : Int64)), (0, .ref (h 1000)), (1, .int x1), (2, .int x2), (3, .int x3)]) hx hb dX4_odds_49 hl (by decide) rfl (fun ls hl => ?_)
          refine lv_iload_n hx hb dX4_odds_51 rfl (lv_at hl 3 rfl) ?_
          refine lv_istore (lv' := [(6, .int x2), (4, .long (0 : Int64)), (0, .ref (h 1000)), (1, .int x1), (2, .int x2), (3, .int x3)]) hx hb dX4_odds_52 hl (by decide) rfl (fun ls hl => ?_)
          obtain ⟨n_5, hd⟩ := hd
          exact bl_X4_odds_54 C0 hret _ _ _ _ _ _ _ hP hS hd (lv_sub hl [2, 1, 0] rfl)
        · have hd := hd.2 hc
          refine lv_bipush (v := (-4)) hx hb dX4_odds_39 (by decide) ?_
          exact hret _ _ _ _ _ _ hd hP hS dX4_odds_41
      · have hd := hd.2 hc
        refine lv_iconst (v := (-1)) hx hb dX4_odds_27 (by decide) ?_
        exact hret _ _ _ _ _ _ hd hP hS dX4_odds_28
theorem c_X4_odds (l : Launch) {D : va_G} {cA : Nat → ClassId} {h : Nat → Nat} (hk : ky keysC h) {x1 : Int32} {x2 : Int32} {x3 : Int32} {S : sT} (sz : Nat) {Q : Int32 → sT → Prop} (hd : wp_X4_odds x1 x2 x3 S Q) : Met l yX4_odds (wsU yX4_odds cX4_odds 7 (some .int)) rm_X4_odds (va_Pc [.ref (h 1000), .int x1, .int x2, .int x3] (gP D cA true keysC h (wC h cA) S sz)) (va_Qi Q (wB D (wC h cA)) (aK keysC h sz)) 0 0 (aK keysC h sz) :=
  mk_i (by decide) hk (Nat.le_of_ble_eq_true rfl) (fun p e s m below meth c Z ls C0 hret hP hS hl => bk_X4_odds C0 hret hP hS hd hl)
