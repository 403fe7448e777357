abbrev rm_X4_mattersTo : Room := { frames := 1, cells := 0, slots := 0, locals := 21 }
def wp_X4_mattersTo (x1 : Int32) (x2 : Int32) (S : sT) (Q : Int32 → sT → Prop) : Prop :=
  wp_X1_isAsleep 0 x2 S (fun r_1 S_1 => ((r_1 = 0 → Q (0 : Int32) S_1) ∧ (¬ r_1 = 0 → (vp_in x2 6) ∧ (((vA S_1 21 x2.toNatClampNeg) < (vI S_1 31) → Q (0 : Int32) S_1) ∧ (¬ (vA S_1 21 x2.toNatClampNeg) < (vI S_1 31) → (vp_in x2 6) ∧ ((x1 < (vA S_1 21 x2.toNatClampNeg) → Q (0 : Int32) S_1) ∧ (¬ x1 < (vA S_1 21 x2.toNatClampNeg) → Q (1 : Int32) S_1)))))))
set_option maxHeartbeats 4000000 in
set_option maxRecDepth 100000 in
theorem bk_X4_mattersTo {p : Program} {l : Launch} {e : Env} {s : State} {m : MethodId} {args : Array Value} {below : List Frame} {meth : Method} {c : Code} {Z : State → Prop} {D : va_G} {cA : Nat → ClassId} {h : Nat → Nat} {Q : Int32 → sT → Prop} (C0 : cx p s m args c cX4_mattersTo 3 RX4 D cA true keysC h) (hret : rtZ p l e rm_X4_mattersTo s m args below meth c cX4_mattersTo Z D (wC h cA) (aK keysC h s.heap.size) Q) {x1 : Int32} {x2 : Int32} {S : sT} {H : Heap} {locs : List Loc} {ls : Array Slot} (hP : va_P D vwCl (wC h cA S) H) (hS : va_S (aK keysC h s.heap.size) s.heap H locs) (hd : wp_X4_mattersTo x1 x2 S Q) (hl : lv_has ls 3 [(0, .ref (h 1000)), (1, .int x1), (2, .int x2)]) : W p l e rm_X4_mattersTo s m args below meth c H locs 0 0 Z (F0 m 0 ls []) := by
  obtain ⟨⟨hx, hb, hml, hown, hts⟩, hK, -, -⟩ := id C0
  unfold wp_X4_mattersTo at hd
  refine lv_aload_n hx hb dX4_mattersTo_0 rfl (lv_at hl 0 rfl) ?_
  refine gf_X4_24 C0 hP dX4_mattersTo_1 ?_
  refine lv_iload_n hx hb dX4_mattersTo_4 rfl (lv_at hl 2 rfl) ?_
  refine cl_VNi (n := 1) (rest := []) C0 hP hS (c_X1_isAsleep l C0.2.2.1 (by decide) _ hd) (lwG_C lc_X1_isAsleep) (by decide +kernel : (RX4, 177, yX1_isAsleep, "DreamTrain") ∈ nestM) lz_RX1 li_X1_isAsleep lx_X1_isAsleep (by decide +kernel) (oL_at h cA _ 0 (by decide)) rfl rfl rfl (Nat.le_of_ble_eq_true rfl) ⟨rfl, rfl⟩ ⟨by decide, by decide⟩ dX4_mattersTo_5 hl.1 ⟨Nat.zero_le _, Nat.zero_le _⟩ (fun r_1 S_1 H locs hd hP hS => ?_)
  refine lv_if_eq (tgt := 47) hx hb dX4_mattersTo_8 (by decide) (fun hc => ?_) (fun hc => ?_)
  · have hd := hd.1 hc
    refine lv_iconst (v := 0) hx hb dX4_mattersTo_47 (by decide) ?_
    exact hret _ _ _ _ _ _ rfl hd hP hS dX4_mattersTo_48
  · have hd := hd.2 hc
    refine lv_aload_n hx hb dX4_mattersTo_11 rfl (lv_at hl 0 rfl) ?_
    refine gf_X4_24 C0 hP dX4_mattersTo_12 ?_
    refine gf_X4_208_0 C0 hP dX4_mattersTo_15 ?_
    refine lv_iload_n hx hb dX4_mattersTo_18 rfl (lv_at hl 2 rfl) ?_
    obtain ⟨h_2, hd⟩ := hd
    refine ldC (by decide) C0 hP h_2 dX4_mattersTo_19 ?_
    refine lv_aload_n hx hb dX4_mattersTo_20 rfl (lv_at hl 0 rfl) ?_
    refine gf_X4_24 C0 hP dX4_mattersTo_21 ?_
    refine gf_X4_171_0 C0 hP dX4_mattersTo_24 ?_
    refine lv_icmp_lt (tgt := 47) hx hb dX4_mattersTo_27 (by decide) (fun hc => ?_) (fun hc => ?_)
    · have hd := hd.1 hc
      refine lv_iconst (v := 0) hx hb dX4_mattersTo_47 (by decide) ?_
      exact hret _ _ _ _ _ _ rfl hd hP hS dX4_mattersTo_48
    · have hd := hd.2 hc
      refine lv_aload_n hx hb dX4_mattersTo_30 rfl (lv_at hl 0 rfl) ?_
      refine gf_X4_24 C0 hP dX4_mattersTo_31 ?_
      refine gf_X4_208_0 C0 hP dX4_mattersTo_34 ?_
      refine lv_iload_n hx hb dX4_mattersTo_37 rfl (lv_at hl 2 rfl) ?_
      obtain ⟨h_3, hd⟩ := hd
      refine ldC (by decide) C0 hP h_3 dX4_mattersTo_38 ?_
      refine lv_iload_n hx hb dX4_mattersTo_39 rfl (lv_at hl 1 rfl) ?_
      refine lv_icmp_gt (tgt := 47) hx hb dX4_mattersTo_40 (by decide) (fun hc => ?_) (fun hc => ?_)
      · have hd := hd.1 hc
        refine lv_iconst (v := 0) hx hb dX4_mattersTo_47 (by decide) ?_
        exact hret _ _ _ _ _ _ rfl hd hP hS dX4_mattersTo_48
      · have hd := hd.2 hc
        refine lv_iconst (v := 1) hx hb dX4_mattersTo_43 (by decide) ?_
        refine lv_goto (tgt := 48) hx hb dX4_mattersTo_44 (by decide) ?_
        exact hret _ _ _ _ _ _ rfl hd hP hS dX4_mattersTo_48
theorem c_X4_mattersTo (l : Launch) {D : va_G} {cA : Nat → ClassId} {h : Nat → Nat} (hk : ky keysC h) {x1 : Int32} {x2 : Int32} {S : sT} (sz : Nat) {Q : Int32 → sT → Prop} (hd : wp_X4_mattersTo x1 x2 S Q) : Met l yX4_mattersTo (wsU yX4_mattersTo cX4_mattersTo 3 (some .boolean)) rm_X4_mattersTo (va_Pc [.ref (h 1000), .int x1, .int x2] (gP D cA true keysC h (wC h cA) S sz)) (va_Qi Q (wB D (wC h cA)) (aK keysC h sz)) 0 0 (aK keysC h sz) :=
  mk_z (by decide) hk (Nat.le_of_ble_eq_true rfl) (fun p e s m below meth c Z ls C0 hret hP hS hl => bk_X4_mattersTo C0 hret hP hS hd hl)
abbrev rm_X4_wayByOne : Room := { frames := 4, cells := 0, slots := 0, locals := 93 }
def wb_X4_wayByOne_98 (Q : Int32 → sT → Prop) (K3 : Int32 → Int32 → Int32 → sT → Prop) (x2 : Int32) (x3 : Int32) (x4 : Int32) (S : sT) : Prop :=
  K3 x2 x3 (x4 + (1 : Int32)) S
set_option maxHeartbeats 4000000 in
set_option maxRecDepth 100000 in
theorem bk_X4_wayByOne_98 {p : Program} {l : Launch} {e : Env} {s : State} {m : MethodId} {args : Array Value} {below : List Frame} {meth : Method} {c : Code} {Z : State → Prop} {D : va_G} {cA : Nat → ClassId} {h : Nat → Nat} {Q : Int32 → sT → Prop} (C0 : cx p s m args c cX4_wayByOne 9 RX4 D cA true keysC h) (hret : rtI p l e rm_X4_wayByOne s m args below meth c cX4_wayByOne Z D (wC h cA) (aK keysC h s.heap.size) Q) {K3 : Int32 → Int32 → Int32 → sT → Prop} (k3 : ∀ (x2 : Int32) (x3 : Int32) (x4 : Int32) (S : sT) (H : Heap) (locs : List Loc) (ls : Array Slot), K3 x2 x3 x4 S → va_P D vwCl (wC h cA S) H → va_S (aK keysC h s.heap.size) s.heap H locs → lv_has ls 9 [(0, .ref (h 1000)), (2, .int x2), (3, .int x3), (4, .int x4)] → W p l e rm_X4_wayByOne s m args below meth c H locs 0 0 Z (F0 m 3 ls [])) {x2 : Int32} {x3 : Int32} {x4 : Int32} {S : sT} {H : Heap} {locs : List Loc} {ls : Array Slot} (hP : va_P D vwCl (wC h cA S) H) (hS : va_S (aK keysC h s.heap.size) s.heap H locs) (hd : wb_X4_wayByOne_98 Q K3 x2 x3 x4 S) (hl : lv_has ls 9 [(0, .ref (h 1000)), (2, .int x2), (3, .int x3), (4, .int x4)]) : W p l e rm_X4_wayByOne s m args below meth c H locs 0 0 Z (F0 m 98 ls []) := by
  obtain ⟨⟨hx, hb, hml, hown, hts⟩, hK, -, -⟩ := id C0
  unfold wb_X4_wayByOne_98 at hd
  refine lv_iinc (v := x4 + (1 : Int32)) (lv' := [(4, .int (x4 + (1 : Int32))), (0, .ref (h 1000)), (2, .int x2), (3, .int x3)]) hx hb dX4_wayByOne_98 hl (k := 3) rfl rfl (by decide) rfl (fun ls hl => ?_)
  refine lv_goto (tgt := 3) hx hb dX4_wayByOne_101 (by decide) ?_
  exact k3 _ _ _ _ _ _ _ hd hP hS (lv_sub hl [1, 2, 3, 0] rfl)
def wb_X4_wayByOne_3 (Q : Int32 → sT → Prop) (K3 : Int32 → Int32 → Int32 → sT → Prop) (x2 : Int32) (x3 : Int32) (x4 : Int32) (S : sT) : Prop :=
  ((((vI S 26) * (10 : Int32)) ≤ x4 → Q (-9 : Int32) S) ∧ (¬ ((vI S 26) * (10 : Int32)) ≤ x4 → wp_X4_mattersTo x3 (x4 / (10 : Int32)) S (fun r_1 S_1 => ((r_1 = 0 → wb_X4_wayByOne_98 Q K3 x2 x3 x4 S_1) ∧ (¬ r_1 = 0 → (vp_in (x4 / (10 : Int32)) 6) ∧ (vp_in (x4 / (10 : Int32)) 6) ∧ (vp_in (x4 - x4 / (10 : Int32) * (10 : Int32)) 10) ∧ (vp_in (x4 / (10 : Int32)) 6) ∧ ∀ S_6 : sT, S_6 = uB S_1 110 (vp_updL (vB S_1 110) (x4 / (10 : Int32)).toNatClampNeg (vB S_1 (340 + (x4 / (10 : Int32)).toNatClampNeg) (x4 - x4 / (10 : Int32) * (10 : Int32)).toNatClampNeg)) → wp_X4_standsBehind x2 x3 S_6 (fun r_7 S_7 => (vp_in (x4 / (10 : Int32)) 6) ∧ ((r_7 = 0 → wb_X4_wayByOne_98 Q K3 x2 x3 x4 (uB S_7 110 (vp_updL (vB S_7 110) (x4 / (10 : Int32)).toNatClampNeg (vB S_1 110 (x4 / (10 : Int32)).toNatClampNeg)))) ∧ (¬ r_7 = 0 → Q x4 (uB S_7 110 (vp_updL (vB S_7 110) (x4 / (10 : Int32)).toNatClampNeg (vB S_1 110 (x4 / (10 : Int32)).toNatClampNeg)))))))))))
set_option maxHeartbeats 4000000 in
set_option maxRecDepth 100000 in
theorem bk_X4_wayByOne_3 {p : Program} {l : Launch} {e : Env} {s : State} {m : MethodId} {args : Array Value} {below : List Frame} {meth : Method} {c : Code} {Z : State → Prop} {D : va_G} {cA : Nat → ClassId} {h : Nat → Nat} {Q : Int32 → sT → Prop} (C0 : cx p s m args c cX4_wayByOne 9 RX4 D cA true keysC h) (hret : rtI p l e rm_X4_wayByOne s m args below meth c cX4_wayByOne Z D (wC h cA) (aK keysC h s.heap.size) Q) {K3 : Int32 → Int32 → Int32 → sT → Prop} (k3 : ∀ (x2 : Int32) (x3 : Int32) (x4 : Int32) (S : sT) (H : Heap) (locs : List Loc) (ls : Array Slot), K3 x2 x3 x4 S → va_P D vwCl (wC h cA S) H → va_S (aK keysC h s.heap.size) s.heap H locs → lv_has ls 9 [(0, .ref (h 1000)), (2, .int x2), (3, .int x3), (4, .int x4)] → W p l e rm_X4_wayByOne s m args below meth c H locs 0 0 Z (F0 m 3 ls [])) {x2 : Int32} {x3 : Int32} {x4 : Int32} {S : sT} {H : Heap} {locs : List Loc} {ls : Array Slot} (hP : va_P D vwCl (wC h cA S) H) (hS : va_S (aK keysC h s.heap.size) s.heap H locs) (hd : wb_X4_wayByOne_3 Q K3 x2 x3 x4 S) (hl : lv_has ls 9 [(0, .ref (h 1000)), (2, .int x2), (3, .int x3), (4, .int x4)]) : W p l e rm_X4_wayByOne s m args below meth c H locs 0 0 Z (F0 m 3 ls []) := by
  obtain ⟨⟨hx, hb, hml, hown, hts⟩, hK, -, -⟩ := id C0
  unfold wb_X4_wayByOne_3 at hd
  refine lv_iload hx hb dX4_wayByOne_3 (lv_at hl 3 rfl) ?_
  refine lv_aload_n hx hb dX4_wayByOne_5 rfl (lv_at hl 0 rfl) ?_
  refine gf_X4_24 C0 hP dX4_wayByOne_6 ?_
  refine gf_X4_129_0 C0 hP dX4_wayByOne_9 ?_
  refine lv_bipush (v := 10) hx hb dX4_wayByOne_12 (by decide) ?_
  refine lv_imul hx hb dX4_wayByOne_14 ?_
  refine lv_icmp_ge (tgt := 104) hx hb dX4_wayByOne_15 (by decide) (fun hc => ?_) (fun hc => ?_)
  · have hd := hd.1 hc
    refine lv_bipush (v := (-9)) hx hb dX4_wayByOne_104 (by decide) ?_
    exact hret _ _ _ _ _ _ hd hP hS dX4_wayByOne_106
  · have hd := hd.2 hc
    refine lv_iload hx hb dX4_wayByOne_18 (lv_at hl 3 rfl) ?_
    refine lv_bipush (v := 10) hx hb dX4_wayByOne_20 (by decide) ?_
    refine lv_idiv hx hb dX4_wayByOne_22 (by decide) ?_
    refine lv_istore (lv' := [(5, .int (x4 / (10 : Int32))), (0, .ref (h 1000)), (2, .int x2), (3, .int x3), (4, .int x4)]) hx hb dX4_wayByOne_23 hl (by decide) rfl (fun ls hl => ?_)
    refine lv_aload_n hx hb dX4_wayByOne_25 rfl (lv_at hl 1 rfl) ?_
    refine lv_iload_n hx hb dX4_wayByOne_26 rfl (lv_at hl 3 rfl) ?_
    refine lv_iload hx hb dX4_wayByOne_27 (lv_at hl 0 rfl) ?_
    refine cl_Vi (n := 2) (rest := []) C0 hP hS (c_X4_mattersTo l C0.2.2.1 _ hd) (lwG_V lm_X4_304 li_X4_mattersTo lx_X4_mattersTo lz_RX4 lc_X4_mattersTo) (by decide +kernel) (oD_at h cA _) rfl rfl rfl (Nat.le_of_ble_eq_true rfl) ⟨rfl, rfl⟩ ⟨by decide, by decide⟩ dX4_wayByOne_29 hl.1 ⟨Nat.zero_le _, Nat.zero_le _⟩ (fun r_1 S_1 H locs hd hP hS => ?_)
    refine lv_if_eq (tgt := 98) hx hb dX4_wayByOne_32 (by decide) (fun hc => ?_) (fun hc => ?_)
    · have hd := hd.1 hc
      exact bk_X4_wayByOne_98 C0 hret k3 hP hS hd (lv_sub hl [1, 2, 3, 4] rfl)
    · have hd := hd.2 hc
      refine lv_aload_n hx hb dX4_wayByOne_35 rfl (lv_at hl 1 rfl) ?_
      refine gf_X4_49 C0 hP dX4_wayByOne_36 ?_
      refine gf_X4_254 C0 hP dX4_wayByOne_39 ?_
      refine lv_iload hx hb dX4_wayByOne_42 (lv_at hl 0 rfl) ?_
      obtain ⟨h_2, hd⟩ := hd
      refine ldL (by decide) C0 hP h_2 dX4_wayByOne_44 ?_
      refine lv_lstore (lv' := [(6, .long (vB S_1 110 (x4 / (10 : Int32)).toNatClampNeg)), (5, .int (x4 / (10 : Int32))), (0, .ref (h 1000)), (2, .int x2), (3, .int x3), (4, .int x4)]) hx hb dX4_wayByOne_45 hl (by decide) rfl (fun ls hl => ?_)
      refine lv_aload_n hx hb dX4_wayByOne_47 rfl (lv_at hl 2 rfl) ?_
      refine gf_X4_49 C0 hP dX4_wayByOne_48 ?_
      refine gf_X4_254 C0 hP dX4_wayByOne_51 ?_
      refine lv_iload hx hb dX4_wayByOne_54 (lv_at hl 1 rfl) ?_
      refine lv_aload_n hx hb dX4_wayByOne_56 rfl (lv_at hl 2 rfl) ?_
      refine gf_X4_55 C0 hP dX4_wayByOne_57 ?_
      refine lv_iload hx hb dX4_wayByOne_60 (lv_at hl 1 rfl) ?_
      obtain ⟨h_3, hd⟩ := hd
      refine ao_1012 C0 hP h_3 dX4_wayByOne_62 ?_
      refine lv_iload hx hb dX4_wayByOne_63 (lv_at hl 5 rfl) ?_
      refine lv_bipush (v := 10) hx hb dX4_wayByOne_65 (by decide) ?_
      refine lv_irem hx hb dX4_wayByOne_67 (by decide) ?_
      obtain ⟨h_4, hd⟩ := hd
      refine ldL (kSup _ (vp_lt h_3)) C0 hP (by rw [lSup _ (vp_lt h_3)]; exact h_4) dX4_wayByOne_68 ?_
      obtain ⟨h_5, hd⟩ := hd
      refine stL (by decide) C0 hP hS h_5 dX4_wayByOne_69 (fun H locs hP hS => ?_)
      obtain ⟨S_6, eS_6⟩ : ∃ x : sT, x = uB S_1 110 (vp_updL (vB S_1 110) (x4 / (10 : Int32)).toNatClampNeg (vB S_1 (340 + (x4 / (10 : Int32)).toNatClampNeg) (x4 - x4 / (10 : Int32) * (10 : Int32)).toNatClampNeg)) := ⟨_, rfl⟩
      rw [← eS_6] at hP
      have hd := hd S_6 eS_6
      refine lv_aload_n hx hb dX4_wayByOne_70 rfl (lv_at hl 2 rfl) ?_
      refine lv_iload_n hx hb dX4_wayByOne_71 rfl (lv_at hl 3 rfl) ?_
      refine lv_iload_n hx hb dX4_wayByOne_72 rfl (lv_at hl 4 rfl) ?_
      refine cl_Vi (n := 2) (rest := []) C0 hP hS (c_X4_standsBehind l C0.2.2.1 _ hd) (lwG_V lm_X4_234 li_X4_standsBehind lx_X4_standsBehind lz_RX4 lc_X4_standsBehind) (by decide +kernel) (oD_at h cA _) rfl rfl rfl (Nat.le_of_ble_eq_true rfl) ⟨rfl, rfl⟩ ⟨by decide, by decide⟩ dX4_wayByOne_73 hl.1 ⟨Nat.zero_le _, Nat.zero_le _⟩ (fun r_7 S_7 H locs hd hP hS => ?_)
      refine lv_istore (lv' := [(8, .int r_7), (6, .long (vB S_1 110 (x4 / (10 : Int32)).toNatClampNeg)), (5, .int (x4 / (10 : Int32))), (0, .ref (h 1000)), (2, .int x2), (3, .int x3), (4, .int x4)]) hx hb dX4_wayByOne_76 hl (by decide) rfl (fun ls hl => ?_)
      refine lv_aload_n hx hb dX4_wayByOne_78 rfl (lv_at hl 3 rfl) ?_
      refine gf_X4_49 C0 hP dX4_wayByOne_79 ?_
      refine gf_X4_254 C0 hP dX4_wayByOne_82 ?_
      refine lv_iload hx hb dX4_wayByOne_85 (lv_at hl 2 rfl) ?_
      refine lv_lload hx hb dX4_wayByOne_87 (lv_at hl 1 rfl) ?_
      obtain ⟨h_8, hd⟩ := hd
      refine stL (by decide) C0 hP hS h_8 dX4_wayByOne_89 (fun H locs hP hS => ?_)
      refine lv_iload hx hb dX4_wayByOne_90 (lv_at hl 0 rfl) ?_
      refine lv_if_eq (tgt := 98) hx hb dX4_wayByOne_92 (by decide) (fun hc => ?_) (fun hc => ?_)
      · have hd := hd.1 hc
        exact bk_X4_wayByOne_98 C0 hret k3 hP hS hd (lv_sub hl [3, 4, 5, 6] rfl)
      · have hd := hd.2 hc
        refine lv_iload hx hb dX4_wayByOne_95 (lv_at hl 6 rfl) ?_
        exact hret _ _ _ _ _ _ hd hP hS dX4_wayByOne_97
def wl_X4_wayByOne_3 (Q : Int32 → sT → Prop) : Nat → Int32 → Int32 → Int32 → sT → Prop
  | 0, _, _, _ => fun _ => False
  | n + 1, x2, x3, x4 => fun S => wb_X4_wayByOne_3 Q (fun x2 x3 x4 S => wl_X4_wayByOne_3 Q n x2 x3 x4 S) x2 x3 x4 S
theorem bl_X4_wayByOne_3 {p : Program} {l : Launch} {e : Env} {s : State} {m : MethodId} {args : Array Value} {below : List Frame} {meth : Method} {c : Code} {Z : State → Prop} {D : va_G} {cA : Nat → ClassId} {h : Nat → Nat} {Q : Int32 → sT → Prop} (C0 : cx p s m args c cX4_wayByOne 9 RX4 D cA true keysC h) (hret : rtI p l e rm_X4_wayByOne s m args below meth c cX4_wayByOne Z D (wC h cA) (aK keysC h s.heap.size) Q) : ∀ (n : Nat) (x2 : Int32) (x3 : Int32) (x4 : Int32) (S : sT) (H : Heap) (locs : List Loc) (ls : Array Slot), va_P D vwCl (wC h cA S) H → va_S (aK keysC h s.heap.size) s.heap H locs → wl_X4_wayByOne_3 Q n x2 x3 x4 S → lv_has ls 9 [(0, .ref (h 1000)), (2, .int x2), (3, .int x3), (4, .int x4)] → W p l e rm_X4_wayByOne s m args below meth c H locs 0 0 Z (F0 m 3 ls []) := by
  intro n
  induction n with
  | zero => intro x2 x3 x4 S H locs ls hP hS hd hl; exact (show False from hd).elim
  | succ n ih => intro x2 x3 x4 S H locs ls hP hS hd hl; exact bk_X4_wayByOne_3 C0 hret (fun x2 x3 x4 S H locs ls hd hP hS hl => ih x2 x3 x4 S H locs ls hP hS hd hl) hP hS hd hl
def wp_X4_wayByOne (x1 : Int32) (x2 : Int32) (x3 : Int32) (S : sT) (Q : Int32 → sT → Prop) : Prop :=
  ∃ n : Nat, wl_X4_wayByOne_3 Q n x2 x3 x1 S
set_option maxHeartbeats 4000000 in
set_option maxRecDepth 100000 in
theorem bk_X4_wayByOne {p : Program} {l : Launch} {e : Env} {s : State} {m : MethodId} {args : Array Value} {below : List Frame} {meth : Method} {c : Code} {Z : State → Prop} {D : va_G} {cA : Nat → ClassId} {h : Nat → Nat} {Q : Int32 → sT → Prop} (C0 : cx p s m args c cX4_wayByOne 9 RX4 D cA true keysC h) (hret : rtI p l e rm_X4_wayByOne s m args below meth c cX4_wayByOne Z D (wC h cA) (aK keysC h s.heap.size) Q) {x1 : Int32} {x2 : Int32} {x3 : Int32} {S : sT} {H : Heap} {locs : List Loc} {ls : Array Slot} (hP : va_P D vwCl (wC h cA S) H) (hS : va_S (aK keysC h s.heap.size) s.heap H locs) (hd : wp_X4_wayByOne x1 x2 x3 S Q) (hl : lv_has ls 9 [(0, .ref (h 1000)), (1, .int x1), (2, .int x2), (3, .int x3)]) : W p l e rm_X4_wayByOne s m args below meth c H locs 0 0 Z (F0 m 0 ls []) := by
  obtain ⟨⟨hx, hb, hml, hown, hts⟩, hK, -, -⟩ := id C0
  unfold wp_X4_wayByOne at hd
  refine lv_iload_n hx hb dX4_wayByOne_0 rfl (lv_at hl 1 rfl) ?_
  refine lv_istore (lv' := [(4, .int x1), (0, .ref (h 1000)), (1, .int x1), (2, .int x2), (3, .int x3)]) hx hb dX4_wayByOne_1 hl (by decide) rfl (fun ls hl => ?_)
  obtain ⟨n_1, hd⟩ := hd
  exact bl_X4_wayByOne_3 C0 hret _ _ _ _ _ _ _ _ hP hS hd (lv_sub hl [1, 3, 4, 0] rfl)
theorem c_X4_wayByOne (l : Launch) {D : va_G} {cA : Nat → ClassId} {h : Nat → Nat} (hk : ky keysC h) {x1 : Int32} {x2 : Int32} {x3 : Int32} {S : sT} (sz : Nat) {Q : Int32 → sT → Prop} (hd : wp_X4_wayByOne x1 x2 x3 S Q) : Met l yX4_wayByOne (wsU yX4_wayByOne cX4_wayByOne 9 (some .int)) rm_X4_wayByOne (va_Pc [.ref (h 1000), .int x1, .int x2, .int x3] (gP D cA true keysC h (wC h cA) S sz)) (va_Qi Q (wB D (wC h cA)) (aK keysC h sz)) 0 0 (aK keysC h sz) :=
  mk_i (by decide) hk (Nat.le_of_ble_eq_true rfl) (fun p e s m below meth c Z ls C0 hret hP hS hl => bk_X4_wayByOne C0 hret hP hS hd hl)
abbrev rm_X4_wayByTwo : Room := { frames := 5, cells := 0, slots := 0, locals := 121 }
def wb_X4_wayByTwo_109 (Q : Int32 → sT → Prop) (K2 : Int32 → Int32 → Int32 → sT → Prop) (x1 : Int32) (x2 : Int32) (x3 : Int32) (S : sT) : Prop :=
  K2 x1 x2 (x3 + (1 : Int32)) S
set_option maxHeartbeats 4000000 in
set_option maxRecDepth 100000 in
theorem bk_X4_wayByTwo_109 {p : Program} {l : Launch} {e : Env} {s : State} {m : MethodId} {args : Array Value} {below : List Frame} {meth : Method} {c : Code} {Z : State → Prop} {D : va_G} {cA : Nat → ClassId} {h : Nat → Nat} {Q : Int32 → sT → Prop} (C0 : cx p s m args c cX4_wayByTwo 8 RX4 D cA true keysC h) (hret : rtI p l e rm_X4_wayByTwo s m args below meth c cX4_wayByTwo Z D (wC h cA) (aK keysC h s.heap.size) Q) {K2 : Int32 → Int32 → Int32 → sT → Prop} (k2 : ∀ (x1 : Int32) (x2 : Int32) (x3 : Int32) (S : sT) (H : Heap) (locs : List Loc) (ls : Array Slot), K2 x1 x2 x3 S → va_P D vwCl (wC h cA S) H → va_S (aK keysC h s.heap.size) s.heap H locs → lv_has ls 8 [(0, .ref (h 1000)), (1, .int x1), (2, .int x2), (3, .int x3)] → W p l e rm_X4_wayByTwo s m args below meth c H locs 0 0 Z (F0 m 2 ls [])) {x1 : Int32} {x2 : Int32} {x3 : Int32} {S : sT} {H : Heap} {locs : List Loc} {ls : Array Slot} (hP : va_P D vwCl (wC h cA S) H) (hS : va_S (aK keysC h s.heap.size) s.heap H locs) (hd : wb_X4_wayByTwo_109 Q K2 x1 x2 x3 S) (hl : lv_has ls 8 [(0, .ref (h 1000)), (1, .int x1), (2, .int x2), (3, .int x3)]) : W p l e rm_X4_wayByTwo s m args below meth c H locs 0 0 Z (F0 m 109 ls []) := by
  obtain ⟨⟨hx, hb, hml, hown, hts⟩, hK, -, -⟩ := id C0
  unfold wb_X4_wayByTwo_109 at hd
  refine lv_iinc (v := x3 + (1 : Int32)) (lv' := [(3, .int (x3 + (1 : Int32))), (0, .ref (h 1000)), (1, .int x1), (2, .int x2)]) hx hb dX4_wayByTwo_109 hl (k := 3) rfl rfl (by decide) rfl (fun ls hl => ?_)
  refine lv_goto (tgt := 2) hx hb dX4_wayByTwo_112 (by decide) ?_
  exact k2 _ _ _ _ _ _ _ hd hP hS (lv_sub hl [1, 2, 3, 0] rfl)
def wb_X4_wayByTwo_2 (Q : Int32 → sT → Prop) (K2 : Int32 → Int32 → Int32 → sT → Prop) (x1 : Int32) (x2 : Int32) (x3 : Int32) (S : sT) : Prop :=
  ((((vI S 26) * (10 : Int32)) ≤ x3 → Q (-9 : Int32) S) ∧ (¬ ((vI S 26) * (10 : Int32)) ≤ x3 → wp_X4_mattersTo x2 (x3 / (10 : Int32)) S (fun r_1 S_1 => ((r_1 = 0 → wb_X4_wayByTwo_109 Q K2 x1 x2 x3 S_1) ∧ (¬ r_1 = 0 → (vp_in (x3 / (10 : Int32)) 6) ∧ (vp_in (x3 / (10 : Int32)) 6) ∧ (vp_in (x3 - x3 / (10 : Int32) * (10 : Int32)) 10) ∧ (vp_in (x3 / (10 : Int32)) 6) ∧ ∀ S_6 : sT, S_6 = uB S_1 110 (vp_updL (vB S_1 110) (x3 / (10 : Int32)).toNatClampNeg (vB S_1 (340 + (x3 / (10 : Int32)).toNatClampNeg) (x3 - x3 / (10 : Int32) * (10 : Int32)).toNatClampNeg)) → wp_X4_wayByOne (((x3 / (10 : Int32)) + (1 : Int32)) * (10 : Int32)) x1 x2 S_6 (fun r_7 S_7 => (vp_in (x3 / (10 : Int32)) 6) ∧ ((r_7 = (-9 : Int32) → wb_X4_wayByTwo_109 Q K2 x1 x2 x3 (uB S_7 110 (vp_updL (vB S_7 110) (x3 / (10 : Int32)).toNatClampNeg (vB S_1 110 (x3 / (10 : Int32)).toNatClampNeg)))) ∧ (¬ r_7 = (-9 : Int32) → Q (((1000 : Int32) * x3) + r_7) (uB S_7 110 (vp_updL (vB S_7 110) (x3 / (10 : Int32)).toNatClampNeg (vB S_1 110 (x3 / (10 : Int32)).toNatClampNeg)))))))))))
set_option maxHeartbeats 4000000 in
set_option maxRecDepth 100000 in
theorem bk_X4_wayByTwo_2 {p : Program} {l : Launch} {e : Env} {s : State} {m : MethodId} {args : Array Value} {below : List Frame} {meth : Method} {c : Code} {Z : State → Prop} {D : va_G} {cA : Nat → ClassId} {h : Nat → Nat} {Q : Int32 → sT → Prop} (C0 : cx p s m args c cX4_wayByTwo 8 RX4 D cA true keysC h) (hret : rtI p l e rm_X4_wayByTwo s m args below meth c cX4_wayByTwo Z D (wC h cA) (aK keysC h s.heap.size) Q) {K2 : Int32 → Int32 → Int32 → sT → Prop} (k2 : ∀ (x1 : Int32) (x2 : Int32) (x3 : Int32) (S : sT) (H : Heap) (locs : List Loc) (ls : Array Slot), K2 x1 x2 x3 S → va_P D vwCl (wC h cA S) H → va_S (aK keysC h s.heap.size) s.heap H locs → lv_has ls 8 [(0, .ref (h 1000)), (1, .int x1), (2, .int x2), (3, .int x3)] → W p l e rm_X4_wayByTwo s m args below meth c H locs 0 0 Z (F0 m 2 ls [])) {x1 : Int32} {x2 : Int32} {x3 : Int32} {S : sT} {H : Heap} {locs : List Loc} {ls : Array Slot} (hP : va_P D vwCl (wC h cA S) H) (hS : va_S (aK keysC h s.heap.size) s.heap H locs) (hd : wb_X4_wayByTwo_2 Q K2 x1 x2 x3 S) (hl : lv_has ls 8 [(0, .ref (h 1000)), (1, .int x1), (2, .int x2), (3, .int x3)]) : W p l e rm_X4_wayByTwo s m args below meth c H locs 0 0 Z (F0 m 2 ls []) := by
  obtain ⟨⟨hx, hb, hml, hown, hts⟩, hK, -, -⟩ := id C0
  unfold wb_X4_wayByTwo_2 at hd
  refine lv_iload_n hx hb dX4_wayByTwo_2 rfl (lv_at hl 3 rfl) ?_
  refine lv_aload_n hx hb dX4_wayByTwo_3 rfl (lv_at hl 0 rfl) ?_
  refine gf_X4_24 C0 hP dX4_wayByTwo_4 ?_
  refine gf_X4_129_0 C0 hP dX4_wayByTwo_7 ?_
  refine lv_bipush (v := 10) hx hb dX4_wayByTwo_10 (by decide) ?_
  refine lv_imul hx hb dX4_wayByTwo_12 ?_
  refine lv_icmp_ge (tgt := 115) hx hb dX4_wayByTwo_13 (by decide) (fun hc => ?_) (fun hc => ?_)
  · have hd := hd.1 hc
    refine lv_bipush (v := (-9)) hx hb dX4_wayByTwo_115 (by decide) ?_
    exact hret _ _ _ _ _ _ hd hP hS dX4_wayByTwo_117
  · have hd := hd.2 hc
    refine lv_iload_n hx hb dX4_wayByTwo_16 rfl (lv_at hl 3 rfl) ?_
    refine lv_bipush (v := 10) hx hb dX4_wayByTwo_17 (by decide) ?_
    refine lv_idiv hx hb dX4_wayByTwo_19 (by decide) ?_
    refine lv_istore (lv' := [(4, .int (x3 / (10 : Int32))), (0, .ref (h 1000)), (1, .int x1), (2, .int x2), (3, .int x3)]) hx hb dX4_wayByTwo_20 hl (by decide) rfl (fun ls hl => ?_)
    refine lv_aload_n hx hb dX4_wayByTwo_22 rfl (lv_at hl 1 rfl) ?_
    refine lv_iload_n hx hb dX4_wayByTwo_23 rfl (lv_at hl 3 rfl) ?_
    refine lv_iload hx hb dX4_wayByTwo_24 (lv_at hl 0 rfl) ?_
    refine cl_Vi (n := 2) (rest := []) C0 hP hS (c_X4_mattersTo l C0.2.2.1 _ hd) (lwG_V lm_X4_304 li_X4_mattersTo lx_X4_mattersTo lz_RX4 lc_X4_mattersTo) (by decide +kernel) (oD_at h cA _) rfl rfl rfl (Nat.le_of_ble_eq_true rfl) ⟨rfl, rfl⟩ ⟨by decide, by decide⟩ dX4_wayByTwo_26 hl.1 ⟨Nat.zero_le _, Nat.zero_le _⟩ (fun r_1 S_1 H locs hd hP hS => ?_)
    refine lv_if_eq (tgt := 109) hx hb dX4_wayByTwo_29 (by decide) (fun hc => ?_) (fun hc => ?_)
    · have hd := hd.1 hc
      exact bk_X4_wayByTwo_109 C0 hret k2 hP hS hd (lv_sub hl [1, 2, 3, 4] rfl)
    · have hd := hd.2 hc
      refine lv_aload_n hx hb dX4_wayByTwo_32 rfl (lv_at hl 1 rfl) ?_
      refine gf_X4_49 C0 hP dX4_wayByTwo_33 ?_
      refine gf_X4_254 C0 hP dX4_wayByTwo_36 ?_
      refine lv_iload hx hb dX4_wayByTwo_39 (lv_at hl 0 rfl) ?_
      obtain ⟨h_2, hd⟩ := hd
      refine ldL (by decide) C0 hP h_2 dX4_wayByTwo_41 ?_
      refine lv_lstore (lv' := [(5, .long (vB S_1 110 (x3 / (10 : Int32)).toNatClampNeg)), (4, .int (x3 / (10 : Int32))), (0, .ref (h 1000)), (1, .int x1), (2, .int x2), (3, .int x3)]) hx hb dX4_wayByTwo_42 hl (by decide) rfl (fun ls hl => ?_)
      refine lv_aload_n hx hb dX4_wayByTwo_44 rfl (lv_at hl 2 rfl) ?_
      refine gf_X4_49 C0 hP dX4_wayByTwo_45 ?_
      refine gf_X4_254 C0 hP dX4_wayByTwo_48 ?_
      refine lv_iload hx hb dX4_wayByTwo_51 (lv_at hl 1 rfl) ?_
      refine lv_aload_n hx hb dX4_wayByTwo_53 rfl (lv_at hl 2 rfl) ?_
      refine gf_X4_55 C0 hP dX4_wayByTwo_54 ?_
      refine lv_iload hx hb dX4_wayByTwo_57 (lv_at hl 1 rfl) ?_
      obtain ⟨h_3, hd⟩ := hd
      refine ao_1012 C0 hP h_3 dX4_wayByTwo_59 ?_
      refine lv_iload_n hx hb dX4_wayByTwo_60 rfl (lv_at hl 5 rfl) ?_
      refine lv_bipush (v := 10) hx hb dX4_wayByTwo_61 (by decide) ?_
      refine lv_irem hx hb dX4_wayByTwo_63 (by decide) ?_
      obtain ⟨h_4, hd⟩ := hd
      refine ldL (kSup _ (vp_lt h_3)) C0 hP (by rw [lSup _ (vp_lt h_3)]; exact h_4) dX4_wayByTwo_64 ?_
      obtain ⟨h_5, hd⟩ := hd
      refine stL (by decide) C0 hP hS h_5 dX4_wayByTwo_65 (fun H locs hP hS => ?_)
      obtain ⟨S_6, eS_6⟩ : ∃ x : sT, x = uB S_1 110 (vp_updL (vB S_1 110) (x3 / (10 : Int32)).toNatClampNeg (vB S_1 (340 + (x3 / (10 : Int32)).toNatClampNeg) (x3 - x3 / (10 : Int32) * (10 : Int32)).toNatClampNeg)) := ⟨_, rfl⟩
      rw [← eS_6] at hP
      have hd := hd S_6 eS_6
      refine lv_aload_n hx hb dX4_wayByTwo_66 rfl (lv_at hl 2 rfl) ?_
      refine lv_iload hx hb dX4_wayByTwo_67 (lv_at hl 1 rfl) ?_
      refine lv_iconst (v := 1) hx hb dX4_wayByTwo_69 (by decide) ?_
      refine lv_iadd hx hb dX4_wayByTwo_70 ?_
      refine lv_bipush (v := 10) hx hb dX4_wayByTwo_71 (by decide) ?_
      refine lv_imul hx hb dX4_wayByTwo_73 ?_
      refine lv_iload_n hx hb dX4_wayByTwo_74 rfl (lv_at hl 3 rfl) ?_
      refine lv_iload_n hx hb dX4_wayByTwo_75 rfl (lv_at hl 4 rfl) ?_
      refine cl_Vi (n := 3) (rest := []) C0 hP hS (c_X4_wayByOne l C0.2.2.1 _ hd) (lwG_V lm_X4_240 li_X4_wayByOne lx_X4_wayByOne lz_RX4 lc_X4_wayByOne) (by decide +kernel) (oD_at h cA _) rfl rfl rfl (Nat.le_of_ble_eq_true rfl) ⟨rfl, rfl⟩ ⟨by decide, by decide⟩ dX4_wayByTwo_76 hl.1 ⟨Nat.zero_le _, Nat.zero_le _⟩ (fun r_7 S_7 H locs hd hP hS => ?_)
      refine lv_istore (lv' := [(7, .int r_7), (5, .long (vB S_1 110 (x3 / (10 : Int32)).toNatClampNeg)), (4, .int (x3 / (10 : Int32))), (0, .ref (h 1000)), (1, .int x1), (2, .int x2), (3, .int x3)]) hx hb dX4_wayByTwo_79 hl (by decide) rfl (fun ls hl => ?_)
      refine lv_aload_n hx hb dX4_wayByTwo_81 rfl (lv_at hl 3 rfl) ?_
      refine gf_X4_49 C0 hP dX4_wayByTwo_82 ?_
      refine gf_X4_254 C0 hP dX4_wayByTwo_85 ?_
      refine lv_iload hx hb dX4_wayByTwo_88 (lv_at hl 2 rfl) ?_
      refine lv_lload hx hb dX4_wayByTwo_90 (lv_at hl 1 rfl) ?_
      obtain ⟨h_8, hd⟩ := hd
      refine stL (by decide) C0 hP hS h_8 dX4_wayByTwo_92 (fun H locs hP hS => ?_)
      refine lv_iload hx hb dX4_wayByTwo_93 (lv_at hl 0 rfl) ?_
      refine lv_bipush (v := (-9)) hx hb dX4_wayByTwo_95 (by decide) ?_
      refine lv_icmp_eq (tgt := 109) hx hb dX4_wayByTwo_97 (by decide) (fun hc => ?_) (fun hc => ?_)
      · have hd := hd.1 hc
        exact bk_X4_wayByTwo_109 C0 hret k2 hP hS hd (lv_sub hl [3, 4, 5, 6] rfl)
      · have hd := hd.2 hc
        refine lv_sipush (v := 1000) hx hb dX4_wayByTwo_100 (by decide) ?_
        refine lv_iload_n hx hb dX4_wayByTwo_103 rfl (lv_at hl 6 rfl) ?_
        refine lv_imul hx hb dX4_wayByTwo_104 ?_
        refine lv_iload hx hb dX4_wayByTwo_105 (lv_at hl 0 rfl) ?_
        refine lv_iadd hx hb dX4_wayByTwo_107 ?_
        exact hret _ _ _ _ _ _ hd hP hS dX4_wayByTwo_108
def wl_X4_wayByTwo_2 (Q : Int32 → sT → Prop) : Nat → Int32 → Int32 → Int32 → sT → Prop
  | 0, _, _, _ => fun _ => False
  | n + 1, x1, x2, x3 => fun S => wb_X4_wayByTwo_2 Q (fun x1 x2 x3 S => wl_X4_wayByTwo_2 Q n x1 x2 x3 S) x1 x2 x3 S
theorem bl_X4_wayByTwo_2 {p : Program} {l : Launch} {e : Env} {s : State} {m : MethodId} {args : Array Value} {below : List Frame} {meth : Method} {c : Code} {Z : State → Prop} {D : va_G} {cA : Nat → ClassId} {h : Nat → Nat} {Q : Int32 → sT → Prop} (C0 : cx p s m args c cX4_wayByTwo 8 RX4 D cA true keysC h) (hret : rtI p l e rm_X4_wayByTwo s m args below meth c cX4_wayByTwo Z D (wC h cA) (aK keysC h s.heap.size) Q) : ∀ (n : Nat) (x1 : Int32) (x2 : Int32) (x3 : Int32) (S : sT) (H : Heap) (locs : List Loc) (ls : Array Slot), va_P D vwCl (wC h cA S) H → va_S (aK keysC h s.heap.size) s.heap H locs → wl_X4_wayByTwo_2 Q n x1 x2 x3 S → lv_has ls 8 [(0, .ref (h 1000)), (1, .int x1), (2, .int x2), (3, .int x3)] → W p l e rm_X4_wayByTwo s m args below meth c H locs 0 0 Z (F0 m 2 ls []) := by
  intro n
  induction n with
  | zero => intro x1 x2 x3 S H locs ls hP hS hd hl; exact (show False from hd).elim
  | succ n ih => intro x1 x2 x3 S H locs ls hP hS hd hl; exact bk_X4_wayByTwo_2 C0 hret (fun x1 x2 x3 S H locs ls hd hP hS hl => ih x1 x2 x3 S H locs ls hP hS hd hl) hP hS hd hl
def wp_X4_wayByTwo (x1 : Int32) (x2 : Int32) (S : sT) (Q : Int32 → sT → Prop) : Prop :=
  ∃ n : Nat, wl_X4_wayByTwo_2 Q n x1 x2 (0 : Int32) S
set_option maxHeartbeats 4000000 in
set_option maxRecDepth 100000 in
theorem bk_X4_wayByTwo {p : Program} {l : Launch} {e : Env} {s : State} {m : MethodId} {args : Array Value} {below : List Frame} {meth : Method} {c : Code} {Z : State → Prop} {D : va_G} {cA : Nat → ClassId} {h : Nat → Nat} {Q : Int32 → sT → Prop} (C0 : cx p s m args c cX4_wayByTwo 8 RX4 D cA true keysC h) (hret : rtI p l e rm_X4_wayByTwo s m args below meth c cX4_wayByTwo Z D (wC h cA) (aK keysC h s.heap.size) Q) {x1 : Int32} {x2 : Int32} {S : sT} {H : Heap} {locs : List Loc} {ls : Array Slot} (hP : va_P D vwCl (wC h cA S) H) (hS : va_S (aK keysC h s.heap.size) s.heap H locs) (hd : wp_X4_wayByTwo x1 x2 S Q) (hl : lv_has ls 8 [(0, .ref (h 1000)), (1, .int x1), (2, .int x2)]) : W p l e rm_X4_wayByTwo s m args below meth c H locs 0 0 Z (F0 m 0 ls []) := by
  obtain ⟨⟨hx, hb, hml, hown, hts⟩, hK, -, -⟩ := id C0
  unfold wp_X4_wayByTwo at hd
  refine lv_iconst (v := 0) hx hb dX4_wayByTwo_0 (by decide) ?_
  refine lv_istore_n (lv' := [(3, .int (0 : Int32)), (0, .ref (h 1000)), (1, .int x1), (2, .int x2)]) hx hb dX4_wayByTwo_1 rfl hl (by decide) rfl (fun ls hl => ?_)
  obtain ⟨n_1, hd⟩ := hd
  exact bl_X4_wayByTwo_2 C0 hret _ _ _ _ _ _ _ _ hP hS hd (lv_sub hl [1, 2, 3, 0] rfl)
theorem c_X4_wayByTwo (l : Launch) {D : va_G} {cA : Nat → ClassId} {h : Nat → Nat} (hk : ky keysC h) {x1 : Int32} {x2 : Int32} {S : sT} (sz : Nat) {Q : Int32 → sT → Prop} (hd : wp_X4_wayByTwo x1 x2 S Q) : Met l yX4_wayByTwo (wsU yX4_wayByTwo cX4_wayByTwo 8 (some .int)) rm_X4_wayByTwo (va_Pc [.ref (h 1000), .int x1, .int x2] (gP D cA true keysC h (wC h cA) S sz)) (va_Qi Q (wB D (wC h cA)) (aK keysC h sz)) 0 0 (aK keysC h sz) :=
  mk_i (by decide) hk (Nat.le_of_ble_eq_true rfl) (fun p e s m below meth c Z ls C0 hret hP hS hl => bk_X4_wayByTwo C0 hret hP hS hd hl)
abbrev rm_X4_feast : Room := { frames := 6, cells := 0, slots := 0, locals := 148 }
def wp_X4_feast (x1 : Int32) (x2 : Int32) (S : sT) (Q : Int32 → sT → Prop) : Prop :=
  wp_X4_isBelow x1 (21 : Int32) S (fun r_1 S_1 => ((r_1 = 0 → Q (-1 : Int32) S_1) ∧ (¬ r_1 = 0 → wp_X4_isBelow x2 (41 : Int32) S_1 (fun r_2 S_2 => ((¬ r_2 = 0 → ((¬ (vI S_2 26) = 0 → wp_X0_setOut 0 S_2 (fun S_3 => wp_X4_standsBehind x2 x1 S_3 (fun r_4 S_4 => ((r_4 = 0 → wp_X4_learnSuppers S_4 (fun S_5 => wp_X4_wayByOne (0 : Int32) x2 x1 S_5 (fun r_6 S_6 => ((r_6 = (-9 : Int32) → wp_X4_wayByTwo x2 x1 S_6 (fun r_7 S_7 => ((r_7 = (-9 : Int32) → Q (-9 : Int32) S_7) ∧ (¬ r_7 = (-9 : Int32) → Q (2 : Int32) (uI S_7 13 r_7))))) ∧ (¬ r_6 = (-9 : Int32) → Q (1 : Int32) (uI S_6 13 r_6)))))) ∧ (¬ r_4 = 0 → Q (0 : Int32) (uI S_4 13 (0 : Int32))))))) ∧ ((vI S_2 26) = 0 → Q (-4 : Int32) S_2))) ∧ (r_2 = 0 → Q (-1 : Int32) S_2))))))
set_option maxHeartbeats 4000000 in
set_option maxRecDepth 100000 in
theorem bk_X4_feast {p : Program} {l : Launch} {e : Env} {s : State} {m : MethodId} {args : Array Value} {below : List Frame} {meth : Method} {c : Code} {Z : State → Prop} {D : va_G} {cA : Nat → ClassId} {h : Nat → Nat} {Q : Int32 → sT → Prop} (C0 : cx p s m args c cX4_feast 4 RX4 D cA true keysC h) (hret : rtI p l e rm_X4_feast s m args below meth c cX4_feast Z D (wC h cA) (aK keysC h s.heap.size) Q) {x1 : Int32} {x2 : Int32} {S : sT} {H : Heap} {locs : List Loc} {ls : Array Slot} (hP : va_P D vwCl (wC h cA S) H) (hS : va_S (aK keysC h s.heap.size) s.heap H locs) (hd : wp_X4_feast x1 x2 S Q) (hl : lv_has ls 4 [(0, .ref (h 1000)), (1, .int x1), (2, .int x2)]) : W p l e rm_X4_feast s m args below meth c H locs 0 0 Z (F0 m 0 ls []) := by
  obtain ⟨⟨hx, hb, hml, hown, hts⟩, hK, -, -⟩ := id C0
  unfold wp_X4_feast at hd
  refine lv_iload_n hx hb dX4_feast_0 rfl (lv_at hl 1 rfl) ?_
  refine lv_bipush (v := 21) hx hb dX4_feast_1 (by decide) ?_
  refine cl_Si (n := 2) (rest := []) C0 hP hS (c_X4_isBelow l C0.2.2.1 _ hd) (lwG_S lm_X4_132 ls_X4_isBelow lz_RX4 lc_X4_isBelow) (by decide +kernel) rfl rfl (Nat.le_of_ble_eq_true rfl) ⟨rfl, rfl⟩ ⟨by decide, by decide⟩ dX4_feast_3 hl.1 ⟨Nat.zero_le _, Nat.zero_le _⟩ (fun r_1 S_1 H locs hd hP hS => ?_)
  refine lv_if_eq (tgt := 18) hx hb dX4_feast_6 (by decide) (fun hc => ?_) (fun hc => ?_)
  · have hd := hd.1 hc
    refine lv_iconst (v := (-1)) hx hb dX4_feast_18 (by decide) ?_
    exact hret _ _ _ _ _ _ hd hP hS dX4_feast_19
  · have hd := hd.2 hc
    refine lv_iload_n hx hb dX4_feast_9 rfl (lv_at hl 2 rfl) ?_
    refine lv_bipush (v := 41) hx hb dX4_feast_10 (by decide) ?_
    refine cl_Si (n := 2) (rest := []) C0 hP hS (c_X4_isBelow l C0.2.2.1 _ hd) (lwG_S lm_X4_132 ls_X4_isBelow lz_RX4 lc_X4_isBelow) (by decide +kernel) rfl rfl (Nat.le_of_ble_eq_true rfl) ⟨rfl, rfl⟩ ⟨by decide, by decide⟩ dX4_feast_12 hl.1 ⟨Nat.zero_le _, Nat.zero_le _⟩ (fun r_2 S_2 H locs hd hP hS => ?_)
    refine lv_if_ne (tgt := 20) hx hb dX4_feast_15 (by decide) (fun hc => ?_) (fun hc => ?_)
    · have hd := hd.1 hc
      refine lv_aload_n hx hb dX4_feast_20 rfl (lv_at hl 0 rfl) ?_
      refine gf_X4_24 C0 hP dX4_feast_21 ?_
      refine gf_X4_129_0 C0 hP dX4_feast_24 ?_
      refine lv_if_ne (tgt := 33) hx hb dX4_feast_27 (by decide) (fun hc => ?_) (fun hc => ?_)
      · have hd := hd.1 hc
        refine lv_aload_n hx hb dX4_feast_33 rfl (lv_at hl 0 rfl) ?_
        refine gf_X4_49 C0 hP dX4_feast_34 ?_
        refine lv_aload_n hx hb dX4_feast_37 rfl (lv_at hl 0 rfl) ?_
        refine gf_X4_24 C0 hP dX4_feast_38 ?_
        refine cl_VNv (n := 1) (rest := []) C0 hP hS (c_X0_setOut l C0.2.2.1 (by decide) _ hd) (lwG_C lc_X0_setOut) (by decide +kernel : (RX4, 193, yX0_setOut, "DreamTrain") ∈ nestM) lz_RX0 li_X0_setOut lx_X0_setOut (by decide +kernel) (oJ_at h cA _) rfl rfl rfl (Nat.le_of_ble_eq_true rfl) ⟨rfl, rfl⟩ ⟨by decide, by decide⟩ dX4_feast_41 hl.1 ⟨Nat.zero_le _, Nat.zero_le _⟩ (fun S_3 H locs hd hP hS => ?_)
        refine lv_aload_n hx hb dX4_feast_44 rfl (lv_at hl 0 rfl) ?_
        refine lv_iload_n hx hb dX4_feast_45 rfl (lv_at hl 2 rfl) ?_
        refine lv_iload_n hx hb dX4_feast_46 rfl (lv_at hl 1 rfl) ?_
        refine cl_Vi (n := 2) (rest := []) C0 hP hS (c_X4_standsBehind l C0.2.2.1 _ hd) (lwG_V lm_X4_234 li_X4_standsBehind lx_X4_standsBehind lz_RX4 lc_X4_standsBehind) (by decide +kernel) (oD_at h cA _) rfl rfl rfl (Nat.le_of_ble_eq_true rfl) ⟨rfl, rfl⟩ ⟨by decide, by decide⟩ dX4_feast_47 hl.1 ⟨Nat.zero_le _, Nat.zero_le _⟩ (fun r_4 S_4 H locs hd hP hS => ?_)
        refine lv_if_eq (tgt := 60) hx hb dX4_feast_50 (by decide) (fun hc => ?_) (fun hc => ?_)
        · have hd := hd.1 hc
          refine lv_aload_n hx hb dX4_feast_60 rfl (lv_at hl 0 rfl) ?_
          refine cl_Vv (n := 0) (rest := []) C0 hP hS (c_X4_learnSuppers l C0.2.2.1 _ hd) (lwG_V lm_X4_237 li_X4_learnSuppers lx_X4_learnSuppers lz_RX4 lc_X4_learnSuppers) (by decide +kernel) (oD_at h cA _) rfl rfl rfl (Nat.le_of_ble_eq_true rfl) ⟨rfl, rfl⟩ ⟨by decide, by decide⟩ dX4_feast_61 hl.1 ⟨Nat.zero_le _, Nat.zero_le _⟩ (fun S_5 H locs hd hP hS => ?_)
          refine lv_aload_n hx hb dX4_feast_64 rfl (lv_at hl 0 rfl) ?_
          refine lv_iconst (v := 0) hx hb dX4_feast_65 (by decide) ?_
          refine lv_iload_n hx hb dX4_feast_66 rfl (lv_at hl 2 rfl) ?_
          refine lv_iload_n hx hb dX4_feast_67 rfl (lv_at hl 1 rfl) ?_
          refine cl_Vi (n := 3) (rest := []) C0 hP hS (c_X4_wayByOne l C0.2.2.1 _ hd) (lwG_V lm_X4_240 li_X4_wayByOne lx_X4_wayByOne lz_RX4 lc_X4_wayByOne) (by decide +kernel) (oD_at h cA _) rfl rfl rfl (Nat.le_of_ble_eq_true rfl) ⟨rfl, rfl⟩ ⟨by decide, by decide⟩ dX4_feast_68 hl.1 ⟨Nat.zero_le _, Nat.zero_le _⟩ (fun r_6 S_6 H locs hd hP hS => ?_)
          refine lv_istore_n (lv' := [(3, .int r_6), (0, .ref (h 1000)), (1, .int x1), (2, .int x2)]) hx hb dX4_feast_71 rfl hl (by decide) rfl (fun ls hl => ?_)
          refine lv_iload_n hx hb dX4_feast_72 rfl (lv_at hl 0 rfl) ?_
          refine lv_bipush (v := (-9)) hx hb dX4_feast_73 (by decide) ?_
          refine lv_icmp_eq (tgt := 85) hx hb dX4_feast_75 (by decide) (fun hc => ?_) (fun hc => ?_)
          · have hd := hd.1 hc
            refine lv_aload_n hx hb dX4_feast_85 rfl (lv_at hl 1 rfl) ?_
            refine lv_iload_n hx hb dX4_feast_86 rfl (lv_at hl 3 rfl) ?_
            refine lv_iload_n hx hb dX4_feast_87 rfl (lv_at hl 2 rfl) ?_
            refine cl_Vi (n := 2) (rest := []) C0 hP hS (c_X4_wayByTwo l C0.2.2.1 _ hd) (lwG_V lm_X4_244 li_X4_wayByTwo lx_X4_wayByTwo lz_RX4 lc_X4_wayByTwo) (by decide +kernel) (oD_at h cA _) rfl rfl rfl (Nat.le_of_ble_eq_true rfl) ⟨rfl, rfl⟩ ⟨by decide, by decide⟩ dX4_feast_88 hl.1 ⟨Nat.zero_le _, Nat.zero_le _⟩ (fun r_7 S_7 H locs hd hP hS => ?_)
            refine lv_istore_n (lv' := [(3, .int r_7), (0, .ref (h 1000)), (1, .int x1), (2, .int x2)]) hx hb dX4_feast_91 rfl hl (by decide) rfl (fun ls hl => ?_)
            refine lv_iload_n hx hb dX4_feast_92 rfl (lv_at hl 0 rfl) ?_
            refine lv_bipush (v := (-9)) hx hb dX4_feast_93 (by decide) ?_
            refine lv_icmp_eq (tgt := 105) hx hb dX4_feast_95 (by decide) (fun hc => ?_) (fun hc => ?_)
            · have hd := hd.1 hc
              refine lv_bipush (v := (-9)) hx hb dX4_feast_105 (by decide) ?_
              exact hret _ _ _ _ _ _ hd hP hS dX4_feast_107
            · have hd := hd.2 hc
              refine lv_aload_n hx hb dX4_feast_98 rfl (lv_at hl 1 rfl) ?_
              refine lv_iload_n hx hb dX4_feast_99 rfl (lv_at hl 0 rfl) ?_
              refine pf_X4_97 C0 hP hS dX4_feast_100 (fun H locs hP hS => ?_)
              refine lv_iconst (v := 2) hx hb dX4_feast_103 (by decide) ?_
              exact hret _ _ _ _ _ _ hd hP hS dX4_feast_104
          · have hd := hd.2 hc
            refine lv_aload_n hx hb dX4_feast_78 rfl (lv_at hl 1 rfl) ?_
            refine lv_iload_n hx hb dX4_feast_79 rfl (lv_at hl 0 rfl) ?_
            refine pf_X4_97 C0 hP hS dX4_feast_80 (fun H locs hP hS => ?_)
            refine lv_iconst (v := 1) hx hb dX4_feast_83 (by decide) ?_
            exact hret _ _ _ _ _ _ hd hP hS dX4_feast_84
        · have hd := hd.2 hc
          refine lv_aload_n hx hb dX4_feast_53 rfl (lv_at hl 0 rfl) ?_
          refine lv_iconst (v := 0) hx hb dX4_feast_54 (by decide) ?_
          refine pf_X4_97 C0 hP hS dX4_feast_55 (fun H locs hP hS => ?_)
          refine lv_iconst (v := 0) hx hb dX4_feast_58 (by decide) ?_
          exact hret _ _ _ _ _ _ hd hP hS dX4_feast_59
      · have hd := hd.2 hc
        refine lv_bipush (v := (-4)) hx hb dX4_feast_30 (by decide) ?_
        exact hret _ _ _ _ _ _ hd hP hS dX4_feast_32
    · have hd := hd.2 hc
      refine lv_iconst (v := (-1)) hx hb dX4_feast_18 (by decide) ?_
      exact hret _ _ _ _ _ _ hd hP hS dX4_feast_19
theorem c_X4_feast (l : Launch) {D : va_G} {cA : Nat → ClassId} {h : Nat → Nat} (hk : ky keysC h) {x1 : Int32} {x2 : Int32} {S : sT} (sz : Nat) {Q : Int32 → sT → Prop} (hd : wp_X4_feast x1 x2 S Q) : Met l yX4_feast (wsU yX4_feast cX4_feast 4 (some .int)) rm_X4_feast (va_Pc [.ref (h 1000), .int x1, .int x2] (gP D cA true keysC h (wC h cA) S sz)) (va_Qi Q (wB D (wC h cA)) (aK keysC h sz)) 0 0 (aK keysC h sz) :=
  mk_i (by decide) hk (Nat.le_of_ble_eq_true rfl) (fun p e s m below meth c Z ls C0 hret hP hS hl => bk_X4_feast C0 hret hP hS hd hl)
abbrev rm_X4_feed : Room := { frames := 3, cells := 0, slots := 0, locals := 66 }
def wp_X4_feed (x1 : Int32) (x2 : Int32) (S : sT) (Q : Int32 → sT → Prop) : Prop :=
  wp_X4_isBelow x1 (vI S 26) S (fun r_1 S_1 => ((r_1 = 0 → Q (-1 : Int32) S_1) ∧ (¬ r_1 = 0 → wp_X4_isBelow x2 (10 : Int32) S_1 (fun r_2 S_2 => ((¬ r_2 = 0 → wp_X1_hasRoomFor 0 (1 : Int32) S_2 (fun r_3 S_3 => ((¬ r_3 = 0 → (vp_in x1 6) ∧ wp_X1_changeSupper 0 x1 x2 S_3 (fun S_5 => Q (vA S_3 22 x1.toNatClampNeg) S_5)) ∧ (r_3 = 0 → Q (-2 : Int32) S_3)))) ∧ (r_2 = 0 → Q (-1 : Int32) S_2))))))
set_option maxHeartbeats 4000000 in
set_option maxRecDepth 100000 in
theorem bk_X4_feed {p : Program} {l : Launch} {e : Env} {s : State} {m : MethodId} {args : Array Value} {below : List Frame} {meth : Method} {c : Code} {Z : State → Prop} {D : va_G} {cA : Nat → ClassId} {h : Nat → Nat} {Q : Int32 → sT → Prop} (C0 : cx p s m args c cX4_feed 4 RX4 D cA true keysC h) (hret : rtI p l e rm_X4_feed s m args below meth c cX4_feed Z D (wC h cA) (aK keysC h s.heap.size) Q) {x1 : Int32} {x2 : Int32} {S : sT} {H : Heap} {locs : List Loc} {ls : Array Slot} (hP : va_P D vwCl (wC h cA S) H) (hS : va_S (aK keysC h s.heap.size) s.heap H locs) (hd : wp_X4_feed x1 x2 S Q) (hl : lv_has ls 4 [(0, .ref (h 1000)), (1, .int x1), (2, .int x2)]) : W p l e rm_X4_feed s m args below meth c H locs 0 0 Z (F0 m 0 ls []) := by
  obtain ⟨⟨hx, hb, hml, hown, hts⟩, hK, -, -⟩ := id C0
  unfold wp_X4_feed at hd
  refine lv_iload_n hx hb dX4_feed_0 rfl (lv_at hl 1 rfl) ?_
  refine lv_aload_n hx hb dX4_feed_1 rfl (lv_at hl 0 rfl) ?_
  refine gf_X4_24 C0 hP dX4_feed_2 ?_
  refine gf_X4_129_0 C0 hP dX4_feed_5 ?_
  refine cl_Si (n := 2) (rest := []) C0 hP hS (c_X4_isBelow l C0.2.2.1 _ hd) (lwG_S lm_X4_132 ls_X4_isBelow lz_RX4 lc_X4_isBelow) (by decide +kernel) rfl rfl (Nat.le_of_ble_eq_true rfl) ⟨rfl, rfl⟩ ⟨by decide, by decide⟩ dX4_feed_8 hl.1 ⟨Nat.zero_le _, Nat.zero_le _⟩ (fun r_1 S_1 H locs hd hP hS => ?_)
  refine lv_if_eq (tgt := 23) hx hb dX4_feed_11 (by decide) (fun hc => ?_) (fun hc => ?_)
  · have hd := hd.1 hc
    refine lv_iconst (v := (-1)) hx hb dX4_feed_23 (by decide) ?_
    exact hret _ _ _ _ _ _ hd hP hS dX4_feed_24
  · have hd := hd.2 hc
    refine lv_iload_n hx hb dX4_feed_14 rfl (lv_at hl 2 rfl) ?_
    refine lv_bipush (v := 10) hx hb dX4_feed_15 (by decide) ?_
    refine cl_Si (n := 2) (rest := []) C0 hP hS (c_X4_isBelow l C0.2.2.1 _ hd) (lwG_S lm_X4_132 ls_X4_isBelow lz_RX4 lc_X4_isBelow) (by decide +kernel) rfl rfl (Nat.le_of_ble_eq_true rfl) ⟨rfl, rfl⟩ ⟨by decide, by decide⟩ dX4_feed_17 hl.1 ⟨Nat.zero_le _, Nat.zero_le _⟩ (fun r_2 S_2 H locs hd hP hS => ?_)
    refine lv_if_ne (tgt := 25) hx hb dX4_feed_20 (by decide) (fun hc => ?_) (fun hc => ?_)
    · have hd := hd.1 hc
      refine lv_aload_n hx hb dX4_feed_25 rfl (lv_at hl 0 rfl) ?_
      refine gf_X4_24 C0 hP dX4_feed_26 ?_
      refine lv_iconst (v := 1) hx hb dX4_feed_29 (by decide) ?_
      refine cl_VNi (n := 1) (rest := []) C0 hP hS (c_X1_hasRoomFor l C0.2.2.1 (by decide) _ hd) (lwG_C lc_X1_hasRoomFor) (by decide +kernel : (RX4, 165, yX1_hasRoomFor, "DreamTrain") ∈ nestM) lz_RX1 li_X1_hasRoomFor lx_X1_hasRoomFor (by decide +kernel) (oL_at h cA _ 0 (by decide)) rfl rfl rfl (Nat.le_of_ble_eq_true rfl) ⟨rfl, rfl⟩ ⟨by decide, by decide⟩ dX4_feed_30 hl.1 ⟨Nat.zero_le _, Nat.zero_le _⟩ (fun r_3 S_3 H locs hd hP hS => ?_)
      refine lv_if_ne (tgt := 39) hx hb dX4_feed_33 (by decide) (fun hc => ?_) (fun hc => ?_)
      · have hd := hd.1 hc
        refine lv_aload_n hx hb dX4_feed_39 rfl (lv_at hl 0 rfl) ?_
        refine gf_X4_24 C0 hP dX4_feed_40 ?_
        refine gf_X4_146_0 C0 hP dX4_feed_43 ?_
        refine lv_iload_n hx hb dX4_feed_46 rfl (lv_at hl 1 rfl) ?_
        obtain ⟨h_4, hd⟩ := hd
        refine ldC (by decide) C0 hP h_4 dX4_feed_47 ?_
        refine lv_istore_n (lv' := [(3, .int (vA S_3 22 x1.toNatClampNeg)), (0, .ref (h 1000)), (1, .int x1), (2, .int x2)]) hx hb dX4_feed_48 rfl hl (by decide) rfl (fun ls hl => ?_)
        refine lv_aload_n hx hb dX4_feed_49 rfl (lv_at hl 1 rfl) ?_
        refine gf_X4_24 C0 hP dX4_feed_50 ?_
        refine lv_iload_n hx hb dX4_feed_53 rfl (lv_at hl 2 rfl) ?_
        refine lv_iload_n hx hb dX4_feed_54 rfl (lv_at hl 3 rfl) ?_
        refine cl_VNv (n := 2) (rest := []) C0 hP hS (c_X1_changeSupper l C0.2.2.1 (by decide) _ hd) (lwG_C lc_X1_changeSupper) (by decide +kernel : (RX4, 174, yX1_changeSupper, "DreamTrain") ∈ nestM) lz_RX1 li_X1_changeSupper lx_X1_changeSupper (by decide +kernel) (oL_at h cA _ 0 (by decide)) rfl rfl rfl (Nat.le_of_ble_eq_true rfl) ⟨rfl, rfl⟩ ⟨by decide, by decide⟩ dX4_feed_55 hl.1 ⟨Nat.zero_le _, Nat.zero_le _⟩ (fun S_5 H locs hd hP hS => ?_)
        refine lv_iload_n hx hb dX4_feed_58 rfl (lv_at hl 0 rfl) ?_
        exact hret _ _ _ _ _ _ hd hP hS dX4_feed_59
      · have hd := hd.2 hc
        refine lv_bipush (v := (-2)) hx hb dX4_feed_36 (by decide) ?_
        exact hret _ _ _ _ _ _ hd hP hS dX4_feed_38
    · have hd := hd.2 hc
      refine lv_iconst (v := (-1)) hx hb dX4_feed_23 (by decide) ?_
      exact hret _ _ _ _ _ _ hd hP hS dX4_feed_24
theorem c_X4_feed (l : Launch) {D : va_G} {cA : Nat → ClassId} {h : Nat → Nat} (hk : ky keysC h) {x1 : Int32} {x2 : Int32} {S : sT} (sz : Nat) {Q : Int32 → sT → Prop} (hd : wp_X4_feed x1 x2 S Q) : Met l yX4_feed (wsU yX4_feed cX4_feed 4 (some .int)) rm_X4_feed (va_Pc [.ref (h 1000), .int x1, .int x2] (gP D cA true keysC h (wC h cA) S sz)) (va_Qi Q (wB D (wC h cA)) (aK keysC h sz)) 0 0 (aK keysC h sz) :=
  mk_i (by decide) hk (Nat.le_of_ble_eq_true rfl) (fun p e s m below meth c Z ls C0 hret hP hS hl => bk_X4_feed C0 hret hP hS hd hl)
abbrev rm_X4_finding : Room := { frames := 0, cells := 0, slots := 0, locals := 0 }
def wp_X4_finding (S : sT) (Q : Int32 → sT → Prop) : Prop :=
  Q (vI S 16) S
set_option maxHeartbeats 4000000 in
set_option maxRecDepth 100000 in
theorem bk_X4_finding {p : Program} {l : Launch} {e : Env} {s : State} {m : MethodId} {args : Array Value} {below : List Frame} {meth : Method} {c : Code} {Z : State → Prop} {D : va_G} {cA : Nat → ClassId} {h : Nat → Nat} {Q : Int32 → sT → Prop} (C0 : cx p s m args c cX4_finding 1 RX4 D cA true keysC h) (hret : rtI p l e rm_X4_finding s m args below meth c cX4_finding Z D (wC h cA) (aK keysC h s.heap.size) Q) {S : sT} {H : Heap} {locs : List Loc} {ls : Array Slot} (hP : va_P D vwCl (wC h cA S) H) (hS : va_S (aK keysC h s.heap.size) s.heap H locs) (hd : wp_X4_finding S Q) (hl : lv_has ls 1 [(0, .ref (h 1000))]) : W p l e rm_X4_finding s m args below meth c H locs 0 0 Z (F0 m 0 ls []) := by
  obtain ⟨⟨hx, hb, hml, hown, hts⟩, hK, -, -⟩ := id C0
  unfold wp_X4_finding at hd
  refine lv_aload_n hx hb dX4_finding_0 rfl (lv_at hl 0 rfl) ?_
  refine gf_X4_293 C0 hP dX4_finding_1 ?_
  exact hret _ _ _ _ _ _ hd hP hS dX4_finding_4
theorem c_X4_finding (l : Launch) {D : va_G} {cA : Nat → ClassId} {h : Nat → Nat} (hk : ky keysC h) {S : sT} (sz : Nat) {Q : Int32 → sT → Prop} (hd : wp_X4_finding S Q) : Met l yX4_finding (wsU yX4_finding cX4_finding 1 (some .int)) rm_X4_finding (va_Pc [.ref (h 1000)] (gP D cA true keysC h (wC h cA) S sz)) (va_Qi Q (wB D (wC h cA)) (aK keysC h sz)) 0 0 (aK keysC h sz) :=
  mk_i (by decide) hk (Nat.le_of_ble_eq_true rfl) (fun p e s m below meth c Z ls C0 hret hP hS hl => bk_X4_finding C0 hret hP hS hd hl)
abbrev rm_X4_findings : Room := { frames := 0, cells := 0, slots := 0, locals := 0 }
def wp_X4_findings (x1 : Int32) (S : sT) (Q : Int32 → sT → Prop) : Prop :=
  ((x1 < (1 : Int32) → Q (-1 : Int32) S) ∧ (¬ x1 < (1 : Int32) → (((5 : Int32) < x1 → Q (-1 : Int32) S) ∧ (¬ (5 : Int32) < x1 → (vp_in x1 6) ∧ Q (vA S 12 x1.toNatClampNeg) S))))
set_option maxHeartbeats 4000000 in
set_option maxRecDepth 100000 in
theorem bk_X4_findings {p : Program} {l : Launch} {e : Env} {s : State} {m : MethodId} {args : Array Value} {below : List Frame} {meth : Method} {c : Code} {Z : State → Prop} {D : va_G} {cA : Nat → ClassId} {h : Nat → Nat} {Q : Int32 → sT → Prop} (C0 : cx p s m args c cX4_findings 2 RX4 D cA true keysC h) (hret : rtI p l e rm_X4_findings s m args below meth c cX4_findings Z D (wC h cA) (aK keysC h s.heap.size) Q) {x1 : Int32} {S : sT} {H : Heap} {locs : List Loc} {ls : Array Slot} (hP : va_P D vwCl (wC h cA S) H) (hS : va_S (aK keysC h s.heap.size) s.heap H locs) (hd : wp_X4_findings x1 S Q) (hl : lv_has ls 2 [(0, .ref (h 1000)), (1, .int x1)]) : W p l e rm_X4_findings s m args below meth c H locs 0 0 Z (F0 m 0 ls []) := by
  obtain ⟨⟨hx, hb, hml, hown, hts⟩, hK, -, -⟩ := id C0
  unfold wp_X4_findings at hd
  refine lv_iload_n hx hb dX4_findings_0 rfl (lv_at hl 1 rfl) ?_
  refine lv_iconst (v := 1) hx hb dX4_findings_1 (by decide) ?_
  refine lv_icmp_lt (tgt := 19) hx hb dX4_findings_2 (by decide) (fun hc => ?_) (fun hc => ?_)
  · have hd := hd.1 hc
    refine lv_iconst (v := (-1)) hx hb dX4_findings_19 (by decide) ?_
    exact hret _ _ _ _ _ _ hd hP hS dX4_findings_20
  · have hd := hd.2 hc
    refine lv_iload_n hx hb dX4_findings_5 rfl (lv_at hl 1 rfl) ?_
    refine lv_iconst (v := 5) hx hb dX4_findings_6 (by decide) ?_
    refine lv_icmp_gt (tgt := 19) hx hb dX4_findings_7 (by decide) (fun hc => ?_) (fun hc => ?_)
    · have hd := hd.1 hc
      refine lv_iconst (v := (-1)) hx hb dX4_findings_19 (by decide) ?_
      exact hret _ _ _ _ _ _ hd hP hS dX4_findings_20
    · have hd := hd.2 hc
      refine lv_aload_n hx hb dX4_findings_10 rfl (lv_at hl 0 rfl) ?_
      refine gf_X4_70 C0 hP dX4_findings_11 ?_
      refine lv_iload_n hx hb dX4_findings_14 rfl (lv_at hl 1 rfl) ?_
      obtain ⟨h_1, hd⟩ := hd
      refine ldC (by decide) C0 hP h_1 dX4_findings_15 ?_
      refine lv_goto (tgt := 20) hx hb dX4_findings_16 (by decide) ?_
      exact hret _ _ _ _ _ _ hd hP hS dX4_findings_20
theorem c_X4_findings (l : Launch) {D : va_G} {cA : Nat → ClassId} {h : Nat → Nat} (hk : ky keysC h) {x1 : Int32} {S : sT} (sz : Nat) {Q : Int32 → sT → Prop} (hd : wp_X4_findings x1 S Q) : Met l yX4_findings (wsU yX4_findings cX4_findings 2 (some .int)) rm_X4_findings (va_Pc [.ref (h 1000), .int x1] (gP D cA true keysC h (wC h cA) S sz)) (va_Qi Q (wB D (wC h cA)) (aK keysC h sz)) 0 0 (aK keysC h sz) :=
  mk_i (by decide) hk (Nat.le_of_ble_eq_true rfl) (fun p e s m below meth c Z ls C0 hret hP hS hl => bk_X4_findings C0 hret hP hS hd hl)
abbrev rm_X4_firstDream : Room := { frames := 1, cells := 0, slots := 0, locals := 26 }
def wb_X4_firstDream_43 (Q : Int32 → sT → Prop) (K2 : Int32 → Int32 → Int32 → sT → Prop) (x0 : Int32) (x1 : Int32) (x2 : Int32) (S : sT) : Prop :=
  K2 x0 x1 (x2 + (1 : Int32)) S
set_option maxHeartbeats 4000000 in
set_option maxRecDepth 100000 in
theorem bk_X4_firstDream_43 {p : Program} {l : Launch} {e : Env} {s : State} {m : MethodId} {args : Array Value} {below : List Frame} {meth : Method} {c : Code} {Z : State → Prop} {D : va_G} {cA : Nat → ClassId} {h : Nat → Nat} {Q : Int32 → sT → Prop} (C0 : cx p s m args c cX4_firstDream 4 RX4 D cA true keysC h) (hret : rtI p l e rm_X4_firstDream s m args below meth c cX4_firstDream Z D (wC h cA) (aK keysC h s.heap.size) Q) {K2 : Int32 → Int32 → Int32 → sT → Prop} (k2 : ∀ (x0 : Int32) (x1 : Int32) (x2 : Int32) (S : sT) (H : Heap) (locs : List Loc) (ls : Array Slot), K2 x0 x1 x2 S → va_P D vwCl (wC h cA S) H → va_S (aK keysC h s.heap.size) s.heap H locs → lv_has ls 4 [(0, .int x0), (1, .int x1), (2, .int x2)] → W p l e rm_X4_firstDream s m args below meth c H locs 0 0 Z (F0 m 2 ls [])) {x0 : Int32} {x1 : Int32} {x2 : Int32} {S : sT} {H : Heap} {locs : List Loc} {ls : Array Slot} (hP : va_P D vwCl (wC h cA S) H) (hS : va_S (aK keysC h s.heap.size) s.heap H locs) (hd : wb_X4_firstDream_43 Q K2 x0 x1 x2 S) (hl : lv_has ls 4 [(0, .int x0), (1, .int x1), (2, .int x2)]) : W p l e rm_X4_firstDream s m args below meth c H locs 0 0 Z (F0 m 43 ls []) := by
  obtain ⟨⟨hx, hb, hml, hown, hts⟩, hK, -, -⟩ := id C0
  unfold wb_X4_firstDream_43 at hd
  refine lv_iinc (v := x2 + (1 : Int32)) (lv' := [(2, .int (x2 + (1 : Int32))), (0, .int x0), (1, .int x1)]) hx hb dX4_firstDream_43 hl (k := 2) rfl rfl (by decide) rfl (fun ls hl => ?_)
  refine lv_goto (tgt := 2) hx hb dX4_firstDream_46 (by decide) ?_
  exact k2 _ _ _ _ _ _ _ hd hP hS (lv_sub hl [1, 2, 0] rfl)
def wb_X4_firstDream_27 (Q : Int32 → sT → Prop) (K2 : Int32 → Int32 → Int32 → sT → Prop) (x0 : Int32) (x1 : Int32) (x2 : Int32) (y0 : Int32) (S : sT) : Prop :=
  ((y0 = 0 → wb_X4_firstDream_43 Q K2 x0 x1 x2 S) ∧ (¬ y0 = 0 → wp_X4_wouldDream x0 x1 x2 S (fun r_1 S_1 => ((r_1 = 0 → wb_X4_firstDream_43 Q K2 x0 x1 x2 S_1) ∧ (¬ r_1 = 0 → Q x2 S_1)))))
set_option maxHeartbeats 4000000 in
set_option maxRecDepth 100000 in
theorem bk_X4_firstDream_27 {p : Program} {l : Launch} {e : Env} {s : State} {m : MethodId} {args : Array Value} {below : List Frame} {meth : Method} {c : Code} {Z : State → Prop} {D : va_G} {cA : Nat → ClassId} {h : Nat → Nat} {Q : Int32 → sT → Prop} (C0 : cx p s m args c cX4_firstDream 4 RX4 D cA true keysC h) (hret : rtI p l e rm_X4_firstDream s m args below meth c cX4_firstDream Z D (wC h cA) (aK keysC h s.heap.size) Q) {K2 : Int32 → Int32 → Int32 → sT → Prop} (k2 : ∀ (x0 : Int32) (x1 : Int32) (x2 : Int32) (S : sT) (H : Heap) (locs : List Loc) (ls : Array Slot), K2 x0 x1 x2 S → va_P D vwCl (wC h cA S) H → va_S (aK keysC h s.heap.size) s.heap H locs → lv_has ls 4 [(0, .int x0), (1, .int x1), (2, .int x2)] → W p l e rm_X4_firstDream s m args below meth c H locs 0 0 Z (F0 m 2 ls [])) {x0 : Int32} {x1 : Int32} {x2 : Int32} {y0 : Int32} {S : sT} {H : Heap} {locs : List Loc} {ls : Array Slot} (hP : va_P D vwCl (wC h cA S) H) (hS : va_S (aK keysC h s.heap.size) s.heap H locs) (hd : wb_X4_firstDream_27 Q K2 x0 x1 x2 y0 S) (hl : lv_has ls 4 [(0, .int x0), (1, .int x1), (2, .int x2)]) : W p l e rm_X4_firstDream s m args below meth c H locs 0 0 Z (F0 m 27 ls [.int y0]) := by
  obtain ⟨⟨hx, hb, hml, hown, hts⟩, hK, -, -⟩ := id C0
  unfold wb_X4_firstDream_27 at hd
  refine lv_istore_n (lv' := [(3, .int y0), (0, .int x0), (1, .int x1), (2, .int x2)]) hx hb dX4_firstDream_27 rfl hl (by decide) rfl (fun ls hl => ?_)
  refine lv_iload_n hx hb dX4_firstDream_28 rfl (lv_at hl 0 rfl) ?_
  refine lv_if_eq (tgt := 43) hx hb dX4_firstDream_29 (by decide) (fun hc => ?_) (fun hc => ?_)
  · have hd := hd.1 hc
    exact bk_X4_firstDream_43 C0 hret k2 hP hS hd (lv_sub hl [1, 2, 3] rfl)
  · have hd := hd.2 hc
    refine lv_iload_n hx hb dX4_firstDream_32 rfl (lv_at hl 1 rfl) ?_
    refine lv_iload_n hx hb dX4_firstDream_33 rfl (lv_at hl 2 rfl) ?_
    refine lv_iload_n hx hb dX4_firstDream_34 rfl (lv_at hl 3 rfl) ?_
    refine cl_Si (n := 3) (rest := []) C0 hP hS (c_X4_wouldDream l C0.2.2.1 _ hd) (lwG_S lm_X4_155 ls_X4_wouldDream lz_RX4 lc_X4_wouldDream) (by decide +kernel) rfl rfl (Nat.le_of_ble_eq_true rfl) ⟨rfl, rfl⟩ ⟨by decide, by decide⟩ dX4_firstDream_35 hl.1 ⟨Nat.zero_le _, Nat.zero_le _⟩ (fun r_1 S_1 H locs hd hP hS => ?_)
    refine lv_if_eq (tgt := 43) hx hb dX4_firstDream_38 (by decide) (fun hc => ?_) (fun hc => ?_)
    · have hd := hd.1 hc
      exact bk_X4_firstDream_43 C0 hret k2 hP hS hd (lv_sub hl [1, 2, 3] rfl)
    · have hd := hd.2 hc
      refine lv_iload_n hx hb dX4_firstDream_41 rfl (lv_at hl 3 rfl) ?_
      exact hret _ _ _ _ _ _ hd hP hS dX4_firstDream_42
def wb_X4_firstDream_22 (Q : Int32 → sT → Prop) (K2 : Int32 → Int32 → Int32 → sT → Prop) (x0 : Int32) (x1 : Int32) (x2 : Int32) (S : sT) : Prop :=
  wb_X4_firstDream_27 Q K2 x0 x1 x2 (1 : Int32) S
set_option maxHeartbeats 4000000 in
set_option maxRecDepth 100000 in
theorem bk_X4_firstDream_22 {p : Program} {l : Launch} {e : Env} {s : State} {m : MethodId} {args : Array Value} {below : List Frame} {meth : Method} {c : Code} {Z : State → Prop} {D : va_G} {cA : Nat → ClassId} {h : Nat → Nat} {Q : Int32 → sT → Prop} (C0 : cx p s m args c cX4_firstDream 4 RX4 D cA true keysC h) (hret : rtI p l e rm_X4_firstDream s m args below meth c cX4_firstDream Z D (wC h cA) (aK keysC h s.heap.size) Q) {K2 : Int32 → Int32 → Int32 → sT → Prop} (k2 : ∀ (x0 : Int32) (x1 : Int32) (x2 : Int32) (S : sT) (H : Heap) (locs : List Loc) (ls : Array Slot), K2 x0 x1 x2 S → va_P D vwCl (wC h cA S) H → va_S (aK keysC h s.heap.size) s.heap H locs → lv_has ls 4 [(0, .int x0), (1, .int x1), (2, .int x2)] → W p l e rm_X4_firstDream s m args below meth c H locs 0 0 Z (F0 m 2 ls [])) {x0 : Int32} {x1 : Int32} {x2 : Int32} {S : sT} {H : Heap} {locs : List Loc} {ls : Array Slot} (hP : va_P D vwCl (wC h cA S) H) (hS : va_S (aK keysC h s.heap.size) s.heap H locs) (hd : wb_X4_firstDream_22 Q K2 x0 x1 x2 S) (hl : lv_has ls 4 [(0, .int x0), (1, .int x1), (2, .int x2)]) : W p l e rm_X4_firstDream s m args below meth c H locs 0 0 Z (F0 m 22 ls []) := by
  obtain ⟨⟨hx, hb, hml, hown, hts⟩, hK, -, -⟩ := id C0
  unfold wb_X4_firstDream_22 at hd
  refine lv_iconst (v := 1) hx hb dX4_firstDream_22 (by decide) ?_
  refine lv_goto (tgt := 27) hx hb dX4_firstDream_23 (by decide) ?_
  exact bk_X4_firstDream_27 C0 hret k2 hP hS hd (lv_sub hl [0, 1, 2] rfl)
def wb_X4_firstDream_2 (Q : Int32 → sT → Prop) (K2 : Int32 → Int32 → Int32 → sT → Prop) (x0 : Int32) (x1 : Int32) (x2 : Int32) (S : sT) : Prop :=
  (((60 : Int32) ≤ x2 → Q (-9 : Int32) S) ∧ (¬ (60 : Int32) ≤ x2 → ((¬ x0 = (4 : Int32) → wb_X4_firstDream_22 Q K2 x0 x1 x2 S) ∧ (x0 = (4 : Int32) → wp_X4_wouldDream (1 : Int32) x1 x2 S (fun r_1 S_1 => ((¬ r_1 = 0 → wb_X4_firstDream_27 Q K2 x0 x1 x2 (0 : Int32) S_1) ∧ (r_1 = 0 → wb_X4_firstDream_22 Q K2 x0 x1 x2 S_1)))))))
set_option maxHeartbeats 4000000 in
set_option maxRecDepth 100000 in
theorem bk_X4_firstDream_2 {p : Program} {l : Launch} {e : Env} {s : State} {m : MethodId} {args : Array Value} {below : List Frame} {meth : Method} {c : Code} {Z : State → Prop} {D : va_G} {cA : Nat → ClassId} {h : Nat → Nat} {Q : Int32 → sT → Prop} (C0 : cx p s m args c cX4_firstDream 4 RX4 D cA true keysC h) (hret : rtI p l e rm_X4_firstDream s m args below meth c cX4_firstDream Z D (wC h cA) (aK keysC h s.heap.size) Q) {K2 : Int32 → Int32 → Int32 → sT → Prop} (k2 : ∀ (x0 : Int32) (x1 : Int32) (x2 : Int32) (S : sT) (H : Heap) (locs : List Loc) (ls : Array Slot), K2 x0 x1 x2 S → va_P D vwCl (wC h cA S) H → va_S (aK keysC h s.heap.size) s.heap H locs → lv_has ls 4 [(0, .int x0), (1, .int x1), (2, .int x2)] → W p l e rm_X4_firstDream s m args below meth c H locs 0 0 Z (F0 m 2 ls [])) {x0 : Int32} {x1 : Int32} {x2 : Int32} {S : sT} {H : Heap} {locs : List Loc} {ls : Array Slot} (hP : va_P D vwCl (wC h cA S) H) (hS : va_S (aK keysC h s.heap.size) s.heap H locs) (hd : wb_X4_firstDream_2 Q K2 x0 x1 x2 S) (hl : lv_has ls 4 [(0, .int x0), (1, .int x1), (2, .int x2)]) : W p l e rm_X4_firstDream s m args below meth c H locs 0 0 Z (F0 m 2 ls []) := by
  obtain ⟨⟨hx, hb, hml, hown, hts⟩, hK, -, -⟩ := id C0
  unfold wb_X4_firstDream_2 at hd
  refine lv_iload_n hx hb dX4_firstDream_2 rfl (lv_at hl 2 rfl) ?_
  refine lv_bipush (v := 60) hx hb dX4_firstDream_3 (by decide) ?_
  refine lv_icmp_ge (tgt := 49) hx hb dX4_firstDream_5 (by decide) (fun hc => ?_) (fun hc => ?_)
  · have hd := hd.1 hc
    refine lv_bipush (v := (-9)) hx hb dX4_firstDream_49 (by decide) ?_
    exact hret _ _ _ _ _ _ hd hP hS dX4_firstDream_51
  · have hd := hd.2 hc
    refine lv_iload_n hx hb dX4_firstDream_8 rfl (lv_at hl 0 rfl) ?_
    refine lv_iconst (v := 4) hx hb dX4_firstDream_9 (by decide) ?_
    refine lv_icmp_ne (tgt := 22) hx hb dX4_firstDream_10 (by decide) (fun hc => ?_) (fun hc => ?_)
    · have hd := hd.1 hc
      exact bk_X4_firstDream_22 C0 hret k2 hP hS hd (lv_sub hl [0, 1, 2] rfl)
    · have hd := hd.2 hc
      refine lv_iconst (v := 1) hx hb dX4_firstDream_13 (by decide) ?_
      refine lv_iload_n hx hb dX4_firstDream_14 rfl (lv_at hl 1 rfl) ?_
      refine lv_iload_n hx hb dX4_firstDream_15 rfl (lv_at hl 2 rfl) ?_
      refine cl_Si (n := 3) (rest := []) C0 hP hS (c_X4_wouldDream l C0.2.2.1 _ hd) (lwG_S lm_X4_155 ls_X4_wouldDream lz_RX4 lc_X4_wouldDream) (by decide +kernel) rfl rfl (Nat.le_of_ble_eq_true rfl) ⟨rfl, rfl⟩ ⟨by decide, by decide⟩ dX4_firstDream_16 hl.1 ⟨Nat.zero_le _, Nat.zero_le _⟩ (fun r_1 S_1 H locs hd hP hS => ?_)
      refine lv_if_ne (tgt := 26) hx hb dX4_firstDream_19 (by decide) (fun hc => ?_) (fun hc => ?_)
      · have hd := hd.1 hc
        refine lv_iconst (v := 0) hx hb dX4_firstDream_26 (by decide) ?_
        exact bk_X4_firstDream_27 C0 hret k2 hP hS hd (lv_sub hl [0, 1, 2] rfl)
      · have hd := hd.2 hc
        exact bk_X4_firstDream_22 C0 hret k2 hP hS hd (lv_sub hl [0, 1, 2] rfl)
def wl_X4_firstDream_2 (Q : Int32 → sT → Prop) : Nat → Int32 → Int32 → Int32 → sT → Prop
  | 0, _, _, _ => fun _ => False
  | n + 1, x0, x1, x2 => fun S => wb_X4_firstDream_2 Q (fun x0 x1 x2 S => wl_X4_firstDream_2 Q n x0 x1 x2 S) x0 x1 x2 S
theorem bl_X4_firstDream_2 {p : Program} {l : Launch} {e : Env} {s : State} {m : MethodId} {args : Array Value} {below : List Frame} {meth : Method} {c : Code} {Z : State → Prop} {D : va_G} {cA : Nat → ClassId} {h : Nat → Nat} {Q : Int32 → sT → Prop} (C0 : cx p s m args c cX4_firstDream 4 RX4 D cA true keysC h) (hret : rtI p l e rm_X4_firstDream s m args below meth c cX4_firstDream Z D (wC h cA) (aK keysC h s.heap.size) Q) : ∀ (n : Nat) (x0 : Int32) (x1 : Int32) (x2 : Int32) (S : sT) (H : Heap) (locs : List Loc) (ls : Array Slot), va_P D vwCl (wC h cA S) H → va_S (aK keysC h s.heap.size) s.heap H locs → wl_X4_firstDream_2 Q n x0 x1 x2 S → lv_has ls 4 [(0, .int x0), (1, .int x1), (2, .int x2)] → W p l e rm_X4_firstDream s m args below meth c H locs 0 0 Z (F0 m 2 ls []) := by
  intro n
  induction n with
  | zero => intro x0 x1 x2 S H locs ls hP hS hd hl; exact (show False from hd).elim
  | succ n ih => intro x0 x1 x2 S H locs ls hP hS hd hl; exact bk_X4_firstDream_2 C0 hret (fun x0 x1 x2 S H locs ls hd hP hS hl => ih x0 x1 x2 S H locs ls hP hS hd hl) hP hS hd hl
def wp_X4_firstDream (x0 : Int32) (x1 : Int32) (S : sT) (Q : Int32 → sT → Prop) : Prop :=
  ∃ n : Nat, wl_X4_firstDream_2 Q n x0 x1 (0 : Int32) S
set_option maxHeartbeats 4000000 in
set_option maxRecDepth 100000 in
theorem bk_X4_firstDream {p : Program} {l : Launch} {e : Env} {s : State} {m : MethodId} {args : Array Value} {below : List Frame} {meth : Method} {c : Code} {Z : State → Prop} {D : va_G} {cA : Nat → ClassId} {h : Nat → Nat} {Q : Int32 → sT → Prop} (C0 : cx p s m args c cX4_firstDream 4 RX4 D cA true keysC h) (hret : rtI p l e rm_X4_firstDream s m args below meth c cX4_firstDream Z D (wC h cA) (aK keysC h s.heap.size) Q) {x0 : Int32} {x1 : Int32} {S : sT} {H : Heap} {locs : List Loc} {ls : Array Slot} (hP : va_P D vwCl (wC h cA S) H) (hS : va_S (aK keysC h s.heap.size) s.heap H locs) (hd : wp_X4_firstDream x0 x1 S Q) (hl : lv_has ls 4 [(0, .int x0), (1, .int x1)]) : W p l e rm_X4_firstDream s m args below meth c H locs 0 0 Z (F0 m 0 ls []) := by
  obtain ⟨⟨hx, hb, hml, hown, hts⟩, hK, -, -⟩ := id C0
  unfold wp_X4_firstDream at hd
  refine lv_iconst (v := 0) hx hb dX4_firstDream_0 (by decide) ?_
  refine lv_istore_n (lv' := [(2, .int (0 : Int32)), (0, .int x0), (1, .int x1)]) hx hb dX4_firstDream_1 rfl hl (by decide) rfl (fun ls hl => ?_)
  obtain ⟨n_1, hd⟩ := hd
  exact bl_X4_firstDream_2 C0 hret _ _ _ _ _ _ _ _ hP hS hd (lv_sub hl [1, 2, 0] rfl)
theorem c_X4_firstDream (l : Launch) {D : va_G} {cA : Nat → ClassId} {h : Nat → Nat} (hk : ky keysC h) {x0 : Int32} {x1 : Int32} {S : sT} (sz : Nat) {Q : Int32 → sT → Prop} (hd : wp_X4_firstDream x0 x1 S Q) : Met l yX4_firstDream (wsU yX4_firstDream cX4_firstDream 4 (some .int)) rm_X4_firstDream (va_Pc [.int x0, .int x1] (gP D cA true keysC h (wC h cA) S sz)) (va_Qi Q (wB D (wC h cA)) (aK keysC h sz)) 0 0 (aK keysC h sz) :=
  mk_i (by decide) hk (Nat.le_of_ble_eq_true rfl) (fun p e s m below meth c Z ls C0 hret hP hS hl => bk_X4_firstDream C0 hret hP hS hd hl)
abbrev rm_X4_greatestDivisor : Room := { frames := 1, cells := 0, slots := 0, locals := 24 }
def wb_X4_greatestDivisor_33 (Q : Int64 → sT → Prop) (x0 : Int64) (S : sT) : Prop :=
  Q (if x0 < (1 : Int64) then (1 : Int64) else x0) S
set_option maxHeartbeats 4000000 in
set_option maxRecDepth 100000 in
theorem bk_X4_greatestDivisor_33 {p : Program} {l : Launch} {e : Env} {s : State} {m : MethodId} {args : Array Value} {below : List Frame} {meth : Method} {c : Code} {Z : State → Prop} {D : va_G} {cA : Nat → ClassId} {h : Nat → Nat} {Q : Int64 → sT → Prop} (C0 : cx p s m args c cX4_greatestDivisor 7 RX4 D cA true keysC h) (hret : rtL p l e rm_X4_greatestDivisor s m args below meth c cX4_greatestDivisor Z D (wC h cA) (aK keysC h s.heap.size) Q) {x0 : Int64} {S : sT} {H : Heap} {locs : List Loc} {ls : Array Slot} (hP : va_P D vwCl (wC h cA S) H) (hS : va_S (aK keysC h s.heap.size) s.heap H locs) (hd : wb_X4_greatestDivisor_33 Q x0 S) (hl : lv_has ls 7 [(0, .long x0)]) : W p l e rm_X4_greatestDivisor s m args below meth c H locs 0 0 Z (F0 m 33 ls []) := by
  obtain ⟨⟨hx, hb, hml, hown, hts⟩, hK, -, -⟩ := id C0
  unfold wb_X4_greatestDivisor_33 at hd
  refine lv_lconst (v := 1) hx hb dX4_greatestDivisor_33 (by decide) ?_
  refine lv_lload_n hx hb dX4_greatestDivisor_34 rfl (lv_at hl 0 rfl) ?_
  refine va_mmax_long hx hb (by rw [hml]; exact hl.1.symm) hown (hts _ lm_X4_320) (hts _ ls_mmaxl) (hts _ lz_RJ9) (hts _ lc_mmaxl) (by decide) (Nat.le_of_ble_eq_true rfl) (Nat.zero_le _) (Nat.zero_le _) dX4_greatestDivisor_35 ?_
  exact hret _ _ _ _ _ _ hd hP hS dX4_greatestDivisor_38
def wb_X4_greatestDivisor_3 (Q : Int64 → sT → Prop) (K3 : Int64 → Int64 → Int32 → sT → Prop) (x0 : Int64) (x2 : Int64) (x4 : Int32) (S : sT) : Prop :=
  (((200 : Int32) ≤ x4 → wb_X4_greatestDivisor_33 Q x0 S) ∧ (¬ (200 : Int32) ≤ x4 → (((lg_cmp x2 (0 : Int64)) = 0 → wb_X4_greatestDivisor_33 Q x0 S) ∧ (¬ (lg_cmp x2 (0 : Int64)) = 0 → (¬ x2 = 0) ∧ K3 x2 (x0 - x0 / x2 * x2) (x4 + (1 : Int32)) S))))
set_option maxHeartbeats 4000000 in
set_option maxRecDepth 100000 in
theorem bk_X4_greatestDivisor_3 {p : Program} {l : Launch} {e : Env} {s : State} {m : MethodId} {args : Array Value} {below : List Frame} {meth : Method} {c : Code} {Z : State → Prop} {D : va_G} {cA : Nat → ClassId} {h : Nat → Nat} {Q : Int64 → sT → Prop} (C0 : cx p s m args c cX4_greatestDivisor 7 RX4 D cA true keysC h) (hret : rtL p l e rm_X4_greatestDivisor s m args below meth c cX4_greatestDivisor Z D (wC h cA) (aK keysC h s.heap.size) Q) {K3 : Int64 → Int64 → Int32 → sT → Prop} (k3 : ∀ (x0 : Int64) (x2 : Int64) (x4 : Int32) (S : sT) (H : Heap) (locs : List Loc) (ls : Array Slot), K3 x0 x2 x4 S → va_P D vwCl (wC h cA S) H → va_S (aK keysC h s.heap.size) s.heap H locs → lv_has ls 7 [(0, .long x0), (2, .long x2), (4, .int x4)] → W p l e rm_X4_greatestDivisor s m args below meth c H locs 0 0 Z (F0 m 3 ls [])) {x0 : Int64} {x2 : Int64} {x4 : Int32} {S : sT} {H : Heap} {locs : List Loc} {ls : Array Slot} (hP : va_P D vwCl (wC h cA S) H) (hS : va_S (aK keysC h s.heap.size) s.heap H locs) (hd : wb_X4_greatestDivisor_3 Q K3 x0 x2 x4 S) (hl : lv_has ls 7 [(0, .long x0), (2, .long x2), (4, .int x4)]) : W p l e rm_X4_greatestDivisor s m args below meth c H locs 0 0 Z (F0 m 3 ls []) := by
  obtain ⟨⟨hx, hb, hml, hown, hts⟩, hK, -, -⟩ := id C0
  unfold wb_X4_greatestDivisor_3 at hd
  refine lv_iload hx hb dX4_greatestDivisor_3 (lv_at hl 2 rfl) ?_
  refine lv_sipush (v := 200) hx hb dX4_greatestDivisor_5 (by decide) ?_
  refine lv_icmp_ge (tgt := 33) hx hb dX4_greatestDivisor_8 (by decide) (fun hc => ?_) (fun hc => ?_)
  · have hd := hd.1 hc
    exact bk_X4_greatestDivisor_33 C0 hret hP hS hd (lv_sub hl [0] rfl)
  · have hd := hd.2 hc
    refine lv_lload_n hx hb dX4_greatestDivisor_11 rfl (lv_at hl 1 rfl) ?_
    refine lv_lconst (v := 0) hx hb dX4_greatestDivisor_12 (by decide) ?_
    refine W.lcmp hx hb dX4_greatestDivisor_13 ?_
    refine lv_if_eq (tgt := 33) hx hb dX4_greatestDivisor_14 (by decide) (fun hc => ?_) (fun hc => ?_)
    · have hd := hd.1 hc
      exact bk_X4_greatestDivisor_33 C0 hret hP hS hd (lv_sub hl [0] rfl)
    · have hd := hd.2 hc
      refine lv_lload_n hx hb dX4_greatestDivisor_17 rfl (lv_at hl 0 rfl) ?_
      refine lv_lload_n hx hb dX4_greatestDivisor_18 rfl (lv_at hl 1 rfl) ?_
      obtain ⟨h_1, hd⟩ := hd
      refine lv_lrem hx hb dX4_greatestDivisor_19 h_1 ?_
      refine lv_lstore (lv' := [(5, .long (x0 - x0 / x2 * x2)), (0, .long x0), (2, .long x2), (4, .int x4)]) hx hb dX4_greatestDivisor_20 hl (by decide) rfl (fun ls hl => ?_)
      refine lv_lload_n hx hb dX4_greatestDivisor_22 rfl (lv_at hl 2 rfl) ?_
      refine lv_lstore_n (lv' := [(0, .long x2), (5, .long (x0 - x0 / x2 * x2)), (2, .long x2), (4, .int x4)]) hx hb dX4_greatestDivisor_23 rfl hl (by decide) rfl (fun ls hl => ?_)
      refine lv_lload hx hb dX4_greatestDivisor_24 (lv_at hl 1 rfl) ?_
      refine lv_lstore_n (lv' := [(2, .long (x0 - x0 / x2 * x2)), (0, .long x2), (5, .long (x0 - x0 / x2 * x2)), (4, .int x4)]) hx hb dX4_greatestDivisor_26 rfl hl (by decide) rfl (fun ls hl => ?_)
      refine lv_iinc (v := x4 + (1 : Int32)) (lv' := [(4, .int (x4 + (1 : Int32))), (2, .long (x0 - x0 / x2 * x2)), (0, .long x2), (5, .long (x0 - x0 / x2 * x2))]) hx hb dX4_greatestDivisor_27 hl (k := 3) rfl rfl (by decide) rfl (fun ls hl => ?_)
      refine lv_goto (tgt := 3) hx hb dX4_greatestDivisor_30 (by decide) ?_
      exact k3 _ _ _ _ _ _ _ hd hP hS (lv_sub hl [2, 1, 0] rfl)
def wl_X4_greatestDivisor_3 (Q : Int64 → sT → Prop) : Nat → Int64 → Int64 → Int32 → sT → Prop
  | 0, _, _, _ => fun _ => False
  | n + 1, x0, x2, x4 => fun S => wb_X4_greatestDivisor_3 Q (fun x0 x2 x4 S => wl_X4_greatestDivisor_3 Q n x0 x2 x4 S) x0 x2 x4 S
theorem bl_X4_greatestDivisor_3 {p : Program} {l : Launch} {e : Env} {s : State} {m : MethodId} {args : Array Value} {below : List Frame} {meth : Method} {c : Code} {Z : State → Prop} {D : va_G} {cA : Nat → ClassId} {h : Nat → Nat} {Q : Int64 → sT → Prop} (C0 : cx p s m args c cX4_greatestDivisor 7 RX4 D cA true keysC h) (hret : rtL p l e rm_X4_greatestDivisor s m args below meth c cX4_greatestDivisor Z D (wC h cA) (aK keysC h s.heap.size) Q) : ∀ (n : Nat) (x0 : Int64) (x2 : Int64) (x4 : Int32) (S : sT) (H : Heap) (locs : List Loc) (ls : Array Slot), va_P D vwCl (wC h cA S) H → va_S (aK keysC h s.heap.size) s.heap H locs → wl_X4_greatestDivisor_3 Q n x0 x2 x4 S → lv_has ls 7 [(0, .long x0), (2, .long x2), (4, .int x4)] → W p l e rm_X4_greatestDivisor s m args below meth c H locs 0 0 Z (F0 m 3 ls []) := by
  intro n
  induction n with
  | zero => intro x0 x2 x4 S H locs ls hP hS hd hl; exact (show False from hd).elim
  | succ n ih => intro x0 x2 x4 S H locs ls hP hS hd hl; exact bk_X4_greatestDivisor_3 C0 hret (fun x0 x2 x4 S H locs ls hd hP hS hl => ih x0 x2 x4 S H locs ls hP hS hd hl) hP hS hd hl
def wp_X4_greatestDivisor (x0 : Int64) (x2 : Int64) (S : sT) (Q : Int64 → sT → Prop) : Prop :=
  ∃ n : Nat, wl_X4_greatestDivisor_3 Q n x0 x2 (0 : Int32) S
set_option maxHeartbeats 4000000 in
set_option maxRecDepth 100000 in
theorem bk_X4_greatestDivisor {p : Program} {l : Launch} {e : Env} {s : State} {m : MethodId} {args : Array Value} {below : List Frame} {meth : Method} {c : Code} {Z : State → Prop} {D : va_G} {cA : Nat → ClassId} {h : Nat → Nat} {Q : Int64 → sT → Prop} (C0 : cx p s m args c cX4_greatestDivisor 7 RX4 D cA true keysC h) (hret : rtL p l e rm_X4_greatestDivisor s m args below meth c cX4_greatestDivisor Z D (wC h cA) (aK keysC h s.heap.size) Q) {x0 : Int64} {x2 : Int64} {S : sT} {H : Heap} {locs : List Loc} {ls : Array Slot} (hP : va_P D vwCl (wC h cA S) H) (hS : va_S (aK keysC h s.heap.size) s.heap H locs) (hd : wp_X4_greatestDivisor x0 x2 S Q) (hl : lv_has ls 7 [(0, .long x0), (2, .long x2)]) : W p l e rm_X4_greatestDivisor s m args below meth c H locs 0 0 Z (F0 m 0 ls []) := by
  obtain ⟨⟨hx, hb, hml, hown, hts⟩, hK, -, -⟩ := id C0
  unfold wp_X4_greatestDivisor at hd
  refine lv_iconst (v := 0) hx hb dX4_greatestDivisor_0 (by decide) ?_
  refine lv_istore (lv' := [(4, .int (0 : Int32)), (0, .long x0), (2, .long x2)]) hx hb dX4_greatestDivisor_1 hl (by decide) rfl (fun ls hl => ?_)
  obtain ⟨n_1, hd⟩ := hd
  exact bl_X4_greatestDivisor_3 C0 hret _ _ _ _ _ _ _ _ hP hS hd (lv_sub hl [1, 2, 0] rfl)
theorem c_X4_greatestDivisor (l : Launch) {D : va_G} {cA : Nat → ClassId} {h : Nat → Nat} (hk : ky keysC h) {x0 : Int64} {x2 : Int64} {S : sT} (sz : Nat) {Q : Int64 → sT → Prop} (hd : wp_X4_greatestDivisor x0 x2 S Q) : Met l yX4_greatestDivisor (wsU yX4_greatestDivisor cX4_greatestDivisor 7 (some .long)) rm_X4_greatestDivisor (va_Pc [.long x0, .long x2] (gP D cA true keysC h (wC h cA) S sz)) (va_Ql Q (wB D (wC h cA)) (aK keysC h sz)) 0 0 (aK keysC h sz) :=
  mk_l (by decide) hk (Nat.le_of_ble_eq_true rfl) (fun p e s m below meth c Z ls C0 hret hP hS hl => bk_X4_greatestDivisor C0 hret hP hS hd hl)
abbrev rm_X4_greatestPart : Room := { frames := 1, cells := 0, slots := 0, locals := 24 }
def wb_X4_greatestPart_50 (Q : Int32 → sT → Prop) (K4 : Int32 → Int32 → Int32 → sT → Prop) (K16 : Int32 → Int32 → Int32 → Int32 → Int32 → sT → Prop) (x1 : Int32) (x2 : Int32) (x3 : Int32) (x5 : Int32) (y0 : Int32) (y1 : Int32) (S : sT) : Prop :=
  wp_X4_bit y1 S (fun r_1 S_1 => K16 x1 x2 x3 (y0 + r_1) (x5 + (1 : Int32)) S_1)
set_option maxHeartbeats 4000000 in
set_option maxRecDepth 100000 in
theorem bk_X4_greatestPart_50 {p : Program} {l : Launch} {e : Env} {s : State} {m : MethodId} {args : Array Value} {below : List Frame} {meth : Method} {c : Code} {Z : State → Prop} {D : va_G} {cA : Nat → ClassId} {h : Nat → Nat} {Q : Int32 → sT → Prop} (C0 : cx p s m args c cX4_greatestPart 6 RX4 D cA true keysC h) (hret : rtI p l e rm_X4_greatestPart s m args below meth c cX4_greatestPart Z D (wC h cA) (aK keysC h s.heap.size) Q) {K4 : Int32 → Int32 → Int32 → sT → Prop} {K16 : Int32 → Int32 → Int32 → Int32 → Int32 → sT → Prop} (k4 : ∀ (x1 : Int32) (x2 : Int32) (x3 : Int32) (S : sT) (H : Heap) (locs : List Loc) (ls : Array Slot), K4 x1 x2 x3 S → va_P D vwCl (wC h cA S) H → va_S (aK keysC h s.heap.size) s.heap H locs → lv_has ls 6 [(0, .ref (h 1000)), (1, .int x1), (2, .int x2), (3, .int x3)] → W p l e rm_X4_greatestPart s m args below meth c H locs 0 0 Z (F0 m 4 ls [])) (k16 : ∀ (x1 : Int32) (x2 : Int32) (x3 : Int32) (x4 : Int32) (x5 : Int32) (S : sT) (H : Heap) (locs : List Loc) (ls : Array Slot), K16 x1 x2 x3 x4 x5 S → va_P D vwCl (wC h cA S) H → va_S (aK keysC h s.heap.size) s.heap H locs → lv_has ls 6 [(0, .ref (h 1000)), (1, .int x1), (2, .int x2), (3, .int x3), (4, .int x4), (5, .int x5)] → W p l e rm_X4_greatestPart s m args below meth c H locs 0 0 Z (F0 m 16 ls [])) {x1 : Int32} {x2 : Int32} {x3 : Int32} {x5 : Int32} {y0 : Int32} {y1 : Int32} {S : sT} {H : Heap} {locs : List Loc} {ls : Array Slot} (hP : va_P D vwCl (wC h cA S) H) (hS : va_S (aK keysC h s.heap.size) s.heap H locs) (hd : wb_X4_greatestPart_50 Q K4 K16 x1 x2 x3 x5 y0 y1 S) (hl : lv_has ls 6 [(0, .ref (h 1000)), (1, .int x1), (2, .int x2), (3, .int x3), (5, .int x5)]) : W p l e rm_X4_greatestPart s m args below meth c H locs 0 0 Z (F0 m 50 ls [.int y1, .int y0]) := by
  obtain ⟨⟨hx, hb, hml, hown, hts⟩, hK, -, -⟩ := id C0
  unfold wb_X4_greatestPart_50 at hd
  refine cl_Si (n := 1) (rest := [.int y0]) C0 hP hS (c_X4_bit l C0.2.2.1 _ hd) (lwG_S lm_X4_158 ls_X4_bit lz_RX4 lc_X4_bit) (by decide +kernel) rfl rfl (Nat.le_of_ble_eq_true rfl) ⟨rfl, rfl⟩ ⟨by decide, by decide⟩ dX4_greatestPart_50 hl.1 ⟨Nat.zero_le _, Nat.zero_le _⟩ (fun r_1 S_1 H locs hd hP hS => ?_)
  refine lv_iadd hx hb dX4_greatestPart_53 ?_
  refine lv_istore (lv' := [(4, .int (y0 + r_1)), (0, .ref (h 1000)), (1, .int x1), (2, .int x2), (3, .int x3), (5, .int x5)]) hx hb dX4_greatestPart_54 hl (by decide) rfl (fun ls hl => ?_)
  refine lv_iinc (v := x5 + (1 : Int32)) (lv' := [(5, .int (x5 + (1 : Int32))), (4, .int (y0 + r_1)), (0, .ref (h 1000)), (1, .int x1), (2, .int x2), (3, .int x3)]) hx hb dX4_greatestPart_56 hl (k := 5) rfl rfl (by decide) rfl (fun ls hl => ?_)
  refine lv_goto (tgt := 16) hx hb dX4_greatestPart_59 (by decide) ?_
  exact k16 _ _ _ _ _ _ _ _ _ hd hP hS (lv_sub hl [2, 3, 4, 5, 1, 0] rfl)
def wb_X4_greatestPart_16 (Q : Int32 → sT → Prop) (K4 : Int32 → Int32 → Int32 → sT → Prop) (K16 : Int32 → Int32 → Int32 → Int32 → Int32 → sT → Prop) (x1 : Int32) (x2 : Int32) (x3 : Int32) (x4 : Int32) (x5 : Int32) (S : sT) : Prop :=
  (((6 : Int32) ≤ x5 → K4 x1 (if x2 < x4 then x4 else x2) (x3 + (1 : Int32)) S) ∧ (¬ (6 : Int32) ≤ x5 → (vp_in x5 6) ∧ (vp_in x1 21) ∧ (vp_in x3 6) ∧ (vp_in x1 21) ∧ ((¬ (vA S (320 + x5.toNatClampNeg) x1.toNatClampNeg) = (vA S (320 + x3.toNatClampNeg) x1.toNatClampNeg) → wb_X4_greatestPart_50 Q K4 K16 x1 x2 x3 x5 x4 (0 : Int32) S) ∧ ((vA S (320 + x5.toNatClampNeg) x1.toNatClampNeg) = (vA S (320 + x3.toNatClampNeg) x1.toNatClampNeg) → wb_X4_greatestPart_50 Q K4 K16 x1 x2 x3 x5 x4 (1 : Int32) S))))
set_option maxHeartbeats 4000000 in
set_option maxRecDepth 100000 in
theorem bk_X4_greatestPart_16 {p : Program} {l : Launch} {e : Env} {s : State} {m : MethodId} {args : Array Value} {below : List Frame} {meth : Method} {c : Code} {Z : State → Prop} {D : va_G} {cA : Nat → ClassId} {h : Nat → Nat} {Q : Int32 → sT → Prop} (C0 : cx p s m args c cX4_greatestPart 6 RX4 D cA true keysC h) (hret : rtI p l e rm_X4_greatestPart s m args below meth c cX4_greatestPart Z D (wC h cA) (aK keysC h s.heap.size) Q) {K4 : Int32 → Int32 → Int32 → sT → Prop} {K16 : Int32 → Int32 → Int32 → Int32 → Int32 → sT → Prop} (k4 : ∀ (x1 : Int32) (x2 : Int32) (x3 : Int32) (S : sT) (H : Heap) (locs : List Loc) (ls : Array Slot), K4 x1 x2 x3 S → va_P D vwCl (wC h cA S) H → va_S (aK keysC h s.heap.size) s.heap H locs → lv_has ls 6 [(0, .ref (h 1000)), (1, .int x1), (2, .int x2), (3, .int x3)] → W p l e rm_X4_greatestPart s m args below meth c H locs 0 0 Z (F0 m 4 ls [])) (k16 : ∀ (x1 : Int32) (x2 : Int32) (x3 : Int32) (x4 : Int32) (x5 : Int32) (S : sT) (H : Heap) (locs : List Loc) (ls : Array Slot), K16 x1 x2 x3 x4 x5 S → va_P D vwCl (wC h cA S) H → va_S (aK keysC h s.heap.size) s.heap H locs → lv_has ls 6 [(0, .ref (h 1000)), (1, .int x1), (2, .int x2), (3, .int x3), (4, .int x4), (5, .int x5)] → W p l e rm_X4_greatestPart s m args below meth c H locs 0 0 Z (F0 m 16 ls [])) {x1 : Int32} {x2 : Int32} {x3 : Int32} {x4 : Int32} {x5 : Int32} {S : sT} {H : Heap} {locs : List Loc} {ls : Array Slot} (hP : va_P D vwCl (wC h cA S) H) (hS : va_S (aK keysC h s.heap.size) s.heap H locs) (hd : wb_X4_greatestPart_16 Q K4 K16 x1 x2 x3 x4 x5 S) (hl : lv_has ls 6 [(0, .ref (h 1000)), (1, .int x1), (2, .int x2), (3, .int x3), (4, .int x4), (5, .int x5)]) : W p l e rm_X4_greatestPart s m args below meth c H locs 0 0 Z (F0 m 16 ls []) := by
  obtain ⟨⟨hx, hb, hml, hown, hts⟩, hK, -, -⟩ := id C0
  unfold wb_X4_greatestPart_16 at hd
  refine lv_iload hx hb dX4_greatestPart_16 (lv_at hl 5 rfl) ?_
  refine lv_bipush (v := 6) hx hb dX4_greatestPart_18 (by decide) ?_
  refine lv_icmp_ge (tgt := 62) hx hb dX4_greatestPart_20 (by decide) (fun hc => ?_) (fun hc => ?_)
  · have hd := hd.1 hc
    refine lv_iload_n hx hb dX4_greatestPart_62 rfl (lv_at hl 2 rfl) ?_
    refine lv_iload hx hb dX4_greatestPart_63 (lv_at hl 4 rfl) ?_
    refine va_mmax hx hb (by rw [hml]; exact hl.1.symm) hown (hts _ lm_X4_217) (hts _ ls_mmax) (hts _ lz_RJ9) (hts _ lc_mmax) (by decide) (Nat.le_of_ble_eq_true rfl) (Nat.zero_le _) (Nat.zero_le _) dX4_greatestPart_65 ?_
    refine lv_istore_n (lv' := [(2, .int (if x2 < x4 then x4 else x2)), (0, .ref (h 1000)), (1, .int x1), (3, .int x3), (4, .int x4), (5, .int x5)]) hx hb dX4_greatestPart_68 rfl hl (by decide) rfl (fun ls hl => ?_)
    refine lv_iinc (v := x3 + (1 : Int32)) (lv' := [(3, .int (x3 + (1 : Int32))), (2, .int (if x2 < x4 then x4 else x2)), (0, .ref (h 1000)), (1, .int x1), (4, .int x4), (5, .int x5)]) hx hb dX4_greatestPart_69 hl (k := 3) rfl rfl (by decide) rfl (fun ls hl => ?_)
    refine lv_goto (tgt := 4) hx hb dX4_greatestPart_72 (by decide) ?_
    exact k4 _ _ _ _ _ _ _ hd hP hS (lv_sub hl [2, 3, 1, 0] rfl)
  · have hd := hd.2 hc
    refine lv_iload hx hb dX4_greatestPart_23 (lv_at hl 4 rfl) ?_
    refine lv_aload_n hx hb dX4_greatestPart_25 rfl (lv_at hl 0 rfl) ?_
    refine gf_X4_60 C0 hP dX4_greatestPart_26 ?_
    refine lv_iload hx hb dX4_greatestPart_29 (lv_at hl 5 rfl) ?_
    obtain ⟨h_1, hd⟩ := hd
    refine ao_1013 C0 hP h_1 dX4_greatestPart_31 ?_
    refine lv_iload_n hx hb dX4_greatestPart_32 rfl (lv_at hl 1 rfl) ?_
    obtain ⟨h_2, hd⟩ := hd
    refine ldC (kTrk _ (vp_lt h_1)) C0 hP (by rw [lTrk _ (vp_lt h_1)]; exact h_2) dX4_greatestPart_33 ?_
    refine lv_aload_n hx hb dX4_greatestPart_34 rfl (lv_at hl 0 rfl) ?_
    refine gf_X4_60 C0 hP dX4_greatestPart_35 ?_
    refine lv_iload_n hx hb dX4_greatestPart_38 rfl (lv_at hl 3 rfl) ?_
    obtain ⟨h_3, hd⟩ := hd
    refine ao_1013 C0 hP h_3 dX4_greatestPart_39 ?_
    refine lv_iload_n hx hb dX4_greatestPart_40 rfl (lv_at hl 1 rfl) ?_
    obtain ⟨h_4, hd⟩ := hd
    refine ldC (kTrk _ (vp_lt h_3)) C0 hP (by rw [lTrk _ (vp_lt h_3)]; exact h_4) dX4_greatestPart_41 ?_
    refine lv_icmp_ne (tgt := 49) hx hb dX4_greatestPart_42 (by decide) (fun hc => ?_) (fun hc => ?_)
    · have hd := hd.1 hc
      refine lv_iconst (v := 0) hx hb dX4_greatestPart_49 (by decide) ?_
      exact bk_X4_greatestPart_50 C0 hret k4 k16 hP hS hd (lv_sub hl [0, 1, 2, 3, 5] rfl)
    · have hd := hd.2 hc
      refine lv_iconst (v := 1) hx hb dX4_greatestPart_45 (by decide) ?_
      refine lv_goto (tgt := 50) hx hb dX4_greatestPart_46 (by decide) ?_
      exact bk_X4_greatestPart_50 C0 hret k4 k16 hP hS hd (lv_sub hl [0, 1, 2, 3, 5] rfl)
def wl_X4_greatestPart_16 (Q : Int32 → sT → Prop) (K4 : Int32 → Int32 → Int32 → sT → Prop) : Nat → Int32 → Int32 → Int32 → Int32 → Int32 → sT → Prop
  | 0, _, _, _, _, _ => fun _ => False
  | n + 1, x1, x2, x3, x4, x5 => fun S => wb_X4_greatestPart_16 Q K4 (fun x1 x2 x3 x4 x5 S => wl_X4_greatestPart_16 Q K4 n x1 x2 x3 x4 x5 S) x1 x2 x3 x4 x5 S
theorem bl_X4_greatestPart_16 {p : Program} {l : Launch} {e : Env} {s : State} {m : MethodId} {args : Array Value} {below : List Frame} {meth : Method} {c : Code} {Z : State → Prop} {D : va_G} {cA : Nat → ClassId} {h : Nat → Nat} {Q : Int32 → sT → Prop} (C0 : cx p s m args c cX4_greatestPart 6 RX4 D cA true keysC h) (hret : rtI p l e rm_X4_greatestPart s m args below meth c cX4_greatestPart Z D (wC h cA) (aK keysC h s.heap.size) Q) {K4 : Int32 → Int32 → Int32 → sT → Prop} (k4 : ∀ (x1 : Int32) (x2 : Int32) (x3 : Int32) (S : sT) (H : Heap) (locs : List Loc) (ls : Array Slot), K4 x1 x2 x3 S → va_P D vwCl (wC h cA S) H → va_S (aK keysC h s.heap.size) s.heap H locs → lv_has ls 6 [(0, .ref (h 1000)), (1, .int x1), (2, .int x2), (3, .int x3)] → W p l e rm_X4_greatestPart s m args below meth c H locs 0 0 Z (F0 m 4 ls [])) : ∀ (n : Nat) (x1 : Int32) (x2 : Int32) (x3 : Int32) (x4 : Int32) (x5 : Int32) (S : sT) (H : Heap) (locs : List Loc) (ls : Array Slot), va_P D vwCl (wC h cA S) H → va_S (aK keysC h s.heap.size) s.heap H locs → wl_X4_greatestPart_16 Q K4 n x1 x2 x3 x4 x5 S → lv_has ls 6 [(0, .ref (h 1000)), (1, .int x1), (2, .int x2), (3, .int x3), (4, .int x4), (5, .int x5)] → W p l e rm_X4_greatestPart s m args below meth c H locs 0 0 Z (F0 m 16 ls []) := by
  intro n
  induction n with
  | zero => intro x1 x2 x3 x4 x5 S H locs ls hP hS hd hl; exact (show False from hd).elim
  | succ n ih => intro x1 x2 x3 x4 x5 S H locs ls hP hS hd hl; exact bk_X4_greatestPart_16 C0 hret k4 (fun x1 x2 x3 x4 x5 S H locs ls hd hP hS hl => ih x1 x2 x3 x4 x5 S H locs ls hP hS hd hl) hP hS hd hl
def wb_X4_greatestPart_4 (Q : Int32 → sT → Prop) (K4 : Int32 → Int32 → Int32 → sT → Prop) (x1 : Int32) (x2 : Int32) (x3 : Int32) (S : sT) : Prop :=
  (((6 : Int32) ≤ x3 → Q x2 S) ∧ (¬ (6 : Int32) ≤ x3 → ∃ n : Nat, wl_X4_greatestPart_16 Q K4 n x1 x2 x3 (0 : Int32) (0 : Int32) S))
set_option maxHeartbeats 4000000 in
set_option maxRecDepth 100000 in
theorem bk_X4_greatestPart_4 {p : Program} {l : Launch} {e : Env} {s : State} {m : MethodId} {args : Array Value} {below : List Frame} {meth : Method} {c : Code} {Z : State → Prop} {D : va_G} {cA : Nat → ClassId} {h : Nat → Nat} {Q : Int32 → sT → Prop} (C0 : cx p s m args c cX4_greatestPart 6 RX4 D cA true keysC h) (hret : rtI p l e rm_X4_greatestPart s m args below meth c cX4_greatestPart Z D (wC h cA) (aK keysC h s.heap.size) Q) {K4 : Int32 → Int32 → Int32 → sT → Prop} (k4 : ∀ (x1 : Int32) (x2 : Int32) (x3 : Int32) (S : sT) (H : Heap) (locs : List Loc) (ls : Array Slot), K4 x1 x2 x3 S → va_P D vwCl (wC h cA S) H → va_S (aK keysC h s.heap.size) s.heap H locs → lv_has ls 6 [(0, .ref (h 1000)), (1, .int x1), (2, .int x2), (3, .int x3)] → W p l e rm_X4_greatestPart s m args below meth c H locs 0 0 Z (F0 m 4 ls [])) {x1 : Int32} {x2 : Int32} {x3 : Int32} {S : sT} {H : Heap} {locs : List Loc} {ls : Array Slot} (hP : va_P D vwCl (wC h cA S) H) (hS : va_S (aK keysC h s.heap.size) s.heap H locs) (hd : wb_X4_greatestPart_4 Q K4 x1 x2 x3 S) (hl : lv_has ls 6 [(0, .ref (h 1000)), (1, .int x1), (2, .int x2), (3, .int x3)]) : W p l e rm_X4_greatestPart s m args below meth c H locs 0 0 Z (F0 m 4 ls []) := by
  obtain ⟨⟨hx, hb, hml, hown, hts⟩, hK, -, -⟩ := id C0
  unfold wb_X4_greatestPart_4 at hd
  refine lv_iload_n hx hb dX4_greatestPart_4 rfl (lv_at hl 3 rfl) ?_
  refine lv_bipush (v := 6) hx hb dX4_greatestPart_5 (by decide) ?_
  refine lv_icmp_ge (tgt := 75) hx hb dX4_greatestPart_7 (by decide) (fun hc => ?_) (fun hc => ?_)
  · have hd := hd.1 hc
    refine lv_iload_n hx hb dX4_greatestPart_75 rfl (lv_at hl 2 rfl) ?_
    exact hret _ _ _ _ _ _ hd hP hS dX4_greatestPart_76
  · have hd := hd.2 hc
    refine lv_iconst (v := 0) hx hb dX4_greatestPart_10 (by decide) ?_
    refine lv_istore (lv' := [(4, .int (0 : Int32)), (0, .ref (h 1000)), (1, .int x1), (2, .int x2), (3, .int x3)]) hx hb dX4_greatestPart_11 hl (by decide) rfl (fun ls hl => ?_)
    refine lv_iconst (v := 0) hx hb dX4_greatestPart_13 (by decide) ?_
    refine lv_istore (lv' := [(5, .int (0 : Int32)), (4, .int (0 : Int32)), (0, .ref (h 1000)), (1, .int x1), (2, .int x2), (3, .int x3)]) hx hb dX4_greatestPart_14 hl (by decide) rfl (fun ls hl => ?_)
    obtain ⟨n_1, hd⟩ := hd
    exact bl_X4_greatestPart_16 C0 hret k4 _ _ _ _ _ _ _ _ _ _ hP hS hd (lv_sub hl [2, 3, 4, 5, 1, 0] rfl)
def wl_X4_greatestPart_4 (Q : Int32 → sT → Prop) : Nat → Int32 → Int32 → Int32 → sT → Prop
  | 0, _, _, _ => fun _ => False
  | n + 1, x1, x2, x3 => fun S => wb_X4_greatestPart_4 Q (fun x1 x2 x3 S => wl_X4_greatestPart_4 Q n x1 x2 x3 S) x1 x2 x3 S
theorem bl_X4_greatestPart_4 {p : Program} {l : Launch} {e : Env} {s : State} {m : MethodId} {args : Array Value} {below : List Frame} {meth : Method} {c : Code} {Z : State → Prop} {D : va_G} {cA : Nat → ClassId} {h : Nat → Nat} {Q : Int32 → sT → Prop} (C0 : cx p s m args c cX4_greatestPart 6 RX4 D cA true keysC h) (hret : rtI p l e rm_X4_greatestPart s m args below meth c cX4_greatestPart Z D (wC h cA) (aK keysC h s.heap.size) Q) : ∀ (n : Nat) (x1 : Int32) (x2 : Int32) (x3 : Int32) (S : sT) (H : Heap) (locs : List Loc) (ls : Array Slot), va_P D vwCl (wC h cA S) H → va_S (aK keysC h s.heap.size) s.heap H locs → wl_X4_greatestPart_4 Q n x1 x2 x3 S → lv_has ls 6 [(0, .ref (h 1000)), (1, .int x1), (2, .int x2), (3, .int x3)] → W p l e rm_X4_greatestPart s m args below meth c H locs 0 0 Z (F0 m 4 ls []) := by
  intro n
  induction n with
  | zero => intro x1 x2 x3 S H locs ls hP hS hd hl; exact (show False from hd).elim
  | succ n ih => intro x1 x2 x3 S H locs ls hP hS hd hl; exact bk_X4_greatestPart_4 C0 hret (fun x1 x2 x3 S H locs ls hd hP hS hl => ih x1 x2 x3 S H locs ls hP hS hd hl) hP hS hd hl
def wp_X4_greatestPart (x1 : Int32) (S : sT) (Q : Int32 → sT → Prop) : Prop :=
  ∃ n : Nat, wl_X4_greatestPart_4 Q n x1 (0 : Int32) (0 : Int32) S
set_option maxHeartbeats 4000000 in
set_option maxRecDepth 100000 in
theorem bk_X4_greatestPart {p : Program} {l : Launch} {e : Env} {s : State} {m : MethodId} {args : Array Value} {below : List Frame} {meth : Method} {c : Code} {Z : State → Prop} {D : va_G} {cA : Nat → ClassId} {h : Nat → Nat} {Q : Int32 → sT → Prop} (C0 : cx p s m args c cX4_greatestPart 6 RX4 D cA true keysC h) (hret : rtI p l e rm_X4_greatestPart s m args below meth c cX4_greatestPart Z D (wC h cA) (aK keysC h s.heap.size) Q) {x1 : Int32} {S : sT} {H : Heap} {locs : List Loc} {ls : Array Slot} (hP : va_P D vwCl (wC h cA S) H) (hS : va_S (aK keysC h s.heap.size) s.heap H locs) (hd : wp_X4_greatestPart x1 S Q) (hl : lv_has ls 6 [(0, .ref (h 1000)), (1, .int x1)]) : W p l e rm_X4_greatestPart s m args below meth c H locs 0 0 Z (F0 m 0 ls []) := by
  obtain ⟨⟨hx, hb, hml, hown, hts⟩, hK, -, -⟩ := id C0
  unfold wp_X4_greatestPart at hd
  refine lv_iconst (v := 0) hx hb dX4_greatestPart_0 (by decide) ?_
  refine lv_istore_n (lv' := [(2, .int (0 : Int32)), (0, .ref (h 1000)), (1, .int x1)]) hx hb dX4_greatestPart_1 rfl hl (by decide) rfl (fun ls hl => ?_)
  refine lv_iconst (v := 0) hx hb dX4_greatestPart_2 (by decide) ?_
  refine lv_istore_n (lv' := [(3, .int (0 : Int32)), (2, .int (0 : Int32)), (0, .ref (h 1000)), (1, .int x1)]) hx hb dX4_greatestPart_3 rfl hl (by decide) rfl (fun ls hl => ?_)
  obtain ⟨n_1, hd⟩ := hd
  exact bl_X4_greatestPart_4 C0 hret _ _ _ _ _ _ _ _ hP hS hd (lv_sub hl [2, 3, 1, 0] rfl)
theorem c_X4_greatestPart (l : Launch) {D : va_G} {cA : Nat → ClassId} {h : Nat → Nat} (hk : ky keysC h) {x1 : Int32} {S : sT} (sz : Nat) {Q : Int32 → sT → Prop} (hd : wp_X4_greatestPart x1 S Q) : Met l yX4_greatestPart (wsU yX4_greatestPart cX4_greatestPart 6 (some .int)) rm_X4_greatestPart (va_Pc [.ref (h 1000), .int x1] (gP D cA true keysC h (wC h cA) S sz)) (va_Qi Q (wB D (wC h cA)) (aK keysC h sz)) 0 0 (aK keysC h sz) :=
  mk_i (by decide) hk (Nat.le_of_ble_eq_true rfl) (fun p e s m below meth c Z ls C0 hret hP hS hl => bk_X4_greatestPart C0 hret hP hS hd hl)
abbrev rm_X4_isPart : Room := { frames := 0, cells := 0, slots := 0, locals := 0 }
def wp_X4_isPart (x0 : Int32) (x1 : Int32) (S : sT) (Q : Int32 → sT → Prop) : Prop :=
  ((¬ (x0 &&& (x1 ^^^ (-1 : Int32))) = 0 → Q (0 : Int32) S) ∧ ((x0 &&& (x1 ^^^ (-1 : Int32))) = 0 → Q (1 : Int32) S))
set_option maxHeartbeats 4000000 in
set_option maxRecDepth 100000 in
theorem bk_X4_isPart {p : Program} {l : Launch} {e : Env} {s : State} {m : MethodId} {args : Array Value} {below : List Frame} {meth : Method} {c : Code} {Z : State → Prop} {D : va_G} {cA : Nat → ClassId} {h : Nat → Nat} {Q : Int32 → sT → Prop} (C0 : cx p s m args c cX4_isPart 2 RX4 D cA true keysC h) (hret : rtZ p l e rm_X4_isPart s m args below meth c cX4_isPart Z D (wC h cA) (aK keysC h s.heap.size) Q) {x0 : Int32} {x1 : Int32} {S : sT} {H : Heap} {locs : List Loc} {ls : Array Slot} (hP : va_P D vwCl (wC h cA S) H) (hS : va_S (aK keysC h s.heap.size) s.heap H locs) (hd : wp_X4_isPart x0 x1 S Q) (hl : lv_has ls 2 [(0, .int x0), (1, .int x1)]) : W p l e rm_X4_isPart s m args below meth c H locs 0 0 Z (F0 m 0 ls []) := by
  obtain ⟨⟨hx, hb, hml, hown, hts⟩, hK, -, -⟩ := id C0
  unfold wp_X4_isPart at hd
  refine lv_iload_n hx hb dX4_isPart_0 rfl (lv_at hl 0 rfl) ?_
  refine lv_iload_n hx hb dX4_isPart_1 rfl (lv_at hl 1 rfl) ?_
  refine lv_iconst (v := (-1)) hx hb dX4_isPart_2 (by decide) ?_
  refine lv_ixor hx hb dX4_isPart_3 ?_
  refine lv_iand hx hb dX4_isPart_4 ?_
  refine lv_if_ne (tgt := 12) hx hb dX4_isPart_5 (by decide) (fun hc => ?_) (fun hc => ?_)
  · have hd := hd.1 hc
    refine lv_iconst (v := 0) hx hb dX4_isPart_12 (by decide) ?_
    exact hret _ _ _ _ _ _ rfl hd hP hS dX4_isPart_13
  · have hd := hd.2 hc
    refine lv_iconst (v := 1) hx hb dX4_isPart_8 (by decide) ?_
    refine lv_goto (tgt := 13) hx hb dX4_isPart_9 (by decide) ?_
    exact hret _ _ _ _ _ _ rfl hd hP hS dX4_isPart_13
theorem c_X4_isPart (l : Launch) {D : va_G} {cA : Nat → ClassId} {h : Nat → Nat} (hk : ky keysC h) {x0 : Int32} {x1 : Int32} {S : sT} (sz : Nat) {Q : Int32 → sT → Prop} (hd : wp_X4_isPart x0 x1 S Q) : Met l yX4_isPart (wsU yX4_isPart cX4_isPart 2 (some .boolean)) rm_X4_isPart (va_Pc [.int x0, .int x1] (gP D cA true keysC h (wC h cA) S sz)) (va_Qi Q (wB D (wC h cA)) (aK keysC h sz)) 0 0 (aK keysC h sz) :=
  mk_z (by decide) hk (Nat.le_of_ble_eq_true rfl) (fun p e s m below meth c Z ls C0 hret hP hS hl => bk_X4_isPart C0 hret hP hS hd hl)
abbrev rm_X4_intime : Room := { frames := 3, cells := 0, slots := 0, locals := 73 }
def wb_X4_intime_134 (Q : Int32 → sT → Prop) (K52 : Int32 → Int32 → Int32 → Int32 → sT → Prop) (x1 : Int32) (x2 : Int32) (x3 : Int32) (x4 : Int32) (S : sT) : Prop :=
  K52 x1 x2 x3 (x4 + (1 : Int32)) S
set_option maxHeartbeats 4000000 in
set_option maxRecDepth 100000 in
theorem bk_X4_intime_134 {p : Program} {l : Launch} {e : Env} {s : State} {m : MethodId} {args : Array Value} {below : List Frame} {meth : Method} {c : Code} {Z : State → Prop} {D : va_G} {cA : Nat → ClassId} {h : Nat → Nat} {Q : Int32 → sT → Prop} (C0 : cx p s m args c cX4_intime 6 RX4 D cA true keysC h) (hret : rtI p l e rm_X4_intime s m args below meth c cX4_intime Z D (wC h cA) (aK keysC h s.heap.size) Q) {K52 : Int32 → Int32 → Int32 → Int32 → sT → Prop} (k52 : ∀ (x1 : Int32) (x2 : Int32) (x3 : Int32) (x4 : Int32) (S : sT) (H : Heap) (locs : List Loc) (ls : Array Slot), K52 x1 x2 x3 x4 S → va_P D vwCl (wC h cA S) H → va_S (aK keysC h s.heap.size) s.heap H locs → lv_has ls 6 [(0, .ref (h 1000)), (1, .int x1), (2, .int x2), (3, .int x3), (4, .int x4)] → W p l e rm_X4_intime s m args below meth c H locs 0 0 Z (F0 m 52 ls [])) {x1 : Int32} {x2 : Int32} {x3 : Int32} {x4 : Int32} {S : sT} {H : Heap} {locs : List Loc} {ls : Array Slot} (hP : va_P D vwCl (wC h cA S) H) (hS : va_S (aK keysC h s.heap.size) s.heap H locs) (hd : wb_X4_intime_134 Q K52 x1 x2 x3 x4 S) (hl : lv_has ls 6 [(0, .ref (h 1000)), (1, .int x1), (2, .int x2), (3, .int x3), (4, .int x4)]) : W p l e rm_X4_intime s m args below meth c H locs 0 0 Z (F0 m 134 ls []) := by
  obtain ⟨⟨hx, hb, hml, hown, hts⟩, hK, -, -⟩ := id C0
  unfold wb_X4_intime_134 at hd
  refine lv_iinc (v := x4 + (1 : Int32)) (lv' := [(4, .int (x4 + (1 : Int32))), (0, .ref (h 1000)), (1, .int x1), (2, .int x2), (3, .int x3)]) hx hb dX4_intime_134 hl (k := 4) rfl rfl (by decide) rfl (fun ls hl => ?_)
  refine lv_goto (tgt := 52) hx hb dX4_intime_137 (by decide) ?_
  exact k52 _ _ _ _ _ _ _ _ hd hP hS (lv_sub hl [1, 2, 3, 4, 0] rfl)
def wb_X4_intime_98 (Q : Int32 → sT → Prop) (K52 : Int32 → Int32 → Int32 → Int32 → sT → Prop) (x1 : Int32) (x2 : Int32) (x3 : Int32) (x4 : Int32) (x5 : Int32) (S : sT) : Prop :=
  wp_X0_ride x1 ((vI S 29) &&& (x4 ^^^ (-1 : Int32))) S (fun r_1 S_1 => ((¬ r_1 = (vI S_1 27) → wb_X4_intime_134 Q K52 x1 x2 x3 x4 S_1) ∧ (r_1 = (vI S_1 27) → wb_X4_intime_134 Q K52 x1 x5 x4 x4 S_1)))
set_option maxHeartbeats 4000000 in
set_option maxRecDepth 100000 in
theorem bk_X4_intime_98 {p : Program} {l : Launch} {e : Env} {s : State} {m : MethodId} {args : Array Value} {below : List Frame} {meth : Method} {c : Code} {Z : State → Prop} {D : va_G} {cA : Nat → ClassId} {h : Nat → Nat} {Q : Int32 → sT → Prop} (C0 : cx p s m args c cX4_intime 6 RX4 D cA true keysC h) (hret : rtI p l e rm_X4_intime s m args below meth c cX4_intime Z D (wC h cA) (aK keysC h s.heap.size) Q) {K52 : Int32 → Int32 → Int32 → Int32 → sT → Prop} (k52 : ∀ (x1 : Int32) (x2 : Int32) (x3 : Int32) (x4 : Int32) (S : sT) (H : Heap) (locs : List Loc) (ls : Array Slot), K52 x1 x2 x3 x4 S → va_P D vwCl (wC h cA S) H → va_S (aK keysC h s.heap.size) s.heap H locs → lv_has ls 6 [(0, .ref (h 1000)), (1, .int x1), (2, .int x2), (3, .int x3), (4, .int x4)] → W p l e rm_X4_intime s m args below meth c H locs 0 0 Z (F0 m 52 ls [])) {x1 : Int32} {x2 : Int32} {x3 : Int32} {x4 : Int32} {x5 : Int32} {S : sT} {H : Heap} {locs : List Loc} {ls : Array Slot} (hP : va_P D vwCl (wC h cA S) H) (hS : va_S (aK keysC h s.heap.size) s.heap H locs) (hd : wb_X4_intime_98 Q K52 x1 x2 x3 x4 x5 S) (hl : lv_has ls 6 [(0, .ref (h 1000)), (1, .int x1), (2, .int x2), (3, .int x3), (4, .int x4), (5, .int x5)]) : W p l e rm_X4_intime s m args below meth c H locs 0 0 Z (F0 m 98 ls []) := by
  obtain ⟨⟨hx, hb, hml, hown, hts⟩, hK, -, -⟩ := id C0
  unfold wb_X4_intime_98 at hd
  refine lv_aload_n hx hb dX4_intime_98 rfl (lv_at hl 0 rfl) ?_
  refine gf_X4_49 C0 hP dX4_intime_99 ?_
  refine lv_iload_n hx hb dX4_intime_102 rfl (lv_at hl 1 rfl) ?_
  refine lv_aload_n hx hb dX4_intime_103 rfl (lv_at hl 0 rfl) ?_
  refine gf_X4_24 C0 hP dX4_intime_104 ?_
  refine gf_X4_196_0 C0 hP dX4_intime_107 ?_
  refine lv_iload hx hb dX4_intime_110 (lv_at hl 4 rfl) ?_
  refine lv_iconst (v := (-1)) hx hb dX4_intime_112 (by decide) ?_
  refine lv_ixor hx hb dX4_intime_113 ?_
  refine lv_iand hx hb dX4_intime_114 ?_
  refine cl_VNi (n := 2) (rest := []) C0 hP hS (c_X0_ride l C0.2.2.1 _ hd) (lwG_C lc_X0_ride) (by decide +kernel : (RX4, 199, yX0_ride, "DreamTrain") ∈ nestM) lz_RX0 li_X0_ride lx_X0_ride (by decide +kernel) (oJ_at h cA _) rfl rfl rfl (Nat.le_of_ble_eq_true rfl) ⟨rfl, rfl⟩ ⟨by decide, by decide⟩ dX4_intime_115 hl.1 ⟨Nat.zero_le _, Nat.zero_le _⟩ (fun r_1 S_1 H locs hd hP hS => ?_)
  refine lv_aload_n hx hb dX4_intime_118 rfl (lv_at hl 0 rfl) ?_
  refine gf_X4_24 C0 hP dX4_intime_119 ?_
  refine gf_X4_205_0 C0 hP dX4_intime_122 ?_
  refine lv_icmp_ne (tgt := 134) hx hb dX4_intime_125 (by decide) (fun hc => ?_) (fun hc => ?_)
  · have hd := hd.1 hc
    exact bk_X4_intime_134 C0 hret k52 hP hS hd (lv_sub hl [0, 1, 2, 3, 4] rfl)
  · have hd := hd.2 hc
    refine lv_iload hx hb dX4_intime_128 (lv_at hl 5 rfl) ?_
    refine lv_istore_n (lv' := [(2, .int x5), (0, .ref (h 1000)), (1, .int x1), (3, .int x3), (4, .int x4), (5, .int x5)]) hx hb dX4_intime_130 rfl hl (by decide) rfl (fun ls hl => ?_)
    refine lv_iload hx hb dX4_intime_131 (lv_at hl 4 rfl) ?_
    refine lv_istore_n (lv' := [(3, .int x4), (2, .int x5), (0, .ref (h 1000)), (1, .int x1), (4, .int x4), (5, .int x5)]) hx hb dX4_intime_133 rfl hl (by decide) rfl (fun ls hl => ?_)
    exact bk_X4_intime_134 C0 hret k52 hP hS hd (lv_sub hl [2, 3, 1, 0, 4] rfl)
def wb_X4_intime_52 (Q : Int32 → sT → Prop) (K52 : Int32 → Int32 → Int32 → Int32 → sT → Prop) (x1 : Int32) (x2 : Int32) (x3 : Int32) (x4 : Int32) (S : sT) : Prop :=
  wp_X1_setCount 0 S (fun r_1 S_1 => ((r_1 ≤ x4 → ((x2 = (-9 : Int32) → Q x2 S_1) ∧ (¬ x2 = (-9 : Int32) → Q x2 (uI S_1 13 x3)))) ∧ (¬ r_1 ≤ x4 → wp_J6_bitCount_0f7a4 x4 S_1 (fun r_2 S_2 => wp_X4_isPart x4 (vI S_2 29) S_2 (fun r_3 S_3 => ((r_3 = 0 → wb_X4_intime_134 Q K52 x1 x2 x3 x4 S_3) ∧ (¬ r_3 = 0 → ((x2 = (-9 : Int32) → wb_X4_intime_98 Q K52 x1 x2 x3 x4 r_2 S_3) ∧ (¬ x2 = (-9 : Int32) → ((x2 ≤ r_2 → wb_X4_intime_134 Q K52 x1 x2 x3 x4 S_3) ∧ (¬ x2 ≤ r_2 → wb_X4_intime_98 Q K52 x1 x2 x3 x4 r_2 S_3)))))))))))
set_option maxHeartbeats 4000000 in
set_option maxRecDepth 100000 in
theorem bk_X4_intime_52 {p : Program} {l : Launch} {e : Env} {s : State} {m : MethodId} {args : Array Value} {below : List Frame} {meth : Method} {c : Code} {Z : State → Prop} {D : va_G} {cA : Nat → ClassId} {h : Nat → Nat} {Q : Int32 → sT → Prop} (C0 : cx p s m args c cX4_intime 6 RX4 D cA true keysC h) (hret : rtI p l e rm_X4_intime s m args below meth c cX4_intime Z D (wC h cA) (aK keysC h s.heap.size) Q) {K52 : Int32 → Int32 → Int32 → Int32 → sT → Prop} (k52 : ∀ (x1 : Int32) (x2 : Int32) (x3 : Int32) (x4 : Int32) (S : sT) (H : Heap) (locs : List Loc) (ls : Array Slot), K52 x1 x2 x3 x4 S → va_P D vwCl (wC h cA S) H → va_S (aK keysC h s.heap.size) s.heap H locs → lv_has ls 6 [(0, .ref (h 1000)), (1, .int x1), (2, .int x2), (3, .int x3), (4, .int x4)] → W p l e rm_X4_intime s m args below meth c H locs 0 0 Z (F0 m 52 ls [])) {x1 : Int32} {x2 : Int32} {x3 : Int32} {x4 : Int32} {S : sT} {H : Heap} {locs : List Loc} {ls : Array Slot} (hP : va_P D vwCl (wC h cA S) H) (hS : va_S (aK keysC h s.heap.size) s.heap H locs) (hd : wb_X4_intime_52 Q K52 x1 x2 x3 x4 S) (hl : lv_has ls 6 [(0, .ref (h 1000)), (1, .int x1), (2, .int x2), (3, .int x3), (4, .int x4)]) : W p l e rm_X4_intime s m args below meth c H locs 0 0 Z (F0 m 52 ls []) := by
  obtain ⟨⟨hx, hb, hml, hown, hts⟩, hK, -, -⟩ := id C0
  unfold wb_X4_intime_52 at hd
  refine lv_iload hx hb dX4_intime_52 (lv_at hl 4 rfl) ?_
  refine lv_aload_n hx hb dX4_intime_54 rfl (lv_at hl 0 rfl) ?_
  refine gf_X4_24 C0 hP dX4_intime_55 ?_
  refine cl_VNi (n := 0) (rest := [.int x4]) C0 hP hS (c_X1_setCount l C0.2.2.1 (by decide) _ hd) (lwG_C lc_X1_setCount) (by decide +kernel : (RX4, 222, yX1_setCount, "DreamTrain") ∈ nestM) lz_RX1 li_X1_setCount lx_X1_setCount (by decide +kernel) (oL_at h cA _ 0 (by decide)) rfl rfl rfl (Nat.le_of_ble_eq_true rfl) ⟨rfl, rfl⟩ ⟨by decide, by decide⟩ dX4_intime_58 hl.1 ⟨Nat.zero_le _, Nat.zero_le _⟩ (fun r_1 S_1 H locs hd hP hS => ?_)
  refine lv_icmp_ge (tgt := 140) hx hb dX4_intime_61 (by decide) (fun hc => ?_) (fun hc => ?_)
  · have hd := hd.1 hc
    refine lv_iload_n hx hb dX4_intime_140 rfl (lv_at hl 2 rfl) ?_
    refine lv_bipush (v := (-9)) hx hb dX4_intime_141 (by decide) ?_
    refine lv_icmp_eq (tgt := 151) hx hb dX4_intime_143 (by decide) (fun hc => ?_) (fun hc => ?_)
    · have hd := hd.1 hc
      refine lv_iload_n hx hb dX4_intime_151 rfl (lv_at hl 2 rfl) ?_
      exact hret _ _ _ _ _ _ hd hP hS dX4_intime_152
    · have hd := hd.2 hc
      refine lv_aload_n hx hb dX4_intime_146 rfl (lv_at hl 0 rfl) ?_
      refine lv_iload_n hx hb dX4_intime_147 rfl (lv_at hl 3 rfl) ?_
      refine pf_X4_97 C0 hP hS dX4_intime_148 (fun H locs hP hS => ?_)
      refine lv_iload_n hx hb dX4_intime_151 rfl (lv_at hl 2 rfl) ?_
      exact hret _ _ _ _ _ _ hd hP hS dX4_intime_152
  · have hd := hd.2 hc
    refine lv_iload hx hb dX4_intime_64 (lv_at hl 4 rfl) ?_
    refine cl_Si (n := 1) (rest := []) C0 hP hS (c_J6_bitCount_0f7a4 l C0.2.2.1 _ hd) (lwG_S lm_X4_226 ls_J6_bitCount_0f7a4 lz_RJ6 lc_J6_bitCount_0f7a4) (by decide +kernel) rfl rfl (Nat.le_of_ble_eq_true rfl) ⟨rfl, rfl⟩ ⟨by decide, by decide⟩ dX4_intime_66 hl.1 ⟨Nat.zero_le _, Nat.zero_le _⟩ (fun r_2 S_2 H locs hd hP hS => ?_)
    refine lv_istore (lv' := [(5, .int r_2), (0, .ref (h 1000)), (1, .int x1), (2, .int x2), (3, .int x3), (4, .int x4)]) hx hb dX4_intime_69 hl (by decide) rfl (fun ls hl => ?_)
    refine lv_iload hx hb dX4_intime_71 (lv_at hl 5 rfl) ?_
    refine lv_aload_n hx hb dX4_intime_73 rfl (lv_at hl 1 rfl) ?_
    refine gf_X4_24 C0 hP dX4_intime_74 ?_
    refine gf_X4_196_0 C0 hP dX4_intime_77 ?_
    refine cl_Si (n := 2) (rest := []) C0 hP hS (c_X4_isPart l C0.2.2.1 _ hd) (lwG_S lm_X4_231 ls_X4_isPart lz_RX4 lc_X4_isPart) (by decide +kernel) rfl rfl (Nat.le_of_ble_eq_true rfl) ⟨rfl, rfl⟩ ⟨by decide, by decide⟩ dX4_intime_80 hl.1 ⟨Nat.zero_le _, Nat.zero_le _⟩ (fun r_3 S_3 H locs hd hP hS => ?_)
    refine lv_if_eq (tgt := 134) hx hb dX4_intime_83 (by decide) (fun hc => ?_) (fun hc => ?_)
    · have hd := hd.1 hc
      exact bk_X4_intime_134 C0 hret k52 hP hS hd (lv_sub hl [1, 2, 3, 4, 5] rfl)
    · have hd := hd.2 hc
      refine lv_iload_n hx hb dX4_intime_86 rfl (lv_at hl 3 rfl) ?_
      refine lv_bipush (v := (-9)) hx hb dX4_intime_87 (by decide) ?_
      refine lv_icmp_eq (tgt := 98) hx hb dX4_intime_89 (by decide) (fun hc => ?_) (fun hc => ?_)
      · have hd := hd.1 hc
        exact bk_X4_intime_98 C0 hret k52 hP hS hd (lv_sub hl [1, 2, 3, 4, 5, 0] rfl)
      · have hd := hd.2 hc
        refine lv_iload hx hb dX4_intime_92 (lv_at hl 0 rfl) ?_
        refine lv_iload_n hx hb dX4_intime_94 rfl (lv_at hl 3 rfl) ?_
        refine lv_icmp_ge (tgt := 134) hx hb dX4_intime_95 (by decide) (fun hc => ?_) (fun hc => ?_)
        · have hd := hd.1 hc
          exact bk_X4_intime_134 C0 hret k52 hP hS hd (lv_sub hl [1, 2, 3, 4, 5] rfl)
        · have hd := hd.2 hc
          exact bk_X4_intime_98 C0 hret k52 hP hS hd (lv_sub hl [1, 2, 3, 4, 5, 0] rfl)
def wl_X4_intime_52 (Q : Int32 → sT → Prop) : Nat → Int32 → Int32 → Int32 → Int32 → sT → Prop
  | 0, _, _, _, _ => fun _ => False
  | n + 1, x1, x2, x3, x4 => fun S => wb_X4_intime_52 Q (fun x1 x2 x3 x4 S => wl_X4_intime_52 Q n x1 x2 x3 x4 S) x1 x2 x3 x4 S
theorem bl_X4_intime_52 {p : Program} {l : Launch} {e : Env} {s : State} {m : MethodId} {args : Array Value} {below : List Frame} {meth : Method} {c : Code} {Z : State → Prop} {D : va_G} {cA : Nat → ClassId} {h : Nat → Nat} {Q : Int32 → sT → Prop} (C0 : cx p s m args c cX4_intime 6 RX4 D cA true keysC h) (hret : rtI p l e rm_X4_intime s m args below meth c cX4_intime Z D (wC h cA) (aK keysC h s.heap.size) Q) : ∀ (n : Nat) (x1 : Int32) (x2 : Int32) (x3 : Int32) (x4 : Int32) (S : sT) (H : Heap) (locs : List Loc) (ls : Array Slot), va_P D vwCl (wC h cA S) H → va_S (aK keysC h s.heap.size) s.heap H locs → wl_X4_intime_52 Q n x1 x2 x3 x4 S → lv_has ls 6 [(0, .ref (h 1000)), (1, .int x1), (2, .int x2), (3, .int x3), (4, .int x4)] → W p l e rm_X4_intime s m args below meth c H locs 0 0 Z (F0 m 52 ls []) := by
  intro n
  induction n with
  | zero => intro x1 x2 x3 x4 S H locs ls hP hS hd hl; exact (show False from hd).elim
  | succ n ih => intro x1 x2 x3 x4 S H locs ls hP hS hd hl; exact bk_X4_intime_52 C0 hret (fun x1 x2 x3 x4 S H locs ls hd hP hS hl => ih x1 x2 x3 x4 S H locs ls hP hS hd hl) hP hS hd hl
def wp_X4_intime (S : sT) (Q : Int32 → sT → Prop) : Prop :=
  ((¬ (vI S 26) = 0 → ∀ z_1 : Int32, z_1 = (if (0 : Int32) < ((vI S 28) - (vI S 30)) then ((vI S 28) - (vI S 30)) else (0 : Int32)) → wp_X0_setOut 0 S (fun S_2 => ∃ n : Nat, wl_X4_intime_52 Q n z_1 (-9 : Int32) (0 : Int32) (0 : Int32) S_2)) ∧ ((vI S 26) = 0 → Q (-4 : Int32) S))
set_option maxHeartbeats 4000000 in
set_option maxRecDepth 100000 in
theorem bk_X4_intime {p : Program} {l : Launch} {e : Env} {s : State} {m : MethodId} {args : Array Value} {below : List Frame} {meth : Method} {c : Code} {Z : State → Prop} {D : va_G} {cA : Nat → ClassId} {h : Nat → Nat} {Q : Int32 → sT → Prop} (C0 : cx p s m args c cX4_intime 6 RX4 D cA true keysC h) (hret : rtI p l e rm_X4_intime s m args below meth c cX4_intime Z D (wC h cA) (aK keysC h s.heap.size) Q) {S : sT} {H : Heap} {locs : List Loc} {ls : Array Slot} (hP : va_P D vwCl (wC h cA S) H) (hS : va_S (aK keysC h s.heap.size) s.heap H locs) (hd : wp_X4_intime S Q) (hl : lv_has ls 6 [(0, .ref (h 1000))]) : W p l e rm_X4_intime s m args below meth c H locs 0 0 Z (F0 m 0 ls []) := by
  obtain ⟨⟨hx, hb, hml, hown, hts⟩, hK, -, -⟩ := id C0
  unfold wp_X4_intime at hd
  refine lv_aload_n hx hb dX4_intime_0 rfl (lv_at hl 0 rfl) ?_
  refine gf_X4_24 C0 hP dX4_intime_1 ?_
  refine gf_X4_129_0 C0 hP dX4_intime_4 ?_
  refine lv_if_ne (tgt := 13) hx hb dX4_intime_7 (by decide) (fun hc => ?_) (fun hc => ?_)
  · have hd := hd.1 hc
    refine lv_iconst (v := 0) hx hb dX4_intime_13 (by decide) ?_
    refine lv_aload_n hx hb dX4_intime_14 rfl (lv_at hl 0 rfl) ?_
    refine gf_X4_24 C0 hP dX4_intime_15 ?_
    refine gf_X4_214_0 C0 hP dX4_intime_18 ?_
    refine lv_aload_n hx hb dX4_intime_21 rfl (lv_at hl 0 rfl) ?_
    refine gf_X4_24 C0 hP dX4_intime_22 ?_
    refine gf_X4_162_0 C0 hP dX4_intime_25 ?_
    refine lv_isub hx hb dX4_intime_28 ?_
    refine va_mmax hx hb (by rw [hml]; exact hl.1.symm) hown (hts _ lm_X4_217) (hts _ ls_mmax) (hts _ lz_RJ9) (hts _ lc_mmax) (by decide) (Nat.le_of_ble_eq_true rfl) (Nat.zero_le _) (Nat.zero_le _) dX4_intime_29 ?_
    refine lv_topi (fun z_1 ez_1 => ?_)
    have hd := hd z_1 ez_1
    refine lv_istore_n (lv' := [(1, .int z_1), (0, .ref (h 1000))]) hx hb dX4_intime_32 rfl hl (by decide) rfl (fun ls hl => ?_)
    refine lv_bipush (v := (-9)) hx hb dX4_intime_33 (by decide) ?_
    refine lv_istore_n (lv' := [(2, .int (-9 : Int32)), (1, .int z_1), (0, .ref (h 1000))]) hx hb dX4_intime_35 rfl hl (by decide) rfl (fun ls hl => ?_)
    refine lv_iconst (v := 0) hx hb dX4_intime_36 (by decide) ?_
    refine lv_istore_n (lv' := [(3, .int (0 : Int32)), (2, .int (-9 : Int32)), (1, .int z_1), (0, .ref (h 1000))]) hx hb dX4_intime_37 rfl hl (by decide) rfl (fun ls hl => ?_)
    refine lv_aload_n hx hb dX4_intime_38 rfl (lv_at hl 3 rfl) ?_
    refine gf_X4_49 C0 hP dX4_intime_39 ?_
    refine lv_aload_n hx hb dX4_intime_42 rfl (lv_at hl 3 rfl) ?_
    refine gf_X4_24 C0 hP dX4_intime_43 ?_
    refine cl_VNv (n := 1) (rest := []) C0 hP hS (c_X0_setOut l C0.2.2.1 (by decide) _ hd) (lwG_C lc_X0_setOut) (by decide +kernel : (RX4, 193, yX0_setOut, "DreamTrain") ∈ nestM) lz_RX0 li_X0_setOut lx_X0_setOut (by decide +kernel) (oJ_at h cA _) rfl rfl rfl (Nat.le_of_ble_eq_true rfl) ⟨rfl, rfl⟩ ⟨by decide, by decide⟩ dX4_intime_46 hl.1 ⟨Nat.zero_le _, Nat.zero_le _⟩ (fun S_2 H locs hd hP hS => ?_)
    refine lv_iconst (v := 0) hx hb dX4_intime_49 (by decide) ?_
    refine lv_istore (lv' := [(4, .int (0 : Int32)), (3, .int (0 : Int32)), (2, .int (-9 : Int32)), (1, .int z_1), (0, .ref (h 1000))]) hx hb dX4_intime_50 hl (by decide) rfl (fun ls hl => ?_)
    obtain ⟨n_3, hd⟩ := hd
    exact bl_X4_intime_52 C0 hret _ _ _ _ _ _ _ _ _ hP hS hd (lv_sub hl [4, 3, 2, 1, 0] rfl)
  · have hd := hd.2 hc
    refine lv_bipush (v := (-4)) hx hb dX4_intime_10 (by decide) ?_
    exact hret _ _ _ _ _ _ hd hP hS dX4_intime_12
theorem c_X4_intime (l : Launch) {D : va_G} {cA : Nat → ClassId} {h : Nat → Nat} (hk : ky keysC h) {S : sT} (sz : Nat) {Q : Int32 → sT → Prop} (hd : wp_X4_intime S Q) : Met l yX4_intime (wsU yX4_intime cX4_intime 6 (some .int)) rm_X4_intime (va_Pc [.ref (h 1000)] (gP D cA true keysC h (wC h cA) S sz)) (va_Qi Q (wB D (wC h cA)) (aK keysC h sz)) 0 0 (aK keysC h sz) :=
  mk_i (by decide) hk (Nat.le_of_ble_eq_true rfl) (fun p e s m below meth c Z ls C0 hret hP hS hl => bk_X4_intime C0 hret hP hS hd hl)
abbrev rm_X4_keep : Room := { frames := 2, cells := 0, slots := 0, locals := 81 }
def wp_X4_keep (x1 : Int32) (S : sT) (Q : Int32 → sT → Prop) : Prop :=
  wp_X4_isBelow x1 (3 : Int32) S (fun r_1 S_1 => ((¬ r_1 = 0 → ((¬ (vI S_1 26) = 0 → (vp_in x1 3) ∧ wp_X1_become (2 + x1.toNatClampNeg) 0 S_1 (fun S_3 => (vp_in x1 3) ∧ Q (vI (uA S_3 5 (upd (vA S_3 5) x1.toNatClampNeg (vp_nar .boolean (1 : Int32)))) 32) (uA S_3 5 (upd (vA S_3 5) x1.toNatClampNeg (vp_nar .boolean (1 : Int32)))))) ∧ ((vI S_1 26) = 0 → Q (-4 : Int32) S_1))) ∧ (r_1 = 0 → Q (-1 : Int32) S_1)))
set_option maxHeartbeats 4000000 in
set_option maxRecDepth 100000 in
theorem bk_X4_keep {p : Program} {l : Launch} {e : Env} {s : State} {m : MethodId} {args : Array Value} {below : List Frame} {meth : Method} {c : Code} {Z : State → Prop} {D : va_G} {cA : Nat → ClassId} {h : Nat → Nat} {Q : Int32 → sT → Prop} (C0 : cx p s m args c cX4_keep 2 RX4 D cA true keysC h) (hret : rtI p l e rm_X4_keep s m args below meth c cX4_keep Z D (wC h cA) (aK keysC h s.heap.size) Q) {x1 : Int32} {S : sT} {H : Heap} {locs : List Loc} {ls : Array Slot} (hP : va_P D vwCl (wC h cA S) H) (hS : va_S (aK keysC h s.heap.size) s.heap H locs) (hd : wp_X4_keep x1 S Q) (hl : lv_has ls 2 [(0, .ref (h 1000)), (1, .int x1)]) : W p l e rm_X4_keep s m args below meth c H locs 0 0 Z (F0 m 0 ls []) := by
  obtain ⟨⟨hx, hb, hml, hown, hts⟩, hK, -, -⟩ := id C0
  unfold wp_X4_keep at hd
  refine lv_iload_n hx hb dX4_keep_0 rfl (lv_at hl 1 rfl) ?_
  refine lv_iconst (v := 3) hx hb dX4_keep_1 (by decide) ?_
  refine cl_Si (n := 2) (rest := []) C0 hP hS (c_X4_isBelow l C0.2.2.1 _ hd) (lwG_S lm_X4_132 ls_X4_isBelow lz_RX4 lc_X4_isBelow) (by decide +kernel) rfl rfl (Nat.le_of_ble_eq_true rfl) ⟨rfl, rfl⟩ ⟨by decide, by decide⟩ dX4_keep_2 hl.1 ⟨Nat.zero_le _, Nat.zero_le _⟩ (fun r_1 S_1 H locs hd hP hS => ?_)
  refine lv_if_ne (tgt := 10) hx hb dX4_keep_5 (by decide) (fun hc => ?_) (fun hc => ?_)
  · have hd := hd.1 hc
    refine lv_aload_n hx hb dX4_keep_10 rfl (lv_at hl 0 rfl) ?_
    refine gf_X4_24 C0 hP dX4_keep_11 ?_
    refine gf_X4_129_0 C0 hP dX4_keep_14 ?_
    refine lv_if_ne (tgt := 23) hx hb dX4_keep_17 (by decide) (fun hc => ?_) (fun hc => ?_)
    · have hd := hd.1 hc
      refine lv_aload_n hx hb dX4_keep_23 rfl (lv_at hl 0 rfl) ?_
      refine gf_X4_31 C0 hP dX4_keep_24 ?_
      refine lv_iload_n hx hb dX4_keep_27 rfl (lv_at hl 1 rfl) ?_
      obtain ⟨h_2, hd⟩ := hd
      refine ao_1015 C0 hP h_2 dX4_keep_28 ?_
      refine lv_aload_n hx hb dX4_keep_29 rfl (lv_at hl 0 rfl) ?_
      refine gf_X4_24 C0 hP dX4_keep_30 ?_
      refine cl_VNv (n := 1) (rest := []) C0 hP hS (c_X1_become l C0.2.2.1 (by have h9 := vp_lt h_2; omega) (by decide) _ hd) (lwG_C lc_X1_become) (by decide +kernel : (RX4, 125, yX1_become, "DreamTrain") ∈ nestM) lz_RX1 li_X1_become lx_X1_become (by decide +kernel) (oL_at h cA _ (2 + x1.toNatClampNeg) (by have h9 := vp_lt h_2; omega)) rfl rfl rfl (Nat.le_of_ble_eq_true rfl) ⟨rfl, rfl⟩ ⟨by decide, by decide⟩ dX4_keep_33 hl.1 ⟨Nat.zero_le _, Nat.zero_le _⟩ (fun S_3 H locs hd hP hS => ?_)
      refine lv_aload_n hx hb dX4_keep_36 rfl (lv_at hl 0 rfl) ?_
      refine gf_X4_35 C0 hP dX4_keep_37 ?_
      refine lv_iload_n hx hb dX4_keep_40 rfl (lv_at hl 1 rfl) ?_
      refine lv_iconst (v := 1) hx hb dX4_keep_41 (by decide) ?_
      obtain ⟨h_4, hd⟩ := hd
      refine stZ C0 hP hS h_4 dX4_keep_42 (fun H locs hP hS => ?_)
      refine lv_aload_n hx hb dX4_keep_43 rfl (lv_at hl 0 rfl) ?_
      refine gf_X4_24 C0 hP dX4_keep_44 ?_
      refine gf_X4_187_0 C0 hP dX4_keep_47 ?_
      exact hret _ _ _ _ _ _ hd hP hS dX4_keep_50
    · have hd := hd.2 hc
      refine lv_bipush (v := (-4)) hx hb dX4_keep_20 (by decide) ?_
      exact hret _ _ _ _ _ _ hd hP hS dX4_keep_22
  · have hd := hd.2 hc
    refine lv_iconst (v := (-1)) hx hb dX4_keep_8 (by decide) ?_
    exact hret _ _ _ _ _ _ hd hP hS dX4_keep_9
theorem c_X4_keep (l : Launch) {D : va_G} {cA : Nat → ClassId} {h : Nat → Nat} (hk : ky keysC h) {x1 : Int32} {S : sT} (sz : Nat) {Q : Int32 → sT → Prop} (hd : wp_X4_keep x1 S Q) : Met l yX4_keep (wsU yX4_keep cX4_keep 2 (some .int)) rm_X4_keep (va_Pc [.ref (h 1000), .int x1] (gP D cA true keysC h (wC h cA) S sz)) (va_Qi Q (wB D (wC h cA)) (aK keysC h sz)) 0 0 (aK keysC h sz) :=
  mk_i (by decide) hk (Nat.le_of_ble_eq_true rfl) (fun p e s m below meth c Z ls C0 hret hP hS hl => bk_X4_keep C0 hret hP hS hd hl)
abbrev rm_X4_kinds : Room := { frames := 5, cells := 0, slots := 0, locals := 109 }
def wb_X4_kinds_117 (Q : Int32 → sT → Prop) (K56 : Int32 → Int32 → Int32 → Int32 → sT → Prop) (x1 : Int32) (x2 : Int32) (x4 : Int32) (x5 : Int32) (S : sT) : Prop :=
  K56 x1 x2 x4 (x5 + (1 : Int32)) S
set_option maxHeartbeats 4000000 in
set_option maxRecDepth 100000 in
theorem bk_X4_kinds_117 {p : Program} {l : Launch} {e : Env} {s : State} {m : MethodId} {args : Array Value} {below : List Frame} {meth : Method} {c : Code} {Z : State → Prop} {D : va_G} {cA : Nat → ClassId} {h : Nat → Nat} {Q : Int32 → sT → Prop} (C0 : cx p s m args c cX4_kinds 6 RX4 D cA true keysC h) (hret : rtI p l e rm_X4_kinds s m args below meth c cX4_kinds Z D (wC h cA) (aK keysC h s.heap.size) Q) {K56 : Int32 → Int32 → Int32 → Int32 → sT → Prop} (k56 : ∀ (x1 : Int32) (x2 : Int32) (x4 : Int32) (x5 : Int32) (S : sT) (H : Heap) (locs : List Loc) (ls : Array Slot), K56 x1 x2 x4 x5 S → va_P D vwCl (wC h cA S) H → va_S (aK keysC h s.heap.size) s.heap H locs → lv_has ls 6 [(0, .ref (h 1000)), (1, .int x1), (2, .int x2), (4, .int x4), (5, .int x5)] → W p l e rm_X4_kinds s m args below meth c H locs 0 0 Z (F0 m 56 ls [])) {x1 : Int32} {x2 : Int32} {x4 : Int32} {x5 : Int32} {S : sT} {H : Heap} {locs : List Loc} {ls : Array Slot} (hP : va_P D vwCl (wC h cA S) H) (hS : va_S (aK keysC h s.heap.size) s.heap H locs) (hd : wb_X4_kinds_117 Q K56 x1 x2 x4 x5 S) (hl : lv_has ls 6 [(0, .ref (h 1000)), (1, .int x1), (2, .int x2), (4, .int x4), (5, .int x5)]) : W p l e rm_X4_kinds s m args below meth c H locs 0 0 Z (F0 m 117 ls []) := by
  obtain ⟨⟨hx, hb, hml, hown, hts⟩, hK, -, -⟩ := id C0
  unfold wb_X4_kinds_117 at hd
  refine lv_iinc (v := x5 + (1 : Int32)) (lv' := [(5, .int (x5 + (1 : Int32))), (0, .ref (h 1000)), (1, .int x1), (2, .int x2), (4, .int x4)]) hx hb dX4_kinds_117 hl (k := 4) rfl rfl (by decide) rfl (fun ls hl => ?_)
  refine lv_goto (tgt := 56) hx hb dX4_kinds_120 (by decide) ?_
  exact k56 _ _ _ _ _ _ _ _ hd hP hS (lv_sub hl [1, 2, 3, 4, 0] rfl)
def wb_X4_kinds_56 (Q : Int32 → sT → Prop) (K56 : Int32 → Int32 → Int32 → Int32 → sT → Prop) (x1 : Int32) (x2 : Int32) (x4 : Int32) (x5 : Int32) (S : sT) : Prop :=
  (((6 : Int32) ≤ x5 → Q x4 S) ∧ (¬ (6 : Int32) ≤ x5 → (vp_in x1 6) ∧ wp_X4_dreamBitsFrom x5 (vA S 22 x1.toNatClampNeg) (vI S 30) S (fun r_2 S_2 => (vp_in x1 6) ∧ wp_X4_fitsSeen x2 (vI (uB S_2 110 (vp_updL (vB S_2 110) x1.toNatClampNeg r_2)) 29) (uB S_2 110 (vp_updL (vB S_2 110) x1.toNatClampNeg r_2)) (fun r_4 S_4 => ((r_4 = 0 → wb_X4_kinds_117 Q K56 x1 x2 x4 x5 S_4) ∧ (¬ r_4 = 0 → wb_X4_kinds_117 Q K56 x1 x2 (x4 ||| ((1 : Int32) <<< (x5 &&& 31))) x5 S_4))))))
set_option maxHeartbeats 4000000 in
set_option maxRecDepth 100000 in
theorem bk_X4_kinds_56 {p : Program} {l : Launch} {e : Env} {s : State} {m : MethodId} {args : Array Value} {below : List Frame} {meth : Method} {c : Code} {Z : State → Prop} {D : va_G} {cA : Nat → ClassId} {h : Nat → Nat} {Q : Int32 → sT → Prop} (C0 : cx p s m args c cX4_kinds 6 RX4 D cA true keysC h) (hret : rtI p l e rm_X4_kinds s m args below meth c cX4_kinds Z D (wC h cA) (aK keysC h s.heap.size) Q) {K56 : Int32 → Int32 → Int32 → Int32 → sT → Prop} (k56 : ∀ (x1 : Int32) (x2 : Int32) (x4 : Int32) (x5 : Int32) (S : sT) (H : Heap) (locs : List Loc) (ls : Array Slot), K56 x1 x2 x4 x5 S → va_P D vwCl (wC h cA S) H → va_S (aK keysC h s.heap.size) s.heap H locs → lv_has ls 6 [(0, .ref (h 1000)), (1, .int x1), (2, .int x2), (4, .int x4), (5, .int x5)] → W p l e rm_X4_kinds s m args below meth c H locs 0 0 Z (F0 m 56 ls [])) {x1 : Int32} {x2 : Int32} {x4 : Int32} {x5 : Int32} {S : sT} {H : Heap} {locs : List Loc} {ls : Array Slot} (hP : va_P D vwCl (wC h cA S) H) (hS : va_S (aK keysC h s.heap.size) s.heap H locs) (hd : wb_X4_kinds_56 Q K56 x1 x2 x4 x5 S) (hl : lv_has ls 6 [(0, .ref (h 1000)), (1, .int x1), (2, .int x2), (4, .int x4), (5, .int x5)]) : W p l e rm_X4_kinds s m args below meth c H locs 0 0 Z (F0 m 56 ls []) := by
  obtain ⟨⟨hx, hb, hml, hown, hts⟩, hK, -, -⟩ := id C0
  unfold wb_X4_kinds_56 at hd
  refine lv_iload hx hb dX4_kinds_56 (lv_at hl 4 rfl) ?_
  refine lv_bipush (v := 6) hx hb dX4_kinds_58 (by decide) ?_
  refine lv_icmp_ge (tgt := 123) hx hb dX4_kinds_60 (by decide) (fun hc => ?_) (fun hc => ?_)
  · have hd := hd.1 hc
    refine lv_iload hx hb dX4_kinds_123 (lv_at hl 3 rfl) ?_
    exact hret _ _ _ _ _ _ hd hP hS dX4_kinds_125
  · have hd := hd.2 hc
    refine lv_aload_n hx hb dX4_kinds_63 rfl (lv_at hl 0 rfl) ?_
    refine gf_X4_49 C0 hP dX4_kinds_64 ?_
    refine gf_X4_254 C0 hP dX4_kinds_67 ?_
    refine lv_iload_n hx hb dX4_kinds_70 rfl (lv_at hl 1 rfl) ?_
    refine lv_iload hx hb dX4_kinds_71 (lv_at hl 4 rfl) ?_
    refine lv_aload_n hx hb dX4_kinds_73 rfl (lv_at hl 0 rfl) ?_
    refine gf_X4_24 C0 hP dX4_kinds_74 ?_
    refine gf_X4_146_0 C0 hP dX4_kinds_77 ?_
    refine lv_iload_n hx hb dX4_kinds_80 rfl (lv_at hl 1 rfl) ?_
    obtain ⟨h_1, hd⟩ := hd
    refine ldC (by decide) C0 hP h_1 dX4_kinds_81 ?_
    refine lv_aload_n hx hb dX4_kinds_82 rfl (lv_at hl 0 rfl) ?_
    refine gf_X4_24 C0 hP dX4_kinds_83 ?_
    refine gf_X4_162_0 C0 hP dX4_kinds_86 ?_
    refine cl_Sl (n := 3) (rest := [.int x1, .ref (h 110)]) C0 hP hS (c_X4_dreamBitsFrom l C0.2.2.1 _ hd) (lwG_S lm_X4_257 ls_X4_dreamBitsFrom lz_RX4 lc_X4_dreamBitsFrom) (by decide +kernel) rfl rfl (Nat.le_of_ble_eq_true rfl) ⟨rfl, rfl⟩ ⟨by decide, by decide⟩ dX4_kinds_89 hl.1 ⟨Nat.zero_le _, Nat.zero_le _⟩ (fun r_2 S_2 H locs hd hP hS => ?_)
    obtain ⟨h_3, hd⟩ := hd
    refine stL (by decide) C0 hP hS h_3 dX4_kinds_92 (fun H locs hP hS => ?_)
    refine lv_aload_n hx hb dX4_kinds_93 rfl (lv_at hl 0 rfl) ?_
    refine lv_iload_n hx hb dX4_kinds_94 rfl (lv_at hl 2 rfl) ?_
    refine lv_aload_n hx hb dX4_kinds_95 rfl (lv_at hl 0 rfl) ?_
    refine gf_X4_24 C0 hP dX4_kinds_96 ?_
    refine gf_X4_196_0 C0 hP dX4_kinds_99 ?_
    refine cl_Vi (n := 2) (rest := []) C0 hP hS (c_X4_fitsSeen l C0.2.2.1 _ hd) (lwG_V lm_X4_251 li_X4_fitsSeen lx_X4_fitsSeen lz_RX4 lc_X4_fitsSeen) (by decide +kernel) (oD_at h cA _) rfl rfl rfl (Nat.le_of_ble_eq_true rfl) ⟨rfl, rfl⟩ ⟨by decide, by decide⟩ dX4_kinds_102 hl.1 ⟨Nat.zero_le _, Nat.zero_le _⟩ (fun r_4 S_4 H locs hd hP hS => ?_)
    refine lv_if_eq (tgt := 117) hx hb dX4_kinds_105 (by decide) (fun hc => ?_) (fun hc => ?_)
    · have hd := hd.1 hc
      exact bk_X4_kinds_117 C0 hret k56 hP hS hd (lv_sub hl [0, 1, 2, 3, 4] rfl)
    · have hd := hd.2 hc
      refine lv_iload hx hb dX4_kinds_108 (lv_at hl 3 rfl) ?_
      refine lv_iconst (v := 1) hx hb dX4_kinds_110 (by decide) ?_
      refine lv_iload hx hb dX4_kinds_111 (lv_at hl 4 rfl) ?_
      refine lv_ishl hx hb dX4_kinds_113 ?_
      refine lv_ior hx hb dX4_kinds_114 ?_
      refine lv_istore (lv' := [(4, .int (x4 ||| ((1 : Int32) <<< (x5 &&& 31)))), (0, .ref (h 1000)), (1, .int x1), (2, .int x2), (5, .int x5)]) hx hb dX4_kinds_115 hl (by decide) rfl (fun ls hl => ?_)
      exact bk_X4_kinds_117 C0 hret k56 hP hS hd (lv_sub hl [1, 2, 3, 0, 4] rfl)
def wl_X4_kinds_56 (Q : Int32 → sT → Prop) : Nat → Int32 → Int32 → Int32 → Int32 → sT → Prop
  | 0, _, _, _, _ => fun _ => False
  | n + 1, x1, x2, x4, x5 => fun S => wb_X4_kinds_56 Q (fun x1 x2 x4 x5 S => wl_X4_kinds_56 Q n x1 x2 x4 x5 S) x1 x2 x4 x5 S
theorem bl_X4_kinds_56 {p : Program} {l : Launch} {e : Env} {s : State} {m : MethodId} {args : Array Value} {below : List Frame} {meth : Method} {c : Code} {Z : State → Prop} {D : va_G} {cA : Nat → ClassId} {h : Nat → Nat} {Q : Int32 → sT → Prop} (C0 : cx p s m args c cX4_kinds 6 RX4 D cA true keysC h) (hret : rtI p l e rm_X4_kinds s m args below meth c cX4_kinds Z D (wC h cA) (aK keysC h s.heap.size) Q) : ∀ (n : Nat) (x1 : Int32) (x2 : Int32) (x4 : Int32) (x5 : Int32) (S : sT) (H : Heap) (locs : List Loc) (ls : Array Slot), va_P D vwCl (wC h cA S) H → va_S (aK keysC h s.heap.size) s.heap H locs → wl_X4_kinds_56 Q n x1 x2 x4 x5 S → lv_has ls 6 [(0, .ref (h 1000)), (1, .int x1), (2, .int x2), (4, .int x4), (5, .int x5)] → W p l e rm_X4_kinds s m args below meth c H locs 0 0 Z (F0 m 56 ls []) := by
  intro n
  induction n with
  | zero => intro x1 x2 x4 x5 S H locs ls hP hS hd hl; exact (show False from hd).elim
  | succ n ih => intro x1 x2 x4 x5 S H locs ls hP hS hd hl; exact bk_X4_kinds_56 C0 hret (fun x1 x2 x4 x5 S H locs ls hd hP hS hl => ih x1 x2 x4 x5 S H locs ls hP hS hd hl) hP hS hd hl
def wp_X4_kinds (x1 : Int32) (x2 : Int32) (S : sT) (Q : Int32 → sT → Prop) : Prop :=
  wp_X4_isBelow x1 (vI S 26) S (fun r_1 S_1 => ((r_1 = 0 → Q (-1 : Int32) S_1) ∧ (¬ r_1 = 0 → wp_X3_bears 0 x2 S_1 (fun r_2 S_2 => ((¬ r_2 = 0 → wp_X4_refusalOfSeen x2 S_2 (fun r_3 S_3 => ((r_3 = 0 → wp_X0_setOut 0 S_3 (fun S_4 => ∃ n : Nat, wl_X4_kinds_56 Q n x1 x2 (0 : Int32) (0 : Int32) S_4)) ∧ (¬ r_3 = 0 → Q r_3 S_3)))) ∧ (r_2 = 0 → Q (-1 : Int32) S_2))))))
set_option maxHeartbeats 4000000 in
set_option maxRecDepth 100000 in
theorem bk_X4_kinds {p : Program} {l : Launch} {e : Env} {s : State} {m : MethodId} {args : Array Value} {below : List Frame} {meth : Method} {c : Code} {Z : State → Prop} {D : va_G} {cA : Nat → ClassId} {h : Nat → Nat} {Q : Int32 → sT → Prop} (C0 : cx p s m args c cX4_kinds 6 RX4 D cA true keysC h) (hret : rtI p l e rm_X4_kinds s m args below meth c cX4_kinds Z D (wC h cA) (aK keysC h s.heap.size) Q) {x1 : Int32} {x2 : Int32} {S : sT} {H : Heap} {locs : List Loc} {ls : Array Slot} (hP : va_P D vwCl (wC h cA S) H) (hS : va_S (aK keysC h s.heap.size) s.heap H locs) (hd : wp_X4_kinds x1 x2 S Q) (hl : lv_has ls 6 [(0, .ref (h 1000)), (1, .int x1), (2, .int x2)]) : W p l e rm_X4_kinds s m args below meth c H locs 0 0 Z (F0 m 0 ls []) := by
  obtain ⟨⟨hx, hb, hml, hown, hts⟩, hK, -, -⟩ := id C0
  unfold wp_X4_kinds at hd
  refine lv_iload_n hx hb dX4_kinds_0 rfl (lv_at hl 1 rfl) ?_
  refine lv_aload_n hx hb dX4_kinds_1 rfl (lv_at hl 0 rfl) ?_
  refine gf_X4_24 C0 hP dX4_kinds_2 ?_
  refine gf_X4_129_0 C0 hP dX4_kinds_5 ?_
  refine cl_Si (n := 2) (rest := []) C0 hP hS (c_X4_isBelow l C0.2.2.1 _ hd) (lwG_S lm_X4_132 ls_X4_isBelow lz_RX4 lc_X4_isBelow) (by decide +kernel) rfl rfl (Nat.le_of_ble_eq_true rfl) ⟨rfl, rfl⟩ ⟨by decide, by decide⟩ dX4_kinds_8 hl.1 ⟨Nat.zero_le _, Nat.zero_le _⟩ (fun r_1 S_1 H locs hd hP hS => ?_)
  refine lv_if_eq (tgt := 25) hx hb dX4_kinds_11 (by decide) (fun hc => ?_) (fun hc => ?_)
  · have hd := hd.1 hc
    refine lv_iconst (v := (-1)) hx hb dX4_kinds_25 (by decide) ?_
    exact hret _ _ _ _ _ _ hd hP hS dX4_kinds_26
  · have hd := hd.2 hc
    refine lv_aload_n hx hb dX4_kinds_14 rfl (lv_at hl 0 rfl) ?_
    refine gf_X4_14 C0 hP dX4_kinds_15 ?_
    refine lv_iload_n hx hb dX4_kinds_18 rfl (lv_at hl 2 rfl) ?_
    refine cl_VNi (n := 1) (rest := []) C0 hP hS (c_X3_bears l C0.2.2.1 (by decide) _ hd) (lwG_C lc_X3_bears) (by decide +kernel : (RX4, 78, yX3_bears, "DreamTrain") ∈ nestM) lz_RX3 li_X3_bears lx_X3_bears (by decide +kernel) (oS_at h cA _ 0 (by decide)) rfl rfl rfl (Nat.le_of_ble_eq_true rfl) ⟨rfl, rfl⟩ ⟨by decide, by decide⟩ dX4_kinds_19 hl.1 ⟨Nat.zero_le _, Nat.zero_le _⟩ (fun r_2 S_2 H locs hd hP hS => ?_)
    refine lv_if_ne (tgt := 27) hx hb dX4_kinds_22 (by decide) (fun hc => ?_) (fun hc => ?_)
    · have hd := hd.1 hc
      refine lv_aload_n hx hb dX4_kinds_27 rfl (lv_at hl 0 rfl) ?_
      refine lv_iload_n hx hb dX4_kinds_28 rfl (lv_at hl 2 rfl) ?_
      refine cl_Vi (n := 1) (rest := []) C0 hP hS (c_X4_refusalOfSeen l C0.2.2.1 _ hd) (lwG_V lm_X4_248 li_X4_refusalOfSeen lx_X4_refusalOfSeen lz_RX4 lc_X4_refusalOfSeen) (by decide +kernel) (oD_at h cA _) rfl rfl rfl (Nat.le_of_ble_eq_true rfl) ⟨rfl, rfl⟩ ⟨by decide, by decide⟩ dX4_kinds_29 hl.1 ⟨Nat.zero_le _, Nat.zero_le _⟩ (fun r_3 S_3 H locs hd hP hS => ?_)
      refine lv_istore_n (lv' := [(3, .int r_3), (0, .ref (h 1000)), (1, .int x1), (2, .int x2)]) hx hb dX4_kinds_32 rfl hl (by decide) rfl (fun ls hl => ?_)
      refine lv_iload_n hx hb dX4_kinds_33 rfl (lv_at hl 0 rfl) ?_
      refine lv_if_eq (tgt := 39) hx hb dX4_kinds_34 (by decide) (fun hc => ?_) (fun hc => ?_)
      · have hd := hd.1 hc
        refine lv_iconst (v := 0) hx hb dX4_kinds_39 (by decide) ?_
        refine lv_istore (lv' := [(4, .int (0 : Int32)), (3, .int r_3), (0, .ref (h 1000)), (1, .int x1), (2, .int x2)]) hx hb dX4_kinds_40 hl (by decide) rfl (fun ls hl => ?_)
        refine lv_aload_n hx hb dX4_kinds_42 rfl (lv_at hl 2 rfl) ?_
        refine gf_X4_49 C0 hP dX4_kinds_43 ?_
        refine lv_aload_n hx hb dX4_kinds_46 rfl (lv_at hl 2 rfl) ?_
        refine gf_X4_24 C0 hP dX4_kinds_47 ?_
        refine cl_VNv (n := 1) (rest := []) C0 hP hS (c_X0_setOut l C0.2.2.1 (by decide) _ hd) (lwG_C lc_X0_setOut) (by decide +kernel : (RX4, 193, yX0_setOut, "DreamTrain") ∈ nestM) lz_RX0 li_X0_setOut lx_X0_setOut (by decide +kernel) (oJ_at h cA _) rfl rfl rfl (Nat.le_of_ble_eq_true rfl) ⟨rfl, rfl⟩ ⟨by decide, by decide⟩ dX4_kinds_50 hl.1 ⟨Nat.zero_le _, Nat.zero_le _⟩ (fun S_4 H locs hd hP hS => ?_)
        refine lv_iconst (v := 0) hx hb dX4_kinds_53 (by decide) ?_
        refine lv_istore (lv' := [(5, .int (0 : Int32)), (4, .int (0 : Int32)), (3, .int r_3), (0, .ref (h 1000)), (1, .int x1), (2, .int x2)]) hx hb dX4_kinds_54 hl (by decide) rfl (fun ls hl => ?_)
        obtain ⟨n_5, hd⟩ := hd
        exact bl_X4_kinds_56 C0 hret _ _ _ _ _ _ _ _ _ hP hS hd (lv_sub hl [3, 4, 5, 1, 0] rfl)
      · have hd := hd.2 hc
        refine lv_iload_n hx hb dX4_kinds_37 rfl (lv_at hl 0 rfl) ?_
        exact hret _ _ _ _ _ _ hd hP hS dX4_kinds_38
    · have hd := hd.2 hc
      refine lv_iconst (v := (-1)) hx hb dX4_kinds_25 (by decide) ?_
      exact hret _ _ _ _ _ _ hd hP hS dX4_kinds_26
theorem c_X4_kinds (l : Launch) {D : va_G} {cA : Nat → ClassId} {h : Nat → Nat} (hk : ky keysC h) {x1 : Int32} {x2 : Int32} {S : sT} (sz : Nat) {Q : Int32 → sT → Prop} (hd : wp_X4_kinds x1 x2 S Q) : Met l yX4_kinds (wsU yX4_kinds cX4_kinds 6 (some .int)) rm_X4_kinds (va_Pc [.ref (h 1000), .int x1, .int x2] (gP D cA true keysC h (wC h cA) S sz)) (va_Qi Q (wB D (wC h cA)) (aK keysC h sz)) 0 0 (aK keysC h sz) :=
  mk_i (by decide) hk (Nat.le_of_ble_eq_true rfl) (fun p e s m below meth c Z ls C0 hret hP hS hl => bk_X4_kinds C0 hret hP hS hd hl)
