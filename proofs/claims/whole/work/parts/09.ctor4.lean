theorem lc_obj : Cond.code objectInit ⟨#[0xb1]⟩ 1 none ∈ lwG := lwG_at 100 (by decide +kernel) (by decide +kernel)
theorem lm_X0_3 : Cond.methodLink RX0 3 objectInit ∈ lwG := lwG_at 213 (by decide +kernel) (by decide +kernel)
theorem li_obj : Cond.instanceMethod objectInit ∈ lwG := lwG_at 99 (by decide +kernel) (by decide +kernel)
theorem lm_X1_3 : Cond.methodLink RX1 3 objectInit ∈ lwG := lwG_at 127 (by decide +kernel) (by decide +kernel)
theorem lm_X2_3 : Cond.methodLink RX2 3 objectInit ∈ lwG := lwG_at 193 (by decide +kernel) (by decide +kernel)
theorem lm_X3_3 : Cond.methodLink RX3 3 objectInit ∈ lwG := lwG_at 106 (by decide +kernel) (by decide +kernel)
theorem lcl_X3_9 : Cond.classLink RX3 9 ("[" ++ (FieldType.array .int).toString) ∈ lwG := lwG_at 107 (by decide +kernel) (by decide +kernel)
theorem lm_X4_3 : Cond.methodLink RX4 3 objectInit ∈ lwG := lwG_at 98 (by decide +kernel) (by decide +kernel)
theorem lcl_X4_9 : Cond.classLink RX4 9 RX3 ∈ lwG := lwG_at 101 (by decide +kernel) (by decide +kernel)
theorem lin_RX3 : Cond.instantiable RX3 2 ∈ lwG := lwG_at 102 (by decide +kernel) (by decide +kernel)
theorem lc_X3_init : Cond.code yX3_init cX3_init 3 none ∈ lwG := lwG_at 105 (by decide +kernel) (by decide +kernel)
theorem li_X3_init : Cond.instanceMethod yX3_init ∈ lwG := lwG_at 104 (by decide +kernel) (by decide +kernel)
theorem lcl_X4_21 : Cond.classLink RX4 21 RX1 ∈ lwG := lwG_at 122 (by decide +kernel) (by decide +kernel)
theorem lin_RX1 : Cond.instantiable RX1 13 ∈ lwG := lwG_at 123 (by decide +kernel) (by decide +kernel)
theorem lc_X1_init : Cond.code yX1_init cX1_init 1 none ∈ lwG := lwG_at 126 (by decide +kernel) (by decide +kernel)
theorem li_X1_init : Cond.instanceMethod yX1_init ∈ lwG := lwG_at 125 (by decide +kernel) (by decide +kernel)
theorem lcl_X4_39 : Cond.classLink RX4 39 RX2 ∈ lwG := lwG_at 188 (by decide +kernel) (by decide +kernel)
theorem lin_RX2 : Cond.instantiable RX2 4 ∈ lwG := lwG_at 189 (by decide +kernel) (by decide +kernel)
theorem lc_X2_init : Cond.code yX2_init cX2_init 1 none ∈ lwG := lwG_at 192 (by decide +kernel) (by decide +kernel)
theorem li_X2_init : Cond.instanceMethod yX2_init ∈ lwG := lwG_at 191 (by decide +kernel) (by decide +kernel)
theorem lcl_X4_46 : Cond.classLink RX4 46 RX0 ∈ lwG := lwG_at 208 (by decide +kernel) (by decide +kernel)
theorem lin_RX0 : Cond.instantiable RX0 7 ∈ lwG := lwG_at 209 (by decide +kernel) (by decide +kernel)
theorem lc_X0_init : Cond.code yX0_init cX0_init 1 none ∈ lwG := lwG_at 212 (by decide +kernel) (by decide +kernel)
theorem li_X0_init : Cond.instanceMethod yX0_init ∈ lwG := lwG_at 211 (by decide +kernel) (by decide +kernel)
theorem lcl_X4_53 : Cond.classLink RX4 53 ("[" ++ (FieldType.array .long).toString) ∈ lwG := lwG_at 240 (by decide +kernel) (by decide +kernel)
theorem lcl_X4_58 : Cond.classLink RX4 58 ("[" ++ (FieldType.array .int).toString) ∈ lwG := lwG_at 242 (by decide +kernel) (by decide +kernel)
theorem lm_X5_1 : Cond.methodLink RX5 1 objectInit ∈ lwG := lwG_at 731 (by decide +kernel) (by decide +kernel)
def w_X0_init (h0 : Nat) (cA : Nat → ClassId) (u : Nat → Nat) : va_W := [(h0, .inr (0, [.ref (u 0), .ref (u 1), .ref (u 2), .ref (u 3), .int 0, .int 0, .int 0])), ((u 0), .inl (cA 1, 6, .inr (.inl (fun _ => 0)))), ((u 1), .inl (cA 0, 6, .inl (fun _ => 0))), ((u 2), .inl (cA 1, 21, .inr (.inl (fun _ => 0)))), ((u 3), .inl (cA 0, 61, .inl (fun _ => 0)))]
abbrev rm_X0_init : Room := { frames := 1, cells := 4, slots := 94, locals := 12 }
set_option maxHeartbeats 4000000 in
set_option maxRecDepth 100000 in
theorem c_X0_init (l : Launch) (D : va_G) (cA : Nat → ClassId) (h0 sz : Nat) : Met l yX0_init (wsU yX0_init cX0_init 1 none) rm_X0_init (va_Pc [.ref h0] (pM D cA [(h0, .inr (0, [.null, .null, .null, .null, .int 0, .int 0, .int 0]))] sz)) (va_Qv (fun _ : Nat → Nat => True) (fun u t => va_P D vwCl (w_X0_init h0 cA u) t.heap ∧ va_D (va_A [(h0, .inr (0, [.null, .null, .null, .null, .int 0, .int 0, .int 0]))] sz) (w_X0_init h0 cA u)) (va_A [(h0, .inr (0, [.null, .null, .null, .null, .int 0, .int 0, .int 0]))] sz)) 4 94 (va_A [(h0, .inr (0, [.null, .null, .null, .null, .int 0, .int 0, .int 0]))] sz) := by
  refine mk_c (S := Nat → Nat) (B := fun A u H => va_P D vwCl (w_X0_init h0 cA u) H ∧ va_D A (w_X0_init h0 cA u)) (by decide) (Nat.le_of_ble_eq_true rfl) (fun p e s m below meth c Z ls C hin hK hP hD hA hS hret hl => ?_)
  obtain ⟨hx, hb, hml, hown, hts⟩ := id C
  generalize va_A [(h0, .inr (0, [.null, .null, .null, .null, .int 0, .int 0, .int 0]))] s.heap.size = A at hD hA hS hret ⊢
  have hP : va_P D vwCl [(h0, .inr (0, [.null, .null, .null, .null, .int 0, .int 0, .int 0]))] s.heap := hP
  have hl : lv_has ls 1 [(0, .ref h0)] := hl
  refine lv_aload_n hx hb dX0_init_0 rfl (lv_at hl 0 rfl) ?_
  refine W.objInit hx hb hown (hts _ lm_X0_3) (hts _ li_obj) (hts _ lc_obj) rfl (by rw [hml]; exact hl.1) rfl dX0_init_1 (by decide) (Nat.le_of_ble_eq_true rfl) ?_
  refine W.eq (g2 := F0 m 4 ls []) rfl ?_
  refine lv_aload_n hx hb dX0_init_4 rfl (lv_at hl 0 rfl) ?_
  refine lv_bipush (v := 6) hx hb dX0_init_5 (by decide) ?_
  refine na_J C hK.1 hP hD hS hA 6 (by decide) (by decide) (by decide) (by decide) (by decide) dX0_init_7 (fun q1 H hP hD hS => ?_)
  have hP : va_P D vwCl [(h0, .inr (0, [.null, .null, .null, .null, .int 0, .int 0, .int 0])), (q1, .inl (cA 1, 6, .inr (.inl (fun _ => 0))))] H := hP
  have hD : va_D A [(h0, .inr (0, [.null, .null, .null, .null, .int 0, .int 0, .int 0])), (q1, .inl (cA 1, 6, .inr (.inl (fun _ => 0))))] := hD
  refine va_putF (D := D) (ci := 0) (v := .ref q1) (ty := .array .long) (C := RX0) (T := TX0) (N := 7) hx hb hts ginX0 tyX0 tyX0_ok nmX0 hown hK.1.1 hP hD hS 0 rfl rfl 0 (by decide) (hts _ lf_X0_9) (fun _ h9 => h9) rfl hin rfl (by decide +kernel) rfl rfl (Nat.le_of_ble_eq_true rfl) dX0_init_9 (fun H locs hP hD hS => ?_)
  have hP : va_P D vwCl [(h0, .inr (0, [.ref q1, .null, .null, .null, .int 0, .int 0, .int 0])), (q1, .inl (cA 1, 6, .inr (.inl (fun _ => 0))))] H := hP
  have hD : va_D A [(h0, .inr (0, [.ref q1, .null, .null, .null, .int 0, .int 0, .int 0])), (q1, .inl (cA 1, 6, .inr (.inl (fun _ => 0))))] := hD
  refine lv_aload_n hx hb dX0_init_12 rfl (lv_at hl 0 rfl) ?_
  refine lv_bipush (v := 6) hx hb dX0_init_13 (by decide) ?_
  refine na_I C hK.1 hP hD hS hA 6 (by decide) (by decide) (by decide) (by decide) (by decide) dX0_init_15 (fun q2 H hP hD hS => ?_)
  have hP : va_P D vwCl [(h0, .inr (0, [.ref q1, .null, .null, .null, .int 0, .int 0, .int 0])), (q1, .inl (cA 1, 6, .inr (.inl (fun _ => 0)))), (q2, .inl (cA 0, 6, .inl (fun _ => 0)))] H := hP
  have hD : va_D A [(h0, .inr (0, [.ref q1, .null, .null, .null, .int 0, .int 0, .int 0])), (q1, .inl (cA 1, 6, .inr (.inl (fun _ => 0)))), (q2, .inl (cA 0, 6, .inl (fun _ => 0)))] := hD
  refine va_putF (D := D) (ci := 0) (v := .ref q2) (ty := .array .int) (C := RX0) (T := TX0) (N := 7) hx hb hts ginX0 tyX0 tyX0_ok nmX0 hown hK.1.1 hP hD hS 0 rfl rfl 1 (by decide) (hts _ lf_X0_15) (fun _ h9 => h9) rfl hin rfl (by decide +kernel) rfl rfl (Nat.le_of_ble_eq_true rfl) dX0_init_17 (fun H locs hP hD hS => ?_)
  have hP : va_P D vwCl [(h0, .inr (0, [.ref q1, .ref q2, .null, .null, .int 0, .int 0, .int 0])), (q1, .inl (cA 1, 6, .inr (.inl (fun _ => 0)))), (q2, .inl (cA 0, 6, .inl (fun _ => 0)))] H := hP
  have hD : va_D A [(h0, .inr (0, [.ref q1, .ref q2, .null, .null, .int 0, .int 0, .int 0])), (q1, .inl (cA 1, 6, .inr (.inl (fun _ => 0)))), (q2, .inl (cA 0, 6, .inl (fun _ => 0)))] := hD
  refine lv_aload_n hx hb dX0_init_20 rfl (lv_at hl 0 rfl) ?_
  refine lv_bipush (v := 21) hx hb dX0_init_21 (by decide) ?_
  refine na_J C hK.1 hP hD hS hA 21 (by decide) (by decide) (by decide) (by decide) (by decide) dX0_init_23 (fun q3 H hP hD hS => ?_)
  have hP : va_P D vwCl [(h0, .inr (0, [.ref q1, .ref q2, .null, .null, .int 0, .int 0, .int 0])), (q1, .inl (cA 1, 6, .inr (.inl (fun _ => 0)))), (q2, .inl (cA 0, 6, .inl (fun _ => 0))), (q3, .inl (cA 1, 21, .inr (.inl (fun _ => 0))))] H := hP
  have hD : va_D A [(h0, .inr (0, [.ref q1, .ref q2, .null, .null, .int 0, .int 0, .int 0])), (q1, .inl (cA 1, 6, .inr (.inl (fun _ => 0)))), (q2, .inl (cA 0, 6, .inl (fun _ => 0))), (q3, .inl (cA 1, 21, .inr (.inl (fun _ => 0))))] := hD
  refine va_putF (D := D) (ci := 0) (v := .ref q3) (ty := .array .long) (C := RX0) (T := TX0) (N := 7) hx hb hts ginX0 tyX0 tyX0_ok nmX0 hown hK.1.1 hP hD hS 0 rfl rfl 2 (by decide) (hts _ lf_X0_19) (fun _ h9 => h9) rfl hin rfl (by decide +kernel) rfl rfl (Nat.le_of_ble_eq_true rfl) dX0_init_25 (fun H locs hP hD hS => ?_)
  have hP : va_P D vwCl [(h0, .inr (0, [.ref q1, .ref q2, .ref q3, .null, .int 0, .int 0, .int 0])), (q1, .inl (cA 1, 6, .inr (.inl (fun _ => 0)))), (q2, .inl (cA 0, 6, .inl (fun _ => 0))), (q3, .inl (cA 1, 21, .inr (.inl (fun _ => 0))))] H := hP
  have hD : va_D A [(h0, .inr (0, [.ref q1, .ref q2, .ref q3, .null, .int 0, .int 0, .int 0])), (q1, .inl (cA 1, 6, .inr (.inl (fun _ => 0)))), (q2, .inl (cA 0, 6, .inl (fun _ => 0))), (q3, .inl (cA 1, 21, .inr (.inl (fun _ => 0))))] := hD
  refine lv_aload_n hx hb dX0_init_28 rfl (lv_at hl 0 rfl) ?_
  refine lv_bipush (v := 61) hx hb dX0_init_29 (by decide) ?_
  refine na_I C hK.1 hP hD hS hA 61 (by decide) (by decide) (by decide) (by decide) (by decide) dX0_init_31 (fun q4 H hP hD hS => ?_)
  have hP : va_P D vwCl [(h0, .inr (0, [.ref q1, .ref q2, .ref q3, .null, .int 0, .int 0, .int 0])), (q1, .inl (cA 1, 6, .inr (.inl (fun _ => 0)))), (q2, .inl (cA 0, 6, .inl (fun _ => 0))), (q3, .inl (cA 1, 21, .inr (.inl (fun _ => 0)))), (q4, .inl (cA 0, 61, .inl (fun _ => 0)))] H := hP
  have hD : va_D A [(h0, .inr (0, [.ref q1, .ref q2, .ref q3, .null, .int 0, .int 0, .int 0])), (q1, .inl (cA 1, 6, .inr (.inl (fun _ => 0)))), (q2, .inl (cA 0, 6, .inl (fun _ => 0))), (q3, .inl (cA 1, 21, .inr (.inl (fun _ => 0)))), (q4, .inl (cA 0, 61, .inl (fun _ => 0)))] := hD
  refine va_putF (D := D) (ci := 0) (v := .ref q4) (ty := .array .int) (C := RX0) (T := TX0) (N := 7) hx hb hts ginX0 tyX0 tyX0_ok nmX0 hown hK.1.1 hP hD hS 0 rfl rfl 3 (by decide) (hts _ lf_X0_22) (fun _ h9 => h9) rfl hin rfl (by decide +kernel) rfl rfl (Nat.le_of_ble_eq_true rfl) dX0_init_33 (fun H locs hP hD hS => ?_)
  have hP : va_P D vwCl [(h0, .inr (0, [.ref q1, .ref q2, .ref q3, .ref q4, .int 0, .int 0, .int 0])), (q1, .inl (cA 1, 6, .inr (.inl (fun _ => 0)))), (q2, .inl (cA 0, 6, .inl (fun _ => 0))), (q3, .inl (cA 1, 21, .inr (.inl (fun _ => 0)))), (q4, .inl (cA 0, 61, .inl (fun _ => 0)))] H := hP
  have hD : va_D A [(h0, .inr (0, [.ref q1, .ref q2, .ref q3, .ref q4, .int 0, .int 0, .int 0])), (q1, .inl (cA 1, 6, .inr (.inl (fun _ => 0)))), (q2, .inl (cA 0, 6, .inl (fun _ => 0))), (q3, .inl (cA 1, 21, .inr (.inl (fun _ => 0)))), (q4, .inl (cA 0, 61, .inl (fun _ => 0)))] := hD
  exact hret (fun k => [q1, q2, q3, q4].getD k 0) H _ ls 36 ⟨hP, hD⟩ hS dX0_init_36
def w_X1_init (h0 : Nat) (cA : Nat → ClassId) (u : Nat → Nat) : va_W := [(h0, .inr (1, [.ref (u 0), .ref (u 1), .ref (u 2), .ref (u 3), .ref (u 4), .ref (u 5), .int 0, .int 0, .int 0, .int 0, .int 0, .int 0, .int 0])), ((u 0), .inl (cA 0, 6, .inl (fun _ => 0))), ((u 1), .inl (cA 0, 6, .inl (fun _ => 0))), ((u 2), .inl (cA 0, 6, .inl (fun _ => 0))), ((u 3), .inl (cA 0, 40, .inl (fun _ => 0))), ((u 4), .inl (cA 0, 40, .inl (fun _ => 0))), ((u 5), .inl (cA 0, 40, .inl (fun _ => 0)))]
abbrev rm_X1_init : Room := { frames := 1, cells := 6, slots := 138, locals := 12 }
set_option maxHeartbeats 4000000 in
set_option maxRecDepth 100000 in
theorem c_X1_init (l : Launch) (D : va_G) (cA : Nat → ClassId) (h0 sz : Nat) : Met l yX1_init (wsU yX1_init cX1_init 1 none) rm_X1_init (va_Pc [.ref h0] (pM D cA [(h0, .inr (1, [.null, .null, .null, .null, .null, .null, .int 0, .int 0, .int 0, .int 0, .int 0, .int 0, .int 0]))] sz)) (va_Qv (fun _ : Nat → Nat => True) (fun u t => va_P D vwCl (w_X1_init h0 cA u) t.heap ∧ va_D (va_A [(h0, .inr (1, [.null, .null, .null, .null, .null, .null, .int 0, .int 0, .int 0, .int 0, .int 0, .int 0, .int 0]))] sz) (w_X1_init h0 cA u)) (va_A [(h0, .inr (1, [.null, .null, .null, .null, .null, .null, .int 0, .int 0, .int 0, .int 0, .int 0, .int 0, .int 0]))] sz)) 6 138 (va_A [(h0, .inr (1, [.null, .null, .null, .null, .null, .null, .int 0, .int 0, .int 0, .int 0, .int 0, .int 0, .int 0]))] sz) := by
  refine mk_c (S := Nat → Nat) (B := fun A u H => va_P D vwCl (w_X1_init h0 cA u) H ∧ va_D A (w_X1_init h0 cA u)) (by decide) (Nat.le_of_ble_eq_true rfl) (fun p e s m below meth c Z ls C hin hK hP hD hA hS hret hl => ?_)
  obtain ⟨hx, hb, hml, hown, hts⟩ := id C
  generalize va_A [(h0, .inr (1, [.null, .null, .null, .null, .null, .null, .int 0, .int 0, .int 0, .int 0, .int 0, .int 0, .int 0]))] s.heap.size = A at hD hA hS hret ⊢
  have hP : va_P D vwCl [(h0, .inr (1, [.null, .null, .null, .null, .null, .null, .int 0, .int 0, .int 0, .int 0, .int 0, .int 0, .int 0]))] s.heap := hP
  have hl : lv_has ls 1 [(0, .ref h0)] := hl
  refine lv_aload_n hx hb dX1_init_0 rfl (lv_at hl 0 rfl) ?_
  refine W.objInit hx hb hown (hts _ lm_X1_3) (hts _ li_obj) (hts _ lc_obj) rfl (by rw [hml]; exact hl.1) rfl dX1_init_1 (by decide) (Nat.le_of_ble_eq_true rfl) ?_
  refine W.eq (g2 := F0 m 4 ls []) rfl ?_
  refine lv_aload_n hx hb dX1_init_4 rfl (lv_at hl 0 rfl) ?_
  refine lv_bipush (v := 6) hx hb dX1_init_5 (by decide) ?_
  refine na_I C hK.1 hP hD hS hA 6 (by decide) (by decide) (by decide) (by decide) (by decide) dX1_init_7 (fun q1 H hP hD hS => ?_)
  have hP : va_P D vwCl [(h0, .inr (1, [.null, .null, .null, .null, .null, .null, .int 0, .int 0, .int 0, .int 0, .int 0, .int 0, .int 0])), (q1, .inl (cA 0, 6, .inl (fun _ => 0)))] H := hP
  have hD : va_D A [(h0, .inr (1, [.null, .null, .null, .null, .null, .null, .int 0, .int 0, .int 0, .int 0, .int 0, .int 0, .int 0])), (q1, .inl (cA 0, 6, .inl (fun _ => 0)))] := hD
  refine va_putF (D := D) (ci := 1) (v := .ref q1) (ty := .array .int) (C := RX1) (T := TX1) (N := 13) hx hb hts ginX1 tyX1 tyX1_ok nmX1 hown hK.1.1 hP hD hS 0 rfl rfl 0 (by decide) (hts _ lf_X1_9) (fun _ h9 => h9) rfl hin rfl (by decide +kernel) rfl rfl (Nat.le_of_ble_eq_true rfl) dX1_init_9 (fun H locs hP hD hS => ?_)
  have hP : va_P D vwCl [(h0, .inr (1, [.ref q1, .null, .null, .null, .null, .null, .int 0, .int 0, .int 0, .int 0, .int 0, .int 0, .int 0])), (q1, .inl (cA 0, 6, .inl (fun _ => 0)))] H := hP
  have hD : va_D A [(h0, .inr (1, [.ref q1, .null, .null, .null, .null, .null, .int 0, .int 0, .int 0, .int 0, .int 0, .int 0, .int 0])), (q1, .inl (cA 0, 6, .inl (fun _ => 0)))] := hD
  refine lv_aload_n hx hb dX1_init_12 rfl (lv_at hl 0 rfl) ?_
  refine lv_bipush (v := 6) hx hb dX1_init_13 (by decide) ?_
  refine na_I C hK.1 hP hD hS hA 6 (by decide) (by decide) (by decide) (by decide) (by decide) dX1_init_15 (fun q2 H hP hD hS => ?_)
  have hP : va_P D vwCl [(h0, .inr (1, [.ref q1, .null, .null, .null, .null, .null, .int 0, .int 0, .int 0, .int 0, .int 0, .int 0, .int 0])), (q1, .inl (cA 0, 6, .inl (fun _ => 0))), (q2, .inl (cA 0, 6, .inl (fun _ => 0)))] H := hP
  have hD : va_D A [(h0, .inr (1, [.ref q1, .null, .null, .null, .null, .null, .int 0, .int 0, .int 0, .int 0, .int 0, .int 0, .int 0])), (q1, .inl (cA 0, 6, .inl (fun _ => 0))), (q2, .inl (cA 0, 6, .inl (fun _ => 0)))] := hD
  refine va_putF (D := D) (ci := 1) (v := .ref q2) (ty := .array .int) (C := RX1) (T := TX1) (N := 13) hx hb hts ginX1 tyX1 tyX1_ok nmX1 hown hK.1.1 hP hD hS 0 rfl rfl 1 (by decide) (hts _ lf_X1_15) (fun _ h9 => h9) rfl hin rfl (by decide +kernel) rfl rfl (Nat.le_of_ble_eq_true rfl) dX1_init_17 (fun H locs hP hD hS => ?_)
  have hP : va_P D vwCl [(h0, .inr (1, [.ref q1, .ref q2, .null, .null, .null, .null, .int 0, .int 0, .int 0, .int 0, .int 0, .int 0, .int 0])), (q1, .inl (cA 0, 6, .inl (fun _ => 0))), (q2, .inl (cA 0, 6, .inl (fun _ => 0)))] H := hP
  have hD : va_D A [(h0, .inr (1, [.ref q1, .ref q2, .null, .null, .null, .null, .int 0, .int 0, .int 0, .int 0, .int 0, .int 0, .int 0])), (q1, .inl (cA 0, 6, .inl (fun _ => 0))), (q2, .inl (cA 0, 6, .inl (fun _ => 0)))] := hD
  refine lv_aload_n hx hb dX1_init_20 rfl (lv_at hl 0 rfl) ?_
  refine lv_bipush (v := 6) hx hb dX1_init_21 (by decide) ?_
  refine na_I C hK.1 hP hD hS hA 6 (by decide) (by decide) (by decide) (by decide) (by decide) dX1_init_23 (fun q3 H hP hD hS => ?_)
  have hP : va_P D vwCl [(h0, .inr (1, [.ref q1, .ref q2, .null, .null, .null, .null, .int 0, .int 0, .int 0, .int 0, .int 0, .int 0, .int 0])), (q1, .inl (cA 0, 6, .inl (fun _ => 0))), (q2, .inl (cA 0, 6, .inl (fun _ => 0))), (q3, .inl (cA 0, 6, .inl (fun _ => 0)))] H := hP
  have hD : va_D A [(h0, .inr (1, [.ref q1, .ref q2, .null, .null, .null, .null, .int 0, .int 0, .int 0, .int 0, .int 0, .int 0, .int 0])), (q1, .inl (cA 0, 6, .inl (fun _ => 0))), (q2, .inl (cA 0, 6, .inl (fun _ => 0))), (q3, .inl (cA 0, 6, .inl (fun _ => 0)))] := hD
  refine va_putF (D := D) (ci := 1) (v := .ref q3) (ty := .array .int) (C := RX1) (T := TX1) (N := 13) hx hb hts ginX1 tyX1 tyX1_ok nmX1 hown hK.1.1 hP hD hS 0 rfl rfl 2 (by decide) (hts _ lf_X1_18) (fun _ h9 => h9) rfl hin rfl (by decide +kernel) rfl rfl (Nat.le_of_ble_eq_true rfl) dX1_init_25 (fun H locs hP hD hS => ?_)
  have hP : va_P D vwCl [(h0, .inr (1, [.ref q1, .ref q2, .ref q3, .null, .null, .null, .int 0, .int 0, .int 0, .int 0, .int 0, .int 0, .int 0])), (q1, .inl (cA 0, 6, .inl (fun _ => 0))), (q2, .inl (cA 0, 6, .inl (fun _ => 0))), (q3, .inl (cA 0, 6, .inl (fun _ => 0)))] H := hP
  have hD : va_D A [(h0, .inr (1, [.ref q1, .ref q2, .ref q3, .null, .null, .null, .int 0, .int 0, .int 0, .int 0, .int 0, .int 0, .int 0])), (q1, .inl (cA 0, 6, .inl (fun _ => 0))), (q2, .inl (cA 0, 6, .inl (fun _ => 0))), (q3, .inl (cA 0, 6, .inl (fun _ => 0)))] := hD
  refine lv_aload_n hx hb dX1_init_28 rfl (lv_at hl 0 rfl) ?_
  refine lv_bipush (v := 40) hx hb dX1_init_29 (by decide) ?_
  refine na_I C hK.1 hP hD hS hA 40 (by decide) (by decide) (by decide) (by decide) (by decide) dX1_init_31 (fun q4 H hP hD hS => ?_)
  have hP : va_P D vwCl [(h0, .inr (1, [.ref q1, .ref q2, .ref q3, .null, .null, .null, .int 0, .int 0, .int 0, .int 0, .int 0, .int 0, .int 0])), (q1, .inl (cA 0, 6, .inl (fun _ => 0))), (q2, .inl (cA 0, 6, .inl (fun _ => 0))), (q3, .inl (cA 0, 6, .inl (fun _ => 0))), (q4, .inl (cA 0, 40, .inl (fun _ => 0)))] H := hP
  have hD : va_D A [(h0, .inr (1, [.ref q1, .ref q2, .ref q3, .null, .null, .null, .int 0, .int 0, .int 0, .int 0, .int 0, .int 0, .int 0])), (q1, .inl (cA 0, 6, .inl (fun _ => 0))), (q2, .inl (cA 0, 6, .inl (fun _ => 0))), (q3, .inl (cA 0, 6, .inl (fun _ => 0))), (q4, .inl (cA 0, 40, .inl (fun _ => 0)))] := hD
  refine va_putF (D := D) (ci := 1) (v := .ref q4) (ty := .array .int) (C := RX1) (T := TX1) (N := 13) hx hb hts ginX1 tyX1 tyX1_ok nmX1 hown hK.1.1 hP hD hS 0 rfl rfl 3 (by decide) (hts _ lf_X1_21) (fun _ h9 => h9) rfl hin rfl (by decide +kernel) rfl rfl (Nat.le_of_ble_eq_true rfl) dX1_init_33 (fun H locs hP hD hS => ?_)
  have hP : va_P D vwCl [(h0, .inr (1, [.ref q1, .ref q2, .ref q3, .ref q4, .null, .null, .int 0, .int 0, .int 0, .int 0, .int 0, .int 0, .int 0])), (q1, .inl (cA 0, 6, .inl (fun _ => 0))), (q2, .inl (cA 0, 6, .inl (fun _ => 0))), (q3, .inl (cA 0, 6, .inl (fun _ => 0))), (q4, .inl (cA 0, 40, .inl (fun _ => 0)))] H := hP
  have hD : va_D A [(h0, .inr (1, [.ref q1, .ref q2, .ref q3, .ref q4, .null, .null, .int 0, .int 0, .int 0, .int 0, .int 0, .int 0, .int 0])), (q1, .inl (cA 0, 6, .inl (fun _ => 0))), (q2, .inl (cA 0, 6, .inl (fun _ => 0))), (q3, .inl (cA 0, 6, .inl (fun _ => 0))), (q4, .inl (cA 0, 40, .inl (fun _ => 0)))] := hD
  refine lv_aload_n hx hb dX1_init_36 rfl (lv_at hl 0 rfl) ?_
  refine lv_bipush (v := 40) hx hb dX1_init_37 (by decide) ?_
  refine na_I C hK.1 hP hD hS hA 40 (by decide) (by decide) (by decide) (by decide) (by decide) dX1_init_39 (fun q5 H hP hD hS => ?_)
  have hP : va_P D vwCl [(h0, .inr (1, [.ref q1, .ref q2, .ref q3, .ref q4, .null, .null, .int 0, .int 0, .int 0, .int 0, .int 0, .int 0, .int 0])), (q1, .inl (cA 0, 6, .inl (fun _ => 0))), (q2, .inl (cA 0, 6, .inl (fun _ => 0))), (q3, .inl (cA 0, 6, .inl (fun _ => 0))), (q4, .inl (cA 0, 40, .inl (fun _ => 0))), (q5, .inl (cA 0, 40, .inl (fun _ => 0)))] H := hP
  have hD : va_D A [(h0, .inr (1, [.ref q1, .ref q2, .ref q3, .ref q4, .null, .null, .int 0, .int 0, .int 0, .int 0, .int 0, .int 0, .int 0])), (q1, .inl (cA 0, 6, .inl (fun _ => 0))), (q2, .inl (cA 0, 6, .inl (fun _ => 0))), (q3, .inl (cA 0, 6, .inl (fun _ => 0))), (q4, .inl (cA 0, 40, .inl (fun _ => 0))), (q5, .inl (cA 0, 40, .inl (fun _ => 0)))] := hD
  refine va_putF (D := D) (ci := 1) (v := .ref q5) (ty := .array .int) (C := RX1) (T := TX1) (N := 13) hx hb hts ginX1 tyX1 tyX1_ok nmX1 hown hK.1.1 hP hD hS 0 rfl rfl 4 (by decide) (hts _ lf_X1_24) (fun _ h9 => h9) rfl hin rfl (by decide +kernel) rfl rfl (Nat.le_of_ble_eq_true rfl) dX1_init_41 (fun H locs hP hD hS => ?_)
  have hP : va_P D vwCl [(h0, .inr (1, [.ref q1, .ref q2, .ref q3, .ref q4, .ref q5, .null, .int 0, .int 0, .int 0, .int 0, .int 0, .int 0, .int 0])), (q1, .inl (cA 0, 6, .inl (fun _ => 0))), (q2, .inl (cA 0, 6, .inl (fun _ => 0))), (q3, .inl (cA 0, 6, .inl (fun _ => 0))), (q4, .inl (cA 0, 40, .inl (fun _ => 0))), (q5, .inl (cA 0, 40, .inl (fun _ => 0)))] H := hP
  have hD : va_D A [(h0, .inr (1, [.ref q1, .ref q2, .ref q3, .ref q4, .ref q5, .null, .int 0, .int 0, .int 0, .int 0, .int 0, .int 0, .int 0])), (q1, .inl (cA 0, 6, .inl (fun _ => 0))), (q2, .inl (cA 0, 6, .inl (fun _ => 0))), (q3, .inl (cA 0, 6, .inl (fun _ => 0))), (q4, .inl (cA 0, 40, .inl (fun _ => 0))), (q5, .inl (cA 0, 40, .inl (fun _ => 0)))] := hD
  refine lv_aload_n hx hb dX1_init_44 rfl (lv_at hl 0 rfl) ?_
  refine lv_bipush (v := 40) hx hb dX1_init_45 (by decide) ?_
  refine na_I C hK.1 hP hD hS hA 40 (by decide) (by decide) (by decide) (by decide) (by decide) dX1_init_47 (fun q6 H hP hD hS => ?_)
  have hP : va_P D vwCl [(h0, .inr (1, [.ref q1, .ref q2, .ref q3, .ref q4, .ref q5, .null, .int 0, .int 0, .int 0, .int 0, .int 0, .int 0, .int 0])), (q1, .inl (cA 0, 6, .inl (fun _ => 0))), (q2, .inl (cA 0, 6, .inl (fun _ => 0))), (q3, .inl (cA 0, 6, .inl (fun _ => 0))), (q4, .inl (cA 0, 40, .inl (fun _ => 0))), (q5, .inl (cA 0, 40, .inl (fun _ => 0))), (q6, .inl (cA 0, 40, .inl (fun _ => 0)))] H := hP
  have hD : va_D A [(h0, .inr (1, [.ref q1, .ref q2, .ref q3, .ref q4, .ref q5, .null, .int 0, .int 0, .int 0, .int 0, .int 0, .int 0, .int 0])), (q1, .inl (cA 0, 6, .inl (fun _ => 0))), (q2, .inl (cA 0, 6, .inl (fun _ => 0))), (q3, .inl (cA 0, 6, .inl (fun _ => 0))), (q4, .inl (cA 0, 40, .inl (fun _ => 0))), (q5, .inl (cA 0, 40, .inl (fun _ => 0))), (q6, .inl (cA 0, 40, .inl (fun _ => 0)))] := hD
  refine va_putF (D := D) (ci := 1) (v := .ref q6) (ty := .array .int) (C := RX1) (T := TX1) (N := 13) hx hb hts ginX1 tyX1 tyX1_ok nmX1 hown hK.1.1 hP hD hS 0 rfl rfl 5 (by decide) (hts _ lf_X1_27) (fun _ h9 => h9) rfl hin rfl (by decide +kernel) rfl rfl (Nat.le_of_ble_eq_true rfl) dX1_init_49 (fun H locs hP hD hS => ?_)
  have hP : va_P D vwCl [(h0, .inr (1, [.ref q1, .ref q2, .ref q3, .ref q4, .ref q5, .ref q6, .int 0, .int 0, .int 0, .int 0, .int 0, .int 0, .int 0])), (q1, .inl (cA 0, 6, .inl (fun _ => 0))), (q2, .inl (cA 0, 6, .inl (fun _ => 0))), (q3, .inl (cA 0, 6, .inl (fun _ => 0))), (q4, .inl (cA 0, 40, .inl (fun _ => 0))), (q5, .inl (cA 0, 40, .inl (fun _ => 0))), (q6, .inl (cA 0, 40, .inl (fun _ => 0)))] H := hP
  have hD : va_D A [(h0, .inr (1, [.ref q1, .ref q2, .ref q3, .ref q4, .ref q5, .ref q6, .int 0, .int 0, .int 0, .int 0, .int 0, .int 0, .int 0])), (q1, .inl (cA 0, 6, .inl (fun _ => 0))), (q2, .inl (cA 0, 6, .inl (fun _ => 0))), (q3, .inl (cA 0, 6, .inl (fun _ => 0))), (q4, .inl (cA 0, 40, .inl (fun _ => 0))), (q5, .inl (cA 0, 40, .inl (fun _ => 0))), (q6, .inl (cA 0, 40, .inl (fun _ => 0)))] := hD
  exact hret (fun k => [q1, q2, q3, q4, q5, q6].getD k 0) H _ ls 52 ⟨hP, hD⟩ hS dX1_init_52
def w_X2_init (h0 : Nat) (cA : Nat → ClassId) (u : Nat → Nat) : va_W := [(h0, .inr (2, [.ref (u 0), .int 0, .int 0, .int 0])), ((u 0), .inl (cA 0, 0, .inl (fun _ => 0)))]
abbrev rm_X2_init : Room := { frames := 1, cells := 1, slots := 0, locals := 12 }
set_option maxHeartbeats 4000000 in
set_option maxRecDepth 100000 in
theorem c_X2_init (l : Launch) (D : va_G) (cA : Nat → ClassId) (h0 sz : Nat) : Met l yX2_init (wsU yX2_init cX2_init 1 none) rm_X2_init (va_Pc [.ref h0] (pM D cA [(h0, .inr (2, [.null, .int 0, .int 0, .int 0]))] sz)) (va_Qv (fun _ : Nat → Nat => True) (fun u t => va_P D vwCl (w_X2_init h0 cA u) t.heap ∧ va_D (va_A [(h0, .inr (2, [.null, .int 0, .int 0, .int 0]))] sz) (w_X2_init h0 cA u)) (va_A [(h0, .inr (2, [.null, .int 0, .int 0, .int 0]))] sz)) 1 0 (va_A [(h0, .inr (2, [.null, .int 0, .int 0, .int 0]))] sz) := by
  refine mk_c (S := Nat → Nat) (B := fun A u H => va_P D vwCl (w_X2_init h0 cA u) H ∧ va_D A (w_X2_init h0 cA u)) (by decide) (Nat.le_of_ble_eq_true rfl) (fun p e s m below meth c Z ls C hin hK hP hD hA hS hret hl => ?_)
  obtain ⟨hx, hb, hml, hown, hts⟩ := id C
  generalize va_A [(h0, .inr (2, [.null, .int 0, .int 0, .int 0]))] s.heap.size = A at hD hA hS hret ⊢
  have hP : va_P D vwCl [(h0, .inr (2, [.null, .int 0, .int 0, .int 0]))] s.heap := hP
  have hl : lv_has ls 1 [(0, .ref h0)] := hl
  refine lv_aload_n hx hb dX2_init_0 rfl (lv_at hl 0 rfl) ?_
  refine W.objInit hx hb hown (hts _ lm_X2_3) (hts _ li_obj) (hts _ lc_obj) rfl (by rw [hml]; exact hl.1) rfl dX2_init_1 (by decide) (Nat.le_of_ble_eq_true rfl) ?_
  refine W.eq (g2 := F0 m 4 ls []) rfl ?_
  refine lv_aload_n hx hb dX2_init_4 rfl (lv_at hl 0 rfl) ?_
  refine lv_iconst (v := 0) hx hb dX2_init_5 (by decide) ?_
  refine na_I C hK.1 hP hD hS hA 0 (by decide) (by decide) (by decide) (by decide) (by decide) dX2_init_6 (fun q1 H hP hD hS => ?_)
  have hP : va_P D vwCl [(h0, .inr (2, [.null, .int 0, .int 0, .int 0])), (q1, .inl (cA 0, 0, .inl (fun _ => 0)))] H := hP
  have hD : va_D A [(h0, .inr (2, [.null, .int 0, .int 0, .int 0])), (q1, .inl (cA 0, 0, .inl (fun _ => 0)))] := hD
  refine va_put (D := D) (ci := 2) (v := .ref q1) (ty := .array .int) (C := RX2) (T := TX2) (N := 4) hx hb hts ginX2 tyX2 tyX2_ok nmX2 hown hK.1.1 hP hD hS 0 rfl rfl 0 (by decide) (hts _ lf_X2_9) (fun _ h9 => h9) rfl (by decide +kernel) rfl rfl (Nat.le_of_ble_eq_true rfl) dX2_init_8 (fun H locs hP hD hS => ?_)
  have hP : va_P D vwCl [(h0, .inr (2, [.ref q1, .int 0, .int 0, .int 0])), (q1, .inl (cA 0, 0, .inl (fun _ => 0)))] H := hP
  have hD : va_D A [(h0, .inr (2, [.ref q1, .int 0, .int 0, .int 0])), (q1, .inl (cA 0, 0, .inl (fun _ => 0)))] := hD
  exact hret (fun k => [q1].getD k 0) H _ ls 11 ⟨hP, hD⟩ hS dX2_init_11
def w_X3_init0 (h0 : Nat) (cA : Nat → ClassId) (u : Nat → Nat) : va_W := [(h0, .inr (3, [.ref (u 0), .ref (u 1)])), ((u 0), .inl (cA 4, 6, oq (fun i => some ((u 0) + 1 + i)))), ((u 0) + 1 + 0, .inl (cA 0, 40, .inl (fun _ => 0))), ((u 0) + 1 + 1, .inl (cA 0, 40, .inl (fun _ => 0))), ((u 0) + 1 + 2, .inl (cA 0, 40, .inl (fun _ => 0))), ((u 0) + 1 + 3, .inl (cA 0, 40, .inl (fun _ => 0))), ((u 0) + 1 + 4, .inl (cA 0, 40, .inl (fun _ => 0))), ((u 0) + 1 + 5, .inl (cA 0, 40, .inl (fun _ => 0))), ((u 1), .inl (cA 0, 6, .inl (fun _ => (-1))))]
abbrev rm_X3_init0 : Room := { frames := 1, cells := 8, slots := 252, locals := 23 }
set_option maxHeartbeats 4000000 in
set_option maxRecDepth 100000 in
theorem c_X3_init0 (l : Launch) (D : va_G) (cA : Nat → ClassId) (h0 sz : Nat) : Met l yX3_init (wsU yX3_init cX3_init 3 none) rm_X3_init0 (va_Pc [.ref h0, .int 6, .int 40] (pM D cA [(h0, .inr (3, [.null, .null]))] sz)) (va_Qv (fun _ : Nat → Nat => True) (fun u t => va_P D vwCl (w_X3_init0 h0 cA u) t.heap ∧ va_D (va_A [(h0, .inr (3, [.null, .null]))] sz) (w_X3_init0 h0 cA u)) (va_A [(h0, .inr (3, [.null, .null]))] sz)) 8 252 (va_A [(h0, .inr (3, [.null, .null]))] sz) := by
  refine mk_c (S := Nat → Nat) (B := fun A u H => va_P D vwCl (w_X3_init0 h0 cA u) H ∧ va_D A (w_X3_init0 h0 cA u)) (by decide) (Nat.le_of_ble_eq_true rfl) (fun p e s m below meth c Z ls C hin hK hP hD hA hS hret hl => ?_)
  obtain ⟨hx, hb, hml, hown, hts⟩ := id C
  generalize va_A [(h0, .inr (3, [.null, .null]))] s.heap.size = A at hD hA hS hret ⊢
  have hP : va_P D vwCl [(h0, .inr (3, [.null, .null]))] s.heap := hP
  have hl : lv_has ls 3 [(0, .ref h0), (1, .int 6), (2, .int 40)] := hl
  refine lv_aload_n hx hb dX3_init_0 rfl (lv_at hl 0 rfl) ?_
  refine W.objInit hx hb hown (hts _ lm_X3_3) (hts _ li_obj) (hts _ lc_obj) rfl (by rw [hml]; exact hl.1) rfl dX3_init_1 (by decide) (Nat.le_of_ble_eq_true rfl) ?_
  refine W.eq (g2 := F0 m 4 ls []) rfl ?_
  refine lv_aload_n hx hb dX3_init_4 rfl (lv_at hl 0 rfl) ?_
  refine lv_iload_n hx hb dX3_init_5 rfl (lv_at hl 1 rfl) ?_
  refine lv_iload_n hx hb dX3_init_6 rfl (lv_at hl 2 rfl) ?_
  refine mn_I C hK hP hD hS hA 6 40 lcl_X3_9 (by decide) (by decide) (by decide) (by decide) (by decide) (by decide) (by decide) (by decide) dX3_init_7 (fun q1 H hP hD hS => ?_)
  have hP : va_P D vwCl [(h0, .inr (3, [.null, .null])), (q1, .inl (cA 4, 6, oq (fun i => some (q1 + 1 + i)))), (q1 + 1 + 0, .inl (cA 0, 40, .inl (fun _ => 0))), (q1 + 1 + 1, .inl (cA 0, 40, .inl (fun _ => 0))), (q1 + 1 + 2, .inl (cA 0, 40, .inl (fun _ => 0))), (q1 + 1 + 3, .inl (cA 0, 40, .inl (fun _ => 0))), (q1 + 1 + 4, .inl (cA 0, 40, .inl (fun _ => 0))), (q1 + 1 + 5, .inl (cA 0, 40, .inl (fun _ => 0)))] H := hP
  have hD : va_D A [(h0, .inr (3, [.null, .null])), (q1, .inl (cA 4, 6, oq (fun i => some (q1 + 1 + i)))), (q1 + 1 + 0, .inl (cA 0, 40, .inl (fun _ => 0))), (q1 + 1 + 1, .inl (cA 0, 40, .inl (fun _ => 0))), (q1 + 1 + 2, .inl (cA 0, 40, .inl (fun _ => 0))), (q1 + 1 + 3, .inl (cA 0, 40, .inl (fun _ => 0))), (q1 + 1 + 4, .inl (cA 0, 40, .inl (fun _ => 0))), (q1 + 1 + 5, .inl (cA 0, 40, .inl (fun _ => 0)))] := hD
  refine va_putF (D := D) (ci := 3) (v := .ref q1) (ty := .array (.array .int)) (C := RX3) (T := TX3) (N := 2) hx hb hts ginX3 tyX3 tyX3_ok nmX3 hown hK.1.1 hP hD hS 0 rfl rfl 0 (by decide) (hts _ lf_X3_11) (fun _ h9 => h9) rfl hin rfl (by decide +kernel) rfl rfl (Nat.le_of_ble_eq_true rfl) dX3_init_11 (fun H locs hP hD hS => ?_)
  have hP : va_P D vwCl [(h0, .inr (3, [.ref q1, .null])), (q1, .inl (cA 4, 6, oq (fun i => some (q1 + 1 + i)))), (q1 + 1 + 0, .inl (cA 0, 40, .inl (fun _ => 0))), (q1 + 1 + 1, .inl (cA 0, 40, .inl (fun _ => 0))), (q1 + 1 + 2, .inl (cA 0, 40, .inl (fun _ => 0))), (q1 + 1 + 3, .inl (cA 0, 40, .inl (fun _ => 0))), (q1 + 1 + 4, .inl (cA 0, 40, .inl (fun _ => 0))), (q1 + 1 + 5, .inl (cA 0, 40, .inl (fun _ => 0)))] H := hP
  have hD : va_D A [(h0, .inr (3, [.ref q1, .null])), (q1, .inl (cA 4, 6, oq (fun i => some (q1 + 1 + i)))), (q1 + 1 + 0, .inl (cA 0, 40, .inl (fun _ => 0))), (q1 + 1 + 1, .inl (cA 0, 40, .inl (fun _ => 0))), (q1 + 1 + 2, .inl (cA 0, 40, .inl (fun _ => 0))), (q1 + 1 + 3, .inl (cA 0, 40, .inl (fun _ => 0))), (q1 + 1 + 4, .inl (cA 0, 40, .inl (fun _ => 0))), (q1 + 1 + 5, .inl (cA 0, 40, .inl (fun _ => 0)))] := hD
  refine lv_aload_n hx hb dX3_init_14 rfl (lv_at hl 0 rfl) ?_
  refine lv_iload_n hx hb dX3_init_15 rfl (lv_at hl 1 rfl) ?_
  refine na_I C hK.1 hP hD hS hA 6 (by decide) (by decide) (by decide) (by decide) (by decide) dX3_init_16 (fun q2 H hP hD hS => ?_)
  have hP : va_P D vwCl [(h0, .inr (3, [.ref q1, .null])), (q1, .inl (cA 4, 6, oq (fun i => some (q1 + 1 + i)))), (q1 + 1 + 0, .inl (cA 0, 40, .inl (fun _ => 0))), (q1 + 1 + 1, .inl (cA 0, 40, .inl (fun _ => 0))), (q1 + 1 + 2, .inl (cA 0, 40, .inl (fun _ => 0))), (q1 + 1 + 3, .inl (cA 0, 40, .inl (fun _ => 0))), (q1 + 1 + 4, .inl (cA 0, 40, .inl (fun _ => 0))), (q1 + 1 + 5, .inl (cA 0, 40, .inl (fun _ => 0))), (q2, .inl (cA 0, 6, .inl (fun _ => 0)))] H := hP
  have hD : va_D A [(h0, .inr (3, [.ref q1, .null])), (q1, .inl (cA 4, 6, oq (fun i => some (q1 + 1 + i)))), (q1 + 1 + 0, .inl (cA 0, 40, .inl (fun _ => 0))), (q1 + 1 + 1, .inl (cA 0, 40, .inl (fun _ => 0))), (q1 + 1 + 2, .inl (cA 0, 40, .inl (fun _ => 0))), (q1 + 1 + 3, .inl (cA 0, 40, .inl (fun _ => 0))), (q1 + 1 + 4, .inl (cA 0, 40, .inl (fun _ => 0))), (q1 + 1 + 5, .inl (cA 0, 40, .inl (fun _ => 0))), (q2, .inl (cA 0, 6, .inl (fun _ => 0)))] := hD
  refine va_putF (D := D) (ci := 3) (v := .ref q2) (ty := .array .int) (C := RX3) (T := TX3) (N := 2) hx hb hts ginX3 tyX3 tyX3_ok nmX3 hown hK.1.1 hP hD hS 0 rfl rfl 1 (by decide) (hts _ lf_X3_16) (fun _ h9 => h9) rfl hin rfl (by decide +kernel) rfl rfl (Nat.le_of_ble_eq_true rfl) dX3_init_18 (fun H locs hP hD hS => ?_)
  have hP : va_P D vwCl [(h0, .inr (3, [.ref q1, .ref q2])), (q1, .inl (cA 4, 6, oq (fun i => some (q1 + 1 + i)))), (q1 + 1 + 0, .inl (cA 0, 40, .inl (fun _ => 0))), (q1 + 1 + 1, .inl (cA 0, 40, .inl (fun _ => 0))), (q1 + 1 + 2, .inl (cA 0, 40, .inl (fun _ => 0))), (q1 + 1 + 3, .inl (cA 0, 40, .inl (fun _ => 0))), (q1 + 1 + 4, .inl (cA 0, 40, .inl (fun _ => 0))), (q1 + 1 + 5, .inl (cA 0, 40, .inl (fun _ => 0))), (q2, .inl (cA 0, 6, .inl (fun _ => 0)))] H := hP
  have hD : va_D A [(h0, .inr (3, [.ref q1, .ref q2])), (q1, .inl (cA 4, 6, oq (fun i => some (q1 + 1 + i)))), (q1 + 1 + 0, .inl (cA 0, 40, .inl (fun _ => 0))), (q1 + 1 + 1, .inl (cA 0, 40, .inl (fun _ => 0))), (q1 + 1 + 2, .inl (cA 0, 40, .inl (fun _ => 0))), (q1 + 1 + 3, .inl (cA 0, 40, .inl (fun _ => 0))), (q1 + 1 + 4, .inl (cA 0, 40, .inl (fun _ => 0))), (q1 + 1 + 5, .inl (cA 0, 40, .inl (fun _ => 0))), (q2, .inl (cA 0, 6, .inl (fun _ => 0)))] := hD
  refine lv_aload_n hx hb dX3_init_21 rfl (lv_at hl 0 rfl) ?_
  refine va_get (D := D) (ci := 3) (v := .ref q2) (C := RX3) (T := TX3) (N := 2) hx hb hts ginX3 hown hK.1.1 hP 0 rfl rfl 1 (by decide) (hts _ lf_X3_16) (fun _ h9 => h9) rfl dX3_init_22 ?_
  refine lv_iconst (v := (-1)) hx hb dX3_init_25 (by decide) ?_
  refine cl_fill (N := 6) (ws := [(h0, .inr (3, [.ref q1, .ref q2])), (q1, .inl (cA 4, 6, oq (fun i => some (q1 + 1 + i)))), (q1 + 1 + 0, .inl (cA 0, 40, .inl (fun _ => 0))), (q1 + 1 + 1, .inl (cA 0, 40, .inl (fun _ => 0))), (q1 + 1 + 2, .inl (cA 0, 40, .inl (fun _ => 0))), (q1 + 1 + 3, .inl (cA 0, 40, .inl (fun _ => 0))), (q1 + 1 + 4, .inl (cA 0, 40, .inl (fun _ => 0))), (q1 + 1 + 5, .inl (cA 0, 40, .inl (fun _ => 0)))]) (by decide) C hK hP hD hS hA (lwG_S lm_X3_20 ls_J7_fill_53178 lz_RJ7 lc_J7_fill_53178) (Nat.le_of_ble_eq_true rfl) ⟨by decide, by decide⟩ dX3_init_26 hl.1 ⟨by decide, by decide⟩ (fun g3 H locs hgg3 hP hD hS => ?_)
  have hP : va_P D vwCl [(h0, .inr (3, [.ref q1, .ref q2])), (q1, .inl (cA 4, 6, oq (fun i => some (q1 + 1 + i)))), (q1 + 1 + 0, .inl (cA 0, 40, .inl (fun _ => 0))), (q1 + 1 + 1, .inl (cA 0, 40, .inl (fun _ => 0))), (q1 + 1 + 2, .inl (cA 0, 40, .inl (fun _ => 0))), (q1 + 1 + 3, .inl (cA 0, 40, .inl (fun _ => 0))), (q1 + 1 + 4, .inl (cA 0, 40, .inl (fun _ => 0))), (q1 + 1 + 5, .inl (cA 0, 40, .inl (fun _ => 0))), (q2, .inl (cA 0, 6, .inl g3))] H := hP
  have hD : va_D A [(h0, .inr (3, [.ref q1, .ref q2])), (q1, .inl (cA 4, 6, oq (fun i => some (q1 + 1 + i)))), (q1 + 1 + 0, .inl (cA 0, 40, .inl (fun _ => 0))), (q1 + 1 + 1, .inl (cA 0, 40, .inl (fun _ => 0))), (q1 + 1 + 2, .inl (cA 0, 40, .inl (fun _ => 0))), (q1 + 1 + 3, .inl (cA 0, 40, .inl (fun _ => 0))), (q1 + 1 + 4, .inl (cA 0, 40, .inl (fun _ => 0))), (q1 + 1 + 5, .inl (cA 0, 40, .inl (fun _ => 0))), (q2, .inl (cA 0, 6, .inl g3))] := hD
  have hP := va_celli hP 8 (fun _ => (-1)) rfl hgg3
  have hD := hD.set (p := 8) (e := .inl (cA 0, 6, .inl (fun _ => (-1)))) rfl
  have hP : va_P D vwCl [(h0, .inr (3, [.ref q1, .ref q2])), (q1, .inl (cA 4, 6, oq (fun i => some (q1 + 1 + i)))), (q1 + 1 + 0, .inl (cA 0, 40, .inl (fun _ => 0))), (q1 + 1 + 1, .inl (cA 0, 40, .inl (fun _ => 0))), (q1 + 1 + 2, .inl (cA 0, 40, .inl (fun _ => 0))), (q1 + 1 + 3, .inl (cA 0, 40, .inl (fun _ => 0))), (q1 + 1 + 4, .inl (cA 0, 40, .inl (fun _ => 0))), (q1 + 1 + 5, .inl (cA 0, 40, .inl (fun _ => 0))), (q2, .inl (cA 0, 6, .inl (fun _ => (-1))))] H := hP
  have hD : va_D A [(h0, .inr (3, [.ref q1, .ref q2])), (q1, .inl (cA 4, 6, oq (fun i => some (q1 + 1 + i)))), (q1 + 1 + 0, .inl (cA 0, 40, .inl (fun _ => 0))), (q1 + 1 + 1, .inl (cA 0, 40, .inl (fun _ => 0))), (q1 + 1 + 2, .inl (cA 0, 40, .inl (fun _ => 0))), (q1 + 1 + 3, .inl (cA 0, 40, .inl (fun _ => 0))), (q1 + 1 + 4, .inl (cA 0, 40, .inl (fun _ => 0))), (q1 + 1 + 5, .inl (cA 0, 40, .inl (fun _ => 0))), (q2, .inl (cA 0, 6, .inl (fun _ => (-1))))] := hD
  exact hret (fun k => [q1, q2].getD k 0) H _ ls 29 ⟨hP, hD⟩ hS dX3_init_29
def w_X3_init1 (h0 : Nat) (cA : Nat → ClassId) (u : Nat → Nat) : va_W := [(h0, .inr (3, [.ref (u 0), .ref (u 1)])), ((u 0), .inl (cA 4, 4, oq (fun i => some ((u 0) + 1 + i)))), ((u 0) + 1 + 0, .inl (cA 0, 60, .inl (fun _ => 0))), ((u 0) + 1 + 1, .inl (cA 0, 60, .inl (fun _ => 0))), ((u 0) + 1 + 2, .inl (cA 0, 60, .inl (fun _ => 0))), ((u 0) + 1 + 3, .inl (cA 0, 60, .inl (fun _ => 0))), ((u 1), .inl (cA 0, 4, .inl (fun _ => (-1))))]
abbrev rm_X3_init1 : Room := { frames := 1, cells := 6, slots := 248, locals := 23 }
set_option maxHeartbeats 4000000 in
set_option maxRecDepth 100000 in
theorem c_X3_init1 (l : Launch) (D : va_G) (cA : Nat → ClassId) (h0 sz : Nat) : Met l yX3_init (wsU yX3_init cX3_init 3 none) rm_X3_init1 (va_Pc [.ref h0, .int 4, .int 60] (pM D cA [(h0, .inr (3, [.null, .null]))] sz)) (va_Qv (fun _ : Nat → Nat => True) (fun u t => va_P D vwCl (w_X3_init1 h0 cA u) t.heap ∧ va_D (va_A [(h0, .inr (3, [.null, .null]))] sz) (w_X3_init1 h0 cA u)) (va_A [(h0, .inr (3, [.null, .null]))] sz)) 6 248 (va_A [(h0, .inr (3, [.null, .null]))] sz) := by
  refine mk_c (S := Nat → Nat) (B := fun A u H => va_P D vwCl (w_X3_init1 h0 cA u) H ∧ va_D A (w_X3_init1 h0 cA u)) (by decide) (Nat.le_of_ble_eq_true rfl) (fun p e s m below meth c Z ls C hin hK hP hD hA hS hret hl => ?_)
  obtain ⟨hx, hb, hml, hown, hts⟩ := id C
  generalize va_A [(h0, .inr (3, [.null, .null]))] s.heap.size = A at hD hA hS hret ⊢
  have hP : va_P D vwCl [(h0, .inr (3, [.null, .null]))] s.heap := hP
  have hl : lv_has ls 3 [(0, .ref h0), (1, .int 4), (2, .int 60)] := hl
  refine lv_aload_n hx hb dX3_init_0 rfl (lv_at hl 0 rfl) ?_
  refine W.objInit hx hb hown (hts _ lm_X3_3) (hts _ li_obj) (hts _ lc_obj) rfl (by rw [hml]; exact hl.1) rfl dX3_init_1 (by decide) (Nat.le_of_ble_eq_true rfl) ?_
  refine W.eq (g2 := F0 m 4 ls []) rfl ?_
  refine lv_aload_n hx hb dX3_init_4 rfl (lv_at hl 0 rfl) ?_
  refine lv_iload_n hx hb dX3_init_5 rfl (lv_at hl 1 rfl) ?_
  refine lv_iload_n hx hb dX3_init_6 rfl (lv_at hl 2 rfl) ?_
  refine mn_I C hK hP hD hS hA 4 60 lcl_X3_9 (by decide) (by decide) (by decide) (by decide) (by decide) (by decide) (by decide) (by decide) dX3_init_7 (fun q1 H hP hD hS => ?_)
  have hP : va_P D vwCl [(h0, .inr (3, [.null, .null])), (q1, .inl (cA 4, 4, oq (fun i => some (q1 + 1 + i)))), (q1 + 1 + 0, .inl (cA 0, 60, .inl (fun _ => 0))), (q1 + 1 + 1, .inl (cA 0, 60, .inl (fun _ => 0))), (q1 + 1 + 2, .inl (cA 0, 60, .inl (fun _ => 0))), (q1 + 1 + 3, .inl (cA 0, 60, .inl (fun _ => 0)))] H := hP
  have hD : va_D A [(h0, .inr (3, [.null, .null])), (q1, .inl (cA 4, 4, oq (fun i => some (q1 + 1 + i)))), (q1 + 1 + 0, .inl (cA 0, 60, .inl (fun _ => 0))), (q1 + 1 + 1, .inl (cA 0, 60, .inl (fun _ => 0))), (q1 + 1 + 2, .inl (cA 0, 60, .inl (fun _ => 0))), (q1 + 1 + 3, .inl (cA 0, 60, .inl (fun _ => 0)))] := hD
  refine va_putF (D := D) (ci := 3) (v := .ref q1) (ty := .array (.array .int)) (C := RX3) (T := TX3) (N := 2) hx hb hts ginX3 tyX3 tyX3_ok nmX3 hown hK.1.1 hP hD hS 0 rfl rfl 0 (by decide) (hts _ lf_X3_11) (fun _ h9 => h9) rfl hin rfl (by decide +kernel) rfl rfl (Nat.le_of_ble_eq_true rfl) dX3_init_11 (fun H locs hP hD hS => ?_)
  have hP : va_P D vwCl [(h0, .inr (3, [.ref q1, .null])), (q1, .inl (cA 4, 4, oq (fun i => some (q1 + 1 + i)))), (q1 + 1 + 0, .inl (cA 0, 60, .inl (fun _ => 0))), (q1 + 1 + 1, .inl (cA 0, 60, .inl (fun _ => 0))), (q1 + 1 + 2, .inl (cA 0, 60, .inl (fun _ => 0))), (q1 + 1 + 3, .inl (cA 0, 60, .inl (fun _ => 0)))] H := hP
  have hD : va_D A [(h0, .inr (3, [.ref q1, .null])), (q1, .inl (cA 4, 4, oq (fun i => some (q1 + 1 + i)))), (q1 + 1 + 0, .inl (cA 0, 60, .inl (fun _ => 0))), (q1 + 1 + 1, .inl (cA 0, 60, .inl (fun _ => 0))), (q1 + 1 + 2, .inl (cA 0, 60, .inl (fun _ => 0))), (q1 + 1 + 3, .inl (cA 0, 60, .inl (fun _ => 0)))] := hD
  refine lv_aload_n hx hb dX3_init_14 rfl (lv_at hl 0 rfl) ?_
  refine lv_iload_n hx hb dX3_init_15 rfl (lv_at hl 1 rfl) ?_
  refine na_I C hK.1 hP hD hS hA 4 (by decide) (by decide) (by decide) (by decide) (by decide) dX3_init_16 (fun q2 H hP hD hS => ?_)
  have hP : va_P D vwCl [(h0, .inr (3, [.ref q1, .null])), (q1, .inl (cA 4, 4, oq (fun i => some (q1 + 1 + i)))), (q1 + 1 + 0, .inl (cA 0, 60, .inl (fun _ => 0))), (q1 + 1 + 1, .inl (cA 0, 60, .inl (fun _ => 0))), (q1 + 1 + 2, .inl (cA 0, 60, .inl (fun _ => 0))), (q1 + 1 + 3, .inl (cA 0, 60, .inl (fun _ => 0))), (q2, .inl (cA 0, 4, .inl (fun _ => 0)))] H := hP
  have hD : va_D A [(h0, .inr (3, [.ref q1, .null])), (q1, .inl (cA 4, 4, oq (fun i => some (q1 + 1 + i)))), (q1 + 1 + 0, .inl (cA 0, 60, .inl (fun _ => 0))), (q1 + 1 + 1, .inl (cA 0, 60, .inl (fun _ => 0))), (q1 + 1 + 2, .inl (cA 0, 60, .inl (fun _ => 0))), (q1 + 1 + 3, .inl (cA 0, 60, .inl (fun _ => 0))), (q2, .inl (cA 0, 4, .inl (fun _ => 0)))] := hD
  refine va_putF (D := D) (ci := 3) (v := .ref q2) (ty := .array .int) (C := RX3) (T := TX3) (N := 2) hx hb hts ginX3 tyX3 tyX3_ok nmX3 hown hK.1.1 hP hD hS 0 rfl rfl 1 (by decide) (hts _ lf_X3_16) (fun _ h9 => h9) rfl hin rfl (by decide +kernel) rfl rfl (Nat.le_of_ble_eq_true rfl) dX3_init_18 (fun H locs hP hD hS => ?_)
  have hP : va_P D vwCl [(h0, .inr (3, [.ref q1, .ref q2])), (q1, .inl (cA 4, 4, oq (fun i => some (q1 + 1 + i)))), (q1 + 1 + 0, .inl (cA 0, 60, .inl (fun _ => 0))), (q1 + 1 + 1, .inl (cA 0, 60, .inl (fun _ => 0))), (q1 + 1 + 2, .inl (cA 0, 60, .inl (fun _ => 0))), (q1 + 1 + 3, .inl (cA 0, 60, .inl (fun _ => 0))), (q2, .inl (cA 0, 4, .inl (fun _ => 0)))] H := hP
  have hD : va_D A [(h0, .inr (3, [.ref q1, .ref q2])), (q1, .inl (cA 4, 4, oq (fun i => some (q1 + 1 + i)))), (q1 + 1 + 0, .inl (cA 0, 60, .inl (fun _ => 0))), (q1 + 1 + 1, .inl (cA 0, 60, .inl (fun _ => 0))), (q1 + 1 + 2, .inl (cA 0, 60, .inl (fun _ => 0))), (q1 + 1 + 3, .inl (cA 0, 60, .inl (fun _ => 0))), (q2, .inl (cA 0, 4, .inl (fun _ => 0)))] := hD
  refine lv_aload_n hx hb dX3_init_21 rfl (lv_at hl 0 rfl) ?_
  refine va_get (D := D) (ci := 3) (v := .ref q2) (C := RX3) (T := TX3) (N := 2) hx hb hts ginX3 hown hK.1.1 hP 0 rfl rfl 1 (by decide) (hts _ lf_X3_16) (fun _ h9 => h9) rfl dX3_init_22 ?_
  refine lv_iconst (v := (-1)) hx hb dX3_init_25 (by decide) ?_
  refine cl_fill (N := 4) (ws := [(h0, .inr (3, [.ref q1, .ref q2])), (q1, .inl (cA 4, 4, oq (fun i => some (q1 + 1 + i)))), (q1 + 1 + 0, .inl (cA 0, 60, .inl (fun _ => 0))), (q1 + 1 + 1, .inl (cA 0, 60, .inl (fun _ => 0))), (q1 + 1 + 2, .inl (cA 0, 60, .inl (fun _ => 0))), (q1 + 1 + 3, .inl (cA 0, 60, .inl (fun _ => 0)))]) (by decide) C hK hP hD hS hA (lwG_S lm_X3_20 ls_J7_fill_53178 lz_RJ7 lc_J7_fill_53178) (Nat.le_of_ble_eq_true rfl) ⟨by decide, by decide⟩ dX3_init_26 hl.1 ⟨by decide, by decide⟩ (fun g3 H locs hgg3 hP hD hS => ?_)
  have hP : va_P D vwCl [(h0, .inr (3, [.ref q1, .ref q2])), (q1, .inl (cA 4, 4, oq (fun i => some (q1 + 1 + i)))), (q1 + 1 + 0, .inl (cA 0, 60, .inl (fun _ => 0))), (q1 + 1 + 1, .inl (cA 0, 60, .inl (fun _ => 0))), (q1 + 1 + 2, .inl (cA 0, 60, .inl (fun _ => 0))), (q1 + 1 + 3, .inl (cA 0, 60, .inl (fun _ => 0))), (q2, .inl (cA 0, 4, .inl g3))] H := hP
  have hD : va_D A [(h0, .inr (3, [.ref q1, .ref q2])), (q1, .inl (cA 4, 4, oq (fun i => some (q1 + 1 + i)))), (q1 + 1 + 0, .inl (cA 0, 60, .inl (fun _ => 0))), (q1 + 1 + 1, .inl (cA 0, 60, .inl (fun _ => 0))), (q1 + 1 + 2, .inl (cA 0, 60, .inl (fun _ => 0))), (q1 + 1 + 3, .inl (cA 0, 60, .inl (fun _ => 0))), (q2, .inl (cA 0, 4, .inl g3))] := hD
  have hP := va_celli hP 6 (fun _ => (-1)) rfl hgg3
  have hD := hD.set (p := 6) (e := .inl (cA 0, 4, .inl (fun _ => (-1)))) rfl
  have hP : va_P D vwCl [(h0, .inr (3, [.ref q1, .ref q2])), (q1, .inl (cA 4, 4, oq (fun i => some (q1 + 1 + i)))), (q1 + 1 + 0, .inl (cA 0, 60, .inl (fun _ => 0))), (q1 + 1 + 1, .inl (cA 0, 60, .inl (fun _ => 0))), (q1 + 1 + 2, .inl (cA 0, 60, .inl (fun _ => 0))), (q1 + 1 + 3, .inl (cA 0, 60, .inl (fun _ => 0))), (q2, .inl (cA 0, 4, .inl (fun _ => (-1))))] H := hP
  have hD : va_D A [(h0, .inr (3, [.ref q1, .ref q2])), (q1, .inl (cA 4, 4, oq (fun i => some (q1 + 1 + i)))), (q1 + 1 + 0, .inl (cA 0, 60, .inl (fun _ => 0))), (q1 + 1 + 1, .inl (cA 0, 60, .inl (fun _ => 0))), (q1 + 1 + 2, .inl (cA 0, 60, .inl (fun _ => 0))), (q1 + 1 + 3, .inl (cA 0, 60, .inl (fun _ => 0))), (q2, .inl (cA 0, 4, .inl (fun _ => (-1))))] := hD
  exact hret (fun k => [q1, q2].getD k 0) H _ ls 29 ⟨hP, hD⟩ hS dX3_init_29
